/-! STAGE 4: stay, load, errorPosition, thrown -/
def STEPD (K J : Nat → Nat) (sh : HS) (AD : Int → Nat) (I : HI) (R : HR) (q1 q2 : Nat) (as : List Value) (hs : List (String × Int)) : Prop := ∃ (o : UInt64 ⊕ String) (v : UInt64) (I1 I2 : HI) (R1 : HR), RES K J q1 (.ref (AD 0) :: as) sh I R (voD o) I1 R1 ∧ RES K J q2 (.ref (AD 316) :: as) sh I1 R1 (.inl (some (.double v))) I2 R1 ∧ AGR hs o v (I2 (AD 316) 5) ∧ SINV sh AD I2 R1
def STEPN (K J : Nat → Nat) (sh : HS) (AD : Int → Nat) (I : HI) (R : HR) (q1 q2 : Nat) : Prop := ∃ (v : Int32) (I1 I2 : HI) (R1 : HR), RES K J q1 [.ref (AD 0)] sh I R (.inl (some (.int v))) I1 R1 ∧ RES K J q2 [.ref (AD 316)] sh I1 R1 (.inl (some (.int v))) I2 R1 ∧ SINV sh AD I2 R1
section Q95
variable {K J : Nat → Nat} {sh : HS} {I : HI} {R R' : HR} {AD : Int → Nat} {σ : STT}
theorem RIB.mr (H : RIB I R AD σ) (e : ∀ k, R' (AD 316) k = R (AD 316) k) : RIB I R' AD σ := by
  obtain ⟨c1, c2⟩ := H
  refine ⟨?_, c2⟩
  unfold MR at c1 ⊢
  simp only [e]
  exact c1
theorem sx_load (h : SINV sh AD I R) : STEPN K J sh AD I R 80 172 := by
  obtain ⟨σ, P, S, V, C, Kn, Rb⟩ := h
  obtain ⟨I1, R1, f1, C1, K1, F1, RF⟩ := cx_load (fu := 5000) S V (Nat.le_refl 5000) C Kn
  have Rb1 : RIB I1 R1 AD σ := (gl_r Rb F1).mr (RF 316 (by decide) (by decide) (by decide))
  obtain ⟨I2, f2, t2, Rb2, F2⟩ := (ra_load (fu := 5000) S V (Nat.le_refl 5000) : RA AD R1 σ _ _ _) I1 Rb1
  exact ⟨_, I1, I2, R1, vX10_load (fu := 5000) ⟨rfl, rfl, rfl, rfl⟩ f1, vX11_load (fu := 5000) ⟨rfl, rfl, rfl, rfl⟩ f2, gl_i S V.load C1 K1 Rb2 F2⟩
theorem sx_errorPosition (h : SINV sh AD I R) : STEPN K J sh AD I R 81 173 := by
  obtain ⟨σ, P, S, V, C, Kn, Rb⟩ := h
  have f1 := c_errorPos (fu := 5000) S C
  obtain ⟨I2, f2, t2, Rb2, F2⟩ := (rq_errorPos (fu := 5000) S : RQ sh AD R σ _ _) I Rb
  exact ⟨_, I, I2, R, vX10_errorPosition (fu := 5000) ⟨rfl, rfl, rfl, rfl⟩ f1, vX11_errorPosition (fu := 5000) ⟨rfl, rfl, rfl, rfl⟩ f2, gl_i S V C Kn Rb2 F2⟩
theorem agrD_of {a : UInt64 ⊕ Nat} (h : AX 2 a) : AGR hs2 (dcOut a) (drVal a) (drThr a) := by
  cases a with
  | inl v => exact ⟨rfl, rfl⟩
  | inr e =>
    obtain ⟨h1, h2⟩ := h
    have : e = 1 ∨ e = 2 := by omega
    rcases this with rfl | rfl
    · refine ⟨⟨1, by decide⟩, fun z hz => ?_, by decide⟩
      have hz : (exN 1, z) ∈ hs2 := hz
      simp [hs2, exN] at hz
      rw [hz]; rfl
    · refine ⟨⟨2, by decide⟩, fun z hz => ?_, by decide⟩
      have hz : (exN 2, z) ∈ hs2 := hz
      simp [hs2, exN] at hz
      rw [hz]; rfl
theorem sx_stay (h : SINV sh AD I R) (b0 : Int32) : STEPD K J sh AD I R 120 268 [.int b0] hs2 := by
  obtain ⟨σ, P, S, V, C, Kn, Rb⟩ := h
  obtain ⟨I1, f1, C1, K1, F1⟩ := (cq_stay (fu := 5000) S V (Nat.le_refl 5000) (IRt b0) : CQd sh AD R P σ _ _) I C Kn
  have Rb1 := gl_r Rb F1
  obtain ⟨I2, f2, t2, Rb2, F2⟩ := (rq_stay (fu := 5000) S V (Nat.le_refl 5000) (IRt b0) : RQd sh AD R σ _ _) I1 Rb1
  simp only [izt] at f1 f2
  refine ⟨_, _, I1, I2, R, vX10_stay (fu := 5000) ⟨rfl, rfl, rfl, rfl⟩ f1, vX11_stay (fu := 5000) ⟨rfl, rfl, rfl, rfl⟩ f2, ?_, gl_i S V C1 K1 Rb2 F2⟩
  rw [t2]
  refine agrD_of ?_
  unfold aStay
  repeat' split
  all_goals first | exact True.intro | exact ⟨by decide, by decide⟩
theorem sx_thrown (h : SINV sh AD I R) : RES K J 149 [.ref (AD 316)] sh I R (.inl (some (.int (I (AD 316) 5)))) I R := by
  obtain ⟨σ, P, S, V, C, Kn, Rb⟩ := h
  exact vX11_thrown (fu := 5000) (o := I (AD 316) 5) ⟨rfl, rfl, rfl, rfl⟩ (by simp only [fX11_thrown, oI_at S.md, bsome, if_pos (isT_of S.md)])
end Q95
