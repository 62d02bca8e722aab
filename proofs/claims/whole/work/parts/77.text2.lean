/-! STAGE 2: truncate and planByte of the reference -/
section Q13
variable {fu : Nat} {sh : HS} {I I' : HI} {R : HR} {AD : Int → Nat} {P : Int → Int → Int} {σ : STT} {a : Int}
theorem ra_truncate (S : OKS sh AD) (V : VST σ) (ha : IR a) : RA AD R σ (sTrunc σ a) (fun I => fX11_truncate fu sh I R (AD 316) (iz a)) (if 0 ≤ a ∧ a ≤ σ.2.2.2.1 then .inl a else .inr 1) := by
  intro I H
  have tl := V.2.2.2.2.1
  have e7 : I (AD 316) 7 = iz (σ.2.2.2.1 : Int) := H.2.2.1.2.2.1
  unfold sTrunc
  have u5 : ∀ (J : HI) (v : Int32), u2 J (AD 316) 5 v (AD 316) 5 = v := fun J v => by rw [u2_ad S (by decide) (by decide) (by decide) (by decide), if_pos ⟨rfl, rfl⟩]
  have u7 : ∀ (J : HI) (v : Int32), u2 J (AD 316) 7 v (AD 316) 7 = v := fun J v => by rw [u2_ad S (by decide) (by decide) (by decide) (by decide), if_pos ⟨rfl, rfl⟩]
  by_cases z : 0 ≤ a ∧ a ≤ σ.2.2.2.1
  · obtain ⟨H1, e5, f1⟩ := H.w5 S (iz ((0 : Nat) : Int))
    have F2 : FR AD I (u2 (u2 I (AD 316) 5 (iz ((0 : Nat) : Int))) (AD 316) 7 (iz a)) (fun i k => i = 316 ∧ (k = 5 ∨ k = 7)) := FR.u2 S (by decide) (by decide) ⟨rfl, Or.inr rfl⟩ (FR.u2 S (by decide) (by decide) ⟨rfl, Or.inl rfl⟩ (FR.rf AD I _))
    rw [if_pos z, if_pos z]
    refine ⟨u2 (u2 I (AD 316) 5 (iz ((0 : Nat) : Int))) (AD 316) 7 (iz a), ?_, ?_, H.tx (F2.wd (fun i k z => Or.inr z)) (by rw [u7, ← iz_tn z.1]) (fun k hk => (F2 320 (by decide) (by decide) k (by omega)).trans (H.2.2.2.1 k (by omega))), F2.wd (fun i k z => by omega)⟩
    · simp only [fX11_truncate, fX11_truncate_b20, if_pos (isT_of S.md), oI_at S.md, e7, bsome, oP_at S.md, iz_lit, jlit]
      rw [toJ_iz (a := (σ.2.2.2.1 : Int)) (by omega) (by omega), toJ_iz ha.1 ha.2, r_isIn ha.1 ha.2 (by decide) (by decide) (by omega) (by omega), bsome, bdec.mpr z]
      simp only [bz_zero, u5, bsome]
      rw [if_neg (by decide), if_pos (by rw [iz_le (by decide) (by decide) (by decide) (by decide)]; decide), u7]
      rfl
    · rw [u2_ad S (by decide) (by decide) (by decide) (by decide), if_neg (by omega), u5]
      rfl
  · obtain ⟨H1, e5, f1⟩ := r_out (σ := σ) S H 1
    rw [if_neg z, if_neg z]
    refine ⟨_, ?_, e5, H1, f1⟩
    have ef : (decide (0 ≤ a) && decide (a ≤ (σ.2.2.2.1 : Int))) = false := by
      cases q : (decide (0 ≤ a) && decide (a ≤ (σ.2.2.2.1 : Int)))
      · rfl
      · exact absurd (bdec.mp q) z
    simp only [fX11_truncate, fX11_truncate_b20, if_pos (isT_of S.md), oI_at S.md, e7, bsome, oP_at S.md, iz_lit, jlit]
    rw [toJ_iz (a := (σ.2.2.2.1 : Int)) (by omega) (by omega), toJ_iz ha.1 ha.2, r_isIn ha.1 ha.2 (by decide) (by decide) (by omega) (by omega), bsome, ef]
    simp only [bz_zero, u5, bsome]
    rw [if_pos True.intro, if_neg (by rw [iz_le (by decide) (by decide) (by decide) (by decide)]; decide)]
    rfl
theorem rq_planByte (S : OKS sh AD) (V : VST σ) (ha : IR a) : RQ sh AD R σ (fun I => fX11_planByte fu sh I R (AD 316) (iz a)) (aPlanByte σ a) := by
  intro I H
  obtain ⟨a1, a2⟩ := ha
  unfold aPlanByte
  have pl := V.2.2.2.2.2.2.2
  have w := fun g => r_isWrong (fu := fu) (R := R) (σ := σ) S H.2.2.1.2.1 g
  have h10 : fX11_planByte fu sh I R (AD 316) (iz a) = fX11_planByte_b10 fu sh R I (AD 316) (iz a) (bz (decide (0 ≤ a))) (AD 316) := by
    simp only [fX11_planByte, if_pos (isT_of S.md), iz_lit]
    simp (disch := omega) only [iz_lt]
    by_cases z : a < 0
    · rw [if_pos z, decide_eq_false (by omega)]; rfl
    · rw [if_neg z, decide_eq_true (by omega)]; rfl
  by_cases h : σ.1 = true
  · by_cases z : a < 0
    · obtain ⟨H1, e5, f1⟩ := r_out (σ := σ) S H 2
      refine ⟨_, ?_, ?_, H1, f1⟩
      · refine h10.trans ?_
        simp only [fX11_planByte_b10]
        rw [decide_eq_false (show ¬ 0 ≤ a by omega), w, wr2 h rfl]
        simp only [oHs, iz_lit, bz_zero]
        rw [if_neg (by decide), if_pos h, if_pos z]
        rfl
      · rw [e5, if_pos h, if_pos z]
        rfl
    · obtain ⟨H1, e5, f1⟩ := r_out (σ := σ) S H 0
      have lk := fun g => r_lacks (fu := fu) (R := R) (I := u2 I (AD 316) 5 (iz ((0 : Nat) : Int))) S g
      have e28 := H1.2.2.1.2.2.2.2
      by_cases y : a < (σ.2.2.2.2.2.2.1 : Int)
      · obtain ⟨H3, e6, f3⟩ := r_out (σ := σ) S H1 0
        refine ⟨_, ?_, ?_, H3, f1.tr f3⟩
        · refine h10.trans ?_
          simp only [fX11_planByte_b10, fX11_planByte_b32, fX11_planByte_b48]
          rw [decide_eq_true (show 0 ≤ a by omega), w, wr0 h rfl]
          simp only [oHs, iz_lit, bz_zero]
          rw [if_pos (by decide), oI_at S.md, e28, bsome, if_neg (by rw [iz_le (by omega) (by omega) a1 a2]; omega), show (iz 1 : Int32) = bz true from rfl, lk]
          simp only [oHs, bz_zero]
          rw [if_pos (by decide), if_pos True.intro, oR_at S.md H.1.2.2.2.2.2.2.2, bsome, oA_iz (S.at (i := 330) (t := 20) (n := 2400) rfl (by decide) (by decide)) (by omega) (by omega) a2, bsome]
          have q := H3.2.2.2.2.1 a.toNat (by omega)
          rw [if_pos h, if_neg z, if_pos y]
          show some (u2 (u2 I (AD 316) 5 (iz ((0 : Nat) : Int))) (AD 316) 5 (iz ((0 : Nat) : Int)) (AD 330) a.toNat, _) = _
          rw [q]
          rfl
        · rw [e6, if_pos h, if_neg z, if_pos y]
          rfl
      · obtain ⟨H3, e6, f3⟩ := r_out (σ := σ) S H1 3
        refine ⟨_, ?_, ?_, H3, f1.tr f3⟩
        · refine h10.trans ?_
          simp only [fX11_planByte_b10, fX11_planByte_b32, fX11_planByte_b48]
          rw [decide_eq_true (show 0 ≤ a by omega), w, wr0 h rfl]
          simp only [oHs, iz_lit, bz_zero]
          rw [if_pos (by decide), oI_at S.md, e28, bsome, if_pos (by rw [iz_le (by omega) (by omega) a1 a2]; omega), show (iz 0 : Int32) = bz false from rfl, lk]
          simp only [oHs, bz_zero]
          rw [if_neg (by decide), if_neg (by decide), if_pos h, if_neg z, if_neg y]
          rfl
        · rw [e6, if_pos h, if_neg z, if_neg y]
          rfl
  · have hf : σ.1 = false := by simpa using h
    obtain ⟨H1, e5, f1⟩ := r_out (σ := σ) S H 1
    refine ⟨_, ?_, ?_, H1, f1⟩
    · refine h10.trans ?_
      simp only [fX11_planByte_b10]
      rw [w, wr1 hf]
      simp only [oHs, iz_lit, bz_zero]
      rw [if_neg (by decide), if_neg h]
      rfl
    · rw [e5, if_neg h]
      rfl
end Q13
