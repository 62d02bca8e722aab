/-! STAGE 4: the methods one by one (printed by wip/whole/gensem.py) -/
section Q93
variable {K J : Nat → Nat} {sh : HS} {I : HI} {R : HR} {AD : Int → Nat}
theorem sx_eyeline (h : SINV sh AD I R) (b0 : Int32) : STEP K J sh AD I R 102 213 [.int b0] hs2 := by
  obtain ⟨σ, P, S, V, C, Kn, Rb⟩ := h
  have f1 := (cq_eyeline (fu := 5000) S V (Nat.le_refl 5000) (IRt b0) : CP AD R P σ _ _) I C
  obtain ⟨I2, f2, t2, Rb2, F2⟩ := (rq_eyeline (fu := 5000) S V (Nat.le_refl 5000) (IRt b0) : RQ sh AD R σ _ _) I Rb
  simp only [izt] at f1 f2
  refine ⟨_, _, I, I2, R, vX10_eyeline (fu := 5000) ⟨rfl, rfl, rfl, rfl⟩ f1, vX11_eyeline (fu := 5000) ⟨rfl, rfl, rfl, rfl⟩ f2, ?_, gl_i S V C Kn Rb2 F2⟩
  rw [t2]
  refine agr_of (n := 2) (by decide) ?_
  unfold aShot
  repeat' split
  all_goals first | exact True.intro | exact ⟨by decide, by decide⟩
theorem sx_isNear (h : SINV sh AD I R) (b0 b1 : Int32) : STEP K J sh AD I R 103 214 [.int b0, .int b1] hs2 := by
  obtain ⟨σ, P, S, V, C, Kn, Rb⟩ := h
  have f1 := (cq_isNear (fu := 5000) S V (IRt b0) (IRt b1) : CP AD R P σ _ _) I C
  obtain ⟨I2, f2, t2, Rb2, F2⟩ := (rq_isNear (fu := 5000) S V (IRt b0) (IRt b1) : RQ sh AD R σ _ _) I Rb
  simp only [izt] at f1 f2
  refine ⟨_, _, I, I2, R, vX10_isNear (fu := 5000) ⟨rfl, rfl, rfl, rfl⟩ f1, vX11_isNear (fu := 5000) ⟨rfl, rfl, rfl, rfl⟩ f2, ?_, gl_i S V C Kn Rb2 F2⟩
  rw [t2]
  refine agr_of (n := 2) (by decide) ?_
  unfold aNear
  repeat' split
  all_goals first | exact True.intro | exact ⟨by decide, by decide⟩
theorem sx_faults (h : SINV sh AD I R)  : STEP K J sh AD I R 104 222 [] hs1 := by
  obtain ⟨σ, P, S, V, C, Kn, Rb⟩ := h
  have f1 := (cq_faults (fu := 5000) S V (Nat.le_refl 5000) : CP AD R P σ _ _) I C
  obtain ⟨I2, f2, t2, Rb2, F2⟩ := (rq_faults (fu := 5000) S V (Nat.le_refl 5000) : RQ sh AD R σ _ _) I Rb
  simp only [izt] at f1 f2
  refine ⟨_, _, I, I2, R, vX10_faults (fu := 5000) ⟨rfl, rfl, rfl, rfl⟩ f1, vX11_faults (fu := 5000) ⟨rfl, rfl, rfl, rfl⟩ f2, ?_, gl_i S V C Kn Rb2 F2⟩
  rw [t2]
  refine agr_of (n := 1) (by decide) ?_
  unfold aBoard
  repeat' split
  all_goals first | exact True.intro | exact ⟨by decide, by decide⟩
theorem sx_fault (h : SINV sh AD I R) (b0 b1 : Int32) : STEP K J sh AD I R 105 224 [.int b0, .int b1] hs3 := by
  obtain ⟨σ, P, S, V, C, Kn, Rb⟩ := h
  have f1 := (cq_fault (fu := 5000) S V (Nat.le_refl 5000) (IRt b0) (IRt b1) : CP AD R P σ _ _) I C
  obtain ⟨I2, f2, t2, Rb2, F2⟩ := (rq_fault (fu := 5000) S V (Nat.le_refl 5000) (IRt b0) (IRt b1) : RQ sh AD R σ _ _) I Rb
  simp only [izt] at f1 f2
  refine ⟨_, _, I, I2, R, vX10_fault (fu := 5000) ⟨rfl, rfl, rfl, rfl⟩ f1, vX11_fault (fu := 5000) ⟨rfl, rfl, rfl, rfl⟩ f2, ?_, gl_i S V C Kn Rb2 F2⟩
  rw [t2]
  refine agr_of (n := 3) (by decide) ?_
  unfold aFault
  split
  · split
    · cases hq : fiS σ.2.1 b1.toInt (σ.2.1 4).toNat 0 b0.toInt with
      | inl v => exact True.intro
      | inr e =>
        have := fiS_out _ _ _ _ _ _ hq
        subst this
        exact ⟨by decide, by decide⟩
    · exact ⟨by decide, by decide⟩
  · exact ⟨by decide, by decide⟩
theorem sx_faultsOf (h : SINV sh AD I R) (b0 : Int32) : STEP K J sh AD I R 107 225 [.int b0] hs2 := by
  obtain ⟨σ, P, S, V, C, Kn, Rb⟩ := h
  have f1 := (cq_faultsOf (fu := 5000) S V (Nat.le_refl 5000) (IRt b0) : CP AD R P σ _ _) I C
  obtain ⟨I2, f2, t2, Rb2, F2⟩ := (rq_faultsOf (fu := 5000) S V (Nat.le_refl 5000) (IRt b0) : RQ sh AD R σ _ _) I Rb
  simp only [izt] at f1 f2
  refine ⟨_, _, I, I2, R, vX10_faultsOf (fu := 5000) ⟨rfl, rfl, rfl, rfl⟩ f1, vX11_faultsOf (fu := 5000) ⟨rfl, rfl, rfl, rfl⟩ f2, ?_, gl_i S V C Kn Rb2 F2⟩
  rw [t2]
  refine agr_of (n := 2) (by decide) ?_
  unfold aShot
  repeat' split
  all_goals first | exact True.intro | exact ⟨by decide, by decide⟩
theorem sx_faultsWith (h : SINV sh AD I R) (b0 b1 b2 : Int32) : STEP K J sh AD I R 108 227 [.int b0, .int b1, .int b2] hs2 := by
  obtain ⟨σ, P, S, V, C, Kn, Rb⟩ := h
  obtain ⟨I1, f1, C1, K1, F1⟩ := (cq_faultsWith (fu := 5000) S V (Nat.le_refl 5000) (IRt b0) (IRt b1) (IRt b2) : CQ sh AD R P σ _ _) I C Kn
  have Rb1 := gl_r Rb F1
  obtain ⟨I2, f2, t2, Rb2, F2⟩ := (rq_faultsWith (fu := 5000) S V (Nat.le_refl 5000) (IRt b0) (IRt b1) (IRt b2) : RQ sh AD R σ _ _) I1 Rb1
  simp only [izt] at f1 f2
  refine ⟨_, _, I1, I2, R, vX10_faultsWith (fu := 5000) ⟨rfl, rfl, rfl, rfl⟩ f1, vX11_faultsWith (fu := 5000) ⟨rfl, rfl, rfl, rfl⟩ f2, ?_, gl_i S (V) C1 K1 Rb2 F2⟩
  rw [t2]
  refine agr_of (n := 2) (by decide) ?_
  unfold aFwith
  repeat' split
  all_goals first | exact True.intro | exact ⟨by decide, by decide⟩
theorem sx_bestShot (h : SINV sh AD I R) (b0 b1 : Int32) : STEP K J sh AD I R 109 250 [.int b0, .int b1] hs3 := by
  obtain ⟨σ, P, S, V, C, Kn, Rb⟩ := h
  obtain ⟨I1, f1, C1, K1, F1⟩ := (cq_bestShot (fu := 5000) S V (Nat.le_refl 5000) (IRt b0) (IRt b1) : CQ sh AD R P σ _ _) I C Kn
  have Rb1 := gl_r Rb F1
  obtain ⟨I2, f2, t2, Rb2, F2⟩ := (rq_bestShot (fu := 5000) S V (Nat.le_refl 5000) (IRt b0) (IRt b1) : RQ sh AD R σ _ _) I1 Rb1
  simp only [izt] at f1 f2
  refine ⟨_, _, I1, I2, R, vX10_bestShot (fu := 5000) ⟨rfl, rfl, rfl, rfl⟩ f1, vX11_bestShot (fu := 5000) ⟨rfl, rfl, rfl, rfl⟩ f2, ?_, gl_i S (V) C1 K1 Rb2 F2⟩
  rw [t2]
  refine agr_of (n := 3) (by decide) ?_
  unfold aBst
  repeat' split
  all_goals first | exact True.intro | exact ⟨by decide, by decide⟩
theorem sx_setups (h : SINV sh AD I R)  : STEP K J sh AD I R 110 254 [] hs1 := by
  obtain ⟨σ, P, S, V, C, Kn, Rb⟩ := h
  obtain ⟨I1, f1, C1, K1, F1⟩ := (cq_setups (fu := 5000) S V (Nat.le_refl 5000) : CQ sh AD R P σ _ _) I C Kn
  have Rb1 := gl_r Rb F1
  obtain ⟨I2, f2, t2, Rb2, F2⟩ := (rq_setups (fu := 5000) S V (Nat.le_refl 5000) : RQ sh AD R σ _ _) I1 Rb1
  simp only [izt] at f1 f2
  refine ⟨_, _, I1, I2, R, vX10_setups (fu := 5000) ⟨rfl, rfl, rfl, rfl⟩ f1, vX11_setups (fu := 5000) ⟨rfl, rfl, rfl, rfl⟩ f2, ?_, gl_i S (V) C1 K1 Rb2 F2⟩
  rw [t2]
  refine agr_of (n := 1) (by decide) ?_
  unfold aSetups
  repeat' split
  all_goals first | exact True.intro | exact ⟨by decide, by decide⟩
theorem sx_setupOf (h : SINV sh AD I R) (b0 : Int32) : STEP K J sh AD I R 111 255 [.int b0] hs2 := by
  obtain ⟨σ, P, S, V, C, Kn, Rb⟩ := h
  obtain ⟨I1, f1, C1, K1, F1⟩ := (cq_setupOf (fu := 5000) S V (Nat.le_refl 5000) (IRt b0) : CQ sh AD R P σ _ _) I C Kn
  have Rb1 := gl_r Rb F1
  obtain ⟨I2, f2, t2, Rb2, F2⟩ := (rq_setupOf (fu := 5000) S V (Nat.le_refl 5000) (IRt b0) : RQ sh AD R σ _ _) I1 Rb1
  simp only [izt] at f1 f2
  refine ⟨_, _, I1, I2, R, vX10_setupOf (fu := 5000) ⟨rfl, rfl, rfl, rfl⟩ f1, vX11_setupOf (fu := 5000) ⟨rfl, rfl, rfl, rfl⟩ f2, ?_, gl_i S (V) C1 K1 Rb2 F2⟩
  rw [t2]
  refine agr_of (n := 2) (by decide) ?_
  unfold aSetupOf
  repeat' split
  all_goals first | exact True.intro | exact ⟨by decide, by decide⟩
theorem sx_setup (h : SINV sh AD I R) (b0 b1 : Int32) : STEP K J sh AD I R 112 256 [.int b0, .int b1] hs2 := by
  obtain ⟨σ, P, S, V, C, Kn, Rb⟩ := h
  obtain ⟨I1, f1, C1, K1, F1⟩ := (cq_setup (fu := 5000) S V (Nat.le_refl 5000) (IRt b0) (IRt b1) : CQ sh AD R P σ _ _) I C Kn
  have Rb1 := gl_r Rb F1
  obtain ⟨I2, f2, t2, Rb2, F2⟩ := (rq_setup (fu := 5000) S V (Nat.le_refl 5000) (IRt b0) (IRt b1) : RQ sh AD R σ _ _) I1 Rb1
  simp only [izt] at f1 f2
  refine ⟨_, _, I1, I2, R, vX10_setup (fu := 5000) ⟨rfl, rfl, rfl, rfl⟩ f1, vX11_setup (fu := 5000) ⟨rfl, rfl, rfl, rfl⟩ f2, ?_, gl_i S (V) C1 K1 Rb2 F2⟩
  rw [t2]
  refine agr_of (n := 2) (by decide) ?_
  unfold aSetup
  repeat' split
  all_goals first | exact True.intro | exact ⟨by decide, by decide⟩
theorem sx_joinable (h : SINV sh AD I R) (b0 : Int32) : STEP K J sh AD I R 113 257 [.int b0] hs2 := by
  obtain ⟨σ, P, S, V, C, Kn, Rb⟩ := h
  obtain ⟨I1, f1, C1, K1, F1⟩ := (cq_joinable (fu := 5000) S V (Nat.le_refl 5000) (IRt b0) : CQ sh AD R P σ _ _) I C Kn
  have Rb1 := gl_r Rb F1
  obtain ⟨I2, f2, t2, Rb2, F2⟩ := (rq_joinable (fu := 5000) S V (Nat.le_refl 5000) (IRt b0) : RQ sh AD R σ _ _) I1 Rb1
  simp only [izt] at f1 f2
  refine ⟨_, _, I1, I2, R, vX10_joinable (fu := 5000) ⟨rfl, rfl, rfl, rfl⟩ f1, vX11_joinable (fu := 5000) ⟨rfl, rfl, rfl, rfl⟩ f2, ?_, gl_i S (V) C1 K1 Rb2 F2⟩
  rw [t2]
  refine agr_of (n := 2) (by decide) ?_
  unfold aJnb
  repeat' split
  all_goals first | exact True.intro | exact ⟨by decide, by decide⟩
end Q93
