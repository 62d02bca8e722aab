/-! STAGE 4: the methods one by one (printed by wip/whole/gensem.py) -/
section Q92
variable {K J : Nat → Nat} {sh : HS} {I : HI} {R : HR} {AD : Int → Nat}
theorem sx_setLength (h : SINV sh AD I R) (b0 b1 : Int32) : STEP K J sh AD I R 91 234 [.int b0, .int b1] hs2 := by
  obtain ⟨σ, P, S, V, C, Kn, Rb⟩ := h
  obtain ⟨I1, f1, C1, K1, F1⟩ := (ca_setLength (fu := 5000) S V (Nat.le_refl 5000) (IRt b0) (IRt b1) : CA AD R P σ _ _ _) I C Kn
  have Rb1 := gl_r Rb F1
  obtain ⟨I2, f2, t2, Rb2, F2⟩ := (ra_setLength (fu := 5000) S V (Nat.le_refl 5000) (IRt b0) (IRt b1) : RA AD R σ _ _ _) I1 Rb1
  simp only [izt] at f1 f2
  refine ⟨_, _, I1, I2, R, vX10_setLength (fu := 5000) ⟨rfl, rfl, rfl, rfl⟩ f1, vX11_setLength (fu := 5000) ⟨rfl, rfl, rfl, rfl⟩ f2, ?_, gl_i S (vst_len V _ _) C1 K1 Rb2 F2⟩
  rw [t2]
  refine agr_of (n := 2) (by decide) ?_
  unfold aLen
  repeat' split
  all_goals first | exact True.intro | exact ⟨by decide, by decide⟩
theorem sx_shift (h : SINV sh AD I R) (b0 b1 : Int32) : STEP K J sh AD I R 92 236 [.int b0, .int b1] hs2 := by
  obtain ⟨σ, P, S, V, C, Kn, Rb⟩ := h
  obtain ⟨I1, R1, P1, f1, C1, K1, F1, RF⟩ := (cx_shift (fu := 5000) S V (Nat.le_refl 5000) (IRt b0) (IRt b1) : CXR AD R P σ _ _ _) I C Kn
  have Rb1 := (gl_r Rb F1).rf RF
  obtain ⟨I2, f2, t2, Rb2, F2⟩ := (ra_shift (fu := 5000) S V (Nat.le_refl 5000) (IRt b0) (IRt b1) : RA AD R1 σ _ _ _) I1 Rb1
  simp only [izt] at f1 f2
  refine ⟨_, _, I1, I2, R1, vX10_shift (fu := 5000) ⟨rfl, rfl, rfl, rfl⟩ f1, vX11_shift (fu := 5000) ⟨rfl, rfl, rfl, rfl⟩ f2, ?_, gl_i S (vst_shift V _ _) C1 K1 Rb2 F2⟩
  rw [t2]
  refine agr_of (n := 2) (by decide) ?_
  unfold aShift
  repeat' split
  all_goals first | exact True.intro | exact ⟨by decide, by decide⟩
theorem sx_drop (h : SINV sh AD I R) (b0 : Int32) : STEP K J sh AD I R 93 237 [.int b0] hs2 := by
  obtain ⟨σ, P, S, V, C, Kn, Rb⟩ := h
  obtain ⟨I1, R1, P1, f1, C1, K1, F1, RF⟩ := (cx_drop (fu := 5000) S V (Nat.le_refl 5000) (IRt b0) : CXR AD R P σ _ _ _) I C Kn
  have Rb1 := (gl_r Rb F1).rf RF
  obtain ⟨I2, f2, t2, Rb2, F2⟩ := (ra_drop (fu := 5000) S V (Nat.le_refl 5000) (IRt b0) : RA AD R1 σ _ _ _) I1 Rb1
  simp only [izt] at f1 f2
  refine ⟨_, _, I1, I2, R1, vX10_drop (fu := 5000) ⟨rfl, rfl, rfl, rfl⟩ f1, vX11_drop (fu := 5000) ⟨rfl, rfl, rfl, rfl⟩ f2, ?_, gl_i S (vst_drop V _) C1 K1 Rb2 F2⟩
  rw [t2]
  refine agr_of (n := 2) (by decide) ?_
  unfold aDrop
  repeat' split
  all_goals first | exact True.intro | exact ⟨by decide, by decide⟩
theorem sx_flip (h : SINV sh AD I R) (b0 : Int32) : STEP K J sh AD I R 94 241 [.int b0] hs2 := by
  obtain ⟨σ, P, S, V, C, Kn, Rb⟩ := h
  obtain ⟨I1, f1, C1, K1, F1⟩ := (ca_flip (fu := 5000) S V (Nat.le_refl 5000) (IRt b0) : CA AD R P σ _ _ _) I C Kn
  have Rb1 := gl_r Rb F1
  obtain ⟨I2, f2, t2, Rb2, F2⟩ := (ra_flip (fu := 5000) S V (Nat.le_refl 5000) (IRt b0) : RA AD R σ _ _ _) I1 Rb1
  simp only [izt] at f1 f2
  refine ⟨_, _, I1, I2, R, vX10_flip (fu := 5000) ⟨rfl, rfl, rfl, rfl⟩ f1, vX11_flip (fu := 5000) ⟨rfl, rfl, rfl, rfl⟩ f2, ?_, gl_i S (vst_flip V _) C1 K1 Rb2 F2⟩
  rw [t2]
  refine agr_of (n := 2) (by decide) ?_
  unfold aFlip
  repeat' split
  all_goals first | exact True.intro | exact ⟨by decide, by decide⟩
theorem sx_join (h : SINV sh AD I R) (b0 b1 : Int32) : STEP K J sh AD I R 95 243 [.int b0, .int b1] hs2 := by
  obtain ⟨σ, P, S, V, C, Kn, Rb⟩ := h
  obtain ⟨I1, f1, C1, K1, F1⟩ := (ca_join (fu := 5000) S V (Nat.le_refl 5000) (IRt b0) (IRt b1) : CA AD R P σ _ _ _) I C Kn
  have Rb1 := gl_r Rb F1
  obtain ⟨I2, f2, t2, Rb2, F2⟩ := (ra_join (fu := 5000) S V (Nat.le_refl 5000) (IRt b0) (IRt b1) : RA AD R σ _ _ _) I1 Rb1
  simp only [izt] at f1 f2
  refine ⟨_, _, I1, I2, R, vX10_join (fu := 5000) ⟨rfl, rfl, rfl, rfl⟩ f1, vX11_join (fu := 5000) ⟨rfl, rfl, rfl, rfl⟩ f2, ?_, gl_i S (vst_join V _ _) C1 K1 Rb2 F2⟩
  rw [t2]
  refine agr_of (n := 2) (by decide) ?_
  unfold aJoin
  repeat' split
  all_goals first | exact True.intro | exact ⟨by decide, by decide⟩
theorem sx_mend (h : SINV sh AD I R)  : STEP K J sh AD I R 96 246 [] hs1 := by
  obtain ⟨σ, P, S, V, C, Kn, Rb⟩ := h
  obtain ⟨I1, f1, C1, K1, F1⟩ := (ca_mend (fu := 5000) S V (Nat.le_refl 5000) : CA AD R P σ _ _ _) I C Kn
  have Rb1 := gl_r Rb F1
  obtain ⟨I2, f2, t2, Rb2, F2⟩ := (ra_mend (fu := 5000) S V (Nat.le_refl 5000) : RA AD R σ _ _ _) I1 Rb1
  simp only [izt] at f1 f2
  refine ⟨_, _, I1, I2, R, vX10_mend (fu := 5000) ⟨rfl, rfl, rfl, rfl⟩ f1, vX11_mend (fu := 5000) ⟨rfl, rfl, rfl, rfl⟩ f2, ?_, gl_i S (vst_mend V) C1 K1 Rb2 F2⟩
  rw [t2]
  refine agr_of (n := 1) (by decide) ?_
  unfold aMend
  repeat' split
  all_goals first | exact True.intro | exact ⟨by decide, by decide⟩
theorem sx_direction (h : SINV sh AD I R) (b0 b1 : Int32) : STEP K J sh AD I R 97 208 [.int b0, .int b1] hs2 := by
  obtain ⟨σ, P, S, V, C, Kn, Rb⟩ := h
  have f1 := (cq_direction (fu := 5000) S (IRt b0) (IRt b1) : CP AD R P σ _ _) I C
  obtain ⟨I2, f2, t2, Rb2, F2⟩ := (rq_direction (fu := 5000) S (IRt b0) (IRt b1) : RQ sh AD R σ _ _) I Rb
  simp only [izt] at f1 f2
  refine ⟨_, _, I, I2, R, vX10_direction (fu := 5000) ⟨rfl, rfl, rfl, rfl⟩ f1, vX11_direction (fu := 5000) ⟨rfl, rfl, rfl, rfl⟩ f2, ?_, gl_i S V C Kn Rb2 F2⟩
  rw [t2]
  refine agr_of (n := 2) (by decide) ?_
  unfold aDir
  repeat' split
  all_goals first | exact True.intro | exact ⟨by decide, by decide⟩
theorem sx_view (h : SINV sh AD I R) (b0 : Int32) : STEP K J sh AD I R 98 209 [.int b0] hs2 := by
  obtain ⟨σ, P, S, V, C, Kn, Rb⟩ := h
  have f1 := (cq_view (fu := 5000) S V (Nat.le_refl 5000) (IRt b0) : CP AD R P σ _ _) I C
  obtain ⟨I2, f2, t2, Rb2, F2⟩ := (rq_view (fu := 5000) S V (Nat.le_refl 5000) (IRt b0) : RQ sh AD R σ _ _) I Rb
  simp only [izt] at f1 f2
  refine ⟨_, _, I, I2, R, vX10_view (fu := 5000) ⟨rfl, rfl, rfl, rfl⟩ f1, vX11_view (fu := 5000) ⟨rfl, rfl, rfl, rfl⟩ f2, ?_, gl_i S V C Kn Rb2 F2⟩
  rw [t2]
  refine agr_of (n := 2) (by decide) ?_
  unfold aShot
  repeat' split
  all_goals first | exact True.intro | exact ⟨by decide, by decide⟩
theorem sx_side (h : SINV sh AD I R) (b0 : Int32) : STEP K J sh AD I R 99 210 [.int b0] hs2 := by
  obtain ⟨σ, P, S, V, C, Kn, Rb⟩ := h
  have f1 := (cq_side (fu := 5000) S V (Nat.le_refl 5000) (IRt b0) : CP AD R P σ _ _) I C
  obtain ⟨I2, f2, t2, Rb2, F2⟩ := (rq_side (fu := 5000) S V (Nat.le_refl 5000) (IRt b0) : RQ sh AD R σ _ _) I Rb
  simp only [izt] at f1 f2
  refine ⟨_, _, I, I2, R, vX10_side (fu := 5000) ⟨rfl, rfl, rfl, rfl⟩ f1, vX11_side (fu := 5000) ⟨rfl, rfl, rfl, rfl⟩ f2, ?_, gl_i S V C Kn Rb2 F2⟩
  rw [t2]
  refine agr_of (n := 2) (by decide) ?_
  unfold aShot
  repeat' split
  all_goals first | exact True.intro | exact ⟨by decide, by decide⟩
theorem sx_look (h : SINV sh AD I R) (b0 : Int32) : STEP K J sh AD I R 100 211 [.int b0] hs2 := by
  obtain ⟨σ, P, S, V, C, Kn, Rb⟩ := h
  have f1 := (cq_look (fu := 5000) S V (Nat.le_refl 5000) (IRt b0) : CP AD R P σ _ _) I C
  obtain ⟨I2, f2, t2, Rb2, F2⟩ := (rq_look (fu := 5000) S V (Nat.le_refl 5000) (IRt b0) : RQ sh AD R σ _ _) I Rb
  simp only [izt] at f1 f2
  refine ⟨_, _, I, I2, R, vX10_look (fu := 5000) ⟨rfl, rfl, rfl, rfl⟩ f1, vX11_look (fu := 5000) ⟨rfl, rfl, rfl, rfl⟩ f2, ?_, gl_i S V C Kn Rb2 F2⟩
  rw [t2]
  refine agr_of (n := 2) (by decide) ?_
  unfold aShot
  repeat' split
  all_goals first | exact True.intro | exact ⟨by decide, by decide⟩
theorem sx_visible (h : SINV sh AD I R) (b0 : Int32) : STEP K J sh AD I R 101 212 [.int b0] hs2 := by
  obtain ⟨σ, P, S, V, C, Kn, Rb⟩ := h
  have f1 := (cq_visible (fu := 5000) S V (Nat.le_refl 5000) (IRt b0) : CP AD R P σ _ _) I C
  obtain ⟨I2, f2, t2, Rb2, F2⟩ := (rq_visible (fu := 5000) S V (Nat.le_refl 5000) (IRt b0) : RQ sh AD R σ _ _) I Rb
  simp only [izt] at f1 f2
  refine ⟨_, _, I, I2, R, vX10_visible (fu := 5000) ⟨rfl, rfl, rfl, rfl⟩ f1, vX11_visible (fu := 5000) ⟨rfl, rfl, rfl, rfl⟩ f2, ?_, gl_i S V C Kn Rb2 F2⟩
  rw [t2]
  refine agr_of (n := 2) (by decide) ?_
  unfold aShot
  repeat' split
  all_goals first | exact True.intro | exact ⟨by decide, by decide⟩
end Q92
