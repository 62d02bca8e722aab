/-! STAGE 4: the methods one by one (printed by wip/whole/gensem.py) -/
section Q91
variable {K J : Nat → Nat} {sh : HS} {I : HI} {R : HR} {AD : Int → Nat}
theorem sx_append (h : SINV sh AD I R) (b0 b1 b2 b3 b4 : Int32) : STEP K J sh AD I R 77 156 [.int b0, .int b1, .int b2, .int b3, .int b4] hs1 := by
  obtain ⟨σ, P, S, V, C, Kn, Rb⟩ := h
  obtain ⟨I1, f1, C1, K1, F1⟩ := (ca_append (fu := 5000) S V (Nat.le_refl 5000) b0 b1 b2 b3 b4 : CA AD R P σ _ _ _) I C Kn
  have Rb1 := gl_r Rb F1
  obtain ⟨I2, f2, t2, Rb2, F2⟩ := (ra_append (fu := 5000) S V (Nat.le_refl 5000) b0 b1 b2 b3 b4 : RA AD R σ _ _ _) I1 Rb1
  dsimp only at f1 f2
  refine ⟨_, _, I1, I2, R, vX10_append (fu := 5000) ⟨rfl, rfl, rfl, rfl⟩ f1, vX11_append (fu := 5000) ⟨rfl, rfl, rfl, rfl⟩ f2, ?_, gl_i S (vst_append V b0 b1 b2 b3 b4) C1 K1 Rb2 F2⟩
  rw [t2]
  refine agr_of (n := 1) (by decide) ?_
  unfold aAppend
  repeat' split
  all_goals first | exact True.intro | exact ⟨by decide, by decide⟩
theorem sx_truncate (h : SINV sh AD I R) (b0 : Int32) : STEP K J sh AD I R 79 157 [.int b0] hsT := by
  obtain ⟨σ, P, S, V, C, Kn, Rb⟩ := h
  obtain ⟨I1, f1, C1, K1, F1⟩ := (ca_truncate (fu := 5000) S V (IRt b0) : CA AD R P σ _ _ _) I C Kn
  have Rb1 := gl_r Rb F1
  obtain ⟨I2, f2, t2, Rb2, F2⟩ := (ra_truncate (fu := 5000) S V (IRt b0) : RA AD R σ _ _ _) I1 Rb1
  simp only [izt] at f1 f2
  refine ⟨_, _, I1, I2, R, vX10_truncate (fu := 5000) ⟨rfl, rfl, rfl, rfl⟩ f1, vX11_truncate (fu := 5000) ⟨rfl, rfl, rfl, rfl⟩ f2, ?_, gl_i S (vst_trunc V _) C1 K1 Rb2 F2⟩
  rw [t2]
  split
  · exact ⟨rfl, rfl⟩
  · refine ⟨⟨1, by decide⟩, fun z hz => ?_, by decide⟩
    have hz : (exN 2, z) ∈ hsT := hz
    simp [hsT, exN] at hz
    rw [hz]; rfl
theorem sx_count (h : SINV sh AD I R) (b0 : Int32) : STEP K J sh AD I R 82 189 [.int b0] hs2 := by
  obtain ⟨σ, P, S, V, C, Kn, Rb⟩ := h
  have f1 := (cq_count (fu := 5000) S V (Nat.le_refl 5000) (IRt b0) : CP AD R P σ _ _) I C
  obtain ⟨I2, f2, t2, Rb2, F2⟩ := (rq_count (fu := 5000) S V (Nat.le_refl 5000) (IRt b0) : RQ sh AD R σ _ _) I Rb
  simp only [izt] at f1 f2
  refine ⟨_, _, I, I2, R, vX10_count (fu := 5000) ⟨rfl, rfl, rfl, rfl⟩ f1, vX11_count (fu := 5000) ⟨rfl, rfl, rfl, rfl⟩ f2, ?_, gl_i S V C Kn Rb2 F2⟩
  rw [t2]
  refine agr_of (n := 2) (by decide) ?_
  unfold aCount
  repeat' split
  all_goals first | exact True.intro | exact ⟨by decide, by decide⟩
theorem sx_scene (h : SINV sh AD I R) (b0 b1 : Int32) : STEP K J sh AD I R 83 190 [.int b0, .int b1] hs2 := by
  obtain ⟨σ, P, S, V, C, Kn, Rb⟩ := h
  have f1 := (cq_scene (fu := 5000) S V (Nat.le_refl 5000) (IRt b0) (IRt b1) : CP AD R P σ _ _) I C
  obtain ⟨I2, f2, t2, Rb2, F2⟩ := (rq_scene (fu := 5000) S V (Nat.le_refl 5000) (IRt b0) (IRt b1) : RQ sh AD R σ _ _) I Rb
  simp only [izt] at f1 f2
  refine ⟨_, _, I, I2, R, vX10_scene (fu := 5000) ⟨rfl, rfl, rfl, rfl⟩ f1, vX11_scene (fu := 5000) ⟨rfl, rfl, rfl, rfl⟩ f2, ?_, gl_i S V C Kn Rb2 F2⟩
  rw [t2]
  refine agr_of (n := 2) (by decide) ?_
  unfold aScene
  repeat' split
  all_goals first | exact True.intro | exact ⟨by decide, by decide⟩
theorem sx_actor (h : SINV sh AD I R) (b0 b1 : Int32) (t : Bool) : STEP K J sh AD I R 84 191 [.int b0, .int b1, .int (bz t)] hs2 := by
  obtain ⟨σ, P, S, V, C, Kn, Rb⟩ := h
  have f1 := (cq_actor (fu := 5000) S V (IRt b0) (IRt b1) t : CP AD R P σ _ _) I C
  obtain ⟨I2, f2, t2, Rb2, F2⟩ := (rq_actor (fu := 5000) S V (IRt b0) (IRt b1) t : RQ sh AD R σ _ _) I Rb
  simp only [izt] at f1 f2
  refine ⟨_, _, I, I2, R, vX10_actor (fu := 5000) ⟨rfl, rfl, rfl, rfl⟩ f1, vX11_actor (fu := 5000) ⟨rfl, rfl, rfl, rfl⟩ f2, ?_, gl_i S V C Kn Rb2 F2⟩
  rw [t2]
  refine agr_of (n := 2) (by decide) ?_
  unfold aActor
  repeat' split
  all_goals first | exact True.intro | exact ⟨by decide, by decide⟩
theorem sx_shot (h : SINV sh AD I R) (b0 b1 : Int32) : STEP K J sh AD I R 85 192 [.int b0, .int b1] hs2 := by
  obtain ⟨σ, P, S, V, C, Kn, Rb⟩ := h
  have f1 := (cq_shot (fu := 5000) S V (IRt b0) (IRt b1) : CP AD R P σ _ _) I C
  obtain ⟨I2, f2, t2, Rb2, F2⟩ := (rq_shot (fu := 5000) S V (IRt b0) (IRt b1) : RQ sh AD R σ _ _) I Rb
  simp only [izt] at f1 f2
  refine ⟨_, _, I, I2, R, vX10_shot (fu := 5000) ⟨rfl, rfl, rfl, rfl⟩ f1, vX11_shot (fu := 5000) ⟨rfl, rfl, rfl, rfl⟩ f2, ?_, gl_i S V C Kn Rb2 F2⟩
  rw [t2]
  refine agr_of (n := 2) (by decide) ?_
  unfold aShotW
  repeat' split
  all_goals first | exact True.intro | exact ⟨by decide, by decide⟩
theorem sx_setLimits (h : SINV sh AD I R) (b0 b1 b2 : Int32) : STEP K J sh AD I R 86 228 [.int b0, .int b1, .int b2] hs2 := by
  obtain ⟨σ, P, S, V, C, Kn, Rb⟩ := h
  obtain ⟨I1, f1, C1, K1, F1⟩ := (ca_setLimits (fu := 5000) S V (Nat.le_refl 5000) (IRt b0) (IRt b1) (IRt b2) : CA AD R P σ _ _ _) I C Kn
  have Rb1 := gl_r Rb F1
  obtain ⟨I2, f2, t2, Rb2, F2⟩ := (ra_setLimits (fu := 5000) S V (Nat.le_refl 5000) (IRt b0) (IRt b1) (IRt b2) : RA AD R σ _ _ _) I1 Rb1
  simp only [izt] at f1 f2
  refine ⟨_, _, I1, I2, R, vX10_setLimits (fu := 5000) ⟨rfl, rfl, rfl, rfl⟩ f1, vX11_setLimits (fu := 5000) ⟨rfl, rfl, rfl, rfl⟩ f2, ?_, gl_i S (vst_lim V _ _ _) C1 K1 Rb2 F2⟩
  rw [t2]
  refine agr_of (n := 2) (by decide) ?_
  unfold aLim
  repeat' split
  all_goals first | exact True.intro | exact ⟨by decide, by decide⟩
theorem sx_setLight (h : SINV sh AD I R) (b0 b1 : Int32) : STEP K J sh AD I R 87 229 [.int b0, .int b1] hs2 := by
  obtain ⟨σ, P, S, V, C, Kn, Rb⟩ := h
  obtain ⟨I1, f1, C1, K1, F1⟩ := (ca_setLight (fu := 5000) S V (Nat.le_refl 5000) (IRt b0) (IRt b1) : CA AD R P σ _ _ _) I C Kn
  have Rb1 := gl_r Rb F1
  obtain ⟨I2, f2, t2, Rb2, F2⟩ := (ra_setLight (fu := 5000) S V (Nat.le_refl 5000) (IRt b0) (IRt b1) : RA AD R σ _ _ _) I1 Rb1
  simp only [izt] at f1 f2
  refine ⟨_, _, I1, I2, R, vX10_setLight (fu := 5000) ⟨rfl, rfl, rfl, rfl⟩ f1, vX11_setLight (fu := 5000) ⟨rfl, rfl, rfl, rfl⟩ f2, ?_, gl_i S (vst_lgt V _ _) C1 K1 Rb2 F2⟩
  rw [t2]
  refine agr_of (n := 2) (by decide) ?_
  unfold aLgt
  repeat' split
  all_goals first | exact True.intro | exact ⟨by decide, by decide⟩
theorem sx_moveActor (h : SINV sh AD I R) (b0 b1 b2 b3 : Int32) : STEP K J sh AD I R 88 230 [.int b0, .int b1, .int b2, .int b3] hs2 := by
  obtain ⟨σ, P, S, V, C, Kn, Rb⟩ := h
  obtain ⟨I1, f1, C1, K1, F1⟩ := (ca_moveActor (fu := 5000) S V (Nat.le_refl 5000) (IRt b0) (IRt b1) (IRt b2) (IRt b3) : CA AD R P σ _ _ _) I C Kn
  have Rb1 := gl_r Rb F1
  obtain ⟨I2, f2, t2, Rb2, F2⟩ := (ra_moveActor (fu := 5000) S V (Nat.le_refl 5000) (IRt b0) (IRt b1) (IRt b2) (IRt b3) : RA AD R σ _ _ _) I1 Rb1
  simp only [izt] at f1 f2
  refine ⟨_, _, I1, I2, R, vX10_moveActor (fu := 5000) ⟨rfl, rfl, rfl, rfl⟩ f1, vX11_moveActor (fu := 5000) ⟨rfl, rfl, rfl, rfl⟩ f2, ?_, gl_i S (vst_mva V _ _ _ _) C1 K1 Rb2 F2⟩
  rw [t2]
  refine agr_of (n := 2) (by decide) ?_
  unfold aMvA
  repeat' split
  all_goals first | exact True.intro | exact ⟨by decide, by decide⟩
theorem sx_moveCamera (h : SINV sh AD I R) (b0 b1 b2 : Int32) : STEP K J sh AD I R 89 232 [.int b0, .int b1, .int b2] hs2 := by
  obtain ⟨σ, P, S, V, C, Kn, Rb⟩ := h
  obtain ⟨I1, f1, C1, K1, F1⟩ := (ca_moveCamera (fu := 5000) S V (Nat.le_refl 5000) (IRt b0) (IRt b1) (IRt b2) : CA AD R P σ _ _ _) I C Kn
  have Rb1 := gl_r Rb F1
  obtain ⟨I2, f2, t2, Rb2, F2⟩ := (ra_moveCamera (fu := 5000) S V (Nat.le_refl 5000) (IRt b0) (IRt b1) (IRt b2) : RA AD R σ _ _ _) I1 Rb1
  simp only [izt] at f1 f2
  refine ⟨_, _, I1, I2, R, vX10_moveCamera (fu := 5000) ⟨rfl, rfl, rfl, rfl⟩ f1, vX11_moveCamera (fu := 5000) ⟨rfl, rfl, rfl, rfl⟩ f2, ?_, gl_i S (vst_cam V _ _ _) C1 K1 Rb2 F2⟩
  rw [t2]
  refine agr_of (n := 2) (by decide) ?_
  unfold aFwith
  repeat' split
  all_goals first | exact True.intro | exact ⟨by decide, by decide⟩
theorem sx_setCast (h : SINV sh AD I R) (b0 b1 b2 : Int32) : STEP K J sh AD I R 90 233 [.int b0, .int b1, .int b2] hs2 := by
  obtain ⟨σ, P, S, V, C, Kn, Rb⟩ := h
  obtain ⟨I1, f1, C1, K1, F1⟩ := (ca_setCast (fu := 5000) S V (Nat.le_refl 5000) (IRt b0) (IRt b1) (IRt b2) : CA AD R P σ _ _ _) I C Kn
  have Rb1 := gl_r Rb F1
  obtain ⟨I2, f2, t2, Rb2, F2⟩ := (ra_setCast (fu := 5000) S V (Nat.le_refl 5000) (IRt b0) (IRt b1) (IRt b2) : RA AD R σ _ _ _) I1 Rb1
  simp only [izt] at f1 f2
  refine ⟨_, _, I1, I2, R, vX10_setCast (fu := 5000) ⟨rfl, rfl, rfl, rfl⟩ f1, vX11_setCast (fu := 5000) ⟨rfl, rfl, rfl, rfl⟩ f2, ?_, gl_i S (vst_cst V _ _ _) C1 K1 Rb2 F2⟩
  rw [t2]
  refine agr_of (n := 2) (by decide) ?_
  unfold aCst
  repeat' split
  all_goals first | exact True.intro | exact ⟨by decide, by decide⟩
end Q91
