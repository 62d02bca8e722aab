/-! STAGE 4: the methods one by one (printed by wip/whole/gensem.py) -/
section Q94
variable {K J : Nat → Nat} {sh : HS} {I : HI} {R : HR} {AD : Int → Nat}
theorem sx_leastReach (h : SINV sh AD I R) (b0 : Int32) : STEP K J sh AD I R 114 258 [.int b0] hs2 := by
  obtain ⟨σ, P, S, V, C, Kn, Rb⟩ := h
  obtain ⟨I1, f1, C1, K1, F1⟩ := (cq_leastReach (fu := 5000) S V (Nat.le_refl 5000) (IRt b0) : CQ sh AD R P σ _ _) I C Kn
  have Rb1 := gl_r Rb F1
  obtain ⟨I2, f2, t2, Rb2, F2⟩ := (rq_leastReach (fu := 5000) S V (Nat.le_refl 5000) (IRt b0) : RQ sh AD R σ _ _) I1 Rb1
  simp only [izt] at f1 f2
  refine ⟨_, _, I1, I2, R, vX10_leastReach (fu := 5000) ⟨rfl, rfl, rfl, rfl⟩ f1, vX11_leastReach (fu := 5000) ⟨rfl, rfl, rfl, rfl⟩ f2, ?_, gl_i S (V) C1 K1 Rb2 F2⟩
  rw [t2]
  refine agr_of (n := 2) (by decide) ?_
  unfold aLrc
  repeat' split
  all_goals first | exact True.intro | exact ⟨by decide, by decide⟩
theorem sx_change (h : SINV sh AD I R) (b0 b1 : Int32) : STEP K J sh AD I R 115 263 [.int b0, .int b1] hs2 := by
  obtain ⟨σ, P, S, V, C, Kn, Rb⟩ := h
  obtain ⟨I1, f1, C1, K1, F1⟩ := (cq_change (fu := 5000) S V (Nat.le_refl 5000) (IRt b0) (IRt b1) : CQ sh AD R P σ _ _) I C Kn
  have Rb1 := gl_r Rb F1
  obtain ⟨I2, f2, t2, Rb2, F2⟩ := (rq_change (fu := 5000) S V (Nat.le_refl 5000) (IRt b0) (IRt b1) : RQ sh AD R σ _ _) I1 Rb1
  simp only [izt] at f1 f2
  refine ⟨_, _, I1, I2, R, vX10_change (fu := 5000) ⟨rfl, rfl, rfl, rfl⟩ f1, vX11_change (fu := 5000) ⟨rfl, rfl, rfl, rfl⟩ f2, ?_, gl_i S (V) C1 K1 Rb2 F2⟩
  rw [t2]
  refine agr_of (n := 2) (by decide) ?_
  repeat' split
  all_goals first | exact True.intro | exact ⟨by decide, by decide⟩
theorem sx_plainCost (h : SINV sh AD I R)  : STEP K J sh AD I R 116 264 [] hs1 := by
  obtain ⟨σ, P, S, V, C, Kn, Rb⟩ := h
  obtain ⟨I1, f1, C1, K1, F1⟩ := (cq_plainCost (fu := 5000) S V (Nat.le_refl 5000) : CQ sh AD R P σ _ _) I C Kn
  have Rb1 := gl_r Rb F1
  obtain ⟨I2, f2, t2, Rb2, F2⟩ := (rq_plainCost (fu := 5000) S V (Nat.le_refl 5000) : RQ sh AD R σ _ _) I1 Rb1
  simp only [izt] at f1 f2
  refine ⟨_, _, I1, I2, R, vX10_plainCost (fu := 5000) ⟨rfl, rfl, rfl, rfl⟩ f1, vX11_plainCost (fu := 5000) ⟨rfl, rfl, rfl, rfl⟩ f2, ?_, gl_i S (V) C1 K1 Rb2 F2⟩
  rw [t2]
  refine agr_of (n := 1) (by decide) ?_
  unfold aBoard
  repeat' split
  all_goals first | exact True.intro | exact ⟨by decide, by decide⟩
theorem sx_bestCost (h : SINV sh AD I R)  : STEP K J sh AD I R 117 265 [] hs1 := by
  obtain ⟨σ, P, S, V, C, Kn, Rb⟩ := h
  obtain ⟨I1, f1, C1, K1, F1⟩ := (cq_bestCost (fu := 5000) S V (Nat.le_refl 5000) : CQ sh AD R P σ _ _) I C Kn
  have Rb1 := gl_r Rb F1
  obtain ⟨I2, f2, t2, Rb2, F2⟩ := (rq_bestCost (fu := 5000) S V (Nat.le_refl 5000) : RQ sh AD R σ _ _) I1 Rb1
  simp only [izt] at f1 f2
  refine ⟨_, _, I1, I2, R, vX10_bestCost (fu := 5000) ⟨rfl, rfl, rfl, rfl⟩ f1, vX11_bestCost (fu := 5000) ⟨rfl, rfl, rfl, rfl⟩ f2, ?_, gl_i S (V) C1 K1 Rb2 F2⟩
  rw [t2]
  refine agr_of (n := 1) (by decide) ?_
  unfold aBest
  repeat' split
  all_goals first | exact True.intro | exact ⟨by decide, by decide⟩
theorem sx_ordered (h : SINV sh AD I R) (b0 : Int32) : STEP K J sh AD I R 118 266 [.int b0] hs3 := by
  obtain ⟨σ, P, S, V, C, Kn, Rb⟩ := h
  obtain ⟨I1, f1, C1, K1, F1⟩ := (cq_ordered (fu := 5000) S V (Nat.le_refl 5000) (IRt b0) : CQ sh AD R P σ _ _) I C Kn
  have Rb1 := gl_r Rb F1
  obtain ⟨I2, f2, t2, Rb2, F2⟩ := (rq_ordered (fu := 5000) S V (Nat.le_refl 5000) (IRt b0) : RQ sh AD R σ _ _) I1 Rb1
  simp only [izt] at f1 f2
  refine ⟨_, _, I1, I2, R, vX10_ordered (fu := 5000) ⟨rfl, rfl, rfl, rfl⟩ f1, vX11_ordered (fu := 5000) ⟨rfl, rfl, rfl, rfl⟩ f2, ?_, gl_i S (V) C1 K1 Rb2 F2⟩
  rw [t2]
  refine agr_of (n := 3) (by decide) ?_
  unfold aOrdered
  repeat' split
  all_goals first | exact True.intro | exact ⟨by decide, by decide⟩
theorem sx_days (h : SINV sh AD I R) (b0 : Int32) : STEP K J sh AD I R 119 267 [.int b0] hs2 := by
  obtain ⟨σ, P, S, V, C, Kn, Rb⟩ := h
  obtain ⟨I1, f1, C1, K1, F1⟩ := (cq_days (fu := 5000) S V (Nat.le_refl 5000) (IRt b0) : CQ sh AD R P σ _ _) I C Kn
  have Rb1 := gl_r Rb F1
  obtain ⟨I2, f2, t2, Rb2, F2⟩ := (rq_days (fu := 5000) S V (Nat.le_refl 5000) (IRt b0) : RQ sh AD R σ _ _) I1 Rb1
  simp only [izt] at f1 f2
  refine ⟨_, _, I1, I2, R, vX10_days (fu := 5000) ⟨rfl, rfl, rfl, rfl⟩ f1, vX11_days (fu := 5000) ⟨rfl, rfl, rfl, rfl⟩ f2, ?_, gl_i S (V) C1 K1 Rb2 F2⟩
  rw [t2]
  refine agr_of (n := 2) (by decide) ?_
  unfold aDays
  repeat' split
  all_goals first | exact True.intro | exact ⟨by decide, by decide⟩
theorem sx_writePlan (h : SINV sh AD I R)  : STEP K J sh AD I R 121 273 [] hs1 := by
  obtain ⟨σ, P, S, V, C, Kn, Rb⟩ := h
  obtain ⟨I1, f1, C1, K1, F1⟩ := (ca_writePlan (fu := 5000) S V (Nat.le_refl 5000) : CA AD R P σ _ _ _) I C Kn
  have Rb1 := gl_r Rb F1
  obtain ⟨I2, f2, t2, Rb2, F2⟩ := (ra_writePlan (fu := 5000) S V (Nat.le_refl 5000) : RA AD R σ _ _ _) I1 Rb1
  simp only [izt] at f1 f2
  refine ⟨_, _, I1, I2, R, vX10_writePlan (fu := 5000) ⟨rfl, rfl, rfl, rfl⟩ f1, vX11_writePlan (fu := 5000) ⟨rfl, rfl, rfl, rfl⟩ f2, ?_, gl_i S (V.pln) C1 K1 Rb2 F2⟩
  rw [t2]
  refine agr_of (n := 1) (by decide) ?_
  unfold aPlan
  repeat' split
  all_goals first | exact True.intro | exact ⟨by decide, by decide⟩
theorem sx_planByte (h : SINV sh AD I R) (b0 : Int32) : STEP K J sh AD I R 125 274 [.int b0] hs3 := by
  obtain ⟨σ, P, S, V, C, Kn, Rb⟩ := h
  have f1 := (cq_planByte (fu := 5000) S V (IRt b0) : CP AD R P σ _ _) I C
  obtain ⟨I2, f2, t2, Rb2, F2⟩ := (rq_planByte (fu := 5000) S V (IRt b0) : RQ sh AD R σ _ _) I Rb
  simp only [izt] at f1 f2
  refine ⟨_, _, I, I2, R, vX10_planByte (fu := 5000) ⟨rfl, rfl, rfl, rfl⟩ f1, vX11_planByte (fu := 5000) ⟨rfl, rfl, rfl, rfl⟩ f2, ?_, gl_i S V C Kn Rb2 F2⟩
  rw [t2]
  refine agr_of (n := 3) (by decide) ?_
  unfold aPlanByte
  repeat' split
  all_goals first | exact True.intro | exact ⟨by decide, by decide⟩
theorem sx_undo (h : SINV sh AD I R)  : STEP K J sh AD I R 126 175 [] hs1 := by
  obtain ⟨σ, P, S, V, C, Kn, Rb⟩ := h
  obtain ⟨I1, f1, C1, K1, F1⟩ := (ca_undo (fu := 5000) S V (Nat.le_refl 5000) : CA AD R P σ _ _ _) I C Kn
  have Rb1 := gl_r Rb F1
  obtain ⟨I2, f2, t2, Rb2, F2⟩ := (ra_undo (fu := 5000) S V (Nat.le_refl 5000) : RA AD R σ _ _ _) I1 Rb1
  simp only [izt] at f1 f2
  refine ⟨_, _, I1, I2, R, vX10_undo (fu := 5000) ⟨rfl, rfl, rfl, rfl⟩ f1, vX11_undo (fu := 5000) ⟨rfl, rfl, rfl, rfl⟩ f2, ?_, gl_i S (V.undo) C1 K1 Rb2 F2⟩
  rw [t2]
  refine agr_of (n := 1) (by decide) ?_
  unfold aUndo
  repeat' split
  all_goals first | exact True.intro | exact ⟨by decide, by decide⟩
end Q94
