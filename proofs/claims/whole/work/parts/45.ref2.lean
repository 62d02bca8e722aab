/-! STAGE 2, the reference: views, sides, looks, faults -/
theorem VB.n {ρ : RHO} (V : VB ρ) : 0 ≤ ρ 4 ∧ ρ 4 ≤ 12 := V.2.2.2.2.1
theorem VB.m {ρ : RHO} (V : VB ρ) : 1 ≤ ρ 3 ∧ ρ 3 ≤ 3 := V.2.2.2.1
theorem VB.lim {ρ : RHO} (V : VB ρ) : (0 ≤ ρ 0 ∧ ρ 0 ≤ 99) ∧ (0 ≤ ρ 1 ∧ ρ 1 ≤ 2000) ∧ (0 ≤ ρ 2 ∧ ρ 2 ≤ 2000) := ⟨V.1, V.2.1, V.2.2.1⟩
theorem VB.scene {ρ : RHO} (V : VB ρ) {c : Int} (h0 : 0 ≤ c) (h1 : c < ρ 3) : (0 ≤ ltS ρ c ∧ ltS ρ c ≤ 3) ∧ (0 < csS ρ c ∧ csS ρ c < 64) ∧ ∀ a, 0 ≤ a → a < 6 → inS ρ c a = true → (0 ≤ axS ρ c a ∧ axS ρ c a ≤ 199) ∧ (0 ≤ ayS ρ c a ∧ ayS ρ c a ≤ 199) := V.2.2.2.2.2.1 c h0 h1
theorem VB.shot {ρ : RHO} (V : VB ρ) {s : Int} (h0 : 0 ≤ s) (h1 : s < ρ 4) : (0 ≤ scS ρ s ∧ scS ρ s < ρ 3) ∧ (0 ≤ cxS ρ s ∧ cxS ρ s ≤ 199) ∧ (0 ≤ cyS ρ s ∧ cyS ρ s ≤ 199) ∧ (0 ≤ suS ρ s ∧ suS ρ s < 6) ∧ inS ρ (scS ρ s) (suS ρ s) = true ∧
    (paS ρ s = -1 ∨ ((0 ≤ paS ρ s ∧ paS ρ s < 6) ∧ inS ρ (scS ρ s) (paS ρ s) = true ∧ ¬ paS ρ s = suS ρ s)) ∧ (1 ≤ lnS ρ s ∧ lnS ρ s ≤ 99) ∧ ¬ (sxS ρ s = cxS ρ s ∧ syS ρ s = cyS ρ s) := V.2.2.2.2.2.2.1 s h0 h1
theorem VB.sub {ρ : RHO} (V : VB ρ) {s : Int} (h0 : 0 ≤ s) (h1 : s < ρ 4) : (0 ≤ sxS ρ s ∧ sxS ρ s ≤ 199) ∧ (0 ≤ syS ρ s ∧ syS ρ s ≤ 199) := by
  obtain ⟨a1, -, -, a4, a5, -⟩ := V.shot h0 h1
  exact (V.scene a1.1 a1.2).2.2 _ a4.1 a4.2 a5
theorem VB.par {ρ : RHO} (V : VB ρ) {s : Int} (h0 : 0 ≤ s) (h1 : s < ρ 4) (h2 : ¬ paS ρ s = -1) : (0 ≤ paS ρ s ∧ paS ρ s < 6) ∧ (0 ≤ pxS ρ s ∧ pxS ρ s ≤ 199) ∧ (0 ≤ pyS ρ s ∧ pyS ρ s ≤ 199) ∧ ¬ paS ρ s = suS ρ s := by
  obtain ⟨a1, -, -, a4, a5, a6, -⟩ := V.shot h0 h1
  rcases a6 with a6 | ⟨a6, a7, a8⟩
  · exact absurd a6 h2
  · have := (V.scene a1.1 a1.2).2.2 _ a6.1 a6.2 a7
    exact ⟨a6, this.1, this.2, a8⟩
theorem iz10 : (iz 1 = iz 0) = False := by
  rw [iz_eq (by decide) (by decide) (by decide) (by decide)]
  exact propext ⟨fun h => absurd h (by decide), False.elim⟩
section R2
variable {fu : Nat} {sh : HS} {I : HI} {R : HR} {AD : Int → Nat} {ρ : RHO} {s t : Int}
theorem r_subjectX (S : OKS sh AD) (M : MR R AD) (H : RW I AD ρ) (V : VB ρ) (h0 : 0 ≤ s) (h1 : s < ρ 4) : fX11_subjectX fu sh I R (AD 316) (iz s) = some (iz (sxS ρ s)) := by
  have hn := V.n
  have hm := V.m
  obtain ⟨a1, a2, a3, a4, -⟩ := V.shot h0 h1
  simp only [fX11_subjectX, if_pos S.i, iz_lit, r_sceneOf S M H h0 (by omega : s < 12), r_get S M H h0 (by omega : s < 12) (by decide : (0 : Int) ≤ 3) (by decide : (3 : Int) < 6), bsome]
  rw [show gS ρ s 3 = suS ρ s from rfl, r_actorX S M H a1.1 (by omega) a4.1 a4.2]
  rfl
theorem r_subjectY (S : OKS sh AD) (M : MR R AD) (H : RW I AD ρ) (V : VB ρ) (h0 : 0 ≤ s) (h1 : s < ρ 4) : fX11_subjectY fu sh I R (AD 316) (iz s) = some (iz (syS ρ s)) := by
  have hn := V.n
  have hm := V.m
  obtain ⟨a1, a2, a3, a4, -⟩ := V.shot h0 h1
  simp only [fX11_subjectY, if_pos S.i, iz_lit, r_sceneOf S M H h0 (by omega : s < 12), r_get S M H h0 (by omega : s < 12) (by decide : (0 : Int) ≤ 3) (by decide : (3 : Int) < 6), bsome]
  rw [show gS ρ s 3 = suS ρ s from rfl, r_actorY S M H a1.1 (by omega) a4.1 a4.2]
  rfl
theorem r_partnerX (S : OKS sh AD) (M : MR R AD) (H : RW I AD ρ) (V : VB ρ) (h0 : 0 ≤ s) (h1 : s < ρ 4) (h2 : ¬ paS ρ s = -1) : fX11_partnerX fu sh I R (AD 316) (iz s) = some (iz (pxS ρ s)) := by
  have hn := V.n
  have hm := V.m
  obtain ⟨a1, -⟩ := V.shot h0 h1
  have a4 := (V.par h0 h1 h2).1
  simp only [fX11_partnerX, if_pos S.i, iz_lit, r_sceneOf S M H h0 (by omega : s < 12), r_get S M H h0 (by omega : s < 12) (by decide : (0 : Int) ≤ 4) (by decide : (4 : Int) < 6), bsome]
  rw [show gS ρ s 4 = paS ρ s from rfl, r_actorX S M H a1.1 (by omega) a4.1 a4.2]
  rfl
theorem r_partnerY (S : OKS sh AD) (M : MR R AD) (H : RW I AD ρ) (V : VB ρ) (h0 : 0 ≤ s) (h1 : s < ρ 4) (h2 : ¬ paS ρ s = -1) : fX11_partnerY fu sh I R (AD 316) (iz s) = some (iz (pyS ρ s)) := by
  have hn := V.n
  have hm := V.m
  obtain ⟨a1, -⟩ := V.shot h0 h1
  have a4 := (V.par h0 h1 h2).1
  simp only [fX11_partnerY, if_pos S.i, iz_lit, r_sceneOf S M H h0 (by omega : s < 12), r_get S M H h0 (by omega : s < 12) (by decide : (0 : Int) ≤ 4) (by decide : (4 : Int) < 6), bsome]
  rw [show gS ρ s 4 = paS ρ s from rfl, r_actorY S M H a1.1 (by omega) a4.1 a4.2]
  rfl
theorem r_g (S : OKS sh AD) (M : MR R AD) (H : RW I AD ρ) (V : VB ρ) (h0 : 0 ≤ s) (h1 : s < ρ 4) : fX11_get fu sh I R (AD 316) (iz s) (iz 0) = some (iz (scS ρ s)) ∧ fX11_get fu sh I R (AD 316) (iz s) (iz 1) = some (iz (cxS ρ s)) ∧ fX11_get fu sh I R (AD 316) (iz s) (iz 2) = some (iz (cyS ρ s)) ∧ fX11_get fu sh I R (AD 316) (iz s) (iz 3) = some (iz (suS ρ s)) ∧ fX11_get fu sh I R (AD 316) (iz s) (iz 4) = some (iz (paS ρ s)) ∧ fX11_get fu sh I R (AD 316) (iz s) (iz 5) = some (iz (lnS ρ s)) := by
  have hn := V.n
  exact ⟨r_get S M H h0 (by omega) (by decide) (by decide), r_get S M H h0 (by omega) (by decide) (by decide), r_get S M H h0 (by omega) (by decide) (by decide), r_get S M H h0 (by omega) (by decide) (by decide), r_get S M H h0 (by omega) (by decide) (by decide), r_get S M H h0 (by omega) (by decide) (by decide)⟩
theorem VB.view {ρ : RHO} (V : VB ρ) {s : Int} (h0 : 0 ≤ s) (h1 : s < ρ 4) : 0 ≤ viewS ρ s ∧ viewS ρ s < 4000 := by
  obtain ⟨a1, a2, a3, -⟩ := V.shot h0 h1
  have b := V.sub h0 h1
  exact dir_range (by omega) (by omega) (by omega) (by omega)
theorem r_view (S : OKS sh AD) (M : MR R AD) (H : RW I AD ρ) (V : VB ρ) (h0 : 0 ≤ s) (h1 : s < ρ 4) : fX11_viewOf fu sh I R (AD 316) (iz s) = some (iz (viewS ρ s)) := by
  obtain ⟨a1, a2, a3, a4, a5, a6, a7, a8⟩ := V.shot h0 h1
  have b := V.sub h0 h1
  obtain ⟨-, g1, g2, -⟩ := r_g (fu := fu) S M H V h0 h1
  simp only [fX11_viewOf, if_pos S.i, iz_lit, r_subjectX S M H V h0 h1, r_subjectY S M H V h0 h1, g1, g2, bsome, iz_sub]
  rw [r_dir (by omega) (by omega) (by omega) (by omega) (by omega)]
  rfl
theorem r_hasP (S : OKS sh AD) (M : MR R AD) (H : RW I AD ρ) (V : VB ρ) (h0 : 0 ≤ s) (h1 : s < ρ 4) : fX11_hasPartner fu sh I R (AD 316) (iz s) = some (bz (!decide (paS ρ s = -1))) := by
  obtain ⟨a1, a2, a3, a4, a5, a6, a7, a8⟩ := V.shot h0 h1
  obtain ⟨-, -, -, -, g4, -⟩ := r_g (fu := fu) S M H V h0 h1
  simp only [fX11_hasPartner, fX11_hasPartner_b15, if_pos S.i, iz_lit, iz_neg, g4, bsome]
  simp (disch := omega) only [iz_eq]
  by_cases h : paS ρ s = -1
  · simp [h, oZ_z0]
  · simp [h, oZ_z1]
theorem mul_le {a b A B : Int} (h1 : -A ≤ a) (h2 : a ≤ A) (h3 : -B ≤ b) (h4 : b ≤ B) : -(A * B) ≤ a * b ∧ a * b ≤ A * B := by
  have hA : 0 ≤ A := by omega
  have hB : 0 ≤ B := by omega
  rcases Int.le_total 0 a with ha | ha <;> rcases Int.le_total 0 b with hb | hb
  · have := Int.mul_le_mul h2 h4 hb hA
    have := Int.mul_nonneg ha hb
    have := Int.mul_nonneg hA hB
    omega
  · have x1 := Int.mul_le_mul h2 (show -b ≤ B by omega) (by omega) hA
    have x2 := Int.mul_nonneg ha (show 0 ≤ -b by omega)
    have x3 := Int.mul_nonneg hA hB
    rw [Int.mul_neg] at x1 x2
    omega
  · have x1 := Int.mul_le_mul (show -a ≤ A by omega) h4 hb hA
    have x2 := Int.mul_nonneg (show 0 ≤ -a by omega) hb
    have x3 := Int.mul_nonneg hA hB
    rw [Int.neg_mul] at x1 x2
    omega
  · have x1 := Int.mul_le_mul (show -a ≤ A by omega) (show -b ≤ B by omega) (by omega) hA
    have x2 := Int.mul_nonneg (show 0 ≤ -a by omega) (show 0 ≤ -b by omega)
    have x3 := Int.mul_nonneg hA hB
    rw [Int.neg_mul, Int.mul_neg, Int.neg_neg] at x1 x2
    omega
theorem cross_range {x y u v : Int} (h1 : -199 ≤ x) (h2 : x ≤ 199) (h3 : -199 ≤ y) (h4 : y ≤ 199) (h5 : -199 ≤ u) (h6 : u ≤ 199) (h7 : -199 ≤ v) (h8 : v ≤ 199) : -79202 ≤ crossS x y u v ∧ crossS x y u v ≤ 79202 := by
  have a := mul_le h1 h2 h7 h8
  have b := mul_le h3 h4 h5 h6
  unfold crossS
  omega
theorem r_side (S : OKS sh AD) (M : MR R AD) (H : RW I AD ρ) (V : VB ρ) (h0 : 0 ≤ s) (h1 : s < ρ 4) : fX11_sideOf fu sh I R (AD 316) (iz s) = some (iz (sideS ρ s)) := by
  obtain ⟨a1, a2, a3, a4, a5, a6, a7, a8⟩ := V.shot h0 h1
  have b := V.sub h0 h1
  obtain ⟨-, g1, g2, g3, g4, -⟩ := r_g (fu := fu) S M H V h0 h1
  simp only [fX11_sideOf, fX11_sideOf_b30, fX11_sideOf_b48, fX11_sideOf_b66, fX11_sideOf_b85, fX11_sideOf_b104, if_pos S.i, iz_lit, r_hasP S M H V h0 h1, bsome, bz_zero, g1, g2, g3, g4]
  unfold sideS
  by_cases h : paS ρ s = -1
  · simp [h]
  · have p := V.par h0 h1 h
    rw [if_neg (by simp [h]), if_neg h]
    simp (disch := omega) only [iz_le]
    have c1 := cross_range (x := pxS ρ s - sxS ρ s) (y := pyS ρ s - syS ρ s) (u := cxS ρ s - sxS ρ s) (v := cyS ρ s - syS ρ s) (by omega) (by omega) (by omega) (by omega) (by omega) (by omega) (by omega) (by omega)
    have c2 := cross_range (x := sxS ρ s - pxS ρ s) (y := syS ρ s - pyS ρ s) (u := cxS ρ s - pxS ρ s) (v := cyS ρ s - pyS ρ s) (by omega) (by omega) (by omega) (by omega) (by omega) (by omega) (by omega) (by omega)
    by_cases g : suS ρ s < paS ρ s
    · rw [if_neg (by omega), if_pos g]
      simp only [iz10, if_false, r_subjectX S M H V h0 h1, r_subjectY S M H V h0 h1, r_partnerX S M H V h0 h1 h, r_partnerY S M H V h0 h1 h, bsome, iz_sub, r_cross]
      rw [r_sign (Int.le_trans (by decide) c1.1) (Int.le_trans c1.2 (by decide)), bsome]
    · rw [if_pos (by omega), if_neg g]
      simp only [if_true, r_subjectX S M H V h0 h1, r_subjectY S M H V h0 h1, r_partnerX S M H V h0 h1 h, r_partnerY S M H V h0 h1 h, bsome, iz_sub, r_cross]
      rw [r_sign (Int.le_trans (by decide) c2.1) (Int.le_trans c2.2 (by decide)), bsome]
theorem r_look (S : OKS sh AD) (M : MR R AD) (H : RW I AD ρ) (V : VB ρ) (h0 : 0 ≤ s) (h1 : s < ρ 4) : fX11_lookOf fu sh I R (AD 316) (iz s) = some (iz (lookS ρ s)) := by
  obtain ⟨a1, a2, a3, a4, a5, a6, a7, a8⟩ := V.shot h0 h1
  have b := V.sub h0 h1
  obtain ⟨-, g1, g2, -⟩ := r_g (fu := fu) S M H V h0 h1
  simp only [fX11_lookOf, if_pos S.i, iz_lit, r_hasP S M H V h0 h1, bsome, bz_zero, g1, g2]
  unfold lookS
  by_cases h : paS ρ s = -1
  · simp [h]
  · have p := V.par h0 h1 h
    rw [if_neg (by simp [h]), if_neg h]
    simp only [r_subjectX S M H V h0 h1, r_subjectY S M H V h0 h1, r_partnerX S M H V h0 h1 h, r_partnerY S M H V h0 h1 h, bsome, iz_sub, r_cross]
    have c1 := cross_range (x := sxS ρ s - cxS ρ s) (y := syS ρ s - cyS ρ s) (u := pxS ρ s - sxS ρ s) (v := pyS ρ s - syS ρ s) (by omega) (by omega) (by omega) (by omega) (by omega) (by omega) (by omega) (by omega)
    rw [r_sign (Int.le_trans (by decide) c1.1) (Int.le_trans c1.2 (by decide)), bsome]
theorem r_near (S : OKS sh AD) (M : MR R AD) (H : RW I AD ρ) (V : VB ρ) (h0 : 0 ≤ s) (h1 : s < ρ 4) (t0 : 0 ≤ t) (t1 : t < ρ 4) {r : Int} (hr : 0 ≤ r) (hr2 : r ≤ 99) : fX11_areNear fu sh I R (AD 316) (iz s) (iz t) (iz r) = some (bz (nearS ρ s t r)) := by
  obtain ⟨a1, a2, a3, a4, a5, a6, a7, a8⟩ := V.shot h0 h1
  obtain ⟨c1, c2, c3, -⟩ := V.shot t0 t1
  have hn := V.n
  have hm := V.m
  have vl := V.lim
  obtain ⟨-, g1, g2, -⟩ := r_g (fu := fu) S M H V h0 h1
  obtain ⟨-, e1, e2, -⟩ := r_g (fu := fu) S M H V t0 t1
  have x1 := ab_range (a := cxS ρ s - cxS ρ t) (b := 199) (by omega) (by omega)
  have x2 := ab_range (a := cyS ρ s - cyS ρ t) (b := 199) (by omega) (by omega)
  have v1 := V.view h0 h1
  have v2 := V.view t0 t1
  have v3 := turn_range v1.1 v1.2 v2.1 v2.2
  simp only [fX11_areNear, fX11_areNear_b80, fX11_areNear_b81, if_pos S.i, iz_lit, g1, g2, e1, e2, bsome, iz_sub, r_sceneOf S M H h0 (by omega : s < 12), r_sceneOf S M H t0 (by omega : t < 12), r_view S M H V h0 h1, r_view S M H V t0 t1, r_turn v1.1 v1.2 v2.1 v2.2, oR_at S.md M.1.1, r_row S M H (by decide : (0 : Int) ≤ 1) (by decide : (1 : Int) < 119)]
  rw [r_size (by omega) (by omega), bsome, r_size (by omega) (by omega), bsome, iz_add]
  simp (disch := omega) only [iz_lt, iz_eq]
  unfold nearS
  by_cases k1 : scS ρ s = scS ρ t
  · by_cases k2 : r < ab (cxS ρ s - cxS ρ t) + ab (cyS ρ s - cyS ρ t)
    · simp [k1, k2, oZ_z0, show ¬ ab (cxS ρ s - cxS ρ t) + ab (cyS ρ s - cyS ρ t) ≤ r by omega]
    · by_cases k3 : ρ 1 < turnS (viewS ρ s) (viewS ρ t)
      · simp [k1, k2, k3, oZ_z0, show ¬ turnS (viewS ρ s) (viewS ρ t) ≤ ρ 1 by omega]
      · simp [k1, k2, k3, oZ_z1, show turnS (viewS ρ s) (viewS ρ t) ≤ ρ 1 by omega, show ab (cxS ρ s - cxS ρ t) + ab (cyS ρ s - cyS ρ t) ≤ r by omega]
  · simp [k1, oZ_z0]
end R2
