/-! STAGE 2, the class: who is seen, who blocks, faults between shots -/
theorem bl_key {x y dx dy : Int} (hc : dx * y - dy * x = 0) : x * (dx * dx + dy * dy) = (x * dx + y * dy) * dx ∧ y * (dx * dx + dy * dy) = (x * dx + y * dy) * dy := by
  have h : dx * y = dy * x := by omega
  constructor
  · have e1 : (x * dx + y * dy) * dx = x * dx * dx + dy * (dx * y) := by rw [Int.add_mul, Int.mul_comm y dy, Int.mul_assoc dy y dx, Int.mul_comm y dx]
    rw [e1, h, Int.mul_add, Int.mul_assoc x dx dx, Int.mul_comm x (dy * dy), Int.mul_assoc dy dy x]
  · have e1 : (x * dx + y * dy) * dy = dx * (dy * x) + y * dy * dy := by rw [Int.add_mul, Int.mul_comm x dx, Int.mul_assoc dx x dy, Int.mul_comm x dy]
    rw [e1, ← h, Int.mul_add, Int.mul_assoc y dy dy, Int.mul_comm y (dx * dx), Int.mul_assoc dx dx y]
theorem bl_sgn {x w h d : Int} (hw : 0 < w) (e : x * w = h * d) (h0 : 0 < h) (h1 : h < w) : (0 < d → 0 < x ∧ x < d) ∧ (d < 0 → d < x ∧ x < 0) ∧ (d = 0 → x = 0) := by
  refine ⟨fun hd => ⟨?_, ?_⟩, fun hd => ⟨?_, ?_⟩, fun hd => ?_⟩
  · rcases Int.lt_or_le 0 x with z | z
    · exact z
    · have a := Int.mul_pos h0 hd
      have b := Int.mul_le_mul_of_nonneg_right z (Int.le_of_lt hw)
      rw [Int.zero_mul] at b
      omega
  · rcases Int.lt_or_le x d with z | z
    · exact z
    · have a := Int.mul_lt_mul_of_pos_right h1 hd
      have b := Int.mul_le_mul_of_nonneg_right z (Int.le_of_lt hw)
      rw [Int.mul_comm w d] at a
      omega
  · rcases Int.lt_or_le d x with z | z
    · exact z
    · have a := Int.mul_lt_mul_of_pos_right h1 (show 0 < -d by omega)
      have b := Int.mul_le_mul_of_nonneg_right z (Int.le_of_lt hw)
      rw [Int.mul_neg, Int.mul_neg, Int.mul_comm w d] at a
      omega
  · rcases Int.lt_or_le x 0 with z | z
    · exact z
    · have a := Int.mul_pos h0 (show 0 < -d by omega)
      have b := Int.mul_nonneg z (Int.le_of_lt hw)
      rw [Int.mul_neg] at a
      omega
  · rw [hd, Int.mul_zero] at e
    rcases Int.mul_eq_zero.mp e with z | z
    · exact z
    · omega
theorem bl_box {x d : Int} (h1 : min 0 d ≤ x) (h2 : x ≤ max 0 d) : 0 ≤ x * d ∧ x * d ≤ d * d ∧ (x * d = 0 → d = 0 ∨ x = 0) ∧ (x * d = d * d → d = 0 ∨ x = d) := by
  refine ⟨?_, ?_, fun z => (Int.mul_eq_zero.mp z).elim Or.inr Or.inl, fun z => ?_⟩
  · rcases Int.le_total 0 d with k | k
    · exact Int.mul_nonneg (by omega) k
    · have := Int.mul_nonneg (show 0 ≤ -x by omega) (show 0 ≤ -d by omega)
      rw [Int.neg_mul, Int.mul_neg, Int.neg_neg] at this
      exact this
  · rcases Int.le_total 0 d with k | k
    · exact Int.mul_le_mul_of_nonneg_right (by omega) k
    · have := Int.mul_le_mul_of_nonneg_right (show -x ≤ -d by omega) (show 0 ≤ -d by omega)
      rw [Int.neg_mul, Int.mul_neg, Int.neg_neg, Int.neg_mul, Int.mul_neg, Int.neg_neg] at this
      exact this
  · by_cases k : d = 0
    · exact Or.inl k
    · exact Or.inr (Int.eq_of_mul_eq_mul_right k z)
/-- on the line from camera to subject and between them: by the share of the way, and by the box -/
theorem bl_iff {x y dx dy : Int} (hd : ¬ (dx = 0 ∧ dy = 0)) (hc : dx * y - dy * x = 0) : (0 < x * dx + y * dy ∧ x * dx + y * dy < dx * dx + dy * dy) ↔ (¬ (x = 0 ∧ y = 0) ∧ ¬ (x = dx ∧ y = dy) ∧ (min 0 dx ≤ x ∧ x ≤ max 0 dx) ∧ (min 0 dy ≤ y ∧ y ≤ max 0 dy)) := by
  have hw : 0 < dx * dx + dy * dy := by
    have a : ∀ z : Int, ¬ z = 0 → 0 < z * z := by
      intro z hz
      rcases Int.lt_or_gt_of_ne hz with k | k
      · have := Int.mul_pos (show 0 < -z by omega) (show 0 < -z by omega)
        rw [Int.neg_mul, Int.mul_neg, Int.neg_neg] at this
        exact this
      · exact Int.mul_pos k k
    have b : ∀ z : Int, 0 ≤ z * z := by
      intro z
      by_cases hz : z = 0
      · rw [hz]; decide
      · exact Int.le_of_lt (a z hz)
    have b1 := b dx
    have b2 := b dy
    by_cases k : dx = 0
    · have := a dy (fun z => hd ⟨k, z⟩)
      omega
    · have := a dx k
      omega
  constructor
  · rintro ⟨h0, h1⟩
    obtain ⟨k1, k2⟩ := bl_key hc
    obtain ⟨u1, u2, u3⟩ := bl_sgn hw k1 h0 h1
    obtain ⟨v1, v2, v3⟩ := bl_sgn hw k2 h0 h1
    have bx : min 0 dx ≤ x ∧ x ≤ max 0 dx := by
      rcases Int.lt_trichotomy dx 0 with z | z | z
      · have := u2 z; omega
      · have := u3 z; omega
      · have := u1 z; omega
    have byy : min 0 dy ≤ y ∧ y ≤ max 0 dy := by
      rcases Int.lt_trichotomy dy 0 with z | z | z
      · have := v2 z; omega
      · have := v3 z; omega
      · have := v1 z; omega
    refine ⟨?_, ?_, bx, byy⟩
    · rintro ⟨rfl, rfl⟩
      rw [Int.zero_mul, Int.zero_mul] at h0
      omega
    · rintro ⟨rfl, rfl⟩
      omega
  · rintro ⟨n0, n1, ⟨x1, x2⟩, y1, y2⟩
    obtain ⟨p1, p2, p3, p4⟩ := bl_box x1 x2
    obtain ⟨q1, q2, q3, q4⟩ := bl_box y1 y2
    constructor
    · rcases Int.lt_or_le 0 (x * dx + y * dy) with z | z
      · exact z
      · exfalso
        have e1 : x * dx = 0 := by omega
        have e2 : y * dy = 0 := by omega
        refine n0 ?_
        rcases p3 e1 with w | w <;> rcases q3 e2 with w2 | w2
        · exact absurd ⟨w, w2⟩ hd
        · exact ⟨by omega, w2⟩
        · exact ⟨w, by omega⟩
        · exact ⟨w, w2⟩
    · rcases Int.lt_or_le (x * dx + y * dy) (dx * dx + dy * dy) with z | z
      · exact z
      · exfalso
        have e1 : x * dx = dx * dx := by omega
        have e2 : y * dy = dy * dy := by omega
        refine n1 ?_
        rcases p4 e1 with w | w <;> rcases q4 e2 with w2 | w2
        · exact absurd ⟨w, w2⟩ hd
        · exact ⟨by omega, w2⟩
        · exact ⟨w, by omega⟩
        · exact ⟨w, w2⟩
section C2
variable {fu : Nat} {sh : HS} {I : HI} {R : HR} {B SA HA : Nat} {ca xa ya sa : Int → Nat} {ρ : RHO} {s t : Int}
theorem c_seen_loop (D : BDV sh I R B SA HA ca xa ya sa ρ) (V : VB ρ) (h0 : 0 ≤ s) (h1 : s < ρ 4) : ∀ (d n a : Nat), a + d = 6 → d < n →
    fX9_seenBy_l22 fu sh I R n B (sa s) (ca (scS ρ s)) (iz (viewS ρ s)) (iz (mkS (seesS ρ s) a : Int)) (iz (a : Int)) = some (iz (visS ρ s : Int)) := by
  obtain ⟨a1, a2, a3, a4, a5, a6, a7, a8⟩ := V.shot h0 h1
  have hm := V.m
  have vl := V.lim
  have vv := V.view h0 h1
  obtain ⟨-, f0, f1, f2, f3, f4, -⟩ := D.2.2.2 s h0 h1
  obtain ⟨q1, q2, q3, q4, q5⟩ := D.su V h0 h1
  intro d
  induction d with
  | zero =>
    intro n a ha hn
    obtain ⟨n, rfl⟩ : ∃ k, n = k + 1 := ⟨n - 1, by omega⟩
    have e : a = 6 := by omega
    subst e
    show fX9_seenBy_b22 fu sh I R (fX9_seenBy_l22 fu sh I R n) _ _ _ _ _ _ = _
    unfold fX9_seenBy_b22
    rw [iz_lit, if_pos (by rw [iz_le (by decide) (by decide) (by decide) (by decide)]; decide)]
    rfl
  | succ d ih =>
    intro n a ha hn
    obtain ⟨n, rfl⟩ : ∃ k, n = k + 1 := ⟨n - 1, by omega⟩
    have k := ih n (a + 1) (by omega) (by omega)
    have ea : iz ((a + 1 : Nat) : Int) = iz (a : Int) + iz 1 := by rw [iz_add]; rfl
    rw [ea] at k
    have ha6 : (a : Int) < 6 := by omega
    have hmk : mkS (seesS ρ s) (a + 1) = mkS (seesS ρ s) a ||| (if seesS ρ s a = true then 2 ^ a else 0) := rfl
    rw [hmk] at k
    have hs : seesS ρ s a = (inS ρ (scS ρ s) a && (!(decide (axS ρ (scS ρ s) a - cxS ρ s = 0) && decide (ayS ρ (scS ρ s) a - cyS ρ s = 0)) && decide (turnS (viewS ρ s) (dirS (axS ρ (scS ρ s) a - cxS ρ s) (ayS ρ (scS ρ s) a - cyS ρ s)) ≤ ρ 2))) := rfl
    show fX9_seenBy_b22 fu sh I R (fX9_seenBy_l22 fu sh I R n) _ _ _ _ _ _ = _
    simp only [fX9_seenBy_b22, fX9_seenBy_b109, iz_lit, c_has D V a1.1 a1.2 (by omega : (0 : Int) ≤ (a : Int)) ha6, bsome, bz_zero, f1, f2, q2, q3, D.2.1.2.2.1, iz_shlz (show a < 31 by omega)]
    rw [if_neg (by rw [iz_le (by decide) (by decide) (by omega) (by omega)]; omega)]
    by_cases i1 : inS ρ (scS ρ s) a = true
    · have r1 := (V.scene a1.1 a1.2).2.2 a (by omega) ha6 i1
      obtain ⟨w1, w2⟩ := (D.2.2.1 _ a1.1 a1.2).2 a (by omega) ha6 i1
      rw [if_neg (by simp [i1]), c_isAt D V a1.1 a1.2 (by omega) ha6 i1 (by omega) (by omega) (by omega) (by omega), bsome]
      simp only [bz_zero, w1, w2, bsome, iz_sub]
      by_cases i2 : axS ρ (scS ρ s) a = cxS ρ s ∧ ayS ρ (scS ρ s) a = cyS ρ s
      · rw [decide_eq_true i2.1, decide_eq_true i2.2, if_neg (by decide)]
        rw [hs, i1, decide_eq_true (by omega), decide_eq_true (by omega)] at k
        simpa using k
      · have e1 : (decide (axS ρ (scS ρ s) a = cxS ρ s) && decide (ayS ρ (scS ρ s) a = cyS ρ s)) = false := by
          by_cases j1 : axS ρ (scS ρ s) a = cxS ρ s
          · rw [decide_eq_false (fun z => i2 ⟨j1, z⟩), Bool.and_false]
          · rw [decide_eq_false j1, Bool.false_and]
        have e2 : (!(decide (axS ρ (scS ρ s) a - cxS ρ s = 0) && decide (ayS ρ (scS ρ s) a - cyS ρ s = 0))) = true := by
          by_cases j1 : axS ρ (scS ρ s) a = cxS ρ s
          · have j2 : ¬ ayS ρ (scS ρ s) a - cyS ρ s = 0 := fun z => i2 ⟨j1, by omega⟩
            rw [decide_eq_false j2, Bool.and_false]; rfl
          · have j2 : ¬ axS ρ (scS ρ s) a - cxS ρ s = 0 := by omega
            rw [decide_eq_false j2, Bool.false_and]; rfl
        have dr := dir_range (x := axS ρ (scS ρ s) a - cxS ρ s) (y := ayS ρ (scS ρ s) a - cyS ρ s) (by omega) (by omega) (by omega) (by omega)
        have tr := turn_range vv.1 vv.2 dr.1 dr.2
        rw [e1, if_pos rfl, c_dir (by omega) (by omega) (by omega) (by omega), if_neg (by omega), bsome, c_turn (by omega) vv.2 (by omega) dr.2, bsome]
        rw [hs, i1, e2] at k
        simp (disch := omega) only [iz_lt]
        by_cases j : ρ 2 < turnS (viewS ρ s) (dirS (axS ρ (scS ρ s) a - cxS ρ s) (ayS ρ (scS ρ s) a - cyS ρ s))
        · rw [if_pos j]
          rw [decide_eq_false (by omega)] at k
          simpa using k
        · rw [if_neg j, iz_orN]
          rw [decide_eq_true (by omega)] at k
          simpa using k
    · have i3 : inS ρ (scS ρ s) a = false := by simpa using i1
      rw [if_pos i3]
      rw [hs, i3] at k
      simpa using k
theorem c_seen (D : BDV sh I R B SA HA ca xa ya sa ρ) (V : VB ρ) (hfu : 5000 ≤ fu) (h0 : 0 ≤ s) (h1 : s < ρ 4) : fX9_seenBy fu sh I R B (sa s) = some (iz (visS ρ s : Int)) := by
  obtain ⟨-, f0, -⟩ := D.2.2.2 s h0 h1
  obtain ⟨q1, -⟩ := D.su V h0 h1
  have k := c_seen_loop (fu := fu) D V h0 h1 6 fu 0 rfl (by omega)
  simp only [fX9_seenBy, D.1.2.1, f0, q1, bsome, c_view D V h0 h1, iz_lit]
  exact k
theorem c_block_loop (D : BDV sh I R B SA HA ca xa ya sa ρ) (V : VB ρ) (h0 : 0 ≤ s) (h1 : s < ρ 4) : ∀ (d n a : Nat), a + d = 6 → d < n →
    fX9_blockerOf_l55 fu sh I R n (sa s) (ca (scS ρ s)) (iz (sxS ρ s - cxS ρ s)) (iz (syS ρ s - cyS ρ s)) (iz ((sxS ρ s - cxS ρ s) * (sxS ρ s - cxS ρ s) + (syS ρ s - cyS ρ s) * (syS ρ s - cyS ρ s))) (iz (a : Int)) = some (iz (fstS (betwS ρ s) a d)) := by
  obtain ⟨a1, a2, a3, a4, a5, a6, a7, a8⟩ := V.shot h0 h1
  have b := V.sub h0 h1
  have hm := V.m
  obtain ⟨-, f0, f1, f2, f3, f4, -⟩ := D.2.2.2 s h0 h1
  obtain ⟨q1, q2, q3, q4, q5⟩ := D.su V h0 h1
  intro d
  induction d with
  | zero =>
    intro n a ha hn
    obtain ⟨n, rfl⟩ : ∃ k, n = k + 1 := ⟨n - 1, by omega⟩
    have e : a = 6 := by omega
    subst e
    show fX9_blockerOf_b55 fu sh I R (fX9_blockerOf_l55 fu sh I R n) _ _ _ _ _ _ = _
    unfold fX9_blockerOf_b55
    rw [iz_lit, if_pos (by rw [iz_le (by decide) (by decide) (by decide) (by decide)]; decide)]
    rfl
  | succ d ih =>
    intro n a ha hn
    obtain ⟨n, rfl⟩ : ∃ k, n = k + 1 := ⟨n - 1, by omega⟩
    have k := ih n (a + 1) (by omega) (by omega)
    have ea : iz ((a + 1 : Nat) : Int) = iz (a : Int) + iz 1 := by rw [iz_add]; rfl
    rw [ea] at k
    have ha6 : (a : Int) < 6 := by omega
    have hf : fstS (betwS ρ s) a (d + 1) = if betwS ρ s a = true then (a : Int) else fstS (betwS ρ s) (a + 1) d := rfl
    show fX9_blockerOf_b55 fu sh I R (fX9_blockerOf_l55 fu sh I R n) _ _ _ _ _ _ = _
    simp only [fX9_blockerOf_b55, fX9_blockerOf_b132, fX9_blockerOf_b154, iz_lit, c_has D V a1.1 a1.2 (by omega : (0 : Int) ≤ (a : Int)) ha6, bsome, bz_zero, f1, f2, q2, q3, k]
    rw [if_neg (by rw [iz_le (by decide) (by decide) (by omega) (by omega)]; omega), hf, betw_5]
    by_cases i1 : inS ρ (scS ρ s) a = true
    · have r1 := (V.scene a1.1 a1.2).2.2 a (by omega) ha6 i1
      obtain ⟨w1, w2⟩ := (D.2.2.1 _ a1.1 a1.2).2 a (by omega) ha6 i1
      rw [if_neg (by simp [i1]), i1]
      simp only [w1, w2, bsome, iz_sub, c_cross, iz_mul, iz_add]
      have c1 := cross_range (x := sxS ρ s - cxS ρ s) (y := syS ρ s - cyS ρ s) (u := axS ρ (scS ρ s) a - cxS ρ s) (v := ayS ρ (scS ρ s) a - cyS ρ s) (by omega) (by omega) (by omega) (by omega) (by omega) (by omega) (by omega) (by omega)
      have m1 := mul_le (a := axS ρ (scS ρ s) a - cxS ρ s) (b := sxS ρ s - cxS ρ s) (A := 199) (B := 199) (by omega) (by omega) (by omega) (by omega)
      have m2 := mul_le (a := ayS ρ (scS ρ s) a - cyS ρ s) (b := syS ρ s - cyS ρ s) (A := 199) (B := 199) (by omega) (by omega) (by omega) (by omega)
      have m3 := mul_le (a := sxS ρ s - cxS ρ s) (b := sxS ρ s - cxS ρ s) (A := 199) (B := 199) (by omega) (by omega) (by omega) (by omega)
      have m4 := mul_le (a := syS ρ s - cyS ρ s) (b := syS ρ s - cyS ρ s) (A := 199) (B := 199) (by omega) (by omega) (by omega) (by omega)
      have hbi := bl_iff (x := axS ρ (scS ρ s) a - cxS ρ s) (y := ayS ρ (scS ρ s) a - cyS ρ s) (dx := sxS ρ s - cxS ρ s) (dy := syS ρ s - cyS ρ s) (by omega)
      simp (disch := omega) only [iz_eq, iz_le, iz10, if_false, if_true]
      by_cases i2 : crossS (sxS ρ s - cxS ρ s) (syS ρ s - cyS ρ s) (axS ρ (scS ρ s) a - cxS ρ s) (ayS ρ (scS ρ s) a - cyS ρ s) = 0
      · rw [if_pos i2]
        have hbi := hbi i2
        have hb5 : (!decide ((a : Int) = suS ρ s) && (true && b5S ρ s a)) = true ↔ (0 < (axS ρ (scS ρ s) a - cxS ρ s) * (sxS ρ s - cxS ρ s) + (ayS ρ (scS ρ s) a - cyS ρ s) * (syS ρ s - cyS ρ s) ∧ (axS ρ (scS ρ s) a - cxS ρ s) * (sxS ρ s - cxS ρ s) + (ayS ρ (scS ρ s) a - cyS ρ s) * (syS ρ s - cyS ρ s) < (sxS ρ s - cxS ρ s) * (sxS ρ s - cxS ρ s) + (syS ρ s - cyS ρ s) * (syS ρ s - cyS ρ s)) := by
          rw [hbi]
          unfold b5S
          simp only [Bool.and_eq_true, Bool.not_eq_true', decide_eq_false_iff_not, decide_eq_true_eq, i2, Bool.true_and, true_and, Bool.and_eq_false_iff]
          constructor
          · rintro ⟨z0, z1, z2, z3, z4⟩
            exact ⟨by omega, by omega, by omega, by omega⟩
          · rintro ⟨z1, z2, z3, z4⟩
            refine ⟨fun z => ?_, by omega, by omega, by omega, by omega⟩
            have y1 : axS ρ (scS ρ s) a = sxS ρ s := by rw [z]; rfl
            have y2 : ayS ρ (scS ρ s) a = syS ρ s := by rw [z]; rfl
            omega
        generalize (axS ρ (scS ρ s) a - cxS ρ s) * (sxS ρ s - cxS ρ s) + (ayS ρ (scS ρ s) a - cyS ρ s) * (syS ρ s - cyS ρ s) = g1 at hb5 ⊢
        generalize (sxS ρ s - cxS ρ s) * (sxS ρ s - cxS ρ s) + (syS ρ s - cyS ρ s) * (syS ρ s - cyS ρ s) = g2 at hb5 ⊢
        rw [if_neg (show ¬ (1 : Int) = 0 by decide)]
        by_cases j1 : 0 < g1 ∧ g1 < g2
        · rw [if_neg (by omega), if_neg (by omega), if_pos (hb5.mpr j1)]
        · rw [if_neg (c := _ = true) (fun z => j1 (hb5.mp z))]
          by_cases j2 : g1 ≤ 0
          · rw [if_pos j2]
          · rw [if_neg j2, if_pos (by omega)]
      · rw [if_neg i2]
        have e5 : b5S ρ s a = false := by
          unfold b5S
          rw [decide_eq_false i2]
          simp
        rw [e5]
        simp
    · have i3 : inS ρ (scS ρ s) a = false := by simpa using i1
      rw [if_pos i3, i3]
      simp
theorem c_block (D : BDV sh I R B SA HA ca xa ya sa ρ) (V : VB ρ) (hfu : 5000 ≤ fu) (h0 : 0 ≤ s) (h1 : s < ρ 4) : fX9_blockerOf fu sh I R B (sa s) = some (iz (blockS ρ s)) := by
  obtain ⟨-, f0, f1, f2, f3, -⟩ := D.2.2.2 s h0 h1
  obtain ⟨q1, q2, q3, q4, q5⟩ := D.su V h0 h1
  have k := c_block_loop (fu := fu) D V h0 h1 6 fu 0 rfl (by omega)
  simp only [fX9_blockerOf, D.1.2.1, f0, f1, f2, f3, q1, q2, q3, q4, q5, bsome, iz_lit, iz_sub, iz_mul, iz_add]
  exact k
end C2
