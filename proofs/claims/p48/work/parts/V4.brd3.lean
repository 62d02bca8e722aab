/-! THE LAW, STAGE 2: eyelines, what stands between -/
theorem bx_one {x d : Int} (h1 : min 0 d ≤ x) (h2 : x ≤ max 0 d) : 0 ≤ x * d ∧ x * d ≤ d * d ∧ (¬ x = 0 → 0 < x * d) ∧ (¬ x = d → x * d < d * d) := by
  rcases Int.lt_trichotomy d 0 with h | h | h
  · have a1 : d ≤ x := by omega
    have a2 : x ≤ 0 := by omega
    have e1 : x * d = (-x) * (-d) := by rw [Int.neg_mul_neg]
    have e2 : d * d = (-d) * (-d) := by rw [Int.neg_mul_neg]
    rw [e1, e2]
    refine ⟨Int.mul_nonneg (by omega) (by omega), Int.mul_le_mul_of_nonneg_right (by omega) (by omega), fun z => Int.mul_pos (by omega) (by omega), fun z => Int.mul_lt_mul_of_pos_right (by omega) (by omega)⟩
  · subst h
    have : x = 0 := by omega
    subst this
    simp
  · have a1 : 0 ≤ x := by omega
    have a2 : x ≤ d := by omega
    refine ⟨Int.mul_nonneg (by omega) (by omega), Int.mul_le_mul_of_nonneg_right (by omega) (by omega), fun z => Int.mul_pos (by omega) (by omega), fun z => Int.mul_lt_mul_of_pos_right (by omega) (by omega)⟩
theorem bx_two {x d a N : Int} (hN : 0 < N) (h : x * N = d * a) (h1 : 0 < a) (h2 : a < N) : (0 < d → 0 < x ∧ x < d) ∧ (d = 0 → x = 0) ∧ (d < 0 → d < x ∧ x < 0) := by
  refine ⟨fun z => ⟨?_, ?_⟩, fun z => ?_, fun z => ⟨?_, ?_⟩⟩
  · have q : 0 * N < x * N := by rw [h, Int.zero_mul]; exact Int.mul_pos z h1
    exact Int.lt_of_mul_lt_mul_right q (by omega)
  · have q : x * N < d * N := by rw [h]; exact Int.mul_lt_mul_of_pos_left h2 z
    exact Int.lt_of_mul_lt_mul_right q (by omega)
  · rw [z, Int.zero_mul] at h
    rcases Int.mul_eq_zero.mp h with h | h
    · exact h
    · omega
  · have q : d * N < x * N := by
      rw [h]
      have := Int.mul_lt_mul_of_pos_left h2 (show 0 < -d by omega)
      rw [Int.neg_mul, Int.neg_mul] at this
      omega
    exact Int.lt_of_mul_lt_mul_right q (by omega)
  · have q : x * N < 0 * N := by
      rw [h, Int.zero_mul]
      have := Int.mul_pos (show 0 < -d by omega) h1
      rw [Int.neg_mul] at this
      omega
    exact Int.lt_of_mul_lt_mul_right q (by omega)
theorem betw_eq {x y dx dy : Int} (h0 : ¬ (dx = 0 ∧ dy = 0)) (hc : dx * y = dy * x) : (0 < x * dx + y * dy ∧ x * dx + y * dy < dx * dx + dy * dy) ↔ (¬ (x = 0 ∧ y = 0) ∧ ¬ (x = dx ∧ y = dy) ∧ (min 0 dx ≤ x ∧ x ≤ max 0 dx) ∧ (min 0 dy ≤ y ∧ y ≤ max 0 dy)) := by
  constructor
  · rintro ⟨h1, h2⟩
    have hN : 0 < dx * dx + dy * dy := by omega
    have e1 : x * (dx * dx + dy * dy) = dx * (x * dx + y * dy) := by
      have a1 : x * (dx * dx + dy * dy) = x * dx * dx + dy * x * dy := by
        rw [Int.mul_add, Int.mul_assoc x dx dx, Int.mul_comm dy x, Int.mul_assoc x dy dy]
      have a2 : dx * (x * dx + y * dy) = x * dx * dx + dx * y * dy := by
        rw [Int.mul_add, ← Int.mul_assoc dx x dx, Int.mul_comm dx x, Int.mul_assoc dx y dy]
      rw [a1, a2, hc]
    have e2 : y * (dx * dx + dy * dy) = dy * (x * dx + y * dy) := by
      have a1 : y * (dx * dx + dy * dy) = dx * y * dx + y * dy * dy := by
        rw [Int.mul_add, ← Int.mul_assoc y dx dx, Int.mul_comm y dx, ← Int.mul_assoc y dy dy]
      have a2 : dy * (x * dx + y * dy) = dy * x * dx + y * dy * dy := by
        rw [Int.mul_add, ← Int.mul_assoc dy x dx, Int.mul_comm dy (y * dy)]
      rw [a1, a2, hc]
    obtain ⟨b1, b2, b3⟩ := bx_two hN e1 h1 h2
    obtain ⟨c1, c2, c3⟩ := bx_two hN e2 h1 h2
    rcases Int.lt_trichotomy dx 0 with g | g | g <;> rcases Int.lt_trichotomy dy 0 with k | k | k <;> first
      | (have := b3 g; have := c3 k; omega) | (have := b3 g; have := c2 k; omega) | (have := b3 g; have := c1 k; omega)
      | (have := b2 g; have := c3 k; omega) | (have := b2 g; have := c2 k; omega) | (have := b2 g; have := c1 k; omega)
      | (have := b1 g; have := c3 k; omega) | (have := b1 g; have := c2 k; omega) | (have := b1 g; have := c1 k; omega)
  · rintro ⟨h1, h2, ⟨h3, h4⟩, ⟨h5, h6⟩⟩
    obtain ⟨a1, a2, a3, a4⟩ := bx_one h3 h4
    obtain ⟨b1, b2, b3, b4⟩ := bx_one h5 h6
    refine ⟨?_, ?_⟩
    · by_cases z : x = 0
      · have := b3 (by omega)
        omega
      · have := a3 z
        omega
    · by_cases z : x = dx
      · have := b4 (by omega)
        omega
      · have := a4 z
        omega
theorem mul_rg {a b : Int} (h1 : -199 ≤ a) (h2 : a ≤ 199) (h3 : -199 ≤ b) (h4 : b ≤ 199) : -39601 ≤ a * b ∧ a * b ≤ 39601 := by
  have h := cross_range (x := a) (y := 0) (u := 0) (v := b) h1 h2 (by decide) (by decide) (by decide) (by decide) h3 h4
  have e : a * b = (a * b).natAbs ∨ a * b = -(a * b).natAbs := by omega
  have e2 : (a * b).natAbs ≤ 199 * 199 := by
    rw [Int.natAbs_mul]
    exact Nat.mul_le_mul (by omega) (by omega)
  omega
theorem betw_of {ρ : RHO} {s : Int} {a : Nat} : betwS ρ s a = true ↔ (¬ (a : Int) = suS ρ s ∧ inS ρ (scS ρ s) a = true ∧ (¬ axS ρ (scS ρ s) a = cxS ρ s ∨ ¬ ayS ρ (scS ρ s) a = cyS ρ s) ∧ (¬ axS ρ (scS ρ s) a = sxS ρ s ∨ ¬ ayS ρ (scS ρ s) a = syS ρ s) ∧ (sxS ρ s - cxS ρ s) * (ayS ρ (scS ρ s) a - cyS ρ s) - (syS ρ s - cyS ρ s) * (axS ρ (scS ρ s) a - cxS ρ s) = 0 ∧ (min (cxS ρ s) (sxS ρ s) ≤ axS ρ (scS ρ s) a ∧ axS ρ (scS ρ s) a ≤ max (cxS ρ s) (sxS ρ s)) ∧ (min (cyS ρ s) (syS ρ s) ≤ ayS ρ (scS ρ s) a ∧ ayS ρ (scS ρ s) a ≤ max (cyS ρ s) (syS ρ s))) := by
  unfold betwS crossS
  simp only [Bool.and_eq_true, Bool.not_eq_true', Bool.and_eq_false_iff, decide_eq_true_eq, decide_eq_false_iff_not]
section LB
variable {K J : Nat → Nat} {fu : Nat} {sh : HS} {I : HI} {R : HR} {A : Nat → Nat} {cap : Nat} {S : List Nat} {ρ : RHO} {k q j q' : Nat} {P : Int32 → HS → HI → HR → Prop}
theorem l_eye (B : LBD sh I R K A cap S ρ) (V : VB ρ) (hk : S[k]? = some q) (hP : P (iz (eyeS ρ k)) sh I R) : wL_eyeline K J fu sh I R (A 0) q (qwI P) := by
  obtain ⟨k0, k1, hq⟩ := B.kk hk
  obtain ⟨v1, v2, v3, v4, v5, v6, v7, v8⟩ := V.shot k0 k1
  obtain ⟨w1, w2⟩ := V.sub k0 k1
  obtain ⟨e0, e1, e2, e3, e4, e5⟩ := B.2.2.2.2.2 k q hk
  unfold wL_eyeline
  refine wB_of (oA2_n hq 4 (by decide) il4) ?_
  rw [e4]
  by_cases hp : paS ρ k = -1
  · unfold eyeS at hP
    rw [if_pos hp] at hP
    rw [hp, if_neg (by rw [ile il0 rfl ⟨by decide, by decide⟩ ⟨by decide, by decide⟩]; decide)]
    exact ⟨_, rfl, by rw [il2, iz_neg]; exact hP⟩
  · have p := V.par k0 k1 hp
    have p6 : inS ρ (scS ρ k) (paS ρ k) = true := by
      rcases v6 with h | ⟨-, h, -⟩
      · exact absurd h hp
      · exact h
    rw [if_pos (by rw [ile il0 rfl ⟨by decide, by decide⟩ ⟨by omega, by omega⟩]; exact p.1.1)]
    unfold eyeS pxS pyS sxS syS at hP
    rw [if_neg hp] at hP
    refine wB_of (oA2_n hq 4 (by decide) il4) ?_
    rw [e4]
    refine ⟨B.r, l_axS B V hk p.1.1 p.1.2 p6 ?_⟩
    refine wB_of (oA2_n hq 3 (by decide) il3) ?_
    rw [e3]
    refine ⟨B.r, l_axS B V hk v4.1 v4.2 v5 ?_⟩
    refine wB_of (oA2_n hq 4 (by decide) il4) ?_
    rw [e4]
    refine ⟨B.r, l_ayS B V hk p.1.1 p.1.2 p6 ?_⟩
    refine wB_of (oA2_n hq 3 (by decide) il3) ?_
    rw [e3]
    refine ⟨B.r, l_ayS B V hk v4.1 v4.2 v5 ?_⟩
    rw [iz_sub, iz_sub]
    have z0 : (0 ≤ axS ρ (scS ρ k) (paS ρ k) ∧ axS ρ (scS ρ k) (paS ρ k) ≤ 199) ∧ (0 ≤ ayS ρ (scS ρ k) (paS ρ k) ∧ ayS ρ (scS ρ k) (paS ρ k) ≤ 199) := ⟨p.2.1, p.2.2.1⟩
    have z1 : (0 ≤ axS ρ (scS ρ k) (suS ρ k) ∧ axS ρ (scS ρ k) (suS ρ k) ≤ 199) ∧ (0 ≤ ayS ρ (scS ρ k) (suS ρ k) ∧ ayS ρ (scS ρ k) (suS ρ k) ≤ 199) := ⟨w1, w2⟩
    have z2 : ¬ (axS ρ (scS ρ k) (suS ρ k) = cxS ρ k ∧ ayS ρ (scS ρ k) (suS ρ k) = cyS ρ k) := v8
    have go : ¬ (axS ρ (scS ρ k) (paS ρ k) - axS ρ (scS ρ k) (suS ρ k) = 0 ∧ ayS ρ (scS ρ k) (paS ρ k) - ayS ρ (scS ρ k) (suS ρ k) = 0) → wL_eyeline_b58 K J fu (qwI P) sh I R (A 0) q (iz (axS ρ (scS ρ k) (paS ρ k) - axS ρ (scS ρ k) (suS ρ k))) (iz (ayS ρ (scS ρ k) (paS ρ k) - ayS ρ (scS ρ k) (suS ρ k))) := by
      intro hf
      rw [if_neg hf] at hP
      have d1 := dir_range (x := axS ρ (scS ρ k) (paS ρ k) - axS ρ (scS ρ k) (suS ρ k)) (y := ayS ρ (scS ρ k) (paS ρ k) - ayS ρ (scS ρ k) (suS ρ k)) (by omega) (by omega) (by omega) (by omega)
      have d2 := dir_range (x := cxS ρ k - axS ρ (scS ρ k) (suS ρ k)) (y := cyS ρ k - ayS ρ (scS ρ k) (suS ρ k)) (by omega) (by omega) (by omega) (by omega)
      unfold wL_eyeline_b58
      refine wB_of (l_dir (by omega) (by omega) (by omega) (by omega) hf) ?_
      refine wB_of (oA2_n hq 1 (by decide) il1) ?_
      refine wB_of (oA2_n hq 3 (by decide) il3) ?_
      rw [e1, e3]
      refine ⟨B.r, l_axS B V hk v4.1 v4.2 v5 ?_⟩
      refine wB_of (oA2_n hq 2 (by decide) il2) ?_
      refine wB_of (oA2_n hq 3 (by decide) il3) ?_
      rw [e2, e3]
      refine ⟨B.r, l_ayS B V hk v4.1 v4.2 v5 ?_⟩
      rw [iz_sub, iz_sub]
      refine wB_of (l_dir (by omega) (by omega) (by omega) (by omega) (by omega)) ?_
      refine wB_of (l_turn d1.1 d1.2 d2.1 d2.2) ?_
      unfold wL_eyeline_b93
      exact ⟨_, rfl, hP⟩
    by_cases c1 : axS ρ (scS ρ k) (paS ρ k) - axS ρ (scS ρ k) (suS ρ k) = 0
    · rw [if_pos (by rw [ieq rfl il0 ⟨by omega, by omega⟩ ⟨by decide, by decide⟩]; exact c1)]
      by_cases c2 : ayS ρ (scS ρ k) (paS ρ k) - ayS ρ (scS ρ k) (suS ρ k) = 0
      · rw [if_pos (by rw [ieq rfl il0 ⟨by omega, by omega⟩ ⟨by decide, by decide⟩]; exact c2)]
        rw [if_pos ⟨c1, c2⟩] at hP
        unfold wL_eyeline_b93
        exact ⟨_, rfl, by rw [il3, iz_neg]; exact hP⟩
      · rw [if_neg (by rw [ieq rfl il0 ⟨by omega, by omega⟩ ⟨by decide, by decide⟩]; exact c2)]
        exact go (fun z => c2 z.2)
    · rw [if_neg (by rw [ieq rfl il0 ⟨by omega, by omega⟩ ⟨by decide, by decide⟩]; exact c1)]
      exact go (fun z => c1 z.1)
theorem l_blk125 {F : VF} {k4 : HS → HI → HR → Nat → Nat → Int32 → Int32 → Int32 → Prop} {m9 : Nat} {x y : Int32} {a : Nat} (h : k4 sh I R m9 q x y (iz ((a + 1 : Nat) : Int))) : wX11_blocker_b125 K J fu F k4 sh I R m9 q x y (iz (a : Int)) := by
  unfold wX11_blocker_b125
  rw [il1, iz_add]
  exact h
theorem l_blkL (B : LBD sh I R K A cap S ρ) (V : VB ρ) (hk : S[k]? = some q) (hP : P (iz (blockS ρ k)) sh I R) : ∀ (d a n : Nat), a + d = 6 → d < n → blockS ρ k = fstS (betwS ρ k) a d → wX11_blocker_l29 K J fu (qwI P) n sh I R (A 0) q (iz (sxS ρ k - cxS ρ k)) (iz (syS ρ k - cyS ρ k)) (iz (a : Int)) := by
  obtain ⟨k0, k1, hq⟩ := B.kk hk
  obtain ⟨v1, v2, v3, v4, v5, v6, v7, v8⟩ := V.shot k0 k1
  obtain ⟨w1, w2⟩ := V.sub k0 k1
  obtain ⟨e0, e1, e2, e3, e4, e5⟩ := B.2.2.2.2.2 k q hk
  intro d
  induction d with
  | zero =>
    intro a n had hn he
    obtain ⟨n', rfl⟩ : ∃ n', n = n' + 1 := ⟨n - 1, by omega⟩
    show wX11_blocker_b29 K J fu (qwI P) (wX11_blocker_l29 K J fu (qwI P) n') sh I R (A 0) q _ _ _
    unfold wX11_blocker_b29
    rw [if_pos (by rw [ile il6 rfl ⟨by decide, by decide⟩ ⟨by omega, by omega⟩]; show (6 : Int) ≤ _; omega)]
    have he2 : blockS ρ k = -1 := he
    rw [he2] at hP
    exact ⟨_, rfl, by rw [il1, iz_neg]; exact hP⟩
  | succ d ih =>
    intro a n had hn he
    obtain ⟨n', rfl⟩ : ∃ n', n = n' + 1 := ⟨n - 1, by omega⟩
    have hfs : fstS (betwS ρ k) a (d + 1) = if betwS ρ k a = true then (a : Int) else fstS (betwS ρ k) (a + 1) d := rfl
    rw [hfs] at he
    show wX11_blocker_b29 K J fu (qwI P) (wX11_blocker_l29 K J fu (qwI P) n') sh I R (A 0) q _ _ _
    have skip : betwS ρ k a = false → wX11_blocker_b125 K J fu (qwI P) (wX11_blocker_l29 K J fu (qwI P) n') sh I R (A 0) q (iz (sxS ρ k - cxS ρ k)) (iz (syS ρ k - cyS ρ k)) (iz (a : Int)) := by
      intro hs
      rw [hs, if_neg (by decide)] at he
      exact l_blk125 (ih (a + 1) n' (by omega) (by omega) he)
    unfold wX11_blocker_b29
    rw [if_neg (by rw [ile il6 rfl ⟨by decide, by decide⟩ ⟨by omega, by omega⟩]; show ¬ (6 : Int) ≤ _; omega)]
    refine ⟨B.r, l_ax B V hk (by omega) ?_⟩
    by_cases hi : inS ρ (scS ρ k) a = true
    · have sc := (V.scene v1.1 v1.2).2.2 a (by omega) (by omega) hi
      have hx : lxS ρ (scS ρ k) a = axS ρ (scS ρ k) a := by unfold lxS; rw [if_pos hi]
      have hy : lyS ρ (scS ρ k) a = ayS ρ (scS ρ k) a := by unfold lyS; rw [if_pos hi]
      rw [hx, if_neg (by rw [ilt rfl il0 ⟨by omega, by omega⟩ ⟨by decide, by decide⟩]; show ¬ _ < (0 : Int); omega)]
      refine wB_of (oA2_n hq 3 (by decide) il3) ?_
      rw [e3]
      by_cases hs : (a : Int) = suS ρ k
      · rw [if_pos (by rw [hs])]
        exact skip (by unfold betwS; simp [hs])
      · rw [if_neg (by rw [ieq rfl rfl ⟨by omega, by omega⟩ ⟨by omega, by omega⟩]; exact hs)]
        refine ⟨B.r, l_ax B V hk (by omega) ?_⟩
        rw [hx]
        refine wB_of (oA2_n hq 1 (by decide) il1) ?_
        refine ⟨B.r, l_ay B V hk (by omega) ?_⟩
        rw [hy]
        refine wB_of (oA2_n hq 2 (by decide) il2) ?_
        rw [e1, e2]
        simp only [iz_sub, iz_mul, iz_add]
        have hd : ¬ (sxS ρ k - cxS ρ k = 0 ∧ syS ρ k - cyS ρ k = 0) := by omega
        have b0 := betw_of (ρ := ρ) (s := (k : Int)) (a := a)
        have r1 : (-199 ≤ sxS ρ k - cxS ρ k ∧ sxS ρ k - cxS ρ k ≤ 199) ∧ (-199 ≤ syS ρ k - cyS ρ k ∧ syS ρ k - cyS ρ k ≤ 199) ∧ (-199 ≤ axS ρ (scS ρ k) a - cxS ρ k ∧ axS ρ (scS ρ k) a - cxS ρ k ≤ 199) ∧ (-199 ≤ ayS ρ (scS ρ k) a - cyS ρ k ∧ ayS ρ (scS ρ k) a - cyS ρ k ≤ 199) := by omega
        have b1 : betwS ρ k a = true ↔ (¬ (axS ρ (scS ρ k) a - cxS ρ k = 0 ∧ ayS ρ (scS ρ k) a - cyS ρ k = 0) ∧ ¬ (axS ρ (scS ρ k) a - cxS ρ k = sxS ρ k - cxS ρ k ∧ ayS ρ (scS ρ k) a - cyS ρ k = syS ρ k - cyS ρ k) ∧ (min 0 (sxS ρ k - cxS ρ k) ≤ axS ρ (scS ρ k) a - cxS ρ k ∧ axS ρ (scS ρ k) a - cxS ρ k ≤ max 0 (sxS ρ k - cxS ρ k)) ∧ (min 0 (syS ρ k - cyS ρ k) ≤ ayS ρ (scS ρ k) a - cyS ρ k ∧ ayS ρ (scS ρ k) a - cyS ρ k ≤ max 0 (syS ρ k - cyS ρ k))) ∧ (sxS ρ k - cxS ρ k) * (ayS ρ (scS ρ k) a - cyS ρ k) = (syS ρ k - cyS ρ k) * (axS ρ (scS ρ k) a - cxS ρ k) := by
          rw [b0]
          generalize (sxS ρ k - cxS ρ k) * (ayS ρ (scS ρ k) a - cyS ρ k) = X1
          generalize (syS ρ k - cyS ρ k) * (axS ρ (scS ρ k) a - cxS ρ k) = X2
          constructor
          · rintro ⟨h1, h2, h3, h4, h5, h6, h7⟩
            exact ⟨⟨by omega, by omega, by omega, by omega⟩, by omega⟩
          · rintro ⟨⟨h1, h2, h3, h4⟩, h5⟩
            exact ⟨hs, hi, by omega, by omega, by omega, by omega, by omega⟩
        generalize sxS ρ k - cxS ρ k = dx at *
        generalize syS ρ k - cyS ρ k = dy at *
        generalize axS ρ (scS ρ k) a - cxS ρ k = x at *
        generalize ayS ρ (scS ρ k) a - cyS ρ k = y at *
        obtain ⟨q1, q2, q3, q4⟩ := r1
        have n1 := mul_rg q1.1 q1.2 q4.1 q4.2
        have n2 := mul_rg q2.1 q2.2 q3.1 q3.2
        have n3 := mul_rg q3.1 q3.2 q1.1 q1.2
        have n4 := mul_rg q4.1 q4.2 q2.1 q2.2
        have n5 := mul_rg q1.1 q1.2 q1.1 q1.2
        have n6 := mul_rg q2.1 q2.2 q2.1 q2.2
        by_cases hc : dx * y = dy * x
        · rw [if_pos (by rw [hc])]
          have bq := betw_eq hd hc
          by_cases g1 : 0 < x * dx + y * dy
          · rw [if_neg (by rw [ile rfl il0 ⟨by omega, by omega⟩ ⟨by decide, by decide⟩]; omega)]
            by_cases g2 : x * dx + y * dy < dx * dx + dy * dy
            · rw [if_neg (by rw [ile rfl rfl ⟨by omega, by omega⟩ ⟨by omega, by omega⟩]; omega)]
              have hb : betwS ρ k a = true := b1.mpr ⟨bq.mp ⟨g1, g2⟩, hc⟩
              rw [hb, if_pos rfl] at he
              rw [he] at hP
              exact ⟨_, rfl, hP⟩
            · rw [if_pos (by rw [ile rfl rfl ⟨by omega, by omega⟩ ⟨by omega, by omega⟩]; omega)]
              refine skip ?_
              cases hb : betwS ρ k a with
              | false => rfl
              | true => exact absurd (bq.mpr (b1.mp hb).1).2 g2
          · rw [if_pos (by rw [ile rfl il0 ⟨by omega, by omega⟩ ⟨by decide, by decide⟩]; omega)]
            refine skip ?_
            cases hb : betwS ρ k a with
            | false => rfl
            | true => exact absurd (bq.mpr (b1.mp hb).1).1 g1
        · rw [if_neg (by rw [ieq rfl rfl ⟨by omega, by omega⟩ ⟨by omega, by omega⟩]; exact hc)]
          refine skip ?_
          cases hb : betwS ρ k a with
          | false => rfl
          | true => exact absurd (b1.mp hb).2 hc
    · have hx : lxS ρ (scS ρ k) a = -1 := by unfold lxS; rw [if_neg hi]
      rw [hx, if_pos (by rw [ilt rfl il0 ⟨by decide, by decide⟩ ⟨by decide, by decide⟩]; decide)]
      exact skip (by unfold betwS; simp at hi; simp [hi])
theorem l_blocker (B : LBD sh I R K A cap S ρ) (V : VB ρ) (hk : S[k]? = some q) (hfu : 5000 ≤ fu) (hP : P (iz (blockS ρ k)) sh I R) : wX11_blocker K J fu sh I R (A 0) q (qwI P) := by
  obtain ⟨k0, k1, hq⟩ := B.kk hk
  obtain ⟨v1, v2, v3, v4, v5, v6, v7, v8⟩ := V.shot k0 k1
  obtain ⟨e0, e1, e2, e3, e4, e5⟩ := B.2.2.2.2.2 k q hk
  unfold wX11_blocker
  refine wB_of (oA2_n hq 3 (by decide) il3) ?_
  rw [e3]
  refine ⟨B.r, l_axS B V hk v4.1 v4.2 v5 ?_⟩
  refine wB_of (oA2_n hq 1 (by decide) il1) ?_
  refine wB_of (oA2_n hq 3 (by decide) il3) ?_
  rw [e1, e3]
  refine ⟨B.r, l_ayS B V hk v4.1 v4.2 v5 ?_⟩
  refine wB_of (oA2_n hq 2 (by decide) il2) ?_
  rw [e2, iz_sub, iz_sub]
  exact l_blkL B V hk hP 6 0 fu rfl (by omega) rfl
end LB
