/-! THE LAW, STAGE 2: sides, looks, near cameras, eyelines, who is seen -/
section LB
variable {K J : Nat → Nat} {fu : Nat} {sh : HS} {I : HI} {R : HR} {A : Nat → Nat} {cap : Nat} {S : List Nat} {ρ : RHO} {k q j q' : Nat} {P : Int32 → HS → HI → HR → Prop}
theorem l_side (B : LBD sh I R K A cap S ρ) (V : VB ρ) (hk : S[k]? = some q) (hP : P (iz (sideS ρ k)) sh I R) : wX11_side K J fu sh I R (A 0) q (qwI P) := by
  obtain ⟨k0, k1, hq⟩ := B.kk hk
  obtain ⟨v1, v2, v3, v4, v5, v6, v7, v8⟩ := V.shot k0 k1
  obtain ⟨w1, w2⟩ := V.sub k0 k1
  obtain ⟨e0, e1, e2, e3, e4, e5⟩ := B.2.2.2.2.2 k q hk
  unfold wX11_side
  refine wB_of (oA2_n hq 4 (by decide) il4) ?_
  rw [e4]
  by_cases hp : paS ρ k = -1
  · unfold sideS at hP
    rw [if_pos hp] at hP
    rw [hp, if_neg (by rw [ile il0 rfl ⟨by decide, by decide⟩ ⟨by decide, by decide⟩]; decide)]
    exact ⟨_, rfl, by rw [il0]; exact hP⟩
  · have p := V.par k0 k1 hp
    have p6 : inS ρ (scS ρ k) (paS ρ k) = true := by
      rcases v6 with h | ⟨-, h, -⟩
      · exact absurd h hp
      · exact h
    rw [if_pos (by rw [ile il0 rfl ⟨by decide, by decide⟩ ⟨by omega, by omega⟩]; exact p.1.1)]
    refine wB_of (oA2_n hq 3 (by decide) il3) ?_
    refine wB_of (oA2_n hq 4 (by decide) il4) ?_
    refine wB_of (oA2_n hq 3 (by decide) il3) ?_
    refine wB_of (oA2_n hq 4 (by decide) il4) ?_
    rw [e3, e4, iMax_iz (by omega) (by omega) (by omega) (by omega), iMin_iz (by omega) (by omega) (by omega) (by omega)]
    have c1 := cross_range (x := pxS ρ k - sxS ρ k) (y := pyS ρ k - syS ρ k) (u := cxS ρ k - sxS ρ k) (v := cyS ρ k - syS ρ k) (by omega) (by omega) (by omega) (by omega) (by omega) (by omega) (by omega) (by omega)
    have c2 := cross_range (x := sxS ρ k - pxS ρ k) (y := syS ρ k - pyS ρ k) (u := cxS ρ k - pxS ρ k) (v := cyS ρ k - pyS ρ k) (by omega) (by omega) (by omega) (by omega) (by omega) (by omega) (by omega) (by omega)
    unfold sideS at hP
    rw [if_neg hp] at hP
    by_cases g : suS ρ k < paS ρ k
    · rw [if_pos g] at hP
      rw [Int.max_eq_right (by omega), Int.min_eq_left (by omega)]
      refine ⟨B.r, l_axS B V hk p.1.1 p.1.2 p6 ⟨B.r, l_axS B V hk v4.1 v4.2 v5 ?_⟩⟩
      refine wB_of (oA2_n hq 2 (by decide) il2) ?_
      rw [e2]
      refine ⟨B.r, l_ayS B V hk v4.1 v4.2 v5 ⟨B.r, l_ayS B V hk p.1.1 p.1.2 p6 ⟨B.r, l_ayS B V hk v4.1 v4.2 v5 ?_⟩⟩⟩
      refine wB_of (oA2_n hq 1 (by decide) il1) ?_
      rw [e1]
      refine ⟨B.r, l_axS B V hk v4.1 v4.2 v5 ?_⟩
      simp only [iz_sub, iz_mul]
      refine wB_of (l_sgn (v := crossS (pxS ρ k - sxS ρ k) (pyS ρ k - syS ρ k) (cxS ρ k - sxS ρ k) (cyS ρ k - syS ρ k)) (by omega) (by omega)) ?_
      exact ⟨_, rfl, hP⟩
    · rw [if_neg g] at hP
      rw [Int.max_eq_left (by omega), Int.min_eq_right (by omega)]
      refine ⟨B.r, l_axS B V hk v4.1 v4.2 v5 ⟨B.r, l_axS B V hk p.1.1 p.1.2 p6 ?_⟩⟩
      refine wB_of (oA2_n hq 2 (by decide) il2) ?_
      rw [e2]
      refine ⟨B.r, l_ayS B V hk p.1.1 p.1.2 p6 ⟨B.r, l_ayS B V hk v4.1 v4.2 v5 ⟨B.r, l_ayS B V hk p.1.1 p.1.2 p6 ?_⟩⟩⟩
      refine wB_of (oA2_n hq 1 (by decide) il1) ?_
      rw [e1]
      refine ⟨B.r, l_axS B V hk p.1.1 p.1.2 p6 ?_⟩
      simp only [iz_sub, iz_mul]
      refine wB_of (l_sgn (v := crossS (sxS ρ k - pxS ρ k) (syS ρ k - pyS ρ k) (cxS ρ k - pxS ρ k) (cyS ρ k - pyS ρ k)) (by omega) (by omega)) ?_
      exact ⟨_, rfl, hP⟩
theorem l_look (B : LBD sh I R K A cap S ρ) (V : VB ρ) (hk : S[k]? = some q) (hP : P (iz (lookS ρ k)) sh I R) : wX11_look K J fu sh I R (A 0) q (qwI P) := by
  obtain ⟨k0, k1, hq⟩ := B.kk hk
  obtain ⟨v1, v2, v3, v4, v5, v6, v7, v8⟩ := V.shot k0 k1
  obtain ⟨w1, w2⟩ := V.sub k0 k1
  obtain ⟨e0, e1, e2, e3, e4, e5⟩ := B.2.2.2.2.2 k q hk
  unfold wX11_look
  refine wB_of (oA2_n hq 4 (by decide) il4) ?_
  rw [e4]
  by_cases hp : paS ρ k = -1
  · unfold lookS at hP
    rw [if_pos hp] at hP
    rw [hp, if_neg (by rw [ile il0 rfl ⟨by decide, by decide⟩ ⟨by decide, by decide⟩]; decide)]
    exact ⟨_, rfl, by rw [il0]; exact hP⟩
  · have p := V.par k0 k1 hp
    have p6 : inS ρ (scS ρ k) (paS ρ k) = true := by
      rcases v6 with h | ⟨-, h, -⟩
      · exact absurd h hp
      · exact h
    rw [if_pos (by rw [ile il0 rfl ⟨by decide, by decide⟩ ⟨by omega, by omega⟩]; exact p.1.1)]
    have c1 := cross_range (x := sxS ρ k - cxS ρ k) (y := syS ρ k - cyS ρ k) (u := pxS ρ k - sxS ρ k) (v := pyS ρ k - syS ρ k) (by omega) (by omega) (by omega) (by omega) (by omega) (by omega) (by omega) (by omega)
    unfold lookS at hP
    rw [if_neg hp] at hP
    refine wB_of (oA2_n hq 3 (by decide) il3) ?_
    rw [e3]
    refine ⟨B.r, l_axS B V hk v4.1 v4.2 v5 ?_⟩
    refine wB_of (oA2_n hq 3 (by decide) il3) ?_
    rw [e3]
    refine ⟨B.r, l_ayS B V hk v4.1 v4.2 v5 ?_⟩
    refine wB_of (oA2_n hq 1 (by decide) il1) ?_
    refine wB_of (oA2_n hq 4 (by decide) il4) ?_
    rw [e1, e4]
    refine ⟨B.r, l_ayS B V hk p.1.1 p.1.2 p6 ?_⟩
    refine wB_of (oA2_n hq 2 (by decide) il2) ?_
    refine wB_of (oA2_n hq 4 (by decide) il4) ?_
    rw [e2, e4]
    refine ⟨B.r, l_axS B V hk p.1.1 p.1.2 p6 ?_⟩
    simp only [iz_sub, iz_mul]
    refine wB_of (l_sgn (v := crossS (sxS ρ k - cxS ρ k) (syS ρ k - cyS ρ k) (pxS ρ k - sxS ρ k) (pyS ρ k - syS ρ k)) (by omega) (by omega)) ?_
    exact ⟨_, rfl, hP⟩
theorem l_nb0 (hP : P (iz 0) sh I R) : wX11_near_b58 K J fu (qwI P) sh I R := by
  unfold wX11_near_b58 wX11_near_b59
  exact ⟨Or.inl rfl, _, rfl, by rw [il0]; exact hP⟩
theorem l_near (B : LBD sh I R K A cap S ρ) (V : VB ρ) (hk : S[k]? = some q) (hj : S[j]? = some q') {r : Int} (hr : 0 ≤ r) (hr2 : r ≤ 99) (hP : P (iz (b2i (nearS ρ k j r))) sh I R) : wX11_near K J fu sh I R (A 0) q q' (iz r) (qwI P) := by
  obtain ⟨k0, k1, hq⟩ := B.kk hk
  obtain ⟨j0, j1, hq'⟩ := B.kk hj
  obtain ⟨v1, v2, v3, v4, v5, v6, v7, v8⟩ := V.shot k0 k1
  obtain ⟨u1, u2, u3, -⟩ := V.shot j0 j1
  obtain ⟨e0, e1, e2, e3, e4, e5⟩ := B.2.2.2.2.2 k q hk
  obtain ⟨f0, f1, f2, f3, f4, f5⟩ := B.2.2.2.2.2 j q' hj
  have m := V.m
  have w1 := V.view k0 k1
  have w2 := V.view j0 j1
  have t := turn_range w1.1 w1.2 w2.1 w2.2
  have lim := V.lim
  unfold wX11_near
  refine wB_of (oA2_n hq 0 (by decide) il0) ?_
  refine wB_of (oA2_n hq' 0 (by decide) il0) ?_
  rw [e0, f0]
  by_cases h : scS ρ k = scS ρ j
  · rw [if_pos (by rw [h])]
    refine wB_of (oA2_n hq 1 (by decide) il1) ?_
    refine wB_of (oA2_n hq' 1 (by decide) il1) ?_
    refine wB_of (oA2_n hq 2 (by decide) il2) ?_
    refine wB_of (oA2_n hq' 2 (by decide) il2) ?_
    have a1 := ab_range (a := cxS ρ k - cxS ρ j) (b := 199) (by omega) (by omega)
    have a2 := ab_range (a := cyS ρ k - cyS ρ j) (b := 199) (by omega) (by omega)
    rw [e1, e2, f1, f2, iz_sub, iz_sub, iAbs_iz (by omega) (by omega), iAbs_iz (by omega) (by omega), show (if cxS ρ k - cxS ρ j < 0 then -(cxS ρ k - cxS ρ j) else cxS ρ k - cxS ρ j) = ab (cxS ρ k - cxS ρ j) from rfl, show (if cyS ρ k - cyS ρ j < 0 then -(cyS ρ k - cyS ρ j) else cyS ρ k - cyS ρ j) = ab (cyS ρ k - cyS ρ j) from rfl, iz_add]
    by_cases h2 : ab (cxS ρ k - cxS ρ j) + ab (cyS ρ k - cyS ρ j) ≤ r
    · rw [if_neg (by rw [ilt rfl rfl ⟨by omega, by omega⟩ ⟨by omega, by omega⟩]; omega)]
      refine ⟨B.r, l_view B V hk ⟨B.r, l_view B V hj ?_⟩⟩
      refine wB_of (l_turn w1.1 w1.2 w2.1 w2.2) ?_
      refine wB_of (oI_at B.1.1.1) ?_
      rw [B.2.2.1.2.1]
      by_cases h3 : turnS (viewS ρ k) (viewS ρ j) ≤ ρ 1
      · rw [if_neg (by rw [ilt rfl rfl ⟨by omega, by omega⟩ ⟨by omega, by omega⟩]; omega)]
        unfold wX11_near_b59
        refine ⟨Or.inr rfl, _, rfl, ?_⟩
        have e : nearS ρ k j r = true := by unfold nearS; simp [h, h2, h3]
        rw [e] at hP
        rw [il1]; exact hP
      · rw [if_pos (by rw [ilt rfl rfl ⟨by omega, by omega⟩ ⟨by omega, by omega⟩]; omega)]
        have e : nearS ρ k j r = false := by unfold nearS; simp [h3]
        rw [e] at hP
        exact l_nb0 hP
    · rw [if_pos (by rw [ilt rfl rfl ⟨by omega, by omega⟩ ⟨by omega, by omega⟩]; omega)]
      have e : nearS ρ k j r = false := by unfold nearS; simp [h2]
      rw [e] at hP
      exact l_nb0 hP
  · rw [if_neg (by rw [ieq rfl rfl ⟨by omega, by omega⟩ ⟨by omega, by omega⟩]; exact h)]
    have e : nearS ρ k j r = false := by unfold nearS; simp [h]
    rw [e] at hP
    exact l_nb0 hP
theorem l_vis94 {F : VF} {k4 : HS → HI → HR → Nat → Nat → Int32 → Int32 → Prop} {m9 : Nat} {x : Int32} {a : Nat} (h : k4 sh I R m9 q x (iz ((a + 1 : Nat) : Int))) : wX11_visible_b94 K J fu F k4 sh I R m9 q x (iz (a : Int)) := by
  unfold wX11_visible_b94
  rw [il1, iz_add]
  exact h
theorem l_visL (B : LBD sh I R K A cap S ρ) (V : VB ρ) (hk : S[k]? = some q) (hP : P (iz (visS ρ k : Int)) sh I R) : ∀ (d a n : Nat), a + d = 6 → d < n → wX11_visible_l4 K J fu (qwI P) n sh I R (A 0) q (iz (mkS (seesS ρ k) a : Int)) (iz (a : Int)) := by
  obtain ⟨k0, k1, hq⟩ := B.kk hk
  obtain ⟨v1, v2, v3, v4, v5, v6, v7, v8⟩ := V.shot k0 k1
  obtain ⟨e0, e1, e2, e3, e4, e5⟩ := B.2.2.2.2.2 k q hk
  have w := V.view k0 k1
  have lim := V.lim
  intro d
  induction d with
  | zero =>
    intro a n had hn
    obtain ⟨n', rfl⟩ : ∃ n', n = n' + 1 := ⟨n - 1, by omega⟩
    show wX11_visible_b4 K J fu (qwI P) (wX11_visible_l4 K J fu (qwI P) n') sh I R (A 0) q _ _
    unfold wX11_visible_b4
    rw [if_pos (by rw [ile il6 rfl ⟨by decide, by decide⟩ ⟨by omega, by omega⟩]; show (6 : Int) ≤ _; omega)]
    have ha : a = 6 := by omega
    subst ha
    exact ⟨_, rfl, hP⟩
  | succ d ih =>
    intro a n had hn
    obtain ⟨n', rfl⟩ : ∃ n', n = n' + 1 := ⟨n - 1, by omega⟩
    have ih' := ih (a + 1) n' (by omega) (by omega)
    show wX11_visible_b4 K J fu (qwI P) (wX11_visible_l4 K J fu (qwI P) n') sh I R (A 0) q _ _
    have skip : seesS ρ k a = false → wX11_visible_b94 K J fu (qwI P) (wX11_visible_l4 K J fu (qwI P) n') sh I R (A 0) q (iz (mkS (seesS ρ k) a : Int)) (iz (a : Int)) := by
      intro hs
      refine l_vis94 ?_
      have : mkS (seesS ρ k) (a + 1) = mkS (seesS ρ k) a := by
        show mkS (seesS ρ k) a ||| (if seesS ρ k a = true then 2 ^ a else 0) = _
        rw [if_neg (by rw [hs]; decide), Nat.or_zero]
      rw [← this]
      exact ih'
    unfold wX11_visible_b4
    rw [if_neg (by rw [ile il6 rfl ⟨by decide, by decide⟩ ⟨by omega, by omega⟩]; show ¬ (6 : Int) ≤ _; omega)]
    refine ⟨B.r, l_ax B V hk (by omega) ?_⟩
    by_cases hi : inS ρ (scS ρ k) a = true
    · have sc := (V.scene v1.1 v1.2).2.2 a (by omega) (by omega) hi
      have hx : lxS ρ (scS ρ k) a = axS ρ (scS ρ k) a := by unfold lxS; rw [if_pos hi]
      have hy : lyS ρ (scS ρ k) a = ayS ρ (scS ρ k) a := by unfold lyS; rw [if_pos hi]
      rw [hx, if_neg (by rw [ilt rfl il0 ⟨by omega, by omega⟩ ⟨by decide, by decide⟩]; show ¬ _ < (0 : Int); omega)]
      refine ⟨B.r, l_ax B V hk (by omega) ?_⟩
      rw [hx]
      refine wB_of (oA2_n hq 1 (by decide) il1) ?_
      rw [e1]
      have far : ¬ (axS ρ (scS ρ k) a - cxS ρ k = 0 ∧ ayS ρ (scS ρ k) a - cyS ρ k = 0) → wX11_visible_b46 K J fu (qwI P) (wX11_visible_l4 K J fu (qwI P) n') sh I R (A 0) q (iz (mkS (seesS ρ k) a : Int)) (iz (a : Int)) := by
        intro hf
        have dr := dir_range (x := axS ρ (scS ρ k) a - cxS ρ k) (y := ayS ρ (scS ρ k) a - cyS ρ k) (by omega) (by omega) (by omega) (by omega)
        have tr := turn_range w.1 w.2 dr.1 dr.2
        unfold wX11_visible_b46
        refine ⟨B.r, l_view B V hk ⟨B.r, l_ax B V hk (by omega) ?_⟩⟩
        rw [hx]
        refine wB_of (oA2_n hq 1 (by decide) il1) ?_
        refine ⟨B.r, l_ay B V hk (by omega) ?_⟩
        rw [hy]
        refine wB_of (oA2_n hq 2 (by decide) il2) ?_
        rw [e1, e2, iz_sub, iz_sub]
        refine wB_of (l_dir (by omega) (by omega) (by omega) (by omega) hf) ?_
        refine wB_of (l_turn w.1 w.2 dr.1 dr.2) ?_
        refine wB_of (oI_at B.1.1.1) ?_
        rw [B.2.2.1.2.2]
        by_cases h3 : turnS (viewS ρ k) (dirS (axS ρ (scS ρ k) a - cxS ρ k) (ayS ρ (scS ρ k) a - cyS ρ k)) ≤ ρ 2
        · rw [if_neg (by rw [ilt rfl rfl ⟨by omega, by omega⟩ ⟨by omega, by omega⟩]; omega)]
          unfold wX11_visible_b92
          rw [iz_shl (by omega), iz_orN]
          refine l_vis94 ?_
          have hs : seesS ρ k a = true := by unfold seesS; simp [hi, h3]; omega
          have : mkS (seesS ρ k) (a + 1) = mkS (seesS ρ k) a ||| 2 ^ a := by
            show mkS (seesS ρ k) a ||| (if seesS ρ k a = true then 2 ^ a else 0) = _
            rw [if_pos hs]
          rw [← this]
          exact ih'
        · rw [if_pos (by rw [ilt rfl rfl ⟨by omega, by omega⟩ ⟨by omega, by omega⟩]; omega)]
          unfold wX11_visible_b92
          have hs : seesS ρ k a = false := by unfold seesS; simp [h3]
          have : mkS (seesS ρ k) (a + 1) = mkS (seesS ρ k) a ||| 0 := by
            show mkS (seesS ρ k) a ||| (if seesS ρ k a = true then 2 ^ a else 0) = _
            rw [if_neg (by rw [hs]; decide)]
          rw [show (0 : Int32) = iz ((0 : Nat) : Int) from il0, iz_orN]
          refine l_vis94 ?_
          rw [← this]
          exact ih'
      by_cases c1 : axS ρ (scS ρ k) a = cxS ρ k
      · rw [if_pos (by rw [c1])]
        refine ⟨B.r, l_ay B V hk (by omega) ?_⟩
        rw [hy]
        refine wB_of (oA2_n hq 2 (by decide) il2) ?_
        rw [e2]
        by_cases c2 : ayS ρ (scS ρ k) a = cyS ρ k
        · rw [if_pos (by rw [c2])]
          exact skip (by unfold seesS; simp [c1, c2])
        · rw [if_neg (by rw [ieq rfl rfl ⟨by omega, by omega⟩ ⟨by omega, by omega⟩]; exact c2)]
          exact far (by omega)
      · rw [if_neg (by rw [ieq rfl rfl ⟨by omega, by omega⟩ ⟨by omega, by omega⟩]; exact c1)]
        exact far (by omega)
    · have hx : lxS ρ (scS ρ k) a = -1 := by unfold lxS; rw [if_neg hi]
      rw [hx, if_pos (by rw [ilt rfl il0 ⟨by decide, by decide⟩ ⟨by decide, by decide⟩]; decide)]
      exact skip (by unfold seesS; simp at hi; simp [hi])
theorem l_visible (B : LBD sh I R K A cap S ρ) (V : VB ρ) (hk : S[k]? = some q) (hfu : 5000 ≤ fu) (hP : P (iz (visS ρ k : Int)) sh I R) : wX11_visible K J fu sh I R (A 0) q (qwI P) := by
  unfold wX11_visible
  have := l_visL (K := K) (J := J) (fu := fu) B V hk hP 6 0 fu rfl (by omega)
  exact this
end LB
