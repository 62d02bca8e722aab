/-! THE LAW, STAGE 2: actors and lengths of setups, changes between them -/
theorem btc_B6 : ((List.range 64).all fun m => decide (fJ6_bitCount_0f7a4 0 (fun _ => none) (fun _ _ => 0) (fun _ _ => none) (iz (m : Int)) = some (iz (szS m)))) = true := by decide +kernel
theorem btc_64 {fu : Nat} {sh : HS} {I : HI} {R : HR} {m : Nat} (h : m < 64) : fJ6_bitCount_0f7a4 fu sh I R (iz (m : Int)) = some (iz (szS m)) := of_decide_eq_true (List.all_eq_true.mp btc_B6 m (List.mem_range.mpr h))
theorem sz_B : ((List.range 64).all fun m => decide (0 ≤ szS m ∧ szS m ≤ 12)) = true := by decide +kernel
theorem sz_rg {m : Nat} (h : m < 64) : 0 ≤ szS m ∧ szS m ≤ 12 := of_decide_eq_true (List.all_eq_true.mp sz_B m (List.mem_range.mpr h))
theorem q_bit {ρ : RHO} {r : Int} {n k a : Nat} (ha : a < n) : (qG ρ r n k).testBit a = decide (hG ρ r n a = k) := by
  show (mkS _ n).testBit a = _
  rw [mkS_bit, decide_eq_true ha, Bool.true_and]
section CH
variable {K J : Nat → Nat} {fu : Nat} {sh : HS} {I : HI} {R : HR} {A : Nat → Nat} {cap : Nat} {S : List Nat} {ρ : RHO} {r : Int} {k i j : Nat} {P : Int32 → HS → HI → HR → Prop}
theorem bit_if {ρ : RHO} {r : Int} {n k a : Nat} {C D : Prop} (hn : n ≤ 12) (ha : a < n) (h1 : hG ρ r n a = k → C) (h2 : ¬ hG ρ r n a = k → D) : if ((iz (qG ρ r n k : Int) >>> (iz (a : Int) &&& 31)) &&& 1) = (1 : Int32) then C else D := by
  have hq := qG_lt ρ r (k := k) hn
  rw [iz_bit (by omega) (by omega)]
  unfold bt
  rw [q_bit ha]
  by_cases z : hG ρ r n a = k
  · rw [if_pos (show iz (if decide (hG ρ r n a = k) = true then 1 else 0) = (1 : Int32) by rw [if_pos (decide_eq_true z)]; decide)]
    exact h1 z
  · rw [if_neg (show ¬ iz (if decide (hG ρ r n a = k) = true then 1 else 0) = (1 : Int32) by rw [if_neg (by rw [decide_eq_false z]; decide)]; decide)]
    exact h2 z
theorem l_actL (B : LBD sh I R K A cap S ρ) (V : VB ρ) (hfu : 5000 ≤ fu) (hP : P (iz (gaS ρ r k : Int)) sh I R) : ∀ (d a n : Nat), a + d = S.length → d < n → wX11_actors_l4 K J fu (qwI P) n sh I R (A 0) (iz (qG ρ r (ρ 4).toNat k : Int)) (iz (acG ρ r (ρ 4).toNat k a : Int)) (iz (a : Int)) := by
  have hl := B.len
  have hn := V.n
  intro d
  induction d with
  | zero =>
    intro a n had hn0
    obtain ⟨n', rfl⟩ : ∃ n', n = n' + 1 := ⟨n - 1, by omega⟩
    show wX11_actors_b4 K J fu (qwI P) (wX11_actors_l4 K J fu (qwI P) n') sh I R (A 0) _ _ _
    unfold wX11_actors_b4
    refine wB_of (oR_at B.1.1.1 B.1.1.2.1) ?_
    refine ⟨rcv_k B.2.1.1, l_size B.2.1 ?_⟩
    rw [if_pos (by rw [ile rfl rfl ⟨by omega, by omega⟩ ⟨by omega, by omega⟩]; omega)]
    have ha : a = (ρ 4).toNat := by omega
    rw [ha]
    exact ⟨_, rfl, hP⟩
  | succ d ih =>
    intro a n had hn0
    obtain ⟨n', rfl⟩ : ∃ n', n = n' + 1 := ⟨n - 1, by omega⟩
    have ih' := ih (a + 1) n' (by omega) (by omega)
    obtain ⟨q, hq⟩ : ∃ q, S[a]? = some q := ⟨S[a], List.getElem?_eq_getElem (by omega)⟩
    show wX11_actors_b4 K J fu (qwI P) (wX11_actors_l4 K J fu (qwI P) n') sh I R (A 0) _ _ _
    unfold wX11_actors_b4
    refine wB_of (oR_at B.1.1.1 B.1.1.2.1) ?_
    refine ⟨rcv_k B.2.1.1, l_size B.2.1 ?_⟩
    rw [if_neg (by rw [ile rfl rfl ⟨by omega, by omega⟩ ⟨by omega, by omega⟩]; omega)]
    have hac : acG ρ r (ρ 4).toNat k (a + 1) = if hG ρ r (ρ 4).toNat a = k then acG ρ r (ρ 4).toNat k a ||| visS ρ a else acG ρ r (ρ 4).toNat k a := rfl
    refine bit_if (by omega) (by omega) (fun z => ?_) (fun z => ?_)
    · refine wB_of (oR_at B.1.1.1 B.1.1.2.1) ?_
      refine ⟨rcv_k B.2.1.1, l_get B.2.1 hq ?_⟩
      refine wB_of (oKt_1 (B.kk hq).2.2) ?_
      refine ⟨B.r, l_visible B V hq hfu ?_⟩
      unfold wX11_actors_b44
      rw [iz_orN, il1, iz_add]
      rw [hac, if_pos z] at ih'
      exact ih'
    · unfold wX11_actors_b44
      rw [show (0 : Int32) = iz ((0 : Nat) : Int) from il0, iz_orN, Nat.or_zero, il1, iz_add]
      rw [hac, if_neg z] at ih'
      exact ih'
theorem l_actors (B : LBD sh I R K A cap S ρ) (V : VB ρ) (hfu : 5000 ≤ fu) (hP : P (iz (gaS ρ r k : Int)) sh I R) : wX11_actors K J fu sh I R (A 0) (iz (qG ρ r (ρ 4).toNat k : Int)) (qwI P) := by
  have hl := B.len
  have hn := V.n
  unfold wX11_actors
  exact l_actL B V hfu hP S.length 0 fu (by omega) (by omega)
theorem l_lenL (B : LBD sh I R K A cap S ρ) (V : VB ρ) (hfu : 5000 ≤ fu) (hP : P (iz (gnS ρ r k)) sh I R) : ∀ (d a n : Nat), a + d = S.length → d < n → wX11_length_l4 K J fu (qwI P) n sh I R (A 0) (iz (qG ρ r (ρ 4).toNat k : Int)) (iz (snG ρ r (ρ 4).toNat k a)) (iz (a : Int)) := by
  have hl := B.len
  have hn := V.n
  intro d
  induction d with
  | zero =>
    intro a n had hn0
    obtain ⟨n', rfl⟩ : ∃ n', n = n' + 1 := ⟨n - 1, by omega⟩
    show wX11_length_b4 K J fu (qwI P) (wX11_length_l4 K J fu (qwI P) n') sh I R (A 0) _ _ _
    unfold wX11_length_b4
    refine wB_of (oR_at B.1.1.1 B.1.1.2.1) ?_
    refine ⟨rcv_k B.2.1.1, l_size B.2.1 ?_⟩
    rw [if_pos (by rw [ile rfl rfl ⟨by omega, by omega⟩ ⟨by omega, by omega⟩]; omega)]
    have ha : a = (ρ 4).toNat := by omega
    rw [ha]
    exact ⟨_, rfl, hP⟩
  | succ d ih =>
    intro a n had hn0
    obtain ⟨n', rfl⟩ : ∃ n', n = n' + 1 := ⟨n - 1, by omega⟩
    have ih' := ih (a + 1) n' (by omega) (by omega)
    obtain ⟨q, hq⟩ : ∃ q, S[a]? = some q := ⟨S[a], List.getElem?_eq_getElem (by omega)⟩
    show wX11_length_b4 K J fu (qwI P) (wX11_length_l4 K J fu (qwI P) n') sh I R (A 0) _ _ _
    unfold wX11_length_b4
    refine wB_of (oR_at B.1.1.1 B.1.1.2.1) ?_
    refine ⟨rcv_k B.2.1.1, l_size B.2.1 ?_⟩
    rw [if_neg (by rw [ile rfl rfl ⟨by omega, by omega⟩ ⟨by omega, by omega⟩]; omega)]
    have hac : snG ρ r (ρ 4).toNat k (a + 1) = if hG ρ r (ρ 4).toNat a = k then snG ρ r (ρ 4).toNat k a + lnS ρ a else snG ρ r (ρ 4).toNat k a := rfl
    refine bit_if (by omega) (by omega) (fun z => ?_) (fun z => ?_)
    · refine wB_of (oR_at B.1.1.1 B.1.1.2.1) ?_
      refine ⟨rcv_k B.2.1.1, l_get B.2.1 hq ?_⟩
      refine wB_of (oKt_1 (B.kk hq).2.2) ?_
      refine wB_of (oA2_n (B.kk hq).2.2 5 (by decide) il5) ?_
      rw [(B.2.2.2.2.2 a q hq).2.2.2.2.2]
      unfold wX11_length_b42
      rw [iz_add, il1, iz_add]
      rw [hac, if_pos z] at ih'
      exact ih'
    · unfold wX11_length_b42
      rw [il0, iz_add, il1, iz_add, Int.add_zero]
      rw [hac, if_neg z] at ih'
      exact ih'
theorem l_length (B : LBD sh I R K A cap S ρ) (V : VB ρ) (hfu : 5000 ≤ fu) (hP : P (iz (gnS ρ r k)) sh I R) : wX11_length K J fu sh I R (A 0) (iz (qG ρ r (ρ 4).toNat k : Int)) (qwI P) := by
  have hl := B.len
  have hn := V.n
  unfold wX11_length
  exact l_lenL B V hfu hP S.length 0 fu (by omega) (by omega)
theorem l_change0 (B : LBD sh I R K A cap S ρ) (V : VB ρ) (hfu : 5000 ≤ fu) (hP : P (iz (stS ρ r j)) sh I R) : wX11_change K J fu sh I R (A 0) 0 (iz (qG ρ r (ρ 4).toNat j : Int)) (qwI P) := by
  unfold wX11_change
  rw [if_pos rfl]
  refine ⟨B.r, l_actors B V hfu ?_⟩
  refine wB_of (btc_64 (ac_lt ρ r _ _ _)) ?_
  rw [il2, iz_mul]
  exact ⟨_, rfl, hP⟩
theorem l_change1 (B : LBD sh I R K A cap S ρ) (V : VB ρ) (hfu : 5000 ≤ fu) (hi : i < mG_ ρ r (ρ 4).toNat) (hj : j < mG_ ρ r (ρ 4).toNat) (hP : P (iz (chS ρ r i j)) sh I R) : wX11_change K J fu sh I R (A 0) (iz (qG ρ r (ρ 4).toNat i : Int)) (iz (qG ρ r (ρ 4).toNat j : Int)) (qwI P) := by
  have hl := B.len
  have hn := V.n
  have m := V.m
  have g1 := gs_range V hi
  have g2 := gs_range V hj
  have l1 := gl_range V hi
  have l2 := gl_range V hj
  have q1 := qG_lt ρ r (s := (ρ 4).toNat) (k := i) (by omega)
  have fi := fG_lt ρ r _ _ hi
  have fj := fG_lt ρ r _ _ hj
  obtain ⟨a, ha⟩ : ∃ a, S[fG ρ r (ρ 4).toNat i]? = some a := ⟨S[fG ρ r (ρ 4).toNat i]'(by omega), List.getElem?_eq_getElem (by omega)⟩
  obtain ⟨b, hb⟩ : ∃ b, S[fG ρ r (ρ 4).toNat j]? = some b := ⟨S[fG ρ r (ρ 4).toNat j]'(by omega), List.getElem?_eq_getElem (by omega)⟩
  unfold wX11_change
  rw [if_neg (by rw [ieq rfl il0 ⟨by omega, by omega⟩ ⟨by decide, by decide⟩]; have := qG_ne hi; omega)]
  refine wB_of (oR_at B.1.1.1 B.1.1.2.1) ?_
  refine wB_of (ntz_ok q1 (qG_ne hi)) ?_
  rw [qG_low (by omega) hi]
  refine ⟨rcv_k B.2.1.1, l_get B.2.1 ha ?_⟩
  refine wB_of (oKt_1 (B.kk ha).2.2) ?_
  refine wB_of (oA2_n (B.kk ha).2.2 0 (by decide) il0) ?_
  refine wB_of (oR_at B.1.1.1 B.1.1.2.1) ?_
  refine wB_of (ntz_ok (qG_lt ρ r (by omega)) (qG_ne hj)) ?_
  rw [qG_low (by omega) hj]
  refine ⟨rcv_k B.2.1.1, l_get B.2.1 hb ?_⟩
  refine wB_of (oKt_1 (B.kk hb).2.2) ?_
  refine wB_of (oA2_n (B.kk hb).2.2 0 (by decide) il0) ?_
  rw [(B.2.2.2.2.2 _ a ha).1, (B.2.2.2.2.2 _ b hb).1]
  have e1 : scS ρ (fG ρ r (ρ 4).toNat i) = gsS ρ r i := rfl
  have e2 : scS ρ (fG ρ r (ρ 4).toNat j) = gsS ρ r j := rfl
  rw [e1, e2]
  obtain ⟨x, hx⟩ : ∃ x : Nat, gsS ρ r i = (x : Int) := ⟨(gsS ρ r i).toNat, by omega⟩
  obtain ⟨y, hy⟩ : ∃ y : Nat, gsS ρ r j = (y : Int) := ⟨(gsS ρ r j).toNat, by omega⟩
  have go : ∀ z : Int, (z = if gsS ρ r i = gsS ρ r j then 0 else 9) → wX11_change_b62 K J fu (qwI P) sh I R (A 0) (iz (qG ρ r (ρ 4).toNat i : Int)) (iz (qG ρ r (ρ 4).toNat j : Int)) (iz (gsS ρ r i)) (iz (gsS ρ r j)) (iz z) := by
    intro z hz
    have hv := B.2.2.2.1
    unfold wX11_change_b62
    refine wB_of (oR_at B.1.1.1 B.1.1.2.2.1) ?_
    rw [hx, hy]
    refine wB_of (oA2_n B.1.2.2.1.1 x (by omega) rfl) ?_
    refine wB_of (oR_at B.1.1.1 B.1.1.2.2.1) ?_
    refine wB_of (oA2_n B.1.2.2.1.1 y (by omega) rfl) ?_
    rw [(hv x (by omega)).1, (hv y (by omega)).1]
    refine ⟨B.r, l_actors B V hfu ⟨B.r, l_actors B V hfu ?_⟩⟩
    obtain ⟨d1, d2⟩ := df_ok (ac_lt ρ r (ρ 4).toNat j (ρ 4).toNat) (ac_lt ρ r (ρ 4).toNat i (ρ 4).toNat)
    have e3 : iz (gaS ρ r j : Int) &&& (iz (gaS ρ r i : Int) ^^^ -1) = iz (dfS (gaS ρ r j) (gaS ρ r i) : Int) := d1
    rw [e3]
    refine wB_of (btc_64 d2) ?_
    have l3 : ltS ρ x = glS ρ r i := by unfold glS; rw [hx]
    have l4 : ltS ρ y = glS ρ r j := by unfold glS; rw [hy]
    rw [l3, l4, iz_sub, iAbs_iz (by omega) (by omega), show (if glS ρ r i - glS ρ r j < 0 then -(glS ρ r i - glS ρ r j) else glS ρ r i - glS ρ r j) = ab (glS ρ r i - glS ρ r j) from rfl, il4, il2]
    simp only [iz_mul, iz_add]
    refine ⟨_, rfl, ?_⟩
    rw [hz]
    exact hP
  by_cases h : gsS ρ r i = gsS ρ r j
  · rw [if_pos (by rw [h]), il0]
    exact go 0 (by rw [if_pos h])
  · rw [if_neg (by rw [ieq rfl rfl ⟨by omega, by omega⟩ ⟨by omega, by omega⟩]; exact h), il9]
    exact go 9 (by rw [if_neg h])
end CH
