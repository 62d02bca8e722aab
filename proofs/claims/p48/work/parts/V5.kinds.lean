/-! THE LAW, STAGE 2: the kinds of faults of a shot, their number -/
def kzN (b : Bool) (n : Nat) : Nat := if b = true then n else 0
theorem sgn_cs (v : Int) : sgnS v = -1 ∨ sgnS v = 0 ∨ sgnS v = 1 := by
  unfold sgnS
  split
  · exact Or.inr (Or.inr rfl)
  · split
    · exact Or.inl rfl
    · exact Or.inr (Or.inl rfl)
theorem side_cs (ρ : RHO) (s : Int) : sideS ρ s = -1 ∨ sideS ρ s = 0 ∨ sideS ρ s = 1 := by
  unfold sideS
  split
  · exact Or.inr (Or.inl rfl)
  · split <;> exact sgn_cs _
theorem look_cs (ρ : RHO) (s : Int) : lookS ρ s = -1 ∨ lookS ρ s = 0 ∨ lookS ρ s = 1 := by
  unfold lookS
  split
  · exact Or.inr (Or.inl rfl)
  · exact sgn_cs _
def turnB (ρ : RHO) (k j : Int) : Bool := (!decide (paS ρ k = -1) && !decide (paS ρ j = -1)) && (decide (suS ρ k = paS ρ j) && decide (paS ρ k = suS ρ j))
def sameB (ρ : RHO) (k j : Int) : Bool := (!decide (paS ρ k = -1) && !decide (paS ρ j = -1)) && (decide (suS ρ k = suS ρ j) && decide (paS ρ k = paS ρ j))
def c0B (ρ : RHO) (k j : Int) : Bool := !decide (sideS ρ k = 0) && decide (sideS ρ k = -sideS ρ j)
def c1B (ρ : RHO) (k j : Int) : Bool := !decide (lookS ρ k = 0) && decide (lookS ρ k = lookS ρ j)
def c2B (ρ : RHO) (k j : Int) : Bool := decide (suS ρ k = suS ρ j) && nearS ρ k j (ρ 0)
theorem kind_eq {ρ : RHO} {k : Int} (h0 : 0 < k) (h : scS ρ (k - 1) = scS ρ k) : (((kzN (k3S ρ k) 8 ||| kzN ((turnB ρ k (k - 1) || sameB ρ k (k - 1)) && c0B ρ k (k - 1)) 1) ||| kzN (turnB ρ k (k - 1) && c1B ρ k (k - 1)) 2 ||| kzN (c2B ρ k (k - 1)) 4 : Nat) : Int) = kindS ρ k := by
  have e0 : ((turnB ρ k (k - 1) || sameB ρ k (k - 1)) && c0B ρ k (k - 1)) = k0S ρ k := by
    have a1 : turnB ρ k (k - 1) = crosdS ρ k := by unfold turnB crosdS; simp [Bool.and_assoc]
    have a2 : sameB ρ k (k - 1) = sameS ρ k := by
      unfold sameB sameS
      by_cases z : paS ρ k = paS ρ (k - 1)
      · by_cases w : paS ρ (k - 1) = -1
        · simp [z, w]
        · simp [z, w]
      · simp [z]
    have a3 : c0B ρ k (k - 1) = decide (sideS ρ k * sideS ρ (k - 1) = -1) := by
      unfold c0B
      rcases side_cs ρ k with e | e | e <;> rcases side_cs ρ (k - 1) with f | f | f <;> rw [e, f] <;> decide
    rw [a1, a2, a3]
    unfold k0S befS
    simp [h0, h]
  have e1 : (turnB ρ k (k - 1) && c1B ρ k (k - 1)) = k1S ρ k := by
    have a1 : turnB ρ k (k - 1) = crosdS ρ k := by unfold turnB crosdS; simp [Bool.and_assoc]
    have a3 : c1B ρ k (k - 1) = decide (lookS ρ k * lookS ρ (k - 1) = 1) := by
      unfold c1B
      rcases look_cs ρ k with e | e | e <;> rcases look_cs ρ (k - 1) with f | f | f <;> rw [e, f] <;> decide
    rw [a1, a3]
    unfold k1S befS
    simp [h0, h]
  have e2 : c2B ρ k (k - 1) = k2S ρ k := by
    unfold c2B k2S befS
    simp [h0, h]
  rw [e0, e1, e2]
  unfold kindS
  cases k0S ρ k <;> cases k1S ρ k <;> cases k2S ρ k <;> cases k3S ρ k <;> decide
theorem kind_no {ρ : RHO} {k : Int} (h : ¬ (0 < k ∧ scS ρ (k - 1) = scS ρ k)) : ((kzN (k3S ρ k) 8 : Nat) : Int) = kindS ρ k := by
  have hb : befS ρ k = false := by
    unfold befS
    by_cases z : 0 < k
    · have : ¬ scS ρ (k - 1) = scS ρ k := fun w => h ⟨z, w⟩
      simp [this]
    · simp [z]
  unfold kindS k0S k1S k2S
  rw [hb]
  simp only [Bool.false_and]
  cases k3S ρ k <;> decide
section LB
variable {K J : Nat → Nat} {fu : Nat} {sh : HS} {I : HI} {R : HR} {A : Nat → Nat} {cap : Nat} {S : List Nat} {ρ : RHO} {k q j q' n : Nat} {P : Int32 → HS → HI → HR → Prop}
theorem or_lit {n m : Nat} {x : Int32} (h : x = iz (m : Int)) : iz (n : Int) ||| x = iz ((n ||| m : Nat) : Int) := by rw [h, iz_orN]
theorem l_k243 {v : Int32} (hP : P v sh I R) : wX11_kinds_b243 K J fu (qwI P) sh I R v := ⟨_, rfl, hP⟩
theorem l_k215 (B : LBD sh I R K A cap S ρ) (V : VB ρ) (hk : S[k]? = some q) (hj : S[j]? = some q') (hP : P (iz ((n ||| kzN (c2B ρ k j) 4 : Nat) : Int)) sh I R) : wX11_kinds_b215 K J fu (qwI P) sh I R (A 0) q (some q') (iz (n : Int)) := by
  obtain ⟨k0, k1, hq⟩ := B.kk hk
  obtain ⟨j0, j1, hq'⟩ := B.kk hj
  have s1 := (V.shot k0 k1).2.2.2.1
  have s2 := (V.shot j0 j1).2.2.2.1
  have lim := V.lim
  obtain ⟨e0, e1, e2, e3, e4, e5⟩ := B.2.2.2.2.2 k q hk
  obtain ⟨f0, f1, f2, f3, f4, f5⟩ := B.2.2.2.2.2 j q' hj
  unfold wX11_kinds_b215
  refine wB_of (oA2_n hq 3 (by decide) il3) ?_
  refine wB_of (v := q') rfl ?_
  refine wB_of (oA2_n hq' 3 (by decide) il3) ?_
  rw [e3, f3]
  by_cases h : suS ρ k = suS ρ j
  · rw [if_pos (by rw [h])]
    refine wB_of (oI_at B.1.1.1) ?_
    rw [B.2.2.1.1]
    refine ⟨B.r, l_near B V hk hj lim.1.1 lim.1.2 ?_⟩
    unfold c2B at hP
    rw [decide_eq_true h, Bool.true_and] at hP
    cases hn : nearS ρ k j (ρ 0) with
    | false =>
      rw [if_pos (by decide)]
      rw [hn] at hP
      exact l_k243 (by simpa [kzN] using hP)
    | true =>
      rw [if_neg (by decide)]
      rw [hn] at hP
      rw [or_lit (m := 4) il4]
      exact l_k243 hP
  · rw [if_neg (by rw [ieq rfl rfl ⟨by omega, by omega⟩ ⟨by omega, by omega⟩]; exact h)]
    unfold c2B at hP
    rw [decide_eq_false h, Bool.false_and] at hP
    exact l_k243 (by simpa [kzN] using hP)
theorem l_k183 (B : LBD sh I R K A cap S ρ) (V : VB ρ) (hk : S[k]? = some q) (hj : S[j]? = some q') {t : Bool} (hP : P (iz (((n ||| kzN (t && c1B ρ k j) 2) ||| kzN (c2B ρ k j) 4 : Nat) : Int)) sh I R) : wX11_kinds_b183 K J fu (qwI P) sh I R (A 0) q (some q') (iz (n : Int)) (iz (b2i t)) := by
  unfold wX11_kinds_b183
  cases t with
  | false =>
    rw [if_pos (by decide)]
    exact l_k215 B V hk hj (by simpa [kzN] using hP)
  | true =>
    rw [if_neg (by decide)]
    rw [Bool.true_and] at hP
    unfold c1B at hP
    have lr := look_cs ρ k
    have lr2 := look_cs ρ j
    refine ⟨B.r, l_look B V hk ?_⟩
    by_cases h : lookS ρ k = 0
    · rw [if_pos (by rw [ieq rfl il0 ⟨by omega, by omega⟩ ⟨by decide, by decide⟩]; exact h)]
      rw [decide_eq_true h] at hP
      exact l_k215 B V hk hj (by simpa [kzN] using hP)
    · rw [if_neg (by rw [ieq rfl il0 ⟨by omega, by omega⟩ ⟨by decide, by decide⟩]; exact h)]
      rw [decide_eq_false h, Bool.not_false, Bool.true_and] at hP
      refine ⟨B.r, l_look B V hk ?_⟩
      refine wB_of (v := q') rfl ?_
      refine ⟨B.r, l_look B V hj ?_⟩
      by_cases g : lookS ρ k = lookS ρ j
      · rw [if_pos (by rw [g])]
        rw [decide_eq_true g] at hP
        rw [or_lit (m := 2) il2]
        exact l_k215 B V hk hj hP
      · rw [if_neg (by rw [ieq rfl rfl ⟨by omega, by omega⟩ ⟨by omega, by omega⟩]; exact g)]
        rw [decide_eq_false g] at hP
        exact l_k215 B V hk hj (by simpa [kzN] using hP)
theorem l_k155 (B : LBD sh I R K A cap S ρ) (V : VB ρ) (hk : S[k]? = some q) (hj : S[j]? = some q') {t : Bool} (hP : P (iz ((((n ||| kzN (c0B ρ k j) 1) ||| kzN (t && c1B ρ k j) 2) ||| kzN (c2B ρ k j) 4 : Nat) : Int)) sh I R) : wX11_kinds_b155 K J fu (qwI P) sh I R (A 0) q (some q') (iz (n : Int)) (iz (b2i t)) := by
  unfold wX11_kinds_b155
  unfold c0B at hP
  have lr := side_cs ρ k
  have lr2 := side_cs ρ j
  refine ⟨B.r, l_side B V hk ?_⟩
  by_cases h : sideS ρ k = 0
  · rw [if_pos (by rw [ieq rfl il0 ⟨by omega, by omega⟩ ⟨by decide, by decide⟩]; exact h)]
    rw [decide_eq_true h] at hP
    exact l_k183 B V hk hj (by simpa [kzN] using hP)
  · rw [if_neg (by rw [ieq rfl il0 ⟨by omega, by omega⟩ ⟨by decide, by decide⟩]; exact h)]
    rw [decide_eq_false h, Bool.not_false, Bool.true_and] at hP
    refine ⟨B.r, l_side B V hk ?_⟩
    refine wB_of (v := q') rfl ?_
    refine ⟨B.r, l_side B V hj ?_⟩
    rw [iz_neg]
    by_cases g : sideS ρ k = -sideS ρ j
    · rw [if_pos (by rw [g])]
      rw [decide_eq_true g] at hP
      rw [or_lit (m := 1) il1]
      exact l_k183 B V hk hj hP
    · rw [if_neg (by rw [ieq rfl rfl ⟨by omega, by omega⟩ ⟨by omega, by omega⟩]; exact g)]
      rw [decide_eq_false g] at hP
      exact l_k183 B V hk hj (by simpa [kzN] using hP)
theorem l_k143 (B : LBD sh I R K A cap S ρ) (V : VB ρ) (hk : S[k]? = some q) (hj : S[j]? = some q') {t m : Bool} (hP : P (iz ((((n ||| kzN ((t || m) && c0B ρ k j) 1) ||| kzN (t && c1B ρ k j) 2) ||| kzN (c2B ρ k j) 4 : Nat) : Int)) sh I R) : wX11_kinds_b143 K J fu (qwI P) sh I R (A 0) q (some q') (iz (n : Int)) (iz (b2i t)) (iz (b2i m)) := by
  unfold wX11_kinds_b143
  cases t with
  | false =>
    rw [if_pos (by decide)]
    cases m with
    | false =>
      rw [if_pos (by decide)]
      exact l_k183 (t := false) B V hk hj (by simpa [kzN] using hP)
    | true =>
      rw [if_neg (by decide)]
      exact l_k155 (t := false) B V hk hj (by simpa using hP)
  | true =>
    rw [if_neg (by decide)]
    exact l_k155 (t := true) B V hk hj (by simpa using hP)
theorem l_k113 (B : LBD sh I R K A cap S ρ) (V : VB ρ) (hk : S[k]? = some q) (hj : S[j]? = some q') {b t : Bool} (hb : b = (!decide (paS ρ k = -1) && !decide (paS ρ j = -1))) (hP : P (iz ((((n ||| kzN ((t || sameB ρ k j) && c0B ρ k j) 1) ||| kzN (t && c1B ρ k j) 2) ||| kzN (c2B ρ k j) 4 : Nat) : Int)) sh I R) : wX11_kinds_b113 K J fu (qwI P) sh I R (A 0) q (some q') (iz (n : Int)) (iz (b2i b)) (iz (b2i t)) := by
  obtain ⟨k0, k1, hq⟩ := B.kk hk
  obtain ⟨j0, j1, hq'⟩ := B.kk hj
  have s1 := V.shot k0 k1
  have s2 := V.shot j0 j1
  obtain ⟨e0, e1, e2, e3, e4, e5⟩ := B.2.2.2.2.2 k q hk
  obtain ⟨f0, f1, f2, f3, f4, f5⟩ := B.2.2.2.2.2 j q' hj
  have no : sameB ρ k j = false → wX11_kinds_b142 K J fu (qwI P) sh I R (A 0) q (some q') (iz (n : Int)) (iz (b2i t)) := by
    intro hs
    rw [hs] at hP
    unfold wX11_kinds_b142
    exact l_k143 (m := false) B V hk hj hP
  unfold wX11_kinds_b113
  unfold sameB at no hP
  rw [← hb] at no hP
  cases b with
  | false =>
    rw [if_pos (by decide)]
    exact no rfl
  | true =>
    rw [if_neg (by decide)]
    rw [Bool.true_and] at no hP
    refine wB_of (oA2_n hq 3 (by decide) il3) ?_
    refine wB_of (v := q') rfl ?_
    refine wB_of (oA2_n hq' 3 (by decide) il3) ?_
    rw [e3, f3]
    by_cases h : suS ρ k = suS ρ j
    · rw [if_pos (by rw [h])]
      refine wB_of (oA2_n hq 4 (by decide) il4) ?_
      refine wB_of (oA2_n hq' 4 (by decide) il4) ?_
      rw [e4, f4]
      by_cases g : paS ρ k = paS ρ j
      · rw [if_pos (by rw [g])]
        rw [decide_eq_true h, decide_eq_true g] at hP
        exact l_k143 (m := true) B V hk hj hP
      · rw [if_neg (by rw [ieq rfl rfl ⟨by omega, by omega⟩ ⟨by omega, by omega⟩]; exact g)]
        exact no (by simp [g])
    · rw [if_neg (by rw [ieq rfl rfl ⟨by omega, by omega⟩ ⟨by omega, by omega⟩]; exact h)]
      exact no (by simp [h])
theorem l_k83 (B : LBD sh I R K A cap S ρ) (V : VB ρ) (hk : S[k]? = some q) (hj : S[j]? = some q') {b : Bool} (hb : b = (!decide (paS ρ k = -1) && !decide (paS ρ j = -1))) (hP : P (iz ((((n ||| kzN ((turnB ρ k j || sameB ρ k j) && c0B ρ k j) 1) ||| kzN (turnB ρ k j && c1B ρ k j) 2) ||| kzN (c2B ρ k j) 4 : Nat) : Int)) sh I R) : wX11_kinds_b83 K J fu (qwI P) sh I R (A 0) q (some q') (iz (n : Int)) (iz (b2i b)) := by
  obtain ⟨k0, k1, hq⟩ := B.kk hk
  obtain ⟨j0, j1, hq'⟩ := B.kk hj
  have s1 := V.shot k0 k1
  have s2 := V.shot j0 j1
  obtain ⟨e0, e1, e2, e3, e4, e5⟩ := B.2.2.2.2.2 k q hk
  obtain ⟨f0, f1, f2, f3, f4, f5⟩ := B.2.2.2.2.2 j q' hj
  have no : turnB ρ k j = false → wX11_kinds_b112 K J fu (qwI P) sh I R (A 0) q (some q') (iz (n : Int)) (iz (b2i b)) := by
    intro hs
    rw [hs] at hP
    unfold wX11_kinds_b112
    exact l_k113 (t := false) B V hk hj hb hP
  unfold wX11_kinds_b83
  have ht : turnB ρ k j = (b && (decide (suS ρ k = paS ρ j) && decide (paS ρ k = suS ρ j))) := by unfold turnB; rw [← hb]
  cases b with
  | false =>
    rw [if_pos (by decide)]
    exact no (by rw [ht]; rfl)
  | true =>
    rw [if_neg (by decide)]
    rw [Bool.true_and] at ht
    refine wB_of (oA2_n hq 3 (by decide) il3) ?_
    refine wB_of (v := q') rfl ?_
    refine wB_of (oA2_n hq' 4 (by decide) il4) ?_
    rw [e3, f4]
    by_cases h : suS ρ k = paS ρ j
    · rw [if_pos (by rw [h])]
      refine wB_of (oA2_n hq 4 (by decide) il4) ?_
      refine wB_of (oA2_n hq' 3 (by decide) il3) ?_
      rw [e4, f3]
      by_cases g : paS ρ k = suS ρ j
      · rw [if_pos (by rw [g])]
        rw [ht, decide_eq_true h, decide_eq_true g] at hP
        exact l_k113 (t := true) B V hk hj hb hP
      · rw [if_neg (by rw [ieq rfl rfl ⟨by omega, by omega⟩ ⟨by omega, by omega⟩]; exact g)]
        exact no (by rw [ht]; simp [g])
    · rw [if_neg (by rw [ieq rfl rfl ⟨by omega, by omega⟩ ⟨by omega, by omega⟩]; exact h)]
      exact no (by rw [ht]; simp [h])
theorem l_k48 (B : LBD sh I R K A cap S ρ) (V : VB ρ) (hk : S[k]? = some q) {o : Option Nat} (ho : (k = 0 ∧ o = none) ∨ ∃ j q', k = j + 1 ∧ S[j]? = some q' ∧ o = some q') (hP : P (iz (kindS ρ k)) sh I R) : wX11_kinds_b48 K J fu (qwI P) sh I R (A 0) q o (iz ((kzN (k3S ρ k) 8 : Nat) : Int)) := by
  unfold wX11_kinds_b48
  rcases ho with ⟨h, rfl⟩ | ⟨j, q', h, hj, rfl⟩
  · rw [if_pos rfl]
    rw [← kind_no (fun z => by omega)] at hP
    unfold wX11_kinds_b63
    exact ⟨_, rfl, hP⟩
  · rw [if_neg (by simp)]
    obtain ⟨k0, k1, hq⟩ := B.kk hk
    obtain ⟨j0, j1, hq'⟩ := B.kk hj
    have s1 := V.shot k0 k1
    have s2 := V.shot j0 j1
    have m := V.m
    obtain ⟨e0, e1, e2, e3, e4, e5⟩ := B.2.2.2.2.2 k q hk
    obtain ⟨f0, f1, f2, f3, f4, f5⟩ := B.2.2.2.2.2 j q' hj
    have hkj : (k : Int) - 1 = (j : Int) := by omega
    refine wB_of (v := q') rfl ?_
    refine wB_of (oA2_n hq' 0 (by decide) il0) ?_
    refine wB_of (oA2_n hq 0 (by decide) il0) ?_
    rw [e0, f0]
    by_cases hs : scS ρ j = scS ρ k
    · rw [if_pos (by rw [hs])]
      have hK := kind_eq (ρ := ρ) (k := (k : Int)) (by omega) (by rw [hkj]; exact hs)
      rw [hkj] at hK
      rw [← hK] at hP
      refine wB_of (oA2_n hq 4 (by decide) il4) ?_
      rw [e4]
      by_cases h1 : paS ρ k = -1
      · rw [if_pos (by rw [ilt rfl il0 ⟨by omega, by omega⟩ ⟨by decide, by decide⟩]; omega)]
        unfold wX11_kinds_b82
        exact l_k83 (b := false) B V hk hj (by simp [h1]) hP
      · rw [if_neg (by rw [ilt rfl il0 ⟨by omega, by omega⟩ ⟨by decide, by decide⟩]; omega)]
        refine wB_of (oA2_n hq' 4 (by decide) il4) ?_
        rw [f4]
        by_cases h2 : paS ρ j = -1
        · rw [if_pos (by rw [ilt rfl il0 ⟨by omega, by omega⟩ ⟨by decide, by decide⟩]; omega)]
          unfold wX11_kinds_b82
          exact l_k83 (b := false) B V hk hj (by simp [h2]) hP
        · rw [if_neg (by rw [ilt rfl il0 ⟨by omega, by omega⟩ ⟨by decide, by decide⟩]; omega)]
          exact l_k83 (b := true) B V hk hj (by simp [h1, h2]) hP
    · rw [if_neg (by rw [ieq rfl rfl ⟨by omega, by omega⟩ ⟨by omega, by omega⟩]; exact hs)]
      rw [← kind_no (fun z => hs (by rw [← hkj]; exact z.2))] at hP
      unfold wX11_kinds_b63
      exact ⟨_, rfl, hP⟩
theorem block_rg (ρ : RHO) (s : Int) : -1 ≤ blockS ρ s ∧ blockS ρ s ≤ 6 := by
  have key : ∀ (Q : Nat → Bool) (n a : Nat), -1 ≤ fstS Q a n ∧ fstS Q a n ≤ a + n := by
    intro Q n
    induction n with
    | zero => intro a; exact ⟨Int.le_refl _, by show (-1 : Int) ≤ _; omega⟩
    | succ n ih =>
      intro a
      unfold fstS
      split
      · omega
      · have := ih (a + 1)
        omega
  have := key (betwS ρ s) 6 0
  unfold blockS
  omega
theorem l_k33 (B : LBD sh I R K A cap S ρ) (V : VB ρ) (hk : S[k]? = some q) (hfu : 5000 ≤ fu) {o : Option Nat} (ho : (k = 0 ∧ o = none) ∨ ∃ j q', k = j + 1 ∧ S[j]? = some q' ∧ o = some q') (hP : P (iz (kindS ρ k)) sh I R) : wX11_kinds_b33 K J fu (qwI P) sh I R (A 0) q o := by
  unfold wX11_kinds_b33
  refine ⟨B.r, l_blocker B V hk hfu ?_⟩
  have r := block_rg ρ k
  have h4 := l_k48 (K := K) (J := J) (fu := fu) B V hk ho hP
  by_cases h : blockS ρ k = -1
  · rw [if_neg (by rw [ile il0 rfl ⟨by decide, by decide⟩ ⟨by omega, by omega⟩]; omega)]
    have : k3S ρ k = false := by unfold k3S; simp [h]
    rw [this] at h4
    exact h4
  · rw [if_pos (by rw [ile il0 rfl ⟨by decide, by decide⟩ ⟨by omega, by omega⟩]; omega)]
    have : k3S ρ k = true := by unfold k3S; simp [h]
    rw [this] at h4
    exact h4
theorem l_kinds (B : LBD sh I R K A cap S ρ) (V : VB ρ) (hk : S[k]? = some q) (hfu : 5000 ≤ fu) (hP : P (iz (kindS ρ k)) sh I R) : wX11_kinds K J fu sh I R (A 0) (iz (k : Int)) (qwI P) := by
  obtain ⟨k0, k1, hq⟩ := B.kk hk
  have n := V.n
  unfold wX11_kinds
  refine wB_of (oR_at B.1.1.1 B.1.1.2.1) ?_
  refine ⟨rcv_k B.2.1.1, l_get B.2.1 hk ?_⟩
  refine wB_of (oKt_1 hq) ?_
  by_cases h : k = 0
  · rw [if_pos (by rw [ile rfl il0 ⟨by omega, by omega⟩ ⟨by decide, by decide⟩]; omega)]
    exact l_k33 B V hk hfu (Or.inl ⟨h, rfl⟩) hP
  · rw [if_neg (by rw [ile rfl il0 ⟨by omega, by omega⟩ ⟨by decide, by decide⟩]; omega)]
    obtain ⟨j, rfl⟩ : ∃ j, k = j + 1 := ⟨k - 1, by omega⟩
    have hlen := (List.getElem?_eq_some_iff.mp hk).1
    obtain ⟨q', hj⟩ : ∃ q', S[j]? = some q' := ⟨S[j], List.getElem?_eq_getElem (by omega)⟩
    refine wB_of (oR_at B.1.1.1 B.1.1.2.1) ?_
    rw [il1, iz_sub, show ((j + 1 : Nat) : Int) - 1 = (j : Int) by omega]
    refine ⟨rcv_k B.2.1.1, l_get B.2.1 hj ?_⟩
    refine wB_of (oKt_1 (B.kk hj).2.2) ?_
    exact l_k33 B V hk hfu (Or.inr ⟨j, q', rfl, hj, rfl⟩) hP
end LB
