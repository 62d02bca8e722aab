/-! THE LAW, STAGE 2: the law's own board; what it reckons is what the document's functions say -/
def lxS (ρ : RHO) (c a : Int) : Int := if inS ρ c a = true then axS ρ c a else -1
def lyS (ρ : RHO) (c a : Int) : Int := if inS ρ c a = true then ayS ρ c a else -1
/-- what lies where: A 0 the board, 1 the list, 2 its array, 3 the lights, 4 and 5 the rows of places, 6.. and 9.. the places; S the shots -/
def LSH (sh : HS) (R : HR) (A : Nat → Nat) (S : List Nat) (M : Int) : Prop :=
  (sh (A 0) = some (9, 7) ∧ R (A 0) 3 = some (A 1) ∧ R (A 0) 4 = some (A 3) ∧ R (A 0) 5 = some (A 4) ∧ R (A 0) 6 = some (A 5)) ∧ (∀ q, q ∈ S → sh q = some (20, 6)) ∧
  (sh (A 3) = some (20, M.toNat) ∧ sh (A 4) = some (45, M.toNat) ∧ sh (A 5) = some (45, M.toNat)) ∧
  (∀ c : Nat, (c : Int) < M → R (A 4) c = some (A (6 + c)) ∧ R (A 5) c = some (A (9 + c)) ∧ sh (A (6 + c)) = some (20, 6) ∧ sh (A (9 + c)) = some (20, 6))
def LVA (I : HI) (A : Nat → Nat) (S : List Nat) (ρ : RHO) : Prop :=
  (I (A 0) 0 = iz (ρ 0) ∧ I (A 0) 1 = iz (ρ 1) ∧ I (A 0) 2 = iz (ρ 2)) ∧
  (∀ c : Nat, (c : Int) < ρ 3 → I (A 3) c = iz (ltS ρ c) ∧ ∀ a : Nat, a < 6 → I (A (6 + c)) a = iz (lxS ρ c a) ∧ I (A (9 + c)) a = iz (lyS ρ c a)) ∧
  (S.length : Int) = ρ 4 ∧
  ∀ (k q : Nat), S[k]? = some q → I q 0 = iz (scS ρ k) ∧ I q 1 = iz (cxS ρ k) ∧ I q 2 = iz (cyS ρ k) ∧ I q 3 = iz (suS ρ k) ∧ I q 4 = iz (paS ρ k) ∧ I q 5 = iz (lnS ρ k)
def LBD (sh : HS) (I : HI) (R : HR) (K : Nat → Nat) (A : Nat → Nat) (cap : Nat) (S : List Nat) (ρ : RHO) : Prop := LSH sh R A S (ρ 3) ∧ LST sh I R K (A 1) (A 2) cap S ∧ LVA I A S ρ
section LB
variable {K J : Nat → Nat} {fu : Nat} {sh : HS} {I : HI} {R : HR} {A : Nat → Nat} {cap : Nat} {S : List Nat} {ρ : RHO} {k q : Nat} {P : Int32 → HS → HI → HR → Prop}
theorem LBD.kk (B : LBD sh I R K A cap S ρ) (hk : S[k]? = some q) : (0 : Int) ≤ k ∧ (k : Int) < ρ 4 ∧ sh q = some (20, 6) := by
  obtain ⟨⟨-, b1, -⟩, -, -, -, b2, -⟩ := B
  have h1 := (List.getElem?_eq_some_iff.mp hk).1
  exact ⟨by omega, by omega, b1 q (List.mem_of_getElem? hk)⟩
theorem LBD.r (B : LBD sh I R K A cap S ρ) : rcvB sh (A 0) 9 = true := rcv_k B.1.1.1
theorem l_ax (B : LBD sh I R K A cap S ρ) (V : VB ρ) (hk : S[k]? = some q) {a : Nat} (ha : a < 6) (hP : P (iz (lxS ρ (scS ρ k) a)) sh I R) : wX11_ax K J fu sh I R (A 0) q (iz (a : Int)) (qwI P) := by
  obtain ⟨k0, k1, hq⟩ := B.kk hk
  obtain ⟨⟨b0, -, b1, b2⟩, -, v0, v1, v2, v3⟩ := B
  obtain ⟨c0, c1⟩ := (V.shot k0 k1).1
  have m := V.m
  obtain ⟨c, hc⟩ : ∃ c : Nat, scS ρ k = (c : Int) := ⟨(scS ρ k).toNat, by omega⟩
  rw [hc] at hP c0 c1
  obtain ⟨r1, r2, r3, r4⟩ := b2 c c1
  unfold wX11_ax
  refine wB_of (oR_at b0.1 b0.2.2.2.1) ?_
  refine wB_of (oA2_n hq 0 (by decide) il0) ?_
  rw [(v3 k q hk).1, hc]
  refine wB_of ((oAr_n b1.2.1 c (by omega) rfl).trans r1) ?_
  refine wB_of (oA2_n r3 a ha rfl) ?_
  rw [((v1 c c1).2 a ha).1]
  exact ⟨_, rfl, hP⟩
theorem l_ay (B : LBD sh I R K A cap S ρ) (V : VB ρ) (hk : S[k]? = some q) {a : Nat} (ha : a < 6) (hP : P (iz (lyS ρ (scS ρ k) a)) sh I R) : wX11_ay K J fu sh I R (A 0) q (iz (a : Int)) (qwI P) := by
  obtain ⟨k0, k1, hq⟩ := B.kk hk
  obtain ⟨⟨b0, -, b1, b2⟩, -, v0, v1, v2, v3⟩ := B
  obtain ⟨c0, c1⟩ := (V.shot k0 k1).1
  have m := V.m
  obtain ⟨c, hc⟩ : ∃ c : Nat, scS ρ k = (c : Int) := ⟨(scS ρ k).toNat, by omega⟩
  rw [hc] at hP c0 c1
  obtain ⟨r1, r2, r3, r4⟩ := b2 c c1
  unfold wX11_ay
  refine wB_of (oR_at b0.1 b0.2.2.2.2) ?_
  refine wB_of (oA2_n hq 0 (by decide) il0) ?_
  rw [(v3 k q hk).1, hc]
  refine wB_of ((oAr_n b1.2.2 c (by omega) rfl).trans r2) ?_
  refine wB_of (oA2_n r4 a ha rfl) ?_
  rw [((v1 c c1).2 a ha).2]
  exact ⟨_, rfl, hP⟩
/-- the same with the actor as the integer that the shot names -/
theorem l_axS (B : LBD sh I R K A cap S ρ) (V : VB ρ) (hk : S[k]? = some q) {a : Int} (h0 : 0 ≤ a) (h1 : a < 6) (hi : inS ρ (scS ρ k) a = true) (hP : P (iz (axS ρ (scS ρ k) a)) sh I R) : wX11_ax K J fu sh I R (A 0) q (iz a) (qwI P) := by
  obtain ⟨n, hn⟩ : ∃ n : Nat, a = (n : Int) := ⟨a.toNat, by omega⟩
  subst hn
  refine l_ax B V hk (by omega) ?_
  unfold lxS
  rw [if_pos hi]
  exact hP
theorem l_ayS (B : LBD sh I R K A cap S ρ) (V : VB ρ) (hk : S[k]? = some q) {a : Int} (h0 : 0 ≤ a) (h1 : a < 6) (hi : inS ρ (scS ρ k) a = true) (hP : P (iz (ayS ρ (scS ρ k) a)) sh I R) : wX11_ay K J fu sh I R (A 0) q (iz a) (qwI P) := by
  obtain ⟨n, hn⟩ : ∃ n : Nat, a = (n : Int) := ⟨a.toNat, by omega⟩
  subst hn
  refine l_ay B V hk (by omega) ?_
  unfold lyS
  rw [if_pos hi]
  exact hP
theorem l_dir {x y : Int} (h1 : -398 ≤ x) (h2 : x ≤ 398) (h3 : -398 ≤ y) (h4 : y ≤ 398) (h5 : ¬ (x = 0 ∧ y = 0)) : fX11_direction fu sh I R (iz x) (iz y) = some (iz (dirS x y)) := by
  have hx := ab_range h1 h2
  have hy := ab_range h3 h4
  have ht := t_range h1 h2 h3 h4
  have h0 : 0 < ab x + ab y := by
    unfold ab
    repeat' split <;> omega
  simp only [fX11_direction, fX11_direction_b31, fX11_direction_b47, fX11_direction_b63, fX11_direction_b72, iz_lit, iz_neg]
  rw [iAbs_iz (by omega) (by omega), iAbs_iz (by omega) (by omega)]
  rw [show (if x < 0 then -x else x) = ab x from rfl, show (if y < 0 then -y else y) = ab y from rfl]
  simp only [iz_add, iz_mul, iz_sub]
  rw [oD_iz (by omega) (by omega) (by omega) (by omega), bsome]
  unfold dirS
  generalize 1000 * ab y / (ab x + ab y) = t at ht
  simp only [iz_sub, iz_add]
  simp (disch := omega) only [iz_le, iz_lt, oM_iz, bsome]
  by_cases g1 : 0 < x
  · by_cases g2 : 0 ≤ y
    · simp [g1, g2, show ¬ x ≤ 0 by omega, show ¬ y < 0 by omega]
    · simp [g1, g2, show ¬ x ≤ 0 by omega, show y < 0 by omega, show 0 ≤ x by omega, show ¬ 0 < y by omega, show ¬ x < 0 by omega]
  · by_cases g2 : 0 < y
    · simp [g1, g2, show x ≤ 0 by omega, show ¬ y ≤ 0 by omega]
    · by_cases g3 : x < 0
      · simp [g1, g2, g3, show x ≤ 0 by omega, show y ≤ 0 by omega, show ¬ 0 ≤ x by omega]
      · simp [g1, g2, g3, show x ≤ 0 by omega, show y ≤ 0 by omega, show 0 ≤ x by omega]
theorem l_turn {p q : Int} (h1 : 0 ≤ p) (h2 : p < 4000) (h3 : 0 ≤ q) (h4 : q < 4000) : fX11_turn fu sh I R (iz p) (iz q) = some (iz (turnS p q)) := by
  have ha := ab_range (a := p - q) (b := 4002) (by omega) (by omega)
  simp only [fX11_turn, iz_sub, iz_lit]
  rw [iAbs_iz (by omega) (by omega)]
  rw [show (if p - q < 0 then -(p - q) else p - q) = ab (p - q) from rfl, iz_sub, iMin_iz (by omega) (by omega) (by omega) (by omega)]
  rfl
theorem l_view (B : LBD sh I R K A cap S ρ) (V : VB ρ) (hk : S[k]? = some q) (hP : P (iz (viewS ρ k)) sh I R) : wX11_view K J fu sh I R (A 0) q (qwI P) := by
  obtain ⟨k0, k1, hq⟩ := B.kk hk
  obtain ⟨v1, v2, v3, v4, v5, v6, v7, v8⟩ := V.shot k0 k1
  obtain ⟨w1, w2⟩ := V.sub k0 k1
  obtain ⟨e0, e1, e2, e3, e4, e5⟩ := B.2.2.2.2.2 k q hk
  unfold wX11_view
  refine wB_of (oA2_n hq 3 (by decide) il3) ?_
  rw [e3]
  refine ⟨B.r, l_axS B V hk v4.1 v4.2 v5 ?_⟩
  refine wB_of (oA2_n hq 1 (by decide) il1) ?_
  refine wB_of (oA2_n hq 3 (by decide) il3) ?_
  rw [e3, e1]
  refine ⟨B.r, l_ayS B V hk v4.1 v4.2 v5 ?_⟩
  refine wB_of (oA2_n hq 2 (by decide) il2) ?_
  rw [e2, iz_sub, iz_sub]
  have z1 : (0 : Int) ≤ axS ρ (scS ρ k) (suS ρ k) ∧ axS ρ (scS ρ k) (suS ρ k) ≤ 199 := w1
  have z2 : (0 : Int) ≤ ayS ρ (scS ρ k) (suS ρ k) ∧ ayS ρ (scS ρ k) (suS ρ k) ≤ 199 := w2
  have z3 : ¬ (axS ρ (scS ρ k) (suS ρ k) = cxS ρ k ∧ ayS ρ (scS ρ k) (suS ρ k) = cyS ρ k) := v8
  refine wB_of (l_dir (by omega) (by omega) (by omega) (by omega) (by omega)) ?_
  exact ⟨_, rfl, hP⟩
end LB
