/-! THE LAW, STAGE 2: lists of the JDK; the law's own board -/
theorem il0 : (0 : Int32) = iz 0 := iz_lit 0
theorem il1 : (1 : Int32) = iz 1 := iz_lit 1
theorem il2 : (2 : Int32) = iz 2 := iz_lit 2
theorem il3 : (3 : Int32) = iz 3 := iz_lit 3
theorem il4 : (4 : Int32) = iz 4 := iz_lit 4
theorem il5 : (5 : Int32) = iz 5 := iz_lit 5
theorem il6 : (6 : Int32) = iz 6 := iz_lit 6
theorem il7 : (7 : Int32) = iz 7 := iz_lit 7
theorem il8 : (8 : Int32) = iz 8 := iz_lit 8
theorem il9 : (9 : Int32) = iz 9 := iz_lit 9
theorem il10 : (10 : Int32) = iz 10 := iz_lit 10
theorem il11 : (11 : Int32) = iz 11 := iz_lit 11
theorem il12 : (12 : Int32) = iz 12 := iz_lit 12
theorem il13 : (13 : Int32) = iz 13 := iz_lit 13
theorem il14 : (14 : Int32) = iz 14 := iz_lit 14
theorem il15 : (15 : Int32) = iz 15 := iz_lit 15
theorem il16 : (16 : Int32) = iz 16 := iz_lit 16
theorem il17 : (17 : Int32) = iz 17 := iz_lit 17
theorem il18 : (18 : Int32) = iz 18 := iz_lit 18
theorem il19 : (19 : Int32) = iz 19 := iz_lit 19
theorem il20 : (20 : Int32) = iz 20 := iz_lit 20
theorem il32 : (32 : Int32) = iz 32 := iz_lit 32
theorem il40 : (40 : Int32) = iz 40 := iz_lit 40
theorem il47 : (47 : Int32) = iz 47 := iz_lit 47
theorem il60 : (60 : Int32) = iz 60 := iz_lit 60
theorem il63 : (63 : Int32) = iz 63 := iz_lit 63
theorem il70 : (70 : Int32) = iz 70 := iz_lit 70
theorem il90 : (90 : Int32) = iz 90 := iz_lit 90
theorem il91 : (91 : Int32) = iz 91 := iz_lit 91
theorem il99 : (99 : Int32) = iz 99 := iz_lit 99
theorem il180 : (180 : Int32) = iz 180 := iz_lit 180
theorem il199 : (199 : Int32) = iz 199 := iz_lit 199
theorem il1500 : (1500 : Int32) = iz 1500 := iz_lit 1500
theorem il1800 : (1800 : Int32) = iz 1800 := iz_lit 1800
theorem il270000 : (270000 : Int32) = iz 270000 := iz_lit 270000
theorem il512 : (512 : Int32) = iz 512 := iz_lit 512
theorem il7919 : (7919 : Int32) = iz 7919 := iz_lit 7919
theorem il1023 : (1023 : Int32) = iz 1023 := iz_lit 1023
theorem ilt {x y : Int32} {a b : Int} (hx : x = iz a) (hy : y = iz b) (ha : IR a) (hb : IR b) : (x < y) = (a < b) := by subst hx; subst hy; exact iz_lt ha.1 ha.2 hb.1 hb.2
theorem ile {x y : Int32} {a b : Int} (hx : x = iz a) (hy : y = iz b) (ha : IR a) (hb : IR b) : (x ≤ y) = (a ≤ b) := by subst hx; subst hy; exact iz_le ha.1 ha.2 hb.1 hb.2
theorem ieq {x y : Int32} {a b : Int} (hx : x = iz a) (hy : y = iz b) (ha : IR a) (hb : IR b) : (x = y) = (a = b) := by subst hx; subst hy; exact iz_eq ha.1 ha.2 hb.1 hb.2
theorem rcv_k {sh : HS} {b t n : Nat} (h : sh b = some (t, n)) : rcvB sh b t = true := by unfold rcvB; rw [isT_of h]; rfl
theorem inA_n {sh : HS} {q t m j : Nat} (h : sh q = some (t, m)) (hj : j < m) (hm : m ≤ 2147483647) : inA sh q t (iz (j : Int)) = true := by
  rw [inA_iff]
  refine ⟨m, h, fun z => ?_⟩
  rcases z with z | z
  · rw [iz_lit, iz_lt (by omega) (by omega) (by decide) (by decide)] at z
    have : (j : Int) < 0 := z
    omega
  · rw [iz_nat (by omega) (by omega)] at z
    omega
theorem oA2_n {sh : HS} {I : HI} {q m : Nat} {x : Int32} (h : sh q = some (20, m)) (j : Nat) (hj : j < m) (hx : x = iz (j : Int)) (hm : m ≤ 2147483647 := by omega) : oA2 sh I q x = some (I q j) := by
  subst hx
  unfold oA2
  rw [inA_n h hj hm, iz_nat (by omega) (by omega)]
  rfl
theorem oAr_n {sh : HS} {R : HR} {q t m : Nat} {x : Int32} (h : sh q = some (t, m)) (j : Nat) (hj : j < m) (hx : x = iz (j : Int)) (hm : m ≤ 2147483647 := by omega) : oAr sh R q t x = R q j := by
  subst hx
  unfold oAr
  rw [if_pos (inA_n h hj hm), iz_nat (by omega) (by omega)]
  rfl
theorem oS_n {sh : HS} {I : HI} {q m : Nat} {x y : Int32} (h : sh q = some (20, m)) (j : Nat) (hj : j < m) (hx : x = iz (j : Int)) (hm : m ≤ 2147483647 := by omega) : oS sh I q x y = some (u2 I q j y) := by
  subst hx
  unfold oS
  rw [if_pos (inA_n h hj hm), iz_nat (by omega) (by omega)]
  rfl
theorem oKt_1 {sh : HS} {q m : Nat} (h : sh q = some (20, m)) : oKt sh q 1 = some () := by
  unfold oKt
  rw [isT_of h]
  rfl
def LST (sh : HS) (I : HI) (R : HR) (K : Nat → Nat) (L ea cap : Nat) (S : List Nat) : Prop := sh L = some (10, 3) ∧ R L 1 = some ea ∧ ((sh ea = some (46, cap) ∧ (cap = 10 ∨ cap = 15)) ∨ (sh ea = some (24, 0) ∧ ea = K nS ∧ S = [] ∧ cap = 0)) ∧ S.length ≤ cap ∧ cap ≤ 32 ∧ I L 2 = iz (S.length : Int) ∧ ∀ (k q : Nat), S[k]? = some q → R ea k = some q
section JD
variable {K J : Nat → Nat} {fu : Nat} {sh : HS} {I : HI} {R : HR} {L ea cap : Nat} {S : List Nat}
theorem l_chk {k n : Int} {P : Int32 → HS → HI → HR → Prop} (h0 : 0 ≤ k) (h1 : k < n) (hn : n ≤ 2147483647) (hP : P (iz k) sh I R) : wJ15_checkIndex_7cf53 K J fu sh I R (iz k) (iz n) (qwI P) := by
  unfold wJ15_checkIndex_7cf53 wJ3_checkIndex_8e157
  rw [if_neg (by rw [ilt rfl il0 ⟨by omega, by omega⟩ ⟨by decide, by decide⟩]; omega), if_pos (by rw [ilt rfl rfl ⟨by omega, by omega⟩ ⟨by omega, by omega⟩]; exact h1)]
  exact ⟨_, rfl, _, rfl, hP⟩
theorem l_size {P : Int32 → HS → HI → HR → Prop} (h : LST sh I R K L ea cap S) (hP : P (iz (S.length : Int)) sh I R) : wJx4a65c_size_8abf5 K J fu sh I R L (qwI P) := by
  obtain ⟨h1, h2, h3, h4, h5, h6, h7⟩ := h
  unfold wJx4a65c_size_8abf5
  refine wB_of (oI_at h1) ?_
  rw [h6]
  exact ⟨_, rfl, hP⟩
theorem LST.lt (h : LST sh I R K L ea cap S) {k q : Nat} (hk : S[k]? = some q) : k < S.length ∧ sh ea = some (46, cap) := by
  obtain ⟨h1, h2, h3, h4, h5, h6, h7⟩ := h
  refine ⟨(List.getElem?_eq_some_iff.mp hk).1, ?_⟩
  rcases h3 with h3 | ⟨-, -, h3, -⟩
  · exact h3.1
  · rw [h3] at hk; cases hk
theorem l_elem {P : Nat → HS → HI → HR → Prop} (h : LST sh I R K L ea cap S) {k q : Nat} (hk : S[k]? = some q) (hP : P q sh I R) : wJx4a65c_elementData_915e3 K J fu sh I R L (iz (k : Int)) (qwR P) := by
  obtain ⟨g1, g2⟩ := h.lt hk
  obtain ⟨h1, h2, h3, h4, h5, h6, h7⟩ := h
  unfold wJx4a65c_elementData_915e3
  refine wB_of (oR_at h1 h2) ?_
  refine wB_of (v := q) ((oAr_n g2 k (by omega) rfl).trans (h7 k q hk)) ?_
  exact ⟨_, rfl, hP⟩
theorem l_get {P : Nat → HS → HI → HR → Prop} (h : LST sh I R K L ea cap S) {k q : Nat} (hk : S[k]? = some q) (hP : P q sh I R) : wJx4a65c_get_915e3 K J fu sh I R L (iz (k : Int)) (qwR P) := by
  have g1 := (h.lt hk).1
  have h1 := h.1
  have h6 := h.2.2.2.2.2.1
  have h45 := h.2.2.2
  unfold wJx4a65c_get_915e3
  refine wB_of (oI_at h1) ?_
  rw [h6]
  refine l_chk (by omega) (by omega) (by omega) ?_
  refine ⟨rcv_k h1, l_elem h hk ?_⟩
  exact ⟨_, rfl, hP⟩
end JD
