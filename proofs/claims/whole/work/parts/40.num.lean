/-! STAGE 2, numbers: the machine's ints as images of integers -/
def iz (x : Int) : Int32 := Int32.ofInt x
theorem iz_lit (n : Nat) : (OfNat.ofNat n : Int32) = iz (OfNat.ofNat n) := (Int32.ofInt_eq_ofNat (n := n)).symm
theorem iz_add (a b : Int) : iz a + iz b = iz (a + b) := (Int32.ofInt_add a b).symm
theorem iz_sub (a b : Int) : iz a - iz b = iz (a - b) := (Int32.ofInt_sub a b).symm
theorem iz_mul (a b : Int) : iz a * iz b = iz (a * b) := (Int32.ofInt_mul a b).symm
theorem iz_neg (a : Int) : -iz a = iz (-a) := (Int32.ofInt_neg a).symm
theorem iz_toInt {a : Int} (h1 : -2147483648 ≤ a) (h2 : a ≤ 2147483647) : (iz a).toInt = a := Int32.toInt_ofInt_of_le (by omega) (by omega)
theorem iz_self (x : Int32) : iz x.toInt = x := Int32.ofInt_toInt x
theorem iz_lt {a b : Int} (h1 : -2147483648 ≤ a) (h2 : a ≤ 2147483647) (h3 : -2147483648 ≤ b) (h4 : b ≤ 2147483647) : (iz a < iz b) = (a < b) := by
  rw [Int32.lt_iff_toInt_lt, iz_toInt h1 h2, iz_toInt h3 h4]
theorem iz_le {a b : Int} (h1 : -2147483648 ≤ a) (h2 : a ≤ 2147483647) (h3 : -2147483648 ≤ b) (h4 : b ≤ 2147483647) : (iz a ≤ iz b) = (a ≤ b) := by
  rw [Int32.le_iff_toInt_le, iz_toInt h1 h2, iz_toInt h3 h4]
theorem iz_eq {a b : Int} (h1 : -2147483648 ≤ a) (h2 : a ≤ 2147483647) (h3 : -2147483648 ≤ b) (h4 : b ≤ 2147483647) : (iz a = iz b) = (a = b) := by
  rw [← Int32.toInt_inj, iz_toInt h1 h2, iz_toInt h3 h4]
theorem iz_nat {a : Int} (h1 : 0 ≤ a) (h2 : a ≤ 2147483647) : (iz a).toNatClampNeg = a.toNat := by
  show (iz a).toInt.toNat = a.toNat
  rw [iz_toInt (by omega) h2]
theorem iz_div {a b : Int} (h1 : 0 ≤ a) (h2 : a ≤ 2147483647) (h3 : 0 < b) (h4 : b ≤ 2147483647) : iz a / iz b = iz (a / b) := by
  have h := Int32.ofInt_tdiv (a := a) (b := b) (by show (-2147483648 : Int) ≤ a; omega) (by show a ≤ (2147483647 : Int); omega) (by show (-2147483648 : Int) ≤ b; omega) (by show b ≤ (2147483647 : Int); omega)
  unfold iz
  rw [← h, Int.tdiv_eq_ediv_of_nonneg h1]
theorem iz_range (x : Int32) : -2147483648 ≤ x.toInt ∧ x.toInt ≤ 2147483647 := by
  have h1 := x.le_toInt
  have h2 := x.toInt_lt
  constructor
  · simpa using h1
  · have : x.toInt < 2147483648 := by simpa using h2
    omega
theorem oA_iz {sh : HS} {I : HI} {a m : Nat} {j : Int} (h : sh a = some (20, m)) (h0 : 0 ≤ j) (h1 : j < m) (h2 : j ≤ 2147483647) : oA sh I a (iz j) = some (I a j.toNat) := by
  have e := iz_nat h0 h2
  have e2 : inA sh a 20 (iz j) = true := by
    rw [inA_iff]
    refine ⟨m, h, fun z => ?_⟩
    rcases z with z | z
    · rw [iz_lit, iz_lt (by omega) h2 (by decide) (by decide)] at z
      have : j < 0 := z
      omega
    · rw [e] at z; omega
  unfold oA
  rw [if_pos e2, e]
theorem oB_iz {sh : HS} {R : HR} {a m t : Nat} {j : Int} (h : sh a = some (30 + t, m)) (h0 : 0 ≤ j) (h1 : j < m) (h2 : j ≤ 2147483647) : oB sh R a t (iz j) = R a j.toNat := by
  have e := iz_nat h0 h2
  have e2 : inA sh a (30 + t) (iz j) = true := by
    rw [inA_iff]
    refine ⟨m, h, fun z => ?_⟩
    rcases z with z | z
    · rw [iz_lit, iz_lt (by omega) h2 (by decide) (by decide)] at z
      have : j < 0 := z
      omega
    · rw [e] at z; omega
  unfold oB
  rw [if_pos e2, e]
theorem oS_iz {sh : HS} {I : HI} {a m : Nat} {j : Int} {x : Int32} (h : sh a = some (20, m)) (h0 : 0 ≤ j) (h1 : j < m) (h2 : j ≤ 2147483647) : oS sh I a (iz j) x = some (u2 I a j.toNat x) := by
  have e := iz_nat h0 h2
  have e2 : inA sh a 20 (iz j) = true := by
    rw [inA_iff]
    refine ⟨m, h, fun z => ?_⟩
    rcases z with z | z
    · rw [iz_lit, iz_lt (by omega) h2 (by decide) (by decide)] at z
      have : j < 0 := z
      omega
    · rw [e] at z; omega
  unfold oS
  rw [if_pos e2, e]
theorem isT_of {sh : HS} {a t n : Nat} (h : sh a = some (t, n)) : isT sh a t = true := isT_iff.mpr ⟨n, h⟩
theorem oI_at {sh : HS} {I : HI} {a t n k : Nat} (h : sh a = some (t, n)) : oI sh I a t k = some (I a k) := by unfold oI; rw [if_pos (isT_of h)]
theorem oR_at {sh : HS} {R : HR} {a t n k v : Nat} (h : sh a = some (t, n)) (h2 : R a k = some v) : oR sh R a t k = some v := by unfold oR; rw [if_pos (isT_of h), h2]
theorem oP_at {sh : HS} {I : HI} {a t n k : Nat} {x : Int32} (h : sh a = some (t, n)) : oP sh I a t k x = some (u2 I a k x) := by unfold oP; rw [if_pos (isT_of h)]
theorem oQ_at {sh : HS} {R : HR} {a t n k v : Nat} (h : sh a = some (t, n)) : oQ sh R a t k v = some (u2 R a k (some v)) := by unfold oQ; rw [if_pos (isT_of h)]
theorem oD_iz {a b : Int} (h1 : 0 ≤ a) (h2 : a ≤ 2147483647) (h3 : 0 < b) (h4 : b ≤ 2147483647) : oD (iz a) (iz b) = some (iz (a / b)) := by
  unfold oD
  have e : ¬ (iz b = iz 0) := by rw [iz_eq (by omega) (by omega) (by decide) (by decide)]; omega
  rw [iz_lit, if_neg e, iz_div h1 h2 h3 h4]
theorem oM_iz {a b : Int} (h1 : 0 ≤ a) (h2 : a ≤ 2147483647) (h3 : 0 < b) (h4 : b ≤ 2147483647) : oM (iz a) (iz b) = some (iz (a % b)) := by
  unfold oM
  have e : ¬ (iz b = iz 0) := by rw [iz_eq (by omega) (by omega) (by decide) (by decide)]; omega
  rw [iz_lit, if_neg e, iz_div h1 h2 h3 h4, iz_mul, iz_sub]
  congr 2
  have := Int.emod_def a b
  rw [Int.mul_comm] at this
  omega
theorem oZ_0 : oZ 0 = some 0 := rfl
theorem oZ_1 : oZ 1 = some 1 := rfl
theorem bsome {α β : Type} (a : α) (f : α → Option β) : (some a).bind f = f a := Classical.byContradiction fun h => h rfl
theorem oHs {α η β : Type} (a : α) (w : η) (f : α → η → Option β) : oH (some (a, w)) f = f a w := Classical.byContradiction fun h => h rfl
theorem oThl {α η β : Type} (a : α) (w : η) (e : String → η → Option β) (f : α → η → Option β) : oTh (some (.inl a, w)) e f = f a w := Classical.byContradiction fun h => h rfl
theorem oThr {α η β : Type} (E : String) (w : η) (e : String → η → Option β) (f : α → η → Option β) : oTh (some (.inr E, w)) e f = e E w := Classical.byContradiction fun h => h rfl
theorem oT0l {α β : Type} (a : α) (e : String → Option β) (f : α → Option β) : oT0 (some (.inl a)) e f = f a := Classical.byContradiction fun h => h rfl
theorem oT0r {α β : Type} (E : String) (e : String → Option β) (f : α → Option β) : oT0 (some (.inr E)) e f = e E := Classical.byContradiction fun h => h rfl
theorem iMin_iz {a b : Int} (h1 : -2147483648 ≤ a) (h2 : a ≤ 2147483647) (h3 : -2147483648 ≤ b) (h4 : b ≤ 2147483647) : iMin (iz a) (iz b) = iz (min a b) := by
  unfold iMin
  simp only [iz_lt h3 h4 h1 h2]
  split
  · rw [Int.min_eq_right (by omega)]
  · rw [Int.min_eq_left (by omega)]
theorem iMax_iz {a b : Int} (h1 : -2147483648 ≤ a) (h2 : a ≤ 2147483647) (h3 : -2147483648 ≤ b) (h4 : b ≤ 2147483647) : iMax (iz a) (iz b) = iz (max a b) := by
  unfold iMax
  simp only [iz_lt h1 h2 h3 h4]
  split
  · rw [Int.max_eq_right (by omega)]
  · rw [Int.max_eq_left (by omega)]
theorem iAbs_iz {a : Int} (h1 : -2147483648 ≤ a) (h2 : a ≤ 2147483647) : iAbs (iz a) = iz (if a < 0 then -a else a) := by
  unfold iAbs
  simp only [iz_lit, iz_le (a := 0) (by decide) (by decide) h1 h2, iz_sub]
  by_cases h : a < 0
  · rw [if_neg (by omega), if_pos h]
    congr 1
    omega
  · rw [if_pos (by omega), if_neg h]
theorem toJ_iz {a : Int} (h1 : -2147483648 ≤ a) (h2 : a ≤ 2147483647) : (iz a).toInt64 = Int64.ofInt a := by
  refine Int64.toInt_inj.mp ?_
  rw [Int32.toInt_toInt64, iz_toInt h1 h2, Int64.toInt_ofInt_of_le (by omega) (by omega)]
theorem jlit (n : Nat) : (OfNat.ofNat n : Int64) = Int64.ofInt (OfNat.ofNat n) := (Int64.ofInt_eq_ofNat (n := n)).symm
def cmpS (a b : Int) : Int := if b < a then 1 else if a = b then 0 else -1
theorem cmp_range (a b : Int) : -1 ≤ cmpS a b ∧ cmpS a b ≤ 1 := by
  unfold cmpS
  split
  · decide
  · split <;> decide
theorem cmp_lt (a b : Int) : (cmpS a b < 0) = (a < b) := by
  unfold cmpS
  by_cases h : b < a
  · rw [if_pos h]; exact propext ⟨fun z => absurd z (by decide), fun z => by omega⟩
  · rw [if_neg h]
    by_cases h5 : a = b
    · rw [if_pos h5]; exact propext ⟨fun z => absurd z (by decide), fun z => by omega⟩
    · rw [if_neg h5]; exact propext ⟨fun z => by omega, fun z => by decide⟩
theorem cmp_gt (a b : Int) : (0 < cmpS a b) = (b < a) := by
  unfold cmpS
  by_cases h : b < a
  · rw [if_pos h]; exact propext ⟨fun z => h, fun z => by decide⟩
  · rw [if_neg h]
    by_cases h5 : a = b
    · rw [if_pos h5]; exact propext ⟨fun z => absurd z (by decide), fun z => by omega⟩
    · rw [if_neg h5]; exact propext ⟨fun z => absurd z (by decide), fun z => by omega⟩
theorem lgc_iz {a b : Int} (h1 : -2147483648 ≤ a) (h2 : a ≤ 2147483647) (h3 : -2147483648 ≤ b) (h4 : b ≤ 2147483647) : lg_cmp (Int64.ofInt a) (Int64.ofInt b) = iz (cmpS a b) := by
  have e1 : (Int64.ofInt a).toInt = a := Int64.toInt_ofInt_of_le (by omega) (by omega)
  have e2 : (Int64.ofInt b).toInt = b := Int64.toInt_ofInt_of_le (by omega) (by omega)
  unfold lg_cmp cmpS
  simp only [gt_iff_lt, Int64.lt_iff_toInt_lt, ← Int64.toInt_inj, e1, e2]
  by_cases h : b < a
  · rw [if_pos h, if_pos h]; rfl
  · rw [if_neg h, if_neg h]
    by_cases h5 : a = b
    · rw [if_pos h5, if_pos h5]; rfl
    · rw [if_neg h5, if_neg h5]; rfl
