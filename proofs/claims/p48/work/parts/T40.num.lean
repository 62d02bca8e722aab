/-! STAGE 2, numbers: the machine's ints as images of integers -/
def iz (x : Int) : Int32 := Int32.ofInt x
theorem iz_lit (n : Nat) : (OfNat.ofNat n : Int32) = iz (OfNat.ofNat n) := (Int32.ofInt_eq_ofNat (n := n)).symm
theorem iz_add (a b : Int) : iz a + iz b = iz (a + b) := (Int32.ofInt_add a b).symm
theorem iz_sub (a b : Int) : iz a - iz b = iz (a - b) := (Int32.ofInt_sub a b).symm
theorem iz_mul (a b : Int) : iz a * iz b = iz (a * b) := (Int32.ofInt_mul a b).symm
theorem iz_neg (a : Int) : -iz a = iz (-a) := (Int32.ofInt_neg a).symm
theorem iz_toInt {a : Int} (h1 : -2147483648 ≤ a) (h2 : a ≤ 2147483647) : (iz a).toInt = a := Int32.toInt_ofInt_of_le (by omega) (by omega)
theorem iz_self (x : Int32) : iz x.toInt = x := Int32.ofInt_toInt x
theorem iz_lt {a b : Int} (h1 : -2147483648 ≤ a) (h2 : a ≤ 2147483647) (h3 : -2147483648 ≤ b) (h4 : b ≤ 2147483647) : (iz a < iz b) = (a < b) := by
  rw [Int32.lt_iff_toInt_lt, iz_toInt h1 h2, iz_toInt h3 h4]
theorem iz_le {a b : Int} (h1 : -2147483648 ≤ a) (h2 : a ≤ 2147483647) (h3 : -2147483648 ≤ b) (h4 : b ≤ 2147483647) : (iz a ≤ iz b) = (a ≤ b) := by
  rw [Int32.le_iff_toInt_le, iz_toInt h1 h2, iz_toInt h3 h4]
theorem iz_eq {a b : Int} (h1 : -2147483648 ≤ a) (h2 : a ≤ 2147483647) (h3 : -2147483648 ≤ b) (h4 : b ≤ 2147483647) : (iz a = iz b) = (a = b) := by
  rw [← Int32.toInt_inj, iz_toInt h1 h2, iz_toInt h3 h4]
theorem iz_nat {a : Int} (h1 : 0 ≤ a) (h2 : a ≤ 2147483647) : (iz a).toNatClampNeg = a.toNat := by
  show (iz a).toInt.toNat = a.toNat
  rw [iz_toInt (by omega) h2]
theorem iz_div {a b : Int} (h1 : 0 ≤ a) (h2 : a ≤ 2147483647) (h3 : 0 < b) (h4 : b ≤ 2147483647) : iz a / iz b = iz (a / b) := by
  have h := Int32.ofInt_tdiv (a := a) (b := b) (by show (-2147483648 : Int) ≤ a; omega) (by show a ≤ (2147483647 : Int); omega) (by show (-2147483648 : Int) ≤ b; omega) (by show b ≤ (2147483647 : Int); omega)
  unfold iz
  rw [← h, Int.tdiv_eq_ediv_of_nonneg h1]
theorem oA_iz {sh : HS} {I : HI} {a m : Nat} {j : Int} (h : sh a = some (20, m)) (h0 : 0 ≤ j) (h1 : j < m) (h2 : j ≤ 2147483647) : oA sh I a (iz j) = some (I a j.toNat) := by
  have e := iz_nat h0 h2
  have e2 : inA sh a 20 (iz j) = true := by
    rw [inA_iff]
    refine ⟨m, h, fun z => ?_⟩
    rcases z with z | z
    · rw [iz_lit, iz_lt (by omega) h2 (by decide) (by decide)] at z
      have : j < 0 := z
      omega
    · rw [e] at z; omega
  unfold oA
  rw [if_pos e2, e]
theorem oB_iz {sh : HS} {R : HR} {a m t : Nat} {j : Int} (h : sh a = some (30 + t, m)) (h0 : 0 ≤ j) (h1 : j < m) (h2 : j ≤ 2147483647) : oB sh R a t (iz j) = R a j.toNat := by
  have e := iz_nat h0 h2
  have e2 : inA sh a (30 + t) (iz j) = true := by
    rw [inA_iff]
    refine ⟨m, h, fun z => ?_⟩
    rcases z with z | z
    · rw [iz_lit, iz_lt (by omega) h2 (by decide) (by decide)] at z
      have : j < 0 := z
      omega
    · rw [e] at z; omega
  unfold oB
  rw [if_pos e2, e]
theorem oS_iz {sh : HS} {I : HI} {a m : Nat} {j : Int} {x : Int32} (h : sh a = some (20, m)) (h0 : 0 ≤ j) (h1 : j < m) (h2 : j ≤ 2147483647) : oS sh I a (iz j) x = some (u2 I a j.toNat x) := by
  have e := iz_nat h0 h2
  have e2 : inA sh a 20 (iz j) = true := by
    rw [inA_iff]
    refine ⟨m, h, fun z => ?_⟩
    rcases z with z | z
    · rw [iz_lit, iz_lt (by omega) h2 (by decide) (by decide)] at z
      have : j < 0 := z
      omega
    · rw [e] at z; omega
  unfold oS
  rw [if_pos e2, e]
theorem isT_of {sh : HS} {a t n : Nat} (h : sh a = some (t, n)) : isT sh a t = true := isT_iff.mpr ⟨n, h⟩
theorem oI_at {sh : HS} {I : HI} {a t n k : Nat} (h : sh a = some (t, n)) : oI sh I a t k = some (I a k) := by unfold oI; rw [if_pos (isT_of h)]
theorem oR_at {sh : HS} {R : HR} {a t n k v : Nat} (h : sh a = some (t, n)) (h2 : R a k = some v) : oR sh R a t k = some v := by unfold oR; rw [if_pos (isT_of h), h2]
theorem oP_at {sh : HS} {I : HI} {a t n k : Nat} {x : Int32} (h : sh a = some (t, n)) : oP sh I a t k x = some (u2 I a k x) := by unfold oP; rw [if_pos (isT_of h)]
theorem oQ_at {sh : HS} {R : HR} {a t n k v : Nat} (h : sh a = some (t, n)) : oQ sh R a t k v = some (u2 R a k (some v)) := by unfold oQ; rw [if_pos (isT_of h)]
theorem oD_iz {a b : Int} (h1 : 0 ≤ a) (h2 : a ≤ 2147483647) (h3 : 0 < b) (h4 : b ≤ 2147483647) : oD (iz a) (iz b) = some (iz (a / b)) := by
  unfold oD
  have e : ¬ (iz b = iz 0) := by rw [iz_eq (by omega) (by omega) (by decide) (by decide)]; omega
  rw [iz_lit, if_neg e, iz_div h1 h2 h3 h4]
theorem oM_iz {a b : Int} (h1 : 0 ≤ a) (h2 : a ≤ 2147483647) (h3 : 0 < b) (h4 : b ≤ 2147483647) : oM (iz a) (iz b) = some (iz (a % b)) := by
  unfold oM
  have e : ¬ (iz b = iz 0) := by rw [iz_eq (by omega) (by omega) (by decide) (by decide)]; omega
  rw [iz_lit, if_neg e, iz_div h1 h2 h3 h4, iz_mul, iz_sub]
  congr 2
  have := Int.emod_def a b
  rw [Int.mul_comm] at this
  omega
theorem bsome {α β : Type} (a : α) (f : α → Option β) : (some a).bind f = f a := Classical.byContradiction fun h => h rfl
theorem oHs {α η β : Type} (a : α) (w : η) (f : α → η → Option β) : oH (some (a, w)) f = f a w := Classical.byContradiction fun h => h rfl
theorem oThl {α η β : Type} (a : α) (w : η) (e : String → η → Option β) (f : α → η → Option β) : oTh (some (.inl a, w)) e f = f a w := Classical.byContradiction fun h => h rfl
theorem oThr {α η β : Type} (E : String) (w : η) (e : String → η → Option β) (f : α → η → Option β) : oTh (some (.inr E, w)) e f = e E w := Classical.byContradiction fun h => h rfl
theorem oT0l {α β : Type} (a : α) (e : String → Option β) (f : α → Option β) : oT0 (some (.inl a)) e f = f a := Classical.byContradiction fun h => h rfl
theorem oT0r {α β : Type} (E : String) (e : String → Option β) (f : α → Option β) : oT0 (some (.inr E)) e f = e E := Classical.byContradiction fun h => h rfl
theorem iMin_iz {a b : Int} (h1 : -2147483648 ≤ a) (h2 : a ≤ 2147483647) (h3 : -2147483648 ≤ b) (h4 : b ≤ 2147483647) : iMin (iz a) (iz b) = iz (min a b) := by
  unfold iMin
  simp only [iz_lt h3 h4 h1 h2]
  split
  · rw [Int.min_eq_right (by omega)]
  · rw [Int.min_eq_left (by omega)]
theorem iMax_iz {a b : Int} (h1 : -2147483648 ≤ a) (h2 : a ≤ 2147483647) (h3 : -2147483648 ≤ b) (h4 : b ≤ 2147483647) : iMax (iz a) (iz b) = iz (max a b) := by
  unfold iMax
  simp only [iz_lt h1 h2 h3 h4]
  split
  · rw [Int.max_eq_right (by omega)]
  · rw [Int.max_eq_left (by omega)]
theorem iAbs_iz {a : Int} (h1 : -2147483648 ≤ a) (h2 : a ≤ 2147483647) : iAbs (iz a) = iz (if a < 0 then -a else a) := by
  unfold iAbs
  simp only [iz_lit, iz_le (a := 0) (by decide) (by decide) h1 h2, iz_sub]
  by_cases h : a < 0
  · rw [if_neg (by omega), if_pos h]
    congr 1
    omega
  · rw [if_pos (by omega), if_neg h]
