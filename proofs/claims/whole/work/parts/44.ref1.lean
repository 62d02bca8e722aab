/-! STAGE 2, the reference: what it reads of its row -/
theorem OKS.i {sh : HS} {AD : Int → Nat} (S : OKS sh AD) : isT sh (AD 316) 9 = true := isT_of S.md
def bz (b : Bool) : Int32 := iz (b2i b)
theorem bz_zero (b : Bool) : (bz b = iz 0) = (b = false) := by
  cases b
  · simp [bz, b2i]
  · simp only [bz, b2i, if_true]
    rw [iz_eq (by decide) (by decide) (by decide) (by decide)]
    decide
theorem bz_one (b : Bool) : (bz b = iz 1) = (b = true) := by
  cases b
  · simp only [bz, b2i, Bool.false_eq_true, if_false]
    rw [iz_eq (by decide) (by decide) (by decide) (by decide)]
    decide
  · simp [bz, b2i]
theorem oZ_bz (b : Bool) : oZ (bz b) = some (bz b) := by
  cases b
  · rfl
  · rfl
theorem oZ_z0 : oZ (iz 0) = some (bz false) := rfl
theorem oZ_z1 : oZ (iz 1) = some (bz true) := rfl
section R1
variable {fu : Nat} {sh : HS} {I : HI} {R : HR} {AD : Int → Nat} {ρ : RHO}
theorem r_isIn {a b c : Int} (h1 : -2147483648 ≤ a) (h2 : a ≤ 2147483647) (h3 : -2147483648 ≤ b) (h4 : b ≤ 2147483647) (h5 : -2147483648 ≤ c) (h6 : c ≤ 2147483647) : fX11_isIn fu sh I R (Int64.ofInt a) (Int64.ofInt b) (Int64.ofInt c) = some (bz (decide (b ≤ a) && decide (a ≤ c))) := by
  have g1 := cmp_range a b
  have g2 := cmp_range a c
  simp only [fX11_isIn, fX11_isIn_b17, fX11_isIn_b18, lgc_iz h1 h2 h3 h4, lgc_iz h1 h2 h5 h6, iz_lit]
  simp (disch := omega) only [iz_lt, cmp_lt, cmp_gt]
  by_cases k1 : a < b
  · simp [k1, oZ_z0, show ¬ b ≤ a by omega]
  · by_cases k2 : c < a
    · simp [k1, k2, oZ_z0, show ¬ a ≤ c by omega]
    · simp [k1, k2, oZ_z1, show a ≤ c by omega, show b ≤ a by omega]
theorem r_has {m k : Nat} (hm : m < 2147483648) (hk : k < 32) : fX11_has fu sh I R (iz (m : Int)) (iz (k : Int)) = some (bz (m.testBit k)) := by
  simp only [fX11_has, fX11_has_b14, iz_bit hm hk]
  unfold bt
  cases m.testBit k
  · rfl
  · rfl
theorem r_get (S : OKS sh AD) (M : MR R AD) (H : RW I AD ρ) {s k : Int} (h0 : 0 ≤ s) (h1 : s < 12) (h2 : 0 ≤ k) (h3 : k < 6) : fX11_get fu sh I R (AD 316) (iz s) (iz k) = some (iz (gS ρ s k)) := by
  simp only [fX11_get, if_pos S.i, oR_at S.md M.1.1, bsome, iz_lit, iz_mul, iz_add]
  rw [oA_iz S.rw (by omega) (by omega) (by omega), bsome, H _ (by omega) (by omega)]
  rfl
theorem r_sceneOf (S : OKS sh AD) (M : MR R AD) (H : RW I AD ρ) {s : Int} (h0 : 0 ≤ s) (h1 : s < 12) : fX11_sceneOf fu sh I R (AD 316) (iz s) = some (iz (scS ρ s)) := by
  simp only [fX11_sceneOf, if_pos S.i, iz_lit, r_get S M H h0 h1 (by decide : (0 : Int) ≤ 0) (by decide : (0 : Int) < 6), bsome]
  rfl
theorem r_actorX (S : OKS sh AD) (M : MR R AD) (H : RW I AD ρ) {c a : Int} (h0 : 0 ≤ c) (h1 : c < 3) (h2 : 0 ≤ a) (h3 : a < 6) : fX11_actorX fu sh I R (AD 316) (iz c) (iz a) = some (iz (axS ρ c a)) := by
  simp only [fX11_actorX, fX11_sceneAt, if_pos S.i, oR_at S.md M.1.1, bsome, iz_lit, iz_mul, iz_add]
  rw [oA_iz S.rw (by omega) (by omega) (by omega), bsome, H _ (by omega) (by omega)]
  rfl
theorem r_actorY (S : OKS sh AD) (M : MR R AD) (H : RW I AD ρ) {c a : Int} (h0 : 0 ≤ c) (h1 : c < 3) (h2 : 0 ≤ a) (h3 : a < 6) : fX11_actorY fu sh I R (AD 316) (iz c) (iz a) = some (iz (ayS ρ c a)) := by
  simp only [fX11_actorY, fX11_sceneAt, if_pos S.i, oR_at S.md M.1.1, bsome, iz_lit, iz_mul, iz_add]
  rw [oA_iz S.rw (by omega) (by omega) (by omega), bsome, H _ (by omega) (by omega)]
  rfl
theorem r_actorsOf (S : OKS sh AD) (M : MR R AD) (H : RW I AD ρ) {c : Int} (h0 : 0 ≤ c) (h1 : c < 3) : fX11_actorsOf fu sh I R (AD 316) (iz c) = some (iz (csS ρ c)) := by
  simp only [fX11_actorsOf, fX11_sceneAt, if_pos S.i, oR_at S.md M.1.1, bsome, iz_lit, iz_mul, iz_add]
  rw [oA_iz S.rw (by omega) (by omega) (by omega), bsome, H _ (by omega) (by omega)]
  rfl
theorem r_row (S : OKS sh AD) (M : MR R AD) (H : RW I AD ρ) {j : Int} (h0 : 0 ≤ j) (h1 : j < 119) : oA sh I (AD 317) (iz j) = some (iz (ρ j)) := by
  rw [oA_iz S.rw h0 (by omega) (by omega), H _ h0 h1]
theorem r_size {a : Int} (h1 : -2147483648 < a) (h2 : a ≤ 2147483647) : fX11_sizeOfNumber fu sh I R (iz a) = some (iz (ab a)) := by
  simp only [fX11_sizeOfNumber, fX11_sizeOfNumber_b10, iz_lit, iz_neg]
  unfold ab
  simp (disch := omega) only [iz_le]
  by_cases h : a < 0
  · rw [if_neg (by omega), if_pos h]
  · rw [if_pos (by omega), if_neg h]
theorem ab_range {a b : Int} (h : -b ≤ a) (h2 : a ≤ b) : 0 ≤ ab a ∧ ab a ≤ b := by
  unfold ab
  split <;> omega
theorem t_range {x y : Int} (h1 : -398 ≤ x) (h2 : x ≤ 398) (h3 : -398 ≤ y) (h4 : y ≤ 398) : 0 ≤ 1000 * ab y / (ab x + ab y) ∧ 1000 * ab y / (ab x + ab y) ≤ 1000 := by
  have hx := ab_range h1 h2
  have hy := ab_range h3 h4
  refine ⟨Int.ediv_nonneg (by omega) (by omega), ?_⟩
  by_cases h : ab x + ab y = 0
  · rw [h, Int.ediv_zero]; decide
  · exact Int.ediv_le_of_le_mul (by omega) (by omega)
theorem dir_range {x y : Int} (h1 : -398 ≤ x) (h2 : x ≤ 398) (h3 : -398 ≤ y) (h4 : y ≤ 398) : 0 ≤ dirS x y ∧ dirS x y < 4000 := by
  have ht := t_range h1 h2 h3 h4
  unfold dirS
  generalize 1000 * ab y / (ab x + ab y) = t at ht
  repeat' split <;> omega
theorem r_dir {x y : Int} (h1 : -398 ≤ x) (h2 : x ≤ 398) (h3 : -398 ≤ y) (h4 : y ≤ 398) (h5 : ¬ (x = 0 ∧ y = 0)) : fX11_directionOf fu sh I R (iz x) (iz y) = some (iz (dirS x y)) := by
  have hx := ab_range h1 h2
  have hy := ab_range h3 h4
  have h0 : 0 < ab x + ab y := by
    unfold ab
    repeat' split <;> omega
  have ht := t_range h1 h2 h3 h4
  simp only [fX11_directionOf, fX11_directionOf_b29, fX11_directionOf_b43, fX11_directionOf_b59, fX11_directionOf_b68, r_size (fu := fu) (sh := sh) (I := I) (R := R) (a := x) (by omega) (by omega), r_size (fu := fu) (sh := sh) (I := I) (R := R) (a := y) (by omega) (by omega), bsome, iz_lit, iz_mul, iz_add]
  rw [oD_iz (by omega) (by omega) (by omega) (by omega), bsome]
  unfold dirS
  generalize 1000 * ab y / (ab x + ab y) = t at ht
  simp (disch := omega) only [iz_le, iz_lt, iz_sub, iz_add, oM_iz, bsome]
  by_cases g1 : 0 < x
  · by_cases g2 : 0 ≤ y
    · simp [g1, g2, show ¬ x ≤ 0 by omega, show ¬ y < 0 by omega]
    · simp [g1, g2, show ¬ x ≤ 0 by omega, show y < 0 by omega, show 0 ≤ x by omega, show ¬ 0 < y by omega, show ¬ x < 0 by omega]
  · by_cases g2 : 0 < y
    · simp [g1, g2, show x ≤ 0 by omega, show ¬ y ≤ 0 by omega]
    · by_cases g3 : x < 0
      · simp [g1, g2, g3, show x ≤ 0 by omega, show y ≤ 0 by omega, show ¬ 0 ≤ x by omega]
      · simp [g1, g2, g3, show x ≤ 0 by omega, show y ≤ 0 by omega, show 0 ≤ x by omega]
theorem r_turn {p q : Int} (h1 : 0 ≤ p) (h2 : p < 4000) (h3 : 0 ≤ q) (h4 : q < 4000) : fX11_turnOf fu sh I R (iz p) (iz q) = some (iz (turnS p q)) := by
  have ha := ab_range (a := p - q) (b := 4000) (by omega) (by omega)
  simp only [fX11_turnOf, iz_sub, r_size (fu := fu) (sh := sh) (I := I) (R := R) (a := p - q) (by omega) (by omega), bsome, iz_lit]
  rw [iMin_iz (by omega) (by omega) (by omega) (by omega)]
  rfl
theorem turn_range {p q : Int} (h1 : 0 ≤ p) (h2 : p < 4000) (h3 : 0 ≤ q) (h4 : q < 4000) : 0 ≤ turnS p q ∧ turnS p q ≤ 2000 := by
  unfold turnS ab
  split <;> omega
theorem r_sign {v : Int} (h1 : -2147483648 ≤ v) (h2 : v ≤ 2147483647) : fX11_signOf fu sh I R (iz v) = some (iz (sgnS v)) := by
  simp only [fX11_signOf, fX11_signOf_b17, iz_lit, iz_neg]
  simp (disch := omega) only [iz_le]
  unfold sgnS
  by_cases g1 : 0 < v
  · simp [g1, show ¬ v ≤ 0 by omega]
  · by_cases g2 : v < 0
    · simp [g1, g2, show v ≤ 0 by omega, show ¬ 0 ≤ v by omega]
    · simp [g1, g2, show v ≤ 0 by omega, show 0 ≤ v by omega]
theorem r_cross (x y u v : Int) : fX11_cross fu sh I R (iz x) (iz y) (iz u) (iz v) = some (iz (crossS x y u v)) := by
  simp only [fX11_cross, iz_mul, iz_sub]
  rfl
end R1
