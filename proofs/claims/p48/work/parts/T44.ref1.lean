/-! STAGE 2, the reference: what it reads of its row -/
def bz (b : Bool) : Int32 := iz (b2i b)
theorem bz_zero (b : Bool) : (bz b = iz 0) = (b = false) := by
  cases b
  · simp [bz, b2i]
  · simp only [bz, b2i, if_true]
    rw [iz_eq (by decide) (by decide) (by decide) (by decide)]
    decide
theorem oZ_bz (b : Bool) : oZ (bz b) = some (bz b) := by
  cases b
  · rfl
  · rfl
section R1
variable {fu : Nat} {sh : HS} {I : HI} {R : HR} {AD : Int → Nat} {ρ : RHO}
theorem ab_range {a b : Int} (h : -b ≤ a) (h2 : a ≤ b) : 0 ≤ ab a ∧ ab a ≤ b := by
  unfold ab
  split <;> omega
theorem t_range {x y : Int} (h1 : -398 ≤ x) (h2 : x ≤ 398) (h3 : -398 ≤ y) (h4 : y ≤ 398) : 0 ≤ 1000 * ab y / (ab x + ab y) ∧ 1000 * ab y / (ab x + ab y) ≤ 1000 := by
  have hx := ab_range h1 h2
  have hy := ab_range h3 h4
  refine ⟨Int.ediv_nonneg (by omega) (by omega), ?_⟩
  by_cases h : ab x + ab y = 0
  · rw [h, Int.ediv_zero]; decide
  · exact Int.ediv_le_of_le_mul (by omega) (by omega)
theorem dir_range {x y : Int} (h1 : -398 ≤ x) (h2 : x ≤ 398) (h3 : -398 ≤ y) (h4 : y ≤ 398) : 0 ≤ dirS x y ∧ dirS x y < 4000 := by
  have ht := t_range h1 h2 h3 h4
  unfold dirS
  generalize 1000 * ab y / (ab x + ab y) = t at ht
  repeat' split <;> omega
theorem turn_range {p q : Int} (h1 : 0 ≤ p) (h2 : p < 4000) (h3 : 0 ≤ q) (h4 : q < 4000) : 0 ≤ turnS p q ∧ turnS p q ≤ 2000 := by
  unfold turnS ab
  split <;> omega
end R1
