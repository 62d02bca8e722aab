/-! STAGE 2, the reference: views, sides, looks, faults -/
theorem VB.n {ρ : RHO} (V : VB ρ) : 0 ≤ ρ 4 ∧ ρ 4 ≤ 12 := V.2.2.2.2.1
theorem VB.m {ρ : RHO} (V : VB ρ) : 1 ≤ ρ 3 ∧ ρ 3 ≤ 3 := V.2.2.2.1
theorem VB.lim {ρ : RHO} (V : VB ρ) : (0 ≤ ρ 0 ∧ ρ 0 ≤ 99) ∧ (0 ≤ ρ 1 ∧ ρ 1 ≤ 2000) ∧ (0 ≤ ρ 2 ∧ ρ 2 ≤ 2000) := ⟨V.1, V.2.1, V.2.2.1⟩
theorem VB.scene {ρ : RHO} (V : VB ρ) {c : Int} (h0 : 0 ≤ c) (h1 : c < ρ 3) : (0 ≤ ltS ρ c ∧ ltS ρ c ≤ 3) ∧ (0 < csS ρ c ∧ csS ρ c < 64) ∧ ∀ a, 0 ≤ a → a < 6 → inS ρ c a = true → (0 ≤ axS ρ c a ∧ axS ρ c a ≤ 199) ∧ (0 ≤ ayS ρ c a ∧ ayS ρ c a ≤ 199) := V.2.2.2.2.2.1 c h0 h1
theorem VB.shot {ρ : RHO} (V : VB ρ) {s : Int} (h0 : 0 ≤ s) (h1 : s < ρ 4) : (0 ≤ scS ρ s ∧ scS ρ s < ρ 3) ∧ (0 ≤ cxS ρ s ∧ cxS ρ s ≤ 199) ∧ (0 ≤ cyS ρ s ∧ cyS ρ s ≤ 199) ∧ (0 ≤ suS ρ s ∧ suS ρ s < 6) ∧ inS ρ (scS ρ s) (suS ρ s) = true ∧
    (paS ρ s = -1 ∨ ((0 ≤ paS ρ s ∧ paS ρ s < 6) ∧ inS ρ (scS ρ s) (paS ρ s) = true ∧ ¬ paS ρ s = suS ρ s)) ∧ (1 ≤ lnS ρ s ∧ lnS ρ s ≤ 99) ∧ ¬ (sxS ρ s = cxS ρ s ∧ syS ρ s = cyS ρ s) := V.2.2.2.2.2.2.1 s h0 h1
theorem VB.sub {ρ : RHO} (V : VB ρ) {s : Int} (h0 : 0 ≤ s) (h1 : s < ρ 4) : (0 ≤ sxS ρ s ∧ sxS ρ s ≤ 199) ∧ (0 ≤ syS ρ s ∧ syS ρ s ≤ 199) := by
  obtain ⟨a1, -, -, a4, a5, -⟩ := V.shot h0 h1
  exact (V.scene a1.1 a1.2).2.2 _ a4.1 a4.2 a5
theorem VB.par {ρ : RHO} (V : VB ρ) {s : Int} (h0 : 0 ≤ s) (h1 : s < ρ 4) (h2 : ¬ paS ρ s = -1) : (0 ≤ paS ρ s ∧ paS ρ s < 6) ∧ (0 ≤ pxS ρ s ∧ pxS ρ s ≤ 199) ∧ (0 ≤ pyS ρ s ∧ pyS ρ s ≤ 199) ∧ ¬ paS ρ s = suS ρ s := by
  obtain ⟨a1, -, -, a4, a5, a6, -⟩ := V.shot h0 h1
  rcases a6 with a6 | ⟨a6, a7, a8⟩
  · exact absurd a6 h2
  · have := (V.scene a1.1 a1.2).2.2 _ a6.1 a6.2 a7
    exact ⟨a6, this.1, this.2, a8⟩
theorem iz10 : (iz 1 = iz 0) = False := by
  rw [iz_eq (by decide) (by decide) (by decide) (by decide)]
  exact propext ⟨fun h => absurd h (by decide), False.elim⟩
section R2
variable {fu : Nat} {sh : HS} {I : HI} {R : HR} {AD : Int → Nat} {ρ : RHO} {s t : Int}
theorem VB.view {ρ : RHO} (V : VB ρ) {s : Int} (h0 : 0 ≤ s) (h1 : s < ρ 4) : 0 ≤ viewS ρ s ∧ viewS ρ s < 4000 := by
  obtain ⟨a1, a2, a3, -⟩ := V.shot h0 h1
  have b := V.sub h0 h1
  exact dir_range (by omega) (by omega) (by omega) (by omega)
theorem mul_le {a b A B : Int} (h1 : -A ≤ a) (h2 : a ≤ A) (h3 : -B ≤ b) (h4 : b ≤ B) : -(A * B) ≤ a * b ∧ a * b ≤ A * B := by
  have hA : 0 ≤ A := by omega
  have hB : 0 ≤ B := by omega
  rcases Int.le_total 0 a with ha | ha <;> rcases Int.le_total 0 b with hb | hb
  · have := Int.mul_le_mul h2 h4 hb hA
    have := Int.mul_nonneg ha hb
    have := Int.mul_nonneg hA hB
    omega
  · have x1 := Int.mul_le_mul h2 (show -b ≤ B by omega) (by omega) hA
    have x2 := Int.mul_nonneg ha (show 0 ≤ -b by omega)
    have x3 := Int.mul_nonneg hA hB
    rw [Int.mul_neg] at x1 x2
    omega
  · have x1 := Int.mul_le_mul (show -a ≤ A by omega) h4 hb hA
    have x2 := Int.mul_nonneg (show 0 ≤ -a by omega) hb
    have x3 := Int.mul_nonneg hA hB
    rw [Int.neg_mul] at x1 x2
    omega
  · have x1 := Int.mul_le_mul (show -a ≤ A by omega) (show -b ≤ B by omega) (by omega) hA
    have x2 := Int.mul_nonneg (show 0 ≤ -a by omega) (show 0 ≤ -b by omega)
    have x3 := Int.mul_nonneg hA hB
    rw [Int.neg_mul, Int.mul_neg, Int.neg_neg] at x1 x2
    omega
theorem cross_range {x y u v : Int} (h1 : -199 ≤ x) (h2 : x ≤ 199) (h3 : -199 ≤ y) (h4 : y ≤ 199) (h5 : -199 ≤ u) (h6 : u ≤ 199) (h7 : -199 ≤ v) (h8 : v ≤ 199) : -79202 ≤ crossS x y u v ∧ crossS x y u v ≤ 79202 := by
  have a := mul_le h1 h2 h7 h8
  have b := mul_le h3 h4 h5 h6
  unfold crossS
  omega
end R2
