/-! STAGE 2, where things lie: objects by number, apart -/
def kdL : List (Nat × Nat) := [(8, 14), (20, 800), (1, 7), (20, 0), (2, 3), (30, 10), (6, 10), (20, 12), (20, 12), (20, 12), (20, 12), (20, 12), (20, 12), (20, 12), (20, 12), (20, 12), (4, 7), (20, 12), (20, 144), (20, 49152), (20, 12), (4, 7), (20, 6), (20, 36), (20, 384), (20, 6), (3, 2), (20, 1056)]
def kdB : List (Nat × Nat) := [(0, 7), (35, 3), (37, 12), (5, 4), (20, 6), (20, 6), (5, 4), (20, 6), (20, 6), (5, 4), (20, 6), (20, 6), (7, 6), (7, 6), (7, 6), (7, 6), (7, 6), (7, 6), (7, 6), (7, 6), (7, 6), (7, 6), (7, 6), (7, 6)]
def kdM : List (Nat × Nat) := [(9, 29), (20, 119), (20, 119), (20, 1190), (20, 800), (20, 6), (20, 6), (20, 72), (20, 12), (20, 12), (20, 12), (20, 49152), (20, 156), (20, 12), (20, 2400), (22, 1), (23, 1)]
def kd (i : Int) : Nat × Nat := if i < 28 then kdL.getD i.toNat (0, 0) else if i < 316 then kdB.getD ((i - 28) % 24).toNat (0, 0) else kdM.getD (i - 316).toNat (0, 0)
def OKS (sh : HS) (AD : Int → Nat) : Prop := (∀ i, 0 ≤ i → i < 316 → sh (AD i) = some (kd i)) ∧ (∀ i j, 0 ≤ i → i < 331 → 0 ≤ j → j < 331 → AD i = AD j → i = j)
theorem OKS.at {sh : HS} {AD : Int → Nat} (S : OKS sh AD) {i : Int} {t n : Nat} (h : kd i = (t, n)) (h0 : 0 ≤ i) (h1 : i < 316) : sh (AD i) = some (t, n) := by rw [← h]; exact S.1 i h0 h1
theorem OKS.pl {sh : HS} {AD : Int → Nat} (S : OKS sh AD) : sh (AD 0) = some (8, 14) := S.at rfl (by decide) (by decide)
theorem u2_ad {α : Type} {sh : HS} {AD : Int → Nat} (S : OKS sh AD) {i j : Int} (hi : 0 ≤ i) (hi2 : i < 331) (hj : 0 ≤ j) (hj2 : j < 331) (f : Nat → Nat → α) (k k' : Nat) (x : α) : u2 f (AD i) k x (AD j) k' = if j = i ∧ k' = k then x else f (AD j) k' := by
  unfold u2
  by_cases h : j = i
  · subst h
    simp
  · have : ¬ AD j = AD i := fun z => h (S.2 j i hj hj2 hi hi2 z)
    simp [h, this]
theorem u2_ne {α : Type} {sh : HS} {AD : Int → Nat} (S : OKS sh AD) {i j : Int} (hi : 0 ≤ i) (hi2 : i < 331) (hj : 0 ≤ j) (hj2 : j < 331) (h : ¬ j = i) (f : Nat → Nat → α) (k k' : Nat) (x : α) : u2 f (AD i) k x (AD j) k' = f (AD j) k' := by
  rw [u2_ad S hi hi2 hj hj2, if_neg (fun z => h z.1)]
/-- the reference's row -/
def RW (I : HI) (AD : Int → Nat) (ρ : RHO) : Prop := ∀ j, 0 ≤ j → j < 119 → I (AD 317) j.toNat = iz (ρ j)
theorem kd_B {b : Int} (h0 : 0 ≤ b) (h1 : b < 12) : kd (28 + 24 * b) = (0, 7) ∧ kd (29 + 24 * b) = (35, 3) ∧ kd (30 + 24 * b) = (37, 12) := by
  have h : b = 0 ∨ b = 1 ∨ b = 2 ∨ b = 3 ∨ b = 4 ∨ b = 5 ∨ b = 6 ∨ b = 7 ∨ b = 8 ∨ b = 9 ∨ b = 10 ∨ b = 11 := by omega
  rcases h with rfl | rfl | rfl | rfl | rfl | rfl | rfl | rfl | rfl | rfl | rfl | rfl <;> exact ⟨rfl, rfl, rfl⟩
theorem kd_S {b c : Int} (h0 : 0 ≤ b) (h1 : b < 12) (h2 : 0 ≤ c) (h3 : c < 3) : kd (31 + 24 * b + 3 * c) = (5, 4) ∧ kd (32 + 24 * b + 3 * c) = (20, 6) ∧ kd (33 + 24 * b + 3 * c) = (20, 6) := by
  have e : ∀ d, 0 ≤ d → d < 24 → kd (28 + 24 * b + d) = kdB.getD d.toNat (0, 0) := by
    intro d d0 d1
    unfold kd
    rw [if_neg (by omega), if_pos (by omega)]
    congr 2
    omega
  have h : c = 0 ∨ c = 1 ∨ c = 2 := by omega
  rw [show 31 + 24 * b + 3 * c = 28 + 24 * b + (3 + 3 * c) by omega, show 32 + 24 * b + 3 * c = 28 + 24 * b + (4 + 3 * c) by omega, show 33 + 24 * b + 3 * c = 28 + 24 * b + (5 + 3 * c) by omega, e _ (by omega) (by omega), e _ (by omega) (by omega), e _ (by omega) (by omega)]
  rcases h with rfl | rfl | rfl <;> exact ⟨rfl, rfl, rfl⟩
theorem kd_H {b k : Int} (h0 : 0 ≤ b) (h1 : b < 12) (h2 : 0 ≤ k) (h3 : k < 12) : kd (40 + 24 * b + k) = (7, 6) := by
  have e : ∀ d, 0 ≤ d → d < 24 → kd (28 + 24 * b + d) = kdB.getD d.toNat (0, 0) := by
    intro d d0 d1
    unfold kd
    rw [if_neg (by omega), if_pos (by omega)]
    congr 2
    omega
  have h : k = 0 ∨ k = 1 ∨ k = 2 ∨ k = 3 ∨ k = 4 ∨ k = 5 ∨ k = 6 ∨ k = 7 ∨ k = 8 ∨ k = 9 ∨ k = 10 ∨ k = 11 := by omega
  rw [show 40 + 24 * b + k = 28 + 24 * b + (12 + k) by omega, e _ (by omega) (by omega)]
  rcases h with rfl | rfl | rfl | rfl | rfl | rfl | rfl | rfl | rfl | rfl | rfl | rfl <;> rfl
