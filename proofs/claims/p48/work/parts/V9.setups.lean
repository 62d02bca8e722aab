/-! THE LAW, STAGE 2: setups by the law's own reckoning -/
theorem mkS_cg {P Q : Nat → Bool} : ∀ n, (∀ t, t < n → P t = Q t) → mkS P n = mkS Q n
  | 0, _ => rfl
  | n + 1, h => by
    show mkS P n ||| (if P n = true then 2 ^ n else 0) = mkS Q n ||| (if Q n = true then 2 ^ n else 0)
    rw [mkS_cg n (fun t ht => h t (by omega)), h n (by omega)]
theorem mkS_bit (P : Nat → Bool) (k : Nat) : ∀ n, (mkS P n).testBit k = (decide (k < n) && P k)
  | 0 => by simp [mkS]
  | n + 1 => by
    show (mkS P n ||| (if P n = true then 2 ^ n else 0)).testBit k = _
    rw [Nat.testBit_or, mkS_bit P k n]
    by_cases e : k = n
    · subst e
      cases h : P k
      · simp
      · simp [Nat.testBit_two_pow_self]
    · have e2 : (if P n = true then 2 ^ n else 0).testBit k = false := by
        split
        · rw [Nat.testBit_two_pow]; simp; omega
        · simp
      rw [e2, Bool.or_false]
      congr 1
      by_cases z : k < n
      · rw [decide_eq_true z, decide_eq_true (by omega)]
      · rw [decide_eq_false z, decide_eq_false (by omega)]
theorem fsN_eq {P : Nat → Bool} {f : Nat} : ∀ (d a : Nat), a ≤ f → f < a + d → P f = true → (∀ t, a ≤ t → t < f → P t = false) → fsN P a d = f
  | 0, a, h1, h2, _, _ => by omega
  | d + 1, a, h1, h2, h3, h4 => by
    show (if P a = true then a else fsN P (a + 1) d) = f
    by_cases e : a = f
    · subst e; rw [if_pos h3]
    · rw [if_neg (by rw [h4 a (Nat.le_refl _) (by omega)]; decide)]
      exact fsN_eq d (a + 1) (by omega) (by omega) h3 (fun t t1 t2 => h4 t (by omega) t2)
theorem hfG (ρ : RHO) (r : Int) : ∀ s k, k < mG_ ρ r s → hG ρ r s (fG ρ r s k) = k ∧ ∀ t, t < fG ρ r s k → ¬ hG ρ r s t = k
  | 0, k, h => by have : mG_ ρ r 0 = 0 := rfl; omega
  | s + 1, k, h => by
    have j := jG_le ρ r s
    rw [mG_s] at h
    by_cases e : jG ρ r s = mG_ ρ r s
    · rw [if_pos e] at h
      rw [fG_s, if_pos e]
      by_cases g : k = mG_ ρ r s
      · have e1 : up (fG ρ r s) (mG_ ρ r s) s k = s := by unfold up; rw [if_pos g]
        rw [e1]
        refine ⟨by rw [hG_s]; unfold up; rw [if_pos rfl, e, g], fun t ht => ?_⟩
        rw [hG_s]
        unfold up
        rw [if_neg (by omega)]
        have := hG_lt ρ r s t ht
        omega
      · have e1 : up (fG ρ r s) (mG_ ρ r s) s k = fG ρ r s k := by unfold up; rw [if_neg g]
        rw [e1]
        have hk : k < mG_ ρ r s := by omega
        have hf := fG_lt ρ r s k hk
        obtain ⟨i1, i2⟩ := hfG ρ r s k hk
        refine ⟨by rw [hG_s]; unfold up; rw [if_neg (by omega)]; exact i1, fun t ht => ?_⟩
        rw [hG_s]
        unfold up
        rw [if_neg (by omega)]
        exact i2 t ht
    · rw [if_neg e] at h
      rw [fG_s, if_neg e]
      have hf := fG_lt ρ r s k h
      obtain ⟨i1, i2⟩ := hfG ρ r s k h
      refine ⟨by rw [hG_s]; unfold up; rw [if_neg (by omega)]; exact i1, fun t ht => ?_⟩
      rw [hG_s]
      unfold up
      rw [if_neg (by omega)]
      exact i2 t ht
theorem qG_low {ρ : RHO} {r : Int} {s k : Nat} (hs : s ≤ 12) (hk : k < mG_ ρ r s) : fsN (fun t => (qG ρ r s k).testBit t) 0 12 = fG ρ r s k := by
  obtain ⟨h1, h2⟩ := hfG ρ r s k hk
  have h3 := fG_lt ρ r s k hk
  refine fsN_eq 12 0 (Nat.zero_le _) (by omega) ?_ (fun t _ ht => ?_)
  · show (mkS _ s).testBit _ = true
    rw [mkS_bit, decide_eq_true h3, decide_eq_true h1]
    rfl
  · show (mkS _ s).testBit t = false
    rw [mkS_bit, decide_eq_false (h2 t ht), Bool.and_false]
theorem qG_ne {ρ : RHO} {r : Int} {s k : Nat} (hk : k < mG_ ρ r s) : ¬ qG ρ r s k = 0 := by
  obtain ⟨h1, h2⟩ := hfG ρ r s k hk
  have h3 := fG_lt ρ r s k hk
  intro e
  have h4 : (qG ρ r s k).testBit (fG ρ r s k) = true := by
    show (mkS _ s).testBit _ = true
    rw [mkS_bit, decide_eq_true h3, decide_eq_true h1]
    rfl
  rw [e] at h4
  simp at h4
theorem qG_s (ρ : RHO) (r : Int) (s k : Nat) : qG ρ r (s + 1) k = qG ρ r s k ||| (if jG ρ r s = k then 2 ^ s else 0) := by
  show mkS (fun t => decide (hG ρ r (s + 1) t = k)) s ||| (if decide (hG ρ r (s + 1) s = k) = true then 2 ^ s else 0) = _
  have e1 : hG ρ r (s + 1) s = jG ρ r s := by rw [hG_s]; unfold up; rw [if_pos rfl]
  rw [e1, mkS_cg s (Q := fun t => decide (hG ρ r s t = k)) (fun t ht => by rw [hG_s]; unfold up; rw [if_neg (by omega)])]
  congr 1
  by_cases z : jG ρ r s = k
  · rw [if_pos z, if_pos (decide_eq_true z)]
  · rw [if_neg z, if_neg (by rw [decide_eq_false z]; decide)]
theorem qG_new {ρ : RHO} {r : Int} {s k : Nat} (hk : mG_ ρ r s ≤ k) : qG ρ r s k = 0 := by
  have : qG ρ r s k = mkS (fun _ => false) s := mkS_cg s (fun t ht => by
    have := hG_lt ρ r s t ht
    rw [decide_eq_false (by omega)])
  rw [this]
  have key : ∀ n, mkS (fun _ => false) n = 0 := by
    intro n
    induction n with
    | zero => rfl
    | succ n ih => show mkS (fun _ => false) n ||| (if (fun _ => false) n = true then 2 ^ n else 0) = 0; rw [ih]; simp
  exact key s
theorem qG_lt (ρ : RHO) (r : Int) {s k : Nat} (hs : s ≤ 12) : qG ρ r s k < 4096 := by
  have := mkS_lt (fun t => decide (hG ρ r s t = k)) s
  have e : 2 ^ s ≤ 2 ^ 12 := Nat.pow_le_pow_right (by decide) hs
  unfold qG
  omega
theorem ntz_B : ((List.range 4096).all fun m => m == 0 || decide (fJ6_numberOfTrailingZeros_0f7a4 0 (fun _ => none) (fun _ _ => 0) (fun _ _ => none) (iz (m : Int)) = some (iz (fsN (fun k => m.testBit k) 0 12 : Nat)))) = true := by decide +kernel
theorem ntz_ok {fu : Nat} {sh : HS} {I : HI} {R : HR} {m : Nat} (h : m < 4096) (h0 : ¬ m = 0) : fJ6_numberOfTrailingZeros_0f7a4 fu sh I R (iz (m : Int)) = some (iz (fsN (fun k => m.testBit k) 0 12 : Nat)) := by
  have h1 := List.all_eq_true.mp ntz_B m (List.mem_range.mpr h)
  rw [Bool.or_eq_true, beq_iff_eq] at h1
  rcases h1 with h1 | h1
  · exact absurd h1 h0
  · exact of_decide_eq_true h1
