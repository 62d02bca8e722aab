/-! STAGE 2: a quotient of two small whole numbers, the second not 0, is no NaN -/
def fbK (a : Nat) : Bool := match FP.Core.decode FP.Core.b64 (FP.i2d (iz (a : Int))).toNat with | .fin _ c _ => (a == 0) || (c != 0) | _ => false
theorem fb_B : ((List.range 120).all fun i => (List.range 120).all fun j => fbK (120 * i + j)) = true := by decide +kernel
theorem fb_ok {a : Nat} (h : a ≤ 14256) : fbK a = true := by
  have h1 := List.all_eq_true.mp fb_B (a / 120) (List.mem_range.mpr (by omega))
  have h2 := List.all_eq_true.mp h1 (a % 120) (List.mem_range.mpr (by omega))
  have e : 120 * (a / 120) + a % 120 = a := by omega
  rw [e] at h2
  exact h2
def okD : FP.Core.Datum → Prop
  | .nan => False
  | .inf _ => True
  | .fin _ c q => c < 2 ^ 53 ∧ (c < 2 ^ 52 ∨ q ≤ 971)
theorem okD_bits : ∀ d : FP.Core.Datum, okD d → UInt64.ofNat (FP.Core.encode FP.Core.b64 d) &&& 0x7fffffffffffffff ≤ 0x7ff0000000000000 := by
  intro d h
  have key : ∀ n : Nat, n % 2 ^ 63 ≤ 9218868437227405312 → UInt64.ofNat n &&& 0x7fffffffffffffff ≤ 0x7ff0000000000000 := by
    intro n hn
    rw [UInt64.le_iff_toNat_le, UInt64.toNat_and, show (0x7fffffffffffffff : UInt64).toNat = 2 ^ 63 - 1 from rfl, Nat.and_two_pow_sub_one_eq_mod, UInt64.toNat_ofNat', show (0x7ff0000000000000 : UInt64).toNat = 9218868437227405312 from rfl]
    have e : n % 2 ^ 64 % 2 ^ 63 = n % 2 ^ 63 := by omega
    rw [e]
    exact hn
  refine key _ ?_
  have asm : ∀ (s : Bool) (e t : Nat), FP.Core.assemble FP.Core.b64 s e t = (s.toNat * 2048 + e) * 4503599627370496 + t := fun s e t => rfl
  have sb : ∀ s : Bool, s.toNat = 0 ∨ s.toNat = 1 := fun s => by cases s; exact Or.inl rfl; exact Or.inr rfl
  match d, h with
  | .inf s, _ =>
    show FP.Core.assemble FP.Core.b64 s (2048 - 1) 0 % 2 ^ 63 ≤ _
    rw [asm]
    rcases sb s with q | q <;> rw [q] <;> omega
  | .fin s c q, h =>
    obtain ⟨h1, h2⟩ := h
    show (if c < 4503599627370496 then FP.Core.assemble FP.Core.b64 s 0 c else FP.Core.assemble FP.Core.b64 s ((q - FP.Core.b64.qmin).toNat + 1) (c - 4503599627370496)) % 2 ^ 63 ≤ _
    have qm : FP.Core.b64.qmin = -1074 := rfl
    by_cases z : c < 4503599627370496
    · rw [if_pos z, asm]
      rcases sb s with q | q <;> rw [q] <;> omega
    · rw [if_neg z, asm, qm]
      have h3 : q ≤ 971 := by
        rcases h2 with h2 | h2
        · exact absurd h2 z
        · exact h2
      rcases sb s with k | k <;> rw [k] <;> omega
theorem okD_rr (s : Bool) (c d : Nat) (e : Int) : okD (FP.Core.roundRatio FP.Core.b64 s c d e) := by
  unfold FP.Core.roundRatio
  split
  · exact ⟨by show (0 : Nat) < 2 ^ 53; decide, Or.inl (by decide)⟩
  · unfold FP.Core.roundAt FP.Core.settle FP.Core.bound
    have p : FP.Core.b64.p = 53 := rfl
    have qx : FP.Core.b64.qmax = 971 := rfl
    split
    · rename_i h
      split
      · rename_i h2
        exact ⟨h, Or.inr (by rw [← qx]; exact h2)⟩
      · exact True.intro
    · split
      · rename_i h2
        exact ⟨by show (4503599627370496 : Nat) < 2 ^ 53; decide, Or.inr (by rw [← qx]; exact h2)⟩
      · exact True.intro
theorem oDD_ok {p w : Nat} (hp : p ≤ 14256) (hw : w ≤ 14256) (h0 : ¬ w = 0) : oDD (FP.i2d (iz (p : Int))) (FP.i2d (iz (w : Int))) = some (FP.ddiv (FP.i2d (iz (p : Int))) (FP.i2d (iz (w : Int)))) := by
  unfold oDD
  refine if_pos ?_
  have h1 := fb_ok hp
  have h2 := fb_ok hw
  unfold fbK at h1 h2
  show UInt64.ofNat (FP.Core.encode FP.Core.b64 (FP.Core.quotient FP.Core.b64 (FP.Core.decode FP.Core.b64 (FP.i2d (iz (p : Int))).toNat) (FP.Core.decode FP.Core.b64 (FP.i2d (iz (w : Int))).toNat))) &&& 0x7fffffffffffffff ≤ 0x7ff0000000000000
  refine okD_bits _ ?_
  split at h1
  · rename_i s1 c1 q1 e1
    rw [e1]
    split at h2
    · rename_i s2 c2 q2 e2
      rw [e2]
      have hc : ¬ c2 = 0 := by
        intro z
        rw [z] at h2
        have : (w == 0) = false := by simpa using h0
        rw [this] at h2
        exact absurd h2 (by decide)
      show okD (if c2 = 0 then (if c1 = 0 then .nan else .inf (s1 != s2)) else FP.Core.roundRatio FP.Core.b64 (s1 != s2) c1 c2 (q1 - q2))
      rw [if_neg hc]
      exact okD_rr _ _ _ _
    · exact absurd h2 (by decide)
  · exact absurd h1 (by decide)
