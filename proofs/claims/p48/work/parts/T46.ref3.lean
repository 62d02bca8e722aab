/-! STAGE 2, the reference: who is visible, who blocks, faults -/
theorem iz_shlz {k : Nat} (hk : k < 31) : iz 1 <<< (iz (k : Int) &&& iz 31) = iz ((2 ^ k : Nat) : Int) := by
  have h := iz_shl hk
  rw [iz_lit 1, iz_lit 31] at h
  exact h
theorem iz_tn {x : Int} (h : 0 ≤ x) : iz x = iz (x.toNat : Int) := by rw [Int.toNat_of_nonneg h]
section R3
variable {fu : Nat} {sh : HS} {I : HI} {R : HR} {AD : Int → Nat} {ρ : RHO} {s t : Int}
end R3
