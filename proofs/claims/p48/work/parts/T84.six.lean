/-! STAGE 2: six elements copied -/
section Q19
variable {sh : HS} {I : HI} {AD : Int → Nat}
theorem oC_6 {a b : Nat} (ha : sh a = some (20, 6)) (hb : sh b = some (20, 6)) : oC sh I a (iz 0) b (iz 0) (iz 6) = some (cp2 I a 0 b 0 6) := by
  unfold oC
  rw [ha, hb]
  have c : (20 = 20 ∧ 20 = 20 ∧ ¬ iz 0 < 0 ∧ ¬ iz 0 < 0 ∧ ¬ iz 6 < 0 ∧ (iz 0).toNatClampNeg + (iz 6).toNatClampNeg ≤ 6 ∧ (iz 0).toNatClampNeg + (iz 6).toNatClampNeg ≤ 6) := by decide +kernel
  show (if (20 = 20 ∧ 20 = 20 ∧ ¬ iz 0 < 0 ∧ ¬ iz 0 < 0 ∧ ¬ iz 6 < 0 ∧ (iz 0).toNatClampNeg + (iz 6).toNatClampNeg ≤ 6 ∧ (iz 0).toNatClampNeg + (iz 6).toNatClampNeg ≤ 6) then some (cp2 I a (iz 0).toNatClampNeg b (iz 0).toNatClampNeg (iz 6).toNatClampNeg) else none) = _
  rw [if_pos c]
  rfl
end Q19
