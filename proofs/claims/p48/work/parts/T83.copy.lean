/-! STAGE 2: the class copies a shot -/
section Q18
variable {fu : Nat} {sh : HS} {I : HI} {R : HR} {AD : Int → Nat}
theorem c_copyShot (S : OKS sh AD) {i1 i2 : Int} (h0 : 0 ≤ i1) (h1 : i1 < 331) (h2 : 0 ≤ i2) (h3 : i2 < 331) (hne : ¬ i2 = i1) (t1 : sh (AD i1) = some (7, 6)) (t2 : sh (AD i2) = some (7, 6)) :
    ∃ I', fX8_copyFrom fu sh I R (AD i1) (AD i2) = some I' ∧ (∀ k : Nat, k < 6 → I' (AD i1) k = I (AD i2) k) ∧ FR AD I I' (fun i _ => i = i1) := by
  have rd : ∀ (J : HI) (k k' : Nat) (x : Int32), u2 J (AD i1) k x (AD i2) k' = J (AD i2) k' := fun J k k' x => u2_ne S h0 h1 h2 h3 hne J k k' x
  have wr : ∀ (J : HI) (k k' : Nat) (x : Int32), u2 J (AD i1) k x (AD i1) k' = if k' = k then x else J (AD i1) k' := by
    intro J k k' x
    rw [u2_ad S h0 h1 h0 h1]
    by_cases z : k' = k
    · rw [if_pos ⟨rfl, z⟩, if_pos z]
    · rw [if_neg (fun w => z w.2), if_neg z]
  refine ⟨u2 (u2 (u2 (u2 (u2 (u2 I (AD i1) 0 (I (AD i2) 0)) (AD i1) 1 (I (AD i2) 1)) (AD i1) 2 (I (AD i2) 2)) (AD i1) 3 (I (AD i2) 3)) (AD i1) 4 (I (AD i2) 4)) (AD i1) 5 (I (AD i2) 5), ?_, fun k hk => ?_, ?_⟩
  · simp only [fX8_copyFrom, if_pos (isT_of t1), oI_at t2, oP_at t1, bsome, rd]
  · simp only [wr]
    have q : k = 0 ∨ k = 1 ∨ k = 2 ∨ k = 3 ∨ k = 4 ∨ k = 5 := by omega
    rcases q with rfl | rfl | rfl | rfl | rfl | rfl <;> rfl
  · exact FR.u2 S h0 h1 rfl (FR.u2 S h0 h1 rfl (FR.u2 S h0 h1 rfl (FR.u2 S h0 h1 rfl (FR.u2 S h0 h1 rfl (FR.u2 S h0 h1 rfl (FR.rf AD I _))))))
end Q18
