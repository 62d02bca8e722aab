/-! STAGE 2: shift and drop of the reference -/
section Q36
variable {fu : Nat} {sh : HS} {I I' J : HI} {R R' : HR} {AD : Int → Nat} {P : Int → Int → Int} {σ σ' : STT} {ρ ρ' : RHO} {p p' : Int → Int} {s t a b : Int}
theorem RW.cg (H : RW I AD ρ) (h : ∀ j, 0 ≤ j → j < 119 → ρ' j = ρ j) : RW I AD ρ' := fun j g0 g1 => by rw [h j g0 g1]; exact H j g0 g1
end Q36
