/-! STAGE 2: the reference lays the setups -/
/-- the setups of the first a shots lie in the reference's rows -/
def SG (I : HI) (AD : Int → Nat) (ρ : RHO) (r : Int) (a : Nat) : Prop := I (AD 316) 22 = iz (mG_ ρ r a : Int) ∧ AR I AD 325 (mG_ ρ r a) (fun k => (fG ρ r a k : Int)) ∧ AR I AD 326 (mG_ ρ r a) (fun k => (qG ρ r a k : Int)) ∧ AR I AD 324 a (fun t => (hG ρ r a t : Int))
section R6
variable {fu : Nat} {sh : HS} {I : HI} {R : HR} {AD : Int → Nat} {ρ : RHO}
end R6
