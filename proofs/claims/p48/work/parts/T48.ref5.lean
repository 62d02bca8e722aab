/-! STAGE 2, the reference: the kinds of a shot's faults, their number -/
section R5
variable {fu : Nat} {sh : HS} {I : HI} {R : HR} {AD : Int → Nat} {ρ : RHO} {s t : Int}
theorem kind_range (ρ : RHO) (s : Int) : 0 ≤ kindS ρ s ∧ kindS ρ s ≤ 15 := by
  unfold kindS b2i
  repeat' split
  all_goals omega
/-- how many a set below 4096 holds -/
def szS (m : Nat) : Int := smS (fun j => bt m j.toNat) 12
end R5
