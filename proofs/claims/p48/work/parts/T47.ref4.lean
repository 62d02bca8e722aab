/-! STAGE 2, the reference: the blocker, the kinds of a shot's faults, their number -/
def b5S (ρ : RHO) (s : Int) (a : Int) : Bool := (!(decide (axS ρ (scS ρ s) a = cxS ρ s) && decide (ayS ρ (scS ρ s) a = cyS ρ s)) && (!(decide (axS ρ (scS ρ s) a = sxS ρ s) && decide (ayS ρ (scS ρ s) a = syS ρ s)) &&
  (decide (crossS (sxS ρ s - cxS ρ s) (syS ρ s - cyS ρ s) (axS ρ (scS ρ s) a - cxS ρ s) (ayS ρ (scS ρ s) a - cyS ρ s) = 0) && (decide (min (cxS ρ s) (sxS ρ s) ≤ axS ρ (scS ρ s) a ∧ axS ρ (scS ρ s) a ≤ max (cxS ρ s) (sxS ρ s)) && decide (min (cyS ρ s) (syS ρ s) ≤ ayS ρ (scS ρ s) a ∧ ayS ρ (scS ρ s) a ≤ max (cyS ρ s) (syS ρ s))))))
theorem betw_5 (ρ : RHO) (s : Int) (a : Nat) : betwS ρ s a = (!decide ((a : Int) = suS ρ s) && (inS ρ (scS ρ s) a && b5S ρ s a)) := rfl
section R4
variable {fu : Nat} {sh : HS} {I : HI} {R : HR} {AD : Int → Nat} {ρ : RHO} {s t : Int}
theorem fst_range (P : Nat → Bool) : ∀ d a : Nat, -1 ≤ fstS P a d ∧ fstS P a d < (a + d : Nat)
  | 0, a => by unfold fstS; omega
  | d + 1, a => by
    have := fst_range P d (a + 1)
    unfold fstS
    split
    · omega
    · omega
theorem block_range (ρ : RHO) (s : Int) : -1 ≤ blockS ρ s ∧ blockS ρ s < 6 := by
  have := fst_range (betwS ρ s) 6 0
  unfold blockS
  omega
theorem sgn_range (v : Int) : -1 ≤ sgnS v ∧ sgnS v ≤ 1 := by
  unfold sgnS
  repeat' split
  all_goals omega
theorem side_range (ρ : RHO) (s : Int) : -1 ≤ sideS ρ s ∧ sideS ρ s ≤ 1 := by
  unfold sideS
  repeat' split
  · decide
  · exact sgn_range _
  · exact sgn_range _
theorem look_range (ρ : RHO) (s : Int) : -1 ≤ lookS ρ s ∧ lookS ρ s ≤ 1 := by
  unfold lookS
  split
  · decide
  · exact sgn_range _
end R4
