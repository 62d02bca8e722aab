/-! STAGE 3: planner and reference new: the first state -/
def sig0 : STT := (false, fun _ => 0, [], 0, fun _ => 0, -1, 0, fun _ => 0)
section Q88
variable {sh2 sh4 : HS} {I0 I2 I4 : HI} {R0 R2 R4 : HR} {l m : Nat} {g g2 b A B : Nat → Nat} {s x y h : Nat → Nat → Nat}
theorem vst0 : VST sig0 := ⟨fun e => absurd e (by decide), fun _ => ⟨rfl, fun _ => rfl⟩, fun h hh => absurd hh List.not_mem_nil, by decide, by decide, fun k hk => absurd hk (Nat.not_lt_zero k), ⟨by decide, by decide⟩, by decide⟩
end Q88
