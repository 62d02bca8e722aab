/-! STAGE 2: setLimits, setLight, setLength of the reference -/
section Q26
variable {fu : Nat} {sh : HS} {I I' J : HI} {R : HR} {AD : Int → Nat} {P : Int → Int → Int} {σ : STT} {ρ ρ' : RHO} {p : Int → Int} {r t f c l s : Int}
theorem fls {p : Prop} {b : Bool} (h : (b = true) = p) (n : ¬ p) : b = false := by
  cases q : b
  · rfl
  · exact absurd (h.mp q) n
end Q26
