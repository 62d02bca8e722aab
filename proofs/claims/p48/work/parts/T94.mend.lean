/-! STAGE 2: the best flip and mend, on both sides -/
def flS (ρ : RHO) (s : Int) : RHO := mvS ρ s (fxS ρ s) (fyS ρ s)
theorem fl_V {ρ : RHO} (V : VB ρ) {s : Int} (h0 : 0 ≤ s) (h1 : s < ρ 4) (h : nfS ρ s = 0) : VB (flS ρ s) := by
  obtain ⟨k1, ⟨k2, k3⟩, k4⟩ := nf_ok h
  exact mv_V V h0 h1 k2.1 k2.2 k3.1 k3.2 k4
section Q29
variable {fu : Nat} {sh : HS} {I I' J : HI} {R : HR} {AD : Int → Nat} {P : Int → Int → Int} {σ : STT} {ρ ρ' : RHO} {p : Int → Int} {s x y : Int}
end Q29
