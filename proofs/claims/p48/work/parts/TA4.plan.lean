/-! STAGE 2: the plan as a list of bytes; its length -/
def cod (i : Nat) : List Int := (strs.getD i "").toList.map (fun c => (c.toNat : Int))
theorem cod_B : ((List.range 22).all fun i => decide (i < nS) && (decide ((cod i).length = sLen i) && (decide (nI (sLen i) = iz ((cod i).length : Int)) && (decide ((cod i).length ≤ 60) && (List.range (sLen i)).all fun j => decide (chr i (iz (j : Int)) = iz ((cod i).getD j 0)))))) = true := by decide +kernel
theorem cod_ok {i : Nat} (h : i < 22) : i < nS ∧ (cod i).length = sLen i ∧ nI (sLen i) = iz ((cod i).length : Int) ∧ (cod i).length ≤ 60 ∧ ∀ j, j < (cod i).length → chr i (iz (j : Int)) = iz ((cod i).getD j 0) := by
  have h1 := List.all_eq_true.mp cod_B i (List.mem_range.mpr h)
  simp only [Bool.and_eq_true, decide_eq_true_eq] at h1
  obtain ⟨a, b, c, d, e⟩ := h1
  refine ⟨a, b, c, d, fun j hj => ?_⟩
  have := List.all_eq_true.mp e j (List.mem_range.mpr (by omega))
  exact of_decide_eq_true this
section Q38
variable {fu : Nat} {sh : HS} {I I' I0 J : HI} {R : HR} {AD : Int → Nat} {P : Int → Int → Int} {σ : STT} {ρ : RHO} {L : List Int}
theorem charAt_ok {i j : Nat} (hi : i < 22) (hj : j < (cod i).length) : fJ0_charAt_5068e fu sh I R i (iz (j : Int)) = some (iz ((cod i).getD j 0)) := by
  obtain ⟨a, b, c, d, e⟩ := cod_ok hi
  unfold fJ0_charAt_5068e
  have hz : ¬ (iz (j : Int) < 0 ∨ sLen i ≤ (iz (j : Int)).toNatClampNeg) := by
    intro z
    rcases z with z | z
    · rw [iz_lit, iz_lt (by omega) (by omega) (by decide) (by decide)] at z
      have : (j : Int) < 0 := z
      omega
    · rw [iz_nat (by omega) (by omega)] at z
      omega
  rw [if_pos ⟨a, hz⟩, e j hj]
theorem length_ok {i : Nat} (hi : i < 22) : fJ0_length_8abf5 fu sh I R i = some (iz ((cod i).length : Int)) := by
  obtain ⟨a, b, c, d, e⟩ := cod_ok hi
  unfold fJ0_length_8abf5
  rw [if_pos a, c]
end Q38
