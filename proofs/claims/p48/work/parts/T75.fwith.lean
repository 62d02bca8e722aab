/-! STAGE 2: the faults with a camera elsewhere, on both sides -/
def aFwith (σ : STT) (s x y : Int) : Int ⊕ Nat := if σ.1 = true then (if (0 ≤ s ∧ s ≤ σ.2.1 4 - 1) ∧ (0 ≤ x ∧ x ≤ 199) ∧ (0 ≤ y ∧ y ≤ 199) then .inl (if sxS σ.2.1 s = x ∧ syS σ.2.1 s = y then -2 else faultS (mvS σ.2.1 s x y)) else .inr 2) else .inr 1
section Q11
variable {fu : Nat} {sh : HS} {I : HI} {R : HR} {AD : Int → Nat} {P : Int → Int → Int} {σ : STT} {ρ : RHO} {p : Int → Int} {s x y : Int}
theorem c_place (S : OKS sh AD) {a : Nat} (t : isT sh a 7 = true) (u v : Int32) : fX8_placeCamera fu sh I R a u v = some (u2 (u2 I a 1 u) a 2 v) := by
  have e := fun (J : HI) k z => show oP sh J a 7 k z = some (u2 J a k z) by unfold oP; rw [if_pos t]
  simp only [fX8_placeCamera, if_pos t, e, bsome]
theorem c_subAt (S : OKS sh AD) (V : VB ρ) (B : BA sh I R AD 28 p ρ) (h0 : 0 ≤ s) (h1 : s < ρ 4) (x0 : -1000 ≤ x) (x1 : x ≤ 1000) (y0 : -1000 ≤ y) (y1 : y ≤ 1000) : fX0_isSubjectAt fu sh I R (AD 28) (AD (28 + 12 + p s)) (iz x) (iz y) = some (bz (decide (sxS ρ s = x) && decide (syS ρ s = y))) := by
  obtain ⟨a1, a2, a3, a4, a5, -⟩ := V.shot h0 h1
  obtain ⟨⟨q1, q2⟩, f0, f1, f2, f3, f4, f5⟩ := B.1.2.2.2 s h0 h1
  obtain ⟨⟨c1, -⟩, -⟩ := B.1.2.2.1 (scS ρ s) a1.1 a1.2
  simp only [fX0_isSubjectAt, if_pos B.1.1.1, B.1.1.2.1, f0, f3, c1, bsome]
  rw [c_isAt B.1 V a1.1 a1.2 a4.1 a4.2 a5 x0 x1 y0 y1, bsome, oZ_bz, bsome]
  rfl
end Q11
