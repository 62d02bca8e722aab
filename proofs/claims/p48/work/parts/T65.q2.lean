/-! STAGE 2: questions about setups and the order, on both sides -/
def IR (a : Int) : Prop := -2147483648 ≤ a ∧ a ≤ 2147483647
section Q2
variable {fu : Nat} {sh : HS} {I : HI} {R : HR} {AD : Int → Nat} {P : Int → Int → Int} {σ : STT}
theorem VST.n4 (V : VST σ) : 0 ≤ σ.2.1 4 ∧ σ.2.1 4 ≤ 12 := by
  cases h : σ.1
  · rw [(V.2.1 h).2 4]; decide
  · exact (V.1 h).n
theorem VST.n3 (V : VST σ) : 0 ≤ σ.2.1 3 ∧ σ.2.1 3 ≤ 3 := by
  cases h : σ.1
  · rw [(V.2.1 h).2 3]; decide
  · have := (V.1 h).m; omega
theorem c_needShot (S : OKS sh AD) (C : CIB I R AD P σ) (V : VST σ) (h : σ.1 = true) {a : Int} (ha : IR a) : fX10_needShot fu sh I R (AD 0) (iz a) = some (if 0 ≤ a ∧ a ≤ σ.2.1 4 - 1 then .inl () else .inr (exN 2)) := by
  have n4 := V.n4
  obtain ⟨a1, a2⟩ := ha
  have B := C.ba S V h
  simp only [fX10_needShot, if_pos (isT_of S.pl), oR_at S.pl C.1.1.1.2.1, B.1.2.1.2.2.2.2, bsome, iz_lit, iz_sub]
  rw [c_needRange a1 a2 (by decide) (by decide) (by omega) (by omega)]
  by_cases z : 0 ≤ a ∧ a ≤ σ.2.1 4 - 1
  · rw [if_pos z, oT0l]
  · rw [if_neg z, oT0r]
/-- setupOf -/
def aSetupOf (σ : STT) (a : Int) : Int ⊕ Nat := if σ.1 = true then (if 0 ≤ a ∧ a ≤ σ.2.1 4 - 1 then .inl (hG σ.2.1 (σ.2.1 0) (σ.2.1 4).toNat a.toNat : Int) else .inr 2) else .inr 1
theorem cq_setupOf (S : OKS sh AD) (V : VST σ) (hfu : 5000 ≤ fu) {a : Int} (ha : IR a) : CQ sh AD R P σ (fun I => fX10_setupOf fu sh I R (AD 0) (iz a)) (aSetupOf σ a) := by
  intro I C K
  unfold aSetupOf
  by_cases h : σ.1 = true
  · have n4 := V.n4
    by_cases z : 0 ≤ a ∧ a ≤ σ.2.1 4 - 1
    · obtain ⟨I', e, C', K', t, f⟩ := c_know1 (fu := fu) S C K V hfu h
      refine ⟨I', ?_, C', K', f⟩
      simp only [fX10_setupOf, if_pos (isT_of S.pl), c_needBoard S C, if_pos h, oT0l, c_needShot S C V h ha, if_pos z, e, bsome, oR_at S.pl C.1.1.1.2.2.2.2.2, oR_at (k6 S) C.1.2.1.1]
      rw [oA_iz (k12 S (i := 7) (by decide) (by decide)) (by omega) (by omega) ha.2, bsome, t.2.1.2 a.toNat (by omega)]
      rfl
    · refine ⟨I, ?_, C, K, FR.rf _ _ _⟩
      simp only [fX10_setupOf, if_pos (isT_of S.pl), c_needBoard S C, if_pos h, oT0l, c_needShot S C V h ha, if_neg z, oT0r]
      rfl
  · refine ⟨I, ?_, C, K, FR.rf _ _ _⟩
    simp only [fX10_setupOf, if_pos (isT_of S.pl), c_needBoard S C, if_neg h, oT0r]
    rfl
theorem bdec {p q : Prop} [Decidable p] [Decidable q] : ((decide p && decide q) = true) = (p ∧ q) := by simp
end Q2
