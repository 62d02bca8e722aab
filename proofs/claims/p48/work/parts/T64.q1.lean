/-! STAGE 2: what the questions need, on both sides -/
section Q1
variable {fu : Nat} {sh : HS} {I : HI} {R : HR} {AD : Int → Nat} {P : Int → Int → Int} {σ : STT}
theorem c_needBoard (S : OKS sh AD) (C : CIB I R AD P σ) : fX10_needBoard fu sh I R (AD 0) = some (if σ.1 = true then .inl () else .inr (exN 1)) := by
  simp only [fX10_needBoard, if_pos (isT_of S.pl), oI_at S.pl, C.2.2.1.2.2, bsome, iz_lit, bz_zero]
  cases σ.1
  · rw [if_pos rfl]; rfl
  · rw [if_neg (by decide)]; rfl
theorem c_needRange {a b c : Int} (h1 : -2147483648 ≤ a) (h2 : a ≤ 2147483647) (h3 : -2147483648 ≤ b) (h4 : b ≤ 2147483647) (h5 : -2147483648 ≤ c) (h6 : c ≤ 2147483647) : fX10_needRange fu sh I R (iz a) (iz b) (iz c) = some (if b ≤ a ∧ a ≤ c then .inl () else .inr (exN 2)) := by
  simp only [fX10_needRange, fX10_needRange_b10]
  simp (disch := omega) only [iz_lt, iz_le]
  by_cases z : a < b
  · rw [if_pos z, if_neg (by omega)]; rfl
  · rw [if_neg z]
    by_cases y : a ≤ c
    · rw [if_pos y, if_pos (by omega)]
    · rw [if_neg y, if_neg (by omega)]; rfl
theorem CIB.ba (S : OKS sh AD) (C : CIB I R AD P σ) (V : VST σ) (h : σ.1 = true) : BA sh I R AD 28 (P 0) σ.2.1 :=
  BA.of (b := 0) S (by decide) (by decide) (C.1.2.2.2.2.2.2.2 0 (by decide) (by decide)) (C.2.2.2.2.2.1 h) (V.1 h)
theorem c_know1 (S : OKS sh AD) (C : CIB I R AD P σ) (K : CKN I AD σ) (V : VST σ) (hfu : 5000 ≤ fu) (h : σ.1 = true) :
    ∃ I', fX10_settleSetups fu sh I R (AD 0) = some I' ∧ CIB I' R AD P σ ∧ CKN I' AD σ ∧ T2 I' AD σ.2.1 (σ.2.1 0) (σ.2.1 4).toNat (σ.2.1 4).toNat ∧ FR AD I I' (fun i _ => i < 316) := by
  obtain ⟨I', e, t, e9, f⟩ := c_settleSetups (fu := fu) S C.1.1 C.1.2.1 (C.ba S V h) (V.1 h) hfu (by rcases K.1 with k | k; exact Or.inl k; exact Or.inr ⟨k.1, k.2.2⟩)
  refine ⟨I', e, C.fr V (f.wd fun i k z => ?_), ⟨Or.inr ⟨e9, h, t⟩, ?_⟩, t, f.wd fun i k z => ?_⟩
  · unfold WQ WT at z; unfold SCR; omega
  · have q11 : I' (AD 0) 11 = I (AD 0) 11 := f 0 (by decide) (by decide) 11 (by unfold WQ WT; omega)
    rcases K.2 with k | ⟨k, k2, k3, k4⟩
    · exact Or.inl (q11.trans k)
    · exact Or.inr ⟨q11.trans k, k2, (f 16 (by decide) (by decide) 5 (by unfold WQ WT; omega)).trans k3, k4.fr f (by decide) (by decide) (fun _ => by unfold WQ WT; omega)⟩
  · unfold WQ WT at z; omega
/-- setups -/
def aSetups (σ : STT) : Int ⊕ Nat := if σ.1 = true then .inl (mSet σ.2.1 : Int) else .inr 1
theorem cq_setups (S : OKS sh AD) (V : VST σ) (hfu : 5000 ≤ fu) : CQ sh AD R P σ (fun I => fX10_setups fu sh I R (AD 0)) (aSetups σ) := by
  intro I C K
  unfold aSetups
  by_cases h : σ.1 = true
  · obtain ⟨I', e, C', K', t, f⟩ := c_know1 (fu := fu) S C K V hfu h
    refine ⟨I', ?_, C', K', f⟩
    simp only [fX10_setups, if_pos (isT_of S.pl), c_needBoard S C, if_pos h, oT0l, e, bsome, oR_at S.pl C.1.1.1.2.2.2.2.2, oI_at (k6 S), t.1]
    rfl
  · refine ⟨I, ?_, C, K, FR.rf _ _ _⟩
    simp only [fX10_setups, if_pos (isT_of S.pl), c_needBoard S C, if_neg h, oT0r]
    rfl
end Q1
