/-! STAGE 2: what the questions need, on both sides -/
def wrT (l g : Bool) : Nat := if l = true then (if g = true then 0 else 2) else 1
section Q1
variable {fu : Nat} {sh : HS} {I : HI} {R : HR} {AD : Int → Nat} {P : Int → Int → Int} {σ : STT}
theorem r_isWrong (S : OKS sh AD) (h : I (AD 316) 4 = bz σ.1) (g : Bool) : fX11_isWrong fu sh I R (AD 316) (bz g) = some (bz (decide (0 < wrT σ.1 g)), u2 I (AD 316) 5 (iz (wrT σ.1 g : Int))) := by
  have u : ∀ x, u2 I (AD 316) 5 x (AD 316) 5 = x := fun x => by rw [u2_ad S (by decide) (by decide) (by decide) (by decide), if_pos ⟨rfl, rfl⟩]
  simp only [fX11_isWrong, fX11_isWrong_b21, fX11_isWrong_b36, if_pos (isT_of S.md), oI_at S.md, h, bsome, iz_lit, bz_zero, oP_at S.md, u]
  cases σ.1
  · rw [if_pos rfl, if_neg (by rw [iz_le (by decide) (by decide) (by decide) (by decide)]; decide)]; rfl
  · rw [if_neg (by decide)]
    cases g
    · rw [if_pos rfl, if_neg (by rw [iz_le (by decide) (by decide) (by decide) (by decide)]; decide)]; rfl
    · rw [if_neg (by decide), if_pos (by rw [iz_le (by decide) (by decide) (by decide) (by decide)]; decide)]; rfl
theorem r_lacks (S : OKS sh AD) (g : Bool) : fX11_lacks fu sh I R (AD 316) (bz g) = some (bz (!g), u2 I (AD 316) 5 (iz (if g = true then 0 else 3))) := by
  simp only [fX11_lacks, fX11_lacks_b10, fX11_lacks_b22, if_pos (isT_of S.md), bsome, iz_lit, bz_zero, oP_at S.md]
  cases g
  · rw [if_pos rfl]; rfl
  · rw [if_neg (by decide)]; rfl
theorem RIB.w5 (S : OKS sh AD) (H : RIB I R AD σ) (x : Int32) : RIB (u2 I (AD 316) 5 x) R AD σ ∧ FR AD I (u2 I (AD 316) 5 x) (fun i k => i = 316 ∧ k = 5) ∧ u2 I (AD 316) 5 x (AD 316) 5 = x := by
  have f : FR AD I (u2 I (AD 316) 5 x) (fun i k => i = 316 ∧ k = 5) := FR.u2 S (by decide) (by decide) ⟨rfl, rfl⟩ (FR.rf AD I _)
  refine ⟨H.fr (f.wd fun i k z => by unfold RSC; omega), f, ?_⟩
  rw [u2_ad S (by decide) (by decide) (by decide) (by decide), if_pos ⟨rfl, rfl⟩]
theorem c_needBoard (S : OKS sh AD) (C : CIB I R AD P σ) : fX10_needBoard fu sh I R (AD 0) = some (if σ.1 = true then .inl () else .inr (exN 1)) := by
  simp only [fX10_needBoard, if_pos (isT_of S.pl), oI_at S.pl, C.2.2.1.2.2, bsome, iz_lit, bz_zero]
  cases σ.1
  · rw [if_pos rfl]; rfl
  · rw [if_neg (by decide)]; rfl
theorem c_needRange {a b c : Int} (h1 : -2147483648 ≤ a) (h2 : a ≤ 2147483647) (h3 : -2147483648 ≤ b) (h4 : b ≤ 2147483647) (h5 : -2147483648 ≤ c) (h6 : c ≤ 2147483647) : fX10_needRange fu sh I R (iz a) (iz b) (iz c) = some (if b ≤ a ∧ a ≤ c then .inl () else .inr (exN 2)) := by
  simp only [fX10_needRange, fX10_needRange_b10]
  simp (disch := omega) only [iz_lt, iz_le]
  by_cases z : a < b
  · rw [if_pos z, if_neg (by omega)]; rfl
  · rw [if_neg z]
    by_cases y : a ≤ c
    · rw [if_pos y, if_pos (by omega)]
    · rw [if_neg y, if_neg (by omega)]; rfl
theorem CIB.ba (S : OKS sh AD) (C : CIB I R AD P σ) (V : VST σ) (h : σ.1 = true) : BA sh I R AD 28 (P 0) σ.2.1 :=
  BA.of (b := 0) S (by decide) (by decide) (C.1.2.2.2.2.2.2.2 0 (by decide) (by decide)) (C.2.2.2.2.2.1 h) (V.1 h)
theorem c_know1 (S : OKS sh AD) (C : CIB I R AD P σ) (K : CKN I AD σ) (V : VST σ) (hfu : 5000 ≤ fu) (h : σ.1 = true) :
    ∃ I', fX10_settleSetups fu sh I R (AD 0) = some I' ∧ CIB I' R AD P σ ∧ CKN I' AD σ ∧ T2 I' AD σ.2.1 (σ.2.1 0) (σ.2.1 4).toNat (σ.2.1 4).toNat ∧ FR AD I I' (fun i _ => i < 316) := by
  obtain ⟨I', e, t, e9, f⟩ := c_settleSetups (fu := fu) S C.1.1 C.1.2.1 (C.ba S V h) (V.1 h) hfu (by rcases K.1 with k | k; exact Or.inl k; exact Or.inr ⟨k.1, k.2.2⟩)
  refine ⟨I', e, C.fr V (f.wd fun i k z => ?_), ⟨Or.inr ⟨e9, h, t⟩, ?_⟩, t, f.wd fun i k z => ?_⟩
  · unfold WQ WT at z; unfold SCR; omega
  · have q11 : I' (AD 0) 11 = I (AD 0) 11 := f 0 (by decide) (by decide) 11 (by unfold WQ WT; omega)
    rcases K.2 with k | ⟨k, k2, k3, k4⟩
    · exact Or.inl (q11.trans k)
    · exact Or.inr ⟨q11.trans k, k2, (f 16 (by decide) (by decide) 5 (by unfold WQ WT; omega)).trans k3, k4.fr f (by decide) (by decide) (fun _ => by unfold WQ WT; omega)⟩
  · unfold WQ WT at z; omega
theorem c_know2 (S : OKS sh AD) (C : CIB I R AD P σ) (K : CKN I AD σ) (V : VST σ) (hfu : 5000 ≤ fu) (h : σ.1 = true) :
    ∃ I', fX10_settleOrder fu sh I R (AD 0) = some I' ∧ CIB I' R AD P σ ∧ CKN I' AD σ ∧ T2 I' AD σ.2.1 (σ.2.1 0) (σ.2.1 4).toNat (σ.2.1 4).toNat ∧ KO I' AD σ.2.1 ∧ FR AD I I' (fun i _ => i < 316) := by
  obtain ⟨I', e, t, e9, e11, ko, f⟩ := c_settleOrder (fu := fu) S C.1.1 C.1.2.1 (rts16 S C.1.2.2.1) (C.ba S V h) (V.1 h) hfu C.2.1.1 (by rcases K.1 with k | k; exact Or.inl k; exact Or.inr ⟨k.1, k.2.2⟩) (by rcases K.2 with k | k; exact Or.inl k; exact Or.inr ⟨k.1, k.2.2⟩)
  refine ⟨I', e, C.fr V (f.wd fun i k z => ?_), ⟨Or.inr ⟨e9, h, t⟩, Or.inr ⟨e11, h, ko⟩⟩, t, ko, f.wd fun i k z => ?_⟩
  · unfold WO WQ WT at z; unfold SCR; omega
  · unfold WO WQ WT at z; omega
/-- the reference's setups, where a board is loaded -/
theorem r_know1 (S : OKS sh AD) (H : RIB I R AD σ) (V : VST σ) (hfu : 5000 ≤ fu) (h : σ.1 = true) {r : Int} (hr : 0 ≤ r) (hr2 : r ≤ 99) :
    ∃ I', fX11_setupsNow fu sh I R (AD 316) (iz r) = some (iz (mG_ σ.2.1 r (σ.2.1 4).toNat : Int), I') ∧ SG I' AD σ.2.1 r (σ.2.1 4).toNat ∧ RIB I' R AD σ ∧ I' (AD 316) 5 = I (AD 316) 5 ∧ FR AD I I' (fun i _ => 316 ≤ i) := by
  obtain ⟨I', e, g, f⟩ := r_setups (fu := fu) S H.1 H.2.1 (V.1 h) hfu hr hr2
  exact ⟨I', e, g, H.fr (f.wd fun i k z => by unfold Wset at z; unfold RSC; omega), f 316 (by decide) (by decide) 5 (by unfold Wset; omega), f.wd fun i k z => by unfold Wset at z; omega⟩
theorem r_know2 (S : OKS sh AD) (H : RIB I R AD σ) (V : VST σ) (hfu : 5000 ≤ fu) (h : σ.1 = true) :
    ∃ I', fX11_layBest fu sh I R (AD 316) = some I' ∧ SG I' AD σ.2.1 (σ.2.1 0) (σ.2.1 4).toNat ∧ KB I' AD σ.2.1 ∧ RIB I' R AD σ ∧ I' (AD 316) 5 = I (AD 316) 5 ∧ FR AD I I' (fun i _ => 316 ≤ i) := by
  obtain ⟨I', e, g, k, f⟩ := r_layBest (fu := fu) S H.1 H.2.1 (V.1 h) hfu
  exact ⟨I', e, g, k, H.fr (f.wd fun i k z => by unfold WBest Wset at z; unfold RSC; omega), f 316 (by decide) (by decide) 5 (by unfold WBest Wset; omega), f.wd fun i k z => by unfold WBest Wset at z; omega⟩
/-- setups -/
def aSetups (σ : STT) : Int ⊕ Nat := if σ.1 = true then .inl (mSet σ.2.1 : Int) else .inr 1
theorem cq_setups (S : OKS sh AD) (V : VST σ) (hfu : 5000 ≤ fu) : CQ sh AD R P σ (fun I => fX10_setups fu sh I R (AD 0)) (aSetups σ) := by
  intro I C K
  unfold aSetups
  by_cases h : σ.1 = true
  · obtain ⟨I', e, C', K', t, f⟩ := c_know1 (fu := fu) S C K V hfu h
    refine ⟨I', ?_, C', K', f⟩
    simp only [fX10_setups, if_pos (isT_of S.pl), c_needBoard S C, if_pos h, oT0l, e, bsome, oR_at S.pl C.1.1.1.2.2.2.2.2, oI_at (k6 S), t.1]
    rfl
  · refine ⟨I, ?_, C, K, FR.rf _ _ _⟩
    simp only [fX10_setups, if_pos (isT_of S.pl), c_needBoard S C, if_neg h, oT0r]
    rfl
theorem rq_setups (S : OKS sh AD) (V : VST σ) (hfu : 5000 ≤ fu) : RQ sh AD R σ (fun I => fX11_setups fu sh I R (AD 316)) (aSetups σ) := by
  intro I H
  unfold aSetups
  obtain ⟨H1, f1, e5⟩ := H.w5 S (iz (wrT σ.1 true : Int))
  have w := r_isWrong (fu := fu) (R := R) (σ := σ) S H.2.2.1.2.1 true
  have o : (iz 1 : Int32) = bz true := rfl
  have f1' : FR AD I (u2 I (AD 316) 5 (iz (wrT σ.1 true : Int))) (fun i _ => 316 ≤ i) := f1.wd fun i k z => by omega
  by_cases h : σ.1 = true
  · have vl := (V.1 h).lim
    obtain ⟨I', e, g, H2, e2, f2⟩ := r_know1 (fu := fu) S H1 V hfu h vl.1.1 vl.1.2
    refine ⟨I', ?_, ?_, H2, f1'.tr f2⟩
    · simp only [fX11_setups, fX11_setups_b22, if_pos (isT_of S.md), iz_lit]
      rw [o, w]
      simp only [oHs, oR_at S.md H.1.1.1, bsome, bz_zero, r_row S H1.1 H1.2.1 (by decide : (0 : Int) ≤ 0) (by decide : (0 : Int) < 119), e]
      rw [if_pos (by rw [h]; rfl), if_pos h]
      rfl
    · rw [e2, e5, h, if_pos rfl]
      rfl
  · have hf : σ.1 = false := by simpa using h
    refine ⟨_, ?_, ?_, H1, f1'⟩
    · simp only [fX11_setups, fX11_setups_b22, if_pos (isT_of S.md), iz_lit]
      rw [o, w]
      simp only [oHs, bz_zero]
      rw [if_neg (by rw [hf]; decide), if_neg h]
      rfl
    · rw [e5, hf, if_neg (by decide)]
      rfl
end Q1
