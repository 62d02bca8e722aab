/-! STAGE 2: the best flip and mend, on both sides -/
def flS (ρ : RHO) (s : Int) : RHO := mvS ρ s (fxS ρ s) (fyS ρ s)
def bfF (ρ : RHO) : Nat → Nat → Int → Int → Int × Int
  | 0, _, b, l => (b, l)
  | f + 1, s, b, l => if nfS ρ s = 0 ∧ faultS (flS ρ s) < l then bfF ρ f (s + 1) s (faultS (flS ρ s)) else bfF ρ f (s + 1) b l
def bestF (ρ : RHO) : Int := (bfF ρ (ρ 4).toNat 0 (-1) (faultS ρ)).1
theorem bf_inv (ρ : RHO) (F : Int) : ∀ f s : Nat, ∀ b l : Int, (s + f : Nat) = (ρ 4).toNat → ((b = -1 ∧ l = F) ∨ ((0 ≤ b ∧ b < ρ 4) ∧ nfS ρ b = 0 ∧ l = faultS (flS ρ b) ∧ l < F)) →
    (((bfF ρ f s b l).1 = -1 ∧ (bfF ρ f s b l).2 = F) ∨ ((0 ≤ (bfF ρ f s b l).1 ∧ (bfF ρ f s b l).1 < ρ 4) ∧ nfS ρ (bfF ρ f s b l).1 = 0 ∧ (bfF ρ f s b l).2 = faultS (flS ρ (bfF ρ f s b l).1) ∧ (bfF ρ f s b l).2 < F)) := by
  intro f
  induction f with
  | zero => intro s b l _ h; exact h
  | succ f ih =>
    intro s b l hs h
    unfold bfF
    by_cases z : nfS ρ s = 0 ∧ faultS (flS ρ s) < l
    · rw [if_pos z]
      refine ih (s + 1) _ _ (by omega) (Or.inr ⟨⟨by omega, by omega⟩, z.1, rfl, ?_⟩)
      rcases h with ⟨-, h⟩ | ⟨-, -, -, h⟩ <;> omega
    · rw [if_neg z]
      exact ih (s + 1) b l (by omega) h
theorem bf_ok (ρ : RHO) : bestF ρ = -1 ∨ ((0 ≤ bestF ρ ∧ bestF ρ < ρ 4) ∧ nfS ρ (bestF ρ) = 0 ∧ faultS (flS ρ (bestF ρ)) < faultS ρ) := by
  rcases bf_inv ρ (faultS ρ) (ρ 4).toNat 0 (-1) (faultS ρ) (by omega) (Or.inl ⟨rfl, rfl⟩) with ⟨a, -⟩ | ⟨a, b, c, d⟩
  · exact Or.inl a
  · refine Or.inr ⟨a, b, ?_⟩
    rw [c] at d
    exact d
theorem fl_V {ρ : RHO} (V : VB ρ) {s : Int} (h0 : 0 ≤ s) (h1 : s < ρ 4) (h : nfS ρ s = 0) : VB (flS ρ s) := by
  obtain ⟨k1, ⟨k2, k3⟩, k4⟩ := nf_ok h
  exact mv_V V h0 h1 k2.1 k2.2 k3.1 k3.2 k4
def mdF : Nat → RHO → Int → RHO × Int
  | 0, ρ, n => (ρ, n)
  | f + 1, ρ, n => if bestF ρ = -1 then (ρ, n) else mdF f (flS ρ (bestF ρ)) (n + 1)
def aMend (σ : STT) : Int ⊕ Nat := if σ.1 = true then .inl (if bestF σ.2.1 = -1 then -2 else (mdF 49 σ.2.1 0).2) else .inr 1
def sMend (σ : STT) : STT := if σ.1 = true then (if bestF σ.2.1 = -1 then σ else rowS (pushS σ) (mdF 49 σ.2.1 0).1) else σ
section Q29
variable {fu : Nat} {sh : HS} {I I' J : HI} {R : HR} {AD : Int → Nat} {P : Int → Int → Int} {σ : STT} {ρ ρ' : RHO} {p : Int → Int} {s x y : Int}
theorem BVL.no (V : VB ρ) (B : BSH R AD 28 p) (L : BVL I AD 28 p ρ) (F : FR AD I I' NOW) : BVL I' AD 28 p ρ := L.fr V (by decide) (by decide) (fun s g0 g1 => (B.2.2.2.1 s g0 g1).2) F (fun _ _ _ _ q => q)
theorem c_bf_loop (S : OKS sh AD) (L : PLR R AD) (V : VB ρ) (hfu : 5000 ≤ fu) (B : BSH R AD 28 p) : ∀ f j s : Nat, ∀ b l : Int, ∀ I : HI, s + f = (ρ 4).toNat → f < j → BVL I AD 28 p ρ → 0 ≤ l → l ≤ 48 →
    ∃ I', fX10_bestFlip_l12 fu sh R j I (AD 0) (iz l) (iz b) (iz (s : Int)) = some (iz (bfF ρ f s b l).1, I') ∧ FR AD I I' NOW := by
  have hn := V.n
  intro f
  induction f with
  | zero =>
    intro j s b l I hs hj BL l0 l1
    obtain ⟨j, rfl⟩ : ∃ t, j = t + 1 := ⟨j - 1, by omega⟩
    have ba : BA sh I R AD 28 p ρ := BA.of (b := 0) S (by decide) (by decide) B BL V
    refine ⟨I, ?_, FR.rf _ _ _⟩
    show fX10_bestFlip_b12 fu sh R (fX10_bestFlip_l12 fu sh R j) I _ _ _ _ = _
    simp only [fX10_bestFlip_b12, oR_at S.pl L.1.2.1, ba.1.2.1.2.2.2.2, bsome]
    rw [if_pos (by rw [iz_le (by omega) (by omega) (by omega) (by omega)]; omega)]
    rfl
  | succ f ih =>
    intro j s b l I hs hj BL l0 l1
    obtain ⟨j, rfl⟩ : ∃ t, j = t + 1 := ⟨j - 1, by omega⟩
    have ba : BA sh I R AD 28 p ρ := BA.of (b := 0) S (by decide) (by decide) B BL V
    have s0 : 0 ≤ (s : Int) := by omega
    have s1 : (s : Int) < ρ 4 := by omega
    have q := (ba.1.2.2.2 s s0 s1).1.1
    have nr := nf_rng ρ s
    have ek : iz (s : Int) + iz 1 = iz ((s + 1 : Nat) : Int) := by rw [iz_add]; rfl
    have go : ∀ I', fX10_bestFlip_l12 fu sh R (j + 1) I (AD 0) (iz l) (iz b) (iz (s : Int)) = I' → fX10_bestFlip_b12 fu sh R (fX10_bestFlip_l12 fu sh R j) I (AD 0) (iz l) (iz b) (iz (s : Int)) = I' := fun _ h => h
    unfold bfF
    by_cases z : nfS ρ s = 0
    · obtain ⟨k1, ⟨k2, k3⟩, k4⟩ := nf_ok z
      obtain ⟨o1, o2⟩ := c_opp (fu := fu) S V ba s0 s1 k1
      obtain ⟨J, e1, F1⟩ := c_totWith (fu := fu) S V hfu B BL s0 s1 k2.1 k2.2 k3.1 k3.2 k4
      have fr := fault_range (fl_V V s0 s1 z)
      have e1' : fX2_totalWith fu sh I R (AD 28) (AD (28 + 12 + p s)) (iz (fxS ρ s)) (iz (fyS ρ s)) = some (iz (faultS (flS ρ s)), J) := e1
      by_cases w : faultS (flS ρ s) < l
      · rw [if_pos ⟨z, w⟩]
        obtain ⟨I', e2, F2⟩ := ih j (s + 1) s (faultS (flS ρ s)) J (by omega) (by omega) (BL.no V B F1) fr.1 fr.2
        refine ⟨I', ?_, F1.tr F2⟩
        rw [← e2]
        show fX10_bestFlip_b12 fu sh R (fX10_bestFlip_l12 fu sh R j) I _ _ _ _ = _
        simp only [fX10_bestFlip_b12, fX10_bestFlip_b86, oR_at S.pl L.1.2.1, ba.1.2.1.2.2.2.2, ba.1.1.2.2, q, bsome, iz_lit]
        rw [if_neg (by rw [iz_le (by omega) (by omega) (by omega) (by omega)]; omega), c_obst S L V ba s0 s1, bsome, if_pos (by rw [z]), o1, bsome, o2, bsome, e1', oHs, if_neg (by rw [iz_le (by omega) (by omega) (by omega) (by omega)]; omega), ek]
      · rw [if_neg (fun k => w k.2)]
        obtain ⟨I', e2, F2⟩ := ih j (s + 1) b l J (by omega) (by omega) (BL.no V B F1) l0 l1
        refine ⟨I', ?_, F1.tr F2⟩
        rw [← e2]
        show fX10_bestFlip_b12 fu sh R (fX10_bestFlip_l12 fu sh R j) I _ _ _ _ = _
        simp only [fX10_bestFlip_b12, fX10_bestFlip_b86, oR_at S.pl L.1.2.1, ba.1.2.1.2.2.2.2, ba.1.1.2.2, q, bsome, iz_lit]
        rw [if_neg (by rw [iz_le (by omega) (by omega) (by omega) (by omega)]; omega), c_obst S L V ba s0 s1, bsome, if_pos (by rw [z]), o1, bsome, o2, bsome, e1', oHs, if_pos (by rw [iz_le (by omega) (by omega) (by omega) (by omega)]; omega), ek]
    · rw [if_neg (fun k => z k.1)]
      obtain ⟨I', e2, F2⟩ := ih j (s + 1) b l I (by omega) (by omega) BL l0 l1
      refine ⟨I', ?_, F2⟩
      rw [← e2]
      show fX10_bestFlip_b12 fu sh R (fX10_bestFlip_l12 fu sh R j) I _ _ _ _ = _
      simp only [fX10_bestFlip_b12, fX10_bestFlip_b86, oR_at S.pl L.1.2.1, ba.1.2.1.2.2.2.2, ba.1.1.2.2, q, bsome, iz_lit]
      rw [if_neg (by rw [iz_le (by omega) (by omega) (by omega) (by omega)]; omega), c_obst S L V ba s0 s1, bsome, if_neg (by rw [iz_eq (by omega) (by omega) (by decide) (by decide)]; exact z), ek]
theorem c_bestFlip (S : OKS sh AD) (L : PLR R AD) (V : VB ρ) (hfu : 5000 ≤ fu) (B : BSH R AD 28 p) (BL : BVL I AD 28 p ρ) : ∃ I', fX10_bestFlip fu sh I R (AD 0) = some (iz (bestF ρ), I') ∧ FR AD I I' NOW := by
  have ba : BA sh I R AD 28 p ρ := BA.of (b := 0) S (by decide) (by decide) B BL V
  have fr := fault_range V
  have hn := V.n
  obtain ⟨I', e, F⟩ := c_bf_loop (fu := fu) S L V hfu B (ρ 4).toNat fu 0 (-1) (faultS ρ) I (by omega) (by omega) BL fr.1 fr.2
  refine ⟨I', ?_, F⟩
  simp only [fX10_bestFlip, if_pos (isT_of S.pl), oR_at S.pl L.1.2.1, bsome, iz_lit, iz_neg]
  rw [c_total ba.1 V hfu, bsome]
  exact e
theorem r_bf_loop (S : OKS sh AD) (M : MR R AD) (V : VB ρ) (hfu : 5000 ≤ fu) : ∀ f j s : Nat, ∀ b l : Int, ∀ I : HI, s + f = (ρ 4).toNat → f < j → RW I AD ρ → 0 ≤ l → l ≤ 48 →
    ∃ I', fX11_bestFlip_l9 fu sh R j I (AD 316) (iz b) (iz l) (iz (s : Int)) = some (iz (bfF ρ f s b l).1, I') ∧ FR AD I I' NOW := by
  have hn := V.n
  intro f
  induction f with
  | zero =>
    intro j s b l I hs hj H l0 l1
    obtain ⟨j, rfl⟩ : ∃ t, j = t + 1 := ⟨j - 1, by omega⟩
    refine ⟨I, ?_, FR.rf _ _ _⟩
    show fX11_bestFlip_b9 fu sh R (fX11_bestFlip_l9 fu sh R j) I _ _ _ _ = _
    simp only [fX11_bestFlip_b9, oR_at S.md M.1.1, bsome, iz_lit, r_row S M H (by decide : (0 : Int) ≤ 4) (by decide : (4 : Int) < 119)]
    rw [if_pos (by rw [iz_le (by omega) (by omega) (by omega) (by omega)]; omega)]
    rfl
  | succ f ih =>
    intro j s b l I hs hj H l0 l1
    obtain ⟨j, rfl⟩ : ∃ t, j = t + 1 := ⟨j - 1, by omega⟩
    have s0 : 0 ≤ (s : Int) := by omega
    have s1 : (s : Int) < ρ 4 := by omega
    have nr := nf_rng ρ s
    have ek : iz (s : Int) + iz 1 = iz ((s + 1 : Nat) : Int) := by rw [iz_add]; rfl
    unfold bfF
    by_cases z : nfS ρ s = 0
    · obtain ⟨k1, ⟨k2, k3⟩, k4⟩ := nf_ok z
      obtain ⟨o1, o2⟩ := r_opp (fu := fu) S M H V s0 s1 k1
      obtain ⟨J, e1, F1⟩ := r_faultsAt (fu := fu) S M H V hfu s0 s1 k2.1 k2.2 k3.1 k3.2 k4
      have fr := fault_range (fl_V V s0 s1 z)
      have e1' : fX11_faultsAt fu sh I R (AD 316) (iz (s : Int)) (iz (fxS ρ s)) (iz (fyS ρ s)) = some (iz (faultS (flS ρ s)), J) := e1
      have HJ : RW J AD ρ := H.fr F1 (fun _ q => q)
      by_cases w : faultS (flS ρ s) < l
      · rw [if_pos ⟨z, w⟩]
        obtain ⟨I', e2, F2⟩ := ih j (s + 1) s (faultS (flS ρ s)) J (by omega) (by omega) HJ fr.1 fr.2
        refine ⟨I', ?_, F1.tr F2⟩
        rw [← e2]
        show fX11_bestFlip_b9 fu sh R (fX11_bestFlip_l9 fu sh R j) I _ _ _ _ = _
        simp only [fX11_bestFlip_b9, fX11_bestFlip_b46, fX11_bestFlip_b59, oR_at S.md M.1.1, bsome, iz_lit, r_row S M H (by decide : (0 : Int) ≤ 4) (by decide : (4 : Int) < 119), r_noFlip S M H V s0 s1, o1, o2]
        rw [if_neg (by rw [iz_le (by omega) (by omega) (by omega) (by omega)]; omega), if_pos (by rw [z]; decide), e1', oHs, if_neg (by rw [iz_le (by omega) (by omega) (by omega) (by omega)]; omega), ek, iMin_iz (by omega) (by omega) (by omega) (by omega), Int.min_eq_right (by omega)]
      · rw [if_neg (fun k => w k.2)]
        obtain ⟨I', e2, F2⟩ := ih j (s + 1) b l J (by omega) (by omega) HJ l0 l1
        refine ⟨I', ?_, F1.tr F2⟩
        rw [← e2]
        show fX11_bestFlip_b9 fu sh R (fX11_bestFlip_l9 fu sh R j) I _ _ _ _ = _
        simp only [fX11_bestFlip_b9, fX11_bestFlip_b46, fX11_bestFlip_b59, oR_at S.md M.1.1, bsome, iz_lit, r_row S M H (by decide : (0 : Int) ≤ 4) (by decide : (4 : Int) < 119), r_noFlip S M H V s0 s1, o1, o2]
        rw [if_neg (by rw [iz_le (by omega) (by omega) (by omega) (by omega)]; omega), if_pos (by rw [z]; decide), e1', oHs, if_pos (by rw [iz_le (by omega) (by omega) (by omega) (by omega)]; omega), ek, iMin_iz (by omega) (by omega) (by omega) (by omega), Int.min_eq_left (by omega)]
    · rw [if_neg (fun k => z k.1)]
      obtain ⟨I', e2, F2⟩ := ih j (s + 1) b l I (by omega) (by omega) H l0 l1
      refine ⟨I', ?_, F2⟩
      rw [← e2]
      show fX11_bestFlip_b9 fu sh R (fX11_bestFlip_l9 fu sh R j) I _ _ _ _ = _
      simp only [fX11_bestFlip_b9, fX11_bestFlip_b46, fX11_bestFlip_b59, oR_at S.md M.1.1, bsome, iz_lit, r_row S M H (by decide : (0 : Int) ≤ 4) (by decide : (4 : Int) < 119), r_noFlip S M H V s0 s1]
      rw [if_neg (by rw [iz_le (by omega) (by omega) (by omega) (by omega)]; omega), if_neg (by rw [iz_le (by decide) (by decide) (by omega) (by omega)]; omega), if_pos (by rw [iz_le (by omega) (by omega) (by omega) (by omega)]; omega), ek, iMin_iz (by omega) (by omega) (by omega) (by omega), Int.min_eq_left (by omega)]
theorem r_bestFlip (S : OKS sh AD) (M : MR R AD) (V : VB ρ) (hfu : 5000 ≤ fu) (H : RW I AD ρ) : ∃ I', fX11_bestFlip fu sh I R (AD 316) = some (iz (bestF ρ), I') ∧ FR AD I I' NOW := by
  have fr := fault_range V
  have hn := V.n
  obtain ⟨I', e, F⟩ := r_bf_loop (fu := fu) S M V hfu (ρ 4).toNat fu 0 (-1) (faultS ρ) I (by omega) (by omega) H fr.1 fr.2
  refine ⟨I', ?_, F⟩
  simp only [fX11_bestFlip, if_pos (isT_of S.md), iz_lit, iz_neg]
  rw [r_faults S M H V hfu, bsome]
  exact e
theorem c_mend_loop (S : OKS sh AD) (L : PLR R AD) (hfu : 5000 ≤ fu) (B : BSH R AD 28 p) : ∀ f j : Nat, ∀ ρ : RHO, ∀ n : Int, ∀ I : HI, VB ρ → BVL I AD 28 p ρ → faultS ρ < f → f ≤ j → 0 ≤ n → n + faultS ρ ≤ 48 →
    ∃ I', fX10_mend_l23 fu sh R (fX10_mend_b58 fu sh R) j I (AD 0) (iz (bestF ρ)) (iz n) = some (.inl (iz (mdF f ρ n).2), I') ∧ BVL I' AD 28 p (mdF f ρ n).1 ∧ VB (mdF f ρ n).1 ∧ FR AD I I' (fun i _ => 28 ≤ i ∧ i < 52) := by
  intro f
  induction f with
  | zero =>
    intro j ρ n I V BL hf hj n0 n1
    have := (fault_range V).1
    omega
  | succ f ih =>
    intro j ρ n I V BL hf hj n0 n1
    obtain ⟨j, rfl⟩ : ∃ t, j = t + 1 := ⟨j - 1, by omega⟩
    have hn := V.n
    have fr := fault_range V
    unfold mdF
    rcases bf_ok ρ with z | ⟨⟨s0, s1⟩, z, w⟩
    · rw [if_pos z]
      refine ⟨I, ?_, BL, V, FR.rf _ _ _⟩
      show fX10_mend_b23 fu sh R (fX10_mend_l23 fu sh R (fX10_mend_b58 fu sh R) j) (fX10_mend_b58 fu sh R) I _ _ _ = _
      simp only [fX10_mend_b23, fX10_mend_b58, iz_lit, iz_neg]
      rw [if_pos (by rw [z])]
    · have ne : ¬ bestF ρ = -1 := by omega
      rw [if_neg ne]
      have ba : BA sh I R AD 28 p ρ := BA.of (b := 0) S (by decide) (by decide) B BL V
      have q := (ba.1.2.2.2 _ s0 s1).1.1
      obtain ⟨k1, ⟨k2, k3⟩, k4⟩ := nf_ok z
      obtain ⟨J, e1, -, L2, F1⟩ := c_camP (fu := fu) S V hfu B BL s0 s1 k2.1 k2.2 k3.1 k3.2 k4
      have V2 : VB (flS ρ (bestF ρ)) := fl_V V s0 s1 z
      have fr2 := fault_range V2
      obtain ⟨J2, e2, F2⟩ := c_bestFlip (fu := fu) (ρ := flS ρ (bestF ρ)) S L V2 hfu B L2
      have L3 : BVL J2 AD 28 p (flS ρ (bestF ρ)) := BVL.no V2 B L2 F2
      obtain ⟨I', e3, L4, V4, F3⟩ := ih j (flS ρ (bestF ρ)) (n + 1) J2 V2 L3 (by omega) (by omega) (by omega) (by omega)
      refine ⟨I', ?_, L4, V4, (F1.tr (F2.no _)).tr F3⟩
      rw [← e3]
      show fX10_mend_b23 fu sh R (fX10_mend_l23 fu sh R (fX10_mend_b58 fu sh R) j) (fX10_mend_b58 fu sh R) I _ _ _ = _
      simp only [fX10_mend_b23, iz_lit, iz_neg, oR_at S.pl L.1.2.1, ba.1.1.2.2, q, bsome]
      rw [if_neg (by rw [iz_eq (by omega) (by omega) (by decide) (by decide)]; exact ne), if_neg (by rw [iz_le (by decide) (by decide) (by omega) (by omega)]; omega), c_over (fu := fu) S L V ba s0 s1 k1 e1, bsome, e2, oHs, iz_add]
theorem ca_mend (S : OKS sh AD) (V : VST σ) (hfu : 5000 ≤ fu) : CA AD R P σ (sMend σ) (fun I => fX10_mend fu sh I R (AD 0)) (aMend σ) := by
  intro I C K
  unfold aMend sMend
  by_cases h : σ.1 = true
  · rw [if_pos h, if_pos h]
    have W := V.1 h
    have hn := W.n
    have fr := fault_range W
    have Bs : BSH R AD 28 (P 0) := C.1.2.2.2.2.2.2.2 0 (by decide) (by decide)
    obtain ⟨I1, e1, F1⟩ := c_bestFlip (fu := fu) S C.1.1 W hfu Bs (C.2.2.2.2.2.1 h)
    have C1 := C.fr V (F1.no _)
    have K1 := K.fr (F1.no NOW) (fun _ _ _ q => q)
    simp only [fX10_mend, if_pos (isT_of S.pl), c_needBoard S C, if_pos h, oT0l, iz_lit, iz_neg]
    rw [e1, oHs]
    have bo := bf_ok σ.2.1
    by_cases z : bestF σ.2.1 = -1
    · rw [if_pos z, if_pos z, if_pos (by rw [z])]
      exact ⟨I1, rfl, C1, K1, F1.no _⟩
    · rw [if_neg z, if_neg z, if_neg (by rw [iz_eq (by omega) (by omega) (by decide) (by decide)]; exact z)]
      obtain ⟨J, e0, CJ, ⟨z9, z11⟩, F2⟩ := c_begin (fu := fu) S C1 V hfu h
      obtain ⟨I', e2, L2, V2, F3⟩ := c_mend_loop (fu := fu) S C.1.1 hfu Bs 49 fu σ.2.1 0 J W (CJ.2.2.2.2.2.1 h) (by omega) (by omega) (by decide) (by omega)
      obtain ⟨C2, K2⟩ := c_done V h CJ z9 z11 F3 L2
      rw [e0, bsome, e2]
      exact ⟨I', rfl, C2, K2, ((F1.no _).tr (F2.wd fun i k z => by omega)).tr (F3.wd fun i k z => by omega)⟩
  · rw [if_neg h, if_neg h]
    simp only [fX10_mend, if_pos (isT_of S.pl), c_needBoard S C, if_neg h, oT0r]
    exact ⟨I, rfl, C, K, FR.rf _ _ _⟩
theorem r_mend_loop (S : OKS sh AD) (M : MR R AD) (hfu : 5000 ≤ fu) : ∀ f j : Nat, ∀ ρ : RHO, ∀ n : Int, ∀ I : HI, VB ρ → RW I AD ρ → faultS ρ < f → f ≤ j →
    ∃ I', fX11_mend_l29 fu sh R j I (AD 316) (iz (bestF ρ)) (iz n) = some (iz (mdF f ρ n).2, I') ∧ RW I' AD (mdF f ρ n).1 ∧ FR AD I I' (fun i _ => i = 317) := by
  intro f
  induction f with
  | zero =>
    intro j ρ n I V H hf hj
    have := (fault_range V).1
    omega
  | succ f ih =>
    intro j ρ n I V H hf hj
    obtain ⟨j, rfl⟩ : ∃ t, j = t + 1 := ⟨j - 1, by omega⟩
    have hn := V.n
    unfold mdF
    rcases bf_ok ρ with z | ⟨⟨s0, s1⟩, z, w⟩
    · rw [if_pos z]
      refine ⟨I, ?_, H, FR.rf _ _ _⟩
      show fX11_mend_b29 fu sh R (fX11_mend_l29 fu sh R j) I _ _ _ = _
      simp only [fX11_mend_b29, iz_lit, iz_neg]
      rw [if_pos (by rw [z])]
    · have ne : ¬ bestF ρ = -1 := by omega
      rw [if_neg ne]
      obtain ⟨k1, ⟨k2, k3⟩, k4⟩ := nf_ok z
      obtain ⟨o1, o2⟩ := r_opp (fu := fu) S M H V s0 s1 k1
      have V2 : VB (flS ρ (bestF ρ)) := fl_V V s0 s1 z
      have i1 : (47 + 6 * bestF ρ + 1).toNat = (48 + 6 * bestF ρ).toNat := by omega
      have i2 : (47 + 6 * bestF ρ + 2).toNat = (49 + 6 * bestF ρ).toNat := by omega
      have H2 : RW (u2 (u2 I (AD 317) (48 + 6 * bestF ρ).toNat (iz (fxS ρ (bestF ρ)))) (AD 317) (49 + 6 * bestF ρ).toNat (iz (fyS ρ (bestF ρ)))) AD (flS ρ (bestF ρ)) := RW.mv S H s0 (show bestF ρ < 12 by omega)
      have F1 : FR AD I (u2 (u2 I (AD 317) (48 + 6 * bestF ρ).toNat (iz (fxS ρ (bestF ρ)))) (AD 317) (49 + 6 * bestF ρ).toNat (iz (fyS ρ (bestF ρ)))) (fun i _ => i = 317) := FR.u2 S (by decide) (by decide) rfl (FR.u2 S (by decide) (by decide) rfl (FR.rf AD I _))
      obtain ⟨J2, e2, F2⟩ := r_bestFlip (fu := fu) S M V2 hfu H2
      have H3 := H2.fr F2 (fun _ q => q)
      obtain ⟨I', e3, H4, F3⟩ := ih j (flS ρ (bestF ρ)) (n + 1) J2 V2 H3 (by omega) (by omega)
      refine ⟨I', ?_, H4, (F1.tr (F2.no _)).tr F3⟩
      rw [← e3]
      show fX11_mend_b29 fu sh R (fX11_mend_l29 fu sh R j) I _ _ _ = _
      simp only [fX11_mend_b29, fX11_turnRound, if_pos (isT_of S.md), iz_lit, iz_neg, o1, o2, bsome]
      rw [if_neg (by rw [iz_eq (by omega) (by omega) (by decide) (by decide)]; exact ne), r_set S M s0 (by omega) (by decide) (by decide), bsome, r_set S M s0 (by omega) (by decide) (by decide), bsome, i1, i2, bsome, e2, oHs, iz_add]
theorem ra_mend (S : OKS sh AD) (V : VST σ) (hfu : 5000 ≤ fu) : RA AD R σ (sMend σ) (fun I => fX11_mend fu sh I R (AD 316)) (aMend σ) := by
  have e22 : ∀ I, RIB I R AD σ → fX11_mend fu sh I R (AD 316) = oH (fX11_isWrong fu sh I R (AD 316) (bz true)) fun v2 w2 => if v2 = 0 then (oH (fX11_bestFlip fu sh w2 R (AD 316)) fun v2 w2 => if v2 = (-1) then (some ((-2), w2)) else ((fX11_remember fu sh w2 R (AD 316)).bind fun w3 => (fX11_mend_l29 fu sh R fu) w3 (AD 316) v2 0)) else some (0, w2) := by
    intro I H
    simp only [fX11_mend, if_pos (isT_of S.md)]
    rfl
  refine RA.of (fu := fu) S e22 (fun h => ?_) (fun h hg => absurd hg (by decide)) (fun h hg J HJ e5 => ?_)
  · have : ¬ σ.1 = true := by rw [h]; decide
    unfold aMend sMend
    rw [if_neg this, if_neg this]
    exact ⟨rfl, rfl⟩
  · unfold aMend sMend
    rw [if_pos h, if_pos h]
    have W := V.1 h
    have hn := W.n
    have fr := fault_range W
    obtain ⟨J1, e1, F1⟩ := r_bestFlip (fu := fu) S HJ.1 W hfu HJ.2.1
    have H1 := HJ.fr (F1.no _)
    have q5 : J1 (AD 316) 5 = iz 0 := (F1 316 (by decide) (by decide) 5 (fun q => q)).trans e5
    have bo := bf_ok σ.2.1
    simp only [iz_lit, iz_neg]
    rw [e1, oHs]
    by_cases z : bestF σ.2.1 = -1
    · rw [if_pos z, if_pos z, if_pos (by rw [z])]
      exact ⟨J1, rfl, q5, H1, F1.no _⟩
    · rw [if_neg z, if_neg z, if_neg (by rw [iz_eq (by omega) (by omega) (by decide) (by decide)]; exact z)]
      obtain ⟨J2, e2, H2, F2⟩ := r_begin (fu := fu) S H1 V hfu
      obtain ⟨I', e3, W3, F3⟩ := r_mend_loop (fu := fu) S HJ.1 hfu 49 fu σ.2.1 0 J2 W H2.2.1 (by omega) (by omega)
      rw [e2, bsome, e3]
      refine ⟨I', rfl, ?_, r_done H2 F3 W3, ((F1.no _).tr (F2.wd fun i k z => by omega)).tr (F3.wd fun i k z => by omega)⟩
      rw [F3 316 (by decide) (by decide) 5 (by omega), F2 316 (by decide) (by decide) 5 (by omega), q5]
      rfl
end Q29
