/-! STAGE 2: days, on both sides -/
theorem first_home (ρ : RHO) (r : Int) : ∀ s k, k < mG_ ρ r s → hG ρ r s (fG ρ r s k) = k
  | 0, k, h => by have : mG_ ρ r 0 = 0 := rfl; omega
  | s + 1, k, h => by
    rw [fG_s, hG_s]
    rw [mG_s] at h
    by_cases e : jG ρ r s = mG_ ρ r s
    · rw [if_pos e] at h
      rw [if_pos e]
      unfold up
      by_cases z : k = mG_ ρ r s
      · rw [if_pos z, if_pos rfl, e, z]
      · have l := fG_lt ρ r s k (by omega)
        rw [if_neg z, if_neg (show ¬ fG ρ r s k = s by omega)]
        exact first_home ρ r s k (by omega)
    · rw [if_neg e] at h
      have l := fG_lt ρ r s k h
      rw [if_neg e]
      unfold up
      rw [if_neg (show ¬ fG ρ r s k = s by omega)]
      exact first_home ρ r s k h
theorem sn_mono {ρ : RHO} (V : VB ρ) (r : Int) (n k a : Nat) : ∀ d : Nat, ((a + d : Nat) : Int) ≤ ρ 4 → snG ρ r n k a ≤ snG ρ r n k (a + d)
  | 0, _ => by rw [Nat.add_zero]; omega
  | d + 1, h => by
    have q := sn_mono V r n k a d (by omega)
    obtain ⟨-, -, -, -, -, -, a7, -⟩ := V.shot (s := ((a + d : Nat) : Int)) (by omega) (by omega)
    have e : snG ρ r n k (a + d + 1) = if hG ρ r n (a + d) = k then snG ρ r n k (a + d) + lnS ρ ((a + d : Nat) : Int) else snG ρ r n k (a + d) := rfl
    rw [← Nat.add_assoc, e]
    split <;> omega
theorem gn_range {ρ : RHO} (V : VB ρ) (r : Int) {k : Nat} (hk : k < mG_ ρ r (ρ 4).toNat) : 1 ≤ gnS ρ r k ∧ gnS ρ r k ≤ 1188 := by
  have hn := V.n
  have u := (sn_range V r (ρ 4).toNat k (ρ 4).toNat (by omega)).2
  have f := fG_lt ρ r (ρ 4).toNat k hk
  have z := (sn_range V r (ρ 4).toNat k (fG ρ r (ρ 4).toNat k) (by omega)).1
  obtain ⟨-, -, -, -, -, -, a7, -⟩ := V.shot (s := (fG ρ r (ρ 4).toNat k : Int)) (by omega) (by omega)
  have e : snG ρ r (ρ 4).toNat k (fG ρ r (ρ 4).toNat k + 1) = if hG ρ r (ρ 4).toNat (fG ρ r (ρ 4).toNat k) = k then snG ρ r (ρ 4).toNat k (fG ρ r (ρ 4).toNat k) + lnS ρ (fG ρ r (ρ 4).toNat k : Int) else snG ρ r (ρ 4).toNat k (fG ρ r (ρ 4).toNat k) := rfl
  rw [if_pos (first_home ρ r _ k hk)] at e
  obtain ⟨d, hd⟩ : ∃ d, (ρ 4).toNat = fG ρ r (ρ 4).toNat k + 1 + d := ⟨(ρ 4).toNat - (fG ρ r (ρ 4).toNat k + 1), by omega⟩
  have m := sn_mono V r (ρ 4).toNat k (fG ρ r (ρ 4).toNat k + 1) d (by omega)
  rw [← hd] at m
  unfold gnS
  omega
/-- the days from the place i on, d begun, u seconds of the last used -/
def dyF (ρ : RHO) (L : Int) : Nat → Nat → Int → Int → Int
  | 0, _, d, _ => d
  | f + 1, i, d, u => if L < gnS ρ (ρ 0) (orS (mSet ρ) (prG ρ) i) then -2 else if d = 0 ∨ L < u + gnS ρ (ρ 0) (orS (mSet ρ) (prG ρ) i) then dyF ρ L f (i + 1) (d + 1) (gnS ρ (ρ 0) (orS (mSet ρ) (prG ρ) i)) else dyF ρ L f (i + 1) d (u + gnS ρ (ρ 0) (orS (mSet ρ) (prG ρ) i))
def aDays (σ : STT) (L : Int) : Int ⊕ Nat := if σ.1 = true then (if 1 ≤ L ∧ L ≤ 9999 then .inl (dyF σ.2.1 L (mSet σ.2.1) 0 0 0) else .inr 2) else .inr 1
section Q9
variable {fu : Nat} {sh : HS} {I : HI} {R : HR} {AD : Int → Nat} {P : Int → Int → Int} {σ : STT} {ρ : RHO}
theorem c_days_loop (S : OKS sh AD) (L : PLR R AD) (T : TR R AD) (K : RTS sh R AD 16 12) (V : VB ρ) (t : T2 I AD ρ (ρ 0) (ρ 4).toNat (ρ 4).toNat) (ko : KO I AD ρ) {l : Int} (hl : 1 ≤ l) (hl2 : l ≤ 9999) : ∀ f j i : Nat, ∀ d u : Int, i + f = mSet ρ → f < j → 0 ≤ d → d ≤ i → 0 ≤ u → u ≤ l →
    fX10_days_l23 fu sh R j I (AD 0) (iz l) (iz d) (iz u) (iz (i : Int)) = some (.inl (iz (dyF ρ l f i d u)), I) := by
  have hm := mSet_le V
  have P := prG_B V
  intro f
  induction f with
  | zero =>
    intro j i d u hi hj d0 d1 u0 u1
    obtain ⟨j, rfl⟩ : ∃ t, j = t + 1 := ⟨j - 1, by omega⟩
    show fX10_days_b23 fu sh R (fX10_days_l23 fu sh R j) _ _ _ _ _ _ = _
    simp only [fX10_days_b23, oR_at S.pl L.1.2.2.2.2.2, oI_at (k6 S), t.1, bsome, show mG_ ρ (ρ 0) (ρ 4).toNat = mSet ρ from rfl]
    rw [if_pos (by rw [iz_le (by omega) (by omega) (by omega) (by omega)]; omega)]
    rfl
  | succ f ih =>
    intro j i d u hi hj d0 d1 u0 u1
    obtain ⟨j, rfl⟩ : ∃ t, j = t + 1 := ⟨j - 1, by omega⟩
    have ek : iz (i : Int) + iz 1 = iz ((i + 1 : Nat) : Int) := by rw [iz_add]; rfl
    have o := (or_at P hm (show i < mSet ρ by omega)).1
    have g := gn_range V (ρ 0) (k := orS (mSet ρ) (prG ρ) i) o
    have x1 : I (AD 20) i = iz (orS (mSet ρ) (prG ρ) i : Int) := ko.2 i (by omega)
    have x2 : I (AD 11) (orS (mSet ρ) (prG ρ) i) = iz (gnS ρ (ρ 0) (orS (mSet ρ) (prG ρ) i)) := t.2.2.2.2.1 _ o
    show fX10_days_b23 fu sh R (fX10_days_l23 fu sh R j) _ _ _ _ _ _ = _
    simp only [fX10_days_b23, fX10_days_b76, fX10_days_b81, oR_at S.pl L.1.2.2.2.2.2, oR_at S.pl L.2.1, oI_at (k6 S), t.1, bsome, show mG_ ρ (ρ 0) (ρ 4).toNat = mSet ρ from rfl, oR_at (k6 S) T.2.2.2.2.1, oR_at K.1.1 K.2.1.2.2.2, show AD (16 + 4) = AD 20 from rfl, oA_nat (S.at (i := 20) (t := 20) (n := 12) rfl (by decide) (by decide)) (show i < 12 by omega) (by decide), x1, oA_nat (k12 S (i := 11) (by decide) (by decide)) (show orS (mSet ρ) (prG ρ) i < 12 by omega) (by decide), x2, iz_lit, iz_neg, iz_add]
    rw [if_neg (by rw [iz_le (by omega) (by omega) (by omega) (by omega)]; omega)]
    simp (disch := omega) only [iz_le, iz_eq]
    unfold dyF
    by_cases z : l < gnS ρ (ρ 0) (orS (mSet ρ) (prG ρ) i)
    · rw [if_neg (by omega), if_pos z]
    · rw [if_pos (by omega), if_neg z]
      by_cases y : d = 0
      · rw [if_pos y, if_pos (Or.inl y), Int.zero_add]
        exact ih j (i + 1) (d + 1) _ (by omega) (by omega) (by omega) (by omega) (by omega) (by omega)
      · rw [if_neg y]
        by_cases x : l < u + gnS ρ (ρ 0) (orS (mSet ρ) (prG ρ) i)
        · rw [if_neg (by omega), if_pos (Or.inr x), Int.zero_add]
          exact ih j (i + 1) (d + 1) _ (by omega) (by omega) (by omega) (by omega) (by omega) (by omega)
        · rw [if_pos (by omega), if_neg (by omega)]
          exact ih j (i + 1) d _ (by omega) (by omega) (by omega) (by omega) (by omega) (by omega)
theorem cq_days (S : OKS sh AD) (V : VST σ) (hfu : 5000 ≤ fu) {l : Int} (hl : IR l) : CQ sh AD R P σ (fun I => fX10_days fu sh I R (AD 0) (iz l)) (aDays σ l) := by
  intro I C K
  unfold aDays
  obtain ⟨l1, l2⟩ := hl
  by_cases h : σ.1 = true
  · by_cases z : 1 ≤ l ∧ l ≤ 9999
    · obtain ⟨I', e, C', K', t, ko, f⟩ := c_know2 (fu := fu) S C K V hfu h
      have hm := mSet_le (V.1 h)
      refine ⟨I', ?_, C', K', f⟩
      have q := c_days_loop (fu := fu) S C.1.1 C.1.2.1 (rts16 S C.1.2.2.1) (V.1 h) t ko z.1 z.2 (mSet σ.2.1) fu 0 0 0 (by omega) (by omega) (by decide) (by decide) (by decide) (by omega)
      rw [if_pos h, if_pos z]
      simp only [fX10_days, if_pos (isT_of S.pl), c_needBoard S C, if_pos h, oT0l, iz_lit]
      rw [c_needRange l1 l2 (by decide) (by decide) (by decide) (by decide), if_pos z, oT0l, e, bsome]
      exact q
    · refine ⟨I, ?_, C, K, FR.rf _ _ _⟩
      rw [if_pos h, if_neg z]
      simp only [fX10_days, if_pos (isT_of S.pl), c_needBoard S C, if_pos h, oT0l, iz_lit]
      rw [c_needRange l1 l2 (by decide) (by decide) (by decide) (by decide), if_neg z, oT0r]
      rfl
  · refine ⟨I, ?_, C, K, FR.rf _ _ _⟩
    rw [if_neg h]
    simp only [fX10_days, if_pos (isT_of S.pl), c_needBoard S C, if_neg h, oT0r]
    rfl
theorem r_days_loop (S : OKS sh AD) (M : MR R AD) (H : RW I AD ρ) (V : VB ρ) (hfu : 5000 ≤ fu) (G : SG I AD ρ (ρ 0) (ρ 4).toNat) (kb : KB I AD ρ) {l : Int} (hl : 1 ≤ l) (hl2 : l ≤ 9999) : ∀ f j i : Nat, ∀ d u : Int, i + f = mSet ρ → f < j → 0 ≤ d → d ≤ i → 0 ≤ u → u ≤ l →
    fX11_days_l29 fu sh R j I (AD 316) (iz l) (iz d) (iz (if d = 0 then 0 else l - u)) (iz (i : Int)) = some (iz (dyF ρ l f i d u), I) := by
  have hm := mSet_le V
  have P := prG_B V
  have hn := V.n
  intro f
  induction f with
  | zero =>
    intro j i d u hi hj d0 d1 u0 u1
    obtain ⟨j, rfl⟩ : ∃ t, j = t + 1 := ⟨j - 1, by omega⟩
    show fX11_days_b29 fu sh R (fX11_days_l29 fu sh R j) _ _ _ _ _ _ = _
    simp only [fX11_days_b29, oI_at S.md, G.1, bsome, show mG_ ρ (ρ 0) (ρ 4).toNat = mSet ρ from rfl]
    rw [if_pos (by rw [iz_le (by omega) (by omega) (by omega) (by omega)]; omega)]
    rfl
  | succ f ih =>
    intro j i d u hi hj d0 d1 u0 u1
    obtain ⟨j, rfl⟩ : ∃ t, j = t + 1 := ⟨j - 1, by omega⟩
    have ek : iz (i : Int) + iz 1 = iz ((i + 1 : Nat) : Int) := by rw [iz_add]; rfl
    have o := (or_at P hm (show i < mSet ρ by omega)).1
    have g := gn_range V (ρ 0) (k := orS (mSet ρ) (prG ρ) i) o
    have x1 : I (AD 329) i = iz (orS (mSet ρ) (prG ρ) i : Int) := kb.2 i (by omega)
    have x2 : I (AD 326) (orS (mSet ρ) (prG ρ) i) = iz (qhG ρ (ρ 0) (ρ 4).toNat (orS (mSet ρ) (prG ρ) i) (ρ 4).toNat : Int) := G.2.2.1 _ o
    have ql := qh_lt ρ (ρ 0) (ρ 4).toNat (orS (mSet ρ) (prG ρ) i) (ρ 4).toNat (by omega)
    have x3 : fX11_lengthOf fu sh I R (AD 316) (iz (qhG ρ (ρ 0) (ρ 4).toNat (orS (mSet ρ) (prG ρ) i) (ρ 4).toNat : Int)) = some (iz (gnS ρ (ρ 0) (orS (mSet ρ) (prG ρ) i))) := by
      rw [r_length S M H V hfu (by omega), lnM_sn _ _ _ _ _ (Nat.le_refl _)]
      rfl
    obtain ⟨w, hw⟩ : ∃ w : Int, w = if d = 0 then 0 else l - u := ⟨_, rfl⟩
    have w0 : 0 ≤ w ∧ w ≤ l := by rw [hw]; split <;> omega
    rw [← hw]
    show fX11_days_b29 fu sh R (fX11_days_l29 fu sh R j) _ _ _ _ _ _ = _
    simp only [fX11_days_b29, fX11_days_b77, fX11_days_b96, oI_at S.md, G.1, bsome, show mG_ ρ (ρ 0) (ρ 4).toNat = mSet ρ from rfl, oR_at S.md M.2.2.2.1, oR_at S.md M.2.2.2.2.2.2.1, oA_nat (S.at (i := 329) (t := 20) (n := 12) rfl (by decide) (by decide)) (show i < 12 by omega) (by decide), x1, oA_nat (S.at (i := 326) (t := 20) (n := 12) rfl (by decide) (by decide)) (show orS (mSet ρ) (prG ρ) i < 12 by omega) (by decide), x2, x3, iz_lit, iz_neg, iz_add, iz_sub]
    rw [if_neg (by rw [iz_le (by omega) (by omega) (by omega) (by omega)]; omega)]
    simp (disch := omega) only [iz_le]
    unfold dyF
    by_cases z : l < gnS ρ (ρ 0) (orS (mSet ρ) (prG ρ) i)
    · rw [if_neg (by omega), if_pos z]
    · rw [if_pos (by omega), if_neg z]
      by_cases y : d = 0 ∨ l < u + gnS ρ (ρ 0) (orS (mSet ρ) (prG ρ) i)
      · have wl : ¬ gnS ρ (ρ 0) (orS (mSet ρ) (prG ρ) i) ≤ w := by
          rw [hw]
          split
          · omega
          · rcases y with y | y <;> omega
        have q := ih j (i + 1) (d + 1) (gnS ρ (ρ 0) (orS (mSet ρ) (prG ρ) i)) (by omega) (by omega) (by omega) (by omega) (by omega) (by omega)
        rw [if_neg (show ¬ d + 1 = 0 by omega)] at q
        rw [if_neg wl, if_neg wl, if_pos y]
        exact q
      · have y1 : ¬ d = 0 := fun k => y (Or.inl k)
        have y2 : ¬ l < u + gnS ρ (ρ 0) (orS (mSet ρ) (prG ρ) i) := fun k => y (Or.inr k)
        rw [if_neg y1] at hw
        have q := ih j (i + 1) d (u + gnS ρ (ρ 0) (orS (mSet ρ) (prG ρ) i)) (by omega) (by omega) (by omega) (by omega) (by omega) (by omega)
        rw [if_neg y1] at q
        rw [if_pos (show gnS ρ (ρ 0) (orS (mSet ρ) (prG ρ) i) ≤ w by omega), if_pos (show gnS ρ (ρ 0) (orS (mSet ρ) (prG ρ) i) ≤ w by omega), if_neg y, Int.add_zero, hw, show l - u - gnS ρ (ρ 0) (orS (mSet ρ) (prG ρ) i) = l - (u + gnS ρ (ρ 0) (orS (mSet ρ) (prG ρ) i)) by omega]
        exact q
theorem rq_days (S : OKS sh AD) (V : VST σ) (hfu : 5000 ≤ fu) {l : Int} (hl : IR l) : RQ sh AD R σ (fun I => fX11_days fu sh I R (AD 316) (iz l)) (aDays σ l) := by
  intro I H
  unfold aDays
  have w := r_isWrong (fu := fu) (R := R) (σ := σ) S H.2.2.1.2.1 (decide (1 ≤ l ∧ l ≤ 9999))
  by_cases h : σ.1 = true
  · by_cases z : 1 ≤ l ∧ l ≤ 9999
    · rw [wr0 h (decide_eq_true z)] at w
      have hm := mSet_le (V.1 h)
      obtain ⟨H1, e5, f1⟩ := r_out (σ := σ) S H 0
      obtain ⟨I', e, g, kb, H2, e2, f2⟩ := r_know2 (fu := fu) S H1 V hfu h
      have q := r_days_loop (fu := fu) S H2.1 H2.2.1 (V.1 h) hfu g kb z.1 z.2 (mSet σ.2.1) fu 0 0 0 (by omega) (by omega) (by decide) (by decide) (by decide) (by omega)
      refine ⟨I', ?_, ?_, H2, f1.tr f2⟩
      · simp only [fX11_days, if_pos (isT_of S.md), jlit, r_isInC hl (by decide : (-1000 : Int) ≤ 1) (by decide) (by decide : (-1000 : Int) ≤ 9999) (by decide), bsome, w, oHs, iz_lit, bz_zero]
        rw [if_pos (by decide), e, bsome, if_pos h, if_pos z]
        exact q
      · rw [e2, e5, if_pos h, if_pos z]
        rfl
    · rw [wr2 h (decide_eq_false z)] at w
      obtain ⟨H1, e5, f1⟩ := r_out (σ := σ) S H 2
      refine ⟨_, ?_, ?_, H1, f1⟩
      · simp only [fX11_days, if_pos (isT_of S.md), jlit, r_isInC hl (by decide : (-1000 : Int) ≤ 1) (by decide) (by decide : (-1000 : Int) ≤ 9999) (by decide), bsome, w, oHs, iz_lit, bz_zero]
        rw [if_neg (by decide), if_pos h, if_neg z]
        rfl
      · rw [e5, if_pos h, if_neg z]
        rfl
  · have hf : σ.1 = false := by simpa using h
    rw [wr1 hf] at w
    obtain ⟨H1, e5, f1⟩ := r_out (σ := σ) S H 1
    refine ⟨_, ?_, ?_, H1, f1⟩
    · simp only [fX11_days, if_pos (isT_of S.md), jlit, r_isInC hl (by decide : (-1000 : Int) ≤ 1) (by decide) (by decide : (-1000 : Int) ≤ 9999) (by decide), bsome, w, oHs, iz_lit, bz_zero]
      rw [if_neg (by decide), if_neg h]
      rfl
    · rw [e5, if_neg h]
      rfl
end Q9
