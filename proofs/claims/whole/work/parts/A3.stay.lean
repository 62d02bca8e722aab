/-! STAGE 2: stay, on both sides -/
def stF (ρ : RHO) (a : Nat) : Nat → Nat → Int → Int → Int → Int × Int
  | 0, _, w, p, _ => (w, p)
  | f + 1, i, w, p, o => if (gaS ρ (ρ 0) (orS (mSet ρ) (prG ρ) i)).testBit a = true then stF ρ a f (i + 1) (w + gnS ρ (ρ 0) (orS (mSet ρ) (prG ρ) i)) (o + gnS ρ (ρ 0) (orS (mSet ρ) (prG ρ) i)) (o + gnS ρ (ρ 0) (orS (mSet ρ) (prG ρ) i))
    else if 0 < w then stF ρ a f (i + 1) w p (o + gnS ρ (ρ 0) (orS (mSet ρ) (prG ρ) i)) else stF ρ a f (i + 1) w p o
def stV (q : Int × Int) : UInt64 := if q.1 = 0 then FP.dconst0 else FP.ddiv (FP.i2d (iz q.2)) (FP.i2d (iz q.1))
def aStay (σ : STT) (a : Int) : UInt64 ⊕ Nat := if σ.1 = true then (if 0 ≤ a ∧ a ≤ 5 then .inl (stV (stF σ.2.1 a.toNat (mSet σ.2.1) 0 0 0 0)) else .inr 2) else .inr 1
def dcOut : UInt64 ⊕ Nat → UInt64 ⊕ String
  | .inl v => .inl v
  | .inr e => .inr (exN e)
def drVal : UInt64 ⊕ Nat → UInt64
  | .inl v => v
  | .inr _ => FP.dconst0
def drThr : UInt64 ⊕ Nat → Int32
  | .inl _ => iz 0
  | .inr e => iz (e : Int)
def CQd (sh : HS) (AD : Int → Nat) (R : HR) (P : Int → Int → Int) (σ : STT) (f : HI → Option ((UInt64 ⊕ String) × HI)) (a : UInt64 ⊕ Nat) : Prop := ∀ I : HI, CIB I R AD P σ → CKN I AD σ → ∃ I', f I = some (dcOut a, I') ∧ CIB I' R AD P σ ∧ CKN I' AD σ ∧ FR AD I I' (fun i _ => i < 316)
def RQd (sh : HS) (AD : Int → Nat) (R : HR) (σ : STT) (f : HI → Option (UInt64 × HI)) (a : UInt64 ⊕ Nat) : Prop := ∀ I : HI, RIB I R AD σ → ∃ I', f I = some (drVal a, I') ∧ I' (AD 316) 5 = drThr a ∧ RIB I' R AD σ ∧ FR AD I I' (fun i _ => 316 ≤ i)
section Q37
variable {fu : Nat} {sh : HS} {I : HI} {R : HR} {AD : Int → Nat} {P : Int → Int → Int} {σ : STT} {ρ : RHO}
theorem c_stay_end {q : Int × Int} (h : 0 ≤ q.1 ∧ q.1 ≤ 14256 ∧ 0 ≤ q.2 ∧ q.2 ≤ 14256) : fX10_stay_b125 fu sh R I (iz q.1) (iz q.2) = some (.inl (stV q), I) := by
  obtain ⟨w, p⟩ := q
  obtain ⟨h1, h2, h3, h4⟩ := h
  simp only [fX10_stay_b125, fX10_stay_b138, iz_lit]
  unfold stV
  simp only at h1 h2 h3 h4 ⊢
  by_cases z : w = 0
  · rw [if_pos (by rw [z]), if_pos z]
  · rw [if_neg (by rw [iz_eq (by omega) (by omega) (by decide) (by decide)]; exact z), if_neg z]
    have e := oDD_ok (p := p.toNat) (w := w.toNat) (by omega) (by omega) (by omega)
    rw [Int.toNat_of_nonneg h1, Int.toNat_of_nonneg h3] at e
    rw [e, bsome]
theorem r_stay_end {q : Int × Int} (h : 0 ≤ q.1 ∧ q.1 ≤ 14256 ∧ 0 ≤ q.2 ∧ q.2 ≤ 14256) : fX11_stay_b127 fu sh R I (iz q.1) (iz q.2) = some (stV q, I) := by
  obtain ⟨w, p⟩ := q
  obtain ⟨h1, h2, h3, h4⟩ := h
  simp only [fX11_stay_b127, fX11_stay_b141, iz_lit]
  unfold stV
  simp only at h1 h2 h3 h4 ⊢
  by_cases z : w = 0
  · rw [if_pos (by rw [z]), if_pos z]
  · rw [if_neg (by rw [iz_eq (by omega) (by omega) (by decide) (by decide)]; exact z), if_neg z]
    have e := oDD_ok (p := p.toNat) (w := w.toNat) (by omega) (by omega) (by omega)
    rw [Int.toNat_of_nonneg h1, Int.toNat_of_nonneg h3] at e
    rw [e, bsome]
theorem c_stay_loop (S : OKS sh AD) (L : PLR R AD) (T : TR R AD) (K : RTS sh R AD 16 12) (V : VB ρ) (t : T2 I AD ρ (ρ 0) (ρ 4).toNat (ρ 4).toNat) (ko : KO I AD ρ) {a : Nat} (ha : a < 6) : ∀ f j i : Nat, ∀ w p o : Int, i + f = mSet ρ → f < j → 0 ≤ w → w ≤ 1188 * i → 0 ≤ p → p ≤ o → o ≤ 1188 * i →
    fX10_stay_l24 fu sh R (fX10_stay_b125 fu sh R) j I (AD 0) (iz (a : Int)) (iz w) (iz p) (iz (o - p)) (iz (i : Int)) = some (.inl (stV (stF ρ a f i w p o)), I) := by
  have hm := mSet_le V
  have P := prG_B V
  intro f
  induction f with
  | zero =>
    intro j i w p o hi hj w0 w1 p0 p1 o1
    obtain ⟨j, rfl⟩ : ∃ t, j = t + 1 := ⟨j - 1, by omega⟩
    show fX10_stay_b24 fu sh R (fX10_stay_l24 fu sh R (fX10_stay_b125 fu sh R) j) (fX10_stay_b125 fu sh R) _ _ _ _ _ _ _ = _
    simp only [fX10_stay_b24, oR_at S.pl L.1.2.2.2.2.2, oI_at (k6 S), t.1, bsome, show mG_ ρ (ρ 0) (ρ 4).toNat = mSet ρ from rfl]
    rw [if_pos (by rw [iz_le (by omega) (by omega) (by omega) (by omega)]; omega)]
    exact c_stay_end (q := (w, p)) ⟨w0, by show w ≤ 14256; omega, p0, by show p ≤ 14256; omega⟩
  | succ f ih =>
    intro j i w p o hi hj w0 w1 p0 p1 o1
    obtain ⟨j, rfl⟩ : ∃ t, j = t + 1 := ⟨j - 1, by omega⟩
    have ek : iz (i : Int) + iz 1 = iz ((i + 1 : Nat) : Int) := by rw [iz_add]; rfl
    have oa := (or_at P hm (show i < mSet ρ by omega)).1
    have g := gn_range V (ρ 0) (k := orS (mSet ρ) (prG ρ) i) oa
    have x1 : I (AD 20) i = iz (orS (mSet ρ) (prG ρ) i : Int) := ko.2 i (by omega)
    have x2 : I (AD 11) (orS (mSet ρ) (prG ρ) i) = iz (gnS ρ (ρ 0) (orS (mSet ρ) (prG ρ) i)) := t.2.2.2.2.1 _ oa
    have x3 : I (AD 10) (orS (mSet ρ) (prG ρ) i) = iz (gaS ρ (ρ 0) (orS (mSet ρ) (prG ρ) i) : Int) := t.2.2.2.1 _ oa
    have ga : gaS ρ (ρ 0) (orS (mSet ρ) (prG ρ) i) < 64 := ac_lt ρ (ρ 0) _ _ _
    show fX10_stay_b24 fu sh R (fX10_stay_l24 fu sh R (fX10_stay_b125 fu sh R) j) (fX10_stay_b125 fu sh R) _ _ _ _ _ _ _ = _
    simp only [fX10_stay_b24, fX10_stay_b119, oR_at S.pl L.1.2.2.2.2.2, oR_at S.pl L.2.1, oI_at (k6 S), t.1, bsome, show mG_ ρ (ρ 0) (ρ 4).toNat = mSet ρ from rfl, oR_at (k6 S) T.2.2.2.1, oR_at (k6 S) T.2.2.2.2.1, oR_at K.1.1 K.2.1.2.2.2, show AD (16 + 4) = AD 20 from rfl, oA_nat (S.at (i := 20) (t := 20) (n := 12) rfl (by decide) (by decide)) (show i < 12 by omega) (by decide), x1, oA_nat (k12 S (i := 11) (by decide) (by decide)) (show orS (mSet ρ) (prG ρ) i < 12 by omega) (by decide), oA_nat (k12 S (i := 10) (by decide) (by decide)) (show orS (mSet ρ) (prG ρ) i < 12 by omega) (by decide), x2, x3, c_holds (show gaS ρ (ρ 0) (orS (mSet ρ) (prG ρ) i) < 2147483648 by omega) (show a < 32 by omega), bz_zero, iz_lit, iz_add]
    rw [if_neg (by rw [iz_le (by omega) (by omega) (by omega) (by omega)]; omega)]
    simp (disch := omega) only [iz_le]
    unfold stF
    cases e : (gaS ρ (ρ 0) (orS (mSet ρ) (prG ρ) i)).testBit a
    · rw [if_pos rfl, if_neg (show ¬ (false = true) by decide)]
      by_cases z : 0 < w
      · rw [if_neg (by omega), if_pos z, show o - p + gnS ρ (ρ 0) (orS (mSet ρ) (prG ρ) i) = o + gnS ρ (ρ 0) (orS (mSet ρ) (prG ρ) i) - p by omega]
        exact ih j (i + 1) w p _ (by omega) (by omega) w0 (by omega) p0 (by omega) (by omega)
      · rw [if_pos (by omega), if_neg z]
        exact ih j (i + 1) w p o (by omega) (by omega) w0 (by omega) p0 p1 (by omega)
    · rw [if_neg (show ¬ (true = false) by decide), if_pos rfl, show p + (o - p + gnS ρ (ρ 0) (orS (mSet ρ) (prG ρ) i)) = o + gnS ρ (ρ 0) (orS (mSet ρ) (prG ρ) i) by omega]
      have q := ih j (i + 1) (w + gnS ρ (ρ 0) (orS (mSet ρ) (prG ρ) i)) (o + gnS ρ (ρ 0) (orS (mSet ρ) (prG ρ) i)) (o + gnS ρ (ρ 0) (orS (mSet ρ) (prG ρ) i)) (by omega) (by omega) (by omega) (by omega) (by omega) (by omega) (by omega)
      rw [Int.sub_self] at q
      exact q
theorem cq_stay (S : OKS sh AD) (V : VST σ) (hfu : 5000 ≤ fu) {a : Int} (ha : IR a) : CQd sh AD R P σ (fun I => fX10_stay fu sh I R (AD 0) (iz a)) (aStay σ a) := by
  intro I C K
  unfold aStay
  by_cases h : σ.1 = true
  · rw [if_pos h]
    simp only [fX10_stay, if_pos (isT_of S.pl), c_needBoard S C, if_pos h, oT0l, iz_lit]
    rw [c_needRange ha.1 ha.2 (by decide) (by decide) (by decide) (by decide)]
    by_cases z : 0 ≤ a ∧ a ≤ 5
    · obtain ⟨I', e, C', K', t, ko, f⟩ := c_know2 (fu := fu) S C K V hfu h
      have hm := mSet_le (V.1 h)
      refine ⟨I', ?_, C', K', f⟩
      have q := c_stay_loop (fu := fu) S C.1.1 C.1.2.1 (rts16 S C.1.2.2.1) (V.1 h) t ko (show a.toNat < 6 by omega) (mSet σ.2.1) fu 0 0 0 0 (by omega) (by omega) (by decide) (by decide) (by decide) (by decide) (by decide)
      rw [if_pos z, oT0l, e, bsome, if_pos z, iz_tn z.1]
      exact q
    · rw [if_neg z, oT0r, if_neg z]
      exact ⟨I, rfl, C, K, FR.rf _ _ _⟩
  · rw [if_neg h]
    simp only [fX10_stay, if_pos (isT_of S.pl), c_needBoard S C, if_neg h, oT0r]
    exact ⟨I, rfl, C, K, FR.rf _ _ _⟩
theorem r_stay_loop (S : OKS sh AD) (M : MR R AD) (H : RW I AD ρ) (V : VB ρ) (hfu : 5000 ≤ fu) (G : SG I AD ρ (ρ 0) (ρ 4).toNat) (kb : KB I AD ρ) {a : Nat} (ha : a < 6) : ∀ f j i : Nat, ∀ w p o : Int, i + f = mSet ρ → f < j → 0 ≤ w → w ≤ 1188 * i → 0 ≤ p → p ≤ o → o ≤ 1188 * i →
    fX11_stay_l32 fu sh R (fX11_stay_b127 fu sh R) j I (AD 316) (iz (a : Int)) (iz w) (iz o) (iz p) (iz (i : Int)) = some (stV (stF ρ a f i w p o), I) := by
  have hm := mSet_le V
  have P := prG_B V
  have hn := V.n
  intro f
  induction f with
  | zero =>
    intro j i w p o hi hj w0 w1 p0 p1 o1
    obtain ⟨j, rfl⟩ : ∃ t, j = t + 1 := ⟨j - 1, by omega⟩
    show fX11_stay_b32 fu sh R (fX11_stay_l32 fu sh R (fX11_stay_b127 fu sh R) j) (fX11_stay_b127 fu sh R) _ _ _ _ _ _ _ = _
    simp only [fX11_stay_b32, oI_at S.md, G.1, bsome, show mG_ ρ (ρ 0) (ρ 4).toNat = mSet ρ from rfl]
    rw [if_pos (by rw [iz_le (by omega) (by omega) (by omega) (by omega)]; omega)]
    exact r_stay_end (q := (w, p)) ⟨w0, by show w ≤ 14256; omega, p0, by show p ≤ 14256; omega⟩
  | succ f ih =>
    intro j i w p o hi hj w0 w1 p0 p1 o1
    obtain ⟨j, rfl⟩ : ∃ t, j = t + 1 := ⟨j - 1, by omega⟩
    have ek : iz (i : Int) + iz 1 = iz ((i + 1 : Nat) : Int) := by rw [iz_add]; rfl
    have oa := (or_at P hm (show i < mSet ρ by omega)).1
    have g := gn_range V (ρ 0) (k := orS (mSet ρ) (prG ρ) i) oa
    have x1 : I (AD 329) i = iz (orS (mSet ρ) (prG ρ) i : Int) := kb.2 i (by omega)
    have x2 : I (AD 326) (orS (mSet ρ) (prG ρ) i) = iz (qhG ρ (ρ 0) (ρ 4).toNat (orS (mSet ρ) (prG ρ) i) (ρ 4).toNat : Int) := G.2.2.1 _ oa
    have ql := qh_lt ρ (ρ 0) (ρ 4).toNat (orS (mSet ρ) (prG ρ) i) (ρ 4).toNat (by omega)
    have x3 : fX11_lengthOf fu sh I R (AD 316) (iz (qhG ρ (ρ 0) (ρ 4).toNat (orS (mSet ρ) (prG ρ) i) (ρ 4).toNat : Int)) = some (iz (gnS ρ (ρ 0) (orS (mSet ρ) (prG ρ) i))) := by
      rw [r_length S M H V hfu (by omega), lnM_sn _ _ _ _ _ (Nat.le_refl _)]
      rfl
    have ga : gaS ρ (ρ 0) (orS (mSet ρ) (prG ρ) i) < 64 := ac_lt ρ (ρ 0) _ _ _
    have x4 : fX11_actorsIn fu sh I R (AD 316) (iz (orS (mSet ρ) (prG ρ) i : Int)) = some (iz (gaS ρ (ρ 0) (orS (mSet ρ) (prG ρ) i) : Int)) := r_actors S M H V hfu G oa
    have z0 : ∀ x : Int, x + 0 = x := Int.add_zero
    show fX11_stay_b32 fu sh R (fX11_stay_l32 fu sh R (fX11_stay_b127 fu sh R) j) (fX11_stay_b127 fu sh R) _ _ _ _ _ _ _ = _
    simp only [fX11_stay_b32, fX11_stay_b86, fX11_stay_b92, fX11_stay_b106, fX11_stay_b119, oI_at S.md, G.1, bsome, show mG_ ρ (ρ 0) (ρ 4).toNat = mSet ρ from rfl, oR_at S.md M.2.2.2.1, oR_at S.md M.2.2.2.2.2.2.1, oA_nat (S.at (i := 329) (t := 20) (n := 12) rfl (by decide) (by decide)) (show i < 12 by omega) (by decide), x1, oA_nat (S.at (i := 326) (t := 20) (n := 12) rfl (by decide) (by decide)) (show orS (mSet ρ) (prG ρ) i < 12 by omega) (by decide), x2, x3, x4, r_has (show gaS ρ (ρ 0) (orS (mSet ρ) (prG ρ) i) < 2147483648 by omega) (show a < 32 by omega), bz_zero, iz_lit, iz_add, z0]
    rw [if_neg (by rw [iz_le (by omega) (by omega) (by omega) (by omega)]; omega)]
    simp (disch := omega) only [iz_lt]
    unfold stF
    cases e : (gaS ρ (ρ 0) (orS (mSet ρ) (prG ρ) i)).testBit a
    · rw [if_neg (show ¬ (false = true) by decide)]
      by_cases z : 0 < w
      · rw [if_pos z, if_pos z, if_pos rfl, if_pos rfl]
        exact ih j (i + 1) w p _ (by omega) (by omega) w0 (by omega) p0 (by omega) (by omega)
      · rw [if_neg z, if_neg z, if_pos rfl, if_pos rfl, if_pos rfl]
        exact ih j (i + 1) w p o (by omega) (by omega) w0 (by omega) p0 p1 (by omega)
    · have q := ih j (i + 1) (w + gnS ρ (ρ 0) (orS (mSet ρ) (prG ρ) i)) (o + gnS ρ (ρ 0) (orS (mSet ρ) (prG ρ) i)) (o + gnS ρ (ρ 0) (orS (mSet ρ) (prG ρ) i)) (by omega) (by omega) (by omega) (by omega) (by omega) (by omega) (by omega)
      rw [if_pos (show true = true from rfl)]
      have tf : ¬ (true = false) := by decide
      by_cases z : 0 < w
      · rw [if_pos z, if_neg tf, if_neg tf]
        exact q
      · rw [if_neg z, if_neg tf, if_neg tf, if_neg tf]
        exact q
theorem rq_stay (S : OKS sh AD) (V : VST σ) (hfu : 5000 ≤ fu) {a : Int} (ha : IR a) : RQd sh AD R σ (fun I => fX11_stay fu sh I R (AD 316) (iz a)) (aStay σ a) := by
  intro I H
  unfold aStay
  have w := r_isWrong (fu := fu) (R := R) (σ := σ) S H.2.2.1.2.1 (decide (0 ≤ a ∧ a ≤ 5))
  have c5 := r_isInC (fu := fu) (sh := sh) (I := I) (R := R) ha (by decide : (-1000 : Int) ≤ 0) (by decide) (by decide : (-1000 : Int) ≤ 5) (by decide)
  by_cases h : σ.1 = true
  · by_cases z : 0 ≤ a ∧ a ≤ 5
    · rw [wr0 h (decide_eq_true z)] at w
      have hm := mSet_le (V.1 h)
      obtain ⟨H1, e5, f1⟩ := r_out (σ := σ) S H 0
      obtain ⟨I', e, g, kb, H2, e2, f2⟩ := r_know2 (fu := fu) S H1 V hfu h
      have q := r_stay_loop (fu := fu) S H2.1 H2.2.1 (V.1 h) hfu g kb (show a.toNat < 6 by omega) (mSet σ.2.1) fu 0 0 0 0 (by omega) (by omega) (by decide) (by decide) (by decide) (by decide) (by decide)
      refine ⟨I', ?_, ?_, H2, f1.tr f2⟩
      · simp only [fX11_stay, if_pos (isT_of S.md), jlit, c5, bsome, w, oHs, iz_lit, bz_zero]
        rw [if_pos (by decide), e, bsome, if_pos h, if_pos z, iz_tn z.1]
        exact q
      · rw [e2, e5, if_pos h, if_pos z]
        rfl
    · rw [wr2 h (decide_eq_false z)] at w
      obtain ⟨H1, e5, f1⟩ := r_out (σ := σ) S H 2
      refine ⟨_, ?_, ?_, H1, f1⟩
      · simp only [fX11_stay, if_pos (isT_of S.md), jlit, c5, bsome, w, oHs, iz_lit, bz_zero]
        rw [if_neg (by decide), if_pos h, if_neg z]
        rfl
      · rw [e5, if_pos h, if_neg z]
        rfl
  · have hf : σ.1 = false := by simpa using h
    rw [wr1 hf] at w
    obtain ⟨H1, e5, f1⟩ := r_out (σ := σ) S H 1
    refine ⟨_, ?_, ?_, H1, f1⟩
    · simp only [fX11_stay, if_pos (isT_of S.md), jlit, c5, bsome, w, oHs, iz_lit, bz_zero]
      rw [if_neg (by decide), if_neg h]
      rfl
    · rw [e5, if_neg h]
      rfl
end Q37
