/-! STAGE 2: joinable, leastReach, on both sides -/
def jmB (ρ : RHO) (s : Int) (k : Nat) : Bool := !decide (hG ρ (ρ 0) (ρ 4).toNat s.toNat = k) && decide (njS ρ s k = 0)
def aJnb (σ : STT) (s : Int) : Int ⊕ Nat := if σ.1 = true then (if 0 ≤ s ∧ s ≤ σ.2.1 4 - 1 then .inl ((mkS (jmB σ.2.1 s) (mSet σ.2.1) : Nat) : Int) else .inr 2) else .inr 1
def lrF (ρ : RHO) (m : Int) : Nat → Nat → Int
  | 0, _ => -2
  | f + 1, r => if (mG_ ρ (r : Int) (ρ 4).toNat : Int) ≤ m then (r : Int) else lrF ρ m f (r + 1)
def aLrc (σ : STT) (m : Int) : Int ⊕ Nat := if σ.1 = true then (if 0 ≤ m ∧ m ≤ 12 then .inl (lrF σ.2.1 m 100 0) else .inr 2) else .inr 1
theorem mkS_or {P : Nat → Bool} {k : Nat} (h : P k = true) : mkS P k ||| 2 ^ k = mkS P (k + 1) := by
  show _ = mkS P k ||| (if P k = true then 2 ^ k else 0)
  rw [if_pos h]
theorem mkS_no {P : Nat → Bool} {k : Nat} (h : ¬ P k = true) : mkS P k = mkS P (k + 1) := by
  show _ = mkS P k ||| (if P k = true then 2 ^ k else 0)
  rw [if_neg h, Nat.or_zero]
section Q31
variable {fu : Nat} {sh : HS} {I I' J : HI} {R : HR} {AD : Int → Nat} {P : Int → Int → Int} {σ σ' : STT} {ρ ρ' : RHO} {p : Int → Int} {s x y : Int} {a : Int ⊕ Nat}
theorem c_jnb_loop (S : OKS sh AD) (L : PLR R AD) (T : TR R AD) (V : VB ρ) (hfu : 5000 ≤ fu) (B : BSH R AD 28 p) (h0 : 0 ≤ s) (h1 : s < ρ 4) : ∀ d j k : Nat, k + d = mSet ρ → d < j → ∀ I : HI, BVL I AD 28 p ρ → T2 I AD ρ (ρ 0) (ρ 4).toNat (ρ 4).toNat →
    ∃ I', fX10_joinable_l17 fu sh R j I (AD 0) (iz s) (iz (mkS (jmB ρ s) k : Int)) (iz (k : Int)) = some (.inl (iz (mkS (jmB ρ s) (mSet ρ) : Int)), I') ∧ FR AD I I' NOW := by
  have hm := V.m
  have hn := V.n
  have ms := mSet_le V
  intro d
  induction d with
  | zero =>
    intro j k hk hj I BL t
    obtain ⟨j, rfl⟩ : ∃ t, j = t + 1 := ⟨j - 1, by omega⟩
    have e : k = mSet ρ := by omega
    subst e
    refine ⟨I, ?_, FR.rf _ _ _⟩
    show fX10_joinable_b17 fu sh R (fX10_joinable_l17 fu sh R j) I _ _ _ _ = _
    simp only [fX10_joinable_b17, oR_at S.pl L.1.2.2.2.2.2, oI_at (k6 S), t.1, bsome, show mG_ ρ (ρ 0) (ρ 4).toNat = mSet ρ from rfl]
    rw [if_pos (by rw [iz_le (by omega) (by omega) (by omega) (by omega)]; omega)]
  | succ d ih =>
    intro j k hk hj I BL t
    obtain ⟨j, rfl⟩ : ∃ t, j = t + 1 := ⟨j - 1, by omega⟩
    have hk2 : k < mSet ρ := by omega
    have ba : BA sh I R AD 28 p ρ := BA.of (b := 0) S (by decide) (by decide) B BL V
    have q := (ba.1.2.2.2 s h0 h1).1.1
    have ek : iz (k : Int) + iz 1 = iz ((k + 1 : Nat) : Int) := by rw [iz_add]; rfl
    have hh := hG_lt ρ (ρ 0) (ρ 4).toNat s.toNat (by omega)
    have hh2 : hG ρ (ρ 0) (ρ 4).toNat s.toNat < 12 := Nat.lt_of_lt_of_le hh ms
    have x7 : oA sh I (AD 7) (iz s) = some (iz (hG ρ (ρ 0) (ρ 4).toNat s.toNat : Int)) := by
      rw [iz_tn h0, oA_nat (k12 S (by decide) (by decide)) (show s.toNat < 12 by omega) (by decide), t.2.1.2 s.toNat (by omega)]
    have hd : fX10_joinable_l17 fu sh R (j + 1) I (AD 0) (iz s) (iz (mkS (jmB ρ s) k : Int)) (iz (k : Int)) = if (iz (k : Int)) = iz (hG ρ (ρ 0) (ρ 4).toNat s.toNat : Int) then fX10_joinable_b46 fu sh R (fX10_joinable_l17 fu sh R j) I (AD 0) (iz s) (iz (mkS (jmB ρ s) k : Int)) (iz (k : Int)) 0 else fX10_joinable_b46 fu sh R (fX10_joinable_l17 fu sh R j) I (AD 0) (iz s) (iz (mkS (jmB ρ s) k : Int)) (iz (k : Int)) 1 := by
      show fX10_joinable_b17 fu sh R (fX10_joinable_l17 fu sh R j) I _ _ _ _ = _
      simp only [fX10_joinable_b17, oR_at S.pl L.1.2.2.2.2.2, oI_at (k6 S), t.1, bsome, show mG_ ρ (ρ 0) (ρ 4).toNat = mSet ρ from rfl, oR_at (k6 S) T.1, x7]
      rw [if_neg (by rw [iz_le (by omega) (by omega) (by omega) (by omega)]; omega)]
    by_cases z : hG ρ (ρ 0) (ρ 4).toNat s.toNat = k
    · have hb : ¬ jmB ρ s k = true := by unfold jmB; rw [decide_eq_true z]; exact fun q => absurd (show false = true from q) (by decide)
      obtain ⟨I', e2, F2⟩ := ih j (k + 1) (by omega) (by omega) I BL t
      refine ⟨I', ?_, F2⟩
      rw [hd, if_pos (by rw [z]), ← e2, ← mkS_no hb]
      simp only [fX10_joinable_b46, fX10_joinable_b76, iz_lit, ek]
      rw [if_pos True.intro]
    · rw [hd, if_neg (by rw [iz_eq (by omega) (by omega) (by omega) (by omega)]; omega)]
      obtain ⟨J, e1, F1⟩ := c_ansJoin (fu := fu) S L T V hfu B BL t.2.1.1 h0 h1 hk2
      obtain ⟨I', e2, F2⟩ := ih j (k + 1) (by omega) (by omega) J (BL.no V B F1) (t.fr F1 (fun _ _ _ _ q => q))
      refine ⟨I', ?_, F1.tr F2⟩
      rw [← e2]
      simp only [fX10_joinable_b46, fX10_joinable_b76, iz_lit, ek, oR_at S.pl L.1.2.1, ba.1.1.2.2, q, bsome]
      rw [if_neg (by rw [iz_eq (by decide) (by decide) (by decide) (by decide)]; decide), e1, oHs]
      have nr := nj_rng ρ s k
      by_cases e : njS ρ s k = 0
      · have hb : jmB ρ s k = true := by unfold jmB; rw [decide_eq_false z, decide_eq_true e]; rfl
        have fr2 : 0 ≤ ajS ρ s k ∧ ajS ρ s k ≤ 48 := by
          obtain ⟨j0, j1⟩ := jf_rng hk2
          obtain ⟨b1, b2, b3, -⟩ := V.shot j0 j1
          unfold ajS
          rw [if_pos e]
          exact fault_range (mv_V V h0 h1 b2.1 b2.2 b3.1 b3.2 (nj_ok e))
        rw [if_neg (by rw [iz_lt (by omega) (by omega) (by decide) (by decide)]; omega), iz_shlz (by omega), iz_orN, mkS_or hb]
      · have hb : ¬ jmB ρ s k = true := by unfold jmB; rw [decide_eq_false z, decide_eq_false e]; decide
        have ea : ajS ρ s k = njS ρ s k := by unfold ajS; rw [if_neg e]
        rw [ea, if_pos (by rw [iz_lt (by omega) (by omega) (by decide) (by decide)]; omega), ← mkS_no hb]
theorem cq_joinable (S : OKS sh AD) (V : VST σ) (hfu : 5000 ≤ fu) (hs : IR s) : CQ sh AD R P σ (fun I => fX10_joinable fu sh I R (AD 0) (iz s)) (aJnb σ s) := by
  intro I C K
  unfold aJnb
  by_cases h : σ.1 = true
  · have n4 := V.n4
    have W := V.1 h
    have ms := mSet_le W
    rw [if_pos h]
    simp only [fX10_joinable, if_pos (isT_of S.pl), c_needBoard S C, if_pos h, oT0l, c_needShot S C V h hs, iz_lit]
    by_cases z : 0 ≤ s ∧ s ≤ σ.2.1 4 - 1
    · rw [if_pos z, oT0l, if_pos z]
      have Bs : BSH R AD 28 (P 0) := C.1.2.2.2.2.2.2.2 0 (by decide) (by decide)
      obtain ⟨I1, e1, C1, K1, t1, F1⟩ := c_know1 (fu := fu) S C K V hfu h
      obtain ⟨I', e2, F2⟩ := c_jnb_loop (fu := fu) S C.1.1 C.1.2.1 W hfu Bs z.1 (show s < σ.2.1 4 by omega) (mSet σ.2.1) fu 0 (by omega) (by omega) I1 (C1.2.2.2.2.2.1 h) t1
      rw [e1, bsome]
      exact ⟨I', e2, C1.fr V (F2.no _), K1.fr (F2.no NOW) (fun _ _ _ q => q), F1.tr (F2.no _)⟩
    · rw [if_neg z, oT0r, if_neg z]
      exact ⟨I, rfl, C, K, FR.rf _ _ _⟩
  · rw [if_neg h]
    simp only [fX10_joinable, if_pos (isT_of S.pl), c_needBoard S C, if_neg h, oT0r]
    exact ⟨I, rfl, C, K, FR.rf _ _ _⟩
theorem r_jnb_loop (S : OKS sh AD) (M : MR R AD) (V : VB ρ) (hfu : 5000 ≤ fu) (h0 : 0 ≤ s) (h1 : s < ρ 4) : ∀ d j k : Nat, k + d = mSet ρ → d < j → ∀ I : HI, RW I AD ρ → SG I AD ρ (ρ 0) (ρ 4).toNat →
    ∃ I', fX11_joinable_l30 fu sh R j I (AD 316) (iz s) (iz (mkS (jmB ρ s) k : Int)) (iz (mSet ρ : Int)) (iz (k : Int)) = some (iz (mkS (jmB ρ s) (mSet ρ) : Int), I') ∧ FR AD I I' NOW := by
  have hm := V.m
  have hn := V.n
  have ms := mSet_le V
  intro d
  induction d with
  | zero =>
    intro j k hk hj I H G
    obtain ⟨j, rfl⟩ : ∃ t, j = t + 1 := ⟨j - 1, by omega⟩
    have e : k = mSet ρ := by omega
    subst e
    refine ⟨I, ?_, FR.rf _ _ _⟩
    show fX11_joinable_b30 fu sh R (fX11_joinable_l30 fu sh R j) I _ _ _ _ _ = _
    simp only [fX11_joinable_b30]
    rw [if_pos (by rw [iz_le (by omega) (by omega) (by omega) (by omega)]; omega)]
  | succ d ih =>
    intro j k hk hj I H G
    obtain ⟨j, rfl⟩ : ∃ t, j = t + 1 := ⟨j - 1, by omega⟩
    have hk2 : k < mSet ρ := by omega
    have ek : iz (k : Int) + iz 1 = iz ((k + 1 : Nat) : Int) := by rw [iz_add]; rfl
    have hh := hG_lt ρ (ρ 0) (ρ 4).toNat s.toNat (by omega)
    have hh2 : hG ρ (ρ 0) (ρ 4).toNat s.toNat < 12 := Nat.lt_of_lt_of_le hh ms
    have x7 : oA sh I (AD 324) (iz s) = some (iz (hG ρ (ρ 0) (ρ 4).toNat s.toNat : Int)) := by
      rw [iz_tn h0, oA_nat (S.at (i := 324) (t := 20) (n := 12) rfl (by decide) (by decide)) (show s.toNat < 12 by omega) (by decide), G.2.2.2 s.toNat (by omega)]
    by_cases z : hG ρ (ρ 0) (ρ 4).toNat s.toNat = k
    · have hb : ¬ jmB ρ s k = true := by unfold jmB; rw [decide_eq_true z]; exact fun q => absurd (show false = true from q) (by decide)
      obtain ⟨I', e2, F2⟩ := ih j (k + 1) (by omega) (by omega) I H G
      refine ⟨I', ?_, F2⟩
      rw [← e2, ← mkS_no hb]
      show fX11_joinable_b30 fu sh R (fX11_joinable_l30 fu sh R j) I _ _ _ _ _ = _
      simp only [fX11_joinable_b30, fX11_joinable_b65, fX11_joinable_b66, oR_at S.md M.2.1, bsome, x7, iz_lit, ek, iz_or0]
      rw [if_neg (by rw [iz_le (by omega) (by omega) (by omega) (by omega)]; omega), if_pos (by rw [z])]
    · obtain ⟨J, e1, F1⟩ := r_noJoin (fu := fu) S M H V hfu G.2.1 h0 h1 hk2
      obtain ⟨I', e2, F2⟩ := ih j (k + 1) (by omega) (by omega) J (H.fr F1 (fun _ q => q)) (G.fr F1 (fun q => q) (fun _ _ _ _ q => q))
      refine ⟨I', ?_, F1.tr F2⟩
      rw [← e2]
      show fX11_joinable_b30 fu sh R (fX11_joinable_l30 fu sh R j) I _ _ _ _ _ = _
      simp only [fX11_joinable_b30, fX11_joinable_b65, fX11_joinable_b66, oR_at S.md M.2.1, bsome, x7, iz_lit, ek, iz_or0]
      rw [if_neg (by rw [iz_le (by omega) (by omega) (by omega) (by omega)]; omega), if_neg (by rw [iz_eq (by omega) (by omega) (by omega) (by omega)]; omega), e1, oHs]
      have nr := nj_rng ρ s k
      by_cases e : njS ρ s k = 0
      · have hb : jmB ρ s k = true := by unfold jmB; rw [decide_eq_false z, decide_eq_true e]; rfl
        rw [if_pos (by rw [e]), iz_shlz (by omega), iz_orN, mkS_or hb]
      · have hb : ¬ jmB ρ s k = true := by unfold jmB; rw [decide_eq_false z, decide_eq_false e]; decide
        rw [if_neg (by rw [iz_eq (by omega) (by omega) (by decide) (by decide)]; exact e), ← mkS_no hb]
theorem rq_joinable (S : OKS sh AD) (V : VST σ) (hfu : 5000 ≤ fu) (hs : IR s) : RQ sh AD R σ (fun I => fX11_joinable fu sh I R (AD 316) (iz s)) (aJnb σ s) := by
  have n4 := V.n4
  have e22 : ∀ I, RIB I R AD σ → fX11_joinable fu sh I R (AD 316) (iz s) = oH (fX11_isWrong fu sh I R (AD 316) (bz (decide (0 ≤ s) && decide (s ≤ σ.2.1 4 - 1)))) fun v2 w2 => if v2 = 0 then ((oR sh R (AD 316) 9 0).bind fun v3 => (oA sh w2 v3 0).bind fun v4 => oH (fX11_setupsNow fu sh w2 R (AD 316) v4) fun v5 w5 => (fX11_joinable_l30 fu sh R fu) w5 (AD 316) (iz s) 0 v5 0) else some (0, w2) := by
    intro I H
    simp only [fX11_joinable, if_pos (isT_of S.md), r_isShot S H V hs, bsome]
  refine RA.of (fu := fu) (σ' := σ) S e22 (fun h => ?_) (fun h hg => ?_) (fun h hg J HJ e5 => ?_)
  · have : ¬ σ.1 = true := by rw [h]; decide
    unfold aJnb
    rw [if_neg this]
    exact ⟨rfl, rfl⟩
  · have : ¬ (0 ≤ s ∧ s ≤ σ.2.1 4 - 1) := fun k => by
      rw [bdec.mpr k] at hg
      exact absurd hg (by decide)
    unfold aJnb
    rw [if_pos h, if_neg this]
    exact ⟨rfl, rfl⟩
  · have z := bdec.mp hg
    unfold aJnb
    rw [if_pos h, if_pos z]
    have W := V.1 h
    have ms := mSet_le W
    have vl := W.lim
    obtain ⟨J1, e1, G1, H1, q5, F1⟩ := r_know1 (fu := fu) S HJ V hfu h vl.1.1 vl.1.2
    obtain ⟨I', e2, F2⟩ := r_jnb_loop (fu := fu) S HJ.1 W hfu z.1 (show s < σ.2.1 4 by omega) (mSet σ.2.1) fu 0 (by omega) (by omega) J1 H1.2.1 G1
    refine ⟨I', ?_, (F2 316 (by decide) (by decide) 5 (fun q => q)).trans (q5.trans e5), H1.fr (F2.no _), F1.tr (F2.no _)⟩
    simp only [oR_at S.md HJ.1.1.1, bsome, iz_lit, r_row S HJ.1 HJ.2.1 (by decide : (0 : Int) ≤ 0) (by decide : (0 : Int) < 119), e1, oHs]
    exact e2
theorem c_lr_loop (S : OKS sh AD) (L : PLR R AD) (T : TR R AD) (V : VB ρ) (hfu : 5000 ≤ fu) {m : Int} (m0 : 0 ≤ m) (m1 : m ≤ 12) : ∀ f j r : Nat, r + f = 100 → f < j → ∀ I : HI, BA sh I R AD 28 p ρ →
    ∃ I', fX10_leastReach_l13 fu sh R j I (AD 0) (iz m) (iz (r : Int)) = some (.inl (iz (lrF ρ m f r)), I') ∧ FR AD I I' (W2 14 15) := by
  have hn := V.n
  intro f
  induction f with
  | zero =>
    intro j r hr hj I B
    obtain ⟨j, rfl⟩ : ∃ t, j = t + 1 := ⟨j - 1, by omega⟩
    refine ⟨I, ?_, FR.rf _ _ _⟩
    show fX10_leastReach_b13 fu sh R (fX10_leastReach_l13 fu sh R j) I _ _ _ = _
    simp only [fX10_leastReach_b13, iz_lit, iz_neg]
    rw [if_pos (by rw [iz_lt (by decide) (by decide) (by omega) (by omega)]; omega)]
    rfl
  | succ f ih =>
    intro j r hr hj I B
    obtain ⟨j, rfl⟩ : ∃ t, j = t + 1 := ⟨j - 1, by omega⟩
    have ek : iz (r : Int) + iz 1 = iz ((r + 1 : Nat) : Int) := by rw [iz_add]; rfl
    obtain ⟨J, e1, F1⟩ := c_sizeWith (fu := fu) (r := (r : Int)) S T B V hfu (by decide) (by omega) (by omega)
    have ml := mG_le ρ (r : Int) (ρ 4).toNat
    unfold lrF
    by_cases z : (mG_ ρ (r : Int) (ρ 4).toNat : Int) ≤ m
    · rw [if_pos z]
      refine ⟨J, ?_, F1⟩
      show fX10_leastReach_b13 fu sh R (fX10_leastReach_l13 fu sh R j) I _ _ _ = _
      simp only [fX10_leastReach_b13, iz_lit, oR_at S.pl L.1.2.1, oR_at S.pl L.1.2.2.2.2.2, bsome, e1, oHs]
      rw [if_neg (by rw [iz_lt (by decide) (by decide) (by omega) (by omega)]; omega), if_neg (by rw [iz_lt (by omega) (by omega) (by omega) (by omega)]; omega)]
    · rw [if_neg z]
      obtain ⟨I', e2, F2⟩ := ih j (r + 1) (by omega) (by omega) J (B.fr V F1 (fun i k g0 g1 => by unfold W2; omega))
      refine ⟨I', ?_, F1.tr F2⟩
      rw [← e2]
      show fX10_leastReach_b13 fu sh R (fX10_leastReach_l13 fu sh R j) I _ _ _ = _
      simp only [fX10_leastReach_b13, iz_lit, oR_at S.pl L.1.2.1, oR_at S.pl L.1.2.2.2.2.2, bsome, e1, oHs, ek]
      rw [if_neg (by rw [iz_lt (by decide) (by decide) (by omega) (by omega)]; omega), if_pos (by rw [iz_lt (by omega) (by omega) (by omega) (by omega)]; omega)]
theorem cq_leastReach (S : OKS sh AD) (V : VST σ) (hfu : 5000 ≤ fu) (hx : IR x) : CQ sh AD R P σ (fun I => fX10_leastReach fu sh I R (AD 0) (iz x)) (aLrc σ x) := by
  intro I C K
  unfold aLrc
  by_cases h : σ.1 = true
  · rw [if_pos h]
    simp only [fX10_leastReach, if_pos (isT_of S.pl), c_needBoard S C, if_pos h, oT0l, iz_lit]
    rw [c_needRange hx.1 hx.2 (by decide) (by decide) (by decide) (by decide)]
    by_cases z : 0 ≤ x ∧ x ≤ 12
    · rw [if_pos z, oT0l, if_pos z]
      obtain ⟨I', e, F⟩ := c_lr_loop (fu := fu) (p := P 0) S C.1.1 C.1.2.1 (V.1 h) hfu z.1 z.2 100 fu 0 (by decide) (by omega) I (C.ba S V h)
      exact ⟨I', e, C.fr V (F.wd fun i k q => by unfold W2 at q; unfold SCR; omega), K.fr2 F (by unfold W2; omega) (by unfold W2; omega) (by unfold W2; omega) (fun _ _ _ _ => by unfold W2; omega) (fun _ => by unfold W2; omega), F.wd fun i k q => by unfold W2 at q; omega⟩
    · rw [if_neg z, oT0r, if_neg z]
      exact ⟨I, rfl, C, K, FR.rf _ _ _⟩
  · rw [if_neg h]
    simp only [fX10_leastReach, if_pos (isT_of S.pl), c_needBoard S C, if_neg h, oT0r]
    exact ⟨I, rfl, C, K, FR.rf _ _ _⟩
theorem r_lr_loop (S : OKS sh AD) (M : MR R AD) (V : VB ρ) (hfu : 5000 ≤ fu) {m : Int} (m0 : 0 ≤ m) (m1 : m ≤ 12) : ∀ f j r : Nat, r + f = 100 → f < j → ∀ I : HI, RW I AD ρ →
    ∃ I', fX11_leastReach_l20 fu sh R j I (AD 316) (iz m) (iz (r : Int)) = some (iz (lrF ρ m f r), I') ∧ FR AD I I' Wset := by
  have hn := V.n
  intro f
  induction f with
  | zero =>
    intro j r hr hj I H
    obtain ⟨j, rfl⟩ : ∃ t, j = t + 1 := ⟨j - 1, by omega⟩
    refine ⟨I, ?_, FR.rf _ _ _⟩
    show fX11_leastReach_b20 fu sh R (fX11_leastReach_l20 fu sh R j) I _ _ _ = _
    simp only [fX11_leastReach_b20, iz_lit, iz_neg]
    rw [if_pos (by rw [iz_lt (by decide) (by decide) (by omega) (by omega)]; omega)]
    rfl
  | succ f ih =>
    intro j r hr hj I H
    obtain ⟨j, rfl⟩ : ∃ t, j = t + 1 := ⟨j - 1, by omega⟩
    have ek : iz (r : Int) + iz 1 = iz ((r + 1 : Nat) : Int) := by rw [iz_add]; rfl
    obtain ⟨J, e1, -, F1⟩ := r_setups (fu := fu) (r := (r : Int)) S M H V hfu (by omega) (by omega)
    have ml := mG_le ρ (r : Int) (ρ 4).toNat
    unfold lrF
    by_cases z : (mG_ ρ (r : Int) (ρ 4).toNat : Int) ≤ m
    · rw [if_pos z]
      refine ⟨J, ?_, F1⟩
      show fX11_leastReach_b20 fu sh R (fX11_leastReach_l20 fu sh R j) I _ _ _ = _
      simp only [fX11_leastReach_b20, iz_lit, e1, oHs]
      rw [if_neg (by rw [iz_lt (by decide) (by decide) (by omega) (by omega)]; omega), if_neg (by rw [iz_lt (by omega) (by omega) (by omega) (by omega)]; omega)]
    · rw [if_neg z]
      obtain ⟨I', e2, F2⟩ := ih j (r + 1) (by omega) (by omega) J (H.fr F1 (fun _ => by unfold Wset; omega))
      refine ⟨I', ?_, F1.tr F2⟩
      rw [← e2]
      show fX11_leastReach_b20 fu sh R (fX11_leastReach_l20 fu sh R j) I _ _ _ = _
      simp only [fX11_leastReach_b20, iz_lit, e1, oHs, ek]
      rw [if_neg (by rw [iz_lt (by decide) (by decide) (by omega) (by omega)]; omega), if_pos (by rw [iz_lt (by omega) (by omega) (by omega) (by omega)]; omega)]
theorem rq_leastReach (S : OKS sh AD) (V : VST σ) (hfu : 5000 ≤ fu) (hx : IR x) : RQ sh AD R σ (fun I => fX11_leastReach fu sh I R (AD 316) (iz x)) (aLrc σ x) := by
  have e22 : ∀ I, RIB I R AD σ → fX11_leastReach fu sh I R (AD 316) (iz x) = oH (fX11_isWrong fu sh I R (AD 316) (bz (decide (0 ≤ x ∧ x ≤ 12)))) fun v2 w2 => if v2 = 0 then ((fX11_leastReach_l20 fu sh R fu) w2 (AD 316) (iz x) 0) else some (0, w2) := by
    intro I H
    simp only [fX11_leastReach, if_pos (isT_of S.md), jlit, r_isInC hx (by decide : (-1000 : Int) ≤ 0) (by decide) (by decide : (-1000 : Int) ≤ 12) (by decide), bsome]
  refine RA.of (fu := fu) (σ' := σ) S e22 (fun h => ?_) (fun h hg => ?_) (fun h hg J HJ e5 => ?_)
  · have : ¬ σ.1 = true := by rw [h]; decide
    unfold aLrc
    rw [if_neg this]
    exact ⟨rfl, rfl⟩
  · unfold aLrc
    rw [if_pos h, if_neg (of_decide_eq_false hg)]
    exact ⟨rfl, rfl⟩
  · have z := of_decide_eq_true hg
    unfold aLrc
    rw [if_pos h, if_pos z]
    obtain ⟨I', e2, F2⟩ := r_lr_loop (fu := fu) S HJ.1 (V.1 h) hfu z.1 z.2 100 fu 0 (by decide) (by omega) J HJ.2.1
    exact ⟨I', e2, (F2 316 (by decide) (by decide) 5 (by unfold Wset; omega)).trans e5, HJ.fr (F2.wd fun i k q => by unfold Wset at q; unfold RSC; omega), F2.wd fun i k q => by unfold Wset at q; omega⟩
end Q31
