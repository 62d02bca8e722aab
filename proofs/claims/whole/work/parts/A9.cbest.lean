/-! STAGE 2: bestShot of the class -/
theorem fsN_ok (P : Nat → Bool) : ∀ d a, (∀ t, a ≤ t → t < fsN P a d → P t = false) ∧ (fsN P a d < a + d → P (fsN P a d) = true) := by
  intro d
  induction d with
  | zero =>
    intro a
    refine ⟨fun t h1 h2 => ?_, fun h => ?_⟩
    · have e : fsN P a 0 = a := rfl
      omega
    · have e : fsN P a 0 = a := rfl
      omega
  | succ d ih =>
    intro a
    obtain ⟨i1, i2⟩ := ih (a + 1)
    unfold fsN
    by_cases z : P a = true
    · rw [if_pos z]
      exact ⟨fun t h1 h2 => absurd h2 (by omega), fun _ => z⟩
    · rw [if_neg z]
      refine ⟨fun t h1 h2 => ?_, fun h => i2 (by omega)⟩
      by_cases w : t = a
      · rw [w]; simpa using z
      · exact i1 t (by omega) h2
/-- the first shot whose scene is not below c -/
def frS (ρ : RHO) (c : Int) : Nat := fsN (fun s => decide (c ≤ scS ρ s)) 0 (ρ 4).toNat
theorem fr_ok {ρ : RHO} (V : VB ρ) (c : Int) : frS ρ c ≤ (ρ 4).toNat ∧ ∀ s : Nat, (s : Int) < ρ 4 → (s < frS ρ c → scS ρ s < c) ∧ (frS ρ c ≤ s → c ≤ scS ρ s) := by
  have hn := V.n
  have r := fsN_range (fun s => decide (c ≤ scS ρ s)) (ρ 4).toNat 0
  obtain ⟨o1, o2⟩ := fsN_ok (fun s => decide (c ≤ scS ρ s)) (ρ 4).toNat 0
  refine ⟨by unfold frS; omega, fun s hs => ⟨fun h => ?_, fun h => ?_⟩⟩
  · have := of_decide_eq_false (o1 s (Nat.zero_le s) h)
    omega
  · have h2 := of_decide_eq_true (o2 (by show frS ρ c < _; omega))
    have h3 := V.2.2.2.2.2.2.2 (frS ρ c : Int) (s : Int) (by omega) (by omega) hs
    have h4 : c ≤ scS ρ (frS ρ c : Int) := h2
    omega
theorem ns_blk {ρ : RHO} (V : VB ρ) (c : Int) : frS ρ c ≤ frS ρ (c + 1) ∧ ∀ k : Nat, k ≤ (ρ 4).toNat → nsS ρ c k = (min k (frS ρ (c + 1)) : Nat) - (min k (frS ρ c) : Nat) := by
  have hn := V.n
  obtain ⟨f1, f2⟩ := fr_ok V c
  obtain ⟨e1, e2⟩ := fr_ok V (c + 1)
  have le : frS ρ c ≤ frS ρ (c + 1) := by
    refine Nat.le_of_not_lt fun z => ?_
    have h1 := (f2 (frS ρ (c + 1)) (by omega)).1 z
    have h2 := (e2 (frS ρ (c + 1)) (by omega)).2 (Nat.le_refl _)
    omega
  refine ⟨le, fun k => ?_⟩
  induction k with
  | zero => intro _; show (0 : Int) = _; omega
  | succ k ih =>
    intro hk
    have ih := ih (by omega)
    have a := f2 k (by omega)
    have b := e2 k (by omega)
    show nsS ρ c k + (if scS ρ k = c then 1 else 0) = _
    rw [ih]
    by_cases z1 : k < frS ρ c
    · have := a.1 z1
      rw [if_neg (by omega)]; omega
    · have := a.2 (by omega)
      by_cases z2 : k < frS ρ (c + 1)
      · have := b.1 z2
        rw [if_pos (by omega)]; omega
      · have := b.2 (by omega)
        rw [if_neg (by omega)]; omega
theorem blk {ρ : RHO} (V : VB ρ) (c : Int) : (frS ρ c : Int) + nsS ρ c (ρ 4).toNat = (frS ρ (c + 1) : Int) ∧ 0 ≤ nsS ρ c (ρ 4).toNat ∧ (frS ρ c : Int) + nsS ρ c (ρ 4).toNat ≤ ρ 4 ∧ (∀ s : Int, (frS ρ c : Int) ≤ s → s < (frS ρ c : Int) + nsS ρ c (ρ 4).toNat → scS ρ s = c) ∧ (∀ s : Int, 0 ≤ s → s < (frS ρ c : Int) → scS ρ s < c) ∧ ∀ s : Int, (frS ρ c : Int) + nsS ρ c (ρ 4).toNat ≤ s → s < ρ 4 → c < scS ρ s := by
  have hn := V.n
  obtain ⟨le, h⟩ := ns_blk V c
  have h1 := h (ρ 4).toNat (Nat.le_refl _)
  obtain ⟨f1, f2⟩ := fr_ok V c
  obtain ⟨e1, e2⟩ := fr_ok V (c + 1)
  have es : (frS ρ c : Int) + nsS ρ c (ρ 4).toNat = (frS ρ (c + 1) : Int) := by rw [h1]; omega
  refine ⟨es, by omega, by omega, fun s s0 s1 => ?_, fun s s0 s1 => ?_, fun s s0 s1 => ?_⟩
  · have a := (f2 s.toNat (by omega)).2 (by omega)
    have b := (e2 s.toNat (by omega)).1 (by omega)
    rw [Int.toNat_of_nonneg (by omega)] at a b
    omega
  · have a := (f2 s.toNat (by omega)).1 (by omega)
    rw [Int.toNat_of_nonneg s0] at a
    exact a
  · have a := (e2 s.toNat (by omega)).2 (by omega)
    rw [Int.toNat_of_nonneg (by omega)] at a
    omega
/-- the price of a shot behind another one, of those from f on -/
def prB (ρ : RHO) (f : Nat) (l : Int) (k : Nat) : Int := if l = -1 then 0 else kbP ρ ((f : Int) + l) ((f : Int) + k)
theorem prB_B (ρ : RHO) (f n : Nat) : PB n (prB ρ f) := by
  intro l k _ _ _
  unfold prB
  split
  · omega
  · have := kbP_range ρ ((f : Int) + l) ((f : Int) + k)
    omega
def aBst (σ : STT) (c p : Int) : Int ⊕ Nat := if σ.1 = true then (if (0 ≤ c ∧ c ≤ σ.2.1 3 - 1) ∧ 0 ≤ p then (if 6 < nsS σ.2.1 c (σ.2.1 4).toNat then .inl (-2) else if p < nsS σ.2.1 c (σ.2.1 4).toNat then .inl ((frS σ.2.1 c : Int) + (orS (nsS σ.2.1 c (σ.2.1 4).toNat).toNat (prB σ.2.1 (frS σ.2.1 c)) p.toNat : Int)) else .inr 3) else .inr 2) else .inr 1
section Q41
variable {fu : Nat} {sh : HS} {I I' J : HI} {R : HR} {AD : Int → Nat} {P : Int → Int → Int} {σ : STT} {ρ : RHO} {p : Int → Int} {c : Int} {f m : Nat}
theorem c_first (B : BA sh I R AD 28 p ρ) (V : VB ρ) (hfu : 5000 ≤ fu) (h0 : 0 ≤ c) (h1 : c < 3) : fX0_firstShotOfScene fu sh I R (AD 28) (iz c) = some (iz (frS ρ c : Int)) := by
  have hn := V.n
  have hm := V.m
  have lp : ∀ d j s : Nat, s + d = (ρ 4).toNat → d < j → fX0_firstShotOfScene_l2 fu sh I R (fX0_firstShotOfScene_b29 fu sh I R) j (AD 28) (iz c) (iz (s : Int)) = some (iz (fsN (fun s => decide (c ≤ scS ρ s)) s d : Int)) := by
    intro d
    induction d with
    | zero =>
      intro j s hs hj
      obtain ⟨j, rfl⟩ : ∃ t, j = t + 1 := ⟨j - 1, by omega⟩
      show fX0_firstShotOfScene_b2 fu sh I R (fX0_firstShotOfScene_l2 fu sh I R (fX0_firstShotOfScene_b29 fu sh I R) j) (fX0_firstShotOfScene_b29 fu sh I R) _ _ _ = _
      simp only [fX0_firstShotOfScene_b2, fX0_firstShotOfScene_b29, B.1.2.1.2.2.2.2, bsome]
      rw [if_pos (by rw [iz_le (by omega) (by omega) (by omega) (by omega)]; omega)]
      rfl
    | succ d ih =>
      intro j s hs hj
      obtain ⟨j, rfl⟩ : ∃ t, j = t + 1 := ⟨j - 1, by omega⟩
      have ek : iz (s : Int) + iz 1 = iz ((s + 1 : Nat) : Int) := by rw [iz_add]; rfl
      obtain ⟨⟨q1, q2⟩, f0, -⟩ := B.1.2.2.2 (s : Int) (by omega) (by omega)
      obtain ⟨v1, -⟩ := V.shot (s := (s : Int)) (by omega) (by omega)
      show fX0_firstShotOfScene_b2 fu sh I R (fX0_firstShotOfScene_l2 fu sh I R (fX0_firstShotOfScene_b29 fu sh I R) j) (fX0_firstShotOfScene_b29 fu sh I R) _ _ _ = _
      simp only [fX0_firstShotOfScene_b2, fX0_firstShotOfScene_b29, B.1.2.1.2.2.2.2, B.1.1.2.2, q1, f0, bsome, iz_lit, ek, ih j (s + 1) (by omega) (by omega)]
      rw [if_neg (by rw [iz_le (by omega) (by omega) (by omega) (by omega)]; omega)]
      simp (disch := omega) only [iz_le]
      have un : fsN (fun s => decide (c ≤ scS ρ s)) s (d + 1) = if decide (c ≤ scS ρ (s : Int)) = true then s else fsN (fun s => decide (c ≤ scS ρ s)) (s + 1) d := rfl
      rw [un]
      by_cases z : c ≤ scS ρ s
      · rw [if_pos z, decide_eq_true z, if_pos rfl]
      · rw [if_neg z, decide_eq_false z, if_neg (by decide)]
  simp only [fX0_firstShotOfScene, if_pos B.1.1.1, iz_lit]
  exact lp (ρ 4).toNat fu 0 (by omega) (by omega)
theorem c_fso_in (S : OKS sh AD) (L : PLR R AD) (K : RTS sh R AD 21 6) (V : VB ρ) (hfm : (f : Int) + m ≤ ρ 4) (hm6 : m ≤ 6) (hsc : ∀ s : Int, (f : Int) ≤ s → s < (f : Int) + m → scS ρ s = c) {k : Nat} (hk : k < m) (k82 : HI → Nat → Int32 → Int32 → Int32 → Option HI) : ∀ d j l : Nat, l + d = m → d < j → ∀ I : HI, BA sh I R AD 28 p ρ → PY I AD 21 6 m (prB ρ f) (k + 1) k l →
    ∃ I', fX10_findShotOrder_l32 fu sh R k82 j I (AD 0) (iz (f : Int)) (iz (m : Int)) (iz (k : Int)) (AD (28 + 12 + p ((f : Int) + k))) (iz (l : Int)) = k82 I' (AD 0) (iz (f : Int)) (iz (m : Int)) (iz (k : Int)) ∧ PY I' AD 21 6 m (prB ρ f) (k + 1) k m ∧ FR AD I I' (fun i _ => i = 23) := by
  have hn := V.n
  intro d
  induction d with
  | zero =>
    intro j l hl hj I B Y
    obtain ⟨j, rfl⟩ : ∃ t, j = t + 1 := ⟨j - 1, by omega⟩
    have e : l = m := by omega
    rw [e] at Y
    refine ⟨I, ?_, Y, FR.rf _ _ _⟩
    show fX10_findShotOrder_b32 fu sh R (fX10_findShotOrder_l32 fu sh R k82 j) k82 _ _ _ _ _ _ _ = _
    simp only [fX10_findShotOrder_b32]
    rw [if_pos (by rw [iz_le (by omega) (by omega) (by omega) (by omega)]; omega)]
  | succ d ih =>
    intro j l hl hj I B Y
    obtain ⟨j, rfl⟩ : ∃ t, j = t + 1 := ⟨j - 1, by omega⟩
    have ek : iz (l : Int) + iz 1 = iz ((l + 1 : Nat) : Int) := by rw [iz_add]; rfl
    have Y2 := PY.step S (by decide) (by decide) hk Y
    have fr : FR AD I (u2 I (AD (21 + 2)) (l * 6 + k) (iz (prB ρ f (l : Int) k))) (fun i _ => i = 23) := FR.u2 S (by decide) (by decide) rfl (FR.rf AD I _)
    obtain ⟨I', e, Y', fr'⟩ := ih j (l + 1) (by omega) (by omega) _ (B.fr V fr (fun i k g0 g1 => by omega)) Y2
    refine ⟨I', ?_, Y', fr.tr fr'⟩
    rw [← e]
    have ql := (B.1.2.2.2 ((f : Int) + l) (by omega) (by omega)).1.1
    have kb := c_btw (fu := fu) B.1 V (s := (f : Int) + k) (t := (f : Int) + l) (by omega) (by omega) (by omega) (by omega) (by rw [hsc _ (by omega) (by omega), hsc _ (by omega) (by omega)])
    have kb2 : fX2_kindsBetween fu sh I R (AD 28) (AD (28 + 12 + p ((f : Int) + l))) (AD (28 + 12 + p ((f : Int) + k))) = some (iz (kwP ρ ((f : Int) + l) ((f : Int) + k))) := kb
    have kr := kwP_range ρ ((f : Int) + l) ((f : Int) + k)
    have bc : fJ6_bitCount_0f7a4 fu sh I R (iz (kwP ρ ((f : Int) + l) ((f : Int) + k))) = some (iz (prB ρ f (l : Int) k)) := by
      rw [iz_tn kr.1, c_bc (by omega), kwP_size]
      unfold prB
      rw [if_neg (by omega)]
    show fX10_findShotOrder_b32 fu sh R (fX10_findShotOrder_l32 fu sh R k82 j) k82 _ _ _ _ _ _ _ = _
    simp only [fX10_findShotOrder_b32, oR_at S.pl L.1.2.1, oR_at S.pl L.2.2.1, B.1.1.2.2, iz_add (f : Int), ql, kb2, bsome, bc, c_setStep K Y.1 (show l < 6 by omega) (show k < 6 by omega), iz_lit, ek]
    rw [if_neg (by rw [iz_le (by omega) (by omega) (by omega) (by omega)]; omega)]
theorem c_fso_out (S : OKS sh AD) (L : PLR R AD) (K : RTS sh R AD 21 6) (V : VB ρ) (hfu : 5000 ≤ fu) (hfm : (f : Int) + m ≤ ρ 4) (hm6 : m ≤ 6) (hsc : ∀ s : Int, (f : Int) ≤ s → s < (f : Int) + m → scS ρ s = c) : ∀ d j k : Nat, k + d = m → d < j → ∀ I : HI, BA sh I R AD 28 p ρ → PY I AD 21 6 m (prB ρ f) k k 0 →
    ∃ I', fX10_findShotOrder_l2 fu sh R j I (AD 0) (iz (f : Int)) (iz (m : Int)) (iz (k : Int)) = some I' ∧ AR I' AD 25 m (fun k => (orS m (prB ρ f) k : Int)) ∧ FR AD I I' (fun i k => (22 ≤ i ∧ i ≤ 25) ∨ (i = 21 ∧ ¬ k = 0)) := by
  have hn := V.n
  intro d
  induction d with
  | zero =>
    intro j k hl hj I B Y
    obtain ⟨j, rfl⟩ : ∃ t, j = t + 1 := ⟨j - 1, by omega⟩
    have e : k = m := by omega
    rw [e] at Y
    obtain ⟨I', e1, e2, e3, e4⟩ := c_find (fu := fu) S K (prB_B ρ f m) hfu Y.px
    refine ⟨I', ?_, e3, e4.wd (fun i k z => by unfold WR at z; omega)⟩
    show fX10_findShotOrder_b2 fu sh R (fX10_findShotOrder_l2 fu sh R j) _ _ _ _ _ = _
    simp only [fX10_findShotOrder_b2, oR_at S.pl L.2.2.1, bsome]
    rw [if_pos (by rw [iz_le (by omega) (by omega) (by omega) (by omega)]; omega), e1, bsome]
  | succ d ih =>
    intro j k hl hj I B Y
    obtain ⟨j, rfl⟩ : ∃ t, j = t + 1 := ⟨j - 1, by omega⟩
    have ek : iz (k : Int) + iz 1 = iz ((k + 1 : Nat) : Int) := by rw [iz_add]; rfl
    have Y2 := PY.start S (by decide) (by decide) Y
    have fr : FR AD I (u2 I (AD (21 + 1)) k (iz (prB ρ f (-1) k))) (fun i k => (22 ≤ i ∧ i ≤ 25) ∨ (i = 21 ∧ ¬ k = 0)) := FR.u2 S (by decide) (by decide) (Or.inl ⟨by decide, by decide⟩) (FR.rf AD I _)
    have B2 := B.fr V fr (fun i k g0 g1 => by omega)
    obtain ⟨J, e1, Y3, fr1⟩ := c_fso_in (fu := fu) S L K V hfm hm6 hsc (show k < m by omega) (fX10_findShotOrder_b82 fu sh R (fX10_findShotOrder_l2 fu sh R j)) m fu 0 (by omega) (by omega) _ B2 Y2
    have B3 := B2.fr V fr1 (fun i k g0 g1 => by omega)
    obtain ⟨I', e, h3, fr'⟩ := ih j (k + 1) (by omega) (by omega) J B3 Y3.nx
    refine ⟨I', ?_, h3, (fr.tr (fr1.wd (fun i k z => by omega))).tr fr'⟩
    rw [← e]
    have ep : prB ρ f (-1) k = 0 := by unfold prB; rw [if_pos rfl]
    have qk := (B.1.2.2.2 ((f : Int) + k) (by omega) (by omega)).1.1
    show fX10_findShotOrder_b2 fu sh R (fX10_findShotOrder_l2 fu sh R j) _ _ _ _ _ = _
    simp only [fX10_findShotOrder_b2, oR_at S.pl L.1.2.1, oR_at S.pl L.2.2.1, B.1.1.2.2, bsome, c_setStart K (show k < 6 by omega), iz_add (f : Int), qk, iz_lit]
    rw [if_neg (by rw [iz_le (by omega) (by omega) (by omega) (by omega)]; omega)]
    rw [ep] at e1
    refine e1.trans ?_
    simp only [fX10_findShotOrder_b82, iz_lit, ek]
theorem cq_bestShot (S : OKS sh AD) (V : VST σ) (hfu : 5000 ≤ fu) {c q : Int} (hc : IR c) (hq : IR q) : CQ sh AD R P σ (fun I => fX10_bestShot fu sh I R (AD 0) (iz c) (iz q)) (aBst σ c q) := by
  intro I C K
  unfold aBst
  by_cases h : σ.1 = true
  · have n3 := V.n3
    have W := V.1 h
    have hn := W.n
    have B := C.ba S V h
    rw [if_pos h]
    simp only [fX10_bestShot, if_pos (isT_of S.pl), c_needBoard S C, if_pos h, oT0l, c_needScene S C V h hc, iz_lit, iz_neg]
    by_cases z : 0 ≤ c ∧ c ≤ σ.2.1 3 - 1
    · rw [if_pos z, oT0l]
      by_cases y : 0 ≤ q
      · have b := blk W c
        have nr := ns_range σ.2.1 c (σ.2.1 4).toNat
        rw [if_pos (by rw [iz_le (by decide) (by decide) hq.1 hq.2]; exact y), if_pos (show (0 ≤ c ∧ c ≤ σ.2.1 3 - 1) ∧ 0 ≤ q from ⟨z, y⟩)]
        simp only [oR_at S.pl C.1.1.1.2.1, bsome, c_ns B W hfu z.1 (show c < 3 by omega), c_first B W hfu z.1 (show c < 3 by omega)]
        by_cases x : 6 < nsS σ.2.1 c (σ.2.1 4).toNat
        · rw [if_neg (by rw [iz_le (by omega) (by omega) (by decide) (by decide)]; omega), if_pos x]
          exact ⟨I, rfl, C, K, FR.rf _ _ _⟩
        · rw [if_pos (by rw [iz_le (by omega) (by omega) (by decide) (by decide)]; omega), if_neg x]
          by_cases w : q < nsS σ.2.1 c (σ.2.1 4).toNat
          · rw [if_pos (by rw [iz_lt hq.1 hq.2 (by omega) (by omega)]; exact w), if_pos w]
            obtain ⟨m, hm⟩ : ∃ m : Nat, m = (nsS σ.2.1 c (σ.2.1 4).toNat).toNat := ⟨_, rfl⟩
            have hmi : nsS σ.2.1 c (σ.2.1 4).toNat = (m : Int) := by omega
            rw [hmi] at b w x ⊢
            rw [Int.toNat_natCast]
            have k21 := rts21 S C.1.2.2.2.1
            have i21 : I (AD 21) 0 = iz ((6 : Nat) : Int) := C.2.1.2
            have Y : PY I AD 21 6 m (prB σ.2.1 (frS σ.2.1 c)) 0 0 0 := ⟨i21, by omega, fun k hk => by omega, fun l k hl hk h => by omega⟩
            obtain ⟨I', e, A, F⟩ := c_fso_out (fu := fu) S C.1.1 k21 W hfu b.2.2.1 (by omega) b.2.2.2.1 m fu 0 (by omega) (by omega) I B Y
            have e2 : fX10_findShotOrder fu sh I R (AD 0) (iz (frS σ.2.1 c : Int)) (iz (m : Int)) = some I' := by
              simp only [fX10_findShotOrder, if_pos (isT_of S.pl), iz_lit]
              exact e
            have a25 := A q.toNat (by omega)
            refine ⟨I', ?_, C.fr V (F.wd fun i k z => by unfold SCR; omega), K.fr2 F (by omega) (by omega) (by omega) (fun _ _ _ _ => by omega) (fun _ => by omega), F.wd fun i k z => by omega⟩
            rw [e2]
            simp only [bsome, oR_at S.pl C.1.1.2.2.1, oR_at k21.1.1 k21.2.1.2.2.2, show AD (21 + 4) = AD 25 from rfl]
            rw [oA_iz (S.at (i := 25) (t := 20) (n := 6) rfl (by decide) (by decide)) y (by omega) hq.2, bsome, a25, iz_add]
            rfl
          · rw [if_neg (by rw [iz_lt hq.1 hq.2 (by omega) (by omega)]; exact w), if_neg w]
            exact ⟨I, rfl, C, K, FR.rf _ _ _⟩
      · rw [if_neg (by rw [iz_le (by decide) (by decide) hq.1 hq.2]; exact y), if_neg (fun k => y k.2)]
        exact ⟨I, rfl, C, K, FR.rf _ _ _⟩
    · rw [if_neg z, oT0r, if_neg (fun k => z k.1)]
      exact ⟨I, rfl, C, K, FR.rf _ _ _⟩
  · rw [if_neg h]
    simp only [fX10_bestShot, if_pos (isT_of S.pl), c_needBoard S C, if_neg h, oT0r]
    exact ⟨I, rfl, C, K, FR.rf _ _ _⟩
end Q41
