/-! STAGE 2: the class's setups and its best order, as the planner keeps them -/
/-- the references of the planner -/
def PLR (R : HR) (AD : Int → Nat) : Prop := (R (AD 0) 0 = some (AD 1) ∧ R (AD 0) 4 = some (AD 28) ∧ R (AD 0) 5 = some (AD 52) ∧ R (AD 0) 6 = some (AD 2) ∧ R (AD 0) 7 = some (AD 4) ∧ R (AD 0) 8 = some (AD 6)) ∧ R (AD 0) 10 = some (AD 16) ∧ R (AD 0) 12 = some (AD 21) ∧ R (AD 0) 13 = some (AD 26)
def ROR (R : HR) (AD : Int → Nat) (b : Int) : Prop := R (AD b) 1 = some (AD (b + 1)) ∧ R (AD b) 2 = some (AD (b + 2)) ∧ R (AD b) 3 = some (AD (b + 3)) ∧ R (AD b) 4 = some (AD (b + 4))
theorem rts16 {sh : HS} {R : HR} {AD : Int → Nat} (S : OKS sh AD) (h : ROR R AD 16) : RTS sh R AD 16 12 := ⟨⟨S.at rfl (by decide) (by decide), S.at rfl (by decide) (by decide), S.at rfl (by decide) (by decide), S.at rfl (by decide) (by decide), S.at rfl (by decide) (by decide)⟩, h, by decide, by decide, by decide⟩
theorem rts21 {sh : HS} {R : HR} {AD : Int → Nat} (S : OKS sh AD) (h : ROR R AD 21) : RTS sh R AD 21 6 := ⟨⟨S.at rfl (by decide) (by decide), S.at rfl (by decide) (by decide), S.at rfl (by decide) (by decide), S.at rfl (by decide) (by decide), S.at rfl (by decide) (by decide)⟩, h, by decide, by decide, by decide⟩
/-- prices laid as far as the stop t, of it the steps from below f -/
def PY (I : HI) (AD : Int → Nat) (b : Int) (Q n : Nat) (pr : Int → Nat → Int) (ts t f : Nat) : Prop := I (AD b) 0 = iz (Q : Int) ∧ n ≤ Q ∧ (∀ k, k < ts → I (AD (b + 1)) k = iz (pr (-1) k)) ∧ ∀ l k : Nat, l < n → k < n → (k < t ∨ (k = t ∧ l < f)) → I (AD (b + 2)) (l * Q + k) = iz (pr (l : Int) k)
theorem PY.px {I : HI} {AD : Int → Nat} {b : Int} {Q n : Nat} {pr : Int → Nat → Int} (Y : PY I AD b Q n pr n n 0) : PX I AD b Q n pr := ⟨Y.1, Y.2.1, Y.2.2.1, fun l k hl hk => Y.2.2.2 l k hl hk (Or.inl hk)⟩
theorem PY.nx {I : HI} {AD : Int → Nat} {b : Int} {Q n t : Nat} {pr : Int → Nat → Int} (Y : PY I AD b Q n pr (t + 1) t n) : PY I AD b Q n pr (t + 1) (t + 1) 0 := ⟨Y.1, Y.2.1, Y.2.2.1, fun l k hl hk h => Y.2.2.2 l k hl hk (by omega)⟩
theorem PY.start {sh : HS} {I : HI} {AD : Int → Nat} (S : OKS sh AD) {b : Int} (h0 : 0 ≤ b) (h1 : b + 4 < 331) {Q n t : Nat} {pr : Int → Nat → Int} (Y : PY I AD b Q n pr t t 0) : PY (u2 I (AD (b + 1)) t (iz (pr (-1) t))) AD b Q n pr (t + 1) t 0 := by
  refine ⟨?_, Y.2.1, fun k hk => ?_, fun l k hl hk h => ?_⟩
  · rw [u2_ne S (by omega) (by omega) (by omega) (by omega) (by omega)]; exact Y.1
  · rw [u2_ad S (by omega) (by omega) (by omega) (by omega)]
    by_cases z : k = t
    · rw [if_pos ⟨rfl, z⟩, z]
    · rw [if_neg (fun w => z w.2)]; exact Y.2.2.1 k (by omega)
  · rw [u2_ne S (by omega) (by omega) (by omega) (by omega) (by omega)]; exact Y.2.2.2 l k hl hk h
theorem PY.step {sh : HS} {I : HI} {AD : Int → Nat} (S : OKS sh AD) {b : Int} (h0 : 0 ≤ b) (h1 : b + 4 < 331) {Q n t f : Nat} {pr : Int → Nat → Int} (ht : t < n) (Y : PY I AD b Q n pr (t + 1) t f) : PY (u2 I (AD (b + 2)) (f * Q + t) (iz (pr (f : Int) t))) AD b Q n pr (t + 1) t (f + 1) := by
  have hq := Y.2.1
  refine ⟨?_, hq, fun k hk => ?_, fun l k hl hk h => ?_⟩
  · rw [u2_ne S (by omega) (by omega) (by omega) (by omega) (by omega)]; exact Y.1
  · rw [u2_ne S (by omega) (by omega) (by omega) (by omega) (by omega)]; exact Y.2.2.1 k hk
  · rw [u2_ad S (by omega) (by omega) (by omega) (by omega)]
    by_cases z : l * Q + k = f * Q + t
    · obtain ⟨z1, z2⟩ := ix_inj (show k < Q by omega) (show t < Q by omega) z
      rw [if_pos ⟨rfl, z⟩, z1, z2]
    · rw [if_neg (fun w => z w.2)]
      refine Y.2.2.2 l k hl hk ?_
      rcases h with h | ⟨h, h2⟩
      · exact Or.inl h
      · refine Or.inr ⟨h, ?_⟩
        have : ¬ l = f := fun w => z (by rw [h, w])
        omega
theorem PY.fr {AD : Int → Nat} {I I' : HI} {W : Int → Nat → Prop} {b : Int} {Q n ts t f : Nat} {pr : Int → Nat → Int} (X : PY I AD b Q n pr ts t f) (a : FR AD I I' W) (h0 : 0 ≤ b) (h1 : b + 4 < 331) (w0 : ¬ W b 0) (w1 : ∀ k, ¬ W (b + 1) k) (w2 : ∀ k, ¬ W (b + 2) k) : PY I' AD b Q n pr ts t f :=
  ⟨(a b (by omega) (by omega) 0 w0).trans X.1, X.2.1, fun k hk => (a (b + 1) (by omega) (by omega) k (w1 k)).trans (X.2.2.1 k hk), fun l k hl hk h => (a (b + 2) (by omega) (by omega) _ (w2 _)).trans (X.2.2.2 l k hl hk h)⟩
theorem T2.fr {AD : Int → Nat} {I I' : HI} {W : Int → Nat → Prop} {ρ : RHO} {r : Int} {n a : Nat} (T : T2 I AD ρ r n a) (F : FR AD I I' W) (w : ∀ i k, 6 ≤ i → i ≤ 13 → ¬ W i k) : T2 I' AD ρ r n a :=
  ⟨(F 6 (by decide) (by decide) 0 (w _ _ (by decide) (by decide))).trans T.1, ⟨T.2.1.1.fr F (by decide) (by decide) (fun _ => w _ _ (by decide) (by decide)), T.2.1.2.fr F (by decide) (by decide) (fun _ => w _ _ (by decide) (by decide))⟩, T.2.2.1.fr F (by decide) (by decide) (fun _ => w _ _ (by decide) (by decide)), T.2.2.2.1.fr F (by decide) (by decide) (fun _ => w _ _ (by decide) (by decide)), T.2.2.2.2.1.fr F (by decide) (by decide) (fun _ => w _ _ (by decide) (by decide)), T.2.2.2.2.2.1.fr F (by decide) (by decide) (fun _ => w _ _ (by decide) (by decide)), T.2.2.2.2.2.2.fr F (by decide) (by decide) (fun _ => w _ _ (by decide) (by decide))⟩
/-- the prices of the setups -/
def prG (ρ : RHO) (l : Int) (k : Nat) : Int := if l = -1 then stS ρ (ρ 0) k else chS ρ (ρ 0) l.toNat k
def mSet (ρ : RHO) : Nat := mG_ ρ (ρ 0) (ρ 4).toNat
theorem prG_B {ρ : RHO} (V : VB ρ) : PB (mSet ρ) (prG ρ) := by
  intro l k h0 h1 hk
  unfold prG
  by_cases z : l = -1
  · rw [if_pos z]
    have := st_range ρ (ρ 0) k
    omega
  · rw [if_neg z]
    have := ch_range V (r := ρ 0) (i := l.toNat) (j := k) (by unfold mSet at h1; omega) hk
    omega
theorem mSet_le {ρ : RHO} (V : VB ρ) : mSet ρ ≤ 12 := by
  have hn := V.n
  have := mG_le ρ (ρ 0) (ρ 4).toNat
  unfold mSet
  omega
def WQ (i : Int) (k : Nat) : Prop := WT i k ∨ (i = 0 ∧ k = 9)
def WO (i : Int) (k : Nat) : Prop := WQ i k ∨ (17 ≤ i ∧ i ≤ 20) ∨ (i = 16 ∧ (k = 5 ∨ k = 6)) ∨ (i = 0 ∧ k = 11)
section C10
variable {fu : Nat} {sh : HS} {I : HI} {R : HR} {AD : Int → Nat} {ρ : RHO} {p : Int → Int}
theorem c_settleSetups (S : OKS sh AD) (L : PLR R AD) (T : TR R AD) (B : BA sh I R AD 28 p ρ) (V : VB ρ) (hfu : 5000 ≤ fu) (h : I (AD 0) 9 = iz 0 ∨ (I (AD 0) 9 = iz 1 ∧ T2 I AD ρ (ρ 0) (ρ 4).toNat (ρ 4).toNat)) :
    ∃ I', fX10_settleSetups fu sh I R (AD 0) = some I' ∧ T2 I' AD ρ (ρ 0) (ρ 4).toNat (ρ 4).toNat ∧ I' (AD 0) 9 = iz 1 ∧ FR AD I I' WQ := by
  rcases h with h | ⟨h, t⟩
  · obtain ⟨J, e, t, f⟩ := c_fill (fu := fu) S T B V hfu (by decide)
    have f2 : FR AD I (u2 J (AD 0) 9 (iz 1)) WQ := FR.u2 S (by decide) (by decide) (Or.inr ⟨rfl, rfl⟩) (f.wd (fun i k z => Or.inl z))
    refine ⟨u2 J (AD 0) 9 (iz 1), ?_, t.fr (FR.u2 S (by decide) (by decide) (W := fun i _ => i = 0) (by decide) (FR.rf AD J _)) (fun i k g1 g2 => by omega), ?_, f2⟩
    · simp only [fX10_settleSetups, fX10_settleSetups_b23, if_pos (isT_of S.pl), oI_at S.pl, h, bsome, iz_lit, if_true, oR_at S.pl L.1.2.2.2.2.2, oR_at S.pl L.1.2.1, e, oP_at S.pl]
    · rw [u2_ad S (by decide) (by decide) (by decide) (by decide), if_pos ⟨rfl, rfl⟩]
  · refine ⟨I, ?_, t, h, FR.rf _ _ _⟩
    have n1 : ¬ iz 1 = iz 0 := by rw [iz_eq (by decide) (by decide) (by decide) (by decide)]; decide
    simp only [fX10_settleSetups, fX10_settleSetups_b23, if_pos (isT_of S.pl), oI_at S.pl, h, bsome, iz_lit, if_neg n1]
theorem c_ord_in (S : OKS sh AD) (L : PLR R AD) (T : TR R AD) (K : RTS sh R AD 16 12) (V : VB ρ) {k : Nat} (hk : k < mSet ρ) (k78 : HI → Nat → Int32 → Option HI) : ∀ d j l : Nat, l + d = mSet ρ → d < j → ∀ I : HI, T2 I AD ρ (ρ 0) (ρ 4).toNat (ρ 4).toNat → PY I AD 16 12 (mSet ρ) (prG ρ) (k + 1) k l →
    ∃ I', fX10_settleOrder_l43 fu sh R k78 j I (AD 0) (iz (k : Int)) (iz (l : Int)) = k78 I' (AD 0) (iz (k : Int)) ∧ PY I' AD 16 12 (mSet ρ) (prG ρ) (k + 1) k (mSet ρ) ∧ FR AD I I' (fun i _ => i = 18) := by
  have hm := mSet_le V
  intro d
  induction d with
  | zero =>
    intro j l hl hj I t Y
    obtain ⟨j, rfl⟩ : ∃ t, j = t + 1 := ⟨j - 1, by omega⟩
    have e : l = mSet ρ := by omega
    rw [e] at Y
    refine ⟨I, ?_, Y, FR.rf _ _ _⟩
    show fX10_settleOrder_b43 fu sh R (fX10_settleOrder_l43 fu sh R k78 j) k78 _ _ _ _ = _
    simp only [fX10_settleOrder_b43, oR_at S.pl L.1.2.2.2.2.2, oI_at (k6 S), t.1, bsome, show mG_ ρ (ρ 0) (ρ 4).toNat = mSet ρ from rfl]
    rw [if_pos (by rw [iz_le (by omega) (by omega) (by omega) (by omega)]; omega)]
  | succ d ih =>
    intro j l hl hj I t Y
    obtain ⟨j, rfl⟩ : ∃ t, j = t + 1 := ⟨j - 1, by omega⟩
    have ek : iz (l : Int) + iz 1 = iz ((l + 1 : Nat) : Int) := by rw [iz_add]; rfl
    have hz2 : ¬ iz (mSet ρ : Int) ≤ iz (l : Int) := by rw [iz_le (by omega) (by omega) (by omega) (by omega)]; omega
    have Y2 := PY.step S (by decide) (by decide) hk Y
    have fr : FR AD I (u2 I (AD (16 + 2)) (l * 12 + k) (iz (prG ρ (l : Int) k))) (fun i _ => i = 18) := FR.u2 S (by decide) (by decide) rfl (FR.rf AD I _)
    have t2 := t.fr fr (fun i k g1 g2 => by omega)
    obtain ⟨I', e, Y', fr'⟩ := ih j (l + 1) (by omega) (by omega) _ t2 Y2
    refine ⟨I', ?_, Y', fr.tr fr'⟩
    rw [← e]
    have ep : prG ρ (l : Int) k = chS ρ (ρ 0) l k := by unfold prG; rw [if_neg (by omega), Int.toNat_natCast]
    show fX10_settleOrder_b43 fu sh R (fX10_settleOrder_l43 fu sh R k78 j) k78 _ _ _ _ = _
    simp only [fX10_settleOrder_b43, oR_at S.pl L.1.2.2.2.2.2, oR_at S.pl L.2.1, oI_at (k6 S), t.1, bsome, show mG_ ρ (ρ 0) (ρ 4).toNat = mSet ρ from rfl, if_neg hz2, c_change S T V t (show l < mG_ ρ (ρ 0) (ρ 4).toNat from (by omega : l < mSet ρ)) (show k < mG_ ρ (ρ 0) (ρ 4).toNat from hk), c_setStep K Y.1 (show l < 12 by omega) (show k < 12 by omega), iz_lit, ek]
    rw [ep]
theorem c_ord_out (S : OKS sh AD) (L : PLR R AD) (T : TR R AD) (K : RTS sh R AD 16 12) (V : VB ρ) (hfu : 5000 ≤ fu) : ∀ d j k : Nat, k + d = mSet ρ → d < j → ∀ I : HI, T2 I AD ρ (ρ 0) (ρ 4).toNat (ρ 4).toNat → PY I AD 16 12 (mSet ρ) (prG ρ) k k 0 →
    ∃ I', fX10_settleOrder_l14 fu sh R j I (AD 0) (iz (k : Int)) = some I' ∧ I' (AD 0) 11 = iz 1 ∧ I' (AD 16) 5 = iz (bcD (mSet ρ) (prG ρ)) ∧ AR I' AD 20 (mSet ρ) (fun k => (orS (mSet ρ) (prG ρ) k : Int)) ∧ FR AD I I' (fun i k => (17 ≤ i ∧ i ≤ 20) ∨ (i = 16 ∧ (k = 5 ∨ k = 6)) ∨ (i = 0 ∧ k = 11)) := by
  have hm := mSet_le V
  intro d
  induction d with
  | zero =>
    intro j k hl hj I t Y
    obtain ⟨j, rfl⟩ : ∃ t, j = t + 1 := ⟨j - 1, by omega⟩
    have e : k = mSet ρ := by omega
    rw [e] at Y
    obtain ⟨I', e1, e2, e3, e4⟩ := c_find (fu := fu) S K (prG_B V) hfu Y.px
    have fr : FR AD I' (u2 I' (AD 0) 11 (iz 1)) (fun i _ => i = 0) := FR.u2 S (by decide) (by decide) rfl (FR.rf AD I' _)
    have e4' : FR AD I I' (fun i k => (17 ≤ i ∧ i ≤ 20) ∨ (i = 16 ∧ (k = 5 ∨ k = 6)) ∨ (i = 0 ∧ k = 11)) := e4.wd (fun i k z => by unfold WR at z; omega)
    refine ⟨u2 I' (AD 0) 11 (iz 1), ?_, ?_, (fr 16 (by decide) (by decide) 5 (by decide)).trans e2, AR.fr e3 fr (by decide) (by decide) (fun _ => by decide), FR.u2 S (by decide) (by decide) (Or.inr (Or.inr ⟨rfl, rfl⟩)) e4'⟩
    · show fX10_settleOrder_b14 fu sh R (fX10_settleOrder_l14 fu sh R j) _ _ _ = _
      simp only [fX10_settleOrder_b14, oR_at S.pl L.1.2.2.2.2.2, oR_at S.pl L.2.1, oI_at (k6 S), t.1, bsome, show mG_ ρ (ρ 0) (ρ 4).toNat = mSet ρ from rfl]
      rw [if_pos (by rw [iz_le (by omega) (by omega) (by omega) (by omega)]; omega), e1]
      simp only [bsome, oP_at S.pl, iz_lit]
    · rw [u2_ad S (by decide) (by decide) (by decide) (by decide), if_pos ⟨rfl, rfl⟩]
  | succ d ih =>
    intro j k hl hj I t Y
    obtain ⟨j, rfl⟩ : ∃ t, j = t + 1 := ⟨j - 1, by omega⟩
    have ek : iz (k : Int) + iz 1 = iz ((k + 1 : Nat) : Int) := by rw [iz_add]; rfl
    have hz2 : ¬ iz (mSet ρ : Int) ≤ iz (k : Int) := by rw [iz_le (by omega) (by omega) (by omega) (by omega)]; omega
    have Y2 := PY.start S (by decide) (by decide) Y
    have fr : FR AD I (u2 I (AD (16 + 1)) k (iz (prG ρ (-1) k))) (fun i k => (17 ≤ i ∧ i ≤ 20) ∨ (i = 16 ∧ (k = 5 ∨ k = 6)) ∨ (i = 0 ∧ k = 11)) := FR.u2 S (by decide) (by decide) (Or.inl ⟨by decide, by decide⟩) (FR.rf AD I _)
    have t2 := t.fr fr (fun i k g1 g2 => by omega)
    obtain ⟨J, e1, Y3, fr1⟩ := c_ord_in (fu := fu) S L T K V (show k < mSet ρ by omega) (fX10_settleOrder_b78 fu sh R (fX10_settleOrder_l14 fu sh R j)) (mSet ρ) fu 0 (by omega) (by omega) _ t2 Y2
    have t3 := t2.fr fr1 (fun i k g1 g2 => by omega)
    obtain ⟨I', e, h1, h2, h3, fr'⟩ := ih j (k + 1) (by omega) (by omega) J t3 Y3.nx
    refine ⟨I', ?_, h1, h2, h3, (fr.tr (fr1.wd (fun i k z => by omega))).tr fr'⟩
    rw [← e]
    have ep : prG ρ (-1) k = stS ρ (ρ 0) k := by unfold prG; rw [if_pos rfl]
    show fX10_settleOrder_b14 fu sh R (fX10_settleOrder_l14 fu sh R j) _ _ _ = _
    simp only [fX10_settleOrder_b14, oR_at S.pl L.1.2.2.2.2.2, oR_at S.pl L.2.1, oI_at (k6 S), t.1, bsome, show mG_ ρ (ρ 0) (ρ 4).toNat = mSet ρ from rfl, if_neg hz2, c_start S T V t (show k < mG_ ρ (ρ 0) (ρ 4).toNat from (by omega : k < mSet ρ)), c_setStart K (show k < 12 by omega), iz_lit]
    rw [← ep]
    refine e1.trans ?_
    simp only [fX10_settleOrder_b78, iz_lit, ek]
/-- what the class knows of the best order -/
def KO (I : HI) (AD : Int → Nat) (ρ : RHO) : Prop := I (AD 16) 5 = iz (bcD (mSet ρ) (prG ρ)) ∧ AR I AD 20 (mSet ρ) (fun k => (orS (mSet ρ) (prG ρ) k : Int))
theorem c_settleOrder (S : OKS sh AD) (L : PLR R AD) (T : TR R AD) (K : RTS sh R AD 16 12) (B : BA sh I R AD 28 p ρ) (V : VB ρ) (hfu : 5000 ≤ fu) (h0 : I (AD 16) 0 = iz 12) (h : I (AD 0) 9 = iz 0 ∨ (I (AD 0) 9 = iz 1 ∧ T2 I AD ρ (ρ 0) (ρ 4).toNat (ρ 4).toNat)) (h2 : I (AD 0) 11 = iz 0 ∨ (I (AD 0) 11 = iz 1 ∧ KO I AD ρ)) :
    ∃ I', fX10_settleOrder fu sh I R (AD 0) = some I' ∧ T2 I' AD ρ (ρ 0) (ρ 4).toNat (ρ 4).toNat ∧ I' (AD 0) 9 = iz 1 ∧ I' (AD 0) 11 = iz 1 ∧ KO I' AD ρ ∧ FR AD I I' WO := by
  obtain ⟨J, e1, t, e2, fr⟩ := c_settleSetups (fu := fu) S L T B V hfu h
  have q11 : J (AD 0) 11 = I (AD 0) 11 := fr 0 (by decide) (by decide) 11 (by unfold WQ WT; omega)
  have frO : FR AD I J WO := fr.wd (fun i k z => Or.inl z)
  rcases h2 with h2 | ⟨h2, ko⟩
  · have Y : PY J AD 16 12 (mSet ρ) (prG ρ) 0 0 0 := ⟨(fr 16 (by decide) (by decide) 0 (by unfold WQ WT; omega)).trans h0, mSet_le V, fun k hk => by omega, fun l k hl hk h => by omega⟩
    obtain ⟨I', e, g1, g2, g3, fr2⟩ := c_ord_out (fu := fu) S L T K V hfu (mSet ρ) fu 0 (by omega) (by have := mSet_le V; omega) J t Y
    refine ⟨I', ?_, t.fr fr2 (fun i k z1 z2 => by omega), (fr2 0 (by decide) (by decide) 9 (by decide)).trans e2, g1, ⟨g2, g3⟩, frO.tr (fr2.wd (fun i k z => Or.inr z))⟩
    simp only [fX10_settleOrder, if_pos (isT_of S.pl), e1, bsome, oI_at S.pl, q11, h2, iz_lit, if_true]
    exact e
  · refine ⟨J, ?_, t, e2, q11.trans h2, ⟨(fr 16 (by decide) (by decide) 5 (by unfold WQ WT; omega)).trans ko.1, AR.fr ko.2 fr (by decide) (by decide) (fun _ => by unfold WQ WT; omega)⟩, frO⟩
    have n1 : ¬ iz 1 = iz 0 := by rw [iz_eq (by decide) (by decide) (by decide) (by decide)]; decide
    simp only [fX10_settleOrder, if_pos (isT_of S.pl), e1, bsome, oI_at S.pl, q11, h2, iz_lit, if_neg n1]
end C10
