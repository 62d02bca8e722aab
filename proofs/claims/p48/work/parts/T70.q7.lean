/-! STAGE 2: setups told, changes and the plain cost, on both sides -/
def setV (ρ : RHO) (k : Nat) (b : Int) : Int := if b = 0 then (fG ρ (ρ 0) (ρ 4).toNat k : Int) else if b = 1 then (qhG ρ (ρ 0) (ρ 4).toNat k (ρ 4).toNat : Int) else if b = 2 then (gaS ρ (ρ 0) k : Int) else if b = 3 then gnS ρ (ρ 0) k else gsS ρ (ρ 0) k
def aSetup (σ : STT) (k b : Int) : Int ⊕ Nat := if σ.1 = true then (if (0 ≤ k ∧ k ≤ (mSet σ.2.1 : Int) - 1) ∧ (0 ≤ b ∧ b ≤ 4) then .inl (setV σ.2.1 k.toNat b) else .inr 2) else .inr 1
def plD (ρ : RHO) : Nat → Int
  | 0 => 0
  | k + 1 => plD ρ k + prG ρ ((k : Int) - 1) k
section Q7
variable {fu : Nat} {sh : HS} {I : HI} {R : HR} {AD : Int → Nat} {P : Int → Int → Int} {σ : STT} {ρ : RHO}
theorem c_needSetup (S : OKS sh AD) (C : CIB I R AD P σ) (K : CKN I AD σ) (V : VST σ) (hfu : 5000 ≤ fu) (h : σ.1 = true) {k : Int} (hk : IR k) :
    ∃ I', fX10_needSetup fu sh I R (AD 0) (iz k) = some (if 0 ≤ k ∧ k ≤ (mSet σ.2.1 : Int) - 1 then .inl () else .inr (exN 2), I') ∧ CIB I' R AD P σ ∧ CKN I' AD σ ∧ T2 I' AD σ.2.1 (σ.2.1 0) (σ.2.1 4).toNat (σ.2.1 4).toNat ∧ FR AD I I' (fun i _ => i < 316) := by
  obtain ⟨I', e, C', K', t, f⟩ := c_know1 (fu := fu) S C K V hfu h
  have hm := mSet_le (V.1 h)
  refine ⟨I', ?_, C', K', t, f⟩
  obtain ⟨k1, k2⟩ := hk
  simp only [fX10_needSetup, if_pos (isT_of S.pl), e, bsome, oR_at S.pl C.1.1.1.2.2.2.2.2, oI_at (k6 S), t.1, iz_lit, iz_sub, show mG_ σ.2.1 (σ.2.1 0) (σ.2.1 4).toNat = mSet σ.2.1 from rfl]
  rw [c_needRange k1 k2 (by decide) (by decide) (by omega) (by omega)]
  by_cases z : 0 ≤ k ∧ k ≤ (mSet σ.2.1 : Int) - 1
  · rw [if_pos z, oT0l]
  · rw [if_neg z, oT0r]
theorem cq_setup (S : OKS sh AD) (V : VST σ) (hfu : 5000 ≤ fu) {k b : Int} (hk : IR k) (hb : IR b) : CQ sh AD R P σ (fun I => fX10_setup fu sh I R (AD 0) (iz k) (iz b)) (aSetup σ k b) := by
  intro I C K
  unfold aSetup
  by_cases h : σ.1 = true
  · obtain ⟨I', e, C', K', t, f⟩ := c_needSetup (fu := fu) S C K V hfu h hk
    have hm := mSet_le (V.1 h)
    obtain ⟨b1, b2⟩ := hb
    refine ⟨I', ?_, C', K', f⟩
    rw [if_pos h]
    simp only [fX10_setup, if_pos (isT_of S.pl), c_needBoard S C, if_pos h, oT0l, e, iz_lit]
    by_cases z : 0 ≤ k ∧ k ≤ (mSet σ.2.1 : Int) - 1
    · rw [if_pos z, oThl, c_needRange b1 b2 (by decide) (by decide) (by decide) (by decide)]
      by_cases y : 0 ≤ b ∧ b ≤ 4
      · rw [if_pos y, oT0l, if_pos (show (0 ≤ k ∧ k ≤ (mSet σ.2.1 : Int) - 1) ∧ (0 ≤ b ∧ b ≤ 4) from ⟨z, y⟩)]
        have hl : k.toNat < mG_ σ.2.1 (σ.2.1 0) (σ.2.1 4).toNat := (by omega : k.toNat < mSet σ.2.1)
        have kk := fun {i : Int} (h1 : 7 ≤ i) (h2 : i ≤ 15) => oA_iz (I := I') (k12 S h1 h2) z.1 (show k < ((12 : Nat) : Int) by omega) hk.2
        simp only [oR_at S.pl C.1.1.1.2.2.2.2.2, oR_at (k6 S) C.1.2.1.2.1, oR_at (k6 S) C.1.2.1.2.2.1, oR_at (k6 S) C.1.2.1.2.2.2.1, oR_at (k6 S) C.1.2.1.2.2.2.2.1, oR_at (k6 S) C.1.2.1.2.2.2.2.2.1, bsome, kk (i := 8) (by decide) (by decide), kk (i := 9) (by decide) (by decide), kk (i := 10) (by decide) (by decide), kk (i := 11) (by decide) (by decide), kk (i := 12) (by decide) (by decide), t.2.1.1 _ hl, t.2.2.1 _ hl, t.2.2.2.1 _ hl, t.2.2.2.2.1 _ hl, t.2.2.2.2.2.1 _ hl]
        have q : b = 0 ∨ b = 1 ∨ b = 2 ∨ b = 3 ∨ b = 4 := by omega
        rcases q with rfl | rfl | rfl | rfl | rfl <;> rfl
      · rw [if_neg y, oT0r, if_neg (fun k => y k.2)]
        rfl
    · rw [if_neg z, oThr, if_neg (fun k => z k.1)]
      rfl
  · refine ⟨I, ?_, C, K, FR.rf _ _ _⟩
    rw [if_neg h]
    simp only [fX10_setup, if_pos (isT_of S.pl), c_needBoard S C, if_neg h, oT0r]
    rfl
theorem cq_change (S : OKS sh AD) (V : VST σ) (hfu : 5000 ≤ fu) {i j : Int} (hi : IR i) (hj : IR j) : CQ sh AD R P σ (fun I => fX10_change fu sh I R (AD 0) (iz i) (iz j)) (if σ.1 = true then (if (-1 ≤ i ∧ i ≤ (mSet σ.2.1 : Int) - 1) ∧ (0 ≤ j ∧ j ≤ (mSet σ.2.1 : Int) - 1) then .inl (prG σ.2.1 i j.toNat) else .inr 2) else .inr 1) := by
  intro I C K
  by_cases h : σ.1 = true
  · have hm := mSet_le (V.1 h)
    have n1 : (iz i = iz (-1)) = (i = -1) := iz_eq hi.1 hi.2 (by decide) (by decide)
    have b14 : ∀ J : HI, CIB J R AD P σ → CKN J AD σ → -1 ≤ i → i ≤ (mSet σ.2.1 : Int) - 1 → ∃ I', fX10_change_b14 fu sh R J (AD 0) (iz i) (iz j) = some (cOut (if 0 ≤ j ∧ j ≤ (mSet σ.2.1 : Int) - 1 then .inl (prG σ.2.1 i j.toNat) else .inr 2), I') ∧ CIB I' R AD P σ ∧ CKN I' AD σ ∧ FR AD J I' (fun i _ => i < 316) := by
      intro J CJ KJ g1 g2
      obtain ⟨I', e, C', K', t, f⟩ := c_needSetup (fu := fu) S CJ KJ V hfu h hj
      refine ⟨I', ?_, C', K', f⟩
      simp only [fX10_change_b14, fX10_change_b44, e, iz_lit, iz_neg]
      by_cases z : 0 ≤ j ∧ j ≤ (mSet σ.2.1 : Int) - 1
      · rw [if_pos z, oThl, if_pos z]
        have jl : j.toNat < mG_ σ.2.1 (σ.2.1 0) (σ.2.1 4).toNat := (by omega : j.toNat < mSet σ.2.1)
        simp only [n1, oR_at S.pl C.1.1.1.2.2.2.2.2, bsome]
        unfold prG
        by_cases y : i = -1
        · rw [if_pos y, if_pos y, iz_tn (x := j) z.1, c_start S C.1.2.1 (V.1 h) t jl, bsome]
          rfl
        · rw [if_neg y, if_neg y, iz_tn (x := j) z.1, iz_tn (x := i) (by omega), c_change S C.1.2.1 (V.1 h) t (show i.toNat < mG_ σ.2.1 (σ.2.1 0) (σ.2.1 4).toNat from (by omega : i.toNat < mSet σ.2.1)) jl, bsome]
          rfl
      · rw [if_neg z, oThr, if_neg z]
        rfl
    rw [if_pos h]
    by_cases y : i = -1
    · obtain ⟨I', e, C', K', f⟩ := b14 I C K (by omega) (by omega)
      refine ⟨I', ?_, C', K', f⟩
      simp only [fX10_change, if_pos (isT_of S.pl), c_needBoard S C, if_pos h, oT0l, iz_lit, iz_neg, n1]
      rw [if_pos y, e]
      by_cases z : 0 ≤ j ∧ j ≤ (mSet σ.2.1 : Int) - 1
      · rw [if_pos z, if_pos ⟨⟨by omega, by omega⟩, z⟩]
      · rw [if_neg z, if_neg (fun k => z k.2)]
    · obtain ⟨J, e1, C1, K1, -, f1⟩ := c_needSetup (fu := fu) S C K V hfu h hi
      by_cases x : 0 ≤ i ∧ i ≤ (mSet σ.2.1 : Int) - 1
      · obtain ⟨I', e, C', K', f⟩ := b14 J C1 K1 (by omega) (by omega)
        refine ⟨I', ?_, C', K', f1.tr f⟩
        simp only [fX10_change, if_pos (isT_of S.pl), c_needBoard S C, if_pos h, oT0l, iz_lit, iz_neg, n1]
        rw [if_neg y, e1, if_pos x, oThl, e]
        by_cases z : 0 ≤ j ∧ j ≤ (mSet σ.2.1 : Int) - 1
        · rw [if_pos z, if_pos ⟨⟨by omega, by omega⟩, z⟩]
        · rw [if_neg z, if_neg (fun k => z k.2)]
      · refine ⟨J, ?_, C1, K1, f1⟩
        simp only [fX10_change, if_pos (isT_of S.pl), c_needBoard S C, if_pos h, oT0l, iz_lit, iz_neg, n1]
        rw [if_neg y, e1, if_neg x, oThr, if_neg (fun k => x ⟨by omega, k.1.2⟩)]
        rfl
  · refine ⟨I, ?_, C, K, FR.rf _ _ _⟩
    rw [if_neg h]
    simp only [fX10_change, if_pos (isT_of S.pl), c_needBoard S C, if_neg h, oT0r]
    rfl
theorem c_plain_loop (S : OKS sh AD) (C : CIB I R AD P σ) (V : VB σ.2.1) (t : T2 I AD σ.2.1 (σ.2.1 0) (σ.2.1 4).toNat (σ.2.1 4).toNat) : ∀ d j k : Nat, k + d = mSet σ.2.1 → d < j →
    fX10_plainCost_l12 fu sh R j I (AD 0) (iz (plD σ.2.1 k)) (iz (k : Int)) = some (.inl (iz (plD σ.2.1 (mSet σ.2.1))), I) := by
  have hm := mSet_le V
  intro d
  induction d with
  | zero =>
    intro j k hk hj
    obtain ⟨j, rfl⟩ : ∃ i, j = i + 1 := ⟨j - 1, by omega⟩
    have e : k = mSet σ.2.1 := by omega
    show fX10_plainCost_b12 fu sh R (fX10_plainCost_l12 fu sh R j) _ _ _ _ = _
    simp only [fX10_plainCost_b12, oR_at S.pl C.1.1.1.2.2.2.2.2, oI_at (k6 S), t.1, bsome, show mG_ σ.2.1 (σ.2.1 0) (σ.2.1 4).toNat = mSet σ.2.1 from rfl]
    rw [if_pos (by rw [iz_le (by omega) (by omega) (by omega) (by omega)]; omega), e]
  | succ d ih =>
    intro j k hk hj
    obtain ⟨j, rfl⟩ : ∃ i, j = i + 1 := ⟨j - 1, by omega⟩
    have q := ih j (k + 1) (by omega) (by omega)
    have ek : iz (k : Int) + iz 1 = iz ((k + 1 : Nat) : Int) := by rw [iz_add]; rfl
    have kl : k < mG_ σ.2.1 (σ.2.1 0) (σ.2.1 4).toNat := (by omega : k < mSet σ.2.1)
    have e : plD σ.2.1 (k + 1) = plD σ.2.1 k + prG σ.2.1 ((k : Int) - 1) k := rfl
    rw [e] at q
    show fX10_plainCost_b12 fu sh R (fX10_plainCost_l12 fu sh R j) _ _ _ _ = _
    simp only [fX10_plainCost_b12, fX10_plainCost_b50, oR_at S.pl C.1.1.1.2.2.2.2.2, oI_at (k6 S), t.1, bsome, show mG_ σ.2.1 (σ.2.1 0) (σ.2.1 4).toNat = mSet σ.2.1 from rfl, iz_lit, iz_sub, ek]
    rw [if_neg (by rw [iz_le (by omega) (by omega) (by omega) (by omega)]; omega)]
    simp (disch := omega) only [iz_eq]
    unfold prG at q
    by_cases z : (k : Int) = 0
    · rw [if_pos (show (k : Int) - 1 = -1 by omega)] at q
      rw [if_pos z, c_start S C.1.2.1 V t kl, bsome, iz_add]
      exact q
    · rw [if_neg (show ¬ (k : Int) - 1 = -1 by omega)] at q
      have hx : (k : Int) - 1 = (((k : Int) - 1).toNat : Int) := by omega
      rw [if_neg z, hx, c_change S C.1.2.1 V t (show ((k : Int) - 1).toNat < mG_ σ.2.1 (σ.2.1 0) (σ.2.1 4).toNat from (by omega : ((k : Int) - 1).toNat < mSet σ.2.1)) kl, bsome, iz_add]
      exact q
theorem cq_plainCost (S : OKS sh AD) (V : VST σ) (hfu : 5000 ≤ fu) : CQ sh AD R P σ (fun I => fX10_plainCost fu sh I R (AD 0)) (aBoard σ (plD σ.2.1 (mSet σ.2.1))) := by
  intro I C K
  unfold aBoard
  by_cases h : σ.1 = true
  · obtain ⟨I', e, C', K', t, f⟩ := c_know1 (fu := fu) S C K V hfu h
    have hm := mSet_le (V.1 h)
    refine ⟨I', ?_, C', K', f⟩
    have q := c_plain_loop (fu := fu) S C' (V.1 h) t (mSet σ.2.1) fu 0 (by omega) (by omega)
    rw [if_pos h]
    simp only [fX10_plainCost, if_pos (isT_of S.pl), c_needBoard S C, if_pos h, oT0l, e, bsome, iz_lit]
    exact q
  · refine ⟨I, ?_, C, K, FR.rf _ _ _⟩
    rw [if_neg h]
    simp only [fX10_plainCost, if_pos (isT_of S.pl), c_needBoard S C, if_neg h, oT0r]
    rfl
end Q7
