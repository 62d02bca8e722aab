/-! STAGE 2: join, joinable, on both sides -/
def jfS (ρ : RHO) (k : Nat) : Int := (fG ρ (ρ 0) (ρ 4).toNat k : Int)
def njS (ρ : RHO) (s : Int) (k : Nat) : Int := if scS ρ (jfS ρ k) = scS ρ s then (if sxS ρ s = cxS ρ (jfS ρ k) ∧ syS ρ s = cyS ρ (jfS ρ k) then -3 else if faultS (mvS ρ s (cxS ρ (jfS ρ k)) (cyS ρ (jfS ρ k))) ≤ faultS ρ then 0 else -4) else -2
def ajS (ρ : RHO) (s : Int) (k : Nat) : Int := if njS ρ s k = 0 then faultS (mvS ρ s (cxS ρ (jfS ρ k)) (cyS ρ (jfS ρ k))) else njS ρ s k
theorem nj_rng (ρ : RHO) (s : Int) (k : Nat) : njS ρ s k = 0 ∨ (-4 ≤ njS ρ s k ∧ njS ρ s k ≤ -2) := by
  unfold njS
  split
  · split
    · omega
    · split <;> omega
  · omega
theorem nj_ok {ρ : RHO} {s : Int} {k : Nat} (h : njS ρ s k = 0) : ¬ (sxS ρ s = cxS ρ (jfS ρ k) ∧ syS ρ s = cyS ρ (jfS ρ k)) := by
  unfold njS at h
  by_cases z : scS ρ (jfS ρ k) = scS ρ s
  · rw [if_pos z] at h
    intro w
    rw [if_pos w] at h
    exact absurd h (by decide)
  · rw [if_neg z] at h
    exact absurd h (by decide)
theorem jf_rng {ρ : RHO} {k : Nat} (hk : k < mSet ρ) : 0 ≤ jfS ρ k ∧ jfS ρ k < ρ 4 := by
  have fl := fG_lt ρ (ρ 0) (ρ 4).toNat k hk
  unfold jfS
  omega
def aJoin (σ : STT) (s k : Int) : Int ⊕ Nat := if σ.1 = true then (if (0 ≤ s ∧ s ≤ σ.2.1 4 - 1) ∧ (0 ≤ k ∧ k ≤ (mSet σ.2.1 : Int) - 1) then .inl (ajS σ.2.1 s k.toNat) else .inr 2) else .inr 1
def sJoin (σ : STT) (s k : Int) : STT := if σ.1 = true then (if (0 ≤ s ∧ s ≤ σ.2.1 4 - 1) ∧ (0 ≤ k ∧ k ≤ (mSet σ.2.1 : Int) - 1) then (if njS σ.2.1 s k.toNat = 0 then rowS (pushS σ) (mvS σ.2.1 s (cxS σ.2.1 (jfS σ.2.1 k.toNat)) (cyS σ.2.1 (jfS σ.2.1 k.toNat))) else σ) else σ) else σ
section Q30
variable {fu : Nat} {sh : HS} {I I' J : HI} {R : HR} {AD : Int → Nat} {P : Int → Int → Int} {σ σ' : STT} {ρ ρ' : RHO} {p : Int → Int} {s x y : Int} {a : Int ⊕ Nat}
theorem c_ansJoin (S : OKS sh AD) (L : PLR R AD) (T : TR R AD) (V : VB ρ) (hfu : 5000 ≤ fu) (B : BSH R AD 28 p) (BL : BVL I AD 28 p ρ) (t : AR I AD 8 (mSet ρ) (fun k => (fG ρ (ρ 0) (ρ 4).toNat k : Int))) (h0 : 0 ≤ s) (h1 : s < ρ 4) {k : Nat} (hk : k < mSet ρ) :
    ∃ I', fX10_answerOfJoin fu sh I R (AD 0) (AD (28 + 12 + p s)) (iz (k : Int)) = some (iz (ajS ρ s k), I') ∧ FR AD I I' NOW := by
  have hm := V.m
  have hn := V.n
  have ms := mSet_le V
  have ba : BA sh I R AD 28 p ρ := BA.of (b := 0) S (by decide) (by decide) B BL V
  obtain ⟨j0, j1⟩ := jf_rng hk
  obtain ⟨⟨q1, q2⟩, f0, -⟩ := ba.1.2.2.2 s h0 h1
  obtain ⟨⟨w1, w2⟩, g0, g1, g2, -⟩ := ba.1.2.2.2 (jfS ρ k) j0 j1
  obtain ⟨a1, -⟩ := V.shot h0 h1
  obtain ⟨b1, b2, b3, -⟩ := V.shot j0 j1
  have x8 : oA sh I (AD 8) (iz (k : Int)) = some (iz (jfS ρ k)) := by
    rw [oA_nat (k12 S (by decide) (by decide)) (show k < 12 by omega) (by decide), t k hk]
    rfl
  simp only [fX10_answerOfJoin, fX10_answerOfJoin_b91, if_pos (isT_of S.pl), oR_at S.pl L.1.2.1, ba.1.1.2.2, oR_at S.pl L.1.2.2.2.2.2, oR_at (k6 S) T.2.1, x8, w1, g0, f0, g1, g2, bsome, iz_lit, iz_neg]
  unfold ajS
  by_cases z : scS ρ (jfS ρ k) = scS ρ s
  · rw [if_pos (by rw [z])]
    have sa := c_subAt (fu := fu) (x := cxS ρ (jfS ρ k)) (y := cyS ρ (jfS ρ k)) S V ba h0 h1 (by omega) (by omega) (by omega) (by omega)
    rw [sa, bsome]
    simp only [bz_zero]
    by_cases v : sxS ρ s = cxS ρ (jfS ρ k) ∧ syS ρ s = cyS ρ (jfS ρ k)
    · have e : njS ρ s k = -3 := by unfold njS; rw [if_pos z, if_pos v]
      rw [if_neg (by rw [bdec.mpr v]; decide), e, if_neg (by decide)]
      exact ⟨I, rfl, FR.rf _ _ _⟩
    · obtain ⟨J, e1, F1⟩ := c_totWith (fu := fu) S V hfu B BL h0 h1 b2.1 b2.2 b3.1 b3.2 v
      have V2 := mv_V V h0 h1 b2.1 b2.2 b3.1 b3.2 v
      have ba2 : BA sh J R AD 28 p ρ := BA.of (b := 0) S (by decide) (by decide) B (BL.no V B F1) V
      have fr := fault_range V
      have fr2 := fault_range V2
      rw [if_pos (fls bdec v), e1, oHs, c_total ba2.1 V hfu, bsome]
      by_cases w : faultS (mvS ρ s (cxS ρ (jfS ρ k)) (cyS ρ (jfS ρ k))) ≤ faultS ρ
      · have e : njS ρ s k = 0 := by unfold njS; rw [if_pos z, if_neg v, if_pos w]
        rw [if_pos (by rw [iz_le (by omega) (by omega) (by omega) (by omega)]; exact w), if_pos e]
        exact ⟨J, rfl, F1⟩
      · have e : njS ρ s k = -4 := by unfold njS; rw [if_pos z, if_neg v, if_neg w]
        rw [if_neg (by rw [iz_le (by omega) (by omega) (by omega) (by omega)]; exact w), e, if_neg (by decide)]
        exact ⟨J, rfl, F1⟩
  · have e : njS ρ s k = -2 := by unfold njS; rw [if_neg z]
    rw [if_neg (by rw [iz_eq (by omega) (by omega) (by omega) (by omega)]; exact z), e, if_neg (by decide)]
    exact ⟨I, rfl, FR.rf _ _ _⟩
theorem r_noJoin (S : OKS sh AD) (M : MR R AD) (H : RW I AD ρ) (V : VB ρ) (hfu : 5000 ≤ fu) (t : AR I AD 325 (mSet ρ) (fun k => (fG ρ (ρ 0) (ρ 4).toNat k : Int))) (h0 : 0 ≤ s) (h1 : s < ρ 4) {k : Nat} (hk : k < mSet ρ) :
    ∃ I', fX11_noJoin fu sh I R (AD 316) (iz s) (iz (k : Int)) = some (iz (njS ρ s k), I') ∧ FR AD I I' NOW := by
  have hm := V.m
  have hn := V.n
  have ms := mSet_le V
  obtain ⟨j0, j1⟩ := jf_rng hk
  obtain ⟨a1, -⟩ := V.shot h0 h1
  obtain ⟨b1, b2, b3, -⟩ := V.shot j0 j1
  have x8 : oA sh I (AD 325) (iz (k : Int)) = some (iz (jfS ρ k)) := by
    rw [oA_nat (S.at (i := 325) (t := 20) (n := 12) rfl (by decide) (by decide)) (show k < 12 by omega) (by decide), t k hk]
    rfl
  obtain ⟨-, -, -, g3, -⟩ := r_g (fu := fu) S M H V h0 h1
  obtain ⟨-, k1, k2, -⟩ := r_g (fu := fu) S M H V j0 j1
  simp only [fX11_noJoin, fX11_noJoin_b82, if_pos (isT_of S.md), oR_at S.md M.2.2.1, x8, bsome, r_sceneOf S M H h0 (show s < 12 by omega), r_sceneOf S M H j0 (show jfS ρ k < 12 by omega), iz_lit, iz_neg, g3, k1, k2]
  unfold njS
  by_cases z : scS ρ (jfS ρ k) = scS ρ s
  · rw [if_pos (by rw [z]), if_pos z]
    have sa := r_subAt (fu := fu) (x := cxS ρ (jfS ρ k)) (y := cyS ρ (jfS ρ k)) S M H V h0 h1 (by omega) (by omega) (by omega) (by omega)
    rw [sa, bsome]
    simp only [bz_zero]
    by_cases v : sxS ρ s = cxS ρ (jfS ρ k) ∧ syS ρ s = cyS ρ (jfS ρ k)
    · rw [if_neg (by rw [bdec.mpr v]; decide), if_pos v]
      exact ⟨I, rfl, FR.rf _ _ _⟩
    · obtain ⟨J, e1, F1⟩ := r_faultsAt (fu := fu) S M H V hfu h0 h1 b2.1 b2.2 b3.1 b3.2 v
      have V2 := mv_V V h0 h1 b2.1 b2.2 b3.1 b3.2 v
      have HJ : RW J AD ρ := H.fr F1 (fun _ q => q)
      have fr := fault_range V
      have fr2 := fault_range V2
      rw [if_pos (fls bdec v), if_neg v, e1, oHs, r_faults S M HJ V hfu, bsome]
      by_cases w : faultS (mvS ρ s (cxS ρ (jfS ρ k)) (cyS ρ (jfS ρ k))) ≤ faultS ρ
      · rw [if_pos (by rw [iz_le (by omega) (by omega) (by omega) (by omega)]; exact w), if_pos w]
        exact ⟨J, rfl, F1⟩
      · rw [if_neg (by rw [iz_le (by omega) (by omega) (by omega) (by omega)]; exact w), if_neg w]
        exact ⟨J, rfl, F1⟩
  · rw [if_neg (by rw [iz_eq (by omega) (by omega) (by omega) (by omega)]; exact z), if_neg z]
    exact ⟨I, rfl, FR.rf _ _ _⟩
theorem ca_join (S : OKS sh AD) (V : VST σ) (hfu : 5000 ≤ fu) (hs : IR s) (hk : IR x) : CA AD R P σ (sJoin σ s x) (fun I => fX10_join fu sh I R (AD 0) (iz s) (iz x)) (aJoin σ s x) := by
  intro I C K
  unfold aJoin sJoin
  by_cases h : σ.1 = true
  · have n4 := V.n4
    have W := V.1 h
    have ms := mSet_le W
    rw [if_pos h, if_pos h]
    simp only [fX10_join, if_pos (isT_of S.pl), c_needBoard S C, if_pos h, oT0l, c_needShot S C V h hs, iz_lit]
    by_cases z : 0 ≤ s ∧ s ≤ σ.2.1 4 - 1
    · rw [if_pos z, oT0l]
      obtain ⟨I1, e1, C1, K1, t1, F1⟩ := c_needSetup (fu := fu) S C K V hfu h hk
      rw [e1]
      by_cases w : 0 ≤ x ∧ x ≤ (mSet σ.2.1 : Int) - 1
      · have zw : (0 ≤ s ∧ s ≤ σ.2.1 4 - 1) ∧ (0 ≤ x ∧ x ≤ (mSet σ.2.1 : Int) - 1) := ⟨z, w⟩
        rw [if_pos w, oThl, if_pos zw, if_pos zw]
        have z1 : s < σ.2.1 4 := by omega
        have hx : x.toNat < mSet σ.2.1 := by omega
        obtain ⟨j0, j1⟩ := jf_rng hx
        have Bs : BSH R AD 28 (P 0) := C.1.2.2.2.2.2.2.2 0 (by decide) (by decide)
        have B1 := C1.ba S V h
        have q := (B1.1.2.2.2 s z.1 z1).1.1
        have qf := (B1.1.2.2.2 (jfS σ.2.1 x.toNat) j0 j1).1.1
        obtain ⟨I2, e2, F2⟩ := c_ansJoin (fu := fu) S C.1.1 C.1.2.1 W hfu Bs (C1.2.2.2.2.2.1 h) t1.2.1.1 z.1 z1 hx
        have C2 := C1.fr V (F2.no _)
        have K2 := K1.fr (F2.no NOW) (fun _ _ _ q => q)
        have t2 : AR I2 AD 8 (mSet σ.2.1) (fun k => (fG σ.2.1 (σ.2.1 0) (σ.2.1 4).toNat k : Int)) := AR.fr t1.2.1.1 F2 (by decide) (by decide) (fun _ q => q)
        have x8 : oA sh I2 (AD 8) (iz (x.toNat : Int)) = some (iz (jfS σ.2.1 x.toNat)) := by
          rw [oA_nat (k12 S (by decide) (by decide)) (show x.toNat < 12 by omega) (by decide), t2 _ hx]
          rfl
        simp only [oR_at S.pl C.1.1.1.2.1, B1.1.1.2.2, q, bsome]
        rw [iz_tn w.1, e2, oHs]
        have nr := nj_rng σ.2.1 s x.toNat
        by_cases e : njS σ.2.1 s x.toNat = 0
        · obtain ⟨b1, b2, b3, -⟩ := W.shot j0 j1
          have v := nj_ok e
          have V2 := mv_V W z.1 z1 b2.1 b2.2 b3.1 b3.2 v
          have fr2 := fault_range V2
          have ea : ajS σ.2.1 s x.toNat = faultS (mvS σ.2.1 s (cxS σ.2.1 (jfS σ.2.1 x.toNat)) (cyS σ.2.1 (jfS σ.2.1 x.toNat))) := by unfold ajS; rw [if_pos e]
          obtain ⟨J, e0, CJ, ⟨z9, z11⟩, F3⟩ := c_begin (fu := fu) S C2 V hfu h
          obtain ⟨I', e4, -, L4, F4⟩ := c_camP (fu := fu) S W hfu Bs (CJ.2.2.2.2.2.1 h) z.1 z1 b2.1 b2.2 b3.1 b3.2 v
          have BJ : BA sh J R AD 28 (P 0) σ.2.1 := BA.of (b := 0) S (by decide) (by decide) Bs (CJ.2.2.2.2.2.1 h) W
          obtain ⟨-, -, g1, g2, -⟩ := BJ.1.2.2.2 (jfS σ.2.1 x.toNat) j0 j1
          obtain ⟨C5, K5⟩ := c_done V h CJ z9 z11 F4 L4
          rw [ea, if_neg (by rw [iz_lt (by omega) (by omega) (by decide) (by decide)]; omega), if_pos e]
          simp only [oR_at S.pl C.1.1.1.2.2.2.2.2, oR_at (k6 S) C.1.2.1.2.1, x8, bsome, qf, e0, g1, g2, e4, fX10_join_b78]
          exact ⟨I', rfl, C5, K5, ((F1.tr (F2.no _)).tr (F3.wd fun i k z => by omega)).tr (F4.wd fun i k z => by omega)⟩
        · have ea : ajS σ.2.1 s x.toNat = njS σ.2.1 s x.toNat := by unfold ajS; rw [if_neg e]
          rw [ea, if_pos (by rw [iz_lt (by omega) (by omega) (by decide) (by decide)]; omega), if_neg e]
          exact ⟨I2, rfl, C2, K2, F1.tr (F2.no _)⟩
      · rw [if_neg w, oThr, if_neg (fun k => w k.2), if_neg (fun k => w k.2)]
        exact ⟨I1, rfl, C1, K1, F1⟩
    · rw [if_neg z, oT0r, if_neg (fun k => z k.1), if_neg (fun k => z k.1)]
      exact ⟨I, rfl, C, K, FR.rf _ _ _⟩
  · rw [if_neg h, if_neg h]
    simp only [fX10_join, if_pos (isT_of S.pl), c_needBoard S C, if_neg h, oT0r]
    exact ⟨I, rfl, C, K, FR.rf _ _ _⟩
/-- a call of the reference from one heap: wrong calls first -/
theorem RA.at (S : OKS sh AD) (H : RIB I R AD σ) {B : HI → Option (Int32 × HI)} {g : Bool}
    (h1 : σ.1 = false → a = .inr 1 ∧ σ' = σ) (h2 : σ.1 = true → g = false → a = .inr 2 ∧ σ' = σ)
    (h0 : σ.1 = true → g = true → ∀ J, RIB J R AD σ → J (AD 316) 5 = iz 0 → FR AD I J (fun i k => i = 316 ∧ k = 5) → ∃ I', B J = some (rVal a, I') ∧ I' (AD 316) 5 = rThr a ∧ RIB I' R AD σ' ∧ FR AD J I' (fun i _ => 316 ≤ i)) :
    ∃ I', (oH (fX11_isWrong fu sh I R (AD 316) (bz g)) fun v2 w2 => if v2 = 0 then B w2 else some (0, w2)) = some (rVal a, I') ∧ I' (AD 316) 5 = rThr a ∧ RIB I' R AD σ' ∧ FR AD I I' (fun i _ => 316 ≤ i) := by
  have w := r_isWrong (fu := fu) (R := R) (σ := σ) S H.2.2.1.2.1 g
  by_cases h : σ.1 = true
  · cases hg : g
    · rw [hg, wr2 h rfl] at w
      obtain ⟨H1, e5, f1⟩ := r_out (σ := σ) S H 2
      obtain ⟨ea, es⟩ := h2 h hg
      rw [ea, es]
      refine ⟨_, ?_, e5, H1, f1⟩
      rw [w]
      simp only [oHs, iz_lit, bz_zero]
      rw [if_neg (by decide)]
      rfl
    · rw [hg, wr0 h rfl] at w
      obtain ⟨H1, f1, e5⟩ := H.w5 S (iz ((0 : Nat) : Int))
      obtain ⟨I', e1, e2, H2, f2⟩ := h0 h hg _ H1 e5 f1
      refine ⟨I', ?_, e2, H2, (f1.wd fun i k z => by omega).tr f2⟩
      rw [w]
      simp only [oHs, iz_lit, bz_zero]
      rw [if_pos (by decide)]
      exact e1
  · have hf : σ.1 = false := by simpa using h
    rw [wr1 hf] at w
    obtain ⟨H1, e5, f1⟩ := r_out (σ := σ) S H 1
    obtain ⟨ea, es⟩ := h1 hf
    rw [ea, es]
    refine ⟨_, ?_, e5, H1, f1⟩
    rw [w]
    simp only [oHs, iz_lit, bz_zero]
    rw [if_neg (by decide)]
    rfl
theorem ra_join (S : OKS sh AD) (V : VST σ) (hfu : 5000 ≤ fu) (hs : IR s) (hk : IR x) : RA AD R σ (sJoin σ s x) (fun I => fX11_join fu sh I R (AD 316) (iz s) (iz x)) (aJoin σ s x) := by
  intro I H
  have r0 := r_row S H.1 H.2.1 (by decide : (0 : Int) ≤ 0) (by decide : (0 : Int) < 119)
  have n4 := V.n4
  have hu : ¬ σ.1 = true → aJoin σ s x = .inr 1 ∧ sJoin σ s x = σ := fun k => by unfold aJoin sJoin; rw [if_neg k, if_neg k]; exact ⟨rfl, rfl⟩
  have hv : σ.1 = true → ¬ ((0 ≤ s ∧ s ≤ σ.2.1 4 - 1) ∧ (0 ≤ x ∧ x ≤ (mSet σ.2.1 : Int) - 1)) → aJoin σ s x = .inr 2 ∧ sJoin σ s x = σ := fun k w => by unfold aJoin sJoin; rw [if_pos k, if_pos k, if_neg w, if_neg w]; exact ⟨rfl, rfl⟩
  by_cases y : 0 ≤ s ∧ s ≤ σ.2.1 4 - 1
  · obtain ⟨m, J, e, hm, HJ, fJ, ok⟩ := r_knowS (fu := fu) S H V hfu
    have e36 : fX11_join fu sh I R (AD 316) (iz s) (iz x) = fX11_join_b36 fu sh R J (AD 316) (iz s) (iz x) (bz (decide (0 ≤ x ∧ x ≤ (m : Int) - 1))) (AD 316) := by
      simp only [fX11_join, fX11_join_b35, if_pos (isT_of S.md), r_isShot S H V hs, bsome, iz_lit, bz_zero, jlit]
      rw [if_neg (by rw [(bdec (p := 0 ≤ s) (q := s ≤ σ.2.1 4 - 1)).mpr y]; decide)]
      simp only [oR_at S.md H.1.1.1, bsome, r0, e, oHs, iz_sub]
      rw [toJ_iz (a := (m : Int) - 1) (by omega) (by omega), r_isInC hk (by decide) (by decide) (by omega) (by omega), bsome]
      simp only [bz_zero]
      cases decide (0 ≤ x ∧ x ≤ (m : Int) - 1)
      · rw [if_pos rfl]; rfl
      · rw [if_neg (by decide)]; rfl
    obtain ⟨I', g1, g2, g3, g4⟩ := RA.at (fu := fu) (a := aJoin σ s x) (σ' := sJoin σ s x) (g := decide (0 ≤ x ∧ x ≤ (m : Int) - 1)) (B := fun w2 => oH (fX11_noJoin fu sh w2 R (AD 316) (iz s) (iz x)) fun v3 w3 =>
        (oR sh R (AD 316) 9 20).bind fun v4 =>
        (oA sh w3 v4 (iz x)).bind fun v5 =>
        if 0 ≤ v3 then
          ((fX11_get fu sh w3 R (AD 316) v5 1).bind fun v6 =>
          (fX11_get fu sh w3 R (AD 316) v5 2).bind fun v7 =>
          oH (fX11_camera fu sh w3 R (AD 316) (iz s) v6 v7) fun v8 w8 =>
          (fX11_join_b86 fu sh R) w8 v8)
        else
          ((fX11_join_b86 fu sh R) w3 v3)) S HJ (fun h => hu (by rw [h]; decide)) (fun h hg => hv h (fun w => by
          have := of_decide_eq_false hg
          rw [(ok h).1] at this
          exact this w.2)) (fun h hg J2 H2 e5 f2 => by
          obtain ⟨rfl, G⟩ := ok h
          have w := of_decide_eq_true hg
          have W := V.1 h
          have z1 : s < σ.2.1 4 := by omega
          have hx : x.toNat < mSet σ.2.1 := by omega
          obtain ⟨j0, j1⟩ := jf_rng hx
          have G2 := G.fr f2 (by decide) (fun i k g1 g2 => by omega)
          obtain ⟨J3, e3, F3⟩ := r_noJoin (fu := fu) S H2.1 H2.2.1 W hfu G2.2.1 y.1 z1 hx
          have H3 := H2.fr (F3.no _)
          have q5 : J3 (AD 316) 5 = iz 0 := (F3 316 (by decide) (by decide) 5 (fun q => q)).trans e5
          have t3 : AR J3 AD 325 (mSet σ.2.1) (fun k => (fG σ.2.1 (σ.2.1 0) (σ.2.1 4).toNat k : Int)) := AR.fr G2.2.1 F3 (by decide) (by decide) (fun _ q => q)
          have x8 : oA sh J3 (AD 325) (iz (x.toNat : Int)) = some (iz (jfS σ.2.1 x.toNat)) := by
            rw [oA_nat (S.at (i := 325) (t := 20) (n := 12) rfl (by decide) (by decide)) (show x.toNat < 12 by omega) (by decide), t3 _ hx]
            rfl
          have zw : (0 ≤ s ∧ s ≤ σ.2.1 4 - 1) ∧ (0 ≤ x ∧ x ≤ (mSet σ.2.1 : Int) - 1) := ⟨y, w⟩
          unfold aJoin sJoin
          rw [if_pos h, if_pos h, if_pos zw, if_pos zw]
          have nr := nj_rng σ.2.1 s x.toNat
          obtain ⟨-, k1, k2, -⟩ := r_g (fu := fu) S H3.1 H3.2.1 W j0 j1
          simp only [iz_lit]
          rw [iz_tn w.1, e3, oHs]
          simp only [oR_at S.md H.1.2.2.1, bsome, x8]
          by_cases e : njS σ.2.1 s x.toNat = 0
          · obtain ⟨b1, b2, b3, -⟩ := W.shot j0 j1
            have v := nj_ok e
            have ea : ajS σ.2.1 s x.toNat = faultS (mvS σ.2.1 s (cxS σ.2.1 (jfS σ.2.1 x.toNat)) (cyS σ.2.1 (jfS σ.2.1 x.toNat))) := by unfold ajS; rw [if_pos e]
            obtain ⟨I', e7, e6, H7, f7⟩ := r_camera (fu := fu) S H3 V hfu h y.1 z1 b2.1 b2.2 b3.1 b3.2 v
            rw [if_pos (by rw [e]; decide), if_pos e, k1, bsome, k2, bsome, e7, oHs, ea]
            exact ⟨I', rfl, e6.trans q5, H7, (F3.no _).tr f7⟩
          · have ea : ajS σ.2.1 s x.toNat = njS σ.2.1 s x.toNat := by unfold ajS; rw [if_neg e]
            rw [if_neg (by rw [iz_le (by decide) (by decide) (by omega) (by omega)]; omega), if_neg e, ea]
            exact ⟨J3, rfl, q5, H3, F3.no _⟩)
    exact ⟨I', e36.trans g1, g2, g3, fJ.tr g4⟩
  · have e36 : fX11_join fu sh I R (AD 316) (iz s) (iz x) = oH (fX11_isWrong fu sh I R (AD 316) (bz false)) fun v2 w2 => if v2 = 0 then none else some (0, w2) := by
      have w := r_isWrong (fu := fu) (R := R) (σ := σ) S H.2.2.1.2.1 false
      simp only [fX11_join, fX11_join_b35, fX11_join_b36, if_pos (isT_of S.md), r_isShot S H V hs, bsome, iz_lit, bz_zero]
      rw [if_pos (fls bdec y), show (iz 0 : Int32) = bz false from rfl, w, oHs, oHs]
      have ne : ¬ (decide (0 < wrT σ.1 false) = false) := by unfold wrT; cases σ.1 <;> decide
      have ne2 : ¬ bz (decide (0 < wrT σ.1 false)) = bz false := by rw [show bz false = iz 0 from rfl, bz_zero]; exact ne
      rw [if_neg ne2, if_neg ne2]
    obtain ⟨I', g1, g2, g3, g4⟩ := RA.at (fu := fu) (a := aJoin σ s x) (σ' := sJoin σ s x) (g := false) (B := fun _ => none) S H (fun h => hu (by rw [h]; decide)) (fun h _ => hv h (fun w => y w.1)) (fun h hg => absurd hg (by decide))
    exact ⟨I', e36.trans g1, g2, g3, g4⟩
end Q30
