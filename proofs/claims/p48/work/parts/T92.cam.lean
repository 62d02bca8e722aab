/-! STAGE 2: a camera moved as an action: moveCamera, flip, on both sides -/
def sCam (σ : STT) (s x y : Int) : STT := if σ.1 = true then (if (0 ≤ s ∧ s ≤ σ.2.1 4 - 1) ∧ (0 ≤ x ∧ x ≤ 199) ∧ (0 ≤ y ∧ y ≤ 199) then (if sxS σ.2.1 s = x ∧ syS σ.2.1 s = y then σ else rowS (pushS σ) (mvS σ.2.1 s x y)) else σ) else σ
def fxS (ρ : RHO) (s : Int) : Int := sxS ρ s + pxS ρ s - cxS ρ s
def fyS (ρ : RHO) (s : Int) : Int := syS ρ s + pyS ρ s - cyS ρ s
def nfS (ρ : RHO) (s : Int) : Int := if paS ρ s = -1 then -2 else if (0 ≤ fxS ρ s ∧ fxS ρ s ≤ 199) ∧ (0 ≤ fyS ρ s ∧ fyS ρ s ≤ 199) then (if sxS ρ s = fxS ρ s ∧ syS ρ s = fyS ρ s then -4 else 0) else -3
def aFlip (σ : STT) (s : Int) : Int ⊕ Nat := if σ.1 = true then (if 0 ≤ s ∧ s ≤ σ.2.1 4 - 1 then .inl (if nfS σ.2.1 s = 0 then faultS (mvS σ.2.1 s (fxS σ.2.1 s) (fyS σ.2.1 s)) else nfS σ.2.1 s) else .inr 2) else .inr 1
def sFlip (σ : STT) (s : Int) : STT := if σ.1 = true then (if 0 ≤ s ∧ s ≤ σ.2.1 4 - 1 then (if nfS σ.2.1 s = 0 then rowS (pushS σ) (mvS σ.2.1 s (fxS σ.2.1 s) (fyS σ.2.1 s)) else σ) else σ) else σ
theorem nf_ok {ρ : RHO} {s : Int} (h : nfS ρ s = 0) : ¬ paS ρ s = -1 ∧ ((0 ≤ fxS ρ s ∧ fxS ρ s ≤ 199) ∧ (0 ≤ fyS ρ s ∧ fyS ρ s ≤ 199)) ∧ ¬ (sxS ρ s = fxS ρ s ∧ syS ρ s = fyS ρ s) := by
  unfold nfS at h
  by_cases z : paS ρ s = -1
  · rw [if_pos z] at h
    exact absurd h (by decide)
  · rw [if_neg z] at h
    by_cases w : (0 ≤ fxS ρ s ∧ fxS ρ s ≤ 199) ∧ (0 ≤ fyS ρ s ∧ fyS ρ s ≤ 199)
    · rw [if_pos w] at h
      by_cases v : sxS ρ s = fxS ρ s ∧ syS ρ s = fyS ρ s
      · rw [if_pos v] at h
        exact absurd h (by decide)
      · exact ⟨z, w, v⟩
    · rw [if_neg w] at h
      exact absurd h (by decide)
theorem nf_rng (ρ : RHO) (s : Int) : -4 ≤ nfS ρ s ∧ nfS ρ s ≤ 0 ∧ (nfS ρ s = 0 ∨ nfS ρ s ≤ -2) := by
  unfold nfS
  split
  · omega
  · split
    · split <;> omega
    · omega
theorem fx_rng {ρ : RHO} (V : VB ρ) {s : Int} (h0 : 0 ≤ s) (h1 : s < ρ 4) (h2 : ¬ paS ρ s = -1) : -1000 ≤ fxS ρ s ∧ fxS ρ s ≤ 1000 ∧ -1000 ≤ fyS ρ s ∧ fyS ρ s ≤ 1000 := by
  obtain ⟨-, c1, c2, -⟩ := V.shot h0 h1
  have b := V.sub h0 h1
  have p := V.par h0 h1 h2
  unfold fxS fyS
  omega
section Q27
variable {fu : Nat} {sh : HS} {I I' J : HI} {R : HR} {AD : Int → Nat} {P : Int → Int → Int} {σ : STT} {ρ ρ' : RHO} {p : Int → Int} {s x y : Int}
/-- a shot's camera placed on the class's board, and the faults then -/
theorem c_camP (S : OKS sh AD) (V : VB ρ) (hfu : 5000 ≤ fu) (B : BSH R AD 28 p) (L : BVL J AD 28 p ρ) (h0 : 0 ≤ s) (h1 : s < ρ 4) (x0 : 0 ≤ x) (x1 : x ≤ 199) (y0 : 0 ≤ y) (y1 : y ≤ 199) (hne : ¬ (sxS ρ s = x ∧ syS ρ s = y)) :
    ∃ I', fX8_placeCamera fu sh J R (AD (28 + 12 + p s)) (iz x) (iz y) = some I' ∧ fX2_total fu sh I' R (AD 28) = some (iz (faultS (mvS ρ s x y))) ∧ BVL I' AD 28 p (mvS ρ s x y) ∧ FR AD J I' (fun i _ => 28 ≤ i ∧ i < 52) := by
  have hn := V.n
  have ps := (B.2.2.2.1 s h0 (by omega)).2
  have kc := S.at (i := 28 + 12 + p s) (by rw [← kd_H (b := 0) (k := p s) (by decide) (by decide) (by omega) (by omega)]; congr 1) (by omega) (by omega)
  have V2 := mv_V V h0 h1 x0 x1 y0 y1 hne
  have L2 := BVL.mv (x := x) (y := y) S V B L h0 h1
  have ba2 := BA.of (b := 0) S (by decide) (by decide) B L2 V2
  exact ⟨_, c_place S (isT_of kc) _ _, c_total ba2.1 V2 hfu, L2, FR.u2 S (by omega) (by omega) ⟨by omega, by omega⟩ (FR.u2 S (by omega) (by omega) ⟨by omega, by omega⟩ (FR.rf AD J _))⟩
theorem ca_moveCamera (S : OKS sh AD) (V : VST σ) (hfu : 5000 ≤ fu) (hs : IR s) (hx : IR x) (hy : IR y) : CA AD R P σ (sCam σ s x y) (fun I => fX10_moveCamera fu sh I R (AD 0) (iz s) (iz x) (iz y)) (aFwith σ s x y) := by
  intro I C K
  unfold aFwith sCam
  by_cases h : σ.1 = true
  · have n4 := V.n4
    have B := C.ba S V h
    rw [if_pos h, if_pos h]
    simp only [fX10_moveCamera, fX10_needPlace, if_pos (isT_of S.pl), c_needBoard S C, if_pos h, oT0l, c_needShot S C V h hs, iz_lit, iz_neg]
    by_cases z : 0 ≤ s ∧ s ≤ σ.2.1 4 - 1
    · rw [if_pos z, oT0l, c_needRange hx.1 hx.2 (by decide) (by decide) (by decide) (by decide)]
      by_cases zx : 0 ≤ x ∧ x ≤ 199
      · rw [if_pos zx, oT0l, c_needRange hy.1 hy.2 (by decide) (by decide) (by decide) (by decide)]
        by_cases zy : 0 ≤ y ∧ y ≤ 199
        · have zz : (0 ≤ s ∧ s ≤ σ.2.1 4 - 1) ∧ (0 ≤ x ∧ x ≤ 199) ∧ (0 ≤ y ∧ y ≤ 199) := ⟨z, zx, zy⟩
          rw [if_pos zy, oT0l, oT0l, if_pos zz, if_pos zz]
          have q := (B.1.2.2.2 s z.1 (by omega)).1.1
          have sa := c_subAt (fu := fu) (x := x) (y := y) S (V.1 h) B z.1 (by omega) (by omega) (by omega) (by omega) (by omega)
          simp only [oR_at S.pl C.1.1.1.2.1, B.1.1.2.2, q, bsome]
          rw [sa, bsome]
          simp only [bz_zero]
          by_cases e : sxS σ.2.1 s = x ∧ syS σ.2.1 s = y
          · rw [if_neg (by rw [bdec.mpr e]; decide), if_pos e, if_pos e]
            refine ⟨I, ?_, C, K, FR.rf _ _ _⟩
            rfl
          · have Bs : BSH R AD 28 (P 0) := C.1.2.2.2.2.2.2.2 0 (by decide) (by decide)
            obtain ⟨J, e0, CJ, ⟨z9, z11⟩, F1⟩ := c_begin (fu := fu) S C V hfu h
            obtain ⟨I', e1, e2, L2, F2⟩ := c_camP (fu := fu) S (V.1 h) hfu Bs (CJ.2.2.2.2.2.1 h) z.1 (show s < σ.2.1 4 by omega) zx.1 zx.2 zy.1 zy.2 e
            obtain ⟨C2, K2⟩ := c_done V h CJ z9 z11 F2 L2
            rw [if_pos (fls bdec e), if_neg e, if_neg e, e0, bsome, e1, bsome, e2, bsome]
            exact ⟨I', rfl, C2, K2, (F1.wd fun i k z => by omega).tr (F2.wd fun i k z => by omega)⟩
        · rw [if_neg zy, oT0r, oT0r, if_neg (fun k => zy k.2.2), if_neg (fun k => zy k.2.2)]
          exact ⟨I, rfl, C, K, FR.rf _ _ _⟩
      · rw [if_neg zx, oT0r, oT0r, if_neg (fun k => zx k.2.1), if_neg (fun k => zx k.2.1)]
        exact ⟨I, rfl, C, K, FR.rf _ _ _⟩
    · rw [if_neg z, oT0r, if_neg (fun k => z k.1), if_neg (fun k => z k.1)]
      exact ⟨I, rfl, C, K, FR.rf _ _ _⟩
  · rw [if_neg h, if_neg h]
    simp only [fX10_moveCamera, if_pos (isT_of S.pl), c_needBoard S C, if_neg h, oT0r]
    exact ⟨I, rfl, C, K, FR.rf _ _ _⟩
/-- where a flip leads, on both sides -/
theorem c_opp (S : OKS sh AD) (V : VB ρ) (B : BA sh I R AD 28 p ρ) (h0 : 0 ≤ s) (h1 : s < ρ 4) (h2 : ¬ paS ρ s = -1) : fX0_oppositeX fu sh I R (AD 28) (AD (28 + 12 + p s)) = some (iz (fxS ρ s)) ∧ fX0_oppositeY fu sh I R (AD 28) (AD (28 + 12 + p s)) = some (iz (fyS ρ s)) := by
  obtain ⟨⟨q1, q2⟩, f0, f1, f2, f3, f4, f5⟩ := B.1.2.2.2 s h0 h1
  obtain ⟨s1, s2, s3, s4, s5⟩ := B.1.su V h0 h1
  obtain ⟨p1, p2⟩ := B.1.pa V h0 h1 h2
  refine ⟨?_, ?_⟩
  · simp only [fX0_oppositeX, if_pos B.1.1.1, B.1.1.2.1, f0, f1, f3, f4, s1, s2, s4, p1, bsome, iz_add, iz_sub]
    rfl
  · simp only [fX0_oppositeY, if_pos B.1.1.1, B.1.1.2.1, f0, f2, f3, f4, s1, s3, s5, p2, bsome, iz_add, iz_sub]
    rfl
theorem c_obst (S : OKS sh AD) (L : PLR R AD) (V : VB ρ) (B : BA sh I R AD 28 p ρ) (h0 : 0 ≤ s) (h1 : s < ρ 4) : fX10_obstacleToFlip fu sh I R (AD 0) (AD (28 + 12 + p s)) = some (iz (nfS ρ s)) := by
  obtain ⟨⟨q1, q2⟩, f0, f1, f2, f3, f4, f5⟩ := B.1.2.2.2 s h0 h1
  have pr : -1 ≤ paS ρ s ∧ paS ρ s < 6 := by
    obtain ⟨-, -, -, -, -, a6, -⟩ := V.shot h0 h1
    rcases a6 with a | ⟨a, -⟩ <;> omega
  simp only [fX10_obstacleToFlip, fX10_obstacleToFlip_b51, fX10_obstacleToFlip_b73, if_pos (isT_of S.pl), f4, bsome, iz_lit, iz_neg, oR_at S.pl L.1.2.1]
  unfold nfS
  by_cases z : paS ρ s = -1
  · rw [if_pos (by rw [z]), if_pos z]
  · obtain ⟨r1, r2, r3, r4⟩ := fx_rng V h0 h1 z
    obtain ⟨o1, o2⟩ := c_opp (fu := fu) S V B h0 h1 z
    rw [if_neg (by rw [iz_eq (by omega) (by omega) (by decide) (by decide)]; exact z), if_neg z, o1, bsome, o2, bsome]
    have sa := c_subAt (fu := fu) (x := fxS ρ s) (y := fyS ρ s) S V B h0 h1 r1 r2 r3 r4
    rw [sa, bsome]
    simp only [bz_zero]
    simp (disch := omega) only [iz_lt, iz_le]
    by_cases w : (0 ≤ fxS ρ s ∧ fxS ρ s ≤ 199) ∧ (0 ≤ fyS ρ s ∧ fyS ρ s ≤ 199)
    · rw [if_neg (by omega), if_neg (by omega), if_neg (by omega), if_pos (by omega), if_pos w]
      by_cases v : sxS ρ s = fxS ρ s ∧ syS ρ s = fyS ρ s
      · rw [if_neg (by rw [bdec.mpr v]; decide), if_pos v]
      · rw [if_pos (fls bdec v), if_neg v]
    · rw [if_neg w]
      by_cases w1 : fxS ρ s < 0
      · rw [if_pos w1]
      · rw [if_neg w1]
        by_cases w2 : 199 < fxS ρ s
        · rw [if_pos w2]
        · rw [if_neg w2]
          by_cases w3 : fyS ρ s < 0
          · rw [if_pos w3]
          · rw [if_neg w3, if_neg (by omega)]
end Q27
