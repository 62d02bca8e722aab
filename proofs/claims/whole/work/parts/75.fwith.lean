/-! STAGE 2: the faults with a camera elsewhere, on both sides -/
def NOW (_ : Int) (_ : Nat) : Prop := False
def aFwith (σ : STT) (s x y : Int) : Int ⊕ Nat := if σ.1 = true then (if (0 ≤ s ∧ s ≤ σ.2.1 4 - 1) ∧ (0 ≤ x ∧ x ≤ 199) ∧ (0 ≤ y ∧ y ≤ 199) then .inl (if sxS σ.2.1 s = x ∧ syS σ.2.1 s = y then -2 else faultS (mvS σ.2.1 s x y)) else .inr 2) else .inr 1
section Q11
variable {fu : Nat} {sh : HS} {I : HI} {R : HR} {AD : Int → Nat} {P : Int → Int → Int} {σ : STT} {ρ : RHO} {p : Int → Int} {s x y : Int}
theorem c_place (S : OKS sh AD) {a : Nat} (t : isT sh a 7 = true) (u v : Int32) : fX8_placeCamera fu sh I R a u v = some (u2 (u2 I a 1 u) a 2 v) := by
  have e := fun (J : HI) k z => show oP sh J a 7 k z = some (u2 J a k z) by unfold oP; rw [if_pos t]
  simp only [fX8_placeCamera, if_pos t, e, bsome]
theorem c_totWith (S : OKS sh AD) (V : VB ρ) (hfu : 5000 ≤ fu) (B : BSH R AD 28 p) (L : BVL I AD 28 p ρ) (h0 : 0 ≤ s) (h1 : s < ρ 4) (x0 : 0 ≤ x) (x1 : x ≤ 199) (y0 : 0 ≤ y) (y1 : y ≤ 199) (hne : ¬ (sxS ρ s = x ∧ syS ρ s = y)) :
    ∃ I', fX2_totalWith fu sh I R (AD 28) (AD (28 + 12 + p s)) (iz x) (iz y) = some (iz (faultS (mvS ρ s x y)), I') ∧ FR AD I I' NOW := by
  have hn := V.n
  have ba : BA sh I R AD 28 p ρ := BA.of (b := 0) S (by decide) (by decide) B L V
  obtain ⟨⟨q1, q2⟩, f0, f1, f2, f3, f4, f5⟩ := ba.1.2.2.2 s h0 h1
  have V2 := mv_V V h0 h1 x0 x1 y0 y1 hne
  have L2 := BVL.mv (x := x) (y := y) S V B L h0 h1
  have ba2 := BA.of (b := 0) S (by decide) (by decide) B L2 V2
  have ps := (B.2.2.2.1 s h0 (by omega)).2
  obtain ⟨d0, d1, d2, -⟩ := L.2.2 s h0 h1
  have q2' : isT sh (AD (28 + 12 + p s)) 7 = true := q2
  have f1' : oI sh I (AD (28 + 12 + p s)) 7 1 = some (iz (cxS ρ s)) := f1
  have f2' : oI sh I (AD (28 + 12 + p s)) 7 2 = some (iz (cyS ρ s)) := f2
  refine ⟨u2 (u2 (u2 (u2 I (AD (28 + 12 + p s)) 1 (iz x)) (AD (28 + 12 + p s)) 2 (iz y)) (AD (28 + 12 + p s)) 1 (iz (cxS ρ s))) (AD (28 + 12 + p s)) 2 (iz (cyS ρ s)), ?_, ?_⟩
  · simp only [fX2_totalWith, f1', f2', bsome]
    rw [c_place S q2', bsome]
    have k : fX2_total fu sh (u2 (u2 I (AD (28 + 12 + p s)) 1 (iz x)) (AD (28 + 12 + p s)) 2 (iz y)) R (AD 28) = some (iz (faultS (mvS ρ s x y))) := c_total ba2.1 V2 hfu
    rw [k, bsome, c_place S q2', bsome]
  · intro i g0 g1 k _
    rw [u2_ad S (by omega) (by omega) g0 g1, u2_ad S (by omega) (by omega) g0 g1, u2_ad S (by omega) (by omega) g0 g1, u2_ad S (by omega) (by omega) g0 g1]
    by_cases z : i = 28 + 12 + p s
    · subst z
      by_cases k2 : k = 2
      · rw [if_pos ⟨rfl, k2⟩, k2, d2]
      · rw [if_neg (fun q => k2 q.2)]
        by_cases k1 : k = 1
        · rw [if_pos ⟨rfl, k1⟩, k1, d1]
        · rw [if_neg (fun q => k1 q.2), if_neg (fun q => k2 q.2), if_neg (fun q => k1 q.2)]
    · rw [if_neg (fun q => z q.1), if_neg (fun q => z q.1), if_neg (fun q => z q.1), if_neg (fun q => z q.1)]
theorem c_subAt (S : OKS sh AD) (V : VB ρ) (B : BA sh I R AD 28 p ρ) (h0 : 0 ≤ s) (h1 : s < ρ 4) (x0 : -1000 ≤ x) (x1 : x ≤ 1000) (y0 : -1000 ≤ y) (y1 : y ≤ 1000) : fX0_isSubjectAt fu sh I R (AD 28) (AD (28 + 12 + p s)) (iz x) (iz y) = some (bz (decide (sxS ρ s = x) && decide (syS ρ s = y))) := by
  obtain ⟨a1, a2, a3, a4, a5, -⟩ := V.shot h0 h1
  obtain ⟨⟨q1, q2⟩, f0, f1, f2, f3, f4, f5⟩ := B.1.2.2.2 s h0 h1
  obtain ⟨⟨c1, -⟩, -⟩ := B.1.2.2.1 (scS ρ s) a1.1 a1.2
  simp only [fX0_isSubjectAt, if_pos B.1.1.1, B.1.1.2.1, f0, f3, c1, bsome]
  rw [c_isAt B.1 V a1.1 a1.2 a4.1 a4.2 a5 x0 x1 y0 y1, bsome, oZ_bz, bsome]
  rfl
theorem FR.no {AD : Int → Nat} {I I' : HI} (f : FR AD I I' NOW) (W : Int → Nat → Prop) : FR AD I I' W := f.wd fun _ _ z => absurd z (fun q => q)
theorem cq_faultsWith (S : OKS sh AD) (V : VST σ) (hfu : 5000 ≤ fu) (hs : IR s) (hx : IR x) (hy : IR y) : CQ sh AD R P σ (fun I => fX10_faultsWith fu sh I R (AD 0) (iz s) (iz x) (iz y)) (aFwith σ s x y) := by
  intro I C K
  unfold aFwith
  by_cases h : σ.1 = true
  · have n4 := V.n4
    have B := C.ba S V h
    rw [if_pos h]
    simp only [fX10_faultsWith, fX10_needPlace, if_pos (isT_of S.pl), c_needBoard S C, if_pos h, oT0l, c_needShot S C V h hs, iz_lit, iz_neg]
    by_cases z : 0 ≤ s ∧ s ≤ σ.2.1 4 - 1
    · rw [if_pos z, oT0l, c_needRange hx.1 hx.2 (by decide) (by decide) (by decide) (by decide)]
      by_cases zx : 0 ≤ x ∧ x ≤ 199
      · rw [if_pos zx, oT0l, c_needRange hy.1 hy.2 (by decide) (by decide) (by decide) (by decide)]
        by_cases zy : 0 ≤ y ∧ y ≤ 199
        · rw [if_pos zy, oT0l, oT0l, if_pos (show (0 ≤ s ∧ s ≤ σ.2.1 4 - 1) ∧ (0 ≤ x ∧ x ≤ 199) ∧ (0 ≤ y ∧ y ≤ 199) from ⟨z, zx, zy⟩)]
          have q := (B.1.2.2.2 s z.1 (by omega)).1.1
          have sa := c_subAt (fu := fu) (x := x) (y := y) S (V.1 h) B z.1 (by omega) (by omega) (by omega) (by omega) (by omega)
          simp only [oR_at S.pl C.1.1.1.2.1, B.1.1.2.2, q, bsome]
          rw [sa, bsome]
          simp only [bz_zero]
          by_cases e : sxS σ.2.1 s = x ∧ syS σ.2.1 s = y
          · refine ⟨I, ?_, C, K, FR.rf _ _ _⟩
            rw [if_neg (by rw [bdec.mpr e]; decide), if_pos e]
            rfl
          · have Bs : BSH R AD 28 (P 0) := C.1.2.2.2.2.2.2.2 0 (by decide) (by decide)
            obtain ⟨I', e1, f⟩ := c_totWith (fu := fu) S (V.1 h) hfu Bs (C.2.2.2.2.2.1 h) z.1 (by omega) zx.1 zx.2 zy.1 zy.2 e
            refine ⟨I', ?_, C.fr V (f.no _), K.fr (f.no NOW) (fun _ _ _ q => q), f.no _⟩
            rw [if_pos (by cases w : (decide (sxS σ.2.1 s = x) && decide (syS σ.2.1 s = y)); rfl; exact absurd (bdec.mp w) e), e1, oHs, if_neg e]
            rfl
        · refine ⟨I, ?_, C, K, FR.rf _ _ _⟩
          rw [if_neg zy, oT0r, oT0r, if_neg (fun k => zy k.2.2)]
          rfl
      · refine ⟨I, ?_, C, K, FR.rf _ _ _⟩
        rw [if_neg zx, oT0r, oT0r, if_neg (fun k => zx k.2.1)]
        rfl
    · refine ⟨I, ?_, C, K, FR.rf _ _ _⟩
      rw [if_neg z, oT0r, if_neg (fun k => z k.1)]
      rfl
  · refine ⟨I, ?_, C, K, FR.rf _ _ _⟩
    rw [if_neg h]
    simp only [fX10_faultsWith, if_pos (isT_of S.pl), c_needBoard S C, if_neg h, oT0r]
    rfl
theorem r_set (S : OKS sh AD) (M : MR R AD) {k : Int} (h0 : 0 ≤ s) (h1 : s < 12) (k0 : 0 ≤ k) (k1 : k < 6) (v : Int32) : fX11_set fu sh I R (AD 316) (iz s) (iz k) v = some (u2 I (AD 317) (47 + 6 * s + k).toNat v) := by
  simp only [fX11_set, if_pos (isT_of S.md), oR_at S.md M.1.1, bsome, iz_lit, iz_mul, iz_add]
  rw [oS_iz S.rw (by omega) (by omega) (by omega), bsome]
theorem r_faultsAt (S : OKS sh AD) (M : MR R AD) (H : RW I AD ρ) (V : VB ρ) (hfu : 5000 ≤ fu) (h0 : 0 ≤ s) (h1 : s < ρ 4) (x0 : 0 ≤ x) (x1 : x ≤ 199) (y0 : 0 ≤ y) (y1 : y ≤ 199) (hne : ¬ (sxS ρ s = x ∧ syS ρ s = y)) :
    ∃ I', fX11_faultsAt fu sh I R (AD 316) (iz s) (iz x) (iz y) = some (iz (faultS (mvS ρ s x y)), I') ∧ FR AD I I' NOW := by
  have hn := V.n
  obtain ⟨-, g1, g2, -⟩ := r_g (fu := fu) S M H V h0 h1
  have V2 := mv_V V h0 h1 x0 x1 y0 y1 hne
  have H2 := RW.mv (x := x) (y := y) S H h0 (show s < 12 by omega)
  have i1 : (47 + 6 * s + 1).toNat = (48 + 6 * s).toNat := by omega
  have i2 : (47 + 6 * s + 2).toNat = (49 + 6 * s).toNat := by omega
  have c1 : I (AD 317) (48 + 6 * s).toNat = iz (cxS ρ s) := by rw [H (48 + 6 * s) (by omega) (by omega)]; unfold cxS gS; congr 2; omega
  have c2 : I (AD 317) (49 + 6 * s).toNat = iz (cyS ρ s) := by rw [H (49 + 6 * s) (by omega) (by omega)]; unfold cyS gS; congr 2; omega
  refine ⟨u2 (u2 (u2 (u2 I (AD 317) (48 + 6 * s).toNat (iz x)) (AD 317) (49 + 6 * s).toNat (iz y)) (AD 317) (48 + 6 * s).toNat (iz (cxS ρ s))) (AD 317) (49 + 6 * s).toNat (iz (cyS ρ s)), ?_, ?_⟩
  · simp only [fX11_faultsAt, if_pos (isT_of S.md), iz_lit, g1, g2, bsome]
    rw [r_set S M h0 (by omega) (by decide) (by decide), bsome, r_set S M h0 (by omega) (by decide) (by decide), bsome, i1, i2, r_faults S M H2 V2 hfu, bsome, r_set S M h0 (by omega) (by decide) (by decide), bsome, r_set S M h0 (by omega) (by decide) (by decide), bsome, i1, i2]
  · intro i q0 q1 k _
    rw [u2_ad S (by decide) (by decide) q0 q1, u2_ad S (by decide) (by decide) q0 q1, u2_ad S (by decide) (by decide) q0 q1, u2_ad S (by decide) (by decide) q0 q1]
    by_cases z : i = 317
    · subst z
      by_cases k2 : k = (49 + 6 * s).toNat
      · rw [if_pos ⟨rfl, k2⟩, k2, c2]
      · rw [if_neg (fun q => k2 q.2)]
        by_cases k1 : k = (48 + 6 * s).toNat
        · rw [if_pos ⟨rfl, k1⟩, k1, c1]
        · rw [if_neg (fun q => k1 q.2), if_neg (fun q => k2 q.2), if_neg (fun q => k1 q.2)]
    · rw [if_neg (fun q => z q.1), if_neg (fun q => z q.1), if_neg (fun q => z q.1), if_neg (fun q => z q.1)]
theorem r_subAt (S : OKS sh AD) (M : MR R AD) (H : RW I AD ρ) (V : VB ρ) (h0 : 0 ≤ s) (h1 : s < ρ 4) (x0 : -1000 ≤ x) (x1 : x ≤ 1000) (y0 : -1000 ≤ y) (y1 : y ≤ 1000) : fX11_isAt fu sh I R (AD 316) (iz s) (iz (suS ρ s)) (iz x) (iz y) = some (bz (decide (sxS ρ s = x) && decide (syS ρ s = y))) := by
  have hn := V.n
  have hm := V.m
  obtain ⟨a1, a2, a3, a4, a5, -⟩ := V.shot h0 h1
  have b := V.sub h0 h1
  simp only [fX11_isAt, fX11_isAt_b33, fX11_isAt_b34, if_pos (isT_of S.md), r_sceneOf S M H h0 (show s < 12 by omega), bsome, r_actorX S M H a1.1 (show scS ρ s < 3 by omega) a4.1 a4.2, r_actorY S M H a1.1 (show scS ρ s < 3 by omega) a4.1 a4.2, iz_lit, oZ_z0, oZ_z1, show axS ρ (scS ρ s) (suS ρ s) = sxS ρ s from rfl, show ayS ρ (scS ρ s) (suS ρ s) = syS ρ s from rfl]
  simp (disch := omega) only [iz_eq]
  by_cases z : sxS ρ s = x
  · rw [if_pos z, decide_eq_true z]
    by_cases w : syS ρ s = y
    · rw [if_pos w, decide_eq_true w]; rfl
    · rw [if_neg w, decide_eq_false w]; rfl
  · rw [if_neg z, decide_eq_false z]; rfl
theorem r_isPlace (hx : IR x) (hy : IR y) : fX11_isPlace fu sh I R (iz x) (iz y) = some (bz (decide ((0 ≤ x ∧ x ≤ 199) ∧ (0 ≤ y ∧ y ≤ 199)))) := by
  simp only [fX11_isPlace, fX11_isPlace_b28, fX11_isPlace_b29, jlit, r_isInC hx (by decide : (-1000 : Int) ≤ 0) (by decide) (by decide : (-1000 : Int) ≤ 199) (by decide), r_isInC hy (by decide : (-1000 : Int) ≤ 0) (by decide) (by decide : (-1000 : Int) ≤ 199) (by decide), bsome, iz_lit, bz_zero, oZ_z0, oZ_z1]
  by_cases z : 0 ≤ x ∧ x ≤ 199
  · rw [decide_eq_true z, if_neg (by decide)]
    by_cases w : 0 ≤ y ∧ y ≤ 199
    · rw [decide_eq_true w, if_neg (by decide), decide_eq_true (show (0 ≤ x ∧ x ≤ 199) ∧ (0 ≤ y ∧ y ≤ 199) from ⟨z, w⟩)]
    · rw [decide_eq_false w, if_pos rfl, decide_eq_false (fun k => w k.2)]
  · rw [decide_eq_false z, if_pos rfl, decide_eq_false (fun k => z k.1)]
theorem rq_faultsWith (S : OKS sh AD) (V : VST σ) (hfu : 5000 ≤ fu) (hs : IR s) (hx : IR x) (hy : IR y) : RQ sh AD R σ (fun I => fX11_faultsWith fu sh I R (AD 316) (iz s) (iz x) (iz y)) (aFwith σ s x y) := by
  intro I H
  unfold aFwith
  have n4 := V.n4
  have e22 : fX11_faultsWith fu sh I R (AD 316) (iz s) (iz x) (iz y) = fX11_faultsWith_b22 fu sh R I (AD 316) (iz s) (iz x) (iz y) (bz (decide ((0 ≤ s ∧ s ≤ σ.2.1 4 - 1) ∧ (0 ≤ x ∧ x ≤ 199) ∧ (0 ≤ y ∧ y ≤ 199)))) (AD 316) := by
    simp only [fX11_faultsWith, fX11_faultsWith_b21, if_pos (isT_of S.md), r_isShot S H V hs, r_isPlace hx hy, bsome, iz_lit, bz_zero]
    by_cases z : 0 ≤ s ∧ s ≤ σ.2.1 4 - 1
    · rw [if_neg (by rw [(bdec (p := 0 ≤ s) (q := s ≤ σ.2.1 4 - 1)).mpr z]; decide)]
      by_cases w : (0 ≤ x ∧ x ≤ 199) ∧ (0 ≤ y ∧ y ≤ 199)
      · rw [decide_eq_true w, if_neg (by decide), decide_eq_true (show (0 ≤ s ∧ s ≤ σ.2.1 4 - 1) ∧ (0 ≤ x ∧ x ≤ 199) ∧ (0 ≤ y ∧ y ≤ 199) from ⟨z, w⟩)]
        rfl
      · rw [decide_eq_false w, if_pos rfl, decide_eq_false (fun k => w k.2)]
        rfl
    · rw [if_pos (by cases q : (decide (0 ≤ s) && decide (s ≤ σ.2.1 4 - 1)); rfl; exact absurd (bdec.mp q) z), decide_eq_false (fun k => z k.1)]
      rfl
  have w := r_isWrong (fu := fu) (R := R) (σ := σ) S H.2.2.1.2.1 (decide ((0 ≤ s ∧ s ≤ σ.2.1 4 - 1) ∧ (0 ≤ x ∧ x ≤ 199) ∧ (0 ≤ y ∧ y ≤ 199)))
  by_cases h : σ.1 = true
  · by_cases z : (0 ≤ s ∧ s ≤ σ.2.1 4 - 1) ∧ (0 ≤ x ∧ x ≤ 199) ∧ (0 ≤ y ∧ y ≤ 199)
    · rw [wr0 h (decide_eq_true z)] at w
      obtain ⟨H1, e5, f1⟩ := r_out (σ := σ) S H 0
      obtain ⟨z1, zx, zy⟩ := z
      have W := V.1 h
      obtain ⟨-, -, -, g3, -⟩ := r_g (fu := fu) S H1.1 H1.2.1 W z1.1 (show s < σ.2.1 4 by omega)
      have sa := r_subAt (fu := fu) (x := x) (y := y) S H1.1 H1.2.1 W z1.1 (show s < σ.2.1 4 by omega) (by omega) (by omega) (by omega) (by omega)
      rw [if_pos h, if_pos ⟨z1, zx, zy⟩]
      by_cases e : sxS σ.2.1 s = x ∧ syS σ.2.1 s = y
      · rw [bdec.mpr e] at sa
        refine ⟨_, ?_, e5, H1, f1⟩
        refine e22.trans ?_
        simp only [fX11_faultsWith_b22, fX11_faultsWith_b58, w, oHs, iz_lit, iz_neg, bz_zero]
        rw [if_pos (by decide), g3, bsome, sa, bsome]
        simp only [bz_zero]
        rw [if_neg (by decide), if_pos e]
        rfl
      · have ef : (decide (sxS σ.2.1 s = x) && decide (syS σ.2.1 s = y)) = false := by
          cases q : (decide (sxS σ.2.1 s = x) && decide (syS σ.2.1 s = y))
          · rfl
          · exact absurd (bdec.mp q) e
        rw [ef] at sa
        obtain ⟨I', e1, f⟩ := r_faultsAt (fu := fu) S H1.1 H1.2.1 W hfu z1.1 (show s < σ.2.1 4 by omega) zx.1 zx.2 zy.1 zy.2 e
        refine ⟨I', ?_, (f 316 (by decide) (by decide) 5 (fun q => q)).trans e5, H1.fr (f.no _), f1.tr (f.no _)⟩
        refine e22.trans ?_
        simp only [fX11_faultsWith_b22, fX11_faultsWith_b58, w, oHs, iz_lit, iz_neg, bz_zero]
        rw [if_pos (by decide), g3, bsome, sa, bsome]
        simp only [bz_zero]
        rw [if_pos True.intro, e1, oHs, if_neg e]
        rfl
    · rw [wr2 h (decide_eq_false z)] at w
      obtain ⟨H1, e5, f1⟩ := r_out (σ := σ) S H 2
      refine ⟨_, ?_, ?_, H1, f1⟩
      · refine e22.trans ?_
        simp only [fX11_faultsWith_b22, w, oHs, iz_lit, bz_zero]
        rw [if_neg (by decide), if_pos h, if_neg z]
        rfl
      · rw [e5, if_pos h, if_neg z]
        rfl
  · have hf : σ.1 = false := by simpa using h
    rw [wr1 hf] at w
    obtain ⟨H1, e5, f1⟩ := r_out (σ := σ) S H 1
    refine ⟨_, ?_, ?_, H1, f1⟩
    · refine e22.trans ?_
      simp only [fX11_faultsWith_b22, w, oHs, iz_lit, bz_zero]
      rw [if_neg (by decide), if_neg h]
      rfl
    · rw [e5, if_neg h]
      rfl
end Q11
