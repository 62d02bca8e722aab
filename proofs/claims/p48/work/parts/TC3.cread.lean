/-! STAGE 2: the class reads a statement -/
theorem acP_er {f : Nat → Int} {p : PS} {ρ : RHO} {c : Int} (h : ¬ p.er = 0) : acP f p ρ c = p := by
  have e := okN_ne (f := f) (lo := 0) (hi := 5) h
  rw [acP_ne (by rw [e]; exact h), e]
theorem suP_ne {f : Nat → Int} {p : PS} {ρ : RHO} {c x y : Int} (h : ¬ p.er = 0) : suP f p ρ c x y = p := by
  unfold suP
  rw [acP_er h, fal_ne h]
  split <;> rfl
def shtD (f : Nat → Int) (n : Nat) (X : PS × RHO) : PS × RHO := if canS X.2 = false then (falP X.1 1, X.2) else if X.2 4 < 12 then (sht7 f n X.1 X.2 (X.2 3 - 1), shtX f n X.1 X.2 (X.2 3 - 1)) else (falP X.1 4, X.2)
section Q59
variable {fu : Nat} {sh : HS} {I I' : HI} {R : HR} {AD : Int → Nat} {f : Nat → Int} {n : Nat} {p q : PS} {ρ : RHO} {pp : Int → Int} {W : Int → Nat → Prop}
theorem c_shtGo (S : OKS sh AD) (H : BSH R AD 52 pp) (hR : R (AD 2) 0 = some (AD 1)) (hfu : 5000 ≤ fu) (C : CST I AD f n p) (L : BVL I AD 52 pp ρ) (V : PV ρ) (hn4 : ρ 4 < 12) {c : Int} (hc : c = ρ 3 - 1) (c0 : 0 ≤ c) (can : canS ρ = true) :
    ∃ I', fX1_readShot fu sh I R (AD 2) (AD 52) = some I' ∧ CST I' AD f n (sht7 f n p ρ c) ∧ BVL I' AD 52 pp (shtX f n p ρ c) ∧ FRD AD I I' := by
  have hp : ∀ s, 0 ≤ s → s < 12 → 0 ≤ pp s ∧ pp s < 12 := fun s g0 g1 => (H.2.2.2.1 s g0 g1).2
  have Wp := C.2.1
  have hm := V.1
  have hn := V.2.1
  have c1 : c < ρ 3 := by omega
  have pn := hp (ρ 4) hn.1 hn4
  have kh := K52h S pn.1 pn.2
  obtain ⟨w1, w2, w3, w4, w5, w6, w7⟩ := sht_wf Wp ρ c
  obtain ⟨J0, h0⟩ : ∃ J, J = _root_.Jvm.Pilot.@@N@@.u2 I (AD (52 + 12 + pp (ρ 4))) 0 (iz c) := ⟨_, rfl⟩
  have F0 : FR AD I J0 (fun i k => i = 52 + 12 + pp (ρ 4) ∧ k = 0) := by rw [h0]; exact FR.u2 S (by omega) (by omega) ⟨rfl, rfl⟩ (FR.rf AD I _)
  have b0 : CST J0 AD f n p := by rw [h0]; exact C.u S (by omega) (by omega) _ _
  have z0 : J0 (AD (52 + 12 + pp (ρ 4))) 0 = iz c := by rw [h0, u2_ad S (by omega) (by omega) (by omega) (by omega), if_pos ⟨rfl, rfl⟩]
  obtain ⟨J1, a1, b1, F1⟩ := c_adv S hR hfu b0
  have b1 : CST J1 AD f n (scn1 f n p) := b1
  obtain ⟨J2, a2, b2, F2⟩ := c_take S hR hfu b1 (lo := 0) (hi := 199) (by decide) (by decide) (by decide) (by decide)
  obtain ⟨x, hx⟩ : ∃ x, x = (if (okN f (scn1 f n p) 0 199).er = 0 then nmP f (scn1 f n p) else 0) := ⟨_, rfl⟩
  rw [← hx] at a2
  have xr : 0 ≤ x ∧ x ≤ 199 := by
    rw [hx]
    split
    · rename_i w
      exact (okN_ok w).2.2.2
    · omega
  obtain ⟨J3, h3⟩ : ∃ J, J = _root_.Jvm.Pilot.@@N@@.u2 J2 (AD (52 + 12 + pp (ρ 4))) 1 (iz x) := ⟨_, rfl⟩
  have F3 : FR AD J2 J3 (fun i k => i = 52 + 12 + pp (ρ 4) ∧ k = 1) := by rw [h3]; exact FR.u2 S (by omega) (by omega) ⟨rfl, rfl⟩ (FR.rf AD J2 _)
  have b3 : CST J3 AD f n (sht2 f n p) := by rw [h3]; exact b2.u S (by omega) (by omega) _ _
  have z1 : J3 (AD (52 + 12 + pp (ρ 4))) 1 = iz x := by rw [h3, u2_ad S (by omega) (by omega) (by omega) (by omega), if_pos ⟨rfl, rfl⟩]
  obtain ⟨J4, a4, b4, F4⟩ := c_take S hR hfu b3 (lo := 0) (hi := 199) (by decide) (by decide) (by decide) (by decide)
  obtain ⟨y, hy⟩ : ∃ y, y = (if (okN f (sht2 f n p) 0 199).er = 0 then nmP f (sht2 f n p) else 0) := ⟨_, rfl⟩
  rw [← hy] at a4
  have yr : 0 ≤ y ∧ y ≤ 199 := by
    rw [hy]
    split
    · rename_i w
      exact (okN_ok w).2.2.2
    · omega
  obtain ⟨J5, h5⟩ : ∃ J, J = _root_.Jvm.Pilot.@@N@@.u2 J4 (AD (52 + 12 + pp (ρ 4))) 2 (iz y) := ⟨_, rfl⟩
  have F5 : FR AD J4 J5 (fun i k => i = 52 + 12 + pp (ρ 4) ∧ k = 2) := by rw [h5]; exact FR.u2 S (by omega) (by omega) ⟨rfl, rfl⟩ (FR.rf AD J4 _)
  have b5 : CST J5 AD f n (sht3 f n p) := by rw [h5]; exact b4.u S (by omega) (by omega) _ _
  have z2 : J5 (AD (52 + 12 + pp (ρ 4))) 2 = iz y := by rw [h5, u2_ad S (by omega) (by omega) (by omega) (by omega), if_pos ⟨rfl, rfl⟩]
  have G5 : FR AD I J5 (fun i k => i = 2 ∨ (i = 52 + 12 + pp (ρ 4) ∧ k ≤ 5)) := (((((F0.wd fun i k z => by omega).tr (F1.wd fun i k z => Or.inl z)).tr (F2.wd fun i k z => Or.inl z)).tr (F3.wd fun i k z => by omega)).tr (F4.wd fun i k z => Or.inl z)).tr (F5.wd fun i k z => by omega)
  have L5 : BVL J5 AD 52 pp ρ := L.fs V hn4 hp H.2.2.2.2 G5 (fun i k g0 g1 w => by omega)
  have y1 : J5 (AD (52 + 12 + pp (ρ 4))) 1 = iz x := (F5 _ (by omega) (by omega) 1 (by omega)).trans ((F4 _ (by omega) (by omega) 1 (by omega)).trans z1)
  obtain ⟨t, J6, a6, b6, L6, F6, z3, tr, tv⟩ := c_subj S H hR hfu b5 L5 V hn4 c0 c1 xr yr y1 z2
  have s3 : (sht3 f n p).er = 0 → x = nmP f (scn1 f n p) ∧ y = nmP f (sht2 f n p) := by
    intro e
    obtain ⟨g1, g2, -⟩ := tkP_ok w2 e
    obtain ⟨g3, -⟩ := tkP_ok w1 g2
    exact ⟨by rw [hx]; exact if_pos g3, by rw [hy]; exact if_pos g1⟩
  have e4 : advP f n (suP f (sht3 f n p) ρ c x y) = sht4 f n p ρ c := by
    unfold sht4
    by_cases e : (sht3 f n p).er = 0
    · rw [(s3 e).1, (s3 e).2]
    · rw [suP_ne e, suP_ne e]
  rw [e4] at b6
  have hu : (sht4 f n p ρ c).er = 0 → t = nmP f (sht3 f n p) := by
    intro e
    have e' : (advP f n (suP f (sht3 f n p) ρ c (nmP f (scn1 f n p)) (nmP f (sht2 f n p)))).er = 0 := e
    rw [adv_er (suP_wf w3 ρ c _ _).2.1] at e'
    exact tv (acP_ok (suP_ok e').1).2.1
  obtain ⟨w, J7, a7, b7, L7, F7, z4, wv⟩ := c_part S H hR hfu b6 L6 V hn4 (c := c) (u := nmP f (sht3 f n p)) c0 c1 tr z3 hu
  have b7 : CST J7 AD f n (sht5 f n p ρ c) := b7
  obtain ⟨J8, a8, b8, F8⟩ := c_take S hR hfu b7 (lo := 1) (hi := 99) (by decide) (by decide) (by decide) (by decide)
  obtain ⟨l, hl⟩ : ∃ l, l = (if (okN f (sht5 f n p ρ c) 1 99).er = 0 then nmP f (sht5 f n p ρ c) else 1) := ⟨_, rfl⟩
  rw [← hl] at a8
  obtain ⟨J9, h9⟩ : ∃ J, J = _root_.Jvm.Pilot.@@N@@.u2 J8 (AD (52 + 12 + pp (ρ 4))) 5 (iz l) := ⟨_, rfl⟩
  have F9 : FR AD J8 J9 (fun i k => i = 52 + 12 + pp (ρ 4) ∧ k = 5) := by rw [h9]; exact FR.u2 S (by omega) (by omega) ⟨rfl, rfl⟩ (FR.rf AD J8 _)
  have b9 : CST J9 AD f n (sht6 f n p ρ c) := by rw [h9]; exact b8.u S (by omega) (by omega) _ _
  have z5 : J9 (AD (52 + 12 + pp (ρ 4))) 5 = iz l := by rw [h9, u2_ad S (by omega) (by omega) (by omega) (by omega), if_pos ⟨rfl, rfl⟩]
  obtain ⟨J10, a10, b10, F10⟩ := c_semi S hR hfu b9
  have b10 : CST J10 AD f n (sht7 f n p ρ c) := b10
  have G10 : FR AD I J10 (fun i k => i = 2 ∨ (i = 52 + 12 + pp (ρ 4) ∧ k ≤ 5)) := ((((G5.tr (F6.wd fun i k z => by omega)).tr (F7.wd fun i k z => by omega)).tr (F8.wd fun i k z => Or.inl z)).tr (F9.wd fun i k z => by omega)).tr (F10.wd fun i k z => Or.inl z)
  have L10 : BVL J10 AD 52 pp ρ := L.fs V hn4 hp H.2.2.2.2 G10 (fun i k g0 g1 w => by omega)
  have tl : ∀ k, k ≤ 4 → J10 (AD (52 + 12 + pp (ρ 4))) k = J7 (AD (52 + 12 + pp (ρ 4))) k := fun k hk => (F10 _ (by omega) (by omega) k (by omega)).trans ((F9 _ (by omega) (by omega) k (by omega)).trans (F8 _ (by omega) (by omega) k (by omega)))
  have tm : ∀ k, k ≤ 2 → J10 (AD (52 + 12 + pp (ρ 4))) k = J5 (AD (52 + 12 + pp (ρ 4))) k := fun k hk => (tl k (by omega)).trans ((F7 _ (by omega) (by omega) k (by omega)).trans (F6 _ (by omega) (by omega) k (by omega)))
  have q0 : J10 (AD (52 + 12 + pp (ρ 4))) 0 = iz c := (tm 0 (by omega)).trans ((F5 _ (by omega) (by omega) 0 (by omega)).trans ((F4 _ (by omega) (by omega) 0 (by omega)).trans ((F3 _ (by omega) (by omega) 0 (by omega)).trans ((F2 _ (by omega) (by omega) 0 (by omega)).trans ((F1 _ (by omega) (by omega) 0 (by omega)).trans z0)))))
  have q1 : J10 (AD (52 + 12 + pp (ρ 4))) 1 = iz x := (tm 1 (by omega)).trans y1
  have q2 : J10 (AD (52 + 12 + pp (ρ 4))) 2 = iz y := (tm 2 (by omega)).trans z2
  have q3 : J10 (AD (52 + 12 + pp (ρ 4))) 3 = iz t := (tl 3 (by omega)).trans ((F7 _ (by omega) (by omega) 3 (by omega)).trans z3)
  have q4 : J10 (AD (52 + 12 + pp (ρ 4))) 4 = iz w := (tl 4 (by omega)).trans z4
  have q5 : J10 (AD (52 + 12 + pp (ρ 4))) 5 = iz l := (F10 _ (by omega) (by omega) 5 (by omega)).trans z5
  have e6 := b10.2.2.2.2.2.2.2.1
  have e4' : (sht7 f n p ρ c).er ≤ 4 := b10.2.2.2.2.2.2.2.2
  obtain ⟨o1, -⟩ := H.sc S c0 (show c < 3 by omega)
  have start : fX1_readShot fu sh I R (AD 2) (AD 52) = (if iz ((sht7 f n p ρ c).er : Int) = iz 0 then ((oI sh J10 (AD 52) 0 4).bind fun v22 => (oP sh J10 (AD 52) 0 4 (v22 + iz 1)).bind fun v23 => fX1_readShot_b130 fu sh R v23) else fX1_readShot_b130 fu sh R J10) := by
    simp only [fX1_readShot, if_pos (isT_of (S2 S)), c_can S H L V, can, bsome, iz_lit, oI_at (K52 S).1, L.1.2.2.2.1, L.1.2.2.2.2, iz_sub]
    rw [if_neg (show ¬ bz true = iz 0 by decide), if_pos (by rw [iz_lt (by omega) (by omega) (by decide) (by decide)]; omega), oR_at (K52 S).1 H.2.1, bsome, H.sht S hn.1 hn4, bsome, ← hc, oP_at kh, bsome, ← h0, oR_at (K52 S).1 H.1, bsome, oI_at kh, z0, bsome, o1, bsome, a1, bsome, a2, oHs, oP_at kh, bsome, ← h3, a4, oHs, oP_at kh, bsome, ← h5, a6, bsome, a7, bsome, a8, oHs, oP_at kh, bsome, ← h9, a10, bsome, oI_at (S2 S), e6, bsome]
  rw [start]
  unfold shtX
  by_cases z : (sht7 f n p ρ c).er = 0
  · obtain ⟨-, r1, r2, r3, r4, r5⟩ := sht_ok Wp z
    have ex : x = nmP f (scn1 f n p) := by rw [hx]; exact if_pos r1.1
    have ey : y = nmP f (sht2 f n p) := by rw [hy]; exact if_pos r2.1
    have et : t = nmP f (sht3 f n p) := tv r3.1
    have ew : w = paP f (sht4 f n p ρ c) := wv r4.1
    have el : l = nmP f (sht5 f n p ρ c) := by rw [hl]; exact if_pos r5.1
    obtain ⟨K, hK⟩ : ∃ J, J = _root_.Jvm.Pilot.@@N@@.u2 J10 (AD 52) 4 (iz (ρ 4 + 1)) := ⟨_, rfl⟩
    have FK : FR AD J10 K (fun i k => i = 52 ∧ k = 4) := by rw [hK]; exact FR.u2 S (by decide) (by decide) ⟨rfl, rfl⟩ (FR.rf AD J10 _)
    have kk : ∀ k, K (AD (52 + 12 + pp (ρ 4))) k = J10 (AD (52 + 12 + pp (ρ 4))) k := fun k => FK _ (by omega) (by omega) k (by omega)
    rw [if_pos (by rw [z]; rfl), if_pos z]
    refine ⟨K, ?_, b10.fr FK (fun _ => by omega) (fun _ => by omega), L10.sht V hn4 hp H.2.2.2.2 FK (fun i k _ _ w => Or.inl w) ?_ ((kk 0).trans q0) ?_ ?_ ?_ ?_ ?_, FR.tr (G10.wd fun i k w => by omega) (FK.wd fun i k w => by omega)⟩
    · rw [oI_at (K52 S).1, L10.1.2.2.2.2, bsome, oP_at (K52 S).1, bsome, iz_add, ← hK]
      rfl
    · rw [hK, u2_ad S (by decide) (by decide) (by decide) (by decide), if_pos ⟨rfl, rfl⟩]
    · rw [← ex]; exact (kk 1).trans q1
    · rw [← ey]; exact (kk 2).trans q2
    · rw [← et]; exact (kk 3).trans q3
    · rw [← ew]; exact (kk 4).trans q4
    · rw [← el]; exact (kk 5).trans q5
  · rw [if_neg (by rw [iz_eq (by omega) (by omega) (by decide) (by decide)]; omega), if_neg z]
    exact ⟨J10, rfl, b10, L10, G10.wd fun i k w => by omega⟩
theorem c_sht (S : OKS sh AD) (H : BSH R AD 52 pp) (hR : R (AD 2) 0 = some (AD 1)) (hfu : 5000 ≤ fu) (C : CST I AD f n p) (L : BVL I AD 52 pp ρ) (V : PV ρ) : ∃ I', fX1_readShot fu sh I R (AD 2) (AD 52) = some I' ∧ CST I' AD f n (shtD f n (p, ρ)).1 ∧ BVL I' AD 52 pp (shtD f n (p, ρ)).2 ∧ FRD AD I I' := by
  have hp : ∀ s, 0 ≤ s → s < 12 → 0 ≤ pp s ∧ pp s < 12 := fun s g0 g1 => (H.2.2.2.1 s g0 g1).2
  have hn := V.2.1
  by_cases z : canS ρ = false
  · have e : shtD f n (p, ρ) = (falP p 1, ρ) := if_pos z
    obtain ⟨J, a, b, c⟩ := c_fail (fu := fu) (R := R) S C (e := 1) (by decide)
    have a' : fX1_fail fu sh I R (AD 2) (iz 1) = some J := a
    rw [e]
    dsimp only
    refine ⟨J, ?_, b, L.fq V (by decide) (by decide) hp c (fun i k g0 g1 => by omega), c.wd fun i k q => Or.inl q⟩
    simp only [fX1_readShot, if_pos (isT_of (S2 S)), c_can S H L V, z, bsome, iz_lit, a']
    rfl
  · have zt : canS ρ = true := by revert z; cases canS ρ <;> simp
    have h1 : 1 ≤ ρ 3 ∧ 0 < csS ρ (ρ 3 - 1) := of_decide_eq_true zt
    by_cases y : ρ 4 < 12
    · have e : shtD f n (p, ρ) = (sht7 f n p ρ (ρ 3 - 1), shtX f n p ρ (ρ 3 - 1)) := (if_neg z).trans (if_pos y)
      rw [e]
      dsimp only
      exact c_shtGo S H hR hfu C L V y rfl (by omega) zt
    · have e : shtD f n (p, ρ) = (falP p 4, ρ) := (if_neg z).trans (if_neg y)
      obtain ⟨J, a, b, c⟩ := c_fail (fu := fu) (R := R) S C (e := 4) (by decide)
      have a' : fX1_fail fu sh I R (AD 2) (iz 4) = some J := a
      rw [e]
      dsimp only
      refine ⟨J, ?_, b, L.fq V (by decide) (by decide) hp c (fun i k g0 g1 => by omega), c.wd fun i k q => Or.inl q⟩
      simp only [fX1_readShot, if_pos (isT_of (S2 S)), c_can S H L V, zt, bsome, iz_lit, a', oI_at (K52 S).1, L.1.2.2.2.2]
      rw [if_neg (show ¬ bz true = iz 0 by decide), if_neg (by rw [iz_lt (by omega) (by omega) (by decide) (by decide)]; exact y)]
/-- one statement; what is left of the text when there is none -/
def stmD (f : Nat → Int) (n : Nat) (X : PS × RHO) : PS × RHO := if wdP f X.1 16 = true then (scn3 f n (scnQ X.1 X.2), scnX f n (scnQ X.1 X.2) X.2) else if wdP f X.1 5 = true then actD f n X else if wdP f X.1 18 = true then shtD f n X else (falP X.1 1, X.2)
def dspD (f : Nat → Int) (n : Nat) (X : PS × RHO) : PS × RHO := if X.1.er = 0 then (if X.1.tk = 0 then (if canS X.2 = true then X else (falP X.1 1, X.2)) else stmD f n X) else X
theorem c_stm (S : OKS sh AD) (H : BSH R AD 52 pp) (hR : R (AD 2) 0 = some (AD 1)) (hfu : 5000 ≤ fu) (C : CST I AD f n p) (L : BVL I AD 52 pp ρ) (V : PV ρ) : ∃ I', fX1_readStatement fu sh I R (AD 2) (AD 52) = some I' ∧ CST I' AD f n (stmD f n (p, ρ)).1 ∧ BVL I' AD 52 pp (stmD f n (p, ρ)).2 ∧ FRD AD I I' := by
  have hp : ∀ s, 0 ≤ s → s < 12 → 0 ≤ pp s ∧ pp s < 12 := fun s g0 g1 => (H.2.2.2.1 s g0 g1).2
  simp only [fX1_readStatement, fX1_readStatement_b56, if_pos (isT_of (S2 S)), c_kwd S hR hfu C (show 16 < 22 by decide), c_kwd S hR hfu C (show 5 < 22 by decide), c_kwd S hR hfu C (show 18 < 22 by decide), bsome, iz_lit, bz_zero]
  by_cases z1 : wdP f p 16 = true
  · have e : stmD f n (p, ρ) = (scn3 f n (scnQ p ρ), scnX f n (scnQ p ρ) ρ) := if_pos z1
    obtain ⟨J, a, b, c, d⟩ := c_scn S H hR hfu C L V
    rw [z1, if_neg (by decide), a, bsome, e]
    dsimp only
    exact ⟨J, rfl, b, c, d⟩
  · rw [if_pos (by revert z1; cases wdP f p 16 <;> simp)]
    by_cases z2 : wdP f p 5 = true
    · have e : stmD f n (p, ρ) = actD f n (p, ρ) := (if_neg z1).trans (if_pos z2)
      obtain ⟨J, a, b, c, d⟩ := c_act S H hR hfu C L V
      rw [z2, if_neg (by decide), a, bsome, e]
      exact ⟨J, rfl, b, c, d⟩
    · rw [if_pos (by revert z2; cases wdP f p 5 <;> simp)]
      by_cases z3 : wdP f p 18 = true
      · have e : stmD f n (p, ρ) = shtD f n (p, ρ) := (if_neg z1).trans ((if_neg z2).trans (if_pos z3))
        obtain ⟨J, a, b, c, d⟩ := c_sht S H hR hfu C L V
        rw [z3, if_neg (by decide), a, bsome, e]
        exact ⟨J, rfl, b, c, d⟩
      · have e : stmD f n (p, ρ) = (falP p 1, ρ) := (if_neg z1).trans ((if_neg z2).trans (if_neg z3))
        obtain ⟨J, a, b, c⟩ := c_fail (fu := fu) (R := R) S C (e := 1) (by decide)
        have a' : fX1_fail fu sh I R (AD 2) (iz 1) = some J := a
        rw [if_pos (by revert z3; cases wdP f p 18 <;> simp), a', bsome, e]
        dsimp only
        exact ⟨J, rfl, b, L.fq V (by decide) (by decide) hp c (fun i k g0 g1 => by omega), c.wd fun i k q => Or.inl q⟩
end Q59
