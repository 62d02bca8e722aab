/-! STAGE 2: setLimits, setLight, setLength of the reference -/
section Q26
variable {fu : Nat} {sh : HS} {I I' J : HI} {R : HR} {AD : Int → Nat} {P : Int → Int → Int} {σ : STT} {ρ ρ' : RHO} {p : Int → Int} {r t f c l s : Int}
theorem fls {p : Prop} {b : Bool} (h : (b = true) = p) (n : ¬ p) : b = false := by
  cases q : b
  · rfl
  · exact absurd (h.mp q) n
theorem ra_setLight (S : OKS sh AD) (V : VST σ) (hfu : 5000 ≤ fu) (hc : IR c) (hl : IR l) : RA AD R σ (sLgt σ c l) (fun I => fX11_setLight fu sh I R (AD 316) (iz c) (iz l)) (aLgt σ c l) := by
  have n3 := V.n3
  have e26 : ∀ I, RIB I R AD σ → fX11_setLight fu sh I R (AD 316) (iz c) (iz l) = fX11_setLight_b26 fu sh R I (AD 316) (iz c) (iz l) (bz (decide ((0 ≤ c ∧ c ≤ σ.2.1 3 - 1) ∧ (0 ≤ l ∧ l ≤ 3)))) (AD 316) := by
    intro I H
    simp only [fX11_setLight, fX11_setLight_b25, if_pos (isT_of S.md), r_isScene S H V hc, jlit, r_isInC hl (by decide : (-1000 : Int) ≤ 0) (by decide) (by decide : (-1000 : Int) ≤ 3) (by decide), bsome, iz_lit, bz_zero]
    by_cases z : 0 ≤ c ∧ c ≤ σ.2.1 3 - 1
    · rw [if_neg (by rw [(bdec (p := 0 ≤ c) (q := c ≤ σ.2.1 3 - 1)).mpr z]; decide)]
      by_cases w : 0 ≤ l ∧ l ≤ 3
      · rw [decide_eq_true w, if_neg (by decide), decide_eq_true (show (0 ≤ c ∧ c ≤ σ.2.1 3 - 1) ∧ (0 ≤ l ∧ l ≤ 3) from ⟨z, w⟩)]; rfl
      · rw [decide_eq_false w, if_pos rfl, decide_eq_false (fun k => w k.2)]; rfl
    · rw [if_pos (fls bdec z), decide_eq_false (fun k => z k.1)]; rfl
  refine RA.of (fu := fu) S e26 (fun h => ?_) (fun h hg => ?_) (fun h hg J HJ e5 => ?_)
  · have : ¬ σ.1 = true := by rw [h]; decide
    unfold aLgt sLgt
    rw [if_neg this, if_neg this]
    exact ⟨rfl, rfl⟩
  · have := of_decide_eq_false hg
    unfold aLgt sLgt
    rw [if_pos h, if_pos h, if_neg this, if_neg this]
    exact ⟨rfl, rfl⟩
  · have z := of_decide_eq_true hg
    obtain ⟨J1, e1, H1, F1⟩ := r_begin (fu := fu) S HJ V hfu
    have W1 : RW J1 AD σ.2.1 := H1.2.1
    have F2 : FR AD J1 (u2 J1 (AD 317) (5 + 14 * c).toNat (iz l)) (fun i _ => i = 317) := FR.u2 S (by decide) (by decide) rfl (FR.rf AD J1 _)
    have W2 := RW.w1 S W1 (j := 5 + 14 * c) (by omega) l
    refine ⟨u2 J1 (AD 317) (5 + 14 * c).toNat (iz l), ?_, ?_, ?_, (F1.wd fun i k z => by omega).tr (F2.wd fun i k z => by omega)⟩
    · unfold aLgt
      rw [if_pos h, if_pos z]
      simp only [e1, bsome, oR_at S.md HJ.1.1.1, fX11_sceneAt, iz_lit, iz_mul, iz_add, r_row S HJ.1 W1 (show 0 ≤ 5 + 14 * c by omega) (show 5 + 14 * c < 119 by omega), oS_iz S.rw (show 0 ≤ 5 + 14 * c by omega) (show 5 + 14 * c < (119 : Nat) by omega) (by omega)]
      rfl
    · unfold aLgt
      rw [if_pos h, if_pos z, F2 316 (by decide) (by decide) 5 (by omega), F1 316 (by decide) (by decide) 5 (by omega), e5]
      rfl
    · unfold sLgt
      rw [if_pos h, if_pos z]
      exact r_done H1 F2 W2
theorem ra_setLength (S : OKS sh AD) (V : VST σ) (hfu : 5000 ≤ fu) (hs : IR s) (hl : IR l) : RA AD R σ (sLen_ σ s l) (fun I => fX11_setLength fu sh I R (AD 316) (iz s) (iz l)) (aLen σ s l) := by
  have n4 := V.n4
  have e26 : ∀ I, RIB I R AD σ → fX11_setLength fu sh I R (AD 316) (iz s) (iz l) = fX11_setLength_b26 fu sh R I (AD 316) (iz s) (iz l) (bz (decide ((0 ≤ s ∧ s ≤ σ.2.1 4 - 1) ∧ (1 ≤ l ∧ l ≤ 99)))) (AD 316) := by
    intro I H
    simp only [fX11_setLength, fX11_setLength_b25, if_pos (isT_of S.md), r_isShot S H V hs, jlit, r_isInC hl (by decide : (-1000 : Int) ≤ 1) (by decide) (by decide : (-1000 : Int) ≤ 99) (by decide), bsome, iz_lit, bz_zero]
    by_cases z : 0 ≤ s ∧ s ≤ σ.2.1 4 - 1
    · rw [if_neg (by rw [(bdec (p := 0 ≤ s) (q := s ≤ σ.2.1 4 - 1)).mpr z]; decide)]
      by_cases w : 1 ≤ l ∧ l ≤ 99
      · rw [decide_eq_true w, if_neg (by decide), decide_eq_true (show (0 ≤ s ∧ s ≤ σ.2.1 4 - 1) ∧ (1 ≤ l ∧ l ≤ 99) from ⟨z, w⟩)]; rfl
      · rw [decide_eq_false w, if_pos rfl, decide_eq_false (fun k => w k.2)]; rfl
    · rw [if_pos (fls bdec z), decide_eq_false (fun k => z k.1)]; rfl
  refine RA.of (fu := fu) S e26 (fun h => ?_) (fun h hg => ?_) (fun h hg J HJ e5 => ?_)
  · have : ¬ σ.1 = true := by rw [h]; decide
    unfold aLen sLen_
    rw [if_neg this, if_neg this]
    exact ⟨rfl, rfl⟩
  · have := of_decide_eq_false hg
    unfold aLen sLen_
    rw [if_pos h, if_pos h, if_neg this, if_neg this]
    exact ⟨rfl, rfl⟩
  · have z := of_decide_eq_true hg
    obtain ⟨J1, e1, H1, F1⟩ := r_begin (fu := fu) S HJ V hfu
    have W1 : RW J1 AD σ.2.1 := H1.2.1
    have F2 : FR AD J1 (u2 J1 (AD 317) (47 + 6 * s + 5).toNat (iz l)) (fun i _ => i = 317) := FR.u2 S (by decide) (by decide) rfl (FR.rf AD J1 _)
    have W2 := RW.w1 S W1 (j := 47 + 6 * s + 5) (by omega) l
    refine ⟨u2 J1 (AD 317) (47 + 6 * s + 5).toNat (iz l), ?_, ?_, ?_, (F1.wd fun i k z => by omega).tr (F2.wd fun i k z => by omega)⟩
    · unfold aLen
      rw [if_pos h, if_pos z]
      simp only [e1, bsome, iz_lit, r_get S HJ.1 W1 z.1.1 (show s < 12 by omega) (by decide : (0 : Int) ≤ 5) (by decide : (5 : Int) < 6), r_set S HJ.1 z.1.1 (show s < 12 by omega) (by decide : (0 : Int) ≤ 5) (by decide : (5 : Int) < 6)]
      rfl
    · unfold aLen
      rw [if_pos h, if_pos z, F2 316 (by decide) (by decide) 5 (by omega), F1 316 (by decide) (by decide) 5 (by omega), e5]
      rfl
    · unfold sLen_
      rw [if_pos h, if_pos z]
      exact r_done H1 F2 W2
theorem ra_setLimits (S : OKS sh AD) (V : VST σ) (hfu : 5000 ≤ fu) (hr : IR r) (ht : IR t) (hf : IR f) : RA AD R σ (sLim σ r t f) (fun I => fX11_setLimits fu sh I R (AD 316) (iz r) (iz t) (iz f)) (aLim σ r t f) := by
  have e42 : ∀ I, RIB I R AD σ → fX11_setLimits fu sh I R (AD 316) (iz r) (iz t) (iz f) = fX11_setLimits_b42 fu sh R I (AD 316) (iz r) (iz t) (iz f) (bz (decide ((0 ≤ r ∧ r ≤ 99) ∧ (0 ≤ t ∧ t ≤ 2000) ∧ (0 ≤ f ∧ f ≤ 2000)))) (AD 316) := by
    intro I H
    simp only [fX11_setLimits, fX11_setLimits_b41, if_pos (isT_of S.md), jlit, r_isInC hr (by decide : (-1000 : Int) ≤ 0) (by decide) (by decide : (-1000 : Int) ≤ 99) (by decide), r_isInC ht (by decide : (-1000 : Int) ≤ 0) (by decide) (by decide : (-1000 : Int) ≤ 2000) (by decide), r_isInC hf (by decide : (-1000 : Int) ≤ 0) (by decide) (by decide : (-1000 : Int) ≤ 2000) (by decide), bsome, iz_lit, bz_zero]
    by_cases z : 0 ≤ r ∧ r ≤ 99
    · rw [decide_eq_true z, if_neg (by decide)]
      by_cases w : 0 ≤ t ∧ t ≤ 2000
      · rw [decide_eq_true w, if_neg (by decide)]
        by_cases v : 0 ≤ f ∧ f ≤ 2000
        · rw [decide_eq_true v, if_neg (by decide), decide_eq_true (show (0 ≤ r ∧ r ≤ 99) ∧ (0 ≤ t ∧ t ≤ 2000) ∧ (0 ≤ f ∧ f ≤ 2000) from ⟨z, w, v⟩)]; rfl
        · rw [decide_eq_false v, if_pos rfl, decide_eq_false (fun k => v k.2.2)]; rfl
      · rw [decide_eq_false w, if_pos rfl, decide_eq_false (fun k => w k.2.1)]; rfl
    · rw [decide_eq_false z, if_pos rfl, decide_eq_false (fun k => z k.1)]; rfl
  refine RA.of (fu := fu) S e42 (fun h => ?_) (fun h hg => ?_) (fun h hg J HJ e5 => ?_)
  · have : ¬ σ.1 = true := by rw [h]; decide
    unfold aLim sLim
    rw [if_neg this, if_neg this]
    exact ⟨rfl, rfl⟩
  · have := of_decide_eq_false hg
    unfold aLim sLim
    rw [if_pos h, if_pos h, if_neg this, if_neg this]
    exact ⟨rfl, rfl⟩
  · have z := of_decide_eq_true hg
    obtain ⟨J1, e1, H1, F1⟩ := r_begin (fu := fu) S HJ V hfu
    have W1 : RW J1 AD σ.2.1 := H1.2.1
    have F2 : FR AD J1 (u2 (u2 (u2 J1 (AD 317) (0 : Int).toNat (iz r)) (AD 317) (1 : Int).toNat (iz t)) (AD 317) (2 : Int).toNat (iz f)) (fun i _ => i = 317) := FR.u2 S (by decide) (by decide) rfl (FR.u2 S (by decide) (by decide) rfl (FR.u2 S (by decide) (by decide) rfl (FR.rf AD J1 _)))
    have W2 : RW (u2 (u2 (u2 J1 (AD 317) (0 : Int).toNat (iz r)) (AD 317) (1 : Int).toNat (iz t)) (AD 317) (2 : Int).toNat (iz f)) AD (limS σ.2.1 r t f) := RW.w1 S (RW.w1 S (RW.w1 S W1 (j := 0) (by decide) r) (j := 1) (by decide) t) (j := 2) (by decide) f
    have WV := lim_V (V.1 h) z
    have H2 := r_done H1 F2 W2
    have e0 : limS σ.2.1 r t f 0 = r := by unfold limS; rw [up1_ne (by decide), up1_ne (by decide), up1_eq]
    obtain ⟨I', e3, g3, H3, q5, F3⟩ := r_know1 (fu := fu) S H2 (V.act h WV) hfu h z.1.1 z.1.2
    refine ⟨I', ?_, ?_, ?_, ((F1.wd fun i k z => by omega).tr (F2.wd fun i k z => by omega)).tr F3⟩
    · unfold aLim
      rw [if_pos h, if_pos z]
      have e4 : oA sh (u2 (u2 (u2 J1 (AD 317) (0 : Int).toNat (iz r)) (AD 317) (1 : Int).toNat (iz t)) (AD 317) (2 : Int).toNat (iz f)) (AD 317) (iz 0) = some (iz r) := by
        rw [r_row S HJ.1 W2 (by decide : (0 : Int) ≤ 0) (by decide : (0 : Int) < 119), e0]
      simp only [e1, bsome, oR_at S.md HJ.1.1.1, iz_lit, oS_iz S.rw (show (0 : Int) ≤ 0 by decide) (show (0 : Int) < (119 : Nat) by decide) (by decide), oS_iz S.rw (show (0 : Int) ≤ 1 by decide) (show (1 : Int) < (119 : Nat) by decide) (by decide), oS_iz S.rw (show (0 : Int) ≤ 2 by decide) (show (2 : Int) < (119 : Nat) by decide) (by decide)]
      rw [e4, bsome, e3, oHs]
      show some (iz (mG_ (limS σ.2.1 r t f) r (limS σ.2.1 r t f 4).toNat : Int), I') = some (iz (mG_ (limS σ.2.1 r t f) (limS σ.2.1 r t f 0) (limS σ.2.1 r t f 4).toNat : Int), I')
      rw [e0]
    · unfold aLim
      rw [if_pos h, if_pos z, q5, F2 316 (by decide) (by decide) 5 (by omega), F1 316 (by decide) (by decide) 5 (by omega), e5]
      rfl
    · unfold sLim
      rw [if_pos h, if_pos z]
      exact H3
end Q26
