/-! STAGE 2: setups told and changes, the reference -/
def aChange (σ : STT) (i j : Int) : Int ⊕ Nat := if σ.1 = true then (if (-1 ≤ i ∧ i ≤ (mSet σ.2.1 : Int) - 1) ∧ (0 ≤ j ∧ j ≤ (mSet σ.2.1 : Int) - 1) then .inl (prG σ.2.1 i j.toNat) else .inr 2) else .inr 1
section Q8
variable {fu : Nat} {sh : HS} {I : HI} {R : HR} {AD : Int → Nat} {P : Int → Int → Int} {σ : STT} {ρ : RHO}
/-- the setups of the reference, with a board or without -/
theorem r_knowS (S : OKS sh AD) (H : RIB I R AD σ) (V : VST σ) (hfu : 5000 ≤ fu) :
    ∃ (m : Nat) (I' : HI), fX11_setupsNow fu sh I R (AD 316) (iz (σ.2.1 0)) = some (iz (m : Int), I') ∧ m ≤ 12 ∧ RIB I' R AD σ ∧ FR AD I I' (fun i _ => 316 ≤ i) ∧ (σ.1 = true → m = mSet σ.2.1 ∧ SG I' AD σ.2.1 (σ.2.1 0) (σ.2.1 4).toNat) := by
  by_cases h : σ.1 = true
  · have vl := (V.1 h).lim
    obtain ⟨I', e, g, H2, e2, f2⟩ := r_know1 (fu := fu) S H V hfu h vl.1.1 vl.1.2
    exact ⟨mSet σ.2.1, I', e, mSet_le (V.1 h), H2, f2, fun _ => ⟨rfl, g⟩⟩
  · have hf : σ.1 = false := by simpa using h
    have f : FR AD I (u2 I (AD 316) 22 (iz 0)) (fun i k => i = 316 ∧ k = 22) := FR.u2 S (by decide) (by decide) ⟨rfl, rfl⟩ (FR.rf AD I _)
    have H1 : RIB (u2 I (AD 316) 22 (iz 0)) R AD σ := H.fr (f.wd fun i k z => by unfold RSC; omega)
    refine ⟨0, _, ?_, by decide, H1, f.wd fun i k z => by omega, fun z => absurd z h⟩
    obtain ⟨n, rfl⟩ : ∃ n, fu = n + 1 := ⟨fu - 1, by omega⟩
    have u : u2 I (AD 316) 22 (iz 0) (AD 316) 22 = iz 0 := by rw [u2_ad S (by decide) (by decide) (by decide) (by decide), if_pos ⟨rfl, rfl⟩]
    simp only [fX11_setupsNow, if_pos (isT_of S.md), oP_at S.md, bsome, iz_lit]
    show fX11_setupsNow_b7 (n + 1) sh R (fX11_setupsNow_l7 (n + 1) sh R n) _ _ _ _ = _
    simp only [fX11_setupsNow_b7, oR_at S.md H.1.1.1, bsome, iz_lit, r_row S H1.1 H1.2.1 (by decide : (0 : Int) ≤ 4) (by decide : (4 : Int) < 119), (V.2.1 hf).2 4, oI_at S.md, u]
    rw [if_pos (by rw [iz_le (by decide) (by decide) (by decide) (by decide)]; decide)]
    rfl
theorem rq_setup (S : OKS sh AD) (V : VST σ) (hfu : 5000 ≤ fu) {k b : Int} (hk : IR k) (hb : IR b) : RQ sh AD R σ (fun I => fX11_setup fu sh I R (AD 316) (iz k) (iz b)) (aSetup σ k b) := by
  intro I H
  unfold aSetup
  have r0 := r_row S H.1 H.2.1 (by decide : (0 : Int) ≤ 0) (by decide : (0 : Int) < 119)
  have n4 := V.n4
  by_cases y : 0 ≤ b ∧ b ≤ 4
  · obtain ⟨m, J, e, hm, HJ, fJ, ok⟩ := r_knowS (fu := fu) S H V hfu
    obtain ⟨g, hg⟩ : ∃ g, g = decide (0 ≤ k ∧ k ≤ (m : Int) - 1) := ⟨_, rfl⟩
    have w := r_isWrong (fu := fu) (R := R) (σ := σ) S HJ.2.2.1.2.1 g
    have e40 : fX11_setup fu sh I R (AD 316) (iz k) (iz b) = fX11_setup_b40 fu sh R J (AD 316) (iz k) (iz b) (bz g) (AD 316) := by
      simp only [fX11_setup, fX11_setup_b39, if_pos (isT_of S.md), jlit, r_isInC hb (by decide : (-1000 : Int) ≤ 0) (by decide) (by decide : (-1000 : Int) ≤ 4) (by decide), bsome, iz_lit, bz_zero]
      rw [decide_eq_true y, if_neg (by decide)]
      simp only [oR_at S.md H.1.1.1, bsome, r0, e, oHs, iz_sub]
      rw [toJ_iz (a := (m : Int) - 1) (by omega) (by omega), r_isInC hk (by decide) (by decide) (by omega) (by omega), bsome]
      simp only [bz_zero]
      rw [← hg]
      cases g
      · rw [if_pos rfl]; rfl
      · rw [if_neg (by decide)]; rfl
    by_cases h : σ.1 = true
    · obtain ⟨rfl, G⟩ := ok h
      by_cases z : 0 ≤ k ∧ k ≤ (mSet σ.2.1 : Int) - 1
      · rw [wr0 h (by rw [hg, decide_eq_true z])] at w
        obtain ⟨H1, e5, f1⟩ := r_out (σ := σ) S HJ 0
        refine ⟨_, ?_, ?_, H1, fJ.tr f1⟩
        · refine e40.trans ?_
          have W := V.1 h
          have hl : k.toNat < mG_ σ.2.1 (σ.2.1 0) (σ.2.1 4).toNat := (by omega : k.toNat < mSet σ.2.1)
          have f5 : FR AD J (u2 J (AD 316) 5 (iz ((0 : Nat) : Int))) (fun i k => i = 316 ∧ k = 5) := FR.u2 S (by decide) (by decide) ⟨rfl, rfl⟩ (FR.rf AD J _)
          have G1 := G.fr f5 (by decide) (fun i k g1 g2 => by omega)
          have fl := fG_lt σ.2.1 (σ.2.1 0) (σ.2.1 4).toNat k.toNat hl
          have x1 := oA_iz (I := u2 J (AD 316) 5 (iz ((0 : Nat) : Int))) (S.at (i := 325) (t := 20) (n := 12) rfl (by decide) (by decide)) z.1 (show k < ((12 : Nat) : Int) by omega) hk.2
          have x2 := oA_iz (I := u2 J (AD 316) 5 (iz ((0 : Nat) : Int))) (S.at (i := 326) (t := 20) (n := 12) rfl (by decide) (by decide)) z.1 (show k < ((12 : Nat) : Int) by omega) hk.2
          rw [G1.2.1 _ hl] at x1
          rw [G1.2.2.1 _ hl] at x2
          have ql := qh_lt σ.2.1 (σ.2.1 0) (σ.2.1 4).toNat k.toNat (σ.2.1 4).toNat (by omega)
          have x3 : fX11_actorsIn fu sh (u2 J (AD 316) 5 (iz ((0 : Nat) : Int))) R (AD 316) (iz k) = some (iz (gaS σ.2.1 (σ.2.1 0) k.toNat : Int)) := by
            rw [iz_tn (x := k) z.1]
            exact r_actors S H1.1 H1.2.1 W hfu G1 hl
          have x4 : fX11_lengthOf fu sh (u2 J (AD 316) 5 (iz ((0 : Nat) : Int))) R (AD 316) (iz (qG σ.2.1 (σ.2.1 0) (σ.2.1 4).toNat k.toNat : Int)) = some (iz (gnS σ.2.1 (σ.2.1 0) k.toNat)) := by
            rw [show qG σ.2.1 (σ.2.1 0) (σ.2.1 4).toNat k.toNat = qhG σ.2.1 (σ.2.1 0) (σ.2.1 4).toNat k.toNat (σ.2.1 4).toNat from rfl, r_length S H1.1 H1.2.1 W hfu (by omega), lnM_sn _ _ _ _ _ (Nat.le_refl _)]
            rfl
          have x5 : fX11_sceneOf fu sh (u2 J (AD 316) 5 (iz ((0 : Nat) : Int))) R (AD 316) (iz (fG σ.2.1 (σ.2.1 0) (σ.2.1 4).toNat k.toNat : Int)) = some (iz (gsS σ.2.1 (σ.2.1 0) k.toNat)) := r_sceneOf S H1.1 H1.2.1 (by omega) (by omega)
          simp only [fX11_setup_b40, w, oHs, iz_lit, bz_zero]
          rw [if_pos (by decide), if_pos h, if_pos (show (0 ≤ k ∧ k ≤ (mSet σ.2.1 : Int) - 1) ∧ (0 ≤ b ∧ b ≤ 4) from ⟨z, y⟩)]
          simp only [oR_at S.md H.1.2.2.1, oR_at S.md H.1.2.2.2.1, bsome, x1, x2, x3, x4, x5]
          have q : b = 0 ∨ b = 1 ∨ b = 2 ∨ b = 3 ∨ b = 4 := by omega
          rcases q with rfl | rfl | rfl | rfl | rfl <;> rfl
        · rw [e5, if_pos h, if_pos ⟨z, y⟩]
          rfl
      · rw [wr2 h (by rw [hg, decide_eq_false z])] at w
        obtain ⟨H1, e5, f1⟩ := r_out (σ := σ) S HJ 2
        refine ⟨_, ?_, ?_, H1, fJ.tr f1⟩
        · refine e40.trans ?_
          simp only [fX11_setup_b40, w, oHs, iz_lit, bz_zero]
          rw [if_neg (by decide), if_pos h, if_neg (fun k => z k.1)]
          rfl
        · rw [e5, if_pos h, if_neg (fun k => z k.1)]
          rfl
    · have hf : σ.1 = false := by simpa using h
      rw [wr1 hf] at w
      obtain ⟨H1, e5, f1⟩ := r_out (σ := σ) S HJ 1
      refine ⟨_, ?_, ?_, H1, fJ.tr f1⟩
      · refine e40.trans ?_
        simp only [fX11_setup_b40, w, oHs, iz_lit, bz_zero]
        rw [if_neg (by decide), if_neg h]
        rfl
      · rw [e5, if_neg h]
        rfl
  · have w := r_isWrong (fu := fu) (R := R) (σ := σ) S H.2.2.1.2.1 false
    have e40 : fX11_setup fu sh I R (AD 316) (iz k) (iz b) = fX11_setup_b40 fu sh R I (AD 316) (iz k) (iz b) (bz false) (AD 316) := by
      simp only [fX11_setup, fX11_setup_b39, if_pos (isT_of S.md), jlit, r_isInC hb (by decide : (-1000 : Int) ≤ 0) (by decide) (by decide : (-1000 : Int) ≤ 4) (by decide), bsome, iz_lit, bz_zero]
      rw [decide_eq_false y, if_pos rfl]
      rfl
    by_cases h : σ.1 = true
    · rw [wr2 h rfl] at w
      obtain ⟨H1, e5, f1⟩ := r_out (σ := σ) S H 2
      refine ⟨_, ?_, ?_, H1, f1⟩
      · refine e40.trans ?_
        simp only [fX11_setup_b40, w, oHs, iz_lit, bz_zero]
        rw [if_neg (by decide), if_pos h, if_neg (fun k => y k.2)]
        rfl
      · rw [e5, if_pos h, if_neg (fun k => y k.2)]
        rfl
    · have hf : σ.1 = false := by simpa using h
      rw [wr1 hf] at w
      obtain ⟨H1, e5, f1⟩ := r_out (σ := σ) S H 1
      refine ⟨_, ?_, ?_, H1, f1⟩
      · refine e40.trans ?_
        simp only [fX11_setup_b40, w, oHs, iz_lit, bz_zero]
        rw [if_neg (by decide), if_neg h]
        rfl
      · rw [e5, if_neg h]
        rfl
theorem rq_change (S : OKS sh AD) (V : VST σ) (hfu : 5000 ≤ fu) {i j : Int} (hi : IR i) (hj : IR j) : RQ sh AD R σ (fun I => fX11_change fu sh I R (AD 316) (iz i) (iz j)) (aChange σ i j) := by
  intro I H
  unfold aChange
  have r0 := r_row S H.1 H.2.1 (by decide : (0 : Int) ≤ 0) (by decide : (0 : Int) < 119)
  have b21 : ∀ (J : HI) (m : Nat), m ≤ 12 → fX11_change_b21 fu sh R J (AD 316) (iz i) (iz j) (iz (m : Int)) = fX11_change_b56 fu sh R J (AD 316) (iz i) (iz j) (bz (decide ((-1 ≤ i ∧ i ≤ (m : Int) - 1) ∧ (0 ≤ j ∧ j ≤ (m : Int) - 1)))) (AD 316) := by
    intro J m hm
    simp only [fX11_change_b21, fX11_change_b55, jlit, jneg, iz_lit, iz_sub]
    rw [toJ_iz (a := (m : Int) - 1) (by omega) (by omega), r_isInC hi (by decide) (by decide) (by omega) (by omega), r_isInC hj (by decide) (by decide) (by omega) (by omega)]
    simp only [bsome, bz_zero]
    by_cases z : -1 ≤ i ∧ i ≤ (m : Int) - 1
    · rw [decide_eq_true z, if_neg (by decide)]
      by_cases y : 0 ≤ j ∧ j ≤ (m : Int) - 1
      · rw [decide_eq_true y, if_neg (by decide), decide_eq_true (show (-1 ≤ i ∧ i ≤ (m : Int) - 1) ∧ (0 ≤ j ∧ j ≤ (m : Int) - 1) from ⟨z, y⟩)]
        rfl
      · rw [decide_eq_false y, if_pos rfl, decide_eq_false (fun k => y k.2)]
        rfl
    · rw [decide_eq_false z, if_pos rfl, decide_eq_false (fun k => z k.1)]
      rfl
  by_cases h : σ.1 = true
  · obtain ⟨m, J, e, hm, HJ, fJ, ok⟩ := r_knowS (fu := fu) S H V hfu
    obtain ⟨rfl, G⟩ := ok h
    have e56 : fX11_change fu sh I R (AD 316) (iz i) (iz j) = fX11_change_b56 fu sh R J (AD 316) (iz i) (iz j) (bz (decide ((-1 ≤ i ∧ i ≤ (mSet σ.2.1 : Int) - 1) ∧ (0 ≤ j ∧ j ≤ (mSet σ.2.1 : Int) - 1)))) (AD 316) := by
      rw [← b21 J _ hm]
      simp only [fX11_change, if_pos (isT_of S.md), oI_at S.md, H.2.2.1.2.1, bsome, iz_lit, bz_zero, h]
      rw [if_neg (by decide)]
      simp only [oR_at S.md H.1.1.1, bsome, r0, e, oHs]
    have w := r_isWrong (fu := fu) (R := R) (σ := σ) S HJ.2.2.1.2.1 (decide ((-1 ≤ i ∧ i ≤ (mSet σ.2.1 : Int) - 1) ∧ (0 ≤ j ∧ j ≤ (mSet σ.2.1 : Int) - 1)))
    by_cases z : (-1 ≤ i ∧ i ≤ (mSet σ.2.1 : Int) - 1) ∧ (0 ≤ j ∧ j ≤ (mSet σ.2.1 : Int) - 1)
    · rw [wr0 h (decide_eq_true z)] at w
      obtain ⟨H1, e5, f1⟩ := r_out (σ := σ) S HJ 0
      refine ⟨_, ?_, ?_, H1, fJ.tr f1⟩
      · refine e56.trans ?_
        have f5 : FR AD J (u2 J (AD 316) 5 (iz ((0 : Nat) : Int))) (fun i k => i = 316 ∧ k = 5) := FR.u2 S (by decide) (by decide) ⟨rfl, rfl⟩ (FR.rf AD J _)
        have G1 := G.fr f5 (by decide) (fun i k g1 g2 => by omega)
        simp only [fX11_change_b56, fX11_change_b72, w, oHs, iz_lit, bz_zero]
        rw [if_pos (by decide), iz_tn (x := j) z.2.1, r_chg S H1.1 H1.2.1 (V.1 h) hfu G1 z.1.1 (by omega) (by omega), bsome, if_pos h, if_pos z]
        rfl
      · rw [e5, if_pos h, if_pos z]
        rfl
    · rw [wr2 h (decide_eq_false z)] at w
      obtain ⟨H1, e5, f1⟩ := r_out (σ := σ) S HJ 2
      refine ⟨_, ?_, ?_, H1, fJ.tr f1⟩
      · refine e56.trans ?_
        simp only [fX11_change_b56, fX11_change_b72, w, oHs, iz_lit, bz_zero]
        rw [if_neg (by decide), if_pos h, if_neg z]
        rfl
      · rw [e5, if_pos h, if_neg z]
        rfl
  · have hf : σ.1 = false := by simpa using h
    have w := r_isWrong (fu := fu) (R := R) (σ := σ) S H.2.2.1.2.1 (decide ((-1 ≤ i ∧ i ≤ ((0 : Nat) : Int) - 1) ∧ (0 ≤ j ∧ j ≤ ((0 : Nat) : Int) - 1)))
    rw [wr1 hf] at w
    obtain ⟨H1, e5, f1⟩ := r_out (σ := σ) S H 1
    refine ⟨_, ?_, ?_, H1, f1⟩
    · have q := b21 I 0 (by decide)
      have e56 : fX11_change fu sh I R (AD 316) (iz i) (iz j) = fX11_change_b21 fu sh R I (AD 316) (iz i) (iz j) (iz ((0 : Nat) : Int)) := by
        simp only [fX11_change, if_pos (isT_of S.md), oI_at S.md, H.2.2.1.2.1, bsome, iz_lit, bz_zero, hf]
        rw [if_pos True.intro]
        rfl
      refine (e56.trans q).trans ?_
      simp only [fX11_change_b56, fX11_change_b72, w, oHs, iz_lit, bz_zero]
      rw [if_neg (by decide), if_neg h]
      rfl
    · rw [e5, if_neg h]
      rfl
end Q8
