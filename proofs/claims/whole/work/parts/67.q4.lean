/-! STAGE 2: more questions, on both sides -/
def aBoard (σ : STT) (v : Int) : Int ⊕ Nat := if σ.1 = true then .inl v else .inr 1
def aNear (σ : STT) (a b : Int) : Int ⊕ Nat := if σ.1 = true then (if (0 ≤ a ∧ a ≤ σ.2.1 4 - 1) ∧ (0 ≤ b ∧ b ≤ σ.2.1 4 - 1) then .inl (b2i (nearS σ.2.1 a b (σ.2.1 0))) else .inr 2) else .inr 1
def aDir (σ : STT) (a b : Int) : Int ⊕ Nat := if σ.1 = true then (if (-199 ≤ a ∧ a ≤ 199) ∧ (-199 ≤ b ∧ b ≤ 199) then .inl (if a = 0 ∧ b = 0 then -2 else dirS a b) else .inr 2) else .inr 1
def aShotW (σ : STT) (a b : Int) : Int ⊕ Nat := if σ.1 = true then (if (0 ≤ a ∧ a ≤ σ.2.1 4 - 1) ∧ (0 ≤ b ∧ b ≤ 5) then .inl (gS σ.2.1 a b) else .inr 2) else .inr 1
section Q4
variable {fu : Nat} {sh : HS} {I : HI} {R : HR} {AD : Int → Nat} {P : Int → Int → Int} {σ : STT}
theorem rq_eyeline (S : OKS sh AD) (V : VST σ) (hfu : 5000 ≤ fu) {a : Int} (ha : IR a) : RQ sh AD R σ (fun I => fX11_eyeline fu sh I R (AD 316) (iz a)) (aShot σ a (fun s => eyeS σ.2.1 s)) := by
  intro I H
  unfold aShot
  have n4 := V.n4
  obtain ⟨g, hg⟩ : ∃ g, g = (decide (0 ≤ a) && decide (a ≤ σ.2.1 4 - 1)) := ⟨_, rfl⟩
  have hs := r_isShot (fu := fu) S H V ha
  rw [← hg] at hs
  have w := r_isWrong (fu := fu) (R := R) (σ := σ) S H.2.2.1.2.1 g
  by_cases h : σ.1 = true
  · by_cases z : 0 ≤ a ∧ a ≤ σ.2.1 4 - 1
    · have gt : g = true := by rw [hg, bdec]; exact z
      rw [wr0 h gt] at w
      obtain ⟨H1, e5, f1⟩ := r_out (σ := σ) S H 0
      refine ⟨_, ?_, ?_, H1, f1⟩
      · rw [if_pos h, if_pos z]
        have W := V.1 h
        have z0 := z.1
        have z1 : a < σ.2.1 4 := by omega
        obtain ⟨a1, a2, a3, a4, a5, a6, a7, a8⟩ := W.shot z0 z1
        have b := W.sub z0 z1
        simp only [fX11_eyeline, if_pos (isT_of S.md), hs, bsome, w, oHs, iz_lit, bz_zero]
        rw [if_pos (by decide), r_hasP (fu := fu) S H1.1 H1.2.1 W z0 z1, bsome]
        show _ = some (iz (eyeS σ.2.1 a), _)
        unfold eyeS
        simp only [bz_zero]
        by_cases y : paS σ.2.1 a = -1
        · rw [decide_eq_true y, if_pos (by rfl), if_pos y]
          rfl
        · have p := W.par z0 z1 y
          rw [decide_eq_false y, if_neg (by decide), if_neg y]
          simp only [r_partnerX S H1.1 H1.2.1 W z0 z1 y, r_partnerY S H1.1 H1.2.1 W z0 z1 y, r_subjectX S H1.1 H1.2.1 W z0 z1, r_subjectY S H1.1 H1.2.1 W z0 z1, bsome, iz_sub]
          have d1 := dir_range (x := pxS σ.2.1 a - sxS σ.2.1 a) (y := pyS σ.2.1 a - syS σ.2.1 a) (by omega) (by omega) (by omega) (by omega)
          have d2 := dir_range (x := cxS σ.2.1 a - sxS σ.2.1 a) (y := cyS σ.2.1 a - syS σ.2.1 a) (by omega) (by omega) (by omega) (by omega)
          obtain ⟨g0, g1, g2, g3, g4, g5⟩ := r_g (fu := fu) S H1.1 H1.2.1 W z0 z1
          have b60 : ¬ (pxS σ.2.1 a - sxS σ.2.1 a = 0 ∧ pyS σ.2.1 a - syS σ.2.1 a = 0) → fX11_eyeline_b60 fu sh R (u2 I (AD 316) 5 (iz ((0 : Nat) : Int))) (AD 316) (iz a) (iz (pxS σ.2.1 a - sxS σ.2.1 a)) (iz (pyS σ.2.1 a - syS σ.2.1 a)) = some (iz (turnS (dirS (pxS σ.2.1 a - sxS σ.2.1 a) (pyS σ.2.1 a - syS σ.2.1 a)) (dirS (cxS σ.2.1 a - sxS σ.2.1 a) (cyS σ.2.1 a - syS σ.2.1 a))), u2 I (AD 316) 5 (iz ((0 : Nat) : Int))) := by
            intro q
            simp only [fX11_eyeline_b60, iz_lit]
            rw [r_dir (by omega) (by omega) (by omega) (by omega) q, bsome]
            simp only [g1, g2, r_subjectX S H1.1 H1.2.1 W z0 z1, r_subjectY S H1.1 H1.2.1 W z0 z1, bsome, iz_sub]
            rw [r_dir (by omega) (by omega) (by omega) (by omega) (by omega), bsome, r_turn d1.1 d1.2 d2.1 d2.2, bsome]
          simp (disch := omega) only [iz_eq]
          by_cases q1 : pxS σ.2.1 a - sxS σ.2.1 a = 0
          · rw [if_pos q1]
            by_cases q2 : pyS σ.2.1 a - syS σ.2.1 a = 0
            · rw [if_pos q2, if_pos ⟨q1, q2⟩]
              rfl
            · rw [if_neg q2, if_neg (fun q => q2 q.2)]
              exact b60 (fun q => q2 q.2)
          · rw [if_neg q1, if_neg (fun q => q1 q.1)]
            exact b60 (fun q => q1 q.1)
      · rw [e5, if_pos h, if_pos z]
        rfl
    · have gf : g = false := by
        cases g
        · rfl
        · exact absurd (by rw [← bdec]; exact hg.symm) z
      rw [wr2 h gf] at w
      obtain ⟨H1, e5, f1⟩ := r_out (σ := σ) S H 2
      refine ⟨_, ?_, ?_, H1, f1⟩
      · simp only [fX11_eyeline, if_pos (isT_of S.md), hs, bsome, w, oHs, iz_lit, bz_zero]
        rw [if_neg (by decide), if_pos h, if_neg z]
        rfl
      · rw [e5, if_pos h, if_neg z]
        rfl
  · have hf : σ.1 = false := by simpa using h
    rw [wr1 hf] at w
    obtain ⟨H1, e5, f1⟩ := r_out (σ := σ) S H 1
    refine ⟨_, ?_, ?_, H1, f1⟩
    · simp only [fX11_eyeline, if_pos (isT_of S.md), hs, bsome, w, oHs, iz_lit, bz_zero]
      rw [if_neg (by decide), if_neg h]
      rfl
    · rw [e5, if_neg h]
      rfl
theorem cq_faults (S : OKS sh AD) (V : VST σ) (hfu : 5000 ≤ fu) : CP AD R P σ (fun I => fX10_faults fu sh I R (AD 0)) (aBoard σ (faultS σ.2.1)) := by
  intro I C
  unfold aBoard
  by_cases h : σ.1 = true
  · have B := C.ba S V h
    rw [if_pos h]
    simp only [fX10_faults, if_pos (isT_of S.pl), c_needBoard S C, if_pos h, oT0l, oR_at S.pl C.1.1.1.2.1, bsome, c_total B.1 (V.1 h) hfu]
    rfl
  · rw [if_neg h]
    simp only [fX10_faults, if_pos (isT_of S.pl), c_needBoard S C, if_neg h, oT0r]
    rfl
theorem rq_faults (S : OKS sh AD) (V : VST σ) (hfu : 5000 ≤ fu) : RQ sh AD R σ (fun I => fX11_faults fu sh I R (AD 316)) (aBoard σ (faultS σ.2.1)) := by
  intro I H
  unfold aBoard
  have w := r_isWrong (fu := fu) (R := R) (σ := σ) S H.2.2.1.2.1 true
  have o : (iz 1 : Int32) = bz true := rfl
  by_cases h : σ.1 = true
  · rw [wr0 h rfl] at w
    obtain ⟨H1, e5, f1⟩ := r_out (σ := σ) S H 0
    refine ⟨_, ?_, ?_, H1, f1⟩
    · simp only [fX11_faults, fX11_faults_b16, if_pos (isT_of S.md), iz_lit]
      rw [o, w]
      simp only [oHs, bz_zero]
      rw [if_pos (by decide), r_faults S H1.1 H1.2.1 (V.1 h) hfu, bsome, if_pos h]
      rfl
    · rw [e5, if_pos h]
      rfl
  · have hf : σ.1 = false := by simpa using h
    rw [wr1 hf] at w
    obtain ⟨H1, e5, f1⟩ := r_out (σ := σ) S H 1
    refine ⟨_, ?_, ?_, H1, f1⟩
    · simp only [fX11_faults, fX11_faults_b16, if_pos (isT_of S.md), iz_lit]
      rw [o, w]
      simp only [oHs, bz_zero]
      rw [if_neg (by decide), if_neg h]
      rfl
    · rw [e5, if_neg h]
      rfl
theorem cq_isNear (S : OKS sh AD) (V : VST σ) {a b : Int} (ha : IR a) (hb : IR b) : CP AD R P σ (fun I => fX10_isNear fu sh I R (AD 0) (iz a) (iz b)) (aNear σ a b) := by
  intro I C
  unfold aNear
  by_cases h : σ.1 = true
  · have n4 := V.n4
    have vl := (V.1 h).lim
    have B := C.ba S V h
    by_cases z : 0 ≤ a ∧ a ≤ σ.2.1 4 - 1
    · by_cases y : 0 ≤ b ∧ b ≤ σ.2.1 4 - 1
      · have q := (B.1.2.2.2 a z.1 (by omega)).1.1
        have q2 := (B.1.2.2.2 b y.1 (by omega)).1.1
        rw [if_pos h, if_pos ⟨z, y⟩]
        simp only [fX10_isNear, if_pos (isT_of S.pl), c_needBoard S C, if_pos h, oT0l, c_needShot S C V h ha, c_needShot S C V h hb, if_pos z, if_pos y, oR_at S.pl C.1.1.1.2.1, B.1.1.2.2, B.1.2.1.1, q, q2, bsome]
        rw [c_near B.1 (V.1 h) z.1 (by omega) y.1 (by omega) vl.1.1 vl.1.2, bsome, oZ_bz, bsome]
        rfl
      · rw [if_pos h, if_neg (fun k => y k.2)]
        simp only [fX10_isNear, if_pos (isT_of S.pl), c_needBoard S C, if_pos h, oT0l, c_needShot S C V h ha, c_needShot S C V h hb, if_pos z, if_neg y, oT0r]
        rfl
    · rw [if_pos h, if_neg (fun k => z k.1)]
      simp only [fX10_isNear, if_pos (isT_of S.pl), c_needBoard S C, if_pos h, oT0l, c_needShot S C V h ha, if_neg z, oT0r]
      rfl
  · rw [if_neg h]
    simp only [fX10_isNear, if_pos (isT_of S.pl), c_needBoard S C, if_neg h, oT0r]
    rfl
theorem rq_isNear (S : OKS sh AD) (V : VST σ) {a b : Int} (ha : IR a) (hb : IR b) : RQ sh AD R σ (fun I => fX11_isNear fu sh I R (AD 316) (iz a) (iz b)) (aNear σ a b) := by
  intro I H
  unfold aNear
  have n4 := V.n4
  obtain ⟨g, hg⟩ : ∃ g, g = decide ((0 ≤ a ∧ a ≤ σ.2.1 4 - 1) ∧ (0 ≤ b ∧ b ≤ σ.2.1 4 - 1)) := ⟨_, rfl⟩
  have e22 : fX11_isNear fu sh I R (AD 316) (iz a) (iz b) = fX11_isNear_b22 fu sh R I (AD 316) (iz a) (iz b) (bz g) (AD 316) := by
    simp only [fX11_isNear, fX11_isNear_b21, if_pos (isT_of S.md), r_isShot S H V ha, r_isShot S H V hb, bsome, iz_lit, bz_zero]
    by_cases z : 0 ≤ a ∧ a ≤ σ.2.1 4 - 1
    · rw [if_neg (by rw [(bdec (p := 0 ≤ a) (q := a ≤ σ.2.1 4 - 1)).mpr z]; decide)]
      by_cases y : 0 ≤ b ∧ b ≤ σ.2.1 4 - 1
      · rw [if_neg (by rw [(bdec (p := 0 ≤ b) (q := b ≤ σ.2.1 4 - 1)).mpr y]; decide), hg, decide_eq_true ⟨z, y⟩]
        rfl
      · rw [if_pos (by cases q : (decide (0 ≤ b) && decide (b ≤ σ.2.1 4 - 1)); rfl; exact absurd (bdec.mp q) y), hg, decide_eq_false (fun k => y k.2)]
        rfl
    · rw [if_pos (by cases q : (decide (0 ≤ a) && decide (a ≤ σ.2.1 4 - 1)); rfl; exact absurd (bdec.mp q) z), hg, decide_eq_false (fun k => z k.1)]
      rfl
  have w := r_isWrong (fu := fu) (R := R) (σ := σ) S H.2.2.1.2.1 g
  by_cases h : σ.1 = true
  · by_cases z : (0 ≤ a ∧ a ≤ σ.2.1 4 - 1) ∧ (0 ≤ b ∧ b ≤ σ.2.1 4 - 1)
    · rw [wr0 h (by rw [hg, decide_eq_true z])] at w
      obtain ⟨H1, e5, f1⟩ := r_out (σ := σ) S H 0
      have vl := (V.1 h).lim
      refine ⟨_, ?_, ?_, H1, f1⟩
      · refine e22.trans ?_
        simp only [fX11_isNear_b22, fX11_isNear_b47, fX11_isNear_b48, w, oHs, iz_lit, bz_zero]
        rw [if_pos (by decide)]
        simp only [oR_at S.md H.1.1.1, bsome, r_row S H1.1 H1.2.1 (by decide : (0 : Int) ≤ 0) (by decide : (0 : Int) < 119)]
        rw [r_near S H1.1 H1.2.1 (V.1 h) z.1.1 (by omega) z.2.1 (by omega) vl.1.1 vl.1.2, bsome, if_pos h, if_pos z]
        simp only [bz_zero, oZ_z0, oZ_z1, bsome]
        cases nearS σ.2.1 a b (σ.2.1 0) <;> rfl
      · rw [e5, if_pos h, if_pos z]
        rfl
    · rw [wr2 h (by rw [hg, decide_eq_false z])] at w
      obtain ⟨H1, e5, f1⟩ := r_out (σ := σ) S H 2
      refine ⟨_, ?_, ?_, H1, f1⟩
      · refine e22.trans ?_
        simp only [fX11_isNear_b22, fX11_isNear_b47, fX11_isNear_b48, w, oHs, iz_lit, bz_zero]
        rw [if_neg (by decide), if_pos h, if_neg z]
        rfl
      · rw [e5, if_pos h, if_neg z]
        rfl
  · have hf : σ.1 = false := by simpa using h
    rw [wr1 hf] at w
    obtain ⟨H1, e5, f1⟩ := r_out (σ := σ) S H 1
    refine ⟨_, ?_, ?_, H1, f1⟩
    · refine e22.trans ?_
      simp only [fX11_isNear_b22, fX11_isNear_b47, fX11_isNear_b48, w, oHs, iz_lit, bz_zero]
      rw [if_neg (by decide), if_neg h]
      rfl
    · rw [e5, if_neg h]
      rfl
theorem cq_direction (S : OKS sh AD) {a b : Int} (ha : IR a) (hb : IR b) : CP AD R P σ (fun I => fX10_direction fu sh I R (AD 0) (iz a) (iz b)) (aDir σ a b) := by
  intro I C
  unfold aDir
  obtain ⟨a1, a2⟩ := ha
  obtain ⟨b1, b2⟩ := hb
  by_cases h : σ.1 = true
  · rw [if_pos h]
    simp only [fX10_direction, if_pos (isT_of S.pl), c_needBoard S C, if_pos h, oT0l, iz_lit, iz_neg]
    rw [c_needRange a1 a2 (by decide) (by decide) (by decide) (by decide)]
    by_cases z : -199 ≤ a ∧ a ≤ 199
    · rw [if_pos z, oT0l, c_needRange b1 b2 (by decide) (by decide) (by decide) (by decide)]
      by_cases y : -199 ≤ b ∧ b ≤ 199
      · rw [if_pos y, oT0l, c_dir (by omega) (by omega) (by omega) (by omega), bsome, if_pos (show (-199 ≤ a ∧ a ≤ 199) ∧ (-199 ≤ b ∧ b ≤ 199) from ⟨z, y⟩)]
        rfl
      · rw [if_neg y, oT0r, if_neg (fun k => y k.2)]
        rfl
    · rw [if_neg z, oT0r, if_neg (fun k => z k.1)]
      rfl
  · rw [if_neg h]
    simp only [fX10_direction, if_pos (isT_of S.pl), c_needBoard S C, if_neg h, oT0r]
    rfl
theorem cq_shot (S : OKS sh AD) (V : VST σ) {a b : Int} (ha : IR a) (hb : IR b) : CP AD R P σ (fun I => fX10_shot fu sh I R (AD 0) (iz a) (iz b)) (aShotW σ a b) := by
  intro I C
  unfold aShotW
  obtain ⟨b1, b2⟩ := hb
  by_cases h : σ.1 = true
  · have n4 := V.n4
    have B := C.ba S V h
    rw [if_pos h]
    simp only [fX10_shot, if_pos (isT_of S.pl), c_needBoard S C, if_pos h, oT0l, c_needShot S C V h ha, iz_lit]
    by_cases z : 0 ≤ a ∧ a ≤ σ.2.1 4 - 1
    · rw [if_pos z, oT0l, c_needRange b1 b2 (by decide) (by decide) (by decide) (by decide)]
      by_cases y : 0 ≤ b ∧ b ≤ 5
      · obtain ⟨q, f0, f1, f2, f3, f4, f5⟩ := B.1.2.2.2 a z.1 (by omega)
        rw [if_pos y, oT0l, if_pos ⟨z, y⟩]
        simp only [oR_at S.pl C.1.1.1.2.1, B.1.1.2.2, q.1, f0, f1, f2, f3, f4, f5, bsome]
        have k : b = 0 ∨ b = 1 ∨ b = 2 ∨ b = 3 ∨ b = 4 ∨ b = 5 := by omega
        rcases k with rfl | rfl | rfl | rfl | rfl | rfl <;> rfl
      · rw [if_neg y, oT0r, if_neg (fun k => y k.2)]
        rfl
    · rw [if_neg z, oT0r, if_neg (fun k => z k.1)]
      rfl
  · rw [if_neg h]
    simp only [fX10_shot, if_pos (isT_of S.pl), c_needBoard S C, if_neg h, oT0r]
    rfl
end Q4
