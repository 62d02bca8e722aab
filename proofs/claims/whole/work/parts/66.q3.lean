/-! STAGE 2: questions about one shot, on both sides -/
def CP (AD : Int → Nat) (R : HR) (P : Int → Int → Int) (σ : STT) (f : HI → Option (Int32 ⊕ String)) (a : Int ⊕ Nat) : Prop := ∀ I : HI, CIB I R AD P σ → f I = some (cOut a)
def aShot (σ : STT) (a : Int) (v : Int → Int) : Int ⊕ Nat := if σ.1 = true then (if 0 ≤ a ∧ a ≤ σ.2.1 4 - 1 then .inl (v a) else .inr 2) else .inr 1
section Q3
variable {fu : Nat} {sh : HS} {I : HI} {R : HR} {AD : Int → Nat} {P : Int → Int → Int} {σ : STT}
theorem cq_view (S : OKS sh AD) (V : VST σ) (hfu : 5000 ≤ fu) {a : Int} (ha : IR a) : CP AD R P σ (fun I => fX10_view fu sh I R (AD 0) (iz a)) (aShot σ a (fun s => viewS σ.2.1 s)) := by
  intro I C
  unfold aShot
  by_cases h : σ.1 = true
  · have n4 := V.n4
    by_cases z : 0 ≤ a ∧ a ≤ σ.2.1 4 - 1
    · have B := C.ba S V h
      have q := (B.1.2.2.2 a z.1 (by omega)).1.1
      rw [if_pos h, if_pos z]
      simp only [fX10_view, if_pos (isT_of S.pl), c_needBoard S C, if_pos h, oT0l, c_needShot S C V h ha, if_pos z, oR_at S.pl C.1.1.1.2.1, B.1.1.2.2, q, bsome]
      first | rw [c_view (fu := fu) B.1 (V.1 h) z.1 (by omega), bsome]; rfl | rfl
    · rw [if_pos h, if_neg z]
      simp only [fX10_view, if_pos (isT_of S.pl), c_needBoard S C, if_pos h, oT0l, c_needShot S C V h ha, if_neg z, oT0r]
      rfl
  · rw [if_neg h]
    simp only [fX10_view, if_pos (isT_of S.pl), c_needBoard S C, if_neg h, oT0r]
    rfl
theorem rq_view (S : OKS sh AD) (V : VST σ) (hfu : 5000 ≤ fu) {a : Int} (ha : IR a) : RQ sh AD R σ (fun I => fX11_view fu sh I R (AD 316) (iz a)) (aShot σ a (fun s => viewS σ.2.1 s)) := by
  intro I H
  unfold aShot
  have n4 := V.n4
  obtain ⟨g, hg⟩ : ∃ g, g = (decide (0 ≤ a) && decide (a ≤ σ.2.1 4 - 1)) := ⟨_, rfl⟩
  have hs := r_isShot (fu := fu) S H V ha
  rw [← hg] at hs
  have w := r_isWrong (fu := fu) (R := R) (σ := σ) S H.2.2.1.2.1 g
  by_cases h : σ.1 = true
  · by_cases z : 0 ≤ a ∧ a ≤ σ.2.1 4 - 1
    · have gt : g = true := by rw [hg, bdec]; exact z
      rw [wr0 h gt] at w
      obtain ⟨H1, e5, f1⟩ := r_out (σ := σ) S H 0
      refine ⟨_, ?_, ?_, H1, f1⟩
      · rw [if_pos h, if_pos z]
        simp only [fX11_view, fX11_view_b21, if_pos (isT_of S.md), hs, bsome, w, oHs, iz_lit, bz_zero]
        rw [if_pos (by decide), r_view (fu := fu) S H1.1 H1.2.1 (V.1 h) z.1 (by omega), bsome]
        rfl
      · rw [e5, if_pos h, if_pos z]
        rfl
    · have gf : g = false := by
        cases g
        · rfl
        · exact absurd (by rw [← bdec]; exact hg.symm) z
      rw [wr2 h gf] at w
      obtain ⟨H1, e5, f1⟩ := r_out (σ := σ) S H 2
      refine ⟨_, ?_, ?_, H1, f1⟩
      · simp only [fX11_view, fX11_view_b21, if_pos (isT_of S.md), hs, bsome, w, oHs, iz_lit, bz_zero]
        rw [if_neg (by decide), if_pos h, if_neg z]
        rfl
      · rw [e5, if_pos h, if_neg z]
        rfl
  · have hf : σ.1 = false := by simpa using h
    rw [wr1 hf] at w
    obtain ⟨H1, e5, f1⟩ := r_out (σ := σ) S H 1
    refine ⟨_, ?_, ?_, H1, f1⟩
    · simp only [fX11_view, fX11_view_b21, if_pos (isT_of S.md), hs, bsome, w, oHs, iz_lit, bz_zero]
      rw [if_neg (by decide), if_neg h]
      rfl
    · rw [e5, if_neg h]
      rfl
theorem cq_side (S : OKS sh AD) (V : VST σ) (hfu : 5000 ≤ fu) {a : Int} (ha : IR a) : CP AD R P σ (fun I => fX10_side fu sh I R (AD 0) (iz a)) (aShot σ a (fun s => sideS σ.2.1 s)) := by
  intro I C
  unfold aShot
  by_cases h : σ.1 = true
  · have n4 := V.n4
    by_cases z : 0 ≤ a ∧ a ≤ σ.2.1 4 - 1
    · have B := C.ba S V h
      have q := (B.1.2.2.2 a z.1 (by omega)).1.1
      rw [if_pos h, if_pos z]
      simp only [fX10_side, if_pos (isT_of S.pl), c_needBoard S C, if_pos h, oT0l, c_needShot S C V h ha, if_pos z, oR_at S.pl C.1.1.1.2.1, B.1.1.2.2, q, bsome]
      first | rw [c_side (fu := fu) B.1 (V.1 h) z.1 (by omega), bsome]; rfl | rfl
    · rw [if_pos h, if_neg z]
      simp only [fX10_side, if_pos (isT_of S.pl), c_needBoard S C, if_pos h, oT0l, c_needShot S C V h ha, if_neg z, oT0r]
      rfl
  · rw [if_neg h]
    simp only [fX10_side, if_pos (isT_of S.pl), c_needBoard S C, if_neg h, oT0r]
    rfl
theorem rq_side (S : OKS sh AD) (V : VST σ) (hfu : 5000 ≤ fu) {a : Int} (ha : IR a) : RQ sh AD R σ (fun I => fX11_side fu sh I R (AD 316) (iz a)) (aShot σ a (fun s => sideS σ.2.1 s)) := by
  intro I H
  unfold aShot
  have n4 := V.n4
  obtain ⟨g, hg⟩ : ∃ g, g = (decide (0 ≤ a) && decide (a ≤ σ.2.1 4 - 1)) := ⟨_, rfl⟩
  have hs := r_isShot (fu := fu) S H V ha
  rw [← hg] at hs
  have w := r_isWrong (fu := fu) (R := R) (σ := σ) S H.2.2.1.2.1 g
  by_cases h : σ.1 = true
  · by_cases z : 0 ≤ a ∧ a ≤ σ.2.1 4 - 1
    · have gt : g = true := by rw [hg, bdec]; exact z
      rw [wr0 h gt] at w
      obtain ⟨H1, e5, f1⟩ := r_out (σ := σ) S H 0
      refine ⟨_, ?_, ?_, H1, f1⟩
      · rw [if_pos h, if_pos z]
        simp only [fX11_side, fX11_side_b21, if_pos (isT_of S.md), hs, bsome, w, oHs, iz_lit, bz_zero]
        rw [if_pos (by decide), r_side (fu := fu) S H1.1 H1.2.1 (V.1 h) z.1 (by omega), bsome]
        rfl
      · rw [e5, if_pos h, if_pos z]
        rfl
    · have gf : g = false := by
        cases g
        · rfl
        · exact absurd (by rw [← bdec]; exact hg.symm) z
      rw [wr2 h gf] at w
      obtain ⟨H1, e5, f1⟩ := r_out (σ := σ) S H 2
      refine ⟨_, ?_, ?_, H1, f1⟩
      · simp only [fX11_side, fX11_side_b21, if_pos (isT_of S.md), hs, bsome, w, oHs, iz_lit, bz_zero]
        rw [if_neg (by decide), if_pos h, if_neg z]
        rfl
      · rw [e5, if_pos h, if_neg z]
        rfl
  · have hf : σ.1 = false := by simpa using h
    rw [wr1 hf] at w
    obtain ⟨H1, e5, f1⟩ := r_out (σ := σ) S H 1
    refine ⟨_, ?_, ?_, H1, f1⟩
    · simp only [fX11_side, fX11_side_b21, if_pos (isT_of S.md), hs, bsome, w, oHs, iz_lit, bz_zero]
      rw [if_neg (by decide), if_neg h]
      rfl
    · rw [e5, if_neg h]
      rfl
theorem cq_look (S : OKS sh AD) (V : VST σ) (hfu : 5000 ≤ fu) {a : Int} (ha : IR a) : CP AD R P σ (fun I => fX10_look fu sh I R (AD 0) (iz a)) (aShot σ a (fun s => lookS σ.2.1 s)) := by
  intro I C
  unfold aShot
  by_cases h : σ.1 = true
  · have n4 := V.n4
    by_cases z : 0 ≤ a ∧ a ≤ σ.2.1 4 - 1
    · have B := C.ba S V h
      have q := (B.1.2.2.2 a z.1 (by omega)).1.1
      rw [if_pos h, if_pos z]
      simp only [fX10_look, if_pos (isT_of S.pl), c_needBoard S C, if_pos h, oT0l, c_needShot S C V h ha, if_pos z, oR_at S.pl C.1.1.1.2.1, B.1.1.2.2, q, bsome]
      first | rw [c_look (fu := fu) B.1 (V.1 h) z.1 (by omega), bsome]; rfl | rfl
    · rw [if_pos h, if_neg z]
      simp only [fX10_look, if_pos (isT_of S.pl), c_needBoard S C, if_pos h, oT0l, c_needShot S C V h ha, if_neg z, oT0r]
      rfl
  · rw [if_neg h]
    simp only [fX10_look, if_pos (isT_of S.pl), c_needBoard S C, if_neg h, oT0r]
    rfl
theorem rq_look (S : OKS sh AD) (V : VST σ) (hfu : 5000 ≤ fu) {a : Int} (ha : IR a) : RQ sh AD R σ (fun I => fX11_look fu sh I R (AD 316) (iz a)) (aShot σ a (fun s => lookS σ.2.1 s)) := by
  intro I H
  unfold aShot
  have n4 := V.n4
  obtain ⟨g, hg⟩ : ∃ g, g = (decide (0 ≤ a) && decide (a ≤ σ.2.1 4 - 1)) := ⟨_, rfl⟩
  have hs := r_isShot (fu := fu) S H V ha
  rw [← hg] at hs
  have w := r_isWrong (fu := fu) (R := R) (σ := σ) S H.2.2.1.2.1 g
  by_cases h : σ.1 = true
  · by_cases z : 0 ≤ a ∧ a ≤ σ.2.1 4 - 1
    · have gt : g = true := by rw [hg, bdec]; exact z
      rw [wr0 h gt] at w
      obtain ⟨H1, e5, f1⟩ := r_out (σ := σ) S H 0
      refine ⟨_, ?_, ?_, H1, f1⟩
      · rw [if_pos h, if_pos z]
        simp only [fX11_look, fX11_look_b21, if_pos (isT_of S.md), hs, bsome, w, oHs, iz_lit, bz_zero]
        rw [if_pos (by decide), r_look (fu := fu) S H1.1 H1.2.1 (V.1 h) z.1 (by omega), bsome]
        rfl
      · rw [e5, if_pos h, if_pos z]
        rfl
    · have gf : g = false := by
        cases g
        · rfl
        · exact absurd (by rw [← bdec]; exact hg.symm) z
      rw [wr2 h gf] at w
      obtain ⟨H1, e5, f1⟩ := r_out (σ := σ) S H 2
      refine ⟨_, ?_, ?_, H1, f1⟩
      · simp only [fX11_look, fX11_look_b21, if_pos (isT_of S.md), hs, bsome, w, oHs, iz_lit, bz_zero]
        rw [if_neg (by decide), if_pos h, if_neg z]
        rfl
      · rw [e5, if_pos h, if_neg z]
        rfl
  · have hf : σ.1 = false := by simpa using h
    rw [wr1 hf] at w
    obtain ⟨H1, e5, f1⟩ := r_out (σ := σ) S H 1
    refine ⟨_, ?_, ?_, H1, f1⟩
    · simp only [fX11_look, fX11_look_b21, if_pos (isT_of S.md), hs, bsome, w, oHs, iz_lit, bz_zero]
      rw [if_neg (by decide), if_neg h]
      rfl
    · rw [e5, if_neg h]
      rfl
theorem cq_visible (S : OKS sh AD) (V : VST σ) (hfu : 5000 ≤ fu) {a : Int} (ha : IR a) : CP AD R P σ (fun I => fX10_visible fu sh I R (AD 0) (iz a)) (aShot σ a (fun s => (visS σ.2.1 s : Int))) := by
  intro I C
  unfold aShot
  by_cases h : σ.1 = true
  · have n4 := V.n4
    by_cases z : 0 ≤ a ∧ a ≤ σ.2.1 4 - 1
    · have B := C.ba S V h
      have q := (B.1.2.2.2 a z.1 (by omega)).1.1
      rw [if_pos h, if_pos z]
      simp only [fX10_visible, if_pos (isT_of S.pl), c_needBoard S C, if_pos h, oT0l, c_needShot S C V h ha, if_pos z, oR_at S.pl C.1.1.1.2.1, B.1.1.2.2, q, bsome]
      first | rw [c_seen (fu := fu) B.1 (V.1 h) hfu z.1 (by omega), bsome]; rfl | rfl
    · rw [if_pos h, if_neg z]
      simp only [fX10_visible, if_pos (isT_of S.pl), c_needBoard S C, if_pos h, oT0l, c_needShot S C V h ha, if_neg z, oT0r]
      rfl
  · rw [if_neg h]
    simp only [fX10_visible, if_pos (isT_of S.pl), c_needBoard S C, if_neg h, oT0r]
    rfl
theorem rq_visible (S : OKS sh AD) (V : VST σ) (hfu : 5000 ≤ fu) {a : Int} (ha : IR a) : RQ sh AD R σ (fun I => fX11_visible fu sh I R (AD 316) (iz a)) (aShot σ a (fun s => (visS σ.2.1 s : Int))) := by
  intro I H
  unfold aShot
  have n4 := V.n4
  obtain ⟨g, hg⟩ : ∃ g, g = (decide (0 ≤ a) && decide (a ≤ σ.2.1 4 - 1)) := ⟨_, rfl⟩
  have hs := r_isShot (fu := fu) S H V ha
  rw [← hg] at hs
  have w := r_isWrong (fu := fu) (R := R) (σ := σ) S H.2.2.1.2.1 g
  by_cases h : σ.1 = true
  · by_cases z : 0 ≤ a ∧ a ≤ σ.2.1 4 - 1
    · have gt : g = true := by rw [hg, bdec]; exact z
      rw [wr0 h gt] at w
      obtain ⟨H1, e5, f1⟩ := r_out (σ := σ) S H 0
      refine ⟨_, ?_, ?_, H1, f1⟩
      · rw [if_pos h, if_pos z]
        simp only [fX11_visible, fX11_visible_b21, if_pos (isT_of S.md), hs, bsome, w, oHs, iz_lit, bz_zero]
        rw [if_pos (by decide), r_visible (fu := fu) S H1.1 H1.2.1 (V.1 h) hfu z.1 (by omega), bsome]
        rfl
      · rw [e5, if_pos h, if_pos z]
        rfl
    · have gf : g = false := by
        cases g
        · rfl
        · exact absurd (by rw [← bdec]; exact hg.symm) z
      rw [wr2 h gf] at w
      obtain ⟨H1, e5, f1⟩ := r_out (σ := σ) S H 2
      refine ⟨_, ?_, ?_, H1, f1⟩
      · simp only [fX11_visible, fX11_visible_b21, if_pos (isT_of S.md), hs, bsome, w, oHs, iz_lit, bz_zero]
        rw [if_neg (by decide), if_pos h, if_neg z]
        rfl
      · rw [e5, if_pos h, if_neg z]
        rfl
  · have hf : σ.1 = false := by simpa using h
    rw [wr1 hf] at w
    obtain ⟨H1, e5, f1⟩ := r_out (σ := σ) S H 1
    refine ⟨_, ?_, ?_, H1, f1⟩
    · simp only [fX11_visible, fX11_visible_b21, if_pos (isT_of S.md), hs, bsome, w, oHs, iz_lit, bz_zero]
      rw [if_neg (by decide), if_neg h]
      rfl
    · rw [e5, if_neg h]
      rfl
theorem cq_faultsOf (S : OKS sh AD) (V : VST σ) (hfu : 5000 ≤ fu) {a : Int} (ha : IR a) : CP AD R P σ (fun I => fX10_faultsOf fu sh I R (AD 0) (iz a)) (aShot σ a (fun s => kindS σ.2.1 s)) := by
  intro I C
  unfold aShot
  by_cases h : σ.1 = true
  · have n4 := V.n4
    by_cases z : 0 ≤ a ∧ a ≤ σ.2.1 4 - 1
    · have B := C.ba S V h
      have q := (B.1.2.2.2 a z.1 (by omega)).1.1
      rw [if_pos h, if_pos z]
      simp only [fX10_faultsOf, if_pos (isT_of S.pl), c_needBoard S C, if_pos h, oT0l, c_needShot S C V h ha, if_pos z, oR_at S.pl C.1.1.1.2.1, B.1.1.2.2, q, bsome]
      first | rw [c_kinds (fu := fu) B.1 (V.1 h) hfu z.1 (by omega), bsome]; rfl | rfl
    · rw [if_pos h, if_neg z]
      simp only [fX10_faultsOf, if_pos (isT_of S.pl), c_needBoard S C, if_pos h, oT0l, c_needShot S C V h ha, if_neg z, oT0r]
      rfl
  · rw [if_neg h]
    simp only [fX10_faultsOf, if_pos (isT_of S.pl), c_needBoard S C, if_neg h, oT0r]
    rfl
theorem rq_faultsOf (S : OKS sh AD) (V : VST σ) (hfu : 5000 ≤ fu) {a : Int} (ha : IR a) : RQ sh AD R σ (fun I => fX11_faultsOf fu sh I R (AD 316) (iz a)) (aShot σ a (fun s => kindS σ.2.1 s)) := by
  intro I H
  unfold aShot
  have n4 := V.n4
  obtain ⟨g, hg⟩ : ∃ g, g = (decide (0 ≤ a) && decide (a ≤ σ.2.1 4 - 1)) := ⟨_, rfl⟩
  have hs := r_isShot (fu := fu) S H V ha
  rw [← hg] at hs
  have w := r_isWrong (fu := fu) (R := R) (σ := σ) S H.2.2.1.2.1 g
  by_cases h : σ.1 = true
  · by_cases z : 0 ≤ a ∧ a ≤ σ.2.1 4 - 1
    · have gt : g = true := by rw [hg, bdec]; exact z
      rw [wr0 h gt] at w
      obtain ⟨H1, e5, f1⟩ := r_out (σ := σ) S H 0
      refine ⟨_, ?_, ?_, H1, f1⟩
      · rw [if_pos h, if_pos z]
        simp only [fX11_faultsOf, fX11_faultsOf_b21, if_pos (isT_of S.md), hs, bsome, w, oHs, iz_lit, bz_zero]
        rw [if_pos (by decide), r_kinds (fu := fu) S H1.1 H1.2.1 (V.1 h) hfu z.1 (by omega), bsome]
        rfl
      · rw [e5, if_pos h, if_pos z]
        rfl
    · have gf : g = false := by
        cases g
        · rfl
        · exact absurd (by rw [← bdec]; exact hg.symm) z
      rw [wr2 h gf] at w
      obtain ⟨H1, e5, f1⟩ := r_out (σ := σ) S H 2
      refine ⟨_, ?_, ?_, H1, f1⟩
      · simp only [fX11_faultsOf, fX11_faultsOf_b21, if_pos (isT_of S.md), hs, bsome, w, oHs, iz_lit, bz_zero]
        rw [if_neg (by decide), if_pos h, if_neg z]
        rfl
      · rw [e5, if_pos h, if_neg z]
        rfl
  · have hf : σ.1 = false := by simpa using h
    rw [wr1 hf] at w
    obtain ⟨H1, e5, f1⟩ := r_out (σ := σ) S H 1
    refine ⟨_, ?_, ?_, H1, f1⟩
    · simp only [fX11_faultsOf, fX11_faultsOf_b21, if_pos (isT_of S.md), hs, bsome, w, oHs, iz_lit, bz_zero]
      rw [if_neg (by decide), if_neg h]
      rfl
    · rw [e5, if_neg h]
      rfl
theorem cq_eyeline (S : OKS sh AD) (V : VST σ) (hfu : 5000 ≤ fu) {a : Int} (ha : IR a) : CP AD R P σ (fun I => fX10_eyeline fu sh I R (AD 0) (iz a)) (aShot σ a (fun s => eyeS σ.2.1 s)) := by
  intro I C
  unfold aShot
  by_cases h : σ.1 = true
  · have n4 := V.n4
    by_cases z : 0 ≤ a ∧ a ≤ σ.2.1 4 - 1
    · have B := C.ba S V h
      have q := (B.1.2.2.2 a z.1 (by omega)).1.1
      rw [if_pos h, if_pos z]
      simp only [fX10_eyeline, if_pos (isT_of S.pl), c_needBoard S C, if_pos h, oT0l, c_needShot S C V h ha, if_pos z, oR_at S.pl C.1.1.1.2.1, B.1.1.2.2, q, bsome]
      first | rw [c_eye (fu := fu) B.1 (V.1 h) z.1 (by omega), bsome]; rfl | rfl
    · rw [if_pos h, if_neg z]
      simp only [fX10_eyeline, if_pos (isT_of S.pl), c_needBoard S C, if_pos h, oT0l, c_needShot S C V h ha, if_neg z, oT0r]
      rfl
  · rw [if_neg h]
    simp only [fX10_eyeline, if_pos (isT_of S.pl), c_needBoard S C, if_neg h, oT0r]
    rfl
end Q3
