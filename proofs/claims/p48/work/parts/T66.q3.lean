/-! STAGE 2: questions about one shot, on both sides -/
def CP (AD : Int → Nat) (R : HR) (P : Int → Int → Int) (σ : STT) (f : HI → Option (Int32 ⊕ String)) (a : Int ⊕ Nat) : Prop := ∀ I : HI, CIB I R AD P σ → f I = some (cOut a)
def aShot (σ : STT) (a : Int) (v : Int → Int) : Int ⊕ Nat := if σ.1 = true then (if 0 ≤ a ∧ a ≤ σ.2.1 4 - 1 then .inl (v a) else .inr 2) else .inr 1
section Q3
variable {fu : Nat} {sh : HS} {I : HI} {R : HR} {AD : Int → Nat} {P : Int → Int → Int} {σ : STT}
theorem cq_view (S : OKS sh AD) (V : VST σ) (hfu : 5000 ≤ fu) {a : Int} (ha : IR a) : CP AD R P σ (fun I => fX10_view fu sh I R (AD 0) (iz a)) (aShot σ a (fun s => viewS σ.2.1 s)) := by
  intro I C
  unfold aShot
  by_cases h : σ.1 = true
  · have n4 := V.n4
    by_cases z : 0 ≤ a ∧ a ≤ σ.2.1 4 - 1
    · have B := C.ba S V h
      have q := (B.1.2.2.2 a z.1 (by omega)).1.1
      rw [if_pos h, if_pos z]
      simp only [fX10_view, if_pos (isT_of S.pl), c_needBoard S C, if_pos h, oT0l, c_needShot S C V h ha, if_pos z, oR_at S.pl C.1.1.1.2.1, B.1.1.2.2, q, bsome]
      first | rw [c_view (fu := fu) B.1 (V.1 h) z.1 (by omega), bsome]; rfl | rfl
    · rw [if_pos h, if_neg z]
      simp only [fX10_view, if_pos (isT_of S.pl), c_needBoard S C, if_pos h, oT0l, c_needShot S C V h ha, if_neg z, oT0r]
      rfl
  · rw [if_neg h]
    simp only [fX10_view, if_pos (isT_of S.pl), c_needBoard S C, if_neg h, oT0r]
    rfl
theorem cq_side (S : OKS sh AD) (V : VST σ) (hfu : 5000 ≤ fu) {a : Int} (ha : IR a) : CP AD R P σ (fun I => fX10_side fu sh I R (AD 0) (iz a)) (aShot σ a (fun s => sideS σ.2.1 s)) := by
  intro I C
  unfold aShot
  by_cases h : σ.1 = true
  · have n4 := V.n4
    by_cases z : 0 ≤ a ∧ a ≤ σ.2.1 4 - 1
    · have B := C.ba S V h
      have q := (B.1.2.2.2 a z.1 (by omega)).1.1
      rw [if_pos h, if_pos z]
      simp only [fX10_side, if_pos (isT_of S.pl), c_needBoard S C, if_pos h, oT0l, c_needShot S C V h ha, if_pos z, oR_at S.pl C.1.1.1.2.1, B.1.1.2.2, q, bsome]
      first | rw [c_side (fu := fu) B.1 (V.1 h) z.1 (by omega), bsome]; rfl | rfl
    · rw [if_pos h, if_neg z]
      simp only [fX10_side, if_pos (isT_of S.pl), c_needBoard S C, if_pos h, oT0l, c_needShot S C V h ha, if_neg z, oT0r]
      rfl
  · rw [if_neg h]
    simp only [fX10_side, if_pos (isT_of S.pl), c_needBoard S C, if_neg h, oT0r]
    rfl
theorem cq_look (S : OKS sh AD) (V : VST σ) (hfu : 5000 ≤ fu) {a : Int} (ha : IR a) : CP AD R P σ (fun I => fX10_look fu sh I R (AD 0) (iz a)) (aShot σ a (fun s => lookS σ.2.1 s)) := by
  intro I C
  unfold aShot
  by_cases h : σ.1 = true
  · have n4 := V.n4
    by_cases z : 0 ≤ a ∧ a ≤ σ.2.1 4 - 1
    · have B := C.ba S V h
      have q := (B.1.2.2.2 a z.1 (by omega)).1.1
      rw [if_pos h, if_pos z]
      simp only [fX10_look, if_pos (isT_of S.pl), c_needBoard S C, if_pos h, oT0l, c_needShot S C V h ha, if_pos z, oR_at S.pl C.1.1.1.2.1, B.1.1.2.2, q, bsome]
      first | rw [c_look (fu := fu) B.1 (V.1 h) z.1 (by omega), bsome]; rfl | rfl
    · rw [if_pos h, if_neg z]
      simp only [fX10_look, if_pos (isT_of S.pl), c_needBoard S C, if_pos h, oT0l, c_needShot S C V h ha, if_neg z, oT0r]
      rfl
  · rw [if_neg h]
    simp only [fX10_look, if_pos (isT_of S.pl), c_needBoard S C, if_neg h, oT0r]
    rfl
theorem cq_visible (S : OKS sh AD) (V : VST σ) (hfu : 5000 ≤ fu) {a : Int} (ha : IR a) : CP AD R P σ (fun I => fX10_visible fu sh I R (AD 0) (iz a)) (aShot σ a (fun s => (visS σ.2.1 s : Int))) := by
  intro I C
  unfold aShot
  by_cases h : σ.1 = true
  · have n4 := V.n4
    by_cases z : 0 ≤ a ∧ a ≤ σ.2.1 4 - 1
    · have B := C.ba S V h
      have q := (B.1.2.2.2 a z.1 (by omega)).1.1
      rw [if_pos h, if_pos z]
      simp only [fX10_visible, if_pos (isT_of S.pl), c_needBoard S C, if_pos h, oT0l, c_needShot S C V h ha, if_pos z, oR_at S.pl C.1.1.1.2.1, B.1.1.2.2, q, bsome]
      first | rw [c_seen (fu := fu) B.1 (V.1 h) hfu z.1 (by omega), bsome]; rfl | rfl
    · rw [if_pos h, if_neg z]
      simp only [fX10_visible, if_pos (isT_of S.pl), c_needBoard S C, if_pos h, oT0l, c_needShot S C V h ha, if_neg z, oT0r]
      rfl
  · rw [if_neg h]
    simp only [fX10_visible, if_pos (isT_of S.pl), c_needBoard S C, if_neg h, oT0r]
    rfl
theorem cq_faultsOf (S : OKS sh AD) (V : VST σ) (hfu : 5000 ≤ fu) {a : Int} (ha : IR a) : CP AD R P σ (fun I => fX10_faultsOf fu sh I R (AD 0) (iz a)) (aShot σ a (fun s => kindS σ.2.1 s)) := by
  intro I C
  unfold aShot
  by_cases h : σ.1 = true
  · have n4 := V.n4
    by_cases z : 0 ≤ a ∧ a ≤ σ.2.1 4 - 1
    · have B := C.ba S V h
      have q := (B.1.2.2.2 a z.1 (by omega)).1.1
      rw [if_pos h, if_pos z]
      simp only [fX10_faultsOf, if_pos (isT_of S.pl), c_needBoard S C, if_pos h, oT0l, c_needShot S C V h ha, if_pos z, oR_at S.pl C.1.1.1.2.1, B.1.1.2.2, q, bsome]
      first | rw [c_kinds (fu := fu) B.1 (V.1 h) hfu z.1 (by omega), bsome]; rfl | rfl
    · rw [if_pos h, if_neg z]
      simp only [fX10_faultsOf, if_pos (isT_of S.pl), c_needBoard S C, if_pos h, oT0l, c_needShot S C V h ha, if_neg z, oT0r]
      rfl
  · rw [if_neg h]
    simp only [fX10_faultsOf, if_pos (isT_of S.pl), c_needBoard S C, if_neg h, oT0r]
    rfl
theorem cq_eyeline (S : OKS sh AD) (V : VST σ) (hfu : 5000 ≤ fu) {a : Int} (ha : IR a) : CP AD R P σ (fun I => fX10_eyeline fu sh I R (AD 0) (iz a)) (aShot σ a (fun s => eyeS σ.2.1 s)) := by
  intro I C
  unfold aShot
  by_cases h : σ.1 = true
  · have n4 := V.n4
    by_cases z : 0 ≤ a ∧ a ≤ σ.2.1 4 - 1
    · have B := C.ba S V h
      have q := (B.1.2.2.2 a z.1 (by omega)).1.1
      rw [if_pos h, if_pos z]
      simp only [fX10_eyeline, if_pos (isT_of S.pl), c_needBoard S C, if_pos h, oT0l, c_needShot S C V h ha, if_pos z, oR_at S.pl C.1.1.1.2.1, B.1.1.2.2, q, bsome]
      first | rw [c_eye (fu := fu) B.1 (V.1 h) z.1 (by omega), bsome]; rfl | rfl
    · rw [if_pos h, if_neg z]
      simp only [fX10_eyeline, if_pos (isT_of S.pl), c_needBoard S C, if_pos h, oT0l, c_needShot S C V h ha, if_neg z, oT0r]
      rfl
  · rw [if_neg h]
    simp only [fX10_eyeline, if_pos (isT_of S.pl), c_needBoard S C, if_neg h, oT0r]
    rfl
end Q3
