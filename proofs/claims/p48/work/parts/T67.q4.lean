/-! STAGE 2: more questions, on both sides -/
def aBoard (σ : STT) (v : Int) : Int ⊕ Nat := if σ.1 = true then .inl v else .inr 1
def aNear (σ : STT) (a b : Int) : Int ⊕ Nat := if σ.1 = true then (if (0 ≤ a ∧ a ≤ σ.2.1 4 - 1) ∧ (0 ≤ b ∧ b ≤ σ.2.1 4 - 1) then .inl (b2i (nearS σ.2.1 a b (σ.2.1 0))) else .inr 2) else .inr 1
def aShotW (σ : STT) (a b : Int) : Int ⊕ Nat := if σ.1 = true then (if (0 ≤ a ∧ a ≤ σ.2.1 4 - 1) ∧ (0 ≤ b ∧ b ≤ 5) then .inl (gS σ.2.1 a b) else .inr 2) else .inr 1
section Q4
variable {fu : Nat} {sh : HS} {I : HI} {R : HR} {AD : Int → Nat} {P : Int → Int → Int} {σ : STT}
theorem cq_faults (S : OKS sh AD) (V : VST σ) (hfu : 5000 ≤ fu) : CP AD R P σ (fun I => fX10_faults fu sh I R (AD 0)) (aBoard σ (faultS σ.2.1)) := by
  intro I C
  unfold aBoard
  by_cases h : σ.1 = true
  · have B := C.ba S V h
    rw [if_pos h]
    simp only [fX10_faults, if_pos (isT_of S.pl), c_needBoard S C, if_pos h, oT0l, oR_at S.pl C.1.1.1.2.1, bsome, c_total B.1 (V.1 h) hfu]
    rfl
  · rw [if_neg h]
    simp only [fX10_faults, if_pos (isT_of S.pl), c_needBoard S C, if_neg h, oT0r]
    rfl
theorem cq_isNear (S : OKS sh AD) (V : VST σ) {a b : Int} (ha : IR a) (hb : IR b) : CP AD R P σ (fun I => fX10_isNear fu sh I R (AD 0) (iz a) (iz b)) (aNear σ a b) := by
  intro I C
  unfold aNear
  by_cases h : σ.1 = true
  · have n4 := V.n4
    have vl := (V.1 h).lim
    have B := C.ba S V h
    by_cases z : 0 ≤ a ∧ a ≤ σ.2.1 4 - 1
    · by_cases y : 0 ≤ b ∧ b ≤ σ.2.1 4 - 1
      · have q := (B.1.2.2.2 a z.1 (by omega)).1.1
        have q2 := (B.1.2.2.2 b y.1 (by omega)).1.1
        rw [if_pos h, if_pos ⟨z, y⟩]
        simp only [fX10_isNear, if_pos (isT_of S.pl), c_needBoard S C, if_pos h, oT0l, c_needShot S C V h ha, c_needShot S C V h hb, if_pos z, if_pos y, oR_at S.pl C.1.1.1.2.1, B.1.1.2.2, B.1.2.1.1, q, q2, bsome]
        rw [c_near B.1 (V.1 h) z.1 (by omega) y.1 (by omega) vl.1.1 vl.1.2, bsome, oZ_bz, bsome]
        rfl
      · rw [if_pos h, if_neg (fun k => y k.2)]
        simp only [fX10_isNear, if_pos (isT_of S.pl), c_needBoard S C, if_pos h, oT0l, c_needShot S C V h ha, c_needShot S C V h hb, if_pos z, if_neg y, oT0r]
        rfl
    · rw [if_pos h, if_neg (fun k => z k.1)]
      simp only [fX10_isNear, if_pos (isT_of S.pl), c_needBoard S C, if_pos h, oT0l, c_needShot S C V h ha, if_neg z, oT0r]
      rfl
  · rw [if_neg h]
    simp only [fX10_isNear, if_pos (isT_of S.pl), c_needBoard S C, if_neg h, oT0r]
    rfl
theorem cq_shot (S : OKS sh AD) (V : VST σ) {a b : Int} (ha : IR a) (hb : IR b) : CP AD R P σ (fun I => fX10_shot fu sh I R (AD 0) (iz a) (iz b)) (aShotW σ a b) := by
  intro I C
  unfold aShotW
  obtain ⟨b1, b2⟩ := hb
  by_cases h : σ.1 = true
  · have n4 := V.n4
    have B := C.ba S V h
    rw [if_pos h]
    simp only [fX10_shot, if_pos (isT_of S.pl), c_needBoard S C, if_pos h, oT0l, c_needShot S C V h ha, iz_lit]
    by_cases z : 0 ≤ a ∧ a ≤ σ.2.1 4 - 1
    · rw [if_pos z, oT0l, c_needRange b1 b2 (by decide) (by decide) (by decide) (by decide)]
      by_cases y : 0 ≤ b ∧ b ≤ 5
      · obtain ⟨q, f0, f1, f2, f3, f4, f5⟩ := B.1.2.2.2 a z.1 (by omega)
        rw [if_pos y, oT0l, if_pos ⟨z, y⟩]
        simp only [oR_at S.pl C.1.1.1.2.1, B.1.1.2.2, q.1, f0, f1, f2, f3, f4, f5, bsome]
        have k : b = 0 ∨ b = 1 ∨ b = 2 ∨ b = 3 ∨ b = 4 ∨ b = 5 := by omega
        rcases k with rfl | rfl | rfl | rfl | rfl | rfl <;> rfl
      · rw [if_neg y, oT0r, if_neg (fun k => y k.2)]
        rfl
    · rw [if_neg z, oT0r, if_neg (fun k => z k.1)]
      rfl
  · rw [if_neg h]
    simp only [fX10_shot, if_pos (isT_of S.pl), c_needBoard S C, if_neg h, oT0r]
    rfl
end Q4
