/-! STAGE 2: flip, on both sides -/
section Q28
variable {fu : Nat} {sh : HS} {I I' J : HI} {R : HR} {AD : Int → Nat} {P : Int → Int → Int} {σ : STT} {ρ ρ' : RHO} {p : Int → Int} {s x y : Int}
theorem c_over (S : OKS sh AD) (L : PLR R AD) (V : VB ρ) (B : BA sh J R AD 28 p ρ) (h0 : 0 ≤ s) (h1 : s < ρ 4) (h2 : ¬ paS ρ s = -1) {I' : HI} (e : fX8_placeCamera fu sh J R (AD (28 + 12 + p s)) (iz (fxS ρ s)) (iz (fyS ρ s)) = some I') : fX10_turnOver fu sh J R (AD 0) (AD (28 + 12 + p s)) = some I' := by
  obtain ⟨o1, o2⟩ := c_opp (fu := fu) S V B h0 h1 h2
  simp only [fX10_turnOver, if_pos (isT_of S.pl), oR_at S.pl L.1.2.1, bsome]
  rw [o1, bsome, o2, bsome, e, bsome]
theorem ca_flip (S : OKS sh AD) (V : VST σ) (hfu : 5000 ≤ fu) (hs : IR s) : CA AD R P σ (sFlip σ s) (fun I => fX10_flip fu sh I R (AD 0) (iz s)) (aFlip σ s) := by
  intro I C K
  unfold aFlip sFlip
  by_cases h : σ.1 = true
  · have n4 := V.n4
    have B := C.ba S V h
    rw [if_pos h, if_pos h]
    simp only [fX10_flip, if_pos (isT_of S.pl), c_needBoard S C, if_pos h, oT0l, c_needShot S C V h hs, iz_lit, iz_neg]
    by_cases z : 0 ≤ s ∧ s ≤ σ.2.1 4 - 1
    · rw [if_pos z, oT0l, if_pos z, if_pos z]
      have q := (B.1.2.2.2 s z.1 (by omega)).1.1
      have nr := nf_rng σ.2.1 s
      simp only [oR_at S.pl C.1.1.1.2.1, B.1.1.2.2, q, bsome, c_obst S C.1.1 (V.1 h) B z.1 (show s < σ.2.1 4 by omega)]
      by_cases e : nfS σ.2.1 s = 0
      · rw [if_pos e, if_pos e, if_pos (by rw [e])]
        obtain ⟨k1, ⟨k2, k3⟩, k4⟩ := nf_ok e
        have Bs : BSH R AD 28 (P 0) := C.1.2.2.2.2.2.2.2 0 (by decide) (by decide)
        obtain ⟨J, e0, CJ, ⟨z9, z11⟩, F1⟩ := c_begin (fu := fu) S C V hfu h
        obtain ⟨I', e1, e2, L2, F2⟩ := c_camP (fu := fu) S (V.1 h) hfu Bs (CJ.2.2.2.2.2.1 h) z.1 (show s < σ.2.1 4 by omega) k2.1 k2.2 k3.1 k3.2 k4
        have BJ : BA sh J R AD 28 (P 0) σ.2.1 := BA.of (b := 0) S (by decide) (by decide) Bs (CJ.2.2.2.2.2.1 h) (V.1 h)
        have e3 := c_over (fu := fu) S C.1.1 (V.1 h) BJ z.1 (show s < σ.2.1 4 by omega) k1 e1
        obtain ⟨C2, K2⟩ := c_done V h CJ z9 z11 F2 L2
        rw [e0, bsome, e3, bsome, e2, bsome]
        exact ⟨I', rfl, C2, K2, (F1.wd fun i k z => by omega).tr (F2.wd fun i k z => by omega)⟩
      · rw [if_neg e, if_neg e, if_neg (by rw [iz_eq (by omega) (by omega) (by decide) (by decide)]; exact e)]
        exact ⟨I, rfl, C, K, FR.rf _ _ _⟩
    · rw [if_neg z, oT0r, if_neg z, if_neg z]
      exact ⟨I, rfl, C, K, FR.rf _ _ _⟩
  · rw [if_neg h, if_neg h]
    simp only [fX10_flip, if_pos (isT_of S.pl), c_needBoard S C, if_neg h, oT0r]
    exact ⟨I, rfl, C, K, FR.rf _ _ _⟩
end Q28
