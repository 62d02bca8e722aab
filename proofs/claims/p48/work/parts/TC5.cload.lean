/-! STAGE 2: the class loads -/
section Q60
variable {fu : Nat} {sh : HS} {I I' : HI} {R R' : HR} {AD : Int → Nat} {P : Int → Int → Int} {f : Nat → Int} {n : Nat} {p q : PS} {ρ ρ' : RHO} {pp : Int → Int} {σ : STT}
theorem c_read76 (S : OKS sh AD) (H : BSH R AD 52 pp) (C : CST I AD f n p) (L : BVL I AD 52 pp ρ') (V : PV ρ') (he : p.er = 0 → ρ' = ρ) (hf : ¬ p.er = 0 ∨ p.tk = 0) : ∃ I', fX1_read_b76 fu sh I R (AD 2) (AD 52) = some (iz ((dspD f n (p, ρ)).1.er : Int), (I', R)) ∧ CST I' AD f n (dspD f n (p, ρ)).1 ∧ ((dspD f n (p, ρ)).1.er = 0 → BVL I' AD 52 pp (dspD f n (p, ρ)).2) ∧ FIN (dspD f n (p, ρ)) ∧ FRD AD I I' := by
  have hp : ∀ s, 0 ≤ s → s < 12 → 0 ≤ pp s ∧ pp s < 12 := fun s g0 g1 => (H.2.2.2.1 s g0 g1).2
  have b88 : ∀ {K : HI} {q : PS}, CST K AD f n q → fX1_read_b88 fu sh K R (AD 2) = some (iz (q.er : Int), (K, R)) := by
    intro K q D
    simp only [fX1_read_b88, oI_at (S2 S), D.2.2.2.2.2.2.2.1, bsome]
  simp only [fX1_read_b76, c_can S H L V, bsome, iz_lit, bz_zero]
  by_cases z : p.er = 0
  · have y : p.tk = 0 := by rcases hf with h | h; exact absurd z h; exact h
    have er := he z
    subst er
    by_cases x : canS ρ' = true
    · have e : dspD f n (p, ρ') = (p, ρ') := (if_pos z).trans ((if_pos y).trans (if_pos x))
      rw [if_neg (by rw [x]; decide), e]
      dsimp only
      exact ⟨I, b88 C, C, fun _ => L, Or.inr ⟨y, x⟩, FR.rf _ _ _⟩
    · have e : dspD f n (p, ρ') = (falP p 1, ρ') := (if_pos z).trans ((if_pos y).trans (if_neg x))
      obtain ⟨J, a, b, c⟩ := c_fail (fu := fu) (R := R) S C (e := 1) (by decide)
      have a' : fX1_fail fu sh I R (AD 2) (iz 1) = some J := a
      rw [if_pos (by revert x; cases canS ρ' <;> simp), a', bsome, e]
      dsimp only
      exact ⟨J, b88 b, b, fun w => absurd w (fal_er (by decide)), Or.inl (fal_er (by decide)), c.wd fun i k w => Or.inl w⟩
  · have e : dspD f n (p, ρ) = (p, ρ) := if_neg z
    rw [e]
    dsimp only
    by_cases x : canS ρ' = true
    · rw [if_neg (by rw [x]; decide)]
      exact ⟨I, b88 C, C, fun w => absurd w z, Or.inl z, FR.rf _ _ _⟩
    · obtain ⟨J, a, b, c⟩ := c_fail (fu := fu) (R := R) S C (e := 1) (by decide)
      have a' : fX1_fail fu sh I R (AD 2) (iz 1) = some J := a
      rw [fal_ne z] at b
      rw [if_pos (by revert x; cases canS ρ' <;> simp), a', bsome]
      exact ⟨J, b88 b, b, fun w => absurd w z, Or.inl z, c.wd fun i k w => Or.inl w⟩
theorem c_read_loop (S : OKS sh AD) (H : BSH R AD 52 pp) (hR : R (AD 2) 0 = some (AD 1)) (hfu : 5000 ≤ fu) : ∀ d j i : Nat, i + d = n → d < j → ∀ (I : HI) (p : PS) (ρ ρ' : RHO), CST I AD f n p → BVL I AD 52 pp ρ' → PV ρ' → (p.er = 0 → ρ' = ρ) → INV f n (p, ρ) → (p.er = 0 → i ≤ p.st) →
    ∃ I' Y, fX1_read_l42 fu sh (fX1_read_b76 fu sh) j I R (AD 2) (AD 52) (iz (i : Int)) = some (iz ((Y : PS × RHO).1.er : Int), (I', R)) ∧ CST I' AD f n Y.1 ∧ (Y.1.er = 0 → BVL I' AD 52 pp Y.2) ∧ Rch f n (p, ρ) Y ∧ FIN Y ∧ FRD AD I I' := by
  have hp : ∀ s, 0 ≤ s → s < 12 → 0 ≤ pp s ∧ pp s < 12 := fun s g0 g1 => (H.2.2.2.1 s g0 g1).2
  intro d
  induction d with
  | zero =>
    intro j i hi hj I p ρ ρ' C L V he N hs
    obtain ⟨j, rfl⟩ : ∃ t, j = t + 1 := ⟨j - 1, by omega⟩
    have h8 := C.1.1
    have fin : ¬ p.er = 0 ∨ p.tk = 0 := by
      by_cases z : p.er = 0
      · refine Or.inr (Classical.byContradiction fun t => ?_)
        have a := C.2.1.2.2.2.1 t
        have b := C.2.1.2.1
        have c := hs z
        omega
      · exact Or.inl z
    obtain ⟨K, a, b, c, g, h⟩ := c_read76 (fu := fu) (ρ := ρ) S H C L V he fin
    refine ⟨K, dspD f n (p, ρ), ?_, b, c, Rch.one _, g, h⟩
    rw [← a]
    show fX1_read_b42 fu sh (fX1_read_l42 fu sh (fX1_read_b76 fu sh) j) (fX1_read_b76 fu sh) I R (AD 2) (AD 52) (iz (i : Int)) = _
    simp only [fX1_read_b42, oI_at (S2 S), C.2.2.1, bsome]
    rw [if_pos (by rw [iz_le (by omega) (by omega) (by omega) (by omega)]; omega)]
  | succ d ih =>
    intro j i hi hj I p ρ ρ' C L V he N hs
    obtain ⟨j, rfl⟩ : ∃ t, j = t + 1 := ⟨j - 1, by omega⟩
    have h8 := C.1.1
    have w3 := C.2.1.2.2.1
    have e4 := C.2.2.2.2.2.2.2.2
    have c0 : iz (0 : Int) = iz (cTk 0) := rfl
    have un : fX1_read_l42 fu sh (fX1_read_b76 fu sh) (j + 1) I R (AD 2) (AD 52) (iz (i : Int)) = (if p.er = 0 then (if p.tk = 0 then fX1_read_b76 fu sh I R (AD 2) (AD 52) else (fX1_readStatement fu sh I R (AD 2) (AD 52)).bind fun w12 => fX1_read_l42 fu sh (fX1_read_b76 fu sh) j w12 R (AD 2) (AD 52) (iz (i : Int) + iz 1)) else fX1_read_b76 fu sh I R (AD 2) (AD 52)) := by
      show fX1_read_b42 fu sh (fX1_read_l42 fu sh (fX1_read_b76 fu sh) j) (fX1_read_b76 fu sh) I R (AD 2) (AD 52) (iz (i : Int)) = _
      simp only [fX1_read_b42, oI_at (S2 S), C.2.2.1, bsome, C.2.2.2.2.2.2.2.1, C.2.2.2.2.2.1, iz_lit]
      rw [if_neg (by rw [iz_le (by omega) (by omega) (by omega) (by omega)]; omega)]
      by_cases z : p.er = 0
      · rw [if_pos (by rw [z]; rfl), if_pos z]
        by_cases y : p.tk = 0
        · rw [if_pos (by rw [y]; rfl), if_pos y]
        · rw [if_neg (by rw [c0, cTk_eq w3 (by decide)]; exact y), if_neg y]
      · rw [if_neg (by rw [iz_eq (by omega) (by omega) (by decide) (by decide)]; omega), if_neg z]
    rw [un]
    have out : (¬ p.er = 0 ∨ p.tk = 0) → ∃ I' Y, fX1_read_b76 fu sh I R (AD 2) (AD 52) = some (iz ((Y : PS × RHO).1.er : Int), (I', R)) ∧ CST I' AD f n Y.1 ∧ (Y.1.er = 0 → BVL I' AD 52 pp Y.2) ∧ Rch f n (p, ρ) Y ∧ FIN Y ∧ FRD AD I I' := by
      intro fin
      obtain ⟨K, a, b, c, g, h⟩ := c_read76 (fu := fu) (ρ := ρ) S H C L V he fin
      exact ⟨K, dspD f n (p, ρ), a, b, c, Rch.one _, g, h⟩
    by_cases z : p.er = 0
    · rw [if_pos z]
      by_cases y : p.tk = 0
      · rw [if_pos y]
        exact out (Or.inr y)
      · rw [if_neg y]
        have er := he z
        subst er
        obtain ⟨J, a, b, c, g⟩ := c_stm S H hR hfu C L V
        have e : dspD f n (p, ρ') = stmD f n (p, ρ') := (if_pos z).trans (if_neg y)
        have NV : PV ρ' ∧ LV ρ' := N.2 z
        obtain ⟨i1, i2, i3⟩ := stm_inv C.2.1 NV.1 NV.2
        have N2 : INV f n (stmD f n (p, ρ')) := ⟨i1, fun _ => i2⟩
        have ek : iz (i : Int) + iz 1 = iz ((i + 1 : Nat) : Int) := by rw [iz_add]; rfl
        rw [a, bsome, ek]
        obtain ⟨Q, hQ⟩ : ∃ Q, Q = stmD f n (p, ρ') := ⟨_, rfl⟩
        rw [← hQ] at b c i1 i2 i3 N2 e
        obtain ⟨q, τ⟩ := Q
        obtain ⟨K, Y, x1, x2, x3, x4, x5, x6⟩ := ih j (i + 1) (by omega) (by omega) J q τ τ b c i2.1 (fun _ => rfl) N2 (fun w => by
          have h1 : p.st < q.st := i3 z y w
          have := hs z
          omega)
        refine ⟨K, Y, x1, x2, x3, Rch.tr (Rch.one _) (by rw [e]; exact x4), x5, FR.tr g x6⟩
    · rw [if_neg z]
      exact out (Or.inl z)
theorem CRF.r2 (C : CRF R AD P) (h : ∀ i, 0 ≤ i → i < 331 → ¬ i = 2 → ∀ k, R' (AD i) k = R (AD i) k) : CRF R' AD P := by
  obtain ⟨c1, c2, c3, c4, c5, c6, c7, c8⟩ := C
  have f0 := h 0 (by decide) (by decide) (by decide)
  have f6 := h 6 (by decide) (by decide) (by decide)
  have f16 := h 16 (by decide) (by decide) (by decide)
  have f21 := h 21 (by decide) (by decide) (by decide)
  refine ⟨?_, ?_, ?_, ?_, (h 4 (by decide) (by decide) (by decide) 0).trans c5, (h 26 (by decide) (by decide) (by decide) 0).trans c6, fun k hk => (h 5 (by decide) (by decide) (by decide) k).trans (c7 k hk), fun b b0 b1 => ?_⟩
  · unfold PLR at c1 ⊢
    simp only [f0]
    exact c1
  · unfold TR at c2 ⊢
    simp only [f6]
    exact c2
  · unfold ROR at c3 ⊢
    simp only [f16]
    exact c3
  · unfold ROR at c4 ⊢
    simp only [f21]
    exact c4
  · obtain ⟨d1, d2, d3, d4, d5⟩ := c8 b b0 b1
    have g : ∀ i, 28 + 24 * b ≤ i → i < 28 + 24 * b + 24 → ∀ k, R' (AD i) k = R (AD i) k := fun i i0 i1 k => h i (by omega) (by omega) (by omega) k
    refine ⟨(g _ (by omega) (by omega) 5).trans d1, (g _ (by omega) (by omega) 6).trans d2, fun c c0 c1 => ?_, fun n n0 n1 => ?_, d5⟩
    · obtain ⟨e1, e2, e3⟩ := d3 c c0 c1
      exact ⟨(g _ (by omega) (by omega) _).trans e1, (g _ (by omega) (by omega) _).trans e2, (g _ (by omega) (by omega) _).trans e3⟩
    · have q := d4 n n0 n1
      exact ⟨(g _ (by omega) (by omega) _).trans q.1, q.2⟩
theorem c_read (S : OKS sh AD) (H : BSH R AD 52 pp) (hfu : 5000 ≤ fu) (T : TXT I AD f n) : ∃ I', fX1_read fu sh I R (AD 2) (AD 1) (iz (n : Int)) (AD 52) = some (iz ((ldX f n).1.er : Int), (I', u2 R (AD 2) 0 (some (AD 1)))) ∧ CST I' AD f n (ldX f n).1 ∧ ((ldX f n).1.er = 0 → BVL I' AD 52 pp (ldX f n).2) ∧ FRD AD I I' := by
  have h8 := T.1
  obtain ⟨Q, hQ⟩ : ∃ Q, Q = u2 R (AD 2) 0 (some (AD 1)) := ⟨_, rfl⟩
  have fQ : ∀ i, 0 ≤ i → i < 331 → ¬ i = 2 → ∀ k, Q (AD i) k = R (AD i) k := fun i g0 g1 ne k => by rw [hQ, u2_ne S (by decide) (by decide) g0 g1 ne]
  have rQ : Q (AD 2) 0 = some (AD 1) := by rw [hQ, u2_ad S (by decide) (by decide) (by decide) (by decide), if_pos ⟨rfl, rfl⟩]
  have HQ : BSH Q AD 52 pp := by
    obtain ⟨d1, d2, d3, d4, d5⟩ := H
    refine ⟨(fQ _ (by decide) (by decide) (by decide) 5).trans d1, (fQ _ (by decide) (by decide) (by decide) 6).trans d2, fun c c0 c1 => ?_, fun s s0 s1 => ?_, d5⟩
    · obtain ⟨e1, e2, e3⟩ := d3 c c0 c1
      exact ⟨(fQ _ (by decide) (by decide) (by decide) _).trans e1, (fQ _ (by omega) (by omega) (by omega) _).trans e2, (fQ _ (by omega) (by omega) (by omega) _).trans e3⟩
    · have q := d4 s s0 s1
      exact ⟨(fQ _ (by decide) (by decide) (by decide) _).trans q.1, q.2⟩
  obtain ⟨J1, h1⟩ : ∃ J, J = _root_.Jvm.Pilot.@@N@@.u2 I (AD 2) 1 (iz (n : Int)) := ⟨_, rfl⟩
  obtain ⟨J2, h2⟩ : ∃ J, J = _root_.Jvm.Pilot.@@N@@.u2 J1 (AD 2) 3 (iz 0) := ⟨_, rfl⟩
  obtain ⟨J3, h3⟩ : ∃ J, J = _root_.Jvm.Pilot.@@N@@.u2 J2 (AD 2) 6 (iz 0) := ⟨_, rfl⟩
  obtain ⟨J4, h4⟩ : ∃ J, J = _root_.Jvm.Pilot.@@N@@.u2 J3 (AD 52) 3 (iz 0) := ⟨_, rfl⟩
  obtain ⟨J5, h5⟩ : ∃ J, J = _root_.Jvm.Pilot.@@N@@.u2 J4 (AD 52) 4 (iz 0) := ⟨_, rfl⟩
  have F5 : FR AD I J5 (fun i _ => i = 2 ∨ (52 ≤ i ∧ i < 76)) := by
    rw [h5, h4, h3, h2, h1]
    exact FR.u2 S (by decide) (by decide) (by omega) (FR.u2 S (by decide) (by decide) (by omega) (FR.u2 S (by decide) (by decide) (by omega) (FR.u2 S (by decide) (by decide) (by omega) (FR.u2 S (by decide) (by decide) (by omega) (FR.rf AD I _)))))
  have v1 : J5 (AD 2) 1 = iz (n : Int) := by
    rw [h5, u2_ne S (by decide) (by decide) (by decide) (by decide) (by decide), h4, u2_ne S (by decide) (by decide) (by decide) (by decide) (by decide), h3, u2_ad S (by decide) (by decide) (by decide) (by decide), if_neg (by decide), h2, u2_ad S (by decide) (by decide) (by decide) (by decide), if_neg (by decide), h1, u2_ad S (by decide) (by decide) (by decide) (by decide), if_pos ⟨rfl, rfl⟩]
  have v3 : J5 (AD 2) 3 = iz ((0 : Nat) : Int) := by
    rw [h5, u2_ne S (by decide) (by decide) (by decide) (by decide) (by decide), h4, u2_ne S (by decide) (by decide) (by decide) (by decide) (by decide), h3, u2_ad S (by decide) (by decide) (by decide) (by decide), if_neg (by decide), h2, u2_ad S (by decide) (by decide) (by decide) (by decide), if_pos ⟨rfl, rfl⟩]
    rfl
  have v6 : J5 (AD 2) 6 = iz 0 := by
    rw [h5, u2_ne S (by decide) (by decide) (by decide) (by decide) (by decide), h4, u2_ne S (by decide) (by decide) (by decide) (by decide) (by decide), h3, u2_ad S (by decide) (by decide) (by decide) (by decide), if_pos ⟨rfl, rfl⟩]
  have d3 : J5 (AD 52) 3 = iz 0 := by rw [h5, u2_ad S (by decide) (by decide) (by decide) (by decide), if_neg (by decide), h4, u2_ad S (by decide) (by decide) (by decide) (by decide), if_pos ⟨rfl, rfl⟩]
  have d4 : J5 (AD 52) 4 = iz 0 := by rw [h5, u2_ad S (by decide) (by decide) (by decide) (by decide), if_pos ⟨rfl, rfl⟩]
  obtain ⟨J6, a6, b6, c6⟩ := c_nxT (fu := fu) S rQ hfu (Nat.zero_le n) (T.fr F5 (fun _ => by omega)) v1 v3 v6
  obtain ⟨J7, a7, b7, c7, l7⟩ := c_lims S rQ hfu b6
  have e3 : J7 (AD 52) 3 = iz 0 := (c7 52 (by decide) (by decide) 3 (by omega)).trans ((c6 52 (by decide) (by decide) 3 (by omega)).trans d3)
  have e4 : J7 (AD 52) 4 = iz 0 := (c7 52 (by decide) (by decide) 4 (by omega)).trans ((c6 52 (by decide) (by decide) 4 (by omega)).trans d4)
  obtain ⟨τ, hτ⟩ : ∃ τ : RHO, τ = (if (lim5 f n (nxT f n 0)).er = 0 then (ld0 f n).2 else limR (J7 (AD 52) 0).toInt (J7 (AD 52) 1).toInt (J7 (AD 52) 2).toInt) := ⟨_, rfl⟩
  have tz : (∀ j, 3 ≤ j → τ j = 0) ∧ J7 (AD 52) 0 = iz (τ 0) ∧ J7 (AD 52) 1 = iz (τ 1) ∧ J7 (AD 52) 2 = iz (τ 2) := by
    by_cases z : (lim5 f n (nxT f n 0)).er = 0
    · rw [if_pos z] at hτ
      have hτ2 : τ = limR (nmP f (lim1 f n (nxT f n 0))) (nmP f (lim2 f n (nxT f n 0))) (nmP f (lim3 f n (nxT f n 0))) := hτ
      obtain ⟨g0, g1, g2, g3⟩ := limR_v (nmP f (lim1 f n (nxT f n 0))) (nmP f (lim2 f n (nxT f n 0))) (nmP f (lim3 f n (nxT f n 0)))
      obtain ⟨x0, x1, x2⟩ := l7 z
      rw [hτ2, g0, g1, g2]
      exact ⟨g3, x0, x1, x2⟩
    · rw [if_neg z] at hτ
      obtain ⟨g0, g1, g2, g3⟩ := limR_v (J7 (AD 52) 0).toInt (J7 (AD 52) 1).toInt (J7 (AD 52) 2).toInt
      rw [hτ, g0, g1, g2, iz_self, iz_self, iz_self]
      exact ⟨g3, rfl, rfl, rfl⟩
  obtain ⟨t3, t0, t1, t2⟩ := tz
  have L7 : BVL J7 AD 52 pp τ := by
    refine ⟨⟨t0, t1, t2, by rw [e3, t3 3 (by decide)], by rw [e4, t3 4 (by decide)]⟩, fun c g0 g1 => ?_, fun s g0 g1 => ?_⟩
    · rw [t3 3 (by decide)] at g1; omega
    · rw [t3 4 (by decide)] at g1; omega
  have N := ld0_inv f n
  obtain ⟨K, Y, x1, x2, x3, x4, x5, x6⟩ := c_read_loop (fu := fu) (f := f) S HQ rQ hfu n fu 0 (by omega) (by omega) J7 (lim5 f n (nxT f n 0)) (ld0 f n).2 τ b7 L7 (PV.zero (t3 3 (by decide)) (t3 4 (by decide))) (fun w => by rw [hτ]; exact if_pos w) N (fun _ => Nat.zero_le _)
  have eY : ldX f n = Y := ldX_eq x4 x5
  rw [eY]
  refine ⟨K, ?_, x2, x3, FR.tr (FR.tr (FR.tr F5 (c6.wd fun i k w => Or.inl w)) (c7.wd fun i k w => by omega)) x6⟩
  have e0 : iz ((0 : Nat) : Int) = iz 0 := rfl
  rw [e0] at x1
  simp only [fX1_read, if_pos (isT_of (S2 S)), oQ_at (S2 S), oP_at (S2 S), oP_at (K52 S).1, bsome, iz_lit]
  rw [← hQ, ← h1, ← h2, ← h3, ← h4, ← h5, a6, bsome, a7, bsome]
  exact x1
end Q60
