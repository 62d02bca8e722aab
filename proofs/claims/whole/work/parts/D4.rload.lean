/-! STAGE 2: load of the reference -/
theorem ld_dead0 {f : Nat → Int} {n : Nat} {Y : PS × RHO} (rc : Rch f n (ld0 f n) Y) (w : ¬ (lim5 f n (nxT f n 0)).er = 0) : Y.1 = lim5 f n (nxT f n 0) := by
  obtain ⟨q, τ⟩ := Y
  have e0 : ld0 f n = (lim5 f n (nxT f n 0), (ld0 f n).2) := rfl
  rw [e0] at rc
  exact rc.dd w
theorem ld_dead {f : Nat → Int} {n : Nat} (w : ¬ (lim5 f n (nxT f n 0)).er = 0) : (ldX f n).1 = lim5 f n (nxT f n 0) := ld_dead0 (ld_ex f n).choose_spec.1 w
section Q66
variable {fu : Nat} {sh : HS} {I I' : HI} {R : HR} {AD : Int → Nat} {f : Nat → Int} {n : Nat} {p q : PS} {ρ : RHO} {σ : STT}
theorem r_zero (S : OKS sh AD) (M : MR R AD) (k26 : HI → Nat → Option (Int32 × HI)) : ∀ d j i : Nat, i + d = 119 → d < j → ∀ I : HI, (∀ t : Nat, t < i → I (AD 318) t = iz 0) →
    ∃ I', fX11_load_l7 fu sh R k26 j I (AD 316) (iz (i : Int)) = k26 I' (AD 316) ∧ (∀ t : Nat, t < 119 → I' (AD 318) t = iz 0) ∧ FR AD I I' (fun i _ => i = 318) := by
  intro d
  induction d with
  | zero =>
    intro j i hi hj I h
    obtain ⟨j, rfl⟩ : ∃ t, j = t + 1 := ⟨j - 1, by omega⟩
    refine ⟨I, ?_, fun t ht => h t (by omega), FR.rf _ _ _⟩
    show fX11_load_b7 fu sh R (fX11_load_l7 fu sh R k26 j) k26 I (AD 316) _ = _
    simp only [fX11_load_b7, iz_lit]
    rw [if_pos (by rw [iz_le (by decide) (by decide) (by omega) (by omega)]; omega)]
  | succ d ih =>
    intro j i hi hj I h
    obtain ⟨j, rfl⟩ : ∃ t, j = t + 1 := ⟨j - 1, by omega⟩
    obtain ⟨J, hJ⟩ : ∃ J, J = _root_.Jvm.Pilot.@@N@@.u2 I (AD 318) i (iz 0) := ⟨_, rfl⟩
    have F : FR AD I J (fun i _ => i = 318) := by rw [hJ]; exact FR.u2 S (by decide) (by decide) rfl (FR.rf AD I _)
    obtain ⟨I', a, b, c⟩ := ih j (i + 1) (by omega) (by omega) J (fun t ht => by
      rw [hJ, u2_ad S (by decide) (by decide) (by decide) (by decide)]
      by_cases z : t = i
      · rw [if_pos ⟨rfl, z⟩]
      · rw [if_neg (fun w => z w.2)]
        exact h t (by omega))
    refine ⟨I', ?_, b, F.tr c⟩
    have ek : iz (i : Int) + iz 1 = iz ((i + 1 : Nat) : Int) := by rw [iz_add]; rfl
    rw [← a]
    show fX11_load_b7 fu sh R (fX11_load_l7 fu sh R k26 j) k26 I (AD 316) _ = _
    simp only [fX11_load_b7, iz_lit, oR_at S.md M.1.2.1, bsome, ek]
    rw [if_neg (by rw [iz_le (by decide) (by decide) (by omega) (by omega)]; omega), oS_nat (S318 S) (show i < 119 by omega) (by decide), bsome, ← hJ]
theorem r_outer (S : OKS sh AD) (M : MR R AD) (hfu : 5000 ≤ fu) (k134 : HI → Nat → Option (Int32 × HI)) : ∀ d j : Nat, d < j → ∀ (I : HI) (p : PS) (ρ : RHO), RST I AD f n p → RWD I AD ρ → PV ρ → (p.er = 0 → n < p.st + d) → (p.er = 0 → OC f p ρ) →
    ∃ (I' : HI) (q : PS) (τ : RHO), fX11_load_l113 fu sh R k134 j I (AD 316) = k134 I' (AD 316) ∧ RST I' AD f n q ∧ RWD I' AD τ ∧ Rch f n (p, ρ) (q, τ) ∧ FIN (q, τ) ∧ FRM AD I I' := by
  intro d
  induction d with
  | zero =>
    intro j hj I p ρ C D V hs hb
    obtain ⟨j, rfl⟩ : ∃ t, j = t + 1 := ⟨j - 1, by omega⟩
    have z : ¬ p.er = 0 := fun z => by
      have := hs z
      have a := C.2.1.1
      have b := C.2.1.2.1
      omega
    refine ⟨I, p, ρ, ?_, C, D, Rch.rf _, Or.inl z, FR.rf _ _ _⟩
    show fX11_load_b113 fu sh R (fX11_load_l113 fu sh R k134 j) k134 I (AD 316) = _
    simp only [fX11_load_b113, r_fine (fu := fu) (R := R) S C.2.2.2.2.2.2.2.1 C.2.2.2.2.2.2.1, bsome, iz_lit, bz_zero]
    rw [if_pos (decide_eq_false z)]
  | succ d ih =>
    intro j hj I p ρ C D V hs hb
    obtain ⟨j, rfl⟩ : ∃ t, j = t + 1 := ⟨j - 1, by omega⟩
    have w3 := C.2.1.2.2.1
    have un : fX11_load_l113 fu sh R k134 (j + 1) I (AD 316) = (if p.er = 0 then (if p.tk = 0 then k134 I (AD 316) else (fX11_readScene fu sh I R (AD 316)).bind fun w25 => fX11_load_l113 fu sh R k134 j w25 (AD 316)) else k134 I (AD 316)) := by
      show fX11_load_b113 fu sh R (fX11_load_l113 fu sh R k134 j) k134 I (AD 316) = _
      simp only [fX11_load_b113, r_fine (fu := fu) (R := R) S C.2.2.2.2.2.2.2.1 C.2.2.2.2.2.2.1, bsome, iz_lit, bz_zero, oI_at S.md, C.2.2.2.2.1]
      by_cases z : p.er = 0
      · rw [if_neg (by rw [decide_eq_true z]; decide), if_pos z]
        by_cases y : p.tk = 0
        · rw [if_pos (by rw [y]; rfl), if_pos y]
        · rw [if_neg (by rw [iz_eq (by omega) (by omega) (by decide) (by decide)]; omega), if_neg y]
      · rw [if_pos (decide_eq_false z), if_neg z]
    rw [un]
    by_cases z : p.er = 0
    · rw [if_pos z]
      by_cases y : p.tk = 0
      · rw [if_pos y]
        exact ⟨I, p, ρ, rfl, C, D, Rch.rf _, Or.inr ⟨y, (hb z).1⟩, FR.rf _ _ _⟩
      · rw [if_neg y]
        obtain ⟨J, r, τ, x1, x2, x3, x4, x5, x6, x7⟩ := r_scene S M hfu C D V (fun w => Or.inr ⟨y, hb w⟩)
        obtain ⟨K, q, υ, y1, y2, y3, y4, y5, y6⟩ := ih j (by omega) J r τ x2 x3 x4 (fun w => by have := hs z; have := (x6 w).2; omega) (fun w => (x6 w).1)
        refine ⟨K, q, υ, ?_, y2, y3, x5.tr y4, y5, FR.tr x7 y6⟩
        rw [x1, bsome]
        exact y1
    · rw [if_neg z]
      exact ⟨I, p, ρ, rfl, C, D, Rch.rf _, Or.inl z, FR.rf _ _ _⟩
theorem r_lay317 (S : OKS sh AD) (M : MR R AD) (D : RWD I AD ρ) : ∀ d j i : Nat, i + d = 119 → d < j → ∀ J : HI, FR AD I J (fun i k => i = 317 ∨ (i = 316 ∧ k = 15)) → (∀ t : Nat, t < i → J (AD 317) t = iz (ρ t)) →
    ∃ K, fX11_load_l159 fu sh R j J (AD 316) (iz (i : Int)) = some (iz (ρ 4), u2 (u2 K (AD 316) 4 (iz 1)) (AD 316) 3 (iz 0)) ∧ RW K AD ρ ∧ FR AD I K (fun i k => i = 317 ∨ (i = 316 ∧ k = 15)) ∧ K (AD 316) 15 = J (AD 316) 15 := by
  intro d
  induction d with
  | zero =>
    intro j i hi hj J F h
    obtain ⟨j, rfl⟩ : ∃ t, j = t + 1 := ⟨j - 1, by omega⟩
    refine ⟨J, ?_, fun t t0 t1 => ?_, F, rfl⟩
    · have e4 : oA sh (u2 (u2 J (AD 316) 4 (iz 1)) (AD 316) 3 (iz 0)) (AD 317) (iz 4) = some (iz (ρ 4)) := by
        rw [oA_iz S.rw (by decide) (by decide) (by decide), u2_ne S (by decide) (by decide) (by decide) (by decide) (by decide), u2_ne S (by decide) (by decide) (by decide) (by decide) (by decide)]
        have := h 4 (by omega)
        exact congrArg some this
      show fX11_load_b159 fu sh R (fX11_load_l159 fu sh R j) J (AD 316) _ = _
      simp only [fX11_load_b159, iz_lit, oP_at S.md, bsome, oR_at S.md M.1.1, e4]
      rw [if_pos (by rw [iz_le (by decide) (by decide) (by omega) (by omega)]; omega)]
    · have := h t.toNat (by omega)
      rw [this]
      congr 2
      omega
  | succ d ih =>
    intro j i hi hj J F h
    obtain ⟨j, rfl⟩ : ∃ t, j = t + 1 := ⟨j - 1, by omega⟩
    obtain ⟨J2, hJ⟩ : ∃ K, K = _root_.Jvm.Pilot.@@N@@.u2 J (AD 317) i (iz (ρ i)) := ⟨_, rfl⟩
    have F2 : FR AD I J2 (fun i k => i = 317 ∨ (i = 316 ∧ k = 15)) := by rw [hJ]; exact FR.u2 S (by decide) (by decide) (Or.inl rfl) F
    obtain ⟨K, a, b, c, e⟩ := ih j (i + 1) (by omega) (by omega) J2 F2 (fun t ht => by
      rw [hJ, u2_ad S (by decide) (by decide) (by decide) (by decide)]
      by_cases z : t = i
      · rw [if_pos ⟨rfl, z⟩, z]
      · rw [if_neg (fun w => z w.2)]
        exact h t (by omega))
    refine ⟨K, ?_, b, c, by rw [e, hJ, u2_ne S (by decide) (by decide) (by decide) (by decide) (by decide)]⟩
    have ek : iz (i : Int) + iz 1 = iz ((i + 1 : Nat) : Int) := by rw [iz_add]; rfl
    have rd : oA sh J (AD 318) (iz (i : Int)) = some (iz (ρ i)) := by
      rw [oA_nat (S318 S) (show i < 119 by omega) (by decide), F 318 (by decide) (by decide) i (by omega)]
      have := D (i : Int) (by omega) (by omega)
      rw [Int.toNat_natCast] at this
      rw [this]
    rw [← a]
    show fX11_load_b159 fu sh R (fX11_load_l159 fu sh R j) J (AD 316) _ = _
    simp only [fX11_load_b159, iz_lit, bsome, oR_at S.md M.1.1, oR_at S.md M.1.2.1, rd, ek]
    rw [if_neg (by rw [iz_le (by decide) (by decide) (by omega) (by omega)]; omega), oS_nat S.rw (show i < 119 by omega) (by decide), bsome, ← hJ]
theorem ra_load (S : OKS sh AD) (V : VST σ) (hfu : 5000 ≤ fu) : RA AD R σ (sLoad σ) (fun I => fX11_load fu sh I R (AD 316)) (.inl (vLoad σ)) := by
  intro I H
  have h8 := V.2.2.2.2.1
  obtain ⟨M, c2, ⟨c3, c4, c5, c6, c7⟩, c8, c9, c10⟩ := H
  obtain ⟨n, hn⟩ : ∃ n, n = σ.2.2.2.1 := ⟨_, rfl⟩
  obtain ⟨f, hf⟩ : ∃ f, f = σ.2.2.2.2.1 := ⟨_, rfl⟩
  have hr : ∀ k, k < n → 0 ≤ f k ∧ f k ≤ 255 := by rw [hn, hf]; exact V.2.2.2.2.2.1
  rw [← hn] at h8 c5 c8
  rw [← hf] at c8
  obtain ⟨J0, h0⟩ : ∃ J, J = _root_.Jvm.Pilot.@@N@@.u2 I (AD 316) 5 (iz 0) := ⟨_, rfl⟩
  obtain ⟨J1, a1, z1, f1⟩ := r_zero (fu := fu) S M (fX11_load_b26 fu sh R) 119 fu 0 (by omega) (by omega) J0 (fun t ht => absurd ht (Nat.not_lt_zero t))
  have a1 : fX11_load_l7 fu sh R (fX11_load_b26 fu sh R) fu J0 (AD 316) (iz 0) = fX11_load_b26 fu sh R J1 (AD 316) := a1
  obtain ⟨J2, h2⟩ : ∃ J, J = _root_.Jvm.Pilot.@@N@@.u2 J1 (AD 316) 8 (iz (n : Int)) := ⟨_, rfl⟩
  obtain ⟨J3, h3⟩ : ∃ J, J = _root_.Jvm.Pilot.@@N@@.u2 J2 (AD 316) 7 (iz 0) := ⟨_, rfl⟩
  obtain ⟨J4, h4⟩ : ∃ J, J = _root_.Jvm.Pilot.@@N@@.u2 J3 (AD 316) 9 (iz 0) := ⟨_, rfl⟩
  obtain ⟨J5, h5⟩ : ∃ J, J = _root_.Jvm.Pilot.@@N@@.u2 J4 (AD 316) 13 (iz 0) := ⟨_, rfl⟩
  obtain ⟨J6, h6⟩ : ∃ J, J = _root_.Jvm.Pilot.@@N@@.u2 J5 (AD 316) 14 (iz (-1)) := ⟨_, rfl⟩
  have F0 : FR AD I J0 (fun i k => i = 318 ∨ (i = 316 ∧ (k = 5 ∨ (7 ≤ k ∧ k ≤ 14)))) := by rw [h0]; exact FR.u2 S (by decide) (by decide) (Or.inr ⟨rfl, Or.inl rfl⟩) (FR.rf AD I _)
  have F1 : FR AD I J1 (fun i k => i = 318 ∨ (i = 316 ∧ (k = 5 ∨ (7 ≤ k ∧ k ≤ 14)))) := F0.tr (f1.wd fun i k w => Or.inl w)
  have F16 : FR AD J1 J6 (fun i k => i = 316 ∧ (7 ≤ k ∧ k ≤ 14)) := by
    rw [h6, h5, h4, h3, h2]
    exact FR.u2 S (by decide) (by decide) (by omega) (FR.u2 S (by decide) (by decide) (by omega) (FR.u2 S (by decide) (by decide) (by omega) (FR.u2 S (by decide) (by decide) (by omega) (FR.u2 S (by decide) (by decide) (by omega) (FR.rf AD J1 _)))))
  have F6 : FR AD I J6 (fun i k => i = 318 ∨ (i = 316 ∧ (k = 5 ∨ (7 ≤ k ∧ k ≤ 14)))) := F1.tr (F16.wd fun i k w => by omega)
  have at_ : ∀ (J : HI) (k k' : Nat) (x : Int32), u2 J (AD 316) k x (AD 316) k' = if k' = k then x else J (AD 316) k' := by
    intro J k k' x
    rw [u2_ad S (by decide) (by decide) (by decide) (by decide)]
    by_cases z : k' = k
    · rw [if_pos ⟨rfl, z⟩, if_pos z]
    · rw [if_neg (fun w => z w.2), if_neg z]
  have v7 : J6 (AD 316) 7 = iz 0 := by rw [h6, at_, if_neg (by decide), h5, at_, if_neg (by decide), h4, at_, if_neg (by decide), h3, at_, if_pos rfl]
  have v8 : J6 (AD 316) 8 = iz (n : Int) := by rw [h6, at_, if_neg (by decide), h5, at_, if_neg (by decide), h4, at_, if_neg (by decide), h3, at_, if_neg (by decide), h2, at_, if_pos rfl]
  have v9 : J6 (AD 316) 9 = iz ((0 : Nat) : Int) := by rw [h6, at_, if_neg (by decide), h5, at_, if_neg (by decide), h4, at_, if_pos rfl]; rfl
  have v13 : J6 (AD 316) 13 = iz 0 := by rw [h6, at_, if_neg (by decide), h5, at_, if_pos rfl]
  have v14 : J6 (AD 316) 14 = iz (-1) := by rw [h6, at_, if_pos rfl]
  have T : TXM J6 AD f n := ⟨h8, c8.fr F6 (by decide) (by decide) (fun _ => by omega), hr, v8⟩
  have D6 : RWD J6 AD (fun _ => 0) := fun j g0 g1 => (F16 318 (by decide) (by decide) _ (by omega)).trans (z1 j.toNat (by omega))
  obtain ⟨J7, a7, b7, f7⟩ := r_nxT (fu := fu) S M hfu (Nat.zero_le n) T v9 v13 v14
  obtain ⟨J8, a8, b8, f8⟩ := r_exW S M hfu b7 (w := 14) (by decide)
  have b8 : RST J8 AD f n (lim1 f n (nxT f n 0)) := b8
  obtain ⟨x1, J9, a9, b9, f9, g9⟩ := r_take S M hfu b8 (lo := 0) (hi := 99) (by decide) (by decide) (by decide) (by decide)
  have b9 : RST J9 AD f n (lim2 f n (nxT f n 0)) := b9
  obtain ⟨J10, h10⟩ : ∃ J, J = _root_.Jvm.Pilot.@@N@@.u2 J9 (AD 318) (0 : Int).toNat x1 := ⟨_, rfl⟩
  have b10 : RST J10 AD f n (lim2 f n (nxT f n 0)) := by rw [h10]; exact b9.u S _ _
  obtain ⟨x2, J11, a11, b11, f11, g11⟩ := r_take S M hfu b10 (lo := 0) (hi := 2000) (by decide) (by decide) (by decide) (by decide)
  have b11 : RST J11 AD f n (lim3 f n (nxT f n 0)) := b11
  obtain ⟨J12, h12⟩ : ∃ J, J = _root_.Jvm.Pilot.@@N@@.u2 J11 (AD 318) (1 : Int).toNat x2 := ⟨_, rfl⟩
  have b12 : RST J12 AD f n (lim3 f n (nxT f n 0)) := by rw [h12]; exact b11.u S _ _
  obtain ⟨x3, J13, a13, b13, f13, g13⟩ := r_take S M hfu b12 (lo := 0) (hi := 2000) (by decide) (by decide) (by decide) (by decide)
  have b13 : RST J13 AD f n (lim4 f n (nxT f n 0)) := b13
  obtain ⟨J14, h14⟩ : ∃ J, J = _root_.Jvm.Pilot.@@N@@.u2 J13 (AD 318) (2 : Int).toNat x3 := ⟨_, rfl⟩
  have b14 : RST J14 AD f n (lim4 f n (nxT f n 0)) := by rw [h14]; exact b13.u S _ _
  obtain ⟨J15, a15, b15, f15⟩ := r_semi S M hfu b14
  have b15 : RST J15 AD f n (lim5 f n (nxT f n 0)) := b15
  have D9 : RWD J9 AD (fun _ => 0) := D6.rm ((f7.tr f8).tr f9)
  have D10 : RWD J10 AD (up1 (fun _ => 0) 0 x1.toInt) := by
    have q := RWD.w1 S D9 (j := 0) (by decide) x1.toInt
    rw [iz_self] at q
    rw [h10]
    exact q
  have D12 : RWD J12 AD (up1 (up1 (fun _ => 0) 0 x1.toInt) 1 x2.toInt) := by
    have q := RWD.w1 S (D10.rm f11) (j := 1) (by decide) x2.toInt
    rw [iz_self] at q
    rw [h12]
    exact q
  have D14 : RWD J14 AD (limR x1.toInt x2.toInt x3.toInt) := by
    have q := RWD.w1 S (D12.rm f13) (j := 2) (by decide) x3.toInt
    rw [iz_self] at q
    rw [h14]
    exact q
  have D15 : RWD J15 AD (limR x1.toInt x2.toInt x3.toInt) := D14.rm f15
  have W0 := (nxT_wf (f := f) (Nat.zero_le n)).1
  have eR : (lim5 f n (nxT f n 0)).er = 0 → limR x1.toInt x2.toInt x3.toInt = (ld0 f n).2 := by
    intro w
    obtain ⟨k1, k2, k3⟩ := lim_ok W0 w
    rw [g9 k1.1, g11 k2.1, g13 k3.1, iz_toInt (by omega) (by omega), iz_toInt (by omega) (by omega), iz_toInt (by omega) (by omega)]
    rfl
  obtain ⟨l0, l1, l2, l3⟩ := limR_v x1.toInt x2.toInt x3.toInt
  have V15 : PV (limR x1.toInt x2.toInt x3.toInt) := PV.zero (l3 3 (by decide)) (l3 4 (by decide))
  obtain ⟨J16, q1, τ1, a16, b16, D16, V16, r16, o16, f16⟩ := r_scene S M hfu b15 D15 V15 (fun _ => Or.inl (l3 3 (by decide)))
  obtain ⟨J17, q, τ, a17, b17, D17, r17, fin, f17⟩ := r_outer S M hfu (fX11_load_b134 fu sh R) (n + 1) fu (by omega) J16 q1 τ1 b16 D16 V16 (fun _ => by omega) (fun w => (o16 w).1)
  have eY1 : (ldX f n).1 = q ∧ (q.er = 0 → (ldX f n).2 = τ) := by
    have rc := r16.tr r17
    by_cases w : (lim5 f n (nxT f n 0)).er = 0
    · rw [eR w] at rc
      have e0 : ld0 f n = (lim5 f n (nxT f n 0), (ld0 f n).2) := rfl
      rw [← e0] at rc
      rw [ldX_eq rc fin]
      exact ⟨rfl, fun _ => rfl⟩
    · have e9 := rc.dd w
      refine ⟨(ld_dead w).trans e9.symm, fun k => ?_⟩
      rw [e9] at k
      exact absurd k w
  have FM : FR AD J6 J17 (fun i k => i = 318 ∨ (i = 316 ∧ (9 ≤ k ∧ k ≤ 14))) := by
    have t1 : ∀ {A B : HI}, FR AD A B RDM → FR AD A B (fun i k => i = 318 ∨ (i = 316 ∧ (9 ≤ k ∧ k ≤ 14))) := fun F => F.wd fun i k w => Or.inr w
    have t2 : ∀ {A B : HI}, FRM AD A B → FR AD A B (fun i k => i = 318 ∨ (i = 316 ∧ (9 ≤ k ∧ k ≤ 14))) := fun F => FR.wd F fun i k w => w.elim (fun x => Or.inr x) (fun x => Or.inl x)
    have u1 : FR AD J9 J10 (fun i k => i = 318 ∨ (i = 316 ∧ (9 ≤ k ∧ k ≤ 14))) := by rw [h10]; exact FR.u2 S (by decide) (by decide) (Or.inl rfl) (FR.rf AD J9 _)
    have u2' : FR AD J11 J12 (fun i k => i = 318 ∨ (i = 316 ∧ (9 ≤ k ∧ k ≤ 14))) := by rw [h12]; exact FR.u2 S (by decide) (by decide) (Or.inl rfl) (FR.rf AD J11 _)
    have u3 : FR AD J13 J14 (fun i k => i = 318 ∨ (i = 316 ∧ (9 ≤ k ∧ k ≤ 14))) := by rw [h14]; exact FR.u2 S (by decide) (by decide) (Or.inl rfl) (FR.rf AD J13 _)
    exact ((((((((((t1 f7).tr (t1 f8)).tr (t1 f9)).tr u1).tr (t1 f11)).tr u2').tr (t1 f13)).tr u3).tr (t1 f15)).tr (t2 f16)).tr (t2 f17)
  have FA : FR AD I J17 (fun i k => i = 318 ∨ (i = 316 ∧ (k = 5 ∨ (7 ≤ k ∧ k ≤ 14)))) := F6.tr (FM.wd fun i k w => by omega)
  have y5 : J17 (AD 316) 5 = iz 0 := by
    rw [FM 316 (by decide) (by decide) 5 (by omega), F16 316 (by decide) (by decide) 5 (by omega), f1 316 (by decide) (by decide) 5 (by omega), h0, at_, if_pos rfl]
  have y7 : J17 (AD 316) 7 = iz 0 := (FM 316 (by decide) (by decide) 7 (by omega)).trans v7
  have y14 := b17.2.2.2.2.2.2.2.2
  have y13 := b17.2.2.2.2.2.2.1
  have y4 := b17.2.2.2.2.2.2.2.1
  obtain ⟨K, hK⟩ : ∃ J, J = _root_.Jvm.Pilot.@@N@@.u2 J17 (AD 316) 15 (iz (if q.er = 0 then -1 else (q.st : Int))) := ⟨_, rfl⟩
  have K13 : K (AD 316) 13 = iz (q.er : Int) := by rw [hK, at_, if_neg (by decide)]; exact y13
  have K15 : K (AD 316) 15 = iz (if q.er = 0 then -1 else (q.st : Int)) := by rw [hK, at_, if_pos rfl]
  have FK : FR AD J17 K (fun i k => i = 316 ∧ k = 15) := by rw [hK]; exact FR.u2 S (by decide) (by decide) ⟨rfl, rfl⟩ (FR.rf AD J17 _)
  have start : fX11_load fu sh I R (AD 316) = (if decide (q.er = 0) = false then some (iz (-10) - iz (q.er : Int), K) else (fX11_load_l159 fu sh R fu) K (AD 316) (iz 0)) := by
    have I7 : J1 (AD 316) 7 = iz (n : Int) := by
      rw [f1 316 (by decide) (by decide) 7 (by omega), h0, at_, if_neg (by decide)]
      exact c5
    have s1 : fX11_load fu sh I R (AD 316) = fX11_load_b26 fu sh R J1 (AD 316) := by
      simp only [fX11_load, if_pos (isT_of S.md), oP_at S.md, bsome, iz_lit]
      rw [← h0, a1]
    have k8 := S318 S
    rw [s1]
    simp only [fX11_load_b26, oI_at S.md, I7, bsome, oP_at S.md, iz_lit, iz_neg]
    rw [← h2, ← h3, ← h4, ← h5, ← h6, a7, bsome, a8, bsome, oR_at S.md M.1.2.1, bsome, a9, oHs, oS_iz k8 (by decide) (by decide) (by decide), bsome, ← h10, bsome, a11, oHs, oS_iz k8 (by decide) (by decide) (by decide), bsome, ← h12, bsome, a13, oHs, oS_iz k8 (by decide) (by decide) (by decide), bsome, ← h14, a15, bsome, a16, bsome, a17]
    simp only [fX11_load_b134, oI_at S.md, y14, bsome, oP_at S.md]
    rw [← hK]
    simp only [r_fine (fu := fu) (R := R) S y4 K13, bsome, iz_lit, iz_neg, bz_zero, K13]
  show ∃ I', fX11_load fu sh I R (AD 316) = some (iz (vLoad σ), I') ∧ I' (AD 316) 5 = iz 0 ∧ RIB I' R AD (sLoad σ) ∧ FR AD I I' (fun i _ => 316 ≤ i)
  rw [start]
  unfold vLoad sLoad
  rw [← hn, ← hf, eY1.1]
  by_cases z : q.er = 0
  · rw [decide_eq_true z, if_neg (by decide), if_pos z, if_pos z, eY1.2 z]
    have DK : RWD K AD τ := D17.fr FK (fun _ => by omega)
    obtain ⟨L, e1, e2, e3, e4⟩ := r_lay317 (fu := fu) S M DK 119 fu 0 (by omega) (by omega) K (FR.rf _ _ _) (fun t ht => absurd ht (Nat.not_lt_zero t))
    have e1 : fX11_load_l159 fu sh R fu K (AD 316) (iz 0) = some (iz (τ 4), u2 (u2 L (AD 316) 4 (iz 1)) (AD 316) 3 (iz 0)) := e1
    obtain ⟨Z, hZ⟩ : ∃ Z, Z = u2 (u2 L (AD 316) 4 (iz 1)) (AD 316) 3 (iz 0) := ⟨_, rfl⟩
    rw [← hZ] at e1
    have FZ : FR AD L Z (fun i k => i = 316 ∧ (k = 3 ∨ k = 4)) := by rw [hZ]; exact FR.u2 S (by decide) (by decide) ⟨rfl, Or.inl rfl⟩ (FR.u2 S (by decide) (by decide) ⟨rfl, Or.inr rfl⟩ (FR.rf AD L _))
    have FB : FR AD I Z (fun i k => i = 318 ∨ i = 317 ∨ (i = 316 ∧ (k = 3 ∨ k = 4 ∨ k = 5 ∨ (7 ≤ k ∧ k ≤ 15)))) := ((((FA.wd fun i k w => by omega).tr (FK.wd fun i k w => by omega)).tr (e3.wd fun i k w => by omega)).tr (FZ.wd fun i k w => by omega))
    have keep : ∀ k, ¬ k = 3 → ¬ k = 4 → ¬ k = 15 → Z (AD 316) k = J17 (AD 316) k := fun k k3 k4 k15 => (FZ 316 (by decide) (by decide) k (by omega)).trans ((e3 316 (by decide) (by decide) k (by omega)).trans (FK 316 (by decide) (by decide) k (by omega)))
    refine ⟨Z, e1, (keep 5 (by decide) (by decide) (by decide)).trans y5, ⟨M, e2.fr FZ (fun _ => by omega), ⟨?_, ?_, (keep 7 (by decide) (by decide) (by decide)).trans y7, ?_, (FB 316 (by decide) (by decide) 28 (by omega)).trans c7⟩, fun j hj => absurd hj (Nat.not_lt_zero j), c9.fr FB (by decide) (by decide) (fun _ => by omega), fun t h ht => absurd ht (by simp)⟩, FB.wd fun i k w => by omega⟩
    · rw [hZ, at_, if_pos rfl]; rfl
    · rw [hZ, at_, if_neg (by decide), at_, if_pos rfl]; rfl
    · rw [FZ 316 (by decide) (by decide) 15 (by omega), e4, K15, if_pos z]
  · rw [decide_eq_false z, if_pos rfl, if_neg z, if_neg z]
    have FB : FR AD I K (fun i k => i = 318 ∨ (i = 316 ∧ (k = 5 ∨ (7 ≤ k ∧ k ≤ 15)))) := (FA.wd fun i k w => by omega).tr (FK.wd fun i k w => by omega)
    refine ⟨K, by rw [iz_sub], (FK 316 (by decide) (by decide) 5 (by omega)).trans y5, ⟨M, c2.fr FB (fun _ => by omega), ⟨(FB 316 (by decide) (by decide) 3 (by omega)).trans c3, (FB 316 (by decide) (by decide) 4 (by omega)).trans c4, (FK 316 (by decide) (by decide) 7 (by omega)).trans y7, ?_, (FB 316 (by decide) (by decide) 28 (by omega)).trans c7⟩, fun j hj => absurd hj (Nat.not_lt_zero j), c9.fr FB (by decide) (by decide) (fun _ => by omega), fun t h ht j hj => (FB 319 (by decide) (by decide) _ (by omega)).trans (c10 t h ht j hj)⟩, FB.wd fun i k w => by omega⟩
    rw [K15, if_neg z]
end Q66
