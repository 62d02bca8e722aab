/-! STAGE 2: load of the class -/
theorem ldX_wf (f : Nat → Int) (n : Nat) : WfP f n (ldX f n).1 := by
  obtain ⟨⟨k, hk⟩, b⟩ := (ld_ex f n).choose_spec
  have hk : ldX f n = iterD f n k (ld0 f n) := hk
  rw [hk]
  exact (it_inv k _ (ld0_inv f n)).1
noncomputable def vLoad (σ : STT) : Int := if (ldX σ.2.2.2.2.1 σ.2.2.2.1).1.er = 0 then (ldX σ.2.2.2.2.1 σ.2.2.2.1).2 4 else -10 - ((ldX σ.2.2.2.2.1 σ.2.2.2.1).1.er : Int)
noncomputable def sLoad (σ : STT) : STT := if (ldX σ.2.2.2.2.1 σ.2.2.2.1).1.er = 0 then (true, (ldX σ.2.2.2.2.1 σ.2.2.2.1).2, [], 0, σ.2.2.2.2.1, -1, σ.2.2.2.2.2.2) else (σ.1, σ.2.1, σ.2.2.1, 0, σ.2.2.2.2.1, ((ldX σ.2.2.2.2.1 σ.2.2.2.1).1.st : Int), σ.2.2.2.2.2.2)
theorem VST.load {σ : STT} (V : VST σ) : VST (sLoad σ) := by
  have W := ldX_wf σ.2.2.2.2.1 σ.2.2.2.1
  have h8 := V.2.2.2.2.1
  have w1 := W.1
  have w2 := W.2.1
  unfold sLoad
  by_cases z : (ldX σ.2.2.2.2.1 σ.2.2.2.1).1.er = 0
  · rw [if_pos z]
    exact ⟨fun _ => ldX_vb z, fun h => absurd (show true = false from h) (by decide), fun h hh => absurd hh List.not_mem_nil, Nat.zero_le _, Nat.zero_le _, fun k hk => absurd hk (Nat.not_lt_zero k), ⟨by show (-1 : Int) ≤ -1; omega, by show (-1 : Int) ≤ 800; omega⟩, V.2.2.2.2.2.2.2⟩
  · rw [if_neg z]
    refine ⟨V.1, V.2.1, V.2.2.1, V.2.2.2.1, Nat.zero_le _, fun k hk => absurd hk (Nat.not_lt_zero k), ⟨?_, ?_⟩, V.2.2.2.2.2.2.2⟩
    · show (-1 : Int) ≤ ((ldX σ.2.2.2.2.1 σ.2.2.2.1).1.st : Int)
      omega
    · show ((ldX σ.2.2.2.2.1 σ.2.2.2.1).1.st : Int) ≤ 800
      omega
section Q61
variable {fu : Nat} {sh : HS} {I I' : HI} {R R' : HR} {AD : Int → Nat} {P : Int → Int → Int} {σ : STT}
theorem cx_load (S : OKS sh AD) (V : VST σ) (hfu : 5000 ≤ fu) (C : CIB I R AD P σ) (K : CKN I AD σ) : ∃ I' R', fX10_load fu sh I R (AD 0) = some (iz (vLoad σ), (I', R')) ∧ CIB I' R' AD P (sLoad σ) ∧ CKN I' AD (sLoad σ) ∧ FR AD I I' (fun i _ => i < 316) ∧ ∀ i, 0 ≤ i → i < 331 → ¬ i = 2 → ∀ k, R' (AD i) k = R (AD i) k := by
  have h8 := V.2.2.2.2.1
  obtain ⟨c1, ⟨c2, c3⟩, ⟨c4, c5, c6⟩, c7, ⟨c8, c9⟩, c10, nx, c11, c12, c13, c14⟩ := C
  have H1 : BSH R AD 52 (P 1) := c1.2.2.2.2.2.2.2 1 (by decide) (by decide)
  have W := ldX_wf σ.2.2.2.2.1 σ.2.2.2.1
  obtain ⟨J1, a1, b1, d1, F1⟩ := c_read (fu := fu) S H1 hfu (f := σ.2.2.2.2.1) (n := σ.2.2.2.1) (I := I) ⟨h8, c7, V.2.2.2.2.2.1⟩
  obtain ⟨Q, hQ⟩ : ∃ Q, Q = u2 R (AD 2) 0 (some (AD 1)) := ⟨_, rfl⟩
  rw [← hQ] at a1
  have fQ : ∀ i, 0 ≤ i → i < 331 → ¬ i = 2 → ∀ k, Q (AD i) k = R (AD i) k := fun i g0 g1 ne k => by rw [hQ, u2_ne S (by decide) (by decide) g0 g1 ne]
  have CQ : CRF Q AD P := c1.r2 fQ
  have e4 : (ldX σ.2.2.2.2.1 σ.2.2.2.1).1.er ≤ 4 := b1.2.2.2.2.2.2.2.2
  obtain ⟨J2, h2⟩ : ∃ J, J = _root_.Jvm.Pilot.@@N@@.u2 J1 (AD 0) 1 (iz 0) := ⟨_, rfl⟩
  have F2 : FR AD I J2 (fun i k => (i = 2 ∨ (52 ≤ i ∧ i < 76)) ∨ (i = 0 ∧ (k = 1 ∨ k = 2))) := by rw [h2]; exact FR.u2 S (by decide) (by decide) (by omega) (F1.wd fun i k w => Or.inl w)
  have z1 : J2 (AD 0) 1 = iz ((0 : Nat) : Int) := by rw [h2, u2_ad S (by decide) (by decide) (by decide) (by decide), if_pos ⟨rfl, rfl⟩]; rfl
  have start : fX10_load fu sh I R (AD 0) = (if iz ((ldX σ.2.2.2.2.1 σ.2.2.2.1).1.er : Int) = iz 0 then ((oP sh J2 (AD 0) 8 2 (iz (-1))).bind fun v7 => (fX0_copyFrom fu sh v7 Q (AD 28) (AD 52)).bind fun w10 => (oP sh w10 (AD 0) 8 3 (iz 1)).bind fun v11 => (fX3_forgetAll fu sh v11 Q (AD 4)).bind fun w13 => (fX10_forgetAnswers fu sh w13 Q (AD 0)).bind fun w14 => (oI sh w14 (AD 28) 0 4).bind fun v16 => some (v16, (w14, Q))) else ((fX1_position fu sh J2 Q (AD 2)).bind fun v18 => (oP sh J2 (AD 0) 8 2 v18).bind fun v19 => some (iz (-10) - iz ((ldX σ.2.2.2.2.1 σ.2.2.2.1).1.er : Int), (v19, Q)))) := by
    simp only [fX10_load, if_pos (isT_of S.pl), oR_at S.pl c1.1.1.2.2.2.1, oR_at S.pl c1.1.1.1, oI_at S.pl, c4, oR_at S.pl c1.1.1.2.2.1, bsome, a1, oHs, oP_at S.pl, iz_lit, iz_neg]
    rw [← h2]
    simp only [oR_at S.pl CQ.1.1.2.1, oR_at S.pl CQ.1.1.2.2.1, oR_at S.pl CQ.1.1.2.2.2.1, oR_at S.pl CQ.1.1.2.2.2.2.1, bsome]
  rw [start]
  unfold vLoad sLoad
  by_cases z : (ldX σ.2.2.2.2.1 σ.2.2.2.1).1.er = 0
  · rw [if_pos (by rw [z]; rfl), if_pos z, if_pos z]
    obtain ⟨J3, h3⟩ : ∃ J, J = _root_.Jvm.Pilot.@@N@@.u2 J2 (AD 0) 2 (iz (-1)) := ⟨_, rfl⟩
    have F3 : FR AD I J3 (fun i k => (i = 2 ∨ (52 ≤ i ∧ i < 76)) ∨ (i = 0 ∧ (k = 1 ∨ k = 2))) := by rw [h3]; exact FR.u2 S (by decide) (by decide) (by omega) F2
    have VX := ldX_vb z
    have Fd : FR AD J1 J3 (fun i k => i = 0 ∧ (k = 1 ∨ k = 2)) := by rw [h3, h2]; exact FR.u2 S (by decide) (by decide) ⟨rfl, Or.inr rfl⟩ (FR.u2 S (by decide) (by decide) ⟨rfl, Or.inl rfl⟩ (FR.rf AD J1 _))
    have L3 : BVL J3 AD 52 (P 1) (ldX σ.2.2.2.2.1 σ.2.2.2.1).2 := (d1 z).fr VX (by decide) (by decide) (fun s g0 g1 => (H1.2.2.2.1 s g0 g1).2) Fd (fun i k g0 g1 => by omega)
    obtain ⟨J4, e4c, L4, F4⟩ := c_copyBoard (fu := fu) S hfu (b1 := 0) (b2 := 1) (by decide) (by decide) (by decide) (CQ.2.2.2.2.2.2.2 0 (by decide) (by decide)) (CQ.2.2.2.2.2.2.2 1 (by decide) (by decide)) VX L3
    have e4c : fX0_copyFrom fu sh J3 Q (AD 28) (AD 52) = some J4 := e4c
    have L4 : BVL J4 AD 28 (P 0) (ldX σ.2.2.2.2.1 σ.2.2.2.1).2 := L4
    have F4 : FR AD J3 J4 (fun i _ => 28 ≤ i ∧ i < 52) := F4.wd fun i k w => by omega
    obtain ⟨J5, h5⟩ : ∃ J, J = _root_.Jvm.Pilot.@@N@@.u2 J4 (AD 0) 3 (iz 1) := ⟨_, rfl⟩
    obtain ⟨J6, h6⟩ : ∃ J, J = _root_.Jvm.Pilot.@@N@@.u2 J5 (AD 4) 2 (iz 0) := ⟨_, rfl⟩
    obtain ⟨J7, e7, z9, z11, F7⟩ := c_forget (fu := fu) (I := J6) (R := Q) S
    have k4 := S.at (i := 4) (t := 2) (n := 3) rfl (by decide) (by decide)
    have F6 : FR AD J4 J6 (fun i k => (i = 0 ∧ k = 3) ∨ (i = 4 ∧ k = 2)) := by rw [h6, h5]; exact FR.u2 S (by decide) (by decide) (Or.inr ⟨rfl, rfl⟩) (FR.u2 S (by decide) (by decide) (Or.inl ⟨rfl, rfl⟩) (FR.rf AD J4 _))
    have F47 : FR AD J4 J7 (fun i k => (i = 0 ∧ (k = 3 ∨ k = 9 ∨ k = 11)) ∨ (i = 4 ∧ k = 2)) := (F6.wd fun i k w => by omega).tr (F7.wd fun i k w => by omega)
    have F37 : FR AD J3 J7 (fun i k => (28 ≤ i ∧ i < 52) ∨ (i = 0 ∧ (k = 3 ∨ k = 9 ∨ k = 11)) ∨ (i = 4 ∧ k = 2)) := (F4.wd fun i k w => Or.inl w).tr (F47.wd fun i k w => Or.inr w)
    have FA : FR AD I J7 (fun i k => i = 2 ∨ (28 ≤ i ∧ i < 76) ∨ (i = 0 ∧ (k = 1 ∨ k = 2 ∨ k = 3 ∨ k = 9 ∨ k = 11)) ∨ (i = 4 ∧ k = 2)) := (F3.wd fun i k w => by omega).tr (F37.wd fun i k w => by omega)
    have L7 : BVL J7 AD 28 (P 0) (ldX σ.2.2.2.2.1 σ.2.2.2.1).2 := L4.fr VX (by decide) (by decide) (fun s g0 g1 => ((CQ.2.2.2.2.2.2.2 0 (by decide) (by decide)).2.2.2.1 s g0 g1).2) F47 (fun i k g0 g1 => by omega)
    refine ⟨J7, Q, ?_, ⟨CQ, ⟨(FA 16 (by decide) (by decide) 0 (by omega)).trans c2, (FA 21 (by decide) (by decide) 0 (by omega)).trans c3⟩, ⟨?_, ?_, ?_⟩, fun j hj => absurd hj (Nat.not_lt_zero j), ⟨(FA 26 (by decide) (by decide) 1 (by omega)).trans c8, c9.fr FA (by decide) (by decide) (fun _ => by omega)⟩, fun _ => L7, nx, c11, (FA 4 (by decide) (by decide) 1 (by omega)).trans c12, ?_, fun t h ht => absurd ht (by simp)⟩, CKN.z z9 z11, FA.wd fun i k w => by omega, fQ⟩
    · have k28 := S.at (i := 28) (t := 0) (n := 7) rfl (by decide) (by decide)
      rw [oP_at S.pl, bsome, ← h3, e4c, bsome, oP_at S.pl, bsome, ← h5]
      simp only [fX3_forgetAll, if_pos (isT_of k4), oP_at k4, bsome, iz_lit]
      rw [← h6, e7, bsome, oI_at k28, L7.1.2.2.2.2, bsome]
    · rw [F37 0 (by decide) (by decide) 1 (by omega), h3, u2_ad S (by decide) (by decide) (by decide) (by decide), if_neg (by decide)]; exact z1
    · rw [F37 0 (by decide) (by decide) 2 (by omega), h3, u2_ad S (by decide) (by decide) (by decide) (by decide), if_pos ⟨rfl, rfl⟩]
    · rw [F7 0 (by decide) (by decide) 3 (by omega), h6, u2_ne S (by decide) (by decide) (by decide) (by decide) (by decide), h5, u2_ad S (by decide) (by decide) (by decide) (by decide), if_pos ⟨rfl, rfl⟩]; rfl
    · rw [F7 4 (by decide) (by decide) 2 (by omega), h6, u2_ad S (by decide) (by decide) (by decide) (by decide), if_pos ⟨rfl, rfl⟩]; rfl
  · rw [if_neg (by rw [iz_eq (by omega) (by omega) (by decide) (by decide)]; omega), if_neg z, if_neg z]
    obtain ⟨J3, h3⟩ : ∃ J, J = _root_.Jvm.Pilot.@@N@@.u2 J2 (AD 0) 2 (iz ((ldX σ.2.2.2.2.1 σ.2.2.2.1).1.st : Int)) := ⟨_, rfl⟩
    have F3 : FR AD I J3 (fun i k => (i = 2 ∨ (52 ≤ i ∧ i < 76)) ∨ (i = 0 ∧ (k = 1 ∨ k = 2))) := by rw [h3]; exact FR.u2 S (by decide) (by decide) (by omega) F2
    have p2 : J2 (AD 2) 2 = iz ((ldX σ.2.2.2.2.1 σ.2.2.2.1).1.st : Int) := by rw [h2, u2_ne S (by decide) (by decide) (by decide) (by decide) (by decide)]; exact b1.2.2.2.1
    refine ⟨J3, Q, ?_, ⟨CQ, ⟨(F3 16 (by decide) (by decide) 0 (by omega)).trans c2, (F3 21 (by decide) (by decide) 0 (by omega)).trans c3⟩, ⟨?_, ?_, (F3 0 (by decide) (by decide) 3 (by omega)).trans c6⟩, fun j hj => absurd hj (Nat.not_lt_zero j), ⟨(F3 26 (by decide) (by decide) 1 (by omega)).trans c8, c9.fr F3 (by decide) (by decide) (fun _ => by omega)⟩, fun h => ?_, nx, c11, (F3 4 (by decide) (by decide) 1 (by omega)).trans c12, (F3 4 (by decide) (by decide) 2 (by omega)).trans c13, fun t h ht => ?_⟩, CKN.fr2 (σ := σ) K F3 (by omega) (by omega) (by omega) (fun _ _ _ _ => by omega) (fun _ => by omega), F3.wd fun i k w => by omega, fQ⟩
    · simp only [fX1_position, if_pos (isT_of (S2 S)), oI_at (S2 S), p2, bsome, oP_at S.pl]
      rw [← h3, iz_sub]
    · rw [h3, u2_ad S (by decide) (by decide) (by decide) (by decide), if_neg (by decide)]; exact z1
    · rw [h3, u2_ad S (by decide) (by decide) (by decide) (by decide), if_pos ⟨rfl, rfl⟩]
    · have q := c1.2.2.2.2.2.2.2 0 (by decide) (by decide)
      exact (c10 h).fr (V.1 h) (by decide) (by decide) (fun s g0 g1 => (q.2.2.2.1 s g0 g1).2) F3 (fun i k g0 g1 => by omega)
    · have r := hiB_r nx t
      have q := c1.2.2.2.2.2.2.2 (hiB nx t) (by omega) (by omega)
      exact (c14 t h ht).fr (V.2.2.1 h (List.mem_of_getElem? ht)) (by omega) (by omega) (fun s g0 g1 => (q.2.2.2.1 s g0 g1).2) F3 (fun i k g0 g1 => by omega)
end Q61
