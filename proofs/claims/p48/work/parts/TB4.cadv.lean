/-! STAGE 2: the class goes on to the next word of a text -/
section Q51
variable {fu : Nat} {sh : HS} {I I' : HI} {R : HR} {AD : Int → Nat} {f : Nat → Int} {n : Nat} {p : PS}
theorem c_scanNum (S : OKS sh AD) (hR : R (AD 2) 0 = some (AD 1)) (hfu : 5000 ≤ fu) {s : Nat} (hs : s < n) (T : TXT I AD f n) (e1 : I (AD 2) 1 = iz (n : Int)) (e2 : I (AD 2) 2 = iz (s : Int)) (e3 : I (AD 2) 3 = iz (s : Int)) :
    ∃ I', fX1_scanNumber fu sh I R (AD 2) = some I' ∧ I' (AD 2) 3 = iz (spn isDc f n (n - s) s : Nat) ∧ I' (AD 2) 5 = iz (dgv f s (spn isDc f n (n - s) s - s)) ∧ I' (AD 2) 4 = iz (cTk (if spn isDc f n (n - s) s - s ≤ 4 then 3 else 1)) ∧ FR AD I I' (fun i k => i = 2 ∧ (k = 3 ∨ k = 4 ∨ k = 5)) := by
  have h8 := T.1
  obtain ⟨r1, r2, -⟩ := spn_r isDc f n (n - s) s (by omega)
  obtain ⟨J, hJ⟩ : ∃ J, J = _root_.Jvm.Pilot.@@N@@.u2 I (AD 2) 5 (iz 0) := ⟨_, rfl⟩
  have F : FR AD I J (fun i k => i = 2 ∧ (k = 3 ∨ k = 4 ∨ k = 5)) := by rw [hJ]; exact FR.u2 S (by decide) (by decide) ⟨rfl, Or.inr (Or.inr rfl)⟩ (FR.rf AD I _)
  obtain ⟨K, a, b, c, g⟩ := c_digits (fu := fu) S hR (fX1_scanNumber_b68 fu sh R) (s := s) (n - s) fu s (by omega) (by omega) (by omega) J (T.fr F (fun _ => by omega)) ((F 2 (by decide) (by decide) 1 (by omega)).trans e1) (by rw [hJ, u2_ad S (by decide) (by decide) (by decide) (by decide), if_neg (by decide)]; exact e3) (by rw [hJ, u2_ad S (by decide) (by decide) (by decide) (by decide), if_pos ⟨rfl, rfl⟩, Nat.sub_self]; rfl)
  have F2 : FR AD I K (fun i k => i = 2 ∧ (k = 3 ∨ k = 4 ∨ k = 5)) := F.tr (g.wd fun i k z => by omega)
  have e4 : K (AD 2) 2 = iz (s : Int) := (F2 2 (by decide) (by decide) 2 (by omega)).trans e2
  refine ⟨_root_.Jvm.Pilot.@@N@@.u2 K (AD 2) 4 (iz (cTk (if spn isDc f n (n - s) s - s ≤ 4 then 3 else 1))), ?_, ?_, ?_, ?_, FR.u2 S (by decide) (by decide) ⟨rfl, Or.inr (Or.inl rfl)⟩ F2⟩
  · simp only [fX1_scanNumber, if_pos (isT_of (S2 S)), oP_at (S2 S), bsome, iz_lit]
    rw [← hJ, a]
    simp only [fX1_scanNumber_b68, fX1_scanNumber_b87, oI_at (S2 S), oP_at (S2 S), b, e4, bsome, iz_lit, iz_sub]
    simp (disch := omega) only [iz_le]
    by_cases z : spn isDc f n (n - s) s - s ≤ 4
    · rw [if_pos (by omega), if_pos z]; rfl
    · rw [if_neg (by omega), if_neg z]; rfl
  · rw [u2_ad S (by decide) (by decide) (by decide) (by decide), if_neg (by decide)]; exact b
  · rw [u2_ad S (by decide) (by decide) (by decide) (by decide), if_neg (by decide)]; exact c
  · rw [u2_ad S (by decide) (by decide) (by decide) (by decide), if_pos ⟨rfl, rfl⟩]
theorem c_scanWord (S : OKS sh AD) (hR : R (AD 2) 0 = some (AD 1)) (hfu : 5000 ≤ fu) {s : Nat} (hs : s < n) (T : TXT I AD f n) (e1 : I (AD 2) 1 = iz (n : Int)) (e3 : I (AD 2) 3 = iz (s : Int)) :
    ∃ I', fX1_scanKeyword fu sh I R (AD 2) = some I' ∧ I' (AD 2) 3 = iz (spn isLc f n (n - s) s : Nat) ∧ I' (AD 2) 4 = iz 1 ∧ FR AD I I' (fun i k => i = 2 ∧ (k = 3 ∨ k = 4 ∨ k = 5)) := by
  have h8 := T.1
  obtain ⟨J, hJ⟩ : ∃ J, J = _root_.Jvm.Pilot.@@N@@.u2 I (AD 2) 4 (iz 1) := ⟨_, rfl⟩
  have F : FR AD I J (fun i k => i = 2 ∧ (k = 3 ∨ k = 4 ∨ k = 5)) := by rw [hJ]; exact FR.u2 S (by decide) (by decide) ⟨rfl, Or.inr (Or.inl rfl)⟩ (FR.rf AD I _)
  obtain ⟨K, a, b, g⟩ := c_letters (fu := fu) S hR (fX1_scanKeyword_b44 fu sh R) (n - s) fu s (by omega) (by omega) J (T.fr F (fun _ => by omega)) ((F 2 (by decide) (by decide) 1 (by omega)).trans e1) (by rw [hJ, u2_ad S (by decide) (by decide) (by decide) (by decide), if_neg (by decide)]; exact e3)
  refine ⟨K, ?_, b, ?_, F.tr (g.wd fun i k z => by omega)⟩
  · simp only [fX1_scanKeyword, if_pos (isT_of (S2 S)), oP_at (S2 S), bsome, iz_lit]
    rw [← hJ, a]
    rfl
  · rw [g 2 (by decide) (by decide) 4 (by omega), hJ, u2_ad S (by decide) (by decide) (by decide) (by decide), if_pos ⟨rfl, rfl⟩]
theorem c_tokA (S : OKS sh AD) (hR : R (AD 2) 0 = some (AD 1)) (hfu : 5000 ≤ fu) {s : Nat} (hs : s ≤ n) (T : TXT I AD f n) (e1 : I (AD 2) 1 = iz (n : Int)) (e2 : I (AD 2) 2 = iz (s : Int)) (e6 : I (AD 2) 6 = iz 0) :
    ∃ I', fX1_advance_b68 fu sh R I (AD 2) = some I' ∧ CST I' AD f n (tokA f n s) ∧ FR AD I I' (fun i _ => i = 2) := by
  have h8 := T.1
  obtain ⟨w1, w2, w3⟩ := tokA_wf (f := f) hs
  obtain ⟨J, hJ⟩ : ∃ J, J = _root_.Jvm.Pilot.@@N@@.u2 I (AD 2) 3 (iz (s : Int)) := ⟨_, rfl⟩
  have F : FR AD I J (fun i k => i = 2 ∧ (k = 3 ∨ k = 4 ∨ k = 5)) := by rw [hJ]; exact FR.u2 S (by decide) (by decide) ⟨rfl, Or.inl rfl⟩ (FR.rf AD I _)
  have d1 : J (AD 2) 1 = iz (n : Int) := (F 2 (by decide) (by decide) 1 (by omega)).trans e1
  have d2 : J (AD 2) 2 = iz (s : Int) := (F 2 (by decide) (by decide) 2 (by omega)).trans e2
  have d3 : J (AD 2) 3 = iz (s : Int) := by rw [hJ, u2_ad S (by decide) (by decide) (by decide) (by decide), if_pos ⟨rfl, rfl⟩]
  have TJ : TXT J AD f n := T.fr F (fun _ => by omega)
  have mk : ∀ (K : HI) (e t : Nat), FR AD I K (fun i k => i = 2 ∧ (k = 3 ∨ k = 4 ∨ k = 5)) → tokA f n s = (s, e, t, 0) → K (AD 2) 3 = iz (e : Int) → K (AD 2) 4 = iz (cTk t) → (t = 3 → K (AD 2) 5 = iz (dgv f s (e - s))) → CST K AD f n (tokA f n s) ∧ FR AD I K (fun i _ => i = 2) := by
    intro K e t G q k3 k4 k5
    refine ⟨⟨T.fr G (fun _ => by omega), w1, (G 2 (by decide) (by decide) 1 (by omega)).trans e1, ?_, ?_, ?_, ?_, ?_, by rw [w2]; omega⟩, G.wd fun i k z => z.1⟩
    · rw [w3]; exact (G 2 (by decide) (by decide) 2 (by omega)).trans e2
    · rw [q]; exact k3
    · rw [q]; exact k4
    · rw [q]; exact k5
    · rw [w2]; exact (G 2 (by decide) (by decide) 6 (by omega)).trans e6
  by_cases z : s < n
  · have hx := T.2.2 s z
    by_cases z2 : isDc (f s) = true
    · obtain ⟨K, a, b, c, g, h⟩ := c_scanNum (fu := fu) S hR hfu z TJ d1 d2 d3
      refine ⟨K, ?_, mk K (spn isDc f n (n - s) s) (if spn isDc f n (n - s) s - s ≤ 4 then 3 else 1) (F.tr h) (by unfold tokA; rw [if_pos z, if_pos z2]) b g (fun _ => c)⟩
      simp only [fX1_advance_b68, oI_at (S2 S), oP_at (S2 S), e2, bsome, iz_lit]
      rw [← hJ, d2, d1, if_pos (by rw [iz_lt (by omega) (by omega) (by omega) (by omega)]; omega)]
      simp only [oR_at (S2 S) hR, bsome, TJ.rd S z, c_isDigit hx, bz_zero, z2]
      rw [if_neg (by decide), a]
      rfl
    · by_cases z3 : isLc (f s) = true
      · obtain ⟨K, a, b, c, h⟩ := c_scanWord (fu := fu) S hR hfu z TJ d1 d3
        refine ⟨K, ?_, mk K (spn isLc f n (n - s) s) 2 (F.tr h) (by unfold tokA; rw [if_pos z, if_neg z2, if_pos z3]) b c (fun q => absurd q (by decide))⟩
        simp only [fX1_advance_b68, oI_at (S2 S), oP_at (S2 S), e2, bsome, iz_lit]
        rw [← hJ, d2, d1, if_pos (by rw [iz_lt (by omega) (by omega) (by omega) (by omega)]; omega)]
        simp only [oR_at (S2 S) hR, bsome, TJ.rd S z, c_isDigit hx, c_isLetter hx, bz_zero, z3]
        rw [if_pos (by revert z2; cases isDc (f s) <;> simp), if_neg (by decide), a]
        rfl
      · obtain ⟨t, ht⟩ : ∃ t, t = (if f s = 59 then 4 else 1) := ⟨_, rfl⟩
        obtain ⟨K1, hK1⟩ : ∃ K, K = _root_.Jvm.Pilot.@@N@@.u2 J (AD 2) 4 (iz (cTk t)) := ⟨_, rfl⟩
        obtain ⟨K, hK⟩ : ∃ K, K = _root_.Jvm.Pilot.@@N@@.u2 K1 (AD 2) 3 (iz ((s + 1 : Nat) : Int)) := ⟨_, rfl⟩
        have G1 : FR AD I K1 (fun i k => i = 2 ∧ (k = 3 ∨ k = 4 ∨ k = 5)) := by rw [hK1]; exact FR.u2 S (by decide) (by decide) ⟨rfl, Or.inr (Or.inl rfl)⟩ F
        have G : FR AD I K (fun i k => i = 2 ∧ (k = 3 ∨ k = 4 ∨ k = 5)) := by rw [hK]; exact FR.u2 S (by decide) (by decide) ⟨rfl, Or.inl rfl⟩ G1
        refine ⟨K, ?_, mk K (s + 1) t G (by unfold tokA; rw [if_pos z, if_neg z2, if_neg z3, ht]) (by rw [hK, u2_ad S (by decide) (by decide) (by decide) (by decide), if_pos ⟨rfl, rfl⟩]) (by rw [hK, u2_ad S (by decide) (by decide) (by decide) (by decide), if_neg (by decide), hK1, u2_ad S (by decide) (by decide) (by decide) (by decide), if_pos ⟨rfl, rfl⟩]) (fun q => by rw [ht] at q; split at q <;> exact absurd q (by decide))⟩
        have k2 : K1 (AD 2) 2 = iz (s : Int) := (G1 2 (by decide) (by decide) 2 (by omega)).trans e2
        have ek : iz (s : Int) + iz 1 = iz ((s + 1 : Nat) : Int) := by rw [iz_add]; rfl
        have fin : fX1_advance_b159 fu sh R J (AD 2) (iz (cTk t)) (AD 2) = some K := by
          simp only [fX1_advance_b159, fX1_advance_b172, oI_at (S2 S), oP_at (S2 S), bsome, iz_lit]
          rw [← hK1, k2, ek, ← hK]
        simp only [fX1_advance_b68, oI_at (S2 S), oP_at (S2 S), e2, bsome, iz_lit]
        rw [← hJ, d2, d1, if_pos (by rw [iz_lt (by omega) (by omega) (by omega) (by omega)]; omega)]
        simp only [oR_at (S2 S) hR, bsome, TJ.rd S z, c_isDigit hx, c_isLetter hx, bz_zero]
        rw [if_pos (by revert z2; cases isDc (f s) <;> simp), if_pos (by revert z3; cases isLc (f s) <;> simp)]
        simp (disch := omega) only [iz_eq]
        rw [← fin, ht]
        by_cases y : f s = 59
        · rw [if_pos y, if_pos y]; rfl
        · rw [if_neg y, if_neg y]; rfl
  · obtain ⟨K, hK⟩ : ∃ K, K = _root_.Jvm.Pilot.@@N@@.u2 J (AD 2) 4 (iz 0) := ⟨_, rfl⟩
    have G : FR AD I K (fun i k => i = 2 ∧ (k = 3 ∨ k = 4 ∨ k = 5)) := by rw [hK]; exact FR.u2 S (by decide) (by decide) ⟨rfl, Or.inr (Or.inl rfl)⟩ F
    refine ⟨K, ?_, mk K s 0 G (by unfold tokA; rw [if_neg z]) (by rw [hK, u2_ad S (by decide) (by decide) (by decide) (by decide), if_neg (by decide)]; exact d3) (by rw [hK, u2_ad S (by decide) (by decide) (by decide) (by decide), if_pos ⟨rfl, rfl⟩]; rfl) (fun q => absurd q (by decide))⟩
    simp only [fX1_advance_b68, oI_at (S2 S), oP_at (S2 S), e2, bsome, iz_lit]
    rw [← hJ, d2, d1, if_neg (by rw [iz_lt (by omega) (by omega) (by omega) (by omega)]; omega)]
    rw [← hK]
    rfl
theorem c_nxT (S : OKS sh AD) (hR : R (AD 2) 0 = some (AD 1)) (hfu : 5000 ≤ fu) {i : Nat} (hi : i ≤ n) (T : TXT I AD f n) (e1 : I (AD 2) 1 = iz (n : Int)) (e3 : I (AD 2) 3 = iz (i : Int)) (e6 : I (AD 2) 6 = iz 0) :
    ∃ I', fX1_advance fu sh I R (AD 2) = some I' ∧ CST I' AD f n (nxT f n i) ∧ FR AD I I' (fun i _ => i = 2) := by
  have h8 := T.1
  obtain ⟨J, hJ⟩ : ∃ J, J = _root_.Jvm.Pilot.@@N@@.u2 I (AD 2) 2 (iz (i : Int)) := ⟨_, rfl⟩
  have F : FR AD I J (fun i k => i = 2 ∧ k = 2) := by rw [hJ]; exact FR.u2 S (by decide) (by decide) ⟨rfl, rfl⟩ (FR.rf AD I _)
  obtain ⟨K, a, b, c⟩ := c_blank (fu := fu) S hR (fX1_advance_b68 fu sh R) (n - i) fu i (by omega) (by omega) J (T.fr F (fun _ => by omega)) ((F 2 (by decide) (by decide) 1 (by omega)).trans e1) (by rw [hJ, u2_ad S (by decide) (by decide) (by decide) (by decide), if_pos ⟨rfl, rfl⟩])
  have G := F.tr c
  obtain ⟨K2, x, y, z⟩ := c_tokA (fu := fu) S hR hfu (spn_r isWc f n (n - i) i hi).2.1 (T.fr G (fun _ => by omega)) ((G 2 (by decide) (by decide) 1 (by omega)).trans e1) b ((G 2 (by decide) (by decide) 6 (by omega)).trans e6)
  refine ⟨K2, ?_, y, (G.wd fun _ _ w => w.1).tr z⟩
  simp only [fX1_advance, if_pos (isT_of (S2 S)), oI_at (S2 S), oP_at (S2 S), e3, e6, bsome, iz_lit]
  rw [if_pos True.intro, ← hJ, a, x]
theorem c_adv (S : OKS sh AD) (hR : R (AD 2) 0 = some (AD 1)) (hfu : 5000 ≤ fu) (C : CST I AD f n p) :
    ∃ I', fX1_advance fu sh I R (AD 2) = some I' ∧ CST I' AD f n (advP f n p) ∧ FR AD I I' (fun i _ => i = 2) := by
  obtain ⟨T, W, c1, c2, c3, c4, c5, c6, c7⟩ := C
  unfold advP
  by_cases z : p.er = 0
  · rw [if_pos z]
    rw [z] at c6
    exact c_nxT S hR hfu W.2.1 T c1 c3 c6
  · rw [if_neg z]
    refine ⟨I, ?_, ⟨T, W, c1, c2, c3, c4, c5, c6, c7⟩, FR.rf _ _ _⟩
    simp only [fX1_advance, if_pos (isT_of (S2 S)), oI_at (S2 S), c6, bsome, iz_lit]
    rw [if_neg (by rw [iz_eq (by omega) (by omega) (by decide) (by decide)]; omega)]
theorem c_fail (S : OKS sh AD) (C : CST I AD f n p) {e : Nat} (he : e ≤ 4) :
    ∃ I', fX1_fail fu sh I R (AD 2) (iz (e : Int)) = some I' ∧ CST I' AD f n (falP p e) ∧ FR AD I I' (fun i _ => i = 2) := by
  obtain ⟨T, W, c1, c2, c3, c4, c5, c6, c7⟩ := C
  unfold falP
  by_cases z : p.er = 0
  · rw [if_pos z]
    rw [z] at c6
    have ne : ∀ k x, ¬ k = 6 → u2 I (AD 2) 6 x (AD 2) k = I (AD 2) k := fun k x h => by rw [u2_ad S (by decide) (by decide) (by decide) (by decide), if_neg (fun q => h q.2)]
    have F : FR AD I (u2 I (AD 2) 6 (iz (e : Int))) (fun i _ => i = 2) := FR.u2 S (by decide) (by decide) rfl (FR.rf AD I _)
    refine ⟨_root_.Jvm.Pilot.@@N@@.u2 I (AD 2) 6 (iz (e : Int)), ?_, ⟨T.fr F (fun _ => by decide), W, ?_, ?_, ?_, ?_, fun t => ?_, ?_, he⟩, F⟩
    · simp only [fX1_fail, fX1_fail_b12, if_pos (isT_of (S2 S)), oI_at (S2 S), oP_at (S2 S), c6, bsome, iz_lit]
      exact if_pos rfl
    · rw [ne _ _ (by decide)]; exact c1
    · rw [ne _ _ (by decide)]; exact c2
    · rw [ne _ _ (by decide)]; exact c3
    · rw [ne _ _ (by decide)]; exact c4
    · rw [ne _ _ (by decide)]; exact c5 t
    · rw [u2_ad S (by decide) (by decide) (by decide) (by decide), if_pos ⟨rfl, rfl⟩]; rfl
  · rw [if_neg z]
    refine ⟨I, ?_, ⟨T, W, c1, c2, c3, c4, c5, c6, c7⟩, FR.rf _ _ _⟩
    simp only [fX1_fail, fX1_fail_b12, if_pos (isT_of (S2 S)), oI_at (S2 S), c6, bsome, iz_lit]
    rw [if_neg (by rw [iz_eq (by omega) (by omega) (by decide) (by decide)]; omega)]
end Q51
