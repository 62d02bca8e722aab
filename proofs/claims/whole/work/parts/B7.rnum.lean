/-! STAGE 2: the reference goes on to the next word; a word, a number, a semicolon -/
def exW (f : Nat → Int) (p : PS) (w : Nat) : PS := if wdP f p w = true then p else falP p 1
section Q54
variable {fu : Nat} {sh : HS} {I I' : HI} {R : HR} {AD : Int → Nat} {f : Nat → Int} {n : Nat} {p : PS}
theorem r_tokA (S : OKS sh AD) (M : MR R AD) (hfu : 5000 ≤ fu) {s : Nat} (hs : s ≤ n) (T : TXM I AD f n) (e9 : I (AD 316) 9 = iz (s : Int)) (e13 : I (AD 316) 13 = iz 0) (e14 : I (AD 316) 14 = iz (-1)) :
    ∃ I', fX11_next_b47 fu sh R I (AD 316) = some I' ∧ RST I' AD f n (tokA f n s) ∧ FR AD I I' RDM := by
  have h8 := T.1
  obtain ⟨w1, w2, w3⟩ := tokA_wf (f := f) hs
  obtain ⟨J, hJ⟩ : ∃ J, J = _root_.Jvm.Pilot.@@N@@.u2 I (AD 316) 10 (iz (s : Int)) := ⟨_, rfl⟩
  have F : FR AD I J (fun i k => i = 316 ∧ 9 ≤ k ∧ k ≤ 12) := by rw [hJ]; exact FR.u2 S (by decide) (by decide) ⟨rfl, by decide, by decide⟩ (FR.rf AD I _)
  have d8 : J (AD 316) 8 = iz (n : Int) := (F 316 (by decide) (by decide) 8 (by omega)).trans T.2.2.2
  have d9 : J (AD 316) 9 = iz (s : Int) := by rw [hJ, u2_ad S (by decide) (by decide) (by decide) (by decide), if_neg (by decide)]; exact e9
  have d10 : J (AD 316) 10 = iz (s : Int) := by rw [hJ, u2_ad S (by decide) (by decide) (by decide) (by decide), if_pos ⟨rfl, rfl⟩]
  have TJ : TXM J AD f n := T.fr F (fun _ => by omega) (by omega)
  have mk : ∀ (K : HI) (e t : Nat), FR AD I K (fun i k => i = 316 ∧ 9 ≤ k ∧ k ≤ 12) → tokA f n s = (s, e, t, 0) → K (AD 316) 9 = iz (e : Int) → K (AD 316) 10 = iz (s : Int) → K (AD 316) 11 = iz (t : Int) → (t = 3 → K (AD 316) 12 = iz (dgv f s (e - s))) → RST K AD f n (tokA f n s) ∧ FR AD I K RDM := by
    intro K e t G q k3 k2 k4 k5
    refine ⟨⟨T.fr G (fun _ => by omega) (by omega), w1, ?_, ?_, ?_, ?_, ?_, by rw [w2]; omega, ?_⟩, G.wd fun i k z => by unfold RDM; omega⟩
    · rw [q]; exact k3
    · rw [w3]; exact k2
    · rw [q]; exact k4
    · rw [q]; exact k5
    · rw [w2]; exact (G 316 (by decide) (by decide) 13 (by omega)).trans e13
    · rw [w2]; exact (G 316 (by decide) (by decide) 14 (by omega)).trans e14
  by_cases z : s < n
  · have hx := T.2.2.1 s z
    have b0 : fX11_next_b47 fu sh R I (AD 316) = (if bz (isLc (f s)) = iz 0 then (if bz (isDc (f s)) = iz 0 then (if iz (f s) = iz 59 then fX11_next_b244 fu sh R J (AD 316) (iz 4) (AD 316) else fX11_next_b244 fu sh R J (AD 316) (iz 1) (AD 316)) else (fX11_next_l133 fu sh R (fX11_next_b200 fu sh R) fu) (u2 J (AD 316) 12 (iz 0)) (AD 316)) else (fX11_next_l85 fu sh R (fX11_next_b109 fu sh R) fu) J (AD 316)) := by
      simp only [fX11_next_b47, oI_at S.md, oP_at S.md, e9, bsome, iz_lit]
      rw [← hJ, d9, d8, if_neg (by rw [iz_eq (by omega) (by omega) (by omega) (by omega)]; omega)]
      simp only [r_isLetterAt S M TJ (show s ≤ 100000 by omega), r_isDigitAt S M TJ (show s ≤ 100000 by omega), r_byteAt S M TJ (show s ≤ 100000 by omega), bAt_in (f := f) z, bsome]
    rw [b0]
    by_cases z3 : isLc (f s) = true
    · have z2 : ¬ isDc (f s) = true := by
        intro q
        have a : 97 ≤ f s ∧ f s ≤ 122 := of_decide_eq_true z3
        have b : 48 ≤ f s ∧ f s ≤ 57 := of_decide_eq_true q
        omega
      obtain ⟨K1, a, b, g⟩ := r_letters (fu := fu) S M (fX11_next_b109 fu sh R) (n - s) fu s (by omega) (by omega) J TJ d9
      obtain ⟨K, hK⟩ : ∃ K, K = _root_.Jvm.Pilot.@@N@@.u2 K1 (AD 316) 11 (iz 2) := ⟨_, rfl⟩
      have G1 : FR AD I K1 (fun i k => i = 316 ∧ 9 ≤ k ∧ k ≤ 12) := F.tr (g.wd fun i k z => by omega)
      have G : FR AD I K (fun i k => i = 316 ∧ 9 ≤ k ∧ k ≤ 12) := by rw [hK]; exact FR.u2 S (by decide) (by decide) ⟨rfl, by decide, by decide⟩ G1
      refine ⟨K, ?_, mk K (spn isLc f n (n - s) s) 2 G (by unfold tokA; rw [if_pos z, if_neg z2, if_pos z3]) ?_ ?_ ?_ (fun q => absurd q (by decide))⟩
      · rw [z3, if_neg (show ¬ bz true = iz 0 by decide), a]
        simp only [fX11_next_b109, fX11_next_b257, oP_at S.md, bsome, iz_lit]
        rw [← hK]
      · rw [hK, u2_ad S (by decide) (by decide) (by decide) (by decide), if_neg (by decide)]; exact b
      · rw [hK, u2_ad S (by decide) (by decide) (by decide) (by decide), if_neg (by decide)]; exact (g 316 (by decide) (by decide) 10 (by omega)).trans d10
      · rw [hK, u2_ad S (by decide) (by decide) (by decide) (by decide), if_pos ⟨rfl, rfl⟩]; rfl
    · rw [if_pos (by rw [bz_zero]; revert z3; cases isLc (f s) <;> simp)]
      by_cases z2 : isDc (f s) = true
      · obtain ⟨J2, hJ2⟩ : ∃ J', J' = _root_.Jvm.Pilot.@@N@@.u2 J (AD 316) 12 (iz 0) := ⟨_, rfl⟩
        have F2 : FR AD I J2 (fun i k => i = 316 ∧ 9 ≤ k ∧ k ≤ 12) := by rw [hJ2]; exact FR.u2 S (by decide) (by decide) ⟨rfl, by decide, by decide⟩ F
        obtain ⟨K1, a, b, c, g⟩ := r_digits (fu := fu) S M (fX11_next_b200 fu sh R) (s := s) (n - s) fu s (by omega) (by omega) (by omega) J2 (T.fr F2 (fun _ => by omega) (by omega)) (by rw [hJ2, u2_ad S (by decide) (by decide) (by decide) (by decide), if_neg (by decide)]; exact d9) (by rw [hJ2, u2_ad S (by decide) (by decide) (by decide) (by decide), if_neg (by decide)]; exact d10) (fun _ => by rw [hJ2, u2_ad S (by decide) (by decide) (by decide) (by decide), if_pos ⟨rfl, rfl⟩, Nat.sub_self]; rfl)
        obtain ⟨r1, r2, -⟩ := spn_r isDc f n (n - s) s (by omega)
        obtain ⟨t, ht⟩ : ∃ t, t = (if spn isDc f n (n - s) s - s ≤ 4 then 3 else 1) := ⟨_, rfl⟩
        obtain ⟨K, hK⟩ : ∃ K, K = _root_.Jvm.Pilot.@@N@@.u2 K1 (AD 316) 11 (iz (t : Int)) := ⟨_, rfl⟩
        have G1 : FR AD I K1 (fun i k => i = 316 ∧ 9 ≤ k ∧ k ≤ 12) := F2.tr (g.wd fun i k z => by omega)
        have G : FR AD I K (fun i k => i = 316 ∧ 9 ≤ k ∧ k ≤ 12) := by rw [hK]; exact FR.u2 S (by decide) (by decide) ⟨rfl, by decide, by decide⟩ G1
        have k10 : K1 (AD 316) 10 = iz (s : Int) := by
          rw [g 316 (by decide) (by decide) 10 (by omega), hJ2, u2_ad S (by decide) (by decide) (by decide) (by decide), if_neg (by decide)]
          exact d10
        refine ⟨K, ?_, mk K (spn isDc f n (n - s) s) t G (by unfold tokA; rw [if_pos z, if_pos z2, ht]) ?_ ?_ ?_ (fun q => ?_)⟩
        · rw [z2, if_neg (show ¬ bz true = iz 0 by decide), ← hJ2, a]
          simp only [fX11_next_b200, fX11_next_b219, fX11_next_b257, oI_at S.md, oP_at S.md, b, k10, bsome, iz_lit, iz_sub]
          simp (disch := omega) only [iz_le]
          rw [hK, ht]
          by_cases y : spn isDc f n (n - s) s - s ≤ 4
          · rw [if_pos (by omega), if_pos y]; rfl
          · rw [if_neg (by omega), if_neg y]; rfl
        · rw [hK, u2_ad S (by decide) (by decide) (by decide) (by decide), if_neg (by decide)]; exact b
        · rw [hK, u2_ad S (by decide) (by decide) (by decide) (by decide), if_neg (by decide)]; exact k10
        · rw [hK, u2_ad S (by decide) (by decide) (by decide) (by decide), if_pos ⟨rfl, rfl⟩]
        · rw [hK, u2_ad S (by decide) (by decide) (by decide) (by decide), if_neg (by decide)]
          refine c ?_
          rw [ht] at q
          split at q
          · rename_i y; exact y
          · exact absurd q (by decide)
      · obtain ⟨t, ht⟩ : ∃ t, t = (if f s = 59 then 4 else 1) := ⟨_, rfl⟩
        obtain ⟨K1, hK1⟩ : ∃ K, K = _root_.Jvm.Pilot.@@N@@.u2 J (AD 316) 11 (iz (t : Int)) := ⟨_, rfl⟩
        obtain ⟨K, hK⟩ : ∃ K, K = _root_.Jvm.Pilot.@@N@@.u2 K1 (AD 316) 9 (iz ((s + 1 : Nat) : Int)) := ⟨_, rfl⟩
        have G1 : FR AD I K1 (fun i k => i = 316 ∧ 9 ≤ k ∧ k ≤ 12) := by rw [hK1]; exact FR.u2 S (by decide) (by decide) ⟨rfl, by decide, by decide⟩ F
        have G : FR AD I K (fun i k => i = 316 ∧ 9 ≤ k ∧ k ≤ 12) := by rw [hK]; exact FR.u2 S (by decide) (by decide) ⟨rfl, by decide, by decide⟩ G1
        have k9 : K1 (AD 316) 9 = iz (s : Int) := by rw [hK1, u2_ad S (by decide) (by decide) (by decide) (by decide), if_neg (by decide)]; exact d9
        have ek : iz (s : Int) + iz 1 = iz ((s + 1 : Nat) : Int) := by rw [iz_add]; rfl
        have fin : fX11_next_b244 fu sh R J (AD 316) (iz (t : Int)) (AD 316) = some K := by
          simp only [fX11_next_b244, fX11_next_b257, oI_at S.md, oP_at S.md, bsome, iz_lit]
          rw [← hK1, k9, ek, ← hK]
        refine ⟨K, ?_, mk K (s + 1) t G (by unfold tokA; rw [if_pos z, if_neg z2, if_neg z3, ht]) (by rw [hK, u2_ad S (by decide) (by decide) (by decide) (by decide), if_pos ⟨rfl, rfl⟩]) (by rw [hK, u2_ad S (by decide) (by decide) (by decide) (by decide), if_neg (by decide), hK1, u2_ad S (by decide) (by decide) (by decide) (by decide), if_neg (by decide)]; exact d10) (by rw [hK, u2_ad S (by decide) (by decide) (by decide) (by decide), if_neg (by decide), hK1, u2_ad S (by decide) (by decide) (by decide) (by decide), if_pos ⟨rfl, rfl⟩]) (fun q => by rw [ht] at q; split at q <;> exact absurd q (by decide))⟩
        rw [if_pos (by rw [bz_zero]; revert z2; cases isDc (f s) <;> simp)]
        simp (disch := omega) only [iz_eq]
        rw [← fin, ht]
        by_cases y : f s = 59
        · rw [if_pos y, if_pos y]; rfl
        · rw [if_neg y, if_neg y]; rfl
  · obtain ⟨K, hK⟩ : ∃ K, K = _root_.Jvm.Pilot.@@N@@.u2 J (AD 316) 11 (iz 0) := ⟨_, rfl⟩
    have G : FR AD I K (fun i k => i = 316 ∧ 9 ≤ k ∧ k ≤ 12) := by rw [hK]; exact FR.u2 S (by decide) (by decide) ⟨rfl, by decide, by decide⟩ F
    refine ⟨K, ?_, mk K s 0 G (by unfold tokA; rw [if_neg z]) (by rw [hK, u2_ad S (by decide) (by decide) (by decide) (by decide), if_neg (by decide)]; exact d9) (by rw [hK, u2_ad S (by decide) (by decide) (by decide) (by decide), if_neg (by decide)]; exact d10) (by rw [hK, u2_ad S (by decide) (by decide) (by decide) (by decide), if_pos ⟨rfl, rfl⟩]; rfl) (fun q => absurd q (by decide))⟩
    simp only [fX11_next_b47, oI_at S.md, oP_at S.md, e9, bsome, iz_lit]
    rw [← hJ, d9, d8, if_pos (by rw [iz_eq (by omega) (by omega) (by omega) (by omega)]; omega), ← hK]
    rfl
theorem r_nxT (S : OKS sh AD) (M : MR R AD) (hfu : 5000 ≤ fu) {i : Nat} (hi : i ≤ n) (T : TXM I AD f n) (e9 : I (AD 316) 9 = iz (i : Int)) (e13 : I (AD 316) 13 = iz 0) (e14 : I (AD 316) 14 = iz (-1)) :
    ∃ I', fX11_next fu sh I R (AD 316) = some I' ∧ RST I' AD f n (nxT f n i) ∧ FR AD I I' RDM := by
  have h8 := T.1
  obtain ⟨K, a, b, c⟩ := r_blank (fu := fu) S M (fX11_next_b47 fu sh R) (n - i) fu i (by omega) (by omega) I T e9
  obtain ⟨K2, x, y, z⟩ := r_tokA (fu := fu) S M hfu (spn_r isWc f n (n - i) i hi).2.1 (T.fr c (fun _ => by omega) (by omega)) b ((c 316 (by decide) (by decide) 13 (by omega)).trans e13) ((c 316 (by decide) (by decide) 14 (by omega)).trans e14)
  refine ⟨K2, ?_, y, (c.wd fun i k w => by unfold RDM; omega).tr z⟩
  simp only [fX11_next, if_pos (isT_of S.md), r_fine (fu := fu) (R := R) S (show 0 ≤ 4 by decide) e13, bsome, iz_lit]
  rw [if_neg (by decide), a, x]
theorem r_adv (S : OKS sh AD) (M : MR R AD) (hfu : 5000 ≤ fu) (C : RST I AD f n p) : ∃ I', fX11_next fu sh I R (AD 316) = some I' ∧ RST I' AD f n (advP f n p) ∧ FR AD I I' RDM := by
  have C' := C
  obtain ⟨T, W, c9, c10, c11, c12, c13, h4, c14⟩ := C'
  unfold advP
  by_cases z : p.er = 0
  · rw [if_pos z]
    rw [z] at c13
    rw [if_pos z] at c14
    exact r_nxT S M hfu W.2.1 T c9 c13 c14
  · rw [if_neg z]
    refine ⟨I, ?_, C, FR.rf _ _ _⟩
    simp only [fX11_next, if_pos (isT_of S.md), r_fine (fu := fu) (R := R) S h4 c13, bsome, iz_lit, bz_zero]
    rw [if_pos (decide_eq_false z)]
theorem r_failP (S : OKS sh AD) (C : RST I AD f n p) {e : Nat} (he : e ≤ 4) (h0 : ¬ e = 0) : ∃ I', fX11_fail fu sh I R (AD 316) (iz (e : Int)) = some I' ∧ RST I' AD f n (falP p e) ∧ FR AD I I' RDM := by
  have C' := C
  obtain ⟨T, W, c9, c10, c11, c12, c13, h4, c14⟩ := C'
  unfold falP
  by_cases z : p.er = 0
  · rw [if_pos z]
    obtain ⟨J, hJ⟩ : ∃ J, J = _root_.Jvm.Pilot.@@N@@.u2 I (AD 316) 13 (iz (e : Int)) := ⟨_, rfl⟩
    obtain ⟨K, hK⟩ : ∃ K, K = _root_.Jvm.Pilot.@@N@@.u2 J (AD 316) 14 (iz (p.st : Int)) := ⟨_, rfl⟩
    have F1 : FR AD I J (fun i k => i = 316 ∧ 13 ≤ k ∧ k ≤ 14) := by rw [hJ]; exact FR.u2 S (by decide) (by decide) ⟨rfl, by decide, by decide⟩ (FR.rf AD I _)
    have F : FR AD I K (fun i k => i = 316 ∧ 13 ≤ k ∧ k ≤ 14) := by rw [hK]; exact FR.u2 S (by decide) (by decide) ⟨rfl, by decide, by decide⟩ F1
    refine ⟨K, ?_, ⟨T.fr F (fun _ => by omega) (by omega), W, (F 316 (by decide) (by decide) 9 (by omega)).trans c9, (F 316 (by decide) (by decide) 10 (by omega)).trans c10, (F 316 (by decide) (by decide) 11 (by omega)).trans c11, fun t => (F 316 (by decide) (by decide) 12 (by omega)).trans (c12 t), ?_, he, ?_⟩, F.wd fun i k z => by unfold RDM; omega⟩
    · have j10 : J (AD 316) 10 = iz (p.st : Int) := (F1 316 (by decide) (by decide) 10 (by omega)).trans c10
      simp only [fX11_fail, fX11_fail_b20, if_pos (isT_of S.md), r_fine (fu := fu) (R := R) S h4 c13, bsome, iz_lit, bz_zero, oI_at S.md, oP_at S.md]
      rw [if_neg (by rw [decide_eq_true z]; decide), ← hJ, j10, ← hK]
    · rw [hK, u2_ad S (by decide) (by decide) (by decide) (by decide), if_neg (by decide), hJ, u2_ad S (by decide) (by decide) (by decide) (by decide), if_pos ⟨rfl, rfl⟩]; rfl
    · rw [hK, u2_ad S (by decide) (by decide) (by decide) (by decide), if_pos ⟨rfl, rfl⟩]
      show _ = iz (if e = 0 then -1 else (p.st : Int))
      rw [if_neg h0]
  · rw [if_neg z]
    refine ⟨I, ?_, C, FR.rf _ _ _⟩
    simp only [fX11_fail, fX11_fail_b20, if_pos (isT_of S.md), r_fine (fu := fu) (R := R) S h4 c13, bsome, iz_lit, bz_zero]
    rw [if_pos (decide_eq_false z)]
theorem r_kwd_loop (S : OKS sh AD) (M : MR R AD) (C : RST I AD f n p) {w : Nat} (hw : w < 28) (hl : p.st + (cod w).length ≤ n) : ∀ d j i : Nat, i + d = (cod w).length → d < j →
    fX11_isWord_l35 fu sh I R j (AD 316) w (iz (i : Int)) = some (bz (mtB f p.st (cod w) d i)) := by
  obtain ⟨T, W, c9, c10, c11, c12, c13, h4, c14⟩ := C
  have h8 := T.1
  intro d
  induction d with
  | zero =>
    intro j i hi hj
    obtain ⟨j, rfl⟩ : ∃ t, j = t + 1 := ⟨j - 1, by omega⟩
    show fX11_isWord_b35 fu sh I R (fX11_isWord_l35 fu sh I R j) _ _ _ = _
    simp only [fX11_isWord_b35, length_ok hw, bsome]
    rw [if_pos (by rw [iz_le (by omega) (by omega) (by omega) (by omega)]; omega)]
    rfl
  | succ d ih =>
    intro j i hi hj
    obtain ⟨j, rfl⟩ : ∃ t, j = t + 1 := ⟨j - 1, by omega⟩
    have q := ih j (i + 1) (by omega) (by omega)
    have un : mtB f p.st (cod w) (d + 1) i = if f (p.st + i) = (cod w).getD i 0 then mtB f p.st (cod w) d (i + 1) else false := rfl
    have ek : iz (i : Int) + iz 1 = iz ((i + 1 : Nat) : Int) := by rw [iz_add]; rfl
    have es : iz (p.st : Int) + iz (i : Int) = iz ((p.st + i : Nat) : Int) := by rw [iz_add]; rfl
    have hx := T.2.2.1 (p.st + i) (by omega)
    have hy := cod_ch hw (show i < (cod w).length by omega)
    have rd : oA sh I (AD 320) (iz ((p.st + i : Nat) : Int)) = some (iz (f (p.st + i))) := by
      rw [oA_nat (S.at (i := 320) (t := 20) (n := 800) rfl (by decide) (by decide)) (by omega) (by decide), T.2.1 (p.st + i) (by omega)]
    rw [un]
    show fX11_isWord_b35 fu sh I R (fX11_isWord_l35 fu sh I R j) _ _ _ = _
    simp only [fX11_isWord_b35, length_ok hw, bsome, oR_at S.md M.1.2.2.2.1, oI_at S.md, c10, es, rd, charAt_ok hw (show i < (cod w).length by omega), iz_lit, ek]
    rw [if_neg (by rw [iz_le (by omega) (by omega) (by omega) (by omega)]; omega)]
    simp (disch := omega) only [iz_eq]
    by_cases z : f (p.st + i) = (cod w).getD i 0
    · rw [if_pos z, if_pos z, q]
    · rw [if_neg z, if_neg z]; rfl
theorem r_kwd (S : OKS sh AD) (M : MR R AD) (hfu : 5000 ≤ fu) (C : RST I AD f n p) {w : Nat} (hw : w < 28) : fX11_isWord fu sh I R (AD 316) w = some (bz (decide (p.er = 0) && wdP f p w)) := by
  have C' := C
  obtain ⟨T, W, c9, c10, c11, c12, c13, h4, c14⟩ := C'
  have h8 := T.1
  have h40 := (cod_ok hw).2.2.2.1
  obtain ⟨w1, w2, w3, -⟩ := W
  simp only [fX11_isWord, fX11_isWord_b31, if_pos (isT_of S.md), r_fine (fu := fu) (R := R) S h4 c13, oI_at S.md, c11, bsome, c9, c10, length_ok hw, iz_lit, iz_sub, bz_zero]
  by_cases x : p.er = 0
  · rw [decide_eq_true x, if_neg (by decide)]
    unfold wdP
    by_cases z : p.tk = 2
    · rw [if_pos (by rw [iz_eq (by omega) (by omega) (by omega) (by omega)]; omega), decide_eq_true z]
      by_cases y : p.en - p.st = (cod w).length
      · rw [if_pos (by rw [iz_eq (by omega) (by omega) (by omega) (by omega)]; omega), decide_eq_true y]
        exact r_kwd_loop S M C hw (by omega) _ fu 0 (by omega) (by omega)
      · rw [if_neg (by rw [iz_eq (by omega) (by omega) (by omega) (by omega)]; omega), decide_eq_false y]
        rfl
    · rw [if_neg (by rw [iz_eq (by omega) (by omega) (by omega) (by omega)]; omega), decide_eq_false z]
      rfl
  · rw [decide_eq_false x, if_pos rfl]
    rfl
theorem r_exW (S : OKS sh AD) (M : MR R AD) (hfu : 5000 ≤ fu) (C : RST I AD f n p) {w : Nat} (hw : w < 28) : ∃ I', fX11_expectWord fu sh I R (AD 316) w = some I' ∧ RST I' AD f n (advP f n (exW f p w)) ∧ FR AD I I' RDM := by
  simp only [fX11_expectWord, if_pos (isT_of S.md), r_kwd S M hfu C hw, bsome, iz_lit, bz_zero]
  by_cases z : p.er = 0 ∧ wdP f p w = true
  · obtain ⟨J, a, b⟩ := r_adv S M hfu C
    rw [decide_eq_true z.1, z.2, if_neg (by decide)]
    unfold exW
    rw [if_pos z.2]
    refine ⟨J, ?_, b⟩
    simp only [fX11_expectWord_b13, a, bsome]
  · obtain ⟨J, a, b, c⟩ := r_failP (fu := fu) (R := R) S C (e := 1) (by decide) (by decide)
    have a' : fX11_fail fu sh I R (AD 316) (iz 1) = some J := a
    have e : exW f p w = falP p 1 := by
      unfold exW
      split
      · rename_i y
        rw [fal_ne (fun q => z ⟨q, y⟩)]
      · rfl
    obtain ⟨K, x, y, v⟩ := r_adv S M hfu b
    rw [if_pos (by rw [← Bool.not_eq_true, Bool.and_eq_true, decide_eq_true_eq]; exact z), e]
    refine ⟨K, ?_, y, c.tr v⟩
    rw [a', bsome]
    simp only [fX11_expectWord_b13, x, bsome]
theorem r_semi (S : OKS sh AD) (M : MR R AD) (hfu : 5000 ≤ fu) (C : RST I AD f n p) : ∃ I', fX11_expectSemicolon fu sh I R (AD 316) = some I' ∧ RST I' AD f n (advP f n (okS p)) ∧ FR AD I I' RDM := by
  have C' := C
  obtain ⟨T, W, c9, c10, c11, c12, c13, h4, c14⟩ := C'
  have w3 := W.2.2.1
  simp only [fX11_expectSemicolon, if_pos (isT_of S.md), oI_at S.md, c11, bsome, iz_lit]
  unfold okS
  by_cases z : p.tk = 4
  · obtain ⟨J, a, b⟩ := r_adv S M hfu C
    rw [if_pos (by rw [iz_eq (by omega) (by omega) (by omega) (by omega)]; omega), if_pos z]
    refine ⟨J, ?_, b⟩
    simp only [fX11_expectSemicolon_b13, a, bsome]
  · obtain ⟨J, a, b, c⟩ := r_failP (fu := fu) (R := R) S C (e := 1) (by decide) (by decide)
    have a' : fX11_fail fu sh I R (AD 316) (iz 1) = some J := a
    obtain ⟨K, x, y, w⟩ := r_adv S M hfu b
    rw [if_neg (by rw [iz_eq (by omega) (by omega) (by omega) (by omega)]; omega), if_neg z]
    refine ⟨K, ?_, y, c.tr w⟩
    rw [a', bsome]
    simp only [fX11_expectSemicolon_b13, x, bsome]
theorem r_take36 (S : OKS sh AD) (M : MR R AD) (hfu : 5000 ≤ fu) (C : RST I AD f n p) : ∃ v I', fX11_read_b36 fu sh R I (AD 316) = some (v, I') ∧ RST I' AD f n (advP f n p) ∧ FR AD I I' RDM ∧ (p.tk = 3 → v = iz (nmP f p)) := by
  obtain ⟨J, a, b, c⟩ := r_adv S M hfu C
  refine ⟨I (AD 316) 12, J, ?_, b, c, C.2.2.2.2.2.1⟩
  simp only [fX11_read_b36, oI_at S.md, bsome, a]
theorem r_take (S : OKS sh AD) (M : MR R AD) (hfu : 5000 ≤ fu) (C : RST I AD f n p) {lo hi : Int} (h0 : 0 ≤ lo) (h1 : lo ≤ 9999) (h2 : 0 ≤ hi) (h3 : hi ≤ 9999) :
    ∃ v I', fX11_read fu sh I R (AD 316) (iz lo) (iz hi) = some (v, I') ∧ RST I' AD f n (advP f n (okN f p lo hi)) ∧ FR AD I I' RDM ∧ ((okN f p lo hi).er = 0 → v = iz (nmP f p)) := by
  have C' := C
  obtain ⟨T, W, c9, c10, c11, c12, c13, h4, c14⟩ := C'
  have w3 := W.2.2.1
  simp only [fX11_read, if_pos (isT_of S.md), oI_at S.md, c11, bsome, iz_lit]
  unfold okN
  by_cases z : p.tk = 3
  · have r := nmP_r W z
    rw [if_pos (by rw [iz_eq (by omega) (by omega) (by omega) (by omega)]; omega), if_pos z, c12 z, toJ_iz (by omega) (by omega), toJ_iz (by omega) (by omega), toJ_iz (by omega) (by omega), r_isIn (by omega) (by omega) (by omega) (by omega) (by omega) (by omega), bsome]
    simp only [bz_zero]
    by_cases y : lo ≤ nmP f p ∧ nmP f p ≤ hi
    · obtain ⟨v, J, a, b, c, d⟩ := r_take36 (fu := fu) S M hfu C
      rw [if_neg (by rw [decide_eq_true y.1, decide_eq_true y.2]; decide), if_pos y]
      exact ⟨v, J, a, b, c, fun _ => d z⟩
    · obtain ⟨J, a, b, c⟩ := r_failP (fu := fu) (R := R) S C (e := 2) (by decide) (by decide)
      have a' : fX11_fail fu sh I R (AD 316) (iz 2) = some J := a
      obtain ⟨v, K, a2, b2, c2, -⟩ := r_take36 (fu := fu) S M hfu b
      rw [if_pos (by rw [← Bool.decide_and]; exact decide_eq_false y), if_neg y, a', bsome]
      exact ⟨v, K, a2, b2, c.tr c2, fun q => absurd q (fal_er (by decide))⟩
  · obtain ⟨J, a, b, c⟩ := r_failP (fu := fu) (R := R) S C (e := 1) (by decide) (by decide)
    have a' : fX11_fail fu sh I R (AD 316) (iz 1) = some J := a
    obtain ⟨v, K, a2, b2, c2, -⟩ := r_take36 (fu := fu) S M hfu b
    rw [if_neg (by rw [iz_eq (by omega) (by omega) (by omega) (by omega)]; omega), if_neg z, a', bsome]
    exact ⟨v, K, a2, b2, c.tr c2, fun q => absurd q (fal_er (by decide))⟩
end Q54
