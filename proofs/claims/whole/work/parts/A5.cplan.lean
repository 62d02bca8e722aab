/-! STAGE 2: writePlan of the class -/
def setP (σ : STT) (L : List Int) : STT := (σ.1, σ.2.1, σ.2.2.1, σ.2.2.2.1, σ.2.2.2.2.1, σ.2.2.2.2.2.1, L.length, fun k => L.getD k 0)
def aPlan (σ : STT) : Int ⊕ Nat := if σ.1 = true then .inl ((planL σ.2.1).length : Int) else .inr 1
def sPlan (σ : STT) : STT := if σ.1 = true then setP σ (planL σ.2.1) else σ
section Q39
variable {fu : Nat} {sh : HS} {I I' I0 J : HI} {R : HR} {AD : Int → Nat} {P : Int → Int → Int} {σ : STT} {ρ : RHO} {L : List Int} {p : Int → Int}
theorem VST.pln (V : VST σ) : VST (sPlan σ) := by
  unfold sPlan
  by_cases h : σ.1 = true
  · rw [if_pos h]
    exact ⟨V.1, V.2.1, V.2.2.1, V.2.2.2.1, V.2.2.2.2.1, V.2.2.2.2.2.1, V.2.2.2.2.2.2.1, plan_len (V.1 h)⟩
  · rw [if_neg h]; exact V
theorem c_word_loop (S : OKS sh AD) (hR : R (AD 26) 0 = some (AD 27)) {w : Nat} (hw : w < 28) : ∀ d j k : Nat, ∀ L : List Int, ∀ I : HI, k + d = (cod w).length → d < j → PLC I AD L → L.length + d ≤ 1056 →
    ∃ I', fX4_putWord_l2 fu sh R (fX4_putWord_b50 fu sh R) j I (AD 26) w (iz (k : Int)) = some I' ∧ PLC I' AD (L ++ (cod w).drop k) ∧ FR AD I I' PWC := by
  have k26 := S.at (i := 26) (t := 3) (n := 2) rfl (by decide) (by decide)
  have k27 := S.at (i := 27) (t := 20) (n := 1056) rfl (by decide) (by decide)
  have cw := (cod_ok hw).2.2.2.1
  intro d
  induction d with
  | zero =>
    intro j k L I hk hj H hl
    obtain ⟨j, rfl⟩ : ∃ t, j = t + 1 := ⟨j - 1, by omega⟩
    refine ⟨I, ?_, ?_, FR.rf _ _ _⟩
    · show fX4_putWord_b2 fu sh R (fX4_putWord_l2 fu sh R (fX4_putWord_b50 fu sh R) j) (fX4_putWord_b50 fu sh R) I _ _ _ = _
      simp only [fX4_putWord_b2, fX4_putWord_b50, length_ok hw, bsome]
      rw [if_pos (by rw [iz_le (by omega) (by omega) (by omega) (by omega)]; omega)]
    · rw [List.drop_eq_nil_of_le (by omega), List.append_nil]
      exact H
  | succ d ih =>
    intro j k L I hk hj H hl
    obtain ⟨j, rfl⟩ : ∃ t, j = t + 1 := ⟨j - 1, by omega⟩
    have ek : iz (k : Int) + iz 1 = iz ((k + 1 : Nat) : Int) := by rw [iz_add]; rfl
    have el : iz (L.length : Int) + iz 1 = iz ((L.length : Int) + 1) := by rw [iz_add]
    obtain ⟨H2, F2⟩ := H.by S ((cod w).getD k 0)
    obtain ⟨I', e, g1, g2⟩ := ih j (k + 1) _ _ (by omega) (by omega) H2 (by rw [List.length_append]; show L.length + 1 + d ≤ 1056; omega)
    refine ⟨I', ?_, ?_, F2.tr g2⟩
    · rw [← e]
      have r1 : u2 I (AD 27) L.length (iz ((cod w).getD k 0)) (AD 26) 1 = iz (L.length : Int) := by
        rw [u2_ne S (by decide) (by decide) (by decide) (by decide) (by decide)]; exact H.1
      show fX4_putWord_b2 fu sh R (fX4_putWord_l2 fu sh R (fX4_putWord_b50 fu sh R) j) (fX4_putWord_b50 fu sh R) I _ _ _ = _
      simp only [fX4_putWord_b2, length_ok hw, bsome, oI_at k26, H.1, oR_at k26 hR, charAt_ok hw (show k < (cod w).length by omega), oS_nat k27 (show L.length < 1056 by omega) (by decide), r1, oP_at k26, iz_lit, ek, el]
      rw [if_neg (by rw [iz_le (by omega) (by omega) (by omega) (by omega)]; omega), if_neg (by rw [iz_le (by decide) (by decide) (by omega) (by omega)]; omega)]
    · rw [drop_cons (show k < (cod w).length by omega)]
      exact g1
theorem c_word (S : OKS sh AD) (hfu : 5000 ≤ fu) (hR : R (AD 26) 0 = some (AD 27)) {w : Nat} (hw : w < 28) (H : PLC I AD L) (hl : L.length + (cod w).length ≤ 1056) : ∃ I', fX4_putWord fu sh I R (AD 26) w = some I' ∧ PLC I' AD (L ++ cod w) ∧ FR AD I I' PWC := by
  have k26 := S.at (i := 26) (t := 3) (n := 2) rfl (by decide) (by decide)
  have cw := (cod_ok hw).2.2.2.1
  obtain ⟨I', e, g⟩ := c_word_loop (fu := fu) S hR hw (cod w).length fu 0 L I (by omega) (by omega) H hl
  refine ⟨I', ?_, g⟩
  simp only [fX4_putWord, if_pos (isT_of k26), iz_lit]
  exact e
theorem c_digit (S : OKS sh AD) (hR : R (AD 26) 0 = some (AD 27)) (H : PLC I AD L) (hl : L.length + 1 ≤ 1056) (x : Int) : ∃ I', fX4_putDigit fu sh I R (AD 26) (iz x) = some I' ∧ PLC I' AD (L ++ [48 + x]) ∧ FR AD I I' PWC := by
  have k26 := S.at (i := 26) (t := 3) (n := 2) rfl (by decide) (by decide)
  have k27 := S.at (i := 27) (t := 20) (n := 1056) rfl (by decide) (by decide)
  have el : iz (L.length : Int) + iz 1 = iz ((L.length : Int) + 1) := by rw [iz_add]
  obtain ⟨H2, F2⟩ := H.by S (48 + x)
  refine ⟨_, ?_, H2, F2⟩
  have r1 : u2 I (AD 27) L.length (iz (48 + x)) (AD 26) 1 = iz (L.length : Int) := by
    rw [u2_ne S (by decide) (by decide) (by decide) (by decide) (by decide)]; exact H.1
  simp only [fX4_putDigit, fX4_putDigit_b33, if_pos (isT_of k26), oI_at k26, H.1, bsome, oR_at k26 hR, iz_lit, iz_add 48, oS_nat k27 (show L.length < 1056 by omega) (by decide), r1, oP_at k26, el]
  rw [if_neg (by rw [iz_le (by decide) (by decide) (by omega) (by omega)]; omega)]
theorem c_num (S : OKS sh AD) (hR : R (AD 26) 0 = some (AD 27)) (H : PLC I AD L) {v : Int} (v0 : 0 ≤ v) (v1 : v ≤ 99) (hl : L.length + (numL v).length ≤ 1056) : ∃ I', fX4_putNumber fu sh I R (AD 26) (iz v) = some I' ∧ PLC I' AD (L ++ numL v) ∧ FR AD I I' PWC := by
  have k26 := S.at (i := 26) (t := 3) (n := 2) rfl (by decide) (by decide)
  have em := oM_iz (a := v) (b := 10) v0 (by omega) (by decide) (by decide)
  have ed := oD_iz (a := v) (b := 10) v0 (by omega) (by decide) (by decide)
  simp only [fX4_putNumber, fX4_putNumber_b14, if_pos (isT_of k26), iz_lit, em, ed, bsome]
  unfold numL at hl ⊢
  by_cases z : v < 10
  · rw [if_pos z] at hl
    obtain ⟨I1, e1, H1, F1⟩ := c_digit (fu := fu) S hR H hl (v % 10)
    rw [if_pos (by rw [iz_lt (by omega) (by omega) (by decide) (by decide)]; exact z), e1, bsome, if_pos z]
    rw [show v % 10 = v by omega] at H1
    exact ⟨I1, rfl, H1, F1⟩
  · rw [if_neg z] at hl
    have hl2 : L.length + 2 ≤ 1056 := hl
    obtain ⟨I1, e1, H1, F1⟩ := c_digit (fu := fu) S hR H (by omega) (v / 10)
    obtain ⟨I2, e2, H2, F2⟩ := c_digit (fu := fu) S hR H1 (by rw [List.length_append]; show L.length + 1 + 1 ≤ 1056; omega) (v % 10)
    rw [if_neg (by rw [iz_lt (by omega) (by omega) (by decide) (by decide)]; exact z), e1, bsome, e2, bsome, if_neg z]
    rw [List.append_assoc] at H2
    exact ⟨I2, rfl, H2, F1.tr F2⟩
theorem c_sl_loop (S : OKS sh AD) (hfu : 5000 ≤ fu) (C : PLR R AD) (T : TR R AD) (hR : R (AD 26) 0 = some (AD 27)) (V : VB ρ) (B : BA sh I0 R AD 28 p ρ) {q : Nat} (hq : q < 12) {m : Nat} (hm : m < 4096) (h9 : I0 (AD 9) q = iz (m : Int)) : ∀ f j s : Nat, ∀ L : List Int, ∀ I : HI, s + f = (ρ 4).toNat → f < j → FR AD I0 I PWC → PLC I AD L → L.length + (shL m f s).length + 1 ≤ 1056 →
    ∃ I', fX10_writeSetupLine_l20 fu sh R j I (AD 0) (iz (q : Int)) (iz (s : Int)) = some I' ∧ PLC I' AD (L ++ (shL m f s ++ [10])) ∧ FR AD I0 I' PWC := by
  have hn := V.n
  have c9 : cod 9 = [10] := by decide +kernel
  have c0 : cod 0 = [32] := by decide +kernel
  intro f
  induction f with
  | zero =>
    intro j s L I hs hj F H hl
    obtain ⟨j, rfl⟩ : ∃ t, j = t + 1 := ⟨j - 1, by omega⟩
    have BI := B.fr V F (fun i k g0 g1 => by unfold PWC; omega)
    obtain ⟨I1, e1, H1, F1⟩ := c_word (fu := fu) S hfu hR (w := 9) (by decide) H (by rw [c9]; exact hl)
    rw [c9] at H1
    refine ⟨I1, ?_, H1, F.tr F1⟩
    show fX10_writeSetupLine_b20 fu sh R (fX10_writeSetupLine_l20 fu sh R j) I _ _ _ = _
    simp only [fX10_writeSetupLine_b20, oR_at S.pl C.1.2.1, oR_at S.pl C.2.2.2, BI.1.2.1.2.2.2.2, bsome, e1]
    rw [if_pos (by rw [iz_le (by omega) (by omega) (by omega) (by omega)]; omega)]
  | succ f ih =>
    intro j s L I hs hj F H hl
    obtain ⟨j, rfl⟩ : ∃ t, j = t + 1 := ⟨j - 1, by omega⟩
    have BI := B.fr V F (fun i k g0 g1 => by unfold PWC; omega)
    have ek : iz (s : Int) + iz 1 = iz ((s + 1 : Nat) : Int) := by rw [iz_add]; rfl
    have x9 : I (AD 9) q = iz (m : Int) := (F 9 (by decide) (by decide) q (by unfold PWC; omega)).trans h9
    have hd : fX10_writeSetupLine_l20 fu sh R (j + 1) I (AD 0) (iz (q : Int)) (iz (s : Int)) = if bz (m.testBit s) = iz 0 then fX10_writeSetupLine_l20 fu sh R j I (AD 0) (iz (q : Int)) (iz ((s + 1 : Nat) : Int)) else ((fX4_putWord fu sh I R (AD 26) 0).bind fun w14 => (fX4_putNumber fu sh w14 R (AD 26) (iz (s : Int))).bind fun w16 => fX10_writeSetupLine_l20 fu sh R j w16 (AD 0) (iz (q : Int)) (iz ((s + 1 : Nat) : Int))) := by
      show fX10_writeSetupLine_b20 fu sh R (fX10_writeSetupLine_l20 fu sh R j) I _ _ _ = _
      simp only [fX10_writeSetupLine_b20, fX10_writeSetupLine_b65, oR_at S.pl C.1.2.1, oR_at S.pl C.1.2.2.2.2.2, oR_at S.pl C.2.2.2, oR_at (k6 S) T.2.2.1, BI.1.2.1.2.2.2.2, bsome, oA_nat (k12 S (i := 9) (by decide) (by decide)) hq (by decide), x9, c_holds (show m < 2147483648 by omega) (show s < 32 by omega), iz_lit, ek]
      rw [if_neg (by rw [iz_le (by omega) (by omega) (by omega) (by omega)]; omega)]
    simp only [bz_zero] at hd
    unfold shL at hl ⊢
    cases e : m.testBit s
    · rw [e, if_neg (by decide), List.nil_append] at hl
      rw [if_neg (by decide), List.nil_append]
      obtain ⟨I', e2, g1, g2⟩ := ih j (s + 1) L I (by omega) (by omega) F H hl
      rw [e, if_pos rfl] at hd
      exact ⟨I', hd.trans e2, g1, g2⟩
    · rw [e, if_pos rfl, List.length_append, List.length_cons] at hl
      rw [if_pos rfl]
      obtain ⟨I1, e1, H1, F1⟩ := c_word (fu := fu) S hfu hR (w := 0) (by decide) H (by rw [c0]; show L.length + 1 ≤ 1056; omega)
      rw [c0] at H1
      obtain ⟨I2, e2, H2, F2⟩ := c_num (fu := fu) S hR H1 (show 0 ≤ (s : Int) by omega) (by omega) (by rw [List.length_append]; show L.length + 1 + _ ≤ 1056; omega)
      obtain ⟨I', e3, g1, g2⟩ := ih j (s + 1) _ I2 (by omega) (by omega) ((F.tr F1).tr F2) H2 (by rw [List.length_append, List.length_append]; show L.length + 1 + _ + _ + 1 ≤ 1056; omega)
      rw [e, if_neg (by decide), e1, bsome, e2, bsome] at hd
      refine ⟨I', hd.trans e3, ?_, g2⟩
      have el : L ++ [32] ++ numL (s : Int) ++ (shL m f (s + 1) ++ [10]) = L ++ (32 :: numL (s : Int) ++ shL m f (s + 1) ++ [10]) := by simp only [List.append_assoc, List.cons_append, List.nil_append]
      rw [el] at g1
      exact g1
theorem c_line (S : OKS sh AD) (hfu : 5000 ≤ fu) (C : PLR R AD) (T : TR R AD) (hR : R (AD 26) 0 = some (AD 27)) (V : VB ρ) (B : BA sh I0 R AD 28 p ρ) (t : T2 I0 AD ρ (ρ 0) (ρ 4).toNat (ρ 4).toNat) {q : Nat} (hq : q < mSet ρ) (F : FR AD I0 I PWC) (H : PLC I AD L) (hl : L.length + (lineL ρ q).length ≤ 1056) :
    ∃ I', fX10_writeSetupLine fu sh I R (AD 0) (iz (q : Int)) = some I' ∧ PLC I' AD (L ++ lineL ρ q) ∧ FR AD I0 I' PWC := by
  have hn := V.n
  have hm := mSet_le V
  have ql := qh_lt ρ (ρ 0) (ρ 4).toNat q (ρ 4).toNat (by omega)
  unfold lineL at hl ⊢
  rw [List.length_append, List.length_append, List.length_append] at hl
  have hl2 : L.length + ((cod 23).length + (numL (q : Int)).length + (shL (qhG ρ (ρ 0) (ρ 4).toNat q (ρ 4).toNat) (ρ 4).toNat 0).length + 1) ≤ 1056 := hl
  obtain ⟨I1, e1, H1, F1⟩ := c_word (fu := fu) S hfu hR (w := 23) (by decide) H (by omega)
  obtain ⟨I2, e2, H2, F2⟩ := c_num (fu := fu) S hR H1 (show 0 ≤ (q : Int) by omega) (by omega) (by rw [List.length_append]; omega)
  obtain ⟨I3, e3, H3, F3⟩ := c_sl_loop (fu := fu) S hfu C T hR V B (show q < 12 by omega) ql (t.2.2.1 q hq) (ρ 4).toNat fu 0 _ I2 (by omega) (by omega) ((F.tr F1).tr F2) H2 (by rw [List.length_append, List.length_append]; omega)
  refine ⟨I3, ?_, ?_, F3⟩
  · simp only [fX10_writeSetupLine, if_pos (isT_of S.pl), oR_at S.pl C.2.2.2, bsome, e1, e2, iz_lit]
    exact e3
  · have el : L ++ cod 23 ++ numL (q : Int) ++ (shL (qhG ρ (ρ 0) (ρ 4).toNat q (ρ 4).toNat) (ρ 4).toNat 0 ++ [10]) = L ++ (cod 23 ++ numL (q : Int) ++ shL (qhG ρ (ρ 0) (ρ 4).toNat q (ρ 4).toNat) (ρ 4).toNat 0 ++ [10]) := by simp only [List.append_assoc]
    rw [el] at H3
    exact H3
theorem tol_r {s : Int} {k : Nat} (V : VB ρ) (h0 : 0 ≤ s) (h1 : s < ρ 4) (hk : k < 4) (h : (kindS ρ s).toNat.testBit k = true) : 0 ≤ tolS ρ s k 2 ∧ tolS ρ s k 2 ≤ 99 := by
  have hn := V.n
  have br := block_range ρ s
  unfold tolS
  rw [if_neg (by decide), if_neg (by decide)]
  have b0 : ∀ b : Bool, b2i b = 0 ∨ b2i b = 1 := fun b => by cases b; exact Or.inl rfl; exact Or.inr rfl
  have q0 := b0 (k0S ρ s)
  have q1 := b0 (k1S ρ s)
  have q2 := b0 (k2S ρ s)
  have q3 := b0 (k3S ρ s)
  by_cases z : (k : Int) = 3
  · rw [if_pos z]
    have k3 : k = 3 := by omega
    subst k3
    have : k3S ρ s = true := by
      cases e : k3S ρ s
      · have e3 : b2i (k3S ρ s) = 0 := by rw [e]; rfl
        unfold kindS at h
        rw [e3] at h
        have hx : (b2i (k0S ρ s) + 2 * b2i (k1S ρ s) + 4 * b2i (k2S ρ s) + 8 * 0).toNat < 2 ^ 3 := by omega
        rw [Nat.testBit_lt_two_pow hx] at h
        exact absurd h (by decide)
      · rfl
    unfold k3S at this
    have nb : ¬ blockS ρ s = -1 := by
      intro w
      rw [decide_eq_true w] at this
      exact absurd this (by decide)
    omega
  · rw [if_neg z]
    have : ¬ s ≤ 0 := by
      intro w
      have bf := bef_0 ρ w
      have e0 : k0S ρ s = false := by unfold k0S; rw [bf, Bool.false_and]
      have e1 : k1S ρ s = false := by unfold k1S; rw [bf, Bool.false_and]
      have e2 : k2S ρ s = false := by unfold k2S; rw [bf, Bool.false_and]
      unfold kindS at h
      rw [e0, e1, e2] at h
      have hb : b2i false + 2 * b2i false + 4 * b2i false + 8 * b2i (k3S ρ s) = 8 * b2i (k3S ρ s) := by
        show (0 : Int) + 2 * 0 + 4 * 0 + _ = _
        omega
      rw [hb] at h
      have kk : k = 0 ∨ k = 1 ∨ k = 2 := by omega
      rcases q3 with q | q <;> rw [q] at h <;> rcases kk with rfl | rfl | rfl <;> exact absurd h (by decide)
    omega
theorem c_kindW {k : Nat} (hk : k < 4) : fX10_wordOfKind fu sh I R (iz (k : Int)) = some (wkL k) := by
  have q : k = 0 ∨ k = 1 ∨ k = 2 ∨ k = 3 := by omega
  simp only [fX10_wordOfKind, iz_lit]
  rcases q with rfl | rfl | rfl | rfl
  · rw [if_pos (show iz ((0 : Nat) : Int) = iz 0 from rfl)]; rfl
  · rw [if_neg (by rw [iz_eq (by decide) (by decide) (by decide) (by decide)]; decide), if_pos (show iz ((1 : Nat) : Int) = iz 1 from rfl)]; rfl
  · rw [if_neg (by rw [iz_eq (by decide) (by decide) (by decide) (by decide)]; decide), if_neg (by rw [iz_eq (by decide) (by decide) (by decide) (by decide)]; decide), if_pos (show iz ((2 : Nat) : Int) = iz 2 from rfl)]; rfl
  · rw [if_neg (by rw [iz_eq (by decide) (by decide) (by decide) (by decide)]; decide), if_neg (by rw [iz_eq (by decide) (by decide) (by decide) (by decide)]; decide), if_neg (by rw [iz_eq (by decide) (by decide) (by decide) (by decide)]; decide)]; rfl
theorem c_fk_loop (S : OKS sh AD) (hfu : 5000 ≤ fu) (C : PLR R AD) (hR : R (AD 26) 0 = some (AD 27)) (V : VB ρ) (B : BA sh I0 R AD 28 p ρ) {s : Nat} (hs : (s : Int) < ρ 4) : ∀ f j k : Nat, ∀ L : List Int, ∀ I : HI, k + f = 4 → f < j → FR AD I0 I PWC → PLC I AD L → L.length + (flK ρ s f k).length ≤ 1056 →
    ∃ I', fX10_writeFaultLines_l11 fu sh R j I (AD 0) (iz (s : Int)) (iz (kindS ρ s)) (iz (k : Int)) = some I' ∧ PLC I' AD (L ++ flK ρ s f k) ∧ FR AD I0 I' PWC := by
  have hn := V.n
  have c9 : cod 9 = [10] := by decide +kernel
  have kr := kind_range ρ s
  intro f
  induction f with
  | zero =>
    intro j k L I hk hj F H hl
    obtain ⟨j, rfl⟩ : ∃ t, j = t + 1 := ⟨j - 1, by omega⟩
    refine ⟨I, ?_, ?_, F⟩
    · show fX10_writeFaultLines_b11 fu sh R (fX10_writeFaultLines_l11 fu sh R j) I _ _ _ _ = _
      simp only [fX10_writeFaultLines_b11, iz_lit]
      rw [if_pos (by rw [iz_le (by decide) (by decide) (by omega) (by omega)]; omega)]
    · show PLC I AD (L ++ [])
      rw [List.append_nil]
      exact H
  | succ f ih =>
    intro j k L I hk hj F H hl
    obtain ⟨j, rfl⟩ : ∃ t, j = t + 1 := ⟨j - 1, by omega⟩
    have ek : iz (k : Int) + iz 1 = iz ((k + 1 : Nat) : Int) := by rw [iz_add]; rfl
    have ht : iz (kindS ρ s) = iz ((kindS ρ s).toNat : Int) := iz_tn kr.1
    have hh := c_holds (fu := fu) (sh := sh) (I := I) (R := R) (m := (kindS ρ s).toNat) (k := k) (by omega) (by omega)
    rw [← ht] at hh
    unfold flK at hl ⊢
    cases e : (kindS ρ s).toNat.testBit k
    · rw [e, if_neg (by decide), List.nil_append] at hl
      rw [if_neg (by decide), List.nil_append]
      obtain ⟨I', e2, g1, g2⟩ := ih j (k + 1) L I (by omega) (by omega) F H hl
      refine ⟨I', ?_, g1, g2⟩
      rw [← e2]
      show fX10_writeFaultLines_b11 fu sh R (fX10_writeFaultLines_l11 fu sh R j) I _ _ _ _ = _
      simp only [fX10_writeFaultLines_b11, fX10_writeFaultLines_b79, hh, bsome, iz_lit, bz_zero, ek]
      rw [if_neg (by rw [iz_le (by decide) (by decide) (by omega) (by omega)]; omega), e, if_pos rfl]
    · rw [e, if_pos rfl, List.length_append] at hl
      rw [if_pos rfl]
      have tr := tol_r V (show 0 ≤ (s : Int) by omega) hs (show k < 4 by omega) e
      obtain ⟨w1, w2⟩ := wk_ok k
      unfold fltL at hl ⊢
      rw [List.length_append, List.length_append, List.length_append, List.length_append] at hl
      have hl2 : L.length + ((cod 25).length + (numL (s : Int)).length + (cod (wkL k)).length + (numL (tolS ρ s k 2)).length + 1 + (flK ρ s f (k + 1)).length) ≤ 1056 := hl
      obtain ⟨I1, e1, H1, F1⟩ := c_word (fu := fu) S hfu hR (w := 25) (by decide) H (by omega)
      obtain ⟨I2, e2, H2, F2⟩ := c_num (fu := fu) S hR H1 (show 0 ≤ (s : Int) by omega) (by omega) (by rw [List.length_append]; omega)
      obtain ⟨I3, e3, H3, F3⟩ := c_word (fu := fu) S hfu hR w1 H2 (by rw [List.length_append, List.length_append]; omega)
      have FF := ((F.tr F1).tr F2).tr F3
      have B3 := B.fr V FF (fun i k g0 g1 => by unfold PWC; omega)
      have ca := c_cause (fu := fu) B3.1 V hfu (show 0 ≤ (s : Int) by omega) hs (k := (k : Int)) (by omega) (by omega)
      have tv : (if (k : Int) = 3 then blockS ρ s else (s : Int) - 1) = tolS ρ s k 2 := by
        unfold tolS
        rw [if_neg (show ¬ (2 : Int) = 0 by decide), if_neg (show ¬ (2 : Int) = 1 by decide)]
      rw [tv] at ca
      obtain ⟨I4, e4, H4, F4⟩ := c_num (fu := fu) S hR H3 tr.1 tr.2 (by rw [List.length_append, List.length_append, List.length_append]; omega)
      obtain ⟨I5, e5, H5, F5⟩ := c_word (fu := fu) S hfu hR (w := 9) (by decide) H4 (by rw [c9, List.length_append, List.length_append, List.length_append, List.length_append]; show _ + 1 ≤ 1056; omega)
      rw [c9] at H5
      obtain ⟨I', e6, g1, g2⟩ := ih j (k + 1) _ I5 (by omega) (by omega) ((FF.tr F4).tr F5) H5 (by rw [List.length_append, List.length_append, List.length_append, List.length_append, List.length_append]; show _ + 1 + _ ≤ 1056; omega)
      refine ⟨I', ?_, ?_, g2⟩
      · rw [← e6]
        show fX10_writeFaultLines_b11 fu sh R (fX10_writeFaultLines_l11 fu sh R j) I _ _ _ _ = _
        simp only [fX10_writeFaultLines_b11, fX10_writeFaultLines_b79, hh, bsome, iz_lit, bz_zero, ek, oR_at S.pl C.2.2.2, oR_at S.pl C.1.2.1, e1, e2, c_kindW (show k < 4 by omega), e3, ca, e4, e5]
        rw [if_neg (by rw [iz_le (by decide) (by decide) (by omega) (by omega)]; omega), e, if_neg (by decide)]
      · have el : L ++ cod 25 ++ numL (s : Int) ++ cod (wkL k) ++ numL (tolS ρ s k 2) ++ [10] ++ flK ρ s f (k + 1) = L ++ (cod 25 ++ numL (s : Int) ++ cod (wkL k) ++ numL (tolS ρ s k 2) ++ [10] ++ flK ρ s f (k + 1)) := by simp only [List.append_assoc]
        rw [el] at g1
        exact g1
theorem c_fl_loop (S : OKS sh AD) (hfu : 5000 ≤ fu) (C : PLR R AD) (hR : R (AD 26) 0 = some (AD 27)) (V : VB ρ) (B : BA sh I0 R AD 28 p ρ) : ∀ f j s : Nat, ∀ L : List Int, ∀ I : HI, s + f = (ρ 4).toNat → f < j → FR AD I0 I PWC → PLC I AD L → L.length + (flsL ρ f s).length ≤ 1056 →
    ∃ I', fX10_writePlan_l49 fu sh R j I (AD 0) (iz (s : Int)) = some (.inl (iz ((L ++ flsL ρ f s).length : Int)), I') ∧ PLC I' AD (L ++ flsL ρ f s) ∧ FR AD I0 I' PWC := by
  have hn := V.n
  have k26 := S.at (i := 26) (t := 3) (n := 2) rfl (by decide) (by decide)
  intro f
  induction f with
  | zero =>
    intro j s L I hs hj F H hl
    obtain ⟨j, rfl⟩ : ∃ t, j = t + 1 := ⟨j - 1, by omega⟩
    have BI := B.fr V F (fun i k g0 g1 => by unfold PWC; omega)
    have en : L ++ flsL ρ 0 s = L := List.append_nil L
    rw [en]
    refine ⟨I, ?_, H, F⟩
    show fX10_writePlan_b49 fu sh R (fX10_writePlan_l49 fu sh R j) I _ _ = _
    simp only [fX10_writePlan_b49, oR_at S.pl C.1.2.1, oR_at S.pl C.2.2.2, BI.1.2.1.2.2.2.2, bsome, oI_at k26, H.1]
    rw [if_pos (by rw [iz_le (by omega) (by omega) (by omega) (by omega)]; omega)]
  | succ f ih =>
    intro j s L I hs hj F H hl
    obtain ⟨j, rfl⟩ : ∃ t, j = t + 1 := ⟨j - 1, by omega⟩
    have BI := B.fr V F (fun i k g0 g1 => by unfold PWC; omega)
    have ek : iz (s : Int) + iz 1 = iz ((s + 1 : Nat) : Int) := by rw [iz_add]; rfl
    have s1 : (s : Int) < ρ 4 := by omega
    unfold flsL at hl ⊢
    rw [List.length_append] at hl
    obtain ⟨I1, e1, H1, F1⟩ := c_fk_loop (fu := fu) S hfu C hR V B s1 4 fu 0 L I (by decide) (by omega) F H (by omega)
    obtain ⟨I', e2, g1, g2⟩ := ih j (s + 1) _ I1 (by omega) (by omega) F1 H1 (by rw [List.length_append]; omega)
    rw [List.append_assoc] at e2 g1
    refine ⟨I', ?_, g1, g2⟩
    rw [← e2]
    show fX10_writePlan_b49 fu sh R (fX10_writePlan_l49 fu sh R j) I _ _ = _
    have wf : fX10_writeFaultLines fu sh I R (AD 0) (iz (s : Int)) = some I1 := by
      simp only [fX10_writeFaultLines, if_pos (isT_of S.pl), oR_at S.pl C.1.2.1, c_kinds (fu := fu) BI.1 V hfu (show 0 ≤ (s : Int) by omega) s1, bsome, iz_lit]
      exact e1
    simp only [fX10_writePlan_b49, oR_at S.pl C.1.2.1, BI.1.2.1.2.2.2.2, bsome, wf, iz_lit, ek]
    rw [if_neg (by rw [iz_le (by omega) (by omega) (by omega) (by omega)]; omega)]
theorem c_pl_loop (S : OKS sh AD) (hfu : 5000 ≤ fu) (C : PLR R AD) (T : TR R AD) (K : RTS sh R AD 16 12) (hR : R (AD 26) 0 = some (AD 27)) (V : VB ρ) (B : BA sh I0 R AD 28 p ρ) (t : T2 I0 AD ρ (ρ 0) (ρ 4).toNat (ρ 4).toNat) (ko : KO I0 AD ρ) (k47 : HI → Nat → Option ((Int32 ⊕ String) × HI)) : ∀ f j i : Nat, ∀ L : List Int, ∀ I : HI, i + f = mSet ρ → f < j → FR AD I0 I PWC → PLC I AD L → L.length + (linesL ρ f i).length ≤ 1056 →
    ∃ I', fX10_writePlan_l17 fu sh R k47 j I (AD 0) (iz (i : Int)) = k47 I' (AD 0) ∧ PLC I' AD (L ++ linesL ρ f i) ∧ FR AD I0 I' PWC := by
  have hm := mSet_le V
  have P := prG_B V
  intro f
  induction f with
  | zero =>
    intro j i L I hi hj F H hl
    obtain ⟨j, rfl⟩ : ∃ t, j = t + 1 := ⟨j - 1, by omega⟩
    have t0 : I (AD 6) 0 = iz (mSet ρ : Int) := (F 6 (by decide) (by decide) 0 (by unfold PWC; omega)).trans t.1
    have en : L ++ linesL ρ 0 i = L := List.append_nil L
    rw [en]
    refine ⟨I, ?_, H, F⟩
    show fX10_writePlan_b17 fu sh R (fX10_writePlan_l17 fu sh R k47 j) k47 I _ _ = _
    simp only [fX10_writePlan_b17, oR_at S.pl C.1.2.2.2.2.2, oI_at (k6 S), t0, bsome]
    rw [if_pos (by rw [iz_le (by omega) (by omega) (by omega) (by omega)]; omega)]
  | succ f ih =>
    intro j i L I hi hj F H hl
    obtain ⟨j, rfl⟩ : ∃ t, j = t + 1 := ⟨j - 1, by omega⟩
    have ek : iz (i : Int) + iz 1 = iz ((i + 1 : Nat) : Int) := by rw [iz_add]; rfl
    have t0 : I (AD 6) 0 = iz (mSet ρ : Int) := (F 6 (by decide) (by decide) 0 (by unfold PWC; omega)).trans t.1
    have oa := (or_at P hm (show i < mSet ρ by omega)).1
    have x1 : I (AD 20) i = iz (orS (mSet ρ) (prG ρ) i : Int) := (F 20 (by decide) (by decide) i (by unfold PWC; omega)).trans (ko.2 i (by omega))
    unfold linesL at hl ⊢
    rw [List.length_append] at hl
    obtain ⟨I1, e1, H1, F1⟩ := c_line (fu := fu) S hfu C T hR V B t oa F H (by omega)
    obtain ⟨I', e2, g1, g2⟩ := ih j (i + 1) _ I1 (by omega) (by omega) F1 H1 (by rw [List.length_append]; omega)
    rw [List.append_assoc] at g1
    refine ⟨I', ?_, g1, g2⟩
    rw [← e2]
    show fX10_writePlan_b17 fu sh R (fX10_writePlan_l17 fu sh R k47 j) k47 I _ _ = _
    simp only [fX10_writePlan_b17, oR_at S.pl C.1.2.2.2.2.2, oR_at S.pl C.2.1, oI_at (k6 S), t0, bsome, oR_at K.1.1 K.2.1.2.2.2, show AD (16 + 4) = AD 20 from rfl, oA_nat (S.at (i := 20) (t := 20) (n := 12) rfl (by decide) (by decide)) (show i < 12 by omega) (by decide), x1, e1, iz_lit, ek]
    rw [if_neg (by rw [iz_le (by omega) (by omega) (by omega) (by omega)]; omega)]
theorem CIB.pln (C : CIB I R AD P σ) (V : VST σ) (F : FR AD I I' PWC) (H : PLC I' AD L) : CIB I' R AD P (setP σ L) := by
  obtain ⟨c1, ⟨c2, c3⟩, ⟨c4, c5, c6⟩, c7, ⟨c8, c9⟩, c10, nx, c11, c12, c13, c14⟩ := C
  refine ⟨c1, ⟨(F 16 (by decide) (by decide) 0 (by unfold PWC; omega)).trans c2, (F 21 (by decide) (by decide) 0 (by unfold PWC; omega)).trans c3⟩, ⟨(F 0 (by decide) (by decide) 1 (by unfold PWC; omega)).trans c4, (F 0 (by decide) (by decide) 2 (by unfold PWC; omega)).trans c5, (F 0 (by decide) (by decide) 3 (by unfold PWC; omega)).trans c6⟩, c7.fr F (by decide) (by decide) (fun _ => by unfold PWC; omega), H, fun h => ?_, nx, c11, (F 4 (by decide) (by decide) 1 (by unfold PWC; omega)).trans c12, (F 4 (by decide) (by decide) 2 (by unfold PWC; omega)).trans c13, fun t h ht => ?_⟩
  · have q := c1.2.2.2.2.2.2.2 0 (by decide) (by decide)
    exact (c10 h).fr (V.1 h) (by decide) (by decide) (fun s g0 g1 => (q.2.2.2.1 s g0 g1).2) F (fun i k g0 g1 => by unfold PWC; omega)
  · have r := hiB_r nx t
    have q := c1.2.2.2.2.2.2.2 (hiB nx t) (by omega) (by omega)
    exact (c14 t h ht).fr (V.2.2.1 h (List.mem_of_getElem? ht)) (by omega) (by omega) (fun s g0 g1 => (q.2.2.2.1 s g0 g1).2) F (fun i k g0 g1 => by unfold PWC; omega)
theorem ca_writePlan (S : OKS sh AD) (V : VST σ) (hfu : 5000 ≤ fu) : CA AD R P σ (sPlan σ) (fun I => fX10_writePlan fu sh I R (AD 0)) (aPlan σ) := by
  intro I C K
  unfold aPlan sPlan
  by_cases h : σ.1 = true
  · rw [if_pos h, if_pos h]
    have W := V.1 h
    have hn := W.n
    have hm := mSet_le W
    have k26 := S.at (i := 26) (t := 3) (n := 2) rfl (by decide) (by decide)
    have hR : R (AD 26) 0 = some (AD 27) := C.1.2.2.2.2.2.1
    have pl := plan_len W
    obtain ⟨I1, e1, C1, K1, t, ko, F1⟩ := c_know2 (fu := fu) S C K V hfu h
    obtain ⟨I2, hI2⟩ : ∃ J, J = u2 I1 (AD 26) 1 (iz 0) := ⟨_, rfl⟩
    have F2 : FR AD I1 I2 PWC := by rw [hI2]; exact FR.u2 S (by decide) (by decide) (Or.inr ⟨rfl, rfl⟩) (FR.rf AD I1 _)
    have H2 : PLC I2 AD [] := ⟨by rw [hI2, u2_ad S (by decide) (by decide) (by decide) (by decide), if_pos ⟨rfl, rfl⟩]; rfl, fun k hk => absurd hk (Nat.not_lt_zero k)⟩
    have B1 := C1.ba S V h
    have pl2 : (linesL σ.2.1 (mSet σ.2.1) 0).length + (flsL σ.2.1 (σ.2.1 4).toNat 0).length ≤ 1056 := by
      unfold planL at pl
      rw [List.length_append] at pl
      exact pl
    obtain ⟨I3, e3, H3, F3⟩ := c_pl_loop (fu := fu) S hfu C.1.1 C.1.2.1 (rts16 S C.1.2.2.1) hR W B1 t ko (fX10_writePlan_b47 fu sh R) (mSet σ.2.1) fu 0 [] I2 (by omega) (by omega) F2 H2 (by show 0 + _ ≤ _; omega)
    rw [List.nil_append] at H3
    obtain ⟨I4, e4, H4, F4⟩ := c_fl_loop (fu := fu) S hfu C.1.1 hR W B1 (σ.2.1 4).toNat fu 0 _ I3 (by omega) (by omega) F3 H3 pl2
    refine ⟨I4, ?_, C1.pln V F4 H4, K1.fr2 F4 (by unfold PWC; omega) (by unfold PWC; omega) (by unfold PWC; omega) (fun _ _ _ _ => by unfold PWC; omega) (fun _ => by unfold PWC; omega), F1.tr (F4.wd fun i k q => by unfold PWC at q; omega)⟩
    simp only [fX10_writePlan, fX4_erase, if_pos (isT_of S.pl), if_pos (isT_of k26), c_needBoard S C, if_pos h, oT0l, e1, bsome, oR_at S.pl C.1.1.2.2.2, oP_at k26, iz_lit, ← hI2]
    refine e3.trans ?_
    simp only [fX10_writePlan_b47, iz_lit]
    exact e4
  · rw [if_neg h, if_neg h]
    simp only [fX10_writePlan, if_pos (isT_of S.pl), c_needBoard S C, if_neg h, oT0r]
    exact ⟨I, rfl, C, K, FR.rf _ _ _⟩
end Q39
