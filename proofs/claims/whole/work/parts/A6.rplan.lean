/-! STAGE 2: writePlan of the reference -/
section Q40
variable {fu : Nat} {sh : HS} {I I' I0 J : HI} {R : HR} {AD : Int → Nat} {P : Int → Int → Int} {σ : STT} {ρ : RHO} {L : List Int} {p : Int → Int}
theorem r_byte (S : OKS sh AD) (M : MR R AD) (H : PLM I AD L) (hl : L.length + 1 ≤ 1056) (x : Int) : ∃ I', fX11_writeByte fu sh I R (AD 316) (iz x) = some I' ∧ PLM I' AD (L ++ [x]) ∧ FR AD I I' PWM := by
  have k330 := S.at (i := 330) (t := 20) (n := 2400) rfl (by decide) (by decide)
  have el : iz (L.length : Int) + iz 1 = iz ((L.length : Int) + 1) := by rw [iz_add]
  obtain ⟨H2, F2⟩ := H.by S x
  refine ⟨_, ?_, H2, F2⟩
  have r1 : u2 I (AD 330) L.length (iz x) (AD 316) 28 = iz (L.length : Int) := by
    rw [u2_ne S (by decide) (by decide) (by decide) (by decide) (by decide)]; exact H.1
  simp only [fX11_writeByte, if_pos (isT_of S.md), oI_at S.md, H.1, bsome, oR_at S.md M.2.2.2.2.2.2.2, iz_lit, oS_nat k330 (show L.length < 2400 by omega) (by decide), r1, oP_at S.md, el]
theorem r_word_loop (S : OKS sh AD) (M : MR R AD) {w : Nat} (hw : w < 28) : ∀ d j k : Nat, ∀ L : List Int, ∀ I : HI, k + d = (cod w).length → d < j → PLM I AD L → L.length + d ≤ 1056 →
    ∃ I', fX11_write_l2 fu sh R j I (AD 316) w (iz (k : Int)) = some I' ∧ PLM I' AD (L ++ (cod w).drop k) ∧ FR AD I I' PWM := by
  have cw := (cod_ok hw).2.2.2.1
  intro d
  induction d with
  | zero =>
    intro j k L I hk hj H hl
    obtain ⟨j, rfl⟩ : ∃ t, j = t + 1 := ⟨j - 1, by omega⟩
    refine ⟨I, ?_, ?_, FR.rf _ _ _⟩
    · show fX11_write_b2 fu sh R (fX11_write_l2 fu sh R j) I _ _ _ = _
      simp only [fX11_write_b2, length_ok hw, bsome]
      rw [if_pos (by rw [iz_le (by omega) (by omega) (by omega) (by omega)]; omega)]
    · rw [List.drop_eq_nil_of_le (by omega), List.append_nil]
      exact H
  | succ d ih =>
    intro j k L I hk hj H hl
    obtain ⟨j, rfl⟩ : ∃ t, j = t + 1 := ⟨j - 1, by omega⟩
    have ek : iz (k : Int) + iz 1 = iz ((k + 1 : Nat) : Int) := by rw [iz_add]; rfl
    obtain ⟨I1, e1, H1, F1⟩ := r_byte (fu := fu) S M H (by omega) ((cod w).getD k 0)
    obtain ⟨I', e, g1, g2⟩ := ih j (k + 1) _ _ (by omega) (by omega) H1 (by rw [List.length_append]; show L.length + 1 + d ≤ 1056; omega)
    refine ⟨I', ?_, ?_, F1.tr g2⟩
    · rw [← e]
      show fX11_write_b2 fu sh R (fX11_write_l2 fu sh R j) I _ _ _ = _
      simp only [fX11_write_b2, length_ok hw, bsome, charAt_ok hw (show k < (cod w).length by omega), e1, iz_lit, ek]
      rw [if_neg (by rw [iz_le (by omega) (by omega) (by omega) (by omega)]; omega)]
    · rw [drop_cons (show k < (cod w).length by omega)]
      exact g1
theorem r_word (S : OKS sh AD) (hfu : 5000 ≤ fu) (M : MR R AD) {w : Nat} (hw : w < 28) (H : PLM I AD L) (hl : L.length + (cod w).length ≤ 1056) : ∃ I', fX11_write fu sh I R (AD 316) w = some I' ∧ PLM I' AD (L ++ cod w) ∧ FR AD I I' PWM := by
  have cw := (cod_ok hw).2.2.2.1
  obtain ⟨I', e, g⟩ := r_word_loop (fu := fu) S M hw (cod w).length fu 0 L I (by omega) (by omega) H hl
  refine ⟨I', ?_, g⟩
  simp only [fX11_write, if_pos (isT_of S.md), iz_lit]
  exact e
theorem r_num (S : OKS sh AD) (M : MR R AD) (H : PLM I AD L) {v : Int} (v0 : 0 ≤ v) (v1 : v ≤ 99) (hl : L.length + ((numL v).length + 1) ≤ 1056) : ∃ I', fX11_writeNumber fu sh I R (AD 316) (iz v) = some I' ∧ PLM I' AD (L ++ (32 :: numL v)) ∧ FR AD I I' PWM := by
  have em := oM_iz (a := v) (b := 10) v0 (by omega) (by decide) (by decide)
  have ed := oD_iz (a := v) (b := 10) v0 (by omega) (by decide) (by decide)
  obtain ⟨I0, e0, H0, F0⟩ := r_byte (fu := fu) S M H (by omega) 32
  simp only [fX11_writeNumber, fX11_writeNumber_b23, if_pos (isT_of S.md), iz_lit, em, ed, bsome, e0, iz_add 48]
  unfold numL at hl ⊢
  by_cases z : v < 10
  · rw [if_pos z] at hl
    have hl2 : L.length + (1 + 1) ≤ 1056 := hl
    obtain ⟨I1, e1, H1, F1⟩ := r_byte (fu := fu) S M H0 (by rw [List.length_append]; show L.length + 1 + 1 ≤ 1056; omega) (48 + v % 10)
    rw [if_pos (by rw [iz_le (by omega) (by omega) (by decide) (by decide)]; omega), e1, bsome, if_pos z]
    rw [show v % 10 = v by omega, List.append_assoc] at H1
    exact ⟨I1, rfl, H1, F0.tr F1⟩
  · rw [if_neg z] at hl
    have hl2 : L.length + (2 + 1) ≤ 1056 := hl
    obtain ⟨I1, e1, H1, F1⟩ := r_byte (fu := fu) S M H0 (by rw [List.length_append]; show L.length + 1 + 1 ≤ 1056; omega) (48 + v / 10)
    obtain ⟨I2, e2, H2, F2⟩ := r_byte (fu := fu) S M H1 (by rw [List.length_append, List.length_append]; show L.length + 1 + 1 + 1 ≤ 1056; omega) (48 + v % 10)
    rw [if_neg (by rw [iz_le (by omega) (by omega) (by decide) (by decide)]; omega), e1, bsome, e2, bsome, if_neg z]
    rw [List.append_assoc, List.append_assoc] at H2
    exact ⟨I2, rfl, H2, (F0.tr F1).tr F2⟩
theorem r_sl_loop (S : OKS sh AD) (hfu : 5000 ≤ fu) (M : MR R AD) (V : VB ρ) (W : RW I0 AD ρ) {q i : Nat} (hi : i < 12) (hq : q < 12) {m : Nat} (hm : m < 4096) (h9 : I0 (AD 326) q = iz (m : Int)) (h8 : I0 (AD 329) i = iz (q : Int)) (k87 : HI → Nat → Int32 → Option (Int32 × HI)) : ∀ f j s : Nat, ∀ L : List Int, ∀ I : HI, s + f = (ρ 4).toNat → f < j → FR AD I0 I PWM → PLM I AD L → L.length + (shL m f s).length ≤ 1056 →
    ∃ I', fX11_writePlan_l48 fu sh R k87 j I (AD 316) (iz (i : Int)) (iz (s : Int)) = k87 I' (AD 316) (iz (i : Int)) ∧ PLM I' AD (L ++ shL m f s) ∧ FR AD I0 I' PWM := by
  have hn := V.n
  intro f
  induction f with
  | zero =>
    intro j s L I hs hj F H hl
    obtain ⟨j, rfl⟩ : ∃ t, j = t + 1 := ⟨j - 1, by omega⟩
    have WI := W.fr F (fun _ => by unfold PWM; omega)
    have en : L ++ shL m 0 s = L := List.append_nil L
    rw [en]
    refine ⟨I, ?_, H, F⟩
    show fX11_writePlan_b48 fu sh R (fX11_writePlan_l48 fu sh R k87 j) k87 I _ _ _ = _
    simp only [fX11_writePlan_b48, oR_at S.md M.1.1, bsome, iz_lit, r_row S M WI (by decide : (0 : Int) ≤ 4) (by decide : (4 : Int) < 119)]
    rw [if_pos (by rw [iz_le (by omega) (by omega) (by omega) (by omega)]; omega)]
  | succ f ih =>
    intro j s L I hs hj F H hl
    obtain ⟨j, rfl⟩ : ∃ t, j = t + 1 := ⟨j - 1, by omega⟩
    have WI := W.fr F (fun _ => by unfold PWM; omega)
    have ek : iz (s : Int) + iz 1 = iz ((s + 1 : Nat) : Int) := by rw [iz_add]; rfl
    have x9 : I (AD 326) q = iz (m : Int) := (F 326 (by decide) (by decide) q (by unfold PWM; omega)).trans h9
    have x8 : I (AD 329) i = iz (q : Int) := (F 329 (by decide) (by decide) i (by unfold PWM; omega)).trans h8
    have hd : fX11_writePlan_l48 fu sh R k87 (j + 1) I (AD 316) (iz (i : Int)) (iz (s : Int)) = if bz (m.testBit s) = iz 0 then fX11_writePlan_l48 fu sh R k87 j I (AD 316) (iz (i : Int)) (iz ((s + 1 : Nat) : Int)) else ((fX11_writeNumber fu sh I R (AD 316) (iz (s : Int))).bind fun w16 => fX11_writePlan_l48 fu sh R k87 j w16 (AD 316) (iz (i : Int)) (iz ((s + 1 : Nat) : Int))) := by
      show fX11_writePlan_b48 fu sh R (fX11_writePlan_l48 fu sh R k87 j) k87 I _ _ _ = _
      simp only [fX11_writePlan_b48, fX11_writePlan_b81, oR_at S.md M.1.1, bsome, iz_lit, r_row S M WI (by decide : (0 : Int) ≤ 4) (by decide : (4 : Int) < 119), oR_at S.md M.2.2.2.1, oR_at S.md M.2.2.2.2.2.2.1, oA_nat (S.at (i := 329) (t := 20) (n := 12) rfl (by decide) (by decide)) hi (by decide), x8, oA_nat (S.at (i := 326) (t := 20) (n := 12) rfl (by decide) (by decide)) hq (by decide), x9, r_has (show m < 2147483648 by omega) (show s < 32 by omega), ek]
      rw [if_neg (by rw [iz_le (by omega) (by omega) (by omega) (by omega)]; omega)]
    simp only [bz_zero] at hd
    unfold shL at hl ⊢
    cases e : m.testBit s
    · rw [e, if_neg (by decide), List.nil_append] at hl
      rw [if_neg (by decide), List.nil_append]
      obtain ⟨I', e2, g1, g2⟩ := ih j (s + 1) L I (by omega) (by omega) F H hl
      rw [e, if_pos rfl] at hd
      exact ⟨I', hd.trans e2, g1, g2⟩
    · rw [e, if_pos rfl, List.length_append, List.length_cons] at hl
      rw [if_pos rfl]
      obtain ⟨I2, e2, H2, F2⟩ := r_num (fu := fu) S M H (show 0 ≤ (s : Int) by omega) (by omega) (by omega)
      obtain ⟨I', e3, g1, g2⟩ := ih j (s + 1) _ I2 (by omega) (by omega) (F.tr F2) H2 (by rw [List.length_append, List.length_cons]; omega)
      rw [e, if_neg (by decide), e2, bsome] at hd
      refine ⟨I', hd.trans e3, ?_, g2⟩
      rw [List.append_assoc] at g1
      exact g1
theorem r_pl_loop (S : OKS sh AD) (hfu : 5000 ≤ fu) (M : MR R AD) (V : VB ρ) (W : RW I0 AD ρ) (G : SG I0 AD ρ (ρ 0) (ρ 4).toNat) (kb : KB I0 AD ρ) (k99 : HI → Nat → Option (Int32 × HI)) : ∀ f j i : Nat, ∀ L : List Int, ∀ I : HI, i + f = mSet ρ → f < j → FR AD I0 I PWM → PLM I AD L → L.length + (linesL ρ f i).length ≤ 1056 →
    ∃ I', fX11_writePlan_l21 fu sh R k99 j I (AD 316) (iz (i : Int)) = k99 I' (AD 316) ∧ PLM I' AD (L ++ linesL ρ f i) ∧ FR AD I0 I' PWM := by
  have hm := mSet_le V
  have hn := V.n
  have P := prG_B V
  have c22 : cod 22 ++ [32] = cod 23 := by decide +kernel
  intro f
  induction f with
  | zero =>
    intro j i L I hi hj F H hl
    obtain ⟨j, rfl⟩ : ∃ t, j = t + 1 := ⟨j - 1, by omega⟩
    have t0 : I (AD 316) 22 = iz (mSet ρ : Int) := (F 316 (by decide) (by decide) 22 (by unfold PWM; omega)).trans G.1
    have en : L ++ linesL ρ 0 i = L := List.append_nil L
    rw [en]
    refine ⟨I, ?_, H, F⟩
    show fX11_writePlan_b21 fu sh R (fX11_writePlan_l21 fu sh R k99 j) k99 I _ _ = _
    simp only [fX11_writePlan_b21, oI_at S.md, t0, bsome]
    rw [if_pos (by rw [iz_le (by omega) (by omega) (by omega) (by omega)]; omega)]
  | succ f ih =>
    intro j i L I hi hj F H hl
    obtain ⟨j, rfl⟩ : ∃ t, j = t + 1 := ⟨j - 1, by omega⟩
    have ek : iz (i : Int) + iz 1 = iz ((i + 1 : Nat) : Int) := by rw [iz_add]; rfl
    have t0 : I (AD 316) 22 = iz (mSet ρ : Int) := (F 316 (by decide) (by decide) 22 (by unfold PWM; omega)).trans G.1
    have oa := (or_at P hm (show i < mSet ρ by omega)).1
    have ql := qh_lt ρ (ρ 0) (ρ 4).toNat (orS (mSet ρ) (prG ρ) i) (ρ 4).toNat (by omega)
    have x0 : I0 (AD 329) i = iz (orS (mSet ρ) (prG ρ) i : Int) := kb.2 i (by omega)
    have x2 : I0 (AD 326) (orS (mSet ρ) (prG ρ) i) = iz (qhG ρ (ρ 0) (ρ 4).toNat (orS (mSet ρ) (prG ρ) i) (ρ 4).toNat : Int) := G.2.2.1 _ oa
    unfold linesL at hl ⊢
    rw [List.length_append] at hl
    unfold lineL at hl ⊢
    rw [List.length_append, List.length_append, List.length_append] at hl
    have hl2 : L.length + ((cod 23).length + (numL (orS (mSet ρ) (prG ρ) i : Int)).length + (shL (qhG ρ (ρ 0) (ρ 4).toNat (orS (mSet ρ) (prG ρ) i) (ρ 4).toNat) (ρ 4).toNat 0).length + 1 + (linesL ρ f (i + 1)).length) ≤ 1056 := hl
    have c22l : (cod 23).length = (cod 22).length + 1 := by rw [← c22, List.length_append]; rfl
    obtain ⟨I1, e1, H1, F1⟩ := r_word (fu := fu) S hfu M (w := 22) (by decide) H (by omega)
    have x1 : I1 (AD 329) i = iz (orS (mSet ρ) (prG ρ) i : Int) := ((F.tr F1) 329 (by decide) (by decide) i (by unfold PWM; omega)).trans x0
    obtain ⟨I2, e2, H2, F2⟩ := r_num (fu := fu) S M H1 (show 0 ≤ (orS (mSet ρ) (prG ρ) i : Int) by omega) (by omega) (by rw [List.length_append]; omega)
    obtain ⟨I3, e3, H3, F3⟩ := r_sl_loop (fu := fu) S hfu M V W (show i < 12 by omega) (show orS (mSet ρ) (prG ρ) i < 12 by omega) ql x2 x0 (fX11_writePlan_b87 fu sh R (fX11_writePlan_l21 fu sh R k99 j) k99) (ρ 4).toNat fu 0 _ I2 (by omega) (by omega) ((F.tr F1).tr F2) H2 (by rw [List.length_append, List.length_append, List.length_cons]; omega)
    obtain ⟨I4, e4, H4, F4⟩ := r_byte (fu := fu) S M H3 (by rw [List.length_append, List.length_append, List.length_append, List.length_cons]; omega) 10
    have el : L ++ cod 22 ++ (32 :: numL (orS (mSet ρ) (prG ρ) i : Int)) ++ shL (qhG ρ (ρ 0) (ρ 4).toNat (orS (mSet ρ) (prG ρ) i) (ρ 4).toNat) (ρ 4).toNat 0 ++ [10] = L ++ (cod 23 ++ numL (orS (mSet ρ) (prG ρ) i : Int) ++ shL (qhG ρ (ρ 0) (ρ 4).toNat (orS (mSet ρ) (prG ρ) i) (ρ 4).toNat) (ρ 4).toNat 0 ++ [10]) := by
      rw [← c22]
      simp only [List.append_assoc, List.cons_append, List.nil_append]
    rw [el] at H4
    obtain ⟨I', e5, g1, g2⟩ := ih j (i + 1) _ I4 (by omega) (by omega) (F3.tr F4) H4 (by rw [List.length_append, List.length_append, List.length_append, List.length_append]; show L.length + ((cod 23).length + _ + _ + 1) + _ ≤ 1056; omega)
    rw [List.append_assoc] at g1
    refine ⟨I', ?_, g1, g2⟩
    rw [← e5]
    show fX11_writePlan_b21 fu sh R (fX11_writePlan_l21 fu sh R k99 j) k99 I _ _ = _
    simp only [fX11_writePlan_b21, oI_at S.md, t0, bsome, e1, oR_at S.md M.2.2.2.2.2.2.1, oA_nat (S.at (i := 329) (t := 20) (n := 12) rfl (by decide) (by decide)) (show i < 12 by omega) (by decide), x1, e2, iz_lit]
    rw [if_neg (by rw [iz_le (by omega) (by omega) (by omega) (by omega)]; omega)]
    refine e3.trans ?_
    simp only [fX11_writePlan_b87, iz_lit, e4, bsome, ek]
theorem r_nameOf {k : Nat} (hk : k < 4) : fX11_nameOf fu sh I R (iz (k : Int)) = some (if k = 0 then 1 else if k = 1 then 5 else if k = 2 then 7 else 3) := by
  have q : k = 0 ∨ k = 1 ∨ k = 2 ∨ k = 3 := by omega
  simp only [fX11_nameOf, fX11_nameOf_b35, iz_lit]
  rcases q with rfl | rfl | rfl | rfl
  · rw [if_pos (show iz ((0 : Nat) : Int) = iz 0 from rfl)]; rfl
  · rw [if_neg (by rw [iz_eq (by decide) (by decide) (by decide) (by decide)]; decide), if_pos (show iz ((1 : Nat) : Int) = iz 1 from rfl)]; rfl
  · rw [if_neg (by rw [iz_eq (by decide) (by decide) (by decide) (by decide)]; decide), if_neg (by rw [iz_eq (by decide) (by decide) (by decide) (by decide)]; decide), if_pos (show iz ((2 : Nat) : Int) = iz 2 from rfl)]; rfl
  · rw [if_neg (by rw [iz_eq (by decide) (by decide) (by decide) (by decide)]; decide), if_neg (by rw [iz_eq (by decide) (by decide) (by decide) (by decide)]; decide), if_neg (by rw [iz_eq (by decide) (by decide) (by decide) (by decide)]; decide)]; rfl
theorem nm_ok (k : Nat) : (if k = 0 then 1 else if k = 1 then 5 else if k = 2 then 7 else 3) < 28 ∧ cod (if k = 0 then 1 else if k = 1 then 5 else if k = 2 then 7 else 3) ++ [32] = cod (wkL k) := by
  unfold wkL
  by_cases h0 : k = 0
  · rw [if_pos h0, if_pos h0]; decide +kernel
  · rw [if_neg h0, if_neg h0]
    by_cases h1 : k = 1
    · rw [if_pos h1, if_pos h1]; decide +kernel
    · rw [if_neg h1, if_neg h1]
      by_cases h2 : k = 2
      · rw [if_pos h2, if_pos h2]; decide +kernel
      · rw [if_neg h2, if_neg h2]; decide +kernel
theorem r_fk_loop (S : OKS sh AD) (hfu : 5000 ≤ fu) (M : MR R AD) (V : VB ρ) (W : RW I0 AD ρ) {s : Nat} (hs : (s : Int) < ρ 4) (k172 : HI → Nat → Int32 → Option (Int32 × HI)) : ∀ f j k : Nat, ∀ L : List Int, ∀ I : HI, k + f = 4 → f < j → FR AD I0 I PWM → PLM I AD L → L.length + (flK ρ s f k).length ≤ 1056 →
    ∃ I', fX11_writePlan_l113 fu sh R k172 j I (AD 316) (iz (s : Int)) (iz (k : Int)) = k172 I' (AD 316) (iz (s : Int)) ∧ PLM I' AD (L ++ flK ρ s f k) ∧ FR AD I0 I' PWM := by
  have hn := V.n
  have c24 : cod 24 ++ [32] = cod 25 := by decide +kernel
  have kr := kind_range ρ s
  intro f
  induction f with
  | zero =>
    intro j k L I hk hj F H hl
    obtain ⟨j, rfl⟩ : ∃ t, j = t + 1 := ⟨j - 1, by omega⟩
    refine ⟨I, ?_, ?_, F⟩
    · show fX11_writePlan_b113 fu sh R (fX11_writePlan_l113 fu sh R k172 j) k172 I _ _ _ = _
      simp only [fX11_writePlan_b113, iz_lit]
      rw [if_pos (by rw [iz_le (by decide) (by decide) (by omega) (by omega)]; omega)]
    · show PLM I AD (L ++ [])
      rw [List.append_nil]
      exact H
  | succ f ih =>
    intro j k L I hk hj F H hl
    obtain ⟨j, rfl⟩ : ∃ t, j = t + 1 := ⟨j - 1, by omega⟩
    have WI := W.fr F (fun _ => by unfold PWM; omega)
    have ek : iz (k : Int) + iz 1 = iz ((k + 1 : Nat) : Int) := by rw [iz_add]; rfl
    have ht : iz (kindS ρ s) = iz ((kindS ρ s).toNat : Int) := iz_tn kr.1
    have hh := r_has (fu := fu) (sh := sh) (I := I) (R := R) (m := (kindS ρ s).toNat) (k := k) (by omega) (by omega)
    rw [← ht] at hh
    have kd := r_kinds (fu := fu) S M WI V hfu (show 0 ≤ (s : Int) by omega) hs
    unfold flK at hl ⊢
    cases e : (kindS ρ s).toNat.testBit k
    · rw [e, if_neg (by decide), List.nil_append] at hl
      rw [if_neg (by decide), List.nil_append]
      obtain ⟨I', e2, g1, g2⟩ := ih j (k + 1) L I (by omega) (by omega) F H hl
      refine ⟨I', ?_, g1, g2⟩
      rw [← e2]
      show fX11_writePlan_b113 fu sh R (fX11_writePlan_l113 fu sh R k172 j) k172 I _ _ _ = _
      simp only [fX11_writePlan_b113, fX11_writePlan_b166, kd, hh, bsome, iz_lit, bz_zero, ek]
      rw [if_neg (by rw [iz_le (by decide) (by decide) (by omega) (by omega)]; omega), e, if_pos rfl]
    · rw [e, if_pos rfl, List.length_append] at hl
      rw [if_pos rfl]
      have tr := tol_r V (show 0 ≤ (s : Int) by omega) hs (show k < 4 by omega) e
      obtain ⟨w1, w2⟩ := nm_ok k
      unfold fltL at hl ⊢
      rw [← w2, ← c24] at hl ⊢
      simp only [List.length_append, List.length_cons, List.length_nil] at hl
      obtain ⟨I1, e1, H1, F1⟩ := r_word (fu := fu) S hfu M (w := 24) (by decide) H (by omega)
      obtain ⟨I2, e2, H2, F2⟩ := r_num (fu := fu) S M H1 (show 0 ≤ (s : Int) by omega) (by omega) (by rw [List.length_append]; omega)
      obtain ⟨I3, e3, H3, F3⟩ := r_word (fu := fu) S hfu M w1 H2 (by simp only [List.length_append, List.length_cons]; omega)
      have FF := ((F.tr F1).tr F2).tr F3
      have W3 := W.fr FF (fun _ => by unfold PWM; omega)
      have td := r_told (fu := fu) (b := 2) S M W3 V hfu (show 0 ≤ (s : Int) by omega) hs (show k < 4 by omega) (by decide) (by decide)
      obtain ⟨I4, e4, H4, F4⟩ := r_num (fu := fu) S M H3 tr.1 tr.2 (by simp only [List.length_append, List.length_cons]; omega)
      obtain ⟨I5, e5, H5, F5⟩ := r_byte (fu := fu) S M H4 (by simp only [List.length_append, List.length_cons]; omega) 10
      obtain ⟨I', e6, g1, g2⟩ := ih j (k + 1) _ I5 (by omega) (by omega) ((FF.tr F4).tr F5) H5 (by simp only [List.length_append, List.length_cons, List.length_nil]; omega)
      refine ⟨I', ?_, ?_, g2⟩
      · rw [← e6]
        show fX11_writePlan_b113 fu sh R (fX11_writePlan_l113 fu sh R k172 j) k172 I _ _ _ = _
        simp only [fX11_writePlan_b113, fX11_writePlan_b166, kd, hh, bsome, iz_lit, bz_zero, ek, e1, e2, r_nameOf (show k < 4 by omega), e3, td, e4, e5]
        rw [if_neg (by rw [iz_le (by decide) (by decide) (by omega) (by omega)]; omega), e, if_neg (by decide)]
      · simp only [List.append_assoc, List.cons_append, List.nil_append] at g1 ⊢
        exact g1
theorem r_fl_loop (S : OKS sh AD) (hfu : 5000 ≤ fu) (M : MR R AD) (V : VB ρ) (W : RW I0 AD ρ) : ∀ f j s : Nat, ∀ L : List Int, ∀ I : HI, s + f = (ρ 4).toNat → f < j → FR AD I0 I PWM → PLM I AD L → L.length + (flsL ρ f s).length ≤ 1056 →
    ∃ I', fX11_writePlan_l101 fu sh R j I (AD 316) (iz (s : Int)) = some (iz ((L ++ flsL ρ f s).length : Int), I') ∧ PLM I' AD (L ++ flsL ρ f s) ∧ FR AD I0 I' PWM := by
  have hn := V.n
  intro f
  induction f with
  | zero =>
    intro j s L I hs hj F H hl
    obtain ⟨j, rfl⟩ : ∃ t, j = t + 1 := ⟨j - 1, by omega⟩
    have WI := W.fr F (fun _ => by unfold PWM; omega)
    have en : L ++ flsL ρ 0 s = L := List.append_nil L
    rw [en]
    refine ⟨I, ?_, H, F⟩
    show fX11_writePlan_b101 fu sh R (fX11_writePlan_l101 fu sh R j) I _ _ = _
    simp only [fX11_writePlan_b101, oR_at S.md M.1.1, bsome, iz_lit, r_row S M WI (by decide : (0 : Int) ≤ 4) (by decide : (4 : Int) < 119), oI_at S.md, H.1]
    rw [if_pos (by rw [iz_le (by omega) (by omega) (by omega) (by omega)]; omega)]
  | succ f ih =>
    intro j s L I hs hj F H hl
    obtain ⟨j, rfl⟩ : ∃ t, j = t + 1 := ⟨j - 1, by omega⟩
    have WI := W.fr F (fun _ => by unfold PWM; omega)
    have ek : iz (s : Int) + iz 1 = iz ((s + 1 : Nat) : Int) := by rw [iz_add]; rfl
    unfold flsL at hl ⊢
    rw [List.length_append] at hl
    obtain ⟨I1, e1, H1, F1⟩ := r_fk_loop (fu := fu) S hfu M V W (show (s : Int) < ρ 4 by omega) (fX11_writePlan_b172 fu sh R (fX11_writePlan_l101 fu sh R j)) 4 fu 0 L I (by decide) (by omega) F H (by omega)
    obtain ⟨I', e2, g1, g2⟩ := ih j (s + 1) _ I1 (by omega) (by omega) F1 H1 (by rw [List.length_append]; omega)
    rw [List.append_assoc] at e2 g1
    refine ⟨I', ?_, g1, g2⟩
    rw [← e2]
    show fX11_writePlan_b101 fu sh R (fX11_writePlan_l101 fu sh R j) I _ _ = _
    simp only [fX11_writePlan_b101, oR_at S.md M.1.1, bsome, iz_lit, r_row S M WI (by decide : (0 : Int) ≤ 4) (by decide : (4 : Int) < 119)]
    rw [if_neg (by rw [iz_le (by omega) (by omega) (by omega) (by omega)]; omega)]
    refine e1.trans ?_
    simp only [fX11_writePlan_b172, iz_lit, ek]
theorem RIB.pln (H : RIB I R AD σ) (F : FR AD I I' (fun i k => PWM i k ∨ RSC i k)) (G : PLM I' AD L) : RIB I' R AD (setP σ L) := by
  obtain ⟨c1, c2, ⟨c3, c4, c5, c6, c7⟩, c8, c9, c10⟩ := H
  exact ⟨c1, c2.fr F (fun _ => by unfold PWM RSC; omega), ⟨(F 316 (by decide) (by decide) 3 (by unfold PWM RSC; omega)).trans c3, (F 316 (by decide) (by decide) 4 (by unfold PWM RSC; omega)).trans c4, (F 316 (by decide) (by decide) 7 (by unfold PWM RSC; omega)).trans c5, (F 316 (by decide) (by decide) 15 (by unfold PWM RSC; omega)).trans c6, G.1⟩, c8.fr F (by decide) (by decide) (fun _ => by unfold PWM RSC; omega), G.2, fun t h ht j hj => (F 319 (by decide) (by decide) _ (by unfold PWM RSC; omega)).trans (c10 t h ht j hj)⟩
theorem ra_writePlan (S : OKS sh AD) (V : VST σ) (hfu : 5000 ≤ fu) : RA AD R σ (sPlan σ) (fun I => fX11_writePlan fu sh I R (AD 316)) (aPlan σ) := by
  have e22 : ∀ I, RIB I R AD σ → fX11_writePlan fu sh I R (AD 316) = oH (fX11_isWrong fu sh I R (AD 316) (bz true)) fun v2 w1 => if v2 = 0 then ((oP sh w1 (AD 316) 9 28 0).bind fun v2 => (fX11_layBest fu sh v2 R (AD 316)).bind fun w3 => (fX11_writePlan_l21 fu sh R (fX11_writePlan_b99 fu sh R) fu) w3 (AD 316) 0) else some (0, w1) := by
    intro I H
    simp only [fX11_writePlan, if_pos (isT_of S.md)]
    rfl
  refine RA.of (fu := fu) S e22 (fun h => ?_) (fun h hg => absurd hg (by decide)) (fun h hg J HJ e5 => ?_)
  · have : ¬ σ.1 = true := by rw [h]; decide
    unfold aPlan sPlan
    rw [if_neg this, if_neg this]
    exact ⟨rfl, rfl⟩
  · unfold aPlan sPlan
    rw [if_pos h, if_pos h]
    have W := V.1 h
    have hn := W.n
    have hm := mSet_le W
    have pl := plan_len W
    have pl2 : (linesL σ.2.1 (mSet σ.2.1) 0).length + (flsL σ.2.1 (σ.2.1 4).toNat 0).length ≤ 1056 := by
      unfold planL at pl
      rw [List.length_append] at pl
      exact pl
    obtain ⟨J2, hJ2⟩ : ∃ K, K = u2 J (AD 316) 28 (iz 0) := ⟨_, rfl⟩
    have F2 : FR AD J J2 PWM := by rw [hJ2]; exact FR.u2 S (by decide) (by decide) (Or.inr ⟨rfl, rfl⟩) (FR.rf AD J _)
    have q28 : J2 (AD 316) 28 = iz 0 := by rw [hJ2, u2_ad S (by decide) (by decide) (by decide) (by decide), if_pos ⟨rfl, rfl⟩]
    have H2 : RIB J2 R AD (setP σ []) := HJ.pln (F2.wd fun i k z => Or.inl z) ⟨q28, fun k hk => absurd hk (Nat.not_lt_zero k)⟩
    have V2 : VST (setP σ []) := ⟨V.1, V.2.1, V.2.2.1, V.2.2.2.1, V.2.2.2.2.1, V.2.2.2.2.2.1, V.2.2.2.2.2.2.1, Nat.zero_le _⟩
    obtain ⟨J3, e3, G, kb, H3, q5, F3⟩ := r_know2 (fu := fu) S H2 V2 hfu h
    have PL3 : PLM J3 AD [] := ⟨H3.2.2.1.2.2.2.2, fun k hk => absurd hk (Nat.not_lt_zero k)⟩
    obtain ⟨J4, e4, H4, F4⟩ := r_pl_loop (fu := fu) S hfu HJ.1 W H3.2.1 G kb (fX11_writePlan_b99 fu sh R) (mSet σ.2.1) fu 0 [] J3 (by omega) (by omega) (FR.rf _ _ _) PL3 (by show 0 + _ ≤ _; omega)
    rw [List.nil_append] at H4
    obtain ⟨J5, e6, H5, F5⟩ := r_fl_loop (fu := fu) S hfu HJ.1 W H3.2.1 (σ.2.1 4).toNat fu 0 _ J4 (by omega) (by omega) F4 H4 pl2
    refine ⟨J5, ?_, ?_, (show RIB J5 R AD (setP σ (planL σ.2.1)) from RIB.pln (σ := setP σ []) (L := planL σ.2.1) H3 (F5.wd fun i k z => Or.inl z) H5), ((F2.wd fun i k q => by unfold PWM at q; omega).tr F3).tr (F5.wd fun i k q => by unfold PWM at q; omega)⟩
    · simp only [iz_lit, oP_at S.md, bsome, ← hJ2, e3]
      refine e4.trans ?_
      simp only [fX11_writePlan_b99, iz_lit]
      exact e6
    · rw [F5 316 (by decide) (by decide) 5 (by unfold PWM; omega), q5, F2 316 (by decide) (by decide) 5 (by unfold PWM; omega), e5]
      rfl
end Q40
