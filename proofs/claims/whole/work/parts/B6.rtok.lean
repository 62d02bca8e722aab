/-! STAGE 2: the words of a text, the reference -/
def bAt (f : Nat → Int) (n i : Nat) : Int := if i < n then f i else -1
def TXM (I : HI) (AD : Int → Nat) (f : Nat → Int) (n : Nat) : Prop := n ≤ 800 ∧ AR I AD 320 n f ∧ (∀ k, k < n → 0 ≤ f k ∧ f k ≤ 255) ∧ I (AD 316) 8 = iz (n : Int)
def RDM (i : Int) (k : Nat) : Prop := i = 316 ∧ 9 ≤ k ∧ k ≤ 14
def RST (I : HI) (AD : Int → Nat) (f : Nat → Int) (n : Nat) (p : PS) : Prop := TXM I AD f n ∧ WfP f n p ∧ I (AD 316) 9 = iz (p.en : Int) ∧ I (AD 316) 10 = iz (p.st : Int) ∧ I (AD 316) 11 = iz (p.tk : Int) ∧ (p.tk = 3 → I (AD 316) 12 = iz (nmP f p)) ∧ I (AD 316) 13 = iz (p.er : Int) ∧ p.er ≤ 4 ∧ I (AD 316) 14 = iz (if p.er = 0 then -1 else (p.st : Int))
section Q53
variable {fu : Nat} {sh : HS} {I I' : HI} {R : HR} {AD : Int → Nat} {f : Nat → Int} {n : Nat} {p : PS}
theorem TXM.fr {W : Int → Nat → Prop} (H : TXM I AD f n) (F : FR AD I I' W) (h : ∀ k, ¬ W 320 k) (h2 : ¬ W 316 8) : TXM I' AD f n := ⟨H.1, H.2.1.fr F (by decide) (by decide) h, H.2.2.1, (F 316 (by decide) (by decide) 8 h2).trans H.2.2.2⟩
theorem bAt_r (H : TXM I AD f n) (i : Nat) : -1 ≤ bAt f n i ∧ bAt f n i ≤ 255 := by
  unfold bAt
  split
  · rename_i z
    have := H.2.2.1 i z
    omega
  · omega
theorem r_byteAt (S : OKS sh AD) (M : MR R AD) (H : TXM I AD f n) {i : Nat} (hi : i ≤ 100000) : fX11_byteAt fu sh I R (AD 316) (iz (i : Int)) = some (iz (bAt f n i)) := by
  have h8 := H.1
  simp only [fX11_byteAt, fX11_byteAt_b18, if_pos (isT_of S.md), oI_at S.md, H.2.2.2, bsome, oR_at S.md M.1.2.2.2.1, iz_lit, iz_neg]
  unfold bAt
  by_cases z : i < n
  · rw [if_neg (by rw [iz_le (by omega) (by omega) (by omega) (by omega)]; omega), if_pos z, oA_nat (S.at (i := 320) (t := 20) (n := 800) rfl (by decide) (by decide)) (by omega) (by decide), H.2.1 i z]
    rfl
  · rw [if_pos (by rw [iz_le (by omega) (by omega) (by omega) (by omega)]; omega), if_neg z]
theorem r_isLetterAt (S : OKS sh AD) (M : MR R AD) (H : TXM I AD f n) {i : Nat} (hi : i ≤ 100000) : fX11_isLetterAt fu sh I R (AD 316) (iz (i : Int)) = some (bz (isLc (bAt f n i))) := by
  have r := bAt_r H i
  have e := r_isInC (fu := fu) (sh := sh) (I := I) (R := R) (a := bAt f n i) ⟨by omega, by omega⟩ (n := 97) (m := 122) (by decide) (by decide) (by decide) (by decide)
  simp only [fX11_isLetterAt, if_pos (isT_of S.md), r_byteAt S M H hi, bsome, jlit]
  rw [e, bsome, oZ_bz, bsome]
  rfl
theorem r_isDigitAt (S : OKS sh AD) (M : MR R AD) (H : TXM I AD f n) {i : Nat} (hi : i ≤ 100000) : fX11_isDigitAt fu sh I R (AD 316) (iz (i : Int)) = some (bz (isDc (bAt f n i))) := by
  have r := bAt_r H i
  have e := r_isInC (fu := fu) (sh := sh) (I := I) (R := R) (a := bAt f n i) ⟨by omega, by omega⟩ (n := 48) (m := 57) (by decide) (by decide) (by decide) (by decide)
  simp only [fX11_isDigitAt, if_pos (isT_of S.md), r_byteAt S M H hi, bsome, jlit]
  rw [e, bsome, oZ_bz, bsome]
  rfl
theorem bAt_in {f : Nat → Int} {n i : Nat} (h : i < n) : bAt f n i = f i := if_pos h
theorem bAt_out {f : Nat → Int} {n i : Nat} (h : ¬ i < n) : bAt f n i = -1 := if_neg h
theorem r_fine (S : OKS sh AD) {e : Nat} (he : e ≤ 4) (h : I (AD 316) 13 = iz (e : Int)) : fX11_isFine fu sh I R (AD 316) = some (bz (decide (e = 0))) := by
  simp only [fX11_isFine, fX11_isFine_b12, if_pos (isT_of S.md), oI_at S.md, h, bsome, iz_lit]
  simp (disch := omega) only [iz_eq]
  by_cases z : e = 0
  · rw [if_pos (by omega), decide_eq_true z]; rfl
  · rw [if_neg (by omega), decide_eq_false z]; rfl
theorem r_blank (S : OKS sh AD) (M : MR R AD) (k47 : HI → Nat → Option HI) : ∀ d j i : Nat, i + d = n → d < j → ∀ I : HI, TXM I AD f n → I (AD 316) 9 = iz (i : Int) →
    ∃ I', fX11_next_l8 fu sh R k47 j I (AD 316) = k47 I' (AD 316) ∧ I' (AD 316) 9 = iz (spn isWc f n d i : Nat) ∧ FR AD I I' (fun i k => i = 316 ∧ k = 9) := by
  intro d
  induction d with
  | zero =>
    intro j i hi hj I T e2
    obtain ⟨j, rfl⟩ : ∃ t, j = t + 1 := ⟨j - 1, by omega⟩
    have h8 := T.1
    refine ⟨I, ?_, e2, FR.rf _ _ _⟩
    show fX11_next_b8 fu sh R (fX11_next_l8 fu sh R k47 j) k47 _ _ = _
    simp only [fX11_next_b8, oI_at S.md, e2, bsome, r_byteAt S M T (show i ≤ 100000 by omega), bAt_out (f := f) (show ¬ i < n by omega), iz_lit]
    rw [if_neg (show ¬ iz (-1) = iz 32 by decide), if_neg (show ¬ iz (-1) = iz 10 by decide)]
  | succ d ih =>
    intro j i hi hj I T e2
    obtain ⟨j, rfl⟩ : ∃ t, j = t + 1 := ⟨j - 1, by omega⟩
    have h8 := T.1
    have hx := T.2.2.1 i (by omega)
    by_cases w : isWc (f i) = true
    · have w' : f i = 32 ∨ f i = 10 := of_decide_eq_true w
      obtain ⟨J, hJ⟩ : ∃ J, J = _root_.Jvm.Pilot.@@N@@.u2 I (AD 316) 9 (iz ((i + 1 : Nat) : Int)) := ⟨_, rfl⟩
      have F : FR AD I J (fun i k => i = 316 ∧ k = 9) := by rw [hJ]; exact FR.u2 S (by decide) (by decide) ⟨rfl, rfl⟩ (FR.rf AD I _)
      obtain ⟨I', a, b, c⟩ := ih j (i + 1) (by omega) (by omega) J (T.fr F (fun _ => by omega) (by omega)) (by rw [hJ, u2_ad S (by decide) (by decide) (by decide) (by decide), if_pos ⟨rfl, rfl⟩])
      refine ⟨I', ?_, ?_, F.tr c⟩
      · rw [← a, hJ]
        have ek : iz (i : Int) + iz 1 = iz ((i + 1 : Nat) : Int) := by rw [iz_add]; rfl
        show fX11_next_b8 fu sh R (fX11_next_l8 fu sh R k47 j) k47 _ _ = _
        simp only [fX11_next_b8, fX11_next_b34, oI_at S.md, oP_at S.md, e2, bsome, r_byteAt S M T (show i ≤ 100000 by omega), bAt_in (f := f) (show i < n by omega), iz_lit, ek]
        simp (disch := omega) only [iz_eq]
        by_cases y : f i = 32
        · rw [if_pos y]
        · rw [if_neg y, if_pos (by omega)]
      · rw [spn_in (by omega) w]; exact b
    · have w' : ¬ (f i = 32 ∨ f i = 10) := fun z => w (decide_eq_true z)
      refine ⟨I, ?_, by rw [spn_out (fun z => w z.2)]; exact e2, FR.rf _ _ _⟩
      show fX11_next_b8 fu sh R (fX11_next_l8 fu sh R k47 j) k47 _ _ = _
      simp only [fX11_next_b8, oI_at S.md, e2, bsome, r_byteAt S M T (show i ≤ 100000 by omega), bAt_in (f := f) (show i < n by omega), iz_lit]
      simp (disch := omega) only [iz_eq]
      rw [if_neg (by omega), if_neg (by omega)]
theorem r_letters (S : OKS sh AD) (M : MR R AD) (k109 : HI → Nat → Option HI) : ∀ d j i : Nat, i + d = n → d < j → ∀ I : HI, TXM I AD f n → I (AD 316) 9 = iz (i : Int) →
    ∃ I', fX11_next_l85 fu sh R k109 j I (AD 316) = k109 I' (AD 316) ∧ I' (AD 316) 9 = iz (spn isLc f n d i : Nat) ∧ FR AD I I' (fun i k => i = 316 ∧ k = 9) := by
  intro d
  induction d with
  | zero =>
    intro j i hi hj I T e2
    obtain ⟨j, rfl⟩ : ∃ t, j = t + 1 := ⟨j - 1, by omega⟩
    have h8 := T.1
    refine ⟨I, ?_, e2, FR.rf _ _ _⟩
    show fX11_next_b85 fu sh R (fX11_next_l85 fu sh R k109 j) k109 _ _ = _
    simp only [fX11_next_b85, oI_at S.md, e2, bsome, r_isLetterAt S M T (show i ≤ 100000 by omega), bAt_out (f := f) (show ¬ i < n by omega), iz_lit]
    rw [if_pos (show bz (isLc (-1)) = iz 0 by decide)]
  | succ d ih =>
    intro j i hi hj I T e2
    obtain ⟨j, rfl⟩ : ∃ t, j = t + 1 := ⟨j - 1, by omega⟩
    have h8 := T.1
    by_cases w : isLc (f i) = true
    · obtain ⟨J, hJ⟩ : ∃ J, J = _root_.Jvm.Pilot.@@N@@.u2 I (AD 316) 9 (iz ((i + 1 : Nat) : Int)) := ⟨_, rfl⟩
      have F : FR AD I J (fun i k => i = 316 ∧ k = 9) := by rw [hJ]; exact FR.u2 S (by decide) (by decide) ⟨rfl, rfl⟩ (FR.rf AD I _)
      obtain ⟨I', a, b, c⟩ := ih j (i + 1) (by omega) (by omega) J (T.fr F (fun _ => by omega) (by omega)) (by rw [hJ, u2_ad S (by decide) (by decide) (by decide) (by decide), if_pos ⟨rfl, rfl⟩])
      refine ⟨I', ?_, ?_, F.tr c⟩
      · rw [← a, hJ]
        have ek : iz (i : Int) + iz 1 = iz ((i + 1 : Nat) : Int) := by rw [iz_add]; rfl
        show fX11_next_b85 fu sh R (fX11_next_l85 fu sh R k109 j) k109 _ _ = _
        simp only [fX11_next_b85, oI_at S.md, oP_at S.md, e2, bsome, r_isLetterAt S M T (show i ≤ 100000 by omega), bAt_in (f := f) (show i < n by omega), iz_lit, bz_zero, w, ek]
        rw [if_neg (by decide)]
      · rw [spn_in (by omega) w]; exact b
    · refine ⟨I, ?_, by rw [spn_out (fun z => w z.2)]; exact e2, FR.rf _ _ _⟩
      show fX11_next_b85 fu sh R (fX11_next_l85 fu sh R k109 j) k109 _ _ = _
      simp only [fX11_next_b85, oI_at S.md, e2, bsome, r_isLetterAt S M T (show i ≤ 100000 by omega), bAt_in (f := f) (show i < n by omega), iz_lit, bz_zero]
      rw [if_pos (by revert w; cases isLc (f i) <;> simp)]
theorem r_digits (S : OKS sh AD) (M : MR R AD) (k200 : HI → Nat → Option HI) {s : Nat} : ∀ d j i : Nat, i + d = n → s ≤ i → d < j → ∀ I : HI, TXM I AD f n → I (AD 316) 9 = iz (i : Int) → I (AD 316) 10 = iz (s : Int) → (i - s ≤ 4 → I (AD 316) 12 = iz (dgv f s (i - s))) →
    ∃ I', fX11_next_l133 fu sh R k200 j I (AD 316) = k200 I' (AD 316) ∧ I' (AD 316) 9 = iz (spn isDc f n d i : Nat) ∧ (spn isDc f n d i - s ≤ 4 → I' (AD 316) 12 = iz (dgv f s (spn isDc f n d i - s))) ∧ FR AD I I' (fun i k => i = 316 ∧ (k = 9 ∨ k = 12)) := by
  intro d
  induction d with
  | zero =>
    intro j i hi hs hj I T e2 e4 e3
    obtain ⟨j, rfl⟩ : ∃ t, j = t + 1 := ⟨j - 1, by omega⟩
    have h8 := T.1
    refine ⟨I, ?_, e2, e3, FR.rf _ _ _⟩
    show fX11_next_b133 fu sh R (fX11_next_l133 fu sh R k200 j) k200 _ _ = _
    simp only [fX11_next_b133, oI_at S.md, e2, bsome, r_isDigitAt S M T (show i ≤ 100000 by omega), bAt_out (f := f) (show ¬ i < n by omega), iz_lit]
    rw [if_pos (show bz (isDc (-1)) = iz 0 by decide)]
  | succ d ih =>
    intro j i hi hs hj I T e2 e4 e3
    obtain ⟨j, rfl⟩ : ∃ t, j = t + 1 := ⟨j - 1, by omega⟩
    have h8 := T.1
    by_cases w : isDc (f i) = true
    · obtain ⟨x, hx⟩ : ∃ x, x = (if 4 ≤ i - s then I (AD 316) 12 else iz (dgv f s (i + 1 - s))) := ⟨_, rfl⟩
      obtain ⟨J1, hJ1⟩ : ∃ J, J = _root_.Jvm.Pilot.@@N@@.u2 I (AD 316) 12 x := ⟨_, rfl⟩
      obtain ⟨J, hJ⟩ : ∃ J, J = _root_.Jvm.Pilot.@@N@@.u2 J1 (AD 316) 9 (iz ((i + 1 : Nat) : Int)) := ⟨_, rfl⟩
      have F1 : FR AD I J1 (fun i k => i = 316 ∧ (k = 9 ∨ k = 12)) := by rw [hJ1]; exact FR.u2 S (by decide) (by decide) ⟨rfl, Or.inr rfl⟩ (FR.rf AD I _)
      have F : FR AD I J (fun i k => i = 316 ∧ (k = 9 ∨ k = 12)) := by rw [hJ]; exact FR.u2 S (by decide) (by decide) ⟨rfl, Or.inl rfl⟩ F1
      have d9 : J1 (AD 316) 9 = iz (i : Int) := by rw [hJ1, u2_ad S (by decide) (by decide) (by decide) (by decide), if_neg (by decide)]; exact e2
      obtain ⟨I', a, b, c, g⟩ := ih j (i + 1) (by omega) (by omega) (by omega) J (T.fr F (fun _ => by omega) (by omega)) (by rw [hJ, u2_ad S (by decide) (by decide) (by decide) (by decide), if_pos ⟨rfl, rfl⟩]) ((F 316 (by decide) (by decide) 10 (by omega)).trans e4) (fun q => by rw [hJ, u2_ad S (by decide) (by decide) (by decide) (by decide), if_neg (by decide), hJ1, u2_ad S (by decide) (by decide) (by decide) (by decide), if_pos ⟨rfl, rfl⟩, hx, if_neg (by omega)])
      refine ⟨I', ?_, ?_, ?_, F.tr g⟩
      · rw [← a, hJ]
        have ek : iz (i : Int) + iz 1 = iz ((i + 1 : Nat) : Int) := by rw [iz_add]; rfl
        have fin : fX11_next_b184 fu sh R (fX11_next_l133 fu sh R k200 j) k200 I (AD 316) x (AD 316) = fX11_next_l133 fu sh R k200 j (u2 J1 (AD 316) 9 (iz ((i + 1 : Nat) : Int))) (AD 316) := by
          simp only [fX11_next_b184, oI_at S.md, oP_at S.md, bsome, iz_lit]
          rw [← hJ1, d9, ek]
        rw [← fin, hx]
        show fX11_next_b133 fu sh R (fX11_next_l133 fu sh R k200 j) k200 _ _ = _
        simp only [fX11_next_b133, oI_at S.md, e2, e4, bsome, r_isDigitAt S M T (show i ≤ 100000 by omega), r_byteAt S M T (show i ≤ 100000 by omega), bAt_in (f := f) (show i < n by omega), iz_lit, bz_zero, w, iz_sub]
        rw [if_neg (by decide)]
        by_cases y : 4 ≤ i - s
        · rw [if_pos (by rw [iz_le (by omega) (by omega) (by omega) (by omega)]; omega), if_pos y]
        · have un : dgv f s (i + 1 - s) = dgv f s (i - s) * 10 + f i - 48 := by
            rw [show i + 1 - s = (i - s) + 1 by omega]
            show dgv f s (i - s) * 10 + f (s + (i - s)) - 48 = _
            rw [show s + (i - s) = i by omega]
          rw [if_neg (by rw [iz_le (by omega) (by omega) (by omega) (by omega)]; omega), if_neg y, e3 (by omega), iz_mul, iz_add, iz_sub, un, Int.mul_comm]
      · rw [spn_in (by omega) w]; exact b
      · rw [spn_in (by omega) w]; exact c
    · refine ⟨I, ?_, by rw [spn_out (fun z => w z.2)]; exact e2, by rw [spn_out (fun z => w z.2)]; exact e3, FR.rf _ _ _⟩
      show fX11_next_b133 fu sh R (fX11_next_l133 fu sh R k200 j) k200 _ _ = _
      simp only [fX11_next_b133, oI_at S.md, e2, bsome, r_isDigitAt S M T (show i ≤ 100000 by omega), bAt_in (f := f) (show i < n by omega), iz_lit, bz_zero]
      rw [if_pos (by revert w; cases isDc (f i) <;> simp)]
end Q53
