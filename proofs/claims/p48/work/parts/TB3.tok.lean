/-! STAGE 2: the words of a text; what the reader of the class holds -/
abbrev PS : Type := Nat × Nat × Nat × Nat
def PS.st (p : PS) : Nat := p.1
def PS.en (p : PS) : Nat := p.2.1
def PS.tk (p : PS) : Nat := p.2.2.1
def PS.er (p : PS) : Nat := p.2.2.2
def isDc (x : Int) : Bool := decide (48 ≤ x ∧ x ≤ 57)
def isLc (x : Int) : Bool := decide (97 ≤ x ∧ x ≤ 122)
def isWc (x : Int) : Bool := decide (x = 32 ∨ x = 10)
/-- the end of the run of bytes that a test takes -/
def spn (q : Int → Bool) (f : Nat → Int) (n : Nat) : Nat → Nat → Nat
  | 0, i => i
  | d + 1, i => if i < n ∧ q (f i) = true then spn q f n d (i + 1) else i
theorem spn_r (q : Int → Bool) (f : Nat → Int) (n : Nat) : ∀ d i, i ≤ n → i ≤ spn q f n d i ∧ spn q f n d i ≤ n ∧ ∀ k, i ≤ k → k < spn q f n d i → q (f k) = true := by
  intro d
  induction d with
  | zero => exact fun i h => ⟨Nat.le_refl _, h, fun k h1 h2 => absurd h1 (Nat.not_le.mpr h2)⟩
  | succ d ih =>
    intro i h
    have un : spn q f n (d + 1) i = if i < n ∧ q (f i) = true then spn q f n d (i + 1) else i := rfl
    rw [un]
    split
    · rename_i z
      obtain ⟨a, b, c⟩ := ih (i + 1) (by omega)
      refine ⟨by omega, b, fun k h1 h2 => ?_⟩
      by_cases e : k = i
      · rw [e]; exact z.2
      · exact c k (by omega) h2
    · exact ⟨Nat.le_refl _, h, fun k h1 h2 => absurd h1 (Nat.not_le.mpr h2)⟩
theorem spn_in {q : Int → Bool} {f : Nat → Int} {n d i : Nat} (h : i < n) (hq : q (f i) = true) : spn q f n (d + 1) i = spn q f n d (i + 1) := if_pos ⟨h, hq⟩
theorem spn_out {q : Int → Bool} {f : Nat → Int} {n d i : Nat} (h : ¬ (i < n ∧ q (f i) = true)) : spn q f n d i = i := by
  cases d with
  | zero => rfl
  | succ d => exact if_neg h
theorem spn_gt {q : Int → Bool} {f : Nat → Int} {n i : Nat} (h : i < n) (hq : q (f i) = true) : i < spn q f n (n - i) i := by
  obtain ⟨d, e⟩ : ∃ d, n - i = d + 1 := ⟨n - i - 1, by omega⟩
  rw [e, spn_in h hq]
  exact (spn_r q f n d (i + 1) (by omega)).1
/-- the value of k digits -/
def dgv (f : Nat → Int) (s : Nat) : Nat → Int
  | 0 => 0
  | k + 1 => dgv f s k * 10 + f (s + k) - 48
def tokA (f : Nat → Int) (n s : Nat) : PS := if s < n then (if isDc (f s) = true then ⟨s, spn isDc f n (n - s) s, if spn isDc f n (n - s) s - s ≤ 4 then 3 else 1, 0⟩ else if isLc (f s) = true then ⟨s, spn isLc f n (n - s) s, 2, 0⟩ else ⟨s, s + 1, if f s = 59 then 4 else 1, 0⟩) else ⟨s, s, 0, 0⟩
def nxT (f : Nat → Int) (n i : Nat) : PS := tokA f n (spn isWc f n (n - i) i)
def advP (f : Nat → Int) (n : Nat) (p : PS) : PS := if p.er = 0 then nxT f n p.en else p
def falP (p : PS) (e : Nat) : PS := if p.er = 0 then ⟨p.st, p.en, p.tk, e⟩ else p
/-- the value of the number at which the text stands -/
def nmP (f : Nat → Int) (p : PS) : Int := dgv f p.st (p.en - p.st)
def WfP (f : Nat → Int) (n : Nat) (p : PS) : Prop := p.st ≤ p.en ∧ p.en ≤ n ∧ p.tk ≤ 4 ∧ (¬ p.tk = 0 → p.st < p.en) ∧ (p.tk = 3 → p.en ≤ p.st + 4 ∧ ∀ k, p.st ≤ k → k < p.en → isDc (f k) = true)
theorem tokA_wf {f : Nat → Int} {n s : Nat} (h : s ≤ n) : WfP f n (tokA f n s) ∧ (tokA f n s).er = 0 ∧ (tokA f n s).st = s := by
  unfold tokA
  by_cases z : s < n
  · rw [if_pos z]
    by_cases z2 : isDc (f s) = true
    · rw [if_pos z2]
      obtain ⟨a, b, c⟩ := spn_r isDc f n (n - s) s h
      have g := spn_gt z z2
      refine ⟨⟨a, b, ?_, fun _ => g, fun t => ?_⟩, rfl, rfl⟩
      · show (if _ then 3 else 1) ≤ 4
        split <;> omega
      · have t : (if spn isDc f n (n - s) s - s ≤ 4 then 3 else 1) = 3 := t
        split at t
        · rename_i y
          exact ⟨by show spn isDc f n (n - s) s ≤ s + 4; omega, c⟩
        · exact absurd t (by decide)
    · rw [if_neg z2]
      by_cases z3 : isLc (f s) = true
      · rw [if_pos z3]
        obtain ⟨a, b, c⟩ := spn_r isLc f n (n - s) s h
        have g := spn_gt z z3
        exact ⟨⟨a, b, (by decide : 2 ≤ 4), fun _ => g, fun t => absurd (show 2 = 3 from t) (by decide)⟩, rfl, rfl⟩
      · rw [if_neg z3]
        refine ⟨⟨by show s ≤ s + 1; omega, by show s + 1 ≤ n; omega, ?_, fun _ => by show s < s + 1; omega, fun t => ?_⟩, rfl, rfl⟩
        · show (if _ then 4 else 1) ≤ 4
          split <;> omega
        · have t : (if f s = 59 then 4 else 1) = 3 := t
          split at t
          · exact absurd t (by decide)
          · exact absurd t (by decide)
  · rw [if_neg z]
    exact ⟨⟨Nat.le_refl _, h, (by decide : 0 ≤ 4), fun t => absurd rfl t, fun t => absurd (show 0 = 3 from t) (by decide)⟩, rfl, rfl⟩
theorem nxT_wf {f : Nat → Int} {n i : Nat} (h : i ≤ n) : WfP f n (nxT f n i) ∧ (nxT f n i).er = 0 ∧ i ≤ (nxT f n i).st := by
  obtain ⟨a, b, c⟩ := spn_r isWc f n (n - i) i h
  obtain ⟨d, e, g⟩ := tokA_wf (f := f) b
  exact ⟨d, e, by unfold nxT; rw [g]; exact a⟩
theorem advP_wf {f : Nat → Int} {n : Nat} {p : PS} (h : WfP f n p) : WfP f n (advP f n p) := by
  unfold advP
  split
  · exact (nxT_wf h.2.1).1
  · exact h
theorem falP_wf {f : Nat → Int} {n : Nat} {p : PS} (h : WfP f n p) (e : Nat) : WfP f n (falP p e) := by
  unfold falP
  split
  · exact h
  · exact h
theorem dgv_r (f : Nat → Int) (s : Nat) : ∀ k, (∀ j, s ≤ j → j < s + k → isDc (f j) = true) → k ≤ 4 → 0 ≤ dgv f s k ∧ dgv f s k ≤ 9999 ∧ (k ≤ 3 → dgv f s k ≤ 999) ∧ (k ≤ 2 → dgv f s k ≤ 99) ∧ (k ≤ 1 → dgv f s k ≤ 9) ∧ (k ≤ 0 → dgv f s k = 0) := by
  intro k
  induction k with
  | zero => exact fun _ _ => ⟨Int.le_refl _, show (0 : Int) ≤ 9999 by decide, fun _ => show (0 : Int) ≤ 999 by decide, fun _ => show (0 : Int) ≤ 99 by decide, fun _ => show (0 : Int) ≤ 9 by decide, fun _ => rfl⟩
  | succ k ih =>
    intro h hk
    obtain ⟨a, b, c, d, e, g⟩ := ih (fun j h1 h2 => h j h1 (by omega)) (by omega)
    have q : 48 ≤ f (s + k) ∧ f (s + k) ≤ 57 := of_decide_eq_true (h (s + k) (by omega) (by omega))
    have un : dgv f s (k + 1) = dgv f s k * 10 + f (s + k) - 48 := rfl
    rw [un]
    refine ⟨by omega, ?_, fun _ => ?_, fun _ => ?_, fun _ => ?_, fun _ => ?_⟩
    · have := c (by omega); omega
    · have := d (by omega); omega
    · have := e (by omega); omega
    · have := g (by omega); omega
    · omega
theorem nmP_r {f : Nat → Int} {n : Nat} {p : PS} (h : WfP f n p) (t : p.tk = 3) : 0 ≤ nmP f p ∧ nmP f p ≤ 9999 := by
  obtain ⟨a, b, c, d, e⟩ := h
  obtain ⟨g, k⟩ := e t
  have := dgv_r f p.st (p.en - p.st) (fun j h1 h2 => k j h1 (by omega)) (by omega)
  exact ⟨this.1, this.2.1⟩
/-- the class's number for what it reads -/
def cTk (t : Nat) : Int := if t = 0 then 0 else if t = 1 then 4 else if t = 2 then 1 else if t = 3 then 2 else 3
def TXT (I : HI) (AD : Int → Nat) (f : Nat → Int) (n : Nat) : Prop := n ≤ 800 ∧ AR I AD 1 n f ∧ ∀ k, k < n → 0 ≤ f k ∧ f k ≤ 255
def CST (I : HI) (AD : Int → Nat) (f : Nat → Int) (n : Nat) (p : PS) : Prop := TXT I AD f n ∧ WfP f n p ∧ I (AD 2) 1 = iz (n : Int) ∧ I (AD 2) 2 = iz (p.st : Int) ∧ I (AD 2) 3 = iz (p.en : Int) ∧ I (AD 2) 4 = iz (cTk p.tk) ∧ (p.tk = 3 → I (AD 2) 5 = iz (nmP f p)) ∧ I (AD 2) 6 = iz (p.er : Int) ∧ p.er ≤ 4
section Q50
variable {fu : Nat} {sh : HS} {I I' : HI} {R : HR} {AD : Int → Nat} {f : Nat → Int} {n : Nat} {p : PS}
theorem S2 (S : OKS sh AD) : sh (AD 2) = some (1, 7) := S.at rfl (by decide) (by decide)
theorem S1 (S : OKS sh AD) : sh (AD 1) = some (20, 800) := S.at rfl (by decide) (by decide)
theorem TXT.fr {W : Int → Nat → Prop} (H : TXT I AD f n) (F : FR AD I I' W) (h : ∀ k, ¬ W 1 k) : TXT I' AD f n := ⟨H.1, H.2.1.fr F (by decide) (by decide) h, H.2.2⟩
theorem TXT.rd (S : OKS sh AD) (H : TXT I AD f n) {i : Nat} (hi : i < n) : oA sh I (AD 1) (iz (i : Int)) = some (iz (f i)) := by
  have h1 := H.1
  rw [oA_nat (S1 S) (by omega) (by decide), H.2.1 i hi]
theorem c_isDigit {x : Int} (h : 0 ≤ x ∧ x ≤ 255) : fX1_isDigit fu sh I R (iz x) = some (bz (isDc x)) := by
  obtain ⟨h0, h1⟩ := h
  simp only [fX1_isDigit, fX1_isDigit_b16, fX1_isDigit_b17, iz_lit]
  simp (disch := omega) only [iz_lt]
  unfold isDc
  by_cases a : x < 48
  · rw [if_pos a, decide_eq_false (by omega)]; rfl
  · by_cases b : 57 < x
    · rw [if_neg a, if_pos b, decide_eq_false (by omega)]; rfl
    · rw [if_neg a, if_neg b, decide_eq_true (by omega)]; rfl
theorem c_isLetter {x : Int} (h : 0 ≤ x ∧ x ≤ 255) : fX1_isLetter fu sh I R (iz x) = some (bz (isLc x)) := by
  obtain ⟨h0, h1⟩ := h
  simp only [fX1_isLetter, fX1_isLetter_b16, fX1_isLetter_b17, iz_lit]
  simp (disch := omega) only [iz_lt]
  unfold isLc
  by_cases a : x < 97
  · rw [if_pos a, decide_eq_false (by omega)]; rfl
  · by_cases b : 122 < x
    · rw [if_neg a, if_pos b, decide_eq_false (by omega)]; rfl
    · rw [if_neg a, if_neg b, decide_eq_true (by omega)]; rfl
theorem c_blank (S : OKS sh AD) (hR : R (AD 2) 0 = some (AD 1)) (k68 : HI → Nat → Option HI) : ∀ d j i : Nat, i + d = n → d < j → ∀ I : HI, TXT I AD f n → I (AD 2) 1 = iz (n : Int) → I (AD 2) 2 = iz (i : Int) →
    ∃ I', fX1_advance_l16 fu sh R k68 j I (AD 2) = k68 I' (AD 2) ∧ I' (AD 2) 2 = iz (spn isWc f n d i : Nat) ∧ FR AD I I' (fun i k => i = 2 ∧ k = 2) := by
  intro d
  induction d with
  | zero =>
    intro j i hi hj I T e1 e2
    obtain ⟨j, rfl⟩ : ∃ t, j = t + 1 := ⟨j - 1, by omega⟩
    have h8 := T.1
    refine ⟨I, ?_, e2, FR.rf _ _ _⟩
    show fX1_advance_b16 fu sh R (fX1_advance_l16 fu sh R k68 j) k68 _ _ = _
    simp only [fX1_advance_b16, oI_at (S2 S), e1, e2, bsome]
    rw [if_pos (by rw [iz_le (by omega) (by omega) (by omega) (by omega)]; omega)]
  | succ d ih =>
    intro j i hi hj I T e1 e2
    obtain ⟨j, rfl⟩ : ∃ t, j = t + 1 := ⟨j - 1, by omega⟩
    have h8 := T.1
    have hx := T.2.2 i (by omega)
    have go : isWc (f i) = true → ∃ I', fX1_advance_b55 fu sh R (fX1_advance_l16 fu sh R k68 j) k68 I (AD 2) = k68 I' (AD 2) ∧ I' (AD 2) 2 = iz (spn isWc f n (d + 1) i : Nat) ∧ FR AD I I' (fun i k => i = 2 ∧ k = 2) := by
      intro w
      obtain ⟨J, hJ⟩ : ∃ J, J = _root_.Jvm.Pilot.@@N@@.u2 I (AD 2) 2 (iz ((i + 1 : Nat) : Int)) := ⟨_, rfl⟩
      have F : FR AD I J (fun i k => i = 2 ∧ k = 2) := by rw [hJ]; exact FR.u2 S (by decide) (by decide) ⟨rfl, rfl⟩ (FR.rf AD I _)
      obtain ⟨I', a, b, c⟩ := ih j (i + 1) (by omega) (by omega) J (T.fr F (fun _ => by omega)) ((F 2 (by decide) (by decide) 1 (by omega)).trans e1) (by rw [hJ, u2_ad S (by decide) (by decide) (by decide) (by decide), if_pos ⟨rfl, rfl⟩])
      refine ⟨I', ?_, ?_, F.tr c⟩
      · rw [← a, hJ]
        have ek : iz (i : Int) + iz 1 = iz ((i + 1 : Nat) : Int) := by rw [iz_add]; rfl
        simp only [fX1_advance_b55, oI_at (S2 S), oP_at (S2 S), e2, bsome, iz_lit, ek]
      · rw [spn_in (by omega) w]; exact b
    by_cases w : isWc (f i) = true
    · obtain ⟨I', a, b⟩ := go w
      refine ⟨I', ?_, b⟩
      rw [← a]
      have w' : f i = 32 ∨ f i = 10 := of_decide_eq_true w
      show fX1_advance_b16 fu sh R (fX1_advance_l16 fu sh R k68 j) k68 _ _ = _
      simp only [fX1_advance_b16, oI_at (S2 S), e1, e2, bsome, oR_at (S2 S) hR, T.rd S (show i < n by omega), iz_lit]
      rw [if_neg (by rw [iz_le (by omega) (by omega) (by omega) (by omega)]; omega)]
      simp (disch := omega) only [iz_eq]
      by_cases y : f i = 32
      · rw [if_pos y]
      · rw [if_neg y, if_pos (by omega)]
    · have w' : ¬ (f i = 32 ∨ f i = 10) := fun z => w (decide_eq_true z)
      refine ⟨I, ?_, by rw [spn_out (fun z => w z.2)]; exact e2, FR.rf _ _ _⟩
      show fX1_advance_b16 fu sh R (fX1_advance_l16 fu sh R k68 j) k68 _ _ = _
      simp only [fX1_advance_b16, oI_at (S2 S), e1, e2, bsome, oR_at (S2 S) hR, T.rd S (show i < n by omega), iz_lit]
      rw [if_neg (by rw [iz_le (by omega) (by omega) (by omega) (by omega)]; omega)]
      simp (disch := omega) only [iz_eq]
      rw [if_neg (by omega), if_neg (by omega)]
theorem c_letters (S : OKS sh AD) (hR : R (AD 2) 0 = some (AD 1)) (k44 : HI → Option HI) : ∀ d j i : Nat, i + d = n → d < j → ∀ I : HI, TXT I AD f n → I (AD 2) 1 = iz (n : Int) → I (AD 2) 3 = iz (i : Int) →
    ∃ I', fX1_scanKeyword_l5 fu sh R k44 j I (AD 2) = k44 I' ∧ I' (AD 2) 3 = iz (spn isLc f n d i : Nat) ∧ FR AD I I' (fun i k => i = 2 ∧ k = 3) := by
  intro d
  induction d with
  | zero =>
    intro j i hi hj I T e1 e2
    obtain ⟨j, rfl⟩ : ∃ t, j = t + 1 := ⟨j - 1, by omega⟩
    have h8 := T.1
    refine ⟨I, ?_, e2, FR.rf _ _ _⟩
    show fX1_scanKeyword_b5 fu sh R (fX1_scanKeyword_l5 fu sh R k44 j) k44 _ _ = _
    simp only [fX1_scanKeyword_b5, oI_at (S2 S), e1, e2, bsome]
    rw [if_pos (by rw [iz_le (by omega) (by omega) (by omega) (by omega)]; omega)]
  | succ d ih =>
    intro j i hi hj I T e1 e2
    obtain ⟨j, rfl⟩ : ∃ t, j = t + 1 := ⟨j - 1, by omega⟩
    have h8 := T.1
    have hx := T.2.2 i (by omega)
    by_cases w : isLc (f i) = true
    · obtain ⟨J, hJ⟩ : ∃ J, J = _root_.Jvm.Pilot.@@N@@.u2 I (AD 2) 3 (iz ((i + 1 : Nat) : Int)) := ⟨_, rfl⟩
      have F : FR AD I J (fun i k => i = 2 ∧ k = 3) := by rw [hJ]; exact FR.u2 S (by decide) (by decide) ⟨rfl, rfl⟩ (FR.rf AD I _)
      obtain ⟨I', a, b, c⟩ := ih j (i + 1) (by omega) (by omega) J (T.fr F (fun _ => by omega)) ((F 2 (by decide) (by decide) 1 (by omega)).trans e1) (by rw [hJ, u2_ad S (by decide) (by decide) (by decide) (by decide), if_pos ⟨rfl, rfl⟩])
      refine ⟨I', ?_, ?_, F.tr c⟩
      · rw [← a, hJ]
        have ek : iz (i : Int) + iz 1 = iz ((i + 1 : Nat) : Int) := by rw [iz_add]; rfl
        show fX1_scanKeyword_b5 fu sh R (fX1_scanKeyword_l5 fu sh R k44 j) k44 _ _ = _
        simp only [fX1_scanKeyword_b5, oI_at (S2 S), oP_at (S2 S), e1, e2, bsome, oR_at (S2 S) hR, T.rd S (show i < n by omega), c_isLetter hx, iz_lit, bz_zero, w, ek]
        rw [if_neg (by rw [iz_le (by omega) (by omega) (by omega) (by omega)]; omega), if_neg (by decide)]
      · rw [spn_in (by omega) w]; exact b
    · refine ⟨I, ?_, by rw [spn_out (fun z => w z.2)]; exact e2, FR.rf _ _ _⟩
      show fX1_scanKeyword_b5 fu sh R (fX1_scanKeyword_l5 fu sh R k44 j) k44 _ _ = _
      simp only [fX1_scanKeyword_b5, oI_at (S2 S), e1, e2, bsome, oR_at (S2 S) hR, T.rd S (show i < n by omega), c_isLetter hx, iz_lit, bz_zero]
      rw [if_neg (by rw [iz_le (by omega) (by omega) (by omega) (by omega)]; omega), if_pos (by revert w; cases isLc (f i) <;> simp)]
theorem c_digits (S : OKS sh AD) (hR : R (AD 2) 0 = some (AD 1)) (k68 : HI → Nat → Option HI) {s : Nat} : ∀ d j i : Nat, i + d = n → s ≤ i → d < j → ∀ I : HI, TXT I AD f n → I (AD 2) 1 = iz (n : Int) → I (AD 2) 3 = iz (i : Int) → I (AD 2) 5 = iz (dgv f s (i - s)) →
    ∃ I', fX1_scanNumber_l5 fu sh R k68 j I (AD 2) = k68 I' (AD 2) ∧ I' (AD 2) 3 = iz (spn isDc f n d i : Nat) ∧ I' (AD 2) 5 = iz (dgv f s (spn isDc f n d i - s)) ∧ FR AD I I' (fun i k => i = 2 ∧ (k = 3 ∨ k = 5)) := by
  intro d
  induction d with
  | zero =>
    intro j i hi hs hj I T e1 e2 e3
    obtain ⟨j, rfl⟩ : ∃ t, j = t + 1 := ⟨j - 1, by omega⟩
    have h8 := T.1
    refine ⟨I, ?_, e2, e3, FR.rf _ _ _⟩
    show fX1_scanNumber_b5 fu sh R (fX1_scanNumber_l5 fu sh R k68 j) k68 _ _ = _
    simp only [fX1_scanNumber_b5, oI_at (S2 S), e1, e2, bsome]
    rw [if_pos (by rw [iz_le (by omega) (by omega) (by omega) (by omega)]; omega)]
  | succ d ih =>
    intro j i hi hs hj I T e1 e2 e3
    obtain ⟨j, rfl⟩ : ∃ t, j = t + 1 := ⟨j - 1, by omega⟩
    have h8 := T.1
    have hx := T.2.2 i (by omega)
    by_cases w : isDc (f i) = true
    · obtain ⟨J1, hJ1⟩ : ∃ J, J = _root_.Jvm.Pilot.@@N@@.u2 I (AD 2) 5 (iz (dgv f s (i + 1 - s))) := ⟨_, rfl⟩
      obtain ⟨J, hJ⟩ : ∃ J, J = _root_.Jvm.Pilot.@@N@@.u2 J1 (AD 2) 3 (iz ((i + 1 : Nat) : Int)) := ⟨_, rfl⟩
      have F1 : FR AD I J1 (fun i k => i = 2 ∧ (k = 3 ∨ k = 5)) := by rw [hJ1]; exact FR.u2 S (by decide) (by decide) ⟨rfl, Or.inr rfl⟩ (FR.rf AD I _)
      have F : FR AD I J (fun i k => i = 2 ∧ (k = 3 ∨ k = 5)) := by rw [hJ]; exact FR.u2 S (by decide) (by decide) ⟨rfl, Or.inl rfl⟩ F1
      have e4 : J1 (AD 2) 3 = iz (i : Int) := by rw [hJ1, u2_ad S (by decide) (by decide) (by decide) (by decide), if_neg (by decide)]; exact e2
      obtain ⟨I', a, b, c, g⟩ := ih j (i + 1) (by omega) (by omega) (by omega) J (T.fr F (fun _ => by omega)) ((F 2 (by decide) (by decide) 1 (by omega)).trans e1) (by rw [hJ, u2_ad S (by decide) (by decide) (by decide) (by decide), if_pos ⟨rfl, rfl⟩]) (by rw [hJ, u2_ad S (by decide) (by decide) (by decide) (by decide), if_neg (by decide), hJ1, u2_ad S (by decide) (by decide) (by decide) (by decide), if_pos ⟨rfl, rfl⟩])
      refine ⟨I', ?_, ?_, ?_, F.tr g⟩
      · rw [← a, hJ]
        have ek : iz (i : Int) + iz 1 = iz ((i + 1 : Nat) : Int) := by rw [iz_add]; rfl
        have un : dgv f s (i + 1 - s) = dgv f s (i - s) * 10 + f i - 48 := by
          rw [show i + 1 - s = (i - s) + 1 by omega]
          show dgv f s (i - s) * 10 + f (s + (i - s)) - 48 = _
          rw [show s + (i - s) = i by omega]
        have e5 : iz (dgv f s (i - s)) * iz 10 + iz (f i) - iz 48 = iz (dgv f s (i + 1 - s)) := by rw [iz_mul, iz_add, iz_sub, un]
        show fX1_scanNumber_b5 fu sh R (fX1_scanNumber_l5 fu sh R k68 j) k68 _ _ = _
        simp only [fX1_scanNumber_b5, oI_at (S2 S), oP_at (S2 S), e1, e2, e3, bsome, oR_at (S2 S) hR, T.rd S (show i < n by omega), c_isDigit hx, iz_lit, bz_zero, w]
        rw [if_neg (by rw [iz_le (by omega) (by omega) (by omega) (by omega)]; omega), if_neg (by decide), e5, ← hJ1, e4, ek]
      · rw [spn_in (by omega) w]; exact b
      · rw [spn_in (by omega) w]; exact c
    · refine ⟨I, ?_, by rw [spn_out (fun z => w z.2)]; exact e2, by rw [spn_out (fun z => w z.2)]; exact e3, FR.rf _ _ _⟩
      show fX1_scanNumber_b5 fu sh R (fX1_scanNumber_l5 fu sh R k68 j) k68 _ _ = _
      simp only [fX1_scanNumber_b5, oI_at (S2 S), e1, e2, bsome, oR_at (S2 S) hR, T.rd S (show i < n by omega), c_isDigit hx, iz_lit, bz_zero]
      rw [if_neg (by rw [iz_le (by omega) (by omega) (by omega) (by omega)]; omega), if_pos (by revert w; cases isDc (f i) <;> simp)]
end Q50
