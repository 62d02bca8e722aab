/-! STAGE 2: the class's reader: a word, a number, a semicolon -/
/-- do the bytes from s on read as the list does, from its place i, d places -/
def mtB (f : Nat → Int) (s : Nat) (L : List Int) : Nat → Nat → Bool
  | 0, _ => true
  | d + 1, i => if f (s + i) = L.getD i 0 then mtB f s L d (i + 1) else false
def wdP (f : Nat → Int) (p : PS) (w : Nat) : Bool := decide (p.tk = 2) && (decide (p.en - p.st = (cod w).length) && mtB f p.st (cod w) (cod w).length 0)
def okN (f : Nat → Int) (p : PS) (lo hi : Int) : PS := if p.tk = 3 then (if lo ≤ nmP f p ∧ nmP f p ≤ hi then p else falP p 2) else falP p 1
def okS (p : PS) : PS := if p.tk = 4 then p else falP p 1
theorem cod_A : ((List.range 22).all fun i => (List.range (cod i).length).all fun j => decide (0 ≤ (cod i).getD j 0 ∧ (cod i).getD j 0 ≤ 255)) = true := by decide +kernel
theorem cod_ch {i j : Nat} (hi : i < 22) (hj : j < (cod i).length) : 0 ≤ (cod i).getD j 0 ∧ (cod i).getD j 0 ≤ 255 := by
  have h1 := List.all_eq_true.mp cod_A i (List.mem_range.mpr hi)
  exact of_decide_eq_true (List.all_eq_true.mp h1 j (List.mem_range.mpr hj))
theorem adv_er {f : Nat → Int} {n : Nat} {p : PS} (h : p.en ≤ n) : ((advP f n p).er = 0) = (p.er = 0) := by
  unfold advP
  by_cases z : p.er = 0
  · rw [if_pos z, (nxT_wf h).2.1, eq_self, eq_true z]
  · rw [if_neg z]
theorem fal_ne {p : PS} {e : Nat} (h : ¬ p.er = 0) : falP p e = p := if_neg h
theorem fal_er {p : PS} {e : Nat} (h : ¬ e = 0) : ¬ (falP p e).er = 0 := by
  unfold falP
  split
  · exact h
  · rename_i z; exact z
theorem okN_ne {f : Nat → Int} {p : PS} {lo hi : Int} (h : ¬ p.er = 0) : okN f p lo hi = p := by
  unfold okN
  rw [fal_ne h, fal_ne h]
  split
  · split <;> rfl
  · rfl
theorem okN_ok {f : Nat → Int} {p : PS} {lo hi : Int} (h : (okN f p lo hi).er = 0) : okN f p lo hi = p ∧ p.er = 0 ∧ p.tk = 3 ∧ lo ≤ nmP f p ∧ nmP f p ≤ hi := by
  unfold okN at h ⊢
  by_cases z : p.tk = 3
  · rw [if_pos z] at h ⊢
    by_cases y : lo ≤ nmP f p ∧ nmP f p ≤ hi
    · rw [if_pos y] at h ⊢
      exact ⟨rfl, h, z, y⟩
    · rw [if_neg y] at h
      exact absurd h (fal_er (by decide))
  · rw [if_neg z] at h
    exact absurd h (fal_er (by decide))
theorem okS_ok {p : PS} (h : (okS p).er = 0) : okS p = p ∧ p.er = 0 ∧ p.tk = 4 := by
  unfold okS at h ⊢
  by_cases z : p.tk = 4
  · rw [if_pos z] at h ⊢
    exact ⟨rfl, h, z⟩
  · rw [if_neg z] at h
    exact absurd h (fal_er (by decide))
theorem okN_wf {f : Nat → Int} {n : Nat} {p : PS} (W : WfP f n p) (lo hi : Int) : WfP f n (okN f p lo hi) := by
  unfold okN
  split
  · split
    · exact W
    · exact falP_wf W _
  · exact falP_wf W _
theorem okS_wf {f : Nat → Int} {n : Nat} {p : PS} (W : WfP f n p) : WfP f n (okS p) := by
  unfold okS
  split
  · exact W
  · exact falP_wf W _
theorem cTk_eq {t v : Nat} (ht : t ≤ 4) (hv : v ≤ 4) : (iz (cTk t) = iz (cTk v)) = (t = v) := by
  have r : ∀ x, x ≤ 4 → 0 ≤ cTk x ∧ cTk x ≤ 4 := by
    intro x hx
    unfold cTk
    split
    · omega
    · split
      · omega
      · split
        · omega
        · split <;> omega
  have a := r t ht
  have b := r v hv
  rw [iz_eq (by omega) (by omega) (by omega) (by omega)]
  apply propext
  constructor
  · intro h
    unfold cTk at h
    obtain (rfl | rfl | rfl | rfl | rfl) : t = 0 ∨ t = 1 ∨ t = 2 ∨ t = 3 ∨ t = 4 := by omega
    all_goals (obtain (rfl | rfl | rfl | rfl | rfl) : v = 0 ∨ v = 1 ∨ v = 2 ∨ v = 3 ∨ v = 4 := by omega)
    all_goals first | rfl | (exact absurd h (by decide))
  · exact fun h => by rw [h]
section Q52
variable {fu : Nat} {sh : HS} {I I' : HI} {R : HR} {AD : Int → Nat} {f : Nat → Int} {n : Nat} {p : PS}
theorem c_kwd_loop (S : OKS sh AD) (hR : R (AD 2) 0 = some (AD 1)) (C : CST I AD f n p) {w : Nat} (hw : w < 22) (hl : p.st + (cod w).length ≤ n) : ∀ d j i : Nat, i + d = (cod w).length → d < j →
    fX1_isKeyword_l28 fu sh I R j (AD 2) w (iz (i : Int)) = some (bz (mtB f p.st (cod w) d i)) := by
  obtain ⟨T, W, c1, c2, c3, c4, c5, c6, c7⟩ := C
  have h8 := T.1
  intro d
  induction d with
  | zero =>
    intro j i hi hj
    obtain ⟨j, rfl⟩ : ∃ t, j = t + 1 := ⟨j - 1, by omega⟩
    show fX1_isKeyword_b28 fu sh I R (fX1_isKeyword_l28 fu sh I R j) _ _ _ = _
    simp only [fX1_isKeyword_b28, length_ok hw, bsome]
    rw [if_pos (by rw [iz_le (by omega) (by omega) (by omega) (by omega)]; omega)]
    rfl
  | succ d ih =>
    intro j i hi hj
    obtain ⟨j, rfl⟩ : ∃ t, j = t + 1 := ⟨j - 1, by omega⟩
    have q := ih j (i + 1) (by omega) (by omega)
    have un : mtB f p.st (cod w) (d + 1) i = if f (p.st + i) = (cod w).getD i 0 then mtB f p.st (cod w) d (i + 1) else false := rfl
    have ek : iz (i : Int) + iz 1 = iz ((i + 1 : Nat) : Int) := by rw [iz_add]; rfl
    have es : iz (p.st : Int) + iz (i : Int) = iz ((p.st + i : Nat) : Int) := by rw [iz_add]; rfl
    have hx := T.2.2 (p.st + i) (by omega)
    have hy := cod_ch hw (show i < (cod w).length by omega)
    rw [un]
    show fX1_isKeyword_b28 fu sh I R (fX1_isKeyword_l28 fu sh I R j) _ _ _ = _
    simp only [fX1_isKeyword_b28, length_ok hw, bsome, oR_at (S2 S) hR, oI_at (S2 S), c2, es, T.rd S (show p.st + i < n by omega), charAt_ok hw (show i < (cod w).length by omega), iz_lit, ek]
    rw [if_neg (by rw [iz_le (by omega) (by omega) (by omega) (by omega)]; omega)]
    simp (disch := omega) only [iz_eq]
    by_cases z : f (p.st + i) = (cod w).getD i 0
    · rw [if_pos z, if_pos z, q]
    · rw [if_neg z, if_neg z]; rfl
theorem c_kwd (S : OKS sh AD) (hR : R (AD 2) 0 = some (AD 1)) (hfu : 5000 ≤ fu) (C : CST I AD f n p) {w : Nat} (hw : w < 22) : fX1_isKeyword fu sh I R (AD 2) w = some (bz (wdP f p w)) := by
  have C' := C
  obtain ⟨T, W, c1, c2, c3, c4, c5, c6, c7⟩ := C'
  have h8 := T.1
  have h40 := (cod_ok hw).2.2.2.1
  obtain ⟨w1, w2, w3, -⟩ := W
  have e1 : iz (1 : Int) = iz (cTk 2) := rfl
  simp only [fX1_isKeyword, fX1_isKeyword_b24, if_pos (isT_of (S2 S)), oI_at (S2 S), c4, bsome, c2, c3, length_ok hw, iz_lit, iz_sub]
  rw [e1]
  simp only [cTk_eq w3 (show 2 ≤ 4 by decide)]
  unfold wdP
  by_cases z : p.tk = 2
  · rw [if_pos z, decide_eq_true z]
    by_cases y : p.en - p.st = (cod w).length
    · rw [if_pos (by rw [iz_eq (by omega) (by omega) (by omega) (by omega)]; omega), decide_eq_true y]
      exact c_kwd_loop S hR C hw (by omega) _ fu 0 (by omega) (by omega)
    · rw [if_neg (by rw [iz_eq (by omega) (by omega) (by omega) (by omega)]; omega), decide_eq_false y]
      rfl
  · rw [if_neg z, decide_eq_false z]
    rfl
theorem c_see37 (S : OKS sh AD) (C : CST I AD f n p) (lo : Int) (h3 : p.er = 0 → p.tk = 3) : fX1_seeNumber_b37 fu sh R I (AD 2) (iz lo) = some (iz (if p.er = 0 then nmP f p else lo), I) := by
  obtain ⟨T, W, c1, c2, c3, c4, c5, c6, c7⟩ := C
  simp only [fX1_seeNumber_b37, fX1_seeNumber_b52, oI_at (S2 S), c6, bsome, iz_lit]
  simp (disch := omega) only [iz_eq]
  by_cases z : p.er = 0
  · rw [if_pos (by omega), c5 (h3 z), if_pos z]
  · rw [if_neg (by omega), if_neg z]
theorem nm_fal (f : Nat → Int) (p : PS) (e : Nat) : nmP f (falP p e) = nmP f p := by
  unfold falP
  split <;> rfl
theorem c_see (S : OKS sh AD) (C : CST I AD f n p) {lo hi : Int} (h0 : 0 ≤ lo) (h1 : lo ≤ 9999) (h2 : 0 ≤ hi) (h3 : hi ≤ 9999) :
    ∃ I', fX1_seeNumber fu sh I R (AD 2) (iz lo) (iz hi) = some (iz (if (okN f p lo hi).er = 0 then nmP f p else lo), I') ∧ CST I' AD f n (okN f p lo hi) ∧ FR AD I I' (fun i _ => i = 2) := by
  have C' := C
  obtain ⟨T, W, c1, c2, c3, c4, c5, c6, c7⟩ := C'
  have e1 : iz (2 : Int) = iz (cTk 3) := rfl
  simp only [fX1_seeNumber, if_pos (isT_of (S2 S)), oI_at (S2 S), c4, bsome, iz_lit]
  rw [e1]
  simp only [cTk_eq W.2.2.1 (show 3 ≤ 4 by decide)]
  unfold okN
  by_cases z : p.tk = 3
  · have r := nmP_r W z
    have bad : ¬ (lo ≤ nmP f p ∧ nmP f p ≤ hi) → ∃ I', fX1_seeNumber_b32 fu sh R I (AD 2) (iz lo) = some (iz (if (falP p 2).er = 0 then nmP f p else lo), I') ∧ CST I' AD f n (falP p 2) ∧ FR AD I I' (fun i _ => i = 2) := by
      intro _
      obtain ⟨J, a, b, c⟩ := c_fail (fu := fu) (R := R) S C (e := 2) (by decide)
      refine ⟨J, ?_, b, c⟩
      have a' : fX1_fail fu sh I R (AD 2) (iz 2) = some J := a
      simp only [fX1_seeNumber_b32, iz_lit, a', bsome]
      rw [c_see37 S b lo (fun q => absurd q (fal_er (by decide))), nm_fal]
    rw [if_pos z, if_pos z, c5 z]
    by_cases y : nmP f p < lo
    · rw [if_neg (by omega : ¬ (lo ≤ nmP f p ∧ nmP f p ≤ hi))]
      obtain ⟨J, a, b⟩ := bad (by omega)
      refine ⟨J, ?_, b⟩
      rw [if_pos (by rw [iz_lt (by omega) (by omega) (by omega) (by omega)]; omega), a]
    · by_cases x : nmP f p ≤ hi
      · rw [if_pos (by omega : (lo ≤ nmP f p ∧ nmP f p ≤ hi))]
        refine ⟨I, ?_, C, FR.rf _ _ _⟩
        rw [if_neg (by rw [iz_lt (by omega) (by omega) (by omega) (by omega)]; omega), if_pos (by rw [iz_le (by omega) (by omega) (by omega) (by omega)]; omega), c_see37 S C lo (fun _ => z)]
      · rw [if_neg (by omega : ¬ (lo ≤ nmP f p ∧ nmP f p ≤ hi))]
        obtain ⟨J, a, b⟩ := bad (by omega)
        refine ⟨J, ?_, b⟩
        rw [if_neg (by rw [iz_lt (by omega) (by omega) (by omega) (by omega)]; omega), if_neg (by rw [iz_le (by omega) (by omega) (by omega) (by omega)]; omega), a]
  · rw [if_neg z, if_neg z]
    obtain ⟨J, a, b, c⟩ := c_fail (fu := fu) (R := R) S C (e := 1) (by decide)
    refine ⟨J, ?_, b, c⟩
    have a' : fX1_fail fu sh I R (AD 2) (iz 1) = some J := a
    rw [a', bsome, c_see37 S b lo (fun q => absurd q (fal_er (by decide))), nm_fal]
theorem c_take (S : OKS sh AD) (hR : R (AD 2) 0 = some (AD 1)) (hfu : 5000 ≤ fu) (C : CST I AD f n p) {lo hi : Int} (h0 : 0 ≤ lo) (h1 : lo ≤ 9999) (h2 : 0 ≤ hi) (h3 : hi ≤ 9999) :
    ∃ I', fX1_takeNumber fu sh I R (AD 2) (iz lo) (iz hi) = some (iz (if (okN f p lo hi).er = 0 then nmP f p else lo), I') ∧ CST I' AD f n (advP f n (okN f p lo hi)) ∧ FR AD I I' (fun i _ => i = 2) := by
  obtain ⟨J, a, b, c⟩ := c_see (fu := fu) (R := R) S C h0 h1 h2 h3
  obtain ⟨K, x, y, z⟩ := c_adv S hR hfu b
  refine ⟨K, ?_, y, c.tr z⟩
  simp only [fX1_takeNumber, if_pos (isT_of (S2 S)), a, oHs, x, bsome]
theorem c_semi (S : OKS sh AD) (hR : R (AD 2) 0 = some (AD 1)) (hfu : 5000 ≤ fu) (C : CST I AD f n p) :
    ∃ I', fX1_takeSemicolon fu sh I R (AD 2) = some I' ∧ CST I' AD f n (advP f n (okS p)) ∧ FR AD I I' (fun i _ => i = 2) := by
  have C' := C
  obtain ⟨T, W, c1, c2, c3, c4, c5, c6, c7⟩ := C'
  have e1 : iz (3 : Int) = iz (cTk 4) := rfl
  simp only [fX1_takeSemicolon, if_pos (isT_of (S2 S)), oI_at (S2 S), c4, bsome, iz_lit]
  rw [e1]
  simp only [cTk_eq W.2.2.1 (show 4 ≤ 4 by decide)]
  unfold okS
  by_cases z : p.tk = 4
  · obtain ⟨J, a, b⟩ := c_adv S hR hfu C
    rw [if_pos z, if_pos z]
    refine ⟨J, ?_, b⟩
    simp only [fX1_takeSemicolon_b13, a, bsome]
  · obtain ⟨J, a, b, c⟩ := c_fail (fu := fu) (R := R) S C (e := 1) (by decide)
    have a' : fX1_fail fu sh I R (AD 2) (iz 1) = some J := a
    obtain ⟨K, x, y, w⟩ := c_adv S hR hfu b
    rw [if_neg z, if_neg z]
    refine ⟨K, ?_, y, c.tr w⟩
    rw [a', bsome]
    simp only [fX1_takeSemicolon_b13, x, bsome]
end Q52
