/-! STAGE 2: the plan as a list of bytes; its length -/
def cod (i : Nat) : List Int := (strs.getD i "").toList.map (fun c => (c.toNat : Int))
theorem cod_B : ((List.range 28).all fun i => decide (i < nS) && (decide ((cod i).length = sLen i) && (decide (nI (sLen i) = iz ((cod i).length : Int)) && (decide ((cod i).length ≤ 40) && (List.range (sLen i)).all fun j => decide (chr i (iz (j : Int)) = iz ((cod i).getD j 0)))))) = true := by decide +kernel
theorem cod_ok {i : Nat} (h : i < 28) : i < nS ∧ (cod i).length = sLen i ∧ nI (sLen i) = iz ((cod i).length : Int) ∧ (cod i).length ≤ 40 ∧ ∀ j, j < (cod i).length → chr i (iz (j : Int)) = iz ((cod i).getD j 0) := by
  have h1 := List.all_eq_true.mp cod_B i (List.mem_range.mpr h)
  simp only [Bool.and_eq_true, decide_eq_true_eq] at h1
  obtain ⟨a, b, c, d, e⟩ := h1
  refine ⟨a, b, c, d, fun j hj => ?_⟩
  have := List.all_eq_true.mp e j (List.mem_range.mpr (by omega))
  exact of_decide_eq_true this
def numL (v : Int) : List Int := if v < 10 then [48 + v] else [48 + v / 10, 48 + v % 10]
theorem num_len (v : Int) : (numL v).length ≤ 2 := by
  unfold numL
  split
  · exact (by decide : (1 : Nat) ≤ 2)
  · exact Nat.le_refl 2
/-- the shots of a set, from s on -/
def shL (m : Nat) : Nat → Nat → List Int
  | 0, _ => []
  | f + 1, s => (if m.testBit s = true then 32 :: numL (s : Int) else []) ++ shL m f (s + 1)
def lineL (ρ : RHO) (q : Nat) : List Int := cod 23 ++ numL (q : Int) ++ shL (qhG ρ (ρ 0) (ρ 4).toNat q (ρ 4).toNat) (ρ 4).toNat 0 ++ [10]
def linesL (ρ : RHO) : Nat → Nat → List Int
  | 0, _ => []
  | f + 1, i => lineL ρ (orS (mSet ρ) (prG ρ) i) ++ linesL ρ f (i + 1)
def wkL (k : Nat) : Nat := if k = 0 then 2 else if k = 1 then 6 else if k = 2 then 8 else 4
def fltL (ρ : RHO) (s k : Nat) : List Int := cod 25 ++ numL (s : Int) ++ cod (wkL k) ++ numL (tolS ρ s k 2) ++ [10]
def flK (ρ : RHO) (s : Nat) : Nat → Nat → List Int
  | 0, _ => []
  | f + 1, k => (if (kindS ρ s).toNat.testBit k = true then fltL ρ s k else []) ++ flK ρ s f (k + 1)
def flsL (ρ : RHO) : Nat → Nat → List Int
  | 0, _ => []
  | f + 1, s => flK ρ s 4 0 ++ flsL ρ f (s + 1)
def planL (ρ : RHO) : List Int := linesL ρ (mSet ρ) 0 ++ flsL ρ (ρ 4).toNat 0
def cnF (P : Nat → Bool) : Nat → Nat → Nat
  | 0, _ => 0
  | f + 1, s => (if P s = true then 1 else 0) + cnF P f (s + 1)
theorem cnF_le (P : Nat → Bool) : ∀ f s, cnF P f s ≤ f := by
  intro f
  induction f with
  | zero => intro s; exact Nat.le_refl 0
  | succ f ih =>
    intro s
    have := ih (s + 1)
    unfold cnF
    split <;> omega
theorem cnF_add {P Q T : Nat → Bool} : ∀ f s, (∀ t, s ≤ t → t < s + f → T t = (P t || Q t) ∧ ¬ (P t = true ∧ Q t = true)) → cnF T f s = cnF P f s + cnF Q f s := by
  intro f
  induction f with
  | zero => intro s _; rfl
  | succ f ih =>
    intro s h
    have e := ih (s + 1) (fun t h1 h2 => h t (by omega) (by omega))
    obtain ⟨h1, h2⟩ := h s (Nat.le_refl s) (by omega)
    unfold cnF
    rw [e, h1]
    cases p : P s
    · cases q : Q s
      · rw [if_neg (by decide), if_neg (by decide)]; omega
      · rw [if_pos (by decide), if_neg (by decide), if_pos rfl]; omega
    · cases q : Q s
      · rw [if_pos (by decide), if_pos rfl, if_neg (by decide)]; omega
      · exact absurd ⟨p, q⟩ h2
theorem shL_len (m : Nat) : ∀ f s, (shL m f s).length ≤ 3 * cnF (fun t => m.testBit t) f s := by
  intro f
  induction f with
  | zero => intro s; exact Nat.le_refl 0
  | succ f ih =>
    intro s
    have := ih (s + 1)
    have n := num_len (s : Int)
    unfold shL cnF
    rw [List.length_append]
    by_cases z : m.testBit s = true
    · rw [if_pos z, if_pos z, List.length_cons]; omega
    · rw [if_neg z, if_neg z, List.length_nil]; omega
theorem cnF_cg {P Q : Nat → Bool} : ∀ f s, (∀ t, s ≤ t → t < s + f → P t = Q t) → cnF P f s = cnF Q f s := by
  intro f
  induction f with
  | zero => intro s _; rfl
  | succ f ih =>
    intro s h
    unfold cnF
    rw [ih (s + 1) (fun t h1 h2 => h t (by omega) (by omega)), h s (Nat.le_refl s) (by omega)]
theorem line_len (ρ : RHO) (q : Nat) : (lineL ρ q).length ≤ 9 + 3 * cnF (fun t => decide (hG ρ (ρ 0) (ρ 4).toNat t = q)) (ρ 4).toNat 0 := by
  have h1 := num_len (q : Int)
  have h2 := shL_len (qhG ρ (ρ 0) (ρ 4).toNat q (ρ 4).toNat) (ρ 4).toNat 0
  have h3 : (cod 23).length = 6 := by decide +kernel
  have h4 : cnF (fun t => (qhG ρ (ρ 0) (ρ 4).toNat q (ρ 4).toNat).testBit t) (ρ 4).toNat 0 = cnF (fun t => decide (hG ρ (ρ 0) (ρ 4).toNat t = q)) (ρ 4).toNat 0 := by
    refine cnF_cg _ _ (fun t _ ht => ?_)
    show (mkS (fun t => decide (hG ρ (ρ 0) (ρ 4).toNat t = q)) (ρ 4).toNat).testBit t = _
    rw [mkS_bit, decide_eq_true (show t < (ρ 4).toNat by omega), Bool.true_and]
  rw [h4] at h2
  unfold lineL
  rw [List.length_append, List.length_append, List.length_append, h3]
  show 6 + (numL (q : Int)).length + (shL (qhG ρ (ρ 0) (ρ 4).toNat q (ρ 4).toNat) (ρ 4).toNat 0).length + 1 ≤ _
  omega
theorem lines_len {ρ : RHO} (V : VB ρ) : ∀ f i, i + f = mSet ρ → (linesL ρ f i).length + 3 * cnF (fun t => (pwS (mSet ρ) (prG ρ) i).1.testBit (hG ρ (ρ 0) (ρ 4).toNat t)) (ρ 4).toNat 0 ≤ 9 * f + 3 * (ρ 4).toNat := by
  have P := prG_B V
  have hm := mSet_le V
  intro f
  induction f with
  | zero =>
    intro i hi
    have := cnF_le (fun t => (pwS (mSet ρ) (prG ρ) i).1.testBit (hG ρ (ρ 0) (ρ 4).toNat t)) (ρ 4).toNat 0
    show 0 + _ ≤ _
    omega
  | succ f ih =>
    intro i hi
    have h1 := ih (i + 1) (by omega)
    have h2 := line_len ρ (orS (mSet ρ) (prG ρ) i)
    obtain ⟨o1, o2, -⟩ := or_at P hm (show i < mSet ρ by omega)
    have h3 := cnF_add (T := fun t => (pwS (mSet ρ) (prG ρ) (i + 1)).1.testBit (hG ρ (ρ 0) (ρ 4).toNat t)) (P := fun t => (pwS (mSet ρ) (prG ρ) i).1.testBit (hG ρ (ρ 0) (ρ 4).toNat t)) (Q := fun t => decide (hG ρ (ρ 0) (ρ 4).toNat t = orS (mSet ρ) (prG ρ) i)) (ρ 4).toNat 0 (fun t _ _ => by
      refine ⟨?_, ?_⟩
      · show (pwS (mSet ρ) (prG ρ) (i + 1)).1.testBit _ = ((pwS (mSet ρ) (prG ρ) i).1.testBit _ || decide _)
        rw [pw_s]
        show ((pwS (mSet ρ) (prG ρ) i).1 ||| 2 ^ orS (mSet ρ) (prG ρ) i).testBit _ = _
        rw [Nat.testBit_or, Nat.testBit_two_pow]
        congr 1
        exact decide_eq_decide.mpr ⟨fun z => z.symm, fun z => z.symm⟩
      · rintro ⟨z1, z2⟩
        have z3 := of_decide_eq_true z2
        have z4 : (pwS (mSet ρ) (prG ρ) i).1.testBit (hG ρ (ρ 0) (ρ 4).toNat t) = true := z1
        rw [z3, o2] at z4
        exact absurd z4 (by decide))
    rw [h3] at h1
    show (lineL ρ (orS (mSet ρ) (prG ρ) i) ++ linesL ρ f (i + 1)).length + _ ≤ _
    rw [List.length_append]
    omega
theorem wk_ok (k : Nat) : wkL k < 28 ∧ (cod (wkL k)).length ≤ 9 := by
  have h : wkL k = 2 ∨ wkL k = 6 ∨ wkL k = 8 ∨ wkL k = 4 := by
    unfold wkL
    split
    · exact Or.inl rfl
    · split
      · exact Or.inr (Or.inl rfl)
      · split
        · exact Or.inr (Or.inr (Or.inl rfl))
        · exact Or.inr (Or.inr (Or.inr rfl))
  rcases h with h | h | h | h <;> rw [h] <;> decide +kernel
theorem flt_len (ρ : RHO) (s k : Nat) : (fltL ρ s k).length ≤ 19 := by
  have h1 := num_len (s : Int)
  have h2 := num_len (tolS ρ s k 2)
  have h3 : (cod 25).length = 5 := by decide +kernel
  have h4 := (wk_ok k).2
  unfold fltL
  rw [List.length_append, List.length_append, List.length_append, List.length_append, h3]
  show _ + 1 ≤ _
  omega
theorem flK_len (ρ : RHO) (s : Nat) : ∀ f k, (flK ρ s f k).length ≤ 19 * f := by
  intro f
  induction f with
  | zero => intro k; exact Nat.le_refl 0
  | succ f ih =>
    intro k
    have := ih (k + 1)
    have h := flt_len ρ s k
    unfold flK
    rw [List.length_append]
    split
    · omega
    · rw [List.length_nil]; omega
theorem fls_len (ρ : RHO) : ∀ f s, (flsL ρ f s).length ≤ 76 * f := by
  intro f
  induction f with
  | zero => intro k; exact Nat.le_refl 0
  | succ f ih =>
    intro s
    have h1 := ih (s + 1)
    have h2 := flK_len ρ s 4 0
    unfold flsL
    rw [List.length_append]
    omega
theorem plan_len {ρ : RHO} (V : VB ρ) : (planL ρ).length ≤ 1056 := by
  have hn := V.n
  have hm := mSet_le V
  have h1 := lines_len V (mSet ρ) 0 (by omega)
  have h2 := fls_len ρ (ρ 4).toNat 0
  unfold planL
  rw [List.length_append]
  omega
theorem getD_snoc (L : List Int) (x : Int) (k : Nat) (h : k < L.length + 1) : (L ++ [x]).getD k 0 = if k = L.length then x else L.getD k 0 := by
  rw [List.getD_eq_getElem?_getD, List.getD_eq_getElem?_getD, List.getElem?_append]
  by_cases z : k = L.length
  · rw [if_pos z, if_neg (by omega), z, Nat.sub_self]
    rfl
  · rw [if_neg z, if_pos (by omega)]
/-- the plan of the class, of the reference -/
def PLC (I : HI) (AD : Int → Nat) (L : List Int) : Prop := I (AD 26) 1 = iz (L.length : Int) ∧ AR I AD 27 L.length (fun k => L.getD k 0)
def PLM (I : HI) (AD : Int → Nat) (L : List Int) : Prop := I (AD 316) 28 = iz (L.length : Int) ∧ AR I AD 330 L.length (fun k => L.getD k 0)
def PWC (i : Int) (k : Nat) : Prop := i = 27 ∨ (i = 26 ∧ k = 1)
def PWM (i : Int) (k : Nat) : Prop := i = 330 ∨ (i = 316 ∧ k = 28)
section Q38
variable {fu : Nat} {sh : HS} {I I' I0 J : HI} {R : HR} {AD : Int → Nat} {P : Int → Int → Int} {σ : STT} {ρ : RHO} {L : List Int}
theorem PLC.by (S : OKS sh AD) (H : PLC I AD L) (x : Int) : PLC (u2 (u2 I (AD 27) L.length (iz x)) (AD 26) 1 (iz ((L.length : Int) + 1))) AD (L ++ [x]) ∧ FR AD I (u2 (u2 I (AD 27) L.length (iz x)) (AD 26) 1 (iz ((L.length : Int) + 1))) PWC := by
  have e : (L ++ [x]).length = L.length + 1 := by rw [List.length_append]; rfl
  refine ⟨⟨?_, ?_⟩, FR.u2 S (by decide) (by decide) (Or.inr ⟨rfl, rfl⟩) (FR.u2 S (by decide) (by decide) (Or.inl rfl) (FR.rf AD I _))⟩
  · rw [u2_ad S (by decide) (by decide) (by decide) (by decide), if_pos ⟨rfl, rfl⟩, e]
    rfl
  · intro k hk
    rw [e] at hk
    rw [u2_ne S (by decide) (by decide) (by decide) (by decide) (by decide), u2_ad S (by decide) (by decide) (by decide) (by decide)]
    show _ = iz ((L ++ [x]).getD k 0)
    rw [getD_snoc L x k hk]
    by_cases z : k = L.length
    · rw [if_pos ⟨rfl, z⟩, if_pos z]
    · rw [if_neg (fun w => z w.2), if_neg z]
      exact H.2 k (by omega)
theorem PLM.by (S : OKS sh AD) (H : PLM I AD L) (x : Int) : PLM (u2 (u2 I (AD 330) L.length (iz x)) (AD 316) 28 (iz ((L.length : Int) + 1))) AD (L ++ [x]) ∧ FR AD I (u2 (u2 I (AD 330) L.length (iz x)) (AD 316) 28 (iz ((L.length : Int) + 1))) PWM := by
  have e : (L ++ [x]).length = L.length + 1 := by rw [List.length_append]; rfl
  refine ⟨⟨?_, ?_⟩, FR.u2 S (by decide) (by decide) (Or.inr ⟨rfl, rfl⟩) (FR.u2 S (by decide) (by decide) (Or.inl rfl) (FR.rf AD I _))⟩
  · rw [u2_ad S (by decide) (by decide) (by decide) (by decide), if_pos ⟨rfl, rfl⟩, e]
    rfl
  · intro k hk
    rw [e] at hk
    rw [u2_ne S (by decide) (by decide) (by decide) (by decide) (by decide), u2_ad S (by decide) (by decide) (by decide) (by decide)]
    show _ = iz ((L ++ [x]).getD k 0)
    rw [getD_snoc L x k hk]
    by_cases z : k = L.length
    · rw [if_pos ⟨rfl, z⟩, if_pos z]
    · rw [if_neg (fun w => z w.2), if_neg z]
      exact H.2 k (by omega)
theorem charAt_ok {i j : Nat} (hi : i < 28) (hj : j < (cod i).length) : fJ0_charAt_5068e fu sh I R i (iz (j : Int)) = some (iz ((cod i).getD j 0)) := by
  obtain ⟨a, b, c, d, e⟩ := cod_ok hi
  unfold fJ0_charAt_5068e
  have hz : ¬ (iz (j : Int) < 0 ∨ sLen i ≤ (iz (j : Int)).toNatClampNeg) := by
    intro z
    rcases z with z | z
    · rw [iz_lit, iz_lt (by omega) (by omega) (by decide) (by decide)] at z
      have : (j : Int) < 0 := z
      omega
    · rw [iz_nat (by omega) (by omega)] at z
      omega
  rw [if_pos ⟨a, hz⟩, e j hj]
theorem length_ok {i : Nat} (hi : i < 28) : fJ0_length_8abf5 fu sh I R i = some (iz ((cod i).length : Int)) := by
  obtain ⟨a, b, c, d, e⟩ := cod_ok hi
  unfold fJ0_length_8abf5
  rw [if_pos a, c]
theorem drop_cons {M : List Int} {k : Nat} (h : k < M.length) (L : List Int) : L ++ M.drop k = (L ++ [M.getD k 0]) ++ M.drop (k + 1) := by
  rw [List.append_assoc, List.drop_eq_getElem_cons h]
  have e : M.getD k 0 = M[k] := by rw [List.getD_eq_getElem?_getD, List.getElem?_eq_getElem h]; rfl
  rw [e]
  rfl
end Q38
