/-! STAGE 2: the faults one by one, on both sides -/
def tolS (ρ : RHO) (s k b : Int) : Int := if b = 0 then s else if b = 1 then k else if k = 3 then blockS ρ s else s - 1
/-- from the kind k of the shot s on: the answer, or how many faults are still to be passed -/
def fiK (ρ : RHO) (s b : Int) : Nat → Nat → Int → Int ⊕ Int
  | 0, _, l => .inr l
  | f + 1, k, l => if (kindS ρ s).toNat.testBit k = true then (if l = 0 then .inl (tolS ρ s k b) else fiK ρ s b f (k + 1) (l - 1)) else fiK ρ s b f (k + 1) l
def fiS (ρ : RHO) (b : Int) : Nat → Nat → Int → Int ⊕ Nat
  | 0, _, _ => .inr 3
  | f + 1, s, l => match fiK ρ (s : Int) b 4 0 l with
    | .inl v => .inl v
    | .inr l' => fiS ρ b f (s + 1) l'
theorem fiK_range (ρ : RHO) (s b : Int) {m : Int} : ∀ (f k : Nat) (l : Int), 0 ≤ l → l ≤ m → ∀ l', fiK ρ s b f k l = .inr l' → 0 ≤ l' ∧ l' ≤ m
  | 0, k, l, h0, h1, l', e => by
    have e2 : l = l' := Sum.inr.inj e
    omega
  | f + 1, k, l, h0, h1, l', e => by
    unfold fiK at e
    cases t : (kindS ρ s).toNat.testBit k
    · rw [t, if_neg (by decide)] at e
      exact fiK_range ρ s b f (k + 1) l h0 h1 l' e
    · rw [t, if_pos rfl] at e
      by_cases z : l = 0
      · rw [if_pos z] at e
        exact absurd e (by intro w; cases w)
      · rw [if_neg z] at e
        exact fiK_range ρ s b f (k + 1) (l - 1) (by omega) (by omega) l' e
def aFault (σ : STT) (a b : Int) : Int ⊕ Nat := if σ.1 = true then (if (0 ≤ b ∧ b ≤ 2) ∧ 0 ≤ a then fiS σ.2.1 b (σ.2.1 4).toNat 0 a else .inr 2) else .inr 1
section Q10
variable {fu : Nat} {sh : HS} {I : HI} {R : HR} {AD : Int → Nat} {P : Int → Int → Int} {σ : STT} {ρ : RHO} {p : Int → Int}
theorem c_prop (S : OKS sh AD) (L : PLR R AD) (B : BA sh I R AD 28 p ρ) (V : VB ρ) (hfu : 5000 ≤ fu) {s b : Int} {k : Nat} (h0 : 0 ≤ s) (h1 : s < ρ 4) (hk : k < 4) (b0 : 0 ≤ b) (b1 : b ≤ 2) : fX10_propertyOfFault fu sh I R (AD 0) (iz s) (iz (k : Int)) (iz b) = some (iz (tolS ρ s k b)) := by
  have hn := V.n
  have ca := c_cause (fu := fu) B.1 V hfu h0 h1 (k := (k : Int)) (by omega) (by omega)
  have q : b = 0 ∨ b = 1 ∨ b = 2 := by omega
  simp only [fX10_propertyOfFault, fX10_propertyOfFault_b24, if_pos (isT_of S.pl), oR_at S.pl L.1.2.1, ca, bsome, iz_lit]
  simp (disch := omega) only [iz_eq]
  unfold tolS
  rcases q with rfl | rfl | rfl <;> rfl
theorem c_flt_in (S : OKS sh AD) (L : PLR R AD) (B : BA sh I R AD 28 p ρ) (V : VB ρ) (hfu : 5000 ≤ fu) {s b : Int} (h0 : 0 ≤ s) (h1 : s < ρ 4) (b0 : 0 ≤ b) (b1 : b ≤ 2) (k98 : Nat → Int32 → Int32 → Int32 → Option (Int32 ⊕ String)) : ∀ (f j k : Nat) (l : Int), k + f = 4 → f < j → 0 ≤ l → l ≤ 2147483647 →
    fX10_fault_l56 fu sh I R k98 j (AD 0) (iz b) (iz l) (iz s) (iz (kindS ρ s)) (iz (k : Int)) = match fiK ρ s b f k l with
      | .inl v => some (.inl (iz v))
      | .inr l' => k98 (AD 0) (iz b) (iz l') (iz s) := by
  have kr := kind_range ρ s
  intro f
  induction f with
  | zero =>
    intro j k l hk hj l0 l1
    obtain ⟨j, rfl⟩ : ∃ t, j = t + 1 := ⟨j - 1, by omega⟩
    show fX10_fault_b56 fu sh I R (fX10_fault_l56 fu sh I R k98 j) k98 _ _ _ _ _ _ = _
    simp only [fX10_fault_b56, iz_lit]
    rw [if_pos (by rw [iz_le (by omega) (by omega) (by omega) (by omega)]; omega)]
    rfl
  | succ f ih =>
    intro j k l hk hj l0 l1
    obtain ⟨j, rfl⟩ : ∃ t, j = t + 1 := ⟨j - 1, by omega⟩
    have ek : iz (k : Int) + iz 1 = iz ((k + 1 : Nat) : Int) := by rw [iz_add]; rfl
    have ho : fX10_holds fu sh I R (iz (kindS ρ s)) (iz (k : Int)) = some (bz ((kindS ρ s).toNat.testBit k)) := by
      rw [iz_tn (x := kindS ρ s) kr.1, c_holds (by omega) (by omega)]
    show fX10_fault_b56 fu sh I R (fX10_fault_l56 fu sh I R k98 j) k98 _ _ _ _ _ _ = _
    simp only [fX10_fault_b56, fX10_fault_b92, iz_lit, iz_neg, ho, bsome, bz_zero, c_prop S L B V hfu h0 h1 (show k < 4 by omega) b0 b1, ek]
    rw [if_neg (by rw [iz_le (by omega) (by omega) (by omega) (by omega)]; omega)]
    unfold fiK
    cases t : (kindS ρ s).toNat.testBit k
    · rw [if_pos rfl, if_neg (by decide)]
      exact ih j (k + 1) l (by omega) (by omega) l0 l1
    · rw [if_neg (by decide), if_pos rfl]
      simp (disch := omega) only [iz_eq]
      by_cases z : l = 0
      · rw [if_pos z, if_pos z]
      · rw [if_neg z, if_neg z, iz_add, show l + -1 = l - 1 by omega]
        exact ih j (k + 1) (l - 1) (by omega) (by omega) (by omega) (by omega)
theorem c_flt_out (S : OKS sh AD) (L : PLR R AD) (B : BA sh I R AD 28 p ρ) (V : VB ρ) (hfu : 5000 ≤ fu) {b : Int} (b0 : 0 ≤ b) (b1 : b ≤ 2) : ∀ (f j s : Nat) (l : Int), s + f = (ρ 4).toNat → f < j → 0 ≤ l → l ≤ 2147483647 →
    fX10_fault_l30 fu sh I R j (AD 0) (iz b) (iz l) (iz (s : Int)) = some (cOut (fiS ρ b f s l)) := by
  have hn := V.n
  intro f
  induction f with
  | zero =>
    intro j s l hk hj l0 l1
    obtain ⟨j, rfl⟩ : ∃ t, j = t + 1 := ⟨j - 1, by omega⟩
    show fX10_fault_b30 fu sh I R (fX10_fault_l30 fu sh I R j) _ _ _ _ = _
    simp only [fX10_fault_b30, oR_at S.pl L.1.2.1, B.1.2.1.2.2.2.2, bsome]
    rw [if_pos (by rw [iz_le (by omega) (by omega) (by omega) (by omega)]; omega)]
    rfl
  | succ f ih =>
    intro j s l hk hj l0 l1
    obtain ⟨j, rfl⟩ : ∃ t, j = t + 1 := ⟨j - 1, by omega⟩
    have ek : iz (s : Int) + iz 1 = iz ((s + 1 : Nat) : Int) := by rw [iz_add]; rfl
    have q := c_flt_in (fu := fu) S L B V hfu (show 0 ≤ (s : Int) by omega) (show (s : Int) < ρ 4 by omega) b0 b1 (fX10_fault_b98 fu sh I R (fX10_fault_l30 fu sh I R j)) 4 fu 0 l (by omega) (by omega) l0 l1
    have r := fiK_range ρ (s : Int) b 4 0 l l0 l1
    show fX10_fault_b30 fu sh I R (fX10_fault_l30 fu sh I R j) _ _ _ _ = _
    simp only [fX10_fault_b30, oR_at S.pl L.1.2.1, B.1.2.1.2.2.2.2, bsome, c_kinds B.1 V hfu (show 0 ≤ (s : Int) by omega) (show (s : Int) < ρ 4 by omega), iz_lit]
    rw [if_neg (by rw [iz_le (by omega) (by omega) (by omega) (by omega)]; omega)]
    refine q.trans ?_
    unfold fiS
    cases e : fiK ρ (s : Int) b 4 0 l with
    | inl v => rfl
    | inr l' =>
      have rl := r l' e
      simp only [fX10_fault_b98, iz_lit, ek]
      exact ih j (s + 1) l' (by omega) (by omega) rl.1 rl.2
theorem cq_fault (S : OKS sh AD) (V : VST σ) (hfu : 5000 ≤ fu) {a b : Int} (ha : IR a) (hb : IR b) : CP AD R P σ (fun I => fX10_fault fu sh I R (AD 0) (iz a) (iz b)) (aFault σ a b) := by
  intro I C
  unfold aFault
  obtain ⟨a1, a2⟩ := ha
  obtain ⟨b1, b2⟩ := hb
  by_cases h : σ.1 = true
  · have B := C.ba S V h
    have n4 := V.n4
    rw [if_pos h]
    simp only [fX10_fault, if_pos (isT_of S.pl), c_needBoard S C, if_pos h, oT0l, iz_lit]
    rw [c_needRange b1 b2 (by decide) (by decide) (by decide) (by decide)]
    by_cases z : 0 ≤ b ∧ b ≤ 2
    · rw [if_pos z, oT0l]
      by_cases y : 0 ≤ a
      · rw [if_pos (by rw [iz_le (by decide) (by decide) a1 a2]; exact y), if_pos ⟨z, y⟩]
        exact c_flt_out (fu := fu) S C.1.1 B (V.1 h) hfu z.1 z.2 (σ.2.1 4).toNat fu 0 a (by omega) (by omega) y a2
      · rw [if_neg (by rw [iz_le (by decide) (by decide) a1 a2]; exact y), if_neg (fun k => y k.2)]
        rfl
    · rw [if_neg z, oT0r, if_neg (fun k => z k.1)]
      rfl
  · rw [if_neg h]
    simp only [fX10_fault, if_pos (isT_of S.pl), c_needBoard S C, if_neg h, oT0r]
    rfl
end Q10
