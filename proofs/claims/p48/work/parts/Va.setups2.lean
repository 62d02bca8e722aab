/-! THE LAW, STAGE 2: Board.setups -/
/-- a list of boxed sets -/
def LSI (sh : HS) (I : HI) (R : HR) (K : Nat → Nat) (L ea cap : Nat) (S : List Nat) (g : Nat → Nat) : Prop := LST sh I R K L ea cap S ∧ ∀ (k q : Nat), S[k]? = some q → BOX sh I q (g k : Int)
section SE
variable {K J : Nat → Nat} {fu : Nat} {sh sh0 : HS} {I I0 : HI} {R R0 : HR} {A : Nat → Nat} {cap : Nat} {S : List Nat} {ρ : RHO} {r : Int} {L ea cap2 s c1 c2 : Nat} {S2 : List Nat} {P : Nat → HS → HI → HR → Prop}
theorem se_in {F : VF} {k83 : HS → HI → HR → Nat → Nat → Nat → Int32 → Nat → Int32 → Int32 → Prop} (B : LBD sh I R K A cap S ρ) (V : VB ρ) (hr : 0 ≤ r ∧ r ≤ 99) (hs : s < S.length) (hc : c1 ≤ 40 ∧ c2 ≤ 450)
    (T : LSI sh I R K L ea cap2 S2 (qG ρ r s)) (hm : S2.length = mG_ ρ r s) (hk : k83 sh I R c1 c2 (A 0) (iz r) L (iz (s : Int)) (iz (jG ρ r s : Int))) :
    ∀ (d a n : Nat), a + d = mG_ ρ r s → d < n → jG ρ r s = fsN (fun k => nearS ρ s (fG ρ r s k) r) a d → wX11_setups_l24 K J fu F k83 n sh I R c1 c2 (A 0) (iz r) L (iz (s : Int)) (iz (a : Int)) := by
  have hl := B.len
  have hn := V.n
  have ml := mG_le ρ r s
  intro d
  induction d with
  | zero =>
    intro a n had hn0 hj
    obtain ⟨n', rfl⟩ : ∃ n', n = n' + 1 := ⟨n - 1, by omega⟩
    show wX11_setups_b24 K J fu F (wX11_setups_l24 K J fu F k83 n') k83 sh I R c1 c2 (A 0) (iz r) L _ _
    unfold wX11_setups_b24
    refine ⟨rcv_k T.1.1, hc, l_size T.1 ?_⟩
    rw [if_pos (by rw [ile rfl rfl ⟨by omega, by omega⟩ ⟨by omega, by omega⟩]; omega)]
    have hj2 : jG ρ r s = a := hj
    rw [← hj2]
    exact hk
  | succ d ih =>
    intro a n had hn0 hj
    obtain ⟨n', rfl⟩ : ∃ n', n = n' + 1 := ⟨n - 1, by omega⟩
    have hj2 : jG ρ r s = if nearS ρ s (fG ρ r s a) r = true then a else fsN (fun k => nearS ρ s (fG ρ r s k) r) (a + 1) d := hj
    have ham : a < mG_ ρ r s := by omega
    have hf := fG_lt ρ r s a ham
    obtain ⟨q, hq⟩ : ∃ q, S[s]? = some q := ⟨S[s], List.getElem?_eq_getElem hs⟩
    obtain ⟨q', hq'⟩ : ∃ q', S[fG ρ r s a]? = some q' := ⟨S[fG ρ r s a]'(by omega), List.getElem?_eq_getElem (by omega)⟩
    obtain ⟨b, hb⟩ : ∃ b, S2[a]? = some b := ⟨S2[a]'(by omega), List.getElem?_eq_getElem (by omega)⟩
    have bx := T.2 a b hb
    show wX11_setups_b24 K J fu F (wX11_setups_l24 K J fu F k83 n') k83 sh I R c1 c2 (A 0) (iz r) L _ _
    unfold wX11_setups_b24
    refine ⟨rcv_k T.1.1, hc, l_size T.1 ?_⟩
    rw [if_neg (by rw [ile rfl rfl ⟨by omega, by omega⟩ ⟨by omega, by omega⟩]; omega)]
    refine wB_of (oR_at B.1.1.1 B.1.1.2.1) ?_
    refine ⟨rcv_k B.2.1.1, hc, l_get B.2.1 hq ?_⟩
    refine wB_of (oKt_1 (B.kk hq).2.2) ?_
    refine wB_of (oR_at B.1.1.1 B.1.1.2.1) ?_
    refine ⟨rcv_k T.1.1, hc, l_get T.1 hb ?_⟩
    refine wB_of bx.kt ?_
    refine ⟨bx.rcv, hc, l_int bx ?_⟩
    refine ⟨hc, wB_of (ntz_ok (qG_lt ρ r (by omega)) (qG_ne ham)) ?_⟩
    rw [qG_low (by omega) ham]
    refine ⟨rcv_k B.2.1.1, hc, l_get B.2.1 hq' ?_⟩
    refine wB_of (oKt_1 (B.kk hq').2.2) ?_
    refine ⟨B.r, hc, l_near B V hq hq' hr.1 hr.2 ?_⟩
    cases hN : nearS ρ s (fG ρ r s a) r with
    | true =>
      rw [if_neg (by decide)]
      rw [hN, if_pos rfl] at hj2
      rw [← hj2]
      exact hk
    | false =>
      rw [if_pos (by decide), il1, iz_add]
      rw [hN, if_neg (by decide)] at hj2
      exact ih (a + 1) n' (by omega) (by omega) hj2
/-- what holds at the head of the loop over the shots -/
def SIV (K : Nat → Nat) (sh0 : HS) (I0 : HI) (R0 : HR) (ρ : RHO) (r : Int) (L s m : Nat) (g : Nat → Nat) (sh : HS) (I : HI) (R : HR) : Prop :=
  EXH (fun _ => False) sh0 I0 R0 sh I R ∧ sh0 L = none ∧ ∃ ea cap2 S2, LSI sh I R K L ea cap2 S2 g ∧ S2.length = m ∧ ∀ c, sh ea = some (46, c) → sh0 ea = none
theorem se_101 {F : VF} {k10 : HS → HI → HR → Nat → Nat → Nat → Int32 → Nat → Int32 → Prop} {j m : Nat} {g : Nat → Nat} (O : OLD sh0 I0 R0 K) (hc : c1 + 1 ≤ 40 ∧ c2 + 1 ≤ 450) (T : SIV K sh0 I0 R0 ρ r L s m g sh I R) (hj : j < m) (hs : s < 12) (hg : g j < 4096)
    (hk : ∀ sh' I' R', SIV K sh0 I0 R0 ρ r L s m (fun k => if k = j then g k ||| 2 ^ s else g k) sh' I' R' → k10 sh' I' R' (c1 + 1) (c2 + 1) (A 0) (iz r) L (iz ((s + 1 : Nat) : Int))) : wX11_setups_b101 K J fu F k10 sh I R c1 c2 (A 0) (iz r) L (iz (s : Int)) (iz (j : Int)) := by
  obtain ⟨t1, t2, ea, cap2, S2, ⟨t3, t4⟩, t5, t6⟩ := T
  obtain ⟨b, hb⟩ : ∃ b, S2[j]? = some b := ⟨S2[j]'(by omega), List.getElem?_eq_getElem (by omega)⟩
  have bx := t4 j b hb
  unfold wX11_setups_b101
  refine ⟨rcv_k t3.1, ⟨by omega, by omega⟩, l_get t3 hb ?_⟩
  refine wB_of bx.kt ?_
  refine ⟨bx.rcv, ⟨by omega, by omega⟩, l_int bx ?_⟩
  refine ⟨hc, ?_⟩
  rw [iz_shl (by omega), iz_orN]
  have hor : g j ||| 2 ^ s < 4096 := Nat.or_lt_two_pow (n := 12) hg (Nat.pow_lt_pow_right (by decide) hs)
  refine l_valueOf (O.ex0 t1) ⟨by omega, by omega⟩ (fun q sh1 I1 R1 e1 b1 => ?_)
  have t3' := t3.ex e1 (fun z => z) (fun z => z)
  refine ⟨rcv_k t3'.1, hc, l_set t3' hb b1.ok ?_⟩
  rw [il1, iz_add]
  refine hk _ _ _ ⟨?_, t2, ea, cap2, S2.set j q, ⟨t3'.set (by omega) q, fun k y hy => ?_⟩, by rw [List.length_set]; exact t5, fun c hc' => ?_⟩
  · have hne : sh0 ea = none := by
      have := (t3.lt hb).2
      exact t6 _ this
    exact (t1.tr e1 (fun _ _ z => z)).tr (EXH.wR sh1 I1 R1 ea j (some q)) (fun y hy z => hy (by rw [z]; exact hne))
  · by_cases z : k = j
    · rw [z, List.getElem?_set_self (by omega)] at hy
      cases hy
      show BOX sh1 I1 q ((if k = j then g k ||| 2 ^ s else g k : Nat) : Int)
      rw [if_pos z, z]
      exact b1
    · rw [List.getElem?_set_ne (Ne.symm z)] at hy
      show BOX sh1 I1 y ((if k = j then g k ||| 2 ^ s else g k : Nat) : Int)
      rw [if_neg z]
      exact (t4 k y hy).ex e1 (fun w => w)
  · have hne : ¬ sh ea = none := nnk (t3.lt hb).2
    rw [e1.1 ea hne] at hc'
    exact t6 c hc'
theorem se_83 {F : VF} {k10 : HS → HI → HR → Nat → Nat → Nat → Int32 → Nat → Int32 → Prop} (O : OLD sh0 I0 R0 K) (V : VB ρ) (hs : (s : Int) < ρ 4) (hc : c1 + 3 ≤ 40 ∧ c2 + 34 ≤ 450) (T : SIV K sh0 I0 R0 ρ r L s (mG_ ρ r s) (qG ρ r s) sh I R)
    (hk : ∀ sh' I' R' c1' c2', c1' ≤ c1 + 3 ∧ c2' ≤ c2 + 34 → SIV K sh0 I0 R0 ρ r L (s + 1) (mG_ ρ r (s + 1)) (qG ρ r (s + 1)) sh' I' R' → k10 sh' I' R' c1' c2' (A 0) (iz r) L (iz ((s + 1 : Nat) : Int))) : wX11_setups_b83 K J fu F k10 sh I R c1 c2 (A 0) (iz r) L (iz (s : Int)) (iz (jG ρ r s : Int)) := by
  have hn := V.n
  have jl := jG_le ρ r s
  have ml := mG_le ρ r s
  have T0 := T
  obtain ⟨t1, t2, ea, cap2, S2, ⟨t3, t4⟩, t5, t6⟩ := T
  have fin : ∀ (sh' : HS) (I' : HI) (R' : HR) (c1' c2' : Nat) (g : Nat → Nat), c1' + 1 ≤ c1 + 3 ∧ c2' + 1 ≤ c2 + 34 → (∀ k, (if k = jG ρ r s then g k ||| 2 ^ s else g k) = qG ρ r (s + 1) k) → SIV K sh0 I0 R0 ρ r L s (mG_ ρ r (s + 1)) (fun k => if k = jG ρ r s then g k ||| 2 ^ s else g k) sh' I' R' → k10 sh' I' R' (c1' + 1) (c2' + 1) (A 0) (iz r) L (iz ((s + 1 : Nat) : Int)) := by
    intro sh' I' R' c1' c2' g h1 h2 h3
    refine hk _ _ _ _ _ h1 ?_
    obtain ⟨u1, u2, ea', cap', S', ⟨u3, u4⟩, u5, u6⟩ := h3
    exact ⟨u1, u2, ea', cap', S', ⟨u3, fun k q hq => by rw [← h2 k]; exact u4 k q hq⟩, u5, u6⟩
  have hq : ∀ k, (if k = jG ρ r s then qG ρ r s k ||| 2 ^ s else qG ρ r s k) = qG ρ r (s + 1) k := by
    intro k
    rw [qG_s]
    by_cases z : k = jG ρ r s
    · rw [if_pos z, if_pos z.symm]
    · rw [if_neg z, if_neg (fun w => z w.symm), Nat.or_zero]
  unfold wX11_setups_b83
  refine ⟨rcv_k t3.1, ⟨by omega, by omega⟩, l_size t3 ?_⟩
  rw [t5]
  by_cases hj : jG ρ r s = mG_ ρ r s
  · rw [if_pos (by rw [hj])]
    refine ⟨⟨by omega, by omega⟩, ?_⟩
    rw [il0]
    refine l_valueOf (O.ex0 t1) ⟨by decide, by decide⟩ (fun q sh1 I1 R1 e1 b1 => ?_)
    have t3' := t3.ex e1 (fun z => z) (fun z => z)
    refine ⟨rcv_k t3'.1, ⟨by omega, by omega⟩, ?_⟩
    refine l_add t3' (by omega) b1.ok (fun y hy => ?_) (fun sh2 I2 R2 ea' cap' u1 u2 u3 => ?_)
    · obtain ⟨k, hk1⟩ := List.getElem?_of_mem hy
      exact ((t4 k y hk1).ex e1 (fun w => w)).ok
    · have hLn : ∀ y, BOX sh1 I1 y ((0 : Nat) : Int) ∨ (∃ v, BOX sh1 I1 y v) → ¬ XL sh1 L ea y := by
        rintro y hy (z | ⟨z, c, hc'⟩)
        · subst z
          have h10 := t3'.1
          rcases hy with hy | ⟨v, hy⟩
          · rcases hy.1 with w | w <;> rw [h10] at w <;> cases w
          · rcases hy.1 with w | w <;> rw [h10] at w <;> cases w
        · subst z
          rcases hy with hy | ⟨v, hy⟩
          · rcases hy.1 with w | w <;> rw [hc'] at w <;> cases w
          · rcases hy.1 with w | w <;> rw [hc'] at w <;> cases w
      have hmg : mG_ ρ r (s + 1) = mG_ ρ r s + 1 := by rw [mG_s, if_pos hj]
      have S1 : SIV K sh0 I0 R0 ρ r L s (mG_ ρ r s + 1) (qG ρ r s) sh2 I2 R2 := by
        refine ⟨?_, t2, ea', cap', S2 ++ [q], ⟨u1, fun k y hy => ?_⟩, by rw [List.length_append, t5]; rfl, fun c hc' => ?_⟩
        · refine (t1.tr e1 (fun _ _ z => z)).tr u2 (fun y hy z => ?_)
          rcases z with z | ⟨z, c, hc'⟩
          · exact hy (by rw [z]; exact t2)
          · have hne : ¬ sh ea = none := by
              rcases t3.2.2.1 with ⟨w, -⟩ | ⟨w, -⟩
              · exact nnk w
              · exact nnk w
            rw [e1.1 ea hne] at hc'
            exact hy (by rw [z]; exact t6 c hc')
        · by_cases z : k < S2.length
          · rw [List.getElem?_append_left z] at hy
            have b2 := (t4 k y hy).ex e1 (fun w => w)
            exact b2.ex u2 (hLn y (Or.inr ⟨_, b2⟩))
          · rw [List.getElem?_append_right (by omega)] at hy
            have hy2 : q = y := by
              cases hkk : k - S2.length with
              | zero => rw [hkk] at hy; exact Option.some.inj hy
              | succ n => rw [hkk] at hy; cases hy
            subst hy2
            rw [qG_new (by omega)]
            exact b1.ex u2 (hLn q (Or.inl b1))
        · rcases u3 with u3 | u3
          · subst u3
            have hne : ¬ sh ea' = none := by
              rcases t3.2.2.1 with ⟨w, -⟩ | ⟨w, -⟩
              · exact nnk w
              · exact nnk w
            rw [u2.1 ea' (e1.nn hne), e1.1 ea' hne] at hc'
            exact t6 c hc'
          · cases h0 : sh0 ea' with
            | none => rfl
            | some z =>
              have := (t1.tr e1 (fun _ _ z => z)).k h0
              rw [u3] at this
              cases this
      refine se_101 (A := A) (J := J) (fu := fu) (j := jG ρ r s) O ⟨by omega, by omega⟩ S1 (by omega) (by omega) (qG_lt ρ r (by omega)) (fun sh3 I3 R3 h3 => ?_)
      refine fin sh3 I3 R3 (c1 + 1 + 1) (c2 + 1 + 32) (qG ρ r s) ⟨by omega, by omega⟩ hq ?_
      rw [hmg]
      exact h3
  · rw [if_neg (by rw [ieq rfl rfl ⟨by omega, by omega⟩ ⟨by omega, by omega⟩]; omega)]
    have hmg : mG_ ρ r (s + 1) = mG_ ρ r s := by rw [mG_s, if_neg hj]
    refine se_101 (A := A) (J := J) (fu := fu) (j := jG ρ r s) O ⟨by omega, by omega⟩ T0 (by omega) (by omega) (qG_lt ρ r (by omega)) (fun sh3 I3 R3 h3 => ?_)
    refine fin sh3 I3 R3 c1 c2 (qG ρ r s) ⟨by omega, by omega⟩ hq ?_
    rw [hmg]
    exact h3
theorem se_10 (B : LBD sh0 I0 R0 K A cap S ρ) (V : VB ρ) (O : OLD sh0 I0 R0 K) (hr : 0 ≤ r ∧ r ≤ 99) (hfu : 5000 ≤ fu)
    (hP : ∀ sh' I' R', SIV K sh0 I0 R0 ρ r L (ρ 4).toNat (mG_ ρ r (ρ 4).toNat) (qG ρ r (ρ 4).toNat) sh' I' R' → P L sh' I' R') : ∀ (d s n : Nat) (sh : HS) (I : HI) (R : HR) (c1 c2 : Nat), s + d = S.length → d < n → c1 ≤ 1 + 3 * s ∧ c2 ≤ 3 + 34 * s → SIV K sh0 I0 R0 ρ r L s (mG_ ρ r s) (qG ρ r s) sh I R → wX11_setups_l10 K J fu (qwR P) n sh I R c1 c2 (A 0) (iz r) L (iz (s : Int)) := by
  have hl := B.len
  have hn := V.n
  intro d
  induction d with
  | zero =>
    intro s n sh I R c1 c2 hsd hn0 hc T
    obtain ⟨n', rfl⟩ : ∃ n', n = n' + 1 := ⟨n - 1, by omega⟩
    have B' := B.ex0 T.1
    show wX11_setups_b10 K J fu (qwR P) (wX11_setups_l10 K J fu (qwR P) n') sh I R c1 c2 (A 0) (iz r) L _
    unfold wX11_setups_b10
    refine wB_of (oR_at B'.1.1.1 B'.1.1.2.1) ?_
    refine ⟨rcv_k B'.2.1.1, ⟨by omega, by omega⟩, l_size B'.2.1 ?_⟩
    rw [if_pos (by rw [ile rfl rfl ⟨by omega, by omega⟩ ⟨by omega, by omega⟩]; omega)]
    have hs : s = (ρ 4).toNat := by omega
    rw [hs] at T
    exact ⟨⟨by omega, by omega⟩, _, rfl, hP _ _ _ T⟩
  | succ d ih =>
    intro s n sh I R c1 c2 hsd hn0 hc T
    obtain ⟨n', rfl⟩ : ∃ n', n = n' + 1 := ⟨n - 1, by omega⟩
    have B' := B.ex0 T.1
    have ml := mG_le ρ r s
    show wX11_setups_b10 K J fu (qwR P) (wX11_setups_l10 K J fu (qwR P) n') sh I R c1 c2 (A 0) (iz r) L _
    unfold wX11_setups_b10
    refine wB_of (oR_at B'.1.1.1 B'.1.1.2.1) ?_
    refine ⟨rcv_k B'.2.1.1, ⟨by omega, by omega⟩, l_size B'.2.1 ?_⟩
    rw [if_neg (by rw [ile rfl rfl ⟨by omega, by omega⟩ ⟨by omega, by omega⟩]; omega)]
    have T0 := T
    obtain ⟨t1, t2, ea, cap2, S2, t3, t5, t6⟩ := T
    refine se_in (fu := fu) (J := J) B' V hr (by omega) ⟨by omega, by omega⟩ t3 t5 ?_ (mG_ ρ r s) 0 fu (by omega) (by omega) rfl
    refine se_83 O V (by omega) ⟨by omega, by omega⟩ T0 (fun sh' I' R' c1' c2' hc' T' => ?_)
    exact ih (s + 1) n' sh' I' R' c1' c2' (by omega) (by omega) ⟨by omega, by omega⟩ T'
theorem l_setups (B : LBD sh0 I0 R0 K A cap S ρ) (V : VB ρ) (O : OLD sh0 I0 R0 K) (hr : 0 ≤ r ∧ r ≤ 99) (hfu : 5000 ≤ fu)
    (hP : ∀ L sh' I' R' ea cap2 S2, EXH (fun _ => False) sh0 I0 R0 sh' I' R' → LSI sh' I' R' K L ea cap2 S2 (qG ρ r (ρ 4).toNat) → S2.length = mG_ ρ r (ρ 4).toNat → P L sh' I' R') : wX11_setups K J fu sh0 I0 R0 (A 0) (iz r) (qwR P) := by
  have hl := B.len
  have hn := V.n
  unfold wX11_setups
  refine ⟨⟨by decide, by decide⟩, fun a ha => ⟨⟨by decide, by decide⟩, ?_⟩⟩
  refine l_init u1_on ?_
  rw [il0]
  refine se_10 (L := a) B V O hr hfu (fun sh' I' R' T => ?_) S.length 0 fu _ _ _ (0 + 1) (0 + 3) (by omega) (by omega) ⟨by decide, by decide⟩ ?_
  · obtain ⟨t1, t2, ea, cap2, S2, t3, t5, t6⟩ := T
    exact hP a _ _ _ ea cap2 S2 t1 t3 t5
  · refine ⟨?_, ha, K nS, 0, [], ⟨LST.nil O.1 ha (fun _ => none), fun k q hk => by cases hk⟩, rfl, fun c hc => ?_⟩
    · have e1 := EXH.new I0 R0 ha (10, 3) (fun _ => 0) (fun _ => none)
      have e2 := e1.tr (EXH.wI _ (u1 I0 a (fun _ => 0)) (u1 R0 a (fun _ => none)) a 0 0) (fun q hq z => hq (by rw [z]; exact ha))
      exact e2.tr (EXH.wR _ _ (u1 R0 a (fun _ => none)) a 1 (some (K nS))) (fun q hq z => hq (by rw [z]; exact ha))
    · have hne : K nS ≠ a := fun e => by have := O.1; rw [e, ha] at this; cases this
      rw [u1_off hne, O.1] at hc
      cases hc
end SE
