/-! THE LAW, STAGE 2: what stays of a heap; lists made and grown, boxed ints -/
def EXH (X : Nat → Prop) (sh : HS) (I : HI) (R : HR) (sh' : HS) (I' : HI) (R' : HR) : Prop := (∀ a, ¬ sh a = none → sh' a = sh a) ∧ ∀ a, ¬ sh a = none → ¬ X a → I' a = I a ∧ R' a = R a
theorem EXH.rf (X : Nat → Prop) (sh : HS) (I : HI) (R : HR) : EXH X sh I R sh I R := ⟨fun _ _ => rfl, fun _ _ _ => ⟨rfl, rfl⟩⟩
theorem EXH.tr {X Y : Nat → Prop} {sh sh1 sh2 : HS} {I I1 I2 : HI} {R R1 R2 : HR} (a : EXH X sh I R sh1 I1 R1) (b : EXH Y sh1 I1 R1 sh2 I2 R2) (h : ∀ q, ¬ sh q = none → Y q → X q) : EXH X sh I R sh2 I2 R2 :=
  ⟨fun q hq => by rw [b.1 q (by rw [a.1 q hq]; exact hq), a.1 q hq], fun q hq hx => by
    have e := a.2 q hq hx
    have f := b.2 q (by rw [a.1 q hq]; exact hq) (fun z => hx (h q hq z))
    exact ⟨f.1.trans e.1, f.2.trans e.2⟩⟩
theorem EXH.mono {X Y : Nat → Prop} {sh sh1 : HS} {I I1 : HI} {R R1 : HR} (a : EXH X sh I R sh1 I1 R1) (h : ∀ q, ¬ sh q = none → X q → Y q) : EXH Y sh I R sh1 I1 R1 := ⟨a.1, fun q hq hx => a.2 q hq (fun z => hx (h q hq z))⟩
theorem EXH.nn {X : Nat → Prop} {sh sh1 : HS} {I I1 : HI} {R R1 : HR} (a : EXH X sh I R sh1 I1 R1) {q : Nat} (h : ¬ sh q = none) : ¬ sh1 q = none := by rw [a.1 q h]; exact h
theorem nnk {sh : HS} {q : Nat} {z : Nat × Nat} (h : sh q = some z) : ¬ sh q = none := by rw [h]; simp
theorem EXH.k {X : Nat → Prop} {sh sh1 : HS} {I I1 : HI} {R R1 : HR} (a : EXH X sh I R sh1 I1 R1) {q : Nat} {z : Nat × Nat} (h : sh q = some z) : sh1 q = some z := (a.1 q (nnk h)).trans h
/-- a new cell -/
theorem EXH.new {sh : HS} (I : HI) (R : HR) {a : Nat} (h : sh a = none) (z : Nat × Nat) (f : Nat → Int32) (g : Nat → Option Nat) : EXH (fun _ => False) sh I R (u1 sh a (some z)) (u1 I a f) (u1 R a g) :=
  ⟨fun q hq => u1_off (fun e => hq (by rw [e]; exact h)), fun q hq _ => ⟨u1_off (fun e => hq (by rw [e]; exact h)), u1_off (fun e => hq (by rw [e]; exact h))⟩⟩
theorem EXH.newI {sh : HS} (I : HI) (R : HR) {a : Nat} (h : sh a = none) (z : Nat × Nat) (f : Nat → Int32) : EXH (fun _ => False) sh I R (u1 sh a (some z)) (u1 I a f) R :=
  ⟨fun q hq => u1_off (fun e => hq (by rw [e]; exact h)), fun q hq _ => ⟨u1_off (fun e => hq (by rw [e]; exact h)), rfl⟩⟩
theorem EXH.newR {sh : HS} (I : HI) (R : HR) {a : Nat} (h : sh a = none) (z : Nat × Nat) (g : Nat → Option Nat) : EXH (fun _ => False) sh I R (u1 sh a (some z)) I (u1 R a g) :=
  ⟨fun q hq => u1_off (fun e => hq (by rw [e]; exact h)), fun q hq _ => ⟨rfl, u1_off (fun e => hq (by rw [e]; exact h))⟩⟩
theorem EXH.wI (sh : HS) (I : HI) (R : HR) (a k : Nat) (x : Int32) : EXH (fun q => q = a) sh I R sh (u2 I a k x) R := ⟨fun _ _ => rfl, fun q _ hx => ⟨funext (fun j => u2_off hx j), rfl⟩⟩
theorem EXH.wR (sh : HS) (I : HI) (R : HR) (a k : Nat) (x : Option Nat) : EXH (fun q => q = a) sh I R sh I (u2 R a k x) := ⟨fun _ _ => rfl, fun q _ hx => ⟨rfl, funext (fun j => u2_off hx j)⟩⟩
theorem u2_self {α : Type} {f : Nat → Nat → α} {a k : Nat} {x : α} : u2 f a k x a k = x := by rw [u2_on, if_pos rfl]
theorem u2_k {α : Type} {f : Nat → Nat → α} {a k j : Nat} {x : α} (h : ¬ j = k) : u2 f a k x a j = f a j := by rw [u2_on, if_neg h]
section JD
variable {K J : Nat → Nat} {fu : Nat} {sh : HS} {I : HI} {R : HR} {L ea cap v : Nat} {S : List Nat}
theorem l_init {P : HS → HI → HR → Prop} (h : sh L = some (10, 3)) (hP : P sh (u2 I L 0 0) (u2 R L 1 (some (K nS)))) : wJx4a65c_init_da8c8 K J fu sh I R L (qwV P) := by
  unfold wJx4a65c_init_da8c8 wJxc12de_init_da8c8 wJxa1e45_init_da8c8
  refine ⟨rfl, ?_⟩
  refine wB_of (oP_at h) ?_
  refine ⟨rfl, ?_⟩
  refine wB_of (oQ_at h) ?_
  exact ⟨rfl, hP⟩
/-- a new, empty list -/
theorem LST.nil {a : Nat} (h0 : sh (K nS) = some (24, 0)) (ha : sh a = none) (f : Nat → Option Nat) : LST (u1 sh a (some (10, 3))) (u2 (u1 I a (fun _ => 0)) a 0 0) (u2 (u1 R a f) a 1 (some (K nS))) K a (K nS) 0 [] := by
  have hne : K nS ≠ a := fun e => by rw [e, ha] at h0; cases h0
  refine ⟨u1_on, u2_self, Or.inr ⟨by rw [u1_off hne]; exact h0, rfl, rfl, rfl⟩, Nat.le_refl _, by decide, ?_, fun k q hk => by cases hk⟩
  rw [u2_k (by decide), u1_on]
  rfl
theorem LST.cg {sh' : HS} {I' : HI} {R' : HR} (h : LST sh I R K L ea cap S) (e1 : sh' L = sh L) (e2 : I' L 2 = I L 2) (e3 : R' L 1 = R L 1) (e4 : sh' ea = sh ea) (e5 : R' ea = R ea) : LST sh' I' R' K L ea cap S := by
  obtain ⟨h1, h2, h3, h4, h5, h6, h7⟩ := h
  exact ⟨e1.trans h1, e3.trans h2, by rw [e4]; exact h3, h4, h5, e2.trans h6, fun k q hk => by rw [e5]; exact h7 k q hk⟩
theorem LST.ne (h : LST sh I R K L ea cap S) : ¬ L = ea := fun e => by
  obtain ⟨h1, h2, h3, h4, h5, h6, h7⟩ := h
  rw [← e, h1] at h3
  rcases h3 with ⟨h3, -⟩ | ⟨h3, -⟩ <;> cases h3
theorem LST.ex {X : Nat → Prop} {sh' : HS} {I' : HI} {R' : HR} (h : LST sh I R K L ea cap S) (e : EXH X sh I R sh' I' R') (x1 : ¬ X L) (x2 : ¬ X ea) : LST sh' I' R' K L ea cap S := by
  have n1 : ¬ sh L = none := nnk h.1
  have n2 : ¬ sh ea = none := by
    rcases h.2.2.1 with ⟨z, -⟩ | ⟨z, -⟩
    · exact nnk z
    · exact nnk z
  exact h.cg (e.1 L n1) (by rw [(e.2 L n1 x1).1]) (by rw [(e.2 L n1 x1).2]) (e.1 ea n2) (e.2 ea n2 x2).2
/-- what a list's change may touch: the list, and its array where that is one of its own -/
def XL (sh : HS) (L ea : Nat) : Nat → Prop := fun q => q = L ∨ (q = ea ∧ ∃ c, sh ea = some (46, c))
theorem nI_iz (n : Nat) : nI n = iz (n : Int) := (Int32.ofInt_eq_ofNat (n := n)).symm
theorem oLn_n {q t m : Nat} (h : sh q = some (t, m)) (ht : arKb t = true) : oLn sh q = some (iz (m : Int)) := by
  unfold oLn
  rw [h]
  dsimp only
  rw [if_pos ht, nI_iz]
theorem oAs_n {q m : Nat} {x : Int32} (h : sh q = some (46, m)) (j : Nat) (hj : j < m) (hx : x = iz (j : Int)) (hv : okEb sh v = true) (hm : m ≤ 2147483647 := by omega) : oAs sh R q x v = some (u2 R q j (some v)) := by
  subst hx
  unfold oAs
  rw [if_pos ⟨inA_n h hj hm, hv⟩, iz_nat (by omega) (by omega)]
  rfl
/-- the element is put behind the last, where there is room -/
theorem l_add11 {P : HS → HI → HR → Prop} {c1 c2 : Nat} (hc : c1 ≤ 1 ∧ c2 ≤ 32) (h1 : sh L = some (10, 3)) (he : sh ea = some (46, cap)) (hl : S.length < cap) (hc32 : cap ≤ 32) (hv : okEb sh v = true) (hP : P sh (u2 I L 2 (iz ((S.length + 1 : Nat) : Int))) (u2 R ea S.length (some v))) :
    wJx4a65c_add_72be8_b11 K J fu (qwV P) sh I R c1 c2 L v ea (iz (S.length : Int)) := by
  unfold wJx4a65c_add_72be8_b11
  refine wB_of (oAs_n he S.length hl rfl hv (by omega)) ?_
  rw [il1, iz_add]
  refine wB_of (oP_at h1) ?_
  exact ⟨hc, rfl, hP⟩
theorem LST.app {v : Nat} (h : sh L = some (10, 3)) (hr : R L 1 = some ea) (he : sh ea = some (46, cap)) (hl : S.length < cap) (hc32 : cap = 10 ∨ cap = 15) (hS : ∀ (k q : Nat), S[k]? = some q → R ea k = some q) : LST sh (u2 I L 2 (iz ((S.length + 1 : Nat) : Int))) (u2 R ea S.length (some v)) K L ea cap (S ++ [v]) := by
  have hne : L ≠ ea := fun e => by rw [e, he] at h; cases h
  refine ⟨h, by rw [u2_off hne]; exact hr, Or.inl ⟨he, hc32⟩, by rw [List.length_append]; exact hl, by omega, by rw [u2_self, List.length_append]; rfl, fun k q hk => ?_⟩
  rw [u2_on]
  by_cases z : k = S.length
  · rw [if_pos z]
    rw [z, List.getElem?_append_right (Nat.le_refl _), Nat.sub_self] at hk
    exact hk
  · rw [if_neg z]
    have h7 := (List.getElem?_eq_some_iff.mp hk).1
    rw [List.length_append] at h7
    have h8 : k < S.length := by
      have : [v].length = 1 := rfl
      omega
    rw [List.getElem?_append_left h8] at hk
    exact hS k q hk
theorem l_grow {P : Nat → HS → HI → HR → Prop} (h : LST sh I R K L ea cap S) (hfull : S.length = cap) (hc : cap = 0 ∨ cap = 10) (hok : ∀ q, q ∈ S → okEb sh q = true)
    (hP : ∀ ea' cap' sh' R', sh ea' = none → sh' ea' = some (46, cap') → S.length < cap' → (cap' = 10 ∨ cap' = 15) → EXH (fun q => q = L) sh I R sh' I R' → R' L 1 = some ea' → (∀ (k q : Nat), S[k]? = some q → R' ea' k = some q) → P ea' sh' I R') : wJx4a65c_grow_d5877 K J fu sh I R L (qwR P) := by
  obtain ⟨h1, h2, h3, h4, h5, h6, h7⟩ := h
  unfold wJx4a65c_grow_d5877
  refine wB_of (oI_at h1) ?_
  refine ⟨rcv_k h1, ⟨by decide, by decide⟩, ?_⟩
  rw [h6, il1, iz_add, hfull]
  have fin : ∀ {a : Nat} {f : HR}, sh a = none → ∀ c, S.length < c → (c = 10 ∨ c = 15) → (∀ b, ¬ b = a → f b = R b) → (∀ (k q : Nat), S[k]? = some q → f a k = some q) → P a (u1 sh a (some (46, c))) I (u2 f L 1 (some a)) := by
    intro a f ha c c1 c2 hf hk
    have la : L ≠ a := fun e => by rw [e, ha] at h1; cases h1
    refine hP a c _ _ ha u1_on c1 c2 ⟨fun q hq => u1_off (fun e => hq (by rw [e]; exact ha)), fun q hq hx => ⟨rfl, ?_⟩⟩ u2_self (fun k q hkq => ?_)
    · funext j
      rw [u2_off hx, hf q (fun e => hq (by rw [e]; exact ha))]
    · rw [u2_off (Ne.symm la)]
      exact hk k q hkq
  unfold wJx4a65c_grow_92f84
  refine wB_of (oR_at h1 h2) ?_
  rcases hc with hc | hc
  · rcases h3 with ⟨h3, h8⟩ | ⟨h3, h8, h9, -⟩
    · omega
    · refine wB_of (oLn_n h3 (by decide)) ?_
      rw [if_neg (by rw [ilt il0 rfl ⟨by decide, by decide⟩ ⟨by decide, by decide⟩]; decide)]
      refine wB_of (oR_at h1 h2) ?_
      rw [if_pos (by rw [h8])]
      have e10 : iMax 10 (iz ((cap : Int) + 1)) = iz ((10 : Nat) : Int) := by rw [hc]; decide
      rw [e10, iz_nat (by decide) (by decide)]
      refine ⟨⟨by decide, by decide⟩, ⟨by decide, by decide⟩, ⟨by decide, by decide⟩, fun a ha => ?_⟩
      have la : L ≠ a := fun e => by rw [e, ha] at h1; cases h1
      refine wB_of (oQ_at (t := 10) (n := 3) (by rw [u1_off la]; exact h1)) ?_
      refine ⟨⟨by decide, by decide⟩, _, rfl, ⟨by decide, by decide⟩, _, rfl, ?_⟩
      exact fin ha 10 (by omega) (Or.inl rfl) (fun b hb => u1_off hb) (fun k q hk => by rw [h9] at hk; cases hk)
  · rcases h3 with ⟨h3, h8⟩ | ⟨h3, h8, h9, h10⟩
    · refine wB_of (oLn_n h3 (by decide)) ?_
      rw [if_pos (by rw [ilt il0 rfl ⟨by decide, by decide⟩ ⟨by omega, by omega⟩]; omega)]
      unfold wJx4a65c_grow_92f84_b20
      refine ⟨⟨by decide, by decide⟩, ?_⟩
      subst hc
      unfold wJ8_newLength_cabcc
      rw [if_neg (by decide), if_neg (by decide)]
      have e15 : iz ((10 : Nat) : Int) + iMax (iz (((10 : Nat) : Int) + 1) - iz ((10 : Nat) : Int)) (iz ((10 : Nat) : Int) >>> (1 &&& 31)) = iz ((15 : Nat) : Int) := by decide
      rw [e15]
      refine ⟨_, rfl, ?_⟩
      refine wB_of (oR_at h1 h2) ?_
      refine ⟨⟨by decide, by decide⟩, ?_⟩
      unfold wJ7_copyOf_1904c
      refine ⟨⟨10, h3⟩, ⟨by decide, by decide⟩, ⟨by decide, by decide⟩, ?_⟩
      unfold wJ7_copyOf_6403c
      rw [if_pos rfl, iz_nat (by decide) (by decide)]
      refine ⟨⟨by decide, by decide⟩, ⟨by decide, by decide⟩, fun a ha => ?_⟩
      have la : L ≠ a := fun e => by rw [e, ha] at h1; cases h1
      have ea' : ea ≠ a := fun e => by rw [e, ha] at h3; cases h3
      have h3' : u1 sh a (some (46, (((15 : Nat) : Int)).toNat)) ea = some (46, 10) := by rw [u1_off ea']; exact h3
      refine wB_of (oLn_n h3' (by decide)) ?_
      refine ⟨⟨by decide, by decide⟩, ⟨by decide, by decide⟩, ?_⟩
      have e10 : iMin (iz ((10 : Nat) : Int)) (iz ((15 : Nat) : Int)) = iz ((10 : Nat) : Int) := by decide
      rw [e10]
      refine ⟨10, 15, h3', u1_on, by decide, by decide, by decide, by decide, by decide, fun j hj y hy => ?_, ?_⟩
      · rw [iz_nat (by decide) (by decide)] at hj
        have hj2 : j < S.length := by rw [hfull]; exact hj
        have hy2 : R ea j = some y := by
          rw [u1_off ea'] at hy
          rw [show (0 : Int32).toNatClampNeg + j = j from by rw [show (0 : Int32).toNatClampNeg = 0 from by decide]; omega] at hy
          exact hy
        have hk := h7 j S[j] (List.getElem?_eq_getElem hj2)
        rw [hy2] at hk
        have hyS : y = S[j] := Option.some.inj hk
        have := hok y (by rw [hyS]; exact List.getElem_mem hj2)
        have hya : y ≠ a := fun e => by
          unfold okEb at this
          rw [e] at this
          simp only [isT, ha] at this
          cases this
        refine okE_of ?_
        unfold okEb at this ⊢
        simp only [isT, u1_off hya] at this ⊢
        exact this
      · refine ⟨⟨by decide, by decide⟩, _, rfl, ⟨by decide, by decide⟩, _, rfl, ?_⟩
        refine wB_of (oQ_at (t := 10) (n := 3) (by rw [u1_off la]; exact h1)) ?_
        refine ⟨⟨by decide, by decide⟩, _, rfl, ⟨by decide, by decide⟩, _, rfl, ?_⟩
        refine fin ha 15 (by omega) (Or.inr rfl) (fun b hb => ?_) (fun k q hk => ?_)
        · funext j
          unfold cpR
          rw [if_neg (fun z => hb z.1), u1_off hb]
        · have hk2 := (List.getElem?_eq_some_iff.mp hk).1
          unfold cpR
          rw [if_pos ⟨rfl, by rw [show (0 : Int32).toNatClampNeg = 0 from by decide]; omega, by rw [show (0 : Int32).toNatClampNeg = 0 from by decide, iz_nat (by decide) (by decide)]; show k < 0 + 10; omega⟩]
          rw [show (0 : Int32).toNatClampNeg + (k - (0 : Int32).toNatClampNeg) = k from by rw [show (0 : Int32).toNatClampNeg = 0 from by decide]; omega, u1_off ea']
          exact h7 k q hk
    · omega
theorem l_add {P : Int32 → HS → HI → HR → Prop} (h : LST sh I R K L ea cap S) (hn : S.length < 12) (hv : okEb sh v = true) (hok : ∀ q, q ∈ S → okEb sh q = true)
    (hP : ∀ sh' I' R' ea' cap', LST sh' I' R' K L ea' cap' (S ++ [v]) → EXH (XL sh L ea) sh I R sh' I' R' → (ea' = ea ∨ sh ea' = none) → P 1 sh' I' R') : wJx4a65c_add_9ea2d K J fu sh I R L v (qwI P) := by
  have hh := h
  obtain ⟨h1, h2, h3, h4, h5, h6, h7⟩ := h
  unfold wJx4a65c_add_9ea2d
  refine wB_of (oI_at h1) ?_
  refine wB_of (oP_at h1) ?_
  refine wB_of (oR_at h1 h2) ?_
  refine wB_of (oI_at h1) ?_
  refine ⟨rcv_k h1, ⟨by decide, by decide⟩, ?_⟩
  rw [u2_k (by decide), h6]
  generalize hI1 : u2 I L 0 (I L 0 + 1) = I1
  have e1 : EXH (fun q => q = L) sh I R sh I1 R := by rw [← hI1]; exact EXH.wI sh I R L 0 _
  have g6 : I1 L 2 = iz (S.length : Int) := by rw [← hI1, u2_k (by decide)]; exact h6
  have hh1 : LST sh I1 R K L ea cap S := ⟨h1, h2, h3, h4, h5, g6, h7⟩
  have rm : ∀ {c1 c2 : Nat}, c1 ≤ 1 ∧ c2 ≤ 32 → c1 ≤ 1 ∧ c2 ≤ 32 := fun z => z
  unfold wJx4a65c_add_72be8
  have hln : ∃ m : Nat, oLn sh ea = some (iz (m : Int)) ∧ m = cap := by
    rcases h3 with ⟨h3, h8⟩ | ⟨h3, h8, h9, h10⟩
    · exact ⟨cap, oLn_n h3 (by decide), rfl⟩
    · exact ⟨0, oLn_n h3 (by decide), h10.symm⟩
  obtain ⟨m, hm, rfl⟩ := hln
  refine wB_of hm ?_
  by_cases hf : S.length = m
  · rw [if_pos (by rw [hf])]
    refine ⟨rcv_k h1, ⟨by decide, by decide⟩, ?_⟩
    refine l_grow hh1 hf (by rcases h3 with ⟨h3, h8⟩ | ⟨h3, h8, h9, h10⟩ <;> omega) hok (fun ea' cap' sh' R' q1 q2 q3 q4 q5 q6 q7 => ?_)
    have h1' := q5.k h1
    have hv' : okEb sh' v = true := by
      unfold okEb at hv ⊢
      have hvn : ¬ sh v = none := by
        intro z
        simp only [isT, z] at hv
        cases hv
      simp only [isT, q5.1 v hvn] at hv ⊢
      exact hv
    refine l_add11 (S := S) (c1 := 0 + 1) (c2 := 0 + 32) ⟨by decide, by decide⟩ h1' q2 q3 (by omega) hv' ?_
    refine ⟨⟨by decide, by decide⟩, _, rfl, ?_⟩
    refine hP _ _ _ ea' cap' (LST.app h1' q6 q2 q3 q4 q7) ?_ (Or.inr q1)
    have t1 : EXH (fun q => q = L) sh I R sh' I1 R' := e1.tr q5 (fun _ _ z => z)
    have t2 : EXH (fun q => q = L) sh I R sh' (u2 I1 L 2 (iz ((S.length + 1 : Nat) : Int))) R' := t1.tr (EXH.wI sh' I1 R' L 2 _) (fun _ _ z => z)
    refine (t2.tr (EXH.wR sh' _ R' ea' S.length (some v)) (Y := fun q => q = ea') (X := fun q => q = L) (fun q hq z => absurd (by rw [z]; exact q1) hq)).mono (fun q _ z => Or.inl z)
  · rw [if_neg (by rw [ieq rfl rfl ⟨by omega, by omega⟩ ⟨by omega, by omega⟩]; omega)]
    rcases h3 with ⟨h3, h8⟩ | ⟨h3, h8, h9, h10⟩
    · refine l_add11 (S := S) (c1 := 0) (c2 := 0) ⟨by decide, by decide⟩ h1 h3 (by omega) (by omega) hv ?_
      refine ⟨⟨by decide, by decide⟩, _, rfl, ?_⟩
      refine hP _ _ _ ea m (LST.app h1 h2 h3 (by omega) h8 h7) ?_ (Or.inl rfl)
      have t2 : EXH (fun q => q = L) sh I R sh (u2 I1 L 2 (iz ((S.length + 1 : Nat) : Int))) R := e1.tr (EXH.wI sh I1 R L 2 _) (fun _ _ z => z)
      exact (t2.mono (Y := XL sh L ea) (fun q _ z => Or.inl z)).tr (EXH.wR sh _ R ea S.length (some v)) (fun q _ z => Or.inr ⟨z, m, h3⟩)
    · rw [h9] at hf
      simp only [List.length_nil] at hf
      omega
end JD
