/-! the further steps, as what is wanted (wB: what is read is there) -/
def wB {α : Type} (o : Option α) (k : α → Prop) : Prop := match o with | some v => k v | none => False
theorem wBd {α : Type} {o : Option α} {k : α → Prop} (h : wB o k) : ∃ v, o = some v ∧ k v := by
  cases o with
  | none => exact h.elim
  | some v => exact ⟨v, rfl, h⟩
theorem wB_some {α : Type} {v : α} {k : α → Prop} : wB (some v) k = k v := rfl
theorem wB_of {α : Type} {o : Option α} {v : α} {k : α → Prop} (h : o = some v) (h2 : k v) : wB o k := by rw [h]; exact h2
def wS {α : Type} (r : α ⊕ String) (k : α → Prop) : Prop := match r with | .inl v => k v | .inr _ => False
theorem wSd {α : Type} {r : α ⊕ String} {k : α → Prop} (h : wS r k) : ∃ v, r = .inl v ∧ k v := by
  cases r with
  | inl v => exact ⟨v, rfl, h⟩
  | inr _ => exact h.elim
/-- what follows a call: an int, a reference, one that may be null, nothing -/
def qwI (k : Int32 → HS → HI → HR → Prop) : VF := fun o sh I R => ∃ v, o = .inl (some (.int v)) ∧ k v sh I R
def qwR (k : Nat → HS → HI → HR → Prop) : VF := fun o sh I R => ∃ v, o = .inl (some (.ref v)) ∧ k v sh I R
def qwN (k : Option Nat → HS → HI → HR → Prop) : VF := fun o sh I R => ∃ v, o = .inl (some (va_rf v)) ∧ k v sh I R
def qwV (k : HS → HI → HR → Prop) : VF := fun o sh I R => o = .inl none ∧ k sh I R
/-- what is made -/
def wNew (sh : HS) (I : HI) (R : HR) (t n : Nat) (k : Nat → HS → HI → HR → Prop) : Prop := ∀ a, sh a = none → k a (u1 sh a (some (t, n))) (u1 I a (fun _ => 0)) (u1 R a (fun _ => none))
def wNewI (sh : HS) (I : HI) (t n : Nat) (k : Nat → HS → HI → Prop) : Prop := ∀ a, sh a = none → k a (u1 sh a (some (t, n))) (u1 I a (fun _ => 0))
def wNewR (sh : HS) (R : HR) (t n : Nat) (k : Nat → HS → HR → Prop) : Prop := ∀ a, sh a = none → k a (u1 sh a (some (t, n))) (u1 R a (fun _ => none))
def wCln (sh : HS) (I : HI) (a m : Nat) (k : Nat → HS → HI → Prop) : Prop := ∀ b, sh b = none → k b (u1 sh b (some (21, m))) (u1 I b (I a))
/-- readers -/
def oI2 (sh : HS) (I : HI) (a t k : Nat) : Option Int32 := if (isT sh a t || isT sh a (t + 14)) = true then some (I a k) else none
def oR2 (sh : HS) (R : HR) (a t k : Nat) : Option Nat := if (isT sh a t || isT sh a (t + 14)) = true then R a k else none
def oN (sh : HS) (R : HR) (a t k : Nat) : Option (Option Nat) := if isT sh a t = true then some (R a k) else none
def oQN (sh : HS) (R : HR) (a t k : Nat) (v : Option Nat) : Option HR := if isT sh a t = true then some (u2 R a k v) else none
def oPB (sh : HS) (I : HI) (a t k : Nat) (x : Int32) : Option HI := if isT sh a t = true ∧ x.toInt8.toInt32 = x then some (u2 I a k x) else none
def oA2 (sh : HS) (I : HI) (a : Nat) (i : Int32) : Option Int32 := if (inA sh a 20 i || inA sh a 22 i) = true then some (I a i.toNatClampNeg) else none
def oBb (sh : HS) (I : HI) (a : Nat) (i : Int32) : Option Int32 := if (inA sh a 21 i || inA sh a 23 i) = true then some (I a i.toNatClampNeg) else none
def oBs (sh : HS) (I : HI) (a : Nat) (i x : Int32) : Option HI := if inA sh a 21 i = true then some (u2 I a i.toNatClampNeg x.toInt8.toInt32) else none
def arKb (t : Nat) : Bool := t == 20 || (t == 22 || (t == 21 || (t == 23 || (decide (30 ≤ t) || (t == 24 || t == 25)))))
def oLn (sh : HS) (a : Nat) : Option Int32 := match sh a with | some q => if arKb q.1 = true then some (nI q.2) else none | none => none
def oAr (sh : HS) (R : HR) (a t : Nat) (i : Int32) : Option Nat := if inA sh a t i = true then R a i.toNatClampNeg else none
def okEb (sh : HS) (y : Nat) : Bool := isT sh y 20 || (isT sh y 12 || isT sh y 26)
def oAs (sh : HS) (R : HR) (a : Nat) (i : Int32) (v : Nat) : Option HR := if inA sh a 46 i = true ∧ okEb sh v = true then some (u2 R a i.toNatClampNeg (some v)) else none
def oAsN (sh : HS) (R : HR) (a : Nat) (i : Int32) : Option HR := if inA sh a 46 i = true then some (u2 R a i.toNatClampNeg none) else none
theorem okE_of {sh : HS} {y : Nat} (h : okEb sh y = true) : okE sh y := by
  unfold okEb at h
  simp only [Bool.or_eq_true] at h
  rcases h with h | h | h
  · obtain ⟨m, hm⟩ := isT_iff.mp h; exact ⟨20, m, hm, Or.inl rfl⟩
  · obtain ⟨m, hm⟩ := isT_iff.mp h; exact ⟨12, m, hm, Or.inr (Or.inl rfl)⟩
  · obtain ⟨m, hm⟩ := isT_iff.mp h; exact ⟨26, m, hm, Or.inr (Or.inr rfl)⟩
def oKt (sh : HS) (a v : Nat) : Option Unit := if ((v == 1 && isT sh a 20) || ((v == 3 && (isT sh a 12 || isT sh a 26)) || (v == 4 && isT sh a 21))) = true then some () else none
def oCb (sh : HS) (I : HI) (a : Nat) (sp : Int32) (b : Nat) (dp z : Int32) (P : HI → Prop) : Prop := ∃ t0 n0 n1, sh a = some (t0, n0) ∧ (t0 = 21 ∨ t0 = 23) ∧ sh b = some (21, n1) ∧ ¬ sp < 0 ∧ ¬ dp < 0 ∧ ¬ z < 0 ∧ sp.toNatClampNeg + z.toNatClampNeg ≤ n0 ∧ dp.toNatClampNeg + z.toNatClampNeg ≤ n1 ∧ (∀ j, j < z.toNatClampNeg → fits .byte (.int (I a (sp.toNatClampNeg + j))) = true) ∧ P (cp2 I a sp.toNatClampNeg b dp.toNatClampNeg z.toNatClampNeg)
def oCr (sh : HS) (R : HR) (a : Nat) (sp : Int32) (b : Nat) (dp z : Int32) (P : HR → Prop) : Prop := ∃ n0 n1, sh a = some (46, n0) ∧ sh b = some (46, n1) ∧ ¬ sp < 0 ∧ ¬ dp < 0 ∧ ¬ z < 0 ∧ sp.toNatClampNeg + z.toNatClampNeg ≤ n0 ∧ dp.toNatClampNeg + z.toNatClampNeg ≤ n1 ∧ (∀ j, j < z.toNatClampNeg → ∀ y, R a (sp.toNatClampNeg + j) = some y → okE sh y) ∧ P (cpR R a sp.toNatClampNeg b dp.toNatClampNeg z.toNatClampNeg)
/-- checks -/
def cD (mi pc : Nat) (ins : Instr) (n : Nat) : Bool := decide (dc mi pc = some (ins, n))
theorem dcD {mi pc n : Nat} {ins : Instr} (h : cD mi pc ins n = true) : decode (mB mi) pc = .ok (ins, n) := by
  unfold cD dc at h
  rw [decide_eq_true_eq] at h
  split at h
  · rename_i q e
    rw [e]
    cases h
    rfl
  · cases h
def cG (mi pc ix t k ty md : Nat) : Bool := cD mi pc (.getfield ix) 3 && (decide ((lk2 fX (mC mi) ix).map (fun q => (q.1, q.2.1, q.2.2.1, q.2.2.2.2)) = some (t, k, ty, md)) && decide (t < 15))
theorem cGd {mi pc ix t k ty md : Nat} (h : cG mi pc ix t k ty md = true) : decode (mB mi) pc = .ok (.getfield ix, 3) ∧ (∃ pos, lk2 fX (mC mi) ix = some (t, k, ty, pos, md)) ∧ t < 15 := by
  unfold cG at h
  simp only [Bool.and_eq_true, decide_eq_true_eq] at h
  obtain ⟨h1, h2, h3⟩ := h
  refine ⟨dcD h1, ?_, h3⟩
  obtain ⟨q, e1, e2⟩ := Option.map_eq_some_iff.mp h2
  obtain ⟨a, b, cc, d, e⟩ := q
  cases e2
  exact ⟨d, e1⟩
def cPt (mi pc ix t k ty md : Nat) : Bool := cD mi pc (.putfield ix) 3 && (decide ((lk2 fX (mC mi) ix).map (fun q => (q.1, q.2.1, q.2.2.1, q.2.2.2.2)) = some (t, k, ty, md)) && (decide (t < 15) && (!fF t k || (decide (mK mi = 2) && (decide (mC mi = t) && decide (md = 0))))))
theorem cPtd {mi pc ix t k ty md : Nat} (h : cPt mi pc ix t k ty md = true) : decode (mB mi) pc = .ok (.putfield ix, 3) ∧ (∃ pos, lk2 fX (mC mi) ix = some (t, k, ty, pos, md)) ∧ t < 15 ∧ (fF t k = true → (mK mi = 2 ∧ mC mi = t) ∧ md = 0) := by
  unfold cPt at h
  simp only [Bool.and_eq_true, decide_eq_true_eq, Bool.or_eq_true] at h
  obtain ⟨h1, h2, h3, h4⟩ := h
  refine ⟨dcD h1, ?_, h3, fun z => ?_⟩
  · obtain ⟨q, e1, e2⟩ := Option.map_eq_some_iff.mp h2
    obtain ⟨a, b, cc, d, e⟩ := q
    cases e2
    exact ⟨d, e1⟩
  · rcases h4 with h4 | ⟨h4, h5, h6⟩
    · rw [z] at h4; cases h4
    · exact ⟨⟨h4, h5⟩, h6⟩
def cXl (mi ix v : Nat) : Bool := decide ((lk2 cX (mC mi) ix).map (·.1) = some v)
theorem cXld {mi ix v : Nat} (h : cXl mi ix v = true) : ∃ pos, lk2 cX (mC mi) ix = some (v, pos) := by
  unfold cXl at h
  rw [decide_eq_true_eq] at h
  obtain ⟨q, e1, e2⟩ := Option.map_eq_some_iff.mp h
  obtain ⟨a, b⟩ := q
  cases e2
  exact ⟨b, e1⟩
def cKl (mi ix v : Nat) : Bool := decide ((lk2 kL (mC mi) ix).map (fun q => (q.1, q.2.1)) = some (v, 0))
theorem cKld {mi ix v : Nat} (h : cKl mi ix v = true) : ∃ pos, lk2 kL (mC mi) ix = some (v, 0, pos) := by
  unfold cKl at h
  rw [decide_eq_true_eq] at h
  obtain ⟨q, e1, e2⟩ := Option.map_eq_some_iff.mp h
  obtain ⟨a, b, d⟩ := q
  cases e2
  exact ⟨d, e1⟩
theorem isT2 {sh : HS} {a t : Nat} (h : (isT sh a t || isT sh a (t + 14)) = true) : (∃ m, sh a = some (t, m)) ∨ ∃ m, sh a = some (t + 14, m) := by
  rw [Bool.or_eq_true] at h
  rcases h with h | h
  · exact Or.inl (isT_iff.mp h)
  · exact Or.inr (isT_iff.mp h)
section ST
variable {l : Launch} {K J : Nat → Nat} {mi pc pc' a : Nat} {L L' : VL} {st : List Value} {sh : HS} {I : HI} {R : HR} {c : Nat × Nat} {F : VF} {ins : Instr}
theorem mw_if {f : Int} {t : Nat} {r : List Value} {P A B : Prop} [Decidable P] (h : cB mi pc ins t pc' = true) (ha : ari ins st = none) (hb : bra ins st = some (decide P, f, r)) (hf : off ins = some f) (hh : if P then A else B) (k1 : P → A → MW l K J mi t L r sh I R c F) (k2 : ¬ P → B → MW l K J mi pc' L r sh I R c F) : MW l K J mi pc L st sh I R c F := by
  refine mw_b h ha hb hf (fun z => ?_) (fun z => ?_)
  · have z2 := of_decide_eq_true z
    rw [if_pos z2] at hh
    exact k1 z2 hh
  · have z2 := of_decide_eq_false z
    rw [if_neg z2] at hh
    exact k2 z2 hh
theorem mw_ifn {f : Int} {t : Nat} {r : List Value} {P A B : Prop} [Decidable P] (h : cB mi pc ins t pc' = true) (ha : ari ins st = none) (hb : bra ins st = some (decide (¬ P), f, r)) (hf : off ins = some f) (hh : if P then B else A) (k1 : ¬ P → A → MW l K J mi t L r sh I R c F) (k2 : P → B → MW l K J mi pc' L r sh I R c F) : MW l K J mi pc L st sh I R c F := by
  refine mw_b h ha hb hf (fun z => ?_) (fun z => ?_)
  · have z2 := of_decide_eq_true z
    rw [if_neg z2] at hh
    exact k1 z2 hh
  · have z2 := Decidable.not_not.mp (of_decide_eq_false z)
    rw [if_pos z2] at hh
    exact k2 z2 hh
/-- a field that is a number; a reference that is there; one that may be null -/
theorem mw_fI {ix t j ty md : Nat} {P : Int32 → Prop} (h : cG mi pc ix t j ty md = true) (hty : ty = 0 ∨ ty = 1 ∨ ty = 3) (hw : wB (oI sh I a t j) P) (kk : ∀ v, P v → MW l K J mi (pc + 3) L (.int v :: st) sh I R c F) : MW l K J mi pc L (.ref a :: st) sh I R c F := by
  obtain ⟨h1, ⟨pos, h2⟩, h3⟩ := cGd h
  obtain ⟨v, e, hp⟩ := wBd hw
  unfold oI at e
  split at e
  · rename_i hT
    cases e
    refine sim_getG h1 rfl h2 (isT_iff.mp hT) h3 ?_
    rw [if_pos hty]
    exact kk _ hp
  · cases e
theorem mw_fR {ix t j md : Nat} {P : Nat → Prop} (h : cG mi pc ix t j 2 md = true) (hw : wB (oR sh R a t j) P) (kk : ∀ v, P v → MW l K J mi (pc + 3) L (.ref v :: st) sh I R c F) : MW l K J mi pc L (.ref a :: st) sh I R c F := by
  obtain ⟨h1, ⟨pos, h2⟩, h3⟩ := cGd h
  obtain ⟨v, e, hp⟩ := wBd hw
  unfold oR at e
  split at e
  · rename_i hT
    refine sim_getG h1 rfl h2 (isT_iff.mp hT) h3 ?_
    rw [if_neg (by decide), e]
    exact kk _ hp
  · cases e
theorem mw_fI2 {ix t j ty : Nat} {P : Int32 → Prop} (h : cG mi pc ix t j ty 0 = true) (hty : (t = 12 ∧ j = 0 ∧ ty = 0) ∨ (t = 14 ∧ j = 1 ∧ ty = 3)) (hw : wB (oI2 sh I a t j) P) (kk : ∀ v, P v → MW l K J mi (pc + 3) L (.int v :: st) sh I R c F) : MW l K J mi pc L (.ref a :: st) sh I R c F := by
  obtain ⟨h1, ⟨pos, h2⟩, h3⟩ := cGd h
  obtain ⟨v, e, hp⟩ := wBd hw
  unfold oI2 at e
  split at e
  · rename_i hT
    cases e
    rcases isT2 hT with hT | hT
    · refine sim_getG h1 rfl h2 hT h3 ?_
      rw [if_pos (by omega)]
      exact kk _ hp
    · rcases hty with ⟨rfl, rfl, rfl⟩ | ⟨rfl, rfl, rfl⟩
      · exact sim_getO h1 h2 (Or.inl ⟨rfl, rfl, rfl, hT⟩) (by rw [if_pos (by omega)]; exact kk _ hp)
      · exact sim_getO h1 h2 (Or.inr ⟨rfl, Or.inr ⟨rfl, rfl⟩, hT⟩) (by rw [if_pos (by omega)]; exact kk _ hp)
  · cases e
theorem mw_fR2 {ix : Nat} {P : Nat → Prop} (h : cG mi pc ix 14 0 2 0 = true) (hw : wB (oR2 sh R a 14 0) P) (kk : ∀ v, P v → MW l K J mi (pc + 3) L (.ref v :: st) sh I R c F) : MW l K J mi pc L (.ref a :: st) sh I R c F := by
  obtain ⟨h1, ⟨pos, h2⟩, h3⟩ := cGd h
  obtain ⟨v, e, hp⟩ := wBd hw
  unfold oR2 at e
  split at e
  · rename_i hT
    rcases isT2 hT with hT | hT
    · refine sim_getG h1 rfl h2 hT h3 ?_
      rw [if_neg (by decide), e]
      exact kk _ hp
    · exact sim_getO h1 h2 (Or.inr ⟨rfl, Or.inl ⟨rfl, rfl⟩, hT⟩) (by rw [if_neg (by decide), e]; exact kk _ hp)
  · cases e
theorem mw_pI {ix t j ty md : Nat} {x : Int32} {P : HI → Prop} (h : cPt mi pc ix t j ty md = true) (hty : ty = 0 ∨ (ty = 1 ∧ (x = 0 ∨ x = 1))) (hw : wB (oP sh I a t j x) P) (kk : ∀ I', P I' → MW l K J mi (pc + 3) L st sh I' R c F) : MW l K J mi pc L (.int x :: .ref a :: st) sh I R c F := by
  obtain ⟨h1, ⟨pos, h2⟩, h3, h4⟩ := cPtd h
  obtain ⟨v, e, hp⟩ := wBd hw
  unfold oP at e
  split at e
  · rename_i hT
    cases e
    exact sim_putG h1 rfl h2 (isT_iff.mp hT) h4 h3 (Or.inl ⟨x, rfl, by omega, fun z => by rcases hty with q | q; omega; exact q.2, fun z => by omega, rfl, rfl⟩) (kk _ hp)
  · cases e
theorem mw_pB {ix t j md : Nat} {x : Int32} {P : HI → Prop} (h : cPt mi pc ix t j 3 md = true) (hw : wB (oPB sh I a t j x) P) (kk : ∀ I', P I' → MW l K J mi (pc + 3) L st sh I' R c F) : MW l K J mi pc L (.int x :: .ref a :: st) sh I R c F := by
  obtain ⟨h1, ⟨pos, h2⟩, h3, h4⟩ := cPtd h
  obtain ⟨v, e, hp⟩ := wBd hw
  unfold oPB at e
  split at e
  · rename_i hT
    cases e
    exact sim_putG h1 rfl h2 (isT_iff.mp hT.1) h4 h3 (Or.inl ⟨x, rfl, by omega, fun z => by omega, fun _ => hT.2, rfl, rfl⟩) (kk _ hp)
  · cases e
theorem mw_pR {ix t j md : Nat} {x : Nat} {P : HR → Prop} (h : cPt mi pc ix t j 2 md = true) (hw : wB (oQ sh R a t j x) P) (kk : ∀ R', P R' → MW l K J mi (pc + 3) L st sh I R' c F) : MW l K J mi pc L (.ref x :: .ref a :: st) sh I R c F := by
  obtain ⟨h1, ⟨pos, h2⟩, h3, h4⟩ := cPtd h
  obtain ⟨v, e, hp⟩ := wBd hw
  unfold oQ at e
  split at e
  · rename_i hT
    cases e
    exact sim_putG h1 rfl h2 (isT_iff.mp hT) h4 h3 (Or.inr ⟨some x, rfl, rfl, rfl, rfl⟩) (kk _ hp)
  · cases e
theorem mw_gsX {ix q : Nat} (h : (cD mi pc (.getstatic ix) 3 && decide ((lk2 gX (mC mi) ix).map (·.1) = some q)) = true) (kk : MW l K J mi (pc + 3) L (gxV K q :: st) sh I R c F) : MW l K J mi pc L st sh I R c F := by
  rw [Bool.and_eq_true, decide_eq_true_eq] at h
  obtain ⟨z, e1, e2⟩ := Option.map_eq_some_iff.mp h.2
  obtain ⟨a1, b1⟩ := z
  cases e2
  exact sim_getsX (dcD h.1) e1 kk
theorem mw_null (h : cD mi pc .aconst_null 1 = true) (kk : MW l K J mi (pc + 1) L (va_rf none :: st) sh I R c F) : MW l K J mi pc L st sh I R c F := sim_null (dcD h) kk
theorem mw_nul {o : Int} {t : Nat} {x : Option Nat} {A B : Prop} (h : (cD mi pc (.ifnull o) 3 && decide ((pc : Int) + o = (t : Int))) = true) (hh : if x = none then A else B) (k1 : x = none → A → MW l K J mi t L st sh I R c F) (k2 : ¬ x = none → B → MW l K J mi (pc + 3) L st sh I R c F) : MW l K J mi pc L (va_rf x :: st) sh I R c F := by
  rw [Bool.and_eq_true, decide_eq_true_eq] at h
  refine sim_ifnull (dcD h.1) (by omega) (fun z => ?_) (fun z => ?_)
  · rw [h.2, Int.toNat_natCast]; rw [if_pos z] at hh; exact k1 z hh
  · rw [if_neg z] at hh; exact k2 z hh
theorem mw_nnl {o : Int} {t : Nat} {x : Option Nat} {A B : Prop} (h : (cD mi pc (.ifnonnull o) 3 && decide ((pc : Int) + o = (t : Int))) = true) (hh : if x = none then A else B) (k1 : x = none → A → MW l K J mi (pc + 3) L st sh I R c F) (k2 : ¬ x = none → B → MW l K J mi t L st sh I R c F) : MW l K J mi pc L (va_rf x :: st) sh I R c F := by
  rw [Bool.and_eq_true, decide_eq_true_eq] at h
  refine sim_ifnonnull (dcD h.1) (by omega) (fun z => ?_) (fun z => ?_)
  · rw [h.2, Int.toNat_natCast]; rw [if_neg z] at hh; exact k2 z hh
  · rw [if_pos z] at hh; exact k1 z hh
theorem mw_aeq {o : Int} {t : Nat} {x y : Option Nat} {A B : Prop} (h : (cD mi pc (.if_acmp .eq o) 3 && decide ((pc : Int) + o = (t : Int))) = true) (hh : if x = y then A else B) (k1 : x = y → A → MW l K J mi t L st sh I R c F) (k2 : ¬ x = y → B → MW l K J mi (pc + 3) L st sh I R c F) : MW l K J mi pc L (va_rf y :: va_rf x :: st) sh I R c F := by
  rw [Bool.and_eq_true, decide_eq_true_eq] at h
  refine sim_acmp (ne := false) (dcD h.1) (by omega) (fun z => ?_) (fun z => ?_)
  · have z := z.mpr rfl
    rw [h.2, Int.toNat_natCast]; rw [if_pos z] at hh; exact k1 z hh
  · have z2 : ¬ x = y := fun w => z ⟨fun _ => rfl, fun _ => w⟩
    rw [if_neg z2] at hh; exact k2 z2 hh
theorem mw_ane {o : Int} {t : Nat} {x y : Option Nat} {A B : Prop} (h : (cD mi pc (.if_acmp .ne o) 3 && decide ((pc : Int) + o = (t : Int))) = true) (hh : if x = y then B else A) (k1 : ¬ x = y → A → MW l K J mi t L st sh I R c F) (k2 : x = y → B → MW l K J mi (pc + 3) L st sh I R c F) : MW l K J mi pc L (va_rf y :: va_rf x :: st) sh I R c F := by
  rw [Bool.and_eq_true, decide_eq_true_eq] at h
  refine sim_acmp (ne := true) (dcD h.1) (by omega) (fun z => ?_) (fun z => ?_)
  · have z2 : ¬ x = y := fun w => nomatch z.mp w
    rw [h.2, Int.toNat_natCast]; rw [if_neg z2] at hh; exact k1 z2 hh
  · have z2 : x = y := by
      by_cases w : x = y
      · exact w
      · exact absurd ⟨fun q => absurd q w, fun q => nomatch q⟩ z
    rw [if_pos z2] at hh; exact k2 z2 hh
theorem mw_dx {u v : Value} (h : cD mi pc .dup_x1 1 = true) (hu : u.category = 1) (hv : v.category = 1) (kk : MW l K J mi (pc + 1) L (u :: v :: u :: st) sh I R c F) : MW l K J mi pc L (u :: v :: st) sh I R c F := sim_dupx1 (dcD h) hu hv kk
theorem mw_pop {u : Value} (h : cD mi pc .pop 1 = true) (hu : u.category = 1) (kk : MW l K J mi (pc + 1) L st sh I R c F) : MW l K J mi pc L (u :: st) sh I R c F := sim_popG (dcD h) hu kk
theorem mw_i2b {x : Int32} (h : cD mi pc .i2b 1 = true) (kk : MW l K J mi (pc + 1) L (.int x.toInt8.toInt32 :: st) sh I R c F) : MW l K J mi pc L (.int x :: st) sh I R c F := sim_i2b (dcD h) kk
theorem mw_ldM {ix : Nat} (h : (cD mi pc (.ldc ix) 2 && cXl mi ix 5) = true) (kk : MW l K J mi (pc + 2) L (.ref (J nS) :: st) sh I R c F) : MW l K J mi pc L st sh I R c F := by
  rw [Bool.and_eq_true] at h
  obtain ⟨pos, e⟩ := cXld h.2
  exact sim_ldcM (dcD h.1) e kk
theorem mw_ln {P : Int32 → Prop} (h : cD mi pc .arraylength 1 = true) (hw : wB (oLn sh a) P) (kk : ∀ v, P v → MW l K J mi (pc + 1) L (.int v :: st) sh I R c F) : MW l K J mi pc L (.ref a :: st) sh I R c F := by
  obtain ⟨v, e, hp⟩ := wBd hw
  unfold oLn at e
  split at e
  · rename_i q hq
    obtain ⟨t, m⟩ := q
    split at e
    · rename_i hT
      cases e
      unfold arKb at hT
      simp only [Bool.or_eq_true, beq_iff_eq, decide_eq_true_eq] at hT
      exact sim_alenG (dcD h) hq (by unfold arK; omega) (kk _ hp)
    · cases e
  · cases e
theorem mw_al {i : Int32} {P : Int32 → Prop} (h : cD mi pc .iaload 1 = true) (hw : wB (oA2 sh I a i) P) (kk : ∀ v, P v → MW l K J mi (pc + 1) L (.int v :: st) sh I R c F) : MW l K J mi pc L (.int i :: .ref a :: st) sh I R c F := by
  obtain ⟨v, e, hp⟩ := wBd hw
  unfold oA2 at e
  split at e
  · rename_i hT
    cases e
    rw [Bool.or_eq_true] at hT
    rcases hT with hT | hT
    · obtain ⟨m, h1, h2⟩ := inA_iff.mp hT; exact sim_ialdG (dcD h) h1 (Or.inl rfl) h2 (kk _ hp)
    · obtain ⟨m, h1, h2⟩ := inA_iff.mp hT; exact sim_ialdG (dcD h) h1 (Or.inr rfl) h2 (kk _ hp)
  · cases e
theorem mw_bl {i : Int32} {P : Int32 → Prop} (h : cD mi pc .baload 1 = true) (hw : wB (oBb sh I a i) P) (kk : ∀ v, P v → MW l K J mi (pc + 1) L (.int v :: st) sh I R c F) : MW l K J mi pc L (.int i :: .ref a :: st) sh I R c F := by
  obtain ⟨v, e, hp⟩ := wBd hw
  unfold oBb at e
  split at e
  · rename_i hT
    cases e
    rw [Bool.or_eq_true] at hT
    rcases hT with hT | hT
    · obtain ⟨m, h1, h2⟩ := inA_iff.mp hT; exact sim_baldG (dcD h) h1 (Or.inl rfl) h2 (kk _ hp)
    · obtain ⟨m, h1, h2⟩ := inA_iff.mp hT; exact sim_baldG (dcD h) h1 (Or.inr rfl) h2 (kk _ hp)
  · cases e
theorem mw_bs {i x : Int32} {P : HI → Prop} (h : cD mi pc .bastore 1 = true) (hw : wB (oBs sh I a i x) P) (kk : ∀ I', P I' → MW l K J mi (pc + 1) L st sh I' R c F) : MW l K J mi pc L (.int x :: .int i :: .ref a :: st) sh I R c F := by
  obtain ⟨v, e, hp⟩ := wBd hw
  unfold oBs at e
  split at e
  · rename_i hT
    cases e
    obtain ⟨m, h1, h2⟩ := inA_iff.mp hT
    exact sim_bast (dcD h) h1 h2 (kk _ hp)
  · cases e
theorem mw_aal {t : Nat} {i : Int32} {P : Nat → Prop} (h : cD mi pc .aaload 1 = true) (ht : 30 ≤ t ∨ t = 24 ∨ t = 25) (hw : wB (oAr sh R a t i) P) (kk : ∀ v, P v → MW l K J mi (pc + 1) L (.ref v :: st) sh I R c F) : MW l K J mi pc L (.int i :: .ref a :: st) sh I R c F := by
  obtain ⟨v, e, hp⟩ := wBd hw
  unfold oAr at e
  split at e
  · rename_i hT
    obtain ⟨m, h1, h2⟩ := inA_iff.mp hT
    refine sim_aaldG (dcD h) h1 ht h2 ?_
    rw [e]
    exact kk _ hp
  · cases e
theorem mw_aas {v : Nat} {i : Int32} {P : HR → Prop} (h : cD mi pc .aastore 1 = true) (hw : wB (oAs sh R a i v) P) (kk : ∀ R', P R' → MW l K J mi (pc + 1) L st sh I R' c F) : MW l K J mi pc L (.ref v :: .int i :: .ref a :: st) sh I R c F := by
  obtain ⟨w, e, hp⟩ := wBd hw
  unfold oAs at e
  split at e
  · rename_i hT
    cases e
    obtain ⟨m, h1, h2⟩ := inA_iff.mp hT.1
    exact sim_aastO (dcD h) h1 h2 (okE_of hT.2) (kk _ hp)
  · cases e
theorem mw_cst {ix v : Nat} {P : Unit → Prop} (h : (cD mi pc (.checkcast ix) 3 && cXl mi ix v) = true) (hw : wB (oKt sh a v) P) (kk : P () → MW l K J mi (pc + 3) L (.ref a :: st) sh I R c F) : MW l K J mi pc L (.ref a :: st) sh I R c F := by
  rw [Bool.and_eq_true] at h
  obtain ⟨pos, e⟩ := cXld h.2
  obtain ⟨w, e2, hp⟩ := wBd hw
  unfold oKt at e2
  split at e2
  · rename_i hT
    cases e2
    simp only [Bool.or_eq_true, Bool.and_eq_true, beq_iff_eq] at hT
    rcases hT with ⟨rfl, hT⟩ | ⟨rfl, hT | hT⟩ | ⟨rfl, hT⟩
    · obtain ⟨m, h1⟩ := isT_iff.mp hT; exact sim_cast (dcD h.1) e h1 (Or.inl ⟨rfl, rfl⟩) (kk hp)
    · obtain ⟨m, h1⟩ := isT_iff.mp hT; exact sim_cast (dcD h.1) e h1 (Or.inr (Or.inl ⟨rfl, Or.inl rfl⟩)) (kk hp)
    · obtain ⟨m, h1⟩ := isT_iff.mp hT; exact sim_cast (dcD h.1) e h1 (Or.inr (Or.inl ⟨rfl, Or.inr rfl⟩)) (kk hp)
    · obtain ⟨m, h1⟩ := isT_iff.mp hT; exact sim_cast (dcD h.1) e h1 (Or.inr (Or.inr ⟨rfl, rfl⟩)) (kk hp)
  · cases e2
def cRm (mi X Y : Nat) : Bool := decide (mCe mi = X) && decide (mSl mi = Y)
theorem mw_new {ix t X Y N : Nat} {P : Nat → HS → HI → HR → Prop} (h : (cD mi pc (.new ix) 3 && (decide ((lk2 nL (mC mi) ix).map (·.1) = some t) && (cRm mi X Y && decide (fN t = N)))) = true) (hc : c.1 + 1 ≤ X ∧ c.2 + N ≤ Y) (hw : wNew sh I R t N P) (kk : ∀ a sh' I' R', P a sh' I' R' → MW l K J mi (pc + 3) L (.ref a :: st) sh' I' R' (c.1 + 1, c.2 + N) F) : MW l K J mi pc L st sh I R c F := by
  unfold cRm at h
  simp only [Bool.and_eq_true, decide_eq_true_eq] at h
  obtain ⟨h1, h2, ⟨h3, h4⟩, h5⟩ := h
  obtain ⟨z, e1, e2⟩ := Option.map_eq_some_iff.mp h2
  obtain ⟨a1, b1, b2, b3⟩ := z
  cases e2
  refine sim_new (dcD h1) rfl e1 (by rw [h3]; exact hc.1) (by rw [h4, h5]; exact hc.2) (fun a ha => ?_)
  rw [h5]
  exact kk _ _ _ _ (hw a ha)
theorem mw_nwi {X Y : Nat} {x : Int32} {P : Nat → HS → HI → Prop} (h : (cD mi pc (.newarray .int) 2 && cRm mi X Y) = true) (h0 : ¬ x < 0 ∧ x.toNatClampNeg < 100000) (hc : c.1 + 1 ≤ X ∧ c.2 + x.toNatClampNeg ≤ Y) (hw : wNewI sh I 20 x.toNatClampNeg P) (kk : ∀ a sh' I', P a sh' I' → MW l K J mi (pc + 2) L (.ref a :: st) sh' I' R (c.1 + 1, c.2 + x.toNatClampNeg) F) : MW l K J mi pc L (.int x :: st) sh I R c F := by
  unfold cRm at h
  simp only [Bool.and_eq_true, decide_eq_true_eq] at h
  obtain ⟨h1, h3, h4⟩ := h
  exact sim_newa (dcD h1) rfl h0.1 h0.2 (by rw [h3]; exact hc.1) (by rw [h4]; exact hc.2) (fun a ha => kk _ _ _ (hw a ha))
theorem mw_nwb {X Y : Nat} {x : Int32} {P : Nat → HS → HI → Prop} (h : (cD mi pc (.newarray .byte) 2 && cRm mi X Y) = true) (h0 : ¬ x < 0 ∧ x.toNatClampNeg < 100000) (hc : c.1 + 1 ≤ X ∧ c.2 + x.toNatClampNeg ≤ Y) (hw : wNewI sh I 21 x.toNatClampNeg P) (kk : ∀ a sh' I', P a sh' I' → MW l K J mi (pc + 2) L (.ref a :: st) sh' I' R (c.1 + 1, c.2 + x.toNatClampNeg) F) : MW l K J mi pc L (.int x :: st) sh I R c F := by
  unfold cRm at h
  simp only [Bool.and_eq_true, decide_eq_true_eq] at h
  obtain ⟨h1, h3, h4⟩ := h
  exact sim_newb (dcD h1) h0.1 h0.2 (by rw [h3]; exact hc.1) (by rw [h4]; exact hc.2) (fun a ha => kk _ _ _ (hw a ha))
theorem mw_anw {ix v X Y : Nat} {x : Int32} {P : Nat → HS → HR → Prop} (h : (cD mi pc (.anewarray ix) 3 && (cXl mi ix v && cRm mi X Y)) = true) (hv : v = 0 ∨ v = 1) (h0 : ¬ x < 0 ∧ x.toNatClampNeg < 100000) (hc : c.1 + 1 ≤ X ∧ c.2 + x.toNatClampNeg ≤ Y) (hw : wNewR sh R (46 - v) x.toNatClampNeg P) (kk : ∀ a sh' R', P a sh' R' → MW l K J mi (pc + 3) L (.ref a :: st) sh' I R' (c.1 + 1, c.2 + x.toNatClampNeg) F) : MW l K J mi pc L (.int x :: st) sh I R c F := by
  unfold cRm at h
  simp only [Bool.and_eq_true, decide_eq_true_eq] at h
  obtain ⟨h1, h2, h3, h4⟩ := h
  obtain ⟨pos, e⟩ := cXld h2
  exact sim_anewX (dcD h1) e hv h0.1 h0.2 (by rw [h3]; exact hc.1) (by rw [h4]; exact hc.2) (fun a ha => kk _ _ _ (hw a ha))
theorem vmg_of {mi : Nat} {c : Nat × Nat} {st : List Value} {X Y : Nat} (hr : Nat.ble (catS st) 8 = true) (hm : (decide (1 ≤ mFr mi) && (decide (26 ≤ mLo mi) && cRm mi X Y)) = true) (hc : c.1 ≤ X ∧ c.2 ≤ Y) : VmG mi c st := by
  unfold cRm at hm
  simp only [Bool.and_eq_true, decide_eq_true_eq] at hm
  obtain ⟨h1, h2, h3, h4⟩ := hm
  exact ⟨Nat.le_of_ble_eq_true hr, h1, h2, by rw [h3]; exact hc.1, by rw [h4]; exact hc.2⟩
theorem mw_cln {ix X Y m : Nat} {P : Nat → HS → HI → Prop} (h : (cD mi pc (.invokevirtual ix) 3 && (cKl mi ix 1005 && (decide (1 ≤ mFr mi) && (decide (26 ≤ mLo mi) && cRm mi X Y)))) = true) (hr : Nat.ble (catS st) 8 = true) (ha : sh a = some (21, m)) (hc : c.1 + 1 ≤ X ∧ c.2 + m ≤ Y) (hw : wCln sh I a m P) (kk : ∀ b sh' I', P b sh' I' → MW l K J mi (pc + 3) L (.ref b :: st) sh' I' R (c.1 + 1, c.2 + m) F) : MW l K J mi pc L (.ref a :: st) sh I R c F := by
  rw [Bool.and_eq_true, Bool.and_eq_true] at h
  obtain ⟨h1, h2, h3⟩ := h
  obtain ⟨pos, e⟩ := cKld h2
  have h9 := h3
  unfold cRm at h3
  simp only [Bool.and_eq_true, decide_eq_true_eq] at h3
  exact sim_clone (dcD h1) e ha (vmg_of hr h9 (by omega)) (by rw [h3.2.2.1]; exact hc.1) (by rw [h3.2.2.2]; exact hc.2) (fun b hb => kk _ _ _ (hw b hb))
theorem mw_gcl {ix X Y n0 : Nat} (h : (cD mi pc (.invokevirtual ix) 3 && (cKl mi ix 1006 && (decide (1 ≤ mFr mi) && (decide (26 ≤ mLo mi) && cRm mi X Y)))) = true) (hr : Nat.ble (catS st) 8 = true) (ha : sh a = some (46, n0)) (hc : c.1 ≤ X ∧ c.2 ≤ Y) (kk : MW l K J mi (pc + 3) L (.ref (J nS) :: st) sh I R c F) : MW l K J mi pc L (.ref a :: st) sh I R c F := by
  rw [Bool.and_eq_true, Bool.and_eq_true] at h
  obtain ⟨h1, h2, h3⟩ := h
  obtain ⟨pos, e⟩ := cKld h2
  exact sim_gcl (dcD h1) e (vmg_of hr h3 hc) ha kk
theorem mw_cpB {ix X Y : Nat} {b : Nat} {sp dp z : Int32} {P : HI → Prop} (h : (cD mi pc (.invokestatic ix) 3 && (cKl mi ix 1003 && (decide (1 ≤ mFr mi) && (decide (26 ≤ mLo mi) && cRm mi X Y)))) = true) (hr : Nat.ble (catS st) 8 = true) (hc : c.1 ≤ X ∧ c.2 ≤ Y) (hw : oCb sh I a sp b dp z P) (kk : ∀ I', P I' → MW l K J mi (pc + 3) L st sh I' R c F) : MW l K J mi pc L (.int z :: .int dp :: .ref b :: .int sp :: .ref a :: st) sh I R c F := by
  rw [Bool.and_eq_true, Bool.and_eq_true] at h
  obtain ⟨h1, h2, h3⟩ := h
  obtain ⟨pos, e⟩ := cKld h2
  obtain ⟨t0, n0, n1, w1, w2, w3, w4, w5, w6, w7, w8, w9, hp⟩ := hw
  exact sim_cpyB (dcD h1) e (vmg_of hr h3 hc) w1 w2 w3 w4 w5 w6 w7 w8 w9 (kk _ hp)
theorem mw_cpR {ix X Y : Nat} {b : Nat} {sp dp z : Int32} {P : HR → Prop} (h : (cD mi pc (.invokestatic ix) 3 && (cKl mi ix 1003 && (decide (1 ≤ mFr mi) && (decide (26 ≤ mLo mi) && cRm mi X Y)))) = true) (hr : Nat.ble (catS st) 8 = true) (hc : c.1 ≤ X ∧ c.2 ≤ Y) (hw : oCr sh R a sp b dp z P) (kk : ∀ R', P R' → MW l K J mi (pc + 3) L st sh I R' c F) : MW l K J mi pc L (.int z :: .int dp :: .ref b :: .int sp :: .ref a :: st) sh I R c F := by
  rw [Bool.and_eq_true, Bool.and_eq_true] at h
  obtain ⟨h1, h2, h3⟩ := h
  obtain ⟨pos, e⟩ := cKld h2
  obtain ⟨n0, n1, w1, w3, w4, w5, w6, w7, w8, w9, hp⟩ := hw
  exact sim_cpyR (dcD h1) e (vmg_of hr h3 hc) w1 w3 w4 w5 w6 w7 w8 w9 (kk _ hp)
theorem mw_rr {v : Option Nat} {X Y : Nat} (h : (cD mi pc .areturn 1 && (cRm mi X Y && (match mRt mi with | some (.object _) => true | some (.array _) => true | _ => false))) = true) (hc : c.1 ≤ X ∧ c.2 ≤ Y) (hF : F (.inl (some (va_rf v))) sh I R) : MW l K J mi pc L [va_rf v] sh I R c F := by
  unfold cRm at h
  simp only [Bool.and_eq_true, decide_eq_true_eq] at h
  obtain ⟨h1, ⟨h3, h4⟩, h5⟩ := h
  refine sim_areN (dcD h1) ?_ (by rw [h3]; exact hc.1) (by rw [h4]; exact hc.2) hF
  split at h5
  · rename_i e; exact Or.inl ⟨_, e⟩
  · rename_i e; exact Or.inr ⟨_, e⟩
  · cases h5
theorem mw_dv {x y : Int32} {P : Int32 → Prop} (h : cD mi pc .idiv 1 = true) (hw : wB (oD x y) P) (kk : ∀ v, P v → MW l K J mi (pc + 1) L (.int v :: st) sh I R c F) : MW l K J mi pc L (.int y :: .int x :: st) sh I R c F := by
  obtain ⟨v, e, hp⟩ := wBd hw
  unfold oD at e
  split at e
  · cases e
  · rename_i h0
    cases e
    exact sim_idiv (dcD h) rfl h0 (kk _ hp)
theorem mw_rm {x y : Int32} {P : Int32 → Prop} (h : cD mi pc .irem 1 = true) (hw : wB (oM x y) P) (kk : ∀ v, P v → MW l K J mi (pc + 1) L (.int v :: st) sh I R c F) : MW l K J mi pc L (.int y :: .int x :: st) sh I R c F := by
  obtain ⟨v, e, hp⟩ := wBd hw
  unfold oM at e
  split at e
  · cases e
  · rename_i h0
    cases e
    exact sim_irem (dcD h) rfl h0 (kk _ hp)
theorem mw_ast {i x : Int32} {P : HI → Prop} (h : cD mi pc .iastore 1 = true) (hw : wB (oS sh I a i x) P) (kk : ∀ I', P I' → MW l K J mi (pc + 1) L st sh I' R c F) : MW l K J mi pc L (.int x :: .int i :: .ref a :: st) sh I R c F := by
  obtain ⟨v, e, hp⟩ := wBd hw
  unfold oS at e
  split at e
  · rename_i hT
    cases e
    exact sim_iast (dcD h) rfl (inA_iff.mp hT) (kk _ hp)
  · cases e
end ST
