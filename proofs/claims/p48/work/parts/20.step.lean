/-! STEPS: an instruction of the small machine, with what it needs read off an option; facts of an instruction by computation -/
def noT (mi pc : Nat) : Bool := (if pc < 1000 then tL.lookup (mi * 1000 + pc) else none).isNone
def dc (mi pc : Nat) : Option (Instr × Nat) := match decode (mB mi) pc with | .ok q => some q | _ => none
def cP (mi pc : Nat) (p : Instr → Bool) (pc' : Nat) : Bool := noT mi pc && (match dc mi pc with | some (i, n) => p i && (decide (n = iln i n) && decide (pc + n = pc')) | none => false)
def cI (mi pc : Nat) (ins : Instr) (pc' : Nat) : Bool := cP mi pc (fun i => decide (i = ins)) pc'
def cLd (mi pc t i pc' : Nat) : Bool := cP mi pc (fun x => decide (ldI x = some (t, i))) pc'
def cSt (mi pc t i pc' : Nat) : Bool := cP mi pc (fun x => decide (ldI x = none) && (decide (stI x = some (t, i)) && (decide (t < 2) && !mHl mi))) pc'
def cC (mi pc : Nat) (v : Int32) (pc' : Nat) : Bool := cP mi pc (fun x => decide (ldI x = none) && (decide (stI x = none) && decide (cst mi x = some v))) pc'
def cCS (mi pc i pc' : Nat) : Bool := cP mi pc (fun x => decide (ldI x = none) && (decide (stI x = none) && (decide (cst mi x = none) && (decide (cstS mi x = some i) && decide (i < nS))))) pc'
def cCJ (mi pc : Nat) (v : Int64) (pc' : Nat) : Bool := cP mi pc (fun x => decide (ldI x = none) && (decide (stI x = none) && (decide (cst mi x = none) && (decide (cstS mi x = none) && decide (cstJ mi x = some v))))) pc'
def cN0 (mi : Nat) (x : Instr) : Bool := decide (ldI x = none) && (decide (stI x = none) && (decide (cst mi x = none) && (decide (cstS mi x = none) && decide (cstJ mi x = none))))
def cA (mi pc : Nat) (ins : Instr) (pc' : Nat) : Bool := cP mi pc (fun i => decide (i = ins) && cN0 mi i) pc'
def off : Instr → Option Int
  | .ifCond _ o => some o
  | .if_icmp _ o => some o
  | .goto o => some o
  | _ => none
def cB (mi pc : Nat) (ins : Instr) (t pc' : Nat) : Bool := cP mi pc (fun i => decide (i = ins) && (cN0 mi i && decide (off i = some ((t : Int) - (pc : Int))))) pc' && decide (pc' = pc + 3)
def cGo (mi pc t : Nat) : Bool := cP mi pc (fun i => decide (i = .goto ((t : Int) - (pc : Int)))) (pc + 3)
def cInc (mi pc i : Nat) (z : Int32) (pc' : Nat) : Bool := cP mi pc (fun x => !mHl mi && (match x with | .iinc j zz => decide (j = i) && decide (Int32.ofInt zz = z) | _ => false)) pc'
def cF (mi pc t k ty pc' : Nat) : Bool := cP mi pc (fun x => match x with | .getfield ix => decide ((lk2 fL (mC mi) ix).map (fun q => (q.1, q.2.1, q.2.2.1)) = some (t, k, ty)) && (decide (t < 15)) | _ => false) pc' && decide (pc' = pc + 3)
def cPu (mi pc t k ty pc' : Nat) : Bool := cP mi pc (fun x => match x with | .putfield ix => decide ((lk2 fL (mC mi) ix).map (fun q => (q.1, q.2.1, q.2.2.1)) = some (t, k, ty)) && (decide (t < 15) && (!fF t k || (decide (mK mi = 2) && decide (mC mi = t)))) | _ => false) pc' && decide (pc' = pc + 3)
def cT (mi pc : Nat) (E : String) (X Y : Nat) : Bool := decide (pc < 1000) && (decide (tL.lookup (mi * 1000 + pc) = some E) && (decide (X + 1 ≤ mCe mi) && decide (Y + 6 ≤ mSl mi)))
def cRt (mi pc : Nat) (ins : Instr) (ty : Option FieldType) (X Y : Nat) : Bool := cP mi pc (fun i => decide (i = ins)) (pc + 1) && (decide (mRt mi = ty) && (decide (X ≤ mCe mi) && decide (Y ≤ mSl mi)))
def cQ (mi pc q na pc' X Y X' Y' : Nat) : Bool := cP mi pc (fun x => match x with
    | .invokestatic ix => decide (mK q = 0) && decide ((lk2 kL (mC mi) ix).map (·.1) = some q)
    | .invokevirtual ix => decide (mK q = 1) && decide ((lk2 kL (mC mi) ix).map (·.1) = some q)
    | .invokespecial ix => decide (mK q = 2) && decide ((lk2 kL (mC mi) ix).map (·.1) = some q)
    | _ => false) pc' && (decide (pc' = pc + 3) && (decide (q < mT.length) && (decide (q < 1000) && (decide (mN q = na) && (decide (mFr q + 1 ≤ mFr mi) && (decide (8 + (mL q + 11) + mLo q ≤ mLo mi) && (decide (X' = X + mCe q) && (decide (Y' = Y + mSl q) && (decide (X' ≤ mCe mi) && decide (Y' ≤ mSl mi))))))))))
def cM (mi pc code pc' X Y : Nat) : Bool := cP mi pc (fun x => match x with
    | .invokestatic ix => decide ((lk2 kL (mC mi) ix).map (·.1) = some code) && decide (code < 1004)
    | .invokespecial ix => decide ((lk2 kL (mC mi) ix).map (·.1) = some code) && decide (code = 1004)
    | _ => false) pc' && (decide (pc' = pc + 3) && (decide (¬ code < 1000) && (decide (1 ≤ mFr mi) && (decide (26 ≤ mLo mi) && (decide (X ≤ mCe mi) && decide (Y ≤ mSl mi))))))
def isT (sh : HS) (a t : Nat) : Bool := match sh a with | some q => q.1 == t | none => false
theorem isT_iff {sh : HS} {a t : Nat} : isT sh a t = true ↔ ∃ m, sh a = some (t, m) := by
  unfold isT
  cases h : sh a with
  | none => simp
  | some q =>
    obtain ⟨q1, q2⟩ := q
    simp only [beq_iff_eq, Option.some.injEq, Prod.mk.injEq]
    exact ⟨fun z => ⟨q2, z, rfl⟩, fun z => z.elim fun _ w => w.1⟩
def oI (sh : HS) (I : HI) (a t k : Nat) : Option Int32 := if isT sh a t = true then some (I a k) else none
def oR (sh : HS) (R : HR) (a t k : Nat) : Option Nat := if isT sh a t = true then R a k else none
def oP (sh : HS) (I : HI) (a t k : Nat) (x : Int32) : Option HI := if isT sh a t = true then some (u2 I a k x) else none
def oQ (sh : HS) (R : HR) (a t k v : Nat) : Option HR := if isT sh a t = true then some (u2 R a k (some v)) else none
def inA (sh : HS) (a t : Nat) (i : Int32) : Bool := match sh a with | some q => q.1 == t && (decide (¬ i < 0) && decide (i.toNatClampNeg < q.2)) | none => false
theorem inA_iff {sh : HS} {a t : Nat} {i : Int32} : inA sh a t i = true ↔ ∃ m, sh a = some (t, m) ∧ vp_in i m := by
  unfold inA
  cases h : sh a with
  | none => simp
  | some q =>
    obtain ⟨q1, q2⟩ := q
    simp only [Bool.and_eq_true, beq_iff_eq, decide_eq_true_eq, Option.some.injEq, Prod.mk.injEq]
    constructor
    · rintro ⟨rfl, g1, g2⟩
      exact ⟨q2, ⟨rfl, rfl⟩, fun z => z.elim g1 (fun z => absurd z (Nat.not_le.mpr g2))⟩
    · rintro ⟨m, ⟨rfl, rfl⟩, g⟩
      exact ⟨rfl, fun z => g (Or.inl z), Nat.not_le.mp fun z => g (Or.inr z)⟩
def oA (sh : HS) (I : HI) (a : Nat) (i : Int32) : Option Int32 := if inA sh a 20 i = true then some (I a i.toNatClampNeg) else none
def oB (sh : HS) (R : HR) (a t : Nat) (i : Int32) : Option Nat := if inA sh a (30 + t) i = true then R a i.toNatClampNeg else none
def oS (sh : HS) (I : HI) (a : Nat) (i x : Int32) : Option HI := if inA sh a 20 i = true then some (u2 I a i.toNatClampNeg x) else none
def oU (sh : HS) (R : HR) (a t : Nat) (i : Int32) (v : Nat) : Option HR := if inA sh a (30 + t) i = true ∧ isT sh v t = true ∧ t < 10 then some (u2 R a i.toNatClampNeg (some v)) else none
def oZ (x : Int32) : Option Int32 := if x = 0 ∨ x = 1 then some x else none
def oD (x y : Int32) : Option Int32 := if y = 0 then none else some (x / y)
def oM (x y : Int32) : Option Int32 := if y = 0 then none else some (x - x / y * y)
def oDD (x y : UInt64) : Option UInt64 := if FP.ddiv x y &&& 0x7fffffffffffffff ≤ 0x7ff0000000000000 then some (FP.ddiv x y) else none
def oC (sh : HS) (I : HI) (a : Nat) (sp : Int32) (b : Nat) (dp z : Int32) : Option HI := match sh a, sh b with
  | some p, some q => if p.1 = 20 ∧ q.1 = 20 ∧ ¬ sp < 0 ∧ ¬ dp < 0 ∧ ¬ z < 0 ∧ sp.toNatClampNeg + z.toNatClampNeg ≤ p.2 ∧ dp.toNatClampNeg + z.toNatClampNeg ≤ q.2 then some (cp2 I a sp.toNatClampNeg b dp.toNatClampNeg z.toNatClampNeg) else none
  | _, _ => none
def iMin (x y : Int32) : Int32 := if y < x then y else x
def iMax (x y : Int32) : Int32 := if x < y then y else x
def iAbs (x : Int32) : Int32 := if 0 ≤ x then x else 0 - x
def iShr (x y : Int32) : Int32 := (x.toUInt32 >>> (y.toUInt32 &&& Int32.toUInt32 31)).toInt32
def oX {α β : Type} (r : α ⊕ String) (e : String → β) (v : α → β) : β := match r with | .inl x => v x | .inr x => e x
def oT0 {α β : Type} (x : Option (α ⊕ String)) (e : String → Option β) (v : α → Option β) : Option β := x.bind fun r => oX r e v
def oTh {α η β : Type} (x : Option ((α ⊕ String) × η)) (e : String → η → Option β) (v : α → η → Option β) : Option β := x.bind fun r => oX r.1 (fun E => e E r.2) (fun a => v a r.2)
def oH {α η β : Type} (x : Option (α × η)) (v : α → η → Option β) : Option β := x.bind fun r => v r.1 r.2
def voI (o : Int32 ⊕ String) : VO := oX o (fun E => .inr E) (fun x => .inl (some (.int x)))
def voN (o : Unit ⊕ String) : VO := oX o (fun E => .inr E) (fun _ => .inl none)
def voD (o : UInt64 ⊕ String) : VO := oX o (fun E => .inr E) (fun x => .inl (some (.double x)))
theorem bnd {α β : Type} {x : Option α} {f : α → Option β} {o : β} (h : x.bind f = some o) : ∃ a, x = some a ∧ f a = some o := by
  cases x with
  | none => cases h
  | some a => exact ⟨a, rfl, h⟩
theorem gd {β : Type} {b : Bool} {x : Option β} {o : β} (h : (if b = true then x else none) = some o) : b = true ∧ x = some o := by
  cases b with
  | true => exact ⟨rfl, h⟩
  | false => cases h
theorem oZb {β : Type} {x : Int32} {f : Int32 → Option β} {o : β} (h : (oZ x).bind f = some o) : (x = 0 ∨ x = 1) ∧ f x = some o := by
  unfold oZ at h
  split at h
  · rename_i hx
    exact ⟨hx, h⟩
  · cases h
def cSw (mi pc : Nat) (v : Int32) (t : Nat) : Bool := cP mi pc (fun i => match i with
    | .tableswitch _ _ _ _ => decide (swO i v = some ((t : Int) - (pc : Int)))
    | .lookupswitch _ _ => decide (swO i v = some ((t : Int) - (pc : Int)))
    | _ => false) (pc + (match dc mi pc with | some q => q.2 | none => 0))
def cSd (mi pc n t : Nat) : Bool := cP mi pc (fun i => match i with
    | .tableswitch d lo hi _ => decide (lo = 0 ∧ hi = (n : Int) - 1 ∧ d = (t : Int) - (pc : Int))
    | .lookupswitch d ps => decide (n = 2 ∧ d = (t : Int) - (pc : Int) ∧ ps.toList.map (·.1) = [0, 1])
    | _ => false) (pc + (match dc mi pc with | some q => q.2 | none => 0))
theorem ne_toInt {x y : Int32} (h : ¬ x = y) : ¬ x.toInt = y.toInt := fun e => h (Int32.toInt_inj.mp e)
theorem sw_out2 {x : Int32} (h0 : ¬ x = 0) (h1 : ¬ x = 1) : x.toInt < 0 ∨ (2 : Int) ≤ x.toInt := by
  have a0 : ¬ x.toInt = 0 := ne_toInt h0
  have a1 : ¬ x.toInt = 1 := ne_toInt h1
  omega
theorem sw_out3 {x : Int32} (h0 : ¬ x = 0) (h1 : ¬ x = 1) (h2 : ¬ x = 2) : x.toInt < 0 ∨ (3 : Int) ≤ x.toInt := by
  have a0 : ¬ x.toInt = 0 := ne_toInt h0
  have a1 : ¬ x.toInt = 1 := ne_toInt h1
  have a2 : ¬ x.toInt = 2 := ne_toInt h2
  omega
theorem sw_out4 {x : Int32} (h0 : ¬ x = 0) (h1 : ¬ x = 1) (h2 : ¬ x = 2) (h3 : ¬ x = 3) : x.toInt < 0 ∨ (4 : Int) ≤ x.toInt := by
  have a0 : ¬ x.toInt = 0 := ne_toInt h0
  have a1 : ¬ x.toInt = 1 := ne_toInt h1
  have a2 : ¬ x.toInt = 2 := ne_toInt h2
  have a3 : ¬ x.toInt = 3 := ne_toInt h3
  omega
theorem sw_out5 {x : Int32} (h0 : ¬ x = 0) (h1 : ¬ x = 1) (h2 : ¬ x = 2) (h3 : ¬ x = 3) (h4 : ¬ x = 4) : x.toInt < 0 ∨ (5 : Int) ≤ x.toInt := by
  have a0 : ¬ x.toInt = 0 := ne_toInt h0
  have a1 : ¬ x.toInt = 1 := ne_toInt h1
  have a2 : ¬ x.toInt = 2 := ne_toInt h2
  have a3 : ¬ x.toInt = 3 := ne_toInt h3
  have a4 : ¬ x.toInt = 4 := ne_toInt h4
  omega
section ST
variable {K J : Nat → Nat} {mi pc pc' : Nat} {L L' : VL} {st : List Value} {sh : HS} {I : HI} {R : HR} {c : Nat × Nat} {F : VF} {ins : Instr} {ω : Type} {o : ω}
theorem s_P {p : Instr → Bool} (h : cP mi pc p pc' = true) (k : ∀ i n, p i = true → n = iln i n → pc + n = pc' → Vi K J (V K J) i n mi pc L st sh I R c F) : V K J mi pc L st sh I R c F := by
  unfold cP noT dc at h
  simp only [Bool.and_eq_true] at h
  obtain ⟨h1, h2⟩ := h
  refine V_in ?_
  unfold Vs
  cases e : (if pc < 1000 then tL.lookup (mi * 1000 + pc) else none) with
  | some E => rw [e] at h1; cases h1
  | none =>
    simp only
    cases e2 : decode (mB mi) pc with
    | ok q =>
      obtain ⟨i, n⟩ := q
      rw [e2] at h2
      simp only [Bool.and_eq_true, decide_eq_true_eq] at h2
      exact ⟨h2.2.1, k i n h2.1 h2.2.1 h2.2.2⟩
    | _ => rw [e2] at h2; cases h2
theorem s_ldv {t i : Nat} {v : Value} (h : cLd mi pc t i pc' = true) (hv : L[i]? = some (some v)) (ht : isTy t v = true) (k : V K J mi pc' L (v :: st) sh I R c F) : V K J mi pc L st sh I R c F := by
  refine s_P h fun x n g1 g2 g3 => ?_
  simp only [decide_eq_true_eq] at g1
  unfold Vi
  simp only [g1, hv, g3]
  exact ⟨ht, k⟩
theorem s_il {i : Nat} {x : Int32} (h : cLd mi pc 0 i pc' = true) (hv : L[i]? = some (some (.int x))) (k : V K J mi pc' L (.int x :: st) sh I R c F) : V K J mi pc L st sh I R c F := s_ldv h hv rfl k
theorem s_rl {i : Nat} {x : Nat} (h : cLd mi pc 1 i pc' = true) (hv : L[i]? = some (some (.ref x))) (k : V K J mi pc' L (.ref x :: st) sh I R c F) : V K J mi pc L st sh I R c F := s_ldv h hv rfl k
theorem s_ll {i : Nat} {x : Int64} (h : cLd mi pc 2 i pc' = true) (hv : L[i]? = some (some (.long x))) (k : V K J mi pc' L (.long x :: st) sh I R c F) : V K J mi pc L st sh I R c F := s_ldv h hv rfl k
theorem s_stv {t i : Nat} {v : Value} (h : cSt mi pc t i pc' = true) (ht : isTy t v = true) (hi : Nat.ble (i + 1) L.length = true) (hL : L.set i (some v) = L') (k : V K J mi pc' L' st sh I R c F) : V K J mi pc L (v :: st) sh I R c F := by
  refine s_P h fun x n g1 g2 g3 => ?_
  simp only [Bool.and_eq_true, decide_eq_true_eq] at g1
  obtain ⟨g0, g1, g4, g5⟩ := g1
  unfold Vi
  simp only [g0, g1, g3, hL]
  exact ⟨ht, g4, by simpa using g5, Nat.le_of_ble_eq_true hi, k⟩
theorem s_is {i : Nat} {x : Int32} (h : cSt mi pc 0 i pc' = true) (hi : Nat.ble (i + 1) L.length = true) (hL : L.set i (some (.int x)) = L') (k : V K J mi pc' L' st sh I R c F) : V K J mi pc L (.int x :: st) sh I R c F := s_stv h rfl hi hL k
theorem s_rs {i : Nat} {x : Nat} (h : cSt mi pc 1 i pc' = true) (hi : Nat.ble (i + 1) L.length = true) (hL : L.set i (some (.ref x)) = L') (k : V K J mi pc' L' st sh I R c F) : V K J mi pc L (.ref x :: st) sh I R c F := s_stv h rfl hi hL k
theorem s_c {v : Int32} (h : cC mi pc v pc' = true) (k : V K J mi pc' L (.int v :: st) sh I R c F) : V K J mi pc L st sh I R c F := by
  refine s_P h fun x n g1 g2 g3 => ?_
  simp only [Bool.and_eq_true, decide_eq_true_eq] at g1
  obtain ⟨g0, g1, g4⟩ := g1
  unfold Vi
  simp only [g0, g1, g3, g4]
  exact k
theorem s_cS {i : Nat} (h : cCS mi pc i pc' = true) (k : V K J mi pc' L (.ref (K i) :: st) sh I R c F) : V K J mi pc L st sh I R c F := by
  refine s_P h fun x n g1 g2 g3 => ?_
  simp only [Bool.and_eq_true, decide_eq_true_eq] at g1
  obtain ⟨g0, g1, g4, g5, g6⟩ := g1
  unfold Vi
  simp only [g0, g1, g3, g4, g5]
  exact ⟨g6, k⟩
theorem s_cJ {v : Int64} (h : cCJ mi pc v pc' = true) (k : V K J mi pc' L (.long v :: st) sh I R c F) : V K J mi pc L st sh I R c F := by
  refine s_P h fun x n g1 g2 g3 => ?_
  simp only [Bool.and_eq_true, decide_eq_true_eq] at g1
  obtain ⟨g0, g1, g4, g5, g6⟩ := g1
  unfold Vi
  simp only [g0, g1, g3, g4, g5, g6]
  exact k
theorem s_a {r : List Value} (h : cA mi pc ins pc' = true) (ha : ari ins st = some r) (k : V K J mi pc' L r sh I R c F) : V K J mi pc L st sh I R c F := by
  refine s_P h fun x n g1 g2 g3 => ?_
  unfold cN0 at g1
  simp only [Bool.and_eq_true, decide_eq_true_eq] at g1
  obtain ⟨rfl, g0, g1, g4, g5, g6⟩ := g1
  unfold Vi
  simp only [g0, g1, g3, g4, g5, g6, ha]
  exact k
theorem s_b {b : Bool} {f : Int} {t : Nat} {r : List Value} (h : cB mi pc ins t pc' = true) (ha : ari ins st = none) (hb : bra ins st = some (b, f, r)) (hf : off ins = some f) (k1 : b = true → V K J mi t L r sh I R c F) (k2 : b = false → V K J mi pc' L r sh I R c F) : V K J mi pc L st sh I R c F := by
  unfold cB at h
  rw [Bool.and_eq_true, decide_eq_true_eq] at h
  refine s_P h.1 fun x n g1 g2 g3 => ?_
  unfold cN0 at g1
  simp only [Bool.and_eq_true, decide_eq_true_eq] at g1
  obtain ⟨rfl, ⟨g0, g1, g4, g5, g6⟩, g7⟩ := g1
  unfold Vi
  rw [hf] at g7
  cases g7
  simp only [g0, g1, g4, g5, g6, ha, hb]
  have e : (pc : Int) + ((t : Int) - (pc : Int)) = (t : Int) := by omega
  rw [e]
  refine ⟨Int.natCast_nonneg t, fun z => ?_, fun z => ?_⟩
  · simpa using k1 z
  · rw [← h.2]; exact k2 z
theorem s_if {f : Int} {t : Nat} {r : List Value} {P : Prop} [Decidable P] {A B : Option ω} (h : cB mi pc ins t pc' = true) (ha : ari ins st = none) (hb : bra ins st = some (decide P, f, r)) (hf : off ins = some f) (hh : (if P then A else B) = some o) (k1 : P → A = some o → V K J mi t L r sh I R c F) (k2 : ¬ P → B = some o → V K J mi pc' L r sh I R c F) : V K J mi pc L st sh I R c F := by
  refine s_b h ha hb hf (fun z => ?_) (fun z => ?_)
  · have z2 := of_decide_eq_true z
    rw [if_pos z2] at hh
    exact k1 z2 hh
  · have z2 := of_decide_eq_false z
    rw [if_neg z2] at hh
    exact k2 z2 hh
theorem s_ifn {f : Int} {t : Nat} {r : List Value} {P : Prop} [Decidable P] {A B : Option ω} (h : cB mi pc ins t pc' = true) (ha : ari ins st = none) (hb : bra ins st = some (decide (¬ P), f, r)) (hf : off ins = some f) (hh : (if P then B else A) = some o) (k1 : ¬ P → A = some o → V K J mi t L r sh I R c F) (k2 : P → B = some o → V K J mi pc' L r sh I R c F) : V K J mi pc L st sh I R c F := by
  refine s_b h ha hb hf (fun z => ?_) (fun z => ?_)
  · have z2 := of_decide_eq_true z
    rw [if_neg z2] at hh
    exact k1 z2 hh
  · have z2 := Decidable.not_not.mp (of_decide_eq_false z)
    rw [if_pos z2] at hh
    exact k2 z2 hh
theorem s_go {t : Nat} (h : cGo mi pc t = true) (k : V K J mi t L st sh I R c F) : V K J mi pc L st sh I R c F := by
  refine s_P h fun x n g1 g2 g3 => ?_
  simp only [decide_eq_true_eq] at g1
  subst g1
  unfold Vi
  simp only [ldI, stI, cst, cstS, cstJ, ari, bra]
  have e : (pc : Int) + ((t : Int) - (pc : Int)) = (t : Int) := by omega
  rw [e]
  exact ⟨Int.natCast_nonneg t, by simpa using k⟩
theorem s_sw {x v : Int32} {t : Nat} (hx : x = v) (h : cSw mi pc v t = true) (k : V K J mi t L st sh I R c F) : V K J mi pc L (.int x :: st) sh I R c F := by
  subst hx
  refine s_P h fun y n g1 g2 g3 => ?_
  have e : (pc : Int) + ((t : Int) - (pc : Int)) = (t : Int) := by omega
  cases y <;> simp only [Bool.false_eq_true] at g1
  all_goals
    simp only [decide_eq_true_eq] at g1
    unfold Vi
    simp only [ldI, stI, cst, cstS, cstJ, ari, bra, g1, e]
    exact ⟨Int.natCast_nonneg t, by simpa using k⟩
theorem s_sd {x : Int32} {n t : Nat} (hx : x.toInt < 0 ∨ (n : Int) ≤ x.toInt) (h : cSd mi pc n t = true) (k : V K J mi t L st sh I R c F) : V K J mi pc L (.int x :: st) sh I R c F := by
  refine s_P h fun y nn g1 g2 g3 => ?_
  have e : (pc : Int) + ((t : Int) - (pc : Int)) = (t : Int) := by omega
  cases y <;> simp only [Bool.false_eq_true] at g1
  case tableswitch d lo hi offs =>
    simp only [decide_eq_true_eq] at g1
    obtain ⟨rfl, rfl, rfl⟩ := g1
    unfold Vi
    have e2 : swO (.tableswitch ((t : Int) - (pc : Int)) 0 ((n : Int) - 1) offs) x = some ((t : Int) - (pc : Int)) := by
      show (if x.toInt < 0 ∨ (n : Int) - 1 < x.toInt then some ((t : Int) - (pc : Int)) else offs[(x.toInt - 0).toNat]?) = _
      rw [if_pos (by omega)]
    simp only [ldI, stI, cst, cstS, cstJ, ari, bra, e2, e]
    exact ⟨Int.natCast_nonneg t, by simpa using k⟩
  case lookupswitch d ps =>
    simp only [decide_eq_true_eq] at g1
    obtain ⟨rfl, rfl, g4⟩ := g1
    unfold Vi
    have e2 : swO (.lookupswitch ((t : Int) - (pc : Int)) ps) x = some ((t : Int) - (pc : Int)) := by
      have e4 : ∀ q : List (Int × Int), q.map (·.1) = [0, 1] → (q.zip (q.drop 1)).all (fun (a, next) => a.1 < next.1) = true ∧ Op.lookupswitch.offset q ((t : Int) - (pc : Int)) x.toInt = (t : Int) - (pc : Int) := by
        intro q hq
        match q, hq with
        | [(a, o1), (b, o2)], hq =>
          simp only [List.map_cons, List.map_nil, List.cons.injEq, and_true] at hq
          obtain ⟨rfl, rfl⟩ := hq
          have n0 : ¬ x.toInt = 0 := by omega
          have n1 : ¬ x.toInt = 1 := by omega
          refine ⟨rfl, ?_⟩
          simp [Op.lookupswitch.offset, Ne.symm n0, Ne.symm n1, n0, n1]
      show (if (ps.toList.zip (ps.toList.drop 1)).all (fun (a, next) => a.1 < next.1) = true then some (Op.lookupswitch.offset ps.toList ((t : Int) - (pc : Int)) x.toInt) else none) = _
      rw [if_pos (e4 _ g4).1, (e4 _ g4).2]
    simp only [ldI, stI, cst, cstS, cstJ, ari, bra, e2, e]
    exact ⟨Int.natCast_nonneg t, by simpa using k⟩
theorem s_inc {i : Nat} {x z : Int32} (h : cInc mi pc i z pc' = true) (hv : L[i]? = some (some (.int x))) (hi : Nat.ble (i + 1) L.length = true) (hL : L.set i (some (.int (x + z))) = L') (k : V K J mi pc' L' st sh I R c F) : V K J mi pc L st sh I R c F := by
  refine s_P h fun y n g1 g2 g3 => ?_
  simp only [Bool.and_eq_true] at g1
  obtain ⟨g0, g1⟩ := g1
  cases y <;> simp only [Bool.false_eq_true] at g1
  simp only [Bool.and_eq_true, decide_eq_true_eq] at g1
  obtain ⟨rfl, rfl⟩ := g1
  unfold Vi
  simp only [ldI, stI, cst, cstS, cstJ, ari, bra, hv, g3, hL]
  exact ⟨by simpa using g0, Nat.le_of_ble_eq_true hi, k⟩
theorem s_gI {a t j ty : Nat} {f : Int32 → Option ω} (h : cF mi pc t j ty pc' = true) (hty : Nat.ble ty 1 = true) (hh : (oI sh I a t j).bind f = some o) (k : ∀ v, f v = some o → V K J mi pc' L (.int v :: st) sh I R c F) : V K J mi pc L (.ref a :: st) sh I R c F := by
  unfold cF at h
  rw [Bool.and_eq_true, decide_eq_true_eq] at h
  refine s_P h.1 fun y n g1 g2 g3 => ?_
  cases y <;> simp only [Bool.false_eq_true] at g1
  simp only [Bool.and_eq_true, decide_eq_true_eq] at g1
  obtain ⟨g0, g1⟩ := g1
  obtain ⟨v, h1, h2⟩ := bnd hh
  unfold oI at h1
  split at h1
  · rename_i hT
    cases h1
    have ht : ¬ ty = 2 := by have := Nat.le_of_ble_eq_true hty; omega
    obtain ⟨q, hq, hq2⟩ := Option.map_eq_some_iff.mp g0
    obtain ⟨t', k', ty', p'⟩ := q
    have hq3 : t' = t ∧ k' = j ∧ ty' = ty := by simpa using hq2
    obtain ⟨rfl, rfl, rfl⟩ := hq3
    unfold Vi
    simp only [ldI, stI, cst, cstS, cstJ, ari, bra, hq]
    have hx := isT_iff.mp hT
    split
    · omega
    · omega
    · rw [if_neg ht, ← h.2]
      exact ⟨hx, g1, k _ h2⟩
  · cases h1
theorem s_gR {a t j : Nat} {f : Nat → Option ω} (h : cF mi pc t j 2 pc' = true) (hh : (oR sh R a t j).bind f = some o) (k : ∀ v, f v = some o → V K J mi pc' L (.ref v :: st) sh I R c F) : V K J mi pc L (.ref a :: st) sh I R c F := by
  unfold cF at h
  rw [Bool.and_eq_true, decide_eq_true_eq] at h
  refine s_P h.1 fun y n g1 g2 g3 => ?_
  cases y <;> simp only [Bool.false_eq_true] at g1
  simp only [Bool.and_eq_true, decide_eq_true_eq] at g1
  obtain ⟨g0, g1⟩ := g1
  obtain ⟨v, h1, h2⟩ := bnd hh
  unfold oR at h1
  split at h1
  · rename_i hT
    obtain ⟨q, hq, hq2⟩ := Option.map_eq_some_iff.mp g0
    obtain ⟨t', k', ty', p'⟩ := q
    have hq3 : t' = t ∧ k' = j ∧ ty' = 2 := by simpa using hq2
    obtain ⟨rfl, rfl, rfl⟩ := hq3
    unfold Vi
    simp only [ldI, stI, cst, cstS, cstJ, ari, bra, hq]
    have hx := isT_iff.mp hT
    split
    · omega
    · omega
    · rw [if_pos trivial, ← h.2, h1]
      exact ⟨hx, g1, k _ h2⟩
  · cases h1
theorem s_pI {a t j ty : Nat} {x : Int32} {f : HI → Option ω} (h : cPu mi pc t j ty pc' = true) (hty : (ty = 0 ∨ (ty = 1 ∧ (x = 0 ∨ x = 1)))) (hh : (oP sh I a t j x).bind f = some o) (k : ∀ I1, f I1 = some o → V K J mi pc' L st sh I1 R c F) : V K J mi pc L (.int x :: .ref a :: st) sh I R c F := by
  unfold cPu at h
  rw [Bool.and_eq_true, decide_eq_true_eq] at h
  refine s_P h.1 fun y n g1 g2 g3 => ?_
  cases y <;> simp only [Bool.false_eq_true] at g1
  simp only [Bool.and_eq_true, decide_eq_true_eq] at g1
  obtain ⟨g0, g1, g4⟩ := g1
  obtain ⟨v, h1, h2⟩ := bnd hh
  unfold oP at h1
  split at h1
  · rename_i hT
    cases h1
    obtain ⟨q, hq, hq2⟩ := Option.map_eq_some_iff.mp g0
    obtain ⟨t', k', ty', p'⟩ := q
    have hq3 : t' = t ∧ k' = j ∧ ty' = ty := by simpa using hq2
    obtain ⟨rfl, rfl, rfl⟩ := hq3
    unfold Vi
    simp only [ldI, stI, cst, cstS, cstJ, ari, bra, hq]
    have hx := isT_iff.mp hT
    refine ⟨⟨hx, fun z => ?_, g1⟩, by omega, fun z => ?_, by rw [← h.2]; exact k _ h2⟩
    · rw [z] at g4
      simpa using g4
    · rcases hty with w | ⟨-, w⟩
      · omega
      · exact w
  · cases h1
theorem s_pZ {a t j : Nat} {x : Int32} {f : HI → Option ω} (h : cPu mi pc t j 1 pc' = true) (hh : (oZ x).bind (fun z => (oP sh I a t j z).bind f) = some o) (k : ∀ I1, f I1 = some o → V K J mi pc' L st sh I1 R c F) : V K J mi pc L (.int x :: .ref a :: st) sh I R c F := by
  obtain ⟨v, h1, h2⟩ := bnd hh
  unfold oZ at h1
  split at h1
  · rename_i hx
    cases h1
    exact s_pI h (Or.inr ⟨rfl, hx⟩) h2 k
  · cases h1
theorem s_pR {a t j v : Nat} {f : HR → Option ω} (h : cPu mi pc t j 2 pc' = true) (hh : (oQ sh R a t j v).bind f = some o) (k : ∀ R1, f R1 = some o → V K J mi pc' L st sh I R1 c F) : V K J mi pc L (.ref v :: .ref a :: st) sh I R c F := by
  unfold cPu at h
  rw [Bool.and_eq_true, decide_eq_true_eq] at h
  refine s_P h.1 fun y n g1 g2 g3 => ?_
  cases y <;> simp only [Bool.false_eq_true] at g1
  simp only [Bool.and_eq_true, decide_eq_true_eq] at g1
  obtain ⟨g0, g1, g4⟩ := g1
  obtain ⟨w, h1, h2⟩ := bnd hh
  unfold oQ at h1
  split at h1
  · rename_i hT
    cases h1
    obtain ⟨q, hq, hq2⟩ := Option.map_eq_some_iff.mp g0
    obtain ⟨t', k', ty', p'⟩ := q
    have hq3 : t' = t ∧ k' = j ∧ ty' = 2 := by simpa using hq2
    obtain ⟨rfl, rfl, rfl⟩ := hq3
    unfold Vi
    simp only [ldI, stI, cst, cstS, cstJ, ari, bra, hq]
    have hx := isT_iff.mp hT
    refine ⟨⟨hx, fun z => ?_, g1⟩, trivial, by rw [← h.2]; exact k _ h2⟩
    rw [z] at g4
    simpa using g4
  · cases h1
theorem s_al {a : Nat} {i : Int32} {f : Int32 → Option ω} (h : cI mi pc .iaload pc' = true) (hh : (oA sh I a i).bind f = some o) (k : ∀ v, f v = some o → V K J mi pc' L (.int v :: st) sh I R c F) : V K J mi pc L (.int i :: .ref a :: st) sh I R c F := by
  refine s_P h fun y n g1 g2 g3 => ?_
  simp only [decide_eq_true_eq] at g1
  subst g1
  obtain ⟨v, h1, h2⟩ := bnd hh
  unfold oA at h1
  split at h1
  · rename_i hT
    cases h1
    unfold Vi
    simp only [ldI, stI, cst, cstS, cstJ, ari, bra, g3]
    exact ⟨inA_iff.mp hT, k _ h2⟩
  · cases h1
theorem s_aal {a t : Nat} {i : Int32} {f : Nat → Option ω} (h : cI mi pc .aaload pc' = true) (hh : (oB sh R a t i).bind f = some o) (k : ∀ v, f v = some o → V K J mi pc' L (.ref v :: st) sh I R c F) : V K J mi pc L (.int i :: .ref a :: st) sh I R c F := by
  refine s_P h fun y n g1 g2 g3 => ?_
  simp only [decide_eq_true_eq] at g1
  subst g1
  obtain ⟨v, h1, h2⟩ := bnd hh
  unfold oB at h1
  split at h1
  · rename_i hT
    unfold Vi
    simp only [ldI, stI, cst, cstS, cstJ, ari, bra, g3, h1]
    obtain ⟨m, q1, q2⟩ := inA_iff.mp hT
    exact ⟨⟨t, m, q1, q2⟩, k _ h2⟩
  · cases h1
theorem s_as {a : Nat} {i x : Int32} {f : HI → Option ω} (h : cI mi pc .iastore pc' = true) (hh : (oS sh I a i x).bind f = some o) (k : ∀ I1, f I1 = some o → V K J mi pc' L st sh I1 R c F) : V K J mi pc L (.int x :: .int i :: .ref a :: st) sh I R c F := by
  refine s_P h fun y n g1 g2 g3 => ?_
  simp only [decide_eq_true_eq] at g1
  subst g1
  obtain ⟨v, h1, h2⟩ := bnd hh
  unfold oS at h1
  split at h1
  · rename_i hT
    cases h1
    unfold Vi
    simp only [ldI, stI, cst, cstS, cstJ, ari, bra, g3]
    exact ⟨inA_iff.mp hT, k _ h2⟩
  · cases h1
theorem s_aas {a t v : Nat} {i : Int32} {f : HR → Option ω} (h : cI mi pc .aastore pc' = true) (hh : (oU sh R a t i v).bind f = some o) (k : ∀ R1, f R1 = some o → V K J mi pc' L st sh I R1 c F) : V K J mi pc L (.ref v :: .int i :: .ref a :: st) sh I R c F := by
  refine s_P h fun y n g1 g2 g3 => ?_
  simp only [decide_eq_true_eq] at g1
  subst g1
  obtain ⟨w, h1, h2⟩ := bnd hh
  unfold oU at h1
  split at h1
  · rename_i hT
    cases h1
    unfold Vi
    simp only [ldI, stI, cst, cstS, cstJ, ari, bra, g3]
    obtain ⟨m, q1, q2⟩ := inA_iff.mp hT.1
    obtain ⟨m2, q3⟩ := isT_iff.mp hT.2.1
    exact ⟨⟨t, m, m2, q1, q2, q3, hT.2.2⟩, k _ h2⟩
  · cases h1
theorem s_dv {x y : Int32} {f : Int32 → Option ω} (h : cI mi pc .idiv pc' = true) (hh : (oD x y).bind f = some o) (k : ∀ v, f v = some o → V K J mi pc' L (.int v :: st) sh I R c F) : V K J mi pc L (.int y :: .int x :: st) sh I R c F := by
  refine s_P h fun y n g1 g2 g3 => ?_
  simp only [decide_eq_true_eq] at g1
  subst g1
  obtain ⟨v, h1, h2⟩ := bnd hh
  unfold oD at h1
  split at h1
  · cases h1
  · rename_i h0
    cases h1
    unfold Vi
    simp only [ldI, stI, cst, cstS, cstJ, ari, bra, g3]
    exact ⟨h0, k _ h2⟩
theorem s_rm {x y : Int32} {f : Int32 → Option ω} (h : cI mi pc .irem pc' = true) (hh : (oM x y).bind f = some o) (k : ∀ v, f v = some o → V K J mi pc' L (.int v :: st) sh I R c F) : V K J mi pc L (.int y :: .int x :: st) sh I R c F := by
  refine s_P h fun y n g1 g2 g3 => ?_
  simp only [decide_eq_true_eq] at g1
  subst g1
  obtain ⟨v, h1, h2⟩ := bnd hh
  unfold oM at h1
  split at h1
  · cases h1
  · rename_i h0
    cases h1
    unfold Vi
    simp only [ldI, stI, cst, cstS, cstJ, ari, bra, g3]
    exact ⟨h0, k _ h2⟩
theorem s_dd {x y : UInt64} {f : UInt64 → Option ω} (h : cI mi pc .ddiv pc' = true) (hh : (oDD x y).bind f = some o) (k : ∀ v, f v = some o → V K J mi pc' L (.double v :: st) sh I R c F) : V K J mi pc L (.double y :: .double x :: st) sh I R c F := by
  refine s_P h fun y n g1 g2 g3 => ?_
  simp only [decide_eq_true_eq] at g1
  subst g1
  obtain ⟨v, h1, h2⟩ := bnd hh
  unfold oDD at h1
  split at h1
  · rename_i h0
    cases h1
    unfold Vi
    simp only [ldI, stI, cst, cstS, cstJ, ari, bra, g3]
    exact ⟨h0, k _ h2⟩
  · cases h1
theorem s_th {E : String} {X Y : Nat} (h : cT mi pc E X Y = true) (hc : c.1 ≤ X ∧ c.2 ≤ Y) (hs : Nat.ble (catS st) 6 = true) (hF : F (.inr E) sh I R) : V K J mi pc L st sh I R c F := by
  unfold cT at h
  simp only [Bool.and_eq_true, decide_eq_true_eq] at h
  obtain ⟨h1, h2, h3, h4⟩ := h
  refine V_in ?_
  unfold Vs
  rw [if_pos h1, h2]
  exact ⟨by omega, by omega, Nat.le_of_ble_eq_true hs, hF⟩
theorem s_rv {X Y : Nat} (h : cRt mi pc .return_ none X Y = true) (hc : c.1 ≤ X ∧ c.2 ≤ Y) (hF : F (.inl none) sh I R) : V K J mi pc L [] sh I R c F := by
  unfold cRt at h
  simp only [Bool.and_eq_true, decide_eq_true_eq] at h
  obtain ⟨h1, h2, h3, h4⟩ := h
  refine s_P h1 fun y n g1 g2 g3 => ?_
  simp only [decide_eq_true_eq] at g1
  subst g1
  unfold Vi
  simp only [ldI, stI, cst, cstS, cstJ, ari, bra]
  exact ⟨h2, trivial, by omega, by omega, hF⟩
theorem s_ri {x : Int32} {X Y : Nat} (h : cRt mi pc .ireturn (some .int) X Y = true) (hc : c.1 ≤ X ∧ c.2 ≤ Y) (hF : F (.inl (some (.int x))) sh I R) : V K J mi pc L [.int x] sh I R c F := by
  unfold cRt at h
  simp only [Bool.and_eq_true, decide_eq_true_eq] at h
  obtain ⟨h1, h2, h3, h4⟩ := h
  refine s_P h1 fun y n g1 g2 g3 => ?_
  simp only [decide_eq_true_eq] at g1
  subst g1
  unfold Vi
  simp only [ldI, stI, cst, cstS, cstJ, ari, bra]
  exact ⟨⟨_, h2, rfl⟩, by omega, by omega, hF⟩
theorem s_rz {x : Int32} {X Y : Nat} (h : cRt mi pc .ireturn (some .boolean) X Y = true) (hx : x = 0 ∨ x = 1) (hc : c.1 ≤ X ∧ c.2 ≤ Y) (hF : F (.inl (some (.int x))) sh I R) : V K J mi pc L [.int x] sh I R c F := by
  unfold cRt at h
  simp only [Bool.and_eq_true, decide_eq_true_eq] at h
  obtain ⟨h1, h2, h3, h4⟩ := h
  refine s_P h1 fun y n g1 g2 g3 => ?_
  simp only [decide_eq_true_eq] at g1
  subst g1
  unfold Vi
  simp only [ldI, stI, cst, cstS, cstJ, ari, bra]
  exact ⟨⟨_, h2, by rcases hx with rfl | rfl <;> rfl⟩, by omega, by omega, hF⟩
theorem s_rr {x : Nat} {d : String} {X Y : Nat} (h : cRt mi pc .areturn (some (.object d)) X Y = true) (hc : c.1 ≤ X ∧ c.2 ≤ Y) (hF : F (.inl (some (.ref x))) sh I R) : V K J mi pc L [.ref x] sh I R c F := by
  unfold cRt at h
  simp only [Bool.and_eq_true, decide_eq_true_eq] at h
  obtain ⟨h1, h2, h3, h4⟩ := h
  refine s_P h1 fun y n g1 g2 g3 => ?_
  simp only [decide_eq_true_eq] at g1
  subst g1
  unfold Vi
  simp only [ldI, stI, cst, cstS, cstJ, ari, bra]
  exact ⟨⟨_, h2⟩, by omega, by omega, hF⟩
theorem s_rd {x : UInt64} {X Y : Nat} (h : cRt mi pc .dreturn (some .double) X Y = true) (hc : c.1 ≤ X ∧ c.2 ≤ Y) (hF : F (.inl (some (.double x))) sh I R) : V K J mi pc L [.double x] sh I R c F := by
  unfold cRt at h
  simp only [Bool.and_eq_true, decide_eq_true_eq] at h
  obtain ⟨h1, h2, h3, h4⟩ := h
  refine s_P h1 fun y n g1 g2 g3 => ?_
  simp only [decide_eq_true_eq] at g1
  subst g1
  unfold Vi
  simp only [ldI, stI, cst, cstS, cstJ, ari, bra]
  exact ⟨h2, by omega, by omega, hF⟩
theorem s_call {q na X Y X' Y' : Nat} {as rest : List Value} {G : VF} (h : cQ mi pc q na pc' X Y X' Y' = true) (hc : c.1 ≤ X ∧ c.2 ≤ Y) (hn : as.length = na) (hr : Nat.ble (catS rest) 8 = true) (he : Nat.ble (entA as.reverse).length (mL q) = true) (hl : as.all (fun v => v.category == 1) = true ∨ mHl q = true)
    (hv : mK q = 1 → rvOK K sh q as.getLast?) (hi : mK q = 2 → ∃ b, as.getLast? = some (.ref b)) (hV : V K J q 0 (ent (mL q) as.reverse) [] sh I R (0, 0) G)
    (k1 : ∀ sh' I' R' c', c'.1 ≤ X' ∧ c'.2 ≤ Y' → G (.inl none) sh' I' R' → V K J mi pc' L rest sh' I' R' c' F) (k2 : ∀ v sh' I' R' c', c'.1 ≤ X' ∧ c'.2 ≤ Y' → G (.inl (some v)) sh' I' R' → V K J mi pc' L (v :: rest) sh' I' R' c' F) (k3 : ∀ E sh' I' R', G (.inr E) sh' I' R' → F (.inr E) sh' I' R') :
    V K J mi pc L (as ++ rest) sh I R c F := by
  unfold cQ at h
  rw [Bool.and_eq_true] at h
  obtain ⟨h0, h⟩ := h
  simp only [Bool.and_eq_true, decide_eq_true_eq] at h
  obtain ⟨e1, e2, e3, e4, e5, e6, e7, e8, e9, e10⟩ := h
  subst e1
  have t1 : (as ++ rest).take (mN q) = as := by rw [e4, ← hn]; exact List.take_left
  have t2 : (as ++ rest).drop (mN q) = rest := by rw [e4, ← hn]; exact List.drop_left
  have hV' : ∀ kd, mK q = kd → Vc K (V K J) kd q mi pc L (as ++ rest) sh I R c F := by
    intro kd hkd
    refine ⟨e2, by rw [List.length_append, e4]; omega, hkd, by rw [t2]; exact Nat.le_of_ble_eq_true hr, ⟨e5, e6⟩, ⟨by omega, by omega⟩, ⟨fun z => ?_, fun z => ?_⟩, ⟨by rw [t1]; exact Nat.le_of_ble_eq_true he, by rw [t1]; exact hl⟩, G, by rw [t1]; exact hV, ?_, ?_, k3⟩
    · rw [t1]; exact hv (hkd.trans z)
    · rw [t1]; exact hi (hkd.trans z)
    · intro sh' I' R' g
      rw [t2]
      exact k1 _ _ _ _ ⟨by show c.1 + mCe q ≤ _; omega, by show c.2 + mSl q ≤ _; omega⟩ g
    · intro v sh' I' R' g
      rw [t2]
      exact k2 _ _ _ _ _ ⟨by show c.1 + mCe q ≤ _; omega, by show c.2 + mSl q ≤ _; omega⟩ g
  refine s_P h0 fun y n g1 g2 g3 => ?_
  cases y <;> simp only [Bool.false_eq_true] at g1
  all_goals
    simp only [Bool.and_eq_true, decide_eq_true_eq] at g1
    obtain ⟨g0, g1⟩ := g1
    obtain ⟨r, hr1, hr2⟩ := Option.map_eq_some_iff.mp g1
    obtain ⟨r1, r2, r3⟩ := r
    cases hr2
    unfold Vi
    simp only [ldI, stI, cst, cstS, cstJ, ari, bra, hr1]
    first | exact ⟨fun _ => hV' _ g0, fun z => absurd e3 z⟩ | exact ⟨e3, hV' _ g0⟩
theorem s_min {x y : Int32} {X Y : Nat} (h : cM mi pc 1000 pc' X Y = true) (hc : c.1 ≤ X ∧ c.2 ≤ Y) (hr : Nat.ble (catS st) 8 = true) (k : V K J mi pc' L (.int (iMin x y) :: st) sh I R c F) : V K J mi pc L (.int y :: .int x :: st) sh I R c F := by
  unfold cM at h
  rw [Bool.and_eq_true] at h
  obtain ⟨h0, h⟩ := h
  simp only [Bool.and_eq_true, decide_eq_true_eq] at h
  obtain ⟨e1, e2, e3, e4, e5, e6⟩ := h
  subst e1
  refine s_P h0 fun z n g1 g2 g3 => ?_
  cases z <;> simp only [Bool.false_eq_true] at g1
  all_goals
    simp only [Bool.and_eq_true, decide_eq_true_eq] at g1
    obtain ⟨g1, g0⟩ := g1
    first | (exfalso; omega) | skip
  obtain ⟨r, hr1, hr2⟩ := Option.map_eq_some_iff.mp g1
  obtain ⟨r1, r2, r3⟩ := r
  cases hr2
  unfold Vi
  simp only [ldI, stI, cst, cstS, cstJ, ari, bra, hr1]
  exact ⟨fun z => absurd z e2, fun _ => ⟨by decide, ⟨Nat.le_of_ble_eq_true hr, e3, e4, by omega, by omega⟩, k⟩⟩
theorem s_max {x y : Int32} {X Y : Nat} (h : cM mi pc 1001 pc' X Y = true) (hc : c.1 ≤ X ∧ c.2 ≤ Y) (hr : Nat.ble (catS st) 8 = true) (k : V K J mi pc' L (.int (iMax x y) :: st) sh I R c F) : V K J mi pc L (.int y :: .int x :: st) sh I R c F := by
  unfold cM at h
  rw [Bool.and_eq_true] at h
  obtain ⟨h0, h⟩ := h
  simp only [Bool.and_eq_true, decide_eq_true_eq] at h
  obtain ⟨e1, e2, e3, e4, e5, e6⟩ := h
  subst e1
  refine s_P h0 fun z n g1 g2 g3 => ?_
  cases z <;> simp only [Bool.false_eq_true] at g1
  all_goals
    simp only [Bool.and_eq_true, decide_eq_true_eq] at g1
    obtain ⟨g1, g0⟩ := g1
    first | (exfalso; omega) | skip
  obtain ⟨r, hr1, hr2⟩ := Option.map_eq_some_iff.mp g1
  obtain ⟨r1, r2, r3⟩ := r
  cases hr2
  unfold Vi
  simp only [ldI, stI, cst, cstS, cstJ, ari, bra, hr1]
  exact ⟨fun z => absurd z e2, fun _ => ⟨by decide, ⟨Nat.le_of_ble_eq_true hr, e3, e4, by omega, by omega⟩, k⟩⟩
theorem s_abs {x : Int32} {X Y : Nat} (h : cM mi pc 1002 pc' X Y = true) (hc : c.1 ≤ X ∧ c.2 ≤ Y) (hr : Nat.ble (catS st) 8 = true) (k : V K J mi pc' L (.int (iAbs x) :: st) sh I R c F) : V K J mi pc L (.int x :: st) sh I R c F := by
  unfold cM at h
  rw [Bool.and_eq_true] at h
  obtain ⟨h0, h⟩ := h
  simp only [Bool.and_eq_true, decide_eq_true_eq] at h
  obtain ⟨e1, e2, e3, e4, e5, e6⟩ := h
  subst e1
  refine s_P h0 fun z n g1 g2 g3 => ?_
  cases z <;> simp only [Bool.false_eq_true] at g1
  all_goals
    simp only [Bool.and_eq_true, decide_eq_true_eq] at g1
    obtain ⟨g1, g0⟩ := g1
    first | (exfalso; omega) | skip
  obtain ⟨r, hr1, hr2⟩ := Option.map_eq_some_iff.mp g1
  obtain ⟨r1, r2, r3⟩ := r
  cases hr2
  unfold Vi
  simp only [ldI, stI, cst, cstS, cstJ, ari, bra, hr1]
  exact ⟨fun z => absurd z e2, fun _ => ⟨by decide, ⟨Nat.le_of_ble_eq_true hr, e3, e4, by omega, by omega⟩, k⟩⟩
theorem s_cpy {a b : Nat} {sp dp z : Int32} {X Y : Nat} {f : HI → Option ω} (h : cM mi pc 1003 pc' X Y = true) (hc : c.1 ≤ X ∧ c.2 ≤ Y) (hr : Nat.ble (catS st) 8 = true) (hh : (oC sh I a sp b dp z).bind f = some o) (k : ∀ I1, f I1 = some o → V K J mi pc' L st sh I1 R c F) : V K J mi pc L (.int z :: .int dp :: .ref b :: .int sp :: .ref a :: st) sh I R c F := by
  unfold cM at h
  rw [Bool.and_eq_true] at h
  obtain ⟨h0, h⟩ := h
  simp only [Bool.and_eq_true, decide_eq_true_eq] at h
  obtain ⟨e1, e2, e3, e4, e5, e6⟩ := h
  subst e1
  obtain ⟨v, h1, h2⟩ := bnd hh
  unfold oC at h1
  split at h1
  · rename_i p q hp hq
    obtain ⟨p1, p2⟩ := p
    obtain ⟨q1, q2⟩ := q
    split at h1
    · rename_i hx
      obtain ⟨rfl, rfl, x1, x2, x3, x4, x5⟩ := hx
      cases h1
      refine s_P h0 fun z n g1 g2 g3 => ?_
      cases z <;> simp only [Bool.false_eq_true] at g1
      all_goals
        simp only [Bool.and_eq_true, decide_eq_true_eq] at g1
        obtain ⟨g1, g0⟩ := g1
        first | (exfalso; omega) | skip
      obtain ⟨r, hr1, hr2⟩ := Option.map_eq_some_iff.mp g1
      obtain ⟨r1, r2, r3⟩ := r
      cases hr2
      unfold Vi
      simp only [ldI, stI, cst, cstS, cstJ, ari, bra, hr1]
      exact ⟨fun z => absurd z e2, fun _ => ⟨by decide, ⟨Nat.le_of_ble_eq_true hr, e3, e4, by omega, by omega⟩, ⟨p2, q2, hp, hq, x1, x2, x3, x4, x5⟩, k _ h2⟩⟩
    · cases h1
  · cases h1
end ST
