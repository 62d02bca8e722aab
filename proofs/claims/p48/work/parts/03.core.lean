/-! THE SMALL MACHINE: what a method of the class or of the reference does to an abstract heap, told by rules (Vs), its least meaning (V), and V's equations -/
abbrev HI : Type := Nat → Nat → Int32
abbrev HR : Type := Nat → Nat → Option Nat
abbrev HS : Type := Nat → Option (Nat × Nat)
abbrev VO : Type := Option Value ⊕ String
abbrev VF : Type := VO → HS → HI → HR → Prop
abbrev VL : Type := List (Option Value)
abbrev VT : Type := Nat → Nat → VL → List Value → HS → HI → HR → Nat × Nat → VF → Prop
def mG (k : Nat) : MTy := mT.getD k mD
def mY (k : Nat) : MethodName := (mG k).1
def mB (k : Nat) : ByteArray := (mG k).2.1
def mL (k : Nat) : Nat := (mG k).2.2.1
def mRt (k : Nat) : Option FieldType := (mG k).2.2.2.1
def mC (k : Nat) : Nat := (mG k).2.2.2.2.1.1
def mK (k : Nat) : Nat := (mG k).2.2.2.2.1.2.1
def mN (k : Nat) : Nat := (mG k).2.2.2.2.1.2.2
def mFr (k : Nat) : Nat := (mG k).2.2.2.2.2.1.1
def mLo (k : Nat) : Nat := (mG k).2.2.2.2.2.1.2.1
def mCe (k : Nat) : Nat := (mG k).2.2.2.2.2.1.2.2.1
def mSl (k : Nat) : Nat := (mG k).2.2.2.2.2.1.2.2.2
def mRm (k : Nat) : Room := { frames := mFr k, cells := mCe k, slots := mSl k, locals := mLo k }
def mHl (k : Nat) : Bool := decide (k = hlI)
def nS : Nat := strs.length
def sLen (i : Nat) : Nat := (strs.getD i "").length
def sByt (i j : Nat) : Int32 := Int32.ofNat (((strs.getD i "").toList.getD j ' ').toNat)
def catS (st : List Value) : Nat := (st.map fun v => v.category).sum
def u2 {α : Type} (f : Nat → Nat → α) (a k : Nat) (x : α) : Nat → Nat → α := fun b j => if b = a ∧ j = k then x else f b j
def cp2 (f : HI) (src sp dst dp n : Nat) : HI := fun b j => if b = dst ∧ dp ≤ j ∧ j < dp + n then f src (sp + (j - dp)) else f b j
def u1 {α : Type} (f : Nat → α) (a : Nat) (x : α) : Nat → α := fun b => if b = a then x else f b
/-- the locals with which a method begins -/
def entA : List Value → VL
  | [] => []
  | v :: vs => if v.category = 2 then some v :: none :: entA vs else some v :: entA vs
def ent (n : Nat) (vs : List Value) : VL := entA vs ++ List.replicate (n - (entA vs).length) none
def lk2 {β : Type} (T : List (Nat × β)) (k ix : Nat) : Option β := if ix < 10000 then T.lookup (k * 10000 + ix) else none
def cst (k : Nat) : Instr → Option Int32
  | .iconst n => some (Int32.ofInt n)
  | .bipush n => some (Int8.ofInt n).toInt32
  | .sipush n => some (Int16.ofInt n).toInt32
  | .ldc ix => (lk2 iL (mC k) ix).map (·.1)
  | .ldc_w ix => (lk2 iL (mC k) ix).map (·.1)
  | _ => none
def cstS (k : Nat) : Instr → Option Nat
  | .ldc ix => (lk2 sL (mC k) ix).map (·.1)
  | .ldc_w ix => (lk2 sL (mC k) ix).map (·.1)
  | _ => none
def cstJ (k : Nat) : Instr → Option Int64
  | .lconst n => some (Int64.ofNat n.val)
  | .ldc2_w ix => (lk2 lL (mC k) ix).map (·.1)
  | _ => none
/-- what loads and stores name: 0 int, 1 reference, 2 long -/
def ldI : Instr → Option (Nat × Nat)
  | .iload_n k => some (0, k.val)
  | .iload k => some (0, k)
  | .aload_n k => some (1, k.val)
  | .aload k => some (1, k)
  | .lload_n k => some (2, k.val)
  | .lload k => some (2, k)
  | _ => none
def stI : Instr → Option (Nat × Nat)
  | .istore_n k => some (0, k.val)
  | .istore k => some (0, k)
  | .astore_n k => some (1, k.val)
  | .astore k => some (1, k)
  | _ => none
def isTy (t : Nat) : Value → Bool
  | .int _ => t == 0
  | .ref _ => t == 1
  | .null => t == 1
  | .long _ => t == 2
  | _ => false
/-- arithmetic and the like: from the stack to the stack -/
def ari (ins : Instr) (st : List Value) : Option (List Value) := match ins with
  | .iadd => match st with | .int y :: .int x :: r => some (.int (x + y) :: r) | _ => none
  | .isub => match st with | .int y :: .int x :: r => some (.int (x - y) :: r) | _ => none
  | .imul => match st with | .int y :: .int x :: r => some (.int (x * y) :: r) | _ => none
  | .iand => match st with | .int y :: .int x :: r => some (.int (x &&& y) :: r) | _ => none
  | .ior => match st with | .int y :: .int x :: r => some (.int (x ||| y) :: r) | _ => none
  | .ixor => match st with | .int y :: .int x :: r => some (.int (x ^^^ y) :: r) | _ => none
  | .ishl => match st with | .int y :: .int x :: r => some (.int (x <<< (y &&& 31)) :: r) | _ => none
  | .ishr => match st with | .int y :: .int x :: r => some (.int (x >>> (y &&& 31)) :: r) | _ => none
  | .iushr => match st with | .int y :: .int x :: r => some (.int (x.toUInt32 >>> (y.toUInt32 &&& Int32.toUInt32 31)).toInt32 :: r) | _ => none
  | .ineg => match st with | .int x :: r => some (.int (-x) :: r) | _ => none
  | .i2l => match st with | .int x :: r => some (.long x.toInt64 :: r) | _ => none
  | .i2c => match st with | .int x :: r => some (.int (x.toUInt32 % 65536).toInt32 :: r) | _ => none
  | .i2d => match st with | .int x :: r => some (.double (FP.i2d x) :: r) | _ => none
  | .lcmp => match st with | .long y :: .long x :: r => some (.int (lg_cmp x y) :: r) | _ => none
  | .dup => match st with
    | .int x :: r => some (.int x :: .int x :: r)
    | .ref x :: r => some (.ref x :: .ref x :: r)
    | _ => none
  | .dup2 => match st with
    | .int y :: .int x :: r => some (.int y :: .int x :: .int y :: .int x :: r)
    | .int y :: .ref x :: r => some (.int y :: .ref x :: .int y :: .ref x :: r)
    | _ => none
  | .pop => match st with | .int _ :: r => some r | _ => none
  | .dconst 0 => some (.double FP.dconst0 :: st)
  | _ => none
/-- a two-way branch: when, how far, what stays -/
def bra (ins : Instr) (st : List Value) : Option (Bool × Int × List Value) := match ins with
  | .ifCond .eq o => match st with | .int x :: r => some (decide (x = 0), o, r) | _ => none
  | .ifCond .ne o => match st with | .int x :: r => some (decide (¬ x = 0), o, r) | _ => none
  | .ifCond .lt o => match st with | .int x :: r => some (decide (x < 0), o, r) | _ => none
  | .ifCond .ge o => match st with | .int x :: r => some (decide (0 ≤ x), o, r) | _ => none
  | .ifCond .gt o => match st with | .int x :: r => some (decide (0 < x), o, r) | _ => none
  | .ifCond .le o => match st with | .int x :: r => some (decide (x ≤ 0), o, r) | _ => none
  | .if_icmp .eq o => match st with | .int y :: .int x :: r => some (decide (x = y), o, r) | _ => none
  | .if_icmp .ne o => match st with | .int y :: .int x :: r => some (decide (¬ x = y), o, r) | _ => none
  | .if_icmp .lt o => match st with | .int y :: .int x :: r => some (decide (x < y), o, r) | _ => none
  | .if_icmp .ge o => match st with | .int y :: .int x :: r => some (decide (y ≤ x), o, r) | _ => none
  | .if_icmp .gt o => match st with | .int y :: .int x :: r => some (decide (y < x), o, r) | _ => none
  | .if_icmp .le o => match st with | .int y :: .int x :: r => some (decide (x ≤ y), o, r) | _ => none
  | _ => none
def swO : Instr → Int32 → Option Int
  | .tableswitch d lo hi offs, x => if x.toInt < lo ∨ hi < x.toInt then some d else offs[(x.toInt - lo).toNat]?
  | .lookupswitch d ps, x => if (ps.toList.zip (ps.toList.drop 1)).all (fun (a, next) => a.1 < next.1) = true then some (Op.lookupswitch.offset ps.toList d x.toInt) else none
  | _, _ => none
def fN (t : Nat) : Nat := ((vwCl[t]?).map (fun r => r.2.2)).getD 0
def rvOK (K : Nat → Nat) (sh : HS) (k : Nat) : Option Value → Prop
  | some (.ref b) => ((rcN (mC k) < 15 ∧ ∃ n, sh b = some (rcN (mC k), n)) ∨ (mC k = 14 ∧ ∃ i, i < nS ∧ b = K i)) ∨ ((rcN (mC k) = 12 ∨ rcN (mC k) = 14) ∧ ∃ n, sh b = some (rcN (mC k) + 14, n))
  | _ => False
/-- a call of a method of the tables -/
def Vc (K : Nat → Nat) (X : VT) (kd q mi pc : Nat) (L : VL) (st : List Value) (sh : HS) (I : HI) (R : HR) (c : Nat × Nat) (F : VF) : Prop :=
  q < mT.length ∧ mN q ≤ st.length ∧ mK q = kd ∧ catS (st.drop (mN q)) ≤ 8 ∧ (mFr q + 1 ≤ mFr mi ∧ 8 + (mL q + 11) + mLo q ≤ mLo mi) ∧ (c.1 + mCe q ≤ mCe mi ∧ c.2 + mSl q ≤ mSl mi) ∧ ((kd = 1 → rvOK K sh q ((st.take (mN q)).getLast?)) ∧ (kd = 2 → ∃ b, (st.take (mN q)).getLast? = some (.ref b))) ∧
  ((entA ((st.take (mN q)).reverse)).length ≤ mL q ∧ ((st.take (mN q)).all (fun v => v.category == 1) = true ∨ mHl q = true)) ∧
  ∃ G : VF, X q 0 (ent (mL q) ((st.take (mN q)).reverse)) [] sh I R (0, 0) G ∧ (∀ sh' I' R', G (.inl none) sh' I' R' → X mi (pc + 3) L (st.drop (mN q)) sh' I' R' (c.1 + mCe q, c.2 + mSl q) F) ∧
    (∀ v sh' I' R', G (.inl (some v)) sh' I' R' → X mi (pc + 3) L (v :: st.drop (mN q)) sh' I' R' (c.1 + mCe q, c.2 + mSl q) F) ∧ (∀ E sh' I' R', G (.inr E) sh' I' R' → F (.inr E) sh' I' R')
def VmG (mi : Nat) (c : Nat × Nat) (r : List Value) : Prop := catS r ≤ 8 ∧ 1 ≤ mFr mi ∧ 26 ≤ mLo mi ∧ c.1 ≤ mCe mi ∧ c.2 ≤ mSl mi
/-- calls of Math, System, Object -/
def Vm (X : VT) (code mi pc : Nat) (L : VL) (st : List Value) (sh : HS) (I : HI) (R : HR) (c : Nat × Nat) (F : VF) : Prop :=
  match code with
  | 1000 => match st with | .int y :: .int x :: r => VmG mi c r ∧ X mi (pc + 3) L (.int (if y < x then y else x) :: r) sh I R c F | _ => False
  | 1001 => match st with | .int y :: .int x :: r => VmG mi c r ∧ X mi (pc + 3) L (.int (if x < y then y else x) :: r) sh I R c F | _ => False
  | 1002 => match st with | .int x :: r => VmG mi c r ∧ X mi (pc + 3) L (.int (if 0 ≤ x then x else 0 - x) :: r) sh I R c F | _ => False
  | 1003 => match st with
    | .int n :: .int dp :: .ref b :: .int sp :: .ref a :: r => VmG mi c r ∧ (∃ n0 n1, sh a = some (20, n0) ∧ sh b = some (20, n1) ∧ ¬ sp < 0 ∧ ¬ dp < 0 ∧ ¬ n < 0 ∧ sp.toNatClampNeg + n.toNatClampNeg ≤ n0 ∧ dp.toNatClampNeg + n.toNatClampNeg ≤ n1) ∧
        X mi (pc + 3) L r sh (cp2 I a sp.toNatClampNeg b dp.toNatClampNeg n.toNatClampNeg) R c F
    | _ => False
  | 1004 => match st with | .ref _ :: r => VmG mi c r ∧ X mi (pc + 3) L r sh I R c F | _ => False
  | _ => False
/-- how long an instruction is, where that isn't left open -/
def iln (ins : Instr) (n : Nat) : Nat := match ins with
  | .iload _ => 2 | .aload _ => 2 | .lload _ => 2 | .istore _ => 2 | .astore _ => 2 | .bipush _ => 2 | .sipush _ => 3 | .ldc _ => 2 | .ldc_w _ => 3 | .ldc2_w _ => 3
  | .ifCond _ _ => 3 | .if_icmp _ _ => 3 | .goto _ => 3 | .iinc _ _ => 3 | .getfield _ => 3 | .putfield _ => 3 | .getstatic _ => 3 | .new _ => 3 | .newarray _ => 2 | .anewarray _ => 3
  | .invokestatic _ => 3 | .invokevirtual _ => 3 | .invokespecial _ => 3 | .tableswitch _ _ _ _ => n | .lookupswitch _ _ => n
  | _ => 1
/-- a final field is written by its own class's constructor alone -/
def fF (t k : Nat) : Bool := ((vwCl[t]?).map (fun r => (r.2.1 k).2.2.2)).getD false
def Vi (K J : Nat → Nat) (X : VT) (ins : Instr) (n mi pc : Nat) (L : VL) (st : List Value) (sh : HS) (I : HI) (R : HR) (c : Nat × Nat) (F : VF) : Prop :=
  match ldI ins with
  | some (t, i) => (match L[i]? with | some (some v) => isTy t v = true ∧ X mi (pc + n) L (v :: st) sh I R c F | _ => False)
  | none =>
  match stI ins with
  | some (t, i) => (match st with | v :: r => isTy t v = true ∧ t < 2 ∧ mHl mi = false ∧ i < L.length ∧ X mi (pc + n) (L.set i (some v)) r sh I R c F | _ => False)
  | none =>
  match cst mi ins with
  | some v => X mi (pc + n) L (.int v :: st) sh I R c F
  | none =>
  match cstS mi ins with
  | some i => i < nS ∧ X mi (pc + n) L (.ref (K i) :: st) sh I R c F
  | none =>
  match cstJ mi ins with
  | some v => X mi (pc + n) L (.long v :: st) sh I R c F
  | none =>
  match ari ins st with
  | some r => X mi (pc + n) L r sh I R c F
  | none =>
  match bra ins st with
  | some (b, o, r) => 0 ≤ (pc : Int) + o ∧ (b = true → X mi ((pc : Int) + o).toNat L r sh I R c F) ∧ (b = false → X mi (pc + 3) L r sh I R c F)
  | none =>
  match ins with
  | .goto o => 0 ≤ (pc : Int) + o ∧ X mi ((pc : Int) + o).toNat L st sh I R c F
  | .tableswitch _ _ _ _ => (match st with | .int x :: r => (match swO ins x with | some o => 0 ≤ (pc : Int) + o ∧ X mi ((pc : Int) + o).toNat L r sh I R c F | none => False) | _ => False)
  | .lookupswitch _ _ => (match st with | .int x :: r => (match swO ins x with | some o => 0 ≤ (pc : Int) + o ∧ X mi ((pc : Int) + o).toNat L r sh I R c F | none => False) | _ => False)
  | .iinc i z => (match L[i]? with | some (some (.int x)) => mHl mi = false ∧ i < L.length ∧ X mi (pc + n) (L.set i (some (.int (x + Int32.ofInt z)))) st sh I R c F | _ => False)
  | .idiv => (match st with | .int y :: .int x :: r => ¬ y = 0 ∧ X mi (pc + n) L (.int (x / y) :: r) sh I R c F | _ => False)
  | .irem => (match st with | .int y :: .int x :: r => ¬ y = 0 ∧ X mi (pc + n) L (.int (x - x / y * y) :: r) sh I R c F | _ => False)
  | .ddiv => (match st with | .double y :: .double x :: r => vf_n64 (FP.ddiv x y) ∧ X mi (pc + n) L (.double (FP.ddiv x y) :: r) sh I R c F | _ => False)
  | .getfield ix => (match lk2 fL (mC mi) ix with
    | some (t, k, ty, _) => (match st with
      | .ref a :: r => (match t with
        | 20 => ∃ i, i < nS ∧ a = K i ∧ X mi (pc + 3) L (.ref (J i) :: r) sh I R c F
        | 21 => ∃ i, i < nS ∧ a = K i ∧ X mi (pc + 3) L (.int 0 :: r) sh I R c F
        | _ => (∃ m, sh a = some (t, m)) ∧ t < 15 ∧ X mi (pc + 3) L ((if ty = 2 then va_rf (R a k) else .int (I a k)) :: r) sh I R c F)
      | _ => False)
    | none => False)
  | .putfield ix => (match lk2 fL (mC mi) ix with
    | some (t, k, ty, _) => (match st with
      | .int x :: .ref a :: r => ((∃ m, sh a = some (t, m)) ∧ (fF t k = true → mK mi = 2 ∧ mC mi = t) ∧ t < 15) ∧ ty < 2 ∧ (ty = 1 → x = 0 ∨ x = 1) ∧ X mi (pc + 3) L r sh (u2 I a k x) R c F
      | .ref v :: .ref a :: r => ((∃ m, sh a = some (t, m)) ∧ (fF t k = true → mK mi = 2 ∧ mC mi = t) ∧ t < 15) ∧ ty = 2 ∧ X mi (pc + 3) L r sh I (u2 R a k (some v)) c F
      | _ => False)
    | none => False)
  | .getstatic ix => (match lk2 gL (mC mi) ix with
    | some (0, _) => X mi (pc + 3) L (.int 1 :: st) sh I R c F
    | some (_, _) => ∀ v, (v = .null ∨ ∃ a, v = .ref a) → X mi (pc + 3) L (v :: st) sh I R c F
    | none => False)
  | .iaload => (match st with | .int i :: .ref a :: r => (∃ m, sh a = some (20, m) ∧ vp_in i m) ∧ X mi (pc + n) L (.int (I a i.toNatClampNeg) :: r) sh I R c F | _ => False)
  | .baload => (match st with | .int i :: .ref a :: r => ∃ k, k < nS ∧ a = J k ∧ vp_in i (sLen k) ∧ X mi (pc + n) L (.int (sByt k i.toNatClampNeg) :: r) sh I R c F | _ => False)
  | .aaload => (match st with | .int i :: .ref a :: r => (∃ t m, sh a = some (30 + t, m) ∧ vp_in i m) ∧ X mi (pc + n) L (va_rf (R a i.toNatClampNeg) :: r) sh I R c F | _ => False)
  | .iastore => (match st with | .int x :: .int i :: .ref a :: r => (∃ m, sh a = some (20, m) ∧ vp_in i m) ∧ X mi (pc + n) L r sh (u2 I a i.toNatClampNeg x) R c F | _ => False)
  | .aastore => (match st with | .ref v :: .int i :: .ref a :: r => (∃ t m m2, sh a = some (30 + t, m) ∧ vp_in i m ∧ sh v = some (t, m2) ∧ t < 10) ∧ X mi (pc + n) L r sh I (u2 R a i.toNatClampNeg (some v)) c F | _ => False)
  | .arraylength => (match st with | .ref a :: r => ∃ k, k < nS ∧ a = J k ∧ X mi (pc + n) L (.int (nI (sLen k)) :: r) sh I R c F | _ => False)
  | .new ix => (match lk2 nL (mC mi) ix with
    | some (t, _) => c.1 + 1 ≤ mCe mi ∧ c.2 + fN t ≤ mSl mi ∧ ∀ a, sh a = none → X mi (pc + 3) L (.ref a :: st) (u1 sh a (some (t, fN t))) (u1 I a (fun _ => 0)) (u1 R a (fun _ => none)) (c.1 + 1, c.2 + fN t) F
    | none => False)
  | .newarray .int => (match st with | .int x :: r => ¬ x < 0 ∧ x.toNatClampNeg < 100000 ∧ c.1 + 1 ≤ mCe mi ∧ c.2 + x.toNatClampNeg ≤ mSl mi ∧ ∀ a, sh a = none → X mi (pc + 2) L (.ref a :: r) (u1 sh a (some (20, x.toNatClampNeg))) (u1 I a (fun _ => 0)) R (c.1 + 1, c.2 + x.toNatClampNeg) F | _ => False)
  | .anewarray ix => (match lk2 nL (mC mi) ix with
    | some (t, _) => (match st with | .int x :: r => (¬ x < 0 ∧ (t = 0 ∨ t = 5 ∨ t = 7)) ∧ x.toNatClampNeg < 100000 ∧ c.1 + 1 ≤ mCe mi ∧ c.2 + x.toNatClampNeg ≤ mSl mi ∧ ∀ a, sh a = none → X mi (pc + 3) L (.ref a :: r) (u1 sh a (some (30 + t, x.toNatClampNeg))) I (u1 R a (fun _ => none)) (c.1 + 1, c.2 + x.toNatClampNeg) F | _ => False)
    | none => False)
  | .invokestatic ix => (match lk2 kL (mC mi) ix with
    | some (code, _) => (code < 1000 → Vc K X 0 code mi pc L st sh I R c F) ∧ (¬ code < 1000 → code < 1004 ∧ Vm X code mi pc L st sh I R c F)
    | none => False)
  | .invokevirtual ix => (match lk2 kL (mC mi) ix with
    | some (code, _) => code < 1000 ∧ Vc K X 1 code mi pc L st sh I R c F
    | none => False)
  | .invokespecial ix => (match lk2 kL (mC mi) ix with
    | some (code, _) => (code < 1000 → Vc K X 2 code mi pc L st sh I R c F) ∧ (¬ code < 1000 → code = 1004 ∧ Vm X code mi pc L st sh I R c F)
    | none => False)
  | .return_ => mRt mi = none ∧ st = [] ∧ c.1 ≤ mCe mi ∧ c.2 ≤ mSl mi ∧ F (.inl none) sh I R
  | .ireturn => (match st with | [.int x] => (∃ ty, mRt mi = some ty ∧ narrow ty (.int x) = .int x) ∧ c.1 ≤ mCe mi ∧ c.2 ≤ mSl mi ∧ F (.inl (some (.int x))) sh I R | _ => False)
  | .areturn => (match st with | [.ref x] => (∃ d, mRt mi = some (.object d)) ∧ c.1 ≤ mCe mi ∧ c.2 ≤ mSl mi ∧ F (.inl (some (.ref x))) sh I R | _ => False)
  | .dreturn => (match st with | [.double x] => mRt mi = some .double ∧ c.1 ≤ mCe mi ∧ c.2 ≤ mSl mi ∧ F (.inl (some (.double x))) sh I R | _ => False)
  | _ => False
def Vs (K J : Nat → Nat) (X : VT) : VT := fun mi pc L st sh I R c F =>
  match (if pc < 1000 then tL.lookup (mi * 1000 + pc) else none) with
  | some E => c.1 + 1 ≤ mCe mi ∧ c.2 + 6 ≤ mSl mi ∧ catS st ≤ 6 ∧ F (.inr E) sh I R
  | none => match decode (mB mi) pc with
    | .ok (ins, n) => n = iln ins n ∧ Vi K J X ins n mi pc L st sh I R c F
    | _ => False
/-- the least meaning -/
def V (K J : Nat → Nat) : VT := fun mi pc L st sh I R c F => ∀ X : VT, (∀ mi pc L st sh I R c F, Vs K J X mi pc L st sh I R c F → X mi pc L st sh I R c F) → X mi pc L st sh I R c F
