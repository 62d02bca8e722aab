/-! STAGE 4: a case of the law's switch -/
def toV (o : Int32 ⊕ String) : Value ⊕ String := match o with
  | .inl x => .inl (.int x)
  | .inr E => .inr E
def toVD (o : UInt64 ⊕ String) : Value ⊕ String := match o with
  | .inl x => .inl (.double x)
  | .inr E => .inr E
theorem voI_voV (o : Int32 ⊕ String) : voI o = voV (toV o) := by cases o <;> rfl
theorem voD_voV (o : UInt64 ⊕ String) : voD o = voV (toVD o) := by cases o <;> rfl
def flg (g : Int32 → Int64) (r : Value) : Value := match r with
  | .int x => .long (g x)
  | r => r
def bas (b x0 x1 o3 o4 i : Nat) : List (Nat × Value) := [(0, .ref b), (1, .ref x0), (2, .ref x1), (3, .ref o3), (4, .ref o4), (5, .int (nI i))]
/-- what holds of the law's frame throughout -/
def LCX (l : Launch) (K J : Nat → Nat) (p : Program) (s : State) (m : MethodId) (args : Array Value) (cd : Code) (D : va_G) (b L : Nat) (xs : Nat → Int32) (sh : HS) (AD : Int → Nat) (o3 o4 : Nat) : Prop :=
  (CallFix p m cd code 9 s args wAll RL ∧ l.stackTraces = false) ∧ (va_K D vwCl [] s ∧ WB K J (lA s) s s.heap ∧ NCs s) ∧ (va_X b L xs s s.heap ∧ b < s.heap.size ∧ L ≤ 3072) ∧ (sh (AD 0) = some (8, 14) ∧ sh (AD 316) = some (9, 29)) ∧ (sh o3 = none ∧ sh o4 = none ∧ ¬ o3 = o4 ∧ lA s o3 ∧ lA s o4)
/-- what holds of the heap and the locals, number i of the script read -/
def LDY (s : State) (D : va_G) (b i : Nat) (sh : HS) (AD : Int → Nat) (o3 o4 : Nat) (H : Heap) (locs : List Loc) (ls : Array Slot) : Prop :=
  ∃ (I : HI) (R : HR) (z3 : Int64) (z4 : UInt64), RP D s (lA s) sh I R H ∧ OUC s H o3 .long (.long z3) ∧ OUC s H o4 .double (.double z4) ∧ va_S (lA s) s.heap H locs ∧ SINV sh AD I R ∧ lv_has ls 9 (bas b (AD 0) (AD 316) o3 o4 i)
/-- numbers are pushed from pc to pc' -/
def PUSHL (p : Program) (l : Launch) (e : Env) (Rm : Room) (s : State) (m : MethodId) (args : Array Value) (below : List Frame) (meth : Method) (cd : Code) (b i pc pc' : Nat) (vs : List Value) : Prop := ∀ (H : Heap) (locs : List Loc) (ls : Array Slot) (cells slots : Nat) (Q : State → Prop) (st : List Value), va_S (lA s) s.heap H locs → ls[0]? = some (.val (.ref b)) → ls[5]? = some (.val (.int (nI i))) → W p l e Rm s m args below meth cd H locs cells slots Q (F0 m pc' ls (vs.reverse ++ st)) → W p l e Rm s m args below meth cd H locs cells slots Q (F0 m pc ls st)
def wCk (cc : ByteArray) (n nL : Nat) (hh : List (Nat × Nat × Nat × Nat)) (hs : List (String × Int)) (ix p1 pc pcS pE : Nat) : Bool :=
  (wLd cc 0 1 (n + 1) p1 && (wIn cc p1 (.iconst 0) 1 && (wLd cc (p1 + 1) 1 0 (p1 + 2) && (wLds cc (p1 + 2) 1 n pc && (wIn cc pc (.invokevirtual ix) 3 && (wGo cc (pcS + 1) pE && (wIn cc pE (.iconst 0) 1 && wIn cc (pE + 1) .ireturn 1))))))) && (hs.all (fun z => hOK cc pc nL z.1 z.2 hh) && decide (n + 2 ≤ nL))
def qCk (q1 q2 n nL : Nat) : Bool := (decide (q1 < mT.length) && (decide (mK q1 = 1) && (decide (mC q1 = 8) && (decide (n + 1 = mN q1) && (decide (n + 1 ≤ mL q1) && (decide (mFr q1 + 2 ≤ 13) && (decide (8 + (nL + 11) + (8 + (mL q1 + 11) + mLo q1) ≤ 478) && (decide (mCe q1 ≤ 5) && decide (mSl q1 ≤ 30))))))))) &&
  (decide (q2 < mT.length) && (decide (mK q2 = 1) && (decide (mC q2 = 9) && (decide (n + 1 = mN q2) && (decide (n + 1 ≤ mL q2) && (decide (mFr q2 + 1 ≤ 13) && (decide (8 + (mL q2 + 11) + mLo q2 ≤ 478) && (decide (mCe q2 = 0) && decide (mSl q2 = 0)))))))))
def wdCk (ws : List Cond) : Bool := ws.all (fun w => goodWord w && lw_tbl.contains w)
theorem wdCk_of {ws : List Cond} (h : wdCk ws = true) {w : Cond} (hw : w ∈ ws) : w ∈ wAll := by
  have := List.all_eq_true.mp h w hw
  rw [Bool.and_eq_true] at this
  exact mem_of_contains this.2 this.1
section LAW
variable {l : Launch} {K J : Nat → Nat} {p : Program} {e : Env} {Rm : Room} {s : State} {m : MethodId} {args : Array Value} {below : List Frame} {meth : Method} {cd : Code} {H : Heap} {locs : List Loc} {ls : Array Slot} {D : va_G} {sh : HS} {I I1 I2 : HI} {R R1 : HR} {cells slots pc pc' b L i : Nat} {Q : State → Prop} {st rest : List Value} {xs : Nat → Int32} {AD : Int → Nat} {o3 o4 : Nat}
theorem OUC.lt {H : Heap} {oa : Nat} {ty : FieldType} {v : Value} (h : OUC s H oa ty v) : oa < H.size := by
  obtain ⟨cA, g, -⟩ := h
  exact (Array.getElem?_eq_some_iff.mp g).1
/-- the first half of a case: the law's own method, then the reference -/
theorem case_fr {P p1 p1' p2 ix1 ix2 ixw q1 q2 nL pw1 pcw pcS pE jo oa n : Nat} {y : MethodName} {cc : ByteArray} {hh : List (Nat × Nat × Nat × Nat)} {hs : List (String × Int)} {as : List Int32} {o : Value ⊕ String} {f : Value → Value} {ty : FieldType} {v0 r : Value}
    (LC : LCX l K J p s m args cd D b L xs sh AD o3 o4) (hRm : 13 ≤ Rm.frames ∧ 478 ≤ Rm.locals) (hn : as.length = n)
    (hpc : (wLd code P 1 1 (P + 1) && (wLd code p1 1 jo p1' && (wIn code p1' (.invokestatic ix1) 3 && (wSt code (p1' + 3) 0 6 (p1' + 5) && (wLd code (p1' + 5) 1 2 (p1' + 6) && wIn code p2 (.invokevirtual ix2) 3))))) = true)
    (hw : wCk cc n nL hh hs ixw pw1 pcw pcS pE = true) (hq : qCk q1 q2 n nL = true) (hy : y.cls = RL) (hpar : (parseMethodDescriptor y.desc).map (fun d => d.parameters.length) = some (n + 2))
    (hwd : wdCk [Cond.codeWith y cc nL (some .int) hh, Cond.initialized y.cls, Cond.methodLink RL ix1 y, Cond.static y, Cond.methodLink RL ixw (mY q1), Cond.methodLink RL ix2 (mY q2)] = true)
    (hpush1 : PUSHL p l e Rm s m args below meth cd b i (P + 1) p1 (as.map Value.int)) (hpush2 : PUSHL p l e Rm s m args below meth cd b i (p1' + 6) p2 (as.map Value.int))
    (hoa : (jo = 3 ∧ oa = o3) ∨ (jo = 4 ∧ oa = o4)) (hP : RP D s (lA s) sh I R H) (hO : OUC s H oa ty v0) (hS : va_S (lA s) s.heap H locs) (hl : lv_has ls 9 (bas b (AD 0) (AD 316) o3 o4 i))
    (hr1 : RES K J q1 (.ref (AD 0) :: as.map Value.int) sh I R (voV o) I1 R1) (hr2 : RES K J q2 (.ref (AD 316) :: as.map Value.int) sh I1 R1 (.inl (some r)) I2 R1)
    (hcv : ∀ r, o = .inl r → CONV cc (pcw + 3) pcS r (f r) ∧ STO cc pcS ty (f r)) (hex : ∀ E, o = .inr E → ∃ z, (E, z) ∈ hs)
    (hfit : cells + 5 ≤ Rm.cells ∧ slots + 30 ≤ Rm.slots)
    (kk : ∀ (k : Int32) (w : Value) (H1 : Heap) (locs1 : List Loc) (ls1 : Array Slot), OW o hs f v0 k w → RP D s (lA s) sh I2 R1 H1 → OUC s H1 oa ty w → va_S (lA s) s.heap H1 locs1 → (∀ ob : Nat, ¬ ob = oa → sh ob = none → ob < H.size → H1[ob]? = H[ob]?) → lv_has ls1 9 ((6, .int k) :: bas b (AD 0) (AD 316) o3 o4 i) → W p l e Rm s m args below meth cd H1 locs1 (cells + 5) (slots + 30) Q (F0 m (p2 + 3) ls1 [r])) :
    W p l e Rm s m args below meth cd H locs cells slots Q (F0 m P ls []) := by
  obtain ⟨⟨S, htr⟩, ⟨hK, hB, hN⟩, ⟨hX, hbl, hL⟩, ⟨hs0, hsm⟩, ⟨n3, n4, n34, a3, a4⟩⟩ := LC
  have hx := S.1
  have hb := S.2.1
  simp only [Bool.and_eq_true] at hpc
  obtain ⟨d1, d2, d3, d4, d5, d6⟩ := hpc
  unfold wCk at hw
  rw [Bool.and_eq_true] at hw
  obtain ⟨w1, w2⟩ := hw
  rw [Bool.and_eq_true, decide_eq_true_eq] at w2
  unfold qCk at hq
  simp only [Bool.and_eq_true, decide_eq_true_eq] at hq
  obtain ⟨⟨e1, e2, e3, e4, e5, e6, e7, e8, e9⟩, f1, f2, f3, f4, f5, f6, f7, f8, f9⟩ := hq
  have hoa2 : lA s oa ∧ sh oa = none := by
    rcases hoa with ⟨-, rfl⟩ | ⟨-, rfl⟩
    · exact ⟨a3, n3⟩
    · exact ⟨a4, n4⟩
  have hlo : ls[jo]? = some (.val (.ref oa)) := by
    rcases hoa with ⟨rfl, rfl⟩ | ⟨rfl, rfl⟩
    · exact lv_at hl 3 rfl
    · exact lv_at hl 4 rfl
  subst hn
  refine wl_ld (t := 1) (i := 1) (v := .ref (AD 0)) hx hb d1 (lv_at hl 1 rfl) rfl ?_
  refine hpush1 H locs ls _ _ _ _ hS (lv_at hl 0 rfl) (lv_at hl 5 rfl) ?_
  refine wl_ld (t := 1) (i := jo) (v := .ref oa) hx hb d2 hlo rfl ?_
  have hM := wr_met (l := l) (K := K) (J := J) (D := D) (A := NW sh oa H) (sh := sh) (I := I) (I' := I1) (R := R) (R' := R1) (pc := pcw) (q := q1) (cc := cc) (y := y) (nL := nL) (hz := H.size) (oa := oa) (br := AD 0) (n' := 14) (ix := ixw) (p1 := pw1) (pcS := pcS) (pE := pE) (xs := as) (hh := hh) (hs := hs) (o := o) (f := f) (ty := ty) (v0 := v0) hy htr w1 w2.1 w2.2 e1 e2 (by omega) (wdCk_of hwd (by simp)) e4 e5 (by rw [e3]; exact hs0) hoa2.2 hO.lt (fun x h => Or.inr (Or.inr h)) (Or.inr (Or.inl rfl)) hr1 hcv hex
  refine lw_wrap (y := y) (cc := cc) (nL := nL) (nA := as.length + 2) (oa := oa) (ix := ix1) (hh := hh) (hs := hs) (o := o) (f := f) (ty := ty) (v0 := v0) (As := .ref (AD 0) :: as.map Value.int ++ [Value.ref oa]) (q := q1) (rest := []) S hK hB hN hP hO hoa2.1 hO.lt hoa2.2 hS hM ⟨wdCk_of hwd (by simp), wdCk_of hwd (by simp), wdCk_of hwd (by simp), wdCk_of hwd (by simp)⟩ hy hpar (by simp) ⟨by omega, by omega⟩ ⟨by omega, by omega⟩ (wIn_of d3) hl.1 (Nat.le_of_ble_eq_true rfl) (by simp) ?_
  intro k w H1 locs1 hOW hP1 hO1 hS1 hz1 hk1
  refine wl_st (t := 0) (i := 6) (v := .int k) (lv' := (6, .int k) :: bas b (AD 0) (AD 316) o3 o4 i) hx hb d4 rfl (by decide) hl (by decide) rfl (fun ls1 hl1 => ?_)
  refine wl_ld (t := 1) (i := 2) (v := .ref (AD 316)) hx hb d5 (lv_at hl1 3 rfl) rfl ?_
  refine hpush2 H1 locs1 ls1 _ _ _ _ hS1 (lv_at hl1 1 rfl) (lv_at hl1 6 rfl) ?_
  refine lw_call (K := K) (J := J) (D := D) (sh := sh) (I := I1) (I' := I2) (R := R1) (R' := R1) (q := q2) (br := AD 316) (n' := 29) (ix := ix2) (as := as.map Value.int) (r := r) (rest := []) S htr f1 f2 (by omega) hK hB hP1 hS1 (by rw [f3]; exact hsm) (wdCk_of hwd (by simp)) (wIn_of d6) hl1.1 (by rw [List.length_map]; exact f4) (by rw [List.length_map]; exact f5) (by rw [List.all_map, List.all_eq_true]; intro x _; rfl) ⟨by omega, by omega⟩ ⟨by omega, by omega⟩ (Nat.le_of_ble_eq_true rfl) rfl hr2 ?_
  intro H2 locs2 hP2 hS2 hz2 hk2
  refine W.widen (k := cells + 5) (n := slots + 30) (by omega) (by omega) ?_
  exact kk k w H2 locs2 ls1 hOW hP2 (hO1.kept (hk2 oa hoa2.2 (by have := hO.lt; omega))) hS2 (fun ob h1 h2 h3 => (hk2 ob h2 (by omega)).trans (hk1 ob h1 h2 h3)) hl1
end LAW
