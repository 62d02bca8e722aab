/-! THE SMALL MACHINE IS THE MACHINE'S: what V says of an abstract heap, W says of the heap that holds it -/
def wAll : List Cond := lw_tb2.filter goodWord
theorem wAll_good : GoodIn lw_tb2 wAll := fun w h => ⟨(List.mem_filter.mp h).1, good_of_word (List.mem_filter.mp h).2⟩
theorem wAll_self : GoodIn wAll wAll := fun w h => ⟨h, good_of_word (List.mem_filter.mp h).2⟩
theorem wAll_at {i : Nat} {w : Cond} (h : lw_tb2[i]? = some w) (hg : goodWord w = true) : w ∈ wAll := List.mem_filter.mpr ⟨List.mem_of_getElem? h, hg⟩
def fT (t k : Nat) : Bool := ((vwCl[t]?).map (fun r => !((r.2.1 k).2.2.1 == "I" || ((r.2.1 k).2.2.1 == "Z" || (r.2.1 k).2.2.1 == "B")))).getD false
def fv (t k a : Nat) (I : HI) (R : HR) : Value := if fT t k = true then va_rf (R a k) else .int (I a k)
def lenS : List Nat := strs.map String.length
def bytS : List (List Int32) := strs.map (fun z => z.toList.map (fun c => Int32.ofNat c.toNat))
/-- words of a throw that aren't carried by a method's words -/
def nW : List Cond := [.castable "java/lang/IllegalStateException" "java/lang/IllegalStateException", .castable "java/lang/IllegalArgumentException" "java/lang/IllegalArgumentException", .castable "java/util/NoSuchElementException" "java/util/NoSuchElementException", .declares ⟨"java/lang/RuntimeException", "<init>", "(Ljava/lang/String;)V"⟩, .declares ⟨"java/lang/Exception", "<init>", "(Ljava/lang/String;)V"⟩, .declares ⟨"java/lang/Throwable", "<init>", "(Ljava/lang/String;)V"⟩]
def aN : List String := ["ShotListPlanner$Board", "ShotListPlanner$Scene", "ShotListPlanner$Shot"]
/-- the host of the nest of a class -/
def hoN (c : Nat) : String := if c = 17 then "ShotListPlannerLaw" else if c = 11 then "java/util/ArrayList" else "ShotListPlanner"
/-- the words of casts, of the iterator's interface, of arrays' classes -/
def nW2 : List Cond := [.castable "[I" "java/lang/Object", .castable "java/lang/Integer" "java/lang/Object", .castable "[B" "java/lang/Cloneable", .castable "java/util/ArrayList$Itr" "java/util/Iterator"]
def fxN (q : Nat × Nat × Nat × Nat × Nat × Nat) : Cond := match vwCl[q.2.1]? with
  | some r => .fieldLinkNest (cN (q.1 / 10000)) (q.1 % 10000) (r.2.1 q.2.2.1).1 (r.2.1 q.2.2.1).2.1 (r.2.1 q.2.2.1).2.2.1 (hoN (q.1 / 10000))
  | none => .castable "[I" "java/lang/Object"
def itX : MethodName := ⟨"java/util/Iterator", "hasNext", "()Z"⟩
def itY : MethodName := ⟨"java/util/Iterator", "next", "()Ljava/lang/Object;"⟩
/-- what the law needs beyond the class: statics of the JDK, a class object, casts, nest mates' fields, the iterator's interface -/
def WB2 (K J : Nat → Nat) (A : Nat → Prop) (U : State) (H : Heap) : Prop :=
  (va_Z "java/util/ArrayList" "DEFAULTCAPACITY_EMPTY_ELEMENTDATA" "[Ljava/lang/Object;" (.ref (K nS)) A U H ∧ va_Z "java/lang/Integer$IntegerCache" "high" "I" (.int 127) A U H ∧ va_Z "java/lang/Integer$IntegerCache" "cache" "[Ljava/lang/Integer;" (.ref (K (nS + 1))) A U H ∧
    va_Z "java/lang/Integer" "DigitOnes" "[B" (.ref (K (nS + 2))) A U H ∧ va_Z "java/lang/Integer" "DigitTens" "[B" (.ref (K (nS + 3))) A U H) ∧
  (∀ q ∈ fX, q.2.2.2.2.2 = 1 → va_Nw (fxN q) U) ∧ (∀ w ∈ nW2, va_Nw w U) ∧ va_Mi "[Ljava/lang/Object;" (J nS) U ∧ va_Dc U ∧ va_AO "java/lang/Object" U ∧ va_AOA .int U ∧
  va_Fw "java/util/ArrayList$Itr" itX yJx35411_hasNext_aae02 U ∧ va_Fw "java/util/ArrayList$Itr" itY yJx35411_next_0502b U
/-- the texts, the statics, the links between nest mates: what a method finds and leaves -/
def WB (K J : Nat → Nat) (A : Nat → Prop) (U : State) (H : Heap) : Prop :=
  vk_S nS lenS bytS K J A U H ∧ (∀ q ∈ sL, vk_R (cN (q.1 / 10000)) (q.1 % 10000) (strs.getD q.2.1 "") (K q.2.1) U) ∧
  (∀ w ∈ nW, va_Nw w U) ∧ (∀ q ∈ kL, q.2.2.1 = 1 → va_Nw (.methodLinkNest (cN (q.1 / 10000)) (q.1 % 10000) (mY q.2.1) (hoN (q.1 / 10000))) U) ∧
  vx_Zq Bundle.tN "UNASSIGNED_STACK" Bundle.steD A U H ∧ vx_Zq Bundle.tN "SUPPRESSED_SENTINEL" Bundle.listD A U H ∧
  va_Z "java/lang/String" "COMPACT_STRINGS" "Z" (.int 1) A U H ∧ va_Zq "jdk/internal/util/Preconditions" "SIOOBE_FORMATTER" "Ljava/util/function/BiFunction;" A U H ∧ (∀ C ∈ aN, va_AO C U) ∧ WB2 K J A U H
/-- the elements of an array of references, by its kind -/
def eTy (u : Nat) : FieldType := if u = 15 then .array .int else if u = 16 then .object "java/lang/Object" else if u = 17 then .object "java/lang/Integer" else .object (cN u)
/-- an old cell: a field of it, its contents -/
def oF (s : State) (o n d : String) (v : Value) (cell : Cell) : Prop := ∃ (cf : ClassId) (k : Class) (i : Nat) (f : Field), s.fieldFound? o n d = some (cf, k, i, f) ∧ f.isStatic = false ∧ cell.vm ≠ .unknown ∧ cell.slots[f.slot]? = some v
def oT (s : State) (ty : FieldType) (n : Nat) (f : Nat → Value) (cell : Cell) : Prop := s.isArrayOf cell ty ∧ cell.vm ≠ .unknown ∧ n ≤ cell.slots.size ∧ cell.slots.size.toInt32 = Int32.ofNat n ∧ ∀ j : Nat, j < n → cell.slots[j]? = some (f j)
def oO (s : State) (E : String) (cell : Cell) : Prop := cell.vm.isStatics = false ∧ s.vm.findClass E = some cell.cls
def rcO (s : State) (t n a : Nat) (I : HI) (R : HR) (cell : Cell) : Prop :=
  (t = 26 → oO s "java/lang/Integer" cell ∧ oF s "java/lang/Integer" "value" "I" (.int (I a 0)) cell) ∧
  (t = 28 → oO s "java/lang/String" cell ∧ oF s "java/lang/String" "coder" "B" (.int (I a 1)) cell ∧ oF s "java/lang/String" "value" "[B" (va_rf (R a 0)) cell) ∧
  (t = 22 → oT s .int n (fun j => .int (I a j)) cell) ∧ (t = 23 → oT s .byte n (fun j => .int (I a j)) cell) ∧
  (t = 24 → oT s (.object "java/lang/Object") n (fun j => va_rf (R a j)) cell) ∧ (t = 25 → oT s (.object "java/lang/Integer") n (fun j => va_rf (R a j)) cell)
def rc (D : va_G) (s : State) (t n a : Nat) (I : HI) (R : HR) (H : Heap) : Prop :=
  (t < 15 → ∃ r, vwCl[t]? = some r ∧ t_OB a (D.1 t) r.2.2 (D.2 t) H (fun k => fv t k a I R)) ∧
  (t = 20 → ∃ cA, H[a]? = some (arrV cA n (fun j => .int (I a j))) ∧ ArrOfT s cA .int ∧ va_RA s cA .int) ∧
  (∀ u, t = 30 + u → ∃ cA, H[a]? = some (arrV cA n (fun j => va_rf (R a j))) ∧ ArrOfT s cA (eTy u) ∧ va_RA s cA (eTy u)) ∧
  (t = 21 → ∃ cA, H[a]? = some (arrV cA n (fun j => .int (I a j))) ∧ ArrOfT s cA .byte ∧ va_RA s cA .byte ∧ ∀ j, j < n → fits .byte (.int (I a j)) = true) ∧
  (22 ≤ t → t < 30 → ∃ cell, H[a]? = some cell ∧ rcO s t n a I R cell)
def RP (D : va_G) (s : State) (A : Nat → Prop) (sh : HS) (I : HI) (R : HR) (H : Heap) : Prop := ∀ a t n, sh a = some (t, n) → ((t < 22 ∨ 30 ≤ t) → A a) ∧ a < H.size ∧ rc D s t n a I R H
def QF (D : va_G) (A : Nat → Prop) (F : VF) : Array Value → State → Outcome → State → Prop := fun _ s o t => ∃ v sh I R, o = .returned v ∧ F (.inl v) sh I R ∧ RP D t A sh I R t.heap ∧ va_F A s t
def XF (D : va_G) (A : Nat → Prop) (F : VF) : String → State → State → Prop := fun E s t => ∃ sh I R, F (.inr E) sh I R ∧ RP D t A sh I R t.heap ∧ va_F A s t
def lok (mi : Nat) (ls : Array Slot) (L : VL) : Prop := ls.size = mL mi ∧ L.length = mL mi ∧ lv_wf ls ∧ ∀ (i : Nat) (v : Value), L[i]? = some (some v) → ls[i]? = some (.val v) ∧ (v.category = 2 → mHl mi = true)
def CX (l : Launch) (K J : Nat → Nat) (D : va_G) (mi : Nat) (p : Program) (s : State) (m : MethodId) (args : Array Value) (meth : Method) (cd : Code) (A : Nat → Prop) : Prop :=
  p.tables.exec = Jvm.exec ∧ cd.code = mB mi ∧ cd.maxLocals = mL mi ∧ meth.sig.returnType = mRt mi ∧ s.vm.findClass (cN (mC mi)) = some m.cls ∧ (∀ w ∈ wAll, w.before args s = true) ∧ meth.locks = false ∧ (mK mi = 2 → meth.name = "<init>") ∧
  (∀ x ∈ cd.exceptionTable.toList, False) ∧ va_K D vwCl [] s ∧ WB K J A s s.heap ∧ (∀ q, s.heap.size ≤ q → A q) ∧ l.stackTraces = false ∧ True
def MW (l : Launch) (K J : Nat → Nat) : VT := fun mi pc L st sh I R c F => ∀ (D : va_G) (p : Program) (e : Env) (s : State) (m : MethodId) (args : Array Value) (below : List Frame) (meth : Method) (cd : Code) (A : Nat → Prop) (H : Heap) (locs : List Loc) (ls : Array Slot),
  CX l K J D mi p s m args meth cd A → RP D s A sh I R H → lok mi ls L → va_S A s.heap H locs →
  W p l e (mRm mi) s m args below meth cd H locs c.1 c.2 (vx_MQ below (QF D A F) (XF D A F) args s (mCe mi) (mSl mi) A) (F0 m pc ls st)
def prs (L : VL) : List (Nat × Value) := (List.range L.length).filterMap (fun j => match L[j]? with | some (some v) => some (j, v) | _ => none)
theorem prs_mem {L : VL} {j : Nat} {v : Value} : (j, v) ∈ prs L ↔ L[j]? = some (some v) := by
  unfold prs
  rw [List.mem_filterMap]
  constructor
  · rintro ⟨i, -, h⟩
    split at h
    · rename_i w e
      cases h
      exact e
    · cases h
  · intro h
    exact ⟨j, List.mem_range.mpr (List.getElem?_eq_some_iff.mp h).1, by rw [h]⟩
theorem lok_has {mi : Nat} {ls : Array Slot} {L : VL} (h : lok mi ls L) : lv_has ls (mL mi) (prs L) := ⟨h.1, h.2.2.1, fun q hq => (h.2.2.2 q.1 q.2 (prs_mem.mp hq)).1⟩
theorem lok_set {mi i : Nat} {ls ls' : Array Slot} {L : VL} {v : Value} (h : lok mi ls L) (hh : mHl mi = false) (hi : i < L.length) (hc : v.category = 1)
    (g : lv_has ls' (mL mi) ((i, v) :: (prs L).filter (fun q => !(q.1 == i) && !(q.1 + 1 == i && q.2.category == 2)))) : lok mi ls' (L.set i (some v)) := by
  refine ⟨g.1, by rw [List.length_set]; exact h.2.1, g.2.1, fun j w hj => ?_⟩
  by_cases e : j = i
  · subst e
    rw [List.getElem?_set_self hi] at hj
    cases hj
    exact ⟨g.2.2 (j, v) List.mem_cons_self, fun z => by omega⟩
  · rw [List.getElem?_set_ne (Ne.symm e)] at hj
    have h2 := (h.2.2.2 j w hj).2
    refine ⟨g.2.2 (j, w) (List.mem_cons_of_mem _ (List.mem_filter.mpr ⟨prs_mem.mpr hj, ?_⟩)), h2⟩
    have n2 : ¬ w.category = 2 := fun z => by rw [h2 z] at hh; cases hh
    simp [e, n2]
theorem lok_lt {mi i : Nat} {ls : Array Slot} {L : VL} (h : lok mi ls L) (hi : i < L.length) : i < mL mi := by rw [← h.2.1]; exact hi
section SIM
variable {l : Launch} {K J : Nat → Nat} {mi pc n : Nat} {L : VL} {st : List Value} {sh : HS} {I : HI} {R : HR} {c : Nat × Nat} {F : VF} {ins : Instr}
theorem sim_ld {t i : Nat} {v : Value} (hd : decode (mB mi) pc = .ok (ins, n)) (hn : n = iln ins n) (hi : ldI ins = some (t, i)) (hv : L[i]? = some (some v)) (ht : isTy t v = true) (hk : MW l K J mi (pc + n) L (v :: st) sh I R c F) : MW l K J mi pc L st sh I R c F := by
  intro D p e s m args below meth cd A H locs ls C hP hl hS
  have k := hk D p e s m args below meth cd A H locs ls C hP hl hS
  obtain ⟨hx, hb, hml, hr, hown, hts, hlk, hin, hex, hK, hB, hA, htr, hmi⟩ := C
  have hlv := (hl.2.2.2 i v hv).1
  cases ins <;> simp only [ldI, Option.some.injEq, Prod.mk.injEq, reduceCtorEq] at hi <;> obtain ⟨rfl, rfl⟩ := hi <;> simp only [iln] at hn <;> subst hn <;> cases v <;> simp [isTy] at ht
  all_goals first | exact lv_iload_n hx hb hd rfl hlv k | exact lv_iload hx hb hd hlv k | exact lv_aload_n hx hb hd rfl hlv k | exact lv_aload hx hb hd hlv k | exact lv_aload_nN hx hb hd rfl hlv k | exact lv_aloadN hx hb hd hlv k | exact lv_lload_n hx hb hd rfl hlv k | exact lv_lload hx hb hd hlv k
theorem sim_st {t i : Nat} {v : Value} (hd : decode (mB mi) pc = .ok (ins, n)) (hn : n = iln ins n) (hi : stI ins = some (t, i)) (ht : isTy t v = true) (ht2 : t < 2) (hh : mHl mi = false) (hlt : i < L.length) (hk : MW l K J mi (pc + n) (L.set i (some v)) st sh I R c F) : MW l K J mi pc L (v :: st) sh I R c F := by
  intro D p e s m args below meth cd A H locs ls C hP hl hS
  have hc : v.category = 1 := by cases v <;> simp [isTy] at ht <;> first | rfl | (subst ht; omega)
  have k : ∀ ls', lv_has ls' (mL mi) ((i, v) :: (prs L).filter (fun q => !(q.1 == i) && !(q.1 + 1 == i && q.2.category == 2))) → _ := fun ls' g => hk D p e s m args below meth cd A H locs ls' C hP (lok_set hl hh hlt hc g) hS
  obtain ⟨hx, hb, hml, hr, hown, hts, hlk, hin, hex, hK, hB, hA, htr, hmi⟩ := C
  have hlv := lok_has hl
  have hil := lok_lt hl hlt
  cases ins <;> simp only [stI, Option.some.injEq, Prod.mk.injEq, reduceCtorEq] at hi <;> obtain ⟨rfl, rfl⟩ := hi <;> simp only [iln] at hn <;> subst hn <;> cases v <;> simp [isTy] at ht
  all_goals first | exact lv_istore_n hx hb hd rfl hlv hil rfl k | exact lv_istore hx hb hd hlv hil rfl k | exact lv_astore_n hx hb hd rfl hlv hil rfl k | exact lv_astore hx hb hd hlv hil rfl k | exact lv_astore_nN hx hb hd rfl hlv hil rfl k | exact lv_astoreN hx hb hd hlv hil rfl k
theorem sim_iinc {i : Nat} {z : Int} {x : Int32} (hd : decode (mB mi) pc = .ok (.iinc i z, n)) (hn : n = iln (.iinc i z) n) (hv : L[i]? = some (some (.int x))) (hh : mHl mi = false) (hlt : i < L.length) (hk : MW l K J mi (pc + n) (L.set i (some (.int (x + Int32.ofInt z)))) st sh I R c F) : MW l K J mi pc L st sh I R c F := by
  intro D p e s m args below meth cd A H locs ls C hP hl hS
  have k : ∀ ls', lv_has ls' (mL mi) ((i, .int (x + Int32.ofInt z)) :: (prs L).filter (fun q => !(q.1 == i) && !(q.1 + 1 == i && q.2.category == 2))) → _ := fun ls' g => hk D p e s m args below meth cd A H locs ls' C hP (lok_set hl hh hlt rfl g) hS
  obtain ⟨hx, hb, hml, hr, hown, hts, hlk, hin, hex, hK, hB, hA, htr, hmi⟩ := C
  simp only [iln] at hn
  subst hn
  obtain ⟨k0, hk0⟩ := List.getElem?_of_mem (prs_mem.mpr hv)
  exact lv_iinc hx hb hd (lok_has hl) hk0 rfl (lok_lt hl hlt) rfl k
theorem sim_ari {r : List Value} (hd : decode (mB mi) pc = .ok (ins, n)) (hn : n = iln ins n) (hi : ari ins st = some r) (hk : MW l K J mi (pc + n) L r sh I R c F) : MW l K J mi pc L st sh I R c F := by
  intro D p e s m args below meth cd A H locs ls C hP hl hS
  have k := hk D p e s m args below meth cd A H locs ls C hP hl hS
  obtain ⟨hx, hb, hml, hr, hown, hts, hlk, hin, hex, hK, hB, hA, htr, hmi⟩ := C
  unfold ari at hi
  split at hi
  · simp only [iln] at hn; subst hn; split at hi <;> cases hi; exact lv_iadd hx hb hd k
  · simp only [iln] at hn; subst hn; split at hi <;> cases hi; exact lv_isub hx hb hd k
  · simp only [iln] at hn; subst hn; split at hi <;> cases hi; exact lv_imul hx hb hd k
  · simp only [iln] at hn; subst hn; split at hi <;> cases hi; exact lv_iand hx hb hd k
  · simp only [iln] at hn; subst hn; split at hi <;> cases hi; exact lv_ior hx hb hd k
  · simp only [iln] at hn; subst hn; split at hi <;> cases hi; exact lv_ixor hx hb hd k
  · simp only [iln] at hn; subst hn; split at hi <;> cases hi; exact lv_ishl hx hb hd k
  · simp only [iln] at hn; subst hn; split at hi <;> cases hi; exact lv_ishr hx hb hd k
  · simp only [iln] at hn; subst hn; split at hi <;> cases hi; exact lv_iushr hx hb hd rfl k
  · simp only [iln] at hn; subst hn; split at hi <;> cases hi; exact lv_ineg hx hb hd k
  · simp only [iln] at hn; subst hn; split at hi <;> cases hi; exact lv_i2l hx hb hd rfl k
  · simp only [iln] at hn; subst hn; split at hi <;> cases hi; exact lv_i2c hx hb hd rfl k
  · simp only [iln] at hn; subst hn; split at hi <;> cases hi; exact lv_i2d hx hb hd k
  · simp only [iln] at hn; subst hn; split at hi <;> cases hi; exact W.lcmp hx hb hd k
  · simp only [iln] at hn; subst hn; split at hi <;> cases hi <;> exact lv_dup hx hb hd rfl k
  · simp only [iln] at hn; subst hn; split at hi <;> cases hi <;> exact lv_dup2_11 hx hb hd rfl rfl k
  · simp only [iln] at hn; subst hn; split at hi <;> cases hi; exact lv_pop hx hb hd rfl k
  · simp only [iln] at hn; subst hn; cases hi; exact lv_dconst0 hx hb hd k
  · cases hi
theorem sim_bra {b : Bool} {o : Int} {r : List Value} (hd : decode (mB mi) pc = .ok (ins, n)) (hn : n = iln ins n) (hi : bra ins st = some (b, o, r)) (h0 : 0 ≤ (pc : Int) + o) (hk1 : b = true → MW l K J mi ((pc : Int) + o).toNat L r sh I R c F) (hk2 : b = false → MW l K J mi (pc + 3) L r sh I R c F) : MW l K J mi pc L st sh I R c F := by
  intro D p e s m args below meth cd A H locs ls C hP hl hS
  have k1 := fun z => hk1 z D p e s m args below meth cd A H locs ls C hP hl hS
  have k2 := fun z => hk2 z D p e s m args below meth cd A H locs ls C hP hl hS
  have kt : (pc : Int) + o = (((pc : Int) + o).toNat : Int) := (Int.toNat_of_nonneg h0).symm
  obtain ⟨hx, hb, hml, hr, hown, hts, hlk, hin, hex, hK, hB, hA, htr, hmi⟩ := C
  unfold bra at hi
  split at hi
  · simp only [iln] at hn; subst hn; split at hi <;> cases hi; exact lv_if_eq hx hb hd kt (fun z => k1 (decide_eq_true z)) (fun z => k2 (decide_eq_false z))
  · simp only [iln] at hn; subst hn; split at hi <;> cases hi; exact lv_if_ne hx hb hd kt (fun z => k1 (decide_eq_true z)) (fun z => k2 (decide_eq_false (fun q => q z)))
  · simp only [iln] at hn; subst hn; split at hi <;> cases hi; exact lv_if_lt hx hb hd kt (fun z => k1 (decide_eq_true z)) (fun z => k2 (decide_eq_false z))
  · simp only [iln] at hn; subst hn; split at hi <;> cases hi; exact lv_if_ge hx hb hd kt (fun z => k1 (decide_eq_true z)) (fun z => k2 (decide_eq_false z))
  · simp only [iln] at hn; subst hn; split at hi <;> cases hi; exact lv_if_gt hx hb hd kt (fun z => k1 (decide_eq_true z)) (fun z => k2 (decide_eq_false z))
  · simp only [iln] at hn; subst hn; split at hi <;> cases hi; exact lv_if_le hx hb hd kt (fun z => k1 (decide_eq_true z)) (fun z => k2 (decide_eq_false z))
  · simp only [iln] at hn; subst hn; split at hi <;> cases hi; exact lv_icmp_eq hx hb hd kt (fun z => k1 (decide_eq_true z)) (fun z => k2 (decide_eq_false z))
  · simp only [iln] at hn; subst hn; split at hi <;> cases hi; exact lv_icmp_ne hx hb hd kt (fun z => k1 (decide_eq_true z)) (fun z => k2 (decide_eq_false (fun q => q z)))
  · simp only [iln] at hn; subst hn; split at hi <;> cases hi; exact lv_icmp_lt hx hb hd kt (fun z => k1 (decide_eq_true z)) (fun z => k2 (decide_eq_false z))
  · simp only [iln] at hn; subst hn; split at hi <;> cases hi; exact lv_icmp_ge hx hb hd kt (fun z => k1 (decide_eq_true z)) (fun z => k2 (decide_eq_false z))
  · simp only [iln] at hn; subst hn; split at hi <;> cases hi; exact lv_icmp_gt hx hb hd kt (fun z => k1 (decide_eq_true z)) (fun z => k2 (decide_eq_false z))
  · simp only [iln] at hn; subst hn; split at hi <;> cases hi; exact lv_icmp_le hx hb hd kt (fun z => k1 (decide_eq_true z)) (fun z => k2 (decide_eq_false z))
  · cases hi
theorem sim_goto {o : Int} (hd : decode (mB mi) pc = .ok (.goto o, n)) (hn : n = iln (.goto o) n) (h0 : 0 ≤ (pc : Int) + o) (hk : MW l K J mi ((pc : Int) + o).toNat L st sh I R c F) : MW l K J mi pc L st sh I R c F := by
  intro D p e s m args below meth cd A H locs ls C hP hl hS
  have k := hk D p e s m args below meth cd A H locs ls C hP hl hS
  obtain ⟨hx, hb, hml, hr, hown, hts, hlk, hin, hex, hK, hB, hA, htr, hmi⟩ := C
  simp only [iln] at hn
  subst hn
  exact lv_goto hx hb hd (Int.toNat_of_nonneg h0).symm k
theorem sim_tab {d lo hi o : Int} {offs : Array Int} {x : Int32} (hd : decode (mB mi) pc = .ok (.tableswitch d lo hi offs, n)) (ho : swO (.tableswitch d lo hi offs) x = some o) (h0 : 0 ≤ (pc : Int) + o) (hk : MW l K J mi ((pc : Int) + o).toNat L st sh I R c F) : MW l K J mi pc L (.int x :: st) sh I R c F := by
  intro D p e s m args below meth cd A H locs ls C hP hl hS
  have k := hk D p e s m args below meth cd A H locs ls C hP hl hS
  obtain ⟨hx, hb, hml, hr, hown, hts, hlk, hin, hex, hK, hB, hA, htr, hmi⟩ := C
  simp only [swO] at ho
  by_cases hc : x.toInt < lo ∨ hi < x.toInt
  · rw [if_pos hc] at ho
    cases ho
    exact lv_tableOut hx hb hd hc (Int.toNat_of_nonneg h0).symm k
  · rw [if_neg hc] at ho
    exact lv_tableIn hx hb hd (fun z => hc (Or.inl z)) (fun z => hc (Or.inr z)) ho (Int.toNat_of_nonneg h0).symm k
theorem sim_lkp {d o : Int} {ps : Array (Int × Int)} {x : Int32} (hd : decode (mB mi) pc = .ok (.lookupswitch d ps, n)) (ho : swO (.lookupswitch d ps) x = some o) (h0 : 0 ≤ (pc : Int) + o) (hk : MW l K J mi ((pc : Int) + o).toNat L st sh I R c F) : MW l K J mi pc L (.int x :: st) sh I R c F := by
  intro D p e s m args below meth cd A H locs ls C hP hl hS
  have k := hk D p e s m args below meth cd A H locs ls C hP hl hS
  obtain ⟨hx, hb, hml, hr, hown, hts, hlk, hin, hex, hK, hB, hA, htr, hmi⟩ := C
  simp only [swO] at ho
  split at ho
  · rename_i hc
    cases ho
    exact lv_lookup hx hb hd hc rfl (Int.toNat_of_nonneg h0).symm k
  · cases ho
theorem sim_idiv {x y : Int32} (hd : decode (mB mi) pc = .ok (.idiv, n)) (hn : n = iln .idiv n) (h0 : ¬ y = 0) (hk : MW l K J mi (pc + n) L (.int (x / y) :: st) sh I R c F) : MW l K J mi pc L (.int y :: .int x :: st) sh I R c F := by
  intro D p e s m args below meth cd A H locs ls C hP hl hS
  have k := hk D p e s m args below meth cd A H locs ls C hP hl hS
  obtain ⟨hx, hb, hml, hr, hown, hts, hlk, hin, hex, hK, hB, hA, htr, hmi⟩ := C
  simp only [iln] at hn
  subst hn
  exact lv_idiv hx hb hd h0 k
theorem sim_irem {x y : Int32} (hd : decode (mB mi) pc = .ok (.irem, n)) (hn : n = iln .irem n) (h0 : ¬ y = 0) (hk : MW l K J mi (pc + n) L (.int (x - x / y * y) :: st) sh I R c F) : MW l K J mi pc L (.int y :: .int x :: st) sh I R c F := by
  intro D p e s m args below meth cd A H locs ls C hP hl hS
  have k := hk D p e s m args below meth cd A H locs ls C hP hl hS
  obtain ⟨hx, hb, hml, hr, hown, hts, hlk, hin, hex, hK, hB, hA, htr, hmi⟩ := C
  simp only [iln] at hn
  subst hn
  exact lv_irem hx hb hd h0 k
theorem sim_ddiv {x y : UInt64} (hd : decode (mB mi) pc = .ok (.ddiv, n)) (hn : n = iln .ddiv n) (h0 : vf_n64 (FP.ddiv x y)) (hk : MW l K J mi (pc + n) L (.double (FP.ddiv x y) :: st) sh I R c F) : MW l K J mi pc L (.double y :: .double x :: st) sh I R c F := by
  intro D p e s m args below meth cd A H locs ls C hP hl hS
  have k := hk D p e s m args below meth cd A H locs ls C hP hl hS
  obtain ⟨hx, hb, hml, hr, hown, hts, hlk, hin, hex, hK, hB, hA, htr, hmi⟩ := C
  simp only [iln] at hn
  subst hn
  exact lv_ddiv hx hb hd h0 k
end SIM
