/-! new int[n][m]: the outer array, then each inner one and its place in the outer -/
theorem xm_arr {E : CtlPost} {e : Env} {d : Bool} {acts : List Action} {s : State} {c cc : ClassId} {k : Class} {t : FieldType} {n : Nat} {v : Value} (hk : s.vm.classes[c]? = some k) (hkd : k.kind = .array cc t) (h1 : ¬ n > e.platform.arrayLengthLimit) (h2 : ¬ n * componentBytes t > e.platform.maxHeapBytes)
    (hv : fits t v = true) (h3 : s.heap.size < e.platform.maxCells) (h4 : s.slotsUsed + n ≤ e.platform.maxSlots) {Q : Addr → Pre} (hq : ∀ d' acts', Q s.heap.size d' acts' (s.pushCell { cls := c, slots := Array.replicate n v, vm := .none })) : wp (Jvm.newArray c n v) Q E e d acts s := by
  have hf : ∀ i w, (Array.replicate n v)[i]? = some w → s.fitsSlot c .none i w = true := by
    intro i w hw
    rw [Array.getElem?_replicate] at hw
    split at hw
    · cases hw
      simp [State.fitsSlot, State.slotType?, hk, hkd, hv]
    · cases hw
  simp only [Jvm.newArray, Jvm.arrayFits, wp_bind', W.ask, W.ite, h1, if_false, wp_pure', W.theClass, hk, hkd, h2, W.alloc, W.stop, Option.some.injEq, exists_eq_left', Array.size_replicate]
  rw [if_neg (show ¬ n > e.platform.maxSlots by omega)]
  exact ⟨h3, h4, hf, hq _ _⟩
def mnS (sh : HS) (a N M : Nat) : Nat → HS
  | 0 => u1 sh a (some (45, N))
  | i + 1 => u1 (mnS sh a N M i) (a + 1 + i) (some (20, M))
def mnI (I : HI) (a : Nat) : Nat → HI
  | 0 => I
  | i + 1 => u1 (mnI I a i) (a + 1 + i) (fun _ => 0)
def mnR (R : HR) (a : Nat) : Nat → HR
  | 0 => u1 R a (fun _ => none)
  | i + 1 => u2 (mnR R a i) a i (some (a + 1 + i))
def mnT (T : State) (a : Nat) (cA comp : ClassId) (N M : Nat) (R : HR) : Nat → State
  | 0 => T.pushCell (arrV cA N (fun _ => .null))
  | i + 1 => ((mnT T a cA comp N M R i).pushCell (arrV comp M (fun _ => .int 0))).setCell a ((arrV cA N (fun j => va_rf (mnR R a i a j))).setSlot i (.ref (a + 1 + i)))
theorem mnS_a {sh : HS} {a N M : Nat} : ∀ i, mnS sh a N M i a = some (45, N)
  | 0 => by unfold mnS; rw [u1_on]
  | i + 1 => by unfold mnS; rw [u1_off (by omega)]; exact mnS_a i
section SIM
variable {l : Launch} {K J : Nat → Nat} {mi pc n : Nat} {L : VL} {st : List Value} {sh : HS} {I : HI} {R : HR} {c : Nat × Nat} {F : VF} {ins : Instr}
theorem sim_mna {x y : Int32} {ix pos : Nat} (hd : decode (mB mi) pc = .ok (.multianewarray ix 2, 4)) (hf : lk2 cX (mC mi) ix = some (2, pos)) (hx0 : ¬ x < 0) (hx1 : x.toNatClampNeg < 1000) (hy0 : ¬ y < 0) (hy1 : y.toNatClampNeg < 1000)
    (h1 : c.1 + (1 + x.toNatClampNeg) ≤ mCe mi) (h2 : c.2 + (x.toNatClampNeg + x.toNatClampNeg * y.toNatClampNeg) ≤ mSl mi)
    (hk : ∀ a, (∀ i, sh (a + i) = none) → MW l K J mi (pc + 4) L (.ref a :: st) (mnS sh a x.toNatClampNeg y.toNatClampNeg x.toNatClampNeg) (mnI I a x.toNatClampNeg) (mnR R a x.toNatClampNeg) (c.1 + (1 + x.toNatClampNeg), c.2 + (x.toNatClampNeg + x.toNatClampNeg * y.toNatClampNeg)) F) : MW l K J mi pc L (.int y :: .int x :: st) sh I R c F := by
  intro D p e s m args below meth cd A H locs ls C hP hl hS
  have hfr : ∀ i, sh (H.size + i) = none := by
    intro i
    cases e0 : sh (H.size + i) with
    | none => rfl
    | some q => exact absurd (hP (H.size + i) q.1 q.2 e0).2.1 (by omega)
  have kk := fun H1 locs1 => hk H.size hfr D p e s m args below meth cd A H1 locs1 ls
  obtain ⟨hx, hb, hml, hr, hown, hts, hlk, hin, hex, hK, hB, hA, htr, hmi⟩ := C
  generalize hN : x.toNatClampNeg = N at *
  generalize hM : y.toNatClampNeg = M at *
  have hsz := hS.1
  have hover := va_AOA.use (A := args) hB.2.2.2.2.2.2.2.2.2.2.2.2.2.2.2.1
  intro T hT X
  subst hT
  have hpl : e.platform.magicAccessors = ({} : Platform).magicAccessors := by rw [X.admits.platform]
  obtain ⟨comp, cA, kA, hcomp, -, hkA, hkindA, hnameA⟩ := arrayOverA_spec hover
  obtain ⟨comp', kC, cc, hcomp', hkC, hkindC⟩ := Cond.arrayClass_spec (hts _ ac_int)
  cases hcomp.symm.trans hcomp'
  obtain ⟨c0, hc0, hcl⟩ := Cond.classLink_spec hown (hts _ (cx_at hf)) e.platform hpl
  cases hnameA.symm.trans hc0
  obtain ⟨hg1, hw1, hr1⟩ := State.classEntry (e := e) X.warmed hcl
  generalize T.vm.noted m.cls ix (.cls cA) = vm1 at hg1 hw1 hr1
  have hal : s.vm.Alike vm1 := hw1.alike
  obtain ⟨kA1, hkA1, heA⟩ := hal.2.2 _ _ hkA
  obtain ⟨kC1, hkC1, heC⟩ := hal.2.2 _ _ hkC
  have hkA2 : kA1.kind = .array comp (.array .int) := by rw [heA]; exact hkindA
  have hkC2 : kC1.kind = .array cc .int := by rw [heC]; exact hkindC
  have hArA : ArrOfT s cA (.array .int) := fun _ _ => ⟨(fun k h => by cases h), kA, hkA, comp, hkindA⟩
  have hArC : ArrOfT s comp .int := fun _ _ => ⟨(fun k h => by cases h), kC, hkC, cc, hkindC⟩
  have X1 := X.noted hw1
  have lim : e.platform.arrayLengthLimit = _ := Launch.admits_arrayLengthLimit X.admits
  have lim2 : e.platform.maxHeapBytes = _ := Launch.admits_maxHeapBytes X.admits
  have dcc : decode cd.code pc = .ok (.multianewarray ix 2, 4) := by rw [hb]; exact hd
  obtain ⟨r1, r2⟩ := X.roomAbove (a := 1 + N) (b := N + N * M) h1 h2
  have X2 := X1.pushed (arrV cA N (fun _ => .null))
  rw [show (arrV cA N (fun _ => Value.null)).slots.size = N from by simp [arrV]] at X2
  have hM1 : ∀ z, z < N → z * M + M ≤ N * M := by
    intro z hlt
    have := Nat.mul_le_mul_right M (show z + 1 ≤ N from hlt)
    rw [Nat.succ_mul] at this; exact this
  generalize hTT : mnT (T.setVm vm1) T.heap.size cA comp N M R = TT
  have t0 : TT 0 = (T.setVm vm1).pushCell (arrV cA N (fun _ => .null)) := by rw [← hTT]; rfl
  have tS : ∀ z, TT (z + 1) = ((TT z).pushCell (arrV comp M (fun _ => .int 0))).setCell T.heap.size ((arrV cA N (fun j => va_rf (mnR R T.heap.size z T.heap.size j))).setSlot z (.ref (T.heap.size + 1 + z))) := by intro z; rw [← hTT]; rfl
  have facts : ∀ i, i ≤ N → ∃ locs', (TT i).vm = vm1 ∧ (TT i).heap.size = T.heap.size + 1 + i ∧ Stand p l e (mRm mi) s m args below meth cd (TT i) (locs ++ locs') (c.1 + 1 + i) (c.2 + N + i * M) ∧
      RP D s A (mnS sh T.heap.size N M i) (mnI I T.heap.size i) (mnR R T.heap.size i) (TT i).heap ∧ va_S A s.heap (TT i).heap (locs ++ locs') := by
    intro i
    induction i with
    | zero =>
      intro _
      rw [t0]
      refine ⟨[], rfl, ?_, ?_, ?_, ?_⟩
      · show (T.heap.push _).size = _
        rw [Array.size_push]
      · simpa using X2
      · show RP D s A (u1 sh T.heap.size (some (45, N))) I (u1 R T.heap.size (fun _ => none)) (T.heap.push (arrV cA N (fun _ => .null)))
        have o1 : ∀ q : Nat, q < T.heap.size → (T.heap.push (arrV cA N (fun _ => .null)))[q]? = T.heap[q]? := fun q hq => by rw [Array.getElem?_push, if_neg (Nat.ne_of_lt hq)]
        exact hP.push (Array.size_push _) o1 (fun _ _ _ => rfl) (fun b j hb0 => by rw [u1_off hb0]) (hA _ hsz) ⟨fun z => by omega, fun z => by omega, fun u z => ⟨cA, by rw [Array.getElem?_push_size, u1_on]; rfl, by rw [show u = 15 by omega]; exact hArA, by rw [show u = 15 by omega]; exact hnameA⟩, fun z => by omega, fun z => by omega⟩
      · show va_S A s.heap (T.heap.push _) (locs ++ [])
        rw [List.append_nil]
        exact ⟨by rw [Array.size_push]; omega, fun q g1 g2 => (by rw [Array.getElem?_push, if_neg (by omega)]; exact hS.2.1 q g1 g2), hS.2.2⟩
    | succ z ih =>
      intro hlt
      obtain ⟨locs', hv, hz, XX, hP', hS'⟩ := ih (by omega)
      rw [tS]
      have X3 := XX.pushed (arrV comp M (fun _ => .int 0))
      rw [show (arrV comp M (fun _ => Value.int 0)).slots.size = M from by simp [arrV]] at X3
      have P1 : RP D s A (mnS sh T.heap.size N M (z + 1)) (mnI I T.heap.size (z + 1)) (mnR R T.heap.size z) ((TT z).heap.push (arrV comp M (fun _ => .int 0))) := by
        show RP D s A (u1 (mnS sh T.heap.size N M z) (T.heap.size + 1 + z) (some (20, M))) (u1 (mnI I T.heap.size z) (T.heap.size + 1 + z) (fun _ => 0)) (mnR R T.heap.size z) _
        rw [← hz]
        have o1 : ∀ q : Nat, q < (TT z).heap.size → ((TT z).heap.push (arrV comp M (fun _ => .int 0)))[q]? = (TT z).heap[q]? := fun q hq => by rw [Array.getElem?_push, if_neg (Nat.ne_of_lt hq)]
        exact hP'.push (Array.size_push _) o1 (fun b j hb0 => by rw [u1_off hb0]) (fun _ _ _ => rfl) (hA _ hS'.1) ⟨fun z => by omega, fun _ => ⟨comp, by rw [Array.getElem?_push_size, u1_on], hArC, hcomp⟩, fun u z => by omega, fun z => by omega, fun z => by omega⟩
      obtain ⟨haA, hasz, hrc⟩ := P1 T.heap.size 45 N (mnS_a _)
      obtain ⟨cA', g1, g2, g3⟩ := hrc.2.2.1 15 rfl
      have ec : cA' = cA := Option.some.inj ((show s.vm.findClass "[[I" = some cA' from g3).symm.trans hnameA)
      rw [ec] at g1
      have hcell : ((TT z).pushCell (arrV comp M (fun _ => .int 0))).heap[T.heap.size]? = some (arrV cA N (fun j => va_rf (mnR R T.heap.size z T.heap.size j))) := g1
      have X4 := X3.stored hcell z (.ref (T.heap.size + 1 + z))
      refine ⟨locs' ++ [⟨T.heap.size, z⟩], hv, ?_, ?_, ?_, ?_⟩
      · show (Array.size (State.heap _)) = _
        rw [size_setCell]
        show ((TT z).heap.push _).size = _
        rw [Array.size_push]; omega
      · have e5 : c.1 + 1 + (z + 1) = c.1 + 1 + z + 1 := by omega
        have e6 : c.2 + N + (z + 1) * M = c.2 + N + z * M + M := by rw [Nat.succ_mul]; omega
        rw [e5, e6, ← List.append_assoc]
        exact X4
      · show RP D s A (mnS sh T.heap.size N M (z + 1)) (mnI I T.heap.size (z + 1)) (u2 (mnR R T.heap.size z) T.heap.size z (some (T.heap.size + 1 + z))) _
        refine P1.put (mnS_a _) (by rw [size_setCell]; rfl) (fun q hq => heapAt_setCell_ne _ (Ne.symm hq)) (fun _ _ _ => rfl) (fun b j hb0 => u2_off hb0 j) ⟨fun z => by omega, fun z => by omega, fun u z9 => ⟨cA, ?_, by rw [show u = 15 by omega]; exact hArA, by rw [show u = 15 by omega]; exact hnameA⟩, fun z => by omega, fun z => by omega⟩
        rw [heapAt_setCell_self _ hasz, arrV_store]
        congr 2
        funext q
        rw [u2_on]
        unfold updV
        by_cases hq : q = z
        · rw [if_pos hq, if_pos hq]; rfl
        · rw [if_neg hq, if_neg hq]
      · have h7 : va_S A s.heap ((TT z).heap.push (arrV comp M (fun _ => .int 0))) (locs ++ locs') := ⟨by rw [Array.size_push]; have := hS'.1; omega, fun q g1 g2 => (by rw [Array.getElem?_push, if_neg (by have := hS'.1; omega)]; exact hS'.2.1 q g1 g2), hS'.2.2⟩
        rw [← List.append_assoc]
        exact h7.put (by rw [size_setCell]; rfl) (fun q hq => heapAt_setCell_ne _ (Ne.symm hq)) (haA (Or.inr (by omega)))
  have hstep : ∀ tg, Steps p.tables e below ((TT N).setTop (F0 m (pc + 4) ls (.ref T.heap.size :: st))) tg → Steps p.tables e below (T.setTop (F0 m pc ls (.int y :: .int x :: st))) tg := by
    intro tg hgo
    jvm_step X.here [hx, dcc]
    simp only [multianewarray.sem, wp_bind', W.resolveClassAt_links (State.method?_setTop (F0 m pc ls (.int y :: .int x :: st)) X.here.top) hg1]
    rw [W.popN, if_neg (by decide)]
    refine ⟨_, State.topJava?_setTop' (s := T.setVm vm1) _ X.here.top, [.int x, .int y], st, rfl, rfl, ?_⟩
    simp only [List.mapM_cons, List.mapM_nil, wp_bind', wp_pure']
    have e0 : ((T.setTop (F0 m pc ls (.int y :: .int x :: st))).setVm vm1).setTop (F0 m pc ls st) = (T.setVm vm1).setTop (F0 m pc ls st) := by
      show ((T.setVm vm1).setTop (F0 m pc ls (.int y :: .int x :: st))).setTop _ = _
      rw [State.setTop_setTop]
    have e1 : ((T.setTop (F0 m pc ls (.int y :: .int x :: st))).setVm vm1).setTop { method := m, pc := pc, locals := ls, stack := st, locked := none } = (T.setVm vm1).setTop (F0 m pc ls st) := e0
    rw [e1, multianewarray.make]
    simp only [wp_bind', W.ite, hx0, if_false, wp_pure', W.theClass]
    have hvm0 : ((T.setVm vm1).setTop (F0 m pc ls st)).vm.classes[cA]? = some kA1 := hkA1
    refine ⟨kA1, hvm0, ?_⟩
    simp only [hkA2, wp_bind', hN]
    refine xm_arr hvm0 hkA2 (by rw [lim]; omega) (by rw [lim2]; show ¬ N * 4 > _; omega) rfl (by show T.heap.size < _; omega) (by show T.slotsUsed + N ≤ _; have := Nat.zero_le (N * M); omega) (fun d' acts' => ?_)
    have hfind : ([y].find? (· < 0)) = none := by simp [hy0]
    simp only [hfind]
    rw [ite_self, wp_bind', Std.Legacy.Range.forIn_eq_forIn_range']
    have hsz2 : ([:N] : Std.Legacy.Range).size = N := by simp [Std.Legacy.Range.size]
    rw [hsz2]
    show wp (forIn (List.range' 0 N 1) PUnit.unit _) _ _ e _ _ _
    refine wp_forIn_inv (fun rest s' => ∃ i, i ≤ N ∧ rest = List.range' i (N - i) ∧ s' = (TT i).setTop (F0 m pc ls st)) _ _ ?_ ?_ ?_
    · refine ⟨0, Nat.zero_le _, rfl, ?_⟩
      rw [t0, arrV_new]; rfl
    · rintro z rest s' d1 acts1 Q' ⟨i, hi, hl, rfl⟩ hnext
      have hlt : i < N := by
        rcases Nat.lt_or_ge i N with h | h
        · exact h
        · rw [show N - i = 0 from by omega] at hl; cases hl
      obtain ⟨rfl, hrest⟩ : z = i ∧ rest = List.range' (i + 1) (N - (i + 1)) := by
        rw [show N - i = (N - (i + 1)) + 1 from by omega, List.range'_succ] at hl
        exact ⟨(List.cons.inj hl).1, (List.cons.inj hl).2⟩
      obtain ⟨locs', hv, hz, XX, hP', hS'⟩ := facts z hi
      have hmul := hM1 z hlt
      obtain ⟨q1, q2⟩ := XX.roomAbove (a := 1) (b := M) (by show c.1 + 1 + z + 1 ≤ mCe mi; omega) (by show c.2 + N + z * M + M ≤ mSl mi; omega)
      have hvmT : ((TT z).setTop (F0 m pc ls st)).vm = vm1 := hv
      have hC2 : ((TT z).setTop (F0 m pc ls st)).vm.classes[comp]? = some kC1 := by rw [hvmT]; exact hkC1
      obtain ⟨haA, hasz, hrc⟩ := hP' T.heap.size 45 N (mnS_a _)
      obtain ⟨cA', g1, g2, g3⟩ := hrc.2.2.1 15 rfl
      have ec : cA' = cA := Option.some.inj ((show s.vm.findClass "[[I" = some cA' from g3).symm.trans hnameA)
      rw [ec] at g1
      simp only [wp_bind']
      rw [multianewarray.make]
      simp only [wp_bind', W.ite, hy0, if_false, wp_pure', W.theClass]
      refine ⟨kC1, hC2, ?_⟩
      simp only [hkC2, hM]
      refine xm_arr hC2 hkC2 (by rw [lim]; omega) (by rw [lim2]; show ¬ M * 4 > _; omega) rfl (by show (TT z).heap.size < _; omega) (by show (TT z).slotsUsed + M ≤ _; omega) (fun d2 acts2 => ?_)
      rw [arrV_new]
      have hcell : ((TT z).pushCell (arrV comp M (fun _ => .int 0))).heap[T.heap.size]? = some (arrV cA N (fun j => va_rf (mnR R T.heap.size z T.heap.size j))) := by
        show ((TT z).heap.push _)[T.heap.size]? = _
        rw [Array.getElem?_push, if_neg (by omega)]
        exact g1
      simp only [wp_bind', W.writeLoc, wp_pure']
      refine ⟨arrV cA N (fun j => va_rf (mnR R T.heap.size z T.heap.size j)), hcell, by simp [arrV], by simp [arrV]; exact hlt, ?_, hnext _ _ _ ⟨z + 1, hlt, hrest, ?_⟩⟩
      · show State.fitsSlot _ cA .none z _ = true
        have hk7 : (TT z).vm.classes[cA]? = some kA1 := by rw [hv]; exact hkA1
        simp only [State.fitsSlot, State.slotType?, State.vm_setTop, State.pushCell]
        rw [hk7]
        simp only [Option.bind_eq_bind, Option.bind_some, hkA2]
        rfl
      · rw [tS, show ((TT z).setTop (F0 m pc ls st)).heap.size = T.heap.size + 1 + z from hz]; rfl
    · rintro s' d3 acts3 ⟨i, hi, hl, rfl⟩
      have hiN : i = N := by
        rcases Nat.lt_or_ge i N with h | h
        · rw [show N - i = (N - (i + 1)) + 1 from by omega, List.range'_succ] at hl; cases hl
        · omega
      obtain ⟨locs', hv, hz, XX, hP', hS'⟩ := facts N (Nat.le_refl _)
      rw [hiN]
      simp only [wp_pure']
      simp only [wp_bind', W.mark, W.pushRef, State.topJava?_setTop' _ XX.here.top, Option.some.injEq, exists_eq_left', State.setTop_setTop]
      intro acts
      simp [jvm, XX.here.top]
      exact hgo
  obtain ⟨locs', hv, hz, XX, hP', hS'⟩ := facts N (Nat.le_refl _)
  obtain ⟨tg, a1, b1⟩ := kk (TT N).heap (locs ++ locs') ⟨hx, hb, hml, hr, hown, hts, hlk, hin, hex, hK, hB, hA, htr, hmi⟩ hP' hl hS' (TT N) rfl (by rw [show c.1 + (1 + N) = c.1 + 1 + N from by omega, show c.2 + (N + N * M) = c.2 + N + N * M from by omega]; exact XX)
  exact ⟨tg, hstep tg a1, b1⟩
def wMna (sh : HS) (I : HI) (R : HR) (N M : Nat) (k : Nat → HS → HI → HR → Prop) : Prop := ∀ a, (∀ i, sh (a + i) = none) → k a (mnS sh a N M N) (mnI I a N) (mnR R a N)
theorem mw_mna {ix X Y : Nat} {x y : Int32} {P : Nat → HS → HI → HR → Prop} (h : (cD mi pc (.multianewarray ix 2) 4 && (cXl mi ix 2 && cRm mi X Y)) = true) (h0 : (¬ x < 0 ∧ x.toNatClampNeg < 1000) ∧ ¬ y < 0 ∧ y.toNatClampNeg < 1000)
    (hc : c.1 + (1 + x.toNatClampNeg) ≤ X ∧ c.2 + (x.toNatClampNeg + x.toNatClampNeg * y.toNatClampNeg) ≤ Y) (hw : wMna sh I R x.toNatClampNeg y.toNatClampNeg P)
    (kk : ∀ a sh' I' R', P a sh' I' R' → MW l K J mi (pc + 4) L (.ref a :: st) sh' I' R' (c.1 + (1 + x.toNatClampNeg), c.2 + (x.toNatClampNeg + x.toNatClampNeg * y.toNatClampNeg)) F) : MW l K J mi pc L (.int y :: .int x :: st) sh I R c F := by
  unfold cRm at h
  simp only [Bool.and_eq_true, decide_eq_true_eq] at h
  obtain ⟨h1, h2, h3, h4⟩ := h
  obtain ⟨pos, e⟩ := cXld h2
  exact sim_mna (dcD h1) e h0.1.1 h0.1.2 h0.2.1 h0.2.2 (by rw [h3]; exact hc.1) (by rw [h4]; exact hc.2) (fun a ha => kk _ _ _ _ (hw a ha))
end SIM
def iByt (x : Int32) : Int32 := x.toInt8.toInt32
def iChr (x : Int32) : Int32 := (x.toUInt32 % 65536).toInt32
