/-! THE LAW'S START: the world: texts, statics, links -/
def lA (s : State) : Nat → Prop := fun q => s.heap.size ≤ q
def gvF : List Cond := flatC (Cond.and given_1 narrow_1)
def sPk : List Nat := [90162, 90168, 90138, 170201, 80270, 10084, 90142, 80388, 10057, 90126, 170211, 170209, 80386, 80286, 80082, 90160, 10079, 90140, 10089, 90158, 80394, 80072]
def sTm (i : Nat) : Term := .string (cN (sPk.getD i 0 / 10000)) (sPk.getD i 0 % 10000)
def sVal (t : Term) : Term := .field t "java/lang/String" "value" "[B"
def sPos : List Nat := [384, 394, 326, 759, 907, 513, 345, 615, 473, 315, 830, 784, 577, 950, 446, 371, 493, 333, 534, 358, 666, 408]
def sExp (i : Nat) : List Cond := [.exactly (sTm i) "java/lang/String", .eq (.field (sTm i) "java/lang/String" "coder" "B") (.int 0), .arrayOf (sVal (sTm i)) .byte, .eq (.length (sVal (sTm i))) (.int (Int32.ofNat (lenS.getD i 0)))] ++ (List.range (lenS.getD i 0)).map (fun j => .eq (.elem (sVal (sTm i)) (.int (Int32.ofNat j))) (.int ((bytS.getD i []).getD j 0)))
def sCk (i : Nat) : Bool := decide (lenS.getD i 0 < 2 ^ 31) && decide ((gvF.drop (sPos.getD i 0)).take (4 + lenS.getD i 0) = sExp i)
theorem sCk_ok : (List.range nS).all sCk = true := by decide +kernel
def sDf : Bool := (List.range nS).all (fun i => (List.range nS).all (fun j => i == j || (!(lenS.getD i 0 == lenS.getD j 0) || (List.range (lenS.getD i 0)).any (fun k => !((bytS.getD i []).getD k 0 == (bytS.getD j []).getD k 0)))))
theorem sDf_ok : sDf = true := by decide +kernel
def dPos : List (Nat × Nat × Nat) := [(10159, 555, 568), (180151, 714, 724)]
def sDp : Bool := sL.all (fun q => decide (q.2.1 < nS) && (decide (lw_tbl[q.2.2]? = some (.stringRef (cN (q.1 / 10000)) (q.1 % 10000) (strs.getD q.2.1 ""))) && (match dPos.lookup q.1 with
  | none => decide (sTm q.2.1 = .string (cN (q.1 / 10000)) (q.1 % 10000))
  | some z => decide (gvF[z.1]? = some (.exactly (.string (cN (q.1 / 10000)) (q.1 % 10000)) "java/lang/String")) && decide (gvF[z.2]? = some (.eq (sTm q.2.1) (.string (cN (q.1 / 10000)) (q.1 % 10000)))))))
theorem sDp_ok : sDp = true := by decide +kernel
def atP (T : List Cond) (ps : List Nat) (ws : List Cond) : Bool := decide (ps.length = ws.length) && (ps.zip ws).all (fun z => decide (T[z.1]? = some z.2))
theorem atP_of {T : List Cond} : ∀ {ps : List Nat} {ws : List Cond}, atP T ps ws = true → ∀ w ∈ ws, w ∈ T := by
  intro ps ws h w hw
  unfold atP at h
  rw [Bool.and_eq_true, decide_eq_true_eq] at h
  obtain ⟨i, hi⟩ := List.getElem?_of_mem hw
  have hl := (List.getElem?_eq_some_iff.mp hi).1
  have hz : (ps.zip ws)[i]? = some (ps[i]'(by omega), w) := by
    rw [List.getElem?_zip_eq_some]
    exact ⟨List.getElem?_eq_getElem (by omega), hi⟩
  have := List.all_eq_true.mp h.2 _ (List.mem_of_getElem? hz)
  rw [decide_eq_true_eq] at this
  exact List.mem_of_getElem? this
theorem nW_in : atP lw_tbl [930, 962, 779, 781, 783, 785] nW = true := by decide +kernel
theorem aN_in : atP lw_tbl [402, 235, 237] (aN.map (fun C => .arrayOver (.object C))) = true := by decide +kernel
theorem nW2_in : atP lw_tbl [1665, 1645, 605, 758] nW2 = true := by decide +kernel
def nK : Bool := kL.all (fun q => !(q.2.2.1 == 1) || decide (lw_tbl[q.2.2.2]? = some (.methodLinkNest (cN (q.1 / 10000)) (q.1 % 10000) (mY q.2.1) (hoN (q.1 / 10000)))))
theorem nK_ok : nK = true := by decide +kernel
def nF : Bool := fX.all (fun q => !(q.2.2.2.2.2 == 1) || (decide (lw_tbl[q.2.2.2.2.1]? = some (fxN q)) && (fxN q).onTables))
theorem nF_ok : nF = true := by decide +kernel
def tE : Term := .static "java/util/ArrayList" "DEFAULTCAPACITY_EMPTY_ELEMENTDATA" "[Ljava/lang/Object;"
def tC : Term := .static "java/lang/Integer$IntegerCache" "cache" "[Ljava/lang/Integer;"
def tO : Term := .static "java/lang/Integer" "DigitOnes" "[B"
def tT : Term := .static "java/lang/Integer" "DigitTens" "[B"
def cIn : Cond := .and (.exactly (.elem tC (.index 0)) "java/lang/Integer") (.eq (.field (.elem tC (.index 0)) "java/lang/Integer" "value" "I") (.sub (.index 0) (.int 128)))
def stW : List Cond := [.laysStatic Bundle.tN "UNASSIGNED_STACK" Bundle.steD, .initialized Bundle.tN, .laysStatic Bundle.tN "SUPPRESSED_SENTINEL" Bundle.listD, .laysStatic "java/lang/String" "COMPACT_STRINGS" "Z", .initialized "java/lang/String", .laysStatic "jdk/internal/util/Preconditions" "SIOOBE_FORMATTER" "Ljava/util/function/BiFunction;", .initialized "jdk/internal/util/Preconditions"]
theorem stW_ok : atP lw_tbl [804, 60, 806, 553, 53, 625, 55] stW = true := by decide +kernel
def stW2 : List Cond := [.laysStatic "java/util/ArrayList" "DEFAULTCAPACITY_EMPTY_ELEMENTDATA" "[Ljava/lang/Object;", .initialized "java/util/ArrayList", .laysStatic "java/lang/Integer$IntegerCache" "high" "I", .laysStatic "java/lang/Integer$IntegerCache" "cache" "[Ljava/lang/Integer;", .initialized "java/lang/Integer$IntegerCache", .laysStatic "java/lang/Integer" "DigitOnes" "[B", .laysStatic "java/lang/Integer" "DigitTens" "[B", .initialized "java/lang/Integer"]
theorem stW2_ok : atP lw_tbl [98, 37, 1223, 1225, 69, 695, 697, 58] stW2 = true := by decide +kernel
def fwX (x y : MethodName) : List Cond := [.declares x, .interfaceMethod x.cls x.cls x.name x.desc, .publicMethod y, .unhidden "java/util/ArrayList$Itr" x.name x.desc, .castable "java/util/ArrayList$Itr" x.cls]
theorem fwX_ok : (atP lw_tbl [757, 756, 762, 760, 758] (fwX itX yJx35411_hasNext_aae02) && atP lw_tbl [767, 766, 771, 769, 758] (fwX itY yJx35411_next_0502b)) = true := by decide +kernel
def miW : List Cond := [.declares ⟨"java/lang/Object", "getClass", "()Ljava/lang/Class;"⟩, .arrayOver (.object "java/lang/Object"), .arrayOver (.array .int)]
theorem miW_ok : atP lw_tbl [1663, 209, 115] miW = true := by decide +kernel
def gvW : List Cond := [.isRef (.static Bundle.tN "UNASSIGNED_STACK" Bundle.steD), .isRef (.static Bundle.tN "SUPPRESSED_SENTINEL" Bundle.listD), .eq (.static "java/lang/String" "COMPACT_STRINGS" "Z") (.int 1), .isRef (.static "jdk/internal/util/Preconditions" "SIOOBE_FORMATTER" "Ljava/util/function/BiFunction;"), .isRef (.mirror "[Ljava/lang/Object;"), .eq (.static "java/lang/Integer$IntegerCache" "high" "I") (.int 127)]
theorem gvW_ok : atP gvF [219, 220, 8, 9, 314, 221] gvW = true := by decide +kernel
def gvW2 : List Cond := [.arrayOf tE (.object "java/lang/Object"), .eq (.length tE) (.int 0), .arrayOf tC (.object "java/lang/Integer"), .eq (.length tC) (.int 256), .all tC cIn, .arrayOf tO .byte, .eq (.length tO) (.int (Int32.ofNat 100)), .arrayOf tT .byte, .eq (.length tT) (.int (Int32.ofNat 100))]
theorem gvW2_ok : atP gvF [5, 7, 223, 224, 225, 14, 15, 117, 118] gvW2 = true := by decide +kernel
def dgO (j : Nat) : Cond := .eq (.elem tO (.int (Int32.ofNat j))) (.int (iz (48 + (j : Int) % 10)))
def dgT (j : Nat) : Cond := .eq (.elem tT (.int (Int32.ofNat j))) (.int (iz (48 + (j : Int) / 10)))
theorem dg_ok : ((List.range 100).all fun j => decide (gvF[16 + j]? = some (dgO j)) && decide (gvF[119 + j]? = some (dgT j))) = true := by decide +kernel
theorem nW_on : nW.all (fun w => w.onTables) = true := by decide +kernel
theorem nW2_on : nW2.all (fun w => w.onTables) = true := by decide +kernel
theorem sCk_in {i : Nat} (h : sCk i = true) {w : Cond} (hw : w ∈ sExp i) : w ∈ gvF := by
  unfold sCk at h
  rw [Bool.and_eq_true, decide_eq_true_eq, decide_eq_true_eq] at h
  rw [← h.2] at hw
  exact List.mem_of_mem_drop (List.mem_of_mem_take hw)
/-- the JDK's tables at the start -/
def OLDW (K J gC : Nat → Nat) (s : State) : Prop :=
  va_T (.object "java/lang/Object") (K nS) 0 (fun _ => .null) (lA s) s s.heap ∧ va_T (.object "java/lang/Integer") (K (nS + 1)) 256 (fun j => .ref (gC j)) (lA s) s s.heap ∧
  (∀ j : Nat, j < 256 → va_O "java/lang/Integer" (gC j) (lA s) s s.heap ∧ va_OF "java/lang/Integer" "value" "I" (.int (iz ((j : Int) - 128))) (gC j) (lA s) s s.heap) ∧
  va_T .byte (K (nS + 2)) 100 (fun j => .int (iz (48 + (j : Int) % 10))) (lA s) s s.heap ∧ va_T .byte (K (nS + 3)) 100 (fun j => .int (iz (48 + (j : Int) / 10))) (lA s) s s.heap
theorem sub128 : ((List.range 256).all fun j => decide (j.toInt32 - 128 = iz ((j : Int) - 128))) = true := by decide +kernel
theorem szN {n N : Nat} (h : n.toInt32 = Int32.ofNat N) (hN : N < 2 ^ 31) : N ≤ n := by
  have h1 := congrArg Int32.toInt h
  have h2 : (Int32.ofNat N).toInt = N := Int32.toInt_ofNat_of_lt hN
  rw [h2] at h1
  by_cases hn : n < 2 ^ 31
  · have h3 : n.toInt32.toInt = n := Int32.toInt_ofNat_of_lt hn
    omega
  · omega
theorem texts0 {s : State} {b : Nat} (hgv : (Cond.and given_1 narrow_1).before #[Value.ref b] s = true) : ∃ ad : Nat → Nat × Nat, (∀ i : Nat, i < nS → (sTm i).eval #[Value.ref b] s none [] s = some (.ref (ad i).1)) ∧ vk_S nS lenS bytS (fun i => (ad i).1) (fun i => (ad i).2) (lA s) s s.heap := by
  have hg : ∀ w ∈ gvF, w.before #[Value.ref b] s = true := flat_of_before _ hgv
  have hA : ∀ a : Nat, a < s.heap.size → ¬ lA s a := fun a ha => Nat.not_le.mpr ha
  have ck : ∀ i, i < nS → sCk i = true := fun i hi => List.all_eq_true.mp sCk_ok i (List.mem_range.mpr hi)
  have h0 : ∀ i : Nat, ∃ q : Nat × Nat, i < nS → (sTm i).eval #[Value.ref b] s none [] s = some (.ref q.1) ∧ va_O "java/lang/String" q.1 (lA s) s s.heap ∧ va_OF "java/lang/String" "coder" "B" (.int 0) q.1 (lA s) s s.heap ∧ va_OF "java/lang/String" "value" "[B" (.ref q.2) q.1 (lA s) s s.heap ∧ va_T .byte q.2 (lenS.getD i 0) (fun j => .int ((bytS.getD i []).getD j 0)) (lA s) s s.heap := by
    intro i
    by_cases hi : i < nS
    · have c := ck i hi
      have c0 := c
      unfold sCk at c0
      rw [Bool.and_eq_true, decide_eq_true_eq] at c0
      have c1 := c0.1
      have c2 : Cond.exactly (sTm i) "java/lang/String" ∈ gvF := sCk_in c (by simp [sExp])
      have c3 : Cond.eq (.field (sTm i) "java/lang/String" "coder" "B") (.int 0) ∈ gvF := sCk_in c (by simp [sExp])
      have c4 : Cond.arrayOf (sVal (sTm i)) .byte ∈ gvF := sCk_in c (by simp [sExp])
      have c5 : Cond.eq (.length (sVal (sTm i))) (.int (Int32.ofNat (lenS.getD i 0))) ∈ gvF := sCk_in c (by simp [sExp])
      have c6 : ∀ j, j < lenS.getD i 0 → Cond.eq (.elem (sVal (sTm i)) (.int (Int32.ofNat j))) (.int ((bytS.getD i []).getD j 0)) ∈ gvF := fun j hj => sCk_in c (List.mem_append.mpr (Or.inr (List.mem_map.mpr ⟨j, List.mem_range.mpr hj, rfl⟩)))
      obtain ⟨a, cc, cA, kA, q1, q2, q3, q4, q5, q6, -⟩ := Cond.exactly_spec (args := #[Value.ref b]) (first := s) (o := none) (s := s) (idx := []) (t := sTm i) (cls := "java/lang/String") (hg _ c2)
      obtain ⟨t, ht, hT⟩ := va_Tof (tm := sVal (sTm i)) (ty := .byte) (f := fun j => .int ((bytS.getD i []).getD j 0)) (A := lA s) c1 (hg _ c4) (va_eqt (hg _ c5)) (fun j hj => va_eqt (hg _ (c6 j hj))) hA
      exact ⟨(a, t), fun _ => ⟨q1, ⟨cA, q3, q5, by rw [q6]; exact q2, hA a (Array.getElem?_eq_some_iff.mp q3).1⟩, vk_OFof q1 (va_eqt (hg _ c3)) hA, vk_OFof q1 ht hA, hT⟩⟩
    · exact ⟨(0, 0), fun h => absurd h hi⟩
  obtain ⟨ad, had⟩ := Classical.axiomOfChoice h0
  refine ⟨ad, fun i hi => (had i hi).1, fun i hi => (had i hi).2, ?_⟩
  intro i j hi hj e
  obtain ⟨-, -, -, ⟨cf, k, f, fl, cell, a1, a2, a3, a4, a5, a6⟩, ⟨ce, b1, b2, b3, b4, b5, b6, b7⟩⟩ := had i hi
  obtain ⟨-, -, -, ⟨cf', k', f', fl', cell', a1', a2', a3', a4', a5', a6'⟩, ⟨ce', b1', b2', b3', b4', b5', b6', b7'⟩⟩ := had j hj
  have e : (ad i).1 = (ad j).1 := e
  rw [a1] at a1'
  cases a1'
  rw [e] at a3
  rw [a3] at a3'
  cases a3'
  rw [a5] at a5'
  have e2 : (ad i).2 = (ad j).2 := by simpa using a5'
  rw [e2] at b1
  rw [b1] at b1'
  cases b1'
  have ci := ck i hi
  have cj := ck j hj
  unfold sCk at ci cj
  rw [Bool.and_eq_true, decide_eq_true_eq] at ci cj
  have el : lenS.getD i 0 = lenS.getD j 0 := by
    have := b5.symm.trans b5'
    exact (nI_eq ci.1 cj.1).mp this
  have d := List.all_eq_true.mp (List.all_eq_true.mp sDf_ok i (List.mem_range.mpr hi)) j (List.mem_range.mpr hj)
  simp only [Bool.or_eq_true, beq_iff_eq, Bool.not_eq_true', beq_eq_false_iff_ne] at d
  rcases d with d | d | d
  · exact d
  · exact absurd el d
  · obtain ⟨x, hx, d⟩ := List.any_eq_true.mp d
    have hx := List.mem_range.mp hx
    have g1 := b6 x hx
    have g2 := b6' x (by omega)
    rw [g1] at g2
    have g3 : (bytS.getD i []).getD x 0 = (bytS.getD j []).getD x 0 := by simpa using g2
    rw [g3] at d
    simp at d
theorem cache0 {s : State} {b : Nat} (hgv : (Cond.and given_1 narrow_1).before #[Value.ref b] s = true) : ∃ (kC : Nat) (gC : Nat → Nat), tC.eval #[Value.ref b] s none [] s = some (.ref kC) ∧ va_T (.object "java/lang/Integer") kC 256 (fun j => .ref (gC j)) (lA s) s s.heap ∧
    ∀ j : Nat, j < 256 → va_O "java/lang/Integer" (gC j) (lA s) s s.heap ∧ va_OF "java/lang/Integer" "value" "I" (.int (iz ((j : Int) - 128))) (gC j) (lA s) s s.heap := by
  have hg : ∀ w ∈ gvF, w.before #[Value.ref b] s = true := flat_of_before _ hgv
  have hA : ∀ a : Nat, a < s.heap.size → ¬ lA s a := fun a ha => Nat.not_le.mpr ha
  have gw : ∀ w ∈ gvW2, w.before #[Value.ref b] s = true := fun w hw => hg w (atP_of gvW2_ok w hw)
  have hlen : (Term.length tC).eval #[Value.ref b] s none [] s = some (.int 256) := va_eqt (gw _ (by simp [gvW2]))
  obtain ⟨t, cell, ht, hat, hv⟩ := Term.length_spec hlen
  obtain ⟨hcell, hkn, -, -⟩ := State.arrayAt?_spec hat
  obtain ⟨hof, -⟩ := Cond.arrayOf_spec (args := #[Value.ref b]) (first := s) (o := none) (idx := []) (t := tC) (ty := .object "java/lang/Integer") (gw _ (by simp [gvW2])) ht hcell
  have hsz : cell.slots.size.toInt32 = Int32.ofNat 256 := (Value.int.inj hv).symm
  have hle : 256 ≤ cell.slots.size := szN hsz (by decide)
  have hall := all_at (args := #[Value.ref b]) (first := s) (o := none) (idx := []) (t := tC) (c := cIn) (s := s) (gw _ (by simp [gvW2])) ht hat
  have h0 : ∀ j : Nat, ∃ q : Nat, j < 256 → cell.slots[j]? = some (.ref q) ∧ va_O "java/lang/Integer" q (lA s) s s.heap ∧ va_OF "java/lang/Integer" "value" "I" (.int (iz ((j : Int) - 128))) q (lA s) s s.heap := by
    intro j
    by_cases hj : j < 256
    · have h1 := hall j (by omega)
      unfold cIn at h1
      rw [Cond.holds_and, Bool.and_eq_true] at h1
      obtain ⟨h1, h2⟩ := h1
      obtain ⟨a, cc, cA, kA, q1, q2, q3, q4, q5, q6, -⟩ := Cond.exactly_spec h1
      obtain ⟨a', i, cell2, e1, e2, e3, e4, e5⟩ := Term.elem_spec q1
      have ix : (Term.index 0).eval #[Value.ref b] s none [j] s = some (.int j.toInt32) := rfl
      have ei : i = j.toInt32 := by
        rw [ix] at e2
        cases e2
        rfl
      have ht2 : tC.eval #[Value.ref b] s none [j] s = some (.ref t) := ht
      rw [ht2] at e1
      cases e1
      rw [hat] at e3
      cases e3
      have hc : i.toNatClampNeg = j := by rw [ei]; exact Int32.toNatClampNeg_ofNat_of_lt (by omega)
      rw [hc] at e5
      refine ⟨a, fun _ => ⟨e5, ⟨cA, q3, q5, by rw [q6]; exact q2, hA a (Array.getElem?_eq_some_iff.mp q3).1⟩, ?_⟩⟩
      have hsub : (Term.sub (.index 0) (.int 128)).eval #[Value.ref b] s none [j] s = some (.int (j.toInt32 - 128)) := rfl
      have hs := of_decide_eq_true (List.all_eq_true.mp sub128 j (List.mem_range.mpr hj))
      rw [hs] at hsub
      have hval : (Term.field (.elem tC (.index 0)) "java/lang/Integer" "value" "I").eval #[Value.ref b] s none [j] s = some (.int (iz ((j : Int) - 128))) := by
        simp only [Cond.holds, Cond.value, hsub] at h2
        generalize (Term.field (.elem tC (.index 0)) "java/lang/Integer" "value" "I").eval #[Value.ref b] s none [j] s = w at h2 ⊢
        cases w with
        | none => simp at h2
        | some v => cases v <;> simp_all
      cases hfo : s.fieldFound? "java/lang/Integer" "value" "I" with
      | none =>
        have no : ∀ (tm : Term) (v : Value), tm.eval #[Value.ref b] s none [j] s = some (.ref a) → (Term.field tm "java/lang/Integer" "value" "I").eval #[Value.ref b] s none [j] s = some v → False := by
          intro tm v h1 h2
          simp [Term.eval, h1, State.fieldOf?, State.fieldNamed?, hfo] at h2
        exact (no _ _ q1 hval).elim
      | some x =>
        obtain ⟨cf, k, fi, f⟩ := x
        obtain ⟨g1, cl, g2, g3, -, -, g6⟩ := Term.field_spec hfo q1 hval
        exact ⟨cf, k, fi, f, cl, hfo, g1, g2, g3, g6, hA _ (Array.getElem?_eq_some_iff.mp g2).1⟩
    · exact ⟨0, fun h => absurd h hj⟩
  obtain ⟨gC, hgC⟩ := Classical.axiomOfChoice h0
  exact ⟨t, gC, ht, ⟨cell, hcell, hof, hkn, hle, hsz, fun j hj => (hgC j hj).1, hA t (Array.getElem?_eq_some_iff.mp hcell).1⟩, fun j hj => (hgC j hj).2⟩
theorem wb0 {s : State} {b : Nat} (hts : ∀ w ∈ lw_tbl, w.before #[Value.ref b] s = true) (hgv : (Cond.and given_1 narrow_1).before #[Value.ref b] s = true) : ∃ K J gC : Nat → Nat, WB K J (lA s) s s.heap ∧ OLDW K J gC s := by
  have hg : ∀ w ∈ gvF, w.before #[Value.ref b] s = true := flat_of_before _ hgv
  have hA : ∀ a : Nat, a < s.heap.size → ¬ lA s a := fun a ha => Nat.not_le.mpr ha
  obtain ⟨ad, had, hvS⟩ := texts0 hgv
  obtain ⟨kC, gC, hC1, hC2, hC3⟩ := cache0 hgv
  have tw : ∀ w ∈ stW, w.before #[Value.ref b] s = true := fun w hw => hts w (atP_of stW_ok w hw)
  have tw2 : ∀ w ∈ stW2, w.before #[Value.ref b] s = true := fun w hw => hts w (atP_of stW2_ok w hw)
  have mw : ∀ w ∈ miW, w.before #[Value.ref b] s = true := fun w hw => hts w (atP_of miW_ok w hw)
  have gw : ∀ w ∈ gvW, w.before #[Value.ref b] s = true := fun w hw => hg w (atP_of gvW_ok w hw)
  have gw2 : ∀ w ∈ gvW2, w.before #[Value.ref b] s = true := fun w hw => hg w (atP_of gvW2_ok w hw)
  have fk := fwX_ok
  rw [Bool.and_eq_true] at fk
  have fx1 : ∀ w ∈ fwX itX yJx35411_hasNext_aae02, w.before #[Value.ref b] s = true := fun w hw => hts w (atP_of fk.1 w hw)
  have fx2 : ∀ w ∈ fwX itY yJx35411_next_0502b, w.before #[Value.ref b] s = true := fun w hw => hts w (atP_of fk.2 w hw)
  have dO : ∀ j : Nat, j < 100 → (dgO j).before #[Value.ref b] s = true := fun j hj => hg _ (List.mem_of_getElem? (of_decide_eq_true ((Bool.and_eq_true _ _).mp (List.all_eq_true.mp dg_ok j (List.mem_range.mpr hj))).1))
  have dT : ∀ j : Nat, j < 100 → (dgT j).before #[Value.ref b] s = true := fun j hj => hg _ (List.mem_of_getElem? (of_decide_eq_true ((Bool.and_eq_true _ _).mp (List.all_eq_true.mp dg_ok j (List.mem_range.mpr hj))).2))
  obtain ⟨kE, hE1, hE2⟩ := va_Tof (tm := tE) (ty := .object "java/lang/Object") (N := 0) (f := fun _ => .null) (A := lA s) (by decide) (gw2 _ (by simp [gvW2])) (va_eqt (gw2 _ (by simp [gvW2]))) (fun j hj => absurd hj (Nat.not_lt_zero j)) hA
  obtain ⟨kO, hO1, hO2⟩ := va_Tof (tm := tO) (ty := .byte) (N := 100) (f := fun j => .int (iz (48 + (j : Int) % 10))) (A := lA s) (by decide) (gw2 _ (by simp [gvW2])) (va_eqt (gw2 _ (by simp [gvW2]))) (fun j hj => va_eqt (dO j hj)) hA
  obtain ⟨kT, hT1, hT2⟩ := va_Tof (tm := tT) (ty := .byte) (N := 100) (f := fun j => .int (iz (48 + (j : Int) / 10))) (A := lA s) (by decide) (gw2 _ (by simp [gvW2])) (va_eqt (gw2 _ (by simp [gvW2]))) (fun j hj => va_eqt (dT j hj)) hA
  obtain ⟨mi, hmi⟩ := va_Mi.of (gw (.isRef (.mirror "[Ljava/lang/Object;")) (by simp [gvW]))
  have hK : ∃ K : Nat → Nat, (∀ i, i < nS → K i = (ad i).1) ∧ K nS = kE ∧ K (nS + 1) = kC ∧ K (nS + 2) = kO ∧ K (nS + 3) = kT := ⟨fun i => if i < nS then (ad i).1 else if i = nS then kE else if i = nS + 1 then kC else if i = nS + 2 then kO else kT, fun i hi => if_pos hi, (if_neg (by omega)).trans (if_pos rfl), (if_neg (by omega)).trans ((if_neg (by omega)).trans (if_pos rfl)), (if_neg (by omega)).trans ((if_neg (by omega)).trans ((if_neg (by omega)).trans (if_pos rfl))), (if_neg (by omega)).trans ((if_neg (by omega)).trans ((if_neg (by omega)).trans (if_neg (by omega))))⟩
  obtain ⟨K, k0, k1, k2, k3, k4⟩ := hK
  have hJ : ∃ J : Nat → Nat, (∀ i, i < nS → J i = (ad i).2) ∧ J nS = mi := ⟨fun i => if i < nS then (ad i).2 else mi, fun i hi => if_pos hi, if_neg (by omega)⟩
  obtain ⟨J, j0, j1⟩ := hJ
  have hvS2 : vk_S nS lenS bytS K J (lA s) s s.heap := ⟨fun i hi => by rw [k0 i hi, j0 i hi]; exact hvS.1 i hi, fun i j hi hj e => hvS.2 i j hi hj (by rw [k0 i hi, k0 j hj] at e; exact e)⟩
  refine ⟨K, J, gC, ⟨hvS2, fun q hq => ?_, fun w hw => va_Nw.of (List.all_eq_true.mp nW_on w hw) (hts w (atP_of nW_in w hw)), fun q hq h1 => ?_, vx_Zqof (tw _ (by simp [stW])) (tw _ (by simp [stW])) (gw _ (by simp [gvW])) hA, vx_Zqof (tw _ (by simp [stW])) (tw _ (by simp [stW])) (gw _ (by simp [gvW])) hA, va_Zof (tw _ (by simp [stW])) (tw _ (by simp [stW])) (va_eqt (gw _ (by simp [gvW]))) hA, va_Zqof (tw _ (by simp [stW])) (tw _ (by simp [stW])) (gw _ (by simp [gvW])) hA, fun C hC => va_AO.of (hts _ (atP_of aN_in _ (List.mem_map.mpr ⟨C, hC, rfl⟩))), ⟨?_, ?_, ?_, ?_, ?_⟩, fun q hq h1 => ?_, fun w hw => va_Nw.of (List.all_eq_true.mp nW2_on w hw) (hts w (atP_of nW2_in w hw)), by rw [j1]; exact hmi, va_Dc.of (mw _ (by simp [miW])), va_AO.of (mw _ (by simp [miW])), mw (.arrayOver (.array .int)) (by simp [miW]), va_Fw.of (fx1 _ (by simp [fwX])) (fx1 _ (by simp [fwX])) (fx1 _ (by simp [fwX])) (fx1 _ (by simp [fwX])) (fx1 _ (by simp [fwX])), va_Fw.of (fx2 _ (by simp [fwX])) (fx2 _ (by simp [fwX])) (fx2 _ (by simp [fwX])) (fx2 _ (by simp [fwX])) (fx2 _ (by simp [fwX]))⟩, by rw [k1]; exact hE2, by rw [k2]; exact hC2, hC3, by rw [k3]; exact hO2, by rw [k4]; exact hT2⟩
  · have d := List.all_eq_true.mp sDp_ok q hq
    rw [Bool.and_eq_true, Bool.and_eq_true, decide_eq_true_eq, decide_eq_true_eq] at d
    obtain ⟨d1, d2, d3⟩ := d
    have e1 := had q.2.1 d1
    rw [k0 _ d1]
    refine vk_R.of (A := #[Value.ref b]) (hts _ (List.mem_of_getElem? d2)) ?_
    split at d3
    · rw [decide_eq_true_eq] at d3
      rw [← d3]; exact e1
    · rw [Bool.and_eq_true, decide_eq_true_eq, decide_eq_true_eq] at d3
      obtain ⟨a, cc, cA, kA, q1, -⟩ := Cond.exactly_spec (args := #[Value.ref b]) (first := s) (o := none) (s := s) (idx := []) (t := .string (cN (q.1 / 10000)) (q.1 % 10000)) (cls := "java/lang/String") (hg _ (List.mem_of_getElem? d3.1))
      have e2 := Cond.eq_refs (args := #[Value.ref b]) (first := s) (t := s) (out := none) (idx := []) (hg _ (List.mem_of_getElem? d3.2)) q1 rfl
      rw [e1] at e2
      rw [q1, ← e2]
  · have d := List.all_eq_true.mp nK_ok q hq
    rw [h1] at d
    simp only [Bool.or_eq_true, beq_self_eq_true, Bool.not_true, decide_eq_true_eq] at d
    rcases d with d | d
    · cases d
    · exact va_Nw.of rfl (hts _ (List.mem_of_getElem? d))
  · rw [k1]; exact va_Zof (tw2 _ (by simp [stW2])) (tw2 _ (by simp [stW2])) hE1 hA
  · exact va_Zof (tw2 _ (by simp [stW2])) (tw2 _ (by simp [stW2])) (va_eqt (gw _ (by simp [gvW]))) hA
  · rw [k2]; exact va_Zof (tw2 _ (by simp [stW2])) (tw2 _ (by simp [stW2])) hC1 hA
  · rw [k3]; exact va_Zof (tw2 _ (by simp [stW2])) (tw2 _ (by simp [stW2])) hO1 hA
  · rw [k4]; exact va_Zof (tw2 _ (by simp [stW2])) (tw2 _ (by simp [stW2])) hT1 hA
  · have d := List.all_eq_true.mp nF_ok q hq
    rw [h1] at d
    simp only [Bool.or_eq_true, beq_self_eq_true, Bool.not_true, Bool.and_eq_true, decide_eq_true_eq] at d
    rcases d with d | d
    · cases d
    · exact va_Nw.of d.2 (hts _ (List.mem_of_getElem? d.1))
