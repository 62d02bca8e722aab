/-! STAGE 5: the world at the law's entry: texts, statics, links -/
def gvF : List Cond := flatC (Cond.and given_1 narrow_1)
def sTm (i : Nat) : Term := match sL.find? (fun q => q.2.1 == i) with
  | some q => .string (cN (q.1 / 10000)) (q.1 % 10000)
  | none => .string "" 0
theorem in_tbl {w : Cond} (h : lw_tbl.contains w = true) : w ∈ lw_tbl := by simpa using h
def sVal (t : Term) : Term := .field t "java/lang/String" "value" "[B"
def sPos : List Nat := [354, 493, 373, 523, 406, 502, 383, 514, 396, 359, 270, 307, 108, 204, 89, 181, 419, 290, 163, 327, 125, 99, 484, 344, 117, 364, 239, 133]
def sExp (i : Nat) : List Cond := [.exactly (sTm i) "java/lang/String", .eq (.field (sTm i) "java/lang/String" "coder" "B") (.int 0), .arrayOf (sVal (sTm i)) .byte, .eq (.length (sVal (sTm i))) (.int (Int32.ofNat (lenS.getD i 0)))] ++ (List.range (lenS.getD i 0)).map (fun j => .eq (.elem (sVal (sTm i)) (.int (Int32.ofNat j))) (.int ((bytS.getD i []).getD j 0)))
def sCk (i : Nat) : Bool := decide (lenS.getD i 0 < 2 ^ 31) && decide ((gvF.drop (sPos.getD i 0)).take (4 + lenS.getD i 0) = sExp i)
theorem sCk_ok : (List.range nS).all sCk = true := by decide +kernel
def sDf : Bool := (List.range nS).all (fun i => (List.range nS).all (fun j => i == j || (!(lenS.getD i 0 == lenS.getD j 0) || (List.range (lenS.getD i 0)).any (fun k => !((bytS.getD i []).getD k 0 == (bytS.getD j []).getD k 0)))))
theorem sDf_ok : sDf = true := by decide +kernel
def dPos : List (Nat × Nat × Nat) := [(90139, 456, 465), (90161, 475, 483), (90163, 446, 455), (90168, 466, 474), (90173, 435, 445)]
def sDp : Bool := sL.all (fun q => decide (q.2.1 < nS) && (decide (lw_tbl[q.2.2]? = some (.stringRef (cN (q.1 / 10000)) (q.1 % 10000) (strs.getD q.2.1 ""))) && (match dPos.lookup q.1 with
  | none => decide (sTm q.2.1 = .string (cN (q.1 / 10000)) (q.1 % 10000))
  | some z => decide (gvF[z.1]? = some (.exactly (.string (cN (q.1 / 10000)) (q.1 % 10000)) "java/lang/String")) && decide (gvF[z.2]? = some (.eq (sTm q.2.1) (.string (cN (q.1 / 10000)) (q.1 % 10000)))))))
theorem sDp_ok : sDp = true := by decide +kernel
def nWp : List Nat := [655, 734, 1104, 657, 659, 661]
def aNp : List Nat := [319, 149, 151]
def nPos : List (Nat × Nat) := [(23, 153), (24, 185), (40037, 1164), (50022, 588), (80029, 286), (80043, 334), (80062, 408), (110037, 842), (110052, 882), (110056, 901), (110074, 845)]
def atP (T : List Cond) (ps : List Nat) (ws : List Cond) : Bool := decide (ps.length = ws.length) && (ps.zip ws).all (fun z => decide (T[z.1]? = some z.2))
theorem atP_of {T : List Cond} : ∀ {ps : List Nat} {ws : List Cond}, atP T ps ws = true → ∀ w ∈ ws, w ∈ T := by
  intro ps ws h w hw
  unfold atP at h
  rw [Bool.and_eq_true, decide_eq_true_eq] at h
  obtain ⟨i, hi⟩ := List.getElem?_of_mem hw
  have hl := (List.getElem?_eq_some_iff.mp hi).1
  have hz : (ps.zip ws)[i]? = some (ps[i]'(by omega), w) := by
    rw [List.getElem?_zip_eq_some]
    exact ⟨List.getElem?_eq_getElem (by omega), hi⟩
  have := List.all_eq_true.mp h.2 _ (List.mem_of_getElem? hz)
  rw [decide_eq_true_eq] at this
  exact List.mem_of_getElem? this
theorem nW_in : atP lw_tbl nWp nW = true := by decide +kernel
theorem aN_in : atP lw_tbl aNp (aN.map (fun C => .arrayOver (.object C))) = true := by decide +kernel
def nK : Bool := kL.all (fun q => !(q.2.2.1 == 1) || (match nPos.lookup q.1 with
  | some z => decide (lw_tbl[z]? = some (.methodLinkNest (cN (q.1 / 10000)) (q.1 % 10000) (mY q.2.1) "ShotListPlanner"))
  | none => false))
theorem nK_ok : nK = true := by decide +kernel
def stW : List Cond := [.laysStatic Bundle.tN "UNASSIGNED_STACK" Bundle.steD, .initialized Bundle.tN, .laysStatic Bundle.tN "SUPPRESSED_SENTINEL" Bundle.listD, .laysStatic "java/lang/String" "COMPACT_STRINGS" "Z", .initialized "java/lang/String", .laysStatic "jdk/internal/util/Preconditions" "SIOOBE_FORMATTER" "Ljava/util/function/BiFunction;", .initialized "jdk/internal/util/Preconditions"]
theorem stW_ok : atP lw_tbl [680, 119, 682, 508, 124, 524, 126] stW = true := by decide +kernel
def gvW : List Cond := [.isRef (.static Bundle.tN "UNASSIGNED_STACK" Bundle.steD), .isRef (.static Bundle.tN "SUPPRESSED_SENTINEL" Bundle.listD), .eq (.static "java/lang/String" "COMPACT_STRINGS" "Z") (.int 1), .isRef (.static "jdk/internal/util/Preconditions" "SIOOBE_FORMATTER" "Ljava/util/function/BiFunction;"), .not (.castable "java/lang/IllegalArgumentException" "java/lang/IllegalStateException"), .not (.castable "java/util/NoSuchElementException" "java/lang/IllegalStateException"), .not (.castable "java/util/NoSuchElementException" "java/lang/IllegalArgumentException")]
theorem gvW_ok : atP gvF [9, 10, 4, 5, 21, 22, 34] gvW = true := by decide +kernel
theorem nW_on : nW.all (fun w => w.onTables) = true := by decide +kernel
theorem sCk_in {i : Nat} (h : sCk i = true) {w : Cond} (hw : w ∈ sExp i) : w ∈ gvF := by
  unfold sCk at h
  rw [Bool.and_eq_true, decide_eq_true_eq, decide_eq_true_eq] at h
  rw [← h.2] at hw
  exact List.mem_of_mem_drop (List.mem_of_mem_take hw)
theorem wb0 {s : State} {b : Nat} (hts : ∀ w ∈ lw_tbl, w.before #[Value.ref b] s = true) (hgv : (Cond.and given_1 narrow_1).before #[Value.ref b] s = true) : ∃ K J : Nat → Nat, WB K J (lA s) s s.heap := by
  have hg : ∀ w ∈ gvF, w.before #[Value.ref b] s = true := flat_of_before _ hgv
  have hA : ∀ a : Nat, a < s.heap.size → ¬ lA s a := fun a ha => Nat.not_le.mpr ha
  have ck : ∀ i, i < nS → sCk i = true := fun i hi => List.all_eq_true.mp sCk_ok i (List.mem_range.mpr hi)
  have h0 : ∀ i : Nat, ∃ q : Nat × Nat, i < nS → (sTm i).eval #[Value.ref b] s none [] s = some (.ref q.1) ∧ va_O "java/lang/String" q.1 (lA s) s s.heap ∧ va_OF "java/lang/String" "coder" "B" (.int 0) q.1 (lA s) s s.heap ∧ va_OF "java/lang/String" "value" "[B" (.ref q.2) q.1 (lA s) s s.heap ∧ va_T .byte q.2 (lenS.getD i 0) (fun j => .int ((bytS.getD i []).getD j 0)) (lA s) s s.heap := by
    intro i
    by_cases hi : i < nS
    · have c := ck i hi
      have c0 := c
      unfold sCk at c0
      rw [Bool.and_eq_true, decide_eq_true_eq] at c0
      have c1 := c0.1
      have c2 : Cond.exactly (sTm i) "java/lang/String" ∈ gvF := sCk_in c (by simp [sExp])
      have c3 : Cond.eq (.field (sTm i) "java/lang/String" "coder" "B") (.int 0) ∈ gvF := sCk_in c (by simp [sExp])
      have c4 : Cond.arrayOf (sVal (sTm i)) .byte ∈ gvF := sCk_in c (by simp [sExp])
      have c5 : Cond.eq (.length (sVal (sTm i))) (.int (Int32.ofNat (lenS.getD i 0))) ∈ gvF := sCk_in c (by simp [sExp])
      have c6 : ∀ j, j < lenS.getD i 0 → Cond.eq (.elem (sVal (sTm i)) (.int (Int32.ofNat j))) (.int ((bytS.getD i []).getD j 0)) ∈ gvF := fun j hj => sCk_in c (List.mem_append.mpr (Or.inr (List.mem_map.mpr ⟨j, List.mem_range.mpr hj, rfl⟩)))
      obtain ⟨a, cc, cA, kA, q1, q2, q3, q4, q5, q6, -⟩ := Cond.exactly_spec (args := #[Value.ref b]) (first := s) (o := none) (s := s) (idx := []) (t := sTm i) (cls := "java/lang/String") (hg _ c2)
      obtain ⟨t, ht, hT⟩ := va_Tof (tm := sVal (sTm i)) (ty := .byte) (f := fun j => .int ((bytS.getD i []).getD j 0)) (A := lA s) c1 (hg _ c4) (va_eqt (hg _ c5)) (fun j hj => va_eqt (hg _ (c6 j hj))) hA
      exact ⟨(a, t), fun _ => ⟨q1, ⟨cA, q3, q5, by rw [q6]; exact q2, hA a (Array.getElem?_eq_some_iff.mp q3).1⟩, vk_OFof q1 (va_eqt (hg _ c3)) hA, vk_OFof q1 ht hA, hT⟩⟩
    · exact ⟨(0, 0), fun h => absurd h hi⟩
  obtain ⟨ad, had⟩ := Classical.axiomOfChoice h0
  have hinj : ∀ i j : Nat, i < nS → j < nS → (ad i).1 = (ad j).1 → i = j := by
    intro i j hi hj e
    obtain ⟨-, -, -, ⟨cf, k, f, fl, cell, a1, a2, a3, a4, a5, a6⟩, ⟨ce, b1, b2, b3, b4, b5, b6, b7⟩⟩ := had i hi
    obtain ⟨-, -, -, ⟨cf', k', f', fl', cell', a1', a2', a3', a4', a5', a6'⟩, ⟨ce', b1', b2', b3', b4', b5', b6', b7'⟩⟩ := had j hj
    rw [a1] at a1'
    cases a1'
    rw [e] at a3
    rw [a3] at a3'
    cases a3'
    rw [a5] at a5'
    have e2 : (ad i).2 = (ad j).2 := by simpa using a5'
    rw [e2] at b1
    rw [b1] at b1'
    cases b1'
    have ci := ck i hi
    have cj := ck j hj
    unfold sCk at ci cj
    rw [Bool.and_eq_true, decide_eq_true_eq] at ci cj
    have el : lenS.getD i 0 = lenS.getD j 0 := by
      have := b5.symm.trans b5'
      exact (nI_eq ci.1 cj.1).mp this
    have d := List.all_eq_true.mp (List.all_eq_true.mp sDf_ok i (List.mem_range.mpr hi)) j (List.mem_range.mpr hj)
    simp only [Bool.or_eq_true, beq_iff_eq, Bool.not_eq_true', beq_eq_false_iff_ne] at d
    rcases d with d | d | d
    · exact d
    · exact absurd el d
    · obtain ⟨x, hx, d⟩ := List.any_eq_true.mp d
      have hx := List.mem_range.mp hx
      have g1 := b6 x hx
      have g2 := b6' x (by omega)
      rw [g1] at g2
      have g3 : (bytS.getD i []).getD x 0 = (bytS.getD j []).getD x 0 := by simpa using g2
      rw [g3] at d
      simp at d
  have tw : ∀ w ∈ stW, w.before #[Value.ref b] s = true := fun w hw => hts w (atP_of stW_ok w hw)
  have gw : ∀ w ∈ gvW, w.before #[Value.ref b] s = true := fun w hw => hg w (atP_of gvW_ok w hw)
  refine ⟨fun i => (ad i).1, fun i => (ad i).2, ⟨fun i hi => (had i hi).2, hinj⟩, fun q hq => ?_, fun w hw => va_Nw.of (List.all_eq_true.mp nW_on w hw) (hts w (atP_of nW_in w hw)), fun q hq h1 => ?_, vx_Zqof (tw _ (by simp [stW])) (tw _ (by simp [stW])) (gw _ (by simp [gvW])) hA, vx_Zqof (tw _ (by simp [stW])) (tw _ (by simp [stW])) (gw _ (by simp [gvW])) hA, va_Zof (tw _ (by simp [stW])) (tw _ (by simp [stW])) (va_eqt (gw _ (by simp [gvW]))) hA, va_Zqof (tw _ (by simp [stW])) (tw _ (by simp [stW])) (gw _ (by simp [gvW])) hA, fun C hC => va_AO.of (hts _ (atP_of aN_in _ (List.mem_map.mpr ⟨C, hC, rfl⟩)))⟩
  · have d := List.all_eq_true.mp sDp_ok q hq
    rw [Bool.and_eq_true, Bool.and_eq_true, decide_eq_true_eq, decide_eq_true_eq] at d
    obtain ⟨d1, d2, d3⟩ := d
    have e1 := (had q.2.1 d1).1
    refine vk_R.of (A := #[Value.ref b]) (hts _ (List.mem_of_getElem? d2)) ?_
    split at d3
    · rw [decide_eq_true_eq] at d3
      rw [← d3]; exact e1
    · rw [Bool.and_eq_true, decide_eq_true_eq, decide_eq_true_eq] at d3
      obtain ⟨a, cc, cA, kA, q1, -⟩ := Cond.exactly_spec (args := #[Value.ref b]) (first := s) (o := none) (s := s) (idx := []) (t := .string (cN (q.1 / 10000)) (q.1 % 10000)) (cls := "java/lang/String") (hg _ (List.mem_of_getElem? d3.1))
      have e2 := Cond.eq_refs (args := #[Value.ref b]) (first := s) (t := s) (out := none) (idx := []) (hg _ (List.mem_of_getElem? d3.2)) q1 rfl
      rw [e1] at e2
      rw [q1, ← e2]
  · have d := List.all_eq_true.mp nK_ok q hq
    rw [h1] at d
    simp only [Bool.or_eq_true, beq_self_eq_true, Bool.not_true] at d
    rcases d with d | d
    · cases d
    · split at d
      · rw [decide_eq_true_eq] at d
        exact va_Nw.of rfl (hts _ (List.mem_of_getElem? d))
      · cases d
theorem nc0 {s : State} {b : Nat} (hgv : (Cond.and given_1 narrow_1).before #[Value.ref b] s = true) : NCs s := by
  have hg : ∀ w ∈ gvF, w.before #[Value.ref b] s = true := flat_of_before _ hgv
  have gw : ∀ w ∈ gvW, w.before #[Value.ref b] s = true := fun w hw => hg w (atP_of gvW_ok w hw)
  exact ⟨va_Nc.of (gw _ (by simp [gvW])), va_Nc.of (gw _ (by simp [gvW])), va_Nc.of (gw _ (by simp [gvW]))⟩
