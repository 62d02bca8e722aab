theorem fchk_at {c ix t k ty pos : Nat} (h : lk2 fL c ix = some (t, k, ty, pos)) : fchk (c * 10000 + ix, t, k, ty, pos) = true ∧ (c * 10000 + ix) / 10000 = c ∧ (c * 10000 + ix) % 10000 = ix := by
  obtain ⟨h1, h2, h3⟩ := lk2m h
  exact ⟨List.all_eq_true.mp fL_ok _ h1, h2, h3⟩
theorem cst_at {k ix : Nat} {v : Int32} (h : (lk2 iL k ix).map (·.1) = some v) : Cond.constant (cN k) ix v ∈ wAll := by
  cases e : lk2 iL k ix with
  | none => rw [e] at h; cases h
  | some q =>
    rw [e] at h
    cases h
    obtain ⟨h1, h2, h3⟩ := lk2m e
    have h4 := List.all_eq_true.mp iL_ok _ h1
    simp only [h2, h3, decide_eq_true_eq] at h4
    exact wAll_at h4 rfl
theorem cstJ_at {k ix : Nat} {v : Int64} (h : (lk2 lL k ix).map (·.1) = some v) : Cond.constantLong (cN k) ix v ∈ wAll := by
  cases e : lk2 lL k ix with
  | none => rw [e] at h; cases h
  | some q =>
    rw [e] at h
    cases h
    obtain ⟨h1, h2, h3⟩ := lk2m e
    have h4 := List.all_eq_true.mp lL_ok _ h1
    simp only [h2, h3, decide_eq_true_eq] at h4
    exact wAll_at h4 rfl
theorem mem_of_contains {w : Cond} (h : lw_tb2.contains w = true) (g : goodWord w = true) : w ∈ wAll := List.mem_filter.mpr ⟨by simpa using h, g⟩
theorem m_min : Cond.static Lib.Math.min.name ∈ wAll ∧ Cond.code Lib.Math.min.name Lib.Math.min.code 2 (some .int) ∈ wAll ∧ Cond.initialized "java/lang/Math" ∈ wAll := ⟨mem_of_contains (by decide +kernel) rfl, mem_of_contains (by decide +kernel) rfl, mem_of_contains (by decide +kernel) rfl⟩
theorem m_max : Cond.static Lib.Math.max.name ∈ wAll ∧ Cond.code Lib.Math.max.name Lib.Math.max.code 2 (some .int) ∈ wAll ∧ Cond.initialized "java/lang/Math" ∈ wAll := ⟨mem_of_contains (by decide +kernel) rfl, mem_of_contains (by decide +kernel) rfl, mem_of_contains (by decide +kernel) rfl⟩
theorem m_abs : Cond.static Lib.Math.abs.name ∈ wAll ∧ Cond.code Lib.Math.abs.name Lib.Math.abs.code 1 (some .int) ∈ wAll ∧ Cond.initialized "java/lang/Math" ∈ wAll := ⟨mem_of_contains (by decide +kernel) rfl, mem_of_contains (by decide +kernel) rfl, mem_of_contains (by decide +kernel) rfl⟩
theorem m_cpy : Cond.native arraycopyName ∈ wAll ∧ Cond.static arraycopyName ∈ wAll ∧ Cond.initialized "java/lang/System" ∈ wAll := ⟨mem_of_contains (by decide +kernel) rfl, mem_of_contains (by decide +kernel) rfl, mem_of_contains (by decide +kernel) rfl⟩
theorem m_obj : Cond.instanceMethod Lib.objectInit ∈ wAll ∧ Cond.code Lib.objectInit ⟨#[0xb1]⟩ 1 none ∈ wAll := ⟨mem_of_contains (by decide +kernel) rfl, mem_of_contains (by decide +kernel) rfl⟩
def spN (code : Nat) : MethodName := match code with
  | 1000 => Lib.Math.min.name
  | 1001 => Lib.Math.max.name
  | 1002 => Lib.Math.abs.name
  | 1003 => arraycopyName
  | 1004 => Lib.objectInit
  | 1005 => ⟨"[B", "clone", "()Ljava/lang/Object;"⟩
  | 1006 => ⟨"java/lang/Object", "getClass", "()Ljava/lang/Class;"⟩
  | 1007 => yL_hasNone
  | _ => yL_hasNoFault
def kchk (q : Nat × Nat × Nat × Nat) : Bool := if q.2.1 < 1000 then (decide (q.2.1 < mT.length) && (if q.2.2.1 = 0 then decide (lw_tb2[q.2.2.2]? = some (.methodLink (cN (q.1 / 10000)) (q.1 % 10000) (mY q.2.1))) else decide (q.2.2.1 = 1)))
  else decide (lw_tb2[q.2.2.2]? = some (.methodLink (cN (q.1 / 10000)) (q.1 % 10000) (spN q.2.1))) && decide (q.2.1 < 1009)
theorem kL_ok : kL.all kchk = true := by decide +kernel
theorem kl_sp {k ix code a b : Nat} (h : lk2 kL k ix = some (code, a, b)) (hc : ¬ code < 1000) : Cond.methodLink (cN k) ix (spN code) ∈ wAll := by
  obtain ⟨h1, h2, h3⟩ := lk2m h
  have h4 := List.all_eq_true.mp kL_ok _ h1
  unfold kchk at h4
  rw [if_neg hc] at h4
  simp only [h2, h3, Bool.and_eq_true, decide_eq_true_eq] at h4
  exact wAll_at h4.1 rfl
section SIM
variable {l : Launch} {K J : Nat → Nat} {mi pc n : Nat} {L : VL} {st : List Value} {sh : HS} {I : HI} {R : HR} {c : Nat × Nat} {F : VF} {ins : Instr}
theorem w_ldcSW {p : Program} {e : Env} {Rm : Room} {s : State} {m : MethodId} {args : Array Value} {below : List Frame} {meth : Method} {cd : Code} {H : Heap} {locs : List Loc} {cells slots : Nat} {Q : State → Prop} {cc : ByteArray} {ls : Array Slot} {rest : List Value} (hexec : p.tables.exec = Jvm.exec) (hb : cd.code = cc) {own tx : String} {index q : Nat} (hown : s.vm.findClass own = some m.cls) (hZ : vk_R own index tx q s) (hdg : decode cc pc = .ok (.ldc_w index, 3))
    (k : W p l e Rm s m args below meth cd H locs cells slots Q (F0 m (pc + 3) ls (.ref q :: rest))) : W p l e Rm s m args below meth cd H locs cells slots Q (F0 m pc ls rest) := by
  intro T hT X
  obtain ⟨t, a1, b1⟩ := k T hT X
  exact ⟨t, X.ldcStringW hexec hown (text := tx) (a := q) hZ.1 hZ.2 (g := F0 m pc ls rest) rfl (by rw [hb]; exact hdg) t a1, b1⟩
theorem sim_cst {v : Int32} (hd : decode (mB mi) pc = .ok (ins, n)) (hn : n = iln ins n) (hi : cst mi ins = some v) (hk : MW l K J mi (pc + n) L (.int v :: st) sh I R c F) : MW l K J mi pc L st sh I R c F := by
  intro D p e s m args below meth cd A H locs ls C hP hl hS
  have k := hk D p e s m args below meth cd A H locs ls C hP hl hS
  obtain ⟨hx, hb, hml, hr, hown, hts, hlk, hin, hex, hK, hB, hA, htr, hmi⟩ := C
  unfold cst at hi
  split at hi
  · simp only [iln] at hn; subst hn; exact lv_iconst hx hb hd (Option.some.inj hi) k
  · simp only [iln] at hn; subst hn; exact lv_bipush hx hb hd (Option.some.inj hi) k
  · simp only [iln] at hn; subst hn; exact lv_sipush hx hb hd (Option.some.inj hi) k
  · simp only [iln] at hn; subst hn; exact lv_ldc hx hb hown (hts _ (cst_at hi)) hd k
  · simp only [iln] at hn; subst hn; exact lv_ldcw hx hb hown (hts _ (cst_at hi)) hd k
  · cases hi
theorem sim_cstS {i : Nat} (hd : decode (mB mi) pc = .ok (ins, n)) (hn : n = iln ins n) (hi : cstS mi ins = some i) (hk : MW l K J mi (pc + n) L (.ref (K i) :: st) sh I R c F) : MW l K J mi pc L st sh I R c F := by
  intro D p e s m args below meth cd A H locs ls C hP hl hS
  have k := hk D p e s m args below meth cd A H locs ls C hP hl hS
  obtain ⟨hx, hb, hml, hr, hown, hts, hlk, hin, hex, hK, hB, hA, htr, hmi⟩ := C
  have key : ∀ ix, (lk2 sL (mC mi) ix).map (·.1) = some i → vk_R (cN (mC mi)) ix (strs.getD i "") (K i) s := by
    intro ix h
    cases e1 : lk2 sL (mC mi) ix with
    | none => rw [e1] at h; cases h
    | some q =>
      rw [e1] at h
      cases h
      obtain ⟨h1, h2, h3⟩ := lk2m e1
      have h4 := hB.2.1 _ h1
      simp only [h2, h3] at h4
      exact h4
  unfold cstS at hi
  split at hi
  · simp only [iln] at hn; subst hn; exact va_ldcS hx hb hown (key _ hi) hd k
  · simp only [iln] at hn; subst hn; exact w_ldcSW hx hb hown (key _ hi) hd k
  · cases hi
theorem sim_cstJ {v : Int64} (hd : decode (mB mi) pc = .ok (ins, n)) (hn : n = iln ins n) (hi : cstJ mi ins = some v) (hk : MW l K J mi (pc + n) L (.long v :: st) sh I R c F) : MW l K J mi pc L st sh I R c F := by
  intro D p e s m args below meth cd A H locs ls C hP hl hS
  have k := hk D p e s m args below meth cd A H locs ls C hP hl hS
  obtain ⟨hx, hb, hml, hr, hown, hts, hlk, hin, hex, hK, hB, hA, htr, hmi⟩ := C
  unfold cstJ at hi
  split at hi
  · simp only [iln] at hn; subst hn; exact lv_lconst hx hb hd (Option.some.inj hi) k
  · simp only [iln] at hn; subst hn; exact lv_ldc2 hx hb hown (hts _ (cstJ_at hi)) hd k
  · cases hi
theorem sim_getS {ix k ty pos i : Nat} (hd : decode (mB mi) pc = .ok (.getfield ix, n)) (hn : n = iln (.getfield ix) n) (hf : lk2 fL (mC mi) ix = some (20, k, ty, pos)) (hi : i < nS) (hk : MW l K J mi (pc + 3) L (.ref (J i) :: st) sh I R c F) : MW l K J mi pc L (.ref (K i) :: st) sh I R c F := by
  intro D p e s m args below meth cd A H locs ls C hP hl hS
  have kk := hk D p e s m args below meth cd A H locs ls C hP hl hS
  obtain ⟨hx, hb, hml, hr, hown, hts, hlk, hin, hex, hK, hB, hA, htr, hmi⟩ := C
  simp only [iln] at hn
  subst hn
  obtain ⟨h1, h2, h3⟩ := fchk_at hf
  simp only [fchk, h2, h3, show ¬ (20 : Nat) < 15 by decide, if_false, if_true, decide_eq_true_eq] at h1
  exact vk_getf hx hb (hB.1.1 i hi).2.2.1 hS hown (hts _ (wAll_at h1 rfl)) (fun _ z => z) hd kk
theorem sim_getC {ix k ty pos i : Nat} (hd : decode (mB mi) pc = .ok (.getfield ix, n)) (hn : n = iln (.getfield ix) n) (hf : lk2 fL (mC mi) ix = some (21, k, ty, pos)) (hi : i < nS) (hk : MW l K J mi (pc + 3) L (.int 0 :: st) sh I R c F) : MW l K J mi pc L (.ref (K i) :: st) sh I R c F := by
  intro D p e s m args below meth cd A H locs ls C hP hl hS
  have kk := hk D p e s m args below meth cd A H locs ls C hP hl hS
  obtain ⟨hx, hb, hml, hr, hown, hts, hlk, hin, hex, hK, hB, hA, htr, hmi⟩ := C
  simp only [iln] at hn
  subst hn
  obtain ⟨h1, h2, h3⟩ := fchk_at hf
  simp only [fchk, h2, h3, show ¬ (21 : Nat) < 15 by decide, show ¬ (21 : Nat) = 20 by decide, if_false, if_true, decide_eq_true_eq] at h1
  exact vk_getf hx hb (hB.1.1 i hi).2.1 hS hown (hts _ (wAll_at h1 rfl)) (fun _ z => z) hd kk
theorem sLen_eq {i : Nat} (h : i < nS) : lenS.getD i 0 = sLen i := by
  unfold lenS sLen
  unfold nS at h
  rw [List.getD_eq_getElem?_getD, List.getD_eq_getElem?_getD, List.getElem?_map, List.getElem?_eq_getElem h]
  rfl
theorem sByt_eq {i j : Nat} (h : i < nS) (hj : j < sLen i) : (bytS.getD i []).getD j 0 = sByt i j := by
  unfold bytS sByt
  unfold sLen at hj
  unfold nS at h
  rw [List.getD_eq_getElem?_getD (l := strs), List.getElem?_eq_getElem h] at hj ⊢
  rw [List.getD_eq_getElem?_getD (l := strs.map _), List.getElem?_map, List.getElem?_eq_getElem h]
  simp only [Option.map_some, Option.getD_some] at hj ⊢
  have hj2 : j < (strs[i]).toList.length := by rw [String.length_toList]; exact hj
  rw [List.getD_eq_getElem?_getD, List.getD_eq_getElem?_getD, List.getElem?_map, List.getElem?_eq_getElem hj2]
  rfl
theorem sim_alen {i : Nat} (hd : decode (mB mi) pc = .ok (.arraylength, n)) (hn : n = iln .arraylength n) (hi : i < nS) (hk : MW l K J mi (pc + n) L (.int (nI (sLen i)) :: st) sh I R c F) : MW l K J mi pc L (.ref (J i) :: st) sh I R c F := by
  intro D p e s m args below meth cd A H locs ls C hP hl hS
  have kk := hk D p e s m args below meth cd A H locs ls C hP hl hS
  obtain ⟨hx, hb, hml, hr, hown, hts, hlk, hin, hex, hK, hB, hA, htr, hmi⟩ := C
  simp only [iln] at hn
  subst hn
  obtain ⟨cell, h1, h2, h3, h4, h5, h6, h7⟩ := (hB.1.1 i hi).2.2.2.kept hS.2.1
  rw [sLen_eq hi] at h5
  exact W.alen (n := nI (sLen i)) hx hb h1 h2 h5 rfl rfl hd kk
theorem sim_bald {k : Nat} {i : Int32} (hd : decode (mB mi) pc = .ok (.baload, n)) (hn : n = iln .baload n) (hi : k < nS) (hv : vp_in i (sLen k)) (hk : MW l K J mi (pc + n) L (.int (sByt k i.toNatClampNeg) :: st) sh I R c F) : MW l K J mi pc L (.int i :: .ref (J k) :: st) sh I R c F := by
  intro D p e s m args below meth cd A H locs ls C hP hl hS
  have kk := hk D p e s m args below meth cd A H locs ls C hP hl hS
  obtain ⟨hx, hb, hml, hr, hown, hts, hlk, hin, hex, hK, hB, hA, htr, hmi⟩ := C
  simp only [iln] at hn
  subst hn
  obtain ⟨cell, h1, h2, h3, h4, h5, h6, h7⟩ := (hB.1.1 k hi).2.2.2.kept hS.2.1
  rw [sLen_eq hi] at h4 h6
  have hj := vp_lt hv
  refine W.bald (v := .int (sByt k i.toNatClampNeg)) hx hb h1 h2 h3 (fun z => ?_) ?_ rfl rfl hd kk
  · rcases z with z | z
    · exact hv (Or.inl z)
    · exact hv (Or.inr (Nat.le_trans h4 z))
  · exact (h6 _ hj).trans (by simp only [sByt_eq hi hj])
theorem sim_gets {ix q pos : Nat} (hd : decode (mB mi) pc = .ok (.getstatic ix, n)) (hn : n = iln (.getstatic ix) n) (hf : lk2 gL (mC mi) ix = some (q, pos)) (hk : ∀ v, (q = 0 → v = .int 1) → (q ≠ 0 → v = .null ∨ ∃ a, v = .ref a) → MW l K J mi (pc + 3) L (v :: st) sh I R c F) : MW l K J mi pc L st sh I R c F := by
  intro D p e s m args below meth cd A H locs ls C hP hl hS
  have kk := fun v z1 z2 => hk v z1 z2 D p e s m args below meth cd A H locs ls C hP hl hS
  obtain ⟨hx, hb, hml, hr, hown, hts, hlk, hin, hex, hK, hB, hA, htr, hmi⟩ := C
  simp only [iln] at hn
  subst hn
  obtain ⟨h1, h2, h3⟩ := lk2m hf
  have h4 := List.all_eq_true.mp gL_ok _ h1
  unfold gchk at h4
  simp only [h2, h3] at h4
  split at h4
  · rename_i e0
    simp only [decide_eq_true_eq] at h4
    exact va_gets hx hb hB.2.2.2.2.2.2.1 hS hown (hts _ (wAll_at h4 rfl)) (fun _ z => z) hd (kk _ (fun _ => rfl) (fun z => absurd rfl z))
  · rename_i e0
    simp only [decide_eq_true_eq] at h4
    rcases hB.2.2.2.2.2.2.2.1 with hz | ⟨t, hz⟩
    · exact va_gets hx hb hz hS hown (hts _ (wAll_at h4 rfl)) (fun _ z => z) hd (kk _ (fun z => absurd z e0) (fun _ => Or.inl rfl))
    · exact va_gets hx hb hz hS hown (hts _ (wAll_at h4 rfl)) (fun _ z => z) hd (kk _ (fun z => absurd z e0) (fun _ => Or.inr ⟨t, rfl⟩))
end SIM
