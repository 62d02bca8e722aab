/-! calls, with what they cost -/
def rcvB (sh : HS) (b t : Nat) : Bool := isT sh b t || ((t == 12 || t == 14) && isT sh b (t + 14))
def cQx (mi pc q na ce sl X Y : Nat) : Bool := (match dc mi pc with
    | some (.invokestatic ix, n) => decide (n = 3) && (decide (mK q = 0) && decide ((lk2 kL (mC mi) ix).map (·.1) = some q))
    | some (.invokevirtual ix, n) => decide (n = 3) && (decide (mK q = 1) && decide ((lk2 kL (mC mi) ix).map (·.1) = some q))
    | some (.invokespecial ix, n) => decide (n = 3) && (decide (mK q = 2) && decide ((lk2 kL (mC mi) ix).map (·.1) = some q))
    | _ => false) && (decide (q < mT.length) && (decide (q < 1000) && (decide (mN q = na) && (decide (mFr q + 1 ≤ mFr mi) && (decide (8 + (mL q + 11) + mLo q ≤ mLo mi) && (decide (mCe q = ce) && (decide (mSl q = sl) && cRm mi X Y)))))))
theorem isTy_rf (x : Option Nat) : isTy 1 (va_rf x) = true := by cases x <;> rfl
theorem cat_rf (x : Option Nat) : (va_rf x).category = 1 := by cases x <;> rfl
section ST
variable {l : Launch} {K J : Nat → Nat} {mi pc pc' a : Nat} {L L' : VL} {st : List Value} {sh : HS} {I : HI} {R : HR} {c : Nat × Nat} {F : VF} {ins : Instr}
theorem mwx_call {q na ce sl X Y : Nat} {as rest : List Value} {G : VF} (h : cQx mi pc q na ce sl X Y = true) (hc : c.1 + ce ≤ X ∧ c.2 + sl ≤ Y) (hn : as.length = na) (hr : Nat.ble (catS rest) 8 = true) (he : Nat.ble (entA as.reverse).length (mL q) = true) (hl : as.all (fun v => v.category == 1) = true)
    (hv : mK q = 1 → rvOK K sh q as.getLast?) (hi : mK q = 2 → ∃ b, as.getLast? = some (.ref b)) (hV : MW l K J q 0 (ent (mL q) as.reverse) [] sh I R (0, 0) G)
    (k1 : ∀ sh' I' R', G (.inl none) sh' I' R' → MW l K J mi (pc + 3) L rest sh' I' R' (c.1 + ce, c.2 + sl) F) (k2 : ∀ v sh' I' R', G (.inl (some v)) sh' I' R' → MW l K J mi (pc + 3) L (v :: rest) sh' I' R' (c.1 + ce, c.2 + sl) F) (k3 : ∀ E sh' I' R', G (.inr E) sh' I' R' → F (.inr E) sh' I' R') :
    MW l K J mi pc L (as ++ rest) sh I R c F := by
  unfold cQx cRm at h
  rw [Bool.and_eq_true] at h
  obtain ⟨h0, h⟩ := h
  simp only [Bool.and_eq_true, decide_eq_true_eq] at h
  obtain ⟨e2, e3, e4, e5, e6, e7, e8, e9, e10⟩ := h
  have t1 : (as ++ rest).take (mN q) = as := by rw [e4, ← hn]; exact List.take_left
  have t2 : (as ++ rest).drop (mN q) = rest := by rw [e4, ← hn]; exact List.drop_left
  have hV' : ∀ kd, mK q = kd → Vc K (MW l K J) kd q mi pc L (as ++ rest) sh I R c F := by
    intro kd hkd
    refine ⟨e2, by rw [List.length_append, e4]; omega, hkd, by rw [t2]; exact Nat.le_of_ble_eq_true hr, ⟨e5, e6⟩, ⟨by omega, by omega⟩, ⟨fun z => ?_, fun z => ?_⟩, ⟨by rw [t1]; exact Nat.le_of_ble_eq_true he, by rw [t1]; exact Or.inl hl⟩, G, by rw [t1]; exact hV, ?_, ?_, k3⟩
    · rw [t1]; exact hv (hkd.trans z)
    · rw [t1]; exact hi (hkd.trans z)
    · intro sh' I' R' g
      rw [t2, e7, e8]
      exact k1 _ _ _ g
    · intro v sh' I' R' g
      rw [t2, e7, e8]
      exact k2 _ _ _ _ g
  have hdc : ∀ i n, dc mi pc = some (i, n) → decode (mB mi) pc = .ok (i, n) := by
    intro i n hh
    unfold dc at hh
    split at hh
    · rename_i z ez
      rw [ez]; cases hh; rfl
    · cases hh
  split at h0
  · rename_i ix n hd
    simp only [Bool.and_eq_true, decide_eq_true_eq] at h0
    obtain ⟨rfl, g1, g2⟩ := h0
    obtain ⟨r, hr1, hr2⟩ := Option.map_eq_some_iff.mp g2
    obtain ⟨r1, r2, r3⟩ := r
    cases hr2
    exact sim_call (kd := 0) (Or.inl ⟨rfl, hdc _ _ hd⟩) hr1 e3 (hV' 0 g1)
  · rename_i ix n hd
    simp only [Bool.and_eq_true, decide_eq_true_eq] at h0
    obtain ⟨rfl, g1, g2⟩ := h0
    obtain ⟨r, hr1, hr2⟩ := Option.map_eq_some_iff.mp g2
    obtain ⟨r1, r2, r3⟩ := r
    cases hr2
    exact sim_call (kd := 1) (Or.inr (Or.inl ⟨rfl, hdc _ _ hd⟩)) hr1 e3 (hV' 1 g1)
  · rename_i ix n hd
    simp only [Bool.and_eq_true, decide_eq_true_eq] at h0
    obtain ⟨rfl, g1, g2⟩ := h0
    obtain ⟨r, hr1, hr2⟩ := Option.map_eq_some_iff.mp g2
    obtain ⟨r1, r2, r3⟩ := r
    cases hr2
    exact sim_call (kd := 2) (Or.inr (Or.inr ⟨rfl, hdc _ _ hd⟩)) hr1 e3 (hV' 2 g1)
  · cases h0
theorem rv_of {q b t : Nat} (h : rcvB sh b t = true) (ht : decide (rcN (mC q) = t ∧ t < 15) = true) : rvOK K sh q (some (.ref b)) := by
  rw [decide_eq_true_eq] at ht
  unfold rcvB at h
  rw [Bool.or_eq_true, Bool.and_eq_true, Bool.or_eq_true, beq_iff_eq, beq_iff_eq] at h
  rcases h with h | ⟨h1, h⟩
  · exact Or.inl (Or.inl ⟨by omega, by rw [ht.1]; exact isT_iff.mp h⟩)
  · exact Or.inr ⟨by omega, by rw [ht.1]; exact isT_iff.mp h⟩
/-- a static call (no receiver), a constructor's, a receiver's: what the callee wants, and what follows -/
theorem mwx_I {q na ce sl X Y : Nat} {as rest : List Value} {P : Int32 → HS → HI → HR → Prop} (h : cQx mi pc q na ce sl X Y = true) (hc : c.1 + ce ≤ X ∧ c.2 + sl ≤ Y) (hn : as.length = na) (hr : Nat.ble (catS rest) 8 = true) (he : Nat.ble (entA as.reverse).length (mL q) = true) (hl : as.all (fun v => v.category == 1) = true)
    (hv : mK q = 1 → rvOK K sh q as.getLast?) (hi : mK q = 2 → ∃ b, as.getLast? = some (.ref b)) (hV : MW l K J q 0 (ent (mL q) as.reverse) [] sh I R (0, 0) (qwI P)) (kk : ∀ v sh' I' R', P v sh' I' R' → MW l K J mi (pc + 3) L (.int v :: rest) sh' I' R' (c.1 + ce, c.2 + sl) F) : MW l K J mi pc L (as ++ rest) sh I R c F := by
  refine mwx_call h hc hn hr he hl hv hi hV (fun sh' I' R' g => ?_) (fun v sh' I' R' g => ?_) (fun E sh' I' R' g => ?_)
  · obtain ⟨v, e, -⟩ := g; cases e
  · obtain ⟨v, e, hp⟩ := g; cases e; exact kk _ _ _ _ hp
  · obtain ⟨v, e, -⟩ := g; cases e
theorem mwx_R {q na ce sl X Y : Nat} {as rest : List Value} {P : Nat → HS → HI → HR → Prop} (h : cQx mi pc q na ce sl X Y = true) (hc : c.1 + ce ≤ X ∧ c.2 + sl ≤ Y) (hn : as.length = na) (hr : Nat.ble (catS rest) 8 = true) (he : Nat.ble (entA as.reverse).length (mL q) = true) (hl : as.all (fun v => v.category == 1) = true)
    (hv : mK q = 1 → rvOK K sh q as.getLast?) (hi : mK q = 2 → ∃ b, as.getLast? = some (.ref b)) (hV : MW l K J q 0 (ent (mL q) as.reverse) [] sh I R (0, 0) (qwR P)) (kk : ∀ v sh' I' R', P v sh' I' R' → MW l K J mi (pc + 3) L (.ref v :: rest) sh' I' R' (c.1 + ce, c.2 + sl) F) : MW l K J mi pc L (as ++ rest) sh I R c F := by
  refine mwx_call h hc hn hr he hl hv hi hV (fun sh' I' R' g => ?_) (fun v sh' I' R' g => ?_) (fun E sh' I' R' g => ?_)
  · obtain ⟨v, e, -⟩ := g; cases e
  · obtain ⟨v, e, hp⟩ := g; cases e; exact kk _ _ _ _ hp
  · obtain ⟨v, e, -⟩ := g; cases e
theorem mwx_N {q na ce sl X Y : Nat} {as rest : List Value} {P : Option Nat → HS → HI → HR → Prop} (h : cQx mi pc q na ce sl X Y = true) (hc : c.1 + ce ≤ X ∧ c.2 + sl ≤ Y) (hn : as.length = na) (hr : Nat.ble (catS rest) 8 = true) (he : Nat.ble (entA as.reverse).length (mL q) = true) (hl : as.all (fun v => v.category == 1) = true)
    (hv : mK q = 1 → rvOK K sh q as.getLast?) (hi : mK q = 2 → ∃ b, as.getLast? = some (.ref b)) (hV : MW l K J q 0 (ent (mL q) as.reverse) [] sh I R (0, 0) (qwN P)) (kk : ∀ v sh' I' R', P v sh' I' R' → MW l K J mi (pc + 3) L (va_rf v :: rest) sh' I' R' (c.1 + ce, c.2 + sl) F) : MW l K J mi pc L (as ++ rest) sh I R c F := by
  refine mwx_call h hc hn hr he hl hv hi hV (fun sh' I' R' g => ?_) (fun v sh' I' R' g => ?_) (fun E sh' I' R' g => ?_)
  · obtain ⟨v, e, -⟩ := g; cases e
  · obtain ⟨v, e, hp⟩ := g; cases e; exact kk _ _ _ _ hp
  · obtain ⟨v, e, -⟩ := g; cases e
theorem mwx_V {q na ce sl X Y : Nat} {as rest : List Value} {P : HS → HI → HR → Prop} (h : cQx mi pc q na ce sl X Y = true) (hc : c.1 + ce ≤ X ∧ c.2 + sl ≤ Y) (hn : as.length = na) (hr : Nat.ble (catS rest) 8 = true) (he : Nat.ble (entA as.reverse).length (mL q) = true) (hl : as.all (fun v => v.category == 1) = true)
    (hv : mK q = 1 → rvOK K sh q as.getLast?) (hi : mK q = 2 → ∃ b, as.getLast? = some (.ref b)) (hV : MW l K J q 0 (ent (mL q) as.reverse) [] sh I R (0, 0) (qwV P)) (kk : ∀ sh' I' R', P sh' I' R' → MW l K J mi (pc + 3) L rest sh' I' R' (c.1 + ce, c.2 + sl) F) : MW l K J mi pc L (as ++ rest) sh I R c F := by
  refine mwx_call h hc hn hr he hl hv hi hV (fun sh' I' R' g => ?_) (fun v sh' I' R' g => ?_) (fun E sh' I' R' g => ?_)
  · exact kk _ _ _ g.2
  · obtain ⟨e, -⟩ := g; cases e
  · obtain ⟨e, -⟩ := g; cases e
def cSu (mi pc ix q na ce sl X Y : Nat) : Bool := cD mi pc (.invokespecial ix) 3 && (cKl mi ix q && (decide (q < mT.length) && (decide (q < 1000) && (decide (mK q = 3) && (decide (mC mi = 13) && (lw_tb2.contains (Cond.sameMethod (mY q).cls (mY q).cls (mY q).name (mY q).desc) && (lw_tb2.contains (Cond.superclass (cN 13) (mY q).cls) && (decide ((mY q).name ≠ "<init>") && (decide (mN q = na) && (decide (mFr q + 1 ≤ mFr mi) && (decide (8 + (mL q + 11) + mLo q ≤ mLo mi) && (decide (mCe q = ce) && (decide (mSl q = sl) && cRm mi X Y)))))))))))))
/-- super.append, super.length -/
theorem mwx_SU {ix q na ce sl X Y b m0 : Nat} {as rest : List Value} {G : VF} (h : cSu mi pc ix q na ce sl X Y = true) (hc : c.1 + ce ≤ X ∧ c.2 + sl ≤ Y) (hn : as.length + 1 = na) (hr : Nat.ble (catS rest) 8 = true) (he : Nat.ble (entA (as ++ [Value.ref b]).reverse).length (mL q) = true) (hl : (as ++ [Value.ref b]).all (fun v => v.category == 1) = true) (hb0 : sh b = some (13, m0))
    (hV : MW l K J q 0 (ent (mL q) (as ++ [Value.ref b]).reverse) [] sh I R (0, 0) G) (k1 : ∀ sh' I' R', G (.inl none) sh' I' R' → MW l K J mi (pc + 3) L rest sh' I' R' (c.1 + ce, c.2 + sl) F) (k2 : ∀ v sh' I' R', G (.inl (some v)) sh' I' R' → MW l K J mi (pc + 3) L (v :: rest) sh' I' R' (c.1 + ce, c.2 + sl) F) (k3 : ∀ E sh' I' R', G (.inr E) sh' I' R' → F (.inr E) sh' I' R') :
    MW l K J mi pc L (as ++ Value.ref b :: rest) sh I R c F := by
  unfold cSu cRm at h
  simp only [Bool.and_eq_true, decide_eq_true_eq] at h
  obtain ⟨h1, h2, h3, h4, h5, h6, h7, h8, h9, h10, h11, h12, h13, h14, h15, h16⟩ := h
  obtain ⟨pos, e⟩ := cKld h2
  refine sim_callSU (dcD h1) e h3 h4 h5 h6 ⟨mem_of_contains h7 rfl, mem_of_contains h8 rfl⟩ h9 (by omega) (Nat.le_of_ble_eq_true hr) (Nat.le_of_ble_eq_true he) hl hb0 ⟨h11, h12⟩ (by omega) hV ?_ ?_ k3
  · rw [h13, h14]; exact k1
  · rw [h13, h14]; exact k2
def cIf (mi pc ix cnt q ce sl X Y : Nat) : Bool := cD mi pc (.invokeinterface ix cnt) 5 && (decide ((lk2 kI (mC mi) ix).map (·.1) = some q) && (decide (q < mT.length) && (decide (mK q = 4) && (decide (mN q = 1) && (decide (1 ≤ mL q) && (decide (mFr q + 1 ≤ mFr mi) && (decide (8 + (mL q + 11) + mLo q ≤ mLo mi) && (decide (mCe q = ce) && (decide (mSl q = sl) && cRm mi X Y)))))))))
theorem mwx_IF {ix cnt q ce sl X Y b : Nat} {rest : List Value} {G : VF} (h : cIf mi pc ix cnt q ce sl X Y = true) (hc : c.1 + ce ≤ X ∧ c.2 + sl ≤ Y) (hr : Nat.ble (catS rest) 8 = true) (hb0 : isT sh b 11 = true)
    (hV : MW l K J q 0 (ent (mL q) [Value.ref b]) [] sh I R (0, 0) G) (k1 : ∀ sh' I' R', G (.inl none) sh' I' R' → MW l K J mi (pc + 5) L rest sh' I' R' (c.1 + ce, c.2 + sl) F) (k2 : ∀ v sh' I' R', G (.inl (some v)) sh' I' R' → MW l K J mi (pc + 5) L (v :: rest) sh' I' R' (c.1 + ce, c.2 + sl) F) (k3 : ∀ E sh' I' R', G (.inr E) sh' I' R' → F (.inr E) sh' I' R') :
    MW l K J mi pc L (Value.ref b :: rest) sh I R c F := by
  unfold cIf cRm at h
  simp only [Bool.and_eq_true, decide_eq_true_eq] at h
  obtain ⟨h1, h2, h3, h4, h5, h6, h7, h8, h9, h10, h11, h12⟩ := h
  obtain ⟨m0, hm0⟩ := isT_iff.mp hb0
  obtain ⟨z, e1, e2⟩ := Option.map_eq_some_iff.mp h2
  obtain ⟨z1, z2, z3⟩ := z
  obtain rfl : z1 = q := e2
  refine sim_callF (dcD h1) e1 h3 h4 h5 (Nat.le_of_ble_eq_true hr) h6 hm0 ⟨h7, h8⟩ (by omega) hV ?_ ?_ k3
  · rw [h9, h10]; exact k1
  · rw [h9, h10]; exact k2
theorem mwx_Ln {ix X Y b : Nat} {rest : List Value} {P : Int32 → HS → HI → HR → Prop} (h : (cD mi pc (.invokevirtual ix) 3 && (cKl mi ix MI_asbLength && (decide (mFr MI_sbLength + 1 ≤ mFr mi) && (decide (8 + (mL MI_sbLength + 11) + mLo MI_sbLength ≤ mLo mi) && (decide (mCe MI_sbLength = 0) && (decide (mSl MI_sbLength = 0) && cRm mi X Y)))))) = true) (hc : c.1 ≤ X ∧ c.2 ≤ Y) (hr : Nat.ble (catS rest) 8 = true) (hb0 : isT sh b 13 = true)
    (hV : MW l K J MI_sbLength 0 (ent (mL MI_sbLength) [Value.ref b]) [] sh I R (0, 0) (qwI P)) (kk : ∀ v sh' I' R', P v sh' I' R' → MW l K J mi (pc + 3) L (.int v :: rest) sh' I' R' c F) : MW l K J mi pc L (Value.ref b :: rest) sh I R c F := by
  unfold cRm at h
  simp only [Bool.and_eq_true, decide_eq_true_eq] at h
  obtain ⟨h1, h2, h7, h8, h9, h10, h11, h12⟩ := h
  obtain ⟨m0, hm0⟩ := isT_iff.mp hb0
  obtain ⟨pos, e⟩ := cKld h2
  refine sim_callLn (dcD h1) e rfl (Nat.le_of_ble_eq_true hr) hm0 ⟨h7, h8⟩ (by omega) hV (fun sh' I' R' g => ?_) (fun v sh' I' R' g => ?_) (fun E sh' I' R' g => ?_)
  · obtain ⟨v, e, -⟩ := g; cases e
  · obtain ⟨v, e, hp⟩ := g; cases e; rw [h9, h10]; exact kk _ _ _ _ hp
  · obtain ⟨v, e, -⟩ := g; cases e
theorem mw_oin {ix X Y x : Nat} (h : (cD mi pc (.invokespecial ix) 3 && (cKl mi ix 1004 && (decide (1 ≤ mFr mi) && (decide (26 ≤ mLo mi) && cRm mi X Y)))) = true) (hr : Nat.ble (catS st) 8 = true) (hc : c.1 ≤ X ∧ c.2 ≤ Y) (kk : MW l K J mi (pc + 3) L st sh I R c F) : MW l K J mi pc L (.ref x :: st) sh I R c F := by
  rw [Bool.and_eq_true, Bool.and_eq_true] at h
  obtain ⟨h1, h2, h3⟩ := h
  obtain ⟨pos, e⟩ := cKld h2
  exact sim_oin (dcD h1) rfl e (vmg_of hr h3 hc) kk
theorem mw_gsN (h : cGs mi pc 1 pc' = true) (kk : ∀ r : Option Nat, MW l K J mi pc' L (va_rf r :: st) sh I R c F) : MW l K J mi pc L st sh I R c F := by
  refine mw_gs1 h (fun v hv => ?_)
  rcases hv with rfl | ⟨a, rfl⟩
  · exact kk none
  · exact kk (some a)
theorem mw_gsV {ix q : Nat} {v : Value} (h : (cD mi pc (.getstatic ix) 3 && decide ((lk2 gX (mC mi) ix).map (·.1) = some q)) = true) (hv : gxV K q = v) (kk : MW l K J mi (pc + 3) L (v :: st) sh I R c F) : MW l K J mi pc L st sh I R c F := by
  subst hv
  exact mw_gsX h kk
/-- null stored into an Object[] -/
theorem sim_aastN {m : Nat} {i : Int32} (hd : decode (mB mi) pc = .ok (.aastore, 1)) (h : sh a = some (46, m)) (hi : vp_in i m) (hk : MW l K J mi (pc + 1) L st sh I (u2 R a i.toNatClampNeg none) c F) : MW l K J mi pc L (.null :: .int i :: .ref a :: st) sh I R c F := by
  intro D p e s m0 args below meth cd A H locs ls C hP hl hS
  have kk := fun H1 locs1 => hk D p e s m0 args below meth cd A H1 locs1 ls C
  obtain ⟨hx, hb, hml, hr, hown, hts, hlk, hin, hex, hK, hB, hA, htr, hmi⟩ := C
  obtain ⟨haA, hasz, hrc⟩ := hP a 46 m h
  have haA := haA (by omega)
  obtain ⟨cA, g1, g2, g3⟩ := hrc.2.2.1 16 rfl
  refine va_WaastN (C := "java/lang/Object") hx hb g1 (g2 m (fun j => va_rf (R a j))) (fun h => by cases h) (by rw [arrV_size]; exact hi) rfl rfl hd fun H' e1 e2 e3 => ?_
  refine kk H' _ (hP.put h e2 e3 (fun _ _ _ => rfl) (fun b j hb0 => u2_off hb0 j) ⟨fun z => by omega, fun z => by omega, fun u z => ⟨cA, ?_, by rw [show u = 16 by omega]; exact g2, by rw [show u = 16 by omega]; exact g3⟩, fun z => by omega, fun z => by omega⟩) hl (hS.put e2 e3 haA)
  rw [e1, arrV_store]
  congr 2
  funext q
  rw [u2_on]
  unfold updV
  by_cases hq : q = i.toNatClampNeg
  · rw [if_pos hq, if_pos hq]; rfl
  · rw [if_neg hq, if_neg hq]
theorem mw_asN {i : Int32} {P : HR → Prop} (h : cD mi pc .aastore 1 = true) (hw : wB (oAsN sh R a i) P) (kk : ∀ R', P R' → MW l K J mi (pc + 1) L st sh I R' c F) : MW l K J mi pc L (va_rf none :: .int i :: .ref a :: st) sh I R c F := by
  obtain ⟨w, e, hp⟩ := wBd hw
  unfold oAsN at e
  split at e
  · rename_i hT
    cases e
    obtain ⟨m, h1, h2⟩ := inA_iff.mp hT
    exact sim_aastN (dcD h) h1 h2 (kk _ hp)
  · cases e
end ST
