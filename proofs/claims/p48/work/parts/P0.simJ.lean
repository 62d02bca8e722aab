/-! WHAT THE LAW AND THE JDK NEED BEYOND THE SMALL MACHINE: steps told over MW itself -/
theorem cx_at {c ix v pos : Nat} (h : lk2 cX c ix = some (v, pos)) : Cond.classLink (cN c) ix (cXn.getD v "") ∈ wAll := by
  obtain ⟨h1, h2, h3⟩ := lk2m h
  have h4 : cX.all (fun q => decide (lw_tb2[q.2.2]? = some (.classLink (cN (q.1 / 10000)) (q.1 % 10000) (cXn.getD q.2.1 "")))) = true := by decide +kernel
  have h5 := List.all_eq_true.mp h4 _ h1
  simp only [h2, h3, decide_eq_true_eq] at h5
  exact wAll_at h5 rfl
/-- what may lie in a list -/
def okE (sh : HS) (y : Nat) : Prop := ∃ t m, sh y = some (t, m) ∧ (t = 20 ∨ t = 12 ∨ t = 26)
theorem any_of {K J : Nat → Nat} {D : va_G} {s : State} {A : Nat → Prop} {sh : HS} {I : HI} {R : HR} {H : Heap} {y : Nat} (hK : va_K D vwCl [] s) (hB : WB K J A s s.heap) (hP : RP D s A sh I R H) (h : okE sh y) : va_Any "java/lang/Object" s H y := by
  obtain ⟨t, m, hy, ht⟩ := h
  obtain ⟨-, -, r1, r2, r3, r4, r5⟩ := hP y t m hy
  have hw := hB.2.2.2.2.2.2.2.2.2.2.2.1
  have fin : ∀ (C : String) (cell : Cell), Cond.castable C "java/lang/Object" ∈ nW2 → H[y]? = some cell → cell.vm.isStatics = false → s.vm.findClass C = some cell.cls → va_Any "java/lang/Object" s H y := by
    intro C cell hc h1 h2 h3
    obtain ⟨kC, hkC, -⟩ := Vm.findClass_spec h3
    refine ⟨cell, h1, h2, ⟨kC, hkC⟩, fun comp hcomp => ?_⟩
    obtain ⟨x, t1, f1, f2, f3⟩ := Cond.castable_spec (va_Nw.use (A := #[]) rfl (hw _ hc))
    cases h3.symm.trans f1
    cases hcomp.symm.trans f2
    exact f3
  rcases ht with rfl | rfl | rfl
  · obtain ⟨cA, g1, g2, g3⟩ := r2 rfl
    exact fin "[I" _ (by decide) g1 rfl g3
  · obtain ⟨r, hr, cell, g1, g2, g3, -⟩ := r1 (by decide)
    refine fin "java/lang/Integer" cell (by decide) g1 (by rw [g3]; rfl) ?_
    have e := (hK.1 12 r hr).2.1
    rw [g2, ← e, ← cN_cls hr]
    rfl
  · obtain ⟨cell, g1, g2⟩ := r5 (by decide) (by decide)
    exact fin "java/lang/Integer" cell (by decide) g1 (g2.1 rfl).1.1 (g2.1 rfl).1.2
section SIM
variable {l : Launch} {K J : Nat → Nat} {mi pc n : Nat} {L : VL} {st : List Value} {sh : HS} {I : HI} {R : HR} {c : Nat × Nat} {F : VF} {ins : Instr}
theorem sim_null (hd : decode (mB mi) pc = .ok (.aconst_null, 1)) (hk : MW l K J mi (pc + 1) L (.null :: st) sh I R c F) : MW l K J mi pc L st sh I R c F := by
  intro D p e s m args below meth cd A H locs ls C hP hl hS
  have k := hk D p e s m args below meth cd A H locs ls C hP hl hS
  obtain ⟨hx, hb, -⟩ := C
  exact lv_null hx hb hd k
theorem sim_ifnull {o : Int} {x : Option Nat} (hd : decode (mB mi) pc = .ok (.ifnull o, 3)) (h0 : 0 ≤ (pc : Int) + o) (hk1 : x = none → MW l K J mi ((pc : Int) + o).toNat L st sh I R c F) (hk2 : ¬ x = none → MW l K J mi (pc + 3) L st sh I R c F) : MW l K J mi pc L (va_rf x :: st) sh I R c F := by
  intro D p e s m args below meth cd A H locs ls C hP hl hS
  have k1 := fun z => hk1 z D p e s m args below meth cd A H locs ls C hP hl hS
  have k2 := fun z => hk2 z D p e s m args below meth cd A H locs ls C hP hl hS
  obtain ⟨hx, hb, -⟩ := C
  cases x with
  | none => exact lv_ifnullN hx hb hd (Int.toNat_of_nonneg h0).symm (k1 rfl)
  | some y => exact lv_ifnull hx hb hd (k2 (fun z => nomatch z))
theorem sim_ifnonnull {o : Int} {x : Option Nat} (hd : decode (mB mi) pc = .ok (.ifnonnull o, 3)) (h0 : 0 ≤ (pc : Int) + o) (hk1 : ¬ x = none → MW l K J mi ((pc : Int) + o).toNat L st sh I R c F) (hk2 : x = none → MW l K J mi (pc + 3) L st sh I R c F) : MW l K J mi pc L (va_rf x :: st) sh I R c F := by
  intro D p e s m args below meth cd A H locs ls C hP hl hS
  have k1 := fun z => hk1 z D p e s m args below meth cd A H locs ls C hP hl hS
  have k2 := fun z => hk2 z D p e s m args below meth cd A H locs ls C hP hl hS
  obtain ⟨hx, hb, -⟩ := C
  cases x with
  | none => exact lv_ifnonnullN hx hb hd (k2 rfl)
  | some y => exact lv_ifnonnull hx hb hd (Int.toNat_of_nonneg h0).symm (k1 (fun z => nomatch z))
theorem sim_acmp {o : Int} {x y : Option Nat} {ne : Bool} (hd : decode (mB mi) pc = .ok (.if_acmp (if ne then .ne else .eq) o, 3)) (h0 : 0 ≤ (pc : Int) + o) (hk1 : (x = y ↔ ne = false) → MW l K J mi ((pc : Int) + o).toNat L st sh I R c F) (hk2 : ¬ (x = y ↔ ne = false) → MW l K J mi (pc + 3) L st sh I R c F) : MW l K J mi pc L (va_rf y :: va_rf x :: st) sh I R c F := by
  intro D p e s m args below meth cd A H locs ls C hP hl hS
  have k1 := fun z => hk1 z D p e s m args below meth cd A H locs ls C hP hl hS
  have k2 := fun z => hk2 z D p e s m args below meth cd A H locs ls C hP hl hS
  obtain ⟨hx, hb, -⟩ := C
  cases ne with
  | false => exact lv_acmp_eq hx hb hd (Int.toNat_of_nonneg h0).symm (fun z => k1 ⟨fun _ => rfl, fun _ => z⟩) (fun z => k2 (fun w => z (w.mpr rfl)))
  | true => exact lv_acmp_ne hx hb hd (Int.toNat_of_nonneg h0).symm (fun z => k1 ⟨fun w => absurd w z, fun w => nomatch w⟩) (fun z => k2 (fun w => nomatch w.mp z))
theorem sim_dupx1 {u v : Value} (hd : decode (mB mi) pc = .ok (.dup_x1, 1)) (hu : u.category = 1) (hv : v.category = 1) (hk : MW l K J mi (pc + 1) L (u :: v :: u :: st) sh I R c F) : MW l K J mi pc L (u :: v :: st) sh I R c F := by
  intro D p e s m args below meth cd A H locs ls C hP hl hS
  have k := hk D p e s m args below meth cd A H locs ls C hP hl hS
  obtain ⟨hx, hb, -⟩ := C
  exact lv_dup_x1 hx hb hd hu hv k
theorem sim_popG {u : Value} (hd : decode (mB mi) pc = .ok (.pop, 1)) (hu : u.category = 1) (hk : MW l K J mi (pc + 1) L st sh I R c F) : MW l K J mi pc L (u :: st) sh I R c F := by
  intro D p e s m args below meth cd A H locs ls C hP hl hS
  have k := hk D p e s m args below meth cd A H locs ls C hP hl hS
  obtain ⟨hx, hb, -⟩ := C
  exact lv_pop hx hb hd hu k
theorem sim_i2b {x : Int32} (hd : decode (mB mi) pc = .ok (.i2b, 1)) (hk : MW l K J mi (pc + 1) L (.int x.toInt8.toInt32 :: st) sh I R c F) : MW l K J mi pc L (.int x :: st) sh I R c F := by
  intro D p e s m args below meth cd A H locs ls C hP hl hS
  have k := hk D p e s m args below meth cd A H locs ls C hP hl hS
  obtain ⟨hx, hb, -⟩ := C
  exact lv_i2b hx hb hd rfl k
theorem sim_ldcM {ix pos : Nat} (hd : decode (mB mi) pc = .ok (.ldc ix, 2)) (hf : lk2 cX (mC mi) ix = some (5, pos)) (hk : MW l K J mi (pc + 2) L (.ref (J nS) :: st) sh I R c F) : MW l K J mi pc L st sh I R c F := by
  intro D p e s m args below meth cd A H locs ls C hP hl hS
  have k := hk D p e s m args below meth cd A H locs ls C hP hl hS
  obtain ⟨hx, hb, hml, hr, hown, hts, hlk, hin, hex, hK, hB, hA, htr, hmi⟩ := C
  exact va_ldcM hx hb hown (hts _ (cx_at hf)) hB.2.2.2.2.2.2.2.2.2.2.2.2.1 hd k
theorem sim_areN {v : Option Nat} (hd : decode (mB mi) pc = .ok (.areturn, 1)) (hr0 : (∃ d, mRt mi = some (.object d)) ∨ ∃ d, mRt mi = some (.array d)) (h1 : c.1 ≤ mCe mi) (h2 : c.2 ≤ mSl mi) (hF : F (.inl (some (va_rf v))) sh I R) : MW l K J mi pc L [va_rf v] sh I R c F := by
  intro D p e s m args below meth cd A H locs ls C hP hl hS
  obtain ⟨hx, hb, hml, hr, hown, hts, hlk, hin, hex, hK, hB, hA, htr, hmi⟩ := C
  have hv : va_rf v = .null ∨ ∃ a, va_rf v = .ref a := by
    cases v with
    | none => exact Or.inl rfl
    | some a => exact Or.inr ⟨a, rfl⟩
  rcases hr0 with ⟨d, hr1⟩ | ⟨d, hr1⟩
  · exact W.widen h1 h2 (vx_ret (W.aret hx hb (by rw [hr, hr1]) (Or.inl ⟨d, rfl⟩) hv (fun t ht hW => qf_of hP hS hF ht hW.alike) hS.2.2 hd hlk))
  · exact W.widen h1 h2 (vx_ret (W.aret hx hb (by rw [hr, hr1]) (Or.inr ⟨d, rfl⟩) hv (fun t ht hW => qf_of hP hS hF ht hW.alike) hS.2.2 hd hlk))
/-- a field of an old Integer or String -/
theorem sim_getO {ix t k ty pos a : Nat} (hd : decode (mB mi) pc = .ok (.getfield ix, 3)) (hf : lk2 fX (mC mi) ix = some (t, k, ty, pos, 0)) (ho : (t = 12 ∧ k = 0 ∧ ty = 0 ∧ ∃ m, sh a = some (26, m)) ∨ (t = 14 ∧ ((k = 0 ∧ ty = 2) ∨ (k = 1 ∧ ty = 3)) ∧ ∃ m, sh a = some (28, m)))
    (hk : MW l K J mi (pc + 3) L ((if ty = 0 ∨ ty = 1 ∨ ty = 3 then .int (I a k) else va_rf (R a k)) :: st) sh I R c F) : MW l K J mi pc L (.ref a :: st) sh I R c F := by
  intro D p e s m args below meth cd A H locs ls C hP hl hS
  have kk := hk D p e s m args below meth cd A H locs ls C hP hl hS
  obtain ⟨hx, hb, hml, hr, hown, hts, hlk, hin, hex, hK, hB, hA, htr, hmi⟩ := C
  obtain ⟨r, hr0, hk0, hD, hfin, -, hl0⟩ := fx_at (args := args) hts hB hf
  have hl1 := hl0 rfl
  rcases ho with ⟨rfl, rfl, rfl, m0, hm0⟩ | ⟨rfl, hkt, m0, hm0⟩
  · cases hr0
    obtain ⟨cell, g1, g2⟩ := (hP a 26 m0 hm0).2.2.2.2.2.2 (by decide) (by decide)
    obtain ⟨-, cf, k9, i9, f9, e1, e2, e3, e4⟩ := g2.1 rfl
    exact W.getf hx hb hown hl1 e1 e2 g1 e3 e4 rfl rfl hd kk
  · cases hr0
    obtain ⟨cell, g1, g2⟩ := (hP a 28 m0 hm0).2.2.2.2.2.2 (by decide) (by decide)
    obtain ⟨-, ⟨cf, k9, i9, f9, e1, e2, e3, e4⟩, ⟨cf', k9', i9', f9', e1', e2', e3', e4'⟩⟩ := g2.2.1 rfl
    rcases hkt with ⟨rfl, rfl⟩ | ⟨rfl, rfl⟩
    · exact W.getf hx hb hown hl1 e1' e2' g1 e3' e4' rfl rfl hd kk
    · exact W.getf hx hb hown hl1 e1 e2 g1 e3 e4 rfl rfl hd kk
/-- the JDK's statics -/
def gxV (K : Nat → Nat) (q : Nat) : Value := if q = 2 then .ref (K nS) else if q = 3 then .int 127 else if q = 4 then .ref (K (nS + 1)) else if q = 5 then .ref (K (nS + 2)) else .ref (K (nS + 3))
theorem gX_ok : gX.all (fun q => match q.2.1 with
  | 2 => decide (lw_tb2[q.2.2]? = some (.fieldLink (cN (q.1 / 10000)) (q.1 % 10000) "java/util/ArrayList" "DEFAULTCAPACITY_EMPTY_ELEMENTDATA" "[Ljava/lang/Object;"))
  | 3 => decide (lw_tb2[q.2.2]? = some (.fieldLink (cN (q.1 / 10000)) (q.1 % 10000) "java/lang/Integer$IntegerCache" "high" "I"))
  | 4 => decide (lw_tb2[q.2.2]? = some (.fieldLink (cN (q.1 / 10000)) (q.1 % 10000) "java/lang/Integer$IntegerCache" "cache" "[Ljava/lang/Integer;"))
  | 5 => decide (lw_tb2[q.2.2]? = some (.fieldLink (cN (q.1 / 10000)) (q.1 % 10000) "java/lang/Integer" "DigitOnes" "[B"))
  | 6 => decide (lw_tb2[q.2.2]? = some (.fieldLink (cN (q.1 / 10000)) (q.1 % 10000) "java/lang/Integer" "DigitTens" "[B"))
  | _ => false) = true := by decide +kernel
theorem sim_getsX {ix q pos : Nat} (hd : decode (mB mi) pc = .ok (.getstatic ix, 3)) (hf : lk2 gX (mC mi) ix = some (q, pos)) (hk : MW l K J mi (pc + 3) L (gxV K q :: st) sh I R c F) : MW l K J mi pc L st sh I R c F := by
  intro D p e s m args below meth cd A H locs ls C hP hl hS
  have kk := hk D p e s m args below meth cd A H locs ls C hP hl hS
  obtain ⟨hx, hb, hml, hr, hown, hts, hlk, hin, hex, hK, hB, hA, htr, hmi⟩ := C
  obtain ⟨h1, h2, h3⟩ := lk2m hf
  have h4 := List.all_eq_true.mp gX_ok _ h1
  simp only [h2, h3] at h4
  obtain ⟨z2, z3, z4, z5, z6⟩ := hB.2.2.2.2.2.2.2.2.2.1
  split at h4
  · rw [decide_eq_true_eq] at h4
    exact va_gets hx hb z2 hS hown (hts _ (wAll_at h4 rfl)) (fun _ z => z) hd kk
  · rw [decide_eq_true_eq] at h4
    exact va_gets hx hb z3 hS hown (hts _ (wAll_at h4 rfl)) (fun _ z => z) hd kk
  · rw [decide_eq_true_eq] at h4
    exact va_gets hx hb z4 hS hown (hts _ (wAll_at h4 rfl)) (fun _ z => z) hd kk
  · rw [decide_eq_true_eq] at h4
    exact va_gets hx hb z5 hS hown (hts _ (wAll_at h4 rfl)) (fun _ z => z) hd kk
  · rw [decide_eq_true_eq] at h4
    exact va_gets hx hb z6 hS hown (hts _ (wAll_at h4 rfl)) (fun _ z => z) hd kk
  · cases h4
end SIM
/-- the cell of an array of ints or bytes or references, old or not, as far as reading goes -/
theorem ia_cell {D : va_G} {s : State} {A : Nat → Prop} {sh : HS} {I : HI} {R : HR} {H : Heap} {a t m : Nat} (hP : RP D s A sh I R H) (h : sh a = some (t, m)) (ht : t = 20 ∨ t = 22) : ∃ cell, H[a]? = some cell ∧ oT s .int m (fun j => .int (I a j)) cell := by
  obtain ⟨-, -, r1, r2, r3, r4, r5⟩ := hP a t m h
  rcases ht with rfl | rfl
  · obtain ⟨cA, g1, g2, g3⟩ := r2 rfl
    exact ⟨_, g1, g2 m _, fun z => (nomatch z), Nat.le_of_eq (arrV_size _ _ _).symm, (by first | (rw [arrV_size]; done) | (rw [arrV_size]; rfl)), fun j hj => arrV_read _ _ hj⟩
  · obtain ⟨cell, g1, g2⟩ := r5 (by decide) (by decide)
    exact ⟨cell, g1, g2.2.2.1 rfl⟩
theorem ba_cell {D : va_G} {s : State} {A : Nat → Prop} {sh : HS} {I : HI} {R : HR} {H : Heap} {a t m : Nat} (hP : RP D s A sh I R H) (h : sh a = some (t, m)) (ht : t = 21 ∨ t = 23) : ∃ cell, H[a]? = some cell ∧ oT s .byte m (fun j => .int (I a j)) cell := by
  obtain ⟨-, -, r1, r2, r3, r4, r5⟩ := hP a t m h
  rcases ht with rfl | rfl
  · obtain ⟨cA, g1, g2, g3, g4⟩ := r4 rfl
    exact ⟨_, g1, g2 m _, fun z => (nomatch z), Nat.le_of_eq (arrV_size _ _ _).symm, (by first | (rw [arrV_size]; done) | (rw [arrV_size]; rfl)), fun j hj => arrV_read _ _ hj⟩
  · obtain ⟨cell, g1, g2⟩ := r5 (by decide) (by decide)
    exact ⟨cell, g1, g2.2.2.2.1 rfl⟩
theorem ra_cell {D : va_G} {s : State} {A : Nat → Prop} {sh : HS} {I : HI} {R : HR} {H : Heap} {a t m : Nat} (hP : RP D s A sh I R H) (h : sh a = some (t, m)) (ht : 30 ≤ t ∨ t = 24 ∨ t = 25) : ∃ ty cell, H[a]? = some cell ∧ ty.isReference = true ∧ oT s ty m (fun j => va_rf (R a j)) cell := by
  obtain ⟨-, -, r1, r2, r3, r4, r5⟩ := hP a t m h
  rcases ht with ht | rfl | rfl
  · obtain ⟨cA, g1, g2, g3⟩ := r3 (t - 30) (by omega)
    exact ⟨_, _, g1, eTy_ref _, g2 m _, fun z => (nomatch z), Nat.le_of_eq (arrV_size _ _ _).symm, (by first | (rw [arrV_size]; done) | (rw [arrV_size]; rfl)), fun j hj => arrV_read _ _ hj⟩
  · obtain ⟨cell, g1, g2⟩ := r5 (by decide) (by decide)
    exact ⟨_, cell, g1, rfl, g2.2.2.2.2.1 rfl⟩
  · obtain ⟨cell, g1, g2⟩ := r5 (by decide) (by decide)
    exact ⟨_, cell, g1, rfl, g2.2.2.2.2.2 rfl⟩
def arK (t : Nat) : Prop := t = 20 ∨ t = 22 ∨ t = 21 ∨ t = 23 ∨ 30 ≤ t ∨ t = 24 ∨ t = 25
section SIM
variable {l : Launch} {K J : Nat → Nat} {mi pc n : Nat} {L : VL} {st : List Value} {sh : HS} {I : HI} {R : HR} {c : Nat × Nat} {F : VF} {ins : Instr}
theorem sim_alenG {a t m : Nat} (hd : decode (mB mi) pc = .ok (.arraylength, 1)) (h : sh a = some (t, m)) (ht : arK t) (hk : MW l K J mi (pc + 1) L (.int (nI m) :: st) sh I R c F) : MW l K J mi pc L (.ref a :: st) sh I R c F := by
  intro D p e s m0 args below meth cd A H locs ls C hP hl hS
  have kk := hk D p e s m0 args below meth cd A H locs ls C hP hl hS
  obtain ⟨hx, hb, hml, hr, hown, hts, hlk, hin, hex, hK, hB, hA, htr, hmi⟩ := C
  have hc : ∃ ty cell, H[a]? = some cell ∧ s.isArrayOf cell ty ∧ cell.slots.size.toInt32 = nI m := by
    rcases ht with ht | ht | ht | ht | ht | ht | ht
    · obtain ⟨cell, g1, g2, -, -, g3, -⟩ := ia_cell hP h (Or.inl ht); exact ⟨_, cell, g1, g2, g3⟩
    · obtain ⟨cell, g1, g2, -, -, g3, -⟩ := ia_cell hP h (Or.inr ht); exact ⟨_, cell, g1, g2, g3⟩
    · obtain ⟨cell, g1, g2, -, -, g3, -⟩ := ba_cell hP h (Or.inl ht); exact ⟨_, cell, g1, g2, g3⟩
    · obtain ⟨cell, g1, g2, -, -, g3, -⟩ := ba_cell hP h (Or.inr ht); exact ⟨_, cell, g1, g2, g3⟩
    · obtain ⟨ty, cell, g1, -, g2, -, -, g3, -⟩ := ra_cell hP h (Or.inl ht); exact ⟨_, cell, g1, g2, g3⟩
    · obtain ⟨ty, cell, g1, -, g2, -, -, g3, -⟩ := ra_cell hP h (Or.inr (Or.inl ht)); exact ⟨_, cell, g1, g2, g3⟩
    · obtain ⟨ty, cell, g1, -, g2, -, -, g3, -⟩ := ra_cell hP h (Or.inr (Or.inr ht)); exact ⟨_, cell, g1, g2, g3⟩
  obtain ⟨ty, cell, g1, g2, g3⟩ := hc
  exact W.alen hx hb g1 g2 g3 rfl rfl hd kk
theorem nin_of {i : Int32} {m z : Nat} (h : vp_in i m) (hz : m ≤ z) : ¬ (i < 0 ∨ z ≤ i.toNatClampNeg) := by
  have := vp_lt h
  intro q
  rcases q with q | q
  · exact h (Or.inl q)
  · omega
theorem sim_ialdG {a t m : Nat} {i : Int32} (hd : decode (mB mi) pc = .ok (.iaload, 1)) (h : sh a = some (t, m)) (ht : t = 20 ∨ t = 22) (hi : vp_in i m) (hk : MW l K J mi (pc + 1) L (.int (I a i.toNatClampNeg) :: st) sh I R c F) : MW l K J mi pc L (.int i :: .ref a :: st) sh I R c F := by
  intro D p e s m0 args below meth cd A H locs ls C hP hl hS
  have kk := hk D p e s m0 args below meth cd A H locs ls C hP hl hS
  obtain ⟨hx, hb, hml, hr, hown, hts, hlk, hin, hex, hK, hB, hA, htr, hmi⟩ := C
  obtain ⟨cell, g1, g2, g3, g4, g5, g6⟩ := ia_cell hP h ht
  exact W.iald (v := .int (I a i.toNatClampNeg)) hx hb g1 g2 g3 (nin_of hi g4) (g6 _ (vp_lt hi)) rfl rfl hd kk
theorem sim_baldG {a t m : Nat} {i : Int32} (hd : decode (mB mi) pc = .ok (.baload, 1)) (h : sh a = some (t, m)) (ht : t = 21 ∨ t = 23) (hi : vp_in i m) (hk : MW l K J mi (pc + 1) L (.int (I a i.toNatClampNeg) :: st) sh I R c F) : MW l K J mi pc L (.int i :: .ref a :: st) sh I R c F := by
  intro D p e s m0 args below meth cd A H locs ls C hP hl hS
  have kk := hk D p e s m0 args below meth cd A H locs ls C hP hl hS
  obtain ⟨hx, hb, hml, hr, hown, hts, hlk, hin, hex, hK, hB, hA, htr, hmi⟩ := C
  obtain ⟨cell, g1, g2, g3, g4, g5, g6⟩ := ba_cell hP h ht
  exact W.bald (v := .int (I a i.toNatClampNeg)) hx hb g1 g2 g3 (nin_of hi g4) (g6 _ (vp_lt hi)) rfl rfl hd kk
theorem sim_aaldG {a t m : Nat} {i : Int32} (hd : decode (mB mi) pc = .ok (.aaload, 1)) (h : sh a = some (t, m)) (ht : 30 ≤ t ∨ t = 24 ∨ t = 25) (hi : vp_in i m) (hk : MW l K J mi (pc + 1) L (va_rf (R a i.toNatClampNeg) :: st) sh I R c F) : MW l K J mi pc L (.int i :: .ref a :: st) sh I R c F := by
  intro D p e s m0 args below meth cd A H locs ls C hP hl hS
  have kk := hk D p e s m0 args below meth cd A H locs ls C hP hl hS
  obtain ⟨hx, hb, hml, hr, hown, hts, hlk, hin, hex, hK, hB, hA, htr, hmi⟩ := C
  obtain ⟨ty, cell, g1, g0, g2, g3, g4, g5, g6⟩ := ra_cell hP h ht
  exact W.aald (v := va_rf (R a i.toNatClampNeg)) (ty := ty) hx hb g1 g2 g0 g3 (nin_of hi g4) (g6 _ (vp_lt hi)) rfl rfl hd kk
theorem sim_bast {a m : Nat} {i x : Int32} (hd : decode (mB mi) pc = .ok (.bastore, 1)) (h : sh a = some (21, m)) (hi : vp_in i m) (hk : MW l K J mi (pc + 1) L st sh (u2 I a i.toNatClampNeg x.toInt8.toInt32) R c F) : MW l K J mi pc L (.int x :: .int i :: .ref a :: st) sh I R c F := by
  intro D p e s m0 args below meth cd A H locs ls C hP hl hS
  have kk := fun H1 locs1 => hk D p e s m0 args below meth cd A H1 locs1 ls C
  obtain ⟨hx, hb, hml, hr, hown, hts, hlk, hin, hex, hK, hB, hA, htr, hmi⟩ := C
  obtain ⟨haA, hasz, hrc⟩ := hP a 21 m h
  have haA := haA (by omega)
  obtain ⟨cA, g1, g2, g3, g4⟩ := hrc.2.2.2.1 rfl
  refine W.bast hx hb g1 (g2 m (fun j => .int (I a j))) (fun q => by cases q) (by rw [arrV_size]; exact hi) rfl rfl hd fun H' e1 e2 e3 => ?_
  refine kk H' _ (hP.put h e2 e3 (fun b j hb0 => u2_off hb0 j) (fun _ _ _ => rfl) ⟨fun z => by omega, fun z => by omega, fun u z => by omega, fun _ => ⟨cA, ?_, g2, g3, fun j hj => ?_⟩, fun z => by omega⟩) hl (hS.put e2 e3 haA)
  · rw [e1, arrV_store]
    congr 2
    funext q
    rw [u2_on]
    unfold updV
    by_cases hq : q = i.toNatClampNeg
    · rw [if_pos hq, if_pos hq, narrow_byte]
    · rw [if_neg hq, if_neg hq]
  · rw [u2_on]
    by_cases hq : j = i.toNatClampNeg
    · rw [if_pos hq, ← narrow_byte]
      exact fits_narrow_byte x
    · rw [if_neg hq]
      exact g4 j hj
theorem sim_aastO {a m : Nat} {v : Nat} {i : Int32} (hd : decode (mB mi) pc = .ok (.aastore, 1)) (h : sh a = some (46, m)) (hi : vp_in i m) (hv : okE sh v) (hk : MW l K J mi (pc + 1) L st sh I (u2 R a i.toNatClampNeg (some v)) c F) : MW l K J mi pc L (.ref v :: .int i :: .ref a :: st) sh I R c F := by
  intro D p e s m0 args below meth cd A H locs ls C hP hl hS
  have kk := fun H1 locs1 => hk D p e s m0 args below meth cd A H1 locs1 ls C
  obtain ⟨hx, hb, hml, hr, hown, hts, hlk, hin, hex, hK, hB, hA, htr, hmi⟩ := C
  obtain ⟨haA, hasz, hrc⟩ := hP a 46 m h
  have haA := haA (by omega)
  obtain ⟨cA, g1, g2, g3⟩ := hrc.2.2.1 16 rfl
  obtain ⟨cellV, q1, q2, ⟨kC, hkC⟩, q3⟩ := any_of hK hB hP hv
  have g4 := g3
  obtain ⟨kA, comp, k1, k2, k3, -⟩ := g3
  obtain ⟨kE, hkE, -⟩ := Vm.findClass_spec k3
  refine W.aast hx hb g1 (fun q h => by cases h) (fun h => by cases h) k1 k2 rfl hkE ⟨fun q => hi (Or.inl q), by rw [arrV_size]; exact vp_lt hi⟩ q1 (fun q h => by rw [h] at q2; cases q2) hkC (q3 _ k3) rfl rfl hd fun H' e1 e2 e3 => ?_
  refine kk H' _ (hP.put h e2 e3 (fun _ _ _ => rfl) (fun b j hb0 => u2_off hb0 j) ⟨fun z => by omega, fun z => by omega, fun u z => ⟨cA, ?_, by rw [show u = 16 by omega]; exact g2, by rw [show u = 16 by omega]; exact g4⟩, fun z => by omega, fun z => by omega⟩) hl (hS.put e2 e3 haA)
  rw [e1, arrV_store]
  congr 2
  funext q
  rw [u2_on]
  unfold updV
  by_cases hq : q = i.toNatClampNeg
  · rw [if_pos hq, if_pos hq]; rfl
  · rw [if_neg hq, if_neg hq]
end SIM
