theorem u2_off {α : Type} {f : Nat → Nat → α} {a k b : Nat} {x : α} (h : b ≠ a) (j : Nat) : u2 f a k x b j = f b j := by simp [u2, h]
theorem u2_on {α : Type} {f : Nat → Nat → α} {a k : Nat} {x : α} (j : Nat) : u2 f a k x a j = if j = k then x else f a j := by simp [u2]
theorem rcO_of {s : State} {t n b : Nat} {I I' : HI} {R R' : HR} {cell : Cell} (h : rcO s t n b I R cell) (hI : ∀ j, I' b j = I b j) (hR : ∀ j, R' b j = R b j) : rcO s t n b I' R' cell := by
  unfold rcO at h ⊢
  simp only [hI, hR]
  exact h
theorem oF_moved {s U : State} {o n d : String} {v : Value} {cell : Cell} (hvm : s.vm.Alike U.vm) (h : oF s o n d v cell) : oF U o n d v cell := by
  obtain ⟨cf, k, i, f, h1, h2⟩ := h
  obtain ⟨k', hi', -⟩ := State.fieldFound?_setVm hvm h1
  exact ⟨cf, k', i, f, hi', h2⟩
theorem oT_moved {s U : State} {ty : FieldType} {n : Nat} {f : Nat → Value} {cell : Cell} (hvm : s.vm.Alike U.vm) (h : oT s ty n f cell) : oT U ty n f cell := ⟨State.isArrayOf_alike hvm h.1, h.2⟩
theorem oO_moved {s U : State} {E : String} {cell : Cell} (hvm : s.vm.Alike U.vm) (h : oO s E cell) : oO U E cell := ⟨h.1, by rw [hvm.findClass]; exact h.2⟩
theorem rcO_moved {s U : State} {t n b : Nat} {I : HI} {R : HR} {cell : Cell} (hvm : s.vm.Alike U.vm) (h : rcO s t n b I R cell) : rcO U t n b I R cell := by
  obtain ⟨h1, h2, h3, h4, h5, h6⟩ := h
  exact ⟨fun z => ⟨oO_moved hvm (h1 z).1, oF_moved hvm (h1 z).2⟩, fun z => ⟨oO_moved hvm (h2 z).1, oF_moved hvm (h2 z).2.1, oF_moved hvm (h2 z).2.2⟩, fun z => oT_moved hvm (h3 z), fun z => oT_moved hvm (h4 z), fun z => oT_moved hvm (h5 z), fun z => oT_moved hvm (h6 z)⟩
theorem rc_off {D : va_G} {s : State} {t n b : Nat} {I I' : HI} {R R' : HR} {H H' : Heap} (h : rc D s t n b I R H) (hH : H'[b]? = H[b]?) (hI : ∀ j, I' b j = I b j) (hR : ∀ j, R' b j = R b j) : rc D s t n b I' R' H' := by
  obtain ⟨h1, h2, h3, h4, h5⟩ := h
  refine ⟨fun ht => ?_, fun ht => ?_, fun u hu => ?_, fun ht => ?_, fun ht ht2 => ?_⟩
  · obtain ⟨r, hr, ho⟩ := h1 ht
    exact ⟨r, hr, (ho.kept hH).to (fun k _ => by simp only [fv, hI, hR])⟩
  · obtain ⟨cA, g1, g2⟩ := h2 ht
    exact ⟨cA, by rw [hH, g1]; congr 2; funext j; rw [hI], g2⟩
  · obtain ⟨cA, g2, g3⟩ := h3 u hu
    exact ⟨cA, by rw [hH, g2]; congr 2; funext j; rw [hR], g3⟩
  · obtain ⟨cA, g1, g2, g3, g4⟩ := h4 ht
    exact ⟨cA, by rw [hH, g1]; congr 2; funext j; rw [hI], g2, g3, fun j hj => by rw [hI]; exact g4 j hj⟩
  · obtain ⟨cell, g1, g2⟩ := h5 ht ht2
    exact ⟨cell, by rw [hH, g1], rcO_of g2 hI hR⟩
theorem rc_moved {D : va_G} {s U : State} {t n b : Nat} {I : HI} {R : HR} {H : Heap} (hvm : s.vm.Alike U.vm) (h : rc D s t n b I R H) : rc D U t n b I R H := by
  obtain ⟨h1, h2, h3, h4, h5⟩ := h
  refine ⟨h1, fun ht => ?_, fun u hu => ?_, fun ht => ?_, fun ht ht2 => ?_⟩
  · obtain ⟨cA, g1, g2, g3⟩ := h2 ht
    exact ⟨cA, g1, arrOfT_moved hvm g2, g3.moved hvm⟩
  · obtain ⟨cA, g2, g3, g4⟩ := h3 u hu
    exact ⟨cA, g2, arrOfT_moved hvm g3, g4.moved hvm⟩
  · obtain ⟨cA, g1, g2, g3, g4⟩ := h4 ht
    exact ⟨cA, g1, arrOfT_moved hvm g2, g3.moved hvm, g4⟩
  · obtain ⟨cell, g1, g2⟩ := h5 ht ht2
    exact ⟨cell, g1, rcO_moved hvm g2⟩
theorem RP.moved {D : va_G} {s U : State} {A : Nat → Prop} {sh : HS} {I : HI} {R : HR} {H : Heap} (hvm : s.vm.Alike U.vm) (h : RP D s A sh I R H) : RP D U A sh I R H := fun a t n q => ⟨(h a t n q).1, (h a t n q).2.1, rc_moved hvm (h a t n q).2.2⟩
/-- one cell is written -/
theorem RP.put {D : va_G} {s : State} {A : Nat → Prop} {sh : HS} {I I' : HI} {R R' : HR} {H H' : Heap} {a t n : Nat} (h : RP D s A sh I R H) (ha : sh a = some (t, n)) (hz : H'.size = H.size) (oq : ∀ q : Nat, q ≠ a → H'[q]? = H[q]?) (hI : ∀ b j, b ≠ a → I' b j = I b j) (hR : ∀ b j, b ≠ a → R' b j = R b j) (hc : rc D s t n a I' R' H') : RP D s A sh I' R' H' := by
  intro b t' n' hb
  obtain ⟨h1, h2, h3⟩ := h b t' n' hb
  refine ⟨h1, by rw [hz]; exact h2, ?_⟩
  by_cases e : b = a
  · subst e
    cases ha.symm.trans hb
    exact hc
  · exact rc_off h3 (oq b e) (fun j => hI b j e) (fun j => hR b j e)
/-- every link to a field, however it is reached -/
def fxchk (q : Nat × Nat × Nat × Nat × Nat × Nat) : Bool := match vwCl[q.2.1]? with
  | some r => decide (q.2.2.1 < r.2.2) && (isD (r.2.1 q.2.2.1).2.2.1 q.2.2.2.1 && ((!(r.2.1 q.2.2.1).2.2.2 || decide ((r.2.1 q.2.2.1).1 = cN q.2.1)) && (match q.2.2.2.2.2 with
    | 0 => decide (lw_tb2[q.2.2.2.2.1]? = some (.fieldLink (cN (q.1 / 10000)) (q.1 % 10000) (r.2.1 q.2.2.1).1 (r.2.1 q.2.2.1).2.1 (r.2.1 q.2.2.1).2.2.1))
    | 1 => true
    | _ => decide (lw_tb2[q.2.2.2.2.1]? = some (.fieldLink (cN (q.1 / 10000)) (q.1 % 10000) (cN q.2.1) (r.2.1 q.2.2.1).2.1 (r.2.1 q.2.2.1).2.2.1)) && lw_tb2.contains (.sameField (cN q.2.1) (r.2.1 q.2.2.1).1 (r.2.1 q.2.2.1).2.1 (r.2.1 q.2.2.1).2.2.1))))
  | none => false
theorem fX_ok : fX.all fxchk = true := by decide +kernel
theorem fL_in : fL.all (fun q => decide (15 ≤ q.2.1) || decide (lk2 fX (q.1 / 10000) (q.1 % 10000) = some (q.2.1, q.2.2.1, q.2.2.2.1, q.2.2.2.2, 0))) = true := by decide +kernel
theorem fl_fx {c ix t k ty pos : Nat} (h : lk2 fL c ix = some (t, k, ty, pos)) (ht : t < 15) : lk2 fX c ix = some (t, k, ty, pos, 0) := by
  obtain ⟨h1, h2, h3⟩ := lk2m h
  have := List.all_eq_true.mp fL_in _ h1
  simp only [h2, h3, Bool.or_eq_true, decide_eq_true_eq] at this
  rcases this with q | q
  · omega
  · exact q
/-- how a field is linked from a method of class c -/
def LKD (s : State) (args : Array Value) (c ix : Nat) (r : vw_C) (k : Nat) : Prop :=
  ∃ ref : String, (∀ x, s.fieldFound? (r.2.1 k).1 (r.2.1 k).2.1 (r.2.1 k).2.2.1 = some x → s.fieldFound? ref (r.2.1 k).2.1 (r.2.1 k).2.2.1 = some x) ∧
    ((Cond.fieldLink (cN c) ix ref (r.2.1 k).2.1 (r.2.1 k).2.2.1).before args s = true ∨ ∃ host : String, (Cond.fieldLinkNest (cN c) ix ref (r.2.1 k).2.1 (r.2.1 k).2.2.1 host).before args s = true)
theorem fx_at {K J : Nat → Nat} {A : Nat → Prop} {s : State} {args : Array Value} {H : Heap} (hts : ∀ w ∈ wAll, w.before args s = true) (hB : WB K J A s H) {c ix t k ty pos md : Nat} (h : lk2 fX c ix = some (t, k, ty, pos, md)) : ∃ r, vwCl[t]? = some r ∧ k < r.2.2 ∧ isD (r.2.1 k).2.2.1 ty = true ∧ ((r.2.1 k).2.2.2 = true → (r.2.1 k).1 = cN t) ∧ LKD s args c ix r k ∧ (md = 0 → (Cond.fieldLink (cN c) ix (r.2.1 k).1 (r.2.1 k).2.1 (r.2.1 k).2.2.1).before args s = true) := by
  obtain ⟨h1, h2, h3⟩ := lk2m h
  have h4 := List.all_eq_true.mp fX_ok _ h1
  have hn : md = 1 → va_Nw (fxN (c * 10000 + ix, t, k, ty, pos, md)) s := fun z => hB.2.2.2.2.2.2.2.2.2.2.1 _ h1 z
  unfold fxN at hn
  unfold fxchk at h4
  simp only [h2, h3] at h4 hn
  cases hr : vwCl[t]? with
  | none => rw [hr] at h4; cases h4
  | some r =>
    rw [hr] at h4 hn
    simp only [Bool.and_eq_true, decide_eq_true_eq] at h4 hn
    obtain ⟨g1, g2, g3, g4⟩ := h4
    refine ⟨r, rfl, g1, g2, fun z => by simpa [z] using g3, ?_, fun z => ?_⟩
    · split at g4
      · simp only [decide_eq_true_eq] at g4
        exact ⟨_, fun _ z => z, Or.inl (hts _ (wAll_at g4 rfl))⟩
      · exact ⟨_, fun _ z => z, Or.inr ⟨_, va_Nw.use rfl (hn rfl)⟩⟩
      · simp only [Bool.and_eq_true, decide_eq_true_eq] at g4
        refine ⟨_, fun x hx => u_same (args := args) (hts _ ?_) x hx, Or.inl (hts _ (wAll_at g4.1 rfl))⟩
        exact List.mem_filter.mpr ⟨by simpa using g4.2, rfl⟩
    · subst z
      simp only [decide_eq_true_eq] at g4
      exact hts _ (wAll_at g4 rfl)
section SIM
variable {l : Launch} {K J : Nat → Nat} {mi pc n : Nat} {L : VL} {st : List Value} {sh : HS} {I : HI} {R : HR} {c : Nat × Nat} {F : VF} {ins : Instr}
theorem isD_fT {t k ty : Nat} {r : vw_C} (hr : vwCl[t]? = some r) (h : isD (r.2.1 k).2.2.1 ty = true) (a : Nat) (I : HI) (R : HR) : fv t k a I R = if ty = 0 ∨ ty = 1 ∨ ty = 3 then .int (I a k) else va_rf (R a k) := by
  unfold fv fT
  rw [hr]
  simp only [Option.map_some, Option.getD_some]
  unfold isD at h
  split at h
  · have e : (r.2.1 k).2.2.1 = "I" := by simpa using h
    simp [e]
  · have e : (r.2.1 k).2.2.1 = "Z" := by simpa using h
    simp [e]
  · have e : (r.2.1 k).2.2.1 = "B" := by simpa using h
    simp [e]
  · rename_i z0 z1 z3
    simp only [Bool.and_eq_true] at h
    rw [if_pos h.1, if_neg (fun q => by rcases q with q | q | q; exact z0 q; exact z1 q; exact z3 q)]
theorem sim_getG {ix t k ty pos md a : Nat} (hd : decode (mB mi) pc = .ok (.getfield ix, n)) (hn : n = iln (.getfield ix) n) (hf : lk2 fX (mC mi) ix = some (t, k, ty, pos, md)) (ho : ∃ m, sh a = some (t, m)) (ht : t < 15)
    (hk : MW l K J mi (pc + 3) L ((if ty = 0 ∨ ty = 1 ∨ ty = 3 then .int (I a k) else va_rf (R a k)) :: st) sh I R c F) : MW l K J mi pc L (.ref a :: st) sh I R c F := by
  intro D p e s m args below meth cd A H locs ls C hP hl hS
  have kk := hk D p e s m args below meth cd A H locs ls C hP hl hS
  obtain ⟨hx, hb, hml, hr, hown, hts, hlk, hin, hex, hK, hB, hA, htr, hmi⟩ := C
  simp only [iln] at hn
  subst hn
  obtain ⟨r, hr0, hk0, hD, hfin, ⟨ref, hsame, hlink⟩, -⟩ := fx_at (args := args) hts hB hf
  obtain ⟨m0, hm0⟩ := ho
  obtain ⟨r', hr', cell, q1, q2, q3, q4⟩ := (hP a t m0 hm0).2.2.1 ht
  cases hr0.symm.trans hr'
  obtain ⟨hSl, hfc, kC, hkC, hkind⟩ := hK.1 t r hr0
  obtain ⟨cf, kf, fi, f, hi, hsl⟩ := hSl k hk0
  have hst := (u_facts hfc hkC (u_lays hts (cls_inA hr0) hk0) hi).1
  have hv : cell.slots[f.slot]? = some (if ty = 0 ∨ ty = 1 ∨ ty = 3 then .int (I a k) else va_rf (R a k)) := by
    rw [hsl, q4 k hk0]
    exact congrArg some (isD_fT hr0 hD a I R)
  have hkn : cell.vm ≠ .unknown := by rw [q3]; exact fun h => by cases h
  rcases hlink with hl1 | ⟨host, hl1⟩
  · exact W.getf hx hb hown hl1 (hsame _ hi) hst q1 hkn hv rfl rfl hd kk
  · exact va_Wgetf hx hb hown hl1 (hsame _ hi) hst q1 hkn hv rfl rfl hd kk
theorem sim_get {ix t k ty pos a : Nat} (hd : decode (mB mi) pc = .ok (.getfield ix, n)) (hn : n = iln (.getfield ix) n) (hf : lk2 fL (mC mi) ix = some (t, k, ty, pos)) (ho : ∃ m, sh a = some (t, m)) (ht : t < 15) (hty : ty < 3)
    (hk : MW l K J mi (pc + 3) L ((if ty = 2 then va_rf (R a k) else .int (I a k)) :: st) sh I R c F) : MW l K J mi pc L (.ref a :: st) sh I R c F := by
  refine sim_getG hd hn (fl_fx hf ht) ho ht ?_
  by_cases h : ty = 2
  · rw [if_pos h] at hk
    rw [if_neg (by omega)]
    exact hk
  · rw [if_neg h] at hk
    rw [if_pos (by omega)]
    exact hk
theorem sim_putG {ix t k ty pos md a : Nat} {v : Value} {I' : HI} {R' : HR} (hd : decode (mB mi) pc = .ok (.putfield ix, n)) (hn : n = iln (.putfield ix) n) (hf : lk2 fX (mC mi) ix = some (t, k, ty, pos, md)) (ho : ∃ m, sh a = some (t, m)) (hfi : fF t k = true → (mK mi = 2 ∧ mC mi = t) ∧ md = 0) (ht : t < 15)
    (hv : (∃ x, v = .int x ∧ (ty = 0 ∨ ty = 1 ∨ ty = 3) ∧ (ty = 1 → x = 0 ∨ x = 1) ∧ (ty = 3 → x.toInt8.toInt32 = x) ∧ I' = u2 I a k x ∧ R' = R) ∨ (∃ x, v = va_rf x ∧ ty = 2 ∧ I' = I ∧ R' = u2 R a k x))
    (hk : MW l K J mi (pc + 3) L st sh I' R' c F) : MW l K J mi pc L (v :: .ref a :: st) sh I R c F := by
  intro D p e s m args below meth cd A H locs ls C hP hl hS
  have kk := fun H1 locs1 => hk D p e s m args below meth cd A H1 locs1 ls C
  obtain ⟨hx, hb, hml, hr, hown, hts, hlk, hin, hex, hK, hB, hA, htr, hmi⟩ := C
  simp only [iln] at hn
  subst hn
  obtain ⟨r, hr0, hk0, hD, hfin, ⟨ref, hsame, hlink⟩, hl0⟩ := fx_at (args := args) hts hB hf
  obtain ⟨m0, hm0⟩ := ho
  obtain ⟨haA, hasz, hrc⟩ := hP a t m0 hm0
  have haA := haA (by omega)
  obtain ⟨r', hr', cell, q1, q2, q3, q4⟩ := hrc.1 ht
  cases hr0.symm.trans hr'
  have hap := va_apart (own := cN (mC mi)) hts (cls_inA hr0) (tyc t) (tyc_ok hr0) (nmc_ok hr0) hK (by rw [hr0])
  obtain ⟨hSl, hfc, kC, hkC, hkind⟩ := hK.1 t r hr0
  obtain ⟨cf, kf, fi, f, hi, hsl⟩ := hSl k hk0
  have hpt := tyc_ok hr0 k hk0
  have hnf : narrow (tyc t k) v = v ∧ fits (tyc t k) v = true := by
    unfold isD at hD
    split at hD
    · have e : (r.2.1 k).2.2.1 = "I" := by simpa using hD
      rw [e, show parseFieldDescriptor "I" = some .int by decide +kernel] at hpt
      rw [← Option.some.inj hpt]
      rcases hv with ⟨x, rfl, -⟩ | ⟨x, rfl, h2, -⟩
      · exact ⟨rfl, rfl⟩
      · cases h2
    · have e : (r.2.1 k).2.2.1 = "Z" := by simpa using hD
      rw [e, show parseFieldDescriptor "Z" = some .boolean by decide +kernel] at hpt
      rw [← Option.some.inj hpt]
      rcases hv with ⟨x, rfl, -, h2, -⟩ | ⟨x, rfl, h2, -⟩
      · rcases h2 rfl with rfl | rfl <;> exact ⟨by decide +kernel, by decide +kernel⟩
      · cases h2
    · have e : (r.2.1 k).2.2.1 = "B" := by simpa using hD
      rw [e, show parseFieldDescriptor "B" = some .byte by decide +kernel] at hpt
      rw [← Option.some.inj hpt]
      rcases hv with ⟨x, rfl, -, -, h2, -⟩ | ⟨x, rfl, h2, -⟩
      · have h3 := h2 rfl
        have h4 : narrow .byte (.int x) = .int x := by rw [narrow_byte, h3]
        exact ⟨h4, by have := fits_narrow_byte x; rwa [h4] at this⟩
      · cases h2
    · rename_i z0 z1 z3
      simp only [Bool.and_eq_true, hpt] at hD
      rcases hv with ⟨x, rfl, h2, -⟩ | ⟨x, rfl, h2, -⟩
      · exfalso
        rcases h2 with q | q | q
        · exact z0 q
        · exact z1 q
        · exact z3 q
      · have h3 := hD.2
        revert h3
        generalize tyc t k = z
        intro h3
        cases x <;> cases z <;> first | exact ⟨rfl, rfl⟩ | cases h3
  have fin : ∀ H' : Heap, H'[a]? = some (cell.setSlot f.slot v) → H'.size = H.size → (∀ q, q ≠ a → H'[q]? = H[q]?) → W p l e (mRm mi) s m args below meth cd H' (locs ++ [⟨a, f.slot⟩]) c.1 c.2 (vx_MQ below (QF D A F) (XF D A F) args s (mCe mi) (mSl mi) A) (F0 m (pc + 3) ls st) := by
    intro H' e1 e2 e3
    rw [hsl] at e1
    refine kk H' _ (hP.put hm0 e2 e3 ?_ ?_ ⟨fun _ => ⟨r, hr0, t_OB.to (V := updV (fun j => fv t j a I R) k v) ⟨_, e1, q2, q3, t_set q4 hap hk0 v⟩ ?_⟩, fun z => by omega, fun u z => by omega, fun z => by omega, fun z z2 => by omega⟩) hl (hS.put e2 e3 haA)
    · intro b j hb0
      rcases hv with ⟨x, -, -, -, -, rfl, -⟩ | ⟨x, -, -, rfl, -⟩
      · exact u2_off hb0 j
      · rfl
    · intro b j hb0
      rcases hv with ⟨x, -, -, -, -, -, rfl⟩ | ⟨x, -, -, -, rfl⟩
      · rfl
      · exact u2_off hb0 j
    · intro j hj
      unfold updV
      by_cases ej : j = k
      · subst ej
        rw [if_pos rfl, isD_fT hr0 hD]
        rcases hv with ⟨x, rfl, h2, -, -, rfl, -⟩ | ⟨x, rfl, h2, -, rfl⟩
        · rw [if_pos h2, u2_on, if_pos rfl]
        · rw [if_neg (by omega), u2_on, if_pos rfl]
      · rw [if_neg ej]
        rcases hv with ⟨x, -, -, -, -, rfl, rfl⟩ | ⟨x, -, -, rfl, rfl⟩
        · simp only [fv, u2_on, if_neg ej]
        · simp only [fv, u2_on, if_neg ej]
  by_cases hfn : (r.2.1 k).2.2.2 = true
  · have hlay : (Cond.laysFinal r.1 (r.2.1 k).1 (r.2.1 k).2.1 (r.2.1 k).2.2.1).before args s = true := by
      have h := hts _ (cls_inA hr0 _ (u_in_lay hk0))
      unfold u_lay at h
      rwa [if_pos hfn] at h
    have hst := (u_facts hfc hkC (u_lays hts (cls_inA hr0) hk0) hi).1
    obtain ⟨⟨hk2, hc2⟩, hmd⟩ := hfi (by unfold fF; rw [hr0]; exact hfn)
    have hcf : m.cls = cf := by
      obtain ⟨_, _, c', _, _, _, -, -, hf', -, -, -, hown2, -⟩ := Cond.laysFinal_spec hlay
      have e1 : c' = cf := by have := hi.symm.trans hf'; simp at this; exact this.1.symm
      rw [hfin hfn, ← hc2] at hown2
      rw [← e1]; exact Option.some.inj (hown.symm.trans hown2)
    have h6 := u_fits hfc hkC hkind (Or.inr hlay) hi hpt hnf.1 hnf.2
    exact W.putFinK hx hb hown (hl0 hmd) hi hst hcf (hin hk2) (by rw [q2]; exact h6) q1 q3 (by rw [hsl]; exact k2_hasslot (q4 k hk0)) rfl rfl hd fin
  · have hlay : (Cond.lays r.1 (r.2.1 k).1 (r.2.1 k).2.1 (r.2.1 k).2.2.1).before args s = true := by
      have h := hts _ (cls_inA hr0 _ (u_in_lay hk0))
      unfold u_lay at h
      rwa [if_neg hfn] at h
    have hst := (u_facts hfc hkC (u_lays hts (cls_inA hr0) hk0) hi).1
    have h6 := u_store hfc hkC hkind hlay hi hpt hnf.1 hnf.2
    rcases hlink with hl1 | ⟨host, hl1⟩
    · exact W.putK hx hb (f := f) ⟨hown, hl1, ⟨_, _, _, hsame _ hi⟩, hst⟩ (by rw [q2]; exact h6) q1 q3 (by rw [hsl]; exact k2_hasslot (q4 k hk0)) rfl rfl hd fin
    · exact va_WputK hx hb (f := f) hown hl1 (hsame _ hi) hst (by rw [q2]; exact h6) q1 q3 (by rw [hsl]; exact k2_hasslot (q4 k hk0)) rfl rfl hd fin
theorem sim_put {ix t k ty pos a : Nat} {v : Value} {I' : HI} {R' : HR} (hd : decode (mB mi) pc = .ok (.putfield ix, n)) (hn : n = iln (.putfield ix) n) (hf : lk2 fL (mC mi) ix = some (t, k, ty, pos)) (ho : ∃ m, sh a = some (t, m)) (hfi : fF t k = true → mK mi = 2 ∧ mC mi = t) (ht : t < 15)
    (hv : (∃ x, v = .int x ∧ ty < 2 ∧ (ty = 1 → x = 0 ∨ x = 1) ∧ I' = u2 I a k x ∧ R' = R) ∨ (∃ x, v = .ref x ∧ ty = 2 ∧ I' = I ∧ R' = u2 R a k (some x)))
    (hk : MW l K J mi (pc + 3) L st sh I' R' c F) : MW l K J mi pc L (v :: .ref a :: st) sh I R c F := by
  refine sim_putG hd hn (fl_fx hf ht) ho (fun z => ⟨hfi z, rfl⟩) ht ?_ hk
  rcases hv with ⟨x, h1, h2, h3, h4, h5⟩ | ⟨x, h1, h2, h3, h4⟩
  · exact Or.inl ⟨x, h1, by omega, h3, fun z => by omega, h4, h5⟩
  · exact Or.inr ⟨some x, h1, h2, h3, h4⟩
end SIM
