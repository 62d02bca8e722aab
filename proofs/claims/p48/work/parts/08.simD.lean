section SIM
variable {l : Launch} {K J : Nat → Nat} {mi pc n : Nat} {L : VL} {st : List Value} {sh : HS} {I : HI} {R : HR} {c : Nat × Nat} {F : VF} {ins : Instr}
theorem vp_lt {i : Int32} {m : Nat} (h : vp_in i m) : i.toNatClampNeg < m := Nat.not_le.mp fun q => h (Or.inr q)
theorem eTy_ref (t : Nat) : (eTy t).isReference = true := by
  unfold eTy
  split
  · rfl
  · split
    · rfl
    · split <;> rfl
theorem sim_iald {a : Nat} {i : Int32} (hd : decode (mB mi) pc = .ok (.iaload, n)) (hn : n = iln .iaload n) (ho : ∃ m, sh a = some (20, m) ∧ vp_in i m) (hk : MW l K J mi (pc + n) L (.int (I a i.toNatClampNeg) :: st) sh I R c F) : MW l K J mi pc L (.int i :: .ref a :: st) sh I R c F := by
  intro D p e s m args below meth cd A H locs ls C hP hl hS
  have kk := hk D p e s m args below meth cd A H locs ls C hP hl hS
  obtain ⟨hx, hb, hml, hr, hown, hts, hlk, hin, hex, hK, hB, hA, htr, hmi⟩ := C
  simp only [iln] at hn
  subst hn
  obtain ⟨m0, hm0, hi⟩ := ho
  obtain ⟨cA, g1, g2, g3⟩ := (hP a 20 m0 hm0).2.2.2.1 rfl
  exact W.iald (v := .int (I a i.toNatClampNeg)) hx hb g1 (g2 m0 (fun j => .int (I a j))) (fun q => by cases q) (by rw [arrV_size]; exact hi) (by rw [arrV_read _ _ (vp_lt hi)]) rfl rfl hd kk
theorem sim_aald {a t : Nat} {i : Int32} (hd : decode (mB mi) pc = .ok (.aaload, n)) (hn : n = iln .aaload n) (ho : ∃ m, sh a = some (30 + t, m) ∧ vp_in i m) (hk : MW l K J mi (pc + n) L (va_rf (R a i.toNatClampNeg) :: st) sh I R c F) : MW l K J mi pc L (.int i :: .ref a :: st) sh I R c F := by
  intro D p e s m args below meth cd A H locs ls C hP hl hS
  have kk := hk D p e s m args below meth cd A H locs ls C hP hl hS
  obtain ⟨hx, hb, hml, hr, hown, hts, hlk, hin, hex, hK, hB, hA, htr, hmi⟩ := C
  simp only [iln] at hn
  subst hn
  obtain ⟨m0, hm0, hi⟩ := ho
  obtain ⟨cA, g1, g2, g3⟩ := (hP a (30 + t) m0 hm0).2.2.2.2.1 t rfl
  exact W.aald (v := va_rf (R a i.toNatClampNeg)) (ty := eTy t) hx hb g1 (g2 m0 (fun j => va_rf (R a j))) (eTy_ref t) (fun q => by cases q) (by rw [arrV_size]; exact hi) (by rw [arrV_read _ _ (vp_lt hi)]) rfl rfl hd kk
theorem sim_iast {a : Nat} {i x : Int32} (hd : decode (mB mi) pc = .ok (.iastore, n)) (hn : n = iln .iastore n) (ho : ∃ m, sh a = some (20, m) ∧ vp_in i m) (hk : MW l K J mi (pc + n) L st sh (u2 I a i.toNatClampNeg x) R c F) : MW l K J mi pc L (.int x :: .int i :: .ref a :: st) sh I R c F := by
  intro D p e s m args below meth cd A H locs ls C hP hl hS
  have kk := fun H1 locs1 => hk D p e s m args below meth cd A H1 locs1 ls C
  obtain ⟨hx, hb, hml, hr, hown, hts, hlk, hin, hex, hK, hB, hA, htr, hmi⟩ := C
  simp only [iln] at hn
  subst hn
  obtain ⟨m0, hm0, hi⟩ := ho
  obtain ⟨haA, hasz, hrc⟩ := hP a 20 m0 hm0
  obtain ⟨cA, g1, g2, g3⟩ := hrc.2.1 rfl
  refine W.iast hx hb g1 (g2 m0 (fun j => .int (I a j))) (fun q => by cases q) (by rw [arrV_size]; exact hi) rfl rfl hd fun H' e1 e2 e3 => ?_
  refine kk H' _ (hP.put hm0 e2 e3 (fun b j hb0 => u2_off hb0 j) (fun _ _ _ => rfl) ⟨fun z => by omega, fun _ => ⟨cA, ?_, g2, g3⟩, fun u z => by omega, fun z => by omega, fun z => by omega⟩) hl (hS.put e2 e3 (haA (by omega)))
  rw [e1, arrV_store]
  congr 2
  funext q
  rw [u2_on]
  unfold updV
  by_cases hq : q = i.toNatClampNeg
  · rw [if_pos hq, if_pos hq]
  · rw [if_neg hq, if_neg hq]
theorem eTy_cls {t : Nat} (h : t < 15) : eTy t = .object (cN t) := by
  unfold eTy
  rw [if_neg (by omega), if_neg (by omega), if_neg (by omega)]
theorem cN_clsB : ((List.range 15).all fun t => decide ((vwCl[t]?).map (fun r => r.1) = some (cN t))) = true := by decide +kernel
theorem cN_cls {t : Nat} {r : vw_C} (h : vwCl[t]? = some r) : cN t = r.1 := by
  have ht : t < 15 := (List.getElem?_eq_some_iff.mp h).1
  have h2 := List.all_eq_true.mp cN_clsB t (List.mem_range.mpr ht)
  rw [decide_eq_true_eq, h] at h2
  exact (Option.some.inj h2).symm
theorem sim_aast {a v t : Nat} {i : Int32} (hd : decode (mB mi) pc = .ok (.aastore, n)) (hn : n = iln .aastore n) (ho : ∃ m m2, sh a = some (30 + t, m) ∧ vp_in i m ∧ sh v = some (t, m2) ∧ t < 10) (hk : MW l K J mi (pc + n) L st sh I (u2 R a i.toNatClampNeg (some v)) c F) : MW l K J mi pc L (.ref v :: .int i :: .ref a :: st) sh I R c F := by
  intro D p e s m args below meth cd A H locs ls C hP hl hS
  have kk := fun H1 locs1 => hk D p e s m args below meth cd A H1 locs1 ls C
  obtain ⟨hx, hb, hml, hr, hown, hts, hlk, hin, hex, hK, hB, hA, htr, hmi⟩ := C
  simp only [iln] at hn
  subst hn
  obtain ⟨m0, m2, hm0, hi, hv, ht⟩ := ho
  obtain ⟨haA, hasz, hrc⟩ := hP a (30 + t) m0 hm0
  obtain ⟨cA, g1, g2, g3⟩ := hrc.2.2.1 t rfl
  obtain ⟨r, g0, cellV, q1, q2, q3, q4⟩ := (hP v t m2 hv).2.2.1 (by omega)
  have et : eTy t = .object r.1 := by rw [eTy_cls (by omega : t < 15), cN_cls g0]
  rw [et] at g2 g3
  have h0 : ¬ i < 0 := fun q => hi (Or.inl q)
  have hcls := (hK.1 t r g0).2
  have g4 := g3
  obtain ⟨kA, comp, k1, k2, k3, -⟩ := g3
  have hcomp : comp = D.1 t := Option.some.inj (k3.symm.trans hcls.1)
  subst hcomp
  obtain ⟨kC, hkC, -⟩ := hcls.2
  refine W.aast hx hb g1 (fun q h => by cases h) (fun h => by cases h) k1 k2 rfl hkC ⟨h0, by rw [arrV_size]; exact vp_lt hi⟩ q1 (fun q h => by rw [q3] at h; cases h) (by rw [q2]; exact hkC) (by rw [q2]; exact va_assign hcls) rfl rfl hd fun H' e1 e2 e3 => ?_
  refine kk H' _ (hP.put hm0 e2 e3 (fun _ _ _ => rfl) (fun b j hb0 => u2_off hb0 j) ⟨fun z => by omega, fun z => by omega, fun u z => ⟨cA, ?_, by rw [show u = t by omega, et]; exact g2, by rw [show u = t by omega, et]; exact g4⟩, fun z => by omega, fun z => by omega⟩) hl (hS.put e2 e3 (haA (by omega)))
  rw [e1, arrV_store]
  congr 2
  funext q
  rw [u2_on]
  unfold updV
  by_cases hq : q = i.toNatClampNeg
  · rw [if_pos hq, if_pos hq]; rfl
  · rw [if_neg hq, if_neg hq]
theorem u1_off {α : Type} {f : Nat → α} {a b : Nat} {x : α} (h : b ≠ a) : u1 f a x b = f b := by simp [u1, h]
theorem u1_on {α : Type} {f : Nat → α} {a : Nat} {x : α} : u1 f a x a = x := by simp [u1]
/-- one cell is made -/
theorem RP.push {D : va_G} {s : State} {A : Nat → Prop} {sh : HS} {I I' : HI} {R R' : HR} {H H' : Heap} {t n : Nat} (h : RP D s A sh I R H) (hz : H'.size = H.size + 1) (oq : ∀ q : Nat, q < H.size → H'[q]? = H[q]?) (hI : ∀ b j, b ≠ H.size → I' b j = I b j) (hR : ∀ b j, b ≠ H.size → R' b j = R b j) (hA : A H.size) (hc : rc D s t n H.size I' R' H') : RP D s A (u1 sh H.size (some (t, n))) I' R' H' := by
  intro b t' n' hb
  by_cases e : b = H.size
  · subst e
    rw [u1_on] at hb
    cases hb
    exact ⟨fun _ => hA, by omega, hc⟩
  · rw [u1_off e] at hb
    obtain ⟨h1, h2, h3⟩ := h b t' n' hb
    exact ⟨h1, by omega, rc_off h3 (oq b h2) (fun j => hI b j e) (fun j => hR b j e)⟩
theorem RP.fresh {D : va_G} {s : State} {A : Nat → Prop} {sh : HS} {I : HI} {R : HR} {H : Heap} (h : RP D s A sh I R H) : sh H.size = none := by
  cases e : sh H.size with
  | none => rfl
  | some q => exact absurd (h H.size q.1 q.2 e).2.1 (Nat.lt_irrefl _)
theorem nl_at {k ix t p1 p2 p3 : Nat} (h : lk2 nL k ix = some (t, p1, p2, p3)) : ∃ r, vwCl[t]? = some r ∧ Cond.classLink (cN k) ix r.1 ∈ wAll ∧ Cond.instantiable r.1 r.2.2 ∈ wAll ∧ Cond.initialized r.1 ∈ wAll := by
  obtain ⟨h1, h2, h3⟩ := lk2m h
  have h4 := List.all_eq_true.mp nL_ok _ h1
  unfold nchk at h4
  simp only [h2, h3] at h4
  cases hr : vwCl[t]? with
  | none => rw [hr] at h4; cases h4
  | some r =>
    rw [hr] at h4
    simp only [Bool.and_eq_true, decide_eq_true_eq] at h4
    exact ⟨r, rfl, wAll_at h4.1 rfl, wAll_at h4.2.1 rfl, wAll_at h4.2.2 rfl⟩
theorem dflt_okB : ((List.range 15).all fun t => (List.range (fN t)).all fun k => decide (defaultValue (tyc t k) = if fT t k = true then .null else .int 0)) = true := by decide +kernel
theorem sim_new {ix t p1 p2 p3 : Nat} (hd : decode (mB mi) pc = .ok (.new ix, n)) (hn : n = iln (.new ix) n) (hf : lk2 nL (mC mi) ix = some (t, p1, p2, p3)) (h1 : c.1 + 1 ≤ mCe mi) (h2 : c.2 + fN t ≤ mSl mi)
    (hk : ∀ a, sh a = none → MW l K J mi (pc + 3) L (.ref a :: st) (u1 sh a (some (t, fN t))) (u1 I a (fun _ => 0)) (u1 R a (fun _ => none)) (c.1 + 1, c.2 + fN t) F) : MW l K J mi pc L st sh I R c F := by
  intro D p e s m args below meth cd A H locs ls C hP hl hS
  have kk := fun H1 => hk H.size hP.fresh D p e s m args below meth cd A H1 locs ls C
  obtain ⟨hx, hb, hml, hr, hown, hts, hlk, hin, hex, hK, hB, hA, htr, hmi⟩ := C
  simp only [iln] at hn
  subst hn
  obtain ⟨r, hr0, hl1, hl2, hl3⟩ := nl_at hf
  have hKn := hK.1 t r hr0
  have hfn : fN t = r.2.2 := by unfold fN; rw [hr0]; rfl
  have ht : t < 15 := (List.getElem?_eq_some_iff.mp hr0).1
  refine W.newcK hx hb hown (hts _ hl1) (hts _ hl2) (hts _ hl3) rfl hd h1 (by rw [← hfn]; exact h2) hKn.2.1 rfl fun H1 kC hkC e1 z1 o1 => ?_
  rw [hfn] at kk
  have hsz := hS.1
  refine kk H1 (hP.push z1 o1 (fun b j hb0 => by rw [u1_off hb0]) (fun b j hb0 => by rw [u1_off hb0]) (hA _ hsz) ⟨fun _ => ⟨r, hr0, (u_born (tyc t) hts (cls_inA hr0) hKn hkC e1 (tyc_ok hr0)).to fun k hk0 => ?_⟩, fun z => by omega, fun u z => by omega, fun z => by omega, fun z => by omega⟩) hl ⟨by omega, fun q g1 g2 => (o1 q (by omega)).trans (hS.2.1 q g1 g2), hS.2.2⟩
  have h := List.all_eq_true.mp (List.all_eq_true.mp dflt_okB t (List.mem_range.mpr ht)) k (List.mem_range.mpr (by rw [hfn]; exact hk0))
  rw [decide_eq_true_eq] at h
  rw [h]
  unfold fv
  rw [u1_on, u1_on]
  rfl
theorem ac_int : Cond.arrayClass .int ∈ wAll := by
  refine List.mem_filter.mpr ⟨?_, rfl⟩
  have h : lw_tb2.contains (Cond.arrayClass .int) = true := by decide +kernel
  simpa using h
theorem sim_newa {x : Int32} (hd : decode (mB mi) pc = .ok (.newarray .int, n)) (hn : n = iln (.newarray .int) n) (h0 : ¬ x < 0) (h3 : x.toNatClampNeg < 100000) (h1 : c.1 + 1 ≤ mCe mi) (h2 : c.2 + x.toNatClampNeg ≤ mSl mi)
    (hk : ∀ a, sh a = none → MW l K J mi (pc + 2) L (.ref a :: st) (u1 sh a (some (20, x.toNatClampNeg))) (u1 I a (fun _ => 0)) R (c.1 + 1, c.2 + x.toNatClampNeg) F) : MW l K J mi pc L (.int x :: st) sh I R c F := by
  intro D p e s m args below meth cd A H locs ls C hP hl hS
  have kk := fun H1 => hk H.size hP.fresh D p e s m args below meth cd A H1 locs ls C
  obtain ⟨hx, hb, hml, hr, hown, hts, hlk, hin, hex, hK, hB, hA, htr, hmi⟩ := C
  simp only [iln] at hn
  subst hn
  have hsz := hS.1
  refine va_newaK (atype := .int) hx hb (hts _ ac_int) rfl hd rfl h0 rfl (by show _ * 4 ≤ _; omega) h1 h2 rfl fun H1 cA e1 z1 o1 hAr hNm => ?_
  exact kk H1 (hP.push z1 o1 (fun b j hb0 => by rw [u1_off hb0]) (fun _ _ _ => rfl) (hA _ hsz) ⟨fun z => by omega, fun _ => ⟨cA, by rw [e1, u1_on]; rfl, hAr, hNm⟩, fun u z => by omega, fun z => by omega, fun z => by omega⟩) hl ⟨by omega, fun q g1 g2 => (o1 q (by omega)).trans (hS.2.1 q g1 g2), hS.2.2⟩
theorem sim_anew {x : Int32} {ix t p1 p2 p3 : Nat} (hd : decode (mB mi) pc = .ok (.anewarray ix, n)) (hn : n = iln (.anewarray ix) n) (hf : lk2 nL (mC mi) ix = some (t, p1, p2, p3)) (hao : t = 0 ∨ t = 5 ∨ t = 7) (h0 : ¬ x < 0) (h3 : x.toNatClampNeg < 100000) (h1 : c.1 + 1 ≤ mCe mi) (h2 : c.2 + x.toNatClampNeg ≤ mSl mi)
    (hk : ∀ a, sh a = none → MW l K J mi (pc + 3) L (.ref a :: st) (u1 sh a (some (30 + t, x.toNatClampNeg))) I (u1 R a (fun _ => none)) (c.1 + 1, c.2 + x.toNatClampNeg) F) : MW l K J mi pc L (.int x :: st) sh I R c F := by
  intro D p e s m args below meth cd A H locs ls C hP hl hS
  have kk := fun H1 => hk H.size hP.fresh D p e s m args below meth cd A H1 locs ls C
  obtain ⟨hx, hb, hml, hr, hown, hts, hlk, hin, hex, hK, hB, hA, htr, hmi⟩ := C
  simp only [iln] at hn
  subst hn
  have hsz := hS.1
  obtain ⟨r, hr0, hl1, hl2, hl3⟩ := nl_at hf
  have ha9 : r.1 ∈ aN := by rcases hao with rfl | rfl | rfl <;> (cases hr0; decide)
  refine W.anew hx hb hown (hts _ hl1) (va_AO.use (hB.2.2.2.2.2.2.2.2.1 r.1 ha9)) rfl hd rfl h0 (by omega) h1 h2 fun cA kA comp f1 f2 f3 f4 => ?_
  generalize hH1 : H.push ({ cls := cA, slots := Array.replicate x.toNatClampNeg .null, vm := .none } : Cell) = H1
  have z1 : H1.size = H.size + 1 := by rw [← hH1, Array.size_push]
  have e1 : H1[H.size]? = some (arrV cA x.toNatClampNeg (fun _ => .null)) := by rw [← hH1, Array.getElem?_push_size, ← arrV_new]
  have o1 : ∀ q : Nat, q < H.size → H1[q]? = H[q]? := fun q hq => by rw [← hH1, Array.getElem?_push, if_neg (Nat.ne_of_lt hq)]
  have et : eTy t = .object r.1 := by rw [eTy_cls (by rcases hao with rfl | rfl | rfl <;> decide), cN_cls hr0]
  have hAr : ArrOfT s cA (.object r.1) := fun N z => ⟨(fun k h => by cases h), kA, f2, comp, f3⟩
  exact kk H1 (hP.push z1 o1 (fun _ _ _ => rfl) (fun b j hb0 => by rw [u1_off hb0]) (hA _ hsz) ⟨fun z => by omega, fun z => by omega, fun u z => ⟨cA, by rw [e1, u1_on]; rfl, by rw [show u = t by omega, et]; exact hAr, by rw [show u = t by omega, et]; exact ⟨kA, comp, f2, f3, f4, f1⟩⟩, fun z => by omega, fun z => by omega⟩) hl ⟨by omega, fun q g1 g2 => (o1 q (by omega)).trans (hS.2.1 q g1 g2), hS.2.2⟩
end SIM
