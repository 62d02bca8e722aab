section SIM
variable {l : Launch} {K J : Nat → Nat} {mi pc n : Nat} {L : VL} {st : List Value} {sh : HS} {I : HI} {R : HR} {c : Nat × Nat} {F : VF} {ins : Instr}
theorem ac_byte : Cond.arrayClass .byte ∈ wAll := by
  refine List.mem_filter.mpr ⟨?_, rfl⟩
  have h : lw_tb2.contains (Cond.arrayClass .byte) = true := by decide +kernel
  simpa using h
theorem sim_newb {x : Int32} (hd : decode (mB mi) pc = .ok (.newarray .byte, 2)) (h0 : ¬ x < 0) (h3 : x.toNatClampNeg < 100000) (h1 : c.1 + 1 ≤ mCe mi) (h2 : c.2 + x.toNatClampNeg ≤ mSl mi)
    (hk : ∀ a, sh a = none → MW l K J mi (pc + 2) L (.ref a :: st) (u1 sh a (some (21, x.toNatClampNeg))) (u1 I a (fun _ => 0)) R (c.1 + 1, c.2 + x.toNatClampNeg) F) : MW l K J mi pc L (.int x :: st) sh I R c F := by
  intro D p e s m args below meth cd A H locs ls C hP hl hS
  have kk := fun H1 => hk H.size hP.fresh D p e s m args below meth cd A H1 locs ls C
  obtain ⟨hx, hb, hml, hr, hown, hts, hlk, hin, hex, hK, hB, hA, htr, hmi⟩ := C
  have hsz := hS.1
  refine va_newaK (atype := .byte) hx hb (hts _ ac_byte) rfl hd rfl h0 rfl (by show _ * 1 ≤ _; omega) h1 h2 rfl fun H1 cA e1 z1 o1 hAr hNm => ?_
  exact kk H1 (hP.push z1 o1 (fun b j hb0 => by rw [u1_off hb0]) (fun _ _ _ => rfl) (hA _ hsz) ⟨fun z => by omega, fun z => by omega, fun u z => by omega, fun _ => ⟨cA, by rw [e1, u1_on]; rfl, hAr, hNm, fun j _ => by rw [u1_on]; exact fits_narrow_byte 0⟩, fun z => by omega⟩) hl ⟨by omega, fun q g1 g2 => (o1 q (by omega)).trans (hS.2.1 q g1 g2), hS.2.2⟩
/-- new Object[x] (code 0 of the table), new int[x][] (code 1) -/
theorem sim_anewX {x : Int32} {ix v pos : Nat} (hd : decode (mB mi) pc = .ok (.anewarray ix, 3)) (hf : lk2 cX (mC mi) ix = some (v, pos)) (hv : v = 0 ∨ v = 1) (h0 : ¬ x < 0) (h3 : x.toNatClampNeg < 100000) (h1 : c.1 + 1 ≤ mCe mi) (h2 : c.2 + x.toNatClampNeg ≤ mSl mi)
    (hk : ∀ a, sh a = none → MW l K J mi (pc + 3) L (.ref a :: st) (u1 sh a (some (46 - v, x.toNatClampNeg))) I (u1 R a (fun _ => none)) (c.1 + 1, c.2 + x.toNatClampNeg) F) : MW l K J mi pc L (.int x :: st) sh I R c F := by
  intro D p e s m args below meth cd A H locs ls C hP hl hS
  have kk := fun H1 => hk H.size hP.fresh D p e s m args below meth cd A H1 locs ls C
  obtain ⟨hx, hb, hml, hr, hown, hts, hlk, hin, hex, hK, hB, hA, htr, hmi⟩ := C
  have hsz := hS.1
  have hl1 := hts _ (cx_at hf)
  rcases hv with rfl | rfl
  · refine W.anew (C := "java/lang/Object") hx hb hown hl1 (va_AO.use hB.2.2.2.2.2.2.2.2.2.2.2.2.2.2.1) rfl hd rfl h0 (by omega) h1 h2 fun cA kA comp f1 f2 f3 f4 => ?_
    generalize hH1 : H.push ({ cls := cA, slots := Array.replicate x.toNatClampNeg .null, vm := .none } : Cell) = H1
    have z1 : H1.size = H.size + 1 := by rw [← hH1, Array.size_push]
    have e1 : H1[H.size]? = some (arrV cA x.toNatClampNeg (fun _ => .null)) := by rw [← hH1, Array.getElem?_push_size, ← arrV_new]
    have o1 : ∀ q : Nat, q < H.size → H1[q]? = H[q]? := fun q hq => by rw [← hH1, Array.getElem?_push, if_neg (Nat.ne_of_lt hq)]
    have hAr : ArrOfT s cA (.object "java/lang/Object") := fun N z => ⟨(fun k h => by cases h), kA, f2, comp, f3⟩
    exact kk H1 (hP.push z1 o1 (fun _ _ _ => rfl) (fun b j hb0 => by rw [u1_off hb0]) (hA _ hsz) ⟨fun z => by omega, fun z => by omega, fun u z => ⟨cA, by rw [e1, u1_on]; rfl, by rw [show u = 16 by omega]; exact hAr, by rw [show u = 16 by omega]; exact ⟨kA, comp, f2, f3, f4, f1⟩⟩, fun z => by omega, fun z => by omega⟩) hl ⟨by omega, fun q g1 g2 => (o1 q (by omega)).trans (hS.2.1 q g1 g2), hS.2.2⟩
  · refine W.anewA (t := .int) hx hb hown hl1 (va_AOA.use hB.2.2.2.2.2.2.2.2.2.2.2.2.2.2.2.1) rfl hd rfl h0 (by omega) h1 h2 fun cA kA comp f1 f2 f3 f4 => ?_
    generalize hH1 : H.push ({ cls := cA, slots := Array.replicate x.toNatClampNeg .null, vm := .none } : Cell) = H1
    have z1 : H1.size = H.size + 1 := by rw [← hH1, Array.size_push]
    have e1 : H1[H.size]? = some (arrV cA x.toNatClampNeg (fun _ => .null)) := by rw [← hH1, Array.getElem?_push_size, ← arrV_new]
    have o1 : ∀ q : Nat, q < H.size → H1[q]? = H[q]? := fun q hq => by rw [← hH1, Array.getElem?_push, if_neg (Nat.ne_of_lt hq)]
    have hAr : ArrOfT s cA (.array .int) := fun N z => ⟨(fun k h => by cases h), kA, f2, comp, f3⟩
    exact kk H1 (hP.push z1 o1 (fun _ _ _ => rfl) (fun b j hb0 => by rw [u1_off hb0]) (hA _ hsz) ⟨fun z => by omega, fun z => by omega, fun u z => ⟨cA, by rw [e1, u1_on]; rfl, by rw [show u = 15 by omega]; exact hAr, by rw [show u = 15 by omega]; exact f1⟩, fun z => by omega, fun z => by omega⟩) hl ⟨by omega, fun q g1 g2 => (o1 q (by omega)).trans (hS.2.1 q g1 g2), hS.2.2⟩
/-- checkcast to int[] (1), Integer (3), byte[] (4) of what is one -/
theorem sim_cast {ix v pos a t m : Nat} (hd : decode (mB mi) pc = .ok (.checkcast ix, 3)) (hf : lk2 cX (mC mi) ix = some (v, pos)) (h : sh a = some (t, m)) (ht : (v = 1 ∧ t = 20) ∨ (v = 3 ∧ (t = 12 ∨ t = 26)) ∨ (v = 4 ∧ t = 21))
    (hk : MW l K J mi (pc + 3) L (.ref a :: st) sh I R c F) : MW l K J mi pc L (.ref a :: st) sh I R c F := by
  intro D p e s m0 args below meth cd A H locs ls C hP hl hS
  have kk := hk D p e s m0 args below meth cd A H locs ls C hP hl hS
  obtain ⟨hx, hb, hml, hr, hown, hts, hlk, hin, hex, hK, hB, hA, htr, hmi⟩ := C
  have hl1 := hts _ (cx_at hf)
  have hc : ∃ cell : Cell, H[a]? = some cell ∧ cell.vm.isStatics = false ∧ s.vm.findClass (cXn.getD v "") = some cell.cls := by
    obtain ⟨-, -, r1, r2, r3, r4, r5⟩ := hP a t m h
    rcases ht with ⟨rfl, rfl⟩ | ⟨rfl, ht⟩ | ⟨rfl, rfl⟩
    · obtain ⟨cA, g1, g2, g3⟩ := r2 rfl
      exact ⟨_, g1, rfl, g3⟩
    · rcases ht with rfl | rfl
      · obtain ⟨r, hr, cell, g1, g2, g3, -⟩ := r1 (by decide)
        refine ⟨cell, g1, by rw [g3]; rfl, ?_⟩
        have e := (hK.1 12 r hr).2.1
        rw [g2, ← e, ← cN_cls hr]
        rfl
      · obtain ⟨cell, g1, g2⟩ := r5 (by decide) (by decide)
        exact ⟨cell, g1, (g2.1 rfl).1.1, (g2.1 rfl).1.2⟩
    · obtain ⟨cA, g1, g2, g3, -⟩ := r4 rfl
      exact ⟨_, g1, rfl, g3⟩
  obtain ⟨cell, h1, h2, h3⟩ := hc
  intro T hT X
  obtain ⟨vm', X', st'⟩ := X.checkcastYes hx hown hl1 (by rw [hT]; exact h1) h2 h3 (va_asg _ _) (g := F0 m0 pc ls (.ref a :: st)) rfl rfl (by rw [hb]; exact hd)
  obtain ⟨t2, a1, b1⟩ := kk (T.setVm vm') hT X'
  exact ⟨t2, st' t2 a1, b1⟩
theorem m_cln : Cond.sameMethod "[B" "java/lang/Object" "clone" "()Ljava/lang/Object;" ∈ wAll ∧ Cond.native ⟨"java/lang/Object", "clone", "()Ljava/lang/Object;"⟩ ∈ wAll ∧ Cond.instanceMethod ⟨"java/lang/Object", "clone", "()Ljava/lang/Object;"⟩ ∈ wAll ∧ Cond.selects "[B" ⟨"[B", "clone", "()Ljava/lang/Object;"⟩ ⟨"java/lang/Object", "clone", "()Ljava/lang/Object;"⟩ ∈ wAll :=
  ⟨mem_of_contains (by decide +kernel) rfl, mem_of_contains (by decide +kernel) rfl, mem_of_contains (by decide +kernel) rfl, mem_of_contains (by decide +kernel) rfl⟩
theorem sim_clone {ix a m x y : Nat} (hd : decode (mB mi) pc = .ok (.invokevirtual ix, 3)) (hf : lk2 kL (mC mi) ix = some (1005, x, y)) (h : sh a = some (21, m)) (hg : VmG mi c st) (h1 : c.1 + 1 ≤ mCe mi) (h2 : c.2 + m ≤ mSl mi)
    (hk : ∀ b, sh b = none → MW l K J mi (pc + 3) L (.ref b :: st) (u1 sh b (some (21, m))) (u1 I b (I a)) R (c.1 + 1, c.2 + m) F) : MW l K J mi pc L (.ref a :: st) sh I R c F := by
  intro D p e s m0 args below meth cd A H locs ls C hP hl hS
  have kk := fun H1 => hk H.size hP.fresh D p e s m0 args below meth cd A H1 locs ls C
  obtain ⟨hx, hb, hml, hr, hown, hts, hlk, hin, hex, hK, hB, hA, htr, hmi⟩ := C
  obtain ⟨w1, w2, w3, w4, w5⟩ := hg
  unfold catS at w1
  obtain ⟨haA, hasz, hrc⟩ := hP a 21 m h
  obtain ⟨cA, g1, g2, g3, g4⟩ := hrc.2.2.2.1 rfl
  have hcl := hB.2.2.2.2.2.2.2.2.2.2.2.1 (.castable "[B" "java/lang/Cloneable") (by decide)
  obtain ⟨c0, t0', f1, f2, f3⟩ := Cond.castable_spec (va_Nw.use (A := args) rfl hcl)
  have hnm : s.vm.findClass "[B" = some cA := g3
  cases hnm.symm.trans f1
  have hsz := hS.1
  intro T hT X
  have hcellT : T.heap[a]? = some (arrV cA m (fun j => .int (I a j))) := by rw [hT]; exact g1
  obtain ⟨-, kA, hkA, comp, hkind⟩ := State.isArrayOf_alike X.warmed.alike (g2 0 (fun _ => .null))
  obtain ⟨-, kS, hkS, compS, hkindS⟩ := g2 0 (fun _ => .null)
  obtain ⟨vm', X', st'⟩ := X.cloneArray hx hown (hts _ (kl_sp hf (by decide))) (hts _ m_cln.1) (hts _ m_cln.2.1) (hts _ m_cln.2.2.1) (hts _ m_cln.2.2.2) (a := a) (cell := arrV cA m (fun j => .int (I a j))) hcellT (fun k h => by cases h) (fun h => by cases h) hnm f2 f3
    (fun i v hv => by
      have hi : i < m := by
        have := (Array.getElem?_eq_some_iff.mp hv).1
        rw [arrV_size] at this
        exact this
      have e2 := (arrV_read cA (fun j => .int (I a j)) hi).symm.trans hv
      cases e2
      have hk' : T.vm.classes[cA]? = some kA := hkA
      have h9 := g4 i hi
      show T.fitsSlot cA .none i _ = true
      simpa [State.fitsSlot, State.slotType?, hk', hkind] using h9)
    (g := F0 m0 pc ls (.ref a :: st)) rfl (by show ls.size = _; rw [hl.1, hml]) rfl (by rw [hb]; exact hd) w2 (by show 2 * 0 + _ + 14 ≤ mLo mi; omega) h1 (by rw [arrV_size]; exact h2) (hloader := Vm.clonesLoader_of_array hkS hkindS)
  have hcellE : ({ cls := (arrV cA m (fun j => .int (I a j))).cls, slots := (arrV cA m (fun j => .int (I a j))).slots } : Cell) = arrV cA m (fun j => .int (I a j)) := rfl
  rw [hcellE, arrV_size] at X'
  generalize hH1 : H.push (arrV cA m (fun j => .int (I a j))) = H1
  have z1 : H1.size = H.size + 1 := by rw [← hH1, Array.size_push]
  have e1 : H1[H.size]? = some (arrV cA m (fun j => .int (I a j))) := by rw [← hH1, Array.getElem?_push_size]
  have o1 : ∀ q : Nat, q < H.size → H1[q]? = H[q]? := fun q hq => by rw [← hH1, Array.getElem?_push, if_neg (Nat.ne_of_lt hq)]
  obtain ⟨t, b1, b2⟩ := kk H1 (hP.push z1 o1 (fun b j hb0 => by rw [u1_off hb0]) (fun _ _ _ => rfl) (hA _ hsz) ⟨fun z => by omega, fun z => by omega, fun u z => by omega, fun _ => ⟨cA, by rw [e1, u1_on], g2, g3, fun j hj => by rw [u1_on]; exact g4 j hj⟩, fun z => by omega⟩) hl ⟨by omega, fun q q1 q2 => (o1 q (by omega)).trans (hS.2.1 q q1 q2), hS.2.2⟩ _ (by rw [← hH1, ← hT]; rfl) X'
  refine ⟨t, st' t ?_, b2⟩
  rw [hcellE, hT]
  exact b1
end SIM
