def EXN : List String := ["java/lang/RuntimeException", "java/lang/Exception"]
def tchk (q : Nat × Nat × Nat × Nat × Bool × Nat × String) : Bool := match q with
  | (key, ik, is, ic, wide, si, E) =>
    [decide (key / 1000 < mT.length), decide (mC (key / 1000) = 8), decide (decode (mB (key / 1000)) (key % 1000) = .ok (.new ik, 3)), decide (decode (mB (key / 1000)) (key % 1000 + 3) = .ok (.dup, 1)),
     (if wide then decide (decode (mB (key / 1000)) (key % 1000 + 4) = .ok (.ldc_w is, 3)) && (decide (decode (mB (key / 1000)) (key % 1000 + 7) = .ok (.invokespecial ic, 3)) && decide (decode (mB (key / 1000)) (key % 1000 + 10) = .ok (.athrow, 1)))
      else decide (decode (mB (key / 1000)) (key % 1000 + 4) = .ok (.ldc is, 2)) && (decide (decode (mB (key / 1000)) (key % 1000 + 6) = .ok (.invokespecial ic, 3)) && decide (decode (mB (key / 1000)) (key % 1000 + 9) = .ok (.athrow, 1)))),
     sL.any (fun z => z.1 == 80000 + is && z.2.1 == si), decide (is < 10000), lw_tb2.contains (.classLink (cN 8) ik E), lw_tb2.contains (.initialized E), decide (6 ≤ mFr (key / 1000)), decide (88 ≤ mLo (key / 1000)),
     ((ic, E) == (74, "java/lang/IllegalStateException") || (ic, E) == (84, "java/lang/IllegalArgumentException")) || ((ic, E) == (288, "java/util/NoSuchElementException") && wide)].all id
theorem tX_ok : tX.all tchk = true := by decide +kernel
def tw_ok (ic : Nat) (E : String) : Bool := Bundle.fit E && ((vx_atS (cN 8) ic E EXN).all (fun w => vx_ot w && ((goodWord w && lw_tb2.contains w) || nW.contains w)) && (vx_ot (.initialized E)))
theorem tw_1 : tw_ok 74 "java/lang/IllegalStateException" = true := by decide +kernel
theorem tw_2 : tw_ok 84 "java/lang/IllegalArgumentException" = true := by decide +kernel
theorem tw_names : ∀ n ∈ EXN, Bundle.fit n = true := by decide +kernel
theorem tw_3 : ((nAtoms (cN 8) 288 "java/util/NoSuchElementException" 13 prog_46_method_4_code EXN).filter vx_no).all (fun w => vx_ot w && ((goodWord w && lw_tb2.contains w) || nW.contains w)) = true := by decide +kernel
theorem nW_tab : ∀ w ∈ nW, w.onTables = true := by decide +kernel
section SIM
variable {l : Launch} {K J : Nat → Nat} {mi pc n : Nat} {L : VL} {st : List Value} {sh : HS} {I : HI} {R : HR} {c : Nat × Nat} {F : VF} {ins : Instr}
theorem nse_throw {p : Program} {e : Env} {Rm : Room} {s : State} {m : MethodId} {args : Array Value} {below : List Frame} {meth : Method} {cd : Code} {H : Heap} {locs : List Loc} {cells slots : Nat} {ls : Array Slot} {rest : List Value} {Qc : Array Value → State → Outcome → State → Prop} {XC : String → State → State → Prop} {free : Addr → Prop} {cc : ByteArray}
    (hexec : p.tables.exec = Jvm.exec) (hb : cd.code = cc) (hl : l.stackTraces = false) {text : String} {ik is mc ms sa : Nat} {A : Nat → Prop}
    (hown : s.vm.findClass (cN 8) = some m.cls) (hk : (Cond.classLink (cN 8) ik "java/util/NoSuchElementException").before args s = true) (hini : (Cond.initialized "java/util/NoSuchElementException").before args s = true) (hstr : vk_R (cN 8) is text sa s) (hts : ∀ w ∈ wAll, w.before args s = true) (hnw : ∀ w ∈ nW, va_Nw w s)
    (hU : vx_Zq Bundle.tN "UNASSIGNED_STACK" Bundle.steD A s s.heap) (hN : vx_Zq Bundle.tN "SUPPRESSED_SENTINEL" Bundle.listD A s s.heap) (hS : va_S A s.heap H locs) (hsize : ls.size = cd.maxLocals)
    (d0 : decode cc pc = .ok (.new ik, 3)) (d3 : decode cc (pc + 3) = .ok (.dup, 1)) (d4 : decode cc (pc + 4) = .ok (.ldc_w is, 3)) (d7 : decode cc (pc + 7) = .ok (.invokespecial 288, 3)) (d10 : decode cc (pc + 10) = .ok (.athrow, 1))
    (hout : ∀ x ∈ cd.exceptionTable.toList, covers x (pc + 10) = false)
    (hRframes : EXN.length + 3 < Rm.frames) (hRlocals : (rest.map fun v => v.category).sum + (13 * (EXN.length + 1) + 43) ≤ Rm.locals) (hRcells : cells + 1 ≤ Rm.cells) (hRslots : slots + 6 ≤ Rm.slots) (hlocks : meth.locks = false)
    (hx : ∀ t : State, s.vm.Alike t.vm → H.size ≤ t.heap.size → (∀ q : Nat, q < H.size → t.heap[q]? = H[q]?) → XC "java/util/NoSuchElementException" s t)
    (hf : ∀ z ∈ locs, free z.base) (hc : cells + 1 ≤ mc) (hs : slots + 6 ≤ ms) :
    W p l e Rm s m args below meth cd H locs cells slots (vx_MQ below Qc XC args s mc ms free) (F0 m pc ls rest) := by
  have hat : ∀ w ∈ (nAtoms (cN 8) 288 "java/util/NoSuchElementException" 13 prog_46_method_4_code EXN).filter vx_no, w.before args s = true := by
    intro w hw
    have h0 := List.all_eq_true.mp tw_3 w hw
    simp only [Bool.and_eq_true, Bool.or_eq_true] at h0
    rcases h0.2 with ⟨q1, q2⟩ | q2
    · exact hts _ (mem_of_contains q2 q1)
    · have q3 : w ∈ nW := by simpa using q2
      exact va_Nw.use (nW_tab w q3) (hnw w q3)
  have hgood : ∀ w ∈ Cond.classLink (cN 8) ik "java/util/NoSuchElementException" :: Cond.initialized "java/util/NoSuchElementException" :: (nAtoms (cN 8) 288 "java/util/NoSuchElementException" 13 prog_46_method_4_code EXN).filter vx_no, vx_ot w = true := by
    intro w hw
    rcases List.mem_cons.mp hw with rfl | hw
    · rfl
    · rcases List.mem_cons.mp hw with rfl | hw
      · rfl
      · have h0 := List.all_eq_true.mp tw_3 w hw
        simp only [Bool.and_eq_true] at h0
        exact h0.1
  exact nx_throw (own := cN 8) (cls := "java/util/NoSuchElementException") (names := EXN) (ix := 13) (rx := prog_46_method_4_code) hexec hb hl (by decide +kernel) (by decide +kernel) (by decide +kernel) (by decide +kernel) hown (by decide +kernel) tw_names hk hini hstr hat hgood hU hN hS hsize d0 d3 d4 d7 d10 hout hRframes hRlocals hRcells hRslots hlocks hx hf hc hs
theorem sim_thr {E : String} (h : (if pc < 1000 then tL.lookup (mi * 1000 + pc) else none) = some E) (h1 : c.1 + 1 ≤ mCe mi) (h2 : c.2 + 6 ≤ mSl mi) (h3 : catS st ≤ 6) (hF : F (.inr E) sh I R) : MW l K J mi pc L st sh I R c F := by
  intro D p e s m args below meth cd A H locs ls C hP hl hS
  obtain ⟨hx, hb, hml, hr, hown, hts, hlk, hin, hex, hK, hB, hA, htr, hmi⟩ := C
  have hpc : pc < 1000 := by
    by_cases q : pc < 1000
    · exact q
    · rw [if_neg q] at h; cases h
  rw [if_pos hpc] at h
  have hm := lkm _ _ _ h
  unfold tL at hm
  obtain ⟨q, hq, he⟩ := List.mem_map.mp hm
  have ht := List.all_eq_true.mp tX_ok q hq
  obtain ⟨key, ik, is, ic, wide, si, E'⟩ := q
  obtain ⟨rfl, rfl⟩ := Prod.mk.inj he
  unfold tchk at ht
  have k1 : (mi * 1000 + pc) / 1000 = mi := by omega
  have k2 : (mi * 1000 + pc) % 1000 = pc := by omega
  simp only [k1, k2, List.all_cons, List.all_nil, id_eq, Bool.and_eq_true, decide_eq_true_eq] at ht
  obtain ⟨-, g1, g2, g3, g4, g5, g6, g7, g8, g9, g10, g11, -⟩ := ht
  have hown8 : s.vm.findClass (cN 8) = some m.cls := by rw [← g1]; exact hown
  obtain ⟨zz, hz1, hz2⟩ := List.any_eq_true.mp g5
  simp only [Bool.and_eq_true, beq_iff_eq] at hz2
  have hstr := hB.2.1 zz hz1
  rw [hz2.1, show (80000 + is) / 10000 = 8 by omega, show (80000 + is) % 10000 = is by omega] at hstr
  have hU := hB.2.2.2.2.1
  have hN := hB.2.2.2.2.2.1
  have hcl : (Cond.classLink (cN 8) ik E').before args s = true := hts _ (mem_of_contains g7 rfl)
  have hini : (Cond.initialized E').before args s = true := hts _ (mem_of_contains g8 rfl)
  have hout : ∀ z, ∀ x ∈ cd.exceptionTable.toList, covers x z = false := fun _ x hx0 => (hex x hx0).elim
  have fr : EXN.length + 3 < (mRm mi).frames := by show 5 < mFr mi; omega
  have lo1 : (st.map fun v => v.category).sum + (13 * (EXN.length + 1) + 43) ≤ (mRm mi).locals := by
    show (st.map fun v => v.category).sum + 82 ≤ mLo mi
    unfold catS at h3
    omega
  have hxx : ∀ t : State, s.vm.Alike t.vm → H.size ≤ t.heap.size → (∀ q : Nat, q < H.size → t.heap[q]? = H[q]?) → XF D A F E' s t := by
    intro t hv hsz ho
    refine ⟨sh, I, R, hF, ?_, ⟨Nat.le_trans hS.1 hsz, fun q q1 q2 => (ho q (Nat.lt_of_lt_of_le q1 hS.1)).trans (hS.2.1 q q1 q2)⟩⟩
    intro b t' n' hb0
    obtain ⟨r1, r2, r3⟩ := hP b t' n' hb0
    exact ⟨r1, Nat.lt_of_lt_of_le r2 hsz, rc_moved hv (rc_off r3 (ho b r2) (fun _ => rfl) (fun _ => rfl))⟩
  by_cases hE : (ic, E') = (288, "java/util/NoSuchElementException")
  · obtain ⟨rfl, rfl⟩ := Prod.mk.inj hE
    have hwd : wide = true := by
      simp only [Bool.or_eq_true, Bool.and_eq_true, beq_iff_eq, Prod.mk.injEq] at g11
      rcases g11 with (⟨z, -⟩ | ⟨z, -⟩) | ⟨-, z⟩
      · cases z
      · cases z
      · exact z
    subst hwd
    simp only [if_true, Bool.and_eq_true, decide_eq_true_eq] at g4
    exact nse_throw hx hb htr hown8 hcl hini hstr hts hB.2.2.1 hU hN hS (by rw [hl.1, hml]) g2 g3 g4.1 g4.2.1 g4.2.2 (hout _) fr lo1 h1 h2 hlk hxx hS.2.2 h1 h2
  have hw : tw_ok ic E' = true := by
    simp only [Bool.or_eq_true, Bool.and_eq_true, beq_iff_eq, Prod.mk.injEq] at g11
    rcases g11 with (⟨rfl, rfl⟩ | ⟨rfl, rfl⟩) | ⟨⟨rfl, rfl⟩, -⟩
    · exact tw_1
    · exact tw_2
    · exact absurd rfl hE
  unfold tw_ok at hw
  simp only [Bool.and_eq_true] at hw
  obtain ⟨w1, w2, w3⟩ := hw
  have hat : ∀ w ∈ vx_atS (cN 8) ic E' EXN, w.before args s = true := by
    intro w hw
    have := List.all_eq_true.mp w2 w hw
    simp only [Bool.and_eq_true, Bool.or_eq_true] at this
    rcases this.2 with ⟨q1, q2⟩ | q2
    · exact hts _ (mem_of_contains q2 q1)
    · have q3 : w ∈ nW := by simpa using q2
      exact va_Nw.use (nW_tab w q3) (hB.2.2.1 w q3)
  have hgood : ∀ w ∈ Cond.classLink (cN 8) ik E' :: Cond.initialized E' :: vx_atS (cN 8) ic E' EXN, vx_ot w = true := by
    intro w hw
    rcases List.mem_cons.mp hw with rfl | hw
    · rfl
    · rcases List.mem_cons.mp hw with rfl | hw
      · exact w3
      · have := List.all_eq_true.mp w2 w hw
        simp only [Bool.and_eq_true] at this
        exact this.1
  cases wide with
  | true =>
    simp only [if_true, Bool.and_eq_true, decide_eq_true_eq] at g4
    exact vx_throwSW (names := EXN) hx hb htr hown8 w1 tw_names hcl hini hstr hat hgood hU hN hS (by rw [hl.1, hml]) g2 g3 g4.1 g4.2.1 g4.2.2 (hout _) fr lo1 h1 h2 hlk hxx hS.2.2 h1 h2
  | false =>
    simp only [Bool.false_eq_true, if_false, Bool.and_eq_true, decide_eq_true_eq] at g4
    exact vx_throwS (names := EXN) hx hb htr hown8 w1 tw_names hcl hini hstr hat hgood hU hN hS (by rw [hl.1, hml]) g2 g3 g4.1 g4.2.1 g4.2.2 (hout _) fr lo1 h1 h2 hlk hxx hS.2.2 h1 h2
theorem qf_of {D : va_G} {s t : State} {A : Nat → Prop} {H : Heap} {locs : List Loc} {args : Array Value} {v : Option Value} (hP : RP D s A sh I R H) (hS : va_S A s.heap H locs) (hF : F (.inl v) sh I R) (ht : t.heap = H) (hw : s.vm.Alike t.vm) : QF D A F args s (.returned v) t := by
  refine ⟨v, sh, I, R, rfl, hF, ?_, hS.F ht⟩
  rw [ht]
  exact RP.moved hw hP
theorem sim_vret (hd : decode (mB mi) pc = .ok (.return_, n)) (hn : n = iln .return_ n) (hr0 : mRt mi = none) (h1 : c.1 ≤ mCe mi) (h2 : c.2 ≤ mSl mi) (hF : F (.inl none) sh I R) : MW l K J mi pc L [] sh I R c F := by
  intro D p e s m args below meth cd A H locs ls C hP hl hS
  obtain ⟨hx, hb, hml, hr, hown, hts, hlk, hin, hex, hK, hB, hA, htr, hmi⟩ := C
  simp only [iln] at hn
  subst hn
  exact W.widen h1 h2 (vx_ret (W.vret hx hb (by rw [hr, hr0]) (fun t ht hW => qf_of hP hS hF ht hW.alike) hS.2.2 hd hlk))
theorem sim_iret {x : Int32} (hd : decode (mB mi) pc = .ok (.ireturn, n)) (hn : n = iln .ireturn n) (hr0 : ∃ ty, mRt mi = some ty ∧ narrow ty (.int x) = .int x) (h1 : c.1 ≤ mCe mi) (h2 : c.2 ≤ mSl mi) (hF : F (.inl (some (.int x))) sh I R) : MW l K J mi pc L [.int x] sh I R c F := by
  intro D p e s m args below meth cd A H locs ls C hP hl hS
  obtain ⟨hx, hb, hml, hr, hown, hts, hlk, hin, hex, hK, hB, hA, htr, hmi⟩ := C
  simp only [iln] at hn
  subst hn
  obtain ⟨ty, hr1, hr2⟩ := hr0
  exact W.widen h1 h2 (vx_ret (W.zret hx hb (by rw [hr, hr1]) hr2 (fun t ht hW => qf_of hP hS hF ht hW.alike) hS.2.2 hd hlk))
theorem sim_aret {x : Nat} (hd : decode (mB mi) pc = .ok (.areturn, n)) (hn : n = iln .areturn n) (hr0 : ∃ d, mRt mi = some (.object d)) (h1 : c.1 ≤ mCe mi) (h2 : c.2 ≤ mSl mi) (hF : F (.inl (some (.ref x))) sh I R) : MW l K J mi pc L [.ref x] sh I R c F := by
  intro D p e s m args below meth cd A H locs ls C hP hl hS
  obtain ⟨hx, hb, hml, hr, hown, hts, hlk, hin, hex, hK, hB, hA, htr, hmi⟩ := C
  simp only [iln] at hn
  subst hn
  obtain ⟨d, hr1⟩ := hr0
  exact W.widen h1 h2 (vx_ret (W.aret hx hb (by rw [hr, hr1]) (Or.inl ⟨d, rfl⟩) (Or.inr ⟨x, rfl⟩) (fun t ht hW => qf_of hP hS hF ht hW.alike) hS.2.2 hd hlk))
theorem sim_dret {x : UInt64} (hd : decode (mB mi) pc = .ok (.dreturn, n)) (hn : n = iln .dreturn n) (hr0 : mRt mi = some .double) (h1 : c.1 ≤ mCe mi) (h2 : c.2 ≤ mSl mi) (hF : F (.inl (some (.double x))) sh I R) : MW l K J mi pc L [.double x] sh I R c F := by
  intro D p e s m args below meth cd A H locs ls C hP hl hS
  obtain ⟨hx, hb, hml, hr, hown, hts, hlk, hin, hex, hK, hB, hA, htr, hmi⟩ := C
  simp only [iln] at hn
  subst hn
  exact W.widen h1 h2 (vx_ret (W.dret hx hb (by rw [hr, hr0]) (fun t ht hW => qf_of hP hS hF ht hW.alike) hS.2.2 hd hlk))
theorem sim_mm {ix : Nat} {x y : Int32} {a b code : Nat} {z : Int32} (hd : decode (mB mi) pc = .ok (.invokestatic ix, n)) (hn : n = iln (.invokestatic ix) n) (hf : lk2 kL (mC mi) ix = some (code, a, b)) (hz : (code = 1000 ∧ z = if y < x then y else x) ∨ (code = 1001 ∧ z = if x < y then y else x)) (hg : VmG mi c st)
    (hk : MW l K J mi (pc + 3) L (.int z :: st) sh I R c F) : MW l K J mi pc L (.int y :: .int x :: st) sh I R c F := by
  intro D p e s m args below meth cd A H locs ls C hP hl hS
  have kk := hk D p e s m args below meth cd A H locs ls C hP hl hS
  obtain ⟨hx, hb, hml, hr, hown, hts, hlk, hin, hex, hK, hB, hA, htr, hmi⟩ := C
  simp only [iln] at hn
  subst hn
  obtain ⟨g1, g2, g3, g4, g5⟩ := hg
  unfold catS at g1
  have hlo : (st.map fun v => v.category).sum + 13 ≤ (mRm mi).locals := by show _ ≤ mLo mi; omega
  rcases hz with ⟨rfl, rfl⟩ | ⟨rfl, rfl⟩
  · exact va_mmin hx hb (by rw [hml, hl.1]) hown (hts _ (kl_sp hf (by decide))) (hts _ m_min.1) (hts _ m_min.2.2) (hts _ m_min.2.1) g2 hlo g4 g5 hd kk
  · exact va_mmax hx hb (by rw [hml, hl.1]) hown (hts _ (kl_sp hf (by decide))) (hts _ m_max.1) (hts _ m_max.2.2) (hts _ m_max.2.1) g2 hlo g4 g5 hd kk
theorem sim_abs {ix : Nat} {x : Int32} {a b : Nat} (hd : decode (mB mi) pc = .ok (.invokestatic ix, n)) (hn : n = iln (.invokestatic ix) n) (hf : lk2 kL (mC mi) ix = some (1002, a, b)) (hg : VmG mi c st)
    (hk : MW l K J mi (pc + 3) L (.int (if 0 ≤ x then x else 0 - x) :: st) sh I R c F) : MW l K J mi pc L (.int x :: st) sh I R c F := by
  intro D p e s m args below meth cd A H locs ls C hP hl hS
  have kk := hk D p e s m args below meth cd A H locs ls C hP hl hS
  obtain ⟨hx, hb, hml, hr, hown, hts, hlk, hin, hex, hK, hB, hA, htr, hmi⟩ := C
  simp only [iln] at hn
  subst hn
  obtain ⟨g1, g2, g3, g4, g5⟩ := hg
  unfold catS at g1
  exact va_mabs hx hb (by rw [hml, hl.1]) hown (hts _ (kl_sp hf (by decide))) (hts _ m_abs.1) (hts _ m_abs.2.2) (hts _ m_abs.2.1) g2 (by show _ ≤ mLo mi; omega) g4 g5 hd kk
theorem sim_oin {ix : Nat} {x a b : Nat} (hd : decode (mB mi) pc = .ok (.invokespecial ix, n)) (hn : n = iln (.invokespecial ix) n) (hf : lk2 kL (mC mi) ix = some (1004, a, b)) (hg : VmG mi c st)
    (hk : MW l K J mi (pc + 3) L st sh I R c F) : MW l K J mi pc L (.ref x :: st) sh I R c F := by
  intro D p e s m args below meth cd A H locs ls C hP hl hS
  have kk := hk D p e s m args below meth cd A H locs ls C hP hl hS
  obtain ⟨hx, hb, hml, hr, hown, hts, hlk, hin, hex, hK, hB, hA, htr, hmi⟩ := C
  simp only [iln] at hn
  subst hn
  obtain ⟨g1, g2, g3, g4, g5⟩ := hg
  unfold catS at g1
  exact W.objInit hx hb hown (hts _ (kl_sp hf (by decide))) (hts _ m_obj.1) (hts _ m_obj.2) rfl (by show ls.size = _; rw [hl.1, hml]) rfl hd g2 (by show 2 * 0 + _ + 12 ≤ mLo mi; omega) kk
end SIM
