/-! STAGE 5: THE LAW (from kit/laws/SKELETON.whole; mine: d_en to nl_ok, whole_start) -/
theorem d_en : (wIn code 0 (.new 8) 3 && (wIn code 3 .dup 1 && (wIn code 4 (.invokespecial 153) 3 && (wSt code 7 1 1 8 && (wIn code 8 (.new 154) 3 && (wIn code 11 .dup 1 && (wIn code 12 (.invokespecial 156) 3 && (wSt code 15 1 2 16 && (wIn code 16 (.iconst 1) 1 && (wIn code 17 (.newarray .long) 2 && (wSt code 19 1 3 20 && (wIn code 20 (.iconst 1) 1 && (wIn code 21 (.newarray .double) 2 && (wSt code 23 1 4 25 && (wIn code 25 (.iconst 0) 1 && wSt code 26 0 5 28))))))))))))))) = true := by decide +kernel
def qI : Bool := (decide (76 < mT.length) && (decide (mK 76 = 2) && (decide (mN 76 = 1) && (decide (1 ≤ mL 76) && (decide (mFr 76 + 1 ≤ 13) && (decide (8 + (mL 76 + 11) + mLo 76 ≤ 478) && (decide (mCe 76 = 315) && decide (mSl 76 = 102354)))))))) && (decide (148 < mT.length) && (decide (mK 148 = 2) && (decide (mN 148 = 1) && (decide (1 ≤ mL 148) && (decide (mFr 148 + 1 ≤ 13) && (decide (8 + (mL 148 + 11) + mLo 148 ≤ 478) && (decide (mCe 148 = 14) && decide (mSl 148 = 54068))))))))
theorem qI_ok : qI = true := by decide +kernel
def vwD : vw_C := vwCl.headD (vwCl[0]'(by decide))
theorem nw8_ok : wdCk [Cond.classLink RL 8 (vwCl.getD 8 vwD).1, Cond.instantiable (vwCl.getD 8 vwD).1 (vwCl.getD 8 vwD).2.2, Cond.initialized (vwCl.getD 8 vwD).1] = true := by decide +kernel
theorem nw9_ok : wdCk [Cond.classLink RL 154 (vwCl.getD 9 vwD).1, Cond.instantiable (vwCl.getD 9 vwD).1 (vwCl.getD 9 vwD).2.2, Cond.initialized (vwCl.getD 9 vwD).1] = true := by decide +kernel
theorem nl_ok : wdCk [Cond.methodLink RL 153 (mY 76), Cond.methodLink RL 156 (mY 148)] = true := by decide +kernel
theorem nwl_ok : wdCk [Cond.arrayClass .long] = true := by decide +kernel
theorem nwd_ok : wdCk [Cond.arrayClass .double] = true := by decide +kernel
/-! THE CLAIM OUT OF ONE WALK OF THE LAW'S BODY. Your part is whole_start (and what it stands on); all else here is the same for every law, but numbers. -/
def R_law : String := "ShotListPlannerLaw"
def lw_P (b : Addr) (xs : List Int32) (args : Array Value) (s : State) : Prop := args = #[.ref b] ∧ s.IntsAt b xs ∧ xs.length ≤ 3072 ∧ (Jvm.Cond.and given_1 narrow_1).before args s = true
/-- what a walk over the start with the record d0 says of its end, said of the start itself -/
theorem lw_closed {s t : State} {o : Outcome} {d0 : Drawn} {L : List Loc} {k n : Nat} (hd0 : s.drawn.sameBut d0 lw_cs) (hv : ∃ v, o = .returned v) (hW : (s.setDrawn d0).WarmedH t.vm) (hs : (s.setDrawn d0).sameButNew ({ t with vm := s.vm } : State) L k n) : State.butDraws s t lw_cs (fun t1 => Framed s o t1 L k n) := by
  have h2 : t.drawn = d0 := congrArg State.drawn hs.1
  refine ⟨⟨hv, hW, State.sameButNew.setDrawn hs s.drawn⟩, ?_, by decide⟩
  rw [h2]
  exact hd0
def lw_Q (_ : Array Value) (s : State) (o : Outcome) (t : State) : Prop := o = .returned (some (.int 1)) ∧ State.butDraws s t lw_cs (fun t1 => Framed s o t1 [] 601024 7293034)
def lw_Z (below : List Frame) (a : Array Value) (s : State) : State → Prop := fun t => ∃ o, t.status = .running ∧ Ended t below o ∧ lw_Q a s o t
/-- the law's own end, with 1 on the stack, nothing written that was there before, its room as the claim has it; d0: the record of draws at this point (at the entry s.drawn: begin with 'refine W.base ?_' and 'have hd0 := Drawn.sameBut.refl s.drawn lw_cs') -/
theorem lw_ret {p : Program} {l : Launch} {e : Env} {s : State} {m : MethodId} {below : List Frame} {meth : Method} {c : Code} {b : Nat} {d0 : Drawn} (hd0 : s.drawn.sameBut d0 lw_cs) (hx : p.tables.exec = Jvm.exec) (hb : c.code = code) (hr : meth.sig.returnType = ret) (hlocks : meth.locks = false) {pc : Nat} {H : Heap} {ls : Array Slot} (hdg : decode code pc = .ok (.ireturn, 1)) : W p l e room_1 (s.setDrawn d0) m #[Value.ref b] below meth c H [] 601024 7293034 (lw_Z below #[Value.ref b] s) (F0 m pc ls [.int 1]) := by
  intro T hT X
  obtain ⟨fs, hret, hrun, hended, hW, hframe⟩ := X.leave (v := some (.int 1)) (hlocks := hlocks) (fun h => by rw [hr] at h; cases h)
  have hmeth' : T.vm.method? m = some meth := X.method'
  refine ⟨T.setFrames fs, ?_, .returned (some (.int 1)), hrun, hended, rfl, lw_closed hd0 ⟨_, rfl⟩ hW hframe⟩
  jvm_step X.here [X.here.top, hx, hb, hdg, hmeth', hr, ret, narrow_b1]
  (try refine ⟨rfl, ?_⟩); (try refine ⟨rfl, ?_⟩)
  first | (intro acts; rw [hret _ acts rfl rfl rfl]) | rw [hret _ _ rfl rfl rfl]
  exact Steps.refl _
/-- what holds at the law's entry: the machine, the code, the tables' words (any of lw_tbl by 'hts w (by decide +kernel)'), the script of L ints xs at the cell b, what the Statement gives of the start (any of its parts by flat_of_before) -/
def lw_At (p : Program) (s : State) (m : MethodId) (meth : Method) (c : Code) (b L : Nat) (xs : Nat → Int32) : Prop :=
  p.tables.exec = Jvm.exec ∧ c.code = code ∧ meth.sig.returnType = ret ∧ c.maxLocals = 9 ∧ s.vm.findClass R_law = some m.cls ∧ (∀ w ∈ lw_tbl, w.before #[Value.ref b] s = true) ∧ va_X b L xs s s.heap ∧ b < s.heap.size ∧ meth.locks = false ∧ (Jvm.Cond.and given_1 narrow_1).before #[Value.ref b] s = true
-- ===== YOUR PART BEGINS =====
/-- YOUR PART: from the entry, for every script of at most 3072 ints, the law comes to its end with true ('hflags': the launch's flags, for a law that throws: no stack traces) -/
theorem whole_start {p : Program} {e : Env} {s : State} {m : MethodId} {below : List Frame} {meth : Method} {c : Code} (l : Launch) (hflags : l.flags = flags0) {b L : Nat} {xs : Nat → Int32} (hL : L ≤ 3072) (C0 : lw_At p s m meth c b L xs) : W p l e room_1 s m #[Value.ref b] below meth c s.heap [] 0 0 (lw_Z below #[Value.ref b] s) (entryFrame m ([Value.ref b] : List Value).toArray 9) := by
  obtain ⟨hx, hb, hr, hml, hown, hts, hX, hbl, hlocks, hgv⟩ := C0
  have htr : l.stackTraces = false := by
    unfold Launch.stackTraces
    rw [hflags]
    decide
  have S : CallFix p m c code 9 s #[Value.ref b] wAll RL := ⟨hx, hb, hml, hown, fun w hw => hts w (List.mem_filter.mp hw).1⟩
  obtain ⟨D, hK⟩ := known0 hts
  obtain ⟨K, J, hB⟩ := wb0 hts hgv
  have hN := nc0 hgv
  have dh := d_hd
  simp only [Bool.and_eq_true] at dh
  obtain ⟨-, -, -, -, -, -, -, -, -, -, -, -, -, d14, d15⟩ := dh
  have de := d_en
  simp only [Bool.and_eq_true] at de
  obtain ⟨e1, e2, e3, e4, e5, e6, e7, e8, e9, e10, e11, e12, e13, e14, e15, e16⟩ := de
  have hq := qI_ok
  unfold qI at hq
  simp only [Bool.and_eq_true, decide_eq_true_eq] at hq
  obtain ⟨⟨f1, f2, f3, f4, f5, f6, f7, f8⟩, g1, g2, g3, g4, g5, g6, g7, g8⟩ := hq
  have hl := lv_entry ([.ref b]) (n := 9) (Nat.le_of_ble_eq_true rfl)
  rw [lg_entry_eq]
  generalize (lg_sl ([.ref b]) ++ List.replicate (9 - (lg_sl ([.ref b])).length) Slot.unset).toArray = ls at hl ⊢
  have hl : lv_has ls 9 [(0, .ref b)] := hl
  have hP0 : RP D s (lA s) (fun _ => none) (fun _ _ => 0) (fun _ _ => none) s.heap := fun a t n h => by cases h
  have hS0 : va_S (lA s) s.heap s.heap [] := va_S.rf
  have r8 : vwCl[8]? = some (vwCl.getD 8 vwD) := rfl
  have r9 : vwCl[9]? = some (vwCl.getD 9 vwD) := rfl
  have z8 : fN 8 = 14 := rfl
  have z9 : fN 9 = 29 := rfl
  refine lw_new (ix := 8) (t := 8) (Rm := room_1) S hK hP0 hS0 r8 nw8_ok e1 ⟨Nat.le_of_ble_eq_true rfl, Nat.le_of_ble_eq_true rfl⟩ (fun H1 hf1 hP1 hS1 => ?_)
  generalize hl0 : s.heap.size = l0 at hP1 ⊢
  rw [z8] at hP1 ⊢
  refine lv_dup hx hb (wIn_of e2) rfl ?_
  refine lw_init (ix := 153) (q := 76) (br := l0) (rest := [.ref l0]) (K := K) (J := J) (G := fun sh' I' R' => ∃ (g b' A' B' : Nat → Nat) (s' x' y' h' : Nat → Nat → Nat), PLN (u1 (fun _ => none) l0 (some (8, 14))) sh' (u1 (fun _ _ => 0) l0 (fun _ => 0)) I' (u1 (fun _ _ => none) l0 (fun _ => none)) R' l0 g b' A' B' s' x' y' h') S htr f1 f2 f3 f4 hK hB hP1 hS1 (wdCk_of nl_ok (by simp)) (wIn_of e3) hl.1 ⟨f5, f6⟩ ⟨by rw [f7]; exact Nat.le_of_ble_eq_true rfl, by rw [f8]; exact Nat.le_of_ble_eq_true rfl⟩ (Nat.le_of_ble_eq_true rfl) (vX10_init (u1_eq _ _ _) (fun g b' A' B' s' x' y' h' sh' I' R' hh => ⟨rfl, g, b', A', B', s', x', y', h', hh⟩)) ?_
  intro sh2 I2 R2 H2 locs2 hPN hP2 hS2
  obtain ⟨g, b', A', B', s', x', y', h', hPN⟩ := hPN
  rw [f7, f8]
  refine wl_st (t := 1) (i := 1) (v := .ref l0) (lv' := [(1, .ref l0), (0, .ref b)]) hx hb e4 rfl (by decide) hl (by decide) rfl (fun ls1 hl1 => ?_)
  refine lw_new (ix := 154) (t := 9) (Rm := room_1) S hK hP2 hS2 r9 nw9_ok e5 ⟨Nat.le_of_ble_eq_true rfl, Nat.le_of_ble_eq_true rfl⟩ (fun H3 hf3 hP3 hS3 => ?_)
  generalize hm0 : H2.size = m0 at hP3 hf3 ⊢
  rw [z9] at hP3 ⊢
  refine lv_dup hx hb (wIn_of e6) rfl ?_
  refine lw_init (ix := 156) (q := 148) (br := m0) (rest := [.ref m0]) (K := K) (J := J) (G := fun sh' I' R' => ∃ g' : Nat → Nat, PLQ (u1 sh2 m0 (some (9, 29))) sh' (u1 I2 m0 (fun _ => 0)) I' (u1 R2 m0 (fun _ => none)) R' m0 g') S htr g1 g2 g3 g4 hK hB hP3 hS3 (wdCk_of nl_ok (by simp)) (wIn_of e7) hl1.1 ⟨g5, g6⟩ ⟨by rw [g7]; exact Nat.le_of_ble_eq_true rfl, by rw [g8]; exact Nat.le_of_ble_eq_true rfl⟩ (Nat.le_of_ble_eq_true rfl) (vX11_init (u1_eq _ _ _) (fun g' sh' I' R' hh => ⟨rfl, g', hh⟩)) ?_
  intro sh4 I4 R4 H4 locs4 hPQ hP4 hS4
  obtain ⟨g', hPQ⟩ := hPQ
  rw [g7, g8]
  refine wl_st (t := 1) (i := 2) (v := .ref m0) (lv' := [(2, .ref m0), (1, .ref l0), (0, .ref b)]) hx hb e8 rfl (by decide) hl1 (by decide) rfl (fun ls2 hl2 => ?_)
  refine lv_iconst (v := 1) hx hb (wIn_of e9) rfl ?_
  refine lw_nwa (aty := .long) (ty := .long) (v := .long 0) (Rm := room_1) S hP4 hS4 (Or.inl ⟨rfl, rfl, rfl⟩) nwl_ok e10 ⟨Nat.le_of_ble_eq_true rfl, Nat.le_of_ble_eq_true rfl⟩ (fun H5 hf5 hP5 hO5 hS5 ho5 => ?_)
  generalize ho3 : H4.size = o3 at hf5 hO5 ⊢
  refine wl_st (t := 1) (i := 3) (v := .ref o3) (lv' := [(3, .ref o3), (2, .ref m0), (1, .ref l0), (0, .ref b)]) hx hb e11 rfl (by decide) hl2 (by decide) rfl (fun ls3 hl3 => ?_)
  refine lv_iconst (v := 1) hx hb (wIn_of e12) rfl ?_
  have hlt3 := hO5.lt
  refine lw_nwa (aty := .double) (ty := .double) (v := .double 0) (Rm := room_1) S hP5 hS5 (Or.inr ⟨rfl, rfl, rfl⟩) nwd_ok e13 ⟨Nat.le_of_ble_eq_true rfl, Nat.le_of_ble_eq_true rfl⟩ (fun H6 hf6 hP6 hO6 hS6 ho6 => ?_)
  have hO56 := hO5.kept (ho6 o3 hlt3)
  generalize ho4 : H5.size = o4 at hf6 hO6 hlt3 ⊢
  refine wl_st (t := 1) (i := 4) (v := .ref o4) (lv' := [(4, .ref o4), (3, .ref o3), (2, .ref m0), (1, .ref l0), (0, .ref b)]) hx hb e14 rfl (by decide) hl3 (by decide) rfl (fun ls4 hl4 => ?_)
  refine lv_iconst (v := 0) hx hb (wIn_of e15) rfl ?_
  refine wl_st (t := 0) (i := 5) (v := .int 0) (lv' := [(5, .int 0), (4, .ref o4), (3, .ref o3), (2, .ref m0), (1, .ref l0), (0, .ref b)]) hx hb e16 rfl (by decide) hl4 (by decide) rfl (fun ls5 hl5 => ?_)
  obtain ⟨AD, ⟨a0, am⟩, hOK, hC, hKn, hR⟩ := st0 hPN hf3 hPQ
  subst a0
  subst am
  have LC : LCX l K J p s m #[Value.ref b] c D b L xs sh4 AD o3 o4 := ⟨⟨S, htr⟩, ⟨hK, hB, hN⟩, ⟨hX, hbl, hL⟩, ⟨hOK.pl, hOK.md⟩, ⟨hf5, hf6, by omega, by have := hS4.1; show s.heap.size ≤ o3; omega, by have := hS5.1; show s.heap.size ≤ o4; omega⟩⟩
  refine law_loop (Rm := room_1) LC ⟨Nat.le_of_ble_eq_true rfl, Nat.le_of_ble_eq_true rfl, Nat.le_of_ble_eq_true rfl, Nat.le_of_ble_eq_true rfl⟩ (fun H7 locs7 ls7 cells slots hS7 hc hs => ?_) (L + 1) 0 H6 _ ls5 _ _ (by omega) (Nat.zero_le _) ⟨I4, R4, 0, 0, hP6, hO56, hO6, hS6, ⟨sig0, _, hOK, vst0, hC, hKn, hR⟩, lv_sub hl5 [5, 4, 3, 2, 1, 0] rfl⟩ (Nat.le_of_ble_eq_true rfl) (Nat.le_of_ble_eq_true rfl)
  refine lv_iconst (v := 1) hx hb (wIn_of d14) rfl ?_
  refine va_forget (fun q hq => hS7.2.2 q hq) ?_
  refine W.widen (k := 601024) (n := 7293034) hc hs ?_
  refine W.base ?_
  exact lw_ret (Drawn.sameBut.refl s.drawn lw_cs) hx hb hr hlocks (wIn_of d15)
-- ===== YOUR PART ENDS =====
set_option maxHeartbeats 4000000 in
theorem lw_walk (l : Launch) (hflags : l.flags = flags0) (b : Addr) (xs : List Int32) : MetFree l x (headSpec (Jvm.Cond.code x code maxLocals ret :: tables_1) room_1) (lw_P b xs) (fun _ _ _ _ _ => True) lw_Q := by
  refine MetFree.of_bodyS (code := code) (maxLocals := maxLocals) (ret := ret) (by decide) ?_ ?_
  · intro args s m h hn
    obtain ⟨meth, c, h1, h2, h3, h4, h5, h6, -, -⟩ := Cond.code_spec hn (atoms_spec (ws := Jvm.Cond.code x code maxLocals ret :: tables_1) h _ List.mem_cons_self)
    exact ⟨meth, c, h1, h2, h3, h4, h5, h6⟩
  · intro p e s m args below meth c s₁ B hml0 hP _
    obtain ⟨rfl, hx, hbd, hgv⟩ := hP
    obtain ⟨scr, harrAt, hlist, hof, hsmall⟩ := hx
    obtain ⟨hcb, hkn, -, -⟩ := State.arrayAt?_spec harrAt
    have hown : s.vm.findClass R_law = some m.cls := findClass_of_methodNamed B.named
    have hts0 : ∀ c ∈ (Jvm.Cond.code x code maxLocals ret :: tables_1), c.before #[Value.ref b] s = true := atoms_spec (ws := Jvm.Cond.code x code maxLocals ret :: tables_1) B.pre
    have hts : ∀ w ∈ lw_tbl, w.before #[Value.ref b] s = true := k2_hts_sels lw_privs (fun w hw => hts0 w (List.mem_cons_of_mem _ hw)) lw_privs_ok
    have hml : c.maxLocals = 9 := B.maxLocals_eq (hts0 _ List.mem_cons_self)
    have X₀ : Stand p l e room_1 s m #[Value.ref b] below meth c s₁ [] 0 0 := Stand.of_body B
    have hh0 : s₁.heap = s.heap := by rw [B.state]; rfl
    have hsz : scr.slots.size = xs.length := by rw [← Array.length_toList, hlist, List.length_map]
    have hval : ∀ j : Nat, j < xs.length → scr.slots[j]? = some (.int (xs.getD j 0)) := fun j hj => by
      rw [← Array.getElem?_toList, hlist]
      simp [hj]
    have hbl : b < s.heap.size := (Array.getElem?_eq_some_iff.mp hcb).1
    have hX : va_X b xs.length (fun j => xs.getD j 0) s s.heap := ⟨scr, hcb, hof, hkn, hsz, hval⟩
    have K : W p l e room_1 s m #[Value.ref b] below meth c s₁.heap [] 0 0 (lw_Z below #[Value.ref b] s) (entryFrame m ([Value.ref b] : List Value).toArray 9) := by
      rw [hh0]
      exact whole_start l hflags hbd ⟨B.exec, B.bytes, B.returns, hml, hown, hts, hX, hbl, B.notSynchronized, hgv⟩
    obtain ⟨t, a1, o, b1, b2, b3⟩ := K s₁ rfl X₀
    exact ⟨t, o, a1, b1, b2, b3⟩
theorem lw_pre_spec {args : Array Value} {s : State} (h : (Jvm.Cond.and given_1 narrow_1).before args s = true) (hr : rest_1_c.before args s = true) : ∃ (b : Addr) (xs : List Int32), lw_P b xs args s := by
  have hs := flat_of_before _ h
  have hq := flat_of_before _ hr
  have hc : (Cond.count 1).before args s = true := hs _ (by decide +kernel)
  have harr : (Cond.arrayOf (.arg 0) .int).before args s = true := hs _ (by decide +kernel)
  have hle : (Cond.le (.length (.arg 0)) (.int 3072)).before args s = true := hs _ (by decide +kernel)
  have hlen : (Cond.isInt (.length (.arg 0))).before args s = true := hq _ (by decide +kernel)
  have hall : (Cond.all (.arg 0) (.isInt (.elem (.arg 0) (.index 0)))).before args s = true := hq _ (by decide +kernel)
  obtain ⟨b, xs, hb, hx⟩ := State.ints_of_pre rfl harr hlen hall
  have hsm : xs.length < 2 ^ 31 := hx.choose_spec.2.2.2
  have hev : (Term.length (.arg 0)).eval args s none [] s = some (.int xs.length.toInt32) := hx.length_eval hb
  have hv := Cond.le_ints hev (show (Term.int 3072).eval args s none [] s = some (.int 3072) from rfl)
  have hd : xs.length.toInt32 ≤ 3072 := by
    simpa [Cond.before, Cond.holds, hv] using hle
  have hN : xs.length ≤ 3072 := (Int32.ofNat_le_ofNat hsm (by decide)).mp (show Int32.ofNat xs.length ≤ Int32.ofNat 3072 from hd)
  exact ⟨b, xs, Cond.one_arg hc (show args[0]? = some (.ref b) from hb), hx, hN, h⟩
theorem lw_comes (l : Launch) (hflags : l.flags = flags0) : Comes l x (Jvm.Cond.code x code maxLocals ret :: tables_1) room_1 (fun tb e args s => Calls_1 tb e args s ∧ rest_1 tb e args s ∧ Pre_1 tb e args s)
    (fun _ _ args s o t => lw_Q args s o t) := by
  intro p e ha hc hk s m args below hf hfit hheap happ hpre
  obtain ⟨b, xs, hP⟩ := lw_pre_spec hpre.2.2 hpre.2.1
  obtain ⟨k, o, h1, h2, h3, hQ⟩ := lw_walk l hflags b xs p e ha hc hk s m args below hf ((Spec.applies_iff_loose hf).mp happ).1 hP trivial
  exact ⟨k, o, h1, h2, h3, hQ⟩
theorem lw_frame {s t : State} {o : Outcome} {args : Array Value} (h : State.butDraws s t lw_cs (fun t1 => Framed s o t1 [] 601024 7293034)) :
    State.butDraws s t [Jvm.Choice.named "NaN.bits"] (fun t1 => Framed s o t1 (fieldLocs frame_1_writes args s ++ arrayLocs frame_1_arrays args s ++ staticLocs frame_1_statics s) 601024 7293034) := h
theorem lw_limb (L : Cond) (hL : ∀ (args : Array Value) (s t : State), L.after args s (.returned (some (.int 1))) t = true) :
    ArmFor flags0 classFile x code maxLocals ret World_1 tables_1 room_1 Calls_1 rest_1 Pre_1
      (fun tb e a s o t => postC L tb e a s o t ∧ State.butDraws s t [Jvm.Choice.named "NaN.bits"] (fun t1 => Framed s o t1 (fieldLocs frame_1_writes a s ++ arrayLocs frame_1_arrays a s ++ staticLocs frame_1_statics s) 601024 7293034)) := by
  intro l hflags _ _ p e ha hc hk s m args below hf hfit hheap happ hpre
  obtain ⟨k, o, h1, h2, h3, rfl, hF⟩ := lw_comes l hflags p e ha hc hk s m args below hf hfit hheap happ hpre
  exact ⟨k, _, h1, h2, h3, hL args s _, lw_frame hF⟩
theorem i_vc : Claimed_1_1 ∧ Claimed_1_2 := ⟨lw_limb limb_1_1 (fun args s t => by simp [limb_1_1, Cond.after, Cond.holds, Cond.value]), lw_limb limb_1_2 (fun args s t => Cond.after_iff.mpr (by
  first | (rw [show limb_1_2 = Cond.eq .result (.int 1) from rfl, Cond.eq_ints (x := 1) (y := 1) rfl rfl]; simp; done) | (simp [limb_1_2, Cond.value, Term.eval]; done)))⟩
