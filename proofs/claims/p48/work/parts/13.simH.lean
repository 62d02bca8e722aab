section SIM
variable {l : Launch} {K J : Nat → Nat} {mi pc n : Nat} {L : VL} {st : List Value} {sh : HS} {I : HI} {R : HR} {c : Nat × Nat} {F : VF} {ins : Instr}
theorem sim_call {ix q b pos kd : Nat} (hd : (kd = 0 ∧ decode (mB mi) pc = .ok (.invokestatic ix, 3)) ∨ (kd = 1 ∧ decode (mB mi) pc = .ok (.invokevirtual ix, 3)) ∨ (kd = 2 ∧ decode (mB mi) pc = .ok (.invokespecial ix, 3)))
    (hf : lk2 kL (mC mi) ix = some (q, b, pos)) (hq : q < 1000) (hv : Vc K (MW l K J) kd q mi pc L st sh I R c F) : MW l K J mi pc L st sh I R c F := by
  intro D p e s m args below meth cd A H locs ls C hP hl hS
  obtain ⟨a1, a2, a3, a4, a5, a6, ⟨a7, a7'⟩, ⟨a8, a9⟩, G, b1, b2, b3, b4⟩ := hv
  have C' := C
  obtain ⟨hx, hb, hml, hr, hown, hts, hlk, hin, hex, hK, hB, hA, htr, hmi⟩ := C
  obtain ⟨f1, f2, f3, f4, f5, f6, f7, f8, f9, f10, f11, f12, f13⟩ := mt_f a1
  obtain ⟨-, hlink⟩ := kl_own hf hq
  obtain ⟨A', hA'⟩ : ∃ A' : Nat → Prop, A' = fun x => (∃ y, sh x = some y ∧ (y.1 < 22 ∨ 30 ≤ y.1)) ∨ H.size ≤ x := ⟨_, rfl⟩
  have hsub : ∀ x, A' x → A x := by
    intro x hx0
    rw [hA'] at hx0
    rcases hx0 with ⟨y, hy, hw⟩ | h
    · exact (hP x y.1 y.2 hy).1 hw
    · exact hA x (Nat.le_trans hS.1 h)
  have hc9 : (st.take (mN q)).reverse.all (fun v => v.category == 1) = true ∨ mHl q = true := by
    rcases a9 with h | h
    · left; rw [List.all_reverse]; exact h
    · exact Or.inr h
  have hM : vx_Met l (mY q) (wsM q) (mRm q) (va_Pc (st.take (mN q)).reverse (PcM K J D A' H.size sh I R)) (QF D A' G) (XF D A' G) (mCe q) (mSl q) A' :=
    met_of a1 htr a8 hc9 (fun x hx0 => by rw [hA']; exact Or.inr hx0) b1
  have hPc : ∀ U : State, U.heap = H → s.WarmedH U.vm → va_Pc (st.take (mN q)).reverse (PcM K J D A' H.size sh I R) (st.take (mN q)).reverse.toArray U := by
    intro U hU hW
    refine ⟨rfl, by rw [hU], va_K.moved hW.alike hK, ?_, ?_⟩
    · rw [hU]; exact WB.warm hW (WB.at hB hS.2.1 hsub)
    · rw [hU]
      refine RP.moved hW.alike (fun x t n' hx0 => ?_)
      obtain ⟨r1, r2, r3⟩ := hP x t n' hx0
      exact ⟨fun z => by rw [hA']; exact Or.inl ⟨_, hx0, z⟩, r2, r3⟩
  have hcode := hts _ f1
  have hini := hts _ f5
  have hgood : ∀ w ∈ wsM q, ∀ (a' : Array Value) (U : State), s.WarmedH U.vm → w.before a' U = true := by
    refine pay_in hts (fun w hw => ?_)
    rcases List.mem_cons.mp hw with rfl | hw
    · exact wAll_self _ f1
    · exact wAll_self w hw
  have hpar : ∀ n', mK q ≠ 0 ∧ n' + 1 = mN q ∨ mK q = 0 ∧ n' = mN q → ∀ sig, parseMethodDescriptor (mY q).desc = some sig → n' = sig.parameters.length := by
    intro n' hn' sig hsig
    rw [hsig] at f9
    have f9' := Option.some.inj f9
    rcases hn' with ⟨z, hn'⟩ | ⟨z, hn'⟩
    · rw [if_neg z] at f9'; show n' = _; have : sig.parameters.length = mN q - 1 := f9'; omega
    · rw [if_pos z] at f9'; show n' = _; have : sig.parameters.length = mN q := f9'; omega
  have hroom : (mRm q).frames + 1 ≤ (mRm mi).frames ∧ 8 + (mL q + 11) + (mRm q).locals ≤ (mRm mi).locals := a5
  have hsize : (F0 m pc ls st).locals.size = mL mi := hl.1
  have hrm : 2 * (F0 m pc ls st).monitorRoom + ((st.drop (mN q)).map fun v => v.category).sum ≤ 8 := lv_room a4
  have hlen : (st.take (mN q)).length = mN q := by rw [List.length_take]; omega
  refine run_go (a := (st.take (mN q)).reverse.toArray) C' hl hS hsub a6 ?_ b2 b3 b4
  have S : CallFix p m cd (mB mi) (mL mi) s args wAll (cN (mC mi)) := ⟨hx, hb, hml, hown, hts⟩
  rcases hd with ⟨rfl, hd⟩ | ⟨rfl, hd⟩ | ⟨rfl, hd⟩
  · have hst : (F0 m pc ls st).stack = (st.take (mN q)).reverse.reverse ++ st.drop (mN q) := by
      rw [List.reverse_reverse, List.take_append_drop]
    have hn : (st.take (mN q)).reverse.length = mN q := by rw [List.length_reverse]; exact hlen
    rcases hlink with ⟨-, hlink⟩ | ⟨hb1, hk1, hk2, hk3⟩
    · exact vx_runS (bytes := mB q) (maxL := mL q) (ret := mRt q) (ws := wsM q) (n := mN q) S hM ⟨⟨rfl, rfl, hroom.1, hroom.2, hgood, List.mem_cons_self, hcode, hini, f8, hpar _ (Or.inr ⟨a3, rfl⟩), hts _ hlink⟩, hts _ (f2 a3)⟩ ⟨PcM_blind, hPc⟩ rfl hn hsize hst hrm hd a6
    · have hnest := hB.2.2.2.1 _ hk1 hb1
      rw [hk2, hk3] at hnest
      exact vx_runSN (bytes := mB q) (maxL := mL q) (ret := mRt q) (ws := wsM q) (n := mN q) S hM ⟨⟨⟨rfl, rfl, hroom.1, hroom.2, hgood, List.mem_cons_self⟩, hcode, hini, f8, hpar _ (Or.inr ⟨a3, rfl⟩), va_Nw.use rfl hnest⟩, hts _ (f2 a3), trivial⟩ ⟨PcM_blind, hPc⟩ rfl hn hsize hst hrm hd a6
  · have hrv := a7 rfl
    have h0 : ¬ mK q = 0 := by omega
    cases hgl : (st.take (mN q)).getLast? with
    | none => rw [hgl] at hrv; exact hrv.elim
    | some w =>
      rw [hgl] at hrv
      cases w with
      | ref br =>
        obtain ⟨ys, hys⟩ := List.getLast?_eq_some_iff.mp hgl
        have hre : (st.take (mN q)).reverse = .ref br :: ys.reverse := by rw [hys, List.reverse_append]; rfl
        have hst : (F0 m pc ls st).stack = ys.reverse.reverse ++ .ref br :: st.drop (mN q) := by
          rw [List.reverse_reverse]
          show st = ys ++ ([.ref br] ++ st.drop (mN q))
          rw [← List.append_assoc, ← hys, List.take_append_drop]
        have hn : ys.reverse.length + 1 = mN q := by rw [List.length_reverse, ← hlen, hys, List.length_append]; rfl
        have hcell : ∃ cellB : Cell, H[br]? = some cellB ∧ cellB.vm.isStatics = false ∧ s.vm.findClass (cN (rcN (mC q))) = some cellB.cls := by
          rcases hrv with (⟨q1, n', q2⟩ | ⟨q1, i, q2, q3⟩) | ⟨q1, n', q2⟩
          · obtain ⟨r, hr0, cell, g1, g2, g3, -⟩ := (hP br (rcN (mC q)) n' q2).2.2.1 q1
            refine ⟨cell, g1, by rw [g3]; rfl, ?_⟩
            have f12' := f12 q1
            rw [hr0] at f12'
            rw [g2, ← Option.some.inj f12']
            exact (hK.1 _ r hr0).2.1
          · have e14 : rcN (mC q) = mC q := by rw [q1]; rfl
            rw [e14, f13 q1, q3]
            exact vk_recv hB.1 q2 hS
          · rcases q1 with q1 | q1
            · obtain ⟨cell, g1, g2⟩ := (hP br _ n' q2).2.2.2.2.2.2 (by omega) (by omega)
              exact ⟨cell, g1, (g2.1 (by omega)).1.1, by rw [q1]; exact (g2.1 (by omega)).1.2⟩
            · obtain ⟨cell, g1, g2⟩ := (hP br _ n' q2).2.2.2.2.2.2 (by omega) (by omega)
              exact ⟨cell, g1, (g2.2.1 (by omega)).1.1, by rw [q1]; exact (g2.2.1 (by omega)).1.2⟩
        rw [hre] at hM hPc ⊢
        rcases hlink with ⟨-, hlink⟩ | ⟨hb1, hk1, hk2, hk3⟩
        · exact vx_runV (C := cN (rcN (mC q))) (bytes := mB q) (maxL := mL q) (ret := mRt q) (ws := wsM q) (n := ys.reverse.length) S hM ⟨⟨rfl, rfl, hroom.1, hroom.2, hgood, List.mem_cons_self, hcode, hini, f8, hpar _ (Or.inl ⟨h0, hn⟩), hts _ hlink⟩, hts _ (f3 h0), hts _ (f4 a3)⟩ ⟨PcM_blind, hcell, hPc⟩ rfl rfl hsize hst hrm hd a6
        · have hnest := hB.2.2.2.1 _ hk1 hb1
          rw [hk2, hk3] at hnest
          exact vx_runVN (C := cN (rcN (mC q))) (bytes := mB q) (maxL := mL q) (ret := mRt q) (ws := wsM q) (n := ys.reverse.length) S hM ⟨⟨⟨rfl, rfl, hroom.1, hroom.2, hgood, List.mem_cons_self⟩, hcode, hini, f8, hpar _ (Or.inl ⟨h0, hn⟩), va_Nw.use rfl hnest⟩, hts _ (f3 h0), hts _ (f4 a3)⟩ ⟨PcM_blind, hcell, hPc⟩ rfl rfl hsize hst hrm hd a6
      | _ => exact hrv.elim
  · obtain ⟨br, hgl⟩ := a7' rfl
    have h0 : ¬ mK q = 0 := by omega
    obtain ⟨hnm, hrt⟩ := f10 a3
    obtain ⟨ys, hys⟩ := List.getLast?_eq_some_iff.mp hgl
    have hre : (st.take (mN q)).reverse = .ref br :: ys.reverse := by rw [hys, List.reverse_append]; rfl
    have hst : (F0 m pc ls st).stack = ys.reverse.reverse ++ .ref br :: st.drop (mN q) := by
      rw [List.reverse_reverse]
      show st = ys ++ ([.ref br] ++ st.drop (mN q))
      rw [← List.append_assoc, ← hys, List.take_append_drop]
    have hn : ys.reverse.length + 1 = mN q := by rw [List.length_reverse, ← hlen, hys, List.length_append]; rfl
    rw [hrt] at hcode
    have hcw : Cond.code (mY q) (mB q) (mL q) none ∈ wsM q := by rw [← hrt]; exact List.mem_cons_self
    rw [hre] at hM hPc ⊢
    rcases hlink with ⟨-, hlink⟩ | ⟨hb1, hk1, hk2, hk3⟩
    · exact vx_runI (bytes := mB q) (maxL := mL q) (ws := wsM q) (n := ys.reverse.length) S hM ⟨⟨rfl, rfl, hroom.1, hroom.2, hgood, hcw, hcode, hini, f8, hpar _ (Or.inl ⟨h0, hn⟩), hts _ hlink⟩, hnm, hts _ (f3 h0)⟩ ⟨PcM_blind, hPc⟩ rfl rfl hsize hst hrm hd a6
    · have hnest := hB.2.2.2.1 _ hk1 hb1
      rw [hk2, hk3] at hnest
      exact vx_runIN (bytes := mB q) (maxL := mL q) (ws := wsM q) (n := ys.reverse.length) S hM ⟨⟨⟨rfl, rfl, hroom.1, hroom.2, hgood, hcw⟩, hcode, hini, f8, hpar _ (Or.inl ⟨h0, hn⟩), va_Nw.use rfl hnest⟩, hnm, hts _ (f3 h0)⟩ ⟨PcM_blind, hPc⟩ rfl rfl hsize hst hrm hd a6
theorem nn_of {z : Int32} (h : ¬ z < 0) : z.toInt = (z.toNatClampNeg : Int) := by
  have h0 : (0 : Int) ≤ z.toInt := by
    have := Int32.le_iff_toInt_le.mp (Int32.not_lt.mp h)
    simpa using this
  show z.toInt = ((z.toInt.toNat : Nat) : Int)
  omega
theorem sim_cpy {ix a b x y n0 n1 : Nat} {sp dp z : Int32} (hd : decode (mB mi) pc = .ok (.invokestatic ix, n)) (hn : n = iln (.invokestatic ix) n) (hf : lk2 kL (mC mi) ix = some (1003, x, y)) (hg : VmG mi c st)
    (ha : sh a = some (20, n0)) (hb0 : sh b = some (20, n1)) (h1 : ¬ sp < 0) (h2 : ¬ dp < 0) (h3 : ¬ z < 0) (h4 : sp.toNatClampNeg + z.toNatClampNeg ≤ n0) (h5 : dp.toNatClampNeg + z.toNatClampNeg ≤ n1)
    (hk : MW l K J mi (pc + 3) L st sh (cp2 I a sp.toNatClampNeg b dp.toNatClampNeg z.toNatClampNeg) R c F) : MW l K J mi pc L (.int z :: .int dp :: .ref b :: .int sp :: .ref a :: st) sh I R c F := by
  intro D p e s m args below meth cd A H locs ls C hP hl hS
  have kk := fun H1 locs1 => hk D p e s m args below meth cd A H1 locs1 ls C
  obtain ⟨hx, hb, hml, hr, hown, hts, hlk, hin, hex, hK, hB, hA, htr, hmi⟩ := C
  simp only [iln] at hn
  subst hn
  obtain ⟨g1, g2, g3, g4, g5⟩ := hg
  unfold catS at g1
  obtain ⟨cA, u1, u2, u3⟩ := (hP a 20 n0 ha).2.2.2.1 rfl
  obtain ⟨hbA, hbz, hbc⟩ := hP b 20 n1 hb0
  have hbA := hbA (by omega)
  obtain ⟨cB, v1, v2, v3⟩ := hbc.2.1 rfl
  obtain ⟨-, k0, hk0, cm0, hkk0⟩ := u2 n0 (fun j => .int (I a j))
  obtain ⟨-, k1, hk1, cm1, hkk1⟩ := v2 n1 (fun j => .int (I b j))
  intro T hT X
  obtain ⟨vm', X', step⟩ := X.arraycopy hx hown (hts _ (kl_sp hf (by decide))) (hts _ m_cpy.1) (hts _ m_cpy.2.1) (hts _ m_cpy.2.2) (src := a) (dst := b) (cs := arrV cA n0 (fun j => .int (I a j))) (cd := arrV cB n1 (fun j => .int (I b j))) (srcPos := sp) (destPos := dp) (n := z) (by rw [hT]; exact u1) (by rw [hT]; exact v1)
    (fun _ h => by cases h) (fun _ h => by cases h) (fun h => by cases h) (fun h => by cases h) hk0 hk1 hkk0 hkk1 (by rfl) h1 h2 h3
    (by rw [nn_of h1, nn_of h3, arrV_size]; omega)
    (by rw [nn_of h2, nn_of h3, arrV_size]; omega)
    (fun vm₁ _ i hi => by
      have e9 : (arrV cA n0 (fun j => .int (I a j))).slots.getD (sp.toNatClampNeg + i) .null = .int (I a (sp.toNatClampNeg + i)) := by
        rw [Array.getD_eq_getD_getElem?, arrV_read _ _ (by omega)]
        rfl
      exact ⟨by rw [e9]; rfl, by rw [e9]; exact trivial⟩)
    (g := F0 m pc ls (.int z :: .int dp :: .ref b :: .int sp :: .ref a :: st)) rfl (by rw [hml]; exact hl.1) (rest := st) rfl (by rw [hb]; exact hd) g2 (by
      show 2 * 0 + _ + _ ≤ mLo mi
      rw [show nativeFrameWords "java/lang/System" "arraycopy" 5 = 7 by decide +kernel]
      omega)
  have e1 : copied (arrV cA n0 (fun j => .int (I a j))) (arrV cB n1 (fun j => .int (I b j))) sp dp z = arrV cB n1 (fun j => .int (va_cpy (I a) (I b) sp.toNatClampNeg dp.toNatClampNeg z.toNatClampNeg j)) := va_copied (fun w => .int w) cA cB (I a) (I b) h4
  rw [e1] at X' step
  have oq : ∀ q : Nat, q ≠ b → (H.setIfInBounds b (arrV cB n1 (fun j => .int (va_cpy (I a) (I b) sp.toNatClampNeg dp.toNatClampNeg z.toNatClampNeg j))))[q]? = H[q]? := fun q hq => by simp [Array.getElem?_setIfInBounds, Ne.symm hq]
  have hcp : ∀ j, cp2 I a sp.toNatClampNeg b dp.toNatClampNeg z.toNatClampNeg b j = va_cpy (I a) (I b) sp.toNatClampNeg dp.toNatClampNeg z.toNatClampNeg j := fun j => by simp [cp2, va_cpy]
  have hsz : (H.setIfInBounds b (arrV cB n1 (fun j => .int (va_cpy (I a) (I b) sp.toNatClampNeg dp.toNatClampNeg z.toNatClampNeg j)))).size = H.size := by simp
  obtain ⟨t, a1, b1⟩ := kk _ _ (hP.put (I' := cp2 I a sp.toNatClampNeg b dp.toNatClampNeg z.toNatClampNeg) hb0 hsz oq (fun d j hd0 => by simp [cp2, hd0]) (fun _ _ _ => rfl) ⟨fun w => by omega, fun _ => ⟨cB, by
      rw [Array.getElem?_setIfInBounds_self_of_lt hbz]
      simp only [hcp], v2, v3⟩, fun u w => by omega, fun w => by omega, fun w => by omega⟩) hl ⟨by rw [hsz]; exact hS.1, fun q q1 q2 => by
      rw [oq q (fun e9 => q2 (by rw [e9]; exact hbA))]
      exact hS.2.1 q q1 q2, fun q hq => by
      rcases List.mem_append.mp hq with h | h
      · exact hS.2.2 q h
      · obtain ⟨w, -, hw⟩ := List.mem_map.mp h
        rw [← hw]
        exact hbA⟩ _ (by rw [← hT]; rfl) X'
  exact ⟨t, step t a1, b1⟩
end SIM
