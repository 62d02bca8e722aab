/-! arrays copied; methods called by the superclass's name, by an interface, by another name -/
def MI_hasNext : Nat := 145
def MI_next : Nat := 146
def MI_asbLength : Nat := 198
def MI_sbLength : Nat := 161
section SIM
variable {l : Launch} {K J : Nat → Nat} {mi pc n : Nat} {L : VL} {st : List Value} {sh : HS} {I : HI} {R : HR} {c : Nat × Nat} {F : VF} {ins : Instr}
theorem fits_cell {D : va_G} {s : State} {A : Nat → Prop} {H : Heap} {a t m : Nat} (hP : RP D s A sh I R H) (h : sh a = some (t, m)) (ht : t = 21 ∨ t = 23) (hf : ∀ j, j < m → fits .byte (.int (I a j)) = true) : ∀ j, j < m → fits .byte (.int (I a j)) = true := hf
/-- System.arraycopy over bytes -/
theorem sim_cpyB {ix a b x y n0 n1 t0 : Nat} {sp dp z : Int32} (hd : decode (mB mi) pc = .ok (.invokestatic ix, 3)) (hf : lk2 kL (mC mi) ix = some (1003, x, y)) (hg : VmG mi c st)
    (ha : sh a = some (t0, n0)) (ht : t0 = 21 ∨ t0 = 23) (hb0 : sh b = some (21, n1)) (h1 : ¬ sp < 0) (h2 : ¬ dp < 0) (h3 : ¬ z < 0) (h4 : sp.toNatClampNeg + z.toNatClampNeg ≤ n0) (h5 : dp.toNatClampNeg + z.toNatClampNeg ≤ n1) (hfit : ∀ j, j < z.toNatClampNeg → fits .byte (.int (I a (sp.toNatClampNeg + j))) = true)
    (hk : MW l K J mi (pc + 3) L st sh (cp2 I a sp.toNatClampNeg b dp.toNatClampNeg z.toNatClampNeg) R c F) : MW l K J mi pc L (.int z :: .int dp :: .ref b :: .int sp :: .ref a :: st) sh I R c F := by
  intro D p e s m args below meth cd A H locs ls C hP hl hS
  have kk := fun H1 locs1 => hk D p e s m args below meth cd A H1 locs1 ls C
  obtain ⟨hx, hb, hml, hr, hown, hts, hlk, hin, hex, hK, hB, hA, htr, hmi⟩ := C
  obtain ⟨g1, g2, g3, g4, g5⟩ := hg
  unfold catS at g1
  obtain ⟨scr, u1, u2, u3, u4, u5, u6⟩ := ba_cell hP ha ht
  obtain ⟨hbA, hbz, hbc⟩ := hP b 21 n1 hb0
  have hbA := hbA (by omega)
  obtain ⟨cB, v1, v2, v3, v4⟩ := hbc.2.2.2.1 rfl
  obtain ⟨hs6, k0, hk0, cm0, hkk0⟩ := u2
  obtain ⟨-, k1, hk1, cm1, hkk1⟩ := v2 n1 (fun j => .int (I b j))
  intro T hT X
  obtain ⟨vm', X', step⟩ := X.arraycopy hx hown (hts _ (kl_sp hf (by decide))) (hts _ m_cpy.1) (hts _ m_cpy.2.1) (hts _ m_cpy.2.2) (src := a) (dst := b) (cs := scr) (cd := arrV cB n1 (fun j => .int (I b j))) (srcPos := sp) (destPos := dp) (n := z) (by rw [hT]; exact u1) (by rw [hT]; exact v1)
    hs6 (fun _ h => by cases h) u3 (fun h => by cases h) hk0 hk1 hkk0 hkk1 (by simp [refKind]) h1 h2 h3
    (by rw [nn_of h1, nn_of h3]; omega)
    (by rw [nn_of h2, nn_of h3, arrV_size]; omega)
    (fun vm₁ _ i hi => by
      have e9 : scr.slots.getD (sp.toNatClampNeg + i) .null = .int (I a (sp.toNatClampNeg + i)) := by
        rw [Array.getD_eq_getD_getElem?, u6 _ (by omega)]
        rfl
      exact ⟨by rw [e9]; exact hfit i hi, by rw [e9]; exact trivial⟩)
    (g := F0 m pc ls (.int z :: .int dp :: .ref b :: .int sp :: .ref a :: st)) rfl (by rw [hml]; exact hl.1) (rest := st) rfl (by rw [hb]; exact hd) g2 (by
      show 2 * 0 + _ + _ ≤ mLo mi
      rw [show nativeFrameWords "java/lang/System" "arraycopy" 5 = 7 by decide +kernel]
      omega)
  have e1 : copied scr (arrV cB n1 (fun j => .int (I b j))) sp dp z = arrV cB n1 (fun j => .int (va_cpy (I a) (I b) sp.toNatClampNeg dp.toNatClampNeg z.toNatClampNeg j)) := va_copiedX (fun w => .int w) scr cB (I a) (I b) u6 h4
  rw [e1] at X' step
  have oq : ∀ q : Nat, q ≠ b → (H.setIfInBounds b (arrV cB n1 (fun j => .int (va_cpy (I a) (I b) sp.toNatClampNeg dp.toNatClampNeg z.toNatClampNeg j))))[q]? = H[q]? := fun q hq => by simp [Array.getElem?_setIfInBounds, Ne.symm hq]
  have hcp : ∀ j, cp2 I a sp.toNatClampNeg b dp.toNatClampNeg z.toNatClampNeg b j = va_cpy (I a) (I b) sp.toNatClampNeg dp.toNatClampNeg z.toNatClampNeg j := fun j => by simp [cp2, va_cpy]
  have hsz : (H.setIfInBounds b (arrV cB n1 (fun j => .int (va_cpy (I a) (I b) sp.toNatClampNeg dp.toNatClampNeg z.toNatClampNeg j)))).size = H.size := by simp
  obtain ⟨t, a1, b1⟩ := kk _ _ (hP.put (I' := cp2 I a sp.toNatClampNeg b dp.toNatClampNeg z.toNatClampNeg) hb0 hsz oq (fun d j hd0 => by simp [cp2, hd0]) (fun _ _ _ => rfl) ⟨fun w => by omega, fun w => by omega, fun u w => by omega, fun _ => ⟨cB, by
      rw [Array.getElem?_setIfInBounds_self_of_lt hbz]
      simp only [hcp], v2, v3, fun j hj => by
      rw [hcp]
      unfold va_cpy
      split
      · rename_i hh
        have := hfit (j - dp.toNatClampNeg) (by omega)
        exact this
      · exact v4 j hj⟩, fun w => by omega⟩) hl ⟨by rw [hsz]; exact hS.1, fun q q1 q2 => by
      rw [oq q (fun e9 => q2 (by rw [e9]; exact hbA))]
      exact hS.2.1 q q1 q2, fun q hq => by
      rcases List.mem_append.mp hq with h | h
      · exact hS.2.2 q h
      · obtain ⟨w, -, hw⟩ := List.mem_map.mp h
        rw [← hw]
        exact hbA⟩ _ (by rw [← hT]; rfl) X'
  exact ⟨t, step t a1, b1⟩
def cpR (f : HR) (src sp dst dp n : Nat) : HR := fun b j => if b = dst ∧ dp ≤ j ∧ j < dp + n then f src (sp + (j - dp)) else f b j
/-- System.arraycopy over Object[] -/
theorem sim_cpyR {ix a b x y n0 n1 : Nat} {sp dp z : Int32} (hd : decode (mB mi) pc = .ok (.invokestatic ix, 3)) (hf : lk2 kL (mC mi) ix = some (1003, x, y)) (hg : VmG mi c st)
    (ha : sh a = some (46, n0)) (hb0 : sh b = some (46, n1)) (h1 : ¬ sp < 0) (h2 : ¬ dp < 0) (h3 : ¬ z < 0) (h4 : sp.toNatClampNeg + z.toNatClampNeg ≤ n0) (h5 : dp.toNatClampNeg + z.toNatClampNeg ≤ n1) (hel : ∀ j, j < z.toNatClampNeg → ∀ y, R a (sp.toNatClampNeg + j) = some y → okE sh y)
    (hk : MW l K J mi (pc + 3) L st sh I (cpR R a sp.toNatClampNeg b dp.toNatClampNeg z.toNatClampNeg) c F) : MW l K J mi pc L (.int z :: .int dp :: .ref b :: .int sp :: .ref a :: st) sh I R c F := by
  intro D p e s m args below meth cd A H locs ls C hP hl hS
  have kk := fun H1 locs1 => hk D p e s m args below meth cd A H1 locs1 ls C
  obtain ⟨hx, hb, hml, hr, hown, hts, hlk, hin, hex, hK, hB, hA, htr, hmi⟩ := C
  obtain ⟨g1, g2, g3, g4, g5⟩ := hg
  unfold catS at g1
  obtain ⟨cA, u1, u2, u3⟩ := (hP a 46 n0 ha).2.2.2.2.1 16 rfl
  obtain ⟨hbA, hbz, hbc⟩ := hP b 46 n1 hb0
  have hbA := hbA (by omega)
  obtain ⟨cB, v1, v2, v3⟩ := hbc.2.2.1 16 rfl
  obtain ⟨-, k0, hk0, cm0, hkk0⟩ := u2 n0 (fun j => va_rf (R a j))
  obtain ⟨-, k1, hk1, cm1, hkk1⟩ := v2 n1 (fun j => va_rf (R b j))
  have v9 := v3
  obtain ⟨kA, comp, r1, r2, r3, -⟩ := v3
  intro T hT X
  obtain ⟨vm', X', step⟩ := X.arraycopy hx hown (hts _ (kl_sp hf (by decide))) (hts _ m_cpy.1) (hts _ m_cpy.2.1) (hts _ m_cpy.2.2) (src := a) (dst := b) (cs := arrV cA n0 (fun j => va_rf (R a j))) (cd := arrV cB n1 (fun j => va_rf (R b j))) (srcPos := sp) (destPos := dp) (n := z) (by rw [hT]; exact u1) (by rw [hT]; exact v1)
    (fun _ h => by cases h) (fun _ h => by cases h) (fun h => by cases h) (fun h => by cases h) hk0 hk1 hkk0 hkk1 rfl h1 h2 h3
    (by rw [nn_of h1, nn_of h3, arrV_size]; omega)
    (by rw [nn_of h2, nn_of h3, arrV_size]; omega)
    (fun vm₁ hal i hi => by
      have e9 : (arrV cA n0 (fun j => va_rf (R a j))).slots.getD (sp.toNatClampNeg + i) .null = va_rf (R a (sp.toNatClampNeg + i)) := by
        rw [Array.getD_eq_getD_getElem?, arrV_read _ _ (by omega)]
        rfl
      rw [e9]
      cases hy : R a (sp.toNatClampNeg + i) with
      | none => exact ⟨rfl, trivial⟩
      | some y =>
        obtain ⟨cellV, q1, q2, ⟨kC, hkC⟩, q3⟩ := any_of hK hB hP (hel i hi y hy)
        cases hk1.symm.trans r1
        cases hkk1.symm.trans r2
        obtain ⟨kE, hkE, -⟩ := Vm.findClass_spec r3
        obtain ⟨kC', hkC', -⟩ := hal.2.2 _ _ hkC
        obtain ⟨kE', hkE', -⟩ := hal.2.2 _ _ hkE
        refine ⟨rfl, cellV, (show T.heap[y]? = some cellV by rw [hT]; exact q1), (fun q h => by rw [h] at q2; cases q2), ⟨kC', hkC'⟩, ⟨kE', hkE'⟩, ?_⟩
        show vm₁.assignable _ _ = true
        rw [hal.assignable]
        exact q3 _ r3)
    (g := F0 m pc ls (.int z :: .int dp :: .ref b :: .int sp :: .ref a :: st)) rfl (by rw [hml]; exact hl.1) (rest := st) rfl (by rw [hb]; exact hd) g2 (by
      show 2 * 0 + _ + _ ≤ mLo mi
      rw [show nativeFrameWords "java/lang/System" "arraycopy" 5 = 7 by decide +kernel]
      omega)
  have e1 : copied (arrV cA n0 (fun j => va_rf (R a j))) (arrV cB n1 (fun j => va_rf (R b j))) sp dp z = arrV cB n1 (fun j => va_rf (va_cpy (R a) (R b) sp.toNatClampNeg dp.toNatClampNeg z.toNatClampNeg j)) := va_copied va_rf cA cB (R a) (R b) h4
  rw [e1] at X' step
  have oq : ∀ q : Nat, q ≠ b → (H.setIfInBounds b (arrV cB n1 (fun j => va_rf (va_cpy (R a) (R b) sp.toNatClampNeg dp.toNatClampNeg z.toNatClampNeg j))))[q]? = H[q]? := fun q hq => by simp [Array.getElem?_setIfInBounds, Ne.symm hq]
  have hcp : ∀ j, cpR R a sp.toNatClampNeg b dp.toNatClampNeg z.toNatClampNeg b j = va_cpy (R a) (R b) sp.toNatClampNeg dp.toNatClampNeg z.toNatClampNeg j := fun j => by simp [cpR, va_cpy]
  have hsz : (H.setIfInBounds b (arrV cB n1 (fun j => va_rf (va_cpy (R a) (R b) sp.toNatClampNeg dp.toNatClampNeg z.toNatClampNeg j)))).size = H.size := by simp
  obtain ⟨t, a1, b1⟩ := kk _ _ (hP.put (R' := cpR R a sp.toNatClampNeg b dp.toNatClampNeg z.toNatClampNeg) hb0 hsz oq (fun _ _ _ => rfl) (fun d j hd0 => by simp [cpR, hd0]) ⟨fun w => by omega, fun w => by omega, fun u w => ⟨cB, by
      rw [Array.getElem?_setIfInBounds_self_of_lt hbz]
      simp only [hcp], by rw [show u = 16 by omega]; exact v2, by rw [show u = 16 by omega]; exact v9⟩, fun w => by omega, fun w => by omega⟩) hl ⟨by rw [hsz]; exact hS.1, fun q q1 q2 => by
      rw [oq q (fun e9 => q2 (by rw [e9]; exact hbA))]
      exact hS.2.1 q q1 q2, fun q hq => by
      rcases List.mem_append.mp hq with h | h
      · exact hS.2.2 q h
      · obtain ⟨w, -, hw⟩ := List.mem_map.mp h
        rw [← hw]
        exact hbA⟩ _ (by rw [← hT]; rfl) X'
  exact ⟨t, step t a1, b1⟩
/-- getClass() of an Object[] -/
theorem m_gcl : Cond.selects "[Ljava/lang/Object;" ⟨"java/lang/Object", "getClass", "()Ljava/lang/Class;"⟩ ⟨"java/lang/Object", "getClass", "()Ljava/lang/Class;"⟩ ∈ wAll ∧ Cond.instanceMethod ⟨"java/lang/Object", "getClass", "()Ljava/lang/Class;"⟩ ∈ wAll ∧ Cond.native ⟨"java/lang/Object", "getClass", "()Ljava/lang/Class;"⟩ ∈ wAll := ⟨mem_of_contains (by decide +kernel) rfl, mem_of_contains (by decide +kernel) rfl, mem_of_contains (by decide +kernel) rfl⟩
theorem sim_gcl {ix a x y n0 : Nat} (hd : decode (mB mi) pc = .ok (.invokevirtual ix, 3)) (hf : lk2 kL (mC mi) ix = some (1006, x, y)) (hg : VmG mi c st) (ha : sh a = some (46, n0)) (hk : MW l K J mi (pc + 3) L (.ref (J nS) :: st) sh I R c F) : MW l K J mi pc L (.ref a :: st) sh I R c F := by
  intro D p e s m args below meth cd A H locs ls C hP hl hS
  have kk := hk D p e s m args below meth cd A H locs ls C hP hl hS
  obtain ⟨hx, hb, hml, hr, hown, hts, hlk, hin, hex, hK, hB, hA, htr, hmi⟩ := C
  obtain ⟨g1, g2, g3, g4, g5⟩ := hg
  unfold catS at g1
  obtain ⟨cA, u1, u2, kA, comp, u3, u4, u5, u6⟩ := (hP a 46 n0 ha).2.2.2.2.1 16 rfl
  exact va_getC hx hb (by rw [hml, hl.1]) hown (hts _ (kl_sp hf (by decide))) (va_Dc.use hB.2.2.2.2.2.2.2.2.2.2.2.2.2.1) (hts _ m_gcl.1) (hts _ m_gcl.2.1) (hts _ m_gcl.2.2) hB.2.2.2.2.2.2.2.2.2.2.2.2.1 ⟨_, u1, rfl, u6⟩ g2 (by show _ ≤ mLo mi; omega) hd kk
/-- what every call of a method of the tables rests on -/
theorem call_ctx {q : Nat} {D : va_G} {p : Program} {s : State} {m : MethodId} {args : Array Value} {meth : Method} {cd : Code} {A : Nat → Prop} {H : Heap} {locs : List Loc} {As : List Value} {G : VF} (C : CX l K J D mi p s m args meth cd A) (hP : RP D s A sh I R H) (hS : va_S A s.heap H locs) (hq : q < mT.length)
    (h8 : (entA As).length ≤ mL q) (hc : As.all (fun v => v.category == 1) = true) (hV : MW l K J q 0 (ent (mL q) As) [] sh I R (0, 0) G) :
    ∃ A' : Nat → Prop, (∀ x, A' x → A x) ∧ vx_Met l (mY q) (wsM q) (mRm q) (va_Pc As (PcM K J D A' H.size sh I R)) (QF D A' G) (XF D A' G) (mCe q) (mSl q) A' ∧ (∀ U : State, U.heap = H → s.WarmedH U.vm → va_Pc As (PcM K J D A' H.size sh I R) As.toArray U) ∧ (∀ w ∈ wsM q, ∀ (a' : Array Value) (U : State), s.WarmedH U.vm → w.before a' U = true) := by
  obtain ⟨hx, hb, hml, hr, hown, hts, hlk, hin, hex, hK, hB, hA, htr, hmi⟩ := C
  obtain ⟨f1, f2⟩ := mt_f hq
  obtain ⟨A', hA'⟩ : ∃ A' : Nat → Prop, A' = fun x => (∃ y, sh x = some y ∧ (y.1 < 22 ∨ 30 ≤ y.1)) ∨ H.size ≤ x := ⟨_, rfl⟩
  have hsub : ∀ x, A' x → A x := by
    intro x hx0
    rw [hA'] at hx0
    rcases hx0 with ⟨y, hy, hw⟩ | h
    · exact (hP x y.1 y.2 hy).1 hw
    · exact hA x (Nat.le_trans hS.1 h)
  refine ⟨A', hsub, met_of hq htr h8 (Or.inl hc) (fun x hx0 => by rw [hA']; exact Or.inr hx0) hV, ?_, ?_⟩
  · intro U hU hW
    refine ⟨rfl, by rw [hU], va_K.moved hW.alike hK, ?_, ?_⟩
    · rw [hU]; exact WB.warm hW (WB.at hB hS.2.1 hsub)
    · rw [hU]
      refine RP.moved hW.alike (fun x t n' hx0 => ?_)
      obtain ⟨r1, r2, r3⟩ := hP x t n' hx0
      exact ⟨fun z => by rw [hA']; exact Or.inl ⟨_, hx0, z⟩, r2, r3⟩
  · refine pay_in hts (fun w hw => ?_)
    rcases List.mem_cons.mp hw with rfl | hw
    · exact wAll_self _ f1
    · exact wAll_self w hw
theorem run_go5 {p : Program} {e : Env} {s : State} {m : MethodId} {args : Array Value} {below : List Frame} {meth : Method} {cd : Code} {A A' : Nat → Prop} {H : Heap} {locs : List Loc} {ls : Array Slot} {D : va_G} {G : VF} {q : Nat} {a : Array Value} {rest : List Value}
    (C : CX l K J D mi p s m args meth cd A) (hl : lok mi ls L) (hS : va_S A s.heap H locs) (hA' : ∀ x, A' x → A x) (hc : c.1 + mCe q ≤ mCe mi ∧ c.2 + mSl q ≤ mSl mi)
    (hr : vx_Run5 p l e (mRm mi) s m args below meth cd H locs c.1 c.2 (mCe q) (mSl q) (F0 m pc ls st) rest (QF D A' G a) (XF D A' G) A')
    (k1 : ∀ sh' I' R', G (.inl none) sh' I' R' → MW l K J mi (pc + 5) L rest sh' I' R' (c.1 + mCe q, c.2 + mSl q) F) (k2 : ∀ v sh' I' R', G (.inl (some v)) sh' I' R' → MW l K J mi (pc + 5) L (v :: rest) sh' I' R' (c.1 + mCe q, c.2 + mSl q) F)
    (k3 : ∀ E sh' I' R', G (.inr E) sh' I' R' → F (.inr E) sh' I' R') :
    W p l e (mRm mi) s m args below meth cd H locs c.1 c.2 (vx_MQ below (QF D A F) (XF D A F) args s (mCe mi) (mSl mi) A) (F0 m pc ls st) := by
  intro T hT X
  have RPn : ∀ {t T' : State} {sh' : HS} {I' : HI} {R' : HR}, T'.heap = t.heap → T'.vm = t.vm → s.WarmedH T'.vm → RP D t A' sh' I' R' t.heap → RP D s A sh' I' R' T'.heap := by
    intro t T' sh' I' R' e1 e2 hw h
    have hv : t.vm.Alike s.vm := by rw [← e2]; exact hw.alike.symm
    rw [e1]
    intro b t' n' hb
    obtain ⟨r1, r2, r3⟩ := h b t' n' hb
    exact ⟨fun z => hA' _ (r1 z), r2, rc_moved hv r3⟩
  rcases hr T hT X with ⟨v, st₀, t, T', L', h0, X', hL, e1, e2, ⟨v', sh', I', R', hv, hG, hRP, hF⟩, go⟩ | ⟨x, st₀, t, T', L', E, ce, h0, X', hL, e1, e2, ⟨sh', I', R', hG, hRP, hF⟩, hce, hcv, hcl, go⟩
  · cases hv
    obtain ⟨-, -, g3⟩ := vx_keep h0 e1 hS (fun z _ => hA' z) hA' hL hF
    have hR2 := RPn e1 e2 X'.warmed hRP
    cases v with
    | none =>
      obtain ⟨t2, a1, b1⟩ := k1 _ _ _ hG D p e s m args below meth cd A T'.heap (locs ++ L') ls C hR2 hl g3 T' rfl X'
      exact ⟨t2, go t2 a1, b1⟩
    | some v =>
      obtain ⟨t2, a1, b1⟩ := k2 _ _ _ _ hG D p e s m args below meth cd A T'.heap (locs ++ L') ls C hR2 hl g3 T' rfl X'
      exact ⟨t2, go t2 a1, b1⟩
  · obtain ⟨-, -, g3⟩ := vx_keep h0 e1 hS (fun z _ => hA' z) hA' hL hF
    have hR2 := RPn e1 e2 X'.warmed hRP
    obtain ⟨hx, hb, hml, hr, hown, hts, hlk, hin, hex, hK, hB, hA, htr, hmi⟩ := C
    have kx : vx_W p l e (mRm mi) s m args below meth cd T'.heap (locs ++ L') (c.1 + mCe q) (c.2 + mSl q) (vx_MQ below (QF D A F) (XF D A F) args s (mCe mi) (mSl mi) A) (F0 m pc ls rest) x := by
      refine vx_out (E := E) (ce := ce) (fun y hy => (hex y hy).elim) hlk (by rw [e1]; exact hce) hcv hcl ?_ g3.2.2 hc.1 hc.2
      intro t2 ht2 hw2
      refine ⟨sh', I', R', k3 _ _ _ _ hG, ?_, g3.F ht2⟩
      rw [ht2]
      exact RP.moved hw2 hR2
    obtain ⟨t2, a1, b1⟩ := kx T' rfl X'
    exact ⟨t2, go.trans a1, b1⟩

/-- the receiver's cell, of an object made in the run -/
theorem rcv_cell {D : va_G} {s : State} {A : Nat → Prop} {H : Heap} {b t m : Nat} (hK : va_K D vwCl [] s) (hP : RP D s A sh I R H) (h : sh b = some (t, m)) (ht : t < 15) : ∃ cellB : Cell, H[b]? = some cellB ∧ cellB.vm.isStatics = false ∧ s.vm.findClass (cN t) = some cellB.cls := by
  obtain ⟨r, hr0, cell, g1, g2, g3, -⟩ := (hP b t m h).2.2.1 ht
  exact ⟨cell, g1, by rw [g3]; rfl, by rw [g2, cN_cls hr0]; exact (hK.1 _ r hr0).2.1⟩
theorem par_len {q n' : Nat} (hq : q < mT.length) (h0 : ¬ mK q = 0) (hn : n' + 1 = mN q) : ∀ sig, parseMethodDescriptor (mY q).desc = some sig → n' = sig.parameters.length := by
  obtain ⟨-, -, -, -, -, -, -, -, f9, -⟩ := mt_f hq
  intro sig hsig
  rw [hsig] at f9
  have f9' := Option.some.inj f9
  rw [if_neg h0] at f9'
  have : sig.parameters.length = mN q - 1 := f9'
  omega
/-- super.m(..) on a StringBuilder -/
theorem sim_callSU {ix q pos b m0 : Nat} {as rest : List Value} {G : VF} (hd : decode (mB mi) pc = .ok (.invokespecial ix, 3)) (hf : lk2 kL (mC mi) ix = some (q, 0, pos)) (hq : q < mT.length) (hq2 : q < 1000) (hk3 : mK q = 3) (hcc : mC mi = 13) (hsw : Cond.sameMethod (mY q).cls (mY q).cls (mY q).name (mY q).desc ∈ wAll ∧ Cond.superclass (cN 13) (mY q).cls ∈ wAll) (hnm : (mY q).name ≠ "<init>")
    (hn : as.length + 1 = mN q) (hr : catS rest ≤ 8) (he : (entA (as ++ [Value.ref b]).reverse).length ≤ mL q) (hl1 : (as ++ [Value.ref b]).all (fun v => v.category == 1) = true) (hb0 : sh b = some (13, m0)) (hfr : mFr q + 1 ≤ mFr mi ∧ 8 + (mL q + 11) + mLo q ≤ mLo mi) (hcs : c.1 + mCe q ≤ mCe mi ∧ c.2 + mSl q ≤ mSl mi)
    (hV : MW l K J q 0 (ent (mL q) (as ++ [Value.ref b]).reverse) [] sh I R (0, 0) G)
    (k1 : ∀ sh' I' R', G (.inl none) sh' I' R' → MW l K J mi (pc + 3) L rest sh' I' R' (c.1 + mCe q, c.2 + mSl q) F) (k2 : ∀ v sh' I' R', G (.inl (some v)) sh' I' R' → MW l K J mi (pc + 3) L (v :: rest) sh' I' R' (c.1 + mCe q, c.2 + mSl q) F) (k3 : ∀ E sh' I' R', G (.inr E) sh' I' R' → F (.inr E) sh' I' R') :
    MW l K J mi pc L (as ++ Value.ref b :: rest) sh I R c F := by
  intro D p e s m args below meth cd A H locs ls C hP hl hS
  have C' := C
  have e0 : (as ++ [Value.ref b]).reverse = .ref b :: as.reverse := by rw [List.reverse_append]; rfl
  obtain ⟨A', hsub, hM, hPc, hgood⟩ := call_ctx (As := (as ++ [Value.ref b]).reverse) C hP hS hq he (by rw [List.all_reverse]; exact hl1) hV
  obtain ⟨hx, hb, hml, hrr, hown, hts, hlk, hin, hex, hK, hB, hA, htr, hmi⟩ := C
  obtain ⟨f1, f2, f3, f4, f5, f6, f7, f8, f9, f10, f11, f12, f13⟩ := mt_f hq
  obtain ⟨-, hlink⟩ := kl_own hf hq2
  have hlink : Cond.methodLink (cN (mC mi)) ix (mY q) ∈ wAll := by
    rcases hlink with h | h
    · exact h.2
    · exact absurd h.1 (by decide)
  have h0 : ¬ mK q = 0 := by omega
  rw [e0] at hM hPc
  have S : CallFix p m cd (mB mi) (mL mi) s args wAll (cN (mC mi)) := ⟨hx, hb, hml, hown, hts⟩
  have hcell := rcv_cell hK hP hb0 (by decide)
  obtain ⟨r13, hr13, -⟩ := (hP b 13 m0 hb0).2.2.1 (by decide)
  have hat : ClassAt s (cN 13) (D.1 13) := by rw [cN_cls hr13]; exact (hK.1 13 r13 hr13).2
  refine run_go (a := (Value.ref b :: as.reverse).toArray) C' hl hS hsub hcs ?_ k1 k2 k3
  exact vx_runSU (C := cN 13) (cC := D.1 13) (b := b) (As := as.reverse) (n := as.reverse.length) (rest := rest) (bytes := mB q) (maxL := mL q) (ret := mRt q) (ws := wsM q) hat S hM
    ⟨⟨rfl, rfl, hfr.1, hfr.2, hgood, List.mem_cons_self⟩, hts _ hlink, hts _ hsw.1, (by first | (rw [hcc]; exact hts _ hsw.2) | (simp only [hcc]; exact hts _ hsw.2)), hts _ (f3 h0), hts _ f5, hts _ f1, hnm, par_len hq h0 (by first | exact (congrArg (· + 1) List.length_reverse).trans hn | (simp only [List.length_reverse]; exact hn) | simpa using hn)⟩ ⟨PcM_blind, hcell, hPc⟩ rfl rfl hl.1 (by rw [List.reverse_reverse]) (lv_room hr) hd hcs
/-- a method called through the interface Iterator -/
theorem sim_callF {ix cnt q pos pos2 b m0 : Nat} {rest : List Value} {G : VF} (hd : decode (mB mi) pc = .ok (.invokeinterface ix cnt, 5)) (hf : lk2 kI (mC mi) ix = some (q, pos, pos2)) (hq : q < mT.length) (hk4 : mK q = 4) (hn : mN q = 1) (hr : catS rest ≤ 8) (he : 1 ≤ mL q) (hb0 : sh b = some (11, m0)) (hfr : mFr q + 1 ≤ mFr mi ∧ 8 + (mL q + 11) + mLo q ≤ mLo mi) (hcs : c.1 + mCe q ≤ mCe mi ∧ c.2 + mSl q ≤ mSl mi)
    (hV : MW l K J q 0 (ent (mL q) [.ref b]) [] sh I R (0, 0) G)
    (k1 : ∀ sh' I' R', G (.inl none) sh' I' R' → MW l K J mi (pc + 5) L rest sh' I' R' (c.1 + mCe q, c.2 + mSl q) F) (k2 : ∀ v sh' I' R', G (.inl (some v)) sh' I' R' → MW l K J mi (pc + 5) L (v :: rest) sh' I' R' (c.1 + mCe q, c.2 + mSl q) F) (k3 : ∀ E sh' I' R', G (.inr E) sh' I' R' → F (.inr E) sh' I' R') :
    MW l K J mi pc L (.ref b :: rest) sh I R c F := by
  intro D p e s m args below meth cd A H locs ls C hP hl hS
  have C' := C
  obtain ⟨A', hsub, hM, hPc, hgood⟩ := call_ctx (As := [Value.ref b]) C hP hS hq he rfl hV
  obtain ⟨hx, hb, hml, hrr, hown, hts, hlk, hin, hex, hK, hB, hA, htr, hmi⟩ := C
  obtain ⟨f1, f2, f3, f4, f5, f6, f7, f8, f9, f10, f11, f12, f13⟩ := mt_f hq
  obtain ⟨h1, h2, h3⟩ := lk2m hf
  have h4 : kI.all (fun q => decide (lw_tb2[q.2.2.1]? = some (.methodLink (cN (q.1 / 10000)) (q.1 % 10000) (if q.2.1 = MI_hasNext then itX else itY))) && (decide (q.2.1 = MI_hasNext ∨ q.2.1 = MI_next))) = true := by decide +kernel
  have h5 := List.all_eq_true.mp h4 _ h1
  simp only [h2, h3, Bool.and_eq_true, decide_eq_true_eq] at h5
  have h0 : ¬ mK q = 0 := by omega
  have S : CallFix p m cd (mB mi) (mL mi) s args wAll (cN (mC mi)) := ⟨hx, hb, hml, hown, hts⟩
  have hcell := rcv_cell hK hP hb0 (by decide)
  obtain ⟨r13, hr13, -⟩ := (hP b 11 m0 hb0).2.2.1 (by decide)
  have hat : ClassAt s (cN 11) (D.1 11) := by rw [cN_cls hr13]; exact (hK.1 11 r13 hr13).2
  have W2 := hB.2.2.2.2.2.2.2.2.2
  refine run_go5 (a := (Value.ref b :: []).toArray) C' hl hS hsub hcs ?_ k1 k2 k3
  have fin : ∀ (x y : MethodName), va_Fw "java/util/ArrayList$Itr" x y s → mY q = y → (x.cls ≠ "java/lang/invoke/MethodHandle" ∧ x.cls ≠ "java/lang/invoke/VarHandle") → Cond.methodLink (cN (mC mi)) ix x ∈ wAll → Cond.selects (cN 11) x y ∈ wAll → (∀ sig, parseMethodDescriptor x.desc = some sig → 0 = sig.parameters.length) → vx_Run5 p l e (mRm mi) s m args below meth cd H locs c.1 c.2 (mCe q) (mSl q) (F0 m pc ls (.ref b :: rest)) rest (QF D A' G (Value.ref b :: []).toArray) (XF D A' G) A' := by
    intro x y hw hy hxc hlk1 hsel hpar
    obtain ⟨w1, w2, w3, w4, w5⟩ := hw
    subst hy
    exact vx_runF (C := cN 11) (cC := D.1 11) (b := b) (As := []) (n := 0) (rest := rest) (x := x) (bytes := mB q) (maxL := mL q) (ret := mRt q) (ws := wsM q) (count := cnt) hat S hM
      ⟨⟨rfl, rfl, hfr.1, hfr.2, hgood, List.mem_cons_self⟩, hts _ hlk1, va_any rfl w1, va_any rfl w2, hts _ hsel, hts _ (f3 h0), va_any rfl w3, va_any rfl w4, va_any rfl w5, hts _ f5, hts _ f1, hxc, hpar⟩ ⟨PcM_blind, hcell, hPc⟩ rfl rfl hl.1 rfl (lv_room hr) hd hcs
  rcases h5.2 with e | e
  · refine fin itX yJx35411_hasNext_aae02 W2.2.2.2.2.2.2.2.1 (by rw [e]; rfl) ⟨by decide, by decide⟩ ?_ (mem_of_contains (by decide +kernel) rfl) (fun sig hs => ?_)
    · have := h5.1
      rw [if_pos e] at this
      exact wAll_at this rfl
    · have e9 : (parseMethodDescriptor itX.desc).map (fun d => d.parameters.length) = some 0 := by decide +kernel
      rw [hs] at e9
      exact (Option.some.inj e9).symm
  · refine fin itY yJx35411_next_0502b W2.2.2.2.2.2.2.2.2 (by rw [e]; rfl) ⟨by decide, by decide⟩ ?_ (mem_of_contains (by decide +kernel) rfl) (fun sig hs => ?_)
    · have := h5.1
      rw [if_neg (by rw [e]; decide)] at this
      exact wAll_at this rfl
    · have e9 : (parseMethodDescriptor itY.desc).map (fun d => d.parameters.length) = some 0 := by decide +kernel
      rw [hs] at e9
      exact (Option.some.inj e9).symm
/-- StringBuilder.length() called by its superclass's name -/
theorem sim_callLn {ix b m0 pos q9 : Nat} {rest : List Value} {G : VF} (hd : decode (mB mi) pc = .ok (.invokevirtual ix, 3)) (hf : lk2 kL (mC mi) ix = some (q9, 0, pos)) (hq9 : q9 = MI_asbLength) (hr : catS rest ≤ 8) (hb0 : sh b = some (13, m0)) (hfr : mFr MI_sbLength + 1 ≤ mFr mi ∧ 8 + (mL MI_sbLength + 11) + mLo MI_sbLength ≤ mLo mi) (hcs : c.1 + mCe MI_sbLength ≤ mCe mi ∧ c.2 + mSl MI_sbLength ≤ mSl mi)
    (hV : MW l K J MI_sbLength 0 (ent (mL MI_sbLength) [.ref b]) [] sh I R (0, 0) G)
    (k1 : ∀ sh' I' R', G (.inl none) sh' I' R' → MW l K J mi (pc + 3) L rest sh' I' R' (c.1 + mCe MI_sbLength, c.2 + mSl MI_sbLength) F) (k2 : ∀ v sh' I' R', G (.inl (some v)) sh' I' R' → MW l K J mi (pc + 3) L (v :: rest) sh' I' R' (c.1 + mCe MI_sbLength, c.2 + mSl MI_sbLength) F) (k3 : ∀ E sh' I' R', G (.inr E) sh' I' R' → F (.inr E) sh' I' R') :
    MW l K J mi pc L (.ref b :: rest) sh I R c F := by
  intro D p e s m args below meth cd A H locs ls C hP hl hS
  have C' := C
  have hq : MI_sbLength < mT.length := by decide +kernel
  have he : (entA [Value.ref b]).length ≤ mL MI_sbLength := by
    show 1 ≤ mL MI_sbLength
    decide +kernel
  obtain ⟨A', hsub, hM, hPc, hgood⟩ := call_ctx (As := [Value.ref b]) C hP hS hq he rfl hV
  obtain ⟨hx, hb, hml, hrr, hown, hts, hlk, hin, hex, hK, hB, hA, htr, hmi⟩ := C
  obtain ⟨f1, f2, f3, f4, f5, f6, f7, f8, f9, f10, f11, f12, f13⟩ := mt_f hq
  have hq1 : q9 < 1000 := by rw [hq9]; decide
  obtain ⟨-, hlink⟩ := kl_own hf hq1
  have hlink : Cond.methodLink (cN (mC mi)) ix (mY MI_asbLength) ∈ wAll := by
    rw [← hq9]
    rcases hlink with h | h
    · exact h.2
    · exact absurd h.1 (by decide)
  have h0 : ¬ mK MI_sbLength = 0 := by decide +kernel
  have S : CallFix p m cd (mB mi) (mL mi) s args wAll (cN (mC mi)) := ⟨hx, hb, hml, hown, hts⟩
  have hcell := rcv_cell hK hP hb0 (by decide)
  have hqa : MI_asbLength < mT.length := by decide +kernel
  obtain ⟨a1, -, a3, -⟩ := mt_f hqa
  have ha0 : ¬ mK MI_asbLength = 0 := by decide +kernel
  have hdecl : va_Decl s ⟨"java/lang/AbstractStringBuilder", (mY MI_asbLength).name, (mY MI_asbLength).desc⟩ := va_Decl.of (args := args) (hts _ (a3 ha0)) (hts _ a1)
  refine run_go (a := (Value.ref b :: []).toArray) C' hl hS hsub hcs ?_ k1 k2 k3
  exact vx_runU (C := cN 13) (owner := "java/lang/AbstractStringBuilder") (b := b) (As := []) (n := 0) (rest := rest) (x := mY MI_asbLength) (bytes := mB MI_sbLength) (maxL := mL MI_sbLength) (ret := mRt MI_sbLength) (ws := wsM MI_sbLength) S hM
    ⟨⟨rfl, rfl, hfr.1, hfr.2, hgood, List.mem_cons_self⟩, hts _ f1, hts _ f5, ⟨by decide, by decide⟩, fun sig hs => par_len hqa ha0 (by decide +kernel) sig hs, hts _ hlink, hts _ (mem_of_contains (by decide +kernel) rfl), hdecl, hts _ (mem_of_contains (by decide +kernel) rfl), hts _ (f3 h0)⟩ ⟨PcM_blind, hcell, hPc⟩ rfl rfl hl.1 rfl (lv_room hr) hd hcs
end SIM
