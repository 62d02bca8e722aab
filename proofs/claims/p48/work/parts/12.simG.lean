theorem mt_f {q : Nat} (hq : q < mT.length) : Cond.code (mY q) (mB q) (mL q) (mRt q) ∈ wAll ∧ (mK q = 0 → Cond.static (mY q) ∈ wAll) ∧ (¬ mK q = 0 → Cond.instanceMethod (mY q) ∈ wAll) ∧ (mK q = 1 → Cond.selects (cN (rcN (mC q))) (mY q) (mY q) ∈ wAll) ∧ Cond.initialized (mY q).cls ∈ wAll ∧ (mY q).cls = cN (mC q) ∧ plainName (mY q).cls = true ∧
    ((mY q).cls ≠ "java/lang/invoke/MethodHandle" ∧ (mY q).cls ≠ "java/lang/invoke/VarHandle") ∧ (parseMethodDescriptor (mY q).desc).map (fun d => d.parameters.length) = some (if mK q = 0 then mN q else mN q - 1) ∧ (mK q = 2 → (mY q).name = "<init>" ∧ mRt q = none) ∧ (¬ mK q = 0 → 0 < mN q) ∧ (rcN (mC q) < 15 → (vwCl[rcN (mC q)]?).map (fun r => r.1) = some (cN (rcN (mC q)))) ∧ (mC q = 14 → cN (mC q) = "java/lang/String") := by
  have hm := mt_at hq
  unfold mchkT at hm
  simp only [List.all_cons, List.all_nil, id_eq, Bool.and_eq_true, decide_eq_true_eq] at hm
  obtain ⟨m3, m4, m5, m6, m7, m8, m9, m10, m11, m12, m13, m14, m15, -⟩ := hm
  refine ⟨List.mem_filter.mpr ⟨code_in (mG_in hq), rfl⟩, fun z => ?_, fun z => ?_, fun z => ?_, wAll_at m5 rfl, m6, m7, ⟨m8, m9⟩, m10, fun z => ?_, fun z => ?_, fun z => ?_, fun z => ?_⟩
  · have z2 : (mG q).2.2.2.2.1.2.1 = 0 := z
    rw [if_pos z2, decide_eq_true_eq] at m3
    exact wAll_at m3 rfl
  · have z2 : ¬ (mG q).2.2.2.2.1.2.1 = 0 := z
    rw [if_neg z2, decide_eq_true_eq] at m3
    exact wAll_at m3 rfl
  · have z2 : (mG q).2.2.2.2.1.2.1 = 1 := z
    rw [if_pos z2, decide_eq_true_eq] at m4
    exact wAll_at m4 rfl
  · have z2 : (mG q).2.2.2.2.1.2.1 = 2 := z
    rw [if_pos z2, Bool.and_eq_true, decide_eq_true_eq, decide_eq_true_eq] at m11
    exact m11
  · have z2 : ¬ (mG q).2.2.2.2.1.2.1 = 0 := z
    rw [if_neg z2, decide_eq_true_eq] at m12
    exact m12
  · have z2 : rcN (mG q).2.2.2.2.1.1 < 15 := z
    rw [if_pos z2, decide_eq_true_eq] at m13
    exact m13
  · have z2 : (mG q).2.2.2.2.1.1 = 14 := z
    rw [if_pos z2, decide_eq_true_eq] at m14
    exact m14
def wsM (k : Nat) : List Cond := Cond.code (mY k) (mB k) (mL k) (mRt k) :: wAll
theorem lg_len : ∀ (vs : List Value), (lg_sl vs).length = (entA vs).length
  | [] => rfl
  | v :: vs => by
    have h := lg_len vs
    unfold lg_sl at h ⊢
    rw [List.flatMap_cons, entA, List.length_append, h]
    by_cases c : v.category = 2
    · simp only [if_pos c, List.length_cons, List.length_nil]
      omega
    · simp only [if_neg c, List.length_cons, List.length_nil]
      omega
theorem ent_args : ∀ (vs : List Value) (b i : Nat) (v : Value), (entA vs)[i]? = some (some v) → (b + i, v) ∈ lv_args b vs
  | [], b, i, v, h => by simp [entA] at h
  | w :: vs, b, i, v, h => by
    rw [entA] at h
    rw [lv_args]
    by_cases c : w.category = 2
    · rw [if_pos c] at h ⊢
      rcases i with _ | _ | i
      · simp only [List.getElem?_cons_zero, Option.some.injEq] at h
        rw [h]
        exact List.mem_cons_self
      · simp at h
      · simp only [List.getElem?_cons_succ] at h
        have := ent_args vs (b + 2) i v h
        rw [show b + (i + 1 + 1) = b + 2 + i by omega]
        exact List.mem_cons_of_mem _ this
    · rw [if_neg c] at h ⊢
      rcases i with _ | i
      · simp only [List.getElem?_cons_zero, Option.some.injEq] at h
        rw [h]
        exact List.mem_cons_self
      · simp only [List.getElem?_cons_succ] at h
        have := ent_args vs (b + 1) i v h
        rw [show b + (i + 1) = b + 1 + i by omega]
        exact List.mem_cons_of_mem _ this
theorem entA_in : ∀ (vs : List Value) (i : Nat) (v : Value), (entA vs)[i]? = some (some v) → v ∈ vs
  | [], i, v, h => by simp [entA] at h
  | w :: vs, i, v, h => by
    rw [entA] at h
    by_cases c : w.category = 2
    · rw [if_pos c] at h
      rcases i with _ | _ | i
      · simp only [List.getElem?_cons_zero, Option.some.injEq] at h
        rw [h]; exact List.mem_cons_self
      · simp at h
      · simp only [List.getElem?_cons_succ] at h
        exact List.mem_cons_of_mem _ (entA_in vs i v h)
    · rw [if_neg c] at h
      rcases i with _ | i
      · simp only [List.getElem?_cons_zero, Option.some.injEq] at h
        rw [h]; exact List.mem_cons_self
      · simp only [List.getElem?_cons_succ] at h
        exact List.mem_cons_of_mem _ (entA_in vs i v h)
theorem ent_at {n i : Nat} {vs : List Value} {v : Value} (h : (ent n vs)[i]? = some (some v)) : (entA vs)[i]? = some (some v) := by
  unfold ent at h
  by_cases q : i < (entA vs).length
  · rwa [List.getElem?_append_left q] at h
  · rw [List.getElem?_append_right (by omega)] at h
    have := List.eq_of_mem_replicate (List.mem_of_getElem? h)
    cases this
theorem ent_lok {q : Nat} {vs : List Value} (h : (entA vs).length ≤ mL q) (hc : vs.all (fun v => v.category == 1) = true ∨ mHl q = true) : lok q ((lg_sl vs ++ List.replicate (mL q - (lg_sl vs).length) Slot.unset).toArray) (ent (mL q) vs) := by
  have e := lv_entry vs (n := mL q) (by rw [lg_len]; exact h)
  refine ⟨e.1, ?_, e.2.1, fun i v hv => ⟨e.2.2 (i, v) (by have := ent_args vs 0 i v (ent_at hv); rwa [Nat.zero_add] at this), fun h2 => ?_⟩⟩
  · unfold ent
    rw [List.length_append, List.length_replicate]
    omega
  · rcases hc with hc | hc
    · have := List.all_eq_true.mp hc v (entA_in vs i v (ent_at hv))
      simp only [beq_iff_eq] at this
      omega
    · exact hc
theorem WB2.warm {K J : Nat → Nat} {A : Nat → Prop} {s U : State} {H : Heap} (hW : s.WarmedH U.vm) (h : WB2 K J A s H) : WB2 K J A U H := by
  obtain ⟨⟨h1, h2, h3, h4, h5⟩, h6, h7, h8, h9, h10, h11, h12, h13⟩ := h
  refine ⟨⟨va_Z.moved hW.alike h1, va_Z.moved hW.alike h2, va_Z.moved hW.alike h3, va_Z.moved hW.alike h4, va_Z.moved hW.alike h5⟩, fun q hq z => ?_, fun w hw => ?_, va_Mi.moved hW.alike h8, va_Dc.moved hW.alike h9, va_AO.moved hW.alike h10, va_AOA.moved hW.alike h11, va_Fw.moved ⟨by decide, by decide⟩ hW.alike h12, va_Fw.moved ⟨by decide, by decide⟩ hW.alike h13⟩
  · have g := h6 q hq z
    unfold fxN at g ⊢
    cases hr : vwCl[q.2.1]? with
    | none => rw [hr] at g; exact va_Nw.warmC hW g
    | some r => rw [hr] at g; exact va_Nw.warmF hW g
  · have g := h7 w hw
    unfold nW2 at hw
    simp only [List.mem_cons, List.not_mem_nil, or_false] at hw
    rcases hw with rfl | rfl | rfl | rfl <;> exact va_Nw.warmC hW g
theorem WB2.at {K J : Nat → Nat} {A B : Nat → Prop} {s : State} {H H1 : Heap} (h : WB2 K J A s H) (hq : ∀ a : Nat, a < H.size → ¬ A a → H1[a]? = H[a]?) (hB : ∀ q, B q → A q) : WB2 K J B s H1 := by
  obtain ⟨⟨h1, h2, h3, h4, h5⟩, h6⟩ := h
  exact ⟨⟨(h1.kept hq).narrow hB, (h2.kept hq).narrow hB, (h3.kept hq).narrow hB, (h4.kept hq).narrow hB, (h5.kept hq).narrow hB⟩, h6⟩
theorem WB.warm {K J : Nat → Nat} {A : Nat → Prop} {s U : State} {H : Heap} (hW : s.WarmedH U.vm) (h : WB K J A s H) : WB K J A U H := by
  obtain ⟨h1, h2, h3, h4, h5, h6, h7, h8, h9, h10⟩ := h
  refine ⟨vk_S.moved hW.alike h1, fun q hq => vk_R.warm hW (h2 q hq), fun w hw => ?_, fun q hq z => va_Nw.warmM hW (h4 q hq z), vx_Zq.moved hW.alike h5, vx_Zq.moved hW.alike h6, va_Z.moved hW.alike h7, va_Zq.moved hW.alike h8, fun C hC => va_AO.moved hW.alike (h9 C hC), h10.warm hW⟩
  have g := h3 w hw
  unfold nW at hw
  simp only [List.mem_cons, List.not_mem_nil, or_false] at hw
  rcases hw with rfl | rfl | rfl | rfl | rfl | rfl
  · exact va_Nw.warmC hW g
  · exact va_Nw.warmC hW g
  · exact va_Nw.warmC hW g
  · exact va_Nw.warmD hW g
  · exact va_Nw.warmD hW g
  · exact va_Nw.warmD hW g
theorem WB.at {K J : Nat → Nat} {A B : Nat → Prop} {s : State} {H H1 : Heap} (h : WB K J A s H) (hq : ∀ a : Nat, a < H.size → ¬ A a → H1[a]? = H[a]?) (hB : ∀ q, B q → A q) : WB K J B s H1 := by
  obtain ⟨h1, h2, h3, h4, h5, h6, h7, h8, h9, h10⟩ := h
  exact ⟨(h1.kept hq).narrow hB, h2, h3, h4, (h5.kept hq).narrow hB, (h6.kept hq).narrow hB, (h7.kept hq).narrow hB, (h8.kept hq).narrow hB, h9, h10.at hq hB⟩
theorem WB.same {K J : Nat → Nat} {A : Nat → Prop} {s U : State} {H : Heap} (hv : U.vm = s.vm) (h : WB K J A s H) : WB K J A U H := WB.warm (by rw [hv]; exact State.WarmedH.refl s) h
section SIM
variable {l : Launch} {K J : Nat → Nat} {mi pc n : Nat} {L : VL} {st : List Value} {sh : HS} {I : HI} {R : HR} {c : Nat × Nat} {F : VF} {ins : Instr}
def PcM (K J : Nat → Nat) (D : va_G) (A : Nat → Prop) (hz : Nat) (sh : HS) (I : HI) (R : HR) : State → Prop := fun U => U.heap.size = hz ∧ va_K D vwCl [] U ∧ WB K J A U U.heap ∧ RP D U A sh I R U.heap
theorem PcM_blind {D : va_G} {A : Nat → Prop} {hz : Nat} {As : List Value} : FrameBlind (va_Pc As (PcM K J D A hz sh I R)) := by
  intro a U g mk h
  obtain ⟨h1, h2, h3, h4, h5⟩ := h
  exact ⟨h1, h2, va_K.moved (u := U) (U := U.calling g mk a) (Vm.Alike.refl U.vm) h3, WB.same (s := U) (U := U.calling g mk a) rfl h4, RP.moved (s := U) (U := U.calling g mk a) (Vm.Alike.refl U.vm) h5⟩
/-- a method's contract out of its small machine -/
theorem met_of {q hz : Nat} {D : va_G} {A : Nat → Prop} {As : List Value} {G : VF} (hq : q < mT.length) (htr : l.stackTraces = false) (hl : (entA As).length ≤ mL q) (hc : As.all (fun v => v.category == 1) = true ∨ mHl q = true) (hA : ∀ x, hz ≤ x → A x)
    (h : MW l K J q 0 (ent (mL q) As) [] sh I R (0, 0) G) : vx_Met l (mY q) (wsM q) (mRm q) (va_Pc As (PcM K J D A hz sh I R)) (QF D A G) (XF D A G) (mCe q) (mSl q) A := by
  obtain ⟨-, -, -, -, -, m6, m7, -, -, m11, -⟩ := mt_f hq
  refine vx_ofW (cc := mB q) (maxL := mL q) (ret := mRt q) m7 rfl ?_
  intro p e s m args below meth cd s₁ B hml hex hv
  obtain ⟨rfl, hsz, hK, hB, hP⟩ := hv
  have hts := atoms_spec (ws := wsM q) B.pre
  have k := h D p e s m As.toArray below meth cd A s.heap [] _ ⟨B.exec, B.bytes, hml, B.returns, by rw [← m6]; exact findClass_of_methodNamed B.named, fun w hw => hts w (List.mem_cons_of_mem _ hw), B.notSynchronized, fun z => ?_, hex, hK, hB, fun x hx => hA x (by omega), htr, trivial⟩ hP (ent_lok hl hc) va_S.rf
  · rw [lg_entry_eq]
    exact k
  · exact (name_of_methodNamed B.named B.method).1.trans (m11 z).1
theorem run_go {p : Program} {e : Env} {s : State} {m : MethodId} {args : Array Value} {below : List Frame} {meth : Method} {cd : Code} {A A' : Nat → Prop} {H : Heap} {locs : List Loc} {ls : Array Slot} {D : va_G} {G : VF} {q : Nat} {a : Array Value} {rest : List Value}
    (C : CX l K J D mi p s m args meth cd A) (hl : lok mi ls L) (hS : va_S A s.heap H locs) (hA' : ∀ x, A' x → A x) (hc : c.1 + mCe q ≤ mCe mi ∧ c.2 + mSl q ≤ mSl mi)
    (hr : vx_Run p l e (mRm mi) s m args below meth cd H locs c.1 c.2 (mCe q) (mSl q) (F0 m pc ls st) rest (QF D A' G a) (XF D A' G) A')
    (k1 : ∀ sh' I' R', G (.inl none) sh' I' R' → MW l K J mi (pc + 3) L rest sh' I' R' (c.1 + mCe q, c.2 + mSl q) F) (k2 : ∀ v sh' I' R', G (.inl (some v)) sh' I' R' → MW l K J mi (pc + 3) L (v :: rest) sh' I' R' (c.1 + mCe q, c.2 + mSl q) F)
    (k3 : ∀ E sh' I' R', G (.inr E) sh' I' R' → F (.inr E) sh' I' R') :
    W p l e (mRm mi) s m args below meth cd H locs c.1 c.2 (vx_MQ below (QF D A F) (XF D A F) args s (mCe mi) (mSl mi) A) (F0 m pc ls st) := by
  intro T hT X
  have RPn : ∀ {t T' : State} {sh' : HS} {I' : HI} {R' : HR}, T'.heap = t.heap → T'.vm = t.vm → s.WarmedH T'.vm → RP D t A' sh' I' R' t.heap → RP D s A sh' I' R' T'.heap := by
    intro t T' sh' I' R' e1 e2 hw h
    have hv : t.vm.Alike s.vm := by rw [← e2]; exact hw.alike.symm
    rw [e1]
    intro b t' n' hb
    obtain ⟨r1, r2, r3⟩ := h b t' n' hb
    exact ⟨fun z => hA' _ (r1 z), r2, rc_moved hv r3⟩
  rcases hr T hT X with ⟨v, st₀, t, T', L', h0, X', hL, e1, e2, ⟨v', sh', I', R', hv, hG, hRP, hF⟩, go⟩ | ⟨x, st₀, t, T', L', E, ce, h0, X', hL, e1, e2, ⟨sh', I', R', hG, hRP, hF⟩, hce, hcv, hcl, go⟩
  · cases hv
    obtain ⟨-, -, g3⟩ := vx_keep h0 e1 hS (fun z _ => hA' z) hA' hL hF
    have hR2 := RPn e1 e2 X'.warmed hRP
    cases v with
    | none =>
      obtain ⟨t2, a1, b1⟩ := k1 _ _ _ hG D p e s m args below meth cd A T'.heap (locs ++ L') ls C hR2 hl g3 T' rfl X'
      exact ⟨t2, go t2 a1, b1⟩
    | some v =>
      obtain ⟨t2, a1, b1⟩ := k2 _ _ _ _ hG D p e s m args below meth cd A T'.heap (locs ++ L') ls C hR2 hl g3 T' rfl X'
      exact ⟨t2, go t2 a1, b1⟩
  · obtain ⟨-, -, g3⟩ := vx_keep h0 e1 hS (fun z _ => hA' z) hA' hL hF
    have hR2 := RPn e1 e2 X'.warmed hRP
    obtain ⟨hx, hb, hml, hr, hown, hts, hlk, hin, hex, hK, hB, hA, htr, hmi⟩ := C
    have kx : vx_W p l e (mRm mi) s m args below meth cd T'.heap (locs ++ L') (c.1 + mCe q) (c.2 + mSl q) (vx_MQ below (QF D A F) (XF D A F) args s (mCe mi) (mSl mi) A) (F0 m pc ls rest) x := by
      refine vx_out (E := E) (ce := ce) (fun y hy => (hex y hy).elim) hlk (by rw [e1]; exact hce) hcv hcl ?_ g3.2.2 hc.1 hc.2
      intro t2 ht2 hw2
      refine ⟨sh', I', R', k3 _ _ _ _ hG, ?_, g3.F ht2⟩
      rw [ht2]
      exact RP.moved hw2 hR2
    obtain ⟨t2, a1, b1⟩ := kx T' rfl X'
    exact ⟨t2, go.trans a1, b1⟩
theorem kl_own {k ix code b pos : Nat} (h : lk2 kL k ix = some (code, b, pos)) (hc : code < 1000) : code < mT.length ∧ ((b = 0 ∧ Cond.methodLink (cN k) ix (mY code) ∈ wAll) ∨ (b = 1 ∧ ((k * 10000 + ix, code, b, pos) ∈ kL ∧ (k * 10000 + ix) / 10000 = k ∧ (k * 10000 + ix) % 10000 = ix))) := by
  obtain ⟨h1, h2, h3⟩ := lk2m h
  have h4 := List.all_eq_true.mp kL_ok _ h1
  unfold kchk at h4
  rw [if_pos hc] at h4
  simp only [h2, h3, Bool.and_eq_true, decide_eq_true_eq] at h4
  refine ⟨h4.1, ?_⟩
  have h5 := h4.2
  split at h5
  · rename_i z
    exact Or.inl ⟨z, wAll_at (by simpa using h5) rfl⟩
  · exact Or.inr ⟨by simpa using h5, h1, h2, h3⟩
end SIM
