/-! the simulation is whole: what V says, W says -/
theorem fL_ty : fL.all (fun q => decide (q.2.2.2.1 < 3)) = true := by decide +kernel
theorem kL_cd : kL.all (fun q => decide (q.2.1 < 1009)) = true := by decide +kernel
section SIM
variable {l : Launch} {K J : Nat → Nat} {mi pc n : Nat} {L : VL} {st : List Value} {sh : HS} {I : HI} {R : HR} {c : Nat × Nat} {F : VF} {ins : Instr}
theorem sim_Vm0 {ix code b pos : Nat} (hd : decode (mB mi) pc = .ok (.invokestatic ix, n)) (hn : n = iln (.invokestatic ix) n) (hf : lk2 kL (mC mi) ix = some (code, b, pos)) (h4 : code < 1004) (h : Vm (MW l K J) code mi pc L st sh I R c F) : MW l K J mi pc L st sh I R c F := by
  unfold Vm at h
  split at h
  · split at h
    · exact sim_mm hd hn hf (Or.inl ⟨rfl, rfl⟩) h.1 h.2
    · exact h.elim
  · split at h
    · exact sim_mm hd hn hf (Or.inr ⟨rfl, rfl⟩) h.1 h.2
    · exact h.elim
  · split at h
    · exact sim_abs hd hn hf h.1 h.2
    · exact h.elim
  · split at h
    · obtain ⟨g, ⟨n0, n1, e1, e2, e3, e4, e5, e6, e7⟩, k⟩ := h
      exact sim_cpy hd hn hf g e1 e2 e3 e4 e5 e6 e7 k
    · exact h.elim
  · omega
  · exact h.elim
theorem sim_Vm2 {ix code b pos : Nat} (hd : decode (mB mi) pc = .ok (.invokespecial ix, n)) (hn : n = iln (.invokespecial ix) n) (hf : lk2 kL (mC mi) ix = some (code, b, pos)) (h4 : code = 1004) (h : Vm (MW l K J) code mi pc L st sh I R c F) : MW l K J mi pc L st sh I R c F := by
  subst h4
  unfold Vm at h
  simp only at h
  split at h
  · exact sim_oin hd hn hf h.1 h.2
  · exact h.elim
end SIM
section SIM
variable {l : Launch} {K J : Nat → Nat} {mi pc n : Nat} {L : VL} {st : List Value} {sh : HS} {I : HI} {R : HR} {c : Nat × Nat} {F : VF} {ins : Instr}
theorem sim_Vi (hd : decode (mB mi) pc = .ok (ins, n)) (hn : n = iln ins n) (h : Vi K J (MW l K J) ins n mi pc L st sh I R c F) : MW l K J mi pc L st sh I R c F := by
  unfold Vi at h
  cases e1 : ldI ins with
  | some ti =>
    obtain ⟨t, i⟩ := ti
    simp only [e1] at h
    rcases e2 : L[i]? with _ | (_ | v) <;> simp only [e2] at h
    exact sim_ld hd hn e1 e2 h.1 h.2
  | none =>
  simp only [e1] at h
  cases e2 : stI ins with
  | some ti =>
    obtain ⟨t, i⟩ := ti
    simp only [e2] at h
    cases st with
    | nil => exact h.elim
    | cons v r => exact sim_st hd hn e2 h.1 h.2.1 h.2.2.1 h.2.2.2.1 h.2.2.2.2
  | none =>
  simp only [e2] at h
  cases e3 : cst mi ins with
  | some v => simp only [e3] at h; exact sim_cst hd hn e3 h
  | none =>
  simp only [e3] at h
  cases e4 : cstS mi ins with
  | some v => simp only [e4] at h; exact sim_cstS hd hn e4 h.2
  | none =>
  simp only [e4] at h
  cases e5 : cstJ mi ins with
  | some v => simp only [e5] at h; exact sim_cstJ hd hn e5 h
  | none =>
  simp only [e5] at h
  cases e6 : ari ins st with
  | some v => simp only [e6] at h; exact sim_ari hd hn e6 h
  | none =>
  simp only [e6] at h
  cases e7 : bra ins st with
  | some v =>
    obtain ⟨b, o, r⟩ := v
    simp only [e7] at h
    exact sim_bra hd hn e7 h.1 h.2.1 h.2.2
  | none =>
  simp only [e7] at h
  clear e1 e2 e3 e4 e5 e6 e7
  cases ins with
  | goto o => exact sim_goto hd hn h.1 h.2
  | tableswitch a b d e =>
    simp only at h
    split at h
    · split at h
      · rename_i e9; exact sim_tab hd e9 h.1 h.2
      · exact h.elim
    · exact h.elim
  | lookupswitch a b =>
    simp only at h
    split at h
    · split at h
      · rename_i e9; exact sim_lkp hd e9 h.1 h.2
      · exact h.elim
    · exact h.elim
  | iinc i z =>
    simp only at h
    split at h
    · rename_i e9; exact sim_iinc hd hn e9 h.1 h.2.1 h.2.2
    · exact h.elim
  | idiv => simp only at h; split at h <;> first | exact h.elim | exact sim_idiv hd hn h.1 h.2
  | irem => simp only at h; split at h <;> first | exact h.elim | exact sim_irem hd hn h.1 h.2
  | ddiv => simp only at h; split at h <;> first | exact h.elim | exact sim_ddiv hd hn h.1 h.2
  | getfield ix =>
    simp only at h
    split at h
    · rename_i t k ty pos e9
      have hty : ty < 3 := by
        have := List.all_eq_true.mp fL_ty _ (lk2m e9).1
        simpa using this
      split at h
      · split at h
        · obtain ⟨i, q1, rfl, q3⟩ := h
          exact sim_getS hd hn e9 q1 q3
        · obtain ⟨i, q1, rfl, q3⟩ := h
          exact sim_getC hd hn e9 q1 q3
        · exact sim_get hd hn e9 h.1 h.2.1 hty h.2.2
      · exact h.elim
    · exact h.elim
  | putfield ix =>
    simp only at h
    split at h
    · rename_i e9
      split at h
      · exact sim_put hd hn e9 h.1.1 h.1.2.1 h.1.2.2 (Or.inl ⟨_, rfl, h.2.1, h.2.2.1, rfl, rfl⟩) h.2.2.2
      · exact sim_put hd hn e9 h.1.1 h.1.2.1 h.1.2.2 (Or.inr ⟨_, rfl, h.2.1, rfl, rfl⟩) h.2.2
      · exact h.elim
    · exact h.elim
  | getstatic ix =>
    simp only at h
    split at h
    · rename_i e9; exact sim_gets hd hn e9 (fun v z _ => by rw [z rfl]; exact h)
    · rename_i e8 e9; exact sim_gets hd hn e9 (fun v _ z => h v (z (fun w => e8 w)))
    · exact h.elim
  | iaload => simp only at h; split at h <;> first | exact h.elim | exact sim_iald hd hn h.1 h.2
  | aaload =>
    simp only at h
    split at h
    · obtain ⟨⟨t, m, q1, q2⟩, k⟩ := h
      exact sim_aald hd hn ⟨m, q1, q2⟩ k
    · exact h.elim
  | iastore => simp only at h; split at h <;> first | exact h.elim | exact sim_iast hd hn h.1 h.2
  | aastore =>
    simp only at h
    split at h
    · obtain ⟨⟨t, m, m2, q1, q2, q3, q4⟩, k⟩ := h
      exact sim_aast hd hn ⟨m, m2, q1, q2, q3, q4⟩ k
    · exact h.elim
  | baload =>
    simp only at h
    split at h
    · obtain ⟨k, q1, rfl, q3, q4⟩ := h
      exact sim_bald hd hn q1 q3 q4
    · exact h.elim
  | arraylength =>
    simp only at h
    split at h
    · obtain ⟨k, q1, rfl, q3⟩ := h
      exact sim_alen hd hn q1 q3
    · exact h.elim
  | new ix =>
    simp only at h
    split at h
    · rename_i e9; exact sim_new hd hn e9 h.1 h.2.1 h.2.2
    · exact h.elim
  | newarray ty =>
    cases ty <;> simp only at h
    split at h
    · exact sim_newa hd hn h.1 h.2.1 h.2.2.1 h.2.2.2.1 h.2.2.2.2
    · exact h.elim
  | anewarray ix =>
    simp only at h
    split at h
    · rename_i e9
      split at h
      · exact sim_anew hd hn e9 h.1.2 h.1.1 h.2.1 h.2.2.1 h.2.2.2.1 h.2.2.2.2
      · exact h.elim
    · exact h.elim
  | invokestatic ix =>
    simp only at h
    split at h
    · rename_i code w e9
      obtain ⟨w1, w2⟩ := w
      have hn3 : n = 3 := hn
      by_cases q : code < 1000
      · exact sim_call (kd := 0) (Or.inl ⟨rfl, by rw [← hn3]; exact hd⟩) e9 q (h.1 q)
      · exact sim_Vm0 hd hn e9 (h.2 q).1 (h.2 q).2
    · exact h.elim
  | invokevirtual ix =>
    simp only at h
    split at h
    · rename_i code w e9
      obtain ⟨w1, w2⟩ := w
      have hn3 : n = 3 := hn
      exact sim_call (kd := 1) (Or.inr (Or.inl ⟨rfl, by rw [← hn3]; exact hd⟩)) e9 h.1 h.2
    · exact h.elim
  | invokespecial ix =>
    simp only at h
    split at h
    · rename_i code w e9
      obtain ⟨w1, w2⟩ := w
      have hn3 : n = 3 := hn
      by_cases q : code < 1000
      · exact sim_call (kd := 2) (Or.inr (Or.inr ⟨rfl, by rw [← hn3]; exact hd⟩)) e9 q (h.1 q)
      · exact sim_Vm2 hd hn e9 (h.2 q).1 (h.2 q).2
    · exact h.elim
  | return_ =>
    obtain ⟨h1, rfl, h3, h4, h5⟩ := h
    exact sim_vret hd hn h1 h3 h4 h5
  | ireturn => simp only at h; split at h <;> first | exact h.elim | exact sim_iret hd hn h.1 h.2.1 h.2.2.1 h.2.2.2
  | areturn => simp only at h; split at h <;> first | exact h.elim | exact sim_aret hd hn h.1 h.2.1 h.2.2.1 h.2.2.2
  | dreturn => simp only at h; split at h <;> first | exact h.elim | exact sim_dret hd hn h.1 h.2.1 h.2.2.1 h.2.2.2
  | _ => exact h.elim
theorem sim_Vs (h : Vs K J (MW l K J) mi pc L st sh I R c F) : MW l K J mi pc L st sh I R c F := by
  unfold Vs at h
  split at h
  · rename_i e9; exact sim_thr e9 h.1 h.2.1 h.2.2.1 h.2.2.2
  · split at h
    · rename_i e9; exact sim_Vi e9 h.1 h.2
    · exact h.elim
/-- the small machine is the machine's -/
theorem V_MW (h : V K J mi pc L st sh I R c F) : MW l K J mi pc L st sh I R c F := h (MW l K J) (fun _ _ _ _ _ _ _ _ _ g => sim_Vs g)
end SIM
