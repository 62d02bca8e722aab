/-! V is the least fixed point of Vs, and monotone in what it ends with -/
theorem Vc_mono {K : Nat → Nat} {X Y : VT} {F G : VF} {kd q mi pc : Nat} {L : VL} {st : List Value} {sh : HS} {I : HI} {R : HR} {c : Nat × Nat} (hF : ∀ mi pc L st sh I R c, X mi pc L st sh I R c F → Y mi pc L st sh I R c G) (hX : ∀ mi pc L st sh I R c H, X mi pc L st sh I R c H → Y mi pc L st sh I R c H) (hFG : ∀ o sh I R, F o sh I R → G o sh I R)
    (h : Vc K X kd q mi pc L st sh I R c F) : Vc K Y kd q mi pc L st sh I R c G := by
  obtain ⟨a1, a2, a3, a4, a5, a6, a7, a8, P, b1, b2, b3, b4⟩ := h
  exact ⟨a1, a2, a3, a4, a5, a6, a7, a8, P, hX _ _ _ _ _ _ _ _ _ b1, fun _ _ _ g => hF _ _ _ _ _ _ _ _ (b2 _ _ _ g), fun _ _ _ _ g => hF _ _ _ _ _ _ _ _ (b3 _ _ _ _ g), fun _ _ _ _ g => hFG _ _ _ _ (b4 _ _ _ _ g)⟩
theorem Vm_mono {X Y : VT} {F G : VF} {q mi pc : Nat} {L : VL} {st : List Value} {sh : HS} {I : HI} {R : HR} {c : Nat × Nat} (hF : ∀ mi pc L st sh I R c, X mi pc L st sh I R c F → Y mi pc L st sh I R c G)
    (h : Vm X q mi pc L st sh I R c F) : Vm Y q mi pc L st sh I R c G := by
  unfold Vm at h ⊢
  split at h
  · split at h <;> first | exact h.elim | exact ⟨h.1, hF _ _ _ _ _ _ _ _ h.2⟩
  · split at h <;> first | exact h.elim | exact ⟨h.1, hF _ _ _ _ _ _ _ _ h.2⟩
  · split at h <;> first | exact h.elim | exact ⟨h.1, hF _ _ _ _ _ _ _ _ h.2⟩
  · split at h <;> first | exact h.elim | exact ⟨h.1, h.2.1, hF _ _ _ _ _ _ _ _ h.2.2⟩
  · split at h <;> first | exact h.elim | exact ⟨h.1, hF _ _ _ _ _ _ _ _ h.2⟩
  · exact h.elim
set_option maxHeartbeats 4000000 in
theorem Vi_mono {K J : Nat → Nat} {X Y : VT} {F G : VF} {ins : Instr} {n mi pc : Nat} {L : VL} {st : List Value} {sh : HS} {I : HI} {R : HR} {c : Nat × Nat} (hF : ∀ mi pc L st sh I R c, X mi pc L st sh I R c F → Y mi pc L st sh I R c G) (hX : ∀ mi pc L st sh I R c H, X mi pc L st sh I R c H → Y mi pc L st sh I R c H) (hFG : ∀ o sh I R, F o sh I R → G o sh I R)
    (h : Vi K J X ins n mi pc L st sh I R c F) : Vi K J Y ins n mi pc L st sh I R c G := by
  unfold Vi at h ⊢
  cases e1 : ldI ins with
  | some ti =>
    obtain ⟨t, i⟩ := ti
    simp only [e1] at h ⊢
    rcases e2 : L[i]? with _ | (_ | v) <;> simp only [e2] at h ⊢
    exact ⟨h.1, hF _ _ _ _ _ _ _ _ h.2⟩
  | none =>
  simp only [e1] at h ⊢
  cases e2 : stI ins with
  | some ti =>
    obtain ⟨t, i⟩ := ti
    simp only [e2] at h ⊢
    cases st with
    | nil => exact h.elim
    | cons v r => exact ⟨h.1, h.2.1, h.2.2.1, h.2.2.2.1, hF _ _ _ _ _ _ _ _ h.2.2.2.2⟩
  | none =>
  simp only [e2] at h ⊢
  cases e3 : cst mi ins with
  | some v => simp only [e3] at h ⊢; exact hF _ _ _ _ _ _ _ _ h
  | none =>
  simp only [e3] at h ⊢
  cases e4 : cstS mi ins with
  | some v => simp only [e4] at h ⊢; exact ⟨h.1, hF _ _ _ _ _ _ _ _ h.2⟩
  | none =>
  simp only [e4] at h ⊢
  cases e5 : cstJ mi ins with
  | some v => simp only [e5] at h ⊢; exact hF _ _ _ _ _ _ _ _ h
  | none =>
  simp only [e5] at h ⊢
  cases e6 : ari ins st with
  | some v => simp only [e6] at h ⊢; exact hF _ _ _ _ _ _ _ _ h
  | none =>
  simp only [e6] at h ⊢
  cases e7 : bra ins st with
  | some v =>
    obtain ⟨b, o, r⟩ := v
    simp only [e7] at h ⊢
    exact ⟨h.1, fun z => hF _ _ _ _ _ _ _ _ (h.2.1 z), fun z => hF _ _ _ _ _ _ _ _ (h.2.2 z)⟩
  | none =>
  simp only [e7] at h ⊢
  clear e1 e2 e3 e4 e5 e6 e7
  cases ins with
  | goto o => exact ⟨h.1, hF _ _ _ _ _ _ _ _ h.2⟩
  | tableswitch a b d e =>
    simp only at h ⊢
    split at h
    · split at h
      · rename_i e9; (try simp only [e9]); exact ⟨h.1, hF _ _ _ _ _ _ _ _ h.2⟩
      · exact h.elim
    · exact h.elim
  | lookupswitch a b =>
    simp only at h ⊢
    split at h
    · split at h
      · rename_i e9; (try simp only [e9]); exact ⟨h.1, hF _ _ _ _ _ _ _ _ h.2⟩
      · exact h.elim
    · exact h.elim
  | iinc i z =>
    simp only at h ⊢
    split at h
    · rename_i e9; (try simp only [e9]); exact ⟨h.1, h.2.1, hF _ _ _ _ _ _ _ _ h.2.2⟩
    · exact h.elim
  | idiv => simp only at h ⊢; split at h <;> first | exact h.elim | exact ⟨h.1, hF _ _ _ _ _ _ _ _ h.2⟩
  | irem => simp only at h ⊢; split at h <;> first | exact h.elim | exact ⟨h.1, hF _ _ _ _ _ _ _ _ h.2⟩
  | ddiv => simp only at h ⊢; split at h <;> first | exact h.elim | exact ⟨h.1, hF _ _ _ _ _ _ _ _ h.2⟩
  | getfield ix =>
    simp only at h ⊢
    split at h
    · rename_i e9
      (try simp only [e9])
      split at h
      · split at h
        · obtain ⟨i, q1, q2, q3⟩ := h
          exact ⟨i, q1, q2, hF _ _ _ _ _ _ _ _ q3⟩
        · obtain ⟨i, q1, q2, q3⟩ := h
          exact ⟨i, q1, q2, hF _ _ _ _ _ _ _ _ q3⟩
        · exact ⟨h.1, h.2.1, hF _ _ _ _ _ _ _ _ h.2.2⟩
      · exact h.elim
    · exact h.elim
  | putfield ix =>
    simp only at h ⊢
    split at h
    · rename_i e9
      (try simp only [e9])
      split at h
      · exact ⟨h.1, h.2.1, h.2.2.1, hF _ _ _ _ _ _ _ _ h.2.2.2⟩
      · exact ⟨h.1, h.2.1, hF _ _ _ _ _ _ _ _ h.2.2⟩
      · exact h.elim
    · exact h.elim
  | getstatic ix =>
    simp only at h ⊢
    split at h
    · rename_i e9; (try simp only [e9]); exact hF _ _ _ _ _ _ _ _ h
    · rename_i e8 e9; (try simp only [e9]); exact fun v z => hF _ _ _ _ _ _ _ _ (h v z)
    · exact h.elim
  | iaload => simp only at h ⊢; split at h <;> first | exact h.elim | exact ⟨h.1, hF _ _ _ _ _ _ _ _ h.2⟩
  | aaload => simp only at h ⊢; split at h <;> first | exact h.elim | exact ⟨h.1, hF _ _ _ _ _ _ _ _ h.2⟩
  | iastore => simp only at h ⊢; split at h <;> first | exact h.elim | exact ⟨h.1, hF _ _ _ _ _ _ _ _ h.2⟩
  | aastore => simp only at h ⊢; split at h <;> first | exact h.elim | exact ⟨h.1, hF _ _ _ _ _ _ _ _ h.2⟩
  | baload =>
    simp only at h ⊢
    split at h
    · obtain ⟨k, q1, q2, q3, q4⟩ := h
      exact ⟨k, q1, q2, q3, hF _ _ _ _ _ _ _ _ q4⟩
    · exact h.elim
  | arraylength =>
    simp only at h ⊢
    split at h
    · obtain ⟨k, q1, q2, q3⟩ := h
      exact ⟨k, q1, q2, hF _ _ _ _ _ _ _ _ q3⟩
    · exact h.elim
  | new ix =>
    simp only at h ⊢
    split at h
    · rename_i e9; (try simp only [e9]); exact ⟨h.1, h.2.1, fun a z => hF _ _ _ _ _ _ _ _ (h.2.2 a z)⟩
    · exact h.elim
  | newarray ty =>
    cases ty <;> simp only at h ⊢
    split at h
    · exact ⟨h.1, h.2.1, h.2.2.1, h.2.2.2.1, fun a z => hF _ _ _ _ _ _ _ _ (h.2.2.2.2 a z)⟩
    · exact h.elim
  | anewarray ix =>
    simp only at h ⊢
    split at h
    · rename_i e9
      (try simp only [e9])
      split at h
      · exact ⟨h.1, h.2.1, h.2.2.1, h.2.2.2.1, fun a z => hF _ _ _ _ _ _ _ _ (h.2.2.2.2 a z)⟩
      · exact h.elim
    · exact h.elim
  | invokestatic ix =>
    simp only at h ⊢
    split at h
    · rename_i e9; (try simp only [e9]); exact ⟨fun z => Vc_mono hF hX hFG (h.1 z), fun z => ⟨(h.2 z).1, Vm_mono hF (h.2 z).2⟩⟩
    · exact h.elim
  | invokevirtual ix =>
    simp only at h ⊢
    split at h
    · rename_i e9; (try simp only [e9]); exact ⟨h.1, Vc_mono hF hX hFG h.2⟩
    · exact h.elim
  | invokespecial ix =>
    simp only at h ⊢
    split at h
    · rename_i e9; (try simp only [e9]); exact ⟨fun z => Vc_mono hF hX hFG (h.1 z), fun z => ⟨(h.2 z).1, Vm_mono hF (h.2 z).2⟩⟩
    · exact h.elim
  | return_ => exact ⟨h.1, h.2.1, h.2.2.1, h.2.2.2.1, hFG _ _ _ _ h.2.2.2.2⟩
  | ireturn => simp only at h ⊢; split at h <;> first | exact h.elim | exact ⟨h.1, h.2.1, h.2.2.1, hFG _ _ _ _ h.2.2.2⟩
  | areturn => simp only at h ⊢; split at h <;> first | exact h.elim | exact ⟨h.1, h.2.1, h.2.2.1, hFG _ _ _ _ h.2.2.2⟩
  | dreturn => simp only at h ⊢; split at h <;> first | exact h.elim | exact ⟨h.1, h.2.1, h.2.2.1, hFG _ _ _ _ h.2.2.2⟩
  | _ => exact h.elim
theorem Vs_mono {K J : Nat → Nat} {X Y : VT} {F G : VF} {mi pc : Nat} {L : VL} {st : List Value} {sh : HS} {I : HI} {R : HR} {c : Nat × Nat} (hF : ∀ mi pc L st sh I R c, X mi pc L st sh I R c F → Y mi pc L st sh I R c G) (hX : ∀ mi pc L st sh I R c H, X mi pc L st sh I R c H → Y mi pc L st sh I R c H) (hFG : ∀ o sh I R, F o sh I R → G o sh I R)
    (h : Vs K J X mi pc L st sh I R c F) : Vs K J Y mi pc L st sh I R c G := by
  unfold Vs at h ⊢
  split at h
  · rename_i e9; (try simp only [e9]); exact ⟨h.1, h.2.1, h.2.2.1, hFG _ _ _ _ h.2.2.2⟩
  · rename_i e8
    (try simp only [e8])
    split at h
    · rename_i e9; (try simp only [e9]); exact ⟨h.1, Vi_mono hF hX hFG h.2⟩
    · exact h.elim
theorem V_in {K J : Nat → Nat} {mi pc : Nat} {L : VL} {st : List Value} {sh : HS} {I : HI} {R : HR} {c : Nat × Nat} {F : VF} (h : Vs K J (V K J) mi pc L st sh I R c F) : V K J mi pc L st sh I R c F := by
  intro X hX
  have e : ∀ mi pc L st sh I R c F, V K J mi pc L st sh I R c F → X mi pc L st sh I R c F := fun _ _ _ _ _ _ _ _ _ g => g X hX
  exact hX _ _ _ _ _ _ _ _ _ (Vs_mono (fun _ _ _ _ _ _ _ _ => e _ _ _ _ _ _ _ _ _) (fun _ _ _ _ _ _ _ _ _ => e _ _ _ _ _ _ _ _ _) (fun _ _ _ _ g => g) h)
theorem V_eq {K J : Nat → Nat} {mi pc : Nat} {L : VL} {st : List Value} {sh : HS} {I : HI} {R : HR} {c : Nat × Nat} {F : VF} : V K J mi pc L st sh I R c F = Vs K J (V K J) mi pc L st sh I R c F := by
  refine propext ⟨fun h => ?_, V_in⟩
  refine h (Vs K J (V K J)) fun mi pc L st sh I R c F g => ?_
  exact Vs_mono (fun _ _ _ _ _ _ _ _ => V_in) (fun _ _ _ _ _ _ _ _ _ => V_in) (fun _ _ _ _ g => g) g
theorem V_mono {K J : Nat → Nat} {mi pc : Nat} {L : VL} {st : List Value} {sh : HS} {I : HI} {R : HR} {c : Nat × Nat} {F G : VF} (hFG : ∀ o sh I R, F o sh I R → G o sh I R) (h : V K J mi pc L st sh I R c F) : V K J mi pc L st sh I R c G := by
  refine h (fun mi pc L st sh I R c F => ∀ G : VF, (∀ o sh I R, F o sh I R → G o sh I R) → V K J mi pc L st sh I R c G) (fun mi pc L st sh I R c F g G hFG => ?_) G hFG
  exact V_in (Vs_mono (fun _ _ _ _ _ _ _ _ z => z G hFG) (fun _ _ _ _ _ _ _ _ H z => z H (fun _ _ _ _ q => q)) hFG g)
