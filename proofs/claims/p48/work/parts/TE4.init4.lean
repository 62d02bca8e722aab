/-! STAGE 3: the constructor of a route, for twelve setups, for six shots -/
section Q74
variable {K J : Nat → Nat} {sh : HS} {I : HI} {R : HR} {F : VF} {l : Nat}
theorem u2_u1 {α : Type} (f : Nat → Nat → α) (a k : Nat) (g : Nat → α) (x : α) : u2 (u1 f a g) a k x = u1 f a (fun j => if j = k then x else g j) := by
  funext b j
  unfold u2 u1
  by_cases z : b = a
  · subst z
    by_cases y : j = k
    · rw [if_pos ⟨rfl, y⟩, if_pos rfl, if_pos y]
    · rw [if_neg (fun q => y q.2), if_pos rfl, if_pos rfl, if_neg y]
  · rw [if_neg (fun q => z q.1), if_neg z, if_neg z]
theorem u2_u1c {α : Type} (f : Nat → Nat → α) {a b : Nat} (k : Nat) (g : Nat → α) (x : α) (h : ¬ b = a) : u2 (u1 f b g) a k x = u1 (u2 f a k x) b g := by
  funext c j
  unfold u2 u1
  by_cases z : c = b
  · have ca : ¬ c = a := fun q => h (z.symm.trans q)
    rw [if_neg (fun q => ca q.1), if_pos z, if_pos z]
  · rw [if_neg z, if_neg z]
theorem vX5_init12 (hl : sh l = some (4, 7)) (hF : ∀ x1 x2 x3 x4 sh' I' R', ALC sh sh' (u2 I l 0 12) I' R R' l [(x1, 20, 12), (x2, 20, 144), (x3, 20, 49152), (x4, 20, 12)] → (R' l 1 = some x1 ∧ R' l 2 = some x2 ∧ R' l 3 = some x3 ∧ R' l 4 = some x4) → F (.inl none) sh' I' R') : V K J 41 0 (ent (mL 41) [.ref l, .int 12]) [] sh I R (0, 0) F := by
  have hc0 : ((0 : Nat), (0 : Nat)).1 ≤ 0 ∧ ((0 : Nat), (0 : Nat)).2 ≤ 0 := ⟨Nat.le_refl _, Nat.le_refl _⟩
  show V K J 41 0 [some (.ref l), some (.int 12)] [] sh I R (0, 0) F
  refine s_rl (i := 0) (pc' := 1) (by decide +kernel) rfl ?_
  refine s_obj (pc' := 4) (X := 0) (Y := 0) (by decide +kernel) hc0 (by decide) ?_
  refine s_rl (i := 0) (pc' := 5) (by decide +kernel) rfl ?_
  refine s_il (i := 1) (pc' := 6) (by decide +kernel) rfl ?_
  refine s_pI (t := 4) (j := 0) (ty := 0) (pc' := 9) (f := some) (by decide +kernel) (Or.inl rfl) (by rw [oP_at hl]; rfl) (fun I1 e => ?_)
  have e := (Option.some.inj e).symm
  subst e
  have A0 : ALC sh sh (u2 I l 0 12) (u2 I l 0 12) R R l [] := ALC.nil l
  refine s_rl (i := 0) (pc' := 10) (by decide +kernel) rfl ?_
  refine s_il (i := 1) (pc' := 11) (by decide +kernel) rfl ?_
  refine s_nwa (m := 12) (X := 0) (Y := 0) (by decide +kernel) (by decide) (by decide +kernel) ⟨Nat.le_refl _, Nat.le_refl _⟩ (fun x1 h1 => ?_)
  have A1 := A0.arr h1 (by rw [A0.at hl]; simp) (20, 12) (fun _ => 0) 1
  refine s_pR (t := 4) (j := 1) (pc' := 16) (f := some) (by decide +kernel) (by rw [oQ_at (A1.at hl)]; rfl) (fun R1 e => ?_)
  have e := (Option.some.inj e).symm
  subst e
  refine s_rl (i := 0) (pc' := 17) (by decide +kernel) rfl ?_
  refine s_il (i := 1) (pc' := 18) (by decide +kernel) rfl ?_
  refine s_il (i := 1) (pc' := 19) (by decide +kernel) rfl ?_
  refine s_a (ins := .imul) (pc' := 20) (by decide +kernel) rfl ?_
  refine s_nwa (m := 144) (X := 1) (Y := 12) (by decide +kernel) (by decide) (by decide +kernel) ⟨Nat.le_refl _, Nat.le_refl _⟩ (fun x2 h2 => ?_)
  have A2 := A1.arr h2 (by rw [A1.at hl]; simp) (20, 144) (fun _ => 0) 2
  refine s_pR (t := 4) (j := 2) (pc' := 25) (f := some) (by decide +kernel) (by rw [oQ_at (A2.at hl)]; rfl) (fun R1 e => ?_)
  have e := (Option.some.inj e).symm
  subst e
  refine s_rl (i := 0) (pc' := 26) (by decide +kernel) rfl ?_
  refine s_c (v := 1) (pc' := 27) (by decide +kernel) ?_
  refine s_il (i := 1) (pc' := 28) (by decide +kernel) rfl ?_
  refine s_a (ins := .ishl) (pc' := 29) (by decide +kernel) rfl ?_
  refine s_il (i := 1) (pc' := 30) (by decide +kernel) rfl ?_
  refine s_a (ins := .imul) (pc' := 31) (by decide +kernel) rfl ?_
  refine s_nwa (m := 49152) (X := 2) (Y := 156) (by decide +kernel) (by decide) (by decide +kernel) ⟨Nat.le_refl _, Nat.le_refl _⟩ (fun x3 h3 => ?_)
  have A3 := A2.arr h3 (by rw [A2.at hl]; simp) (20, 49152) (fun _ => 0) 3
  refine s_pR (t := 4) (j := 3) (pc' := 36) (f := some) (by decide +kernel) (by rw [oQ_at (A3.at hl)]; rfl) (fun R1 e => ?_)
  have e := (Option.some.inj e).symm
  subst e
  refine s_rl (i := 0) (pc' := 37) (by decide +kernel) rfl ?_
  refine s_il (i := 1) (pc' := 38) (by decide +kernel) rfl ?_
  refine s_nwa (m := 12) (X := 3) (Y := 49308) (by decide +kernel) (by decide) (by decide +kernel) ⟨Nat.le_refl _, Nat.le_refl _⟩ (fun x4 h4 => ?_)
  have A4 := A3.arr h4 (by rw [A3.at hl]; simp) (20, 12) (fun _ => 0) 4
  refine s_pR (t := 4) (j := 4) (pc' := 43) (f := some) (by decide +kernel) (by rw [oQ_at (A4.at hl)]; rfl) (fun R1 e => ?_)
  have e := (Option.some.inj e).symm
  subst e
  refine s_rv (X := 4) (Y := 49320) (by decide +kernel) ⟨Nat.le_refl _, Nat.le_refl _⟩ ?_
  refine hF x1 x2 x3 x4 _ _ _ A4 ⟨?_, ?_, ?_, ?_⟩
  all_goals simp only [u2_at]
  all_goals rfl
theorem vX5_init6 (hl : sh l = some (4, 7)) (hF : ∀ x1 x2 x3 x4 sh' I' R', ALC sh sh' (u2 I l 0 6) I' R R' l [(x1, 20, 6), (x2, 20, 36), (x3, 20, 384), (x4, 20, 6)] → (R' l 1 = some x1 ∧ R' l 2 = some x2 ∧ R' l 3 = some x3 ∧ R' l 4 = some x4) → F (.inl none) sh' I' R') : V K J 41 0 (ent (mL 41) [.ref l, .int 6]) [] sh I R (0, 0) F := by
  have hc0 : ((0 : Nat), (0 : Nat)).1 ≤ 0 ∧ ((0 : Nat), (0 : Nat)).2 ≤ 0 := ⟨Nat.le_refl _, Nat.le_refl _⟩
  show V K J 41 0 [some (.ref l), some (.int 6)] [] sh I R (0, 0) F
  refine s_rl (i := 0) (pc' := 1) (by decide +kernel) rfl ?_
  refine s_obj (pc' := 4) (X := 0) (Y := 0) (by decide +kernel) hc0 (by decide) ?_
  refine s_rl (i := 0) (pc' := 5) (by decide +kernel) rfl ?_
  refine s_il (i := 1) (pc' := 6) (by decide +kernel) rfl ?_
  refine s_pI (t := 4) (j := 0) (ty := 0) (pc' := 9) (f := some) (by decide +kernel) (Or.inl rfl) (by rw [oP_at hl]; rfl) (fun I1 e => ?_)
  have e := (Option.some.inj e).symm
  subst e
  have A0 : ALC sh sh (u2 I l 0 6) (u2 I l 0 6) R R l [] := ALC.nil l
  refine s_rl (i := 0) (pc' := 10) (by decide +kernel) rfl ?_
  refine s_il (i := 1) (pc' := 11) (by decide +kernel) rfl ?_
  refine s_nwa (m := 6) (X := 0) (Y := 0) (by decide +kernel) (by decide) (by decide +kernel) ⟨Nat.le_refl _, Nat.le_refl _⟩ (fun x1 h1 => ?_)
  have A1 := A0.arr h1 (by rw [A0.at hl]; simp) (20, 6) (fun _ => 0) 1
  refine s_pR (t := 4) (j := 1) (pc' := 16) (f := some) (by decide +kernel) (by rw [oQ_at (A1.at hl)]; rfl) (fun R1 e => ?_)
  have e := (Option.some.inj e).symm
  subst e
  refine s_rl (i := 0) (pc' := 17) (by decide +kernel) rfl ?_
  refine s_il (i := 1) (pc' := 18) (by decide +kernel) rfl ?_
  refine s_il (i := 1) (pc' := 19) (by decide +kernel) rfl ?_
  refine s_a (ins := .imul) (pc' := 20) (by decide +kernel) rfl ?_
  refine s_nwa (m := 36) (X := 1) (Y := 6) (by decide +kernel) (by decide) (by decide +kernel) ⟨Nat.le_refl _, Nat.le_refl _⟩ (fun x2 h2 => ?_)
  have A2 := A1.arr h2 (by rw [A1.at hl]; simp) (20, 36) (fun _ => 0) 2
  refine s_pR (t := 4) (j := 2) (pc' := 25) (f := some) (by decide +kernel) (by rw [oQ_at (A2.at hl)]; rfl) (fun R1 e => ?_)
  have e := (Option.some.inj e).symm
  subst e
  refine s_rl (i := 0) (pc' := 26) (by decide +kernel) rfl ?_
  refine s_c (v := 1) (pc' := 27) (by decide +kernel) ?_
  refine s_il (i := 1) (pc' := 28) (by decide +kernel) rfl ?_
  refine s_a (ins := .ishl) (pc' := 29) (by decide +kernel) rfl ?_
  refine s_il (i := 1) (pc' := 30) (by decide +kernel) rfl ?_
  refine s_a (ins := .imul) (pc' := 31) (by decide +kernel) rfl ?_
  refine s_nwa (m := 384) (X := 2) (Y := 42) (by decide +kernel) (by decide) (by decide +kernel) ⟨Nat.le_refl _, Nat.le_refl _⟩ (fun x3 h3 => ?_)
  have A3 := A2.arr h3 (by rw [A2.at hl]; simp) (20, 384) (fun _ => 0) 3
  refine s_pR (t := 4) (j := 3) (pc' := 36) (f := some) (by decide +kernel) (by rw [oQ_at (A3.at hl)]; rfl) (fun R1 e => ?_)
  have e := (Option.some.inj e).symm
  subst e
  refine s_rl (i := 0) (pc' := 37) (by decide +kernel) rfl ?_
  refine s_il (i := 1) (pc' := 38) (by decide +kernel) rfl ?_
  refine s_nwa (m := 6) (X := 3) (Y := 426) (by decide +kernel) (by decide) (by decide +kernel) ⟨Nat.le_refl _, Nat.le_refl _⟩ (fun x4 h4 => ?_)
  have A4 := A3.arr h4 (by rw [A3.at hl]; simp) (20, 6) (fun _ => 0) 4
  refine s_pR (t := 4) (j := 4) (pc' := 43) (f := some) (by decide +kernel) (by rw [oQ_at (A4.at hl)]; rfl) (fun R1 e => ?_)
  have e := (Option.some.inj e).symm
  subst e
  refine s_rv (X := 4) (Y := 432) (by decide +kernel) ⟨Nat.le_refl _, Nat.le_refl _⟩ ?_
  refine hF x1 x2 x3 x4 _ _ _ A4 ⟨?_, ?_, ?_, ?_⟩
  all_goals simp only [u2_at]
  all_goals rfl
end Q74
