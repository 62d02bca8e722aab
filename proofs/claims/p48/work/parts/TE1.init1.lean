/-! STAGE 3: the constructors of a shot, of a scene, of the plan, of the reader -/
/-- an old heap within a new one, but for the references of one object -/
def HXT (sh sh' : HS) (I I' : HI) (R R' : HR) (l : Nat) : Prop := ∀ a, ¬ sh a = none → sh' a = sh a ∧ I' a = I a ∧ (¬ a = l → R' a = R a)
theorem u1_eq {α : Type} (f : Nat → α) (a : Nat) (x : α) : u1 f a x a = x := if_pos rfl
theorem u1_ne {α : Type} (f : Nat → α) {a b : Nat} (x : α) (h : ¬ b = a) : u1 f a x b = f b := if_neg h
theorem u2_row {α : Type} (f : Nat → Nat → α) {a b : Nat} (k : Nat) (x : α) (h : ¬ b = a) : u2 f a k x b = f b := funext fun j => if_neg fun q => h q.1
theorem u2_at {α : Type} (f : Nat → Nat → α) (a k j : Nat) (x : α) : u2 f a k x a j = if j = k then x else f a j := by
  unfold u2
  by_cases z : j = k
  · rw [if_pos ⟨rfl, z⟩, if_pos z]
  · rw [if_neg (fun q => z q.2), if_neg z]
section Q71
variable {K J : Nat → Nat} {sh : HS} {I : HI} {R : HR} {F : VF}
theorem HXT.rf (l : Nat) : HXT sh sh I I R R l := fun _ _ => ⟨rfl, rfl, fun _ => rfl⟩
theorem HXT.tr {sh1 sh2 : HS} {I1 I2 : HI} {R1 R2 : HR} {l : Nat} (a : HXT sh sh1 I I1 R R1 l) (b : HXT sh1 sh2 I1 I2 R1 R2 l) : HXT sh sh2 I I2 R R2 l := fun x hx => by
  obtain ⟨e1, e2, e3⟩ := a x hx
  obtain ⟨d1, d2, d3⟩ := b x (by rw [e1]; exact hx)
  exact ⟨d1.trans e1, d2.trans e2, fun h => (d3 h).trans (e3 h)⟩
theorem vX8_init {l0 : Nat} (hF : F (.inl none) sh I R) : V K J 51 0 (ent (mL 51) [.ref l0]) [] sh I R (0, 0) F := by
  have hc0 : ((0 : Nat), (0 : Nat)).1 ≤ 0 ∧ ((0 : Nat), (0 : Nat)).2 ≤ 0 := ⟨Nat.le_refl _, Nat.le_refl _⟩
  show V K J 51 0 [some (.ref l0)] [] sh I R (0, 0) F
  refine s_rl (i := 0) (pc' := 1) (by decide +kernel) rfl ?_
  refine s_obj (pc' := 4) (X := 0) (Y := 0) (by decide +kernel) hc0 (by decide) ?_
  exact s_rv (X := 0) (Y := 0) (by decide +kernel) hc0 hF
theorem vX6_init {l0 : Nat} (hl : sh l0 = some (5, 4)) (hF : ∀ x y sh' I' R', sh x = none → sh y = none → ¬ x = y → HXT sh sh' I I' R R' l0 → sh' x = some (20, 6) → sh' y = some (20, 6) → (∀ k, R' l0 k = if k = 3 then some y else if k = 2 then some x else R l0 k) → (∀ a, ¬ sh' a = none → ¬ sh a = none ∨ a = x ∨ a = y) → F (.inl none) sh' I' R') : V K J 42 0 (ent (mL 42) [.ref l0]) [] sh I R (0, 0) F := by
  have hc0 : ((0 : Nat), (0 : Nat)).1 ≤ 0 ∧ ((0 : Nat), (0 : Nat)).2 ≤ 0 := ⟨Nat.le_refl _, Nat.le_refl _⟩
  show V K J 42 0 [some (.ref l0)] [] sh I R (0, 0) F
  refine s_rl (i := 0) (pc' := 1) (by decide +kernel) rfl ?_
  refine s_obj (pc' := 4) (X := 0) (Y := 0) (by decide +kernel) hc0 (by decide) ?_
  refine s_rl (i := 0) (pc' := 5) (by decide +kernel) rfl ?_
  refine s_c (v := 6) (pc' := 7) (by decide +kernel) ?_
  refine s_nwa (m := 6) (X := 0) (Y := 0) (by decide +kernel) (by decide) (by decide) hc0 (fun x hx => ?_)
  have lx : ¬ l0 = x := fun q => by rw [q, hx] at hl; exact absurd hl (by simp)
  have h1 : u1 sh x (some (20, 6)) l0 = some (5, 4) := (u1_ne _ _ lx).trans hl
  refine s_pR (t := 5) (j := 2) (pc' := 12) (f := some) (by decide +kernel) (by rw [oQ_at h1]; rfl) (fun R1 e => ?_)
  have e := (Option.some.inj e).symm
  subst e
  refine s_rl (i := 0) (pc' := 13) (by decide +kernel) rfl ?_
  refine s_c (v := 6) (pc' := 15) (by decide +kernel) ?_
  refine s_nwa (m := 6) (X := 1) (Y := 6) (by decide +kernel) (by decide) (by decide) ⟨Nat.le_refl _, Nat.le_refl _⟩ (fun y hy => ?_)
  have ly : ¬ l0 = y := fun q => by rw [← q, h1] at hy; exact absurd hy (by simp)
  have xy : ¬ y = x := fun q => by rw [q, u1_eq] at hy; exact absurd hy (by simp)
  have hy2 : sh y = none := (u1_ne sh _ xy).symm.trans hy
  have h2 : u1 (u1 sh x (some (20, 6))) y (some (20, 6)) l0 = some (5, 4) := (u1_ne _ _ ly).trans h1
  refine s_pR (t := 5) (j := 3) (pc' := 20) (f := some) (by decide +kernel) (by rw [oQ_at h2]; rfl) (fun R2 e => ?_)
  have e := (Option.some.inj e).symm
  subst e
  refine s_rv (X := 2) (Y := 12) (by decide +kernel) ⟨Nat.le_refl _, Nat.le_refl _⟩ ?_
  refine hF x y _ _ _ hx hy2 (fun q => xy q.symm) (fun a ha => ?_) ((u1_ne _ _ (fun q => xy q.symm)).trans (u1_eq _ _ _)) (u1_eq _ _ _) (fun k => ?_) (fun a ha => ?_)
  · have ax : ¬ a = x := fun q => ha (by rw [q]; exact hx)
    have ay : ¬ a = y := fun q => ha (by rw [q]; exact hy2)
    exact ⟨(u1_ne _ _ ay).trans (u1_ne _ _ ax), (u1_ne _ _ ay).trans (u1_ne _ _ ax), fun al => (u2_row _ _ _ al).trans (u2_row _ _ _ al)⟩
  · rw [u2_at, u2_at]
  · by_cases ay : a = y
    · exact Or.inr (Or.inr ay)
    · by_cases ax : a = x
      · exact Or.inr (Or.inl ax)
      · exact Or.inl (fun q => ha ((u1_ne _ _ ay).trans ((u1_ne _ _ ax).trans q)))
end Q71
