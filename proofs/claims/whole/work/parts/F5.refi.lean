/-! STAGE 3: the constructor of the reference -/
/-- the reference made at l -/
def PLQ (sh sh' : HS) (I I' : HI) (R R' : HR) (l : Nat) (g : Nat → Nat) : Prop :=
  (∃ as, ALC sh sh' (u2 I l 15 (-1)) I' R R' l as ∧ (l, 9, 29) :: as = (List.range 15).map (fun i => (g i, kdM.getD i (0, 0)))) ∧ g 0 = l ∧
  ((R' l 0 = some (g 1) ∧ R' l 1 = some (g 2) ∧ R' l 2 = some (g 3) ∧ R' l 6 = some (g 4) ∧ R' l 16 = some (g 5) ∧ R' l 17 = some (g 6) ∧ R' l 18 = some (g 7)) ∧ (R' l 19 = some (g 8) ∧ R' l 20 = some (g 9) ∧ R' l 21 = some (g 10) ∧ R' l 23 = some (g 11) ∧ R' l 24 = some (g 12) ∧ R' l 25 = some (g 13) ∧ R' l 27 = some (g 14))) ∧ I' (g 1) = (fun _ => 0)
section Q86
variable {K J : Nat → Nat} {sh : HS} {I : HI} {R : HR} {F : VF} {l : Nat}
theorem u1_z {α : Type} {f : Nat → α} {a b : Nat} {z : α} (h : f b = z) : u1 f a z b = z := by
  unfold u1
  split
  · rfl
  · exact h
set_option maxHeartbeats 4000000 in
theorem vX11_init (hl : sh l = some (9, 29)) (hF : ∀ g sh' I' R', PLQ sh sh' I I' R R' l g → F (.inl none) sh' I' R') : V K J 148 0 (ent (mL 148) [.ref l]) [] sh I R (0, 0) F := by
  have hc0 : ((0 : Nat), (0 : Nat)).1 ≤ 0 ∧ ((0 : Nat), (0 : Nat)).2 ≤ 0 := ⟨Nat.le_refl _, Nat.le_refl _⟩
  have ln : ¬ sh l = none := by rw [hl]; simp
  show V K J 148 0 [some (.ref l)] [] sh I R (0, 0) F
  refine s_rl (i := 0) (pc' := 1) (by decide +kernel) rfl ?_
  refine s_obj (pc' := 4) (X := 0) (Y := 0) (by decide +kernel) hc0 (by decide) ?_
  have A0 : ALC sh sh (u2 I l 15 (-1)) (u2 I l 15 (-1)) R R l [] := ALC.nil l
  refine s_fa (v := 119) (p2 := 7) (p3 := 12) (t := 9) (j := 0) (m := 119) (X := 0) (Y := 0) (by decide +kernel) rfl (A0.at hl) ⟨Nat.le_refl _, Nat.le_refl _⟩ (fun x1 h1 => ?_)
  have A1 := A0.arr h1 (by rw [A0.at hl]; simp) (20, 119) (fun _ => 0) 0
  have l1 : ¬ x1 = l := fun e => by rw [e, A0.at hl] at h1; exact absurd h1 (by simp)
  refine s_fa (v := 119) (p2 := 15) (p3 := 20) (t := 9) (j := 1) (m := 119) (X := 1) (Y := 119) (by decide +kernel) rfl (A1.at hl) ⟨Nat.le_refl _, Nat.le_refl _⟩ (fun x2 h2 => ?_)
  have A2 := A1.arr h2 (by rw [A1.at hl]; simp) (20, 119) (fun _ => 0) 1
  have l2 : ¬ x2 = l := fun e => by rw [e, A1.at hl] at h2; exact absurd h2 (by simp)
  refine s_fa (v := 1190) (p2 := 24) (p3 := 29) (t := 9) (j := 2) (m := 1190) (X := 2) (Y := 238) (by decide +kernel) rfl (A2.at hl) ⟨Nat.le_refl _, Nat.le_refl _⟩ (fun x3 h3 => ?_)
  have A3 := A2.arr h3 (by rw [A2.at hl]; simp) (20, 1190) (fun _ => 0) 2
  have l3 : ¬ x3 = l := fun e => by rw [e, A2.at hl] at h3; exact absurd h3 (by simp)
  refine s_fa (v := 800) (p2 := 33) (p3 := 38) (t := 9) (j := 6) (m := 800) (X := 3) (Y := 1428) (by decide +kernel) rfl (A3.at hl) ⟨Nat.le_refl _, Nat.le_refl _⟩ (fun x4 h4 => ?_)
  have A4 := A3.arr h4 (by rw [A3.at hl]; simp) (20, 800) (fun _ => 0) 6
  have l4 : ¬ x4 = l := fun e => by rw [e, A3.at hl] at h4; exact absurd h4 (by simp)
  refine s_rl (i := 0) (pc' := 39) (by decide +kernel) rfl ?_
  refine s_c (v := -1) (pc' := 40) (by decide +kernel) ?_
  refine s_pI (t := 9) (j := 15) (ty := 0) (pc' := 43) (f := some) (by decide +kernel) (Or.inl rfl) (by rw [oP_at (A4.at hl)]; rfl) (fun I1 e => ?_)
  have e := (Option.some.inj e).symm
  subst e
  rw [u2_u1c _ 15 (fun _ => 0) (-1) l4, u2_u1c _ 15 (fun _ => 0) (-1) l3, u2_u1c _ 15 (fun _ => 0) (-1) l2, u2_u1c _ 15 (fun _ => 0) (-1) l1]
  refine s_fa (v := 6) (p2 := 46) (p3 := 51) (t := 9) (j := 16) (m := 6) (X := 4) (Y := 2228) (by decide +kernel) rfl (A4.at hl) ⟨Nat.le_refl _, Nat.le_refl _⟩ (fun x5 h5 => ?_)
  have A5 := A4.arr h5 (by rw [A4.at hl]; simp) (20, 6) (fun _ => 0) 16
  refine s_fa (v := 6) (p2 := 54) (p3 := 59) (t := 9) (j := 17) (m := 6) (X := 5) (Y := 2234) (by decide +kernel) rfl (A5.at hl) ⟨Nat.le_refl _, Nat.le_refl _⟩ (fun x6 h6 => ?_)
  have A6 := A5.arr h6 (by rw [A5.at hl]; simp) (20, 6) (fun _ => 0) 17
  refine s_fa (v := 72) (p2 := 62) (p3 := 67) (t := 9) (j := 18) (m := 72) (X := 6) (Y := 2240) (by decide +kernel) rfl (A6.at hl) ⟨Nat.le_refl _, Nat.le_refl _⟩ (fun x7 h7 => ?_)
  have A7 := A6.arr h7 (by rw [A6.at hl]; simp) (20, 72) (fun _ => 0) 18
  refine s_fa (v := 12) (p2 := 70) (p3 := 75) (t := 9) (j := 19) (m := 12) (X := 7) (Y := 2312) (by decide +kernel) rfl (A7.at hl) ⟨Nat.le_refl _, Nat.le_refl _⟩ (fun x8 h8 => ?_)
  have A8 := A7.arr h8 (by rw [A7.at hl]; simp) (20, 12) (fun _ => 0) 19
  refine s_fa (v := 12) (p2 := 78) (p3 := 83) (t := 9) (j := 20) (m := 12) (X := 8) (Y := 2324) (by decide +kernel) rfl (A8.at hl) ⟨Nat.le_refl _, Nat.le_refl _⟩ (fun x9 h9 => ?_)
  have A9 := A8.arr h9 (by rw [A8.at hl]; simp) (20, 12) (fun _ => 0) 20
  refine s_fa (v := 12) (p2 := 86) (p3 := 91) (t := 9) (j := 21) (m := 12) (X := 9) (Y := 2336) (by decide +kernel) rfl (A9.at hl) ⟨Nat.le_refl _, Nat.le_refl _⟩ (fun x10 h10 => ?_)
  have A10 := A9.arr h10 (by rw [A9.at hl]; simp) (20, 12) (fun _ => 0) 21
  refine s_fa (v := 49152) (p2 := 94) (p3 := 99) (t := 9) (j := 23) (m := 49152) (X := 10) (Y := 2348) (by decide +kernel) rfl (A10.at hl) ⟨Nat.le_refl _, Nat.le_refl _⟩ (fun x11 h11 => ?_)
  have A11 := A10.arr h11 (by rw [A10.at hl]; simp) (20, 49152) (fun _ => 0) 23
  refine s_fa (v := 156) (p2 := 103) (p3 := 108) (t := 9) (j := 24) (m := 156) (X := 11) (Y := 51500) (by decide +kernel) rfl (A11.at hl) ⟨Nat.le_refl _, Nat.le_refl _⟩ (fun x12 h12 => ?_)
  have A12 := A11.arr h12 (by rw [A11.at hl]; simp) (20, 156) (fun _ => 0) 24
  refine s_fa (v := 12) (p2 := 111) (p3 := 116) (t := 9) (j := 25) (m := 12) (X := 12) (Y := 51656) (by decide +kernel) rfl (A12.at hl) ⟨Nat.le_refl _, Nat.le_refl _⟩ (fun x13 h13 => ?_)
  have A13 := A12.arr h13 (by rw [A12.at hl]; simp) (20, 12) (fun _ => 0) 25
  refine s_fa (v := 2400) (p2 := 120) (p3 := 125) (t := 9) (j := 27) (m := 2400) (X := 13) (Y := 51668) (by decide +kernel) rfl (A13.at hl) ⟨Nat.le_refl _, Nat.le_refl _⟩ (fun x14 h14 => ?_)
  have A14 := A13.arr h14 (by rw [A13.at hl]; simp) (20, 2400) (fun _ => 0) 27
  refine s_rv (X := 14) (Y := 54068) (by decide +kernel) ⟨Nat.le_refl _, Nat.le_refl _⟩ ?_
  refine hF (gl [l, x1, x2, x3, x4, x5, x6, x7, x8, x9, x10, x11, x12, x13, x14]) _ _ _ ⟨⟨_, A14, rfl⟩, rfl, ⟨⟨?_, ?_, ?_, ?_, ?_, ?_, ?_⟩, ?_, ?_, ?_, ?_, ?_, ?_, ?_⟩, ?_⟩
  · simp only [u2_at] <;> rfl
  · simp only [u2_at] <;> rfl
  · simp only [u2_at] <;> rfl
  · simp only [u2_at] <;> rfl
  · simp only [u2_at] <;> rfl
  · simp only [u2_at] <;> rfl
  · simp only [u2_at] <;> rfl
  · simp only [u2_at] <;> rfl
  · simp only [u2_at] <;> rfl
  · simp only [u2_at] <;> rfl
  · simp only [u2_at] <;> rfl
  · simp only [u2_at] <;> rfl
  · simp only [u2_at] <;> rfl
  · simp only [u2_at] <;> rfl
  · exact u1_z (u1_z (u1_z (u1_z (u1_z (u1_z (u1_z (u1_z (u1_z (u1_z (u1_z (u1_z (u1_z (u1_eq _ _ _)))))))))))))
end Q86
