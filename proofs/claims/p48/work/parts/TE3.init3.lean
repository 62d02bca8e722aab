/-! STAGE 3: the constructors of the table and of a route; a scene's as a list -/
section Q73
variable {K J : Nat → Nat} {sh : HS} {I : HI} {R : HR} {F : VF} {l : Nat}
theorem ALC.at {sh0 sh : HS} {I0 I : HI} {R0 R : HR} {l a : Nat} {as : List (Nat × Nat × Nat)} {k : Nat × Nat} (H : ALC sh0 sh I0 I R0 R l as) (h : sh0 a = some k) : sh a = some k := (H.1 a (by rw [h]; simp)).1.trans h
theorem vX6_ini (hl : sh l = some (5, 4)) (hF : ∀ x y sh' I' R', ALC sh sh' I I' R R' l [(x, 20, 6), (y, 20, 6)] → R' l 2 = some x ∧ R' l 3 = some y → F (.inl none) sh' I' R') : V K J 42 0 (ent (mL 42) [.ref l]) [] sh I R (0, 0) F := by
  refine vX6_init hl fun x y sh' I' R' hx hy xy H h1 h2 h3 h4 => hF x y sh' I' R' ⟨H, ?_, fun p hp => ?_, fun a ha => ?_⟩ ⟨by rw [h3]; rfl, by rw [h3]; rfl⟩
  · show ([x, y] : List Nat).Nodup
    exact List.nodup_cons.mpr ⟨fun q => xy (List.mem_singleton.mp q), List.nodup_cons.mpr ⟨List.not_mem_nil, List.nodup_nil⟩⟩
  · rcases List.mem_cons.mp hp with e | e
    · rw [e]; exact ⟨hx, h1⟩
    · rw [List.mem_singleton.mp e]; exact ⟨hy, h2⟩
  · rcases h4 a ha with e | e | e
    · exact Or.inl e
    · exact Or.inr (List.mem_cons.mpr (Or.inl e))
    · exact Or.inr (List.mem_cons.mpr (Or.inr (List.mem_singleton.mpr e)))
theorem vX7_init (hl : sh l = some (6, 10)) (hF : ∀ x1 x2 x3 x4 x5 x6 x7 x8 x9 sh' I' R', ALC sh sh' I I' R R' l [(x1, 20, 12), (x2, 20, 12), (x3, 20, 12), (x4, 20, 12), (x5, 20, 12), (x6, 20, 12), (x7, 20, 12), (x8, 20, 12), (x9, 20, 12)] → (R' l 1 = some x1 ∧ R' l 2 = some x2 ∧ R' l 3 = some x3 ∧ R' l 4 = some x4 ∧ R' l 5 = some x5 ∧ R' l 6 = some x6 ∧ R' l 7 = some x7 ∧ R' l 8 = some x8 ∧ R' l 9 = some x9) → (∀ k, (k = 0 ∨ 9 < k) → R' l k = R l k) → F (.inl none) sh' I' R') : V K J 46 0 (ent (mL 46) [.ref l]) [] sh I R (0, 0) F := by
  have hc0 : ((0 : Nat), (0 : Nat)).1 ≤ 0 ∧ ((0 : Nat), (0 : Nat)).2 ≤ 0 := ⟨Nat.le_refl _, Nat.le_refl _⟩
  have ln : ¬ sh l = none := by rw [hl]; simp
  show V K J 46 0 [some (.ref l)] [] sh I R (0, 0) F
  refine s_rl (i := 0) (pc' := 1) (by decide +kernel) rfl ?_
  refine s_obj (pc' := 4) (X := 0) (Y := 0) (by decide +kernel) hc0 (by decide) ?_
  have A0 : ALC sh sh I I R R l [] := ALC.nil l
  refine s_fa (v := 12) (p2 := 7) (p3 := 12) (t := 6) (j := 1) (m := 12) (X := 0) (Y := 0) (by decide +kernel) rfl (A0.at hl) ⟨Nat.le_refl _, Nat.le_refl _⟩ (fun x1 h1 => ?_)
  have A1 := A0.arr h1 (by rw [A0.at hl]; simp) (20, 12) (fun _ => 0) 1
  refine s_fa (v := 12) (p2 := 15) (p3 := 20) (t := 6) (j := 2) (m := 12) (X := 1) (Y := 12) (by decide +kernel) rfl (A1.at hl) ⟨Nat.le_refl _, Nat.le_refl _⟩ (fun x2 h2 => ?_)
  have A2 := A1.arr h2 (by rw [A1.at hl]; simp) (20, 12) (fun _ => 0) 2
  refine s_fa (v := 12) (p2 := 23) (p3 := 28) (t := 6) (j := 3) (m := 12) (X := 2) (Y := 24) (by decide +kernel) rfl (A2.at hl) ⟨Nat.le_refl _, Nat.le_refl _⟩ (fun x3 h3 => ?_)
  have A3 := A2.arr h3 (by rw [A2.at hl]; simp) (20, 12) (fun _ => 0) 3
  refine s_fa (v := 12) (p2 := 31) (p3 := 36) (t := 6) (j := 4) (m := 12) (X := 3) (Y := 36) (by decide +kernel) rfl (A3.at hl) ⟨Nat.le_refl _, Nat.le_refl _⟩ (fun x4 h4 => ?_)
  have A4 := A3.arr h4 (by rw [A3.at hl]; simp) (20, 12) (fun _ => 0) 4
  refine s_fa (v := 12) (p2 := 39) (p3 := 44) (t := 6) (j := 5) (m := 12) (X := 4) (Y := 48) (by decide +kernel) rfl (A4.at hl) ⟨Nat.le_refl _, Nat.le_refl _⟩ (fun x5 h5 => ?_)
  have A5 := A4.arr h5 (by rw [A4.at hl]; simp) (20, 12) (fun _ => 0) 5
  refine s_fa (v := 12) (p2 := 47) (p3 := 52) (t := 6) (j := 6) (m := 12) (X := 5) (Y := 60) (by decide +kernel) rfl (A5.at hl) ⟨Nat.le_refl _, Nat.le_refl _⟩ (fun x6 h6 => ?_)
  have A6 := A5.arr h6 (by rw [A5.at hl]; simp) (20, 12) (fun _ => 0) 6
  refine s_fa (v := 12) (p2 := 55) (p3 := 60) (t := 6) (j := 7) (m := 12) (X := 6) (Y := 72) (by decide +kernel) rfl (A6.at hl) ⟨Nat.le_refl _, Nat.le_refl _⟩ (fun x7 h7 => ?_)
  have A7 := A6.arr h7 (by rw [A6.at hl]; simp) (20, 12) (fun _ => 0) 7
  refine s_fa (v := 12) (p2 := 63) (p3 := 68) (t := 6) (j := 8) (m := 12) (X := 7) (Y := 84) (by decide +kernel) rfl (A7.at hl) ⟨Nat.le_refl _, Nat.le_refl _⟩ (fun x8 h8 => ?_)
  have A8 := A7.arr h8 (by rw [A7.at hl]; simp) (20, 12) (fun _ => 0) 8
  refine s_fa (v := 12) (p2 := 71) (p3 := 76) (t := 6) (j := 9) (m := 12) (X := 8) (Y := 96) (by decide +kernel) rfl (A8.at hl) ⟨Nat.le_refl _, Nat.le_refl _⟩ (fun x9 h9 => ?_)
  have A9 := A8.arr h9 (by rw [A8.at hl]; simp) (20, 12) (fun _ => 0) 9
  refine s_rv (X := 9) (Y := 108) (by decide +kernel) ⟨Nat.le_refl _, Nat.le_refl _⟩ ?_
  refine hF x1 x2 x3 x4 x5 x6 x7 x8 x9 _ _ _ A9 ⟨?_, ?_, ?_, ?_, ?_, ?_, ?_, ?_, ?_⟩ (fun k hk => ?_)
  all_goals simp only [u2_at]
  all_goals first | rfl | skip
  rw [if_neg (by omega), if_neg (by omega), if_neg (by omega), if_neg (by omega), if_neg (by omega), if_neg (by omega), if_neg (by omega), if_neg (by omega), if_neg (by omega)]
end Q73
