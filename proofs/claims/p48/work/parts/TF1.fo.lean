/-! STAGE 3: a field of the planner under construction: an object made, constructed, kept -/
section Q82
variable {K J : Nat → Nat} {sh sh0 : HS} {I I0 : HI} {R R0 : HR} {F : VF} {l : Nat} {as : List (Nat × Nat × Nat)} {c : Nat × Nat}
theorem s_fo {pc p8 t q j X Y X' Y' : Nat} {G : Nat → HS → HI → HR → List (Nat × Nat × Nat) → Prop} (h0 : cLd 61 pc 1 0 (pc + 1) = true) (h1 : cNew 61 (pc + 1) t X Y = true) (h2 : cA 61 (pc + 1 + 3) .dup (pc + 1 + 4) = true) (h3 : cQ 61 (pc + 1 + 4) q 1 (pc + 1 + 7) (X + 1) (Y + fN t) X' Y' = true) (h4 : cPu 61 (pc + 1 + 7) 8 j 2 p8 = true) (hq : ¬ mK q = 1) (he : ∀ y, Nat.ble (entA [Value.ref y]).length (mL q) = true)
    (H : ALC sh0 sh I0 I R0 R l as) (hl : sh0 l = some (8, 14)) (hc : c.1 ≤ X ∧ c.2 ≤ Y)
    (hV : ∀ y, sh y = none → V K J q 0 (ent (mL q) [.ref y]) [] (u1 sh y (some (t, fN t))) (u1 I y (fun _ => 0)) (u1 R y (fun _ => none)) (0, 0) (fun o sh' I' R' => o = .inl none ∧ ∃ bs, ALC (u1 sh y (some (t, fN t))) sh' (u1 I y (fun _ => 0)) I' (u1 R y (fun _ => none)) R' y bs ∧ G y sh' I' R' bs))
    (k : ∀ y bs sh' I' R' (c' : Nat × Nat), c'.1 ≤ X' ∧ c'.2 ≤ Y' → sh y = none → ALC (u1 sh y (some (t, fN t))) sh' (u1 I y (fun _ => 0)) I' (u1 R y (fun _ => none)) R' y bs → ALC sh0 sh' I0 I' R0 (u2 R' l j (some y)) l (as ++ (y, t, fN t) :: bs) → G y sh' I' R' bs → V K J 61 p8 [some (.ref l)] [] sh' I' (u2 R' l j (some y)) c' F) : V K J 61 pc [some (.ref l)] [] sh I R c F := by
  have ll : sh l = some (8, 14) := H.at hl
  have ln : ¬ sh l = none := by rw [ll]; simp
  refine s_rl (i := 0) (pc' := pc + 1) h0 rfl ?_
  refine s_mk (t := t) (q := q) (X := X) (Y := Y) (X' := X') (Y' := Y') (G := fun y sh' I' R' => ∃ bs, ALC (u1 sh y (some (t, fN t))) sh' (u1 I y (fun _ => 0)) I' (u1 R y (fun _ => none)) R' y bs ∧ G y sh' I' R' bs) h1 h2 h3 hq hc (fun _ => rfl) he hV (fun y sh' I' R' c' hc' hy g => ?_)
  obtain ⟨bs, g1, g2⟩ := g
  have M := H.obj hy ln g1
  refine s_pR (t := 8) (j := j) (pc' := p8) (f := some) h4 (by rw [oQ_at (M.at hl)]; rfl) (fun R3 e => ?_)
  have e := (Option.some.inj e).symm
  subst e
  have M2 : ALC sh0 sh' I0 I' R0 (u2 R' l j (some y)) l (as ++ (y, t, fN t) :: bs) := ⟨fun a ha => by
    obtain ⟨e1, e2, e3⟩ := M.1 a ha
    exact ⟨e1, e2, fun al => (u2_row R' j (some y) al).trans (e3 al)⟩, M.2⟩
  exact k y bs sh' I' R' c' hc' hy g1 M2 g2
end Q82
