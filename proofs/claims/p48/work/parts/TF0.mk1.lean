/-! STAGE 3: an object made and constructed with a number -/
section Q81
variable {K J : Nat → Nat} {mi pc p5 p6 : Nat} {L : VL} {st : List Value} {sh : HS} {I : HI} {R : HR} {c : Nat × Nat} {F : VF}
theorem s_mk1 {t q X Y X' Y' : Nat} {v : Int32} {G : Nat → HS → HI → HR → Prop} (h1 : cNew mi pc t X Y = true) (h2 : cA mi (pc + 3) .dup (pc + 4) = true) (hv : cC mi (pc + 4) v p5 = true) (h3 : cQ mi p5 q 2 p6 (X + 1) (Y + fN t) X' Y' = true) (hq : ¬ mK q = 1) (hc : c.1 ≤ X ∧ c.2 ≤ Y) (hr : ∀ y, Nat.ble (catS (.ref y :: st)) 8 = true) (he : ∀ y, Nat.ble (entA [Value.ref y, Value.int v]).length (mL q) = true)
    (hV : ∀ y, sh y = none → V K J q 0 (ent (mL q) [.ref y, .int v]) [] (u1 sh y (some (t, fN t))) (u1 I y (fun _ => 0)) (u1 R y (fun _ => none)) (0, 0) (fun o sh' I' R' => o = .inl none ∧ G y sh' I' R'))
    (k : ∀ y sh' I' R' c', c'.1 ≤ X' ∧ c'.2 ≤ Y' → sh y = none → G y sh' I' R' → V K J mi p6 L (.ref y :: st) sh' I' R' c' F) : V K J mi pc L st sh I R c F := by
  refine s_new h1 hc (fun y hy => ?_)
  refine s_a (ins := .dup) h2 rfl ?_
  refine s_c hv ?_
  show V K J mi p5 L ([.int v, .ref y] ++ (.ref y :: st)) _ _ _ _ F
  exact s_call (as := [.int v, .ref y]) (rest := .ref y :: st) (G := fun o sh' I' R' => o = .inl none ∧ G y sh' I' R') h3 ⟨by omega, by omega⟩ rfl (hr y) (he y) (Or.inl rfl) (fun w => absurd w hq) (fun _ => ⟨y, rfl⟩) (hV y hy) (fun sh' I' R' c' hc' g => k y sh' I' R' c' hc' hy g.2) (fun v sh' I' R' c' _ g => by exact absurd g.1 (by simp)) (fun E sh' I' R' g => by exact absurd g.1 (by simp))
end Q81
