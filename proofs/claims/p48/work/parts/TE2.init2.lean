/-! STAGE 3: what is new in a heap, as a list; the constructors of the plan, the reader, the table -/
def ALC (sh0 sh : HS) (I0 I : HI) (R0 R : HR) (l : Nat) (as : List (Nat × Nat × Nat)) : Prop := HXT sh0 sh I0 I R0 R l ∧ (as.map (fun p => p.1)).Nodup ∧ (∀ p, p ∈ as → sh0 p.1 = none ∧ sh p.1 = some p.2) ∧ ∀ a, ¬ sh a = none → ¬ sh0 a = none ∨ a ∈ as.map (fun p => p.1)
def cFa (mi pc p2 p3 t j m X Y : Nat) (v : Int32) : Bool := cLd mi pc 1 0 (pc + 1) && (cC mi (pc + 1) v p2 && (cNwa mi p2 m X Y && (cPu mi (p2 + 2) t j 2 p3 && decide (¬ v < 0 ∧ v.toNatClampNeg = m))))
section Q72
variable {K J : Nat → Nat} {sh sh0 sh1 sh2 : HS} {I I0 I1 I2 : HI} {R R0 R1 R2 : HR} {F : VF} {l x y : Nat} {as bs : List (Nat × Nat × Nat)}
theorem ALC.nil (l : Nat) : ALC sh sh I I R R l [] := ⟨HXT.rf l, List.nodup_nil, fun p h => absurd h List.not_mem_nil, fun a h => Or.inl h⟩
theorem ALC.fr (H : ALC sh0 sh I0 I R0 R l as) (hx : sh x = none) : sh0 x = none ∧ ¬ x ∈ as.map (fun p => p.1) := by
  refine ⟨Classical.byContradiction fun q => ?_, fun q => ?_⟩
  · have e := (H.1 x q).1
    rw [hx] at e
    exact q e.symm
  · obtain ⟨p, hp, e⟩ := List.mem_map.mp q
    have := (H.2.2.1 p hp).2
    have e : p.1 = x := e
    rw [e, hx] at this
    exact absurd this (by simp)
theorem nodup_snoc {α : Type} {L : List α} {a : α} (h : L.Nodup) (ha : ¬ a ∈ L) : (L ++ [a]).Nodup := by
  rw [List.nodup_append]
  exact ⟨h, by simp, fun b hb c hc e => ha (by rw [List.mem_singleton] at hc; rw [← hc, ← e]; exact hb)⟩
/-- one array more, kept in a field of the object under construction -/
theorem ALC.arr (H : ALC sh0 sh I0 I R0 R l as) (hx : sh x = none) (hl : ¬ sh l = none) (k : Nat × Nat) (z : Nat → Int32) (j : Nat) : ALC sh0 (u1 sh x (some k)) I0 (u1 I x z) R0 (u2 R l j (some x)) l (as ++ [(x, k)]) := by
  obtain ⟨f1, f2⟩ := H.fr hx
  obtain ⟨h1, h2, h3, h4⟩ := H
  refine ⟨fun a ha => ?_, ?_, fun p hp => ?_, fun a ha => ?_⟩
  · have ax : ¬ a = x := fun q => ha (by rw [q]; exact f1)
    obtain ⟨e1, e2, e3⟩ := h1 a ha
    exact ⟨(u1_ne _ _ ax).trans e1, (u1_ne _ _ ax).trans e2, fun al => (u2_row _ _ _ al).trans (e3 al)⟩
  · rw [List.map_append]
    exact nodup_snoc h2 f2
  · rcases List.mem_append.mp hp with q | q
    · obtain ⟨e1, e2⟩ := h3 p q
      have px : ¬ p.1 = x := fun w => f2 (List.mem_map.mpr ⟨p, q, w⟩)
      exact ⟨e1, (u1_ne _ _ px).trans e2⟩
    · have e : p = (x, k) := List.mem_singleton.mp q
      rw [e]
      exact ⟨f1, u1_eq _ _ _⟩
  · rw [List.map_append]
    by_cases ax : a = x
    · exact Or.inr (List.mem_append.mpr (Or.inr (by rw [ax]; exact List.mem_singleton.mpr rfl)))
    · rcases h4 a (fun q => ha ((u1_ne _ _ ax).trans q)) with w | w
      · exact Or.inl w
      · exact Or.inr (List.mem_append.mpr (Or.inl w))
/-- one object more, with what its constructor made; its own fields are told apart -/
theorem ALC.obj (H : ALC sh0 sh I0 I R0 R l as) (hy : sh y = none) (hl : ¬ sh l = none) {k : Nat × Nat} {z : Nat → Int32} {w : Nat → Option Nat} (G : ALC (u1 sh y (some k)) sh2 (u1 I y z) I2 (u1 R y w) R2 y bs) : ALC sh0 sh2 I0 I2 R0 R2 l (as ++ (y, k) :: bs) := by
  obtain ⟨f1, f2⟩ := H.fr hy
  obtain ⟨h1, h2, h3, h4⟩ := H
  obtain ⟨g1, g2, g3, g4⟩ := G
  have yk : sh2 y = some k := by
    have := (g1 y (by rw [u1_eq]; simp)).1
    rw [this, u1_eq]
  have old : ∀ a, ¬ sh a = none → ¬ a = y ∧ sh2 a = sh a ∧ I2 a = I a ∧ R2 a = R a := by
    intro a ha
    have ay : ¬ a = y := fun q => ha (by rw [q]; exact hy)
    obtain ⟨e1, e2, e3⟩ := g1 a (by rw [u1_ne _ _ ay]; exact ha)
    exact ⟨ay, e1.trans (u1_ne _ _ ay), e2.trans (u1_ne _ _ ay), (e3 ay).trans (u1_ne _ _ ay)⟩
  have nb : ∀ p, p ∈ bs → ¬ p.1 = y ∧ sh p.1 = none := by
    intro p hp
    have e := (g3 p hp).1
    have py : ¬ p.1 = y := fun q => by rw [q, u1_eq] at e; exact absurd e (by simp)
    exact ⟨py, by rw [u1_ne _ _ py] at e; exact e⟩
  refine ⟨fun a ha => ?_, ?_, fun p hp => ?_, fun a ha => ?_⟩
  · obtain ⟨e1, e2, e3⟩ := h1 a ha
    obtain ⟨d0, d1, d2, d3⟩ := old a (by rw [e1]; exact ha)
    exact ⟨d1.trans e1, d2.trans e2, fun al => d3.trans (e3 al)⟩
  · rw [List.map_append, List.nodup_append]
    refine ⟨h2, ?_, fun a ha b hb e => ?_⟩
    · refine List.nodup_cons.mpr ⟨fun q => ?_, g2⟩
      obtain ⟨p, hp, e⟩ := List.mem_map.mp q
      exact (nb p hp).1 e
    · subst e
      rcases List.mem_cons.mp hb with q | q
      · have q : a = y := q
        rw [q] at ha
        exact f2 ha
      · obtain ⟨p, hp, e⟩ := List.mem_map.mp q
        obtain ⟨p2, hp2, e2⟩ := List.mem_map.mp ha
        have n1 := (nb p hp).2
        have n2 := (h3 p2 hp2).2
        have e : p.1 = a := e
        have e2 : p2.1 = a := e2
        rw [e] at n1
        rw [e2, n1] at n2
        exact absurd n2 (by simp)
  · rcases List.mem_append.mp hp with q | q
    · obtain ⟨e1, e2⟩ := h3 p q
      obtain ⟨d0, d1, -⟩ := old p.1 (by rw [e2]; simp)
      exact ⟨e1, d1.trans e2⟩
    · rcases List.mem_cons.mp q with q | q
      · rw [q]
        exact ⟨f1, yk⟩
      · obtain ⟨n1, n2⟩ := nb p q
        refine ⟨Classical.byContradiction fun w => ?_, (g3 p q).2⟩
        have e := (h1 p.1 w).1
        rw [n2] at e
        exact w e.symm
  · rw [List.map_append]
    rcases g4 a ha with w | w
    · by_cases ay : a = y
      · exact Or.inr (List.mem_append.mpr (Or.inr (List.mem_cons.mpr (Or.inl ay))))
      · rw [u1_ne _ _ ay] at w
        rcases h4 a w with v | v
        · exact Or.inl v
        · exact Or.inr (List.mem_append.mpr (Or.inl v))
    · exact Or.inr (List.mem_append.mpr (Or.inr (List.mem_cons.mpr (Or.inr w))))
theorem s_fa {mi pc p2 p3 t j m X Y nn : Nat} {v : Int32} {L : VL} {st : List Value} {c : Nat × Nat} (h : cFa mi pc p2 p3 t j m X Y v = true) (hL : L[0]? = some (some (.ref l))) (hl : sh l = some (t, nn)) (hc : c.1 ≤ X ∧ c.2 ≤ Y) (k : ∀ x, sh x = none → V K J mi p3 L st (u1 sh x (some (20, m))) (u1 I x (fun _ => 0)) (u2 R l j (some x)) (c.1 + 1, c.2 + m) F) : V K J mi pc L st sh I R c F := by
  unfold cFa at h
  simp only [Bool.and_eq_true, decide_eq_true_eq] at h
  obtain ⟨h1, h2, h3, h4, h5, h6⟩ := h
  refine s_rl h1 hL ?_
  refine s_c h2 ?_
  refine s_nwa h3 h5 h6 hc (fun x hx => ?_)
  have lx : ¬ l = x := fun q => by rw [q, hx] at hl; exact absurd hl (by simp)
  have e1 : u1 sh x (some (20, m)) l = some (t, nn) := (u1_ne _ _ lx).trans hl
  refine s_pR (f := some) h4 (by rw [oQ_at e1]; rfl) (fun R1 e => ?_)
  have e := (Option.some.inj e).symm
  subst e
  exact k x hx
theorem vX4_init (hl : sh l = some (3, 2)) (hF : ∀ x sh' I' R', ALC sh sh' I I' R R' l [(x, 20, 1056)] → (∀ k, R' l k = if k = 0 then some x else R l k) → F (.inl none) sh' I' R') : V K J 40 0 (ent (mL 40) [.ref l]) [] sh I R (0, 0) F := by
  have hc0 : ((0 : Nat), (0 : Nat)).1 ≤ 0 ∧ ((0 : Nat), (0 : Nat)).2 ≤ 0 := ⟨Nat.le_refl _, Nat.le_refl _⟩
  have ln : ¬ sh l = none := by rw [hl]; simp
  show V K J 40 0 [some (.ref l)] [] sh I R (0, 0) F
  refine s_rl (i := 0) (pc' := 1) (by decide +kernel) rfl ?_
  refine s_obj (pc' := 4) (X := 0) (Y := 0) (by decide +kernel) hc0 (by decide) ?_
  refine s_fa (v := 1056) (p2 := 8) (p3 := 13) (t := 3) (j := 0) (m := 1056) (X := 0) (Y := 0) (by decide +kernel) rfl hl hc0 (fun x hx => ?_)
  refine s_rv (X := 1) (Y := 1056) (by decide +kernel) ⟨Nat.le_refl _, Nat.le_refl _⟩ ?_
  exact hF x _ _ _ ((ALC.nil l).arr hx ln (20, 1056) (fun _ => 0) 0) (fun k => u2_at _ _ _ _ _)
theorem vX1_init (hl : sh l = some (1, 7)) (hF : ∀ x sh' I' R', ALC sh sh' I I' R R' l [(x, 20, 0)] → (∀ k, R' l k = if k = 0 then some x else R l k) → F (.inl none) sh' I' R') : V K J 9 0 (ent (mL 9) [.ref l]) [] sh I R (0, 0) F := by
  have hc0 : ((0 : Nat), (0 : Nat)).1 ≤ 0 ∧ ((0 : Nat), (0 : Nat)).2 ≤ 0 := ⟨Nat.le_refl _, Nat.le_refl _⟩
  have ln : ¬ sh l = none := by rw [hl]; simp
  show V K J 9 0 [some (.ref l)] [] sh I R (0, 0) F
  refine s_rl (i := 0) (pc' := 1) (by decide +kernel) rfl ?_
  refine s_obj (pc' := 4) (X := 0) (Y := 0) (by decide +kernel) hc0 (by decide) ?_
  refine s_fa (v := 0) (p2 := 6) (p3 := 11) (t := 1) (j := 0) (m := 0) (X := 0) (Y := 0) (by decide +kernel) rfl hl hc0 (fun x hx => ?_)
  refine s_rv (X := 1) (Y := 0) (by decide +kernel) ⟨Nat.le_refl _, Nat.le_refl _⟩ ?_
  exact hF x _ _ _ ((ALC.nil l).arr hx ln (20, 0) (fun _ => 0) 0) (fun k => u2_at _ _ _ _ _)
end Q72
