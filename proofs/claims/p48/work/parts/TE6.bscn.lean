/-! STAGE 3: a board's scenes made -/
section Q77
variable {K J : Nat → Nat} {sh sh0 sh2 : HS} {I I0 I2 : HI} {R R0 R2 : HR} {F : VF} {l A B : Nat} {s x y h : Nat → Nat}
theorem ALC.old {q : Nat} {k : Nat × Nat} {z : Nat → Int32} {w : Nat → Option Nat} {bs : List (Nat × Nat × Nat)} (hq : sh q = none) (G : ALC (u1 sh q (some k)) sh2 (u1 I q z) I2 (u1 R q w) R2 q bs) {a : Nat} (ha : ¬ sh a = none) : ¬ a = q ∧ sh2 a = sh a ∧ I2 a = I a ∧ R2 a = R a := by
  have ay : ¬ a = q := fun e => ha (by rw [e]; exact hq)
  obtain ⟨e1, e2, e3⟩ := G.1 a (by rw [u1_ne _ _ ay]; exact ha)
  exact ⟨ay, e1.trans (u1_ne _ _ ay), e2.trans (u1_ne _ _ ay), (e3 ay).trans (u1_ne _ _ ay)⟩
theorem BQ.arr {i j : Nat} (H : BQ sh0 sh I0 I R0 R l A B s x y h i j) : (sh0 A = none ∧ sh A = some (35, 3)) ∧ (sh0 B = none ∧ sh B = some (37, 12)) ∧ ∀ k, k < i → sh (s k) = some (5, 4) := by
  have m := H.1.2.2.1
  refine ⟨m (A, 35, 3) ?_, m (B, 37, 12) ?_, fun k hk => (m (s k, 5, 4) ?_).2⟩
  · exact List.mem_append.mpr (Or.inl (List.mem_append.mpr (Or.inl (List.mem_cons.mpr (Or.inl rfl)))))
  · exact List.mem_append.mpr (Or.inl (List.mem_append.mpr (Or.inl (List.mem_cons.mpr (Or.inr (List.mem_singleton.mpr rfl))))))
  · exact List.mem_append.mpr (Or.inl (List.mem_append.mpr (Or.inr (scL_mem s x y i k hk))))
theorem BQ.scn {i : Nat} (H : BQ sh0 sh I0 I R0 R l A B s x y h i 0) (hl : sh0 l = some (0, 7)) {q a b : Nat} (hq : sh q = none) (G : ALC (u1 sh q (some (5, 4))) sh2 (u1 I q (fun _ => 0)) I2 (u1 R q (fun _ => none)) R2 q [(a, 20, 6), (b, 20, 6)]) (ra : R2 q 2 = some a) (rb : R2 q 3 = some b) :
    BQ sh0 sh2 I0 I2 R0 (u2 R2 A i (some q)) l A B (fun k => if k = i then q else s k) (fun k => if k = i then a else x k) (fun k => if k = i then b else y k) h (i + 1) 0 := by
  have ll : sh l = some (0, 7) := H.1.at hl
  have ln : ¬ sh l = none := by rw [ll]; simp
  obtain ⟨⟨A0, A1⟩, ⟨B0, B1⟩, S1⟩ := H.arr
  have lA : ¬ l = A := fun e => by rw [e, A1] at ll; exact absurd ll (by simp)
  have oA := ALC.old hq G (a := A) (by rw [A1]; simp)
  have ol := ALC.old hq G (a := l) ln
  have M := H.1.obj hq ln G
  refine ⟨?_, ⟨?_, ?_⟩, fun k hk => ?_, fun k hk => absurd hk (Nat.not_lt_zero k)⟩
  · have e : [(A, 35, 3), (B, 37, 12)] ++ scL (fun k => if k = i then q else s k) (fun k => if k = i then a else x k) (fun k => if k = i then b else y k) (i + 1) ++ sotL h 0 = ([(A, 35, 3), (B, 37, 12)] ++ scL s x y i ++ sotL h 0) ++ (q, 5, 4) :: [(a, 20, 6), (b, 20, 6)] := by
      have un : ∀ s x y : Nat → Nat, scL s x y (i + 1) = scL s x y i ++ [(s i, 5, 4), (x i, 20, 6), (y i, 20, 6)] := fun _ _ _ => rfl
      have z0 : sotL h 0 = [] := rfl
      rw [un, z0, List.append_nil, List.append_nil, scL_cg (s := s) (x := x) (y := y) i (fun k hk => ⟨if_neg (by omega), if_neg (by omega), if_neg (by omega)⟩), if_pos rfl, if_pos rfl, if_pos rfl, List.append_assoc]
    rw [e]
    exact M.w A0 i (some q)
  · rw [u2_row _ _ _ lA, ol.2.2.2]
    exact H.2.1.1
  · rw [u2_row _ _ _ lA, ol.2.2.2]
    exact H.2.1.2
  · dsimp only
    by_cases z : k = i
    · rw [if_pos z, if_pos z, if_pos z, z, u2_at, if_pos rfl, u2_row _ _ _ (fun e => oA.1 e.symm)]
      exact ⟨rfl, ra, rb⟩
    · obtain ⟨r1, r2, r3⟩ := H.2.2.1 k (by omega)
      have sk := S1 k (by omega)
      have os := ALC.old hq G (a := s k) (by rw [sk]; simp)
      have sA : ¬ s k = A := fun e => by rw [e, A1] at sk; exact absurd sk (by simp)
      rw [if_neg z, if_neg z, if_neg z, u2_at, if_neg z, oA.2.2.2, u2_row _ _ _ sA, os.2.2.2]
      exact ⟨r1, r2, r3⟩
theorem b_scn (hl : sh0 l = some (0, 7)) (k47 : ∀ sh I R s x y c, c.1 ≤ 11 ∧ c.2 ≤ 63 → BQ sh0 sh I0 I R0 R l A B s x y h 3 0 → V K J 0 47 [some (.ref l), some (.int (iz ((3 : Nat) : Int)))] [] sh I R c F) : ∀ d i : Nat, i + d = 3 → ∀ sh I R s x y (c : Nat × Nat), c.1 ≤ 2 + 3 * i ∧ c.2 ≤ 15 + 16 * i → BQ sh0 sh I0 I R0 R l A B s x y h i 0 → V K J 0 23 [some (.ref l), some (.int (iz (i : Int)))] [] sh I R c F := by
  intro d
  induction d with
  | zero =>
    intro i hi sh I R s x y c hc H
    have e : i = 3 := by omega
    subst e
    refine s_il (i := 1) (pc' := 24) (by decide +kernel) rfl ?_
    refine s_c (v := 3) (pc' := 25) (by decide +kernel) ?_
    refine s_b (ins := .if_icmp .ge 22) (b := true) (t := 47) (pc' := 28) (r := []) (by decide +kernel) rfl (by decide +kernel) rfl (fun _ => ?_) (fun w => absurd w (by decide))
    exact k47 sh I R s x y c ⟨by omega, by omega⟩ H
  | succ d ih =>
    intro i hi sh I R s x y c hc H
    have i3 : i < 3 := by omega
    have ll : sh l = some (0, 7) := H.1.at hl
    obtain ⟨⟨A0, A1⟩, -, -⟩ := H.arr
    have c1 : ∀ i : Fin 3, cNew 0 33 5 (2 + 3 * i.val) (15 + 16 * i.val) = true := by decide +kernel
    have c2 : ∀ i : Fin 3, cQ 0 37 42 1 40 (2 + 3 * i.val + 1) (15 + 16 * i.val + fN 5) (2 + 3 * (i.val + 1)) (15 + 16 * (i.val + 1)) = true := by decide +kernel
    have ek : iz (i : Int) + 1 = iz ((i + 1 : Nat) : Int) := by rw [iz_lit, iz_add]; rfl
    refine s_il (i := 1) (pc' := 24) (by decide +kernel) rfl ?_
    refine s_c (v := 3) (pc' := 25) (by decide +kernel) ?_
    refine s_b (ins := .if_icmp .ge 22) (b := decide ((3 : Int32) ≤ iz (i : Int))) (t := 47) (pc' := 28) (r := []) (by decide +kernel) rfl rfl rfl (fun w => ?_) (fun _ => ?_)
    · rw [iz_lit, decide_eq_true_eq, iz_le (by decide) (by decide) (by omega) (by omega)] at w
      have w : (3 : Int) ≤ i := w
      omega
    · refine s_rl (i := 0) (pc' := 29) (by decide +kernel) rfl ?_
      refine s_gR (t := 0) (j := 5) (pc' := 32) (f := some) (by decide +kernel) (by rw [oR_at ll H.2.1.1]; rfl) (fun v e => ?_)
      have e := (Option.some.inj e).symm
      subst e
      refine s_il (i := 1) (pc' := 33) (by decide +kernel) rfl ?_
      refine s_mk (t := 5) (q := 42) (X := 2 + 3 * i) (Y := 15 + 16 * i) (X' := 2 + 3 * (i + 1)) (Y' := 15 + 16 * (i + 1)) (G := fun q sh' I' R' => ∃ a b, ALC (u1 sh q (some (5, 4))) sh' (u1 I q (fun _ => 0)) I' (u1 R q (fun _ => none)) R' q [(a, 20, 6), (b, 20, 6)] ∧ R' q 2 = some a ∧ R' q 3 = some b) (c1 ⟨i, i3⟩) (by decide +kernel) (c2 ⟨i, i3⟩) (by decide +kernel) hc (fun _ => rfl) (fun _ => rfl) (fun q hq => ?_) (fun q sh2 I2 R2 c2' hc2 hq g => ?_)
      · exact vX6_ini (u1_eq _ _ _) (fun a b sh' I' R' G r => ⟨rfl, a, b, G, r.1, r.2⟩)
      · obtain ⟨a, b, G, ra, rb⟩ := g
        have A2 : sh2 A = some (35, 3) := (ALC.old hq G (a := A) (by rw [A1]; simp)).2.1.trans A1
        have q2 : sh2 q = some (5, 4) := (G.1 q (by rw [u1_eq]; simp)).1.trans (u1_eq _ _ _)
        refine s_aas (t := 5) (pc' := 41) (f := some) (o := u2 R2 A i (some q)) (by decide +kernel) (by rw [oU_iz A2 q2 (by decide) (by omega) (by omega) (by omega), Int.toNat_natCast]; rfl) (fun R3 e => ?_)
        have e := (Option.some.inj e).symm
        subst e
        refine s_inc (i := 1) (z := 1) (pc' := 44) (L' := [some (.ref l), some (.int (iz ((i + 1 : Nat) : Int)))]) (by decide +kernel) rfl rfl (by rw [← ek]; rfl) ?_
        refine s_go (t := 23) (by decide +kernel) ?_
        exact ih (i + 1) (by omega) sh2 I2 _ _ _ _ c2' hc2 (H.scn hl hq G ra rb)
end Q77
