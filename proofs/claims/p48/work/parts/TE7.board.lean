/-! STAGE 3: the constructor of a board -/
section Q78
variable {K J : Nat → Nat} {sh sh0 sh2 : HS} {I I0 I2 : HI} {R R0 R2 : HR} {F : VF} {l A B : Nat} {s x y h : Nat → Nat}
theorem ALC.cg {as : List (Nat × Nat × Nat)} {R' : HR} (H : ALC sh0 sh I0 I R0 R l as) (e : ∀ a, ¬ sh0 a = none → R' a = R a) : ALC sh0 sh I0 I R0 R' l as :=
  ⟨fun a ha => by
    obtain ⟨e1, e2, e3⟩ := H.1 a ha
    exact ⟨e1, e2, fun al => (e a ha).trans (e3 al)⟩, H.2⟩
theorem u1_self {α : Type} (f : Nat → α) (a : Nat) : u1 f a (f a) = f := by
  funext b
  unfold u1
  by_cases z : b = a
  · rw [if_pos z, z]
  · rw [if_neg z]
theorem ALC.ref {as : List (Nat × Nat × Nat)} {q : Nat} (H : ALC sh0 sh I0 I R0 R l as) (hq : sh q = none) (hl : ¬ sh l = none) (k : Nat × Nat) (w : Nat → Option Nat) (j : Nat) : ALC sh0 (u1 sh q (some k)) I0 I R0 (u2 (u1 R q w) l j (some q)) l (as ++ [(q, k)]) := by
  have f1 := (H.fr hq).1
  have M := H.arr hq hl k (I q) j
  rw [u1_self] at M
  refine M.cg fun a ha => ?_
  have aq : ¬ a = q := fun e => ha (by rw [e]; exact f1)
  funext t
  unfold u2
  rw [u1_ne _ _ aq]
theorem BQ.sht {j : Nat} (H : BQ sh0 sh I0 I R0 R l A B s x y h 3 j) (hl : sh0 l = some (0, 7)) {q : Nat} (hq : sh q = none) :
    BQ sh0 (u1 sh q (some (7, 6))) I0 (u1 I q (fun _ => 0)) R0 (u2 (u1 R q (fun _ => none)) B j (some q)) l A B s x y (fun k => if k = j then q else h k) 3 (j + 1) := by
  have ll : sh l = some (0, 7) := H.1.at hl
  have ln : ¬ sh l = none := by rw [ll]; simp
  obtain ⟨⟨A0, A1⟩, ⟨B0, B1⟩, S1⟩ := H.arr
  have lB : ¬ l = B := fun e => by rw [e, B1] at ll; exact absurd ll (by simp)
  have AB : ¬ A = B := fun e => by rw [e, B1] at A1; exact absurd A1 (by simp)
  have ne : ∀ a, ¬ sh a = none → ¬ a = q := fun a ha e => ha (by rw [e]; exact hq)
  have lq := ne l ln
  have Aq := ne A (by rw [A1]; simp)
  have Bq := ne B (by rw [B1]; simp)
  have M := H.1.obj hq ln (k := (7, 6)) (z := fun _ => 0) (w := fun _ => none) (ALC.nil q)
  refine ⟨?_, ⟨?_, ?_⟩, fun k hk => ?_, fun k hk => ?_⟩
  · have e : [(A, 35, 3), (B, 37, 12)] ++ scL s x y 3 ++ sotL (fun k => if k = j then q else h k) (j + 1) = ([(A, 35, 3), (B, 37, 12)] ++ scL s x y 3 ++ sotL h j) ++ [(q, 7, 6)] := by
      have un : ∀ h : Nat → Nat, sotL h (j + 1) = sotL h j ++ [(h j, 7, 6)] := fun _ => rfl
      rw [un, sotL_cg (h := h) j (fun k hk => if_neg (by omega)), if_pos rfl, ← List.append_assoc]
    rw [e]
    exact M.w B0 j (some q)
  · rw [u2_row _ _ _ lB, u1_ne _ _ lq]
    exact H.2.1.1
  · rw [u2_row _ _ _ lB, u1_ne _ _ lq]
    exact H.2.1.2
  · obtain ⟨r1, r2, r3⟩ := H.2.2.1 k hk
    have sk := S1 k hk
    have sB : ¬ s k = B := fun e => by rw [e, B1] at sk; exact absurd sk (by simp)
    have sq := ne (s k) (by rw [sk]; simp)
    rw [u2_row _ _ _ AB, u1_ne _ _ Aq, u2_row _ _ _ sB, u1_ne _ _ sq]
    exact ⟨r1, r2, r3⟩
  · dsimp only
    rw [u2_at, u1_ne _ _ Bq]
    by_cases z : k = j
    · rw [if_pos z, if_pos z]
    · rw [if_neg z, if_neg z]
      exact H.2.2.2 k (by omega)
theorem b_sht (hl : sh0 l = some (0, 7)) (hF : ∀ sh I R h, BQ sh0 sh I0 I R0 R l A B s x y h 3 12 → F (.inl none) sh I R) : ∀ d i : Nat, i + d = 12 → ∀ sh I R h (c : Nat × Nat), c.1 ≤ 11 + i ∧ c.2 ≤ 63 + 6 * i → BQ sh0 sh I0 I R0 R l A B s x y h 3 i → V K J 0 49 [some (.ref l), some (.int (iz (i : Int)))] [] sh I R c F := by
  intro d
  induction d with
  | zero =>
    intro i hi sh I R h c hc H
    have e : i = 12 := by omega
    subst e
    refine s_il (i := 1) (pc' := 50) (by decide +kernel) rfl ?_
    refine s_c (v := 12) (pc' := 52) (by decide +kernel) ?_
    refine s_b (ins := .if_icmp .ge 22) (b := true) (t := 74) (pc' := 55) (r := []) (by decide +kernel) rfl (by decide +kernel) rfl (fun _ => ?_) (fun w => absurd w (by decide))
    exact s_rv (X := 23) (Y := 135) (by decide +kernel) ⟨by omega, by omega⟩ (hF sh I R h H)
  | succ d ih =>
    intro i hi sh I R h c hc H
    have i12 : i < 12 := by omega
    have ll : sh l = some (0, 7) := H.1.at hl
    obtain ⟨-, ⟨B0, B1⟩, -⟩ := H.arr
    have c1 : ∀ i : Fin 12, cNew 0 60 7 (11 + i.val) (63 + 6 * i.val) = true := by decide +kernel
    have c2 : ∀ i : Fin 12, cQ 0 64 51 1 67 (11 + i.val + 1) (63 + 6 * i.val + fN 7) (11 + (i.val + 1)) (63 + 6 * (i.val + 1)) = true := by decide +kernel
    have ek : iz (i : Int) + 1 = iz ((i + 1 : Nat) : Int) := by rw [iz_lit, iz_add]; rfl
    refine s_il (i := 1) (pc' := 50) (by decide +kernel) rfl ?_
    refine s_c (v := 12) (pc' := 52) (by decide +kernel) ?_
    refine s_b (ins := .if_icmp .ge 22) (b := decide ((12 : Int32) ≤ iz (i : Int))) (t := 74) (pc' := 55) (r := []) (by decide +kernel) rfl rfl rfl (fun w => ?_) (fun _ => ?_)
    · rw [iz_lit, decide_eq_true_eq, iz_le (by decide) (by decide) (by omega) (by omega)] at w
      have w : (12 : Int) ≤ i := w
      omega
    · refine s_rl (i := 0) (pc' := 56) (by decide +kernel) rfl ?_
      refine s_gR (t := 0) (j := 6) (pc' := 59) (f := some) (by decide +kernel) (by rw [oR_at ll H.2.1.2]; rfl) (fun v e => ?_)
      have e := (Option.some.inj e).symm
      subst e
      refine s_il (i := 1) (pc' := 60) (by decide +kernel) rfl ?_
      refine s_mk (t := 7) (q := 51) (X := 11 + i) (Y := 63 + 6 * i) (X' := 11 + (i + 1)) (Y' := 63 + 6 * (i + 1)) (G := fun q sh' I' R' => sh' = u1 sh q (some (7, 6)) ∧ I' = u1 I q (fun _ => 0) ∧ R' = u1 R q (fun _ => none)) (c1 ⟨i, i12⟩) (by decide +kernel) (c2 ⟨i, i12⟩) (by decide +kernel) hc (fun _ => rfl) (fun _ => rfl) (fun q hq => vX8_init ⟨rfl, rfl, rfl, rfl⟩) (fun q sh2 I2 R2 c2' hc2 hq g => ?_)
      obtain ⟨e1, e2, e3⟩ := g
      subst e1
      subst e2
      subst e3
      have Bq : ¬ B = q := fun e => by rw [e, hq] at B1; exact absurd B1 (by simp)
      have B2 : u1 sh q (some (7, 6)) B = some (37, 12) := (u1_ne _ _ Bq).trans B1
      refine s_aas (t := 7) (pc' := 68) (f := some) (o := u2 (u1 R q (fun _ => none)) B i (some q)) (by decide +kernel) (by rw [oU_iz B2 (u1_eq _ _ _) (by decide) (by omega) (by omega) (by omega), Int.toNat_natCast]; rfl) (fun R3 e => ?_)
      have e := (Option.some.inj e).symm
      subst e
      refine s_inc (i := 1) (z := 1) (pc' := 71) (L' := [some (.ref l), some (.int (iz ((i + 1 : Nat) : Int)))]) (by decide +kernel) rfl rfl (by rw [← ek]; rfl) ?_
      refine s_go (t := 49) (by decide +kernel) ?_
      exact ih (i + 1) (by omega) _ _ _ _ c2' hc2 (H.sht hl hq)
theorem vX0_init (hl : sh l = some (0, 7)) (hF : ∀ A B s x y h sh' I' R', BQ sh sh' I I' R R' l A B s x y h 3 12 → F (.inl none) sh' I' R') : V K J 0 0 (ent (mL 0) [.ref l]) [] sh I R (0, 0) F := by
  have hc0 : ((0 : Nat), (0 : Nat)).1 ≤ 0 ∧ ((0 : Nat), (0 : Nat)).2 ≤ 0 := ⟨Nat.le_refl _, Nat.le_refl _⟩
  have ln : ¬ sh l = none := by rw [hl]; simp
  show V K J 0 0 [some (.ref l), none] [] sh I R (0, 0) F
  refine s_rl (i := 0) (pc' := 1) (by decide +kernel) rfl ?_
  refine s_obj (pc' := 4) (X := 0) (Y := 0) (by decide +kernel) hc0 (by decide) ?_
  have A0 : ALC sh sh I I R R l [] := ALC.nil l
  refine s_rl (i := 0) (pc' := 5) (by decide +kernel) rfl ?_
  refine s_c (v := 3) (pc' := 6) (by decide +kernel) ?_
  refine s_anw (t := 5) (m := 3) (X := 0) (Y := 0) (by decide +kernel) (by decide) (by decide) hc0 (fun a ha => ?_)
  have A1 := A0.ref ha ln (35, 3) (fun _ => none) 5
  refine s_pR (t := 0) (j := 5) (pc' := 12) (f := some) (by decide +kernel) (by rw [oQ_at (A1.at hl)]; rfl) (fun R1 e => ?_)
  have e := (Option.some.inj e).symm
  subst e
  refine s_rl (i := 0) (pc' := 13) (by decide +kernel) rfl ?_
  refine s_c (v := 12) (pc' := 15) (by decide +kernel) ?_
  refine s_anw (t := 7) (m := 12) (X := 1) (Y := 3) (by decide +kernel) (by decide) (by decide) ⟨Nat.le_refl _, Nat.le_refl _⟩ (fun b hb => ?_)
  have l1 := A1.at hl
  have A2 := A1.ref hb (by rw [l1]; simp) (37, 12) (fun _ => none) 6
  refine s_pR (t := 0) (j := 6) (pc' := 21) (f := some) (by decide +kernel) (by rw [oQ_at (A2.at hl)]; rfl) (fun R2 e => ?_)
  have e := (Option.some.inj e).symm
  subst e
  have lb : ¬ l = b := fun e => by rw [← e, l1] at hb; exact absurd hb (by simp)
  refine s_c (v := 0) (pc' := 22) (by decide +kernel) ?_
  refine s_is (i := 1) (pc' := 23) (L' := [some (.ref l), some (.int (iz ((0 : Nat) : Int)))]) (by decide +kernel) rfl rfl ?_
  refine b_scn (h := fun _ => 0) hl (fun sh1 I1 R1 s x y c hc H => ?_) 3 0 rfl _ _ _ (fun _ => 0) (fun _ => 0) (fun _ => 0) _ ⟨by decide, by decide⟩ ⟨A2, ⟨?_, ?_⟩, fun k hk => absurd hk (Nat.not_lt_zero k), fun k hk => absurd hk (Nat.not_lt_zero k)⟩
  · refine s_c (v := 0) (pc' := 48) (by decide +kernel) ?_
    refine s_is (i := 1) (pc' := 49) (L' := [some (.ref l), some (.int (iz ((0 : Nat) : Int)))]) (by decide +kernel) rfl rfl ?_
    exact b_sht hl (fun sh2 I2 R2 h2 G => hF _ _ _ _ _ h2 sh2 I2 R2 G) 12 0 rfl sh1 I1 R1 _ c hc H
  · rw [u2_at, if_neg (by decide), u1_ne _ _ lb, u2_at, if_pos rfl]
  · rw [u2_at, if_pos rfl]
end Q78
