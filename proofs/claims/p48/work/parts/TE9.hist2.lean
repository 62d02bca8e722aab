/-! STAGE 3: the constructor of the history, its ten boards -/
section Q80
variable {K J : Nat → Nat} {sh sh0 sh2 : HS} {I I0 I2 : HI} {R R0 R2 : HR} {F : VF} {l C : Nat} {b A B : Nat → Nat} {s x y h : Nat → Nat → Nat}
theorem HQ.add {n : Nat} (H : HQ sh0 sh I0 I R0 R l C b A B s x y h n) (hl : sh0 l = some (2, 3)) {q A' B' : Nat} {s' x' y' h' : Nat → Nat} (hq : sh q = none) (G : BQ (u1 sh q (some (0, 7))) sh2 (u1 I q (fun _ => 0)) I2 (u1 R q (fun _ => none)) R2 q A' B' s' x' y' h' 3 12) :
    HQ sh0 sh2 I0 I2 R0 (u2 R2 C n (some q)) l C (fun k => if k = n then q else b k) (fun k => if k = n then A' else A k) (fun k => if k = n then B' else B k) (fun k => if k = n then s' else s k) (fun k => if k = n then x' else x k) (fun k => if k = n then y' else y k) (fun k => if k = n then h' else h k) (n + 1) := by
  have ll : sh l = some (2, 3) := H.1.at hl
  have ln : ¬ sh l = none := by rw [ll]; simp
  obtain ⟨⟨C0, C1⟩, D⟩ := H.shp
  have M := H.1.obj hq ln G.1
  have old : ∀ a k, sh a = some k → ¬ k = (30, 10) → u2 R2 C n (some q) a = R a := by
    intro a k ha hk
    have aC : ¬ a = C := fun e => by rw [e, C1] at ha; exact hk (Option.some.inj ha).symm
    rw [u2_row _ _ _ aC]
    exact (ALC.old hq G.1 (a := a) (by rw [ha]; simp)).2.2.2
  have oC := ALC.old hq G.1 (a := C) (by rw [C1]; simp)
  have C2 : sh2 C = some (30, 10) := oC.2.1.trans C1
  have new : ∀ a k, sh2 a = some k → ¬ k = (30, 10) → u2 R2 C n (some q) a = R2 a := by
    intro a k ha hk
    have aC : ¬ a = C := fun e => by rw [e, C2] at ha; exact hk (Option.some.inj ha).symm
    exact u2_row _ _ _ aC
  have q2 : sh2 q = some (0, 7) := (G.1.1 q (by rw [u1_eq]; simp)).1.trans (u1_eq _ _ _)
  refine ⟨?_, ?_, fun m hm => ?_⟩
  · have e : [(C, 30, 10)] ++ bdL (fun k => if k = n then q else b k) (fun k => if k = n then A' else A k) (fun k => if k = n then B' else B k) (fun k => if k = n then s' else s k) (fun k => if k = n then x' else x k) (fun k => if k = n then y' else y k) (fun k => if k = n then h' else h k) (n + 1) = ([(C, 30, 10)] ++ bdL b A B s x y h n) ++ (q, 0, 7) :: bdP A' B' s' x' y' h' := by
      have un : ∀ (b A B : Nat → Nat) (s x y h : Nat → Nat → Nat), bdL b A B s x y h (n + 1) = bdL b A B s x y h n ++ (b n, 0, 7) :: bdP (A n) (B n) (s n) (x n) (y n) (h n) := fun _ _ _ _ _ _ _ => rfl
      rw [un, bdL_cg (b := b) (A := A) (B := B) (s := s) (x := x) (y := y) (h := h) n (fun k hk => ⟨⟨if_neg (by omega), if_neg (by omega), if_neg (by omega)⟩, if_neg (by omega), if_neg (by omega), if_neg (by omega), if_neg (by omega)⟩)]
      rw [if_pos rfl, if_pos rfl, if_pos rfl, if_pos rfl, if_pos rfl, if_pos rfl, if_pos rfl, List.append_assoc]
    rw [e]
    exact M.w C0 n (some q)
  · rw [old l (2, 3) ll (by decide)]
    exact H.2.1
  · dsimp only
    by_cases z : m = n
    · rw [if_pos z, if_pos z, if_pos z, if_pos z, if_pos z, if_pos z, if_pos z, z, u2_at, if_pos rfl]
      obtain ⟨⟨-, A1⟩, ⟨-, B1⟩, S1⟩ := G.arr
      exact ⟨rfl, BDR.cg (R := R2) ⟨G.2.1, G.2.2.1, G.2.2.2⟩ (new q _ q2 (by decide)) (new A' _ A1 (by decide)) (new B' _ B1 (by decide)) (fun k hk => new (s' k) _ (S1 k hk) (by decide))⟩
    · obtain ⟨r1, r2⟩ := H.2.2 m (by omega)
      obtain ⟨d1, d2, d3, d4⟩ := D m (by omega)
      rw [if_neg z, if_neg z, if_neg z, if_neg z, if_neg z, if_neg z, if_neg z, u2_at, if_neg z, oC.2.2.2]
      exact ⟨r1, r2.cg (old _ _ d1 (by decide)) (old _ _ d2 (by decide)) (old _ _ d3 (by decide)) (fun k hk => old _ _ (d4 k hk) (by decide))⟩
theorem h_loop (hl : sh0 l = some (2, 3)) (hF : ∀ sh I R b A B s x y h, HQ sh0 sh I0 I R0 R l C b A B s x y h 10 → F (.inl none) sh I R) : ∀ d i : Nat, i + d = 10 → ∀ sh I R b A B s x y h (c : Nat × Nat), c.1 ≤ 1 + 24 * i ∧ c.2 ≤ 10 + 142 * i → HQ sh0 sh I0 I R0 R l C b A B s x y h i → V K J 37 15 [some (.ref l), some (.int (iz (i : Int)))] [] sh I R c F := by
  intro d
  induction d with
  | zero =>
    intro i hi sh I R b A B s x y h c hc H
    have e : i = 10 := by omega
    subst e
    refine s_il (i := 1) (pc' := 16) (by decide +kernel) rfl ?_
    refine s_c (v := 10) (pc' := 18) (by decide +kernel) ?_
    refine s_b (ins := .if_icmp .ge 22) (b := true) (t := 40) (pc' := 21) (r := []) (by decide +kernel) rfl (by decide +kernel) rfl (fun _ => ?_) (fun w => absurd w (by decide))
    exact s_rv (X := 241) (Y := 1430) (by decide +kernel) ⟨by omega, by omega⟩ (hF sh I R b A B s x y h H)
  | succ d ih =>
    intro i hi sh I R b A B s x y h c hc H
    have i10 : i < 10 := by omega
    have ll : sh l = some (2, 3) := H.1.at hl
    obtain ⟨⟨C0, C1⟩, -⟩ := H.shp
    have c1 : ∀ i : Fin 10, cNew 37 26 0 (1 + 24 * i.val) (10 + 142 * i.val) = true := by decide +kernel
    have c2 : ∀ i : Fin 10, cQ 37 30 0 1 33 (1 + 24 * i.val + 1) (10 + 142 * i.val + fN 0) (1 + 24 * (i.val + 1)) (10 + 142 * (i.val + 1)) = true := by decide +kernel
    have ek : iz (i : Int) + 1 = iz ((i + 1 : Nat) : Int) := by rw [iz_lit, iz_add]; rfl
    refine s_il (i := 1) (pc' := 16) (by decide +kernel) rfl ?_
    refine s_c (v := 10) (pc' := 18) (by decide +kernel) ?_
    refine s_b (ins := .if_icmp .ge 22) (b := decide ((10 : Int32) ≤ iz (i : Int))) (t := 40) (pc' := 21) (r := []) (by decide +kernel) rfl rfl rfl (fun w => ?_) (fun _ => ?_)
    · rw [iz_lit, decide_eq_true_eq, iz_le (by decide) (by decide) (by omega) (by omega)] at w
      have w : (10 : Int) ≤ i := w
      omega
    · refine s_rl (i := 0) (pc' := 22) (by decide +kernel) rfl ?_
      refine s_gR (t := 2) (j := 0) (pc' := 25) (f := some) (by decide +kernel) (by rw [oR_at ll H.2.1]; rfl) (fun v e => ?_)
      have e := (Option.some.inj e).symm
      subst e
      refine s_il (i := 1) (pc' := 26) (by decide +kernel) rfl ?_
      refine s_mk (t := 0) (q := 0) (X := 1 + 24 * i) (Y := 10 + 142 * i) (X' := 1 + 24 * (i + 1)) (Y' := 10 + 142 * (i + 1)) (G := fun q sh' I' R' => ∃ A' B' s' x' y' h', BQ (u1 sh q (some (0, 7))) sh' (u1 I q (fun _ => 0)) I' (u1 R q (fun _ => none)) R' q A' B' s' x' y' h' 3 12) (c1 ⟨i, i10⟩) (by decide +kernel) (c2 ⟨i, i10⟩) (by decide +kernel) hc (fun _ => rfl) (fun _ => rfl) (fun q hq => ?_) (fun q sh2 I2 R2 c2' hc2 hq g => ?_)
      · exact vX0_init (u1_eq _ _ _) (fun A' B' s' x' y' h' sh' I' R' G => ⟨rfl, A', B', s', x', y', h', G⟩)
      · obtain ⟨A', B', s', x', y', h', G⟩ := g
        have C2 : sh2 C = some (30, 10) := (ALC.old hq G.1 (a := C) (by rw [C1]; simp)).2.1.trans C1
        have q2 : sh2 q = some (0, 7) := (G.1.1 q (by rw [u1_eq]; simp)).1.trans (u1_eq _ _ _)
        refine s_aas (t := 0) (pc' := 34) (f := some) (o := u2 R2 C i (some q)) (by decide +kernel) (by rw [oU_iz C2 q2 (by decide) (by omega) (by omega) (by omega), Int.toNat_natCast]; rfl) (fun R3 e => ?_)
        have e := (Option.some.inj e).symm
        subst e
        refine s_inc (i := 1) (z := 1) (pc' := 37) (L' := [some (.ref l), some (.int (iz ((i + 1 : Nat) : Int)))]) (by decide +kernel) rfl rfl (by rw [← ek]; rfl) ?_
        refine s_go (t := 15) (by decide +kernel) ?_
        exact ih (i + 1) (by omega) sh2 I2 _ _ _ _ _ _ _ _ c2' hc2 (H.add hl hq G)
theorem vX3_init (hl : sh l = some (2, 3)) (hF : ∀ C b A B s x y h sh' I' R', HQ sh sh' I I' R R' l C b A B s x y h 10 → F (.inl none) sh' I' R') : V K J 37 0 (ent (mL 37) [.ref l]) [] sh I R (0, 0) F := by
  have hc0 : ((0 : Nat), (0 : Nat)).1 ≤ 0 ∧ ((0 : Nat), (0 : Nat)).2 ≤ 0 := ⟨Nat.le_refl _, Nat.le_refl _⟩
  have ln : ¬ sh l = none := by rw [hl]; simp
  show V K J 37 0 [some (.ref l), none] [] sh I R (0, 0) F
  refine s_rl (i := 0) (pc' := 1) (by decide +kernel) rfl ?_
  refine s_obj (pc' := 4) (X := 0) (Y := 0) (by decide +kernel) hc0 (by decide) ?_
  have A0 : ALC sh sh I I R R l [] := ALC.nil l
  refine s_rl (i := 0) (pc' := 5) (by decide +kernel) rfl ?_
  refine s_c (v := 10) (pc' := 7) (by decide +kernel) ?_
  refine s_anw (t := 0) (m := 10) (X := 0) (Y := 0) (by decide +kernel) (by decide) (by decide) hc0 (fun a ha => ?_)
  have A1 := A0.ref ha ln (30, 10) (fun _ => none) 0
  refine s_pR (t := 2) (j := 0) (pc' := 13) (f := some) (by decide +kernel) (by rw [oQ_at (A1.at hl)]; rfl) (fun R1 e => ?_)
  have e := (Option.some.inj e).symm
  subst e
  refine s_c (v := 0) (pc' := 14) (by decide +kernel) ?_
  refine s_is (i := 1) (pc' := 15) (L' := [some (.ref l), some (.int (iz ((0 : Nat) : Int)))]) (by decide +kernel) rfl rfl ?_
  refine h_loop (C := a) hl (fun sh1 I1 R1 b A B s x y h G => hF a b A B s x y h sh1 I1 R1 G) 10 0 rfl _ _ _ (fun _ => 0) (fun _ => 0) (fun _ => 0) (fun _ _ => 0) (fun _ _ => 0) (fun _ _ => 0) (fun _ _ => 0) _ ⟨by decide, by decide⟩ ⟨A1, ?_, fun m hm => absurd hm (Nat.not_lt_zero m)⟩
  rw [u2_at, if_pos rfl]
end Q80
