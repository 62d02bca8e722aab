/-! methods 1 (printed by wip/whole/gen3.py) -/
set_option maxRecDepth 100000 in
set_option maxHeartbeats 4000000 in
def fX1_readStatement_b56 (fu : Nat) (sh : HS) (R : HR) (I : HI) : Option HI :=
  some I
set_option maxRecDepth 100000 in
set_option maxHeartbeats 4000000 in
theorem vX1_readStatement_b56 {K J : Nat → Nat} {fu : Nat} {sh : HS} {R : HR} {F : VF} {o : HI} (hF : F (.inl none) sh o R) {I : HI} {d0 d1 : Option Value} {c : Nat × Nat} (hc0 : c.1 ≤ 0 ∧ c.2 ≤ 0) (h0 : fX1_readStatement_b56 fu sh R I = some o) : V K J 13 56 [d0, d1] [] sh I R c F := by
  unfold fX1_readStatement_b56 at h0
  have e9 := Option.some.inj h0; subst e9
  exact s_rv (X := 0) (Y := 0) (by decide +kernel) hc0 hF
set_option maxRecDepth 100000 in
set_option maxHeartbeats 4000000 in
def fX1_readStatement (fu : Nat) (sh : HS) (I : HI) (R : HR) (l0 : Nat) (l1 : Nat) : Option HI :=
  if isT sh l0 1 = true then
    ((fX1_isKeyword fu sh I R l0 16).bind fun v1 =>
    if v1 = 0 then
      ((fX1_isKeyword fu sh I R l0 5).bind fun v2 =>
      if v2 = 0 then
        ((fX1_isKeyword fu sh I R l0 18).bind fun v3 =>
        if v3 = 0 then
          ((fX1_fail fu sh I R l0 1).bind fun w4 =>
          (fX1_readStatement_b56 fu sh R) w4)
        else
          ((fX1_readShot fu sh I R l0 l1).bind fun w5 =>
          (fX1_readStatement_b56 fu sh R) w5))
      else
        ((fX1_readActor fu sh I R l0 l1).bind fun w6 =>
        (fX1_readStatement_b56 fu sh R) w6))
    else
      ((fX1_readScene fu sh I R l0 l1).bind fun w7 =>
      (fX1_readStatement_b56 fu sh R) w7))
  else none
set_option maxRecDepth 100000 in
set_option maxHeartbeats 4000000 in
theorem vX1_readStatement {K J : Nat → Nat} {fu : Nat} {sh : HS} {I : HI} {R : HR} {F : VF} {o : HI} (hF : F (.inl none) sh o R) {l0 : Nat} {l1 : Nat} (h0 : fX1_readStatement fu sh I R l0 l1 = some o) : V K J 13 0 (ent 2 [.ref l0, .ref l1]) [] sh I R (0, 0) F := by
  unfold fX1_readStatement at h0
  obtain ⟨-, h1⟩ := gd h0; clear h0
  have hc0 : ((0 : Nat), (0 : Nat)).1 ≤ 0 ∧ ((0 : Nat), (0 : Nat)).2 ≤ 0 := ⟨Nat.le_refl _, Nat.le_refl _⟩
  show V K J 13 0 [some (.ref l0), some (.ref l1)] [] sh I R (0, 0) F
  refine s_rl (i := 0) (pc' := 1) (by decide +kernel) rfl ?_
  refine s_cS (i := 16) (pc' := 3) (by decide +kernel) ?_
  refine kX1_isKeyword (X := 0) (Y := 0) (X' := 0) (Y' := 0) (pc' := 6) (by decide +kernel) hc0 rfl h1 (fun v1 c hc1 h2 => ?_); clear h1 hc0
  refine s_if (ins := .ifCond .eq 11) (t := 17) (pc' := 9) (by decide +kernel) rfl rfl rfl h2 (fun p3 h3 => ?_) (fun p3 h3 => ?_) <;> clear h2
  · refine s_rl (i := 0) (pc' := 18) (by decide +kernel) rfl ?_
    refine s_cS (i := 5) (pc' := 20) (by decide +kernel) ?_
    refine kX1_isKeyword (X := 0) (Y := 0) (X' := 0) (Y' := 0) (pc' := 23) (by decide +kernel) hc1 rfl h3 (fun v2 c hc2 h4 => ?_); clear h3 hc1
    refine s_if (ins := .ifCond .eq 11) (t := 34) (pc' := 26) (by decide +kernel) rfl rfl rfl h4 (fun p5 h5 => ?_) (fun p5 h5 => ?_) <;> clear h4
    · refine s_rl (i := 0) (pc' := 35) (by decide +kernel) rfl ?_
      refine s_cS (i := 18) (pc' := 37) (by decide +kernel) ?_
      refine kX1_isKeyword (X := 0) (Y := 0) (X' := 0) (Y' := 0) (pc' := 40) (by decide +kernel) hc2 rfl h5 (fun v3 c hc3 h6 => ?_); clear h5 hc2
      refine s_if (ins := .ifCond .eq 11) (t := 51) (pc' := 43) (by decide +kernel) rfl rfl rfl h6 (fun p7 h7 => ?_) (fun p7 h7 => ?_) <;> clear h6
      · refine s_rl (i := 0) (pc' := 52) (by decide +kernel) rfl ?_
        refine s_c (v := 1) (pc' := 53) (by decide +kernel) ?_
        refine kX1_fail (X := 0) (Y := 0) (X' := 0) (Y' := 0) (pc' := 56) (by decide +kernel) hc3 rfl h7 (fun w4 c hc4 h8 => ?_); clear h7 hc3
        exact (vX1_readStatement_b56 hF) hc4 h8
      · refine s_rl (i := 0) (pc' := 44) (by decide +kernel) rfl ?_
        refine s_rl (i := 1) (pc' := 45) (by decide +kernel) rfl ?_
        refine kX1_readShot (X := 0) (Y := 0) (X' := 0) (Y' := 0) (pc' := 48) (by decide +kernel) hc3 rfl h7 (fun w5 c hc4 h8 => ?_); clear h7 hc3
        refine s_go (t := 56) (by decide +kernel) ?_
        exact (vX1_readStatement_b56 hF) hc4 h8
    · refine s_rl (i := 0) (pc' := 27) (by decide +kernel) rfl ?_
      refine s_rl (i := 1) (pc' := 28) (by decide +kernel) rfl ?_
      refine kX1_readActor (X := 0) (Y := 0) (X' := 0) (Y' := 0) (pc' := 31) (by decide +kernel) hc2 rfl h5 (fun w6 c hc3 h6 => ?_); clear h5 hc2
      refine s_go (t := 56) (by decide +kernel) ?_
      exact (vX1_readStatement_b56 hF) hc3 h6
  · refine s_rl (i := 0) (pc' := 10) (by decide +kernel) rfl ?_
    refine s_rl (i := 1) (pc' := 11) (by decide +kernel) rfl ?_
    refine kX1_readScene (X := 0) (Y := 0) (X' := 0) (Y' := 0) (pc' := 14) (by decide +kernel) hc1 rfl h3 (fun w7 c hc2 h4 => ?_); clear h3 hc1
    refine s_go (t := 56) (by decide +kernel) ?_
    exact (vX1_readStatement_b56 hF) hc2 h4
set_option maxRecDepth 100000 in
set_option maxHeartbeats 4000000 in
theorem kX1_readStatement {K J : Nat → Nat} {fu : Nat} {sh : HS} {I : HI} {R : HR} {F : VF} {mi pc pc' X Y X' Y' : Nat} {L : VL} {rest : List Value} {c : Nat × Nat} {l0 : Nat} {l1 : Nat} {ω : Type} {o : ω} {g : HI → Option ω} (hq : cQ mi pc 13 2 pc' X Y X' Y' = true) (hc : c.1 ≤ X ∧ c.2 ≤ Y) (hr : Nat.ble (catS rest) 8 = true) (h : (fX1_readStatement fu sh I R l0 l1).bind g = some o) (kk : ∀ w c', (c'.1 ≤ X' ∧ c'.2 ≤ Y') → g w = some o → V K J mi pc' L (rest) sh w R c' F) : V K J mi pc L (.ref l1 :: .ref l0 :: rest) sh I R c F := by
  obtain ⟨r, h1, h2⟩ := bnd h
  have hT : isT sh l0 1 = true := by unfold fX1_readStatement at h1; exact (gd h1).1
  have ml : mL 13 = 2 := by decide +kernel
  have mk : mK 13 = 1 := by decide +kernel
  have mc : mC 13 = 1 := by decide +kernel
  refine s_call (as := [.ref l1, .ref l0]) (G := fun o' sh' I' R' => o' = .inl none ∧ sh' = sh ∧ I' = r ∧ R' = R) hq hc rfl hr (by rw [ml]; rfl) (Or.inl rfl) (fun _ => Or.inl (Or.inl ⟨by rw [mc]; decide, by rw [mc]; exact isT_iff.mp hT⟩)) (fun z => absurd (mk.symm.trans z) (by decide)) (by rw [ml]; exact vX1_readStatement (F := fun o' sh' I' R' => o' = .inl none ∧ sh' = sh ∧ I' = r ∧ R' = R) ⟨rfl, rfl, rfl, rfl⟩ h1) ?_ ?_ ?_
  · rintro sh' I' R' c' hc' ⟨g1, rfl, rfl, rfl⟩
    cases g1
    exact kk _ _ hc' h2
  · rintro v' sh' I' R' c' hc' ⟨g1, rfl, rfl, rfl⟩
    cases g1
  · rintro E' sh' I' R' ⟨g1, rfl, rfl, rfl⟩
    cases g1
set_option maxRecDepth 100000 in
set_option maxHeartbeats 4000000 in
def fX1_read_b42 (fu : Nat) (sh : HS) (k42 : HI → HR → Nat → Nat → Int32 → Option (Int32 × (HI × HR))) (k76 : HI → HR → Nat → Nat → Option (Int32 × (HI × HR))) (I : HI) (R : HR) (l0 : Nat) (l3 : Nat) (l4 : Int32) : Option (Int32 × (HI × HR)) :=
  (oI sh I l0 1 1).bind fun v9 =>
  if v9 ≤ l4 then
    (k76 I R l0 l3)
  else
    ((oI sh I l0 1 6).bind fun v10 =>
    if v10 = 0 then
      ((oI sh I l0 1 4).bind fun v11 =>
      if v11 = 0 then
        (k76 I R l0 l3)
      else
        ((fX1_readStatement fu sh I R l0 l3).bind fun w12 =>
        k42 w12 R l0 l3 (l4 + 1)))
    else
      (k76 I R l0 l3))
set_option maxRecDepth 100000 in
set_option maxHeartbeats 4000000 in
theorem vX1_read_b42 {K J : Nat → Nat} {fu : Nat} {sh : HS} {F : VF} {o : (Int32 × (HI × HR))} (hF : F (.inl (some (.int o.1))) sh o.2.1 o.2.2) {k42 : HI → HR → Nat → Nat → Int32 → Option (Int32 × (HI × HR))} {k76 : HI → HR → Nat → Nat → Option (Int32 × (HI × HR))} (hk42 : ∀ {I : HI} {R : HR} {l0 : Nat} {l3 : Nat} {l4 : Int32} {d1 d2 : Option Value} {c : Nat × Nat}, (c.1 ≤ 0 ∧ c.2 ≤ 0) → k42 I R l0 l3 l4 = some o → V K J 11 42 [some (.ref l0), d1, d2, some (.ref l3), some (.int l4)] [] sh I R c F) (hk76 : ∀ {I : HI} {R : HR} {l0 : Nat} {l3 : Nat} {d1 d2 d4 : Option Value} {c : Nat × Nat}, (c.1 ≤ 0 ∧ c.2 ≤ 0) → k76 I R l0 l3 = some o → V K J 11 76 [some (.ref l0), d1, d2, some (.ref l3), d4] [] sh I R c F) {I : HI} {R : HR} {l0 : Nat} {l3 : Nat} {l4 : Int32} {d1 d2 : Option Value} {c : Nat × Nat} (hc0 : c.1 ≤ 0 ∧ c.2 ≤ 0) (h0 : fX1_read_b42 fu sh k42 k76 I R l0 l3 l4 = some o) : V K J 11 42 [some (.ref l0), d1, d2, some (.ref l3), some (.int l4)] [] sh I R c F := by
  unfold fX1_read_b42 at h0
  refine s_il (i := 4) (pc' := 44) (by decide +kernel) rfl ?_
  refine s_rl (i := 0) (pc' := 45) (by decide +kernel) rfl ?_
  refine s_gI (t := 1) (j := 1) (ty := 0) (pc' := 48) (by decide +kernel) rfl h0 (fun v9 h1 => ?_); clear h0
  refine s_if (ins := .if_icmp .ge 28) (t := 76) (pc' := 51) (by decide +kernel) rfl rfl rfl h1 (fun p2 h2 => ?_) (fun p2 h2 => ?_) <;> clear h1
  · exact hk76 hc0 h2
  · refine s_rl (i := 0) (pc' := 52) (by decide +kernel) rfl ?_
    refine s_gI (t := 1) (j := 6) (ty := 0) (pc' := 55) (by decide +kernel) rfl h2 (fun v10 h3 => ?_); clear h2
    refine s_ifn (ins := .ifCond .ne 21) (t := 76) (pc' := 58) (by decide +kernel) rfl rfl rfl h3 (fun p4 h4 => ?_) (fun p4 h4 => ?_) <;> clear h3
    · exact hk76 hc0 h4
    · refine s_rl (i := 0) (pc' := 59) (by decide +kernel) rfl ?_
      refine s_gI (t := 1) (j := 4) (ty := 0) (pc' := 62) (by decide +kernel) rfl h4 (fun v11 h5 => ?_); clear h4
      refine s_if (ins := .ifCond .eq 14) (t := 76) (pc' := 65) (by decide +kernel) rfl rfl rfl h5 (fun p6 h6 => ?_) (fun p6 h6 => ?_) <;> clear h5
      · exact hk76 hc0 h6
      · refine s_rl (i := 0) (pc' := 66) (by decide +kernel) rfl ?_
        refine s_rl (i := 3) (pc' := 67) (by decide +kernel) rfl ?_
        refine kX1_readStatement (X := 0) (Y := 0) (X' := 0) (Y' := 0) (pc' := 70) (by decide +kernel) hc0 rfl h6 (fun w12 c hc1 h7 => ?_); clear h6 hc0
        refine s_inc (i := 4) (z := 1) (pc' := 73) (L' := [some (.ref l0), d1, d2, some (.ref l3), some (.int (l4 + 1))]) (by decide +kernel) rfl rfl rfl ?_
        refine s_go (t := 42) (by decide +kernel) ?_
        exact hk42 hc1 h7
set_option maxRecDepth 100000 in
set_option maxHeartbeats 4000000 in
def fX1_read_l42 (fu : Nat) (sh : HS) (k76 : HI → HR → Nat → Nat → Option (Int32 × (HI × HR))) : Nat → HI → HR → Nat → Nat → Int32 → Option (Int32 × (HI × HR))
  | 0 => fun _ _ _ _ _ => none
  | n + 1 => fX1_read_b42 fu sh (fX1_read_l42 fu sh k76 n) k76
set_option maxRecDepth 100000 in
set_option maxHeartbeats 4000000 in
theorem vX1_read_l42 {K J : Nat → Nat} {fu : Nat} {sh : HS} {F : VF} {o : (Int32 × (HI × HR))} (hF : F (.inl (some (.int o.1))) sh o.2.1 o.2.2) {k76 : HI → HR → Nat → Nat → Option (Int32 × (HI × HR))} (hk76 : ∀ {I : HI} {R : HR} {l0 : Nat} {l3 : Nat} {d1 d2 d4 : Option Value} {c : Nat × Nat}, (c.1 ≤ 0 ∧ c.2 ≤ 0) → k76 I R l0 l3 = some o → V K J 11 76 [some (.ref l0), d1, d2, some (.ref l3), d4] [] sh I R c F) : ∀ (n : Nat) {I : HI} {R : HR} {l0 : Nat} {l3 : Nat} {l4 : Int32} {d1 d2 : Option Value} {c : Nat × Nat} (_ : c.1 ≤ 0 ∧ c.2 ≤ 0) (_ : fX1_read_l42 fu sh k76 n I R l0 l3 l4 = some o), V K J 11 42 [some (.ref l0), d1, d2, some (.ref l3), some (.int l4)] [] sh I R c F := by
  intro n
  induction n with
  | zero => exact fun _ h0 => nomatch h0
  | succ n ih => exact fun hc0 h0 => vX1_read_b42 hF ih hk76 hc0 h0
set_option maxRecDepth 100000 in
set_option maxHeartbeats 4000000 in
def fX1_read_b88 (fu : Nat) (sh : HS) (I : HI) (R : HR) (l0 : Nat) : Option (Int32 × (HI × HR)) :=
  (oI sh I l0 1 6).bind fun v14 =>
  some (v14, (I, R))
set_option maxRecDepth 100000 in
set_option maxHeartbeats 4000000 in
theorem vX1_read_b88 {K J : Nat → Nat} {fu : Nat} {sh : HS} {F : VF} {o : (Int32 × (HI × HR))} (hF : F (.inl (some (.int o.1))) sh o.2.1 o.2.2) {I : HI} {R : HR} {l0 : Nat} {d1 d2 d3 d4 : Option Value} {c : Nat × Nat} (hc0 : c.1 ≤ 0 ∧ c.2 ≤ 0) (h0 : fX1_read_b88 fu sh I R l0 = some o) : V K J 11 88 [some (.ref l0), d1, d2, d3, d4] [] sh I R c F := by
  unfold fX1_read_b88 at h0
  refine s_rl (i := 0) (pc' := 89) (by decide +kernel) rfl ?_
  refine s_gI (t := 1) (j := 6) (ty := 0) (pc' := 92) (by decide +kernel) rfl h0 (fun v14 h1 => ?_); clear h0
  have e9 := Option.some.inj h1; subst e9
  exact s_ri (X := 0) (Y := 0) (by decide +kernel) hc0 hF
set_option maxRecDepth 100000 in
set_option maxHeartbeats 4000000 in
def fX1_read_b76 (fu : Nat) (sh : HS) (I : HI) (R : HR) (l0 : Nat) (l3 : Nat) : Option (Int32 × (HI × HR)) :=
  (fX1_canSceneEnd fu sh I R l3).bind fun v13 =>
  if v13 = 0 then
    ((fX1_fail fu sh I R l0 1).bind fun w15 =>
    (fX1_read_b88 fu sh) w15 R l0)
  else
    ((fX1_read_b88 fu sh) I R l0)
set_option maxRecDepth 100000 in
set_option maxHeartbeats 4000000 in
theorem vX1_read_b76 {K J : Nat → Nat} {fu : Nat} {sh : HS} {F : VF} {o : (Int32 × (HI × HR))} (hF : F (.inl (some (.int o.1))) sh o.2.1 o.2.2) {I : HI} {R : HR} {l0 : Nat} {l3 : Nat} {d1 d2 d4 : Option Value} {c : Nat × Nat} (hc0 : c.1 ≤ 0 ∧ c.2 ≤ 0) (h0 : fX1_read_b76 fu sh I R l0 l3 = some o) : V K J 11 76 [some (.ref l0), d1, d2, some (.ref l3), d4] [] sh I R c F := by
  unfold fX1_read_b76 at h0
  refine s_rl (i := 3) (pc' := 77) (by decide +kernel) rfl ?_
  refine kX1_canSceneEnd (X := 0) (Y := 0) (X' := 0) (Y' := 0) (pc' := 80) (by decide +kernel) hc0 rfl h0 (fun v13 c hc1 h1 => ?_); clear h0 hc0
  refine s_ifn (ins := .ifCond .ne 8) (t := 88) (pc' := 83) (by decide +kernel) rfl rfl rfl h1 (fun p2 h2 => ?_) (fun p2 h2 => ?_) <;> clear h1
  · exact (vX1_read_b88 hF) hc1 h2
  · refine s_rl (i := 0) (pc' := 84) (by decide +kernel) rfl ?_
    refine s_c (v := 1) (pc' := 85) (by decide +kernel) ?_
    refine kX1_fail (X := 0) (Y := 0) (X' := 0) (Y' := 0) (pc' := 88) (by decide +kernel) hc1 rfl h2 (fun w15 c hc2 h3 => ?_); clear h2 hc1
    exact (vX1_read_b88 hF) hc2 h3
set_option maxRecDepth 100000 in
set_option maxHeartbeats 4000000 in
def fX1_read (fu : Nat) (sh : HS) (I : HI) (R : HR) (l0 : Nat) (l1 : Nat) (l2 : Int32) (l3 : Nat) : Option (Int32 × (HI × HR)) :=
  if isT sh l0 1 = true then
    ((oQ sh R l0 1 0 l1).bind fun v1 =>
    (oP sh I l0 1 1 l2).bind fun v2 =>
    (oP sh v2 l0 1 3 0).bind fun v3 =>
    (oP sh v3 l0 1 6 0).bind fun v4 =>
    (oP sh v4 l3 0 3 0).bind fun v5 =>
    (oP sh v5 l3 0 4 0).bind fun v6 =>
    (fX1_advance fu sh v6 v1 l0).bind fun w7 =>
    (fX1_readLimits fu sh w7 v1 l0 l3).bind fun w8 =>
    (fX1_read_l42 fu sh (fX1_read_b76 fu sh) fu) w8 v1 l0 l3 0)
  else none
set_option maxRecDepth 100000 in
set_option maxHeartbeats 4000000 in
theorem vX1_read {K J : Nat → Nat} {fu : Nat} {sh : HS} {I : HI} {R : HR} {F : VF} {o : (Int32 × (HI × HR))} (hF : F (.inl (some (.int o.1))) sh o.2.1 o.2.2) {l0 : Nat} {l1 : Nat} {l2 : Int32} {l3 : Nat} (h0 : fX1_read fu sh I R l0 l1 l2 l3 = some o) : V K J 11 0 (ent 5 [.ref l0, .ref l1, .int l2, .ref l3]) [] sh I R (0, 0) F := by
  unfold fX1_read at h0
  obtain ⟨-, h1⟩ := gd h0; clear h0
  have hc0 : ((0 : Nat), (0 : Nat)).1 ≤ 0 ∧ ((0 : Nat), (0 : Nat)).2 ≤ 0 := ⟨Nat.le_refl _, Nat.le_refl _⟩
  show V K J 11 0 [some (.ref l0), some (.ref l1), some (.int l2), some (.ref l3), none] [] sh I R (0, 0) F
  refine s_rl (i := 0) (pc' := 1) (by decide +kernel) rfl ?_
  refine s_rl (i := 1) (pc' := 2) (by decide +kernel) rfl ?_
  refine s_pR (t := 1) (j := 0) (pc' := 5) (by decide +kernel) h1 (fun v1 h2 => ?_); clear h1
  refine s_rl (i := 0) (pc' := 6) (by decide +kernel) rfl ?_
  refine s_il (i := 2) (pc' := 7) (by decide +kernel) rfl ?_
  refine s_pI (t := 1) (j := 1) (ty := 0) (pc' := 10) (by decide +kernel) (Or.inl rfl) h2 (fun v2 h3 => ?_); clear h2
  refine s_rl (i := 0) (pc' := 11) (by decide +kernel) rfl ?_
  refine s_c (v := 0) (pc' := 12) (by decide +kernel) ?_
  refine s_pI (t := 1) (j := 3) (ty := 0) (pc' := 15) (by decide +kernel) (Or.inl rfl) h3 (fun v3 h4 => ?_); clear h3
  refine s_rl (i := 0) (pc' := 16) (by decide +kernel) rfl ?_
  refine s_c (v := 0) (pc' := 17) (by decide +kernel) ?_
  refine s_pI (t := 1) (j := 6) (ty := 0) (pc' := 20) (by decide +kernel) (Or.inl rfl) h4 (fun v4 h5 => ?_); clear h4
  refine s_rl (i := 3) (pc' := 21) (by decide +kernel) rfl ?_
  refine s_c (v := 0) (pc' := 22) (by decide +kernel) ?_
  refine s_pI (t := 0) (j := 3) (ty := 0) (pc' := 25) (by decide +kernel) (Or.inl rfl) h5 (fun v5 h6 => ?_); clear h5
  refine s_rl (i := 3) (pc' := 26) (by decide +kernel) rfl ?_
  refine s_c (v := 0) (pc' := 27) (by decide +kernel) ?_
  refine s_pI (t := 0) (j := 4) (ty := 0) (pc' := 30) (by decide +kernel) (Or.inl rfl) h6 (fun v6 h7 => ?_); clear h6
  refine s_rl (i := 0) (pc' := 31) (by decide +kernel) rfl ?_
  refine kX1_advance (X := 0) (Y := 0) (X' := 0) (Y' := 0) (pc' := 34) (by decide +kernel) hc0 rfl h7 (fun w7 c hc1 h8 => ?_); clear h7 hc0
  refine s_rl (i := 0) (pc' := 35) (by decide +kernel) rfl ?_
  refine s_rl (i := 3) (pc' := 36) (by decide +kernel) rfl ?_
  refine kX1_readLimits (X := 0) (Y := 0) (X' := 0) (Y' := 0) (pc' := 39) (by decide +kernel) hc1 rfl h8 (fun w8 c hc2 h9 => ?_); clear h8 hc1
  refine s_c (v := 0) (pc' := 40) (by decide +kernel) ?_
  refine s_is (i := 4) (pc' := 42) (L' := [some (.ref l0), some (.ref l1), some (.int l2), some (.ref l3), some (.int 0)]) (by decide +kernel) rfl rfl ?_
  exact (vX1_read_l42 hF (vX1_read_b76 hF) fu) hc2 h9
set_option maxRecDepth 100000 in
set_option maxHeartbeats 4000000 in
theorem kX1_read {K J : Nat → Nat} {fu : Nat} {sh : HS} {I : HI} {R : HR} {F : VF} {mi pc pc' X Y X' Y' : Nat} {L : VL} {rest : List Value} {c : Nat × Nat} {l0 : Nat} {l1 : Nat} {l2 : Int32} {l3 : Nat} {ω : Type} {o : ω} {g : Int32 → (HI × HR) → Option ω} (hq : cQ mi pc 11 4 pc' X Y X' Y' = true) (hc : c.1 ≤ X ∧ c.2 ≤ Y) (hr : Nat.ble (catS rest) 8 = true) (h : oH (fX1_read fu sh I R l0 l1 l2 l3) g = some o) (kk : ∀ v w c', (c'.1 ≤ X' ∧ c'.2 ≤ Y') → g v w = some o → V K J mi pc' L ((.int v) :: rest) sh w.1 w.2 c' F) : V K J mi pc L (.ref l3 :: .int l2 :: .ref l1 :: .ref l0 :: rest) sh I R c F := by
  obtain ⟨r, h1, h2⟩ := bnd h
  have hT : isT sh l0 1 = true := by unfold fX1_read at h1; exact (gd h1).1
  have ml : mL 11 = 5 := by decide +kernel
  have mk : mK 11 = 1 := by decide +kernel
  have mc : mC 11 = 1 := by decide +kernel
  obtain ⟨v, w⟩ := r
  refine s_call (as := [.ref l3, .int l2, .ref l1, .ref l0]) (G := fun o' sh' I' R' => o' = .inl (some (.int v)) ∧ sh' = sh ∧ I' = w.1 ∧ R' = w.2) hq hc rfl hr (by rw [ml]; rfl) (Or.inl rfl) (fun _ => Or.inl (Or.inl ⟨by rw [mc]; decide, by rw [mc]; exact isT_iff.mp hT⟩)) (fun z => absurd (mk.symm.trans z) (by decide)) (by rw [ml]; exact vX1_read (F := fun o' sh' I' R' => o' = .inl (some (.int v)) ∧ sh' = sh ∧ I' = w.1 ∧ R' = w.2) ⟨rfl, rfl, rfl, rfl⟩ h1) ?_ ?_ ?_
  · rintro sh' I' R' c' hc' ⟨g1, rfl, rfl, rfl⟩
    cases g1
  · rintro v' sh' I' R' c' hc' ⟨g1, rfl, rfl, rfl⟩
    cases g1
    exact kk _ _ _ hc' h2
  · rintro E' sh' I' R' ⟨g1, rfl, rfl, rfl⟩
    cases g1
set_option maxRecDepth 100000 in
set_option maxHeartbeats 4000000 in
def fX10_crossProduct (fu : Nat) (sh : HS) (I : HI) (R : HR) (l0 : Int32) (l1 : Int32) (l2 : Int32) (l3 : Int32) : Option Int32 :=
  some ((l0 * l3) - (l1 * l2))
set_option maxRecDepth 100000 in
set_option maxHeartbeats 4000000 in
theorem vX10_crossProduct {K J : Nat → Nat} {fu : Nat} {sh : HS} {I : HI} {R : HR} {F : VF} {o : Int32} (hF : F (.inl (some (.int o))) sh I R) {l0 : Int32} {l1 : Int32} {l2 : Int32} {l3 : Int32} (h0 : fX10_crossProduct fu sh I R l0 l1 l2 l3 = some o) : V K J 108 0 (ent 4 [.int l0, .int l1, .int l2, .int l3]) [] sh I R (0, 0) F := by
  unfold fX10_crossProduct at h0
  have h1 := h0; clear h0
  have hc0 : ((0 : Nat), (0 : Nat)).1 ≤ 0 ∧ ((0 : Nat), (0 : Nat)).2 ≤ 0 := ⟨Nat.le_refl _, Nat.le_refl _⟩
  show V K J 108 0 [some (.int l0), some (.int l1), some (.int l2), some (.int l3)] [] sh I R (0, 0) F
  refine s_il (i := 0) (pc' := 1) (by decide +kernel) rfl ?_
  refine s_il (i := 3) (pc' := 2) (by decide +kernel) rfl ?_
  refine s_a (ins := .imul) (pc' := 3) (by decide +kernel) rfl ?_
  refine s_il (i := 1) (pc' := 4) (by decide +kernel) rfl ?_
  refine s_il (i := 2) (pc' := 5) (by decide +kernel) rfl ?_
  refine s_a (ins := .imul) (pc' := 6) (by decide +kernel) rfl ?_
  refine s_a (ins := .isub) (pc' := 7) (by decide +kernel) rfl ?_
  have e9 := Option.some.inj h1; subst e9
  exact s_ri (X := 0) (Y := 0) (by decide +kernel) hc0 hF
set_option maxRecDepth 100000 in
set_option maxHeartbeats 4000000 in
theorem kX10_crossProduct {K J : Nat → Nat} {fu : Nat} {sh : HS} {I : HI} {R : HR} {F : VF} {mi pc pc' X Y X' Y' : Nat} {L : VL} {rest : List Value} {c : Nat × Nat} {l0 : Int32} {l1 : Int32} {l2 : Int32} {l3 : Int32} {ω : Type} {o : ω} {g : Int32 → Option ω} (hq : cQ mi pc 108 4 pc' X Y X' Y' = true) (hc : c.1 ≤ X ∧ c.2 ≤ Y) (hr : Nat.ble (catS rest) 8 = true) (h : (fX10_crossProduct fu sh I R l0 l1 l2 l3).bind g = some o) (kk : ∀ v c', (c'.1 ≤ X' ∧ c'.2 ≤ Y') → g v = some o → V K J mi pc' L ((.int v) :: rest) sh I R c' F) : V K J mi pc L (.int l3 :: .int l2 :: .int l1 :: .int l0 :: rest) sh I R c F := by
  obtain ⟨r, h1, h2⟩ := bnd h
  have ml : mL 108 = 4 := by decide +kernel
  have mk : mK 108 = 0 := by decide +kernel
  refine s_call (as := [.int l3, .int l2, .int l1, .int l0]) (G := fun o' sh' I' R' => o' = .inl (some (.int r)) ∧ sh' = sh ∧ I' = I ∧ R' = R) hq hc rfl hr (by rw [ml]; rfl) (Or.inl rfl) (fun z => absurd (mk.symm.trans z) (by decide)) (fun z => absurd (mk.symm.trans z) (by decide)) (by rw [ml]; exact vX10_crossProduct (F := fun o' sh' I' R' => o' = .inl (some (.int r)) ∧ sh' = sh ∧ I' = I ∧ R' = R) ⟨rfl, rfl, rfl, rfl⟩ h1) ?_ ?_ ?_
  · rintro sh' I' R' c' hc' ⟨g1, rfl, rfl, rfl⟩
    cases g1
  · rintro v' sh' I' R' c' hc' ⟨g1, rfl, rfl, rfl⟩
    cases g1
    exact kk _ _ hc' h2
  · rintro E' sh' I' R' ⟨g1, rfl, rfl, rfl⟩
    cases g1
set_option maxRecDepth 100000 in
set_option maxHeartbeats 4000000 in
def fX9_blockerOf_b154 (fu : Nat) (sh : HS) (I : HI) (R : HR) (k55 : Nat → Nat → Int32 → Int32 → Int32 → Int32 → Option Int32) (l1 : Nat) (l2 : Nat) (l3 : Int32) (l4 : Int32) (l5 : Int32) (l6 : Int32) : Option Int32 :=
  k55 l1 l2 l3 l4 l5 (l6 + 1)
set_option maxRecDepth 100000 in
set_option maxHeartbeats 4000000 in
theorem vX9_blockerOf_b154 {K J : Nat → Nat} {fu : Nat} {sh : HS} {I : HI} {R : HR} {F : VF} {o : Int32} (hF : F (.inl (some (.int o))) sh I R) {k55 : Nat → Nat → Int32 → Int32 → Int32 → Int32 → Option Int32} (hk55 : ∀ {l1 : Nat} {l2 : Nat} {l3 : Int32} {l4 : Int32} {l5 : Int32} {l6 : Int32} {d0 d7 d8 d9 d10 : Option Value} {c : Nat × Nat}, (c.1 ≤ 0 ∧ c.2 ≤ 0) → k55 l1 l2 l3 l4 l5 l6 = some o → V K J 60 55 [d0, some (.ref l1), some (.ref l2), some (.int l3), some (.int l4), some (.int l5), some (.int l6), d7, d8, d9, d10] [] sh I R c F) {l1 : Nat} {l2 : Nat} {l3 : Int32} {l4 : Int32} {l5 : Int32} {l6 : Int32} {d0 d7 d8 d9 d10 : Option Value} {c : Nat × Nat} (hc0 : c.1 ≤ 0 ∧ c.2 ≤ 0) (h0 : fX9_blockerOf_b154 fu sh I R k55 l1 l2 l3 l4 l5 l6 = some o) : V K J 60 154 [d0, some (.ref l1), some (.ref l2), some (.int l3), some (.int l4), some (.int l5), some (.int l6), d7, d8, d9, d10] [] sh I R c F := by
  unfold fX9_blockerOf_b154 at h0
  refine s_inc (i := 6) (z := 1) (pc' := 157) (L' := [d0, some (.ref l1), some (.ref l2), some (.int l3), some (.int l4), some (.int l5), some (.int (l6 + 1)), d7, d8, d9, d10]) (by decide +kernel) rfl rfl rfl ?_
  refine s_go (t := 55) (by decide +kernel) ?_
  exact hk55 hc0 h0
set_option maxRecDepth 100000 in
set_option maxHeartbeats 4000000 in
def fX9_blockerOf_b132 (fu : Nat) (sh : HS) (I : HI) (R : HR) (k55 : Nat → Nat → Int32 → Int32 → Int32 → Int32 → Option Int32) (l1 : Nat) (l2 : Nat) (l3 : Int32) (l4 : Int32) (l5 : Int32) (l6 : Int32) (l9 : Int32) (s0 : Int32) : Option Int32 :=
  if s0 = 0 then
    ((fX9_blockerOf_b154 fu sh I R k55) l1 l2 l3 l4 l5 l6)
  else
    (if l9 ≤ 0 then
      ((fX9_blockerOf_b154 fu sh I R k55) l1 l2 l3 l4 l5 l6)
    else
      (if l5 ≤ l9 then
        ((fX9_blockerOf_b154 fu sh I R k55) l1 l2 l3 l4 l5 l6)
      else
        (some l6)))
set_option maxRecDepth 100000 in
set_option maxHeartbeats 4000000 in
theorem vX9_blockerOf_b132 {K J : Nat → Nat} {fu : Nat} {sh : HS} {I : HI} {R : HR} {F : VF} {o : Int32} (hF : F (.inl (some (.int o))) sh I R) {k55 : Nat → Nat → Int32 → Int32 → Int32 → Int32 → Option Int32} (hk55 : ∀ {l1 : Nat} {l2 : Nat} {l3 : Int32} {l4 : Int32} {l5 : Int32} {l6 : Int32} {d0 d7 d8 d9 d10 : Option Value} {c : Nat × Nat}, (c.1 ≤ 0 ∧ c.2 ≤ 0) → k55 l1 l2 l3 l4 l5 l6 = some o → V K J 60 55 [d0, some (.ref l1), some (.ref l2), some (.int l3), some (.int l4), some (.int l5), some (.int l6), d7, d8, d9, d10] [] sh I R c F) {l1 : Nat} {l2 : Nat} {l3 : Int32} {l4 : Int32} {l5 : Int32} {l6 : Int32} {l9 : Int32} {s0 : Int32} {d0 d7 d8 d10 : Option Value} {c : Nat × Nat} (hc0 : c.1 ≤ 0 ∧ c.2 ≤ 0) (h0 : fX9_blockerOf_b132 fu sh I R k55 l1 l2 l3 l4 l5 l6 l9 s0 = some o) : V K J 60 132 [d0, some (.ref l1), some (.ref l2), some (.int l3), some (.int l4), some (.int l5), some (.int l6), d7, d8, some (.int l9), d10] [.int s0] sh I R c F := by
  unfold fX9_blockerOf_b132 at h0
  refine s_is (i := 10) (pc' := 134) (L' := [d0, some (.ref l1), some (.ref l2), some (.int l3), some (.int l4), some (.int l5), some (.int l6), d7, d8, some (.int l9), some (.int s0)]) (by decide +kernel) rfl rfl ?_
  refine s_il (i := 10) (pc' := 136) (by decide +kernel) rfl ?_
  refine s_if (ins := .ifCond .eq 18) (t := 154) (pc' := 139) (by decide +kernel) rfl rfl rfl h0 (fun p1 h1 => ?_) (fun p1 h1 => ?_) <;> clear h0
  · exact (vX9_blockerOf_b154 hF hk55) hc0 h1
  · refine s_il (i := 9) (pc' := 141) (by decide +kernel) rfl ?_
    refine s_if (ins := .ifCond .le 13) (t := 154) (pc' := 144) (by decide +kernel) rfl rfl rfl h1 (fun p2 h2 => ?_) (fun p2 h2 => ?_) <;> clear h1
    · exact (vX9_blockerOf_b154 hF hk55) hc0 h2
    · refine s_il (i := 9) (pc' := 146) (by decide +kernel) rfl ?_
      refine s_il (i := 5) (pc' := 148) (by decide +kernel) rfl ?_
      refine s_if (ins := .if_icmp .ge 6) (t := 154) (pc' := 151) (by decide +kernel) rfl rfl rfl h2 (fun p3 h3 => ?_) (fun p3 h3 => ?_) <;> clear h2
      · exact (vX9_blockerOf_b154 hF hk55) hc0 h3
      · refine s_il (i := 6) (pc' := 153) (by decide +kernel) rfl ?_
        have e9 := Option.some.inj h3; subst e9
        exact s_ri (X := 0) (Y := 0) (by decide +kernel) hc0 hF
set_option maxRecDepth 100000 in
set_option maxHeartbeats 4000000 in
def fX9_blockerOf_b55 (fu : Nat) (sh : HS) (I : HI) (R : HR) (k55 : Nat → Nat → Int32 → Int32 → Int32 → Int32 → Option Int32) (l1 : Nat) (l2 : Nat) (l3 : Int32) (l4 : Int32) (l5 : Int32) (l6 : Int32) : Option Int32 :=
  if 6 ≤ l6 then
    (some (-1))
  else
    ((fX6_hasActor fu sh I R l2 l6).bind fun v12 =>
    if v12 = 0 then
      ((fX9_blockerOf_b154 fu sh I R k55) l1 l2 l3 l4 l5 l6)
    else
      ((oR sh R l2 5 2).bind fun v13 =>
      (oA sh I v13 l6).bind fun v14 =>
      (oI sh I l1 7 1).bind fun v15 =>
      (oR sh R l2 5 3).bind fun v16 =>
      (oA sh I v16 l6).bind fun v17 =>
      (oI sh I l1 7 2).bind fun v18 =>
      (fX10_crossProduct fu sh I R l3 l4 (v14 - v15) (v17 - v18)).bind fun v19 =>
      if v19 = 0 then
        ((fX9_blockerOf_b132 fu sh I R k55) l1 l2 l3 l4 l5 l6 (((v14 - v15) * l3) + ((v17 - v18) * l4)) 1)
      else
        ((fX9_blockerOf_b132 fu sh I R k55) l1 l2 l3 l4 l5 l6 (((v14 - v15) * l3) + ((v17 - v18) * l4)) 0)))
set_option maxRecDepth 100000 in
set_option maxHeartbeats 4000000 in
theorem vX9_blockerOf_b55 {K J : Nat → Nat} {fu : Nat} {sh : HS} {I : HI} {R : HR} {F : VF} {o : Int32} (hF : F (.inl (some (.int o))) sh I R) {k55 : Nat → Nat → Int32 → Int32 → Int32 → Int32 → Option Int32} (hk55 : ∀ {l1 : Nat} {l2 : Nat} {l3 : Int32} {l4 : Int32} {l5 : Int32} {l6 : Int32} {d0 d7 d8 d9 d10 : Option Value} {c : Nat × Nat}, (c.1 ≤ 0 ∧ c.2 ≤ 0) → k55 l1 l2 l3 l4 l5 l6 = some o → V K J 60 55 [d0, some (.ref l1), some (.ref l2), some (.int l3), some (.int l4), some (.int l5), some (.int l6), d7, d8, d9, d10] [] sh I R c F) {l1 : Nat} {l2 : Nat} {l3 : Int32} {l4 : Int32} {l5 : Int32} {l6 : Int32} {d0 d7 d8 d9 d10 : Option Value} {c : Nat × Nat} (hc0 : c.1 ≤ 0 ∧ c.2 ≤ 0) (h0 : fX9_blockerOf_b55 fu sh I R k55 l1 l2 l3 l4 l5 l6 = some o) : V K J 60 55 [d0, some (.ref l1), some (.ref l2), some (.int l3), some (.int l4), some (.int l5), some (.int l6), d7, d8, d9, d10] [] sh I R c F := by
  unfold fX9_blockerOf_b55 at h0
  refine s_il (i := 6) (pc' := 57) (by decide +kernel) rfl ?_
  refine s_c (v := 6) (pc' := 59) (by decide +kernel) ?_
  refine s_if (ins := .if_icmp .ge 101) (t := 160) (pc' := 62) (by decide +kernel) rfl rfl rfl h0 (fun p1 h1 => ?_) (fun p1 h1 => ?_) <;> clear h0
  · refine s_c (v := (-1)) (pc' := 161) (by decide +kernel) ?_
    have e9 := Option.some.inj h1; subst e9
    exact s_ri (X := 0) (Y := 0) (by decide +kernel) hc0 hF
  · refine s_rl (i := 2) (pc' := 63) (by decide +kernel) rfl ?_
    refine s_il (i := 6) (pc' := 65) (by decide +kernel) rfl ?_
    refine kX6_hasActor (X := 0) (Y := 0) (X' := 0) (Y' := 0) (pc' := 68) (by decide +kernel) hc0 rfl h1 (fun v12 c hc1 h2 => ?_); clear h1 hc0
    refine s_ifn (ins := .ifCond .ne 6) (t := 74) (pc' := 71) (by decide +kernel) rfl rfl rfl h2 (fun p3 h3 => ?_) (fun p3 h3 => ?_) <;> clear h2
    · refine s_rl (i := 2) (pc' := 75) (by decide +kernel) rfl ?_
      refine s_gR (t := 5) (j := 2) (pc' := 78) (by decide +kernel) h3 (fun v13 h4 => ?_); clear h3
      refine s_il (i := 6) (pc' := 80) (by decide +kernel) rfl ?_
      refine s_al (pc' := 81) (by decide +kernel) h4 (fun v14 h5 => ?_); clear h4
      refine s_rl (i := 1) (pc' := 82) (by decide +kernel) rfl ?_
      refine s_gI (t := 7) (j := 1) (ty := 0) (pc' := 85) (by decide +kernel) rfl h5 (fun v15 h6 => ?_); clear h5
      refine s_a (ins := .isub) (pc' := 86) (by decide +kernel) rfl ?_
      refine s_is (i := 7) (pc' := 88) (L' := [d0, some (.ref l1), some (.ref l2), some (.int l3), some (.int l4), some (.int l5), some (.int l6), some (.int (v14 - v15)), d8, d9, d10]) (by decide +kernel) rfl rfl ?_
      refine s_rl (i := 2) (pc' := 89) (by decide +kernel) rfl ?_
      refine s_gR (t := 5) (j := 3) (pc' := 92) (by decide +kernel) h6 (fun v16 h7 => ?_); clear h6
      refine s_il (i := 6) (pc' := 94) (by decide +kernel) rfl ?_
      refine s_al (pc' := 95) (by decide +kernel) h7 (fun v17 h8 => ?_); clear h7
      refine s_rl (i := 1) (pc' := 96) (by decide +kernel) rfl ?_
      refine s_gI (t := 7) (j := 2) (ty := 0) (pc' := 99) (by decide +kernel) rfl h8 (fun v18 h9 => ?_); clear h8
      refine s_a (ins := .isub) (pc' := 100) (by decide +kernel) rfl ?_
      refine s_is (i := 8) (pc' := 102) (L' := [d0, some (.ref l1), some (.ref l2), some (.int l3), some (.int l4), some (.int l5), some (.int l6), some (.int (v14 - v15)), some (.int (v17 - v18)), d9, d10]) (by decide +kernel) rfl rfl ?_
      refine s_il (i := 7) (pc' := 104) (by decide +kernel) rfl ?_
      refine s_il (i := 3) (pc' := 105) (by decide +kernel) rfl ?_
      refine s_a (ins := .imul) (pc' := 106) (by decide +kernel) rfl ?_
      refine s_il (i := 8) (pc' := 108) (by decide +kernel) rfl ?_
      refine s_il (i := 4) (pc' := 110) (by decide +kernel) rfl ?_
      refine s_a (ins := .imul) (pc' := 111) (by decide +kernel) rfl ?_
      refine s_a (ins := .iadd) (pc' := 112) (by decide +kernel) rfl ?_
      refine s_is (i := 9) (pc' := 114) (L' := [d0, some (.ref l1), some (.ref l2), some (.int l3), some (.int l4), some (.int l5), some (.int l6), some (.int (v14 - v15)), some (.int (v17 - v18)), some (.int (((v14 - v15) * l3) + ((v17 - v18) * l4))), d10]) (by decide +kernel) rfl rfl ?_
      refine s_il (i := 3) (pc' := 115) (by decide +kernel) rfl ?_
      refine s_il (i := 4) (pc' := 117) (by decide +kernel) rfl ?_
      refine s_il (i := 7) (pc' := 119) (by decide +kernel) rfl ?_
      refine s_il (i := 8) (pc' := 121) (by decide +kernel) rfl ?_
      refine kX10_crossProduct (X := 0) (Y := 0) (X' := 0) (Y' := 0) (pc' := 124) (by decide +kernel) hc1 rfl h9 (fun v19 c hc2 h10 => ?_); clear h9 hc1
      refine s_ifn (ins := .ifCond .ne 7) (t := 131) (pc' := 127) (by decide +kernel) rfl rfl rfl h10 (fun p11 h11 => ?_) (fun p11 h11 => ?_) <;> clear h10
      · refine s_c (v := 0) (pc' := 132) (by decide +kernel) ?_
        exact (vX9_blockerOf_b132 hF hk55) hc2 h11
      · refine s_c (v := 1) (pc' := 128) (by decide +kernel) ?_
        refine s_go (t := 132) (by decide +kernel) ?_
        exact (vX9_blockerOf_b132 hF hk55) hc2 h11
    · refine s_go (t := 154) (by decide +kernel) ?_
      exact (vX9_blockerOf_b154 hF hk55) hc1 h3
set_option maxRecDepth 100000 in
set_option maxHeartbeats 4000000 in
def fX9_blockerOf_l55 (fu : Nat) (sh : HS) (I : HI) (R : HR) : Nat → Nat → Nat → Int32 → Int32 → Int32 → Int32 → Option Int32
  | 0 => fun _ _ _ _ _ _ => none
  | n + 1 => fX9_blockerOf_b55 fu sh I R (fX9_blockerOf_l55 fu sh I R n)
set_option maxRecDepth 100000 in
set_option maxHeartbeats 4000000 in
theorem vX9_blockerOf_l55 {K J : Nat → Nat} {fu : Nat} {sh : HS} {I : HI} {R : HR} {F : VF} {o : Int32} (hF : F (.inl (some (.int o))) sh I R) : ∀ (n : Nat) {l1 : Nat} {l2 : Nat} {l3 : Int32} {l4 : Int32} {l5 : Int32} {l6 : Int32} {d0 d7 d8 d9 d10 : Option Value} {c : Nat × Nat} (_ : c.1 ≤ 0 ∧ c.2 ≤ 0) (_ : fX9_blockerOf_l55 fu sh I R n l1 l2 l3 l4 l5 l6 = some o), V K J 60 55 [d0, some (.ref l1), some (.ref l2), some (.int l3), some (.int l4), some (.int l5), some (.int l6), d7, d8, d9, d10] [] sh I R c F := by
  intro n
  induction n with
  | zero => exact fun _ h0 => nomatch h0
  | succ n ih => exact fun hc0 h0 => vX9_blockerOf_b55 hF ih hc0 h0
set_option maxRecDepth 100000 in
set_option maxHeartbeats 4000000 in
def fX9_blockerOf (fu : Nat) (sh : HS) (I : HI) (R : HR) (l0 : Nat) (l1 : Nat) : Option Int32 :=
  (oR sh R l0 0 5).bind fun v1 =>
  (oI sh I l1 7 0).bind fun v2 =>
  (oB sh R v1 5 v2).bind fun v3 =>
  (oR sh R v3 5 2).bind fun v4 =>
  (oI sh I l1 7 3).bind fun v5 =>
  (oA sh I v4 v5).bind fun v6 =>
  (oI sh I l1 7 1).bind fun v7 =>
  (oR sh R v3 5 3).bind fun v8 =>
  (oI sh I l1 7 3).bind fun v9 =>
  (oA sh I v8 v9).bind fun v10 =>
  (oI sh I l1 7 2).bind fun v11 =>
  (fX9_blockerOf_l55 fu sh I R fu) l1 v3 (v6 - v7) (v10 - v11) (((v6 - v7) * (v6 - v7)) + ((v10 - v11) * (v10 - v11))) 0
set_option maxRecDepth 100000 in
set_option maxHeartbeats 4000000 in
theorem vX9_blockerOf {K J : Nat → Nat} {fu : Nat} {sh : HS} {I : HI} {R : HR} {F : VF} {o : Int32} (hF : F (.inl (some (.int o))) sh I R) {l0 : Nat} {l1 : Nat} (h0 : fX9_blockerOf fu sh I R l0 l1 = some o) : V K J 60 0 (ent 11 [.ref l0, .ref l1]) [] sh I R (0, 0) F := by
  unfold fX9_blockerOf at h0
  have h1 := h0; clear h0
  have hc0 : ((0 : Nat), (0 : Nat)).1 ≤ 0 ∧ ((0 : Nat), (0 : Nat)).2 ≤ 0 := ⟨Nat.le_refl _, Nat.le_refl _⟩
  show V K J 60 0 [some (.ref l0), some (.ref l1), none, none, none, none, none, none, none, none, none] [] sh I R (0, 0) F
  refine s_rl (i := 0) (pc' := 1) (by decide +kernel) rfl ?_
  refine s_gR (t := 0) (j := 5) (pc' := 4) (by decide +kernel) h1 (fun v1 h2 => ?_); clear h1
  refine s_rl (i := 1) (pc' := 5) (by decide +kernel) rfl ?_
  refine s_gI (t := 7) (j := 0) (ty := 0) (pc' := 8) (by decide +kernel) rfl h2 (fun v2 h3 => ?_); clear h2
  refine s_aal (t := 5) (pc' := 9) (by decide +kernel) h3 (fun v3 h4 => ?_); clear h3
  refine s_rs (i := 2) (pc' := 10) (L' := [some (.ref l0), some (.ref l1), some (.ref v3), none, none, none, none, none, none, none, none]) (by decide +kernel) rfl rfl ?_
  refine s_rl (i := 2) (pc' := 11) (by decide +kernel) rfl ?_
  refine s_gR (t := 5) (j := 2) (pc' := 14) (by decide +kernel) h4 (fun v4 h5 => ?_); clear h4
  refine s_rl (i := 1) (pc' := 15) (by decide +kernel) rfl ?_
  refine s_gI (t := 7) (j := 3) (ty := 0) (pc' := 18) (by decide +kernel) rfl h5 (fun v5 h6 => ?_); clear h5
  refine s_al (pc' := 19) (by decide +kernel) h6 (fun v6 h7 => ?_); clear h6
  refine s_rl (i := 1) (pc' := 20) (by decide +kernel) rfl ?_
  refine s_gI (t := 7) (j := 1) (ty := 0) (pc' := 23) (by decide +kernel) rfl h7 (fun v7 h8 => ?_); clear h7
  refine s_a (ins := .isub) (pc' := 24) (by decide +kernel) rfl ?_
  refine s_is (i := 3) (pc' := 25) (L' := [some (.ref l0), some (.ref l1), some (.ref v3), some (.int (v6 - v7)), none, none, none, none, none, none, none]) (by decide +kernel) rfl rfl ?_
  refine s_rl (i := 2) (pc' := 26) (by decide +kernel) rfl ?_
  refine s_gR (t := 5) (j := 3) (pc' := 29) (by decide +kernel) h8 (fun v8 h9 => ?_); clear h8
  refine s_rl (i := 1) (pc' := 30) (by decide +kernel) rfl ?_
  refine s_gI (t := 7) (j := 3) (ty := 0) (pc' := 33) (by decide +kernel) rfl h9 (fun v9 h10 => ?_); clear h9
  refine s_al (pc' := 34) (by decide +kernel) h10 (fun v10 h11 => ?_); clear h10
  refine s_rl (i := 1) (pc' := 35) (by decide +kernel) rfl ?_
  refine s_gI (t := 7) (j := 2) (ty := 0) (pc' := 38) (by decide +kernel) rfl h11 (fun v11 h12 => ?_); clear h11
  refine s_a (ins := .isub) (pc' := 39) (by decide +kernel) rfl ?_
  refine s_is (i := 4) (pc' := 41) (L' := [some (.ref l0), some (.ref l1), some (.ref v3), some (.int (v6 - v7)), some (.int (v10 - v11)), none, none, none, none, none, none]) (by decide +kernel) rfl rfl ?_
  refine s_il (i := 3) (pc' := 42) (by decide +kernel) rfl ?_
  refine s_il (i := 3) (pc' := 43) (by decide +kernel) rfl ?_
  refine s_a (ins := .imul) (pc' := 44) (by decide +kernel) rfl ?_
  refine s_il (i := 4) (pc' := 46) (by decide +kernel) rfl ?_
  refine s_il (i := 4) (pc' := 48) (by decide +kernel) rfl ?_
  refine s_a (ins := .imul) (pc' := 49) (by decide +kernel) rfl ?_
  refine s_a (ins := .iadd) (pc' := 50) (by decide +kernel) rfl ?_
  refine s_is (i := 5) (pc' := 52) (L' := [some (.ref l0), some (.ref l1), some (.ref v3), some (.int (v6 - v7)), some (.int (v10 - v11)), some (.int (((v6 - v7) * (v6 - v7)) + ((v10 - v11) * (v10 - v11)))), none, none, none, none, none]) (by decide +kernel) rfl rfl ?_
  refine s_c (v := 0) (pc' := 53) (by decide +kernel) ?_
  refine s_is (i := 6) (pc' := 55) (L' := [some (.ref l0), some (.ref l1), some (.ref v3), some (.int (v6 - v7)), some (.int (v10 - v11)), some (.int (((v6 - v7) * (v6 - v7)) + ((v10 - v11) * (v10 - v11)))), some (.int 0), none, none, none, none]) (by decide +kernel) rfl rfl ?_
  exact (vX9_blockerOf_l55 hF fu) hc0 h12
set_option maxRecDepth 100000 in
set_option maxHeartbeats 4000000 in
theorem kX9_blockerOf {K J : Nat → Nat} {fu : Nat} {sh : HS} {I : HI} {R : HR} {F : VF} {mi pc pc' X Y X' Y' : Nat} {L : VL} {rest : List Value} {c : Nat × Nat} {l0 : Nat} {l1 : Nat} {ω : Type} {o : ω} {g : Int32 → Option ω} (hq : cQ mi pc 60 2 pc' X Y X' Y' = true) (hc : c.1 ≤ X ∧ c.2 ≤ Y) (hr : Nat.ble (catS rest) 8 = true) (h : (fX9_blockerOf fu sh I R l0 l1).bind g = some o) (kk : ∀ v c', (c'.1 ≤ X' ∧ c'.2 ≤ Y') → g v = some o → V K J mi pc' L ((.int v) :: rest) sh I R c' F) : V K J mi pc L (.ref l1 :: .ref l0 :: rest) sh I R c F := by
  obtain ⟨r, h1, h2⟩ := bnd h
  have ml : mL 60 = 11 := by decide +kernel
  have mk : mK 60 = 0 := by decide +kernel
  refine s_call (as := [.ref l1, .ref l0]) (G := fun o' sh' I' R' => o' = .inl (some (.int r)) ∧ sh' = sh ∧ I' = I ∧ R' = R) hq hc rfl hr (by rw [ml]; rfl) (Or.inl rfl) (fun z => absurd (mk.symm.trans z) (by decide)) (fun z => absurd (mk.symm.trans z) (by decide)) (by rw [ml]; exact vX9_blockerOf (F := fun o' sh' I' R' => o' = .inl (some (.int r)) ∧ sh' = sh ∧ I' = I ∧ R' = R) ⟨rfl, rfl, rfl, rfl⟩ h1) ?_ ?_ ?_
  · rintro sh' I' R' c' hc' ⟨g1, rfl, rfl, rfl⟩
    cases g1
  · rintro v' sh' I' R' c' hc' ⟨g1, rfl, rfl, rfl⟩
    cases g1
    exact kk _ _ hc' h2
  · rintro E' sh' I' R' ⟨g1, rfl, rfl, rfl⟩
    cases g1
set_option maxRecDepth 100000 in
set_option maxHeartbeats 4000000 in
def fX2_areFacing_b27 (fu : Nat) (sh : HS) (I : HI) (R : HR) (s0 : Int32) : Option Int32 :=
  (oZ s0).bind fun z3 =>
  some z3
set_option maxRecDepth 100000 in
set_option maxHeartbeats 4000000 in
theorem vX2_areFacing_b27 {K J : Nat → Nat} {fu : Nat} {sh : HS} {I : HI} {R : HR} {F : VF} {o : Int32} (hF : F (.inl (some (.int o))) sh I R) {s0 : Int32} {d0 d1 : Option Value} {c : Nat × Nat} (hc0 : c.1 ≤ 0 ∧ c.2 ≤ 0) (h0 : fX2_areFacing_b27 fu sh I R s0 = some o) : V K J 36 27 [d0, d1] [.int s0] sh I R c F := by
  unfold fX2_areFacing_b27 at h0
  obtain ⟨hz, h1⟩ := oZb h0
  have e9 := Option.some.inj h1; subst e9
  exact s_rz (X := 0) (Y := 0) (by decide +kernel) hz hc0 hF
set_option maxRecDepth 100000 in
set_option maxHeartbeats 4000000 in
def fX2_areFacing_b26 (fu : Nat) (sh : HS) (I : HI) (R : HR) : Option Int32 :=
  (fX2_areFacing_b27 fu sh I R) 0
set_option maxRecDepth 100000 in
set_option maxHeartbeats 4000000 in
theorem vX2_areFacing_b26 {K J : Nat → Nat} {fu : Nat} {sh : HS} {I : HI} {R : HR} {F : VF} {o : Int32} (hF : F (.inl (some (.int o))) sh I R) {d0 d1 : Option Value} {c : Nat × Nat} (hc0 : c.1 ≤ 0 ∧ c.2 ≤ 0) (h0 : fX2_areFacing_b26 fu sh I R = some o) : V K J 36 26 [d0, d1] [] sh I R c F := by
  unfold fX2_areFacing_b26 at h0
  refine s_c (v := 0) (pc' := 27) (by decide +kernel) ?_
  exact (vX2_areFacing_b27 hF) hc0 h0
set_option maxRecDepth 100000 in
set_option maxHeartbeats 4000000 in
def fX2_areFacing (fu : Nat) (sh : HS) (I : HI) (R : HR) (l0 : Nat) (l1 : Nat) : Option Int32 :=
  (oI sh I l0 7 3).bind fun v1 =>
  (oI sh I l1 7 4).bind fun v2 =>
  if v1 = v2 then
    ((oI sh I l0 7 4).bind fun v4 =>
    (oI sh I l1 7 3).bind fun v5 =>
    if v4 = v5 then
      ((fX2_areFacing_b27 fu sh I R) 1)
    else
      ((fX2_areFacing_b26 fu sh I R)))
  else
    ((fX2_areFacing_b26 fu sh I R))
set_option maxRecDepth 100000 in
set_option maxHeartbeats 4000000 in
theorem vX2_areFacing {K J : Nat → Nat} {fu : Nat} {sh : HS} {I : HI} {R : HR} {F : VF} {o : Int32} (hF : F (.inl (some (.int o))) sh I R) {l0 : Nat} {l1 : Nat} (h0 : fX2_areFacing fu sh I R l0 l1 = some o) : V K J 36 0 (ent 2 [.ref l0, .ref l1]) [] sh I R (0, 0) F := by
  unfold fX2_areFacing at h0
  have h1 := h0; clear h0
  have hc0 : ((0 : Nat), (0 : Nat)).1 ≤ 0 ∧ ((0 : Nat), (0 : Nat)).2 ≤ 0 := ⟨Nat.le_refl _, Nat.le_refl _⟩
  show V K J 36 0 [some (.ref l0), some (.ref l1)] [] sh I R (0, 0) F
  refine s_rl (i := 0) (pc' := 1) (by decide +kernel) rfl ?_
  refine s_gI (t := 7) (j := 3) (ty := 0) (pc' := 4) (by decide +kernel) rfl h1 (fun v1 h2 => ?_); clear h1
  refine s_rl (i := 1) (pc' := 5) (by decide +kernel) rfl ?_
  refine s_gI (t := 7) (j := 4) (ty := 0) (pc' := 8) (by decide +kernel) rfl h2 (fun v2 h3 => ?_); clear h2
  refine s_ifn (ins := .if_icmp .ne 18) (t := 26) (pc' := 11) (by decide +kernel) rfl rfl rfl h3 (fun p4 h4 => ?_) (fun p4 h4 => ?_) <;> clear h3
  · exact (vX2_areFacing_b26 hF) hc0 h4
  · refine s_rl (i := 0) (pc' := 12) (by decide +kernel) rfl ?_
    refine s_gI (t := 7) (j := 4) (ty := 0) (pc' := 15) (by decide +kernel) rfl h4 (fun v4 h5 => ?_); clear h4
    refine s_rl (i := 1) (pc' := 16) (by decide +kernel) rfl ?_
    refine s_gI (t := 7) (j := 3) (ty := 0) (pc' := 19) (by decide +kernel) rfl h5 (fun v5 h6 => ?_); clear h5
    refine s_ifn (ins := .if_icmp .ne 7) (t := 26) (pc' := 22) (by decide +kernel) rfl rfl rfl h6 (fun p7 h7 => ?_) (fun p7 h7 => ?_) <;> clear h6
    · exact (vX2_areFacing_b26 hF) hc0 h7
    · refine s_c (v := 1) (pc' := 23) (by decide +kernel) ?_
      refine s_go (t := 27) (by decide +kernel) ?_
      exact (vX2_areFacing_b27 hF) hc0 h7
set_option maxRecDepth 100000 in
set_option maxHeartbeats 4000000 in
theorem kX2_areFacing {K J : Nat → Nat} {fu : Nat} {sh : HS} {I : HI} {R : HR} {F : VF} {mi pc pc' X Y X' Y' : Nat} {L : VL} {rest : List Value} {c : Nat × Nat} {l0 : Nat} {l1 : Nat} {ω : Type} {o : ω} {g : Int32 → Option ω} (hq : cQ mi pc 36 2 pc' X Y X' Y' = true) (hc : c.1 ≤ X ∧ c.2 ≤ Y) (hr : Nat.ble (catS rest) 8 = true) (h : (fX2_areFacing fu sh I R l0 l1).bind g = some o) (kk : ∀ v c', (c'.1 ≤ X' ∧ c'.2 ≤ Y') → g v = some o → V K J mi pc' L ((.int v) :: rest) sh I R c' F) : V K J mi pc L (.ref l1 :: .ref l0 :: rest) sh I R c F := by
  obtain ⟨r, h1, h2⟩ := bnd h
  have ml : mL 36 = 2 := by decide +kernel
  have mk : mK 36 = 0 := by decide +kernel
  refine s_call (as := [.ref l1, .ref l0]) (G := fun o' sh' I' R' => o' = .inl (some (.int r)) ∧ sh' = sh ∧ I' = I ∧ R' = R) hq hc rfl hr (by rw [ml]; rfl) (Or.inl rfl) (fun z => absurd (mk.symm.trans z) (by decide)) (fun z => absurd (mk.symm.trans z) (by decide)) (by rw [ml]; exact vX2_areFacing (F := fun o' sh' I' R' => o' = .inl (some (.int r)) ∧ sh' = sh ∧ I' = I ∧ R' = R) ⟨rfl, rfl, rfl, rfl⟩ h1) ?_ ?_ ?_
  · rintro sh' I' R' c' hc' ⟨g1, rfl, rfl, rfl⟩
    cases g1
  · rintro v' sh' I' R' c' hc' ⟨g1, rfl, rfl, rfl⟩
    cases g1
    exact kk _ _ hc' h2
  · rintro E' sh' I' R' ⟨g1, rfl, rfl, rfl⟩
    cases g1
set_option maxRecDepth 100000 in
set_option maxHeartbeats 4000000 in
def fX2_areSamePair_b53 (fu : Nat) (sh : HS) (I : HI) (R : HR) (s0 : Int32) : Option Int32 :=
  (oZ s0).bind fun z4 =>
  some z4
set_option maxRecDepth 100000 in
set_option maxHeartbeats 4000000 in
theorem vX2_areSamePair_b53 {K J : Nat → Nat} {fu : Nat} {sh : HS} {I : HI} {R : HR} {F : VF} {o : Int32} (hF : F (.inl (some (.int o))) sh I R) {s0 : Int32} {d0 d1 d2 : Option Value} {c : Nat × Nat} (hc0 : c.1 ≤ 0 ∧ c.2 ≤ 0) (h0 : fX2_areSamePair_b53 fu sh I R s0 = some o) : V K J 35 53 [d0, d1, d2] [.int s0] sh I R c F := by
  unfold fX2_areSamePair_b53 at h0
  obtain ⟨hz, h1⟩ := oZb h0
  have e9 := Option.some.inj h1; subst e9
  exact s_rz (X := 0) (Y := 0) (by decide +kernel) hz hc0 hF
set_option maxRecDepth 100000 in
set_option maxHeartbeats 4000000 in
def fX2_areSamePair_b52 (fu : Nat) (sh : HS) (I : HI) (R : HR) : Option Int32 :=
  (fX2_areSamePair_b53 fu sh I R) 0
set_option maxRecDepth 100000 in
set_option maxHeartbeats 4000000 in
theorem vX2_areSamePair_b52 {K J : Nat → Nat} {fu : Nat} {sh : HS} {I : HI} {R : HR} {F : VF} {o : Int32} (hF : F (.inl (some (.int o))) sh I R) {d0 d1 d2 : Option Value} {c : Nat × Nat} (hc0 : c.1 ≤ 0 ∧ c.2 ≤ 0) (h0 : fX2_areSamePair_b52 fu sh I R = some o) : V K J 35 52 [d0, d1, d2] [] sh I R c F := by
  unfold fX2_areSamePair_b52 at h0
  refine s_c (v := 0) (pc' := 53) (by decide +kernel) ?_
  exact (vX2_areSamePair_b53 hF) hc0 h0
set_option maxRecDepth 100000 in
set_option maxHeartbeats 4000000 in
def fX2_areSamePair_b48 (fu : Nat) (sh : HS) (I : HI) (R : HR) : Option Int32 :=
  (fX2_areSamePair_b53 fu sh I R) 1
set_option maxRecDepth 100000 in
set_option maxHeartbeats 4000000 in
theorem vX2_areSamePair_b48 {K J : Nat → Nat} {fu : Nat} {sh : HS} {I : HI} {R : HR} {F : VF} {o : Int32} (hF : F (.inl (some (.int o))) sh I R) {d0 d1 d2 : Option Value} {c : Nat × Nat} (hc0 : c.1 ≤ 0 ∧ c.2 ≤ 0) (h0 : fX2_areSamePair_b48 fu sh I R = some o) : V K J 35 48 [d0, d1, d2] [] sh I R c F := by
  unfold fX2_areSamePair_b48 at h0
  refine s_c (v := 1) (pc' := 49) (by decide +kernel) ?_
  refine s_go (t := 53) (by decide +kernel) ?_
  exact (vX2_areSamePair_b53 hF) hc0 h0
set_option maxRecDepth 100000 in
set_option maxHeartbeats 4000000 in
def fX2_areSamePair_b27 (fu : Nat) (sh : HS) (I : HI) (R : HR) (l0 : Nat) (l1 : Nat) (s0 : Int32) : Option Int32 :=
  (oI sh I l0 7 4).bind fun v3 =>
  if v3 = (-1) then
    ((fX2_areSamePair_b52 fu sh I R))
  else
    (if s0 = 0 then
      ((fX2_areFacing fu sh I R l0 l1).bind fun v5 =>
      if v5 = 0 then
        ((fX2_areSamePair_b52 fu sh I R))
      else
        ((fX2_areSamePair_b48 fu sh I R)))
    else
      ((fX2_areSamePair_b48 fu sh I R)))
set_option maxRecDepth 100000 in
set_option maxHeartbeats 4000000 in
theorem vX2_areSamePair_b27 {K J : Nat → Nat} {fu : Nat} {sh : HS} {I : HI} {R : HR} {F : VF} {o : Int32} (hF : F (.inl (some (.int o))) sh I R) {l0 : Nat} {l1 : Nat} {s0 : Int32} {d2 : Option Value} {c : Nat × Nat} (hc0 : c.1 ≤ 0 ∧ c.2 ≤ 0) (h0 : fX2_areSamePair_b27 fu sh I R l0 l1 s0 = some o) : V K J 35 27 [some (.ref l0), some (.ref l1), d2] [.int s0] sh I R c F := by
  unfold fX2_areSamePair_b27 at h0
  refine s_is (i := 2) (pc' := 28) (L' := [some (.ref l0), some (.ref l1), some (.int s0)]) (by decide +kernel) rfl rfl ?_
  refine s_rl (i := 0) (pc' := 29) (by decide +kernel) rfl ?_
  refine s_gI (t := 7) (j := 4) (ty := 0) (pc' := 32) (by decide +kernel) rfl h0 (fun v3 h1 => ?_); clear h0
  refine s_c (v := (-1)) (pc' := 33) (by decide +kernel) ?_
  refine s_if (ins := .if_icmp .eq 19) (t := 52) (pc' := 36) (by decide +kernel) rfl rfl rfl h1 (fun p2 h2 => ?_) (fun p2 h2 => ?_) <;> clear h1
  · exact (vX2_areSamePair_b52 hF) hc0 h2
  · refine s_il (i := 2) (pc' := 37) (by decide +kernel) rfl ?_
    refine s_ifn (ins := .ifCond .ne 11) (t := 48) (pc' := 40) (by decide +kernel) rfl rfl rfl h2 (fun p3 h3 => ?_) (fun p3 h3 => ?_) <;> clear h2
    · exact (vX2_areSamePair_b48 hF) hc0 h3
    · refine s_rl (i := 0) (pc' := 41) (by decide +kernel) rfl ?_
      refine s_rl (i := 1) (pc' := 42) (by decide +kernel) rfl ?_
      refine kX2_areFacing (X := 0) (Y := 0) (X' := 0) (Y' := 0) (pc' := 45) (by decide +kernel) hc0 rfl h3 (fun v5 c hc1 h4 => ?_); clear h3 hc0
      refine s_if (ins := .ifCond .eq 7) (t := 52) (pc' := 48) (by decide +kernel) rfl rfl rfl h4 (fun p5 h5 => ?_) (fun p5 h5 => ?_) <;> clear h4
      · exact (vX2_areSamePair_b52 hF) hc1 h5
      · exact (vX2_areSamePair_b48 hF) hc1 h5
set_option maxRecDepth 100000 in
set_option maxHeartbeats 4000000 in
def fX2_areSamePair_b26 (fu : Nat) (sh : HS) (I : HI) (R : HR) (l0 : Nat) (l1 : Nat) : Option Int32 :=
  (fX2_areSamePair_b27 fu sh I R) l0 l1 0
set_option maxRecDepth 100000 in
set_option maxHeartbeats 4000000 in
theorem vX2_areSamePair_b26 {K J : Nat → Nat} {fu : Nat} {sh : HS} {I : HI} {R : HR} {F : VF} {o : Int32} (hF : F (.inl (some (.int o))) sh I R) {l0 : Nat} {l1 : Nat} {d2 : Option Value} {c : Nat × Nat} (hc0 : c.1 ≤ 0 ∧ c.2 ≤ 0) (h0 : fX2_areSamePair_b26 fu sh I R l0 l1 = some o) : V K J 35 26 [some (.ref l0), some (.ref l1), d2] [] sh I R c F := by
  unfold fX2_areSamePair_b26 at h0
  refine s_c (v := 0) (pc' := 27) (by decide +kernel) ?_
  exact (vX2_areSamePair_b27 hF) hc0 h0
set_option maxRecDepth 100000 in
set_option maxHeartbeats 4000000 in
def fX2_areSamePair (fu : Nat) (sh : HS) (I : HI) (R : HR) (l0 : Nat) (l1 : Nat) : Option Int32 :=
  (oI sh I l0 7 3).bind fun v1 =>
  (oI sh I l1 7 3).bind fun v2 =>
  if v1 = v2 then
    ((oI sh I l0 7 4).bind fun v6 =>
    (oI sh I l1 7 4).bind fun v7 =>
    if v6 = v7 then
      ((fX2_areSamePair_b27 fu sh I R) l0 l1 1)
    else
      ((fX2_areSamePair_b26 fu sh I R) l0 l1))
  else
    ((fX2_areSamePair_b26 fu sh I R) l0 l1)
set_option maxRecDepth 100000 in
set_option maxHeartbeats 4000000 in
theorem vX2_areSamePair {K J : Nat → Nat} {fu : Nat} {sh : HS} {I : HI} {R : HR} {F : VF} {o : Int32} (hF : F (.inl (some (.int o))) sh I R) {l0 : Nat} {l1 : Nat} (h0 : fX2_areSamePair fu sh I R l0 l1 = some o) : V K J 35 0 (ent 3 [.ref l0, .ref l1]) [] sh I R (0, 0) F := by
  unfold fX2_areSamePair at h0
  have h1 := h0; clear h0
  have hc0 : ((0 : Nat), (0 : Nat)).1 ≤ 0 ∧ ((0 : Nat), (0 : Nat)).2 ≤ 0 := ⟨Nat.le_refl _, Nat.le_refl _⟩
  show V K J 35 0 [some (.ref l0), some (.ref l1), none] [] sh I R (0, 0) F
  refine s_rl (i := 0) (pc' := 1) (by decide +kernel) rfl ?_
  refine s_gI (t := 7) (j := 3) (ty := 0) (pc' := 4) (by decide +kernel) rfl h1 (fun v1 h2 => ?_); clear h1
  refine s_rl (i := 1) (pc' := 5) (by decide +kernel) rfl ?_
  refine s_gI (t := 7) (j := 3) (ty := 0) (pc' := 8) (by decide +kernel) rfl h2 (fun v2 h3 => ?_); clear h2
  refine s_ifn (ins := .if_icmp .ne 18) (t := 26) (pc' := 11) (by decide +kernel) rfl rfl rfl h3 (fun p4 h4 => ?_) (fun p4 h4 => ?_) <;> clear h3
  · exact (vX2_areSamePair_b26 hF) hc0 h4
  · refine s_rl (i := 0) (pc' := 12) (by decide +kernel) rfl ?_
    refine s_gI (t := 7) (j := 4) (ty := 0) (pc' := 15) (by decide +kernel) rfl h4 (fun v6 h5 => ?_); clear h4
    refine s_rl (i := 1) (pc' := 16) (by decide +kernel) rfl ?_
    refine s_gI (t := 7) (j := 4) (ty := 0) (pc' := 19) (by decide +kernel) rfl h5 (fun v7 h6 => ?_); clear h5
    refine s_ifn (ins := .if_icmp .ne 7) (t := 26) (pc' := 22) (by decide +kernel) rfl rfl rfl h6 (fun p7 h7 => ?_) (fun p7 h7 => ?_) <;> clear h6
    · exact (vX2_areSamePair_b26 hF) hc0 h7
    · refine s_c (v := 1) (pc' := 23) (by decide +kernel) ?_
      refine s_go (t := 27) (by decide +kernel) ?_
      exact (vX2_areSamePair_b27 hF) hc0 h7
set_option maxRecDepth 100000 in
set_option maxHeartbeats 4000000 in
theorem kX2_areSamePair {K J : Nat → Nat} {fu : Nat} {sh : HS} {I : HI} {R : HR} {F : VF} {mi pc pc' X Y X' Y' : Nat} {L : VL} {rest : List Value} {c : Nat × Nat} {l0 : Nat} {l1 : Nat} {ω : Type} {o : ω} {g : Int32 → Option ω} (hq : cQ mi pc 35 2 pc' X Y X' Y' = true) (hc : c.1 ≤ X ∧ c.2 ≤ Y) (hr : Nat.ble (catS rest) 8 = true) (h : (fX2_areSamePair fu sh I R l0 l1).bind g = some o) (kk : ∀ v c', (c'.1 ≤ X' ∧ c'.2 ≤ Y') → g v = some o → V K J mi pc' L ((.int v) :: rest) sh I R c' F) : V K J mi pc L (.ref l1 :: .ref l0 :: rest) sh I R c F := by
  obtain ⟨r, h1, h2⟩ := bnd h
  have ml : mL 35 = 3 := by decide +kernel
  have mk : mK 35 = 0 := by decide +kernel
  refine s_call (as := [.ref l1, .ref l0]) (G := fun o' sh' I' R' => o' = .inl (some (.int r)) ∧ sh' = sh ∧ I' = I ∧ R' = R) hq hc rfl hr (by rw [ml]; rfl) (Or.inl rfl) (fun z => absurd (mk.symm.trans z) (by decide)) (fun z => absurd (mk.symm.trans z) (by decide)) (by rw [ml]; exact vX2_areSamePair (F := fun o' sh' I' R' => o' = .inl (some (.int r)) ∧ sh' = sh ∧ I' = I ∧ R' = R) ⟨rfl, rfl, rfl, rfl⟩ h1) ?_ ?_ ?_
  · rintro sh' I' R' c' hc' ⟨g1, rfl, rfl, rfl⟩
    cases g1
  · rintro v' sh' I' R' c' hc' ⟨g1, rfl, rfl, rfl⟩
    cases g1
    exact kk _ _ hc' h2
  · rintro E' sh' I' R' ⟨g1, rfl, rfl, rfl⟩
    cases g1
set_option maxRecDepth 100000 in
set_option maxHeartbeats 4000000 in
def fX10_signOf_b15 (fu : Nat) (sh : HS) (I : HI) (R : HR) (s0 : Int32) : Option Int32 :=
  some s0
set_option maxRecDepth 100000 in
set_option maxHeartbeats 4000000 in
theorem vX10_signOf_b15 {K J : Nat → Nat} {fu : Nat} {sh : HS} {I : HI} {R : HR} {F : VF} {o : Int32} (hF : F (.inl (some (.int o))) sh I R) {s0 : Int32} {d0 : Option Value} {c : Nat × Nat} (hc0 : c.1 ≤ 0 ∧ c.2 ≤ 0) (h0 : fX10_signOf_b15 fu sh I R s0 = some o) : V K J 109 15 [d0] [.int s0] sh I R c F := by
  unfold fX10_signOf_b15 at h0
  have e9 := Option.some.inj h0; subst e9
  exact s_ri (X := 0) (Y := 0) (by decide +kernel) hc0 hF
set_option maxRecDepth 100000 in
set_option maxHeartbeats 4000000 in
def fX10_signOf (fu : Nat) (sh : HS) (I : HI) (R : HR) (l0 : Int32) : Option Int32 :=
  if l0 = 0 then
    (some 0)
  else
    (if l0 ≤ 0 then
      ((fX10_signOf_b15 fu sh I R) (-1))
    else
      ((fX10_signOf_b15 fu sh I R) 1))
set_option maxRecDepth 100000 in
set_option maxHeartbeats 4000000 in
theorem vX10_signOf {K J : Nat → Nat} {fu : Nat} {sh : HS} {I : HI} {R : HR} {F : VF} {o : Int32} (hF : F (.inl (some (.int o))) sh I R) {l0 : Int32} (h0 : fX10_signOf fu sh I R l0 = some o) : V K J 109 0 (ent 1 [.int l0]) [] sh I R (0, 0) F := by
  unfold fX10_signOf at h0
  have h1 := h0; clear h0
  have hc0 : ((0 : Nat), (0 : Nat)).1 ≤ 0 ∧ ((0 : Nat), (0 : Nat)).2 ≤ 0 := ⟨Nat.le_refl _, Nat.le_refl _⟩
  show V K J 109 0 [some (.int l0)] [] sh I R (0, 0) F
  refine s_il (i := 0) (pc' := 1) (by decide +kernel) rfl ?_
  refine s_ifn (ins := .ifCond .ne 5) (t := 6) (pc' := 4) (by decide +kernel) rfl rfl rfl h1 (fun p2 h2 => ?_) (fun p2 h2 => ?_) <;> clear h1
  · refine s_il (i := 0) (pc' := 7) (by decide +kernel) rfl ?_
    refine s_if (ins := .ifCond .le 7) (t := 14) (pc' := 10) (by decide +kernel) rfl rfl rfl h2 (fun p3 h3 => ?_) (fun p3 h3 => ?_) <;> clear h2
    · refine s_c (v := (-1)) (pc' := 15) (by decide +kernel) ?_
      exact (vX10_signOf_b15 hF) hc0 h3
    · refine s_c (v := 1) (pc' := 11) (by decide +kernel) ?_
      refine s_go (t := 15) (by decide +kernel) ?_
      exact (vX10_signOf_b15 hF) hc0 h3
  · refine s_c (v := 0) (pc' := 5) (by decide +kernel) ?_
    have e9 := Option.some.inj h2; subst e9
    exact s_ri (X := 0) (Y := 0) (by decide +kernel) hc0 hF
set_option maxRecDepth 100000 in
set_option maxHeartbeats 4000000 in
theorem kX10_signOf {K J : Nat → Nat} {fu : Nat} {sh : HS} {I : HI} {R : HR} {F : VF} {mi pc pc' X Y X' Y' : Nat} {L : VL} {rest : List Value} {c : Nat × Nat} {l0 : Int32} {ω : Type} {o : ω} {g : Int32 → Option ω} (hq : cQ mi pc 109 1 pc' X Y X' Y' = true) (hc : c.1 ≤ X ∧ c.2 ≤ Y) (hr : Nat.ble (catS rest) 8 = true) (h : (fX10_signOf fu sh I R l0).bind g = some o) (kk : ∀ v c', (c'.1 ≤ X' ∧ c'.2 ≤ Y') → g v = some o → V K J mi pc' L ((.int v) :: rest) sh I R c' F) : V K J mi pc L (.int l0 :: rest) sh I R c F := by
  obtain ⟨r, h1, h2⟩ := bnd h
  have ml : mL 109 = 1 := by decide +kernel
  have mk : mK 109 = 0 := by decide +kernel
  refine s_call (as := [.int l0]) (G := fun o' sh' I' R' => o' = .inl (some (.int r)) ∧ sh' = sh ∧ I' = I ∧ R' = R) hq hc rfl hr (by rw [ml]; rfl) (Or.inl rfl) (fun z => absurd (mk.symm.trans z) (by decide)) (fun z => absurd (mk.symm.trans z) (by decide)) (by rw [ml]; exact vX10_signOf (F := fun o' sh' I' R' => o' = .inl (some (.int r)) ∧ sh' = sh ∧ I' = I ∧ R' = R) ⟨rfl, rfl, rfl, rfl⟩ h1) ?_ ?_ ?_
  · rintro sh' I' R' c' hc' ⟨g1, rfl, rfl, rfl⟩
    cases g1
  · rintro v' sh' I' R' c' hc' ⟨g1, rfl, rfl, rfl⟩
    cases g1
    exact kk _ _ hc' h2
  · rintro E' sh' I' R' ⟨g1, rfl, rfl, rfl⟩
    cases g1
set_option maxRecDepth 100000 in
set_option maxHeartbeats 4000000 in
def fX9_sideOf (fu : Nat) (sh : HS) (I : HI) (R : HR) (l0 : Nat) (l1 : Nat) : Option Int32 :=
  (oI sh I l1 7 4).bind fun v1 =>
  if v1 = (-1) then
    (some 0)
  else
    ((oR sh R l0 0 5).bind fun v2 =>
    (oI sh I l1 7 0).bind fun v3 =>
    (oB sh R v2 5 v3).bind fun v4 =>
    (oI sh I l1 7 3).bind fun v5 =>
    (oI sh I l1 7 4).bind fun v6 =>
    (oI sh I l1 7 3).bind fun v7 =>
    (oI sh I l1 7 4).bind fun v8 =>
    (oR sh R v4 5 2).bind fun v9 =>
    (oA sh I v9 (iMax v7 v8)).bind fun v10 =>
    (oR sh R v4 5 2).bind fun v11 =>
    (oA sh I v11 (iMin v5 v6)).bind fun v12 =>
    (oR sh R v4 5 3).bind fun v13 =>
    (oA sh I v13 (iMax v7 v8)).bind fun v14 =>
    (oR sh R v4 5 3).bind fun v15 =>
    (oA sh I v15 (iMin v5 v6)).bind fun v16 =>
    (oI sh I l1 7 1).bind fun v17 =>
    (oR sh R v4 5 2).bind fun v18 =>
    (oA sh I v18 (iMin v5 v6)).bind fun v19 =>
    (oI sh I l1 7 2).bind fun v20 =>
    (oR sh R v4 5 3).bind fun v21 =>
    (oA sh I v21 (iMin v5 v6)).bind fun v22 =>
    (fX10_crossProduct fu sh I R (v10 - v12) (v14 - v16) (v17 - v19) (v20 - v22)).bind fun v23 =>
    (fX10_signOf fu sh I R v23).bind fun v24 =>
    some v24)
set_option maxRecDepth 100000 in
set_option maxHeartbeats 4000000 in
theorem vX9_sideOf {K J : Nat → Nat} {fu : Nat} {sh : HS} {I : HI} {R : HR} {F : VF} {o : Int32} (hF : F (.inl (some (.int o))) sh I R) {l0 : Nat} {l1 : Nat} (h0 : fX9_sideOf fu sh I R l0 l1 = some o) : V K J 55 0 (ent 5 [.ref l0, .ref l1]) [] sh I R (0, 0) F := by
  unfold fX9_sideOf at h0
  have h1 := h0; clear h0
  have hc0 : ((0 : Nat), (0 : Nat)).1 ≤ 0 ∧ ((0 : Nat), (0 : Nat)).2 ≤ 0 := ⟨Nat.le_refl _, Nat.le_refl _⟩
  show V K J 55 0 [some (.ref l0), some (.ref l1), none, none, none] [] sh I R (0, 0) F
  refine s_rl (i := 1) (pc' := 1) (by decide +kernel) rfl ?_
  refine s_gI (t := 7) (j := 4) (ty := 0) (pc' := 4) (by decide +kernel) rfl h1 (fun v1 h2 => ?_); clear h1
  refine s_c (v := (-1)) (pc' := 5) (by decide +kernel) ?_
  refine s_ifn (ins := .if_icmp .ne 5) (t := 10) (pc' := 8) (by decide +kernel) rfl rfl rfl h2 (fun p3 h3 => ?_) (fun p3 h3 => ?_) <;> clear h2
  · refine s_rl (i := 0) (pc' := 11) (by decide +kernel) rfl ?_
    refine s_gR (t := 0) (j := 5) (pc' := 14) (by decide +kernel) h3 (fun v2 h4 => ?_); clear h3
    refine s_rl (i := 1) (pc' := 15) (by decide +kernel) rfl ?_
    refine s_gI (t := 7) (j := 0) (ty := 0) (pc' := 18) (by decide +kernel) rfl h4 (fun v3 h5 => ?_); clear h4
    refine s_aal (t := 5) (pc' := 19) (by decide +kernel) h5 (fun v4 h6 => ?_); clear h5
    refine s_rs (i := 2) (pc' := 20) (L' := [some (.ref l0), some (.ref l1), some (.ref v4), none, none]) (by decide +kernel) rfl rfl ?_
    refine s_rl (i := 1) (pc' := 21) (by decide +kernel) rfl ?_
    refine s_gI (t := 7) (j := 3) (ty := 0) (pc' := 24) (by decide +kernel) rfl h6 (fun v5 h7 => ?_); clear h6
    refine s_rl (i := 1) (pc' := 25) (by decide +kernel) rfl ?_
    refine s_gI (t := 7) (j := 4) (ty := 0) (pc' := 28) (by decide +kernel) rfl h7 (fun v6 h8 => ?_); clear h7
    refine s_min (X := 0) (Y := 0) (pc' := 31) (by decide +kernel) hc0 rfl ?_
    refine s_is (i := 3) (pc' := 32) (L' := [some (.ref l0), some (.ref l1), some (.ref v4), some (.int (iMin v5 v6)), none]) (by decide +kernel) rfl rfl ?_
    refine s_rl (i := 1) (pc' := 33) (by decide +kernel) rfl ?_
    refine s_gI (t := 7) (j := 3) (ty := 0) (pc' := 36) (by decide +kernel) rfl h8 (fun v7 h9 => ?_); clear h8
    refine s_rl (i := 1) (pc' := 37) (by decide +kernel) rfl ?_
    refine s_gI (t := 7) (j := 4) (ty := 0) (pc' := 40) (by decide +kernel) rfl h9 (fun v8 h10 => ?_); clear h9
    refine s_max (X := 0) (Y := 0) (pc' := 43) (by decide +kernel) hc0 rfl ?_
    refine s_is (i := 4) (pc' := 45) (L' := [some (.ref l0), some (.ref l1), some (.ref v4), some (.int (iMin v5 v6)), some (.int (iMax v7 v8))]) (by decide +kernel) rfl rfl ?_
    refine s_rl (i := 2) (pc' := 46) (by decide +kernel) rfl ?_
    refine s_gR (t := 5) (j := 2) (pc' := 49) (by decide +kernel) h10 (fun v9 h11 => ?_); clear h10
    refine s_il (i := 4) (pc' := 51) (by decide +kernel) rfl ?_
    refine s_al (pc' := 52) (by decide +kernel) h11 (fun v10 h12 => ?_); clear h11
    refine s_rl (i := 2) (pc' := 53) (by decide +kernel) rfl ?_
    refine s_gR (t := 5) (j := 2) (pc' := 56) (by decide +kernel) h12 (fun v11 h13 => ?_); clear h12
    refine s_il (i := 3) (pc' := 57) (by decide +kernel) rfl ?_
    refine s_al (pc' := 58) (by decide +kernel) h13 (fun v12 h14 => ?_); clear h13
    refine s_a (ins := .isub) (pc' := 59) (by decide +kernel) rfl ?_
    refine s_rl (i := 2) (pc' := 60) (by decide +kernel) rfl ?_
    refine s_gR (t := 5) (j := 3) (pc' := 63) (by decide +kernel) h14 (fun v13 h15 => ?_); clear h14
    refine s_il (i := 4) (pc' := 65) (by decide +kernel) rfl ?_
    refine s_al (pc' := 66) (by decide +kernel) h15 (fun v14 h16 => ?_); clear h15
    refine s_rl (i := 2) (pc' := 67) (by decide +kernel) rfl ?_
    refine s_gR (t := 5) (j := 3) (pc' := 70) (by decide +kernel) h16 (fun v15 h17 => ?_); clear h16
    refine s_il (i := 3) (pc' := 71) (by decide +kernel) rfl ?_
    refine s_al (pc' := 72) (by decide +kernel) h17 (fun v16 h18 => ?_); clear h17
    refine s_a (ins := .isub) (pc' := 73) (by decide +kernel) rfl ?_
    refine s_rl (i := 1) (pc' := 74) (by decide +kernel) rfl ?_
    refine s_gI (t := 7) (j := 1) (ty := 0) (pc' := 77) (by decide +kernel) rfl h18 (fun v17 h19 => ?_); clear h18
    refine s_rl (i := 2) (pc' := 78) (by decide +kernel) rfl ?_
    refine s_gR (t := 5) (j := 2) (pc' := 81) (by decide +kernel) h19 (fun v18 h20 => ?_); clear h19
    refine s_il (i := 3) (pc' := 82) (by decide +kernel) rfl ?_
    refine s_al (pc' := 83) (by decide +kernel) h20 (fun v19 h21 => ?_); clear h20
    refine s_a (ins := .isub) (pc' := 84) (by decide +kernel) rfl ?_
    refine s_rl (i := 1) (pc' := 85) (by decide +kernel) rfl ?_
    refine s_gI (t := 7) (j := 2) (ty := 0) (pc' := 88) (by decide +kernel) rfl h21 (fun v20 h22 => ?_); clear h21
    refine s_rl (i := 2) (pc' := 89) (by decide +kernel) rfl ?_
    refine s_gR (t := 5) (j := 3) (pc' := 92) (by decide +kernel) h22 (fun v21 h23 => ?_); clear h22
    refine s_il (i := 3) (pc' := 93) (by decide +kernel) rfl ?_
    refine s_al (pc' := 94) (by decide +kernel) h23 (fun v22 h24 => ?_); clear h23
    refine s_a (ins := .isub) (pc' := 95) (by decide +kernel) rfl ?_
    refine kX10_crossProduct (X := 0) (Y := 0) (X' := 0) (Y' := 0) (pc' := 98) (by decide +kernel) hc0 rfl h24 (fun v23 c hc1 h25 => ?_); clear h24 hc0
    refine kX10_signOf (X := 0) (Y := 0) (X' := 0) (Y' := 0) (pc' := 101) (by decide +kernel) hc1 rfl h25 (fun v24 c hc2 h26 => ?_); clear h25 hc1
    have e9 := Option.some.inj h26; subst e9
    exact s_ri (X := 0) (Y := 0) (by decide +kernel) hc2 hF
  · refine s_c (v := 0) (pc' := 9) (by decide +kernel) ?_
    have e9 := Option.some.inj h3; subst e9
    exact s_ri (X := 0) (Y := 0) (by decide +kernel) hc0 hF
set_option maxRecDepth 100000 in
set_option maxHeartbeats 4000000 in
theorem kX9_sideOf {K J : Nat → Nat} {fu : Nat} {sh : HS} {I : HI} {R : HR} {F : VF} {mi pc pc' X Y X' Y' : Nat} {L : VL} {rest : List Value} {c : Nat × Nat} {l0 : Nat} {l1 : Nat} {ω : Type} {o : ω} {g : Int32 → Option ω} (hq : cQ mi pc 55 2 pc' X Y X' Y' = true) (hc : c.1 ≤ X ∧ c.2 ≤ Y) (hr : Nat.ble (catS rest) 8 = true) (h : (fX9_sideOf fu sh I R l0 l1).bind g = some o) (kk : ∀ v c', (c'.1 ≤ X' ∧ c'.2 ≤ Y') → g v = some o → V K J mi pc' L ((.int v) :: rest) sh I R c' F) : V K J mi pc L (.ref l1 :: .ref l0 :: rest) sh I R c F := by
  obtain ⟨r, h1, h2⟩ := bnd h
  have ml : mL 55 = 5 := by decide +kernel
  have mk : mK 55 = 0 := by decide +kernel
  refine s_call (as := [.ref l1, .ref l0]) (G := fun o' sh' I' R' => o' = .inl (some (.int r)) ∧ sh' = sh ∧ I' = I ∧ R' = R) hq hc rfl hr (by rw [ml]; rfl) (Or.inl rfl) (fun z => absurd (mk.symm.trans z) (by decide)) (fun z => absurd (mk.symm.trans z) (by decide)) (by rw [ml]; exact vX9_sideOf (F := fun o' sh' I' R' => o' = .inl (some (.int r)) ∧ sh' = sh ∧ I' = I ∧ R' = R) ⟨rfl, rfl, rfl, rfl⟩ h1) ?_ ?_ ?_
  · rintro sh' I' R' c' hc' ⟨g1, rfl, rfl, rfl⟩
    cases g1
  · rintro v' sh' I' R' c' hc' ⟨g1, rfl, rfl, rfl⟩
    cases g1
    exact kk _ _ hc' h2
  · rintro E' sh' I' R' ⟨g1, rfl, rfl, rfl⟩
    cases g1
set_option maxRecDepth 100000 in
set_option maxHeartbeats 4000000 in
def fX9_lookOf (fu : Nat) (sh : HS) (I : HI) (R : HR) (l0 : Nat) (l1 : Nat) : Option Int32 :=
  (oI sh I l1 7 4).bind fun v1 =>
  if v1 = (-1) then
    (some 0)
  else
    ((oR sh R l0 0 5).bind fun v2 =>
    (oI sh I l1 7 0).bind fun v3 =>
    (oB sh R v2 5 v3).bind fun v4 =>
    (oR sh R v4 5 2).bind fun v5 =>
    (oI sh I l1 7 3).bind fun v6 =>
    (oA sh I v5 v6).bind fun v7 =>
    (oR sh R v4 5 3).bind fun v8 =>
    (oI sh I l1 7 3).bind fun v9 =>
    (oA sh I v8 v9).bind fun v10 =>
    (oI sh I l1 7 1).bind fun v11 =>
    (oI sh I l1 7 2).bind fun v12 =>
    (oR sh R v4 5 2).bind fun v13 =>
    (oI sh I l1 7 4).bind fun v14 =>
    (oA sh I v13 v14).bind fun v15 =>
    (oR sh R v4 5 3).bind fun v16 =>
    (oI sh I l1 7 4).bind fun v17 =>
    (oA sh I v16 v17).bind fun v18 =>
    (fX10_crossProduct fu sh I R (v7 - v11) (v10 - v12) (v15 - v7) (v18 - v10)).bind fun v19 =>
    (fX10_signOf fu sh I R v19).bind fun v20 =>
    some v20)
set_option maxRecDepth 100000 in
set_option maxHeartbeats 4000000 in
theorem vX9_lookOf {K J : Nat → Nat} {fu : Nat} {sh : HS} {I : HI} {R : HR} {F : VF} {o : Int32} (hF : F (.inl (some (.int o))) sh I R) {l0 : Nat} {l1 : Nat} (h0 : fX9_lookOf fu sh I R l0 l1 = some o) : V K J 56 0 (ent 5 [.ref l0, .ref l1]) [] sh I R (0, 0) F := by
  unfold fX9_lookOf at h0
  have h1 := h0; clear h0
  have hc0 : ((0 : Nat), (0 : Nat)).1 ≤ 0 ∧ ((0 : Nat), (0 : Nat)).2 ≤ 0 := ⟨Nat.le_refl _, Nat.le_refl _⟩
  show V K J 56 0 [some (.ref l0), some (.ref l1), none, none, none] [] sh I R (0, 0) F
  refine s_rl (i := 1) (pc' := 1) (by decide +kernel) rfl ?_
  refine s_gI (t := 7) (j := 4) (ty := 0) (pc' := 4) (by decide +kernel) rfl h1 (fun v1 h2 => ?_); clear h1
  refine s_c (v := (-1)) (pc' := 5) (by decide +kernel) ?_
  refine s_ifn (ins := .if_icmp .ne 5) (t := 10) (pc' := 8) (by decide +kernel) rfl rfl rfl h2 (fun p3 h3 => ?_) (fun p3 h3 => ?_) <;> clear h2
  · refine s_rl (i := 0) (pc' := 11) (by decide +kernel) rfl ?_
    refine s_gR (t := 0) (j := 5) (pc' := 14) (by decide +kernel) h3 (fun v2 h4 => ?_); clear h3
    refine s_rl (i := 1) (pc' := 15) (by decide +kernel) rfl ?_
    refine s_gI (t := 7) (j := 0) (ty := 0) (pc' := 18) (by decide +kernel) rfl h4 (fun v3 h5 => ?_); clear h4
    refine s_aal (t := 5) (pc' := 19) (by decide +kernel) h5 (fun v4 h6 => ?_); clear h5
    refine s_rs (i := 2) (pc' := 20) (L' := [some (.ref l0), some (.ref l1), some (.ref v4), none, none]) (by decide +kernel) rfl rfl ?_
    refine s_rl (i := 2) (pc' := 21) (by decide +kernel) rfl ?_
    refine s_gR (t := 5) (j := 2) (pc' := 24) (by decide +kernel) h6 (fun v5 h7 => ?_); clear h6
    refine s_rl (i := 1) (pc' := 25) (by decide +kernel) rfl ?_
    refine s_gI (t := 7) (j := 3) (ty := 0) (pc' := 28) (by decide +kernel) rfl h7 (fun v6 h8 => ?_); clear h7
    refine s_al (pc' := 29) (by decide +kernel) h8 (fun v7 h9 => ?_); clear h8
    refine s_is (i := 3) (pc' := 30) (L' := [some (.ref l0), some (.ref l1), some (.ref v4), some (.int v7), none]) (by decide +kernel) rfl rfl ?_
    refine s_rl (i := 2) (pc' := 31) (by decide +kernel) rfl ?_
    refine s_gR (t := 5) (j := 3) (pc' := 34) (by decide +kernel) h9 (fun v8 h10 => ?_); clear h9
    refine s_rl (i := 1) (pc' := 35) (by decide +kernel) rfl ?_
    refine s_gI (t := 7) (j := 3) (ty := 0) (pc' := 38) (by decide +kernel) rfl h10 (fun v9 h11 => ?_); clear h10
    refine s_al (pc' := 39) (by decide +kernel) h11 (fun v10 h12 => ?_); clear h11
    refine s_is (i := 4) (pc' := 41) (L' := [some (.ref l0), some (.ref l1), some (.ref v4), some (.int v7), some (.int v10)]) (by decide +kernel) rfl rfl ?_
    refine s_il (i := 3) (pc' := 42) (by decide +kernel) rfl ?_
    refine s_rl (i := 1) (pc' := 43) (by decide +kernel) rfl ?_
    refine s_gI (t := 7) (j := 1) (ty := 0) (pc' := 46) (by decide +kernel) rfl h12 (fun v11 h13 => ?_); clear h12
    refine s_a (ins := .isub) (pc' := 47) (by decide +kernel) rfl ?_
    refine s_il (i := 4) (pc' := 49) (by decide +kernel) rfl ?_
    refine s_rl (i := 1) (pc' := 50) (by decide +kernel) rfl ?_
    refine s_gI (t := 7) (j := 2) (ty := 0) (pc' := 53) (by decide +kernel) rfl h13 (fun v12 h14 => ?_); clear h13
    refine s_a (ins := .isub) (pc' := 54) (by decide +kernel) rfl ?_
    refine s_rl (i := 2) (pc' := 55) (by decide +kernel) rfl ?_
    refine s_gR (t := 5) (j := 2) (pc' := 58) (by decide +kernel) h14 (fun v13 h15 => ?_); clear h14
    refine s_rl (i := 1) (pc' := 59) (by decide +kernel) rfl ?_
    refine s_gI (t := 7) (j := 4) (ty := 0) (pc' := 62) (by decide +kernel) rfl h15 (fun v14 h16 => ?_); clear h15
    refine s_al (pc' := 63) (by decide +kernel) h16 (fun v15 h17 => ?_); clear h16
    refine s_il (i := 3) (pc' := 64) (by decide +kernel) rfl ?_
    refine s_a (ins := .isub) (pc' := 65) (by decide +kernel) rfl ?_
    refine s_rl (i := 2) (pc' := 66) (by decide +kernel) rfl ?_
    refine s_gR (t := 5) (j := 3) (pc' := 69) (by decide +kernel) h17 (fun v16 h18 => ?_); clear h17
    refine s_rl (i := 1) (pc' := 70) (by decide +kernel) rfl ?_
    refine s_gI (t := 7) (j := 4) (ty := 0) (pc' := 73) (by decide +kernel) rfl h18 (fun v17 h19 => ?_); clear h18
    refine s_al (pc' := 74) (by decide +kernel) h19 (fun v18 h20 => ?_); clear h19
    refine s_il (i := 4) (pc' := 76) (by decide +kernel) rfl ?_
    refine s_a (ins := .isub) (pc' := 77) (by decide +kernel) rfl ?_
    refine kX10_crossProduct (X := 0) (Y := 0) (X' := 0) (Y' := 0) (pc' := 80) (by decide +kernel) hc0 rfl h20 (fun v19 c hc1 h21 => ?_); clear h20 hc0
    refine kX10_signOf (X := 0) (Y := 0) (X' := 0) (Y' := 0) (pc' := 83) (by decide +kernel) hc1 rfl h21 (fun v20 c hc2 h22 => ?_); clear h21 hc1
    have e9 := Option.some.inj h22; subst e9
    exact s_ri (X := 0) (Y := 0) (by decide +kernel) hc2 hF
  · refine s_c (v := 0) (pc' := 9) (by decide +kernel) ?_
    have e9 := Option.some.inj h3; subst e9
    exact s_ri (X := 0) (Y := 0) (by decide +kernel) hc0 hF
set_option maxRecDepth 100000 in
set_option maxHeartbeats 4000000 in
theorem kX9_lookOf {K J : Nat → Nat} {fu : Nat} {sh : HS} {I : HI} {R : HR} {F : VF} {mi pc pc' X Y X' Y' : Nat} {L : VL} {rest : List Value} {c : Nat × Nat} {l0 : Nat} {l1 : Nat} {ω : Type} {o : ω} {g : Int32 → Option ω} (hq : cQ mi pc 56 2 pc' X Y X' Y' = true) (hc : c.1 ≤ X ∧ c.2 ≤ Y) (hr : Nat.ble (catS rest) 8 = true) (h : (fX9_lookOf fu sh I R l0 l1).bind g = some o) (kk : ∀ v c', (c'.1 ≤ X' ∧ c'.2 ≤ Y') → g v = some o → V K J mi pc' L ((.int v) :: rest) sh I R c' F) : V K J mi pc L (.ref l1 :: .ref l0 :: rest) sh I R c F := by
  obtain ⟨r, h1, h2⟩ := bnd h
  have ml : mL 56 = 5 := by decide +kernel
  have mk : mK 56 = 0 := by decide +kernel
  refine s_call (as := [.ref l1, .ref l0]) (G := fun o' sh' I' R' => o' = .inl (some (.int r)) ∧ sh' = sh ∧ I' = I ∧ R' = R) hq hc rfl hr (by rw [ml]; rfl) (Or.inl rfl) (fun z => absurd (mk.symm.trans z) (by decide)) (fun z => absurd (mk.symm.trans z) (by decide)) (by rw [ml]; exact vX9_lookOf (F := fun o' sh' I' R' => o' = .inl (some (.int r)) ∧ sh' = sh ∧ I' = I ∧ R' = R) ⟨rfl, rfl, rfl, rfl⟩ h1) ?_ ?_ ?_
  · rintro sh' I' R' c' hc' ⟨g1, rfl, rfl, rfl⟩
    cases g1
  · rintro v' sh' I' R' c' hc' ⟨g1, rfl, rfl, rfl⟩
    cases g1
    exact kk _ _ hc' h2
  · rintro E' sh' I' R' ⟨g1, rfl, rfl, rfl⟩
    cases g1
set_option maxRecDepth 100000 in
set_option maxHeartbeats 4000000 in
def fX10_directionNumber_b68 (fu : Nat) (sh : HS) (I : HI) (R : HR) (l0 : Int32) (l4 : Int32) : Option Int32 :=
  if 0 ≤ l0 then
    ((oM (4000 - l4) 4000).bind fun v2 =>
    some v2)
  else
    (some (2000 + l4))
set_option maxRecDepth 100000 in
set_option maxHeartbeats 4000000 in
theorem vX10_directionNumber_b68 {K J : Nat → Nat} {fu : Nat} {sh : HS} {I : HI} {R : HR} {F : VF} {o : Int32} (hF : F (.inl (some (.int o))) sh I R) {l0 : Int32} {l4 : Int32} {d1 d2 d3 : Option Value} {c : Nat × Nat} (hc0 : c.1 ≤ 0 ∧ c.2 ≤ 0) (h0 : fX10_directionNumber_b68 fu sh I R l0 l4 = some o) : V K J 110 68 [some (.int l0), d1, d2, d3, some (.int l4)] [] sh I R c F := by
  unfold fX10_directionNumber_b68 at h0
  refine s_il (i := 0) (pc' := 69) (by decide +kernel) rfl ?_
  refine s_if (ins := .ifCond .ge 10) (t := 79) (pc' := 72) (by decide +kernel) rfl rfl rfl h0 (fun p1 h1 => ?_) (fun p1 h1 => ?_) <;> clear h0
  · refine s_c (v := 4000) (pc' := 82) (by decide +kernel) ?_
    refine s_il (i := 4) (pc' := 84) (by decide +kernel) rfl ?_
    refine s_a (ins := .isub) (pc' := 85) (by decide +kernel) rfl ?_
    refine s_c (v := 4000) (pc' := 88) (by decide +kernel) ?_
    refine s_rm (pc' := 89) (by decide +kernel) h1 (fun v2 h2 => ?_); clear h1
    have e9 := Option.some.inj h2; subst e9
    exact s_ri (X := 0) (Y := 0) (by decide +kernel) hc0 hF
  · refine s_c (v := 2000) (pc' := 75) (by decide +kernel) ?_
    refine s_il (i := 4) (pc' := 77) (by decide +kernel) rfl ?_
    refine s_a (ins := .iadd) (pc' := 78) (by decide +kernel) rfl ?_
    have e9 := Option.some.inj h1; subst e9
    exact s_ri (X := 0) (Y := 0) (by decide +kernel) hc0 hF
set_option maxRecDepth 100000 in
set_option maxHeartbeats 4000000 in
def fX10_directionNumber_b53 (fu : Nat) (sh : HS) (I : HI) (R : HR) (l0 : Int32) (l1 : Int32) (l4 : Int32) : Option Int32 :=
  if 0 < l0 then
    ((fX10_directionNumber_b68 fu sh I R) l0 l4)
  else
    (if l1 ≤ 0 then
      ((fX10_directionNumber_b68 fu sh I R) l0 l4)
    else
      (some (2000 - l4)))
set_option maxRecDepth 100000 in
set_option maxHeartbeats 4000000 in
theorem vX10_directionNumber_b53 {K J : Nat → Nat} {fu : Nat} {sh : HS} {I : HI} {R : HR} {F : VF} {o : Int32} (hF : F (.inl (some (.int o))) sh I R) {l0 : Int32} {l1 : Int32} {l4 : Int32} {d2 d3 : Option Value} {c : Nat × Nat} (hc0 : c.1 ≤ 0 ∧ c.2 ≤ 0) (h0 : fX10_directionNumber_b53 fu sh I R l0 l1 l4 = some o) : V K J 110 53 [some (.int l0), some (.int l1), d2, d3, some (.int l4)] [] sh I R c F := by
  unfold fX10_directionNumber_b53 at h0
  refine s_il (i := 0) (pc' := 54) (by decide +kernel) rfl ?_
  refine s_if (ins := .ifCond .gt 14) (t := 68) (pc' := 57) (by decide +kernel) rfl rfl rfl h0 (fun p1 h1 => ?_) (fun p1 h1 => ?_) <;> clear h0
  · exact (vX10_directionNumber_b68 hF) hc0 h1
  · refine s_il (i := 1) (pc' := 58) (by decide +kernel) rfl ?_
    refine s_if (ins := .ifCond .le 10) (t := 68) (pc' := 61) (by decide +kernel) rfl rfl rfl h1 (fun p2 h2 => ?_) (fun p2 h2 => ?_) <;> clear h1
    · exact (vX10_directionNumber_b68 hF) hc0 h2
    · refine s_c (v := 2000) (pc' := 64) (by decide +kernel) ?_
      refine s_il (i := 4) (pc' := 66) (by decide +kernel) rfl ?_
      refine s_a (ins := .isub) (pc' := 67) (by decide +kernel) rfl ?_
      have e9 := Option.some.inj h2; subst e9
      exact s_ri (X := 0) (Y := 0) (by decide +kernel) hc0 hF
set_option maxRecDepth 100000 in
set_option maxHeartbeats 4000000 in
def fX10_directionNumber_b21 (fu : Nat) (sh : HS) (I : HI) (R : HR) (l0 : Int32) (l1 : Int32) (l2 : Int32) (s0 : Int32) : Option Int32 :=
  if (l2 + s0) = 0 then
    (some (-2))
  else
    ((oD (1000 * s0) (l2 + s0)).bind fun v1 =>
    if l0 ≤ 0 then
      ((fX10_directionNumber_b53 fu sh I R) l0 l1 v1)
    else
      (if l1 < 0 then
        ((fX10_directionNumber_b53 fu sh I R) l0 l1 v1)
      else
        (some v1)))
set_option maxRecDepth 100000 in
set_option maxHeartbeats 4000000 in
theorem vX10_directionNumber_b21 {K J : Nat → Nat} {fu : Nat} {sh : HS} {I : HI} {R : HR} {F : VF} {o : Int32} (hF : F (.inl (some (.int o))) sh I R) {l0 : Int32} {l1 : Int32} {l2 : Int32} {s0 : Int32} {d3 d4 : Option Value} {c : Nat × Nat} (hc0 : c.1 ≤ 0 ∧ c.2 ≤ 0) (h0 : fX10_directionNumber_b21 fu sh I R l0 l1 l2 s0 = some o) : V K J 110 21 [some (.int l0), some (.int l1), some (.int l2), d3, d4] [.int s0] sh I R c F := by
  unfold fX10_directionNumber_b21 at h0
  refine s_is (i := 3) (pc' := 22) (L' := [some (.int l0), some (.int l1), some (.int l2), some (.int s0), d4]) (by decide +kernel) rfl rfl ?_
  refine s_il (i := 2) (pc' := 23) (by decide +kernel) rfl ?_
  refine s_il (i := 3) (pc' := 24) (by decide +kernel) rfl ?_
  refine s_a (ins := .iadd) (pc' := 25) (by decide +kernel) rfl ?_
  refine s_ifn (ins := .ifCond .ne 6) (t := 31) (pc' := 28) (by decide +kernel) rfl rfl rfl h0 (fun p1 h1 => ?_) (fun p1 h1 => ?_) <;> clear h0
  · refine s_c (v := 1000) (pc' := 34) (by decide +kernel) ?_
    refine s_il (i := 3) (pc' := 35) (by decide +kernel) rfl ?_
    refine s_a (ins := .imul) (pc' := 36) (by decide +kernel) rfl ?_
    refine s_il (i := 2) (pc' := 37) (by decide +kernel) rfl ?_
    refine s_il (i := 3) (pc' := 38) (by decide +kernel) rfl ?_
    refine s_a (ins := .iadd) (pc' := 39) (by decide +kernel) rfl ?_
    refine s_dv (pc' := 40) (by decide +kernel) h1 (fun v1 h2 => ?_); clear h1
    refine s_is (i := 4) (pc' := 42) (L' := [some (.int l0), some (.int l1), some (.int l2), some (.int s0), some (.int v1)]) (by decide +kernel) rfl rfl ?_
    refine s_il (i := 0) (pc' := 43) (by decide +kernel) rfl ?_
    refine s_if (ins := .ifCond .le 10) (t := 53) (pc' := 46) (by decide +kernel) rfl rfl rfl h2 (fun p3 h3 => ?_) (fun p3 h3 => ?_) <;> clear h2
    · exact (vX10_directionNumber_b53 hF) hc0 h3
    · refine s_il (i := 1) (pc' := 47) (by decide +kernel) rfl ?_
      refine s_if (ins := .ifCond .lt 6) (t := 53) (pc' := 50) (by decide +kernel) rfl rfl rfl h3 (fun p4 h4 => ?_) (fun p4 h4 => ?_) <;> clear h3
      · exact (vX10_directionNumber_b53 hF) hc0 h4
      · refine s_il (i := 4) (pc' := 52) (by decide +kernel) rfl ?_
        have e9 := Option.some.inj h4; subst e9
        exact s_ri (X := 0) (Y := 0) (by decide +kernel) hc0 hF
  · refine s_c (v := (-2)) (pc' := 30) (by decide +kernel) ?_
    have e9 := Option.some.inj h1; subst e9
    exact s_ri (X := 0) (Y := 0) (by decide +kernel) hc0 hF
set_option maxRecDepth 100000 in
set_option maxHeartbeats 4000000 in
def fX10_directionNumber_b10 (fu : Nat) (sh : HS) (I : HI) (R : HR) (l0 : Int32) (l1 : Int32) (s0 : Int32) : Option Int32 :=
  if 0 ≤ l1 then
    ((fX10_directionNumber_b21 fu sh I R) l0 l1 s0 l1)
  else
    ((fX10_directionNumber_b21 fu sh I R) l0 l1 s0 (-l1))
set_option maxRecDepth 100000 in
set_option maxHeartbeats 4000000 in
theorem vX10_directionNumber_b10 {K J : Nat → Nat} {fu : Nat} {sh : HS} {I : HI} {R : HR} {F : VF} {o : Int32} (hF : F (.inl (some (.int o))) sh I R) {l0 : Int32} {l1 : Int32} {s0 : Int32} {d2 d3 d4 : Option Value} {c : Nat × Nat} (hc0 : c.1 ≤ 0 ∧ c.2 ≤ 0) (h0 : fX10_directionNumber_b10 fu sh I R l0 l1 s0 = some o) : V K J 110 10 [some (.int l0), some (.int l1), d2, d3, d4] [.int s0] sh I R c F := by
  unfold fX10_directionNumber_b10 at h0
  refine s_is (i := 2) (pc' := 11) (L' := [some (.int l0), some (.int l1), some (.int s0), d3, d4]) (by decide +kernel) rfl rfl ?_
  refine s_il (i := 1) (pc' := 12) (by decide +kernel) rfl ?_
  refine s_if (ins := .ifCond .ge 8) (t := 20) (pc' := 15) (by decide +kernel) rfl rfl rfl h0 (fun p1 h1 => ?_) (fun p1 h1 => ?_) <;> clear h0
  · refine s_il (i := 1) (pc' := 21) (by decide +kernel) rfl ?_
    exact (vX10_directionNumber_b21 hF) hc0 h1
  · refine s_il (i := 1) (pc' := 16) (by decide +kernel) rfl ?_
    refine s_a (ins := .ineg) (pc' := 17) (by decide +kernel) rfl ?_
    refine s_go (t := 21) (by decide +kernel) ?_
    exact (vX10_directionNumber_b21 hF) hc0 h1
set_option maxRecDepth 100000 in
set_option maxHeartbeats 4000000 in
def fX10_directionNumber (fu : Nat) (sh : HS) (I : HI) (R : HR) (l0 : Int32) (l1 : Int32) : Option Int32 :=
  if 0 ≤ l0 then
    ((fX10_directionNumber_b10 fu sh I R) l0 l1 l0)
  else
    ((fX10_directionNumber_b10 fu sh I R) l0 l1 (-l0))
set_option maxRecDepth 100000 in
set_option maxHeartbeats 4000000 in
theorem vX10_directionNumber {K J : Nat → Nat} {fu : Nat} {sh : HS} {I : HI} {R : HR} {F : VF} {o : Int32} (hF : F (.inl (some (.int o))) sh I R) {l0 : Int32} {l1 : Int32} (h0 : fX10_directionNumber fu sh I R l0 l1 = some o) : V K J 110 0 (ent 5 [.int l0, .int l1]) [] sh I R (0, 0) F := by
  unfold fX10_directionNumber at h0
  have h1 := h0; clear h0
  have hc0 : ((0 : Nat), (0 : Nat)).1 ≤ 0 ∧ ((0 : Nat), (0 : Nat)).2 ≤ 0 := ⟨Nat.le_refl _, Nat.le_refl _⟩
  show V K J 110 0 [some (.int l0), some (.int l1), none, none, none] [] sh I R (0, 0) F
  refine s_il (i := 0) (pc' := 1) (by decide +kernel) rfl ?_
  refine s_if (ins := .ifCond .ge 8) (t := 9) (pc' := 4) (by decide +kernel) rfl rfl rfl h1 (fun p2 h2 => ?_) (fun p2 h2 => ?_) <;> clear h1
  · refine s_il (i := 0) (pc' := 10) (by decide +kernel) rfl ?_
    exact (vX10_directionNumber_b10 hF) hc0 h2
  · refine s_il (i := 0) (pc' := 5) (by decide +kernel) rfl ?_
    refine s_a (ins := .ineg) (pc' := 6) (by decide +kernel) rfl ?_
    refine s_go (t := 10) (by decide +kernel) ?_
    exact (vX10_directionNumber_b10 hF) hc0 h2
set_option maxRecDepth 100000 in
set_option maxHeartbeats 4000000 in
theorem kX10_directionNumber {K J : Nat → Nat} {fu : Nat} {sh : HS} {I : HI} {R : HR} {F : VF} {mi pc pc' X Y X' Y' : Nat} {L : VL} {rest : List Value} {c : Nat × Nat} {l0 : Int32} {l1 : Int32} {ω : Type} {o : ω} {g : Int32 → Option ω} (hq : cQ mi pc 110 2 pc' X Y X' Y' = true) (hc : c.1 ≤ X ∧ c.2 ≤ Y) (hr : Nat.ble (catS rest) 8 = true) (h : (fX10_directionNumber fu sh I R l0 l1).bind g = some o) (kk : ∀ v c', (c'.1 ≤ X' ∧ c'.2 ≤ Y') → g v = some o → V K J mi pc' L ((.int v) :: rest) sh I R c' F) : V K J mi pc L (.int l1 :: .int l0 :: rest) sh I R c F := by
  obtain ⟨r, h1, h2⟩ := bnd h
  have ml : mL 110 = 5 := by decide +kernel
  have mk : mK 110 = 0 := by decide +kernel
  refine s_call (as := [.int l1, .int l0]) (G := fun o' sh' I' R' => o' = .inl (some (.int r)) ∧ sh' = sh ∧ I' = I ∧ R' = R) hq hc rfl hr (by rw [ml]; rfl) (Or.inl rfl) (fun z => absurd (mk.symm.trans z) (by decide)) (fun z => absurd (mk.symm.trans z) (by decide)) (by rw [ml]; exact vX10_directionNumber (F := fun o' sh' I' R' => o' = .inl (some (.int r)) ∧ sh' = sh ∧ I' = I ∧ R' = R) ⟨rfl, rfl, rfl, rfl⟩ h1) ?_ ?_ ?_
  · rintro sh' I' R' c' hc' ⟨g1, rfl, rfl, rfl⟩
    cases g1
  · rintro v' sh' I' R' c' hc' ⟨g1, rfl, rfl, rfl⟩
    cases g1
    exact kk _ _ hc' h2
  · rintro E' sh' I' R' ⟨g1, rfl, rfl, rfl⟩
    cases g1
set_option maxRecDepth 100000 in
set_option maxHeartbeats 4000000 in
def fX9_viewOf (fu : Nat) (sh : HS) (I : HI) (R : HR) (l0 : Nat) (l1 : Nat) : Option Int32 :=
  (oR sh R l0 0 5).bind fun v1 =>
  (oI sh I l1 7 0).bind fun v2 =>
  (oB sh R v1 5 v2).bind fun v3 =>
  (oR sh R v3 5 2).bind fun v4 =>
  (oI sh I l1 7 3).bind fun v5 =>
  (oA sh I v4 v5).bind fun v6 =>
  (oI sh I l1 7 1).bind fun v7 =>
  (oR sh R v3 5 3).bind fun v8 =>
  (oI sh I l1 7 3).bind fun v9 =>
  (oA sh I v8 v9).bind fun v10 =>
  (oI sh I l1 7 2).bind fun v11 =>
  (fX10_directionNumber fu sh I R (v6 - v7) (v10 - v11)).bind fun v12 =>
  some v12
set_option maxRecDepth 100000 in
set_option maxHeartbeats 4000000 in
theorem vX9_viewOf {K J : Nat → Nat} {fu : Nat} {sh : HS} {I : HI} {R : HR} {F : VF} {o : Int32} (hF : F (.inl (some (.int o))) sh I R) {l0 : Nat} {l1 : Nat} (h0 : fX9_viewOf fu sh I R l0 l1 = some o) : V K J 54 0 (ent 3 [.ref l0, .ref l1]) [] sh I R (0, 0) F := by
  unfold fX9_viewOf at h0
  have h1 := h0; clear h0
  have hc0 : ((0 : Nat), (0 : Nat)).1 ≤ 0 ∧ ((0 : Nat), (0 : Nat)).2 ≤ 0 := ⟨Nat.le_refl _, Nat.le_refl _⟩
  show V K J 54 0 [some (.ref l0), some (.ref l1), none] [] sh I R (0, 0) F
  refine s_rl (i := 0) (pc' := 1) (by decide +kernel) rfl ?_
  refine s_gR (t := 0) (j := 5) (pc' := 4) (by decide +kernel) h1 (fun v1 h2 => ?_); clear h1
  refine s_rl (i := 1) (pc' := 5) (by decide +kernel) rfl ?_
  refine s_gI (t := 7) (j := 0) (ty := 0) (pc' := 8) (by decide +kernel) rfl h2 (fun v2 h3 => ?_); clear h2
  refine s_aal (t := 5) (pc' := 9) (by decide +kernel) h3 (fun v3 h4 => ?_); clear h3
  refine s_rs (i := 2) (pc' := 10) (L' := [some (.ref l0), some (.ref l1), some (.ref v3)]) (by decide +kernel) rfl rfl ?_
  refine s_rl (i := 2) (pc' := 11) (by decide +kernel) rfl ?_
  refine s_gR (t := 5) (j := 2) (pc' := 14) (by decide +kernel) h4 (fun v4 h5 => ?_); clear h4
  refine s_rl (i := 1) (pc' := 15) (by decide +kernel) rfl ?_
  refine s_gI (t := 7) (j := 3) (ty := 0) (pc' := 18) (by decide +kernel) rfl h5 (fun v5 h6 => ?_); clear h5
  refine s_al (pc' := 19) (by decide +kernel) h6 (fun v6 h7 => ?_); clear h6
  refine s_rl (i := 1) (pc' := 20) (by decide +kernel) rfl ?_
  refine s_gI (t := 7) (j := 1) (ty := 0) (pc' := 23) (by decide +kernel) rfl h7 (fun v7 h8 => ?_); clear h7
  refine s_a (ins := .isub) (pc' := 24) (by decide +kernel) rfl ?_
  refine s_rl (i := 2) (pc' := 25) (by decide +kernel) rfl ?_
  refine s_gR (t := 5) (j := 3) (pc' := 28) (by decide +kernel) h8 (fun v8 h9 => ?_); clear h8
  refine s_rl (i := 1) (pc' := 29) (by decide +kernel) rfl ?_
  refine s_gI (t := 7) (j := 3) (ty := 0) (pc' := 32) (by decide +kernel) rfl h9 (fun v9 h10 => ?_); clear h9
  refine s_al (pc' := 33) (by decide +kernel) h10 (fun v10 h11 => ?_); clear h10
  refine s_rl (i := 1) (pc' := 34) (by decide +kernel) rfl ?_
  refine s_gI (t := 7) (j := 2) (ty := 0) (pc' := 37) (by decide +kernel) rfl h11 (fun v11 h12 => ?_); clear h11
  refine s_a (ins := .isub) (pc' := 38) (by decide +kernel) rfl ?_
  refine kX10_directionNumber (X := 0) (Y := 0) (X' := 0) (Y' := 0) (pc' := 41) (by decide +kernel) hc0 rfl h12 (fun v12 c hc1 h13 => ?_); clear h12 hc0
  have e9 := Option.some.inj h13; subst e9
  exact s_ri (X := 0) (Y := 0) (by decide +kernel) hc1 hF
set_option maxRecDepth 100000 in
set_option maxHeartbeats 4000000 in
theorem kX9_viewOf {K J : Nat → Nat} {fu : Nat} {sh : HS} {I : HI} {R : HR} {F : VF} {mi pc pc' X Y X' Y' : Nat} {L : VL} {rest : List Value} {c : Nat × Nat} {l0 : Nat} {l1 : Nat} {ω : Type} {o : ω} {g : Int32 → Option ω} (hq : cQ mi pc 54 2 pc' X Y X' Y' = true) (hc : c.1 ≤ X ∧ c.2 ≤ Y) (hr : Nat.ble (catS rest) 8 = true) (h : (fX9_viewOf fu sh I R l0 l1).bind g = some o) (kk : ∀ v c', (c'.1 ≤ X' ∧ c'.2 ≤ Y') → g v = some o → V K J mi pc' L ((.int v) :: rest) sh I R c' F) : V K J mi pc L (.ref l1 :: .ref l0 :: rest) sh I R c F := by
  obtain ⟨r, h1, h2⟩ := bnd h
  have ml : mL 54 = 3 := by decide +kernel
  have mk : mK 54 = 0 := by decide +kernel
  refine s_call (as := [.ref l1, .ref l0]) (G := fun o' sh' I' R' => o' = .inl (some (.int r)) ∧ sh' = sh ∧ I' = I ∧ R' = R) hq hc rfl hr (by rw [ml]; rfl) (Or.inl rfl) (fun z => absurd (mk.symm.trans z) (by decide)) (fun z => absurd (mk.symm.trans z) (by decide)) (by rw [ml]; exact vX9_viewOf (F := fun o' sh' I' R' => o' = .inl (some (.int r)) ∧ sh' = sh ∧ I' = I ∧ R' = R) ⟨rfl, rfl, rfl, rfl⟩ h1) ?_ ?_ ?_
  · rintro sh' I' R' c' hc' ⟨g1, rfl, rfl, rfl⟩
    cases g1
  · rintro v' sh' I' R' c' hc' ⟨g1, rfl, rfl, rfl⟩
    cases g1
    exact kk _ _ hc' h2
  · rintro E' sh' I' R' ⟨g1, rfl, rfl, rfl⟩
    cases g1
set_option maxRecDepth 100000 in
set_option maxHeartbeats 4000000 in
def fX10_turnBetween (fu : Nat) (sh : HS) (I : HI) (R : HR) (l0 : Int32) (l1 : Int32) : Option Int32 :=
  some (iMin (iAbs (l0 - l1)) (4000 - (iAbs (l0 - l1))))
set_option maxRecDepth 100000 in
set_option maxHeartbeats 4000000 in
theorem vX10_turnBetween {K J : Nat → Nat} {fu : Nat} {sh : HS} {I : HI} {R : HR} {F : VF} {o : Int32} (hF : F (.inl (some (.int o))) sh I R) {l0 : Int32} {l1 : Int32} (h0 : fX10_turnBetween fu sh I R l0 l1 = some o) : V K J 111 0 (ent 3 [.int l0, .int l1]) [] sh I R (0, 0) F := by
  unfold fX10_turnBetween at h0
  have h1 := h0; clear h0
  have hc0 : ((0 : Nat), (0 : Nat)).1 ≤ 0 ∧ ((0 : Nat), (0 : Nat)).2 ≤ 0 := ⟨Nat.le_refl _, Nat.le_refl _⟩
  show V K J 111 0 [some (.int l0), some (.int l1), none] [] sh I R (0, 0) F
  refine s_il (i := 0) (pc' := 1) (by decide +kernel) rfl ?_
  refine s_il (i := 1) (pc' := 2) (by decide +kernel) rfl ?_
  refine s_a (ins := .isub) (pc' := 3) (by decide +kernel) rfl ?_
  refine s_abs (X := 0) (Y := 0) (pc' := 6) (by decide +kernel) hc0 rfl ?_
  refine s_is (i := 2) (pc' := 7) (L' := [some (.int l0), some (.int l1), some (.int (iAbs (l0 - l1)))]) (by decide +kernel) rfl rfl ?_
  refine s_il (i := 2) (pc' := 8) (by decide +kernel) rfl ?_
  refine s_c (v := 4000) (pc' := 11) (by decide +kernel) ?_
  refine s_il (i := 2) (pc' := 12) (by decide +kernel) rfl ?_
  refine s_a (ins := .isub) (pc' := 13) (by decide +kernel) rfl ?_
  refine s_min (X := 0) (Y := 0) (pc' := 16) (by decide +kernel) hc0 rfl ?_
  have e9 := Option.some.inj h1; subst e9
  exact s_ri (X := 0) (Y := 0) (by decide +kernel) hc0 hF
set_option maxRecDepth 100000 in
set_option maxHeartbeats 4000000 in
theorem kX10_turnBetween {K J : Nat → Nat} {fu : Nat} {sh : HS} {I : HI} {R : HR} {F : VF} {mi pc pc' X Y X' Y' : Nat} {L : VL} {rest : List Value} {c : Nat × Nat} {l0 : Int32} {l1 : Int32} {ω : Type} {o : ω} {g : Int32 → Option ω} (hq : cQ mi pc 111 2 pc' X Y X' Y' = true) (hc : c.1 ≤ X ∧ c.2 ≤ Y) (hr : Nat.ble (catS rest) 8 = true) (h : (fX10_turnBetween fu sh I R l0 l1).bind g = some o) (kk : ∀ v c', (c'.1 ≤ X' ∧ c'.2 ≤ Y') → g v = some o → V K J mi pc' L ((.int v) :: rest) sh I R c' F) : V K J mi pc L (.int l1 :: .int l0 :: rest) sh I R c F := by
  obtain ⟨r, h1, h2⟩ := bnd h
  have ml : mL 111 = 3 := by decide +kernel
  have mk : mK 111 = 0 := by decide +kernel
  refine s_call (as := [.int l1, .int l0]) (G := fun o' sh' I' R' => o' = .inl (some (.int r)) ∧ sh' = sh ∧ I' = I ∧ R' = R) hq hc rfl hr (by rw [ml]; rfl) (Or.inl rfl) (fun z => absurd (mk.symm.trans z) (by decide)) (fun z => absurd (mk.symm.trans z) (by decide)) (by rw [ml]; exact vX10_turnBetween (F := fun o' sh' I' R' => o' = .inl (some (.int r)) ∧ sh' = sh ∧ I' = I ∧ R' = R) ⟨rfl, rfl, rfl, rfl⟩ h1) ?_ ?_ ?_
  · rintro sh' I' R' c' hc' ⟨g1, rfl, rfl, rfl⟩
    cases g1
  · rintro v' sh' I' R' c' hc' ⟨g1, rfl, rfl, rfl⟩
    cases g1
    exact kk _ _ hc' h2
  · rintro E' sh' I' R' ⟨g1, rfl, rfl, rfl⟩
    cases g1
set_option maxRecDepth 100000 in
set_option maxHeartbeats 4000000 in
def fX9_areNear_b73 (fu : Nat) (sh : HS) (I : HI) (R : HR) (s0 : Int32) : Option Int32 :=
  (oZ s0).bind fun z11 =>
  some z11
set_option maxRecDepth 100000 in
set_option maxHeartbeats 4000000 in
theorem vX9_areNear_b73 {K J : Nat → Nat} {fu : Nat} {sh : HS} {I : HI} {R : HR} {F : VF} {o : Int32} (hF : F (.inl (some (.int o))) sh I R) {s0 : Int32} {d0 d1 d2 d3 d4 : Option Value} {c : Nat × Nat} (hc0 : c.1 ≤ 0 ∧ c.2 ≤ 0) (h0 : fX9_areNear_b73 fu sh I R s0 = some o) : V K J 59 73 [d0, d1, d2, d3, d4] [.int s0] sh I R c F := by
  unfold fX9_areNear_b73 at h0
  obtain ⟨hz, h1⟩ := oZb h0
  have e9 := Option.some.inj h1; subst e9
  exact s_rz (X := 0) (Y := 0) (by decide +kernel) hz hc0 hF
set_option maxRecDepth 100000 in
set_option maxHeartbeats 4000000 in
def fX9_areNear (fu : Nat) (sh : HS) (I : HI) (R : HR) (l0 : Nat) (l1 : Nat) (l2 : Nat) (l3 : Int32) : Option Int32 :=
  (oI sh I l1 7 0).bind fun v1 =>
  (oI sh I l2 7 0).bind fun v2 =>
  if v1 = v2 then
    ((oI sh I l1 7 1).bind fun v3 =>
    (oI sh I l2 7 1).bind fun v4 =>
    (oI sh I l1 7 2).bind fun v5 =>
    (oI sh I l2 7 2).bind fun v6 =>
    if ((iAbs (v3 - v4)) + (iAbs (v5 - v6))) ≤ l3 then
      ((fX9_viewOf fu sh I R l0 l1).bind fun v7 =>
      (fX9_viewOf fu sh I R l0 l2).bind fun v8 =>
      (fX10_turnBetween fu sh I R v7 v8).bind fun v9 =>
      (oI sh I l0 0 1).bind fun v10 =>
      if v10 < v9 then
        ((fX9_areNear_b73 fu sh I R) 0)
      else
        ((fX9_areNear_b73 fu sh I R) 1))
    else
      (some 0))
  else
    (some 0)
set_option maxRecDepth 100000 in
set_option maxHeartbeats 4000000 in
theorem vX9_areNear {K J : Nat → Nat} {fu : Nat} {sh : HS} {I : HI} {R : HR} {F : VF} {o : Int32} (hF : F (.inl (some (.int o))) sh I R) {l0 : Nat} {l1 : Nat} {l2 : Nat} {l3 : Int32} (h0 : fX9_areNear fu sh I R l0 l1 l2 l3 = some o) : V K J 59 0 (ent 5 [.ref l0, .ref l1, .ref l2, .int l3]) [] sh I R (0, 0) F := by
  unfold fX9_areNear at h0
  have h1 := h0; clear h0
  have hc0 : ((0 : Nat), (0 : Nat)).1 ≤ 0 ∧ ((0 : Nat), (0 : Nat)).2 ≤ 0 := ⟨Nat.le_refl _, Nat.le_refl _⟩
  show V K J 59 0 [some (.ref l0), some (.ref l1), some (.ref l2), some (.int l3), none] [] sh I R (0, 0) F
  refine s_rl (i := 1) (pc' := 1) (by decide +kernel) rfl ?_
  refine s_gI (t := 7) (j := 0) (ty := 0) (pc' := 4) (by decide +kernel) rfl h1 (fun v1 h2 => ?_); clear h1
  refine s_rl (i := 2) (pc' := 5) (by decide +kernel) rfl ?_
  refine s_gI (t := 7) (j := 0) (ty := 0) (pc' := 8) (by decide +kernel) rfl h2 (fun v2 h3 => ?_); clear h2
  refine s_if (ins := .if_icmp .eq 5) (t := 13) (pc' := 11) (by decide +kernel) rfl rfl rfl h3 (fun p4 h4 => ?_) (fun p4 h4 => ?_) <;> clear h3
  · refine s_rl (i := 1) (pc' := 14) (by decide +kernel) rfl ?_
    refine s_gI (t := 7) (j := 1) (ty := 0) (pc' := 17) (by decide +kernel) rfl h4 (fun v3 h5 => ?_); clear h4
    refine s_rl (i := 2) (pc' := 18) (by decide +kernel) rfl ?_
    refine s_gI (t := 7) (j := 1) (ty := 0) (pc' := 21) (by decide +kernel) rfl h5 (fun v4 h6 => ?_); clear h5
    refine s_a (ins := .isub) (pc' := 22) (by decide +kernel) rfl ?_
    refine s_abs (X := 0) (Y := 0) (pc' := 25) (by decide +kernel) hc0 rfl ?_
    refine s_rl (i := 1) (pc' := 26) (by decide +kernel) rfl ?_
    refine s_gI (t := 7) (j := 2) (ty := 0) (pc' := 29) (by decide +kernel) rfl h6 (fun v5 h7 => ?_); clear h6
    refine s_rl (i := 2) (pc' := 30) (by decide +kernel) rfl ?_
    refine s_gI (t := 7) (j := 2) (ty := 0) (pc' := 33) (by decide +kernel) rfl h7 (fun v6 h8 => ?_); clear h7
    refine s_a (ins := .isub) (pc' := 34) (by decide +kernel) rfl ?_
    refine s_abs (X := 0) (Y := 0) (pc' := 37) (by decide +kernel) hc0 rfl ?_
    refine s_a (ins := .iadd) (pc' := 38) (by decide +kernel) rfl ?_
    refine s_is (i := 4) (pc' := 40) (L' := [some (.ref l0), some (.ref l1), some (.ref l2), some (.int l3), some (.int ((iAbs (v3 - v4)) + (iAbs (v5 - v6))))]) (by decide +kernel) rfl rfl ?_
    refine s_il (i := 4) (pc' := 42) (by decide +kernel) rfl ?_
    refine s_il (i := 3) (pc' := 43) (by decide +kernel) rfl ?_
    refine s_if (ins := .if_icmp .le 5) (t := 48) (pc' := 46) (by decide +kernel) rfl rfl rfl h8 (fun p9 h9 => ?_) (fun p9 h9 => ?_) <;> clear h8
    · refine s_rl (i := 0) (pc' := 49) (by decide +kernel) rfl ?_
      refine s_rl (i := 1) (pc' := 50) (by decide +kernel) rfl ?_
      refine kX9_viewOf (X := 0) (Y := 0) (X' := 0) (Y' := 0) (pc' := 53) (by decide +kernel) hc0 rfl h9 (fun v7 c hc1 h10 => ?_); clear h9 hc0
      refine s_rl (i := 0) (pc' := 54) (by decide +kernel) rfl ?_
      refine s_rl (i := 2) (pc' := 55) (by decide +kernel) rfl ?_
      refine kX9_viewOf (X := 0) (Y := 0) (X' := 0) (Y' := 0) (pc' := 58) (by decide +kernel) hc1 rfl h10 (fun v8 c hc2 h11 => ?_); clear h10 hc1
      refine kX10_turnBetween (X := 0) (Y := 0) (X' := 0) (Y' := 0) (pc' := 61) (by decide +kernel) hc2 rfl h11 (fun v9 c hc3 h12 => ?_); clear h11 hc2
      refine s_rl (i := 0) (pc' := 62) (by decide +kernel) rfl ?_
      refine s_gI (t := 0) (j := 1) (ty := 0) (pc' := 65) (by decide +kernel) rfl h12 (fun v10 h13 => ?_); clear h12
      refine s_if (ins := .if_icmp .gt 7) (t := 72) (pc' := 68) (by decide +kernel) rfl rfl rfl h13 (fun p14 h14 => ?_) (fun p14 h14 => ?_) <;> clear h13
      · refine s_c (v := 0) (pc' := 73) (by decide +kernel) ?_
        exact (vX9_areNear_b73 hF) hc3 h14
      · refine s_c (v := 1) (pc' := 69) (by decide +kernel) ?_
        refine s_go (t := 73) (by decide +kernel) ?_
        exact (vX9_areNear_b73 hF) hc3 h14
    · refine s_c (v := 0) (pc' := 47) (by decide +kernel) ?_
      have e9 := Option.some.inj h9; subst e9
      exact s_rz (X := 0) (Y := 0) (by decide +kernel) (by decide) hc0 hF
  · refine s_c (v := 0) (pc' := 12) (by decide +kernel) ?_
    have e9 := Option.some.inj h4; subst e9
    exact s_rz (X := 0) (Y := 0) (by decide +kernel) (by decide) hc0 hF
set_option maxRecDepth 100000 in
set_option maxHeartbeats 4000000 in
theorem kX9_areNear {K J : Nat → Nat} {fu : Nat} {sh : HS} {I : HI} {R : HR} {F : VF} {mi pc pc' X Y X' Y' : Nat} {L : VL} {rest : List Value} {c : Nat × Nat} {l0 : Nat} {l1 : Nat} {l2 : Nat} {l3 : Int32} {ω : Type} {o : ω} {g : Int32 → Option ω} (hq : cQ mi pc 59 4 pc' X Y X' Y' = true) (hc : c.1 ≤ X ∧ c.2 ≤ Y) (hr : Nat.ble (catS rest) 8 = true) (h : (fX9_areNear fu sh I R l0 l1 l2 l3).bind g = some o) (kk : ∀ v c', (c'.1 ≤ X' ∧ c'.2 ≤ Y') → g v = some o → V K J mi pc' L ((.int v) :: rest) sh I R c' F) : V K J mi pc L (.int l3 :: .ref l2 :: .ref l1 :: .ref l0 :: rest) sh I R c F := by
  obtain ⟨r, h1, h2⟩ := bnd h
  have ml : mL 59 = 5 := by decide +kernel
  have mk : mK 59 = 0 := by decide +kernel
  refine s_call (as := [.int l3, .ref l2, .ref l1, .ref l0]) (G := fun o' sh' I' R' => o' = .inl (some (.int r)) ∧ sh' = sh ∧ I' = I ∧ R' = R) hq hc rfl hr (by rw [ml]; rfl) (Or.inl rfl) (fun z => absurd (mk.symm.trans z) (by decide)) (fun z => absurd (mk.symm.trans z) (by decide)) (by rw [ml]; exact vX9_areNear (F := fun o' sh' I' R' => o' = .inl (some (.int r)) ∧ sh' = sh ∧ I' = I ∧ R' = R) ⟨rfl, rfl, rfl, rfl⟩ h1) ?_ ?_ ?_
  · rintro sh' I' R' c' hc' ⟨g1, rfl, rfl, rfl⟩
    cases g1
  · rintro v' sh' I' R' c' hc' ⟨g1, rfl, rfl, rfl⟩
    cases g1
    exact kk _ _ hc' h2
  · rintro E' sh' I' R' ⟨g1, rfl, rfl, rfl⟩
    cases g1
set_option maxRecDepth 100000 in
set_option maxHeartbeats 4000000 in
def fX2_kindsBetween_b95 (fu : Nat) (sh : HS) (I : HI) (R : HR) (l3 : Int32) : Option Int32 :=
  some l3
set_option maxRecDepth 100000 in
set_option maxHeartbeats 4000000 in
theorem vX2_kindsBetween_b95 {K J : Nat → Nat} {fu : Nat} {sh : HS} {I : HI} {R : HR} {F : VF} {o : Int32} (hF : F (.inl (some (.int o))) sh I R) {l3 : Int32} {d0 d1 d2 : Option Value} {c : Nat × Nat} (hc0 : c.1 ≤ 0 ∧ c.2 ≤ 0) (h0 : fX2_kindsBetween_b95 fu sh I R l3 = some o) : V K J 34 95 [d0, d1, d2, some (.int l3)] [] sh I R c F := by
  unfold fX2_kindsBetween_b95 at h0
  refine s_il (i := 3) (pc' := 96) (by decide +kernel) rfl ?_
  have e9 := Option.some.inj h0; subst e9
  exact s_ri (X := 0) (Y := 0) (by decide +kernel) hc0 hF
set_option maxRecDepth 100000 in
set_option maxHeartbeats 4000000 in
def fX2_kindsBetween_b67 (fu : Nat) (sh : HS) (I : HI) (R : HR) (l0 : Nat) (l1 : Nat) (l2 : Nat) (l3 : Int32) : Option Int32 :=
  (oI sh I l1 7 3).bind fun v5 =>
  (oI sh I l2 7 3).bind fun v6 =>
  if v5 = v6 then
    ((oI sh I l0 0 0).bind fun v7 =>
    (fX9_areNear fu sh I R l0 l1 l2 v7).bind fun v8 =>
    if v8 = 0 then
      ((fX2_kindsBetween_b95 fu sh I R) l3)
    else
      ((fX2_kindsBetween_b95 fu sh I R) (l3 ||| 4)))
  else
    ((fX2_kindsBetween_b95 fu sh I R) l3)
set_option maxRecDepth 100000 in
set_option maxHeartbeats 4000000 in
theorem vX2_kindsBetween_b67 {K J : Nat → Nat} {fu : Nat} {sh : HS} {I : HI} {R : HR} {F : VF} {o : Int32} (hF : F (.inl (some (.int o))) sh I R) {l0 : Nat} {l1 : Nat} {l2 : Nat} {l3 : Int32} {c : Nat × Nat} (hc0 : c.1 ≤ 0 ∧ c.2 ≤ 0) (h0 : fX2_kindsBetween_b67 fu sh I R l0 l1 l2 l3 = some o) : V K J 34 67 [some (.ref l0), some (.ref l1), some (.ref l2), some (.int l3)] [] sh I R c F := by
  unfold fX2_kindsBetween_b67 at h0
  refine s_rl (i := 1) (pc' := 68) (by decide +kernel) rfl ?_
  refine s_gI (t := 7) (j := 3) (ty := 0) (pc' := 71) (by decide +kernel) rfl h0 (fun v5 h1 => ?_); clear h0
  refine s_rl (i := 2) (pc' := 72) (by decide +kernel) rfl ?_
  refine s_gI (t := 7) (j := 3) (ty := 0) (pc' := 75) (by decide +kernel) rfl h1 (fun v6 h2 => ?_); clear h1
  refine s_ifn (ins := .if_icmp .ne 20) (t := 95) (pc' := 78) (by decide +kernel) rfl rfl rfl h2 (fun p3 h3 => ?_) (fun p3 h3 => ?_) <;> clear h2
  · exact (vX2_kindsBetween_b95 hF) hc0 h3
  · refine s_rl (i := 0) (pc' := 79) (by decide +kernel) rfl ?_
    refine s_rl (i := 1) (pc' := 80) (by decide +kernel) rfl ?_
    refine s_rl (i := 2) (pc' := 81) (by decide +kernel) rfl ?_
    refine s_rl (i := 0) (pc' := 82) (by decide +kernel) rfl ?_
    refine s_gI (t := 0) (j := 0) (ty := 0) (pc' := 85) (by decide +kernel) rfl h3 (fun v7 h4 => ?_); clear h3
    refine kX9_areNear (X := 0) (Y := 0) (X' := 0) (Y' := 0) (pc' := 88) (by decide +kernel) hc0 rfl h4 (fun v8 c hc1 h5 => ?_); clear h4 hc0
    refine s_if (ins := .ifCond .eq 7) (t := 95) (pc' := 91) (by decide +kernel) rfl rfl rfl h5 (fun p6 h6 => ?_) (fun p6 h6 => ?_) <;> clear h5
    · exact (vX2_kindsBetween_b95 hF) hc1 h6
    · refine s_il (i := 3) (pc' := 92) (by decide +kernel) rfl ?_
      refine s_c (v := 4) (pc' := 93) (by decide +kernel) ?_
      refine s_a (ins := .ior) (pc' := 94) (by decide +kernel) rfl ?_
      refine s_is (i := 3) (pc' := 95) (L' := [some (.ref l0), some (.ref l1), some (.ref l2), some (.int (l3 ||| 4))]) (by decide +kernel) rfl rfl ?_
      exact (vX2_kindsBetween_b95 hF) hc1 h6
set_option maxRecDepth 100000 in
set_option maxHeartbeats 4000000 in
def fX2_kindsBetween_b41 (fu : Nat) (sh : HS) (I : HI) (R : HR) (l0 : Nat) (l1 : Nat) (l2 : Nat) (l3 : Int32) : Option Int32 :=
  (fX2_areFacing fu sh I R l1 l2).bind fun v4 =>
  if v4 = 0 then
    ((fX2_kindsBetween_b67 fu sh I R) l0 l1 l2 l3)
  else
    ((fX9_lookOf fu sh I R l0 l1).bind fun v9 =>
    (fX9_lookOf fu sh I R l0 l2).bind fun v10 =>
    if (v9 * v10) ≤ 0 then
      ((fX2_kindsBetween_b67 fu sh I R) l0 l1 l2 l3)
    else
      ((fX2_kindsBetween_b67 fu sh I R) l0 l1 l2 (l3 ||| 2)))
set_option maxRecDepth 100000 in
set_option maxHeartbeats 4000000 in
theorem vX2_kindsBetween_b41 {K J : Nat → Nat} {fu : Nat} {sh : HS} {I : HI} {R : HR} {F : VF} {o : Int32} (hF : F (.inl (some (.int o))) sh I R) {l0 : Nat} {l1 : Nat} {l2 : Nat} {l3 : Int32} {c : Nat × Nat} (hc0 : c.1 ≤ 0 ∧ c.2 ≤ 0) (h0 : fX2_kindsBetween_b41 fu sh I R l0 l1 l2 l3 = some o) : V K J 34 41 [some (.ref l0), some (.ref l1), some (.ref l2), some (.int l3)] [] sh I R c F := by
  unfold fX2_kindsBetween_b41 at h0
  refine s_rl (i := 1) (pc' := 42) (by decide +kernel) rfl ?_
  refine s_rl (i := 2) (pc' := 43) (by decide +kernel) rfl ?_
  refine kX2_areFacing (X := 0) (Y := 0) (X' := 0) (Y' := 0) (pc' := 46) (by decide +kernel) hc0 rfl h0 (fun v4 c hc1 h1 => ?_); clear h0 hc0
  refine s_if (ins := .ifCond .eq 21) (t := 67) (pc' := 49) (by decide +kernel) rfl rfl rfl h1 (fun p2 h2 => ?_) (fun p2 h2 => ?_) <;> clear h1
  · exact (vX2_kindsBetween_b67 hF) hc1 h2
  · refine s_rl (i := 0) (pc' := 50) (by decide +kernel) rfl ?_
    refine s_rl (i := 1) (pc' := 51) (by decide +kernel) rfl ?_
    refine kX9_lookOf (X := 0) (Y := 0) (X' := 0) (Y' := 0) (pc' := 54) (by decide +kernel) hc1 rfl h2 (fun v9 c hc2 h3 => ?_); clear h2 hc1
    refine s_rl (i := 0) (pc' := 55) (by decide +kernel) rfl ?_
    refine s_rl (i := 2) (pc' := 56) (by decide +kernel) rfl ?_
    refine kX9_lookOf (X := 0) (Y := 0) (X' := 0) (Y' := 0) (pc' := 59) (by decide +kernel) hc2 rfl h3 (fun v10 c hc3 h4 => ?_); clear h3 hc2
    refine s_a (ins := .imul) (pc' := 60) (by decide +kernel) rfl ?_
    refine s_if (ins := .ifCond .le 7) (t := 67) (pc' := 63) (by decide +kernel) rfl rfl rfl h4 (fun p5 h5 => ?_) (fun p5 h5 => ?_) <;> clear h4
    · exact (vX2_kindsBetween_b67 hF) hc3 h5
    · refine s_il (i := 3) (pc' := 64) (by decide +kernel) rfl ?_
      refine s_c (v := 2) (pc' := 65) (by decide +kernel) ?_
      refine s_a (ins := .ior) (pc' := 66) (by decide +kernel) rfl ?_
      refine s_is (i := 3) (pc' := 67) (L' := [some (.ref l0), some (.ref l1), some (.ref l2), some (.int (l3 ||| 2))]) (by decide +kernel) rfl rfl ?_
      exact (vX2_kindsBetween_b67 hF) hc3 h5
set_option maxRecDepth 100000 in
set_option maxHeartbeats 4000000 in
def fX2_kindsBetween (fu : Nat) (sh : HS) (I : HI) (R : HR) (l0 : Nat) (l1 : Nat) (l2 : Nat) : Option Int32 :=
  (oI sh I l1 7 0).bind fun v1 =>
  (oI sh I l2 7 0).bind fun v2 =>
  if v1 = v2 then
    ((fX2_areSamePair fu sh I R l1 l2).bind fun v3 =>
    if v3 = 0 then
      ((fX2_kindsBetween_b41 fu sh I R) l0 l1 l2 0)
    else
      ((fX9_sideOf fu sh I R l0 l1).bind fun v11 =>
      (fX9_sideOf fu sh I R l0 l2).bind fun v12 =>
      if 0 ≤ (v11 * v12) then
        ((fX2_kindsBetween_b41 fu sh I R) l0 l1 l2 0)
      else
        ((fX2_kindsBetween_b41 fu sh I R) l0 l1 l2 (0 ||| 1))))
  else
    (some 0)
set_option maxRecDepth 100000 in
set_option maxHeartbeats 4000000 in
theorem vX2_kindsBetween {K J : Nat → Nat} {fu : Nat} {sh : HS} {I : HI} {R : HR} {F : VF} {o : Int32} (hF : F (.inl (some (.int o))) sh I R) {l0 : Nat} {l1 : Nat} {l2 : Nat} (h0 : fX2_kindsBetween fu sh I R l0 l1 l2 = some o) : V K J 34 0 (ent 4 [.ref l0, .ref l1, .ref l2]) [] sh I R (0, 0) F := by
  unfold fX2_kindsBetween at h0
  have h1 := h0; clear h0
  have hc0 : ((0 : Nat), (0 : Nat)).1 ≤ 0 ∧ ((0 : Nat), (0 : Nat)).2 ≤ 0 := ⟨Nat.le_refl _, Nat.le_refl _⟩
  show V K J 34 0 [some (.ref l0), some (.ref l1), some (.ref l2), none] [] sh I R (0, 0) F
  refine s_rl (i := 1) (pc' := 1) (by decide +kernel) rfl ?_
  refine s_gI (t := 7) (j := 0) (ty := 0) (pc' := 4) (by decide +kernel) rfl h1 (fun v1 h2 => ?_); clear h1
  refine s_rl (i := 2) (pc' := 5) (by decide +kernel) rfl ?_
  refine s_gI (t := 7) (j := 0) (ty := 0) (pc' := 8) (by decide +kernel) rfl h2 (fun v2 h3 => ?_); clear h2
  refine s_if (ins := .if_icmp .eq 5) (t := 13) (pc' := 11) (by decide +kernel) rfl rfl rfl h3 (fun p4 h4 => ?_) (fun p4 h4 => ?_) <;> clear h3
  · refine s_c (v := 0) (pc' := 14) (by decide +kernel) ?_
    refine s_is (i := 3) (pc' := 15) (L' := [some (.ref l0), some (.ref l1), some (.ref l2), some (.int 0)]) (by decide +kernel) rfl rfl ?_
    refine s_rl (i := 1) (pc' := 16) (by decide +kernel) rfl ?_
    refine s_rl (i := 2) (pc' := 17) (by decide +kernel) rfl ?_
    refine kX2_areSamePair (X := 0) (Y := 0) (X' := 0) (Y' := 0) (pc' := 20) (by decide +kernel) hc0 rfl h4 (fun v3 c hc1 h5 => ?_); clear h4 hc0
    refine s_if (ins := .ifCond .eq 21) (t := 41) (pc' := 23) (by decide +kernel) rfl rfl rfl h5 (fun p6 h6 => ?_) (fun p6 h6 => ?_) <;> clear h5
    · exact (vX2_kindsBetween_b41 hF) hc1 h6
    · refine s_rl (i := 0) (pc' := 24) (by decide +kernel) rfl ?_
      refine s_rl (i := 1) (pc' := 25) (by decide +kernel) rfl ?_
      refine kX9_sideOf (X := 0) (Y := 0) (X' := 0) (Y' := 0) (pc' := 28) (by decide +kernel) hc1 rfl h6 (fun v11 c hc2 h7 => ?_); clear h6 hc1
      refine s_rl (i := 0) (pc' := 29) (by decide +kernel) rfl ?_
      refine s_rl (i := 2) (pc' := 30) (by decide +kernel) rfl ?_
      refine kX9_sideOf (X := 0) (Y := 0) (X' := 0) (Y' := 0) (pc' := 33) (by decide +kernel) hc2 rfl h7 (fun v12 c hc3 h8 => ?_); clear h7 hc2
      refine s_a (ins := .imul) (pc' := 34) (by decide +kernel) rfl ?_
      refine s_if (ins := .ifCond .ge 7) (t := 41) (pc' := 37) (by decide +kernel) rfl rfl rfl h8 (fun p9 h9 => ?_) (fun p9 h9 => ?_) <;> clear h8
      · exact (vX2_kindsBetween_b41 hF) hc3 h9
      · refine s_il (i := 3) (pc' := 38) (by decide +kernel) rfl ?_
        refine s_c (v := 1) (pc' := 39) (by decide +kernel) ?_
        refine s_a (ins := .ior) (pc' := 40) (by decide +kernel) rfl ?_
        refine s_is (i := 3) (pc' := 41) (L' := [some (.ref l0), some (.ref l1), some (.ref l2), some (.int (0 ||| 1))]) (by decide +kernel) rfl rfl ?_
        exact (vX2_kindsBetween_b41 hF) hc3 h9
  · refine s_c (v := 0) (pc' := 12) (by decide +kernel) ?_
    have e9 := Option.some.inj h4; subst e9
    exact s_ri (X := 0) (Y := 0) (by decide +kernel) hc0 hF
set_option maxRecDepth 100000 in
set_option maxHeartbeats 4000000 in
theorem kX2_kindsBetween {K J : Nat → Nat} {fu : Nat} {sh : HS} {I : HI} {R : HR} {F : VF} {mi pc pc' X Y X' Y' : Nat} {L : VL} {rest : List Value} {c : Nat × Nat} {l0 : Nat} {l1 : Nat} {l2 : Nat} {ω : Type} {o : ω} {g : Int32 → Option ω} (hq : cQ mi pc 34 3 pc' X Y X' Y' = true) (hc : c.1 ≤ X ∧ c.2 ≤ Y) (hr : Nat.ble (catS rest) 8 = true) (h : (fX2_kindsBetween fu sh I R l0 l1 l2).bind g = some o) (kk : ∀ v c', (c'.1 ≤ X' ∧ c'.2 ≤ Y') → g v = some o → V K J mi pc' L ((.int v) :: rest) sh I R c' F) : V K J mi pc L (.ref l2 :: .ref l1 :: .ref l0 :: rest) sh I R c F := by
  obtain ⟨r, h1, h2⟩ := bnd h
  have ml : mL 34 = 4 := by decide +kernel
  have mk : mK 34 = 0 := by decide +kernel
  refine s_call (as := [.ref l2, .ref l1, .ref l0]) (G := fun o' sh' I' R' => o' = .inl (some (.int r)) ∧ sh' = sh ∧ I' = I ∧ R' = R) hq hc rfl hr (by rw [ml]; rfl) (Or.inl rfl) (fun z => absurd (mk.symm.trans z) (by decide)) (fun z => absurd (mk.symm.trans z) (by decide)) (by rw [ml]; exact vX2_kindsBetween (F := fun o' sh' I' R' => o' = .inl (some (.int r)) ∧ sh' = sh ∧ I' = I ∧ R' = R) ⟨rfl, rfl, rfl, rfl⟩ h1) ?_ ?_ ?_
  · rintro sh' I' R' c' hc' ⟨g1, rfl, rfl, rfl⟩
    cases g1
  · rintro v' sh' I' R' c' hc' ⟨g1, rfl, rfl, rfl⟩
    cases g1
    exact kk _ _ hc' h2
  · rintro E' sh' I' R' ⟨g1, rfl, rfl, rfl⟩
    cases g1
set_option maxRecDepth 100000 in
set_option maxHeartbeats 4000000 in
def fJ6_bitCount_0f7a4 (fu : Nat) (sh : HS) (I : HI) (R : HR) (l0 : Int32) : Option Int32 :=
  some ((((((((l0 - ((iShr l0 1) &&& 1431655765)) &&& 858993459) + ((iShr (l0 - ((iShr l0 1) &&& 1431655765)) 2) &&& 858993459)) + (iShr (((l0 - ((iShr l0 1) &&& 1431655765)) &&& 858993459) + ((iShr (l0 - ((iShr l0 1) &&& 1431655765)) 2) &&& 858993459)) 4)) &&& 252645135) + (iShr (((((l0 - ((iShr l0 1) &&& 1431655765)) &&& 858993459) + ((iShr (l0 - ((iShr l0 1) &&& 1431655765)) 2) &&& 858993459)) + (iShr (((l0 - ((iShr l0 1) &&& 1431655765)) &&& 858993459) + ((iShr (l0 - ((iShr l0 1) &&& 1431655765)) 2) &&& 858993459)) 4)) &&& 252645135) 8)) + (iShr ((((((l0 - ((iShr l0 1) &&& 1431655765)) &&& 858993459) + ((iShr (l0 - ((iShr l0 1) &&& 1431655765)) 2) &&& 858993459)) + (iShr (((l0 - ((iShr l0 1) &&& 1431655765)) &&& 858993459) + ((iShr (l0 - ((iShr l0 1) &&& 1431655765)) 2) &&& 858993459)) 4)) &&& 252645135) + (iShr (((((l0 - ((iShr l0 1) &&& 1431655765)) &&& 858993459) + ((iShr (l0 - ((iShr l0 1) &&& 1431655765)) 2) &&& 858993459)) + (iShr (((l0 - ((iShr l0 1) &&& 1431655765)) &&& 858993459) + ((iShr (l0 - ((iShr l0 1) &&& 1431655765)) 2) &&& 858993459)) 4)) &&& 252645135) 8)) 16)) &&& 63)
set_option maxRecDepth 100000 in
set_option maxHeartbeats 4000000 in
theorem vJ6_bitCount_0f7a4 {K J : Nat → Nat} {fu : Nat} {sh : HS} {I : HI} {R : HR} {F : VF} {o : Int32} (hF : F (.inl (some (.int o))) sh I R) {l0 : Int32} (h0 : fJ6_bitCount_0f7a4 fu sh I R l0 = some o) : V K J 154 0 (ent 1 [.int l0]) [] sh I R (0, 0) F := by
  unfold fJ6_bitCount_0f7a4 at h0
  have h1 := h0; clear h0
  have hc0 : ((0 : Nat), (0 : Nat)).1 ≤ 0 ∧ ((0 : Nat), (0 : Nat)).2 ≤ 0 := ⟨Nat.le_refl _, Nat.le_refl _⟩
  show V K J 154 0 [some (.int l0)] [] sh I R (0, 0) F
  refine s_il (i := 0) (pc' := 1) (by decide +kernel) rfl ?_
  refine s_il (i := 0) (pc' := 2) (by decide +kernel) rfl ?_
  refine s_c (v := 1) (pc' := 3) (by decide +kernel) ?_
  refine s_a (ins := .iushr) (pc' := 4) (by decide +kernel) rfl ?_
  refine s_c (v := 1431655765) (pc' := 7) (by decide +kernel) ?_
  refine s_a (ins := .iand) (pc' := 8) (by decide +kernel) rfl ?_
  refine s_a (ins := .isub) (pc' := 9) (by decide +kernel) rfl ?_
  refine s_is (i := 0) (pc' := 10) (L' := [some (.int (l0 - ((iShr l0 1) &&& 1431655765)))]) (by decide +kernel) rfl rfl ?_
  refine s_il (i := 0) (pc' := 11) (by decide +kernel) rfl ?_
  refine s_c (v := 858993459) (pc' := 14) (by decide +kernel) ?_
  refine s_a (ins := .iand) (pc' := 15) (by decide +kernel) rfl ?_
  refine s_il (i := 0) (pc' := 16) (by decide +kernel) rfl ?_
  refine s_c (v := 2) (pc' := 17) (by decide +kernel) ?_
  refine s_a (ins := .iushr) (pc' := 18) (by decide +kernel) rfl ?_
  refine s_c (v := 858993459) (pc' := 21) (by decide +kernel) ?_
  refine s_a (ins := .iand) (pc' := 22) (by decide +kernel) rfl ?_
  refine s_a (ins := .iadd) (pc' := 23) (by decide +kernel) rfl ?_
  refine s_is (i := 0) (pc' := 24) (L' := [some (.int (((l0 - ((iShr l0 1) &&& 1431655765)) &&& 858993459) + ((iShr (l0 - ((iShr l0 1) &&& 1431655765)) 2) &&& 858993459)))]) (by decide +kernel) rfl rfl ?_
  refine s_il (i := 0) (pc' := 25) (by decide +kernel) rfl ?_
  refine s_il (i := 0) (pc' := 26) (by decide +kernel) rfl ?_
  refine s_c (v := 4) (pc' := 27) (by decide +kernel) ?_
  refine s_a (ins := .iushr) (pc' := 28) (by decide +kernel) rfl ?_
  refine s_a (ins := .iadd) (pc' := 29) (by decide +kernel) rfl ?_
  refine s_c (v := 252645135) (pc' := 32) (by decide +kernel) ?_
  refine s_a (ins := .iand) (pc' := 33) (by decide +kernel) rfl ?_
  refine s_is (i := 0) (pc' := 34) (L' := [some (.int (((((l0 - ((iShr l0 1) &&& 1431655765)) &&& 858993459) + ((iShr (l0 - ((iShr l0 1) &&& 1431655765)) 2) &&& 858993459)) + (iShr (((l0 - ((iShr l0 1) &&& 1431655765)) &&& 858993459) + ((iShr (l0 - ((iShr l0 1) &&& 1431655765)) 2) &&& 858993459)) 4)) &&& 252645135))]) (by decide +kernel) rfl rfl ?_
  refine s_il (i := 0) (pc' := 35) (by decide +kernel) rfl ?_
  refine s_il (i := 0) (pc' := 36) (by decide +kernel) rfl ?_
  refine s_c (v := 8) (pc' := 38) (by decide +kernel) ?_
  refine s_a (ins := .iushr) (pc' := 39) (by decide +kernel) rfl ?_
  refine s_a (ins := .iadd) (pc' := 40) (by decide +kernel) rfl ?_
  refine s_is (i := 0) (pc' := 41) (L' := [some (.int ((((((l0 - ((iShr l0 1) &&& 1431655765)) &&& 858993459) + ((iShr (l0 - ((iShr l0 1) &&& 1431655765)) 2) &&& 858993459)) + (iShr (((l0 - ((iShr l0 1) &&& 1431655765)) &&& 858993459) + ((iShr (l0 - ((iShr l0 1) &&& 1431655765)) 2) &&& 858993459)) 4)) &&& 252645135) + (iShr (((((l0 - ((iShr l0 1) &&& 1431655765)) &&& 858993459) + ((iShr (l0 - ((iShr l0 1) &&& 1431655765)) 2) &&& 858993459)) + (iShr (((l0 - ((iShr l0 1) &&& 1431655765)) &&& 858993459) + ((iShr (l0 - ((iShr l0 1) &&& 1431655765)) 2) &&& 858993459)) 4)) &&& 252645135) 8)))]) (by decide +kernel) rfl rfl ?_
  refine s_il (i := 0) (pc' := 42) (by decide +kernel) rfl ?_
  refine s_il (i := 0) (pc' := 43) (by decide +kernel) rfl ?_
  refine s_c (v := 16) (pc' := 45) (by decide +kernel) ?_
  refine s_a (ins := .iushr) (pc' := 46) (by decide +kernel) rfl ?_
  refine s_a (ins := .iadd) (pc' := 47) (by decide +kernel) rfl ?_
  refine s_is (i := 0) (pc' := 48) (L' := [some (.int (((((((l0 - ((iShr l0 1) &&& 1431655765)) &&& 858993459) + ((iShr (l0 - ((iShr l0 1) &&& 1431655765)) 2) &&& 858993459)) + (iShr (((l0 - ((iShr l0 1) &&& 1431655765)) &&& 858993459) + ((iShr (l0 - ((iShr l0 1) &&& 1431655765)) 2) &&& 858993459)) 4)) &&& 252645135) + (iShr (((((l0 - ((iShr l0 1) &&& 1431655765)) &&& 858993459) + ((iShr (l0 - ((iShr l0 1) &&& 1431655765)) 2) &&& 858993459)) + (iShr (((l0 - ((iShr l0 1) &&& 1431655765)) &&& 858993459) + ((iShr (l0 - ((iShr l0 1) &&& 1431655765)) 2) &&& 858993459)) 4)) &&& 252645135) 8)) + (iShr ((((((l0 - ((iShr l0 1) &&& 1431655765)) &&& 858993459) + ((iShr (l0 - ((iShr l0 1) &&& 1431655765)) 2) &&& 858993459)) + (iShr (((l0 - ((iShr l0 1) &&& 1431655765)) &&& 858993459) + ((iShr (l0 - ((iShr l0 1) &&& 1431655765)) 2) &&& 858993459)) 4)) &&& 252645135) + (iShr (((((l0 - ((iShr l0 1) &&& 1431655765)) &&& 858993459) + ((iShr (l0 - ((iShr l0 1) &&& 1431655765)) 2) &&& 858993459)) + (iShr (((l0 - ((iShr l0 1) &&& 1431655765)) &&& 858993459) + ((iShr (l0 - ((iShr l0 1) &&& 1431655765)) 2) &&& 858993459)) 4)) &&& 252645135) 8)) 16)))]) (by decide +kernel) rfl rfl ?_
  refine s_il (i := 0) (pc' := 49) (by decide +kernel) rfl ?_
  refine s_c (v := 63) (pc' := 51) (by decide +kernel) ?_
  refine s_a (ins := .iand) (pc' := 52) (by decide +kernel) rfl ?_
  have e9 := Option.some.inj h1; subst e9
  exact s_ri (X := 0) (Y := 0) (by decide +kernel) hc0 hF
set_option maxRecDepth 100000 in
set_option maxHeartbeats 4000000 in
theorem kJ6_bitCount_0f7a4 {K J : Nat → Nat} {fu : Nat} {sh : HS} {I : HI} {R : HR} {F : VF} {mi pc pc' X Y X' Y' : Nat} {L : VL} {rest : List Value} {c : Nat × Nat} {l0 : Int32} {ω : Type} {o : ω} {g : Int32 → Option ω} (hq : cQ mi pc 154 1 pc' X Y X' Y' = true) (hc : c.1 ≤ X ∧ c.2 ≤ Y) (hr : Nat.ble (catS rest) 8 = true) (h : (fJ6_bitCount_0f7a4 fu sh I R l0).bind g = some o) (kk : ∀ v c', (c'.1 ≤ X' ∧ c'.2 ≤ Y') → g v = some o → V K J mi pc' L ((.int v) :: rest) sh I R c' F) : V K J mi pc L (.int l0 :: rest) sh I R c F := by
  obtain ⟨r, h1, h2⟩ := bnd h
  have ml : mL 154 = 1 := by decide +kernel
  have mk : mK 154 = 0 := by decide +kernel
  refine s_call (as := [.int l0]) (G := fun o' sh' I' R' => o' = .inl (some (.int r)) ∧ sh' = sh ∧ I' = I ∧ R' = R) hq hc rfl hr (by rw [ml]; rfl) (Or.inl rfl) (fun z => absurd (mk.symm.trans z) (by decide)) (fun z => absurd (mk.symm.trans z) (by decide)) (by rw [ml]; exact vJ6_bitCount_0f7a4 (F := fun o' sh' I' R' => o' = .inl (some (.int r)) ∧ sh' = sh ∧ I' = I ∧ R' = R) ⟨rfl, rfl, rfl, rfl⟩ h1) ?_ ?_ ?_
  · rintro sh' I' R' c' hc' ⟨g1, rfl, rfl, rfl⟩
    cases g1
  · rintro v' sh' I' R' c' hc' ⟨g1, rfl, rfl, rfl⟩
    cases g1
    exact kk _ _ hc' h2
  · rintro E' sh' I' R' ⟨g1, rfl, rfl, rfl⟩
    cases g1
set_option maxRecDepth 100000 in
set_option maxHeartbeats 4000000 in
def fX2_total_b54 (fu : Nat) (sh : HS) (I : HI) (R : HR) (k4 : Nat → Int32 → Int32 → Option Int32) (l0 : Nat) (l1 : Int32) (l2 : Int32) : Option Int32 :=
  k4 l0 l1 (l2 + 1)
set_option maxRecDepth 100000 in
set_option maxHeartbeats 4000000 in
theorem vX2_total_b54 {K J : Nat → Nat} {fu : Nat} {sh : HS} {I : HI} {R : HR} {F : VF} {o : Int32} (hF : F (.inl (some (.int o))) sh I R) {k4 : Nat → Int32 → Int32 → Option Int32} (hk4 : ∀ {l0 : Nat} {l1 : Int32} {l2 : Int32} {d3 : Option Value} {c : Nat × Nat}, (c.1 ≤ 0 ∧ c.2 ≤ 0) → k4 l0 l1 l2 = some o → V K J 31 4 [some (.ref l0), some (.int l1), some (.int l2), d3] [] sh I R c F) {l0 : Nat} {l1 : Int32} {l2 : Int32} {d3 : Option Value} {c : Nat × Nat} (hc0 : c.1 ≤ 0 ∧ c.2 ≤ 0) (h0 : fX2_total_b54 fu sh I R k4 l0 l1 l2 = some o) : V K J 31 54 [some (.ref l0), some (.int l1), some (.int l2), d3] [] sh I R c F := by
  unfold fX2_total_b54 at h0
  refine s_inc (i := 2) (z := 1) (pc' := 57) (L' := [some (.ref l0), some (.int l1), some (.int (l2 + 1)), d3]) (by decide +kernel) rfl rfl rfl ?_
  refine s_go (t := 4) (by decide +kernel) ?_
  exact hk4 hc0 h0
set_option maxRecDepth 100000 in
set_option maxHeartbeats 4000000 in
def fX2_total_b31 (fu : Nat) (sh : HS) (I : HI) (R : HR) (k4 : Nat → Int32 → Int32 → Option Int32) (l0 : Nat) (l1 : Int32) (l2 : Int32) (l3 : Nat) : Option Int32 :=
  if l2 ≤ 0 then
    ((fX2_total_b54 fu sh I R k4) l0 l1 l2)
  else
    ((oR sh R l0 0 6).bind fun v5 =>
    (oB sh R v5 7 (l2 - 1)).bind fun v6 =>
    (fX2_kindsBetween fu sh I R l0 v6 l3).bind fun v7 =>
    (fJ6_bitCount_0f7a4 fu sh I R v7).bind fun v8 =>
    (fX2_total_b54 fu sh I R k4) l0 (l1 + v8) l2)
set_option maxRecDepth 100000 in
set_option maxHeartbeats 4000000 in
theorem vX2_total_b31 {K J : Nat → Nat} {fu : Nat} {sh : HS} {I : HI} {R : HR} {F : VF} {o : Int32} (hF : F (.inl (some (.int o))) sh I R) {k4 : Nat → Int32 → Int32 → Option Int32} (hk4 : ∀ {l0 : Nat} {l1 : Int32} {l2 : Int32} {d3 : Option Value} {c : Nat × Nat}, (c.1 ≤ 0 ∧ c.2 ≤ 0) → k4 l0 l1 l2 = some o → V K J 31 4 [some (.ref l0), some (.int l1), some (.int l2), d3] [] sh I R c F) {l0 : Nat} {l1 : Int32} {l2 : Int32} {l3 : Nat} {c : Nat × Nat} (hc0 : c.1 ≤ 0 ∧ c.2 ≤ 0) (h0 : fX2_total_b31 fu sh I R k4 l0 l1 l2 l3 = some o) : V K J 31 31 [some (.ref l0), some (.int l1), some (.int l2), some (.ref l3)] [] sh I R c F := by
  unfold fX2_total_b31 at h0
  refine s_il (i := 2) (pc' := 32) (by decide +kernel) rfl ?_
  refine s_if (ins := .ifCond .le 22) (t := 54) (pc' := 35) (by decide +kernel) rfl rfl rfl h0 (fun p1 h1 => ?_) (fun p1 h1 => ?_) <;> clear h0
  · exact (vX2_total_b54 hF hk4) hc0 h1
  · refine s_il (i := 1) (pc' := 36) (by decide +kernel) rfl ?_
    refine s_rl (i := 0) (pc' := 37) (by decide +kernel) rfl ?_
    refine s_rl (i := 0) (pc' := 38) (by decide +kernel) rfl ?_
    refine s_gR (t := 0) (j := 6) (pc' := 41) (by decide +kernel) h1 (fun v5 h2 => ?_); clear h1
    refine s_il (i := 2) (pc' := 42) (by decide +kernel) rfl ?_
    refine s_c (v := 1) (pc' := 43) (by decide +kernel) ?_
    refine s_a (ins := .isub) (pc' := 44) (by decide +kernel) rfl ?_
    refine s_aal (t := 7) (pc' := 45) (by decide +kernel) h2 (fun v6 h3 => ?_); clear h2
    refine s_rl (i := 3) (pc' := 46) (by decide +kernel) rfl ?_
    refine kX2_kindsBetween (X := 0) (Y := 0) (X' := 0) (Y' := 0) (pc' := 49) (by decide +kernel) hc0 rfl h3 (fun v7 c hc1 h4 => ?_); clear h3 hc0
    refine kJ6_bitCount_0f7a4 (X := 0) (Y := 0) (X' := 0) (Y' := 0) (pc' := 52) (by decide +kernel) hc1 rfl h4 (fun v8 c hc2 h5 => ?_); clear h4 hc1
    refine s_a (ins := .iadd) (pc' := 53) (by decide +kernel) rfl ?_
    refine s_is (i := 1) (pc' := 54) (L' := [some (.ref l0), some (.int (l1 + v8)), some (.int l2), some (.ref l3)]) (by decide +kernel) rfl rfl ?_
    exact (vX2_total_b54 hF hk4) hc2 h5
set_option maxRecDepth 100000 in
set_option maxHeartbeats 4000000 in
def fX2_total_b4 (fu : Nat) (sh : HS) (I : HI) (R : HR) (k4 : Nat → Int32 → Int32 → Option Int32) (l0 : Nat) (l1 : Int32) (l2 : Int32) : Option Int32 :=
  (oI sh I l0 0 4).bind fun v1 =>
  if v1 ≤ l2 then
    (some l1)
  else
    ((oR sh R l0 0 6).bind fun v2 =>
    (oB sh R v2 7 l2).bind fun v3 =>
    (fX9_blockerOf fu sh I R l0 v3).bind fun v4 =>
    if v4 = (-1) then
      ((fX2_total_b31 fu sh I R k4) l0 l1 l2 v3)
    else
      ((fX2_total_b31 fu sh I R k4) l0 (l1 + 1) l2 v3))
set_option maxRecDepth 100000 in
set_option maxHeartbeats 4000000 in
theorem vX2_total_b4 {K J : Nat → Nat} {fu : Nat} {sh : HS} {I : HI} {R : HR} {F : VF} {o : Int32} (hF : F (.inl (some (.int o))) sh I R) {k4 : Nat → Int32 → Int32 → Option Int32} (hk4 : ∀ {l0 : Nat} {l1 : Int32} {l2 : Int32} {d3 : Option Value} {c : Nat × Nat}, (c.1 ≤ 0 ∧ c.2 ≤ 0) → k4 l0 l1 l2 = some o → V K J 31 4 [some (.ref l0), some (.int l1), some (.int l2), d3] [] sh I R c F) {l0 : Nat} {l1 : Int32} {l2 : Int32} {d3 : Option Value} {c : Nat × Nat} (hc0 : c.1 ≤ 0 ∧ c.2 ≤ 0) (h0 : fX2_total_b4 fu sh I R k4 l0 l1 l2 = some o) : V K J 31 4 [some (.ref l0), some (.int l1), some (.int l2), d3] [] sh I R c F := by
  unfold fX2_total_b4 at h0
  refine s_il (i := 2) (pc' := 5) (by decide +kernel) rfl ?_
  refine s_rl (i := 0) (pc' := 6) (by decide +kernel) rfl ?_
  refine s_gI (t := 0) (j := 4) (ty := 0) (pc' := 9) (by decide +kernel) rfl h0 (fun v1 h1 => ?_); clear h0
  refine s_if (ins := .if_icmp .ge 51) (t := 60) (pc' := 12) (by decide +kernel) rfl rfl rfl h1 (fun p2 h2 => ?_) (fun p2 h2 => ?_) <;> clear h1
  · refine s_il (i := 1) (pc' := 61) (by decide +kernel) rfl ?_
    have e9 := Option.some.inj h2; subst e9
    exact s_ri (X := 0) (Y := 0) (by decide +kernel) hc0 hF
  · refine s_rl (i := 0) (pc' := 13) (by decide +kernel) rfl ?_
    refine s_gR (t := 0) (j := 6) (pc' := 16) (by decide +kernel) h2 (fun v2 h3 => ?_); clear h2
    refine s_il (i := 2) (pc' := 17) (by decide +kernel) rfl ?_
    refine s_aal (t := 7) (pc' := 18) (by decide +kernel) h3 (fun v3 h4 => ?_); clear h3
    refine s_rs (i := 3) (pc' := 19) (L' := [some (.ref l0), some (.int l1), some (.int l2), some (.ref v3)]) (by decide +kernel) rfl rfl ?_
    refine s_rl (i := 0) (pc' := 20) (by decide +kernel) rfl ?_
    refine s_rl (i := 3) (pc' := 21) (by decide +kernel) rfl ?_
    refine kX9_blockerOf (X := 0) (Y := 0) (X' := 0) (Y' := 0) (pc' := 24) (by decide +kernel) hc0 rfl h4 (fun v4 c hc1 h5 => ?_); clear h4 hc0
    refine s_c (v := (-1)) (pc' := 25) (by decide +kernel) ?_
    refine s_if (ins := .if_icmp .eq 6) (t := 31) (pc' := 28) (by decide +kernel) rfl rfl rfl h5 (fun p6 h6 => ?_) (fun p6 h6 => ?_) <;> clear h5
    · exact (vX2_total_b31 hF hk4) hc1 h6
    · refine s_inc (i := 1) (z := 1) (pc' := 31) (L' := [some (.ref l0), some (.int (l1 + 1)), some (.int l2), some (.ref v3)]) (by decide +kernel) rfl rfl rfl ?_
      exact (vX2_total_b31 hF hk4) hc1 h6
set_option maxRecDepth 100000 in
set_option maxHeartbeats 4000000 in
def fX2_total_l4 (fu : Nat) (sh : HS) (I : HI) (R : HR) : Nat → Nat → Int32 → Int32 → Option Int32
  | 0 => fun _ _ _ => none
  | n + 1 => fX2_total_b4 fu sh I R (fX2_total_l4 fu sh I R n)
set_option maxRecDepth 100000 in
set_option maxHeartbeats 4000000 in
theorem vX2_total_l4 {K J : Nat → Nat} {fu : Nat} {sh : HS} {I : HI} {R : HR} {F : VF} {o : Int32} (hF : F (.inl (some (.int o))) sh I R) : ∀ (n : Nat) {l0 : Nat} {l1 : Int32} {l2 : Int32} {d3 : Option Value} {c : Nat × Nat} (_ : c.1 ≤ 0 ∧ c.2 ≤ 0) (_ : fX2_total_l4 fu sh I R n l0 l1 l2 = some o), V K J 31 4 [some (.ref l0), some (.int l1), some (.int l2), d3] [] sh I R c F := by
  intro n
  induction n with
  | zero => exact fun _ h0 => nomatch h0
  | succ n ih => exact fun hc0 h0 => vX2_total_b4 hF ih hc0 h0
set_option maxRecDepth 100000 in
set_option maxHeartbeats 4000000 in
def fX2_total (fu : Nat) (sh : HS) (I : HI) (R : HR) (l0 : Nat) : Option Int32 :=
  (fX2_total_l4 fu sh I R fu) l0 0 0
set_option maxRecDepth 100000 in
set_option maxHeartbeats 4000000 in
theorem vX2_total {K J : Nat → Nat} {fu : Nat} {sh : HS} {I : HI} {R : HR} {F : VF} {o : Int32} (hF : F (.inl (some (.int o))) sh I R) {l0 : Nat} (h0 : fX2_total fu sh I R l0 = some o) : V K J 31 0 (ent 4 [.ref l0]) [] sh I R (0, 0) F := by
  unfold fX2_total at h0
  have h1 := h0; clear h0
  have hc0 : ((0 : Nat), (0 : Nat)).1 ≤ 0 ∧ ((0 : Nat), (0 : Nat)).2 ≤ 0 := ⟨Nat.le_refl _, Nat.le_refl _⟩
  show V K J 31 0 [some (.ref l0), none, none, none] [] sh I R (0, 0) F
  refine s_c (v := 0) (pc' := 1) (by decide +kernel) ?_
  refine s_is (i := 1) (pc' := 2) (L' := [some (.ref l0), some (.int 0), none, none]) (by decide +kernel) rfl rfl ?_
  refine s_c (v := 0) (pc' := 3) (by decide +kernel) ?_
  refine s_is (i := 2) (pc' := 4) (L' := [some (.ref l0), some (.int 0), some (.int 0), none]) (by decide +kernel) rfl rfl ?_
  exact (vX2_total_l4 hF fu) hc0 h1
set_option maxRecDepth 100000 in
set_option maxHeartbeats 4000000 in
theorem kX2_total {K J : Nat → Nat} {fu : Nat} {sh : HS} {I : HI} {R : HR} {F : VF} {mi pc pc' X Y X' Y' : Nat} {L : VL} {rest : List Value} {c : Nat × Nat} {l0 : Nat} {ω : Type} {o : ω} {g : Int32 → Option ω} (hq : cQ mi pc 31 1 pc' X Y X' Y' = true) (hc : c.1 ≤ X ∧ c.2 ≤ Y) (hr : Nat.ble (catS rest) 8 = true) (h : (fX2_total fu sh I R l0).bind g = some o) (kk : ∀ v c', (c'.1 ≤ X' ∧ c'.2 ≤ Y') → g v = some o → V K J mi pc' L ((.int v) :: rest) sh I R c' F) : V K J mi pc L (.ref l0 :: rest) sh I R c F := by
  obtain ⟨r, h1, h2⟩ := bnd h
  have ml : mL 31 = 4 := by decide +kernel
  have mk : mK 31 = 0 := by decide +kernel
  refine s_call (as := [.ref l0]) (G := fun o' sh' I' R' => o' = .inl (some (.int r)) ∧ sh' = sh ∧ I' = I ∧ R' = R) hq hc rfl hr (by rw [ml]; rfl) (Or.inl rfl) (fun z => absurd (mk.symm.trans z) (by decide)) (fun z => absurd (mk.symm.trans z) (by decide)) (by rw [ml]; exact vX2_total (F := fun o' sh' I' R' => o' = .inl (some (.int r)) ∧ sh' = sh ∧ I' = I ∧ R' = R) ⟨rfl, rfl, rfl, rfl⟩ h1) ?_ ?_ ?_
  · rintro sh' I' R' c' hc' ⟨g1, rfl, rfl, rfl⟩
    cases g1
  · rintro v' sh' I' R' c' hc' ⟨g1, rfl, rfl, rfl⟩
    cases g1
    exact kk _ _ hc' h2
  · rintro E' sh' I' R' ⟨g1, rfl, rfl, rfl⟩
    cases g1
set_option maxRecDepth 100000 in
set_option maxHeartbeats 4000000 in
def fX2_kindsOf_b46 (fu : Nat) (sh : HS) (I : HI) (R : HR) (s0 : Int32) : Option Int32 :=
  some s0
set_option maxRecDepth 100000 in
set_option maxHeartbeats 4000000 in
theorem vX2_kindsOf_b46 {K J : Nat → Nat} {fu : Nat} {sh : HS} {I : HI} {R : HR} {F : VF} {o : Int32} (hF : F (.inl (some (.int o))) sh I R) {s0 : Int32} {d0 d1 d2 d3 : Option Value} {c : Nat × Nat} (hc0 : c.1 ≤ 0 ∧ c.2 ≤ 0) (h0 : fX2_kindsOf_b46 fu sh I R s0 = some o) : V K J 32 46 [d0, d1, d2, d3] [.int s0] sh I R c F := by
  unfold fX2_kindsOf_b46 at h0
  have e9 := Option.some.inj h0; subst e9
  exact s_ri (X := 0) (Y := 0) (by decide +kernel) hc0 hF
set_option maxRecDepth 100000 in
set_option maxHeartbeats 4000000 in
def fX2_kindsOf_b28 (fu : Nat) (sh : HS) (I : HI) (R : HR) (l0 : Nat) (l2 : Nat) (s0 : Int32) : Option Int32 :=
  (fX9_blockerOf fu sh I R l0 l2).bind fun v3 =>
  if v3 = (-1) then
    ((fX2_kindsOf_b46 fu sh I R) s0)
  else
    ((fX2_kindsOf_b46 fu sh I R) (s0 ||| 8))
set_option maxRecDepth 100000 in
set_option maxHeartbeats 4000000 in
theorem vX2_kindsOf_b28 {K J : Nat → Nat} {fu : Nat} {sh : HS} {I : HI} {R : HR} {F : VF} {o : Int32} (hF : F (.inl (some (.int o))) sh I R) {l0 : Nat} {l2 : Nat} {s0 : Int32} {d1 d3 : Option Value} {c : Nat × Nat} (hc0 : c.1 ≤ 0 ∧ c.2 ≤ 0) (h0 : fX2_kindsOf_b28 fu sh I R l0 l2 s0 = some o) : V K J 32 28 [some (.ref l0), d1, some (.ref l2), d3] [.int s0] sh I R c F := by
  unfold fX2_kindsOf_b28 at h0
  refine s_is (i := 3) (pc' := 29) (L' := [some (.ref l0), d1, some (.ref l2), some (.int s0)]) (by decide +kernel) rfl rfl ?_
  refine s_rl (i := 0) (pc' := 30) (by decide +kernel) rfl ?_
  refine s_rl (i := 2) (pc' := 31) (by decide +kernel) rfl ?_
  refine kX9_blockerOf (X := 0) (Y := 0) (X' := 0) (Y' := 0) (pc' := 34) (by decide +kernel) hc0 rfl h0 (fun v3 c hc1 h1 => ?_); clear h0 hc0
  refine s_c (v := (-1)) (pc' := 35) (by decide +kernel) ?_
  refine s_if (ins := .if_icmp .eq 10) (t := 45) (pc' := 38) (by decide +kernel) rfl rfl rfl h1 (fun p2 h2 => ?_) (fun p2 h2 => ?_) <;> clear h1
  · refine s_il (i := 3) (pc' := 46) (by decide +kernel) rfl ?_
    exact (vX2_kindsOf_b46 hF) hc1 h2
  · refine s_il (i := 3) (pc' := 39) (by decide +kernel) rfl ?_
    refine s_c (v := 8) (pc' := 41) (by decide +kernel) ?_
    refine s_a (ins := .ior) (pc' := 42) (by decide +kernel) rfl ?_
    refine s_go (t := 46) (by decide +kernel) ?_
    exact (vX2_kindsOf_b46 hF) hc1 h2
set_option maxRecDepth 100000 in
set_option maxHeartbeats 4000000 in
def fX2_kindsOf (fu : Nat) (sh : HS) (I : HI) (R : HR) (l0 : Nat) (l1 : Int32) : Option Int32 :=
  (oR sh R l0 0 6).bind fun v1 =>
  (oB sh R v1 7 l1).bind fun v2 =>
  if l1 ≤ 0 then
    ((fX2_kindsOf_b28 fu sh I R) l0 v2 0)
  else
    ((oR sh R l0 0 6).bind fun v4 =>
    (oB sh R v4 7 (l1 - 1)).bind fun v5 =>
    (fX2_kindsBetween fu sh I R l0 v5 v2).bind fun v6 =>
    (fX2_kindsOf_b28 fu sh I R) l0 v2 v6)
set_option maxRecDepth 100000 in
set_option maxHeartbeats 4000000 in
theorem vX2_kindsOf {K J : Nat → Nat} {fu : Nat} {sh : HS} {I : HI} {R : HR} {F : VF} {o : Int32} (hF : F (.inl (some (.int o))) sh I R) {l0 : Nat} {l1 : Int32} (h0 : fX2_kindsOf fu sh I R l0 l1 = some o) : V K J 32 0 (ent 4 [.ref l0, .int l1]) [] sh I R (0, 0) F := by
  unfold fX2_kindsOf at h0
  have h1 := h0; clear h0
  have hc0 : ((0 : Nat), (0 : Nat)).1 ≤ 0 ∧ ((0 : Nat), (0 : Nat)).2 ≤ 0 := ⟨Nat.le_refl _, Nat.le_refl _⟩
  show V K J 32 0 [some (.ref l0), some (.int l1), none, none] [] sh I R (0, 0) F
  refine s_rl (i := 0) (pc' := 1) (by decide +kernel) rfl ?_
  refine s_gR (t := 0) (j := 6) (pc' := 4) (by decide +kernel) h1 (fun v1 h2 => ?_); clear h1
  refine s_il (i := 1) (pc' := 5) (by decide +kernel) rfl ?_
  refine s_aal (t := 7) (pc' := 6) (by decide +kernel) h2 (fun v2 h3 => ?_); clear h2
  refine s_rs (i := 2) (pc' := 7) (L' := [some (.ref l0), some (.int l1), some (.ref v2), none]) (by decide +kernel) rfl rfl ?_
  refine s_il (i := 1) (pc' := 8) (by decide +kernel) rfl ?_
  refine s_if (ins := .ifCond .le 19) (t := 27) (pc' := 11) (by decide +kernel) rfl rfl rfl h3 (fun p4 h4 => ?_) (fun p4 h4 => ?_) <;> clear h3
  · refine s_c (v := 0) (pc' := 28) (by decide +kernel) ?_
    exact (vX2_kindsOf_b28 hF) hc0 h4
  · refine s_rl (i := 0) (pc' := 12) (by decide +kernel) rfl ?_
    refine s_rl (i := 0) (pc' := 13) (by decide +kernel) rfl ?_
    refine s_gR (t := 0) (j := 6) (pc' := 16) (by decide +kernel) h4 (fun v4 h5 => ?_); clear h4
    refine s_il (i := 1) (pc' := 17) (by decide +kernel) rfl ?_
    refine s_c (v := 1) (pc' := 18) (by decide +kernel) ?_
    refine s_a (ins := .isub) (pc' := 19) (by decide +kernel) rfl ?_
    refine s_aal (t := 7) (pc' := 20) (by decide +kernel) h5 (fun v5 h6 => ?_); clear h5
    refine s_rl (i := 2) (pc' := 21) (by decide +kernel) rfl ?_
    refine kX2_kindsBetween (X := 0) (Y := 0) (X' := 0) (Y' := 0) (pc' := 24) (by decide +kernel) hc0 rfl h6 (fun v6 c hc1 h7 => ?_); clear h6 hc0
    refine s_go (t := 28) (by decide +kernel) ?_
    exact (vX2_kindsOf_b28 hF) hc1 h7
set_option maxRecDepth 100000 in
set_option maxHeartbeats 4000000 in
theorem kX2_kindsOf {K J : Nat → Nat} {fu : Nat} {sh : HS} {I : HI} {R : HR} {F : VF} {mi pc pc' X Y X' Y' : Nat} {L : VL} {rest : List Value} {c : Nat × Nat} {l0 : Nat} {l1 : Int32} {ω : Type} {o : ω} {g : Int32 → Option ω} (hq : cQ mi pc 32 2 pc' X Y X' Y' = true) (hc : c.1 ≤ X ∧ c.2 ≤ Y) (hr : Nat.ble (catS rest) 8 = true) (h : (fX2_kindsOf fu sh I R l0 l1).bind g = some o) (kk : ∀ v c', (c'.1 ≤ X' ∧ c'.2 ≤ Y') → g v = some o → V K J mi pc' L ((.int v) :: rest) sh I R c' F) : V K J mi pc L (.int l1 :: .ref l0 :: rest) sh I R c F := by
  obtain ⟨r, h1, h2⟩ := bnd h
  have ml : mL 32 = 4 := by decide +kernel
  have mk : mK 32 = 0 := by decide +kernel
  refine s_call (as := [.int l1, .ref l0]) (G := fun o' sh' I' R' => o' = .inl (some (.int r)) ∧ sh' = sh ∧ I' = I ∧ R' = R) hq hc rfl hr (by rw [ml]; rfl) (Or.inl rfl) (fun z => absurd (mk.symm.trans z) (by decide)) (fun z => absurd (mk.symm.trans z) (by decide)) (by rw [ml]; exact vX2_kindsOf (F := fun o' sh' I' R' => o' = .inl (some (.int r)) ∧ sh' = sh ∧ I' = I ∧ R' = R) ⟨rfl, rfl, rfl, rfl⟩ h1) ?_ ?_ ?_
  · rintro sh' I' R' c' hc' ⟨g1, rfl, rfl, rfl⟩
    cases g1
  · rintro v' sh' I' R' c' hc' ⟨g1, rfl, rfl, rfl⟩
    cases g1
    exact kk _ _ hc' h2
  · rintro E' sh' I' R' ⟨g1, rfl, rfl, rfl⟩
    cases g1
set_option maxRecDepth 100000 in
set_option maxHeartbeats 4000000 in
def fX2_causeOf_b21 (fu : Nat) (sh : HS) (I : HI) (R : HR) (s0 : Int32) : Option Int32 :=
  some s0
set_option maxRecDepth 100000 in
set_option maxHeartbeats 4000000 in
theorem vX2_causeOf_b21 {K J : Nat → Nat} {fu : Nat} {sh : HS} {I : HI} {R : HR} {F : VF} {o : Int32} (hF : F (.inl (some (.int o))) sh I R) {s0 : Int32} {d0 d1 d2 : Option Value} {c : Nat × Nat} (hc0 : c.1 ≤ 0 ∧ c.2 ≤ 0) (h0 : fX2_causeOf_b21 fu sh I R s0 = some o) : V K J 33 21 [d0, d1, d2] [.int s0] sh I R c F := by
  unfold fX2_causeOf_b21 at h0
  have e9 := Option.some.inj h0; subst e9
  exact s_ri (X := 0) (Y := 0) (by decide +kernel) hc0 hF
set_option maxRecDepth 100000 in
set_option maxHeartbeats 4000000 in
def fX2_causeOf (fu : Nat) (sh : HS) (I : HI) (R : HR) (l0 : Nat) (l1 : Int32) (l2 : Int32) : Option Int32 :=
  if l2 = 3 then
    ((oR sh R l0 0 6).bind fun v1 =>
    (oB sh R v1 7 l1).bind fun v2 =>
    (fX9_blockerOf fu sh I R l0 v2).bind fun v3 =>
    (fX2_causeOf_b21 fu sh I R) v3)
  else
    ((fX2_causeOf_b21 fu sh I R) (l1 - 1))
set_option maxRecDepth 100000 in
set_option maxHeartbeats 4000000 in
theorem vX2_causeOf {K J : Nat → Nat} {fu : Nat} {sh : HS} {I : HI} {R : HR} {F : VF} {o : Int32} (hF : F (.inl (some (.int o))) sh I R) {l0 : Nat} {l1 : Int32} {l2 : Int32} (h0 : fX2_causeOf fu sh I R l0 l1 l2 = some o) : V K J 33 0 (ent 3 [.ref l0, .int l1, .int l2]) [] sh I R (0, 0) F := by
  unfold fX2_causeOf at h0
  have h1 := h0; clear h0
  have hc0 : ((0 : Nat), (0 : Nat)).1 ≤ 0 ∧ ((0 : Nat), (0 : Nat)).2 ≤ 0 := ⟨Nat.le_refl _, Nat.le_refl _⟩
  show V K J 33 0 [some (.ref l0), some (.int l1), some (.int l2)] [] sh I R (0, 0) F
  refine s_il (i := 2) (pc' := 1) (by decide +kernel) rfl ?_
  refine s_c (v := 3) (pc' := 2) (by decide +kernel) ?_
  refine s_ifn (ins := .if_icmp .ne 16) (t := 18) (pc' := 5) (by decide +kernel) rfl rfl rfl h1 (fun p2 h2 => ?_) (fun p2 h2 => ?_) <;> clear h1
  · refine s_il (i := 1) (pc' := 19) (by decide +kernel) rfl ?_
    refine s_c (v := 1) (pc' := 20) (by decide +kernel) ?_
    refine s_a (ins := .isub) (pc' := 21) (by decide +kernel) rfl ?_
    exact (vX2_causeOf_b21 hF) hc0 h2
  · refine s_rl (i := 0) (pc' := 6) (by decide +kernel) rfl ?_
    refine s_rl (i := 0) (pc' := 7) (by decide +kernel) rfl ?_
    refine s_gR (t := 0) (j := 6) (pc' := 10) (by decide +kernel) h2 (fun v1 h3 => ?_); clear h2
    refine s_il (i := 1) (pc' := 11) (by decide +kernel) rfl ?_
    refine s_aal (t := 7) (pc' := 12) (by decide +kernel) h3 (fun v2 h4 => ?_); clear h3
    refine kX9_blockerOf (X := 0) (Y := 0) (X' := 0) (Y' := 0) (pc' := 15) (by decide +kernel) hc0 rfl h4 (fun v3 c hc1 h5 => ?_); clear h4 hc0
    refine s_go (t := 21) (by decide +kernel) ?_
    exact (vX2_causeOf_b21 hF) hc1 h5
set_option maxRecDepth 100000 in
set_option maxHeartbeats 4000000 in
theorem kX2_causeOf {K J : Nat → Nat} {fu : Nat} {sh : HS} {I : HI} {R : HR} {F : VF} {mi pc pc' X Y X' Y' : Nat} {L : VL} {rest : List Value} {c : Nat × Nat} {l0 : Nat} {l1 : Int32} {l2 : Int32} {ω : Type} {o : ω} {g : Int32 → Option ω} (hq : cQ mi pc 33 3 pc' X Y X' Y' = true) (hc : c.1 ≤ X ∧ c.2 ≤ Y) (hr : Nat.ble (catS rest) 8 = true) (h : (fX2_causeOf fu sh I R l0 l1 l2).bind g = some o) (kk : ∀ v c', (c'.1 ≤ X' ∧ c'.2 ≤ Y') → g v = some o → V K J mi pc' L ((.int v) :: rest) sh I R c' F) : V K J mi pc L (.int l2 :: .int l1 :: .ref l0 :: rest) sh I R c F := by
  obtain ⟨r, h1, h2⟩ := bnd h
  have ml : mL 33 = 3 := by decide +kernel
  have mk : mK 33 = 0 := by decide +kernel
  refine s_call (as := [.int l2, .int l1, .ref l0]) (G := fun o' sh' I' R' => o' = .inl (some (.int r)) ∧ sh' = sh ∧ I' = I ∧ R' = R) hq hc rfl hr (by rw [ml]; rfl) (Or.inl rfl) (fun z => absurd (mk.symm.trans z) (by decide)) (fun z => absurd (mk.symm.trans z) (by decide)) (by rw [ml]; exact vX2_causeOf (F := fun o' sh' I' R' => o' = .inl (some (.int r)) ∧ sh' = sh ∧ I' = I ∧ R' = R) ⟨rfl, rfl, rfl, rfl⟩ h1) ?_ ?_ ?_
  · rintro sh' I' R' c' hc' ⟨g1, rfl, rfl, rfl⟩
    cases g1
  · rintro v' sh' I' R' c' hc' ⟨g1, rfl, rfl, rfl⟩
    cases g1
    exact kk _ _ hc' h2
  · rintro E' sh' I' R' ⟨g1, rfl, rfl, rfl⟩
    cases g1
set_option maxRecDepth 100000 in
set_option maxHeartbeats 4000000 in
def fX3_forgetAll (fu : Nat) (sh : HS) (I : HI) (R : HR) (l0 : Nat) : Option HI :=
  if isT sh l0 2 = true then
    ((oP sh I l0 2 2 0).bind fun v1 =>
    some v1)
  else none
set_option maxRecDepth 100000 in
set_option maxHeartbeats 4000000 in
theorem vX3_forgetAll {K J : Nat → Nat} {fu : Nat} {sh : HS} {I : HI} {R : HR} {F : VF} {o : HI} (hF : F (.inl none) sh o R) {l0 : Nat} (h0 : fX3_forgetAll fu sh I R l0 = some o) : V K J 38 0 (ent 1 [.ref l0]) [] sh I R (0, 0) F := by
  unfold fX3_forgetAll at h0
  obtain ⟨-, h1⟩ := gd h0; clear h0
  have hc0 : ((0 : Nat), (0 : Nat)).1 ≤ 0 ∧ ((0 : Nat), (0 : Nat)).2 ≤ 0 := ⟨Nat.le_refl _, Nat.le_refl _⟩
  show V K J 38 0 [some (.ref l0)] [] sh I R (0, 0) F
  refine s_rl (i := 0) (pc' := 1) (by decide +kernel) rfl ?_
  refine s_c (v := 0) (pc' := 2) (by decide +kernel) ?_
  refine s_pI (t := 2) (j := 2) (ty := 0) (pc' := 5) (by decide +kernel) (Or.inl rfl) h1 (fun v1 h2 => ?_); clear h1
  have e9 := Option.some.inj h2; subst e9
  exact s_rv (X := 0) (Y := 0) (by decide +kernel) hc0 hF
set_option maxRecDepth 100000 in
set_option maxHeartbeats 4000000 in
theorem kX3_forgetAll {K J : Nat → Nat} {fu : Nat} {sh : HS} {I : HI} {R : HR} {F : VF} {mi pc pc' X Y X' Y' : Nat} {L : VL} {rest : List Value} {c : Nat × Nat} {l0 : Nat} {ω : Type} {o : ω} {g : HI → Option ω} (hq : cQ mi pc 38 1 pc' X Y X' Y' = true) (hc : c.1 ≤ X ∧ c.2 ≤ Y) (hr : Nat.ble (catS rest) 8 = true) (h : (fX3_forgetAll fu sh I R l0).bind g = some o) (kk : ∀ w c', (c'.1 ≤ X' ∧ c'.2 ≤ Y') → g w = some o → V K J mi pc' L (rest) sh w R c' F) : V K J mi pc L (.ref l0 :: rest) sh I R c F := by
  obtain ⟨r, h1, h2⟩ := bnd h
  have hT : isT sh l0 2 = true := by unfold fX3_forgetAll at h1; exact (gd h1).1
  have ml : mL 38 = 1 := by decide +kernel
  have mk : mK 38 = 1 := by decide +kernel
  have mc : mC 38 = 2 := by decide +kernel
  refine s_call (as := [.ref l0]) (G := fun o' sh' I' R' => o' = .inl none ∧ sh' = sh ∧ I' = r ∧ R' = R) hq hc rfl hr (by rw [ml]; rfl) (Or.inl rfl) (fun _ => Or.inl (Or.inl ⟨by rw [mc]; decide, by rw [mc]; exact isT_iff.mp hT⟩)) (fun z => absurd (mk.symm.trans z) (by decide)) (by rw [ml]; exact vX3_forgetAll (F := fun o' sh' I' R' => o' = .inl none ∧ sh' = sh ∧ I' = r ∧ R' = R) ⟨rfl, rfl, rfl, rfl⟩ h1) ?_ ?_ ?_
  · rintro sh' I' R' c' hc' ⟨g1, rfl, rfl, rfl⟩
    cases g1
    exact kk _ _ hc' h2
  · rintro v' sh' I' R' c' hc' ⟨g1, rfl, rfl, rfl⟩
    cases g1
  · rintro E' sh' I' R' ⟨g1, rfl, rfl, rfl⟩
    cases g1
set_option maxRecDepth 100000 in
set_option maxHeartbeats 4000000 in
def fX3_remember (fu : Nat) (sh : HS) (I : HI) (R : HR) (l0 : Nat) (l1 : Nat) : Option HI :=
  if isT sh l0 2 = true then
    ((oR sh R l0 2 0).bind fun v1 =>
    (oI sh I l0 2 1).bind fun v2 =>
    (oB sh R v1 0 v2).bind fun v3 =>
    (fX0_copyFrom fu sh I R v3 l1).bind fun w4 =>
    (oI sh w4 l0 2 1).bind fun v5 =>
    (oM (v5 + 1) 10).bind fun v6 =>
    (oP sh w4 l0 2 1 v6).bind fun v7 =>
    (oI sh v7 l0 2 2).bind fun v8 =>
    (oP sh v7 l0 2 2 (iMin (v8 + 1) 10)).bind fun v9 =>
    some v9)
  else none
set_option maxRecDepth 100000 in
set_option maxHeartbeats 4000000 in
theorem vX3_remember {K J : Nat → Nat} {fu : Nat} {sh : HS} {I : HI} {R : HR} {F : VF} {o : HI} (hF : F (.inl none) sh o R) {l0 : Nat} {l1 : Nat} (h0 : fX3_remember fu sh I R l0 l1 = some o) : V K J 39 0 (ent 2 [.ref l0, .ref l1]) [] sh I R (0, 0) F := by
  unfold fX3_remember at h0
  obtain ⟨-, h1⟩ := gd h0; clear h0
  have hc0 : ((0 : Nat), (0 : Nat)).1 ≤ 0 ∧ ((0 : Nat), (0 : Nat)).2 ≤ 0 := ⟨Nat.le_refl _, Nat.le_refl _⟩
  show V K J 39 0 [some (.ref l0), some (.ref l1)] [] sh I R (0, 0) F
  refine s_rl (i := 0) (pc' := 1) (by decide +kernel) rfl ?_
  refine s_gR (t := 2) (j := 0) (pc' := 4) (by decide +kernel) h1 (fun v1 h2 => ?_); clear h1
  refine s_rl (i := 0) (pc' := 5) (by decide +kernel) rfl ?_
  refine s_gI (t := 2) (j := 1) (ty := 0) (pc' := 8) (by decide +kernel) rfl h2 (fun v2 h3 => ?_); clear h2
  refine s_aal (t := 0) (pc' := 9) (by decide +kernel) h3 (fun v3 h4 => ?_); clear h3
  refine s_rl (i := 1) (pc' := 10) (by decide +kernel) rfl ?_
  refine kX0_copyFrom (X := 0) (Y := 0) (X' := 0) (Y' := 0) (pc' := 13) (by decide +kernel) hc0 rfl h4 (fun w4 c hc1 h5 => ?_); clear h4 hc0
  refine s_rl (i := 0) (pc' := 14) (by decide +kernel) rfl ?_
  refine s_rl (i := 0) (pc' := 15) (by decide +kernel) rfl ?_
  refine s_gI (t := 2) (j := 1) (ty := 0) (pc' := 18) (by decide +kernel) rfl h5 (fun v5 h6 => ?_); clear h5
  refine s_c (v := 1) (pc' := 19) (by decide +kernel) ?_
  refine s_a (ins := .iadd) (pc' := 20) (by decide +kernel) rfl ?_
  refine s_c (v := 10) (pc' := 22) (by decide +kernel) ?_
  refine s_rm (pc' := 23) (by decide +kernel) h6 (fun v6 h7 => ?_); clear h6
  refine s_pI (t := 2) (j := 1) (ty := 0) (pc' := 26) (by decide +kernel) (Or.inl rfl) h7 (fun v7 h8 => ?_); clear h7
  refine s_rl (i := 0) (pc' := 27) (by decide +kernel) rfl ?_
  refine s_rl (i := 0) (pc' := 28) (by decide +kernel) rfl ?_
  refine s_gI (t := 2) (j := 2) (ty := 0) (pc' := 31) (by decide +kernel) rfl h8 (fun v8 h9 => ?_); clear h8
  refine s_c (v := 1) (pc' := 32) (by decide +kernel) ?_
  refine s_a (ins := .iadd) (pc' := 33) (by decide +kernel) rfl ?_
  refine s_c (v := 10) (pc' := 35) (by decide +kernel) ?_
  refine s_min (X := 0) (Y := 0) (pc' := 38) (by decide +kernel) hc1 rfl ?_
  refine s_pI (t := 2) (j := 2) (ty := 0) (pc' := 41) (by decide +kernel) (Or.inl rfl) h9 (fun v9 h10 => ?_); clear h9
  have e9 := Option.some.inj h10; subst e9
  exact s_rv (X := 0) (Y := 0) (by decide +kernel) hc1 hF
set_option maxRecDepth 100000 in
set_option maxHeartbeats 4000000 in
theorem kX3_remember {K J : Nat → Nat} {fu : Nat} {sh : HS} {I : HI} {R : HR} {F : VF} {mi pc pc' X Y X' Y' : Nat} {L : VL} {rest : List Value} {c : Nat × Nat} {l0 : Nat} {l1 : Nat} {ω : Type} {o : ω} {g : HI → Option ω} (hq : cQ mi pc 39 2 pc' X Y X' Y' = true) (hc : c.1 ≤ X ∧ c.2 ≤ Y) (hr : Nat.ble (catS rest) 8 = true) (h : (fX3_remember fu sh I R l0 l1).bind g = some o) (kk : ∀ w c', (c'.1 ≤ X' ∧ c'.2 ≤ Y') → g w = some o → V K J mi pc' L (rest) sh w R c' F) : V K J mi pc L (.ref l1 :: .ref l0 :: rest) sh I R c F := by
  obtain ⟨r, h1, h2⟩ := bnd h
  have hT : isT sh l0 2 = true := by unfold fX3_remember at h1; exact (gd h1).1
  have ml : mL 39 = 2 := by decide +kernel
  have mk : mK 39 = 1 := by decide +kernel
  have mc : mC 39 = 2 := by decide +kernel
  refine s_call (as := [.ref l1, .ref l0]) (G := fun o' sh' I' R' => o' = .inl none ∧ sh' = sh ∧ I' = r ∧ R' = R) hq hc rfl hr (by rw [ml]; rfl) (Or.inl rfl) (fun _ => Or.inl (Or.inl ⟨by rw [mc]; decide, by rw [mc]; exact isT_iff.mp hT⟩)) (fun z => absurd (mk.symm.trans z) (by decide)) (by rw [ml]; exact vX3_remember (F := fun o' sh' I' R' => o' = .inl none ∧ sh' = sh ∧ I' = r ∧ R' = R) ⟨rfl, rfl, rfl, rfl⟩ h1) ?_ ?_ ?_
  · rintro sh' I' R' c' hc' ⟨g1, rfl, rfl, rfl⟩
    cases g1
    exact kk _ _ hc' h2
  · rintro v' sh' I' R' c' hc' ⟨g1, rfl, rfl, rfl⟩
    cases g1
  · rintro E' sh' I' R' ⟨g1, rfl, rfl, rfl⟩
    cases g1
set_option maxRecDepth 100000 in
set_option maxHeartbeats 4000000 in
def fX7_group_b27 (fu : Nat) (sh : HS) (R : HR) (k27 : HI → Nat → Int32 → Nat → Nat → Int32 → Int32 → Nat → Int32 → Option (Int32 × HI)) (k59 : HI → Nat → Int32 → Nat → Nat → Int32 → Int32 → Int32 → Option (Int32 × HI)) (I : HI) (l0 : Nat) (l1 : Int32) (l2 : Nat) (l3 : Nat) (l4 : Int32) (l5 : Int32) (l6 : Nat) (l7 : Int32) : Option (Int32 × HI) :=
  if l4 ≤ l7 then
    (k59 I l0 l1 l2 l3 l4 l5 l7)
  else
    ((oR sh R l0 0 6).bind fun v4 =>
    (oA sh I l3 l7).bind fun v5 =>
    (oB sh R v4 7 v5).bind fun v6 =>
    (fX9_areNear fu sh I R l0 l6 v6 l1).bind fun v7 =>
    if v7 = 0 then
      (k27 I l0 l1 l2 l3 l4 l5 l6 (l7 + 1))
    else
      (k59 I l0 l1 l2 l3 l4 l5 l7))
set_option maxRecDepth 100000 in
set_option maxHeartbeats 4000000 in
theorem vX7_group_b27 {K J : Nat → Nat} {fu : Nat} {sh : HS} {R : HR} {F : VF} {o : (Int32 × HI)} (hF : F (.inl (some (.int o.1))) sh o.2 R) {k27 : HI → Nat → Int32 → Nat → Nat → Int32 → Int32 → Nat → Int32 → Option (Int32 × HI)} {k59 : HI → Nat → Int32 → Nat → Nat → Int32 → Int32 → Int32 → Option (Int32 × HI)} (hk27 : ∀ {I : HI} {l0 : Nat} {l1 : Int32} {l2 : Nat} {l3 : Nat} {l4 : Int32} {l5 : Int32} {l6 : Nat} {l7 : Int32}  {c : Nat × Nat}, (c.1 ≤ 0 ∧ c.2 ≤ 0) → k27 I l0 l1 l2 l3 l4 l5 l6 l7 = some o → V K J 48 27 [some (.ref l0), some (.int l1), some (.ref l2), some (.ref l3), some (.int l4), some (.int l5), some (.ref l6), some (.int l7)] [] sh I R c F) (hk59 : ∀ {I : HI} {l0 : Nat} {l1 : Int32} {l2 : Nat} {l3 : Nat} {l4 : Int32} {l5 : Int32} {l7 : Int32} {d6 : Option Value} {c : Nat × Nat}, (c.1 ≤ 0 ∧ c.2 ≤ 0) → k59 I l0 l1 l2 l3 l4 l5 l7 = some o → V K J 48 59 [some (.ref l0), some (.int l1), some (.ref l2), some (.ref l3), some (.int l4), some (.int l5), d6, some (.int l7)] [] sh I R c F) {I : HI} {l0 : Nat} {l1 : Int32} {l2 : Nat} {l3 : Nat} {l4 : Int32} {l5 : Int32} {l6 : Nat} {l7 : Int32} {c : Nat × Nat} (hc0 : c.1 ≤ 0 ∧ c.2 ≤ 0) (h0 : fX7_group_b27 fu sh R k27 k59 I l0 l1 l2 l3 l4 l5 l6 l7 = some o) : V K J 48 27 [some (.ref l0), some (.int l1), some (.ref l2), some (.ref l3), some (.int l4), some (.int l5), some (.ref l6), some (.int l7)] [] sh I R c F := by
  unfold fX7_group_b27 at h0
  refine s_il (i := 7) (pc' := 29) (by decide +kernel) rfl ?_
  refine s_il (i := 4) (pc' := 31) (by decide +kernel) rfl ?_
  refine s_if (ins := .if_icmp .ge 28) (t := 59) (pc' := 34) (by decide +kernel) rfl rfl rfl h0 (fun p1 h1 => ?_) (fun p1 h1 => ?_) <;> clear h0
  · exact hk59 hc0 h1
  · refine s_rl (i := 0) (pc' := 35) (by decide +kernel) rfl ?_
    refine s_rl (i := 6) (pc' := 37) (by decide +kernel) rfl ?_
    refine s_rl (i := 0) (pc' := 38) (by decide +kernel) rfl ?_
    refine s_gR (t := 0) (j := 6) (pc' := 41) (by decide +kernel) h1 (fun v4 h2 => ?_); clear h1
    refine s_rl (i := 3) (pc' := 42) (by decide +kernel) rfl ?_
    refine s_il (i := 7) (pc' := 44) (by decide +kernel) rfl ?_
    refine s_al (pc' := 45) (by decide +kernel) h2 (fun v5 h3 => ?_); clear h2
    refine s_aal (t := 7) (pc' := 46) (by decide +kernel) h3 (fun v6 h4 => ?_); clear h3
    refine s_il (i := 1) (pc' := 47) (by decide +kernel) rfl ?_
    refine kX9_areNear (X := 0) (Y := 0) (X' := 0) (Y' := 0) (pc' := 50) (by decide +kernel) hc0 rfl h4 (fun v7 c hc1 h5 => ?_); clear h4 hc0
    refine s_ifn (ins := .ifCond .ne 9) (t := 59) (pc' := 53) (by decide +kernel) rfl rfl rfl h5 (fun p6 h6 => ?_) (fun p6 h6 => ?_) <;> clear h5
    · exact hk59 hc1 h6
    · refine s_inc (i := 7) (z := 1) (pc' := 56) (L' := [some (.ref l0), some (.int l1), some (.ref l2), some (.ref l3), some (.int l4), some (.int l5), some (.ref l6), some (.int (l7 + 1))]) (by decide +kernel) rfl rfl rfl ?_
      refine s_go (t := 27) (by decide +kernel) ?_
      exact hk27 hc1 h6
set_option maxRecDepth 100000 in
set_option maxHeartbeats 4000000 in
def fX7_group_l27 (fu : Nat) (sh : HS) (R : HR) (k59 : HI → Nat → Int32 → Nat → Nat → Int32 → Int32 → Int32 → Option (Int32 × HI)) : Nat → HI → Nat → Int32 → Nat → Nat → Int32 → Int32 → Nat → Int32 → Option (Int32 × HI)
  | 0 => fun _ _ _ _ _ _ _ _ _ => none
  | n + 1 => fX7_group_b27 fu sh R (fX7_group_l27 fu sh R k59 n) k59
set_option maxRecDepth 100000 in
set_option maxHeartbeats 4000000 in
theorem vX7_group_l27 {K J : Nat → Nat} {fu : Nat} {sh : HS} {R : HR} {F : VF} {o : (Int32 × HI)} (hF : F (.inl (some (.int o.1))) sh o.2 R) {k59 : HI → Nat → Int32 → Nat → Nat → Int32 → Int32 → Int32 → Option (Int32 × HI)} (hk59 : ∀ {I : HI} {l0 : Nat} {l1 : Int32} {l2 : Nat} {l3 : Nat} {l4 : Int32} {l5 : Int32} {l7 : Int32} {d6 : Option Value} {c : Nat × Nat}, (c.1 ≤ 0 ∧ c.2 ≤ 0) → k59 I l0 l1 l2 l3 l4 l5 l7 = some o → V K J 48 59 [some (.ref l0), some (.int l1), some (.ref l2), some (.ref l3), some (.int l4), some (.int l5), d6, some (.int l7)] [] sh I R c F) : ∀ (n : Nat) {I : HI} {l0 : Nat} {l1 : Int32} {l2 : Nat} {l3 : Nat} {l4 : Int32} {l5 : Int32} {l6 : Nat} {l7 : Int32} {c : Nat × Nat} (_ : c.1 ≤ 0 ∧ c.2 ≤ 0) (_ : fX7_group_l27 fu sh R k59 n I l0 l1 l2 l3 l4 l5 l6 l7 = some o), V K J 48 27 [some (.ref l0), some (.int l1), some (.ref l2), some (.ref l3), some (.int l4), some (.int l5), some (.ref l6), some (.int l7)] [] sh I R c F := by
  intro n
  induction n with
  | zero => exact fun _ h0 => nomatch h0
  | succ n ih => exact fun hc0 h0 => vX7_group_b27 hF ih hk59 hc0 h0
set_option maxRecDepth 100000 in
set_option maxHeartbeats 4000000 in
def fX7_group_b75 (fu : Nat) (sh : HS) (R : HR) (k6 : HI → Nat → Int32 → Nat → Nat → Int32 → Int32 → Option (Int32 × HI)) (I : HI) (l0 : Nat) (l1 : Int32) (l2 : Nat) (l3 : Nat) (l4 : Int32) (l5 : Int32) (l7 : Int32) : Option (Int32 × HI) :=
  (oS sh I l2 l5 l7).bind fun v8 =>
  k6 v8 l0 l1 l2 l3 l4 (l5 + 1)
set_option maxRecDepth 100000 in
set_option maxHeartbeats 4000000 in
theorem vX7_group_b75 {K J : Nat → Nat} {fu : Nat} {sh : HS} {R : HR} {F : VF} {o : (Int32 × HI)} (hF : F (.inl (some (.int o.1))) sh o.2 R) {k6 : HI → Nat → Int32 → Nat → Nat → Int32 → Int32 → Option (Int32 × HI)} (hk6 : ∀ {I : HI} {l0 : Nat} {l1 : Int32} {l2 : Nat} {l3 : Nat} {l4 : Int32} {l5 : Int32} {d6 d7 : Option Value} {c : Nat × Nat}, (c.1 ≤ 0 ∧ c.2 ≤ 0) → k6 I l0 l1 l2 l3 l4 l5 = some o → V K J 48 6 [some (.ref l0), some (.int l1), some (.ref l2), some (.ref l3), some (.int l4), some (.int l5), d6, d7] [] sh I R c F) {I : HI} {l0 : Nat} {l1 : Int32} {l2 : Nat} {l3 : Nat} {l4 : Int32} {l5 : Int32} {l7 : Int32} {d6 : Option Value} {c : Nat × Nat} (hc0 : c.1 ≤ 0 ∧ c.2 ≤ 0) (h0 : fX7_group_b75 fu sh R k6 I l0 l1 l2 l3 l4 l5 l7 = some o) : V K J 48 75 [some (.ref l0), some (.int l1), some (.ref l2), some (.ref l3), some (.int l4), some (.int l5), d6, some (.int l7)] [] sh I R c F := by
  unfold fX7_group_b75 at h0
  refine s_rl (i := 2) (pc' := 76) (by decide +kernel) rfl ?_
  refine s_il (i := 5) (pc' := 78) (by decide +kernel) rfl ?_
  refine s_il (i := 7) (pc' := 80) (by decide +kernel) rfl ?_
  refine s_as (pc' := 81) (by decide +kernel) h0 (fun v8 h1 => ?_); clear h0
  refine s_inc (i := 5) (z := 1) (pc' := 84) (L' := [some (.ref l0), some (.int l1), some (.ref l2), some (.ref l3), some (.int l4), some (.int (l5 + 1)), d6, some (.int l7)]) (by decide +kernel) rfl rfl rfl ?_
  refine s_go (t := 6) (by decide +kernel) ?_
  exact hk6 hc0 h1
set_option maxRecDepth 100000 in
set_option maxHeartbeats 4000000 in
def fX7_group_b59 (fu : Nat) (sh : HS) (R : HR) (k6 : HI → Nat → Int32 → Nat → Nat → Int32 → Int32 → Option (Int32 × HI)) (I : HI) (l0 : Nat) (l1 : Int32) (l2 : Nat) (l3 : Nat) (l4 : Int32) (l5 : Int32) (l7 : Int32) : Option (Int32 × HI) :=
  if l7 = l4 then
    ((oS sh I l3 l4 l5).bind fun v9 =>
    (fX7_group_b75 fu sh R k6) v9 l0 l1 l2 l3 (l4 + 1) l5 l7)
  else
    ((fX7_group_b75 fu sh R k6) I l0 l1 l2 l3 l4 l5 l7)
set_option maxRecDepth 100000 in
set_option maxHeartbeats 4000000 in
theorem vX7_group_b59 {K J : Nat → Nat} {fu : Nat} {sh : HS} {R : HR} {F : VF} {o : (Int32 × HI)} (hF : F (.inl (some (.int o.1))) sh o.2 R) {k6 : HI → Nat → Int32 → Nat → Nat → Int32 → Int32 → Option (Int32 × HI)} (hk6 : ∀ {I : HI} {l0 : Nat} {l1 : Int32} {l2 : Nat} {l3 : Nat} {l4 : Int32} {l5 : Int32} {d6 d7 : Option Value} {c : Nat × Nat}, (c.1 ≤ 0 ∧ c.2 ≤ 0) → k6 I l0 l1 l2 l3 l4 l5 = some o → V K J 48 6 [some (.ref l0), some (.int l1), some (.ref l2), some (.ref l3), some (.int l4), some (.int l5), d6, d7] [] sh I R c F) {I : HI} {l0 : Nat} {l1 : Int32} {l2 : Nat} {l3 : Nat} {l4 : Int32} {l5 : Int32} {l7 : Int32} {d6 : Option Value} {c : Nat × Nat} (hc0 : c.1 ≤ 0 ∧ c.2 ≤ 0) (h0 : fX7_group_b59 fu sh R k6 I l0 l1 l2 l3 l4 l5 l7 = some o) : V K J 48 59 [some (.ref l0), some (.int l1), some (.ref l2), some (.ref l3), some (.int l4), some (.int l5), d6, some (.int l7)] [] sh I R c F := by
  unfold fX7_group_b59 at h0
  refine s_il (i := 7) (pc' := 61) (by decide +kernel) rfl ?_
  refine s_il (i := 4) (pc' := 63) (by decide +kernel) rfl ?_
  refine s_ifn (ins := .if_icmp .ne 12) (t := 75) (pc' := 66) (by decide +kernel) rfl rfl rfl h0 (fun p1 h1 => ?_) (fun p1 h1 => ?_) <;> clear h0
  · exact (vX7_group_b75 hF hk6) hc0 h1
  · refine s_rl (i := 3) (pc' := 67) (by decide +kernel) rfl ?_
    refine s_il (i := 4) (pc' := 69) (by decide +kernel) rfl ?_
    refine s_il (i := 5) (pc' := 71) (by decide +kernel) rfl ?_
    refine s_as (pc' := 72) (by decide +kernel) h1 (fun v9 h2 => ?_); clear h1
    refine s_inc (i := 4) (z := 1) (pc' := 75) (L' := [some (.ref l0), some (.int l1), some (.ref l2), some (.ref l3), some (.int (l4 + 1)), some (.int l5), d6, some (.int l7)]) (by decide +kernel) rfl rfl rfl ?_
    exact (vX7_group_b75 hF hk6) hc0 h2
set_option maxRecDepth 100000 in
set_option maxHeartbeats 4000000 in
def fX7_group_b6 (fu : Nat) (sh : HS) (R : HR) (k6 : HI → Nat → Int32 → Nat → Nat → Int32 → Int32 → Option (Int32 × HI)) (I : HI) (l0 : Nat) (l1 : Int32) (l2 : Nat) (l3 : Nat) (l4 : Int32) (l5 : Int32) : Option (Int32 × HI) :=
  (oI sh I l0 0 4).bind fun v1 =>
  if v1 ≤ l5 then
    (some (l4, I))
  else
    ((oR sh R l0 0 6).bind fun v2 =>
    (oB sh R v2 7 l5).bind fun v3 =>
    (fX7_group_l27 fu sh R (fX7_group_b59 fu sh R k6) fu) I l0 l1 l2 l3 l4 l5 v3 0)
set_option maxRecDepth 100000 in
set_option maxHeartbeats 4000000 in
theorem vX7_group_b6 {K J : Nat → Nat} {fu : Nat} {sh : HS} {R : HR} {F : VF} {o : (Int32 × HI)} (hF : F (.inl (some (.int o.1))) sh o.2 R) {k6 : HI → Nat → Int32 → Nat → Nat → Int32 → Int32 → Option (Int32 × HI)} (hk6 : ∀ {I : HI} {l0 : Nat} {l1 : Int32} {l2 : Nat} {l3 : Nat} {l4 : Int32} {l5 : Int32} {d6 d7 : Option Value} {c : Nat × Nat}, (c.1 ≤ 0 ∧ c.2 ≤ 0) → k6 I l0 l1 l2 l3 l4 l5 = some o → V K J 48 6 [some (.ref l0), some (.int l1), some (.ref l2), some (.ref l3), some (.int l4), some (.int l5), d6, d7] [] sh I R c F) {I : HI} {l0 : Nat} {l1 : Int32} {l2 : Nat} {l3 : Nat} {l4 : Int32} {l5 : Int32} {d6 d7 : Option Value} {c : Nat × Nat} (hc0 : c.1 ≤ 0 ∧ c.2 ≤ 0) (h0 : fX7_group_b6 fu sh R k6 I l0 l1 l2 l3 l4 l5 = some o) : V K J 48 6 [some (.ref l0), some (.int l1), some (.ref l2), some (.ref l3), some (.int l4), some (.int l5), d6, d7] [] sh I R c F := by
  unfold fX7_group_b6 at h0
  refine s_il (i := 5) (pc' := 8) (by decide +kernel) rfl ?_
  refine s_rl (i := 0) (pc' := 9) (by decide +kernel) rfl ?_
  refine s_gI (t := 0) (j := 4) (ty := 0) (pc' := 12) (by decide +kernel) rfl h0 (fun v1 h1 => ?_); clear h0
  refine s_if (ins := .if_icmp .ge 75) (t := 87) (pc' := 15) (by decide +kernel) rfl rfl rfl h1 (fun p2 h2 => ?_) (fun p2 h2 => ?_) <;> clear h1
  · refine s_il (i := 4) (pc' := 89) (by decide +kernel) rfl ?_
    have e9 := Option.some.inj h2; subst e9
    exact s_ri (X := 0) (Y := 0) (by decide +kernel) hc0 hF
  · refine s_rl (i := 0) (pc' := 16) (by decide +kernel) rfl ?_
    refine s_gR (t := 0) (j := 6) (pc' := 19) (by decide +kernel) h2 (fun v2 h3 => ?_); clear h2
    refine s_il (i := 5) (pc' := 21) (by decide +kernel) rfl ?_
    refine s_aal (t := 7) (pc' := 22) (by decide +kernel) h3 (fun v3 h4 => ?_); clear h3
    refine s_rs (i := 6) (pc' := 24) (L' := [some (.ref l0), some (.int l1), some (.ref l2), some (.ref l3), some (.int l4), some (.int l5), some (.ref v3), d7]) (by decide +kernel) rfl rfl ?_
    refine s_c (v := 0) (pc' := 25) (by decide +kernel) ?_
    refine s_is (i := 7) (pc' := 27) (L' := [some (.ref l0), some (.int l1), some (.ref l2), some (.ref l3), some (.int l4), some (.int l5), some (.ref v3), some (.int 0)]) (by decide +kernel) rfl rfl ?_
    exact (vX7_group_l27 hF (vX7_group_b59 hF hk6) fu) hc0 h4
set_option maxRecDepth 100000 in
set_option maxHeartbeats 4000000 in
def fX7_group_l6 (fu : Nat) (sh : HS) (R : HR) : Nat → HI → Nat → Int32 → Nat → Nat → Int32 → Int32 → Option (Int32 × HI)
  | 0 => fun _ _ _ _ _ _ _ => none
  | n + 1 => fX7_group_b6 fu sh R (fX7_group_l6 fu sh R n)
set_option maxRecDepth 100000 in
set_option maxHeartbeats 4000000 in
theorem vX7_group_l6 {K J : Nat → Nat} {fu : Nat} {sh : HS} {R : HR} {F : VF} {o : (Int32 × HI)} (hF : F (.inl (some (.int o.1))) sh o.2 R) : ∀ (n : Nat) {I : HI} {l0 : Nat} {l1 : Int32} {l2 : Nat} {l3 : Nat} {l4 : Int32} {l5 : Int32} {d6 d7 : Option Value} {c : Nat × Nat} (_ : c.1 ≤ 0 ∧ c.2 ≤ 0) (_ : fX7_group_l6 fu sh R n I l0 l1 l2 l3 l4 l5 = some o), V K J 48 6 [some (.ref l0), some (.int l1), some (.ref l2), some (.ref l3), some (.int l4), some (.int l5), d6, d7] [] sh I R c F := by
  intro n
  induction n with
  | zero => exact fun _ h0 => nomatch h0
  | succ n ih => exact fun hc0 h0 => vX7_group_b6 hF ih hc0 h0
set_option maxRecDepth 100000 in
set_option maxHeartbeats 4000000 in
def fX7_group (fu : Nat) (sh : HS) (I : HI) (R : HR) (l0 : Nat) (l1 : Int32) (l2 : Nat) (l3 : Nat) : Option (Int32 × HI) :=
  (fX7_group_l6 fu sh R fu) I l0 l1 l2 l3 0 0
set_option maxRecDepth 100000 in
set_option maxHeartbeats 4000000 in
theorem vX7_group {K J : Nat → Nat} {fu : Nat} {sh : HS} {I : HI} {R : HR} {F : VF} {o : (Int32 × HI)} (hF : F (.inl (some (.int o.1))) sh o.2 R) {l0 : Nat} {l1 : Int32} {l2 : Nat} {l3 : Nat} (h0 : fX7_group fu sh I R l0 l1 l2 l3 = some o) : V K J 48 0 (ent 8 [.ref l0, .int l1, .ref l2, .ref l3]) [] sh I R (0, 0) F := by
  unfold fX7_group at h0
  have h1 := h0; clear h0
  have hc0 : ((0 : Nat), (0 : Nat)).1 ≤ 0 ∧ ((0 : Nat), (0 : Nat)).2 ≤ 0 := ⟨Nat.le_refl _, Nat.le_refl _⟩
  show V K J 48 0 [some (.ref l0), some (.int l1), some (.ref l2), some (.ref l3), none, none, none, none] [] sh I R (0, 0) F
  refine s_c (v := 0) (pc' := 1) (by decide +kernel) ?_
  refine s_is (i := 4) (pc' := 3) (L' := [some (.ref l0), some (.int l1), some (.ref l2), some (.ref l3), some (.int 0), none, none, none]) (by decide +kernel) rfl rfl ?_
  refine s_c (v := 0) (pc' := 4) (by decide +kernel) ?_
  refine s_is (i := 5) (pc' := 6) (L' := [some (.ref l0), some (.int l1), some (.ref l2), some (.ref l3), some (.int 0), some (.int 0), none, none]) (by decide +kernel) rfl rfl ?_
  exact (vX7_group_l6 hF fu) hc0 h1
set_option maxRecDepth 100000 in
set_option maxHeartbeats 4000000 in
theorem kX7_group {K J : Nat → Nat} {fu : Nat} {sh : HS} {I : HI} {R : HR} {F : VF} {mi pc pc' X Y X' Y' : Nat} {L : VL} {rest : List Value} {c : Nat × Nat} {l0 : Nat} {l1 : Int32} {l2 : Nat} {l3 : Nat} {ω : Type} {o : ω} {g : Int32 → HI → Option ω} (hq : cQ mi pc 48 4 pc' X Y X' Y' = true) (hc : c.1 ≤ X ∧ c.2 ≤ Y) (hr : Nat.ble (catS rest) 8 = true) (h : oH (fX7_group fu sh I R l0 l1 l2 l3) g = some o) (kk : ∀ v w c', (c'.1 ≤ X' ∧ c'.2 ≤ Y') → g v w = some o → V K J mi pc' L ((.int v) :: rest) sh w R c' F) : V K J mi pc L (.ref l3 :: .ref l2 :: .int l1 :: .ref l0 :: rest) sh I R c F := by
  obtain ⟨r, h1, h2⟩ := bnd h
  have ml : mL 48 = 8 := by decide +kernel
  have mk : mK 48 = 0 := by decide +kernel
  obtain ⟨v, w⟩ := r
  refine s_call (as := [.ref l3, .ref l2, .int l1, .ref l0]) (G := fun o' sh' I' R' => o' = .inl (some (.int v)) ∧ sh' = sh ∧ I' = w ∧ R' = R) hq hc rfl hr (by rw [ml]; rfl) (Or.inl rfl) (fun z => absurd (mk.symm.trans z) (by decide)) (fun z => absurd (mk.symm.trans z) (by decide)) (by rw [ml]; exact vX7_group (F := fun o' sh' I' R' => o' = .inl (some (.int v)) ∧ sh' = sh ∧ I' = w ∧ R' = R) ⟨rfl, rfl, rfl, rfl⟩ h1) ?_ ?_ ?_
  · rintro sh' I' R' c' hc' ⟨g1, rfl, rfl, rfl⟩
    cases g1
  · rintro v' sh' I' R' c' hc' ⟨g1, rfl, rfl, rfl⟩
    cases g1
    exact kk _ _ _ hc' h2
  · rintro E' sh' I' R' ⟨g1, rfl, rfl, rfl⟩
    cases g1
set_option maxRecDepth 100000 in
set_option maxHeartbeats 4000000 in
def fX9_seenBy_b109 (fu : Nat) (sh : HS) (I : HI) (R : HR) (k22 : Nat → Nat → Nat → Int32 → Int32 → Int32 → Option Int32) (l0 : Nat) (l1 : Nat) (l2 : Nat) (l3 : Int32) (l4 : Int32) (l5 : Int32) : Option Int32 :=
  k22 l0 l1 l2 l3 l4 (l5 + 1)
set_option maxRecDepth 100000 in
set_option maxHeartbeats 4000000 in
theorem vX9_seenBy_b109 {K J : Nat → Nat} {fu : Nat} {sh : HS} {I : HI} {R : HR} {F : VF} {o : Int32} (hF : F (.inl (some (.int o))) sh I R) {k22 : Nat → Nat → Nat → Int32 → Int32 → Int32 → Option Int32} (hk22 : ∀ {l0 : Nat} {l1 : Nat} {l2 : Nat} {l3 : Int32} {l4 : Int32} {l5 : Int32} {d6 : Option Value} {c : Nat × Nat}, (c.1 ≤ 0 ∧ c.2 ≤ 0) → k22 l0 l1 l2 l3 l4 l5 = some o → V K J 57 22 [some (.ref l0), some (.ref l1), some (.ref l2), some (.int l3), some (.int l4), some (.int l5), d6] [] sh I R c F) {l0 : Nat} {l1 : Nat} {l2 : Nat} {l3 : Int32} {l4 : Int32} {l5 : Int32} {d6 : Option Value} {c : Nat × Nat} (hc0 : c.1 ≤ 0 ∧ c.2 ≤ 0) (h0 : fX9_seenBy_b109 fu sh I R k22 l0 l1 l2 l3 l4 l5 = some o) : V K J 57 109 [some (.ref l0), some (.ref l1), some (.ref l2), some (.int l3), some (.int l4), some (.int l5), d6] [] sh I R c F := by
  unfold fX9_seenBy_b109 at h0
  refine s_inc (i := 5) (z := 1) (pc' := 112) (L' := [some (.ref l0), some (.ref l1), some (.ref l2), some (.int l3), some (.int l4), some (.int (l5 + 1)), d6]) (by decide +kernel) rfl rfl rfl ?_
  refine s_go (t := 22) (by decide +kernel) ?_
  exact hk22 hc0 h0
set_option maxRecDepth 100000 in
set_option maxHeartbeats 4000000 in
def fX9_seenBy_b22 (fu : Nat) (sh : HS) (I : HI) (R : HR) (k22 : Nat → Nat → Nat → Int32 → Int32 → Int32 → Option Int32) (l0 : Nat) (l1 : Nat) (l2 : Nat) (l3 : Int32) (l4 : Int32) (l5 : Int32) : Option Int32 :=
  if 6 ≤ l5 then
    (some l4)
  else
    ((fX6_hasActor fu sh I R l2 l5).bind fun v5 =>
    if v5 = 0 then
      ((fX9_seenBy_b109 fu sh I R k22) l0 l1 l2 l3 l4 l5)
    else
      ((oI sh I l1 7 1).bind fun v6 =>
      (oI sh I l1 7 2).bind fun v7 =>
      (fX6_isActorAt fu sh I R l2 l5 v6 v7).bind fun v8 =>
      if v8 = 0 then
        ((oR sh R l2 5 2).bind fun v9 =>
        (oA sh I v9 l5).bind fun v10 =>
        (oI sh I l1 7 1).bind fun v11 =>
        (oR sh R l2 5 3).bind fun v12 =>
        (oA sh I v12 l5).bind fun v13 =>
        (oI sh I l1 7 2).bind fun v14 =>
        (fX10_directionNumber fu sh I R (v10 - v11) (v13 - v14)).bind fun v15 =>
        (fX10_turnBetween fu sh I R l3 v15).bind fun v16 =>
        (oI sh I l0 0 2).bind fun v17 =>
        if v17 < v16 then
          ((fX9_seenBy_b109 fu sh I R k22) l0 l1 l2 l3 l4 l5)
        else
          ((fX9_seenBy_b109 fu sh I R k22) l0 l1 l2 l3 (l4 ||| (1 <<< (l5 &&& 31))) l5))
      else
        ((fX9_seenBy_b109 fu sh I R k22) l0 l1 l2 l3 l4 l5)))
set_option maxRecDepth 100000 in
set_option maxHeartbeats 4000000 in
theorem vX9_seenBy_b22 {K J : Nat → Nat} {fu : Nat} {sh : HS} {I : HI} {R : HR} {F : VF} {o : Int32} (hF : F (.inl (some (.int o))) sh I R) {k22 : Nat → Nat → Nat → Int32 → Int32 → Int32 → Option Int32} (hk22 : ∀ {l0 : Nat} {l1 : Nat} {l2 : Nat} {l3 : Int32} {l4 : Int32} {l5 : Int32} {d6 : Option Value} {c : Nat × Nat}, (c.1 ≤ 0 ∧ c.2 ≤ 0) → k22 l0 l1 l2 l3 l4 l5 = some o → V K J 57 22 [some (.ref l0), some (.ref l1), some (.ref l2), some (.int l3), some (.int l4), some (.int l5), d6] [] sh I R c F) {l0 : Nat} {l1 : Nat} {l2 : Nat} {l3 : Int32} {l4 : Int32} {l5 : Int32} {d6 : Option Value} {c : Nat × Nat} (hc0 : c.1 ≤ 0 ∧ c.2 ≤ 0) (h0 : fX9_seenBy_b22 fu sh I R k22 l0 l1 l2 l3 l4 l5 = some o) : V K J 57 22 [some (.ref l0), some (.ref l1), some (.ref l2), some (.int l3), some (.int l4), some (.int l5), d6] [] sh I R c F := by
  unfold fX9_seenBy_b22 at h0
  refine s_il (i := 5) (pc' := 24) (by decide +kernel) rfl ?_
  refine s_c (v := 6) (pc' := 26) (by decide +kernel) ?_
  refine s_if (ins := .if_icmp .ge 89) (t := 115) (pc' := 29) (by decide +kernel) rfl rfl rfl h0 (fun p1 h1 => ?_) (fun p1 h1 => ?_) <;> clear h0
  · refine s_il (i := 4) (pc' := 117) (by decide +kernel) rfl ?_
    have e9 := Option.some.inj h1; subst e9
    exact s_ri (X := 0) (Y := 0) (by decide +kernel) hc0 hF
  · refine s_rl (i := 2) (pc' := 30) (by decide +kernel) rfl ?_
    refine s_il (i := 5) (pc' := 32) (by decide +kernel) rfl ?_
    refine kX6_hasActor (X := 0) (Y := 0) (X' := 0) (Y' := 0) (pc' := 35) (by decide +kernel) hc0 rfl h1 (fun v5 c hc1 h2 => ?_); clear h1 hc0
    refine s_if (ins := .ifCond .eq 74) (t := 109) (pc' := 38) (by decide +kernel) rfl rfl rfl h2 (fun p3 h3 => ?_) (fun p3 h3 => ?_) <;> clear h2
    · exact (vX9_seenBy_b109 hF hk22) hc1 h3
    · refine s_rl (i := 2) (pc' := 39) (by decide +kernel) rfl ?_
      refine s_il (i := 5) (pc' := 41) (by decide +kernel) rfl ?_
      refine s_rl (i := 1) (pc' := 42) (by decide +kernel) rfl ?_
      refine s_gI (t := 7) (j := 1) (ty := 0) (pc' := 45) (by decide +kernel) rfl h3 (fun v6 h4 => ?_); clear h3
      refine s_rl (i := 1) (pc' := 46) (by decide +kernel) rfl ?_
      refine s_gI (t := 7) (j := 2) (ty := 0) (pc' := 49) (by decide +kernel) rfl h4 (fun v7 h5 => ?_); clear h4
      refine kX6_isActorAt (X := 0) (Y := 0) (X' := 0) (Y' := 0) (pc' := 52) (by decide +kernel) hc1 rfl h5 (fun v8 c hc2 h6 => ?_); clear h5 hc1
      refine s_if (ins := .ifCond .eq 6) (t := 58) (pc' := 55) (by decide +kernel) rfl rfl rfl h6 (fun p7 h7 => ?_) (fun p7 h7 => ?_) <;> clear h6
      · refine s_rl (i := 2) (pc' := 59) (by decide +kernel) rfl ?_
        refine s_gR (t := 5) (j := 2) (pc' := 62) (by decide +kernel) h7 (fun v9 h8 => ?_); clear h7
        refine s_il (i := 5) (pc' := 64) (by decide +kernel) rfl ?_
        refine s_al (pc' := 65) (by decide +kernel) h8 (fun v10 h9 => ?_); clear h8
        refine s_rl (i := 1) (pc' := 66) (by decide +kernel) rfl ?_
        refine s_gI (t := 7) (j := 1) (ty := 0) (pc' := 69) (by decide +kernel) rfl h9 (fun v11 h10 => ?_); clear h9
        refine s_a (ins := .isub) (pc' := 70) (by decide +kernel) rfl ?_
        refine s_rl (i := 2) (pc' := 71) (by decide +kernel) rfl ?_
        refine s_gR (t := 5) (j := 3) (pc' := 74) (by decide +kernel) h10 (fun v12 h11 => ?_); clear h10
        refine s_il (i := 5) (pc' := 76) (by decide +kernel) rfl ?_
        refine s_al (pc' := 77) (by decide +kernel) h11 (fun v13 h12 => ?_); clear h11
        refine s_rl (i := 1) (pc' := 78) (by decide +kernel) rfl ?_
        refine s_gI (t := 7) (j := 2) (ty := 0) (pc' := 81) (by decide +kernel) rfl h12 (fun v14 h13 => ?_); clear h12
        refine s_a (ins := .isub) (pc' := 82) (by decide +kernel) rfl ?_
        refine kX10_directionNumber (X := 0) (Y := 0) (X' := 0) (Y' := 0) (pc' := 85) (by decide +kernel) hc2 rfl h13 (fun v15 c hc3 h14 => ?_); clear h13 hc2
        refine s_is (i := 6) (pc' := 87) (L' := [some (.ref l0), some (.ref l1), some (.ref l2), some (.int l3), some (.int l4), some (.int l5), some (.int v15)]) (by decide +kernel) rfl rfl ?_
        refine s_il (i := 3) (pc' := 88) (by decide +kernel) rfl ?_
        refine s_il (i := 6) (pc' := 90) (by decide +kernel) rfl ?_
        refine kX10_turnBetween (X := 0) (Y := 0) (X' := 0) (Y' := 0) (pc' := 93) (by decide +kernel) hc3 rfl h14 (fun v16 c hc4 h15 => ?_); clear h14 hc3
        refine s_rl (i := 0) (pc' := 94) (by decide +kernel) rfl ?_
        refine s_gI (t := 0) (j := 2) (ty := 0) (pc' := 97) (by decide +kernel) rfl h15 (fun v17 h16 => ?_); clear h15
        refine s_if (ins := .if_icmp .gt 12) (t := 109) (pc' := 100) (by decide +kernel) rfl rfl rfl h16 (fun p17 h17 => ?_) (fun p17 h17 => ?_) <;> clear h16
        · exact (vX9_seenBy_b109 hF hk22) hc4 h17
        · refine s_il (i := 4) (pc' := 102) (by decide +kernel) rfl ?_
          refine s_c (v := 1) (pc' := 103) (by decide +kernel) ?_
          refine s_il (i := 5) (pc' := 105) (by decide +kernel) rfl ?_
          refine s_a (ins := .ishl) (pc' := 106) (by decide +kernel) rfl ?_
          refine s_a (ins := .ior) (pc' := 107) (by decide +kernel) rfl ?_
          refine s_is (i := 4) (pc' := 109) (L' := [some (.ref l0), some (.ref l1), some (.ref l2), some (.int l3), some (.int (l4 ||| (1 <<< (l5 &&& 31)))), some (.int l5), some (.int v15)]) (by decide +kernel) rfl rfl ?_
          exact (vX9_seenBy_b109 hF hk22) hc4 h17
      · refine s_go (t := 109) (by decide +kernel) ?_
        exact (vX9_seenBy_b109 hF hk22) hc2 h7
set_option maxRecDepth 100000 in
set_option maxHeartbeats 4000000 in
def fX9_seenBy_l22 (fu : Nat) (sh : HS) (I : HI) (R : HR) : Nat → Nat → Nat → Nat → Int32 → Int32 → Int32 → Option Int32
  | 0 => fun _ _ _ _ _ _ => none
  | n + 1 => fX9_seenBy_b22 fu sh I R (fX9_seenBy_l22 fu sh I R n)
set_option maxRecDepth 100000 in
set_option maxHeartbeats 4000000 in
theorem vX9_seenBy_l22 {K J : Nat → Nat} {fu : Nat} {sh : HS} {I : HI} {R : HR} {F : VF} {o : Int32} (hF : F (.inl (some (.int o))) sh I R) : ∀ (n : Nat) {l0 : Nat} {l1 : Nat} {l2 : Nat} {l3 : Int32} {l4 : Int32} {l5 : Int32} {d6 : Option Value} {c : Nat × Nat} (_ : c.1 ≤ 0 ∧ c.2 ≤ 0) (_ : fX9_seenBy_l22 fu sh I R n l0 l1 l2 l3 l4 l5 = some o), V K J 57 22 [some (.ref l0), some (.ref l1), some (.ref l2), some (.int l3), some (.int l4), some (.int l5), d6] [] sh I R c F := by
  intro n
  induction n with
  | zero => exact fun _ h0 => nomatch h0
  | succ n ih => exact fun hc0 h0 => vX9_seenBy_b22 hF ih hc0 h0
set_option maxRecDepth 100000 in
set_option maxHeartbeats 4000000 in
def fX9_seenBy (fu : Nat) (sh : HS) (I : HI) (R : HR) (l0 : Nat) (l1 : Nat) : Option Int32 :=
  (oR sh R l0 0 5).bind fun v1 =>
  (oI sh I l1 7 0).bind fun v2 =>
  (oB sh R v1 5 v2).bind fun v3 =>
  (fX9_viewOf fu sh I R l0 l1).bind fun v4 =>
  (fX9_seenBy_l22 fu sh I R fu) l0 l1 v3 v4 0 0
set_option maxRecDepth 100000 in
set_option maxHeartbeats 4000000 in
theorem vX9_seenBy {K J : Nat → Nat} {fu : Nat} {sh : HS} {I : HI} {R : HR} {F : VF} {o : Int32} (hF : F (.inl (some (.int o))) sh I R) {l0 : Nat} {l1 : Nat} (h0 : fX9_seenBy fu sh I R l0 l1 = some o) : V K J 57 0 (ent 7 [.ref l0, .ref l1]) [] sh I R (0, 0) F := by
  unfold fX9_seenBy at h0
  have h1 := h0; clear h0
  have hc0 : ((0 : Nat), (0 : Nat)).1 ≤ 0 ∧ ((0 : Nat), (0 : Nat)).2 ≤ 0 := ⟨Nat.le_refl _, Nat.le_refl _⟩
  show V K J 57 0 [some (.ref l0), some (.ref l1), none, none, none, none, none] [] sh I R (0, 0) F
  refine s_rl (i := 0) (pc' := 1) (by decide +kernel) rfl ?_
  refine s_gR (t := 0) (j := 5) (pc' := 4) (by decide +kernel) h1 (fun v1 h2 => ?_); clear h1
  refine s_rl (i := 1) (pc' := 5) (by decide +kernel) rfl ?_
  refine s_gI (t := 7) (j := 0) (ty := 0) (pc' := 8) (by decide +kernel) rfl h2 (fun v2 h3 => ?_); clear h2
  refine s_aal (t := 5) (pc' := 9) (by decide +kernel) h3 (fun v3 h4 => ?_); clear h3
  refine s_rs (i := 2) (pc' := 10) (L' := [some (.ref l0), some (.ref l1), some (.ref v3), none, none, none, none]) (by decide +kernel) rfl rfl ?_
  refine s_rl (i := 0) (pc' := 11) (by decide +kernel) rfl ?_
  refine s_rl (i := 1) (pc' := 12) (by decide +kernel) rfl ?_
  refine kX9_viewOf (X := 0) (Y := 0) (X' := 0) (Y' := 0) (pc' := 15) (by decide +kernel) hc0 rfl h4 (fun v4 c hc1 h5 => ?_); clear h4 hc0
  refine s_is (i := 3) (pc' := 16) (L' := [some (.ref l0), some (.ref l1), some (.ref v3), some (.int v4), none, none, none]) (by decide +kernel) rfl rfl ?_
  refine s_c (v := 0) (pc' := 17) (by decide +kernel) ?_
  refine s_is (i := 4) (pc' := 19) (L' := [some (.ref l0), some (.ref l1), some (.ref v3), some (.int v4), some (.int 0), none, none]) (by decide +kernel) rfl rfl ?_
  refine s_c (v := 0) (pc' := 20) (by decide +kernel) ?_
  refine s_is (i := 5) (pc' := 22) (L' := [some (.ref l0), some (.ref l1), some (.ref v3), some (.int v4), some (.int 0), some (.int 0), none]) (by decide +kernel) rfl rfl ?_
  exact (vX9_seenBy_l22 hF fu) hc1 h5
set_option maxRecDepth 100000 in
set_option maxHeartbeats 4000000 in
theorem kX9_seenBy {K J : Nat → Nat} {fu : Nat} {sh : HS} {I : HI} {R : HR} {F : VF} {mi pc pc' X Y X' Y' : Nat} {L : VL} {rest : List Value} {c : Nat × Nat} {l0 : Nat} {l1 : Nat} {ω : Type} {o : ω} {g : Int32 → Option ω} (hq : cQ mi pc 57 2 pc' X Y X' Y' = true) (hc : c.1 ≤ X ∧ c.2 ≤ Y) (hr : Nat.ble (catS rest) 8 = true) (h : (fX9_seenBy fu sh I R l0 l1).bind g = some o) (kk : ∀ v c', (c'.1 ≤ X' ∧ c'.2 ≤ Y') → g v = some o → V K J mi pc' L ((.int v) :: rest) sh I R c' F) : V K J mi pc L (.ref l1 :: .ref l0 :: rest) sh I R c F := by
  obtain ⟨r, h1, h2⟩ := bnd h
  have ml : mL 57 = 7 := by decide +kernel
  have mk : mK 57 = 0 := by decide +kernel
  refine s_call (as := [.ref l1, .ref l0]) (G := fun o' sh' I' R' => o' = .inl (some (.int r)) ∧ sh' = sh ∧ I' = I ∧ R' = R) hq hc rfl hr (by rw [ml]; rfl) (Or.inl rfl) (fun z => absurd (mk.symm.trans z) (by decide)) (fun z => absurd (mk.symm.trans z) (by decide)) (by rw [ml]; exact vX9_seenBy (F := fun o' sh' I' R' => o' = .inl (some (.int r)) ∧ sh' = sh ∧ I' = I ∧ R' = R) ⟨rfl, rfl, rfl, rfl⟩ h1) ?_ ?_ ?_
  · rintro sh' I' R' c' hc' ⟨g1, rfl, rfl, rfl⟩
    cases g1
  · rintro v' sh' I' R' c' hc' ⟨g1, rfl, rfl, rfl⟩
    cases g1
    exact kk _ _ hc' h2
  · rintro E' sh' I' R' ⟨g1, rfl, rfl, rfl⟩
    cases g1
set_option maxRecDepth 100000 in
set_option maxHeartbeats 4000000 in
def fX7_fill_b22 (fu : Nat) (sh : HS) (R : HR) (k22 : HI → Nat → Nat → Int32 → Option HI) (k97 : HI → Nat → Nat → Option HI) (I : HI) (l0 : Nat) (l1 : Nat) (l2 : Int32) : Option HI :=
  (oI sh I l0 6 0).bind fun v6 =>
  if v6 ≤ l2 then
    (k97 I l0 l1)
  else
    ((oR sh R l0 6 3).bind fun v7 =>
    (oS sh I v7 l2 0).bind fun v8 =>
    (oR sh R l0 6 4).bind fun v9 =>
    (oS sh v8 v9 l2 0).bind fun v10 =>
    (oR sh R l0 6 5).bind fun v11 =>
    (oS sh v10 v11 l2 0).bind fun v12 =>
    (oR sh R l0 6 6).bind fun v13 =>
    (oR sh R l1 0 6).bind fun v14 =>
    (oR sh R l0 6 2).bind fun v15 =>
    (oA sh v12 v15 l2).bind fun v16 =>
    (oB sh R v14 7 v16).bind fun v17 =>
    (oI sh v12 v17 7 0).bind fun v18 =>
    (oS sh v12 v13 l2 v18).bind fun v19 =>
    (oR sh R l0 6 7).bind fun v20 =>
    (oR sh R l1 0 5).bind fun v21 =>
    (oR sh R l0 6 6).bind fun v22 =>
    (oA sh v19 v22 l2).bind fun v23 =>
    (oB sh R v21 5 v23).bind fun v24 =>
    (oI sh v19 v24 5 0).bind fun v25 =>
    (oS sh v19 v20 l2 v25).bind fun v26 =>
    k22 v26 l0 l1 (l2 + 1))
set_option maxRecDepth 100000 in
set_option maxHeartbeats 4000000 in
theorem vX7_fill_b22 {K J : Nat → Nat} {fu : Nat} {sh : HS} {R : HR} {F : VF} {o : HI} (hF : F (.inl none) sh o R) {k22 : HI → Nat → Nat → Int32 → Option HI} {k97 : HI → Nat → Nat → Option HI} (hk22 : ∀ {I : HI} {l0 : Nat} {l1 : Nat} {l2 : Int32} {d3 d4 : Option Value} {c : Nat × Nat}, (c.1 ≤ 0 ∧ c.2 ≤ 0) → k22 I l0 l1 l2 = some o → V K J 47 22 [some (.ref l0), some (.ref l1), some (.int l2), d3, d4] [] sh I R c F) (hk97 : ∀ {I : HI} {l0 : Nat} {l1 : Nat} {d2 d3 d4 : Option Value} {c : Nat × Nat}, (c.1 ≤ 0 ∧ c.2 ≤ 0) → k97 I l0 l1 = some o → V K J 47 97 [some (.ref l0), some (.ref l1), d2, d3, d4] [] sh I R c F) {I : HI} {l0 : Nat} {l1 : Nat} {l2 : Int32} {d3 d4 : Option Value} {c : Nat × Nat} (hc0 : c.1 ≤ 0 ∧ c.2 ≤ 0) (h0 : fX7_fill_b22 fu sh R k22 k97 I l0 l1 l2 = some o) : V K J 47 22 [some (.ref l0), some (.ref l1), some (.int l2), d3, d4] [] sh I R c F := by
  unfold fX7_fill_b22 at h0
  refine s_il (i := 2) (pc' := 23) (by decide +kernel) rfl ?_
  refine s_rl (i := 0) (pc' := 24) (by decide +kernel) rfl ?_
  refine s_gI (t := 6) (j := 0) (ty := 0) (pc' := 27) (by decide +kernel) rfl h0 (fun v6 h1 => ?_); clear h0
  refine s_if (ins := .if_icmp .ge 70) (t := 97) (pc' := 30) (by decide +kernel) rfl rfl rfl h1 (fun p2 h2 => ?_) (fun p2 h2 => ?_) <;> clear h1
  · exact hk97 hc0 h2
  · refine s_rl (i := 0) (pc' := 31) (by decide +kernel) rfl ?_
    refine s_gR (t := 6) (j := 3) (pc' := 34) (by decide +kernel) h2 (fun v7 h3 => ?_); clear h2
    refine s_il (i := 2) (pc' := 35) (by decide +kernel) rfl ?_
    refine s_c (v := 0) (pc' := 36) (by decide +kernel) ?_
    refine s_as (pc' := 37) (by decide +kernel) h3 (fun v8 h4 => ?_); clear h3
    refine s_rl (i := 0) (pc' := 38) (by decide +kernel) rfl ?_
    refine s_gR (t := 6) (j := 4) (pc' := 41) (by decide +kernel) h4 (fun v9 h5 => ?_); clear h4
    refine s_il (i := 2) (pc' := 42) (by decide +kernel) rfl ?_
    refine s_c (v := 0) (pc' := 43) (by decide +kernel) ?_
    refine s_as (pc' := 44) (by decide +kernel) h5 (fun v10 h6 => ?_); clear h5
    refine s_rl (i := 0) (pc' := 45) (by decide +kernel) rfl ?_
    refine s_gR (t := 6) (j := 5) (pc' := 48) (by decide +kernel) h6 (fun v11 h7 => ?_); clear h6
    refine s_il (i := 2) (pc' := 49) (by decide +kernel) rfl ?_
    refine s_c (v := 0) (pc' := 50) (by decide +kernel) ?_
    refine s_as (pc' := 51) (by decide +kernel) h7 (fun v12 h8 => ?_); clear h7
    refine s_rl (i := 0) (pc' := 52) (by decide +kernel) rfl ?_
    refine s_gR (t := 6) (j := 6) (pc' := 55) (by decide +kernel) h8 (fun v13 h9 => ?_); clear h8
    refine s_il (i := 2) (pc' := 56) (by decide +kernel) rfl ?_
    refine s_rl (i := 1) (pc' := 57) (by decide +kernel) rfl ?_
    refine s_gR (t := 0) (j := 6) (pc' := 60) (by decide +kernel) h9 (fun v14 h10 => ?_); clear h9
    refine s_rl (i := 0) (pc' := 61) (by decide +kernel) rfl ?_
    refine s_gR (t := 6) (j := 2) (pc' := 64) (by decide +kernel) h10 (fun v15 h11 => ?_); clear h10
    refine s_il (i := 2) (pc' := 65) (by decide +kernel) rfl ?_
    refine s_al (pc' := 66) (by decide +kernel) h11 (fun v16 h12 => ?_); clear h11
    refine s_aal (t := 7) (pc' := 67) (by decide +kernel) h12 (fun v17 h13 => ?_); clear h12
    refine s_gI (t := 7) (j := 0) (ty := 0) (pc' := 70) (by decide +kernel) rfl h13 (fun v18 h14 => ?_); clear h13
    refine s_as (pc' := 71) (by decide +kernel) h14 (fun v19 h15 => ?_); clear h14
    refine s_rl (i := 0) (pc' := 72) (by decide +kernel) rfl ?_
    refine s_gR (t := 6) (j := 7) (pc' := 75) (by decide +kernel) h15 (fun v20 h16 => ?_); clear h15
    refine s_il (i := 2) (pc' := 76) (by decide +kernel) rfl ?_
    refine s_rl (i := 1) (pc' := 77) (by decide +kernel) rfl ?_
    refine s_gR (t := 0) (j := 5) (pc' := 80) (by decide +kernel) h16 (fun v21 h17 => ?_); clear h16
    refine s_rl (i := 0) (pc' := 81) (by decide +kernel) rfl ?_
    refine s_gR (t := 6) (j := 6) (pc' := 84) (by decide +kernel) h17 (fun v22 h18 => ?_); clear h17
    refine s_il (i := 2) (pc' := 85) (by decide +kernel) rfl ?_
    refine s_al (pc' := 86) (by decide +kernel) h18 (fun v23 h19 => ?_); clear h18
    refine s_aal (t := 5) (pc' := 87) (by decide +kernel) h19 (fun v24 h20 => ?_); clear h19
    refine s_gI (t := 5) (j := 0) (ty := 0) (pc' := 90) (by decide +kernel) rfl h20 (fun v25 h21 => ?_); clear h20
    refine s_as (pc' := 91) (by decide +kernel) h21 (fun v26 h22 => ?_); clear h21
    refine s_inc (i := 2) (z := 1) (pc' := 94) (L' := [some (.ref l0), some (.ref l1), some (.int (l2 + 1)), d3, d4]) (by decide +kernel) rfl rfl rfl ?_
    refine s_go (t := 22) (by decide +kernel) ?_
    exact hk22 hc0 h22
set_option maxRecDepth 100000 in
set_option maxHeartbeats 4000000 in
def fX7_fill_l22 (fu : Nat) (sh : HS) (R : HR) (k97 : HI → Nat → Nat → Option HI) : Nat → HI → Nat → Nat → Int32 → Option HI
  | 0 => fun _ _ _ _ => none
  | n + 1 => fX7_fill_b22 fu sh R (fX7_fill_l22 fu sh R k97 n) k97
set_option maxRecDepth 100000 in
set_option maxHeartbeats 4000000 in
theorem vX7_fill_l22 {K J : Nat → Nat} {fu : Nat} {sh : HS} {R : HR} {F : VF} {o : HI} (hF : F (.inl none) sh o R) {k97 : HI → Nat → Nat → Option HI} (hk97 : ∀ {I : HI} {l0 : Nat} {l1 : Nat} {d2 d3 d4 : Option Value} {c : Nat × Nat}, (c.1 ≤ 0 ∧ c.2 ≤ 0) → k97 I l0 l1 = some o → V K J 47 97 [some (.ref l0), some (.ref l1), d2, d3, d4] [] sh I R c F) : ∀ (n : Nat) {I : HI} {l0 : Nat} {l1 : Nat} {l2 : Int32} {d3 d4 : Option Value} {c : Nat × Nat} (_ : c.1 ≤ 0 ∧ c.2 ≤ 0) (_ : fX7_fill_l22 fu sh R k97 n I l0 l1 l2 = some o), V K J 47 22 [some (.ref l0), some (.ref l1), some (.int l2), d3, d4] [] sh I R c F := by
  intro n
  induction n with
  | zero => exact fun _ h0 => nomatch h0
  | succ n ih => exact fun hc0 h0 => vX7_fill_b22 hF ih hk97 hc0 h0
set_option maxRecDepth 100000 in
set_option maxHeartbeats 4000000 in
def fX7_fill_b99 (fu : Nat) (sh : HS) (R : HR) (k99 : HI → Nat → Nat → Int32 → Option HI) (I : HI) (l0 : Nat) (l1 : Nat) (l2 : Int32) : Option HI :=
  (oI sh I l1 0 4).bind fun v27 =>
  if v27 ≤ l2 then
    (some I)
  else
    ((oR sh R l1 0 6).bind fun v28 =>
    (oB sh R v28 7 l2).bind fun v29 =>
    (oR sh R l0 6 1).bind fun v30 =>
    (oA sh I v30 l2).bind fun v31 =>
    (oR sh R l0 6 3).bind fun v32 =>
    (oA sh I v32 v31).bind fun v33 =>
    (oS sh I v32 v31 (v33 ||| (1 <<< (l2 &&& 31)))).bind fun v34 =>
    (oR sh R l0 6 4).bind fun v35 =>
    (oA sh v34 v35 v31).bind fun v36 =>
    (fX9_seenBy fu sh v34 R l1 v29).bind fun v37 =>
    (oS sh v34 v35 v31 (v36 ||| v37)).bind fun v38 =>
    (oR sh R l0 6 5).bind fun v39 =>
    (oA sh v38 v39 v31).bind fun v40 =>
    (oI sh v38 v29 7 5).bind fun v41 =>
    (oS sh v38 v39 v31 (v40 + v41)).bind fun v42 =>
    k99 v42 l0 l1 (l2 + 1))
set_option maxRecDepth 100000 in
set_option maxHeartbeats 4000000 in
theorem vX7_fill_b99 {K J : Nat → Nat} {fu : Nat} {sh : HS} {R : HR} {F : VF} {o : HI} (hF : F (.inl none) sh o R) {k99 : HI → Nat → Nat → Int32 → Option HI} (hk99 : ∀ {I : HI} {l0 : Nat} {l1 : Nat} {l2 : Int32} {d3 d4 : Option Value} {c : Nat × Nat}, (c.1 ≤ 0 ∧ c.2 ≤ 0) → k99 I l0 l1 l2 = some o → V K J 47 99 [some (.ref l0), some (.ref l1), some (.int l2), d3, d4] [] sh I R c F) {I : HI} {l0 : Nat} {l1 : Nat} {l2 : Int32} {d3 d4 : Option Value} {c : Nat × Nat} (hc0 : c.1 ≤ 0 ∧ c.2 ≤ 0) (h0 : fX7_fill_b99 fu sh R k99 I l0 l1 l2 = some o) : V K J 47 99 [some (.ref l0), some (.ref l1), some (.int l2), d3, d4] [] sh I R c F := by
  unfold fX7_fill_b99 at h0
  refine s_il (i := 2) (pc' := 100) (by decide +kernel) rfl ?_
  refine s_rl (i := 1) (pc' := 101) (by decide +kernel) rfl ?_
  refine s_gI (t := 0) (j := 4) (ty := 0) (pc' := 104) (by decide +kernel) rfl h0 (fun v27 h1 => ?_); clear h0
  refine s_if (ins := .if_icmp .ge 66) (t := 170) (pc' := 107) (by decide +kernel) rfl rfl rfl h1 (fun p2 h2 => ?_) (fun p2 h2 => ?_) <;> clear h1
  · have e9 := Option.some.inj h2; subst e9
    exact s_rv (X := 0) (Y := 0) (by decide +kernel) hc0 hF
  · refine s_rl (i := 1) (pc' := 108) (by decide +kernel) rfl ?_
    refine s_gR (t := 0) (j := 6) (pc' := 111) (by decide +kernel) h2 (fun v28 h3 => ?_); clear h2
    refine s_il (i := 2) (pc' := 112) (by decide +kernel) rfl ?_
    refine s_aal (t := 7) (pc' := 113) (by decide +kernel) h3 (fun v29 h4 => ?_); clear h3
    refine s_rs (i := 3) (pc' := 114) (L' := [some (.ref l0), some (.ref l1), some (.int l2), some (.ref v29), d4]) (by decide +kernel) rfl rfl ?_
    refine s_rl (i := 0) (pc' := 115) (by decide +kernel) rfl ?_
    refine s_gR (t := 6) (j := 1) (pc' := 118) (by decide +kernel) h4 (fun v30 h5 => ?_); clear h4
    refine s_il (i := 2) (pc' := 119) (by decide +kernel) rfl ?_
    refine s_al (pc' := 120) (by decide +kernel) h5 (fun v31 h6 => ?_); clear h5
    refine s_is (i := 4) (pc' := 122) (L' := [some (.ref l0), some (.ref l1), some (.int l2), some (.ref v29), some (.int v31)]) (by decide +kernel) rfl rfl ?_
    refine s_rl (i := 0) (pc' := 123) (by decide +kernel) rfl ?_
    refine s_gR (t := 6) (j := 3) (pc' := 126) (by decide +kernel) h6 (fun v32 h7 => ?_); clear h6
    refine s_il (i := 4) (pc' := 128) (by decide +kernel) rfl ?_
    refine s_a (ins := .dup2) (pc' := 129) (by decide +kernel) rfl ?_
    refine s_al (pc' := 130) (by decide +kernel) h7 (fun v33 h8 => ?_); clear h7
    refine s_c (v := 1) (pc' := 131) (by decide +kernel) ?_
    refine s_il (i := 2) (pc' := 132) (by decide +kernel) rfl ?_
    refine s_a (ins := .ishl) (pc' := 133) (by decide +kernel) rfl ?_
    refine s_a (ins := .ior) (pc' := 134) (by decide +kernel) rfl ?_
    refine s_as (pc' := 135) (by decide +kernel) h8 (fun v34 h9 => ?_); clear h8
    refine s_rl (i := 0) (pc' := 136) (by decide +kernel) rfl ?_
    refine s_gR (t := 6) (j := 4) (pc' := 139) (by decide +kernel) h9 (fun v35 h10 => ?_); clear h9
    refine s_il (i := 4) (pc' := 141) (by decide +kernel) rfl ?_
    refine s_a (ins := .dup2) (pc' := 142) (by decide +kernel) rfl ?_
    refine s_al (pc' := 143) (by decide +kernel) h10 (fun v36 h11 => ?_); clear h10
    refine s_rl (i := 1) (pc' := 144) (by decide +kernel) rfl ?_
    refine s_rl (i := 3) (pc' := 145) (by decide +kernel) rfl ?_
    refine kX9_seenBy (X := 0) (Y := 0) (X' := 0) (Y' := 0) (pc' := 148) (by decide +kernel) hc0 rfl h11 (fun v37 c hc1 h12 => ?_); clear h11 hc0
    refine s_a (ins := .ior) (pc' := 149) (by decide +kernel) rfl ?_
    refine s_as (pc' := 150) (by decide +kernel) h12 (fun v38 h13 => ?_); clear h12
    refine s_rl (i := 0) (pc' := 151) (by decide +kernel) rfl ?_
    refine s_gR (t := 6) (j := 5) (pc' := 154) (by decide +kernel) h13 (fun v39 h14 => ?_); clear h13
    refine s_il (i := 4) (pc' := 156) (by decide +kernel) rfl ?_
    refine s_a (ins := .dup2) (pc' := 157) (by decide +kernel) rfl ?_
    refine s_al (pc' := 158) (by decide +kernel) h14 (fun v40 h15 => ?_); clear h14
    refine s_rl (i := 3) (pc' := 159) (by decide +kernel) rfl ?_
    refine s_gI (t := 7) (j := 5) (ty := 0) (pc' := 162) (by decide +kernel) rfl h15 (fun v41 h16 => ?_); clear h15
    refine s_a (ins := .iadd) (pc' := 163) (by decide +kernel) rfl ?_
    refine s_as (pc' := 164) (by decide +kernel) h16 (fun v42 h17 => ?_); clear h16
    refine s_inc (i := 2) (z := 1) (pc' := 167) (L' := [some (.ref l0), some (.ref l1), some (.int (l2 + 1)), some (.ref v29), some (.int v31)]) (by decide +kernel) rfl rfl rfl ?_
    refine s_go (t := 99) (by decide +kernel) ?_
    exact hk99 hc1 h17
set_option maxRecDepth 100000 in
set_option maxHeartbeats 4000000 in
def fX7_fill_l99 (fu : Nat) (sh : HS) (R : HR) : Nat → HI → Nat → Nat → Int32 → Option HI
  | 0 => fun _ _ _ _ => none
  | n + 1 => fX7_fill_b99 fu sh R (fX7_fill_l99 fu sh R n)
set_option maxRecDepth 100000 in
set_option maxHeartbeats 4000000 in
theorem vX7_fill_l99 {K J : Nat → Nat} {fu : Nat} {sh : HS} {R : HR} {F : VF} {o : HI} (hF : F (.inl none) sh o R) : ∀ (n : Nat) {I : HI} {l0 : Nat} {l1 : Nat} {l2 : Int32} {d3 d4 : Option Value} {c : Nat × Nat} (_ : c.1 ≤ 0 ∧ c.2 ≤ 0) (_ : fX7_fill_l99 fu sh R n I l0 l1 l2 = some o), V K J 47 99 [some (.ref l0), some (.ref l1), some (.int l2), d3, d4] [] sh I R c F := by
  intro n
  induction n with
  | zero => exact fun _ h0 => nomatch h0
  | succ n ih => exact fun hc0 h0 => vX7_fill_b99 hF ih hc0 h0
set_option maxRecDepth 100000 in
set_option maxHeartbeats 4000000 in
def fX7_fill_b97 (fu : Nat) (sh : HS) (R : HR) (I : HI) (l0 : Nat) (l1 : Nat) : Option HI :=
  (fX7_fill_l99 fu sh R fu) I l0 l1 0
set_option maxRecDepth 100000 in
set_option maxHeartbeats 4000000 in
theorem vX7_fill_b97 {K J : Nat → Nat} {fu : Nat} {sh : HS} {R : HR} {F : VF} {o : HI} (hF : F (.inl none) sh o R) {I : HI} {l0 : Nat} {l1 : Nat} {d2 d3 d4 : Option Value} {c : Nat × Nat} (hc0 : c.1 ≤ 0 ∧ c.2 ≤ 0) (h0 : fX7_fill_b97 fu sh R I l0 l1 = some o) : V K J 47 97 [some (.ref l0), some (.ref l1), d2, d3, d4] [] sh I R c F := by
  unfold fX7_fill_b97 at h0
  refine s_c (v := 0) (pc' := 98) (by decide +kernel) ?_
  refine s_is (i := 2) (pc' := 99) (L' := [some (.ref l0), some (.ref l1), some (.int 0), d3, d4]) (by decide +kernel) rfl rfl ?_
  exact (vX7_fill_l99 hF fu) hc0 h0
set_option maxRecDepth 100000 in
set_option maxHeartbeats 4000000 in
def fX7_fill (fu : Nat) (sh : HS) (I : HI) (R : HR) (l0 : Nat) (l1 : Nat) : Option HI :=
  if isT sh l0 6 = true then
    ((oI sh I l1 0 0).bind fun v1 =>
    (oR sh R l0 6 1).bind fun v2 =>
    (oR sh R l0 6 2).bind fun v3 =>
    oH (fX7_group fu sh I R l1 v1 v2 v3) fun v4 w4 =>
    (oP sh w4 l0 6 0 v4).bind fun v5 =>
    (fX7_fill_l22 fu sh R (fX7_fill_b97 fu sh R) fu) v5 l0 l1 0)
  else none
set_option maxRecDepth 100000 in
set_option maxHeartbeats 4000000 in
theorem vX7_fill {K J : Nat → Nat} {fu : Nat} {sh : HS} {I : HI} {R : HR} {F : VF} {o : HI} (hF : F (.inl none) sh o R) {l0 : Nat} {l1 : Nat} (h0 : fX7_fill fu sh I R l0 l1 = some o) : V K J 47 0 (ent 5 [.ref l0, .ref l1]) [] sh I R (0, 0) F := by
  unfold fX7_fill at h0
  obtain ⟨-, h1⟩ := gd h0; clear h0
  have hc0 : ((0 : Nat), (0 : Nat)).1 ≤ 0 ∧ ((0 : Nat), (0 : Nat)).2 ≤ 0 := ⟨Nat.le_refl _, Nat.le_refl _⟩
  show V K J 47 0 [some (.ref l0), some (.ref l1), none, none, none] [] sh I R (0, 0) F
  refine s_rl (i := 0) (pc' := 1) (by decide +kernel) rfl ?_
  refine s_rl (i := 1) (pc' := 2) (by decide +kernel) rfl ?_
  refine s_rl (i := 1) (pc' := 3) (by decide +kernel) rfl ?_
  refine s_gI (t := 0) (j := 0) (ty := 0) (pc' := 6) (by decide +kernel) rfl h1 (fun v1 h2 => ?_); clear h1
  refine s_rl (i := 0) (pc' := 7) (by decide +kernel) rfl ?_
  refine s_gR (t := 6) (j := 1) (pc' := 10) (by decide +kernel) h2 (fun v2 h3 => ?_); clear h2
  refine s_rl (i := 0) (pc' := 11) (by decide +kernel) rfl ?_
  refine s_gR (t := 6) (j := 2) (pc' := 14) (by decide +kernel) h3 (fun v3 h4 => ?_); clear h3
  refine kX7_group (X := 0) (Y := 0) (X' := 0) (Y' := 0) (pc' := 17) (by decide +kernel) hc0 rfl h4 (fun v4 w4 c hc1 h5 => ?_); clear h4 hc0
  refine s_pI (t := 6) (j := 0) (ty := 0) (pc' := 20) (by decide +kernel) (Or.inl rfl) h5 (fun v5 h6 => ?_); clear h5
  refine s_c (v := 0) (pc' := 21) (by decide +kernel) ?_
  refine s_is (i := 2) (pc' := 22) (L' := [some (.ref l0), some (.ref l1), some (.int 0), none, none]) (by decide +kernel) rfl rfl ?_
  exact (vX7_fill_l22 hF (vX7_fill_b97 hF) fu) hc1 h6
set_option maxRecDepth 100000 in
set_option maxHeartbeats 4000000 in
theorem kX7_fill {K J : Nat → Nat} {fu : Nat} {sh : HS} {I : HI} {R : HR} {F : VF} {mi pc pc' X Y X' Y' : Nat} {L : VL} {rest : List Value} {c : Nat × Nat} {l0 : Nat} {l1 : Nat} {ω : Type} {o : ω} {g : HI → Option ω} (hq : cQ mi pc 47 2 pc' X Y X' Y' = true) (hc : c.1 ≤ X ∧ c.2 ≤ Y) (hr : Nat.ble (catS rest) 8 = true) (h : (fX7_fill fu sh I R l0 l1).bind g = some o) (kk : ∀ w c', (c'.1 ≤ X' ∧ c'.2 ≤ Y') → g w = some o → V K J mi pc' L (rest) sh w R c' F) : V K J mi pc L (.ref l1 :: .ref l0 :: rest) sh I R c F := by
  obtain ⟨r, h1, h2⟩ := bnd h
  have hT : isT sh l0 6 = true := by unfold fX7_fill at h1; exact (gd h1).1
  have ml : mL 47 = 5 := by decide +kernel
  have mk : mK 47 = 1 := by decide +kernel
  have mc : mC 47 = 6 := by decide +kernel
  refine s_call (as := [.ref l1, .ref l0]) (G := fun o' sh' I' R' => o' = .inl none ∧ sh' = sh ∧ I' = r ∧ R' = R) hq hc rfl hr (by rw [ml]; rfl) (Or.inl rfl) (fun _ => Or.inl (Or.inl ⟨by rw [mc]; decide, by rw [mc]; exact isT_iff.mp hT⟩)) (fun z => absurd (mk.symm.trans z) (by decide)) (by rw [ml]; exact vX7_fill (F := fun o' sh' I' R' => o' = .inl none ∧ sh' = sh ∧ I' = r ∧ R' = R) ⟨rfl, rfl, rfl, rfl⟩ h1) ?_ ?_ ?_
  · rintro sh' I' R' c' hc' ⟨g1, rfl, rfl, rfl⟩
    cases g1
    exact kk _ _ hc' h2
  · rintro v' sh' I' R' c' hc' ⟨g1, rfl, rfl, rfl⟩
    cases g1
  · rintro E' sh' I' R' ⟨g1, rfl, rfl, rfl⟩
    cases g1
set_option maxRecDepth 100000 in
set_option maxHeartbeats 4000000 in
def fX7_costOfStart (fu : Nat) (sh : HS) (I : HI) (R : HR) (l0 : Nat) (l1 : Int32) : Option Int32 :=
  if isT sh l0 6 = true then
    ((oR sh R l0 6 4).bind fun v1 =>
    (oA sh I v1 l1).bind fun v2 =>
    (fJ6_bitCount_0f7a4 fu sh I R v2).bind fun v3 =>
    some (2 * v3))
  else none
set_option maxRecDepth 100000 in
set_option maxHeartbeats 4000000 in
theorem vX7_costOfStart {K J : Nat → Nat} {fu : Nat} {sh : HS} {I : HI} {R : HR} {F : VF} {o : Int32} (hF : F (.inl (some (.int o))) sh I R) {l0 : Nat} {l1 : Int32} (h0 : fX7_costOfStart fu sh I R l0 l1 = some o) : V K J 49 0 (ent 2 [.ref l0, .int l1]) [] sh I R (0, 0) F := by
  unfold fX7_costOfStart at h0
  obtain ⟨-, h1⟩ := gd h0; clear h0
  have hc0 : ((0 : Nat), (0 : Nat)).1 ≤ 0 ∧ ((0 : Nat), (0 : Nat)).2 ≤ 0 := ⟨Nat.le_refl _, Nat.le_refl _⟩
  show V K J 49 0 [some (.ref l0), some (.int l1)] [] sh I R (0, 0) F
  refine s_c (v := 2) (pc' := 1) (by decide +kernel) ?_
  refine s_rl (i := 0) (pc' := 2) (by decide +kernel) rfl ?_
  refine s_gR (t := 6) (j := 4) (pc' := 5) (by decide +kernel) h1 (fun v1 h2 => ?_); clear h1
  refine s_il (i := 1) (pc' := 6) (by decide +kernel) rfl ?_
  refine s_al (pc' := 7) (by decide +kernel) h2 (fun v2 h3 => ?_); clear h2
  refine kJ6_bitCount_0f7a4 (X := 0) (Y := 0) (X' := 0) (Y' := 0) (pc' := 10) (by decide +kernel) hc0 rfl h3 (fun v3 c hc1 h4 => ?_); clear h3 hc0
  refine s_a (ins := .imul) (pc' := 11) (by decide +kernel) rfl ?_
  have e9 := Option.some.inj h4; subst e9
  exact s_ri (X := 0) (Y := 0) (by decide +kernel) hc1 hF
set_option maxRecDepth 100000 in
set_option maxHeartbeats 4000000 in
theorem kX7_costOfStart {K J : Nat → Nat} {fu : Nat} {sh : HS} {I : HI} {R : HR} {F : VF} {mi pc pc' X Y X' Y' : Nat} {L : VL} {rest : List Value} {c : Nat × Nat} {l0 : Nat} {l1 : Int32} {ω : Type} {o : ω} {g : Int32 → Option ω} (hq : cQ mi pc 49 2 pc' X Y X' Y' = true) (hc : c.1 ≤ X ∧ c.2 ≤ Y) (hr : Nat.ble (catS rest) 8 = true) (h : (fX7_costOfStart fu sh I R l0 l1).bind g = some o) (kk : ∀ v c', (c'.1 ≤ X' ∧ c'.2 ≤ Y') → g v = some o → V K J mi pc' L ((.int v) :: rest) sh I R c' F) : V K J mi pc L (.int l1 :: .ref l0 :: rest) sh I R c F := by
  obtain ⟨r, h1, h2⟩ := bnd h
  have hT : isT sh l0 6 = true := by unfold fX7_costOfStart at h1; exact (gd h1).1
  have ml : mL 49 = 2 := by decide +kernel
  have mk : mK 49 = 1 := by decide +kernel
  have mc : mC 49 = 6 := by decide +kernel
  refine s_call (as := [.int l1, .ref l0]) (G := fun o' sh' I' R' => o' = .inl (some (.int r)) ∧ sh' = sh ∧ I' = I ∧ R' = R) hq hc rfl hr (by rw [ml]; rfl) (Or.inl rfl) (fun _ => Or.inl (Or.inl ⟨by rw [mc]; decide, by rw [mc]; exact isT_iff.mp hT⟩)) (fun z => absurd (mk.symm.trans z) (by decide)) (by rw [ml]; exact vX7_costOfStart (F := fun o' sh' I' R' => o' = .inl (some (.int r)) ∧ sh' = sh ∧ I' = I ∧ R' = R) ⟨rfl, rfl, rfl, rfl⟩ h1) ?_ ?_ ?_
  · rintro sh' I' R' c' hc' ⟨g1, rfl, rfl, rfl⟩
    cases g1
  · rintro v' sh' I' R' c' hc' ⟨g1, rfl, rfl, rfl⟩
    cases g1
    exact kk _ _ hc' h2
  · rintro E' sh' I' R' ⟨g1, rfl, rfl, rfl⟩
    cases g1
