/-! methods 2 (printed by wip/whole/gen3.py) -/
set_option maxRecDepth 100000 in
set_option maxHeartbeats 4000000 in
def fX7_costOfChange_b21 (fu : Nat) (sh : HS) (I : HI) (R : HR) (l0 : Nat) (l1 : Int32) (l2 : Int32) (s0 : Int32) : Option Int32 :=
  (oR sh R l0 6 7).bind fun v5 =>
  (oA sh I v5 l1).bind fun v6 =>
  (oR sh R l0 6 7).bind fun v7 =>
  (oA sh I v7 l2).bind fun v8 =>
  (oR sh R l0 6 4).bind fun v9 =>
  (oA sh I v9 l2).bind fun v10 =>
  (oR sh R l0 6 4).bind fun v11 =>
  (oA sh I v11 l1).bind fun v12 =>
  (fJ6_bitCount_0f7a4 fu sh I R (v10 &&& (v12 ^^^ (-1)))).bind fun v13 =>
  some ((s0 + (4 * (iAbs (v6 - v8)))) + (2 * v13))
set_option maxRecDepth 100000 in
set_option maxHeartbeats 4000000 in
theorem vX7_costOfChange_b21 {K J : Nat → Nat} {fu : Nat} {sh : HS} {I : HI} {R : HR} {F : VF} {o : Int32} (hF : F (.inl (some (.int o))) sh I R) {l0 : Nat} {l1 : Int32} {l2 : Int32} {s0 : Int32} {d3 d4 : Option Value} {c : Nat × Nat} (hc0 : c.1 ≤ 0 ∧ c.2 ≤ 0) (h0 : fX7_costOfChange_b21 fu sh I R l0 l1 l2 s0 = some o) : V K J 50 21 [some (.ref l0), some (.int l1), some (.int l2), d3, d4] [.int s0] sh I R c F := by
  unfold fX7_costOfChange_b21 at h0
  refine s_is (i := 3) (pc' := 22) (L' := [some (.ref l0), some (.int l1), some (.int l2), some (.int s0), d4]) (by decide +kernel) rfl rfl ?_
  refine s_c (v := 4) (pc' := 23) (by decide +kernel) ?_
  refine s_rl (i := 0) (pc' := 24) (by decide +kernel) rfl ?_
  refine s_gR (t := 6) (j := 7) (pc' := 27) (by decide +kernel) h0 (fun v5 h1 => ?_); clear h0
  refine s_il (i := 1) (pc' := 28) (by decide +kernel) rfl ?_
  refine s_al (pc' := 29) (by decide +kernel) h1 (fun v6 h2 => ?_); clear h1
  refine s_rl (i := 0) (pc' := 30) (by decide +kernel) rfl ?_
  refine s_gR (t := 6) (j := 7) (pc' := 33) (by decide +kernel) h2 (fun v7 h3 => ?_); clear h2
  refine s_il (i := 2) (pc' := 34) (by decide +kernel) rfl ?_
  refine s_al (pc' := 35) (by decide +kernel) h3 (fun v8 h4 => ?_); clear h3
  refine s_a (ins := .isub) (pc' := 36) (by decide +kernel) rfl ?_
  refine s_abs (X := 0) (Y := 0) (pc' := 39) (by decide +kernel) hc0 rfl ?_
  refine s_a (ins := .imul) (pc' := 40) (by decide +kernel) rfl ?_
  refine s_is (i := 4) (pc' := 42) (L' := [some (.ref l0), some (.int l1), some (.int l2), some (.int s0), some (.int (4 * (iAbs (v6 - v8))))]) (by decide +kernel) rfl rfl ?_
  refine s_il (i := 3) (pc' := 43) (by decide +kernel) rfl ?_
  refine s_il (i := 4) (pc' := 45) (by decide +kernel) rfl ?_
  refine s_a (ins := .iadd) (pc' := 46) (by decide +kernel) rfl ?_
  refine s_c (v := 2) (pc' := 47) (by decide +kernel) ?_
  refine s_rl (i := 0) (pc' := 48) (by decide +kernel) rfl ?_
  refine s_gR (t := 6) (j := 4) (pc' := 51) (by decide +kernel) h4 (fun v9 h5 => ?_); clear h4
  refine s_il (i := 2) (pc' := 52) (by decide +kernel) rfl ?_
  refine s_al (pc' := 53) (by decide +kernel) h5 (fun v10 h6 => ?_); clear h5
  refine s_rl (i := 0) (pc' := 54) (by decide +kernel) rfl ?_
  refine s_gR (t := 6) (j := 4) (pc' := 57) (by decide +kernel) h6 (fun v11 h7 => ?_); clear h6
  refine s_il (i := 1) (pc' := 58) (by decide +kernel) rfl ?_
  refine s_al (pc' := 59) (by decide +kernel) h7 (fun v12 h8 => ?_); clear h7
  refine s_c (v := (-1)) (pc' := 60) (by decide +kernel) ?_
  refine s_a (ins := .ixor) (pc' := 61) (by decide +kernel) rfl ?_
  refine s_a (ins := .iand) (pc' := 62) (by decide +kernel) rfl ?_
  refine kJ6_bitCount_0f7a4 (X := 0) (Y := 0) (X' := 0) (Y' := 0) (pc' := 65) (by decide +kernel) hc0 rfl h8 (fun v13 c hc1 h9 => ?_); clear h8 hc0
  refine s_a (ins := .imul) (pc' := 66) (by decide +kernel) rfl ?_
  refine s_a (ins := .iadd) (pc' := 67) (by decide +kernel) rfl ?_
  have e9 := Option.some.inj h9; subst e9
  exact s_ri (X := 0) (Y := 0) (by decide +kernel) hc1 hF
set_option maxRecDepth 100000 in
set_option maxHeartbeats 4000000 in
def fX7_costOfChange (fu : Nat) (sh : HS) (I : HI) (R : HR) (l0 : Nat) (l1 : Int32) (l2 : Int32) : Option Int32 :=
  if isT sh l0 6 = true then
    ((oR sh R l0 6 6).bind fun v1 =>
    (oA sh I v1 l1).bind fun v2 =>
    (oR sh R l0 6 6).bind fun v3 =>
    (oA sh I v3 l2).bind fun v4 =>
    if v2 = v4 then
      ((fX7_costOfChange_b21 fu sh I R) l0 l1 l2 0)
    else
      ((fX7_costOfChange_b21 fu sh I R) l0 l1 l2 9))
  else none
set_option maxRecDepth 100000 in
set_option maxHeartbeats 4000000 in
theorem vX7_costOfChange {K J : Nat → Nat} {fu : Nat} {sh : HS} {I : HI} {R : HR} {F : VF} {o : Int32} (hF : F (.inl (some (.int o))) sh I R) {l0 : Nat} {l1 : Int32} {l2 : Int32} (h0 : fX7_costOfChange fu sh I R l0 l1 l2 = some o) : V K J 50 0 (ent 5 [.ref l0, .int l1, .int l2]) [] sh I R (0, 0) F := by
  unfold fX7_costOfChange at h0
  obtain ⟨-, h1⟩ := gd h0; clear h0
  have hc0 : ((0 : Nat), (0 : Nat)).1 ≤ 0 ∧ ((0 : Nat), (0 : Nat)).2 ≤ 0 := ⟨Nat.le_refl _, Nat.le_refl _⟩
  show V K J 50 0 [some (.ref l0), some (.int l1), some (.int l2), none, none] [] sh I R (0, 0) F
  refine s_rl (i := 0) (pc' := 1) (by decide +kernel) rfl ?_
  refine s_gR (t := 6) (j := 6) (pc' := 4) (by decide +kernel) h1 (fun v1 h2 => ?_); clear h1
  refine s_il (i := 1) (pc' := 5) (by decide +kernel) rfl ?_
  refine s_al (pc' := 6) (by decide +kernel) h2 (fun v2 h3 => ?_); clear h2
  refine s_rl (i := 0) (pc' := 7) (by decide +kernel) rfl ?_
  refine s_gR (t := 6) (j := 6) (pc' := 10) (by decide +kernel) h3 (fun v3 h4 => ?_); clear h3
  refine s_il (i := 2) (pc' := 11) (by decide +kernel) rfl ?_
  refine s_al (pc' := 12) (by decide +kernel) h4 (fun v4 h5 => ?_); clear h4
  refine s_ifn (ins := .if_icmp .ne 7) (t := 19) (pc' := 15) (by decide +kernel) rfl rfl rfl h5 (fun p6 h6 => ?_) (fun p6 h6 => ?_) <;> clear h5
  · refine s_c (v := 9) (pc' := 21) (by decide +kernel) ?_
    exact (vX7_costOfChange_b21 hF) hc0 h6
  · refine s_c (v := 0) (pc' := 16) (by decide +kernel) ?_
    refine s_go (t := 21) (by decide +kernel) ?_
    exact (vX7_costOfChange_b21 hF) hc0 h6
set_option maxRecDepth 100000 in
set_option maxHeartbeats 4000000 in
theorem kX7_costOfChange {K J : Nat → Nat} {fu : Nat} {sh : HS} {I : HI} {R : HR} {F : VF} {mi pc pc' X Y X' Y' : Nat} {L : VL} {rest : List Value} {c : Nat × Nat} {l0 : Nat} {l1 : Int32} {l2 : Int32} {ω : Type} {o : ω} {g : Int32 → Option ω} (hq : cQ mi pc 50 3 pc' X Y X' Y' = true) (hc : c.1 ≤ X ∧ c.2 ≤ Y) (hr : Nat.ble (catS rest) 8 = true) (h : (fX7_costOfChange fu sh I R l0 l1 l2).bind g = some o) (kk : ∀ v c', (c'.1 ≤ X' ∧ c'.2 ≤ Y') → g v = some o → V K J mi pc' L ((.int v) :: rest) sh I R c' F) : V K J mi pc L (.int l2 :: .int l1 :: .ref l0 :: rest) sh I R c F := by
  obtain ⟨r, h1, h2⟩ := bnd h
  have hT : isT sh l0 6 = true := by unfold fX7_costOfChange at h1; exact (gd h1).1
  have ml : mL 50 = 5 := by decide +kernel
  have mk : mK 50 = 1 := by decide +kernel
  have mc : mC 50 = 6 := by decide +kernel
  refine s_call (as := [.int l2, .int l1, .ref l0]) (G := fun o' sh' I' R' => o' = .inl (some (.int r)) ∧ sh' = sh ∧ I' = I ∧ R' = R) hq hc rfl hr (by rw [ml]; rfl) (Or.inl rfl) (fun _ => Or.inl (Or.inl ⟨by rw [mc]; decide, by rw [mc]; exact isT_iff.mp hT⟩)) (fun z => absurd (mk.symm.trans z) (by decide)) (by rw [ml]; exact vX7_costOfChange (F := fun o' sh' I' R' => o' = .inl (some (.int r)) ∧ sh' = sh ∧ I' = I ∧ R' = R) ⟨rfl, rfl, rfl, rfl⟩ h1) ?_ ?_ ?_
  · rintro sh' I' R' c' hc' ⟨g1, rfl, rfl, rfl⟩
    cases g1
  · rintro v' sh' I' R' c' hc' ⟨g1, rfl, rfl, rfl⟩
    cases g1
    exact kk _ _ hc' h2
  · rintro E' sh' I' R' ⟨g1, rfl, rfl, rfl⟩
    cases g1
set_option maxRecDepth 100000 in
set_option maxHeartbeats 4000000 in
def fX8_placeCamera (fu : Nat) (sh : HS) (I : HI) (R : HR) (l0 : Nat) (l1 : Int32) (l2 : Int32) : Option HI :=
  if isT sh l0 7 = true then
    ((oP sh I l0 7 1 l1).bind fun v1 =>
    (oP sh v1 l0 7 2 l2).bind fun v2 =>
    some v2)
  else none
set_option maxRecDepth 100000 in
set_option maxHeartbeats 4000000 in
theorem vX8_placeCamera {K J : Nat → Nat} {fu : Nat} {sh : HS} {I : HI} {R : HR} {F : VF} {o : HI} (hF : F (.inl none) sh o R) {l0 : Nat} {l1 : Int32} {l2 : Int32} (h0 : fX8_placeCamera fu sh I R l0 l1 l2 = some o) : V K J 52 0 (ent 3 [.ref l0, .int l1, .int l2]) [] sh I R (0, 0) F := by
  unfold fX8_placeCamera at h0
  obtain ⟨-, h1⟩ := gd h0; clear h0
  have hc0 : ((0 : Nat), (0 : Nat)).1 ≤ 0 ∧ ((0 : Nat), (0 : Nat)).2 ≤ 0 := ⟨Nat.le_refl _, Nat.le_refl _⟩
  show V K J 52 0 [some (.ref l0), some (.int l1), some (.int l2)] [] sh I R (0, 0) F
  refine s_rl (i := 0) (pc' := 1) (by decide +kernel) rfl ?_
  refine s_il (i := 1) (pc' := 2) (by decide +kernel) rfl ?_
  refine s_pI (t := 7) (j := 1) (ty := 0) (pc' := 5) (by decide +kernel) (Or.inl rfl) h1 (fun v1 h2 => ?_); clear h1
  refine s_rl (i := 0) (pc' := 6) (by decide +kernel) rfl ?_
  refine s_il (i := 2) (pc' := 7) (by decide +kernel) rfl ?_
  refine s_pI (t := 7) (j := 2) (ty := 0) (pc' := 10) (by decide +kernel) (Or.inl rfl) h2 (fun v2 h3 => ?_); clear h2
  have e9 := Option.some.inj h3; subst e9
  exact s_rv (X := 0) (Y := 0) (by decide +kernel) hc0 hF
set_option maxRecDepth 100000 in
set_option maxHeartbeats 4000000 in
theorem kX8_placeCamera {K J : Nat → Nat} {fu : Nat} {sh : HS} {I : HI} {R : HR} {F : VF} {mi pc pc' X Y X' Y' : Nat} {L : VL} {rest : List Value} {c : Nat × Nat} {l0 : Nat} {l1 : Int32} {l2 : Int32} {ω : Type} {o : ω} {g : HI → Option ω} (hq : cQ mi pc 52 3 pc' X Y X' Y' = true) (hc : c.1 ≤ X ∧ c.2 ≤ Y) (hr : Nat.ble (catS rest) 8 = true) (h : (fX8_placeCamera fu sh I R l0 l1 l2).bind g = some o) (kk : ∀ w c', (c'.1 ≤ X' ∧ c'.2 ≤ Y') → g w = some o → V K J mi pc' L (rest) sh w R c' F) : V K J mi pc L (.int l2 :: .int l1 :: .ref l0 :: rest) sh I R c F := by
  obtain ⟨r, h1, h2⟩ := bnd h
  have hT : isT sh l0 7 = true := by unfold fX8_placeCamera at h1; exact (gd h1).1
  have ml : mL 52 = 3 := by decide +kernel
  have mk : mK 52 = 1 := by decide +kernel
  have mc : mC 52 = 7 := by decide +kernel
  refine s_call (as := [.int l2, .int l1, .ref l0]) (G := fun o' sh' I' R' => o' = .inl none ∧ sh' = sh ∧ I' = r ∧ R' = R) hq hc rfl hr (by rw [ml]; rfl) (Or.inl rfl) (fun _ => Or.inl (Or.inl ⟨by rw [mc]; decide, by rw [mc]; exact isT_iff.mp hT⟩)) (fun z => absurd (mk.symm.trans z) (by decide)) (by rw [ml]; exact vX8_placeCamera (F := fun o' sh' I' R' => o' = .inl none ∧ sh' = sh ∧ I' = r ∧ R' = R) ⟨rfl, rfl, rfl, rfl⟩ h1) ?_ ?_ ?_
  · rintro sh' I' R' c' hc' ⟨g1, rfl, rfl, rfl⟩
    cases g1
    exact kk _ _ hc' h2
  · rintro v' sh' I' R' c' hc' ⟨g1, rfl, rfl, rfl⟩
    cases g1
  · rintro E' sh' I' R' ⟨g1, rfl, rfl, rfl⟩
    cases g1
set_option maxRecDepth 100000 in
set_option maxHeartbeats 4000000 in
def fX9_eyelineOf (fu : Nat) (sh : HS) (I : HI) (R : HR) (l0 : Nat) (l1 : Nat) : Option Int32 :=
  (oI sh I l1 7 4).bind fun v1 =>
  if v1 = (-1) then
    (some (-2))
  else
    ((oR sh R l0 0 5).bind fun v2 =>
    (oI sh I l1 7 0).bind fun v3 =>
    (oB sh R v2 5 v3).bind fun v4 =>
    (oR sh R v4 5 2).bind fun v5 =>
    (oI sh I l1 7 3).bind fun v6 =>
    (oA sh I v5 v6).bind fun v7 =>
    (oR sh R v4 5 3).bind fun v8 =>
    (oI sh I l1 7 3).bind fun v9 =>
    (oA sh I v8 v9).bind fun v10 =>
    (oI sh I l1 7 4).bind fun v11 =>
    (fX6_isActorAt fu sh I R v4 v11 v7 v10).bind fun v12 =>
    if v12 = 0 then
      ((oR sh R v4 5 2).bind fun v13 =>
      (oI sh I l1 7 4).bind fun v14 =>
      (oA sh I v13 v14).bind fun v15 =>
      (oR sh R v4 5 3).bind fun v16 =>
      (oI sh I l1 7 4).bind fun v17 =>
      (oA sh I v16 v17).bind fun v18 =>
      (fX10_directionNumber fu sh I R (v15 - v7) (v18 - v10)).bind fun v19 =>
      (oI sh I l1 7 1).bind fun v20 =>
      (oI sh I l1 7 2).bind fun v21 =>
      (fX10_directionNumber fu sh I R (v20 - v7) (v21 - v10)).bind fun v22 =>
      (fX10_turnBetween fu sh I R v19 v22).bind fun v23 =>
      some v23)
    else
      (some (-3)))
set_option maxRecDepth 100000 in
set_option maxHeartbeats 4000000 in
theorem vX9_eyelineOf {K J : Nat → Nat} {fu : Nat} {sh : HS} {I : HI} {R : HR} {F : VF} {o : Int32} (hF : F (.inl (some (.int o))) sh I R) {l0 : Nat} {l1 : Nat} (h0 : fX9_eyelineOf fu sh I R l0 l1 = some o) : V K J 58 0 (ent 5 [.ref l0, .ref l1]) [] sh I R (0, 0) F := by
  unfold fX9_eyelineOf at h0
  have h1 := h0; clear h0
  have hc0 : ((0 : Nat), (0 : Nat)).1 ≤ 0 ∧ ((0 : Nat), (0 : Nat)).2 ≤ 0 := ⟨Nat.le_refl _, Nat.le_refl _⟩
  show V K J 58 0 [some (.ref l0), some (.ref l1), none, none, none] [] sh I R (0, 0) F
  refine s_rl (i := 1) (pc' := 1) (by decide +kernel) rfl ?_
  refine s_gI (t := 7) (j := 4) (ty := 0) (pc' := 4) (by decide +kernel) rfl h1 (fun v1 h2 => ?_); clear h1
  refine s_c (v := (-1)) (pc' := 5) (by decide +kernel) ?_
  refine s_ifn (ins := .if_icmp .ne 6) (t := 11) (pc' := 8) (by decide +kernel) rfl rfl rfl h2 (fun p3 h3 => ?_) (fun p3 h3 => ?_) <;> clear h2
  · refine s_rl (i := 0) (pc' := 12) (by decide +kernel) rfl ?_
    refine s_gR (t := 0) (j := 5) (pc' := 15) (by decide +kernel) h3 (fun v2 h4 => ?_); clear h3
    refine s_rl (i := 1) (pc' := 16) (by decide +kernel) rfl ?_
    refine s_gI (t := 7) (j := 0) (ty := 0) (pc' := 19) (by decide +kernel) rfl h4 (fun v3 h5 => ?_); clear h4
    refine s_aal (t := 5) (pc' := 20) (by decide +kernel) h5 (fun v4 h6 => ?_); clear h5
    refine s_rs (i := 2) (pc' := 21) (L' := [some (.ref l0), some (.ref l1), some (.ref v4), none, none]) (by decide +kernel) rfl rfl ?_
    refine s_rl (i := 2) (pc' := 22) (by decide +kernel) rfl ?_
    refine s_gR (t := 5) (j := 2) (pc' := 25) (by decide +kernel) h6 (fun v5 h7 => ?_); clear h6
    refine s_rl (i := 1) (pc' := 26) (by decide +kernel) rfl ?_
    refine s_gI (t := 7) (j := 3) (ty := 0) (pc' := 29) (by decide +kernel) rfl h7 (fun v6 h8 => ?_); clear h7
    refine s_al (pc' := 30) (by decide +kernel) h8 (fun v7 h9 => ?_); clear h8
    refine s_is (i := 3) (pc' := 31) (L' := [some (.ref l0), some (.ref l1), some (.ref v4), some (.int v7), none]) (by decide +kernel) rfl rfl ?_
    refine s_rl (i := 2) (pc' := 32) (by decide +kernel) rfl ?_
    refine s_gR (t := 5) (j := 3) (pc' := 35) (by decide +kernel) h9 (fun v8 h10 => ?_); clear h9
    refine s_rl (i := 1) (pc' := 36) (by decide +kernel) rfl ?_
    refine s_gI (t := 7) (j := 3) (ty := 0) (pc' := 39) (by decide +kernel) rfl h10 (fun v9 h11 => ?_); clear h10
    refine s_al (pc' := 40) (by decide +kernel) h11 (fun v10 h12 => ?_); clear h11
    refine s_is (i := 4) (pc' := 42) (L' := [some (.ref l0), some (.ref l1), some (.ref v4), some (.int v7), some (.int v10)]) (by decide +kernel) rfl rfl ?_
    refine s_rl (i := 2) (pc' := 43) (by decide +kernel) rfl ?_
    refine s_rl (i := 1) (pc' := 44) (by decide +kernel) rfl ?_
    refine s_gI (t := 7) (j := 4) (ty := 0) (pc' := 47) (by decide +kernel) rfl h12 (fun v11 h13 => ?_); clear h12
    refine s_il (i := 3) (pc' := 48) (by decide +kernel) rfl ?_
    refine s_il (i := 4) (pc' := 50) (by decide +kernel) rfl ?_
    refine kX6_isActorAt (X := 0) (Y := 0) (X' := 0) (Y' := 0) (pc' := 53) (by decide +kernel) hc0 rfl h13 (fun v12 c hc1 h14 => ?_); clear h13 hc0
    refine s_if (ins := .ifCond .eq 6) (t := 59) (pc' := 56) (by decide +kernel) rfl rfl rfl h14 (fun p15 h15 => ?_) (fun p15 h15 => ?_) <;> clear h14
    · refine s_rl (i := 2) (pc' := 60) (by decide +kernel) rfl ?_
      refine s_gR (t := 5) (j := 2) (pc' := 63) (by decide +kernel) h15 (fun v13 h16 => ?_); clear h15
      refine s_rl (i := 1) (pc' := 64) (by decide +kernel) rfl ?_
      refine s_gI (t := 7) (j := 4) (ty := 0) (pc' := 67) (by decide +kernel) rfl h16 (fun v14 h17 => ?_); clear h16
      refine s_al (pc' := 68) (by decide +kernel) h17 (fun v15 h18 => ?_); clear h17
      refine s_il (i := 3) (pc' := 69) (by decide +kernel) rfl ?_
      refine s_a (ins := .isub) (pc' := 70) (by decide +kernel) rfl ?_
      refine s_rl (i := 2) (pc' := 71) (by decide +kernel) rfl ?_
      refine s_gR (t := 5) (j := 3) (pc' := 74) (by decide +kernel) h18 (fun v16 h19 => ?_); clear h18
      refine s_rl (i := 1) (pc' := 75) (by decide +kernel) rfl ?_
      refine s_gI (t := 7) (j := 4) (ty := 0) (pc' := 78) (by decide +kernel) rfl h19 (fun v17 h20 => ?_); clear h19
      refine s_al (pc' := 79) (by decide +kernel) h20 (fun v18 h21 => ?_); clear h20
      refine s_il (i := 4) (pc' := 81) (by decide +kernel) rfl ?_
      refine s_a (ins := .isub) (pc' := 82) (by decide +kernel) rfl ?_
      refine kX10_directionNumber (X := 0) (Y := 0) (X' := 0) (Y' := 0) (pc' := 85) (by decide +kernel) hc1 rfl h21 (fun v19 c hc2 h22 => ?_); clear h21 hc1
      refine s_rl (i := 1) (pc' := 86) (by decide +kernel) rfl ?_
      refine s_gI (t := 7) (j := 1) (ty := 0) (pc' := 89) (by decide +kernel) rfl h22 (fun v20 h23 => ?_); clear h22
      refine s_il (i := 3) (pc' := 90) (by decide +kernel) rfl ?_
      refine s_a (ins := .isub) (pc' := 91) (by decide +kernel) rfl ?_
      refine s_rl (i := 1) (pc' := 92) (by decide +kernel) rfl ?_
      refine s_gI (t := 7) (j := 2) (ty := 0) (pc' := 95) (by decide +kernel) rfl h23 (fun v21 h24 => ?_); clear h23
      refine s_il (i := 4) (pc' := 97) (by decide +kernel) rfl ?_
      refine s_a (ins := .isub) (pc' := 98) (by decide +kernel) rfl ?_
      refine kX10_directionNumber (X := 0) (Y := 0) (X' := 0) (Y' := 0) (pc' := 101) (by decide +kernel) hc2 rfl h24 (fun v22 c hc3 h25 => ?_); clear h24 hc2
      refine kX10_turnBetween (X := 0) (Y := 0) (X' := 0) (Y' := 0) (pc' := 104) (by decide +kernel) hc3 rfl h25 (fun v23 c hc4 h26 => ?_); clear h25 hc3
      have e9 := Option.some.inj h26; subst e9
      exact s_ri (X := 0) (Y := 0) (by decide +kernel) hc4 hF
    · refine s_c (v := (-3)) (pc' := 58) (by decide +kernel) ?_
      have e9 := Option.some.inj h15; subst e9
      exact s_ri (X := 0) (Y := 0) (by decide +kernel) hc1 hF
  · refine s_c (v := (-2)) (pc' := 10) (by decide +kernel) ?_
    have e9 := Option.some.inj h3; subst e9
    exact s_ri (X := 0) (Y := 0) (by decide +kernel) hc0 hF
set_option maxRecDepth 100000 in
set_option maxHeartbeats 4000000 in
theorem kX9_eyelineOf {K J : Nat → Nat} {fu : Nat} {sh : HS} {I : HI} {R : HR} {F : VF} {mi pc pc' X Y X' Y' : Nat} {L : VL} {rest : List Value} {c : Nat × Nat} {l0 : Nat} {l1 : Nat} {ω : Type} {o : ω} {g : Int32 → Option ω} (hq : cQ mi pc 58 2 pc' X Y X' Y' = true) (hc : c.1 ≤ X ∧ c.2 ≤ Y) (hr : Nat.ble (catS rest) 8 = true) (h : (fX9_eyelineOf fu sh I R l0 l1).bind g = some o) (kk : ∀ v c', (c'.1 ≤ X' ∧ c'.2 ≤ Y') → g v = some o → V K J mi pc' L ((.int v) :: rest) sh I R c' F) : V K J mi pc L (.ref l1 :: .ref l0 :: rest) sh I R c F := by
  obtain ⟨r, h1, h2⟩ := bnd h
  have ml : mL 58 = 5 := by decide +kernel
  have mk : mK 58 = 0 := by decide +kernel
  refine s_call (as := [.ref l1, .ref l0]) (G := fun o' sh' I' R' => o' = .inl (some (.int r)) ∧ sh' = sh ∧ I' = I ∧ R' = R) hq hc rfl hr (by rw [ml]; rfl) (Or.inl rfl) (fun z => absurd (mk.symm.trans z) (by decide)) (fun z => absurd (mk.symm.trans z) (by decide)) (by rw [ml]; exact vX9_eyelineOf (F := fun o' sh' I' R' => o' = .inl (some (.int r)) ∧ sh' = sh ∧ I' = I ∧ R' = R) ⟨rfl, rfl, rfl, rfl⟩ h1) ?_ ?_ ?_
  · rintro sh' I' R' c' hc' ⟨g1, rfl, rfl, rfl⟩
    cases g1
  · rintro v' sh' I' R' c' hc' ⟨g1, rfl, rfl, rfl⟩
    cases g1
    exact kk _ _ hc' h2
  · rintro E' sh' I' R' ⟨g1, rfl, rfl, rfl⟩
    cases g1
set_option maxRecDepth 100000 in
set_option maxHeartbeats 4000000 in
def fX10_putFourBytes_b3 (fu : Nat) (sh : HS) (R : HR) (k3 : HI → Nat → Int32 → Int32 → Option HI) (k49 : HI → Option HI) (I : HI) (l0 : Nat) (l1 : Int32) (l2 : Int32) : Option HI :=
  if l2 < 0 then
    (k49 I)
  else
    ((oI sh I l0 8 1).bind fun v1 =>
    if 800 ≤ v1 then
      (k49 I)
    else
      ((oR sh R l0 8 0).bind fun v2 =>
      (oI sh I l0 8 1).bind fun v3 =>
      (oS sh I v2 v3 ((iShr l1 l2) &&& 255)).bind fun v4 =>
      (oI sh v4 l0 8 1).bind fun v5 =>
      (oP sh v4 l0 8 1 (v5 + 1)).bind fun v6 =>
      k3 v6 l0 l1 (l2 + (-8))))
set_option maxRecDepth 100000 in
set_option maxHeartbeats 4000000 in
theorem vX10_putFourBytes_b3 {K J : Nat → Nat} {fu : Nat} {sh : HS} {R : HR} {F : VF} {o : HI} (hF : F (.inl none) sh o R) {k3 : HI → Nat → Int32 → Int32 → Option HI} {k49 : HI → Option HI} (hk3 : ∀ {I : HI} {l0 : Nat} {l1 : Int32} {l2 : Int32}  {c : Nat × Nat}, (c.1 ≤ 0 ∧ c.2 ≤ 0) → k3 I l0 l1 l2 = some o → V K J 63 3 [some (.ref l0), some (.int l1), some (.int l2)] [] sh I R c F) (hk49 : ∀ {I : HI} {d0 d1 d2 : Option Value} {c : Nat × Nat}, (c.1 ≤ 0 ∧ c.2 ≤ 0) → k49 I = some o → V K J 63 49 [d0, d1, d2] [] sh I R c F) {I : HI} {l0 : Nat} {l1 : Int32} {l2 : Int32} {c : Nat × Nat} (hc0 : c.1 ≤ 0 ∧ c.2 ≤ 0) (h0 : fX10_putFourBytes_b3 fu sh R k3 k49 I l0 l1 l2 = some o) : V K J 63 3 [some (.ref l0), some (.int l1), some (.int l2)] [] sh I R c F := by
  unfold fX10_putFourBytes_b3 at h0
  refine s_il (i := 2) (pc' := 4) (by decide +kernel) rfl ?_
  refine s_if (ins := .ifCond .lt 45) (t := 49) (pc' := 7) (by decide +kernel) rfl rfl rfl h0 (fun p1 h1 => ?_) (fun p1 h1 => ?_) <;> clear h0
  · exact hk49 hc0 h1
  · refine s_rl (i := 0) (pc' := 8) (by decide +kernel) rfl ?_
    refine s_gI (t := 8) (j := 1) (ty := 0) (pc' := 11) (by decide +kernel) rfl h1 (fun v1 h2 => ?_); clear h1
    refine s_c (v := 800) (pc' := 14) (by decide +kernel) ?_
    refine s_if (ins := .if_icmp .ge 35) (t := 49) (pc' := 17) (by decide +kernel) rfl rfl rfl h2 (fun p3 h3 => ?_) (fun p3 h3 => ?_) <;> clear h2
    · exact hk49 hc0 h3
    · refine s_rl (i := 0) (pc' := 18) (by decide +kernel) rfl ?_
      refine s_gR (t := 8) (j := 0) (pc' := 21) (by decide +kernel) h3 (fun v2 h4 => ?_); clear h3
      refine s_rl (i := 0) (pc' := 22) (by decide +kernel) rfl ?_
      refine s_gI (t := 8) (j := 1) (ty := 0) (pc' := 25) (by decide +kernel) rfl h4 (fun v3 h5 => ?_); clear h4
      refine s_il (i := 1) (pc' := 26) (by decide +kernel) rfl ?_
      refine s_il (i := 2) (pc' := 27) (by decide +kernel) rfl ?_
      refine s_a (ins := .iushr) (pc' := 28) (by decide +kernel) rfl ?_
      refine s_c (v := 255) (pc' := 31) (by decide +kernel) ?_
      refine s_a (ins := .iand) (pc' := 32) (by decide +kernel) rfl ?_
      refine s_as (pc' := 33) (by decide +kernel) h5 (fun v4 h6 => ?_); clear h5
      refine s_rl (i := 0) (pc' := 34) (by decide +kernel) rfl ?_
      refine s_a (ins := .dup) (pc' := 35) (by decide +kernel) rfl ?_
      refine s_gI (t := 8) (j := 1) (ty := 0) (pc' := 38) (by decide +kernel) rfl h6 (fun v5 h7 => ?_); clear h6
      refine s_c (v := 1) (pc' := 39) (by decide +kernel) ?_
      refine s_a (ins := .iadd) (pc' := 40) (by decide +kernel) rfl ?_
      refine s_pI (t := 8) (j := 1) (ty := 0) (pc' := 43) (by decide +kernel) (Or.inl rfl) h7 (fun v6 h8 => ?_); clear h7
      refine s_inc (i := 2) (z := (-8)) (pc' := 46) (L' := [some (.ref l0), some (.int l1), some (.int (l2 + (-8)))]) (by decide +kernel) rfl rfl rfl ?_
      refine s_go (t := 3) (by decide +kernel) ?_
      exact hk3 hc0 h8
set_option maxRecDepth 100000 in
set_option maxHeartbeats 4000000 in
def fX10_putFourBytes_l3 (fu : Nat) (sh : HS) (R : HR) (k49 : HI → Option HI) : Nat → HI → Nat → Int32 → Int32 → Option HI
  | 0 => fun _ _ _ _ => none
  | n + 1 => fX10_putFourBytes_b3 fu sh R (fX10_putFourBytes_l3 fu sh R k49 n) k49
set_option maxRecDepth 100000 in
set_option maxHeartbeats 4000000 in
theorem vX10_putFourBytes_l3 {K J : Nat → Nat} {fu : Nat} {sh : HS} {R : HR} {F : VF} {o : HI} (hF : F (.inl none) sh o R) {k49 : HI → Option HI} (hk49 : ∀ {I : HI} {d0 d1 d2 : Option Value} {c : Nat × Nat}, (c.1 ≤ 0 ∧ c.2 ≤ 0) → k49 I = some o → V K J 63 49 [d0, d1, d2] [] sh I R c F) : ∀ (n : Nat) {I : HI} {l0 : Nat} {l1 : Int32} {l2 : Int32} {c : Nat × Nat} (_ : c.1 ≤ 0 ∧ c.2 ≤ 0) (_ : fX10_putFourBytes_l3 fu sh R k49 n I l0 l1 l2 = some o), V K J 63 3 [some (.ref l0), some (.int l1), some (.int l2)] [] sh I R c F := by
  intro n
  induction n with
  | zero => exact fun _ h0 => nomatch h0
  | succ n ih => exact fun hc0 h0 => vX10_putFourBytes_b3 hF ih hk49 hc0 h0
set_option maxRecDepth 100000 in
set_option maxHeartbeats 4000000 in
def fX10_putFourBytes_b49 (fu : Nat) (sh : HS) (R : HR) (I : HI) : Option HI :=
  some I
set_option maxRecDepth 100000 in
set_option maxHeartbeats 4000000 in
theorem vX10_putFourBytes_b49 {K J : Nat → Nat} {fu : Nat} {sh : HS} {R : HR} {F : VF} {o : HI} (hF : F (.inl none) sh o R) {I : HI} {d0 d1 d2 : Option Value} {c : Nat × Nat} (hc0 : c.1 ≤ 0 ∧ c.2 ≤ 0) (h0 : fX10_putFourBytes_b49 fu sh R I = some o) : V K J 63 49 [d0, d1, d2] [] sh I R c F := by
  unfold fX10_putFourBytes_b49 at h0
  have e9 := Option.some.inj h0; subst e9
  exact s_rv (X := 0) (Y := 0) (by decide +kernel) hc0 hF
set_option maxRecDepth 100000 in
set_option maxHeartbeats 4000000 in
def fX10_putFourBytes (fu : Nat) (sh : HS) (I : HI) (R : HR) (l0 : Nat) (l1 : Int32) : Option HI :=
  if isT sh l0 8 = true then
    ((fX10_putFourBytes_l3 fu sh R (fX10_putFourBytes_b49 fu sh R) fu) I l0 l1 24)
  else none
set_option maxRecDepth 100000 in
set_option maxHeartbeats 4000000 in
theorem vX10_putFourBytes {K J : Nat → Nat} {fu : Nat} {sh : HS} {I : HI} {R : HR} {F : VF} {o : HI} (hF : F (.inl none) sh o R) {l0 : Nat} {l1 : Int32} (h0 : fX10_putFourBytes fu sh I R l0 l1 = some o) : V K J 63 0 (ent 3 [.ref l0, .int l1]) [] sh I R (0, 0) F := by
  unfold fX10_putFourBytes at h0
  obtain ⟨-, h1⟩ := gd h0; clear h0
  have hc0 : ((0 : Nat), (0 : Nat)).1 ≤ 0 ∧ ((0 : Nat), (0 : Nat)).2 ≤ 0 := ⟨Nat.le_refl _, Nat.le_refl _⟩
  show V K J 63 0 [some (.ref l0), some (.int l1), none] [] sh I R (0, 0) F
  refine s_c (v := 24) (pc' := 2) (by decide +kernel) ?_
  refine s_is (i := 2) (pc' := 3) (L' := [some (.ref l0), some (.int l1), some (.int 24)]) (by decide +kernel) rfl rfl ?_
  exact (vX10_putFourBytes_l3 hF (vX10_putFourBytes_b49 hF) fu) hc0 h1
set_option maxRecDepth 100000 in
set_option maxHeartbeats 4000000 in
theorem kX10_putFourBytes {K J : Nat → Nat} {fu : Nat} {sh : HS} {I : HI} {R : HR} {F : VF} {mi pc pc' X Y X' Y' : Nat} {L : VL} {rest : List Value} {c : Nat × Nat} {l0 : Nat} {l1 : Int32} {ω : Type} {o : ω} {g : HI → Option ω} (hq : cQ mi pc 63 2 pc' X Y X' Y' = true) (hc : c.1 ≤ X ∧ c.2 ≤ Y) (hr : Nat.ble (catS rest) 8 = true) (h : (fX10_putFourBytes fu sh I R l0 l1).bind g = some o) (kk : ∀ w c', (c'.1 ≤ X' ∧ c'.2 ≤ Y') → g w = some o → V K J mi pc' L (rest) sh w R c' F) : V K J mi pc L (.int l1 :: .ref l0 :: rest) sh I R c F := by
  obtain ⟨r, h1, h2⟩ := bnd h
  have hT : isT sh l0 8 = true := by unfold fX10_putFourBytes at h1; exact (gd h1).1
  have ml : mL 63 = 3 := by decide +kernel
  have mk : mK 63 = 1 := by decide +kernel
  have mc : mC 63 = 8 := by decide +kernel
  refine s_call (as := [.int l1, .ref l0]) (G := fun o' sh' I' R' => o' = .inl none ∧ sh' = sh ∧ I' = r ∧ R' = R) hq hc rfl hr (by rw [ml]; rfl) (Or.inl rfl) (fun _ => Or.inl (Or.inl ⟨by rw [mc]; decide, by rw [mc]; exact isT_iff.mp hT⟩)) (fun z => absurd (mk.symm.trans z) (by decide)) (by rw [ml]; exact vX10_putFourBytes (F := fun o' sh' I' R' => o' = .inl none ∧ sh' = sh ∧ I' = r ∧ R' = R) ⟨rfl, rfl, rfl, rfl⟩ h1) ?_ ?_ ?_
  · rintro sh' I' R' c' hc' ⟨g1, rfl, rfl, rfl⟩
    cases g1
    exact kk _ _ hc' h2
  · rintro v' sh' I' R' c' hc' ⟨g1, rfl, rfl, rfl⟩
    cases g1
  · rintro E' sh' I' R' ⟨g1, rfl, rfl, rfl⟩
    cases g1
set_option maxRecDepth 100000 in
set_option maxHeartbeats 4000000 in
def fX10_append (fu : Nat) (sh : HS) (I : HI) (R : HR) (l0 : Nat) (l1 : Int32) (l2 : Int32) (l3 : Int32) (l4 : Int32) (l5 : Int32) : Option ((Int32 ⊕ String) × HI) :=
  if isT sh l0 8 = true then
    ((oI sh I l0 8 1).bind fun v1 =>
    if (v1 + 20) ≤ 800 then
      ((fX10_putFourBytes fu sh I R l0 l1).bind fun w2 =>
      (fX10_putFourBytes fu sh w2 R l0 l2).bind fun w3 =>
      (fX10_putFourBytes fu sh w3 R l0 l3).bind fun w4 =>
      (fX10_putFourBytes fu sh w4 R l0 l4).bind fun w5 =>
      (fX10_putFourBytes fu sh w5 R l0 l5).bind fun w6 =>
      (oI sh w6 l0 8 1).bind fun v7 =>
      some (.inl v7, w6))
    else
      (some (.inr "java/lang/IllegalStateException", I)))
  else none
set_option maxRecDepth 100000 in
set_option maxHeartbeats 4000000 in
theorem vX10_append {K J : Nat → Nat} {fu : Nat} {sh : HS} {I : HI} {R : HR} {F : VF} {o : ((Int32 ⊕ String) × HI)} (hF : F (voI o.1) sh o.2 R) {l0 : Nat} {l1 : Int32} {l2 : Int32} {l3 : Int32} {l4 : Int32} {l5 : Int32} (h0 : fX10_append fu sh I R l0 l1 l2 l3 l4 l5 = some o) : V K J 62 0 (ent 6 [.ref l0, .int l1, .int l2, .int l3, .int l4, .int l5]) [] sh I R (0, 0) F := by
  unfold fX10_append at h0
  obtain ⟨-, h1⟩ := gd h0; clear h0
  have hc0 : ((0 : Nat), (0 : Nat)).1 ≤ 0 ∧ ((0 : Nat), (0 : Nat)).2 ≤ 0 := ⟨Nat.le_refl _, Nat.le_refl _⟩
  show V K J 62 0 [some (.ref l0), some (.int l1), some (.int l2), some (.int l3), some (.int l4), some (.int l5)] [] sh I R (0, 0) F
  refine s_rl (i := 0) (pc' := 1) (by decide +kernel) rfl ?_
  refine s_gI (t := 8) (j := 1) (ty := 0) (pc' := 4) (by decide +kernel) rfl h1 (fun v1 h2 => ?_); clear h1
  refine s_c (v := 20) (pc' := 6) (by decide +kernel) ?_
  refine s_a (ins := .iadd) (pc' := 7) (by decide +kernel) rfl ?_
  refine s_c (v := 800) (pc' := 10) (by decide +kernel) ?_
  refine s_if (ins := .if_icmp .le 13) (t := 23) (pc' := 13) (by decide +kernel) rfl rfl rfl h2 (fun p3 h3 => ?_) (fun p3 h3 => ?_) <;> clear h2
  · refine s_rl (i := 0) (pc' := 24) (by decide +kernel) rfl ?_
    refine s_il (i := 1) (pc' := 25) (by decide +kernel) rfl ?_
    refine kX10_putFourBytes (X := 0) (Y := 0) (X' := 0) (Y' := 0) (pc' := 28) (by decide +kernel) hc0 rfl h3 (fun w2 c hc1 h4 => ?_); clear h3 hc0
    refine s_rl (i := 0) (pc' := 29) (by decide +kernel) rfl ?_
    refine s_il (i := 2) (pc' := 30) (by decide +kernel) rfl ?_
    refine kX10_putFourBytes (X := 0) (Y := 0) (X' := 0) (Y' := 0) (pc' := 33) (by decide +kernel) hc1 rfl h4 (fun w3 c hc2 h5 => ?_); clear h4 hc1
    refine s_rl (i := 0) (pc' := 34) (by decide +kernel) rfl ?_
    refine s_il (i := 3) (pc' := 35) (by decide +kernel) rfl ?_
    refine kX10_putFourBytes (X := 0) (Y := 0) (X' := 0) (Y' := 0) (pc' := 38) (by decide +kernel) hc2 rfl h5 (fun w4 c hc3 h6 => ?_); clear h5 hc2
    refine s_rl (i := 0) (pc' := 39) (by decide +kernel) rfl ?_
    refine s_il (i := 4) (pc' := 41) (by decide +kernel) rfl ?_
    refine kX10_putFourBytes (X := 0) (Y := 0) (X' := 0) (Y' := 0) (pc' := 44) (by decide +kernel) hc3 rfl h6 (fun w5 c hc4 h7 => ?_); clear h6 hc3
    refine s_rl (i := 0) (pc' := 45) (by decide +kernel) rfl ?_
    refine s_il (i := 5) (pc' := 47) (by decide +kernel) rfl ?_
    refine kX10_putFourBytes (X := 0) (Y := 0) (X' := 0) (Y' := 0) (pc' := 50) (by decide +kernel) hc4 rfl h7 (fun w6 c hc5 h8 => ?_); clear h7 hc4
    refine s_rl (i := 0) (pc' := 51) (by decide +kernel) rfl ?_
    refine s_gI (t := 8) (j := 1) (ty := 0) (pc' := 54) (by decide +kernel) rfl h8 (fun v7 h9 => ?_); clear h8
    have e9 := Option.some.inj h9; subst e9
    exact s_ri (X := 0) (Y := 0) (by decide +kernel) hc5 hF
  · have e9 := Option.some.inj h3; subst e9
    exact s_th (E := "java/lang/IllegalStateException") (X := 0) (Y := 0) (by decide +kernel) hc0 rfl hF
set_option maxRecDepth 100000 in
set_option maxHeartbeats 4000000 in
theorem kX10_append {K J : Nat → Nat} {fu : Nat} {sh : HS} {I : HI} {R : HR} {F : VF} {mi pc pc' X Y X' Y' : Nat} {L : VL} {rest : List Value} {c : Nat × Nat} {l0 : Nat} {l1 : Int32} {l2 : Int32} {l3 : Int32} {l4 : Int32} {l5 : Int32} {ω : Type} {o : ω} {e : String → HI → Option ω} {g : Int32 → HI → Option ω} (hq : cQ mi pc 62 6 pc' X Y X' Y' = true) (hc : c.1 ≤ X ∧ c.2 ≤ Y) (hr : Nat.ble (catS rest) 8 = true) (h : oTh (fX10_append fu sh I R l0 l1 l2 l3 l4 l5) e g = some o) (kk : ∀ v w c', (c'.1 ≤ X' ∧ c'.2 ≤ Y') → g v w = some o → V K J mi pc' L ((.int v) :: rest) sh w R c' F) (kx : ∀ E w, e E w = some o → F (.inr E) sh w R) : V K J mi pc L (.int l5 :: .int l4 :: .int l3 :: .int l2 :: .int l1 :: .ref l0 :: rest) sh I R c F := by
  obtain ⟨r, h1, h2⟩ := bnd h
  have hT : isT sh l0 8 = true := by unfold fX10_append at h1; exact (gd h1).1
  have ml : mL 62 = 6 := by decide +kernel
  have mk : mK 62 = 1 := by decide +kernel
  have mc : mC 62 = 8 := by decide +kernel
  obtain ⟨r, w⟩ := r
  rcases r with v | E
  · refine s_call (as := [.int l5, .int l4, .int l3, .int l2, .int l1, .ref l0]) (G := fun o' sh' I' R' => o' = .inl (some (.int v)) ∧ sh' = sh ∧ I' = w ∧ R' = R) hq hc rfl hr (by rw [ml]; rfl) (Or.inl rfl) (fun _ => Or.inl (Or.inl ⟨by rw [mc]; decide, by rw [mc]; exact isT_iff.mp hT⟩)) (fun z => absurd (mk.symm.trans z) (by decide)) (by rw [ml]; exact vX10_append (F := fun o' sh' I' R' => o' = .inl (some (.int v)) ∧ sh' = sh ∧ I' = w ∧ R' = R) ⟨rfl, rfl, rfl, rfl⟩ h1) ?_ ?_ ?_
    · rintro sh' I' R' c' hc' ⟨g1, rfl, rfl, rfl⟩
      cases g1
    · rintro v' sh' I' R' c' hc' ⟨g1, rfl, rfl, rfl⟩
      cases g1
      exact kk _ _ _ hc' h2
    · rintro E' sh' I' R' ⟨g1, rfl, rfl, rfl⟩
      cases g1
  · refine s_call (as := [.int l5, .int l4, .int l3, .int l2, .int l1, .ref l0]) (G := fun o' sh' I' R' => o' = .inr E ∧ sh' = sh ∧ I' = w ∧ R' = R) hq hc rfl hr (by rw [ml]; rfl) (Or.inl rfl) (fun _ => Or.inl (Or.inl ⟨by rw [mc]; decide, by rw [mc]; exact isT_iff.mp hT⟩)) (fun z => absurd (mk.symm.trans z) (by decide)) (by rw [ml]; exact vX10_append (F := fun o' sh' I' R' => o' = .inr E ∧ sh' = sh ∧ I' = w ∧ R' = R) ⟨rfl, rfl, rfl, rfl⟩ h1) ?_ ?_ ?_
    · rintro sh' I' R' c' hc' ⟨g1, rfl, rfl, rfl⟩
      cases g1
    · rintro v' sh' I' R' c' hc' ⟨g1, rfl, rfl, rfl⟩
      cases g1
    · rintro E' sh' I' R' ⟨g1, rfl, rfl, rfl⟩
      cases g1
      exact kx _ _ h2
set_option maxRecDepth 100000 in
set_option maxHeartbeats 4000000 in
def fX10_truncate_b12 (fu : Nat) (sh : HS) (R : HR) (I : HI) : Option ((Int32 ⊕ String) × HI) :=
  some (.inr "java/lang/IllegalArgumentException", I)
set_option maxRecDepth 100000 in
set_option maxHeartbeats 4000000 in
theorem vX10_truncate_b12 {K J : Nat → Nat} {fu : Nat} {sh : HS} {R : HR} {F : VF} {o : ((Int32 ⊕ String) × HI)} (hF : F (voI o.1) sh o.2 R) {I : HI} {d0 d1 : Option Value} {c : Nat × Nat} (hc0 : c.1 ≤ 0 ∧ c.2 ≤ 0) (h0 : fX10_truncate_b12 fu sh R I = some o) : V K J 64 12 [d0, d1] [] sh I R c F := by
  unfold fX10_truncate_b12 at h0
  have e9 := Option.some.inj h0; subst e9
  exact s_th (E := "java/lang/IllegalArgumentException") (X := 0) (Y := 0) (by decide +kernel) hc0 rfl hF
set_option maxRecDepth 100000 in
set_option maxHeartbeats 4000000 in
def fX10_truncate (fu : Nat) (sh : HS) (I : HI) (R : HR) (l0 : Nat) (l1 : Int32) : Option ((Int32 ⊕ String) × HI) :=
  if isT sh l0 8 = true then
    (if l1 < 0 then
      ((fX10_truncate_b12 fu sh R) I)
    else
      ((oI sh I l0 8 1).bind fun v1 =>
      if l1 ≤ v1 then
        ((oP sh I l0 8 1 l1).bind fun v2 =>
        (oI sh v2 l0 8 1).bind fun v3 =>
        some (.inl v3, v2))
      else
        ((fX10_truncate_b12 fu sh R) I)))
  else none
set_option maxRecDepth 100000 in
set_option maxHeartbeats 4000000 in
theorem vX10_truncate {K J : Nat → Nat} {fu : Nat} {sh : HS} {I : HI} {R : HR} {F : VF} {o : ((Int32 ⊕ String) × HI)} (hF : F (voI o.1) sh o.2 R) {l0 : Nat} {l1 : Int32} (h0 : fX10_truncate fu sh I R l0 l1 = some o) : V K J 64 0 (ent 2 [.ref l0, .int l1]) [] sh I R (0, 0) F := by
  unfold fX10_truncate at h0
  obtain ⟨-, h1⟩ := gd h0; clear h0
  have hc0 : ((0 : Nat), (0 : Nat)).1 ≤ 0 ∧ ((0 : Nat), (0 : Nat)).2 ≤ 0 := ⟨Nat.le_refl _, Nat.le_refl _⟩
  show V K J 64 0 [some (.ref l0), some (.int l1)] [] sh I R (0, 0) F
  refine s_il (i := 1) (pc' := 1) (by decide +kernel) rfl ?_
  refine s_if (ins := .ifCond .lt 11) (t := 12) (pc' := 4) (by decide +kernel) rfl rfl rfl h1 (fun p2 h2 => ?_) (fun p2 h2 => ?_) <;> clear h1
  · exact (vX10_truncate_b12 hF) hc0 h2
  · refine s_il (i := 1) (pc' := 5) (by decide +kernel) rfl ?_
    refine s_rl (i := 0) (pc' := 6) (by decide +kernel) rfl ?_
    refine s_gI (t := 8) (j := 1) (ty := 0) (pc' := 9) (by decide +kernel) rfl h2 (fun v1 h3 => ?_); clear h2
    refine s_if (ins := .if_icmp .le 13) (t := 22) (pc' := 12) (by decide +kernel) rfl rfl rfl h3 (fun p4 h4 => ?_) (fun p4 h4 => ?_) <;> clear h3
    · refine s_rl (i := 0) (pc' := 23) (by decide +kernel) rfl ?_
      refine s_il (i := 1) (pc' := 24) (by decide +kernel) rfl ?_
      refine s_pI (t := 8) (j := 1) (ty := 0) (pc' := 27) (by decide +kernel) (Or.inl rfl) h4 (fun v2 h5 => ?_); clear h4
      refine s_rl (i := 0) (pc' := 28) (by decide +kernel) rfl ?_
      refine s_gI (t := 8) (j := 1) (ty := 0) (pc' := 31) (by decide +kernel) rfl h5 (fun v3 h6 => ?_); clear h5
      have e9 := Option.some.inj h6; subst e9
      exact s_ri (X := 0) (Y := 0) (by decide +kernel) hc0 hF
    · exact (vX10_truncate_b12 hF) hc0 h4
set_option maxRecDepth 100000 in
set_option maxHeartbeats 4000000 in
theorem kX10_truncate {K J : Nat → Nat} {fu : Nat} {sh : HS} {I : HI} {R : HR} {F : VF} {mi pc pc' X Y X' Y' : Nat} {L : VL} {rest : List Value} {c : Nat × Nat} {l0 : Nat} {l1 : Int32} {ω : Type} {o : ω} {e : String → HI → Option ω} {g : Int32 → HI → Option ω} (hq : cQ mi pc 64 2 pc' X Y X' Y' = true) (hc : c.1 ≤ X ∧ c.2 ≤ Y) (hr : Nat.ble (catS rest) 8 = true) (h : oTh (fX10_truncate fu sh I R l0 l1) e g = some o) (kk : ∀ v w c', (c'.1 ≤ X' ∧ c'.2 ≤ Y') → g v w = some o → V K J mi pc' L ((.int v) :: rest) sh w R c' F) (kx : ∀ E w, e E w = some o → F (.inr E) sh w R) : V K J mi pc L (.int l1 :: .ref l0 :: rest) sh I R c F := by
  obtain ⟨r, h1, h2⟩ := bnd h
  have hT : isT sh l0 8 = true := by unfold fX10_truncate at h1; exact (gd h1).1
  have ml : mL 64 = 2 := by decide +kernel
  have mk : mK 64 = 1 := by decide +kernel
  have mc : mC 64 = 8 := by decide +kernel
  obtain ⟨r, w⟩ := r
  rcases r with v | E
  · refine s_call (as := [.int l1, .ref l0]) (G := fun o' sh' I' R' => o' = .inl (some (.int v)) ∧ sh' = sh ∧ I' = w ∧ R' = R) hq hc rfl hr (by rw [ml]; rfl) (Or.inl rfl) (fun _ => Or.inl (Or.inl ⟨by rw [mc]; decide, by rw [mc]; exact isT_iff.mp hT⟩)) (fun z => absurd (mk.symm.trans z) (by decide)) (by rw [ml]; exact vX10_truncate (F := fun o' sh' I' R' => o' = .inl (some (.int v)) ∧ sh' = sh ∧ I' = w ∧ R' = R) ⟨rfl, rfl, rfl, rfl⟩ h1) ?_ ?_ ?_
    · rintro sh' I' R' c' hc' ⟨g1, rfl, rfl, rfl⟩
      cases g1
    · rintro v' sh' I' R' c' hc' ⟨g1, rfl, rfl, rfl⟩
      cases g1
      exact kk _ _ _ hc' h2
    · rintro E' sh' I' R' ⟨g1, rfl, rfl, rfl⟩
      cases g1
  · refine s_call (as := [.int l1, .ref l0]) (G := fun o' sh' I' R' => o' = .inr E ∧ sh' = sh ∧ I' = w ∧ R' = R) hq hc rfl hr (by rw [ml]; rfl) (Or.inl rfl) (fun _ => Or.inl (Or.inl ⟨by rw [mc]; decide, by rw [mc]; exact isT_iff.mp hT⟩)) (fun z => absurd (mk.symm.trans z) (by decide)) (by rw [ml]; exact vX10_truncate (F := fun o' sh' I' R' => o' = .inr E ∧ sh' = sh ∧ I' = w ∧ R' = R) ⟨rfl, rfl, rfl, rfl⟩ h1) ?_ ?_ ?_
    · rintro sh' I' R' c' hc' ⟨g1, rfl, rfl, rfl⟩
      cases g1
    · rintro v' sh' I' R' c' hc' ⟨g1, rfl, rfl, rfl⟩
      cases g1
    · rintro E' sh' I' R' ⟨g1, rfl, rfl, rfl⟩
      cases g1
      exact kx _ _ h2
set_option maxRecDepth 100000 in
set_option maxHeartbeats 4000000 in
def fX10_forgetAnswers (fu : Nat) (sh : HS) (I : HI) (R : HR) (l0 : Nat) : Option HI :=
  if isT sh l0 8 = true then
    ((oP sh I l0 8 9 0).bind fun v1 =>
    (oP sh v1 l0 8 11 0).bind fun v2 =>
    some v2)
  else none
set_option maxRecDepth 100000 in
set_option maxHeartbeats 4000000 in
theorem vX10_forgetAnswers {K J : Nat → Nat} {fu : Nat} {sh : HS} {I : HI} {R : HR} {F : VF} {o : HI} (hF : F (.inl none) sh o R) {l0 : Nat} (h0 : fX10_forgetAnswers fu sh I R l0 = some o) : V K J 103 0 (ent 1 [.ref l0]) [] sh I R (0, 0) F := by
  unfold fX10_forgetAnswers at h0
  obtain ⟨-, h1⟩ := gd h0; clear h0
  have hc0 : ((0 : Nat), (0 : Nat)).1 ≤ 0 ∧ ((0 : Nat), (0 : Nat)).2 ≤ 0 := ⟨Nat.le_refl _, Nat.le_refl _⟩
  show V K J 103 0 [some (.ref l0)] [] sh I R (0, 0) F
  refine s_rl (i := 0) (pc' := 1) (by decide +kernel) rfl ?_
  refine s_c (v := 0) (pc' := 2) (by decide +kernel) ?_
  refine s_pI (t := 8) (j := 9) (ty := 1) (pc' := 5) (by decide +kernel) (Or.inr ⟨rfl, by decide⟩) h1 (fun v1 h2 => ?_); clear h1
  refine s_rl (i := 0) (pc' := 6) (by decide +kernel) rfl ?_
  refine s_c (v := 0) (pc' := 7) (by decide +kernel) ?_
  refine s_pI (t := 8) (j := 11) (ty := 1) (pc' := 10) (by decide +kernel) (Or.inr ⟨rfl, by decide⟩) h2 (fun v2 h3 => ?_); clear h2
  have e9 := Option.some.inj h3; subst e9
  exact s_rv (X := 0) (Y := 0) (by decide +kernel) hc0 hF
set_option maxRecDepth 100000 in
set_option maxHeartbeats 4000000 in
theorem kX10_forgetAnswers {K J : Nat → Nat} {fu : Nat} {sh : HS} {I : HI} {R : HR} {F : VF} {mi pc pc' X Y X' Y' : Nat} {L : VL} {rest : List Value} {c : Nat × Nat} {l0 : Nat} {ω : Type} {o : ω} {g : HI → Option ω} (hq : cQ mi pc 103 1 pc' X Y X' Y' = true) (hc : c.1 ≤ X ∧ c.2 ≤ Y) (hr : Nat.ble (catS rest) 8 = true) (h : (fX10_forgetAnswers fu sh I R l0).bind g = some o) (kk : ∀ w c', (c'.1 ≤ X' ∧ c'.2 ≤ Y') → g w = some o → V K J mi pc' L (rest) sh w R c' F) : V K J mi pc L (.ref l0 :: rest) sh I R c F := by
  obtain ⟨r, h1, h2⟩ := bnd h
  have hT : isT sh l0 8 = true := by unfold fX10_forgetAnswers at h1; exact (gd h1).1
  have ml : mL 103 = 1 := by decide +kernel
  have mk : mK 103 = 1 := by decide +kernel
  have mc : mC 103 = 8 := by decide +kernel
  refine s_call (as := [.ref l0]) (G := fun o' sh' I' R' => o' = .inl none ∧ sh' = sh ∧ I' = r ∧ R' = R) hq hc rfl hr (by rw [ml]; rfl) (Or.inl rfl) (fun _ => Or.inl (Or.inl ⟨by rw [mc]; decide, by rw [mc]; exact isT_iff.mp hT⟩)) (fun z => absurd (mk.symm.trans z) (by decide)) (by rw [ml]; exact vX10_forgetAnswers (F := fun o' sh' I' R' => o' = .inl none ∧ sh' = sh ∧ I' = r ∧ R' = R) ⟨rfl, rfl, rfl, rfl⟩ h1) ?_ ?_ ?_
  · rintro sh' I' R' c' hc' ⟨g1, rfl, rfl, rfl⟩
    cases g1
    exact kk _ _ hc' h2
  · rintro v' sh' I' R' c' hc' ⟨g1, rfl, rfl, rfl⟩
    cases g1
  · rintro E' sh' I' R' ⟨g1, rfl, rfl, rfl⟩
    cases g1
set_option maxRecDepth 100000 in
set_option maxHeartbeats 4000000 in
def fX10_load (fu : Nat) (sh : HS) (I : HI) (R : HR) (l0 : Nat) : Option (Int32 × (HI × HR)) :=
  if isT sh l0 8 = true then
    ((oR sh R l0 8 6).bind fun v1 =>
    (oR sh R l0 8 0).bind fun v2 =>
    (oI sh I l0 8 1).bind fun v3 =>
    (oR sh R l0 8 5).bind fun v4 =>
    oH (fX1_read fu sh I R v1 v2 v3 v4) fun v5 w5 =>
    (oP sh w5.1 l0 8 1 0).bind fun v6 =>
    if v5 = 0 then
      ((oP sh v6 l0 8 2 (-1)).bind fun v7 =>
      (oR sh w5.2 l0 8 4).bind fun v8 =>
      (oR sh w5.2 l0 8 5).bind fun v9 =>
      (fX0_copyFrom fu sh v7 w5.2 v8 v9).bind fun w10 =>
      (oP sh w10 l0 8 3 1).bind fun v11 =>
      (oR sh w5.2 l0 8 7).bind fun v12 =>
      (fX3_forgetAll fu sh v11 w5.2 v12).bind fun w13 =>
      (fX10_forgetAnswers fu sh w13 w5.2 l0).bind fun w14 =>
      (oR sh w5.2 l0 8 4).bind fun v15 =>
      (oI sh w14 v15 0 4).bind fun v16 =>
      some (v16, (w14, w5.2)))
    else
      ((oR sh w5.2 l0 8 6).bind fun v17 =>
      (fX1_position fu sh v6 w5.2 v17).bind fun v18 =>
      (oP sh v6 l0 8 2 v18).bind fun v19 =>
      some (((-10) - v5), (v19, w5.2))))
  else none
set_option maxRecDepth 100000 in
set_option maxHeartbeats 4000000 in
theorem vX10_load {K J : Nat → Nat} {fu : Nat} {sh : HS} {I : HI} {R : HR} {F : VF} {o : (Int32 × (HI × HR))} (hF : F (.inl (some (.int o.1))) sh o.2.1 o.2.2) {l0 : Nat} (h0 : fX10_load fu sh I R l0 = some o) : V K J 65 0 (ent 2 [.ref l0]) [] sh I R (0, 0) F := by
  unfold fX10_load at h0
  obtain ⟨-, h1⟩ := gd h0; clear h0
  have hc0 : ((0 : Nat), (0 : Nat)).1 ≤ 0 ∧ ((0 : Nat), (0 : Nat)).2 ≤ 0 := ⟨Nat.le_refl _, Nat.le_refl _⟩
  show V K J 65 0 [some (.ref l0), none] [] sh I R (0, 0) F
  refine s_rl (i := 0) (pc' := 1) (by decide +kernel) rfl ?_
  refine s_gR (t := 8) (j := 6) (pc' := 4) (by decide +kernel) h1 (fun v1 h2 => ?_); clear h1
  refine s_rl (i := 0) (pc' := 5) (by decide +kernel) rfl ?_
  refine s_gR (t := 8) (j := 0) (pc' := 8) (by decide +kernel) h2 (fun v2 h3 => ?_); clear h2
  refine s_rl (i := 0) (pc' := 9) (by decide +kernel) rfl ?_
  refine s_gI (t := 8) (j := 1) (ty := 0) (pc' := 12) (by decide +kernel) rfl h3 (fun v3 h4 => ?_); clear h3
  refine s_rl (i := 0) (pc' := 13) (by decide +kernel) rfl ?_
  refine s_gR (t := 8) (j := 5) (pc' := 16) (by decide +kernel) h4 (fun v4 h5 => ?_); clear h4
  refine kX1_read (X := 0) (Y := 0) (X' := 0) (Y' := 0) (pc' := 19) (by decide +kernel) hc0 rfl h5 (fun v5 w5 c hc1 h6 => ?_); clear h5 hc0
  refine s_is (i := 1) (pc' := 20) (L' := [some (.ref l0), some (.int v5)]) (by decide +kernel) rfl rfl ?_
  refine s_rl (i := 0) (pc' := 21) (by decide +kernel) rfl ?_
  refine s_c (v := 0) (pc' := 22) (by decide +kernel) ?_
  refine s_pI (t := 8) (j := 1) (ty := 0) (pc' := 25) (by decide +kernel) (Or.inl rfl) h6 (fun v6 h7 => ?_); clear h6
  refine s_il (i := 1) (pc' := 26) (by decide +kernel) rfl ?_
  refine s_if (ins := .ifCond .eq 19) (t := 45) (pc' := 29) (by decide +kernel) rfl rfl rfl h7 (fun p8 h8 => ?_) (fun p8 h8 => ?_) <;> clear h7
  · refine s_rl (i := 0) (pc' := 46) (by decide +kernel) rfl ?_
    refine s_c (v := (-1)) (pc' := 47) (by decide +kernel) ?_
    refine s_pI (t := 8) (j := 2) (ty := 0) (pc' := 50) (by decide +kernel) (Or.inl rfl) h8 (fun v7 h9 => ?_); clear h8
    refine s_rl (i := 0) (pc' := 51) (by decide +kernel) rfl ?_
    refine s_gR (t := 8) (j := 4) (pc' := 54) (by decide +kernel) h9 (fun v8 h10 => ?_); clear h9
    refine s_rl (i := 0) (pc' := 55) (by decide +kernel) rfl ?_
    refine s_gR (t := 8) (j := 5) (pc' := 58) (by decide +kernel) h10 (fun v9 h11 => ?_); clear h10
    refine kX0_copyFrom (X := 0) (Y := 0) (X' := 0) (Y' := 0) (pc' := 61) (by decide +kernel) hc1 rfl h11 (fun w10 c hc2 h12 => ?_); clear h11 hc1
    refine s_rl (i := 0) (pc' := 62) (by decide +kernel) rfl ?_
    refine s_c (v := 1) (pc' := 63) (by decide +kernel) ?_
    refine s_pI (t := 8) (j := 3) (ty := 1) (pc' := 66) (by decide +kernel) (Or.inr ⟨rfl, by decide⟩) h12 (fun v11 h13 => ?_); clear h12
    refine s_rl (i := 0) (pc' := 67) (by decide +kernel) rfl ?_
    refine s_gR (t := 8) (j := 7) (pc' := 70) (by decide +kernel) h13 (fun v12 h14 => ?_); clear h13
    refine kX3_forgetAll (X := 0) (Y := 0) (X' := 0) (Y' := 0) (pc' := 73) (by decide +kernel) hc2 rfl h14 (fun w13 c hc3 h15 => ?_); clear h14 hc2
    refine s_rl (i := 0) (pc' := 74) (by decide +kernel) rfl ?_
    refine kX10_forgetAnswers (X := 0) (Y := 0) (X' := 0) (Y' := 0) (pc' := 77) (by decide +kernel) hc3 rfl h15 (fun w14 c hc4 h16 => ?_); clear h15 hc3
    refine s_rl (i := 0) (pc' := 78) (by decide +kernel) rfl ?_
    refine s_gR (t := 8) (j := 4) (pc' := 81) (by decide +kernel) h16 (fun v15 h17 => ?_); clear h16
    refine s_gI (t := 0) (j := 4) (ty := 0) (pc' := 84) (by decide +kernel) rfl h17 (fun v16 h18 => ?_); clear h17
    have e9 := Option.some.inj h18; subst e9
    exact s_ri (X := 0) (Y := 0) (by decide +kernel) hc4 hF
  · refine s_rl (i := 0) (pc' := 30) (by decide +kernel) rfl ?_
    refine s_rl (i := 0) (pc' := 31) (by decide +kernel) rfl ?_
    refine s_gR (t := 8) (j := 6) (pc' := 34) (by decide +kernel) h8 (fun v17 h9 => ?_); clear h8
    refine kX1_position (X := 0) (Y := 0) (X' := 0) (Y' := 0) (pc' := 37) (by decide +kernel) hc1 rfl h9 (fun v18 c hc2 h10 => ?_); clear h9 hc1
    refine s_pI (t := 8) (j := 2) (ty := 0) (pc' := 40) (by decide +kernel) (Or.inl rfl) h10 (fun v19 h11 => ?_); clear h10
    refine s_c (v := (-10)) (pc' := 42) (by decide +kernel) ?_
    refine s_il (i := 1) (pc' := 43) (by decide +kernel) rfl ?_
    refine s_a (ins := .isub) (pc' := 44) (by decide +kernel) rfl ?_
    have e9 := Option.some.inj h11; subst e9
    exact s_ri (X := 0) (Y := 0) (by decide +kernel) hc2 hF
set_option maxRecDepth 100000 in
set_option maxHeartbeats 4000000 in
theorem kX10_load {K J : Nat → Nat} {fu : Nat} {sh : HS} {I : HI} {R : HR} {F : VF} {mi pc pc' X Y X' Y' : Nat} {L : VL} {rest : List Value} {c : Nat × Nat} {l0 : Nat} {ω : Type} {o : ω} {g : Int32 → (HI × HR) → Option ω} (hq : cQ mi pc 65 1 pc' X Y X' Y' = true) (hc : c.1 ≤ X ∧ c.2 ≤ Y) (hr : Nat.ble (catS rest) 8 = true) (h : oH (fX10_load fu sh I R l0) g = some o) (kk : ∀ v w c', (c'.1 ≤ X' ∧ c'.2 ≤ Y') → g v w = some o → V K J mi pc' L ((.int v) :: rest) sh w.1 w.2 c' F) : V K J mi pc L (.ref l0 :: rest) sh I R c F := by
  obtain ⟨r, h1, h2⟩ := bnd h
  have hT : isT sh l0 8 = true := by unfold fX10_load at h1; exact (gd h1).1
  have ml : mL 65 = 2 := by decide +kernel
  have mk : mK 65 = 1 := by decide +kernel
  have mc : mC 65 = 8 := by decide +kernel
  obtain ⟨v, w⟩ := r
  refine s_call (as := [.ref l0]) (G := fun o' sh' I' R' => o' = .inl (some (.int v)) ∧ sh' = sh ∧ I' = w.1 ∧ R' = w.2) hq hc rfl hr (by rw [ml]; rfl) (Or.inl rfl) (fun _ => Or.inl (Or.inl ⟨by rw [mc]; decide, by rw [mc]; exact isT_iff.mp hT⟩)) (fun z => absurd (mk.symm.trans z) (by decide)) (by rw [ml]; exact vX10_load (F := fun o' sh' I' R' => o' = .inl (some (.int v)) ∧ sh' = sh ∧ I' = w.1 ∧ R' = w.2) ⟨rfl, rfl, rfl, rfl⟩ h1) ?_ ?_ ?_
  · rintro sh' I' R' c' hc' ⟨g1, rfl, rfl, rfl⟩
    cases g1
  · rintro v' sh' I' R' c' hc' ⟨g1, rfl, rfl, rfl⟩
    cases g1
    exact kk _ _ _ hc' h2
  · rintro E' sh' I' R' ⟨g1, rfl, rfl, rfl⟩
    cases g1
set_option maxRecDepth 100000 in
set_option maxHeartbeats 4000000 in
def fX10_errorPosition (fu : Nat) (sh : HS) (I : HI) (R : HR) (l0 : Nat) : Option Int32 :=
  if isT sh l0 8 = true then
    ((oI sh I l0 8 2).bind fun v1 =>
    some v1)
  else none
set_option maxRecDepth 100000 in
set_option maxHeartbeats 4000000 in
theorem vX10_errorPosition {K J : Nat → Nat} {fu : Nat} {sh : HS} {I : HI} {R : HR} {F : VF} {o : Int32} (hF : F (.inl (some (.int o))) sh I R) {l0 : Nat} (h0 : fX10_errorPosition fu sh I R l0 = some o) : V K J 66 0 (ent 1 [.ref l0]) [] sh I R (0, 0) F := by
  unfold fX10_errorPosition at h0
  obtain ⟨-, h1⟩ := gd h0; clear h0
  have hc0 : ((0 : Nat), (0 : Nat)).1 ≤ 0 ∧ ((0 : Nat), (0 : Nat)).2 ≤ 0 := ⟨Nat.le_refl _, Nat.le_refl _⟩
  show V K J 66 0 [some (.ref l0)] [] sh I R (0, 0) F
  refine s_rl (i := 0) (pc' := 1) (by decide +kernel) rfl ?_
  refine s_gI (t := 8) (j := 2) (ty := 0) (pc' := 4) (by decide +kernel) rfl h1 (fun v1 h2 => ?_); clear h1
  have e9 := Option.some.inj h2; subst e9
  exact s_ri (X := 0) (Y := 0) (by decide +kernel) hc0 hF
set_option maxRecDepth 100000 in
set_option maxHeartbeats 4000000 in
theorem kX10_errorPosition {K J : Nat → Nat} {fu : Nat} {sh : HS} {I : HI} {R : HR} {F : VF} {mi pc pc' X Y X' Y' : Nat} {L : VL} {rest : List Value} {c : Nat × Nat} {l0 : Nat} {ω : Type} {o : ω} {g : Int32 → Option ω} (hq : cQ mi pc 66 1 pc' X Y X' Y' = true) (hc : c.1 ≤ X ∧ c.2 ≤ Y) (hr : Nat.ble (catS rest) 8 = true) (h : (fX10_errorPosition fu sh I R l0).bind g = some o) (kk : ∀ v c', (c'.1 ≤ X' ∧ c'.2 ≤ Y') → g v = some o → V K J mi pc' L ((.int v) :: rest) sh I R c' F) : V K J mi pc L (.ref l0 :: rest) sh I R c F := by
  obtain ⟨r, h1, h2⟩ := bnd h
  have hT : isT sh l0 8 = true := by unfold fX10_errorPosition at h1; exact (gd h1).1
  have ml : mL 66 = 1 := by decide +kernel
  have mk : mK 66 = 1 := by decide +kernel
  have mc : mC 66 = 8 := by decide +kernel
  refine s_call (as := [.ref l0]) (G := fun o' sh' I' R' => o' = .inl (some (.int r)) ∧ sh' = sh ∧ I' = I ∧ R' = R) hq hc rfl hr (by rw [ml]; rfl) (Or.inl rfl) (fun _ => Or.inl (Or.inl ⟨by rw [mc]; decide, by rw [mc]; exact isT_iff.mp hT⟩)) (fun z => absurd (mk.symm.trans z) (by decide)) (by rw [ml]; exact vX10_errorPosition (F := fun o' sh' I' R' => o' = .inl (some (.int r)) ∧ sh' = sh ∧ I' = I ∧ R' = R) ⟨rfl, rfl, rfl, rfl⟩ h1) ?_ ?_ ?_
  · rintro sh' I' R' c' hc' ⟨g1, rfl, rfl, rfl⟩
    cases g1
  · rintro v' sh' I' R' c' hc' ⟨g1, rfl, rfl, rfl⟩
    cases g1
    exact kk _ _ hc' h2
  · rintro E' sh' I' R' ⟨g1, rfl, rfl, rfl⟩
    cases g1
set_option maxRecDepth 100000 in
set_option maxHeartbeats 4000000 in
def fX10_needBoard (fu : Nat) (sh : HS) (I : HI) (R : HR) (l0 : Nat) : Option (Unit ⊕ String) :=
  if isT sh l0 8 = true then
    ((oI sh I l0 8 3).bind fun v1 =>
    if v1 = 0 then
      (some (.inr "java/lang/IllegalStateException"))
    else
      (some (.inl ())))
  else none
set_option maxRecDepth 100000 in
set_option maxHeartbeats 4000000 in
theorem vX10_needBoard {K J : Nat → Nat} {fu : Nat} {sh : HS} {I : HI} {R : HR} {F : VF} {o : (Unit ⊕ String)} (hF : F (voN o) sh I R) {l0 : Nat} (h0 : fX10_needBoard fu sh I R l0 = some o) : V K J 95 0 (ent 1 [.ref l0]) [] sh I R (0, 0) F := by
  unfold fX10_needBoard at h0
  obtain ⟨-, h1⟩ := gd h0; clear h0
  have hc0 : ((0 : Nat), (0 : Nat)).1 ≤ 0 ∧ ((0 : Nat), (0 : Nat)).2 ≤ 0 := ⟨Nat.le_refl _, Nat.le_refl _⟩
  show V K J 95 0 [some (.ref l0)] [] sh I R (0, 0) F
  refine s_rl (i := 0) (pc' := 1) (by decide +kernel) rfl ?_
  refine s_gI (t := 8) (j := 3) (ty := 1) (pc' := 4) (by decide +kernel) rfl h1 (fun v1 h2 => ?_); clear h1
  refine s_ifn (ins := .ifCond .ne 14) (t := 18) (pc' := 7) (by decide +kernel) rfl rfl rfl h2 (fun p3 h3 => ?_) (fun p3 h3 => ?_) <;> clear h2
  · have e9 := Option.some.inj h3; subst e9
    exact s_rv (X := 0) (Y := 0) (by decide +kernel) hc0 hF
  · have e9 := Option.some.inj h3; subst e9
    exact s_th (E := "java/lang/IllegalStateException") (X := 0) (Y := 0) (by decide +kernel) hc0 rfl hF
set_option maxRecDepth 100000 in
set_option maxHeartbeats 4000000 in
theorem kX10_needBoard {K J : Nat → Nat} {fu : Nat} {sh : HS} {I : HI} {R : HR} {F : VF} {mi pc pc' X Y X' Y' : Nat} {L : VL} {rest : List Value} {c : Nat × Nat} {l0 : Nat} {ω : Type} {o : ω} {e : String → Option ω} {g : Unit → Option ω} (hq : cQ mi pc 95 1 pc' X Y X' Y' = true) (hc : c.1 ≤ X ∧ c.2 ≤ Y) (hr : Nat.ble (catS rest) 8 = true) (h : oT0 (fX10_needBoard fu sh I R l0) e g = some o) (kk : ∀ v c', (c'.1 ≤ X' ∧ c'.2 ≤ Y') → g v = some o → V K J mi pc' L (rest) sh I R c' F) (kx : ∀ E, e E = some o → F (.inr E) sh I R) : V K J mi pc L (.ref l0 :: rest) sh I R c F := by
  obtain ⟨r, h1, h2⟩ := bnd h
  have hT : isT sh l0 8 = true := by unfold fX10_needBoard at h1; exact (gd h1).1
  have ml : mL 95 = 1 := by decide +kernel
  have mk : mK 95 = 1 := by decide +kernel
  have mc : mC 95 = 8 := by decide +kernel
  rcases r with v | E
  · refine s_call (as := [.ref l0]) (G := fun o' sh' I' R' => o' = .inl none ∧ sh' = sh ∧ I' = I ∧ R' = R) hq hc rfl hr (by rw [ml]; rfl) (Or.inl rfl) (fun _ => Or.inl (Or.inl ⟨by rw [mc]; decide, by rw [mc]; exact isT_iff.mp hT⟩)) (fun z => absurd (mk.symm.trans z) (by decide)) (by rw [ml]; exact vX10_needBoard (F := fun o' sh' I' R' => o' = .inl none ∧ sh' = sh ∧ I' = I ∧ R' = R) ⟨rfl, rfl, rfl, rfl⟩ h1) ?_ ?_ ?_
    · rintro sh' I' R' c' hc' ⟨g1, rfl, rfl, rfl⟩
      cases g1
      exact kk _ _ hc' h2
    · rintro v' sh' I' R' c' hc' ⟨g1, rfl, rfl, rfl⟩
      cases g1
    · rintro E' sh' I' R' ⟨g1, rfl, rfl, rfl⟩
      cases g1
  · refine s_call (as := [.ref l0]) (G := fun o' sh' I' R' => o' = .inr E ∧ sh' = sh ∧ I' = I ∧ R' = R) hq hc rfl hr (by rw [ml]; rfl) (Or.inl rfl) (fun _ => Or.inl (Or.inl ⟨by rw [mc]; decide, by rw [mc]; exact isT_iff.mp hT⟩)) (fun z => absurd (mk.symm.trans z) (by decide)) (by rw [ml]; exact vX10_needBoard (F := fun o' sh' I' R' => o' = .inr E ∧ sh' = sh ∧ I' = I ∧ R' = R) ⟨rfl, rfl, rfl, rfl⟩ h1) ?_ ?_ ?_
    · rintro sh' I' R' c' hc' ⟨g1, rfl, rfl, rfl⟩
      cases g1
    · rintro v' sh' I' R' c' hc' ⟨g1, rfl, rfl, rfl⟩
      cases g1
    · rintro E' sh' I' R' ⟨g1, rfl, rfl, rfl⟩
      cases g1
      exact kx _ h2
set_option maxRecDepth 100000 in
set_option maxHeartbeats 4000000 in
def fX10_needRange_b10 (fu : Nat) (sh : HS) (I : HI) (R : HR) : Option (Unit ⊕ String) :=
  some (.inr "java/lang/IllegalArgumentException")
set_option maxRecDepth 100000 in
set_option maxHeartbeats 4000000 in
theorem vX10_needRange_b10 {K J : Nat → Nat} {fu : Nat} {sh : HS} {I : HI} {R : HR} {F : VF} {o : (Unit ⊕ String)} (hF : F (voN o) sh I R) {d0 d1 d2 : Option Value} {c : Nat × Nat} (hc0 : c.1 ≤ 0 ∧ c.2 ≤ 0) (h0 : fX10_needRange_b10 fu sh I R = some o) : V K J 96 10 [d0, d1, d2] [] sh I R c F := by
  unfold fX10_needRange_b10 at h0
  have e9 := Option.some.inj h0; subst e9
  exact s_th (E := "java/lang/IllegalArgumentException") (X := 0) (Y := 0) (by decide +kernel) hc0 rfl hF
set_option maxRecDepth 100000 in
set_option maxHeartbeats 4000000 in
def fX10_needRange (fu : Nat) (sh : HS) (I : HI) (R : HR) (l0 : Int32) (l1 : Int32) (l2 : Int32) : Option (Unit ⊕ String) :=
  if l0 < l1 then
    ((fX10_needRange_b10 fu sh I R))
  else
    (if l0 ≤ l2 then
      (some (.inl ()))
    else
      ((fX10_needRange_b10 fu sh I R)))
set_option maxRecDepth 100000 in
set_option maxHeartbeats 4000000 in
theorem vX10_needRange {K J : Nat → Nat} {fu : Nat} {sh : HS} {I : HI} {R : HR} {F : VF} {o : (Unit ⊕ String)} (hF : F (voN o) sh I R) {l0 : Int32} {l1 : Int32} {l2 : Int32} (h0 : fX10_needRange fu sh I R l0 l1 l2 = some o) : V K J 96 0 (ent 3 [.int l0, .int l1, .int l2]) [] sh I R (0, 0) F := by
  unfold fX10_needRange at h0
  have h1 := h0; clear h0
  have hc0 : ((0 : Nat), (0 : Nat)).1 ≤ 0 ∧ ((0 : Nat), (0 : Nat)).2 ≤ 0 := ⟨Nat.le_refl _, Nat.le_refl _⟩
  show V K J 96 0 [some (.int l0), some (.int l1), some (.int l2)] [] sh I R (0, 0) F
  refine s_il (i := 0) (pc' := 1) (by decide +kernel) rfl ?_
  refine s_il (i := 1) (pc' := 2) (by decide +kernel) rfl ?_
  refine s_if (ins := .if_icmp .lt 8) (t := 10) (pc' := 5) (by decide +kernel) rfl rfl rfl h1 (fun p2 h2 => ?_) (fun p2 h2 => ?_) <;> clear h1
  · exact (vX10_needRange_b10 hF) hc0 h2
  · refine s_il (i := 0) (pc' := 6) (by decide +kernel) rfl ?_
    refine s_il (i := 2) (pc' := 7) (by decide +kernel) rfl ?_
    refine s_if (ins := .if_icmp .le 14) (t := 21) (pc' := 10) (by decide +kernel) rfl rfl rfl h2 (fun p3 h3 => ?_) (fun p3 h3 => ?_) <;> clear h2
    · have e9 := Option.some.inj h3; subst e9
      exact s_rv (X := 0) (Y := 0) (by decide +kernel) hc0 hF
    · exact (vX10_needRange_b10 hF) hc0 h3
set_option maxRecDepth 100000 in
set_option maxHeartbeats 4000000 in
theorem kX10_needRange {K J : Nat → Nat} {fu : Nat} {sh : HS} {I : HI} {R : HR} {F : VF} {mi pc pc' X Y X' Y' : Nat} {L : VL} {rest : List Value} {c : Nat × Nat} {l0 : Int32} {l1 : Int32} {l2 : Int32} {ω : Type} {o : ω} {e : String → Option ω} {g : Unit → Option ω} (hq : cQ mi pc 96 3 pc' X Y X' Y' = true) (hc : c.1 ≤ X ∧ c.2 ≤ Y) (hr : Nat.ble (catS rest) 8 = true) (h : oT0 (fX10_needRange fu sh I R l0 l1 l2) e g = some o) (kk : ∀ v c', (c'.1 ≤ X' ∧ c'.2 ≤ Y') → g v = some o → V K J mi pc' L (rest) sh I R c' F) (kx : ∀ E, e E = some o → F (.inr E) sh I R) : V K J mi pc L (.int l2 :: .int l1 :: .int l0 :: rest) sh I R c F := by
  obtain ⟨r, h1, h2⟩ := bnd h
  have ml : mL 96 = 3 := by decide +kernel
  have mk : mK 96 = 0 := by decide +kernel
  rcases r with v | E
  · refine s_call (as := [.int l2, .int l1, .int l0]) (G := fun o' sh' I' R' => o' = .inl none ∧ sh' = sh ∧ I' = I ∧ R' = R) hq hc rfl hr (by rw [ml]; rfl) (Or.inl rfl) (fun z => absurd (mk.symm.trans z) (by decide)) (fun z => absurd (mk.symm.trans z) (by decide)) (by rw [ml]; exact vX10_needRange (F := fun o' sh' I' R' => o' = .inl none ∧ sh' = sh ∧ I' = I ∧ R' = R) ⟨rfl, rfl, rfl, rfl⟩ h1) ?_ ?_ ?_
    · rintro sh' I' R' c' hc' ⟨g1, rfl, rfl, rfl⟩
      cases g1
      exact kk _ _ hc' h2
    · rintro v' sh' I' R' c' hc' ⟨g1, rfl, rfl, rfl⟩
      cases g1
    · rintro E' sh' I' R' ⟨g1, rfl, rfl, rfl⟩
      cases g1
  · refine s_call (as := [.int l2, .int l1, .int l0]) (G := fun o' sh' I' R' => o' = .inr E ∧ sh' = sh ∧ I' = I ∧ R' = R) hq hc rfl hr (by rw [ml]; rfl) (Or.inl rfl) (fun z => absurd (mk.symm.trans z) (by decide)) (fun z => absurd (mk.symm.trans z) (by decide)) (by rw [ml]; exact vX10_needRange (F := fun o' sh' I' R' => o' = .inr E ∧ sh' = sh ∧ I' = I ∧ R' = R) ⟨rfl, rfl, rfl, rfl⟩ h1) ?_ ?_ ?_
    · rintro sh' I' R' c' hc' ⟨g1, rfl, rfl, rfl⟩
      cases g1
    · rintro v' sh' I' R' c' hc' ⟨g1, rfl, rfl, rfl⟩
      cases g1
    · rintro E' sh' I' R' ⟨g1, rfl, rfl, rfl⟩
      cases g1
      exact kx _ h2
set_option maxRecDepth 100000 in
set_option maxHeartbeats 4000000 in
def fX10_count (fu : Nat) (sh : HS) (I : HI) (R : HR) (l0 : Nat) (l1 : Int32) : Option (Int32 ⊕ String) :=
  if isT sh l0 8 = true then
    (oT0 (fX10_needBoard fu sh I R l0) (fun E => some (.inr E)) fun _ =>
    oT0 (fX10_needRange fu sh I R l1 0 5) (fun E => some (.inr E)) fun _ =>
    if l1 = 0 then
      ((oR sh R l0 8 4).bind fun v3 =>
      (oI sh I v3 0 3).bind fun v4 =>
      some (.inl v4))
    else
      if l1 = 1 then
        ((oR sh R l0 8 4).bind fun v5 =>
        (oI sh I v5 0 4).bind fun v6 =>
        some (.inl v6))
      else
        if l1 = 2 then
          ((oR sh R l0 8 4).bind fun v7 =>
          (oI sh I v7 0 0).bind fun v8 =>
          some (.inl v8))
        else
          if l1 = 3 then
            ((oR sh R l0 8 4).bind fun v9 =>
            (oI sh I v9 0 1).bind fun v10 =>
            some (.inl v10))
          else
            if l1 = 4 then
              ((oR sh R l0 8 4).bind fun v11 =>
              (oI sh I v11 0 2).bind fun v12 =>
              some (.inl v12))
            else
              (oR sh R l0 8 4).bind fun v13 =>
              (fX0_secondsOfAllShots fu sh I R v13).bind fun v14 =>
              some (.inl v14))
  else none
set_option maxRecDepth 100000 in
set_option maxHeartbeats 4000000 in
theorem vX10_count {K J : Nat → Nat} {fu : Nat} {sh : HS} {I : HI} {R : HR} {F : VF} {o : (Int32 ⊕ String)} (hF : F (voI o) sh I R) {l0 : Nat} {l1 : Int32} (h0 : fX10_count fu sh I R l0 l1 = some o) : V K J 67 0 (ent 2 [.ref l0, .int l1]) [] sh I R (0, 0) F := by
  unfold fX10_count at h0
  obtain ⟨-, h1⟩ := gd h0; clear h0
  have hc0 : ((0 : Nat), (0 : Nat)).1 ≤ 0 ∧ ((0 : Nat), (0 : Nat)).2 ≤ 0 := ⟨Nat.le_refl _, Nat.le_refl _⟩
  show V K J 67 0 [some (.ref l0), some (.int l1)] [] sh I R (0, 0) F
  refine s_rl (i := 0) (pc' := 1) (by decide +kernel) rfl ?_
  refine kX10_needBoard (X := 0) (Y := 0) (X' := 1) (Y' := 6) (pc' := 4) (by decide +kernel) hc0 rfl h1 (fun v1 c hc1 h2 => ?_) (fun E h2 => by have e9 := Option.some.inj h2; subst e9; exact hF); clear h1 hc0
  refine s_il (i := 1) (pc' := 5) (by decide +kernel) rfl ?_
  refine s_c (v := 0) (pc' := 6) (by decide +kernel) ?_
  refine s_c (v := 5) (pc' := 7) (by decide +kernel) ?_
  refine kX10_needRange (X := 1) (Y := 6) (X' := 2) (Y' := 12) (pc' := 10) (by decide +kernel) hc1 rfl h2 (fun v2 c hc2 h3 => ?_) (fun E h3 => by have e9 := Option.some.inj h3; subst e9; exact hF); clear h2 hc1
  refine s_il (i := 1) (pc' := 11) (by decide +kernel) rfl ?_
  by_cases e0 : l1 = 0
  · have h4 := h3
    rw [if_pos e0] at h4
    clear h3
    refine s_sw (v := 0) (t := 44) e0 (by decide +kernel) ?_
    refine s_rl (i := 0) (pc' := 45) (by decide +kernel) rfl ?_
    refine s_gR (t := 8) (j := 4) (pc' := 48) (by decide +kernel) h4 (fun v3 h5 => ?_); clear h4
    refine s_gI (t := 0) (j := 3) (ty := 0) (pc' := 51) (by decide +kernel) rfl h5 (fun v4 h6 => ?_); clear h5
    have e9 := Option.some.inj h6; subst e9
    exact s_ri (X := 2) (Y := 12) (by decide +kernel) hc2 hF
  rw [if_neg e0] at h3
  by_cases e1 : l1 = 1
  · have h4 := h3
    rw [if_pos e1] at h4
    clear h3
    refine s_sw (v := 1) (t := 52) e1 (by decide +kernel) ?_
    refine s_rl (i := 0) (pc' := 53) (by decide +kernel) rfl ?_
    refine s_gR (t := 8) (j := 4) (pc' := 56) (by decide +kernel) h4 (fun v5 h5 => ?_); clear h4
    refine s_gI (t := 0) (j := 4) (ty := 0) (pc' := 59) (by decide +kernel) rfl h5 (fun v6 h6 => ?_); clear h5
    have e9 := Option.some.inj h6; subst e9
    exact s_ri (X := 2) (Y := 12) (by decide +kernel) hc2 hF
  rw [if_neg e1] at h3
  by_cases e2 : l1 = 2
  · have h4 := h3
    rw [if_pos e2] at h4
    clear h3
    refine s_sw (v := 2) (t := 60) e2 (by decide +kernel) ?_
    refine s_rl (i := 0) (pc' := 61) (by decide +kernel) rfl ?_
    refine s_gR (t := 8) (j := 4) (pc' := 64) (by decide +kernel) h4 (fun v7 h5 => ?_); clear h4
    refine s_gI (t := 0) (j := 0) (ty := 0) (pc' := 67) (by decide +kernel) rfl h5 (fun v8 h6 => ?_); clear h5
    have e9 := Option.some.inj h6; subst e9
    exact s_ri (X := 2) (Y := 12) (by decide +kernel) hc2 hF
  rw [if_neg e2] at h3
  by_cases e3 : l1 = 3
  · have h4 := h3
    rw [if_pos e3] at h4
    clear h3
    refine s_sw (v := 3) (t := 68) e3 (by decide +kernel) ?_
    refine s_rl (i := 0) (pc' := 69) (by decide +kernel) rfl ?_
    refine s_gR (t := 8) (j := 4) (pc' := 72) (by decide +kernel) h4 (fun v9 h5 => ?_); clear h4
    refine s_gI (t := 0) (j := 1) (ty := 0) (pc' := 75) (by decide +kernel) rfl h5 (fun v10 h6 => ?_); clear h5
    have e9 := Option.some.inj h6; subst e9
    exact s_ri (X := 2) (Y := 12) (by decide +kernel) hc2 hF
  rw [if_neg e3] at h3
  by_cases e4 : l1 = 4
  · have h4 := h3
    rw [if_pos e4] at h4
    clear h3
    refine s_sw (v := 4) (t := 76) e4 (by decide +kernel) ?_
    refine s_rl (i := 0) (pc' := 77) (by decide +kernel) rfl ?_
    refine s_gR (t := 8) (j := 4) (pc' := 80) (by decide +kernel) h4 (fun v11 h5 => ?_); clear h4
    refine s_gI (t := 0) (j := 2) (ty := 0) (pc' := 83) (by decide +kernel) rfl h5 (fun v12 h6 => ?_); clear h5
    have e9 := Option.some.inj h6; subst e9
    exact s_ri (X := 2) (Y := 12) (by decide +kernel) hc2 hF
  rw [if_neg e4] at h3
  refine s_sd (n := 5) (t := 84) (sw_out5 e0 e1 e2 e3 e4) (by decide +kernel) ?_
  refine s_rl (i := 0) (pc' := 85) (by decide +kernel) rfl ?_
  refine s_gR (t := 8) (j := 4) (pc' := 88) (by decide +kernel) h3 (fun v13 h4 => ?_); clear h3
  refine kX0_secondsOfAllShots (X := 2) (Y := 12) (X' := 2) (Y' := 12) (pc' := 91) (by decide +kernel) hc2 rfl h4 (fun v14 c hc3 h5 => ?_); clear h4 hc2
  have e9 := Option.some.inj h5; subst e9
  exact s_ri (X := 2) (Y := 12) (by decide +kernel) hc3 hF
set_option maxRecDepth 100000 in
set_option maxHeartbeats 4000000 in
theorem kX10_count {K J : Nat → Nat} {fu : Nat} {sh : HS} {I : HI} {R : HR} {F : VF} {mi pc pc' X Y X' Y' : Nat} {L : VL} {rest : List Value} {c : Nat × Nat} {l0 : Nat} {l1 : Int32} {ω : Type} {o : ω} {e : String → Option ω} {g : Int32 → Option ω} (hq : cQ mi pc 67 2 pc' X Y X' Y' = true) (hc : c.1 ≤ X ∧ c.2 ≤ Y) (hr : Nat.ble (catS rest) 8 = true) (h : oT0 (fX10_count fu sh I R l0 l1) e g = some o) (kk : ∀ v c', (c'.1 ≤ X' ∧ c'.2 ≤ Y') → g v = some o → V K J mi pc' L ((.int v) :: rest) sh I R c' F) (kx : ∀ E, e E = some o → F (.inr E) sh I R) : V K J mi pc L (.int l1 :: .ref l0 :: rest) sh I R c F := by
  obtain ⟨r, h1, h2⟩ := bnd h
  have hT : isT sh l0 8 = true := by unfold fX10_count at h1; exact (gd h1).1
  have ml : mL 67 = 2 := by decide +kernel
  have mk : mK 67 = 1 := by decide +kernel
  have mc : mC 67 = 8 := by decide +kernel
  rcases r with v | E
  · refine s_call (as := [.int l1, .ref l0]) (G := fun o' sh' I' R' => o' = .inl (some (.int v)) ∧ sh' = sh ∧ I' = I ∧ R' = R) hq hc rfl hr (by rw [ml]; rfl) (Or.inl rfl) (fun _ => Or.inl (Or.inl ⟨by rw [mc]; decide, by rw [mc]; exact isT_iff.mp hT⟩)) (fun z => absurd (mk.symm.trans z) (by decide)) (by rw [ml]; exact vX10_count (F := fun o' sh' I' R' => o' = .inl (some (.int v)) ∧ sh' = sh ∧ I' = I ∧ R' = R) ⟨rfl, rfl, rfl, rfl⟩ h1) ?_ ?_ ?_
    · rintro sh' I' R' c' hc' ⟨g1, rfl, rfl, rfl⟩
      cases g1
    · rintro v' sh' I' R' c' hc' ⟨g1, rfl, rfl, rfl⟩
      cases g1
      exact kk _ _ hc' h2
    · rintro E' sh' I' R' ⟨g1, rfl, rfl, rfl⟩
      cases g1
  · refine s_call (as := [.int l1, .ref l0]) (G := fun o' sh' I' R' => o' = .inr E ∧ sh' = sh ∧ I' = I ∧ R' = R) hq hc rfl hr (by rw [ml]; rfl) (Or.inl rfl) (fun _ => Or.inl (Or.inl ⟨by rw [mc]; decide, by rw [mc]; exact isT_iff.mp hT⟩)) (fun z => absurd (mk.symm.trans z) (by decide)) (by rw [ml]; exact vX10_count (F := fun o' sh' I' R' => o' = .inr E ∧ sh' = sh ∧ I' = I ∧ R' = R) ⟨rfl, rfl, rfl, rfl⟩ h1) ?_ ?_ ?_
    · rintro sh' I' R' c' hc' ⟨g1, rfl, rfl, rfl⟩
      cases g1
    · rintro v' sh' I' R' c' hc' ⟨g1, rfl, rfl, rfl⟩
      cases g1
    · rintro E' sh' I' R' ⟨g1, rfl, rfl, rfl⟩
      cases g1
      exact kx _ h2
set_option maxRecDepth 100000 in
set_option maxHeartbeats 4000000 in
def fX10_needScene (fu : Nat) (sh : HS) (I : HI) (R : HR) (l0 : Nat) (l1 : Int32) : Option (Unit ⊕ String) :=
  if isT sh l0 8 = true then
    ((oR sh R l0 8 4).bind fun v1 =>
    (oI sh I v1 0 3).bind fun v2 =>
    oT0 (fX10_needRange fu sh I R l1 0 (v2 - 1)) (fun E => some (.inr E)) fun _ =>
    some (.inl ()))
  else none
set_option maxRecDepth 100000 in
set_option maxHeartbeats 4000000 in
theorem vX10_needScene {K J : Nat → Nat} {fu : Nat} {sh : HS} {I : HI} {R : HR} {F : VF} {o : (Unit ⊕ String)} (hF : F (voN o) sh I R) {l0 : Nat} {l1 : Int32} (h0 : fX10_needScene fu sh I R l0 l1 = some o) : V K J 98 0 (ent 2 [.ref l0, .int l1]) [] sh I R (0, 0) F := by
  unfold fX10_needScene at h0
  obtain ⟨-, h1⟩ := gd h0; clear h0
  have hc0 : ((0 : Nat), (0 : Nat)).1 ≤ 0 ∧ ((0 : Nat), (0 : Nat)).2 ≤ 0 := ⟨Nat.le_refl _, Nat.le_refl _⟩
  show V K J 98 0 [some (.ref l0), some (.int l1)] [] sh I R (0, 0) F
  refine s_il (i := 1) (pc' := 1) (by decide +kernel) rfl ?_
  refine s_c (v := 0) (pc' := 2) (by decide +kernel) ?_
  refine s_rl (i := 0) (pc' := 3) (by decide +kernel) rfl ?_
  refine s_gR (t := 8) (j := 4) (pc' := 6) (by decide +kernel) h1 (fun v1 h2 => ?_); clear h1
  refine s_gI (t := 0) (j := 3) (ty := 0) (pc' := 9) (by decide +kernel) rfl h2 (fun v2 h3 => ?_); clear h2
  refine s_c (v := 1) (pc' := 10) (by decide +kernel) ?_
  refine s_a (ins := .isub) (pc' := 11) (by decide +kernel) rfl ?_
  refine kX10_needRange (X := 0) (Y := 0) (X' := 1) (Y' := 6) (pc' := 14) (by decide +kernel) hc0 rfl h3 (fun v3 c hc1 h4 => ?_) (fun E h4 => by have e9 := Option.some.inj h4; subst e9; exact hF); clear h3 hc0
  have e9 := Option.some.inj h4; subst e9
  exact s_rv (X := 1) (Y := 6) (by decide +kernel) hc1 hF
set_option maxRecDepth 100000 in
set_option maxHeartbeats 4000000 in
theorem kX10_needScene {K J : Nat → Nat} {fu : Nat} {sh : HS} {I : HI} {R : HR} {F : VF} {mi pc pc' X Y X' Y' : Nat} {L : VL} {rest : List Value} {c : Nat × Nat} {l0 : Nat} {l1 : Int32} {ω : Type} {o : ω} {e : String → Option ω} {g : Unit → Option ω} (hq : cQ mi pc 98 2 pc' X Y X' Y' = true) (hc : c.1 ≤ X ∧ c.2 ≤ Y) (hr : Nat.ble (catS rest) 8 = true) (h : oT0 (fX10_needScene fu sh I R l0 l1) e g = some o) (kk : ∀ v c', (c'.1 ≤ X' ∧ c'.2 ≤ Y') → g v = some o → V K J mi pc' L (rest) sh I R c' F) (kx : ∀ E, e E = some o → F (.inr E) sh I R) : V K J mi pc L (.int l1 :: .ref l0 :: rest) sh I R c F := by
  obtain ⟨r, h1, h2⟩ := bnd h
  have hT : isT sh l0 8 = true := by unfold fX10_needScene at h1; exact (gd h1).1
  have ml : mL 98 = 2 := by decide +kernel
  have mk : mK 98 = 1 := by decide +kernel
  have mc : mC 98 = 8 := by decide +kernel
  rcases r with v | E
  · refine s_call (as := [.int l1, .ref l0]) (G := fun o' sh' I' R' => o' = .inl none ∧ sh' = sh ∧ I' = I ∧ R' = R) hq hc rfl hr (by rw [ml]; rfl) (Or.inl rfl) (fun _ => Or.inl (Or.inl ⟨by rw [mc]; decide, by rw [mc]; exact isT_iff.mp hT⟩)) (fun z => absurd (mk.symm.trans z) (by decide)) (by rw [ml]; exact vX10_needScene (F := fun o' sh' I' R' => o' = .inl none ∧ sh' = sh ∧ I' = I ∧ R' = R) ⟨rfl, rfl, rfl, rfl⟩ h1) ?_ ?_ ?_
    · rintro sh' I' R' c' hc' ⟨g1, rfl, rfl, rfl⟩
      cases g1
      exact kk _ _ hc' h2
    · rintro v' sh' I' R' c' hc' ⟨g1, rfl, rfl, rfl⟩
      cases g1
    · rintro E' sh' I' R' ⟨g1, rfl, rfl, rfl⟩
      cases g1
  · refine s_call (as := [.int l1, .ref l0]) (G := fun o' sh' I' R' => o' = .inr E ∧ sh' = sh ∧ I' = I ∧ R' = R) hq hc rfl hr (by rw [ml]; rfl) (Or.inl rfl) (fun _ => Or.inl (Or.inl ⟨by rw [mc]; decide, by rw [mc]; exact isT_iff.mp hT⟩)) (fun z => absurd (mk.symm.trans z) (by decide)) (by rw [ml]; exact vX10_needScene (F := fun o' sh' I' R' => o' = .inr E ∧ sh' = sh ∧ I' = I ∧ R' = R) ⟨rfl, rfl, rfl, rfl⟩ h1) ?_ ?_ ?_
    · rintro sh' I' R' c' hc' ⟨g1, rfl, rfl, rfl⟩
      cases g1
    · rintro v' sh' I' R' c' hc' ⟨g1, rfl, rfl, rfl⟩
      cases g1
    · rintro E' sh' I' R' ⟨g1, rfl, rfl, rfl⟩
      cases g1
      exact kx _ h2
set_option maxRecDepth 100000 in
set_option maxHeartbeats 4000000 in
def fX10_scene (fu : Nat) (sh : HS) (I : HI) (R : HR) (l0 : Nat) (l1 : Int32) (l2 : Int32) : Option (Int32 ⊕ String) :=
  if isT sh l0 8 = true then
    (oT0 (fX10_needBoard fu sh I R l0) (fun E => some (.inr E)) fun _ =>
    oT0 (fX10_needScene fu sh I R l0 l1) (fun E => some (.inr E)) fun _ =>
    oT0 (fX10_needRange fu sh I R l2 0 2) (fun E => some (.inr E)) fun _ =>
    if l2 = 0 then
      ((oR sh R l0 8 4).bind fun v4 =>
      (oR sh R v4 0 5).bind fun v5 =>
      (oB sh R v5 5 l1).bind fun v6 =>
      (oI sh I v6 5 0).bind fun v7 =>
      some (.inl v7))
    else
      if l2 = 1 then
        ((oR sh R l0 8 4).bind fun v8 =>
        (oR sh R v8 0 5).bind fun v9 =>
        (oB sh R v9 5 l1).bind fun v10 =>
        (oI sh I v10 5 1).bind fun v11 =>
        some (.inl v11))
      else
        (oR sh R l0 8 4).bind fun v12 =>
        (fX0_shotsOfScene fu sh I R v12 l1).bind fun v13 =>
        some (.inl v13))
  else none
set_option maxRecDepth 100000 in
set_option maxHeartbeats 4000000 in
theorem vX10_scene {K J : Nat → Nat} {fu : Nat} {sh : HS} {I : HI} {R : HR} {F : VF} {o : (Int32 ⊕ String)} (hF : F (voI o) sh I R) {l0 : Nat} {l1 : Int32} {l2 : Int32} (h0 : fX10_scene fu sh I R l0 l1 l2 = some o) : V K J 68 0 (ent 3 [.ref l0, .int l1, .int l2]) [] sh I R (0, 0) F := by
  unfold fX10_scene at h0
  obtain ⟨-, h1⟩ := gd h0; clear h0
  have hc0 : ((0 : Nat), (0 : Nat)).1 ≤ 0 ∧ ((0 : Nat), (0 : Nat)).2 ≤ 0 := ⟨Nat.le_refl _, Nat.le_refl _⟩
  show V K J 68 0 [some (.ref l0), some (.int l1), some (.int l2)] [] sh I R (0, 0) F
  refine s_rl (i := 0) (pc' := 1) (by decide +kernel) rfl ?_
  refine kX10_needBoard (X := 0) (Y := 0) (X' := 1) (Y' := 6) (pc' := 4) (by decide +kernel) hc0 rfl h1 (fun v1 c hc1 h2 => ?_) (fun E h2 => by have e9 := Option.some.inj h2; subst e9; exact hF); clear h1 hc0
  refine s_rl (i := 0) (pc' := 5) (by decide +kernel) rfl ?_
  refine s_il (i := 1) (pc' := 6) (by decide +kernel) rfl ?_
  refine kX10_needScene (X := 1) (Y := 6) (X' := 2) (Y' := 12) (pc' := 9) (by decide +kernel) hc1 rfl h2 (fun v2 c hc2 h3 => ?_) (fun E h3 => by have e9 := Option.some.inj h3; subst e9; exact hF); clear h2 hc1
  refine s_il (i := 2) (pc' := 10) (by decide +kernel) rfl ?_
  refine s_c (v := 0) (pc' := 11) (by decide +kernel) ?_
  refine s_c (v := 2) (pc' := 12) (by decide +kernel) ?_
  refine kX10_needRange (X := 2) (Y := 12) (X' := 3) (Y' := 18) (pc' := 15) (by decide +kernel) hc2 rfl h3 (fun v3 c hc3 h4 => ?_) (fun E h4 => by have e9 := Option.some.inj h4; subst e9; exact hF); clear h3 hc2
  refine s_il (i := 2) (pc' := 16) (by decide +kernel) rfl ?_
  by_cases e0 : l2 = 0
  · have h5 := h4
    rw [if_pos e0] at h5
    clear h4
    refine s_sw (v := 0) (t := 44) e0 (by decide +kernel) ?_
    refine s_rl (i := 0) (pc' := 45) (by decide +kernel) rfl ?_
    refine s_gR (t := 8) (j := 4) (pc' := 48) (by decide +kernel) h5 (fun v4 h6 => ?_); clear h5
    refine s_gR (t := 0) (j := 5) (pc' := 51) (by decide +kernel) h6 (fun v5 h7 => ?_); clear h6
    refine s_il (i := 1) (pc' := 52) (by decide +kernel) rfl ?_
    refine s_aal (t := 5) (pc' := 53) (by decide +kernel) h7 (fun v6 h8 => ?_); clear h7
    refine s_gI (t := 5) (j := 0) (ty := 0) (pc' := 56) (by decide +kernel) rfl h8 (fun v7 h9 => ?_); clear h8
    have e9 := Option.some.inj h9; subst e9
    exact s_ri (X := 3) (Y := 18) (by decide +kernel) hc3 hF
  rw [if_neg e0] at h4
  by_cases e1 : l2 = 1
  · have h5 := h4
    rw [if_pos e1] at h5
    clear h4
    refine s_sw (v := 1) (t := 57) e1 (by decide +kernel) ?_
    refine s_rl (i := 0) (pc' := 58) (by decide +kernel) rfl ?_
    refine s_gR (t := 8) (j := 4) (pc' := 61) (by decide +kernel) h5 (fun v8 h6 => ?_); clear h5
    refine s_gR (t := 0) (j := 5) (pc' := 64) (by decide +kernel) h6 (fun v9 h7 => ?_); clear h6
    refine s_il (i := 1) (pc' := 65) (by decide +kernel) rfl ?_
    refine s_aal (t := 5) (pc' := 66) (by decide +kernel) h7 (fun v10 h8 => ?_); clear h7
    refine s_gI (t := 5) (j := 1) (ty := 0) (pc' := 69) (by decide +kernel) rfl h8 (fun v11 h9 => ?_); clear h8
    have e9 := Option.some.inj h9; subst e9
    exact s_ri (X := 3) (Y := 18) (by decide +kernel) hc3 hF
  rw [if_neg e1] at h4
  refine s_sd (n := 2) (t := 70) (sw_out2 e0 e1) (by decide +kernel) ?_
  refine s_rl (i := 0) (pc' := 71) (by decide +kernel) rfl ?_
  refine s_gR (t := 8) (j := 4) (pc' := 74) (by decide +kernel) h4 (fun v12 h5 => ?_); clear h4
  refine s_il (i := 1) (pc' := 75) (by decide +kernel) rfl ?_
  refine kX0_shotsOfScene (X := 3) (Y := 18) (X' := 3) (Y' := 18) (pc' := 78) (by decide +kernel) hc3 rfl h5 (fun v13 c hc4 h6 => ?_); clear h5 hc3
  have e9 := Option.some.inj h6; subst e9
  exact s_ri (X := 3) (Y := 18) (by decide +kernel) hc4 hF
set_option maxRecDepth 100000 in
set_option maxHeartbeats 4000000 in
theorem kX10_scene {K J : Nat → Nat} {fu : Nat} {sh : HS} {I : HI} {R : HR} {F : VF} {mi pc pc' X Y X' Y' : Nat} {L : VL} {rest : List Value} {c : Nat × Nat} {l0 : Nat} {l1 : Int32} {l2 : Int32} {ω : Type} {o : ω} {e : String → Option ω} {g : Int32 → Option ω} (hq : cQ mi pc 68 3 pc' X Y X' Y' = true) (hc : c.1 ≤ X ∧ c.2 ≤ Y) (hr : Nat.ble (catS rest) 8 = true) (h : oT0 (fX10_scene fu sh I R l0 l1 l2) e g = some o) (kk : ∀ v c', (c'.1 ≤ X' ∧ c'.2 ≤ Y') → g v = some o → V K J mi pc' L ((.int v) :: rest) sh I R c' F) (kx : ∀ E, e E = some o → F (.inr E) sh I R) : V K J mi pc L (.int l2 :: .int l1 :: .ref l0 :: rest) sh I R c F := by
  obtain ⟨r, h1, h2⟩ := bnd h
  have hT : isT sh l0 8 = true := by unfold fX10_scene at h1; exact (gd h1).1
  have ml : mL 68 = 3 := by decide +kernel
  have mk : mK 68 = 1 := by decide +kernel
  have mc : mC 68 = 8 := by decide +kernel
  rcases r with v | E
  · refine s_call (as := [.int l2, .int l1, .ref l0]) (G := fun o' sh' I' R' => o' = .inl (some (.int v)) ∧ sh' = sh ∧ I' = I ∧ R' = R) hq hc rfl hr (by rw [ml]; rfl) (Or.inl rfl) (fun _ => Or.inl (Or.inl ⟨by rw [mc]; decide, by rw [mc]; exact isT_iff.mp hT⟩)) (fun z => absurd (mk.symm.trans z) (by decide)) (by rw [ml]; exact vX10_scene (F := fun o' sh' I' R' => o' = .inl (some (.int v)) ∧ sh' = sh ∧ I' = I ∧ R' = R) ⟨rfl, rfl, rfl, rfl⟩ h1) ?_ ?_ ?_
    · rintro sh' I' R' c' hc' ⟨g1, rfl, rfl, rfl⟩
      cases g1
    · rintro v' sh' I' R' c' hc' ⟨g1, rfl, rfl, rfl⟩
      cases g1
      exact kk _ _ hc' h2
    · rintro E' sh' I' R' ⟨g1, rfl, rfl, rfl⟩
      cases g1
  · refine s_call (as := [.int l2, .int l1, .ref l0]) (G := fun o' sh' I' R' => o' = .inr E ∧ sh' = sh ∧ I' = I ∧ R' = R) hq hc rfl hr (by rw [ml]; rfl) (Or.inl rfl) (fun _ => Or.inl (Or.inl ⟨by rw [mc]; decide, by rw [mc]; exact isT_iff.mp hT⟩)) (fun z => absurd (mk.symm.trans z) (by decide)) (by rw [ml]; exact vX10_scene (F := fun o' sh' I' R' => o' = .inr E ∧ sh' = sh ∧ I' = I ∧ R' = R) ⟨rfl, rfl, rfl, rfl⟩ h1) ?_ ?_ ?_
    · rintro sh' I' R' c' hc' ⟨g1, rfl, rfl, rfl⟩
      cases g1
    · rintro v' sh' I' R' c' hc' ⟨g1, rfl, rfl, rfl⟩
      cases g1
    · rintro E' sh' I' R' ⟨g1, rfl, rfl, rfl⟩
      cases g1
      exact kx _ h2
set_option maxRecDepth 100000 in
set_option maxHeartbeats 4000000 in
def fX10_needActor (fu : Nat) (sh : HS) (I : HI) (R : HR) (l0 : Nat) (l1 : Int32) : Option (Unit ⊕ String) :=
  (fX6_hasActor fu sh I R l0 l1).bind fun v1 =>
  if v1 = 0 then
    (some (.inr "java/lang/IllegalArgumentException"))
  else
    (some (.inl ()))
set_option maxRecDepth 100000 in
set_option maxHeartbeats 4000000 in
theorem vX10_needActor {K J : Nat → Nat} {fu : Nat} {sh : HS} {I : HI} {R : HR} {F : VF} {o : (Unit ⊕ String)} (hF : F (voN o) sh I R) {l0 : Nat} {l1 : Int32} (h0 : fX10_needActor fu sh I R l0 l1 = some o) : V K J 101 0 (ent 2 [.ref l0, .int l1]) [] sh I R (0, 0) F := by
  unfold fX10_needActor at h0
  have h1 := h0; clear h0
  have hc0 : ((0 : Nat), (0 : Nat)).1 ≤ 0 ∧ ((0 : Nat), (0 : Nat)).2 ≤ 0 := ⟨Nat.le_refl _, Nat.le_refl _⟩
  show V K J 101 0 [some (.ref l0), some (.int l1)] [] sh I R (0, 0) F
  refine s_rl (i := 0) (pc' := 1) (by decide +kernel) rfl ?_
  refine s_il (i := 1) (pc' := 2) (by decide +kernel) rfl ?_
  refine kX6_hasActor (X := 0) (Y := 0) (X' := 0) (Y' := 0) (pc' := 5) (by decide +kernel) hc0 rfl h1 (fun v1 c hc1 h2 => ?_); clear h1 hc0
  refine s_ifn (ins := .ifCond .ne 14) (t := 19) (pc' := 8) (by decide +kernel) rfl rfl rfl h2 (fun p3 h3 => ?_) (fun p3 h3 => ?_) <;> clear h2
  · have e9 := Option.some.inj h3; subst e9
    exact s_rv (X := 0) (Y := 0) (by decide +kernel) hc1 hF
  · have e9 := Option.some.inj h3; subst e9
    exact s_th (E := "java/lang/IllegalArgumentException") (X := 0) (Y := 0) (by decide +kernel) hc1 rfl hF
set_option maxRecDepth 100000 in
set_option maxHeartbeats 4000000 in
theorem kX10_needActor {K J : Nat → Nat} {fu : Nat} {sh : HS} {I : HI} {R : HR} {F : VF} {mi pc pc' X Y X' Y' : Nat} {L : VL} {rest : List Value} {c : Nat × Nat} {l0 : Nat} {l1 : Int32} {ω : Type} {o : ω} {e : String → Option ω} {g : Unit → Option ω} (hq : cQ mi pc 101 2 pc' X Y X' Y' = true) (hc : c.1 ≤ X ∧ c.2 ≤ Y) (hr : Nat.ble (catS rest) 8 = true) (h : oT0 (fX10_needActor fu sh I R l0 l1) e g = some o) (kk : ∀ v c', (c'.1 ≤ X' ∧ c'.2 ≤ Y') → g v = some o → V K J mi pc' L (rest) sh I R c' F) (kx : ∀ E, e E = some o → F (.inr E) sh I R) : V K J mi pc L (.int l1 :: .ref l0 :: rest) sh I R c F := by
  obtain ⟨r, h1, h2⟩ := bnd h
  have ml : mL 101 = 2 := by decide +kernel
  have mk : mK 101 = 0 := by decide +kernel
  rcases r with v | E
  · refine s_call (as := [.int l1, .ref l0]) (G := fun o' sh' I' R' => o' = .inl none ∧ sh' = sh ∧ I' = I ∧ R' = R) hq hc rfl hr (by rw [ml]; rfl) (Or.inl rfl) (fun z => absurd (mk.symm.trans z) (by decide)) (fun z => absurd (mk.symm.trans z) (by decide)) (by rw [ml]; exact vX10_needActor (F := fun o' sh' I' R' => o' = .inl none ∧ sh' = sh ∧ I' = I ∧ R' = R) ⟨rfl, rfl, rfl, rfl⟩ h1) ?_ ?_ ?_
    · rintro sh' I' R' c' hc' ⟨g1, rfl, rfl, rfl⟩
      cases g1
      exact kk _ _ hc' h2
    · rintro v' sh' I' R' c' hc' ⟨g1, rfl, rfl, rfl⟩
      cases g1
    · rintro E' sh' I' R' ⟨g1, rfl, rfl, rfl⟩
      cases g1
  · refine s_call (as := [.int l1, .ref l0]) (G := fun o' sh' I' R' => o' = .inr E ∧ sh' = sh ∧ I' = I ∧ R' = R) hq hc rfl hr (by rw [ml]; rfl) (Or.inl rfl) (fun z => absurd (mk.symm.trans z) (by decide)) (fun z => absurd (mk.symm.trans z) (by decide)) (by rw [ml]; exact vX10_needActor (F := fun o' sh' I' R' => o' = .inr E ∧ sh' = sh ∧ I' = I ∧ R' = R) ⟨rfl, rfl, rfl, rfl⟩ h1) ?_ ?_ ?_
    · rintro sh' I' R' c' hc' ⟨g1, rfl, rfl, rfl⟩
      cases g1
    · rintro v' sh' I' R' c' hc' ⟨g1, rfl, rfl, rfl⟩
      cases g1
    · rintro E' sh' I' R' ⟨g1, rfl, rfl, rfl⟩
      cases g1
      exact kx _ h2
set_option maxRecDepth 100000 in
set_option maxHeartbeats 4000000 in
def fX10_actor_b57 (fu : Nat) (sh : HS) (I : HI) (R : HR) (s0 : Int32) : Option (Int32 ⊕ String) :=
  some (.inl s0)
set_option maxRecDepth 100000 in
set_option maxHeartbeats 4000000 in
theorem vX10_actor_b57 {K J : Nat → Nat} {fu : Nat} {sh : HS} {I : HI} {R : HR} {F : VF} {o : (Int32 ⊕ String)} (hF : F (voI o) sh I R) {s0 : Int32} {d0 d1 d2 d3 : Option Value} {c : Nat × Nat} (hc0 : c.1 ≤ 3 ∧ c.2 ≤ 18) (h0 : fX10_actor_b57 fu sh I R s0 = some o) : V K J 69 57 [d0, d1, d2, d3] [.int s0] sh I R c F := by
  unfold fX10_actor_b57 at h0
  have e9 := Option.some.inj h0; subst e9
  exact s_ri (X := 3) (Y := 18) (by decide +kernel) hc0 hF
set_option maxRecDepth 100000 in
set_option maxHeartbeats 4000000 in
def fX10_actor (fu : Nat) (sh : HS) (I : HI) (R : HR) (l0 : Nat) (l1 : Int32) (l2 : Int32) (l3 : Int32) : Option (Int32 ⊕ String) :=
  if isT sh l0 8 = true then
    (oT0 (fX10_needBoard fu sh I R l0) (fun E => some (.inr E)) fun _ =>
    oT0 (fX10_needScene fu sh I R l0 l1) (fun E => some (.inr E)) fun _ =>
    (oR sh R l0 8 4).bind fun v3 =>
    (oR sh R v3 0 5).bind fun v4 =>
    (oB sh R v4 5 l1).bind fun v5 =>
    oT0 (fX10_needActor fu sh I R v5 l2) (fun E => some (.inr E)) fun _ =>
    if l3 = 0 then
      ((oR sh R l0 8 4).bind fun v7 =>
      (oR sh R v7 0 5).bind fun v8 =>
      (oB sh R v8 5 l1).bind fun v9 =>
      (oR sh R v9 5 2).bind fun v10 =>
      (oA sh I v10 l2).bind fun v11 =>
      (fX10_actor_b57 fu sh I R) v11)
    else
      ((oR sh R l0 8 4).bind fun v12 =>
      (oR sh R v12 0 5).bind fun v13 =>
      (oB sh R v13 5 l1).bind fun v14 =>
      (oR sh R v14 5 3).bind fun v15 =>
      (oA sh I v15 l2).bind fun v16 =>
      (fX10_actor_b57 fu sh I R) v16))
  else none
set_option maxRecDepth 100000 in
set_option maxHeartbeats 4000000 in
theorem vX10_actor {K J : Nat → Nat} {fu : Nat} {sh : HS} {I : HI} {R : HR} {F : VF} {o : (Int32 ⊕ String)} (hF : F (voI o) sh I R) {l0 : Nat} {l1 : Int32} {l2 : Int32} {l3 : Int32} (h0 : fX10_actor fu sh I R l0 l1 l2 l3 = some o) : V K J 69 0 (ent 4 [.ref l0, .int l1, .int l2, .int l3]) [] sh I R (0, 0) F := by
  unfold fX10_actor at h0
  obtain ⟨-, h1⟩ := gd h0; clear h0
  have hc0 : ((0 : Nat), (0 : Nat)).1 ≤ 0 ∧ ((0 : Nat), (0 : Nat)).2 ≤ 0 := ⟨Nat.le_refl _, Nat.le_refl _⟩
  show V K J 69 0 [some (.ref l0), some (.int l1), some (.int l2), some (.int l3)] [] sh I R (0, 0) F
  refine s_rl (i := 0) (pc' := 1) (by decide +kernel) rfl ?_
  refine kX10_needBoard (X := 0) (Y := 0) (X' := 1) (Y' := 6) (pc' := 4) (by decide +kernel) hc0 rfl h1 (fun v1 c hc1 h2 => ?_) (fun E h2 => by have e9 := Option.some.inj h2; subst e9; exact hF); clear h1 hc0
  refine s_rl (i := 0) (pc' := 5) (by decide +kernel) rfl ?_
  refine s_il (i := 1) (pc' := 6) (by decide +kernel) rfl ?_
  refine kX10_needScene (X := 1) (Y := 6) (X' := 2) (Y' := 12) (pc' := 9) (by decide +kernel) hc1 rfl h2 (fun v2 c hc2 h3 => ?_) (fun E h3 => by have e9 := Option.some.inj h3; subst e9; exact hF); clear h2 hc1
  refine s_rl (i := 0) (pc' := 10) (by decide +kernel) rfl ?_
  refine s_gR (t := 8) (j := 4) (pc' := 13) (by decide +kernel) h3 (fun v3 h4 => ?_); clear h3
  refine s_gR (t := 0) (j := 5) (pc' := 16) (by decide +kernel) h4 (fun v4 h5 => ?_); clear h4
  refine s_il (i := 1) (pc' := 17) (by decide +kernel) rfl ?_
  refine s_aal (t := 5) (pc' := 18) (by decide +kernel) h5 (fun v5 h6 => ?_); clear h5
  refine s_il (i := 2) (pc' := 19) (by decide +kernel) rfl ?_
  refine kX10_needActor (X := 2) (Y := 12) (X' := 3) (Y' := 18) (pc' := 22) (by decide +kernel) hc2 rfl h6 (fun v6 c hc3 h7 => ?_) (fun E h7 => by have e9 := Option.some.inj h7; subst e9; exact hF); clear h6 hc2
  refine s_il (i := 3) (pc' := 23) (by decide +kernel) rfl ?_
  refine s_if (ins := .ifCond .eq 20) (t := 43) (pc' := 26) (by decide +kernel) rfl rfl rfl h7 (fun p8 h8 => ?_) (fun p8 h8 => ?_) <;> clear h7
  · refine s_rl (i := 0) (pc' := 44) (by decide +kernel) rfl ?_
    refine s_gR (t := 8) (j := 4) (pc' := 47) (by decide +kernel) h8 (fun v7 h9 => ?_); clear h8
    refine s_gR (t := 0) (j := 5) (pc' := 50) (by decide +kernel) h9 (fun v8 h10 => ?_); clear h9
    refine s_il (i := 1) (pc' := 51) (by decide +kernel) rfl ?_
    refine s_aal (t := 5) (pc' := 52) (by decide +kernel) h10 (fun v9 h11 => ?_); clear h10
    refine s_gR (t := 5) (j := 2) (pc' := 55) (by decide +kernel) h11 (fun v10 h12 => ?_); clear h11
    refine s_il (i := 2) (pc' := 56) (by decide +kernel) rfl ?_
    refine s_al (pc' := 57) (by decide +kernel) h12 (fun v11 h13 => ?_); clear h12
    exact (vX10_actor_b57 hF) hc3 h13
  · refine s_rl (i := 0) (pc' := 27) (by decide +kernel) rfl ?_
    refine s_gR (t := 8) (j := 4) (pc' := 30) (by decide +kernel) h8 (fun v12 h9 => ?_); clear h8
    refine s_gR (t := 0) (j := 5) (pc' := 33) (by decide +kernel) h9 (fun v13 h10 => ?_); clear h9
    refine s_il (i := 1) (pc' := 34) (by decide +kernel) rfl ?_
    refine s_aal (t := 5) (pc' := 35) (by decide +kernel) h10 (fun v14 h11 => ?_); clear h10
    refine s_gR (t := 5) (j := 3) (pc' := 38) (by decide +kernel) h11 (fun v15 h12 => ?_); clear h11
    refine s_il (i := 2) (pc' := 39) (by decide +kernel) rfl ?_
    refine s_al (pc' := 40) (by decide +kernel) h12 (fun v16 h13 => ?_); clear h12
    refine s_go (t := 57) (by decide +kernel) ?_
    exact (vX10_actor_b57 hF) hc3 h13
set_option maxRecDepth 100000 in
set_option maxHeartbeats 4000000 in
theorem kX10_actor {K J : Nat → Nat} {fu : Nat} {sh : HS} {I : HI} {R : HR} {F : VF} {mi pc pc' X Y X' Y' : Nat} {L : VL} {rest : List Value} {c : Nat × Nat} {l0 : Nat} {l1 : Int32} {l2 : Int32} {l3 : Int32} {ω : Type} {o : ω} {e : String → Option ω} {g : Int32 → Option ω} (hq : cQ mi pc 69 4 pc' X Y X' Y' = true) (hc : c.1 ≤ X ∧ c.2 ≤ Y) (hr : Nat.ble (catS rest) 8 = true) (h : oT0 (fX10_actor fu sh I R l0 l1 l2 l3) e g = some o) (kk : ∀ v c', (c'.1 ≤ X' ∧ c'.2 ≤ Y') → g v = some o → V K J mi pc' L ((.int v) :: rest) sh I R c' F) (kx : ∀ E, e E = some o → F (.inr E) sh I R) : V K J mi pc L (.int l3 :: .int l2 :: .int l1 :: .ref l0 :: rest) sh I R c F := by
  obtain ⟨r, h1, h2⟩ := bnd h
  have hT : isT sh l0 8 = true := by unfold fX10_actor at h1; exact (gd h1).1
  have ml : mL 69 = 4 := by decide +kernel
  have mk : mK 69 = 1 := by decide +kernel
  have mc : mC 69 = 8 := by decide +kernel
  rcases r with v | E
  · refine s_call (as := [.int l3, .int l2, .int l1, .ref l0]) (G := fun o' sh' I' R' => o' = .inl (some (.int v)) ∧ sh' = sh ∧ I' = I ∧ R' = R) hq hc rfl hr (by rw [ml]; rfl) (Or.inl rfl) (fun _ => Or.inl (Or.inl ⟨by rw [mc]; decide, by rw [mc]; exact isT_iff.mp hT⟩)) (fun z => absurd (mk.symm.trans z) (by decide)) (by rw [ml]; exact vX10_actor (F := fun o' sh' I' R' => o' = .inl (some (.int v)) ∧ sh' = sh ∧ I' = I ∧ R' = R) ⟨rfl, rfl, rfl, rfl⟩ h1) ?_ ?_ ?_
    · rintro sh' I' R' c' hc' ⟨g1, rfl, rfl, rfl⟩
      cases g1
    · rintro v' sh' I' R' c' hc' ⟨g1, rfl, rfl, rfl⟩
      cases g1
      exact kk _ _ hc' h2
    · rintro E' sh' I' R' ⟨g1, rfl, rfl, rfl⟩
      cases g1
  · refine s_call (as := [.int l3, .int l2, .int l1, .ref l0]) (G := fun o' sh' I' R' => o' = .inr E ∧ sh' = sh ∧ I' = I ∧ R' = R) hq hc rfl hr (by rw [ml]; rfl) (Or.inl rfl) (fun _ => Or.inl (Or.inl ⟨by rw [mc]; decide, by rw [mc]; exact isT_iff.mp hT⟩)) (fun z => absurd (mk.symm.trans z) (by decide)) (by rw [ml]; exact vX10_actor (F := fun o' sh' I' R' => o' = .inr E ∧ sh' = sh ∧ I' = I ∧ R' = R) ⟨rfl, rfl, rfl, rfl⟩ h1) ?_ ?_ ?_
    · rintro sh' I' R' c' hc' ⟨g1, rfl, rfl, rfl⟩
      cases g1
    · rintro v' sh' I' R' c' hc' ⟨g1, rfl, rfl, rfl⟩
      cases g1
    · rintro E' sh' I' R' ⟨g1, rfl, rfl, rfl⟩
      cases g1
      exact kx _ h2
set_option maxRecDepth 100000 in
set_option maxHeartbeats 4000000 in
def fX10_needShot (fu : Nat) (sh : HS) (I : HI) (R : HR) (l0 : Nat) (l1 : Int32) : Option (Unit ⊕ String) :=
  if isT sh l0 8 = true then
    ((oR sh R l0 8 4).bind fun v1 =>
    (oI sh I v1 0 4).bind fun v2 =>
    oT0 (fX10_needRange fu sh I R l1 0 (v2 - 1)) (fun E => some (.inr E)) fun _ =>
    some (.inl ()))
  else none
set_option maxRecDepth 100000 in
set_option maxHeartbeats 4000000 in
theorem vX10_needShot {K J : Nat → Nat} {fu : Nat} {sh : HS} {I : HI} {R : HR} {F : VF} {o : (Unit ⊕ String)} (hF : F (voN o) sh I R) {l0 : Nat} {l1 : Int32} (h0 : fX10_needShot fu sh I R l0 l1 = some o) : V K J 99 0 (ent 2 [.ref l0, .int l1]) [] sh I R (0, 0) F := by
  unfold fX10_needShot at h0
  obtain ⟨-, h1⟩ := gd h0; clear h0
  have hc0 : ((0 : Nat), (0 : Nat)).1 ≤ 0 ∧ ((0 : Nat), (0 : Nat)).2 ≤ 0 := ⟨Nat.le_refl _, Nat.le_refl _⟩
  show V K J 99 0 [some (.ref l0), some (.int l1)] [] sh I R (0, 0) F
  refine s_il (i := 1) (pc' := 1) (by decide +kernel) rfl ?_
  refine s_c (v := 0) (pc' := 2) (by decide +kernel) ?_
  refine s_rl (i := 0) (pc' := 3) (by decide +kernel) rfl ?_
  refine s_gR (t := 8) (j := 4) (pc' := 6) (by decide +kernel) h1 (fun v1 h2 => ?_); clear h1
  refine s_gI (t := 0) (j := 4) (ty := 0) (pc' := 9) (by decide +kernel) rfl h2 (fun v2 h3 => ?_); clear h2
  refine s_c (v := 1) (pc' := 10) (by decide +kernel) ?_
  refine s_a (ins := .isub) (pc' := 11) (by decide +kernel) rfl ?_
  refine kX10_needRange (X := 0) (Y := 0) (X' := 1) (Y' := 6) (pc' := 14) (by decide +kernel) hc0 rfl h3 (fun v3 c hc1 h4 => ?_) (fun E h4 => by have e9 := Option.some.inj h4; subst e9; exact hF); clear h3 hc0
  have e9 := Option.some.inj h4; subst e9
  exact s_rv (X := 1) (Y := 6) (by decide +kernel) hc1 hF
set_option maxRecDepth 100000 in
set_option maxHeartbeats 4000000 in
theorem kX10_needShot {K J : Nat → Nat} {fu : Nat} {sh : HS} {I : HI} {R : HR} {F : VF} {mi pc pc' X Y X' Y' : Nat} {L : VL} {rest : List Value} {c : Nat × Nat} {l0 : Nat} {l1 : Int32} {ω : Type} {o : ω} {e : String → Option ω} {g : Unit → Option ω} (hq : cQ mi pc 99 2 pc' X Y X' Y' = true) (hc : c.1 ≤ X ∧ c.2 ≤ Y) (hr : Nat.ble (catS rest) 8 = true) (h : oT0 (fX10_needShot fu sh I R l0 l1) e g = some o) (kk : ∀ v c', (c'.1 ≤ X' ∧ c'.2 ≤ Y') → g v = some o → V K J mi pc' L (rest) sh I R c' F) (kx : ∀ E, e E = some o → F (.inr E) sh I R) : V K J mi pc L (.int l1 :: .ref l0 :: rest) sh I R c F := by
  obtain ⟨r, h1, h2⟩ := bnd h
  have hT : isT sh l0 8 = true := by unfold fX10_needShot at h1; exact (gd h1).1
  have ml : mL 99 = 2 := by decide +kernel
  have mk : mK 99 = 1 := by decide +kernel
  have mc : mC 99 = 8 := by decide +kernel
  rcases r with v | E
  · refine s_call (as := [.int l1, .ref l0]) (G := fun o' sh' I' R' => o' = .inl none ∧ sh' = sh ∧ I' = I ∧ R' = R) hq hc rfl hr (by rw [ml]; rfl) (Or.inl rfl) (fun _ => Or.inl (Or.inl ⟨by rw [mc]; decide, by rw [mc]; exact isT_iff.mp hT⟩)) (fun z => absurd (mk.symm.trans z) (by decide)) (by rw [ml]; exact vX10_needShot (F := fun o' sh' I' R' => o' = .inl none ∧ sh' = sh ∧ I' = I ∧ R' = R) ⟨rfl, rfl, rfl, rfl⟩ h1) ?_ ?_ ?_
    · rintro sh' I' R' c' hc' ⟨g1, rfl, rfl, rfl⟩
      cases g1
      exact kk _ _ hc' h2
    · rintro v' sh' I' R' c' hc' ⟨g1, rfl, rfl, rfl⟩
      cases g1
    · rintro E' sh' I' R' ⟨g1, rfl, rfl, rfl⟩
      cases g1
  · refine s_call (as := [.int l1, .ref l0]) (G := fun o' sh' I' R' => o' = .inr E ∧ sh' = sh ∧ I' = I ∧ R' = R) hq hc rfl hr (by rw [ml]; rfl) (Or.inl rfl) (fun _ => Or.inl (Or.inl ⟨by rw [mc]; decide, by rw [mc]; exact isT_iff.mp hT⟩)) (fun z => absurd (mk.symm.trans z) (by decide)) (by rw [ml]; exact vX10_needShot (F := fun o' sh' I' R' => o' = .inr E ∧ sh' = sh ∧ I' = I ∧ R' = R) ⟨rfl, rfl, rfl, rfl⟩ h1) ?_ ?_ ?_
    · rintro sh' I' R' c' hc' ⟨g1, rfl, rfl, rfl⟩
      cases g1
    · rintro v' sh' I' R' c' hc' ⟨g1, rfl, rfl, rfl⟩
      cases g1
    · rintro E' sh' I' R' ⟨g1, rfl, rfl, rfl⟩
      cases g1
      exact kx _ h2
set_option maxRecDepth 100000 in
set_option maxHeartbeats 4000000 in
def fX10_shot (fu : Nat) (sh : HS) (I : HI) (R : HR) (l0 : Nat) (l1 : Int32) (l2 : Int32) : Option (Int32 ⊕ String) :=
  if isT sh l0 8 = true then
    (oT0 (fX10_needBoard fu sh I R l0) (fun E => some (.inr E)) fun _ =>
    oT0 (fX10_needShot fu sh I R l0 l1) (fun E => some (.inr E)) fun _ =>
    oT0 (fX10_needRange fu sh I R l2 0 5) (fun E => some (.inr E)) fun _ =>
    (oR sh R l0 8 4).bind fun v4 =>
    (oR sh R v4 0 6).bind fun v5 =>
    (oB sh R v5 7 l1).bind fun v6 =>
    if l2 = 0 then
      ((oI sh I v6 7 0).bind fun v7 =>
      some (.inl v7))
    else
      if l2 = 1 then
        ((oI sh I v6 7 1).bind fun v8 =>
        some (.inl v8))
      else
        if l2 = 2 then
          ((oI sh I v6 7 2).bind fun v9 =>
          some (.inl v9))
        else
          if l2 = 3 then
            ((oI sh I v6 7 3).bind fun v10 =>
            some (.inl v10))
          else
            if l2 = 4 then
              ((oI sh I v6 7 4).bind fun v11 =>
              some (.inl v11))
            else
              (oI sh I v6 7 5).bind fun v12 =>
              some (.inl v12))
  else none
set_option maxRecDepth 100000 in
set_option maxHeartbeats 4000000 in
theorem vX10_shot {K J : Nat → Nat} {fu : Nat} {sh : HS} {I : HI} {R : HR} {F : VF} {o : (Int32 ⊕ String)} (hF : F (voI o) sh I R) {l0 : Nat} {l1 : Int32} {l2 : Int32} (h0 : fX10_shot fu sh I R l0 l1 l2 = some o) : V K J 70 0 (ent 4 [.ref l0, .int l1, .int l2]) [] sh I R (0, 0) F := by
  unfold fX10_shot at h0
  obtain ⟨-, h1⟩ := gd h0; clear h0
  have hc0 : ((0 : Nat), (0 : Nat)).1 ≤ 0 ∧ ((0 : Nat), (0 : Nat)).2 ≤ 0 := ⟨Nat.le_refl _, Nat.le_refl _⟩
  show V K J 70 0 [some (.ref l0), some (.int l1), some (.int l2), none] [] sh I R (0, 0) F
  refine s_rl (i := 0) (pc' := 1) (by decide +kernel) rfl ?_
  refine kX10_needBoard (X := 0) (Y := 0) (X' := 1) (Y' := 6) (pc' := 4) (by decide +kernel) hc0 rfl h1 (fun v1 c hc1 h2 => ?_) (fun E h2 => by have e9 := Option.some.inj h2; subst e9; exact hF); clear h1 hc0
  refine s_rl (i := 0) (pc' := 5) (by decide +kernel) rfl ?_
  refine s_il (i := 1) (pc' := 6) (by decide +kernel) rfl ?_
  refine kX10_needShot (X := 1) (Y := 6) (X' := 2) (Y' := 12) (pc' := 9) (by decide +kernel) hc1 rfl h2 (fun v2 c hc2 h3 => ?_) (fun E h3 => by have e9 := Option.some.inj h3; subst e9; exact hF); clear h2 hc1
  refine s_il (i := 2) (pc' := 10) (by decide +kernel) rfl ?_
  refine s_c (v := 0) (pc' := 11) (by decide +kernel) ?_
  refine s_c (v := 5) (pc' := 12) (by decide +kernel) ?_
  refine kX10_needRange (X := 2) (Y := 12) (X' := 3) (Y' := 18) (pc' := 15) (by decide +kernel) hc2 rfl h3 (fun v3 c hc3 h4 => ?_) (fun E h4 => by have e9 := Option.some.inj h4; subst e9; exact hF); clear h3 hc2
  refine s_rl (i := 0) (pc' := 16) (by decide +kernel) rfl ?_
  refine s_gR (t := 8) (j := 4) (pc' := 19) (by decide +kernel) h4 (fun v4 h5 => ?_); clear h4
  refine s_gR (t := 0) (j := 6) (pc' := 22) (by decide +kernel) h5 (fun v5 h6 => ?_); clear h5
  refine s_il (i := 1) (pc' := 23) (by decide +kernel) rfl ?_
  refine s_aal (t := 7) (pc' := 24) (by decide +kernel) h6 (fun v6 h7 => ?_); clear h6
  refine s_rs (i := 3) (pc' := 25) (L' := [some (.ref l0), some (.int l1), some (.int l2), some (.ref v6)]) (by decide +kernel) rfl rfl ?_
  refine s_il (i := 2) (pc' := 26) (by decide +kernel) rfl ?_
  by_cases e0 : l2 = 0
  · have h8 := h7
    rw [if_pos e0] at h8
    clear h7
    refine s_sw (v := 0) (t := 60) e0 (by decide +kernel) ?_
    refine s_rl (i := 3) (pc' := 61) (by decide +kernel) rfl ?_
    refine s_gI (t := 7) (j := 0) (ty := 0) (pc' := 64) (by decide +kernel) rfl h8 (fun v7 h9 => ?_); clear h8
    have e9 := Option.some.inj h9; subst e9
    exact s_ri (X := 3) (Y := 18) (by decide +kernel) hc3 hF
  rw [if_neg e0] at h7
  by_cases e1 : l2 = 1
  · have h8 := h7
    rw [if_pos e1] at h8
    clear h7
    refine s_sw (v := 1) (t := 65) e1 (by decide +kernel) ?_
    refine s_rl (i := 3) (pc' := 66) (by decide +kernel) rfl ?_
    refine s_gI (t := 7) (j := 1) (ty := 0) (pc' := 69) (by decide +kernel) rfl h8 (fun v8 h9 => ?_); clear h8
    have e9 := Option.some.inj h9; subst e9
    exact s_ri (X := 3) (Y := 18) (by decide +kernel) hc3 hF
  rw [if_neg e1] at h7
  by_cases e2 : l2 = 2
  · have h8 := h7
    rw [if_pos e2] at h8
    clear h7
    refine s_sw (v := 2) (t := 70) e2 (by decide +kernel) ?_
    refine s_rl (i := 3) (pc' := 71) (by decide +kernel) rfl ?_
    refine s_gI (t := 7) (j := 2) (ty := 0) (pc' := 74) (by decide +kernel) rfl h8 (fun v9 h9 => ?_); clear h8
    have e9 := Option.some.inj h9; subst e9
    exact s_ri (X := 3) (Y := 18) (by decide +kernel) hc3 hF
  rw [if_neg e2] at h7
  by_cases e3 : l2 = 3
  · have h8 := h7
    rw [if_pos e3] at h8
    clear h7
    refine s_sw (v := 3) (t := 75) e3 (by decide +kernel) ?_
    refine s_rl (i := 3) (pc' := 76) (by decide +kernel) rfl ?_
    refine s_gI (t := 7) (j := 3) (ty := 0) (pc' := 79) (by decide +kernel) rfl h8 (fun v10 h9 => ?_); clear h8
    have e9 := Option.some.inj h9; subst e9
    exact s_ri (X := 3) (Y := 18) (by decide +kernel) hc3 hF
  rw [if_neg e3] at h7
  by_cases e4 : l2 = 4
  · have h8 := h7
    rw [if_pos e4] at h8
    clear h7
    refine s_sw (v := 4) (t := 80) e4 (by decide +kernel) ?_
    refine s_rl (i := 3) (pc' := 81) (by decide +kernel) rfl ?_
    refine s_gI (t := 7) (j := 4) (ty := 0) (pc' := 84) (by decide +kernel) rfl h8 (fun v11 h9 => ?_); clear h8
    have e9 := Option.some.inj h9; subst e9
    exact s_ri (X := 3) (Y := 18) (by decide +kernel) hc3 hF
  rw [if_neg e4] at h7
  refine s_sd (n := 5) (t := 85) (sw_out5 e0 e1 e2 e3 e4) (by decide +kernel) ?_
  refine s_rl (i := 3) (pc' := 86) (by decide +kernel) rfl ?_
  refine s_gI (t := 7) (j := 5) (ty := 0) (pc' := 89) (by decide +kernel) rfl h7 (fun v12 h8 => ?_); clear h7
  have e9 := Option.some.inj h8; subst e9
  exact s_ri (X := 3) (Y := 18) (by decide +kernel) hc3 hF
set_option maxRecDepth 100000 in
set_option maxHeartbeats 4000000 in
theorem kX10_shot {K J : Nat → Nat} {fu : Nat} {sh : HS} {I : HI} {R : HR} {F : VF} {mi pc pc' X Y X' Y' : Nat} {L : VL} {rest : List Value} {c : Nat × Nat} {l0 : Nat} {l1 : Int32} {l2 : Int32} {ω : Type} {o : ω} {e : String → Option ω} {g : Int32 → Option ω} (hq : cQ mi pc 70 3 pc' X Y X' Y' = true) (hc : c.1 ≤ X ∧ c.2 ≤ Y) (hr : Nat.ble (catS rest) 8 = true) (h : oT0 (fX10_shot fu sh I R l0 l1 l2) e g = some o) (kk : ∀ v c', (c'.1 ≤ X' ∧ c'.2 ≤ Y') → g v = some o → V K J mi pc' L ((.int v) :: rest) sh I R c' F) (kx : ∀ E, e E = some o → F (.inr E) sh I R) : V K J mi pc L (.int l2 :: .int l1 :: .ref l0 :: rest) sh I R c F := by
  obtain ⟨r, h1, h2⟩ := bnd h
  have hT : isT sh l0 8 = true := by unfold fX10_shot at h1; exact (gd h1).1
  have ml : mL 70 = 4 := by decide +kernel
  have mk : mK 70 = 1 := by decide +kernel
  have mc : mC 70 = 8 := by decide +kernel
  rcases r with v | E
  · refine s_call (as := [.int l2, .int l1, .ref l0]) (G := fun o' sh' I' R' => o' = .inl (some (.int v)) ∧ sh' = sh ∧ I' = I ∧ R' = R) hq hc rfl hr (by rw [ml]; rfl) (Or.inl rfl) (fun _ => Or.inl (Or.inl ⟨by rw [mc]; decide, by rw [mc]; exact isT_iff.mp hT⟩)) (fun z => absurd (mk.symm.trans z) (by decide)) (by rw [ml]; exact vX10_shot (F := fun o' sh' I' R' => o' = .inl (some (.int v)) ∧ sh' = sh ∧ I' = I ∧ R' = R) ⟨rfl, rfl, rfl, rfl⟩ h1) ?_ ?_ ?_
    · rintro sh' I' R' c' hc' ⟨g1, rfl, rfl, rfl⟩
      cases g1
    · rintro v' sh' I' R' c' hc' ⟨g1, rfl, rfl, rfl⟩
      cases g1
      exact kk _ _ hc' h2
    · rintro E' sh' I' R' ⟨g1, rfl, rfl, rfl⟩
      cases g1
  · refine s_call (as := [.int l2, .int l1, .ref l0]) (G := fun o' sh' I' R' => o' = .inr E ∧ sh' = sh ∧ I' = I ∧ R' = R) hq hc rfl hr (by rw [ml]; rfl) (Or.inl rfl) (fun _ => Or.inl (Or.inl ⟨by rw [mc]; decide, by rw [mc]; exact isT_iff.mp hT⟩)) (fun z => absurd (mk.symm.trans z) (by decide)) (by rw [ml]; exact vX10_shot (F := fun o' sh' I' R' => o' = .inr E ∧ sh' = sh ∧ I' = I ∧ R' = R) ⟨rfl, rfl, rfl, rfl⟩ h1) ?_ ?_ ?_
    · rintro sh' I' R' c' hc' ⟨g1, rfl, rfl, rfl⟩
      cases g1
    · rintro v' sh' I' R' c' hc' ⟨g1, rfl, rfl, rfl⟩
      cases g1
    · rintro E' sh' I' R' ⟨g1, rfl, rfl, rfl⟩
      cases g1
      exact kx _ h2
set_option maxRecDepth 100000 in
set_option maxHeartbeats 4000000 in
def fX10_beginAction (fu : Nat) (sh : HS) (I : HI) (R : HR) (l0 : Nat) : Option HI :=
  if isT sh l0 8 = true then
    ((oR sh R l0 8 7).bind fun v1 =>
    (oR sh R l0 8 4).bind fun v2 =>
    (fX3_remember fu sh I R v1 v2).bind fun w3 =>
    (fX10_forgetAnswers fu sh w3 R l0).bind fun w4 =>
    some w4)
  else none
set_option maxRecDepth 100000 in
set_option maxHeartbeats 4000000 in
theorem vX10_beginAction {K J : Nat → Nat} {fu : Nat} {sh : HS} {I : HI} {R : HR} {F : VF} {o : HI} (hF : F (.inl none) sh o R) {l0 : Nat} (h0 : fX10_beginAction fu sh I R l0 = some o) : V K J 102 0 (ent 1 [.ref l0]) [] sh I R (0, 0) F := by
  unfold fX10_beginAction at h0
  obtain ⟨-, h1⟩ := gd h0; clear h0
  have hc0 : ((0 : Nat), (0 : Nat)).1 ≤ 0 ∧ ((0 : Nat), (0 : Nat)).2 ≤ 0 := ⟨Nat.le_refl _, Nat.le_refl _⟩
  show V K J 102 0 [some (.ref l0)] [] sh I R (0, 0) F
  refine s_rl (i := 0) (pc' := 1) (by decide +kernel) rfl ?_
  refine s_gR (t := 8) (j := 7) (pc' := 4) (by decide +kernel) h1 (fun v1 h2 => ?_); clear h1
  refine s_rl (i := 0) (pc' := 5) (by decide +kernel) rfl ?_
  refine s_gR (t := 8) (j := 4) (pc' := 8) (by decide +kernel) h2 (fun v2 h3 => ?_); clear h2
  refine kX3_remember (X := 0) (Y := 0) (X' := 0) (Y' := 0) (pc' := 11) (by decide +kernel) hc0 rfl h3 (fun w3 c hc1 h4 => ?_); clear h3 hc0
  refine s_rl (i := 0) (pc' := 12) (by decide +kernel) rfl ?_
  refine kX10_forgetAnswers (X := 0) (Y := 0) (X' := 0) (Y' := 0) (pc' := 15) (by decide +kernel) hc1 rfl h4 (fun w4 c hc2 h5 => ?_); clear h4 hc1
  have e9 := Option.some.inj h5; subst e9
  exact s_rv (X := 0) (Y := 0) (by decide +kernel) hc2 hF
set_option maxRecDepth 100000 in
set_option maxHeartbeats 4000000 in
theorem kX10_beginAction {K J : Nat → Nat} {fu : Nat} {sh : HS} {I : HI} {R : HR} {F : VF} {mi pc pc' X Y X' Y' : Nat} {L : VL} {rest : List Value} {c : Nat × Nat} {l0 : Nat} {ω : Type} {o : ω} {g : HI → Option ω} (hq : cQ mi pc 102 1 pc' X Y X' Y' = true) (hc : c.1 ≤ X ∧ c.2 ≤ Y) (hr : Nat.ble (catS rest) 8 = true) (h : (fX10_beginAction fu sh I R l0).bind g = some o) (kk : ∀ w c', (c'.1 ≤ X' ∧ c'.2 ≤ Y') → g w = some o → V K J mi pc' L (rest) sh w R c' F) : V K J mi pc L (.ref l0 :: rest) sh I R c F := by
  obtain ⟨r, h1, h2⟩ := bnd h
  have hT : isT sh l0 8 = true := by unfold fX10_beginAction at h1; exact (gd h1).1
  have ml : mL 102 = 1 := by decide +kernel
  have mk : mK 102 = 1 := by decide +kernel
  have mc : mC 102 = 8 := by decide +kernel
  refine s_call (as := [.ref l0]) (G := fun o' sh' I' R' => o' = .inl none ∧ sh' = sh ∧ I' = r ∧ R' = R) hq hc rfl hr (by rw [ml]; rfl) (Or.inl rfl) (fun _ => Or.inl (Or.inl ⟨by rw [mc]; decide, by rw [mc]; exact isT_iff.mp hT⟩)) (fun z => absurd (mk.symm.trans z) (by decide)) (by rw [ml]; exact vX10_beginAction (F := fun o' sh' I' R' => o' = .inl none ∧ sh' = sh ∧ I' = r ∧ R' = R) ⟨rfl, rfl, rfl, rfl⟩ h1) ?_ ?_ ?_
  · rintro sh' I' R' c' hc' ⟨g1, rfl, rfl, rfl⟩
    cases g1
    exact kk _ _ hc' h2
  · rintro v' sh' I' R' c' hc' ⟨g1, rfl, rfl, rfl⟩
    cases g1
  · rintro E' sh' I' R' ⟨g1, rfl, rfl, rfl⟩
    cases g1
set_option maxRecDepth 100000 in
set_option maxHeartbeats 4000000 in
def fX10_settleSetups_b23 (fu : Nat) (sh : HS) (R : HR) (I : HI) : Option HI :=
  some I
set_option maxRecDepth 100000 in
set_option maxHeartbeats 4000000 in
theorem vX10_settleSetups_b23 {K J : Nat → Nat} {fu : Nat} {sh : HS} {R : HR} {F : VF} {o : HI} (hF : F (.inl none) sh o R) {I : HI} {d0 : Option Value} {c : Nat × Nat} (hc0 : c.1 ≤ 0 ∧ c.2 ≤ 0) (h0 : fX10_settleSetups_b23 fu sh R I = some o) : V K J 104 23 [d0] [] sh I R c F := by
  unfold fX10_settleSetups_b23 at h0
  have e9 := Option.some.inj h0; subst e9
  exact s_rv (X := 0) (Y := 0) (by decide +kernel) hc0 hF
set_option maxRecDepth 100000 in
set_option maxHeartbeats 4000000 in
def fX10_settleSetups (fu : Nat) (sh : HS) (I : HI) (R : HR) (l0 : Nat) : Option HI :=
  if isT sh l0 8 = true then
    ((oI sh I l0 8 9).bind fun v1 =>
    if v1 = 0 then
      ((oR sh R l0 8 8).bind fun v2 =>
      (oR sh R l0 8 4).bind fun v3 =>
      (fX7_fill fu sh I R v2 v3).bind fun w4 =>
      (oP sh w4 l0 8 9 1).bind fun v5 =>
      (fX10_settleSetups_b23 fu sh R) v5)
    else
      ((fX10_settleSetups_b23 fu sh R) I))
  else none
set_option maxRecDepth 100000 in
set_option maxHeartbeats 4000000 in
theorem vX10_settleSetups {K J : Nat → Nat} {fu : Nat} {sh : HS} {I : HI} {R : HR} {F : VF} {o : HI} (hF : F (.inl none) sh o R) {l0 : Nat} (h0 : fX10_settleSetups fu sh I R l0 = some o) : V K J 104 0 (ent 1 [.ref l0]) [] sh I R (0, 0) F := by
  unfold fX10_settleSetups at h0
  obtain ⟨-, h1⟩ := gd h0; clear h0
  have hc0 : ((0 : Nat), (0 : Nat)).1 ≤ 0 ∧ ((0 : Nat), (0 : Nat)).2 ≤ 0 := ⟨Nat.le_refl _, Nat.le_refl _⟩
  show V K J 104 0 [some (.ref l0)] [] sh I R (0, 0) F
  refine s_rl (i := 0) (pc' := 1) (by decide +kernel) rfl ?_
  refine s_gI (t := 8) (j := 9) (ty := 1) (pc' := 4) (by decide +kernel) rfl h1 (fun v1 h2 => ?_); clear h1
  refine s_ifn (ins := .ifCond .ne 19) (t := 23) (pc' := 7) (by decide +kernel) rfl rfl rfl h2 (fun p3 h3 => ?_) (fun p3 h3 => ?_) <;> clear h2
  · exact (vX10_settleSetups_b23 hF) hc0 h3
  · refine s_rl (i := 0) (pc' := 8) (by decide +kernel) rfl ?_
    refine s_gR (t := 8) (j := 8) (pc' := 11) (by decide +kernel) h3 (fun v2 h4 => ?_); clear h3
    refine s_rl (i := 0) (pc' := 12) (by decide +kernel) rfl ?_
    refine s_gR (t := 8) (j := 4) (pc' := 15) (by decide +kernel) h4 (fun v3 h5 => ?_); clear h4
    refine kX7_fill (X := 0) (Y := 0) (X' := 0) (Y' := 0) (pc' := 18) (by decide +kernel) hc0 rfl h5 (fun w4 c hc1 h6 => ?_); clear h5 hc0
    refine s_rl (i := 0) (pc' := 19) (by decide +kernel) rfl ?_
    refine s_c (v := 1) (pc' := 20) (by decide +kernel) ?_
    refine s_pI (t := 8) (j := 9) (ty := 1) (pc' := 23) (by decide +kernel) (Or.inr ⟨rfl, by decide⟩) h6 (fun v5 h7 => ?_); clear h6
    exact (vX10_settleSetups_b23 hF) hc1 h7
set_option maxRecDepth 100000 in
set_option maxHeartbeats 4000000 in
theorem kX10_settleSetups {K J : Nat → Nat} {fu : Nat} {sh : HS} {I : HI} {R : HR} {F : VF} {mi pc pc' X Y X' Y' : Nat} {L : VL} {rest : List Value} {c : Nat × Nat} {l0 : Nat} {ω : Type} {o : ω} {g : HI → Option ω} (hq : cQ mi pc 104 1 pc' X Y X' Y' = true) (hc : c.1 ≤ X ∧ c.2 ≤ Y) (hr : Nat.ble (catS rest) 8 = true) (h : (fX10_settleSetups fu sh I R l0).bind g = some o) (kk : ∀ w c', (c'.1 ≤ X' ∧ c'.2 ≤ Y') → g w = some o → V K J mi pc' L (rest) sh w R c' F) : V K J mi pc L (.ref l0 :: rest) sh I R c F := by
  obtain ⟨r, h1, h2⟩ := bnd h
  have hT : isT sh l0 8 = true := by unfold fX10_settleSetups at h1; exact (gd h1).1
  have ml : mL 104 = 1 := by decide +kernel
  have mk : mK 104 = 1 := by decide +kernel
  have mc : mC 104 = 8 := by decide +kernel
  refine s_call (as := [.ref l0]) (G := fun o' sh' I' R' => o' = .inl none ∧ sh' = sh ∧ I' = r ∧ R' = R) hq hc rfl hr (by rw [ml]; rfl) (Or.inl rfl) (fun _ => Or.inl (Or.inl ⟨by rw [mc]; decide, by rw [mc]; exact isT_iff.mp hT⟩)) (fun z => absurd (mk.symm.trans z) (by decide)) (by rw [ml]; exact vX10_settleSetups (F := fun o' sh' I' R' => o' = .inl none ∧ sh' = sh ∧ I' = r ∧ R' = R) ⟨rfl, rfl, rfl, rfl⟩ h1) ?_ ?_ ?_
  · rintro sh' I' R' c' hc' ⟨g1, rfl, rfl, rfl⟩
    cases g1
    exact kk _ _ hc' h2
  · rintro v' sh' I' R' c' hc' ⟨g1, rfl, rfl, rfl⟩
    cases g1
  · rintro E' sh' I' R' ⟨g1, rfl, rfl, rfl⟩
    cases g1
set_option maxRecDepth 100000 in
set_option maxHeartbeats 4000000 in
def fX10_setLimits (fu : Nat) (sh : HS) (I : HI) (R : HR) (l0 : Nat) (l1 : Int32) (l2 : Int32) (l3 : Int32) : Option ((Int32 ⊕ String) × HI) :=
  if isT sh l0 8 = true then
    (oT0 (fX10_needBoard fu sh I R l0) (fun E => some (.inr E, I)) fun _ =>
    oT0 (fX10_needRange fu sh I R l1 0 99) (fun E => some (.inr E, I)) fun _ =>
    oT0 (fX10_needRange fu sh I R l2 0 2000) (fun E => some (.inr E, I)) fun _ =>
    oT0 (fX10_needRange fu sh I R l3 0 2000) (fun E => some (.inr E, I)) fun _ =>
    (fX10_beginAction fu sh I R l0).bind fun w5 =>
    (oR sh R l0 8 4).bind fun v6 =>
    (oP sh w5 v6 0 0 l1).bind fun v7 =>
    (oR sh R l0 8 4).bind fun v8 =>
    (oP sh v7 v8 0 1 l2).bind fun v9 =>
    (oR sh R l0 8 4).bind fun v10 =>
    (oP sh v9 v10 0 2 l3).bind fun v11 =>
    (fX10_settleSetups fu sh v11 R l0).bind fun w12 =>
    (oR sh R l0 8 8).bind fun v13 =>
    (oI sh w12 v13 6 0).bind fun v14 =>
    some (.inl v14, w12))
  else none
set_option maxRecDepth 100000 in
set_option maxHeartbeats 4000000 in
theorem vX10_setLimits {K J : Nat → Nat} {fu : Nat} {sh : HS} {I : HI} {R : HR} {F : VF} {o : ((Int32 ⊕ String) × HI)} (hF : F (voI o.1) sh o.2 R) {l0 : Nat} {l1 : Int32} {l2 : Int32} {l3 : Int32} (h0 : fX10_setLimits fu sh I R l0 l1 l2 l3 = some o) : V K J 71 0 (ent 4 [.ref l0, .int l1, .int l2, .int l3]) [] sh I R (0, 0) F := by
  unfold fX10_setLimits at h0
  obtain ⟨-, h1⟩ := gd h0; clear h0
  have hc0 : ((0 : Nat), (0 : Nat)).1 ≤ 0 ∧ ((0 : Nat), (0 : Nat)).2 ≤ 0 := ⟨Nat.le_refl _, Nat.le_refl _⟩
  show V K J 71 0 [some (.ref l0), some (.int l1), some (.int l2), some (.int l3)] [] sh I R (0, 0) F
  refine s_rl (i := 0) (pc' := 1) (by decide +kernel) rfl ?_
  refine kX10_needBoard (X := 0) (Y := 0) (X' := 1) (Y' := 6) (pc' := 4) (by decide +kernel) hc0 rfl h1 (fun v1 c hc1 h2 => ?_) (fun E h2 => by have e9 := Option.some.inj h2; subst e9; exact hF); clear h1 hc0
  refine s_il (i := 1) (pc' := 5) (by decide +kernel) rfl ?_
  refine s_c (v := 0) (pc' := 6) (by decide +kernel) ?_
  refine s_c (v := 99) (pc' := 8) (by decide +kernel) ?_
  refine kX10_needRange (X := 1) (Y := 6) (X' := 2) (Y' := 12) (pc' := 11) (by decide +kernel) hc1 rfl h2 (fun v2 c hc2 h3 => ?_) (fun E h3 => by have e9 := Option.some.inj h3; subst e9; exact hF); clear h2 hc1
  refine s_il (i := 2) (pc' := 12) (by decide +kernel) rfl ?_
  refine s_c (v := 0) (pc' := 13) (by decide +kernel) ?_
  refine s_c (v := 2000) (pc' := 16) (by decide +kernel) ?_
  refine kX10_needRange (X := 2) (Y := 12) (X' := 3) (Y' := 18) (pc' := 19) (by decide +kernel) hc2 rfl h3 (fun v3 c hc3 h4 => ?_) (fun E h4 => by have e9 := Option.some.inj h4; subst e9; exact hF); clear h3 hc2
  refine s_il (i := 3) (pc' := 20) (by decide +kernel) rfl ?_
  refine s_c (v := 0) (pc' := 21) (by decide +kernel) ?_
  refine s_c (v := 2000) (pc' := 24) (by decide +kernel) ?_
  refine kX10_needRange (X := 3) (Y := 18) (X' := 4) (Y' := 24) (pc' := 27) (by decide +kernel) hc3 rfl h4 (fun v4 c hc4 h5 => ?_) (fun E h5 => by have e9 := Option.some.inj h5; subst e9; exact hF); clear h4 hc3
  refine s_rl (i := 0) (pc' := 28) (by decide +kernel) rfl ?_
  refine kX10_beginAction (X := 4) (Y := 24) (X' := 4) (Y' := 24) (pc' := 31) (by decide +kernel) hc4 rfl h5 (fun w5 c hc5 h6 => ?_); clear h5 hc4
  refine s_rl (i := 0) (pc' := 32) (by decide +kernel) rfl ?_
  refine s_gR (t := 8) (j := 4) (pc' := 35) (by decide +kernel) h6 (fun v6 h7 => ?_); clear h6
  refine s_il (i := 1) (pc' := 36) (by decide +kernel) rfl ?_
  refine s_pI (t := 0) (j := 0) (ty := 0) (pc' := 39) (by decide +kernel) (Or.inl rfl) h7 (fun v7 h8 => ?_); clear h7
  refine s_rl (i := 0) (pc' := 40) (by decide +kernel) rfl ?_
  refine s_gR (t := 8) (j := 4) (pc' := 43) (by decide +kernel) h8 (fun v8 h9 => ?_); clear h8
  refine s_il (i := 2) (pc' := 44) (by decide +kernel) rfl ?_
  refine s_pI (t := 0) (j := 1) (ty := 0) (pc' := 47) (by decide +kernel) (Or.inl rfl) h9 (fun v9 h10 => ?_); clear h9
  refine s_rl (i := 0) (pc' := 48) (by decide +kernel) rfl ?_
  refine s_gR (t := 8) (j := 4) (pc' := 51) (by decide +kernel) h10 (fun v10 h11 => ?_); clear h10
  refine s_il (i := 3) (pc' := 52) (by decide +kernel) rfl ?_
  refine s_pI (t := 0) (j := 2) (ty := 0) (pc' := 55) (by decide +kernel) (Or.inl rfl) h11 (fun v11 h12 => ?_); clear h11
  refine s_rl (i := 0) (pc' := 56) (by decide +kernel) rfl ?_
  refine kX10_settleSetups (X := 4) (Y := 24) (X' := 4) (Y' := 24) (pc' := 59) (by decide +kernel) hc5 rfl h12 (fun w12 c hc6 h13 => ?_); clear h12 hc5
  refine s_rl (i := 0) (pc' := 60) (by decide +kernel) rfl ?_
  refine s_gR (t := 8) (j := 8) (pc' := 63) (by decide +kernel) h13 (fun v13 h14 => ?_); clear h13
  refine s_gI (t := 6) (j := 0) (ty := 0) (pc' := 66) (by decide +kernel) rfl h14 (fun v14 h15 => ?_); clear h14
  have e9 := Option.some.inj h15; subst e9
  exact s_ri (X := 4) (Y := 24) (by decide +kernel) hc6 hF
set_option maxRecDepth 100000 in
set_option maxHeartbeats 4000000 in
theorem kX10_setLimits {K J : Nat → Nat} {fu : Nat} {sh : HS} {I : HI} {R : HR} {F : VF} {mi pc pc' X Y X' Y' : Nat} {L : VL} {rest : List Value} {c : Nat × Nat} {l0 : Nat} {l1 : Int32} {l2 : Int32} {l3 : Int32} {ω : Type} {o : ω} {e : String → HI → Option ω} {g : Int32 → HI → Option ω} (hq : cQ mi pc 71 4 pc' X Y X' Y' = true) (hc : c.1 ≤ X ∧ c.2 ≤ Y) (hr : Nat.ble (catS rest) 8 = true) (h : oTh (fX10_setLimits fu sh I R l0 l1 l2 l3) e g = some o) (kk : ∀ v w c', (c'.1 ≤ X' ∧ c'.2 ≤ Y') → g v w = some o → V K J mi pc' L ((.int v) :: rest) sh w R c' F) (kx : ∀ E w, e E w = some o → F (.inr E) sh w R) : V K J mi pc L (.int l3 :: .int l2 :: .int l1 :: .ref l0 :: rest) sh I R c F := by
  obtain ⟨r, h1, h2⟩ := bnd h
  have hT : isT sh l0 8 = true := by unfold fX10_setLimits at h1; exact (gd h1).1
  have ml : mL 71 = 4 := by decide +kernel
  have mk : mK 71 = 1 := by decide +kernel
  have mc : mC 71 = 8 := by decide +kernel
  obtain ⟨r, w⟩ := r
  rcases r with v | E
  · refine s_call (as := [.int l3, .int l2, .int l1, .ref l0]) (G := fun o' sh' I' R' => o' = .inl (some (.int v)) ∧ sh' = sh ∧ I' = w ∧ R' = R) hq hc rfl hr (by rw [ml]; rfl) (Or.inl rfl) (fun _ => Or.inl (Or.inl ⟨by rw [mc]; decide, by rw [mc]; exact isT_iff.mp hT⟩)) (fun z => absurd (mk.symm.trans z) (by decide)) (by rw [ml]; exact vX10_setLimits (F := fun o' sh' I' R' => o' = .inl (some (.int v)) ∧ sh' = sh ∧ I' = w ∧ R' = R) ⟨rfl, rfl, rfl, rfl⟩ h1) ?_ ?_ ?_
    · rintro sh' I' R' c' hc' ⟨g1, rfl, rfl, rfl⟩
      cases g1
    · rintro v' sh' I' R' c' hc' ⟨g1, rfl, rfl, rfl⟩
      cases g1
      exact kk _ _ _ hc' h2
    · rintro E' sh' I' R' ⟨g1, rfl, rfl, rfl⟩
      cases g1
  · refine s_call (as := [.int l3, .int l2, .int l1, .ref l0]) (G := fun o' sh' I' R' => o' = .inr E ∧ sh' = sh ∧ I' = w ∧ R' = R) hq hc rfl hr (by rw [ml]; rfl) (Or.inl rfl) (fun _ => Or.inl (Or.inl ⟨by rw [mc]; decide, by rw [mc]; exact isT_iff.mp hT⟩)) (fun z => absurd (mk.symm.trans z) (by decide)) (by rw [ml]; exact vX10_setLimits (F := fun o' sh' I' R' => o' = .inr E ∧ sh' = sh ∧ I' = w ∧ R' = R) ⟨rfl, rfl, rfl, rfl⟩ h1) ?_ ?_ ?_
    · rintro sh' I' R' c' hc' ⟨g1, rfl, rfl, rfl⟩
      cases g1
    · rintro v' sh' I' R' c' hc' ⟨g1, rfl, rfl, rfl⟩
      cases g1
    · rintro E' sh' I' R' ⟨g1, rfl, rfl, rfl⟩
      cases g1
      exact kx _ _ h2
set_option maxRecDepth 100000 in
set_option maxHeartbeats 4000000 in
def fX10_setLight (fu : Nat) (sh : HS) (I : HI) (R : HR) (l0 : Nat) (l1 : Int32) (l2 : Int32) : Option ((Int32 ⊕ String) × HI) :=
  if isT sh l0 8 = true then
    (oT0 (fX10_needBoard fu sh I R l0) (fun E => some (.inr E, I)) fun _ =>
    oT0 (fX10_needScene fu sh I R l0 l1) (fun E => some (.inr E, I)) fun _ =>
    oT0 (fX10_needRange fu sh I R l2 0 3) (fun E => some (.inr E, I)) fun _ =>
    (oR sh R l0 8 4).bind fun v4 =>
    (oR sh R v4 0 5).bind fun v5 =>
    (oB sh R v5 5 l1).bind fun v6 =>
    (oI sh I v6 5 0).bind fun v7 =>
    (fX10_beginAction fu sh I R l0).bind fun w8 =>
    (oR sh R l0 8 4).bind fun v9 =>
    (oR sh R v9 0 5).bind fun v10 =>
    (oB sh R v10 5 l1).bind fun v11 =>
    (oP sh w8 v11 5 0 l2).bind fun v12 =>
    some (.inl v7, v12))
  else none
set_option maxRecDepth 100000 in
set_option maxHeartbeats 4000000 in
theorem vX10_setLight {K J : Nat → Nat} {fu : Nat} {sh : HS} {I : HI} {R : HR} {F : VF} {o : ((Int32 ⊕ String) × HI)} (hF : F (voI o.1) sh o.2 R) {l0 : Nat} {l1 : Int32} {l2 : Int32} (h0 : fX10_setLight fu sh I R l0 l1 l2 = some o) : V K J 72 0 (ent 4 [.ref l0, .int l1, .int l2]) [] sh I R (0, 0) F := by
  unfold fX10_setLight at h0
  obtain ⟨-, h1⟩ := gd h0; clear h0
  have hc0 : ((0 : Nat), (0 : Nat)).1 ≤ 0 ∧ ((0 : Nat), (0 : Nat)).2 ≤ 0 := ⟨Nat.le_refl _, Nat.le_refl _⟩
  show V K J 72 0 [some (.ref l0), some (.int l1), some (.int l2), none] [] sh I R (0, 0) F
  refine s_rl (i := 0) (pc' := 1) (by decide +kernel) rfl ?_
  refine kX10_needBoard (X := 0) (Y := 0) (X' := 1) (Y' := 6) (pc' := 4) (by decide +kernel) hc0 rfl h1 (fun v1 c hc1 h2 => ?_) (fun E h2 => by have e9 := Option.some.inj h2; subst e9; exact hF); clear h1 hc0
  refine s_rl (i := 0) (pc' := 5) (by decide +kernel) rfl ?_
  refine s_il (i := 1) (pc' := 6) (by decide +kernel) rfl ?_
  refine kX10_needScene (X := 1) (Y := 6) (X' := 2) (Y' := 12) (pc' := 9) (by decide +kernel) hc1 rfl h2 (fun v2 c hc2 h3 => ?_) (fun E h3 => by have e9 := Option.some.inj h3; subst e9; exact hF); clear h2 hc1
  refine s_il (i := 2) (pc' := 10) (by decide +kernel) rfl ?_
  refine s_c (v := 0) (pc' := 11) (by decide +kernel) ?_
  refine s_c (v := 3) (pc' := 12) (by decide +kernel) ?_
  refine kX10_needRange (X := 2) (Y := 12) (X' := 3) (Y' := 18) (pc' := 15) (by decide +kernel) hc2 rfl h3 (fun v3 c hc3 h4 => ?_) (fun E h4 => by have e9 := Option.some.inj h4; subst e9; exact hF); clear h3 hc2
  refine s_rl (i := 0) (pc' := 16) (by decide +kernel) rfl ?_
  refine s_gR (t := 8) (j := 4) (pc' := 19) (by decide +kernel) h4 (fun v4 h5 => ?_); clear h4
  refine s_gR (t := 0) (j := 5) (pc' := 22) (by decide +kernel) h5 (fun v5 h6 => ?_); clear h5
  refine s_il (i := 1) (pc' := 23) (by decide +kernel) rfl ?_
  refine s_aal (t := 5) (pc' := 24) (by decide +kernel) h6 (fun v6 h7 => ?_); clear h6
  refine s_gI (t := 5) (j := 0) (ty := 0) (pc' := 27) (by decide +kernel) rfl h7 (fun v7 h8 => ?_); clear h7
  refine s_is (i := 3) (pc' := 28) (L' := [some (.ref l0), some (.int l1), some (.int l2), some (.int v7)]) (by decide +kernel) rfl rfl ?_
  refine s_rl (i := 0) (pc' := 29) (by decide +kernel) rfl ?_
  refine kX10_beginAction (X := 3) (Y := 18) (X' := 3) (Y' := 18) (pc' := 32) (by decide +kernel) hc3 rfl h8 (fun w8 c hc4 h9 => ?_); clear h8 hc3
  refine s_rl (i := 0) (pc' := 33) (by decide +kernel) rfl ?_
  refine s_gR (t := 8) (j := 4) (pc' := 36) (by decide +kernel) h9 (fun v9 h10 => ?_); clear h9
  refine s_gR (t := 0) (j := 5) (pc' := 39) (by decide +kernel) h10 (fun v10 h11 => ?_); clear h10
  refine s_il (i := 1) (pc' := 40) (by decide +kernel) rfl ?_
  refine s_aal (t := 5) (pc' := 41) (by decide +kernel) h11 (fun v11 h12 => ?_); clear h11
  refine s_il (i := 2) (pc' := 42) (by decide +kernel) rfl ?_
  refine s_pI (t := 5) (j := 0) (ty := 0) (pc' := 45) (by decide +kernel) (Or.inl rfl) h12 (fun v12 h13 => ?_); clear h12
  refine s_il (i := 3) (pc' := 46) (by decide +kernel) rfl ?_
  have e9 := Option.some.inj h13; subst e9
  exact s_ri (X := 3) (Y := 18) (by decide +kernel) hc4 hF
set_option maxRecDepth 100000 in
set_option maxHeartbeats 4000000 in
theorem kX10_setLight {K J : Nat → Nat} {fu : Nat} {sh : HS} {I : HI} {R : HR} {F : VF} {mi pc pc' X Y X' Y' : Nat} {L : VL} {rest : List Value} {c : Nat × Nat} {l0 : Nat} {l1 : Int32} {l2 : Int32} {ω : Type} {o : ω} {e : String → HI → Option ω} {g : Int32 → HI → Option ω} (hq : cQ mi pc 72 3 pc' X Y X' Y' = true) (hc : c.1 ≤ X ∧ c.2 ≤ Y) (hr : Nat.ble (catS rest) 8 = true) (h : oTh (fX10_setLight fu sh I R l0 l1 l2) e g = some o) (kk : ∀ v w c', (c'.1 ≤ X' ∧ c'.2 ≤ Y') → g v w = some o → V K J mi pc' L ((.int v) :: rest) sh w R c' F) (kx : ∀ E w, e E w = some o → F (.inr E) sh w R) : V K J mi pc L (.int l2 :: .int l1 :: .ref l0 :: rest) sh I R c F := by
  obtain ⟨r, h1, h2⟩ := bnd h
  have hT : isT sh l0 8 = true := by unfold fX10_setLight at h1; exact (gd h1).1
  have ml : mL 72 = 4 := by decide +kernel
  have mk : mK 72 = 1 := by decide +kernel
  have mc : mC 72 = 8 := by decide +kernel
  obtain ⟨r, w⟩ := r
  rcases r with v | E
  · refine s_call (as := [.int l2, .int l1, .ref l0]) (G := fun o' sh' I' R' => o' = .inl (some (.int v)) ∧ sh' = sh ∧ I' = w ∧ R' = R) hq hc rfl hr (by rw [ml]; rfl) (Or.inl rfl) (fun _ => Or.inl (Or.inl ⟨by rw [mc]; decide, by rw [mc]; exact isT_iff.mp hT⟩)) (fun z => absurd (mk.symm.trans z) (by decide)) (by rw [ml]; exact vX10_setLight (F := fun o' sh' I' R' => o' = .inl (some (.int v)) ∧ sh' = sh ∧ I' = w ∧ R' = R) ⟨rfl, rfl, rfl, rfl⟩ h1) ?_ ?_ ?_
    · rintro sh' I' R' c' hc' ⟨g1, rfl, rfl, rfl⟩
      cases g1
    · rintro v' sh' I' R' c' hc' ⟨g1, rfl, rfl, rfl⟩
      cases g1
      exact kk _ _ _ hc' h2
    · rintro E' sh' I' R' ⟨g1, rfl, rfl, rfl⟩
      cases g1
  · refine s_call (as := [.int l2, .int l1, .ref l0]) (G := fun o' sh' I' R' => o' = .inr E ∧ sh' = sh ∧ I' = w ∧ R' = R) hq hc rfl hr (by rw [ml]; rfl) (Or.inl rfl) (fun _ => Or.inl (Or.inl ⟨by rw [mc]; decide, by rw [mc]; exact isT_iff.mp hT⟩)) (fun z => absurd (mk.symm.trans z) (by decide)) (by rw [ml]; exact vX10_setLight (F := fun o' sh' I' R' => o' = .inr E ∧ sh' = sh ∧ I' = w ∧ R' = R) ⟨rfl, rfl, rfl, rfl⟩ h1) ?_ ?_ ?_
    · rintro sh' I' R' c' hc' ⟨g1, rfl, rfl, rfl⟩
      cases g1
    · rintro v' sh' I' R' c' hc' ⟨g1, rfl, rfl, rfl⟩
      cases g1
    · rintro E' sh' I' R' ⟨g1, rfl, rfl, rfl⟩
      cases g1
      exact kx _ _ h2
set_option maxRecDepth 100000 in
set_option maxHeartbeats 4000000 in
def fX10_needPlace (fu : Nat) (sh : HS) (I : HI) (R : HR) (l0 : Int32) (l1 : Int32) : Option (Unit ⊕ String) :=
  oT0 (fX10_needRange fu sh I R l0 0 199) (fun E => some (.inr E)) fun _ =>
  oT0 (fX10_needRange fu sh I R l1 0 199) (fun E => some (.inr E)) fun _ =>
  some (.inl ())
set_option maxRecDepth 100000 in
set_option maxHeartbeats 4000000 in
theorem vX10_needPlace {K J : Nat → Nat} {fu : Nat} {sh : HS} {I : HI} {R : HR} {F : VF} {o : (Unit ⊕ String)} (hF : F (voN o) sh I R) {l0 : Int32} {l1 : Int32} (h0 : fX10_needPlace fu sh I R l0 l1 = some o) : V K J 97 0 (ent 2 [.int l0, .int l1]) [] sh I R (0, 0) F := by
  unfold fX10_needPlace at h0
  have h1 := h0; clear h0
  have hc0 : ((0 : Nat), (0 : Nat)).1 ≤ 0 ∧ ((0 : Nat), (0 : Nat)).2 ≤ 0 := ⟨Nat.le_refl _, Nat.le_refl _⟩
  show V K J 97 0 [some (.int l0), some (.int l1)] [] sh I R (0, 0) F
  refine s_il (i := 0) (pc' := 1) (by decide +kernel) rfl ?_
  refine s_c (v := 0) (pc' := 2) (by decide +kernel) ?_
  refine s_c (v := 199) (pc' := 5) (by decide +kernel) ?_
  refine kX10_needRange (X := 0) (Y := 0) (X' := 1) (Y' := 6) (pc' := 8) (by decide +kernel) hc0 rfl h1 (fun v1 c hc1 h2 => ?_) (fun E h2 => by have e9 := Option.some.inj h2; subst e9; exact hF); clear h1 hc0
  refine s_il (i := 1) (pc' := 9) (by decide +kernel) rfl ?_
  refine s_c (v := 0) (pc' := 10) (by decide +kernel) ?_
  refine s_c (v := 199) (pc' := 13) (by decide +kernel) ?_
  refine kX10_needRange (X := 1) (Y := 6) (X' := 2) (Y' := 12) (pc' := 16) (by decide +kernel) hc1 rfl h2 (fun v2 c hc2 h3 => ?_) (fun E h3 => by have e9 := Option.some.inj h3; subst e9; exact hF); clear h2 hc1
  have e9 := Option.some.inj h3; subst e9
  exact s_rv (X := 2) (Y := 12) (by decide +kernel) hc2 hF
set_option maxRecDepth 100000 in
set_option maxHeartbeats 4000000 in
theorem kX10_needPlace {K J : Nat → Nat} {fu : Nat} {sh : HS} {I : HI} {R : HR} {F : VF} {mi pc pc' X Y X' Y' : Nat} {L : VL} {rest : List Value} {c : Nat × Nat} {l0 : Int32} {l1 : Int32} {ω : Type} {o : ω} {e : String → Option ω} {g : Unit → Option ω} (hq : cQ mi pc 97 2 pc' X Y X' Y' = true) (hc : c.1 ≤ X ∧ c.2 ≤ Y) (hr : Nat.ble (catS rest) 8 = true) (h : oT0 (fX10_needPlace fu sh I R l0 l1) e g = some o) (kk : ∀ v c', (c'.1 ≤ X' ∧ c'.2 ≤ Y') → g v = some o → V K J mi pc' L (rest) sh I R c' F) (kx : ∀ E, e E = some o → F (.inr E) sh I R) : V K J mi pc L (.int l1 :: .int l0 :: rest) sh I R c F := by
  obtain ⟨r, h1, h2⟩ := bnd h
  have ml : mL 97 = 2 := by decide +kernel
  have mk : mK 97 = 0 := by decide +kernel
  rcases r with v | E
  · refine s_call (as := [.int l1, .int l0]) (G := fun o' sh' I' R' => o' = .inl none ∧ sh' = sh ∧ I' = I ∧ R' = R) hq hc rfl hr (by rw [ml]; rfl) (Or.inl rfl) (fun z => absurd (mk.symm.trans z) (by decide)) (fun z => absurd (mk.symm.trans z) (by decide)) (by rw [ml]; exact vX10_needPlace (F := fun o' sh' I' R' => o' = .inl none ∧ sh' = sh ∧ I' = I ∧ R' = R) ⟨rfl, rfl, rfl, rfl⟩ h1) ?_ ?_ ?_
    · rintro sh' I' R' c' hc' ⟨g1, rfl, rfl, rfl⟩
      cases g1
      exact kk _ _ hc' h2
    · rintro v' sh' I' R' c' hc' ⟨g1, rfl, rfl, rfl⟩
      cases g1
    · rintro E' sh' I' R' ⟨g1, rfl, rfl, rfl⟩
      cases g1
  · refine s_call (as := [.int l1, .int l0]) (G := fun o' sh' I' R' => o' = .inr E ∧ sh' = sh ∧ I' = I ∧ R' = R) hq hc rfl hr (by rw [ml]; rfl) (Or.inl rfl) (fun z => absurd (mk.symm.trans z) (by decide)) (fun z => absurd (mk.symm.trans z) (by decide)) (by rw [ml]; exact vX10_needPlace (F := fun o' sh' I' R' => o' = .inr E ∧ sh' = sh ∧ I' = I ∧ R' = R) ⟨rfl, rfl, rfl, rfl⟩ h1) ?_ ?_ ?_
    · rintro sh' I' R' c' hc' ⟨g1, rfl, rfl, rfl⟩
      cases g1
    · rintro v' sh' I' R' c' hc' ⟨g1, rfl, rfl, rfl⟩
      cases g1
    · rintro E' sh' I' R' ⟨g1, rfl, rfl, rfl⟩
      cases g1
      exact kx _ h2
set_option maxRecDepth 100000 in
set_option maxHeartbeats 4000000 in
def fX10_moveActor (fu : Nat) (sh : HS) (I : HI) (R : HR) (l0 : Nat) (l1 : Int32) (l2 : Int32) (l3 : Int32) (l4 : Int32) : Option ((Int32 ⊕ String) × HI) :=
  if isT sh l0 8 = true then
    (oT0 (fX10_needBoard fu sh I R l0) (fun E => some (.inr E, I)) fun _ =>
    oT0 (fX10_needScene fu sh I R l0 l1) (fun E => some (.inr E, I)) fun _ =>
    (oR sh R l0 8 4).bind fun v3 =>
    (oR sh R v3 0 5).bind fun v4 =>
    (oB sh R v4 5 l1).bind fun v5 =>
    oT0 (fX10_needActor fu sh I R v5 l2) (fun E => some (.inr E, I)) fun _ =>
    oT0 (fX10_needPlace fu sh I R l3 l4) (fun E => some (.inr E, I)) fun _ =>
    (oR sh R l0 8 4).bind fun v8 =>
    (fX0_hasCameraOn fu sh I R v8 l1 l2 l3 l4).bind fun v9 =>
    if v9 = 0 then
      ((fX10_beginAction fu sh I R l0).bind fun w10 =>
      (oR sh R l0 8 4).bind fun v11 =>
      (oR sh R v11 0 5).bind fun v12 =>
      (oB sh R v12 5 l1).bind fun v13 =>
      (oR sh R v13 5 2).bind fun v14 =>
      (oS sh w10 v14 l2 l3).bind fun v15 =>
      (oR sh R l0 8 4).bind fun v16 =>
      (oR sh R v16 0 5).bind fun v17 =>
      (oB sh R v17 5 l1).bind fun v18 =>
      (oR sh R v18 5 3).bind fun v19 =>
      (oS sh v15 v19 l2 l4).bind fun v20 =>
      (oR sh R l0 8 4).bind fun v21 =>
      (fX2_total fu sh v20 R v21).bind fun v22 =>
      some (.inl v22, v20))
    else
      (some (.inl (-2), I)))
  else none
set_option maxRecDepth 100000 in
set_option maxHeartbeats 4000000 in
theorem vX10_moveActor {K J : Nat → Nat} {fu : Nat} {sh : HS} {I : HI} {R : HR} {F : VF} {o : ((Int32 ⊕ String) × HI)} (hF : F (voI o.1) sh o.2 R) {l0 : Nat} {l1 : Int32} {l2 : Int32} {l3 : Int32} {l4 : Int32} (h0 : fX10_moveActor fu sh I R l0 l1 l2 l3 l4 = some o) : V K J 73 0 (ent 5 [.ref l0, .int l1, .int l2, .int l3, .int l4]) [] sh I R (0, 0) F := by
  unfold fX10_moveActor at h0
  obtain ⟨-, h1⟩ := gd h0; clear h0
  have hc0 : ((0 : Nat), (0 : Nat)).1 ≤ 0 ∧ ((0 : Nat), (0 : Nat)).2 ≤ 0 := ⟨Nat.le_refl _, Nat.le_refl _⟩
  show V K J 73 0 [some (.ref l0), some (.int l1), some (.int l2), some (.int l3), some (.int l4)] [] sh I R (0, 0) F
  refine s_rl (i := 0) (pc' := 1) (by decide +kernel) rfl ?_
  refine kX10_needBoard (X := 0) (Y := 0) (X' := 1) (Y' := 6) (pc' := 4) (by decide +kernel) hc0 rfl h1 (fun v1 c hc1 h2 => ?_) (fun E h2 => by have e9 := Option.some.inj h2; subst e9; exact hF); clear h1 hc0
  refine s_rl (i := 0) (pc' := 5) (by decide +kernel) rfl ?_
  refine s_il (i := 1) (pc' := 6) (by decide +kernel) rfl ?_
  refine kX10_needScene (X := 1) (Y := 6) (X' := 2) (Y' := 12) (pc' := 9) (by decide +kernel) hc1 rfl h2 (fun v2 c hc2 h3 => ?_) (fun E h3 => by have e9 := Option.some.inj h3; subst e9; exact hF); clear h2 hc1
  refine s_rl (i := 0) (pc' := 10) (by decide +kernel) rfl ?_
  refine s_gR (t := 8) (j := 4) (pc' := 13) (by decide +kernel) h3 (fun v3 h4 => ?_); clear h3
  refine s_gR (t := 0) (j := 5) (pc' := 16) (by decide +kernel) h4 (fun v4 h5 => ?_); clear h4
  refine s_il (i := 1) (pc' := 17) (by decide +kernel) rfl ?_
  refine s_aal (t := 5) (pc' := 18) (by decide +kernel) h5 (fun v5 h6 => ?_); clear h5
  refine s_il (i := 2) (pc' := 19) (by decide +kernel) rfl ?_
  refine kX10_needActor (X := 2) (Y := 12) (X' := 3) (Y' := 18) (pc' := 22) (by decide +kernel) hc2 rfl h6 (fun v6 c hc3 h7 => ?_) (fun E h7 => by have e9 := Option.some.inj h7; subst e9; exact hF); clear h6 hc2
  refine s_il (i := 3) (pc' := 23) (by decide +kernel) rfl ?_
  refine s_il (i := 4) (pc' := 25) (by decide +kernel) rfl ?_
  refine kX10_needPlace (X := 3) (Y := 18) (X' := 5) (Y' := 30) (pc' := 28) (by decide +kernel) hc3 rfl h7 (fun v7 c hc4 h8 => ?_) (fun E h8 => by have e9 := Option.some.inj h8; subst e9; exact hF); clear h7 hc3
  refine s_rl (i := 0) (pc' := 29) (by decide +kernel) rfl ?_
  refine s_gR (t := 8) (j := 4) (pc' := 32) (by decide +kernel) h8 (fun v8 h9 => ?_); clear h8
  refine s_il (i := 1) (pc' := 33) (by decide +kernel) rfl ?_
  refine s_il (i := 2) (pc' := 34) (by decide +kernel) rfl ?_
  refine s_il (i := 3) (pc' := 35) (by decide +kernel) rfl ?_
  refine s_il (i := 4) (pc' := 37) (by decide +kernel) rfl ?_
  refine kX0_hasCameraOn (X := 5) (Y := 30) (X' := 5) (Y' := 30) (pc' := 40) (by decide +kernel) hc4 rfl h9 (fun v9 c hc5 h10 => ?_); clear h9 hc4
  refine s_if (ins := .ifCond .eq 6) (t := 46) (pc' := 43) (by decide +kernel) rfl rfl rfl h10 (fun p11 h11 => ?_) (fun p11 h11 => ?_) <;> clear h10
  · refine s_rl (i := 0) (pc' := 47) (by decide +kernel) rfl ?_
    refine kX10_beginAction (X := 5) (Y := 30) (X' := 5) (Y' := 30) (pc' := 50) (by decide +kernel) hc5 rfl h11 (fun w10 c hc6 h12 => ?_); clear h11 hc5
    refine s_rl (i := 0) (pc' := 51) (by decide +kernel) rfl ?_
    refine s_gR (t := 8) (j := 4) (pc' := 54) (by decide +kernel) h12 (fun v11 h13 => ?_); clear h12
    refine s_gR (t := 0) (j := 5) (pc' := 57) (by decide +kernel) h13 (fun v12 h14 => ?_); clear h13
    refine s_il (i := 1) (pc' := 58) (by decide +kernel) rfl ?_
    refine s_aal (t := 5) (pc' := 59) (by decide +kernel) h14 (fun v13 h15 => ?_); clear h14
    refine s_gR (t := 5) (j := 2) (pc' := 62) (by decide +kernel) h15 (fun v14 h16 => ?_); clear h15
    refine s_il (i := 2) (pc' := 63) (by decide +kernel) rfl ?_
    refine s_il (i := 3) (pc' := 64) (by decide +kernel) rfl ?_
    refine s_as (pc' := 65) (by decide +kernel) h16 (fun v15 h17 => ?_); clear h16
    refine s_rl (i := 0) (pc' := 66) (by decide +kernel) rfl ?_
    refine s_gR (t := 8) (j := 4) (pc' := 69) (by decide +kernel) h17 (fun v16 h18 => ?_); clear h17
    refine s_gR (t := 0) (j := 5) (pc' := 72) (by decide +kernel) h18 (fun v17 h19 => ?_); clear h18
    refine s_il (i := 1) (pc' := 73) (by decide +kernel) rfl ?_
    refine s_aal (t := 5) (pc' := 74) (by decide +kernel) h19 (fun v18 h20 => ?_); clear h19
    refine s_gR (t := 5) (j := 3) (pc' := 77) (by decide +kernel) h20 (fun v19 h21 => ?_); clear h20
    refine s_il (i := 2) (pc' := 78) (by decide +kernel) rfl ?_
    refine s_il (i := 4) (pc' := 80) (by decide +kernel) rfl ?_
    refine s_as (pc' := 81) (by decide +kernel) h21 (fun v20 h22 => ?_); clear h21
    refine s_rl (i := 0) (pc' := 82) (by decide +kernel) rfl ?_
    refine s_gR (t := 8) (j := 4) (pc' := 85) (by decide +kernel) h22 (fun v21 h23 => ?_); clear h22
    refine kX2_total (X := 5) (Y := 30) (X' := 5) (Y' := 30) (pc' := 88) (by decide +kernel) hc6 rfl h23 (fun v22 c hc7 h24 => ?_); clear h23 hc6
    have e9 := Option.some.inj h24; subst e9
    exact s_ri (X := 5) (Y := 30) (by decide +kernel) hc7 hF
  · refine s_c (v := (-2)) (pc' := 45) (by decide +kernel) ?_
    have e9 := Option.some.inj h11; subst e9
    exact s_ri (X := 5) (Y := 30) (by decide +kernel) hc5 hF
set_option maxRecDepth 100000 in
set_option maxHeartbeats 4000000 in
theorem kX10_moveActor {K J : Nat → Nat} {fu : Nat} {sh : HS} {I : HI} {R : HR} {F : VF} {mi pc pc' X Y X' Y' : Nat} {L : VL} {rest : List Value} {c : Nat × Nat} {l0 : Nat} {l1 : Int32} {l2 : Int32} {l3 : Int32} {l4 : Int32} {ω : Type} {o : ω} {e : String → HI → Option ω} {g : Int32 → HI → Option ω} (hq : cQ mi pc 73 5 pc' X Y X' Y' = true) (hc : c.1 ≤ X ∧ c.2 ≤ Y) (hr : Nat.ble (catS rest) 8 = true) (h : oTh (fX10_moveActor fu sh I R l0 l1 l2 l3 l4) e g = some o) (kk : ∀ v w c', (c'.1 ≤ X' ∧ c'.2 ≤ Y') → g v w = some o → V K J mi pc' L ((.int v) :: rest) sh w R c' F) (kx : ∀ E w, e E w = some o → F (.inr E) sh w R) : V K J mi pc L (.int l4 :: .int l3 :: .int l2 :: .int l1 :: .ref l0 :: rest) sh I R c F := by
  obtain ⟨r, h1, h2⟩ := bnd h
  have hT : isT sh l0 8 = true := by unfold fX10_moveActor at h1; exact (gd h1).1
  have ml : mL 73 = 5 := by decide +kernel
  have mk : mK 73 = 1 := by decide +kernel
  have mc : mC 73 = 8 := by decide +kernel
  obtain ⟨r, w⟩ := r
  rcases r with v | E
  · refine s_call (as := [.int l4, .int l3, .int l2, .int l1, .ref l0]) (G := fun o' sh' I' R' => o' = .inl (some (.int v)) ∧ sh' = sh ∧ I' = w ∧ R' = R) hq hc rfl hr (by rw [ml]; rfl) (Or.inl rfl) (fun _ => Or.inl (Or.inl ⟨by rw [mc]; decide, by rw [mc]; exact isT_iff.mp hT⟩)) (fun z => absurd (mk.symm.trans z) (by decide)) (by rw [ml]; exact vX10_moveActor (F := fun o' sh' I' R' => o' = .inl (some (.int v)) ∧ sh' = sh ∧ I' = w ∧ R' = R) ⟨rfl, rfl, rfl, rfl⟩ h1) ?_ ?_ ?_
    · rintro sh' I' R' c' hc' ⟨g1, rfl, rfl, rfl⟩
      cases g1
    · rintro v' sh' I' R' c' hc' ⟨g1, rfl, rfl, rfl⟩
      cases g1
      exact kk _ _ _ hc' h2
    · rintro E' sh' I' R' ⟨g1, rfl, rfl, rfl⟩
      cases g1
  · refine s_call (as := [.int l4, .int l3, .int l2, .int l1, .ref l0]) (G := fun o' sh' I' R' => o' = .inr E ∧ sh' = sh ∧ I' = w ∧ R' = R) hq hc rfl hr (by rw [ml]; rfl) (Or.inl rfl) (fun _ => Or.inl (Or.inl ⟨by rw [mc]; decide, by rw [mc]; exact isT_iff.mp hT⟩)) (fun z => absurd (mk.symm.trans z) (by decide)) (by rw [ml]; exact vX10_moveActor (F := fun o' sh' I' R' => o' = .inr E ∧ sh' = sh ∧ I' = w ∧ R' = R) ⟨rfl, rfl, rfl, rfl⟩ h1) ?_ ?_ ?_
    · rintro sh' I' R' c' hc' ⟨g1, rfl, rfl, rfl⟩
      cases g1
    · rintro v' sh' I' R' c' hc' ⟨g1, rfl, rfl, rfl⟩
      cases g1
    · rintro E' sh' I' R' ⟨g1, rfl, rfl, rfl⟩
      cases g1
      exact kx _ _ h2
set_option maxRecDepth 100000 in
set_option maxHeartbeats 4000000 in
def fX10_moveCamera (fu : Nat) (sh : HS) (I : HI) (R : HR) (l0 : Nat) (l1 : Int32) (l2 : Int32) (l3 : Int32) : Option ((Int32 ⊕ String) × HI) :=
  if isT sh l0 8 = true then
    (oT0 (fX10_needBoard fu sh I R l0) (fun E => some (.inr E, I)) fun _ =>
    oT0 (fX10_needShot fu sh I R l0 l1) (fun E => some (.inr E, I)) fun _ =>
    oT0 (fX10_needPlace fu sh I R l2 l3) (fun E => some (.inr E, I)) fun _ =>
    (oR sh R l0 8 4).bind fun v4 =>
    (oR sh R v4 0 6).bind fun v5 =>
    (oB sh R v5 7 l1).bind fun v6 =>
    (oR sh R l0 8 4).bind fun v7 =>
    (fX0_isSubjectAt fu sh I R v7 v6 l2 l3).bind fun v8 =>
    if v8 = 0 then
      ((fX10_beginAction fu sh I R l0).bind fun w9 =>
      (fX8_placeCamera fu sh w9 R v6 l2 l3).bind fun w10 =>
      (oR sh R l0 8 4).bind fun v11 =>
      (fX2_total fu sh w10 R v11).bind fun v12 =>
      some (.inl v12, w10))
    else
      (some (.inl (-2), I)))
  else none
set_option maxRecDepth 100000 in
set_option maxHeartbeats 4000000 in
theorem vX10_moveCamera {K J : Nat → Nat} {fu : Nat} {sh : HS} {I : HI} {R : HR} {F : VF} {o : ((Int32 ⊕ String) × HI)} (hF : F (voI o.1) sh o.2 R) {l0 : Nat} {l1 : Int32} {l2 : Int32} {l3 : Int32} (h0 : fX10_moveCamera fu sh I R l0 l1 l2 l3 = some o) : V K J 74 0 (ent 5 [.ref l0, .int l1, .int l2, .int l3]) [] sh I R (0, 0) F := by
  unfold fX10_moveCamera at h0
  obtain ⟨-, h1⟩ := gd h0; clear h0
  have hc0 : ((0 : Nat), (0 : Nat)).1 ≤ 0 ∧ ((0 : Nat), (0 : Nat)).2 ≤ 0 := ⟨Nat.le_refl _, Nat.le_refl _⟩
  show V K J 74 0 [some (.ref l0), some (.int l1), some (.int l2), some (.int l3), none] [] sh I R (0, 0) F
  refine s_rl (i := 0) (pc' := 1) (by decide +kernel) rfl ?_
  refine kX10_needBoard (X := 0) (Y := 0) (X' := 1) (Y' := 6) (pc' := 4) (by decide +kernel) hc0 rfl h1 (fun v1 c hc1 h2 => ?_) (fun E h2 => by have e9 := Option.some.inj h2; subst e9; exact hF); clear h1 hc0
  refine s_rl (i := 0) (pc' := 5) (by decide +kernel) rfl ?_
  refine s_il (i := 1) (pc' := 6) (by decide +kernel) rfl ?_
  refine kX10_needShot (X := 1) (Y := 6) (X' := 2) (Y' := 12) (pc' := 9) (by decide +kernel) hc1 rfl h2 (fun v2 c hc2 h3 => ?_) (fun E h3 => by have e9 := Option.some.inj h3; subst e9; exact hF); clear h2 hc1
  refine s_il (i := 2) (pc' := 10) (by decide +kernel) rfl ?_
  refine s_il (i := 3) (pc' := 11) (by decide +kernel) rfl ?_
  refine kX10_needPlace (X := 2) (Y := 12) (X' := 4) (Y' := 24) (pc' := 14) (by decide +kernel) hc2 rfl h3 (fun v3 c hc3 h4 => ?_) (fun E h4 => by have e9 := Option.some.inj h4; subst e9; exact hF); clear h3 hc2
  refine s_rl (i := 0) (pc' := 15) (by decide +kernel) rfl ?_
  refine s_gR (t := 8) (j := 4) (pc' := 18) (by decide +kernel) h4 (fun v4 h5 => ?_); clear h4
  refine s_gR (t := 0) (j := 6) (pc' := 21) (by decide +kernel) h5 (fun v5 h6 => ?_); clear h5
  refine s_il (i := 1) (pc' := 22) (by decide +kernel) rfl ?_
  refine s_aal (t := 7) (pc' := 23) (by decide +kernel) h6 (fun v6 h7 => ?_); clear h6
  refine s_rs (i := 4) (pc' := 25) (L' := [some (.ref l0), some (.int l1), some (.int l2), some (.int l3), some (.ref v6)]) (by decide +kernel) rfl rfl ?_
  refine s_rl (i := 0) (pc' := 26) (by decide +kernel) rfl ?_
  refine s_gR (t := 8) (j := 4) (pc' := 29) (by decide +kernel) h7 (fun v7 h8 => ?_); clear h7
  refine s_rl (i := 4) (pc' := 31) (by decide +kernel) rfl ?_
  refine s_il (i := 2) (pc' := 32) (by decide +kernel) rfl ?_
  refine s_il (i := 3) (pc' := 33) (by decide +kernel) rfl ?_
  refine kX0_isSubjectAt (X := 4) (Y := 24) (X' := 4) (Y' := 24) (pc' := 36) (by decide +kernel) hc3 rfl h8 (fun v8 c hc4 h9 => ?_); clear h8 hc3
  refine s_if (ins := .ifCond .eq 6) (t := 42) (pc' := 39) (by decide +kernel) rfl rfl rfl h9 (fun p10 h10 => ?_) (fun p10 h10 => ?_) <;> clear h9
  · refine s_rl (i := 0) (pc' := 43) (by decide +kernel) rfl ?_
    refine kX10_beginAction (X := 4) (Y := 24) (X' := 4) (Y' := 24) (pc' := 46) (by decide +kernel) hc4 rfl h10 (fun w9 c hc5 h11 => ?_); clear h10 hc4
    refine s_rl (i := 4) (pc' := 48) (by decide +kernel) rfl ?_
    refine s_il (i := 2) (pc' := 49) (by decide +kernel) rfl ?_
    refine s_il (i := 3) (pc' := 50) (by decide +kernel) rfl ?_
    refine kX8_placeCamera (X := 4) (Y := 24) (X' := 4) (Y' := 24) (pc' := 53) (by decide +kernel) hc5 rfl h11 (fun w10 c hc6 h12 => ?_); clear h11 hc5
    refine s_rl (i := 0) (pc' := 54) (by decide +kernel) rfl ?_
    refine s_gR (t := 8) (j := 4) (pc' := 57) (by decide +kernel) h12 (fun v11 h13 => ?_); clear h12
    refine kX2_total (X := 4) (Y := 24) (X' := 4) (Y' := 24) (pc' := 60) (by decide +kernel) hc6 rfl h13 (fun v12 c hc7 h14 => ?_); clear h13 hc6
    have e9 := Option.some.inj h14; subst e9
    exact s_ri (X := 4) (Y := 24) (by decide +kernel) hc7 hF
  · refine s_c (v := (-2)) (pc' := 41) (by decide +kernel) ?_
    have e9 := Option.some.inj h10; subst e9
    exact s_ri (X := 4) (Y := 24) (by decide +kernel) hc4 hF
set_option maxRecDepth 100000 in
set_option maxHeartbeats 4000000 in
theorem kX10_moveCamera {K J : Nat → Nat} {fu : Nat} {sh : HS} {I : HI} {R : HR} {F : VF} {mi pc pc' X Y X' Y' : Nat} {L : VL} {rest : List Value} {c : Nat × Nat} {l0 : Nat} {l1 : Int32} {l2 : Int32} {l3 : Int32} {ω : Type} {o : ω} {e : String → HI → Option ω} {g : Int32 → HI → Option ω} (hq : cQ mi pc 74 4 pc' X Y X' Y' = true) (hc : c.1 ≤ X ∧ c.2 ≤ Y) (hr : Nat.ble (catS rest) 8 = true) (h : oTh (fX10_moveCamera fu sh I R l0 l1 l2 l3) e g = some o) (kk : ∀ v w c', (c'.1 ≤ X' ∧ c'.2 ≤ Y') → g v w = some o → V K J mi pc' L ((.int v) :: rest) sh w R c' F) (kx : ∀ E w, e E w = some o → F (.inr E) sh w R) : V K J mi pc L (.int l3 :: .int l2 :: .int l1 :: .ref l0 :: rest) sh I R c F := by
  obtain ⟨r, h1, h2⟩ := bnd h
  have hT : isT sh l0 8 = true := by unfold fX10_moveCamera at h1; exact (gd h1).1
  have ml : mL 74 = 5 := by decide +kernel
  have mk : mK 74 = 1 := by decide +kernel
  have mc : mC 74 = 8 := by decide +kernel
  obtain ⟨r, w⟩ := r
  rcases r with v | E
  · refine s_call (as := [.int l3, .int l2, .int l1, .ref l0]) (G := fun o' sh' I' R' => o' = .inl (some (.int v)) ∧ sh' = sh ∧ I' = w ∧ R' = R) hq hc rfl hr (by rw [ml]; rfl) (Or.inl rfl) (fun _ => Or.inl (Or.inl ⟨by rw [mc]; decide, by rw [mc]; exact isT_iff.mp hT⟩)) (fun z => absurd (mk.symm.trans z) (by decide)) (by rw [ml]; exact vX10_moveCamera (F := fun o' sh' I' R' => o' = .inl (some (.int v)) ∧ sh' = sh ∧ I' = w ∧ R' = R) ⟨rfl, rfl, rfl, rfl⟩ h1) ?_ ?_ ?_
    · rintro sh' I' R' c' hc' ⟨g1, rfl, rfl, rfl⟩
      cases g1
    · rintro v' sh' I' R' c' hc' ⟨g1, rfl, rfl, rfl⟩
      cases g1
      exact kk _ _ _ hc' h2
    · rintro E' sh' I' R' ⟨g1, rfl, rfl, rfl⟩
      cases g1
  · refine s_call (as := [.int l3, .int l2, .int l1, .ref l0]) (G := fun o' sh' I' R' => o' = .inr E ∧ sh' = sh ∧ I' = w ∧ R' = R) hq hc rfl hr (by rw [ml]; rfl) (Or.inl rfl) (fun _ => Or.inl (Or.inl ⟨by rw [mc]; decide, by rw [mc]; exact isT_iff.mp hT⟩)) (fun z => absurd (mk.symm.trans z) (by decide)) (by rw [ml]; exact vX10_moveCamera (F := fun o' sh' I' R' => o' = .inr E ∧ sh' = sh ∧ I' = w ∧ R' = R) ⟨rfl, rfl, rfl, rfl⟩ h1) ?_ ?_ ?_
    · rintro sh' I' R' c' hc' ⟨g1, rfl, rfl, rfl⟩
      cases g1
    · rintro v' sh' I' R' c' hc' ⟨g1, rfl, rfl, rfl⟩
      cases g1
    · rintro E' sh' I' R' ⟨g1, rfl, rfl, rfl⟩
      cases g1
      exact kx _ _ h2
set_option maxRecDepth 100000 in
set_option maxHeartbeats 4000000 in
def fX10_setCast_b52 (fu : Nat) (sh : HS) (R : HR) (I : HI) (l0 : Nat) (l2 : Int32) (l3 : Int32) (l4 : Nat) (l5 : Nat) : Option ((Int32 ⊕ String) × HI) :=
  if l2 = l3 then
    (some (.inl (-2), I))
  else
    ((oI sh I l4 7 1).bind fun v11 =>
    (oI sh I l4 7 2).bind fun v12 =>
    (fX6_isActorAt fu sh I R l5 l2 v11 v12).bind fun v13 =>
    if v13 = 0 then
      ((fX10_beginAction fu sh I R l0).bind fun w14 =>
      (oP sh w14 l4 7 3 l2).bind fun v15 =>
      (oP sh v15 l4 7 4 l3).bind fun v16 =>
      (oR sh R l0 8 4).bind fun v17 =>
      (fX2_total fu sh v16 R v17).bind fun v18 =>
      some (.inl v18, v16))
    else
      (some (.inl (-3), I)))
set_option maxRecDepth 100000 in
set_option maxHeartbeats 4000000 in
theorem vX10_setCast_b52 {K J : Nat → Nat} {fu : Nat} {sh : HS} {R : HR} {F : VF} {o : ((Int32 ⊕ String) × HI)} (hF : F (voI o.1) sh o.2 R) {I : HI} {l0 : Nat} {l2 : Int32} {l3 : Int32} {l4 : Nat} {l5 : Nat} {d1 : Option Value} {c : Nat × Nat} (hc0 : c.1 ≤ 4 ∧ c.2 ≤ 24) (h0 : fX10_setCast_b52 fu sh R I l0 l2 l3 l4 l5 = some o) : V K J 75 52 [some (.ref l0), d1, some (.int l2), some (.int l3), some (.ref l4), some (.ref l5)] [] sh I R c F := by
  unfold fX10_setCast_b52 at h0
  refine s_il (i := 2) (pc' := 53) (by decide +kernel) rfl ?_
  refine s_il (i := 3) (pc' := 54) (by decide +kernel) rfl ?_
  refine s_ifn (ins := .if_icmp .ne 6) (t := 60) (pc' := 57) (by decide +kernel) rfl rfl rfl h0 (fun p1 h1 => ?_) (fun p1 h1 => ?_) <;> clear h0
  · refine s_rl (i := 5) (pc' := 62) (by decide +kernel) rfl ?_
    refine s_il (i := 2) (pc' := 63) (by decide +kernel) rfl ?_
    refine s_rl (i := 4) (pc' := 65) (by decide +kernel) rfl ?_
    refine s_gI (t := 7) (j := 1) (ty := 0) (pc' := 68) (by decide +kernel) rfl h1 (fun v11 h2 => ?_); clear h1
    refine s_rl (i := 4) (pc' := 70) (by decide +kernel) rfl ?_
    refine s_gI (t := 7) (j := 2) (ty := 0) (pc' := 73) (by decide +kernel) rfl h2 (fun v12 h3 => ?_); clear h2
    refine kX6_isActorAt (X := 4) (Y := 24) (X' := 4) (Y' := 24) (pc' := 76) (by decide +kernel) hc0 rfl h3 (fun v13 c hc1 h4 => ?_); clear h3 hc0
    refine s_if (ins := .ifCond .eq 6) (t := 82) (pc' := 79) (by decide +kernel) rfl rfl rfl h4 (fun p5 h5 => ?_) (fun p5 h5 => ?_) <;> clear h4
    · refine s_rl (i := 0) (pc' := 83) (by decide +kernel) rfl ?_
      refine kX10_beginAction (X := 4) (Y := 24) (X' := 4) (Y' := 24) (pc' := 86) (by decide +kernel) hc1 rfl h5 (fun w14 c hc2 h6 => ?_); clear h5 hc1
      refine s_rl (i := 4) (pc' := 88) (by decide +kernel) rfl ?_
      refine s_il (i := 2) (pc' := 89) (by decide +kernel) rfl ?_
      refine s_pI (t := 7) (j := 3) (ty := 0) (pc' := 92) (by decide +kernel) (Or.inl rfl) h6 (fun v15 h7 => ?_); clear h6
      refine s_rl (i := 4) (pc' := 94) (by decide +kernel) rfl ?_
      refine s_il (i := 3) (pc' := 95) (by decide +kernel) rfl ?_
      refine s_pI (t := 7) (j := 4) (ty := 0) (pc' := 98) (by decide +kernel) (Or.inl rfl) h7 (fun v16 h8 => ?_); clear h7
      refine s_rl (i := 0) (pc' := 99) (by decide +kernel) rfl ?_
      refine s_gR (t := 8) (j := 4) (pc' := 102) (by decide +kernel) h8 (fun v17 h9 => ?_); clear h8
      refine kX2_total (X := 4) (Y := 24) (X' := 4) (Y' := 24) (pc' := 105) (by decide +kernel) hc2 rfl h9 (fun v18 c hc3 h10 => ?_); clear h9 hc2
      have e9 := Option.some.inj h10; subst e9
      exact s_ri (X := 4) (Y := 24) (by decide +kernel) hc3 hF
    · refine s_c (v := (-3)) (pc' := 81) (by decide +kernel) ?_
      have e9 := Option.some.inj h5; subst e9
      exact s_ri (X := 4) (Y := 24) (by decide +kernel) hc1 hF
  · refine s_c (v := (-2)) (pc' := 59) (by decide +kernel) ?_
    have e9 := Option.some.inj h1; subst e9
    exact s_ri (X := 4) (Y := 24) (by decide +kernel) hc0 hF
set_option maxRecDepth 100000 in
set_option maxHeartbeats 4000000 in
def fX10_setCast (fu : Nat) (sh : HS) (I : HI) (R : HR) (l0 : Nat) (l1 : Int32) (l2 : Int32) (l3 : Int32) : Option ((Int32 ⊕ String) × HI) :=
  if isT sh l0 8 = true then
    (oT0 (fX10_needBoard fu sh I R l0) (fun E => some (.inr E, I)) fun _ =>
    oT0 (fX10_needShot fu sh I R l0 l1) (fun E => some (.inr E, I)) fun _ =>
    (oR sh R l0 8 4).bind fun v3 =>
    (oR sh R v3 0 6).bind fun v4 =>
    (oB sh R v4 7 l1).bind fun v5 =>
    (oR sh R l0 8 4).bind fun v6 =>
    (oR sh R v6 0 5).bind fun v7 =>
    (oI sh I v5 7 0).bind fun v8 =>
    (oB sh R v7 5 v8).bind fun v9 =>
    oT0 (fX10_needActor fu sh I R v9 l2) (fun E => some (.inr E, I)) fun _ =>
    if l3 = (-1) then
      ((fX10_setCast_b52 fu sh R) I l0 l2 l3 v5 v9)
    else
      (oT0 (fX10_needActor fu sh I R v9 l3) (fun E => some (.inr E, I)) fun _ =>
      (fX10_setCast_b52 fu sh R) I l0 l2 l3 v5 v9))
  else none
set_option maxRecDepth 100000 in
set_option maxHeartbeats 4000000 in
theorem vX10_setCast {K J : Nat → Nat} {fu : Nat} {sh : HS} {I : HI} {R : HR} {F : VF} {o : ((Int32 ⊕ String) × HI)} (hF : F (voI o.1) sh o.2 R) {l0 : Nat} {l1 : Int32} {l2 : Int32} {l3 : Int32} (h0 : fX10_setCast fu sh I R l0 l1 l2 l3 = some o) : V K J 75 0 (ent 6 [.ref l0, .int l1, .int l2, .int l3]) [] sh I R (0, 0) F := by
  unfold fX10_setCast at h0
  obtain ⟨-, h1⟩ := gd h0; clear h0
  have hc0 : ((0 : Nat), (0 : Nat)).1 ≤ 0 ∧ ((0 : Nat), (0 : Nat)).2 ≤ 0 := ⟨Nat.le_refl _, Nat.le_refl _⟩
  show V K J 75 0 [some (.ref l0), some (.int l1), some (.int l2), some (.int l3), none, none] [] sh I R (0, 0) F
  refine s_rl (i := 0) (pc' := 1) (by decide +kernel) rfl ?_
  refine kX10_needBoard (X := 0) (Y := 0) (X' := 1) (Y' := 6) (pc' := 4) (by decide +kernel) hc0 rfl h1 (fun v1 c hc1 h2 => ?_) (fun E h2 => by have e9 := Option.some.inj h2; subst e9; exact hF); clear h1 hc0
  refine s_rl (i := 0) (pc' := 5) (by decide +kernel) rfl ?_
  refine s_il (i := 1) (pc' := 6) (by decide +kernel) rfl ?_
  refine kX10_needShot (X := 1) (Y := 6) (X' := 2) (Y' := 12) (pc' := 9) (by decide +kernel) hc1 rfl h2 (fun v2 c hc2 h3 => ?_) (fun E h3 => by have e9 := Option.some.inj h3; subst e9; exact hF); clear h2 hc1
  refine s_rl (i := 0) (pc' := 10) (by decide +kernel) rfl ?_
  refine s_gR (t := 8) (j := 4) (pc' := 13) (by decide +kernel) h3 (fun v3 h4 => ?_); clear h3
  refine s_gR (t := 0) (j := 6) (pc' := 16) (by decide +kernel) h4 (fun v4 h5 => ?_); clear h4
  refine s_il (i := 1) (pc' := 17) (by decide +kernel) rfl ?_
  refine s_aal (t := 7) (pc' := 18) (by decide +kernel) h5 (fun v5 h6 => ?_); clear h5
  refine s_rs (i := 4) (pc' := 20) (L' := [some (.ref l0), some (.int l1), some (.int l2), some (.int l3), some (.ref v5), none]) (by decide +kernel) rfl rfl ?_
  refine s_rl (i := 0) (pc' := 21) (by decide +kernel) rfl ?_
  refine s_gR (t := 8) (j := 4) (pc' := 24) (by decide +kernel) h6 (fun v6 h7 => ?_); clear h6
  refine s_gR (t := 0) (j := 5) (pc' := 27) (by decide +kernel) h7 (fun v7 h8 => ?_); clear h7
  refine s_rl (i := 4) (pc' := 29) (by decide +kernel) rfl ?_
  refine s_gI (t := 7) (j := 0) (ty := 0) (pc' := 32) (by decide +kernel) rfl h8 (fun v8 h9 => ?_); clear h8
  refine s_aal (t := 5) (pc' := 33) (by decide +kernel) h9 (fun v9 h10 => ?_); clear h9
  refine s_rs (i := 5) (pc' := 35) (L' := [some (.ref l0), some (.int l1), some (.int l2), some (.int l3), some (.ref v5), some (.ref v9)]) (by decide +kernel) rfl rfl ?_
  refine s_rl (i := 5) (pc' := 37) (by decide +kernel) rfl ?_
  refine s_il (i := 2) (pc' := 38) (by decide +kernel) rfl ?_
  refine kX10_needActor (X := 2) (Y := 12) (X' := 3) (Y' := 18) (pc' := 41) (by decide +kernel) hc2 rfl h10 (fun v10 c hc3 h11 => ?_) (fun E h11 => by have e9 := Option.some.inj h11; subst e9; exact hF); clear h10 hc2
  refine s_il (i := 3) (pc' := 42) (by decide +kernel) rfl ?_
  refine s_c (v := (-1)) (pc' := 43) (by decide +kernel) ?_
  refine s_if (ins := .if_icmp .eq 9) (t := 52) (pc' := 46) (by decide +kernel) rfl rfl rfl h11 (fun p12 h12 => ?_) (fun p12 h12 => ?_) <;> clear h11
  · exact (vX10_setCast_b52 hF) ⟨Nat.le_trans hc3.1 (by decide), Nat.le_trans hc3.2 (by decide)⟩ h12
  · refine s_rl (i := 5) (pc' := 48) (by decide +kernel) rfl ?_
    refine s_il (i := 3) (pc' := 49) (by decide +kernel) rfl ?_
    refine kX10_needActor (X := 3) (Y := 18) (X' := 4) (Y' := 24) (pc' := 52) (by decide +kernel) hc3 rfl h12 (fun v19 c hc4 h13 => ?_) (fun E h13 => by have e9 := Option.some.inj h13; subst e9; exact hF); clear h12 hc3
    exact (vX10_setCast_b52 hF) hc4 h13
set_option maxRecDepth 100000 in
set_option maxHeartbeats 4000000 in
theorem kX10_setCast {K J : Nat → Nat} {fu : Nat} {sh : HS} {I : HI} {R : HR} {F : VF} {mi pc pc' X Y X' Y' : Nat} {L : VL} {rest : List Value} {c : Nat × Nat} {l0 : Nat} {l1 : Int32} {l2 : Int32} {l3 : Int32} {ω : Type} {o : ω} {e : String → HI → Option ω} {g : Int32 → HI → Option ω} (hq : cQ mi pc 75 4 pc' X Y X' Y' = true) (hc : c.1 ≤ X ∧ c.2 ≤ Y) (hr : Nat.ble (catS rest) 8 = true) (h : oTh (fX10_setCast fu sh I R l0 l1 l2 l3) e g = some o) (kk : ∀ v w c', (c'.1 ≤ X' ∧ c'.2 ≤ Y') → g v w = some o → V K J mi pc' L ((.int v) :: rest) sh w R c' F) (kx : ∀ E w, e E w = some o → F (.inr E) sh w R) : V K J mi pc L (.int l3 :: .int l2 :: .int l1 :: .ref l0 :: rest) sh I R c F := by
  obtain ⟨r, h1, h2⟩ := bnd h
  have hT : isT sh l0 8 = true := by unfold fX10_setCast at h1; exact (gd h1).1
  have ml : mL 75 = 6 := by decide +kernel
  have mk : mK 75 = 1 := by decide +kernel
  have mc : mC 75 = 8 := by decide +kernel
  obtain ⟨r, w⟩ := r
  rcases r with v | E
  · refine s_call (as := [.int l3, .int l2, .int l1, .ref l0]) (G := fun o' sh' I' R' => o' = .inl (some (.int v)) ∧ sh' = sh ∧ I' = w ∧ R' = R) hq hc rfl hr (by rw [ml]; rfl) (Or.inl rfl) (fun _ => Or.inl (Or.inl ⟨by rw [mc]; decide, by rw [mc]; exact isT_iff.mp hT⟩)) (fun z => absurd (mk.symm.trans z) (by decide)) (by rw [ml]; exact vX10_setCast (F := fun o' sh' I' R' => o' = .inl (some (.int v)) ∧ sh' = sh ∧ I' = w ∧ R' = R) ⟨rfl, rfl, rfl, rfl⟩ h1) ?_ ?_ ?_
    · rintro sh' I' R' c' hc' ⟨g1, rfl, rfl, rfl⟩
      cases g1
    · rintro v' sh' I' R' c' hc' ⟨g1, rfl, rfl, rfl⟩
      cases g1
      exact kk _ _ _ hc' h2
    · rintro E' sh' I' R' ⟨g1, rfl, rfl, rfl⟩
      cases g1
  · refine s_call (as := [.int l3, .int l2, .int l1, .ref l0]) (G := fun o' sh' I' R' => o' = .inr E ∧ sh' = sh ∧ I' = w ∧ R' = R) hq hc rfl hr (by rw [ml]; rfl) (Or.inl rfl) (fun _ => Or.inl (Or.inl ⟨by rw [mc]; decide, by rw [mc]; exact isT_iff.mp hT⟩)) (fun z => absurd (mk.symm.trans z) (by decide)) (by rw [ml]; exact vX10_setCast (F := fun o' sh' I' R' => o' = .inr E ∧ sh' = sh ∧ I' = w ∧ R' = R) ⟨rfl, rfl, rfl, rfl⟩ h1) ?_ ?_ ?_
    · rintro sh' I' R' c' hc' ⟨g1, rfl, rfl, rfl⟩
      cases g1
    · rintro v' sh' I' R' c' hc' ⟨g1, rfl, rfl, rfl⟩
      cases g1
    · rintro E' sh' I' R' ⟨g1, rfl, rfl, rfl⟩
      cases g1
      exact kx _ _ h2
set_option maxRecDepth 100000 in
set_option maxHeartbeats 4000000 in
def fX10_setLength (fu : Nat) (sh : HS) (I : HI) (R : HR) (l0 : Nat) (l1 : Int32) (l2 : Int32) : Option ((Int32 ⊕ String) × HI) :=
  if isT sh l0 8 = true then
    (oT0 (fX10_needBoard fu sh I R l0) (fun E => some (.inr E, I)) fun _ =>
    oT0 (fX10_needShot fu sh I R l0 l1) (fun E => some (.inr E, I)) fun _ =>
    oT0 (fX10_needRange fu sh I R l2 1 99) (fun E => some (.inr E, I)) fun _ =>
    (oR sh R l0 8 4).bind fun v4 =>
    (oR sh R v4 0 6).bind fun v5 =>
    (oB sh R v5 7 l1).bind fun v6 =>
    (oI sh I v6 7 5).bind fun v7 =>
    (fX10_beginAction fu sh I R l0).bind fun w8 =>
    (oR sh R l0 8 4).bind fun v9 =>
    (oR sh R v9 0 6).bind fun v10 =>
    (oB sh R v10 7 l1).bind fun v11 =>
    (oP sh w8 v11 7 5 l2).bind fun v12 =>
    some (.inl v7, v12))
  else none
set_option maxRecDepth 100000 in
set_option maxHeartbeats 4000000 in
theorem vX10_setLength {K J : Nat → Nat} {fu : Nat} {sh : HS} {I : HI} {R : HR} {F : VF} {o : ((Int32 ⊕ String) × HI)} (hF : F (voI o.1) sh o.2 R) {l0 : Nat} {l1 : Int32} {l2 : Int32} (h0 : fX10_setLength fu sh I R l0 l1 l2 = some o) : V K J 76 0 (ent 4 [.ref l0, .int l1, .int l2]) [] sh I R (0, 0) F := by
  unfold fX10_setLength at h0
  obtain ⟨-, h1⟩ := gd h0; clear h0
  have hc0 : ((0 : Nat), (0 : Nat)).1 ≤ 0 ∧ ((0 : Nat), (0 : Nat)).2 ≤ 0 := ⟨Nat.le_refl _, Nat.le_refl _⟩
  show V K J 76 0 [some (.ref l0), some (.int l1), some (.int l2), none] [] sh I R (0, 0) F
  refine s_rl (i := 0) (pc' := 1) (by decide +kernel) rfl ?_
  refine kX10_needBoard (X := 0) (Y := 0) (X' := 1) (Y' := 6) (pc' := 4) (by decide +kernel) hc0 rfl h1 (fun v1 c hc1 h2 => ?_) (fun E h2 => by have e9 := Option.some.inj h2; subst e9; exact hF); clear h1 hc0
  refine s_rl (i := 0) (pc' := 5) (by decide +kernel) rfl ?_
  refine s_il (i := 1) (pc' := 6) (by decide +kernel) rfl ?_
  refine kX10_needShot (X := 1) (Y := 6) (X' := 2) (Y' := 12) (pc' := 9) (by decide +kernel) hc1 rfl h2 (fun v2 c hc2 h3 => ?_) (fun E h3 => by have e9 := Option.some.inj h3; subst e9; exact hF); clear h2 hc1
  refine s_il (i := 2) (pc' := 10) (by decide +kernel) rfl ?_
  refine s_c (v := 1) (pc' := 11) (by decide +kernel) ?_
  refine s_c (v := 99) (pc' := 13) (by decide +kernel) ?_
  refine kX10_needRange (X := 2) (Y := 12) (X' := 3) (Y' := 18) (pc' := 16) (by decide +kernel) hc2 rfl h3 (fun v3 c hc3 h4 => ?_) (fun E h4 => by have e9 := Option.some.inj h4; subst e9; exact hF); clear h3 hc2
  refine s_rl (i := 0) (pc' := 17) (by decide +kernel) rfl ?_
  refine s_gR (t := 8) (j := 4) (pc' := 20) (by decide +kernel) h4 (fun v4 h5 => ?_); clear h4
  refine s_gR (t := 0) (j := 6) (pc' := 23) (by decide +kernel) h5 (fun v5 h6 => ?_); clear h5
  refine s_il (i := 1) (pc' := 24) (by decide +kernel) rfl ?_
  refine s_aal (t := 7) (pc' := 25) (by decide +kernel) h6 (fun v6 h7 => ?_); clear h6
  refine s_gI (t := 7) (j := 5) (ty := 0) (pc' := 28) (by decide +kernel) rfl h7 (fun v7 h8 => ?_); clear h7
  refine s_is (i := 3) (pc' := 29) (L' := [some (.ref l0), some (.int l1), some (.int l2), some (.int v7)]) (by decide +kernel) rfl rfl ?_
  refine s_rl (i := 0) (pc' := 30) (by decide +kernel) rfl ?_
  refine kX10_beginAction (X := 3) (Y := 18) (X' := 3) (Y' := 18) (pc' := 33) (by decide +kernel) hc3 rfl h8 (fun w8 c hc4 h9 => ?_); clear h8 hc3
  refine s_rl (i := 0) (pc' := 34) (by decide +kernel) rfl ?_
  refine s_gR (t := 8) (j := 4) (pc' := 37) (by decide +kernel) h9 (fun v9 h10 => ?_); clear h9
  refine s_gR (t := 0) (j := 6) (pc' := 40) (by decide +kernel) h10 (fun v10 h11 => ?_); clear h10
  refine s_il (i := 1) (pc' := 41) (by decide +kernel) rfl ?_
  refine s_aal (t := 7) (pc' := 42) (by decide +kernel) h11 (fun v11 h12 => ?_); clear h11
  refine s_il (i := 2) (pc' := 43) (by decide +kernel) rfl ?_
  refine s_pI (t := 7) (j := 5) (ty := 0) (pc' := 46) (by decide +kernel) (Or.inl rfl) h12 (fun v12 h13 => ?_); clear h12
  refine s_il (i := 3) (pc' := 47) (by decide +kernel) rfl ?_
  have e9 := Option.some.inj h13; subst e9
  exact s_ri (X := 3) (Y := 18) (by decide +kernel) hc4 hF
set_option maxRecDepth 100000 in
set_option maxHeartbeats 4000000 in
theorem kX10_setLength {K J : Nat → Nat} {fu : Nat} {sh : HS} {I : HI} {R : HR} {F : VF} {mi pc pc' X Y X' Y' : Nat} {L : VL} {rest : List Value} {c : Nat × Nat} {l0 : Nat} {l1 : Int32} {l2 : Int32} {ω : Type} {o : ω} {e : String → HI → Option ω} {g : Int32 → HI → Option ω} (hq : cQ mi pc 76 3 pc' X Y X' Y' = true) (hc : c.1 ≤ X ∧ c.2 ≤ Y) (hr : Nat.ble (catS rest) 8 = true) (h : oTh (fX10_setLength fu sh I R l0 l1 l2) e g = some o) (kk : ∀ v w c', (c'.1 ≤ X' ∧ c'.2 ≤ Y') → g v w = some o → V K J mi pc' L ((.int v) :: rest) sh w R c' F) (kx : ∀ E w, e E w = some o → F (.inr E) sh w R) : V K J mi pc L (.int l2 :: .int l1 :: .ref l0 :: rest) sh I R c F := by
  obtain ⟨r, h1, h2⟩ := bnd h
  have hT : isT sh l0 8 = true := by unfold fX10_setLength at h1; exact (gd h1).1
  have ml : mL 76 = 4 := by decide +kernel
  have mk : mK 76 = 1 := by decide +kernel
  have mc : mC 76 = 8 := by decide +kernel
  obtain ⟨r, w⟩ := r
  rcases r with v | E
  · refine s_call (as := [.int l2, .int l1, .ref l0]) (G := fun o' sh' I' R' => o' = .inl (some (.int v)) ∧ sh' = sh ∧ I' = w ∧ R' = R) hq hc rfl hr (by rw [ml]; rfl) (Or.inl rfl) (fun _ => Or.inl (Or.inl ⟨by rw [mc]; decide, by rw [mc]; exact isT_iff.mp hT⟩)) (fun z => absurd (mk.symm.trans z) (by decide)) (by rw [ml]; exact vX10_setLength (F := fun o' sh' I' R' => o' = .inl (some (.int v)) ∧ sh' = sh ∧ I' = w ∧ R' = R) ⟨rfl, rfl, rfl, rfl⟩ h1) ?_ ?_ ?_
    · rintro sh' I' R' c' hc' ⟨g1, rfl, rfl, rfl⟩
      cases g1
    · rintro v' sh' I' R' c' hc' ⟨g1, rfl, rfl, rfl⟩
      cases g1
      exact kk _ _ _ hc' h2
    · rintro E' sh' I' R' ⟨g1, rfl, rfl, rfl⟩
      cases g1
  · refine s_call (as := [.int l2, .int l1, .ref l0]) (G := fun o' sh' I' R' => o' = .inr E ∧ sh' = sh ∧ I' = w ∧ R' = R) hq hc rfl hr (by rw [ml]; rfl) (Or.inl rfl) (fun _ => Or.inl (Or.inl ⟨by rw [mc]; decide, by rw [mc]; exact isT_iff.mp hT⟩)) (fun z => absurd (mk.symm.trans z) (by decide)) (by rw [ml]; exact vX10_setLength (F := fun o' sh' I' R' => o' = .inr E ∧ sh' = sh ∧ I' = w ∧ R' = R) ⟨rfl, rfl, rfl, rfl⟩ h1) ?_ ?_ ?_
    · rintro sh' I' R' c' hc' ⟨g1, rfl, rfl, rfl⟩
      cases g1
    · rintro v' sh' I' R' c' hc' ⟨g1, rfl, rfl, rfl⟩
      cases g1
    · rintro E' sh' I' R' ⟨g1, rfl, rfl, rfl⟩
      cases g1
      exact kx _ _ h2
set_option maxRecDepth 100000 in
set_option maxHeartbeats 4000000 in
def fX10_shift (fu : Nat) (sh : HS) (I : HI) (R : HR) (l0 : Nat) (l1 : Int32) (l2 : Int32) : Option ((Int32 ⊕ String) × (HI × HR)) :=
  if isT sh l0 8 = true then
    (oT0 (fX10_needBoard fu sh I R l0) (fun E => some (.inr E, (I, R))) fun _ =>
    oT0 (fX10_needShot fu sh I R l0 l1) (fun E => some (.inr E, (I, R))) fun _ =>
    oT0 (fX10_needShot fu sh I R l0 l2) (fun E => some (.inr E, (I, R))) fun _ =>
    (oR sh R l0 8 4).bind fun v4 =>
    (oR sh R v4 0 6).bind fun v5 =>
    (oB sh R v5 7 l1).bind fun v6 =>
    (oI sh I v6 7 0).bind fun v7 =>
    (oR sh R l0 8 4).bind fun v8 =>
    (oR sh R v8 0 6).bind fun v9 =>
    (oB sh R v9 7 l2).bind fun v10 =>
    (oI sh I v10 7 0).bind fun v11 =>
    if v7 = v11 then
      ((fX10_beginAction fu sh I R l0).bind fun w12 =>
      (oR sh R l0 8 4).bind fun v13 =>
      (fX0_renumber fu sh w12 R v13 l1 l2).bind fun w14 =>
      (oR sh w14.2 l0 8 4).bind fun v15 =>
      (fX2_total fu sh w14.1 w14.2 v15).bind fun v16 =>
      some (.inl v16, (w14.1, w14.2)))
    else
      (some (.inl (-2), (I, R))))
  else none
set_option maxRecDepth 100000 in
set_option maxHeartbeats 4000000 in
theorem vX10_shift {K J : Nat → Nat} {fu : Nat} {sh : HS} {I : HI} {R : HR} {F : VF} {o : ((Int32 ⊕ String) × (HI × HR))} (hF : F (voI o.1) sh o.2.1 o.2.2) {l0 : Nat} {l1 : Int32} {l2 : Int32} (h0 : fX10_shift fu sh I R l0 l1 l2 = some o) : V K J 77 0 (ent 3 [.ref l0, .int l1, .int l2]) [] sh I R (0, 0) F := by
  unfold fX10_shift at h0
  obtain ⟨-, h1⟩ := gd h0; clear h0
  have hc0 : ((0 : Nat), (0 : Nat)).1 ≤ 0 ∧ ((0 : Nat), (0 : Nat)).2 ≤ 0 := ⟨Nat.le_refl _, Nat.le_refl _⟩
  show V K J 77 0 [some (.ref l0), some (.int l1), some (.int l2)] [] sh I R (0, 0) F
  refine s_rl (i := 0) (pc' := 1) (by decide +kernel) rfl ?_
  refine kX10_needBoard (X := 0) (Y := 0) (X' := 1) (Y' := 6) (pc' := 4) (by decide +kernel) hc0 rfl h1 (fun v1 c hc1 h2 => ?_) (fun E h2 => by have e9 := Option.some.inj h2; subst e9; exact hF); clear h1 hc0
  refine s_rl (i := 0) (pc' := 5) (by decide +kernel) rfl ?_
  refine s_il (i := 1) (pc' := 6) (by decide +kernel) rfl ?_
  refine kX10_needShot (X := 1) (Y := 6) (X' := 2) (Y' := 12) (pc' := 9) (by decide +kernel) hc1 rfl h2 (fun v2 c hc2 h3 => ?_) (fun E h3 => by have e9 := Option.some.inj h3; subst e9; exact hF); clear h2 hc1
  refine s_rl (i := 0) (pc' := 10) (by decide +kernel) rfl ?_
  refine s_il (i := 2) (pc' := 11) (by decide +kernel) rfl ?_
  refine kX10_needShot (X := 2) (Y := 12) (X' := 3) (Y' := 18) (pc' := 14) (by decide +kernel) hc2 rfl h3 (fun v3 c hc3 h4 => ?_) (fun E h4 => by have e9 := Option.some.inj h4; subst e9; exact hF); clear h3 hc2
  refine s_rl (i := 0) (pc' := 15) (by decide +kernel) rfl ?_
  refine s_gR (t := 8) (j := 4) (pc' := 18) (by decide +kernel) h4 (fun v4 h5 => ?_); clear h4
  refine s_gR (t := 0) (j := 6) (pc' := 21) (by decide +kernel) h5 (fun v5 h6 => ?_); clear h5
  refine s_il (i := 1) (pc' := 22) (by decide +kernel) rfl ?_
  refine s_aal (t := 7) (pc' := 23) (by decide +kernel) h6 (fun v6 h7 => ?_); clear h6
  refine s_gI (t := 7) (j := 0) (ty := 0) (pc' := 26) (by decide +kernel) rfl h7 (fun v7 h8 => ?_); clear h7
  refine s_rl (i := 0) (pc' := 27) (by decide +kernel) rfl ?_
  refine s_gR (t := 8) (j := 4) (pc' := 30) (by decide +kernel) h8 (fun v8 h9 => ?_); clear h8
  refine s_gR (t := 0) (j := 6) (pc' := 33) (by decide +kernel) h9 (fun v9 h10 => ?_); clear h9
  refine s_il (i := 2) (pc' := 34) (by decide +kernel) rfl ?_
  refine s_aal (t := 7) (pc' := 35) (by decide +kernel) h10 (fun v10 h11 => ?_); clear h10
  refine s_gI (t := 7) (j := 0) (ty := 0) (pc' := 38) (by decide +kernel) rfl h11 (fun v11 h12 => ?_); clear h11
  refine s_if (ins := .if_icmp .eq 6) (t := 44) (pc' := 41) (by decide +kernel) rfl rfl rfl h12 (fun p13 h13 => ?_) (fun p13 h13 => ?_) <;> clear h12
  · refine s_rl (i := 0) (pc' := 45) (by decide +kernel) rfl ?_
    refine kX10_beginAction (X := 3) (Y := 18) (X' := 3) (Y' := 18) (pc' := 48) (by decide +kernel) hc3 rfl h13 (fun w12 c hc4 h14 => ?_); clear h13 hc3
    refine s_rl (i := 0) (pc' := 49) (by decide +kernel) rfl ?_
    refine s_gR (t := 8) (j := 4) (pc' := 52) (by decide +kernel) h14 (fun v13 h15 => ?_); clear h14
    refine s_il (i := 1) (pc' := 53) (by decide +kernel) rfl ?_
    refine s_il (i := 2) (pc' := 54) (by decide +kernel) rfl ?_
    refine kX0_renumber (X := 3) (Y := 18) (X' := 3) (Y' := 18) (pc' := 57) (by decide +kernel) hc4 rfl h15 (fun w14 c hc5 h16 => ?_); clear h15 hc4
    refine s_rl (i := 0) (pc' := 58) (by decide +kernel) rfl ?_
    refine s_gR (t := 8) (j := 4) (pc' := 61) (by decide +kernel) h16 (fun v15 h17 => ?_); clear h16
    refine kX2_total (X := 3) (Y := 18) (X' := 3) (Y' := 18) (pc' := 64) (by decide +kernel) hc5 rfl h17 (fun v16 c hc6 h18 => ?_); clear h17 hc5
    have e9 := Option.some.inj h18; subst e9
    exact s_ri (X := 3) (Y := 18) (by decide +kernel) hc6 hF
  · refine s_c (v := (-2)) (pc' := 43) (by decide +kernel) ?_
    have e9 := Option.some.inj h13; subst e9
    exact s_ri (X := 3) (Y := 18) (by decide +kernel) hc3 hF
set_option maxRecDepth 100000 in
set_option maxHeartbeats 4000000 in
theorem kX10_shift {K J : Nat → Nat} {fu : Nat} {sh : HS} {I : HI} {R : HR} {F : VF} {mi pc pc' X Y X' Y' : Nat} {L : VL} {rest : List Value} {c : Nat × Nat} {l0 : Nat} {l1 : Int32} {l2 : Int32} {ω : Type} {o : ω} {e : String → (HI × HR) → Option ω} {g : Int32 → (HI × HR) → Option ω} (hq : cQ mi pc 77 3 pc' X Y X' Y' = true) (hc : c.1 ≤ X ∧ c.2 ≤ Y) (hr : Nat.ble (catS rest) 8 = true) (h : oTh (fX10_shift fu sh I R l0 l1 l2) e g = some o) (kk : ∀ v w c', (c'.1 ≤ X' ∧ c'.2 ≤ Y') → g v w = some o → V K J mi pc' L ((.int v) :: rest) sh w.1 w.2 c' F) (kx : ∀ E w, e E w = some o → F (.inr E) sh w.1 w.2) : V K J mi pc L (.int l2 :: .int l1 :: .ref l0 :: rest) sh I R c F := by
  obtain ⟨r, h1, h2⟩ := bnd h
  have hT : isT sh l0 8 = true := by unfold fX10_shift at h1; exact (gd h1).1
  have ml : mL 77 = 3 := by decide +kernel
  have mk : mK 77 = 1 := by decide +kernel
  have mc : mC 77 = 8 := by decide +kernel
  obtain ⟨r, w⟩ := r
  rcases r with v | E
  · refine s_call (as := [.int l2, .int l1, .ref l0]) (G := fun o' sh' I' R' => o' = .inl (some (.int v)) ∧ sh' = sh ∧ I' = w.1 ∧ R' = w.2) hq hc rfl hr (by rw [ml]; rfl) (Or.inl rfl) (fun _ => Or.inl (Or.inl ⟨by rw [mc]; decide, by rw [mc]; exact isT_iff.mp hT⟩)) (fun z => absurd (mk.symm.trans z) (by decide)) (by rw [ml]; exact vX10_shift (F := fun o' sh' I' R' => o' = .inl (some (.int v)) ∧ sh' = sh ∧ I' = w.1 ∧ R' = w.2) ⟨rfl, rfl, rfl, rfl⟩ h1) ?_ ?_ ?_
    · rintro sh' I' R' c' hc' ⟨g1, rfl, rfl, rfl⟩
      cases g1
    · rintro v' sh' I' R' c' hc' ⟨g1, rfl, rfl, rfl⟩
      cases g1
      exact kk _ _ _ hc' h2
    · rintro E' sh' I' R' ⟨g1, rfl, rfl, rfl⟩
      cases g1
  · refine s_call (as := [.int l2, .int l1, .ref l0]) (G := fun o' sh' I' R' => o' = .inr E ∧ sh' = sh ∧ I' = w.1 ∧ R' = w.2) hq hc rfl hr (by rw [ml]; rfl) (Or.inl rfl) (fun _ => Or.inl (Or.inl ⟨by rw [mc]; decide, by rw [mc]; exact isT_iff.mp hT⟩)) (fun z => absurd (mk.symm.trans z) (by decide)) (by rw [ml]; exact vX10_shift (F := fun o' sh' I' R' => o' = .inr E ∧ sh' = sh ∧ I' = w.1 ∧ R' = w.2) ⟨rfl, rfl, rfl, rfl⟩ h1) ?_ ?_ ?_
    · rintro sh' I' R' c' hc' ⟨g1, rfl, rfl, rfl⟩
      cases g1
    · rintro v' sh' I' R' c' hc' ⟨g1, rfl, rfl, rfl⟩
      cases g1
    · rintro E' sh' I' R' ⟨g1, rfl, rfl, rfl⟩
      cases g1
      exact kx _ _ h2
set_option maxRecDepth 100000 in
set_option maxHeartbeats 4000000 in
def fX10_drop (fu : Nat) (sh : HS) (I : HI) (R : HR) (l0 : Nat) (l1 : Int32) : Option ((Int32 ⊕ String) × (HI × HR)) :=
  if isT sh l0 8 = true then
    (oT0 (fX10_needBoard fu sh I R l0) (fun E => some (.inr E, (I, R))) fun _ =>
    oT0 (fX10_needShot fu sh I R l0 l1) (fun E => some (.inr E, (I, R))) fun _ =>
    (fX10_beginAction fu sh I R l0).bind fun w3 =>
    (oR sh R l0 8 4).bind fun v4 =>
    (oR sh R l0 8 4).bind fun v5 =>
    (oI sh w3 v5 0 4).bind fun v6 =>
    (fX0_renumber fu sh w3 R v4 l1 (v6 - 1)).bind fun w7 =>
    (oR sh w7.2 l0 8 4).bind fun v8 =>
    (oI sh w7.1 v8 0 4).bind fun v9 =>
    (oP sh w7.1 v8 0 4 (v9 - 1)).bind fun v10 =>
    (oR sh w7.2 l0 8 4).bind fun v11 =>
    (oI sh v10 v11 0 4).bind fun v12 =>
    some (.inl v12, (v10, w7.2)))
  else none
set_option maxRecDepth 100000 in
set_option maxHeartbeats 4000000 in
theorem vX10_drop {K J : Nat → Nat} {fu : Nat} {sh : HS} {I : HI} {R : HR} {F : VF} {o : ((Int32 ⊕ String) × (HI × HR))} (hF : F (voI o.1) sh o.2.1 o.2.2) {l0 : Nat} {l1 : Int32} (h0 : fX10_drop fu sh I R l0 l1 = some o) : V K J 78 0 (ent 2 [.ref l0, .int l1]) [] sh I R (0, 0) F := by
  unfold fX10_drop at h0
  obtain ⟨-, h1⟩ := gd h0; clear h0
  have hc0 : ((0 : Nat), (0 : Nat)).1 ≤ 0 ∧ ((0 : Nat), (0 : Nat)).2 ≤ 0 := ⟨Nat.le_refl _, Nat.le_refl _⟩
  show V K J 78 0 [some (.ref l0), some (.int l1)] [] sh I R (0, 0) F
  refine s_rl (i := 0) (pc' := 1) (by decide +kernel) rfl ?_
  refine kX10_needBoard (X := 0) (Y := 0) (X' := 1) (Y' := 6) (pc' := 4) (by decide +kernel) hc0 rfl h1 (fun v1 c hc1 h2 => ?_) (fun E h2 => by have e9 := Option.some.inj h2; subst e9; exact hF); clear h1 hc0
  refine s_rl (i := 0) (pc' := 5) (by decide +kernel) rfl ?_
  refine s_il (i := 1) (pc' := 6) (by decide +kernel) rfl ?_
  refine kX10_needShot (X := 1) (Y := 6) (X' := 2) (Y' := 12) (pc' := 9) (by decide +kernel) hc1 rfl h2 (fun v2 c hc2 h3 => ?_) (fun E h3 => by have e9 := Option.some.inj h3; subst e9; exact hF); clear h2 hc1
  refine s_rl (i := 0) (pc' := 10) (by decide +kernel) rfl ?_
  refine kX10_beginAction (X := 2) (Y := 12) (X' := 2) (Y' := 12) (pc' := 13) (by decide +kernel) hc2 rfl h3 (fun w3 c hc3 h4 => ?_); clear h3 hc2
  refine s_rl (i := 0) (pc' := 14) (by decide +kernel) rfl ?_
  refine s_gR (t := 8) (j := 4) (pc' := 17) (by decide +kernel) h4 (fun v4 h5 => ?_); clear h4
  refine s_il (i := 1) (pc' := 18) (by decide +kernel) rfl ?_
  refine s_rl (i := 0) (pc' := 19) (by decide +kernel) rfl ?_
  refine s_gR (t := 8) (j := 4) (pc' := 22) (by decide +kernel) h5 (fun v5 h6 => ?_); clear h5
  refine s_gI (t := 0) (j := 4) (ty := 0) (pc' := 25) (by decide +kernel) rfl h6 (fun v6 h7 => ?_); clear h6
  refine s_c (v := 1) (pc' := 26) (by decide +kernel) ?_
  refine s_a (ins := .isub) (pc' := 27) (by decide +kernel) rfl ?_
  refine kX0_renumber (X := 2) (Y := 12) (X' := 2) (Y' := 12) (pc' := 30) (by decide +kernel) hc3 rfl h7 (fun w7 c hc4 h8 => ?_); clear h7 hc3
  refine s_rl (i := 0) (pc' := 31) (by decide +kernel) rfl ?_
  refine s_gR (t := 8) (j := 4) (pc' := 34) (by decide +kernel) h8 (fun v8 h9 => ?_); clear h8
  refine s_a (ins := .dup) (pc' := 35) (by decide +kernel) rfl ?_
  refine s_gI (t := 0) (j := 4) (ty := 0) (pc' := 38) (by decide +kernel) rfl h9 (fun v9 h10 => ?_); clear h9
  refine s_c (v := 1) (pc' := 39) (by decide +kernel) ?_
  refine s_a (ins := .isub) (pc' := 40) (by decide +kernel) rfl ?_
  refine s_pI (t := 0) (j := 4) (ty := 0) (pc' := 43) (by decide +kernel) (Or.inl rfl) h10 (fun v10 h11 => ?_); clear h10
  refine s_rl (i := 0) (pc' := 44) (by decide +kernel) rfl ?_
  refine s_gR (t := 8) (j := 4) (pc' := 47) (by decide +kernel) h11 (fun v11 h12 => ?_); clear h11
  refine s_gI (t := 0) (j := 4) (ty := 0) (pc' := 50) (by decide +kernel) rfl h12 (fun v12 h13 => ?_); clear h12
  have e9 := Option.some.inj h13; subst e9
  exact s_ri (X := 2) (Y := 12) (by decide +kernel) hc4 hF
set_option maxRecDepth 100000 in
set_option maxHeartbeats 4000000 in
theorem kX10_drop {K J : Nat → Nat} {fu : Nat} {sh : HS} {I : HI} {R : HR} {F : VF} {mi pc pc' X Y X' Y' : Nat} {L : VL} {rest : List Value} {c : Nat × Nat} {l0 : Nat} {l1 : Int32} {ω : Type} {o : ω} {e : String → (HI × HR) → Option ω} {g : Int32 → (HI × HR) → Option ω} (hq : cQ mi pc 78 2 pc' X Y X' Y' = true) (hc : c.1 ≤ X ∧ c.2 ≤ Y) (hr : Nat.ble (catS rest) 8 = true) (h : oTh (fX10_drop fu sh I R l0 l1) e g = some o) (kk : ∀ v w c', (c'.1 ≤ X' ∧ c'.2 ≤ Y') → g v w = some o → V K J mi pc' L ((.int v) :: rest) sh w.1 w.2 c' F) (kx : ∀ E w, e E w = some o → F (.inr E) sh w.1 w.2) : V K J mi pc L (.int l1 :: .ref l0 :: rest) sh I R c F := by
  obtain ⟨r, h1, h2⟩ := bnd h
  have hT : isT sh l0 8 = true := by unfold fX10_drop at h1; exact (gd h1).1
  have ml : mL 78 = 2 := by decide +kernel
  have mk : mK 78 = 1 := by decide +kernel
  have mc : mC 78 = 8 := by decide +kernel
  obtain ⟨r, w⟩ := r
  rcases r with v | E
  · refine s_call (as := [.int l1, .ref l0]) (G := fun o' sh' I' R' => o' = .inl (some (.int v)) ∧ sh' = sh ∧ I' = w.1 ∧ R' = w.2) hq hc rfl hr (by rw [ml]; rfl) (Or.inl rfl) (fun _ => Or.inl (Or.inl ⟨by rw [mc]; decide, by rw [mc]; exact isT_iff.mp hT⟩)) (fun z => absurd (mk.symm.trans z) (by decide)) (by rw [ml]; exact vX10_drop (F := fun o' sh' I' R' => o' = .inl (some (.int v)) ∧ sh' = sh ∧ I' = w.1 ∧ R' = w.2) ⟨rfl, rfl, rfl, rfl⟩ h1) ?_ ?_ ?_
    · rintro sh' I' R' c' hc' ⟨g1, rfl, rfl, rfl⟩
      cases g1
    · rintro v' sh' I' R' c' hc' ⟨g1, rfl, rfl, rfl⟩
      cases g1
      exact kk _ _ _ hc' h2
    · rintro E' sh' I' R' ⟨g1, rfl, rfl, rfl⟩
      cases g1
  · refine s_call (as := [.int l1, .ref l0]) (G := fun o' sh' I' R' => o' = .inr E ∧ sh' = sh ∧ I' = w.1 ∧ R' = w.2) hq hc rfl hr (by rw [ml]; rfl) (Or.inl rfl) (fun _ => Or.inl (Or.inl ⟨by rw [mc]; decide, by rw [mc]; exact isT_iff.mp hT⟩)) (fun z => absurd (mk.symm.trans z) (by decide)) (by rw [ml]; exact vX10_drop (F := fun o' sh' I' R' => o' = .inr E ∧ sh' = sh ∧ I' = w.1 ∧ R' = w.2) ⟨rfl, rfl, rfl, rfl⟩ h1) ?_ ?_ ?_
    · rintro sh' I' R' c' hc' ⟨g1, rfl, rfl, rfl⟩
      cases g1
    · rintro v' sh' I' R' c' hc' ⟨g1, rfl, rfl, rfl⟩
      cases g1
    · rintro E' sh' I' R' ⟨g1, rfl, rfl, rfl⟩
      cases g1
      exact kx _ _ h2
set_option maxRecDepth 100000 in
set_option maxHeartbeats 4000000 in
def fX10_obstacleToFlip_b51 (fu : Nat) (sh : HS) (I : HI) (R : HR) : Option Int32 :=
  some (-3)
set_option maxRecDepth 100000 in
set_option maxHeartbeats 4000000 in
theorem vX10_obstacleToFlip_b51 {K J : Nat → Nat} {fu : Nat} {sh : HS} {I : HI} {R : HR} {F : VF} {o : Int32} (hF : F (.inl (some (.int o))) sh I R) {d0 d1 d2 d3 : Option Value} {c : Nat × Nat} (hc0 : c.1 ≤ 0 ∧ c.2 ≤ 0) (h0 : fX10_obstacleToFlip_b51 fu sh I R = some o) : V K J 105 51 [d0, d1, d2, d3] [] sh I R c F := by
  unfold fX10_obstacleToFlip_b51 at h0
  refine s_c (v := (-3)) (pc' := 53) (by decide +kernel) ?_
  have e9 := Option.some.inj h0; subst e9
  exact s_ri (X := 0) (Y := 0) (by decide +kernel) hc0 hF
set_option maxRecDepth 100000 in
set_option maxHeartbeats 4000000 in
def fX10_obstacleToFlip_b73 (fu : Nat) (sh : HS) (I : HI) (R : HR) (s0 : Int32) : Option Int32 :=
  some s0
set_option maxRecDepth 100000 in
set_option maxHeartbeats 4000000 in
theorem vX10_obstacleToFlip_b73 {K J : Nat → Nat} {fu : Nat} {sh : HS} {I : HI} {R : HR} {F : VF} {o : Int32} (hF : F (.inl (some (.int o))) sh I R) {s0 : Int32} {d0 d1 d2 d3 : Option Value} {c : Nat × Nat} (hc0 : c.1 ≤ 0 ∧ c.2 ≤ 0) (h0 : fX10_obstacleToFlip_b73 fu sh I R s0 = some o) : V K J 105 73 [d0, d1, d2, d3] [.int s0] sh I R c F := by
  unfold fX10_obstacleToFlip_b73 at h0
  have e9 := Option.some.inj h0; subst e9
  exact s_ri (X := 0) (Y := 0) (by decide +kernel) hc0 hF
set_option maxRecDepth 100000 in
set_option maxHeartbeats 4000000 in
def fX10_obstacleToFlip (fu : Nat) (sh : HS) (I : HI) (R : HR) (l0 : Nat) (l1 : Nat) : Option Int32 :=
  if isT sh l0 8 = true then
    ((oI sh I l1 7 4).bind fun v1 =>
    if v1 = (-1) then
      (some (-2))
    else
      ((oR sh R l0 8 4).bind fun v2 =>
      (fX0_oppositeX fu sh I R v2 l1).bind fun v3 =>
      (oR sh R l0 8 4).bind fun v4 =>
      (fX0_oppositeY fu sh I R v4 l1).bind fun v5 =>
      if v3 < 0 then
        ((fX10_obstacleToFlip_b51 fu sh I R))
      else
        (if 199 < v3 then
          ((fX10_obstacleToFlip_b51 fu sh I R))
        else
          (if v5 < 0 then
            ((fX10_obstacleToFlip_b51 fu sh I R))
          else
            (if v5 ≤ 199 then
              ((oR sh R l0 8 4).bind fun v6 =>
              (fX0_isSubjectAt fu sh I R v6 l1 v3 v5).bind fun v7 =>
              if v7 = 0 then
                ((fX10_obstacleToFlip_b73 fu sh I R) 0)
              else
                ((fX10_obstacleToFlip_b73 fu sh I R) (-4)))
            else
              ((fX10_obstacleToFlip_b51 fu sh I R)))))))
  else none
set_option maxRecDepth 100000 in
set_option maxHeartbeats 4000000 in
theorem vX10_obstacleToFlip {K J : Nat → Nat} {fu : Nat} {sh : HS} {I : HI} {R : HR} {F : VF} {o : Int32} (hF : F (.inl (some (.int o))) sh I R) {l0 : Nat} {l1 : Nat} (h0 : fX10_obstacleToFlip fu sh I R l0 l1 = some o) : V K J 105 0 (ent 4 [.ref l0, .ref l1]) [] sh I R (0, 0) F := by
  unfold fX10_obstacleToFlip at h0
  obtain ⟨-, h1⟩ := gd h0; clear h0
  have hc0 : ((0 : Nat), (0 : Nat)).1 ≤ 0 ∧ ((0 : Nat), (0 : Nat)).2 ≤ 0 := ⟨Nat.le_refl _, Nat.le_refl _⟩
  show V K J 105 0 [some (.ref l0), some (.ref l1), none, none] [] sh I R (0, 0) F
  refine s_rl (i := 1) (pc' := 1) (by decide +kernel) rfl ?_
  refine s_gI (t := 7) (j := 4) (ty := 0) (pc' := 4) (by decide +kernel) rfl h1 (fun v1 h2 => ?_); clear h1
  refine s_c (v := (-1)) (pc' := 5) (by decide +kernel) ?_
  refine s_ifn (ins := .if_icmp .ne 6) (t := 11) (pc' := 8) (by decide +kernel) rfl rfl rfl h2 (fun p3 h3 => ?_) (fun p3 h3 => ?_) <;> clear h2
  · refine s_rl (i := 0) (pc' := 12) (by decide +kernel) rfl ?_
    refine s_gR (t := 8) (j := 4) (pc' := 15) (by decide +kernel) h3 (fun v2 h4 => ?_); clear h3
    refine s_rl (i := 1) (pc' := 16) (by decide +kernel) rfl ?_
    refine kX0_oppositeX (X := 0) (Y := 0) (X' := 0) (Y' := 0) (pc' := 19) (by decide +kernel) hc0 rfl h4 (fun v3 c hc1 h5 => ?_); clear h4 hc0
    refine s_is (i := 2) (pc' := 20) (L' := [some (.ref l0), some (.ref l1), some (.int v3), none]) (by decide +kernel) rfl rfl ?_
    refine s_rl (i := 0) (pc' := 21) (by decide +kernel) rfl ?_
    refine s_gR (t := 8) (j := 4) (pc' := 24) (by decide +kernel) h5 (fun v4 h6 => ?_); clear h5
    refine s_rl (i := 1) (pc' := 25) (by decide +kernel) rfl ?_
    refine kX0_oppositeY (X := 0) (Y := 0) (X' := 0) (Y' := 0) (pc' := 28) (by decide +kernel) hc1 rfl h6 (fun v5 c hc2 h7 => ?_); clear h6 hc1
    refine s_is (i := 3) (pc' := 29) (L' := [some (.ref l0), some (.ref l1), some (.int v3), some (.int v5)]) (by decide +kernel) rfl rfl ?_
    refine s_il (i := 2) (pc' := 30) (by decide +kernel) rfl ?_
    refine s_if (ins := .ifCond .lt 21) (t := 51) (pc' := 33) (by decide +kernel) rfl rfl rfl h7 (fun p8 h8 => ?_) (fun p8 h8 => ?_) <;> clear h7
    · exact (vX10_obstacleToFlip_b51 hF) hc2 h8
    · refine s_il (i := 2) (pc' := 34) (by decide +kernel) rfl ?_
      refine s_c (v := 199) (pc' := 37) (by decide +kernel) ?_
      refine s_if (ins := .if_icmp .gt 14) (t := 51) (pc' := 40) (by decide +kernel) rfl rfl rfl h8 (fun p9 h9 => ?_) (fun p9 h9 => ?_) <;> clear h8
      · exact (vX10_obstacleToFlip_b51 hF) hc2 h9
      · refine s_il (i := 3) (pc' := 41) (by decide +kernel) rfl ?_
        refine s_if (ins := .ifCond .lt 10) (t := 51) (pc' := 44) (by decide +kernel) rfl rfl rfl h9 (fun p10 h10 => ?_) (fun p10 h10 => ?_) <;> clear h9
        · exact (vX10_obstacleToFlip_b51 hF) hc2 h10
        · refine s_il (i := 3) (pc' := 45) (by decide +kernel) rfl ?_
          refine s_c (v := 199) (pc' := 48) (by decide +kernel) ?_
          refine s_if (ins := .if_icmp .le 6) (t := 54) (pc' := 51) (by decide +kernel) rfl rfl rfl h10 (fun p11 h11 => ?_) (fun p11 h11 => ?_) <;> clear h10
          · refine s_rl (i := 0) (pc' := 55) (by decide +kernel) rfl ?_
            refine s_gR (t := 8) (j := 4) (pc' := 58) (by decide +kernel) h11 (fun v6 h12 => ?_); clear h11
            refine s_rl (i := 1) (pc' := 59) (by decide +kernel) rfl ?_
            refine s_il (i := 2) (pc' := 60) (by decide +kernel) rfl ?_
            refine s_il (i := 3) (pc' := 61) (by decide +kernel) rfl ?_
            refine kX0_isSubjectAt (X := 0) (Y := 0) (X' := 0) (Y' := 0) (pc' := 64) (by decide +kernel) hc2 rfl h12 (fun v7 c hc3 h13 => ?_); clear h12 hc2
            refine s_if (ins := .ifCond .eq 8) (t := 72) (pc' := 67) (by decide +kernel) rfl rfl rfl h13 (fun p14 h14 => ?_) (fun p14 h14 => ?_) <;> clear h13
            · refine s_c (v := 0) (pc' := 73) (by decide +kernel) ?_
              exact (vX10_obstacleToFlip_b73 hF) hc3 h14
            · refine s_c (v := (-4)) (pc' := 69) (by decide +kernel) ?_
              refine s_go (t := 73) (by decide +kernel) ?_
              exact (vX10_obstacleToFlip_b73 hF) hc3 h14
          · exact (vX10_obstacleToFlip_b51 hF) hc2 h11
  · refine s_c (v := (-2)) (pc' := 10) (by decide +kernel) ?_
    have e9 := Option.some.inj h3; subst e9
    exact s_ri (X := 0) (Y := 0) (by decide +kernel) hc0 hF
set_option maxRecDepth 100000 in
set_option maxHeartbeats 4000000 in
theorem kX10_obstacleToFlip {K J : Nat → Nat} {fu : Nat} {sh : HS} {I : HI} {R : HR} {F : VF} {mi pc pc' X Y X' Y' : Nat} {L : VL} {rest : List Value} {c : Nat × Nat} {l0 : Nat} {l1 : Nat} {ω : Type} {o : ω} {g : Int32 → Option ω} (hq : cQ mi pc 105 2 pc' X Y X' Y' = true) (hc : c.1 ≤ X ∧ c.2 ≤ Y) (hr : Nat.ble (catS rest) 8 = true) (h : (fX10_obstacleToFlip fu sh I R l0 l1).bind g = some o) (kk : ∀ v c', (c'.1 ≤ X' ∧ c'.2 ≤ Y') → g v = some o → V K J mi pc' L ((.int v) :: rest) sh I R c' F) : V K J mi pc L (.ref l1 :: .ref l0 :: rest) sh I R c F := by
  obtain ⟨r, h1, h2⟩ := bnd h
  have hT : isT sh l0 8 = true := by unfold fX10_obstacleToFlip at h1; exact (gd h1).1
  have ml : mL 105 = 4 := by decide +kernel
  have mk : mK 105 = 1 := by decide +kernel
  have mc : mC 105 = 8 := by decide +kernel
  refine s_call (as := [.ref l1, .ref l0]) (G := fun o' sh' I' R' => o' = .inl (some (.int r)) ∧ sh' = sh ∧ I' = I ∧ R' = R) hq hc rfl hr (by rw [ml]; rfl) (Or.inl rfl) (fun _ => Or.inl (Or.inl ⟨by rw [mc]; decide, by rw [mc]; exact isT_iff.mp hT⟩)) (fun z => absurd (mk.symm.trans z) (by decide)) (by rw [ml]; exact vX10_obstacleToFlip (F := fun o' sh' I' R' => o' = .inl (some (.int r)) ∧ sh' = sh ∧ I' = I ∧ R' = R) ⟨rfl, rfl, rfl, rfl⟩ h1) ?_ ?_ ?_
  · rintro sh' I' R' c' hc' ⟨g1, rfl, rfl, rfl⟩
    cases g1
  · rintro v' sh' I' R' c' hc' ⟨g1, rfl, rfl, rfl⟩
    cases g1
    exact kk _ _ hc' h2
  · rintro E' sh' I' R' ⟨g1, rfl, rfl, rfl⟩
    cases g1
set_option maxRecDepth 100000 in
set_option maxHeartbeats 4000000 in
def fX10_turnOver (fu : Nat) (sh : HS) (I : HI) (R : HR) (l0 : Nat) (l1 : Nat) : Option HI :=
  if isT sh l0 8 = true then
    ((oR sh R l0 8 4).bind fun v1 =>
    (fX0_oppositeX fu sh I R v1 l1).bind fun v2 =>
    (oR sh R l0 8 4).bind fun v3 =>
    (fX0_oppositeY fu sh I R v3 l1).bind fun v4 =>
    (fX8_placeCamera fu sh I R l1 v2 v4).bind fun w5 =>
    some w5)
  else none
set_option maxRecDepth 100000 in
set_option maxHeartbeats 4000000 in
theorem vX10_turnOver {K J : Nat → Nat} {fu : Nat} {sh : HS} {I : HI} {R : HR} {F : VF} {o : HI} (hF : F (.inl none) sh o R) {l0 : Nat} {l1 : Nat} (h0 : fX10_turnOver fu sh I R l0 l1 = some o) : V K J 106 0 (ent 2 [.ref l0, .ref l1]) [] sh I R (0, 0) F := by
  unfold fX10_turnOver at h0
  obtain ⟨-, h1⟩ := gd h0; clear h0
  have hc0 : ((0 : Nat), (0 : Nat)).1 ≤ 0 ∧ ((0 : Nat), (0 : Nat)).2 ≤ 0 := ⟨Nat.le_refl _, Nat.le_refl _⟩
  show V K J 106 0 [some (.ref l0), some (.ref l1)] [] sh I R (0, 0) F
  refine s_rl (i := 1) (pc' := 1) (by decide +kernel) rfl ?_
  refine s_rl (i := 0) (pc' := 2) (by decide +kernel) rfl ?_
  refine s_gR (t := 8) (j := 4) (pc' := 5) (by decide +kernel) h1 (fun v1 h2 => ?_); clear h1
  refine s_rl (i := 1) (pc' := 6) (by decide +kernel) rfl ?_
  refine kX0_oppositeX (X := 0) (Y := 0) (X' := 0) (Y' := 0) (pc' := 9) (by decide +kernel) hc0 rfl h2 (fun v2 c hc1 h3 => ?_); clear h2 hc0
  refine s_rl (i := 0) (pc' := 10) (by decide +kernel) rfl ?_
  refine s_gR (t := 8) (j := 4) (pc' := 13) (by decide +kernel) h3 (fun v3 h4 => ?_); clear h3
  refine s_rl (i := 1) (pc' := 14) (by decide +kernel) rfl ?_
  refine kX0_oppositeY (X := 0) (Y := 0) (X' := 0) (Y' := 0) (pc' := 17) (by decide +kernel) hc1 rfl h4 (fun v4 c hc2 h5 => ?_); clear h4 hc1
  refine kX8_placeCamera (X := 0) (Y := 0) (X' := 0) (Y' := 0) (pc' := 20) (by decide +kernel) hc2 rfl h5 (fun w5 c hc3 h6 => ?_); clear h5 hc2
  have e9 := Option.some.inj h6; subst e9
  exact s_rv (X := 0) (Y := 0) (by decide +kernel) hc3 hF
set_option maxRecDepth 100000 in
set_option maxHeartbeats 4000000 in
theorem kX10_turnOver {K J : Nat → Nat} {fu : Nat} {sh : HS} {I : HI} {R : HR} {F : VF} {mi pc pc' X Y X' Y' : Nat} {L : VL} {rest : List Value} {c : Nat × Nat} {l0 : Nat} {l1 : Nat} {ω : Type} {o : ω} {g : HI → Option ω} (hq : cQ mi pc 106 2 pc' X Y X' Y' = true) (hc : c.1 ≤ X ∧ c.2 ≤ Y) (hr : Nat.ble (catS rest) 8 = true) (h : (fX10_turnOver fu sh I R l0 l1).bind g = some o) (kk : ∀ w c', (c'.1 ≤ X' ∧ c'.2 ≤ Y') → g w = some o → V K J mi pc' L (rest) sh w R c' F) : V K J mi pc L (.ref l1 :: .ref l0 :: rest) sh I R c F := by
  obtain ⟨r, h1, h2⟩ := bnd h
  have hT : isT sh l0 8 = true := by unfold fX10_turnOver at h1; exact (gd h1).1
  have ml : mL 106 = 2 := by decide +kernel
  have mk : mK 106 = 1 := by decide +kernel
  have mc : mC 106 = 8 := by decide +kernel
  refine s_call (as := [.ref l1, .ref l0]) (G := fun o' sh' I' R' => o' = .inl none ∧ sh' = sh ∧ I' = r ∧ R' = R) hq hc rfl hr (by rw [ml]; rfl) (Or.inl rfl) (fun _ => Or.inl (Or.inl ⟨by rw [mc]; decide, by rw [mc]; exact isT_iff.mp hT⟩)) (fun z => absurd (mk.symm.trans z) (by decide)) (by rw [ml]; exact vX10_turnOver (F := fun o' sh' I' R' => o' = .inl none ∧ sh' = sh ∧ I' = r ∧ R' = R) ⟨rfl, rfl, rfl, rfl⟩ h1) ?_ ?_ ?_
  · rintro sh' I' R' c' hc' ⟨g1, rfl, rfl, rfl⟩
    cases g1
    exact kk _ _ hc' h2
  · rintro v' sh' I' R' c' hc' ⟨g1, rfl, rfl, rfl⟩
    cases g1
  · rintro E' sh' I' R' ⟨g1, rfl, rfl, rfl⟩
    cases g1
set_option maxRecDepth 100000 in
set_option maxHeartbeats 4000000 in
def fX10_flip (fu : Nat) (sh : HS) (I : HI) (R : HR) (l0 : Nat) (l1 : Int32) : Option ((Int32 ⊕ String) × HI) :=
  if isT sh l0 8 = true then
    (oT0 (fX10_needBoard fu sh I R l0) (fun E => some (.inr E, I)) fun _ =>
    oT0 (fX10_needShot fu sh I R l0 l1) (fun E => some (.inr E, I)) fun _ =>
    (oR sh R l0 8 4).bind fun v3 =>
    (oR sh R v3 0 6).bind fun v4 =>
    (oB sh R v4 7 l1).bind fun v5 =>
    (fX10_obstacleToFlip fu sh I R l0 v5).bind fun v6 =>
    if v6 = 0 then
      ((fX10_beginAction fu sh I R l0).bind fun w7 =>
      (oR sh R l0 8 4).bind fun v8 =>
      (oR sh R v8 0 6).bind fun v9 =>
      (oB sh R v9 7 l1).bind fun v10 =>
      (fX10_turnOver fu sh w7 R l0 v10).bind fun w11 =>
      (oR sh R l0 8 4).bind fun v12 =>
      (fX2_total fu sh w11 R v12).bind fun v13 =>
      some (.inl v13, w11))
    else
      (some (.inl v6, I)))
  else none
set_option maxRecDepth 100000 in
set_option maxHeartbeats 4000000 in
theorem vX10_flip {K J : Nat → Nat} {fu : Nat} {sh : HS} {I : HI} {R : HR} {F : VF} {o : ((Int32 ⊕ String) × HI)} (hF : F (voI o.1) sh o.2 R) {l0 : Nat} {l1 : Int32} (h0 : fX10_flip fu sh I R l0 l1 = some o) : V K J 79 0 (ent 3 [.ref l0, .int l1]) [] sh I R (0, 0) F := by
  unfold fX10_flip at h0
  obtain ⟨-, h1⟩ := gd h0; clear h0
  have hc0 : ((0 : Nat), (0 : Nat)).1 ≤ 0 ∧ ((0 : Nat), (0 : Nat)).2 ≤ 0 := ⟨Nat.le_refl _, Nat.le_refl _⟩
  show V K J 79 0 [some (.ref l0), some (.int l1), none] [] sh I R (0, 0) F
  refine s_rl (i := 0) (pc' := 1) (by decide +kernel) rfl ?_
  refine kX10_needBoard (X := 0) (Y := 0) (X' := 1) (Y' := 6) (pc' := 4) (by decide +kernel) hc0 rfl h1 (fun v1 c hc1 h2 => ?_) (fun E h2 => by have e9 := Option.some.inj h2; subst e9; exact hF); clear h1 hc0
  refine s_rl (i := 0) (pc' := 5) (by decide +kernel) rfl ?_
  refine s_il (i := 1) (pc' := 6) (by decide +kernel) rfl ?_
  refine kX10_needShot (X := 1) (Y := 6) (X' := 2) (Y' := 12) (pc' := 9) (by decide +kernel) hc1 rfl h2 (fun v2 c hc2 h3 => ?_) (fun E h3 => by have e9 := Option.some.inj h3; subst e9; exact hF); clear h2 hc1
  refine s_rl (i := 0) (pc' := 10) (by decide +kernel) rfl ?_
  refine s_rl (i := 0) (pc' := 11) (by decide +kernel) rfl ?_
  refine s_gR (t := 8) (j := 4) (pc' := 14) (by decide +kernel) h3 (fun v3 h4 => ?_); clear h3
  refine s_gR (t := 0) (j := 6) (pc' := 17) (by decide +kernel) h4 (fun v4 h5 => ?_); clear h4
  refine s_il (i := 1) (pc' := 18) (by decide +kernel) rfl ?_
  refine s_aal (t := 7) (pc' := 19) (by decide +kernel) h5 (fun v5 h6 => ?_); clear h5
  refine kX10_obstacleToFlip (X := 2) (Y := 12) (X' := 2) (Y' := 12) (pc' := 22) (by decide +kernel) hc2 rfl h6 (fun v6 c hc3 h7 => ?_); clear h6 hc2
  refine s_is (i := 2) (pc' := 23) (L' := [some (.ref l0), some (.int l1), some (.int v6)]) (by decide +kernel) rfl rfl ?_
  refine s_il (i := 2) (pc' := 24) (by decide +kernel) rfl ?_
  refine s_if (ins := .ifCond .eq 5) (t := 29) (pc' := 27) (by decide +kernel) rfl rfl rfl h7 (fun p8 h8 => ?_) (fun p8 h8 => ?_) <;> clear h7
  · refine s_rl (i := 0) (pc' := 30) (by decide +kernel) rfl ?_
    refine kX10_beginAction (X := 2) (Y := 12) (X' := 2) (Y' := 12) (pc' := 33) (by decide +kernel) hc3 rfl h8 (fun w7 c hc4 h9 => ?_); clear h8 hc3
    refine s_rl (i := 0) (pc' := 34) (by decide +kernel) rfl ?_
    refine s_rl (i := 0) (pc' := 35) (by decide +kernel) rfl ?_
    refine s_gR (t := 8) (j := 4) (pc' := 38) (by decide +kernel) h9 (fun v8 h10 => ?_); clear h9
    refine s_gR (t := 0) (j := 6) (pc' := 41) (by decide +kernel) h10 (fun v9 h11 => ?_); clear h10
    refine s_il (i := 1) (pc' := 42) (by decide +kernel) rfl ?_
    refine s_aal (t := 7) (pc' := 43) (by decide +kernel) h11 (fun v10 h12 => ?_); clear h11
    refine kX10_turnOver (X := 2) (Y := 12) (X' := 2) (Y' := 12) (pc' := 46) (by decide +kernel) hc4 rfl h12 (fun w11 c hc5 h13 => ?_); clear h12 hc4
    refine s_rl (i := 0) (pc' := 47) (by decide +kernel) rfl ?_
    refine s_gR (t := 8) (j := 4) (pc' := 50) (by decide +kernel) h13 (fun v12 h14 => ?_); clear h13
    refine kX2_total (X := 2) (Y := 12) (X' := 2) (Y' := 12) (pc' := 53) (by decide +kernel) hc5 rfl h14 (fun v13 c hc6 h15 => ?_); clear h14 hc5
    have e9 := Option.some.inj h15; subst e9
    exact s_ri (X := 2) (Y := 12) (by decide +kernel) hc6 hF
  · refine s_il (i := 2) (pc' := 28) (by decide +kernel) rfl ?_
    have e9 := Option.some.inj h8; subst e9
    exact s_ri (X := 2) (Y := 12) (by decide +kernel) hc3 hF
set_option maxRecDepth 100000 in
set_option maxHeartbeats 4000000 in
theorem kX10_flip {K J : Nat → Nat} {fu : Nat} {sh : HS} {I : HI} {R : HR} {F : VF} {mi pc pc' X Y X' Y' : Nat} {L : VL} {rest : List Value} {c : Nat × Nat} {l0 : Nat} {l1 : Int32} {ω : Type} {o : ω} {e : String → HI → Option ω} {g : Int32 → HI → Option ω} (hq : cQ mi pc 79 2 pc' X Y X' Y' = true) (hc : c.1 ≤ X ∧ c.2 ≤ Y) (hr : Nat.ble (catS rest) 8 = true) (h : oTh (fX10_flip fu sh I R l0 l1) e g = some o) (kk : ∀ v w c', (c'.1 ≤ X' ∧ c'.2 ≤ Y') → g v w = some o → V K J mi pc' L ((.int v) :: rest) sh w R c' F) (kx : ∀ E w, e E w = some o → F (.inr E) sh w R) : V K J mi pc L (.int l1 :: .ref l0 :: rest) sh I R c F := by
  obtain ⟨r, h1, h2⟩ := bnd h
  have hT : isT sh l0 8 = true := by unfold fX10_flip at h1; exact (gd h1).1
  have ml : mL 79 = 3 := by decide +kernel
  have mk : mK 79 = 1 := by decide +kernel
  have mc : mC 79 = 8 := by decide +kernel
  obtain ⟨r, w⟩ := r
  rcases r with v | E
  · refine s_call (as := [.int l1, .ref l0]) (G := fun o' sh' I' R' => o' = .inl (some (.int v)) ∧ sh' = sh ∧ I' = w ∧ R' = R) hq hc rfl hr (by rw [ml]; rfl) (Or.inl rfl) (fun _ => Or.inl (Or.inl ⟨by rw [mc]; decide, by rw [mc]; exact isT_iff.mp hT⟩)) (fun z => absurd (mk.symm.trans z) (by decide)) (by rw [ml]; exact vX10_flip (F := fun o' sh' I' R' => o' = .inl (some (.int v)) ∧ sh' = sh ∧ I' = w ∧ R' = R) ⟨rfl, rfl, rfl, rfl⟩ h1) ?_ ?_ ?_
    · rintro sh' I' R' c' hc' ⟨g1, rfl, rfl, rfl⟩
      cases g1
    · rintro v' sh' I' R' c' hc' ⟨g1, rfl, rfl, rfl⟩
      cases g1
      exact kk _ _ _ hc' h2
    · rintro E' sh' I' R' ⟨g1, rfl, rfl, rfl⟩
      cases g1
  · refine s_call (as := [.int l1, .ref l0]) (G := fun o' sh' I' R' => o' = .inr E ∧ sh' = sh ∧ I' = w ∧ R' = R) hq hc rfl hr (by rw [ml]; rfl) (Or.inl rfl) (fun _ => Or.inl (Or.inl ⟨by rw [mc]; decide, by rw [mc]; exact isT_iff.mp hT⟩)) (fun z => absurd (mk.symm.trans z) (by decide)) (by rw [ml]; exact vX10_flip (F := fun o' sh' I' R' => o' = .inr E ∧ sh' = sh ∧ I' = w ∧ R' = R) ⟨rfl, rfl, rfl, rfl⟩ h1) ?_ ?_ ?_
    · rintro sh' I' R' c' hc' ⟨g1, rfl, rfl, rfl⟩
      cases g1
    · rintro v' sh' I' R' c' hc' ⟨g1, rfl, rfl, rfl⟩
      cases g1
    · rintro E' sh' I' R' ⟨g1, rfl, rfl, rfl⟩
      cases g1
      exact kx _ _ h2
set_option maxRecDepth 100000 in
set_option maxHeartbeats 4000000 in
def fX10_view (fu : Nat) (sh : HS) (I : HI) (R : HR) (l0 : Nat) (l1 : Int32) : Option (Int32 ⊕ String) :=
  if isT sh l0 8 = true then
    (oT0 (fX10_needBoard fu sh I R l0) (fun E => some (.inr E)) fun _ =>
    oT0 (fX10_needShot fu sh I R l0 l1) (fun E => some (.inr E)) fun _ =>
    (oR sh R l0 8 4).bind fun v3 =>
    (oR sh R l0 8 4).bind fun v4 =>
    (oR sh R v4 0 6).bind fun v5 =>
    (oB sh R v5 7 l1).bind fun v6 =>
    (fX9_viewOf fu sh I R v3 v6).bind fun v7 =>
    some (.inl v7))
  else none
set_option maxRecDepth 100000 in
set_option maxHeartbeats 4000000 in
theorem vX10_view {K J : Nat → Nat} {fu : Nat} {sh : HS} {I : HI} {R : HR} {F : VF} {o : (Int32 ⊕ String)} (hF : F (voI o) sh I R) {l0 : Nat} {l1 : Int32} (h0 : fX10_view fu sh I R l0 l1 = some o) : V K J 80 0 (ent 2 [.ref l0, .int l1]) [] sh I R (0, 0) F := by
  unfold fX10_view at h0
  obtain ⟨-, h1⟩ := gd h0; clear h0
  have hc0 : ((0 : Nat), (0 : Nat)).1 ≤ 0 ∧ ((0 : Nat), (0 : Nat)).2 ≤ 0 := ⟨Nat.le_refl _, Nat.le_refl _⟩
  show V K J 80 0 [some (.ref l0), some (.int l1)] [] sh I R (0, 0) F
  refine s_rl (i := 0) (pc' := 1) (by decide +kernel) rfl ?_
  refine kX10_needBoard (X := 0) (Y := 0) (X' := 1) (Y' := 6) (pc' := 4) (by decide +kernel) hc0 rfl h1 (fun v1 c hc1 h2 => ?_) (fun E h2 => by have e9 := Option.some.inj h2; subst e9; exact hF); clear h1 hc0
  refine s_rl (i := 0) (pc' := 5) (by decide +kernel) rfl ?_
  refine s_il (i := 1) (pc' := 6) (by decide +kernel) rfl ?_
  refine kX10_needShot (X := 1) (Y := 6) (X' := 2) (Y' := 12) (pc' := 9) (by decide +kernel) hc1 rfl h2 (fun v2 c hc2 h3 => ?_) (fun E h3 => by have e9 := Option.some.inj h3; subst e9; exact hF); clear h2 hc1
  refine s_rl (i := 0) (pc' := 10) (by decide +kernel) rfl ?_
  refine s_gR (t := 8) (j := 4) (pc' := 13) (by decide +kernel) h3 (fun v3 h4 => ?_); clear h3
  refine s_rl (i := 0) (pc' := 14) (by decide +kernel) rfl ?_
  refine s_gR (t := 8) (j := 4) (pc' := 17) (by decide +kernel) h4 (fun v4 h5 => ?_); clear h4
  refine s_gR (t := 0) (j := 6) (pc' := 20) (by decide +kernel) h5 (fun v5 h6 => ?_); clear h5
  refine s_il (i := 1) (pc' := 21) (by decide +kernel) rfl ?_
  refine s_aal (t := 7) (pc' := 22) (by decide +kernel) h6 (fun v6 h7 => ?_); clear h6
  refine kX9_viewOf (X := 2) (Y := 12) (X' := 2) (Y' := 12) (pc' := 25) (by decide +kernel) hc2 rfl h7 (fun v7 c hc3 h8 => ?_); clear h7 hc2
  have e9 := Option.some.inj h8; subst e9
  exact s_ri (X := 2) (Y := 12) (by decide +kernel) hc3 hF
set_option maxRecDepth 100000 in
set_option maxHeartbeats 4000000 in
theorem kX10_view {K J : Nat → Nat} {fu : Nat} {sh : HS} {I : HI} {R : HR} {F : VF} {mi pc pc' X Y X' Y' : Nat} {L : VL} {rest : List Value} {c : Nat × Nat} {l0 : Nat} {l1 : Int32} {ω : Type} {o : ω} {e : String → Option ω} {g : Int32 → Option ω} (hq : cQ mi pc 80 2 pc' X Y X' Y' = true) (hc : c.1 ≤ X ∧ c.2 ≤ Y) (hr : Nat.ble (catS rest) 8 = true) (h : oT0 (fX10_view fu sh I R l0 l1) e g = some o) (kk : ∀ v c', (c'.1 ≤ X' ∧ c'.2 ≤ Y') → g v = some o → V K J mi pc' L ((.int v) :: rest) sh I R c' F) (kx : ∀ E, e E = some o → F (.inr E) sh I R) : V K J mi pc L (.int l1 :: .ref l0 :: rest) sh I R c F := by
  obtain ⟨r, h1, h2⟩ := bnd h
  have hT : isT sh l0 8 = true := by unfold fX10_view at h1; exact (gd h1).1
  have ml : mL 80 = 2 := by decide +kernel
  have mk : mK 80 = 1 := by decide +kernel
  have mc : mC 80 = 8 := by decide +kernel
  rcases r with v | E
  · refine s_call (as := [.int l1, .ref l0]) (G := fun o' sh' I' R' => o' = .inl (some (.int v)) ∧ sh' = sh ∧ I' = I ∧ R' = R) hq hc rfl hr (by rw [ml]; rfl) (Or.inl rfl) (fun _ => Or.inl (Or.inl ⟨by rw [mc]; decide, by rw [mc]; exact isT_iff.mp hT⟩)) (fun z => absurd (mk.symm.trans z) (by decide)) (by rw [ml]; exact vX10_view (F := fun o' sh' I' R' => o' = .inl (some (.int v)) ∧ sh' = sh ∧ I' = I ∧ R' = R) ⟨rfl, rfl, rfl, rfl⟩ h1) ?_ ?_ ?_
    · rintro sh' I' R' c' hc' ⟨g1, rfl, rfl, rfl⟩
      cases g1
    · rintro v' sh' I' R' c' hc' ⟨g1, rfl, rfl, rfl⟩
      cases g1
      exact kk _ _ hc' h2
    · rintro E' sh' I' R' ⟨g1, rfl, rfl, rfl⟩
      cases g1
  · refine s_call (as := [.int l1, .ref l0]) (G := fun o' sh' I' R' => o' = .inr E ∧ sh' = sh ∧ I' = I ∧ R' = R) hq hc rfl hr (by rw [ml]; rfl) (Or.inl rfl) (fun _ => Or.inl (Or.inl ⟨by rw [mc]; decide, by rw [mc]; exact isT_iff.mp hT⟩)) (fun z => absurd (mk.symm.trans z) (by decide)) (by rw [ml]; exact vX10_view (F := fun o' sh' I' R' => o' = .inr E ∧ sh' = sh ∧ I' = I ∧ R' = R) ⟨rfl, rfl, rfl, rfl⟩ h1) ?_ ?_ ?_
    · rintro sh' I' R' c' hc' ⟨g1, rfl, rfl, rfl⟩
      cases g1
    · rintro v' sh' I' R' c' hc' ⟨g1, rfl, rfl, rfl⟩
      cases g1
    · rintro E' sh' I' R' ⟨g1, rfl, rfl, rfl⟩
      cases g1
      exact kx _ h2
set_option maxRecDepth 100000 in
set_option maxHeartbeats 4000000 in
def fX10_side (fu : Nat) (sh : HS) (I : HI) (R : HR) (l0 : Nat) (l1 : Int32) : Option (Int32 ⊕ String) :=
  if isT sh l0 8 = true then
    (oT0 (fX10_needBoard fu sh I R l0) (fun E => some (.inr E)) fun _ =>
    oT0 (fX10_needShot fu sh I R l0 l1) (fun E => some (.inr E)) fun _ =>
    (oR sh R l0 8 4).bind fun v3 =>
    (oR sh R l0 8 4).bind fun v4 =>
    (oR sh R v4 0 6).bind fun v5 =>
    (oB sh R v5 7 l1).bind fun v6 =>
    (fX9_sideOf fu sh I R v3 v6).bind fun v7 =>
    some (.inl v7))
  else none
set_option maxRecDepth 100000 in
set_option maxHeartbeats 4000000 in
theorem vX10_side {K J : Nat → Nat} {fu : Nat} {sh : HS} {I : HI} {R : HR} {F : VF} {o : (Int32 ⊕ String)} (hF : F (voI o) sh I R) {l0 : Nat} {l1 : Int32} (h0 : fX10_side fu sh I R l0 l1 = some o) : V K J 81 0 (ent 2 [.ref l0, .int l1]) [] sh I R (0, 0) F := by
  unfold fX10_side at h0
  obtain ⟨-, h1⟩ := gd h0; clear h0
  have hc0 : ((0 : Nat), (0 : Nat)).1 ≤ 0 ∧ ((0 : Nat), (0 : Nat)).2 ≤ 0 := ⟨Nat.le_refl _, Nat.le_refl _⟩
  show V K J 81 0 [some (.ref l0), some (.int l1)] [] sh I R (0, 0) F
  refine s_rl (i := 0) (pc' := 1) (by decide +kernel) rfl ?_
  refine kX10_needBoard (X := 0) (Y := 0) (X' := 1) (Y' := 6) (pc' := 4) (by decide +kernel) hc0 rfl h1 (fun v1 c hc1 h2 => ?_) (fun E h2 => by have e9 := Option.some.inj h2; subst e9; exact hF); clear h1 hc0
  refine s_rl (i := 0) (pc' := 5) (by decide +kernel) rfl ?_
  refine s_il (i := 1) (pc' := 6) (by decide +kernel) rfl ?_
  refine kX10_needShot (X := 1) (Y := 6) (X' := 2) (Y' := 12) (pc' := 9) (by decide +kernel) hc1 rfl h2 (fun v2 c hc2 h3 => ?_) (fun E h3 => by have e9 := Option.some.inj h3; subst e9; exact hF); clear h2 hc1
  refine s_rl (i := 0) (pc' := 10) (by decide +kernel) rfl ?_
  refine s_gR (t := 8) (j := 4) (pc' := 13) (by decide +kernel) h3 (fun v3 h4 => ?_); clear h3
  refine s_rl (i := 0) (pc' := 14) (by decide +kernel) rfl ?_
  refine s_gR (t := 8) (j := 4) (pc' := 17) (by decide +kernel) h4 (fun v4 h5 => ?_); clear h4
  refine s_gR (t := 0) (j := 6) (pc' := 20) (by decide +kernel) h5 (fun v5 h6 => ?_); clear h5
  refine s_il (i := 1) (pc' := 21) (by decide +kernel) rfl ?_
  refine s_aal (t := 7) (pc' := 22) (by decide +kernel) h6 (fun v6 h7 => ?_); clear h6
  refine kX9_sideOf (X := 2) (Y := 12) (X' := 2) (Y' := 12) (pc' := 25) (by decide +kernel) hc2 rfl h7 (fun v7 c hc3 h8 => ?_); clear h7 hc2
  have e9 := Option.some.inj h8; subst e9
  exact s_ri (X := 2) (Y := 12) (by decide +kernel) hc3 hF
set_option maxRecDepth 100000 in
set_option maxHeartbeats 4000000 in
theorem kX10_side {K J : Nat → Nat} {fu : Nat} {sh : HS} {I : HI} {R : HR} {F : VF} {mi pc pc' X Y X' Y' : Nat} {L : VL} {rest : List Value} {c : Nat × Nat} {l0 : Nat} {l1 : Int32} {ω : Type} {o : ω} {e : String → Option ω} {g : Int32 → Option ω} (hq : cQ mi pc 81 2 pc' X Y X' Y' = true) (hc : c.1 ≤ X ∧ c.2 ≤ Y) (hr : Nat.ble (catS rest) 8 = true) (h : oT0 (fX10_side fu sh I R l0 l1) e g = some o) (kk : ∀ v c', (c'.1 ≤ X' ∧ c'.2 ≤ Y') → g v = some o → V K J mi pc' L ((.int v) :: rest) sh I R c' F) (kx : ∀ E, e E = some o → F (.inr E) sh I R) : V K J mi pc L (.int l1 :: .ref l0 :: rest) sh I R c F := by
  obtain ⟨r, h1, h2⟩ := bnd h
  have hT : isT sh l0 8 = true := by unfold fX10_side at h1; exact (gd h1).1
  have ml : mL 81 = 2 := by decide +kernel
  have mk : mK 81 = 1 := by decide +kernel
  have mc : mC 81 = 8 := by decide +kernel
  rcases r with v | E
  · refine s_call (as := [.int l1, .ref l0]) (G := fun o' sh' I' R' => o' = .inl (some (.int v)) ∧ sh' = sh ∧ I' = I ∧ R' = R) hq hc rfl hr (by rw [ml]; rfl) (Or.inl rfl) (fun _ => Or.inl (Or.inl ⟨by rw [mc]; decide, by rw [mc]; exact isT_iff.mp hT⟩)) (fun z => absurd (mk.symm.trans z) (by decide)) (by rw [ml]; exact vX10_side (F := fun o' sh' I' R' => o' = .inl (some (.int v)) ∧ sh' = sh ∧ I' = I ∧ R' = R) ⟨rfl, rfl, rfl, rfl⟩ h1) ?_ ?_ ?_
    · rintro sh' I' R' c' hc' ⟨g1, rfl, rfl, rfl⟩
      cases g1
    · rintro v' sh' I' R' c' hc' ⟨g1, rfl, rfl, rfl⟩
      cases g1
      exact kk _ _ hc' h2
    · rintro E' sh' I' R' ⟨g1, rfl, rfl, rfl⟩
      cases g1
  · refine s_call (as := [.int l1, .ref l0]) (G := fun o' sh' I' R' => o' = .inr E ∧ sh' = sh ∧ I' = I ∧ R' = R) hq hc rfl hr (by rw [ml]; rfl) (Or.inl rfl) (fun _ => Or.inl (Or.inl ⟨by rw [mc]; decide, by rw [mc]; exact isT_iff.mp hT⟩)) (fun z => absurd (mk.symm.trans z) (by decide)) (by rw [ml]; exact vX10_side (F := fun o' sh' I' R' => o' = .inr E ∧ sh' = sh ∧ I' = I ∧ R' = R) ⟨rfl, rfl, rfl, rfl⟩ h1) ?_ ?_ ?_
    · rintro sh' I' R' c' hc' ⟨g1, rfl, rfl, rfl⟩
      cases g1
    · rintro v' sh' I' R' c' hc' ⟨g1, rfl, rfl, rfl⟩
      cases g1
    · rintro E' sh' I' R' ⟨g1, rfl, rfl, rfl⟩
      cases g1
      exact kx _ h2
set_option maxRecDepth 100000 in
set_option maxHeartbeats 4000000 in
def fX10_look (fu : Nat) (sh : HS) (I : HI) (R : HR) (l0 : Nat) (l1 : Int32) : Option (Int32 ⊕ String) :=
  if isT sh l0 8 = true then
    (oT0 (fX10_needBoard fu sh I R l0) (fun E => some (.inr E)) fun _ =>
    oT0 (fX10_needShot fu sh I R l0 l1) (fun E => some (.inr E)) fun _ =>
    (oR sh R l0 8 4).bind fun v3 =>
    (oR sh R l0 8 4).bind fun v4 =>
    (oR sh R v4 0 6).bind fun v5 =>
    (oB sh R v5 7 l1).bind fun v6 =>
    (fX9_lookOf fu sh I R v3 v6).bind fun v7 =>
    some (.inl v7))
  else none
set_option maxRecDepth 100000 in
set_option maxHeartbeats 4000000 in
theorem vX10_look {K J : Nat → Nat} {fu : Nat} {sh : HS} {I : HI} {R : HR} {F : VF} {o : (Int32 ⊕ String)} (hF : F (voI o) sh I R) {l0 : Nat} {l1 : Int32} (h0 : fX10_look fu sh I R l0 l1 = some o) : V K J 82 0 (ent 2 [.ref l0, .int l1]) [] sh I R (0, 0) F := by
  unfold fX10_look at h0
  obtain ⟨-, h1⟩ := gd h0; clear h0
  have hc0 : ((0 : Nat), (0 : Nat)).1 ≤ 0 ∧ ((0 : Nat), (0 : Nat)).2 ≤ 0 := ⟨Nat.le_refl _, Nat.le_refl _⟩
  show V K J 82 0 [some (.ref l0), some (.int l1)] [] sh I R (0, 0) F
  refine s_rl (i := 0) (pc' := 1) (by decide +kernel) rfl ?_
  refine kX10_needBoard (X := 0) (Y := 0) (X' := 1) (Y' := 6) (pc' := 4) (by decide +kernel) hc0 rfl h1 (fun v1 c hc1 h2 => ?_) (fun E h2 => by have e9 := Option.some.inj h2; subst e9; exact hF); clear h1 hc0
  refine s_rl (i := 0) (pc' := 5) (by decide +kernel) rfl ?_
  refine s_il (i := 1) (pc' := 6) (by decide +kernel) rfl ?_
  refine kX10_needShot (X := 1) (Y := 6) (X' := 2) (Y' := 12) (pc' := 9) (by decide +kernel) hc1 rfl h2 (fun v2 c hc2 h3 => ?_) (fun E h3 => by have e9 := Option.some.inj h3; subst e9; exact hF); clear h2 hc1
  refine s_rl (i := 0) (pc' := 10) (by decide +kernel) rfl ?_
  refine s_gR (t := 8) (j := 4) (pc' := 13) (by decide +kernel) h3 (fun v3 h4 => ?_); clear h3
  refine s_rl (i := 0) (pc' := 14) (by decide +kernel) rfl ?_
  refine s_gR (t := 8) (j := 4) (pc' := 17) (by decide +kernel) h4 (fun v4 h5 => ?_); clear h4
  refine s_gR (t := 0) (j := 6) (pc' := 20) (by decide +kernel) h5 (fun v5 h6 => ?_); clear h5
  refine s_il (i := 1) (pc' := 21) (by decide +kernel) rfl ?_
  refine s_aal (t := 7) (pc' := 22) (by decide +kernel) h6 (fun v6 h7 => ?_); clear h6
  refine kX9_lookOf (X := 2) (Y := 12) (X' := 2) (Y' := 12) (pc' := 25) (by decide +kernel) hc2 rfl h7 (fun v7 c hc3 h8 => ?_); clear h7 hc2
  have e9 := Option.some.inj h8; subst e9
  exact s_ri (X := 2) (Y := 12) (by decide +kernel) hc3 hF
set_option maxRecDepth 100000 in
set_option maxHeartbeats 4000000 in
theorem kX10_look {K J : Nat → Nat} {fu : Nat} {sh : HS} {I : HI} {R : HR} {F : VF} {mi pc pc' X Y X' Y' : Nat} {L : VL} {rest : List Value} {c : Nat × Nat} {l0 : Nat} {l1 : Int32} {ω : Type} {o : ω} {e : String → Option ω} {g : Int32 → Option ω} (hq : cQ mi pc 82 2 pc' X Y X' Y' = true) (hc : c.1 ≤ X ∧ c.2 ≤ Y) (hr : Nat.ble (catS rest) 8 = true) (h : oT0 (fX10_look fu sh I R l0 l1) e g = some o) (kk : ∀ v c', (c'.1 ≤ X' ∧ c'.2 ≤ Y') → g v = some o → V K J mi pc' L ((.int v) :: rest) sh I R c' F) (kx : ∀ E, e E = some o → F (.inr E) sh I R) : V K J mi pc L (.int l1 :: .ref l0 :: rest) sh I R c F := by
  obtain ⟨r, h1, h2⟩ := bnd h
  have hT : isT sh l0 8 = true := by unfold fX10_look at h1; exact (gd h1).1
  have ml : mL 82 = 2 := by decide +kernel
  have mk : mK 82 = 1 := by decide +kernel
  have mc : mC 82 = 8 := by decide +kernel
  rcases r with v | E
  · refine s_call (as := [.int l1, .ref l0]) (G := fun o' sh' I' R' => o' = .inl (some (.int v)) ∧ sh' = sh ∧ I' = I ∧ R' = R) hq hc rfl hr (by rw [ml]; rfl) (Or.inl rfl) (fun _ => Or.inl (Or.inl ⟨by rw [mc]; decide, by rw [mc]; exact isT_iff.mp hT⟩)) (fun z => absurd (mk.symm.trans z) (by decide)) (by rw [ml]; exact vX10_look (F := fun o' sh' I' R' => o' = .inl (some (.int v)) ∧ sh' = sh ∧ I' = I ∧ R' = R) ⟨rfl, rfl, rfl, rfl⟩ h1) ?_ ?_ ?_
    · rintro sh' I' R' c' hc' ⟨g1, rfl, rfl, rfl⟩
      cases g1
    · rintro v' sh' I' R' c' hc' ⟨g1, rfl, rfl, rfl⟩
      cases g1
      exact kk _ _ hc' h2
    · rintro E' sh' I' R' ⟨g1, rfl, rfl, rfl⟩
      cases g1
  · refine s_call (as := [.int l1, .ref l0]) (G := fun o' sh' I' R' => o' = .inr E ∧ sh' = sh ∧ I' = I ∧ R' = R) hq hc rfl hr (by rw [ml]; rfl) (Or.inl rfl) (fun _ => Or.inl (Or.inl ⟨by rw [mc]; decide, by rw [mc]; exact isT_iff.mp hT⟩)) (fun z => absurd (mk.symm.trans z) (by decide)) (by rw [ml]; exact vX10_look (F := fun o' sh' I' R' => o' = .inr E ∧ sh' = sh ∧ I' = I ∧ R' = R) ⟨rfl, rfl, rfl, rfl⟩ h1) ?_ ?_ ?_
    · rintro sh' I' R' c' hc' ⟨g1, rfl, rfl, rfl⟩
      cases g1
    · rintro v' sh' I' R' c' hc' ⟨g1, rfl, rfl, rfl⟩
      cases g1
    · rintro E' sh' I' R' ⟨g1, rfl, rfl, rfl⟩
      cases g1
      exact kx _ h2
set_option maxRecDepth 100000 in
set_option maxHeartbeats 4000000 in
def fX10_visible (fu : Nat) (sh : HS) (I : HI) (R : HR) (l0 : Nat) (l1 : Int32) : Option (Int32 ⊕ String) :=
  if isT sh l0 8 = true then
    (oT0 (fX10_needBoard fu sh I R l0) (fun E => some (.inr E)) fun _ =>
    oT0 (fX10_needShot fu sh I R l0 l1) (fun E => some (.inr E)) fun _ =>
    (oR sh R l0 8 4).bind fun v3 =>
    (oR sh R l0 8 4).bind fun v4 =>
    (oR sh R v4 0 6).bind fun v5 =>
    (oB sh R v5 7 l1).bind fun v6 =>
    (fX9_seenBy fu sh I R v3 v6).bind fun v7 =>
    some (.inl v7))
  else none
set_option maxRecDepth 100000 in
set_option maxHeartbeats 4000000 in
theorem vX10_visible {K J : Nat → Nat} {fu : Nat} {sh : HS} {I : HI} {R : HR} {F : VF} {o : (Int32 ⊕ String)} (hF : F (voI o) sh I R) {l0 : Nat} {l1 : Int32} (h0 : fX10_visible fu sh I R l0 l1 = some o) : V K J 83 0 (ent 2 [.ref l0, .int l1]) [] sh I R (0, 0) F := by
  unfold fX10_visible at h0
  obtain ⟨-, h1⟩ := gd h0; clear h0
  have hc0 : ((0 : Nat), (0 : Nat)).1 ≤ 0 ∧ ((0 : Nat), (0 : Nat)).2 ≤ 0 := ⟨Nat.le_refl _, Nat.le_refl _⟩
  show V K J 83 0 [some (.ref l0), some (.int l1)] [] sh I R (0, 0) F
  refine s_rl (i := 0) (pc' := 1) (by decide +kernel) rfl ?_
  refine kX10_needBoard (X := 0) (Y := 0) (X' := 1) (Y' := 6) (pc' := 4) (by decide +kernel) hc0 rfl h1 (fun v1 c hc1 h2 => ?_) (fun E h2 => by have e9 := Option.some.inj h2; subst e9; exact hF); clear h1 hc0
  refine s_rl (i := 0) (pc' := 5) (by decide +kernel) rfl ?_
  refine s_il (i := 1) (pc' := 6) (by decide +kernel) rfl ?_
  refine kX10_needShot (X := 1) (Y := 6) (X' := 2) (Y' := 12) (pc' := 9) (by decide +kernel) hc1 rfl h2 (fun v2 c hc2 h3 => ?_) (fun E h3 => by have e9 := Option.some.inj h3; subst e9; exact hF); clear h2 hc1
  refine s_rl (i := 0) (pc' := 10) (by decide +kernel) rfl ?_
  refine s_gR (t := 8) (j := 4) (pc' := 13) (by decide +kernel) h3 (fun v3 h4 => ?_); clear h3
  refine s_rl (i := 0) (pc' := 14) (by decide +kernel) rfl ?_
  refine s_gR (t := 8) (j := 4) (pc' := 17) (by decide +kernel) h4 (fun v4 h5 => ?_); clear h4
  refine s_gR (t := 0) (j := 6) (pc' := 20) (by decide +kernel) h5 (fun v5 h6 => ?_); clear h5
  refine s_il (i := 1) (pc' := 21) (by decide +kernel) rfl ?_
  refine s_aal (t := 7) (pc' := 22) (by decide +kernel) h6 (fun v6 h7 => ?_); clear h6
  refine kX9_seenBy (X := 2) (Y := 12) (X' := 2) (Y' := 12) (pc' := 25) (by decide +kernel) hc2 rfl h7 (fun v7 c hc3 h8 => ?_); clear h7 hc2
  have e9 := Option.some.inj h8; subst e9
  exact s_ri (X := 2) (Y := 12) (by decide +kernel) hc3 hF
set_option maxRecDepth 100000 in
set_option maxHeartbeats 4000000 in
theorem kX10_visible {K J : Nat → Nat} {fu : Nat} {sh : HS} {I : HI} {R : HR} {F : VF} {mi pc pc' X Y X' Y' : Nat} {L : VL} {rest : List Value} {c : Nat × Nat} {l0 : Nat} {l1 : Int32} {ω : Type} {o : ω} {e : String → Option ω} {g : Int32 → Option ω} (hq : cQ mi pc 83 2 pc' X Y X' Y' = true) (hc : c.1 ≤ X ∧ c.2 ≤ Y) (hr : Nat.ble (catS rest) 8 = true) (h : oT0 (fX10_visible fu sh I R l0 l1) e g = some o) (kk : ∀ v c', (c'.1 ≤ X' ∧ c'.2 ≤ Y') → g v = some o → V K J mi pc' L ((.int v) :: rest) sh I R c' F) (kx : ∀ E, e E = some o → F (.inr E) sh I R) : V K J mi pc L (.int l1 :: .ref l0 :: rest) sh I R c F := by
  obtain ⟨r, h1, h2⟩ := bnd h
  have hT : isT sh l0 8 = true := by unfold fX10_visible at h1; exact (gd h1).1
  have ml : mL 83 = 2 := by decide +kernel
  have mk : mK 83 = 1 := by decide +kernel
  have mc : mC 83 = 8 := by decide +kernel
  rcases r with v | E
  · refine s_call (as := [.int l1, .ref l0]) (G := fun o' sh' I' R' => o' = .inl (some (.int v)) ∧ sh' = sh ∧ I' = I ∧ R' = R) hq hc rfl hr (by rw [ml]; rfl) (Or.inl rfl) (fun _ => Or.inl (Or.inl ⟨by rw [mc]; decide, by rw [mc]; exact isT_iff.mp hT⟩)) (fun z => absurd (mk.symm.trans z) (by decide)) (by rw [ml]; exact vX10_visible (F := fun o' sh' I' R' => o' = .inl (some (.int v)) ∧ sh' = sh ∧ I' = I ∧ R' = R) ⟨rfl, rfl, rfl, rfl⟩ h1) ?_ ?_ ?_
    · rintro sh' I' R' c' hc' ⟨g1, rfl, rfl, rfl⟩
      cases g1
    · rintro v' sh' I' R' c' hc' ⟨g1, rfl, rfl, rfl⟩
      cases g1
      exact kk _ _ hc' h2
    · rintro E' sh' I' R' ⟨g1, rfl, rfl, rfl⟩
      cases g1
  · refine s_call (as := [.int l1, .ref l0]) (G := fun o' sh' I' R' => o' = .inr E ∧ sh' = sh ∧ I' = I ∧ R' = R) hq hc rfl hr (by rw [ml]; rfl) (Or.inl rfl) (fun _ => Or.inl (Or.inl ⟨by rw [mc]; decide, by rw [mc]; exact isT_iff.mp hT⟩)) (fun z => absurd (mk.symm.trans z) (by decide)) (by rw [ml]; exact vX10_visible (F := fun o' sh' I' R' => o' = .inr E ∧ sh' = sh ∧ I' = I ∧ R' = R) ⟨rfl, rfl, rfl, rfl⟩ h1) ?_ ?_ ?_
    · rintro sh' I' R' c' hc' ⟨g1, rfl, rfl, rfl⟩
      cases g1
    · rintro v' sh' I' R' c' hc' ⟨g1, rfl, rfl, rfl⟩
      cases g1
    · rintro E' sh' I' R' ⟨g1, rfl, rfl, rfl⟩
      cases g1
      exact kx _ h2
set_option maxRecDepth 100000 in
set_option maxHeartbeats 4000000 in
def fX10_eyeline (fu : Nat) (sh : HS) (I : HI) (R : HR) (l0 : Nat) (l1 : Int32) : Option (Int32 ⊕ String) :=
  if isT sh l0 8 = true then
    (oT0 (fX10_needBoard fu sh I R l0) (fun E => some (.inr E)) fun _ =>
    oT0 (fX10_needShot fu sh I R l0 l1) (fun E => some (.inr E)) fun _ =>
    (oR sh R l0 8 4).bind fun v3 =>
    (oR sh R l0 8 4).bind fun v4 =>
    (oR sh R v4 0 6).bind fun v5 =>
    (oB sh R v5 7 l1).bind fun v6 =>
    (fX9_eyelineOf fu sh I R v3 v6).bind fun v7 =>
    some (.inl v7))
  else none
set_option maxRecDepth 100000 in
set_option maxHeartbeats 4000000 in
theorem vX10_eyeline {K J : Nat → Nat} {fu : Nat} {sh : HS} {I : HI} {R : HR} {F : VF} {o : (Int32 ⊕ String)} (hF : F (voI o) sh I R) {l0 : Nat} {l1 : Int32} (h0 : fX10_eyeline fu sh I R l0 l1 = some o) : V K J 84 0 (ent 2 [.ref l0, .int l1]) [] sh I R (0, 0) F := by
  unfold fX10_eyeline at h0
  obtain ⟨-, h1⟩ := gd h0; clear h0
  have hc0 : ((0 : Nat), (0 : Nat)).1 ≤ 0 ∧ ((0 : Nat), (0 : Nat)).2 ≤ 0 := ⟨Nat.le_refl _, Nat.le_refl _⟩
  show V K J 84 0 [some (.ref l0), some (.int l1)] [] sh I R (0, 0) F
  refine s_rl (i := 0) (pc' := 1) (by decide +kernel) rfl ?_
  refine kX10_needBoard (X := 0) (Y := 0) (X' := 1) (Y' := 6) (pc' := 4) (by decide +kernel) hc0 rfl h1 (fun v1 c hc1 h2 => ?_) (fun E h2 => by have e9 := Option.some.inj h2; subst e9; exact hF); clear h1 hc0
  refine s_rl (i := 0) (pc' := 5) (by decide +kernel) rfl ?_
  refine s_il (i := 1) (pc' := 6) (by decide +kernel) rfl ?_
  refine kX10_needShot (X := 1) (Y := 6) (X' := 2) (Y' := 12) (pc' := 9) (by decide +kernel) hc1 rfl h2 (fun v2 c hc2 h3 => ?_) (fun E h3 => by have e9 := Option.some.inj h3; subst e9; exact hF); clear h2 hc1
  refine s_rl (i := 0) (pc' := 10) (by decide +kernel) rfl ?_
  refine s_gR (t := 8) (j := 4) (pc' := 13) (by decide +kernel) h3 (fun v3 h4 => ?_); clear h3
  refine s_rl (i := 0) (pc' := 14) (by decide +kernel) rfl ?_
  refine s_gR (t := 8) (j := 4) (pc' := 17) (by decide +kernel) h4 (fun v4 h5 => ?_); clear h4
  refine s_gR (t := 0) (j := 6) (pc' := 20) (by decide +kernel) h5 (fun v5 h6 => ?_); clear h5
  refine s_il (i := 1) (pc' := 21) (by decide +kernel) rfl ?_
  refine s_aal (t := 7) (pc' := 22) (by decide +kernel) h6 (fun v6 h7 => ?_); clear h6
  refine kX9_eyelineOf (X := 2) (Y := 12) (X' := 2) (Y' := 12) (pc' := 25) (by decide +kernel) hc2 rfl h7 (fun v7 c hc3 h8 => ?_); clear h7 hc2
  have e9 := Option.some.inj h8; subst e9
  exact s_ri (X := 2) (Y := 12) (by decide +kernel) hc3 hF
set_option maxRecDepth 100000 in
set_option maxHeartbeats 4000000 in
theorem kX10_eyeline {K J : Nat → Nat} {fu : Nat} {sh : HS} {I : HI} {R : HR} {F : VF} {mi pc pc' X Y X' Y' : Nat} {L : VL} {rest : List Value} {c : Nat × Nat} {l0 : Nat} {l1 : Int32} {ω : Type} {o : ω} {e : String → Option ω} {g : Int32 → Option ω} (hq : cQ mi pc 84 2 pc' X Y X' Y' = true) (hc : c.1 ≤ X ∧ c.2 ≤ Y) (hr : Nat.ble (catS rest) 8 = true) (h : oT0 (fX10_eyeline fu sh I R l0 l1) e g = some o) (kk : ∀ v c', (c'.1 ≤ X' ∧ c'.2 ≤ Y') → g v = some o → V K J mi pc' L ((.int v) :: rest) sh I R c' F) (kx : ∀ E, e E = some o → F (.inr E) sh I R) : V K J mi pc L (.int l1 :: .ref l0 :: rest) sh I R c F := by
  obtain ⟨r, h1, h2⟩ := bnd h
  have hT : isT sh l0 8 = true := by unfold fX10_eyeline at h1; exact (gd h1).1
  have ml : mL 84 = 2 := by decide +kernel
  have mk : mK 84 = 1 := by decide +kernel
  have mc : mC 84 = 8 := by decide +kernel
  rcases r with v | E
  · refine s_call (as := [.int l1, .ref l0]) (G := fun o' sh' I' R' => o' = .inl (some (.int v)) ∧ sh' = sh ∧ I' = I ∧ R' = R) hq hc rfl hr (by rw [ml]; rfl) (Or.inl rfl) (fun _ => Or.inl (Or.inl ⟨by rw [mc]; decide, by rw [mc]; exact isT_iff.mp hT⟩)) (fun z => absurd (mk.symm.trans z) (by decide)) (by rw [ml]; exact vX10_eyeline (F := fun o' sh' I' R' => o' = .inl (some (.int v)) ∧ sh' = sh ∧ I' = I ∧ R' = R) ⟨rfl, rfl, rfl, rfl⟩ h1) ?_ ?_ ?_
    · rintro sh' I' R' c' hc' ⟨g1, rfl, rfl, rfl⟩
      cases g1
    · rintro v' sh' I' R' c' hc' ⟨g1, rfl, rfl, rfl⟩
      cases g1
      exact kk _ _ hc' h2
    · rintro E' sh' I' R' ⟨g1, rfl, rfl, rfl⟩
      cases g1
  · refine s_call (as := [.int l1, .ref l0]) (G := fun o' sh' I' R' => o' = .inr E ∧ sh' = sh ∧ I' = I ∧ R' = R) hq hc rfl hr (by rw [ml]; rfl) (Or.inl rfl) (fun _ => Or.inl (Or.inl ⟨by rw [mc]; decide, by rw [mc]; exact isT_iff.mp hT⟩)) (fun z => absurd (mk.symm.trans z) (by decide)) (by rw [ml]; exact vX10_eyeline (F := fun o' sh' I' R' => o' = .inr E ∧ sh' = sh ∧ I' = I ∧ R' = R) ⟨rfl, rfl, rfl, rfl⟩ h1) ?_ ?_ ?_
    · rintro sh' I' R' c' hc' ⟨g1, rfl, rfl, rfl⟩
      cases g1
    · rintro v' sh' I' R' c' hc' ⟨g1, rfl, rfl, rfl⟩
      cases g1
    · rintro E' sh' I' R' ⟨g1, rfl, rfl, rfl⟩
      cases g1
      exact kx _ h2
