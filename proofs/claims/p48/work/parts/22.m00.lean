/-! methods 0 (printed by wip/whole/gen3.py) -/
set_option maxRecDepth 100000 in
set_option maxHeartbeats 4000000 in
def fX6_copyFrom (fu : Nat) (sh : HS) (I : HI) (R : HR) (l0 : Nat) (l1 : Nat) : Option HI :=
  if isT sh l0 5 = true then
    ((oI sh I l1 5 0).bind fun v1 =>
    (oP sh I l0 5 0 v1).bind fun v2 =>
    (oI sh v2 l1 5 1).bind fun v3 =>
    (oP sh v2 l0 5 1 v3).bind fun v4 =>
    (oR sh R l1 5 2).bind fun v5 =>
    (oR sh R l0 5 2).bind fun v6 =>
    (oC sh v4 v5 0 v6 0 6).bind fun v7 =>
    (oR sh R l1 5 3).bind fun v8 =>
    (oR sh R l0 5 3).bind fun v9 =>
    (oC sh v7 v8 0 v9 0 6).bind fun v10 =>
    some v10)
  else none
set_option maxRecDepth 100000 in
set_option maxHeartbeats 4000000 in
theorem vX6_copyFrom {K J : Nat → Nat} {fu : Nat} {sh : HS} {I : HI} {R : HR} {F : VF} {o : HI} (hF : F (.inl none) sh o R) {l0 : Nat} {l1 : Nat} (h0 : fX6_copyFrom fu sh I R l0 l1 = some o) : V K J 45 0 (ent 2 [.ref l0, .ref l1]) [] sh I R (0, 0) F := by
  unfold fX6_copyFrom at h0
  obtain ⟨-, h1⟩ := gd h0; clear h0
  have hc0 : ((0 : Nat), (0 : Nat)).1 ≤ 0 ∧ ((0 : Nat), (0 : Nat)).2 ≤ 0 := ⟨Nat.le_refl _, Nat.le_refl _⟩
  show V K J 45 0 [some (.ref l0), some (.ref l1)] [] sh I R (0, 0) F
  refine s_rl (i := 0) (pc' := 1) (by decide +kernel) rfl ?_
  refine s_rl (i := 1) (pc' := 2) (by decide +kernel) rfl ?_
  refine s_gI (t := 5) (j := 0) (ty := 0) (pc' := 5) (by decide +kernel) rfl h1 (fun v1 h2 => ?_); clear h1
  refine s_pI (t := 5) (j := 0) (ty := 0) (pc' := 8) (by decide +kernel) (Or.inl rfl) h2 (fun v2 h3 => ?_); clear h2
  refine s_rl (i := 0) (pc' := 9) (by decide +kernel) rfl ?_
  refine s_rl (i := 1) (pc' := 10) (by decide +kernel) rfl ?_
  refine s_gI (t := 5) (j := 1) (ty := 0) (pc' := 13) (by decide +kernel) rfl h3 (fun v3 h4 => ?_); clear h3
  refine s_pI (t := 5) (j := 1) (ty := 0) (pc' := 16) (by decide +kernel) (Or.inl rfl) h4 (fun v4 h5 => ?_); clear h4
  refine s_rl (i := 1) (pc' := 17) (by decide +kernel) rfl ?_
  refine s_gR (t := 5) (j := 2) (pc' := 20) (by decide +kernel) h5 (fun v5 h6 => ?_); clear h5
  refine s_c (v := 0) (pc' := 21) (by decide +kernel) ?_
  refine s_rl (i := 0) (pc' := 22) (by decide +kernel) rfl ?_
  refine s_gR (t := 5) (j := 2) (pc' := 25) (by decide +kernel) h6 (fun v6 h7 => ?_); clear h6
  refine s_c (v := 0) (pc' := 26) (by decide +kernel) ?_
  refine s_c (v := 6) (pc' := 28) (by decide +kernel) ?_
  refine s_cpy (X := 0) (Y := 0) (pc' := 31) (by decide +kernel) hc0 rfl h7 (fun v7 h8 => ?_); clear h7
  refine s_rl (i := 1) (pc' := 32) (by decide +kernel) rfl ?_
  refine s_gR (t := 5) (j := 3) (pc' := 35) (by decide +kernel) h8 (fun v8 h9 => ?_); clear h8
  refine s_c (v := 0) (pc' := 36) (by decide +kernel) ?_
  refine s_rl (i := 0) (pc' := 37) (by decide +kernel) rfl ?_
  refine s_gR (t := 5) (j := 3) (pc' := 40) (by decide +kernel) h9 (fun v9 h10 => ?_); clear h9
  refine s_c (v := 0) (pc' := 41) (by decide +kernel) ?_
  refine s_c (v := 6) (pc' := 43) (by decide +kernel) ?_
  refine s_cpy (X := 0) (Y := 0) (pc' := 46) (by decide +kernel) hc0 rfl h10 (fun v10 h11 => ?_); clear h10
  have e9 := Option.some.inj h11; subst e9
  exact s_rv (X := 0) (Y := 0) (by decide +kernel) hc0 hF
set_option maxRecDepth 100000 in
set_option maxHeartbeats 4000000 in
theorem kX6_copyFrom {K J : Nat → Nat} {fu : Nat} {sh : HS} {I : HI} {R : HR} {F : VF} {mi pc pc' X Y X' Y' : Nat} {L : VL} {rest : List Value} {c : Nat × Nat} {l0 : Nat} {l1 : Nat} {ω : Type} {o : ω} {g : HI → Option ω} (hq : cQ mi pc 45 2 pc' X Y X' Y' = true) (hc : c.1 ≤ X ∧ c.2 ≤ Y) (hr : Nat.ble (catS rest) 8 = true) (h : (fX6_copyFrom fu sh I R l0 l1).bind g = some o) (kk : ∀ w c', (c'.1 ≤ X' ∧ c'.2 ≤ Y') → g w = some o → V K J mi pc' L (rest) sh w R c' F) : V K J mi pc L (.ref l1 :: .ref l0 :: rest) sh I R c F := by
  obtain ⟨r, h1, h2⟩ := bnd h
  have hT : isT sh l0 5 = true := by unfold fX6_copyFrom at h1; exact (gd h1).1
  have ml : mL 45 = 2 := by decide +kernel
  have mk : mK 45 = 1 := by decide +kernel
  have mc : mC 45 = 5 := by decide +kernel
  refine s_call (as := [.ref l1, .ref l0]) (G := fun o' sh' I' R' => o' = .inl none ∧ sh' = sh ∧ I' = r ∧ R' = R) hq hc rfl hr (by rw [ml]; rfl) (Or.inl rfl) (fun _ => Or.inl (Or.inl ⟨by rw [mc]; decide, by rw [mc]; exact isT_iff.mp hT⟩)) (fun z => absurd (mk.symm.trans z) (by decide)) (by rw [ml]; exact vX6_copyFrom (F := fun o' sh' I' R' => o' = .inl none ∧ sh' = sh ∧ I' = r ∧ R' = R) ⟨rfl, rfl, rfl, rfl⟩ h1) ?_ ?_ ?_
  · rintro sh' I' R' c' hc' ⟨g1, rfl, rfl, rfl⟩
    cases g1
    exact kk _ _ hc' h2
  · rintro v' sh' I' R' c' hc' ⟨g1, rfl, rfl, rfl⟩
    cases g1
  · rintro E' sh' I' R' ⟨g1, rfl, rfl, rfl⟩
    cases g1
set_option maxRecDepth 100000 in
set_option maxHeartbeats 4000000 in
def fX8_copyFrom (fu : Nat) (sh : HS) (I : HI) (R : HR) (l0 : Nat) (l1 : Nat) : Option HI :=
  if isT sh l0 7 = true then
    ((oI sh I l1 7 0).bind fun v1 =>
    (oP sh I l0 7 0 v1).bind fun v2 =>
    (oI sh v2 l1 7 1).bind fun v3 =>
    (oP sh v2 l0 7 1 v3).bind fun v4 =>
    (oI sh v4 l1 7 2).bind fun v5 =>
    (oP sh v4 l0 7 2 v5).bind fun v6 =>
    (oI sh v6 l1 7 3).bind fun v7 =>
    (oP sh v6 l0 7 3 v7).bind fun v8 =>
    (oI sh v8 l1 7 4).bind fun v9 =>
    (oP sh v8 l0 7 4 v9).bind fun v10 =>
    (oI sh v10 l1 7 5).bind fun v11 =>
    (oP sh v10 l0 7 5 v11).bind fun v12 =>
    some v12)
  else none
set_option maxRecDepth 100000 in
set_option maxHeartbeats 4000000 in
theorem vX8_copyFrom {K J : Nat → Nat} {fu : Nat} {sh : HS} {I : HI} {R : HR} {F : VF} {o : HI} (hF : F (.inl none) sh o R) {l0 : Nat} {l1 : Nat} (h0 : fX8_copyFrom fu sh I R l0 l1 = some o) : V K J 53 0 (ent 2 [.ref l0, .ref l1]) [] sh I R (0, 0) F := by
  unfold fX8_copyFrom at h0
  obtain ⟨-, h1⟩ := gd h0; clear h0
  have hc0 : ((0 : Nat), (0 : Nat)).1 ≤ 0 ∧ ((0 : Nat), (0 : Nat)).2 ≤ 0 := ⟨Nat.le_refl _, Nat.le_refl _⟩
  show V K J 53 0 [some (.ref l0), some (.ref l1)] [] sh I R (0, 0) F
  refine s_rl (i := 0) (pc' := 1) (by decide +kernel) rfl ?_
  refine s_rl (i := 1) (pc' := 2) (by decide +kernel) rfl ?_
  refine s_gI (t := 7) (j := 0) (ty := 0) (pc' := 5) (by decide +kernel) rfl h1 (fun v1 h2 => ?_); clear h1
  refine s_pI (t := 7) (j := 0) (ty := 0) (pc' := 8) (by decide +kernel) (Or.inl rfl) h2 (fun v2 h3 => ?_); clear h2
  refine s_rl (i := 0) (pc' := 9) (by decide +kernel) rfl ?_
  refine s_rl (i := 1) (pc' := 10) (by decide +kernel) rfl ?_
  refine s_gI (t := 7) (j := 1) (ty := 0) (pc' := 13) (by decide +kernel) rfl h3 (fun v3 h4 => ?_); clear h3
  refine s_pI (t := 7) (j := 1) (ty := 0) (pc' := 16) (by decide +kernel) (Or.inl rfl) h4 (fun v4 h5 => ?_); clear h4
  refine s_rl (i := 0) (pc' := 17) (by decide +kernel) rfl ?_
  refine s_rl (i := 1) (pc' := 18) (by decide +kernel) rfl ?_
  refine s_gI (t := 7) (j := 2) (ty := 0) (pc' := 21) (by decide +kernel) rfl h5 (fun v5 h6 => ?_); clear h5
  refine s_pI (t := 7) (j := 2) (ty := 0) (pc' := 24) (by decide +kernel) (Or.inl rfl) h6 (fun v6 h7 => ?_); clear h6
  refine s_rl (i := 0) (pc' := 25) (by decide +kernel) rfl ?_
  refine s_rl (i := 1) (pc' := 26) (by decide +kernel) rfl ?_
  refine s_gI (t := 7) (j := 3) (ty := 0) (pc' := 29) (by decide +kernel) rfl h7 (fun v7 h8 => ?_); clear h7
  refine s_pI (t := 7) (j := 3) (ty := 0) (pc' := 32) (by decide +kernel) (Or.inl rfl) h8 (fun v8 h9 => ?_); clear h8
  refine s_rl (i := 0) (pc' := 33) (by decide +kernel) rfl ?_
  refine s_rl (i := 1) (pc' := 34) (by decide +kernel) rfl ?_
  refine s_gI (t := 7) (j := 4) (ty := 0) (pc' := 37) (by decide +kernel) rfl h9 (fun v9 h10 => ?_); clear h9
  refine s_pI (t := 7) (j := 4) (ty := 0) (pc' := 40) (by decide +kernel) (Or.inl rfl) h10 (fun v10 h11 => ?_); clear h10
  refine s_rl (i := 0) (pc' := 41) (by decide +kernel) rfl ?_
  refine s_rl (i := 1) (pc' := 42) (by decide +kernel) rfl ?_
  refine s_gI (t := 7) (j := 5) (ty := 0) (pc' := 45) (by decide +kernel) rfl h11 (fun v11 h12 => ?_); clear h11
  refine s_pI (t := 7) (j := 5) (ty := 0) (pc' := 48) (by decide +kernel) (Or.inl rfl) h12 (fun v12 h13 => ?_); clear h12
  have e9 := Option.some.inj h13; subst e9
  exact s_rv (X := 0) (Y := 0) (by decide +kernel) hc0 hF
set_option maxRecDepth 100000 in
set_option maxHeartbeats 4000000 in
theorem kX8_copyFrom {K J : Nat → Nat} {fu : Nat} {sh : HS} {I : HI} {R : HR} {F : VF} {mi pc pc' X Y X' Y' : Nat} {L : VL} {rest : List Value} {c : Nat × Nat} {l0 : Nat} {l1 : Nat} {ω : Type} {o : ω} {g : HI → Option ω} (hq : cQ mi pc 53 2 pc' X Y X' Y' = true) (hc : c.1 ≤ X ∧ c.2 ≤ Y) (hr : Nat.ble (catS rest) 8 = true) (h : (fX8_copyFrom fu sh I R l0 l1).bind g = some o) (kk : ∀ w c', (c'.1 ≤ X' ∧ c'.2 ≤ Y') → g w = some o → V K J mi pc' L (rest) sh w R c' F) : V K J mi pc L (.ref l1 :: .ref l0 :: rest) sh I R c F := by
  obtain ⟨r, h1, h2⟩ := bnd h
  have hT : isT sh l0 7 = true := by unfold fX8_copyFrom at h1; exact (gd h1).1
  have ml : mL 53 = 2 := by decide +kernel
  have mk : mK 53 = 1 := by decide +kernel
  have mc : mC 53 = 7 := by decide +kernel
  refine s_call (as := [.ref l1, .ref l0]) (G := fun o' sh' I' R' => o' = .inl none ∧ sh' = sh ∧ I' = r ∧ R' = R) hq hc rfl hr (by rw [ml]; rfl) (Or.inl rfl) (fun _ => Or.inl (Or.inl ⟨by rw [mc]; decide, by rw [mc]; exact isT_iff.mp hT⟩)) (fun z => absurd (mk.symm.trans z) (by decide)) (by rw [ml]; exact vX8_copyFrom (F := fun o' sh' I' R' => o' = .inl none ∧ sh' = sh ∧ I' = r ∧ R' = R) ⟨rfl, rfl, rfl, rfl⟩ h1) ?_ ?_ ?_
  · rintro sh' I' R' c' hc' ⟨g1, rfl, rfl, rfl⟩
    cases g1
    exact kk _ _ hc' h2
  · rintro v' sh' I' R' c' hc' ⟨g1, rfl, rfl, rfl⟩
    cases g1
  · rintro E' sh' I' R' ⟨g1, rfl, rfl, rfl⟩
    cases g1
set_option maxRecDepth 100000 in
set_option maxHeartbeats 4000000 in
def fX0_copyFrom_b42 (fu : Nat) (sh : HS) (R : HR) (k42 : HI → Nat → Nat → Int32 → Option HI) (k68 : HI → Nat → Nat → Option HI) (I : HI) (l0 : Nat) (l1 : Nat) (l2 : Int32) : Option HI :=
  if 3 ≤ l2 then
    (k68 I l0 l1)
  else
    ((oR sh R l0 0 5).bind fun v11 =>
    (oB sh R v11 5 l2).bind fun v12 =>
    (oR sh R l1 0 5).bind fun v13 =>
    (oB sh R v13 5 l2).bind fun v14 =>
    (fX6_copyFrom fu sh I R v12 v14).bind fun w15 =>
    k42 w15 l0 l1 (l2 + 1))
set_option maxRecDepth 100000 in
set_option maxHeartbeats 4000000 in
theorem vX0_copyFrom_b42 {K J : Nat → Nat} {fu : Nat} {sh : HS} {R : HR} {F : VF} {o : HI} (hF : F (.inl none) sh o R) {k42 : HI → Nat → Nat → Int32 → Option HI} {k68 : HI → Nat → Nat → Option HI} (hk42 : ∀ {I : HI} {l0 : Nat} {l1 : Nat} {l2 : Int32}  {c : Nat × Nat}, (c.1 ≤ 0 ∧ c.2 ≤ 0) → k42 I l0 l1 l2 = some o → V K J 1 42 [some (.ref l0), some (.ref l1), some (.int l2)] [] sh I R c F) (hk68 : ∀ {I : HI} {l0 : Nat} {l1 : Nat} {d2 : Option Value} {c : Nat × Nat}, (c.1 ≤ 0 ∧ c.2 ≤ 0) → k68 I l0 l1 = some o → V K J 1 68 [some (.ref l0), some (.ref l1), d2] [] sh I R c F) {I : HI} {l0 : Nat} {l1 : Nat} {l2 : Int32} {c : Nat × Nat} (hc0 : c.1 ≤ 0 ∧ c.2 ≤ 0) (h0 : fX0_copyFrom_b42 fu sh R k42 k68 I l0 l1 l2 = some o) : V K J 1 42 [some (.ref l0), some (.ref l1), some (.int l2)] [] sh I R c F := by
  unfold fX0_copyFrom_b42 at h0
  refine s_il (i := 2) (pc' := 43) (by decide +kernel) rfl ?_
  refine s_c (v := 3) (pc' := 44) (by decide +kernel) ?_
  refine s_if (ins := .if_icmp .ge 24) (t := 68) (pc' := 47) (by decide +kernel) rfl rfl rfl h0 (fun p1 h1 => ?_) (fun p1 h1 => ?_) <;> clear h0
  · exact hk68 hc0 h1
  · refine s_rl (i := 0) (pc' := 48) (by decide +kernel) rfl ?_
    refine s_gR (t := 0) (j := 5) (pc' := 51) (by decide +kernel) h1 (fun v11 h2 => ?_); clear h1
    refine s_il (i := 2) (pc' := 52) (by decide +kernel) rfl ?_
    refine s_aal (t := 5) (pc' := 53) (by decide +kernel) h2 (fun v12 h3 => ?_); clear h2
    refine s_rl (i := 1) (pc' := 54) (by decide +kernel) rfl ?_
    refine s_gR (t := 0) (j := 5) (pc' := 57) (by decide +kernel) h3 (fun v13 h4 => ?_); clear h3
    refine s_il (i := 2) (pc' := 58) (by decide +kernel) rfl ?_
    refine s_aal (t := 5) (pc' := 59) (by decide +kernel) h4 (fun v14 h5 => ?_); clear h4
    refine kX6_copyFrom (X := 0) (Y := 0) (X' := 0) (Y' := 0) (pc' := 62) (by decide +kernel) hc0 rfl h5 (fun w15 c hc1 h6 => ?_); clear h5 hc0
    refine s_inc (i := 2) (z := 1) (pc' := 65) (L' := [some (.ref l0), some (.ref l1), some (.int (l2 + 1))]) (by decide +kernel) rfl rfl rfl ?_
    refine s_go (t := 42) (by decide +kernel) ?_
    exact hk42 hc1 h6
set_option maxRecDepth 100000 in
set_option maxHeartbeats 4000000 in
def fX0_copyFrom_l42 (fu : Nat) (sh : HS) (R : HR) (k68 : HI → Nat → Nat → Option HI) : Nat → HI → Nat → Nat → Int32 → Option HI
  | 0 => fun _ _ _ _ => none
  | n + 1 => fX0_copyFrom_b42 fu sh R (fX0_copyFrom_l42 fu sh R k68 n) k68
set_option maxRecDepth 100000 in
set_option maxHeartbeats 4000000 in
theorem vX0_copyFrom_l42 {K J : Nat → Nat} {fu : Nat} {sh : HS} {R : HR} {F : VF} {o : HI} (hF : F (.inl none) sh o R) {k68 : HI → Nat → Nat → Option HI} (hk68 : ∀ {I : HI} {l0 : Nat} {l1 : Nat} {d2 : Option Value} {c : Nat × Nat}, (c.1 ≤ 0 ∧ c.2 ≤ 0) → k68 I l0 l1 = some o → V K J 1 68 [some (.ref l0), some (.ref l1), d2] [] sh I R c F) : ∀ (n : Nat) {I : HI} {l0 : Nat} {l1 : Nat} {l2 : Int32} {c : Nat × Nat} (_ : c.1 ≤ 0 ∧ c.2 ≤ 0) (_ : fX0_copyFrom_l42 fu sh R k68 n I l0 l1 l2 = some o), V K J 1 42 [some (.ref l0), some (.ref l1), some (.int l2)] [] sh I R c F := by
  intro n
  induction n with
  | zero => exact fun _ h0 => nomatch h0
  | succ n ih => exact fun hc0 h0 => vX0_copyFrom_b42 hF ih hk68 hc0 h0
set_option maxRecDepth 100000 in
set_option maxHeartbeats 4000000 in
def fX0_copyFrom_b70 (fu : Nat) (sh : HS) (R : HR) (k70 : HI → Nat → Nat → Int32 → Option HI) (I : HI) (l0 : Nat) (l1 : Nat) (l2 : Int32) : Option HI :=
  if 12 ≤ l2 then
    (some I)
  else
    ((oR sh R l0 0 6).bind fun v16 =>
    (oB sh R v16 7 l2).bind fun v17 =>
    (oR sh R l1 0 6).bind fun v18 =>
    (oB sh R v18 7 l2).bind fun v19 =>
    (fX8_copyFrom fu sh I R v17 v19).bind fun w20 =>
    k70 w20 l0 l1 (l2 + 1))
set_option maxRecDepth 100000 in
set_option maxHeartbeats 4000000 in
theorem vX0_copyFrom_b70 {K J : Nat → Nat} {fu : Nat} {sh : HS} {R : HR} {F : VF} {o : HI} (hF : F (.inl none) sh o R) {k70 : HI → Nat → Nat → Int32 → Option HI} (hk70 : ∀ {I : HI} {l0 : Nat} {l1 : Nat} {l2 : Int32}  {c : Nat × Nat}, (c.1 ≤ 0 ∧ c.2 ≤ 0) → k70 I l0 l1 l2 = some o → V K J 1 70 [some (.ref l0), some (.ref l1), some (.int l2)] [] sh I R c F) {I : HI} {l0 : Nat} {l1 : Nat} {l2 : Int32} {c : Nat × Nat} (hc0 : c.1 ≤ 0 ∧ c.2 ≤ 0) (h0 : fX0_copyFrom_b70 fu sh R k70 I l0 l1 l2 = some o) : V K J 1 70 [some (.ref l0), some (.ref l1), some (.int l2)] [] sh I R c F := by
  unfold fX0_copyFrom_b70 at h0
  refine s_il (i := 2) (pc' := 71) (by decide +kernel) rfl ?_
  refine s_c (v := 12) (pc' := 73) (by decide +kernel) ?_
  refine s_if (ins := .if_icmp .ge 24) (t := 97) (pc' := 76) (by decide +kernel) rfl rfl rfl h0 (fun p1 h1 => ?_) (fun p1 h1 => ?_) <;> clear h0
  · have e9 := Option.some.inj h1; subst e9
    exact s_rv (X := 0) (Y := 0) (by decide +kernel) hc0 hF
  · refine s_rl (i := 0) (pc' := 77) (by decide +kernel) rfl ?_
    refine s_gR (t := 0) (j := 6) (pc' := 80) (by decide +kernel) h1 (fun v16 h2 => ?_); clear h1
    refine s_il (i := 2) (pc' := 81) (by decide +kernel) rfl ?_
    refine s_aal (t := 7) (pc' := 82) (by decide +kernel) h2 (fun v17 h3 => ?_); clear h2
    refine s_rl (i := 1) (pc' := 83) (by decide +kernel) rfl ?_
    refine s_gR (t := 0) (j := 6) (pc' := 86) (by decide +kernel) h3 (fun v18 h4 => ?_); clear h3
    refine s_il (i := 2) (pc' := 87) (by decide +kernel) rfl ?_
    refine s_aal (t := 7) (pc' := 88) (by decide +kernel) h4 (fun v19 h5 => ?_); clear h4
    refine kX8_copyFrom (X := 0) (Y := 0) (X' := 0) (Y' := 0) (pc' := 91) (by decide +kernel) hc0 rfl h5 (fun w20 c hc1 h6 => ?_); clear h5 hc0
    refine s_inc (i := 2) (z := 1) (pc' := 94) (L' := [some (.ref l0), some (.ref l1), some (.int (l2 + 1))]) (by decide +kernel) rfl rfl rfl ?_
    refine s_go (t := 70) (by decide +kernel) ?_
    exact hk70 hc1 h6
set_option maxRecDepth 100000 in
set_option maxHeartbeats 4000000 in
def fX0_copyFrom_l70 (fu : Nat) (sh : HS) (R : HR) : Nat → HI → Nat → Nat → Int32 → Option HI
  | 0 => fun _ _ _ _ => none
  | n + 1 => fX0_copyFrom_b70 fu sh R (fX0_copyFrom_l70 fu sh R n)
set_option maxRecDepth 100000 in
set_option maxHeartbeats 4000000 in
theorem vX0_copyFrom_l70 {K J : Nat → Nat} {fu : Nat} {sh : HS} {R : HR} {F : VF} {o : HI} (hF : F (.inl none) sh o R) : ∀ (n : Nat) {I : HI} {l0 : Nat} {l1 : Nat} {l2 : Int32} {c : Nat × Nat} (_ : c.1 ≤ 0 ∧ c.2 ≤ 0) (_ : fX0_copyFrom_l70 fu sh R n I l0 l1 l2 = some o), V K J 1 70 [some (.ref l0), some (.ref l1), some (.int l2)] [] sh I R c F := by
  intro n
  induction n with
  | zero => exact fun _ h0 => nomatch h0
  | succ n ih => exact fun hc0 h0 => vX0_copyFrom_b70 hF ih hc0 h0
set_option maxRecDepth 100000 in
set_option maxHeartbeats 4000000 in
def fX0_copyFrom_b68 (fu : Nat) (sh : HS) (R : HR) (I : HI) (l0 : Nat) (l1 : Nat) : Option HI :=
  (fX0_copyFrom_l70 fu sh R fu) I l0 l1 0
set_option maxRecDepth 100000 in
set_option maxHeartbeats 4000000 in
theorem vX0_copyFrom_b68 {K J : Nat → Nat} {fu : Nat} {sh : HS} {R : HR} {F : VF} {o : HI} (hF : F (.inl none) sh o R) {I : HI} {l0 : Nat} {l1 : Nat} {d2 : Option Value} {c : Nat × Nat} (hc0 : c.1 ≤ 0 ∧ c.2 ≤ 0) (h0 : fX0_copyFrom_b68 fu sh R I l0 l1 = some o) : V K J 1 68 [some (.ref l0), some (.ref l1), d2] [] sh I R c F := by
  unfold fX0_copyFrom_b68 at h0
  refine s_c (v := 0) (pc' := 69) (by decide +kernel) ?_
  refine s_is (i := 2) (pc' := 70) (L' := [some (.ref l0), some (.ref l1), some (.int 0)]) (by decide +kernel) rfl rfl ?_
  exact (vX0_copyFrom_l70 hF fu) hc0 h0
set_option maxRecDepth 100000 in
set_option maxHeartbeats 4000000 in
def fX0_copyFrom (fu : Nat) (sh : HS) (I : HI) (R : HR) (l0 : Nat) (l1 : Nat) : Option HI :=
  if isT sh l0 0 = true then
    ((oI sh I l1 0 0).bind fun v1 =>
    (oP sh I l0 0 0 v1).bind fun v2 =>
    (oI sh v2 l1 0 1).bind fun v3 =>
    (oP sh v2 l0 0 1 v3).bind fun v4 =>
    (oI sh v4 l1 0 2).bind fun v5 =>
    (oP sh v4 l0 0 2 v5).bind fun v6 =>
    (oI sh v6 l1 0 3).bind fun v7 =>
    (oP sh v6 l0 0 3 v7).bind fun v8 =>
    (oI sh v8 l1 0 4).bind fun v9 =>
    (oP sh v8 l0 0 4 v9).bind fun v10 =>
    (fX0_copyFrom_l42 fu sh R (fX0_copyFrom_b68 fu sh R) fu) v10 l0 l1 0)
  else none
set_option maxRecDepth 100000 in
set_option maxHeartbeats 4000000 in
theorem vX0_copyFrom {K J : Nat → Nat} {fu : Nat} {sh : HS} {I : HI} {R : HR} {F : VF} {o : HI} (hF : F (.inl none) sh o R) {l0 : Nat} {l1 : Nat} (h0 : fX0_copyFrom fu sh I R l0 l1 = some o) : V K J 1 0 (ent 3 [.ref l0, .ref l1]) [] sh I R (0, 0) F := by
  unfold fX0_copyFrom at h0
  obtain ⟨-, h1⟩ := gd h0; clear h0
  have hc0 : ((0 : Nat), (0 : Nat)).1 ≤ 0 ∧ ((0 : Nat), (0 : Nat)).2 ≤ 0 := ⟨Nat.le_refl _, Nat.le_refl _⟩
  show V K J 1 0 [some (.ref l0), some (.ref l1), none] [] sh I R (0, 0) F
  refine s_rl (i := 0) (pc' := 1) (by decide +kernel) rfl ?_
  refine s_rl (i := 1) (pc' := 2) (by decide +kernel) rfl ?_
  refine s_gI (t := 0) (j := 0) (ty := 0) (pc' := 5) (by decide +kernel) rfl h1 (fun v1 h2 => ?_); clear h1
  refine s_pI (t := 0) (j := 0) (ty := 0) (pc' := 8) (by decide +kernel) (Or.inl rfl) h2 (fun v2 h3 => ?_); clear h2
  refine s_rl (i := 0) (pc' := 9) (by decide +kernel) rfl ?_
  refine s_rl (i := 1) (pc' := 10) (by decide +kernel) rfl ?_
  refine s_gI (t := 0) (j := 1) (ty := 0) (pc' := 13) (by decide +kernel) rfl h3 (fun v3 h4 => ?_); clear h3
  refine s_pI (t := 0) (j := 1) (ty := 0) (pc' := 16) (by decide +kernel) (Or.inl rfl) h4 (fun v4 h5 => ?_); clear h4
  refine s_rl (i := 0) (pc' := 17) (by decide +kernel) rfl ?_
  refine s_rl (i := 1) (pc' := 18) (by decide +kernel) rfl ?_
  refine s_gI (t := 0) (j := 2) (ty := 0) (pc' := 21) (by decide +kernel) rfl h5 (fun v5 h6 => ?_); clear h5
  refine s_pI (t := 0) (j := 2) (ty := 0) (pc' := 24) (by decide +kernel) (Or.inl rfl) h6 (fun v6 h7 => ?_); clear h6
  refine s_rl (i := 0) (pc' := 25) (by decide +kernel) rfl ?_
  refine s_rl (i := 1) (pc' := 26) (by decide +kernel) rfl ?_
  refine s_gI (t := 0) (j := 3) (ty := 0) (pc' := 29) (by decide +kernel) rfl h7 (fun v7 h8 => ?_); clear h7
  refine s_pI (t := 0) (j := 3) (ty := 0) (pc' := 32) (by decide +kernel) (Or.inl rfl) h8 (fun v8 h9 => ?_); clear h8
  refine s_rl (i := 0) (pc' := 33) (by decide +kernel) rfl ?_
  refine s_rl (i := 1) (pc' := 34) (by decide +kernel) rfl ?_
  refine s_gI (t := 0) (j := 4) (ty := 0) (pc' := 37) (by decide +kernel) rfl h9 (fun v9 h10 => ?_); clear h9
  refine s_pI (t := 0) (j := 4) (ty := 0) (pc' := 40) (by decide +kernel) (Or.inl rfl) h10 (fun v10 h11 => ?_); clear h10
  refine s_c (v := 0) (pc' := 41) (by decide +kernel) ?_
  refine s_is (i := 2) (pc' := 42) (L' := [some (.ref l0), some (.ref l1), some (.int 0)]) (by decide +kernel) rfl rfl ?_
  exact (vX0_copyFrom_l42 hF (vX0_copyFrom_b68 hF) fu) hc0 h11
set_option maxRecDepth 100000 in
set_option maxHeartbeats 4000000 in
theorem kX0_copyFrom {K J : Nat → Nat} {fu : Nat} {sh : HS} {I : HI} {R : HR} {F : VF} {mi pc pc' X Y X' Y' : Nat} {L : VL} {rest : List Value} {c : Nat × Nat} {l0 : Nat} {l1 : Nat} {ω : Type} {o : ω} {g : HI → Option ω} (hq : cQ mi pc 1 2 pc' X Y X' Y' = true) (hc : c.1 ≤ X ∧ c.2 ≤ Y) (hr : Nat.ble (catS rest) 8 = true) (h : (fX0_copyFrom fu sh I R l0 l1).bind g = some o) (kk : ∀ w c', (c'.1 ≤ X' ∧ c'.2 ≤ Y') → g w = some o → V K J mi pc' L (rest) sh w R c' F) : V K J mi pc L (.ref l1 :: .ref l0 :: rest) sh I R c F := by
  obtain ⟨r, h1, h2⟩ := bnd h
  have hT : isT sh l0 0 = true := by unfold fX0_copyFrom at h1; exact (gd h1).1
  have ml : mL 1 = 3 := by decide +kernel
  have mk : mK 1 = 1 := by decide +kernel
  have mc : mC 1 = 0 := by decide +kernel
  refine s_call (as := [.ref l1, .ref l0]) (G := fun o' sh' I' R' => o' = .inl none ∧ sh' = sh ∧ I' = r ∧ R' = R) hq hc rfl hr (by rw [ml]; rfl) (Or.inl rfl) (fun _ => Or.inl (Or.inl ⟨by rw [mc]; decide, by rw [mc]; exact isT_iff.mp hT⟩)) (fun z => absurd (mk.symm.trans z) (by decide)) (by rw [ml]; exact vX0_copyFrom (F := fun o' sh' I' R' => o' = .inl none ∧ sh' = sh ∧ I' = r ∧ R' = R) ⟨rfl, rfl, rfl, rfl⟩ h1) ?_ ?_ ?_
  · rintro sh' I' R' c' hc' ⟨g1, rfl, rfl, rfl⟩
    cases g1
    exact kk _ _ hc' h2
  · rintro v' sh' I' R' c' hc' ⟨g1, rfl, rfl, rfl⟩
    cases g1
  · rintro E' sh' I' R' ⟨g1, rfl, rfl, rfl⟩
    cases g1
set_option maxRecDepth 100000 in
set_option maxHeartbeats 4000000 in
def fX0_secondsOfAllShots_b4 (fu : Nat) (sh : HS) (I : HI) (R : HR) (k4 : Nat → Int32 → Int32 → Option Int32) (l0 : Nat) (l1 : Int32) (l2 : Int32) : Option Int32 :=
  (oI sh I l0 0 4).bind fun v1 =>
  if v1 ≤ l2 then
    (some l1)
  else
    ((oR sh R l0 0 6).bind fun v2 =>
    (oB sh R v2 7 l2).bind fun v3 =>
    (oI sh I v3 7 5).bind fun v4 =>
    k4 l0 (l1 + v4) (l2 + 1))
set_option maxRecDepth 100000 in
set_option maxHeartbeats 4000000 in
theorem vX0_secondsOfAllShots_b4 {K J : Nat → Nat} {fu : Nat} {sh : HS} {I : HI} {R : HR} {F : VF} {o : Int32} (hF : F (.inl (some (.int o))) sh I R) {k4 : Nat → Int32 → Int32 → Option Int32} (hk4 : ∀ {l0 : Nat} {l1 : Int32} {l2 : Int32}  {c : Nat × Nat}, (c.1 ≤ 0 ∧ c.2 ≤ 0) → k4 l0 l1 l2 = some o → V K J 2 4 [some (.ref l0), some (.int l1), some (.int l2)] [] sh I R c F) {l0 : Nat} {l1 : Int32} {l2 : Int32} {c : Nat × Nat} (hc0 : c.1 ≤ 0 ∧ c.2 ≤ 0) (h0 : fX0_secondsOfAllShots_b4 fu sh I R k4 l0 l1 l2 = some o) : V K J 2 4 [some (.ref l0), some (.int l1), some (.int l2)] [] sh I R c F := by
  unfold fX0_secondsOfAllShots_b4 at h0
  refine s_il (i := 2) (pc' := 5) (by decide +kernel) rfl ?_
  refine s_rl (i := 0) (pc' := 6) (by decide +kernel) rfl ?_
  refine s_gI (t := 0) (j := 4) (ty := 0) (pc' := 9) (by decide +kernel) rfl h0 (fun v1 h1 => ?_); clear h0
  refine s_if (ins := .if_icmp .ge 21) (t := 30) (pc' := 12) (by decide +kernel) rfl rfl rfl h1 (fun p2 h2 => ?_) (fun p2 h2 => ?_) <;> clear h1
  · refine s_il (i := 1) (pc' := 31) (by decide +kernel) rfl ?_
    have e9 := Option.some.inj h2; subst e9
    exact s_ri (X := 0) (Y := 0) (by decide +kernel) hc0 hF
  · refine s_il (i := 1) (pc' := 13) (by decide +kernel) rfl ?_
    refine s_rl (i := 0) (pc' := 14) (by decide +kernel) rfl ?_
    refine s_gR (t := 0) (j := 6) (pc' := 17) (by decide +kernel) h2 (fun v2 h3 => ?_); clear h2
    refine s_il (i := 2) (pc' := 18) (by decide +kernel) rfl ?_
    refine s_aal (t := 7) (pc' := 19) (by decide +kernel) h3 (fun v3 h4 => ?_); clear h3
    refine s_gI (t := 7) (j := 5) (ty := 0) (pc' := 22) (by decide +kernel) rfl h4 (fun v4 h5 => ?_); clear h4
    refine s_a (ins := .iadd) (pc' := 23) (by decide +kernel) rfl ?_
    refine s_is (i := 1) (pc' := 24) (L' := [some (.ref l0), some (.int (l1 + v4)), some (.int l2)]) (by decide +kernel) rfl rfl ?_
    refine s_inc (i := 2) (z := 1) (pc' := 27) (L' := [some (.ref l0), some (.int (l1 + v4)), some (.int (l2 + 1))]) (by decide +kernel) rfl rfl rfl ?_
    refine s_go (t := 4) (by decide +kernel) ?_
    exact hk4 hc0 h5
set_option maxRecDepth 100000 in
set_option maxHeartbeats 4000000 in
def fX0_secondsOfAllShots_l4 (fu : Nat) (sh : HS) (I : HI) (R : HR) : Nat → Nat → Int32 → Int32 → Option Int32
  | 0 => fun _ _ _ => none
  | n + 1 => fX0_secondsOfAllShots_b4 fu sh I R (fX0_secondsOfAllShots_l4 fu sh I R n)
set_option maxRecDepth 100000 in
set_option maxHeartbeats 4000000 in
theorem vX0_secondsOfAllShots_l4 {K J : Nat → Nat} {fu : Nat} {sh : HS} {I : HI} {R : HR} {F : VF} {o : Int32} (hF : F (.inl (some (.int o))) sh I R) : ∀ (n : Nat) {l0 : Nat} {l1 : Int32} {l2 : Int32} {c : Nat × Nat} (_ : c.1 ≤ 0 ∧ c.2 ≤ 0) (_ : fX0_secondsOfAllShots_l4 fu sh I R n l0 l1 l2 = some o), V K J 2 4 [some (.ref l0), some (.int l1), some (.int l2)] [] sh I R c F := by
  intro n
  induction n with
  | zero => exact fun _ h0 => nomatch h0
  | succ n ih => exact fun hc0 h0 => vX0_secondsOfAllShots_b4 hF ih hc0 h0
set_option maxRecDepth 100000 in
set_option maxHeartbeats 4000000 in
def fX0_secondsOfAllShots (fu : Nat) (sh : HS) (I : HI) (R : HR) (l0 : Nat) : Option Int32 :=
  if isT sh l0 0 = true then
    ((fX0_secondsOfAllShots_l4 fu sh I R fu) l0 0 0)
  else none
set_option maxRecDepth 100000 in
set_option maxHeartbeats 4000000 in
theorem vX0_secondsOfAllShots {K J : Nat → Nat} {fu : Nat} {sh : HS} {I : HI} {R : HR} {F : VF} {o : Int32} (hF : F (.inl (some (.int o))) sh I R) {l0 : Nat} (h0 : fX0_secondsOfAllShots fu sh I R l0 = some o) : V K J 2 0 (ent 3 [.ref l0]) [] sh I R (0, 0) F := by
  unfold fX0_secondsOfAllShots at h0
  obtain ⟨-, h1⟩ := gd h0; clear h0
  have hc0 : ((0 : Nat), (0 : Nat)).1 ≤ 0 ∧ ((0 : Nat), (0 : Nat)).2 ≤ 0 := ⟨Nat.le_refl _, Nat.le_refl _⟩
  show V K J 2 0 [some (.ref l0), none, none] [] sh I R (0, 0) F
  refine s_c (v := 0) (pc' := 1) (by decide +kernel) ?_
  refine s_is (i := 1) (pc' := 2) (L' := [some (.ref l0), some (.int 0), none]) (by decide +kernel) rfl rfl ?_
  refine s_c (v := 0) (pc' := 3) (by decide +kernel) ?_
  refine s_is (i := 2) (pc' := 4) (L' := [some (.ref l0), some (.int 0), some (.int 0)]) (by decide +kernel) rfl rfl ?_
  exact (vX0_secondsOfAllShots_l4 hF fu) hc0 h1
set_option maxRecDepth 100000 in
set_option maxHeartbeats 4000000 in
theorem kX0_secondsOfAllShots {K J : Nat → Nat} {fu : Nat} {sh : HS} {I : HI} {R : HR} {F : VF} {mi pc pc' X Y X' Y' : Nat} {L : VL} {rest : List Value} {c : Nat × Nat} {l0 : Nat} {ω : Type} {o : ω} {g : Int32 → Option ω} (hq : cQ mi pc 2 1 pc' X Y X' Y' = true) (hc : c.1 ≤ X ∧ c.2 ≤ Y) (hr : Nat.ble (catS rest) 8 = true) (h : (fX0_secondsOfAllShots fu sh I R l0).bind g = some o) (kk : ∀ v c', (c'.1 ≤ X' ∧ c'.2 ≤ Y') → g v = some o → V K J mi pc' L ((.int v) :: rest) sh I R c' F) : V K J mi pc L (.ref l0 :: rest) sh I R c F := by
  obtain ⟨r, h1, h2⟩ := bnd h
  have hT : isT sh l0 0 = true := by unfold fX0_secondsOfAllShots at h1; exact (gd h1).1
  have ml : mL 2 = 3 := by decide +kernel
  have mk : mK 2 = 1 := by decide +kernel
  have mc : mC 2 = 0 := by decide +kernel
  refine s_call (as := [.ref l0]) (G := fun o' sh' I' R' => o' = .inl (some (.int r)) ∧ sh' = sh ∧ I' = I ∧ R' = R) hq hc rfl hr (by rw [ml]; rfl) (Or.inl rfl) (fun _ => Or.inl (Or.inl ⟨by rw [mc]; decide, by rw [mc]; exact isT_iff.mp hT⟩)) (fun z => absurd (mk.symm.trans z) (by decide)) (by rw [ml]; exact vX0_secondsOfAllShots (F := fun o' sh' I' R' => o' = .inl (some (.int r)) ∧ sh' = sh ∧ I' = I ∧ R' = R) ⟨rfl, rfl, rfl, rfl⟩ h1) ?_ ?_ ?_
  · rintro sh' I' R' c' hc' ⟨g1, rfl, rfl, rfl⟩
    cases g1
  · rintro v' sh' I' R' c' hc' ⟨g1, rfl, rfl, rfl⟩
    cases g1
    exact kk _ _ hc' h2
  · rintro E' sh' I' R' ⟨g1, rfl, rfl, rfl⟩
    cases g1
set_option maxRecDepth 100000 in
set_option maxHeartbeats 4000000 in
def fX0_shotsOfScene_b28 (fu : Nat) (sh : HS) (I : HI) (R : HR) (k4 : Nat → Int32 → Int32 → Int32 → Option Int32) (l0 : Nat) (l1 : Int32) (l2 : Int32) (l3 : Int32) : Option Int32 :=
  k4 l0 l1 l2 (l3 + 1)
set_option maxRecDepth 100000 in
set_option maxHeartbeats 4000000 in
theorem vX0_shotsOfScene_b28 {K J : Nat → Nat} {fu : Nat} {sh : HS} {I : HI} {R : HR} {F : VF} {o : Int32} (hF : F (.inl (some (.int o))) sh I R) {k4 : Nat → Int32 → Int32 → Int32 → Option Int32} (hk4 : ∀ {l0 : Nat} {l1 : Int32} {l2 : Int32} {l3 : Int32}  {c : Nat × Nat}, (c.1 ≤ 0 ∧ c.2 ≤ 0) → k4 l0 l1 l2 l3 = some o → V K J 3 4 [some (.ref l0), some (.int l1), some (.int l2), some (.int l3)] [] sh I R c F) {l0 : Nat} {l1 : Int32} {l2 : Int32} {l3 : Int32} {c : Nat × Nat} (hc0 : c.1 ≤ 0 ∧ c.2 ≤ 0) (h0 : fX0_shotsOfScene_b28 fu sh I R k4 l0 l1 l2 l3 = some o) : V K J 3 28 [some (.ref l0), some (.int l1), some (.int l2), some (.int l3)] [] sh I R c F := by
  unfold fX0_shotsOfScene_b28 at h0
  refine s_inc (i := 3) (z := 1) (pc' := 31) (L' := [some (.ref l0), some (.int l1), some (.int l2), some (.int (l3 + 1))]) (by decide +kernel) rfl rfl rfl ?_
  refine s_go (t := 4) (by decide +kernel) ?_
  exact hk4 hc0 h0
set_option maxRecDepth 100000 in
set_option maxHeartbeats 4000000 in
def fX0_shotsOfScene_b4 (fu : Nat) (sh : HS) (I : HI) (R : HR) (k4 : Nat → Int32 → Int32 → Int32 → Option Int32) (l0 : Nat) (l1 : Int32) (l2 : Int32) (l3 : Int32) : Option Int32 :=
  (oI sh I l0 0 4).bind fun v1 =>
  if v1 ≤ l3 then
    (some l2)
  else
    ((oR sh R l0 0 6).bind fun v2 =>
    (oB sh R v2 7 l3).bind fun v3 =>
    (oI sh I v3 7 0).bind fun v4 =>
    if v4 = l1 then
      ((fX0_shotsOfScene_b28 fu sh I R k4) l0 l1 (l2 + 1) l3)
    else
      ((fX0_shotsOfScene_b28 fu sh I R k4) l0 l1 l2 l3))
set_option maxRecDepth 100000 in
set_option maxHeartbeats 4000000 in
theorem vX0_shotsOfScene_b4 {K J : Nat → Nat} {fu : Nat} {sh : HS} {I : HI} {R : HR} {F : VF} {o : Int32} (hF : F (.inl (some (.int o))) sh I R) {k4 : Nat → Int32 → Int32 → Int32 → Option Int32} (hk4 : ∀ {l0 : Nat} {l1 : Int32} {l2 : Int32} {l3 : Int32}  {c : Nat × Nat}, (c.1 ≤ 0 ∧ c.2 ≤ 0) → k4 l0 l1 l2 l3 = some o → V K J 3 4 [some (.ref l0), some (.int l1), some (.int l2), some (.int l3)] [] sh I R c F) {l0 : Nat} {l1 : Int32} {l2 : Int32} {l3 : Int32} {c : Nat × Nat} (hc0 : c.1 ≤ 0 ∧ c.2 ≤ 0) (h0 : fX0_shotsOfScene_b4 fu sh I R k4 l0 l1 l2 l3 = some o) : V K J 3 4 [some (.ref l0), some (.int l1), some (.int l2), some (.int l3)] [] sh I R c F := by
  unfold fX0_shotsOfScene_b4 at h0
  refine s_il (i := 3) (pc' := 5) (by decide +kernel) rfl ?_
  refine s_rl (i := 0) (pc' := 6) (by decide +kernel) rfl ?_
  refine s_gI (t := 0) (j := 4) (ty := 0) (pc' := 9) (by decide +kernel) rfl h0 (fun v1 h1 => ?_); clear h0
  refine s_if (ins := .if_icmp .ge 25) (t := 34) (pc' := 12) (by decide +kernel) rfl rfl rfl h1 (fun p2 h2 => ?_) (fun p2 h2 => ?_) <;> clear h1
  · refine s_il (i := 2) (pc' := 35) (by decide +kernel) rfl ?_
    have e9 := Option.some.inj h2; subst e9
    exact s_ri (X := 0) (Y := 0) (by decide +kernel) hc0 hF
  · refine s_rl (i := 0) (pc' := 13) (by decide +kernel) rfl ?_
    refine s_gR (t := 0) (j := 6) (pc' := 16) (by decide +kernel) h2 (fun v2 h3 => ?_); clear h2
    refine s_il (i := 3) (pc' := 17) (by decide +kernel) rfl ?_
    refine s_aal (t := 7) (pc' := 18) (by decide +kernel) h3 (fun v3 h4 => ?_); clear h3
    refine s_gI (t := 7) (j := 0) (ty := 0) (pc' := 21) (by decide +kernel) rfl h4 (fun v4 h5 => ?_); clear h4
    refine s_il (i := 1) (pc' := 22) (by decide +kernel) rfl ?_
    refine s_ifn (ins := .if_icmp .ne 6) (t := 28) (pc' := 25) (by decide +kernel) rfl rfl rfl h5 (fun p6 h6 => ?_) (fun p6 h6 => ?_) <;> clear h5
    · exact (vX0_shotsOfScene_b28 hF hk4) hc0 h6
    · refine s_inc (i := 2) (z := 1) (pc' := 28) (L' := [some (.ref l0), some (.int l1), some (.int (l2 + 1)), some (.int l3)]) (by decide +kernel) rfl rfl rfl ?_
      exact (vX0_shotsOfScene_b28 hF hk4) hc0 h6
set_option maxRecDepth 100000 in
set_option maxHeartbeats 4000000 in
def fX0_shotsOfScene_l4 (fu : Nat) (sh : HS) (I : HI) (R : HR) : Nat → Nat → Int32 → Int32 → Int32 → Option Int32
  | 0 => fun _ _ _ _ => none
  | n + 1 => fX0_shotsOfScene_b4 fu sh I R (fX0_shotsOfScene_l4 fu sh I R n)
set_option maxRecDepth 100000 in
set_option maxHeartbeats 4000000 in
theorem vX0_shotsOfScene_l4 {K J : Nat → Nat} {fu : Nat} {sh : HS} {I : HI} {R : HR} {F : VF} {o : Int32} (hF : F (.inl (some (.int o))) sh I R) : ∀ (n : Nat) {l0 : Nat} {l1 : Int32} {l2 : Int32} {l3 : Int32} {c : Nat × Nat} (_ : c.1 ≤ 0 ∧ c.2 ≤ 0) (_ : fX0_shotsOfScene_l4 fu sh I R n l0 l1 l2 l3 = some o), V K J 3 4 [some (.ref l0), some (.int l1), some (.int l2), some (.int l3)] [] sh I R c F := by
  intro n
  induction n with
  | zero => exact fun _ h0 => nomatch h0
  | succ n ih => exact fun hc0 h0 => vX0_shotsOfScene_b4 hF ih hc0 h0
set_option maxRecDepth 100000 in
set_option maxHeartbeats 4000000 in
def fX0_shotsOfScene (fu : Nat) (sh : HS) (I : HI) (R : HR) (l0 : Nat) (l1 : Int32) : Option Int32 :=
  if isT sh l0 0 = true then
    ((fX0_shotsOfScene_l4 fu sh I R fu) l0 l1 0 0)
  else none
set_option maxRecDepth 100000 in
set_option maxHeartbeats 4000000 in
theorem vX0_shotsOfScene {K J : Nat → Nat} {fu : Nat} {sh : HS} {I : HI} {R : HR} {F : VF} {o : Int32} (hF : F (.inl (some (.int o))) sh I R) {l0 : Nat} {l1 : Int32} (h0 : fX0_shotsOfScene fu sh I R l0 l1 = some o) : V K J 3 0 (ent 4 [.ref l0, .int l1]) [] sh I R (0, 0) F := by
  unfold fX0_shotsOfScene at h0
  obtain ⟨-, h1⟩ := gd h0; clear h0
  have hc0 : ((0 : Nat), (0 : Nat)).1 ≤ 0 ∧ ((0 : Nat), (0 : Nat)).2 ≤ 0 := ⟨Nat.le_refl _, Nat.le_refl _⟩
  show V K J 3 0 [some (.ref l0), some (.int l1), none, none] [] sh I R (0, 0) F
  refine s_c (v := 0) (pc' := 1) (by decide +kernel) ?_
  refine s_is (i := 2) (pc' := 2) (L' := [some (.ref l0), some (.int l1), some (.int 0), none]) (by decide +kernel) rfl rfl ?_
  refine s_c (v := 0) (pc' := 3) (by decide +kernel) ?_
  refine s_is (i := 3) (pc' := 4) (L' := [some (.ref l0), some (.int l1), some (.int 0), some (.int 0)]) (by decide +kernel) rfl rfl ?_
  exact (vX0_shotsOfScene_l4 hF fu) hc0 h1
set_option maxRecDepth 100000 in
set_option maxHeartbeats 4000000 in
theorem kX0_shotsOfScene {K J : Nat → Nat} {fu : Nat} {sh : HS} {I : HI} {R : HR} {F : VF} {mi pc pc' X Y X' Y' : Nat} {L : VL} {rest : List Value} {c : Nat × Nat} {l0 : Nat} {l1 : Int32} {ω : Type} {o : ω} {g : Int32 → Option ω} (hq : cQ mi pc 3 2 pc' X Y X' Y' = true) (hc : c.1 ≤ X ∧ c.2 ≤ Y) (hr : Nat.ble (catS rest) 8 = true) (h : (fX0_shotsOfScene fu sh I R l0 l1).bind g = some o) (kk : ∀ v c', (c'.1 ≤ X' ∧ c'.2 ≤ Y') → g v = some o → V K J mi pc' L ((.int v) :: rest) sh I R c' F) : V K J mi pc L (.int l1 :: .ref l0 :: rest) sh I R c F := by
  obtain ⟨r, h1, h2⟩ := bnd h
  have hT : isT sh l0 0 = true := by unfold fX0_shotsOfScene at h1; exact (gd h1).1
  have ml : mL 3 = 4 := by decide +kernel
  have mk : mK 3 = 1 := by decide +kernel
  have mc : mC 3 = 0 := by decide +kernel
  refine s_call (as := [.int l1, .ref l0]) (G := fun o' sh' I' R' => o' = .inl (some (.int r)) ∧ sh' = sh ∧ I' = I ∧ R' = R) hq hc rfl hr (by rw [ml]; rfl) (Or.inl rfl) (fun _ => Or.inl (Or.inl ⟨by rw [mc]; decide, by rw [mc]; exact isT_iff.mp hT⟩)) (fun z => absurd (mk.symm.trans z) (by decide)) (by rw [ml]; exact vX0_shotsOfScene (F := fun o' sh' I' R' => o' = .inl (some (.int r)) ∧ sh' = sh ∧ I' = I ∧ R' = R) ⟨rfl, rfl, rfl, rfl⟩ h1) ?_ ?_ ?_
  · rintro sh' I' R' c' hc' ⟨g1, rfl, rfl, rfl⟩
    cases g1
  · rintro v' sh' I' R' c' hc' ⟨g1, rfl, rfl, rfl⟩
    cases g1
    exact kk _ _ hc' h2
  · rintro E' sh' I' R' ⟨g1, rfl, rfl, rfl⟩
    cases g1
set_option maxRecDepth 100000 in
set_option maxHeartbeats 4000000 in
def fX6_isActorAt_b25 (fu : Nat) (sh : HS) (I : HI) (R : HR) (s0 : Int32) : Option Int32 :=
  (oZ s0).bind fun z3 =>
  some z3
set_option maxRecDepth 100000 in
set_option maxHeartbeats 4000000 in
theorem vX6_isActorAt_b25 {K J : Nat → Nat} {fu : Nat} {sh : HS} {I : HI} {R : HR} {F : VF} {o : Int32} (hF : F (.inl (some (.int o))) sh I R) {s0 : Int32} {d0 d1 d2 d3 : Option Value} {c : Nat × Nat} (hc0 : c.1 ≤ 0 ∧ c.2 ≤ 0) (h0 : fX6_isActorAt_b25 fu sh I R s0 = some o) : V K J 44 25 [d0, d1, d2, d3] [.int s0] sh I R c F := by
  unfold fX6_isActorAt_b25 at h0
  obtain ⟨hz, h1⟩ := oZb h0
  have e9 := Option.some.inj h1; subst e9
  exact s_rz (X := 0) (Y := 0) (by decide +kernel) hz hc0 hF
set_option maxRecDepth 100000 in
set_option maxHeartbeats 4000000 in
def fX6_isActorAt_b24 (fu : Nat) (sh : HS) (I : HI) (R : HR) : Option Int32 :=
  (fX6_isActorAt_b25 fu sh I R) 0
set_option maxRecDepth 100000 in
set_option maxHeartbeats 4000000 in
theorem vX6_isActorAt_b24 {K J : Nat → Nat} {fu : Nat} {sh : HS} {I : HI} {R : HR} {F : VF} {o : Int32} (hF : F (.inl (some (.int o))) sh I R) {d0 d1 d2 d3 : Option Value} {c : Nat × Nat} (hc0 : c.1 ≤ 0 ∧ c.2 ≤ 0) (h0 : fX6_isActorAt_b24 fu sh I R = some o) : V K J 44 24 [d0, d1, d2, d3] [] sh I R c F := by
  unfold fX6_isActorAt_b24 at h0
  refine s_c (v := 0) (pc' := 25) (by decide +kernel) ?_
  exact (vX6_isActorAt_b25 hF) hc0 h0
set_option maxRecDepth 100000 in
set_option maxHeartbeats 4000000 in
def fX6_isActorAt (fu : Nat) (sh : HS) (I : HI) (R : HR) (l0 : Nat) (l1 : Int32) (l2 : Int32) (l3 : Int32) : Option Int32 :=
  if isT sh l0 5 = true then
    ((oR sh R l0 5 2).bind fun v1 =>
    (oA sh I v1 l1).bind fun v2 =>
    if v2 = l2 then
      ((oR sh R l0 5 3).bind fun v4 =>
      (oA sh I v4 l1).bind fun v5 =>
      if v5 = l3 then
        ((fX6_isActorAt_b25 fu sh I R) 1)
      else
        ((fX6_isActorAt_b24 fu sh I R)))
    else
      ((fX6_isActorAt_b24 fu sh I R)))
  else none
set_option maxRecDepth 100000 in
set_option maxHeartbeats 4000000 in
theorem vX6_isActorAt {K J : Nat → Nat} {fu : Nat} {sh : HS} {I : HI} {R : HR} {F : VF} {o : Int32} (hF : F (.inl (some (.int o))) sh I R) {l0 : Nat} {l1 : Int32} {l2 : Int32} {l3 : Int32} (h0 : fX6_isActorAt fu sh I R l0 l1 l2 l3 = some o) : V K J 44 0 (ent 4 [.ref l0, .int l1, .int l2, .int l3]) [] sh I R (0, 0) F := by
  unfold fX6_isActorAt at h0
  obtain ⟨-, h1⟩ := gd h0; clear h0
  have hc0 : ((0 : Nat), (0 : Nat)).1 ≤ 0 ∧ ((0 : Nat), (0 : Nat)).2 ≤ 0 := ⟨Nat.le_refl _, Nat.le_refl _⟩
  show V K J 44 0 [some (.ref l0), some (.int l1), some (.int l2), some (.int l3)] [] sh I R (0, 0) F
  refine s_rl (i := 0) (pc' := 1) (by decide +kernel) rfl ?_
  refine s_gR (t := 5) (j := 2) (pc' := 4) (by decide +kernel) h1 (fun v1 h2 => ?_); clear h1
  refine s_il (i := 1) (pc' := 5) (by decide +kernel) rfl ?_
  refine s_al (pc' := 6) (by decide +kernel) h2 (fun v2 h3 => ?_); clear h2
  refine s_il (i := 2) (pc' := 7) (by decide +kernel) rfl ?_
  refine s_ifn (ins := .if_icmp .ne 17) (t := 24) (pc' := 10) (by decide +kernel) rfl rfl rfl h3 (fun p4 h4 => ?_) (fun p4 h4 => ?_) <;> clear h3
  · exact (vX6_isActorAt_b24 hF) hc0 h4
  · refine s_rl (i := 0) (pc' := 11) (by decide +kernel) rfl ?_
    refine s_gR (t := 5) (j := 3) (pc' := 14) (by decide +kernel) h4 (fun v4 h5 => ?_); clear h4
    refine s_il (i := 1) (pc' := 15) (by decide +kernel) rfl ?_
    refine s_al (pc' := 16) (by decide +kernel) h5 (fun v5 h6 => ?_); clear h5
    refine s_il (i := 3) (pc' := 17) (by decide +kernel) rfl ?_
    refine s_ifn (ins := .if_icmp .ne 7) (t := 24) (pc' := 20) (by decide +kernel) rfl rfl rfl h6 (fun p7 h7 => ?_) (fun p7 h7 => ?_) <;> clear h6
    · exact (vX6_isActorAt_b24 hF) hc0 h7
    · refine s_c (v := 1) (pc' := 21) (by decide +kernel) ?_
      refine s_go (t := 25) (by decide +kernel) ?_
      exact (vX6_isActorAt_b25 hF) hc0 h7
set_option maxRecDepth 100000 in
set_option maxHeartbeats 4000000 in
theorem kX6_isActorAt {K J : Nat → Nat} {fu : Nat} {sh : HS} {I : HI} {R : HR} {F : VF} {mi pc pc' X Y X' Y' : Nat} {L : VL} {rest : List Value} {c : Nat × Nat} {l0 : Nat} {l1 : Int32} {l2 : Int32} {l3 : Int32} {ω : Type} {o : ω} {g : Int32 → Option ω} (hq : cQ mi pc 44 4 pc' X Y X' Y' = true) (hc : c.1 ≤ X ∧ c.2 ≤ Y) (hr : Nat.ble (catS rest) 8 = true) (h : (fX6_isActorAt fu sh I R l0 l1 l2 l3).bind g = some o) (kk : ∀ v c', (c'.1 ≤ X' ∧ c'.2 ≤ Y') → g v = some o → V K J mi pc' L ((.int v) :: rest) sh I R c' F) : V K J mi pc L (.int l3 :: .int l2 :: .int l1 :: .ref l0 :: rest) sh I R c F := by
  obtain ⟨r, h1, h2⟩ := bnd h
  have hT : isT sh l0 5 = true := by unfold fX6_isActorAt at h1; exact (gd h1).1
  have ml : mL 44 = 4 := by decide +kernel
  have mk : mK 44 = 1 := by decide +kernel
  have mc : mC 44 = 5 := by decide +kernel
  refine s_call (as := [.int l3, .int l2, .int l1, .ref l0]) (G := fun o' sh' I' R' => o' = .inl (some (.int r)) ∧ sh' = sh ∧ I' = I ∧ R' = R) hq hc rfl hr (by rw [ml]; rfl) (Or.inl rfl) (fun _ => Or.inl (Or.inl ⟨by rw [mc]; decide, by rw [mc]; exact isT_iff.mp hT⟩)) (fun z => absurd (mk.symm.trans z) (by decide)) (by rw [ml]; exact vX6_isActorAt (F := fun o' sh' I' R' => o' = .inl (some (.int r)) ∧ sh' = sh ∧ I' = I ∧ R' = R) ⟨rfl, rfl, rfl, rfl⟩ h1) ?_ ?_ ?_
  · rintro sh' I' R' c' hc' ⟨g1, rfl, rfl, rfl⟩
    cases g1
  · rintro v' sh' I' R' c' hc' ⟨g1, rfl, rfl, rfl⟩
    cases g1
    exact kk _ _ hc' h2
  · rintro E' sh' I' R' ⟨g1, rfl, rfl, rfl⟩
    cases g1
set_option maxRecDepth 100000 in
set_option maxHeartbeats 4000000 in
def fX0_isSubjectAt (fu : Nat) (sh : HS) (I : HI) (R : HR) (l0 : Nat) (l1 : Nat) (l2 : Int32) (l3 : Int32) : Option Int32 :=
  if isT sh l0 0 = true then
    ((oR sh R l0 0 5).bind fun v1 =>
    (oI sh I l1 7 0).bind fun v2 =>
    (oB sh R v1 5 v2).bind fun v3 =>
    (oI sh I l1 7 3).bind fun v4 =>
    (fX6_isActorAt fu sh I R v3 v4 l2 l3).bind fun v5 =>
    (oZ v5).bind fun z6 =>
    some z6)
  else none
set_option maxRecDepth 100000 in
set_option maxHeartbeats 4000000 in
theorem vX0_isSubjectAt {K J : Nat → Nat} {fu : Nat} {sh : HS} {I : HI} {R : HR} {F : VF} {o : Int32} (hF : F (.inl (some (.int o))) sh I R) {l0 : Nat} {l1 : Nat} {l2 : Int32} {l3 : Int32} (h0 : fX0_isSubjectAt fu sh I R l0 l1 l2 l3 = some o) : V K J 4 0 (ent 4 [.ref l0, .ref l1, .int l2, .int l3]) [] sh I R (0, 0) F := by
  unfold fX0_isSubjectAt at h0
  obtain ⟨-, h1⟩ := gd h0; clear h0
  have hc0 : ((0 : Nat), (0 : Nat)).1 ≤ 0 ∧ ((0 : Nat), (0 : Nat)).2 ≤ 0 := ⟨Nat.le_refl _, Nat.le_refl _⟩
  show V K J 4 0 [some (.ref l0), some (.ref l1), some (.int l2), some (.int l3)] [] sh I R (0, 0) F
  refine s_rl (i := 0) (pc' := 1) (by decide +kernel) rfl ?_
  refine s_gR (t := 0) (j := 5) (pc' := 4) (by decide +kernel) h1 (fun v1 h2 => ?_); clear h1
  refine s_rl (i := 1) (pc' := 5) (by decide +kernel) rfl ?_
  refine s_gI (t := 7) (j := 0) (ty := 0) (pc' := 8) (by decide +kernel) rfl h2 (fun v2 h3 => ?_); clear h2
  refine s_aal (t := 5) (pc' := 9) (by decide +kernel) h3 (fun v3 h4 => ?_); clear h3
  refine s_rl (i := 1) (pc' := 10) (by decide +kernel) rfl ?_
  refine s_gI (t := 7) (j := 3) (ty := 0) (pc' := 13) (by decide +kernel) rfl h4 (fun v4 h5 => ?_); clear h4
  refine s_il (i := 2) (pc' := 14) (by decide +kernel) rfl ?_
  refine s_il (i := 3) (pc' := 15) (by decide +kernel) rfl ?_
  refine kX6_isActorAt (X := 0) (Y := 0) (X' := 0) (Y' := 0) (pc' := 18) (by decide +kernel) hc0 rfl h5 (fun v5 c hc1 h6 => ?_); clear h5 hc0
  obtain ⟨hz, h7⟩ := oZb h6
  have e9 := Option.some.inj h7; subst e9
  exact s_rz (X := 0) (Y := 0) (by decide +kernel) hz hc1 hF
set_option maxRecDepth 100000 in
set_option maxHeartbeats 4000000 in
theorem kX0_isSubjectAt {K J : Nat → Nat} {fu : Nat} {sh : HS} {I : HI} {R : HR} {F : VF} {mi pc pc' X Y X' Y' : Nat} {L : VL} {rest : List Value} {c : Nat × Nat} {l0 : Nat} {l1 : Nat} {l2 : Int32} {l3 : Int32} {ω : Type} {o : ω} {g : Int32 → Option ω} (hq : cQ mi pc 4 4 pc' X Y X' Y' = true) (hc : c.1 ≤ X ∧ c.2 ≤ Y) (hr : Nat.ble (catS rest) 8 = true) (h : (fX0_isSubjectAt fu sh I R l0 l1 l2 l3).bind g = some o) (kk : ∀ v c', (c'.1 ≤ X' ∧ c'.2 ≤ Y') → g v = some o → V K J mi pc' L ((.int v) :: rest) sh I R c' F) : V K J mi pc L (.int l3 :: .int l2 :: .ref l1 :: .ref l0 :: rest) sh I R c F := by
  obtain ⟨r, h1, h2⟩ := bnd h
  have hT : isT sh l0 0 = true := by unfold fX0_isSubjectAt at h1; exact (gd h1).1
  have ml : mL 4 = 4 := by decide +kernel
  have mk : mK 4 = 1 := by decide +kernel
  have mc : mC 4 = 0 := by decide +kernel
  refine s_call (as := [.int l3, .int l2, .ref l1, .ref l0]) (G := fun o' sh' I' R' => o' = .inl (some (.int r)) ∧ sh' = sh ∧ I' = I ∧ R' = R) hq hc rfl hr (by rw [ml]; rfl) (Or.inl rfl) (fun _ => Or.inl (Or.inl ⟨by rw [mc]; decide, by rw [mc]; exact isT_iff.mp hT⟩)) (fun z => absurd (mk.symm.trans z) (by decide)) (by rw [ml]; exact vX0_isSubjectAt (F := fun o' sh' I' R' => o' = .inl (some (.int r)) ∧ sh' = sh ∧ I' = I ∧ R' = R) ⟨rfl, rfl, rfl, rfl⟩ h1) ?_ ?_ ?_
  · rintro sh' I' R' c' hc' ⟨g1, rfl, rfl, rfl⟩
    cases g1
  · rintro v' sh' I' R' c' hc' ⟨g1, rfl, rfl, rfl⟩
    cases g1
    exact kk _ _ hc' h2
  · rintro E' sh' I' R' ⟨g1, rfl, rfl, rfl⟩
    cases g1
set_option maxRecDepth 100000 in
set_option maxHeartbeats 4000000 in
def fX0_hasCameraOn_b72 (fu : Nat) (sh : HS) (I : HI) (R : HR) (k3 : Nat → Int32 → Int32 → Int32 → Int32 → Int32 → Option Int32) (l0 : Nat) (l1 : Int32) (l2 : Int32) (l3 : Int32) (l4 : Int32) (l5 : Int32) : Option Int32 :=
  k3 l0 l1 l2 l3 l4 (l5 + 1)
set_option maxRecDepth 100000 in
set_option maxHeartbeats 4000000 in
theorem vX0_hasCameraOn_b72 {K J : Nat → Nat} {fu : Nat} {sh : HS} {I : HI} {R : HR} {F : VF} {o : Int32} (hF : F (.inl (some (.int o))) sh I R) {k3 : Nat → Int32 → Int32 → Int32 → Int32 → Int32 → Option Int32} (hk3 : ∀ {l0 : Nat} {l1 : Int32} {l2 : Int32} {l3 : Int32} {l4 : Int32} {l5 : Int32} {d6 d7 : Option Value} {c : Nat × Nat}, (c.1 ≤ 0 ∧ c.2 ≤ 0) → k3 l0 l1 l2 l3 l4 l5 = some o → V K J 5 3 [some (.ref l0), some (.int l1), some (.int l2), some (.int l3), some (.int l4), some (.int l5), d6, d7] [] sh I R c F) {l0 : Nat} {l1 : Int32} {l2 : Int32} {l3 : Int32} {l4 : Int32} {l5 : Int32} {d6 d7 : Option Value} {c : Nat × Nat} (hc0 : c.1 ≤ 0 ∧ c.2 ≤ 0) (h0 : fX0_hasCameraOn_b72 fu sh I R k3 l0 l1 l2 l3 l4 l5 = some o) : V K J 5 72 [some (.ref l0), some (.int l1), some (.int l2), some (.int l3), some (.int l4), some (.int l5), d6, d7] [] sh I R c F := by
  unfold fX0_hasCameraOn_b72 at h0
  refine s_inc (i := 5) (z := 1) (pc' := 75) (L' := [some (.ref l0), some (.int l1), some (.int l2), some (.int l3), some (.int l4), some (.int (l5 + 1)), d6, d7]) (by decide +kernel) rfl rfl rfl ?_
  refine s_go (t := 3) (by decide +kernel) ?_
  exact hk3 hc0 h0
set_option maxRecDepth 100000 in
set_option maxHeartbeats 4000000 in
def fX0_hasCameraOn_b44 (fu : Nat) (sh : HS) (I : HI) (R : HR) (k3 : Nat → Int32 → Int32 → Int32 → Int32 → Int32 → Option Int32) (l0 : Nat) (l1 : Int32) (l2 : Int32) (l3 : Int32) (l4 : Int32) (l5 : Int32) (l6 : Nat) (s0 : Int32) : Option Int32 :=
  if s0 = 0 then
    ((fX0_hasCameraOn_b72 fu sh I R k3) l0 l1 l2 l3 l4 l5)
  else
    ((oI sh I l6 7 1).bind fun v5 =>
    if v5 = l3 then
      ((oI sh I l6 7 2).bind fun v6 =>
      if v6 = l4 then
        (some 1)
      else
        ((fX0_hasCameraOn_b72 fu sh I R k3) l0 l1 l2 l3 l4 l5))
    else
      ((fX0_hasCameraOn_b72 fu sh I R k3) l0 l1 l2 l3 l4 l5))
set_option maxRecDepth 100000 in
set_option maxHeartbeats 4000000 in
theorem vX0_hasCameraOn_b44 {K J : Nat → Nat} {fu : Nat} {sh : HS} {I : HI} {R : HR} {F : VF} {o : Int32} (hF : F (.inl (some (.int o))) sh I R) {k3 : Nat → Int32 → Int32 → Int32 → Int32 → Int32 → Option Int32} (hk3 : ∀ {l0 : Nat} {l1 : Int32} {l2 : Int32} {l3 : Int32} {l4 : Int32} {l5 : Int32} {d6 d7 : Option Value} {c : Nat × Nat}, (c.1 ≤ 0 ∧ c.2 ≤ 0) → k3 l0 l1 l2 l3 l4 l5 = some o → V K J 5 3 [some (.ref l0), some (.int l1), some (.int l2), some (.int l3), some (.int l4), some (.int l5), d6, d7] [] sh I R c F) {l0 : Nat} {l1 : Int32} {l2 : Int32} {l3 : Int32} {l4 : Int32} {l5 : Int32} {l6 : Nat} {s0 : Int32} {d7 : Option Value} {c : Nat × Nat} (hc0 : c.1 ≤ 0 ∧ c.2 ≤ 0) (h0 : fX0_hasCameraOn_b44 fu sh I R k3 l0 l1 l2 l3 l4 l5 l6 s0 = some o) : V K J 5 44 [some (.ref l0), some (.int l1), some (.int l2), some (.int l3), some (.int l4), some (.int l5), some (.ref l6), d7] [.int s0] sh I R c F := by
  unfold fX0_hasCameraOn_b44 at h0
  refine s_is (i := 7) (pc' := 46) (L' := [some (.ref l0), some (.int l1), some (.int l2), some (.int l3), some (.int l4), some (.int l5), some (.ref l6), some (.int s0)]) (by decide +kernel) rfl rfl ?_
  refine s_il (i := 7) (pc' := 48) (by decide +kernel) rfl ?_
  refine s_if (ins := .ifCond .eq 24) (t := 72) (pc' := 51) (by decide +kernel) rfl rfl rfl h0 (fun p1 h1 => ?_) (fun p1 h1 => ?_) <;> clear h0
  · exact (vX0_hasCameraOn_b72 hF hk3) hc0 h1
  · refine s_rl (i := 6) (pc' := 53) (by decide +kernel) rfl ?_
    refine s_gI (t := 7) (j := 1) (ty := 0) (pc' := 56) (by decide +kernel) rfl h1 (fun v5 h2 => ?_); clear h1
    refine s_il (i := 3) (pc' := 57) (by decide +kernel) rfl ?_
    refine s_ifn (ins := .if_icmp .ne 15) (t := 72) (pc' := 60) (by decide +kernel) rfl rfl rfl h2 (fun p3 h3 => ?_) (fun p3 h3 => ?_) <;> clear h2
    · exact (vX0_hasCameraOn_b72 hF hk3) hc0 h3
    · refine s_rl (i := 6) (pc' := 62) (by decide +kernel) rfl ?_
      refine s_gI (t := 7) (j := 2) (ty := 0) (pc' := 65) (by decide +kernel) rfl h3 (fun v6 h4 => ?_); clear h3
      refine s_il (i := 4) (pc' := 67) (by decide +kernel) rfl ?_
      refine s_ifn (ins := .if_icmp .ne 5) (t := 72) (pc' := 70) (by decide +kernel) rfl rfl rfl h4 (fun p5 h5 => ?_) (fun p5 h5 => ?_) <;> clear h4
      · exact (vX0_hasCameraOn_b72 hF hk3) hc0 h5
      · refine s_c (v := 1) (pc' := 71) (by decide +kernel) ?_
        have e9 := Option.some.inj h5; subst e9
        exact s_rz (X := 0) (Y := 0) (by decide +kernel) (by decide) hc0 hF
set_option maxRecDepth 100000 in
set_option maxHeartbeats 4000000 in
def fX0_hasCameraOn_b43 (fu : Nat) (sh : HS) (I : HI) (R : HR) (k3 : Nat → Int32 → Int32 → Int32 → Int32 → Int32 → Option Int32) (l0 : Nat) (l1 : Int32) (l2 : Int32) (l3 : Int32) (l4 : Int32) (l5 : Int32) (l6 : Nat) : Option Int32 :=
  (fX0_hasCameraOn_b44 fu sh I R k3) l0 l1 l2 l3 l4 l5 l6 0
set_option maxRecDepth 100000 in
set_option maxHeartbeats 4000000 in
theorem vX0_hasCameraOn_b43 {K J : Nat → Nat} {fu : Nat} {sh : HS} {I : HI} {R : HR} {F : VF} {o : Int32} (hF : F (.inl (some (.int o))) sh I R) {k3 : Nat → Int32 → Int32 → Int32 → Int32 → Int32 → Option Int32} (hk3 : ∀ {l0 : Nat} {l1 : Int32} {l2 : Int32} {l3 : Int32} {l4 : Int32} {l5 : Int32} {d6 d7 : Option Value} {c : Nat × Nat}, (c.1 ≤ 0 ∧ c.2 ≤ 0) → k3 l0 l1 l2 l3 l4 l5 = some o → V K J 5 3 [some (.ref l0), some (.int l1), some (.int l2), some (.int l3), some (.int l4), some (.int l5), d6, d7] [] sh I R c F) {l0 : Nat} {l1 : Int32} {l2 : Int32} {l3 : Int32} {l4 : Int32} {l5 : Int32} {l6 : Nat} {d7 : Option Value} {c : Nat × Nat} (hc0 : c.1 ≤ 0 ∧ c.2 ≤ 0) (h0 : fX0_hasCameraOn_b43 fu sh I R k3 l0 l1 l2 l3 l4 l5 l6 = some o) : V K J 5 43 [some (.ref l0), some (.int l1), some (.int l2), some (.int l3), some (.int l4), some (.int l5), some (.ref l6), d7] [] sh I R c F := by
  unfold fX0_hasCameraOn_b43 at h0
  refine s_c (v := 0) (pc' := 44) (by decide +kernel) ?_
  exact (vX0_hasCameraOn_b44 hF hk3) hc0 h0
set_option maxRecDepth 100000 in
set_option maxHeartbeats 4000000 in
def fX0_hasCameraOn_b3 (fu : Nat) (sh : HS) (I : HI) (R : HR) (k3 : Nat → Int32 → Int32 → Int32 → Int32 → Int32 → Option Int32) (l0 : Nat) (l1 : Int32) (l2 : Int32) (l3 : Int32) (l4 : Int32) (l5 : Int32) : Option Int32 :=
  (oI sh I l0 0 4).bind fun v1 =>
  if v1 ≤ l5 then
    (some 0)
  else
    ((oR sh R l0 0 6).bind fun v2 =>
    (oB sh R v2 7 l5).bind fun v3 =>
    (oI sh I v3 7 0).bind fun v4 =>
    if v4 = l1 then
      ((oI sh I v3 7 3).bind fun v7 =>
      if v7 = l2 then
        ((fX0_hasCameraOn_b44 fu sh I R k3) l0 l1 l2 l3 l4 l5 v3 1)
      else
        ((fX0_hasCameraOn_b43 fu sh I R k3) l0 l1 l2 l3 l4 l5 v3))
    else
      ((fX0_hasCameraOn_b43 fu sh I R k3) l0 l1 l2 l3 l4 l5 v3))
set_option maxRecDepth 100000 in
set_option maxHeartbeats 4000000 in
theorem vX0_hasCameraOn_b3 {K J : Nat → Nat} {fu : Nat} {sh : HS} {I : HI} {R : HR} {F : VF} {o : Int32} (hF : F (.inl (some (.int o))) sh I R) {k3 : Nat → Int32 → Int32 → Int32 → Int32 → Int32 → Option Int32} (hk3 : ∀ {l0 : Nat} {l1 : Int32} {l2 : Int32} {l3 : Int32} {l4 : Int32} {l5 : Int32} {d6 d7 : Option Value} {c : Nat × Nat}, (c.1 ≤ 0 ∧ c.2 ≤ 0) → k3 l0 l1 l2 l3 l4 l5 = some o → V K J 5 3 [some (.ref l0), some (.int l1), some (.int l2), some (.int l3), some (.int l4), some (.int l5), d6, d7] [] sh I R c F) {l0 : Nat} {l1 : Int32} {l2 : Int32} {l3 : Int32} {l4 : Int32} {l5 : Int32} {d6 d7 : Option Value} {c : Nat × Nat} (hc0 : c.1 ≤ 0 ∧ c.2 ≤ 0) (h0 : fX0_hasCameraOn_b3 fu sh I R k3 l0 l1 l2 l3 l4 l5 = some o) : V K J 5 3 [some (.ref l0), some (.int l1), some (.int l2), some (.int l3), some (.int l4), some (.int l5), d6, d7] [] sh I R c F := by
  unfold fX0_hasCameraOn_b3 at h0
  refine s_il (i := 5) (pc' := 5) (by decide +kernel) rfl ?_
  refine s_rl (i := 0) (pc' := 6) (by decide +kernel) rfl ?_
  refine s_gI (t := 0) (j := 4) (ty := 0) (pc' := 9) (by decide +kernel) rfl h0 (fun v1 h1 => ?_); clear h0
  refine s_if (ins := .if_icmp .ge 69) (t := 78) (pc' := 12) (by decide +kernel) rfl rfl rfl h1 (fun p2 h2 => ?_) (fun p2 h2 => ?_) <;> clear h1
  · refine s_c (v := 0) (pc' := 79) (by decide +kernel) ?_
    have e9 := Option.some.inj h2; subst e9
    exact s_rz (X := 0) (Y := 0) (by decide +kernel) (by decide) hc0 hF
  · refine s_rl (i := 0) (pc' := 13) (by decide +kernel) rfl ?_
    refine s_gR (t := 0) (j := 6) (pc' := 16) (by decide +kernel) h2 (fun v2 h3 => ?_); clear h2
    refine s_il (i := 5) (pc' := 18) (by decide +kernel) rfl ?_
    refine s_aal (t := 7) (pc' := 19) (by decide +kernel) h3 (fun v3 h4 => ?_); clear h3
    refine s_rs (i := 6) (pc' := 21) (L' := [some (.ref l0), some (.int l1), some (.int l2), some (.int l3), some (.int l4), some (.int l5), some (.ref v3), d7]) (by decide +kernel) rfl rfl ?_
    refine s_rl (i := 6) (pc' := 23) (by decide +kernel) rfl ?_
    refine s_gI (t := 7) (j := 0) (ty := 0) (pc' := 26) (by decide +kernel) rfl h4 (fun v4 h5 => ?_); clear h4
    refine s_il (i := 1) (pc' := 27) (by decide +kernel) rfl ?_
    refine s_ifn (ins := .if_icmp .ne 16) (t := 43) (pc' := 30) (by decide +kernel) rfl rfl rfl h5 (fun p6 h6 => ?_) (fun p6 h6 => ?_) <;> clear h5
    · exact (vX0_hasCameraOn_b43 hF hk3) hc0 h6
    · refine s_rl (i := 6) (pc' := 32) (by decide +kernel) rfl ?_
      refine s_gI (t := 7) (j := 3) (ty := 0) (pc' := 35) (by decide +kernel) rfl h6 (fun v7 h7 => ?_); clear h6
      refine s_il (i := 2) (pc' := 36) (by decide +kernel) rfl ?_
      refine s_ifn (ins := .if_icmp .ne 7) (t := 43) (pc' := 39) (by decide +kernel) rfl rfl rfl h7 (fun p8 h8 => ?_) (fun p8 h8 => ?_) <;> clear h7
      · exact (vX0_hasCameraOn_b43 hF hk3) hc0 h8
      · refine s_c (v := 1) (pc' := 40) (by decide +kernel) ?_
        refine s_go (t := 44) (by decide +kernel) ?_
        exact (vX0_hasCameraOn_b44 hF hk3) hc0 h8
set_option maxRecDepth 100000 in
set_option maxHeartbeats 4000000 in
def fX0_hasCameraOn_l3 (fu : Nat) (sh : HS) (I : HI) (R : HR) : Nat → Nat → Int32 → Int32 → Int32 → Int32 → Int32 → Option Int32
  | 0 => fun _ _ _ _ _ _ => none
  | n + 1 => fX0_hasCameraOn_b3 fu sh I R (fX0_hasCameraOn_l3 fu sh I R n)
set_option maxRecDepth 100000 in
set_option maxHeartbeats 4000000 in
theorem vX0_hasCameraOn_l3 {K J : Nat → Nat} {fu : Nat} {sh : HS} {I : HI} {R : HR} {F : VF} {o : Int32} (hF : F (.inl (some (.int o))) sh I R) : ∀ (n : Nat) {l0 : Nat} {l1 : Int32} {l2 : Int32} {l3 : Int32} {l4 : Int32} {l5 : Int32} {d6 d7 : Option Value} {c : Nat × Nat} (_ : c.1 ≤ 0 ∧ c.2 ≤ 0) (_ : fX0_hasCameraOn_l3 fu sh I R n l0 l1 l2 l3 l4 l5 = some o), V K J 5 3 [some (.ref l0), some (.int l1), some (.int l2), some (.int l3), some (.int l4), some (.int l5), d6, d7] [] sh I R c F := by
  intro n
  induction n with
  | zero => exact fun _ h0 => nomatch h0
  | succ n ih => exact fun hc0 h0 => vX0_hasCameraOn_b3 hF ih hc0 h0
set_option maxRecDepth 100000 in
set_option maxHeartbeats 4000000 in
def fX0_hasCameraOn (fu : Nat) (sh : HS) (I : HI) (R : HR) (l0 : Nat) (l1 : Int32) (l2 : Int32) (l3 : Int32) (l4 : Int32) : Option Int32 :=
  if isT sh l0 0 = true then
    ((fX0_hasCameraOn_l3 fu sh I R fu) l0 l1 l2 l3 l4 0)
  else none
set_option maxRecDepth 100000 in
set_option maxHeartbeats 4000000 in
theorem vX0_hasCameraOn {K J : Nat → Nat} {fu : Nat} {sh : HS} {I : HI} {R : HR} {F : VF} {o : Int32} (hF : F (.inl (some (.int o))) sh I R) {l0 : Nat} {l1 : Int32} {l2 : Int32} {l3 : Int32} {l4 : Int32} (h0 : fX0_hasCameraOn fu sh I R l0 l1 l2 l3 l4 = some o) : V K J 5 0 (ent 8 [.ref l0, .int l1, .int l2, .int l3, .int l4]) [] sh I R (0, 0) F := by
  unfold fX0_hasCameraOn at h0
  obtain ⟨-, h1⟩ := gd h0; clear h0
  have hc0 : ((0 : Nat), (0 : Nat)).1 ≤ 0 ∧ ((0 : Nat), (0 : Nat)).2 ≤ 0 := ⟨Nat.le_refl _, Nat.le_refl _⟩
  show V K J 5 0 [some (.ref l0), some (.int l1), some (.int l2), some (.int l3), some (.int l4), none, none, none] [] sh I R (0, 0) F
  refine s_c (v := 0) (pc' := 1) (by decide +kernel) ?_
  refine s_is (i := 5) (pc' := 3) (L' := [some (.ref l0), some (.int l1), some (.int l2), some (.int l3), some (.int l4), some (.int 0), none, none]) (by decide +kernel) rfl rfl ?_
  exact (vX0_hasCameraOn_l3 hF fu) hc0 h1
set_option maxRecDepth 100000 in
set_option maxHeartbeats 4000000 in
theorem kX0_hasCameraOn {K J : Nat → Nat} {fu : Nat} {sh : HS} {I : HI} {R : HR} {F : VF} {mi pc pc' X Y X' Y' : Nat} {L : VL} {rest : List Value} {c : Nat × Nat} {l0 : Nat} {l1 : Int32} {l2 : Int32} {l3 : Int32} {l4 : Int32} {ω : Type} {o : ω} {g : Int32 → Option ω} (hq : cQ mi pc 5 5 pc' X Y X' Y' = true) (hc : c.1 ≤ X ∧ c.2 ≤ Y) (hr : Nat.ble (catS rest) 8 = true) (h : (fX0_hasCameraOn fu sh I R l0 l1 l2 l3 l4).bind g = some o) (kk : ∀ v c', (c'.1 ≤ X' ∧ c'.2 ≤ Y') → g v = some o → V K J mi pc' L ((.int v) :: rest) sh I R c' F) : V K J mi pc L (.int l4 :: .int l3 :: .int l2 :: .int l1 :: .ref l0 :: rest) sh I R c F := by
  obtain ⟨r, h1, h2⟩ := bnd h
  have hT : isT sh l0 0 = true := by unfold fX0_hasCameraOn at h1; exact (gd h1).1
  have ml : mL 5 = 8 := by decide +kernel
  have mk : mK 5 = 1 := by decide +kernel
  have mc : mC 5 = 0 := by decide +kernel
  refine s_call (as := [.int l4, .int l3, .int l2, .int l1, .ref l0]) (G := fun o' sh' I' R' => o' = .inl (some (.int r)) ∧ sh' = sh ∧ I' = I ∧ R' = R) hq hc rfl hr (by rw [ml]; rfl) (Or.inl rfl) (fun _ => Or.inl (Or.inl ⟨by rw [mc]; decide, by rw [mc]; exact isT_iff.mp hT⟩)) (fun z => absurd (mk.symm.trans z) (by decide)) (by rw [ml]; exact vX0_hasCameraOn (F := fun o' sh' I' R' => o' = .inl (some (.int r)) ∧ sh' = sh ∧ I' = I ∧ R' = R) ⟨rfl, rfl, rfl, rfl⟩ h1) ?_ ?_ ?_
  · rintro sh' I' R' c' hc' ⟨g1, rfl, rfl, rfl⟩
    cases g1
  · rintro v' sh' I' R' c' hc' ⟨g1, rfl, rfl, rfl⟩
    cases g1
    exact kk _ _ hc' h2
  · rintro E' sh' I' R' ⟨g1, rfl, rfl, rfl⟩
    cases g1
set_option maxRecDepth 100000 in
set_option maxHeartbeats 4000000 in
def fX0_oppositeX (fu : Nat) (sh : HS) (I : HI) (R : HR) (l0 : Nat) (l1 : Nat) : Option Int32 :=
  if isT sh l0 0 = true then
    ((oR sh R l0 0 5).bind fun v1 =>
    (oI sh I l1 7 0).bind fun v2 =>
    (oB sh R v1 5 v2).bind fun v3 =>
    (oR sh R v3 5 2).bind fun v4 =>
    (oI sh I l1 7 3).bind fun v5 =>
    (oA sh I v4 v5).bind fun v6 =>
    (oI sh I l1 7 4).bind fun v7 =>
    (oA sh I v4 v7).bind fun v8 =>
    (oI sh I l1 7 1).bind fun v9 =>
    some ((v6 + v8) - v9))
  else none
set_option maxRecDepth 100000 in
set_option maxHeartbeats 4000000 in
theorem vX0_oppositeX {K J : Nat → Nat} {fu : Nat} {sh : HS} {I : HI} {R : HR} {F : VF} {o : Int32} (hF : F (.inl (some (.int o))) sh I R) {l0 : Nat} {l1 : Nat} (h0 : fX0_oppositeX fu sh I R l0 l1 = some o) : V K J 6 0 (ent 3 [.ref l0, .ref l1]) [] sh I R (0, 0) F := by
  unfold fX0_oppositeX at h0
  obtain ⟨-, h1⟩ := gd h0; clear h0
  have hc0 : ((0 : Nat), (0 : Nat)).1 ≤ 0 ∧ ((0 : Nat), (0 : Nat)).2 ≤ 0 := ⟨Nat.le_refl _, Nat.le_refl _⟩
  show V K J 6 0 [some (.ref l0), some (.ref l1), none] [] sh I R (0, 0) F
  refine s_rl (i := 0) (pc' := 1) (by decide +kernel) rfl ?_
  refine s_gR (t := 0) (j := 5) (pc' := 4) (by decide +kernel) h1 (fun v1 h2 => ?_); clear h1
  refine s_rl (i := 1) (pc' := 5) (by decide +kernel) rfl ?_
  refine s_gI (t := 7) (j := 0) (ty := 0) (pc' := 8) (by decide +kernel) rfl h2 (fun v2 h3 => ?_); clear h2
  refine s_aal (t := 5) (pc' := 9) (by decide +kernel) h3 (fun v3 h4 => ?_); clear h3
  refine s_gR (t := 5) (j := 2) (pc' := 12) (by decide +kernel) h4 (fun v4 h5 => ?_); clear h4
  refine s_rs (i := 2) (pc' := 13) (L' := [some (.ref l0), some (.ref l1), some (.ref v4)]) (by decide +kernel) rfl rfl ?_
  refine s_rl (i := 2) (pc' := 14) (by decide +kernel) rfl ?_
  refine s_rl (i := 1) (pc' := 15) (by decide +kernel) rfl ?_
  refine s_gI (t := 7) (j := 3) (ty := 0) (pc' := 18) (by decide +kernel) rfl h5 (fun v5 h6 => ?_); clear h5
  refine s_al (pc' := 19) (by decide +kernel) h6 (fun v6 h7 => ?_); clear h6
  refine s_rl (i := 2) (pc' := 20) (by decide +kernel) rfl ?_
  refine s_rl (i := 1) (pc' := 21) (by decide +kernel) rfl ?_
  refine s_gI (t := 7) (j := 4) (ty := 0) (pc' := 24) (by decide +kernel) rfl h7 (fun v7 h8 => ?_); clear h7
  refine s_al (pc' := 25) (by decide +kernel) h8 (fun v8 h9 => ?_); clear h8
  refine s_a (ins := .iadd) (pc' := 26) (by decide +kernel) rfl ?_
  refine s_rl (i := 1) (pc' := 27) (by decide +kernel) rfl ?_
  refine s_gI (t := 7) (j := 1) (ty := 0) (pc' := 30) (by decide +kernel) rfl h9 (fun v9 h10 => ?_); clear h9
  refine s_a (ins := .isub) (pc' := 31) (by decide +kernel) rfl ?_
  have e9 := Option.some.inj h10; subst e9
  exact s_ri (X := 0) (Y := 0) (by decide +kernel) hc0 hF
set_option maxRecDepth 100000 in
set_option maxHeartbeats 4000000 in
theorem kX0_oppositeX {K J : Nat → Nat} {fu : Nat} {sh : HS} {I : HI} {R : HR} {F : VF} {mi pc pc' X Y X' Y' : Nat} {L : VL} {rest : List Value} {c : Nat × Nat} {l0 : Nat} {l1 : Nat} {ω : Type} {o : ω} {g : Int32 → Option ω} (hq : cQ mi pc 6 2 pc' X Y X' Y' = true) (hc : c.1 ≤ X ∧ c.2 ≤ Y) (hr : Nat.ble (catS rest) 8 = true) (h : (fX0_oppositeX fu sh I R l0 l1).bind g = some o) (kk : ∀ v c', (c'.1 ≤ X' ∧ c'.2 ≤ Y') → g v = some o → V K J mi pc' L ((.int v) :: rest) sh I R c' F) : V K J mi pc L (.ref l1 :: .ref l0 :: rest) sh I R c F := by
  obtain ⟨r, h1, h2⟩ := bnd h
  have hT : isT sh l0 0 = true := by unfold fX0_oppositeX at h1; exact (gd h1).1
  have ml : mL 6 = 3 := by decide +kernel
  have mk : mK 6 = 1 := by decide +kernel
  have mc : mC 6 = 0 := by decide +kernel
  refine s_call (as := [.ref l1, .ref l0]) (G := fun o' sh' I' R' => o' = .inl (some (.int r)) ∧ sh' = sh ∧ I' = I ∧ R' = R) hq hc rfl hr (by rw [ml]; rfl) (Or.inl rfl) (fun _ => Or.inl (Or.inl ⟨by rw [mc]; decide, by rw [mc]; exact isT_iff.mp hT⟩)) (fun z => absurd (mk.symm.trans z) (by decide)) (by rw [ml]; exact vX0_oppositeX (F := fun o' sh' I' R' => o' = .inl (some (.int r)) ∧ sh' = sh ∧ I' = I ∧ R' = R) ⟨rfl, rfl, rfl, rfl⟩ h1) ?_ ?_ ?_
  · rintro sh' I' R' c' hc' ⟨g1, rfl, rfl, rfl⟩
    cases g1
  · rintro v' sh' I' R' c' hc' ⟨g1, rfl, rfl, rfl⟩
    cases g1
    exact kk _ _ hc' h2
  · rintro E' sh' I' R' ⟨g1, rfl, rfl, rfl⟩
    cases g1
set_option maxRecDepth 100000 in
set_option maxHeartbeats 4000000 in
def fX0_oppositeY (fu : Nat) (sh : HS) (I : HI) (R : HR) (l0 : Nat) (l1 : Nat) : Option Int32 :=
  if isT sh l0 0 = true then
    ((oR sh R l0 0 5).bind fun v1 =>
    (oI sh I l1 7 0).bind fun v2 =>
    (oB sh R v1 5 v2).bind fun v3 =>
    (oR sh R v3 5 3).bind fun v4 =>
    (oI sh I l1 7 3).bind fun v5 =>
    (oA sh I v4 v5).bind fun v6 =>
    (oI sh I l1 7 4).bind fun v7 =>
    (oA sh I v4 v7).bind fun v8 =>
    (oI sh I l1 7 2).bind fun v9 =>
    some ((v6 + v8) - v9))
  else none
set_option maxRecDepth 100000 in
set_option maxHeartbeats 4000000 in
theorem vX0_oppositeY {K J : Nat → Nat} {fu : Nat} {sh : HS} {I : HI} {R : HR} {F : VF} {o : Int32} (hF : F (.inl (some (.int o))) sh I R) {l0 : Nat} {l1 : Nat} (h0 : fX0_oppositeY fu sh I R l0 l1 = some o) : V K J 7 0 (ent 3 [.ref l0, .ref l1]) [] sh I R (0, 0) F := by
  unfold fX0_oppositeY at h0
  obtain ⟨-, h1⟩ := gd h0; clear h0
  have hc0 : ((0 : Nat), (0 : Nat)).1 ≤ 0 ∧ ((0 : Nat), (0 : Nat)).2 ≤ 0 := ⟨Nat.le_refl _, Nat.le_refl _⟩
  show V K J 7 0 [some (.ref l0), some (.ref l1), none] [] sh I R (0, 0) F
  refine s_rl (i := 0) (pc' := 1) (by decide +kernel) rfl ?_
  refine s_gR (t := 0) (j := 5) (pc' := 4) (by decide +kernel) h1 (fun v1 h2 => ?_); clear h1
  refine s_rl (i := 1) (pc' := 5) (by decide +kernel) rfl ?_
  refine s_gI (t := 7) (j := 0) (ty := 0) (pc' := 8) (by decide +kernel) rfl h2 (fun v2 h3 => ?_); clear h2
  refine s_aal (t := 5) (pc' := 9) (by decide +kernel) h3 (fun v3 h4 => ?_); clear h3
  refine s_gR (t := 5) (j := 3) (pc' := 12) (by decide +kernel) h4 (fun v4 h5 => ?_); clear h4
  refine s_rs (i := 2) (pc' := 13) (L' := [some (.ref l0), some (.ref l1), some (.ref v4)]) (by decide +kernel) rfl rfl ?_
  refine s_rl (i := 2) (pc' := 14) (by decide +kernel) rfl ?_
  refine s_rl (i := 1) (pc' := 15) (by decide +kernel) rfl ?_
  refine s_gI (t := 7) (j := 3) (ty := 0) (pc' := 18) (by decide +kernel) rfl h5 (fun v5 h6 => ?_); clear h5
  refine s_al (pc' := 19) (by decide +kernel) h6 (fun v6 h7 => ?_); clear h6
  refine s_rl (i := 2) (pc' := 20) (by decide +kernel) rfl ?_
  refine s_rl (i := 1) (pc' := 21) (by decide +kernel) rfl ?_
  refine s_gI (t := 7) (j := 4) (ty := 0) (pc' := 24) (by decide +kernel) rfl h7 (fun v7 h8 => ?_); clear h7
  refine s_al (pc' := 25) (by decide +kernel) h8 (fun v8 h9 => ?_); clear h8
  refine s_a (ins := .iadd) (pc' := 26) (by decide +kernel) rfl ?_
  refine s_rl (i := 1) (pc' := 27) (by decide +kernel) rfl ?_
  refine s_gI (t := 7) (j := 2) (ty := 0) (pc' := 30) (by decide +kernel) rfl h9 (fun v9 h10 => ?_); clear h9
  refine s_a (ins := .isub) (pc' := 31) (by decide +kernel) rfl ?_
  have e9 := Option.some.inj h10; subst e9
  exact s_ri (X := 0) (Y := 0) (by decide +kernel) hc0 hF
set_option maxRecDepth 100000 in
set_option maxHeartbeats 4000000 in
theorem kX0_oppositeY {K J : Nat → Nat} {fu : Nat} {sh : HS} {I : HI} {R : HR} {F : VF} {mi pc pc' X Y X' Y' : Nat} {L : VL} {rest : List Value} {c : Nat × Nat} {l0 : Nat} {l1 : Nat} {ω : Type} {o : ω} {g : Int32 → Option ω} (hq : cQ mi pc 7 2 pc' X Y X' Y' = true) (hc : c.1 ≤ X ∧ c.2 ≤ Y) (hr : Nat.ble (catS rest) 8 = true) (h : (fX0_oppositeY fu sh I R l0 l1).bind g = some o) (kk : ∀ v c', (c'.1 ≤ X' ∧ c'.2 ≤ Y') → g v = some o → V K J mi pc' L ((.int v) :: rest) sh I R c' F) : V K J mi pc L (.ref l1 :: .ref l0 :: rest) sh I R c F := by
  obtain ⟨r, h1, h2⟩ := bnd h
  have hT : isT sh l0 0 = true := by unfold fX0_oppositeY at h1; exact (gd h1).1
  have ml : mL 7 = 3 := by decide +kernel
  have mk : mK 7 = 1 := by decide +kernel
  have mc : mC 7 = 0 := by decide +kernel
  refine s_call (as := [.ref l1, .ref l0]) (G := fun o' sh' I' R' => o' = .inl (some (.int r)) ∧ sh' = sh ∧ I' = I ∧ R' = R) hq hc rfl hr (by rw [ml]; rfl) (Or.inl rfl) (fun _ => Or.inl (Or.inl ⟨by rw [mc]; decide, by rw [mc]; exact isT_iff.mp hT⟩)) (fun z => absurd (mk.symm.trans z) (by decide)) (by rw [ml]; exact vX0_oppositeY (F := fun o' sh' I' R' => o' = .inl (some (.int r)) ∧ sh' = sh ∧ I' = I ∧ R' = R) ⟨rfl, rfl, rfl, rfl⟩ h1) ?_ ?_ ?_
  · rintro sh' I' R' c' hc' ⟨g1, rfl, rfl, rfl⟩
    cases g1
  · rintro v' sh' I' R' c' hc' ⟨g1, rfl, rfl, rfl⟩
    cases g1
    exact kk _ _ hc' h2
  · rintro E' sh' I' R' ⟨g1, rfl, rfl, rfl⟩
    cases g1
set_option maxRecDepth 100000 in
set_option maxHeartbeats 4000000 in
def fX0_renumber_b10 (fu : Nat) (sh : HS) (k10 : HI → HR → Nat → Int32 → Int32 → Nat → Int32 → Option (HI × HR)) (k38 : HI → HR → Nat → Int32 → Int32 → Nat → Option (HI × HR)) (I : HI) (R : HR) (l0 : Nat) (l1 : Int32) (l2 : Int32) (l3 : Nat) (l4 : Int32) : Option (HI × HR) :=
  if l2 ≤ l4 then
    (k38 I R l0 l1 l2 l3)
  else
    ((oR sh R l0 0 6).bind fun v3 =>
    (oR sh R l0 0 6).bind fun v4 =>
    (oB sh R v4 7 (l4 + 1)).bind fun v5 =>
    (oU sh R v3 7 l4 v5).bind fun v6 =>
    k10 I v6 l0 l1 l2 l3 (l4 + 1))
set_option maxRecDepth 100000 in
set_option maxHeartbeats 4000000 in
theorem vX0_renumber_b10 {K J : Nat → Nat} {fu : Nat} {sh : HS} {F : VF} {o : (HI × HR)} (hF : F (.inl none) sh o.1 o.2) {k10 : HI → HR → Nat → Int32 → Int32 → Nat → Int32 → Option (HI × HR)} {k38 : HI → HR → Nat → Int32 → Int32 → Nat → Option (HI × HR)} (hk10 : ∀ {I : HI} {R : HR} {l0 : Nat} {l1 : Int32} {l2 : Int32} {l3 : Nat} {l4 : Int32}  {c : Nat × Nat}, (c.1 ≤ 0 ∧ c.2 ≤ 0) → k10 I R l0 l1 l2 l3 l4 = some o → V K J 8 10 [some (.ref l0), some (.int l1), some (.int l2), some (.ref l3), some (.int l4)] [] sh I R c F) (hk38 : ∀ {I : HI} {R : HR} {l0 : Nat} {l1 : Int32} {l2 : Int32} {l3 : Nat} {d4 : Option Value} {c : Nat × Nat}, (c.1 ≤ 0 ∧ c.2 ≤ 0) → k38 I R l0 l1 l2 l3 = some o → V K J 8 38 [some (.ref l0), some (.int l1), some (.int l2), some (.ref l3), d4] [] sh I R c F) {I : HI} {R : HR} {l0 : Nat} {l1 : Int32} {l2 : Int32} {l3 : Nat} {l4 : Int32} {c : Nat × Nat} (hc0 : c.1 ≤ 0 ∧ c.2 ≤ 0) (h0 : fX0_renumber_b10 fu sh k10 k38 I R l0 l1 l2 l3 l4 = some o) : V K J 8 10 [some (.ref l0), some (.int l1), some (.int l2), some (.ref l3), some (.int l4)] [] sh I R c F := by
  unfold fX0_renumber_b10 at h0
  refine s_il (i := 4) (pc' := 12) (by decide +kernel) rfl ?_
  refine s_il (i := 2) (pc' := 13) (by decide +kernel) rfl ?_
  refine s_if (ins := .if_icmp .ge 25) (t := 38) (pc' := 16) (by decide +kernel) rfl rfl rfl h0 (fun p1 h1 => ?_) (fun p1 h1 => ?_) <;> clear h0
  · exact hk38 hc0 h1
  · refine s_rl (i := 0) (pc' := 17) (by decide +kernel) rfl ?_
    refine s_gR (t := 0) (j := 6) (pc' := 20) (by decide +kernel) h1 (fun v3 h2 => ?_); clear h1
    refine s_il (i := 4) (pc' := 22) (by decide +kernel) rfl ?_
    refine s_rl (i := 0) (pc' := 23) (by decide +kernel) rfl ?_
    refine s_gR (t := 0) (j := 6) (pc' := 26) (by decide +kernel) h2 (fun v4 h3 => ?_); clear h2
    refine s_il (i := 4) (pc' := 28) (by decide +kernel) rfl ?_
    refine s_c (v := 1) (pc' := 29) (by decide +kernel) ?_
    refine s_a (ins := .iadd) (pc' := 30) (by decide +kernel) rfl ?_
    refine s_aal (t := 7) (pc' := 31) (by decide +kernel) h3 (fun v5 h4 => ?_); clear h3
    refine s_aas (t := 7) (pc' := 32) (by decide +kernel) h4 (fun v6 h5 => ?_); clear h4
    refine s_inc (i := 4) (z := 1) (pc' := 35) (L' := [some (.ref l0), some (.int l1), some (.int l2), some (.ref l3), some (.int (l4 + 1))]) (by decide +kernel) rfl rfl rfl ?_
    refine s_go (t := 10) (by decide +kernel) ?_
    exact hk10 hc0 h5
set_option maxRecDepth 100000 in
set_option maxHeartbeats 4000000 in
def fX0_renumber_l10 (fu : Nat) (sh : HS) (k38 : HI → HR → Nat → Int32 → Int32 → Nat → Option (HI × HR)) : Nat → HI → HR → Nat → Int32 → Int32 → Nat → Int32 → Option (HI × HR)
  | 0 => fun _ _ _ _ _ _ _ => none
  | n + 1 => fX0_renumber_b10 fu sh (fX0_renumber_l10 fu sh k38 n) k38
set_option maxRecDepth 100000 in
set_option maxHeartbeats 4000000 in
theorem vX0_renumber_l10 {K J : Nat → Nat} {fu : Nat} {sh : HS} {F : VF} {o : (HI × HR)} (hF : F (.inl none) sh o.1 o.2) {k38 : HI → HR → Nat → Int32 → Int32 → Nat → Option (HI × HR)} (hk38 : ∀ {I : HI} {R : HR} {l0 : Nat} {l1 : Int32} {l2 : Int32} {l3 : Nat} {d4 : Option Value} {c : Nat × Nat}, (c.1 ≤ 0 ∧ c.2 ≤ 0) → k38 I R l0 l1 l2 l3 = some o → V K J 8 38 [some (.ref l0), some (.int l1), some (.int l2), some (.ref l3), d4] [] sh I R c F) : ∀ (n : Nat) {I : HI} {R : HR} {l0 : Nat} {l1 : Int32} {l2 : Int32} {l3 : Nat} {l4 : Int32} {c : Nat × Nat} (_ : c.1 ≤ 0 ∧ c.2 ≤ 0) (_ : fX0_renumber_l10 fu sh k38 n I R l0 l1 l2 l3 l4 = some o), V K J 8 10 [some (.ref l0), some (.int l1), some (.int l2), some (.ref l3), some (.int l4)] [] sh I R c F := by
  intro n
  induction n with
  | zero => exact fun _ h0 => nomatch h0
  | succ n ih => exact fun hc0 h0 => vX0_renumber_b10 hF ih hk38 hc0 h0
set_option maxRecDepth 100000 in
set_option maxHeartbeats 4000000 in
def fX0_renumber_b41 (fu : Nat) (sh : HS) (k41 : HI → HR → Nat → Int32 → Nat → Int32 → Option (HI × HR)) (I : HI) (R : HR) (l0 : Nat) (l2 : Int32) (l3 : Nat) (l4 : Int32) : Option (HI × HR) :=
  if l4 ≤ l2 then
    ((oR sh R l0 0 6).bind fun v7 =>
    (oU sh R v7 7 l2 l3).bind fun v8 =>
    some (I, v8))
  else
    ((oR sh R l0 0 6).bind fun v9 =>
    (oR sh R l0 0 6).bind fun v10 =>
    (oB sh R v10 7 (l4 - 1)).bind fun v11 =>
    (oU sh R v9 7 l4 v11).bind fun v12 =>
    k41 I v12 l0 l2 l3 (l4 + (-1)))
set_option maxRecDepth 100000 in
set_option maxHeartbeats 4000000 in
theorem vX0_renumber_b41 {K J : Nat → Nat} {fu : Nat} {sh : HS} {F : VF} {o : (HI × HR)} (hF : F (.inl none) sh o.1 o.2) {k41 : HI → HR → Nat → Int32 → Nat → Int32 → Option (HI × HR)} (hk41 : ∀ {I : HI} {R : HR} {l0 : Nat} {l2 : Int32} {l3 : Nat} {l4 : Int32} {d1 : Option Value} {c : Nat × Nat}, (c.1 ≤ 0 ∧ c.2 ≤ 0) → k41 I R l0 l2 l3 l4 = some o → V K J 8 41 [some (.ref l0), d1, some (.int l2), some (.ref l3), some (.int l4)] [] sh I R c F) {I : HI} {R : HR} {l0 : Nat} {l2 : Int32} {l3 : Nat} {l4 : Int32} {d1 : Option Value} {c : Nat × Nat} (hc0 : c.1 ≤ 0 ∧ c.2 ≤ 0) (h0 : fX0_renumber_b41 fu sh k41 I R l0 l2 l3 l4 = some o) : V K J 8 41 [some (.ref l0), d1, some (.int l2), some (.ref l3), some (.int l4)] [] sh I R c F := by
  unfold fX0_renumber_b41 at h0
  refine s_il (i := 4) (pc' := 43) (by decide +kernel) rfl ?_
  refine s_il (i := 2) (pc' := 44) (by decide +kernel) rfl ?_
  refine s_if (ins := .if_icmp .le 25) (t := 69) (pc' := 47) (by decide +kernel) rfl rfl rfl h0 (fun p1 h1 => ?_) (fun p1 h1 => ?_) <;> clear h0
  · refine s_rl (i := 0) (pc' := 70) (by decide +kernel) rfl ?_
    refine s_gR (t := 0) (j := 6) (pc' := 73) (by decide +kernel) h1 (fun v7 h2 => ?_); clear h1
    refine s_il (i := 2) (pc' := 74) (by decide +kernel) rfl ?_
    refine s_rl (i := 3) (pc' := 75) (by decide +kernel) rfl ?_
    refine s_aas (t := 7) (pc' := 76) (by decide +kernel) h2 (fun v8 h3 => ?_); clear h2
    have e9 := Option.some.inj h3; subst e9
    exact s_rv (X := 0) (Y := 0) (by decide +kernel) hc0 hF
  · refine s_rl (i := 0) (pc' := 48) (by decide +kernel) rfl ?_
    refine s_gR (t := 0) (j := 6) (pc' := 51) (by decide +kernel) h1 (fun v9 h2 => ?_); clear h1
    refine s_il (i := 4) (pc' := 53) (by decide +kernel) rfl ?_
    refine s_rl (i := 0) (pc' := 54) (by decide +kernel) rfl ?_
    refine s_gR (t := 0) (j := 6) (pc' := 57) (by decide +kernel) h2 (fun v10 h3 => ?_); clear h2
    refine s_il (i := 4) (pc' := 59) (by decide +kernel) rfl ?_
    refine s_c (v := 1) (pc' := 60) (by decide +kernel) ?_
    refine s_a (ins := .isub) (pc' := 61) (by decide +kernel) rfl ?_
    refine s_aal (t := 7) (pc' := 62) (by decide +kernel) h3 (fun v11 h4 => ?_); clear h3
    refine s_aas (t := 7) (pc' := 63) (by decide +kernel) h4 (fun v12 h5 => ?_); clear h4
    refine s_inc (i := 4) (z := (-1)) (pc' := 66) (L' := [some (.ref l0), d1, some (.int l2), some (.ref l3), some (.int (l4 + (-1)))]) (by decide +kernel) rfl rfl rfl ?_
    refine s_go (t := 41) (by decide +kernel) ?_
    exact hk41 hc0 h5
set_option maxRecDepth 100000 in
set_option maxHeartbeats 4000000 in
def fX0_renumber_l41 (fu : Nat) (sh : HS) : Nat → HI → HR → Nat → Int32 → Nat → Int32 → Option (HI × HR)
  | 0 => fun _ _ _ _ _ _ => none
  | n + 1 => fX0_renumber_b41 fu sh (fX0_renumber_l41 fu sh n)
set_option maxRecDepth 100000 in
set_option maxHeartbeats 4000000 in
theorem vX0_renumber_l41 {K J : Nat → Nat} {fu : Nat} {sh : HS} {F : VF} {o : (HI × HR)} (hF : F (.inl none) sh o.1 o.2) : ∀ (n : Nat) {I : HI} {R : HR} {l0 : Nat} {l2 : Int32} {l3 : Nat} {l4 : Int32} {d1 : Option Value} {c : Nat × Nat} (_ : c.1 ≤ 0 ∧ c.2 ≤ 0) (_ : fX0_renumber_l41 fu sh n I R l0 l2 l3 l4 = some o), V K J 8 41 [some (.ref l0), d1, some (.int l2), some (.ref l3), some (.int l4)] [] sh I R c F := by
  intro n
  induction n with
  | zero => exact fun _ h0 => nomatch h0
  | succ n ih => exact fun hc0 h0 => vX0_renumber_b41 hF ih hc0 h0
set_option maxRecDepth 100000 in
set_option maxHeartbeats 4000000 in
def fX0_renumber_b38 (fu : Nat) (sh : HS) (I : HI) (R : HR) (l0 : Nat) (l1 : Int32) (l2 : Int32) (l3 : Nat) : Option (HI × HR) :=
  (fX0_renumber_l41 fu sh fu) I R l0 l2 l3 l1
set_option maxRecDepth 100000 in
set_option maxHeartbeats 4000000 in
theorem vX0_renumber_b38 {K J : Nat → Nat} {fu : Nat} {sh : HS} {F : VF} {o : (HI × HR)} (hF : F (.inl none) sh o.1 o.2) {I : HI} {R : HR} {l0 : Nat} {l1 : Int32} {l2 : Int32} {l3 : Nat} {d4 : Option Value} {c : Nat × Nat} (hc0 : c.1 ≤ 0 ∧ c.2 ≤ 0) (h0 : fX0_renumber_b38 fu sh I R l0 l1 l2 l3 = some o) : V K J 8 38 [some (.ref l0), some (.int l1), some (.int l2), some (.ref l3), d4] [] sh I R c F := by
  unfold fX0_renumber_b38 at h0
  refine s_il (i := 1) (pc' := 39) (by decide +kernel) rfl ?_
  refine s_is (i := 4) (pc' := 41) (L' := [some (.ref l0), some (.int l1), some (.int l2), some (.ref l3), some (.int l1)]) (by decide +kernel) rfl rfl ?_
  exact (vX0_renumber_l41 hF fu) hc0 h0
set_option maxRecDepth 100000 in
set_option maxHeartbeats 4000000 in
def fX0_renumber (fu : Nat) (sh : HS) (I : HI) (R : HR) (l0 : Nat) (l1 : Int32) (l2 : Int32) : Option (HI × HR) :=
  if isT sh l0 0 = true then
    ((oR sh R l0 0 6).bind fun v1 =>
    (oB sh R v1 7 l1).bind fun v2 =>
    (fX0_renumber_l10 fu sh (fX0_renumber_b38 fu sh) fu) I R l0 l1 l2 v2 l1)
  else none
set_option maxRecDepth 100000 in
set_option maxHeartbeats 4000000 in
theorem vX0_renumber {K J : Nat → Nat} {fu : Nat} {sh : HS} {I : HI} {R : HR} {F : VF} {o : (HI × HR)} (hF : F (.inl none) sh o.1 o.2) {l0 : Nat} {l1 : Int32} {l2 : Int32} (h0 : fX0_renumber fu sh I R l0 l1 l2 = some o) : V K J 8 0 (ent 5 [.ref l0, .int l1, .int l2]) [] sh I R (0, 0) F := by
  unfold fX0_renumber at h0
  obtain ⟨-, h1⟩ := gd h0; clear h0
  have hc0 : ((0 : Nat), (0 : Nat)).1 ≤ 0 ∧ ((0 : Nat), (0 : Nat)).2 ≤ 0 := ⟨Nat.le_refl _, Nat.le_refl _⟩
  show V K J 8 0 [some (.ref l0), some (.int l1), some (.int l2), none, none] [] sh I R (0, 0) F
  refine s_rl (i := 0) (pc' := 1) (by decide +kernel) rfl ?_
  refine s_gR (t := 0) (j := 6) (pc' := 4) (by decide +kernel) h1 (fun v1 h2 => ?_); clear h1
  refine s_il (i := 1) (pc' := 5) (by decide +kernel) rfl ?_
  refine s_aal (t := 7) (pc' := 6) (by decide +kernel) h2 (fun v2 h3 => ?_); clear h2
  refine s_rs (i := 3) (pc' := 7) (L' := [some (.ref l0), some (.int l1), some (.int l2), some (.ref v2), none]) (by decide +kernel) rfl rfl ?_
  refine s_il (i := 1) (pc' := 8) (by decide +kernel) rfl ?_
  refine s_is (i := 4) (pc' := 10) (L' := [some (.ref l0), some (.int l1), some (.int l2), some (.ref v2), some (.int l1)]) (by decide +kernel) rfl rfl ?_
  exact (vX0_renumber_l10 hF (vX0_renumber_b38 hF) fu) hc0 h3
set_option maxRecDepth 100000 in
set_option maxHeartbeats 4000000 in
theorem kX0_renumber {K J : Nat → Nat} {fu : Nat} {sh : HS} {I : HI} {R : HR} {F : VF} {mi pc pc' X Y X' Y' : Nat} {L : VL} {rest : List Value} {c : Nat × Nat} {l0 : Nat} {l1 : Int32} {l2 : Int32} {ω : Type} {o : ω} {g : (HI × HR) → Option ω} (hq : cQ mi pc 8 3 pc' X Y X' Y' = true) (hc : c.1 ≤ X ∧ c.2 ≤ Y) (hr : Nat.ble (catS rest) 8 = true) (h : (fX0_renumber fu sh I R l0 l1 l2).bind g = some o) (kk : ∀ w c', (c'.1 ≤ X' ∧ c'.2 ≤ Y') → g w = some o → V K J mi pc' L (rest) sh w.1 w.2 c' F) : V K J mi pc L (.int l2 :: .int l1 :: .ref l0 :: rest) sh I R c F := by
  obtain ⟨r, h1, h2⟩ := bnd h
  have hT : isT sh l0 0 = true := by unfold fX0_renumber at h1; exact (gd h1).1
  have ml : mL 8 = 5 := by decide +kernel
  have mk : mK 8 = 1 := by decide +kernel
  have mc : mC 8 = 0 := by decide +kernel
  refine s_call (as := [.int l2, .int l1, .ref l0]) (G := fun o' sh' I' R' => o' = .inl none ∧ sh' = sh ∧ I' = r.1 ∧ R' = r.2) hq hc rfl hr (by rw [ml]; rfl) (Or.inl rfl) (fun _ => Or.inl (Or.inl ⟨by rw [mc]; decide, by rw [mc]; exact isT_iff.mp hT⟩)) (fun z => absurd (mk.symm.trans z) (by decide)) (by rw [ml]; exact vX0_renumber (F := fun o' sh' I' R' => o' = .inl none ∧ sh' = sh ∧ I' = r.1 ∧ R' = r.2) ⟨rfl, rfl, rfl, rfl⟩ h1) ?_ ?_ ?_
  · rintro sh' I' R' c' hc' ⟨g1, rfl, rfl, rfl⟩
    cases g1
    exact kk _ _ hc' h2
  · rintro v' sh' I' R' c' hc' ⟨g1, rfl, rfl, rfl⟩
    cases g1
  · rintro E' sh' I' R' ⟨g1, rfl, rfl, rfl⟩
    cases g1
set_option maxRecDepth 100000 in
set_option maxHeartbeats 4000000 in
def fX1_position (fu : Nat) (sh : HS) (I : HI) (R : HR) (l0 : Nat) : Option Int32 :=
  if isT sh l0 1 = true then
    ((oI sh I l0 1 2).bind fun v1 =>
    some v1)
  else none
set_option maxRecDepth 100000 in
set_option maxHeartbeats 4000000 in
theorem vX1_position {K J : Nat → Nat} {fu : Nat} {sh : HS} {I : HI} {R : HR} {F : VF} {o : Int32} (hF : F (.inl (some (.int o))) sh I R) {l0 : Nat} (h0 : fX1_position fu sh I R l0 = some o) : V K J 10 0 (ent 1 [.ref l0]) [] sh I R (0, 0) F := by
  unfold fX1_position at h0
  obtain ⟨-, h1⟩ := gd h0; clear h0
  have hc0 : ((0 : Nat), (0 : Nat)).1 ≤ 0 ∧ ((0 : Nat), (0 : Nat)).2 ≤ 0 := ⟨Nat.le_refl _, Nat.le_refl _⟩
  show V K J 10 0 [some (.ref l0)] [] sh I R (0, 0) F
  refine s_rl (i := 0) (pc' := 1) (by decide +kernel) rfl ?_
  refine s_gI (t := 1) (j := 2) (ty := 0) (pc' := 4) (by decide +kernel) rfl h1 (fun v1 h2 => ?_); clear h1
  have e9 := Option.some.inj h2; subst e9
  exact s_ri (X := 0) (Y := 0) (by decide +kernel) hc0 hF
set_option maxRecDepth 100000 in
set_option maxHeartbeats 4000000 in
theorem kX1_position {K J : Nat → Nat} {fu : Nat} {sh : HS} {I : HI} {R : HR} {F : VF} {mi pc pc' X Y X' Y' : Nat} {L : VL} {rest : List Value} {c : Nat × Nat} {l0 : Nat} {ω : Type} {o : ω} {g : Int32 → Option ω} (hq : cQ mi pc 10 1 pc' X Y X' Y' = true) (hc : c.1 ≤ X ∧ c.2 ≤ Y) (hr : Nat.ble (catS rest) 8 = true) (h : (fX1_position fu sh I R l0).bind g = some o) (kk : ∀ v c', (c'.1 ≤ X' ∧ c'.2 ≤ Y') → g v = some o → V K J mi pc' L ((.int v) :: rest) sh I R c' F) : V K J mi pc L (.ref l0 :: rest) sh I R c F := by
  obtain ⟨r, h1, h2⟩ := bnd h
  have hT : isT sh l0 1 = true := by unfold fX1_position at h1; exact (gd h1).1
  have ml : mL 10 = 1 := by decide +kernel
  have mk : mK 10 = 1 := by decide +kernel
  have mc : mC 10 = 1 := by decide +kernel
  refine s_call (as := [.ref l0]) (G := fun o' sh' I' R' => o' = .inl (some (.int r)) ∧ sh' = sh ∧ I' = I ∧ R' = R) hq hc rfl hr (by rw [ml]; rfl) (Or.inl rfl) (fun _ => Or.inl (Or.inl ⟨by rw [mc]; decide, by rw [mc]; exact isT_iff.mp hT⟩)) (fun z => absurd (mk.symm.trans z) (by decide)) (by rw [ml]; exact vX1_position (F := fun o' sh' I' R' => o' = .inl (some (.int r)) ∧ sh' = sh ∧ I' = I ∧ R' = R) ⟨rfl, rfl, rfl, rfl⟩ h1) ?_ ?_ ?_
  · rintro sh' I' R' c' hc' ⟨g1, rfl, rfl, rfl⟩
    cases g1
  · rintro v' sh' I' R' c' hc' ⟨g1, rfl, rfl, rfl⟩
    cases g1
    exact kk _ _ hc' h2
  · rintro E' sh' I' R' ⟨g1, rfl, rfl, rfl⟩
    cases g1
set_option maxRecDepth 100000 in
set_option maxHeartbeats 4000000 in
def fX1_isDigit_b17 (fu : Nat) (sh : HS) (I : HI) (R : HR) (s0 : Int32) : Option Int32 :=
  (oZ s0).bind fun z1 =>
  some z1
set_option maxRecDepth 100000 in
set_option maxHeartbeats 4000000 in
theorem vX1_isDigit_b17 {K J : Nat → Nat} {fu : Nat} {sh : HS} {I : HI} {R : HR} {F : VF} {o : Int32} (hF : F (.inl (some (.int o))) sh I R) {s0 : Int32} {d0 : Option Value} {c : Nat × Nat} (hc0 : c.1 ≤ 0 ∧ c.2 ≤ 0) (h0 : fX1_isDigit_b17 fu sh I R s0 = some o) : V K J 29 17 [d0] [.int s0] sh I R c F := by
  unfold fX1_isDigit_b17 at h0
  obtain ⟨hz, h1⟩ := oZb h0
  have e9 := Option.some.inj h1; subst e9
  exact s_rz (X := 0) (Y := 0) (by decide +kernel) hz hc0 hF
set_option maxRecDepth 100000 in
set_option maxHeartbeats 4000000 in
def fX1_isDigit_b16 (fu : Nat) (sh : HS) (I : HI) (R : HR) : Option Int32 :=
  (fX1_isDigit_b17 fu sh I R) 0
set_option maxRecDepth 100000 in
set_option maxHeartbeats 4000000 in
theorem vX1_isDigit_b16 {K J : Nat → Nat} {fu : Nat} {sh : HS} {I : HI} {R : HR} {F : VF} {o : Int32} (hF : F (.inl (some (.int o))) sh I R) {d0 : Option Value} {c : Nat × Nat} (hc0 : c.1 ≤ 0 ∧ c.2 ≤ 0) (h0 : fX1_isDigit_b16 fu sh I R = some o) : V K J 29 16 [d0] [] sh I R c F := by
  unfold fX1_isDigit_b16 at h0
  refine s_c (v := 0) (pc' := 17) (by decide +kernel) ?_
  exact (vX1_isDigit_b17 hF) hc0 h0
set_option maxRecDepth 100000 in
set_option maxHeartbeats 4000000 in
def fX1_isDigit (fu : Nat) (sh : HS) (I : HI) (R : HR) (l0 : Int32) : Option Int32 :=
  if l0 < 48 then
    ((fX1_isDigit_b16 fu sh I R))
  else
    (if 57 < l0 then
      ((fX1_isDigit_b16 fu sh I R))
    else
      ((fX1_isDigit_b17 fu sh I R) 1))
set_option maxRecDepth 100000 in
set_option maxHeartbeats 4000000 in
theorem vX1_isDigit {K J : Nat → Nat} {fu : Nat} {sh : HS} {I : HI} {R : HR} {F : VF} {o : Int32} (hF : F (.inl (some (.int o))) sh I R) {l0 : Int32} (h0 : fX1_isDigit fu sh I R l0 = some o) : V K J 29 0 (ent 1 [.int l0]) [] sh I R (0, 0) F := by
  unfold fX1_isDigit at h0
  have h1 := h0; clear h0
  have hc0 : ((0 : Nat), (0 : Nat)).1 ≤ 0 ∧ ((0 : Nat), (0 : Nat)).2 ≤ 0 := ⟨Nat.le_refl _, Nat.le_refl _⟩
  show V K J 29 0 [some (.int l0)] [] sh I R (0, 0) F
  refine s_il (i := 0) (pc' := 1) (by decide +kernel) rfl ?_
  refine s_c (v := 48) (pc' := 3) (by decide +kernel) ?_
  refine s_if (ins := .if_icmp .lt 13) (t := 16) (pc' := 6) (by decide +kernel) rfl rfl rfl h1 (fun p2 h2 => ?_) (fun p2 h2 => ?_) <;> clear h1
  · exact (vX1_isDigit_b16 hF) hc0 h2
  · refine s_il (i := 0) (pc' := 7) (by decide +kernel) rfl ?_
    refine s_c (v := 57) (pc' := 9) (by decide +kernel) ?_
    refine s_if (ins := .if_icmp .gt 7) (t := 16) (pc' := 12) (by decide +kernel) rfl rfl rfl h2 (fun p3 h3 => ?_) (fun p3 h3 => ?_) <;> clear h2
    · exact (vX1_isDigit_b16 hF) hc0 h3
    · refine s_c (v := 1) (pc' := 13) (by decide +kernel) ?_
      refine s_go (t := 17) (by decide +kernel) ?_
      exact (vX1_isDigit_b17 hF) hc0 h3
set_option maxRecDepth 100000 in
set_option maxHeartbeats 4000000 in
theorem kX1_isDigit {K J : Nat → Nat} {fu : Nat} {sh : HS} {I : HI} {R : HR} {F : VF} {mi pc pc' X Y X' Y' : Nat} {L : VL} {rest : List Value} {c : Nat × Nat} {l0 : Int32} {ω : Type} {o : ω} {g : Int32 → Option ω} (hq : cQ mi pc 29 1 pc' X Y X' Y' = true) (hc : c.1 ≤ X ∧ c.2 ≤ Y) (hr : Nat.ble (catS rest) 8 = true) (h : (fX1_isDigit fu sh I R l0).bind g = some o) (kk : ∀ v c', (c'.1 ≤ X' ∧ c'.2 ≤ Y') → g v = some o → V K J mi pc' L ((.int v) :: rest) sh I R c' F) : V K J mi pc L (.int l0 :: rest) sh I R c F := by
  obtain ⟨r, h1, h2⟩ := bnd h
  have ml : mL 29 = 1 := by decide +kernel
  have mk : mK 29 = 0 := by decide +kernel
  refine s_call (as := [.int l0]) (G := fun o' sh' I' R' => o' = .inl (some (.int r)) ∧ sh' = sh ∧ I' = I ∧ R' = R) hq hc rfl hr (by rw [ml]; rfl) (Or.inl rfl) (fun z => absurd (mk.symm.trans z) (by decide)) (fun z => absurd (mk.symm.trans z) (by decide)) (by rw [ml]; exact vX1_isDigit (F := fun o' sh' I' R' => o' = .inl (some (.int r)) ∧ sh' = sh ∧ I' = I ∧ R' = R) ⟨rfl, rfl, rfl, rfl⟩ h1) ?_ ?_ ?_
  · rintro sh' I' R' c' hc' ⟨g1, rfl, rfl, rfl⟩
    cases g1
  · rintro v' sh' I' R' c' hc' ⟨g1, rfl, rfl, rfl⟩
    cases g1
    exact kk _ _ hc' h2
  · rintro E' sh' I' R' ⟨g1, rfl, rfl, rfl⟩
    cases g1
set_option maxRecDepth 100000 in
set_option maxHeartbeats 4000000 in
def fX1_scanNumber_b5 (fu : Nat) (sh : HS) (R : HR) (k5 : HI → Nat → Option HI) (k68 : HI → Nat → Option HI) (I : HI) (l0 : Nat) : Option HI :=
  (oI sh I l0 1 3).bind fun v2 =>
  (oI sh I l0 1 1).bind fun v3 =>
  if v3 ≤ v2 then
    (k68 I l0)
  else
    ((oR sh R l0 1 0).bind fun v4 =>
    (oI sh I l0 1 3).bind fun v5 =>
    (oA sh I v4 v5).bind fun v6 =>
    (fX1_isDigit fu sh I R v6).bind fun v7 =>
    if v7 = 0 then
      (k68 I l0)
    else
      ((oI sh I l0 1 5).bind fun v8 =>
      (oR sh R l0 1 0).bind fun v9 =>
      (oI sh I l0 1 3).bind fun v10 =>
      (oA sh I v9 v10).bind fun v11 =>
      (oP sh I l0 1 5 (((v8 * 10) + v11) - 48)).bind fun v12 =>
      (oI sh v12 l0 1 3).bind fun v13 =>
      (oP sh v12 l0 1 3 (v13 + 1)).bind fun v14 =>
      k5 v14 l0))
set_option maxRecDepth 100000 in
set_option maxHeartbeats 4000000 in
theorem vX1_scanNumber_b5 {K J : Nat → Nat} {fu : Nat} {sh : HS} {R : HR} {F : VF} {o : HI} (hF : F (.inl none) sh o R) {k5 : HI → Nat → Option HI} {k68 : HI → Nat → Option HI} (hk5 : ∀ {I : HI} {l0 : Nat}  {c : Nat × Nat}, (c.1 ≤ 0 ∧ c.2 ≤ 0) → k5 I l0 = some o → V K J 26 5 [some (.ref l0)] [] sh I R c F) (hk68 : ∀ {I : HI} {l0 : Nat}  {c : Nat × Nat}, (c.1 ≤ 0 ∧ c.2 ≤ 0) → k68 I l0 = some o → V K J 26 68 [some (.ref l0)] [] sh I R c F) {I : HI} {l0 : Nat} {c : Nat × Nat} (hc0 : c.1 ≤ 0 ∧ c.2 ≤ 0) (h0 : fX1_scanNumber_b5 fu sh R k5 k68 I l0 = some o) : V K J 26 5 [some (.ref l0)] [] sh I R c F := by
  unfold fX1_scanNumber_b5 at h0
  refine s_rl (i := 0) (pc' := 6) (by decide +kernel) rfl ?_
  refine s_gI (t := 1) (j := 3) (ty := 0) (pc' := 9) (by decide +kernel) rfl h0 (fun v2 h1 => ?_); clear h0
  refine s_rl (i := 0) (pc' := 10) (by decide +kernel) rfl ?_
  refine s_gI (t := 1) (j := 1) (ty := 0) (pc' := 13) (by decide +kernel) rfl h1 (fun v3 h2 => ?_); clear h1
  refine s_if (ins := .if_icmp .ge 55) (t := 68) (pc' := 16) (by decide +kernel) rfl rfl rfl h2 (fun p3 h3 => ?_) (fun p3 h3 => ?_) <;> clear h2
  · exact hk68 hc0 h3
  · refine s_rl (i := 0) (pc' := 17) (by decide +kernel) rfl ?_
    refine s_gR (t := 1) (j := 0) (pc' := 20) (by decide +kernel) h3 (fun v4 h4 => ?_); clear h3
    refine s_rl (i := 0) (pc' := 21) (by decide +kernel) rfl ?_
    refine s_gI (t := 1) (j := 3) (ty := 0) (pc' := 24) (by decide +kernel) rfl h4 (fun v5 h5 => ?_); clear h4
    refine s_al (pc' := 25) (by decide +kernel) h5 (fun v6 h6 => ?_); clear h5
    refine kX1_isDigit (X := 0) (Y := 0) (X' := 0) (Y' := 0) (pc' := 28) (by decide +kernel) hc0 rfl h6 (fun v7 c hc1 h7 => ?_); clear h6 hc0
    refine s_if (ins := .ifCond .eq 40) (t := 68) (pc' := 31) (by decide +kernel) rfl rfl rfl h7 (fun p8 h8 => ?_) (fun p8 h8 => ?_) <;> clear h7
    · exact hk68 hc1 h8
    · refine s_rl (i := 0) (pc' := 32) (by decide +kernel) rfl ?_
      refine s_rl (i := 0) (pc' := 33) (by decide +kernel) rfl ?_
      refine s_gI (t := 1) (j := 5) (ty := 0) (pc' := 36) (by decide +kernel) rfl h8 (fun v8 h9 => ?_); clear h8
      refine s_c (v := 10) (pc' := 38) (by decide +kernel) ?_
      refine s_a (ins := .imul) (pc' := 39) (by decide +kernel) rfl ?_
      refine s_rl (i := 0) (pc' := 40) (by decide +kernel) rfl ?_
      refine s_gR (t := 1) (j := 0) (pc' := 43) (by decide +kernel) h9 (fun v9 h10 => ?_); clear h9
      refine s_rl (i := 0) (pc' := 44) (by decide +kernel) rfl ?_
      refine s_gI (t := 1) (j := 3) (ty := 0) (pc' := 47) (by decide +kernel) rfl h10 (fun v10 h11 => ?_); clear h10
      refine s_al (pc' := 48) (by decide +kernel) h11 (fun v11 h12 => ?_); clear h11
      refine s_a (ins := .iadd) (pc' := 49) (by decide +kernel) rfl ?_
      refine s_c (v := 48) (pc' := 51) (by decide +kernel) ?_
      refine s_a (ins := .isub) (pc' := 52) (by decide +kernel) rfl ?_
      refine s_pI (t := 1) (j := 5) (ty := 0) (pc' := 55) (by decide +kernel) (Or.inl rfl) h12 (fun v12 h13 => ?_); clear h12
      refine s_rl (i := 0) (pc' := 56) (by decide +kernel) rfl ?_
      refine s_a (ins := .dup) (pc' := 57) (by decide +kernel) rfl ?_
      refine s_gI (t := 1) (j := 3) (ty := 0) (pc' := 60) (by decide +kernel) rfl h13 (fun v13 h14 => ?_); clear h13
      refine s_c (v := 1) (pc' := 61) (by decide +kernel) ?_
      refine s_a (ins := .iadd) (pc' := 62) (by decide +kernel) rfl ?_
      refine s_pI (t := 1) (j := 3) (ty := 0) (pc' := 65) (by decide +kernel) (Or.inl rfl) h14 (fun v14 h15 => ?_); clear h14
      refine s_go (t := 5) (by decide +kernel) ?_
      exact hk5 hc1 h15
set_option maxRecDepth 100000 in
set_option maxHeartbeats 4000000 in
def fX1_scanNumber_l5 (fu : Nat) (sh : HS) (R : HR) (k68 : HI → Nat → Option HI) : Nat → HI → Nat → Option HI
  | 0 => fun _ _ => none
  | n + 1 => fX1_scanNumber_b5 fu sh R (fX1_scanNumber_l5 fu sh R k68 n) k68
set_option maxRecDepth 100000 in
set_option maxHeartbeats 4000000 in
theorem vX1_scanNumber_l5 {K J : Nat → Nat} {fu : Nat} {sh : HS} {R : HR} {F : VF} {o : HI} (hF : F (.inl none) sh o R) {k68 : HI → Nat → Option HI} (hk68 : ∀ {I : HI} {l0 : Nat}  {c : Nat × Nat}, (c.1 ≤ 0 ∧ c.2 ≤ 0) → k68 I l0 = some o → V K J 26 68 [some (.ref l0)] [] sh I R c F) : ∀ (n : Nat) {I : HI} {l0 : Nat} {c : Nat × Nat} (_ : c.1 ≤ 0 ∧ c.2 ≤ 0) (_ : fX1_scanNumber_l5 fu sh R k68 n I l0 = some o), V K J 26 5 [some (.ref l0)] [] sh I R c F := by
  intro n
  induction n with
  | zero => exact fun _ h0 => nomatch h0
  | succ n ih => exact fun hc0 h0 => vX1_scanNumber_b5 hF ih hk68 hc0 h0
set_option maxRecDepth 100000 in
set_option maxHeartbeats 4000000 in
def fX1_scanNumber_b87 (fu : Nat) (sh : HS) (R : HR) (I : HI) (s0 : Int32) (s1 : Nat) : Option HI :=
  (oP sh I s1 1 4 s0).bind fun v17 =>
  some v17
set_option maxRecDepth 100000 in
set_option maxHeartbeats 4000000 in
theorem vX1_scanNumber_b87 {K J : Nat → Nat} {fu : Nat} {sh : HS} {R : HR} {F : VF} {o : HI} (hF : F (.inl none) sh o R) {I : HI} {s0 : Int32} {s1 : Nat} {d0 : Option Value} {c : Nat × Nat} (hc0 : c.1 ≤ 0 ∧ c.2 ≤ 0) (h0 : fX1_scanNumber_b87 fu sh R I s0 s1 = some o) : V K J 26 87 [d0] [.int s0, .ref s1] sh I R c F := by
  unfold fX1_scanNumber_b87 at h0
  refine s_pI (t := 1) (j := 4) (ty := 0) (pc' := 90) (by decide +kernel) (Or.inl rfl) h0 (fun v17 h1 => ?_); clear h0
  have e9 := Option.some.inj h1; subst e9
  exact s_rv (X := 0) (Y := 0) (by decide +kernel) hc0 hF
set_option maxRecDepth 100000 in
set_option maxHeartbeats 4000000 in
def fX1_scanNumber_b68 (fu : Nat) (sh : HS) (R : HR) (I : HI) (l0 : Nat) : Option HI :=
  (oI sh I l0 1 3).bind fun v15 =>
  (oI sh I l0 1 2).bind fun v16 =>
  if (v15 - v16) ≤ 4 then
    ((fX1_scanNumber_b87 fu sh R) I 2 l0)
  else
    ((fX1_scanNumber_b87 fu sh R) I 4 l0)
set_option maxRecDepth 100000 in
set_option maxHeartbeats 4000000 in
theorem vX1_scanNumber_b68 {K J : Nat → Nat} {fu : Nat} {sh : HS} {R : HR} {F : VF} {o : HI} (hF : F (.inl none) sh o R) {I : HI} {l0 : Nat} {c : Nat × Nat} (hc0 : c.1 ≤ 0 ∧ c.2 ≤ 0) (h0 : fX1_scanNumber_b68 fu sh R I l0 = some o) : V K J 26 68 [some (.ref l0)] [] sh I R c F := by
  unfold fX1_scanNumber_b68 at h0
  refine s_rl (i := 0) (pc' := 69) (by decide +kernel) rfl ?_
  refine s_rl (i := 0) (pc' := 70) (by decide +kernel) rfl ?_
  refine s_gI (t := 1) (j := 3) (ty := 0) (pc' := 73) (by decide +kernel) rfl h0 (fun v15 h1 => ?_); clear h0
  refine s_rl (i := 0) (pc' := 74) (by decide +kernel) rfl ?_
  refine s_gI (t := 1) (j := 2) (ty := 0) (pc' := 77) (by decide +kernel) rfl h1 (fun v16 h2 => ?_); clear h1
  refine s_a (ins := .isub) (pc' := 78) (by decide +kernel) rfl ?_
  refine s_c (v := 4) (pc' := 79) (by decide +kernel) ?_
  refine s_if (ins := .if_icmp .le 7) (t := 86) (pc' := 82) (by decide +kernel) rfl rfl rfl h2 (fun p3 h3 => ?_) (fun p3 h3 => ?_) <;> clear h2
  · refine s_c (v := 2) (pc' := 87) (by decide +kernel) ?_
    exact (vX1_scanNumber_b87 hF) hc0 h3
  · refine s_c (v := 4) (pc' := 83) (by decide +kernel) ?_
    refine s_go (t := 87) (by decide +kernel) ?_
    exact (vX1_scanNumber_b87 hF) hc0 h3
set_option maxRecDepth 100000 in
set_option maxHeartbeats 4000000 in
def fX1_scanNumber (fu : Nat) (sh : HS) (I : HI) (R : HR) (l0 : Nat) : Option HI :=
  if isT sh l0 1 = true then
    ((oP sh I l0 1 5 0).bind fun v1 =>
    (fX1_scanNumber_l5 fu sh R (fX1_scanNumber_b68 fu sh R) fu) v1 l0)
  else none
set_option maxRecDepth 100000 in
set_option maxHeartbeats 4000000 in
theorem vX1_scanNumber {K J : Nat → Nat} {fu : Nat} {sh : HS} {I : HI} {R : HR} {F : VF} {o : HI} (hF : F (.inl none) sh o R) {l0 : Nat} (h0 : fX1_scanNumber fu sh I R l0 = some o) : V K J 26 0 (ent 1 [.ref l0]) [] sh I R (0, 0) F := by
  unfold fX1_scanNumber at h0
  obtain ⟨-, h1⟩ := gd h0; clear h0
  have hc0 : ((0 : Nat), (0 : Nat)).1 ≤ 0 ∧ ((0 : Nat), (0 : Nat)).2 ≤ 0 := ⟨Nat.le_refl _, Nat.le_refl _⟩
  show V K J 26 0 [some (.ref l0)] [] sh I R (0, 0) F
  refine s_rl (i := 0) (pc' := 1) (by decide +kernel) rfl ?_
  refine s_c (v := 0) (pc' := 2) (by decide +kernel) ?_
  refine s_pI (t := 1) (j := 5) (ty := 0) (pc' := 5) (by decide +kernel) (Or.inl rfl) h1 (fun v1 h2 => ?_); clear h1
  exact (vX1_scanNumber_l5 hF (vX1_scanNumber_b68 hF) fu) hc0 h2
set_option maxRecDepth 100000 in
set_option maxHeartbeats 4000000 in
theorem kX1_scanNumber {K J : Nat → Nat} {fu : Nat} {sh : HS} {I : HI} {R : HR} {F : VF} {mi pc pc' X Y X' Y' : Nat} {L : VL} {rest : List Value} {c : Nat × Nat} {l0 : Nat} {ω : Type} {o : ω} {g : HI → Option ω} (hq : cQ mi pc 26 1 pc' X Y X' Y' = true) (hc : c.1 ≤ X ∧ c.2 ≤ Y) (hr : Nat.ble (catS rest) 8 = true) (h : (fX1_scanNumber fu sh I R l0).bind g = some o) (kk : ∀ w c', (c'.1 ≤ X' ∧ c'.2 ≤ Y') → g w = some o → V K J mi pc' L (rest) sh w R c' F) : V K J mi pc L (.ref l0 :: rest) sh I R c F := by
  obtain ⟨r, h1, h2⟩ := bnd h
  have hT : isT sh l0 1 = true := by unfold fX1_scanNumber at h1; exact (gd h1).1
  have ml : mL 26 = 1 := by decide +kernel
  have mk : mK 26 = 1 := by decide +kernel
  have mc : mC 26 = 1 := by decide +kernel
  refine s_call (as := [.ref l0]) (G := fun o' sh' I' R' => o' = .inl none ∧ sh' = sh ∧ I' = r ∧ R' = R) hq hc rfl hr (by rw [ml]; rfl) (Or.inl rfl) (fun _ => Or.inl (Or.inl ⟨by rw [mc]; decide, by rw [mc]; exact isT_iff.mp hT⟩)) (fun z => absurd (mk.symm.trans z) (by decide)) (by rw [ml]; exact vX1_scanNumber (F := fun o' sh' I' R' => o' = .inl none ∧ sh' = sh ∧ I' = r ∧ R' = R) ⟨rfl, rfl, rfl, rfl⟩ h1) ?_ ?_ ?_
  · rintro sh' I' R' c' hc' ⟨g1, rfl, rfl, rfl⟩
    cases g1
    exact kk _ _ hc' h2
  · rintro v' sh' I' R' c' hc' ⟨g1, rfl, rfl, rfl⟩
    cases g1
  · rintro E' sh' I' R' ⟨g1, rfl, rfl, rfl⟩
    cases g1
set_option maxRecDepth 100000 in
set_option maxHeartbeats 4000000 in
def fX1_isLetter_b17 (fu : Nat) (sh : HS) (I : HI) (R : HR) (s0 : Int32) : Option Int32 :=
  (oZ s0).bind fun z1 =>
  some z1
set_option maxRecDepth 100000 in
set_option maxHeartbeats 4000000 in
theorem vX1_isLetter_b17 {K J : Nat → Nat} {fu : Nat} {sh : HS} {I : HI} {R : HR} {F : VF} {o : Int32} (hF : F (.inl (some (.int o))) sh I R) {s0 : Int32} {d0 : Option Value} {c : Nat × Nat} (hc0 : c.1 ≤ 0 ∧ c.2 ≤ 0) (h0 : fX1_isLetter_b17 fu sh I R s0 = some o) : V K J 30 17 [d0] [.int s0] sh I R c F := by
  unfold fX1_isLetter_b17 at h0
  obtain ⟨hz, h1⟩ := oZb h0
  have e9 := Option.some.inj h1; subst e9
  exact s_rz (X := 0) (Y := 0) (by decide +kernel) hz hc0 hF
set_option maxRecDepth 100000 in
set_option maxHeartbeats 4000000 in
def fX1_isLetter_b16 (fu : Nat) (sh : HS) (I : HI) (R : HR) : Option Int32 :=
  (fX1_isLetter_b17 fu sh I R) 0
set_option maxRecDepth 100000 in
set_option maxHeartbeats 4000000 in
theorem vX1_isLetter_b16 {K J : Nat → Nat} {fu : Nat} {sh : HS} {I : HI} {R : HR} {F : VF} {o : Int32} (hF : F (.inl (some (.int o))) sh I R) {d0 : Option Value} {c : Nat × Nat} (hc0 : c.1 ≤ 0 ∧ c.2 ≤ 0) (h0 : fX1_isLetter_b16 fu sh I R = some o) : V K J 30 16 [d0] [] sh I R c F := by
  unfold fX1_isLetter_b16 at h0
  refine s_c (v := 0) (pc' := 17) (by decide +kernel) ?_
  exact (vX1_isLetter_b17 hF) hc0 h0
set_option maxRecDepth 100000 in
set_option maxHeartbeats 4000000 in
def fX1_isLetter (fu : Nat) (sh : HS) (I : HI) (R : HR) (l0 : Int32) : Option Int32 :=
  if l0 < 97 then
    ((fX1_isLetter_b16 fu sh I R))
  else
    (if 122 < l0 then
      ((fX1_isLetter_b16 fu sh I R))
    else
      ((fX1_isLetter_b17 fu sh I R) 1))
set_option maxRecDepth 100000 in
set_option maxHeartbeats 4000000 in
theorem vX1_isLetter {K J : Nat → Nat} {fu : Nat} {sh : HS} {I : HI} {R : HR} {F : VF} {o : Int32} (hF : F (.inl (some (.int o))) sh I R) {l0 : Int32} (h0 : fX1_isLetter fu sh I R l0 = some o) : V K J 30 0 (ent 1 [.int l0]) [] sh I R (0, 0) F := by
  unfold fX1_isLetter at h0
  have h1 := h0; clear h0
  have hc0 : ((0 : Nat), (0 : Nat)).1 ≤ 0 ∧ ((0 : Nat), (0 : Nat)).2 ≤ 0 := ⟨Nat.le_refl _, Nat.le_refl _⟩
  show V K J 30 0 [some (.int l0)] [] sh I R (0, 0) F
  refine s_il (i := 0) (pc' := 1) (by decide +kernel) rfl ?_
  refine s_c (v := 97) (pc' := 3) (by decide +kernel) ?_
  refine s_if (ins := .if_icmp .lt 13) (t := 16) (pc' := 6) (by decide +kernel) rfl rfl rfl h1 (fun p2 h2 => ?_) (fun p2 h2 => ?_) <;> clear h1
  · exact (vX1_isLetter_b16 hF) hc0 h2
  · refine s_il (i := 0) (pc' := 7) (by decide +kernel) rfl ?_
    refine s_c (v := 122) (pc' := 9) (by decide +kernel) ?_
    refine s_if (ins := .if_icmp .gt 7) (t := 16) (pc' := 12) (by decide +kernel) rfl rfl rfl h2 (fun p3 h3 => ?_) (fun p3 h3 => ?_) <;> clear h2
    · exact (vX1_isLetter_b16 hF) hc0 h3
    · refine s_c (v := 1) (pc' := 13) (by decide +kernel) ?_
      refine s_go (t := 17) (by decide +kernel) ?_
      exact (vX1_isLetter_b17 hF) hc0 h3
set_option maxRecDepth 100000 in
set_option maxHeartbeats 4000000 in
theorem kX1_isLetter {K J : Nat → Nat} {fu : Nat} {sh : HS} {I : HI} {R : HR} {F : VF} {mi pc pc' X Y X' Y' : Nat} {L : VL} {rest : List Value} {c : Nat × Nat} {l0 : Int32} {ω : Type} {o : ω} {g : Int32 → Option ω} (hq : cQ mi pc 30 1 pc' X Y X' Y' = true) (hc : c.1 ≤ X ∧ c.2 ≤ Y) (hr : Nat.ble (catS rest) 8 = true) (h : (fX1_isLetter fu sh I R l0).bind g = some o) (kk : ∀ v c', (c'.1 ≤ X' ∧ c'.2 ≤ Y') → g v = some o → V K J mi pc' L ((.int v) :: rest) sh I R c' F) : V K J mi pc L (.int l0 :: rest) sh I R c F := by
  obtain ⟨r, h1, h2⟩ := bnd h
  have ml : mL 30 = 1 := by decide +kernel
  have mk : mK 30 = 0 := by decide +kernel
  refine s_call (as := [.int l0]) (G := fun o' sh' I' R' => o' = .inl (some (.int r)) ∧ sh' = sh ∧ I' = I ∧ R' = R) hq hc rfl hr (by rw [ml]; rfl) (Or.inl rfl) (fun z => absurd (mk.symm.trans z) (by decide)) (fun z => absurd (mk.symm.trans z) (by decide)) (by rw [ml]; exact vX1_isLetter (F := fun o' sh' I' R' => o' = .inl (some (.int r)) ∧ sh' = sh ∧ I' = I ∧ R' = R) ⟨rfl, rfl, rfl, rfl⟩ h1) ?_ ?_ ?_
  · rintro sh' I' R' c' hc' ⟨g1, rfl, rfl, rfl⟩
    cases g1
  · rintro v' sh' I' R' c' hc' ⟨g1, rfl, rfl, rfl⟩
    cases g1
    exact kk _ _ hc' h2
  · rintro E' sh' I' R' ⟨g1, rfl, rfl, rfl⟩
    cases g1
set_option maxRecDepth 100000 in
set_option maxHeartbeats 4000000 in
def fX1_scanKeyword_b5 (fu : Nat) (sh : HS) (R : HR) (k5 : HI → Nat → Option HI) (k44 : HI → Option HI) (I : HI) (l0 : Nat) : Option HI :=
  (oI sh I l0 1 3).bind fun v2 =>
  (oI sh I l0 1 1).bind fun v3 =>
  if v3 ≤ v2 then
    (k44 I)
  else
    ((oR sh R l0 1 0).bind fun v4 =>
    (oI sh I l0 1 3).bind fun v5 =>
    (oA sh I v4 v5).bind fun v6 =>
    (fX1_isLetter fu sh I R v6).bind fun v7 =>
    if v7 = 0 then
      (k44 I)
    else
      ((oI sh I l0 1 3).bind fun v8 =>
      (oP sh I l0 1 3 (v8 + 1)).bind fun v9 =>
      k5 v9 l0))
set_option maxRecDepth 100000 in
set_option maxHeartbeats 4000000 in
theorem vX1_scanKeyword_b5 {K J : Nat → Nat} {fu : Nat} {sh : HS} {R : HR} {F : VF} {o : HI} (hF : F (.inl none) sh o R) {k5 : HI → Nat → Option HI} {k44 : HI → Option HI} (hk5 : ∀ {I : HI} {l0 : Nat}  {c : Nat × Nat}, (c.1 ≤ 0 ∧ c.2 ≤ 0) → k5 I l0 = some o → V K J 27 5 [some (.ref l0)] [] sh I R c F) (hk44 : ∀ {I : HI} {d0 : Option Value} {c : Nat × Nat}, (c.1 ≤ 0 ∧ c.2 ≤ 0) → k44 I = some o → V K J 27 44 [d0] [] sh I R c F) {I : HI} {l0 : Nat} {c : Nat × Nat} (hc0 : c.1 ≤ 0 ∧ c.2 ≤ 0) (h0 : fX1_scanKeyword_b5 fu sh R k5 k44 I l0 = some o) : V K J 27 5 [some (.ref l0)] [] sh I R c F := by
  unfold fX1_scanKeyword_b5 at h0
  refine s_rl (i := 0) (pc' := 6) (by decide +kernel) rfl ?_
  refine s_gI (t := 1) (j := 3) (ty := 0) (pc' := 9) (by decide +kernel) rfl h0 (fun v2 h1 => ?_); clear h0
  refine s_rl (i := 0) (pc' := 10) (by decide +kernel) rfl ?_
  refine s_gI (t := 1) (j := 1) (ty := 0) (pc' := 13) (by decide +kernel) rfl h1 (fun v3 h2 => ?_); clear h1
  refine s_if (ins := .if_icmp .ge 31) (t := 44) (pc' := 16) (by decide +kernel) rfl rfl rfl h2 (fun p3 h3 => ?_) (fun p3 h3 => ?_) <;> clear h2
  · exact hk44 hc0 h3
  · refine s_rl (i := 0) (pc' := 17) (by decide +kernel) rfl ?_
    refine s_gR (t := 1) (j := 0) (pc' := 20) (by decide +kernel) h3 (fun v4 h4 => ?_); clear h3
    refine s_rl (i := 0) (pc' := 21) (by decide +kernel) rfl ?_
    refine s_gI (t := 1) (j := 3) (ty := 0) (pc' := 24) (by decide +kernel) rfl h4 (fun v5 h5 => ?_); clear h4
    refine s_al (pc' := 25) (by decide +kernel) h5 (fun v6 h6 => ?_); clear h5
    refine kX1_isLetter (X := 0) (Y := 0) (X' := 0) (Y' := 0) (pc' := 28) (by decide +kernel) hc0 rfl h6 (fun v7 c hc1 h7 => ?_); clear h6 hc0
    refine s_if (ins := .ifCond .eq 16) (t := 44) (pc' := 31) (by decide +kernel) rfl rfl rfl h7 (fun p8 h8 => ?_) (fun p8 h8 => ?_) <;> clear h7
    · exact hk44 hc1 h8
    · refine s_rl (i := 0) (pc' := 32) (by decide +kernel) rfl ?_
      refine s_a (ins := .dup) (pc' := 33) (by decide +kernel) rfl ?_
      refine s_gI (t := 1) (j := 3) (ty := 0) (pc' := 36) (by decide +kernel) rfl h8 (fun v8 h9 => ?_); clear h8
      refine s_c (v := 1) (pc' := 37) (by decide +kernel) ?_
      refine s_a (ins := .iadd) (pc' := 38) (by decide +kernel) rfl ?_
      refine s_pI (t := 1) (j := 3) (ty := 0) (pc' := 41) (by decide +kernel) (Or.inl rfl) h9 (fun v9 h10 => ?_); clear h9
      refine s_go (t := 5) (by decide +kernel) ?_
      exact hk5 hc1 h10
set_option maxRecDepth 100000 in
set_option maxHeartbeats 4000000 in
def fX1_scanKeyword_l5 (fu : Nat) (sh : HS) (R : HR) (k44 : HI → Option HI) : Nat → HI → Nat → Option HI
  | 0 => fun _ _ => none
  | n + 1 => fX1_scanKeyword_b5 fu sh R (fX1_scanKeyword_l5 fu sh R k44 n) k44
set_option maxRecDepth 100000 in
set_option maxHeartbeats 4000000 in
theorem vX1_scanKeyword_l5 {K J : Nat → Nat} {fu : Nat} {sh : HS} {R : HR} {F : VF} {o : HI} (hF : F (.inl none) sh o R) {k44 : HI → Option HI} (hk44 : ∀ {I : HI} {d0 : Option Value} {c : Nat × Nat}, (c.1 ≤ 0 ∧ c.2 ≤ 0) → k44 I = some o → V K J 27 44 [d0] [] sh I R c F) : ∀ (n : Nat) {I : HI} {l0 : Nat} {c : Nat × Nat} (_ : c.1 ≤ 0 ∧ c.2 ≤ 0) (_ : fX1_scanKeyword_l5 fu sh R k44 n I l0 = some o), V K J 27 5 [some (.ref l0)] [] sh I R c F := by
  intro n
  induction n with
  | zero => exact fun _ h0 => nomatch h0
  | succ n ih => exact fun hc0 h0 => vX1_scanKeyword_b5 hF ih hk44 hc0 h0
set_option maxRecDepth 100000 in
set_option maxHeartbeats 4000000 in
def fX1_scanKeyword_b44 (fu : Nat) (sh : HS) (R : HR) (I : HI) : Option HI :=
  some I
set_option maxRecDepth 100000 in
set_option maxHeartbeats 4000000 in
theorem vX1_scanKeyword_b44 {K J : Nat → Nat} {fu : Nat} {sh : HS} {R : HR} {F : VF} {o : HI} (hF : F (.inl none) sh o R) {I : HI} {d0 : Option Value} {c : Nat × Nat} (hc0 : c.1 ≤ 0 ∧ c.2 ≤ 0) (h0 : fX1_scanKeyword_b44 fu sh R I = some o) : V K J 27 44 [d0] [] sh I R c F := by
  unfold fX1_scanKeyword_b44 at h0
  have e9 := Option.some.inj h0; subst e9
  exact s_rv (X := 0) (Y := 0) (by decide +kernel) hc0 hF
set_option maxRecDepth 100000 in
set_option maxHeartbeats 4000000 in
def fX1_scanKeyword (fu : Nat) (sh : HS) (I : HI) (R : HR) (l0 : Nat) : Option HI :=
  if isT sh l0 1 = true then
    ((oP sh I l0 1 4 1).bind fun v1 =>
    (fX1_scanKeyword_l5 fu sh R (fX1_scanKeyword_b44 fu sh R) fu) v1 l0)
  else none
set_option maxRecDepth 100000 in
set_option maxHeartbeats 4000000 in
theorem vX1_scanKeyword {K J : Nat → Nat} {fu : Nat} {sh : HS} {I : HI} {R : HR} {F : VF} {o : HI} (hF : F (.inl none) sh o R) {l0 : Nat} (h0 : fX1_scanKeyword fu sh I R l0 = some o) : V K J 27 0 (ent 1 [.ref l0]) [] sh I R (0, 0) F := by
  unfold fX1_scanKeyword at h0
  obtain ⟨-, h1⟩ := gd h0; clear h0
  have hc0 : ((0 : Nat), (0 : Nat)).1 ≤ 0 ∧ ((0 : Nat), (0 : Nat)).2 ≤ 0 := ⟨Nat.le_refl _, Nat.le_refl _⟩
  show V K J 27 0 [some (.ref l0)] [] sh I R (0, 0) F
  refine s_rl (i := 0) (pc' := 1) (by decide +kernel) rfl ?_
  refine s_c (v := 1) (pc' := 2) (by decide +kernel) ?_
  refine s_pI (t := 1) (j := 4) (ty := 0) (pc' := 5) (by decide +kernel) (Or.inl rfl) h1 (fun v1 h2 => ?_); clear h1
  exact (vX1_scanKeyword_l5 hF (vX1_scanKeyword_b44 hF) fu) hc0 h2
set_option maxRecDepth 100000 in
set_option maxHeartbeats 4000000 in
theorem kX1_scanKeyword {K J : Nat → Nat} {fu : Nat} {sh : HS} {I : HI} {R : HR} {F : VF} {mi pc pc' X Y X' Y' : Nat} {L : VL} {rest : List Value} {c : Nat × Nat} {l0 : Nat} {ω : Type} {o : ω} {g : HI → Option ω} (hq : cQ mi pc 27 1 pc' X Y X' Y' = true) (hc : c.1 ≤ X ∧ c.2 ≤ Y) (hr : Nat.ble (catS rest) 8 = true) (h : (fX1_scanKeyword fu sh I R l0).bind g = some o) (kk : ∀ w c', (c'.1 ≤ X' ∧ c'.2 ≤ Y') → g w = some o → V K J mi pc' L (rest) sh w R c' F) : V K J mi pc L (.ref l0 :: rest) sh I R c F := by
  obtain ⟨r, h1, h2⟩ := bnd h
  have hT : isT sh l0 1 = true := by unfold fX1_scanKeyword at h1; exact (gd h1).1
  have ml : mL 27 = 1 := by decide +kernel
  have mk : mK 27 = 1 := by decide +kernel
  have mc : mC 27 = 1 := by decide +kernel
  refine s_call (as := [.ref l0]) (G := fun o' sh' I' R' => o' = .inl none ∧ sh' = sh ∧ I' = r ∧ R' = R) hq hc rfl hr (by rw [ml]; rfl) (Or.inl rfl) (fun _ => Or.inl (Or.inl ⟨by rw [mc]; decide, by rw [mc]; exact isT_iff.mp hT⟩)) (fun z => absurd (mk.symm.trans z) (by decide)) (by rw [ml]; exact vX1_scanKeyword (F := fun o' sh' I' R' => o' = .inl none ∧ sh' = sh ∧ I' = r ∧ R' = R) ⟨rfl, rfl, rfl, rfl⟩ h1) ?_ ?_ ?_
  · rintro sh' I' R' c' hc' ⟨g1, rfl, rfl, rfl⟩
    cases g1
    exact kk _ _ hc' h2
  · rintro v' sh' I' R' c' hc' ⟨g1, rfl, rfl, rfl⟩
    cases g1
  · rintro E' sh' I' R' ⟨g1, rfl, rfl, rfl⟩
    cases g1
set_option maxRecDepth 100000 in
set_option maxHeartbeats 4000000 in
def fX1_advance_b55 (fu : Nat) (sh : HS) (R : HR) (k16 : HI → Nat → Option HI) (k68 : HI → Nat → Option HI) (I : HI) (l0 : Nat) : Option HI :=
  (oI sh I l0 1 2).bind fun v9 =>
  (oP sh I l0 1 2 (v9 + 1)).bind fun v10 =>
  k16 v10 l0
set_option maxRecDepth 100000 in
set_option maxHeartbeats 4000000 in
theorem vX1_advance_b55 {K J : Nat → Nat} {fu : Nat} {sh : HS} {R : HR} {F : VF} {o : HI} (hF : F (.inl none) sh o R) {k16 : HI → Nat → Option HI} {k68 : HI → Nat → Option HI} (hk16 : ∀ {I : HI} {l0 : Nat}  {c : Nat × Nat}, (c.1 ≤ 0 ∧ c.2 ≤ 0) → k16 I l0 = some o → V K J 25 16 [some (.ref l0)] [] sh I R c F) (hk68 : ∀ {I : HI} {l0 : Nat}  {c : Nat × Nat}, (c.1 ≤ 0 ∧ c.2 ≤ 0) → k68 I l0 = some o → V K J 25 68 [some (.ref l0)] [] sh I R c F) {I : HI} {l0 : Nat} {c : Nat × Nat} (hc0 : c.1 ≤ 0 ∧ c.2 ≤ 0) (h0 : fX1_advance_b55 fu sh R k16 k68 I l0 = some o) : V K J 25 55 [some (.ref l0)] [] sh I R c F := by
  unfold fX1_advance_b55 at h0
  refine s_rl (i := 0) (pc' := 56) (by decide +kernel) rfl ?_
  refine s_a (ins := .dup) (pc' := 57) (by decide +kernel) rfl ?_
  refine s_gI (t := 1) (j := 2) (ty := 0) (pc' := 60) (by decide +kernel) rfl h0 (fun v9 h1 => ?_); clear h0
  refine s_c (v := 1) (pc' := 61) (by decide +kernel) ?_
  refine s_a (ins := .iadd) (pc' := 62) (by decide +kernel) rfl ?_
  refine s_pI (t := 1) (j := 2) (ty := 0) (pc' := 65) (by decide +kernel) (Or.inl rfl) h1 (fun v10 h2 => ?_); clear h1
  refine s_go (t := 16) (by decide +kernel) ?_
  exact hk16 hc0 h2
set_option maxRecDepth 100000 in
set_option maxHeartbeats 4000000 in
def fX1_advance_b16 (fu : Nat) (sh : HS) (R : HR) (k16 : HI → Nat → Option HI) (k68 : HI → Nat → Option HI) (I : HI) (l0 : Nat) : Option HI :=
  (oI sh I l0 1 2).bind fun v4 =>
  (oI sh I l0 1 1).bind fun v5 =>
  if v5 ≤ v4 then
    (k68 I l0)
  else
    ((oR sh R l0 1 0).bind fun v6 =>
    (oI sh I l0 1 2).bind fun v7 =>
    (oA sh I v6 v7).bind fun v8 =>
    if v8 = 32 then
      ((fX1_advance_b55 fu sh R k16 k68) I l0)
    else
      ((oR sh R l0 1 0).bind fun v11 =>
      (oI sh I l0 1 2).bind fun v12 =>
      (oA sh I v11 v12).bind fun v13 =>
      if v13 = 10 then
        ((fX1_advance_b55 fu sh R k16 k68) I l0)
      else
        (k68 I l0)))
set_option maxRecDepth 100000 in
set_option maxHeartbeats 4000000 in
theorem vX1_advance_b16 {K J : Nat → Nat} {fu : Nat} {sh : HS} {R : HR} {F : VF} {o : HI} (hF : F (.inl none) sh o R) {k16 : HI → Nat → Option HI} {k68 : HI → Nat → Option HI} (hk16 : ∀ {I : HI} {l0 : Nat}  {c : Nat × Nat}, (c.1 ≤ 0 ∧ c.2 ≤ 0) → k16 I l0 = some o → V K J 25 16 [some (.ref l0)] [] sh I R c F) (hk68 : ∀ {I : HI} {l0 : Nat}  {c : Nat × Nat}, (c.1 ≤ 0 ∧ c.2 ≤ 0) → k68 I l0 = some o → V K J 25 68 [some (.ref l0)] [] sh I R c F) {I : HI} {l0 : Nat} {c : Nat × Nat} (hc0 : c.1 ≤ 0 ∧ c.2 ≤ 0) (h0 : fX1_advance_b16 fu sh R k16 k68 I l0 = some o) : V K J 25 16 [some (.ref l0)] [] sh I R c F := by
  unfold fX1_advance_b16 at h0
  refine s_rl (i := 0) (pc' := 17) (by decide +kernel) rfl ?_
  refine s_gI (t := 1) (j := 2) (ty := 0) (pc' := 20) (by decide +kernel) rfl h0 (fun v4 h1 => ?_); clear h0
  refine s_rl (i := 0) (pc' := 21) (by decide +kernel) rfl ?_
  refine s_gI (t := 1) (j := 1) (ty := 0) (pc' := 24) (by decide +kernel) rfl h1 (fun v5 h2 => ?_); clear h1
  refine s_if (ins := .if_icmp .ge 44) (t := 68) (pc' := 27) (by decide +kernel) rfl rfl rfl h2 (fun p3 h3 => ?_) (fun p3 h3 => ?_) <;> clear h2
  · exact hk68 hc0 h3
  · refine s_rl (i := 0) (pc' := 28) (by decide +kernel) rfl ?_
    refine s_gR (t := 1) (j := 0) (pc' := 31) (by decide +kernel) h3 (fun v6 h4 => ?_); clear h3
    refine s_rl (i := 0) (pc' := 32) (by decide +kernel) rfl ?_
    refine s_gI (t := 1) (j := 2) (ty := 0) (pc' := 35) (by decide +kernel) rfl h4 (fun v7 h5 => ?_); clear h4
    refine s_al (pc' := 36) (by decide +kernel) h5 (fun v8 h6 => ?_); clear h5
    refine s_c (v := 32) (pc' := 38) (by decide +kernel) ?_
    refine s_if (ins := .if_icmp .eq 17) (t := 55) (pc' := 41) (by decide +kernel) rfl rfl rfl h6 (fun p7 h7 => ?_) (fun p7 h7 => ?_) <;> clear h6
    · exact (vX1_advance_b55 hF hk16 hk68) hc0 h7
    · refine s_rl (i := 0) (pc' := 42) (by decide +kernel) rfl ?_
      refine s_gR (t := 1) (j := 0) (pc' := 45) (by decide +kernel) h7 (fun v11 h8 => ?_); clear h7
      refine s_rl (i := 0) (pc' := 46) (by decide +kernel) rfl ?_
      refine s_gI (t := 1) (j := 2) (ty := 0) (pc' := 49) (by decide +kernel) rfl h8 (fun v12 h9 => ?_); clear h8
      refine s_al (pc' := 50) (by decide +kernel) h9 (fun v13 h10 => ?_); clear h9
      refine s_c (v := 10) (pc' := 52) (by decide +kernel) ?_
      refine s_ifn (ins := .if_icmp .ne 16) (t := 68) (pc' := 55) (by decide +kernel) rfl rfl rfl h10 (fun p11 h11 => ?_) (fun p11 h11 => ?_) <;> clear h10
      · exact hk68 hc0 h11
      · exact (vX1_advance_b55 hF hk16 hk68) hc0 h11
set_option maxRecDepth 100000 in
set_option maxHeartbeats 4000000 in
def fX1_advance_l16 (fu : Nat) (sh : HS) (R : HR) (k68 : HI → Nat → Option HI) : Nat → HI → Nat → Option HI
  | 0 => fun _ _ => none
  | n + 1 => fX1_advance_b16 fu sh R (fX1_advance_l16 fu sh R k68 n) k68
set_option maxRecDepth 100000 in
set_option maxHeartbeats 4000000 in
theorem vX1_advance_l16 {K J : Nat → Nat} {fu : Nat} {sh : HS} {R : HR} {F : VF} {o : HI} (hF : F (.inl none) sh o R) {k68 : HI → Nat → Option HI} (hk68 : ∀ {I : HI} {l0 : Nat}  {c : Nat × Nat}, (c.1 ≤ 0 ∧ c.2 ≤ 0) → k68 I l0 = some o → V K J 25 68 [some (.ref l0)] [] sh I R c F) : ∀ (n : Nat) {I : HI} {l0 : Nat} {c : Nat × Nat} (_ : c.1 ≤ 0 ∧ c.2 ≤ 0) (_ : fX1_advance_l16 fu sh R k68 n I l0 = some o), V K J 25 16 [some (.ref l0)] [] sh I R c F := by
  intro n
  induction n with
  | zero => exact fun _ h0 => nomatch h0
  | succ n ih => exact fun hc0 h0 => vX1_advance_b16 hF ih hk68 hc0 h0
set_option maxRecDepth 100000 in
set_option maxHeartbeats 4000000 in
def fX1_advance_b172 (fu : Nat) (sh : HS) (R : HR) (I : HI) : Option HI :=
  some I
set_option maxRecDepth 100000 in
set_option maxHeartbeats 4000000 in
theorem vX1_advance_b172 {K J : Nat → Nat} {fu : Nat} {sh : HS} {R : HR} {F : VF} {o : HI} (hF : F (.inl none) sh o R) {I : HI} {d0 : Option Value} {c : Nat × Nat} (hc0 : c.1 ≤ 0 ∧ c.2 ≤ 0) (h0 : fX1_advance_b172 fu sh R I = some o) : V K J 25 172 [d0] [] sh I R c F := by
  unfold fX1_advance_b172 at h0
  have e9 := Option.some.inj h0; subst e9
  exact s_rv (X := 0) (Y := 0) (by decide +kernel) hc0 hF
set_option maxRecDepth 100000 in
set_option maxHeartbeats 4000000 in
def fX1_advance_b159 (fu : Nat) (sh : HS) (R : HR) (I : HI) (l0 : Nat) (s0 : Int32) (s1 : Nat) : Option HI :=
  (oP sh I s1 1 4 s0).bind fun v29 =>
  (oI sh v29 l0 1 2).bind fun v30 =>
  (oP sh v29 l0 1 3 (v30 + 1)).bind fun v31 =>
  (fX1_advance_b172 fu sh R) v31
set_option maxRecDepth 100000 in
set_option maxHeartbeats 4000000 in
theorem vX1_advance_b159 {K J : Nat → Nat} {fu : Nat} {sh : HS} {R : HR} {F : VF} {o : HI} (hF : F (.inl none) sh o R) {I : HI} {l0 : Nat} {s0 : Int32} {s1 : Nat} {c : Nat × Nat} (hc0 : c.1 ≤ 0 ∧ c.2 ≤ 0) (h0 : fX1_advance_b159 fu sh R I l0 s0 s1 = some o) : V K J 25 159 [some (.ref l0)] [.int s0, .ref s1] sh I R c F := by
  unfold fX1_advance_b159 at h0
  refine s_pI (t := 1) (j := 4) (ty := 0) (pc' := 162) (by decide +kernel) (Or.inl rfl) h0 (fun v29 h1 => ?_); clear h0
  refine s_rl (i := 0) (pc' := 163) (by decide +kernel) rfl ?_
  refine s_rl (i := 0) (pc' := 164) (by decide +kernel) rfl ?_
  refine s_gI (t := 1) (j := 2) (ty := 0) (pc' := 167) (by decide +kernel) rfl h1 (fun v30 h2 => ?_); clear h1
  refine s_c (v := 1) (pc' := 168) (by decide +kernel) ?_
  refine s_a (ins := .iadd) (pc' := 169) (by decide +kernel) rfl ?_
  refine s_pI (t := 1) (j := 3) (ty := 0) (pc' := 172) (by decide +kernel) (Or.inl rfl) h2 (fun v31 h3 => ?_); clear h2
  exact (vX1_advance_b172 hF) hc0 h3
set_option maxRecDepth 100000 in
set_option maxHeartbeats 4000000 in
def fX1_advance_b68 (fu : Nat) (sh : HS) (R : HR) (I : HI) (l0 : Nat) : Option HI :=
  (oI sh I l0 1 2).bind fun v14 =>
  (oP sh I l0 1 3 v14).bind fun v15 =>
  (oI sh v15 l0 1 2).bind fun v16 =>
  (oI sh v15 l0 1 1).bind fun v17 =>
  if v16 < v17 then
    ((oR sh R l0 1 0).bind fun v18 =>
    (oI sh v15 l0 1 2).bind fun v19 =>
    (oA sh v15 v18 v19).bind fun v20 =>
    (fX1_isDigit fu sh v15 R v20).bind fun v21 =>
    if v21 = 0 then
      ((oR sh R l0 1 0).bind fun v22 =>
      (oI sh v15 l0 1 2).bind fun v23 =>
      (oA sh v15 v22 v23).bind fun v24 =>
      (fX1_isLetter fu sh v15 R v24).bind fun v25 =>
      if v25 = 0 then
        ((oR sh R l0 1 0).bind fun v26 =>
        (oI sh v15 l0 1 2).bind fun v27 =>
        (oA sh v15 v26 v27).bind fun v28 =>
        if v28 = 59 then
          ((fX1_advance_b159 fu sh R) v15 l0 3 l0)
        else
          ((fX1_advance_b159 fu sh R) v15 l0 4 l0))
      else
        ((fX1_scanKeyword fu sh v15 R l0).bind fun w32 =>
        (fX1_advance_b172 fu sh R) w32))
    else
      ((fX1_scanNumber fu sh v15 R l0).bind fun w33 =>
      (fX1_advance_b172 fu sh R) w33))
  else
    ((oP sh v15 l0 1 4 0).bind fun v34 =>
    (fX1_advance_b172 fu sh R) v34)
set_option maxRecDepth 100000 in
set_option maxHeartbeats 4000000 in
theorem vX1_advance_b68 {K J : Nat → Nat} {fu : Nat} {sh : HS} {R : HR} {F : VF} {o : HI} (hF : F (.inl none) sh o R) {I : HI} {l0 : Nat} {c : Nat × Nat} (hc0 : c.1 ≤ 0 ∧ c.2 ≤ 0) (h0 : fX1_advance_b68 fu sh R I l0 = some o) : V K J 25 68 [some (.ref l0)] [] sh I R c F := by
  unfold fX1_advance_b68 at h0
  refine s_rl (i := 0) (pc' := 69) (by decide +kernel) rfl ?_
  refine s_rl (i := 0) (pc' := 70) (by decide +kernel) rfl ?_
  refine s_gI (t := 1) (j := 2) (ty := 0) (pc' := 73) (by decide +kernel) rfl h0 (fun v14 h1 => ?_); clear h0
  refine s_pI (t := 1) (j := 3) (ty := 0) (pc' := 76) (by decide +kernel) (Or.inl rfl) h1 (fun v15 h2 => ?_); clear h1
  refine s_rl (i := 0) (pc' := 77) (by decide +kernel) rfl ?_
  refine s_gI (t := 1) (j := 2) (ty := 0) (pc' := 80) (by decide +kernel) rfl h2 (fun v16 h3 => ?_); clear h2
  refine s_rl (i := 0) (pc' := 81) (by decide +kernel) rfl ?_
  refine s_gI (t := 1) (j := 1) (ty := 0) (pc' := 84) (by decide +kernel) rfl h3 (fun v17 h4 => ?_); clear h3
  refine s_if (ins := .if_icmp .lt 11) (t := 95) (pc' := 87) (by decide +kernel) rfl rfl rfl h4 (fun p5 h5 => ?_) (fun p5 h5 => ?_) <;> clear h4
  · refine s_rl (i := 0) (pc' := 96) (by decide +kernel) rfl ?_
    refine s_gR (t := 1) (j := 0) (pc' := 99) (by decide +kernel) h5 (fun v18 h6 => ?_); clear h5
    refine s_rl (i := 0) (pc' := 100) (by decide +kernel) rfl ?_
    refine s_gI (t := 1) (j := 2) (ty := 0) (pc' := 103) (by decide +kernel) rfl h6 (fun v19 h7 => ?_); clear h6
    refine s_al (pc' := 104) (by decide +kernel) h7 (fun v20 h8 => ?_); clear h7
    refine kX1_isDigit (X := 0) (Y := 0) (X' := 0) (Y' := 0) (pc' := 107) (by decide +kernel) hc0 rfl h8 (fun v21 c hc1 h9 => ?_); clear h8 hc0
    refine s_if (ins := .ifCond .eq 10) (t := 117) (pc' := 110) (by decide +kernel) rfl rfl rfl h9 (fun p10 h10 => ?_) (fun p10 h10 => ?_) <;> clear h9
    · refine s_rl (i := 0) (pc' := 118) (by decide +kernel) rfl ?_
      refine s_gR (t := 1) (j := 0) (pc' := 121) (by decide +kernel) h10 (fun v22 h11 => ?_); clear h10
      refine s_rl (i := 0) (pc' := 122) (by decide +kernel) rfl ?_
      refine s_gI (t := 1) (j := 2) (ty := 0) (pc' := 125) (by decide +kernel) rfl h11 (fun v23 h12 => ?_); clear h11
      refine s_al (pc' := 126) (by decide +kernel) h12 (fun v24 h13 => ?_); clear h12
      refine kX1_isLetter (X := 0) (Y := 0) (X' := 0) (Y' := 0) (pc' := 129) (by decide +kernel) hc1 rfl h13 (fun v25 c hc2 h14 => ?_); clear h13 hc1
      refine s_if (ins := .ifCond .eq 10) (t := 139) (pc' := 132) (by decide +kernel) rfl rfl rfl h14 (fun p15 h15 => ?_) (fun p15 h15 => ?_) <;> clear h14
      · refine s_rl (i := 0) (pc' := 140) (by decide +kernel) rfl ?_
        refine s_rl (i := 0) (pc' := 141) (by decide +kernel) rfl ?_
        refine s_gR (t := 1) (j := 0) (pc' := 144) (by decide +kernel) h15 (fun v26 h16 => ?_); clear h15
        refine s_rl (i := 0) (pc' := 145) (by decide +kernel) rfl ?_
        refine s_gI (t := 1) (j := 2) (ty := 0) (pc' := 148) (by decide +kernel) rfl h16 (fun v27 h17 => ?_); clear h16
        refine s_al (pc' := 149) (by decide +kernel) h17 (fun v28 h18 => ?_); clear h17
        refine s_c (v := 59) (pc' := 151) (by decide +kernel) ?_
        refine s_ifn (ins := .if_icmp .ne 7) (t := 158) (pc' := 154) (by decide +kernel) rfl rfl rfl h18 (fun p19 h19 => ?_) (fun p19 h19 => ?_) <;> clear h18
        · refine s_c (v := 4) (pc' := 159) (by decide +kernel) ?_
          exact (vX1_advance_b159 hF) hc2 h19
        · refine s_c (v := 3) (pc' := 155) (by decide +kernel) ?_
          refine s_go (t := 159) (by decide +kernel) ?_
          exact (vX1_advance_b159 hF) hc2 h19
      · refine s_rl (i := 0) (pc' := 133) (by decide +kernel) rfl ?_
        refine kX1_scanKeyword (X := 0) (Y := 0) (X' := 0) (Y' := 0) (pc' := 136) (by decide +kernel) hc2 rfl h15 (fun w32 c hc3 h16 => ?_); clear h15 hc2
        refine s_go (t := 172) (by decide +kernel) ?_
        exact (vX1_advance_b172 hF) hc3 h16
    · refine s_rl (i := 0) (pc' := 111) (by decide +kernel) rfl ?_
      refine kX1_scanNumber (X := 0) (Y := 0) (X' := 0) (Y' := 0) (pc' := 114) (by decide +kernel) hc1 rfl h10 (fun w33 c hc2 h11 => ?_); clear h10 hc1
      refine s_go (t := 172) (by decide +kernel) ?_
      exact (vX1_advance_b172 hF) hc2 h11
  · refine s_rl (i := 0) (pc' := 88) (by decide +kernel) rfl ?_
    refine s_c (v := 0) (pc' := 89) (by decide +kernel) ?_
    refine s_pI (t := 1) (j := 4) (ty := 0) (pc' := 92) (by decide +kernel) (Or.inl rfl) h5 (fun v34 h6 => ?_); clear h5
    refine s_go (t := 172) (by decide +kernel) ?_
    exact (vX1_advance_b172 hF) hc0 h6
set_option maxRecDepth 100000 in
set_option maxHeartbeats 4000000 in
def fX1_advance (fu : Nat) (sh : HS) (I : HI) (R : HR) (l0 : Nat) : Option HI :=
  if isT sh l0 1 = true then
    ((oI sh I l0 1 6).bind fun v1 =>
    if v1 = 0 then
      ((oI sh I l0 1 3).bind fun v2 =>
      (oP sh I l0 1 2 v2).bind fun v3 =>
      (fX1_advance_l16 fu sh R (fX1_advance_b68 fu sh R) fu) v3 l0)
    else
      (some I))
  else none
set_option maxRecDepth 100000 in
set_option maxHeartbeats 4000000 in
theorem vX1_advance {K J : Nat → Nat} {fu : Nat} {sh : HS} {I : HI} {R : HR} {F : VF} {o : HI} (hF : F (.inl none) sh o R) {l0 : Nat} (h0 : fX1_advance fu sh I R l0 = some o) : V K J 25 0 (ent 1 [.ref l0]) [] sh I R (0, 0) F := by
  unfold fX1_advance at h0
  obtain ⟨-, h1⟩ := gd h0; clear h0
  have hc0 : ((0 : Nat), (0 : Nat)).1 ≤ 0 ∧ ((0 : Nat), (0 : Nat)).2 ≤ 0 := ⟨Nat.le_refl _, Nat.le_refl _⟩
  show V K J 25 0 [some (.ref l0)] [] sh I R (0, 0) F
  refine s_rl (i := 0) (pc' := 1) (by decide +kernel) rfl ?_
  refine s_gI (t := 1) (j := 6) (ty := 0) (pc' := 4) (by decide +kernel) rfl h1 (fun v1 h2 => ?_); clear h1
  refine s_if (ins := .ifCond .eq 4) (t := 8) (pc' := 7) (by decide +kernel) rfl rfl rfl h2 (fun p3 h3 => ?_) (fun p3 h3 => ?_) <;> clear h2
  · refine s_rl (i := 0) (pc' := 9) (by decide +kernel) rfl ?_
    refine s_rl (i := 0) (pc' := 10) (by decide +kernel) rfl ?_
    refine s_gI (t := 1) (j := 3) (ty := 0) (pc' := 13) (by decide +kernel) rfl h3 (fun v2 h4 => ?_); clear h3
    refine s_pI (t := 1) (j := 2) (ty := 0) (pc' := 16) (by decide +kernel) (Or.inl rfl) h4 (fun v3 h5 => ?_); clear h4
    exact (vX1_advance_l16 hF (vX1_advance_b68 hF) fu) hc0 h5
  · have e9 := Option.some.inj h3; subst e9
    exact s_rv (X := 0) (Y := 0) (by decide +kernel) hc0 hF
set_option maxRecDepth 100000 in
set_option maxHeartbeats 4000000 in
theorem kX1_advance {K J : Nat → Nat} {fu : Nat} {sh : HS} {I : HI} {R : HR} {F : VF} {mi pc pc' X Y X' Y' : Nat} {L : VL} {rest : List Value} {c : Nat × Nat} {l0 : Nat} {ω : Type} {o : ω} {g : HI → Option ω} (hq : cQ mi pc 25 1 pc' X Y X' Y' = true) (hc : c.1 ≤ X ∧ c.2 ≤ Y) (hr : Nat.ble (catS rest) 8 = true) (h : (fX1_advance fu sh I R l0).bind g = some o) (kk : ∀ w c', (c'.1 ≤ X' ∧ c'.2 ≤ Y') → g w = some o → V K J mi pc' L (rest) sh w R c' F) : V K J mi pc L (.ref l0 :: rest) sh I R c F := by
  obtain ⟨r, h1, h2⟩ := bnd h
  have hT : isT sh l0 1 = true := by unfold fX1_advance at h1; exact (gd h1).1
  have ml : mL 25 = 1 := by decide +kernel
  have mk : mK 25 = 1 := by decide +kernel
  have mc : mC 25 = 1 := by decide +kernel
  refine s_call (as := [.ref l0]) (G := fun o' sh' I' R' => o' = .inl none ∧ sh' = sh ∧ I' = r ∧ R' = R) hq hc rfl hr (by rw [ml]; rfl) (Or.inl rfl) (fun _ => Or.inl (Or.inl ⟨by rw [mc]; decide, by rw [mc]; exact isT_iff.mp hT⟩)) (fun z => absurd (mk.symm.trans z) (by decide)) (by rw [ml]; exact vX1_advance (F := fun o' sh' I' R' => o' = .inl none ∧ sh' = sh ∧ I' = r ∧ R' = R) ⟨rfl, rfl, rfl, rfl⟩ h1) ?_ ?_ ?_
  · rintro sh' I' R' c' hc' ⟨g1, rfl, rfl, rfl⟩
    cases g1
    exact kk _ _ hc' h2
  · rintro v' sh' I' R' c' hc' ⟨g1, rfl, rfl, rfl⟩
    cases g1
  · rintro E' sh' I' R' ⟨g1, rfl, rfl, rfl⟩
    cases g1
set_option maxRecDepth 100000 in
set_option maxHeartbeats 4000000 in
def fX1_isKeyword_b24 (fu : Nat) (sh : HS) (I : HI) (R : HR) : Option Int32 :=
  some 0
set_option maxRecDepth 100000 in
set_option maxHeartbeats 4000000 in
theorem vX1_isKeyword_b24 {K J : Nat → Nat} {fu : Nat} {sh : HS} {I : HI} {R : HR} {F : VF} {o : Int32} (hF : F (.inl (some (.int o))) sh I R) {d0 d1 d2 : Option Value} {c : Nat × Nat} (hc0 : c.1 ≤ 0 ∧ c.2 ≤ 0) (h0 : fX1_isKeyword_b24 fu sh I R = some o) : V K J 28 24 [d0, d1, d2] [] sh I R c F := by
  unfold fX1_isKeyword_b24 at h0
  refine s_c (v := 0) (pc' := 25) (by decide +kernel) ?_
  have e9 := Option.some.inj h0; subst e9
  exact s_rz (X := 0) (Y := 0) (by decide +kernel) (by decide) hc0 hF
set_option maxRecDepth 100000 in
set_option maxHeartbeats 4000000 in
def fX1_isKeyword_b28 (fu : Nat) (sh : HS) (I : HI) (R : HR) (k28 : Nat → Nat → Int32 → Option Int32) (l0 : Nat) (l1 : Nat) (l2 : Int32) : Option Int32 :=
  (fJ0_length_8abf5 fu sh I R l1).bind fun v5 =>
  if v5 ≤ l2 then
    (some 1)
  else
    ((oR sh R l0 1 0).bind fun v6 =>
    (oI sh I l0 1 2).bind fun v7 =>
    (oA sh I v6 (v7 + l2)).bind fun v8 =>
    (fJ0_charAt_5068e fu sh I R l1 l2).bind fun v9 =>
    if v8 = v9 then
      (k28 l0 l1 (l2 + 1))
    else
      (some 0))
set_option maxRecDepth 100000 in
set_option maxHeartbeats 4000000 in
theorem vX1_isKeyword_b28 {K J : Nat → Nat} {fu : Nat} {sh : HS} {I : HI} {R : HR} {F : VF} {o : Int32} (hF : F (.inl (some (.int o))) sh I R) {k28 : Nat → Nat → Int32 → Option Int32} (hk28 : ∀ {l0 : Nat} {l1 : Nat} {l2 : Int32}  {c : Nat × Nat}, (c.1 ≤ 0 ∧ c.2 ≤ 0) → k28 l0 l1 l2 = some o → V K J 28 28 [some (.ref l0), some (.ref (K l1)), some (.int l2)] [] sh I R c F) {l0 : Nat} {l1 : Nat} {l2 : Int32} {c : Nat × Nat} (hc0 : c.1 ≤ 0 ∧ c.2 ≤ 0) (h0 : fX1_isKeyword_b28 fu sh I R k28 l0 l1 l2 = some o) : V K J 28 28 [some (.ref l0), some (.ref (K l1)), some (.int l2)] [] sh I R c F := by
  unfold fX1_isKeyword_b28 at h0
  refine s_il (i := 2) (pc' := 29) (by decide +kernel) rfl ?_
  refine s_rl (i := 1) (pc' := 30) (by decide +kernel) rfl ?_
  refine kJ0_length_8abf5 (X := 0) (Y := 0) (X' := 0) (Y' := 0) (pc' := 33) (by decide +kernel) hc0 rfl h0 (fun v5 c hc1 h1 => ?_); clear h0 hc0
  refine s_if (ins := .if_icmp .ge 30) (t := 63) (pc' := 36) (by decide +kernel) rfl rfl rfl h1 (fun p2 h2 => ?_) (fun p2 h2 => ?_) <;> clear h1
  · refine s_c (v := 1) (pc' := 64) (by decide +kernel) ?_
    have e9 := Option.some.inj h2; subst e9
    exact s_rz (X := 0) (Y := 0) (by decide +kernel) (by decide) hc1 hF
  · refine s_rl (i := 0) (pc' := 37) (by decide +kernel) rfl ?_
    refine s_gR (t := 1) (j := 0) (pc' := 40) (by decide +kernel) h2 (fun v6 h3 => ?_); clear h2
    refine s_rl (i := 0) (pc' := 41) (by decide +kernel) rfl ?_
    refine s_gI (t := 1) (j := 2) (ty := 0) (pc' := 44) (by decide +kernel) rfl h3 (fun v7 h4 => ?_); clear h3
    refine s_il (i := 2) (pc' := 45) (by decide +kernel) rfl ?_
    refine s_a (ins := .iadd) (pc' := 46) (by decide +kernel) rfl ?_
    refine s_al (pc' := 47) (by decide +kernel) h4 (fun v8 h5 => ?_); clear h4
    refine s_rl (i := 1) (pc' := 48) (by decide +kernel) rfl ?_
    refine s_il (i := 2) (pc' := 49) (by decide +kernel) rfl ?_
    refine kJ0_charAt_5068e (X := 0) (Y := 0) (X' := 0) (Y' := 0) (pc' := 52) (by decide +kernel) hc1 rfl h5 (fun v9 c hc2 h6 => ?_); clear h5 hc1
    refine s_if (ins := .if_icmp .eq 5) (t := 57) (pc' := 55) (by decide +kernel) rfl rfl rfl h6 (fun p7 h7 => ?_) (fun p7 h7 => ?_) <;> clear h6
    · refine s_inc (i := 2) (z := 1) (pc' := 60) (L' := [some (.ref l0), some (.ref (K l1)), some (.int (l2 + 1))]) (by decide +kernel) rfl rfl rfl ?_
      refine s_go (t := 28) (by decide +kernel) ?_
      exact hk28 hc2 h7
    · refine s_c (v := 0) (pc' := 56) (by decide +kernel) ?_
      have e9 := Option.some.inj h7; subst e9
      exact s_rz (X := 0) (Y := 0) (by decide +kernel) (by decide) hc2 hF
set_option maxRecDepth 100000 in
set_option maxHeartbeats 4000000 in
def fX1_isKeyword_l28 (fu : Nat) (sh : HS) (I : HI) (R : HR) : Nat → Nat → Nat → Int32 → Option Int32
  | 0 => fun _ _ _ => none
  | n + 1 => fX1_isKeyword_b28 fu sh I R (fX1_isKeyword_l28 fu sh I R n)
set_option maxRecDepth 100000 in
set_option maxHeartbeats 4000000 in
theorem vX1_isKeyword_l28 {K J : Nat → Nat} {fu : Nat} {sh : HS} {I : HI} {R : HR} {F : VF} {o : Int32} (hF : F (.inl (some (.int o))) sh I R) : ∀ (n : Nat) {l0 : Nat} {l1 : Nat} {l2 : Int32} {c : Nat × Nat} (_ : c.1 ≤ 0 ∧ c.2 ≤ 0) (_ : fX1_isKeyword_l28 fu sh I R n l0 l1 l2 = some o), V K J 28 28 [some (.ref l0), some (.ref (K l1)), some (.int l2)] [] sh I R c F := by
  intro n
  induction n with
  | zero => exact fun _ h0 => nomatch h0
  | succ n ih => exact fun hc0 h0 => vX1_isKeyword_b28 hF ih hc0 h0
set_option maxRecDepth 100000 in
set_option maxHeartbeats 4000000 in
def fX1_isKeyword (fu : Nat) (sh : HS) (I : HI) (R : HR) (l0 : Nat) (l1 : Nat) : Option Int32 :=
  if isT sh l0 1 = true then
    ((oI sh I l0 1 4).bind fun v1 =>
    if v1 = 1 then
      ((oI sh I l0 1 3).bind fun v2 =>
      (oI sh I l0 1 2).bind fun v3 =>
      (fJ0_length_8abf5 fu sh I R l1).bind fun v4 =>
      if (v2 - v3) = v4 then
        ((fX1_isKeyword_l28 fu sh I R fu) l0 l1 0)
      else
        ((fX1_isKeyword_b24 fu sh I R)))
    else
      ((fX1_isKeyword_b24 fu sh I R)))
  else none
set_option maxRecDepth 100000 in
set_option maxHeartbeats 4000000 in
theorem vX1_isKeyword {K J : Nat → Nat} {fu : Nat} {sh : HS} {I : HI} {R : HR} {F : VF} {o : Int32} (hF : F (.inl (some (.int o))) sh I R) {l0 : Nat} {l1 : Nat} (h0 : fX1_isKeyword fu sh I R l0 l1 = some o) : V K J 28 0 (ent 3 [.ref l0, .ref (K l1)]) [] sh I R (0, 0) F := by
  unfold fX1_isKeyword at h0
  obtain ⟨-, h1⟩ := gd h0; clear h0
  have hc0 : ((0 : Nat), (0 : Nat)).1 ≤ 0 ∧ ((0 : Nat), (0 : Nat)).2 ≤ 0 := ⟨Nat.le_refl _, Nat.le_refl _⟩
  show V K J 28 0 [some (.ref l0), some (.ref (K l1)), none] [] sh I R (0, 0) F
  refine s_rl (i := 0) (pc' := 1) (by decide +kernel) rfl ?_
  refine s_gI (t := 1) (j := 4) (ty := 0) (pc' := 4) (by decide +kernel) rfl h1 (fun v1 h2 => ?_); clear h1
  refine s_c (v := 1) (pc' := 5) (by decide +kernel) ?_
  refine s_ifn (ins := .if_icmp .ne 19) (t := 24) (pc' := 8) (by decide +kernel) rfl rfl rfl h2 (fun p3 h3 => ?_) (fun p3 h3 => ?_) <;> clear h2
  · exact (vX1_isKeyword_b24 hF) hc0 h3
  · refine s_rl (i := 0) (pc' := 9) (by decide +kernel) rfl ?_
    refine s_gI (t := 1) (j := 3) (ty := 0) (pc' := 12) (by decide +kernel) rfl h3 (fun v2 h4 => ?_); clear h3
    refine s_rl (i := 0) (pc' := 13) (by decide +kernel) rfl ?_
    refine s_gI (t := 1) (j := 2) (ty := 0) (pc' := 16) (by decide +kernel) rfl h4 (fun v3 h5 => ?_); clear h4
    refine s_a (ins := .isub) (pc' := 17) (by decide +kernel) rfl ?_
    refine s_rl (i := 1) (pc' := 18) (by decide +kernel) rfl ?_
    refine kJ0_length_8abf5 (X := 0) (Y := 0) (X' := 0) (Y' := 0) (pc' := 21) (by decide +kernel) hc0 rfl h5 (fun v4 c hc1 h6 => ?_); clear h5 hc0
    refine s_if (ins := .if_icmp .eq 5) (t := 26) (pc' := 24) (by decide +kernel) rfl rfl rfl h6 (fun p7 h7 => ?_) (fun p7 h7 => ?_) <;> clear h6
    · refine s_c (v := 0) (pc' := 27) (by decide +kernel) ?_
      refine s_is (i := 2) (pc' := 28) (L' := [some (.ref l0), some (.ref (K l1)), some (.int 0)]) (by decide +kernel) rfl rfl ?_
      exact (vX1_isKeyword_l28 hF fu) hc1 h7
    · exact (vX1_isKeyword_b24 hF) hc1 h7
set_option maxRecDepth 100000 in
set_option maxHeartbeats 4000000 in
theorem kX1_isKeyword {K J : Nat → Nat} {fu : Nat} {sh : HS} {I : HI} {R : HR} {F : VF} {mi pc pc' X Y X' Y' : Nat} {L : VL} {rest : List Value} {c : Nat × Nat} {l0 : Nat} {l1 : Nat} {ω : Type} {o : ω} {g : Int32 → Option ω} (hq : cQ mi pc 28 2 pc' X Y X' Y' = true) (hc : c.1 ≤ X ∧ c.2 ≤ Y) (hr : Nat.ble (catS rest) 8 = true) (h : (fX1_isKeyword fu sh I R l0 l1).bind g = some o) (kk : ∀ v c', (c'.1 ≤ X' ∧ c'.2 ≤ Y') → g v = some o → V K J mi pc' L ((.int v) :: rest) sh I R c' F) : V K J mi pc L (.ref (K l1) :: .ref l0 :: rest) sh I R c F := by
  obtain ⟨r, h1, h2⟩ := bnd h
  have hT : isT sh l0 1 = true := by unfold fX1_isKeyword at h1; exact (gd h1).1
  have ml : mL 28 = 3 := by decide +kernel
  have mk : mK 28 = 1 := by decide +kernel
  have mc : mC 28 = 1 := by decide +kernel
  refine s_call (as := [.ref (K l1), .ref l0]) (G := fun o' sh' I' R' => o' = .inl (some (.int r)) ∧ sh' = sh ∧ I' = I ∧ R' = R) hq hc rfl hr (by rw [ml]; rfl) (Or.inl rfl) (fun _ => Or.inl (Or.inl ⟨by rw [mc]; decide, by rw [mc]; exact isT_iff.mp hT⟩)) (fun z => absurd (mk.symm.trans z) (by decide)) (by rw [ml]; exact vX1_isKeyword (F := fun o' sh' I' R' => o' = .inl (some (.int r)) ∧ sh' = sh ∧ I' = I ∧ R' = R) ⟨rfl, rfl, rfl, rfl⟩ h1) ?_ ?_ ?_
  · rintro sh' I' R' c' hc' ⟨g1, rfl, rfl, rfl⟩
    cases g1
  · rintro v' sh' I' R' c' hc' ⟨g1, rfl, rfl, rfl⟩
    cases g1
    exact kk _ _ hc' h2
  · rintro E' sh' I' R' ⟨g1, rfl, rfl, rfl⟩
    cases g1
set_option maxRecDepth 100000 in
set_option maxHeartbeats 4000000 in
def fX1_fail_b12 (fu : Nat) (sh : HS) (R : HR) (I : HI) : Option HI :=
  some I
set_option maxRecDepth 100000 in
set_option maxHeartbeats 4000000 in
theorem vX1_fail_b12 {K J : Nat → Nat} {fu : Nat} {sh : HS} {R : HR} {F : VF} {o : HI} (hF : F (.inl none) sh o R) {I : HI} {d0 d1 : Option Value} {c : Nat × Nat} (hc0 : c.1 ≤ 0 ∧ c.2 ≤ 0) (h0 : fX1_fail_b12 fu sh R I = some o) : V K J 24 12 [d0, d1] [] sh I R c F := by
  unfold fX1_fail_b12 at h0
  have e9 := Option.some.inj h0; subst e9
  exact s_rv (X := 0) (Y := 0) (by decide +kernel) hc0 hF
set_option maxRecDepth 100000 in
set_option maxHeartbeats 4000000 in
def fX1_fail (fu : Nat) (sh : HS) (I : HI) (R : HR) (l0 : Nat) (l1 : Int32) : Option HI :=
  if isT sh l0 1 = true then
    ((oI sh I l0 1 6).bind fun v1 =>
    if v1 = 0 then
      ((oP sh I l0 1 6 l1).bind fun v2 =>
      (fX1_fail_b12 fu sh R) v2)
    else
      ((fX1_fail_b12 fu sh R) I))
  else none
set_option maxRecDepth 100000 in
set_option maxHeartbeats 4000000 in
theorem vX1_fail {K J : Nat → Nat} {fu : Nat} {sh : HS} {I : HI} {R : HR} {F : VF} {o : HI} (hF : F (.inl none) sh o R) {l0 : Nat} {l1 : Int32} (h0 : fX1_fail fu sh I R l0 l1 = some o) : V K J 24 0 (ent 2 [.ref l0, .int l1]) [] sh I R (0, 0) F := by
  unfold fX1_fail at h0
  obtain ⟨-, h1⟩ := gd h0; clear h0
  have hc0 : ((0 : Nat), (0 : Nat)).1 ≤ 0 ∧ ((0 : Nat), (0 : Nat)).2 ≤ 0 := ⟨Nat.le_refl _, Nat.le_refl _⟩
  show V K J 24 0 [some (.ref l0), some (.int l1)] [] sh I R (0, 0) F
  refine s_rl (i := 0) (pc' := 1) (by decide +kernel) rfl ?_
  refine s_gI (t := 1) (j := 6) (ty := 0) (pc' := 4) (by decide +kernel) rfl h1 (fun v1 h2 => ?_); clear h1
  refine s_ifn (ins := .ifCond .ne 8) (t := 12) (pc' := 7) (by decide +kernel) rfl rfl rfl h2 (fun p3 h3 => ?_) (fun p3 h3 => ?_) <;> clear h2
  · exact (vX1_fail_b12 hF) hc0 h3
  · refine s_rl (i := 0) (pc' := 8) (by decide +kernel) rfl ?_
    refine s_il (i := 1) (pc' := 9) (by decide +kernel) rfl ?_
    refine s_pI (t := 1) (j := 6) (ty := 0) (pc' := 12) (by decide +kernel) (Or.inl rfl) h3 (fun v2 h4 => ?_); clear h3
    exact (vX1_fail_b12 hF) hc0 h4
set_option maxRecDepth 100000 in
set_option maxHeartbeats 4000000 in
theorem kX1_fail {K J : Nat → Nat} {fu : Nat} {sh : HS} {I : HI} {R : HR} {F : VF} {mi pc pc' X Y X' Y' : Nat} {L : VL} {rest : List Value} {c : Nat × Nat} {l0 : Nat} {l1 : Int32} {ω : Type} {o : ω} {g : HI → Option ω} (hq : cQ mi pc 24 2 pc' X Y X' Y' = true) (hc : c.1 ≤ X ∧ c.2 ≤ Y) (hr : Nat.ble (catS rest) 8 = true) (h : (fX1_fail fu sh I R l0 l1).bind g = some o) (kk : ∀ w c', (c'.1 ≤ X' ∧ c'.2 ≤ Y') → g w = some o → V K J mi pc' L (rest) sh w R c' F) : V K J mi pc L (.int l1 :: .ref l0 :: rest) sh I R c F := by
  obtain ⟨r, h1, h2⟩ := bnd h
  have hT : isT sh l0 1 = true := by unfold fX1_fail at h1; exact (gd h1).1
  have ml : mL 24 = 2 := by decide +kernel
  have mk : mK 24 = 1 := by decide +kernel
  have mc : mC 24 = 1 := by decide +kernel
  refine s_call (as := [.int l1, .ref l0]) (G := fun o' sh' I' R' => o' = .inl none ∧ sh' = sh ∧ I' = r ∧ R' = R) hq hc rfl hr (by rw [ml]; rfl) (Or.inl rfl) (fun _ => Or.inl (Or.inl ⟨by rw [mc]; decide, by rw [mc]; exact isT_iff.mp hT⟩)) (fun z => absurd (mk.symm.trans z) (by decide)) (by rw [ml]; exact vX1_fail (F := fun o' sh' I' R' => o' = .inl none ∧ sh' = sh ∧ I' = r ∧ R' = R) ⟨rfl, rfl, rfl, rfl⟩ h1) ?_ ?_ ?_
  · rintro sh' I' R' c' hc' ⟨g1, rfl, rfl, rfl⟩
    cases g1
    exact kk _ _ hc' h2
  · rintro v' sh' I' R' c' hc' ⟨g1, rfl, rfl, rfl⟩
    cases g1
  · rintro E' sh' I' R' ⟨g1, rfl, rfl, rfl⟩
    cases g1
set_option maxRecDepth 100000 in
set_option maxHeartbeats 4000000 in
def fX1_seeNumber_b52 (fu : Nat) (sh : HS) (R : HR) (I : HI) (s0 : Int32) : Option (Int32 × HI) :=
  some (s0, I)
set_option maxRecDepth 100000 in
set_option maxHeartbeats 4000000 in
theorem vX1_seeNumber_b52 {K J : Nat → Nat} {fu : Nat} {sh : HS} {R : HR} {F : VF} {o : (Int32 × HI)} (hF : F (.inl (some (.int o.1))) sh o.2 R) {I : HI} {s0 : Int32} {d0 d1 d2 : Option Value} {c : Nat × Nat} (hc0 : c.1 ≤ 0 ∧ c.2 ≤ 0) (h0 : fX1_seeNumber_b52 fu sh R I s0 = some o) : V K J 21 52 [d0, d1, d2] [.int s0] sh I R c F := by
  unfold fX1_seeNumber_b52 at h0
  have e9 := Option.some.inj h0; subst e9
  exact s_ri (X := 0) (Y := 0) (by decide +kernel) hc0 hF
set_option maxRecDepth 100000 in
set_option maxHeartbeats 4000000 in
def fX1_seeNumber_b37 (fu : Nat) (sh : HS) (R : HR) (I : HI) (l0 : Nat) (l1 : Int32) : Option (Int32 × HI) :=
  (oI sh I l0 1 6).bind fun v4 =>
  if v4 = 0 then
    ((oI sh I l0 1 5).bind fun v5 =>
    (fX1_seeNumber_b52 fu sh R) I v5)
  else
    ((fX1_seeNumber_b52 fu sh R) I l1)
set_option maxRecDepth 100000 in
set_option maxHeartbeats 4000000 in
theorem vX1_seeNumber_b37 {K J : Nat → Nat} {fu : Nat} {sh : HS} {R : HR} {F : VF} {o : (Int32 × HI)} (hF : F (.inl (some (.int o.1))) sh o.2 R) {I : HI} {l0 : Nat} {l1 : Int32} {d2 : Option Value} {c : Nat × Nat} (hc0 : c.1 ≤ 0 ∧ c.2 ≤ 0) (h0 : fX1_seeNumber_b37 fu sh R I l0 l1 = some o) : V K J 21 37 [some (.ref l0), some (.int l1), d2] [] sh I R c F := by
  unfold fX1_seeNumber_b37 at h0
  refine s_rl (i := 0) (pc' := 38) (by decide +kernel) rfl ?_
  refine s_gI (t := 1) (j := 6) (ty := 0) (pc' := 41) (by decide +kernel) rfl h0 (fun v4 h1 => ?_); clear h0
  refine s_ifn (ins := .ifCond .ne 10) (t := 51) (pc' := 44) (by decide +kernel) rfl rfl rfl h1 (fun p2 h2 => ?_) (fun p2 h2 => ?_) <;> clear h1
  · refine s_il (i := 1) (pc' := 52) (by decide +kernel) rfl ?_
    exact (vX1_seeNumber_b52 hF) hc0 h2
  · refine s_rl (i := 0) (pc' := 45) (by decide +kernel) rfl ?_
    refine s_gI (t := 1) (j := 5) (ty := 0) (pc' := 48) (by decide +kernel) rfl h2 (fun v5 h3 => ?_); clear h2
    refine s_go (t := 52) (by decide +kernel) ?_
    exact (vX1_seeNumber_b52 hF) hc0 h3
set_option maxRecDepth 100000 in
set_option maxHeartbeats 4000000 in
def fX1_seeNumber_b32 (fu : Nat) (sh : HS) (R : HR) (I : HI) (l0 : Nat) (l1 : Int32) : Option (Int32 × HI) :=
  (fX1_fail fu sh I R l0 2).bind fun w3 =>
  (fX1_seeNumber_b37 fu sh R) w3 l0 l1
set_option maxRecDepth 100000 in
set_option maxHeartbeats 4000000 in
theorem vX1_seeNumber_b32 {K J : Nat → Nat} {fu : Nat} {sh : HS} {R : HR} {F : VF} {o : (Int32 × HI)} (hF : F (.inl (some (.int o.1))) sh o.2 R) {I : HI} {l0 : Nat} {l1 : Int32} {d2 : Option Value} {c : Nat × Nat} (hc0 : c.1 ≤ 0 ∧ c.2 ≤ 0) (h0 : fX1_seeNumber_b32 fu sh R I l0 l1 = some o) : V K J 21 32 [some (.ref l0), some (.int l1), d2] [] sh I R c F := by
  unfold fX1_seeNumber_b32 at h0
  refine s_rl (i := 0) (pc' := 33) (by decide +kernel) rfl ?_
  refine s_c (v := 2) (pc' := 34) (by decide +kernel) ?_
  refine kX1_fail (X := 0) (Y := 0) (X' := 0) (Y' := 0) (pc' := 37) (by decide +kernel) hc0 rfl h0 (fun w3 c hc1 h1 => ?_); clear h0 hc0
  exact (vX1_seeNumber_b37 hF) hc1 h1
set_option maxRecDepth 100000 in
set_option maxHeartbeats 4000000 in
def fX1_seeNumber (fu : Nat) (sh : HS) (I : HI) (R : HR) (l0 : Nat) (l1 : Int32) (l2 : Int32) : Option (Int32 × HI) :=
  if isT sh l0 1 = true then
    ((oI sh I l0 1 4).bind fun v1 =>
    if v1 = 2 then
      ((oI sh I l0 1 5).bind fun v2 =>
      if v2 < l1 then
        ((fX1_seeNumber_b32 fu sh R) I l0 l1)
      else
        ((oI sh I l0 1 5).bind fun v6 =>
        if v6 ≤ l2 then
          ((fX1_seeNumber_b37 fu sh R) I l0 l1)
        else
          ((fX1_seeNumber_b32 fu sh R) I l0 l1)))
    else
      ((fX1_fail fu sh I R l0 1).bind fun w7 =>
      (fX1_seeNumber_b37 fu sh R) w7 l0 l1))
  else none
set_option maxRecDepth 100000 in
set_option maxHeartbeats 4000000 in
theorem vX1_seeNumber {K J : Nat → Nat} {fu : Nat} {sh : HS} {I : HI} {R : HR} {F : VF} {o : (Int32 × HI)} (hF : F (.inl (some (.int o.1))) sh o.2 R) {l0 : Nat} {l1 : Int32} {l2 : Int32} (h0 : fX1_seeNumber fu sh I R l0 l1 l2 = some o) : V K J 21 0 (ent 3 [.ref l0, .int l1, .int l2]) [] sh I R (0, 0) F := by
  unfold fX1_seeNumber at h0
  obtain ⟨-, h1⟩ := gd h0; clear h0
  have hc0 : ((0 : Nat), (0 : Nat)).1 ≤ 0 ∧ ((0 : Nat), (0 : Nat)).2 ≤ 0 := ⟨Nat.le_refl _, Nat.le_refl _⟩
  show V K J 21 0 [some (.ref l0), some (.int l1), some (.int l2)] [] sh I R (0, 0) F
  refine s_rl (i := 0) (pc' := 1) (by decide +kernel) rfl ?_
  refine s_gI (t := 1) (j := 4) (ty := 0) (pc' := 4) (by decide +kernel) rfl h1 (fun v1 h2 => ?_); clear h1
  refine s_c (v := 2) (pc' := 5) (by decide +kernel) ?_
  refine s_if (ins := .if_icmp .eq 11) (t := 16) (pc' := 8) (by decide +kernel) rfl rfl rfl h2 (fun p3 h3 => ?_) (fun p3 h3 => ?_) <;> clear h2
  · refine s_rl (i := 0) (pc' := 17) (by decide +kernel) rfl ?_
    refine s_gI (t := 1) (j := 5) (ty := 0) (pc' := 20) (by decide +kernel) rfl h3 (fun v2 h4 => ?_); clear h3
    refine s_il (i := 1) (pc' := 21) (by decide +kernel) rfl ?_
    refine s_if (ins := .if_icmp .lt 11) (t := 32) (pc' := 24) (by decide +kernel) rfl rfl rfl h4 (fun p5 h5 => ?_) (fun p5 h5 => ?_) <;> clear h4
    · exact (vX1_seeNumber_b32 hF) hc0 h5
    · refine s_rl (i := 0) (pc' := 25) (by decide +kernel) rfl ?_
      refine s_gI (t := 1) (j := 5) (ty := 0) (pc' := 28) (by decide +kernel) rfl h5 (fun v6 h6 => ?_); clear h5
      refine s_il (i := 2) (pc' := 29) (by decide +kernel) rfl ?_
      refine s_if (ins := .if_icmp .le 8) (t := 37) (pc' := 32) (by decide +kernel) rfl rfl rfl h6 (fun p7 h7 => ?_) (fun p7 h7 => ?_) <;> clear h6
      · exact (vX1_seeNumber_b37 hF) hc0 h7
      · exact (vX1_seeNumber_b32 hF) hc0 h7
  · refine s_rl (i := 0) (pc' := 9) (by decide +kernel) rfl ?_
    refine s_c (v := 1) (pc' := 10) (by decide +kernel) ?_
    refine kX1_fail (X := 0) (Y := 0) (X' := 0) (Y' := 0) (pc' := 13) (by decide +kernel) hc0 rfl h3 (fun w7 c hc1 h4 => ?_); clear h3 hc0
    refine s_go (t := 37) (by decide +kernel) ?_
    exact (vX1_seeNumber_b37 hF) hc1 h4
set_option maxRecDepth 100000 in
set_option maxHeartbeats 4000000 in
theorem kX1_seeNumber {K J : Nat → Nat} {fu : Nat} {sh : HS} {I : HI} {R : HR} {F : VF} {mi pc pc' X Y X' Y' : Nat} {L : VL} {rest : List Value} {c : Nat × Nat} {l0 : Nat} {l1 : Int32} {l2 : Int32} {ω : Type} {o : ω} {g : Int32 → HI → Option ω} (hq : cQ mi pc 21 3 pc' X Y X' Y' = true) (hc : c.1 ≤ X ∧ c.2 ≤ Y) (hr : Nat.ble (catS rest) 8 = true) (h : oH (fX1_seeNumber fu sh I R l0 l1 l2) g = some o) (kk : ∀ v w c', (c'.1 ≤ X' ∧ c'.2 ≤ Y') → g v w = some o → V K J mi pc' L ((.int v) :: rest) sh w R c' F) : V K J mi pc L (.int l2 :: .int l1 :: .ref l0 :: rest) sh I R c F := by
  obtain ⟨r, h1, h2⟩ := bnd h
  have hT : isT sh l0 1 = true := by unfold fX1_seeNumber at h1; exact (gd h1).1
  have ml : mL 21 = 3 := by decide +kernel
  have mk : mK 21 = 1 := by decide +kernel
  have mc : mC 21 = 1 := by decide +kernel
  obtain ⟨v, w⟩ := r
  refine s_call (as := [.int l2, .int l1, .ref l0]) (G := fun o' sh' I' R' => o' = .inl (some (.int v)) ∧ sh' = sh ∧ I' = w ∧ R' = R) hq hc rfl hr (by rw [ml]; rfl) (Or.inl rfl) (fun _ => Or.inl (Or.inl ⟨by rw [mc]; decide, by rw [mc]; exact isT_iff.mp hT⟩)) (fun z => absurd (mk.symm.trans z) (by decide)) (by rw [ml]; exact vX1_seeNumber (F := fun o' sh' I' R' => o' = .inl (some (.int v)) ∧ sh' = sh ∧ I' = w ∧ R' = R) ⟨rfl, rfl, rfl, rfl⟩ h1) ?_ ?_ ?_
  · rintro sh' I' R' c' hc' ⟨g1, rfl, rfl, rfl⟩
    cases g1
  · rintro v' sh' I' R' c' hc' ⟨g1, rfl, rfl, rfl⟩
    cases g1
    exact kk _ _ _ hc' h2
  · rintro E' sh' I' R' ⟨g1, rfl, rfl, rfl⟩
    cases g1
set_option maxRecDepth 100000 in
set_option maxHeartbeats 4000000 in
def fX1_takeNumber (fu : Nat) (sh : HS) (I : HI) (R : HR) (l0 : Nat) (l1 : Int32) (l2 : Int32) : Option (Int32 × HI) :=
  if isT sh l0 1 = true then
    (oH (fX1_seeNumber fu sh I R l0 l1 l2) fun v1 w1 =>
    (fX1_advance fu sh w1 R l0).bind fun w2 =>
    some (v1, w2))
  else none
set_option maxRecDepth 100000 in
set_option maxHeartbeats 4000000 in
theorem vX1_takeNumber {K J : Nat → Nat} {fu : Nat} {sh : HS} {I : HI} {R : HR} {F : VF} {o : (Int32 × HI)} (hF : F (.inl (some (.int o.1))) sh o.2 R) {l0 : Nat} {l1 : Int32} {l2 : Int32} (h0 : fX1_takeNumber fu sh I R l0 l1 l2 = some o) : V K J 22 0 (ent 4 [.ref l0, .int l1, .int l2]) [] sh I R (0, 0) F := by
  unfold fX1_takeNumber at h0
  obtain ⟨-, h1⟩ := gd h0; clear h0
  have hc0 : ((0 : Nat), (0 : Nat)).1 ≤ 0 ∧ ((0 : Nat), (0 : Nat)).2 ≤ 0 := ⟨Nat.le_refl _, Nat.le_refl _⟩
  show V K J 22 0 [some (.ref l0), some (.int l1), some (.int l2), none] [] sh I R (0, 0) F
  refine s_rl (i := 0) (pc' := 1) (by decide +kernel) rfl ?_
  refine s_il (i := 1) (pc' := 2) (by decide +kernel) rfl ?_
  refine s_il (i := 2) (pc' := 3) (by decide +kernel) rfl ?_
  refine kX1_seeNumber (X := 0) (Y := 0) (X' := 0) (Y' := 0) (pc' := 6) (by decide +kernel) hc0 rfl h1 (fun v1 w1 c hc1 h2 => ?_); clear h1 hc0
  refine s_is (i := 3) (pc' := 7) (L' := [some (.ref l0), some (.int l1), some (.int l2), some (.int v1)]) (by decide +kernel) rfl rfl ?_
  refine s_rl (i := 0) (pc' := 8) (by decide +kernel) rfl ?_
  refine kX1_advance (X := 0) (Y := 0) (X' := 0) (Y' := 0) (pc' := 11) (by decide +kernel) hc1 rfl h2 (fun w2 c hc2 h3 => ?_); clear h2 hc1
  refine s_il (i := 3) (pc' := 12) (by decide +kernel) rfl ?_
  have e9 := Option.some.inj h3; subst e9
  exact s_ri (X := 0) (Y := 0) (by decide +kernel) hc2 hF
set_option maxRecDepth 100000 in
set_option maxHeartbeats 4000000 in
theorem kX1_takeNumber {K J : Nat → Nat} {fu : Nat} {sh : HS} {I : HI} {R : HR} {F : VF} {mi pc pc' X Y X' Y' : Nat} {L : VL} {rest : List Value} {c : Nat × Nat} {l0 : Nat} {l1 : Int32} {l2 : Int32} {ω : Type} {o : ω} {g : Int32 → HI → Option ω} (hq : cQ mi pc 22 3 pc' X Y X' Y' = true) (hc : c.1 ≤ X ∧ c.2 ≤ Y) (hr : Nat.ble (catS rest) 8 = true) (h : oH (fX1_takeNumber fu sh I R l0 l1 l2) g = some o) (kk : ∀ v w c', (c'.1 ≤ X' ∧ c'.2 ≤ Y') → g v w = some o → V K J mi pc' L ((.int v) :: rest) sh w R c' F) : V K J mi pc L (.int l2 :: .int l1 :: .ref l0 :: rest) sh I R c F := by
  obtain ⟨r, h1, h2⟩ := bnd h
  have hT : isT sh l0 1 = true := by unfold fX1_takeNumber at h1; exact (gd h1).1
  have ml : mL 22 = 4 := by decide +kernel
  have mk : mK 22 = 1 := by decide +kernel
  have mc : mC 22 = 1 := by decide +kernel
  obtain ⟨v, w⟩ := r
  refine s_call (as := [.int l2, .int l1, .ref l0]) (G := fun o' sh' I' R' => o' = .inl (some (.int v)) ∧ sh' = sh ∧ I' = w ∧ R' = R) hq hc rfl hr (by rw [ml]; rfl) (Or.inl rfl) (fun _ => Or.inl (Or.inl ⟨by rw [mc]; decide, by rw [mc]; exact isT_iff.mp hT⟩)) (fun z => absurd (mk.symm.trans z) (by decide)) (by rw [ml]; exact vX1_takeNumber (F := fun o' sh' I' R' => o' = .inl (some (.int v)) ∧ sh' = sh ∧ I' = w ∧ R' = R) ⟨rfl, rfl, rfl, rfl⟩ h1) ?_ ?_ ?_
  · rintro sh' I' R' c' hc' ⟨g1, rfl, rfl, rfl⟩
    cases g1
  · rintro v' sh' I' R' c' hc' ⟨g1, rfl, rfl, rfl⟩
    cases g1
    exact kk _ _ _ hc' h2
  · rintro E' sh' I' R' ⟨g1, rfl, rfl, rfl⟩
    cases g1
set_option maxRecDepth 100000 in
set_option maxHeartbeats 4000000 in
def fX1_takeSemicolon_b13 (fu : Nat) (sh : HS) (R : HR) (I : HI) (l0 : Nat) : Option HI :=
  (fX1_advance fu sh I R l0).bind fun w2 =>
  some w2
set_option maxRecDepth 100000 in
set_option maxHeartbeats 4000000 in
theorem vX1_takeSemicolon_b13 {K J : Nat → Nat} {fu : Nat} {sh : HS} {R : HR} {F : VF} {o : HI} (hF : F (.inl none) sh o R) {I : HI} {l0 : Nat} {c : Nat × Nat} (hc0 : c.1 ≤ 0 ∧ c.2 ≤ 0) (h0 : fX1_takeSemicolon_b13 fu sh R I l0 = some o) : V K J 23 13 [some (.ref l0)] [] sh I R c F := by
  unfold fX1_takeSemicolon_b13 at h0
  refine s_rl (i := 0) (pc' := 14) (by decide +kernel) rfl ?_
  refine kX1_advance (X := 0) (Y := 0) (X' := 0) (Y' := 0) (pc' := 17) (by decide +kernel) hc0 rfl h0 (fun w2 c hc1 h1 => ?_); clear h0 hc0
  have e9 := Option.some.inj h1; subst e9
  exact s_rv (X := 0) (Y := 0) (by decide +kernel) hc1 hF
set_option maxRecDepth 100000 in
set_option maxHeartbeats 4000000 in
def fX1_takeSemicolon (fu : Nat) (sh : HS) (I : HI) (R : HR) (l0 : Nat) : Option HI :=
  if isT sh l0 1 = true then
    ((oI sh I l0 1 4).bind fun v1 =>
    if v1 = 3 then
      ((fX1_takeSemicolon_b13 fu sh R) I l0)
    else
      ((fX1_fail fu sh I R l0 1).bind fun w3 =>
      (fX1_takeSemicolon_b13 fu sh R) w3 l0))
  else none
set_option maxRecDepth 100000 in
set_option maxHeartbeats 4000000 in
theorem vX1_takeSemicolon {K J : Nat → Nat} {fu : Nat} {sh : HS} {I : HI} {R : HR} {F : VF} {o : HI} (hF : F (.inl none) sh o R) {l0 : Nat} (h0 : fX1_takeSemicolon fu sh I R l0 = some o) : V K J 23 0 (ent 1 [.ref l0]) [] sh I R (0, 0) F := by
  unfold fX1_takeSemicolon at h0
  obtain ⟨-, h1⟩ := gd h0; clear h0
  have hc0 : ((0 : Nat), (0 : Nat)).1 ≤ 0 ∧ ((0 : Nat), (0 : Nat)).2 ≤ 0 := ⟨Nat.le_refl _, Nat.le_refl _⟩
  show V K J 23 0 [some (.ref l0)] [] sh I R (0, 0) F
  refine s_rl (i := 0) (pc' := 1) (by decide +kernel) rfl ?_
  refine s_gI (t := 1) (j := 4) (ty := 0) (pc' := 4) (by decide +kernel) rfl h1 (fun v1 h2 => ?_); clear h1
  refine s_c (v := 3) (pc' := 5) (by decide +kernel) ?_
  refine s_if (ins := .if_icmp .eq 8) (t := 13) (pc' := 8) (by decide +kernel) rfl rfl rfl h2 (fun p3 h3 => ?_) (fun p3 h3 => ?_) <;> clear h2
  · exact (vX1_takeSemicolon_b13 hF) hc0 h3
  · refine s_rl (i := 0) (pc' := 9) (by decide +kernel) rfl ?_
    refine s_c (v := 1) (pc' := 10) (by decide +kernel) ?_
    refine kX1_fail (X := 0) (Y := 0) (X' := 0) (Y' := 0) (pc' := 13) (by decide +kernel) hc0 rfl h3 (fun w3 c hc1 h4 => ?_); clear h3 hc0
    exact (vX1_takeSemicolon_b13 hF) hc1 h4
set_option maxRecDepth 100000 in
set_option maxHeartbeats 4000000 in
theorem kX1_takeSemicolon {K J : Nat → Nat} {fu : Nat} {sh : HS} {I : HI} {R : HR} {F : VF} {mi pc pc' X Y X' Y' : Nat} {L : VL} {rest : List Value} {c : Nat × Nat} {l0 : Nat} {ω : Type} {o : ω} {g : HI → Option ω} (hq : cQ mi pc 23 1 pc' X Y X' Y' = true) (hc : c.1 ≤ X ∧ c.2 ≤ Y) (hr : Nat.ble (catS rest) 8 = true) (h : (fX1_takeSemicolon fu sh I R l0).bind g = some o) (kk : ∀ w c', (c'.1 ≤ X' ∧ c'.2 ≤ Y') → g w = some o → V K J mi pc' L (rest) sh w R c' F) : V K J mi pc L (.ref l0 :: rest) sh I R c F := by
  obtain ⟨r, h1, h2⟩ := bnd h
  have hT : isT sh l0 1 = true := by unfold fX1_takeSemicolon at h1; exact (gd h1).1
  have ml : mL 23 = 1 := by decide +kernel
  have mk : mK 23 = 1 := by decide +kernel
  have mc : mC 23 = 1 := by decide +kernel
  refine s_call (as := [.ref l0]) (G := fun o' sh' I' R' => o' = .inl none ∧ sh' = sh ∧ I' = r ∧ R' = R) hq hc rfl hr (by rw [ml]; rfl) (Or.inl rfl) (fun _ => Or.inl (Or.inl ⟨by rw [mc]; decide, by rw [mc]; exact isT_iff.mp hT⟩)) (fun z => absurd (mk.symm.trans z) (by decide)) (by rw [ml]; exact vX1_takeSemicolon (F := fun o' sh' I' R' => o' = .inl none ∧ sh' = sh ∧ I' = r ∧ R' = R) ⟨rfl, rfl, rfl, rfl⟩ h1) ?_ ?_ ?_
  · rintro sh' I' R' c' hc' ⟨g1, rfl, rfl, rfl⟩
    cases g1
    exact kk _ _ hc' h2
  · rintro v' sh' I' R' c' hc' ⟨g1, rfl, rfl, rfl⟩
    cases g1
  · rintro E' sh' I' R' ⟨g1, rfl, rfl, rfl⟩
    cases g1
set_option maxRecDepth 100000 in
set_option maxHeartbeats 4000000 in
def fX1_readLimits_b14 (fu : Nat) (sh : HS) (R : HR) (I : HI) (l0 : Nat) (l1 : Nat) : Option HI :=
  (fX1_advance fu sh I R l0).bind fun w2 =>
  oH (fX1_takeNumber fu sh w2 R l0 0 99) fun v3 w3 =>
  (oP sh w3 l1 0 0 v3).bind fun v4 =>
  oH (fX1_takeNumber fu sh v4 R l0 0 2000) fun v5 w5 =>
  (oP sh w5 l1 0 1 v5).bind fun v6 =>
  oH (fX1_takeNumber fu sh v6 R l0 0 2000) fun v7 w7 =>
  (oP sh w7 l1 0 2 v7).bind fun v8 =>
  (fX1_takeSemicolon fu sh v8 R l0).bind fun w9 =>
  some w9
set_option maxRecDepth 100000 in
set_option maxHeartbeats 4000000 in
theorem vX1_readLimits_b14 {K J : Nat → Nat} {fu : Nat} {sh : HS} {R : HR} {F : VF} {o : HI} (hF : F (.inl none) sh o R) {I : HI} {l0 : Nat} {l1 : Nat} {c : Nat × Nat} (hc0 : c.1 ≤ 0 ∧ c.2 ≤ 0) (h0 : fX1_readLimits_b14 fu sh R I l0 l1 = some o) : V K J 12 14 [some (.ref l0), some (.ref l1)] [] sh I R c F := by
  unfold fX1_readLimits_b14 at h0
  refine s_rl (i := 0) (pc' := 15) (by decide +kernel) rfl ?_
  refine kX1_advance (X := 0) (Y := 0) (X' := 0) (Y' := 0) (pc' := 18) (by decide +kernel) hc0 rfl h0 (fun w2 c hc1 h1 => ?_); clear h0 hc0
  refine s_rl (i := 1) (pc' := 19) (by decide +kernel) rfl ?_
  refine s_rl (i := 0) (pc' := 20) (by decide +kernel) rfl ?_
  refine s_c (v := 0) (pc' := 21) (by decide +kernel) ?_
  refine s_c (v := 99) (pc' := 23) (by decide +kernel) ?_
  refine kX1_takeNumber (X := 0) (Y := 0) (X' := 0) (Y' := 0) (pc' := 26) (by decide +kernel) hc1 rfl h1 (fun v3 w3 c hc2 h2 => ?_); clear h1 hc1
  refine s_pI (t := 0) (j := 0) (ty := 0) (pc' := 29) (by decide +kernel) (Or.inl rfl) h2 (fun v4 h3 => ?_); clear h2
  refine s_rl (i := 1) (pc' := 30) (by decide +kernel) rfl ?_
  refine s_rl (i := 0) (pc' := 31) (by decide +kernel) rfl ?_
  refine s_c (v := 0) (pc' := 32) (by decide +kernel) ?_
  refine s_c (v := 2000) (pc' := 35) (by decide +kernel) ?_
  refine kX1_takeNumber (X := 0) (Y := 0) (X' := 0) (Y' := 0) (pc' := 38) (by decide +kernel) hc2 rfl h3 (fun v5 w5 c hc3 h4 => ?_); clear h3 hc2
  refine s_pI (t := 0) (j := 1) (ty := 0) (pc' := 41) (by decide +kernel) (Or.inl rfl) h4 (fun v6 h5 => ?_); clear h4
  refine s_rl (i := 1) (pc' := 42) (by decide +kernel) rfl ?_
  refine s_rl (i := 0) (pc' := 43) (by decide +kernel) rfl ?_
  refine s_c (v := 0) (pc' := 44) (by decide +kernel) ?_
  refine s_c (v := 2000) (pc' := 47) (by decide +kernel) ?_
  refine kX1_takeNumber (X := 0) (Y := 0) (X' := 0) (Y' := 0) (pc' := 50) (by decide +kernel) hc3 rfl h5 (fun v7 w7 c hc4 h6 => ?_); clear h5 hc3
  refine s_pI (t := 0) (j := 2) (ty := 0) (pc' := 53) (by decide +kernel) (Or.inl rfl) h6 (fun v8 h7 => ?_); clear h6
  refine s_rl (i := 0) (pc' := 54) (by decide +kernel) rfl ?_
  refine kX1_takeSemicolon (X := 0) (Y := 0) (X' := 0) (Y' := 0) (pc' := 57) (by decide +kernel) hc4 rfl h7 (fun w9 c hc5 h8 => ?_); clear h7 hc4
  have e9 := Option.some.inj h8; subst e9
  exact s_rv (X := 0) (Y := 0) (by decide +kernel) hc5 hF
set_option maxRecDepth 100000 in
set_option maxHeartbeats 4000000 in
def fX1_readLimits (fu : Nat) (sh : HS) (I : HI) (R : HR) (l0 : Nat) (l1 : Nat) : Option HI :=
  if isT sh l0 1 = true then
    ((fX1_isKeyword fu sh I R l0 8).bind fun v1 =>
    if v1 = 0 then
      ((fX1_fail fu sh I R l0 1).bind fun w10 =>
      (fX1_readLimits_b14 fu sh R) w10 l0 l1)
    else
      ((fX1_readLimits_b14 fu sh R) I l0 l1))
  else none
set_option maxRecDepth 100000 in
set_option maxHeartbeats 4000000 in
theorem vX1_readLimits {K J : Nat → Nat} {fu : Nat} {sh : HS} {I : HI} {R : HR} {F : VF} {o : HI} (hF : F (.inl none) sh o R) {l0 : Nat} {l1 : Nat} (h0 : fX1_readLimits fu sh I R l0 l1 = some o) : V K J 12 0 (ent 2 [.ref l0, .ref l1]) [] sh I R (0, 0) F := by
  unfold fX1_readLimits at h0
  obtain ⟨-, h1⟩ := gd h0; clear h0
  have hc0 : ((0 : Nat), (0 : Nat)).1 ≤ 0 ∧ ((0 : Nat), (0 : Nat)).2 ≤ 0 := ⟨Nat.le_refl _, Nat.le_refl _⟩
  show V K J 12 0 [some (.ref l0), some (.ref l1)] [] sh I R (0, 0) F
  refine s_rl (i := 0) (pc' := 1) (by decide +kernel) rfl ?_
  refine s_cS (i := 8) (pc' := 3) (by decide +kernel) ?_
  refine kX1_isKeyword (X := 0) (Y := 0) (X' := 0) (Y' := 0) (pc' := 6) (by decide +kernel) hc0 rfl h1 (fun v1 c hc1 h2 => ?_); clear h1 hc0
  refine s_ifn (ins := .ifCond .ne 8) (t := 14) (pc' := 9) (by decide +kernel) rfl rfl rfl h2 (fun p3 h3 => ?_) (fun p3 h3 => ?_) <;> clear h2
  · exact (vX1_readLimits_b14 hF) hc1 h3
  · refine s_rl (i := 0) (pc' := 10) (by decide +kernel) rfl ?_
    refine s_c (v := 1) (pc' := 11) (by decide +kernel) ?_
    refine kX1_fail (X := 0) (Y := 0) (X' := 0) (Y' := 0) (pc' := 14) (by decide +kernel) hc1 rfl h3 (fun w10 c hc2 h4 => ?_); clear h3 hc1
    exact (vX1_readLimits_b14 hF) hc2 h4
set_option maxRecDepth 100000 in
set_option maxHeartbeats 4000000 in
theorem kX1_readLimits {K J : Nat → Nat} {fu : Nat} {sh : HS} {I : HI} {R : HR} {F : VF} {mi pc pc' X Y X' Y' : Nat} {L : VL} {rest : List Value} {c : Nat × Nat} {l0 : Nat} {l1 : Nat} {ω : Type} {o : ω} {g : HI → Option ω} (hq : cQ mi pc 12 2 pc' X Y X' Y' = true) (hc : c.1 ≤ X ∧ c.2 ≤ Y) (hr : Nat.ble (catS rest) 8 = true) (h : (fX1_readLimits fu sh I R l0 l1).bind g = some o) (kk : ∀ w c', (c'.1 ≤ X' ∧ c'.2 ≤ Y') → g w = some o → V K J mi pc' L (rest) sh w R c' F) : V K J mi pc L (.ref l1 :: .ref l0 :: rest) sh I R c F := by
  obtain ⟨r, h1, h2⟩ := bnd h
  have hT : isT sh l0 1 = true := by unfold fX1_readLimits at h1; exact (gd h1).1
  have ml : mL 12 = 2 := by decide +kernel
  have mk : mK 12 = 1 := by decide +kernel
  have mc : mC 12 = 1 := by decide +kernel
  refine s_call (as := [.ref l1, .ref l0]) (G := fun o' sh' I' R' => o' = .inl none ∧ sh' = sh ∧ I' = r ∧ R' = R) hq hc rfl hr (by rw [ml]; rfl) (Or.inl rfl) (fun _ => Or.inl (Or.inl ⟨by rw [mc]; decide, by rw [mc]; exact isT_iff.mp hT⟩)) (fun z => absurd (mk.symm.trans z) (by decide)) (by rw [ml]; exact vX1_readLimits (F := fun o' sh' I' R' => o' = .inl none ∧ sh' = sh ∧ I' = r ∧ R' = R) ⟨rfl, rfl, rfl, rfl⟩ h1) ?_ ?_ ?_
  · rintro sh' I' R' c' hc' ⟨g1, rfl, rfl, rfl⟩
    cases g1
    exact kk _ _ hc' h2
  · rintro v' sh' I' R' c' hc' ⟨g1, rfl, rfl, rfl⟩
    cases g1
  · rintro E' sh' I' R' ⟨g1, rfl, rfl, rfl⟩
    cases g1
set_option maxRecDepth 100000 in
set_option maxHeartbeats 4000000 in
def fX1_canSceneEnd_b28 (fu : Nat) (sh : HS) (I : HI) (R : HR) (s0 : Int32) : Option Int32 :=
  (oZ s0).bind fun z2 =>
  some z2
set_option maxRecDepth 100000 in
set_option maxHeartbeats 4000000 in
theorem vX1_canSceneEnd_b28 {K J : Nat → Nat} {fu : Nat} {sh : HS} {I : HI} {R : HR} {F : VF} {o : Int32} (hF : F (.inl (some (.int o))) sh I R) {s0 : Int32} {d0 d1 : Option Value} {c : Nat × Nat} (hc0 : c.1 ≤ 0 ∧ c.2 ≤ 0) (h0 : fX1_canSceneEnd_b28 fu sh I R s0 = some o) : V K J 19 28 [d0, d1] [.int s0] sh I R c F := by
  unfold fX1_canSceneEnd_b28 at h0
  obtain ⟨hz, h1⟩ := oZb h0
  have e9 := Option.some.inj h1; subst e9
  exact s_rz (X := 0) (Y := 0) (by decide +kernel) hz hc0 hF
set_option maxRecDepth 100000 in
set_option maxHeartbeats 4000000 in
def fX1_canSceneEnd_b27 (fu : Nat) (sh : HS) (I : HI) (R : HR) : Option Int32 :=
  (fX1_canSceneEnd_b28 fu sh I R) 0
set_option maxRecDepth 100000 in
set_option maxHeartbeats 4000000 in
theorem vX1_canSceneEnd_b27 {K J : Nat → Nat} {fu : Nat} {sh : HS} {I : HI} {R : HR} {F : VF} {o : Int32} (hF : F (.inl (some (.int o))) sh I R) {d0 d1 : Option Value} {c : Nat × Nat} (hc0 : c.1 ≤ 0 ∧ c.2 ≤ 0) (h0 : fX1_canSceneEnd_b27 fu sh I R = some o) : V K J 19 27 [d0, d1] [] sh I R c F := by
  unfold fX1_canSceneEnd_b27 at h0
  refine s_c (v := 0) (pc' := 28) (by decide +kernel) ?_
  exact (vX1_canSceneEnd_b28 hF) hc0 h0
set_option maxRecDepth 100000 in
set_option maxHeartbeats 4000000 in
def fX1_canSceneEnd (fu : Nat) (sh : HS) (I : HI) (R : HR) (l0 : Nat) : Option Int32 :=
  (oI sh I l0 0 3).bind fun v1 =>
  if (v1 - 1) < 0 then
    ((fX1_canSceneEnd_b27 fu sh I R))
  else
    ((oR sh R l0 0 5).bind fun v3 =>
    (oB sh R v3 5 (v1 - 1)).bind fun v4 =>
    (oI sh I v4 5 1).bind fun v5 =>
    if v5 = 0 then
      ((fX1_canSceneEnd_b27 fu sh I R))
    else
      ((fX1_canSceneEnd_b28 fu sh I R) 1))
set_option maxRecDepth 100000 in
set_option maxHeartbeats 4000000 in
theorem vX1_canSceneEnd {K J : Nat → Nat} {fu : Nat} {sh : HS} {I : HI} {R : HR} {F : VF} {o : Int32} (hF : F (.inl (some (.int o))) sh I R) {l0 : Nat} (h0 : fX1_canSceneEnd fu sh I R l0 = some o) : V K J 19 0 (ent 2 [.ref l0]) [] sh I R (0, 0) F := by
  unfold fX1_canSceneEnd at h0
  have h1 := h0; clear h0
  have hc0 : ((0 : Nat), (0 : Nat)).1 ≤ 0 ∧ ((0 : Nat), (0 : Nat)).2 ≤ 0 := ⟨Nat.le_refl _, Nat.le_refl _⟩
  show V K J 19 0 [some (.ref l0), none] [] sh I R (0, 0) F
  refine s_rl (i := 0) (pc' := 1) (by decide +kernel) rfl ?_
  refine s_gI (t := 0) (j := 3) (ty := 0) (pc' := 4) (by decide +kernel) rfl h1 (fun v1 h2 => ?_); clear h1
  refine s_c (v := 1) (pc' := 5) (by decide +kernel) ?_
  refine s_a (ins := .isub) (pc' := 6) (by decide +kernel) rfl ?_
  refine s_is (i := 1) (pc' := 7) (L' := [some (.ref l0), some (.int (v1 - 1))]) (by decide +kernel) rfl rfl ?_
  refine s_il (i := 1) (pc' := 8) (by decide +kernel) rfl ?_
  refine s_if (ins := .ifCond .lt 19) (t := 27) (pc' := 11) (by decide +kernel) rfl rfl rfl h2 (fun p3 h3 => ?_) (fun p3 h3 => ?_) <;> clear h2
  · exact (vX1_canSceneEnd_b27 hF) hc0 h3
  · refine s_rl (i := 0) (pc' := 12) (by decide +kernel) rfl ?_
    refine s_gR (t := 0) (j := 5) (pc' := 15) (by decide +kernel) h3 (fun v3 h4 => ?_); clear h3
    refine s_il (i := 1) (pc' := 16) (by decide +kernel) rfl ?_
    refine s_aal (t := 5) (pc' := 17) (by decide +kernel) h4 (fun v4 h5 => ?_); clear h4
    refine s_gI (t := 5) (j := 1) (ty := 0) (pc' := 20) (by decide +kernel) rfl h5 (fun v5 h6 => ?_); clear h5
    refine s_if (ins := .ifCond .eq 7) (t := 27) (pc' := 23) (by decide +kernel) rfl rfl rfl h6 (fun p7 h7 => ?_) (fun p7 h7 => ?_) <;> clear h6
    · exact (vX1_canSceneEnd_b27 hF) hc0 h7
    · refine s_c (v := 1) (pc' := 24) (by decide +kernel) ?_
      refine s_go (t := 28) (by decide +kernel) ?_
      exact (vX1_canSceneEnd_b28 hF) hc0 h7
set_option maxRecDepth 100000 in
set_option maxHeartbeats 4000000 in
theorem kX1_canSceneEnd {K J : Nat → Nat} {fu : Nat} {sh : HS} {I : HI} {R : HR} {F : VF} {mi pc pc' X Y X' Y' : Nat} {L : VL} {rest : List Value} {c : Nat × Nat} {l0 : Nat} {ω : Type} {o : ω} {g : Int32 → Option ω} (hq : cQ mi pc 19 1 pc' X Y X' Y' = true) (hc : c.1 ≤ X ∧ c.2 ≤ Y) (hr : Nat.ble (catS rest) 8 = true) (h : (fX1_canSceneEnd fu sh I R l0).bind g = some o) (kk : ∀ v c', (c'.1 ≤ X' ∧ c'.2 ≤ Y') → g v = some o → V K J mi pc' L ((.int v) :: rest) sh I R c' F) : V K J mi pc L (.ref l0 :: rest) sh I R c F := by
  obtain ⟨r, h1, h2⟩ := bnd h
  have ml : mL 19 = 2 := by decide +kernel
  have mk : mK 19 = 0 := by decide +kernel
  refine s_call (as := [.ref l0]) (G := fun o' sh' I' R' => o' = .inl (some (.int r)) ∧ sh' = sh ∧ I' = I ∧ R' = R) hq hc rfl hr (by rw [ml]; rfl) (Or.inl rfl) (fun z => absurd (mk.symm.trans z) (by decide)) (fun z => absurd (mk.symm.trans z) (by decide)) (by rw [ml]; exact vX1_canSceneEnd (F := fun o' sh' I' R' => o' = .inl (some (.int r)) ∧ sh' = sh ∧ I' = I ∧ R' = R) ⟨rfl, rfl, rfl, rfl⟩ h1) ?_ ?_ ?_
  · rintro sh' I' R' c' hc' ⟨g1, rfl, rfl, rfl⟩
    cases g1
  · rintro v' sh' I' R' c' hc' ⟨g1, rfl, rfl, rfl⟩
    cases g1
    exact kk _ _ hc' h2
  · rintro E' sh' I' R' ⟨g1, rfl, rfl, rfl⟩
    cases g1
set_option maxRecDepth 100000 in
set_option maxHeartbeats 4000000 in
def fX1_readScene_b84 (fu : Nat) (sh : HS) (R : HR) (I : HI) : Option HI :=
  some I
set_option maxRecDepth 100000 in
set_option maxHeartbeats 4000000 in
theorem vX1_readScene_b84 {K J : Nat → Nat} {fu : Nat} {sh : HS} {R : HR} {F : VF} {o : HI} (hF : F (.inl none) sh o R) {I : HI} {d0 d1 d2 d3 : Option Value} {c : Nat × Nat} (hc0 : c.1 ≤ 0 ∧ c.2 ≤ 0) (h0 : fX1_readScene_b84 fu sh R I = some o) : V K J 14 84 [d0, d1, d2, d3] [] sh I R c F := by
  unfold fX1_readScene_b84 at h0
  have e9 := Option.some.inj h0; subst e9
  exact s_rv (X := 0) (Y := 0) (by decide +kernel) hc0 hF
set_option maxRecDepth 100000 in
set_option maxHeartbeats 4000000 in
def fX1_readScene_b32 (fu : Nat) (sh : HS) (R : HR) (I : HI) (l0 : Nat) (l1 : Nat) : Option HI :=
  (fX1_advance fu sh I R l0).bind fun w3 =>
  oH (fX1_takeNumber fu sh w3 R l0 0 3) fun v4 w4 =>
  (fX1_takeSemicolon fu sh w4 R l0).bind fun w5 =>
  (oI sh w5 l0 1 6).bind fun v6 =>
  if v6 = 0 then
    ((oR sh R l1 0 5).bind fun v7 =>
    (oI sh w5 l1 0 3).bind fun v8 =>
    (oB sh R v7 5 v8).bind fun v9 =>
    (oP sh w5 v9 5 0 v4).bind fun v10 =>
    (oP sh v10 v9 5 1 0).bind fun v11 =>
    (oI sh v11 l1 0 3).bind fun v12 =>
    (oP sh v11 l1 0 3 (v12 + 1)).bind fun v13 =>
    (fX1_readScene_b84 fu sh R) v13)
  else
    ((fX1_readScene_b84 fu sh R) w5)
set_option maxRecDepth 100000 in
set_option maxHeartbeats 4000000 in
theorem vX1_readScene_b32 {K J : Nat → Nat} {fu : Nat} {sh : HS} {R : HR} {F : VF} {o : HI} (hF : F (.inl none) sh o R) {I : HI} {l0 : Nat} {l1 : Nat} {d2 d3 : Option Value} {c : Nat × Nat} (hc0 : c.1 ≤ 0 ∧ c.2 ≤ 0) (h0 : fX1_readScene_b32 fu sh R I l0 l1 = some o) : V K J 14 32 [some (.ref l0), some (.ref l1), d2, d3] [] sh I R c F := by
  unfold fX1_readScene_b32 at h0
  refine s_rl (i := 0) (pc' := 33) (by decide +kernel) rfl ?_
  refine kX1_advance (X := 0) (Y := 0) (X' := 0) (Y' := 0) (pc' := 36) (by decide +kernel) hc0 rfl h0 (fun w3 c hc1 h1 => ?_); clear h0 hc0
  refine s_rl (i := 0) (pc' := 37) (by decide +kernel) rfl ?_
  refine s_c (v := 0) (pc' := 38) (by decide +kernel) ?_
  refine s_c (v := 3) (pc' := 39) (by decide +kernel) ?_
  refine kX1_takeNumber (X := 0) (Y := 0) (X' := 0) (Y' := 0) (pc' := 42) (by decide +kernel) hc1 rfl h1 (fun v4 w4 c hc2 h2 => ?_); clear h1 hc1
  refine s_is (i := 2) (pc' := 43) (L' := [some (.ref l0), some (.ref l1), some (.int v4), d3]) (by decide +kernel) rfl rfl ?_
  refine s_rl (i := 0) (pc' := 44) (by decide +kernel) rfl ?_
  refine kX1_takeSemicolon (X := 0) (Y := 0) (X' := 0) (Y' := 0) (pc' := 47) (by decide +kernel) hc2 rfl h2 (fun w5 c hc3 h3 => ?_); clear h2 hc2
  refine s_rl (i := 0) (pc' := 48) (by decide +kernel) rfl ?_
  refine s_gI (t := 1) (j := 6) (ty := 0) (pc' := 51) (by decide +kernel) rfl h3 (fun v6 h4 => ?_); clear h3
  refine s_ifn (ins := .ifCond .ne 33) (t := 84) (pc' := 54) (by decide +kernel) rfl rfl rfl h4 (fun p5 h5 => ?_) (fun p5 h5 => ?_) <;> clear h4
  · exact (vX1_readScene_b84 hF) hc3 h5
  · refine s_rl (i := 1) (pc' := 55) (by decide +kernel) rfl ?_
    refine s_gR (t := 0) (j := 5) (pc' := 58) (by decide +kernel) h5 (fun v7 h6 => ?_); clear h5
    refine s_rl (i := 1) (pc' := 59) (by decide +kernel) rfl ?_
    refine s_gI (t := 0) (j := 3) (ty := 0) (pc' := 62) (by decide +kernel) rfl h6 (fun v8 h7 => ?_); clear h6
    refine s_aal (t := 5) (pc' := 63) (by decide +kernel) h7 (fun v9 h8 => ?_); clear h7
    refine s_rs (i := 3) (pc' := 64) (L' := [some (.ref l0), some (.ref l1), some (.int v4), some (.ref v9)]) (by decide +kernel) rfl rfl ?_
    refine s_rl (i := 3) (pc' := 65) (by decide +kernel) rfl ?_
    refine s_il (i := 2) (pc' := 66) (by decide +kernel) rfl ?_
    refine s_pI (t := 5) (j := 0) (ty := 0) (pc' := 69) (by decide +kernel) (Or.inl rfl) h8 (fun v10 h9 => ?_); clear h8
    refine s_rl (i := 3) (pc' := 70) (by decide +kernel) rfl ?_
    refine s_c (v := 0) (pc' := 71) (by decide +kernel) ?_
    refine s_pI (t := 5) (j := 1) (ty := 0) (pc' := 74) (by decide +kernel) (Or.inl rfl) h9 (fun v11 h10 => ?_); clear h9
    refine s_rl (i := 1) (pc' := 75) (by decide +kernel) rfl ?_
    refine s_a (ins := .dup) (pc' := 76) (by decide +kernel) rfl ?_
    refine s_gI (t := 0) (j := 3) (ty := 0) (pc' := 79) (by decide +kernel) rfl h10 (fun v12 h11 => ?_); clear h10
    refine s_c (v := 1) (pc' := 80) (by decide +kernel) ?_
    refine s_a (ins := .iadd) (pc' := 81) (by decide +kernel) rfl ?_
    refine s_pI (t := 0) (j := 3) (ty := 0) (pc' := 84) (by decide +kernel) (Or.inl rfl) h11 (fun v13 h12 => ?_); clear h11
    exact (vX1_readScene_b84 hF) hc3 h12
set_option maxRecDepth 100000 in
set_option maxHeartbeats 4000000 in
def fX1_readScene_b19 (fu : Nat) (sh : HS) (R : HR) (I : HI) (l0 : Nat) (l1 : Nat) : Option HI :=
  (oI sh I l1 0 3).bind fun v2 =>
  if v2 < 3 then
    ((fX1_readScene_b32 fu sh R) I l0 l1)
  else
    ((fX1_fail fu sh I R l0 4).bind fun w14 =>
    (fX1_readScene_b32 fu sh R) w14 l0 l1)
set_option maxRecDepth 100000 in
set_option maxHeartbeats 4000000 in
theorem vX1_readScene_b19 {K J : Nat → Nat} {fu : Nat} {sh : HS} {R : HR} {F : VF} {o : HI} (hF : F (.inl none) sh o R) {I : HI} {l0 : Nat} {l1 : Nat} {d2 d3 : Option Value} {c : Nat × Nat} (hc0 : c.1 ≤ 0 ∧ c.2 ≤ 0) (h0 : fX1_readScene_b19 fu sh R I l0 l1 = some o) : V K J 14 19 [some (.ref l0), some (.ref l1), d2, d3] [] sh I R c F := by
  unfold fX1_readScene_b19 at h0
  refine s_rl (i := 1) (pc' := 20) (by decide +kernel) rfl ?_
  refine s_gI (t := 0) (j := 3) (ty := 0) (pc' := 23) (by decide +kernel) rfl h0 (fun v2 h1 => ?_); clear h0
  refine s_c (v := 3) (pc' := 24) (by decide +kernel) ?_
  refine s_if (ins := .if_icmp .lt 8) (t := 32) (pc' := 27) (by decide +kernel) rfl rfl rfl h1 (fun p2 h2 => ?_) (fun p2 h2 => ?_) <;> clear h1
  · exact (vX1_readScene_b32 hF) hc0 h2
  · refine s_rl (i := 0) (pc' := 28) (by decide +kernel) rfl ?_
    refine s_c (v := 4) (pc' := 29) (by decide +kernel) ?_
    refine kX1_fail (X := 0) (Y := 0) (X' := 0) (Y' := 0) (pc' := 32) (by decide +kernel) hc0 rfl h2 (fun w14 c hc1 h3 => ?_); clear h2 hc0
    exact (vX1_readScene_b32 hF) hc1 h3
set_option maxRecDepth 100000 in
set_option maxHeartbeats 4000000 in
def fX1_readScene (fu : Nat) (sh : HS) (I : HI) (R : HR) (l0 : Nat) (l1 : Nat) : Option HI :=
  if isT sh l0 1 = true then
    ((oI sh I l1 0 3).bind fun v1 =>
    if v1 ≤ 0 then
      ((fX1_readScene_b19 fu sh R) I l0 l1)
    else
      ((fX1_canSceneEnd fu sh I R l1).bind fun v15 =>
      if v15 = 0 then
        ((fX1_fail fu sh I R l0 1).bind fun w16 =>
        (fX1_readScene_b19 fu sh R) w16 l0 l1)
      else
        ((fX1_readScene_b19 fu sh R) I l0 l1)))
  else none
set_option maxRecDepth 100000 in
set_option maxHeartbeats 4000000 in
theorem vX1_readScene {K J : Nat → Nat} {fu : Nat} {sh : HS} {I : HI} {R : HR} {F : VF} {o : HI} (hF : F (.inl none) sh o R) {l0 : Nat} {l1 : Nat} (h0 : fX1_readScene fu sh I R l0 l1 = some o) : V K J 14 0 (ent 4 [.ref l0, .ref l1]) [] sh I R (0, 0) F := by
  unfold fX1_readScene at h0
  obtain ⟨-, h1⟩ := gd h0; clear h0
  have hc0 : ((0 : Nat), (0 : Nat)).1 ≤ 0 ∧ ((0 : Nat), (0 : Nat)).2 ≤ 0 := ⟨Nat.le_refl _, Nat.le_refl _⟩
  show V K J 14 0 [some (.ref l0), some (.ref l1), none, none] [] sh I R (0, 0) F
  refine s_rl (i := 1) (pc' := 1) (by decide +kernel) rfl ?_
  refine s_gI (t := 0) (j := 3) (ty := 0) (pc' := 4) (by decide +kernel) rfl h1 (fun v1 h2 => ?_); clear h1
  refine s_if (ins := .ifCond .le 15) (t := 19) (pc' := 7) (by decide +kernel) rfl rfl rfl h2 (fun p3 h3 => ?_) (fun p3 h3 => ?_) <;> clear h2
  · exact (vX1_readScene_b19 hF) hc0 h3
  · refine s_rl (i := 1) (pc' := 8) (by decide +kernel) rfl ?_
    refine kX1_canSceneEnd (X := 0) (Y := 0) (X' := 0) (Y' := 0) (pc' := 11) (by decide +kernel) hc0 rfl h3 (fun v15 c hc1 h4 => ?_); clear h3 hc0
    refine s_ifn (ins := .ifCond .ne 8) (t := 19) (pc' := 14) (by decide +kernel) rfl rfl rfl h4 (fun p5 h5 => ?_) (fun p5 h5 => ?_) <;> clear h4
    · exact (vX1_readScene_b19 hF) hc1 h5
    · refine s_rl (i := 0) (pc' := 15) (by decide +kernel) rfl ?_
      refine s_c (v := 1) (pc' := 16) (by decide +kernel) ?_
      refine kX1_fail (X := 0) (Y := 0) (X' := 0) (Y' := 0) (pc' := 19) (by decide +kernel) hc1 rfl h5 (fun w16 c hc2 h6 => ?_); clear h5 hc1
      exact (vX1_readScene_b19 hF) hc2 h6
set_option maxRecDepth 100000 in
set_option maxHeartbeats 4000000 in
theorem kX1_readScene {K J : Nat → Nat} {fu : Nat} {sh : HS} {I : HI} {R : HR} {F : VF} {mi pc pc' X Y X' Y' : Nat} {L : VL} {rest : List Value} {c : Nat × Nat} {l0 : Nat} {l1 : Nat} {ω : Type} {o : ω} {g : HI → Option ω} (hq : cQ mi pc 14 2 pc' X Y X' Y' = true) (hc : c.1 ≤ X ∧ c.2 ≤ Y) (hr : Nat.ble (catS rest) 8 = true) (h : (fX1_readScene fu sh I R l0 l1).bind g = some o) (kk : ∀ w c', (c'.1 ≤ X' ∧ c'.2 ≤ Y') → g w = some o → V K J mi pc' L (rest) sh w R c' F) : V K J mi pc L (.ref l1 :: .ref l0 :: rest) sh I R c F := by
  obtain ⟨r, h1, h2⟩ := bnd h
  have hT : isT sh l0 1 = true := by unfold fX1_readScene at h1; exact (gd h1).1
  have ml : mL 14 = 4 := by decide +kernel
  have mk : mK 14 = 1 := by decide +kernel
  have mc : mC 14 = 1 := by decide +kernel
  refine s_call (as := [.ref l1, .ref l0]) (G := fun o' sh' I' R' => o' = .inl none ∧ sh' = sh ∧ I' = r ∧ R' = R) hq hc rfl hr (by rw [ml]; rfl) (Or.inl rfl) (fun _ => Or.inl (Or.inl ⟨by rw [mc]; decide, by rw [mc]; exact isT_iff.mp hT⟩)) (fun z => absurd (mk.symm.trans z) (by decide)) (by rw [ml]; exact vX1_readScene (F := fun o' sh' I' R' => o' = .inl none ∧ sh' = sh ∧ I' = r ∧ R' = R) ⟨rfl, rfl, rfl, rfl⟩ h1) ?_ ?_ ?_
  · rintro sh' I' R' c' hc' ⟨g1, rfl, rfl, rfl⟩
    cases g1
    exact kk _ _ hc' h2
  · rintro v' sh' I' R' c' hc' ⟨g1, rfl, rfl, rfl⟩
    cases g1
  · rintro E' sh' I' R' ⟨g1, rfl, rfl, rfl⟩
    cases g1
set_option maxRecDepth 100000 in
set_option maxHeartbeats 4000000 in
def fX10_holds_b13 (fu : Nat) (sh : HS) (I : HI) (R : HR) (s0 : Int32) : Option Int32 :=
  (oZ s0).bind fun z1 =>
  some z1
set_option maxRecDepth 100000 in
set_option maxHeartbeats 4000000 in
theorem vX10_holds_b13 {K J : Nat → Nat} {fu : Nat} {sh : HS} {I : HI} {R : HR} {F : VF} {o : Int32} (hF : F (.inl (some (.int o))) sh I R) {s0 : Int32} {d0 d1 : Option Value} {c : Nat × Nat} (hc0 : c.1 ≤ 0 ∧ c.2 ≤ 0) (h0 : fX10_holds_b13 fu sh I R s0 = some o) : V K J 107 13 [d0, d1] [.int s0] sh I R c F := by
  unfold fX10_holds_b13 at h0
  obtain ⟨hz, h1⟩ := oZb h0
  have e9 := Option.some.inj h1; subst e9
  exact s_rz (X := 0) (Y := 0) (by decide +kernel) hz hc0 hF
set_option maxRecDepth 100000 in
set_option maxHeartbeats 4000000 in
def fX10_holds (fu : Nat) (sh : HS) (I : HI) (R : HR) (l0 : Int32) (l1 : Int32) : Option Int32 :=
  if ((l0 >>> (l1 &&& 31)) &&& 1) = 0 then
    ((fX10_holds_b13 fu sh I R) 0)
  else
    ((fX10_holds_b13 fu sh I R) 1)
set_option maxRecDepth 100000 in
set_option maxHeartbeats 4000000 in
theorem vX10_holds {K J : Nat → Nat} {fu : Nat} {sh : HS} {I : HI} {R : HR} {F : VF} {o : Int32} (hF : F (.inl (some (.int o))) sh I R) {l0 : Int32} {l1 : Int32} (h0 : fX10_holds fu sh I R l0 l1 = some o) : V K J 107 0 (ent 2 [.int l0, .int l1]) [] sh I R (0, 0) F := by
  unfold fX10_holds at h0
  have h1 := h0; clear h0
  have hc0 : ((0 : Nat), (0 : Nat)).1 ≤ 0 ∧ ((0 : Nat), (0 : Nat)).2 ≤ 0 := ⟨Nat.le_refl _, Nat.le_refl _⟩
  show V K J 107 0 [some (.int l0), some (.int l1)] [] sh I R (0, 0) F
  refine s_il (i := 0) (pc' := 1) (by decide +kernel) rfl ?_
  refine s_il (i := 1) (pc' := 2) (by decide +kernel) rfl ?_
  refine s_a (ins := .ishr) (pc' := 3) (by decide +kernel) rfl ?_
  refine s_c (v := 1) (pc' := 4) (by decide +kernel) ?_
  refine s_a (ins := .iand) (pc' := 5) (by decide +kernel) rfl ?_
  refine s_if (ins := .ifCond .eq 7) (t := 12) (pc' := 8) (by decide +kernel) rfl rfl rfl h1 (fun p2 h2 => ?_) (fun p2 h2 => ?_) <;> clear h1
  · refine s_c (v := 0) (pc' := 13) (by decide +kernel) ?_
    exact (vX10_holds_b13 hF) hc0 h2
  · refine s_c (v := 1) (pc' := 9) (by decide +kernel) ?_
    refine s_go (t := 13) (by decide +kernel) ?_
    exact (vX10_holds_b13 hF) hc0 h2
set_option maxRecDepth 100000 in
set_option maxHeartbeats 4000000 in
theorem kX10_holds {K J : Nat → Nat} {fu : Nat} {sh : HS} {I : HI} {R : HR} {F : VF} {mi pc pc' X Y X' Y' : Nat} {L : VL} {rest : List Value} {c : Nat × Nat} {l0 : Int32} {l1 : Int32} {ω : Type} {o : ω} {g : Int32 → Option ω} (hq : cQ mi pc 107 2 pc' X Y X' Y' = true) (hc : c.1 ≤ X ∧ c.2 ≤ Y) (hr : Nat.ble (catS rest) 8 = true) (h : (fX10_holds fu sh I R l0 l1).bind g = some o) (kk : ∀ v c', (c'.1 ≤ X' ∧ c'.2 ≤ Y') → g v = some o → V K J mi pc' L ((.int v) :: rest) sh I R c' F) : V K J mi pc L (.int l1 :: .int l0 :: rest) sh I R c F := by
  obtain ⟨r, h1, h2⟩ := bnd h
  have ml : mL 107 = 2 := by decide +kernel
  have mk : mK 107 = 0 := by decide +kernel
  refine s_call (as := [.int l1, .int l0]) (G := fun o' sh' I' R' => o' = .inl (some (.int r)) ∧ sh' = sh ∧ I' = I ∧ R' = R) hq hc rfl hr (by rw [ml]; rfl) (Or.inl rfl) (fun z => absurd (mk.symm.trans z) (by decide)) (fun z => absurd (mk.symm.trans z) (by decide)) (by rw [ml]; exact vX10_holds (F := fun o' sh' I' R' => o' = .inl (some (.int r)) ∧ sh' = sh ∧ I' = I ∧ R' = R) ⟨rfl, rfl, rfl, rfl⟩ h1) ?_ ?_ ?_
  · rintro sh' I' R' c' hc' ⟨g1, rfl, rfl, rfl⟩
    cases g1
  · rintro v' sh' I' R' c' hc' ⟨g1, rfl, rfl, rfl⟩
    cases g1
    exact kk _ _ hc' h2
  · rintro E' sh' I' R' ⟨g1, rfl, rfl, rfl⟩
    cases g1
set_option maxRecDepth 100000 in
set_option maxHeartbeats 4000000 in
def fX6_hasActor_b26 (fu : Nat) (sh : HS) (I : HI) (R : HR) (s0 : Int32) : Option Int32 :=
  (oZ s0).bind fun z1 =>
  some z1
set_option maxRecDepth 100000 in
set_option maxHeartbeats 4000000 in
theorem vX6_hasActor_b26 {K J : Nat → Nat} {fu : Nat} {sh : HS} {I : HI} {R : HR} {F : VF} {o : Int32} (hF : F (.inl (some (.int o))) sh I R) {s0 : Int32} {d0 d1 : Option Value} {c : Nat × Nat} (hc0 : c.1 ≤ 0 ∧ c.2 ≤ 0) (h0 : fX6_hasActor_b26 fu sh I R s0 = some o) : V K J 43 26 [d0, d1] [.int s0] sh I R c F := by
  unfold fX6_hasActor_b26 at h0
  obtain ⟨hz, h1⟩ := oZb h0
  have e9 := Option.some.inj h1; subst e9
  exact s_rz (X := 0) (Y := 0) (by decide +kernel) hz hc0 hF
set_option maxRecDepth 100000 in
set_option maxHeartbeats 4000000 in
def fX6_hasActor_b25 (fu : Nat) (sh : HS) (I : HI) (R : HR) : Option Int32 :=
  (fX6_hasActor_b26 fu sh I R) 0
set_option maxRecDepth 100000 in
set_option maxHeartbeats 4000000 in
theorem vX6_hasActor_b25 {K J : Nat → Nat} {fu : Nat} {sh : HS} {I : HI} {R : HR} {F : VF} {o : Int32} (hF : F (.inl (some (.int o))) sh I R) {d0 d1 : Option Value} {c : Nat × Nat} (hc0 : c.1 ≤ 0 ∧ c.2 ≤ 0) (h0 : fX6_hasActor_b25 fu sh I R = some o) : V K J 43 25 [d0, d1] [] sh I R c F := by
  unfold fX6_hasActor_b25 at h0
  refine s_c (v := 0) (pc' := 26) (by decide +kernel) ?_
  exact (vX6_hasActor_b26 hF) hc0 h0
set_option maxRecDepth 100000 in
set_option maxHeartbeats 4000000 in
def fX6_hasActor (fu : Nat) (sh : HS) (I : HI) (R : HR) (l0 : Nat) (l1 : Int32) : Option Int32 :=
  if isT sh l0 5 = true then
    (if l1 < 0 then
      ((fX6_hasActor_b25 fu sh I R))
    else
      (if 6 ≤ l1 then
        ((fX6_hasActor_b25 fu sh I R))
      else
        ((oI sh I l0 5 1).bind fun v2 =>
        (fX10_holds fu sh I R v2 l1).bind fun v3 =>
        if v3 = 0 then
          ((fX6_hasActor_b25 fu sh I R))
        else
          ((fX6_hasActor_b26 fu sh I R) 1))))
  else none
set_option maxRecDepth 100000 in
set_option maxHeartbeats 4000000 in
theorem vX6_hasActor {K J : Nat → Nat} {fu : Nat} {sh : HS} {I : HI} {R : HR} {F : VF} {o : Int32} (hF : F (.inl (some (.int o))) sh I R) {l0 : Nat} {l1 : Int32} (h0 : fX6_hasActor fu sh I R l0 l1 = some o) : V K J 43 0 (ent 2 [.ref l0, .int l1]) [] sh I R (0, 0) F := by
  unfold fX6_hasActor at h0
  obtain ⟨-, h1⟩ := gd h0; clear h0
  have hc0 : ((0 : Nat), (0 : Nat)).1 ≤ 0 ∧ ((0 : Nat), (0 : Nat)).2 ≤ 0 := ⟨Nat.le_refl _, Nat.le_refl _⟩
  show V K J 43 0 [some (.ref l0), some (.int l1)] [] sh I R (0, 0) F
  refine s_il (i := 1) (pc' := 1) (by decide +kernel) rfl ?_
  refine s_if (ins := .ifCond .lt 24) (t := 25) (pc' := 4) (by decide +kernel) rfl rfl rfl h1 (fun p2 h2 => ?_) (fun p2 h2 => ?_) <;> clear h1
  · exact (vX6_hasActor_b25 hF) hc0 h2
  · refine s_il (i := 1) (pc' := 5) (by decide +kernel) rfl ?_
    refine s_c (v := 6) (pc' := 7) (by decide +kernel) ?_
    refine s_if (ins := .if_icmp .ge 18) (t := 25) (pc' := 10) (by decide +kernel) rfl rfl rfl h2 (fun p3 h3 => ?_) (fun p3 h3 => ?_) <;> clear h2
    · exact (vX6_hasActor_b25 hF) hc0 h3
    · refine s_rl (i := 0) (pc' := 11) (by decide +kernel) rfl ?_
      refine s_gI (t := 5) (j := 1) (ty := 0) (pc' := 14) (by decide +kernel) rfl h3 (fun v2 h4 => ?_); clear h3
      refine s_il (i := 1) (pc' := 15) (by decide +kernel) rfl ?_
      refine kX10_holds (X := 0) (Y := 0) (X' := 0) (Y' := 0) (pc' := 18) (by decide +kernel) hc0 rfl h4 (fun v3 c hc1 h5 => ?_); clear h4 hc0
      refine s_if (ins := .ifCond .eq 7) (t := 25) (pc' := 21) (by decide +kernel) rfl rfl rfl h5 (fun p6 h6 => ?_) (fun p6 h6 => ?_) <;> clear h5
      · exact (vX6_hasActor_b25 hF) hc1 h6
      · refine s_c (v := 1) (pc' := 22) (by decide +kernel) ?_
        refine s_go (t := 26) (by decide +kernel) ?_
        exact (vX6_hasActor_b26 hF) hc1 h6
set_option maxRecDepth 100000 in
set_option maxHeartbeats 4000000 in
theorem kX6_hasActor {K J : Nat → Nat} {fu : Nat} {sh : HS} {I : HI} {R : HR} {F : VF} {mi pc pc' X Y X' Y' : Nat} {L : VL} {rest : List Value} {c : Nat × Nat} {l0 : Nat} {l1 : Int32} {ω : Type} {o : ω} {g : Int32 → Option ω} (hq : cQ mi pc 43 2 pc' X Y X' Y' = true) (hc : c.1 ≤ X ∧ c.2 ≤ Y) (hr : Nat.ble (catS rest) 8 = true) (h : (fX6_hasActor fu sh I R l0 l1).bind g = some o) (kk : ∀ v c', (c'.1 ≤ X' ∧ c'.2 ≤ Y') → g v = some o → V K J mi pc' L ((.int v) :: rest) sh I R c' F) : V K J mi pc L (.int l1 :: .ref l0 :: rest) sh I R c F := by
  obtain ⟨r, h1, h2⟩ := bnd h
  have hT : isT sh l0 5 = true := by unfold fX6_hasActor at h1; exact (gd h1).1
  have ml : mL 43 = 2 := by decide +kernel
  have mk : mK 43 = 1 := by decide +kernel
  have mc : mC 43 = 5 := by decide +kernel
  refine s_call (as := [.int l1, .ref l0]) (G := fun o' sh' I' R' => o' = .inl (some (.int r)) ∧ sh' = sh ∧ I' = I ∧ R' = R) hq hc rfl hr (by rw [ml]; rfl) (Or.inl rfl) (fun _ => Or.inl (Or.inl ⟨by rw [mc]; decide, by rw [mc]; exact isT_iff.mp hT⟩)) (fun z => absurd (mk.symm.trans z) (by decide)) (by rw [ml]; exact vX6_hasActor (F := fun o' sh' I' R' => o' = .inl (some (.int r)) ∧ sh' = sh ∧ I' = I ∧ R' = R) ⟨rfl, rfl, rfl, rfl⟩ h1) ?_ ?_ ?_
  · rintro sh' I' R' c' hc' ⟨g1, rfl, rfl, rfl⟩
    cases g1
  · rintro v' sh' I' R' c' hc' ⟨g1, rfl, rfl, rfl⟩
    cases g1
    exact kk _ _ hc' h2
  · rintro E' sh' I' R' ⟨g1, rfl, rfl, rfl⟩
    cases g1
set_option maxRecDepth 100000 in
set_option maxHeartbeats 4000000 in
def fX1_readActor_b19 (fu : Nat) (sh : HS) (R : HR) (I : HI) (l0 : Nat) : Option HI :=
  (fX1_fail fu sh I R l0 1).bind fun w2 =>
  some w2
set_option maxRecDepth 100000 in
set_option maxHeartbeats 4000000 in
theorem vX1_readActor_b19 {K J : Nat → Nat} {fu : Nat} {sh : HS} {R : HR} {F : VF} {o : HI} (hF : F (.inl none) sh o R) {I : HI} {l0 : Nat} {d1 d2 d3 d4 d5 d6 : Option Value} {c : Nat × Nat} (hc0 : c.1 ≤ 0 ∧ c.2 ≤ 0) (h0 : fX1_readActor_b19 fu sh R I l0 = some o) : V K J 15 19 [some (.ref l0), d1, d2, d3, d4, d5, d6] [] sh I R c F := by
  unfold fX1_readActor_b19 at h0
  refine s_rl (i := 0) (pc' := 20) (by decide +kernel) rfl ?_
  refine s_c (v := 1) (pc' := 21) (by decide +kernel) ?_
  refine kX1_fail (X := 0) (Y := 0) (X' := 0) (Y' := 0) (pc' := 24) (by decide +kernel) hc0 rfl h0 (fun w2 c hc1 h1 => ?_); clear h0 hc0
  have e9 := Option.some.inj h1; subst e9
  exact s_rv (X := 0) (Y := 0) (by decide +kernel) hc1 hF
set_option maxRecDepth 100000 in
set_option maxHeartbeats 4000000 in
def fX1_readActor_b124 (fu : Nat) (sh : HS) (R : HR) (I : HI) : Option HI :=
  some I
set_option maxRecDepth 100000 in
set_option maxHeartbeats 4000000 in
theorem vX1_readActor_b124 {K J : Nat → Nat} {fu : Nat} {sh : HS} {R : HR} {F : VF} {o : HI} (hF : F (.inl none) sh o R) {I : HI} {d0 d1 d2 d3 d4 d5 d6 : Option Value} {c : Nat × Nat} (hc0 : c.1 ≤ 0 ∧ c.2 ≤ 0) (h0 : fX1_readActor_b124 fu sh R I = some o) : V K J 15 124 [d0, d1, d2, d3, d4, d5, d6] [] sh I R c F := by
  unfold fX1_readActor_b124 at h0
  have e9 := Option.some.inj h0; subst e9
  exact s_rv (X := 0) (Y := 0) (by decide +kernel) hc0 hF
set_option maxRecDepth 100000 in
set_option maxHeartbeats 4000000 in
def fX1_readActor_b58 (fu : Nat) (sh : HS) (R : HR) (I : HI) (l0 : Nat) (l3 : Nat) (l4 : Int32) : Option HI :=
  (fX1_advance fu sh I R l0).bind fun w9 =>
  oH (fX1_takeNumber fu sh w9 R l0 0 199) fun v10 w10 =>
  oH (fX1_takeNumber fu sh w10 R l0 0 199) fun v11 w11 =>
  (fX1_takeSemicolon fu sh w11 R l0).bind fun w12 =>
  (oI sh w12 l0 1 6).bind fun v13 =>
  if v13 = 0 then
    ((oI sh w12 l3 5 1).bind fun v14 =>
    (oP sh w12 l3 5 1 (v14 ||| (1 <<< (l4 &&& 31)))).bind fun v15 =>
    (oR sh R l3 5 2).bind fun v16 =>
    (oS sh v15 v16 l4 v10).bind fun v17 =>
    (oR sh R l3 5 3).bind fun v18 =>
    (oS sh v17 v18 l4 v11).bind fun v19 =>
    (fX1_readActor_b124 fu sh R) v19)
  else
    ((fX1_readActor_b124 fu sh R) w12)
set_option maxRecDepth 100000 in
set_option maxHeartbeats 4000000 in
theorem vX1_readActor_b58 {K J : Nat → Nat} {fu : Nat} {sh : HS} {R : HR} {F : VF} {o : HI} (hF : F (.inl none) sh o R) {I : HI} {l0 : Nat} {l3 : Nat} {l4 : Int32} {d1 d2 d5 d6 : Option Value} {c : Nat × Nat} (hc0 : c.1 ≤ 0 ∧ c.2 ≤ 0) (h0 : fX1_readActor_b58 fu sh R I l0 l3 l4 = some o) : V K J 15 58 [some (.ref l0), d1, d2, some (.ref l3), some (.int l4), d5, d6] [] sh I R c F := by
  unfold fX1_readActor_b58 at h0
  refine s_rl (i := 0) (pc' := 59) (by decide +kernel) rfl ?_
  refine kX1_advance (X := 0) (Y := 0) (X' := 0) (Y' := 0) (pc' := 62) (by decide +kernel) hc0 rfl h0 (fun w9 c hc1 h1 => ?_); clear h0 hc0
  refine s_rl (i := 0) (pc' := 63) (by decide +kernel) rfl ?_
  refine s_c (v := 0) (pc' := 64) (by decide +kernel) ?_
  refine s_c (v := 199) (pc' := 67) (by decide +kernel) ?_
  refine kX1_takeNumber (X := 0) (Y := 0) (X' := 0) (Y' := 0) (pc' := 70) (by decide +kernel) hc1 rfl h1 (fun v10 w10 c hc2 h2 => ?_); clear h1 hc1
  refine s_is (i := 5) (pc' := 72) (L' := [some (.ref l0), d1, d2, some (.ref l3), some (.int l4), some (.int v10), d6]) (by decide +kernel) rfl rfl ?_
  refine s_rl (i := 0) (pc' := 73) (by decide +kernel) rfl ?_
  refine s_c (v := 0) (pc' := 74) (by decide +kernel) ?_
  refine s_c (v := 199) (pc' := 77) (by decide +kernel) ?_
  refine kX1_takeNumber (X := 0) (Y := 0) (X' := 0) (Y' := 0) (pc' := 80) (by decide +kernel) hc2 rfl h2 (fun v11 w11 c hc3 h3 => ?_); clear h2 hc2
  refine s_is (i := 6) (pc' := 82) (L' := [some (.ref l0), d1, d2, some (.ref l3), some (.int l4), some (.int v10), some (.int v11)]) (by decide +kernel) rfl rfl ?_
  refine s_rl (i := 0) (pc' := 83) (by decide +kernel) rfl ?_
  refine kX1_takeSemicolon (X := 0) (Y := 0) (X' := 0) (Y' := 0) (pc' := 86) (by decide +kernel) hc3 rfl h3 (fun w12 c hc4 h4 => ?_); clear h3 hc3
  refine s_rl (i := 0) (pc' := 87) (by decide +kernel) rfl ?_
  refine s_gI (t := 1) (j := 6) (ty := 0) (pc' := 90) (by decide +kernel) rfl h4 (fun v13 h5 => ?_); clear h4
  refine s_ifn (ins := .ifCond .ne 34) (t := 124) (pc' := 93) (by decide +kernel) rfl rfl rfl h5 (fun p6 h6 => ?_) (fun p6 h6 => ?_) <;> clear h5
  · exact (vX1_readActor_b124 hF) hc4 h6
  · refine s_rl (i := 3) (pc' := 94) (by decide +kernel) rfl ?_
    refine s_a (ins := .dup) (pc' := 95) (by decide +kernel) rfl ?_
    refine s_gI (t := 5) (j := 1) (ty := 0) (pc' := 98) (by decide +kernel) rfl h6 (fun v14 h7 => ?_); clear h6
    refine s_c (v := 1) (pc' := 99) (by decide +kernel) ?_
    refine s_il (i := 4) (pc' := 101) (by decide +kernel) rfl ?_
    refine s_a (ins := .ishl) (pc' := 102) (by decide +kernel) rfl ?_
    refine s_a (ins := .ior) (pc' := 103) (by decide +kernel) rfl ?_
    refine s_pI (t := 5) (j := 1) (ty := 0) (pc' := 106) (by decide +kernel) (Or.inl rfl) h7 (fun v15 h8 => ?_); clear h7
    refine s_rl (i := 3) (pc' := 107) (by decide +kernel) rfl ?_
    refine s_gR (t := 5) (j := 2) (pc' := 110) (by decide +kernel) h8 (fun v16 h9 => ?_); clear h8
    refine s_il (i := 4) (pc' := 112) (by decide +kernel) rfl ?_
    refine s_il (i := 5) (pc' := 114) (by decide +kernel) rfl ?_
    refine s_as (pc' := 115) (by decide +kernel) h9 (fun v17 h10 => ?_); clear h9
    refine s_rl (i := 3) (pc' := 116) (by decide +kernel) rfl ?_
    refine s_gR (t := 5) (j := 3) (pc' := 119) (by decide +kernel) h10 (fun v18 h11 => ?_); clear h10
    refine s_il (i := 4) (pc' := 121) (by decide +kernel) rfl ?_
    refine s_il (i := 6) (pc' := 123) (by decide +kernel) rfl ?_
    refine s_as (pc' := 124) (by decide +kernel) h11 (fun v19 h12 => ?_); clear h11
    exact (vX1_readActor_b124 hF) hc4 h12
set_option maxRecDepth 100000 in
set_option maxHeartbeats 4000000 in
def fX1_readActor (fu : Nat) (sh : HS) (I : HI) (R : HR) (l0 : Nat) (l1 : Nat) : Option HI :=
  if isT sh l0 1 = true then
    ((oI sh I l1 0 3).bind fun v1 =>
    if (v1 - 1) < 0 then
      ((fX1_readActor_b19 fu sh R) I l0)
    else
      ((fX0_shotsOfScene fu sh I R l1 (v1 - 1)).bind fun v3 =>
      if v3 ≤ 0 then
        ((oR sh R l1 0 5).bind fun v4 =>
        (oB sh R v4 5 (v1 - 1)).bind fun v5 =>
        (fX1_advance fu sh I R l0).bind fun w6 =>
        oH (fX1_seeNumber fu sh w6 R l0 0 5) fun v7 w7 =>
        (fX6_hasActor fu sh w7 R v5 v7).bind fun v8 =>
        if v8 = 0 then
          ((fX1_readActor_b58 fu sh R) w7 l0 v5 v7)
        else
          ((fX1_fail fu sh w7 R l0 3).bind fun w20 =>
          (fX1_readActor_b58 fu sh R) w20 l0 v5 v7))
      else
        ((fX1_readActor_b19 fu sh R) I l0)))
  else none
set_option maxRecDepth 100000 in
set_option maxHeartbeats 4000000 in
theorem vX1_readActor {K J : Nat → Nat} {fu : Nat} {sh : HS} {I : HI} {R : HR} {F : VF} {o : HI} (hF : F (.inl none) sh o R) {l0 : Nat} {l1 : Nat} (h0 : fX1_readActor fu sh I R l0 l1 = some o) : V K J 15 0 (ent 7 [.ref l0, .ref l1]) [] sh I R (0, 0) F := by
  unfold fX1_readActor at h0
  obtain ⟨-, h1⟩ := gd h0; clear h0
  have hc0 : ((0 : Nat), (0 : Nat)).1 ≤ 0 ∧ ((0 : Nat), (0 : Nat)).2 ≤ 0 := ⟨Nat.le_refl _, Nat.le_refl _⟩
  show V K J 15 0 [some (.ref l0), some (.ref l1), none, none, none, none, none] [] sh I R (0, 0) F
  refine s_rl (i := 1) (pc' := 1) (by decide +kernel) rfl ?_
  refine s_gI (t := 0) (j := 3) (ty := 0) (pc' := 4) (by decide +kernel) rfl h1 (fun v1 h2 => ?_); clear h1
  refine s_c (v := 1) (pc' := 5) (by decide +kernel) ?_
  refine s_a (ins := .isub) (pc' := 6) (by decide +kernel) rfl ?_
  refine s_is (i := 2) (pc' := 7) (L' := [some (.ref l0), some (.ref l1), some (.int (v1 - 1)), none, none, none, none]) (by decide +kernel) rfl rfl ?_
  refine s_il (i := 2) (pc' := 8) (by decide +kernel) rfl ?_
  refine s_if (ins := .ifCond .lt 11) (t := 19) (pc' := 11) (by decide +kernel) rfl rfl rfl h2 (fun p3 h3 => ?_) (fun p3 h3 => ?_) <;> clear h2
  · exact (vX1_readActor_b19 hF) hc0 h3
  · refine s_rl (i := 1) (pc' := 12) (by decide +kernel) rfl ?_
    refine s_il (i := 2) (pc' := 13) (by decide +kernel) rfl ?_
    refine kX0_shotsOfScene (X := 0) (Y := 0) (X' := 0) (Y' := 0) (pc' := 16) (by decide +kernel) hc0 rfl h3 (fun v3 c hc1 h4 => ?_); clear h3 hc0
    refine s_if (ins := .ifCond .le 9) (t := 25) (pc' := 19) (by decide +kernel) rfl rfl rfl h4 (fun p5 h5 => ?_) (fun p5 h5 => ?_) <;> clear h4
    · refine s_rl (i := 1) (pc' := 26) (by decide +kernel) rfl ?_
      refine s_gR (t := 0) (j := 5) (pc' := 29) (by decide +kernel) h5 (fun v4 h6 => ?_); clear h5
      refine s_il (i := 2) (pc' := 30) (by decide +kernel) rfl ?_
      refine s_aal (t := 5) (pc' := 31) (by decide +kernel) h6 (fun v5 h7 => ?_); clear h6
      refine s_rs (i := 3) (pc' := 32) (L' := [some (.ref l0), some (.ref l1), some (.int (v1 - 1)), some (.ref v5), none, none, none]) (by decide +kernel) rfl rfl ?_
      refine s_rl (i := 0) (pc' := 33) (by decide +kernel) rfl ?_
      refine kX1_advance (X := 0) (Y := 0) (X' := 0) (Y' := 0) (pc' := 36) (by decide +kernel) hc1 rfl h7 (fun w6 c hc2 h8 => ?_); clear h7 hc1
      refine s_rl (i := 0) (pc' := 37) (by decide +kernel) rfl ?_
      refine s_c (v := 0) (pc' := 38) (by decide +kernel) ?_
      refine s_c (v := 5) (pc' := 39) (by decide +kernel) ?_
      refine kX1_seeNumber (X := 0) (Y := 0) (X' := 0) (Y' := 0) (pc' := 42) (by decide +kernel) hc2 rfl h8 (fun v7 w7 c hc3 h9 => ?_); clear h8 hc2
      refine s_is (i := 4) (pc' := 44) (L' := [some (.ref l0), some (.ref l1), some (.int (v1 - 1)), some (.ref v5), some (.int v7), none, none]) (by decide +kernel) rfl rfl ?_
      refine s_rl (i := 3) (pc' := 45) (by decide +kernel) rfl ?_
      refine s_il (i := 4) (pc' := 47) (by decide +kernel) rfl ?_
      refine kX6_hasActor (X := 0) (Y := 0) (X' := 0) (Y' := 0) (pc' := 50) (by decide +kernel) hc3 rfl h9 (fun v8 c hc4 h10 => ?_); clear h9 hc3
      refine s_if (ins := .ifCond .eq 8) (t := 58) (pc' := 53) (by decide +kernel) rfl rfl rfl h10 (fun p11 h11 => ?_) (fun p11 h11 => ?_) <;> clear h10
      · exact (vX1_readActor_b58 hF) hc4 h11
      · refine s_rl (i := 0) (pc' := 54) (by decide +kernel) rfl ?_
        refine s_c (v := 3) (pc' := 55) (by decide +kernel) ?_
        refine kX1_fail (X := 0) (Y := 0) (X' := 0) (Y' := 0) (pc' := 58) (by decide +kernel) hc4 rfl h11 (fun w20 c hc5 h12 => ?_); clear h11 hc4
        exact (vX1_readActor_b58 hF) hc5 h12
    · exact (vX1_readActor_b19 hF) hc1 h5
set_option maxRecDepth 100000 in
set_option maxHeartbeats 4000000 in
theorem kX1_readActor {K J : Nat → Nat} {fu : Nat} {sh : HS} {I : HI} {R : HR} {F : VF} {mi pc pc' X Y X' Y' : Nat} {L : VL} {rest : List Value} {c : Nat × Nat} {l0 : Nat} {l1 : Nat} {ω : Type} {o : ω} {g : HI → Option ω} (hq : cQ mi pc 15 2 pc' X Y X' Y' = true) (hc : c.1 ≤ X ∧ c.2 ≤ Y) (hr : Nat.ble (catS rest) 8 = true) (h : (fX1_readActor fu sh I R l0 l1).bind g = some o) (kk : ∀ w c', (c'.1 ≤ X' ∧ c'.2 ≤ Y') → g w = some o → V K J mi pc' L (rest) sh w R c' F) : V K J mi pc L (.ref l1 :: .ref l0 :: rest) sh I R c F := by
  obtain ⟨r, h1, h2⟩ := bnd h
  have hT : isT sh l0 1 = true := by unfold fX1_readActor at h1; exact (gd h1).1
  have ml : mL 15 = 7 := by decide +kernel
  have mk : mK 15 = 1 := by decide +kernel
  have mc : mC 15 = 1 := by decide +kernel
  refine s_call (as := [.ref l1, .ref l0]) (G := fun o' sh' I' R' => o' = .inl none ∧ sh' = sh ∧ I' = r ∧ R' = R) hq hc rfl hr (by rw [ml]; rfl) (Or.inl rfl) (fun _ => Or.inl (Or.inl ⟨by rw [mc]; decide, by rw [mc]; exact isT_iff.mp hT⟩)) (fun z => absurd (mk.symm.trans z) (by decide)) (by rw [ml]; exact vX1_readActor (F := fun o' sh' I' R' => o' = .inl none ∧ sh' = sh ∧ I' = r ∧ R' = R) ⟨rfl, rfl, rfl, rfl⟩ h1) ?_ ?_ ?_
  · rintro sh' I' R' c' hc' ⟨g1, rfl, rfl, rfl⟩
    cases g1
    exact kk _ _ hc' h2
  · rintro v' sh' I' R' c' hc' ⟨g1, rfl, rfl, rfl⟩
    cases g1
  · rintro E' sh' I' R' ⟨g1, rfl, rfl, rfl⟩
    cases g1
set_option maxRecDepth 100000 in
set_option maxHeartbeats 4000000 in
def fX1_seeActorOf_b20 (fu : Nat) (sh : HS) (R : HR) (I : HI) (l2 : Int32) : Option (Int32 × HI) :=
  some (l2, I)
set_option maxRecDepth 100000 in
set_option maxHeartbeats 4000000 in
theorem vX1_seeActorOf_b20 {K J : Nat → Nat} {fu : Nat} {sh : HS} {R : HR} {F : VF} {o : (Int32 × HI)} (hF : F (.inl (some (.int o.1))) sh o.2 R) {I : HI} {l2 : Int32} {d0 d1 : Option Value} {c : Nat × Nat} (hc0 : c.1 ≤ 0 ∧ c.2 ≤ 0) (h0 : fX1_seeActorOf_b20 fu sh R I l2 = some o) : V K J 20 20 [d0, d1, some (.int l2)] [] sh I R c F := by
  unfold fX1_seeActorOf_b20 at h0
  refine s_il (i := 2) (pc' := 21) (by decide +kernel) rfl ?_
  have e9 := Option.some.inj h0; subst e9
  exact s_ri (X := 0) (Y := 0) (by decide +kernel) hc0 hF
set_option maxRecDepth 100000 in
set_option maxHeartbeats 4000000 in
def fX1_seeActorOf (fu : Nat) (sh : HS) (I : HI) (R : HR) (l0 : Nat) (l1 : Nat) : Option (Int32 × HI) :=
  if isT sh l0 1 = true then
    (oH (fX1_seeNumber fu sh I R l0 0 5) fun v1 w1 =>
    (fX6_hasActor fu sh w1 R l1 v1).bind fun v2 =>
    if v2 = 0 then
      ((fX1_fail fu sh w1 R l0 2).bind fun w3 =>
      (fX1_seeActorOf_b20 fu sh R) w3 v1)
    else
      ((fX1_seeActorOf_b20 fu sh R) w1 v1))
  else none
set_option maxRecDepth 100000 in
set_option maxHeartbeats 4000000 in
theorem vX1_seeActorOf {K J : Nat → Nat} {fu : Nat} {sh : HS} {I : HI} {R : HR} {F : VF} {o : (Int32 × HI)} (hF : F (.inl (some (.int o.1))) sh o.2 R) {l0 : Nat} {l1 : Nat} (h0 : fX1_seeActorOf fu sh I R l0 l1 = some o) : V K J 20 0 (ent 3 [.ref l0, .ref l1]) [] sh I R (0, 0) F := by
  unfold fX1_seeActorOf at h0
  obtain ⟨-, h1⟩ := gd h0; clear h0
  have hc0 : ((0 : Nat), (0 : Nat)).1 ≤ 0 ∧ ((0 : Nat), (0 : Nat)).2 ≤ 0 := ⟨Nat.le_refl _, Nat.le_refl _⟩
  show V K J 20 0 [some (.ref l0), some (.ref l1), none] [] sh I R (0, 0) F
  refine s_rl (i := 0) (pc' := 1) (by decide +kernel) rfl ?_
  refine s_c (v := 0) (pc' := 2) (by decide +kernel) ?_
  refine s_c (v := 5) (pc' := 3) (by decide +kernel) ?_
  refine kX1_seeNumber (X := 0) (Y := 0) (X' := 0) (Y' := 0) (pc' := 6) (by decide +kernel) hc0 rfl h1 (fun v1 w1 c hc1 h2 => ?_); clear h1 hc0
  refine s_is (i := 2) (pc' := 7) (L' := [some (.ref l0), some (.ref l1), some (.int v1)]) (by decide +kernel) rfl rfl ?_
  refine s_rl (i := 1) (pc' := 8) (by decide +kernel) rfl ?_
  refine s_il (i := 2) (pc' := 9) (by decide +kernel) rfl ?_
  refine kX6_hasActor (X := 0) (Y := 0) (X' := 0) (Y' := 0) (pc' := 12) (by decide +kernel) hc1 rfl h2 (fun v2 c hc2 h3 => ?_); clear h2 hc1
  refine s_ifn (ins := .ifCond .ne 8) (t := 20) (pc' := 15) (by decide +kernel) rfl rfl rfl h3 (fun p4 h4 => ?_) (fun p4 h4 => ?_) <;> clear h3
  · exact (vX1_seeActorOf_b20 hF) hc2 h4
  · refine s_rl (i := 0) (pc' := 16) (by decide +kernel) rfl ?_
    refine s_c (v := 2) (pc' := 17) (by decide +kernel) ?_
    refine kX1_fail (X := 0) (Y := 0) (X' := 0) (Y' := 0) (pc' := 20) (by decide +kernel) hc2 rfl h4 (fun w3 c hc3 h5 => ?_); clear h4 hc2
    exact (vX1_seeActorOf_b20 hF) hc3 h5
set_option maxRecDepth 100000 in
set_option maxHeartbeats 4000000 in
theorem kX1_seeActorOf {K J : Nat → Nat} {fu : Nat} {sh : HS} {I : HI} {R : HR} {F : VF} {mi pc pc' X Y X' Y' : Nat} {L : VL} {rest : List Value} {c : Nat × Nat} {l0 : Nat} {l1 : Nat} {ω : Type} {o : ω} {g : Int32 → HI → Option ω} (hq : cQ mi pc 20 2 pc' X Y X' Y' = true) (hc : c.1 ≤ X ∧ c.2 ≤ Y) (hr : Nat.ble (catS rest) 8 = true) (h : oH (fX1_seeActorOf fu sh I R l0 l1) g = some o) (kk : ∀ v w c', (c'.1 ≤ X' ∧ c'.2 ≤ Y') → g v w = some o → V K J mi pc' L ((.int v) :: rest) sh w R c' F) : V K J mi pc L (.ref l1 :: .ref l0 :: rest) sh I R c F := by
  obtain ⟨r, h1, h2⟩ := bnd h
  have hT : isT sh l0 1 = true := by unfold fX1_seeActorOf at h1; exact (gd h1).1
  have ml : mL 20 = 3 := by decide +kernel
  have mk : mK 20 = 1 := by decide +kernel
  have mc : mC 20 = 1 := by decide +kernel
  obtain ⟨v, w⟩ := r
  refine s_call (as := [.ref l1, .ref l0]) (G := fun o' sh' I' R' => o' = .inl (some (.int v)) ∧ sh' = sh ∧ I' = w ∧ R' = R) hq hc rfl hr (by rw [ml]; rfl) (Or.inl rfl) (fun _ => Or.inl (Or.inl ⟨by rw [mc]; decide, by rw [mc]; exact isT_iff.mp hT⟩)) (fun z => absurd (mk.symm.trans z) (by decide)) (by rw [ml]; exact vX1_seeActorOf (F := fun o' sh' I' R' => o' = .inl (some (.int v)) ∧ sh' = sh ∧ I' = w ∧ R' = R) ⟨rfl, rfl, rfl, rfl⟩ h1) ?_ ?_ ?_
  · rintro sh' I' R' c' hc' ⟨g1, rfl, rfl, rfl⟩
    cases g1
  · rintro v' sh' I' R' c' hc' ⟨g1, rfl, rfl, rfl⟩
    cases g1
    exact kk _ _ _ hc' h2
  · rintro E' sh' I' R' ⟨g1, rfl, rfl, rfl⟩
    cases g1
set_option maxRecDepth 100000 in
set_option maxHeartbeats 4000000 in
def fX1_readSubject_b33 (fu : Nat) (sh : HS) (R : HR) (I : HI) (l0 : Nat) : Option HI :=
  (fX1_advance fu sh I R l0).bind fun w7 =>
  some w7
set_option maxRecDepth 100000 in
set_option maxHeartbeats 4000000 in
theorem vX1_readSubject_b33 {K J : Nat → Nat} {fu : Nat} {sh : HS} {R : HR} {F : VF} {o : HI} (hF : F (.inl none) sh o R) {I : HI} {l0 : Nat} {d1 d2 : Option Value} {c : Nat × Nat} (hc0 : c.1 ≤ 0 ∧ c.2 ≤ 0) (h0 : fX1_readSubject_b33 fu sh R I l0 = some o) : V K J 17 33 [some (.ref l0), d1, d2] [] sh I R c F := by
  unfold fX1_readSubject_b33 at h0
  refine s_rl (i := 0) (pc' := 34) (by decide +kernel) rfl ?_
  refine kX1_advance (X := 0) (Y := 0) (X' := 0) (Y' := 0) (pc' := 37) (by decide +kernel) hc0 rfl h0 (fun w7 c hc1 h1 => ?_); clear h0 hc0
  have e9 := Option.some.inj h1; subst e9
  exact s_rv (X := 0) (Y := 0) (by decide +kernel) hc1 hF
set_option maxRecDepth 100000 in
set_option maxHeartbeats 4000000 in
def fX1_readSubject (fu : Nat) (sh : HS) (I : HI) (R : HR) (l0 : Nat) (l1 : Nat) (l2 : Nat) : Option HI :=
  if isT sh l0 1 = true then
    (oH (fX1_seeActorOf fu sh I R l0 l1) fun v1 w1 =>
    (oP sh w1 l2 7 3 v1).bind fun v2 =>
    (oI sh v2 l2 7 3).bind fun v3 =>
    (oI sh v2 l2 7 1).bind fun v4 =>
    (oI sh v2 l2 7 2).bind fun v5 =>
    (fX6_isActorAt fu sh v2 R l1 v3 v4 v5).bind fun v6 =>
    if v6 = 0 then
      ((fX1_readSubject_b33 fu sh R) v2 l0)
    else
      ((fX1_fail fu sh v2 R l0 3).bind fun w8 =>
      (fX1_readSubject_b33 fu sh R) w8 l0))
  else none
set_option maxRecDepth 100000 in
set_option maxHeartbeats 4000000 in
theorem vX1_readSubject {K J : Nat → Nat} {fu : Nat} {sh : HS} {I : HI} {R : HR} {F : VF} {o : HI} (hF : F (.inl none) sh o R) {l0 : Nat} {l1 : Nat} {l2 : Nat} (h0 : fX1_readSubject fu sh I R l0 l1 l2 = some o) : V K J 17 0 (ent 3 [.ref l0, .ref l1, .ref l2]) [] sh I R (0, 0) F := by
  unfold fX1_readSubject at h0
  obtain ⟨-, h1⟩ := gd h0; clear h0
  have hc0 : ((0 : Nat), (0 : Nat)).1 ≤ 0 ∧ ((0 : Nat), (0 : Nat)).2 ≤ 0 := ⟨Nat.le_refl _, Nat.le_refl _⟩
  show V K J 17 0 [some (.ref l0), some (.ref l1), some (.ref l2)] [] sh I R (0, 0) F
  refine s_rl (i := 2) (pc' := 1) (by decide +kernel) rfl ?_
  refine s_rl (i := 0) (pc' := 2) (by decide +kernel) rfl ?_
  refine s_rl (i := 1) (pc' := 3) (by decide +kernel) rfl ?_
  refine kX1_seeActorOf (X := 0) (Y := 0) (X' := 0) (Y' := 0) (pc' := 6) (by decide +kernel) hc0 rfl h1 (fun v1 w1 c hc1 h2 => ?_); clear h1 hc0
  refine s_pI (t := 7) (j := 3) (ty := 0) (pc' := 9) (by decide +kernel) (Or.inl rfl) h2 (fun v2 h3 => ?_); clear h2
  refine s_rl (i := 1) (pc' := 10) (by decide +kernel) rfl ?_
  refine s_rl (i := 2) (pc' := 11) (by decide +kernel) rfl ?_
  refine s_gI (t := 7) (j := 3) (ty := 0) (pc' := 14) (by decide +kernel) rfl h3 (fun v3 h4 => ?_); clear h3
  refine s_rl (i := 2) (pc' := 15) (by decide +kernel) rfl ?_
  refine s_gI (t := 7) (j := 1) (ty := 0) (pc' := 18) (by decide +kernel) rfl h4 (fun v4 h5 => ?_); clear h4
  refine s_rl (i := 2) (pc' := 19) (by decide +kernel) rfl ?_
  refine s_gI (t := 7) (j := 2) (ty := 0) (pc' := 22) (by decide +kernel) rfl h5 (fun v5 h6 => ?_); clear h5
  refine kX6_isActorAt (X := 0) (Y := 0) (X' := 0) (Y' := 0) (pc' := 25) (by decide +kernel) hc1 rfl h6 (fun v6 c hc2 h7 => ?_); clear h6 hc1
  refine s_if (ins := .ifCond .eq 8) (t := 33) (pc' := 28) (by decide +kernel) rfl rfl rfl h7 (fun p8 h8 => ?_) (fun p8 h8 => ?_) <;> clear h7
  · exact (vX1_readSubject_b33 hF) hc2 h8
  · refine s_rl (i := 0) (pc' := 29) (by decide +kernel) rfl ?_
    refine s_c (v := 3) (pc' := 30) (by decide +kernel) ?_
    refine kX1_fail (X := 0) (Y := 0) (X' := 0) (Y' := 0) (pc' := 33) (by decide +kernel) hc2 rfl h8 (fun w8 c hc3 h9 => ?_); clear h8 hc2
    exact (vX1_readSubject_b33 hF) hc3 h9
set_option maxRecDepth 100000 in
set_option maxHeartbeats 4000000 in
theorem kX1_readSubject {K J : Nat → Nat} {fu : Nat} {sh : HS} {I : HI} {R : HR} {F : VF} {mi pc pc' X Y X' Y' : Nat} {L : VL} {rest : List Value} {c : Nat × Nat} {l0 : Nat} {l1 : Nat} {l2 : Nat} {ω : Type} {o : ω} {g : HI → Option ω} (hq : cQ mi pc 17 3 pc' X Y X' Y' = true) (hc : c.1 ≤ X ∧ c.2 ≤ Y) (hr : Nat.ble (catS rest) 8 = true) (h : (fX1_readSubject fu sh I R l0 l1 l2).bind g = some o) (kk : ∀ w c', (c'.1 ≤ X' ∧ c'.2 ≤ Y') → g w = some o → V K J mi pc' L (rest) sh w R c' F) : V K J mi pc L (.ref l2 :: .ref l1 :: .ref l0 :: rest) sh I R c F := by
  obtain ⟨r, h1, h2⟩ := bnd h
  have hT : isT sh l0 1 = true := by unfold fX1_readSubject at h1; exact (gd h1).1
  have ml : mL 17 = 3 := by decide +kernel
  have mk : mK 17 = 1 := by decide +kernel
  have mc : mC 17 = 1 := by decide +kernel
  refine s_call (as := [.ref l2, .ref l1, .ref l0]) (G := fun o' sh' I' R' => o' = .inl none ∧ sh' = sh ∧ I' = r ∧ R' = R) hq hc rfl hr (by rw [ml]; rfl) (Or.inl rfl) (fun _ => Or.inl (Or.inl ⟨by rw [mc]; decide, by rw [mc]; exact isT_iff.mp hT⟩)) (fun z => absurd (mk.symm.trans z) (by decide)) (by rw [ml]; exact vX1_readSubject (F := fun o' sh' I' R' => o' = .inl none ∧ sh' = sh ∧ I' = r ∧ R' = R) ⟨rfl, rfl, rfl, rfl⟩ h1) ?_ ?_ ?_
  · rintro sh' I' R' c' hc' ⟨g1, rfl, rfl, rfl⟩
    cases g1
    exact kk _ _ hc' h2
  · rintro v' sh' I' R' c' hc' ⟨g1, rfl, rfl, rfl⟩
    cases g1
  · rintro E' sh' I' R' ⟨g1, rfl, rfl, rfl⟩
    cases g1
set_option maxRecDepth 100000 in
set_option maxHeartbeats 4000000 in
def fX1_readPartner_b39 (fu : Nat) (sh : HS) (R : HR) (I : HI) (l0 : Nat) : Option HI :=
  (fX1_advance fu sh I R l0).bind fun w3 =>
  some w3
set_option maxRecDepth 100000 in
set_option maxHeartbeats 4000000 in
theorem vX1_readPartner_b39 {K J : Nat → Nat} {fu : Nat} {sh : HS} {R : HR} {F : VF} {o : HI} (hF : F (.inl none) sh o R) {I : HI} {l0 : Nat} {d1 d2 : Option Value} {c : Nat × Nat} (hc0 : c.1 ≤ 0 ∧ c.2 ≤ 0) (h0 : fX1_readPartner_b39 fu sh R I l0 = some o) : V K J 18 39 [some (.ref l0), d1, d2] [] sh I R c F := by
  unfold fX1_readPartner_b39 at h0
  refine s_rl (i := 0) (pc' := 40) (by decide +kernel) rfl ?_
  refine kX1_advance (X := 0) (Y := 0) (X' := 0) (Y' := 0) (pc' := 43) (by decide +kernel) hc0 rfl h0 (fun w3 c hc1 h1 => ?_); clear h0 hc0
  have e9 := Option.some.inj h1; subst e9
  exact s_rv (X := 0) (Y := 0) (by decide +kernel) hc1 hF
set_option maxRecDepth 100000 in
set_option maxHeartbeats 4000000 in
def fX1_readPartner (fu : Nat) (sh : HS) (I : HI) (R : HR) (l0 : Nat) (l1 : Nat) (l2 : Nat) : Option HI :=
  if isT sh l0 1 = true then
    ((oP sh I l2 7 4 (-1)).bind fun v1 =>
    (fX1_isKeyword fu sh v1 R l0 15).bind fun v2 =>
    if v2 = 0 then
      (oH (fX1_seeActorOf fu sh v1 R l0 l1) fun v4 w4 =>
      (oP sh w4 l2 7 4 v4).bind fun v5 =>
      (oI sh v5 l2 7 4).bind fun v6 =>
      (oI sh v5 l2 7 3).bind fun v7 =>
      if v6 = v7 then
        ((fX1_fail fu sh v5 R l0 3).bind fun w8 =>
        (fX1_readPartner_b39 fu sh R) w8 l0)
      else
        ((fX1_readPartner_b39 fu sh R) v5 l0))
    else
      ((fX1_readPartner_b39 fu sh R) v1 l0))
  else none
set_option maxRecDepth 100000 in
set_option maxHeartbeats 4000000 in
theorem vX1_readPartner {K J : Nat → Nat} {fu : Nat} {sh : HS} {I : HI} {R : HR} {F : VF} {o : HI} (hF : F (.inl none) sh o R) {l0 : Nat} {l1 : Nat} {l2 : Nat} (h0 : fX1_readPartner fu sh I R l0 l1 l2 = some o) : V K J 18 0 (ent 3 [.ref l0, .ref l1, .ref l2]) [] sh I R (0, 0) F := by
  unfold fX1_readPartner at h0
  obtain ⟨-, h1⟩ := gd h0; clear h0
  have hc0 : ((0 : Nat), (0 : Nat)).1 ≤ 0 ∧ ((0 : Nat), (0 : Nat)).2 ≤ 0 := ⟨Nat.le_refl _, Nat.le_refl _⟩
  show V K J 18 0 [some (.ref l0), some (.ref l1), some (.ref l2)] [] sh I R (0, 0) F
  refine s_rl (i := 2) (pc' := 1) (by decide +kernel) rfl ?_
  refine s_c (v := (-1)) (pc' := 2) (by decide +kernel) ?_
  refine s_pI (t := 7) (j := 4) (ty := 0) (pc' := 5) (by decide +kernel) (Or.inl rfl) h1 (fun v1 h2 => ?_); clear h1
  refine s_rl (i := 0) (pc' := 6) (by decide +kernel) rfl ?_
  refine s_cS (i := 15) (pc' := 8) (by decide +kernel) ?_
  refine kX1_isKeyword (X := 0) (Y := 0) (X' := 0) (Y' := 0) (pc' := 11) (by decide +kernel) hc0 rfl h2 (fun v2 c hc1 h3 => ?_); clear h2 hc0
  refine s_ifn (ins := .ifCond .ne 28) (t := 39) (pc' := 14) (by decide +kernel) rfl rfl rfl h3 (fun p4 h4 => ?_) (fun p4 h4 => ?_) <;> clear h3
  · exact (vX1_readPartner_b39 hF) hc1 h4
  · refine s_rl (i := 2) (pc' := 15) (by decide +kernel) rfl ?_
    refine s_rl (i := 0) (pc' := 16) (by decide +kernel) rfl ?_
    refine s_rl (i := 1) (pc' := 17) (by decide +kernel) rfl ?_
    refine kX1_seeActorOf (X := 0) (Y := 0) (X' := 0) (Y' := 0) (pc' := 20) (by decide +kernel) hc1 rfl h4 (fun v4 w4 c hc2 h5 => ?_); clear h4 hc1
    refine s_pI (t := 7) (j := 4) (ty := 0) (pc' := 23) (by decide +kernel) (Or.inl rfl) h5 (fun v5 h6 => ?_); clear h5
    refine s_rl (i := 2) (pc' := 24) (by decide +kernel) rfl ?_
    refine s_gI (t := 7) (j := 4) (ty := 0) (pc' := 27) (by decide +kernel) rfl h6 (fun v6 h7 => ?_); clear h6
    refine s_rl (i := 2) (pc' := 28) (by decide +kernel) rfl ?_
    refine s_gI (t := 7) (j := 3) (ty := 0) (pc' := 31) (by decide +kernel) rfl h7 (fun v7 h8 => ?_); clear h7
    refine s_ifn (ins := .if_icmp .ne 8) (t := 39) (pc' := 34) (by decide +kernel) rfl rfl rfl h8 (fun p9 h9 => ?_) (fun p9 h9 => ?_) <;> clear h8
    · exact (vX1_readPartner_b39 hF) hc2 h9
    · refine s_rl (i := 0) (pc' := 35) (by decide +kernel) rfl ?_
      refine s_c (v := 3) (pc' := 36) (by decide +kernel) ?_
      refine kX1_fail (X := 0) (Y := 0) (X' := 0) (Y' := 0) (pc' := 39) (by decide +kernel) hc2 rfl h9 (fun w8 c hc3 h10 => ?_); clear h9 hc2
      exact (vX1_readPartner_b39 hF) hc3 h10
set_option maxRecDepth 100000 in
set_option maxHeartbeats 4000000 in
theorem kX1_readPartner {K J : Nat → Nat} {fu : Nat} {sh : HS} {I : HI} {R : HR} {F : VF} {mi pc pc' X Y X' Y' : Nat} {L : VL} {rest : List Value} {c : Nat × Nat} {l0 : Nat} {l1 : Nat} {l2 : Nat} {ω : Type} {o : ω} {g : HI → Option ω} (hq : cQ mi pc 18 3 pc' X Y X' Y' = true) (hc : c.1 ≤ X ∧ c.2 ≤ Y) (hr : Nat.ble (catS rest) 8 = true) (h : (fX1_readPartner fu sh I R l0 l1 l2).bind g = some o) (kk : ∀ w c', (c'.1 ≤ X' ∧ c'.2 ≤ Y') → g w = some o → V K J mi pc' L (rest) sh w R c' F) : V K J mi pc L (.ref l2 :: .ref l1 :: .ref l0 :: rest) sh I R c F := by
  obtain ⟨r, h1, h2⟩ := bnd h
  have hT : isT sh l0 1 = true := by unfold fX1_readPartner at h1; exact (gd h1).1
  have ml : mL 18 = 3 := by decide +kernel
  have mk : mK 18 = 1 := by decide +kernel
  have mc : mC 18 = 1 := by decide +kernel
  refine s_call (as := [.ref l2, .ref l1, .ref l0]) (G := fun o' sh' I' R' => o' = .inl none ∧ sh' = sh ∧ I' = r ∧ R' = R) hq hc rfl hr (by rw [ml]; rfl) (Or.inl rfl) (fun _ => Or.inl (Or.inl ⟨by rw [mc]; decide, by rw [mc]; exact isT_iff.mp hT⟩)) (fun z => absurd (mk.symm.trans z) (by decide)) (by rw [ml]; exact vX1_readPartner (F := fun o' sh' I' R' => o' = .inl none ∧ sh' = sh ∧ I' = r ∧ R' = R) ⟨rfl, rfl, rfl, rfl⟩ h1) ?_ ?_ ?_
  · rintro sh' I' R' c' hc' ⟨g1, rfl, rfl, rfl⟩
    cases g1
    exact kk _ _ hc' h2
  · rintro v' sh' I' R' c' hc' ⟨g1, rfl, rfl, rfl⟩
    cases g1
  · rintro E' sh' I' R' ⟨g1, rfl, rfl, rfl⟩
    cases g1
set_option maxRecDepth 100000 in
set_option maxHeartbeats 4000000 in
def fX1_readShot_b130 (fu : Nat) (sh : HS) (R : HR) (I : HI) : Option HI :=
  some I
set_option maxRecDepth 100000 in
set_option maxHeartbeats 4000000 in
theorem vX1_readShot_b130 {K J : Nat → Nat} {fu : Nat} {sh : HS} {R : HR} {F : VF} {o : HI} (hF : F (.inl none) sh o R) {I : HI} {d0 d1 d2 d3 : Option Value} {c : Nat × Nat} (hc0 : c.1 ≤ 0 ∧ c.2 ≤ 0) (h0 : fX1_readShot_b130 fu sh R I = some o) : V K J 16 130 [d0, d1, d2, d3] [] sh I R c F := by
  unfold fX1_readShot_b130 at h0
  have e9 := Option.some.inj h0; subst e9
  exact s_rv (X := 0) (Y := 0) (by decide +kernel) hc0 hF
set_option maxRecDepth 100000 in
set_option maxHeartbeats 4000000 in
def fX1_readShot (fu : Nat) (sh : HS) (I : HI) (R : HR) (l0 : Nat) (l1 : Nat) : Option HI :=
  if isT sh l0 1 = true then
    ((fX1_canSceneEnd fu sh I R l1).bind fun v1 =>
    if v1 = 0 then
      ((fX1_fail fu sh I R l0 1).bind fun w25 =>
      some w25)
    else
      ((oI sh I l1 0 4).bind fun v2 =>
      if v2 < 12 then
        ((oR sh R l1 0 6).bind fun v3 =>
        (oI sh I l1 0 4).bind fun v4 =>
        (oB sh R v3 7 v4).bind fun v5 =>
        (oI sh I l1 0 3).bind fun v6 =>
        (oP sh I v5 7 0 (v6 - 1)).bind fun v7 =>
        (oR sh R l1 0 5).bind fun v8 =>
        (oI sh v7 v5 7 0).bind fun v9 =>
        (oB sh R v8 5 v9).bind fun v10 =>
        (fX1_advance fu sh v7 R l0).bind fun w11 =>
        oH (fX1_takeNumber fu sh w11 R l0 0 199) fun v12 w12 =>
        (oP sh w12 v5 7 1 v12).bind fun v13 =>
        oH (fX1_takeNumber fu sh v13 R l0 0 199) fun v14 w14 =>
        (oP sh w14 v5 7 2 v14).bind fun v15 =>
        (fX1_readSubject fu sh v15 R l0 v10 v5).bind fun w16 =>
        (fX1_readPartner fu sh w16 R l0 v10 v5).bind fun w17 =>
        oH (fX1_takeNumber fu sh w17 R l0 1 99) fun v18 w18 =>
        (oP sh w18 v5 7 5 v18).bind fun v19 =>
        (fX1_takeSemicolon fu sh v19 R l0).bind fun w20 =>
        (oI sh w20 l0 1 6).bind fun v21 =>
        if v21 = 0 then
          ((oI sh w20 l1 0 4).bind fun v22 =>
          (oP sh w20 l1 0 4 (v22 + 1)).bind fun v23 =>
          (fX1_readShot_b130 fu sh R) v23)
        else
          ((fX1_readShot_b130 fu sh R) w20))
      else
        ((fX1_fail fu sh I R l0 4).bind fun w24 =>
        some w24)))
  else none
set_option maxRecDepth 100000 in
set_option maxHeartbeats 4000000 in
theorem vX1_readShot {K J : Nat → Nat} {fu : Nat} {sh : HS} {I : HI} {R : HR} {F : VF} {o : HI} (hF : F (.inl none) sh o R) {l0 : Nat} {l1 : Nat} (h0 : fX1_readShot fu sh I R l0 l1 = some o) : V K J 16 0 (ent 4 [.ref l0, .ref l1]) [] sh I R (0, 0) F := by
  unfold fX1_readShot at h0
  obtain ⟨-, h1⟩ := gd h0; clear h0
  have hc0 : ((0 : Nat), (0 : Nat)).1 ≤ 0 ∧ ((0 : Nat), (0 : Nat)).2 ≤ 0 := ⟨Nat.le_refl _, Nat.le_refl _⟩
  show V K J 16 0 [some (.ref l0), some (.ref l1), none, none] [] sh I R (0, 0) F
  refine s_rl (i := 1) (pc' := 1) (by decide +kernel) rfl ?_
  refine kX1_canSceneEnd (X := 0) (Y := 0) (X' := 0) (Y' := 0) (pc' := 4) (by decide +kernel) hc0 rfl h1 (fun v1 c hc1 h2 => ?_); clear h1 hc0
  refine s_ifn (ins := .ifCond .ne 9) (t := 13) (pc' := 7) (by decide +kernel) rfl rfl rfl h2 (fun p3 h3 => ?_) (fun p3 h3 => ?_) <;> clear h2
  · refine s_rl (i := 1) (pc' := 14) (by decide +kernel) rfl ?_
    refine s_gI (t := 0) (j := 4) (ty := 0) (pc' := 17) (by decide +kernel) rfl h3 (fun v2 h4 => ?_); clear h3
    refine s_c (v := 12) (pc' := 19) (by decide +kernel) ?_
    refine s_if (ins := .if_icmp .lt 9) (t := 28) (pc' := 22) (by decide +kernel) rfl rfl rfl h4 (fun p5 h5 => ?_) (fun p5 h5 => ?_) <;> clear h4
    · refine s_rl (i := 1) (pc' := 29) (by decide +kernel) rfl ?_
      refine s_gR (t := 0) (j := 6) (pc' := 32) (by decide +kernel) h5 (fun v3 h6 => ?_); clear h5
      refine s_rl (i := 1) (pc' := 33) (by decide +kernel) rfl ?_
      refine s_gI (t := 0) (j := 4) (ty := 0) (pc' := 36) (by decide +kernel) rfl h6 (fun v4 h7 => ?_); clear h6
      refine s_aal (t := 7) (pc' := 37) (by decide +kernel) h7 (fun v5 h8 => ?_); clear h7
      refine s_rs (i := 2) (pc' := 38) (L' := [some (.ref l0), some (.ref l1), some (.ref v5), none]) (by decide +kernel) rfl rfl ?_
      refine s_rl (i := 2) (pc' := 39) (by decide +kernel) rfl ?_
      refine s_rl (i := 1) (pc' := 40) (by decide +kernel) rfl ?_
      refine s_gI (t := 0) (j := 3) (ty := 0) (pc' := 43) (by decide +kernel) rfl h8 (fun v6 h9 => ?_); clear h8
      refine s_c (v := 1) (pc' := 44) (by decide +kernel) ?_
      refine s_a (ins := .isub) (pc' := 45) (by decide +kernel) rfl ?_
      refine s_pI (t := 7) (j := 0) (ty := 0) (pc' := 48) (by decide +kernel) (Or.inl rfl) h9 (fun v7 h10 => ?_); clear h9
      refine s_rl (i := 1) (pc' := 49) (by decide +kernel) rfl ?_
      refine s_gR (t := 0) (j := 5) (pc' := 52) (by decide +kernel) h10 (fun v8 h11 => ?_); clear h10
      refine s_rl (i := 2) (pc' := 53) (by decide +kernel) rfl ?_
      refine s_gI (t := 7) (j := 0) (ty := 0) (pc' := 56) (by decide +kernel) rfl h11 (fun v9 h12 => ?_); clear h11
      refine s_aal (t := 5) (pc' := 57) (by decide +kernel) h12 (fun v10 h13 => ?_); clear h12
      refine s_rs (i := 3) (pc' := 58) (L' := [some (.ref l0), some (.ref l1), some (.ref v5), some (.ref v10)]) (by decide +kernel) rfl rfl ?_
      refine s_rl (i := 0) (pc' := 59) (by decide +kernel) rfl ?_
      refine kX1_advance (X := 0) (Y := 0) (X' := 0) (Y' := 0) (pc' := 62) (by decide +kernel) hc1 rfl h13 (fun w11 c hc2 h14 => ?_); clear h13 hc1
      refine s_rl (i := 2) (pc' := 63) (by decide +kernel) rfl ?_
      refine s_rl (i := 0) (pc' := 64) (by decide +kernel) rfl ?_
      refine s_c (v := 0) (pc' := 65) (by decide +kernel) ?_
      refine s_c (v := 199) (pc' := 68) (by decide +kernel) ?_
      refine kX1_takeNumber (X := 0) (Y := 0) (X' := 0) (Y' := 0) (pc' := 71) (by decide +kernel) hc2 rfl h14 (fun v12 w12 c hc3 h15 => ?_); clear h14 hc2
      refine s_pI (t := 7) (j := 1) (ty := 0) (pc' := 74) (by decide +kernel) (Or.inl rfl) h15 (fun v13 h16 => ?_); clear h15
      refine s_rl (i := 2) (pc' := 75) (by decide +kernel) rfl ?_
      refine s_rl (i := 0) (pc' := 76) (by decide +kernel) rfl ?_
      refine s_c (v := 0) (pc' := 77) (by decide +kernel) ?_
      refine s_c (v := 199) (pc' := 80) (by decide +kernel) ?_
      refine kX1_takeNumber (X := 0) (Y := 0) (X' := 0) (Y' := 0) (pc' := 83) (by decide +kernel) hc3 rfl h16 (fun v14 w14 c hc4 h17 => ?_); clear h16 hc3
      refine s_pI (t := 7) (j := 2) (ty := 0) (pc' := 86) (by decide +kernel) (Or.inl rfl) h17 (fun v15 h18 => ?_); clear h17
      refine s_rl (i := 0) (pc' := 87) (by decide +kernel) rfl ?_
      refine s_rl (i := 3) (pc' := 88) (by decide +kernel) rfl ?_
      refine s_rl (i := 2) (pc' := 89) (by decide +kernel) rfl ?_
      refine kX1_readSubject (X := 0) (Y := 0) (X' := 0) (Y' := 0) (pc' := 92) (by decide +kernel) hc4 rfl h18 (fun w16 c hc5 h19 => ?_); clear h18 hc4
      refine s_rl (i := 0) (pc' := 93) (by decide +kernel) rfl ?_
      refine s_rl (i := 3) (pc' := 94) (by decide +kernel) rfl ?_
      refine s_rl (i := 2) (pc' := 95) (by decide +kernel) rfl ?_
      refine kX1_readPartner (X := 0) (Y := 0) (X' := 0) (Y' := 0) (pc' := 98) (by decide +kernel) hc5 rfl h19 (fun w17 c hc6 h20 => ?_); clear h19 hc5
      refine s_rl (i := 2) (pc' := 99) (by decide +kernel) rfl ?_
      refine s_rl (i := 0) (pc' := 100) (by decide +kernel) rfl ?_
      refine s_c (v := 1) (pc' := 101) (by decide +kernel) ?_
      refine s_c (v := 99) (pc' := 103) (by decide +kernel) ?_
      refine kX1_takeNumber (X := 0) (Y := 0) (X' := 0) (Y' := 0) (pc' := 106) (by decide +kernel) hc6 rfl h20 (fun v18 w18 c hc7 h21 => ?_); clear h20 hc6
      refine s_pI (t := 7) (j := 5) (ty := 0) (pc' := 109) (by decide +kernel) (Or.inl rfl) h21 (fun v19 h22 => ?_); clear h21
      refine s_rl (i := 0) (pc' := 110) (by decide +kernel) rfl ?_
      refine kX1_takeSemicolon (X := 0) (Y := 0) (X' := 0) (Y' := 0) (pc' := 113) (by decide +kernel) hc7 rfl h22 (fun w20 c hc8 h23 => ?_); clear h22 hc7
      refine s_rl (i := 0) (pc' := 114) (by decide +kernel) rfl ?_
      refine s_gI (t := 1) (j := 6) (ty := 0) (pc' := 117) (by decide +kernel) rfl h23 (fun v21 h24 => ?_); clear h23
      refine s_ifn (ins := .ifCond .ne 13) (t := 130) (pc' := 120) (by decide +kernel) rfl rfl rfl h24 (fun p25 h25 => ?_) (fun p25 h25 => ?_) <;> clear h24
      · exact (vX1_readShot_b130 hF) hc8 h25
      · refine s_rl (i := 1) (pc' := 121) (by decide +kernel) rfl ?_
        refine s_a (ins := .dup) (pc' := 122) (by decide +kernel) rfl ?_
        refine s_gI (t := 0) (j := 4) (ty := 0) (pc' := 125) (by decide +kernel) rfl h25 (fun v22 h26 => ?_); clear h25
        refine s_c (v := 1) (pc' := 126) (by decide +kernel) ?_
        refine s_a (ins := .iadd) (pc' := 127) (by decide +kernel) rfl ?_
        refine s_pI (t := 0) (j := 4) (ty := 0) (pc' := 130) (by decide +kernel) (Or.inl rfl) h26 (fun v23 h27 => ?_); clear h26
        exact (vX1_readShot_b130 hF) hc8 h27
    · refine s_rl (i := 0) (pc' := 23) (by decide +kernel) rfl ?_
      refine s_c (v := 4) (pc' := 24) (by decide +kernel) ?_
      refine kX1_fail (X := 0) (Y := 0) (X' := 0) (Y' := 0) (pc' := 27) (by decide +kernel) hc1 rfl h5 (fun w24 c hc2 h6 => ?_); clear h5 hc1
      have e9 := Option.some.inj h6; subst e9
      exact s_rv (X := 0) (Y := 0) (by decide +kernel) hc2 hF
  · refine s_rl (i := 0) (pc' := 8) (by decide +kernel) rfl ?_
    refine s_c (v := 1) (pc' := 9) (by decide +kernel) ?_
    refine kX1_fail (X := 0) (Y := 0) (X' := 0) (Y' := 0) (pc' := 12) (by decide +kernel) hc1 rfl h3 (fun w25 c hc2 h4 => ?_); clear h3 hc1
    have e9 := Option.some.inj h4; subst e9
    exact s_rv (X := 0) (Y := 0) (by decide +kernel) hc2 hF
set_option maxRecDepth 100000 in
set_option maxHeartbeats 4000000 in
theorem kX1_readShot {K J : Nat → Nat} {fu : Nat} {sh : HS} {I : HI} {R : HR} {F : VF} {mi pc pc' X Y X' Y' : Nat} {L : VL} {rest : List Value} {c : Nat × Nat} {l0 : Nat} {l1 : Nat} {ω : Type} {o : ω} {g : HI → Option ω} (hq : cQ mi pc 16 2 pc' X Y X' Y' = true) (hc : c.1 ≤ X ∧ c.2 ≤ Y) (hr : Nat.ble (catS rest) 8 = true) (h : (fX1_readShot fu sh I R l0 l1).bind g = some o) (kk : ∀ w c', (c'.1 ≤ X' ∧ c'.2 ≤ Y') → g w = some o → V K J mi pc' L (rest) sh w R c' F) : V K J mi pc L (.ref l1 :: .ref l0 :: rest) sh I R c F := by
  obtain ⟨r, h1, h2⟩ := bnd h
  have hT : isT sh l0 1 = true := by unfold fX1_readShot at h1; exact (gd h1).1
  have ml : mL 16 = 4 := by decide +kernel
  have mk : mK 16 = 1 := by decide +kernel
  have mc : mC 16 = 1 := by decide +kernel
  refine s_call (as := [.ref l1, .ref l0]) (G := fun o' sh' I' R' => o' = .inl none ∧ sh' = sh ∧ I' = r ∧ R' = R) hq hc rfl hr (by rw [ml]; rfl) (Or.inl rfl) (fun _ => Or.inl (Or.inl ⟨by rw [mc]; decide, by rw [mc]; exact isT_iff.mp hT⟩)) (fun z => absurd (mk.symm.trans z) (by decide)) (by rw [ml]; exact vX1_readShot (F := fun o' sh' I' R' => o' = .inl none ∧ sh' = sh ∧ I' = r ∧ R' = R) ⟨rfl, rfl, rfl, rfl⟩ h1) ?_ ?_ ?_
  · rintro sh' I' R' c' hc' ⟨g1, rfl, rfl, rfl⟩
    cases g1
    exact kk _ _ hc' h2
  · rintro v' sh' I' R' c' hc' ⟨g1, rfl, rfl, rfl⟩
    cases g1
  · rintro E' sh' I' R' ⟨g1, rfl, rfl, rfl⟩
    cases g1
