/-! methods 9 (printed by wip/whole/gen3.py) -/
set_option maxRecDepth 100000 in
set_option maxHeartbeats 4000000 in
def fX11_bestCost (fu : Nat) (sh : HS) (I : HI) (R : HR) (l0 : Nat) : Option (Int32 × HI) :=
  if isT sh l0 9 = true then
    (oH (fX11_isWrong fu sh I R l0 1) fun v1 w1 =>
    if v1 = 0 then
      ((fX11_layBest fu sh w1 R l0).bind fun w2 =>
      (oI sh w2 l0 9 26).bind fun v3 =>
      some (v3, w2))
    else
      (some (0, w1)))
  else none
set_option maxRecDepth 100000 in
set_option maxHeartbeats 4000000 in
theorem vX11_bestCost {K J : Nat → Nat} {fu : Nat} {sh : HS} {I : HI} {R : HR} {F : VF} {o : (Int32 × HI)} (hF : F (.inl (some (.int o.1))) sh o.2 R) {l0 : Nat} (h0 : fX11_bestCost fu sh I R l0 = some o) : V K J 265 0 (ent 1 [.ref l0]) [] sh I R (0, 0) F := by
  unfold fX11_bestCost at h0
  obtain ⟨-, h1⟩ := gd h0; clear h0
  have hc0 : ((0 : Nat), (0 : Nat)).1 ≤ 0 ∧ ((0 : Nat), (0 : Nat)).2 ≤ 0 := ⟨Nat.le_refl _, Nat.le_refl _⟩
  show V K J 265 0 [some (.ref l0)] [] sh I R (0, 0) F
  refine s_rl (i := 0) (pc' := 1) (by decide +kernel) rfl ?_
  refine s_c (v := 1) (pc' := 2) (by decide +kernel) ?_
  refine kX11_isWrong (X := 0) (Y := 0) (X' := 0) (Y' := 0) (pc' := 5) (by decide +kernel) hc0 rfl h1 (fun v1 w1 c hc1 h2 => ?_); clear h1 hc0
  refine s_if (ins := .ifCond .eq 5) (t := 10) (pc' := 8) (by decide +kernel) rfl rfl rfl h2 (fun p3 h3 => ?_) (fun p3 h3 => ?_) <;> clear h2
  · refine s_rl (i := 0) (pc' := 11) (by decide +kernel) rfl ?_
    refine kX11_layBest (X := 0) (Y := 0) (X' := 0) (Y' := 0) (pc' := 14) (by decide +kernel) hc1 rfl h3 (fun w2 c hc2 h4 => ?_); clear h3 hc1
    refine s_rl (i := 0) (pc' := 15) (by decide +kernel) rfl ?_
    refine s_gI (t := 9) (j := 26) (ty := 0) (pc' := 18) (by decide +kernel) rfl h4 (fun v3 h5 => ?_); clear h4
    have e9 := Option.some.inj h5; subst e9
    exact s_ri (X := 0) (Y := 0) (by decide +kernel) hc2 hF
  · refine s_c (v := 0) (pc' := 9) (by decide +kernel) ?_
    have e9 := Option.some.inj h3; subst e9
    exact s_ri (X := 0) (Y := 0) (by decide +kernel) hc1 hF
set_option maxRecDepth 100000 in
set_option maxHeartbeats 4000000 in
theorem kX11_bestCost {K J : Nat → Nat} {fu : Nat} {sh : HS} {I : HI} {R : HR} {F : VF} {mi pc pc' X Y X' Y' : Nat} {L : VL} {rest : List Value} {c : Nat × Nat} {l0 : Nat} {ω : Type} {o : ω} {g : Int32 → HI → Option ω} (hq : cQ mi pc 265 1 pc' X Y X' Y' = true) (hc : c.1 ≤ X ∧ c.2 ≤ Y) (hr : Nat.ble (catS rest) 8 = true) (h : oH (fX11_bestCost fu sh I R l0) g = some o) (kk : ∀ v w c', (c'.1 ≤ X' ∧ c'.2 ≤ Y') → g v w = some o → V K J mi pc' L ((.int v) :: rest) sh w R c' F) : V K J mi pc L (.ref l0 :: rest) sh I R c F := by
  obtain ⟨r, h1, h2⟩ := bnd h
  have hT : isT sh l0 9 = true := by unfold fX11_bestCost at h1; exact (gd h1).1
  have ml : mL 265 = 1 := by decide +kernel
  have mk : mK 265 = 1 := by decide +kernel
  have mc : mC 265 = 9 := by decide +kernel
  obtain ⟨v, w⟩ := r
  refine s_call (as := [.ref l0]) (G := fun o' sh' I' R' => o' = .inl (some (.int v)) ∧ sh' = sh ∧ I' = w ∧ R' = R) hq hc rfl hr (by rw [ml]; rfl) (Or.inl rfl) (fun _ => Or.inl ⟨by rw [mc]; decide, by rw [mc]; exact isT_iff.mp hT⟩) (fun z => absurd (mk.symm.trans z) (by decide)) (by rw [ml]; exact vX11_bestCost (F := fun o' sh' I' R' => o' = .inl (some (.int v)) ∧ sh' = sh ∧ I' = w ∧ R' = R) ⟨rfl, rfl, rfl, rfl⟩ h1) ?_ ?_ ?_
  · rintro sh' I' R' c' hc' ⟨g1, rfl, rfl, rfl⟩
    cases g1
  · rintro v' sh' I' R' c' hc' ⟨g1, rfl, rfl, rfl⟩
    cases g1
    exact kk _ _ _ hc' h2
  · rintro E' sh' I' R' ⟨g1, rfl, rfl, rfl⟩
    cases g1
set_option maxRecDepth 100000 in
set_option maxHeartbeats 4000000 in
def fX11_ordered_b42 (fu : Nat) (sh : HS) (R : HR) (I : HI) : Option (Int32 × HI) :=
  some (0, I)
set_option maxRecDepth 100000 in
set_option maxHeartbeats 4000000 in
theorem vX11_ordered_b42 {K J : Nat → Nat} {fu : Nat} {sh : HS} {R : HR} {F : VF} {o : (Int32 × HI)} (hF : F (.inl (some (.int o.1))) sh o.2 R) {I : HI} {d0 d1 : Option Value} {c : Nat × Nat} (hc0 : c.1 ≤ 0 ∧ c.2 ≤ 0) (h0 : fX11_ordered_b42 fu sh R I = some o) : V K J 266 42 [d0, d1] [] sh I R c F := by
  unfold fX11_ordered_b42 at h0
  refine s_c (v := 0) (pc' := 43) (by decide +kernel) ?_
  have e9 := Option.some.inj h0; subst e9
  exact s_ri (X := 0) (Y := 0) (by decide +kernel) hc0 hF
set_option maxRecDepth 100000 in
set_option maxHeartbeats 4000000 in
def fX11_ordered_b36 (fu : Nat) (sh : HS) (R : HR) (I : HI) (l0 : Nat) (l1 : Int32) (s0 : Int32) (s1 : Nat) : Option (Int32 × HI) :=
  oH (fX11_lacks fu sh I R s1 s0) fun v5 w5 =>
  if v5 = 0 then
    ((fX11_layBest fu sh w5 R l0).bind fun w6 =>
    (oR sh R l0 9 25).bind fun v7 =>
    (oA sh w6 v7 l1).bind fun v8 =>
    some (v8, w6))
  else
    ((fX11_ordered_b42 fu sh R) w5)
set_option maxRecDepth 100000 in
set_option maxHeartbeats 4000000 in
theorem vX11_ordered_b36 {K J : Nat → Nat} {fu : Nat} {sh : HS} {R : HR} {F : VF} {o : (Int32 × HI)} (hF : F (.inl (some (.int o.1))) sh o.2 R) {I : HI} {l0 : Nat} {l1 : Int32} {s0 : Int32} {s1 : Nat} {c : Nat × Nat} (hc0 : c.1 ≤ 0 ∧ c.2 ≤ 0) (h0 : fX11_ordered_b36 fu sh R I l0 l1 s0 s1 = some o) : V K J 266 36 [some (.ref l0), some (.int l1)] [.int s0, .ref s1] sh I R c F := by
  unfold fX11_ordered_b36 at h0
  refine kX11_lacks (X := 0) (Y := 0) (X' := 0) (Y' := 0) (pc' := 39) (by decide +kernel) hc0 rfl h0 (fun v5 w5 c hc1 h1 => ?_); clear h0 hc0
  refine s_if (ins := .ifCond .eq 5) (t := 44) (pc' := 42) (by decide +kernel) rfl rfl rfl h1 (fun p2 h2 => ?_) (fun p2 h2 => ?_) <;> clear h1
  · refine s_rl (i := 0) (pc' := 45) (by decide +kernel) rfl ?_
    refine kX11_layBest (X := 0) (Y := 0) (X' := 0) (Y' := 0) (pc' := 48) (by decide +kernel) hc1 rfl h2 (fun w6 c hc2 h3 => ?_); clear h2 hc1
    refine s_rl (i := 0) (pc' := 49) (by decide +kernel) rfl ?_
    refine s_gR (t := 9) (j := 25) (pc' := 52) (by decide +kernel) h3 (fun v7 h4 => ?_); clear h3
    refine s_il (i := 1) (pc' := 53) (by decide +kernel) rfl ?_
    refine s_al (pc' := 54) (by decide +kernel) h4 (fun v8 h5 => ?_); clear h4
    have e9 := Option.some.inj h5; subst e9
    exact s_ri (X := 0) (Y := 0) (by decide +kernel) hc2 hF
  · exact (vX11_ordered_b42 hF) hc1 h2
set_option maxRecDepth 100000 in
set_option maxHeartbeats 4000000 in
def fX11_ordered_b10 (fu : Nat) (sh : HS) (R : HR) (I : HI) (l0 : Nat) (l1 : Int32) (s0 : Int32) (s1 : Nat) : Option (Int32 × HI) :=
  oH (fX11_isWrong fu sh I R s1 s0) fun v1 w1 =>
  if v1 = 0 then
    ((oR sh R l0 9 0).bind fun v2 =>
    (oA sh w1 v2 0).bind fun v3 =>
    oH (fX11_setupsNow fu sh w1 R l0 v3) fun v4 w4 =>
    if v4 ≤ l1 then
      ((fX11_ordered_b36 fu sh R) w4 l0 l1 0 l0)
    else
      ((fX11_ordered_b36 fu sh R) w4 l0 l1 1 l0))
  else
    ((fX11_ordered_b42 fu sh R) w1)
set_option maxRecDepth 100000 in
set_option maxHeartbeats 4000000 in
theorem vX11_ordered_b10 {K J : Nat → Nat} {fu : Nat} {sh : HS} {R : HR} {F : VF} {o : (Int32 × HI)} (hF : F (.inl (some (.int o.1))) sh o.2 R) {I : HI} {l0 : Nat} {l1 : Int32} {s0 : Int32} {s1 : Nat} {c : Nat × Nat} (hc0 : c.1 ≤ 0 ∧ c.2 ≤ 0) (h0 : fX11_ordered_b10 fu sh R I l0 l1 s0 s1 = some o) : V K J 266 10 [some (.ref l0), some (.int l1)] [.int s0, .ref s1] sh I R c F := by
  unfold fX11_ordered_b10 at h0
  refine kX11_isWrong (X := 0) (Y := 0) (X' := 0) (Y' := 0) (pc' := 13) (by decide +kernel) hc0 rfl h0 (fun v1 w1 c hc1 h1 => ?_); clear h0 hc0
  refine s_ifn (ins := .ifCond .ne 29) (t := 42) (pc' := 16) (by decide +kernel) rfl rfl rfl h1 (fun p2 h2 => ?_) (fun p2 h2 => ?_) <;> clear h1
  · exact (vX11_ordered_b42 hF) hc1 h2
  · refine s_rl (i := 0) (pc' := 17) (by decide +kernel) rfl ?_
    refine s_il (i := 1) (pc' := 18) (by decide +kernel) rfl ?_
    refine s_rl (i := 0) (pc' := 19) (by decide +kernel) rfl ?_
    refine s_rl (i := 0) (pc' := 20) (by decide +kernel) rfl ?_
    refine s_gR (t := 9) (j := 0) (pc' := 23) (by decide +kernel) h2 (fun v2 h3 => ?_); clear h2
    refine s_c (v := 0) (pc' := 24) (by decide +kernel) ?_
    refine s_al (pc' := 25) (by decide +kernel) h3 (fun v3 h4 => ?_); clear h3
    refine kX11_setupsNow (X := 0) (Y := 0) (X' := 0) (Y' := 0) (pc' := 28) (by decide +kernel) hc1 rfl h4 (fun v4 w4 c hc2 h5 => ?_); clear h4 hc1
    refine s_if (ins := .if_icmp .ge 7) (t := 35) (pc' := 31) (by decide +kernel) rfl rfl rfl h5 (fun p6 h6 => ?_) (fun p6 h6 => ?_) <;> clear h5
    · refine s_c (v := 0) (pc' := 36) (by decide +kernel) ?_
      exact (vX11_ordered_b36 hF) hc2 h6
    · refine s_c (v := 1) (pc' := 32) (by decide +kernel) ?_
      refine s_go (t := 36) (by decide +kernel) ?_
      exact (vX11_ordered_b36 hF) hc2 h6
set_option maxRecDepth 100000 in
set_option maxHeartbeats 4000000 in
def fX11_ordered (fu : Nat) (sh : HS) (I : HI) (R : HR) (l0 : Nat) (l1 : Int32) : Option (Int32 × HI) :=
  if isT sh l0 9 = true then
    (if l1 < 0 then
      ((fX11_ordered_b10 fu sh R) I l0 l1 0 l0)
    else
      ((fX11_ordered_b10 fu sh R) I l0 l1 1 l0))
  else none
set_option maxRecDepth 100000 in
set_option maxHeartbeats 4000000 in
theorem vX11_ordered {K J : Nat → Nat} {fu : Nat} {sh : HS} {I : HI} {R : HR} {F : VF} {o : (Int32 × HI)} (hF : F (.inl (some (.int o.1))) sh o.2 R) {l0 : Nat} {l1 : Int32} (h0 : fX11_ordered fu sh I R l0 l1 = some o) : V K J 266 0 (ent 2 [.ref l0, .int l1]) [] sh I R (0, 0) F := by
  unfold fX11_ordered at h0
  obtain ⟨-, h1⟩ := gd h0; clear h0
  have hc0 : ((0 : Nat), (0 : Nat)).1 ≤ 0 ∧ ((0 : Nat), (0 : Nat)).2 ≤ 0 := ⟨Nat.le_refl _, Nat.le_refl _⟩
  show V K J 266 0 [some (.ref l0), some (.int l1)] [] sh I R (0, 0) F
  refine s_rl (i := 0) (pc' := 1) (by decide +kernel) rfl ?_
  refine s_il (i := 1) (pc' := 2) (by decide +kernel) rfl ?_
  refine s_if (ins := .ifCond .lt 7) (t := 9) (pc' := 5) (by decide +kernel) rfl rfl rfl h1 (fun p2 h2 => ?_) (fun p2 h2 => ?_) <;> clear h1
  · refine s_c (v := 0) (pc' := 10) (by decide +kernel) ?_
    exact (vX11_ordered_b10 hF) hc0 h2
  · refine s_c (v := 1) (pc' := 6) (by decide +kernel) ?_
    refine s_go (t := 10) (by decide +kernel) ?_
    exact (vX11_ordered_b10 hF) hc0 h2
set_option maxRecDepth 100000 in
set_option maxHeartbeats 4000000 in
theorem kX11_ordered {K J : Nat → Nat} {fu : Nat} {sh : HS} {I : HI} {R : HR} {F : VF} {mi pc pc' X Y X' Y' : Nat} {L : VL} {rest : List Value} {c : Nat × Nat} {l0 : Nat} {l1 : Int32} {ω : Type} {o : ω} {g : Int32 → HI → Option ω} (hq : cQ mi pc 266 2 pc' X Y X' Y' = true) (hc : c.1 ≤ X ∧ c.2 ≤ Y) (hr : Nat.ble (catS rest) 8 = true) (h : oH (fX11_ordered fu sh I R l0 l1) g = some o) (kk : ∀ v w c', (c'.1 ≤ X' ∧ c'.2 ≤ Y') → g v w = some o → V K J mi pc' L ((.int v) :: rest) sh w R c' F) : V K J mi pc L (.int l1 :: .ref l0 :: rest) sh I R c F := by
  obtain ⟨r, h1, h2⟩ := bnd h
  have hT : isT sh l0 9 = true := by unfold fX11_ordered at h1; exact (gd h1).1
  have ml : mL 266 = 2 := by decide +kernel
  have mk : mK 266 = 1 := by decide +kernel
  have mc : mC 266 = 9 := by decide +kernel
  obtain ⟨v, w⟩ := r
  refine s_call (as := [.int l1, .ref l0]) (G := fun o' sh' I' R' => o' = .inl (some (.int v)) ∧ sh' = sh ∧ I' = w ∧ R' = R) hq hc rfl hr (by rw [ml]; rfl) (Or.inl rfl) (fun _ => Or.inl ⟨by rw [mc]; decide, by rw [mc]; exact isT_iff.mp hT⟩) (fun z => absurd (mk.symm.trans z) (by decide)) (by rw [ml]; exact vX11_ordered (F := fun o' sh' I' R' => o' = .inl (some (.int v)) ∧ sh' = sh ∧ I' = w ∧ R' = R) ⟨rfl, rfl, rfl, rfl⟩ h1) ?_ ?_ ?_
  · rintro sh' I' R' c' hc' ⟨g1, rfl, rfl, rfl⟩
    cases g1
  · rintro v' sh' I' R' c' hc' ⟨g1, rfl, rfl, rfl⟩
    cases g1
    exact kk _ _ _ hc' h2
  · rintro E' sh' I' R' ⟨g1, rfl, rfl, rfl⟩
    cases g1
set_option maxRecDepth 100000 in
set_option maxHeartbeats 4000000 in
def fX11_days_b96 (fu : Nat) (sh : HS) (R : HR) (k29 : HI → Nat → Int32 → Int32 → Int32 → Int32 → Option (Int32 × HI)) (I : HI) (l0 : Nat) (l1 : Int32) (l2 : Int32) (l4 : Int32) (s0 : Int32) : Option (Int32 × HI) :=
  k29 I l0 l1 l2 s0 (l4 + 1)
set_option maxRecDepth 100000 in
set_option maxHeartbeats 4000000 in
theorem vX11_days_b96 {K J : Nat → Nat} {fu : Nat} {sh : HS} {R : HR} {F : VF} {o : (Int32 × HI)} (hF : F (.inl (some (.int o.1))) sh o.2 R) {k29 : HI → Nat → Int32 → Int32 → Int32 → Int32 → Option (Int32 × HI)} (hk29 : ∀ {I : HI} {l0 : Nat} {l1 : Int32} {l2 : Int32} {l3 : Int32} {l4 : Int32} {d5 : Option Value} {c : Nat × Nat}, (c.1 ≤ 0 ∧ c.2 ≤ 0) → k29 I l0 l1 l2 l3 l4 = some o → V K J 267 29 [some (.ref l0), some (.int l1), some (.int l2), some (.int l3), some (.int l4), d5] [] sh I R c F) {I : HI} {l0 : Nat} {l1 : Int32} {l2 : Int32} {l4 : Int32} {s0 : Int32} {d3 d5 : Option Value} {c : Nat × Nat} (hc0 : c.1 ≤ 0 ∧ c.2 ≤ 0) (h0 : fX11_days_b96 fu sh R k29 I l0 l1 l2 l4 s0 = some o) : V K J 267 96 [some (.ref l0), some (.int l1), some (.int l2), d3, some (.int l4), d5] [.int s0] sh I R c F := by
  unfold fX11_days_b96 at h0
  refine s_is (i := 3) (pc' := 97) (L' := [some (.ref l0), some (.int l1), some (.int l2), some (.int s0), some (.int l4), d5]) (by decide +kernel) rfl rfl ?_
  refine s_inc (i := 4) (z := 1) (pc' := 100) (L' := [some (.ref l0), some (.int l1), some (.int l2), some (.int s0), some (.int (l4 + 1)), d5]) (by decide +kernel) rfl rfl rfl ?_
  refine s_go (t := 29) (by decide +kernel) ?_
  exact hk29 hc0 h0
set_option maxRecDepth 100000 in
set_option maxHeartbeats 4000000 in
def fX11_days_b77 (fu : Nat) (sh : HS) (R : HR) (k29 : HI → Nat → Int32 → Int32 → Int32 → Int32 → Option (Int32 × HI)) (I : HI) (l0 : Nat) (l1 : Int32) (l3 : Int32) (l4 : Int32) (l5 : Int32) (s0 : Int32) (s1 : Int32) : Option (Int32 × HI) :=
  if l5 ≤ l3 then
    ((fX11_days_b96 fu sh R k29) I l0 l1 (s1 + s0) l4 (l3 - l5))
  else
    ((fX11_days_b96 fu sh R k29) I l0 l1 (s1 + s0) l4 (l1 - l5))
set_option maxRecDepth 100000 in
set_option maxHeartbeats 4000000 in
theorem vX11_days_b77 {K J : Nat → Nat} {fu : Nat} {sh : HS} {R : HR} {F : VF} {o : (Int32 × HI)} (hF : F (.inl (some (.int o.1))) sh o.2 R) {k29 : HI → Nat → Int32 → Int32 → Int32 → Int32 → Option (Int32 × HI)} (hk29 : ∀ {I : HI} {l0 : Nat} {l1 : Int32} {l2 : Int32} {l3 : Int32} {l4 : Int32} {d5 : Option Value} {c : Nat × Nat}, (c.1 ≤ 0 ∧ c.2 ≤ 0) → k29 I l0 l1 l2 l3 l4 = some o → V K J 267 29 [some (.ref l0), some (.int l1), some (.int l2), some (.int l3), some (.int l4), d5] [] sh I R c F) {I : HI} {l0 : Nat} {l1 : Int32} {l3 : Int32} {l4 : Int32} {l5 : Int32} {s0 : Int32} {s1 : Int32} {d2 : Option Value} {c : Nat × Nat} (hc0 : c.1 ≤ 0 ∧ c.2 ≤ 0) (h0 : fX11_days_b77 fu sh R k29 I l0 l1 l3 l4 l5 s0 s1 = some o) : V K J 267 77 [some (.ref l0), some (.int l1), d2, some (.int l3), some (.int l4), some (.int l5)] [.int s0, .int s1] sh I R c F := by
  unfold fX11_days_b77 at h0
  refine s_a (ins := .iadd) (pc' := 78) (by decide +kernel) rfl ?_
  refine s_is (i := 2) (pc' := 79) (L' := [some (.ref l0), some (.int l1), some (.int (s1 + s0)), some (.int l3), some (.int l4), some (.int l5)]) (by decide +kernel) rfl rfl ?_
  refine s_il (i := 5) (pc' := 81) (by decide +kernel) rfl ?_
  refine s_il (i := 3) (pc' := 82) (by decide +kernel) rfl ?_
  refine s_if (ins := .if_icmp .le 10) (t := 92) (pc' := 85) (by decide +kernel) rfl rfl rfl h0 (fun p1 h1 => ?_) (fun p1 h1 => ?_) <;> clear h0
  · refine s_il (i := 3) (pc' := 93) (by decide +kernel) rfl ?_
    refine s_il (i := 5) (pc' := 95) (by decide +kernel) rfl ?_
    refine s_a (ins := .isub) (pc' := 96) (by decide +kernel) rfl ?_
    exact (vX11_days_b96 hF hk29) hc0 h1
  · refine s_il (i := 1) (pc' := 86) (by decide +kernel) rfl ?_
    refine s_il (i := 5) (pc' := 88) (by decide +kernel) rfl ?_
    refine s_a (ins := .isub) (pc' := 89) (by decide +kernel) rfl ?_
    refine s_go (t := 96) (by decide +kernel) ?_
    exact (vX11_days_b96 hF hk29) hc0 h1
set_option maxRecDepth 100000 in
set_option maxHeartbeats 4000000 in
def fX11_days_b29 (fu : Nat) (sh : HS) (R : HR) (k29 : HI → Nat → Int32 → Int32 → Int32 → Int32 → Option (Int32 × HI)) (I : HI) (l0 : Nat) (l1 : Int32) (l2 : Int32) (l3 : Int32) (l4 : Int32) : Option (Int32 × HI) :=
  (oI sh I l0 9 22).bind fun v4 =>
  if v4 ≤ l4 then
    (some (l2, I))
  else
    ((oR sh R l0 9 21).bind fun v5 =>
    (oR sh R l0 9 25).bind fun v6 =>
    (oA sh I v6 l4).bind fun v7 =>
    (oA sh I v5 v7).bind fun v8 =>
    (fX11_lengthOf fu sh I R l0 v8).bind fun v9 =>
    if v9 ≤ l1 then
      (if v9 ≤ l3 then
        ((fX11_days_b77 fu sh R k29) I l0 l1 l3 l4 v9 0 l2)
      else
        ((fX11_days_b77 fu sh R k29) I l0 l1 l3 l4 v9 1 l2))
    else
      (some ((-2), I)))
set_option maxRecDepth 100000 in
set_option maxHeartbeats 4000000 in
theorem vX11_days_b29 {K J : Nat → Nat} {fu : Nat} {sh : HS} {R : HR} {F : VF} {o : (Int32 × HI)} (hF : F (.inl (some (.int o.1))) sh o.2 R) {k29 : HI → Nat → Int32 → Int32 → Int32 → Int32 → Option (Int32 × HI)} (hk29 : ∀ {I : HI} {l0 : Nat} {l1 : Int32} {l2 : Int32} {l3 : Int32} {l4 : Int32} {d5 : Option Value} {c : Nat × Nat}, (c.1 ≤ 0 ∧ c.2 ≤ 0) → k29 I l0 l1 l2 l3 l4 = some o → V K J 267 29 [some (.ref l0), some (.int l1), some (.int l2), some (.int l3), some (.int l4), d5] [] sh I R c F) {I : HI} {l0 : Nat} {l1 : Int32} {l2 : Int32} {l3 : Int32} {l4 : Int32} {d5 : Option Value} {c : Nat × Nat} (hc0 : c.1 ≤ 0 ∧ c.2 ≤ 0) (h0 : fX11_days_b29 fu sh R k29 I l0 l1 l2 l3 l4 = some o) : V K J 267 29 [some (.ref l0), some (.int l1), some (.int l2), some (.int l3), some (.int l4), d5] [] sh I R c F := by
  unfold fX11_days_b29 at h0
  refine s_il (i := 4) (pc' := 31) (by decide +kernel) rfl ?_
  refine s_rl (i := 0) (pc' := 32) (by decide +kernel) rfl ?_
  refine s_gI (t := 9) (j := 22) (ty := 0) (pc' := 35) (by decide +kernel) rfl h0 (fun v4 h1 => ?_); clear h0
  refine s_if (ins := .if_icmp .ge 68) (t := 103) (pc' := 38) (by decide +kernel) rfl rfl rfl h1 (fun p2 h2 => ?_) (fun p2 h2 => ?_) <;> clear h1
  · refine s_il (i := 2) (pc' := 104) (by decide +kernel) rfl ?_
    have e9 := Option.some.inj h2; subst e9
    exact s_ri (X := 0) (Y := 0) (by decide +kernel) hc0 hF
  · refine s_rl (i := 0) (pc' := 39) (by decide +kernel) rfl ?_
    refine s_rl (i := 0) (pc' := 40) (by decide +kernel) rfl ?_
    refine s_gR (t := 9) (j := 21) (pc' := 43) (by decide +kernel) h2 (fun v5 h3 => ?_); clear h2
    refine s_rl (i := 0) (pc' := 44) (by decide +kernel) rfl ?_
    refine s_gR (t := 9) (j := 25) (pc' := 47) (by decide +kernel) h3 (fun v6 h4 => ?_); clear h3
    refine s_il (i := 4) (pc' := 49) (by decide +kernel) rfl ?_
    refine s_al (pc' := 50) (by decide +kernel) h4 (fun v7 h5 => ?_); clear h4
    refine s_al (pc' := 51) (by decide +kernel) h5 (fun v8 h6 => ?_); clear h5
    refine kX11_lengthOf (X := 0) (Y := 0) (X' := 0) (Y' := 0) (pc' := 54) (by decide +kernel) hc0 rfl h6 (fun v9 c hc1 h7 => ?_); clear h6 hc0
    refine s_is (i := 5) (pc' := 56) (L' := [some (.ref l0), some (.int l1), some (.int l2), some (.int l3), some (.int l4), some (.int v9)]) (by decide +kernel) rfl rfl ?_
    refine s_il (i := 5) (pc' := 58) (by decide +kernel) rfl ?_
    refine s_il (i := 1) (pc' := 59) (by decide +kernel) rfl ?_
    refine s_if (ins := .if_icmp .le 6) (t := 65) (pc' := 62) (by decide +kernel) rfl rfl rfl h7 (fun p8 h8 => ?_) (fun p8 h8 => ?_) <;> clear h7
    · refine s_il (i := 2) (pc' := 66) (by decide +kernel) rfl ?_
      refine s_il (i := 5) (pc' := 68) (by decide +kernel) rfl ?_
      refine s_il (i := 3) (pc' := 69) (by decide +kernel) rfl ?_
      refine s_if (ins := .if_icmp .le 7) (t := 76) (pc' := 72) (by decide +kernel) rfl rfl rfl h8 (fun p9 h9 => ?_) (fun p9 h9 => ?_) <;> clear h8
      · refine s_c (v := 0) (pc' := 77) (by decide +kernel) ?_
        exact (vX11_days_b77 hF hk29) hc1 h9
      · refine s_c (v := 1) (pc' := 73) (by decide +kernel) ?_
        refine s_go (t := 77) (by decide +kernel) ?_
        exact (vX11_days_b77 hF hk29) hc1 h9
    · refine s_c (v := (-2)) (pc' := 64) (by decide +kernel) ?_
      have e9 := Option.some.inj h8; subst e9
      exact s_ri (X := 0) (Y := 0) (by decide +kernel) hc1 hF
set_option maxRecDepth 100000 in
set_option maxHeartbeats 4000000 in
def fX11_days_l29 (fu : Nat) (sh : HS) (R : HR) : Nat → HI → Nat → Int32 → Int32 → Int32 → Int32 → Option (Int32 × HI)
  | 0 => fun _ _ _ _ _ _ => none
  | n + 1 => fX11_days_b29 fu sh R (fX11_days_l29 fu sh R n)
set_option maxRecDepth 100000 in
set_option maxHeartbeats 4000000 in
theorem vX11_days_l29 {K J : Nat → Nat} {fu : Nat} {sh : HS} {R : HR} {F : VF} {o : (Int32 × HI)} (hF : F (.inl (some (.int o.1))) sh o.2 R) : ∀ (n : Nat) {I : HI} {l0 : Nat} {l1 : Int32} {l2 : Int32} {l3 : Int32} {l4 : Int32} {d5 : Option Value} {c : Nat × Nat} (_ : c.1 ≤ 0 ∧ c.2 ≤ 0) (_ : fX11_days_l29 fu sh R n I l0 l1 l2 l3 l4 = some o), V K J 267 29 [some (.ref l0), some (.int l1), some (.int l2), some (.int l3), some (.int l4), d5] [] sh I R c F := by
  intro n
  induction n with
  | zero => exact fun _ h0 => nomatch h0
  | succ n ih => exact fun hc0 h0 => vX11_days_b29 hF ih hc0 h0
set_option maxRecDepth 100000 in
set_option maxHeartbeats 4000000 in
def fX11_days (fu : Nat) (sh : HS) (I : HI) (R : HR) (l0 : Nat) (l1 : Int32) : Option (Int32 × HI) :=
  if isT sh l0 9 = true then
    ((fX11_isIn fu sh I R (l1.toInt64) 1 9999).bind fun v1 =>
    oH (fX11_isWrong fu sh I R l0 v1) fun v2 w2 =>
    if v2 = 0 then
      ((fX11_layBest fu sh w2 R l0).bind fun w3 =>
      (fX11_days_l29 fu sh R fu) w3 l0 l1 0 0 0)
    else
      (some (0, w2)))
  else none
set_option maxRecDepth 100000 in
set_option maxHeartbeats 4000000 in
theorem vX11_days {K J : Nat → Nat} {fu : Nat} {sh : HS} {I : HI} {R : HR} {F : VF} {o : (Int32 × HI)} (hF : F (.inl (some (.int o.1))) sh o.2 R) {l0 : Nat} {l1 : Int32} (h0 : fX11_days fu sh I R l0 l1 = some o) : V K J 267 0 (ent 6 [.ref l0, .int l1]) [] sh I R (0, 0) F := by
  unfold fX11_days at h0
  obtain ⟨-, h1⟩ := gd h0; clear h0
  have hc0 : ((0 : Nat), (0 : Nat)).1 ≤ 0 ∧ ((0 : Nat), (0 : Nat)).2 ≤ 0 := ⟨Nat.le_refl _, Nat.le_refl _⟩
  show V K J 267 0 [some (.ref l0), some (.int l1), none, none, none, none] [] sh I R (0, 0) F
  refine s_rl (i := 0) (pc' := 1) (by decide +kernel) rfl ?_
  refine s_il (i := 1) (pc' := 2) (by decide +kernel) rfl ?_
  refine s_a (ins := .i2l) (pc' := 3) (by decide +kernel) rfl ?_
  refine s_cJ (v := 1) (pc' := 4) (by decide +kernel) ?_
  refine s_cJ (v := 9999) (pc' := 7) (by decide +kernel) ?_
  refine kX11_isIn (X := 0) (Y := 0) (X' := 0) (Y' := 0) (pc' := 10) (by decide +kernel) hc0 rfl h1 (fun v1 c hc1 h2 => ?_); clear h1 hc0
  refine kX11_isWrong (X := 0) (Y := 0) (X' := 0) (Y' := 0) (pc' := 13) (by decide +kernel) hc1 rfl h2 (fun v2 w2 c hc2 h3 => ?_); clear h2 hc1
  refine s_if (ins := .ifCond .eq 5) (t := 18) (pc' := 16) (by decide +kernel) rfl rfl rfl h3 (fun p4 h4 => ?_) (fun p4 h4 => ?_) <;> clear h3
  · refine s_rl (i := 0) (pc' := 19) (by decide +kernel) rfl ?_
    refine kX11_layBest (X := 0) (Y := 0) (X' := 0) (Y' := 0) (pc' := 22) (by decide +kernel) hc2 rfl h4 (fun w3 c hc3 h5 => ?_); clear h4 hc2
    refine s_c (v := 0) (pc' := 23) (by decide +kernel) ?_
    refine s_is (i := 2) (pc' := 24) (L' := [some (.ref l0), some (.int l1), some (.int 0), none, none, none]) (by decide +kernel) rfl rfl ?_
    refine s_c (v := 0) (pc' := 25) (by decide +kernel) ?_
    refine s_is (i := 3) (pc' := 26) (L' := [some (.ref l0), some (.int l1), some (.int 0), some (.int 0), none, none]) (by decide +kernel) rfl rfl ?_
    refine s_c (v := 0) (pc' := 27) (by decide +kernel) ?_
    refine s_is (i := 4) (pc' := 29) (L' := [some (.ref l0), some (.int l1), some (.int 0), some (.int 0), some (.int 0), none]) (by decide +kernel) rfl rfl ?_
    exact (vX11_days_l29 hF fu) hc3 h5
  · refine s_c (v := 0) (pc' := 17) (by decide +kernel) ?_
    have e9 := Option.some.inj h4; subst e9
    exact s_ri (X := 0) (Y := 0) (by decide +kernel) hc2 hF
set_option maxRecDepth 100000 in
set_option maxHeartbeats 4000000 in
theorem kX11_days {K J : Nat → Nat} {fu : Nat} {sh : HS} {I : HI} {R : HR} {F : VF} {mi pc pc' X Y X' Y' : Nat} {L : VL} {rest : List Value} {c : Nat × Nat} {l0 : Nat} {l1 : Int32} {ω : Type} {o : ω} {g : Int32 → HI → Option ω} (hq : cQ mi pc 267 2 pc' X Y X' Y' = true) (hc : c.1 ≤ X ∧ c.2 ≤ Y) (hr : Nat.ble (catS rest) 8 = true) (h : oH (fX11_days fu sh I R l0 l1) g = some o) (kk : ∀ v w c', (c'.1 ≤ X' ∧ c'.2 ≤ Y') → g v w = some o → V K J mi pc' L ((.int v) :: rest) sh w R c' F) : V K J mi pc L (.int l1 :: .ref l0 :: rest) sh I R c F := by
  obtain ⟨r, h1, h2⟩ := bnd h
  have hT : isT sh l0 9 = true := by unfold fX11_days at h1; exact (gd h1).1
  have ml : mL 267 = 6 := by decide +kernel
  have mk : mK 267 = 1 := by decide +kernel
  have mc : mC 267 = 9 := by decide +kernel
  obtain ⟨v, w⟩ := r
  refine s_call (as := [.int l1, .ref l0]) (G := fun o' sh' I' R' => o' = .inl (some (.int v)) ∧ sh' = sh ∧ I' = w ∧ R' = R) hq hc rfl hr (by rw [ml]; rfl) (Or.inl rfl) (fun _ => Or.inl ⟨by rw [mc]; decide, by rw [mc]; exact isT_iff.mp hT⟩) (fun z => absurd (mk.symm.trans z) (by decide)) (by rw [ml]; exact vX11_days (F := fun o' sh' I' R' => o' = .inl (some (.int v)) ∧ sh' = sh ∧ I' = w ∧ R' = R) ⟨rfl, rfl, rfl, rfl⟩ h1) ?_ ?_ ?_
  · rintro sh' I' R' c' hc' ⟨g1, rfl, rfl, rfl⟩
    cases g1
  · rintro v' sh' I' R' c' hc' ⟨g1, rfl, rfl, rfl⟩
    cases g1
    exact kk _ _ _ hc' h2
  · rintro E' sh' I' R' ⟨g1, rfl, rfl, rfl⟩
    cases g1
set_option maxRecDepth 100000 in
set_option maxHeartbeats 4000000 in
def fX11_stay_b119 (fu : Nat) (sh : HS) (R : HR) (k32 : HI → Nat → Int32 → Int32 → Int32 → Int32 → Int32 → Option (UInt64 × HI)) (k127 : HI → Int32 → Int32 → Option (UInt64 × HI)) (I : HI) (l0 : Nat) (l1 : Int32) (l2 : Int32) (l3 : Int32) (l5 : Int32) (s0 : Int32) : Option (UInt64 × HI) :=
  k32 I l0 l1 l2 l3 s0 (l5 + 1)
set_option maxRecDepth 100000 in
set_option maxHeartbeats 4000000 in
theorem vX11_stay_b119 {K J : Nat → Nat} {fu : Nat} {sh : HS} {R : HR} {F : VF} {o : (UInt64 × HI)} (hF : F (.inl (some (.double o.1))) sh o.2 R) {k32 : HI → Nat → Int32 → Int32 → Int32 → Int32 → Int32 → Option (UInt64 × HI)} {k127 : HI → Int32 → Int32 → Option (UInt64 × HI)} (hk32 : ∀ {I : HI} {l0 : Nat} {l1 : Int32} {l2 : Int32} {l3 : Int32} {l4 : Int32} {l5 : Int32} {d6 d7 : Option Value} {c : Nat × Nat}, (c.1 ≤ 0 ∧ c.2 ≤ 0) → k32 I l0 l1 l2 l3 l4 l5 = some o → V K J 268 32 [some (.ref l0), some (.int l1), some (.int l2), some (.int l3), some (.int l4), some (.int l5), d6, d7] [] sh I R c F) (hk127 : ∀ {I : HI} {l2 : Int32} {l4 : Int32} {d0 d1 d3 d5 d6 d7 : Option Value} {c : Nat × Nat}, (c.1 ≤ 0 ∧ c.2 ≤ 0) → k127 I l2 l4 = some o → V K J 268 127 [d0, d1, some (.int l2), d3, some (.int l4), d5, d6, d7] [] sh I R c F) {I : HI} {l0 : Nat} {l1 : Int32} {l2 : Int32} {l3 : Int32} {l5 : Int32} {s0 : Int32} {d4 d6 d7 : Option Value} {c : Nat × Nat} (hc0 : c.1 ≤ 0 ∧ c.2 ≤ 0) (h0 : fX11_stay_b119 fu sh R k32 k127 I l0 l1 l2 l3 l5 s0 = some o) : V K J 268 119 [some (.ref l0), some (.int l1), some (.int l2), some (.int l3), d4, some (.int l5), d6, d7] [.int s0] sh I R c F := by
  unfold fX11_stay_b119 at h0
  refine s_is (i := 4) (pc' := 121) (L' := [some (.ref l0), some (.int l1), some (.int l2), some (.int l3), some (.int s0), some (.int l5), d6, d7]) (by decide +kernel) rfl rfl ?_
  refine s_inc (i := 5) (z := 1) (pc' := 124) (L' := [some (.ref l0), some (.int l1), some (.int l2), some (.int l3), some (.int s0), some (.int (l5 + 1)), d6, d7]) (by decide +kernel) rfl rfl rfl ?_
  refine s_go (t := 32) (by decide +kernel) ?_
  exact hk32 hc0 h0
set_option maxRecDepth 100000 in
set_option maxHeartbeats 4000000 in
def fX11_stay_b106 (fu : Nat) (sh : HS) (R : HR) (k32 : HI → Nat → Int32 → Int32 → Int32 → Int32 → Int32 → Option (UInt64 × HI)) (k127 : HI → Int32 → Int32 → Option (UInt64 × HI)) (I : HI) (l0 : Nat) (l1 : Int32) (l3 : Int32) (l4 : Int32) (l5 : Int32) (l7 : Int32) (s0 : Int32) (s1 : Int32) : Option (UInt64 × HI) :=
  if l7 = 0 then
    ((fX11_stay_b119 fu sh R k32 k127) I l0 l1 (s1 + s0) l3 l5 l4)
  else
    ((fX11_stay_b119 fu sh R k32 k127) I l0 l1 (s1 + s0) l3 l5 l3)
set_option maxRecDepth 100000 in
set_option maxHeartbeats 4000000 in
theorem vX11_stay_b106 {K J : Nat → Nat} {fu : Nat} {sh : HS} {R : HR} {F : VF} {o : (UInt64 × HI)} (hF : F (.inl (some (.double o.1))) sh o.2 R) {k32 : HI → Nat → Int32 → Int32 → Int32 → Int32 → Int32 → Option (UInt64 × HI)} {k127 : HI → Int32 → Int32 → Option (UInt64 × HI)} (hk32 : ∀ {I : HI} {l0 : Nat} {l1 : Int32} {l2 : Int32} {l3 : Int32} {l4 : Int32} {l5 : Int32} {d6 d7 : Option Value} {c : Nat × Nat}, (c.1 ≤ 0 ∧ c.2 ≤ 0) → k32 I l0 l1 l2 l3 l4 l5 = some o → V K J 268 32 [some (.ref l0), some (.int l1), some (.int l2), some (.int l3), some (.int l4), some (.int l5), d6, d7] [] sh I R c F) (hk127 : ∀ {I : HI} {l2 : Int32} {l4 : Int32} {d0 d1 d3 d5 d6 d7 : Option Value} {c : Nat × Nat}, (c.1 ≤ 0 ∧ c.2 ≤ 0) → k127 I l2 l4 = some o → V K J 268 127 [d0, d1, some (.int l2), d3, some (.int l4), d5, d6, d7] [] sh I R c F) {I : HI} {l0 : Nat} {l1 : Int32} {l3 : Int32} {l4 : Int32} {l5 : Int32} {l7 : Int32} {s0 : Int32} {s1 : Int32} {d2 d6 : Option Value} {c : Nat × Nat} (hc0 : c.1 ≤ 0 ∧ c.2 ≤ 0) (h0 : fX11_stay_b106 fu sh R k32 k127 I l0 l1 l3 l4 l5 l7 s0 s1 = some o) : V K J 268 106 [some (.ref l0), some (.int l1), d2, some (.int l3), some (.int l4), some (.int l5), d6, some (.int l7)] [.int s0, .int s1] sh I R c F := by
  unfold fX11_stay_b106 at h0
  refine s_a (ins := .iadd) (pc' := 107) (by decide +kernel) rfl ?_
  refine s_is (i := 2) (pc' := 108) (L' := [some (.ref l0), some (.int l1), some (.int (s1 + s0)), some (.int l3), some (.int l4), some (.int l5), d6, some (.int l7)]) (by decide +kernel) rfl rfl ?_
  refine s_il (i := 7) (pc' := 110) (by decide +kernel) rfl ?_
  refine s_if (ins := .ifCond .eq 7) (t := 117) (pc' := 113) (by decide +kernel) rfl rfl rfl h0 (fun p1 h1 => ?_) (fun p1 h1 => ?_) <;> clear h0
  · refine s_il (i := 4) (pc' := 119) (by decide +kernel) rfl ?_
    exact (vX11_stay_b119 hF hk32 hk127) hc0 h1
  · refine s_il (i := 3) (pc' := 114) (by decide +kernel) rfl ?_
    refine s_go (t := 119) (by decide +kernel) ?_
    exact (vX11_stay_b119 hF hk32 hk127) hc0 h1
set_option maxRecDepth 100000 in
set_option maxHeartbeats 4000000 in
def fX11_stay_b92 (fu : Nat) (sh : HS) (R : HR) (k32 : HI → Nat → Int32 → Int32 → Int32 → Int32 → Int32 → Option (UInt64 × HI)) (k127 : HI → Int32 → Int32 → Option (UInt64 × HI)) (I : HI) (l0 : Nat) (l1 : Int32) (l2 : Int32) (l4 : Int32) (l5 : Int32) (l6 : Int32) (l7 : Int32) (s0 : Int32) (s1 : Int32) : Option (UInt64 × HI) :=
  if l7 = 0 then
    ((fX11_stay_b106 fu sh R k32 k127) I l0 l1 (s1 + s0) l4 l5 l7 0 l2)
  else
    ((fX11_stay_b106 fu sh R k32 k127) I l0 l1 (s1 + s0) l4 l5 l7 l6 l2)
set_option maxRecDepth 100000 in
set_option maxHeartbeats 4000000 in
theorem vX11_stay_b92 {K J : Nat → Nat} {fu : Nat} {sh : HS} {R : HR} {F : VF} {o : (UInt64 × HI)} (hF : F (.inl (some (.double o.1))) sh o.2 R) {k32 : HI → Nat → Int32 → Int32 → Int32 → Int32 → Int32 → Option (UInt64 × HI)} {k127 : HI → Int32 → Int32 → Option (UInt64 × HI)} (hk32 : ∀ {I : HI} {l0 : Nat} {l1 : Int32} {l2 : Int32} {l3 : Int32} {l4 : Int32} {l5 : Int32} {d6 d7 : Option Value} {c : Nat × Nat}, (c.1 ≤ 0 ∧ c.2 ≤ 0) → k32 I l0 l1 l2 l3 l4 l5 = some o → V K J 268 32 [some (.ref l0), some (.int l1), some (.int l2), some (.int l3), some (.int l4), some (.int l5), d6, d7] [] sh I R c F) (hk127 : ∀ {I : HI} {l2 : Int32} {l4 : Int32} {d0 d1 d3 d5 d6 d7 : Option Value} {c : Nat × Nat}, (c.1 ≤ 0 ∧ c.2 ≤ 0) → k127 I l2 l4 = some o → V K J 268 127 [d0, d1, some (.int l2), d3, some (.int l4), d5, d6, d7] [] sh I R c F) {I : HI} {l0 : Nat} {l1 : Int32} {l2 : Int32} {l4 : Int32} {l5 : Int32} {l6 : Int32} {l7 : Int32} {s0 : Int32} {s1 : Int32} {d3 : Option Value} {c : Nat × Nat} (hc0 : c.1 ≤ 0 ∧ c.2 ≤ 0) (h0 : fX11_stay_b92 fu sh R k32 k127 I l0 l1 l2 l4 l5 l6 l7 s0 s1 = some o) : V K J 268 92 [some (.ref l0), some (.int l1), some (.int l2), d3, some (.int l4), some (.int l5), some (.int l6), some (.int l7)] [.int s0, .int s1] sh I R c F := by
  unfold fX11_stay_b92 at h0
  refine s_a (ins := .iadd) (pc' := 93) (by decide +kernel) rfl ?_
  refine s_is (i := 3) (pc' := 94) (L' := [some (.ref l0), some (.int l1), some (.int l2), some (.int (s1 + s0)), some (.int l4), some (.int l5), some (.int l6), some (.int l7)]) (by decide +kernel) rfl rfl ?_
  refine s_il (i := 2) (pc' := 95) (by decide +kernel) rfl ?_
  refine s_il (i := 7) (pc' := 97) (by decide +kernel) rfl ?_
  refine s_if (ins := .ifCond .eq 8) (t := 105) (pc' := 100) (by decide +kernel) rfl rfl rfl h0 (fun p1 h1 => ?_) (fun p1 h1 => ?_) <;> clear h0
  · refine s_c (v := 0) (pc' := 106) (by decide +kernel) ?_
    exact (vX11_stay_b106 hF hk32 hk127) hc0 h1
  · refine s_il (i := 6) (pc' := 102) (by decide +kernel) rfl ?_
    refine s_go (t := 106) (by decide +kernel) ?_
    exact (vX11_stay_b106 hF hk32 hk127) hc0 h1
set_option maxRecDepth 100000 in
set_option maxHeartbeats 4000000 in
def fX11_stay_b86 (fu : Nat) (sh : HS) (R : HR) (k32 : HI → Nat → Int32 → Int32 → Int32 → Int32 → Int32 → Option (UInt64 × HI)) (k127 : HI → Int32 → Int32 → Option (UInt64 × HI)) (I : HI) (l0 : Nat) (l1 : Int32) (l2 : Int32) (l4 : Int32) (l5 : Int32) (l6 : Int32) (l7 : Int32) (s0 : Int32) : Option (UInt64 × HI) :=
  (fX11_stay_b92 fu sh R k32 k127) I l0 l1 l2 l4 l5 l6 l7 l6 s0
set_option maxRecDepth 100000 in
set_option maxHeartbeats 4000000 in
theorem vX11_stay_b86 {K J : Nat → Nat} {fu : Nat} {sh : HS} {R : HR} {F : VF} {o : (UInt64 × HI)} (hF : F (.inl (some (.double o.1))) sh o.2 R) {k32 : HI → Nat → Int32 → Int32 → Int32 → Int32 → Int32 → Option (UInt64 × HI)} {k127 : HI → Int32 → Int32 → Option (UInt64 × HI)} (hk32 : ∀ {I : HI} {l0 : Nat} {l1 : Int32} {l2 : Int32} {l3 : Int32} {l4 : Int32} {l5 : Int32} {d6 d7 : Option Value} {c : Nat × Nat}, (c.1 ≤ 0 ∧ c.2 ≤ 0) → k32 I l0 l1 l2 l3 l4 l5 = some o → V K J 268 32 [some (.ref l0), some (.int l1), some (.int l2), some (.int l3), some (.int l4), some (.int l5), d6, d7] [] sh I R c F) (hk127 : ∀ {I : HI} {l2 : Int32} {l4 : Int32} {d0 d1 d3 d5 d6 d7 : Option Value} {c : Nat × Nat}, (c.1 ≤ 0 ∧ c.2 ≤ 0) → k127 I l2 l4 = some o → V K J 268 127 [d0, d1, some (.int l2), d3, some (.int l4), d5, d6, d7] [] sh I R c F) {I : HI} {l0 : Nat} {l1 : Int32} {l2 : Int32} {l4 : Int32} {l5 : Int32} {l6 : Int32} {l7 : Int32} {s0 : Int32} {d3 : Option Value} {c : Nat × Nat} (hc0 : c.1 ≤ 0 ∧ c.2 ≤ 0) (h0 : fX11_stay_b86 fu sh R k32 k127 I l0 l1 l2 l4 l5 l6 l7 s0 = some o) : V K J 268 86 [some (.ref l0), some (.int l1), some (.int l2), d3, some (.int l4), some (.int l5), some (.int l6), some (.int l7)] [.int s0] sh I R c F := by
  unfold fX11_stay_b86 at h0
  refine s_il (i := 6) (pc' := 88) (by decide +kernel) rfl ?_
  refine s_go (t := 92) (by decide +kernel) ?_
  exact (vX11_stay_b92 hF hk32 hk127) hc0 h0
set_option maxRecDepth 100000 in
set_option maxHeartbeats 4000000 in
def fX11_stay_b32 (fu : Nat) (sh : HS) (R : HR) (k32 : HI → Nat → Int32 → Int32 → Int32 → Int32 → Int32 → Option (UInt64 × HI)) (k127 : HI → Int32 → Int32 → Option (UInt64 × HI)) (I : HI) (l0 : Nat) (l1 : Int32) (l2 : Int32) (l3 : Int32) (l4 : Int32) (l5 : Int32) : Option (UInt64 × HI) :=
  (oI sh I l0 9 22).bind fun v4 =>
  if v4 ≤ l5 then
    (k127 I l2 l4)
  else
    ((oR sh R l0 9 21).bind fun v5 =>
    (oR sh R l0 9 25).bind fun v6 =>
    (oA sh I v6 l5).bind fun v7 =>
    (oA sh I v5 v7).bind fun v8 =>
    (fX11_lengthOf fu sh I R l0 v8).bind fun v9 =>
    (oR sh R l0 9 25).bind fun v10 =>
    (oA sh I v10 l5).bind fun v11 =>
    (fX11_actorsIn fu sh I R l0 v11).bind fun v12 =>
    (fX11_has fu sh I R v12 l1).bind fun v13 =>
    if 0 < l2 then
      ((fX11_stay_b86 fu sh R k32 k127) I l0 l1 l2 l4 l5 v9 v13 l3)
    else
      (if v13 = 0 then
        ((fX11_stay_b92 fu sh R k32 k127) I l0 l1 l2 l4 l5 v9 v13 0 l3)
      else
        ((fX11_stay_b86 fu sh R k32 k127) I l0 l1 l2 l4 l5 v9 v13 l3)))
set_option maxRecDepth 100000 in
set_option maxHeartbeats 4000000 in
theorem vX11_stay_b32 {K J : Nat → Nat} {fu : Nat} {sh : HS} {R : HR} {F : VF} {o : (UInt64 × HI)} (hF : F (.inl (some (.double o.1))) sh o.2 R) {k32 : HI → Nat → Int32 → Int32 → Int32 → Int32 → Int32 → Option (UInt64 × HI)} {k127 : HI → Int32 → Int32 → Option (UInt64 × HI)} (hk32 : ∀ {I : HI} {l0 : Nat} {l1 : Int32} {l2 : Int32} {l3 : Int32} {l4 : Int32} {l5 : Int32} {d6 d7 : Option Value} {c : Nat × Nat}, (c.1 ≤ 0 ∧ c.2 ≤ 0) → k32 I l0 l1 l2 l3 l4 l5 = some o → V K J 268 32 [some (.ref l0), some (.int l1), some (.int l2), some (.int l3), some (.int l4), some (.int l5), d6, d7] [] sh I R c F) (hk127 : ∀ {I : HI} {l2 : Int32} {l4 : Int32} {d0 d1 d3 d5 d6 d7 : Option Value} {c : Nat × Nat}, (c.1 ≤ 0 ∧ c.2 ≤ 0) → k127 I l2 l4 = some o → V K J 268 127 [d0, d1, some (.int l2), d3, some (.int l4), d5, d6, d7] [] sh I R c F) {I : HI} {l0 : Nat} {l1 : Int32} {l2 : Int32} {l3 : Int32} {l4 : Int32} {l5 : Int32} {d6 d7 : Option Value} {c : Nat × Nat} (hc0 : c.1 ≤ 0 ∧ c.2 ≤ 0) (h0 : fX11_stay_b32 fu sh R k32 k127 I l0 l1 l2 l3 l4 l5 = some o) : V K J 268 32 [some (.ref l0), some (.int l1), some (.int l2), some (.int l3), some (.int l4), some (.int l5), d6, d7] [] sh I R c F := by
  unfold fX11_stay_b32 at h0
  refine s_il (i := 5) (pc' := 34) (by decide +kernel) rfl ?_
  refine s_rl (i := 0) (pc' := 35) (by decide +kernel) rfl ?_
  refine s_gI (t := 9) (j := 22) (ty := 0) (pc' := 38) (by decide +kernel) rfl h0 (fun v4 h1 => ?_); clear h0
  refine s_if (ins := .if_icmp .ge 89) (t := 127) (pc' := 41) (by decide +kernel) rfl rfl rfl h1 (fun p2 h2 => ?_) (fun p2 h2 => ?_) <;> clear h1
  · exact hk127 hc0 h2
  · refine s_rl (i := 0) (pc' := 42) (by decide +kernel) rfl ?_
    refine s_rl (i := 0) (pc' := 43) (by decide +kernel) rfl ?_
    refine s_gR (t := 9) (j := 21) (pc' := 46) (by decide +kernel) h2 (fun v5 h3 => ?_); clear h2
    refine s_rl (i := 0) (pc' := 47) (by decide +kernel) rfl ?_
    refine s_gR (t := 9) (j := 25) (pc' := 50) (by decide +kernel) h3 (fun v6 h4 => ?_); clear h3
    refine s_il (i := 5) (pc' := 52) (by decide +kernel) rfl ?_
    refine s_al (pc' := 53) (by decide +kernel) h4 (fun v7 h5 => ?_); clear h4
    refine s_al (pc' := 54) (by decide +kernel) h5 (fun v8 h6 => ?_); clear h5
    refine kX11_lengthOf (X := 0) (Y := 0) (X' := 0) (Y' := 0) (pc' := 57) (by decide +kernel) hc0 rfl h6 (fun v9 c hc1 h7 => ?_); clear h6 hc0
    refine s_is (i := 6) (pc' := 59) (L' := [some (.ref l0), some (.int l1), some (.int l2), some (.int l3), some (.int l4), some (.int l5), some (.int v9), d7]) (by decide +kernel) rfl rfl ?_
    refine s_rl (i := 0) (pc' := 60) (by decide +kernel) rfl ?_
    refine s_rl (i := 0) (pc' := 61) (by decide +kernel) rfl ?_
    refine s_gR (t := 9) (j := 25) (pc' := 64) (by decide +kernel) h7 (fun v10 h8 => ?_); clear h7
    refine s_il (i := 5) (pc' := 66) (by decide +kernel) rfl ?_
    refine s_al (pc' := 67) (by decide +kernel) h8 (fun v11 h9 => ?_); clear h8
    refine kX11_actorsIn (X := 0) (Y := 0) (X' := 0) (Y' := 0) (pc' := 70) (by decide +kernel) hc1 rfl h9 (fun v12 c hc2 h10 => ?_); clear h9 hc1
    refine s_il (i := 1) (pc' := 71) (by decide +kernel) rfl ?_
    refine kX11_has (X := 0) (Y := 0) (X' := 0) (Y' := 0) (pc' := 74) (by decide +kernel) hc2 rfl h10 (fun v13 c hc3 h11 => ?_); clear h10 hc2
    refine s_is (i := 7) (pc' := 76) (L' := [some (.ref l0), some (.int l1), some (.int l2), some (.int l3), some (.int l4), some (.int l5), some (.int v9), some (.int v13)]) (by decide +kernel) rfl rfl ?_
    refine s_il (i := 3) (pc' := 77) (by decide +kernel) rfl ?_
    refine s_il (i := 2) (pc' := 78) (by decide +kernel) rfl ?_
    refine s_if (ins := .ifCond .gt 8) (t := 86) (pc' := 81) (by decide +kernel) rfl rfl rfl h11 (fun p12 h12 => ?_) (fun p12 h12 => ?_) <;> clear h11
    · exact (vX11_stay_b86 hF hk32 hk127) hc3 h12
    · refine s_il (i := 7) (pc' := 83) (by decide +kernel) rfl ?_
      refine s_if (ins := .ifCond .eq 8) (t := 91) (pc' := 86) (by decide +kernel) rfl rfl rfl h12 (fun p13 h13 => ?_) (fun p13 h13 => ?_) <;> clear h12
      · refine s_c (v := 0) (pc' := 92) (by decide +kernel) ?_
        exact (vX11_stay_b92 hF hk32 hk127) hc3 h13
      · exact (vX11_stay_b86 hF hk32 hk127) hc3 h13
set_option maxRecDepth 100000 in
set_option maxHeartbeats 4000000 in
def fX11_stay_l32 (fu : Nat) (sh : HS) (R : HR) (k127 : HI → Int32 → Int32 → Option (UInt64 × HI)) : Nat → HI → Nat → Int32 → Int32 → Int32 → Int32 → Int32 → Option (UInt64 × HI)
  | 0 => fun _ _ _ _ _ _ _ => none
  | n + 1 => fX11_stay_b32 fu sh R (fX11_stay_l32 fu sh R k127 n) k127
set_option maxRecDepth 100000 in
set_option maxHeartbeats 4000000 in
theorem vX11_stay_l32 {K J : Nat → Nat} {fu : Nat} {sh : HS} {R : HR} {F : VF} {o : (UInt64 × HI)} (hF : F (.inl (some (.double o.1))) sh o.2 R) {k127 : HI → Int32 → Int32 → Option (UInt64 × HI)} (hk127 : ∀ {I : HI} {l2 : Int32} {l4 : Int32} {d0 d1 d3 d5 d6 d7 : Option Value} {c : Nat × Nat}, (c.1 ≤ 0 ∧ c.2 ≤ 0) → k127 I l2 l4 = some o → V K J 268 127 [d0, d1, some (.int l2), d3, some (.int l4), d5, d6, d7] [] sh I R c F) : ∀ (n : Nat) {I : HI} {l0 : Nat} {l1 : Int32} {l2 : Int32} {l3 : Int32} {l4 : Int32} {l5 : Int32} {d6 d7 : Option Value} {c : Nat × Nat} (_ : c.1 ≤ 0 ∧ c.2 ≤ 0) (_ : fX11_stay_l32 fu sh R k127 n I l0 l1 l2 l3 l4 l5 = some o), V K J 268 32 [some (.ref l0), some (.int l1), some (.int l2), some (.int l3), some (.int l4), some (.int l5), d6, d7] [] sh I R c F := by
  intro n
  induction n with
  | zero => exact fun _ h0 => nomatch h0
  | succ n ih => exact fun hc0 h0 => vX11_stay_b32 hF ih hk127 hc0 h0
set_option maxRecDepth 100000 in
set_option maxHeartbeats 4000000 in
def fX11_stay_b141 (fu : Nat) (sh : HS) (R : HR) (I : HI) (s0 : UInt64) : Option (UInt64 × HI) :=
  some (s0, I)
set_option maxRecDepth 100000 in
set_option maxHeartbeats 4000000 in
theorem vX11_stay_b141 {K J : Nat → Nat} {fu : Nat} {sh : HS} {R : HR} {F : VF} {o : (UInt64 × HI)} (hF : F (.inl (some (.double o.1))) sh o.2 R) {I : HI} {s0 : UInt64} {d0 d1 d2 d3 d4 d5 d6 d7 : Option Value} {c : Nat × Nat} (hc0 : c.1 ≤ 0 ∧ c.2 ≤ 0) (h0 : fX11_stay_b141 fu sh R I s0 = some o) : V K J 268 141 [d0, d1, d2, d3, d4, d5, d6, d7] [.double s0] sh I R c F := by
  unfold fX11_stay_b141 at h0
  have e9 := Option.some.inj h0; subst e9
  exact s_rd (X := 0) (Y := 0) (by decide +kernel) hc0 hF
set_option maxRecDepth 100000 in
set_option maxHeartbeats 4000000 in
def fX11_stay_b127 (fu : Nat) (sh : HS) (R : HR) (I : HI) (l2 : Int32) (l4 : Int32) : Option (UInt64 × HI) :=
  if l2 = 0 then
    ((fX11_stay_b141 fu sh R) I FP.dconst0)
  else
    ((oDD (FP.i2d l4) (FP.i2d l2)).bind fun v14 =>
    (fX11_stay_b141 fu sh R) I v14)
set_option maxRecDepth 100000 in
set_option maxHeartbeats 4000000 in
theorem vX11_stay_b127 {K J : Nat → Nat} {fu : Nat} {sh : HS} {R : HR} {F : VF} {o : (UInt64 × HI)} (hF : F (.inl (some (.double o.1))) sh o.2 R) {I : HI} {l2 : Int32} {l4 : Int32} {d0 d1 d3 d5 d6 d7 : Option Value} {c : Nat × Nat} (hc0 : c.1 ≤ 0 ∧ c.2 ≤ 0) (h0 : fX11_stay_b127 fu sh R I l2 l4 = some o) : V K J 268 127 [d0, d1, some (.int l2), d3, some (.int l4), d5, d6, d7] [] sh I R c F := by
  unfold fX11_stay_b127 at h0
  refine s_il (i := 2) (pc' := 128) (by decide +kernel) rfl ?_
  refine s_ifn (ins := .ifCond .ne 7) (t := 135) (pc' := 131) (by decide +kernel) rfl rfl rfl h0 (fun p1 h1 => ?_) (fun p1 h1 => ?_) <;> clear h0
  · refine s_il (i := 4) (pc' := 137) (by decide +kernel) rfl ?_
    refine s_a (ins := .i2d) (pc' := 138) (by decide +kernel) rfl ?_
    refine s_il (i := 2) (pc' := 139) (by decide +kernel) rfl ?_
    refine s_a (ins := .i2d) (pc' := 140) (by decide +kernel) rfl ?_
    refine s_dd (pc' := 141) (by decide +kernel) h1 (fun v14 h2 => ?_); clear h1
    exact (vX11_stay_b141 hF) hc0 h2
  · refine s_a (ins := .dconst 0) (pc' := 132) (by decide +kernel) rfl ?_
    refine s_go (t := 141) (by decide +kernel) ?_
    exact (vX11_stay_b141 hF) hc0 h1
set_option maxRecDepth 100000 in
set_option maxHeartbeats 4000000 in
def fX11_stay (fu : Nat) (sh : HS) (I : HI) (R : HR) (l0 : Nat) (l1 : Int32) : Option (UInt64 × HI) :=
  if isT sh l0 9 = true then
    ((fX11_isIn fu sh I R (l1.toInt64) 0 5).bind fun v1 =>
    oH (fX11_isWrong fu sh I R l0 v1) fun v2 w2 =>
    if v2 = 0 then
      ((fX11_layBest fu sh w2 R l0).bind fun w3 =>
      (fX11_stay_l32 fu sh R (fX11_stay_b127 fu sh R) fu) w3 l0 l1 0 0 0 0)
    else
      (some (FP.dconst0, w2)))
  else none
set_option maxRecDepth 100000 in
set_option maxHeartbeats 4000000 in
theorem vX11_stay {K J : Nat → Nat} {fu : Nat} {sh : HS} {I : HI} {R : HR} {F : VF} {o : (UInt64 × HI)} (hF : F (.inl (some (.double o.1))) sh o.2 R) {l0 : Nat} {l1 : Int32} (h0 : fX11_stay fu sh I R l0 l1 = some o) : V K J 268 0 (ent 8 [.ref l0, .int l1]) [] sh I R (0, 0) F := by
  unfold fX11_stay at h0
  obtain ⟨-, h1⟩ := gd h0; clear h0
  have hc0 : ((0 : Nat), (0 : Nat)).1 ≤ 0 ∧ ((0 : Nat), (0 : Nat)).2 ≤ 0 := ⟨Nat.le_refl _, Nat.le_refl _⟩
  show V K J 268 0 [some (.ref l0), some (.int l1), none, none, none, none, none, none] [] sh I R (0, 0) F
  refine s_rl (i := 0) (pc' := 1) (by decide +kernel) rfl ?_
  refine s_il (i := 1) (pc' := 2) (by decide +kernel) rfl ?_
  refine s_a (ins := .i2l) (pc' := 3) (by decide +kernel) rfl ?_
  refine s_cJ (v := 0) (pc' := 4) (by decide +kernel) ?_
  refine s_cJ (v := 5) (pc' := 7) (by decide +kernel) ?_
  refine kX11_isIn (X := 0) (Y := 0) (X' := 0) (Y' := 0) (pc' := 10) (by decide +kernel) hc0 rfl h1 (fun v1 c hc1 h2 => ?_); clear h1 hc0
  refine kX11_isWrong (X := 0) (Y := 0) (X' := 0) (Y' := 0) (pc' := 13) (by decide +kernel) hc1 rfl h2 (fun v2 w2 c hc2 h3 => ?_); clear h2 hc1
  refine s_if (ins := .ifCond .eq 5) (t := 18) (pc' := 16) (by decide +kernel) rfl rfl rfl h3 (fun p4 h4 => ?_) (fun p4 h4 => ?_) <;> clear h3
  · refine s_rl (i := 0) (pc' := 19) (by decide +kernel) rfl ?_
    refine kX11_layBest (X := 0) (Y := 0) (X' := 0) (Y' := 0) (pc' := 22) (by decide +kernel) hc2 rfl h4 (fun w3 c hc3 h5 => ?_); clear h4 hc2
    refine s_c (v := 0) (pc' := 23) (by decide +kernel) ?_
    refine s_is (i := 2) (pc' := 24) (L' := [some (.ref l0), some (.int l1), some (.int 0), none, none, none, none, none]) (by decide +kernel) rfl rfl ?_
    refine s_c (v := 0) (pc' := 25) (by decide +kernel) ?_
    refine s_is (i := 3) (pc' := 26) (L' := [some (.ref l0), some (.int l1), some (.int 0), some (.int 0), none, none, none, none]) (by decide +kernel) rfl rfl ?_
    refine s_c (v := 0) (pc' := 27) (by decide +kernel) ?_
    refine s_is (i := 4) (pc' := 29) (L' := [some (.ref l0), some (.int l1), some (.int 0), some (.int 0), some (.int 0), none, none, none]) (by decide +kernel) rfl rfl ?_
    refine s_c (v := 0) (pc' := 30) (by decide +kernel) ?_
    refine s_is (i := 5) (pc' := 32) (L' := [some (.ref l0), some (.int l1), some (.int 0), some (.int 0), some (.int 0), some (.int 0), none, none]) (by decide +kernel) rfl rfl ?_
    exact (vX11_stay_l32 hF (vX11_stay_b127 hF) fu) hc3 h5
  · refine s_a (ins := .dconst 0) (pc' := 17) (by decide +kernel) rfl ?_
    have e9 := Option.some.inj h4; subst e9
    exact s_rd (X := 0) (Y := 0) (by decide +kernel) hc2 hF
set_option maxRecDepth 100000 in
set_option maxHeartbeats 4000000 in
theorem kX11_stay {K J : Nat → Nat} {fu : Nat} {sh : HS} {I : HI} {R : HR} {F : VF} {mi pc pc' X Y X' Y' : Nat} {L : VL} {rest : List Value} {c : Nat × Nat} {l0 : Nat} {l1 : Int32} {ω : Type} {o : ω} {g : UInt64 → HI → Option ω} (hq : cQ mi pc 268 2 pc' X Y X' Y' = true) (hc : c.1 ≤ X ∧ c.2 ≤ Y) (hr : Nat.ble (catS rest) 8 = true) (h : oH (fX11_stay fu sh I R l0 l1) g = some o) (kk : ∀ v w c', (c'.1 ≤ X' ∧ c'.2 ≤ Y') → g v w = some o → V K J mi pc' L ((.double v) :: rest) sh w R c' F) : V K J mi pc L (.int l1 :: .ref l0 :: rest) sh I R c F := by
  obtain ⟨r, h1, h2⟩ := bnd h
  have hT : isT sh l0 9 = true := by unfold fX11_stay at h1; exact (gd h1).1
  have ml : mL 268 = 8 := by decide +kernel
  have mk : mK 268 = 1 := by decide +kernel
  have mc : mC 268 = 9 := by decide +kernel
  obtain ⟨v, w⟩ := r
  refine s_call (as := [.int l1, .ref l0]) (G := fun o' sh' I' R' => o' = .inl (some (.double v)) ∧ sh' = sh ∧ I' = w ∧ R' = R) hq hc rfl hr (by rw [ml]; rfl) (Or.inl rfl) (fun _ => Or.inl ⟨by rw [mc]; decide, by rw [mc]; exact isT_iff.mp hT⟩) (fun z => absurd (mk.symm.trans z) (by decide)) (by rw [ml]; exact vX11_stay (F := fun o' sh' I' R' => o' = .inl (some (.double v)) ∧ sh' = sh ∧ I' = w ∧ R' = R) ⟨rfl, rfl, rfl, rfl⟩ h1) ?_ ?_ ?_
  · rintro sh' I' R' c' hc' ⟨g1, rfl, rfl, rfl⟩
    cases g1
  · rintro v' sh' I' R' c' hc' ⟨g1, rfl, rfl, rfl⟩
    cases g1
    exact kk _ _ _ hc' h2
  · rintro E' sh' I' R' ⟨g1, rfl, rfl, rfl⟩
    cases g1
set_option maxRecDepth 100000 in
set_option maxHeartbeats 4000000 in
def fX11_writeByte (fu : Nat) (sh : HS) (I : HI) (R : HR) (l0 : Nat) (l1 : Int32) : Option HI :=
  if isT sh l0 9 = true then
    ((oR sh R l0 9 27).bind fun v1 =>
    (oI sh I l0 9 28).bind fun v2 =>
    (oS sh I v1 v2 l1).bind fun v3 =>
    (oI sh v3 l0 9 28).bind fun v4 =>
    (oP sh v3 l0 9 28 (v4 + 1)).bind fun v5 =>
    some v5)
  else none
set_option maxRecDepth 100000 in
set_option maxHeartbeats 4000000 in
theorem vX11_writeByte {K J : Nat → Nat} {fu : Nat} {sh : HS} {I : HI} {R : HR} {F : VF} {o : HI} (hF : F (.inl none) sh o R) {l0 : Nat} {l1 : Int32} (h0 : fX11_writeByte fu sh I R l0 l1 = some o) : V K J 269 0 (ent 2 [.ref l0, .int l1]) [] sh I R (0, 0) F := by
  unfold fX11_writeByte at h0
  obtain ⟨-, h1⟩ := gd h0; clear h0
  have hc0 : ((0 : Nat), (0 : Nat)).1 ≤ 0 ∧ ((0 : Nat), (0 : Nat)).2 ≤ 0 := ⟨Nat.le_refl _, Nat.le_refl _⟩
  show V K J 269 0 [some (.ref l0), some (.int l1)] [] sh I R (0, 0) F
  refine s_rl (i := 0) (pc' := 1) (by decide +kernel) rfl ?_
  refine s_gR (t := 9) (j := 27) (pc' := 4) (by decide +kernel) h1 (fun v1 h2 => ?_); clear h1
  refine s_rl (i := 0) (pc' := 5) (by decide +kernel) rfl ?_
  refine s_gI (t := 9) (j := 28) (ty := 0) (pc' := 8) (by decide +kernel) rfl h2 (fun v2 h3 => ?_); clear h2
  refine s_il (i := 1) (pc' := 9) (by decide +kernel) rfl ?_
  refine s_as (pc' := 10) (by decide +kernel) h3 (fun v3 h4 => ?_); clear h3
  refine s_rl (i := 0) (pc' := 11) (by decide +kernel) rfl ?_
  refine s_a (ins := .dup) (pc' := 12) (by decide +kernel) rfl ?_
  refine s_gI (t := 9) (j := 28) (ty := 0) (pc' := 15) (by decide +kernel) rfl h4 (fun v4 h5 => ?_); clear h4
  refine s_c (v := 1) (pc' := 16) (by decide +kernel) ?_
  refine s_a (ins := .iadd) (pc' := 17) (by decide +kernel) rfl ?_
  refine s_pI (t := 9) (j := 28) (ty := 0) (pc' := 20) (by decide +kernel) (Or.inl rfl) h5 (fun v5 h6 => ?_); clear h5
  have e9 := Option.some.inj h6; subst e9
  exact s_rv (X := 0) (Y := 0) (by decide +kernel) hc0 hF
set_option maxRecDepth 100000 in
set_option maxHeartbeats 4000000 in
theorem kX11_writeByte {K J : Nat → Nat} {fu : Nat} {sh : HS} {I : HI} {R : HR} {F : VF} {mi pc pc' X Y X' Y' : Nat} {L : VL} {rest : List Value} {c : Nat × Nat} {l0 : Nat} {l1 : Int32} {ω : Type} {o : ω} {g : HI → Option ω} (hq : cQ mi pc 269 2 pc' X Y X' Y' = true) (hc : c.1 ≤ X ∧ c.2 ≤ Y) (hr : Nat.ble (catS rest) 8 = true) (h : (fX11_writeByte fu sh I R l0 l1).bind g = some o) (kk : ∀ w c', (c'.1 ≤ X' ∧ c'.2 ≤ Y') → g w = some o → V K J mi pc' L (rest) sh w R c' F) : V K J mi pc L (.int l1 :: .ref l0 :: rest) sh I R c F := by
  obtain ⟨r, h1, h2⟩ := bnd h
  have hT : isT sh l0 9 = true := by unfold fX11_writeByte at h1; exact (gd h1).1
  have ml : mL 269 = 2 := by decide +kernel
  have mk : mK 269 = 1 := by decide +kernel
  have mc : mC 269 = 9 := by decide +kernel
  refine s_call (as := [.int l1, .ref l0]) (G := fun o' sh' I' R' => o' = .inl none ∧ sh' = sh ∧ I' = r ∧ R' = R) hq hc rfl hr (by rw [ml]; rfl) (Or.inl rfl) (fun _ => Or.inl ⟨by rw [mc]; decide, by rw [mc]; exact isT_iff.mp hT⟩) (fun z => absurd (mk.symm.trans z) (by decide)) (by rw [ml]; exact vX11_writeByte (F := fun o' sh' I' R' => o' = .inl none ∧ sh' = sh ∧ I' = r ∧ R' = R) ⟨rfl, rfl, rfl, rfl⟩ h1) ?_ ?_ ?_
  · rintro sh' I' R' c' hc' ⟨g1, rfl, rfl, rfl⟩
    cases g1
    exact kk _ _ hc' h2
  · rintro v' sh' I' R' c' hc' ⟨g1, rfl, rfl, rfl⟩
    cases g1
  · rintro E' sh' I' R' ⟨g1, rfl, rfl, rfl⟩
    cases g1
set_option maxRecDepth 100000 in
set_option maxHeartbeats 4000000 in
def fX11_write_b2 (fu : Nat) (sh : HS) (R : HR) (k2 : HI → Nat → Nat → Int32 → Option HI) (I : HI) (l0 : Nat) (l1 : Nat) (l2 : Int32) : Option HI :=
  (fJ0_length_8abf5 fu sh I R l1).bind fun v1 =>
  if v1 ≤ l2 then
    (some I)
  else
    ((fJ0_charAt_5068e fu sh I R l1 l2).bind fun v2 =>
    (fX11_writeByte fu sh I R l0 v2).bind fun w3 =>
    k2 w3 l0 l1 (l2 + 1))
set_option maxRecDepth 100000 in
set_option maxHeartbeats 4000000 in
theorem vX11_write_b2 {K J : Nat → Nat} {fu : Nat} {sh : HS} {R : HR} {F : VF} {o : HI} (hF : F (.inl none) sh o R) {k2 : HI → Nat → Nat → Int32 → Option HI} (hk2 : ∀ {I : HI} {l0 : Nat} {l1 : Nat} {l2 : Int32}  {c : Nat × Nat}, (c.1 ≤ 0 ∧ c.2 ≤ 0) → k2 I l0 l1 l2 = some o → V K J 270 2 [some (.ref l0), some (.ref (K l1)), some (.int l2)] [] sh I R c F) {I : HI} {l0 : Nat} {l1 : Nat} {l2 : Int32} {c : Nat × Nat} (hc0 : c.1 ≤ 0 ∧ c.2 ≤ 0) (h0 : fX11_write_b2 fu sh R k2 I l0 l1 l2 = some o) : V K J 270 2 [some (.ref l0), some (.ref (K l1)), some (.int l2)] [] sh I R c F := by
  unfold fX11_write_b2 at h0
  refine s_il (i := 2) (pc' := 3) (by decide +kernel) rfl ?_
  refine s_rl (i := 1) (pc' := 4) (by decide +kernel) rfl ?_
  refine kJ0_length_8abf5 (X := 0) (Y := 0) (X' := 0) (Y' := 0) (pc' := 7) (by decide +kernel) hc0 rfl h0 (fun v1 c hc1 h1 => ?_); clear h0 hc0
  refine s_if (ins := .if_icmp .ge 18) (t := 25) (pc' := 10) (by decide +kernel) rfl rfl rfl h1 (fun p2 h2 => ?_) (fun p2 h2 => ?_) <;> clear h1
  · have e9 := Option.some.inj h2; subst e9
    exact s_rv (X := 0) (Y := 0) (by decide +kernel) hc1 hF
  · refine s_rl (i := 0) (pc' := 11) (by decide +kernel) rfl ?_
    refine s_rl (i := 1) (pc' := 12) (by decide +kernel) rfl ?_
    refine s_il (i := 2) (pc' := 13) (by decide +kernel) rfl ?_
    refine kJ0_charAt_5068e (X := 0) (Y := 0) (X' := 0) (Y' := 0) (pc' := 16) (by decide +kernel) hc1 rfl h2 (fun v2 c hc2 h3 => ?_); clear h2 hc1
    refine kX11_writeByte (X := 0) (Y := 0) (X' := 0) (Y' := 0) (pc' := 19) (by decide +kernel) hc2 rfl h3 (fun w3 c hc3 h4 => ?_); clear h3 hc2
    refine s_inc (i := 2) (z := 1) (pc' := 22) (L' := [some (.ref l0), some (.ref (K l1)), some (.int (l2 + 1))]) (by decide +kernel) rfl rfl rfl ?_
    refine s_go (t := 2) (by decide +kernel) ?_
    exact hk2 hc3 h4
set_option maxRecDepth 100000 in
set_option maxHeartbeats 4000000 in
def fX11_write_l2 (fu : Nat) (sh : HS) (R : HR) : Nat → HI → Nat → Nat → Int32 → Option HI
  | 0 => fun _ _ _ _ => none
  | n + 1 => fX11_write_b2 fu sh R (fX11_write_l2 fu sh R n)
set_option maxRecDepth 100000 in
set_option maxHeartbeats 4000000 in
theorem vX11_write_l2 {K J : Nat → Nat} {fu : Nat} {sh : HS} {R : HR} {F : VF} {o : HI} (hF : F (.inl none) sh o R) : ∀ (n : Nat) {I : HI} {l0 : Nat} {l1 : Nat} {l2 : Int32} {c : Nat × Nat} (_ : c.1 ≤ 0 ∧ c.2 ≤ 0) (_ : fX11_write_l2 fu sh R n I l0 l1 l2 = some o), V K J 270 2 [some (.ref l0), some (.ref (K l1)), some (.int l2)] [] sh I R c F := by
  intro n
  induction n with
  | zero => exact fun _ h0 => nomatch h0
  | succ n ih => exact fun hc0 h0 => vX11_write_b2 hF ih hc0 h0
set_option maxRecDepth 100000 in
set_option maxHeartbeats 4000000 in
def fX11_write (fu : Nat) (sh : HS) (I : HI) (R : HR) (l0 : Nat) (l1 : Nat) : Option HI :=
  if isT sh l0 9 = true then
    ((fX11_write_l2 fu sh R fu) I l0 l1 0)
  else none
set_option maxRecDepth 100000 in
set_option maxHeartbeats 4000000 in
theorem vX11_write {K J : Nat → Nat} {fu : Nat} {sh : HS} {I : HI} {R : HR} {F : VF} {o : HI} (hF : F (.inl none) sh o R) {l0 : Nat} {l1 : Nat} (h0 : fX11_write fu sh I R l0 l1 = some o) : V K J 270 0 (ent 3 [.ref l0, .ref (K l1)]) [] sh I R (0, 0) F := by
  unfold fX11_write at h0
  obtain ⟨-, h1⟩ := gd h0; clear h0
  have hc0 : ((0 : Nat), (0 : Nat)).1 ≤ 0 ∧ ((0 : Nat), (0 : Nat)).2 ≤ 0 := ⟨Nat.le_refl _, Nat.le_refl _⟩
  show V K J 270 0 [some (.ref l0), some (.ref (K l1)), none] [] sh I R (0, 0) F
  refine s_c (v := 0) (pc' := 1) (by decide +kernel) ?_
  refine s_is (i := 2) (pc' := 2) (L' := [some (.ref l0), some (.ref (K l1)), some (.int 0)]) (by decide +kernel) rfl rfl ?_
  exact (vX11_write_l2 hF fu) hc0 h1
set_option maxRecDepth 100000 in
set_option maxHeartbeats 4000000 in
theorem kX11_write {K J : Nat → Nat} {fu : Nat} {sh : HS} {I : HI} {R : HR} {F : VF} {mi pc pc' X Y X' Y' : Nat} {L : VL} {rest : List Value} {c : Nat × Nat} {l0 : Nat} {l1 : Nat} {ω : Type} {o : ω} {g : HI → Option ω} (hq : cQ mi pc 270 2 pc' X Y X' Y' = true) (hc : c.1 ≤ X ∧ c.2 ≤ Y) (hr : Nat.ble (catS rest) 8 = true) (h : (fX11_write fu sh I R l0 l1).bind g = some o) (kk : ∀ w c', (c'.1 ≤ X' ∧ c'.2 ≤ Y') → g w = some o → V K J mi pc' L (rest) sh w R c' F) : V K J mi pc L (.ref (K l1) :: .ref l0 :: rest) sh I R c F := by
  obtain ⟨r, h1, h2⟩ := bnd h
  have hT : isT sh l0 9 = true := by unfold fX11_write at h1; exact (gd h1).1
  have ml : mL 270 = 3 := by decide +kernel
  have mk : mK 270 = 1 := by decide +kernel
  have mc : mC 270 = 9 := by decide +kernel
  refine s_call (as := [.ref (K l1), .ref l0]) (G := fun o' sh' I' R' => o' = .inl none ∧ sh' = sh ∧ I' = r ∧ R' = R) hq hc rfl hr (by rw [ml]; rfl) (Or.inl rfl) (fun _ => Or.inl ⟨by rw [mc]; decide, by rw [mc]; exact isT_iff.mp hT⟩) (fun z => absurd (mk.symm.trans z) (by decide)) (by rw [ml]; exact vX11_write (F := fun o' sh' I' R' => o' = .inl none ∧ sh' = sh ∧ I' = r ∧ R' = R) ⟨rfl, rfl, rfl, rfl⟩ h1) ?_ ?_ ?_
  · rintro sh' I' R' c' hc' ⟨g1, rfl, rfl, rfl⟩
    cases g1
    exact kk _ _ hc' h2
  · rintro v' sh' I' R' c' hc' ⟨g1, rfl, rfl, rfl⟩
    cases g1
  · rintro E' sh' I' R' ⟨g1, rfl, rfl, rfl⟩
    cases g1
set_option maxRecDepth 100000 in
set_option maxHeartbeats 4000000 in
def fX11_writeNumber_b23 (fu : Nat) (sh : HS) (R : HR) (I : HI) (l0 : Nat) (l1 : Int32) : Option HI :=
  (oM l1 10).bind fun v2 =>
  (fX11_writeByte fu sh I R l0 (48 + v2)).bind fun w3 =>
  some w3
set_option maxRecDepth 100000 in
set_option maxHeartbeats 4000000 in
theorem vX11_writeNumber_b23 {K J : Nat → Nat} {fu : Nat} {sh : HS} {R : HR} {F : VF} {o : HI} (hF : F (.inl none) sh o R) {I : HI} {l0 : Nat} {l1 : Int32} {c : Nat × Nat} (hc0 : c.1 ≤ 0 ∧ c.2 ≤ 0) (h0 : fX11_writeNumber_b23 fu sh R I l0 l1 = some o) : V K J 271 23 [some (.ref l0), some (.int l1)] [] sh I R c F := by
  unfold fX11_writeNumber_b23 at h0
  refine s_rl (i := 0) (pc' := 24) (by decide +kernel) rfl ?_
  refine s_c (v := 48) (pc' := 26) (by decide +kernel) ?_
  refine s_il (i := 1) (pc' := 27) (by decide +kernel) rfl ?_
  refine s_c (v := 10) (pc' := 29) (by decide +kernel) ?_
  refine s_rm (pc' := 30) (by decide +kernel) h0 (fun v2 h1 => ?_); clear h0
  refine s_a (ins := .iadd) (pc' := 31) (by decide +kernel) rfl ?_
  refine kX11_writeByte (X := 0) (Y := 0) (X' := 0) (Y' := 0) (pc' := 34) (by decide +kernel) hc0 rfl h1 (fun w3 c hc1 h2 => ?_); clear h1 hc0
  have e9 := Option.some.inj h2; subst e9
  exact s_rv (X := 0) (Y := 0) (by decide +kernel) hc1 hF
set_option maxRecDepth 100000 in
set_option maxHeartbeats 4000000 in
def fX11_writeNumber (fu : Nat) (sh : HS) (I : HI) (R : HR) (l0 : Nat) (l1 : Int32) : Option HI :=
  if isT sh l0 9 = true then
    ((fX11_writeByte fu sh I R l0 32).bind fun w1 =>
    if l1 ≤ 9 then
      ((fX11_writeNumber_b23 fu sh R) w1 l0 l1)
    else
      ((oD l1 10).bind fun v4 =>
      (fX11_writeByte fu sh w1 R l0 (48 + v4)).bind fun w5 =>
      (fX11_writeNumber_b23 fu sh R) w5 l0 l1))
  else none
set_option maxRecDepth 100000 in
set_option maxHeartbeats 4000000 in
theorem vX11_writeNumber {K J : Nat → Nat} {fu : Nat} {sh : HS} {I : HI} {R : HR} {F : VF} {o : HI} (hF : F (.inl none) sh o R) {l0 : Nat} {l1 : Int32} (h0 : fX11_writeNumber fu sh I R l0 l1 = some o) : V K J 271 0 (ent 2 [.ref l0, .int l1]) [] sh I R (0, 0) F := by
  unfold fX11_writeNumber at h0
  obtain ⟨-, h1⟩ := gd h0; clear h0
  have hc0 : ((0 : Nat), (0 : Nat)).1 ≤ 0 ∧ ((0 : Nat), (0 : Nat)).2 ≤ 0 := ⟨Nat.le_refl _, Nat.le_refl _⟩
  show V K J 271 0 [some (.ref l0), some (.int l1)] [] sh I R (0, 0) F
  refine s_rl (i := 0) (pc' := 1) (by decide +kernel) rfl ?_
  refine s_c (v := 32) (pc' := 3) (by decide +kernel) ?_
  refine kX11_writeByte (X := 0) (Y := 0) (X' := 0) (Y' := 0) (pc' := 6) (by decide +kernel) hc0 rfl h1 (fun w1 c hc1 h2 => ?_); clear h1 hc0
  refine s_il (i := 1) (pc' := 7) (by decide +kernel) rfl ?_
  refine s_c (v := 9) (pc' := 9) (by decide +kernel) ?_
  refine s_if (ins := .if_icmp .le 14) (t := 23) (pc' := 12) (by decide +kernel) rfl rfl rfl h2 (fun p3 h3 => ?_) (fun p3 h3 => ?_) <;> clear h2
  · exact (vX11_writeNumber_b23 hF) hc1 h3
  · refine s_rl (i := 0) (pc' := 13) (by decide +kernel) rfl ?_
    refine s_c (v := 48) (pc' := 15) (by decide +kernel) ?_
    refine s_il (i := 1) (pc' := 16) (by decide +kernel) rfl ?_
    refine s_c (v := 10) (pc' := 18) (by decide +kernel) ?_
    refine s_dv (pc' := 19) (by decide +kernel) h3 (fun v4 h4 => ?_); clear h3
    refine s_a (ins := .iadd) (pc' := 20) (by decide +kernel) rfl ?_
    refine kX11_writeByte (X := 0) (Y := 0) (X' := 0) (Y' := 0) (pc' := 23) (by decide +kernel) hc1 rfl h4 (fun w5 c hc2 h5 => ?_); clear h4 hc1
    exact (vX11_writeNumber_b23 hF) hc2 h5
set_option maxRecDepth 100000 in
set_option maxHeartbeats 4000000 in
theorem kX11_writeNumber {K J : Nat → Nat} {fu : Nat} {sh : HS} {I : HI} {R : HR} {F : VF} {mi pc pc' X Y X' Y' : Nat} {L : VL} {rest : List Value} {c : Nat × Nat} {l0 : Nat} {l1 : Int32} {ω : Type} {o : ω} {g : HI → Option ω} (hq : cQ mi pc 271 2 pc' X Y X' Y' = true) (hc : c.1 ≤ X ∧ c.2 ≤ Y) (hr : Nat.ble (catS rest) 8 = true) (h : (fX11_writeNumber fu sh I R l0 l1).bind g = some o) (kk : ∀ w c', (c'.1 ≤ X' ∧ c'.2 ≤ Y') → g w = some o → V K J mi pc' L (rest) sh w R c' F) : V K J mi pc L (.int l1 :: .ref l0 :: rest) sh I R c F := by
  obtain ⟨r, h1, h2⟩ := bnd h
  have hT : isT sh l0 9 = true := by unfold fX11_writeNumber at h1; exact (gd h1).1
  have ml : mL 271 = 2 := by decide +kernel
  have mk : mK 271 = 1 := by decide +kernel
  have mc : mC 271 = 9 := by decide +kernel
  refine s_call (as := [.int l1, .ref l0]) (G := fun o' sh' I' R' => o' = .inl none ∧ sh' = sh ∧ I' = r ∧ R' = R) hq hc rfl hr (by rw [ml]; rfl) (Or.inl rfl) (fun _ => Or.inl ⟨by rw [mc]; decide, by rw [mc]; exact isT_iff.mp hT⟩) (fun z => absurd (mk.symm.trans z) (by decide)) (by rw [ml]; exact vX11_writeNumber (F := fun o' sh' I' R' => o' = .inl none ∧ sh' = sh ∧ I' = r ∧ R' = R) ⟨rfl, rfl, rfl, rfl⟩ h1) ?_ ?_ ?_
  · rintro sh' I' R' c' hc' ⟨g1, rfl, rfl, rfl⟩
    cases g1
    exact kk _ _ hc' h2
  · rintro v' sh' I' R' c' hc' ⟨g1, rfl, rfl, rfl⟩
    cases g1
  · rintro E' sh' I' R' ⟨g1, rfl, rfl, rfl⟩
    cases g1
set_option maxRecDepth 100000 in
set_option maxHeartbeats 4000000 in
def fX11_nameOf_b35 (fu : Nat) (sh : HS) (I : HI) (R : HR) (s0 : Nat) : Option Nat :=
  some s0
set_option maxRecDepth 100000 in
set_option maxHeartbeats 4000000 in
theorem vX11_nameOf_b35 {K J : Nat → Nat} {fu : Nat} {sh : HS} {I : HI} {R : HR} {F : VF} {o : Nat} (hF : F (.inl (some (.ref (K o)))) sh I R) {s0 : Nat} {d0 : Option Value} {c : Nat × Nat} (hc0 : c.1 ≤ 0 ∧ c.2 ≤ 0) (h0 : fX11_nameOf_b35 fu sh I R s0 = some o) : V K J 272 35 [d0] [.ref (K s0)] sh I R c F := by
  unfold fX11_nameOf_b35 at h0
  have e9 := Option.some.inj h0; subst e9
  exact s_rr (d := "java/lang/String") (X := 0) (Y := 0) (by decide +kernel) hc0 hF
set_option maxRecDepth 100000 in
set_option maxHeartbeats 4000000 in
def fX11_nameOf (fu : Nat) (sh : HS) (I : HI) (R : HR) (l0 : Int32) : Option Nat :=
  if l0 = 0 then
    ((fX11_nameOf_b35 fu sh I R) 1)
  else
    (if l0 = 1 then
      ((fX11_nameOf_b35 fu sh I R) 5)
    else
      (if l0 = 2 then
        ((fX11_nameOf_b35 fu sh I R) 7)
      else
        ((fX11_nameOf_b35 fu sh I R) 3)))
set_option maxRecDepth 100000 in
set_option maxHeartbeats 4000000 in
theorem vX11_nameOf {K J : Nat → Nat} {fu : Nat} {sh : HS} {I : HI} {R : HR} {F : VF} {o : Nat} (hF : F (.inl (some (.ref (K o)))) sh I R) {l0 : Int32} (h0 : fX11_nameOf fu sh I R l0 = some o) : V K J 272 0 (ent 1 [.int l0]) [] sh I R (0, 0) F := by
  unfold fX11_nameOf at h0
  have h1 := h0; clear h0
  have hc0 : ((0 : Nat), (0 : Nat)).1 ≤ 0 ∧ ((0 : Nat), (0 : Nat)).2 ≤ 0 := ⟨Nat.le_refl _, Nat.le_refl _⟩
  show V K J 272 0 [some (.int l0)] [] sh I R (0, 0) F
  refine s_il (i := 0) (pc' := 1) (by decide +kernel) rfl ?_
  refine s_ifn (ins := .ifCond .ne 9) (t := 10) (pc' := 4) (by decide +kernel) rfl rfl rfl h1 (fun p2 h2 => ?_) (fun p2 h2 => ?_) <;> clear h1
  · refine s_il (i := 0) (pc' := 11) (by decide +kernel) rfl ?_
    refine s_c (v := 1) (pc' := 12) (by decide +kernel) ?_
    refine s_ifn (ins := .if_icmp .ne 9) (t := 21) (pc' := 15) (by decide +kernel) rfl rfl rfl h2 (fun p3 h3 => ?_) (fun p3 h3 => ?_) <;> clear h2
    · refine s_il (i := 0) (pc' := 22) (by decide +kernel) rfl ?_
      refine s_c (v := 2) (pc' := 23) (by decide +kernel) ?_
      refine s_ifn (ins := .if_icmp .ne 9) (t := 32) (pc' := 26) (by decide +kernel) rfl rfl rfl h3 (fun p4 h4 => ?_) (fun p4 h4 => ?_) <;> clear h3
      · refine s_cS (i := 3) (pc' := 35) (by decide +kernel) ?_
        exact (vX11_nameOf_b35 hF) hc0 h4
      · refine s_cS (i := 7) (pc' := 29) (by decide +kernel) ?_
        refine s_go (t := 35) (by decide +kernel) ?_
        exact (vX11_nameOf_b35 hF) hc0 h4
    · refine s_cS (i := 5) (pc' := 18) (by decide +kernel) ?_
      refine s_go (t := 35) (by decide +kernel) ?_
      exact (vX11_nameOf_b35 hF) hc0 h3
  · refine s_cS (i := 1) (pc' := 7) (by decide +kernel) ?_
    refine s_go (t := 35) (by decide +kernel) ?_
    exact (vX11_nameOf_b35 hF) hc0 h2
set_option maxRecDepth 100000 in
set_option maxHeartbeats 4000000 in
theorem kX11_nameOf {K J : Nat → Nat} {fu : Nat} {sh : HS} {I : HI} {R : HR} {F : VF} {mi pc pc' X Y X' Y' : Nat} {L : VL} {rest : List Value} {c : Nat × Nat} {l0 : Int32} {ω : Type} {o : ω} {g : Nat → Option ω} (hq : cQ mi pc 272 1 pc' X Y X' Y' = true) (hc : c.1 ≤ X ∧ c.2 ≤ Y) (hr : Nat.ble (catS rest) 8 = true) (h : (fX11_nameOf fu sh I R l0).bind g = some o) (kk : ∀ v c', (c'.1 ≤ X' ∧ c'.2 ≤ Y') → g v = some o → V K J mi pc' L ((.ref (K v)) :: rest) sh I R c' F) : V K J mi pc L (.int l0 :: rest) sh I R c F := by
  obtain ⟨r, h1, h2⟩ := bnd h
  have ml : mL 272 = 1 := by decide +kernel
  have mk : mK 272 = 0 := by decide +kernel
  refine s_call (as := [.int l0]) (G := fun o' sh' I' R' => o' = .inl (some (.ref (K r))) ∧ sh' = sh ∧ I' = I ∧ R' = R) hq hc rfl hr (by rw [ml]; rfl) (Or.inl rfl) (fun z => absurd (mk.symm.trans z) (by decide)) (fun z => absurd (mk.symm.trans z) (by decide)) (by rw [ml]; exact vX11_nameOf (F := fun o' sh' I' R' => o' = .inl (some (.ref (K r))) ∧ sh' = sh ∧ I' = I ∧ R' = R) ⟨rfl, rfl, rfl, rfl⟩ h1) ?_ ?_ ?_
  · rintro sh' I' R' c' hc' ⟨g1, rfl, rfl, rfl⟩
    cases g1
  · rintro v' sh' I' R' c' hc' ⟨g1, rfl, rfl, rfl⟩
    cases g1
    exact kk _ _ hc' h2
  · rintro E' sh' I' R' ⟨g1, rfl, rfl, rfl⟩
    cases g1
set_option maxRecDepth 100000 in
set_option maxHeartbeats 4000000 in
def fX11_writePlan_b81 (fu : Nat) (sh : HS) (R : HR) (k48 : HI → Nat → Int32 → Int32 → Option (Int32 × HI)) (k87 : HI → Nat → Int32 → Option (Int32 × HI)) (I : HI) (l0 : Nat) (l1 : Int32) (l2 : Int32) : Option (Int32 × HI) :=
  k48 I l0 l1 (l2 + 1)
set_option maxRecDepth 100000 in
set_option maxHeartbeats 4000000 in
theorem vX11_writePlan_b81 {K J : Nat → Nat} {fu : Nat} {sh : HS} {R : HR} {F : VF} {o : (Int32 × HI)} (hF : F (.inl (some (.int o.1))) sh o.2 R) {k48 : HI → Nat → Int32 → Int32 → Option (Int32 × HI)} {k87 : HI → Nat → Int32 → Option (Int32 × HI)} (hk48 : ∀ {I : HI} {l0 : Nat} {l1 : Int32} {l2 : Int32}  {c : Nat × Nat}, (c.1 ≤ 0 ∧ c.2 ≤ 0) → k48 I l0 l1 l2 = some o → V K J 273 48 [some (.ref l0), some (.int l1), some (.int l2)] [] sh I R c F) (hk87 : ∀ {I : HI} {l0 : Nat} {l1 : Int32} {d2 : Option Value} {c : Nat × Nat}, (c.1 ≤ 0 ∧ c.2 ≤ 0) → k87 I l0 l1 = some o → V K J 273 87 [some (.ref l0), some (.int l1), d2] [] sh I R c F) {I : HI} {l0 : Nat} {l1 : Int32} {l2 : Int32} {c : Nat × Nat} (hc0 : c.1 ≤ 0 ∧ c.2 ≤ 0) (h0 : fX11_writePlan_b81 fu sh R k48 k87 I l0 l1 l2 = some o) : V K J 273 81 [some (.ref l0), some (.int l1), some (.int l2)] [] sh I R c F := by
  unfold fX11_writePlan_b81 at h0
  refine s_inc (i := 2) (z := 1) (pc' := 84) (L' := [some (.ref l0), some (.int l1), some (.int (l2 + 1))]) (by decide +kernel) rfl rfl rfl ?_
  refine s_go (t := 48) (by decide +kernel) ?_
  exact hk48 hc0 h0
set_option maxRecDepth 100000 in
set_option maxHeartbeats 4000000 in
def fX11_writePlan_b48 (fu : Nat) (sh : HS) (R : HR) (k48 : HI → Nat → Int32 → Int32 → Option (Int32 × HI)) (k87 : HI → Nat → Int32 → Option (Int32 × HI)) (I : HI) (l0 : Nat) (l1 : Int32) (l2 : Int32) : Option (Int32 × HI) :=
  (oR sh R l0 9 0).bind fun v9 =>
  (oA sh I v9 4).bind fun v10 =>
  if v10 ≤ l2 then
    (k87 I l0 l1)
  else
    ((oR sh R l0 9 21).bind fun v11 =>
    (oR sh R l0 9 25).bind fun v12 =>
    (oA sh I v12 l1).bind fun v13 =>
    (oA sh I v11 v13).bind fun v14 =>
    (fX11_has fu sh I R v14 l2).bind fun v15 =>
    if v15 = 0 then
      ((fX11_writePlan_b81 fu sh R k48 k87) I l0 l1 l2)
    else
      ((fX11_writeNumber fu sh I R l0 l2).bind fun w16 =>
      (fX11_writePlan_b81 fu sh R k48 k87) w16 l0 l1 l2))
set_option maxRecDepth 100000 in
set_option maxHeartbeats 4000000 in
theorem vX11_writePlan_b48 {K J : Nat → Nat} {fu : Nat} {sh : HS} {R : HR} {F : VF} {o : (Int32 × HI)} (hF : F (.inl (some (.int o.1))) sh o.2 R) {k48 : HI → Nat → Int32 → Int32 → Option (Int32 × HI)} {k87 : HI → Nat → Int32 → Option (Int32 × HI)} (hk48 : ∀ {I : HI} {l0 : Nat} {l1 : Int32} {l2 : Int32}  {c : Nat × Nat}, (c.1 ≤ 0 ∧ c.2 ≤ 0) → k48 I l0 l1 l2 = some o → V K J 273 48 [some (.ref l0), some (.int l1), some (.int l2)] [] sh I R c F) (hk87 : ∀ {I : HI} {l0 : Nat} {l1 : Int32} {d2 : Option Value} {c : Nat × Nat}, (c.1 ≤ 0 ∧ c.2 ≤ 0) → k87 I l0 l1 = some o → V K J 273 87 [some (.ref l0), some (.int l1), d2] [] sh I R c F) {I : HI} {l0 : Nat} {l1 : Int32} {l2 : Int32} {c : Nat × Nat} (hc0 : c.1 ≤ 0 ∧ c.2 ≤ 0) (h0 : fX11_writePlan_b48 fu sh R k48 k87 I l0 l1 l2 = some o) : V K J 273 48 [some (.ref l0), some (.int l1), some (.int l2)] [] sh I R c F := by
  unfold fX11_writePlan_b48 at h0
  refine s_il (i := 2) (pc' := 49) (by decide +kernel) rfl ?_
  refine s_rl (i := 0) (pc' := 50) (by decide +kernel) rfl ?_
  refine s_gR (t := 9) (j := 0) (pc' := 53) (by decide +kernel) h0 (fun v9 h1 => ?_); clear h0
  refine s_c (v := 4) (pc' := 54) (by decide +kernel) ?_
  refine s_al (pc' := 55) (by decide +kernel) h1 (fun v10 h2 => ?_); clear h1
  refine s_if (ins := .if_icmp .ge 32) (t := 87) (pc' := 58) (by decide +kernel) rfl rfl rfl h2 (fun p3 h3 => ?_) (fun p3 h3 => ?_) <;> clear h2
  · exact hk87 hc0 h3
  · refine s_rl (i := 0) (pc' := 59) (by decide +kernel) rfl ?_
    refine s_gR (t := 9) (j := 21) (pc' := 62) (by decide +kernel) h3 (fun v11 h4 => ?_); clear h3
    refine s_rl (i := 0) (pc' := 63) (by decide +kernel) rfl ?_
    refine s_gR (t := 9) (j := 25) (pc' := 66) (by decide +kernel) h4 (fun v12 h5 => ?_); clear h4
    refine s_il (i := 1) (pc' := 67) (by decide +kernel) rfl ?_
    refine s_al (pc' := 68) (by decide +kernel) h5 (fun v13 h6 => ?_); clear h5
    refine s_al (pc' := 69) (by decide +kernel) h6 (fun v14 h7 => ?_); clear h6
    refine s_il (i := 2) (pc' := 70) (by decide +kernel) rfl ?_
    refine kX11_has (X := 0) (Y := 0) (X' := 0) (Y' := 0) (pc' := 73) (by decide +kernel) hc0 rfl h7 (fun v15 c hc1 h8 => ?_); clear h7 hc0
    refine s_if (ins := .ifCond .eq 8) (t := 81) (pc' := 76) (by decide +kernel) rfl rfl rfl h8 (fun p9 h9 => ?_) (fun p9 h9 => ?_) <;> clear h8
    · exact (vX11_writePlan_b81 hF hk48 hk87) hc1 h9
    · refine s_rl (i := 0) (pc' := 77) (by decide +kernel) rfl ?_
      refine s_il (i := 2) (pc' := 78) (by decide +kernel) rfl ?_
      refine kX11_writeNumber (X := 0) (Y := 0) (X' := 0) (Y' := 0) (pc' := 81) (by decide +kernel) hc1 rfl h9 (fun w16 c hc2 h10 => ?_); clear h9 hc1
      exact (vX11_writePlan_b81 hF hk48 hk87) hc2 h10
set_option maxRecDepth 100000 in
set_option maxHeartbeats 4000000 in
def fX11_writePlan_l48 (fu : Nat) (sh : HS) (R : HR) (k87 : HI → Nat → Int32 → Option (Int32 × HI)) : Nat → HI → Nat → Int32 → Int32 → Option (Int32 × HI)
  | 0 => fun _ _ _ _ => none
  | n + 1 => fX11_writePlan_b48 fu sh R (fX11_writePlan_l48 fu sh R k87 n) k87
set_option maxRecDepth 100000 in
set_option maxHeartbeats 4000000 in
theorem vX11_writePlan_l48 {K J : Nat → Nat} {fu : Nat} {sh : HS} {R : HR} {F : VF} {o : (Int32 × HI)} (hF : F (.inl (some (.int o.1))) sh o.2 R) {k87 : HI → Nat → Int32 → Option (Int32 × HI)} (hk87 : ∀ {I : HI} {l0 : Nat} {l1 : Int32} {d2 : Option Value} {c : Nat × Nat}, (c.1 ≤ 0 ∧ c.2 ≤ 0) → k87 I l0 l1 = some o → V K J 273 87 [some (.ref l0), some (.int l1), d2] [] sh I R c F) : ∀ (n : Nat) {I : HI} {l0 : Nat} {l1 : Int32} {l2 : Int32} {c : Nat × Nat} (_ : c.1 ≤ 0 ∧ c.2 ≤ 0) (_ : fX11_writePlan_l48 fu sh R k87 n I l0 l1 l2 = some o), V K J 273 48 [some (.ref l0), some (.int l1), some (.int l2)] [] sh I R c F := by
  intro n
  induction n with
  | zero => exact fun _ h0 => nomatch h0
  | succ n ih => exact fun hc0 h0 => vX11_writePlan_b48 hF ih hk87 hc0 h0
set_option maxRecDepth 100000 in
set_option maxHeartbeats 4000000 in
def fX11_writePlan_b87 (fu : Nat) (sh : HS) (R : HR) (k21 : HI → Nat → Int32 → Option (Int32 × HI)) (k99 : HI → Nat → Option (Int32 × HI)) (I : HI) (l0 : Nat) (l1 : Int32) : Option (Int32 × HI) :=
  (fX11_writeByte fu sh I R l0 10).bind fun w17 =>
  k21 w17 l0 (l1 + 1)
set_option maxRecDepth 100000 in
set_option maxHeartbeats 4000000 in
theorem vX11_writePlan_b87 {K J : Nat → Nat} {fu : Nat} {sh : HS} {R : HR} {F : VF} {o : (Int32 × HI)} (hF : F (.inl (some (.int o.1))) sh o.2 R) {k21 : HI → Nat → Int32 → Option (Int32 × HI)} {k99 : HI → Nat → Option (Int32 × HI)} (hk21 : ∀ {I : HI} {l0 : Nat} {l1 : Int32} {d2 : Option Value} {c : Nat × Nat}, (c.1 ≤ 0 ∧ c.2 ≤ 0) → k21 I l0 l1 = some o → V K J 273 21 [some (.ref l0), some (.int l1), d2] [] sh I R c F) (hk99 : ∀ {I : HI} {l0 : Nat} {d1 d2 : Option Value} {c : Nat × Nat}, (c.1 ≤ 0 ∧ c.2 ≤ 0) → k99 I l0 = some o → V K J 273 99 [some (.ref l0), d1, d2] [] sh I R c F) {I : HI} {l0 : Nat} {l1 : Int32} {d2 : Option Value} {c : Nat × Nat} (hc0 : c.1 ≤ 0 ∧ c.2 ≤ 0) (h0 : fX11_writePlan_b87 fu sh R k21 k99 I l0 l1 = some o) : V K J 273 87 [some (.ref l0), some (.int l1), d2] [] sh I R c F := by
  unfold fX11_writePlan_b87 at h0
  refine s_rl (i := 0) (pc' := 88) (by decide +kernel) rfl ?_
  refine s_c (v := 10) (pc' := 90) (by decide +kernel) ?_
  refine kX11_writeByte (X := 0) (Y := 0) (X' := 0) (Y' := 0) (pc' := 93) (by decide +kernel) hc0 rfl h0 (fun w17 c hc1 h1 => ?_); clear h0 hc0
  refine s_inc (i := 1) (z := 1) (pc' := 96) (L' := [some (.ref l0), some (.int (l1 + 1)), d2]) (by decide +kernel) rfl rfl rfl ?_
  refine s_go (t := 21) (by decide +kernel) ?_
  exact hk21 hc1 h1
set_option maxRecDepth 100000 in
set_option maxHeartbeats 4000000 in
def fX11_writePlan_b21 (fu : Nat) (sh : HS) (R : HR) (k21 : HI → Nat → Int32 → Option (Int32 × HI)) (k99 : HI → Nat → Option (Int32 × HI)) (I : HI) (l0 : Nat) (l1 : Int32) : Option (Int32 × HI) :=
  (oI sh I l0 9 22).bind fun v4 =>
  if v4 ≤ l1 then
    (k99 I l0)
  else
    ((fX11_write fu sh I R l0 22).bind fun w5 =>
    (oR sh R l0 9 25).bind fun v6 =>
    (oA sh w5 v6 l1).bind fun v7 =>
    (fX11_writeNumber fu sh w5 R l0 v7).bind fun w8 =>
    (fX11_writePlan_l48 fu sh R (fX11_writePlan_b87 fu sh R k21 k99) fu) w8 l0 l1 0)
set_option maxRecDepth 100000 in
set_option maxHeartbeats 4000000 in
theorem vX11_writePlan_b21 {K J : Nat → Nat} {fu : Nat} {sh : HS} {R : HR} {F : VF} {o : (Int32 × HI)} (hF : F (.inl (some (.int o.1))) sh o.2 R) {k21 : HI → Nat → Int32 → Option (Int32 × HI)} {k99 : HI → Nat → Option (Int32 × HI)} (hk21 : ∀ {I : HI} {l0 : Nat} {l1 : Int32} {d2 : Option Value} {c : Nat × Nat}, (c.1 ≤ 0 ∧ c.2 ≤ 0) → k21 I l0 l1 = some o → V K J 273 21 [some (.ref l0), some (.int l1), d2] [] sh I R c F) (hk99 : ∀ {I : HI} {l0 : Nat} {d1 d2 : Option Value} {c : Nat × Nat}, (c.1 ≤ 0 ∧ c.2 ≤ 0) → k99 I l0 = some o → V K J 273 99 [some (.ref l0), d1, d2] [] sh I R c F) {I : HI} {l0 : Nat} {l1 : Int32} {d2 : Option Value} {c : Nat × Nat} (hc0 : c.1 ≤ 0 ∧ c.2 ≤ 0) (h0 : fX11_writePlan_b21 fu sh R k21 k99 I l0 l1 = some o) : V K J 273 21 [some (.ref l0), some (.int l1), d2] [] sh I R c F := by
  unfold fX11_writePlan_b21 at h0
  refine s_il (i := 1) (pc' := 22) (by decide +kernel) rfl ?_
  refine s_rl (i := 0) (pc' := 23) (by decide +kernel) rfl ?_
  refine s_gI (t := 9) (j := 22) (ty := 0) (pc' := 26) (by decide +kernel) rfl h0 (fun v4 h1 => ?_); clear h0
  refine s_if (ins := .if_icmp .ge 73) (t := 99) (pc' := 29) (by decide +kernel) rfl rfl rfl h1 (fun p2 h2 => ?_) (fun p2 h2 => ?_) <;> clear h1
  · exact hk99 hc0 h2
  · refine s_rl (i := 0) (pc' := 30) (by decide +kernel) rfl ?_
    refine s_cS (i := 22) (pc' := 33) (by decide +kernel) ?_
    refine kX11_write (X := 0) (Y := 0) (X' := 0) (Y' := 0) (pc' := 36) (by decide +kernel) hc0 rfl h2 (fun w5 c hc1 h3 => ?_); clear h2 hc0
    refine s_rl (i := 0) (pc' := 37) (by decide +kernel) rfl ?_
    refine s_rl (i := 0) (pc' := 38) (by decide +kernel) rfl ?_
    refine s_gR (t := 9) (j := 25) (pc' := 41) (by decide +kernel) h3 (fun v6 h4 => ?_); clear h3
    refine s_il (i := 1) (pc' := 42) (by decide +kernel) rfl ?_
    refine s_al (pc' := 43) (by decide +kernel) h4 (fun v7 h5 => ?_); clear h4
    refine kX11_writeNumber (X := 0) (Y := 0) (X' := 0) (Y' := 0) (pc' := 46) (by decide +kernel) hc1 rfl h5 (fun w8 c hc2 h6 => ?_); clear h5 hc1
    refine s_c (v := 0) (pc' := 47) (by decide +kernel) ?_
    refine s_is (i := 2) (pc' := 48) (L' := [some (.ref l0), some (.int l1), some (.int 0)]) (by decide +kernel) rfl rfl ?_
    exact (vX11_writePlan_l48 hF (vX11_writePlan_b87 hF hk21 hk99) fu) hc2 h6
set_option maxRecDepth 100000 in
set_option maxHeartbeats 4000000 in
def fX11_writePlan_l21 (fu : Nat) (sh : HS) (R : HR) (k99 : HI → Nat → Option (Int32 × HI)) : Nat → HI → Nat → Int32 → Option (Int32 × HI)
  | 0 => fun _ _ _ => none
  | n + 1 => fX11_writePlan_b21 fu sh R (fX11_writePlan_l21 fu sh R k99 n) k99
set_option maxRecDepth 100000 in
set_option maxHeartbeats 4000000 in
theorem vX11_writePlan_l21 {K J : Nat → Nat} {fu : Nat} {sh : HS} {R : HR} {F : VF} {o : (Int32 × HI)} (hF : F (.inl (some (.int o.1))) sh o.2 R) {k99 : HI → Nat → Option (Int32 × HI)} (hk99 : ∀ {I : HI} {l0 : Nat} {d1 d2 : Option Value} {c : Nat × Nat}, (c.1 ≤ 0 ∧ c.2 ≤ 0) → k99 I l0 = some o → V K J 273 99 [some (.ref l0), d1, d2] [] sh I R c F) : ∀ (n : Nat) {I : HI} {l0 : Nat} {l1 : Int32} {d2 : Option Value} {c : Nat × Nat} (_ : c.1 ≤ 0 ∧ c.2 ≤ 0) (_ : fX11_writePlan_l21 fu sh R k99 n I l0 l1 = some o), V K J 273 21 [some (.ref l0), some (.int l1), d2] [] sh I R c F := by
  intro n
  induction n with
  | zero => exact fun _ h0 => nomatch h0
  | succ n ih => exact fun hc0 h0 => vX11_writePlan_b21 hF ih hk99 hc0 h0
set_option maxRecDepth 100000 in
set_option maxHeartbeats 4000000 in
def fX11_writePlan_b166 (fu : Nat) (sh : HS) (R : HR) (k113 : HI → Nat → Int32 → Int32 → Option (Int32 × HI)) (k172 : HI → Nat → Int32 → Option (Int32 × HI)) (I : HI) (l0 : Nat) (l1 : Int32) (l2 : Int32) : Option (Int32 × HI) :=
  k113 I l0 l1 (l2 + 1)
set_option maxRecDepth 100000 in
set_option maxHeartbeats 4000000 in
theorem vX11_writePlan_b166 {K J : Nat → Nat} {fu : Nat} {sh : HS} {R : HR} {F : VF} {o : (Int32 × HI)} (hF : F (.inl (some (.int o.1))) sh o.2 R) {k113 : HI → Nat → Int32 → Int32 → Option (Int32 × HI)} {k172 : HI → Nat → Int32 → Option (Int32 × HI)} (hk113 : ∀ {I : HI} {l0 : Nat} {l1 : Int32} {l2 : Int32}  {c : Nat × Nat}, (c.1 ≤ 0 ∧ c.2 ≤ 0) → k113 I l0 l1 l2 = some o → V K J 273 113 [some (.ref l0), some (.int l1), some (.int l2)] [] sh I R c F) (hk172 : ∀ {I : HI} {l0 : Nat} {l1 : Int32} {d2 : Option Value} {c : Nat × Nat}, (c.1 ≤ 0 ∧ c.2 ≤ 0) → k172 I l0 l1 = some o → V K J 273 172 [some (.ref l0), some (.int l1), d2] [] sh I R c F) {I : HI} {l0 : Nat} {l1 : Int32} {l2 : Int32} {c : Nat × Nat} (hc0 : c.1 ≤ 0 ∧ c.2 ≤ 0) (h0 : fX11_writePlan_b166 fu sh R k113 k172 I l0 l1 l2 = some o) : V K J 273 166 [some (.ref l0), some (.int l1), some (.int l2)] [] sh I R c F := by
  unfold fX11_writePlan_b166 at h0
  refine s_inc (i := 2) (z := 1) (pc' := 169) (L' := [some (.ref l0), some (.int l1), some (.int (l2 + 1))]) (by decide +kernel) rfl rfl rfl ?_
  refine s_go (t := 113) (by decide +kernel) ?_
  exact hk113 hc0 h0
set_option maxRecDepth 100000 in
set_option maxHeartbeats 4000000 in
def fX11_writePlan_b113 (fu : Nat) (sh : HS) (R : HR) (k113 : HI → Nat → Int32 → Int32 → Option (Int32 × HI)) (k172 : HI → Nat → Int32 → Option (Int32 × HI)) (I : HI) (l0 : Nat) (l1 : Int32) (l2 : Int32) : Option (Int32 × HI) :=
  if 4 ≤ l2 then
    (k172 I l0 l1)
  else
    ((fX11_kindsOf fu sh I R l0 l1).bind fun v21 =>
    (fX11_has fu sh I R v21 l2).bind fun v22 =>
    if v22 = 0 then
      ((fX11_writePlan_b166 fu sh R k113 k172) I l0 l1 l2)
    else
      ((fX11_write fu sh I R l0 24).bind fun w23 =>
      (fX11_writeNumber fu sh w23 R l0 l1).bind fun w24 =>
      (fX11_nameOf fu sh w24 R l2).bind fun v25 =>
      (fX11_write fu sh w24 R l0 v25).bind fun w26 =>
      (fX11_toldOf fu sh w26 R l0 l1 l2 2).bind fun v27 =>
      (fX11_writeNumber fu sh w26 R l0 v27).bind fun w28 =>
      (fX11_writeByte fu sh w28 R l0 10).bind fun w29 =>
      (fX11_writePlan_b166 fu sh R k113 k172) w29 l0 l1 l2))
set_option maxRecDepth 100000 in
set_option maxHeartbeats 4000000 in
theorem vX11_writePlan_b113 {K J : Nat → Nat} {fu : Nat} {sh : HS} {R : HR} {F : VF} {o : (Int32 × HI)} (hF : F (.inl (some (.int o.1))) sh o.2 R) {k113 : HI → Nat → Int32 → Int32 → Option (Int32 × HI)} {k172 : HI → Nat → Int32 → Option (Int32 × HI)} (hk113 : ∀ {I : HI} {l0 : Nat} {l1 : Int32} {l2 : Int32}  {c : Nat × Nat}, (c.1 ≤ 0 ∧ c.2 ≤ 0) → k113 I l0 l1 l2 = some o → V K J 273 113 [some (.ref l0), some (.int l1), some (.int l2)] [] sh I R c F) (hk172 : ∀ {I : HI} {l0 : Nat} {l1 : Int32} {d2 : Option Value} {c : Nat × Nat}, (c.1 ≤ 0 ∧ c.2 ≤ 0) → k172 I l0 l1 = some o → V K J 273 172 [some (.ref l0), some (.int l1), d2] [] sh I R c F) {I : HI} {l0 : Nat} {l1 : Int32} {l2 : Int32} {c : Nat × Nat} (hc0 : c.1 ≤ 0 ∧ c.2 ≤ 0) (h0 : fX11_writePlan_b113 fu sh R k113 k172 I l0 l1 l2 = some o) : V K J 273 113 [some (.ref l0), some (.int l1), some (.int l2)] [] sh I R c F := by
  unfold fX11_writePlan_b113 at h0
  refine s_il (i := 2) (pc' := 114) (by decide +kernel) rfl ?_
  refine s_c (v := 4) (pc' := 115) (by decide +kernel) ?_
  refine s_if (ins := .if_icmp .ge 57) (t := 172) (pc' := 118) (by decide +kernel) rfl rfl rfl h0 (fun p1 h1 => ?_) (fun p1 h1 => ?_) <;> clear h0
  · exact hk172 hc0 h1
  · refine s_rl (i := 0) (pc' := 119) (by decide +kernel) rfl ?_
    refine s_il (i := 1) (pc' := 120) (by decide +kernel) rfl ?_
    refine kX11_kindsOf (X := 0) (Y := 0) (X' := 0) (Y' := 0) (pc' := 123) (by decide +kernel) hc0 rfl h1 (fun v21 c hc1 h2 => ?_); clear h1 hc0
    refine s_il (i := 2) (pc' := 124) (by decide +kernel) rfl ?_
    refine kX11_has (X := 0) (Y := 0) (X' := 0) (Y' := 0) (pc' := 127) (by decide +kernel) hc1 rfl h2 (fun v22 c hc2 h3 => ?_); clear h2 hc1
    refine s_if (ins := .ifCond .eq 39) (t := 166) (pc' := 130) (by decide +kernel) rfl rfl rfl h3 (fun p4 h4 => ?_) (fun p4 h4 => ?_) <;> clear h3
    · exact (vX11_writePlan_b166 hF hk113 hk172) hc2 h4
    · refine s_rl (i := 0) (pc' := 131) (by decide +kernel) rfl ?_
      refine s_cS (i := 24) (pc' := 133) (by decide +kernel) ?_
      refine kX11_write (X := 0) (Y := 0) (X' := 0) (Y' := 0) (pc' := 136) (by decide +kernel) hc2 rfl h4 (fun w23 c hc3 h5 => ?_); clear h4 hc2
      refine s_rl (i := 0) (pc' := 137) (by decide +kernel) rfl ?_
      refine s_il (i := 1) (pc' := 138) (by decide +kernel) rfl ?_
      refine kX11_writeNumber (X := 0) (Y := 0) (X' := 0) (Y' := 0) (pc' := 141) (by decide +kernel) hc3 rfl h5 (fun w24 c hc4 h6 => ?_); clear h5 hc3
      refine s_rl (i := 0) (pc' := 142) (by decide +kernel) rfl ?_
      refine s_il (i := 2) (pc' := 143) (by decide +kernel) rfl ?_
      refine kX11_nameOf (X := 0) (Y := 0) (X' := 0) (Y' := 0) (pc' := 146) (by decide +kernel) hc4 rfl h6 (fun v25 c hc5 h7 => ?_); clear h6 hc4
      refine kX11_write (X := 0) (Y := 0) (X' := 0) (Y' := 0) (pc' := 149) (by decide +kernel) hc5 rfl h7 (fun w26 c hc6 h8 => ?_); clear h7 hc5
      refine s_rl (i := 0) (pc' := 150) (by decide +kernel) rfl ?_
      refine s_rl (i := 0) (pc' := 151) (by decide +kernel) rfl ?_
      refine s_il (i := 1) (pc' := 152) (by decide +kernel) rfl ?_
      refine s_il (i := 2) (pc' := 153) (by decide +kernel) rfl ?_
      refine s_c (v := 2) (pc' := 154) (by decide +kernel) ?_
      refine kX11_toldOf (X := 0) (Y := 0) (X' := 0) (Y' := 0) (pc' := 157) (by decide +kernel) hc6 rfl h8 (fun v27 c hc7 h9 => ?_); clear h8 hc6
      refine kX11_writeNumber (X := 0) (Y := 0) (X' := 0) (Y' := 0) (pc' := 160) (by decide +kernel) hc7 rfl h9 (fun w28 c hc8 h10 => ?_); clear h9 hc7
      refine s_rl (i := 0) (pc' := 161) (by decide +kernel) rfl ?_
      refine s_c (v := 10) (pc' := 163) (by decide +kernel) ?_
      refine kX11_writeByte (X := 0) (Y := 0) (X' := 0) (Y' := 0) (pc' := 166) (by decide +kernel) hc8 rfl h10 (fun w29 c hc9 h11 => ?_); clear h10 hc8
      exact (vX11_writePlan_b166 hF hk113 hk172) hc9 h11
set_option maxRecDepth 100000 in
set_option maxHeartbeats 4000000 in
def fX11_writePlan_l113 (fu : Nat) (sh : HS) (R : HR) (k172 : HI → Nat → Int32 → Option (Int32 × HI)) : Nat → HI → Nat → Int32 → Int32 → Option (Int32 × HI)
  | 0 => fun _ _ _ _ => none
  | n + 1 => fX11_writePlan_b113 fu sh R (fX11_writePlan_l113 fu sh R k172 n) k172
set_option maxRecDepth 100000 in
set_option maxHeartbeats 4000000 in
theorem vX11_writePlan_l113 {K J : Nat → Nat} {fu : Nat} {sh : HS} {R : HR} {F : VF} {o : (Int32 × HI)} (hF : F (.inl (some (.int o.1))) sh o.2 R) {k172 : HI → Nat → Int32 → Option (Int32 × HI)} (hk172 : ∀ {I : HI} {l0 : Nat} {l1 : Int32} {d2 : Option Value} {c : Nat × Nat}, (c.1 ≤ 0 ∧ c.2 ≤ 0) → k172 I l0 l1 = some o → V K J 273 172 [some (.ref l0), some (.int l1), d2] [] sh I R c F) : ∀ (n : Nat) {I : HI} {l0 : Nat} {l1 : Int32} {l2 : Int32} {c : Nat × Nat} (_ : c.1 ≤ 0 ∧ c.2 ≤ 0) (_ : fX11_writePlan_l113 fu sh R k172 n I l0 l1 l2 = some o), V K J 273 113 [some (.ref l0), some (.int l1), some (.int l2)] [] sh I R c F := by
  intro n
  induction n with
  | zero => exact fun _ h0 => nomatch h0
  | succ n ih => exact fun hc0 h0 => vX11_writePlan_b113 hF ih hk172 hc0 h0
set_option maxRecDepth 100000 in
set_option maxHeartbeats 4000000 in
def fX11_writePlan_b172 (fu : Nat) (sh : HS) (R : HR) (k101 : HI → Nat → Int32 → Option (Int32 × HI)) (I : HI) (l0 : Nat) (l1 : Int32) : Option (Int32 × HI) :=
  k101 I l0 (l1 + 1)
set_option maxRecDepth 100000 in
set_option maxHeartbeats 4000000 in
theorem vX11_writePlan_b172 {K J : Nat → Nat} {fu : Nat} {sh : HS} {R : HR} {F : VF} {o : (Int32 × HI)} (hF : F (.inl (some (.int o.1))) sh o.2 R) {k101 : HI → Nat → Int32 → Option (Int32 × HI)} (hk101 : ∀ {I : HI} {l0 : Nat} {l1 : Int32} {d2 : Option Value} {c : Nat × Nat}, (c.1 ≤ 0 ∧ c.2 ≤ 0) → k101 I l0 l1 = some o → V K J 273 101 [some (.ref l0), some (.int l1), d2] [] sh I R c F) {I : HI} {l0 : Nat} {l1 : Int32} {d2 : Option Value} {c : Nat × Nat} (hc0 : c.1 ≤ 0 ∧ c.2 ≤ 0) (h0 : fX11_writePlan_b172 fu sh R k101 I l0 l1 = some o) : V K J 273 172 [some (.ref l0), some (.int l1), d2] [] sh I R c F := by
  unfold fX11_writePlan_b172 at h0
  refine s_inc (i := 1) (z := 1) (pc' := 175) (L' := [some (.ref l0), some (.int (l1 + 1)), d2]) (by decide +kernel) rfl rfl rfl ?_
  refine s_go (t := 101) (by decide +kernel) ?_
  exact hk101 hc0 h0
set_option maxRecDepth 100000 in
set_option maxHeartbeats 4000000 in
def fX11_writePlan_b101 (fu : Nat) (sh : HS) (R : HR) (k101 : HI → Nat → Int32 → Option (Int32 × HI)) (I : HI) (l0 : Nat) (l1 : Int32) : Option (Int32 × HI) :=
  (oR sh R l0 9 0).bind fun v18 =>
  (oA sh I v18 4).bind fun v19 =>
  if v19 ≤ l1 then
    ((oI sh I l0 9 28).bind fun v20 =>
    some (v20, I))
  else
    ((fX11_writePlan_l113 fu sh R (fX11_writePlan_b172 fu sh R k101) fu) I l0 l1 0)
set_option maxRecDepth 100000 in
set_option maxHeartbeats 4000000 in
theorem vX11_writePlan_b101 {K J : Nat → Nat} {fu : Nat} {sh : HS} {R : HR} {F : VF} {o : (Int32 × HI)} (hF : F (.inl (some (.int o.1))) sh o.2 R) {k101 : HI → Nat → Int32 → Option (Int32 × HI)} (hk101 : ∀ {I : HI} {l0 : Nat} {l1 : Int32} {d2 : Option Value} {c : Nat × Nat}, (c.1 ≤ 0 ∧ c.2 ≤ 0) → k101 I l0 l1 = some o → V K J 273 101 [some (.ref l0), some (.int l1), d2] [] sh I R c F) {I : HI} {l0 : Nat} {l1 : Int32} {d2 : Option Value} {c : Nat × Nat} (hc0 : c.1 ≤ 0 ∧ c.2 ≤ 0) (h0 : fX11_writePlan_b101 fu sh R k101 I l0 l1 = some o) : V K J 273 101 [some (.ref l0), some (.int l1), d2] [] sh I R c F := by
  unfold fX11_writePlan_b101 at h0
  refine s_il (i := 1) (pc' := 102) (by decide +kernel) rfl ?_
  refine s_rl (i := 0) (pc' := 103) (by decide +kernel) rfl ?_
  refine s_gR (t := 9) (j := 0) (pc' := 106) (by decide +kernel) h0 (fun v18 h1 => ?_); clear h0
  refine s_c (v := 4) (pc' := 107) (by decide +kernel) ?_
  refine s_al (pc' := 108) (by decide +kernel) h1 (fun v19 h2 => ?_); clear h1
  refine s_if (ins := .if_icmp .ge 70) (t := 178) (pc' := 111) (by decide +kernel) rfl rfl rfl h2 (fun p3 h3 => ?_) (fun p3 h3 => ?_) <;> clear h2
  · refine s_rl (i := 0) (pc' := 179) (by decide +kernel) rfl ?_
    refine s_gI (t := 9) (j := 28) (ty := 0) (pc' := 182) (by decide +kernel) rfl h3 (fun v20 h4 => ?_); clear h3
    have e9 := Option.some.inj h4; subst e9
    exact s_ri (X := 0) (Y := 0) (by decide +kernel) hc0 hF
  · refine s_c (v := 0) (pc' := 112) (by decide +kernel) ?_
    refine s_is (i := 2) (pc' := 113) (L' := [some (.ref l0), some (.int l1), some (.int 0)]) (by decide +kernel) rfl rfl ?_
    exact (vX11_writePlan_l113 hF (vX11_writePlan_b172 hF hk101) fu) hc0 h3
set_option maxRecDepth 100000 in
set_option maxHeartbeats 4000000 in
def fX11_writePlan_l101 (fu : Nat) (sh : HS) (R : HR) : Nat → HI → Nat → Int32 → Option (Int32 × HI)
  | 0 => fun _ _ _ => none
  | n + 1 => fX11_writePlan_b101 fu sh R (fX11_writePlan_l101 fu sh R n)
set_option maxRecDepth 100000 in
set_option maxHeartbeats 4000000 in
theorem vX11_writePlan_l101 {K J : Nat → Nat} {fu : Nat} {sh : HS} {R : HR} {F : VF} {o : (Int32 × HI)} (hF : F (.inl (some (.int o.1))) sh o.2 R) : ∀ (n : Nat) {I : HI} {l0 : Nat} {l1 : Int32} {d2 : Option Value} {c : Nat × Nat} (_ : c.1 ≤ 0 ∧ c.2 ≤ 0) (_ : fX11_writePlan_l101 fu sh R n I l0 l1 = some o), V K J 273 101 [some (.ref l0), some (.int l1), d2] [] sh I R c F := by
  intro n
  induction n with
  | zero => exact fun _ h0 => nomatch h0
  | succ n ih => exact fun hc0 h0 => vX11_writePlan_b101 hF ih hc0 h0
set_option maxRecDepth 100000 in
set_option maxHeartbeats 4000000 in
def fX11_writePlan_b99 (fu : Nat) (sh : HS) (R : HR) (I : HI) (l0 : Nat) : Option (Int32 × HI) :=
  (fX11_writePlan_l101 fu sh R fu) I l0 0
set_option maxRecDepth 100000 in
set_option maxHeartbeats 4000000 in
theorem vX11_writePlan_b99 {K J : Nat → Nat} {fu : Nat} {sh : HS} {R : HR} {F : VF} {o : (Int32 × HI)} (hF : F (.inl (some (.int o.1))) sh o.2 R) {I : HI} {l0 : Nat} {d1 d2 : Option Value} {c : Nat × Nat} (hc0 : c.1 ≤ 0 ∧ c.2 ≤ 0) (h0 : fX11_writePlan_b99 fu sh R I l0 = some o) : V K J 273 99 [some (.ref l0), d1, d2] [] sh I R c F := by
  unfold fX11_writePlan_b99 at h0
  refine s_c (v := 0) (pc' := 100) (by decide +kernel) ?_
  refine s_is (i := 1) (pc' := 101) (L' := [some (.ref l0), some (.int 0), d2]) (by decide +kernel) rfl rfl ?_
  exact (vX11_writePlan_l101 hF fu) hc0 h0
set_option maxRecDepth 100000 in
set_option maxHeartbeats 4000000 in
def fX11_writePlan (fu : Nat) (sh : HS) (I : HI) (R : HR) (l0 : Nat) : Option (Int32 × HI) :=
  if isT sh l0 9 = true then
    (oH (fX11_isWrong fu sh I R l0 1) fun v1 w1 =>
    if v1 = 0 then
      ((oP sh w1 l0 9 28 0).bind fun v2 =>
      (fX11_layBest fu sh v2 R l0).bind fun w3 =>
      (fX11_writePlan_l21 fu sh R (fX11_writePlan_b99 fu sh R) fu) w3 l0 0)
    else
      (some (0, w1)))
  else none
set_option maxRecDepth 100000 in
set_option maxHeartbeats 4000000 in
theorem vX11_writePlan {K J : Nat → Nat} {fu : Nat} {sh : HS} {I : HI} {R : HR} {F : VF} {o : (Int32 × HI)} (hF : F (.inl (some (.int o.1))) sh o.2 R) {l0 : Nat} (h0 : fX11_writePlan fu sh I R l0 = some o) : V K J 273 0 (ent 3 [.ref l0]) [] sh I R (0, 0) F := by
  unfold fX11_writePlan at h0
  obtain ⟨-, h1⟩ := gd h0; clear h0
  have hc0 : ((0 : Nat), (0 : Nat)).1 ≤ 0 ∧ ((0 : Nat), (0 : Nat)).2 ≤ 0 := ⟨Nat.le_refl _, Nat.le_refl _⟩
  show V K J 273 0 [some (.ref l0), none, none] [] sh I R (0, 0) F
  refine s_rl (i := 0) (pc' := 1) (by decide +kernel) rfl ?_
  refine s_c (v := 1) (pc' := 2) (by decide +kernel) ?_
  refine kX11_isWrong (X := 0) (Y := 0) (X' := 0) (Y' := 0) (pc' := 5) (by decide +kernel) hc0 rfl h1 (fun v1 w1 c hc1 h2 => ?_); clear h1 hc0
  refine s_if (ins := .ifCond .eq 5) (t := 10) (pc' := 8) (by decide +kernel) rfl rfl rfl h2 (fun p3 h3 => ?_) (fun p3 h3 => ?_) <;> clear h2
  · refine s_rl (i := 0) (pc' := 11) (by decide +kernel) rfl ?_
    refine s_c (v := 0) (pc' := 12) (by decide +kernel) ?_
    refine s_pI (t := 9) (j := 28) (ty := 0) (pc' := 15) (by decide +kernel) (Or.inl rfl) h3 (fun v2 h4 => ?_); clear h3
    refine s_rl (i := 0) (pc' := 16) (by decide +kernel) rfl ?_
    refine kX11_layBest (X := 0) (Y := 0) (X' := 0) (Y' := 0) (pc' := 19) (by decide +kernel) hc1 rfl h4 (fun w3 c hc2 h5 => ?_); clear h4 hc1
    refine s_c (v := 0) (pc' := 20) (by decide +kernel) ?_
    refine s_is (i := 1) (pc' := 21) (L' := [some (.ref l0), some (.int 0), none]) (by decide +kernel) rfl rfl ?_
    exact (vX11_writePlan_l21 hF (vX11_writePlan_b99 hF) fu) hc2 h5
  · refine s_c (v := 0) (pc' := 9) (by decide +kernel) ?_
    have e9 := Option.some.inj h3; subst e9
    exact s_ri (X := 0) (Y := 0) (by decide +kernel) hc1 hF
set_option maxRecDepth 100000 in
set_option maxHeartbeats 4000000 in
theorem kX11_writePlan {K J : Nat → Nat} {fu : Nat} {sh : HS} {I : HI} {R : HR} {F : VF} {mi pc pc' X Y X' Y' : Nat} {L : VL} {rest : List Value} {c : Nat × Nat} {l0 : Nat} {ω : Type} {o : ω} {g : Int32 → HI → Option ω} (hq : cQ mi pc 273 1 pc' X Y X' Y' = true) (hc : c.1 ≤ X ∧ c.2 ≤ Y) (hr : Nat.ble (catS rest) 8 = true) (h : oH (fX11_writePlan fu sh I R l0) g = some o) (kk : ∀ v w c', (c'.1 ≤ X' ∧ c'.2 ≤ Y') → g v w = some o → V K J mi pc' L ((.int v) :: rest) sh w R c' F) : V K J mi pc L (.ref l0 :: rest) sh I R c F := by
  obtain ⟨r, h1, h2⟩ := bnd h
  have hT : isT sh l0 9 = true := by unfold fX11_writePlan at h1; exact (gd h1).1
  have ml : mL 273 = 3 := by decide +kernel
  have mk : mK 273 = 1 := by decide +kernel
  have mc : mC 273 = 9 := by decide +kernel
  obtain ⟨v, w⟩ := r
  refine s_call (as := [.ref l0]) (G := fun o' sh' I' R' => o' = .inl (some (.int v)) ∧ sh' = sh ∧ I' = w ∧ R' = R) hq hc rfl hr (by rw [ml]; rfl) (Or.inl rfl) (fun _ => Or.inl ⟨by rw [mc]; decide, by rw [mc]; exact isT_iff.mp hT⟩) (fun z => absurd (mk.symm.trans z) (by decide)) (by rw [ml]; exact vX11_writePlan (F := fun o' sh' I' R' => o' = .inl (some (.int v)) ∧ sh' = sh ∧ I' = w ∧ R' = R) ⟨rfl, rfl, rfl, rfl⟩ h1) ?_ ?_ ?_
  · rintro sh' I' R' c' hc' ⟨g1, rfl, rfl, rfl⟩
    cases g1
  · rintro v' sh' I' R' c' hc' ⟨g1, rfl, rfl, rfl⟩
    cases g1
    exact kk _ _ _ hc' h2
  · rintro E' sh' I' R' ⟨g1, rfl, rfl, rfl⟩
    cases g1
set_option maxRecDepth 100000 in
set_option maxHeartbeats 4000000 in
def fX11_planByte_b48 (fu : Nat) (sh : HS) (R : HR) (I : HI) (s0 : Int32) : Option (Int32 × HI) :=
  some (s0, I)
set_option maxRecDepth 100000 in
set_option maxHeartbeats 4000000 in
theorem vX11_planByte_b48 {K J : Nat → Nat} {fu : Nat} {sh : HS} {R : HR} {F : VF} {o : (Int32 × HI)} (hF : F (.inl (some (.int o.1))) sh o.2 R) {I : HI} {s0 : Int32} {d0 d1 : Option Value} {c : Nat × Nat} (hc0 : c.1 ≤ 0 ∧ c.2 ≤ 0) (h0 : fX11_planByte_b48 fu sh R I s0 = some o) : V K J 274 48 [d0, d1] [.int s0] sh I R c F := by
  unfold fX11_planByte_b48 at h0
  have e9 := Option.some.inj h0; subst e9
  exact s_ri (X := 0) (Y := 0) (by decide +kernel) hc0 hF
set_option maxRecDepth 100000 in
set_option maxHeartbeats 4000000 in
def fX11_planByte_b32 (fu : Nat) (sh : HS) (R : HR) (I : HI) (l0 : Nat) (l1 : Int32) (s0 : Int32) (s1 : Nat) : Option (Int32 × HI) :=
  oH (fX11_lacks fu sh I R s1 s0) fun v3 w3 =>
  if v3 = 0 then
    ((oR sh R l0 9 27).bind fun v4 =>
    (oA sh w3 v4 l1).bind fun v5 =>
    (fX11_planByte_b48 fu sh R) w3 v5)
  else
    ((fX11_planByte_b48 fu sh R) w3 0)
set_option maxRecDepth 100000 in
set_option maxHeartbeats 4000000 in
theorem vX11_planByte_b32 {K J : Nat → Nat} {fu : Nat} {sh : HS} {R : HR} {F : VF} {o : (Int32 × HI)} (hF : F (.inl (some (.int o.1))) sh o.2 R) {I : HI} {l0 : Nat} {l1 : Int32} {s0 : Int32} {s1 : Nat} {c : Nat × Nat} (hc0 : c.1 ≤ 0 ∧ c.2 ≤ 0) (h0 : fX11_planByte_b32 fu sh R I l0 l1 s0 s1 = some o) : V K J 274 32 [some (.ref l0), some (.int l1)] [.int s0, .ref s1] sh I R c F := by
  unfold fX11_planByte_b32 at h0
  refine kX11_lacks (X := 0) (Y := 0) (X' := 0) (Y' := 0) (pc' := 35) (by decide +kernel) hc0 rfl h0 (fun v3 w3 c hc1 h1 => ?_); clear h0 hc0
  refine s_if (ins := .ifCond .eq 7) (t := 42) (pc' := 38) (by decide +kernel) rfl rfl rfl h1 (fun p2 h2 => ?_) (fun p2 h2 => ?_) <;> clear h1
  · refine s_rl (i := 0) (pc' := 43) (by decide +kernel) rfl ?_
    refine s_gR (t := 9) (j := 27) (pc' := 46) (by decide +kernel) h2 (fun v4 h3 => ?_); clear h2
    refine s_il (i := 1) (pc' := 47) (by decide +kernel) rfl ?_
    refine s_al (pc' := 48) (by decide +kernel) h3 (fun v5 h4 => ?_); clear h3
    exact (vX11_planByte_b48 hF) hc1 h4
  · refine s_c (v := 0) (pc' := 39) (by decide +kernel) ?_
    refine s_go (t := 48) (by decide +kernel) ?_
    exact (vX11_planByte_b48 hF) hc1 h2
set_option maxRecDepth 100000 in
set_option maxHeartbeats 4000000 in
def fX11_planByte_b10 (fu : Nat) (sh : HS) (R : HR) (I : HI) (l0 : Nat) (l1 : Int32) (s0 : Int32) (s1 : Nat) : Option (Int32 × HI) :=
  oH (fX11_isWrong fu sh I R s1 s0) fun v1 w1 =>
  if v1 = 0 then
    ((oI sh w1 l0 9 28).bind fun v2 =>
    if v2 ≤ l1 then
      ((fX11_planByte_b32 fu sh R) w1 l0 l1 0 l0)
    else
      ((fX11_planByte_b32 fu sh R) w1 l0 l1 1 l0))
  else
    (some (0, w1))
set_option maxRecDepth 100000 in
set_option maxHeartbeats 4000000 in
theorem vX11_planByte_b10 {K J : Nat → Nat} {fu : Nat} {sh : HS} {R : HR} {F : VF} {o : (Int32 × HI)} (hF : F (.inl (some (.int o.1))) sh o.2 R) {I : HI} {l0 : Nat} {l1 : Int32} {s0 : Int32} {s1 : Nat} {c : Nat × Nat} (hc0 : c.1 ≤ 0 ∧ c.2 ≤ 0) (h0 : fX11_planByte_b10 fu sh R I l0 l1 s0 s1 = some o) : V K J 274 10 [some (.ref l0), some (.int l1)] [.int s0, .ref s1] sh I R c F := by
  unfold fX11_planByte_b10 at h0
  refine kX11_isWrong (X := 0) (Y := 0) (X' := 0) (Y' := 0) (pc' := 13) (by decide +kernel) hc0 rfl h0 (fun v1 w1 c hc1 h1 => ?_); clear h0 hc0
  refine s_if (ins := .ifCond .eq 5) (t := 18) (pc' := 16) (by decide +kernel) rfl rfl rfl h1 (fun p2 h2 => ?_) (fun p2 h2 => ?_) <;> clear h1
  · refine s_rl (i := 0) (pc' := 19) (by decide +kernel) rfl ?_
    refine s_il (i := 1) (pc' := 20) (by decide +kernel) rfl ?_
    refine s_rl (i := 0) (pc' := 21) (by decide +kernel) rfl ?_
    refine s_gI (t := 9) (j := 28) (ty := 0) (pc' := 24) (by decide +kernel) rfl h2 (fun v2 h3 => ?_); clear h2
    refine s_if (ins := .if_icmp .ge 7) (t := 31) (pc' := 27) (by decide +kernel) rfl rfl rfl h3 (fun p4 h4 => ?_) (fun p4 h4 => ?_) <;> clear h3
    · refine s_c (v := 0) (pc' := 32) (by decide +kernel) ?_
      exact (vX11_planByte_b32 hF) hc1 h4
    · refine s_c (v := 1) (pc' := 28) (by decide +kernel) ?_
      refine s_go (t := 32) (by decide +kernel) ?_
      exact (vX11_planByte_b32 hF) hc1 h4
  · refine s_c (v := 0) (pc' := 17) (by decide +kernel) ?_
    have e9 := Option.some.inj h2; subst e9
    exact s_ri (X := 0) (Y := 0) (by decide +kernel) hc1 hF
set_option maxRecDepth 100000 in
set_option maxHeartbeats 4000000 in
def fX11_planByte (fu : Nat) (sh : HS) (I : HI) (R : HR) (l0 : Nat) (l1 : Int32) : Option (Int32 × HI) :=
  if isT sh l0 9 = true then
    (if l1 < 0 then
      ((fX11_planByte_b10 fu sh R) I l0 l1 0 l0)
    else
      ((fX11_planByte_b10 fu sh R) I l0 l1 1 l0))
  else none
set_option maxRecDepth 100000 in
set_option maxHeartbeats 4000000 in
theorem vX11_planByte {K J : Nat → Nat} {fu : Nat} {sh : HS} {I : HI} {R : HR} {F : VF} {o : (Int32 × HI)} (hF : F (.inl (some (.int o.1))) sh o.2 R) {l0 : Nat} {l1 : Int32} (h0 : fX11_planByte fu sh I R l0 l1 = some o) : V K J 274 0 (ent 2 [.ref l0, .int l1]) [] sh I R (0, 0) F := by
  unfold fX11_planByte at h0
  obtain ⟨-, h1⟩ := gd h0; clear h0
  have hc0 : ((0 : Nat), (0 : Nat)).1 ≤ 0 ∧ ((0 : Nat), (0 : Nat)).2 ≤ 0 := ⟨Nat.le_refl _, Nat.le_refl _⟩
  show V K J 274 0 [some (.ref l0), some (.int l1)] [] sh I R (0, 0) F
  refine s_rl (i := 0) (pc' := 1) (by decide +kernel) rfl ?_
  refine s_il (i := 1) (pc' := 2) (by decide +kernel) rfl ?_
  refine s_if (ins := .ifCond .lt 7) (t := 9) (pc' := 5) (by decide +kernel) rfl rfl rfl h1 (fun p2 h2 => ?_) (fun p2 h2 => ?_) <;> clear h1
  · refine s_c (v := 0) (pc' := 10) (by decide +kernel) ?_
    exact (vX11_planByte_b10 hF) hc0 h2
  · refine s_c (v := 1) (pc' := 6) (by decide +kernel) ?_
    refine s_go (t := 10) (by decide +kernel) ?_
    exact (vX11_planByte_b10 hF) hc0 h2
set_option maxRecDepth 100000 in
set_option maxHeartbeats 4000000 in
theorem kX11_planByte {K J : Nat → Nat} {fu : Nat} {sh : HS} {I : HI} {R : HR} {F : VF} {mi pc pc' X Y X' Y' : Nat} {L : VL} {rest : List Value} {c : Nat × Nat} {l0 : Nat} {l1 : Int32} {ω : Type} {o : ω} {g : Int32 → HI → Option ω} (hq : cQ mi pc 274 2 pc' X Y X' Y' = true) (hc : c.1 ≤ X ∧ c.2 ≤ Y) (hr : Nat.ble (catS rest) 8 = true) (h : oH (fX11_planByte fu sh I R l0 l1) g = some o) (kk : ∀ v w c', (c'.1 ≤ X' ∧ c'.2 ≤ Y') → g v w = some o → V K J mi pc' L ((.int v) :: rest) sh w R c' F) : V K J mi pc L (.int l1 :: .ref l0 :: rest) sh I R c F := by
  obtain ⟨r, h1, h2⟩ := bnd h
  have hT : isT sh l0 9 = true := by unfold fX11_planByte at h1; exact (gd h1).1
  have ml : mL 274 = 2 := by decide +kernel
  have mk : mK 274 = 1 := by decide +kernel
  have mc : mC 274 = 9 := by decide +kernel
  obtain ⟨v, w⟩ := r
  refine s_call (as := [.int l1, .ref l0]) (G := fun o' sh' I' R' => o' = .inl (some (.int v)) ∧ sh' = sh ∧ I' = w ∧ R' = R) hq hc rfl hr (by rw [ml]; rfl) (Or.inl rfl) (fun _ => Or.inl ⟨by rw [mc]; decide, by rw [mc]; exact isT_iff.mp hT⟩) (fun z => absurd (mk.symm.trans z) (by decide)) (by rw [ml]; exact vX11_planByte (F := fun o' sh' I' R' => o' = .inl (some (.int v)) ∧ sh' = sh ∧ I' = w ∧ R' = R) ⟨rfl, rfl, rfl, rfl⟩ h1) ?_ ?_ ?_
  · rintro sh' I' R' c' hc' ⟨g1, rfl, rfl, rfl⟩
    cases g1
  · rintro v' sh' I' R' c' hc' ⟨g1, rfl, rfl, rfl⟩
    cases g1
    exact kk _ _ _ hc' h2
  · rintro E' sh' I' R' ⟨g1, rfl, rfl, rfl⟩
    cases g1
