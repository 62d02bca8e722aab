/-! methods 8 (printed by wip/whole/gen3.py) -/
set_option maxRecDepth 100000 in
set_option maxHeartbeats 4000000 in
def fX11_bestFlip_b59 (fu : Nat) (sh : HS) (R : HR) (k9 : HI → Nat → Int32 → Int32 → Int32 → Option (Int32 × HI)) (I : HI) (l0 : Nat) (l2 : Int32) (l3 : Int32) (l4 : Int32) (s0 : Int32) : Option (Int32 × HI) :=
  k9 I l0 s0 (iMin l2 l4) (l3 + 1)
set_option maxRecDepth 100000 in
set_option maxHeartbeats 4000000 in
theorem vX11_bestFlip_b59 {K J : Nat → Nat} {fu : Nat} {sh : HS} {R : HR} {F : VF} {o : (Int32 × HI)} (hF : F (.inl (some (.int o.1))) sh o.2 R) {k9 : HI → Nat → Int32 → Int32 → Int32 → Option (Int32 × HI)} (hk9 : ∀ {I : HI} {l0 : Nat} {l1 : Int32} {l2 : Int32} {l3 : Int32} {d4 : Option Value} {c : Nat × Nat}, (c.1 ≤ 0 ∧ c.2 ≤ 0) → k9 I l0 l1 l2 l3 = some o → V K J 244 9 [some (.ref l0), some (.int l1), some (.int l2), some (.int l3), d4] [] sh I R c F) {I : HI} {l0 : Nat} {l2 : Int32} {l3 : Int32} {l4 : Int32} {s0 : Int32} {d1 : Option Value} {c : Nat × Nat} (hc0 : c.1 ≤ 0 ∧ c.2 ≤ 0) (h0 : fX11_bestFlip_b59 fu sh R k9 I l0 l2 l3 l4 s0 = some o) : V K J 244 59 [some (.ref l0), d1, some (.int l2), some (.int l3), some (.int l4)] [.int s0] sh I R c F := by
  unfold fX11_bestFlip_b59 at h0
  refine s_is (i := 1) (pc' := 60) (L' := [some (.ref l0), some (.int s0), some (.int l2), some (.int l3), some (.int l4)]) (by decide +kernel) rfl rfl ?_
  refine s_il (i := 2) (pc' := 61) (by decide +kernel) rfl ?_
  refine s_il (i := 4) (pc' := 63) (by decide +kernel) rfl ?_
  refine s_min (X := 0) (Y := 0) (pc' := 66) (by decide +kernel) hc0 rfl ?_
  refine s_is (i := 2) (pc' := 67) (L' := [some (.ref l0), some (.int s0), some (.int (iMin l2 l4)), some (.int l3), some (.int l4)]) (by decide +kernel) rfl rfl ?_
  refine s_inc (i := 3) (z := 1) (pc' := 70) (L' := [some (.ref l0), some (.int s0), some (.int (iMin l2 l4)), some (.int (l3 + 1)), some (.int l4)]) (by decide +kernel) rfl rfl rfl ?_
  refine s_go (t := 9) (by decide +kernel) ?_
  exact hk9 hc0 h0
set_option maxRecDepth 100000 in
set_option maxHeartbeats 4000000 in
def fX11_bestFlip_b46 (fu : Nat) (sh : HS) (R : HR) (k9 : HI → Nat → Int32 → Int32 → Int32 → Option (Int32 × HI)) (I : HI) (l0 : Nat) (l1 : Int32) (l2 : Int32) (l3 : Int32) (s0 : Int32) : Option (Int32 × HI) :=
  if l2 ≤ s0 then
    ((fX11_bestFlip_b59 fu sh R k9) I l0 l2 l3 s0 l1)
  else
    ((fX11_bestFlip_b59 fu sh R k9) I l0 l2 l3 s0 l3)
set_option maxRecDepth 100000 in
set_option maxHeartbeats 4000000 in
theorem vX11_bestFlip_b46 {K J : Nat → Nat} {fu : Nat} {sh : HS} {R : HR} {F : VF} {o : (Int32 × HI)} (hF : F (.inl (some (.int o.1))) sh o.2 R) {k9 : HI → Nat → Int32 → Int32 → Int32 → Option (Int32 × HI)} (hk9 : ∀ {I : HI} {l0 : Nat} {l1 : Int32} {l2 : Int32} {l3 : Int32} {d4 : Option Value} {c : Nat × Nat}, (c.1 ≤ 0 ∧ c.2 ≤ 0) → k9 I l0 l1 l2 l3 = some o → V K J 244 9 [some (.ref l0), some (.int l1), some (.int l2), some (.int l3), d4] [] sh I R c F) {I : HI} {l0 : Nat} {l1 : Int32} {l2 : Int32} {l3 : Int32} {s0 : Int32} {d4 : Option Value} {c : Nat × Nat} (hc0 : c.1 ≤ 0 ∧ c.2 ≤ 0) (h0 : fX11_bestFlip_b46 fu sh R k9 I l0 l1 l2 l3 s0 = some o) : V K J 244 46 [some (.ref l0), some (.int l1), some (.int l2), some (.int l3), d4] [.int s0] sh I R c F := by
  unfold fX11_bestFlip_b46 at h0
  refine s_is (i := 4) (pc' := 48) (L' := [some (.ref l0), some (.int l1), some (.int l2), some (.int l3), some (.int s0)]) (by decide +kernel) rfl rfl ?_
  refine s_il (i := 4) (pc' := 50) (by decide +kernel) rfl ?_
  refine s_il (i := 2) (pc' := 51) (by decide +kernel) rfl ?_
  refine s_if (ins := .if_icmp .ge 7) (t := 58) (pc' := 54) (by decide +kernel) rfl rfl rfl h0 (fun p1 h1 => ?_) (fun p1 h1 => ?_) <;> clear h0
  · refine s_il (i := 1) (pc' := 59) (by decide +kernel) rfl ?_
    exact (vX11_bestFlip_b59 hF hk9) hc0 h1
  · refine s_il (i := 3) (pc' := 55) (by decide +kernel) rfl ?_
    refine s_go (t := 59) (by decide +kernel) ?_
    exact (vX11_bestFlip_b59 hF hk9) hc0 h1
set_option maxRecDepth 100000 in
set_option maxHeartbeats 4000000 in
def fX11_bestFlip_b9 (fu : Nat) (sh : HS) (R : HR) (k9 : HI → Nat → Int32 → Int32 → Int32 → Option (Int32 × HI)) (I : HI) (l0 : Nat) (l1 : Int32) (l2 : Int32) (l3 : Int32) : Option (Int32 × HI) :=
  (oR sh R l0 9 0).bind fun v2 =>
  (oA sh I v2 4).bind fun v3 =>
  if v3 ≤ l3 then
    (some (l1, I))
  else
    ((fX11_noFlip fu sh I R l0 l3).bind fun v4 =>
    if 0 ≤ v4 then
      ((fX11_flippedX fu sh I R l0 l3).bind fun v5 =>
      (fX11_flippedY fu sh I R l0 l3).bind fun v6 =>
      oH (fX11_faultsAt fu sh I R l0 l3 v5 v6) fun v7 w7 =>
      (fX11_bestFlip_b46 fu sh R k9) w7 l0 l1 l2 l3 v7)
    else
      ((fX11_bestFlip_b46 fu sh R k9) I l0 l1 l2 l3 l2))
set_option maxRecDepth 100000 in
set_option maxHeartbeats 4000000 in
theorem vX11_bestFlip_b9 {K J : Nat → Nat} {fu : Nat} {sh : HS} {R : HR} {F : VF} {o : (Int32 × HI)} (hF : F (.inl (some (.int o.1))) sh o.2 R) {k9 : HI → Nat → Int32 → Int32 → Int32 → Option (Int32 × HI)} (hk9 : ∀ {I : HI} {l0 : Nat} {l1 : Int32} {l2 : Int32} {l3 : Int32} {d4 : Option Value} {c : Nat × Nat}, (c.1 ≤ 0 ∧ c.2 ≤ 0) → k9 I l0 l1 l2 l3 = some o → V K J 244 9 [some (.ref l0), some (.int l1), some (.int l2), some (.int l3), d4] [] sh I R c F) {I : HI} {l0 : Nat} {l1 : Int32} {l2 : Int32} {l3 : Int32} {d4 : Option Value} {c : Nat × Nat} (hc0 : c.1 ≤ 0 ∧ c.2 ≤ 0) (h0 : fX11_bestFlip_b9 fu sh R k9 I l0 l1 l2 l3 = some o) : V K J 244 9 [some (.ref l0), some (.int l1), some (.int l2), some (.int l3), d4] [] sh I R c F := by
  unfold fX11_bestFlip_b9 at h0
  refine s_il (i := 3) (pc' := 10) (by decide +kernel) rfl ?_
  refine s_rl (i := 0) (pc' := 11) (by decide +kernel) rfl ?_
  refine s_gR (t := 9) (j := 0) (pc' := 14) (by decide +kernel) h0 (fun v2 h1 => ?_); clear h0
  refine s_c (v := 4) (pc' := 15) (by decide +kernel) ?_
  refine s_al (pc' := 16) (by decide +kernel) h1 (fun v3 h2 => ?_); clear h1
  refine s_if (ins := .if_icmp .ge 57) (t := 73) (pc' := 19) (by decide +kernel) rfl rfl rfl h2 (fun p3 h3 => ?_) (fun p3 h3 => ?_) <;> clear h2
  · refine s_il (i := 1) (pc' := 74) (by decide +kernel) rfl ?_
    have e9 := Option.some.inj h3; subst e9
    exact s_ri (X := 0) (Y := 0) (by decide +kernel) hc0 hF
  · refine s_rl (i := 0) (pc' := 20) (by decide +kernel) rfl ?_
    refine s_il (i := 3) (pc' := 21) (by decide +kernel) rfl ?_
    refine kX11_noFlip (X := 0) (Y := 0) (X' := 0) (Y' := 0) (pc' := 24) (by decide +kernel) hc0 rfl h3 (fun v4 c hc1 h4 => ?_); clear h3 hc0
    refine s_if (ins := .ifCond .ge 7) (t := 31) (pc' := 27) (by decide +kernel) rfl rfl rfl h4 (fun p5 h5 => ?_) (fun p5 h5 => ?_) <;> clear h4
    · refine s_rl (i := 0) (pc' := 32) (by decide +kernel) rfl ?_
      refine s_il (i := 3) (pc' := 33) (by decide +kernel) rfl ?_
      refine s_rl (i := 0) (pc' := 34) (by decide +kernel) rfl ?_
      refine s_il (i := 3) (pc' := 35) (by decide +kernel) rfl ?_
      refine kX11_flippedX (X := 0) (Y := 0) (X' := 0) (Y' := 0) (pc' := 38) (by decide +kernel) hc1 rfl h5 (fun v5 c hc2 h6 => ?_); clear h5 hc1
      refine s_rl (i := 0) (pc' := 39) (by decide +kernel) rfl ?_
      refine s_il (i := 3) (pc' := 40) (by decide +kernel) rfl ?_
      refine kX11_flippedY (X := 0) (Y := 0) (X' := 0) (Y' := 0) (pc' := 43) (by decide +kernel) hc2 rfl h6 (fun v6 c hc3 h7 => ?_); clear h6 hc2
      refine kX11_faultsAt (X := 0) (Y := 0) (X' := 0) (Y' := 0) (pc' := 46) (by decide +kernel) hc3 rfl h7 (fun v7 w7 c hc4 h8 => ?_); clear h7 hc3
      exact (vX11_bestFlip_b46 hF hk9) hc4 h8
    · refine s_il (i := 2) (pc' := 28) (by decide +kernel) rfl ?_
      refine s_go (t := 46) (by decide +kernel) ?_
      exact (vX11_bestFlip_b46 hF hk9) hc1 h5
set_option maxRecDepth 100000 in
set_option maxHeartbeats 4000000 in
def fX11_bestFlip_l9 (fu : Nat) (sh : HS) (R : HR) : Nat → HI → Nat → Int32 → Int32 → Int32 → Option (Int32 × HI)
  | 0 => fun _ _ _ _ _ => none
  | n + 1 => fX11_bestFlip_b9 fu sh R (fX11_bestFlip_l9 fu sh R n)
set_option maxRecDepth 100000 in
set_option maxHeartbeats 4000000 in
theorem vX11_bestFlip_l9 {K J : Nat → Nat} {fu : Nat} {sh : HS} {R : HR} {F : VF} {o : (Int32 × HI)} (hF : F (.inl (some (.int o.1))) sh o.2 R) : ∀ (n : Nat) {I : HI} {l0 : Nat} {l1 : Int32} {l2 : Int32} {l3 : Int32} {d4 : Option Value} {c : Nat × Nat} (_ : c.1 ≤ 0 ∧ c.2 ≤ 0) (_ : fX11_bestFlip_l9 fu sh R n I l0 l1 l2 l3 = some o), V K J 244 9 [some (.ref l0), some (.int l1), some (.int l2), some (.int l3), d4] [] sh I R c F := by
  intro n
  induction n with
  | zero => exact fun _ h0 => nomatch h0
  | succ n ih => exact fun hc0 h0 => vX11_bestFlip_b9 hF ih hc0 h0
set_option maxRecDepth 100000 in
set_option maxHeartbeats 4000000 in
def fX11_bestFlip (fu : Nat) (sh : HS) (I : HI) (R : HR) (l0 : Nat) : Option (Int32 × HI) :=
  if isT sh l0 9 = true then
    ((fX11_faultsNow fu sh I R l0).bind fun v1 =>
    (fX11_bestFlip_l9 fu sh R fu) I l0 (-1) v1 0)
  else none
set_option maxRecDepth 100000 in
set_option maxHeartbeats 4000000 in
theorem vX11_bestFlip {K J : Nat → Nat} {fu : Nat} {sh : HS} {I : HI} {R : HR} {F : VF} {o : (Int32 × HI)} (hF : F (.inl (some (.int o.1))) sh o.2 R) {l0 : Nat} (h0 : fX11_bestFlip fu sh I R l0 = some o) : V K J 244 0 (ent 5 [.ref l0]) [] sh I R (0, 0) F := by
  unfold fX11_bestFlip at h0
  obtain ⟨-, h1⟩ := gd h0; clear h0
  have hc0 : ((0 : Nat), (0 : Nat)).1 ≤ 0 ∧ ((0 : Nat), (0 : Nat)).2 ≤ 0 := ⟨Nat.le_refl _, Nat.le_refl _⟩
  show V K J 244 0 [some (.ref l0), none, none, none, none] [] sh I R (0, 0) F
  refine s_c (v := (-1)) (pc' := 1) (by decide +kernel) ?_
  refine s_is (i := 1) (pc' := 2) (L' := [some (.ref l0), some (.int (-1)), none, none, none]) (by decide +kernel) rfl rfl ?_
  refine s_rl (i := 0) (pc' := 3) (by decide +kernel) rfl ?_
  refine kX11_faultsNow (X := 0) (Y := 0) (X' := 0) (Y' := 0) (pc' := 6) (by decide +kernel) hc0 rfl h1 (fun v1 c hc1 h2 => ?_); clear h1 hc0
  refine s_is (i := 2) (pc' := 7) (L' := [some (.ref l0), some (.int (-1)), some (.int v1), none, none]) (by decide +kernel) rfl rfl ?_
  refine s_c (v := 0) (pc' := 8) (by decide +kernel) ?_
  refine s_is (i := 3) (pc' := 9) (L' := [some (.ref l0), some (.int (-1)), some (.int v1), some (.int 0), none]) (by decide +kernel) rfl rfl ?_
  exact (vX11_bestFlip_l9 hF fu) hc1 h2
set_option maxRecDepth 100000 in
set_option maxHeartbeats 4000000 in
theorem kX11_bestFlip {K J : Nat → Nat} {fu : Nat} {sh : HS} {I : HI} {R : HR} {F : VF} {mi pc pc' X Y X' Y' : Nat} {L : VL} {rest : List Value} {c : Nat × Nat} {l0 : Nat} {ω : Type} {o : ω} {g : Int32 → HI → Option ω} (hq : cQ mi pc 244 1 pc' X Y X' Y' = true) (hc : c.1 ≤ X ∧ c.2 ≤ Y) (hr : Nat.ble (catS rest) 8 = true) (h : oH (fX11_bestFlip fu sh I R l0) g = some o) (kk : ∀ v w c', (c'.1 ≤ X' ∧ c'.2 ≤ Y') → g v w = some o → V K J mi pc' L ((.int v) :: rest) sh w R c' F) : V K J mi pc L (.ref l0 :: rest) sh I R c F := by
  obtain ⟨r, h1, h2⟩ := bnd h
  have hT : isT sh l0 9 = true := by unfold fX11_bestFlip at h1; exact (gd h1).1
  have ml : mL 244 = 5 := by decide +kernel
  have mk : mK 244 = 1 := by decide +kernel
  have mc : mC 244 = 9 := by decide +kernel
  obtain ⟨v, w⟩ := r
  refine s_call (as := [.ref l0]) (G := fun o' sh' I' R' => o' = .inl (some (.int v)) ∧ sh' = sh ∧ I' = w ∧ R' = R) hq hc rfl hr (by rw [ml]; rfl) (Or.inl rfl) (fun _ => Or.inl ⟨by rw [mc]; decide, by rw [mc]; exact isT_iff.mp hT⟩) (fun z => absurd (mk.symm.trans z) (by decide)) (by rw [ml]; exact vX11_bestFlip (F := fun o' sh' I' R' => o' = .inl (some (.int v)) ∧ sh' = sh ∧ I' = w ∧ R' = R) ⟨rfl, rfl, rfl, rfl⟩ h1) ?_ ?_ ?_
  · rintro sh' I' R' c' hc' ⟨g1, rfl, rfl, rfl⟩
    cases g1
  · rintro v' sh' I' R' c' hc' ⟨g1, rfl, rfl, rfl⟩
    cases g1
    exact kk _ _ _ hc' h2
  · rintro E' sh' I' R' ⟨g1, rfl, rfl, rfl⟩
    cases g1
set_option maxRecDepth 100000 in
set_option maxHeartbeats 4000000 in
def fX11_turnRound (fu : Nat) (sh : HS) (I : HI) (R : HR) (l0 : Nat) (l1 : Int32) : Option HI :=
  if isT sh l0 9 = true then
    ((fX11_flippedX fu sh I R l0 l1).bind fun v1 =>
    (fX11_flippedY fu sh I R l0 l1).bind fun v2 =>
    (fX11_set fu sh I R l0 l1 1 v1).bind fun w3 =>
    (fX11_set fu sh w3 R l0 l1 2 v2).bind fun w4 =>
    some w4)
  else none
set_option maxRecDepth 100000 in
set_option maxHeartbeats 4000000 in
theorem vX11_turnRound {K J : Nat → Nat} {fu : Nat} {sh : HS} {I : HI} {R : HR} {F : VF} {o : HI} (hF : F (.inl none) sh o R) {l0 : Nat} {l1 : Int32} (h0 : fX11_turnRound fu sh I R l0 l1 = some o) : V K J 245 0 (ent 4 [.ref l0, .int l1]) [] sh I R (0, 0) F := by
  unfold fX11_turnRound at h0
  obtain ⟨-, h1⟩ := gd h0; clear h0
  have hc0 : ((0 : Nat), (0 : Nat)).1 ≤ 0 ∧ ((0 : Nat), (0 : Nat)).2 ≤ 0 := ⟨Nat.le_refl _, Nat.le_refl _⟩
  show V K J 245 0 [some (.ref l0), some (.int l1), none, none] [] sh I R (0, 0) F
  refine s_rl (i := 0) (pc' := 1) (by decide +kernel) rfl ?_
  refine s_il (i := 1) (pc' := 2) (by decide +kernel) rfl ?_
  refine kX11_flippedX (X := 0) (Y := 0) (X' := 0) (Y' := 0) (pc' := 5) (by decide +kernel) hc0 rfl h1 (fun v1 c hc1 h2 => ?_); clear h1 hc0
  refine s_is (i := 2) (pc' := 6) (L' := [some (.ref l0), some (.int l1), some (.int v1), none]) (by decide +kernel) rfl rfl ?_
  refine s_rl (i := 0) (pc' := 7) (by decide +kernel) rfl ?_
  refine s_il (i := 1) (pc' := 8) (by decide +kernel) rfl ?_
  refine kX11_flippedY (X := 0) (Y := 0) (X' := 0) (Y' := 0) (pc' := 11) (by decide +kernel) hc1 rfl h2 (fun v2 c hc2 h3 => ?_); clear h2 hc1
  refine s_is (i := 3) (pc' := 12) (L' := [some (.ref l0), some (.int l1), some (.int v1), some (.int v2)]) (by decide +kernel) rfl rfl ?_
  refine s_rl (i := 0) (pc' := 13) (by decide +kernel) rfl ?_
  refine s_il (i := 1) (pc' := 14) (by decide +kernel) rfl ?_
  refine s_c (v := 1) (pc' := 15) (by decide +kernel) ?_
  refine s_il (i := 2) (pc' := 16) (by decide +kernel) rfl ?_
  refine kX11_set (X := 0) (Y := 0) (X' := 0) (Y' := 0) (pc' := 19) (by decide +kernel) hc2 rfl h3 (fun w3 c hc3 h4 => ?_); clear h3 hc2
  refine s_rl (i := 0) (pc' := 20) (by decide +kernel) rfl ?_
  refine s_il (i := 1) (pc' := 21) (by decide +kernel) rfl ?_
  refine s_c (v := 2) (pc' := 22) (by decide +kernel) ?_
  refine s_il (i := 3) (pc' := 23) (by decide +kernel) rfl ?_
  refine kX11_set (X := 0) (Y := 0) (X' := 0) (Y' := 0) (pc' := 26) (by decide +kernel) hc3 rfl h4 (fun w4 c hc4 h5 => ?_); clear h4 hc3
  have e9 := Option.some.inj h5; subst e9
  exact s_rv (X := 0) (Y := 0) (by decide +kernel) hc4 hF
set_option maxRecDepth 100000 in
set_option maxHeartbeats 4000000 in
theorem kX11_turnRound {K J : Nat → Nat} {fu : Nat} {sh : HS} {I : HI} {R : HR} {F : VF} {mi pc pc' X Y X' Y' : Nat} {L : VL} {rest : List Value} {c : Nat × Nat} {l0 : Nat} {l1 : Int32} {ω : Type} {o : ω} {g : HI → Option ω} (hq : cQ mi pc 245 2 pc' X Y X' Y' = true) (hc : c.1 ≤ X ∧ c.2 ≤ Y) (hr : Nat.ble (catS rest) 8 = true) (h : (fX11_turnRound fu sh I R l0 l1).bind g = some o) (kk : ∀ w c', (c'.1 ≤ X' ∧ c'.2 ≤ Y') → g w = some o → V K J mi pc' L (rest) sh w R c' F) : V K J mi pc L (.int l1 :: .ref l0 :: rest) sh I R c F := by
  obtain ⟨r, h1, h2⟩ := bnd h
  have hT : isT sh l0 9 = true := by unfold fX11_turnRound at h1; exact (gd h1).1
  have ml : mL 245 = 4 := by decide +kernel
  have mk : mK 245 = 1 := by decide +kernel
  have mc : mC 245 = 9 := by decide +kernel
  refine s_call (as := [.int l1, .ref l0]) (G := fun o' sh' I' R' => o' = .inl none ∧ sh' = sh ∧ I' = r ∧ R' = R) hq hc rfl hr (by rw [ml]; rfl) (Or.inl rfl) (fun _ => Or.inl ⟨by rw [mc]; decide, by rw [mc]; exact isT_iff.mp hT⟩) (fun z => absurd (mk.symm.trans z) (by decide)) (by rw [ml]; exact vX11_turnRound (F := fun o' sh' I' R' => o' = .inl none ∧ sh' = sh ∧ I' = r ∧ R' = R) ⟨rfl, rfl, rfl, rfl⟩ h1) ?_ ?_ ?_
  · rintro sh' I' R' c' hc' ⟨g1, rfl, rfl, rfl⟩
    cases g1
    exact kk _ _ hc' h2
  · rintro v' sh' I' R' c' hc' ⟨g1, rfl, rfl, rfl⟩
    cases g1
  · rintro E' sh' I' R' ⟨g1, rfl, rfl, rfl⟩
    cases g1
set_option maxRecDepth 100000 in
set_option maxHeartbeats 4000000 in
def fX11_mend_b29 (fu : Nat) (sh : HS) (R : HR) (k29 : HI → Nat → Int32 → Int32 → Option (Int32 × HI)) (I : HI) (l0 : Nat) (l1 : Int32) (l2 : Int32) : Option (Int32 × HI) :=
  if l1 = (-1) then
    (some (l2, I))
  else
    ((fX11_turnRound fu sh I R l0 l1).bind fun w4 =>
    oH (fX11_bestFlip fu sh w4 R l0) fun v5 w5 =>
    k29 w5 l0 v5 (l2 + 1))
set_option maxRecDepth 100000 in
set_option maxHeartbeats 4000000 in
theorem vX11_mend_b29 {K J : Nat → Nat} {fu : Nat} {sh : HS} {R : HR} {F : VF} {o : (Int32 × HI)} (hF : F (.inl (some (.int o.1))) sh o.2 R) {k29 : HI → Nat → Int32 → Int32 → Option (Int32 × HI)} (hk29 : ∀ {I : HI} {l0 : Nat} {l1 : Int32} {l2 : Int32}  {c : Nat × Nat}, (c.1 ≤ 0 ∧ c.2 ≤ 0) → k29 I l0 l1 l2 = some o → V K J 246 29 [some (.ref l0), some (.int l1), some (.int l2)] [] sh I R c F) {I : HI} {l0 : Nat} {l1 : Int32} {l2 : Int32} {c : Nat × Nat} (hc0 : c.1 ≤ 0 ∧ c.2 ≤ 0) (h0 : fX11_mend_b29 fu sh R k29 I l0 l1 l2 = some o) : V K J 246 29 [some (.ref l0), some (.int l1), some (.int l2)] [] sh I R c F := by
  unfold fX11_mend_b29 at h0
  refine s_il (i := 1) (pc' := 30) (by decide +kernel) rfl ?_
  refine s_c (v := (-1)) (pc' := 31) (by decide +kernel) ?_
  refine s_if (ins := .if_icmp .eq 19) (t := 50) (pc' := 34) (by decide +kernel) rfl rfl rfl h0 (fun p1 h1 => ?_) (fun p1 h1 => ?_) <;> clear h0
  · refine s_il (i := 2) (pc' := 51) (by decide +kernel) rfl ?_
    have e9 := Option.some.inj h1; subst e9
    exact s_ri (X := 0) (Y := 0) (by decide +kernel) hc0 hF
  · refine s_rl (i := 0) (pc' := 35) (by decide +kernel) rfl ?_
    refine s_il (i := 1) (pc' := 36) (by decide +kernel) rfl ?_
    refine kX11_turnRound (X := 0) (Y := 0) (X' := 0) (Y' := 0) (pc' := 39) (by decide +kernel) hc0 rfl h1 (fun w4 c hc1 h2 => ?_); clear h1 hc0
    refine s_inc (i := 2) (z := 1) (pc' := 42) (L' := [some (.ref l0), some (.int l1), some (.int (l2 + 1))]) (by decide +kernel) rfl rfl rfl ?_
    refine s_rl (i := 0) (pc' := 43) (by decide +kernel) rfl ?_
    refine kX11_bestFlip (X := 0) (Y := 0) (X' := 0) (Y' := 0) (pc' := 46) (by decide +kernel) hc1 rfl h2 (fun v5 w5 c hc2 h3 => ?_); clear h2 hc1
    refine s_is (i := 1) (pc' := 47) (L' := [some (.ref l0), some (.int v5), some (.int (l2 + 1))]) (by decide +kernel) rfl rfl ?_
    refine s_go (t := 29) (by decide +kernel) ?_
    exact hk29 hc2 h3
set_option maxRecDepth 100000 in
set_option maxHeartbeats 4000000 in
def fX11_mend_l29 (fu : Nat) (sh : HS) (R : HR) : Nat → HI → Nat → Int32 → Int32 → Option (Int32 × HI)
  | 0 => fun _ _ _ _ => none
  | n + 1 => fX11_mend_b29 fu sh R (fX11_mend_l29 fu sh R n)
set_option maxRecDepth 100000 in
set_option maxHeartbeats 4000000 in
theorem vX11_mend_l29 {K J : Nat → Nat} {fu : Nat} {sh : HS} {R : HR} {F : VF} {o : (Int32 × HI)} (hF : F (.inl (some (.int o.1))) sh o.2 R) : ∀ (n : Nat) {I : HI} {l0 : Nat} {l1 : Int32} {l2 : Int32} {c : Nat × Nat} (_ : c.1 ≤ 0 ∧ c.2 ≤ 0) (_ : fX11_mend_l29 fu sh R n I l0 l1 l2 = some o), V K J 246 29 [some (.ref l0), some (.int l1), some (.int l2)] [] sh I R c F := by
  intro n
  induction n with
  | zero => exact fun _ h0 => nomatch h0
  | succ n ih => exact fun hc0 h0 => vX11_mend_b29 hF ih hc0 h0
set_option maxRecDepth 100000 in
set_option maxHeartbeats 4000000 in
def fX11_mend (fu : Nat) (sh : HS) (I : HI) (R : HR) (l0 : Nat) : Option (Int32 × HI) :=
  if isT sh l0 9 = true then
    (oH (fX11_isWrong fu sh I R l0 1) fun v1 w1 =>
    if v1 = 0 then
      (oH (fX11_bestFlip fu sh w1 R l0) fun v2 w2 =>
      if v2 = (-1) then
        (some ((-2), w2))
      else
        ((fX11_remember fu sh w2 R l0).bind fun w3 =>
        (fX11_mend_l29 fu sh R fu) w3 l0 v2 0))
    else
      (some (0, w1)))
  else none
set_option maxRecDepth 100000 in
set_option maxHeartbeats 4000000 in
theorem vX11_mend {K J : Nat → Nat} {fu : Nat} {sh : HS} {I : HI} {R : HR} {F : VF} {o : (Int32 × HI)} (hF : F (.inl (some (.int o.1))) sh o.2 R) {l0 : Nat} (h0 : fX11_mend fu sh I R l0 = some o) : V K J 246 0 (ent 3 [.ref l0]) [] sh I R (0, 0) F := by
  unfold fX11_mend at h0
  obtain ⟨-, h1⟩ := gd h0; clear h0
  have hc0 : ((0 : Nat), (0 : Nat)).1 ≤ 0 ∧ ((0 : Nat), (0 : Nat)).2 ≤ 0 := ⟨Nat.le_refl _, Nat.le_refl _⟩
  show V K J 246 0 [some (.ref l0), none, none] [] sh I R (0, 0) F
  refine s_rl (i := 0) (pc' := 1) (by decide +kernel) rfl ?_
  refine s_c (v := 1) (pc' := 2) (by decide +kernel) ?_
  refine kX11_isWrong (X := 0) (Y := 0) (X' := 0) (Y' := 0) (pc' := 5) (by decide +kernel) hc0 rfl h1 (fun v1 w1 c hc1 h2 => ?_); clear h1 hc0
  refine s_if (ins := .ifCond .eq 5) (t := 10) (pc' := 8) (by decide +kernel) rfl rfl rfl h2 (fun p3 h3 => ?_) (fun p3 h3 => ?_) <;> clear h2
  · refine s_rl (i := 0) (pc' := 11) (by decide +kernel) rfl ?_
    refine kX11_bestFlip (X := 0) (Y := 0) (X' := 0) (Y' := 0) (pc' := 14) (by decide +kernel) hc1 rfl h3 (fun v2 w2 c hc2 h4 => ?_); clear h3 hc1
    refine s_is (i := 1) (pc' := 15) (L' := [some (.ref l0), some (.int v2), none]) (by decide +kernel) rfl rfl ?_
    refine s_il (i := 1) (pc' := 16) (by decide +kernel) rfl ?_
    refine s_c (v := (-1)) (pc' := 17) (by decide +kernel) ?_
    refine s_ifn (ins := .if_icmp .ne 6) (t := 23) (pc' := 20) (by decide +kernel) rfl rfl rfl h4 (fun p5 h5 => ?_) (fun p5 h5 => ?_) <;> clear h4
    · refine s_rl (i := 0) (pc' := 24) (by decide +kernel) rfl ?_
      refine kX11_remember (X := 0) (Y := 0) (X' := 0) (Y' := 0) (pc' := 27) (by decide +kernel) hc2 rfl h5 (fun w3 c hc3 h6 => ?_); clear h5 hc2
      refine s_c (v := 0) (pc' := 28) (by decide +kernel) ?_
      refine s_is (i := 2) (pc' := 29) (L' := [some (.ref l0), some (.int v2), some (.int 0)]) (by decide +kernel) rfl rfl ?_
      exact (vX11_mend_l29 hF fu) hc3 h6
    · refine s_c (v := (-2)) (pc' := 22) (by decide +kernel) ?_
      have e9 := Option.some.inj h5; subst e9
      exact s_ri (X := 0) (Y := 0) (by decide +kernel) hc2 hF
  · refine s_c (v := 0) (pc' := 9) (by decide +kernel) ?_
    have e9 := Option.some.inj h3; subst e9
    exact s_ri (X := 0) (Y := 0) (by decide +kernel) hc1 hF
set_option maxRecDepth 100000 in
set_option maxHeartbeats 4000000 in
theorem kX11_mend {K J : Nat → Nat} {fu : Nat} {sh : HS} {I : HI} {R : HR} {F : VF} {mi pc pc' X Y X' Y' : Nat} {L : VL} {rest : List Value} {c : Nat × Nat} {l0 : Nat} {ω : Type} {o : ω} {g : Int32 → HI → Option ω} (hq : cQ mi pc 246 1 pc' X Y X' Y' = true) (hc : c.1 ≤ X ∧ c.2 ≤ Y) (hr : Nat.ble (catS rest) 8 = true) (h : oH (fX11_mend fu sh I R l0) g = some o) (kk : ∀ v w c', (c'.1 ≤ X' ∧ c'.2 ≤ Y') → g v w = some o → V K J mi pc' L ((.int v) :: rest) sh w R c' F) : V K J mi pc L (.ref l0 :: rest) sh I R c F := by
  obtain ⟨r, h1, h2⟩ := bnd h
  have hT : isT sh l0 9 = true := by unfold fX11_mend at h1; exact (gd h1).1
  have ml : mL 246 = 3 := by decide +kernel
  have mk : mK 246 = 1 := by decide +kernel
  have mc : mC 246 = 9 := by decide +kernel
  obtain ⟨v, w⟩ := r
  refine s_call (as := [.ref l0]) (G := fun o' sh' I' R' => o' = .inl (some (.int v)) ∧ sh' = sh ∧ I' = w ∧ R' = R) hq hc rfl hr (by rw [ml]; rfl) (Or.inl rfl) (fun _ => Or.inl ⟨by rw [mc]; decide, by rw [mc]; exact isT_iff.mp hT⟩) (fun z => absurd (mk.symm.trans z) (by decide)) (by rw [ml]; exact vX11_mend (F := fun o' sh' I' R' => o' = .inl (some (.int v)) ∧ sh' = sh ∧ I' = w ∧ R' = R) ⟨rfl, rfl, rfl, rfl⟩ h1) ?_ ?_ ?_
  · rintro sh' I' R' c' hc' ⟨g1, rfl, rfl, rfl⟩
    cases g1
  · rintro v' sh' I' R' c' hc' ⟨g1, rfl, rfl, rfl⟩
    cases g1
    exact kk _ _ _ hc' h2
  · rintro E' sh' I' R' ⟨g1, rfl, rfl, rfl⟩
    cases g1
set_option maxRecDepth 100000 in
set_option maxHeartbeats 4000000 in
def fX11_layOrder_b10 (fu : Nat) (sh : HS) (R : HR) (k10 : HI → Nat → Int32 → Int32 → Int32 → Int32 → Option HI) (k51 : HI → Nat → Int32 → Int32 → Int32 → Option HI) (I : HI) (l0 : Nat) (l1 : Int32) (l2 : Int32) (l3 : Int32) (l4 : Int32) : Option HI :=
  if 6 ≤ l4 then
    (k51 I l0 l1 l2 l3)
  else
    ((oR sh R l0 9 18).bind fun v1 =>
    (oR sh R l0 9 16).bind fun v2 =>
    (oA sh I v2 l3).bind fun v3 =>
    (oA sh I v1 ((6 * (l1 + v3)) + l4)).bind fun v4 =>
    (fX11_set fu sh I R l0 (l1 + l3) l4 v4).bind fun w5 =>
    k10 w5 l0 l1 l2 l3 (l4 + 1))
set_option maxRecDepth 100000 in
set_option maxHeartbeats 4000000 in
theorem vX11_layOrder_b10 {K J : Nat → Nat} {fu : Nat} {sh : HS} {R : HR} {F : VF} {o : HI} (hF : F (.inl none) sh o R) {k10 : HI → Nat → Int32 → Int32 → Int32 → Int32 → Option HI} {k51 : HI → Nat → Int32 → Int32 → Int32 → Option HI} (hk10 : ∀ {I : HI} {l0 : Nat} {l1 : Int32} {l2 : Int32} {l3 : Int32} {l4 : Int32}  {c : Nat × Nat}, (c.1 ≤ 0 ∧ c.2 ≤ 0) → k10 I l0 l1 l2 l3 l4 = some o → V K J 247 10 [some (.ref l0), some (.int l1), some (.int l2), some (.int l3), some (.int l4)] [] sh I R c F) (hk51 : ∀ {I : HI} {l0 : Nat} {l1 : Int32} {l2 : Int32} {l3 : Int32} {d4 : Option Value} {c : Nat × Nat}, (c.1 ≤ 0 ∧ c.2 ≤ 0) → k51 I l0 l1 l2 l3 = some o → V K J 247 51 [some (.ref l0), some (.int l1), some (.int l2), some (.int l3), d4] [] sh I R c F) {I : HI} {l0 : Nat} {l1 : Int32} {l2 : Int32} {l3 : Int32} {l4 : Int32} {c : Nat × Nat} (hc0 : c.1 ≤ 0 ∧ c.2 ≤ 0) (h0 : fX11_layOrder_b10 fu sh R k10 k51 I l0 l1 l2 l3 l4 = some o) : V K J 247 10 [some (.ref l0), some (.int l1), some (.int l2), some (.int l3), some (.int l4)] [] sh I R c F := by
  unfold fX11_layOrder_b10 at h0
  refine s_il (i := 4) (pc' := 12) (by decide +kernel) rfl ?_
  refine s_c (v := 6) (pc' := 14) (by decide +kernel) ?_
  refine s_if (ins := .if_icmp .ge 37) (t := 51) (pc' := 17) (by decide +kernel) rfl rfl rfl h0 (fun p1 h1 => ?_) (fun p1 h1 => ?_) <;> clear h0
  · exact hk51 hc0 h1
  · refine s_rl (i := 0) (pc' := 18) (by decide +kernel) rfl ?_
    refine s_il (i := 1) (pc' := 19) (by decide +kernel) rfl ?_
    refine s_il (i := 3) (pc' := 20) (by decide +kernel) rfl ?_
    refine s_a (ins := .iadd) (pc' := 21) (by decide +kernel) rfl ?_
    refine s_il (i := 4) (pc' := 23) (by decide +kernel) rfl ?_
    refine s_rl (i := 0) (pc' := 24) (by decide +kernel) rfl ?_
    refine s_gR (t := 9) (j := 18) (pc' := 27) (by decide +kernel) h1 (fun v1 h2 => ?_); clear h1
    refine s_c (v := 6) (pc' := 29) (by decide +kernel) ?_
    refine s_il (i := 1) (pc' := 30) (by decide +kernel) rfl ?_
    refine s_rl (i := 0) (pc' := 31) (by decide +kernel) rfl ?_
    refine s_gR (t := 9) (j := 16) (pc' := 34) (by decide +kernel) h2 (fun v2 h3 => ?_); clear h2
    refine s_il (i := 3) (pc' := 35) (by decide +kernel) rfl ?_
    refine s_al (pc' := 36) (by decide +kernel) h3 (fun v3 h4 => ?_); clear h3
    refine s_a (ins := .iadd) (pc' := 37) (by decide +kernel) rfl ?_
    refine s_a (ins := .imul) (pc' := 38) (by decide +kernel) rfl ?_
    refine s_il (i := 4) (pc' := 40) (by decide +kernel) rfl ?_
    refine s_a (ins := .iadd) (pc' := 41) (by decide +kernel) rfl ?_
    refine s_al (pc' := 42) (by decide +kernel) h4 (fun v4 h5 => ?_); clear h4
    refine kX11_set (X := 0) (Y := 0) (X' := 0) (Y' := 0) (pc' := 45) (by decide +kernel) hc0 rfl h5 (fun w5 c hc1 h6 => ?_); clear h5 hc0
    refine s_inc (i := 4) (z := 1) (pc' := 48) (L' := [some (.ref l0), some (.int l1), some (.int l2), some (.int l3), some (.int (l4 + 1))]) (by decide +kernel) rfl rfl rfl ?_
    refine s_go (t := 10) (by decide +kernel) ?_
    exact hk10 hc1 h6
set_option maxRecDepth 100000 in
set_option maxHeartbeats 4000000 in
def fX11_layOrder_l10 (fu : Nat) (sh : HS) (R : HR) (k51 : HI → Nat → Int32 → Int32 → Int32 → Option HI) : Nat → HI → Nat → Int32 → Int32 → Int32 → Int32 → Option HI
  | 0 => fun _ _ _ _ _ _ => none
  | n + 1 => fX11_layOrder_b10 fu sh R (fX11_layOrder_l10 fu sh R k51 n) k51
set_option maxRecDepth 100000 in
set_option maxHeartbeats 4000000 in
theorem vX11_layOrder_l10 {K J : Nat → Nat} {fu : Nat} {sh : HS} {R : HR} {F : VF} {o : HI} (hF : F (.inl none) sh o R) {k51 : HI → Nat → Int32 → Int32 → Int32 → Option HI} (hk51 : ∀ {I : HI} {l0 : Nat} {l1 : Int32} {l2 : Int32} {l3 : Int32} {d4 : Option Value} {c : Nat × Nat}, (c.1 ≤ 0 ∧ c.2 ≤ 0) → k51 I l0 l1 l2 l3 = some o → V K J 247 51 [some (.ref l0), some (.int l1), some (.int l2), some (.int l3), d4] [] sh I R c F) : ∀ (n : Nat) {I : HI} {l0 : Nat} {l1 : Int32} {l2 : Int32} {l3 : Int32} {l4 : Int32} {c : Nat × Nat} (_ : c.1 ≤ 0 ∧ c.2 ≤ 0) (_ : fX11_layOrder_l10 fu sh R k51 n I l0 l1 l2 l3 l4 = some o), V K J 247 10 [some (.ref l0), some (.int l1), some (.int l2), some (.int l3), some (.int l4)] [] sh I R c F := by
  intro n
  induction n with
  | zero => exact fun _ h0 => nomatch h0
  | succ n ih => exact fun hc0 h0 => vX11_layOrder_b10 hF ih hk51 hc0 h0
set_option maxRecDepth 100000 in
set_option maxHeartbeats 4000000 in
def fX11_layOrder_b51 (fu : Nat) (sh : HS) (R : HR) (k2 : HI → Nat → Int32 → Int32 → Int32 → Option HI) (I : HI) (l0 : Nat) (l1 : Int32) (l2 : Int32) (l3 : Int32) : Option HI :=
  k2 I l0 l1 l2 (l3 + 1)
set_option maxRecDepth 100000 in
set_option maxHeartbeats 4000000 in
theorem vX11_layOrder_b51 {K J : Nat → Nat} {fu : Nat} {sh : HS} {R : HR} {F : VF} {o : HI} (hF : F (.inl none) sh o R) {k2 : HI → Nat → Int32 → Int32 → Int32 → Option HI} (hk2 : ∀ {I : HI} {l0 : Nat} {l1 : Int32} {l2 : Int32} {l3 : Int32} {d4 : Option Value} {c : Nat × Nat}, (c.1 ≤ 0 ∧ c.2 ≤ 0) → k2 I l0 l1 l2 l3 = some o → V K J 247 2 [some (.ref l0), some (.int l1), some (.int l2), some (.int l3), d4] [] sh I R c F) {I : HI} {l0 : Nat} {l1 : Int32} {l2 : Int32} {l3 : Int32} {d4 : Option Value} {c : Nat × Nat} (hc0 : c.1 ≤ 0 ∧ c.2 ≤ 0) (h0 : fX11_layOrder_b51 fu sh R k2 I l0 l1 l2 l3 = some o) : V K J 247 51 [some (.ref l0), some (.int l1), some (.int l2), some (.int l3), d4] [] sh I R c F := by
  unfold fX11_layOrder_b51 at h0
  refine s_inc (i := 3) (z := 1) (pc' := 54) (L' := [some (.ref l0), some (.int l1), some (.int l2), some (.int (l3 + 1)), d4]) (by decide +kernel) rfl rfl rfl ?_
  refine s_go (t := 2) (by decide +kernel) ?_
  exact hk2 hc0 h0
set_option maxRecDepth 100000 in
set_option maxHeartbeats 4000000 in
def fX11_layOrder_b2 (fu : Nat) (sh : HS) (R : HR) (k2 : HI → Nat → Int32 → Int32 → Int32 → Option HI) (I : HI) (l0 : Nat) (l1 : Int32) (l2 : Int32) (l3 : Int32) : Option HI :=
  if l2 ≤ l3 then
    (some I)
  else
    ((fX11_layOrder_l10 fu sh R (fX11_layOrder_b51 fu sh R k2) fu) I l0 l1 l2 l3 0)
set_option maxRecDepth 100000 in
set_option maxHeartbeats 4000000 in
theorem vX11_layOrder_b2 {K J : Nat → Nat} {fu : Nat} {sh : HS} {R : HR} {F : VF} {o : HI} (hF : F (.inl none) sh o R) {k2 : HI → Nat → Int32 → Int32 → Int32 → Option HI} (hk2 : ∀ {I : HI} {l0 : Nat} {l1 : Int32} {l2 : Int32} {l3 : Int32} {d4 : Option Value} {c : Nat × Nat}, (c.1 ≤ 0 ∧ c.2 ≤ 0) → k2 I l0 l1 l2 l3 = some o → V K J 247 2 [some (.ref l0), some (.int l1), some (.int l2), some (.int l3), d4] [] sh I R c F) {I : HI} {l0 : Nat} {l1 : Int32} {l2 : Int32} {l3 : Int32} {d4 : Option Value} {c : Nat × Nat} (hc0 : c.1 ≤ 0 ∧ c.2 ≤ 0) (h0 : fX11_layOrder_b2 fu sh R k2 I l0 l1 l2 l3 = some o) : V K J 247 2 [some (.ref l0), some (.int l1), some (.int l2), some (.int l3), d4] [] sh I R c F := by
  unfold fX11_layOrder_b2 at h0
  refine s_il (i := 3) (pc' := 3) (by decide +kernel) rfl ?_
  refine s_il (i := 2) (pc' := 4) (by decide +kernel) rfl ?_
  refine s_if (ins := .if_icmp .ge 53) (t := 57) (pc' := 7) (by decide +kernel) rfl rfl rfl h0 (fun p1 h1 => ?_) (fun p1 h1 => ?_) <;> clear h0
  · have e9 := Option.some.inj h1; subst e9
    exact s_rv (X := 0) (Y := 0) (by decide +kernel) hc0 hF
  · refine s_c (v := 0) (pc' := 8) (by decide +kernel) ?_
    refine s_is (i := 4) (pc' := 10) (L' := [some (.ref l0), some (.int l1), some (.int l2), some (.int l3), some (.int 0)]) (by decide +kernel) rfl rfl ?_
    exact (vX11_layOrder_l10 hF (vX11_layOrder_b51 hF hk2) fu) hc0 h1
set_option maxRecDepth 100000 in
set_option maxHeartbeats 4000000 in
def fX11_layOrder_l2 (fu : Nat) (sh : HS) (R : HR) : Nat → HI → Nat → Int32 → Int32 → Int32 → Option HI
  | 0 => fun _ _ _ _ _ => none
  | n + 1 => fX11_layOrder_b2 fu sh R (fX11_layOrder_l2 fu sh R n)
set_option maxRecDepth 100000 in
set_option maxHeartbeats 4000000 in
theorem vX11_layOrder_l2 {K J : Nat → Nat} {fu : Nat} {sh : HS} {R : HR} {F : VF} {o : HI} (hF : F (.inl none) sh o R) : ∀ (n : Nat) {I : HI} {l0 : Nat} {l1 : Int32} {l2 : Int32} {l3 : Int32} {d4 : Option Value} {c : Nat × Nat} (_ : c.1 ≤ 0 ∧ c.2 ≤ 0) (_ : fX11_layOrder_l2 fu sh R n I l0 l1 l2 l3 = some o), V K J 247 2 [some (.ref l0), some (.int l1), some (.int l2), some (.int l3), d4] [] sh I R c F := by
  intro n
  induction n with
  | zero => exact fun _ h0 => nomatch h0
  | succ n ih => exact fun hc0 h0 => vX11_layOrder_b2 hF ih hc0 h0
set_option maxRecDepth 100000 in
set_option maxHeartbeats 4000000 in
def fX11_layOrder (fu : Nat) (sh : HS) (I : HI) (R : HR) (l0 : Nat) (l1 : Int32) (l2 : Int32) : Option HI :=
  if isT sh l0 9 = true then
    ((fX11_layOrder_l2 fu sh R fu) I l0 l1 l2 0)
  else none
set_option maxRecDepth 100000 in
set_option maxHeartbeats 4000000 in
theorem vX11_layOrder {K J : Nat → Nat} {fu : Nat} {sh : HS} {I : HI} {R : HR} {F : VF} {o : HI} (hF : F (.inl none) sh o R) {l0 : Nat} {l1 : Int32} {l2 : Int32} (h0 : fX11_layOrder fu sh I R l0 l1 l2 = some o) : V K J 247 0 (ent 5 [.ref l0, .int l1, .int l2]) [] sh I R (0, 0) F := by
  unfold fX11_layOrder at h0
  obtain ⟨-, h1⟩ := gd h0; clear h0
  have hc0 : ((0 : Nat), (0 : Nat)).1 ≤ 0 ∧ ((0 : Nat), (0 : Nat)).2 ≤ 0 := ⟨Nat.le_refl _, Nat.le_refl _⟩
  show V K J 247 0 [some (.ref l0), some (.int l1), some (.int l2), none, none] [] sh I R (0, 0) F
  refine s_c (v := 0) (pc' := 1) (by decide +kernel) ?_
  refine s_is (i := 3) (pc' := 2) (L' := [some (.ref l0), some (.int l1), some (.int l2), some (.int 0), none]) (by decide +kernel) rfl rfl ?_
  exact (vX11_layOrder_l2 hF fu) hc0 h1
set_option maxRecDepth 100000 in
set_option maxHeartbeats 4000000 in
theorem kX11_layOrder {K J : Nat → Nat} {fu : Nat} {sh : HS} {I : HI} {R : HR} {F : VF} {mi pc pc' X Y X' Y' : Nat} {L : VL} {rest : List Value} {c : Nat × Nat} {l0 : Nat} {l1 : Int32} {l2 : Int32} {ω : Type} {o : ω} {g : HI → Option ω} (hq : cQ mi pc 247 3 pc' X Y X' Y' = true) (hc : c.1 ≤ X ∧ c.2 ≤ Y) (hr : Nat.ble (catS rest) 8 = true) (h : (fX11_layOrder fu sh I R l0 l1 l2).bind g = some o) (kk : ∀ w c', (c'.1 ≤ X' ∧ c'.2 ≤ Y') → g w = some o → V K J mi pc' L (rest) sh w R c' F) : V K J mi pc L (.int l2 :: .int l1 :: .ref l0 :: rest) sh I R c F := by
  obtain ⟨r, h1, h2⟩ := bnd h
  have hT : isT sh l0 9 = true := by unfold fX11_layOrder at h1; exact (gd h1).1
  have ml : mL 247 = 5 := by decide +kernel
  have mk : mK 247 = 1 := by decide +kernel
  have mc : mC 247 = 9 := by decide +kernel
  refine s_call (as := [.int l2, .int l1, .ref l0]) (G := fun o' sh' I' R' => o' = .inl none ∧ sh' = sh ∧ I' = r ∧ R' = R) hq hc rfl hr (by rw [ml]; rfl) (Or.inl rfl) (fun _ => Or.inl ⟨by rw [mc]; decide, by rw [mc]; exact isT_iff.mp hT⟩) (fun z => absurd (mk.symm.trans z) (by decide)) (by rw [ml]; exact vX11_layOrder (F := fun o' sh' I' R' => o' = .inl none ∧ sh' = sh ∧ I' = r ∧ R' = R) ⟨rfl, rfl, rfl, rfl⟩ h1) ?_ ?_ ?_
  · rintro sh' I' R' c' hc' ⟨g1, rfl, rfl, rfl⟩
    cases g1
    exact kk _ _ hc' h2
  · rintro v' sh' I' R' c' hc' ⟨g1, rfl, rfl, rfl⟩
    cases g1
  · rintro E' sh' I' R' ⟨g1, rfl, rfl, rfl⟩
    cases g1
set_option maxRecDepth 100000 in
set_option maxHeartbeats 4000000 in
def fX11_nextOrder_b4 (fu : Nat) (sh : HS) (R : HR) (k4 : HI → Nat → Int32 → Int32 → Option (Int32 × HI)) (k31 : HI → Nat → Int32 → Int32 → Option (Int32 × HI)) (I : HI) (l0 : Nat) (l1 : Int32) (l2 : Int32) : Option (Int32 × HI) :=
  if l2 < 0 then
    (k31 I l0 l1 l2)
  else
    ((oR sh R l0 9 16).bind fun v1 =>
    (oA sh I v1 l2).bind fun v2 =>
    (oR sh R l0 9 16).bind fun v3 =>
    (oA sh I v3 (l2 + 1)).bind fun v4 =>
    if v2 ≤ v4 then
      (k31 I l0 l1 l2)
    else
      (k4 I l0 l1 (l2 + (-1))))
set_option maxRecDepth 100000 in
set_option maxHeartbeats 4000000 in
theorem vX11_nextOrder_b4 {K J : Nat → Nat} {fu : Nat} {sh : HS} {R : HR} {F : VF} {o : (Int32 × HI)} (hF : F (.inl (some (.int o.1))) sh o.2 R) {k4 : HI → Nat → Int32 → Int32 → Option (Int32 × HI)} {k31 : HI → Nat → Int32 → Int32 → Option (Int32 × HI)} (hk4 : ∀ {I : HI} {l0 : Nat} {l1 : Int32} {l2 : Int32} {d3 d4 d5 d6 : Option Value} {c : Nat × Nat}, (c.1 ≤ 0 ∧ c.2 ≤ 0) → k4 I l0 l1 l2 = some o → V K J 248 4 [some (.ref l0), some (.int l1), some (.int l2), d3, d4, d5, d6] [] sh I R c F) (hk31 : ∀ {I : HI} {l0 : Nat} {l1 : Int32} {l2 : Int32} {d3 d4 d5 d6 : Option Value} {c : Nat × Nat}, (c.1 ≤ 0 ∧ c.2 ≤ 0) → k31 I l0 l1 l2 = some o → V K J 248 31 [some (.ref l0), some (.int l1), some (.int l2), d3, d4, d5, d6] [] sh I R c F) {I : HI} {l0 : Nat} {l1 : Int32} {l2 : Int32} {d3 d4 d5 d6 : Option Value} {c : Nat × Nat} (hc0 : c.1 ≤ 0 ∧ c.2 ≤ 0) (h0 : fX11_nextOrder_b4 fu sh R k4 k31 I l0 l1 l2 = some o) : V K J 248 4 [some (.ref l0), some (.int l1), some (.int l2), d3, d4, d5, d6] [] sh I R c F := by
  unfold fX11_nextOrder_b4 at h0
  refine s_il (i := 2) (pc' := 5) (by decide +kernel) rfl ?_
  refine s_if (ins := .ifCond .lt 26) (t := 31) (pc' := 8) (by decide +kernel) rfl rfl rfl h0 (fun p1 h1 => ?_) (fun p1 h1 => ?_) <;> clear h0
  · exact hk31 hc0 h1
  · refine s_rl (i := 0) (pc' := 9) (by decide +kernel) rfl ?_
    refine s_gR (t := 9) (j := 16) (pc' := 12) (by decide +kernel) h1 (fun v1 h2 => ?_); clear h1
    refine s_il (i := 2) (pc' := 13) (by decide +kernel) rfl ?_
    refine s_al (pc' := 14) (by decide +kernel) h2 (fun v2 h3 => ?_); clear h2
    refine s_rl (i := 0) (pc' := 15) (by decide +kernel) rfl ?_
    refine s_gR (t := 9) (j := 16) (pc' := 18) (by decide +kernel) h3 (fun v3 h4 => ?_); clear h3
    refine s_il (i := 2) (pc' := 19) (by decide +kernel) rfl ?_
    refine s_c (v := 1) (pc' := 20) (by decide +kernel) ?_
    refine s_a (ins := .iadd) (pc' := 21) (by decide +kernel) rfl ?_
    refine s_al (pc' := 22) (by decide +kernel) h4 (fun v4 h5 => ?_); clear h4
    refine s_if (ins := .if_icmp .le 9) (t := 31) (pc' := 25) (by decide +kernel) rfl rfl rfl h5 (fun p6 h6 => ?_) (fun p6 h6 => ?_) <;> clear h5
    · exact hk31 hc0 h6
    · refine s_inc (i := 2) (z := (-1)) (pc' := 28) (L' := [some (.ref l0), some (.int l1), some (.int (l2 + (-1))), d3, d4, d5, d6]) (by decide +kernel) rfl rfl rfl ?_
      refine s_go (t := 4) (by decide +kernel) ?_
      exact hk4 hc0 h6
set_option maxRecDepth 100000 in
set_option maxHeartbeats 4000000 in
def fX11_nextOrder_l4 (fu : Nat) (sh : HS) (R : HR) (k31 : HI → Nat → Int32 → Int32 → Option (Int32 × HI)) : Nat → HI → Nat → Int32 → Int32 → Option (Int32 × HI)
  | 0 => fun _ _ _ _ => none
  | n + 1 => fX11_nextOrder_b4 fu sh R (fX11_nextOrder_l4 fu sh R k31 n) k31
set_option maxRecDepth 100000 in
set_option maxHeartbeats 4000000 in
theorem vX11_nextOrder_l4 {K J : Nat → Nat} {fu : Nat} {sh : HS} {R : HR} {F : VF} {o : (Int32 × HI)} (hF : F (.inl (some (.int o.1))) sh o.2 R) {k31 : HI → Nat → Int32 → Int32 → Option (Int32 × HI)} (hk31 : ∀ {I : HI} {l0 : Nat} {l1 : Int32} {l2 : Int32} {d3 d4 d5 d6 : Option Value} {c : Nat × Nat}, (c.1 ≤ 0 ∧ c.2 ≤ 0) → k31 I l0 l1 l2 = some o → V K J 248 31 [some (.ref l0), some (.int l1), some (.int l2), d3, d4, d5, d6] [] sh I R c F) : ∀ (n : Nat) {I : HI} {l0 : Nat} {l1 : Int32} {l2 : Int32} {d3 d4 d5 d6 : Option Value} {c : Nat × Nat} (_ : c.1 ≤ 0 ∧ c.2 ≤ 0) (_ : fX11_nextOrder_l4 fu sh R k31 n I l0 l1 l2 = some o), V K J 248 4 [some (.ref l0), some (.int l1), some (.int l2), d3, d4, d5, d6] [] sh I R c F := by
  intro n
  induction n with
  | zero => exact fun _ h0 => nomatch h0
  | succ n ih => exact fun hc0 h0 => vX11_nextOrder_b4 hF ih hk31 hc0 h0
set_option maxRecDepth 100000 in
set_option maxHeartbeats 4000000 in
def fX11_nextOrder_b41 (fu : Nat) (sh : HS) (R : HR) (k41 : HI → Nat → Int32 → Int32 → Int32 → Option (Int32 × HI)) (k62 : HI → Nat → Int32 → Int32 → Int32 → Option (Int32 × HI)) (I : HI) (l0 : Nat) (l1 : Int32) (l2 : Int32) (l3 : Int32) : Option (Int32 × HI) :=
  (oR sh R l0 9 16).bind fun v5 =>
  (oA sh I v5 l3).bind fun v6 =>
  (oR sh R l0 9 16).bind fun v7 =>
  (oA sh I v7 l2).bind fun v8 =>
  if v8 ≤ v6 then
    (k62 I l0 l1 l2 l3)
  else
    (k41 I l0 l1 l2 (l3 + (-1)))
set_option maxRecDepth 100000 in
set_option maxHeartbeats 4000000 in
theorem vX11_nextOrder_b41 {K J : Nat → Nat} {fu : Nat} {sh : HS} {R : HR} {F : VF} {o : (Int32 × HI)} (hF : F (.inl (some (.int o.1))) sh o.2 R) {k41 : HI → Nat → Int32 → Int32 → Int32 → Option (Int32 × HI)} {k62 : HI → Nat → Int32 → Int32 → Int32 → Option (Int32 × HI)} (hk41 : ∀ {I : HI} {l0 : Nat} {l1 : Int32} {l2 : Int32} {l3 : Int32} {d4 d5 d6 : Option Value} {c : Nat × Nat}, (c.1 ≤ 0 ∧ c.2 ≤ 0) → k41 I l0 l1 l2 l3 = some o → V K J 248 41 [some (.ref l0), some (.int l1), some (.int l2), some (.int l3), d4, d5, d6] [] sh I R c F) (hk62 : ∀ {I : HI} {l0 : Nat} {l1 : Int32} {l2 : Int32} {l3 : Int32} {d4 d5 d6 : Option Value} {c : Nat × Nat}, (c.1 ≤ 0 ∧ c.2 ≤ 0) → k62 I l0 l1 l2 l3 = some o → V K J 248 62 [some (.ref l0), some (.int l1), some (.int l2), some (.int l3), d4, d5, d6] [] sh I R c F) {I : HI} {l0 : Nat} {l1 : Int32} {l2 : Int32} {l3 : Int32} {d4 d5 d6 : Option Value} {c : Nat × Nat} (hc0 : c.1 ≤ 0 ∧ c.2 ≤ 0) (h0 : fX11_nextOrder_b41 fu sh R k41 k62 I l0 l1 l2 l3 = some o) : V K J 248 41 [some (.ref l0), some (.int l1), some (.int l2), some (.int l3), d4, d5, d6] [] sh I R c F := by
  unfold fX11_nextOrder_b41 at h0
  refine s_rl (i := 0) (pc' := 42) (by decide +kernel) rfl ?_
  refine s_gR (t := 9) (j := 16) (pc' := 45) (by decide +kernel) h0 (fun v5 h1 => ?_); clear h0
  refine s_il (i := 3) (pc' := 46) (by decide +kernel) rfl ?_
  refine s_al (pc' := 47) (by decide +kernel) h1 (fun v6 h2 => ?_); clear h1
  refine s_rl (i := 0) (pc' := 48) (by decide +kernel) rfl ?_
  refine s_gR (t := 9) (j := 16) (pc' := 51) (by decide +kernel) h2 (fun v7 h3 => ?_); clear h2
  refine s_il (i := 2) (pc' := 52) (by decide +kernel) rfl ?_
  refine s_al (pc' := 53) (by decide +kernel) h3 (fun v8 h4 => ?_); clear h3
  refine s_if (ins := .if_icmp .ge 9) (t := 62) (pc' := 56) (by decide +kernel) rfl rfl rfl h4 (fun p5 h5 => ?_) (fun p5 h5 => ?_) <;> clear h4
  · exact hk62 hc0 h5
  · refine s_inc (i := 3) (z := (-1)) (pc' := 59) (L' := [some (.ref l0), some (.int l1), some (.int l2), some (.int (l3 + (-1))), d4, d5, d6]) (by decide +kernel) rfl rfl rfl ?_
    refine s_go (t := 41) (by decide +kernel) ?_
    exact hk41 hc0 h5
set_option maxRecDepth 100000 in
set_option maxHeartbeats 4000000 in
def fX11_nextOrder_l41 (fu : Nat) (sh : HS) (R : HR) (k62 : HI → Nat → Int32 → Int32 → Int32 → Option (Int32 × HI)) : Nat → HI → Nat → Int32 → Int32 → Int32 → Option (Int32 × HI)
  | 0 => fun _ _ _ _ _ => none
  | n + 1 => fX11_nextOrder_b41 fu sh R (fX11_nextOrder_l41 fu sh R k62 n) k62
set_option maxRecDepth 100000 in
set_option maxHeartbeats 4000000 in
theorem vX11_nextOrder_l41 {K J : Nat → Nat} {fu : Nat} {sh : HS} {R : HR} {F : VF} {o : (Int32 × HI)} (hF : F (.inl (some (.int o.1))) sh o.2 R) {k62 : HI → Nat → Int32 → Int32 → Int32 → Option (Int32 × HI)} (hk62 : ∀ {I : HI} {l0 : Nat} {l1 : Int32} {l2 : Int32} {l3 : Int32} {d4 d5 d6 : Option Value} {c : Nat × Nat}, (c.1 ≤ 0 ∧ c.2 ≤ 0) → k62 I l0 l1 l2 l3 = some o → V K J 248 62 [some (.ref l0), some (.int l1), some (.int l2), some (.int l3), d4, d5, d6] [] sh I R c F) : ∀ (n : Nat) {I : HI} {l0 : Nat} {l1 : Int32} {l2 : Int32} {l3 : Int32} {d4 d5 d6 : Option Value} {c : Nat × Nat} (_ : c.1 ≤ 0 ∧ c.2 ≤ 0) (_ : fX11_nextOrder_l41 fu sh R k62 n I l0 l1 l2 l3 = some o), V K J 248 41 [some (.ref l0), some (.int l1), some (.int l2), some (.int l3), d4, d5, d6] [] sh I R c F := by
  intro n
  induction n with
  | zero => exact fun _ h0 => nomatch h0
  | succ n ih => exact fun hc0 h0 => vX11_nextOrder_b41 hF ih hk62 hc0 h0
set_option maxRecDepth 100000 in
set_option maxHeartbeats 4000000 in
def fX11_nextOrder_b100 (fu : Nat) (sh : HS) (R : HR) (k100 : HI → Nat → Int32 → Int32 → Option (Int32 × HI)) (I : HI) (l0 : Nat) (l5 : Int32) (l6 : Int32) : Option (Int32 × HI) :=
  if l6 ≤ l5 then
    (some (1, I))
  else
    ((oR sh R l0 9 16).bind fun v17 =>
    (oA sh I v17 l5).bind fun v18 =>
    (oR sh R l0 9 16).bind fun v19 =>
    (oR sh R l0 9 16).bind fun v20 =>
    (oA sh I v20 l6).bind fun v21 =>
    (oS sh I v19 l5 v21).bind fun v22 =>
    (oR sh R l0 9 16).bind fun v23 =>
    (oS sh v22 v23 l6 v18).bind fun v24 =>
    k100 v24 l0 (l5 + 1) (l6 + (-1)))
set_option maxRecDepth 100000 in
set_option maxHeartbeats 4000000 in
theorem vX11_nextOrder_b100 {K J : Nat → Nat} {fu : Nat} {sh : HS} {R : HR} {F : VF} {o : (Int32 × HI)} (hF : F (.inl (some (.int o.1))) sh o.2 R) {k100 : HI → Nat → Int32 → Int32 → Option (Int32 × HI)} (hk100 : ∀ {I : HI} {l0 : Nat} {l5 : Int32} {l6 : Int32} {d1 d2 d3 d4 : Option Value} {c : Nat × Nat}, (c.1 ≤ 0 ∧ c.2 ≤ 0) → k100 I l0 l5 l6 = some o → V K J 248 100 [some (.ref l0), d1, d2, d3, d4, some (.int l5), some (.int l6)] [] sh I R c F) {I : HI} {l0 : Nat} {l5 : Int32} {l6 : Int32} {d1 d2 d3 d4 : Option Value} {c : Nat × Nat} (hc0 : c.1 ≤ 0 ∧ c.2 ≤ 0) (h0 : fX11_nextOrder_b100 fu sh R k100 I l0 l5 l6 = some o) : V K J 248 100 [some (.ref l0), d1, d2, d3, d4, some (.int l5), some (.int l6)] [] sh I R c F := by
  unfold fX11_nextOrder_b100 at h0
  refine s_il (i := 5) (pc' := 102) (by decide +kernel) rfl ?_
  refine s_il (i := 6) (pc' := 104) (by decide +kernel) rfl ?_
  refine s_if (ins := .if_icmp .ge 44) (t := 148) (pc' := 107) (by decide +kernel) rfl rfl rfl h0 (fun p1 h1 => ?_) (fun p1 h1 => ?_) <;> clear h0
  · refine s_c (v := 1) (pc' := 149) (by decide +kernel) ?_
    have e9 := Option.some.inj h1; subst e9
    exact s_rz (X := 0) (Y := 0) (by decide +kernel) (by decide) hc0 hF
  · refine s_rl (i := 0) (pc' := 108) (by decide +kernel) rfl ?_
    refine s_gR (t := 9) (j := 16) (pc' := 111) (by decide +kernel) h1 (fun v17 h2 => ?_); clear h1
    refine s_il (i := 5) (pc' := 113) (by decide +kernel) rfl ?_
    refine s_al (pc' := 114) (by decide +kernel) h2 (fun v18 h3 => ?_); clear h2
    refine s_is (i := 4) (pc' := 116) (L' := [some (.ref l0), d1, d2, d3, some (.int v18), some (.int l5), some (.int l6)]) (by decide +kernel) rfl rfl ?_
    refine s_rl (i := 0) (pc' := 117) (by decide +kernel) rfl ?_
    refine s_gR (t := 9) (j := 16) (pc' := 120) (by decide +kernel) h3 (fun v19 h4 => ?_); clear h3
    refine s_il (i := 5) (pc' := 122) (by decide +kernel) rfl ?_
    refine s_rl (i := 0) (pc' := 123) (by decide +kernel) rfl ?_
    refine s_gR (t := 9) (j := 16) (pc' := 126) (by decide +kernel) h4 (fun v20 h5 => ?_); clear h4
    refine s_il (i := 6) (pc' := 128) (by decide +kernel) rfl ?_
    refine s_al (pc' := 129) (by decide +kernel) h5 (fun v21 h6 => ?_); clear h5
    refine s_as (pc' := 130) (by decide +kernel) h6 (fun v22 h7 => ?_); clear h6
    refine s_rl (i := 0) (pc' := 131) (by decide +kernel) rfl ?_
    refine s_gR (t := 9) (j := 16) (pc' := 134) (by decide +kernel) h7 (fun v23 h8 => ?_); clear h7
    refine s_il (i := 6) (pc' := 136) (by decide +kernel) rfl ?_
    refine s_il (i := 4) (pc' := 138) (by decide +kernel) rfl ?_
    refine s_as (pc' := 139) (by decide +kernel) h8 (fun v24 h9 => ?_); clear h8
    refine s_inc (i := 5) (z := 1) (pc' := 142) (L' := [some (.ref l0), d1, d2, d3, some (.int v18), some (.int (l5 + 1)), some (.int l6)]) (by decide +kernel) rfl rfl rfl ?_
    refine s_inc (i := 6) (z := (-1)) (pc' := 145) (L' := [some (.ref l0), d1, d2, d3, some (.int v18), some (.int (l5 + 1)), some (.int (l6 + (-1)))]) (by decide +kernel) rfl rfl rfl ?_
    refine s_go (t := 100) (by decide +kernel) ?_
    exact hk100 hc0 h9
set_option maxRecDepth 100000 in
set_option maxHeartbeats 4000000 in
def fX11_nextOrder_l100 (fu : Nat) (sh : HS) (R : HR) : Nat → HI → Nat → Int32 → Int32 → Option (Int32 × HI)
  | 0 => fun _ _ _ _ => none
  | n + 1 => fX11_nextOrder_b100 fu sh R (fX11_nextOrder_l100 fu sh R n)
set_option maxRecDepth 100000 in
set_option maxHeartbeats 4000000 in
theorem vX11_nextOrder_l100 {K J : Nat → Nat} {fu : Nat} {sh : HS} {R : HR} {F : VF} {o : (Int32 × HI)} (hF : F (.inl (some (.int o.1))) sh o.2 R) : ∀ (n : Nat) {I : HI} {l0 : Nat} {l5 : Int32} {l6 : Int32} {d1 d2 d3 d4 : Option Value} {c : Nat × Nat} (_ : c.1 ≤ 0 ∧ c.2 ≤ 0) (_ : fX11_nextOrder_l100 fu sh R n I l0 l5 l6 = some o), V K J 248 100 [some (.ref l0), d1, d2, d3, d4, some (.int l5), some (.int l6)] [] sh I R c F := by
  intro n
  induction n with
  | zero => exact fun _ h0 => nomatch h0
  | succ n ih => exact fun hc0 h0 => vX11_nextOrder_b100 hF ih hc0 h0
set_option maxRecDepth 100000 in
set_option maxHeartbeats 4000000 in
def fX11_nextOrder_b62 (fu : Nat) (sh : HS) (R : HR) (I : HI) (l0 : Nat) (l1 : Int32) (l2 : Int32) (l3 : Int32) : Option (Int32 × HI) :=
  (oR sh R l0 9 16).bind fun v9 =>
  (oA sh I v9 l2).bind fun v10 =>
  (oR sh R l0 9 16).bind fun v11 =>
  (oR sh R l0 9 16).bind fun v12 =>
  (oA sh I v12 l3).bind fun v13 =>
  (oS sh I v11 l2 v13).bind fun v14 =>
  (oR sh R l0 9 16).bind fun v15 =>
  (oS sh v14 v15 l3 v10).bind fun v16 =>
  (fX11_nextOrder_l100 fu sh R fu) v16 l0 (l2 + 1) (l1 - 1)
set_option maxRecDepth 100000 in
set_option maxHeartbeats 4000000 in
theorem vX11_nextOrder_b62 {K J : Nat → Nat} {fu : Nat} {sh : HS} {R : HR} {F : VF} {o : (Int32 × HI)} (hF : F (.inl (some (.int o.1))) sh o.2 R) {I : HI} {l0 : Nat} {l1 : Int32} {l2 : Int32} {l3 : Int32} {d4 d5 d6 : Option Value} {c : Nat × Nat} (hc0 : c.1 ≤ 0 ∧ c.2 ≤ 0) (h0 : fX11_nextOrder_b62 fu sh R I l0 l1 l2 l3 = some o) : V K J 248 62 [some (.ref l0), some (.int l1), some (.int l2), some (.int l3), d4, d5, d6] [] sh I R c F := by
  unfold fX11_nextOrder_b62 at h0
  refine s_rl (i := 0) (pc' := 63) (by decide +kernel) rfl ?_
  refine s_gR (t := 9) (j := 16) (pc' := 66) (by decide +kernel) h0 (fun v9 h1 => ?_); clear h0
  refine s_il (i := 2) (pc' := 67) (by decide +kernel) rfl ?_
  refine s_al (pc' := 68) (by decide +kernel) h1 (fun v10 h2 => ?_); clear h1
  refine s_is (i := 4) (pc' := 70) (L' := [some (.ref l0), some (.int l1), some (.int l2), some (.int l3), some (.int v10), d5, d6]) (by decide +kernel) rfl rfl ?_
  refine s_rl (i := 0) (pc' := 71) (by decide +kernel) rfl ?_
  refine s_gR (t := 9) (j := 16) (pc' := 74) (by decide +kernel) h2 (fun v11 h3 => ?_); clear h2
  refine s_il (i := 2) (pc' := 75) (by decide +kernel) rfl ?_
  refine s_rl (i := 0) (pc' := 76) (by decide +kernel) rfl ?_
  refine s_gR (t := 9) (j := 16) (pc' := 79) (by decide +kernel) h3 (fun v12 h4 => ?_); clear h3
  refine s_il (i := 3) (pc' := 80) (by decide +kernel) rfl ?_
  refine s_al (pc' := 81) (by decide +kernel) h4 (fun v13 h5 => ?_); clear h4
  refine s_as (pc' := 82) (by decide +kernel) h5 (fun v14 h6 => ?_); clear h5
  refine s_rl (i := 0) (pc' := 83) (by decide +kernel) rfl ?_
  refine s_gR (t := 9) (j := 16) (pc' := 86) (by decide +kernel) h6 (fun v15 h7 => ?_); clear h6
  refine s_il (i := 3) (pc' := 87) (by decide +kernel) rfl ?_
  refine s_il (i := 4) (pc' := 89) (by decide +kernel) rfl ?_
  refine s_as (pc' := 90) (by decide +kernel) h7 (fun v16 h8 => ?_); clear h7
  refine s_il (i := 2) (pc' := 91) (by decide +kernel) rfl ?_
  refine s_c (v := 1) (pc' := 92) (by decide +kernel) ?_
  refine s_a (ins := .iadd) (pc' := 93) (by decide +kernel) rfl ?_
  refine s_is (i := 5) (pc' := 95) (L' := [some (.ref l0), some (.int l1), some (.int l2), some (.int l3), some (.int v10), some (.int (l2 + 1)), d6]) (by decide +kernel) rfl rfl ?_
  refine s_il (i := 1) (pc' := 96) (by decide +kernel) rfl ?_
  refine s_c (v := 1) (pc' := 97) (by decide +kernel) ?_
  refine s_a (ins := .isub) (pc' := 98) (by decide +kernel) rfl ?_
  refine s_is (i := 6) (pc' := 100) (L' := [some (.ref l0), some (.int l1), some (.int l2), some (.int l3), some (.int v10), some (.int (l2 + 1)), some (.int (l1 - 1))]) (by decide +kernel) rfl rfl ?_
  exact (vX11_nextOrder_l100 hF fu) hc0 h8
set_option maxRecDepth 100000 in
set_option maxHeartbeats 4000000 in
def fX11_nextOrder_b31 (fu : Nat) (sh : HS) (R : HR) (I : HI) (l0 : Nat) (l1 : Int32) (l2 : Int32) : Option (Int32 × HI) :=
  if 0 ≤ l2 then
    ((fX11_nextOrder_l41 fu sh R (fX11_nextOrder_b62 fu sh R) fu) I l0 l1 l2 (l1 - 1))
  else
    (some (0, I))
set_option maxRecDepth 100000 in
set_option maxHeartbeats 4000000 in
theorem vX11_nextOrder_b31 {K J : Nat → Nat} {fu : Nat} {sh : HS} {R : HR} {F : VF} {o : (Int32 × HI)} (hF : F (.inl (some (.int o.1))) sh o.2 R) {I : HI} {l0 : Nat} {l1 : Int32} {l2 : Int32} {d3 d4 d5 d6 : Option Value} {c : Nat × Nat} (hc0 : c.1 ≤ 0 ∧ c.2 ≤ 0) (h0 : fX11_nextOrder_b31 fu sh R I l0 l1 l2 = some o) : V K J 248 31 [some (.ref l0), some (.int l1), some (.int l2), d3, d4, d5, d6] [] sh I R c F := by
  unfold fX11_nextOrder_b31 at h0
  refine s_il (i := 2) (pc' := 32) (by decide +kernel) rfl ?_
  refine s_if (ins := .ifCond .ge 5) (t := 37) (pc' := 35) (by decide +kernel) rfl rfl rfl h0 (fun p1 h1 => ?_) (fun p1 h1 => ?_) <;> clear h0
  · refine s_il (i := 1) (pc' := 38) (by decide +kernel) rfl ?_
    refine s_c (v := 1) (pc' := 39) (by decide +kernel) ?_
    refine s_a (ins := .isub) (pc' := 40) (by decide +kernel) rfl ?_
    refine s_is (i := 3) (pc' := 41) (L' := [some (.ref l0), some (.int l1), some (.int l2), some (.int (l1 - 1)), d4, d5, d6]) (by decide +kernel) rfl rfl ?_
    exact (vX11_nextOrder_l41 hF (vX11_nextOrder_b62 hF) fu) hc0 h1
  · refine s_c (v := 0) (pc' := 36) (by decide +kernel) ?_
    have e9 := Option.some.inj h1; subst e9
    exact s_rz (X := 0) (Y := 0) (by decide +kernel) (by decide) hc0 hF
set_option maxRecDepth 100000 in
set_option maxHeartbeats 4000000 in
def fX11_nextOrder (fu : Nat) (sh : HS) (I : HI) (R : HR) (l0 : Nat) (l1 : Int32) : Option (Int32 × HI) :=
  if isT sh l0 9 = true then
    ((fX11_nextOrder_l4 fu sh R (fX11_nextOrder_b31 fu sh R) fu) I l0 l1 (l1 - 2))
  else none
set_option maxRecDepth 100000 in
set_option maxHeartbeats 4000000 in
theorem vX11_nextOrder {K J : Nat → Nat} {fu : Nat} {sh : HS} {I : HI} {R : HR} {F : VF} {o : (Int32 × HI)} (hF : F (.inl (some (.int o.1))) sh o.2 R) {l0 : Nat} {l1 : Int32} (h0 : fX11_nextOrder fu sh I R l0 l1 = some o) : V K J 248 0 (ent 7 [.ref l0, .int l1]) [] sh I R (0, 0) F := by
  unfold fX11_nextOrder at h0
  obtain ⟨-, h1⟩ := gd h0; clear h0
  have hc0 : ((0 : Nat), (0 : Nat)).1 ≤ 0 ∧ ((0 : Nat), (0 : Nat)).2 ≤ 0 := ⟨Nat.le_refl _, Nat.le_refl _⟩
  show V K J 248 0 [some (.ref l0), some (.int l1), none, none, none, none, none] [] sh I R (0, 0) F
  refine s_il (i := 1) (pc' := 1) (by decide +kernel) rfl ?_
  refine s_c (v := 2) (pc' := 2) (by decide +kernel) ?_
  refine s_a (ins := .isub) (pc' := 3) (by decide +kernel) rfl ?_
  refine s_is (i := 2) (pc' := 4) (L' := [some (.ref l0), some (.int l1), some (.int (l1 - 2)), none, none, none, none]) (by decide +kernel) rfl rfl ?_
  exact (vX11_nextOrder_l4 hF (vX11_nextOrder_b31 hF) fu) hc0 h1
set_option maxRecDepth 100000 in
set_option maxHeartbeats 4000000 in
theorem kX11_nextOrder {K J : Nat → Nat} {fu : Nat} {sh : HS} {I : HI} {R : HR} {F : VF} {mi pc pc' X Y X' Y' : Nat} {L : VL} {rest : List Value} {c : Nat × Nat} {l0 : Nat} {l1 : Int32} {ω : Type} {o : ω} {g : Int32 → HI → Option ω} (hq : cQ mi pc 248 2 pc' X Y X' Y' = true) (hc : c.1 ≤ X ∧ c.2 ≤ Y) (hr : Nat.ble (catS rest) 8 = true) (h : oH (fX11_nextOrder fu sh I R l0 l1) g = some o) (kk : ∀ v w c', (c'.1 ≤ X' ∧ c'.2 ≤ Y') → g v w = some o → V K J mi pc' L ((.int v) :: rest) sh w R c' F) : V K J mi pc L (.int l1 :: .ref l0 :: rest) sh I R c F := by
  obtain ⟨r, h1, h2⟩ := bnd h
  have hT : isT sh l0 9 = true := by unfold fX11_nextOrder at h1; exact (gd h1).1
  have ml : mL 248 = 7 := by decide +kernel
  have mk : mK 248 = 1 := by decide +kernel
  have mc : mC 248 = 9 := by decide +kernel
  obtain ⟨v, w⟩ := r
  refine s_call (as := [.int l1, .ref l0]) (G := fun o' sh' I' R' => o' = .inl (some (.int v)) ∧ sh' = sh ∧ I' = w ∧ R' = R) hq hc rfl hr (by rw [ml]; rfl) (Or.inl rfl) (fun _ => Or.inl ⟨by rw [mc]; decide, by rw [mc]; exact isT_iff.mp hT⟩) (fun z => absurd (mk.symm.trans z) (by decide)) (by rw [ml]; exact vX11_nextOrder (F := fun o' sh' I' R' => o' = .inl (some (.int v)) ∧ sh' = sh ∧ I' = w ∧ R' = R) ⟨rfl, rfl, rfl, rfl⟩ h1) ?_ ?_ ?_
  · rintro sh' I' R' c' hc' ⟨g1, rfl, rfl, rfl⟩
    cases g1
  · rintro v' sh' I' R' c' hc' ⟨g1, rfl, rfl, rfl⟩
    cases g1
    exact kk _ _ _ hc' h2
  · rintro E' sh' I' R' ⟨g1, rfl, rfl, rfl⟩
    cases g1
set_option maxRecDepth 100000 in
set_option maxHeartbeats 4000000 in
def fX11_findOrder_b2 (fu : Nat) (sh : HS) (R : HR) (k2 : HI → Nat → Int32 → Int32 → Int32 → Option HI) (k29 : HI → Nat → Int32 → Int32 → Option HI) (I : HI) (l0 : Nat) (l1 : Int32) (l2 : Int32) (l3 : Int32) : Option HI :=
  if 72 ≤ l3 then
    (k29 I l0 l1 l2)
  else
    ((oR sh R l0 9 18).bind fun v1 =>
    (oR sh R l0 9 0).bind fun v2 =>
    (oA sh I v2 (47 + l3)).bind fun v3 =>
    (oS sh I v1 l3 v3).bind fun v4 =>
    k2 v4 l0 l1 l2 (l3 + 1))
set_option maxRecDepth 100000 in
set_option maxHeartbeats 4000000 in
theorem vX11_findOrder_b2 {K J : Nat → Nat} {fu : Nat} {sh : HS} {R : HR} {F : VF} {o : HI} (hF : F (.inl none) sh o R) {k2 : HI → Nat → Int32 → Int32 → Int32 → Option HI} {k29 : HI → Nat → Int32 → Int32 → Option HI} (hk2 : ∀ {I : HI} {l0 : Nat} {l1 : Int32} {l2 : Int32} {l3 : Int32} {d4 d5 d6 : Option Value} {c : Nat × Nat}, (c.1 ≤ 0 ∧ c.2 ≤ 0) → k2 I l0 l1 l2 l3 = some o → V K J 249 2 [some (.ref l0), some (.int l1), some (.int l2), some (.int l3), d4, d5, d6] [] sh I R c F) (hk29 : ∀ {I : HI} {l0 : Nat} {l1 : Int32} {l2 : Int32} {d3 d4 d5 d6 : Option Value} {c : Nat × Nat}, (c.1 ≤ 0 ∧ c.2 ≤ 0) → k29 I l0 l1 l2 = some o → V K J 249 29 [some (.ref l0), some (.int l1), some (.int l2), d3, d4, d5, d6] [] sh I R c F) {I : HI} {l0 : Nat} {l1 : Int32} {l2 : Int32} {l3 : Int32} {d4 d5 d6 : Option Value} {c : Nat × Nat} (hc0 : c.1 ≤ 0 ∧ c.2 ≤ 0) (h0 : fX11_findOrder_b2 fu sh R k2 k29 I l0 l1 l2 l3 = some o) : V K J 249 2 [some (.ref l0), some (.int l1), some (.int l2), some (.int l3), d4, d5, d6] [] sh I R c F := by
  unfold fX11_findOrder_b2 at h0
  refine s_il (i := 3) (pc' := 3) (by decide +kernel) rfl ?_
  refine s_c (v := 72) (pc' := 5) (by decide +kernel) ?_
  refine s_if (ins := .if_icmp .ge 24) (t := 29) (pc' := 8) (by decide +kernel) rfl rfl rfl h0 (fun p1 h1 => ?_) (fun p1 h1 => ?_) <;> clear h0
  · exact hk29 hc0 h1
  · refine s_rl (i := 0) (pc' := 9) (by decide +kernel) rfl ?_
    refine s_gR (t := 9) (j := 18) (pc' := 12) (by decide +kernel) h1 (fun v1 h2 => ?_); clear h1
    refine s_il (i := 3) (pc' := 13) (by decide +kernel) rfl ?_
    refine s_rl (i := 0) (pc' := 14) (by decide +kernel) rfl ?_
    refine s_gR (t := 9) (j := 0) (pc' := 17) (by decide +kernel) h2 (fun v2 h3 => ?_); clear h2
    refine s_c (v := 47) (pc' := 19) (by decide +kernel) ?_
    refine s_il (i := 3) (pc' := 20) (by decide +kernel) rfl ?_
    refine s_a (ins := .iadd) (pc' := 21) (by decide +kernel) rfl ?_
    refine s_al (pc' := 22) (by decide +kernel) h3 (fun v3 h4 => ?_); clear h3
    refine s_as (pc' := 23) (by decide +kernel) h4 (fun v4 h5 => ?_); clear h4
    refine s_inc (i := 3) (z := 1) (pc' := 26) (L' := [some (.ref l0), some (.int l1), some (.int l2), some (.int (l3 + 1)), d4, d5, d6]) (by decide +kernel) rfl rfl rfl ?_
    refine s_go (t := 2) (by decide +kernel) ?_
    exact hk2 hc0 h5
set_option maxRecDepth 100000 in
set_option maxHeartbeats 4000000 in
def fX11_findOrder_l2 (fu : Nat) (sh : HS) (R : HR) (k29 : HI → Nat → Int32 → Int32 → Option HI) : Nat → HI → Nat → Int32 → Int32 → Int32 → Option HI
  | 0 => fun _ _ _ _ _ => none
  | n + 1 => fX11_findOrder_b2 fu sh R (fX11_findOrder_l2 fu sh R k29 n) k29
set_option maxRecDepth 100000 in
set_option maxHeartbeats 4000000 in
theorem vX11_findOrder_l2 {K J : Nat → Nat} {fu : Nat} {sh : HS} {R : HR} {F : VF} {o : HI} (hF : F (.inl none) sh o R) {k29 : HI → Nat → Int32 → Int32 → Option HI} (hk29 : ∀ {I : HI} {l0 : Nat} {l1 : Int32} {l2 : Int32} {d3 d4 d5 d6 : Option Value} {c : Nat × Nat}, (c.1 ≤ 0 ∧ c.2 ≤ 0) → k29 I l0 l1 l2 = some o → V K J 249 29 [some (.ref l0), some (.int l1), some (.int l2), d3, d4, d5, d6] [] sh I R c F) : ∀ (n : Nat) {I : HI} {l0 : Nat} {l1 : Int32} {l2 : Int32} {l3 : Int32} {d4 d5 d6 : Option Value} {c : Nat × Nat} (_ : c.1 ≤ 0 ∧ c.2 ≤ 0) (_ : fX11_findOrder_l2 fu sh R k29 n I l0 l1 l2 l3 = some o), V K J 249 2 [some (.ref l0), some (.int l1), some (.int l2), some (.int l3), d4, d5, d6] [] sh I R c F := by
  intro n
  induction n with
  | zero => exact fun _ h0 => nomatch h0
  | succ n ih => exact fun hc0 h0 => vX11_findOrder_b2 hF ih hk29 hc0 h0
set_option maxRecDepth 100000 in
set_option maxHeartbeats 4000000 in
def fX11_findOrder_b31 (fu : Nat) (sh : HS) (R : HR) (k31 : HI → Nat → Int32 → Int32 → Int32 → Option HI) (k49 : HI → Nat → Int32 → Int32 → Option HI) (I : HI) (l0 : Nat) (l1 : Int32) (l2 : Int32) (l3 : Int32) : Option HI :=
  if l2 ≤ l3 then
    (k49 I l0 l1 l2)
  else
    ((oR sh R l0 9 16).bind fun v5 =>
    (oS sh I v5 l3 l3).bind fun v6 =>
    k31 v6 l0 l1 l2 (l3 + 1))
set_option maxRecDepth 100000 in
set_option maxHeartbeats 4000000 in
theorem vX11_findOrder_b31 {K J : Nat → Nat} {fu : Nat} {sh : HS} {R : HR} {F : VF} {o : HI} (hF : F (.inl none) sh o R) {k31 : HI → Nat → Int32 → Int32 → Int32 → Option HI} {k49 : HI → Nat → Int32 → Int32 → Option HI} (hk31 : ∀ {I : HI} {l0 : Nat} {l1 : Int32} {l2 : Int32} {l3 : Int32} {d4 d5 d6 : Option Value} {c : Nat × Nat}, (c.1 ≤ 0 ∧ c.2 ≤ 0) → k31 I l0 l1 l2 l3 = some o → V K J 249 31 [some (.ref l0), some (.int l1), some (.int l2), some (.int l3), d4, d5, d6] [] sh I R c F) (hk49 : ∀ {I : HI} {l0 : Nat} {l1 : Int32} {l2 : Int32} {d3 d4 d5 d6 : Option Value} {c : Nat × Nat}, (c.1 ≤ 0 ∧ c.2 ≤ 0) → k49 I l0 l1 l2 = some o → V K J 249 49 [some (.ref l0), some (.int l1), some (.int l2), d3, d4, d5, d6] [] sh I R c F) {I : HI} {l0 : Nat} {l1 : Int32} {l2 : Int32} {l3 : Int32} {d4 d5 d6 : Option Value} {c : Nat × Nat} (hc0 : c.1 ≤ 0 ∧ c.2 ≤ 0) (h0 : fX11_findOrder_b31 fu sh R k31 k49 I l0 l1 l2 l3 = some o) : V K J 249 31 [some (.ref l0), some (.int l1), some (.int l2), some (.int l3), d4, d5, d6] [] sh I R c F := by
  unfold fX11_findOrder_b31 at h0
  refine s_il (i := 3) (pc' := 32) (by decide +kernel) rfl ?_
  refine s_il (i := 2) (pc' := 33) (by decide +kernel) rfl ?_
  refine s_if (ins := .if_icmp .ge 16) (t := 49) (pc' := 36) (by decide +kernel) rfl rfl rfl h0 (fun p1 h1 => ?_) (fun p1 h1 => ?_) <;> clear h0
  · exact hk49 hc0 h1
  · refine s_rl (i := 0) (pc' := 37) (by decide +kernel) rfl ?_
    refine s_gR (t := 9) (j := 16) (pc' := 40) (by decide +kernel) h1 (fun v5 h2 => ?_); clear h1
    refine s_il (i := 3) (pc' := 41) (by decide +kernel) rfl ?_
    refine s_il (i := 3) (pc' := 42) (by decide +kernel) rfl ?_
    refine s_as (pc' := 43) (by decide +kernel) h2 (fun v6 h3 => ?_); clear h2
    refine s_inc (i := 3) (z := 1) (pc' := 46) (L' := [some (.ref l0), some (.int l1), some (.int l2), some (.int (l3 + 1)), d4, d5, d6]) (by decide +kernel) rfl rfl rfl ?_
    refine s_go (t := 31) (by decide +kernel) ?_
    exact hk31 hc0 h3
set_option maxRecDepth 100000 in
set_option maxHeartbeats 4000000 in
def fX11_findOrder_l31 (fu : Nat) (sh : HS) (R : HR) (k49 : HI → Nat → Int32 → Int32 → Option HI) : Nat → HI → Nat → Int32 → Int32 → Int32 → Option HI
  | 0 => fun _ _ _ _ _ => none
  | n + 1 => fX11_findOrder_b31 fu sh R (fX11_findOrder_l31 fu sh R k49 n) k49
set_option maxRecDepth 100000 in
set_option maxHeartbeats 4000000 in
theorem vX11_findOrder_l31 {K J : Nat → Nat} {fu : Nat} {sh : HS} {R : HR} {F : VF} {o : HI} (hF : F (.inl none) sh o R) {k49 : HI → Nat → Int32 → Int32 → Option HI} (hk49 : ∀ {I : HI} {l0 : Nat} {l1 : Int32} {l2 : Int32} {d3 d4 d5 d6 : Option Value} {c : Nat × Nat}, (c.1 ≤ 0 ∧ c.2 ≤ 0) → k49 I l0 l1 l2 = some o → V K J 249 49 [some (.ref l0), some (.int l1), some (.int l2), d3, d4, d5, d6] [] sh I R c F) : ∀ (n : Nat) {I : HI} {l0 : Nat} {l1 : Int32} {l2 : Int32} {l3 : Int32} {d4 d5 d6 : Option Value} {c : Nat × Nat} (_ : c.1 ≤ 0 ∧ c.2 ≤ 0) (_ : fX11_findOrder_l31 fu sh R k49 n I l0 l1 l2 l3 = some o), V K J 249 31 [some (.ref l0), some (.int l1), some (.int l2), some (.int l3), d4, d5, d6] [] sh I R c F := by
  intro n
  induction n with
  | zero => exact fun _ h0 => nomatch h0
  | succ n ih => exact fun hc0 h0 => vX11_findOrder_b31 hF ih hk49 hc0 h0
set_option maxRecDepth 100000 in
set_option maxHeartbeats 4000000 in
def fX11_findOrder_b91 (fu : Nat) (sh : HS) (R : HR) (k74 : HI → Nat → Int32 → Int32 → Int32 → Int32 → Int32 → Option HI) (k111 : HI → Nat → Int32 → Int32 → Int32 → Int32 → Option HI) (I : HI) (l0 : Nat) (l1 : Int32) (l2 : Int32) (l3 : Int32) (l5 : Int32) (l6 : Int32) : Option HI :=
  (oR sh R l0 9 17).bind fun v9 =>
  (oR sh R l0 9 16).bind fun v10 =>
  (oA sh I v10 l6).bind fun v11 =>
  (oS sh I v9 l6 v11).bind fun v12 =>
  k74 v12 l0 l1 l2 l3 l5 (l6 + 1)
set_option maxRecDepth 100000 in
set_option maxHeartbeats 4000000 in
theorem vX11_findOrder_b91 {K J : Nat → Nat} {fu : Nat} {sh : HS} {R : HR} {F : VF} {o : HI} (hF : F (.inl none) sh o R) {k74 : HI → Nat → Int32 → Int32 → Int32 → Int32 → Int32 → Option HI} {k111 : HI → Nat → Int32 → Int32 → Int32 → Int32 → Option HI} (hk74 : ∀ {I : HI} {l0 : Nat} {l1 : Int32} {l2 : Int32} {l3 : Int32} {l5 : Int32} {l6 : Int32} {d4 : Option Value} {c : Nat × Nat}, (c.1 ≤ 0 ∧ c.2 ≤ 0) → k74 I l0 l1 l2 l3 l5 l6 = some o → V K J 249 74 [some (.ref l0), some (.int l1), some (.int l2), some (.int l3), d4, some (.int l5), some (.int l6)] [] sh I R c F) (hk111 : ∀ {I : HI} {l0 : Nat} {l1 : Int32} {l2 : Int32} {l3 : Int32} {l5 : Int32} {d4 d6 : Option Value} {c : Nat × Nat}, (c.1 ≤ 0 ∧ c.2 ≤ 0) → k111 I l0 l1 l2 l3 l5 = some o → V K J 249 111 [some (.ref l0), some (.int l1), some (.int l2), some (.int l3), d4, some (.int l5), d6] [] sh I R c F) {I : HI} {l0 : Nat} {l1 : Int32} {l2 : Int32} {l3 : Int32} {l5 : Int32} {l6 : Int32} {d4 : Option Value} {c : Nat × Nat} (hc0 : c.1 ≤ 0 ∧ c.2 ≤ 0) (h0 : fX11_findOrder_b91 fu sh R k74 k111 I l0 l1 l2 l3 l5 l6 = some o) : V K J 249 91 [some (.ref l0), some (.int l1), some (.int l2), some (.int l3), d4, some (.int l5), some (.int l6)] [] sh I R c F := by
  unfold fX11_findOrder_b91 at h0
  refine s_rl (i := 0) (pc' := 92) (by decide +kernel) rfl ?_
  refine s_gR (t := 9) (j := 17) (pc' := 95) (by decide +kernel) h0 (fun v9 h1 => ?_); clear h0
  refine s_il (i := 6) (pc' := 97) (by decide +kernel) rfl ?_
  refine s_rl (i := 0) (pc' := 98) (by decide +kernel) rfl ?_
  refine s_gR (t := 9) (j := 16) (pc' := 101) (by decide +kernel) h1 (fun v10 h2 => ?_); clear h1
  refine s_il (i := 6) (pc' := 103) (by decide +kernel) rfl ?_
  refine s_al (pc' := 104) (by decide +kernel) h2 (fun v11 h3 => ?_); clear h2
  refine s_as (pc' := 105) (by decide +kernel) h3 (fun v12 h4 => ?_); clear h3
  refine s_inc (i := 6) (z := 1) (pc' := 108) (L' := [some (.ref l0), some (.int l1), some (.int l2), some (.int l3), d4, some (.int l5), some (.int (l6 + 1))]) (by decide +kernel) rfl rfl rfl ?_
  refine s_go (t := 74) (by decide +kernel) ?_
  exact hk74 hc0 h4
set_option maxRecDepth 100000 in
set_option maxHeartbeats 4000000 in
def fX11_findOrder_b74 (fu : Nat) (sh : HS) (R : HR) (k74 : HI → Nat → Int32 → Int32 → Int32 → Int32 → Int32 → Option HI) (k111 : HI → Nat → Int32 → Int32 → Int32 → Int32 → Option HI) (I : HI) (l0 : Nat) (l1 : Int32) (l2 : Int32) (l3 : Int32) (l5 : Int32) (l6 : Int32) : Option HI :=
  if l2 ≤ l6 then
    (k111 I l0 l1 l2 l3 l5)
  else
    (if l3 = (-1) then
      ((fX11_findOrder_b91 fu sh R k74 k111) I l0 l1 l2 l3 l5 l6)
    else
      (if l3 ≤ l5 then
        (k111 I l0 l1 l2 l3 l5)
      else
        ((fX11_findOrder_b91 fu sh R k74 k111) I l0 l1 l2 l3 l5 l6)))
set_option maxRecDepth 100000 in
set_option maxHeartbeats 4000000 in
theorem vX11_findOrder_b74 {K J : Nat → Nat} {fu : Nat} {sh : HS} {R : HR} {F : VF} {o : HI} (hF : F (.inl none) sh o R) {k74 : HI → Nat → Int32 → Int32 → Int32 → Int32 → Int32 → Option HI} {k111 : HI → Nat → Int32 → Int32 → Int32 → Int32 → Option HI} (hk74 : ∀ {I : HI} {l0 : Nat} {l1 : Int32} {l2 : Int32} {l3 : Int32} {l5 : Int32} {l6 : Int32} {d4 : Option Value} {c : Nat × Nat}, (c.1 ≤ 0 ∧ c.2 ≤ 0) → k74 I l0 l1 l2 l3 l5 l6 = some o → V K J 249 74 [some (.ref l0), some (.int l1), some (.int l2), some (.int l3), d4, some (.int l5), some (.int l6)] [] sh I R c F) (hk111 : ∀ {I : HI} {l0 : Nat} {l1 : Int32} {l2 : Int32} {l3 : Int32} {l5 : Int32} {d4 d6 : Option Value} {c : Nat × Nat}, (c.1 ≤ 0 ∧ c.2 ≤ 0) → k111 I l0 l1 l2 l3 l5 = some o → V K J 249 111 [some (.ref l0), some (.int l1), some (.int l2), some (.int l3), d4, some (.int l5), d6] [] sh I R c F) {I : HI} {l0 : Nat} {l1 : Int32} {l2 : Int32} {l3 : Int32} {l5 : Int32} {l6 : Int32} {d4 : Option Value} {c : Nat × Nat} (hc0 : c.1 ≤ 0 ∧ c.2 ≤ 0) (h0 : fX11_findOrder_b74 fu sh R k74 k111 I l0 l1 l2 l3 l5 l6 = some o) : V K J 249 74 [some (.ref l0), some (.int l1), some (.int l2), some (.int l3), d4, some (.int l5), some (.int l6)] [] sh I R c F := by
  unfold fX11_findOrder_b74 at h0
  refine s_il (i := 6) (pc' := 76) (by decide +kernel) rfl ?_
  refine s_il (i := 2) (pc' := 77) (by decide +kernel) rfl ?_
  refine s_if (ins := .if_icmp .ge 34) (t := 111) (pc' := 80) (by decide +kernel) rfl rfl rfl h0 (fun p1 h1 => ?_) (fun p1 h1 => ?_) <;> clear h0
  · exact hk111 hc0 h1
  · refine s_il (i := 3) (pc' := 81) (by decide +kernel) rfl ?_
    refine s_c (v := (-1)) (pc' := 82) (by decide +kernel) ?_
    refine s_if (ins := .if_icmp .eq 9) (t := 91) (pc' := 85) (by decide +kernel) rfl rfl rfl h1 (fun p2 h2 => ?_) (fun p2 h2 => ?_) <;> clear h1
    · exact (vX11_findOrder_b91 hF hk74 hk111) hc0 h2
    · refine s_il (i := 5) (pc' := 87) (by decide +kernel) rfl ?_
      refine s_il (i := 3) (pc' := 88) (by decide +kernel) rfl ?_
      refine s_if (ins := .if_icmp .ge 23) (t := 111) (pc' := 91) (by decide +kernel) rfl rfl rfl h2 (fun p3 h3 => ?_) (fun p3 h3 => ?_) <;> clear h2
      · exact hk111 hc0 h3
      · exact (vX11_findOrder_b91 hF hk74 hk111) hc0 h3
set_option maxRecDepth 100000 in
set_option maxHeartbeats 4000000 in
def fX11_findOrder_l74 (fu : Nat) (sh : HS) (R : HR) (k111 : HI → Nat → Int32 → Int32 → Int32 → Int32 → Option HI) : Nat → HI → Nat → Int32 → Int32 → Int32 → Int32 → Int32 → Option HI
  | 0 => fun _ _ _ _ _ _ _ => none
  | n + 1 => fX11_findOrder_b74 fu sh R (fX11_findOrder_l74 fu sh R k111 n) k111
set_option maxRecDepth 100000 in
set_option maxHeartbeats 4000000 in
theorem vX11_findOrder_l74 {K J : Nat → Nat} {fu : Nat} {sh : HS} {R : HR} {F : VF} {o : HI} (hF : F (.inl none) sh o R) {k111 : HI → Nat → Int32 → Int32 → Int32 → Int32 → Option HI} (hk111 : ∀ {I : HI} {l0 : Nat} {l1 : Int32} {l2 : Int32} {l3 : Int32} {l5 : Int32} {d4 d6 : Option Value} {c : Nat × Nat}, (c.1 ≤ 0 ∧ c.2 ≤ 0) → k111 I l0 l1 l2 l3 l5 = some o → V K J 249 111 [some (.ref l0), some (.int l1), some (.int l2), some (.int l3), d4, some (.int l5), d6] [] sh I R c F) : ∀ (n : Nat) {I : HI} {l0 : Nat} {l1 : Int32} {l2 : Int32} {l3 : Int32} {l5 : Int32} {l6 : Int32} {d4 : Option Value} {c : Nat × Nat} (_ : c.1 ≤ 0 ∧ c.2 ≤ 0) (_ : fX11_findOrder_l74 fu sh R k111 n I l0 l1 l2 l3 l5 l6 = some o), V K J 249 74 [some (.ref l0), some (.int l1), some (.int l2), some (.int l3), d4, some (.int l5), some (.int l6)] [] sh I R c F := by
  intro n
  induction n with
  | zero => exact fun _ h0 => nomatch h0
  | succ n ih => exact fun hc0 h0 => vX11_findOrder_b74 hF ih hk111 hc0 h0
set_option maxRecDepth 100000 in
set_option maxHeartbeats 4000000 in
def fX11_findOrder_b127 (fu : Nat) (sh : HS) (R : HR) (k54 : HI → Nat → Int32 → Int32 → Int32 → Int32 → Option HI) (k138 : HI → Nat → Option HI) (I : HI) (l0 : Nat) (l1 : Int32) (l2 : Int32) (s0 : Int32) : Option HI :=
  oH (fX11_nextOrder fu sh I R l0 l2) fun v13 w13 =>
  k54 w13 l0 l1 l2 s0 v13
set_option maxRecDepth 100000 in
set_option maxHeartbeats 4000000 in
theorem vX11_findOrder_b127 {K J : Nat → Nat} {fu : Nat} {sh : HS} {R : HR} {F : VF} {o : HI} (hF : F (.inl none) sh o R) {k54 : HI → Nat → Int32 → Int32 → Int32 → Int32 → Option HI} {k138 : HI → Nat → Option HI} (hk54 : ∀ {I : HI} {l0 : Nat} {l1 : Int32} {l2 : Int32} {l3 : Int32} {l4 : Int32} {d5 d6 : Option Value} {c : Nat × Nat}, (c.1 ≤ 0 ∧ c.2 ≤ 0) → k54 I l0 l1 l2 l3 l4 = some o → V K J 249 54 [some (.ref l0), some (.int l1), some (.int l2), some (.int l3), some (.int l4), d5, d6] [] sh I R c F) (hk138 : ∀ {I : HI} {l0 : Nat} {d1 d2 d3 d4 d5 d6 : Option Value} {c : Nat × Nat}, (c.1 ≤ 0 ∧ c.2 ≤ 0) → k138 I l0 = some o → V K J 249 138 [some (.ref l0), d1, d2, d3, d4, d5, d6] [] sh I R c F) {I : HI} {l0 : Nat} {l1 : Int32} {l2 : Int32} {s0 : Int32} {d3 d4 d5 d6 : Option Value} {c : Nat × Nat} (hc0 : c.1 ≤ 0 ∧ c.2 ≤ 0) (h0 : fX11_findOrder_b127 fu sh R k54 k138 I l0 l1 l2 s0 = some o) : V K J 249 127 [some (.ref l0), some (.int l1), some (.int l2), d3, d4, d5, d6] [.int s0] sh I R c F := by
  unfold fX11_findOrder_b127 at h0
  refine s_is (i := 3) (pc' := 128) (L' := [some (.ref l0), some (.int l1), some (.int l2), some (.int s0), d4, d5, d6]) (by decide +kernel) rfl rfl ?_
  refine s_rl (i := 0) (pc' := 129) (by decide +kernel) rfl ?_
  refine s_il (i := 2) (pc' := 130) (by decide +kernel) rfl ?_
  refine kX11_nextOrder (X := 0) (Y := 0) (X' := 0) (Y' := 0) (pc' := 133) (by decide +kernel) hc0 rfl h0 (fun v13 w13 c hc1 h1 => ?_); clear h0 hc0
  refine s_is (i := 4) (pc' := 135) (L' := [some (.ref l0), some (.int l1), some (.int l2), some (.int s0), some (.int v13), d5, d6]) (by decide +kernel) rfl rfl ?_
  refine s_go (t := 54) (by decide +kernel) ?_
  exact hk54 hc1 h1
set_option maxRecDepth 100000 in
set_option maxHeartbeats 4000000 in
def fX11_findOrder_b111 (fu : Nat) (sh : HS) (R : HR) (k54 : HI → Nat → Int32 → Int32 → Int32 → Int32 → Option HI) (k138 : HI → Nat → Option HI) (I : HI) (l0 : Nat) (l1 : Int32) (l2 : Int32) (l3 : Int32) (l5 : Int32) : Option HI :=
  if l3 = (-1) then
    ((fX11_findOrder_b127 fu sh R k54 k138) I l0 l1 l2 l5)
  else
    ((fX11_findOrder_b127 fu sh R k54 k138) I l0 l1 l2 (iMin l3 l5))
set_option maxRecDepth 100000 in
set_option maxHeartbeats 4000000 in
theorem vX11_findOrder_b111 {K J : Nat → Nat} {fu : Nat} {sh : HS} {R : HR} {F : VF} {o : HI} (hF : F (.inl none) sh o R) {k54 : HI → Nat → Int32 → Int32 → Int32 → Int32 → Option HI} {k138 : HI → Nat → Option HI} (hk54 : ∀ {I : HI} {l0 : Nat} {l1 : Int32} {l2 : Int32} {l3 : Int32} {l4 : Int32} {d5 d6 : Option Value} {c : Nat × Nat}, (c.1 ≤ 0 ∧ c.2 ≤ 0) → k54 I l0 l1 l2 l3 l4 = some o → V K J 249 54 [some (.ref l0), some (.int l1), some (.int l2), some (.int l3), some (.int l4), d5, d6] [] sh I R c F) (hk138 : ∀ {I : HI} {l0 : Nat} {d1 d2 d3 d4 d5 d6 : Option Value} {c : Nat × Nat}, (c.1 ≤ 0 ∧ c.2 ≤ 0) → k138 I l0 = some o → V K J 249 138 [some (.ref l0), d1, d2, d3, d4, d5, d6] [] sh I R c F) {I : HI} {l0 : Nat} {l1 : Int32} {l2 : Int32} {l3 : Int32} {l5 : Int32} {d4 d6 : Option Value} {c : Nat × Nat} (hc0 : c.1 ≤ 0 ∧ c.2 ≤ 0) (h0 : fX11_findOrder_b111 fu sh R k54 k138 I l0 l1 l2 l3 l5 = some o) : V K J 249 111 [some (.ref l0), some (.int l1), some (.int l2), some (.int l3), d4, some (.int l5), d6] [] sh I R c F := by
  unfold fX11_findOrder_b111 at h0
  refine s_il (i := 3) (pc' := 112) (by decide +kernel) rfl ?_
  refine s_c (v := (-1)) (pc' := 113) (by decide +kernel) ?_
  refine s_ifn (ins := .if_icmp .ne 8) (t := 121) (pc' := 116) (by decide +kernel) rfl rfl rfl h0 (fun p1 h1 => ?_) (fun p1 h1 => ?_) <;> clear h0
  · refine s_il (i := 3) (pc' := 122) (by decide +kernel) rfl ?_
    refine s_il (i := 5) (pc' := 124) (by decide +kernel) rfl ?_
    refine s_min (X := 0) (Y := 0) (pc' := 127) (by decide +kernel) hc0 rfl ?_
    exact (vX11_findOrder_b127 hF hk54 hk138) hc0 h1
  · refine s_il (i := 5) (pc' := 118) (by decide +kernel) rfl ?_
    refine s_go (t := 127) (by decide +kernel) ?_
    exact (vX11_findOrder_b127 hF hk54 hk138) hc0 h1
set_option maxRecDepth 100000 in
set_option maxHeartbeats 4000000 in
def fX11_findOrder_b54 (fu : Nat) (sh : HS) (R : HR) (k54 : HI → Nat → Int32 → Int32 → Int32 → Int32 → Option HI) (k138 : HI → Nat → Option HI) (I : HI) (l0 : Nat) (l1 : Int32) (l2 : Int32) (l3 : Int32) (l4 : Int32) : Option HI :=
  if l4 = 0 then
    (k138 I l0)
  else
    ((fX11_layOrder fu sh I R l0 l1 l2).bind fun w7 =>
    (fX11_faultsNow fu sh w7 R l0).bind fun v8 =>
    (fX11_findOrder_l74 fu sh R (fX11_findOrder_b111 fu sh R k54 k138) fu) w7 l0 l1 l2 l3 v8 0)
set_option maxRecDepth 100000 in
set_option maxHeartbeats 4000000 in
theorem vX11_findOrder_b54 {K J : Nat → Nat} {fu : Nat} {sh : HS} {R : HR} {F : VF} {o : HI} (hF : F (.inl none) sh o R) {k54 : HI → Nat → Int32 → Int32 → Int32 → Int32 → Option HI} {k138 : HI → Nat → Option HI} (hk54 : ∀ {I : HI} {l0 : Nat} {l1 : Int32} {l2 : Int32} {l3 : Int32} {l4 : Int32} {d5 d6 : Option Value} {c : Nat × Nat}, (c.1 ≤ 0 ∧ c.2 ≤ 0) → k54 I l0 l1 l2 l3 l4 = some o → V K J 249 54 [some (.ref l0), some (.int l1), some (.int l2), some (.int l3), some (.int l4), d5, d6] [] sh I R c F) (hk138 : ∀ {I : HI} {l0 : Nat} {d1 d2 d3 d4 d5 d6 : Option Value} {c : Nat × Nat}, (c.1 ≤ 0 ∧ c.2 ≤ 0) → k138 I l0 = some o → V K J 249 138 [some (.ref l0), d1, d2, d3, d4, d5, d6] [] sh I R c F) {I : HI} {l0 : Nat} {l1 : Int32} {l2 : Int32} {l3 : Int32} {l4 : Int32} {d5 d6 : Option Value} {c : Nat × Nat} (hc0 : c.1 ≤ 0 ∧ c.2 ≤ 0) (h0 : fX11_findOrder_b54 fu sh R k54 k138 I l0 l1 l2 l3 l4 = some o) : V K J 249 54 [some (.ref l0), some (.int l1), some (.int l2), some (.int l3), some (.int l4), d5, d6] [] sh I R c F := by
  unfold fX11_findOrder_b54 at h0
  refine s_il (i := 4) (pc' := 56) (by decide +kernel) rfl ?_
  refine s_if (ins := .ifCond .eq 82) (t := 138) (pc' := 59) (by decide +kernel) rfl rfl rfl h0 (fun p1 h1 => ?_) (fun p1 h1 => ?_) <;> clear h0
  · exact hk138 hc0 h1
  · refine s_rl (i := 0) (pc' := 60) (by decide +kernel) rfl ?_
    refine s_il (i := 1) (pc' := 61) (by decide +kernel) rfl ?_
    refine s_il (i := 2) (pc' := 62) (by decide +kernel) rfl ?_
    refine kX11_layOrder (X := 0) (Y := 0) (X' := 0) (Y' := 0) (pc' := 65) (by decide +kernel) hc0 rfl h1 (fun w7 c hc1 h2 => ?_); clear h1 hc0
    refine s_rl (i := 0) (pc' := 66) (by decide +kernel) rfl ?_
    refine kX11_faultsNow (X := 0) (Y := 0) (X' := 0) (Y' := 0) (pc' := 69) (by decide +kernel) hc1 rfl h2 (fun v8 c hc2 h3 => ?_); clear h2 hc1
    refine s_is (i := 5) (pc' := 71) (L' := [some (.ref l0), some (.int l1), some (.int l2), some (.int l3), some (.int l4), some (.int v8), d6]) (by decide +kernel) rfl rfl ?_
    refine s_c (v := 0) (pc' := 72) (by decide +kernel) ?_
    refine s_is (i := 6) (pc' := 74) (L' := [some (.ref l0), some (.int l1), some (.int l2), some (.int l3), some (.int l4), some (.int v8), some (.int 0)]) (by decide +kernel) rfl rfl ?_
    exact (vX11_findOrder_l74 hF (vX11_findOrder_b111 hF hk54 hk138) fu) hc2 h3
set_option maxRecDepth 100000 in
set_option maxHeartbeats 4000000 in
def fX11_findOrder_l54 (fu : Nat) (sh : HS) (R : HR) (k138 : HI → Nat → Option HI) : Nat → HI → Nat → Int32 → Int32 → Int32 → Int32 → Option HI
  | 0 => fun _ _ _ _ _ _ => none
  | n + 1 => fX11_findOrder_b54 fu sh R (fX11_findOrder_l54 fu sh R k138 n) k138
set_option maxRecDepth 100000 in
set_option maxHeartbeats 4000000 in
theorem vX11_findOrder_l54 {K J : Nat → Nat} {fu : Nat} {sh : HS} {R : HR} {F : VF} {o : HI} (hF : F (.inl none) sh o R) {k138 : HI → Nat → Option HI} (hk138 : ∀ {I : HI} {l0 : Nat} {d1 d2 d3 d4 d5 d6 : Option Value} {c : Nat × Nat}, (c.1 ≤ 0 ∧ c.2 ≤ 0) → k138 I l0 = some o → V K J 249 138 [some (.ref l0), d1, d2, d3, d4, d5, d6] [] sh I R c F) : ∀ (n : Nat) {I : HI} {l0 : Nat} {l1 : Int32} {l2 : Int32} {l3 : Int32} {l4 : Int32} {d5 d6 : Option Value} {c : Nat × Nat} (_ : c.1 ≤ 0 ∧ c.2 ≤ 0) (_ : fX11_findOrder_l54 fu sh R k138 n I l0 l1 l2 l3 l4 = some o), V K J 249 54 [some (.ref l0), some (.int l1), some (.int l2), some (.int l3), some (.int l4), d5, d6] [] sh I R c F := by
  intro n
  induction n with
  | zero => exact fun _ h0 => nomatch h0
  | succ n ih => exact fun hc0 h0 => vX11_findOrder_b54 hF ih hk138 hc0 h0
set_option maxRecDepth 100000 in
set_option maxHeartbeats 4000000 in
def fX11_findOrder_b141 (fu : Nat) (sh : HS) (R : HR) (k141 : HI → Nat → Int32 → Option HI) (I : HI) (l0 : Nat) (l5 : Int32) : Option HI :=
  if 72 ≤ l5 then
    (some I)
  else
    ((oR sh R l0 9 0).bind fun v14 =>
    (oR sh R l0 9 18).bind fun v15 =>
    (oA sh I v15 l5).bind fun v16 =>
    (oS sh I v14 (47 + l5) v16).bind fun v17 =>
    k141 v17 l0 (l5 + 1))
set_option maxRecDepth 100000 in
set_option maxHeartbeats 4000000 in
theorem vX11_findOrder_b141 {K J : Nat → Nat} {fu : Nat} {sh : HS} {R : HR} {F : VF} {o : HI} (hF : F (.inl none) sh o R) {k141 : HI → Nat → Int32 → Option HI} (hk141 : ∀ {I : HI} {l0 : Nat} {l5 : Int32} {d1 d2 d3 d4 d6 : Option Value} {c : Nat × Nat}, (c.1 ≤ 0 ∧ c.2 ≤ 0) → k141 I l0 l5 = some o → V K J 249 141 [some (.ref l0), d1, d2, d3, d4, some (.int l5), d6] [] sh I R c F) {I : HI} {l0 : Nat} {l5 : Int32} {d1 d2 d3 d4 d6 : Option Value} {c : Nat × Nat} (hc0 : c.1 ≤ 0 ∧ c.2 ≤ 0) (h0 : fX11_findOrder_b141 fu sh R k141 I l0 l5 = some o) : V K J 249 141 [some (.ref l0), d1, d2, d3, d4, some (.int l5), d6] [] sh I R c F := by
  unfold fX11_findOrder_b141 at h0
  refine s_il (i := 5) (pc' := 143) (by decide +kernel) rfl ?_
  refine s_c (v := 72) (pc' := 145) (by decide +kernel) ?_
  refine s_if (ins := .if_icmp .ge 26) (t := 171) (pc' := 148) (by decide +kernel) rfl rfl rfl h0 (fun p1 h1 => ?_) (fun p1 h1 => ?_) <;> clear h0
  · have e9 := Option.some.inj h1; subst e9
    exact s_rv (X := 0) (Y := 0) (by decide +kernel) hc0 hF
  · refine s_rl (i := 0) (pc' := 149) (by decide +kernel) rfl ?_
    refine s_gR (t := 9) (j := 0) (pc' := 152) (by decide +kernel) h1 (fun v14 h2 => ?_); clear h1
    refine s_c (v := 47) (pc' := 154) (by decide +kernel) ?_
    refine s_il (i := 5) (pc' := 156) (by decide +kernel) rfl ?_
    refine s_a (ins := .iadd) (pc' := 157) (by decide +kernel) rfl ?_
    refine s_rl (i := 0) (pc' := 158) (by decide +kernel) rfl ?_
    refine s_gR (t := 9) (j := 18) (pc' := 161) (by decide +kernel) h2 (fun v15 h3 => ?_); clear h2
    refine s_il (i := 5) (pc' := 163) (by decide +kernel) rfl ?_
    refine s_al (pc' := 164) (by decide +kernel) h3 (fun v16 h4 => ?_); clear h3
    refine s_as (pc' := 165) (by decide +kernel) h4 (fun v17 h5 => ?_); clear h4
    refine s_inc (i := 5) (z := 1) (pc' := 168) (L' := [some (.ref l0), d1, d2, d3, d4, some (.int (l5 + 1)), d6]) (by decide +kernel) rfl rfl rfl ?_
    refine s_go (t := 141) (by decide +kernel) ?_
    exact hk141 hc0 h5
set_option maxRecDepth 100000 in
set_option maxHeartbeats 4000000 in
def fX11_findOrder_l141 (fu : Nat) (sh : HS) (R : HR) : Nat → HI → Nat → Int32 → Option HI
  | 0 => fun _ _ _ => none
  | n + 1 => fX11_findOrder_b141 fu sh R (fX11_findOrder_l141 fu sh R n)
set_option maxRecDepth 100000 in
set_option maxHeartbeats 4000000 in
theorem vX11_findOrder_l141 {K J : Nat → Nat} {fu : Nat} {sh : HS} {R : HR} {F : VF} {o : HI} (hF : F (.inl none) sh o R) : ∀ (n : Nat) {I : HI} {l0 : Nat} {l5 : Int32} {d1 d2 d3 d4 d6 : Option Value} {c : Nat × Nat} (_ : c.1 ≤ 0 ∧ c.2 ≤ 0) (_ : fX11_findOrder_l141 fu sh R n I l0 l5 = some o), V K J 249 141 [some (.ref l0), d1, d2, d3, d4, some (.int l5), d6] [] sh I R c F := by
  intro n
  induction n with
  | zero => exact fun _ h0 => nomatch h0
  | succ n ih => exact fun hc0 h0 => vX11_findOrder_b141 hF ih hc0 h0
set_option maxRecDepth 100000 in
set_option maxHeartbeats 4000000 in
def fX11_findOrder_b138 (fu : Nat) (sh : HS) (R : HR) (I : HI) (l0 : Nat) : Option HI :=
  (fX11_findOrder_l141 fu sh R fu) I l0 0
set_option maxRecDepth 100000 in
set_option maxHeartbeats 4000000 in
theorem vX11_findOrder_b138 {K J : Nat → Nat} {fu : Nat} {sh : HS} {R : HR} {F : VF} {o : HI} (hF : F (.inl none) sh o R) {I : HI} {l0 : Nat} {d1 d2 d3 d4 d5 d6 : Option Value} {c : Nat × Nat} (hc0 : c.1 ≤ 0 ∧ c.2 ≤ 0) (h0 : fX11_findOrder_b138 fu sh R I l0 = some o) : V K J 249 138 [some (.ref l0), d1, d2, d3, d4, d5, d6] [] sh I R c F := by
  unfold fX11_findOrder_b138 at h0
  refine s_c (v := 0) (pc' := 139) (by decide +kernel) ?_
  refine s_is (i := 5) (pc' := 141) (L' := [some (.ref l0), d1, d2, d3, d4, some (.int 0), d6]) (by decide +kernel) rfl rfl ?_
  exact (vX11_findOrder_l141 hF fu) hc0 h0
set_option maxRecDepth 100000 in
set_option maxHeartbeats 4000000 in
def fX11_findOrder_b49 (fu : Nat) (sh : HS) (R : HR) (I : HI) (l0 : Nat) (l1 : Int32) (l2 : Int32) : Option HI :=
  (fX11_findOrder_l54 fu sh R (fX11_findOrder_b138 fu sh R) fu) I l0 l1 l2 (-1) 1
set_option maxRecDepth 100000 in
set_option maxHeartbeats 4000000 in
theorem vX11_findOrder_b49 {K J : Nat → Nat} {fu : Nat} {sh : HS} {R : HR} {F : VF} {o : HI} (hF : F (.inl none) sh o R) {I : HI} {l0 : Nat} {l1 : Int32} {l2 : Int32} {d3 d4 d5 d6 : Option Value} {c : Nat × Nat} (hc0 : c.1 ≤ 0 ∧ c.2 ≤ 0) (h0 : fX11_findOrder_b49 fu sh R I l0 l1 l2 = some o) : V K J 249 49 [some (.ref l0), some (.int l1), some (.int l2), d3, d4, d5, d6] [] sh I R c F := by
  unfold fX11_findOrder_b49 at h0
  refine s_c (v := (-1)) (pc' := 50) (by decide +kernel) ?_
  refine s_is (i := 3) (pc' := 51) (L' := [some (.ref l0), some (.int l1), some (.int l2), some (.int (-1)), d4, d5, d6]) (by decide +kernel) rfl rfl ?_
  refine s_c (v := 1) (pc' := 52) (by decide +kernel) ?_
  refine s_is (i := 4) (pc' := 54) (L' := [some (.ref l0), some (.int l1), some (.int l2), some (.int (-1)), some (.int 1), d5, d6]) (by decide +kernel) rfl rfl ?_
  exact (vX11_findOrder_l54 hF (vX11_findOrder_b138 hF) fu) hc0 h0
set_option maxRecDepth 100000 in
set_option maxHeartbeats 4000000 in
def fX11_findOrder_b29 (fu : Nat) (sh : HS) (R : HR) (I : HI) (l0 : Nat) (l1 : Int32) (l2 : Int32) : Option HI :=
  (fX11_findOrder_l31 fu sh R (fX11_findOrder_b49 fu sh R) fu) I l0 l1 l2 0
set_option maxRecDepth 100000 in
set_option maxHeartbeats 4000000 in
theorem vX11_findOrder_b29 {K J : Nat → Nat} {fu : Nat} {sh : HS} {R : HR} {F : VF} {o : HI} (hF : F (.inl none) sh o R) {I : HI} {l0 : Nat} {l1 : Int32} {l2 : Int32} {d3 d4 d5 d6 : Option Value} {c : Nat × Nat} (hc0 : c.1 ≤ 0 ∧ c.2 ≤ 0) (h0 : fX11_findOrder_b29 fu sh R I l0 l1 l2 = some o) : V K J 249 29 [some (.ref l0), some (.int l1), some (.int l2), d3, d4, d5, d6] [] sh I R c F := by
  unfold fX11_findOrder_b29 at h0
  refine s_c (v := 0) (pc' := 30) (by decide +kernel) ?_
  refine s_is (i := 3) (pc' := 31) (L' := [some (.ref l0), some (.int l1), some (.int l2), some (.int 0), d4, d5, d6]) (by decide +kernel) rfl rfl ?_
  exact (vX11_findOrder_l31 hF (vX11_findOrder_b49 hF) fu) hc0 h0
set_option maxRecDepth 100000 in
set_option maxHeartbeats 4000000 in
def fX11_findOrder (fu : Nat) (sh : HS) (I : HI) (R : HR) (l0 : Nat) (l1 : Int32) (l2 : Int32) : Option HI :=
  if isT sh l0 9 = true then
    ((fX11_findOrder_l2 fu sh R (fX11_findOrder_b29 fu sh R) fu) I l0 l1 l2 0)
  else none
set_option maxRecDepth 100000 in
set_option maxHeartbeats 4000000 in
theorem vX11_findOrder {K J : Nat → Nat} {fu : Nat} {sh : HS} {I : HI} {R : HR} {F : VF} {o : HI} (hF : F (.inl none) sh o R) {l0 : Nat} {l1 : Int32} {l2 : Int32} (h0 : fX11_findOrder fu sh I R l0 l1 l2 = some o) : V K J 249 0 (ent 7 [.ref l0, .int l1, .int l2]) [] sh I R (0, 0) F := by
  unfold fX11_findOrder at h0
  obtain ⟨-, h1⟩ := gd h0; clear h0
  have hc0 : ((0 : Nat), (0 : Nat)).1 ≤ 0 ∧ ((0 : Nat), (0 : Nat)).2 ≤ 0 := ⟨Nat.le_refl _, Nat.le_refl _⟩
  show V K J 249 0 [some (.ref l0), some (.int l1), some (.int l2), none, none, none, none] [] sh I R (0, 0) F
  refine s_c (v := 0) (pc' := 1) (by decide +kernel) ?_
  refine s_is (i := 3) (pc' := 2) (L' := [some (.ref l0), some (.int l1), some (.int l2), some (.int 0), none, none, none]) (by decide +kernel) rfl rfl ?_
  exact (vX11_findOrder_l2 hF (vX11_findOrder_b29 hF) fu) hc0 h1
set_option maxRecDepth 100000 in
set_option maxHeartbeats 4000000 in
theorem kX11_findOrder {K J : Nat → Nat} {fu : Nat} {sh : HS} {I : HI} {R : HR} {F : VF} {mi pc pc' X Y X' Y' : Nat} {L : VL} {rest : List Value} {c : Nat × Nat} {l0 : Nat} {l1 : Int32} {l2 : Int32} {ω : Type} {o : ω} {g : HI → Option ω} (hq : cQ mi pc 249 3 pc' X Y X' Y' = true) (hc : c.1 ≤ X ∧ c.2 ≤ Y) (hr : Nat.ble (catS rest) 8 = true) (h : (fX11_findOrder fu sh I R l0 l1 l2).bind g = some o) (kk : ∀ w c', (c'.1 ≤ X' ∧ c'.2 ≤ Y') → g w = some o → V K J mi pc' L (rest) sh w R c' F) : V K J mi pc L (.int l2 :: .int l1 :: .ref l0 :: rest) sh I R c F := by
  obtain ⟨r, h1, h2⟩ := bnd h
  have hT : isT sh l0 9 = true := by unfold fX11_findOrder at h1; exact (gd h1).1
  have ml : mL 249 = 7 := by decide +kernel
  have mk : mK 249 = 1 := by decide +kernel
  have mc : mC 249 = 9 := by decide +kernel
  refine s_call (as := [.int l2, .int l1, .ref l0]) (G := fun o' sh' I' R' => o' = .inl none ∧ sh' = sh ∧ I' = r ∧ R' = R) hq hc rfl hr (by rw [ml]; rfl) (Or.inl rfl) (fun _ => Or.inl ⟨by rw [mc]; decide, by rw [mc]; exact isT_iff.mp hT⟩) (fun z => absurd (mk.symm.trans z) (by decide)) (by rw [ml]; exact vX11_findOrder (F := fun o' sh' I' R' => o' = .inl none ∧ sh' = sh ∧ I' = r ∧ R' = R) ⟨rfl, rfl, rfl, rfl⟩ h1) ?_ ?_ ?_
  · rintro sh' I' R' c' hc' ⟨g1, rfl, rfl, rfl⟩
    cases g1
    exact kk _ _ hc' h2
  · rintro v' sh' I' R' c' hc' ⟨g1, rfl, rfl, rfl⟩
    cases g1
  · rintro E' sh' I' R' ⟨g1, rfl, rfl, rfl⟩
    cases g1
set_option maxRecDepth 100000 in
set_option maxHeartbeats 4000000 in
def fX11_bestShot_b63 (fu : Nat) (sh : HS) (R : HR) (k63 : HI → Nat → Int32 → Int32 → Int32 → Int32 → Option (Int32 × HI)) (I : HI) (l0 : Nat) (l1 : Int32) (l2 : Int32) (l3 : Int32) (l4 : Int32) : Option (Int32 × HI) :=
  (fX11_sceneOf fu sh I R l0 l4).bind fun v5 =>
  if v5 = l1 then
    ((fX11_findOrder fu sh I R l0 l4 l3).bind fun w6 =>
    (oR sh R l0 9 17).bind fun v7 =>
    (oA sh w6 v7 l2).bind fun v8 =>
    some ((l4 + v8), w6))
  else
    (k63 I l0 l1 l2 l3 (l4 + 1))
set_option maxRecDepth 100000 in
set_option maxHeartbeats 4000000 in
theorem vX11_bestShot_b63 {K J : Nat → Nat} {fu : Nat} {sh : HS} {R : HR} {F : VF} {o : (Int32 × HI)} (hF : F (.inl (some (.int o.1))) sh o.2 R) {k63 : HI → Nat → Int32 → Int32 → Int32 → Int32 → Option (Int32 × HI)} (hk63 : ∀ {I : HI} {l0 : Nat} {l1 : Int32} {l2 : Int32} {l3 : Int32} {l4 : Int32}  {c : Nat × Nat}, (c.1 ≤ 0 ∧ c.2 ≤ 0) → k63 I l0 l1 l2 l3 l4 = some o → V K J 250 63 [some (.ref l0), some (.int l1), some (.int l2), some (.int l3), some (.int l4)] [] sh I R c F) {I : HI} {l0 : Nat} {l1 : Int32} {l2 : Int32} {l3 : Int32} {l4 : Int32} {c : Nat × Nat} (hc0 : c.1 ≤ 0 ∧ c.2 ≤ 0) (h0 : fX11_bestShot_b63 fu sh R k63 I l0 l1 l2 l3 l4 = some o) : V K J 250 63 [some (.ref l0), some (.int l1), some (.int l2), some (.int l3), some (.int l4)] [] sh I R c F := by
  unfold fX11_bestShot_b63 at h0
  refine s_rl (i := 0) (pc' := 64) (by decide +kernel) rfl ?_
  refine s_il (i := 4) (pc' := 66) (by decide +kernel) rfl ?_
  refine kX11_sceneOf (X := 0) (Y := 0) (X' := 0) (Y' := 0) (pc' := 69) (by decide +kernel) hc0 rfl h0 (fun v5 c hc1 h1 => ?_); clear h0 hc0
  refine s_il (i := 1) (pc' := 70) (by decide +kernel) rfl ?_
  refine s_if (ins := .if_icmp .eq 9) (t := 79) (pc' := 73) (by decide +kernel) rfl rfl rfl h1 (fun p2 h2 => ?_) (fun p2 h2 => ?_) <;> clear h1
  · refine s_rl (i := 0) (pc' := 80) (by decide +kernel) rfl ?_
    refine s_il (i := 4) (pc' := 82) (by decide +kernel) rfl ?_
    refine s_il (i := 3) (pc' := 83) (by decide +kernel) rfl ?_
    refine kX11_findOrder (X := 0) (Y := 0) (X' := 0) (Y' := 0) (pc' := 86) (by decide +kernel) hc1 rfl h2 (fun w6 c hc2 h3 => ?_); clear h2 hc1
    refine s_il (i := 4) (pc' := 88) (by decide +kernel) rfl ?_
    refine s_rl (i := 0) (pc' := 89) (by decide +kernel) rfl ?_
    refine s_gR (t := 9) (j := 17) (pc' := 92) (by decide +kernel) h3 (fun v7 h4 => ?_); clear h3
    refine s_il (i := 2) (pc' := 93) (by decide +kernel) rfl ?_
    refine s_al (pc' := 94) (by decide +kernel) h4 (fun v8 h5 => ?_); clear h4
    refine s_a (ins := .iadd) (pc' := 95) (by decide +kernel) rfl ?_
    have e9 := Option.some.inj h5; subst e9
    exact s_ri (X := 0) (Y := 0) (by decide +kernel) hc2 hF
  · refine s_inc (i := 4) (z := 1) (pc' := 76) (L' := [some (.ref l0), some (.int l1), some (.int l2), some (.int l3), some (.int (l4 + 1))]) (by decide +kernel) rfl rfl rfl ?_
    refine s_go (t := 63) (by decide +kernel) ?_
    exact hk63 hc1 h2
set_option maxRecDepth 100000 in
set_option maxHeartbeats 4000000 in
def fX11_bestShot_l63 (fu : Nat) (sh : HS) (R : HR) : Nat → HI → Nat → Int32 → Int32 → Int32 → Int32 → Option (Int32 × HI)
  | 0 => fun _ _ _ _ _ _ => none
  | n + 1 => fX11_bestShot_b63 fu sh R (fX11_bestShot_l63 fu sh R n)
set_option maxRecDepth 100000 in
set_option maxHeartbeats 4000000 in
theorem vX11_bestShot_l63 {K J : Nat → Nat} {fu : Nat} {sh : HS} {R : HR} {F : VF} {o : (Int32 × HI)} (hF : F (.inl (some (.int o.1))) sh o.2 R) : ∀ (n : Nat) {I : HI} {l0 : Nat} {l1 : Int32} {l2 : Int32} {l3 : Int32} {l4 : Int32} {c : Nat × Nat} (_ : c.1 ≤ 0 ∧ c.2 ≤ 0) (_ : fX11_bestShot_l63 fu sh R n I l0 l1 l2 l3 l4 = some o), V K J 250 63 [some (.ref l0), some (.int l1), some (.int l2), some (.int l3), some (.int l4)] [] sh I R c F := by
  intro n
  induction n with
  | zero => exact fun _ h0 => nomatch h0
  | succ n ih => exact fun hc0 h0 => vX11_bestShot_b63 hF ih hc0 h0
set_option maxRecDepth 100000 in
set_option maxHeartbeats 4000000 in
def fX11_bestShot_b52 (fu : Nat) (sh : HS) (R : HR) (I : HI) (l0 : Nat) (l1 : Int32) (l2 : Int32) (l3 : Int32) (s0 : Int32) (s1 : Nat) : Option (Int32 × HI) :=
  oH (fX11_lacks fu sh I R s1 s0) fun v4 w4 =>
  if v4 = 0 then
    ((fX11_bestShot_l63 fu sh R fu) w4 l0 l1 l2 l3 0)
  else
    (some (0, w4))
set_option maxRecDepth 100000 in
set_option maxHeartbeats 4000000 in
theorem vX11_bestShot_b52 {K J : Nat → Nat} {fu : Nat} {sh : HS} {R : HR} {F : VF} {o : (Int32 × HI)} (hF : F (.inl (some (.int o.1))) sh o.2 R) {I : HI} {l0 : Nat} {l1 : Int32} {l2 : Int32} {l3 : Int32} {s0 : Int32} {s1 : Nat} {d4 : Option Value} {c : Nat × Nat} (hc0 : c.1 ≤ 0 ∧ c.2 ≤ 0) (h0 : fX11_bestShot_b52 fu sh R I l0 l1 l2 l3 s0 s1 = some o) : V K J 250 52 [some (.ref l0), some (.int l1), some (.int l2), some (.int l3), d4] [.int s0, .ref s1] sh I R c F := by
  unfold fX11_bestShot_b52 at h0
  refine kX11_lacks (X := 0) (Y := 0) (X' := 0) (Y' := 0) (pc' := 55) (by decide +kernel) hc0 rfl h0 (fun v4 w4 c hc1 h1 => ?_); clear h0 hc0
  refine s_if (ins := .ifCond .eq 5) (t := 60) (pc' := 58) (by decide +kernel) rfl rfl rfl h1 (fun p2 h2 => ?_) (fun p2 h2 => ?_) <;> clear h1
  · refine s_c (v := 0) (pc' := 61) (by decide +kernel) ?_
    refine s_is (i := 4) (pc' := 63) (L' := [some (.ref l0), some (.int l1), some (.int l2), some (.int l3), some (.int 0)]) (by decide +kernel) rfl rfl ?_
    exact (vX11_bestShot_l63 hF fu) hc1 h2
  · refine s_c (v := 0) (pc' := 59) (by decide +kernel) ?_
    have e9 := Option.some.inj h2; subst e9
    exact s_ri (X := 0) (Y := 0) (by decide +kernel) hc1 hF
set_option maxRecDepth 100000 in
set_option maxHeartbeats 4000000 in
def fX11_bestShot_b18 (fu : Nat) (sh : HS) (R : HR) (I : HI) (l0 : Nat) (l1 : Int32) (l2 : Int32) (s0 : Int32) (s1 : Nat) : Option (Int32 × HI) :=
  oH (fX11_isWrong fu sh I R s1 s0) fun v2 w2 =>
  if v2 = 0 then
    ((fX11_shotsOf fu sh w2 R l0 l1).bind fun v3 =>
    if v3 ≤ 6 then
      (if v3 ≤ l2 then
        ((fX11_bestShot_b52 fu sh R) w2 l0 l1 l2 v3 0 l0)
      else
        ((fX11_bestShot_b52 fu sh R) w2 l0 l1 l2 v3 1 l0))
    else
      (some ((-2), w2)))
  else
    (some (0, w2))
set_option maxRecDepth 100000 in
set_option maxHeartbeats 4000000 in
theorem vX11_bestShot_b18 {K J : Nat → Nat} {fu : Nat} {sh : HS} {R : HR} {F : VF} {o : (Int32 × HI)} (hF : F (.inl (some (.int o.1))) sh o.2 R) {I : HI} {l0 : Nat} {l1 : Int32} {l2 : Int32} {s0 : Int32} {s1 : Nat} {d3 d4 : Option Value} {c : Nat × Nat} (hc0 : c.1 ≤ 0 ∧ c.2 ≤ 0) (h0 : fX11_bestShot_b18 fu sh R I l0 l1 l2 s0 s1 = some o) : V K J 250 18 [some (.ref l0), some (.int l1), some (.int l2), d3, d4] [.int s0, .ref s1] sh I R c F := by
  unfold fX11_bestShot_b18 at h0
  refine kX11_isWrong (X := 0) (Y := 0) (X' := 0) (Y' := 0) (pc' := 21) (by decide +kernel) hc0 rfl h0 (fun v2 w2 c hc1 h1 => ?_); clear h0 hc0
  refine s_if (ins := .ifCond .eq 5) (t := 26) (pc' := 24) (by decide +kernel) rfl rfl rfl h1 (fun p2 h2 => ?_) (fun p2 h2 => ?_) <;> clear h1
  · refine s_rl (i := 0) (pc' := 27) (by decide +kernel) rfl ?_
    refine s_il (i := 1) (pc' := 28) (by decide +kernel) rfl ?_
    refine kX11_shotsOf (X := 0) (Y := 0) (X' := 0) (Y' := 0) (pc' := 31) (by decide +kernel) hc1 rfl h2 (fun v3 c hc2 h3 => ?_); clear h2 hc1
    refine s_is (i := 3) (pc' := 32) (L' := [some (.ref l0), some (.int l1), some (.int l2), some (.int v3), d4]) (by decide +kernel) rfl rfl ?_
    refine s_il (i := 3) (pc' := 33) (by decide +kernel) rfl ?_
    refine s_c (v := 6) (pc' := 35) (by decide +kernel) ?_
    refine s_if (ins := .if_icmp .le 6) (t := 41) (pc' := 38) (by decide +kernel) rfl rfl rfl h3 (fun p4 h4 => ?_) (fun p4 h4 => ?_) <;> clear h3
    · refine s_rl (i := 0) (pc' := 42) (by decide +kernel) rfl ?_
      refine s_il (i := 2) (pc' := 43) (by decide +kernel) rfl ?_
      refine s_il (i := 3) (pc' := 44) (by decide +kernel) rfl ?_
      refine s_if (ins := .if_icmp .ge 7) (t := 51) (pc' := 47) (by decide +kernel) rfl rfl rfl h4 (fun p5 h5 => ?_) (fun p5 h5 => ?_) <;> clear h4
      · refine s_c (v := 0) (pc' := 52) (by decide +kernel) ?_
        exact (vX11_bestShot_b52 hF) hc2 h5
      · refine s_c (v := 1) (pc' := 48) (by decide +kernel) ?_
        refine s_go (t := 52) (by decide +kernel) ?_
        exact (vX11_bestShot_b52 hF) hc2 h5
    · refine s_c (v := (-2)) (pc' := 40) (by decide +kernel) ?_
      have e9 := Option.some.inj h4; subst e9
      exact s_ri (X := 0) (Y := 0) (by decide +kernel) hc2 hF
  · refine s_c (v := 0) (pc' := 25) (by decide +kernel) ?_
    have e9 := Option.some.inj h2; subst e9
    exact s_ri (X := 0) (Y := 0) (by decide +kernel) hc1 hF
set_option maxRecDepth 100000 in
set_option maxHeartbeats 4000000 in
def fX11_bestShot_b17 (fu : Nat) (sh : HS) (R : HR) (I : HI) (l0 : Nat) (l1 : Int32) (l2 : Int32) (s0 : Nat) : Option (Int32 × HI) :=
  (fX11_bestShot_b18 fu sh R) I l0 l1 l2 0 s0
set_option maxRecDepth 100000 in
set_option maxHeartbeats 4000000 in
theorem vX11_bestShot_b17 {K J : Nat → Nat} {fu : Nat} {sh : HS} {R : HR} {F : VF} {o : (Int32 × HI)} (hF : F (.inl (some (.int o.1))) sh o.2 R) {I : HI} {l0 : Nat} {l1 : Int32} {l2 : Int32} {s0 : Nat} {d3 d4 : Option Value} {c : Nat × Nat} (hc0 : c.1 ≤ 0 ∧ c.2 ≤ 0) (h0 : fX11_bestShot_b17 fu sh R I l0 l1 l2 s0 = some o) : V K J 250 17 [some (.ref l0), some (.int l1), some (.int l2), d3, d4] [.ref s0] sh I R c F := by
  unfold fX11_bestShot_b17 at h0
  refine s_c (v := 0) (pc' := 18) (by decide +kernel) ?_
  exact (vX11_bestShot_b18 hF) hc0 h0
set_option maxRecDepth 100000 in
set_option maxHeartbeats 4000000 in
def fX11_bestShot (fu : Nat) (sh : HS) (I : HI) (R : HR) (l0 : Nat) (l1 : Int32) (l2 : Int32) : Option (Int32 × HI) :=
  if isT sh l0 9 = true then
    ((fX11_isScene fu sh I R l0 l1).bind fun v1 =>
    if v1 = 0 then
      ((fX11_bestShot_b17 fu sh R) I l0 l1 l2 l0)
    else
      (if l2 < 0 then
        ((fX11_bestShot_b17 fu sh R) I l0 l1 l2 l0)
      else
        ((fX11_bestShot_b18 fu sh R) I l0 l1 l2 1 l0)))
  else none
set_option maxRecDepth 100000 in
set_option maxHeartbeats 4000000 in
theorem vX11_bestShot {K J : Nat → Nat} {fu : Nat} {sh : HS} {I : HI} {R : HR} {F : VF} {o : (Int32 × HI)} (hF : F (.inl (some (.int o.1))) sh o.2 R) {l0 : Nat} {l1 : Int32} {l2 : Int32} (h0 : fX11_bestShot fu sh I R l0 l1 l2 = some o) : V K J 250 0 (ent 5 [.ref l0, .int l1, .int l2]) [] sh I R (0, 0) F := by
  unfold fX11_bestShot at h0
  obtain ⟨-, h1⟩ := gd h0; clear h0
  have hc0 : ((0 : Nat), (0 : Nat)).1 ≤ 0 ∧ ((0 : Nat), (0 : Nat)).2 ≤ 0 := ⟨Nat.le_refl _, Nat.le_refl _⟩
  show V K J 250 0 [some (.ref l0), some (.int l1), some (.int l2), none, none] [] sh I R (0, 0) F
  refine s_rl (i := 0) (pc' := 1) (by decide +kernel) rfl ?_
  refine s_rl (i := 0) (pc' := 2) (by decide +kernel) rfl ?_
  refine s_il (i := 1) (pc' := 3) (by decide +kernel) rfl ?_
  refine kX11_isScene (X := 0) (Y := 0) (X' := 0) (Y' := 0) (pc' := 6) (by decide +kernel) hc0 rfl h1 (fun v1 c hc1 h2 => ?_); clear h1 hc0
  refine s_if (ins := .ifCond .eq 11) (t := 17) (pc' := 9) (by decide +kernel) rfl rfl rfl h2 (fun p3 h3 => ?_) (fun p3 h3 => ?_) <;> clear h2
  · exact (vX11_bestShot_b17 hF) hc1 h3
  · refine s_il (i := 2) (pc' := 10) (by decide +kernel) rfl ?_
    refine s_if (ins := .ifCond .lt 7) (t := 17) (pc' := 13) (by decide +kernel) rfl rfl rfl h3 (fun p4 h4 => ?_) (fun p4 h4 => ?_) <;> clear h3
    · exact (vX11_bestShot_b17 hF) hc1 h4
    · refine s_c (v := 1) (pc' := 14) (by decide +kernel) ?_
      refine s_go (t := 18) (by decide +kernel) ?_
      exact (vX11_bestShot_b18 hF) hc1 h4
set_option maxRecDepth 100000 in
set_option maxHeartbeats 4000000 in
theorem kX11_bestShot {K J : Nat → Nat} {fu : Nat} {sh : HS} {I : HI} {R : HR} {F : VF} {mi pc pc' X Y X' Y' : Nat} {L : VL} {rest : List Value} {c : Nat × Nat} {l0 : Nat} {l1 : Int32} {l2 : Int32} {ω : Type} {o : ω} {g : Int32 → HI → Option ω} (hq : cQ mi pc 250 3 pc' X Y X' Y' = true) (hc : c.1 ≤ X ∧ c.2 ≤ Y) (hr : Nat.ble (catS rest) 8 = true) (h : oH (fX11_bestShot fu sh I R l0 l1 l2) g = some o) (kk : ∀ v w c', (c'.1 ≤ X' ∧ c'.2 ≤ Y') → g v w = some o → V K J mi pc' L ((.int v) :: rest) sh w R c' F) : V K J mi pc L (.int l2 :: .int l1 :: .ref l0 :: rest) sh I R c F := by
  obtain ⟨r, h1, h2⟩ := bnd h
  have hT : isT sh l0 9 = true := by unfold fX11_bestShot at h1; exact (gd h1).1
  have ml : mL 250 = 5 := by decide +kernel
  have mk : mK 250 = 1 := by decide +kernel
  have mc : mC 250 = 9 := by decide +kernel
  obtain ⟨v, w⟩ := r
  refine s_call (as := [.int l2, .int l1, .ref l0]) (G := fun o' sh' I' R' => o' = .inl (some (.int v)) ∧ sh' = sh ∧ I' = w ∧ R' = R) hq hc rfl hr (by rw [ml]; rfl) (Or.inl rfl) (fun _ => Or.inl ⟨by rw [mc]; decide, by rw [mc]; exact isT_iff.mp hT⟩) (fun z => absurd (mk.symm.trans z) (by decide)) (by rw [ml]; exact vX11_bestShot (F := fun o' sh' I' R' => o' = .inl (some (.int v)) ∧ sh' = sh ∧ I' = w ∧ R' = R) ⟨rfl, rfl, rfl, rfl⟩ h1) ?_ ?_ ?_
  · rintro sh' I' R' c' hc' ⟨g1, rfl, rfl, rfl⟩
    cases g1
  · rintro v' sh' I' R' c' hc' ⟨g1, rfl, rfl, rfl⟩
    cases g1
    exact kk _ _ _ hc' h2
  · rintro E' sh' I' R' ⟨g1, rfl, rfl, rfl⟩
    cases g1
set_option maxRecDepth 100000 in
set_option maxHeartbeats 4000000 in
def fX11_actorsIn_b37 (fu : Nat) (sh : HS) (I : HI) (R : HR) (k4 : Nat → Int32 → Int32 → Int32 → Option Int32) (l0 : Nat) (l1 : Int32) (l3 : Int32) (s0 : Int32) (s1 : Int32) : Option Int32 :=
  k4 l0 l1 (s1 ||| s0) (l3 + 1)
set_option maxRecDepth 100000 in
set_option maxHeartbeats 4000000 in
theorem vX11_actorsIn_b37 {K J : Nat → Nat} {fu : Nat} {sh : HS} {I : HI} {R : HR} {F : VF} {o : Int32} (hF : F (.inl (some (.int o))) sh I R) {k4 : Nat → Int32 → Int32 → Int32 → Option Int32} (hk4 : ∀ {l0 : Nat} {l1 : Int32} {l2 : Int32} {l3 : Int32}  {c : Nat × Nat}, (c.1 ≤ 0 ∧ c.2 ≤ 0) → k4 l0 l1 l2 l3 = some o → V K J 252 4 [some (.ref l0), some (.int l1), some (.int l2), some (.int l3)] [] sh I R c F) {l0 : Nat} {l1 : Int32} {l3 : Int32} {s0 : Int32} {s1 : Int32} {d2 : Option Value} {c : Nat × Nat} (hc0 : c.1 ≤ 0 ∧ c.2 ≤ 0) (h0 : fX11_actorsIn_b37 fu sh I R k4 l0 l1 l3 s0 s1 = some o) : V K J 252 37 [some (.ref l0), some (.int l1), d2, some (.int l3)] [.int s0, .int s1] sh I R c F := by
  unfold fX11_actorsIn_b37 at h0
  refine s_a (ins := .ior) (pc' := 38) (by decide +kernel) rfl ?_
  refine s_is (i := 2) (pc' := 39) (L' := [some (.ref l0), some (.int l1), some (.int (s1 ||| s0)), some (.int l3)]) (by decide +kernel) rfl rfl ?_
  refine s_inc (i := 3) (z := 1) (pc' := 42) (L' := [some (.ref l0), some (.int l1), some (.int (s1 ||| s0)), some (.int (l3 + 1))]) (by decide +kernel) rfl rfl rfl ?_
  refine s_go (t := 4) (by decide +kernel) ?_
  exact hk4 hc0 h0
set_option maxRecDepth 100000 in
set_option maxHeartbeats 4000000 in
def fX11_actorsIn_b4 (fu : Nat) (sh : HS) (I : HI) (R : HR) (k4 : Nat → Int32 → Int32 → Int32 → Option Int32) (l0 : Nat) (l1 : Int32) (l2 : Int32) (l3 : Int32) : Option Int32 :=
  (oR sh R l0 9 0).bind fun v1 =>
  (oA sh I v1 4).bind fun v2 =>
  if v2 ≤ l3 then
    (some l2)
  else
    ((oR sh R l0 9 21).bind fun v3 =>
    (oA sh I v3 l1).bind fun v4 =>
    (fX11_has fu sh I R v4 l3).bind fun v5 =>
    if v5 = 0 then
      ((fX11_actorsIn_b37 fu sh I R k4) l0 l1 l3 0 l2)
    else
      ((fX11_visibleIn fu sh I R l0 l3).bind fun v6 =>
      (fX11_actorsIn_b37 fu sh I R k4) l0 l1 l3 v6 l2))
set_option maxRecDepth 100000 in
set_option maxHeartbeats 4000000 in
theorem vX11_actorsIn_b4 {K J : Nat → Nat} {fu : Nat} {sh : HS} {I : HI} {R : HR} {F : VF} {o : Int32} (hF : F (.inl (some (.int o))) sh I R) {k4 : Nat → Int32 → Int32 → Int32 → Option Int32} (hk4 : ∀ {l0 : Nat} {l1 : Int32} {l2 : Int32} {l3 : Int32}  {c : Nat × Nat}, (c.1 ≤ 0 ∧ c.2 ≤ 0) → k4 l0 l1 l2 l3 = some o → V K J 252 4 [some (.ref l0), some (.int l1), some (.int l2), some (.int l3)] [] sh I R c F) {l0 : Nat} {l1 : Int32} {l2 : Int32} {l3 : Int32} {c : Nat × Nat} (hc0 : c.1 ≤ 0 ∧ c.2 ≤ 0) (h0 : fX11_actorsIn_b4 fu sh I R k4 l0 l1 l2 l3 = some o) : V K J 252 4 [some (.ref l0), some (.int l1), some (.int l2), some (.int l3)] [] sh I R c F := by
  unfold fX11_actorsIn_b4 at h0
  refine s_il (i := 3) (pc' := 5) (by decide +kernel) rfl ?_
  refine s_rl (i := 0) (pc' := 6) (by decide +kernel) rfl ?_
  refine s_gR (t := 9) (j := 0) (pc' := 9) (by decide +kernel) h0 (fun v1 h1 => ?_); clear h0
  refine s_c (v := 4) (pc' := 10) (by decide +kernel) ?_
  refine s_al (pc' := 11) (by decide +kernel) h1 (fun v2 h2 => ?_); clear h1
  refine s_if (ins := .if_icmp .ge 34) (t := 45) (pc' := 14) (by decide +kernel) rfl rfl rfl h2 (fun p3 h3 => ?_) (fun p3 h3 => ?_) <;> clear h2
  · refine s_il (i := 2) (pc' := 46) (by decide +kernel) rfl ?_
    have e9 := Option.some.inj h3; subst e9
    exact s_ri (X := 0) (Y := 0) (by decide +kernel) hc0 hF
  · refine s_il (i := 2) (pc' := 15) (by decide +kernel) rfl ?_
    refine s_rl (i := 0) (pc' := 16) (by decide +kernel) rfl ?_
    refine s_gR (t := 9) (j := 21) (pc' := 19) (by decide +kernel) h3 (fun v3 h4 => ?_); clear h3
    refine s_il (i := 1) (pc' := 20) (by decide +kernel) rfl ?_
    refine s_al (pc' := 21) (by decide +kernel) h4 (fun v4 h5 => ?_); clear h4
    refine s_il (i := 3) (pc' := 22) (by decide +kernel) rfl ?_
    refine kX11_has (X := 0) (Y := 0) (X' := 0) (Y' := 0) (pc' := 25) (by decide +kernel) hc0 rfl h5 (fun v5 c hc1 h6 => ?_); clear h5 hc0
    refine s_if (ins := .ifCond .eq 11) (t := 36) (pc' := 28) (by decide +kernel) rfl rfl rfl h6 (fun p7 h7 => ?_) (fun p7 h7 => ?_) <;> clear h6
    · refine s_c (v := 0) (pc' := 37) (by decide +kernel) ?_
      exact (vX11_actorsIn_b37 hF hk4) hc1 h7
    · refine s_rl (i := 0) (pc' := 29) (by decide +kernel) rfl ?_
      refine s_il (i := 3) (pc' := 30) (by decide +kernel) rfl ?_
      refine kX11_visibleIn (X := 0) (Y := 0) (X' := 0) (Y' := 0) (pc' := 33) (by decide +kernel) hc1 rfl h7 (fun v6 c hc2 h8 => ?_); clear h7 hc1
      refine s_go (t := 37) (by decide +kernel) ?_
      exact (vX11_actorsIn_b37 hF hk4) hc2 h8
set_option maxRecDepth 100000 in
set_option maxHeartbeats 4000000 in
def fX11_actorsIn_l4 (fu : Nat) (sh : HS) (I : HI) (R : HR) : Nat → Nat → Int32 → Int32 → Int32 → Option Int32
  | 0 => fun _ _ _ _ => none
  | n + 1 => fX11_actorsIn_b4 fu sh I R (fX11_actorsIn_l4 fu sh I R n)
set_option maxRecDepth 100000 in
set_option maxHeartbeats 4000000 in
theorem vX11_actorsIn_l4 {K J : Nat → Nat} {fu : Nat} {sh : HS} {I : HI} {R : HR} {F : VF} {o : Int32} (hF : F (.inl (some (.int o))) sh I R) : ∀ (n : Nat) {l0 : Nat} {l1 : Int32} {l2 : Int32} {l3 : Int32} {c : Nat × Nat} (_ : c.1 ≤ 0 ∧ c.2 ≤ 0) (_ : fX11_actorsIn_l4 fu sh I R n l0 l1 l2 l3 = some o), V K J 252 4 [some (.ref l0), some (.int l1), some (.int l2), some (.int l3)] [] sh I R c F := by
  intro n
  induction n with
  | zero => exact fun _ h0 => nomatch h0
  | succ n ih => exact fun hc0 h0 => vX11_actorsIn_b4 hF ih hc0 h0
set_option maxRecDepth 100000 in
set_option maxHeartbeats 4000000 in
def fX11_actorsIn (fu : Nat) (sh : HS) (I : HI) (R : HR) (l0 : Nat) (l1 : Int32) : Option Int32 :=
  if isT sh l0 9 = true then
    ((fX11_actorsIn_l4 fu sh I R fu) l0 l1 0 0)
  else none
set_option maxRecDepth 100000 in
set_option maxHeartbeats 4000000 in
theorem vX11_actorsIn {K J : Nat → Nat} {fu : Nat} {sh : HS} {I : HI} {R : HR} {F : VF} {o : Int32} (hF : F (.inl (some (.int o))) sh I R) {l0 : Nat} {l1 : Int32} (h0 : fX11_actorsIn fu sh I R l0 l1 = some o) : V K J 252 0 (ent 4 [.ref l0, .int l1]) [] sh I R (0, 0) F := by
  unfold fX11_actorsIn at h0
  obtain ⟨-, h1⟩ := gd h0; clear h0
  have hc0 : ((0 : Nat), (0 : Nat)).1 ≤ 0 ∧ ((0 : Nat), (0 : Nat)).2 ≤ 0 := ⟨Nat.le_refl _, Nat.le_refl _⟩
  show V K J 252 0 [some (.ref l0), some (.int l1), none, none] [] sh I R (0, 0) F
  refine s_c (v := 0) (pc' := 1) (by decide +kernel) ?_
  refine s_is (i := 2) (pc' := 2) (L' := [some (.ref l0), some (.int l1), some (.int 0), none]) (by decide +kernel) rfl rfl ?_
  refine s_c (v := 0) (pc' := 3) (by decide +kernel) ?_
  refine s_is (i := 3) (pc' := 4) (L' := [some (.ref l0), some (.int l1), some (.int 0), some (.int 0)]) (by decide +kernel) rfl rfl ?_
  exact (vX11_actorsIn_l4 hF fu) hc0 h1
set_option maxRecDepth 100000 in
set_option maxHeartbeats 4000000 in
theorem kX11_actorsIn {K J : Nat → Nat} {fu : Nat} {sh : HS} {I : HI} {R : HR} {F : VF} {mi pc pc' X Y X' Y' : Nat} {L : VL} {rest : List Value} {c : Nat × Nat} {l0 : Nat} {l1 : Int32} {ω : Type} {o : ω} {g : Int32 → Option ω} (hq : cQ mi pc 252 2 pc' X Y X' Y' = true) (hc : c.1 ≤ X ∧ c.2 ≤ Y) (hr : Nat.ble (catS rest) 8 = true) (h : (fX11_actorsIn fu sh I R l0 l1).bind g = some o) (kk : ∀ v c', (c'.1 ≤ X' ∧ c'.2 ≤ Y') → g v = some o → V K J mi pc' L ((.int v) :: rest) sh I R c' F) : V K J mi pc L (.int l1 :: .ref l0 :: rest) sh I R c F := by
  obtain ⟨r, h1, h2⟩ := bnd h
  have hT : isT sh l0 9 = true := by unfold fX11_actorsIn at h1; exact (gd h1).1
  have ml : mL 252 = 4 := by decide +kernel
  have mk : mK 252 = 1 := by decide +kernel
  have mc : mC 252 = 9 := by decide +kernel
  refine s_call (as := [.int l1, .ref l0]) (G := fun o' sh' I' R' => o' = .inl (some (.int r)) ∧ sh' = sh ∧ I' = I ∧ R' = R) hq hc rfl hr (by rw [ml]; rfl) (Or.inl rfl) (fun _ => Or.inl ⟨by rw [mc]; decide, by rw [mc]; exact isT_iff.mp hT⟩) (fun z => absurd (mk.symm.trans z) (by decide)) (by rw [ml]; exact vX11_actorsIn (F := fun o' sh' I' R' => o' = .inl (some (.int r)) ∧ sh' = sh ∧ I' = I ∧ R' = R) ⟨rfl, rfl, rfl, rfl⟩ h1) ?_ ?_ ?_
  · rintro sh' I' R' c' hc' ⟨g1, rfl, rfl, rfl⟩
    cases g1
  · rintro v' sh' I' R' c' hc' ⟨g1, rfl, rfl, rfl⟩
    cases g1
    exact kk _ _ hc' h2
  · rintro E' sh' I' R' ⟨g1, rfl, rfl, rfl⟩
    cases g1
set_option maxRecDepth 100000 in
set_option maxHeartbeats 4000000 in
def fX11_setups_b22 (fu : Nat) (sh : HS) (R : HR) (I : HI) (s0 : Int32) : Option (Int32 × HI) :=
  some (s0, I)
set_option maxRecDepth 100000 in
set_option maxHeartbeats 4000000 in
theorem vX11_setups_b22 {K J : Nat → Nat} {fu : Nat} {sh : HS} {R : HR} {F : VF} {o : (Int32 × HI)} (hF : F (.inl (some (.int o.1))) sh o.2 R) {I : HI} {s0 : Int32} {d0 : Option Value} {c : Nat × Nat} (hc0 : c.1 ≤ 0 ∧ c.2 ≤ 0) (h0 : fX11_setups_b22 fu sh R I s0 = some o) : V K J 254 22 [d0] [.int s0] sh I R c F := by
  unfold fX11_setups_b22 at h0
  have e9 := Option.some.inj h0; subst e9
  exact s_ri (X := 0) (Y := 0) (by decide +kernel) hc0 hF
set_option maxRecDepth 100000 in
set_option maxHeartbeats 4000000 in
def fX11_setups (fu : Nat) (sh : HS) (I : HI) (R : HR) (l0 : Nat) : Option (Int32 × HI) :=
  if isT sh l0 9 = true then
    (oH (fX11_isWrong fu sh I R l0 1) fun v1 w1 =>
    if v1 = 0 then
      ((oR sh R l0 9 0).bind fun v2 =>
      (oA sh w1 v2 0).bind fun v3 =>
      oH (fX11_setupsNow fu sh w1 R l0 v3) fun v4 w4 =>
      (fX11_setups_b22 fu sh R) w4 v4)
    else
      ((fX11_setups_b22 fu sh R) w1 0))
  else none
set_option maxRecDepth 100000 in
set_option maxHeartbeats 4000000 in
theorem vX11_setups {K J : Nat → Nat} {fu : Nat} {sh : HS} {I : HI} {R : HR} {F : VF} {o : (Int32 × HI)} (hF : F (.inl (some (.int o.1))) sh o.2 R) {l0 : Nat} (h0 : fX11_setups fu sh I R l0 = some o) : V K J 254 0 (ent 1 [.ref l0]) [] sh I R (0, 0) F := by
  unfold fX11_setups at h0
  obtain ⟨-, h1⟩ := gd h0; clear h0
  have hc0 : ((0 : Nat), (0 : Nat)).1 ≤ 0 ∧ ((0 : Nat), (0 : Nat)).2 ≤ 0 := ⟨Nat.le_refl _, Nat.le_refl _⟩
  show V K J 254 0 [some (.ref l0)] [] sh I R (0, 0) F
  refine s_rl (i := 0) (pc' := 1) (by decide +kernel) rfl ?_
  refine s_c (v := 1) (pc' := 2) (by decide +kernel) ?_
  refine kX11_isWrong (X := 0) (Y := 0) (X' := 0) (Y' := 0) (pc' := 5) (by decide +kernel) hc0 rfl h1 (fun v1 w1 c hc1 h2 => ?_); clear h1 hc0
  refine s_if (ins := .ifCond .eq 7) (t := 12) (pc' := 8) (by decide +kernel) rfl rfl rfl h2 (fun p3 h3 => ?_) (fun p3 h3 => ?_) <;> clear h2
  · refine s_rl (i := 0) (pc' := 13) (by decide +kernel) rfl ?_
    refine s_rl (i := 0) (pc' := 14) (by decide +kernel) rfl ?_
    refine s_gR (t := 9) (j := 0) (pc' := 17) (by decide +kernel) h3 (fun v2 h4 => ?_); clear h3
    refine s_c (v := 0) (pc' := 18) (by decide +kernel) ?_
    refine s_al (pc' := 19) (by decide +kernel) h4 (fun v3 h5 => ?_); clear h4
    refine kX11_setupsNow (X := 0) (Y := 0) (X' := 0) (Y' := 0) (pc' := 22) (by decide +kernel) hc1 rfl h5 (fun v4 w4 c hc2 h6 => ?_); clear h5 hc1
    exact (vX11_setups_b22 hF) hc2 h6
  · refine s_c (v := 0) (pc' := 9) (by decide +kernel) ?_
    refine s_go (t := 22) (by decide +kernel) ?_
    exact (vX11_setups_b22 hF) hc1 h3
set_option maxRecDepth 100000 in
set_option maxHeartbeats 4000000 in
theorem kX11_setups {K J : Nat → Nat} {fu : Nat} {sh : HS} {I : HI} {R : HR} {F : VF} {mi pc pc' X Y X' Y' : Nat} {L : VL} {rest : List Value} {c : Nat × Nat} {l0 : Nat} {ω : Type} {o : ω} {g : Int32 → HI → Option ω} (hq : cQ mi pc 254 1 pc' X Y X' Y' = true) (hc : c.1 ≤ X ∧ c.2 ≤ Y) (hr : Nat.ble (catS rest) 8 = true) (h : oH (fX11_setups fu sh I R l0) g = some o) (kk : ∀ v w c', (c'.1 ≤ X' ∧ c'.2 ≤ Y') → g v w = some o → V K J mi pc' L ((.int v) :: rest) sh w R c' F) : V K J mi pc L (.ref l0 :: rest) sh I R c F := by
  obtain ⟨r, h1, h2⟩ := bnd h
  have hT : isT sh l0 9 = true := by unfold fX11_setups at h1; exact (gd h1).1
  have ml : mL 254 = 1 := by decide +kernel
  have mk : mK 254 = 1 := by decide +kernel
  have mc : mC 254 = 9 := by decide +kernel
  obtain ⟨v, w⟩ := r
  refine s_call (as := [.ref l0]) (G := fun o' sh' I' R' => o' = .inl (some (.int v)) ∧ sh' = sh ∧ I' = w ∧ R' = R) hq hc rfl hr (by rw [ml]; rfl) (Or.inl rfl) (fun _ => Or.inl ⟨by rw [mc]; decide, by rw [mc]; exact isT_iff.mp hT⟩) (fun z => absurd (mk.symm.trans z) (by decide)) (by rw [ml]; exact vX11_setups (F := fun o' sh' I' R' => o' = .inl (some (.int v)) ∧ sh' = sh ∧ I' = w ∧ R' = R) ⟨rfl, rfl, rfl, rfl⟩ h1) ?_ ?_ ?_
  · rintro sh' I' R' c' hc' ⟨g1, rfl, rfl, rfl⟩
    cases g1
  · rintro v' sh' I' R' c' hc' ⟨g1, rfl, rfl, rfl⟩
    cases g1
    exact kk _ _ _ hc' h2
  · rintro E' sh' I' R' ⟨g1, rfl, rfl, rfl⟩
    cases g1
set_option maxRecDepth 100000 in
set_option maxHeartbeats 4000000 in
def fX11_setupOf (fu : Nat) (sh : HS) (I : HI) (R : HR) (l0 : Nat) (l1 : Int32) : Option (Int32 × HI) :=
  if isT sh l0 9 = true then
    ((fX11_isShot fu sh I R l0 l1).bind fun v1 =>
    oH (fX11_isWrong fu sh I R l0 v1) fun v2 w2 =>
    if v2 = 0 then
      ((oR sh R l0 9 0).bind fun v3 =>
      (oA sh w2 v3 0).bind fun v4 =>
      oH (fX11_setupsNow fu sh w2 R l0 v4) fun v5 w5 =>
      (oR sh R l0 9 19).bind fun v6 =>
      (oA sh w5 v6 l1).bind fun v7 =>
      some (v7, w5))
    else
      (some (0, w2)))
  else none
set_option maxRecDepth 100000 in
set_option maxHeartbeats 4000000 in
theorem vX11_setupOf {K J : Nat → Nat} {fu : Nat} {sh : HS} {I : HI} {R : HR} {F : VF} {o : (Int32 × HI)} (hF : F (.inl (some (.int o.1))) sh o.2 R) {l0 : Nat} {l1 : Int32} (h0 : fX11_setupOf fu sh I R l0 l1 = some o) : V K J 255 0 (ent 3 [.ref l0, .int l1]) [] sh I R (0, 0) F := by
  unfold fX11_setupOf at h0
  obtain ⟨-, h1⟩ := gd h0; clear h0
  have hc0 : ((0 : Nat), (0 : Nat)).1 ≤ 0 ∧ ((0 : Nat), (0 : Nat)).2 ≤ 0 := ⟨Nat.le_refl _, Nat.le_refl _⟩
  show V K J 255 0 [some (.ref l0), some (.int l1), none] [] sh I R (0, 0) F
  refine s_rl (i := 0) (pc' := 1) (by decide +kernel) rfl ?_
  refine s_rl (i := 0) (pc' := 2) (by decide +kernel) rfl ?_
  refine s_il (i := 1) (pc' := 3) (by decide +kernel) rfl ?_
  refine kX11_isShot (X := 0) (Y := 0) (X' := 0) (Y' := 0) (pc' := 6) (by decide +kernel) hc0 rfl h1 (fun v1 c hc1 h2 => ?_); clear h1 hc0
  refine kX11_isWrong (X := 0) (Y := 0) (X' := 0) (Y' := 0) (pc' := 9) (by decide +kernel) hc1 rfl h2 (fun v2 w2 c hc2 h3 => ?_); clear h2 hc1
  refine s_if (ins := .ifCond .eq 5) (t := 14) (pc' := 12) (by decide +kernel) rfl rfl rfl h3 (fun p4 h4 => ?_) (fun p4 h4 => ?_) <;> clear h3
  · refine s_rl (i := 0) (pc' := 15) (by decide +kernel) rfl ?_
    refine s_rl (i := 0) (pc' := 16) (by decide +kernel) rfl ?_
    refine s_gR (t := 9) (j := 0) (pc' := 19) (by decide +kernel) h4 (fun v3 h5 => ?_); clear h4
    refine s_c (v := 0) (pc' := 20) (by decide +kernel) ?_
    refine s_al (pc' := 21) (by decide +kernel) h5 (fun v4 h6 => ?_); clear h5
    refine kX11_setupsNow (X := 0) (Y := 0) (X' := 0) (Y' := 0) (pc' := 24) (by decide +kernel) hc2 rfl h6 (fun v5 w5 c hc3 h7 => ?_); clear h6 hc2
    refine s_is (i := 2) (pc' := 25) (L' := [some (.ref l0), some (.int l1), some (.int v5)]) (by decide +kernel) rfl rfl ?_
    refine s_rl (i := 0) (pc' := 26) (by decide +kernel) rfl ?_
    refine s_gR (t := 9) (j := 19) (pc' := 29) (by decide +kernel) h7 (fun v6 h8 => ?_); clear h7
    refine s_il (i := 1) (pc' := 30) (by decide +kernel) rfl ?_
    refine s_al (pc' := 31) (by decide +kernel) h8 (fun v7 h9 => ?_); clear h8
    have e9 := Option.some.inj h9; subst e9
    exact s_ri (X := 0) (Y := 0) (by decide +kernel) hc3 hF
  · refine s_c (v := 0) (pc' := 13) (by decide +kernel) ?_
    have e9 := Option.some.inj h4; subst e9
    exact s_ri (X := 0) (Y := 0) (by decide +kernel) hc2 hF
set_option maxRecDepth 100000 in
set_option maxHeartbeats 4000000 in
theorem kX11_setupOf {K J : Nat → Nat} {fu : Nat} {sh : HS} {I : HI} {R : HR} {F : VF} {mi pc pc' X Y X' Y' : Nat} {L : VL} {rest : List Value} {c : Nat × Nat} {l0 : Nat} {l1 : Int32} {ω : Type} {o : ω} {g : Int32 → HI → Option ω} (hq : cQ mi pc 255 2 pc' X Y X' Y' = true) (hc : c.1 ≤ X ∧ c.2 ≤ Y) (hr : Nat.ble (catS rest) 8 = true) (h : oH (fX11_setupOf fu sh I R l0 l1) g = some o) (kk : ∀ v w c', (c'.1 ≤ X' ∧ c'.2 ≤ Y') → g v w = some o → V K J mi pc' L ((.int v) :: rest) sh w R c' F) : V K J mi pc L (.int l1 :: .ref l0 :: rest) sh I R c F := by
  obtain ⟨r, h1, h2⟩ := bnd h
  have hT : isT sh l0 9 = true := by unfold fX11_setupOf at h1; exact (gd h1).1
  have ml : mL 255 = 3 := by decide +kernel
  have mk : mK 255 = 1 := by decide +kernel
  have mc : mC 255 = 9 := by decide +kernel
  obtain ⟨v, w⟩ := r
  refine s_call (as := [.int l1, .ref l0]) (G := fun o' sh' I' R' => o' = .inl (some (.int v)) ∧ sh' = sh ∧ I' = w ∧ R' = R) hq hc rfl hr (by rw [ml]; rfl) (Or.inl rfl) (fun _ => Or.inl ⟨by rw [mc]; decide, by rw [mc]; exact isT_iff.mp hT⟩) (fun z => absurd (mk.symm.trans z) (by decide)) (by rw [ml]; exact vX11_setupOf (F := fun o' sh' I' R' => o' = .inl (some (.int v)) ∧ sh' = sh ∧ I' = w ∧ R' = R) ⟨rfl, rfl, rfl, rfl⟩ h1) ?_ ?_ ?_
  · rintro sh' I' R' c' hc' ⟨g1, rfl, rfl, rfl⟩
    cases g1
  · rintro v' sh' I' R' c' hc' ⟨g1, rfl, rfl, rfl⟩
    cases g1
    exact kk _ _ _ hc' h2
  · rintro E' sh' I' R' ⟨g1, rfl, rfl, rfl⟩
    cases g1
set_option maxRecDepth 100000 in
set_option maxHeartbeats 4000000 in
def fX11_setup_b40 (fu : Nat) (sh : HS) (R : HR) (I : HI) (l0 : Nat) (l1 : Int32) (l2 : Int32) (s0 : Int32) (s1 : Nat) : Option (Int32 × HI) :=
  oH (fX11_isWrong fu sh I R s1 s0) fun v2 w2 =>
  if v2 = 0 then
    (if l2 = 0 then
      ((oR sh R l0 9 20).bind fun v3 =>
      (oA sh w2 v3 l1).bind fun v4 =>
      some (v4, w2))
    else
      if l2 = 1 then
        ((oR sh R l0 9 21).bind fun v5 =>
        (oA sh w2 v5 l1).bind fun v6 =>
        some (v6, w2))
      else
        if l2 = 2 then
          ((fX11_actorsIn fu sh w2 R l0 l1).bind fun v7 =>
          some (v7, w2))
        else
          if l2 = 3 then
            ((oR sh R l0 9 21).bind fun v8 =>
            (oA sh w2 v8 l1).bind fun v9 =>
            (fX11_lengthOf fu sh w2 R l0 v9).bind fun v10 =>
            some (v10, w2))
          else
            (oR sh R l0 9 20).bind fun v11 =>
            (oA sh w2 v11 l1).bind fun v12 =>
            (fX11_sceneOf fu sh w2 R l0 v12).bind fun v13 =>
            some (v13, w2))
  else
    (some (0, w2))
set_option maxRecDepth 100000 in
set_option maxHeartbeats 4000000 in
theorem vX11_setup_b40 {K J : Nat → Nat} {fu : Nat} {sh : HS} {R : HR} {F : VF} {o : (Int32 × HI)} (hF : F (.inl (some (.int o.1))) sh o.2 R) {I : HI} {l0 : Nat} {l1 : Int32} {l2 : Int32} {s0 : Int32} {s1 : Nat} {c : Nat × Nat} (hc0 : c.1 ≤ 0 ∧ c.2 ≤ 0) (h0 : fX11_setup_b40 fu sh R I l0 l1 l2 s0 s1 = some o) : V K J 256 40 [some (.ref l0), some (.int l1), some (.int l2)] [.int s0, .ref s1] sh I R c F := by
  unfold fX11_setup_b40 at h0
  refine kX11_isWrong (X := 0) (Y := 0) (X' := 0) (Y' := 0) (pc' := 43) (by decide +kernel) hc0 rfl h0 (fun v2 w2 c hc1 h1 => ?_); clear h0 hc0
  refine s_if (ins := .ifCond .eq 5) (t := 48) (pc' := 46) (by decide +kernel) rfl rfl rfl h1 (fun p2 h2 => ?_) (fun p2 h2 => ?_) <;> clear h1
  · refine s_il (i := 2) (pc' := 49) (by decide +kernel) rfl ?_
    by_cases e0 : l2 = 0
    · have h3 := h2
      rw [if_pos e0] at h3
      clear h2
      refine s_sw (v := 0) (t := 80) e0 (by decide +kernel) ?_
      refine s_rl (i := 0) (pc' := 81) (by decide +kernel) rfl ?_
      refine s_gR (t := 9) (j := 20) (pc' := 84) (by decide +kernel) h3 (fun v3 h4 => ?_); clear h3
      refine s_il (i := 1) (pc' := 85) (by decide +kernel) rfl ?_
      refine s_al (pc' := 86) (by decide +kernel) h4 (fun v4 h5 => ?_); clear h4
      have e9 := Option.some.inj h5; subst e9
      exact s_ri (X := 0) (Y := 0) (by decide +kernel) hc1 hF
    rw [if_neg e0] at h2
    by_cases e1 : l2 = 1
    · have h3 := h2
      rw [if_pos e1] at h3
      clear h2
      refine s_sw (v := 1) (t := 87) e1 (by decide +kernel) ?_
      refine s_rl (i := 0) (pc' := 88) (by decide +kernel) rfl ?_
      refine s_gR (t := 9) (j := 21) (pc' := 91) (by decide +kernel) h3 (fun v5 h4 => ?_); clear h3
      refine s_il (i := 1) (pc' := 92) (by decide +kernel) rfl ?_
      refine s_al (pc' := 93) (by decide +kernel) h4 (fun v6 h5 => ?_); clear h4
      have e9 := Option.some.inj h5; subst e9
      exact s_ri (X := 0) (Y := 0) (by decide +kernel) hc1 hF
    rw [if_neg e1] at h2
    by_cases e2 : l2 = 2
    · have h3 := h2
      rw [if_pos e2] at h3
      clear h2
      refine s_sw (v := 2) (t := 94) e2 (by decide +kernel) ?_
      refine s_rl (i := 0) (pc' := 95) (by decide +kernel) rfl ?_
      refine s_il (i := 1) (pc' := 96) (by decide +kernel) rfl ?_
      refine kX11_actorsIn (X := 0) (Y := 0) (X' := 0) (Y' := 0) (pc' := 99) (by decide +kernel) hc1 rfl h3 (fun v7 c hc2 h4 => ?_); clear h3 hc1
      have e9 := Option.some.inj h4; subst e9
      exact s_ri (X := 0) (Y := 0) (by decide +kernel) hc2 hF
    rw [if_neg e2] at h2
    by_cases e3 : l2 = 3
    · have h3 := h2
      rw [if_pos e3] at h3
      clear h2
      refine s_sw (v := 3) (t := 100) e3 (by decide +kernel) ?_
      refine s_rl (i := 0) (pc' := 101) (by decide +kernel) rfl ?_
      refine s_rl (i := 0) (pc' := 102) (by decide +kernel) rfl ?_
      refine s_gR (t := 9) (j := 21) (pc' := 105) (by decide +kernel) h3 (fun v8 h4 => ?_); clear h3
      refine s_il (i := 1) (pc' := 106) (by decide +kernel) rfl ?_
      refine s_al (pc' := 107) (by decide +kernel) h4 (fun v9 h5 => ?_); clear h4
      refine kX11_lengthOf (X := 0) (Y := 0) (X' := 0) (Y' := 0) (pc' := 110) (by decide +kernel) hc1 rfl h5 (fun v10 c hc2 h6 => ?_); clear h5 hc1
      have e9 := Option.some.inj h6; subst e9
      exact s_ri (X := 0) (Y := 0) (by decide +kernel) hc2 hF
    rw [if_neg e3] at h2
    refine s_sd (n := 4) (t := 111) (sw_out4 e0 e1 e2 e3) (by decide +kernel) ?_
    refine s_rl (i := 0) (pc' := 112) (by decide +kernel) rfl ?_
    refine s_rl (i := 0) (pc' := 113) (by decide +kernel) rfl ?_
    refine s_gR (t := 9) (j := 20) (pc' := 116) (by decide +kernel) h2 (fun v11 h3 => ?_); clear h2
    refine s_il (i := 1) (pc' := 117) (by decide +kernel) rfl ?_
    refine s_al (pc' := 118) (by decide +kernel) h3 (fun v12 h4 => ?_); clear h3
    refine kX11_sceneOf (X := 0) (Y := 0) (X' := 0) (Y' := 0) (pc' := 121) (by decide +kernel) hc1 rfl h4 (fun v13 c hc2 h5 => ?_); clear h4 hc1
    have e9 := Option.some.inj h5; subst e9
    exact s_ri (X := 0) (Y := 0) (by decide +kernel) hc2 hF
  · refine s_c (v := 0) (pc' := 47) (by decide +kernel) ?_
    have e9 := Option.some.inj h2; subst e9
    exact s_ri (X := 0) (Y := 0) (by decide +kernel) hc1 hF
set_option maxRecDepth 100000 in
set_option maxHeartbeats 4000000 in
def fX11_setup_b39 (fu : Nat) (sh : HS) (R : HR) (I : HI) (l0 : Nat) (l1 : Int32) (l2 : Int32) (s0 : Nat) : Option (Int32 × HI) :=
  (fX11_setup_b40 fu sh R) I l0 l1 l2 0 s0
set_option maxRecDepth 100000 in
set_option maxHeartbeats 4000000 in
theorem vX11_setup_b39 {K J : Nat → Nat} {fu : Nat} {sh : HS} {R : HR} {F : VF} {o : (Int32 × HI)} (hF : F (.inl (some (.int o.1))) sh o.2 R) {I : HI} {l0 : Nat} {l1 : Int32} {l2 : Int32} {s0 : Nat} {c : Nat × Nat} (hc0 : c.1 ≤ 0 ∧ c.2 ≤ 0) (h0 : fX11_setup_b39 fu sh R I l0 l1 l2 s0 = some o) : V K J 256 39 [some (.ref l0), some (.int l1), some (.int l2)] [.ref s0] sh I R c F := by
  unfold fX11_setup_b39 at h0
  refine s_c (v := 0) (pc' := 40) (by decide +kernel) ?_
  exact (vX11_setup_b40 hF) hc0 h0
set_option maxRecDepth 100000 in
set_option maxHeartbeats 4000000 in
def fX11_setup (fu : Nat) (sh : HS) (I : HI) (R : HR) (l0 : Nat) (l1 : Int32) (l2 : Int32) : Option (Int32 × HI) :=
  if isT sh l0 9 = true then
    ((fX11_isIn fu sh I R (l2.toInt64) 0 4).bind fun v1 =>
    if v1 = 0 then
      ((fX11_setup_b39 fu sh R) I l0 l1 l2 l0)
    else
      ((oR sh R l0 9 0).bind fun v14 =>
      (oA sh I v14 0).bind fun v15 =>
      oH (fX11_setupsNow fu sh I R l0 v15) fun v16 w16 =>
      (fX11_isIn fu sh w16 R (l1.toInt64) 0 ((v16 - 1).toInt64)).bind fun v17 =>
      if v17 = 0 then
        ((fX11_setup_b39 fu sh R) w16 l0 l1 l2 l0)
      else
        ((fX11_setup_b40 fu sh R) w16 l0 l1 l2 1 l0)))
  else none
set_option maxRecDepth 100000 in
set_option maxHeartbeats 4000000 in
theorem vX11_setup {K J : Nat → Nat} {fu : Nat} {sh : HS} {I : HI} {R : HR} {F : VF} {o : (Int32 × HI)} (hF : F (.inl (some (.int o.1))) sh o.2 R) {l0 : Nat} {l1 : Int32} {l2 : Int32} (h0 : fX11_setup fu sh I R l0 l1 l2 = some o) : V K J 256 0 (ent 3 [.ref l0, .int l1, .int l2]) [] sh I R (0, 0) F := by
  unfold fX11_setup at h0
  obtain ⟨-, h1⟩ := gd h0; clear h0
  have hc0 : ((0 : Nat), (0 : Nat)).1 ≤ 0 ∧ ((0 : Nat), (0 : Nat)).2 ≤ 0 := ⟨Nat.le_refl _, Nat.le_refl _⟩
  show V K J 256 0 [some (.ref l0), some (.int l1), some (.int l2)] [] sh I R (0, 0) F
  refine s_rl (i := 0) (pc' := 1) (by decide +kernel) rfl ?_
  refine s_il (i := 2) (pc' := 2) (by decide +kernel) rfl ?_
  refine s_a (ins := .i2l) (pc' := 3) (by decide +kernel) rfl ?_
  refine s_cJ (v := 0) (pc' := 4) (by decide +kernel) ?_
  refine s_cJ (v := 4) (pc' := 7) (by decide +kernel) ?_
  refine kX11_isIn (X := 0) (Y := 0) (X' := 0) (Y' := 0) (pc' := 10) (by decide +kernel) hc0 rfl h1 (fun v1 c hc1 h2 => ?_); clear h1 hc0
  refine s_if (ins := .ifCond .eq 29) (t := 39) (pc' := 13) (by decide +kernel) rfl rfl rfl h2 (fun p3 h3 => ?_) (fun p3 h3 => ?_) <;> clear h2
  · exact (vX11_setup_b39 hF) hc1 h3
  · refine s_il (i := 1) (pc' := 14) (by decide +kernel) rfl ?_
    refine s_a (ins := .i2l) (pc' := 15) (by decide +kernel) rfl ?_
    refine s_cJ (v := 0) (pc' := 16) (by decide +kernel) ?_
    refine s_rl (i := 0) (pc' := 17) (by decide +kernel) rfl ?_
    refine s_rl (i := 0) (pc' := 18) (by decide +kernel) rfl ?_
    refine s_gR (t := 9) (j := 0) (pc' := 21) (by decide +kernel) h3 (fun v14 h4 => ?_); clear h3
    refine s_c (v := 0) (pc' := 22) (by decide +kernel) ?_
    refine s_al (pc' := 23) (by decide +kernel) h4 (fun v15 h5 => ?_); clear h4
    refine kX11_setupsNow (X := 0) (Y := 0) (X' := 0) (Y' := 0) (pc' := 26) (by decide +kernel) hc1 rfl h5 (fun v16 w16 c hc2 h6 => ?_); clear h5 hc1
    refine s_c (v := 1) (pc' := 27) (by decide +kernel) ?_
    refine s_a (ins := .isub) (pc' := 28) (by decide +kernel) rfl ?_
    refine s_a (ins := .i2l) (pc' := 29) (by decide +kernel) rfl ?_
    refine kX11_isIn (X := 0) (Y := 0) (X' := 0) (Y' := 0) (pc' := 32) (by decide +kernel) hc2 rfl h6 (fun v17 c hc3 h7 => ?_); clear h6 hc2
    refine s_if (ins := .ifCond .eq 7) (t := 39) (pc' := 35) (by decide +kernel) rfl rfl rfl h7 (fun p8 h8 => ?_) (fun p8 h8 => ?_) <;> clear h7
    · exact (vX11_setup_b39 hF) hc3 h8
    · refine s_c (v := 1) (pc' := 36) (by decide +kernel) ?_
      refine s_go (t := 40) (by decide +kernel) ?_
      exact (vX11_setup_b40 hF) hc3 h8
set_option maxRecDepth 100000 in
set_option maxHeartbeats 4000000 in
theorem kX11_setup {K J : Nat → Nat} {fu : Nat} {sh : HS} {I : HI} {R : HR} {F : VF} {mi pc pc' X Y X' Y' : Nat} {L : VL} {rest : List Value} {c : Nat × Nat} {l0 : Nat} {l1 : Int32} {l2 : Int32} {ω : Type} {o : ω} {g : Int32 → HI → Option ω} (hq : cQ mi pc 256 3 pc' X Y X' Y' = true) (hc : c.1 ≤ X ∧ c.2 ≤ Y) (hr : Nat.ble (catS rest) 8 = true) (h : oH (fX11_setup fu sh I R l0 l1 l2) g = some o) (kk : ∀ v w c', (c'.1 ≤ X' ∧ c'.2 ≤ Y') → g v w = some o → V K J mi pc' L ((.int v) :: rest) sh w R c' F) : V K J mi pc L (.int l2 :: .int l1 :: .ref l0 :: rest) sh I R c F := by
  obtain ⟨r, h1, h2⟩ := bnd h
  have hT : isT sh l0 9 = true := by unfold fX11_setup at h1; exact (gd h1).1
  have ml : mL 256 = 3 := by decide +kernel
  have mk : mK 256 = 1 := by decide +kernel
  have mc : mC 256 = 9 := by decide +kernel
  obtain ⟨v, w⟩ := r
  refine s_call (as := [.int l2, .int l1, .ref l0]) (G := fun o' sh' I' R' => o' = .inl (some (.int v)) ∧ sh' = sh ∧ I' = w ∧ R' = R) hq hc rfl hr (by rw [ml]; rfl) (Or.inl rfl) (fun _ => Or.inl ⟨by rw [mc]; decide, by rw [mc]; exact isT_iff.mp hT⟩) (fun z => absurd (mk.symm.trans z) (by decide)) (by rw [ml]; exact vX11_setup (F := fun o' sh' I' R' => o' = .inl (some (.int v)) ∧ sh' = sh ∧ I' = w ∧ R' = R) ⟨rfl, rfl, rfl, rfl⟩ h1) ?_ ?_ ?_
  · rintro sh' I' R' c' hc' ⟨g1, rfl, rfl, rfl⟩
    cases g1
  · rintro v' sh' I' R' c' hc' ⟨g1, rfl, rfl, rfl⟩
    cases g1
    exact kk _ _ _ hc' h2
  · rintro E' sh' I' R' ⟨g1, rfl, rfl, rfl⟩
    cases g1
set_option maxRecDepth 100000 in
set_option maxHeartbeats 4000000 in
def fX11_joinable_b66 (fu : Nat) (sh : HS) (R : HR) (k30 : HI → Nat → Int32 → Int32 → Int32 → Int32 → Option (Int32 × HI)) (I : HI) (l0 : Nat) (l1 : Int32) (l3 : Int32) (l4 : Int32) (s0 : Int32) (s1 : Int32) : Option (Int32 × HI) :=
  k30 I l0 l1 (s1 ||| s0) l3 (l4 + 1)
set_option maxRecDepth 100000 in
set_option maxHeartbeats 4000000 in
theorem vX11_joinable_b66 {K J : Nat → Nat} {fu : Nat} {sh : HS} {R : HR} {F : VF} {o : (Int32 × HI)} (hF : F (.inl (some (.int o.1))) sh o.2 R) {k30 : HI → Nat → Int32 → Int32 → Int32 → Int32 → Option (Int32 × HI)} (hk30 : ∀ {I : HI} {l0 : Nat} {l1 : Int32} {l2 : Int32} {l3 : Int32} {l4 : Int32}  {c : Nat × Nat}, (c.1 ≤ 0 ∧ c.2 ≤ 0) → k30 I l0 l1 l2 l3 l4 = some o → V K J 257 30 [some (.ref l0), some (.int l1), some (.int l2), some (.int l3), some (.int l4)] [] sh I R c F) {I : HI} {l0 : Nat} {l1 : Int32} {l3 : Int32} {l4 : Int32} {s0 : Int32} {s1 : Int32} {d2 : Option Value} {c : Nat × Nat} (hc0 : c.1 ≤ 0 ∧ c.2 ≤ 0) (h0 : fX11_joinable_b66 fu sh R k30 I l0 l1 l3 l4 s0 s1 = some o) : V K J 257 66 [some (.ref l0), some (.int l1), d2, some (.int l3), some (.int l4)] [.int s0, .int s1] sh I R c F := by
  unfold fX11_joinable_b66 at h0
  refine s_a (ins := .ior) (pc' := 67) (by decide +kernel) rfl ?_
  refine s_is (i := 2) (pc' := 68) (L' := [some (.ref l0), some (.int l1), some (.int (s1 ||| s0)), some (.int l3), some (.int l4)]) (by decide +kernel) rfl rfl ?_
  refine s_inc (i := 4) (z := 1) (pc' := 71) (L' := [some (.ref l0), some (.int l1), some (.int (s1 ||| s0)), some (.int l3), some (.int (l4 + 1))]) (by decide +kernel) rfl rfl rfl ?_
  refine s_go (t := 30) (by decide +kernel) ?_
  exact hk30 hc0 h0
set_option maxRecDepth 100000 in
set_option maxHeartbeats 4000000 in
def fX11_joinable_b65 (fu : Nat) (sh : HS) (R : HR) (k30 : HI → Nat → Int32 → Int32 → Int32 → Int32 → Option (Int32 × HI)) (I : HI) (l0 : Nat) (l1 : Int32) (l3 : Int32) (l4 : Int32) (s0 : Int32) : Option (Int32 × HI) :=
  (fX11_joinable_b66 fu sh R k30) I l0 l1 l3 l4 0 s0
set_option maxRecDepth 100000 in
set_option maxHeartbeats 4000000 in
theorem vX11_joinable_b65 {K J : Nat → Nat} {fu : Nat} {sh : HS} {R : HR} {F : VF} {o : (Int32 × HI)} (hF : F (.inl (some (.int o.1))) sh o.2 R) {k30 : HI → Nat → Int32 → Int32 → Int32 → Int32 → Option (Int32 × HI)} (hk30 : ∀ {I : HI} {l0 : Nat} {l1 : Int32} {l2 : Int32} {l3 : Int32} {l4 : Int32}  {c : Nat × Nat}, (c.1 ≤ 0 ∧ c.2 ≤ 0) → k30 I l0 l1 l2 l3 l4 = some o → V K J 257 30 [some (.ref l0), some (.int l1), some (.int l2), some (.int l3), some (.int l4)] [] sh I R c F) {I : HI} {l0 : Nat} {l1 : Int32} {l3 : Int32} {l4 : Int32} {s0 : Int32} {d2 : Option Value} {c : Nat × Nat} (hc0 : c.1 ≤ 0 ∧ c.2 ≤ 0) (h0 : fX11_joinable_b65 fu sh R k30 I l0 l1 l3 l4 s0 = some o) : V K J 257 65 [some (.ref l0), some (.int l1), d2, some (.int l3), some (.int l4)] [.int s0] sh I R c F := by
  unfold fX11_joinable_b65 at h0
  refine s_c (v := 0) (pc' := 66) (by decide +kernel) ?_
  exact (vX11_joinable_b66 hF hk30) hc0 h0
set_option maxRecDepth 100000 in
set_option maxHeartbeats 4000000 in
def fX11_joinable_b30 (fu : Nat) (sh : HS) (R : HR) (k30 : HI → Nat → Int32 → Int32 → Int32 → Int32 → Option (Int32 × HI)) (I : HI) (l0 : Nat) (l1 : Int32) (l2 : Int32) (l3 : Int32) (l4 : Int32) : Option (Int32 × HI) :=
  if l3 ≤ l4 then
    (some (l2, I))
  else
    ((oR sh R l0 9 19).bind fun v6 =>
    (oA sh I v6 l1).bind fun v7 =>
    if l4 = v7 then
      ((fX11_joinable_b65 fu sh R k30) I l0 l1 l3 l4 l2)
    else
      (oH (fX11_noJoin fu sh I R l0 l1 l4) fun v8 w8 =>
      if v8 = 0 then
        ((fX11_joinable_b66 fu sh R k30) w8 l0 l1 l3 l4 (1 <<< (l4 &&& 31)) l2)
      else
        ((fX11_joinable_b65 fu sh R k30) w8 l0 l1 l3 l4 l2)))
set_option maxRecDepth 100000 in
set_option maxHeartbeats 4000000 in
theorem vX11_joinable_b30 {K J : Nat → Nat} {fu : Nat} {sh : HS} {R : HR} {F : VF} {o : (Int32 × HI)} (hF : F (.inl (some (.int o.1))) sh o.2 R) {k30 : HI → Nat → Int32 → Int32 → Int32 → Int32 → Option (Int32 × HI)} (hk30 : ∀ {I : HI} {l0 : Nat} {l1 : Int32} {l2 : Int32} {l3 : Int32} {l4 : Int32}  {c : Nat × Nat}, (c.1 ≤ 0 ∧ c.2 ≤ 0) → k30 I l0 l1 l2 l3 l4 = some o → V K J 257 30 [some (.ref l0), some (.int l1), some (.int l2), some (.int l3), some (.int l4)] [] sh I R c F) {I : HI} {l0 : Nat} {l1 : Int32} {l2 : Int32} {l3 : Int32} {l4 : Int32} {c : Nat × Nat} (hc0 : c.1 ≤ 0 ∧ c.2 ≤ 0) (h0 : fX11_joinable_b30 fu sh R k30 I l0 l1 l2 l3 l4 = some o) : V K J 257 30 [some (.ref l0), some (.int l1), some (.int l2), some (.int l3), some (.int l4)] [] sh I R c F := by
  unfold fX11_joinable_b30 at h0
  refine s_il (i := 4) (pc' := 32) (by decide +kernel) rfl ?_
  refine s_il (i := 3) (pc' := 33) (by decide +kernel) rfl ?_
  refine s_if (ins := .if_icmp .ge 41) (t := 74) (pc' := 36) (by decide +kernel) rfl rfl rfl h0 (fun p1 h1 => ?_) (fun p1 h1 => ?_) <;> clear h0
  · refine s_il (i := 2) (pc' := 75) (by decide +kernel) rfl ?_
    have e9 := Option.some.inj h1; subst e9
    exact s_ri (X := 0) (Y := 0) (by decide +kernel) hc0 hF
  · refine s_il (i := 2) (pc' := 37) (by decide +kernel) rfl ?_
    refine s_il (i := 4) (pc' := 39) (by decide +kernel) rfl ?_
    refine s_rl (i := 0) (pc' := 40) (by decide +kernel) rfl ?_
    refine s_gR (t := 9) (j := 19) (pc' := 43) (by decide +kernel) h1 (fun v6 h2 => ?_); clear h1
    refine s_il (i := 1) (pc' := 44) (by decide +kernel) rfl ?_
    refine s_al (pc' := 45) (by decide +kernel) h2 (fun v7 h3 => ?_); clear h2
    refine s_if (ins := .if_icmp .eq 20) (t := 65) (pc' := 48) (by decide +kernel) rfl rfl rfl h3 (fun p4 h4 => ?_) (fun p4 h4 => ?_) <;> clear h3
    · exact (vX11_joinable_b65 hF hk30) hc0 h4
    · refine s_rl (i := 0) (pc' := 49) (by decide +kernel) rfl ?_
      refine s_il (i := 1) (pc' := 50) (by decide +kernel) rfl ?_
      refine s_il (i := 4) (pc' := 52) (by decide +kernel) rfl ?_
      refine kX11_noJoin (X := 0) (Y := 0) (X' := 0) (Y' := 0) (pc' := 55) (by decide +kernel) hc0 rfl h4 (fun v8 w8 c hc1 h5 => ?_); clear h4 hc0
      refine s_ifn (ins := .ifCond .ne 10) (t := 65) (pc' := 58) (by decide +kernel) rfl rfl rfl h5 (fun p6 h6 => ?_) (fun p6 h6 => ?_) <;> clear h5
      · exact (vX11_joinable_b65 hF hk30) hc1 h6
      · refine s_c (v := 1) (pc' := 59) (by decide +kernel) ?_
        refine s_il (i := 4) (pc' := 61) (by decide +kernel) rfl ?_
        refine s_a (ins := .ishl) (pc' := 62) (by decide +kernel) rfl ?_
        refine s_go (t := 66) (by decide +kernel) ?_
        exact (vX11_joinable_b66 hF hk30) hc1 h6
set_option maxRecDepth 100000 in
set_option maxHeartbeats 4000000 in
def fX11_joinable_l30 (fu : Nat) (sh : HS) (R : HR) : Nat → HI → Nat → Int32 → Int32 → Int32 → Int32 → Option (Int32 × HI)
  | 0 => fun _ _ _ _ _ _ => none
  | n + 1 => fX11_joinable_b30 fu sh R (fX11_joinable_l30 fu sh R n)
set_option maxRecDepth 100000 in
set_option maxHeartbeats 4000000 in
theorem vX11_joinable_l30 {K J : Nat → Nat} {fu : Nat} {sh : HS} {R : HR} {F : VF} {o : (Int32 × HI)} (hF : F (.inl (some (.int o.1))) sh o.2 R) : ∀ (n : Nat) {I : HI} {l0 : Nat} {l1 : Int32} {l2 : Int32} {l3 : Int32} {l4 : Int32} {c : Nat × Nat} (_ : c.1 ≤ 0 ∧ c.2 ≤ 0) (_ : fX11_joinable_l30 fu sh R n I l0 l1 l2 l3 l4 = some o), V K J 257 30 [some (.ref l0), some (.int l1), some (.int l2), some (.int l3), some (.int l4)] [] sh I R c F := by
  intro n
  induction n with
  | zero => exact fun _ h0 => nomatch h0
  | succ n ih => exact fun hc0 h0 => vX11_joinable_b30 hF ih hc0 h0
set_option maxRecDepth 100000 in
set_option maxHeartbeats 4000000 in
def fX11_joinable (fu : Nat) (sh : HS) (I : HI) (R : HR) (l0 : Nat) (l1 : Int32) : Option (Int32 × HI) :=
  if isT sh l0 9 = true then
    ((fX11_isShot fu sh I R l0 l1).bind fun v1 =>
    oH (fX11_isWrong fu sh I R l0 v1) fun v2 w2 =>
    if v2 = 0 then
      ((oR sh R l0 9 0).bind fun v3 =>
      (oA sh w2 v3 0).bind fun v4 =>
      oH (fX11_setupsNow fu sh w2 R l0 v4) fun v5 w5 =>
      (fX11_joinable_l30 fu sh R fu) w5 l0 l1 0 v5 0)
    else
      (some (0, w2)))
  else none
set_option maxRecDepth 100000 in
set_option maxHeartbeats 4000000 in
theorem vX11_joinable {K J : Nat → Nat} {fu : Nat} {sh : HS} {I : HI} {R : HR} {F : VF} {o : (Int32 × HI)} (hF : F (.inl (some (.int o.1))) sh o.2 R) {l0 : Nat} {l1 : Int32} (h0 : fX11_joinable fu sh I R l0 l1 = some o) : V K J 257 0 (ent 5 [.ref l0, .int l1]) [] sh I R (0, 0) F := by
  unfold fX11_joinable at h0
  obtain ⟨-, h1⟩ := gd h0; clear h0
  have hc0 : ((0 : Nat), (0 : Nat)).1 ≤ 0 ∧ ((0 : Nat), (0 : Nat)).2 ≤ 0 := ⟨Nat.le_refl _, Nat.le_refl _⟩
  show V K J 257 0 [some (.ref l0), some (.int l1), none, none, none] [] sh I R (0, 0) F
  refine s_rl (i := 0) (pc' := 1) (by decide +kernel) rfl ?_
  refine s_rl (i := 0) (pc' := 2) (by decide +kernel) rfl ?_
  refine s_il (i := 1) (pc' := 3) (by decide +kernel) rfl ?_
  refine kX11_isShot (X := 0) (Y := 0) (X' := 0) (Y' := 0) (pc' := 6) (by decide +kernel) hc0 rfl h1 (fun v1 c hc1 h2 => ?_); clear h1 hc0
  refine kX11_isWrong (X := 0) (Y := 0) (X' := 0) (Y' := 0) (pc' := 9) (by decide +kernel) hc1 rfl h2 (fun v2 w2 c hc2 h3 => ?_); clear h2 hc1
  refine s_if (ins := .ifCond .eq 5) (t := 14) (pc' := 12) (by decide +kernel) rfl rfl rfl h3 (fun p4 h4 => ?_) (fun p4 h4 => ?_) <;> clear h3
  · refine s_c (v := 0) (pc' := 15) (by decide +kernel) ?_
    refine s_is (i := 2) (pc' := 16) (L' := [some (.ref l0), some (.int l1), some (.int 0), none, none]) (by decide +kernel) rfl rfl ?_
    refine s_rl (i := 0) (pc' := 17) (by decide +kernel) rfl ?_
    refine s_rl (i := 0) (pc' := 18) (by decide +kernel) rfl ?_
    refine s_gR (t := 9) (j := 0) (pc' := 21) (by decide +kernel) h4 (fun v3 h5 => ?_); clear h4
    refine s_c (v := 0) (pc' := 22) (by decide +kernel) ?_
    refine s_al (pc' := 23) (by decide +kernel) h5 (fun v4 h6 => ?_); clear h5
    refine kX11_setupsNow (X := 0) (Y := 0) (X' := 0) (Y' := 0) (pc' := 26) (by decide +kernel) hc2 rfl h6 (fun v5 w5 c hc3 h7 => ?_); clear h6 hc2
    refine s_is (i := 3) (pc' := 27) (L' := [some (.ref l0), some (.int l1), some (.int 0), some (.int v5), none]) (by decide +kernel) rfl rfl ?_
    refine s_c (v := 0) (pc' := 28) (by decide +kernel) ?_
    refine s_is (i := 4) (pc' := 30) (L' := [some (.ref l0), some (.int l1), some (.int 0), some (.int v5), some (.int 0)]) (by decide +kernel) rfl rfl ?_
    exact (vX11_joinable_l30 hF fu) hc3 h7
  · refine s_c (v := 0) (pc' := 13) (by decide +kernel) ?_
    have e9 := Option.some.inj h4; subst e9
    exact s_ri (X := 0) (Y := 0) (by decide +kernel) hc2 hF
set_option maxRecDepth 100000 in
set_option maxHeartbeats 4000000 in
theorem kX11_joinable {K J : Nat → Nat} {fu : Nat} {sh : HS} {I : HI} {R : HR} {F : VF} {mi pc pc' X Y X' Y' : Nat} {L : VL} {rest : List Value} {c : Nat × Nat} {l0 : Nat} {l1 : Int32} {ω : Type} {o : ω} {g : Int32 → HI → Option ω} (hq : cQ mi pc 257 2 pc' X Y X' Y' = true) (hc : c.1 ≤ X ∧ c.2 ≤ Y) (hr : Nat.ble (catS rest) 8 = true) (h : oH (fX11_joinable fu sh I R l0 l1) g = some o) (kk : ∀ v w c', (c'.1 ≤ X' ∧ c'.2 ≤ Y') → g v w = some o → V K J mi pc' L ((.int v) :: rest) sh w R c' F) : V K J mi pc L (.int l1 :: .ref l0 :: rest) sh I R c F := by
  obtain ⟨r, h1, h2⟩ := bnd h
  have hT : isT sh l0 9 = true := by unfold fX11_joinable at h1; exact (gd h1).1
  have ml : mL 257 = 5 := by decide +kernel
  have mk : mK 257 = 1 := by decide +kernel
  have mc : mC 257 = 9 := by decide +kernel
  obtain ⟨v, w⟩ := r
  refine s_call (as := [.int l1, .ref l0]) (G := fun o' sh' I' R' => o' = .inl (some (.int v)) ∧ sh' = sh ∧ I' = w ∧ R' = R) hq hc rfl hr (by rw [ml]; rfl) (Or.inl rfl) (fun _ => Or.inl ⟨by rw [mc]; decide, by rw [mc]; exact isT_iff.mp hT⟩) (fun z => absurd (mk.symm.trans z) (by decide)) (by rw [ml]; exact vX11_joinable (F := fun o' sh' I' R' => o' = .inl (some (.int v)) ∧ sh' = sh ∧ I' = w ∧ R' = R) ⟨rfl, rfl, rfl, rfl⟩ h1) ?_ ?_ ?_
  · rintro sh' I' R' c' hc' ⟨g1, rfl, rfl, rfl⟩
    cases g1
  · rintro v' sh' I' R' c' hc' ⟨g1, rfl, rfl, rfl⟩
    cases g1
    exact kk _ _ _ hc' h2
  · rintro E' sh' I' R' ⟨g1, rfl, rfl, rfl⟩
    cases g1
set_option maxRecDepth 100000 in
set_option maxHeartbeats 4000000 in
def fX11_leastReach_b20 (fu : Nat) (sh : HS) (R : HR) (k20 : HI → Nat → Int32 → Int32 → Option (Int32 × HI)) (I : HI) (l0 : Nat) (l1 : Int32) (l2 : Int32) : Option (Int32 × HI) :=
  if 99 < l2 then
    (some ((-2), I))
  else
    (oH (fX11_setupsNow fu sh I R l0 l2) fun v3 w3 =>
    if l1 < v3 then
      (k20 w3 l0 l1 (l2 + 1))
    else
      (some (l2, w3)))
set_option maxRecDepth 100000 in
set_option maxHeartbeats 4000000 in
theorem vX11_leastReach_b20 {K J : Nat → Nat} {fu : Nat} {sh : HS} {R : HR} {F : VF} {o : (Int32 × HI)} (hF : F (.inl (some (.int o.1))) sh o.2 R) {k20 : HI → Nat → Int32 → Int32 → Option (Int32 × HI)} (hk20 : ∀ {I : HI} {l0 : Nat} {l1 : Int32} {l2 : Int32}  {c : Nat × Nat}, (c.1 ≤ 0 ∧ c.2 ≤ 0) → k20 I l0 l1 l2 = some o → V K J 258 20 [some (.ref l0), some (.int l1), some (.int l2)] [] sh I R c F) {I : HI} {l0 : Nat} {l1 : Int32} {l2 : Int32} {c : Nat × Nat} (hc0 : c.1 ≤ 0 ∧ c.2 ≤ 0) (h0 : fX11_leastReach_b20 fu sh R k20 I l0 l1 l2 = some o) : V K J 258 20 [some (.ref l0), some (.int l1), some (.int l2)] [] sh I R c F := by
  unfold fX11_leastReach_b20 at h0
  refine s_il (i := 2) (pc' := 21) (by decide +kernel) rfl ?_
  refine s_c (v := 99) (pc' := 23) (by decide +kernel) ?_
  refine s_if (ins := .if_icmp .gt 20) (t := 43) (pc' := 26) (by decide +kernel) rfl rfl rfl h0 (fun p1 h1 => ?_) (fun p1 h1 => ?_) <;> clear h0
  · refine s_c (v := (-2)) (pc' := 45) (by decide +kernel) ?_
    have e9 := Option.some.inj h1; subst e9
    exact s_ri (X := 0) (Y := 0) (by decide +kernel) hc0 hF
  · refine s_rl (i := 0) (pc' := 27) (by decide +kernel) rfl ?_
    refine s_il (i := 2) (pc' := 28) (by decide +kernel) rfl ?_
    refine kX11_setupsNow (X := 0) (Y := 0) (X' := 0) (Y' := 0) (pc' := 31) (by decide +kernel) hc0 rfl h1 (fun v3 w3 c hc1 h2 => ?_); clear h1 hc0
    refine s_il (i := 1) (pc' := 32) (by decide +kernel) rfl ?_
    refine s_if (ins := .if_icmp .gt 5) (t := 37) (pc' := 35) (by decide +kernel) rfl rfl rfl h2 (fun p3 h3 => ?_) (fun p3 h3 => ?_) <;> clear h2
    · refine s_inc (i := 2) (z := 1) (pc' := 40) (L' := [some (.ref l0), some (.int l1), some (.int (l2 + 1))]) (by decide +kernel) rfl rfl rfl ?_
      refine s_go (t := 20) (by decide +kernel) ?_
      exact hk20 hc1 h3
    · refine s_il (i := 2) (pc' := 36) (by decide +kernel) rfl ?_
      have e9 := Option.some.inj h3; subst e9
      exact s_ri (X := 0) (Y := 0) (by decide +kernel) hc1 hF
set_option maxRecDepth 100000 in
set_option maxHeartbeats 4000000 in
def fX11_leastReach_l20 (fu : Nat) (sh : HS) (R : HR) : Nat → HI → Nat → Int32 → Int32 → Option (Int32 × HI)
  | 0 => fun _ _ _ _ => none
  | n + 1 => fX11_leastReach_b20 fu sh R (fX11_leastReach_l20 fu sh R n)
set_option maxRecDepth 100000 in
set_option maxHeartbeats 4000000 in
theorem vX11_leastReach_l20 {K J : Nat → Nat} {fu : Nat} {sh : HS} {R : HR} {F : VF} {o : (Int32 × HI)} (hF : F (.inl (some (.int o.1))) sh o.2 R) : ∀ (n : Nat) {I : HI} {l0 : Nat} {l1 : Int32} {l2 : Int32} {c : Nat × Nat} (_ : c.1 ≤ 0 ∧ c.2 ≤ 0) (_ : fX11_leastReach_l20 fu sh R n I l0 l1 l2 = some o), V K J 258 20 [some (.ref l0), some (.int l1), some (.int l2)] [] sh I R c F := by
  intro n
  induction n with
  | zero => exact fun _ h0 => nomatch h0
  | succ n ih => exact fun hc0 h0 => vX11_leastReach_b20 hF ih hc0 h0
set_option maxRecDepth 100000 in
set_option maxHeartbeats 4000000 in
def fX11_leastReach (fu : Nat) (sh : HS) (I : HI) (R : HR) (l0 : Nat) (l1 : Int32) : Option (Int32 × HI) :=
  if isT sh l0 9 = true then
    ((fX11_isIn fu sh I R (l1.toInt64) 0 12).bind fun v1 =>
    oH (fX11_isWrong fu sh I R l0 v1) fun v2 w2 =>
    if v2 = 0 then
      ((fX11_leastReach_l20 fu sh R fu) w2 l0 l1 0)
    else
      (some (0, w2)))
  else none
set_option maxRecDepth 100000 in
set_option maxHeartbeats 4000000 in
theorem vX11_leastReach {K J : Nat → Nat} {fu : Nat} {sh : HS} {I : HI} {R : HR} {F : VF} {o : (Int32 × HI)} (hF : F (.inl (some (.int o.1))) sh o.2 R) {l0 : Nat} {l1 : Int32} (h0 : fX11_leastReach fu sh I R l0 l1 = some o) : V K J 258 0 (ent 3 [.ref l0, .int l1]) [] sh I R (0, 0) F := by
  unfold fX11_leastReach at h0
  obtain ⟨-, h1⟩ := gd h0; clear h0
  have hc0 : ((0 : Nat), (0 : Nat)).1 ≤ 0 ∧ ((0 : Nat), (0 : Nat)).2 ≤ 0 := ⟨Nat.le_refl _, Nat.le_refl _⟩
  show V K J 258 0 [some (.ref l0), some (.int l1), none] [] sh I R (0, 0) F
  refine s_rl (i := 0) (pc' := 1) (by decide +kernel) rfl ?_
  refine s_il (i := 1) (pc' := 2) (by decide +kernel) rfl ?_
  refine s_a (ins := .i2l) (pc' := 3) (by decide +kernel) rfl ?_
  refine s_cJ (v := 0) (pc' := 4) (by decide +kernel) ?_
  refine s_cJ (v := 12) (pc' := 7) (by decide +kernel) ?_
  refine kX11_isIn (X := 0) (Y := 0) (X' := 0) (Y' := 0) (pc' := 10) (by decide +kernel) hc0 rfl h1 (fun v1 c hc1 h2 => ?_); clear h1 hc0
  refine kX11_isWrong (X := 0) (Y := 0) (X' := 0) (Y' := 0) (pc' := 13) (by decide +kernel) hc1 rfl h2 (fun v2 w2 c hc2 h3 => ?_); clear h2 hc1
  refine s_if (ins := .ifCond .eq 5) (t := 18) (pc' := 16) (by decide +kernel) rfl rfl rfl h3 (fun p4 h4 => ?_) (fun p4 h4 => ?_) <;> clear h3
  · refine s_c (v := 0) (pc' := 19) (by decide +kernel) ?_
    refine s_is (i := 2) (pc' := 20) (L' := [some (.ref l0), some (.int l1), some (.int 0)]) (by decide +kernel) rfl rfl ?_
    exact (vX11_leastReach_l20 hF fu) hc2 h4
  · refine s_c (v := 0) (pc' := 17) (by decide +kernel) ?_
    have e9 := Option.some.inj h4; subst e9
    exact s_ri (X := 0) (Y := 0) (by decide +kernel) hc2 hF
set_option maxRecDepth 100000 in
set_option maxHeartbeats 4000000 in
theorem kX11_leastReach {K J : Nat → Nat} {fu : Nat} {sh : HS} {I : HI} {R : HR} {F : VF} {mi pc pc' X Y X' Y' : Nat} {L : VL} {rest : List Value} {c : Nat × Nat} {l0 : Nat} {l1 : Int32} {ω : Type} {o : ω} {g : Int32 → HI → Option ω} (hq : cQ mi pc 258 2 pc' X Y X' Y' = true) (hc : c.1 ≤ X ∧ c.2 ≤ Y) (hr : Nat.ble (catS rest) 8 = true) (h : oH (fX11_leastReach fu sh I R l0 l1) g = some o) (kk : ∀ v w c', (c'.1 ≤ X' ∧ c'.2 ≤ Y') → g v w = some o → V K J mi pc' L ((.int v) :: rest) sh w R c' F) : V K J mi pc L (.int l1 :: .ref l0 :: rest) sh I R c F := by
  obtain ⟨r, h1, h2⟩ := bnd h
  have hT : isT sh l0 9 = true := by unfold fX11_leastReach at h1; exact (gd h1).1
  have ml : mL 258 = 3 := by decide +kernel
  have mk : mK 258 = 1 := by decide +kernel
  have mc : mC 258 = 9 := by decide +kernel
  obtain ⟨v, w⟩ := r
  refine s_call (as := [.int l1, .ref l0]) (G := fun o' sh' I' R' => o' = .inl (some (.int v)) ∧ sh' = sh ∧ I' = w ∧ R' = R) hq hc rfl hr (by rw [ml]; rfl) (Or.inl rfl) (fun _ => Or.inl ⟨by rw [mc]; decide, by rw [mc]; exact isT_iff.mp hT⟩) (fun z => absurd (mk.symm.trans z) (by decide)) (by rw [ml]; exact vX11_leastReach (F := fun o' sh' I' R' => o' = .inl (some (.int v)) ∧ sh' = sh ∧ I' = w ∧ R' = R) ⟨rfl, rfl, rfl, rfl⟩ h1) ?_ ?_ ?_
  · rintro sh' I' R' c' hc' ⟨g1, rfl, rfl, rfl⟩
    cases g1
  · rintro v' sh' I' R' c' hc' ⟨g1, rfl, rfl, rfl⟩
    cases g1
    exact kk _ _ _ hc' h2
  · rintro E' sh' I' R' ⟨g1, rfl, rfl, rfl⟩
    cases g1
set_option maxRecDepth 100000 in
set_option maxHeartbeats 4000000 in
def fX11_changeOf_b76 (fu : Nat) (sh : HS) (I : HI) (R : HR) (l0 : Nat) (l1 : Int32) (l2 : Int32) (l5 : Int32) (s0 : Int32) : Option Int32 :=
  (fX11_actorsIn fu sh I R l0 l2).bind fun v14 =>
  (fX11_actorsIn fu sh I R l0 l1).bind fun v15 =>
  (fX11_sizeOf fu sh I R (v14 &&& (v15 ^^^ (-1)))).bind fun v16 =>
  some ((s0 + (4 * l5)) + (2 * v16))
set_option maxRecDepth 100000 in
set_option maxHeartbeats 4000000 in
theorem vX11_changeOf_b76 {K J : Nat → Nat} {fu : Nat} {sh : HS} {I : HI} {R : HR} {F : VF} {o : Int32} (hF : F (.inl (some (.int o))) sh I R) {l0 : Nat} {l1 : Int32} {l2 : Int32} {l5 : Int32} {s0 : Int32} {d3 d4 : Option Value} {c : Nat × Nat} (hc0 : c.1 ≤ 0 ∧ c.2 ≤ 0) (h0 : fX11_changeOf_b76 fu sh I R l0 l1 l2 l5 s0 = some o) : V K J 259 76 [some (.ref l0), some (.int l1), some (.int l2), d3, d4, some (.int l5)] [.int s0] sh I R c F := by
  unfold fX11_changeOf_b76 at h0
  refine s_c (v := 4) (pc' := 77) (by decide +kernel) ?_
  refine s_il (i := 5) (pc' := 79) (by decide +kernel) rfl ?_
  refine s_a (ins := .imul) (pc' := 80) (by decide +kernel) rfl ?_
  refine s_a (ins := .iadd) (pc' := 81) (by decide +kernel) rfl ?_
  refine s_c (v := 2) (pc' := 82) (by decide +kernel) ?_
  refine s_rl (i := 0) (pc' := 83) (by decide +kernel) rfl ?_
  refine s_il (i := 2) (pc' := 84) (by decide +kernel) rfl ?_
  refine kX11_actorsIn (X := 0) (Y := 0) (X' := 0) (Y' := 0) (pc' := 87) (by decide +kernel) hc0 rfl h0 (fun v14 c hc1 h1 => ?_); clear h0 hc0
  refine s_rl (i := 0) (pc' := 88) (by decide +kernel) rfl ?_
  refine s_il (i := 1) (pc' := 89) (by decide +kernel) rfl ?_
  refine kX11_actorsIn (X := 0) (Y := 0) (X' := 0) (Y' := 0) (pc' := 92) (by decide +kernel) hc1 rfl h1 (fun v15 c hc2 h2 => ?_); clear h1 hc1
  refine s_c (v := (-1)) (pc' := 93) (by decide +kernel) ?_
  refine s_a (ins := .ixor) (pc' := 94) (by decide +kernel) rfl ?_
  refine s_a (ins := .iand) (pc' := 95) (by decide +kernel) rfl ?_
  refine kX11_sizeOf (X := 0) (Y := 0) (X' := 0) (Y' := 0) (pc' := 98) (by decide +kernel) hc2 rfl h2 (fun v16 c hc3 h3 => ?_); clear h2 hc2
  refine s_a (ins := .imul) (pc' := 99) (by decide +kernel) rfl ?_
  refine s_a (ins := .iadd) (pc' := 100) (by decide +kernel) rfl ?_
  have e9 := Option.some.inj h3; subst e9
  exact s_ri (X := 0) (Y := 0) (by decide +kernel) hc3 hF
set_option maxRecDepth 100000 in
set_option maxHeartbeats 4000000 in
def fX11_changeOf (fu : Nat) (sh : HS) (I : HI) (R : HR) (l0 : Nat) (l1 : Int32) (l2 : Int32) : Option Int32 :=
  if isT sh l0 9 = true then
    (if l1 = (-1) then
      ((fX11_actorsIn fu sh I R l0 l2).bind fun v17 =>
      (fX11_sizeOf fu sh I R v17).bind fun v18 =>
      some (2 * v18))
    else
      ((oR sh R l0 9 20).bind fun v1 =>
      (oA sh I v1 l1).bind fun v2 =>
      (fX11_sceneOf fu sh I R l0 v2).bind fun v3 =>
      (oR sh R l0 9 20).bind fun v4 =>
      (oA sh I v4 l2).bind fun v5 =>
      (fX11_sceneOf fu sh I R l0 v5).bind fun v6 =>
      (oR sh R l0 9 0).bind fun v7 =>
      (fX11_sceneAt fu sh I R v3).bind fun v8 =>
      (oA sh I v7 v8).bind fun v9 =>
      (oR sh R l0 9 0).bind fun v10 =>
      (fX11_sceneAt fu sh I R v6).bind fun v11 =>
      (oA sh I v10 v11).bind fun v12 =>
      (fX11_sizeOfNumber fu sh I R (v9 - v12)).bind fun v13 =>
      if v3 = v6 then
        ((fX11_changeOf_b76 fu sh I R) l0 l1 l2 v13 0)
      else
        ((fX11_changeOf_b76 fu sh I R) l0 l1 l2 v13 9)))
  else none
set_option maxRecDepth 100000 in
set_option maxHeartbeats 4000000 in
theorem vX11_changeOf {K J : Nat → Nat} {fu : Nat} {sh : HS} {I : HI} {R : HR} {F : VF} {o : Int32} (hF : F (.inl (some (.int o))) sh I R) {l0 : Nat} {l1 : Int32} {l2 : Int32} (h0 : fX11_changeOf fu sh I R l0 l1 l2 = some o) : V K J 259 0 (ent 6 [.ref l0, .int l1, .int l2]) [] sh I R (0, 0) F := by
  unfold fX11_changeOf at h0
  obtain ⟨-, h1⟩ := gd h0; clear h0
  have hc0 : ((0 : Nat), (0 : Nat)).1 ≤ 0 ∧ ((0 : Nat), (0 : Nat)).2 ≤ 0 := ⟨Nat.le_refl _, Nat.le_refl _⟩
  show V K J 259 0 [some (.ref l0), some (.int l1), some (.int l2), none, none, none] [] sh I R (0, 0) F
  refine s_il (i := 1) (pc' := 1) (by decide +kernel) rfl ?_
  refine s_c (v := (-1)) (pc' := 2) (by decide +kernel) ?_
  refine s_ifn (ins := .if_icmp .ne 14) (t := 16) (pc' := 5) (by decide +kernel) rfl rfl rfl h1 (fun p2 h2 => ?_) (fun p2 h2 => ?_) <;> clear h1
  · refine s_rl (i := 0) (pc' := 17) (by decide +kernel) rfl ?_
    refine s_rl (i := 0) (pc' := 18) (by decide +kernel) rfl ?_
    refine s_gR (t := 9) (j := 20) (pc' := 21) (by decide +kernel) h2 (fun v1 h3 => ?_); clear h2
    refine s_il (i := 1) (pc' := 22) (by decide +kernel) rfl ?_
    refine s_al (pc' := 23) (by decide +kernel) h3 (fun v2 h4 => ?_); clear h3
    refine kX11_sceneOf (X := 0) (Y := 0) (X' := 0) (Y' := 0) (pc' := 26) (by decide +kernel) hc0 rfl h4 (fun v3 c hc1 h5 => ?_); clear h4 hc0
    refine s_is (i := 3) (pc' := 27) (L' := [some (.ref l0), some (.int l1), some (.int l2), some (.int v3), none, none]) (by decide +kernel) rfl rfl ?_
    refine s_rl (i := 0) (pc' := 28) (by decide +kernel) rfl ?_
    refine s_rl (i := 0) (pc' := 29) (by decide +kernel) rfl ?_
    refine s_gR (t := 9) (j := 20) (pc' := 32) (by decide +kernel) h5 (fun v4 h6 => ?_); clear h5
    refine s_il (i := 2) (pc' := 33) (by decide +kernel) rfl ?_
    refine s_al (pc' := 34) (by decide +kernel) h6 (fun v5 h7 => ?_); clear h6
    refine kX11_sceneOf (X := 0) (Y := 0) (X' := 0) (Y' := 0) (pc' := 37) (by decide +kernel) hc1 rfl h7 (fun v6 c hc2 h8 => ?_); clear h7 hc1
    refine s_is (i := 4) (pc' := 39) (L' := [some (.ref l0), some (.int l1), some (.int l2), some (.int v3), some (.int v6), none]) (by decide +kernel) rfl rfl ?_
    refine s_rl (i := 0) (pc' := 40) (by decide +kernel) rfl ?_
    refine s_gR (t := 9) (j := 0) (pc' := 43) (by decide +kernel) h8 (fun v7 h9 => ?_); clear h8
    refine s_il (i := 3) (pc' := 44) (by decide +kernel) rfl ?_
    refine kX11_sceneAt (X := 0) (Y := 0) (X' := 0) (Y' := 0) (pc' := 47) (by decide +kernel) hc2 rfl h9 (fun v8 c hc3 h10 => ?_); clear h9 hc2
    refine s_al (pc' := 48) (by decide +kernel) h10 (fun v9 h11 => ?_); clear h10
    refine s_rl (i := 0) (pc' := 49) (by decide +kernel) rfl ?_
    refine s_gR (t := 9) (j := 0) (pc' := 52) (by decide +kernel) h11 (fun v10 h12 => ?_); clear h11
    refine s_il (i := 4) (pc' := 54) (by decide +kernel) rfl ?_
    refine kX11_sceneAt (X := 0) (Y := 0) (X' := 0) (Y' := 0) (pc' := 57) (by decide +kernel) hc3 rfl h12 (fun v11 c hc4 h13 => ?_); clear h12 hc3
    refine s_al (pc' := 58) (by decide +kernel) h13 (fun v12 h14 => ?_); clear h13
    refine s_a (ins := .isub) (pc' := 59) (by decide +kernel) rfl ?_
    refine kX11_sizeOfNumber (X := 0) (Y := 0) (X' := 0) (Y' := 0) (pc' := 62) (by decide +kernel) hc4 rfl h14 (fun v13 c hc5 h15 => ?_); clear h14 hc4
    refine s_is (i := 5) (pc' := 64) (L' := [some (.ref l0), some (.int l1), some (.int l2), some (.int v3), some (.int v6), some (.int v13)]) (by decide +kernel) rfl rfl ?_
    refine s_il (i := 3) (pc' := 65) (by decide +kernel) rfl ?_
    refine s_il (i := 4) (pc' := 67) (by decide +kernel) rfl ?_
    refine s_ifn (ins := .if_icmp .ne 7) (t := 74) (pc' := 70) (by decide +kernel) rfl rfl rfl h15 (fun p16 h16 => ?_) (fun p16 h16 => ?_) <;> clear h15
    · refine s_c (v := 9) (pc' := 76) (by decide +kernel) ?_
      exact (vX11_changeOf_b76 hF) hc5 h16
    · refine s_c (v := 0) (pc' := 71) (by decide +kernel) ?_
      refine s_go (t := 76) (by decide +kernel) ?_
      exact (vX11_changeOf_b76 hF) hc5 h16
  · refine s_c (v := 2) (pc' := 6) (by decide +kernel) ?_
    refine s_rl (i := 0) (pc' := 7) (by decide +kernel) rfl ?_
    refine s_il (i := 2) (pc' := 8) (by decide +kernel) rfl ?_
    refine kX11_actorsIn (X := 0) (Y := 0) (X' := 0) (Y' := 0) (pc' := 11) (by decide +kernel) hc0 rfl h2 (fun v17 c hc1 h3 => ?_); clear h2 hc0
    refine kX11_sizeOf (X := 0) (Y := 0) (X' := 0) (Y' := 0) (pc' := 14) (by decide +kernel) hc1 rfl h3 (fun v18 c hc2 h4 => ?_); clear h3 hc1
    refine s_a (ins := .imul) (pc' := 15) (by decide +kernel) rfl ?_
    have e9 := Option.some.inj h4; subst e9
    exact s_ri (X := 0) (Y := 0) (by decide +kernel) hc2 hF
set_option maxRecDepth 100000 in
set_option maxHeartbeats 4000000 in
theorem kX11_changeOf {K J : Nat → Nat} {fu : Nat} {sh : HS} {I : HI} {R : HR} {F : VF} {mi pc pc' X Y X' Y' : Nat} {L : VL} {rest : List Value} {c : Nat × Nat} {l0 : Nat} {l1 : Int32} {l2 : Int32} {ω : Type} {o : ω} {g : Int32 → Option ω} (hq : cQ mi pc 259 3 pc' X Y X' Y' = true) (hc : c.1 ≤ X ∧ c.2 ≤ Y) (hr : Nat.ble (catS rest) 8 = true) (h : (fX11_changeOf fu sh I R l0 l1 l2).bind g = some o) (kk : ∀ v c', (c'.1 ≤ X' ∧ c'.2 ≤ Y') → g v = some o → V K J mi pc' L ((.int v) :: rest) sh I R c' F) : V K J mi pc L (.int l2 :: .int l1 :: .ref l0 :: rest) sh I R c F := by
  obtain ⟨r, h1, h2⟩ := bnd h
  have hT : isT sh l0 9 = true := by unfold fX11_changeOf at h1; exact (gd h1).1
  have ml : mL 259 = 6 := by decide +kernel
  have mk : mK 259 = 1 := by decide +kernel
  have mc : mC 259 = 9 := by decide +kernel
  refine s_call (as := [.int l2, .int l1, .ref l0]) (G := fun o' sh' I' R' => o' = .inl (some (.int r)) ∧ sh' = sh ∧ I' = I ∧ R' = R) hq hc rfl hr (by rw [ml]; rfl) (Or.inl rfl) (fun _ => Or.inl ⟨by rw [mc]; decide, by rw [mc]; exact isT_iff.mp hT⟩) (fun z => absurd (mk.symm.trans z) (by decide)) (by rw [ml]; exact vX11_changeOf (F := fun o' sh' I' R' => o' = .inl (some (.int r)) ∧ sh' = sh ∧ I' = I ∧ R' = R) ⟨rfl, rfl, rfl, rfl⟩ h1) ?_ ?_ ?_
  · rintro sh' I' R' c' hc' ⟨g1, rfl, rfl, rfl⟩
    cases g1
  · rintro v' sh' I' R' c' hc' ⟨g1, rfl, rfl, rfl⟩
    cases g1
    exact kk _ _ hc' h2
  · rintro E' sh' I' R' ⟨g1, rfl, rfl, rfl⟩
    cases g1
set_option maxRecDepth 100000 in
set_option maxHeartbeats 4000000 in
def fX11_layChanges_b12 (fu : Nat) (sh : HS) (R : HR) (k12 : HI → Nat → Int32 → Int32 → Option HI) (k45 : HI → Nat → Int32 → Option HI) (I : HI) (l0 : Nat) (l1 : Int32) (l2 : Int32) : Option HI :=
  (oI sh I l0 9 22).bind fun v2 =>
  if v2 ≤ l2 then
    (k45 I l0 l1)
  else
    ((oR sh R l0 9 24).bind fun v3 =>
    (fX11_changeOf fu sh I R l0 l1 l2).bind fun v4 =>
    (oS sh I v3 ((12 * (l1 + 1)) + l2) v4).bind fun v5 =>
    k12 v5 l0 l1 (l2 + 1))
set_option maxRecDepth 100000 in
set_option maxHeartbeats 4000000 in
theorem vX11_layChanges_b12 {K J : Nat → Nat} {fu : Nat} {sh : HS} {R : HR} {F : VF} {o : HI} (hF : F (.inl none) sh o R) {k12 : HI → Nat → Int32 → Int32 → Option HI} {k45 : HI → Nat → Int32 → Option HI} (hk12 : ∀ {I : HI} {l0 : Nat} {l1 : Int32} {l2 : Int32}  {c : Nat × Nat}, (c.1 ≤ 0 ∧ c.2 ≤ 0) → k12 I l0 l1 l2 = some o → V K J 260 12 [some (.ref l0), some (.int l1), some (.int l2)] [] sh I R c F) (hk45 : ∀ {I : HI} {l0 : Nat} {l1 : Int32} {d2 : Option Value} {c : Nat × Nat}, (c.1 ≤ 0 ∧ c.2 ≤ 0) → k45 I l0 l1 = some o → V K J 260 45 [some (.ref l0), some (.int l1), d2] [] sh I R c F) {I : HI} {l0 : Nat} {l1 : Int32} {l2 : Int32} {c : Nat × Nat} (hc0 : c.1 ≤ 0 ∧ c.2 ≤ 0) (h0 : fX11_layChanges_b12 fu sh R k12 k45 I l0 l1 l2 = some o) : V K J 260 12 [some (.ref l0), some (.int l1), some (.int l2)] [] sh I R c F := by
  unfold fX11_layChanges_b12 at h0
  refine s_il (i := 2) (pc' := 13) (by decide +kernel) rfl ?_
  refine s_rl (i := 0) (pc' := 14) (by decide +kernel) rfl ?_
  refine s_gI (t := 9) (j := 22) (ty := 0) (pc' := 17) (by decide +kernel) rfl h0 (fun v2 h1 => ?_); clear h0
  refine s_if (ins := .if_icmp .ge 28) (t := 45) (pc' := 20) (by decide +kernel) rfl rfl rfl h1 (fun p2 h2 => ?_) (fun p2 h2 => ?_) <;> clear h1
  · exact hk45 hc0 h2
  · refine s_rl (i := 0) (pc' := 21) (by decide +kernel) rfl ?_
    refine s_gR (t := 9) (j := 24) (pc' := 24) (by decide +kernel) h2 (fun v3 h3 => ?_); clear h2
    refine s_c (v := 12) (pc' := 26) (by decide +kernel) ?_
    refine s_il (i := 1) (pc' := 27) (by decide +kernel) rfl ?_
    refine s_c (v := 1) (pc' := 28) (by decide +kernel) ?_
    refine s_a (ins := .iadd) (pc' := 29) (by decide +kernel) rfl ?_
    refine s_a (ins := .imul) (pc' := 30) (by decide +kernel) rfl ?_
    refine s_il (i := 2) (pc' := 31) (by decide +kernel) rfl ?_
    refine s_a (ins := .iadd) (pc' := 32) (by decide +kernel) rfl ?_
    refine s_rl (i := 0) (pc' := 33) (by decide +kernel) rfl ?_
    refine s_il (i := 1) (pc' := 34) (by decide +kernel) rfl ?_
    refine s_il (i := 2) (pc' := 35) (by decide +kernel) rfl ?_
    refine kX11_changeOf (X := 0) (Y := 0) (X' := 0) (Y' := 0) (pc' := 38) (by decide +kernel) hc0 rfl h3 (fun v4 c hc1 h4 => ?_); clear h3 hc0
    refine s_as (pc' := 39) (by decide +kernel) h4 (fun v5 h5 => ?_); clear h4
    refine s_inc (i := 2) (z := 1) (pc' := 42) (L' := [some (.ref l0), some (.int l1), some (.int (l2 + 1))]) (by decide +kernel) rfl rfl rfl ?_
    refine s_go (t := 12) (by decide +kernel) ?_
    exact hk12 hc1 h5
set_option maxRecDepth 100000 in
set_option maxHeartbeats 4000000 in
def fX11_layChanges_l12 (fu : Nat) (sh : HS) (R : HR) (k45 : HI → Nat → Int32 → Option HI) : Nat → HI → Nat → Int32 → Int32 → Option HI
  | 0 => fun _ _ _ _ => none
  | n + 1 => fX11_layChanges_b12 fu sh R (fX11_layChanges_l12 fu sh R k45 n) k45
set_option maxRecDepth 100000 in
set_option maxHeartbeats 4000000 in
theorem vX11_layChanges_l12 {K J : Nat → Nat} {fu : Nat} {sh : HS} {R : HR} {F : VF} {o : HI} (hF : F (.inl none) sh o R) {k45 : HI → Nat → Int32 → Option HI} (hk45 : ∀ {I : HI} {l0 : Nat} {l1 : Int32} {d2 : Option Value} {c : Nat × Nat}, (c.1 ≤ 0 ∧ c.2 ≤ 0) → k45 I l0 l1 = some o → V K J 260 45 [some (.ref l0), some (.int l1), d2] [] sh I R c F) : ∀ (n : Nat) {I : HI} {l0 : Nat} {l1 : Int32} {l2 : Int32} {c : Nat × Nat} (_ : c.1 ≤ 0 ∧ c.2 ≤ 0) (_ : fX11_layChanges_l12 fu sh R k45 n I l0 l1 l2 = some o), V K J 260 12 [some (.ref l0), some (.int l1), some (.int l2)] [] sh I R c F := by
  intro n
  induction n with
  | zero => exact fun _ h0 => nomatch h0
  | succ n ih => exact fun hc0 h0 => vX11_layChanges_b12 hF ih hk45 hc0 h0
set_option maxRecDepth 100000 in
set_option maxHeartbeats 4000000 in
def fX11_layChanges_b45 (fu : Nat) (sh : HS) (R : HR) (k2 : HI → Nat → Int32 → Option HI) (I : HI) (l0 : Nat) (l1 : Int32) : Option HI :=
  k2 I l0 (l1 + 1)
set_option maxRecDepth 100000 in
set_option maxHeartbeats 4000000 in
theorem vX11_layChanges_b45 {K J : Nat → Nat} {fu : Nat} {sh : HS} {R : HR} {F : VF} {o : HI} (hF : F (.inl none) sh o R) {k2 : HI → Nat → Int32 → Option HI} (hk2 : ∀ {I : HI} {l0 : Nat} {l1 : Int32} {d2 : Option Value} {c : Nat × Nat}, (c.1 ≤ 0 ∧ c.2 ≤ 0) → k2 I l0 l1 = some o → V K J 260 2 [some (.ref l0), some (.int l1), d2] [] sh I R c F) {I : HI} {l0 : Nat} {l1 : Int32} {d2 : Option Value} {c : Nat × Nat} (hc0 : c.1 ≤ 0 ∧ c.2 ≤ 0) (h0 : fX11_layChanges_b45 fu sh R k2 I l0 l1 = some o) : V K J 260 45 [some (.ref l0), some (.int l1), d2] [] sh I R c F := by
  unfold fX11_layChanges_b45 at h0
  refine s_inc (i := 1) (z := 1) (pc' := 48) (L' := [some (.ref l0), some (.int (l1 + 1)), d2]) (by decide +kernel) rfl rfl rfl ?_
  refine s_go (t := 2) (by decide +kernel) ?_
  exact hk2 hc0 h0
set_option maxRecDepth 100000 in
set_option maxHeartbeats 4000000 in
def fX11_layChanges_b2 (fu : Nat) (sh : HS) (R : HR) (k2 : HI → Nat → Int32 → Option HI) (I : HI) (l0 : Nat) (l1 : Int32) : Option HI :=
  (oI sh I l0 9 22).bind fun v1 =>
  if v1 ≤ l1 then
    (some I)
  else
    ((fX11_layChanges_l12 fu sh R (fX11_layChanges_b45 fu sh R k2) fu) I l0 l1 0)
set_option maxRecDepth 100000 in
set_option maxHeartbeats 4000000 in
theorem vX11_layChanges_b2 {K J : Nat → Nat} {fu : Nat} {sh : HS} {R : HR} {F : VF} {o : HI} (hF : F (.inl none) sh o R) {k2 : HI → Nat → Int32 → Option HI} (hk2 : ∀ {I : HI} {l0 : Nat} {l1 : Int32} {d2 : Option Value} {c : Nat × Nat}, (c.1 ≤ 0 ∧ c.2 ≤ 0) → k2 I l0 l1 = some o → V K J 260 2 [some (.ref l0), some (.int l1), d2] [] sh I R c F) {I : HI} {l0 : Nat} {l1 : Int32} {d2 : Option Value} {c : Nat × Nat} (hc0 : c.1 ≤ 0 ∧ c.2 ≤ 0) (h0 : fX11_layChanges_b2 fu sh R k2 I l0 l1 = some o) : V K J 260 2 [some (.ref l0), some (.int l1), d2] [] sh I R c F := by
  unfold fX11_layChanges_b2 at h0
  refine s_il (i := 1) (pc' := 3) (by decide +kernel) rfl ?_
  refine s_rl (i := 0) (pc' := 4) (by decide +kernel) rfl ?_
  refine s_gI (t := 9) (j := 22) (ty := 0) (pc' := 7) (by decide +kernel) rfl h0 (fun v1 h1 => ?_); clear h0
  refine s_if (ins := .if_icmp .ge 44) (t := 51) (pc' := 10) (by decide +kernel) rfl rfl rfl h1 (fun p2 h2 => ?_) (fun p2 h2 => ?_) <;> clear h1
  · have e9 := Option.some.inj h2; subst e9
    exact s_rv (X := 0) (Y := 0) (by decide +kernel) hc0 hF
  · refine s_c (v := 0) (pc' := 11) (by decide +kernel) ?_
    refine s_is (i := 2) (pc' := 12) (L' := [some (.ref l0), some (.int l1), some (.int 0)]) (by decide +kernel) rfl rfl ?_
    exact (vX11_layChanges_l12 hF (vX11_layChanges_b45 hF hk2) fu) hc0 h2
set_option maxRecDepth 100000 in
set_option maxHeartbeats 4000000 in
def fX11_layChanges_l2 (fu : Nat) (sh : HS) (R : HR) : Nat → HI → Nat → Int32 → Option HI
  | 0 => fun _ _ _ => none
  | n + 1 => fX11_layChanges_b2 fu sh R (fX11_layChanges_l2 fu sh R n)
set_option maxRecDepth 100000 in
set_option maxHeartbeats 4000000 in
theorem vX11_layChanges_l2 {K J : Nat → Nat} {fu : Nat} {sh : HS} {R : HR} {F : VF} {o : HI} (hF : F (.inl none) sh o R) : ∀ (n : Nat) {I : HI} {l0 : Nat} {l1 : Int32} {d2 : Option Value} {c : Nat × Nat} (_ : c.1 ≤ 0 ∧ c.2 ≤ 0) (_ : fX11_layChanges_l2 fu sh R n I l0 l1 = some o), V K J 260 2 [some (.ref l0), some (.int l1), d2] [] sh I R c F := by
  intro n
  induction n with
  | zero => exact fun _ h0 => nomatch h0
  | succ n ih => exact fun hc0 h0 => vX11_layChanges_b2 hF ih hc0 h0
set_option maxRecDepth 100000 in
set_option maxHeartbeats 4000000 in
def fX11_layChanges (fu : Nat) (sh : HS) (I : HI) (R : HR) (l0 : Nat) : Option HI :=
  if isT sh l0 9 = true then
    ((fX11_layChanges_l2 fu sh R fu) I l0 (-1))
  else none
set_option maxRecDepth 100000 in
set_option maxHeartbeats 4000000 in
theorem vX11_layChanges {K J : Nat → Nat} {fu : Nat} {sh : HS} {I : HI} {R : HR} {F : VF} {o : HI} (hF : F (.inl none) sh o R) {l0 : Nat} (h0 : fX11_layChanges fu sh I R l0 = some o) : V K J 260 0 (ent 3 [.ref l0]) [] sh I R (0, 0) F := by
  unfold fX11_layChanges at h0
  obtain ⟨-, h1⟩ := gd h0; clear h0
  have hc0 : ((0 : Nat), (0 : Nat)).1 ≤ 0 ∧ ((0 : Nat), (0 : Nat)).2 ≤ 0 := ⟨Nat.le_refl _, Nat.le_refl _⟩
  show V K J 260 0 [some (.ref l0), none, none] [] sh I R (0, 0) F
  refine s_c (v := (-1)) (pc' := 1) (by decide +kernel) ?_
  refine s_is (i := 1) (pc' := 2) (L' := [some (.ref l0), some (.int (-1)), none]) (by decide +kernel) rfl rfl ?_
  exact (vX11_layChanges_l2 hF fu) hc0 h1
set_option maxRecDepth 100000 in
set_option maxHeartbeats 4000000 in
theorem kX11_layChanges {K J : Nat → Nat} {fu : Nat} {sh : HS} {I : HI} {R : HR} {F : VF} {mi pc pc' X Y X' Y' : Nat} {L : VL} {rest : List Value} {c : Nat × Nat} {l0 : Nat} {ω : Type} {o : ω} {g : HI → Option ω} (hq : cQ mi pc 260 1 pc' X Y X' Y' = true) (hc : c.1 ≤ X ∧ c.2 ≤ Y) (hr : Nat.ble (catS rest) 8 = true) (h : (fX11_layChanges fu sh I R l0).bind g = some o) (kk : ∀ w c', (c'.1 ≤ X' ∧ c'.2 ≤ Y') → g w = some o → V K J mi pc' L (rest) sh w R c' F) : V K J mi pc L (.ref l0 :: rest) sh I R c F := by
  obtain ⟨r, h1, h2⟩ := bnd h
  have hT : isT sh l0 9 = true := by unfold fX11_layChanges at h1; exact (gd h1).1
  have ml : mL 260 = 3 := by decide +kernel
  have mk : mK 260 = 1 := by decide +kernel
  have mc : mC 260 = 9 := by decide +kernel
  refine s_call (as := [.ref l0]) (G := fun o' sh' I' R' => o' = .inl none ∧ sh' = sh ∧ I' = r ∧ R' = R) hq hc rfl hr (by rw [ml]; rfl) (Or.inl rfl) (fun _ => Or.inl ⟨by rw [mc]; decide, by rw [mc]; exact isT_iff.mp hT⟩) (fun z => absurd (mk.symm.trans z) (by decide)) (by rw [ml]; exact vX11_layChanges (F := fun o' sh' I' R' => o' = .inl none ∧ sh' = sh ∧ I' = r ∧ R' = R) ⟨rfl, rfl, rfl, rfl⟩ h1) ?_ ?_ ?_
  · rintro sh' I' R' c' hc' ⟨g1, rfl, rfl, rfl⟩
    cases g1
    exact kk _ _ hc' h2
  · rintro v' sh' I' R' c' hc' ⟨g1, rfl, rfl, rfl⟩
    cases g1
  · rintro E' sh' I' R' ⟨g1, rfl, rfl, rfl⟩
    cases g1
set_option maxRecDepth 100000 in
set_option maxHeartbeats 4000000 in
def fX11_cheapest_b77 (fu : Nat) (sh : HS) (I : HI) (R : HR) (k5 : Nat → Int32 → Int32 → Int32 → Int32 → Option Int32) (l0 : Nat) (l1 : Int32) (l2 : Int32) (l3 : Int32) (l4 : Int32) : Option Int32 :=
  k5 l0 l1 l2 l3 (l4 + 1)
set_option maxRecDepth 100000 in
set_option maxHeartbeats 4000000 in
theorem vX11_cheapest_b77 {K J : Nat → Nat} {fu : Nat} {sh : HS} {I : HI} {R : HR} {F : VF} {o : Int32} (hF : F (.inl (some (.int o))) sh I R) {k5 : Nat → Int32 → Int32 → Int32 → Int32 → Option Int32} (hk5 : ∀ {l0 : Nat} {l1 : Int32} {l2 : Int32} {l3 : Int32} {l4 : Int32} {d5 : Option Value} {c : Nat × Nat}, (c.1 ≤ 0 ∧ c.2 ≤ 0) → k5 l0 l1 l2 l3 l4 = some o → V K J 261 5 [some (.ref l0), some (.int l1), some (.int l2), some (.int l3), some (.int l4), d5] [] sh I R c F) {l0 : Nat} {l1 : Int32} {l2 : Int32} {l3 : Int32} {l4 : Int32} {d5 : Option Value} {c : Nat × Nat} (hc0 : c.1 ≤ 0 ∧ c.2 ≤ 0) (h0 : fX11_cheapest_b77 fu sh I R k5 l0 l1 l2 l3 l4 = some o) : V K J 261 77 [some (.ref l0), some (.int l1), some (.int l2), some (.int l3), some (.int l4), d5] [] sh I R c F := by
  unfold fX11_cheapest_b77 at h0
  refine s_inc (i := 4) (z := 1) (pc' := 80) (L' := [some (.ref l0), some (.int l1), some (.int l2), some (.int l3), some (.int (l4 + 1)), d5]) (by decide +kernel) rfl rfl rfl ?_
  refine s_go (t := 5) (by decide +kernel) ?_
  exact hk5 hc0 h0
set_option maxRecDepth 100000 in
set_option maxHeartbeats 4000000 in
def fX11_cheapest_b76 (fu : Nat) (sh : HS) (I : HI) (R : HR) (k5 : Nat → Int32 → Int32 → Int32 → Int32 → Option Int32) (l0 : Nat) (l1 : Int32) (l2 : Int32) (l4 : Int32) (s0 : Int32) : Option Int32 :=
  (fX11_cheapest_b77 fu sh I R k5) l0 l1 l2 s0 l4
set_option maxRecDepth 100000 in
set_option maxHeartbeats 4000000 in
theorem vX11_cheapest_b76 {K J : Nat → Nat} {fu : Nat} {sh : HS} {I : HI} {R : HR} {F : VF} {o : Int32} (hF : F (.inl (some (.int o))) sh I R) {k5 : Nat → Int32 → Int32 → Int32 → Int32 → Option Int32} (hk5 : ∀ {l0 : Nat} {l1 : Int32} {l2 : Int32} {l3 : Int32} {l4 : Int32} {d5 : Option Value} {c : Nat × Nat}, (c.1 ≤ 0 ∧ c.2 ≤ 0) → k5 l0 l1 l2 l3 l4 = some o → V K J 261 5 [some (.ref l0), some (.int l1), some (.int l2), some (.int l3), some (.int l4), d5] [] sh I R c F) {l0 : Nat} {l1 : Int32} {l2 : Int32} {l4 : Int32} {s0 : Int32} {d3 d5 : Option Value} {c : Nat × Nat} (hc0 : c.1 ≤ 0 ∧ c.2 ≤ 0) (h0 : fX11_cheapest_b76 fu sh I R k5 l0 l1 l2 l4 s0 = some o) : V K J 261 76 [some (.ref l0), some (.int l1), some (.int l2), d3, some (.int l4), d5] [.int s0] sh I R c F := by
  unfold fX11_cheapest_b76 at h0
  refine s_is (i := 3) (pc' := 77) (L' := [some (.ref l0), some (.int l1), some (.int l2), some (.int s0), some (.int l4), d5]) (by decide +kernel) rfl rfl ?_
  exact (vX11_cheapest_b77 hF hk5) hc0 h0
set_option maxRecDepth 100000 in
set_option maxHeartbeats 4000000 in
def fX11_cheapest_b5 (fu : Nat) (sh : HS) (I : HI) (R : HR) (k5 : Nat → Int32 → Int32 → Int32 → Int32 → Option Int32) (l0 : Nat) (l1 : Int32) (l2 : Int32) (l3 : Int32) (l4 : Int32) : Option Int32 :=
  (oI sh I l0 9 22).bind fun v1 =>
  if v1 ≤ l4 then
    (some (iMax 0 l3))
  else
    ((fX11_has fu sh I R l1 l4).bind fun v2 =>
    if v2 = 0 then
      ((oR sh R l0 9 24).bind fun v3 =>
      (oA sh I v3 ((12 * (l2 + 1)) + l4)).bind fun v4 =>
      (oR sh R l0 9 23).bind fun v5 =>
      (oA sh I v5 ((12 * (l1 ||| ((1 : Int32) <<< (l4 &&& 31)))) + l4)).bind fun v6 =>
      if l3 = (-1) then
        ((fX11_cheapest_b76 fu sh I R k5) l0 l1 l2 l4 (v4 + v6))
      else
        ((fX11_cheapest_b76 fu sh I R k5) l0 l1 l2 l4 (iMin l3 (v4 + v6))))
    else
      ((fX11_cheapest_b77 fu sh I R k5) l0 l1 l2 l3 l4))
set_option maxRecDepth 100000 in
set_option maxHeartbeats 4000000 in
theorem vX11_cheapest_b5 {K J : Nat → Nat} {fu : Nat} {sh : HS} {I : HI} {R : HR} {F : VF} {o : Int32} (hF : F (.inl (some (.int o))) sh I R) {k5 : Nat → Int32 → Int32 → Int32 → Int32 → Option Int32} (hk5 : ∀ {l0 : Nat} {l1 : Int32} {l2 : Int32} {l3 : Int32} {l4 : Int32} {d5 : Option Value} {c : Nat × Nat}, (c.1 ≤ 0 ∧ c.2 ≤ 0) → k5 l0 l1 l2 l3 l4 = some o → V K J 261 5 [some (.ref l0), some (.int l1), some (.int l2), some (.int l3), some (.int l4), d5] [] sh I R c F) {l0 : Nat} {l1 : Int32} {l2 : Int32} {l3 : Int32} {l4 : Int32} {d5 : Option Value} {c : Nat × Nat} (hc0 : c.1 ≤ 0 ∧ c.2 ≤ 0) (h0 : fX11_cheapest_b5 fu sh I R k5 l0 l1 l2 l3 l4 = some o) : V K J 261 5 [some (.ref l0), some (.int l1), some (.int l2), some (.int l3), some (.int l4), d5] [] sh I R c F := by
  unfold fX11_cheapest_b5 at h0
  refine s_il (i := 4) (pc' := 7) (by decide +kernel) rfl ?_
  refine s_rl (i := 0) (pc' := 8) (by decide +kernel) rfl ?_
  refine s_gI (t := 9) (j := 22) (ty := 0) (pc' := 11) (by decide +kernel) rfl h0 (fun v1 h1 => ?_); clear h0
  refine s_if (ins := .if_icmp .ge 72) (t := 83) (pc' := 14) (by decide +kernel) rfl rfl rfl h1 (fun p2 h2 => ?_) (fun p2 h2 => ?_) <;> clear h1
  · refine s_c (v := 0) (pc' := 84) (by decide +kernel) ?_
    refine s_il (i := 3) (pc' := 85) (by decide +kernel) rfl ?_
    refine s_max (X := 0) (Y := 0) (pc' := 88) (by decide +kernel) hc0 rfl ?_
    have e9 := Option.some.inj h2; subst e9
    exact s_ri (X := 0) (Y := 0) (by decide +kernel) hc0 hF
  · refine s_il (i := 1) (pc' := 15) (by decide +kernel) rfl ?_
    refine s_il (i := 4) (pc' := 17) (by decide +kernel) rfl ?_
    refine kX11_has (X := 0) (Y := 0) (X' := 0) (Y' := 0) (pc' := 20) (by decide +kernel) hc0 rfl h2 (fun v2 c hc1 h3 => ?_); clear h2 hc0
    refine s_if (ins := .ifCond .eq 6) (t := 26) (pc' := 23) (by decide +kernel) rfl rfl rfl h3 (fun p4 h4 => ?_) (fun p4 h4 => ?_) <;> clear h3
    · refine s_rl (i := 0) (pc' := 27) (by decide +kernel) rfl ?_
      refine s_gR (t := 9) (j := 24) (pc' := 30) (by decide +kernel) h4 (fun v3 h5 => ?_); clear h4
      refine s_c (v := 12) (pc' := 32) (by decide +kernel) ?_
      refine s_il (i := 2) (pc' := 33) (by decide +kernel) rfl ?_
      refine s_c (v := 1) (pc' := 34) (by decide +kernel) ?_
      refine s_a (ins := .iadd) (pc' := 35) (by decide +kernel) rfl ?_
      refine s_a (ins := .imul) (pc' := 36) (by decide +kernel) rfl ?_
      refine s_il (i := 4) (pc' := 38) (by decide +kernel) rfl ?_
      refine s_a (ins := .iadd) (pc' := 39) (by decide +kernel) rfl ?_
      refine s_al (pc' := 40) (by decide +kernel) h5 (fun v4 h6 => ?_); clear h5
      refine s_rl (i := 0) (pc' := 41) (by decide +kernel) rfl ?_
      refine s_gR (t := 9) (j := 23) (pc' := 44) (by decide +kernel) h6 (fun v5 h7 => ?_); clear h6
      refine s_c (v := 12) (pc' := 46) (by decide +kernel) ?_
      refine s_il (i := 1) (pc' := 47) (by decide +kernel) rfl ?_
      refine s_c (v := 1) (pc' := 48) (by decide +kernel) ?_
      refine s_il (i := 4) (pc' := 50) (by decide +kernel) rfl ?_
      refine s_a (ins := .ishl) (pc' := 51) (by decide +kernel) rfl ?_
      refine s_a (ins := .ior) (pc' := 52) (by decide +kernel) rfl ?_
      refine s_a (ins := .imul) (pc' := 53) (by decide +kernel) rfl ?_
      refine s_il (i := 4) (pc' := 55) (by decide +kernel) rfl ?_
      refine s_a (ins := .iadd) (pc' := 56) (by decide +kernel) rfl ?_
      refine s_al (pc' := 57) (by decide +kernel) h7 (fun v6 h8 => ?_); clear h7
      refine s_a (ins := .iadd) (pc' := 58) (by decide +kernel) rfl ?_
      refine s_is (i := 5) (pc' := 60) (L' := [some (.ref l0), some (.int l1), some (.int l2), some (.int l3), some (.int l4), some (.int (v4 + v6))]) (by decide +kernel) rfl rfl ?_
      refine s_il (i := 3) (pc' := 61) (by decide +kernel) rfl ?_
      refine s_c (v := (-1)) (pc' := 62) (by decide +kernel) ?_
      refine s_ifn (ins := .if_icmp .ne 8) (t := 70) (pc' := 65) (by decide +kernel) rfl rfl rfl h8 (fun p9 h9 => ?_) (fun p9 h9 => ?_) <;> clear h8
      · refine s_il (i := 3) (pc' := 71) (by decide +kernel) rfl ?_
        refine s_il (i := 5) (pc' := 73) (by decide +kernel) rfl ?_
        refine s_min (X := 0) (Y := 0) (pc' := 76) (by decide +kernel) hc1 rfl ?_
        exact (vX11_cheapest_b76 hF hk5) hc1 h9
      · refine s_il (i := 5) (pc' := 67) (by decide +kernel) rfl ?_
        refine s_go (t := 76) (by decide +kernel) ?_
        exact (vX11_cheapest_b76 hF hk5) hc1 h9
    · refine s_go (t := 77) (by decide +kernel) ?_
      exact (vX11_cheapest_b77 hF hk5) hc1 h4
set_option maxRecDepth 100000 in
set_option maxHeartbeats 4000000 in
def fX11_cheapest_l5 (fu : Nat) (sh : HS) (I : HI) (R : HR) : Nat → Nat → Int32 → Int32 → Int32 → Int32 → Option Int32
  | 0 => fun _ _ _ _ _ => none
  | n + 1 => fX11_cheapest_b5 fu sh I R (fX11_cheapest_l5 fu sh I R n)
set_option maxRecDepth 100000 in
set_option maxHeartbeats 4000000 in
theorem vX11_cheapest_l5 {K J : Nat → Nat} {fu : Nat} {sh : HS} {I : HI} {R : HR} {F : VF} {o : Int32} (hF : F (.inl (some (.int o))) sh I R) : ∀ (n : Nat) {l0 : Nat} {l1 : Int32} {l2 : Int32} {l3 : Int32} {l4 : Int32} {d5 : Option Value} {c : Nat × Nat} (_ : c.1 ≤ 0 ∧ c.2 ≤ 0) (_ : fX11_cheapest_l5 fu sh I R n l0 l1 l2 l3 l4 = some o), V K J 261 5 [some (.ref l0), some (.int l1), some (.int l2), some (.int l3), some (.int l4), d5] [] sh I R c F := by
  intro n
  induction n with
  | zero => exact fun _ h0 => nomatch h0
  | succ n ih => exact fun hc0 h0 => vX11_cheapest_b5 hF ih hc0 h0
set_option maxRecDepth 100000 in
set_option maxHeartbeats 4000000 in
def fX11_cheapest (fu : Nat) (sh : HS) (I : HI) (R : HR) (l0 : Nat) (l1 : Int32) (l2 : Int32) : Option Int32 :=
  if isT sh l0 9 = true then
    ((fX11_cheapest_l5 fu sh I R fu) l0 l1 l2 (-1) 0)
  else none
set_option maxRecDepth 100000 in
set_option maxHeartbeats 4000000 in
theorem vX11_cheapest {K J : Nat → Nat} {fu : Nat} {sh : HS} {I : HI} {R : HR} {F : VF} {o : Int32} (hF : F (.inl (some (.int o))) sh I R) {l0 : Nat} {l1 : Int32} {l2 : Int32} (h0 : fX11_cheapest fu sh I R l0 l1 l2 = some o) : V K J 261 0 (ent 6 [.ref l0, .int l1, .int l2]) [] sh I R (0, 0) F := by
  unfold fX11_cheapest at h0
  obtain ⟨-, h1⟩ := gd h0; clear h0
  have hc0 : ((0 : Nat), (0 : Nat)).1 ≤ 0 ∧ ((0 : Nat), (0 : Nat)).2 ≤ 0 := ⟨Nat.le_refl _, Nat.le_refl _⟩
  show V K J 261 0 [some (.ref l0), some (.int l1), some (.int l2), none, none, none] [] sh I R (0, 0) F
  refine s_c (v := (-1)) (pc' := 1) (by decide +kernel) ?_
  refine s_is (i := 3) (pc' := 2) (L' := [some (.ref l0), some (.int l1), some (.int l2), some (.int (-1)), none, none]) (by decide +kernel) rfl rfl ?_
  refine s_c (v := 0) (pc' := 3) (by decide +kernel) ?_
  refine s_is (i := 4) (pc' := 5) (L' := [some (.ref l0), some (.int l1), some (.int l2), some (.int (-1)), some (.int 0), none]) (by decide +kernel) rfl rfl ?_
  exact (vX11_cheapest_l5 hF fu) hc0 h1
set_option maxRecDepth 100000 in
set_option maxHeartbeats 4000000 in
theorem kX11_cheapest {K J : Nat → Nat} {fu : Nat} {sh : HS} {I : HI} {R : HR} {F : VF} {mi pc pc' X Y X' Y' : Nat} {L : VL} {rest : List Value} {c : Nat × Nat} {l0 : Nat} {l1 : Int32} {l2 : Int32} {ω : Type} {o : ω} {g : Int32 → Option ω} (hq : cQ mi pc 261 3 pc' X Y X' Y' = true) (hc : c.1 ≤ X ∧ c.2 ≤ Y) (hr : Nat.ble (catS rest) 8 = true) (h : (fX11_cheapest fu sh I R l0 l1 l2).bind g = some o) (kk : ∀ v c', (c'.1 ≤ X' ∧ c'.2 ≤ Y') → g v = some o → V K J mi pc' L ((.int v) :: rest) sh I R c' F) : V K J mi pc L (.int l2 :: .int l1 :: .ref l0 :: rest) sh I R c F := by
  obtain ⟨r, h1, h2⟩ := bnd h
  have hT : isT sh l0 9 = true := by unfold fX11_cheapest at h1; exact (gd h1).1
  have ml : mL 261 = 6 := by decide +kernel
  have mk : mK 261 = 1 := by decide +kernel
  have mc : mC 261 = 9 := by decide +kernel
  refine s_call (as := [.int l2, .int l1, .ref l0]) (G := fun o' sh' I' R' => o' = .inl (some (.int r)) ∧ sh' = sh ∧ I' = I ∧ R' = R) hq hc rfl hr (by rw [ml]; rfl) (Or.inl rfl) (fun _ => Or.inl ⟨by rw [mc]; decide, by rw [mc]; exact isT_iff.mp hT⟩) (fun z => absurd (mk.symm.trans z) (by decide)) (by rw [ml]; exact vX11_cheapest (F := fun o' sh' I' R' => o' = .inl (some (.int r)) ∧ sh' = sh ∧ I' = I ∧ R' = R) ⟨rfl, rfl, rfl, rfl⟩ h1) ?_ ?_ ?_
  · rintro sh' I' R' c' hc' ⟨g1, rfl, rfl, rfl⟩
    cases g1
  · rintro v' sh' I' R' c' hc' ⟨g1, rfl, rfl, rfl⟩
    cases g1
    exact kk _ _ hc' h2
  · rintro E' sh' I' R' ⟨g1, rfl, rfl, rfl⟩
    cases g1
set_option maxRecDepth 100000 in
set_option maxHeartbeats 4000000 in
def fX11_layBest_b60 (fu : Nat) (sh : HS) (R : HR) (k27 : HI → Nat → Int32 → Int32 → Int32 → Option HI) (k67 : HI → Nat → Int32 → Int32 → Option HI) (I : HI) (l0 : Nat) (l1 : Int32) (l2 : Int32) (l3 : Int32) (s0 : Int32) (s1 : Int32) (s2 : Nat) : Option HI :=
  (oS sh I s2 s1 s0).bind fun v7 =>
  k27 v7 l0 l1 l2 (l3 + 1)
set_option maxRecDepth 100000 in
set_option maxHeartbeats 4000000 in
theorem vX11_layBest_b60 {K J : Nat → Nat} {fu : Nat} {sh : HS} {R : HR} {F : VF} {o : HI} (hF : F (.inl none) sh o R) {k27 : HI → Nat → Int32 → Int32 → Int32 → Option HI} {k67 : HI → Nat → Int32 → Int32 → Option HI} (hk27 : ∀ {I : HI} {l0 : Nat} {l1 : Int32} {l2 : Int32} {l3 : Int32} {d4 d5 d6 : Option Value} {c : Nat × Nat}, (c.1 ≤ 0 ∧ c.2 ≤ 0) → k27 I l0 l1 l2 l3 = some o → V K J 262 27 [some (.ref l0), some (.int l1), some (.int l2), some (.int l3), d4, d5, d6] [] sh I R c F) (hk67 : ∀ {I : HI} {l0 : Nat} {l1 : Int32} {l2 : Int32} {d3 d4 d5 d6 : Option Value} {c : Nat × Nat}, (c.1 ≤ 0 ∧ c.2 ≤ 0) → k67 I l0 l1 l2 = some o → V K J 262 67 [some (.ref l0), some (.int l1), some (.int l2), d3, d4, d5, d6] [] sh I R c F) {I : HI} {l0 : Nat} {l1 : Int32} {l2 : Int32} {l3 : Int32} {s0 : Int32} {s1 : Int32} {s2 : Nat} {d4 d5 d6 : Option Value} {c : Nat × Nat} (hc0 : c.1 ≤ 0 ∧ c.2 ≤ 0) (h0 : fX11_layBest_b60 fu sh R k27 k67 I l0 l1 l2 l3 s0 s1 s2 = some o) : V K J 262 60 [some (.ref l0), some (.int l1), some (.int l2), some (.int l3), d4, d5, d6] [.int s0, .int s1, .ref s2] sh I R c F := by
  unfold fX11_layBest_b60 at h0
  refine s_as (pc' := 61) (by decide +kernel) h0 (fun v7 h1 => ?_); clear h0
  refine s_inc (i := 3) (z := 1) (pc' := 64) (L' := [some (.ref l0), some (.int l1), some (.int l2), some (.int (l3 + 1)), d4, d5, d6]) (by decide +kernel) rfl rfl rfl ?_
  refine s_go (t := 27) (by decide +kernel) ?_
  exact hk27 hc0 h1
set_option maxRecDepth 100000 in
set_option maxHeartbeats 4000000 in
def fX11_layBest_b27 (fu : Nat) (sh : HS) (R : HR) (k27 : HI → Nat → Int32 → Int32 → Int32 → Option HI) (k67 : HI → Nat → Int32 → Int32 → Option HI) (I : HI) (l0 : Nat) (l1 : Int32) (l2 : Int32) (l3 : Int32) : Option HI :=
  if l1 ≤ l3 then
    (k67 I l0 l1 l2)
  else
    ((oR sh R l0 9 23).bind fun v5 =>
    (fX11_has fu sh I R l2 l3).bind fun v6 =>
    if v6 = 0 then
      ((fX11_layBest_b60 fu sh R k27 k67) I l0 l1 l2 l3 0 ((12 * l2) + l3) v5)
    else
      ((fX11_cheapest fu sh I R l0 l2 l3).bind fun v8 =>
      (fX11_layBest_b60 fu sh R k27 k67) I l0 l1 l2 l3 v8 ((12 * l2) + l3) v5))
set_option maxRecDepth 100000 in
set_option maxHeartbeats 4000000 in
theorem vX11_layBest_b27 {K J : Nat → Nat} {fu : Nat} {sh : HS} {R : HR} {F : VF} {o : HI} (hF : F (.inl none) sh o R) {k27 : HI → Nat → Int32 → Int32 → Int32 → Option HI} {k67 : HI → Nat → Int32 → Int32 → Option HI} (hk27 : ∀ {I : HI} {l0 : Nat} {l1 : Int32} {l2 : Int32} {l3 : Int32} {d4 d5 d6 : Option Value} {c : Nat × Nat}, (c.1 ≤ 0 ∧ c.2 ≤ 0) → k27 I l0 l1 l2 l3 = some o → V K J 262 27 [some (.ref l0), some (.int l1), some (.int l2), some (.int l3), d4, d5, d6] [] sh I R c F) (hk67 : ∀ {I : HI} {l0 : Nat} {l1 : Int32} {l2 : Int32} {d3 d4 d5 d6 : Option Value} {c : Nat × Nat}, (c.1 ≤ 0 ∧ c.2 ≤ 0) → k67 I l0 l1 l2 = some o → V K J 262 67 [some (.ref l0), some (.int l1), some (.int l2), d3, d4, d5, d6] [] sh I R c F) {I : HI} {l0 : Nat} {l1 : Int32} {l2 : Int32} {l3 : Int32} {d4 d5 d6 : Option Value} {c : Nat × Nat} (hc0 : c.1 ≤ 0 ∧ c.2 ≤ 0) (h0 : fX11_layBest_b27 fu sh R k27 k67 I l0 l1 l2 l3 = some o) : V K J 262 27 [some (.ref l0), some (.int l1), some (.int l2), some (.int l3), d4, d5, d6] [] sh I R c F := by
  unfold fX11_layBest_b27 at h0
  refine s_il (i := 3) (pc' := 28) (by decide +kernel) rfl ?_
  refine s_il (i := 1) (pc' := 29) (by decide +kernel) rfl ?_
  refine s_if (ins := .if_icmp .ge 38) (t := 67) (pc' := 32) (by decide +kernel) rfl rfl rfl h0 (fun p1 h1 => ?_) (fun p1 h1 => ?_) <;> clear h0
  · exact hk67 hc0 h1
  · refine s_rl (i := 0) (pc' := 33) (by decide +kernel) rfl ?_
    refine s_gR (t := 9) (j := 23) (pc' := 36) (by decide +kernel) h1 (fun v5 h2 => ?_); clear h1
    refine s_c (v := 12) (pc' := 38) (by decide +kernel) ?_
    refine s_il (i := 2) (pc' := 39) (by decide +kernel) rfl ?_
    refine s_a (ins := .imul) (pc' := 40) (by decide +kernel) rfl ?_
    refine s_il (i := 3) (pc' := 41) (by decide +kernel) rfl ?_
    refine s_a (ins := .iadd) (pc' := 42) (by decide +kernel) rfl ?_
    refine s_il (i := 2) (pc' := 43) (by decide +kernel) rfl ?_
    refine s_il (i := 3) (pc' := 44) (by decide +kernel) rfl ?_
    refine kX11_has (X := 0) (Y := 0) (X' := 0) (Y' := 0) (pc' := 47) (by decide +kernel) hc0 rfl h2 (fun v6 c hc1 h3 => ?_); clear h2 hc0
    refine s_if (ins := .ifCond .eq 12) (t := 59) (pc' := 50) (by decide +kernel) rfl rfl rfl h3 (fun p4 h4 => ?_) (fun p4 h4 => ?_) <;> clear h3
    · refine s_c (v := 0) (pc' := 60) (by decide +kernel) ?_
      exact (vX11_layBest_b60 hF hk27 hk67) hc1 h4
    · refine s_rl (i := 0) (pc' := 51) (by decide +kernel) rfl ?_
      refine s_il (i := 2) (pc' := 52) (by decide +kernel) rfl ?_
      refine s_il (i := 3) (pc' := 53) (by decide +kernel) rfl ?_
      refine kX11_cheapest (X := 0) (Y := 0) (X' := 0) (Y' := 0) (pc' := 56) (by decide +kernel) hc1 rfl h4 (fun v8 c hc2 h5 => ?_); clear h4 hc1
      refine s_go (t := 60) (by decide +kernel) ?_
      exact (vX11_layBest_b60 hF hk27 hk67) hc2 h5
set_option maxRecDepth 100000 in
set_option maxHeartbeats 4000000 in
def fX11_layBest_l27 (fu : Nat) (sh : HS) (R : HR) (k67 : HI → Nat → Int32 → Int32 → Option HI) : Nat → HI → Nat → Int32 → Int32 → Int32 → Option HI
  | 0 => fun _ _ _ _ _ => none
  | n + 1 => fX11_layBest_b27 fu sh R (fX11_layBest_l27 fu sh R k67 n) k67
set_option maxRecDepth 100000 in
set_option maxHeartbeats 4000000 in
theorem vX11_layBest_l27 {K J : Nat → Nat} {fu : Nat} {sh : HS} {R : HR} {F : VF} {o : HI} (hF : F (.inl none) sh o R) {k67 : HI → Nat → Int32 → Int32 → Option HI} (hk67 : ∀ {I : HI} {l0 : Nat} {l1 : Int32} {l2 : Int32} {d3 d4 d5 d6 : Option Value} {c : Nat × Nat}, (c.1 ≤ 0 ∧ c.2 ≤ 0) → k67 I l0 l1 l2 = some o → V K J 262 67 [some (.ref l0), some (.int l1), some (.int l2), d3, d4, d5, d6] [] sh I R c F) : ∀ (n : Nat) {I : HI} {l0 : Nat} {l1 : Int32} {l2 : Int32} {l3 : Int32} {d4 d5 d6 : Option Value} {c : Nat × Nat} (_ : c.1 ≤ 0 ∧ c.2 ≤ 0) (_ : fX11_layBest_l27 fu sh R k67 n I l0 l1 l2 l3 = some o), V K J 262 27 [some (.ref l0), some (.int l1), some (.int l2), some (.int l3), d4, d5, d6] [] sh I R c F := by
  intro n
  induction n with
  | zero => exact fun _ h0 => nomatch h0
  | succ n ih => exact fun hc0 h0 => vX11_layBest_b27 hF ih hk67 hc0 h0
set_option maxRecDepth 100000 in
set_option maxHeartbeats 4000000 in
def fX11_layBest_b67 (fu : Nat) (sh : HS) (R : HR) (k21 : HI → Nat → Int32 → Int32 → Option HI) (k73 : HI → Nat → Int32 → Option HI) (I : HI) (l0 : Nat) (l1 : Int32) (l2 : Int32) : Option HI :=
  k21 I l0 l1 (l2 + (-1))
set_option maxRecDepth 100000 in
set_option maxHeartbeats 4000000 in
theorem vX11_layBest_b67 {K J : Nat → Nat} {fu : Nat} {sh : HS} {R : HR} {F : VF} {o : HI} (hF : F (.inl none) sh o R) {k21 : HI → Nat → Int32 → Int32 → Option HI} {k73 : HI → Nat → Int32 → Option HI} (hk21 : ∀ {I : HI} {l0 : Nat} {l1 : Int32} {l2 : Int32} {d3 d4 d5 d6 : Option Value} {c : Nat × Nat}, (c.1 ≤ 0 ∧ c.2 ≤ 0) → k21 I l0 l1 l2 = some o → V K J 262 21 [some (.ref l0), some (.int l1), some (.int l2), d3, d4, d5, d6] [] sh I R c F) (hk73 : ∀ {I : HI} {l0 : Nat} {l1 : Int32} {d2 d3 d4 d5 d6 : Option Value} {c : Nat × Nat}, (c.1 ≤ 0 ∧ c.2 ≤ 0) → k73 I l0 l1 = some o → V K J 262 73 [some (.ref l0), some (.int l1), d2, d3, d4, d5, d6] [] sh I R c F) {I : HI} {l0 : Nat} {l1 : Int32} {l2 : Int32} {d3 d4 d5 d6 : Option Value} {c : Nat × Nat} (hc0 : c.1 ≤ 0 ∧ c.2 ≤ 0) (h0 : fX11_layBest_b67 fu sh R k21 k73 I l0 l1 l2 = some o) : V K J 262 67 [some (.ref l0), some (.int l1), some (.int l2), d3, d4, d5, d6] [] sh I R c F := by
  unfold fX11_layBest_b67 at h0
  refine s_inc (i := 2) (z := (-1)) (pc' := 70) (L' := [some (.ref l0), some (.int l1), some (.int (l2 + (-1))), d3, d4, d5, d6]) (by decide +kernel) rfl rfl rfl ?_
  refine s_go (t := 21) (by decide +kernel) ?_
  exact hk21 hc0 h0
set_option maxRecDepth 100000 in
set_option maxHeartbeats 4000000 in
def fX11_layBest_b21 (fu : Nat) (sh : HS) (R : HR) (k21 : HI → Nat → Int32 → Int32 → Option HI) (k73 : HI → Nat → Int32 → Option HI) (I : HI) (l0 : Nat) (l1 : Int32) (l2 : Int32) : Option HI :=
  if l2 ≤ 0 then
    (k73 I l0 l1)
  else
    ((fX11_layBest_l27 fu sh R (fX11_layBest_b67 fu sh R k21 k73) fu) I l0 l1 l2 0)
set_option maxRecDepth 100000 in
set_option maxHeartbeats 4000000 in
theorem vX11_layBest_b21 {K J : Nat → Nat} {fu : Nat} {sh : HS} {R : HR} {F : VF} {o : HI} (hF : F (.inl none) sh o R) {k21 : HI → Nat → Int32 → Int32 → Option HI} {k73 : HI → Nat → Int32 → Option HI} (hk21 : ∀ {I : HI} {l0 : Nat} {l1 : Int32} {l2 : Int32} {d3 d4 d5 d6 : Option Value} {c : Nat × Nat}, (c.1 ≤ 0 ∧ c.2 ≤ 0) → k21 I l0 l1 l2 = some o → V K J 262 21 [some (.ref l0), some (.int l1), some (.int l2), d3, d4, d5, d6] [] sh I R c F) (hk73 : ∀ {I : HI} {l0 : Nat} {l1 : Int32} {d2 d3 d4 d5 d6 : Option Value} {c : Nat × Nat}, (c.1 ≤ 0 ∧ c.2 ≤ 0) → k73 I l0 l1 = some o → V K J 262 73 [some (.ref l0), some (.int l1), d2, d3, d4, d5, d6] [] sh I R c F) {I : HI} {l0 : Nat} {l1 : Int32} {l2 : Int32} {d3 d4 d5 d6 : Option Value} {c : Nat × Nat} (hc0 : c.1 ≤ 0 ∧ c.2 ≤ 0) (h0 : fX11_layBest_b21 fu sh R k21 k73 I l0 l1 l2 = some o) : V K J 262 21 [some (.ref l0), some (.int l1), some (.int l2), d3, d4, d5, d6] [] sh I R c F := by
  unfold fX11_layBest_b21 at h0
  refine s_il (i := 2) (pc' := 22) (by decide +kernel) rfl ?_
  refine s_if (ins := .ifCond .le 51) (t := 73) (pc' := 25) (by decide +kernel) rfl rfl rfl h0 (fun p1 h1 => ?_) (fun p1 h1 => ?_) <;> clear h0
  · exact hk73 hc0 h1
  · refine s_c (v := 0) (pc' := 26) (by decide +kernel) ?_
    refine s_is (i := 3) (pc' := 27) (L' := [some (.ref l0), some (.int l1), some (.int l2), some (.int 0), d4, d5, d6]) (by decide +kernel) rfl rfl ?_
    exact (vX11_layBest_l27 hF (vX11_layBest_b67 hF hk21 hk73) fu) hc0 h1
set_option maxRecDepth 100000 in
set_option maxHeartbeats 4000000 in
def fX11_layBest_l21 (fu : Nat) (sh : HS) (R : HR) (k73 : HI → Nat → Int32 → Option HI) : Nat → HI → Nat → Int32 → Int32 → Option HI
  | 0 => fun _ _ _ _ => none
  | n + 1 => fX11_layBest_b21 fu sh R (fX11_layBest_l21 fu sh R k73 n) k73
set_option maxRecDepth 100000 in
set_option maxHeartbeats 4000000 in
theorem vX11_layBest_l21 {K J : Nat → Nat} {fu : Nat} {sh : HS} {R : HR} {F : VF} {o : HI} (hF : F (.inl none) sh o R) {k73 : HI → Nat → Int32 → Option HI} (hk73 : ∀ {I : HI} {l0 : Nat} {l1 : Int32} {d2 d3 d4 d5 d6 : Option Value} {c : Nat × Nat}, (c.1 ≤ 0 ∧ c.2 ≤ 0) → k73 I l0 l1 = some o → V K J 262 73 [some (.ref l0), some (.int l1), d2, d3, d4, d5, d6] [] sh I R c F) : ∀ (n : Nat) {I : HI} {l0 : Nat} {l1 : Int32} {l2 : Int32} {d3 d4 d5 d6 : Option Value} {c : Nat × Nat} (_ : c.1 ≤ 0 ∧ c.2 ≤ 0) (_ : fX11_layBest_l21 fu sh R k73 n I l0 l1 l2 = some o), V K J 262 21 [some (.ref l0), some (.int l1), some (.int l2), d3, d4, d5, d6] [] sh I R c F := by
  intro n
  induction n with
  | zero => exact fun _ h0 => nomatch h0
  | succ n ih => exact fun hc0 h0 => vX11_layBest_b21 hF ih hk73 hc0 h0
set_option maxRecDepth 100000 in
set_option maxHeartbeats 4000000 in
def fX11_layBest_b153 (fu : Nat) (sh : HS) (R : HR) (k107 : HI → Nat → Int32 → Int32 → Int32 → Int32 → Int32 → Int32 → Option HI) (k159 : HI → Nat → Int32 → Int32 → Int32 → Int32 → Option HI) (I : HI) (l0 : Nat) (l1 : Int32) (l2 : Int32) (l3 : Int32) (l4 : Int32) (l5 : Int32) (l6 : Int32) : Option HI :=
  k107 I l0 l1 l2 l3 l4 l5 (l6 + 1)
set_option maxRecDepth 100000 in
set_option maxHeartbeats 4000000 in
theorem vX11_layBest_b153 {K J : Nat → Nat} {fu : Nat} {sh : HS} {R : HR} {F : VF} {o : HI} (hF : F (.inl none) sh o R) {k107 : HI → Nat → Int32 → Int32 → Int32 → Int32 → Int32 → Int32 → Option HI} {k159 : HI → Nat → Int32 → Int32 → Int32 → Int32 → Option HI} (hk107 : ∀ {I : HI} {l0 : Nat} {l1 : Int32} {l2 : Int32} {l3 : Int32} {l4 : Int32} {l5 : Int32} {l6 : Int32}  {c : Nat × Nat}, (c.1 ≤ 0 ∧ c.2 ≤ 0) → k107 I l0 l1 l2 l3 l4 l5 l6 = some o → V K J 262 107 [some (.ref l0), some (.int l1), some (.int l2), some (.int l3), some (.int l4), some (.int l5), some (.int l6)] [] sh I R c F) (hk159 : ∀ {I : HI} {l0 : Nat} {l1 : Int32} {l2 : Int32} {l4 : Int32} {l6 : Int32} {d3 d5 : Option Value} {c : Nat × Nat}, (c.1 ≤ 0 ∧ c.2 ≤ 0) → k159 I l0 l1 l2 l4 l6 = some o → V K J 262 159 [some (.ref l0), some (.int l1), some (.int l2), d3, some (.int l4), d5, some (.int l6)] [] sh I R c F) {I : HI} {l0 : Nat} {l1 : Int32} {l2 : Int32} {l3 : Int32} {l4 : Int32} {l5 : Int32} {l6 : Int32} {c : Nat × Nat} (hc0 : c.1 ≤ 0 ∧ c.2 ≤ 0) (h0 : fX11_layBest_b153 fu sh R k107 k159 I l0 l1 l2 l3 l4 l5 l6 = some o) : V K J 262 153 [some (.ref l0), some (.int l1), some (.int l2), some (.int l3), some (.int l4), some (.int l5), some (.int l6)] [] sh I R c F := by
  unfold fX11_layBest_b153 at h0
  refine s_inc (i := 6) (z := 1) (pc' := 156) (L' := [some (.ref l0), some (.int l1), some (.int l2), some (.int l3), some (.int l4), some (.int l5), some (.int (l6 + 1))]) (by decide +kernel) rfl rfl rfl ?_
  refine s_go (t := 107) (by decide +kernel) ?_
  exact hk107 hc0 h0
set_option maxRecDepth 100000 in
set_option maxHeartbeats 4000000 in
def fX11_layBest_b107 (fu : Nat) (sh : HS) (R : HR) (k107 : HI → Nat → Int32 → Int32 → Int32 → Int32 → Int32 → Int32 → Option HI) (k159 : HI → Nat → Int32 → Int32 → Int32 → Int32 → Option HI) (I : HI) (l0 : Nat) (l1 : Int32) (l2 : Int32) (l3 : Int32) (l4 : Int32) (l5 : Int32) (l6 : Int32) : Option HI :=
  (fX11_has fu sh I R l2 l6).bind fun v12 =>
  if v12 = 0 then
    ((oR sh R l0 9 24).bind fun v13 =>
    (oA sh I v13 ((12 * (l3 + 1)) + l6)).bind fun v14 =>
    (oR sh R l0 9 23).bind fun v15 =>
    (oA sh I v15 ((12 * (l2 ||| ((1 : Int32) <<< (l6 &&& 31)))) + l6)).bind fun v16 =>
    if (v14 + v16) = l5 then
      (k159 I l0 l1 l2 l4 l6)
    else
      ((fX11_layBest_b153 fu sh R k107 k159) I l0 l1 l2 l3 l4 l5 l6))
  else
    ((fX11_layBest_b153 fu sh R k107 k159) I l0 l1 l2 l3 l4 l5 l6)
set_option maxRecDepth 100000 in
set_option maxHeartbeats 4000000 in
theorem vX11_layBest_b107 {K J : Nat → Nat} {fu : Nat} {sh : HS} {R : HR} {F : VF} {o : HI} (hF : F (.inl none) sh o R) {k107 : HI → Nat → Int32 → Int32 → Int32 → Int32 → Int32 → Int32 → Option HI} {k159 : HI → Nat → Int32 → Int32 → Int32 → Int32 → Option HI} (hk107 : ∀ {I : HI} {l0 : Nat} {l1 : Int32} {l2 : Int32} {l3 : Int32} {l4 : Int32} {l5 : Int32} {l6 : Int32}  {c : Nat × Nat}, (c.1 ≤ 0 ∧ c.2 ≤ 0) → k107 I l0 l1 l2 l3 l4 l5 l6 = some o → V K J 262 107 [some (.ref l0), some (.int l1), some (.int l2), some (.int l3), some (.int l4), some (.int l5), some (.int l6)] [] sh I R c F) (hk159 : ∀ {I : HI} {l0 : Nat} {l1 : Int32} {l2 : Int32} {l4 : Int32} {l6 : Int32} {d3 d5 : Option Value} {c : Nat × Nat}, (c.1 ≤ 0 ∧ c.2 ≤ 0) → k159 I l0 l1 l2 l4 l6 = some o → V K J 262 159 [some (.ref l0), some (.int l1), some (.int l2), d3, some (.int l4), d5, some (.int l6)] [] sh I R c F) {I : HI} {l0 : Nat} {l1 : Int32} {l2 : Int32} {l3 : Int32} {l4 : Int32} {l5 : Int32} {l6 : Int32} {c : Nat × Nat} (hc0 : c.1 ≤ 0 ∧ c.2 ≤ 0) (h0 : fX11_layBest_b107 fu sh R k107 k159 I l0 l1 l2 l3 l4 l5 l6 = some o) : V K J 262 107 [some (.ref l0), some (.int l1), some (.int l2), some (.int l3), some (.int l4), some (.int l5), some (.int l6)] [] sh I R c F := by
  unfold fX11_layBest_b107 at h0
  refine s_il (i := 2) (pc' := 108) (by decide +kernel) rfl ?_
  refine s_il (i := 6) (pc' := 110) (by decide +kernel) rfl ?_
  refine kX11_has (X := 0) (Y := 0) (X' := 0) (Y' := 0) (pc' := 113) (by decide +kernel) hc0 rfl h0 (fun v12 c hc1 h1 => ?_); clear h0 hc0
  refine s_ifn (ins := .ifCond .ne 40) (t := 153) (pc' := 116) (by decide +kernel) rfl rfl rfl h1 (fun p2 h2 => ?_) (fun p2 h2 => ?_) <;> clear h1
  · exact (vX11_layBest_b153 hF hk107 hk159) hc1 h2
  · refine s_rl (i := 0) (pc' := 117) (by decide +kernel) rfl ?_
    refine s_gR (t := 9) (j := 24) (pc' := 120) (by decide +kernel) h2 (fun v13 h3 => ?_); clear h2
    refine s_c (v := 12) (pc' := 122) (by decide +kernel) ?_
    refine s_il (i := 3) (pc' := 123) (by decide +kernel) rfl ?_
    refine s_c (v := 1) (pc' := 124) (by decide +kernel) ?_
    refine s_a (ins := .iadd) (pc' := 125) (by decide +kernel) rfl ?_
    refine s_a (ins := .imul) (pc' := 126) (by decide +kernel) rfl ?_
    refine s_il (i := 6) (pc' := 128) (by decide +kernel) rfl ?_
    refine s_a (ins := .iadd) (pc' := 129) (by decide +kernel) rfl ?_
    refine s_al (pc' := 130) (by decide +kernel) h3 (fun v14 h4 => ?_); clear h3
    refine s_rl (i := 0) (pc' := 131) (by decide +kernel) rfl ?_
    refine s_gR (t := 9) (j := 23) (pc' := 134) (by decide +kernel) h4 (fun v15 h5 => ?_); clear h4
    refine s_c (v := 12) (pc' := 136) (by decide +kernel) ?_
    refine s_il (i := 2) (pc' := 137) (by decide +kernel) rfl ?_
    refine s_c (v := 1) (pc' := 138) (by decide +kernel) ?_
    refine s_il (i := 6) (pc' := 140) (by decide +kernel) rfl ?_
    refine s_a (ins := .ishl) (pc' := 141) (by decide +kernel) rfl ?_
    refine s_a (ins := .ior) (pc' := 142) (by decide +kernel) rfl ?_
    refine s_a (ins := .imul) (pc' := 143) (by decide +kernel) rfl ?_
    refine s_il (i := 6) (pc' := 145) (by decide +kernel) rfl ?_
    refine s_a (ins := .iadd) (pc' := 146) (by decide +kernel) rfl ?_
    refine s_al (pc' := 147) (by decide +kernel) h5 (fun v16 h6 => ?_); clear h5
    refine s_a (ins := .iadd) (pc' := 148) (by decide +kernel) rfl ?_
    refine s_il (i := 5) (pc' := 150) (by decide +kernel) rfl ?_
    refine s_if (ins := .if_icmp .eq 9) (t := 159) (pc' := 153) (by decide +kernel) rfl rfl rfl h6 (fun p7 h7 => ?_) (fun p7 h7 => ?_) <;> clear h6
    · exact hk159 hc1 h7
    · exact (vX11_layBest_b153 hF hk107 hk159) hc1 h7
set_option maxRecDepth 100000 in
set_option maxHeartbeats 4000000 in
def fX11_layBest_l107 (fu : Nat) (sh : HS) (R : HR) (k159 : HI → Nat → Int32 → Int32 → Int32 → Int32 → Option HI) : Nat → HI → Nat → Int32 → Int32 → Int32 → Int32 → Int32 → Int32 → Option HI
  | 0 => fun _ _ _ _ _ _ _ _ => none
  | n + 1 => fX11_layBest_b107 fu sh R (fX11_layBest_l107 fu sh R k159 n) k159
set_option maxRecDepth 100000 in
set_option maxHeartbeats 4000000 in
theorem vX11_layBest_l107 {K J : Nat → Nat} {fu : Nat} {sh : HS} {R : HR} {F : VF} {o : HI} (hF : F (.inl none) sh o R) {k159 : HI → Nat → Int32 → Int32 → Int32 → Int32 → Option HI} (hk159 : ∀ {I : HI} {l0 : Nat} {l1 : Int32} {l2 : Int32} {l4 : Int32} {l6 : Int32} {d3 d5 : Option Value} {c : Nat × Nat}, (c.1 ≤ 0 ∧ c.2 ≤ 0) → k159 I l0 l1 l2 l4 l6 = some o → V K J 262 159 [some (.ref l0), some (.int l1), some (.int l2), d3, some (.int l4), d5, some (.int l6)] [] sh I R c F) : ∀ (n : Nat) {I : HI} {l0 : Nat} {l1 : Int32} {l2 : Int32} {l3 : Int32} {l4 : Int32} {l5 : Int32} {l6 : Int32} {c : Nat × Nat} (_ : c.1 ≤ 0 ∧ c.2 ≤ 0) (_ : fX11_layBest_l107 fu sh R k159 n I l0 l1 l2 l3 l4 l5 l6 = some o), V K J 262 107 [some (.ref l0), some (.int l1), some (.int l2), some (.int l3), some (.int l4), some (.int l5), some (.int l6)] [] sh I R c F := by
  intro n
  induction n with
  | zero => exact fun _ h0 => nomatch h0
  | succ n ih => exact fun hc0 h0 => vX11_layBest_b107 hF ih hk159 hc0 h0
set_option maxRecDepth 100000 in
set_option maxHeartbeats 4000000 in
def fX11_layBest_b159 (fu : Nat) (sh : HS) (R : HR) (k90 : HI → Nat → Int32 → Int32 → Int32 → Int32 → Option HI) (I : HI) (l0 : Nat) (l1 : Int32) (l2 : Int32) (l4 : Int32) (l6 : Int32) : Option HI :=
  (oR sh R l0 9 25).bind fun v17 =>
  (oS sh I v17 l4 l6).bind fun v18 =>
  k90 v18 l0 l1 (l2 ||| (1 <<< (l6 &&& 31))) l6 (l4 + 1)
set_option maxRecDepth 100000 in
set_option maxHeartbeats 4000000 in
theorem vX11_layBest_b159 {K J : Nat → Nat} {fu : Nat} {sh : HS} {R : HR} {F : VF} {o : HI} (hF : F (.inl none) sh o R) {k90 : HI → Nat → Int32 → Int32 → Int32 → Int32 → Option HI} (hk90 : ∀ {I : HI} {l0 : Nat} {l1 : Int32} {l2 : Int32} {l3 : Int32} {l4 : Int32} {d5 d6 : Option Value} {c : Nat × Nat}, (c.1 ≤ 0 ∧ c.2 ≤ 0) → k90 I l0 l1 l2 l3 l4 = some o → V K J 262 90 [some (.ref l0), some (.int l1), some (.int l2), some (.int l3), some (.int l4), d5, d6] [] sh I R c F) {I : HI} {l0 : Nat} {l1 : Int32} {l2 : Int32} {l4 : Int32} {l6 : Int32} {d3 d5 : Option Value} {c : Nat × Nat} (hc0 : c.1 ≤ 0 ∧ c.2 ≤ 0) (h0 : fX11_layBest_b159 fu sh R k90 I l0 l1 l2 l4 l6 = some o) : V K J 262 159 [some (.ref l0), some (.int l1), some (.int l2), d3, some (.int l4), d5, some (.int l6)] [] sh I R c F := by
  unfold fX11_layBest_b159 at h0
  refine s_rl (i := 0) (pc' := 160) (by decide +kernel) rfl ?_
  refine s_gR (t := 9) (j := 25) (pc' := 163) (by decide +kernel) h0 (fun v17 h1 => ?_); clear h0
  refine s_il (i := 4) (pc' := 165) (by decide +kernel) rfl ?_
  refine s_il (i := 6) (pc' := 167) (by decide +kernel) rfl ?_
  refine s_as (pc' := 168) (by decide +kernel) h1 (fun v18 h2 => ?_); clear h1
  refine s_il (i := 2) (pc' := 169) (by decide +kernel) rfl ?_
  refine s_c (v := 1) (pc' := 170) (by decide +kernel) ?_
  refine s_il (i := 6) (pc' := 172) (by decide +kernel) rfl ?_
  refine s_a (ins := .ishl) (pc' := 173) (by decide +kernel) rfl ?_
  refine s_a (ins := .ior) (pc' := 174) (by decide +kernel) rfl ?_
  refine s_is (i := 2) (pc' := 175) (L' := [some (.ref l0), some (.int l1), some (.int (l2 ||| (1 <<< (l6 &&& 31)))), d3, some (.int l4), d5, some (.int l6)]) (by decide +kernel) rfl rfl ?_
  refine s_il (i := 6) (pc' := 177) (by decide +kernel) rfl ?_
  refine s_is (i := 3) (pc' := 178) (L' := [some (.ref l0), some (.int l1), some (.int (l2 ||| (1 <<< (l6 &&& 31)))), some (.int l6), some (.int l4), d5, some (.int l6)]) (by decide +kernel) rfl rfl ?_
  refine s_inc (i := 4) (z := 1) (pc' := 181) (L' := [some (.ref l0), some (.int l1), some (.int (l2 ||| (1 <<< (l6 &&& 31)))), some (.int l6), some (.int (l4 + 1)), d5, some (.int l6)]) (by decide +kernel) rfl rfl rfl ?_
  refine s_go (t := 90) (by decide +kernel) ?_
  exact hk90 hc0 h2
set_option maxRecDepth 100000 in
set_option maxHeartbeats 4000000 in
def fX11_layBest_b90 (fu : Nat) (sh : HS) (R : HR) (k90 : HI → Nat → Int32 → Int32 → Int32 → Int32 → Option HI) (I : HI) (l0 : Nat) (l1 : Int32) (l2 : Int32) (l3 : Int32) (l4 : Int32) : Option HI :=
  if l1 ≤ l4 then
    (some I)
  else
    ((fX11_cheapest fu sh I R l0 l2 l3).bind fun v11 =>
    (fX11_layBest_l107 fu sh R (fX11_layBest_b159 fu sh R k90) fu) I l0 l1 l2 l3 l4 v11 0)
set_option maxRecDepth 100000 in
set_option maxHeartbeats 4000000 in
theorem vX11_layBest_b90 {K J : Nat → Nat} {fu : Nat} {sh : HS} {R : HR} {F : VF} {o : HI} (hF : F (.inl none) sh o R) {k90 : HI → Nat → Int32 → Int32 → Int32 → Int32 → Option HI} (hk90 : ∀ {I : HI} {l0 : Nat} {l1 : Int32} {l2 : Int32} {l3 : Int32} {l4 : Int32} {d5 d6 : Option Value} {c : Nat × Nat}, (c.1 ≤ 0 ∧ c.2 ≤ 0) → k90 I l0 l1 l2 l3 l4 = some o → V K J 262 90 [some (.ref l0), some (.int l1), some (.int l2), some (.int l3), some (.int l4), d5, d6] [] sh I R c F) {I : HI} {l0 : Nat} {l1 : Int32} {l2 : Int32} {l3 : Int32} {l4 : Int32} {d5 d6 : Option Value} {c : Nat × Nat} (hc0 : c.1 ≤ 0 ∧ c.2 ≤ 0) (h0 : fX11_layBest_b90 fu sh R k90 I l0 l1 l2 l3 l4 = some o) : V K J 262 90 [some (.ref l0), some (.int l1), some (.int l2), some (.int l3), some (.int l4), d5, d6] [] sh I R c F := by
  unfold fX11_layBest_b90 at h0
  refine s_il (i := 4) (pc' := 92) (by decide +kernel) rfl ?_
  refine s_il (i := 1) (pc' := 93) (by decide +kernel) rfl ?_
  refine s_if (ins := .if_icmp .ge 91) (t := 184) (pc' := 96) (by decide +kernel) rfl rfl rfl h0 (fun p1 h1 => ?_) (fun p1 h1 => ?_) <;> clear h0
  · have e9 := Option.some.inj h1; subst e9
    exact s_rv (X := 0) (Y := 0) (by decide +kernel) hc0 hF
  · refine s_rl (i := 0) (pc' := 97) (by decide +kernel) rfl ?_
    refine s_il (i := 2) (pc' := 98) (by decide +kernel) rfl ?_
    refine s_il (i := 3) (pc' := 99) (by decide +kernel) rfl ?_
    refine kX11_cheapest (X := 0) (Y := 0) (X' := 0) (Y' := 0) (pc' := 102) (by decide +kernel) hc0 rfl h1 (fun v11 c hc1 h2 => ?_); clear h1 hc0
    refine s_is (i := 5) (pc' := 104) (L' := [some (.ref l0), some (.int l1), some (.int l2), some (.int l3), some (.int l4), some (.int v11), d6]) (by decide +kernel) rfl rfl ?_
    refine s_c (v := 0) (pc' := 105) (by decide +kernel) ?_
    refine s_is (i := 6) (pc' := 107) (L' := [some (.ref l0), some (.int l1), some (.int l2), some (.int l3), some (.int l4), some (.int v11), some (.int 0)]) (by decide +kernel) rfl rfl ?_
    exact (vX11_layBest_l107 hF (vX11_layBest_b159 hF hk90) fu) hc1 h2
set_option maxRecDepth 100000 in
set_option maxHeartbeats 4000000 in
def fX11_layBest_l90 (fu : Nat) (sh : HS) (R : HR) : Nat → HI → Nat → Int32 → Int32 → Int32 → Int32 → Option HI
  | 0 => fun _ _ _ _ _ _ => none
  | n + 1 => fX11_layBest_b90 fu sh R (fX11_layBest_l90 fu sh R n)
set_option maxRecDepth 100000 in
set_option maxHeartbeats 4000000 in
theorem vX11_layBest_l90 {K J : Nat → Nat} {fu : Nat} {sh : HS} {R : HR} {F : VF} {o : HI} (hF : F (.inl none) sh o R) : ∀ (n : Nat) {I : HI} {l0 : Nat} {l1 : Int32} {l2 : Int32} {l3 : Int32} {l4 : Int32} {d5 d6 : Option Value} {c : Nat × Nat} (_ : c.1 ≤ 0 ∧ c.2 ≤ 0) (_ : fX11_layBest_l90 fu sh R n I l0 l1 l2 l3 l4 = some o), V K J 262 90 [some (.ref l0), some (.int l1), some (.int l2), some (.int l3), some (.int l4), d5, d6] [] sh I R c F := by
  intro n
  induction n with
  | zero => exact fun _ h0 => nomatch h0
  | succ n ih => exact fun hc0 h0 => vX11_layBest_b90 hF ih hc0 h0
set_option maxRecDepth 100000 in
set_option maxHeartbeats 4000000 in
def fX11_layBest_b73 (fu : Nat) (sh : HS) (R : HR) (I : HI) (l0 : Nat) (l1 : Int32) : Option HI :=
  (fX11_cheapest fu sh I R l0 0 (-1)).bind fun v9 =>
  (oP sh I l0 9 26 v9).bind fun v10 =>
  (fX11_layBest_l90 fu sh R fu) v10 l0 l1 0 (-1) 0
set_option maxRecDepth 100000 in
set_option maxHeartbeats 4000000 in
theorem vX11_layBest_b73 {K J : Nat → Nat} {fu : Nat} {sh : HS} {R : HR} {F : VF} {o : HI} (hF : F (.inl none) sh o R) {I : HI} {l0 : Nat} {l1 : Int32} {d2 d3 d4 d5 d6 : Option Value} {c : Nat × Nat} (hc0 : c.1 ≤ 0 ∧ c.2 ≤ 0) (h0 : fX11_layBest_b73 fu sh R I l0 l1 = some o) : V K J 262 73 [some (.ref l0), some (.int l1), d2, d3, d4, d5, d6] [] sh I R c F := by
  unfold fX11_layBest_b73 at h0
  refine s_rl (i := 0) (pc' := 74) (by decide +kernel) rfl ?_
  refine s_rl (i := 0) (pc' := 75) (by decide +kernel) rfl ?_
  refine s_c (v := 0) (pc' := 76) (by decide +kernel) ?_
  refine s_c (v := (-1)) (pc' := 77) (by decide +kernel) ?_
  refine kX11_cheapest (X := 0) (Y := 0) (X' := 0) (Y' := 0) (pc' := 80) (by decide +kernel) hc0 rfl h0 (fun v9 c hc1 h1 => ?_); clear h0 hc0
  refine s_pI (t := 9) (j := 26) (ty := 0) (pc' := 83) (by decide +kernel) (Or.inl rfl) h1 (fun v10 h2 => ?_); clear h1
  refine s_c (v := 0) (pc' := 84) (by decide +kernel) ?_
  refine s_is (i := 2) (pc' := 85) (L' := [some (.ref l0), some (.int l1), some (.int 0), d3, d4, d5, d6]) (by decide +kernel) rfl rfl ?_
  refine s_c (v := (-1)) (pc' := 86) (by decide +kernel) ?_
  refine s_is (i := 3) (pc' := 87) (L' := [some (.ref l0), some (.int l1), some (.int 0), some (.int (-1)), d4, d5, d6]) (by decide +kernel) rfl rfl ?_
  refine s_c (v := 0) (pc' := 88) (by decide +kernel) ?_
  refine s_is (i := 4) (pc' := 90) (L' := [some (.ref l0), some (.int l1), some (.int 0), some (.int (-1)), some (.int 0), d5, d6]) (by decide +kernel) rfl rfl ?_
  exact (vX11_layBest_l90 hF fu) hc1 h2
set_option maxRecDepth 100000 in
set_option maxHeartbeats 4000000 in
def fX11_layBest (fu : Nat) (sh : HS) (I : HI) (R : HR) (l0 : Nat) : Option HI :=
  if isT sh l0 9 = true then
    ((oR sh R l0 9 0).bind fun v1 =>
    (oA sh I v1 0).bind fun v2 =>
    oH (fX11_setupsNow fu sh I R l0 v2) fun v3 w3 =>
    (fX11_layChanges fu sh w3 R l0).bind fun w4 =>
    (fX11_layBest_l21 fu sh R (fX11_layBest_b73 fu sh R) fu) w4 l0 v3 ((1 <<< (v3 &&& 31)) - 1))
  else none
set_option maxRecDepth 100000 in
set_option maxHeartbeats 4000000 in
theorem vX11_layBest {K J : Nat → Nat} {fu : Nat} {sh : HS} {I : HI} {R : HR} {F : VF} {o : HI} (hF : F (.inl none) sh o R) {l0 : Nat} (h0 : fX11_layBest fu sh I R l0 = some o) : V K J 262 0 (ent 7 [.ref l0]) [] sh I R (0, 0) F := by
  unfold fX11_layBest at h0
  obtain ⟨-, h1⟩ := gd h0; clear h0
  have hc0 : ((0 : Nat), (0 : Nat)).1 ≤ 0 ∧ ((0 : Nat), (0 : Nat)).2 ≤ 0 := ⟨Nat.le_refl _, Nat.le_refl _⟩
  show V K J 262 0 [some (.ref l0), none, none, none, none, none, none] [] sh I R (0, 0) F
  refine s_rl (i := 0) (pc' := 1) (by decide +kernel) rfl ?_
  refine s_rl (i := 0) (pc' := 2) (by decide +kernel) rfl ?_
  refine s_gR (t := 9) (j := 0) (pc' := 5) (by decide +kernel) h1 (fun v1 h2 => ?_); clear h1
  refine s_c (v := 0) (pc' := 6) (by decide +kernel) ?_
  refine s_al (pc' := 7) (by decide +kernel) h2 (fun v2 h3 => ?_); clear h2
  refine kX11_setupsNow (X := 0) (Y := 0) (X' := 0) (Y' := 0) (pc' := 10) (by decide +kernel) hc0 rfl h3 (fun v3 w3 c hc1 h4 => ?_); clear h3 hc0
  refine s_is (i := 1) (pc' := 11) (L' := [some (.ref l0), some (.int v3), none, none, none, none, none]) (by decide +kernel) rfl rfl ?_
  refine s_rl (i := 0) (pc' := 12) (by decide +kernel) rfl ?_
  refine kX11_layChanges (X := 0) (Y := 0) (X' := 0) (Y' := 0) (pc' := 15) (by decide +kernel) hc1 rfl h4 (fun w4 c hc2 h5 => ?_); clear h4 hc1
  refine s_c (v := 1) (pc' := 16) (by decide +kernel) ?_
  refine s_il (i := 1) (pc' := 17) (by decide +kernel) rfl ?_
  refine s_a (ins := .ishl) (pc' := 18) (by decide +kernel) rfl ?_
  refine s_c (v := 1) (pc' := 19) (by decide +kernel) ?_
  refine s_a (ins := .isub) (pc' := 20) (by decide +kernel) rfl ?_
  refine s_is (i := 2) (pc' := 21) (L' := [some (.ref l0), some (.int v3), some (.int ((1 <<< (v3 &&& 31)) - 1)), none, none, none, none]) (by decide +kernel) rfl rfl ?_
  exact (vX11_layBest_l21 hF (vX11_layBest_b73 hF) fu) hc2 h5
set_option maxRecDepth 100000 in
set_option maxHeartbeats 4000000 in
theorem kX11_layBest {K J : Nat → Nat} {fu : Nat} {sh : HS} {I : HI} {R : HR} {F : VF} {mi pc pc' X Y X' Y' : Nat} {L : VL} {rest : List Value} {c : Nat × Nat} {l0 : Nat} {ω : Type} {o : ω} {g : HI → Option ω} (hq : cQ mi pc 262 1 pc' X Y X' Y' = true) (hc : c.1 ≤ X ∧ c.2 ≤ Y) (hr : Nat.ble (catS rest) 8 = true) (h : (fX11_layBest fu sh I R l0).bind g = some o) (kk : ∀ w c', (c'.1 ≤ X' ∧ c'.2 ≤ Y') → g w = some o → V K J mi pc' L (rest) sh w R c' F) : V K J mi pc L (.ref l0 :: rest) sh I R c F := by
  obtain ⟨r, h1, h2⟩ := bnd h
  have hT : isT sh l0 9 = true := by unfold fX11_layBest at h1; exact (gd h1).1
  have ml : mL 262 = 7 := by decide +kernel
  have mk : mK 262 = 1 := by decide +kernel
  have mc : mC 262 = 9 := by decide +kernel
  refine s_call (as := [.ref l0]) (G := fun o' sh' I' R' => o' = .inl none ∧ sh' = sh ∧ I' = r ∧ R' = R) hq hc rfl hr (by rw [ml]; rfl) (Or.inl rfl) (fun _ => Or.inl ⟨by rw [mc]; decide, by rw [mc]; exact isT_iff.mp hT⟩) (fun z => absurd (mk.symm.trans z) (by decide)) (by rw [ml]; exact vX11_layBest (F := fun o' sh' I' R' => o' = .inl none ∧ sh' = sh ∧ I' = r ∧ R' = R) ⟨rfl, rfl, rfl, rfl⟩ h1) ?_ ?_ ?_
  · rintro sh' I' R' c' hc' ⟨g1, rfl, rfl, rfl⟩
    cases g1
    exact kk _ _ hc' h2
  · rintro v' sh' I' R' c' hc' ⟨g1, rfl, rfl, rfl⟩
    cases g1
  · rintro E' sh' I' R' ⟨g1, rfl, rfl, rfl⟩
    cases g1
set_option maxRecDepth 100000 in
set_option maxHeartbeats 4000000 in
def fX11_change_b72 (fu : Nat) (sh : HS) (R : HR) (I : HI) (s0 : Int32) : Option (Int32 × HI) :=
  some (s0, I)
set_option maxRecDepth 100000 in
set_option maxHeartbeats 4000000 in
theorem vX11_change_b72 {K J : Nat → Nat} {fu : Nat} {sh : HS} {R : HR} {F : VF} {o : (Int32 × HI)} (hF : F (.inl (some (.int o.1))) sh o.2 R) {I : HI} {s0 : Int32} {d0 d1 d2 d3 : Option Value} {c : Nat × Nat} (hc0 : c.1 ≤ 0 ∧ c.2 ≤ 0) (h0 : fX11_change_b72 fu sh R I s0 = some o) : V K J 263 72 [d0, d1, d2, d3] [.int s0] sh I R c F := by
  unfold fX11_change_b72 at h0
  have e9 := Option.some.inj h0; subst e9
  exact s_ri (X := 0) (Y := 0) (by decide +kernel) hc0 hF
set_option maxRecDepth 100000 in
set_option maxHeartbeats 4000000 in
def fX11_change_b56 (fu : Nat) (sh : HS) (R : HR) (I : HI) (l0 : Nat) (l1 : Int32) (l2 : Int32) (s0 : Int32) (s1 : Nat) : Option (Int32 × HI) :=
  oH (fX11_isWrong fu sh I R s1 s0) fun v3 w3 =>
  if v3 = 0 then
    ((fX11_changeOf fu sh w3 R l0 l1 l2).bind fun v4 =>
    (fX11_change_b72 fu sh R) w3 v4)
  else
    ((fX11_change_b72 fu sh R) w3 0)
set_option maxRecDepth 100000 in
set_option maxHeartbeats 4000000 in
theorem vX11_change_b56 {K J : Nat → Nat} {fu : Nat} {sh : HS} {R : HR} {F : VF} {o : (Int32 × HI)} (hF : F (.inl (some (.int o.1))) sh o.2 R) {I : HI} {l0 : Nat} {l1 : Int32} {l2 : Int32} {s0 : Int32} {s1 : Nat} {d3 : Option Value} {c : Nat × Nat} (hc0 : c.1 ≤ 0 ∧ c.2 ≤ 0) (h0 : fX11_change_b56 fu sh R I l0 l1 l2 s0 s1 = some o) : V K J 263 56 [some (.ref l0), some (.int l1), some (.int l2), d3] [.int s0, .ref s1] sh I R c F := by
  unfold fX11_change_b56 at h0
  refine kX11_isWrong (X := 0) (Y := 0) (X' := 0) (Y' := 0) (pc' := 59) (by decide +kernel) hc0 rfl h0 (fun v3 w3 c hc1 h1 => ?_); clear h0 hc0
  refine s_if (ins := .ifCond .eq 7) (t := 66) (pc' := 62) (by decide +kernel) rfl rfl rfl h1 (fun p2 h2 => ?_) (fun p2 h2 => ?_) <;> clear h1
  · refine s_rl (i := 0) (pc' := 67) (by decide +kernel) rfl ?_
    refine s_il (i := 1) (pc' := 68) (by decide +kernel) rfl ?_
    refine s_il (i := 2) (pc' := 69) (by decide +kernel) rfl ?_
    refine kX11_changeOf (X := 0) (Y := 0) (X' := 0) (Y' := 0) (pc' := 72) (by decide +kernel) hc1 rfl h2 (fun v4 c hc2 h3 => ?_); clear h2 hc1
    exact (vX11_change_b72 hF) hc2 h3
  · refine s_c (v := 0) (pc' := 63) (by decide +kernel) ?_
    refine s_go (t := 72) (by decide +kernel) ?_
    exact (vX11_change_b72 hF) hc1 h2
set_option maxRecDepth 100000 in
set_option maxHeartbeats 4000000 in
def fX11_change_b55 (fu : Nat) (sh : HS) (R : HR) (I : HI) (l0 : Nat) (l1 : Int32) (l2 : Int32) (s0 : Nat) : Option (Int32 × HI) :=
  (fX11_change_b56 fu sh R) I l0 l1 l2 0 s0
set_option maxRecDepth 100000 in
set_option maxHeartbeats 4000000 in
theorem vX11_change_b55 {K J : Nat → Nat} {fu : Nat} {sh : HS} {R : HR} {F : VF} {o : (Int32 × HI)} (hF : F (.inl (some (.int o.1))) sh o.2 R) {I : HI} {l0 : Nat} {l1 : Int32} {l2 : Int32} {s0 : Nat} {d3 : Option Value} {c : Nat × Nat} (hc0 : c.1 ≤ 0 ∧ c.2 ≤ 0) (h0 : fX11_change_b55 fu sh R I l0 l1 l2 s0 = some o) : V K J 263 55 [some (.ref l0), some (.int l1), some (.int l2), d3] [.ref s0] sh I R c F := by
  unfold fX11_change_b55 at h0
  refine s_c (v := 0) (pc' := 56) (by decide +kernel) ?_
  exact (vX11_change_b56 hF) hc0 h0
set_option maxRecDepth 100000 in
set_option maxHeartbeats 4000000 in
def fX11_change_b21 (fu : Nat) (sh : HS) (R : HR) (I : HI) (l0 : Nat) (l1 : Int32) (l2 : Int32) (s0 : Int32) : Option (Int32 × HI) :=
  (fX11_isIn fu sh I R (l1.toInt64) (-1) ((s0 - 1).toInt64)).bind fun v2 =>
  if v2 = 0 then
    ((fX11_change_b55 fu sh R) I l0 l1 l2 l0)
  else
    ((fX11_isIn fu sh I R (l2.toInt64) 0 ((s0 - 1).toInt64)).bind fun v5 =>
    if v5 = 0 then
      ((fX11_change_b55 fu sh R) I l0 l1 l2 l0)
    else
      ((fX11_change_b56 fu sh R) I l0 l1 l2 1 l0))
set_option maxRecDepth 100000 in
set_option maxHeartbeats 4000000 in
theorem vX11_change_b21 {K J : Nat → Nat} {fu : Nat} {sh : HS} {R : HR} {F : VF} {o : (Int32 × HI)} (hF : F (.inl (some (.int o.1))) sh o.2 R) {I : HI} {l0 : Nat} {l1 : Int32} {l2 : Int32} {s0 : Int32} {d3 : Option Value} {c : Nat × Nat} (hc0 : c.1 ≤ 0 ∧ c.2 ≤ 0) (h0 : fX11_change_b21 fu sh R I l0 l1 l2 s0 = some o) : V K J 263 21 [some (.ref l0), some (.int l1), some (.int l2), d3] [.int s0] sh I R c F := by
  unfold fX11_change_b21 at h0
  refine s_is (i := 3) (pc' := 22) (L' := [some (.ref l0), some (.int l1), some (.int l2), some (.int s0)]) (by decide +kernel) rfl rfl ?_
  refine s_rl (i := 0) (pc' := 23) (by decide +kernel) rfl ?_
  refine s_il (i := 1) (pc' := 24) (by decide +kernel) rfl ?_
  refine s_a (ins := .i2l) (pc' := 25) (by decide +kernel) rfl ?_
  refine s_cJ (v := (-1)) (pc' := 28) (by decide +kernel) ?_
  refine s_il (i := 3) (pc' := 29) (by decide +kernel) rfl ?_
  refine s_c (v := 1) (pc' := 30) (by decide +kernel) ?_
  refine s_a (ins := .isub) (pc' := 31) (by decide +kernel) rfl ?_
  refine s_a (ins := .i2l) (pc' := 32) (by decide +kernel) rfl ?_
  refine kX11_isIn (X := 0) (Y := 0) (X' := 0) (Y' := 0) (pc' := 35) (by decide +kernel) hc0 rfl h0 (fun v2 c hc1 h1 => ?_); clear h0 hc0
  refine s_if (ins := .ifCond .eq 20) (t := 55) (pc' := 38) (by decide +kernel) rfl rfl rfl h1 (fun p2 h2 => ?_) (fun p2 h2 => ?_) <;> clear h1
  · exact (vX11_change_b55 hF) hc1 h2
  · refine s_il (i := 2) (pc' := 39) (by decide +kernel) rfl ?_
    refine s_a (ins := .i2l) (pc' := 40) (by decide +kernel) rfl ?_
    refine s_cJ (v := 0) (pc' := 41) (by decide +kernel) ?_
    refine s_il (i := 3) (pc' := 42) (by decide +kernel) rfl ?_
    refine s_c (v := 1) (pc' := 43) (by decide +kernel) ?_
    refine s_a (ins := .isub) (pc' := 44) (by decide +kernel) rfl ?_
    refine s_a (ins := .i2l) (pc' := 45) (by decide +kernel) rfl ?_
    refine kX11_isIn (X := 0) (Y := 0) (X' := 0) (Y' := 0) (pc' := 48) (by decide +kernel) hc1 rfl h2 (fun v5 c hc2 h3 => ?_); clear h2 hc1
    refine s_if (ins := .ifCond .eq 7) (t := 55) (pc' := 51) (by decide +kernel) rfl rfl rfl h3 (fun p4 h4 => ?_) (fun p4 h4 => ?_) <;> clear h3
    · exact (vX11_change_b55 hF) hc2 h4
    · refine s_c (v := 1) (pc' := 52) (by decide +kernel) ?_
      refine s_go (t := 56) (by decide +kernel) ?_
      exact (vX11_change_b56 hF) hc2 h4
set_option maxRecDepth 100000 in
set_option maxHeartbeats 4000000 in
def fX11_change (fu : Nat) (sh : HS) (I : HI) (R : HR) (l0 : Nat) (l1 : Int32) (l2 : Int32) : Option (Int32 × HI) :=
  if isT sh l0 9 = true then
    ((oI sh I l0 9 4).bind fun v1 =>
    if v1 = 0 then
      ((fX11_change_b21 fu sh R) I l0 l1 l2 0)
    else
      ((oR sh R l0 9 0).bind fun v6 =>
      (oA sh I v6 0).bind fun v7 =>
      oH (fX11_setupsNow fu sh I R l0 v7) fun v8 w8 =>
      (fX11_change_b21 fu sh R) w8 l0 l1 l2 v8))
  else none
set_option maxRecDepth 100000 in
set_option maxHeartbeats 4000000 in
theorem vX11_change {K J : Nat → Nat} {fu : Nat} {sh : HS} {I : HI} {R : HR} {F : VF} {o : (Int32 × HI)} (hF : F (.inl (some (.int o.1))) sh o.2 R) {l0 : Nat} {l1 : Int32} {l2 : Int32} (h0 : fX11_change fu sh I R l0 l1 l2 = some o) : V K J 263 0 (ent 4 [.ref l0, .int l1, .int l2]) [] sh I R (0, 0) F := by
  unfold fX11_change at h0
  obtain ⟨-, h1⟩ := gd h0; clear h0
  have hc0 : ((0 : Nat), (0 : Nat)).1 ≤ 0 ∧ ((0 : Nat), (0 : Nat)).2 ≤ 0 := ⟨Nat.le_refl _, Nat.le_refl _⟩
  show V K J 263 0 [some (.ref l0), some (.int l1), some (.int l2), none] [] sh I R (0, 0) F
  refine s_rl (i := 0) (pc' := 1) (by decide +kernel) rfl ?_
  refine s_gI (t := 9) (j := 4) (ty := 1) (pc' := 4) (by decide +kernel) rfl h1 (fun v1 h2 => ?_); clear h1
  refine s_if (ins := .ifCond .eq 16) (t := 20) (pc' := 7) (by decide +kernel) rfl rfl rfl h2 (fun p3 h3 => ?_) (fun p3 h3 => ?_) <;> clear h2
  · refine s_c (v := 0) (pc' := 21) (by decide +kernel) ?_
    exact (vX11_change_b21 hF) hc0 h3
  · refine s_rl (i := 0) (pc' := 8) (by decide +kernel) rfl ?_
    refine s_rl (i := 0) (pc' := 9) (by decide +kernel) rfl ?_
    refine s_gR (t := 9) (j := 0) (pc' := 12) (by decide +kernel) h3 (fun v6 h4 => ?_); clear h3
    refine s_c (v := 0) (pc' := 13) (by decide +kernel) ?_
    refine s_al (pc' := 14) (by decide +kernel) h4 (fun v7 h5 => ?_); clear h4
    refine kX11_setupsNow (X := 0) (Y := 0) (X' := 0) (Y' := 0) (pc' := 17) (by decide +kernel) hc0 rfl h5 (fun v8 w8 c hc1 h6 => ?_); clear h5 hc0
    refine s_go (t := 21) (by decide +kernel) ?_
    exact (vX11_change_b21 hF) hc1 h6
set_option maxRecDepth 100000 in
set_option maxHeartbeats 4000000 in
theorem kX11_change {K J : Nat → Nat} {fu : Nat} {sh : HS} {I : HI} {R : HR} {F : VF} {mi pc pc' X Y X' Y' : Nat} {L : VL} {rest : List Value} {c : Nat × Nat} {l0 : Nat} {l1 : Int32} {l2 : Int32} {ω : Type} {o : ω} {g : Int32 → HI → Option ω} (hq : cQ mi pc 263 3 pc' X Y X' Y' = true) (hc : c.1 ≤ X ∧ c.2 ≤ Y) (hr : Nat.ble (catS rest) 8 = true) (h : oH (fX11_change fu sh I R l0 l1 l2) g = some o) (kk : ∀ v w c', (c'.1 ≤ X' ∧ c'.2 ≤ Y') → g v w = some o → V K J mi pc' L ((.int v) :: rest) sh w R c' F) : V K J mi pc L (.int l2 :: .int l1 :: .ref l0 :: rest) sh I R c F := by
  obtain ⟨r, h1, h2⟩ := bnd h
  have hT : isT sh l0 9 = true := by unfold fX11_change at h1; exact (gd h1).1
  have ml : mL 263 = 4 := by decide +kernel
  have mk : mK 263 = 1 := by decide +kernel
  have mc : mC 263 = 9 := by decide +kernel
  obtain ⟨v, w⟩ := r
  refine s_call (as := [.int l2, .int l1, .ref l0]) (G := fun o' sh' I' R' => o' = .inl (some (.int v)) ∧ sh' = sh ∧ I' = w ∧ R' = R) hq hc rfl hr (by rw [ml]; rfl) (Or.inl rfl) (fun _ => Or.inl ⟨by rw [mc]; decide, by rw [mc]; exact isT_iff.mp hT⟩) (fun z => absurd (mk.symm.trans z) (by decide)) (by rw [ml]; exact vX11_change (F := fun o' sh' I' R' => o' = .inl (some (.int v)) ∧ sh' = sh ∧ I' = w ∧ R' = R) ⟨rfl, rfl, rfl, rfl⟩ h1) ?_ ?_ ?_
  · rintro sh' I' R' c' hc' ⟨g1, rfl, rfl, rfl⟩
    cases g1
  · rintro v' sh' I' R' c' hc' ⟨g1, rfl, rfl, rfl⟩
    cases g1
    exact kk _ _ _ hc' h2
  · rintro E' sh' I' R' ⟨g1, rfl, rfl, rfl⟩
    cases g1
set_option maxRecDepth 100000 in
set_option maxHeartbeats 4000000 in
def fX11_plainCost_b25 (fu : Nat) (sh : HS) (R : HR) (k25 : HI → Nat → Int32 → Int32 → Int32 → Option (Int32 × HI)) (I : HI) (l0 : Nat) (l1 : Int32) (l2 : Int32) (l3 : Int32) : Option (Int32 × HI) :=
  if l2 ≤ l3 then
    (some (l1, I))
  else
    ((fX11_changeOf fu sh I R l0 (l3 - 1) l3).bind fun v5 =>
    k25 I l0 (l1 + v5) l2 (l3 + 1))
set_option maxRecDepth 100000 in
set_option maxHeartbeats 4000000 in
theorem vX11_plainCost_b25 {K J : Nat → Nat} {fu : Nat} {sh : HS} {R : HR} {F : VF} {o : (Int32 × HI)} (hF : F (.inl (some (.int o.1))) sh o.2 R) {k25 : HI → Nat → Int32 → Int32 → Int32 → Option (Int32 × HI)} (hk25 : ∀ {I : HI} {l0 : Nat} {l1 : Int32} {l2 : Int32} {l3 : Int32}  {c : Nat × Nat}, (c.1 ≤ 0 ∧ c.2 ≤ 0) → k25 I l0 l1 l2 l3 = some o → V K J 264 25 [some (.ref l0), some (.int l1), some (.int l2), some (.int l3)] [] sh I R c F) {I : HI} {l0 : Nat} {l1 : Int32} {l2 : Int32} {l3 : Int32} {c : Nat × Nat} (hc0 : c.1 ≤ 0 ∧ c.2 ≤ 0) (h0 : fX11_plainCost_b25 fu sh R k25 I l0 l1 l2 l3 = some o) : V K J 264 25 [some (.ref l0), some (.int l1), some (.int l2), some (.int l3)] [] sh I R c F := by
  unfold fX11_plainCost_b25 at h0
  refine s_il (i := 3) (pc' := 26) (by decide +kernel) rfl ?_
  refine s_il (i := 2) (pc' := 27) (by decide +kernel) rfl ?_
  refine s_if (ins := .if_icmp .ge 20) (t := 47) (pc' := 30) (by decide +kernel) rfl rfl rfl h0 (fun p1 h1 => ?_) (fun p1 h1 => ?_) <;> clear h0
  · refine s_il (i := 1) (pc' := 48) (by decide +kernel) rfl ?_
    have e9 := Option.some.inj h1; subst e9
    exact s_ri (X := 0) (Y := 0) (by decide +kernel) hc0 hF
  · refine s_il (i := 1) (pc' := 31) (by decide +kernel) rfl ?_
    refine s_rl (i := 0) (pc' := 32) (by decide +kernel) rfl ?_
    refine s_il (i := 3) (pc' := 33) (by decide +kernel) rfl ?_
    refine s_c (v := 1) (pc' := 34) (by decide +kernel) ?_
    refine s_a (ins := .isub) (pc' := 35) (by decide +kernel) rfl ?_
    refine s_il (i := 3) (pc' := 36) (by decide +kernel) rfl ?_
    refine kX11_changeOf (X := 0) (Y := 0) (X' := 0) (Y' := 0) (pc' := 39) (by decide +kernel) hc0 rfl h1 (fun v5 c hc1 h2 => ?_); clear h1 hc0
    refine s_a (ins := .iadd) (pc' := 40) (by decide +kernel) rfl ?_
    refine s_is (i := 1) (pc' := 41) (L' := [some (.ref l0), some (.int (l1 + v5)), some (.int l2), some (.int l3)]) (by decide +kernel) rfl rfl ?_
    refine s_inc (i := 3) (z := 1) (pc' := 44) (L' := [some (.ref l0), some (.int (l1 + v5)), some (.int l2), some (.int (l3 + 1))]) (by decide +kernel) rfl rfl rfl ?_
    refine s_go (t := 25) (by decide +kernel) ?_
    exact hk25 hc1 h2
set_option maxRecDepth 100000 in
set_option maxHeartbeats 4000000 in
def fX11_plainCost_l25 (fu : Nat) (sh : HS) (R : HR) : Nat → HI → Nat → Int32 → Int32 → Int32 → Option (Int32 × HI)
  | 0 => fun _ _ _ _ _ => none
  | n + 1 => fX11_plainCost_b25 fu sh R (fX11_plainCost_l25 fu sh R n)
set_option maxRecDepth 100000 in
set_option maxHeartbeats 4000000 in
theorem vX11_plainCost_l25 {K J : Nat → Nat} {fu : Nat} {sh : HS} {R : HR} {F : VF} {o : (Int32 × HI)} (hF : F (.inl (some (.int o.1))) sh o.2 R) : ∀ (n : Nat) {I : HI} {l0 : Nat} {l1 : Int32} {l2 : Int32} {l3 : Int32} {c : Nat × Nat} (_ : c.1 ≤ 0 ∧ c.2 ≤ 0) (_ : fX11_plainCost_l25 fu sh R n I l0 l1 l2 l3 = some o), V K J 264 25 [some (.ref l0), some (.int l1), some (.int l2), some (.int l3)] [] sh I R c F := by
  intro n
  induction n with
  | zero => exact fun _ h0 => nomatch h0
  | succ n ih => exact fun hc0 h0 => vX11_plainCost_b25 hF ih hc0 h0
set_option maxRecDepth 100000 in
set_option maxHeartbeats 4000000 in
def fX11_plainCost (fu : Nat) (sh : HS) (I : HI) (R : HR) (l0 : Nat) : Option (Int32 × HI) :=
  if isT sh l0 9 = true then
    (oH (fX11_isWrong fu sh I R l0 1) fun v1 w1 =>
    if v1 = 0 then
      ((oR sh R l0 9 0).bind fun v2 =>
      (oA sh w1 v2 0).bind fun v3 =>
      oH (fX11_setupsNow fu sh w1 R l0 v3) fun v4 w4 =>
      (fX11_plainCost_l25 fu sh R fu) w4 l0 0 v4 0)
    else
      (some (0, w1)))
  else none
set_option maxRecDepth 100000 in
set_option maxHeartbeats 4000000 in
theorem vX11_plainCost {K J : Nat → Nat} {fu : Nat} {sh : HS} {I : HI} {R : HR} {F : VF} {o : (Int32 × HI)} (hF : F (.inl (some (.int o.1))) sh o.2 R) {l0 : Nat} (h0 : fX11_plainCost fu sh I R l0 = some o) : V K J 264 0 (ent 4 [.ref l0]) [] sh I R (0, 0) F := by
  unfold fX11_plainCost at h0
  obtain ⟨-, h1⟩ := gd h0; clear h0
  have hc0 : ((0 : Nat), (0 : Nat)).1 ≤ 0 ∧ ((0 : Nat), (0 : Nat)).2 ≤ 0 := ⟨Nat.le_refl _, Nat.le_refl _⟩
  show V K J 264 0 [some (.ref l0), none, none, none] [] sh I R (0, 0) F
  refine s_rl (i := 0) (pc' := 1) (by decide +kernel) rfl ?_
  refine s_c (v := 1) (pc' := 2) (by decide +kernel) ?_
  refine kX11_isWrong (X := 0) (Y := 0) (X' := 0) (Y' := 0) (pc' := 5) (by decide +kernel) hc0 rfl h1 (fun v1 w1 c hc1 h2 => ?_); clear h1 hc0
  refine s_if (ins := .ifCond .eq 5) (t := 10) (pc' := 8) (by decide +kernel) rfl rfl rfl h2 (fun p3 h3 => ?_) (fun p3 h3 => ?_) <;> clear h2
  · refine s_c (v := 0) (pc' := 11) (by decide +kernel) ?_
    refine s_is (i := 1) (pc' := 12) (L' := [some (.ref l0), some (.int 0), none, none]) (by decide +kernel) rfl rfl ?_
    refine s_rl (i := 0) (pc' := 13) (by decide +kernel) rfl ?_
    refine s_rl (i := 0) (pc' := 14) (by decide +kernel) rfl ?_
    refine s_gR (t := 9) (j := 0) (pc' := 17) (by decide +kernel) h3 (fun v2 h4 => ?_); clear h3
    refine s_c (v := 0) (pc' := 18) (by decide +kernel) ?_
    refine s_al (pc' := 19) (by decide +kernel) h4 (fun v3 h5 => ?_); clear h4
    refine kX11_setupsNow (X := 0) (Y := 0) (X' := 0) (Y' := 0) (pc' := 22) (by decide +kernel) hc1 rfl h5 (fun v4 w4 c hc2 h6 => ?_); clear h5 hc1
    refine s_is (i := 2) (pc' := 23) (L' := [some (.ref l0), some (.int 0), some (.int v4), none]) (by decide +kernel) rfl rfl ?_
    refine s_c (v := 0) (pc' := 24) (by decide +kernel) ?_
    refine s_is (i := 3) (pc' := 25) (L' := [some (.ref l0), some (.int 0), some (.int v4), some (.int 0)]) (by decide +kernel) rfl rfl ?_
    exact (vX11_plainCost_l25 hF fu) hc2 h6
  · refine s_c (v := 0) (pc' := 9) (by decide +kernel) ?_
    have e9 := Option.some.inj h3; subst e9
    exact s_ri (X := 0) (Y := 0) (by decide +kernel) hc1 hF
set_option maxRecDepth 100000 in
set_option maxHeartbeats 4000000 in
theorem kX11_plainCost {K J : Nat → Nat} {fu : Nat} {sh : HS} {I : HI} {R : HR} {F : VF} {mi pc pc' X Y X' Y' : Nat} {L : VL} {rest : List Value} {c : Nat × Nat} {l0 : Nat} {ω : Type} {o : ω} {g : Int32 → HI → Option ω} (hq : cQ mi pc 264 1 pc' X Y X' Y' = true) (hc : c.1 ≤ X ∧ c.2 ≤ Y) (hr : Nat.ble (catS rest) 8 = true) (h : oH (fX11_plainCost fu sh I R l0) g = some o) (kk : ∀ v w c', (c'.1 ≤ X' ∧ c'.2 ≤ Y') → g v w = some o → V K J mi pc' L ((.int v) :: rest) sh w R c' F) : V K J mi pc L (.ref l0 :: rest) sh I R c F := by
  obtain ⟨r, h1, h2⟩ := bnd h
  have hT : isT sh l0 9 = true := by unfold fX11_plainCost at h1; exact (gd h1).1
  have ml : mL 264 = 4 := by decide +kernel
  have mk : mK 264 = 1 := by decide +kernel
  have mc : mC 264 = 9 := by decide +kernel
  obtain ⟨v, w⟩ := r
  refine s_call (as := [.ref l0]) (G := fun o' sh' I' R' => o' = .inl (some (.int v)) ∧ sh' = sh ∧ I' = w ∧ R' = R) hq hc rfl hr (by rw [ml]; rfl) (Or.inl rfl) (fun _ => Or.inl ⟨by rw [mc]; decide, by rw [mc]; exact isT_iff.mp hT⟩) (fun z => absurd (mk.symm.trans z) (by decide)) (by rw [ml]; exact vX11_plainCost (F := fun o' sh' I' R' => o' = .inl (some (.int v)) ∧ sh' = sh ∧ I' = w ∧ R' = R) ⟨rfl, rfl, rfl, rfl⟩ h1) ?_ ?_ ?_
  · rintro sh' I' R' c' hc' ⟨g1, rfl, rfl, rfl⟩
    cases g1
  · rintro v' sh' I' R' c' hc' ⟨g1, rfl, rfl, rfl⟩
    cases g1
    exact kk _ _ _ hc' h2
  · rintro E' sh' I' R' ⟨g1, rfl, rfl, rfl⟩
    cases g1
