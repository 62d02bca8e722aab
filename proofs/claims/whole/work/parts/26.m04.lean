/-! methods 4 (printed by wip/whole/gen3.py) -/
set_option maxRecDepth 100000 in
set_option maxHeartbeats 4000000 in
def fX10_joinable_b76 (fu : Nat) (sh : HS) (R : HR) (k17 : HI → Nat → Int32 → Int32 → Int32 → Option ((Int32 ⊕ String) × HI)) (I : HI) (l0 : Nat) (l1 : Int32) (l2 : Int32) (l3 : Int32) : Option ((Int32 ⊕ String) × HI) :=
  k17 I l0 l1 l2 (l3 + 1)
set_option maxRecDepth 100000 in
set_option maxHeartbeats 4000000 in
theorem vX10_joinable_b76 {K J : Nat → Nat} {fu : Nat} {sh : HS} {R : HR} {F : VF} {o : ((Int32 ⊕ String) × HI)} (hF : F (voI o.1) sh o.2 R) {k17 : HI → Nat → Int32 → Int32 → Int32 → Option ((Int32 ⊕ String) × HI)} (hk17 : ∀ {I : HI} {l0 : Nat} {l1 : Int32} {l2 : Int32} {l3 : Int32} {d4 : Option Value} {c : Nat × Nat}, (c.1 ≤ 2 ∧ c.2 ≤ 12) → k17 I l0 l1 l2 l3 = some o → V K J 113 17 [some (.ref l0), some (.int l1), some (.int l2), some (.int l3), d4] [] sh I R c F) {I : HI} {l0 : Nat} {l1 : Int32} {l2 : Int32} {l3 : Int32} {d4 : Option Value} {c : Nat × Nat} (hc0 : c.1 ≤ 2 ∧ c.2 ≤ 12) (h0 : fX10_joinable_b76 fu sh R k17 I l0 l1 l2 l3 = some o) : V K J 113 76 [some (.ref l0), some (.int l1), some (.int l2), some (.int l3), d4] [] sh I R c F := by
  unfold fX10_joinable_b76 at h0
  refine s_inc (i := 3) (z := 1) (pc' := 79) (L' := [some (.ref l0), some (.int l1), some (.int l2), some (.int (l3 + 1)), d4]) (by decide +kernel) rfl rfl rfl ?_
  refine s_go (t := 17) (by decide +kernel) ?_
  exact hk17 hc0 h0
set_option maxRecDepth 100000 in
set_option maxHeartbeats 4000000 in
def fX10_joinable_b46 (fu : Nat) (sh : HS) (R : HR) (k17 : HI → Nat → Int32 → Int32 → Int32 → Option ((Int32 ⊕ String) × HI)) (I : HI) (l0 : Nat) (l1 : Int32) (l2 : Int32) (l3 : Int32) (s0 : Int32) : Option ((Int32 ⊕ String) × HI) :=
  if s0 = 0 then
    ((fX10_joinable_b76 fu sh R k17) I l0 l1 l2 l3)
  else
    ((oR sh R l0 8 4).bind fun v9 =>
    (oR sh R v9 0 6).bind fun v10 =>
    (oB sh R v10 7 l1).bind fun v11 =>
    oH (fX10_answerOfJoin fu sh I R l0 v11 l3) fun v12 w12 =>
    if v12 < 0 then
      ((fX10_joinable_b76 fu sh R k17) w12 l0 l1 l2 l3)
    else
      ((fX10_joinable_b76 fu sh R k17) w12 l0 l1 (l2 ||| (1 <<< (l3 &&& 31))) l3))
set_option maxRecDepth 100000 in
set_option maxHeartbeats 4000000 in
theorem vX10_joinable_b46 {K J : Nat → Nat} {fu : Nat} {sh : HS} {R : HR} {F : VF} {o : ((Int32 ⊕ String) × HI)} (hF : F (voI o.1) sh o.2 R) {k17 : HI → Nat → Int32 → Int32 → Int32 → Option ((Int32 ⊕ String) × HI)} (hk17 : ∀ {I : HI} {l0 : Nat} {l1 : Int32} {l2 : Int32} {l3 : Int32} {d4 : Option Value} {c : Nat × Nat}, (c.1 ≤ 2 ∧ c.2 ≤ 12) → k17 I l0 l1 l2 l3 = some o → V K J 113 17 [some (.ref l0), some (.int l1), some (.int l2), some (.int l3), d4] [] sh I R c F) {I : HI} {l0 : Nat} {l1 : Int32} {l2 : Int32} {l3 : Int32} {s0 : Int32} {d4 : Option Value} {c : Nat × Nat} (hc0 : c.1 ≤ 2 ∧ c.2 ≤ 12) (h0 : fX10_joinable_b46 fu sh R k17 I l0 l1 l2 l3 s0 = some o) : V K J 113 46 [some (.ref l0), some (.int l1), some (.int l2), some (.int l3), d4] [.int s0] sh I R c F := by
  unfold fX10_joinable_b46 at h0
  refine s_is (i := 4) (pc' := 48) (L' := [some (.ref l0), some (.int l1), some (.int l2), some (.int l3), some (.int s0)]) (by decide +kernel) rfl rfl ?_
  refine s_il (i := 4) (pc' := 50) (by decide +kernel) rfl ?_
  refine s_if (ins := .ifCond .eq 26) (t := 76) (pc' := 53) (by decide +kernel) rfl rfl rfl h0 (fun p1 h1 => ?_) (fun p1 h1 => ?_) <;> clear h0
  · exact (vX10_joinable_b76 hF hk17) hc0 h1
  · refine s_rl (i := 0) (pc' := 54) (by decide +kernel) rfl ?_
    refine s_rl (i := 0) (pc' := 55) (by decide +kernel) rfl ?_
    refine s_gR (t := 8) (j := 4) (pc' := 58) (by decide +kernel) h1 (fun v9 h2 => ?_); clear h1
    refine s_gR (t := 0) (j := 6) (pc' := 61) (by decide +kernel) h2 (fun v10 h3 => ?_); clear h2
    refine s_il (i := 1) (pc' := 62) (by decide +kernel) rfl ?_
    refine s_aal (t := 7) (pc' := 63) (by decide +kernel) h3 (fun v11 h4 => ?_); clear h3
    refine s_il (i := 3) (pc' := 64) (by decide +kernel) rfl ?_
    refine kX10_answerOfJoin (X := 2) (Y := 12) (X' := 2) (Y' := 12) (pc' := 67) (by decide +kernel) hc0 rfl h4 (fun v12 w12 c hc1 h5 => ?_); clear h4 hc0
    refine s_if (ins := .ifCond .lt 9) (t := 76) (pc' := 70) (by decide +kernel) rfl rfl rfl h5 (fun p6 h6 => ?_) (fun p6 h6 => ?_) <;> clear h5
    · exact (vX10_joinable_b76 hF hk17) hc1 h6
    · refine s_il (i := 2) (pc' := 71) (by decide +kernel) rfl ?_
      refine s_c (v := 1) (pc' := 72) (by decide +kernel) ?_
      refine s_il (i := 3) (pc' := 73) (by decide +kernel) rfl ?_
      refine s_a (ins := .ishl) (pc' := 74) (by decide +kernel) rfl ?_
      refine s_a (ins := .ior) (pc' := 75) (by decide +kernel) rfl ?_
      refine s_is (i := 2) (pc' := 76) (L' := [some (.ref l0), some (.int l1), some (.int (l2 ||| (1 <<< (l3 &&& 31)))), some (.int l3), some (.int s0)]) (by decide +kernel) rfl rfl ?_
      exact (vX10_joinable_b76 hF hk17) hc1 h6
set_option maxRecDepth 100000 in
set_option maxHeartbeats 4000000 in
def fX10_joinable_b17 (fu : Nat) (sh : HS) (R : HR) (k17 : HI → Nat → Int32 → Int32 → Int32 → Option ((Int32 ⊕ String) × HI)) (I : HI) (l0 : Nat) (l1 : Int32) (l2 : Int32) (l3 : Int32) : Option ((Int32 ⊕ String) × HI) :=
  (oR sh R l0 8 8).bind fun v4 =>
  (oI sh I v4 6 0).bind fun v5 =>
  if v5 ≤ l3 then
    (some (.inl l2, I))
  else
    ((oR sh R l0 8 8).bind fun v6 =>
    (oR sh R v6 6 1).bind fun v7 =>
    (oA sh I v7 l1).bind fun v8 =>
    if l3 = v8 then
      ((fX10_joinable_b46 fu sh R k17) I l0 l1 l2 l3 0)
    else
      ((fX10_joinable_b46 fu sh R k17) I l0 l1 l2 l3 1))
set_option maxRecDepth 100000 in
set_option maxHeartbeats 4000000 in
theorem vX10_joinable_b17 {K J : Nat → Nat} {fu : Nat} {sh : HS} {R : HR} {F : VF} {o : ((Int32 ⊕ String) × HI)} (hF : F (voI o.1) sh o.2 R) {k17 : HI → Nat → Int32 → Int32 → Int32 → Option ((Int32 ⊕ String) × HI)} (hk17 : ∀ {I : HI} {l0 : Nat} {l1 : Int32} {l2 : Int32} {l3 : Int32} {d4 : Option Value} {c : Nat × Nat}, (c.1 ≤ 2 ∧ c.2 ≤ 12) → k17 I l0 l1 l2 l3 = some o → V K J 113 17 [some (.ref l0), some (.int l1), some (.int l2), some (.int l3), d4] [] sh I R c F) {I : HI} {l0 : Nat} {l1 : Int32} {l2 : Int32} {l3 : Int32} {d4 : Option Value} {c : Nat × Nat} (hc0 : c.1 ≤ 2 ∧ c.2 ≤ 12) (h0 : fX10_joinable_b17 fu sh R k17 I l0 l1 l2 l3 = some o) : V K J 113 17 [some (.ref l0), some (.int l1), some (.int l2), some (.int l3), d4] [] sh I R c F := by
  unfold fX10_joinable_b17 at h0
  refine s_il (i := 3) (pc' := 18) (by decide +kernel) rfl ?_
  refine s_rl (i := 0) (pc' := 19) (by decide +kernel) rfl ?_
  refine s_gR (t := 8) (j := 8) (pc' := 22) (by decide +kernel) h0 (fun v4 h1 => ?_); clear h0
  refine s_gI (t := 6) (j := 0) (ty := 0) (pc' := 25) (by decide +kernel) rfl h1 (fun v5 h2 => ?_); clear h1
  refine s_if (ins := .if_icmp .ge 57) (t := 82) (pc' := 28) (by decide +kernel) rfl rfl rfl h2 (fun p3 h3 => ?_) (fun p3 h3 => ?_) <;> clear h2
  · refine s_il (i := 2) (pc' := 83) (by decide +kernel) rfl ?_
    have e9 := Option.some.inj h3; subst e9
    exact s_ri (X := 2) (Y := 12) (by decide +kernel) hc0 hF
  · refine s_il (i := 3) (pc' := 29) (by decide +kernel) rfl ?_
    refine s_rl (i := 0) (pc' := 30) (by decide +kernel) rfl ?_
    refine s_gR (t := 8) (j := 8) (pc' := 33) (by decide +kernel) h3 (fun v6 h4 => ?_); clear h3
    refine s_gR (t := 6) (j := 1) (pc' := 36) (by decide +kernel) h4 (fun v7 h5 => ?_); clear h4
    refine s_il (i := 1) (pc' := 37) (by decide +kernel) rfl ?_
    refine s_al (pc' := 38) (by decide +kernel) h5 (fun v8 h6 => ?_); clear h5
    refine s_if (ins := .if_icmp .eq 7) (t := 45) (pc' := 41) (by decide +kernel) rfl rfl rfl h6 (fun p7 h7 => ?_) (fun p7 h7 => ?_) <;> clear h6
    · refine s_c (v := 0) (pc' := 46) (by decide +kernel) ?_
      exact (vX10_joinable_b46 hF hk17) hc0 h7
    · refine s_c (v := 1) (pc' := 42) (by decide +kernel) ?_
      refine s_go (t := 46) (by decide +kernel) ?_
      exact (vX10_joinable_b46 hF hk17) hc0 h7
set_option maxRecDepth 100000 in
set_option maxHeartbeats 4000000 in
def fX10_joinable_l17 (fu : Nat) (sh : HS) (R : HR) : Nat → HI → Nat → Int32 → Int32 → Int32 → Option ((Int32 ⊕ String) × HI)
  | 0 => fun _ _ _ _ _ => none
  | n + 1 => fX10_joinable_b17 fu sh R (fX10_joinable_l17 fu sh R n)
set_option maxRecDepth 100000 in
set_option maxHeartbeats 4000000 in
theorem vX10_joinable_l17 {K J : Nat → Nat} {fu : Nat} {sh : HS} {R : HR} {F : VF} {o : ((Int32 ⊕ String) × HI)} (hF : F (voI o.1) sh o.2 R) : ∀ (n : Nat) {I : HI} {l0 : Nat} {l1 : Int32} {l2 : Int32} {l3 : Int32} {d4 : Option Value} {c : Nat × Nat} (_ : c.1 ≤ 2 ∧ c.2 ≤ 12) (_ : fX10_joinable_l17 fu sh R n I l0 l1 l2 l3 = some o), V K J 113 17 [some (.ref l0), some (.int l1), some (.int l2), some (.int l3), d4] [] sh I R c F := by
  intro n
  induction n with
  | zero => exact fun _ h0 => nomatch h0
  | succ n ih => exact fun hc0 h0 => vX10_joinable_b17 hF ih hc0 h0
set_option maxRecDepth 100000 in
set_option maxHeartbeats 4000000 in
def fX10_joinable (fu : Nat) (sh : HS) (I : HI) (R : HR) (l0 : Nat) (l1 : Int32) : Option ((Int32 ⊕ String) × HI) :=
  if isT sh l0 8 = true then
    (oT0 (fX10_needBoard fu sh I R l0) (fun E => some (.inr E, I)) fun _ =>
    oT0 (fX10_needShot fu sh I R l0 l1) (fun E => some (.inr E, I)) fun _ =>
    (fX10_settleSetups fu sh I R l0).bind fun w3 =>
    (fX10_joinable_l17 fu sh R fu) w3 l0 l1 0 0)
  else none
set_option maxRecDepth 100000 in
set_option maxHeartbeats 4000000 in
theorem vX10_joinable {K J : Nat → Nat} {fu : Nat} {sh : HS} {I : HI} {R : HR} {F : VF} {o : ((Int32 ⊕ String) × HI)} (hF : F (voI o.1) sh o.2 R) {l0 : Nat} {l1 : Int32} (h0 : fX10_joinable fu sh I R l0 l1 = some o) : V K J 113 0 (ent 5 [.ref l0, .int l1]) [] sh I R (0, 0) F := by
  unfold fX10_joinable at h0
  obtain ⟨-, h1⟩ := gd h0; clear h0
  have hc0 : ((0 : Nat), (0 : Nat)).1 ≤ 0 ∧ ((0 : Nat), (0 : Nat)).2 ≤ 0 := ⟨Nat.le_refl _, Nat.le_refl _⟩
  show V K J 113 0 [some (.ref l0), some (.int l1), none, none, none] [] sh I R (0, 0) F
  refine s_rl (i := 0) (pc' := 1) (by decide +kernel) rfl ?_
  refine kX10_needBoard (X := 0) (Y := 0) (X' := 1) (Y' := 6) (pc' := 4) (by decide +kernel) hc0 rfl h1 (fun v1 c hc1 h2 => ?_) (fun E h2 => by have e9 := Option.some.inj h2; subst e9; exact hF); clear h1 hc0
  refine s_rl (i := 0) (pc' := 5) (by decide +kernel) rfl ?_
  refine s_il (i := 1) (pc' := 6) (by decide +kernel) rfl ?_
  refine kX10_needShot (X := 1) (Y := 6) (X' := 2) (Y' := 12) (pc' := 9) (by decide +kernel) hc1 rfl h2 (fun v2 c hc2 h3 => ?_) (fun E h3 => by have e9 := Option.some.inj h3; subst e9; exact hF); clear h2 hc1
  refine s_rl (i := 0) (pc' := 10) (by decide +kernel) rfl ?_
  refine kX10_settleSetups (X := 2) (Y := 12) (X' := 2) (Y' := 12) (pc' := 13) (by decide +kernel) hc2 rfl h3 (fun w3 c hc3 h4 => ?_); clear h3 hc2
  refine s_c (v := 0) (pc' := 14) (by decide +kernel) ?_
  refine s_is (i := 2) (pc' := 15) (L' := [some (.ref l0), some (.int l1), some (.int 0), none, none]) (by decide +kernel) rfl rfl ?_
  refine s_c (v := 0) (pc' := 16) (by decide +kernel) ?_
  refine s_is (i := 3) (pc' := 17) (L' := [some (.ref l0), some (.int l1), some (.int 0), some (.int 0), none]) (by decide +kernel) rfl rfl ?_
  exact (vX10_joinable_l17 hF fu) hc3 h4
set_option maxRecDepth 100000 in
set_option maxHeartbeats 4000000 in
theorem kX10_joinable {K J : Nat → Nat} {fu : Nat} {sh : HS} {I : HI} {R : HR} {F : VF} {mi pc pc' X Y X' Y' : Nat} {L : VL} {rest : List Value} {c : Nat × Nat} {l0 : Nat} {l1 : Int32} {ω : Type} {o : ω} {e : String → HI → Option ω} {g : Int32 → HI → Option ω} (hq : cQ mi pc 113 2 pc' X Y X' Y' = true) (hc : c.1 ≤ X ∧ c.2 ≤ Y) (hr : Nat.ble (catS rest) 8 = true) (h : oTh (fX10_joinable fu sh I R l0 l1) e g = some o) (kk : ∀ v w c', (c'.1 ≤ X' ∧ c'.2 ≤ Y') → g v w = some o → V K J mi pc' L ((.int v) :: rest) sh w R c' F) (kx : ∀ E w, e E w = some o → F (.inr E) sh w R) : V K J mi pc L (.int l1 :: .ref l0 :: rest) sh I R c F := by
  obtain ⟨r, h1, h2⟩ := bnd h
  have hT : isT sh l0 8 = true := by unfold fX10_joinable at h1; exact (gd h1).1
  have ml : mL 113 = 5 := by decide +kernel
  have mk : mK 113 = 1 := by decide +kernel
  have mc : mC 113 = 8 := by decide +kernel
  obtain ⟨r, w⟩ := r
  rcases r with v | E
  · refine s_call (as := [.int l1, .ref l0]) (G := fun o' sh' I' R' => o' = .inl (some (.int v)) ∧ sh' = sh ∧ I' = w ∧ R' = R) hq hc rfl hr (by rw [ml]; rfl) (Or.inl rfl) (fun _ => Or.inl ⟨by rw [mc]; decide, by rw [mc]; exact isT_iff.mp hT⟩) (fun z => absurd (mk.symm.trans z) (by decide)) (by rw [ml]; exact vX10_joinable (F := fun o' sh' I' R' => o' = .inl (some (.int v)) ∧ sh' = sh ∧ I' = w ∧ R' = R) ⟨rfl, rfl, rfl, rfl⟩ h1) ?_ ?_ ?_
    · rintro sh' I' R' c' hc' ⟨g1, rfl, rfl, rfl⟩
      cases g1
    · rintro v' sh' I' R' c' hc' ⟨g1, rfl, rfl, rfl⟩
      cases g1
      exact kk _ _ _ hc' h2
    · rintro E' sh' I' R' ⟨g1, rfl, rfl, rfl⟩
      cases g1
  · refine s_call (as := [.int l1, .ref l0]) (G := fun o' sh' I' R' => o' = .inr E ∧ sh' = sh ∧ I' = w ∧ R' = R) hq hc rfl hr (by rw [ml]; rfl) (Or.inl rfl) (fun _ => Or.inl ⟨by rw [mc]; decide, by rw [mc]; exact isT_iff.mp hT⟩) (fun z => absurd (mk.symm.trans z) (by decide)) (by rw [ml]; exact vX10_joinable (F := fun o' sh' I' R' => o' = .inr E ∧ sh' = sh ∧ I' = w ∧ R' = R) ⟨rfl, rfl, rfl, rfl⟩ h1) ?_ ?_ ?_
    · rintro sh' I' R' c' hc' ⟨g1, rfl, rfl, rfl⟩
      cases g1
    · rintro v' sh' I' R' c' hc' ⟨g1, rfl, rfl, rfl⟩
      cases g1
    · rintro E' sh' I' R' ⟨g1, rfl, rfl, rfl⟩
      cases g1
      exact kx _ _ h2
set_option maxRecDepth 100000 in
set_option maxHeartbeats 4000000 in
def fX10_leastReach_b13 (fu : Nat) (sh : HS) (R : HR) (k13 : HI → Nat → Int32 → Int32 → Option ((Int32 ⊕ String) × HI)) (I : HI) (l0 : Nat) (l1 : Int32) (l2 : Int32) : Option ((Int32 ⊕ String) × HI) :=
  if 99 < l2 then
    (some (.inl (-2), I))
  else
    ((oR sh R l0 8 8).bind fun v3 =>
    (oR sh R l0 8 4).bind fun v4 =>
    oH (fX7_sizeWithReach fu sh I R v3 v4 l2) fun v5 w5 =>
    if l1 < v5 then
      (k13 w5 l0 l1 (l2 + 1))
    else
      (some (.inl l2, w5)))
set_option maxRecDepth 100000 in
set_option maxHeartbeats 4000000 in
theorem vX10_leastReach_b13 {K J : Nat → Nat} {fu : Nat} {sh : HS} {R : HR} {F : VF} {o : ((Int32 ⊕ String) × HI)} (hF : F (voI o.1) sh o.2 R) {k13 : HI → Nat → Int32 → Int32 → Option ((Int32 ⊕ String) × HI)} (hk13 : ∀ {I : HI} {l0 : Nat} {l1 : Int32} {l2 : Int32}  {c : Nat × Nat}, (c.1 ≤ 2 ∧ c.2 ≤ 12) → k13 I l0 l1 l2 = some o → V K J 114 13 [some (.ref l0), some (.int l1), some (.int l2)] [] sh I R c F) {I : HI} {l0 : Nat} {l1 : Int32} {l2 : Int32} {c : Nat × Nat} (hc0 : c.1 ≤ 2 ∧ c.2 ≤ 12) (h0 : fX10_leastReach_b13 fu sh R k13 I l0 l1 l2 = some o) : V K J 114 13 [some (.ref l0), some (.int l1), some (.int l2)] [] sh I R c F := by
  unfold fX10_leastReach_b13 at h0
  refine s_il (i := 2) (pc' := 14) (by decide +kernel) rfl ?_
  refine s_c (v := 99) (pc' := 16) (by decide +kernel) ?_
  refine s_if (ins := .if_icmp .gt 27) (t := 43) (pc' := 19) (by decide +kernel) rfl rfl rfl h0 (fun p1 h1 => ?_) (fun p1 h1 => ?_) <;> clear h0
  · refine s_c (v := (-2)) (pc' := 45) (by decide +kernel) ?_
    have e9 := Option.some.inj h1; subst e9
    exact s_ri (X := 2) (Y := 12) (by decide +kernel) hc0 hF
  · refine s_rl (i := 0) (pc' := 20) (by decide +kernel) rfl ?_
    refine s_gR (t := 8) (j := 8) (pc' := 23) (by decide +kernel) h1 (fun v3 h2 => ?_); clear h1
    refine s_rl (i := 0) (pc' := 24) (by decide +kernel) rfl ?_
    refine s_gR (t := 8) (j := 4) (pc' := 27) (by decide +kernel) h2 (fun v4 h3 => ?_); clear h2
    refine s_il (i := 2) (pc' := 28) (by decide +kernel) rfl ?_
    refine kX7_sizeWithReach (X := 2) (Y := 12) (X' := 2) (Y' := 12) (pc' := 31) (by decide +kernel) hc0 rfl h3 (fun v5 w5 c hc1 h4 => ?_); clear h3 hc0
    refine s_il (i := 1) (pc' := 32) (by decide +kernel) rfl ?_
    refine s_if (ins := .if_icmp .gt 5) (t := 37) (pc' := 35) (by decide +kernel) rfl rfl rfl h4 (fun p5 h5 => ?_) (fun p5 h5 => ?_) <;> clear h4
    · refine s_inc (i := 2) (z := 1) (pc' := 40) (L' := [some (.ref l0), some (.int l1), some (.int (l2 + 1))]) (by decide +kernel) rfl rfl rfl ?_
      refine s_go (t := 13) (by decide +kernel) ?_
      exact hk13 hc1 h5
    · refine s_il (i := 2) (pc' := 36) (by decide +kernel) rfl ?_
      have e9 := Option.some.inj h5; subst e9
      exact s_ri (X := 2) (Y := 12) (by decide +kernel) hc1 hF
set_option maxRecDepth 100000 in
set_option maxHeartbeats 4000000 in
def fX10_leastReach_l13 (fu : Nat) (sh : HS) (R : HR) : Nat → HI → Nat → Int32 → Int32 → Option ((Int32 ⊕ String) × HI)
  | 0 => fun _ _ _ _ => none
  | n + 1 => fX10_leastReach_b13 fu sh R (fX10_leastReach_l13 fu sh R n)
set_option maxRecDepth 100000 in
set_option maxHeartbeats 4000000 in
theorem vX10_leastReach_l13 {K J : Nat → Nat} {fu : Nat} {sh : HS} {R : HR} {F : VF} {o : ((Int32 ⊕ String) × HI)} (hF : F (voI o.1) sh o.2 R) : ∀ (n : Nat) {I : HI} {l0 : Nat} {l1 : Int32} {l2 : Int32} {c : Nat × Nat} (_ : c.1 ≤ 2 ∧ c.2 ≤ 12) (_ : fX10_leastReach_l13 fu sh R n I l0 l1 l2 = some o), V K J 114 13 [some (.ref l0), some (.int l1), some (.int l2)] [] sh I R c F := by
  intro n
  induction n with
  | zero => exact fun _ h0 => nomatch h0
  | succ n ih => exact fun hc0 h0 => vX10_leastReach_b13 hF ih hc0 h0
set_option maxRecDepth 100000 in
set_option maxHeartbeats 4000000 in
def fX10_leastReach (fu : Nat) (sh : HS) (I : HI) (R : HR) (l0 : Nat) (l1 : Int32) : Option ((Int32 ⊕ String) × HI) :=
  if isT sh l0 8 = true then
    (oT0 (fX10_needBoard fu sh I R l0) (fun E => some (.inr E, I)) fun _ =>
    oT0 (fX10_needRange fu sh I R l1 0 12) (fun E => some (.inr E, I)) fun _ =>
    (fX10_leastReach_l13 fu sh R fu) I l0 l1 0)
  else none
set_option maxRecDepth 100000 in
set_option maxHeartbeats 4000000 in
theorem vX10_leastReach {K J : Nat → Nat} {fu : Nat} {sh : HS} {I : HI} {R : HR} {F : VF} {o : ((Int32 ⊕ String) × HI)} (hF : F (voI o.1) sh o.2 R) {l0 : Nat} {l1 : Int32} (h0 : fX10_leastReach fu sh I R l0 l1 = some o) : V K J 114 0 (ent 3 [.ref l0, .int l1]) [] sh I R (0, 0) F := by
  unfold fX10_leastReach at h0
  obtain ⟨-, h1⟩ := gd h0; clear h0
  have hc0 : ((0 : Nat), (0 : Nat)).1 ≤ 0 ∧ ((0 : Nat), (0 : Nat)).2 ≤ 0 := ⟨Nat.le_refl _, Nat.le_refl _⟩
  show V K J 114 0 [some (.ref l0), some (.int l1), none] [] sh I R (0, 0) F
  refine s_rl (i := 0) (pc' := 1) (by decide +kernel) rfl ?_
  refine kX10_needBoard (X := 0) (Y := 0) (X' := 1) (Y' := 6) (pc' := 4) (by decide +kernel) hc0 rfl h1 (fun v1 c hc1 h2 => ?_) (fun E h2 => by have e9 := Option.some.inj h2; subst e9; exact hF); clear h1 hc0
  refine s_il (i := 1) (pc' := 5) (by decide +kernel) rfl ?_
  refine s_c (v := 0) (pc' := 6) (by decide +kernel) ?_
  refine s_c (v := 12) (pc' := 8) (by decide +kernel) ?_
  refine kX10_needRange (X := 1) (Y := 6) (X' := 2) (Y' := 12) (pc' := 11) (by decide +kernel) hc1 rfl h2 (fun v2 c hc2 h3 => ?_) (fun E h3 => by have e9 := Option.some.inj h3; subst e9; exact hF); clear h2 hc1
  refine s_c (v := 0) (pc' := 12) (by decide +kernel) ?_
  refine s_is (i := 2) (pc' := 13) (L' := [some (.ref l0), some (.int l1), some (.int 0)]) (by decide +kernel) rfl rfl ?_
  exact (vX10_leastReach_l13 hF fu) hc2 h3
set_option maxRecDepth 100000 in
set_option maxHeartbeats 4000000 in
theorem kX10_leastReach {K J : Nat → Nat} {fu : Nat} {sh : HS} {I : HI} {R : HR} {F : VF} {mi pc pc' X Y X' Y' : Nat} {L : VL} {rest : List Value} {c : Nat × Nat} {l0 : Nat} {l1 : Int32} {ω : Type} {o : ω} {e : String → HI → Option ω} {g : Int32 → HI → Option ω} (hq : cQ mi pc 114 2 pc' X Y X' Y' = true) (hc : c.1 ≤ X ∧ c.2 ≤ Y) (hr : Nat.ble (catS rest) 8 = true) (h : oTh (fX10_leastReach fu sh I R l0 l1) e g = some o) (kk : ∀ v w c', (c'.1 ≤ X' ∧ c'.2 ≤ Y') → g v w = some o → V K J mi pc' L ((.int v) :: rest) sh w R c' F) (kx : ∀ E w, e E w = some o → F (.inr E) sh w R) : V K J mi pc L (.int l1 :: .ref l0 :: rest) sh I R c F := by
  obtain ⟨r, h1, h2⟩ := bnd h
  have hT : isT sh l0 8 = true := by unfold fX10_leastReach at h1; exact (gd h1).1
  have ml : mL 114 = 3 := by decide +kernel
  have mk : mK 114 = 1 := by decide +kernel
  have mc : mC 114 = 8 := by decide +kernel
  obtain ⟨r, w⟩ := r
  rcases r with v | E
  · refine s_call (as := [.int l1, .ref l0]) (G := fun o' sh' I' R' => o' = .inl (some (.int v)) ∧ sh' = sh ∧ I' = w ∧ R' = R) hq hc rfl hr (by rw [ml]; rfl) (Or.inl rfl) (fun _ => Or.inl ⟨by rw [mc]; decide, by rw [mc]; exact isT_iff.mp hT⟩) (fun z => absurd (mk.symm.trans z) (by decide)) (by rw [ml]; exact vX10_leastReach (F := fun o' sh' I' R' => o' = .inl (some (.int v)) ∧ sh' = sh ∧ I' = w ∧ R' = R) ⟨rfl, rfl, rfl, rfl⟩ h1) ?_ ?_ ?_
    · rintro sh' I' R' c' hc' ⟨g1, rfl, rfl, rfl⟩
      cases g1
    · rintro v' sh' I' R' c' hc' ⟨g1, rfl, rfl, rfl⟩
      cases g1
      exact kk _ _ _ hc' h2
    · rintro E' sh' I' R' ⟨g1, rfl, rfl, rfl⟩
      cases g1
  · refine s_call (as := [.int l1, .ref l0]) (G := fun o' sh' I' R' => o' = .inr E ∧ sh' = sh ∧ I' = w ∧ R' = R) hq hc rfl hr (by rw [ml]; rfl) (Or.inl rfl) (fun _ => Or.inl ⟨by rw [mc]; decide, by rw [mc]; exact isT_iff.mp hT⟩) (fun z => absurd (mk.symm.trans z) (by decide)) (by rw [ml]; exact vX10_leastReach (F := fun o' sh' I' R' => o' = .inr E ∧ sh' = sh ∧ I' = w ∧ R' = R) ⟨rfl, rfl, rfl, rfl⟩ h1) ?_ ?_ ?_
    · rintro sh' I' R' c' hc' ⟨g1, rfl, rfl, rfl⟩
      cases g1
    · rintro v' sh' I' R' c' hc' ⟨g1, rfl, rfl, rfl⟩
      cases g1
    · rintro E' sh' I' R' ⟨g1, rfl, rfl, rfl⟩
      cases g1
      exact kx _ _ h2
set_option maxRecDepth 100000 in
set_option maxHeartbeats 4000000 in
def fX10_change_b44 (fu : Nat) (sh : HS) (R : HR) (I : HI) (s0 : Int32) : Option ((Int32 ⊕ String) × HI) :=
  some (.inl s0, I)
set_option maxRecDepth 100000 in
set_option maxHeartbeats 4000000 in
theorem vX10_change_b44 {K J : Nat → Nat} {fu : Nat} {sh : HS} {R : HR} {F : VF} {o : ((Int32 ⊕ String) × HI)} (hF : F (voI o.1) sh o.2 R) {I : HI} {s0 : Int32} {d0 d1 d2 : Option Value} {c : Nat × Nat} (hc0 : c.1 ≤ 3 ∧ c.2 ≤ 18) (h0 : fX10_change_b44 fu sh R I s0 = some o) : V K J 115 44 [d0, d1, d2] [.int s0] sh I R c F := by
  unfold fX10_change_b44 at h0
  have e9 := Option.some.inj h0; subst e9
  exact s_ri (X := 3) (Y := 18) (by decide +kernel) hc0 hF
set_option maxRecDepth 100000 in
set_option maxHeartbeats 4000000 in
def fX10_change_b14 (fu : Nat) (sh : HS) (R : HR) (I : HI) (l0 : Nat) (l1 : Int32) (l2 : Int32) : Option ((Int32 ⊕ String) × HI) :=
  oTh (fX10_needSetup fu sh I R l0 l2) (fun E w2 => some (.inr E, w2)) fun _ w2 =>
  if l1 = (-1) then
    ((oR sh R l0 8 8).bind fun v5 =>
    (fX7_costOfStart fu sh w2 R v5 l2).bind fun v6 =>
    (fX10_change_b44 fu sh R) w2 v6)
  else
    ((oR sh R l0 8 8).bind fun v3 =>
    (fX7_costOfChange fu sh w2 R v3 l1 l2).bind fun v4 =>
    (fX10_change_b44 fu sh R) w2 v4)
set_option maxRecDepth 100000 in
set_option maxHeartbeats 4000000 in
theorem vX10_change_b14 {K J : Nat → Nat} {fu : Nat} {sh : HS} {R : HR} {F : VF} {o : ((Int32 ⊕ String) × HI)} (hF : F (voI o.1) sh o.2 R) {I : HI} {l0 : Nat} {l1 : Int32} {l2 : Int32} {c : Nat × Nat} (hc0 : c.1 ≤ 2 ∧ c.2 ≤ 12) (h0 : fX10_change_b14 fu sh R I l0 l1 l2 = some o) : V K J 115 14 [some (.ref l0), some (.int l1), some (.int l2)] [] sh I R c F := by
  unfold fX10_change_b14 at h0
  refine s_rl (i := 0) (pc' := 15) (by decide +kernel) rfl ?_
  refine s_il (i := 2) (pc' := 16) (by decide +kernel) rfl ?_
  refine kX10_needSetup (X := 2) (Y := 12) (X' := 3) (Y' := 18) (pc' := 19) (by decide +kernel) hc0 rfl h0 (fun v2 w2 c hc1 h1 => ?_) (fun E w2 h1 => by have e9 := Option.some.inj h1; subst e9; exact hF); clear h0 hc0
  refine s_il (i := 1) (pc' := 20) (by decide +kernel) rfl ?_
  refine s_c (v := (-1)) (pc' := 21) (by decide +kernel) ?_
  refine s_ifn (ins := .if_icmp .ne 14) (t := 35) (pc' := 24) (by decide +kernel) rfl rfl rfl h1 (fun p2 h2 => ?_) (fun p2 h2 => ?_) <;> clear h1
  · refine s_rl (i := 0) (pc' := 36) (by decide +kernel) rfl ?_
    refine s_gR (t := 8) (j := 8) (pc' := 39) (by decide +kernel) h2 (fun v3 h3 => ?_); clear h2
    refine s_il (i := 1) (pc' := 40) (by decide +kernel) rfl ?_
    refine s_il (i := 2) (pc' := 41) (by decide +kernel) rfl ?_
    refine kX7_costOfChange (X := 3) (Y := 18) (X' := 3) (Y' := 18) (pc' := 44) (by decide +kernel) hc1 rfl h3 (fun v4 c hc2 h4 => ?_); clear h3 hc1
    exact (vX10_change_b44 hF) hc2 h4
  · refine s_rl (i := 0) (pc' := 25) (by decide +kernel) rfl ?_
    refine s_gR (t := 8) (j := 8) (pc' := 28) (by decide +kernel) h2 (fun v5 h3 => ?_); clear h2
    refine s_il (i := 2) (pc' := 29) (by decide +kernel) rfl ?_
    refine kX7_costOfStart (X := 3) (Y := 18) (X' := 3) (Y' := 18) (pc' := 32) (by decide +kernel) hc1 rfl h3 (fun v6 c hc2 h4 => ?_); clear h3 hc1
    refine s_go (t := 44) (by decide +kernel) ?_
    exact (vX10_change_b44 hF) hc2 h4
set_option maxRecDepth 100000 in
set_option maxHeartbeats 4000000 in
def fX10_change (fu : Nat) (sh : HS) (I : HI) (R : HR) (l0 : Nat) (l1 : Int32) (l2 : Int32) : Option ((Int32 ⊕ String) × HI) :=
  if isT sh l0 8 = true then
    (oT0 (fX10_needBoard fu sh I R l0) (fun E => some (.inr E, I)) fun _ =>
    if l1 = (-1) then
      ((fX10_change_b14 fu sh R) I l0 l1 l2)
    else
      (oTh (fX10_needSetup fu sh I R l0 l1) (fun E w7 => some (.inr E, w7)) fun _ w7 =>
      (fX10_change_b14 fu sh R) w7 l0 l1 l2))
  else none
set_option maxRecDepth 100000 in
set_option maxHeartbeats 4000000 in
theorem vX10_change {K J : Nat → Nat} {fu : Nat} {sh : HS} {I : HI} {R : HR} {F : VF} {o : ((Int32 ⊕ String) × HI)} (hF : F (voI o.1) sh o.2 R) {l0 : Nat} {l1 : Int32} {l2 : Int32} (h0 : fX10_change fu sh I R l0 l1 l2 = some o) : V K J 115 0 (ent 3 [.ref l0, .int l1, .int l2]) [] sh I R (0, 0) F := by
  unfold fX10_change at h0
  obtain ⟨-, h1⟩ := gd h0; clear h0
  have hc0 : ((0 : Nat), (0 : Nat)).1 ≤ 0 ∧ ((0 : Nat), (0 : Nat)).2 ≤ 0 := ⟨Nat.le_refl _, Nat.le_refl _⟩
  show V K J 115 0 [some (.ref l0), some (.int l1), some (.int l2)] [] sh I R (0, 0) F
  refine s_rl (i := 0) (pc' := 1) (by decide +kernel) rfl ?_
  refine kX10_needBoard (X := 0) (Y := 0) (X' := 1) (Y' := 6) (pc' := 4) (by decide +kernel) hc0 rfl h1 (fun v1 c hc1 h2 => ?_) (fun E h2 => by have e9 := Option.some.inj h2; subst e9; exact hF); clear h1 hc0
  refine s_il (i := 1) (pc' := 5) (by decide +kernel) rfl ?_
  refine s_c (v := (-1)) (pc' := 6) (by decide +kernel) ?_
  refine s_if (ins := .if_icmp .eq 8) (t := 14) (pc' := 9) (by decide +kernel) rfl rfl rfl h2 (fun p3 h3 => ?_) (fun p3 h3 => ?_) <;> clear h2
  · exact (vX10_change_b14 hF) ⟨Nat.le_trans hc1.1 (by decide), Nat.le_trans hc1.2 (by decide)⟩ h3
  · refine s_rl (i := 0) (pc' := 10) (by decide +kernel) rfl ?_
    refine s_il (i := 1) (pc' := 11) (by decide +kernel) rfl ?_
    refine kX10_needSetup (X := 1) (Y := 6) (X' := 2) (Y' := 12) (pc' := 14) (by decide +kernel) hc1 rfl h3 (fun v7 w7 c hc2 h4 => ?_) (fun E w7 h4 => by have e9 := Option.some.inj h4; subst e9; exact hF); clear h3 hc1
    exact (vX10_change_b14 hF) hc2 h4
set_option maxRecDepth 100000 in
set_option maxHeartbeats 4000000 in
theorem kX10_change {K J : Nat → Nat} {fu : Nat} {sh : HS} {I : HI} {R : HR} {F : VF} {mi pc pc' X Y X' Y' : Nat} {L : VL} {rest : List Value} {c : Nat × Nat} {l0 : Nat} {l1 : Int32} {l2 : Int32} {ω : Type} {o : ω} {e : String → HI → Option ω} {g : Int32 → HI → Option ω} (hq : cQ mi pc 115 3 pc' X Y X' Y' = true) (hc : c.1 ≤ X ∧ c.2 ≤ Y) (hr : Nat.ble (catS rest) 8 = true) (h : oTh (fX10_change fu sh I R l0 l1 l2) e g = some o) (kk : ∀ v w c', (c'.1 ≤ X' ∧ c'.2 ≤ Y') → g v w = some o → V K J mi pc' L ((.int v) :: rest) sh w R c' F) (kx : ∀ E w, e E w = some o → F (.inr E) sh w R) : V K J mi pc L (.int l2 :: .int l1 :: .ref l0 :: rest) sh I R c F := by
  obtain ⟨r, h1, h2⟩ := bnd h
  have hT : isT sh l0 8 = true := by unfold fX10_change at h1; exact (gd h1).1
  have ml : mL 115 = 3 := by decide +kernel
  have mk : mK 115 = 1 := by decide +kernel
  have mc : mC 115 = 8 := by decide +kernel
  obtain ⟨r, w⟩ := r
  rcases r with v | E
  · refine s_call (as := [.int l2, .int l1, .ref l0]) (G := fun o' sh' I' R' => o' = .inl (some (.int v)) ∧ sh' = sh ∧ I' = w ∧ R' = R) hq hc rfl hr (by rw [ml]; rfl) (Or.inl rfl) (fun _ => Or.inl ⟨by rw [mc]; decide, by rw [mc]; exact isT_iff.mp hT⟩) (fun z => absurd (mk.symm.trans z) (by decide)) (by rw [ml]; exact vX10_change (F := fun o' sh' I' R' => o' = .inl (some (.int v)) ∧ sh' = sh ∧ I' = w ∧ R' = R) ⟨rfl, rfl, rfl, rfl⟩ h1) ?_ ?_ ?_
    · rintro sh' I' R' c' hc' ⟨g1, rfl, rfl, rfl⟩
      cases g1
    · rintro v' sh' I' R' c' hc' ⟨g1, rfl, rfl, rfl⟩
      cases g1
      exact kk _ _ _ hc' h2
    · rintro E' sh' I' R' ⟨g1, rfl, rfl, rfl⟩
      cases g1
  · refine s_call (as := [.int l2, .int l1, .ref l0]) (G := fun o' sh' I' R' => o' = .inr E ∧ sh' = sh ∧ I' = w ∧ R' = R) hq hc rfl hr (by rw [ml]; rfl) (Or.inl rfl) (fun _ => Or.inl ⟨by rw [mc]; decide, by rw [mc]; exact isT_iff.mp hT⟩) (fun z => absurd (mk.symm.trans z) (by decide)) (by rw [ml]; exact vX10_change (F := fun o' sh' I' R' => o' = .inr E ∧ sh' = sh ∧ I' = w ∧ R' = R) ⟨rfl, rfl, rfl, rfl⟩ h1) ?_ ?_ ?_
    · rintro sh' I' R' c' hc' ⟨g1, rfl, rfl, rfl⟩
      cases g1
    · rintro v' sh' I' R' c' hc' ⟨g1, rfl, rfl, rfl⟩
      cases g1
    · rintro E' sh' I' R' ⟨g1, rfl, rfl, rfl⟩
      cases g1
      exact kx _ _ h2
set_option maxRecDepth 100000 in
set_option maxHeartbeats 4000000 in
def fX10_plainCost_b50 (fu : Nat) (sh : HS) (R : HR) (k12 : HI → Nat → Int32 → Int32 → Option ((Int32 ⊕ String) × HI)) (I : HI) (l0 : Nat) (l2 : Int32) (s0 : Int32) (s1 : Int32) : Option ((Int32 ⊕ String) × HI) :=
  k12 I l0 (s1 + s0) (l2 + 1)
set_option maxRecDepth 100000 in
set_option maxHeartbeats 4000000 in
theorem vX10_plainCost_b50 {K J : Nat → Nat} {fu : Nat} {sh : HS} {R : HR} {F : VF} {o : ((Int32 ⊕ String) × HI)} (hF : F (voI o.1) sh o.2 R) {k12 : HI → Nat → Int32 → Int32 → Option ((Int32 ⊕ String) × HI)} (hk12 : ∀ {I : HI} {l0 : Nat} {l1 : Int32} {l2 : Int32}  {c : Nat × Nat}, (c.1 ≤ 1 ∧ c.2 ≤ 6) → k12 I l0 l1 l2 = some o → V K J 116 12 [some (.ref l0), some (.int l1), some (.int l2)] [] sh I R c F) {I : HI} {l0 : Nat} {l2 : Int32} {s0 : Int32} {s1 : Int32} {d1 : Option Value} {c : Nat × Nat} (hc0 : c.1 ≤ 1 ∧ c.2 ≤ 6) (h0 : fX10_plainCost_b50 fu sh R k12 I l0 l2 s0 s1 = some o) : V K J 116 50 [some (.ref l0), d1, some (.int l2)] [.int s0, .int s1] sh I R c F := by
  unfold fX10_plainCost_b50 at h0
  refine s_a (ins := .iadd) (pc' := 51) (by decide +kernel) rfl ?_
  refine s_is (i := 1) (pc' := 52) (L' := [some (.ref l0), some (.int (s1 + s0)), some (.int l2)]) (by decide +kernel) rfl rfl ?_
  refine s_inc (i := 2) (z := 1) (pc' := 55) (L' := [some (.ref l0), some (.int (s1 + s0)), some (.int (l2 + 1))]) (by decide +kernel) rfl rfl rfl ?_
  refine s_go (t := 12) (by decide +kernel) ?_
  exact hk12 hc0 h0
set_option maxRecDepth 100000 in
set_option maxHeartbeats 4000000 in
def fX10_plainCost_b12 (fu : Nat) (sh : HS) (R : HR) (k12 : HI → Nat → Int32 → Int32 → Option ((Int32 ⊕ String) × HI)) (I : HI) (l0 : Nat) (l1 : Int32) (l2 : Int32) : Option ((Int32 ⊕ String) × HI) :=
  (oR sh R l0 8 8).bind fun v3 =>
  (oI sh I v3 6 0).bind fun v4 =>
  if v4 ≤ l2 then
    (some (.inl l1, I))
  else
    (if l2 = 0 then
      ((oR sh R l0 8 8).bind fun v7 =>
      (fX7_costOfStart fu sh I R v7 l2).bind fun v8 =>
      (fX10_plainCost_b50 fu sh R k12) I l0 l2 v8 l1)
    else
      ((oR sh R l0 8 8).bind fun v5 =>
      (fX7_costOfChange fu sh I R v5 (l2 - 1) l2).bind fun v6 =>
      (fX10_plainCost_b50 fu sh R k12) I l0 l2 v6 l1))
set_option maxRecDepth 100000 in
set_option maxHeartbeats 4000000 in
theorem vX10_plainCost_b12 {K J : Nat → Nat} {fu : Nat} {sh : HS} {R : HR} {F : VF} {o : ((Int32 ⊕ String) × HI)} (hF : F (voI o.1) sh o.2 R) {k12 : HI → Nat → Int32 → Int32 → Option ((Int32 ⊕ String) × HI)} (hk12 : ∀ {I : HI} {l0 : Nat} {l1 : Int32} {l2 : Int32}  {c : Nat × Nat}, (c.1 ≤ 1 ∧ c.2 ≤ 6) → k12 I l0 l1 l2 = some o → V K J 116 12 [some (.ref l0), some (.int l1), some (.int l2)] [] sh I R c F) {I : HI} {l0 : Nat} {l1 : Int32} {l2 : Int32} {c : Nat × Nat} (hc0 : c.1 ≤ 1 ∧ c.2 ≤ 6) (h0 : fX10_plainCost_b12 fu sh R k12 I l0 l1 l2 = some o) : V K J 116 12 [some (.ref l0), some (.int l1), some (.int l2)] [] sh I R c F := by
  unfold fX10_plainCost_b12 at h0
  refine s_il (i := 2) (pc' := 13) (by decide +kernel) rfl ?_
  refine s_rl (i := 0) (pc' := 14) (by decide +kernel) rfl ?_
  refine s_gR (t := 8) (j := 8) (pc' := 17) (by decide +kernel) h0 (fun v3 h1 => ?_); clear h0
  refine s_gI (t := 6) (j := 0) (ty := 0) (pc' := 20) (by decide +kernel) rfl h1 (fun v4 h2 => ?_); clear h1
  refine s_if (ins := .if_icmp .ge 38) (t := 58) (pc' := 23) (by decide +kernel) rfl rfl rfl h2 (fun p3 h3 => ?_) (fun p3 h3 => ?_) <;> clear h2
  · refine s_il (i := 1) (pc' := 59) (by decide +kernel) rfl ?_
    have e9 := Option.some.inj h3; subst e9
    exact s_ri (X := 1) (Y := 6) (by decide +kernel) hc0 hF
  · refine s_il (i := 1) (pc' := 24) (by decide +kernel) rfl ?_
    refine s_il (i := 2) (pc' := 25) (by decide +kernel) rfl ?_
    refine s_ifn (ins := .ifCond .ne 14) (t := 39) (pc' := 28) (by decide +kernel) rfl rfl rfl h3 (fun p4 h4 => ?_) (fun p4 h4 => ?_) <;> clear h3
    · refine s_rl (i := 0) (pc' := 40) (by decide +kernel) rfl ?_
      refine s_gR (t := 8) (j := 8) (pc' := 43) (by decide +kernel) h4 (fun v5 h5 => ?_); clear h4
      refine s_il (i := 2) (pc' := 44) (by decide +kernel) rfl ?_
      refine s_c (v := 1) (pc' := 45) (by decide +kernel) ?_
      refine s_a (ins := .isub) (pc' := 46) (by decide +kernel) rfl ?_
      refine s_il (i := 2) (pc' := 47) (by decide +kernel) rfl ?_
      refine kX7_costOfChange (X := 1) (Y := 6) (X' := 1) (Y' := 6) (pc' := 50) (by decide +kernel) hc0 rfl h5 (fun v6 c hc1 h6 => ?_); clear h5 hc0
      exact (vX10_plainCost_b50 hF hk12) hc1 h6
    · refine s_rl (i := 0) (pc' := 29) (by decide +kernel) rfl ?_
      refine s_gR (t := 8) (j := 8) (pc' := 32) (by decide +kernel) h4 (fun v7 h5 => ?_); clear h4
      refine s_il (i := 2) (pc' := 33) (by decide +kernel) rfl ?_
      refine kX7_costOfStart (X := 1) (Y := 6) (X' := 1) (Y' := 6) (pc' := 36) (by decide +kernel) hc0 rfl h5 (fun v8 c hc1 h6 => ?_); clear h5 hc0
      refine s_go (t := 50) (by decide +kernel) ?_
      exact (vX10_plainCost_b50 hF hk12) hc1 h6
set_option maxRecDepth 100000 in
set_option maxHeartbeats 4000000 in
def fX10_plainCost_l12 (fu : Nat) (sh : HS) (R : HR) : Nat → HI → Nat → Int32 → Int32 → Option ((Int32 ⊕ String) × HI)
  | 0 => fun _ _ _ _ => none
  | n + 1 => fX10_plainCost_b12 fu sh R (fX10_plainCost_l12 fu sh R n)
set_option maxRecDepth 100000 in
set_option maxHeartbeats 4000000 in
theorem vX10_plainCost_l12 {K J : Nat → Nat} {fu : Nat} {sh : HS} {R : HR} {F : VF} {o : ((Int32 ⊕ String) × HI)} (hF : F (voI o.1) sh o.2 R) : ∀ (n : Nat) {I : HI} {l0 : Nat} {l1 : Int32} {l2 : Int32} {c : Nat × Nat} (_ : c.1 ≤ 1 ∧ c.2 ≤ 6) (_ : fX10_plainCost_l12 fu sh R n I l0 l1 l2 = some o), V K J 116 12 [some (.ref l0), some (.int l1), some (.int l2)] [] sh I R c F := by
  intro n
  induction n with
  | zero => exact fun _ h0 => nomatch h0
  | succ n ih => exact fun hc0 h0 => vX10_plainCost_b12 hF ih hc0 h0
set_option maxRecDepth 100000 in
set_option maxHeartbeats 4000000 in
def fX10_plainCost (fu : Nat) (sh : HS) (I : HI) (R : HR) (l0 : Nat) : Option ((Int32 ⊕ String) × HI) :=
  if isT sh l0 8 = true then
    (oT0 (fX10_needBoard fu sh I R l0) (fun E => some (.inr E, I)) fun _ =>
    (fX10_settleSetups fu sh I R l0).bind fun w2 =>
    (fX10_plainCost_l12 fu sh R fu) w2 l0 0 0)
  else none
set_option maxRecDepth 100000 in
set_option maxHeartbeats 4000000 in
theorem vX10_plainCost {K J : Nat → Nat} {fu : Nat} {sh : HS} {I : HI} {R : HR} {F : VF} {o : ((Int32 ⊕ String) × HI)} (hF : F (voI o.1) sh o.2 R) {l0 : Nat} (h0 : fX10_plainCost fu sh I R l0 = some o) : V K J 116 0 (ent 3 [.ref l0]) [] sh I R (0, 0) F := by
  unfold fX10_plainCost at h0
  obtain ⟨-, h1⟩ := gd h0; clear h0
  have hc0 : ((0 : Nat), (0 : Nat)).1 ≤ 0 ∧ ((0 : Nat), (0 : Nat)).2 ≤ 0 := ⟨Nat.le_refl _, Nat.le_refl _⟩
  show V K J 116 0 [some (.ref l0), none, none] [] sh I R (0, 0) F
  refine s_rl (i := 0) (pc' := 1) (by decide +kernel) rfl ?_
  refine kX10_needBoard (X := 0) (Y := 0) (X' := 1) (Y' := 6) (pc' := 4) (by decide +kernel) hc0 rfl h1 (fun v1 c hc1 h2 => ?_) (fun E h2 => by have e9 := Option.some.inj h2; subst e9; exact hF); clear h1 hc0
  refine s_rl (i := 0) (pc' := 5) (by decide +kernel) rfl ?_
  refine kX10_settleSetups (X := 1) (Y := 6) (X' := 1) (Y' := 6) (pc' := 8) (by decide +kernel) hc1 rfl h2 (fun w2 c hc2 h3 => ?_); clear h2 hc1
  refine s_c (v := 0) (pc' := 9) (by decide +kernel) ?_
  refine s_is (i := 1) (pc' := 10) (L' := [some (.ref l0), some (.int 0), none]) (by decide +kernel) rfl rfl ?_
  refine s_c (v := 0) (pc' := 11) (by decide +kernel) ?_
  refine s_is (i := 2) (pc' := 12) (L' := [some (.ref l0), some (.int 0), some (.int 0)]) (by decide +kernel) rfl rfl ?_
  exact (vX10_plainCost_l12 hF fu) hc2 h3
set_option maxRecDepth 100000 in
set_option maxHeartbeats 4000000 in
theorem kX10_plainCost {K J : Nat → Nat} {fu : Nat} {sh : HS} {I : HI} {R : HR} {F : VF} {mi pc pc' X Y X' Y' : Nat} {L : VL} {rest : List Value} {c : Nat × Nat} {l0 : Nat} {ω : Type} {o : ω} {e : String → HI → Option ω} {g : Int32 → HI → Option ω} (hq : cQ mi pc 116 1 pc' X Y X' Y' = true) (hc : c.1 ≤ X ∧ c.2 ≤ Y) (hr : Nat.ble (catS rest) 8 = true) (h : oTh (fX10_plainCost fu sh I R l0) e g = some o) (kk : ∀ v w c', (c'.1 ≤ X' ∧ c'.2 ≤ Y') → g v w = some o → V K J mi pc' L ((.int v) :: rest) sh w R c' F) (kx : ∀ E w, e E w = some o → F (.inr E) sh w R) : V K J mi pc L (.ref l0 :: rest) sh I R c F := by
  obtain ⟨r, h1, h2⟩ := bnd h
  have hT : isT sh l0 8 = true := by unfold fX10_plainCost at h1; exact (gd h1).1
  have ml : mL 116 = 3 := by decide +kernel
  have mk : mK 116 = 1 := by decide +kernel
  have mc : mC 116 = 8 := by decide +kernel
  obtain ⟨r, w⟩ := r
  rcases r with v | E
  · refine s_call (as := [.ref l0]) (G := fun o' sh' I' R' => o' = .inl (some (.int v)) ∧ sh' = sh ∧ I' = w ∧ R' = R) hq hc rfl hr (by rw [ml]; rfl) (Or.inl rfl) (fun _ => Or.inl ⟨by rw [mc]; decide, by rw [mc]; exact isT_iff.mp hT⟩) (fun z => absurd (mk.symm.trans z) (by decide)) (by rw [ml]; exact vX10_plainCost (F := fun o' sh' I' R' => o' = .inl (some (.int v)) ∧ sh' = sh ∧ I' = w ∧ R' = R) ⟨rfl, rfl, rfl, rfl⟩ h1) ?_ ?_ ?_
    · rintro sh' I' R' c' hc' ⟨g1, rfl, rfl, rfl⟩
      cases g1
    · rintro v' sh' I' R' c' hc' ⟨g1, rfl, rfl, rfl⟩
      cases g1
      exact kk _ _ _ hc' h2
    · rintro E' sh' I' R' ⟨g1, rfl, rfl, rfl⟩
      cases g1
  · refine s_call (as := [.ref l0]) (G := fun o' sh' I' R' => o' = .inr E ∧ sh' = sh ∧ I' = w ∧ R' = R) hq hc rfl hr (by rw [ml]; rfl) (Or.inl rfl) (fun _ => Or.inl ⟨by rw [mc]; decide, by rw [mc]; exact isT_iff.mp hT⟩) (fun z => absurd (mk.symm.trans z) (by decide)) (by rw [ml]; exact vX10_plainCost (F := fun o' sh' I' R' => o' = .inr E ∧ sh' = sh ∧ I' = w ∧ R' = R) ⟨rfl, rfl, rfl, rfl⟩ h1) ?_ ?_ ?_
    · rintro sh' I' R' c' hc' ⟨g1, rfl, rfl, rfl⟩
      cases g1
    · rintro v' sh' I' R' c' hc' ⟨g1, rfl, rfl, rfl⟩
      cases g1
    · rintro E' sh' I' R' ⟨g1, rfl, rfl, rfl⟩
      cases g1
      exact kx _ _ h2
set_option maxRecDepth 100000 in
set_option maxHeartbeats 4000000 in
def fX10_settleOrder_b43 (fu : Nat) (sh : HS) (R : HR) (k43 : HI → Nat → Int32 → Int32 → Option HI) (k78 : HI → Nat → Int32 → Option HI) (I : HI) (l0 : Nat) (l1 : Int32) (l2 : Int32) : Option HI :=
  (oR sh R l0 8 8).bind fun v14 =>
  (oI sh I v14 6 0).bind fun v15 =>
  if v15 ≤ l2 then
    (k78 I l0 l1)
  else
    ((oR sh R l0 8 10).bind fun v16 =>
    (oR sh R l0 8 8).bind fun v17 =>
    (fX7_costOfChange fu sh I R v17 l2 l1).bind fun v18 =>
    (fX5_setStep fu sh I R v16 l2 l1 v18).bind fun w19 =>
    k43 w19 l0 l1 (l2 + 1))
set_option maxRecDepth 100000 in
set_option maxHeartbeats 4000000 in
theorem vX10_settleOrder_b43 {K J : Nat → Nat} {fu : Nat} {sh : HS} {R : HR} {F : VF} {o : HI} (hF : F (.inl none) sh o R) {k43 : HI → Nat → Int32 → Int32 → Option HI} {k78 : HI → Nat → Int32 → Option HI} (hk43 : ∀ {I : HI} {l0 : Nat} {l1 : Int32} {l2 : Int32}  {c : Nat × Nat}, (c.1 ≤ 0 ∧ c.2 ≤ 0) → k43 I l0 l1 l2 = some o → V K J 137 43 [some (.ref l0), some (.int l1), some (.int l2)] [] sh I R c F) (hk78 : ∀ {I : HI} {l0 : Nat} {l1 : Int32} {d2 : Option Value} {c : Nat × Nat}, (c.1 ≤ 0 ∧ c.2 ≤ 0) → k78 I l0 l1 = some o → V K J 137 78 [some (.ref l0), some (.int l1), d2] [] sh I R c F) {I : HI} {l0 : Nat} {l1 : Int32} {l2 : Int32} {c : Nat × Nat} (hc0 : c.1 ≤ 0 ∧ c.2 ≤ 0) (h0 : fX10_settleOrder_b43 fu sh R k43 k78 I l0 l1 l2 = some o) : V K J 137 43 [some (.ref l0), some (.int l1), some (.int l2)] [] sh I R c F := by
  unfold fX10_settleOrder_b43 at h0
  refine s_il (i := 2) (pc' := 44) (by decide +kernel) rfl ?_
  refine s_rl (i := 0) (pc' := 45) (by decide +kernel) rfl ?_
  refine s_gR (t := 8) (j := 8) (pc' := 48) (by decide +kernel) h0 (fun v14 h1 => ?_); clear h0
  refine s_gI (t := 6) (j := 0) (ty := 0) (pc' := 51) (by decide +kernel) rfl h1 (fun v15 h2 => ?_); clear h1
  refine s_if (ins := .if_icmp .ge 27) (t := 78) (pc' := 54) (by decide +kernel) rfl rfl rfl h2 (fun p3 h3 => ?_) (fun p3 h3 => ?_) <;> clear h2
  · exact hk78 hc0 h3
  · refine s_rl (i := 0) (pc' := 55) (by decide +kernel) rfl ?_
    refine s_gR (t := 8) (j := 10) (pc' := 58) (by decide +kernel) h3 (fun v16 h4 => ?_); clear h3
    refine s_il (i := 2) (pc' := 59) (by decide +kernel) rfl ?_
    refine s_il (i := 1) (pc' := 60) (by decide +kernel) rfl ?_
    refine s_rl (i := 0) (pc' := 61) (by decide +kernel) rfl ?_
    refine s_gR (t := 8) (j := 8) (pc' := 64) (by decide +kernel) h4 (fun v17 h5 => ?_); clear h4
    refine s_il (i := 2) (pc' := 65) (by decide +kernel) rfl ?_
    refine s_il (i := 1) (pc' := 66) (by decide +kernel) rfl ?_
    refine kX7_costOfChange (X := 0) (Y := 0) (X' := 0) (Y' := 0) (pc' := 69) (by decide +kernel) hc0 rfl h5 (fun v18 c hc1 h6 => ?_); clear h5 hc0
    refine kX5_setStep (X := 0) (Y := 0) (X' := 0) (Y' := 0) (pc' := 72) (by decide +kernel) hc1 rfl h6 (fun w19 c hc2 h7 => ?_); clear h6 hc1
    refine s_inc (i := 2) (z := 1) (pc' := 75) (L' := [some (.ref l0), some (.int l1), some (.int (l2 + 1))]) (by decide +kernel) rfl rfl rfl ?_
    refine s_go (t := 43) (by decide +kernel) ?_
    exact hk43 hc2 h7
set_option maxRecDepth 100000 in
set_option maxHeartbeats 4000000 in
def fX10_settleOrder_l43 (fu : Nat) (sh : HS) (R : HR) (k78 : HI → Nat → Int32 → Option HI) : Nat → HI → Nat → Int32 → Int32 → Option HI
  | 0 => fun _ _ _ _ => none
  | n + 1 => fX10_settleOrder_b43 fu sh R (fX10_settleOrder_l43 fu sh R k78 n) k78
set_option maxRecDepth 100000 in
set_option maxHeartbeats 4000000 in
theorem vX10_settleOrder_l43 {K J : Nat → Nat} {fu : Nat} {sh : HS} {R : HR} {F : VF} {o : HI} (hF : F (.inl none) sh o R) {k78 : HI → Nat → Int32 → Option HI} (hk78 : ∀ {I : HI} {l0 : Nat} {l1 : Int32} {d2 : Option Value} {c : Nat × Nat}, (c.1 ≤ 0 ∧ c.2 ≤ 0) → k78 I l0 l1 = some o → V K J 137 78 [some (.ref l0), some (.int l1), d2] [] sh I R c F) : ∀ (n : Nat) {I : HI} {l0 : Nat} {l1 : Int32} {l2 : Int32} {c : Nat × Nat} (_ : c.1 ≤ 0 ∧ c.2 ≤ 0) (_ : fX10_settleOrder_l43 fu sh R k78 n I l0 l1 l2 = some o), V K J 137 43 [some (.ref l0), some (.int l1), some (.int l2)] [] sh I R c F := by
  intro n
  induction n with
  | zero => exact fun _ h0 => nomatch h0
  | succ n ih => exact fun hc0 h0 => vX10_settleOrder_b43 hF ih hk78 hc0 h0
set_option maxRecDepth 100000 in
set_option maxHeartbeats 4000000 in
def fX10_settleOrder_b78 (fu : Nat) (sh : HS) (R : HR) (k14 : HI → Nat → Int32 → Option HI) (I : HI) (l0 : Nat) (l1 : Int32) : Option HI :=
  k14 I l0 (l1 + 1)
set_option maxRecDepth 100000 in
set_option maxHeartbeats 4000000 in
theorem vX10_settleOrder_b78 {K J : Nat → Nat} {fu : Nat} {sh : HS} {R : HR} {F : VF} {o : HI} (hF : F (.inl none) sh o R) {k14 : HI → Nat → Int32 → Option HI} (hk14 : ∀ {I : HI} {l0 : Nat} {l1 : Int32} {d2 : Option Value} {c : Nat × Nat}, (c.1 ≤ 0 ∧ c.2 ≤ 0) → k14 I l0 l1 = some o → V K J 137 14 [some (.ref l0), some (.int l1), d2] [] sh I R c F) {I : HI} {l0 : Nat} {l1 : Int32} {d2 : Option Value} {c : Nat × Nat} (hc0 : c.1 ≤ 0 ∧ c.2 ≤ 0) (h0 : fX10_settleOrder_b78 fu sh R k14 I l0 l1 = some o) : V K J 137 78 [some (.ref l0), some (.int l1), d2] [] sh I R c F := by
  unfold fX10_settleOrder_b78 at h0
  refine s_inc (i := 1) (z := 1) (pc' := 81) (L' := [some (.ref l0), some (.int (l1 + 1)), d2]) (by decide +kernel) rfl rfl rfl ?_
  refine s_go (t := 14) (by decide +kernel) ?_
  exact hk14 hc0 h0
set_option maxRecDepth 100000 in
set_option maxHeartbeats 4000000 in
def fX10_settleOrder_b14 (fu : Nat) (sh : HS) (R : HR) (k14 : HI → Nat → Int32 → Option HI) (I : HI) (l0 : Nat) (l1 : Int32) : Option HI :=
  (oR sh R l0 8 8).bind fun v3 =>
  (oI sh I v3 6 0).bind fun v4 =>
  if v4 ≤ l1 then
    ((oR sh R l0 8 10).bind fun v5 =>
    (oR sh R l0 8 8).bind fun v6 =>
    (oI sh I v6 6 0).bind fun v7 =>
    (fX5_find fu sh I R v5 v7).bind fun w8 =>
    (oP sh w8 l0 8 11 1).bind fun v9 =>
    some v9)
  else
    ((oR sh R l0 8 10).bind fun v10 =>
    (oR sh R l0 8 8).bind fun v11 =>
    (fX7_costOfStart fu sh I R v11 l1).bind fun v12 =>
    (fX5_setStart fu sh I R v10 l1 v12).bind fun w13 =>
    (fX10_settleOrder_l43 fu sh R (fX10_settleOrder_b78 fu sh R k14) fu) w13 l0 l1 0)
set_option maxRecDepth 100000 in
set_option maxHeartbeats 4000000 in
theorem vX10_settleOrder_b14 {K J : Nat → Nat} {fu : Nat} {sh : HS} {R : HR} {F : VF} {o : HI} (hF : F (.inl none) sh o R) {k14 : HI → Nat → Int32 → Option HI} (hk14 : ∀ {I : HI} {l0 : Nat} {l1 : Int32} {d2 : Option Value} {c : Nat × Nat}, (c.1 ≤ 0 ∧ c.2 ≤ 0) → k14 I l0 l1 = some o → V K J 137 14 [some (.ref l0), some (.int l1), d2] [] sh I R c F) {I : HI} {l0 : Nat} {l1 : Int32} {d2 : Option Value} {c : Nat × Nat} (hc0 : c.1 ≤ 0 ∧ c.2 ≤ 0) (h0 : fX10_settleOrder_b14 fu sh R k14 I l0 l1 = some o) : V K J 137 14 [some (.ref l0), some (.int l1), d2] [] sh I R c F := by
  unfold fX10_settleOrder_b14 at h0
  refine s_il (i := 1) (pc' := 15) (by decide +kernel) rfl ?_
  refine s_rl (i := 0) (pc' := 16) (by decide +kernel) rfl ?_
  refine s_gR (t := 8) (j := 8) (pc' := 19) (by decide +kernel) h0 (fun v3 h1 => ?_); clear h0
  refine s_gI (t := 6) (j := 0) (ty := 0) (pc' := 22) (by decide +kernel) rfl h1 (fun v4 h2 => ?_); clear h1
  refine s_if (ins := .if_icmp .ge 62) (t := 84) (pc' := 25) (by decide +kernel) rfl rfl rfl h2 (fun p3 h3 => ?_) (fun p3 h3 => ?_) <;> clear h2
  · refine s_rl (i := 0) (pc' := 85) (by decide +kernel) rfl ?_
    refine s_gR (t := 8) (j := 10) (pc' := 88) (by decide +kernel) h3 (fun v5 h4 => ?_); clear h3
    refine s_rl (i := 0) (pc' := 89) (by decide +kernel) rfl ?_
    refine s_gR (t := 8) (j := 8) (pc' := 92) (by decide +kernel) h4 (fun v6 h5 => ?_); clear h4
    refine s_gI (t := 6) (j := 0) (ty := 0) (pc' := 95) (by decide +kernel) rfl h5 (fun v7 h6 => ?_); clear h5
    refine kX5_find (X := 0) (Y := 0) (X' := 0) (Y' := 0) (pc' := 98) (by decide +kernel) hc0 rfl h6 (fun w8 c hc1 h7 => ?_); clear h6 hc0
    refine s_rl (i := 0) (pc' := 99) (by decide +kernel) rfl ?_
    refine s_c (v := 1) (pc' := 100) (by decide +kernel) ?_
    refine s_pI (t := 8) (j := 11) (ty := 1) (pc' := 103) (by decide +kernel) (Or.inr ⟨rfl, by decide⟩) h7 (fun v9 h8 => ?_); clear h7
    have e9 := Option.some.inj h8; subst e9
    exact s_rv (X := 0) (Y := 0) (by decide +kernel) hc1 hF
  · refine s_rl (i := 0) (pc' := 26) (by decide +kernel) rfl ?_
    refine s_gR (t := 8) (j := 10) (pc' := 29) (by decide +kernel) h3 (fun v10 h4 => ?_); clear h3
    refine s_il (i := 1) (pc' := 30) (by decide +kernel) rfl ?_
    refine s_rl (i := 0) (pc' := 31) (by decide +kernel) rfl ?_
    refine s_gR (t := 8) (j := 8) (pc' := 34) (by decide +kernel) h4 (fun v11 h5 => ?_); clear h4
    refine s_il (i := 1) (pc' := 35) (by decide +kernel) rfl ?_
    refine kX7_costOfStart (X := 0) (Y := 0) (X' := 0) (Y' := 0) (pc' := 38) (by decide +kernel) hc0 rfl h5 (fun v12 c hc1 h6 => ?_); clear h5 hc0
    refine kX5_setStart (X := 0) (Y := 0) (X' := 0) (Y' := 0) (pc' := 41) (by decide +kernel) hc1 rfl h6 (fun w13 c hc2 h7 => ?_); clear h6 hc1
    refine s_c (v := 0) (pc' := 42) (by decide +kernel) ?_
    refine s_is (i := 2) (pc' := 43) (L' := [some (.ref l0), some (.int l1), some (.int 0)]) (by decide +kernel) rfl rfl ?_
    exact (vX10_settleOrder_l43 hF (vX10_settleOrder_b78 hF hk14) fu) hc2 h7
set_option maxRecDepth 100000 in
set_option maxHeartbeats 4000000 in
def fX10_settleOrder_l14 (fu : Nat) (sh : HS) (R : HR) : Nat → HI → Nat → Int32 → Option HI
  | 0 => fun _ _ _ => none
  | n + 1 => fX10_settleOrder_b14 fu sh R (fX10_settleOrder_l14 fu sh R n)
set_option maxRecDepth 100000 in
set_option maxHeartbeats 4000000 in
theorem vX10_settleOrder_l14 {K J : Nat → Nat} {fu : Nat} {sh : HS} {R : HR} {F : VF} {o : HI} (hF : F (.inl none) sh o R) : ∀ (n : Nat) {I : HI} {l0 : Nat} {l1 : Int32} {d2 : Option Value} {c : Nat × Nat} (_ : c.1 ≤ 0 ∧ c.2 ≤ 0) (_ : fX10_settleOrder_l14 fu sh R n I l0 l1 = some o), V K J 137 14 [some (.ref l0), some (.int l1), d2] [] sh I R c F := by
  intro n
  induction n with
  | zero => exact fun _ h0 => nomatch h0
  | succ n ih => exact fun hc0 h0 => vX10_settleOrder_b14 hF ih hc0 h0
set_option maxRecDepth 100000 in
set_option maxHeartbeats 4000000 in
def fX10_settleOrder (fu : Nat) (sh : HS) (I : HI) (R : HR) (l0 : Nat) : Option HI :=
  if isT sh l0 8 = true then
    ((fX10_settleSetups fu sh I R l0).bind fun w1 =>
    (oI sh w1 l0 8 11).bind fun v2 =>
    if v2 = 0 then
      ((fX10_settleOrder_l14 fu sh R fu) w1 l0 0)
    else
      (some w1))
  else none
set_option maxRecDepth 100000 in
set_option maxHeartbeats 4000000 in
theorem vX10_settleOrder {K J : Nat → Nat} {fu : Nat} {sh : HS} {I : HI} {R : HR} {F : VF} {o : HI} (hF : F (.inl none) sh o R) {l0 : Nat} (h0 : fX10_settleOrder fu sh I R l0 = some o) : V K J 137 0 (ent 3 [.ref l0]) [] sh I R (0, 0) F := by
  unfold fX10_settleOrder at h0
  obtain ⟨-, h1⟩ := gd h0; clear h0
  have hc0 : ((0 : Nat), (0 : Nat)).1 ≤ 0 ∧ ((0 : Nat), (0 : Nat)).2 ≤ 0 := ⟨Nat.le_refl _, Nat.le_refl _⟩
  show V K J 137 0 [some (.ref l0), none, none] [] sh I R (0, 0) F
  refine s_rl (i := 0) (pc' := 1) (by decide +kernel) rfl ?_
  refine kX10_settleSetups (X := 0) (Y := 0) (X' := 0) (Y' := 0) (pc' := 4) (by decide +kernel) hc0 rfl h1 (fun w1 c hc1 h2 => ?_); clear h1 hc0
  refine s_rl (i := 0) (pc' := 5) (by decide +kernel) rfl ?_
  refine s_gI (t := 8) (j := 11) (ty := 1) (pc' := 8) (by decide +kernel) rfl h2 (fun v2 h3 => ?_); clear h2
  refine s_if (ins := .ifCond .eq 4) (t := 12) (pc' := 11) (by decide +kernel) rfl rfl rfl h3 (fun p4 h4 => ?_) (fun p4 h4 => ?_) <;> clear h3
  · refine s_c (v := 0) (pc' := 13) (by decide +kernel) ?_
    refine s_is (i := 1) (pc' := 14) (L' := [some (.ref l0), some (.int 0), none]) (by decide +kernel) rfl rfl ?_
    exact (vX10_settleOrder_l14 hF fu) hc1 h4
  · have e9 := Option.some.inj h4; subst e9
    exact s_rv (X := 0) (Y := 0) (by decide +kernel) hc1 hF
set_option maxRecDepth 100000 in
set_option maxHeartbeats 4000000 in
theorem kX10_settleOrder {K J : Nat → Nat} {fu : Nat} {sh : HS} {I : HI} {R : HR} {F : VF} {mi pc pc' X Y X' Y' : Nat} {L : VL} {rest : List Value} {c : Nat × Nat} {l0 : Nat} {ω : Type} {o : ω} {g : HI → Option ω} (hq : cQ mi pc 137 1 pc' X Y X' Y' = true) (hc : c.1 ≤ X ∧ c.2 ≤ Y) (hr : Nat.ble (catS rest) 8 = true) (h : (fX10_settleOrder fu sh I R l0).bind g = some o) (kk : ∀ w c', (c'.1 ≤ X' ∧ c'.2 ≤ Y') → g w = some o → V K J mi pc' L (rest) sh w R c' F) : V K J mi pc L (.ref l0 :: rest) sh I R c F := by
  obtain ⟨r, h1, h2⟩ := bnd h
  have hT : isT sh l0 8 = true := by unfold fX10_settleOrder at h1; exact (gd h1).1
  have ml : mL 137 = 3 := by decide +kernel
  have mk : mK 137 = 1 := by decide +kernel
  have mc : mC 137 = 8 := by decide +kernel
  refine s_call (as := [.ref l0]) (G := fun o' sh' I' R' => o' = .inl none ∧ sh' = sh ∧ I' = r ∧ R' = R) hq hc rfl hr (by rw [ml]; rfl) (Or.inl rfl) (fun _ => Or.inl ⟨by rw [mc]; decide, by rw [mc]; exact isT_iff.mp hT⟩) (fun z => absurd (mk.symm.trans z) (by decide)) (by rw [ml]; exact vX10_settleOrder (F := fun o' sh' I' R' => o' = .inl none ∧ sh' = sh ∧ I' = r ∧ R' = R) ⟨rfl, rfl, rfl, rfl⟩ h1) ?_ ?_ ?_
  · rintro sh' I' R' c' hc' ⟨g1, rfl, rfl, rfl⟩
    cases g1
    exact kk _ _ hc' h2
  · rintro v' sh' I' R' c' hc' ⟨g1, rfl, rfl, rfl⟩
    cases g1
  · rintro E' sh' I' R' ⟨g1, rfl, rfl, rfl⟩
    cases g1
set_option maxRecDepth 100000 in
set_option maxHeartbeats 4000000 in
def fX10_bestCost (fu : Nat) (sh : HS) (I : HI) (R : HR) (l0 : Nat) : Option ((Int32 ⊕ String) × HI) :=
  if isT sh l0 8 = true then
    (oT0 (fX10_needBoard fu sh I R l0) (fun E => some (.inr E, I)) fun _ =>
    (fX10_settleOrder fu sh I R l0).bind fun w2 =>
    (oR sh R l0 8 10).bind fun v3 =>
    (oI sh w2 v3 4 5).bind fun v4 =>
    some (.inl v4, w2))
  else none
set_option maxRecDepth 100000 in
set_option maxHeartbeats 4000000 in
theorem vX10_bestCost {K J : Nat → Nat} {fu : Nat} {sh : HS} {I : HI} {R : HR} {F : VF} {o : ((Int32 ⊕ String) × HI)} (hF : F (voI o.1) sh o.2 R) {l0 : Nat} (h0 : fX10_bestCost fu sh I R l0 = some o) : V K J 117 0 (ent 1 [.ref l0]) [] sh I R (0, 0) F := by
  unfold fX10_bestCost at h0
  obtain ⟨-, h1⟩ := gd h0; clear h0
  have hc0 : ((0 : Nat), (0 : Nat)).1 ≤ 0 ∧ ((0 : Nat), (0 : Nat)).2 ≤ 0 := ⟨Nat.le_refl _, Nat.le_refl _⟩
  show V K J 117 0 [some (.ref l0)] [] sh I R (0, 0) F
  refine s_rl (i := 0) (pc' := 1) (by decide +kernel) rfl ?_
  refine kX10_needBoard (X := 0) (Y := 0) (X' := 1) (Y' := 6) (pc' := 4) (by decide +kernel) hc0 rfl h1 (fun v1 c hc1 h2 => ?_) (fun E h2 => by have e9 := Option.some.inj h2; subst e9; exact hF); clear h1 hc0
  refine s_rl (i := 0) (pc' := 5) (by decide +kernel) rfl ?_
  refine kX10_settleOrder (X := 1) (Y := 6) (X' := 1) (Y' := 6) (pc' := 8) (by decide +kernel) hc1 rfl h2 (fun w2 c hc2 h3 => ?_); clear h2 hc1
  refine s_rl (i := 0) (pc' := 9) (by decide +kernel) rfl ?_
  refine s_gR (t := 8) (j := 10) (pc' := 12) (by decide +kernel) h3 (fun v3 h4 => ?_); clear h3
  refine s_gI (t := 4) (j := 5) (ty := 0) (pc' := 15) (by decide +kernel) rfl h4 (fun v4 h5 => ?_); clear h4
  have e9 := Option.some.inj h5; subst e9
  exact s_ri (X := 1) (Y := 6) (by decide +kernel) hc2 hF
set_option maxRecDepth 100000 in
set_option maxHeartbeats 4000000 in
theorem kX10_bestCost {K J : Nat → Nat} {fu : Nat} {sh : HS} {I : HI} {R : HR} {F : VF} {mi pc pc' X Y X' Y' : Nat} {L : VL} {rest : List Value} {c : Nat × Nat} {l0 : Nat} {ω : Type} {o : ω} {e : String → HI → Option ω} {g : Int32 → HI → Option ω} (hq : cQ mi pc 117 1 pc' X Y X' Y' = true) (hc : c.1 ≤ X ∧ c.2 ≤ Y) (hr : Nat.ble (catS rest) 8 = true) (h : oTh (fX10_bestCost fu sh I R l0) e g = some o) (kk : ∀ v w c', (c'.1 ≤ X' ∧ c'.2 ≤ Y') → g v w = some o → V K J mi pc' L ((.int v) :: rest) sh w R c' F) (kx : ∀ E w, e E w = some o → F (.inr E) sh w R) : V K J mi pc L (.ref l0 :: rest) sh I R c F := by
  obtain ⟨r, h1, h2⟩ := bnd h
  have hT : isT sh l0 8 = true := by unfold fX10_bestCost at h1; exact (gd h1).1
  have ml : mL 117 = 1 := by decide +kernel
  have mk : mK 117 = 1 := by decide +kernel
  have mc : mC 117 = 8 := by decide +kernel
  obtain ⟨r, w⟩ := r
  rcases r with v | E
  · refine s_call (as := [.ref l0]) (G := fun o' sh' I' R' => o' = .inl (some (.int v)) ∧ sh' = sh ∧ I' = w ∧ R' = R) hq hc rfl hr (by rw [ml]; rfl) (Or.inl rfl) (fun _ => Or.inl ⟨by rw [mc]; decide, by rw [mc]; exact isT_iff.mp hT⟩) (fun z => absurd (mk.symm.trans z) (by decide)) (by rw [ml]; exact vX10_bestCost (F := fun o' sh' I' R' => o' = .inl (some (.int v)) ∧ sh' = sh ∧ I' = w ∧ R' = R) ⟨rfl, rfl, rfl, rfl⟩ h1) ?_ ?_ ?_
    · rintro sh' I' R' c' hc' ⟨g1, rfl, rfl, rfl⟩
      cases g1
    · rintro v' sh' I' R' c' hc' ⟨g1, rfl, rfl, rfl⟩
      cases g1
      exact kk _ _ _ hc' h2
    · rintro E' sh' I' R' ⟨g1, rfl, rfl, rfl⟩
      cases g1
  · refine s_call (as := [.ref l0]) (G := fun o' sh' I' R' => o' = .inr E ∧ sh' = sh ∧ I' = w ∧ R' = R) hq hc rfl hr (by rw [ml]; rfl) (Or.inl rfl) (fun _ => Or.inl ⟨by rw [mc]; decide, by rw [mc]; exact isT_iff.mp hT⟩) (fun z => absurd (mk.symm.trans z) (by decide)) (by rw [ml]; exact vX10_bestCost (F := fun o' sh' I' R' => o' = .inr E ∧ sh' = sh ∧ I' = w ∧ R' = R) ⟨rfl, rfl, rfl, rfl⟩ h1) ?_ ?_ ?_
    · rintro sh' I' R' c' hc' ⟨g1, rfl, rfl, rfl⟩
      cases g1
    · rintro v' sh' I' R' c' hc' ⟨g1, rfl, rfl, rfl⟩
      cases g1
    · rintro E' sh' I' R' ⟨g1, rfl, rfl, rfl⟩
      cases g1
      exact kx _ _ h2
set_option maxRecDepth 100000 in
set_option maxHeartbeats 4000000 in
def fX10_ordered (fu : Nat) (sh : HS) (I : HI) (R : HR) (l0 : Nat) (l1 : Int32) : Option ((Int32 ⊕ String) × HI) :=
  if isT sh l0 8 = true then
    (oT0 (fX10_needBoard fu sh I R l0) (fun E => some (.inr E, I)) fun _ =>
    if 0 ≤ l1 then
      ((fX10_settleOrder fu sh I R l0).bind fun w2 =>
      (oR sh R l0 8 8).bind fun v3 =>
      (oI sh w2 v3 6 0).bind fun v4 =>
      if l1 < v4 then
        ((oR sh R l0 8 10).bind fun v5 =>
        (oR sh R v5 4 4).bind fun v6 =>
        (oA sh w2 v6 l1).bind fun v7 =>
        some (.inl v7, w2))
      else
        (some (.inr "java/util/NoSuchElementException", w2)))
    else
      (some (.inr "java/lang/IllegalArgumentException", I)))
  else none
set_option maxRecDepth 100000 in
set_option maxHeartbeats 4000000 in
theorem vX10_ordered {K J : Nat → Nat} {fu : Nat} {sh : HS} {I : HI} {R : HR} {F : VF} {o : ((Int32 ⊕ String) × HI)} (hF : F (voI o.1) sh o.2 R) {l0 : Nat} {l1 : Int32} (h0 : fX10_ordered fu sh I R l0 l1 = some o) : V K J 118 0 (ent 2 [.ref l0, .int l1]) [] sh I R (0, 0) F := by
  unfold fX10_ordered at h0
  obtain ⟨-, h1⟩ := gd h0; clear h0
  have hc0 : ((0 : Nat), (0 : Nat)).1 ≤ 0 ∧ ((0 : Nat), (0 : Nat)).2 ≤ 0 := ⟨Nat.le_refl _, Nat.le_refl _⟩
  show V K J 118 0 [some (.ref l0), some (.int l1)] [] sh I R (0, 0) F
  refine s_rl (i := 0) (pc' := 1) (by decide +kernel) rfl ?_
  refine kX10_needBoard (X := 0) (Y := 0) (X' := 1) (Y' := 6) (pc' := 4) (by decide +kernel) hc0 rfl h1 (fun v1 c hc1 h2 => ?_) (fun E h2 => by have e9 := Option.some.inj h2; subst e9; exact hF); clear h1 hc0
  refine s_il (i := 1) (pc' := 5) (by decide +kernel) rfl ?_
  refine s_if (ins := .ifCond .ge 14) (t := 19) (pc' := 8) (by decide +kernel) rfl rfl rfl h2 (fun p3 h3 => ?_) (fun p3 h3 => ?_) <;> clear h2
  · refine s_rl (i := 0) (pc' := 20) (by decide +kernel) rfl ?_
    refine kX10_settleOrder (X := 1) (Y := 6) (X' := 1) (Y' := 6) (pc' := 23) (by decide +kernel) hc1 rfl h3 (fun w2 c hc2 h4 => ?_); clear h3 hc1
    refine s_il (i := 1) (pc' := 24) (by decide +kernel) rfl ?_
    refine s_rl (i := 0) (pc' := 25) (by decide +kernel) rfl ?_
    refine s_gR (t := 8) (j := 8) (pc' := 28) (by decide +kernel) h4 (fun v3 h5 => ?_); clear h4
    refine s_gI (t := 6) (j := 0) (ty := 0) (pc' := 31) (by decide +kernel) rfl h5 (fun v4 h6 => ?_); clear h5
    refine s_if (ins := .if_icmp .lt 14) (t := 45) (pc' := 34) (by decide +kernel) rfl rfl rfl h6 (fun p7 h7 => ?_) (fun p7 h7 => ?_) <;> clear h6
    · refine s_rl (i := 0) (pc' := 46) (by decide +kernel) rfl ?_
      refine s_gR (t := 8) (j := 10) (pc' := 49) (by decide +kernel) h7 (fun v5 h8 => ?_); clear h7
      refine s_gR (t := 4) (j := 4) (pc' := 52) (by decide +kernel) h8 (fun v6 h9 => ?_); clear h8
      refine s_il (i := 1) (pc' := 53) (by decide +kernel) rfl ?_
      refine s_al (pc' := 54) (by decide +kernel) h9 (fun v7 h10 => ?_); clear h9
      have e9 := Option.some.inj h10; subst e9
      exact s_ri (X := 1) (Y := 6) (by decide +kernel) hc2 hF
    · have e9 := Option.some.inj h7; subst e9
      exact s_th (E := "java/util/NoSuchElementException") (X := 1) (Y := 6) (by decide +kernel) hc2 rfl hF
  · have e9 := Option.some.inj h3; subst e9
    exact s_th (E := "java/lang/IllegalArgumentException") (X := 1) (Y := 6) (by decide +kernel) hc1 rfl hF
set_option maxRecDepth 100000 in
set_option maxHeartbeats 4000000 in
theorem kX10_ordered {K J : Nat → Nat} {fu : Nat} {sh : HS} {I : HI} {R : HR} {F : VF} {mi pc pc' X Y X' Y' : Nat} {L : VL} {rest : List Value} {c : Nat × Nat} {l0 : Nat} {l1 : Int32} {ω : Type} {o : ω} {e : String → HI → Option ω} {g : Int32 → HI → Option ω} (hq : cQ mi pc 118 2 pc' X Y X' Y' = true) (hc : c.1 ≤ X ∧ c.2 ≤ Y) (hr : Nat.ble (catS rest) 8 = true) (h : oTh (fX10_ordered fu sh I R l0 l1) e g = some o) (kk : ∀ v w c', (c'.1 ≤ X' ∧ c'.2 ≤ Y') → g v w = some o → V K J mi pc' L ((.int v) :: rest) sh w R c' F) (kx : ∀ E w, e E w = some o → F (.inr E) sh w R) : V K J mi pc L (.int l1 :: .ref l0 :: rest) sh I R c F := by
  obtain ⟨r, h1, h2⟩ := bnd h
  have hT : isT sh l0 8 = true := by unfold fX10_ordered at h1; exact (gd h1).1
  have ml : mL 118 = 2 := by decide +kernel
  have mk : mK 118 = 1 := by decide +kernel
  have mc : mC 118 = 8 := by decide +kernel
  obtain ⟨r, w⟩ := r
  rcases r with v | E
  · refine s_call (as := [.int l1, .ref l0]) (G := fun o' sh' I' R' => o' = .inl (some (.int v)) ∧ sh' = sh ∧ I' = w ∧ R' = R) hq hc rfl hr (by rw [ml]; rfl) (Or.inl rfl) (fun _ => Or.inl ⟨by rw [mc]; decide, by rw [mc]; exact isT_iff.mp hT⟩) (fun z => absurd (mk.symm.trans z) (by decide)) (by rw [ml]; exact vX10_ordered (F := fun o' sh' I' R' => o' = .inl (some (.int v)) ∧ sh' = sh ∧ I' = w ∧ R' = R) ⟨rfl, rfl, rfl, rfl⟩ h1) ?_ ?_ ?_
    · rintro sh' I' R' c' hc' ⟨g1, rfl, rfl, rfl⟩
      cases g1
    · rintro v' sh' I' R' c' hc' ⟨g1, rfl, rfl, rfl⟩
      cases g1
      exact kk _ _ _ hc' h2
    · rintro E' sh' I' R' ⟨g1, rfl, rfl, rfl⟩
      cases g1
  · refine s_call (as := [.int l1, .ref l0]) (G := fun o' sh' I' R' => o' = .inr E ∧ sh' = sh ∧ I' = w ∧ R' = R) hq hc rfl hr (by rw [ml]; rfl) (Or.inl rfl) (fun _ => Or.inl ⟨by rw [mc]; decide, by rw [mc]; exact isT_iff.mp hT⟩) (fun z => absurd (mk.symm.trans z) (by decide)) (by rw [ml]; exact vX10_ordered (F := fun o' sh' I' R' => o' = .inr E ∧ sh' = sh ∧ I' = w ∧ R' = R) ⟨rfl, rfl, rfl, rfl⟩ h1) ?_ ?_ ?_
    · rintro sh' I' R' c' hc' ⟨g1, rfl, rfl, rfl⟩
      cases g1
    · rintro v' sh' I' R' c' hc' ⟨g1, rfl, rfl, rfl⟩
      cases g1
    · rintro E' sh' I' R' ⟨g1, rfl, rfl, rfl⟩
      cases g1
      exact kx _ _ h2
set_option maxRecDepth 100000 in
set_option maxHeartbeats 4000000 in
def fX10_days_b81 (fu : Nat) (sh : HS) (R : HR) (k23 : HI → Nat → Int32 → Int32 → Int32 → Int32 → Option ((Int32 ⊕ String) × HI)) (I : HI) (l0 : Nat) (l1 : Int32) (l2 : Int32) (l3 : Int32) (l4 : Int32) (l5 : Int32) : Option ((Int32 ⊕ String) × HI) :=
  k23 I l0 l1 l2 (l3 + l5) (l4 + 1)
set_option maxRecDepth 100000 in
set_option maxHeartbeats 4000000 in
theorem vX10_days_b81 {K J : Nat → Nat} {fu : Nat} {sh : HS} {R : HR} {F : VF} {o : ((Int32 ⊕ String) × HI)} (hF : F (voI o.1) sh o.2 R) {k23 : HI → Nat → Int32 → Int32 → Int32 → Int32 → Option ((Int32 ⊕ String) × HI)} (hk23 : ∀ {I : HI} {l0 : Nat} {l1 : Int32} {l2 : Int32} {l3 : Int32} {l4 : Int32} {d5 : Option Value} {c : Nat × Nat}, (c.1 ≤ 2 ∧ c.2 ≤ 12) → k23 I l0 l1 l2 l3 l4 = some o → V K J 119 23 [some (.ref l0), some (.int l1), some (.int l2), some (.int l3), some (.int l4), d5] [] sh I R c F) {I : HI} {l0 : Nat} {l1 : Int32} {l2 : Int32} {l3 : Int32} {l4 : Int32} {l5 : Int32} {c : Nat × Nat} (hc0 : c.1 ≤ 2 ∧ c.2 ≤ 12) (h0 : fX10_days_b81 fu sh R k23 I l0 l1 l2 l3 l4 l5 = some o) : V K J 119 81 [some (.ref l0), some (.int l1), some (.int l2), some (.int l3), some (.int l4), some (.int l5)] [] sh I R c F := by
  unfold fX10_days_b81 at h0
  refine s_il (i := 3) (pc' := 82) (by decide +kernel) rfl ?_
  refine s_il (i := 5) (pc' := 84) (by decide +kernel) rfl ?_
  refine s_a (ins := .iadd) (pc' := 85) (by decide +kernel) rfl ?_
  refine s_is (i := 3) (pc' := 86) (L' := [some (.ref l0), some (.int l1), some (.int l2), some (.int (l3 + l5)), some (.int l4), some (.int l5)]) (by decide +kernel) rfl rfl ?_
  refine s_inc (i := 4) (z := 1) (pc' := 89) (L' := [some (.ref l0), some (.int l1), some (.int l2), some (.int (l3 + l5)), some (.int (l4 + 1)), some (.int l5)]) (by decide +kernel) rfl rfl rfl ?_
  refine s_go (t := 23) (by decide +kernel) ?_
  exact hk23 hc0 h0
set_option maxRecDepth 100000 in
set_option maxHeartbeats 4000000 in
def fX10_days_b76 (fu : Nat) (sh : HS) (R : HR) (k23 : HI → Nat → Int32 → Int32 → Int32 → Int32 → Option ((Int32 ⊕ String) × HI)) (I : HI) (l0 : Nat) (l1 : Int32) (l2 : Int32) (l4 : Int32) (l5 : Int32) : Option ((Int32 ⊕ String) × HI) :=
  (fX10_days_b81 fu sh R k23) I l0 l1 (l2 + 1) 0 l4 l5
set_option maxRecDepth 100000 in
set_option maxHeartbeats 4000000 in
theorem vX10_days_b76 {K J : Nat → Nat} {fu : Nat} {sh : HS} {R : HR} {F : VF} {o : ((Int32 ⊕ String) × HI)} (hF : F (voI o.1) sh o.2 R) {k23 : HI → Nat → Int32 → Int32 → Int32 → Int32 → Option ((Int32 ⊕ String) × HI)} (hk23 : ∀ {I : HI} {l0 : Nat} {l1 : Int32} {l2 : Int32} {l3 : Int32} {l4 : Int32} {d5 : Option Value} {c : Nat × Nat}, (c.1 ≤ 2 ∧ c.2 ≤ 12) → k23 I l0 l1 l2 l3 l4 = some o → V K J 119 23 [some (.ref l0), some (.int l1), some (.int l2), some (.int l3), some (.int l4), d5] [] sh I R c F) {I : HI} {l0 : Nat} {l1 : Int32} {l2 : Int32} {l4 : Int32} {l5 : Int32} {d3 : Option Value} {c : Nat × Nat} (hc0 : c.1 ≤ 2 ∧ c.2 ≤ 12) (h0 : fX10_days_b76 fu sh R k23 I l0 l1 l2 l4 l5 = some o) : V K J 119 76 [some (.ref l0), some (.int l1), some (.int l2), d3, some (.int l4), some (.int l5)] [] sh I R c F := by
  unfold fX10_days_b76 at h0
  refine s_inc (i := 2) (z := 1) (pc' := 79) (L' := [some (.ref l0), some (.int l1), some (.int (l2 + 1)), d3, some (.int l4), some (.int l5)]) (by decide +kernel) rfl rfl rfl ?_
  refine s_c (v := 0) (pc' := 80) (by decide +kernel) ?_
  refine s_is (i := 3) (pc' := 81) (L' := [some (.ref l0), some (.int l1), some (.int (l2 + 1)), some (.int 0), some (.int l4), some (.int l5)]) (by decide +kernel) rfl rfl ?_
  exact (vX10_days_b81 hF hk23) hc0 h0
set_option maxRecDepth 100000 in
set_option maxHeartbeats 4000000 in
def fX10_days_b23 (fu : Nat) (sh : HS) (R : HR) (k23 : HI → Nat → Int32 → Int32 → Int32 → Int32 → Option ((Int32 ⊕ String) × HI)) (I : HI) (l0 : Nat) (l1 : Int32) (l2 : Int32) (l3 : Int32) (l4 : Int32) : Option ((Int32 ⊕ String) × HI) :=
  (oR sh R l0 8 8).bind fun v4 =>
  (oI sh I v4 6 0).bind fun v5 =>
  if v5 ≤ l4 then
    (some (.inl l2, I))
  else
    ((oR sh R l0 8 8).bind fun v6 =>
    (oR sh R v6 6 5).bind fun v7 =>
    (oR sh R l0 8 10).bind fun v8 =>
    (oR sh R v8 4 4).bind fun v9 =>
    (oA sh I v9 l4).bind fun v10 =>
    (oA sh I v7 v10).bind fun v11 =>
    if v11 ≤ l1 then
      (if l2 = 0 then
        ((fX10_days_b76 fu sh R k23) I l0 l1 l2 l4 v11)
      else
        (if (l3 + v11) ≤ l1 then
          ((fX10_days_b81 fu sh R k23) I l0 l1 l2 l3 l4 v11)
        else
          ((fX10_days_b76 fu sh R k23) I l0 l1 l2 l4 v11)))
    else
      (some (.inl (-2), I)))
set_option maxRecDepth 100000 in
set_option maxHeartbeats 4000000 in
theorem vX10_days_b23 {K J : Nat → Nat} {fu : Nat} {sh : HS} {R : HR} {F : VF} {o : ((Int32 ⊕ String) × HI)} (hF : F (voI o.1) sh o.2 R) {k23 : HI → Nat → Int32 → Int32 → Int32 → Int32 → Option ((Int32 ⊕ String) × HI)} (hk23 : ∀ {I : HI} {l0 : Nat} {l1 : Int32} {l2 : Int32} {l3 : Int32} {l4 : Int32} {d5 : Option Value} {c : Nat × Nat}, (c.1 ≤ 2 ∧ c.2 ≤ 12) → k23 I l0 l1 l2 l3 l4 = some o → V K J 119 23 [some (.ref l0), some (.int l1), some (.int l2), some (.int l3), some (.int l4), d5] [] sh I R c F) {I : HI} {l0 : Nat} {l1 : Int32} {l2 : Int32} {l3 : Int32} {l4 : Int32} {d5 : Option Value} {c : Nat × Nat} (hc0 : c.1 ≤ 2 ∧ c.2 ≤ 12) (h0 : fX10_days_b23 fu sh R k23 I l0 l1 l2 l3 l4 = some o) : V K J 119 23 [some (.ref l0), some (.int l1), some (.int l2), some (.int l3), some (.int l4), d5] [] sh I R c F := by
  unfold fX10_days_b23 at h0
  refine s_il (i := 4) (pc' := 25) (by decide +kernel) rfl ?_
  refine s_rl (i := 0) (pc' := 26) (by decide +kernel) rfl ?_
  refine s_gR (t := 8) (j := 8) (pc' := 29) (by decide +kernel) h0 (fun v4 h1 => ?_); clear h0
  refine s_gI (t := 6) (j := 0) (ty := 0) (pc' := 32) (by decide +kernel) rfl h1 (fun v5 h2 => ?_); clear h1
  refine s_if (ins := .if_icmp .ge 60) (t := 92) (pc' := 35) (by decide +kernel) rfl rfl rfl h2 (fun p3 h3 => ?_) (fun p3 h3 => ?_) <;> clear h2
  · refine s_il (i := 2) (pc' := 93) (by decide +kernel) rfl ?_
    have e9 := Option.some.inj h3; subst e9
    exact s_ri (X := 2) (Y := 12) (by decide +kernel) hc0 hF
  · refine s_rl (i := 0) (pc' := 36) (by decide +kernel) rfl ?_
    refine s_gR (t := 8) (j := 8) (pc' := 39) (by decide +kernel) h3 (fun v6 h4 => ?_); clear h3
    refine s_gR (t := 6) (j := 5) (pc' := 42) (by decide +kernel) h4 (fun v7 h5 => ?_); clear h4
    refine s_rl (i := 0) (pc' := 43) (by decide +kernel) rfl ?_
    refine s_gR (t := 8) (j := 10) (pc' := 46) (by decide +kernel) h5 (fun v8 h6 => ?_); clear h5
    refine s_gR (t := 4) (j := 4) (pc' := 49) (by decide +kernel) h6 (fun v9 h7 => ?_); clear h6
    refine s_il (i := 4) (pc' := 51) (by decide +kernel) rfl ?_
    refine s_al (pc' := 52) (by decide +kernel) h7 (fun v10 h8 => ?_); clear h7
    refine s_al (pc' := 53) (by decide +kernel) h8 (fun v11 h9 => ?_); clear h8
    refine s_is (i := 5) (pc' := 55) (L' := [some (.ref l0), some (.int l1), some (.int l2), some (.int l3), some (.int l4), some (.int v11)]) (by decide +kernel) rfl rfl ?_
    refine s_il (i := 5) (pc' := 57) (by decide +kernel) rfl ?_
    refine s_il (i := 1) (pc' := 58) (by decide +kernel) rfl ?_
    refine s_if (ins := .if_icmp .le 6) (t := 64) (pc' := 61) (by decide +kernel) rfl rfl rfl h9 (fun p10 h10 => ?_) (fun p10 h10 => ?_) <;> clear h9
    · refine s_il (i := 2) (pc' := 65) (by decide +kernel) rfl ?_
      refine s_if (ins := .ifCond .eq 11) (t := 76) (pc' := 68) (by decide +kernel) rfl rfl rfl h10 (fun p11 h11 => ?_) (fun p11 h11 => ?_) <;> clear h10
      · exact (vX10_days_b76 hF hk23) hc0 h11
      · refine s_il (i := 3) (pc' := 69) (by decide +kernel) rfl ?_
        refine s_il (i := 5) (pc' := 71) (by decide +kernel) rfl ?_
        refine s_a (ins := .iadd) (pc' := 72) (by decide +kernel) rfl ?_
        refine s_il (i := 1) (pc' := 73) (by decide +kernel) rfl ?_
        refine s_if (ins := .if_icmp .le 8) (t := 81) (pc' := 76) (by decide +kernel) rfl rfl rfl h11 (fun p12 h12 => ?_) (fun p12 h12 => ?_) <;> clear h11
        · exact (vX10_days_b81 hF hk23) hc0 h12
        · exact (vX10_days_b76 hF hk23) hc0 h12
    · refine s_c (v := (-2)) (pc' := 63) (by decide +kernel) ?_
      have e9 := Option.some.inj h10; subst e9
      exact s_ri (X := 2) (Y := 12) (by decide +kernel) hc0 hF
set_option maxRecDepth 100000 in
set_option maxHeartbeats 4000000 in
def fX10_days_l23 (fu : Nat) (sh : HS) (R : HR) : Nat → HI → Nat → Int32 → Int32 → Int32 → Int32 → Option ((Int32 ⊕ String) × HI)
  | 0 => fun _ _ _ _ _ _ => none
  | n + 1 => fX10_days_b23 fu sh R (fX10_days_l23 fu sh R n)
set_option maxRecDepth 100000 in
set_option maxHeartbeats 4000000 in
theorem vX10_days_l23 {K J : Nat → Nat} {fu : Nat} {sh : HS} {R : HR} {F : VF} {o : ((Int32 ⊕ String) × HI)} (hF : F (voI o.1) sh o.2 R) : ∀ (n : Nat) {I : HI} {l0 : Nat} {l1 : Int32} {l2 : Int32} {l3 : Int32} {l4 : Int32} {d5 : Option Value} {c : Nat × Nat} (_ : c.1 ≤ 2 ∧ c.2 ≤ 12) (_ : fX10_days_l23 fu sh R n I l0 l1 l2 l3 l4 = some o), V K J 119 23 [some (.ref l0), some (.int l1), some (.int l2), some (.int l3), some (.int l4), d5] [] sh I R c F := by
  intro n
  induction n with
  | zero => exact fun _ h0 => nomatch h0
  | succ n ih => exact fun hc0 h0 => vX10_days_b23 hF ih hc0 h0
set_option maxRecDepth 100000 in
set_option maxHeartbeats 4000000 in
def fX10_days (fu : Nat) (sh : HS) (I : HI) (R : HR) (l0 : Nat) (l1 : Int32) : Option ((Int32 ⊕ String) × HI) :=
  if isT sh l0 8 = true then
    (oT0 (fX10_needBoard fu sh I R l0) (fun E => some (.inr E, I)) fun _ =>
    oT0 (fX10_needRange fu sh I R l1 1 9999) (fun E => some (.inr E, I)) fun _ =>
    (fX10_settleOrder fu sh I R l0).bind fun w3 =>
    (fX10_days_l23 fu sh R fu) w3 l0 l1 0 0 0)
  else none
set_option maxRecDepth 100000 in
set_option maxHeartbeats 4000000 in
theorem vX10_days {K J : Nat → Nat} {fu : Nat} {sh : HS} {I : HI} {R : HR} {F : VF} {o : ((Int32 ⊕ String) × HI)} (hF : F (voI o.1) sh o.2 R) {l0 : Nat} {l1 : Int32} (h0 : fX10_days fu sh I R l0 l1 = some o) : V K J 119 0 (ent 6 [.ref l0, .int l1]) [] sh I R (0, 0) F := by
  unfold fX10_days at h0
  obtain ⟨-, h1⟩ := gd h0; clear h0
  have hc0 : ((0 : Nat), (0 : Nat)).1 ≤ 0 ∧ ((0 : Nat), (0 : Nat)).2 ≤ 0 := ⟨Nat.le_refl _, Nat.le_refl _⟩
  show V K J 119 0 [some (.ref l0), some (.int l1), none, none, none, none] [] sh I R (0, 0) F
  refine s_rl (i := 0) (pc' := 1) (by decide +kernel) rfl ?_
  refine kX10_needBoard (X := 0) (Y := 0) (X' := 1) (Y' := 6) (pc' := 4) (by decide +kernel) hc0 rfl h1 (fun v1 c hc1 h2 => ?_) (fun E h2 => by have e9 := Option.some.inj h2; subst e9; exact hF); clear h1 hc0
  refine s_il (i := 1) (pc' := 5) (by decide +kernel) rfl ?_
  refine s_c (v := 1) (pc' := 6) (by decide +kernel) ?_
  refine s_c (v := 9999) (pc' := 9) (by decide +kernel) ?_
  refine kX10_needRange (X := 1) (Y := 6) (X' := 2) (Y' := 12) (pc' := 12) (by decide +kernel) hc1 rfl h2 (fun v2 c hc2 h3 => ?_) (fun E h3 => by have e9 := Option.some.inj h3; subst e9; exact hF); clear h2 hc1
  refine s_rl (i := 0) (pc' := 13) (by decide +kernel) rfl ?_
  refine kX10_settleOrder (X := 2) (Y := 12) (X' := 2) (Y' := 12) (pc' := 16) (by decide +kernel) hc2 rfl h3 (fun w3 c hc3 h4 => ?_); clear h3 hc2
  refine s_c (v := 0) (pc' := 17) (by decide +kernel) ?_
  refine s_is (i := 2) (pc' := 18) (L' := [some (.ref l0), some (.int l1), some (.int 0), none, none, none]) (by decide +kernel) rfl rfl ?_
  refine s_c (v := 0) (pc' := 19) (by decide +kernel) ?_
  refine s_is (i := 3) (pc' := 20) (L' := [some (.ref l0), some (.int l1), some (.int 0), some (.int 0), none, none]) (by decide +kernel) rfl rfl ?_
  refine s_c (v := 0) (pc' := 21) (by decide +kernel) ?_
  refine s_is (i := 4) (pc' := 23) (L' := [some (.ref l0), some (.int l1), some (.int 0), some (.int 0), some (.int 0), none]) (by decide +kernel) rfl rfl ?_
  exact (vX10_days_l23 hF fu) hc3 h4
set_option maxRecDepth 100000 in
set_option maxHeartbeats 4000000 in
theorem kX10_days {K J : Nat → Nat} {fu : Nat} {sh : HS} {I : HI} {R : HR} {F : VF} {mi pc pc' X Y X' Y' : Nat} {L : VL} {rest : List Value} {c : Nat × Nat} {l0 : Nat} {l1 : Int32} {ω : Type} {o : ω} {e : String → HI → Option ω} {g : Int32 → HI → Option ω} (hq : cQ mi pc 119 2 pc' X Y X' Y' = true) (hc : c.1 ≤ X ∧ c.2 ≤ Y) (hr : Nat.ble (catS rest) 8 = true) (h : oTh (fX10_days fu sh I R l0 l1) e g = some o) (kk : ∀ v w c', (c'.1 ≤ X' ∧ c'.2 ≤ Y') → g v w = some o → V K J mi pc' L ((.int v) :: rest) sh w R c' F) (kx : ∀ E w, e E w = some o → F (.inr E) sh w R) : V K J mi pc L (.int l1 :: .ref l0 :: rest) sh I R c F := by
  obtain ⟨r, h1, h2⟩ := bnd h
  have hT : isT sh l0 8 = true := by unfold fX10_days at h1; exact (gd h1).1
  have ml : mL 119 = 6 := by decide +kernel
  have mk : mK 119 = 1 := by decide +kernel
  have mc : mC 119 = 8 := by decide +kernel
  obtain ⟨r, w⟩ := r
  rcases r with v | E
  · refine s_call (as := [.int l1, .ref l0]) (G := fun o' sh' I' R' => o' = .inl (some (.int v)) ∧ sh' = sh ∧ I' = w ∧ R' = R) hq hc rfl hr (by rw [ml]; rfl) (Or.inl rfl) (fun _ => Or.inl ⟨by rw [mc]; decide, by rw [mc]; exact isT_iff.mp hT⟩) (fun z => absurd (mk.symm.trans z) (by decide)) (by rw [ml]; exact vX10_days (F := fun o' sh' I' R' => o' = .inl (some (.int v)) ∧ sh' = sh ∧ I' = w ∧ R' = R) ⟨rfl, rfl, rfl, rfl⟩ h1) ?_ ?_ ?_
    · rintro sh' I' R' c' hc' ⟨g1, rfl, rfl, rfl⟩
      cases g1
    · rintro v' sh' I' R' c' hc' ⟨g1, rfl, rfl, rfl⟩
      cases g1
      exact kk _ _ _ hc' h2
    · rintro E' sh' I' R' ⟨g1, rfl, rfl, rfl⟩
      cases g1
  · refine s_call (as := [.int l1, .ref l0]) (G := fun o' sh' I' R' => o' = .inr E ∧ sh' = sh ∧ I' = w ∧ R' = R) hq hc rfl hr (by rw [ml]; rfl) (Or.inl rfl) (fun _ => Or.inl ⟨by rw [mc]; decide, by rw [mc]; exact isT_iff.mp hT⟩) (fun z => absurd (mk.symm.trans z) (by decide)) (by rw [ml]; exact vX10_days (F := fun o' sh' I' R' => o' = .inr E ∧ sh' = sh ∧ I' = w ∧ R' = R) ⟨rfl, rfl, rfl, rfl⟩ h1) ?_ ?_ ?_
    · rintro sh' I' R' c' hc' ⟨g1, rfl, rfl, rfl⟩
      cases g1
    · rintro v' sh' I' R' c' hc' ⟨g1, rfl, rfl, rfl⟩
      cases g1
    · rintro E' sh' I' R' ⟨g1, rfl, rfl, rfl⟩
      cases g1
      exact kx _ _ h2
set_option maxRecDepth 100000 in
set_option maxHeartbeats 4000000 in
def fX10_stay_b119 (fu : Nat) (sh : HS) (R : HR) (k24 : HI → Nat → Int32 → Int32 → Int32 → Int32 → Int32 → Option ((UInt64 ⊕ String) × HI)) (k125 : HI → Int32 → Int32 → Option ((UInt64 ⊕ String) × HI)) (I : HI) (l0 : Nat) (l1 : Int32) (l2 : Int32) (l3 : Int32) (l4 : Int32) (l5 : Int32) : Option ((UInt64 ⊕ String) × HI) :=
  k24 I l0 l1 l2 l3 l4 (l5 + 1)
set_option maxRecDepth 100000 in
set_option maxHeartbeats 4000000 in
theorem vX10_stay_b119 {K J : Nat → Nat} {fu : Nat} {sh : HS} {R : HR} {F : VF} {o : ((UInt64 ⊕ String) × HI)} (hF : F (voD o.1) sh o.2 R) {k24 : HI → Nat → Int32 → Int32 → Int32 → Int32 → Int32 → Option ((UInt64 ⊕ String) × HI)} {k125 : HI → Int32 → Int32 → Option ((UInt64 ⊕ String) × HI)} (hk24 : ∀ {I : HI} {l0 : Nat} {l1 : Int32} {l2 : Int32} {l3 : Int32} {l4 : Int32} {l5 : Int32} {d6 : Option Value} {c : Nat × Nat}, (c.1 ≤ 2 ∧ c.2 ≤ 12) → k24 I l0 l1 l2 l3 l4 l5 = some o → V K J 120 24 [some (.ref l0), some (.int l1), some (.int l2), some (.int l3), some (.int l4), some (.int l5), d6] [] sh I R c F) (hk125 : ∀ {I : HI} {l2 : Int32} {l3 : Int32} {d0 d1 d4 d5 d6 : Option Value} {c : Nat × Nat}, (c.1 ≤ 2 ∧ c.2 ≤ 12) → k125 I l2 l3 = some o → V K J 120 125 [d0, d1, some (.int l2), some (.int l3), d4, d5, d6] [] sh I R c F) {I : HI} {l0 : Nat} {l1 : Int32} {l2 : Int32} {l3 : Int32} {l4 : Int32} {l5 : Int32} {d6 : Option Value} {c : Nat × Nat} (hc0 : c.1 ≤ 2 ∧ c.2 ≤ 12) (h0 : fX10_stay_b119 fu sh R k24 k125 I l0 l1 l2 l3 l4 l5 = some o) : V K J 120 119 [some (.ref l0), some (.int l1), some (.int l2), some (.int l3), some (.int l4), some (.int l5), d6] [] sh I R c F := by
  unfold fX10_stay_b119 at h0
  refine s_inc (i := 5) (z := 1) (pc' := 122) (L' := [some (.ref l0), some (.int l1), some (.int l2), some (.int l3), some (.int l4), some (.int (l5 + 1)), d6]) (by decide +kernel) rfl rfl rfl ?_
  refine s_go (t := 24) (by decide +kernel) ?_
  exact hk24 hc0 h0
set_option maxRecDepth 100000 in
set_option maxHeartbeats 4000000 in
def fX10_stay_b24 (fu : Nat) (sh : HS) (R : HR) (k24 : HI → Nat → Int32 → Int32 → Int32 → Int32 → Int32 → Option ((UInt64 ⊕ String) × HI)) (k125 : HI → Int32 → Int32 → Option ((UInt64 ⊕ String) × HI)) (I : HI) (l0 : Nat) (l1 : Int32) (l2 : Int32) (l3 : Int32) (l4 : Int32) (l5 : Int32) : Option ((UInt64 ⊕ String) × HI) :=
  (oR sh R l0 8 8).bind fun v4 =>
  (oI sh I v4 6 0).bind fun v5 =>
  if v5 ≤ l5 then
    (k125 I l2 l3)
  else
    ((oR sh R l0 8 10).bind fun v6 =>
    (oR sh R v6 4 4).bind fun v7 =>
    (oA sh I v7 l5).bind fun v8 =>
    (oR sh R l0 8 8).bind fun v9 =>
    (oR sh R v9 6 4).bind fun v10 =>
    (oA sh I v10 v8).bind fun v11 =>
    (fX10_holds fu sh I R v11 l1).bind fun v12 =>
    if v12 = 0 then
      (if l2 ≤ 0 then
        ((fX10_stay_b119 fu sh R k24 k125) I l0 l1 l2 l3 l4 l5)
      else
        ((oR sh R l0 8 8).bind fun v13 =>
        (oR sh R v13 6 5).bind fun v14 =>
        (oA sh I v14 v8).bind fun v15 =>
        (fX10_stay_b119 fu sh R k24 k125) I l0 l1 l2 l3 (l4 + v15) l5))
    else
      ((oR sh R l0 8 8).bind fun v16 =>
      (oR sh R v16 6 5).bind fun v17 =>
      (oA sh I v17 v8).bind fun v18 =>
      (oR sh R l0 8 8).bind fun v19 =>
      (oR sh R v19 6 5).bind fun v20 =>
      (oA sh I v20 v8).bind fun v21 =>
      (fX10_stay_b119 fu sh R k24 k125) I l0 l1 (l2 + v18) (l3 + (l4 + v21)) 0 l5))
set_option maxRecDepth 100000 in
set_option maxHeartbeats 4000000 in
theorem vX10_stay_b24 {K J : Nat → Nat} {fu : Nat} {sh : HS} {R : HR} {F : VF} {o : ((UInt64 ⊕ String) × HI)} (hF : F (voD o.1) sh o.2 R) {k24 : HI → Nat → Int32 → Int32 → Int32 → Int32 → Int32 → Option ((UInt64 ⊕ String) × HI)} {k125 : HI → Int32 → Int32 → Option ((UInt64 ⊕ String) × HI)} (hk24 : ∀ {I : HI} {l0 : Nat} {l1 : Int32} {l2 : Int32} {l3 : Int32} {l4 : Int32} {l5 : Int32} {d6 : Option Value} {c : Nat × Nat}, (c.1 ≤ 2 ∧ c.2 ≤ 12) → k24 I l0 l1 l2 l3 l4 l5 = some o → V K J 120 24 [some (.ref l0), some (.int l1), some (.int l2), some (.int l3), some (.int l4), some (.int l5), d6] [] sh I R c F) (hk125 : ∀ {I : HI} {l2 : Int32} {l3 : Int32} {d0 d1 d4 d5 d6 : Option Value} {c : Nat × Nat}, (c.1 ≤ 2 ∧ c.2 ≤ 12) → k125 I l2 l3 = some o → V K J 120 125 [d0, d1, some (.int l2), some (.int l3), d4, d5, d6] [] sh I R c F) {I : HI} {l0 : Nat} {l1 : Int32} {l2 : Int32} {l3 : Int32} {l4 : Int32} {l5 : Int32} {d6 : Option Value} {c : Nat × Nat} (hc0 : c.1 ≤ 2 ∧ c.2 ≤ 12) (h0 : fX10_stay_b24 fu sh R k24 k125 I l0 l1 l2 l3 l4 l5 = some o) : V K J 120 24 [some (.ref l0), some (.int l1), some (.int l2), some (.int l3), some (.int l4), some (.int l5), d6] [] sh I R c F := by
  unfold fX10_stay_b24 at h0
  refine s_il (i := 5) (pc' := 26) (by decide +kernel) rfl ?_
  refine s_rl (i := 0) (pc' := 27) (by decide +kernel) rfl ?_
  refine s_gR (t := 8) (j := 8) (pc' := 30) (by decide +kernel) h0 (fun v4 h1 => ?_); clear h0
  refine s_gI (t := 6) (j := 0) (ty := 0) (pc' := 33) (by decide +kernel) rfl h1 (fun v5 h2 => ?_); clear h1
  refine s_if (ins := .if_icmp .ge 92) (t := 125) (pc' := 36) (by decide +kernel) rfl rfl rfl h2 (fun p3 h3 => ?_) (fun p3 h3 => ?_) <;> clear h2
  · exact hk125 hc0 h3
  · refine s_rl (i := 0) (pc' := 37) (by decide +kernel) rfl ?_
    refine s_gR (t := 8) (j := 10) (pc' := 40) (by decide +kernel) h3 (fun v6 h4 => ?_); clear h3
    refine s_gR (t := 4) (j := 4) (pc' := 43) (by decide +kernel) h4 (fun v7 h5 => ?_); clear h4
    refine s_il (i := 5) (pc' := 45) (by decide +kernel) rfl ?_
    refine s_al (pc' := 46) (by decide +kernel) h5 (fun v8 h6 => ?_); clear h5
    refine s_is (i := 6) (pc' := 48) (L' := [some (.ref l0), some (.int l1), some (.int l2), some (.int l3), some (.int l4), some (.int l5), some (.int v8)]) (by decide +kernel) rfl rfl ?_
    refine s_rl (i := 0) (pc' := 49) (by decide +kernel) rfl ?_
    refine s_gR (t := 8) (j := 8) (pc' := 52) (by decide +kernel) h6 (fun v9 h7 => ?_); clear h6
    refine s_gR (t := 6) (j := 4) (pc' := 55) (by decide +kernel) h7 (fun v10 h8 => ?_); clear h7
    refine s_il (i := 6) (pc' := 57) (by decide +kernel) rfl ?_
    refine s_al (pc' := 58) (by decide +kernel) h8 (fun v11 h9 => ?_); clear h8
    refine s_il (i := 1) (pc' := 59) (by decide +kernel) rfl ?_
    refine kX10_holds (X := 2) (Y := 12) (X' := 2) (Y' := 12) (pc' := 62) (by decide +kernel) hc0 rfl h9 (fun v12 c hc1 h10 => ?_); clear h9 hc0
    refine s_if (ins := .ifCond .eq 38) (t := 100) (pc' := 65) (by decide +kernel) rfl rfl rfl h10 (fun p11 h11 => ?_) (fun p11 h11 => ?_) <;> clear h10
    · refine s_il (i := 2) (pc' := 101) (by decide +kernel) rfl ?_
      refine s_if (ins := .ifCond .le 18) (t := 119) (pc' := 104) (by decide +kernel) rfl rfl rfl h11 (fun p12 h12 => ?_) (fun p12 h12 => ?_) <;> clear h11
      · exact (vX10_stay_b119 hF hk24 hk125) hc1 h12
      · refine s_il (i := 4) (pc' := 106) (by decide +kernel) rfl ?_
        refine s_rl (i := 0) (pc' := 107) (by decide +kernel) rfl ?_
        refine s_gR (t := 8) (j := 8) (pc' := 110) (by decide +kernel) h12 (fun v13 h13 => ?_); clear h12
        refine s_gR (t := 6) (j := 5) (pc' := 113) (by decide +kernel) h13 (fun v14 h14 => ?_); clear h13
        refine s_il (i := 6) (pc' := 115) (by decide +kernel) rfl ?_
        refine s_al (pc' := 116) (by decide +kernel) h14 (fun v15 h15 => ?_); clear h14
        refine s_a (ins := .iadd) (pc' := 117) (by decide +kernel) rfl ?_
        refine s_is (i := 4) (pc' := 119) (L' := [some (.ref l0), some (.int l1), some (.int l2), some (.int l3), some (.int (l4 + v15)), some (.int l5), some (.int v8)]) (by decide +kernel) rfl rfl ?_
        exact (vX10_stay_b119 hF hk24 hk125) hc1 h15
    · refine s_il (i := 2) (pc' := 66) (by decide +kernel) rfl ?_
      refine s_rl (i := 0) (pc' := 67) (by decide +kernel) rfl ?_
      refine s_gR (t := 8) (j := 8) (pc' := 70) (by decide +kernel) h11 (fun v16 h12 => ?_); clear h11
      refine s_gR (t := 6) (j := 5) (pc' := 73) (by decide +kernel) h12 (fun v17 h13 => ?_); clear h12
      refine s_il (i := 6) (pc' := 75) (by decide +kernel) rfl ?_
      refine s_al (pc' := 76) (by decide +kernel) h13 (fun v18 h14 => ?_); clear h13
      refine s_a (ins := .iadd) (pc' := 77) (by decide +kernel) rfl ?_
      refine s_is (i := 2) (pc' := 78) (L' := [some (.ref l0), some (.int l1), some (.int (l2 + v18)), some (.int l3), some (.int l4), some (.int l5), some (.int v8)]) (by decide +kernel) rfl rfl ?_
      refine s_il (i := 3) (pc' := 79) (by decide +kernel) rfl ?_
      refine s_il (i := 4) (pc' := 81) (by decide +kernel) rfl ?_
      refine s_rl (i := 0) (pc' := 82) (by decide +kernel) rfl ?_
      refine s_gR (t := 8) (j := 8) (pc' := 85) (by decide +kernel) h14 (fun v19 h15 => ?_); clear h14
      refine s_gR (t := 6) (j := 5) (pc' := 88) (by decide +kernel) h15 (fun v20 h16 => ?_); clear h15
      refine s_il (i := 6) (pc' := 90) (by decide +kernel) rfl ?_
      refine s_al (pc' := 91) (by decide +kernel) h16 (fun v21 h17 => ?_); clear h16
      refine s_a (ins := .iadd) (pc' := 92) (by decide +kernel) rfl ?_
      refine s_a (ins := .iadd) (pc' := 93) (by decide +kernel) rfl ?_
      refine s_is (i := 3) (pc' := 94) (L' := [some (.ref l0), some (.int l1), some (.int (l2 + v18)), some (.int (l3 + (l4 + v21))), some (.int l4), some (.int l5), some (.int v8)]) (by decide +kernel) rfl rfl ?_
      refine s_c (v := 0) (pc' := 95) (by decide +kernel) ?_
      refine s_is (i := 4) (pc' := 97) (L' := [some (.ref l0), some (.int l1), some (.int (l2 + v18)), some (.int (l3 + (l4 + v21))), some (.int 0), some (.int l5), some (.int v8)]) (by decide +kernel) rfl rfl ?_
      refine s_go (t := 119) (by decide +kernel) ?_
      exact (vX10_stay_b119 hF hk24 hk125) hc1 h17
set_option maxRecDepth 100000 in
set_option maxHeartbeats 4000000 in
def fX10_stay_l24 (fu : Nat) (sh : HS) (R : HR) (k125 : HI → Int32 → Int32 → Option ((UInt64 ⊕ String) × HI)) : Nat → HI → Nat → Int32 → Int32 → Int32 → Int32 → Int32 → Option ((UInt64 ⊕ String) × HI)
  | 0 => fun _ _ _ _ _ _ _ => none
  | n + 1 => fX10_stay_b24 fu sh R (fX10_stay_l24 fu sh R k125 n) k125
set_option maxRecDepth 100000 in
set_option maxHeartbeats 4000000 in
theorem vX10_stay_l24 {K J : Nat → Nat} {fu : Nat} {sh : HS} {R : HR} {F : VF} {o : ((UInt64 ⊕ String) × HI)} (hF : F (voD o.1) sh o.2 R) {k125 : HI → Int32 → Int32 → Option ((UInt64 ⊕ String) × HI)} (hk125 : ∀ {I : HI} {l2 : Int32} {l3 : Int32} {d0 d1 d4 d5 d6 : Option Value} {c : Nat × Nat}, (c.1 ≤ 2 ∧ c.2 ≤ 12) → k125 I l2 l3 = some o → V K J 120 125 [d0, d1, some (.int l2), some (.int l3), d4, d5, d6] [] sh I R c F) : ∀ (n : Nat) {I : HI} {l0 : Nat} {l1 : Int32} {l2 : Int32} {l3 : Int32} {l4 : Int32} {l5 : Int32} {d6 : Option Value} {c : Nat × Nat} (_ : c.1 ≤ 2 ∧ c.2 ≤ 12) (_ : fX10_stay_l24 fu sh R k125 n I l0 l1 l2 l3 l4 l5 = some o), V K J 120 24 [some (.ref l0), some (.int l1), some (.int l2), some (.int l3), some (.int l4), some (.int l5), d6] [] sh I R c F := by
  intro n
  induction n with
  | zero => exact fun _ h0 => nomatch h0
  | succ n ih => exact fun hc0 h0 => vX10_stay_b24 hF ih hk125 hc0 h0
set_option maxRecDepth 100000 in
set_option maxHeartbeats 4000000 in
def fX10_stay_b138 (fu : Nat) (sh : HS) (R : HR) (I : HI) (s0 : UInt64) : Option ((UInt64 ⊕ String) × HI) :=
  some (.inl s0, I)
set_option maxRecDepth 100000 in
set_option maxHeartbeats 4000000 in
theorem vX10_stay_b138 {K J : Nat → Nat} {fu : Nat} {sh : HS} {R : HR} {F : VF} {o : ((UInt64 ⊕ String) × HI)} (hF : F (voD o.1) sh o.2 R) {I : HI} {s0 : UInt64} {d0 d1 d2 d3 d4 d5 d6 : Option Value} {c : Nat × Nat} (hc0 : c.1 ≤ 2 ∧ c.2 ≤ 12) (h0 : fX10_stay_b138 fu sh R I s0 = some o) : V K J 120 138 [d0, d1, d2, d3, d4, d5, d6] [.double s0] sh I R c F := by
  unfold fX10_stay_b138 at h0
  have e9 := Option.some.inj h0; subst e9
  exact s_rd (X := 2) (Y := 12) (by decide +kernel) hc0 hF
set_option maxRecDepth 100000 in
set_option maxHeartbeats 4000000 in
def fX10_stay_b125 (fu : Nat) (sh : HS) (R : HR) (I : HI) (l2 : Int32) (l3 : Int32) : Option ((UInt64 ⊕ String) × HI) :=
  if l2 = 0 then
    ((fX10_stay_b138 fu sh R) I FP.dconst0)
  else
    ((oDD (FP.i2d l3) (FP.i2d l2)).bind fun v22 =>
    (fX10_stay_b138 fu sh R) I v22)
set_option maxRecDepth 100000 in
set_option maxHeartbeats 4000000 in
theorem vX10_stay_b125 {K J : Nat → Nat} {fu : Nat} {sh : HS} {R : HR} {F : VF} {o : ((UInt64 ⊕ String) × HI)} (hF : F (voD o.1) sh o.2 R) {I : HI} {l2 : Int32} {l3 : Int32} {d0 d1 d4 d5 d6 : Option Value} {c : Nat × Nat} (hc0 : c.1 ≤ 2 ∧ c.2 ≤ 12) (h0 : fX10_stay_b125 fu sh R I l2 l3 = some o) : V K J 120 125 [d0, d1, some (.int l2), some (.int l3), d4, d5, d6] [] sh I R c F := by
  unfold fX10_stay_b125 at h0
  refine s_il (i := 2) (pc' := 126) (by decide +kernel) rfl ?_
  refine s_ifn (ins := .ifCond .ne 7) (t := 133) (pc' := 129) (by decide +kernel) rfl rfl rfl h0 (fun p1 h1 => ?_) (fun p1 h1 => ?_) <;> clear h0
  · refine s_il (i := 3) (pc' := 134) (by decide +kernel) rfl ?_
    refine s_a (ins := .i2d) (pc' := 135) (by decide +kernel) rfl ?_
    refine s_il (i := 2) (pc' := 136) (by decide +kernel) rfl ?_
    refine s_a (ins := .i2d) (pc' := 137) (by decide +kernel) rfl ?_
    refine s_dd (pc' := 138) (by decide +kernel) h1 (fun v22 h2 => ?_); clear h1
    exact (vX10_stay_b138 hF) hc0 h2
  · refine s_a (ins := .dconst 0) (pc' := 130) (by decide +kernel) rfl ?_
    refine s_go (t := 138) (by decide +kernel) ?_
    exact (vX10_stay_b138 hF) hc0 h1
set_option maxRecDepth 100000 in
set_option maxHeartbeats 4000000 in
def fX10_stay (fu : Nat) (sh : HS) (I : HI) (R : HR) (l0 : Nat) (l1 : Int32) : Option ((UInt64 ⊕ String) × HI) :=
  if isT sh l0 8 = true then
    (oT0 (fX10_needBoard fu sh I R l0) (fun E => some (.inr E, I)) fun _ =>
    oT0 (fX10_needRange fu sh I R l1 0 5) (fun E => some (.inr E, I)) fun _ =>
    (fX10_settleOrder fu sh I R l0).bind fun w3 =>
    (fX10_stay_l24 fu sh R (fX10_stay_b125 fu sh R) fu) w3 l0 l1 0 0 0 0)
  else none
set_option maxRecDepth 100000 in
set_option maxHeartbeats 4000000 in
theorem vX10_stay {K J : Nat → Nat} {fu : Nat} {sh : HS} {I : HI} {R : HR} {F : VF} {o : ((UInt64 ⊕ String) × HI)} (hF : F (voD o.1) sh o.2 R) {l0 : Nat} {l1 : Int32} (h0 : fX10_stay fu sh I R l0 l1 = some o) : V K J 120 0 (ent 7 [.ref l0, .int l1]) [] sh I R (0, 0) F := by
  unfold fX10_stay at h0
  obtain ⟨-, h1⟩ := gd h0; clear h0
  have hc0 : ((0 : Nat), (0 : Nat)).1 ≤ 0 ∧ ((0 : Nat), (0 : Nat)).2 ≤ 0 := ⟨Nat.le_refl _, Nat.le_refl _⟩
  show V K J 120 0 [some (.ref l0), some (.int l1), none, none, none, none, none] [] sh I R (0, 0) F
  refine s_rl (i := 0) (pc' := 1) (by decide +kernel) rfl ?_
  refine kX10_needBoard (X := 0) (Y := 0) (X' := 1) (Y' := 6) (pc' := 4) (by decide +kernel) hc0 rfl h1 (fun v1 c hc1 h2 => ?_) (fun E h2 => by have e9 := Option.some.inj h2; subst e9; exact hF); clear h1 hc0
  refine s_il (i := 1) (pc' := 5) (by decide +kernel) rfl ?_
  refine s_c (v := 0) (pc' := 6) (by decide +kernel) ?_
  refine s_c (v := 5) (pc' := 7) (by decide +kernel) ?_
  refine kX10_needRange (X := 1) (Y := 6) (X' := 2) (Y' := 12) (pc' := 10) (by decide +kernel) hc1 rfl h2 (fun v2 c hc2 h3 => ?_) (fun E h3 => by have e9 := Option.some.inj h3; subst e9; exact hF); clear h2 hc1
  refine s_rl (i := 0) (pc' := 11) (by decide +kernel) rfl ?_
  refine kX10_settleOrder (X := 2) (Y := 12) (X' := 2) (Y' := 12) (pc' := 14) (by decide +kernel) hc2 rfl h3 (fun w3 c hc3 h4 => ?_); clear h3 hc2
  refine s_c (v := 0) (pc' := 15) (by decide +kernel) ?_
  refine s_is (i := 2) (pc' := 16) (L' := [some (.ref l0), some (.int l1), some (.int 0), none, none, none, none]) (by decide +kernel) rfl rfl ?_
  refine s_c (v := 0) (pc' := 17) (by decide +kernel) ?_
  refine s_is (i := 3) (pc' := 18) (L' := [some (.ref l0), some (.int l1), some (.int 0), some (.int 0), none, none, none]) (by decide +kernel) rfl rfl ?_
  refine s_c (v := 0) (pc' := 19) (by decide +kernel) ?_
  refine s_is (i := 4) (pc' := 21) (L' := [some (.ref l0), some (.int l1), some (.int 0), some (.int 0), some (.int 0), none, none]) (by decide +kernel) rfl rfl ?_
  refine s_c (v := 0) (pc' := 22) (by decide +kernel) ?_
  refine s_is (i := 5) (pc' := 24) (L' := [some (.ref l0), some (.int l1), some (.int 0), some (.int 0), some (.int 0), some (.int 0), none]) (by decide +kernel) rfl rfl ?_
  exact (vX10_stay_l24 hF (vX10_stay_b125 hF) fu) hc3 h4
set_option maxRecDepth 100000 in
set_option maxHeartbeats 4000000 in
theorem kX10_stay {K J : Nat → Nat} {fu : Nat} {sh : HS} {I : HI} {R : HR} {F : VF} {mi pc pc' X Y X' Y' : Nat} {L : VL} {rest : List Value} {c : Nat × Nat} {l0 : Nat} {l1 : Int32} {ω : Type} {o : ω} {e : String → HI → Option ω} {g : UInt64 → HI → Option ω} (hq : cQ mi pc 120 2 pc' X Y X' Y' = true) (hc : c.1 ≤ X ∧ c.2 ≤ Y) (hr : Nat.ble (catS rest) 8 = true) (h : oTh (fX10_stay fu sh I R l0 l1) e g = some o) (kk : ∀ v w c', (c'.1 ≤ X' ∧ c'.2 ≤ Y') → g v w = some o → V K J mi pc' L ((.double v) :: rest) sh w R c' F) (kx : ∀ E w, e E w = some o → F (.inr E) sh w R) : V K J mi pc L (.int l1 :: .ref l0 :: rest) sh I R c F := by
  obtain ⟨r, h1, h2⟩ := bnd h
  have hT : isT sh l0 8 = true := by unfold fX10_stay at h1; exact (gd h1).1
  have ml : mL 120 = 7 := by decide +kernel
  have mk : mK 120 = 1 := by decide +kernel
  have mc : mC 120 = 8 := by decide +kernel
  obtain ⟨r, w⟩ := r
  rcases r with v | E
  · refine s_call (as := [.int l1, .ref l0]) (G := fun o' sh' I' R' => o' = .inl (some (.double v)) ∧ sh' = sh ∧ I' = w ∧ R' = R) hq hc rfl hr (by rw [ml]; rfl) (Or.inl rfl) (fun _ => Or.inl ⟨by rw [mc]; decide, by rw [mc]; exact isT_iff.mp hT⟩) (fun z => absurd (mk.symm.trans z) (by decide)) (by rw [ml]; exact vX10_stay (F := fun o' sh' I' R' => o' = .inl (some (.double v)) ∧ sh' = sh ∧ I' = w ∧ R' = R) ⟨rfl, rfl, rfl, rfl⟩ h1) ?_ ?_ ?_
    · rintro sh' I' R' c' hc' ⟨g1, rfl, rfl, rfl⟩
      cases g1
    · rintro v' sh' I' R' c' hc' ⟨g1, rfl, rfl, rfl⟩
      cases g1
      exact kk _ _ _ hc' h2
    · rintro E' sh' I' R' ⟨g1, rfl, rfl, rfl⟩
      cases g1
  · refine s_call (as := [.int l1, .ref l0]) (G := fun o' sh' I' R' => o' = .inr E ∧ sh' = sh ∧ I' = w ∧ R' = R) hq hc rfl hr (by rw [ml]; rfl) (Or.inl rfl) (fun _ => Or.inl ⟨by rw [mc]; decide, by rw [mc]; exact isT_iff.mp hT⟩) (fun z => absurd (mk.symm.trans z) (by decide)) (by rw [ml]; exact vX10_stay (F := fun o' sh' I' R' => o' = .inr E ∧ sh' = sh ∧ I' = w ∧ R' = R) ⟨rfl, rfl, rfl, rfl⟩ h1) ?_ ?_ ?_
    · rintro sh' I' R' c' hc' ⟨g1, rfl, rfl, rfl⟩
      cases g1
    · rintro v' sh' I' R' c' hc' ⟨g1, rfl, rfl, rfl⟩
      cases g1
    · rintro E' sh' I' R' ⟨g1, rfl, rfl, rfl⟩
      cases g1
      exact kx _ _ h2
set_option maxRecDepth 100000 in
set_option maxHeartbeats 4000000 in
def fX10_writeSetupLine_b65 (fu : Nat) (sh : HS) (R : HR) (k20 : HI → Nat → Int32 → Int32 → Option HI) (I : HI) (l0 : Nat) (l1 : Int32) (l2 : Int32) : Option HI :=
  k20 I l0 l1 (l2 + 1)
set_option maxRecDepth 100000 in
set_option maxHeartbeats 4000000 in
theorem vX10_writeSetupLine_b65 {K J : Nat → Nat} {fu : Nat} {sh : HS} {R : HR} {F : VF} {o : HI} (hF : F (.inl none) sh o R) {k20 : HI → Nat → Int32 → Int32 → Option HI} (hk20 : ∀ {I : HI} {l0 : Nat} {l1 : Int32} {l2 : Int32}  {c : Nat × Nat}, (c.1 ≤ 0 ∧ c.2 ≤ 0) → k20 I l0 l1 l2 = some o → V K J 122 20 [some (.ref l0), some (.int l1), some (.int l2)] [] sh I R c F) {I : HI} {l0 : Nat} {l1 : Int32} {l2 : Int32} {c : Nat × Nat} (hc0 : c.1 ≤ 0 ∧ c.2 ≤ 0) (h0 : fX10_writeSetupLine_b65 fu sh R k20 I l0 l1 l2 = some o) : V K J 122 65 [some (.ref l0), some (.int l1), some (.int l2)] [] sh I R c F := by
  unfold fX10_writeSetupLine_b65 at h0
  refine s_inc (i := 2) (z := 1) (pc' := 68) (L' := [some (.ref l0), some (.int l1), some (.int (l2 + 1))]) (by decide +kernel) rfl rfl rfl ?_
  refine s_go (t := 20) (by decide +kernel) ?_
  exact hk20 hc0 h0
set_option maxRecDepth 100000 in
set_option maxHeartbeats 4000000 in
def fX10_writeSetupLine_b20 (fu : Nat) (sh : HS) (R : HR) (k20 : HI → Nat → Int32 → Int32 → Option HI) (I : HI) (l0 : Nat) (l1 : Int32) (l2 : Int32) : Option HI :=
  (oR sh R l0 8 4).bind fun v5 =>
  (oI sh I v5 0 4).bind fun v6 =>
  if v6 ≤ l2 then
    ((oR sh R l0 8 13).bind fun v7 =>
    (fX4_putWord fu sh I R v7 9).bind fun w8 =>
    some w8)
  else
    ((oR sh R l0 8 8).bind fun v9 =>
    (oR sh R v9 6 3).bind fun v10 =>
    (oA sh I v10 l1).bind fun v11 =>
    (fX10_holds fu sh I R v11 l2).bind fun v12 =>
    if v12 = 0 then
      ((fX10_writeSetupLine_b65 fu sh R k20) I l0 l1 l2)
    else
      ((oR sh R l0 8 13).bind fun v13 =>
      (fX4_putWord fu sh I R v13 0).bind fun w14 =>
      (oR sh R l0 8 13).bind fun v15 =>
      (fX4_putNumber fu sh w14 R v15 l2).bind fun w16 =>
      (fX10_writeSetupLine_b65 fu sh R k20) w16 l0 l1 l2))
set_option maxRecDepth 100000 in
set_option maxHeartbeats 4000000 in
theorem vX10_writeSetupLine_b20 {K J : Nat → Nat} {fu : Nat} {sh : HS} {R : HR} {F : VF} {o : HI} (hF : F (.inl none) sh o R) {k20 : HI → Nat → Int32 → Int32 → Option HI} (hk20 : ∀ {I : HI} {l0 : Nat} {l1 : Int32} {l2 : Int32}  {c : Nat × Nat}, (c.1 ≤ 0 ∧ c.2 ≤ 0) → k20 I l0 l1 l2 = some o → V K J 122 20 [some (.ref l0), some (.int l1), some (.int l2)] [] sh I R c F) {I : HI} {l0 : Nat} {l1 : Int32} {l2 : Int32} {c : Nat × Nat} (hc0 : c.1 ≤ 0 ∧ c.2 ≤ 0) (h0 : fX10_writeSetupLine_b20 fu sh R k20 I l0 l1 l2 = some o) : V K J 122 20 [some (.ref l0), some (.int l1), some (.int l2)] [] sh I R c F := by
  unfold fX10_writeSetupLine_b20 at h0
  refine s_il (i := 2) (pc' := 21) (by decide +kernel) rfl ?_
  refine s_rl (i := 0) (pc' := 22) (by decide +kernel) rfl ?_
  refine s_gR (t := 8) (j := 4) (pc' := 25) (by decide +kernel) h0 (fun v5 h1 => ?_); clear h0
  refine s_gI (t := 0) (j := 4) (ty := 0) (pc' := 28) (by decide +kernel) rfl h1 (fun v6 h2 => ?_); clear h1
  refine s_if (ins := .if_icmp .ge 43) (t := 71) (pc' := 31) (by decide +kernel) rfl rfl rfl h2 (fun p3 h3 => ?_) (fun p3 h3 => ?_) <;> clear h2
  · refine s_rl (i := 0) (pc' := 72) (by decide +kernel) rfl ?_
    refine s_gR (t := 8) (j := 13) (pc' := 75) (by decide +kernel) h3 (fun v7 h4 => ?_); clear h3
    refine s_cS (i := 9) (pc' := 78) (by decide +kernel) ?_
    refine kX4_putWord (X := 0) (Y := 0) (X' := 0) (Y' := 0) (pc' := 81) (by decide +kernel) hc0 rfl h4 (fun w8 c hc1 h5 => ?_); clear h4 hc0
    have e9 := Option.some.inj h5; subst e9
    exact s_rv (X := 0) (Y := 0) (by decide +kernel) hc1 hF
  · refine s_rl (i := 0) (pc' := 32) (by decide +kernel) rfl ?_
    refine s_gR (t := 8) (j := 8) (pc' := 35) (by decide +kernel) h3 (fun v9 h4 => ?_); clear h3
    refine s_gR (t := 6) (j := 3) (pc' := 38) (by decide +kernel) h4 (fun v10 h5 => ?_); clear h4
    refine s_il (i := 1) (pc' := 39) (by decide +kernel) rfl ?_
    refine s_al (pc' := 40) (by decide +kernel) h5 (fun v11 h6 => ?_); clear h5
    refine s_il (i := 2) (pc' := 41) (by decide +kernel) rfl ?_
    refine kX10_holds (X := 0) (Y := 0) (X' := 0) (Y' := 0) (pc' := 44) (by decide +kernel) hc0 rfl h6 (fun v12 c hc1 h7 => ?_); clear h6 hc0
    refine s_if (ins := .ifCond .eq 21) (t := 65) (pc' := 47) (by decide +kernel) rfl rfl rfl h7 (fun p8 h8 => ?_) (fun p8 h8 => ?_) <;> clear h7
    · exact (vX10_writeSetupLine_b65 hF hk20) hc1 h8
    · refine s_rl (i := 0) (pc' := 48) (by decide +kernel) rfl ?_
      refine s_gR (t := 8) (j := 13) (pc' := 51) (by decide +kernel) h8 (fun v13 h9 => ?_); clear h8
      refine s_cS (i := 0) (pc' := 54) (by decide +kernel) ?_
      refine kX4_putWord (X := 0) (Y := 0) (X' := 0) (Y' := 0) (pc' := 57) (by decide +kernel) hc1 rfl h9 (fun w14 c hc2 h10 => ?_); clear h9 hc1
      refine s_rl (i := 0) (pc' := 58) (by decide +kernel) rfl ?_
      refine s_gR (t := 8) (j := 13) (pc' := 61) (by decide +kernel) h10 (fun v15 h11 => ?_); clear h10
      refine s_il (i := 2) (pc' := 62) (by decide +kernel) rfl ?_
      refine kX4_putNumber (X := 0) (Y := 0) (X' := 0) (Y' := 0) (pc' := 65) (by decide +kernel) hc2 rfl h11 (fun w16 c hc3 h12 => ?_); clear h11 hc2
      exact (vX10_writeSetupLine_b65 hF hk20) hc3 h12
set_option maxRecDepth 100000 in
set_option maxHeartbeats 4000000 in
def fX10_writeSetupLine_l20 (fu : Nat) (sh : HS) (R : HR) : Nat → HI → Nat → Int32 → Int32 → Option HI
  | 0 => fun _ _ _ _ => none
  | n + 1 => fX10_writeSetupLine_b20 fu sh R (fX10_writeSetupLine_l20 fu sh R n)
set_option maxRecDepth 100000 in
set_option maxHeartbeats 4000000 in
theorem vX10_writeSetupLine_l20 {K J : Nat → Nat} {fu : Nat} {sh : HS} {R : HR} {F : VF} {o : HI} (hF : F (.inl none) sh o R) : ∀ (n : Nat) {I : HI} {l0 : Nat} {l1 : Int32} {l2 : Int32} {c : Nat × Nat} (_ : c.1 ≤ 0 ∧ c.2 ≤ 0) (_ : fX10_writeSetupLine_l20 fu sh R n I l0 l1 l2 = some o), V K J 122 20 [some (.ref l0), some (.int l1), some (.int l2)] [] sh I R c F := by
  intro n
  induction n with
  | zero => exact fun _ h0 => nomatch h0
  | succ n ih => exact fun hc0 h0 => vX10_writeSetupLine_b20 hF ih hc0 h0
set_option maxRecDepth 100000 in
set_option maxHeartbeats 4000000 in
def fX10_writeSetupLine (fu : Nat) (sh : HS) (I : HI) (R : HR) (l0 : Nat) (l1 : Int32) : Option HI :=
  if isT sh l0 8 = true then
    ((oR sh R l0 8 13).bind fun v1 =>
    (fX4_putWord fu sh I R v1 23).bind fun w2 =>
    (oR sh R l0 8 13).bind fun v3 =>
    (fX4_putNumber fu sh w2 R v3 l1).bind fun w4 =>
    (fX10_writeSetupLine_l20 fu sh R fu) w4 l0 l1 0)
  else none
set_option maxRecDepth 100000 in
set_option maxHeartbeats 4000000 in
theorem vX10_writeSetupLine {K J : Nat → Nat} {fu : Nat} {sh : HS} {I : HI} {R : HR} {F : VF} {o : HI} (hF : F (.inl none) sh o R) {l0 : Nat} {l1 : Int32} (h0 : fX10_writeSetupLine fu sh I R l0 l1 = some o) : V K J 122 0 (ent 3 [.ref l0, .int l1]) [] sh I R (0, 0) F := by
  unfold fX10_writeSetupLine at h0
  obtain ⟨-, h1⟩ := gd h0; clear h0
  have hc0 : ((0 : Nat), (0 : Nat)).1 ≤ 0 ∧ ((0 : Nat), (0 : Nat)).2 ≤ 0 := ⟨Nat.le_refl _, Nat.le_refl _⟩
  show V K J 122 0 [some (.ref l0), some (.int l1), none] [] sh I R (0, 0) F
  refine s_rl (i := 0) (pc' := 1) (by decide +kernel) rfl ?_
  refine s_gR (t := 8) (j := 13) (pc' := 4) (by decide +kernel) h1 (fun v1 h2 => ?_); clear h1
  refine s_cS (i := 23) (pc' := 7) (by decide +kernel) ?_
  refine kX4_putWord (X := 0) (Y := 0) (X' := 0) (Y' := 0) (pc' := 10) (by decide +kernel) hc0 rfl h2 (fun w2 c hc1 h3 => ?_); clear h2 hc0
  refine s_rl (i := 0) (pc' := 11) (by decide +kernel) rfl ?_
  refine s_gR (t := 8) (j := 13) (pc' := 14) (by decide +kernel) h3 (fun v3 h4 => ?_); clear h3
  refine s_il (i := 1) (pc' := 15) (by decide +kernel) rfl ?_
  refine kX4_putNumber (X := 0) (Y := 0) (X' := 0) (Y' := 0) (pc' := 18) (by decide +kernel) hc1 rfl h4 (fun w4 c hc2 h5 => ?_); clear h4 hc1
  refine s_c (v := 0) (pc' := 19) (by decide +kernel) ?_
  refine s_is (i := 2) (pc' := 20) (L' := [some (.ref l0), some (.int l1), some (.int 0)]) (by decide +kernel) rfl rfl ?_
  exact (vX10_writeSetupLine_l20 hF fu) hc2 h5
set_option maxRecDepth 100000 in
set_option maxHeartbeats 4000000 in
theorem kX10_writeSetupLine {K J : Nat → Nat} {fu : Nat} {sh : HS} {I : HI} {R : HR} {F : VF} {mi pc pc' X Y X' Y' : Nat} {L : VL} {rest : List Value} {c : Nat × Nat} {l0 : Nat} {l1 : Int32} {ω : Type} {o : ω} {g : HI → Option ω} (hq : cQ mi pc 122 2 pc' X Y X' Y' = true) (hc : c.1 ≤ X ∧ c.2 ≤ Y) (hr : Nat.ble (catS rest) 8 = true) (h : (fX10_writeSetupLine fu sh I R l0 l1).bind g = some o) (kk : ∀ w c', (c'.1 ≤ X' ∧ c'.2 ≤ Y') → g w = some o → V K J mi pc' L (rest) sh w R c' F) : V K J mi pc L (.int l1 :: .ref l0 :: rest) sh I R c F := by
  obtain ⟨r, h1, h2⟩ := bnd h
  have hT : isT sh l0 8 = true := by unfold fX10_writeSetupLine at h1; exact (gd h1).1
  have ml : mL 122 = 3 := by decide +kernel
  have mk : mK 122 = 1 := by decide +kernel
  have mc : mC 122 = 8 := by decide +kernel
  refine s_call (as := [.int l1, .ref l0]) (G := fun o' sh' I' R' => o' = .inl none ∧ sh' = sh ∧ I' = r ∧ R' = R) hq hc rfl hr (by rw [ml]; rfl) (Or.inl rfl) (fun _ => Or.inl ⟨by rw [mc]; decide, by rw [mc]; exact isT_iff.mp hT⟩) (fun z => absurd (mk.symm.trans z) (by decide)) (by rw [ml]; exact vX10_writeSetupLine (F := fun o' sh' I' R' => o' = .inl none ∧ sh' = sh ∧ I' = r ∧ R' = R) ⟨rfl, rfl, rfl, rfl⟩ h1) ?_ ?_ ?_
  · rintro sh' I' R' c' hc' ⟨g1, rfl, rfl, rfl⟩
    cases g1
    exact kk _ _ hc' h2
  · rintro v' sh' I' R' c' hc' ⟨g1, rfl, rfl, rfl⟩
    cases g1
  · rintro E' sh' I' R' ⟨g1, rfl, rfl, rfl⟩
    cases g1
set_option maxRecDepth 100000 in
set_option maxHeartbeats 4000000 in
def fX10_wordOfKind (fu : Nat) (sh : HS) (I : HI) (R : HR) (l0 : Int32) : Option Nat :=
  if l0 = 0 then
    (some 2)
  else
    if l0 = 1 then
      (some 6)
    else
      if l0 = 2 then
        (some 8)
      else
        some 4
set_option maxRecDepth 100000 in
set_option maxHeartbeats 4000000 in
theorem vX10_wordOfKind {K J : Nat → Nat} {fu : Nat} {sh : HS} {I : HI} {R : HR} {F : VF} {o : Nat} (hF : F (.inl (some (.ref (K o)))) sh I R) {l0 : Int32} (h0 : fX10_wordOfKind fu sh I R l0 = some o) : V K J 124 0 (ent 1 [.int l0]) [] sh I R (0, 0) F := by
  unfold fX10_wordOfKind at h0
  have h1 := h0; clear h0
  have hc0 : ((0 : Nat), (0 : Nat)).1 ≤ 0 ∧ ((0 : Nat), (0 : Nat)).2 ≤ 0 := ⟨Nat.le_refl _, Nat.le_refl _⟩
  show V K J 124 0 [some (.int l0)] [] sh I R (0, 0) F
  refine s_il (i := 0) (pc' := 1) (by decide +kernel) rfl ?_
  by_cases e0 : l0 = 0
  · have h2 := h1
    rw [if_pos e0] at h2
    clear h1
    refine s_sw (v := 0) (t := 28) e0 (by decide +kernel) ?_
    refine s_cS (i := 2) (pc' := 31) (by decide +kernel) ?_
    have e9 := Option.some.inj h2; subst e9
    exact s_rr (d := "java/lang/String") (X := 0) (Y := 0) (by decide +kernel) hc0 hF
  rw [if_neg e0] at h1
  by_cases e1 : l0 = 1
  · have h2 := h1
    rw [if_pos e1] at h2
    clear h1
    refine s_sw (v := 1) (t := 32) e1 (by decide +kernel) ?_
    refine s_cS (i := 6) (pc' := 35) (by decide +kernel) ?_
    have e9 := Option.some.inj h2; subst e9
    exact s_rr (d := "java/lang/String") (X := 0) (Y := 0) (by decide +kernel) hc0 hF
  rw [if_neg e1] at h1
  by_cases e2 : l0 = 2
  · have h2 := h1
    rw [if_pos e2] at h2
    clear h1
    refine s_sw (v := 2) (t := 36) e2 (by decide +kernel) ?_
    refine s_cS (i := 8) (pc' := 39) (by decide +kernel) ?_
    have e9 := Option.some.inj h2; subst e9
    exact s_rr (d := "java/lang/String") (X := 0) (Y := 0) (by decide +kernel) hc0 hF
  rw [if_neg e2] at h1
  refine s_sd (n := 3) (t := 40) (sw_out3 e0 e1 e2) (by decide +kernel) ?_
  refine s_cS (i := 4) (pc' := 43) (by decide +kernel) ?_
  have e9 := Option.some.inj h1; subst e9
  exact s_rr (d := "java/lang/String") (X := 0) (Y := 0) (by decide +kernel) hc0 hF
set_option maxRecDepth 100000 in
set_option maxHeartbeats 4000000 in
theorem kX10_wordOfKind {K J : Nat → Nat} {fu : Nat} {sh : HS} {I : HI} {R : HR} {F : VF} {mi pc pc' X Y X' Y' : Nat} {L : VL} {rest : List Value} {c : Nat × Nat} {l0 : Int32} {ω : Type} {o : ω} {g : Nat → Option ω} (hq : cQ mi pc 124 1 pc' X Y X' Y' = true) (hc : c.1 ≤ X ∧ c.2 ≤ Y) (hr : Nat.ble (catS rest) 8 = true) (h : (fX10_wordOfKind fu sh I R l0).bind g = some o) (kk : ∀ v c', (c'.1 ≤ X' ∧ c'.2 ≤ Y') → g v = some o → V K J mi pc' L ((.ref (K v)) :: rest) sh I R c' F) : V K J mi pc L (.int l0 :: rest) sh I R c F := by
  obtain ⟨r, h1, h2⟩ := bnd h
  have ml : mL 124 = 1 := by decide +kernel
  have mk : mK 124 = 0 := by decide +kernel
  refine s_call (as := [.int l0]) (G := fun o' sh' I' R' => o' = .inl (some (.ref (K r))) ∧ sh' = sh ∧ I' = I ∧ R' = R) hq hc rfl hr (by rw [ml]; rfl) (Or.inl rfl) (fun z => absurd (mk.symm.trans z) (by decide)) (fun z => absurd (mk.symm.trans z) (by decide)) (by rw [ml]; exact vX10_wordOfKind (F := fun o' sh' I' R' => o' = .inl (some (.ref (K r))) ∧ sh' = sh ∧ I' = I ∧ R' = R) ⟨rfl, rfl, rfl, rfl⟩ h1) ?_ ?_ ?_
  · rintro sh' I' R' c' hc' ⟨g1, rfl, rfl, rfl⟩
    cases g1
  · rintro v' sh' I' R' c' hc' ⟨g1, rfl, rfl, rfl⟩
    cases g1
    exact kk _ _ hc' h2
  · rintro E' sh' I' R' ⟨g1, rfl, rfl, rfl⟩
    cases g1
set_option maxRecDepth 100000 in
set_option maxHeartbeats 4000000 in
def fX10_writeFaultLines_b79 (fu : Nat) (sh : HS) (R : HR) (k11 : HI → Nat → Int32 → Int32 → Int32 → Option HI) (I : HI) (l0 : Nat) (l1 : Int32) (l2 : Int32) (l3 : Int32) : Option HI :=
  k11 I l0 l1 l2 (l3 + 1)
set_option maxRecDepth 100000 in
set_option maxHeartbeats 4000000 in
theorem vX10_writeFaultLines_b79 {K J : Nat → Nat} {fu : Nat} {sh : HS} {R : HR} {F : VF} {o : HI} (hF : F (.inl none) sh o R) {k11 : HI → Nat → Int32 → Int32 → Int32 → Option HI} (hk11 : ∀ {I : HI} {l0 : Nat} {l1 : Int32} {l2 : Int32} {l3 : Int32}  {c : Nat × Nat}, (c.1 ≤ 0 ∧ c.2 ≤ 0) → k11 I l0 l1 l2 l3 = some o → V K J 123 11 [some (.ref l0), some (.int l1), some (.int l2), some (.int l3)] [] sh I R c F) {I : HI} {l0 : Nat} {l1 : Int32} {l2 : Int32} {l3 : Int32} {c : Nat × Nat} (hc0 : c.1 ≤ 0 ∧ c.2 ≤ 0) (h0 : fX10_writeFaultLines_b79 fu sh R k11 I l0 l1 l2 l3 = some o) : V K J 123 79 [some (.ref l0), some (.int l1), some (.int l2), some (.int l3)] [] sh I R c F := by
  unfold fX10_writeFaultLines_b79 at h0
  refine s_inc (i := 3) (z := 1) (pc' := 82) (L' := [some (.ref l0), some (.int l1), some (.int l2), some (.int (l3 + 1))]) (by decide +kernel) rfl rfl rfl ?_
  refine s_go (t := 11) (by decide +kernel) ?_
  exact hk11 hc0 h0
set_option maxRecDepth 100000 in
set_option maxHeartbeats 4000000 in
def fX10_writeFaultLines_b11 (fu : Nat) (sh : HS) (R : HR) (k11 : HI → Nat → Int32 → Int32 → Int32 → Option HI) (I : HI) (l0 : Nat) (l1 : Int32) (l2 : Int32) (l3 : Int32) : Option HI :=
  if 4 ≤ l3 then
    (some I)
  else
    ((fX10_holds fu sh I R l2 l3).bind fun v3 =>
    if v3 = 0 then
      ((fX10_writeFaultLines_b79 fu sh R k11) I l0 l1 l2 l3)
    else
      ((oR sh R l0 8 13).bind fun v4 =>
      (fX4_putWord fu sh I R v4 25).bind fun w5 =>
      (oR sh R l0 8 13).bind fun v6 =>
      (fX4_putNumber fu sh w5 R v6 l1).bind fun w7 =>
      (oR sh R l0 8 13).bind fun v8 =>
      (fX10_wordOfKind fu sh w7 R l3).bind fun v9 =>
      (fX4_putWord fu sh w7 R v8 v9).bind fun w10 =>
      (oR sh R l0 8 13).bind fun v11 =>
      (oR sh R l0 8 4).bind fun v12 =>
      (fX2_causeOf fu sh w10 R v12 l1 l3).bind fun v13 =>
      (fX4_putNumber fu sh w10 R v11 v13).bind fun w14 =>
      (oR sh R l0 8 13).bind fun v15 =>
      (fX4_putWord fu sh w14 R v15 9).bind fun w16 =>
      (fX10_writeFaultLines_b79 fu sh R k11) w16 l0 l1 l2 l3))
set_option maxRecDepth 100000 in
set_option maxHeartbeats 4000000 in
theorem vX10_writeFaultLines_b11 {K J : Nat → Nat} {fu : Nat} {sh : HS} {R : HR} {F : VF} {o : HI} (hF : F (.inl none) sh o R) {k11 : HI → Nat → Int32 → Int32 → Int32 → Option HI} (hk11 : ∀ {I : HI} {l0 : Nat} {l1 : Int32} {l2 : Int32} {l3 : Int32}  {c : Nat × Nat}, (c.1 ≤ 0 ∧ c.2 ≤ 0) → k11 I l0 l1 l2 l3 = some o → V K J 123 11 [some (.ref l0), some (.int l1), some (.int l2), some (.int l3)] [] sh I R c F) {I : HI} {l0 : Nat} {l1 : Int32} {l2 : Int32} {l3 : Int32} {c : Nat × Nat} (hc0 : c.1 ≤ 0 ∧ c.2 ≤ 0) (h0 : fX10_writeFaultLines_b11 fu sh R k11 I l0 l1 l2 l3 = some o) : V K J 123 11 [some (.ref l0), some (.int l1), some (.int l2), some (.int l3)] [] sh I R c F := by
  unfold fX10_writeFaultLines_b11 at h0
  refine s_il (i := 3) (pc' := 12) (by decide +kernel) rfl ?_
  refine s_c (v := 4) (pc' := 13) (by decide +kernel) ?_
  refine s_if (ins := .if_icmp .ge 72) (t := 85) (pc' := 16) (by decide +kernel) rfl rfl rfl h0 (fun p1 h1 => ?_) (fun p1 h1 => ?_) <;> clear h0
  · have e9 := Option.some.inj h1; subst e9
    exact s_rv (X := 0) (Y := 0) (by decide +kernel) hc0 hF
  · refine s_il (i := 2) (pc' := 17) (by decide +kernel) rfl ?_
    refine s_il (i := 3) (pc' := 18) (by decide +kernel) rfl ?_
    refine kX10_holds (X := 0) (Y := 0) (X' := 0) (Y' := 0) (pc' := 21) (by decide +kernel) hc0 rfl h1 (fun v3 c hc1 h2 => ?_); clear h1 hc0
    refine s_if (ins := .ifCond .eq 58) (t := 79) (pc' := 24) (by decide +kernel) rfl rfl rfl h2 (fun p3 h3 => ?_) (fun p3 h3 => ?_) <;> clear h2
    · exact (vX10_writeFaultLines_b79 hF hk11) hc1 h3
    · refine s_rl (i := 0) (pc' := 25) (by decide +kernel) rfl ?_
      refine s_gR (t := 8) (j := 13) (pc' := 28) (by decide +kernel) h3 (fun v4 h4 => ?_); clear h3
      refine s_cS (i := 25) (pc' := 31) (by decide +kernel) ?_
      refine kX4_putWord (X := 0) (Y := 0) (X' := 0) (Y' := 0) (pc' := 34) (by decide +kernel) hc1 rfl h4 (fun w5 c hc2 h5 => ?_); clear h4 hc1
      refine s_rl (i := 0) (pc' := 35) (by decide +kernel) rfl ?_
      refine s_gR (t := 8) (j := 13) (pc' := 38) (by decide +kernel) h5 (fun v6 h6 => ?_); clear h5
      refine s_il (i := 1) (pc' := 39) (by decide +kernel) rfl ?_
      refine kX4_putNumber (X := 0) (Y := 0) (X' := 0) (Y' := 0) (pc' := 42) (by decide +kernel) hc2 rfl h6 (fun w7 c hc3 h7 => ?_); clear h6 hc2
      refine s_rl (i := 0) (pc' := 43) (by decide +kernel) rfl ?_
      refine s_gR (t := 8) (j := 13) (pc' := 46) (by decide +kernel) h7 (fun v8 h8 => ?_); clear h7
      refine s_il (i := 3) (pc' := 47) (by decide +kernel) rfl ?_
      refine kX10_wordOfKind (X := 0) (Y := 0) (X' := 0) (Y' := 0) (pc' := 50) (by decide +kernel) hc3 rfl h8 (fun v9 c hc4 h9 => ?_); clear h8 hc3
      refine kX4_putWord (X := 0) (Y := 0) (X' := 0) (Y' := 0) (pc' := 53) (by decide +kernel) hc4 rfl h9 (fun w10 c hc5 h10 => ?_); clear h9 hc4
      refine s_rl (i := 0) (pc' := 54) (by decide +kernel) rfl ?_
      refine s_gR (t := 8) (j := 13) (pc' := 57) (by decide +kernel) h10 (fun v11 h11 => ?_); clear h10
      refine s_rl (i := 0) (pc' := 58) (by decide +kernel) rfl ?_
      refine s_gR (t := 8) (j := 4) (pc' := 61) (by decide +kernel) h11 (fun v12 h12 => ?_); clear h11
      refine s_il (i := 1) (pc' := 62) (by decide +kernel) rfl ?_
      refine s_il (i := 3) (pc' := 63) (by decide +kernel) rfl ?_
      refine kX2_causeOf (X := 0) (Y := 0) (X' := 0) (Y' := 0) (pc' := 66) (by decide +kernel) hc5 rfl h12 (fun v13 c hc6 h13 => ?_); clear h12 hc5
      refine kX4_putNumber (X := 0) (Y := 0) (X' := 0) (Y' := 0) (pc' := 69) (by decide +kernel) hc6 rfl h13 (fun w14 c hc7 h14 => ?_); clear h13 hc6
      refine s_rl (i := 0) (pc' := 70) (by decide +kernel) rfl ?_
      refine s_gR (t := 8) (j := 13) (pc' := 73) (by decide +kernel) h14 (fun v15 h15 => ?_); clear h14
      refine s_cS (i := 9) (pc' := 76) (by decide +kernel) ?_
      refine kX4_putWord (X := 0) (Y := 0) (X' := 0) (Y' := 0) (pc' := 79) (by decide +kernel) hc7 rfl h15 (fun w16 c hc8 h16 => ?_); clear h15 hc7
      exact (vX10_writeFaultLines_b79 hF hk11) hc8 h16
set_option maxRecDepth 100000 in
set_option maxHeartbeats 4000000 in
def fX10_writeFaultLines_l11 (fu : Nat) (sh : HS) (R : HR) : Nat → HI → Nat → Int32 → Int32 → Int32 → Option HI
  | 0 => fun _ _ _ _ _ => none
  | n + 1 => fX10_writeFaultLines_b11 fu sh R (fX10_writeFaultLines_l11 fu sh R n)
set_option maxRecDepth 100000 in
set_option maxHeartbeats 4000000 in
theorem vX10_writeFaultLines_l11 {K J : Nat → Nat} {fu : Nat} {sh : HS} {R : HR} {F : VF} {o : HI} (hF : F (.inl none) sh o R) : ∀ (n : Nat) {I : HI} {l0 : Nat} {l1 : Int32} {l2 : Int32} {l3 : Int32} {c : Nat × Nat} (_ : c.1 ≤ 0 ∧ c.2 ≤ 0) (_ : fX10_writeFaultLines_l11 fu sh R n I l0 l1 l2 l3 = some o), V K J 123 11 [some (.ref l0), some (.int l1), some (.int l2), some (.int l3)] [] sh I R c F := by
  intro n
  induction n with
  | zero => exact fun _ h0 => nomatch h0
  | succ n ih => exact fun hc0 h0 => vX10_writeFaultLines_b11 hF ih hc0 h0
set_option maxRecDepth 100000 in
set_option maxHeartbeats 4000000 in
def fX10_writeFaultLines (fu : Nat) (sh : HS) (I : HI) (R : HR) (l0 : Nat) (l1 : Int32) : Option HI :=
  if isT sh l0 8 = true then
    ((oR sh R l0 8 4).bind fun v1 =>
    (fX2_kindsOf fu sh I R v1 l1).bind fun v2 =>
    (fX10_writeFaultLines_l11 fu sh R fu) I l0 l1 v2 0)
  else none
set_option maxRecDepth 100000 in
set_option maxHeartbeats 4000000 in
theorem vX10_writeFaultLines {K J : Nat → Nat} {fu : Nat} {sh : HS} {I : HI} {R : HR} {F : VF} {o : HI} (hF : F (.inl none) sh o R) {l0 : Nat} {l1 : Int32} (h0 : fX10_writeFaultLines fu sh I R l0 l1 = some o) : V K J 123 0 (ent 4 [.ref l0, .int l1]) [] sh I R (0, 0) F := by
  unfold fX10_writeFaultLines at h0
  obtain ⟨-, h1⟩ := gd h0; clear h0
  have hc0 : ((0 : Nat), (0 : Nat)).1 ≤ 0 ∧ ((0 : Nat), (0 : Nat)).2 ≤ 0 := ⟨Nat.le_refl _, Nat.le_refl _⟩
  show V K J 123 0 [some (.ref l0), some (.int l1), none, none] [] sh I R (0, 0) F
  refine s_rl (i := 0) (pc' := 1) (by decide +kernel) rfl ?_
  refine s_gR (t := 8) (j := 4) (pc' := 4) (by decide +kernel) h1 (fun v1 h2 => ?_); clear h1
  refine s_il (i := 1) (pc' := 5) (by decide +kernel) rfl ?_
  refine kX2_kindsOf (X := 0) (Y := 0) (X' := 0) (Y' := 0) (pc' := 8) (by decide +kernel) hc0 rfl h2 (fun v2 c hc1 h3 => ?_); clear h2 hc0
  refine s_is (i := 2) (pc' := 9) (L' := [some (.ref l0), some (.int l1), some (.int v2), none]) (by decide +kernel) rfl rfl ?_
  refine s_c (v := 0) (pc' := 10) (by decide +kernel) ?_
  refine s_is (i := 3) (pc' := 11) (L' := [some (.ref l0), some (.int l1), some (.int v2), some (.int 0)]) (by decide +kernel) rfl rfl ?_
  exact (vX10_writeFaultLines_l11 hF fu) hc1 h3
set_option maxRecDepth 100000 in
set_option maxHeartbeats 4000000 in
theorem kX10_writeFaultLines {K J : Nat → Nat} {fu : Nat} {sh : HS} {I : HI} {R : HR} {F : VF} {mi pc pc' X Y X' Y' : Nat} {L : VL} {rest : List Value} {c : Nat × Nat} {l0 : Nat} {l1 : Int32} {ω : Type} {o : ω} {g : HI → Option ω} (hq : cQ mi pc 123 2 pc' X Y X' Y' = true) (hc : c.1 ≤ X ∧ c.2 ≤ Y) (hr : Nat.ble (catS rest) 8 = true) (h : (fX10_writeFaultLines fu sh I R l0 l1).bind g = some o) (kk : ∀ w c', (c'.1 ≤ X' ∧ c'.2 ≤ Y') → g w = some o → V K J mi pc' L (rest) sh w R c' F) : V K J mi pc L (.int l1 :: .ref l0 :: rest) sh I R c F := by
  obtain ⟨r, h1, h2⟩ := bnd h
  have hT : isT sh l0 8 = true := by unfold fX10_writeFaultLines at h1; exact (gd h1).1
  have ml : mL 123 = 4 := by decide +kernel
  have mk : mK 123 = 1 := by decide +kernel
  have mc : mC 123 = 8 := by decide +kernel
  refine s_call (as := [.int l1, .ref l0]) (G := fun o' sh' I' R' => o' = .inl none ∧ sh' = sh ∧ I' = r ∧ R' = R) hq hc rfl hr (by rw [ml]; rfl) (Or.inl rfl) (fun _ => Or.inl ⟨by rw [mc]; decide, by rw [mc]; exact isT_iff.mp hT⟩) (fun z => absurd (mk.symm.trans z) (by decide)) (by rw [ml]; exact vX10_writeFaultLines (F := fun o' sh' I' R' => o' = .inl none ∧ sh' = sh ∧ I' = r ∧ R' = R) ⟨rfl, rfl, rfl, rfl⟩ h1) ?_ ?_ ?_
  · rintro sh' I' R' c' hc' ⟨g1, rfl, rfl, rfl⟩
    cases g1
    exact kk _ _ hc' h2
  · rintro v' sh' I' R' c' hc' ⟨g1, rfl, rfl, rfl⟩
    cases g1
  · rintro E' sh' I' R' ⟨g1, rfl, rfl, rfl⟩
    cases g1
set_option maxRecDepth 100000 in
set_option maxHeartbeats 4000000 in
def fX10_writePlan_b17 (fu : Nat) (sh : HS) (R : HR) (k17 : HI → Nat → Int32 → Option ((Int32 ⊕ String) × HI)) (k47 : HI → Nat → Option ((Int32 ⊕ String) × HI)) (I : HI) (l0 : Nat) (l1 : Int32) : Option ((Int32 ⊕ String) × HI) :=
  (oR sh R l0 8 8).bind fun v5 =>
  (oI sh I v5 6 0).bind fun v6 =>
  if v6 ≤ l1 then
    (k47 I l0)
  else
    ((oR sh R l0 8 10).bind fun v7 =>
    (oR sh R v7 4 4).bind fun v8 =>
    (oA sh I v8 l1).bind fun v9 =>
    (fX10_writeSetupLine fu sh I R l0 v9).bind fun w10 =>
    k17 w10 l0 (l1 + 1))
set_option maxRecDepth 100000 in
set_option maxHeartbeats 4000000 in
theorem vX10_writePlan_b17 {K J : Nat → Nat} {fu : Nat} {sh : HS} {R : HR} {F : VF} {o : ((Int32 ⊕ String) × HI)} (hF : F (voI o.1) sh o.2 R) {k17 : HI → Nat → Int32 → Option ((Int32 ⊕ String) × HI)} {k47 : HI → Nat → Option ((Int32 ⊕ String) × HI)} (hk17 : ∀ {I : HI} {l0 : Nat} {l1 : Int32}  {c : Nat × Nat}, (c.1 ≤ 1 ∧ c.2 ≤ 6) → k17 I l0 l1 = some o → V K J 121 17 [some (.ref l0), some (.int l1)] [] sh I R c F) (hk47 : ∀ {I : HI} {l0 : Nat} {d1 : Option Value} {c : Nat × Nat}, (c.1 ≤ 1 ∧ c.2 ≤ 6) → k47 I l0 = some o → V K J 121 47 [some (.ref l0), d1] [] sh I R c F) {I : HI} {l0 : Nat} {l1 : Int32} {c : Nat × Nat} (hc0 : c.1 ≤ 1 ∧ c.2 ≤ 6) (h0 : fX10_writePlan_b17 fu sh R k17 k47 I l0 l1 = some o) : V K J 121 17 [some (.ref l0), some (.int l1)] [] sh I R c F := by
  unfold fX10_writePlan_b17 at h0
  refine s_il (i := 1) (pc' := 18) (by decide +kernel) rfl ?_
  refine s_rl (i := 0) (pc' := 19) (by decide +kernel) rfl ?_
  refine s_gR (t := 8) (j := 8) (pc' := 22) (by decide +kernel) h0 (fun v5 h1 => ?_); clear h0
  refine s_gI (t := 6) (j := 0) (ty := 0) (pc' := 25) (by decide +kernel) rfl h1 (fun v6 h2 => ?_); clear h1
  refine s_if (ins := .if_icmp .ge 22) (t := 47) (pc' := 28) (by decide +kernel) rfl rfl rfl h2 (fun p3 h3 => ?_) (fun p3 h3 => ?_) <;> clear h2
  · exact hk47 hc0 h3
  · refine s_rl (i := 0) (pc' := 29) (by decide +kernel) rfl ?_
    refine s_rl (i := 0) (pc' := 30) (by decide +kernel) rfl ?_
    refine s_gR (t := 8) (j := 10) (pc' := 33) (by decide +kernel) h3 (fun v7 h4 => ?_); clear h3
    refine s_gR (t := 4) (j := 4) (pc' := 36) (by decide +kernel) h4 (fun v8 h5 => ?_); clear h4
    refine s_il (i := 1) (pc' := 37) (by decide +kernel) rfl ?_
    refine s_al (pc' := 38) (by decide +kernel) h5 (fun v9 h6 => ?_); clear h5
    refine kX10_writeSetupLine (X := 1) (Y := 6) (X' := 1) (Y' := 6) (pc' := 41) (by decide +kernel) hc0 rfl h6 (fun w10 c hc1 h7 => ?_); clear h6 hc0
    refine s_inc (i := 1) (z := 1) (pc' := 44) (L' := [some (.ref l0), some (.int (l1 + 1))]) (by decide +kernel) rfl rfl rfl ?_
    refine s_go (t := 17) (by decide +kernel) ?_
    exact hk17 hc1 h7
set_option maxRecDepth 100000 in
set_option maxHeartbeats 4000000 in
def fX10_writePlan_l17 (fu : Nat) (sh : HS) (R : HR) (k47 : HI → Nat → Option ((Int32 ⊕ String) × HI)) : Nat → HI → Nat → Int32 → Option ((Int32 ⊕ String) × HI)
  | 0 => fun _ _ _ => none
  | n + 1 => fX10_writePlan_b17 fu sh R (fX10_writePlan_l17 fu sh R k47 n) k47
set_option maxRecDepth 100000 in
set_option maxHeartbeats 4000000 in
theorem vX10_writePlan_l17 {K J : Nat → Nat} {fu : Nat} {sh : HS} {R : HR} {F : VF} {o : ((Int32 ⊕ String) × HI)} (hF : F (voI o.1) sh o.2 R) {k47 : HI → Nat → Option ((Int32 ⊕ String) × HI)} (hk47 : ∀ {I : HI} {l0 : Nat} {d1 : Option Value} {c : Nat × Nat}, (c.1 ≤ 1 ∧ c.2 ≤ 6) → k47 I l0 = some o → V K J 121 47 [some (.ref l0), d1] [] sh I R c F) : ∀ (n : Nat) {I : HI} {l0 : Nat} {l1 : Int32} {c : Nat × Nat} (_ : c.1 ≤ 1 ∧ c.2 ≤ 6) (_ : fX10_writePlan_l17 fu sh R k47 n I l0 l1 = some o), V K J 121 17 [some (.ref l0), some (.int l1)] [] sh I R c F := by
  intro n
  induction n with
  | zero => exact fun _ h0 => nomatch h0
  | succ n ih => exact fun hc0 h0 => vX10_writePlan_b17 hF ih hk47 hc0 h0
set_option maxRecDepth 100000 in
set_option maxHeartbeats 4000000 in
def fX10_writePlan_b49 (fu : Nat) (sh : HS) (R : HR) (k49 : HI → Nat → Int32 → Option ((Int32 ⊕ String) × HI)) (I : HI) (l0 : Nat) (l1 : Int32) : Option ((Int32 ⊕ String) × HI) :=
  (oR sh R l0 8 4).bind fun v11 =>
  (oI sh I v11 0 4).bind fun v12 =>
  if v12 ≤ l1 then
    ((oR sh R l0 8 13).bind fun v13 =>
    (oI sh I v13 3 1).bind fun v14 =>
    some (.inl v14, I))
  else
    ((fX10_writeFaultLines fu sh I R l0 l1).bind fun w15 =>
    k49 w15 l0 (l1 + 1))
set_option maxRecDepth 100000 in
set_option maxHeartbeats 4000000 in
theorem vX10_writePlan_b49 {K J : Nat → Nat} {fu : Nat} {sh : HS} {R : HR} {F : VF} {o : ((Int32 ⊕ String) × HI)} (hF : F (voI o.1) sh o.2 R) {k49 : HI → Nat → Int32 → Option ((Int32 ⊕ String) × HI)} (hk49 : ∀ {I : HI} {l0 : Nat} {l1 : Int32}  {c : Nat × Nat}, (c.1 ≤ 1 ∧ c.2 ≤ 6) → k49 I l0 l1 = some o → V K J 121 49 [some (.ref l0), some (.int l1)] [] sh I R c F) {I : HI} {l0 : Nat} {l1 : Int32} {c : Nat × Nat} (hc0 : c.1 ≤ 1 ∧ c.2 ≤ 6) (h0 : fX10_writePlan_b49 fu sh R k49 I l0 l1 = some o) : V K J 121 49 [some (.ref l0), some (.int l1)] [] sh I R c F := by
  unfold fX10_writePlan_b49 at h0
  refine s_il (i := 1) (pc' := 50) (by decide +kernel) rfl ?_
  refine s_rl (i := 0) (pc' := 51) (by decide +kernel) rfl ?_
  refine s_gR (t := 8) (j := 4) (pc' := 54) (by decide +kernel) h0 (fun v11 h1 => ?_); clear h0
  refine s_gI (t := 0) (j := 4) (ty := 0) (pc' := 57) (by decide +kernel) rfl h1 (fun v12 h2 => ?_); clear h1
  refine s_if (ins := .if_icmp .ge 14) (t := 71) (pc' := 60) (by decide +kernel) rfl rfl rfl h2 (fun p3 h3 => ?_) (fun p3 h3 => ?_) <;> clear h2
  · refine s_rl (i := 0) (pc' := 72) (by decide +kernel) rfl ?_
    refine s_gR (t := 8) (j := 13) (pc' := 75) (by decide +kernel) h3 (fun v13 h4 => ?_); clear h3
    refine s_gI (t := 3) (j := 1) (ty := 0) (pc' := 78) (by decide +kernel) rfl h4 (fun v14 h5 => ?_); clear h4
    have e9 := Option.some.inj h5; subst e9
    exact s_ri (X := 1) (Y := 6) (by decide +kernel) hc0 hF
  · refine s_rl (i := 0) (pc' := 61) (by decide +kernel) rfl ?_
    refine s_il (i := 1) (pc' := 62) (by decide +kernel) rfl ?_
    refine kX10_writeFaultLines (X := 1) (Y := 6) (X' := 1) (Y' := 6) (pc' := 65) (by decide +kernel) hc0 rfl h3 (fun w15 c hc1 h4 => ?_); clear h3 hc0
    refine s_inc (i := 1) (z := 1) (pc' := 68) (L' := [some (.ref l0), some (.int (l1 + 1))]) (by decide +kernel) rfl rfl rfl ?_
    refine s_go (t := 49) (by decide +kernel) ?_
    exact hk49 hc1 h4
set_option maxRecDepth 100000 in
set_option maxHeartbeats 4000000 in
def fX10_writePlan_l49 (fu : Nat) (sh : HS) (R : HR) : Nat → HI → Nat → Int32 → Option ((Int32 ⊕ String) × HI)
  | 0 => fun _ _ _ => none
  | n + 1 => fX10_writePlan_b49 fu sh R (fX10_writePlan_l49 fu sh R n)
set_option maxRecDepth 100000 in
set_option maxHeartbeats 4000000 in
theorem vX10_writePlan_l49 {K J : Nat → Nat} {fu : Nat} {sh : HS} {R : HR} {F : VF} {o : ((Int32 ⊕ String) × HI)} (hF : F (voI o.1) sh o.2 R) : ∀ (n : Nat) {I : HI} {l0 : Nat} {l1 : Int32} {c : Nat × Nat} (_ : c.1 ≤ 1 ∧ c.2 ≤ 6) (_ : fX10_writePlan_l49 fu sh R n I l0 l1 = some o), V K J 121 49 [some (.ref l0), some (.int l1)] [] sh I R c F := by
  intro n
  induction n with
  | zero => exact fun _ h0 => nomatch h0
  | succ n ih => exact fun hc0 h0 => vX10_writePlan_b49 hF ih hc0 h0
set_option maxRecDepth 100000 in
set_option maxHeartbeats 4000000 in
def fX10_writePlan_b47 (fu : Nat) (sh : HS) (R : HR) (I : HI) (l0 : Nat) : Option ((Int32 ⊕ String) × HI) :=
  (fX10_writePlan_l49 fu sh R fu) I l0 0
set_option maxRecDepth 100000 in
set_option maxHeartbeats 4000000 in
theorem vX10_writePlan_b47 {K J : Nat → Nat} {fu : Nat} {sh : HS} {R : HR} {F : VF} {o : ((Int32 ⊕ String) × HI)} (hF : F (voI o.1) sh o.2 R) {I : HI} {l0 : Nat} {d1 : Option Value} {c : Nat × Nat} (hc0 : c.1 ≤ 1 ∧ c.2 ≤ 6) (h0 : fX10_writePlan_b47 fu sh R I l0 = some o) : V K J 121 47 [some (.ref l0), d1] [] sh I R c F := by
  unfold fX10_writePlan_b47 at h0
  refine s_c (v := 0) (pc' := 48) (by decide +kernel) ?_
  refine s_is (i := 1) (pc' := 49) (L' := [some (.ref l0), some (.int 0)]) (by decide +kernel) rfl rfl ?_
  exact (vX10_writePlan_l49 hF fu) hc0 h0
set_option maxRecDepth 100000 in
set_option maxHeartbeats 4000000 in
def fX10_writePlan (fu : Nat) (sh : HS) (I : HI) (R : HR) (l0 : Nat) : Option ((Int32 ⊕ String) × HI) :=
  if isT sh l0 8 = true then
    (oT0 (fX10_needBoard fu sh I R l0) (fun E => some (.inr E, I)) fun _ =>
    (fX10_settleOrder fu sh I R l0).bind fun w2 =>
    (oR sh R l0 8 13).bind fun v3 =>
    (fX4_erase fu sh w2 R v3).bind fun w4 =>
    (fX10_writePlan_l17 fu sh R (fX10_writePlan_b47 fu sh R) fu) w4 l0 0)
  else none
set_option maxRecDepth 100000 in
set_option maxHeartbeats 4000000 in
theorem vX10_writePlan {K J : Nat → Nat} {fu : Nat} {sh : HS} {I : HI} {R : HR} {F : VF} {o : ((Int32 ⊕ String) × HI)} (hF : F (voI o.1) sh o.2 R) {l0 : Nat} (h0 : fX10_writePlan fu sh I R l0 = some o) : V K J 121 0 (ent 2 [.ref l0]) [] sh I R (0, 0) F := by
  unfold fX10_writePlan at h0
  obtain ⟨-, h1⟩ := gd h0; clear h0
  have hc0 : ((0 : Nat), (0 : Nat)).1 ≤ 0 ∧ ((0 : Nat), (0 : Nat)).2 ≤ 0 := ⟨Nat.le_refl _, Nat.le_refl _⟩
  show V K J 121 0 [some (.ref l0), none] [] sh I R (0, 0) F
  refine s_rl (i := 0) (pc' := 1) (by decide +kernel) rfl ?_
  refine kX10_needBoard (X := 0) (Y := 0) (X' := 1) (Y' := 6) (pc' := 4) (by decide +kernel) hc0 rfl h1 (fun v1 c hc1 h2 => ?_) (fun E h2 => by have e9 := Option.some.inj h2; subst e9; exact hF); clear h1 hc0
  refine s_rl (i := 0) (pc' := 5) (by decide +kernel) rfl ?_
  refine kX10_settleOrder (X := 1) (Y := 6) (X' := 1) (Y' := 6) (pc' := 8) (by decide +kernel) hc1 rfl h2 (fun w2 c hc2 h3 => ?_); clear h2 hc1
  refine s_rl (i := 0) (pc' := 9) (by decide +kernel) rfl ?_
  refine s_gR (t := 8) (j := 13) (pc' := 12) (by decide +kernel) h3 (fun v3 h4 => ?_); clear h3
  refine kX4_erase (X := 1) (Y := 6) (X' := 1) (Y' := 6) (pc' := 15) (by decide +kernel) hc2 rfl h4 (fun w4 c hc3 h5 => ?_); clear h4 hc2
  refine s_c (v := 0) (pc' := 16) (by decide +kernel) ?_
  refine s_is (i := 1) (pc' := 17) (L' := [some (.ref l0), some (.int 0)]) (by decide +kernel) rfl rfl ?_
  exact (vX10_writePlan_l17 hF (vX10_writePlan_b47 hF) fu) hc3 h5
set_option maxRecDepth 100000 in
set_option maxHeartbeats 4000000 in
theorem kX10_writePlan {K J : Nat → Nat} {fu : Nat} {sh : HS} {I : HI} {R : HR} {F : VF} {mi pc pc' X Y X' Y' : Nat} {L : VL} {rest : List Value} {c : Nat × Nat} {l0 : Nat} {ω : Type} {o : ω} {e : String → HI → Option ω} {g : Int32 → HI → Option ω} (hq : cQ mi pc 121 1 pc' X Y X' Y' = true) (hc : c.1 ≤ X ∧ c.2 ≤ Y) (hr : Nat.ble (catS rest) 8 = true) (h : oTh (fX10_writePlan fu sh I R l0) e g = some o) (kk : ∀ v w c', (c'.1 ≤ X' ∧ c'.2 ≤ Y') → g v w = some o → V K J mi pc' L ((.int v) :: rest) sh w R c' F) (kx : ∀ E w, e E w = some o → F (.inr E) sh w R) : V K J mi pc L (.ref l0 :: rest) sh I R c F := by
  obtain ⟨r, h1, h2⟩ := bnd h
  have hT : isT sh l0 8 = true := by unfold fX10_writePlan at h1; exact (gd h1).1
  have ml : mL 121 = 2 := by decide +kernel
  have mk : mK 121 = 1 := by decide +kernel
  have mc : mC 121 = 8 := by decide +kernel
  obtain ⟨r, w⟩ := r
  rcases r with v | E
  · refine s_call (as := [.ref l0]) (G := fun o' sh' I' R' => o' = .inl (some (.int v)) ∧ sh' = sh ∧ I' = w ∧ R' = R) hq hc rfl hr (by rw [ml]; rfl) (Or.inl rfl) (fun _ => Or.inl ⟨by rw [mc]; decide, by rw [mc]; exact isT_iff.mp hT⟩) (fun z => absurd (mk.symm.trans z) (by decide)) (by rw [ml]; exact vX10_writePlan (F := fun o' sh' I' R' => o' = .inl (some (.int v)) ∧ sh' = sh ∧ I' = w ∧ R' = R) ⟨rfl, rfl, rfl, rfl⟩ h1) ?_ ?_ ?_
    · rintro sh' I' R' c' hc' ⟨g1, rfl, rfl, rfl⟩
      cases g1
    · rintro v' sh' I' R' c' hc' ⟨g1, rfl, rfl, rfl⟩
      cases g1
      exact kk _ _ _ hc' h2
    · rintro E' sh' I' R' ⟨g1, rfl, rfl, rfl⟩
      cases g1
  · refine s_call (as := [.ref l0]) (G := fun o' sh' I' R' => o' = .inr E ∧ sh' = sh ∧ I' = w ∧ R' = R) hq hc rfl hr (by rw [ml]; rfl) (Or.inl rfl) (fun _ => Or.inl ⟨by rw [mc]; decide, by rw [mc]; exact isT_iff.mp hT⟩) (fun z => absurd (mk.symm.trans z) (by decide)) (by rw [ml]; exact vX10_writePlan (F := fun o' sh' I' R' => o' = .inr E ∧ sh' = sh ∧ I' = w ∧ R' = R) ⟨rfl, rfl, rfl, rfl⟩ h1) ?_ ?_ ?_
    · rintro sh' I' R' c' hc' ⟨g1, rfl, rfl, rfl⟩
      cases g1
    · rintro v' sh' I' R' c' hc' ⟨g1, rfl, rfl, rfl⟩
      cases g1
    · rintro E' sh' I' R' ⟨g1, rfl, rfl, rfl⟩
      cases g1
      exact kx _ _ h2
set_option maxRecDepth 100000 in
set_option maxHeartbeats 4000000 in
def fX10_planByte (fu : Nat) (sh : HS) (I : HI) (R : HR) (l0 : Nat) (l1 : Int32) : Option (Int32 ⊕ String) :=
  if isT sh l0 8 = true then
    (oT0 (fX10_needBoard fu sh I R l0) (fun E => some (.inr E)) fun _ =>
    if 0 ≤ l1 then
      ((oR sh R l0 8 13).bind fun v2 =>
      (oI sh I v2 3 1).bind fun v3 =>
      if l1 < v3 then
        ((oR sh R l0 8 13).bind fun v4 =>
        (oR sh R v4 3 0).bind fun v5 =>
        (oA sh I v5 l1).bind fun v6 =>
        some (.inl v6))
      else
        (some (.inr "java/util/NoSuchElementException")))
    else
      (some (.inr "java/lang/IllegalArgumentException")))
  else none
set_option maxRecDepth 100000 in
set_option maxHeartbeats 4000000 in
theorem vX10_planByte {K J : Nat → Nat} {fu : Nat} {sh : HS} {I : HI} {R : HR} {F : VF} {o : (Int32 ⊕ String)} (hF : F (voI o) sh I R) {l0 : Nat} {l1 : Int32} (h0 : fX10_planByte fu sh I R l0 l1 = some o) : V K J 125 0 (ent 2 [.ref l0, .int l1]) [] sh I R (0, 0) F := by
  unfold fX10_planByte at h0
  obtain ⟨-, h1⟩ := gd h0; clear h0
  have hc0 : ((0 : Nat), (0 : Nat)).1 ≤ 0 ∧ ((0 : Nat), (0 : Nat)).2 ≤ 0 := ⟨Nat.le_refl _, Nat.le_refl _⟩
  show V K J 125 0 [some (.ref l0), some (.int l1)] [] sh I R (0, 0) F
  refine s_rl (i := 0) (pc' := 1) (by decide +kernel) rfl ?_
  refine kX10_needBoard (X := 0) (Y := 0) (X' := 1) (Y' := 6) (pc' := 4) (by decide +kernel) hc0 rfl h1 (fun v1 c hc1 h2 => ?_) (fun E h2 => by have e9 := Option.some.inj h2; subst e9; exact hF); clear h1 hc0
  refine s_il (i := 1) (pc' := 5) (by decide +kernel) rfl ?_
  refine s_if (ins := .ifCond .ge 14) (t := 19) (pc' := 8) (by decide +kernel) rfl rfl rfl h2 (fun p3 h3 => ?_) (fun p3 h3 => ?_) <;> clear h2
  · refine s_il (i := 1) (pc' := 20) (by decide +kernel) rfl ?_
    refine s_rl (i := 0) (pc' := 21) (by decide +kernel) rfl ?_
    refine s_gR (t := 8) (j := 13) (pc' := 24) (by decide +kernel) h3 (fun v2 h4 => ?_); clear h3
    refine s_gI (t := 3) (j := 1) (ty := 0) (pc' := 27) (by decide +kernel) rfl h4 (fun v3 h5 => ?_); clear h4
    refine s_if (ins := .if_icmp .lt 14) (t := 41) (pc' := 30) (by decide +kernel) rfl rfl rfl h5 (fun p6 h6 => ?_) (fun p6 h6 => ?_) <;> clear h5
    · refine s_rl (i := 0) (pc' := 42) (by decide +kernel) rfl ?_
      refine s_gR (t := 8) (j := 13) (pc' := 45) (by decide +kernel) h6 (fun v4 h7 => ?_); clear h6
      refine s_gR (t := 3) (j := 0) (pc' := 48) (by decide +kernel) h7 (fun v5 h8 => ?_); clear h7
      refine s_il (i := 1) (pc' := 49) (by decide +kernel) rfl ?_
      refine s_al (pc' := 50) (by decide +kernel) h8 (fun v6 h9 => ?_); clear h8
      have e9 := Option.some.inj h9; subst e9
      exact s_ri (X := 1) (Y := 6) (by decide +kernel) hc1 hF
    · have e9 := Option.some.inj h6; subst e9
      exact s_th (E := "java/util/NoSuchElementException") (X := 1) (Y := 6) (by decide +kernel) hc1 rfl hF
  · have e9 := Option.some.inj h3; subst e9
    exact s_th (E := "java/lang/IllegalArgumentException") (X := 1) (Y := 6) (by decide +kernel) hc1 rfl hF
set_option maxRecDepth 100000 in
set_option maxHeartbeats 4000000 in
theorem kX10_planByte {K J : Nat → Nat} {fu : Nat} {sh : HS} {I : HI} {R : HR} {F : VF} {mi pc pc' X Y X' Y' : Nat} {L : VL} {rest : List Value} {c : Nat × Nat} {l0 : Nat} {l1 : Int32} {ω : Type} {o : ω} {e : String → Option ω} {g : Int32 → Option ω} (hq : cQ mi pc 125 2 pc' X Y X' Y' = true) (hc : c.1 ≤ X ∧ c.2 ≤ Y) (hr : Nat.ble (catS rest) 8 = true) (h : oT0 (fX10_planByte fu sh I R l0 l1) e g = some o) (kk : ∀ v c', (c'.1 ≤ X' ∧ c'.2 ≤ Y') → g v = some o → V K J mi pc' L ((.int v) :: rest) sh I R c' F) (kx : ∀ E, e E = some o → F (.inr E) sh I R) : V K J mi pc L (.int l1 :: .ref l0 :: rest) sh I R c F := by
  obtain ⟨r, h1, h2⟩ := bnd h
  have hT : isT sh l0 8 = true := by unfold fX10_planByte at h1; exact (gd h1).1
  have ml : mL 125 = 2 := by decide +kernel
  have mk : mK 125 = 1 := by decide +kernel
  have mc : mC 125 = 8 := by decide +kernel
  rcases r with v | E
  · refine s_call (as := [.int l1, .ref l0]) (G := fun o' sh' I' R' => o' = .inl (some (.int v)) ∧ sh' = sh ∧ I' = I ∧ R' = R) hq hc rfl hr (by rw [ml]; rfl) (Or.inl rfl) (fun _ => Or.inl ⟨by rw [mc]; decide, by rw [mc]; exact isT_iff.mp hT⟩) (fun z => absurd (mk.symm.trans z) (by decide)) (by rw [ml]; exact vX10_planByte (F := fun o' sh' I' R' => o' = .inl (some (.int v)) ∧ sh' = sh ∧ I' = I ∧ R' = R) ⟨rfl, rfl, rfl, rfl⟩ h1) ?_ ?_ ?_
    · rintro sh' I' R' c' hc' ⟨g1, rfl, rfl, rfl⟩
      cases g1
    · rintro v' sh' I' R' c' hc' ⟨g1, rfl, rfl, rfl⟩
      cases g1
      exact kk _ _ hc' h2
    · rintro E' sh' I' R' ⟨g1, rfl, rfl, rfl⟩
      cases g1
  · refine s_call (as := [.int l1, .ref l0]) (G := fun o' sh' I' R' => o' = .inr E ∧ sh' = sh ∧ I' = I ∧ R' = R) hq hc rfl hr (by rw [ml]; rfl) (Or.inl rfl) (fun _ => Or.inl ⟨by rw [mc]; decide, by rw [mc]; exact isT_iff.mp hT⟩) (fun z => absurd (mk.symm.trans z) (by decide)) (by rw [ml]; exact vX10_planByte (F := fun o' sh' I' R' => o' = .inr E ∧ sh' = sh ∧ I' = I ∧ R' = R) ⟨rfl, rfl, rfl, rfl⟩ h1) ?_ ?_ ?_
    · rintro sh' I' R' c' hc' ⟨g1, rfl, rfl, rfl⟩
      cases g1
    · rintro v' sh' I' R' c' hc' ⟨g1, rfl, rfl, rfl⟩
      cases g1
    · rintro E' sh' I' R' ⟨g1, rfl, rfl, rfl⟩
      cases g1
      exact kx _ h2
set_option maxRecDepth 100000 in
set_option maxHeartbeats 4000000 in
def fX10_undo (fu : Nat) (sh : HS) (I : HI) (R : HR) (l0 : Nat) : Option ((Int32 ⊕ String) × HI) :=
  if isT sh l0 8 = true then
    (oT0 (fX10_needBoard fu sh I R l0) (fun E => some (.inr E, I)) fun _ =>
    (oR sh R l0 8 7).bind fun v2 =>
    (oI sh I v2 2 2).bind fun v3 =>
    if v3 = 0 then
      (some (.inl (-2), I))
    else
      ((oR sh R l0 8 7).bind fun v4 =>
      (oR sh R l0 8 4).bind fun v5 =>
      (fX3_recall fu sh I R v4 v5).bind fun w6 =>
      (fX10_forgetAnswers fu sh w6 R l0).bind fun w7 =>
      (oR sh R l0 8 7).bind fun v8 =>
      (oI sh w7 v8 2 2).bind fun v9 =>
      some (.inl v9, w7)))
  else none
set_option maxRecDepth 100000 in
set_option maxHeartbeats 4000000 in
theorem vX10_undo {K J : Nat → Nat} {fu : Nat} {sh : HS} {I : HI} {R : HR} {F : VF} {o : ((Int32 ⊕ String) × HI)} (hF : F (voI o.1) sh o.2 R) {l0 : Nat} (h0 : fX10_undo fu sh I R l0 = some o) : V K J 126 0 (ent 1 [.ref l0]) [] sh I R (0, 0) F := by
  unfold fX10_undo at h0
  obtain ⟨-, h1⟩ := gd h0; clear h0
  have hc0 : ((0 : Nat), (0 : Nat)).1 ≤ 0 ∧ ((0 : Nat), (0 : Nat)).2 ≤ 0 := ⟨Nat.le_refl _, Nat.le_refl _⟩
  show V K J 126 0 [some (.ref l0)] [] sh I R (0, 0) F
  refine s_rl (i := 0) (pc' := 1) (by decide +kernel) rfl ?_
  refine kX10_needBoard (X := 0) (Y := 0) (X' := 1) (Y' := 6) (pc' := 4) (by decide +kernel) hc0 rfl h1 (fun v1 c hc1 h2 => ?_) (fun E h2 => by have e9 := Option.some.inj h2; subst e9; exact hF); clear h1 hc0
  refine s_rl (i := 0) (pc' := 5) (by decide +kernel) rfl ?_
  refine s_gR (t := 8) (j := 7) (pc' := 8) (by decide +kernel) h2 (fun v2 h3 => ?_); clear h2
  refine s_gI (t := 2) (j := 2) (ty := 0) (pc' := 11) (by decide +kernel) rfl h3 (fun v3 h4 => ?_); clear h3
  refine s_ifn (ins := .ifCond .ne 6) (t := 17) (pc' := 14) (by decide +kernel) rfl rfl rfl h4 (fun p5 h5 => ?_) (fun p5 h5 => ?_) <;> clear h4
  · refine s_rl (i := 0) (pc' := 18) (by decide +kernel) rfl ?_
    refine s_gR (t := 8) (j := 7) (pc' := 21) (by decide +kernel) h5 (fun v4 h6 => ?_); clear h5
    refine s_rl (i := 0) (pc' := 22) (by decide +kernel) rfl ?_
    refine s_gR (t := 8) (j := 4) (pc' := 25) (by decide +kernel) h6 (fun v5 h7 => ?_); clear h6
    refine kX3_recall (X := 1) (Y := 6) (X' := 1) (Y' := 6) (pc' := 28) (by decide +kernel) hc1 rfl h7 (fun w6 c hc2 h8 => ?_); clear h7 hc1
    refine s_rl (i := 0) (pc' := 29) (by decide +kernel) rfl ?_
    refine kX10_forgetAnswers (X := 1) (Y := 6) (X' := 1) (Y' := 6) (pc' := 32) (by decide +kernel) hc2 rfl h8 (fun w7 c hc3 h9 => ?_); clear h8 hc2
    refine s_rl (i := 0) (pc' := 33) (by decide +kernel) rfl ?_
    refine s_gR (t := 8) (j := 7) (pc' := 36) (by decide +kernel) h9 (fun v8 h10 => ?_); clear h9
    refine s_gI (t := 2) (j := 2) (ty := 0) (pc' := 39) (by decide +kernel) rfl h10 (fun v9 h11 => ?_); clear h10
    have e9 := Option.some.inj h11; subst e9
    exact s_ri (X := 1) (Y := 6) (by decide +kernel) hc3 hF
  · refine s_c (v := (-2)) (pc' := 16) (by decide +kernel) ?_
    have e9 := Option.some.inj h5; subst e9
    exact s_ri (X := 1) (Y := 6) (by decide +kernel) hc1 hF
set_option maxRecDepth 100000 in
set_option maxHeartbeats 4000000 in
theorem kX10_undo {K J : Nat → Nat} {fu : Nat} {sh : HS} {I : HI} {R : HR} {F : VF} {mi pc pc' X Y X' Y' : Nat} {L : VL} {rest : List Value} {c : Nat × Nat} {l0 : Nat} {ω : Type} {o : ω} {e : String → HI → Option ω} {g : Int32 → HI → Option ω} (hq : cQ mi pc 126 1 pc' X Y X' Y' = true) (hc : c.1 ≤ X ∧ c.2 ≤ Y) (hr : Nat.ble (catS rest) 8 = true) (h : oTh (fX10_undo fu sh I R l0) e g = some o) (kk : ∀ v w c', (c'.1 ≤ X' ∧ c'.2 ≤ Y') → g v w = some o → V K J mi pc' L ((.int v) :: rest) sh w R c' F) (kx : ∀ E w, e E w = some o → F (.inr E) sh w R) : V K J mi pc L (.ref l0 :: rest) sh I R c F := by
  obtain ⟨r, h1, h2⟩ := bnd h
  have hT : isT sh l0 8 = true := by unfold fX10_undo at h1; exact (gd h1).1
  have ml : mL 126 = 1 := by decide +kernel
  have mk : mK 126 = 1 := by decide +kernel
  have mc : mC 126 = 8 := by decide +kernel
  obtain ⟨r, w⟩ := r
  rcases r with v | E
  · refine s_call (as := [.ref l0]) (G := fun o' sh' I' R' => o' = .inl (some (.int v)) ∧ sh' = sh ∧ I' = w ∧ R' = R) hq hc rfl hr (by rw [ml]; rfl) (Or.inl rfl) (fun _ => Or.inl ⟨by rw [mc]; decide, by rw [mc]; exact isT_iff.mp hT⟩) (fun z => absurd (mk.symm.trans z) (by decide)) (by rw [ml]; exact vX10_undo (F := fun o' sh' I' R' => o' = .inl (some (.int v)) ∧ sh' = sh ∧ I' = w ∧ R' = R) ⟨rfl, rfl, rfl, rfl⟩ h1) ?_ ?_ ?_
    · rintro sh' I' R' c' hc' ⟨g1, rfl, rfl, rfl⟩
      cases g1
    · rintro v' sh' I' R' c' hc' ⟨g1, rfl, rfl, rfl⟩
      cases g1
      exact kk _ _ _ hc' h2
    · rintro E' sh' I' R' ⟨g1, rfl, rfl, rfl⟩
      cases g1
  · refine s_call (as := [.ref l0]) (G := fun o' sh' I' R' => o' = .inr E ∧ sh' = sh ∧ I' = w ∧ R' = R) hq hc rfl hr (by rw [ml]; rfl) (Or.inl rfl) (fun _ => Or.inl ⟨by rw [mc]; decide, by rw [mc]; exact isT_iff.mp hT⟩) (fun z => absurd (mk.symm.trans z) (by decide)) (by rw [ml]; exact vX10_undo (F := fun o' sh' I' R' => o' = .inr E ∧ sh' = sh ∧ I' = w ∧ R' = R) ⟨rfl, rfl, rfl, rfl⟩ h1) ?_ ?_ ?_
    · rintro sh' I' R' c' hc' ⟨g1, rfl, rfl, rfl⟩
      cases g1
    · rintro v' sh' I' R' c' hc' ⟨g1, rfl, rfl, rfl⟩
      cases g1
    · rintro E' sh' I' R' ⟨g1, rfl, rfl, rfl⟩
      cases g1
      exact kx _ _ h2
set_option maxRecDepth 100000 in
set_option maxHeartbeats 4000000 in
def fX11_thrown (fu : Nat) (sh : HS) (I : HI) (R : HR) (l0 : Nat) : Option Int32 :=
  if isT sh l0 9 = true then
    ((oI sh I l0 9 5).bind fun v1 =>
    some v1)
  else none
set_option maxRecDepth 100000 in
set_option maxHeartbeats 4000000 in
theorem vX11_thrown {K J : Nat → Nat} {fu : Nat} {sh : HS} {I : HI} {R : HR} {F : VF} {o : Int32} (hF : F (.inl (some (.int o))) sh I R) {l0 : Nat} (h0 : fX11_thrown fu sh I R l0 = some o) : V K J 149 0 (ent 1 [.ref l0]) [] sh I R (0, 0) F := by
  unfold fX11_thrown at h0
  obtain ⟨-, h1⟩ := gd h0; clear h0
  have hc0 : ((0 : Nat), (0 : Nat)).1 ≤ 0 ∧ ((0 : Nat), (0 : Nat)).2 ≤ 0 := ⟨Nat.le_refl _, Nat.le_refl _⟩
  show V K J 149 0 [some (.ref l0)] [] sh I R (0, 0) F
  refine s_rl (i := 0) (pc' := 1) (by decide +kernel) rfl ?_
  refine s_gI (t := 9) (j := 5) (ty := 0) (pc' := 4) (by decide +kernel) rfl h1 (fun v1 h2 => ?_); clear h1
  have e9 := Option.some.inj h2; subst e9
  exact s_ri (X := 0) (Y := 0) (by decide +kernel) hc0 hF
set_option maxRecDepth 100000 in
set_option maxHeartbeats 4000000 in
theorem kX11_thrown {K J : Nat → Nat} {fu : Nat} {sh : HS} {I : HI} {R : HR} {F : VF} {mi pc pc' X Y X' Y' : Nat} {L : VL} {rest : List Value} {c : Nat × Nat} {l0 : Nat} {ω : Type} {o : ω} {g : Int32 → Option ω} (hq : cQ mi pc 149 1 pc' X Y X' Y' = true) (hc : c.1 ≤ X ∧ c.2 ≤ Y) (hr : Nat.ble (catS rest) 8 = true) (h : (fX11_thrown fu sh I R l0).bind g = some o) (kk : ∀ v c', (c'.1 ≤ X' ∧ c'.2 ≤ Y') → g v = some o → V K J mi pc' L ((.int v) :: rest) sh I R c' F) : V K J mi pc L (.ref l0 :: rest) sh I R c F := by
  obtain ⟨r, h1, h2⟩ := bnd h
  have hT : isT sh l0 9 = true := by unfold fX11_thrown at h1; exact (gd h1).1
  have ml : mL 149 = 1 := by decide +kernel
  have mk : mK 149 = 1 := by decide +kernel
  have mc : mC 149 = 9 := by decide +kernel
  refine s_call (as := [.ref l0]) (G := fun o' sh' I' R' => o' = .inl (some (.int r)) ∧ sh' = sh ∧ I' = I ∧ R' = R) hq hc rfl hr (by rw [ml]; rfl) (Or.inl rfl) (fun _ => Or.inl ⟨by rw [mc]; decide, by rw [mc]; exact isT_iff.mp hT⟩) (fun z => absurd (mk.symm.trans z) (by decide)) (by rw [ml]; exact vX11_thrown (F := fun o' sh' I' R' => o' = .inl (some (.int r)) ∧ sh' = sh ∧ I' = I ∧ R' = R) ⟨rfl, rfl, rfl, rfl⟩ h1) ?_ ?_ ?_
  · rintro sh' I' R' c' hc' ⟨g1, rfl, rfl, rfl⟩
    cases g1
  · rintro v' sh' I' R' c' hc' ⟨g1, rfl, rfl, rfl⟩
    cases g1
    exact kk _ _ hc' h2
  · rintro E' sh' I' R' ⟨g1, rfl, rfl, rfl⟩
    cases g1
set_option maxRecDepth 100000 in
set_option maxHeartbeats 4000000 in
def fX11_isIn_b18 (fu : Nat) (sh : HS) (I : HI) (R : HR) (s0 : Int32) : Option Int32 :=
  (oZ s0).bind fun z1 =>
  some z1
set_option maxRecDepth 100000 in
set_option maxHeartbeats 4000000 in
theorem vX11_isIn_b18 {K J : Nat → Nat} {fu : Nat} {sh : HS} {I : HI} {R : HR} {F : VF} {o : Int32} (hF : F (.inl (some (.int o))) sh I R) {s0 : Int32} {d0 d1 d2 d3 d4 d5 : Option Value} {c : Nat × Nat} (hc0 : c.1 ≤ 0 ∧ c.2 ≤ 0) (h0 : fX11_isIn_b18 fu sh I R s0 = some o) : V K J 150 18 [d0, d1, d2, d3, d4, d5] [.int s0] sh I R c F := by
  unfold fX11_isIn_b18 at h0
  obtain ⟨hz, h1⟩ := oZb h0
  have e9 := Option.some.inj h1; subst e9
  exact s_rz (X := 0) (Y := 0) (by decide +kernel) hz hc0 hF
set_option maxRecDepth 100000 in
set_option maxHeartbeats 4000000 in
def fX11_isIn_b17 (fu : Nat) (sh : HS) (I : HI) (R : HR) : Option Int32 :=
  (fX11_isIn_b18 fu sh I R) 0
set_option maxRecDepth 100000 in
set_option maxHeartbeats 4000000 in
theorem vX11_isIn_b17 {K J : Nat → Nat} {fu : Nat} {sh : HS} {I : HI} {R : HR} {F : VF} {o : Int32} (hF : F (.inl (some (.int o))) sh I R) {d0 d1 d2 d3 d4 d5 : Option Value} {c : Nat × Nat} (hc0 : c.1 ≤ 0 ∧ c.2 ≤ 0) (h0 : fX11_isIn_b17 fu sh I R = some o) : V K J 150 17 [d0, d1, d2, d3, d4, d5] [] sh I R c F := by
  unfold fX11_isIn_b17 at h0
  refine s_c (v := 0) (pc' := 18) (by decide +kernel) ?_
  exact (vX11_isIn_b18 hF) hc0 h0
set_option maxRecDepth 100000 in
set_option maxHeartbeats 4000000 in
def fX11_isIn (fu : Nat) (sh : HS) (I : HI) (R : HR) (l0 : Int64) (l2 : Int64) (l4 : Int64) : Option Int32 :=
  if (lg_cmp l0 l2) < 0 then
    ((fX11_isIn_b17 fu sh I R))
  else
    (if 0 < (lg_cmp l0 l4) then
      ((fX11_isIn_b17 fu sh I R))
    else
      ((fX11_isIn_b18 fu sh I R) 1))
set_option maxRecDepth 100000 in
set_option maxHeartbeats 4000000 in
theorem vX11_isIn {K J : Nat → Nat} {fu : Nat} {sh : HS} {I : HI} {R : HR} {F : VF} {o : Int32} (hF : F (.inl (some (.int o))) sh I R) {l0 : Int64} {l2 : Int64} {l4 : Int64} (h0 : fX11_isIn fu sh I R l0 l2 l4 = some o) : V K J 150 0 (ent 6 [.long l0, .long l2, .long l4]) [] sh I R (0, 0) F := by
  unfold fX11_isIn at h0
  have h1 := h0; clear h0
  have hc0 : ((0 : Nat), (0 : Nat)).1 ≤ 0 ∧ ((0 : Nat), (0 : Nat)).2 ≤ 0 := ⟨Nat.le_refl _, Nat.le_refl _⟩
  show V K J 150 0 [some (.long l0), none, some (.long l2), none, some (.long l4), none] [] sh I R (0, 0) F
  refine s_ll (i := 0) (pc' := 1) (by decide +kernel) rfl ?_
  refine s_ll (i := 2) (pc' := 2) (by decide +kernel) rfl ?_
  refine s_a (ins := .lcmp) (pc' := 3) (by decide +kernel) rfl ?_
  refine s_if (ins := .ifCond .lt 14) (t := 17) (pc' := 6) (by decide +kernel) rfl rfl rfl h1 (fun p2 h2 => ?_) (fun p2 h2 => ?_) <;> clear h1
  · exact (vX11_isIn_b17 hF) hc0 h2
  · refine s_ll (i := 0) (pc' := 7) (by decide +kernel) rfl ?_
    refine s_ll (i := 4) (pc' := 9) (by decide +kernel) rfl ?_
    refine s_a (ins := .lcmp) (pc' := 10) (by decide +kernel) rfl ?_
    refine s_if (ins := .ifCond .gt 7) (t := 17) (pc' := 13) (by decide +kernel) rfl rfl rfl h2 (fun p3 h3 => ?_) (fun p3 h3 => ?_) <;> clear h2
    · exact (vX11_isIn_b17 hF) hc0 h3
    · refine s_c (v := 1) (pc' := 14) (by decide +kernel) ?_
      refine s_go (t := 18) (by decide +kernel) ?_
      exact (vX11_isIn_b18 hF) hc0 h3
set_option maxRecDepth 100000 in
set_option maxHeartbeats 4000000 in
theorem kX11_isIn {K J : Nat → Nat} {fu : Nat} {sh : HS} {I : HI} {R : HR} {F : VF} {mi pc pc' X Y X' Y' : Nat} {L : VL} {rest : List Value} {c : Nat × Nat} {l0 : Int64} {l2 : Int64} {l4 : Int64} {ω : Type} {o : ω} {g : Int32 → Option ω} (hq : cQ mi pc 150 3 pc' X Y X' Y' = true) (hc : c.1 ≤ X ∧ c.2 ≤ Y) (hr : Nat.ble (catS rest) 8 = true) (h : (fX11_isIn fu sh I R l0 l2 l4).bind g = some o) (kk : ∀ v c', (c'.1 ≤ X' ∧ c'.2 ≤ Y') → g v = some o → V K J mi pc' L ((.int v) :: rest) sh I R c' F) : V K J mi pc L (.long l4 :: .long l2 :: .long l0 :: rest) sh I R c F := by
  obtain ⟨r, h1, h2⟩ := bnd h
  have ml : mL 150 = 6 := by decide +kernel
  have mk : mK 150 = 0 := by decide +kernel
  refine s_call (as := [.long l4, .long l2, .long l0]) (G := fun o' sh' I' R' => o' = .inl (some (.int r)) ∧ sh' = sh ∧ I' = I ∧ R' = R) hq hc rfl hr (by rw [ml]; rfl) (Or.inr (by decide +kernel)) (fun z => absurd (mk.symm.trans z) (by decide)) (fun z => absurd (mk.symm.trans z) (by decide)) (by rw [ml]; exact vX11_isIn (F := fun o' sh' I' R' => o' = .inl (some (.int r)) ∧ sh' = sh ∧ I' = I ∧ R' = R) ⟨rfl, rfl, rfl, rfl⟩ h1) ?_ ?_ ?_
  · rintro sh' I' R' c' hc' ⟨g1, rfl, rfl, rfl⟩
    cases g1
  · rintro v' sh' I' R' c' hc' ⟨g1, rfl, rfl, rfl⟩
    cases g1
    exact kk _ _ hc' h2
  · rintro E' sh' I' R' ⟨g1, rfl, rfl, rfl⟩
    cases g1
set_option maxRecDepth 100000 in
set_option maxHeartbeats 4000000 in
def fX11_has_b14 (fu : Nat) (sh : HS) (I : HI) (R : HR) (s0 : Int32) : Option Int32 :=
  (oZ s0).bind fun z1 =>
  some z1
set_option maxRecDepth 100000 in
set_option maxHeartbeats 4000000 in
theorem vX11_has_b14 {K J : Nat → Nat} {fu : Nat} {sh : HS} {I : HI} {R : HR} {F : VF} {o : Int32} (hF : F (.inl (some (.int o))) sh I R) {s0 : Int32} {d0 d1 : Option Value} {c : Nat × Nat} (hc0 : c.1 ≤ 0 ∧ c.2 ≤ 0) (h0 : fX11_has_b14 fu sh I R s0 = some o) : V K J 151 14 [d0, d1] [.int s0] sh I R c F := by
  unfold fX11_has_b14 at h0
  obtain ⟨hz, h1⟩ := oZb h0
  have e9 := Option.some.inj h1; subst e9
  exact s_rz (X := 0) (Y := 0) (by decide +kernel) hz hc0 hF
set_option maxRecDepth 100000 in
set_option maxHeartbeats 4000000 in
def fX11_has (fu : Nat) (sh : HS) (I : HI) (R : HR) (l0 : Int32) (l1 : Int32) : Option Int32 :=
  if ((l0 >>> (l1 &&& 31)) &&& 1) = 1 then
    ((fX11_has_b14 fu sh I R) 1)
  else
    ((fX11_has_b14 fu sh I R) 0)
set_option maxRecDepth 100000 in
set_option maxHeartbeats 4000000 in
theorem vX11_has {K J : Nat → Nat} {fu : Nat} {sh : HS} {I : HI} {R : HR} {F : VF} {o : Int32} (hF : F (.inl (some (.int o))) sh I R) {l0 : Int32} {l1 : Int32} (h0 : fX11_has fu sh I R l0 l1 = some o) : V K J 151 0 (ent 2 [.int l0, .int l1]) [] sh I R (0, 0) F := by
  unfold fX11_has at h0
  have h1 := h0; clear h0
  have hc0 : ((0 : Nat), (0 : Nat)).1 ≤ 0 ∧ ((0 : Nat), (0 : Nat)).2 ≤ 0 := ⟨Nat.le_refl _, Nat.le_refl _⟩
  show V K J 151 0 [some (.int l0), some (.int l1)] [] sh I R (0, 0) F
  refine s_il (i := 0) (pc' := 1) (by decide +kernel) rfl ?_
  refine s_il (i := 1) (pc' := 2) (by decide +kernel) rfl ?_
  refine s_a (ins := .ishr) (pc' := 3) (by decide +kernel) rfl ?_
  refine s_c (v := 1) (pc' := 4) (by decide +kernel) ?_
  refine s_a (ins := .iand) (pc' := 5) (by decide +kernel) rfl ?_
  refine s_c (v := 1) (pc' := 6) (by decide +kernel) ?_
  refine s_ifn (ins := .if_icmp .ne 7) (t := 13) (pc' := 9) (by decide +kernel) rfl rfl rfl h1 (fun p2 h2 => ?_) (fun p2 h2 => ?_) <;> clear h1
  · refine s_c (v := 0) (pc' := 14) (by decide +kernel) ?_
    exact (vX11_has_b14 hF) hc0 h2
  · refine s_c (v := 1) (pc' := 10) (by decide +kernel) ?_
    refine s_go (t := 14) (by decide +kernel) ?_
    exact (vX11_has_b14 hF) hc0 h2
set_option maxRecDepth 100000 in
set_option maxHeartbeats 4000000 in
theorem kX11_has {K J : Nat → Nat} {fu : Nat} {sh : HS} {I : HI} {R : HR} {F : VF} {mi pc pc' X Y X' Y' : Nat} {L : VL} {rest : List Value} {c : Nat × Nat} {l0 : Int32} {l1 : Int32} {ω : Type} {o : ω} {g : Int32 → Option ω} (hq : cQ mi pc 151 2 pc' X Y X' Y' = true) (hc : c.1 ≤ X ∧ c.2 ≤ Y) (hr : Nat.ble (catS rest) 8 = true) (h : (fX11_has fu sh I R l0 l1).bind g = some o) (kk : ∀ v c', (c'.1 ≤ X' ∧ c'.2 ≤ Y') → g v = some o → V K J mi pc' L ((.int v) :: rest) sh I R c' F) : V K J mi pc L (.int l1 :: .int l0 :: rest) sh I R c F := by
  obtain ⟨r, h1, h2⟩ := bnd h
  have ml : mL 151 = 2 := by decide +kernel
  have mk : mK 151 = 0 := by decide +kernel
  refine s_call (as := [.int l1, .int l0]) (G := fun o' sh' I' R' => o' = .inl (some (.int r)) ∧ sh' = sh ∧ I' = I ∧ R' = R) hq hc rfl hr (by rw [ml]; rfl) (Or.inl rfl) (fun z => absurd (mk.symm.trans z) (by decide)) (fun z => absurd (mk.symm.trans z) (by decide)) (by rw [ml]; exact vX11_has (F := fun o' sh' I' R' => o' = .inl (some (.int r)) ∧ sh' = sh ∧ I' = I ∧ R' = R) ⟨rfl, rfl, rfl, rfl⟩ h1) ?_ ?_ ?_
  · rintro sh' I' R' c' hc' ⟨g1, rfl, rfl, rfl⟩
    cases g1
  · rintro v' sh' I' R' c' hc' ⟨g1, rfl, rfl, rfl⟩
    cases g1
    exact kk _ _ hc' h2
  · rintro E' sh' I' R' ⟨g1, rfl, rfl, rfl⟩
    cases g1
set_option maxRecDepth 100000 in
set_option maxHeartbeats 4000000 in
def fX11_sizeOf_b4 (fu : Nat) (sh : HS) (I : HI) (R : HR) (k4 : Int32 → Int32 → Int32 → Option Int32) (l0 : Int32) (l1 : Int32) (l2 : Int32) : Option Int32 :=
  if 12 ≤ l2 then
    (some l1)
  else
    (k4 l0 (l1 + ((l0 >>> (l2 &&& 31)) &&& 1)) (l2 + 1))
set_option maxRecDepth 100000 in
set_option maxHeartbeats 4000000 in
theorem vX11_sizeOf_b4 {K J : Nat → Nat} {fu : Nat} {sh : HS} {I : HI} {R : HR} {F : VF} {o : Int32} (hF : F (.inl (some (.int o))) sh I R) {k4 : Int32 → Int32 → Int32 → Option Int32} (hk4 : ∀ {l0 : Int32} {l1 : Int32} {l2 : Int32}  {c : Nat × Nat}, (c.1 ≤ 0 ∧ c.2 ≤ 0) → k4 l0 l1 l2 = some o → V K J 152 4 [some (.int l0), some (.int l1), some (.int l2)] [] sh I R c F) {l0 : Int32} {l1 : Int32} {l2 : Int32} {c : Nat × Nat} (hc0 : c.1 ≤ 0 ∧ c.2 ≤ 0) (h0 : fX11_sizeOf_b4 fu sh I R k4 l0 l1 l2 = some o) : V K J 152 4 [some (.int l0), some (.int l1), some (.int l2)] [] sh I R c F := by
  unfold fX11_sizeOf_b4 at h0
  refine s_il (i := 2) (pc' := 5) (by decide +kernel) rfl ?_
  refine s_c (v := 12) (pc' := 7) (by decide +kernel) ?_
  refine s_if (ins := .if_icmp .ge 17) (t := 24) (pc' := 10) (by decide +kernel) rfl rfl rfl h0 (fun p1 h1 => ?_) (fun p1 h1 => ?_) <;> clear h0
  · refine s_il (i := 1) (pc' := 25) (by decide +kernel) rfl ?_
    have e9 := Option.some.inj h1; subst e9
    exact s_ri (X := 0) (Y := 0) (by decide +kernel) hc0 hF
  · refine s_il (i := 1) (pc' := 11) (by decide +kernel) rfl ?_
    refine s_il (i := 0) (pc' := 12) (by decide +kernel) rfl ?_
    refine s_il (i := 2) (pc' := 13) (by decide +kernel) rfl ?_
    refine s_a (ins := .ishr) (pc' := 14) (by decide +kernel) rfl ?_
    refine s_c (v := 1) (pc' := 15) (by decide +kernel) ?_
    refine s_a (ins := .iand) (pc' := 16) (by decide +kernel) rfl ?_
    refine s_a (ins := .iadd) (pc' := 17) (by decide +kernel) rfl ?_
    refine s_is (i := 1) (pc' := 18) (L' := [some (.int l0), some (.int (l1 + ((l0 >>> (l2 &&& 31)) &&& 1))), some (.int l2)]) (by decide +kernel) rfl rfl ?_
    refine s_inc (i := 2) (z := 1) (pc' := 21) (L' := [some (.int l0), some (.int (l1 + ((l0 >>> (l2 &&& 31)) &&& 1))), some (.int (l2 + 1))]) (by decide +kernel) rfl rfl rfl ?_
    refine s_go (t := 4) (by decide +kernel) ?_
    exact hk4 hc0 h1
set_option maxRecDepth 100000 in
set_option maxHeartbeats 4000000 in
def fX11_sizeOf_l4 (fu : Nat) (sh : HS) (I : HI) (R : HR) : Nat → Int32 → Int32 → Int32 → Option Int32
  | 0 => fun _ _ _ => none
  | n + 1 => fX11_sizeOf_b4 fu sh I R (fX11_sizeOf_l4 fu sh I R n)
set_option maxRecDepth 100000 in
set_option maxHeartbeats 4000000 in
theorem vX11_sizeOf_l4 {K J : Nat → Nat} {fu : Nat} {sh : HS} {I : HI} {R : HR} {F : VF} {o : Int32} (hF : F (.inl (some (.int o))) sh I R) : ∀ (n : Nat) {l0 : Int32} {l1 : Int32} {l2 : Int32} {c : Nat × Nat} (_ : c.1 ≤ 0 ∧ c.2 ≤ 0) (_ : fX11_sizeOf_l4 fu sh I R n l0 l1 l2 = some o), V K J 152 4 [some (.int l0), some (.int l1), some (.int l2)] [] sh I R c F := by
  intro n
  induction n with
  | zero => exact fun _ h0 => nomatch h0
  | succ n ih => exact fun hc0 h0 => vX11_sizeOf_b4 hF ih hc0 h0
set_option maxRecDepth 100000 in
set_option maxHeartbeats 4000000 in
def fX11_sizeOf (fu : Nat) (sh : HS) (I : HI) (R : HR) (l0 : Int32) : Option Int32 :=
  (fX11_sizeOf_l4 fu sh I R fu) l0 0 0
set_option maxRecDepth 100000 in
set_option maxHeartbeats 4000000 in
theorem vX11_sizeOf {K J : Nat → Nat} {fu : Nat} {sh : HS} {I : HI} {R : HR} {F : VF} {o : Int32} (hF : F (.inl (some (.int o))) sh I R) {l0 : Int32} (h0 : fX11_sizeOf fu sh I R l0 = some o) : V K J 152 0 (ent 3 [.int l0]) [] sh I R (0, 0) F := by
  unfold fX11_sizeOf at h0
  have h1 := h0; clear h0
  have hc0 : ((0 : Nat), (0 : Nat)).1 ≤ 0 ∧ ((0 : Nat), (0 : Nat)).2 ≤ 0 := ⟨Nat.le_refl _, Nat.le_refl _⟩
  show V K J 152 0 [some (.int l0), none, none] [] sh I R (0, 0) F
  refine s_c (v := 0) (pc' := 1) (by decide +kernel) ?_
  refine s_is (i := 1) (pc' := 2) (L' := [some (.int l0), some (.int 0), none]) (by decide +kernel) rfl rfl ?_
  refine s_c (v := 0) (pc' := 3) (by decide +kernel) ?_
  refine s_is (i := 2) (pc' := 4) (L' := [some (.int l0), some (.int 0), some (.int 0)]) (by decide +kernel) rfl rfl ?_
  exact (vX11_sizeOf_l4 hF fu) hc0 h1
set_option maxRecDepth 100000 in
set_option maxHeartbeats 4000000 in
theorem kX11_sizeOf {K J : Nat → Nat} {fu : Nat} {sh : HS} {I : HI} {R : HR} {F : VF} {mi pc pc' X Y X' Y' : Nat} {L : VL} {rest : List Value} {c : Nat × Nat} {l0 : Int32} {ω : Type} {o : ω} {g : Int32 → Option ω} (hq : cQ mi pc 152 1 pc' X Y X' Y' = true) (hc : c.1 ≤ X ∧ c.2 ≤ Y) (hr : Nat.ble (catS rest) 8 = true) (h : (fX11_sizeOf fu sh I R l0).bind g = some o) (kk : ∀ v c', (c'.1 ≤ X' ∧ c'.2 ≤ Y') → g v = some o → V K J mi pc' L ((.int v) :: rest) sh I R c' F) : V K J mi pc L (.int l0 :: rest) sh I R c F := by
  obtain ⟨r, h1, h2⟩ := bnd h
  have ml : mL 152 = 3 := by decide +kernel
  have mk : mK 152 = 0 := by decide +kernel
  refine s_call (as := [.int l0]) (G := fun o' sh' I' R' => o' = .inl (some (.int r)) ∧ sh' = sh ∧ I' = I ∧ R' = R) hq hc rfl hr (by rw [ml]; rfl) (Or.inl rfl) (fun z => absurd (mk.symm.trans z) (by decide)) (fun z => absurd (mk.symm.trans z) (by decide)) (by rw [ml]; exact vX11_sizeOf (F := fun o' sh' I' R' => o' = .inl (some (.int r)) ∧ sh' = sh ∧ I' = I ∧ R' = R) ⟨rfl, rfl, rfl, rfl⟩ h1) ?_ ?_ ?_
  · rintro sh' I' R' c' hc' ⟨g1, rfl, rfl, rfl⟩
    cases g1
  · rintro v' sh' I' R' c' hc' ⟨g1, rfl, rfl, rfl⟩
    cases g1
    exact kk _ _ hc' h2
  · rintro E' sh' I' R' ⟨g1, rfl, rfl, rfl⟩
    cases g1
set_option maxRecDepth 100000 in
set_option maxHeartbeats 4000000 in
def fX11_isWrong_b36 (fu : Nat) (sh : HS) (R : HR) (I : HI) (s0 : Int32) : Option (Int32 × HI) :=
  (oZ s0).bind fun z4 =>
  some (z4, I)
set_option maxRecDepth 100000 in
set_option maxHeartbeats 4000000 in
theorem vX11_isWrong_b36 {K J : Nat → Nat} {fu : Nat} {sh : HS} {R : HR} {F : VF} {o : (Int32 × HI)} (hF : F (.inl (some (.int o.1))) sh o.2 R) {I : HI} {s0 : Int32} {d0 d1 : Option Value} {c : Nat × Nat} (hc0 : c.1 ≤ 0 ∧ c.2 ≤ 0) (h0 : fX11_isWrong_b36 fu sh R I s0 = some o) : V K J 153 36 [d0, d1] [.int s0] sh I R c F := by
  unfold fX11_isWrong_b36 at h0
  obtain ⟨hz, h1⟩ := oZb h0
  have e9 := Option.some.inj h1; subst e9
  exact s_rz (X := 0) (Y := 0) (by decide +kernel) hz hc0 hF
set_option maxRecDepth 100000 in
set_option maxHeartbeats 4000000 in
def fX11_isWrong_b21 (fu : Nat) (sh : HS) (R : HR) (I : HI) (l0 : Nat) (s0 : Int32) (s1 : Nat) : Option (Int32 × HI) :=
  (oP sh I s1 9 5 s0).bind fun v2 =>
  (oI sh v2 l0 9 5).bind fun v3 =>
  if v3 ≤ 0 then
    ((fX11_isWrong_b36 fu sh R) v2 0)
  else
    ((fX11_isWrong_b36 fu sh R) v2 1)
set_option maxRecDepth 100000 in
set_option maxHeartbeats 4000000 in
theorem vX11_isWrong_b21 {K J : Nat → Nat} {fu : Nat} {sh : HS} {R : HR} {F : VF} {o : (Int32 × HI)} (hF : F (.inl (some (.int o.1))) sh o.2 R) {I : HI} {l0 : Nat} {s0 : Int32} {s1 : Nat} {d1 : Option Value} {c : Nat × Nat} (hc0 : c.1 ≤ 0 ∧ c.2 ≤ 0) (h0 : fX11_isWrong_b21 fu sh R I l0 s0 s1 = some o) : V K J 153 21 [some (.ref l0), d1] [.int s0, .ref s1] sh I R c F := by
  unfold fX11_isWrong_b21 at h0
  refine s_pI (t := 9) (j := 5) (ty := 0) (pc' := 24) (by decide +kernel) (Or.inl rfl) h0 (fun v2 h1 => ?_); clear h0
  refine s_rl (i := 0) (pc' := 25) (by decide +kernel) rfl ?_
  refine s_gI (t := 9) (j := 5) (ty := 0) (pc' := 28) (by decide +kernel) rfl h1 (fun v3 h2 => ?_); clear h1
  refine s_if (ins := .ifCond .le 7) (t := 35) (pc' := 31) (by decide +kernel) rfl rfl rfl h2 (fun p3 h3 => ?_) (fun p3 h3 => ?_) <;> clear h2
  · refine s_c (v := 0) (pc' := 36) (by decide +kernel) ?_
    exact (vX11_isWrong_b36 hF) hc0 h3
  · refine s_c (v := 1) (pc' := 32) (by decide +kernel) ?_
    refine s_go (t := 36) (by decide +kernel) ?_
    exact (vX11_isWrong_b36 hF) hc0 h3
set_option maxRecDepth 100000 in
set_option maxHeartbeats 4000000 in
def fX11_isWrong (fu : Nat) (sh : HS) (I : HI) (R : HR) (l0 : Nat) (l1 : Int32) : Option (Int32 × HI) :=
  if isT sh l0 9 = true then
    ((oI sh I l0 9 4).bind fun v1 =>
    if v1 = 0 then
      ((fX11_isWrong_b21 fu sh R) I l0 1 l0)
    else
      (if l1 = 0 then
        ((fX11_isWrong_b21 fu sh R) I l0 2 l0)
      else
        ((fX11_isWrong_b21 fu sh R) I l0 0 l0)))
  else none
set_option maxRecDepth 100000 in
set_option maxHeartbeats 4000000 in
theorem vX11_isWrong {K J : Nat → Nat} {fu : Nat} {sh : HS} {I : HI} {R : HR} {F : VF} {o : (Int32 × HI)} (hF : F (.inl (some (.int o.1))) sh o.2 R) {l0 : Nat} {l1 : Int32} (h0 : fX11_isWrong fu sh I R l0 l1 = some o) : V K J 153 0 (ent 2 [.ref l0, .int l1]) [] sh I R (0, 0) F := by
  unfold fX11_isWrong at h0
  obtain ⟨-, h1⟩ := gd h0; clear h0
  have hc0 : ((0 : Nat), (0 : Nat)).1 ≤ 0 ∧ ((0 : Nat), (0 : Nat)).2 ≤ 0 := ⟨Nat.le_refl _, Nat.le_refl _⟩
  show V K J 153 0 [some (.ref l0), some (.int l1)] [] sh I R (0, 0) F
  refine s_rl (i := 0) (pc' := 1) (by decide +kernel) rfl ?_
  refine s_rl (i := 0) (pc' := 2) (by decide +kernel) rfl ?_
  refine s_gI (t := 9) (j := 4) (ty := 1) (pc' := 5) (by decide +kernel) rfl h1 (fun v1 h2 => ?_); clear h1
  refine s_ifn (ins := .ifCond .ne 7) (t := 12) (pc' := 8) (by decide +kernel) rfl rfl rfl h2 (fun p3 h3 => ?_) (fun p3 h3 => ?_) <;> clear h2
  · refine s_il (i := 1) (pc' := 13) (by decide +kernel) rfl ?_
    refine s_if (ins := .ifCond .eq 7) (t := 20) (pc' := 16) (by decide +kernel) rfl rfl rfl h3 (fun p4 h4 => ?_) (fun p4 h4 => ?_) <;> clear h3
    · refine s_c (v := 2) (pc' := 21) (by decide +kernel) ?_
      exact (vX11_isWrong_b21 hF) hc0 h4
    · refine s_c (v := 0) (pc' := 17) (by decide +kernel) ?_
      refine s_go (t := 21) (by decide +kernel) ?_
      exact (vX11_isWrong_b21 hF) hc0 h4
  · refine s_c (v := 1) (pc' := 9) (by decide +kernel) ?_
    refine s_go (t := 21) (by decide +kernel) ?_
    exact (vX11_isWrong_b21 hF) hc0 h3
set_option maxRecDepth 100000 in
set_option maxHeartbeats 4000000 in
theorem kX11_isWrong {K J : Nat → Nat} {fu : Nat} {sh : HS} {I : HI} {R : HR} {F : VF} {mi pc pc' X Y X' Y' : Nat} {L : VL} {rest : List Value} {c : Nat × Nat} {l0 : Nat} {l1 : Int32} {ω : Type} {o : ω} {g : Int32 → HI → Option ω} (hq : cQ mi pc 153 2 pc' X Y X' Y' = true) (hc : c.1 ≤ X ∧ c.2 ≤ Y) (hr : Nat.ble (catS rest) 8 = true) (h : oH (fX11_isWrong fu sh I R l0 l1) g = some o) (kk : ∀ v w c', (c'.1 ≤ X' ∧ c'.2 ≤ Y') → g v w = some o → V K J mi pc' L ((.int v) :: rest) sh w R c' F) : V K J mi pc L (.int l1 :: .ref l0 :: rest) sh I R c F := by
  obtain ⟨r, h1, h2⟩ := bnd h
  have hT : isT sh l0 9 = true := by unfold fX11_isWrong at h1; exact (gd h1).1
  have ml : mL 153 = 2 := by decide +kernel
  have mk : mK 153 = 1 := by decide +kernel
  have mc : mC 153 = 9 := by decide +kernel
  obtain ⟨v, w⟩ := r
  refine s_call (as := [.int l1, .ref l0]) (G := fun o' sh' I' R' => o' = .inl (some (.int v)) ∧ sh' = sh ∧ I' = w ∧ R' = R) hq hc rfl hr (by rw [ml]; rfl) (Or.inl rfl) (fun _ => Or.inl ⟨by rw [mc]; decide, by rw [mc]; exact isT_iff.mp hT⟩) (fun z => absurd (mk.symm.trans z) (by decide)) (by rw [ml]; exact vX11_isWrong (F := fun o' sh' I' R' => o' = .inl (some (.int v)) ∧ sh' = sh ∧ I' = w ∧ R' = R) ⟨rfl, rfl, rfl, rfl⟩ h1) ?_ ?_ ?_
  · rintro sh' I' R' c' hc' ⟨g1, rfl, rfl, rfl⟩
    cases g1
  · rintro v' sh' I' R' c' hc' ⟨g1, rfl, rfl, rfl⟩
    cases g1
    exact kk _ _ _ hc' h2
  · rintro E' sh' I' R' ⟨g1, rfl, rfl, rfl⟩
    cases g1
set_option maxRecDepth 100000 in
set_option maxHeartbeats 4000000 in
def fX11_lacks_b22 (fu : Nat) (sh : HS) (R : HR) (I : HI) (s0 : Int32) : Option (Int32 × HI) :=
  (oZ s0).bind fun z2 =>
  some (z2, I)
set_option maxRecDepth 100000 in
set_option maxHeartbeats 4000000 in
theorem vX11_lacks_b22 {K J : Nat → Nat} {fu : Nat} {sh : HS} {R : HR} {F : VF} {o : (Int32 × HI)} (hF : F (.inl (some (.int o.1))) sh o.2 R) {I : HI} {s0 : Int32} {d0 d1 : Option Value} {c : Nat × Nat} (hc0 : c.1 ≤ 0 ∧ c.2 ≤ 0) (h0 : fX11_lacks_b22 fu sh R I s0 = some o) : V K J 154 22 [d0, d1] [.int s0] sh I R c F := by
  unfold fX11_lacks_b22 at h0
  obtain ⟨hz, h1⟩ := oZb h0
  have e9 := Option.some.inj h1; subst e9
  exact s_rz (X := 0) (Y := 0) (by decide +kernel) hz hc0 hF
set_option maxRecDepth 100000 in
set_option maxHeartbeats 4000000 in
def fX11_lacks_b10 (fu : Nat) (sh : HS) (R : HR) (I : HI) (l1 : Int32) (s0 : Int32) (s1 : Nat) : Option (Int32 × HI) :=
  (oP sh I s1 9 5 s0).bind fun v1 =>
  if l1 = 0 then
    ((fX11_lacks_b22 fu sh R) v1 1)
  else
    ((fX11_lacks_b22 fu sh R) v1 0)
set_option maxRecDepth 100000 in
set_option maxHeartbeats 4000000 in
theorem vX11_lacks_b10 {K J : Nat → Nat} {fu : Nat} {sh : HS} {R : HR} {F : VF} {o : (Int32 × HI)} (hF : F (.inl (some (.int o.1))) sh o.2 R) {I : HI} {l1 : Int32} {s0 : Int32} {s1 : Nat} {d0 : Option Value} {c : Nat × Nat} (hc0 : c.1 ≤ 0 ∧ c.2 ≤ 0) (h0 : fX11_lacks_b10 fu sh R I l1 s0 s1 = some o) : V K J 154 10 [d0, some (.int l1)] [.int s0, .ref s1] sh I R c F := by
  unfold fX11_lacks_b10 at h0
  refine s_pI (t := 9) (j := 5) (ty := 0) (pc' := 13) (by decide +kernel) (Or.inl rfl) h0 (fun v1 h1 => ?_); clear h0
  refine s_il (i := 1) (pc' := 14) (by decide +kernel) rfl ?_
  refine s_ifn (ins := .ifCond .ne 7) (t := 21) (pc' := 17) (by decide +kernel) rfl rfl rfl h1 (fun p2 h2 => ?_) (fun p2 h2 => ?_) <;> clear h1
  · refine s_c (v := 0) (pc' := 22) (by decide +kernel) ?_
    exact (vX11_lacks_b22 hF) hc0 h2
  · refine s_c (v := 1) (pc' := 18) (by decide +kernel) ?_
    refine s_go (t := 22) (by decide +kernel) ?_
    exact (vX11_lacks_b22 hF) hc0 h2
set_option maxRecDepth 100000 in
set_option maxHeartbeats 4000000 in
def fX11_lacks (fu : Nat) (sh : HS) (I : HI) (R : HR) (l0 : Nat) (l1 : Int32) : Option (Int32 × HI) :=
  if isT sh l0 9 = true then
    (if l1 = 0 then
      ((fX11_lacks_b10 fu sh R) I l1 3 l0)
    else
      ((fX11_lacks_b10 fu sh R) I l1 0 l0))
  else none
set_option maxRecDepth 100000 in
set_option maxHeartbeats 4000000 in
theorem vX11_lacks {K J : Nat → Nat} {fu : Nat} {sh : HS} {I : HI} {R : HR} {F : VF} {o : (Int32 × HI)} (hF : F (.inl (some (.int o.1))) sh o.2 R) {l0 : Nat} {l1 : Int32} (h0 : fX11_lacks fu sh I R l0 l1 = some o) : V K J 154 0 (ent 2 [.ref l0, .int l1]) [] sh I R (0, 0) F := by
  unfold fX11_lacks at h0
  obtain ⟨-, h1⟩ := gd h0; clear h0
  have hc0 : ((0 : Nat), (0 : Nat)).1 ≤ 0 ∧ ((0 : Nat), (0 : Nat)).2 ≤ 0 := ⟨Nat.le_refl _, Nat.le_refl _⟩
  show V K J 154 0 [some (.ref l0), some (.int l1)] [] sh I R (0, 0) F
  refine s_rl (i := 0) (pc' := 1) (by decide +kernel) rfl ?_
  refine s_il (i := 1) (pc' := 2) (by decide +kernel) rfl ?_
  refine s_if (ins := .ifCond .eq 7) (t := 9) (pc' := 5) (by decide +kernel) rfl rfl rfl h1 (fun p2 h2 => ?_) (fun p2 h2 => ?_) <;> clear h1
  · refine s_c (v := 3) (pc' := 10) (by decide +kernel) ?_
    exact (vX11_lacks_b10 hF) hc0 h2
  · refine s_c (v := 0) (pc' := 6) (by decide +kernel) ?_
    refine s_go (t := 10) (by decide +kernel) ?_
    exact (vX11_lacks_b10 hF) hc0 h2
set_option maxRecDepth 100000 in
set_option maxHeartbeats 4000000 in
theorem kX11_lacks {K J : Nat → Nat} {fu : Nat} {sh : HS} {I : HI} {R : HR} {F : VF} {mi pc pc' X Y X' Y' : Nat} {L : VL} {rest : List Value} {c : Nat × Nat} {l0 : Nat} {l1 : Int32} {ω : Type} {o : ω} {g : Int32 → HI → Option ω} (hq : cQ mi pc 154 2 pc' X Y X' Y' = true) (hc : c.1 ≤ X ∧ c.2 ≤ Y) (hr : Nat.ble (catS rest) 8 = true) (h : oH (fX11_lacks fu sh I R l0 l1) g = some o) (kk : ∀ v w c', (c'.1 ≤ X' ∧ c'.2 ≤ Y') → g v w = some o → V K J mi pc' L ((.int v) :: rest) sh w R c' F) : V K J mi pc L (.int l1 :: .ref l0 :: rest) sh I R c F := by
  obtain ⟨r, h1, h2⟩ := bnd h
  have hT : isT sh l0 9 = true := by unfold fX11_lacks at h1; exact (gd h1).1
  have ml : mL 154 = 2 := by decide +kernel
  have mk : mK 154 = 1 := by decide +kernel
  have mc : mC 154 = 9 := by decide +kernel
  obtain ⟨v, w⟩ := r
  refine s_call (as := [.int l1, .ref l0]) (G := fun o' sh' I' R' => o' = .inl (some (.int v)) ∧ sh' = sh ∧ I' = w ∧ R' = R) hq hc rfl hr (by rw [ml]; rfl) (Or.inl rfl) (fun _ => Or.inl ⟨by rw [mc]; decide, by rw [mc]; exact isT_iff.mp hT⟩) (fun z => absurd (mk.symm.trans z) (by decide)) (by rw [ml]; exact vX11_lacks (F := fun o' sh' I' R' => o' = .inl (some (.int v)) ∧ sh' = sh ∧ I' = w ∧ R' = R) ⟨rfl, rfl, rfl, rfl⟩ h1) ?_ ?_ ?_
  · rintro sh' I' R' c' hc' ⟨g1, rfl, rfl, rfl⟩
    cases g1
  · rintro v' sh' I' R' c' hc' ⟨g1, rfl, rfl, rfl⟩
    cases g1
    exact kk _ _ _ hc' h2
  · rintro E' sh' I' R' ⟨g1, rfl, rfl, rfl⟩
    cases g1
set_option maxRecDepth 100000 in
set_option maxHeartbeats 4000000 in
def fX11_put_b3 (fu : Nat) (sh : HS) (R : HR) (k3 : HI → Nat → Int32 → Int32 → Option HI) (I : HI) (l0 : Nat) (l1 : Int32) (l2 : Int32) : Option HI :=
  if l2 < 0 then
    (some I)
  else
    ((oR sh R l0 9 6).bind fun v1 =>
    (oI sh I l0 9 7).bind fun v2 =>
    (oS sh I v1 v2 ((l1 >>> (l2 &&& 31)) &&& 255)).bind fun v3 =>
    (oI sh v3 l0 9 7).bind fun v4 =>
    (oP sh v3 l0 9 7 (v4 + 1)).bind fun v5 =>
    k3 v5 l0 l1 (l2 + (-8)))
set_option maxRecDepth 100000 in
set_option maxHeartbeats 4000000 in
theorem vX11_put_b3 {K J : Nat → Nat} {fu : Nat} {sh : HS} {R : HR} {F : VF} {o : HI} (hF : F (.inl none) sh o R) {k3 : HI → Nat → Int32 → Int32 → Option HI} (hk3 : ∀ {I : HI} {l0 : Nat} {l1 : Int32} {l2 : Int32}  {c : Nat × Nat}, (c.1 ≤ 0 ∧ c.2 ≤ 0) → k3 I l0 l1 l2 = some o → V K J 155 3 [some (.ref l0), some (.int l1), some (.int l2)] [] sh I R c F) {I : HI} {l0 : Nat} {l1 : Int32} {l2 : Int32} {c : Nat × Nat} (hc0 : c.1 ≤ 0 ∧ c.2 ≤ 0) (h0 : fX11_put_b3 fu sh R k3 I l0 l1 l2 = some o) : V K J 155 3 [some (.ref l0), some (.int l1), some (.int l2)] [] sh I R c F := by
  unfold fX11_put_b3 at h0
  refine s_il (i := 2) (pc' := 4) (by decide +kernel) rfl ?_
  refine s_if (ins := .ifCond .lt 35) (t := 39) (pc' := 7) (by decide +kernel) rfl rfl rfl h0 (fun p1 h1 => ?_) (fun p1 h1 => ?_) <;> clear h0
  · have e9 := Option.some.inj h1; subst e9
    exact s_rv (X := 0) (Y := 0) (by decide +kernel) hc0 hF
  · refine s_rl (i := 0) (pc' := 8) (by decide +kernel) rfl ?_
    refine s_gR (t := 9) (j := 6) (pc' := 11) (by decide +kernel) h1 (fun v1 h2 => ?_); clear h1
    refine s_rl (i := 0) (pc' := 12) (by decide +kernel) rfl ?_
    refine s_gI (t := 9) (j := 7) (ty := 0) (pc' := 15) (by decide +kernel) rfl h2 (fun v2 h3 => ?_); clear h2
    refine s_il (i := 1) (pc' := 16) (by decide +kernel) rfl ?_
    refine s_il (i := 2) (pc' := 17) (by decide +kernel) rfl ?_
    refine s_a (ins := .ishr) (pc' := 18) (by decide +kernel) rfl ?_
    refine s_c (v := 255) (pc' := 21) (by decide +kernel) ?_
    refine s_a (ins := .iand) (pc' := 22) (by decide +kernel) rfl ?_
    refine s_as (pc' := 23) (by decide +kernel) h3 (fun v3 h4 => ?_); clear h3
    refine s_rl (i := 0) (pc' := 24) (by decide +kernel) rfl ?_
    refine s_a (ins := .dup) (pc' := 25) (by decide +kernel) rfl ?_
    refine s_gI (t := 9) (j := 7) (ty := 0) (pc' := 28) (by decide +kernel) rfl h4 (fun v4 h5 => ?_); clear h4
    refine s_c (v := 1) (pc' := 29) (by decide +kernel) ?_
    refine s_a (ins := .iadd) (pc' := 30) (by decide +kernel) rfl ?_
    refine s_pI (t := 9) (j := 7) (ty := 0) (pc' := 33) (by decide +kernel) (Or.inl rfl) h5 (fun v5 h6 => ?_); clear h5
    refine s_inc (i := 2) (z := (-8)) (pc' := 36) (L' := [some (.ref l0), some (.int l1), some (.int (l2 + (-8)))]) (by decide +kernel) rfl rfl rfl ?_
    refine s_go (t := 3) (by decide +kernel) ?_
    exact hk3 hc0 h6
set_option maxRecDepth 100000 in
set_option maxHeartbeats 4000000 in
def fX11_put_l3 (fu : Nat) (sh : HS) (R : HR) : Nat → HI → Nat → Int32 → Int32 → Option HI
  | 0 => fun _ _ _ _ => none
  | n + 1 => fX11_put_b3 fu sh R (fX11_put_l3 fu sh R n)
set_option maxRecDepth 100000 in
set_option maxHeartbeats 4000000 in
theorem vX11_put_l3 {K J : Nat → Nat} {fu : Nat} {sh : HS} {R : HR} {F : VF} {o : HI} (hF : F (.inl none) sh o R) : ∀ (n : Nat) {I : HI} {l0 : Nat} {l1 : Int32} {l2 : Int32} {c : Nat × Nat} (_ : c.1 ≤ 0 ∧ c.2 ≤ 0) (_ : fX11_put_l3 fu sh R n I l0 l1 l2 = some o), V K J 155 3 [some (.ref l0), some (.int l1), some (.int l2)] [] sh I R c F := by
  intro n
  induction n with
  | zero => exact fun _ h0 => nomatch h0
  | succ n ih => exact fun hc0 h0 => vX11_put_b3 hF ih hc0 h0
set_option maxRecDepth 100000 in
set_option maxHeartbeats 4000000 in
def fX11_put (fu : Nat) (sh : HS) (I : HI) (R : HR) (l0 : Nat) (l1 : Int32) : Option HI :=
  if isT sh l0 9 = true then
    ((fX11_put_l3 fu sh R fu) I l0 l1 24)
  else none
set_option maxRecDepth 100000 in
set_option maxHeartbeats 4000000 in
theorem vX11_put {K J : Nat → Nat} {fu : Nat} {sh : HS} {I : HI} {R : HR} {F : VF} {o : HI} (hF : F (.inl none) sh o R) {l0 : Nat} {l1 : Int32} (h0 : fX11_put fu sh I R l0 l1 = some o) : V K J 155 0 (ent 3 [.ref l0, .int l1]) [] sh I R (0, 0) F := by
  unfold fX11_put at h0
  obtain ⟨-, h1⟩ := gd h0; clear h0
  have hc0 : ((0 : Nat), (0 : Nat)).1 ≤ 0 ∧ ((0 : Nat), (0 : Nat)).2 ≤ 0 := ⟨Nat.le_refl _, Nat.le_refl _⟩
  show V K J 155 0 [some (.ref l0), some (.int l1), none] [] sh I R (0, 0) F
  refine s_c (v := 24) (pc' := 2) (by decide +kernel) ?_
  refine s_is (i := 2) (pc' := 3) (L' := [some (.ref l0), some (.int l1), some (.int 24)]) (by decide +kernel) rfl rfl ?_
  exact (vX11_put_l3 hF fu) hc0 h1
set_option maxRecDepth 100000 in
set_option maxHeartbeats 4000000 in
theorem kX11_put {K J : Nat → Nat} {fu : Nat} {sh : HS} {I : HI} {R : HR} {F : VF} {mi pc pc' X Y X' Y' : Nat} {L : VL} {rest : List Value} {c : Nat × Nat} {l0 : Nat} {l1 : Int32} {ω : Type} {o : ω} {g : HI → Option ω} (hq : cQ mi pc 155 2 pc' X Y X' Y' = true) (hc : c.1 ≤ X ∧ c.2 ≤ Y) (hr : Nat.ble (catS rest) 8 = true) (h : (fX11_put fu sh I R l0 l1).bind g = some o) (kk : ∀ w c', (c'.1 ≤ X' ∧ c'.2 ≤ Y') → g w = some o → V K J mi pc' L (rest) sh w R c' F) : V K J mi pc L (.int l1 :: .ref l0 :: rest) sh I R c F := by
  obtain ⟨r, h1, h2⟩ := bnd h
  have hT : isT sh l0 9 = true := by unfold fX11_put at h1; exact (gd h1).1
  have ml : mL 155 = 3 := by decide +kernel
  have mk : mK 155 = 1 := by decide +kernel
  have mc : mC 155 = 9 := by decide +kernel
  refine s_call (as := [.int l1, .ref l0]) (G := fun o' sh' I' R' => o' = .inl none ∧ sh' = sh ∧ I' = r ∧ R' = R) hq hc rfl hr (by rw [ml]; rfl) (Or.inl rfl) (fun _ => Or.inl ⟨by rw [mc]; decide, by rw [mc]; exact isT_iff.mp hT⟩) (fun z => absurd (mk.symm.trans z) (by decide)) (by rw [ml]; exact vX11_put (F := fun o' sh' I' R' => o' = .inl none ∧ sh' = sh ∧ I' = r ∧ R' = R) ⟨rfl, rfl, rfl, rfl⟩ h1) ?_ ?_ ?_
  · rintro sh' I' R' c' hc' ⟨g1, rfl, rfl, rfl⟩
    cases g1
    exact kk _ _ hc' h2
  · rintro v' sh' I' R' c' hc' ⟨g1, rfl, rfl, rfl⟩
    cases g1
  · rintro E' sh' I' R' ⟨g1, rfl, rfl, rfl⟩
    cases g1
set_option maxRecDepth 100000 in
set_option maxHeartbeats 4000000 in
def fX11_append_b19 (fu : Nat) (sh : HS) (R : HR) (I : HI) (l0 : Nat) (l1 : Int32) (l2 : Int32) (l3 : Int32) (l4 : Int32) (l5 : Int32) (s0 : Int32) (s1 : Nat) : Option (Int32 × HI) :=
  (oP sh I s1 9 5 s0).bind fun v2 =>
  (oI sh v2 l0 9 5).bind fun v3 =>
  if v3 ≤ 0 then
    ((fX11_put fu sh v2 R l0 l1).bind fun w4 =>
    (fX11_put fu sh w4 R l0 l2).bind fun w5 =>
    (fX11_put fu sh w5 R l0 l3).bind fun w6 =>
    (fX11_put fu sh w6 R l0 l4).bind fun w7 =>
    (fX11_put fu sh w7 R l0 l5).bind fun w8 =>
    (oI sh w8 l0 9 7).bind fun v9 =>
    some (v9, w8))
  else
    (some (0, v2))
set_option maxRecDepth 100000 in
set_option maxHeartbeats 4000000 in
theorem vX11_append_b19 {K J : Nat → Nat} {fu : Nat} {sh : HS} {R : HR} {F : VF} {o : (Int32 × HI)} (hF : F (.inl (some (.int o.1))) sh o.2 R) {I : HI} {l0 : Nat} {l1 : Int32} {l2 : Int32} {l3 : Int32} {l4 : Int32} {l5 : Int32} {s0 : Int32} {s1 : Nat} {c : Nat × Nat} (hc0 : c.1 ≤ 0 ∧ c.2 ≤ 0) (h0 : fX11_append_b19 fu sh R I l0 l1 l2 l3 l4 l5 s0 s1 = some o) : V K J 156 19 [some (.ref l0), some (.int l1), some (.int l2), some (.int l3), some (.int l4), some (.int l5)] [.int s0, .ref s1] sh I R c F := by
  unfold fX11_append_b19 at h0
  refine s_pI (t := 9) (j := 5) (ty := 0) (pc' := 22) (by decide +kernel) (Or.inl rfl) h0 (fun v2 h1 => ?_); clear h0
  refine s_rl (i := 0) (pc' := 23) (by decide +kernel) rfl ?_
  refine s_gI (t := 9) (j := 5) (ty := 0) (pc' := 26) (by decide +kernel) rfl h1 (fun v3 h2 => ?_); clear h1
  refine s_if (ins := .ifCond .le 5) (t := 31) (pc' := 29) (by decide +kernel) rfl rfl rfl h2 (fun p3 h3 => ?_) (fun p3 h3 => ?_) <;> clear h2
  · refine s_rl (i := 0) (pc' := 32) (by decide +kernel) rfl ?_
    refine s_il (i := 1) (pc' := 33) (by decide +kernel) rfl ?_
    refine kX11_put (X := 0) (Y := 0) (X' := 0) (Y' := 0) (pc' := 36) (by decide +kernel) hc0 rfl h3 (fun w4 c hc1 h4 => ?_); clear h3 hc0
    refine s_rl (i := 0) (pc' := 37) (by decide +kernel) rfl ?_
    refine s_il (i := 2) (pc' := 38) (by decide +kernel) rfl ?_
    refine kX11_put (X := 0) (Y := 0) (X' := 0) (Y' := 0) (pc' := 41) (by decide +kernel) hc1 rfl h4 (fun w5 c hc2 h5 => ?_); clear h4 hc1
    refine s_rl (i := 0) (pc' := 42) (by decide +kernel) rfl ?_
    refine s_il (i := 3) (pc' := 43) (by decide +kernel) rfl ?_
    refine kX11_put (X := 0) (Y := 0) (X' := 0) (Y' := 0) (pc' := 46) (by decide +kernel) hc2 rfl h5 (fun w6 c hc3 h6 => ?_); clear h5 hc2
    refine s_rl (i := 0) (pc' := 47) (by decide +kernel) rfl ?_
    refine s_il (i := 4) (pc' := 49) (by decide +kernel) rfl ?_
    refine kX11_put (X := 0) (Y := 0) (X' := 0) (Y' := 0) (pc' := 52) (by decide +kernel) hc3 rfl h6 (fun w7 c hc4 h7 => ?_); clear h6 hc3
    refine s_rl (i := 0) (pc' := 53) (by decide +kernel) rfl ?_
    refine s_il (i := 5) (pc' := 55) (by decide +kernel) rfl ?_
    refine kX11_put (X := 0) (Y := 0) (X' := 0) (Y' := 0) (pc' := 58) (by decide +kernel) hc4 rfl h7 (fun w8 c hc5 h8 => ?_); clear h7 hc4
    refine s_rl (i := 0) (pc' := 59) (by decide +kernel) rfl ?_
    refine s_gI (t := 9) (j := 7) (ty := 0) (pc' := 62) (by decide +kernel) rfl h8 (fun v9 h9 => ?_); clear h8
    have e9 := Option.some.inj h9; subst e9
    exact s_ri (X := 0) (Y := 0) (by decide +kernel) hc5 hF
  · refine s_c (v := 0) (pc' := 30) (by decide +kernel) ?_
    have e9 := Option.some.inj h3; subst e9
    exact s_ri (X := 0) (Y := 0) (by decide +kernel) hc0 hF
set_option maxRecDepth 100000 in
set_option maxHeartbeats 4000000 in
def fX11_append (fu : Nat) (sh : HS) (I : HI) (R : HR) (l0 : Nat) (l1 : Int32) (l2 : Int32) (l3 : Int32) (l4 : Int32) (l5 : Int32) : Option (Int32 × HI) :=
  if isT sh l0 9 = true then
    ((oI sh I l0 9 7).bind fun v1 =>
    if (v1 + 20) ≤ 800 then
      ((fX11_append_b19 fu sh R) I l0 l1 l2 l3 l4 l5 0 l0)
    else
      ((fX11_append_b19 fu sh R) I l0 l1 l2 l3 l4 l5 1 l0))
  else none
set_option maxRecDepth 100000 in
set_option maxHeartbeats 4000000 in
theorem vX11_append {K J : Nat → Nat} {fu : Nat} {sh : HS} {I : HI} {R : HR} {F : VF} {o : (Int32 × HI)} (hF : F (.inl (some (.int o.1))) sh o.2 R) {l0 : Nat} {l1 : Int32} {l2 : Int32} {l3 : Int32} {l4 : Int32} {l5 : Int32} (h0 : fX11_append fu sh I R l0 l1 l2 l3 l4 l5 = some o) : V K J 156 0 (ent 6 [.ref l0, .int l1, .int l2, .int l3, .int l4, .int l5]) [] sh I R (0, 0) F := by
  unfold fX11_append at h0
  obtain ⟨-, h1⟩ := gd h0; clear h0
  have hc0 : ((0 : Nat), (0 : Nat)).1 ≤ 0 ∧ ((0 : Nat), (0 : Nat)).2 ≤ 0 := ⟨Nat.le_refl _, Nat.le_refl _⟩
  show V K J 156 0 [some (.ref l0), some (.int l1), some (.int l2), some (.int l3), some (.int l4), some (.int l5)] [] sh I R (0, 0) F
  refine s_rl (i := 0) (pc' := 1) (by decide +kernel) rfl ?_
  refine s_rl (i := 0) (pc' := 2) (by decide +kernel) rfl ?_
  refine s_gI (t := 9) (j := 7) (ty := 0) (pc' := 5) (by decide +kernel) rfl h1 (fun v1 h2 => ?_); clear h1
  refine s_c (v := 20) (pc' := 7) (by decide +kernel) ?_
  refine s_a (ins := .iadd) (pc' := 8) (by decide +kernel) rfl ?_
  refine s_c (v := 800) (pc' := 11) (by decide +kernel) ?_
  refine s_if (ins := .if_icmp .le 7) (t := 18) (pc' := 14) (by decide +kernel) rfl rfl rfl h2 (fun p3 h3 => ?_) (fun p3 h3 => ?_) <;> clear h2
  · refine s_c (v := 0) (pc' := 19) (by decide +kernel) ?_
    exact (vX11_append_b19 hF) hc0 h3
  · refine s_c (v := 1) (pc' := 15) (by decide +kernel) ?_
    refine s_go (t := 19) (by decide +kernel) ?_
    exact (vX11_append_b19 hF) hc0 h3
set_option maxRecDepth 100000 in
set_option maxHeartbeats 4000000 in
theorem kX11_append {K J : Nat → Nat} {fu : Nat} {sh : HS} {I : HI} {R : HR} {F : VF} {mi pc pc' X Y X' Y' : Nat} {L : VL} {rest : List Value} {c : Nat × Nat} {l0 : Nat} {l1 : Int32} {l2 : Int32} {l3 : Int32} {l4 : Int32} {l5 : Int32} {ω : Type} {o : ω} {g : Int32 → HI → Option ω} (hq : cQ mi pc 156 6 pc' X Y X' Y' = true) (hc : c.1 ≤ X ∧ c.2 ≤ Y) (hr : Nat.ble (catS rest) 8 = true) (h : oH (fX11_append fu sh I R l0 l1 l2 l3 l4 l5) g = some o) (kk : ∀ v w c', (c'.1 ≤ X' ∧ c'.2 ≤ Y') → g v w = some o → V K J mi pc' L ((.int v) :: rest) sh w R c' F) : V K J mi pc L (.int l5 :: .int l4 :: .int l3 :: .int l2 :: .int l1 :: .ref l0 :: rest) sh I R c F := by
  obtain ⟨r, h1, h2⟩ := bnd h
  have hT : isT sh l0 9 = true := by unfold fX11_append at h1; exact (gd h1).1
  have ml : mL 156 = 6 := by decide +kernel
  have mk : mK 156 = 1 := by decide +kernel
  have mc : mC 156 = 9 := by decide +kernel
  obtain ⟨v, w⟩ := r
  refine s_call (as := [.int l5, .int l4, .int l3, .int l2, .int l1, .ref l0]) (G := fun o' sh' I' R' => o' = .inl (some (.int v)) ∧ sh' = sh ∧ I' = w ∧ R' = R) hq hc rfl hr (by rw [ml]; rfl) (Or.inl rfl) (fun _ => Or.inl ⟨by rw [mc]; decide, by rw [mc]; exact isT_iff.mp hT⟩) (fun z => absurd (mk.symm.trans z) (by decide)) (by rw [ml]; exact vX11_append (F := fun o' sh' I' R' => o' = .inl (some (.int v)) ∧ sh' = sh ∧ I' = w ∧ R' = R) ⟨rfl, rfl, rfl, rfl⟩ h1) ?_ ?_ ?_
  · rintro sh' I' R' c' hc' ⟨g1, rfl, rfl, rfl⟩
    cases g1
  · rintro v' sh' I' R' c' hc' ⟨g1, rfl, rfl, rfl⟩
    cases g1
    exact kk _ _ _ hc' h2
  · rintro E' sh' I' R' ⟨g1, rfl, rfl, rfl⟩
    cases g1
set_option maxRecDepth 100000 in
set_option maxHeartbeats 4000000 in
def fX11_truncate_b20 (fu : Nat) (sh : HS) (R : HR) (I : HI) (l0 : Nat) (l1 : Int32) (s0 : Int32) (s1 : Nat) : Option (Int32 × HI) :=
  (oP sh I s1 9 5 s0).bind fun v3 =>
  (oI sh v3 l0 9 5).bind fun v4 =>
  if v4 ≤ 0 then
    ((oP sh v3 l0 9 7 l1).bind fun v5 =>
    (oI sh v5 l0 9 7).bind fun v6 =>
    some (v6, v5))
  else
    (some (0, v3))
set_option maxRecDepth 100000 in
set_option maxHeartbeats 4000000 in
theorem vX11_truncate_b20 {K J : Nat → Nat} {fu : Nat} {sh : HS} {R : HR} {F : VF} {o : (Int32 × HI)} (hF : F (.inl (some (.int o.1))) sh o.2 R) {I : HI} {l0 : Nat} {l1 : Int32} {s0 : Int32} {s1 : Nat} {c : Nat × Nat} (hc0 : c.1 ≤ 0 ∧ c.2 ≤ 0) (h0 : fX11_truncate_b20 fu sh R I l0 l1 s0 s1 = some o) : V K J 157 20 [some (.ref l0), some (.int l1)] [.int s0, .ref s1] sh I R c F := by
  unfold fX11_truncate_b20 at h0
  refine s_pI (t := 9) (j := 5) (ty := 0) (pc' := 23) (by decide +kernel) (Or.inl rfl) h0 (fun v3 h1 => ?_); clear h0
  refine s_rl (i := 0) (pc' := 24) (by decide +kernel) rfl ?_
  refine s_gI (t := 9) (j := 5) (ty := 0) (pc' := 27) (by decide +kernel) rfl h1 (fun v4 h2 => ?_); clear h1
  refine s_if (ins := .ifCond .le 5) (t := 32) (pc' := 30) (by decide +kernel) rfl rfl rfl h2 (fun p3 h3 => ?_) (fun p3 h3 => ?_) <;> clear h2
  · refine s_rl (i := 0) (pc' := 33) (by decide +kernel) rfl ?_
    refine s_il (i := 1) (pc' := 34) (by decide +kernel) rfl ?_
    refine s_pI (t := 9) (j := 7) (ty := 0) (pc' := 37) (by decide +kernel) (Or.inl rfl) h3 (fun v5 h4 => ?_); clear h3
    refine s_rl (i := 0) (pc' := 38) (by decide +kernel) rfl ?_
    refine s_gI (t := 9) (j := 7) (ty := 0) (pc' := 41) (by decide +kernel) rfl h4 (fun v6 h5 => ?_); clear h4
    have e9 := Option.some.inj h5; subst e9
    exact s_ri (X := 0) (Y := 0) (by decide +kernel) hc0 hF
  · refine s_c (v := 0) (pc' := 31) (by decide +kernel) ?_
    have e9 := Option.some.inj h3; subst e9
    exact s_ri (X := 0) (Y := 0) (by decide +kernel) hc0 hF
set_option maxRecDepth 100000 in
set_option maxHeartbeats 4000000 in
def fX11_truncate (fu : Nat) (sh : HS) (I : HI) (R : HR) (l0 : Nat) (l1 : Int32) : Option (Int32 × HI) :=
  if isT sh l0 9 = true then
    ((oI sh I l0 9 7).bind fun v1 =>
    (fX11_isIn fu sh I R (l1.toInt64) 0 (v1.toInt64)).bind fun v2 =>
    if v2 = 0 then
      ((fX11_truncate_b20 fu sh R) I l0 l1 1 l0)
    else
      ((fX11_truncate_b20 fu sh R) I l0 l1 0 l0))
  else none
set_option maxRecDepth 100000 in
set_option maxHeartbeats 4000000 in
theorem vX11_truncate {K J : Nat → Nat} {fu : Nat} {sh : HS} {I : HI} {R : HR} {F : VF} {o : (Int32 × HI)} (hF : F (.inl (some (.int o.1))) sh o.2 R) {l0 : Nat} {l1 : Int32} (h0 : fX11_truncate fu sh I R l0 l1 = some o) : V K J 157 0 (ent 2 [.ref l0, .int l1]) [] sh I R (0, 0) F := by
  unfold fX11_truncate at h0
  obtain ⟨-, h1⟩ := gd h0; clear h0
  have hc0 : ((0 : Nat), (0 : Nat)).1 ≤ 0 ∧ ((0 : Nat), (0 : Nat)).2 ≤ 0 := ⟨Nat.le_refl _, Nat.le_refl _⟩
  show V K J 157 0 [some (.ref l0), some (.int l1)] [] sh I R (0, 0) F
  refine s_rl (i := 0) (pc' := 1) (by decide +kernel) rfl ?_
  refine s_il (i := 1) (pc' := 2) (by decide +kernel) rfl ?_
  refine s_a (ins := .i2l) (pc' := 3) (by decide +kernel) rfl ?_
  refine s_cJ (v := 0) (pc' := 4) (by decide +kernel) ?_
  refine s_rl (i := 0) (pc' := 5) (by decide +kernel) rfl ?_
  refine s_gI (t := 9) (j := 7) (ty := 0) (pc' := 8) (by decide +kernel) rfl h1 (fun v1 h2 => ?_); clear h1
  refine s_a (ins := .i2l) (pc' := 9) (by decide +kernel) rfl ?_
  refine kX11_isIn (X := 0) (Y := 0) (X' := 0) (Y' := 0) (pc' := 12) (by decide +kernel) hc0 rfl h2 (fun v2 c hc1 h3 => ?_); clear h2 hc0
  refine s_if (ins := .ifCond .eq 7) (t := 19) (pc' := 15) (by decide +kernel) rfl rfl rfl h3 (fun p4 h4 => ?_) (fun p4 h4 => ?_) <;> clear h3
  · refine s_c (v := 1) (pc' := 20) (by decide +kernel) ?_
    exact (vX11_truncate_b20 hF) hc1 h4
  · refine s_c (v := 0) (pc' := 16) (by decide +kernel) ?_
    refine s_go (t := 20) (by decide +kernel) ?_
    exact (vX11_truncate_b20 hF) hc1 h4
set_option maxRecDepth 100000 in
set_option maxHeartbeats 4000000 in
theorem kX11_truncate {K J : Nat → Nat} {fu : Nat} {sh : HS} {I : HI} {R : HR} {F : VF} {mi pc pc' X Y X' Y' : Nat} {L : VL} {rest : List Value} {c : Nat × Nat} {l0 : Nat} {l1 : Int32} {ω : Type} {o : ω} {g : Int32 → HI → Option ω} (hq : cQ mi pc 157 2 pc' X Y X' Y' = true) (hc : c.1 ≤ X ∧ c.2 ≤ Y) (hr : Nat.ble (catS rest) 8 = true) (h : oH (fX11_truncate fu sh I R l0 l1) g = some o) (kk : ∀ v w c', (c'.1 ≤ X' ∧ c'.2 ≤ Y') → g v w = some o → V K J mi pc' L ((.int v) :: rest) sh w R c' F) : V K J mi pc L (.int l1 :: .ref l0 :: rest) sh I R c F := by
  obtain ⟨r, h1, h2⟩ := bnd h
  have hT : isT sh l0 9 = true := by unfold fX11_truncate at h1; exact (gd h1).1
  have ml : mL 157 = 2 := by decide +kernel
  have mk : mK 157 = 1 := by decide +kernel
  have mc : mC 157 = 9 := by decide +kernel
  obtain ⟨v, w⟩ := r
  refine s_call (as := [.int l1, .ref l0]) (G := fun o' sh' I' R' => o' = .inl (some (.int v)) ∧ sh' = sh ∧ I' = w ∧ R' = R) hq hc rfl hr (by rw [ml]; rfl) (Or.inl rfl) (fun _ => Or.inl ⟨by rw [mc]; decide, by rw [mc]; exact isT_iff.mp hT⟩) (fun z => absurd (mk.symm.trans z) (by decide)) (by rw [ml]; exact vX11_truncate (F := fun o' sh' I' R' => o' = .inl (some (.int v)) ∧ sh' = sh ∧ I' = w ∧ R' = R) ⟨rfl, rfl, rfl, rfl⟩ h1) ?_ ?_ ?_
  · rintro sh' I' R' c' hc' ⟨g1, rfl, rfl, rfl⟩
    cases g1
  · rintro v' sh' I' R' c' hc' ⟨g1, rfl, rfl, rfl⟩
    cases g1
    exact kk _ _ _ hc' h2
  · rintro E' sh' I' R' ⟨g1, rfl, rfl, rfl⟩
    cases g1
set_option maxRecDepth 100000 in
set_option maxHeartbeats 4000000 in
def fX11_byteAt_b18 (fu : Nat) (sh : HS) (I : HI) (R : HR) (s0 : Int32) : Option Int32 :=
  some s0
set_option maxRecDepth 100000 in
set_option maxHeartbeats 4000000 in
theorem vX11_byteAt_b18 {K J : Nat → Nat} {fu : Nat} {sh : HS} {I : HI} {R : HR} {F : VF} {o : Int32} (hF : F (.inl (some (.int o))) sh I R) {s0 : Int32} {d0 d1 : Option Value} {c : Nat × Nat} (hc0 : c.1 ≤ 0 ∧ c.2 ≤ 0) (h0 : fX11_byteAt_b18 fu sh I R s0 = some o) : V K J 158 18 [d0, d1] [.int s0] sh I R c F := by
  unfold fX11_byteAt_b18 at h0
  have e9 := Option.some.inj h0; subst e9
  exact s_ri (X := 0) (Y := 0) (by decide +kernel) hc0 hF
set_option maxRecDepth 100000 in
set_option maxHeartbeats 4000000 in
def fX11_byteAt (fu : Nat) (sh : HS) (I : HI) (R : HR) (l0 : Nat) (l1 : Int32) : Option Int32 :=
  if isT sh l0 9 = true then
    ((oI sh I l0 9 8).bind fun v1 =>
    if v1 ≤ l1 then
      ((fX11_byteAt_b18 fu sh I R) (-1))
    else
      ((oR sh R l0 9 6).bind fun v2 =>
      (oA sh I v2 l1).bind fun v3 =>
      (fX11_byteAt_b18 fu sh I R) v3))
  else none
set_option maxRecDepth 100000 in
set_option maxHeartbeats 4000000 in
theorem vX11_byteAt {K J : Nat → Nat} {fu : Nat} {sh : HS} {I : HI} {R : HR} {F : VF} {o : Int32} (hF : F (.inl (some (.int o))) sh I R) {l0 : Nat} {l1 : Int32} (h0 : fX11_byteAt fu sh I R l0 l1 = some o) : V K J 158 0 (ent 2 [.ref l0, .int l1]) [] sh I R (0, 0) F := by
  unfold fX11_byteAt at h0
  obtain ⟨-, h1⟩ := gd h0; clear h0
  have hc0 : ((0 : Nat), (0 : Nat)).1 ≤ 0 ∧ ((0 : Nat), (0 : Nat)).2 ≤ 0 := ⟨Nat.le_refl _, Nat.le_refl _⟩
  show V K J 158 0 [some (.ref l0), some (.int l1)] [] sh I R (0, 0) F
  refine s_il (i := 1) (pc' := 1) (by decide +kernel) rfl ?_
  refine s_rl (i := 0) (pc' := 2) (by decide +kernel) rfl ?_
  refine s_gI (t := 9) (j := 8) (ty := 0) (pc' := 5) (by decide +kernel) rfl h1 (fun v1 h2 => ?_); clear h1
  refine s_if (ins := .if_icmp .ge 12) (t := 17) (pc' := 8) (by decide +kernel) rfl rfl rfl h2 (fun p3 h3 => ?_) (fun p3 h3 => ?_) <;> clear h2
  · refine s_c (v := (-1)) (pc' := 18) (by decide +kernel) ?_
    exact (vX11_byteAt_b18 hF) hc0 h3
  · refine s_rl (i := 0) (pc' := 9) (by decide +kernel) rfl ?_
    refine s_gR (t := 9) (j := 6) (pc' := 12) (by decide +kernel) h3 (fun v2 h4 => ?_); clear h3
    refine s_il (i := 1) (pc' := 13) (by decide +kernel) rfl ?_
    refine s_al (pc' := 14) (by decide +kernel) h4 (fun v3 h5 => ?_); clear h4
    refine s_go (t := 18) (by decide +kernel) ?_
    exact (vX11_byteAt_b18 hF) hc0 h5
set_option maxRecDepth 100000 in
set_option maxHeartbeats 4000000 in
theorem kX11_byteAt {K J : Nat → Nat} {fu : Nat} {sh : HS} {I : HI} {R : HR} {F : VF} {mi pc pc' X Y X' Y' : Nat} {L : VL} {rest : List Value} {c : Nat × Nat} {l0 : Nat} {l1 : Int32} {ω : Type} {o : ω} {g : Int32 → Option ω} (hq : cQ mi pc 158 2 pc' X Y X' Y' = true) (hc : c.1 ≤ X ∧ c.2 ≤ Y) (hr : Nat.ble (catS rest) 8 = true) (h : (fX11_byteAt fu sh I R l0 l1).bind g = some o) (kk : ∀ v c', (c'.1 ≤ X' ∧ c'.2 ≤ Y') → g v = some o → V K J mi pc' L ((.int v) :: rest) sh I R c' F) : V K J mi pc L (.int l1 :: .ref l0 :: rest) sh I R c F := by
  obtain ⟨r, h1, h2⟩ := bnd h
  have hT : isT sh l0 9 = true := by unfold fX11_byteAt at h1; exact (gd h1).1
  have ml : mL 158 = 2 := by decide +kernel
  have mk : mK 158 = 1 := by decide +kernel
  have mc : mC 158 = 9 := by decide +kernel
  refine s_call (as := [.int l1, .ref l0]) (G := fun o' sh' I' R' => o' = .inl (some (.int r)) ∧ sh' = sh ∧ I' = I ∧ R' = R) hq hc rfl hr (by rw [ml]; rfl) (Or.inl rfl) (fun _ => Or.inl ⟨by rw [mc]; decide, by rw [mc]; exact isT_iff.mp hT⟩) (fun z => absurd (mk.symm.trans z) (by decide)) (by rw [ml]; exact vX11_byteAt (F := fun o' sh' I' R' => o' = .inl (some (.int r)) ∧ sh' = sh ∧ I' = I ∧ R' = R) ⟨rfl, rfl, rfl, rfl⟩ h1) ?_ ?_ ?_
  · rintro sh' I' R' c' hc' ⟨g1, rfl, rfl, rfl⟩
    cases g1
  · rintro v' sh' I' R' c' hc' ⟨g1, rfl, rfl, rfl⟩
    cases g1
    exact kk _ _ hc' h2
  · rintro E' sh' I' R' ⟨g1, rfl, rfl, rfl⟩
    cases g1
set_option maxRecDepth 100000 in
set_option maxHeartbeats 4000000 in
def fX11_isLetterAt (fu : Nat) (sh : HS) (I : HI) (R : HR) (l0 : Nat) (l1 : Int32) : Option Int32 :=
  if isT sh l0 9 = true then
    ((fX11_byteAt fu sh I R l0 l1).bind fun v1 =>
    (fX11_isIn fu sh I R (v1.toInt64) 97 122).bind fun v2 =>
    (oZ v2).bind fun z3 =>
    some z3)
  else none
set_option maxRecDepth 100000 in
set_option maxHeartbeats 4000000 in
theorem vX11_isLetterAt {K J : Nat → Nat} {fu : Nat} {sh : HS} {I : HI} {R : HR} {F : VF} {o : Int32} (hF : F (.inl (some (.int o))) sh I R) {l0 : Nat} {l1 : Int32} (h0 : fX11_isLetterAt fu sh I R l0 l1 = some o) : V K J 159 0 (ent 2 [.ref l0, .int l1]) [] sh I R (0, 0) F := by
  unfold fX11_isLetterAt at h0
  obtain ⟨-, h1⟩ := gd h0; clear h0
  have hc0 : ((0 : Nat), (0 : Nat)).1 ≤ 0 ∧ ((0 : Nat), (0 : Nat)).2 ≤ 0 := ⟨Nat.le_refl _, Nat.le_refl _⟩
  show V K J 159 0 [some (.ref l0), some (.int l1)] [] sh I R (0, 0) F
  refine s_rl (i := 0) (pc' := 1) (by decide +kernel) rfl ?_
  refine s_il (i := 1) (pc' := 2) (by decide +kernel) rfl ?_
  refine kX11_byteAt (X := 0) (Y := 0) (X' := 0) (Y' := 0) (pc' := 5) (by decide +kernel) hc0 rfl h1 (fun v1 c hc1 h2 => ?_); clear h1 hc0
  refine s_a (ins := .i2l) (pc' := 6) (by decide +kernel) rfl ?_
  refine s_cJ (v := 97) (pc' := 9) (by decide +kernel) ?_
  refine s_cJ (v := 122) (pc' := 12) (by decide +kernel) ?_
  refine kX11_isIn (X := 0) (Y := 0) (X' := 0) (Y' := 0) (pc' := 15) (by decide +kernel) hc1 rfl h2 (fun v2 c hc2 h3 => ?_); clear h2 hc1
  obtain ⟨hz, h4⟩ := oZb h3
  have e9 := Option.some.inj h4; subst e9
  exact s_rz (X := 0) (Y := 0) (by decide +kernel) hz hc2 hF
set_option maxRecDepth 100000 in
set_option maxHeartbeats 4000000 in
theorem kX11_isLetterAt {K J : Nat → Nat} {fu : Nat} {sh : HS} {I : HI} {R : HR} {F : VF} {mi pc pc' X Y X' Y' : Nat} {L : VL} {rest : List Value} {c : Nat × Nat} {l0 : Nat} {l1 : Int32} {ω : Type} {o : ω} {g : Int32 → Option ω} (hq : cQ mi pc 159 2 pc' X Y X' Y' = true) (hc : c.1 ≤ X ∧ c.2 ≤ Y) (hr : Nat.ble (catS rest) 8 = true) (h : (fX11_isLetterAt fu sh I R l0 l1).bind g = some o) (kk : ∀ v c', (c'.1 ≤ X' ∧ c'.2 ≤ Y') → g v = some o → V K J mi pc' L ((.int v) :: rest) sh I R c' F) : V K J mi pc L (.int l1 :: .ref l0 :: rest) sh I R c F := by
  obtain ⟨r, h1, h2⟩ := bnd h
  have hT : isT sh l0 9 = true := by unfold fX11_isLetterAt at h1; exact (gd h1).1
  have ml : mL 159 = 2 := by decide +kernel
  have mk : mK 159 = 1 := by decide +kernel
  have mc : mC 159 = 9 := by decide +kernel
  refine s_call (as := [.int l1, .ref l0]) (G := fun o' sh' I' R' => o' = .inl (some (.int r)) ∧ sh' = sh ∧ I' = I ∧ R' = R) hq hc rfl hr (by rw [ml]; rfl) (Or.inl rfl) (fun _ => Or.inl ⟨by rw [mc]; decide, by rw [mc]; exact isT_iff.mp hT⟩) (fun z => absurd (mk.symm.trans z) (by decide)) (by rw [ml]; exact vX11_isLetterAt (F := fun o' sh' I' R' => o' = .inl (some (.int r)) ∧ sh' = sh ∧ I' = I ∧ R' = R) ⟨rfl, rfl, rfl, rfl⟩ h1) ?_ ?_ ?_
  · rintro sh' I' R' c' hc' ⟨g1, rfl, rfl, rfl⟩
    cases g1
  · rintro v' sh' I' R' c' hc' ⟨g1, rfl, rfl, rfl⟩
    cases g1
    exact kk _ _ hc' h2
  · rintro E' sh' I' R' ⟨g1, rfl, rfl, rfl⟩
    cases g1
set_option maxRecDepth 100000 in
set_option maxHeartbeats 4000000 in
def fX11_isDigitAt (fu : Nat) (sh : HS) (I : HI) (R : HR) (l0 : Nat) (l1 : Int32) : Option Int32 :=
  if isT sh l0 9 = true then
    ((fX11_byteAt fu sh I R l0 l1).bind fun v1 =>
    (fX11_isIn fu sh I R (v1.toInt64) 48 57).bind fun v2 =>
    (oZ v2).bind fun z3 =>
    some z3)
  else none
set_option maxRecDepth 100000 in
set_option maxHeartbeats 4000000 in
theorem vX11_isDigitAt {K J : Nat → Nat} {fu : Nat} {sh : HS} {I : HI} {R : HR} {F : VF} {o : Int32} (hF : F (.inl (some (.int o))) sh I R) {l0 : Nat} {l1 : Int32} (h0 : fX11_isDigitAt fu sh I R l0 l1 = some o) : V K J 160 0 (ent 2 [.ref l0, .int l1]) [] sh I R (0, 0) F := by
  unfold fX11_isDigitAt at h0
  obtain ⟨-, h1⟩ := gd h0; clear h0
  have hc0 : ((0 : Nat), (0 : Nat)).1 ≤ 0 ∧ ((0 : Nat), (0 : Nat)).2 ≤ 0 := ⟨Nat.le_refl _, Nat.le_refl _⟩
  show V K J 160 0 [some (.ref l0), some (.int l1)] [] sh I R (0, 0) F
  refine s_rl (i := 0) (pc' := 1) (by decide +kernel) rfl ?_
  refine s_il (i := 1) (pc' := 2) (by decide +kernel) rfl ?_
  refine kX11_byteAt (X := 0) (Y := 0) (X' := 0) (Y' := 0) (pc' := 5) (by decide +kernel) hc0 rfl h1 (fun v1 c hc1 h2 => ?_); clear h1 hc0
  refine s_a (ins := .i2l) (pc' := 6) (by decide +kernel) rfl ?_
  refine s_cJ (v := 48) (pc' := 9) (by decide +kernel) ?_
  refine s_cJ (v := 57) (pc' := 12) (by decide +kernel) ?_
  refine kX11_isIn (X := 0) (Y := 0) (X' := 0) (Y' := 0) (pc' := 15) (by decide +kernel) hc1 rfl h2 (fun v2 c hc2 h3 => ?_); clear h2 hc1
  obtain ⟨hz, h4⟩ := oZb h3
  have e9 := Option.some.inj h4; subst e9
  exact s_rz (X := 0) (Y := 0) (by decide +kernel) hz hc2 hF
set_option maxRecDepth 100000 in
set_option maxHeartbeats 4000000 in
theorem kX11_isDigitAt {K J : Nat → Nat} {fu : Nat} {sh : HS} {I : HI} {R : HR} {F : VF} {mi pc pc' X Y X' Y' : Nat} {L : VL} {rest : List Value} {c : Nat × Nat} {l0 : Nat} {l1 : Int32} {ω : Type} {o : ω} {g : Int32 → Option ω} (hq : cQ mi pc 160 2 pc' X Y X' Y' = true) (hc : c.1 ≤ X ∧ c.2 ≤ Y) (hr : Nat.ble (catS rest) 8 = true) (h : (fX11_isDigitAt fu sh I R l0 l1).bind g = some o) (kk : ∀ v c', (c'.1 ≤ X' ∧ c'.2 ≤ Y') → g v = some o → V K J mi pc' L ((.int v) :: rest) sh I R c' F) : V K J mi pc L (.int l1 :: .ref l0 :: rest) sh I R c F := by
  obtain ⟨r, h1, h2⟩ := bnd h
  have hT : isT sh l0 9 = true := by unfold fX11_isDigitAt at h1; exact (gd h1).1
  have ml : mL 160 = 2 := by decide +kernel
  have mk : mK 160 = 1 := by decide +kernel
  have mc : mC 160 = 9 := by decide +kernel
  refine s_call (as := [.int l1, .ref l0]) (G := fun o' sh' I' R' => o' = .inl (some (.int r)) ∧ sh' = sh ∧ I' = I ∧ R' = R) hq hc rfl hr (by rw [ml]; rfl) (Or.inl rfl) (fun _ => Or.inl ⟨by rw [mc]; decide, by rw [mc]; exact isT_iff.mp hT⟩) (fun z => absurd (mk.symm.trans z) (by decide)) (by rw [ml]; exact vX11_isDigitAt (F := fun o' sh' I' R' => o' = .inl (some (.int r)) ∧ sh' = sh ∧ I' = I ∧ R' = R) ⟨rfl, rfl, rfl, rfl⟩ h1) ?_ ?_ ?_
  · rintro sh' I' R' c' hc' ⟨g1, rfl, rfl, rfl⟩
    cases g1
  · rintro v' sh' I' R' c' hc' ⟨g1, rfl, rfl, rfl⟩
    cases g1
    exact kk _ _ hc' h2
  · rintro E' sh' I' R' ⟨g1, rfl, rfl, rfl⟩
    cases g1
set_option maxRecDepth 100000 in
set_option maxHeartbeats 4000000 in
def fX11_isFine_b12 (fu : Nat) (sh : HS) (I : HI) (R : HR) (s0 : Int32) : Option Int32 :=
  (oZ s0).bind fun z2 =>
  some z2
set_option maxRecDepth 100000 in
set_option maxHeartbeats 4000000 in
theorem vX11_isFine_b12 {K J : Nat → Nat} {fu : Nat} {sh : HS} {I : HI} {R : HR} {F : VF} {o : Int32} (hF : F (.inl (some (.int o))) sh I R) {s0 : Int32} {d0 : Option Value} {c : Nat × Nat} (hc0 : c.1 ≤ 0 ∧ c.2 ≤ 0) (h0 : fX11_isFine_b12 fu sh I R s0 = some o) : V K J 161 12 [d0] [.int s0] sh I R c F := by
  unfold fX11_isFine_b12 at h0
  obtain ⟨hz, h1⟩ := oZb h0
  have e9 := Option.some.inj h1; subst e9
  exact s_rz (X := 0) (Y := 0) (by decide +kernel) hz hc0 hF
set_option maxRecDepth 100000 in
set_option maxHeartbeats 4000000 in
def fX11_isFine (fu : Nat) (sh : HS) (I : HI) (R : HR) (l0 : Nat) : Option Int32 :=
  if isT sh l0 9 = true then
    ((oI sh I l0 9 13).bind fun v1 =>
    if v1 = 0 then
      ((fX11_isFine_b12 fu sh I R) 1)
    else
      ((fX11_isFine_b12 fu sh I R) 0))
  else none
set_option maxRecDepth 100000 in
set_option maxHeartbeats 4000000 in
theorem vX11_isFine {K J : Nat → Nat} {fu : Nat} {sh : HS} {I : HI} {R : HR} {F : VF} {o : Int32} (hF : F (.inl (some (.int o))) sh I R) {l0 : Nat} (h0 : fX11_isFine fu sh I R l0 = some o) : V K J 161 0 (ent 1 [.ref l0]) [] sh I R (0, 0) F := by
  unfold fX11_isFine at h0
  obtain ⟨-, h1⟩ := gd h0; clear h0
  have hc0 : ((0 : Nat), (0 : Nat)).1 ≤ 0 ∧ ((0 : Nat), (0 : Nat)).2 ≤ 0 := ⟨Nat.le_refl _, Nat.le_refl _⟩
  show V K J 161 0 [some (.ref l0)] [] sh I R (0, 0) F
  refine s_rl (i := 0) (pc' := 1) (by decide +kernel) rfl ?_
  refine s_gI (t := 9) (j := 13) (ty := 0) (pc' := 4) (by decide +kernel) rfl h1 (fun v1 h2 => ?_); clear h1
  refine s_ifn (ins := .ifCond .ne 7) (t := 11) (pc' := 7) (by decide +kernel) rfl rfl rfl h2 (fun p3 h3 => ?_) (fun p3 h3 => ?_) <;> clear h2
  · refine s_c (v := 0) (pc' := 12) (by decide +kernel) ?_
    exact (vX11_isFine_b12 hF) hc0 h3
  · refine s_c (v := 1) (pc' := 8) (by decide +kernel) ?_
    refine s_go (t := 12) (by decide +kernel) ?_
    exact (vX11_isFine_b12 hF) hc0 h3
set_option maxRecDepth 100000 in
set_option maxHeartbeats 4000000 in
theorem kX11_isFine {K J : Nat → Nat} {fu : Nat} {sh : HS} {I : HI} {R : HR} {F : VF} {mi pc pc' X Y X' Y' : Nat} {L : VL} {rest : List Value} {c : Nat × Nat} {l0 : Nat} {ω : Type} {o : ω} {g : Int32 → Option ω} (hq : cQ mi pc 161 1 pc' X Y X' Y' = true) (hc : c.1 ≤ X ∧ c.2 ≤ Y) (hr : Nat.ble (catS rest) 8 = true) (h : (fX11_isFine fu sh I R l0).bind g = some o) (kk : ∀ v c', (c'.1 ≤ X' ∧ c'.2 ≤ Y') → g v = some o → V K J mi pc' L ((.int v) :: rest) sh I R c' F) : V K J mi pc L (.ref l0 :: rest) sh I R c F := by
  obtain ⟨r, h1, h2⟩ := bnd h
  have hT : isT sh l0 9 = true := by unfold fX11_isFine at h1; exact (gd h1).1
  have ml : mL 161 = 1 := by decide +kernel
  have mk : mK 161 = 1 := by decide +kernel
  have mc : mC 161 = 9 := by decide +kernel
  refine s_call (as := [.ref l0]) (G := fun o' sh' I' R' => o' = .inl (some (.int r)) ∧ sh' = sh ∧ I' = I ∧ R' = R) hq hc rfl hr (by rw [ml]; rfl) (Or.inl rfl) (fun _ => Or.inl ⟨by rw [mc]; decide, by rw [mc]; exact isT_iff.mp hT⟩) (fun z => absurd (mk.symm.trans z) (by decide)) (by rw [ml]; exact vX11_isFine (F := fun o' sh' I' R' => o' = .inl (some (.int r)) ∧ sh' = sh ∧ I' = I ∧ R' = R) ⟨rfl, rfl, rfl, rfl⟩ h1) ?_ ?_ ?_
  · rintro sh' I' R' c' hc' ⟨g1, rfl, rfl, rfl⟩
    cases g1
  · rintro v' sh' I' R' c' hc' ⟨g1, rfl, rfl, rfl⟩
    cases g1
    exact kk _ _ hc' h2
  · rintro E' sh' I' R' ⟨g1, rfl, rfl, rfl⟩
    cases g1
set_option maxRecDepth 100000 in
set_option maxHeartbeats 4000000 in
def fX11_next_b34 (fu : Nat) (sh : HS) (R : HR) (k8 : HI → Nat → Option HI) (k47 : HI → Nat → Option HI) (I : HI) (l0 : Nat) : Option HI :=
  (oI sh I l0 9 9).bind fun v4 =>
  (oP sh I l0 9 9 (v4 + 1)).bind fun v5 =>
  k8 v5 l0
set_option maxRecDepth 100000 in
set_option maxHeartbeats 4000000 in
theorem vX11_next_b34 {K J : Nat → Nat} {fu : Nat} {sh : HS} {R : HR} {F : VF} {o : HI} (hF : F (.inl none) sh o R) {k8 : HI → Nat → Option HI} {k47 : HI → Nat → Option HI} (hk8 : ∀ {I : HI} {l0 : Nat}  {c : Nat × Nat}, (c.1 ≤ 0 ∧ c.2 ≤ 0) → k8 I l0 = some o → V K J 162 8 [some (.ref l0)] [] sh I R c F) (hk47 : ∀ {I : HI} {l0 : Nat}  {c : Nat × Nat}, (c.1 ≤ 0 ∧ c.2 ≤ 0) → k47 I l0 = some o → V K J 162 47 [some (.ref l0)] [] sh I R c F) {I : HI} {l0 : Nat} {c : Nat × Nat} (hc0 : c.1 ≤ 0 ∧ c.2 ≤ 0) (h0 : fX11_next_b34 fu sh R k8 k47 I l0 = some o) : V K J 162 34 [some (.ref l0)] [] sh I R c F := by
  unfold fX11_next_b34 at h0
  refine s_rl (i := 0) (pc' := 35) (by decide +kernel) rfl ?_
  refine s_a (ins := .dup) (pc' := 36) (by decide +kernel) rfl ?_
  refine s_gI (t := 9) (j := 9) (ty := 0) (pc' := 39) (by decide +kernel) rfl h0 (fun v4 h1 => ?_); clear h0
  refine s_c (v := 1) (pc' := 40) (by decide +kernel) ?_
  refine s_a (ins := .iadd) (pc' := 41) (by decide +kernel) rfl ?_
  refine s_pI (t := 9) (j := 9) (ty := 0) (pc' := 44) (by decide +kernel) (Or.inl rfl) h1 (fun v5 h2 => ?_); clear h1
  refine s_go (t := 8) (by decide +kernel) ?_
  exact hk8 hc0 h2
set_option maxRecDepth 100000 in
set_option maxHeartbeats 4000000 in
def fX11_next_b8 (fu : Nat) (sh : HS) (R : HR) (k8 : HI → Nat → Option HI) (k47 : HI → Nat → Option HI) (I : HI) (l0 : Nat) : Option HI :=
  (oI sh I l0 9 9).bind fun v2 =>
  (fX11_byteAt fu sh I R l0 v2).bind fun v3 =>
  if v3 = 32 then
    ((fX11_next_b34 fu sh R k8 k47) I l0)
  else
    ((oI sh I l0 9 9).bind fun v6 =>
    (fX11_byteAt fu sh I R l0 v6).bind fun v7 =>
    if v7 = 10 then
      ((fX11_next_b34 fu sh R k8 k47) I l0)
    else
      (k47 I l0))
set_option maxRecDepth 100000 in
set_option maxHeartbeats 4000000 in
theorem vX11_next_b8 {K J : Nat → Nat} {fu : Nat} {sh : HS} {R : HR} {F : VF} {o : HI} (hF : F (.inl none) sh o R) {k8 : HI → Nat → Option HI} {k47 : HI → Nat → Option HI} (hk8 : ∀ {I : HI} {l0 : Nat}  {c : Nat × Nat}, (c.1 ≤ 0 ∧ c.2 ≤ 0) → k8 I l0 = some o → V K J 162 8 [some (.ref l0)] [] sh I R c F) (hk47 : ∀ {I : HI} {l0 : Nat}  {c : Nat × Nat}, (c.1 ≤ 0 ∧ c.2 ≤ 0) → k47 I l0 = some o → V K J 162 47 [some (.ref l0)] [] sh I R c F) {I : HI} {l0 : Nat} {c : Nat × Nat} (hc0 : c.1 ≤ 0 ∧ c.2 ≤ 0) (h0 : fX11_next_b8 fu sh R k8 k47 I l0 = some o) : V K J 162 8 [some (.ref l0)] [] sh I R c F := by
  unfold fX11_next_b8 at h0
  refine s_rl (i := 0) (pc' := 9) (by decide +kernel) rfl ?_
  refine s_rl (i := 0) (pc' := 10) (by decide +kernel) rfl ?_
  refine s_gI (t := 9) (j := 9) (ty := 0) (pc' := 13) (by decide +kernel) rfl h0 (fun v2 h1 => ?_); clear h0
  refine kX11_byteAt (X := 0) (Y := 0) (X' := 0) (Y' := 0) (pc' := 16) (by decide +kernel) hc0 rfl h1 (fun v3 c hc1 h2 => ?_); clear h1 hc0
  refine s_c (v := 32) (pc' := 18) (by decide +kernel) ?_
  refine s_if (ins := .if_icmp .eq 16) (t := 34) (pc' := 21) (by decide +kernel) rfl rfl rfl h2 (fun p3 h3 => ?_) (fun p3 h3 => ?_) <;> clear h2
  · exact (vX11_next_b34 hF hk8 hk47) hc1 h3
  · refine s_rl (i := 0) (pc' := 22) (by decide +kernel) rfl ?_
    refine s_rl (i := 0) (pc' := 23) (by decide +kernel) rfl ?_
    refine s_gI (t := 9) (j := 9) (ty := 0) (pc' := 26) (by decide +kernel) rfl h3 (fun v6 h4 => ?_); clear h3
    refine kX11_byteAt (X := 0) (Y := 0) (X' := 0) (Y' := 0) (pc' := 29) (by decide +kernel) hc1 rfl h4 (fun v7 c hc2 h5 => ?_); clear h4 hc1
    refine s_c (v := 10) (pc' := 31) (by decide +kernel) ?_
    refine s_ifn (ins := .if_icmp .ne 16) (t := 47) (pc' := 34) (by decide +kernel) rfl rfl rfl h5 (fun p6 h6 => ?_) (fun p6 h6 => ?_) <;> clear h5
    · exact hk47 hc2 h6
    · exact (vX11_next_b34 hF hk8 hk47) hc2 h6
set_option maxRecDepth 100000 in
set_option maxHeartbeats 4000000 in
def fX11_next_l8 (fu : Nat) (sh : HS) (R : HR) (k47 : HI → Nat → Option HI) : Nat → HI → Nat → Option HI
  | 0 => fun _ _ => none
  | n + 1 => fX11_next_b8 fu sh R (fX11_next_l8 fu sh R k47 n) k47
set_option maxRecDepth 100000 in
set_option maxHeartbeats 4000000 in
theorem vX11_next_l8 {K J : Nat → Nat} {fu : Nat} {sh : HS} {R : HR} {F : VF} {o : HI} (hF : F (.inl none) sh o R) {k47 : HI → Nat → Option HI} (hk47 : ∀ {I : HI} {l0 : Nat}  {c : Nat × Nat}, (c.1 ≤ 0 ∧ c.2 ≤ 0) → k47 I l0 = some o → V K J 162 47 [some (.ref l0)] [] sh I R c F) : ∀ (n : Nat) {I : HI} {l0 : Nat} {c : Nat × Nat} (_ : c.1 ≤ 0 ∧ c.2 ≤ 0) (_ : fX11_next_l8 fu sh R k47 n I l0 = some o), V K J 162 8 [some (.ref l0)] [] sh I R c F := by
  intro n
  induction n with
  | zero => exact fun _ h0 => nomatch h0
  | succ n ih => exact fun hc0 h0 => vX11_next_b8 hF ih hk47 hc0 h0
set_option maxRecDepth 100000 in
set_option maxHeartbeats 4000000 in
def fX11_next_b257 (fu : Nat) (sh : HS) (R : HR) (I : HI) : Option HI :=
  some I
set_option maxRecDepth 100000 in
set_option maxHeartbeats 4000000 in
theorem vX11_next_b257 {K J : Nat → Nat} {fu : Nat} {sh : HS} {R : HR} {F : VF} {o : HI} (hF : F (.inl none) sh o R) {I : HI} {d0 : Option Value} {c : Nat × Nat} (hc0 : c.1 ≤ 0 ∧ c.2 ≤ 0) (h0 : fX11_next_b257 fu sh R I = some o) : V K J 162 257 [d0] [] sh I R c F := by
  unfold fX11_next_b257 at h0
  have e9 := Option.some.inj h0; subst e9
  exact s_rv (X := 0) (Y := 0) (by decide +kernel) hc0 hF
set_option maxRecDepth 100000 in
set_option maxHeartbeats 4000000 in
def fX11_next_b244 (fu : Nat) (sh : HS) (R : HR) (I : HI) (l0 : Nat) (s0 : Int32) (s1 : Nat) : Option HI :=
  (oP sh I s1 9 11 s0).bind fun v18 =>
  (oI sh v18 l0 9 9).bind fun v19 =>
  (oP sh v18 l0 9 9 (v19 + 1)).bind fun v20 =>
  (fX11_next_b257 fu sh R) v20
set_option maxRecDepth 100000 in
set_option maxHeartbeats 4000000 in
theorem vX11_next_b244 {K J : Nat → Nat} {fu : Nat} {sh : HS} {R : HR} {F : VF} {o : HI} (hF : F (.inl none) sh o R) {I : HI} {l0 : Nat} {s0 : Int32} {s1 : Nat} {c : Nat × Nat} (hc0 : c.1 ≤ 0 ∧ c.2 ≤ 0) (h0 : fX11_next_b244 fu sh R I l0 s0 s1 = some o) : V K J 162 244 [some (.ref l0)] [.int s0, .ref s1] sh I R c F := by
  unfold fX11_next_b244 at h0
  refine s_pI (t := 9) (j := 11) (ty := 0) (pc' := 247) (by decide +kernel) (Or.inl rfl) h0 (fun v18 h1 => ?_); clear h0
  refine s_rl (i := 0) (pc' := 248) (by decide +kernel) rfl ?_
  refine s_a (ins := .dup) (pc' := 249) (by decide +kernel) rfl ?_
  refine s_gI (t := 9) (j := 9) (ty := 0) (pc' := 252) (by decide +kernel) rfl h1 (fun v19 h2 => ?_); clear h1
  refine s_c (v := 1) (pc' := 253) (by decide +kernel) ?_
  refine s_a (ins := .iadd) (pc' := 254) (by decide +kernel) rfl ?_
  refine s_pI (t := 9) (j := 9) (ty := 0) (pc' := 257) (by decide +kernel) (Or.inl rfl) h2 (fun v20 h3 => ?_); clear h2
  exact (vX11_next_b257 hF) hc0 h3
set_option maxRecDepth 100000 in
set_option maxHeartbeats 4000000 in
def fX11_next_b184 (fu : Nat) (sh : HS) (R : HR) (k133 : HI → Nat → Option HI) (k200 : HI → Nat → Option HI) (I : HI) (l0 : Nat) (s0 : Int32) (s1 : Nat) : Option HI :=
  (oP sh I s1 9 12 s0).bind fun v27 =>
  (oI sh v27 l0 9 9).bind fun v28 =>
  (oP sh v27 l0 9 9 (v28 + 1)).bind fun v29 =>
  k133 v29 l0
set_option maxRecDepth 100000 in
set_option maxHeartbeats 4000000 in
theorem vX11_next_b184 {K J : Nat → Nat} {fu : Nat} {sh : HS} {R : HR} {F : VF} {o : HI} (hF : F (.inl none) sh o R) {k133 : HI → Nat → Option HI} {k200 : HI → Nat → Option HI} (hk133 : ∀ {I : HI} {l0 : Nat}  {c : Nat × Nat}, (c.1 ≤ 0 ∧ c.2 ≤ 0) → k133 I l0 = some o → V K J 162 133 [some (.ref l0)] [] sh I R c F) (hk200 : ∀ {I : HI} {l0 : Nat}  {c : Nat × Nat}, (c.1 ≤ 0 ∧ c.2 ≤ 0) → k200 I l0 = some o → V K J 162 200 [some (.ref l0)] [] sh I R c F) {I : HI} {l0 : Nat} {s0 : Int32} {s1 : Nat} {c : Nat × Nat} (hc0 : c.1 ≤ 0 ∧ c.2 ≤ 0) (h0 : fX11_next_b184 fu sh R k133 k200 I l0 s0 s1 = some o) : V K J 162 184 [some (.ref l0)] [.int s0, .ref s1] sh I R c F := by
  unfold fX11_next_b184 at h0
  refine s_pI (t := 9) (j := 12) (ty := 0) (pc' := 187) (by decide +kernel) (Or.inl rfl) h0 (fun v27 h1 => ?_); clear h0
  refine s_rl (i := 0) (pc' := 188) (by decide +kernel) rfl ?_
  refine s_a (ins := .dup) (pc' := 189) (by decide +kernel) rfl ?_
  refine s_gI (t := 9) (j := 9) (ty := 0) (pc' := 192) (by decide +kernel) rfl h1 (fun v28 h2 => ?_); clear h1
  refine s_c (v := 1) (pc' := 193) (by decide +kernel) ?_
  refine s_a (ins := .iadd) (pc' := 194) (by decide +kernel) rfl ?_
  refine s_pI (t := 9) (j := 9) (ty := 0) (pc' := 197) (by decide +kernel) (Or.inl rfl) h2 (fun v29 h3 => ?_); clear h2
  refine s_go (t := 133) (by decide +kernel) ?_
  exact hk133 hc0 h3
set_option maxRecDepth 100000 in
set_option maxHeartbeats 4000000 in
def fX11_next_b133 (fu : Nat) (sh : HS) (R : HR) (k133 : HI → Nat → Option HI) (k200 : HI → Nat → Option HI) (I : HI) (l0 : Nat) : Option HI :=
  (oI sh I l0 9 9).bind fun v22 =>
  (fX11_isDigitAt fu sh I R l0 v22).bind fun v23 =>
  if v23 = 0 then
    (k200 I l0)
  else
    ((oI sh I l0 9 9).bind fun v24 =>
    (oI sh I l0 9 10).bind fun v25 =>
    if 4 ≤ (v24 - v25) then
      ((oI sh I l0 9 12).bind fun v26 =>
      (fX11_next_b184 fu sh R k133 k200) I l0 v26 l0)
    else
      ((oI sh I l0 9 12).bind fun v30 =>
      (oI sh I l0 9 9).bind fun v31 =>
      (fX11_byteAt fu sh I R l0 v31).bind fun v32 =>
      (fX11_next_b184 fu sh R k133 k200) I l0 (((10 * v30) + v32) - 48) l0))
set_option maxRecDepth 100000 in
set_option maxHeartbeats 4000000 in
theorem vX11_next_b133 {K J : Nat → Nat} {fu : Nat} {sh : HS} {R : HR} {F : VF} {o : HI} (hF : F (.inl none) sh o R) {k133 : HI → Nat → Option HI} {k200 : HI → Nat → Option HI} (hk133 : ∀ {I : HI} {l0 : Nat}  {c : Nat × Nat}, (c.1 ≤ 0 ∧ c.2 ≤ 0) → k133 I l0 = some o → V K J 162 133 [some (.ref l0)] [] sh I R c F) (hk200 : ∀ {I : HI} {l0 : Nat}  {c : Nat × Nat}, (c.1 ≤ 0 ∧ c.2 ≤ 0) → k200 I l0 = some o → V K J 162 200 [some (.ref l0)] [] sh I R c F) {I : HI} {l0 : Nat} {c : Nat × Nat} (hc0 : c.1 ≤ 0 ∧ c.2 ≤ 0) (h0 : fX11_next_b133 fu sh R k133 k200 I l0 = some o) : V K J 162 133 [some (.ref l0)] [] sh I R c F := by
  unfold fX11_next_b133 at h0
  refine s_rl (i := 0) (pc' := 134) (by decide +kernel) rfl ?_
  refine s_rl (i := 0) (pc' := 135) (by decide +kernel) rfl ?_
  refine s_gI (t := 9) (j := 9) (ty := 0) (pc' := 138) (by decide +kernel) rfl h0 (fun v22 h1 => ?_); clear h0
  refine kX11_isDigitAt (X := 0) (Y := 0) (X' := 0) (Y' := 0) (pc' := 141) (by decide +kernel) hc0 rfl h1 (fun v23 c hc1 h2 => ?_); clear h1 hc0
  refine s_if (ins := .ifCond .eq 59) (t := 200) (pc' := 144) (by decide +kernel) rfl rfl rfl h2 (fun p3 h3 => ?_) (fun p3 h3 => ?_) <;> clear h2
  · exact hk200 hc1 h3
  · refine s_rl (i := 0) (pc' := 145) (by decide +kernel) rfl ?_
    refine s_rl (i := 0) (pc' := 146) (by decide +kernel) rfl ?_
    refine s_gI (t := 9) (j := 9) (ty := 0) (pc' := 149) (by decide +kernel) rfl h3 (fun v24 h4 => ?_); clear h3
    refine s_rl (i := 0) (pc' := 150) (by decide +kernel) rfl ?_
    refine s_gI (t := 9) (j := 10) (ty := 0) (pc' := 153) (by decide +kernel) rfl h4 (fun v25 h5 => ?_); clear h4
    refine s_a (ins := .isub) (pc' := 154) (by decide +kernel) rfl ?_
    refine s_c (v := 4) (pc' := 155) (by decide +kernel) ?_
    refine s_if (ins := .if_icmp .ge 25) (t := 180) (pc' := 158) (by decide +kernel) rfl rfl rfl h5 (fun p6 h6 => ?_) (fun p6 h6 => ?_) <;> clear h5
    · refine s_rl (i := 0) (pc' := 181) (by decide +kernel) rfl ?_
      refine s_gI (t := 9) (j := 12) (ty := 0) (pc' := 184) (by decide +kernel) rfl h6 (fun v26 h7 => ?_); clear h6
      exact (vX11_next_b184 hF hk133 hk200) hc1 h7
    · refine s_c (v := 10) (pc' := 160) (by decide +kernel) ?_
      refine s_rl (i := 0) (pc' := 161) (by decide +kernel) rfl ?_
      refine s_gI (t := 9) (j := 12) (ty := 0) (pc' := 164) (by decide +kernel) rfl h6 (fun v30 h7 => ?_); clear h6
      refine s_a (ins := .imul) (pc' := 165) (by decide +kernel) rfl ?_
      refine s_rl (i := 0) (pc' := 166) (by decide +kernel) rfl ?_
      refine s_rl (i := 0) (pc' := 167) (by decide +kernel) rfl ?_
      refine s_gI (t := 9) (j := 9) (ty := 0) (pc' := 170) (by decide +kernel) rfl h7 (fun v31 h8 => ?_); clear h7
      refine kX11_byteAt (X := 0) (Y := 0) (X' := 0) (Y' := 0) (pc' := 173) (by decide +kernel) hc1 rfl h8 (fun v32 c hc2 h9 => ?_); clear h8 hc1
      refine s_a (ins := .iadd) (pc' := 174) (by decide +kernel) rfl ?_
      refine s_c (v := 48) (pc' := 176) (by decide +kernel) ?_
      refine s_a (ins := .isub) (pc' := 177) (by decide +kernel) rfl ?_
      refine s_go (t := 184) (by decide +kernel) ?_
      exact (vX11_next_b184 hF hk133 hk200) hc2 h9
set_option maxRecDepth 100000 in
set_option maxHeartbeats 4000000 in
def fX11_next_l133 (fu : Nat) (sh : HS) (R : HR) (k200 : HI → Nat → Option HI) : Nat → HI → Nat → Option HI
  | 0 => fun _ _ => none
  | n + 1 => fX11_next_b133 fu sh R (fX11_next_l133 fu sh R k200 n) k200
set_option maxRecDepth 100000 in
set_option maxHeartbeats 4000000 in
theorem vX11_next_l133 {K J : Nat → Nat} {fu : Nat} {sh : HS} {R : HR} {F : VF} {o : HI} (hF : F (.inl none) sh o R) {k200 : HI → Nat → Option HI} (hk200 : ∀ {I : HI} {l0 : Nat}  {c : Nat × Nat}, (c.1 ≤ 0 ∧ c.2 ≤ 0) → k200 I l0 = some o → V K J 162 200 [some (.ref l0)] [] sh I R c F) : ∀ (n : Nat) {I : HI} {l0 : Nat} {c : Nat × Nat} (_ : c.1 ≤ 0 ∧ c.2 ≤ 0) (_ : fX11_next_l133 fu sh R k200 n I l0 = some o), V K J 162 133 [some (.ref l0)] [] sh I R c F := by
  intro n
  induction n with
  | zero => exact fun _ h0 => nomatch h0
  | succ n ih => exact fun hc0 h0 => vX11_next_b133 hF ih hk200 hc0 h0
set_option maxRecDepth 100000 in
set_option maxHeartbeats 4000000 in
def fX11_next_b219 (fu : Nat) (sh : HS) (R : HR) (I : HI) (s0 : Int32) (s1 : Nat) : Option HI :=
  (oP sh I s1 9 11 s0).bind fun v35 =>
  (fX11_next_b257 fu sh R) v35
set_option maxRecDepth 100000 in
set_option maxHeartbeats 4000000 in
theorem vX11_next_b219 {K J : Nat → Nat} {fu : Nat} {sh : HS} {R : HR} {F : VF} {o : HI} (hF : F (.inl none) sh o R) {I : HI} {s0 : Int32} {s1 : Nat} {d0 : Option Value} {c : Nat × Nat} (hc0 : c.1 ≤ 0 ∧ c.2 ≤ 0) (h0 : fX11_next_b219 fu sh R I s0 s1 = some o) : V K J 162 219 [d0] [.int s0, .ref s1] sh I R c F := by
  unfold fX11_next_b219 at h0
  refine s_pI (t := 9) (j := 11) (ty := 0) (pc' := 222) (by decide +kernel) (Or.inl rfl) h0 (fun v35 h1 => ?_); clear h0
  refine s_go (t := 257) (by decide +kernel) ?_
  exact (vX11_next_b257 hF) hc0 h1
set_option maxRecDepth 100000 in
set_option maxHeartbeats 4000000 in
def fX11_next_b200 (fu : Nat) (sh : HS) (R : HR) (I : HI) (l0 : Nat) : Option HI :=
  (oI sh I l0 9 9).bind fun v33 =>
  (oI sh I l0 9 10).bind fun v34 =>
  if (v33 - v34) ≤ 4 then
    ((fX11_next_b219 fu sh R) I 3 l0)
  else
    ((fX11_next_b219 fu sh R) I 1 l0)
set_option maxRecDepth 100000 in
set_option maxHeartbeats 4000000 in
theorem vX11_next_b200 {K J : Nat → Nat} {fu : Nat} {sh : HS} {R : HR} {F : VF} {o : HI} (hF : F (.inl none) sh o R) {I : HI} {l0 : Nat} {c : Nat × Nat} (hc0 : c.1 ≤ 0 ∧ c.2 ≤ 0) (h0 : fX11_next_b200 fu sh R I l0 = some o) : V K J 162 200 [some (.ref l0)] [] sh I R c F := by
  unfold fX11_next_b200 at h0
  refine s_rl (i := 0) (pc' := 201) (by decide +kernel) rfl ?_
  refine s_rl (i := 0) (pc' := 202) (by decide +kernel) rfl ?_
  refine s_gI (t := 9) (j := 9) (ty := 0) (pc' := 205) (by decide +kernel) rfl h0 (fun v33 h1 => ?_); clear h0
  refine s_rl (i := 0) (pc' := 206) (by decide +kernel) rfl ?_
  refine s_gI (t := 9) (j := 10) (ty := 0) (pc' := 209) (by decide +kernel) rfl h1 (fun v34 h2 => ?_); clear h1
  refine s_a (ins := .isub) (pc' := 210) (by decide +kernel) rfl ?_
  refine s_c (v := 4) (pc' := 211) (by decide +kernel) ?_
  refine s_if (ins := .if_icmp .le 7) (t := 218) (pc' := 214) (by decide +kernel) rfl rfl rfl h2 (fun p3 h3 => ?_) (fun p3 h3 => ?_) <;> clear h2
  · refine s_c (v := 3) (pc' := 219) (by decide +kernel) ?_
    exact (vX11_next_b219 hF) hc0 h3
  · refine s_c (v := 1) (pc' := 215) (by decide +kernel) ?_
    refine s_go (t := 219) (by decide +kernel) ?_
    exact (vX11_next_b219 hF) hc0 h3
set_option maxRecDepth 100000 in
set_option maxHeartbeats 4000000 in
def fX11_next_b85 (fu : Nat) (sh : HS) (R : HR) (k85 : HI → Nat → Option HI) (k109 : HI → Nat → Option HI) (I : HI) (l0 : Nat) : Option HI :=
  (oI sh I l0 9 9).bind fun v36 =>
  (fX11_isLetterAt fu sh I R l0 v36).bind fun v37 =>
  if v37 = 0 then
    (k109 I l0)
  else
    ((oI sh I l0 9 9).bind fun v38 =>
    (oP sh I l0 9 9 (v38 + 1)).bind fun v39 =>
    k85 v39 l0)
set_option maxRecDepth 100000 in
set_option maxHeartbeats 4000000 in
theorem vX11_next_b85 {K J : Nat → Nat} {fu : Nat} {sh : HS} {R : HR} {F : VF} {o : HI} (hF : F (.inl none) sh o R) {k85 : HI → Nat → Option HI} {k109 : HI → Nat → Option HI} (hk85 : ∀ {I : HI} {l0 : Nat}  {c : Nat × Nat}, (c.1 ≤ 0 ∧ c.2 ≤ 0) → k85 I l0 = some o → V K J 162 85 [some (.ref l0)] [] sh I R c F) (hk109 : ∀ {I : HI} {l0 : Nat}  {c : Nat × Nat}, (c.1 ≤ 0 ∧ c.2 ≤ 0) → k109 I l0 = some o → V K J 162 109 [some (.ref l0)] [] sh I R c F) {I : HI} {l0 : Nat} {c : Nat × Nat} (hc0 : c.1 ≤ 0 ∧ c.2 ≤ 0) (h0 : fX11_next_b85 fu sh R k85 k109 I l0 = some o) : V K J 162 85 [some (.ref l0)] [] sh I R c F := by
  unfold fX11_next_b85 at h0
  refine s_rl (i := 0) (pc' := 86) (by decide +kernel) rfl ?_
  refine s_rl (i := 0) (pc' := 87) (by decide +kernel) rfl ?_
  refine s_gI (t := 9) (j := 9) (ty := 0) (pc' := 90) (by decide +kernel) rfl h0 (fun v36 h1 => ?_); clear h0
  refine kX11_isLetterAt (X := 0) (Y := 0) (X' := 0) (Y' := 0) (pc' := 93) (by decide +kernel) hc0 rfl h1 (fun v37 c hc1 h2 => ?_); clear h1 hc0
  refine s_if (ins := .ifCond .eq 16) (t := 109) (pc' := 96) (by decide +kernel) rfl rfl rfl h2 (fun p3 h3 => ?_) (fun p3 h3 => ?_) <;> clear h2
  · exact hk109 hc1 h3
  · refine s_rl (i := 0) (pc' := 97) (by decide +kernel) rfl ?_
    refine s_a (ins := .dup) (pc' := 98) (by decide +kernel) rfl ?_
    refine s_gI (t := 9) (j := 9) (ty := 0) (pc' := 101) (by decide +kernel) rfl h3 (fun v38 h4 => ?_); clear h3
    refine s_c (v := 1) (pc' := 102) (by decide +kernel) ?_
    refine s_a (ins := .iadd) (pc' := 103) (by decide +kernel) rfl ?_
    refine s_pI (t := 9) (j := 9) (ty := 0) (pc' := 106) (by decide +kernel) (Or.inl rfl) h4 (fun v39 h5 => ?_); clear h4
    refine s_go (t := 85) (by decide +kernel) ?_
    exact hk85 hc1 h5
set_option maxRecDepth 100000 in
set_option maxHeartbeats 4000000 in
def fX11_next_l85 (fu : Nat) (sh : HS) (R : HR) (k109 : HI → Nat → Option HI) : Nat → HI → Nat → Option HI
  | 0 => fun _ _ => none
  | n + 1 => fX11_next_b85 fu sh R (fX11_next_l85 fu sh R k109 n) k109
set_option maxRecDepth 100000 in
set_option maxHeartbeats 4000000 in
theorem vX11_next_l85 {K J : Nat → Nat} {fu : Nat} {sh : HS} {R : HR} {F : VF} {o : HI} (hF : F (.inl none) sh o R) {k109 : HI → Nat → Option HI} (hk109 : ∀ {I : HI} {l0 : Nat}  {c : Nat × Nat}, (c.1 ≤ 0 ∧ c.2 ≤ 0) → k109 I l0 = some o → V K J 162 109 [some (.ref l0)] [] sh I R c F) : ∀ (n : Nat) {I : HI} {l0 : Nat} {c : Nat × Nat} (_ : c.1 ≤ 0 ∧ c.2 ≤ 0) (_ : fX11_next_l85 fu sh R k109 n I l0 = some o), V K J 162 85 [some (.ref l0)] [] sh I R c F := by
  intro n
  induction n with
  | zero => exact fun _ h0 => nomatch h0
  | succ n ih => exact fun hc0 h0 => vX11_next_b85 hF ih hk109 hc0 h0
set_option maxRecDepth 100000 in
set_option maxHeartbeats 4000000 in
def fX11_next_b109 (fu : Nat) (sh : HS) (R : HR) (I : HI) (l0 : Nat) : Option HI :=
  (oP sh I l0 9 11 2).bind fun v40 =>
  (fX11_next_b257 fu sh R) v40
set_option maxRecDepth 100000 in
set_option maxHeartbeats 4000000 in
theorem vX11_next_b109 {K J : Nat → Nat} {fu : Nat} {sh : HS} {R : HR} {F : VF} {o : HI} (hF : F (.inl none) sh o R) {I : HI} {l0 : Nat} {c : Nat × Nat} (hc0 : c.1 ≤ 0 ∧ c.2 ≤ 0) (h0 : fX11_next_b109 fu sh R I l0 = some o) : V K J 162 109 [some (.ref l0)] [] sh I R c F := by
  unfold fX11_next_b109 at h0
  refine s_rl (i := 0) (pc' := 110) (by decide +kernel) rfl ?_
  refine s_c (v := 2) (pc' := 111) (by decide +kernel) ?_
  refine s_pI (t := 9) (j := 11) (ty := 0) (pc' := 114) (by decide +kernel) (Or.inl rfl) h0 (fun v40 h1 => ?_); clear h0
  refine s_go (t := 257) (by decide +kernel) ?_
  exact (vX11_next_b257 hF) hc0 h1
set_option maxRecDepth 100000 in
set_option maxHeartbeats 4000000 in
def fX11_next_b47 (fu : Nat) (sh : HS) (R : HR) (I : HI) (l0 : Nat) : Option HI :=
  (oI sh I l0 9 9).bind fun v8 =>
  (oP sh I l0 9 10 v8).bind fun v9 =>
  (oI sh v9 l0 9 9).bind fun v10 =>
  (oI sh v9 l0 9 8).bind fun v11 =>
  if v10 = v11 then
    ((oP sh v9 l0 9 11 0).bind fun v41 =>
    (fX11_next_b257 fu sh R) v41)
  else
    ((oI sh v9 l0 9 9).bind fun v12 =>
    (fX11_isLetterAt fu sh v9 R l0 v12).bind fun v13 =>
    if v13 = 0 then
      ((oI sh v9 l0 9 9).bind fun v14 =>
      (fX11_isDigitAt fu sh v9 R l0 v14).bind fun v15 =>
      if v15 = 0 then
        ((oI sh v9 l0 9 9).bind fun v16 =>
        (fX11_byteAt fu sh v9 R l0 v16).bind fun v17 =>
        if v17 = 59 then
          ((fX11_next_b244 fu sh R) v9 l0 4 l0)
        else
          ((fX11_next_b244 fu sh R) v9 l0 1 l0))
      else
        ((oP sh v9 l0 9 12 0).bind fun v21 =>
        (fX11_next_l133 fu sh R (fX11_next_b200 fu sh R) fu) v21 l0))
    else
      ((fX11_next_l85 fu sh R (fX11_next_b109 fu sh R) fu) v9 l0))
set_option maxRecDepth 100000 in
set_option maxHeartbeats 4000000 in
theorem vX11_next_b47 {K J : Nat → Nat} {fu : Nat} {sh : HS} {R : HR} {F : VF} {o : HI} (hF : F (.inl none) sh o R) {I : HI} {l0 : Nat} {c : Nat × Nat} (hc0 : c.1 ≤ 0 ∧ c.2 ≤ 0) (h0 : fX11_next_b47 fu sh R I l0 = some o) : V K J 162 47 [some (.ref l0)] [] sh I R c F := by
  unfold fX11_next_b47 at h0
  refine s_rl (i := 0) (pc' := 48) (by decide +kernel) rfl ?_
  refine s_rl (i := 0) (pc' := 49) (by decide +kernel) rfl ?_
  refine s_gI (t := 9) (j := 9) (ty := 0) (pc' := 52) (by decide +kernel) rfl h0 (fun v8 h1 => ?_); clear h0
  refine s_pI (t := 9) (j := 10) (ty := 0) (pc' := 55) (by decide +kernel) (Or.inl rfl) h1 (fun v9 h2 => ?_); clear h1
  refine s_rl (i := 0) (pc' := 56) (by decide +kernel) rfl ?_
  refine s_gI (t := 9) (j := 9) (ty := 0) (pc' := 59) (by decide +kernel) rfl h2 (fun v10 h3 => ?_); clear h2
  refine s_rl (i := 0) (pc' := 60) (by decide +kernel) rfl ?_
  refine s_gI (t := 9) (j := 8) (ty := 0) (pc' := 63) (by decide +kernel) rfl h3 (fun v11 h4 => ?_); clear h3
  refine s_ifn (ins := .if_icmp .ne 11) (t := 74) (pc' := 66) (by decide +kernel) rfl rfl rfl h4 (fun p5 h5 => ?_) (fun p5 h5 => ?_) <;> clear h4
  · refine s_rl (i := 0) (pc' := 75) (by decide +kernel) rfl ?_
    refine s_rl (i := 0) (pc' := 76) (by decide +kernel) rfl ?_
    refine s_gI (t := 9) (j := 9) (ty := 0) (pc' := 79) (by decide +kernel) rfl h5 (fun v12 h6 => ?_); clear h5
    refine kX11_isLetterAt (X := 0) (Y := 0) (X' := 0) (Y' := 0) (pc' := 82) (by decide +kernel) hc0 rfl h6 (fun v13 c hc1 h7 => ?_); clear h6 hc0
    refine s_if (ins := .ifCond .eq 35) (t := 117) (pc' := 85) (by decide +kernel) rfl rfl rfl h7 (fun p8 h8 => ?_) (fun p8 h8 => ?_) <;> clear h7
    · refine s_rl (i := 0) (pc' := 118) (by decide +kernel) rfl ?_
      refine s_rl (i := 0) (pc' := 119) (by decide +kernel) rfl ?_
      refine s_gI (t := 9) (j := 9) (ty := 0) (pc' := 122) (by decide +kernel) rfl h8 (fun v14 h9 => ?_); clear h8
      refine kX11_isDigitAt (X := 0) (Y := 0) (X' := 0) (Y' := 0) (pc' := 125) (by decide +kernel) hc1 rfl h9 (fun v15 c hc2 h10 => ?_); clear h9 hc1
      refine s_if (ins := .ifCond .eq 100) (t := 225) (pc' := 128) (by decide +kernel) rfl rfl rfl h10 (fun p11 h11 => ?_) (fun p11 h11 => ?_) <;> clear h10
      · refine s_rl (i := 0) (pc' := 226) (by decide +kernel) rfl ?_
        refine s_rl (i := 0) (pc' := 227) (by decide +kernel) rfl ?_
        refine s_rl (i := 0) (pc' := 228) (by decide +kernel) rfl ?_
        refine s_gI (t := 9) (j := 9) (ty := 0) (pc' := 231) (by decide +kernel) rfl h11 (fun v16 h12 => ?_); clear h11
        refine kX11_byteAt (X := 0) (Y := 0) (X' := 0) (Y' := 0) (pc' := 234) (by decide +kernel) hc2 rfl h12 (fun v17 c hc3 h13 => ?_); clear h12 hc2
        refine s_c (v := 59) (pc' := 236) (by decide +kernel) ?_
        refine s_ifn (ins := .if_icmp .ne 7) (t := 243) (pc' := 239) (by decide +kernel) rfl rfl rfl h13 (fun p14 h14 => ?_) (fun p14 h14 => ?_) <;> clear h13
        · refine s_c (v := 1) (pc' := 244) (by decide +kernel) ?_
          exact (vX11_next_b244 hF) hc3 h14
        · refine s_c (v := 4) (pc' := 240) (by decide +kernel) ?_
          refine s_go (t := 244) (by decide +kernel) ?_
          exact (vX11_next_b244 hF) hc3 h14
      · refine s_rl (i := 0) (pc' := 129) (by decide +kernel) rfl ?_
        refine s_c (v := 0) (pc' := 130) (by decide +kernel) ?_
        refine s_pI (t := 9) (j := 12) (ty := 0) (pc' := 133) (by decide +kernel) (Or.inl rfl) h11 (fun v21 h12 => ?_); clear h11
        exact (vX11_next_l133 hF (vX11_next_b200 hF) fu) hc2 h12
    · exact (vX11_next_l85 hF (vX11_next_b109 hF) fu) hc1 h8
  · refine s_rl (i := 0) (pc' := 67) (by decide +kernel) rfl ?_
    refine s_c (v := 0) (pc' := 68) (by decide +kernel) ?_
    refine s_pI (t := 9) (j := 11) (ty := 0) (pc' := 71) (by decide +kernel) (Or.inl rfl) h5 (fun v41 h6 => ?_); clear h5
    refine s_go (t := 257) (by decide +kernel) ?_
    exact (vX11_next_b257 hF) hc0 h6
set_option maxRecDepth 100000 in
set_option maxHeartbeats 4000000 in
def fX11_next (fu : Nat) (sh : HS) (I : HI) (R : HR) (l0 : Nat) : Option HI :=
  if isT sh l0 9 = true then
    ((fX11_isFine fu sh I R l0).bind fun v1 =>
    if v1 = 0 then
      (some I)
    else
      ((fX11_next_l8 fu sh R (fX11_next_b47 fu sh R) fu) I l0))
  else none
set_option maxRecDepth 100000 in
set_option maxHeartbeats 4000000 in
theorem vX11_next {K J : Nat → Nat} {fu : Nat} {sh : HS} {I : HI} {R : HR} {F : VF} {o : HI} (hF : F (.inl none) sh o R) {l0 : Nat} (h0 : fX11_next fu sh I R l0 = some o) : V K J 162 0 (ent 1 [.ref l0]) [] sh I R (0, 0) F := by
  unfold fX11_next at h0
  obtain ⟨-, h1⟩ := gd h0; clear h0
  have hc0 : ((0 : Nat), (0 : Nat)).1 ≤ 0 ∧ ((0 : Nat), (0 : Nat)).2 ≤ 0 := ⟨Nat.le_refl _, Nat.le_refl _⟩
  show V K J 162 0 [some (.ref l0)] [] sh I R (0, 0) F
  refine s_rl (i := 0) (pc' := 1) (by decide +kernel) rfl ?_
  refine kX11_isFine (X := 0) (Y := 0) (X' := 0) (Y' := 0) (pc' := 4) (by decide +kernel) hc0 rfl h1 (fun v1 c hc1 h2 => ?_); clear h1 hc0
  refine s_ifn (ins := .ifCond .ne 4) (t := 8) (pc' := 7) (by decide +kernel) rfl rfl rfl h2 (fun p3 h3 => ?_) (fun p3 h3 => ?_) <;> clear h2
  · exact (vX11_next_l8 hF (vX11_next_b47 hF) fu) hc1 h3
  · have e9 := Option.some.inj h3; subst e9
    exact s_rv (X := 0) (Y := 0) (by decide +kernel) hc1 hF
set_option maxRecDepth 100000 in
set_option maxHeartbeats 4000000 in
theorem kX11_next {K J : Nat → Nat} {fu : Nat} {sh : HS} {I : HI} {R : HR} {F : VF} {mi pc pc' X Y X' Y' : Nat} {L : VL} {rest : List Value} {c : Nat × Nat} {l0 : Nat} {ω : Type} {o : ω} {g : HI → Option ω} (hq : cQ mi pc 162 1 pc' X Y X' Y' = true) (hc : c.1 ≤ X ∧ c.2 ≤ Y) (hr : Nat.ble (catS rest) 8 = true) (h : (fX11_next fu sh I R l0).bind g = some o) (kk : ∀ w c', (c'.1 ≤ X' ∧ c'.2 ≤ Y') → g w = some o → V K J mi pc' L (rest) sh w R c' F) : V K J mi pc L (.ref l0 :: rest) sh I R c F := by
  obtain ⟨r, h1, h2⟩ := bnd h
  have hT : isT sh l0 9 = true := by unfold fX11_next at h1; exact (gd h1).1
  have ml : mL 162 = 1 := by decide +kernel
  have mk : mK 162 = 1 := by decide +kernel
  have mc : mC 162 = 9 := by decide +kernel
  refine s_call (as := [.ref l0]) (G := fun o' sh' I' R' => o' = .inl none ∧ sh' = sh ∧ I' = r ∧ R' = R) hq hc rfl hr (by rw [ml]; rfl) (Or.inl rfl) (fun _ => Or.inl ⟨by rw [mc]; decide, by rw [mc]; exact isT_iff.mp hT⟩) (fun z => absurd (mk.symm.trans z) (by decide)) (by rw [ml]; exact vX11_next (F := fun o' sh' I' R' => o' = .inl none ∧ sh' = sh ∧ I' = r ∧ R' = R) ⟨rfl, rfl, rfl, rfl⟩ h1) ?_ ?_ ?_
  · rintro sh' I' R' c' hc' ⟨g1, rfl, rfl, rfl⟩
    cases g1
    exact kk _ _ hc' h2
  · rintro v' sh' I' R' c' hc' ⟨g1, rfl, rfl, rfl⟩
    cases g1
  · rintro E' sh' I' R' ⟨g1, rfl, rfl, rfl⟩
    cases g1
set_option maxRecDepth 100000 in
set_option maxHeartbeats 4000000 in
def fX11_fail_b20 (fu : Nat) (sh : HS) (R : HR) (I : HI) : Option HI :=
  some I
set_option maxRecDepth 100000 in
set_option maxHeartbeats 4000000 in
theorem vX11_fail_b20 {K J : Nat → Nat} {fu : Nat} {sh : HS} {R : HR} {F : VF} {o : HI} (hF : F (.inl none) sh o R) {I : HI} {d0 d1 : Option Value} {c : Nat × Nat} (hc0 : c.1 ≤ 0 ∧ c.2 ≤ 0) (h0 : fX11_fail_b20 fu sh R I = some o) : V K J 163 20 [d0, d1] [] sh I R c F := by
  unfold fX11_fail_b20 at h0
  have e9 := Option.some.inj h0; subst e9
  exact s_rv (X := 0) (Y := 0) (by decide +kernel) hc0 hF
set_option maxRecDepth 100000 in
set_option maxHeartbeats 4000000 in
def fX11_fail (fu : Nat) (sh : HS) (I : HI) (R : HR) (l0 : Nat) (l1 : Int32) : Option HI :=
  if isT sh l0 9 = true then
    ((fX11_isFine fu sh I R l0).bind fun v1 =>
    if v1 = 0 then
      ((fX11_fail_b20 fu sh R) I)
    else
      ((oP sh I l0 9 13 l1).bind fun v2 =>
      (oI sh v2 l0 9 10).bind fun v3 =>
      (oP sh v2 l0 9 14 v3).bind fun v4 =>
      (fX11_fail_b20 fu sh R) v4))
  else none
set_option maxRecDepth 100000 in
set_option maxHeartbeats 4000000 in
theorem vX11_fail {K J : Nat → Nat} {fu : Nat} {sh : HS} {I : HI} {R : HR} {F : VF} {o : HI} (hF : F (.inl none) sh o R) {l0 : Nat} {l1 : Int32} (h0 : fX11_fail fu sh I R l0 l1 = some o) : V K J 163 0 (ent 2 [.ref l0, .int l1]) [] sh I R (0, 0) F := by
  unfold fX11_fail at h0
  obtain ⟨-, h1⟩ := gd h0; clear h0
  have hc0 : ((0 : Nat), (0 : Nat)).1 ≤ 0 ∧ ((0 : Nat), (0 : Nat)).2 ≤ 0 := ⟨Nat.le_refl _, Nat.le_refl _⟩
  show V K J 163 0 [some (.ref l0), some (.int l1)] [] sh I R (0, 0) F
  refine s_rl (i := 0) (pc' := 1) (by decide +kernel) rfl ?_
  refine kX11_isFine (X := 0) (Y := 0) (X' := 0) (Y' := 0) (pc' := 4) (by decide +kernel) hc0 rfl h1 (fun v1 c hc1 h2 => ?_); clear h1 hc0
  refine s_if (ins := .ifCond .eq 16) (t := 20) (pc' := 7) (by decide +kernel) rfl rfl rfl h2 (fun p3 h3 => ?_) (fun p3 h3 => ?_) <;> clear h2
  · exact (vX11_fail_b20 hF) hc1 h3
  · refine s_rl (i := 0) (pc' := 8) (by decide +kernel) rfl ?_
    refine s_il (i := 1) (pc' := 9) (by decide +kernel) rfl ?_
    refine s_pI (t := 9) (j := 13) (ty := 0) (pc' := 12) (by decide +kernel) (Or.inl rfl) h3 (fun v2 h4 => ?_); clear h3
    refine s_rl (i := 0) (pc' := 13) (by decide +kernel) rfl ?_
    refine s_rl (i := 0) (pc' := 14) (by decide +kernel) rfl ?_
    refine s_gI (t := 9) (j := 10) (ty := 0) (pc' := 17) (by decide +kernel) rfl h4 (fun v3 h5 => ?_); clear h4
    refine s_pI (t := 9) (j := 14) (ty := 0) (pc' := 20) (by decide +kernel) (Or.inl rfl) h5 (fun v4 h6 => ?_); clear h5
    exact (vX11_fail_b20 hF) hc1 h6
set_option maxRecDepth 100000 in
set_option maxHeartbeats 4000000 in
theorem kX11_fail {K J : Nat → Nat} {fu : Nat} {sh : HS} {I : HI} {R : HR} {F : VF} {mi pc pc' X Y X' Y' : Nat} {L : VL} {rest : List Value} {c : Nat × Nat} {l0 : Nat} {l1 : Int32} {ω : Type} {o : ω} {g : HI → Option ω} (hq : cQ mi pc 163 2 pc' X Y X' Y' = true) (hc : c.1 ≤ X ∧ c.2 ≤ Y) (hr : Nat.ble (catS rest) 8 = true) (h : (fX11_fail fu sh I R l0 l1).bind g = some o) (kk : ∀ w c', (c'.1 ≤ X' ∧ c'.2 ≤ Y') → g w = some o → V K J mi pc' L (rest) sh w R c' F) : V K J mi pc L (.int l1 :: .ref l0 :: rest) sh I R c F := by
  obtain ⟨r, h1, h2⟩ := bnd h
  have hT : isT sh l0 9 = true := by unfold fX11_fail at h1; exact (gd h1).1
  have ml : mL 163 = 2 := by decide +kernel
  have mk : mK 163 = 1 := by decide +kernel
  have mc : mC 163 = 9 := by decide +kernel
  refine s_call (as := [.int l1, .ref l0]) (G := fun o' sh' I' R' => o' = .inl none ∧ sh' = sh ∧ I' = r ∧ R' = R) hq hc rfl hr (by rw [ml]; rfl) (Or.inl rfl) (fun _ => Or.inl ⟨by rw [mc]; decide, by rw [mc]; exact isT_iff.mp hT⟩) (fun z => absurd (mk.symm.trans z) (by decide)) (by rw [ml]; exact vX11_fail (F := fun o' sh' I' R' => o' = .inl none ∧ sh' = sh ∧ I' = r ∧ R' = R) ⟨rfl, rfl, rfl, rfl⟩ h1) ?_ ?_ ?_
  · rintro sh' I' R' c' hc' ⟨g1, rfl, rfl, rfl⟩
    cases g1
    exact kk _ _ hc' h2
  · rintro v' sh' I' R' c' hc' ⟨g1, rfl, rfl, rfl⟩
    cases g1
  · rintro E' sh' I' R' ⟨g1, rfl, rfl, rfl⟩
    cases g1
set_option maxRecDepth 100000 in
set_option maxHeartbeats 4000000 in
def fX11_isWord_b31 (fu : Nat) (sh : HS) (I : HI) (R : HR) : Option Int32 :=
  some 0
set_option maxRecDepth 100000 in
set_option maxHeartbeats 4000000 in
theorem vX11_isWord_b31 {K J : Nat → Nat} {fu : Nat} {sh : HS} {I : HI} {R : HR} {F : VF} {o : Int32} (hF : F (.inl (some (.int o))) sh I R) {d0 d1 d2 : Option Value} {c : Nat × Nat} (hc0 : c.1 ≤ 0 ∧ c.2 ≤ 0) (h0 : fX11_isWord_b31 fu sh I R = some o) : V K J 164 31 [d0, d1, d2] [] sh I R c F := by
  unfold fX11_isWord_b31 at h0
  refine s_c (v := 0) (pc' := 32) (by decide +kernel) ?_
  have e9 := Option.some.inj h0; subst e9
  exact s_rz (X := 0) (Y := 0) (by decide +kernel) (by decide) hc0 hF
set_option maxRecDepth 100000 in
set_option maxHeartbeats 4000000 in
def fX11_isWord_b35 (fu : Nat) (sh : HS) (I : HI) (R : HR) (k35 : Nat → Nat → Int32 → Option Int32) (l0 : Nat) (l1 : Nat) (l2 : Int32) : Option Int32 :=
  (fJ0_length_8abf5 fu sh I R l1).bind fun v6 =>
  if v6 ≤ l2 then
    (some 1)
  else
    ((oR sh R l0 9 6).bind fun v7 =>
    (oI sh I l0 9 10).bind fun v8 =>
    (oA sh I v7 (v8 + l2)).bind fun v9 =>
    (fJ0_charAt_5068e fu sh I R l1 l2).bind fun v10 =>
    if v9 = v10 then
      (k35 l0 l1 (l2 + 1))
    else
      (some 0))
set_option maxRecDepth 100000 in
set_option maxHeartbeats 4000000 in
theorem vX11_isWord_b35 {K J : Nat → Nat} {fu : Nat} {sh : HS} {I : HI} {R : HR} {F : VF} {o : Int32} (hF : F (.inl (some (.int o))) sh I R) {k35 : Nat → Nat → Int32 → Option Int32} (hk35 : ∀ {l0 : Nat} {l1 : Nat} {l2 : Int32}  {c : Nat × Nat}, (c.1 ≤ 0 ∧ c.2 ≤ 0) → k35 l0 l1 l2 = some o → V K J 164 35 [some (.ref l0), some (.ref (K l1)), some (.int l2)] [] sh I R c F) {l0 : Nat} {l1 : Nat} {l2 : Int32} {c : Nat × Nat} (hc0 : c.1 ≤ 0 ∧ c.2 ≤ 0) (h0 : fX11_isWord_b35 fu sh I R k35 l0 l1 l2 = some o) : V K J 164 35 [some (.ref l0), some (.ref (K l1)), some (.int l2)] [] sh I R c F := by
  unfold fX11_isWord_b35 at h0
  refine s_il (i := 2) (pc' := 36) (by decide +kernel) rfl ?_
  refine s_rl (i := 1) (pc' := 37) (by decide +kernel) rfl ?_
  refine kJ0_length_8abf5 (X := 0) (Y := 0) (X' := 0) (Y' := 0) (pc' := 40) (by decide +kernel) hc0 rfl h0 (fun v6 c hc1 h1 => ?_); clear h0 hc0
  refine s_if (ins := .if_icmp .ge 30) (t := 70) (pc' := 43) (by decide +kernel) rfl rfl rfl h1 (fun p2 h2 => ?_) (fun p2 h2 => ?_) <;> clear h1
  · refine s_c (v := 1) (pc' := 71) (by decide +kernel) ?_
    have e9 := Option.some.inj h2; subst e9
    exact s_rz (X := 0) (Y := 0) (by decide +kernel) (by decide) hc1 hF
  · refine s_rl (i := 0) (pc' := 44) (by decide +kernel) rfl ?_
    refine s_gR (t := 9) (j := 6) (pc' := 47) (by decide +kernel) h2 (fun v7 h3 => ?_); clear h2
    refine s_rl (i := 0) (pc' := 48) (by decide +kernel) rfl ?_
    refine s_gI (t := 9) (j := 10) (ty := 0) (pc' := 51) (by decide +kernel) rfl h3 (fun v8 h4 => ?_); clear h3
    refine s_il (i := 2) (pc' := 52) (by decide +kernel) rfl ?_
    refine s_a (ins := .iadd) (pc' := 53) (by decide +kernel) rfl ?_
    refine s_al (pc' := 54) (by decide +kernel) h4 (fun v9 h5 => ?_); clear h4
    refine s_rl (i := 1) (pc' := 55) (by decide +kernel) rfl ?_
    refine s_il (i := 2) (pc' := 56) (by decide +kernel) rfl ?_
    refine kJ0_charAt_5068e (X := 0) (Y := 0) (X' := 0) (Y' := 0) (pc' := 59) (by decide +kernel) hc1 rfl h5 (fun v10 c hc2 h6 => ?_); clear h5 hc1
    refine s_if (ins := .if_icmp .eq 5) (t := 64) (pc' := 62) (by decide +kernel) rfl rfl rfl h6 (fun p7 h7 => ?_) (fun p7 h7 => ?_) <;> clear h6
    · refine s_inc (i := 2) (z := 1) (pc' := 67) (L' := [some (.ref l0), some (.ref (K l1)), some (.int (l2 + 1))]) (by decide +kernel) rfl rfl rfl ?_
      refine s_go (t := 35) (by decide +kernel) ?_
      exact hk35 hc2 h7
    · refine s_c (v := 0) (pc' := 63) (by decide +kernel) ?_
      have e9 := Option.some.inj h7; subst e9
      exact s_rz (X := 0) (Y := 0) (by decide +kernel) (by decide) hc2 hF
set_option maxRecDepth 100000 in
set_option maxHeartbeats 4000000 in
def fX11_isWord_l35 (fu : Nat) (sh : HS) (I : HI) (R : HR) : Nat → Nat → Nat → Int32 → Option Int32
  | 0 => fun _ _ _ => none
  | n + 1 => fX11_isWord_b35 fu sh I R (fX11_isWord_l35 fu sh I R n)
set_option maxRecDepth 100000 in
set_option maxHeartbeats 4000000 in
theorem vX11_isWord_l35 {K J : Nat → Nat} {fu : Nat} {sh : HS} {I : HI} {R : HR} {F : VF} {o : Int32} (hF : F (.inl (some (.int o))) sh I R) : ∀ (n : Nat) {l0 : Nat} {l1 : Nat} {l2 : Int32} {c : Nat × Nat} (_ : c.1 ≤ 0 ∧ c.2 ≤ 0) (_ : fX11_isWord_l35 fu sh I R n l0 l1 l2 = some o), V K J 164 35 [some (.ref l0), some (.ref (K l1)), some (.int l2)] [] sh I R c F := by
  intro n
  induction n with
  | zero => exact fun _ h0 => nomatch h0
  | succ n ih => exact fun hc0 h0 => vX11_isWord_b35 hF ih hc0 h0
set_option maxRecDepth 100000 in
set_option maxHeartbeats 4000000 in
def fX11_isWord (fu : Nat) (sh : HS) (I : HI) (R : HR) (l0 : Nat) (l1 : Nat) : Option Int32 :=
  if isT sh l0 9 = true then
    ((fX11_isFine fu sh I R l0).bind fun v1 =>
    if v1 = 0 then
      ((fX11_isWord_b31 fu sh I R))
    else
      ((oI sh I l0 9 11).bind fun v2 =>
      if v2 = 2 then
        ((oI sh I l0 9 9).bind fun v3 =>
        (oI sh I l0 9 10).bind fun v4 =>
        (fJ0_length_8abf5 fu sh I R l1).bind fun v5 =>
        if (v3 - v4) = v5 then
          ((fX11_isWord_l35 fu sh I R fu) l0 l1 0)
        else
          ((fX11_isWord_b31 fu sh I R)))
      else
        ((fX11_isWord_b31 fu sh I R))))
  else none
set_option maxRecDepth 100000 in
set_option maxHeartbeats 4000000 in
theorem vX11_isWord {K J : Nat → Nat} {fu : Nat} {sh : HS} {I : HI} {R : HR} {F : VF} {o : Int32} (hF : F (.inl (some (.int o))) sh I R) {l0 : Nat} {l1 : Nat} (h0 : fX11_isWord fu sh I R l0 l1 = some o) : V K J 164 0 (ent 3 [.ref l0, .ref (K l1)]) [] sh I R (0, 0) F := by
  unfold fX11_isWord at h0
  obtain ⟨-, h1⟩ := gd h0; clear h0
  have hc0 : ((0 : Nat), (0 : Nat)).1 ≤ 0 ∧ ((0 : Nat), (0 : Nat)).2 ≤ 0 := ⟨Nat.le_refl _, Nat.le_refl _⟩
  show V K J 164 0 [some (.ref l0), some (.ref (K l1)), none] [] sh I R (0, 0) F
  refine s_rl (i := 0) (pc' := 1) (by decide +kernel) rfl ?_
  refine kX11_isFine (X := 0) (Y := 0) (X' := 0) (Y' := 0) (pc' := 4) (by decide +kernel) hc0 rfl h1 (fun v1 c hc1 h2 => ?_); clear h1 hc0
  refine s_if (ins := .ifCond .eq 27) (t := 31) (pc' := 7) (by decide +kernel) rfl rfl rfl h2 (fun p3 h3 => ?_) (fun p3 h3 => ?_) <;> clear h2
  · exact (vX11_isWord_b31 hF) hc1 h3
  · refine s_rl (i := 0) (pc' := 8) (by decide +kernel) rfl ?_
    refine s_gI (t := 9) (j := 11) (ty := 0) (pc' := 11) (by decide +kernel) rfl h3 (fun v2 h4 => ?_); clear h3
    refine s_c (v := 2) (pc' := 12) (by decide +kernel) ?_
    refine s_ifn (ins := .if_icmp .ne 19) (t := 31) (pc' := 15) (by decide +kernel) rfl rfl rfl h4 (fun p5 h5 => ?_) (fun p5 h5 => ?_) <;> clear h4
    · exact (vX11_isWord_b31 hF) hc1 h5
    · refine s_rl (i := 0) (pc' := 16) (by decide +kernel) rfl ?_
      refine s_gI (t := 9) (j := 9) (ty := 0) (pc' := 19) (by decide +kernel) rfl h5 (fun v3 h6 => ?_); clear h5
      refine s_rl (i := 0) (pc' := 20) (by decide +kernel) rfl ?_
      refine s_gI (t := 9) (j := 10) (ty := 0) (pc' := 23) (by decide +kernel) rfl h6 (fun v4 h7 => ?_); clear h6
      refine s_a (ins := .isub) (pc' := 24) (by decide +kernel) rfl ?_
      refine s_rl (i := 1) (pc' := 25) (by decide +kernel) rfl ?_
      refine kJ0_length_8abf5 (X := 0) (Y := 0) (X' := 0) (Y' := 0) (pc' := 28) (by decide +kernel) hc1 rfl h7 (fun v5 c hc2 h8 => ?_); clear h7 hc1
      refine s_if (ins := .if_icmp .eq 5) (t := 33) (pc' := 31) (by decide +kernel) rfl rfl rfl h8 (fun p9 h9 => ?_) (fun p9 h9 => ?_) <;> clear h8
      · refine s_c (v := 0) (pc' := 34) (by decide +kernel) ?_
        refine s_is (i := 2) (pc' := 35) (L' := [some (.ref l0), some (.ref (K l1)), some (.int 0)]) (by decide +kernel) rfl rfl ?_
        exact (vX11_isWord_l35 hF fu) hc2 h9
      · exact (vX11_isWord_b31 hF) hc2 h9
set_option maxRecDepth 100000 in
set_option maxHeartbeats 4000000 in
theorem kX11_isWord {K J : Nat → Nat} {fu : Nat} {sh : HS} {I : HI} {R : HR} {F : VF} {mi pc pc' X Y X' Y' : Nat} {L : VL} {rest : List Value} {c : Nat × Nat} {l0 : Nat} {l1 : Nat} {ω : Type} {o : ω} {g : Int32 → Option ω} (hq : cQ mi pc 164 2 pc' X Y X' Y' = true) (hc : c.1 ≤ X ∧ c.2 ≤ Y) (hr : Nat.ble (catS rest) 8 = true) (h : (fX11_isWord fu sh I R l0 l1).bind g = some o) (kk : ∀ v c', (c'.1 ≤ X' ∧ c'.2 ≤ Y') → g v = some o → V K J mi pc' L ((.int v) :: rest) sh I R c' F) : V K J mi pc L (.ref (K l1) :: .ref l0 :: rest) sh I R c F := by
  obtain ⟨r, h1, h2⟩ := bnd h
  have hT : isT sh l0 9 = true := by unfold fX11_isWord at h1; exact (gd h1).1
  have ml : mL 164 = 3 := by decide +kernel
  have mk : mK 164 = 1 := by decide +kernel
  have mc : mC 164 = 9 := by decide +kernel
  refine s_call (as := [.ref (K l1), .ref l0]) (G := fun o' sh' I' R' => o' = .inl (some (.int r)) ∧ sh' = sh ∧ I' = I ∧ R' = R) hq hc rfl hr (by rw [ml]; rfl) (Or.inl rfl) (fun _ => Or.inl ⟨by rw [mc]; decide, by rw [mc]; exact isT_iff.mp hT⟩) (fun z => absurd (mk.symm.trans z) (by decide)) (by rw [ml]; exact vX11_isWord (F := fun o' sh' I' R' => o' = .inl (some (.int r)) ∧ sh' = sh ∧ I' = I ∧ R' = R) ⟨rfl, rfl, rfl, rfl⟩ h1) ?_ ?_ ?_
  · rintro sh' I' R' c' hc' ⟨g1, rfl, rfl, rfl⟩
    cases g1
  · rintro v' sh' I' R' c' hc' ⟨g1, rfl, rfl, rfl⟩
    cases g1
    exact kk _ _ hc' h2
  · rintro E' sh' I' R' ⟨g1, rfl, rfl, rfl⟩
    cases g1
