/-! methods 6 (printed by wip/whole/gen3.py) -/
set_option maxRecDepth 100000 in
set_option maxHeartbeats 4000000 in
def fX11_actor_b34 (fu : Nat) (sh : HS) (R : HR) (I : HI) (s0 : Int32) : Option (Int32 × HI) :=
  some (s0, I)
set_option maxRecDepth 100000 in
set_option maxHeartbeats 4000000 in
theorem vX11_actor_b34 {K J : Nat → Nat} {fu : Nat} {sh : HS} {R : HR} {F : VF} {o : (Int32 × HI)} (hF : F (.inl (some (.int o.1))) sh o.2 R) {I : HI} {s0 : Int32} {d0 d1 d2 d3 : Option Value} {c : Nat × Nat} (hc0 : c.1 ≤ 0 ∧ c.2 ≤ 0) (h0 : fX11_actor_b34 fu sh R I s0 = some o) : V K J 191 34 [d0, d1, d2, d3] [.int s0] sh I R c F := by
  unfold fX11_actor_b34 at h0
  have e9 := Option.some.inj h0; subst e9
  exact s_ri (X := 0) (Y := 0) (by decide +kernel) hc0 hF
set_option maxRecDepth 100000 in
set_option maxHeartbeats 4000000 in
def fX11_actor (fu : Nat) (sh : HS) (I : HI) (R : HR) (l0 : Nat) (l1 : Int32) (l2 : Int32) (l3 : Int32) : Option (Int32 × HI) :=
  if isT sh l0 9 = true then
    ((fX11_isActor fu sh I R l0 l1 l2).bind fun v1 =>
    oH (fX11_isWrong fu sh I R l0 v1) fun v2 w2 =>
    if v2 = 0 then
      (if l3 = 0 then
        ((fX11_actorX fu sh w2 R l0 l1 l2).bind fun v3 =>
        (fX11_actor_b34 fu sh R) w2 v3)
      else
        ((fX11_actorY fu sh w2 R l0 l1 l2).bind fun v4 =>
        (fX11_actor_b34 fu sh R) w2 v4))
    else
      (some (0, w2)))
  else none
set_option maxRecDepth 100000 in
set_option maxHeartbeats 4000000 in
theorem vX11_actor {K J : Nat → Nat} {fu : Nat} {sh : HS} {I : HI} {R : HR} {F : VF} {o : (Int32 × HI)} (hF : F (.inl (some (.int o.1))) sh o.2 R) {l0 : Nat} {l1 : Int32} {l2 : Int32} {l3 : Int32} (h0 : fX11_actor fu sh I R l0 l1 l2 l3 = some o) : V K J 191 0 (ent 4 [.ref l0, .int l1, .int l2, .int l3]) [] sh I R (0, 0) F := by
  unfold fX11_actor at h0
  obtain ⟨-, h1⟩ := gd h0; clear h0
  have hc0 : ((0 : Nat), (0 : Nat)).1 ≤ 0 ∧ ((0 : Nat), (0 : Nat)).2 ≤ 0 := ⟨Nat.le_refl _, Nat.le_refl _⟩
  show V K J 191 0 [some (.ref l0), some (.int l1), some (.int l2), some (.int l3)] [] sh I R (0, 0) F
  refine s_rl (i := 0) (pc' := 1) (by decide +kernel) rfl ?_
  refine s_rl (i := 0) (pc' := 2) (by decide +kernel) rfl ?_
  refine s_il (i := 1) (pc' := 3) (by decide +kernel) rfl ?_
  refine s_il (i := 2) (pc' := 4) (by decide +kernel) rfl ?_
  refine kX11_isActor (X := 0) (Y := 0) (X' := 0) (Y' := 0) (pc' := 7) (by decide +kernel) hc0 rfl h1 (fun v1 c hc1 h2 => ?_); clear h1 hc0
  refine kX11_isWrong (X := 0) (Y := 0) (X' := 0) (Y' := 0) (pc' := 10) (by decide +kernel) hc1 rfl h2 (fun v2 w2 c hc2 h3 => ?_); clear h2 hc1
  refine s_if (ins := .ifCond .eq 5) (t := 15) (pc' := 13) (by decide +kernel) rfl rfl rfl h3 (fun p4 h4 => ?_) (fun p4 h4 => ?_) <;> clear h3
  · refine s_il (i := 3) (pc' := 16) (by decide +kernel) rfl ?_
    refine s_if (ins := .ifCond .eq 12) (t := 28) (pc' := 19) (by decide +kernel) rfl rfl rfl h4 (fun p5 h5 => ?_) (fun p5 h5 => ?_) <;> clear h4
    · refine s_rl (i := 0) (pc' := 29) (by decide +kernel) rfl ?_
      refine s_il (i := 1) (pc' := 30) (by decide +kernel) rfl ?_
      refine s_il (i := 2) (pc' := 31) (by decide +kernel) rfl ?_
      refine kX11_actorX (X := 0) (Y := 0) (X' := 0) (Y' := 0) (pc' := 34) (by decide +kernel) hc2 rfl h5 (fun v3 c hc3 h6 => ?_); clear h5 hc2
      exact (vX11_actor_b34 hF) hc3 h6
    · refine s_rl (i := 0) (pc' := 20) (by decide +kernel) rfl ?_
      refine s_il (i := 1) (pc' := 21) (by decide +kernel) rfl ?_
      refine s_il (i := 2) (pc' := 22) (by decide +kernel) rfl ?_
      refine kX11_actorY (X := 0) (Y := 0) (X' := 0) (Y' := 0) (pc' := 25) (by decide +kernel) hc2 rfl h5 (fun v4 c hc3 h6 => ?_); clear h5 hc2
      refine s_go (t := 34) (by decide +kernel) ?_
      exact (vX11_actor_b34 hF) hc3 h6
  · refine s_c (v := 0) (pc' := 14) (by decide +kernel) ?_
    have e9 := Option.some.inj h4; subst e9
    exact s_ri (X := 0) (Y := 0) (by decide +kernel) hc2 hF
set_option maxRecDepth 100000 in
set_option maxHeartbeats 4000000 in
theorem kX11_actor {K J : Nat → Nat} {fu : Nat} {sh : HS} {I : HI} {R : HR} {F : VF} {mi pc pc' X Y X' Y' : Nat} {L : VL} {rest : List Value} {c : Nat × Nat} {l0 : Nat} {l1 : Int32} {l2 : Int32} {l3 : Int32} {ω : Type} {o : ω} {g : Int32 → HI → Option ω} (hq : cQ mi pc 191 4 pc' X Y X' Y' = true) (hc : c.1 ≤ X ∧ c.2 ≤ Y) (hr : Nat.ble (catS rest) 8 = true) (h : oH (fX11_actor fu sh I R l0 l1 l2 l3) g = some o) (kk : ∀ v w c', (c'.1 ≤ X' ∧ c'.2 ≤ Y') → g v w = some o → V K J mi pc' L ((.int v) :: rest) sh w R c' F) : V K J mi pc L (.int l3 :: .int l2 :: .int l1 :: .ref l0 :: rest) sh I R c F := by
  obtain ⟨r, h1, h2⟩ := bnd h
  have hT : isT sh l0 9 = true := by unfold fX11_actor at h1; exact (gd h1).1
  have ml : mL 191 = 4 := by decide +kernel
  have mk : mK 191 = 1 := by decide +kernel
  have mc : mC 191 = 9 := by decide +kernel
  obtain ⟨v, w⟩ := r
  refine s_call (as := [.int l3, .int l2, .int l1, .ref l0]) (G := fun o' sh' I' R' => o' = .inl (some (.int v)) ∧ sh' = sh ∧ I' = w ∧ R' = R) hq hc rfl hr (by rw [ml]; rfl) (Or.inl rfl) (fun _ => Or.inl ⟨by rw [mc]; decide, by rw [mc]; exact isT_iff.mp hT⟩) (fun z => absurd (mk.symm.trans z) (by decide)) (by rw [ml]; exact vX11_actor (F := fun o' sh' I' R' => o' = .inl (some (.int v)) ∧ sh' = sh ∧ I' = w ∧ R' = R) ⟨rfl, rfl, rfl, rfl⟩ h1) ?_ ?_ ?_
  · rintro sh' I' R' c' hc' ⟨g1, rfl, rfl, rfl⟩
    cases g1
  · rintro v' sh' I' R' c' hc' ⟨g1, rfl, rfl, rfl⟩
    cases g1
    exact kk _ _ _ hc' h2
  · rintro E' sh' I' R' ⟨g1, rfl, rfl, rfl⟩
    cases g1
set_option maxRecDepth 100000 in
set_option maxHeartbeats 4000000 in
def fX11_shot_b42 (fu : Nat) (sh : HS) (R : HR) (I : HI) (s0 : Int32) : Option (Int32 × HI) :=
  some (s0, I)
set_option maxRecDepth 100000 in
set_option maxHeartbeats 4000000 in
theorem vX11_shot_b42 {K J : Nat → Nat} {fu : Nat} {sh : HS} {R : HR} {F : VF} {o : (Int32 × HI)} (hF : F (.inl (some (.int o.1))) sh o.2 R) {I : HI} {s0 : Int32} {d0 d1 d2 : Option Value} {c : Nat × Nat} (hc0 : c.1 ≤ 0 ∧ c.2 ≤ 0) (h0 : fX11_shot_b42 fu sh R I s0 = some o) : V K J 192 42 [d0, d1, d2] [.int s0] sh I R c F := by
  unfold fX11_shot_b42 at h0
  have e9 := Option.some.inj h0; subst e9
  exact s_ri (X := 0) (Y := 0) (by decide +kernel) hc0 hF
set_option maxRecDepth 100000 in
set_option maxHeartbeats 4000000 in
def fX11_shot_b26 (fu : Nat) (sh : HS) (R : HR) (I : HI) (l0 : Nat) (l1 : Int32) (l2 : Int32) (s0 : Int32) (s1 : Nat) : Option (Int32 × HI) :=
  oH (fX11_isWrong fu sh I R s1 s0) fun v2 w2 =>
  if v2 = 0 then
    ((fX11_get fu sh w2 R l0 l1 l2).bind fun v3 =>
    (fX11_shot_b42 fu sh R) w2 v3)
  else
    ((fX11_shot_b42 fu sh R) w2 0)
set_option maxRecDepth 100000 in
set_option maxHeartbeats 4000000 in
theorem vX11_shot_b26 {K J : Nat → Nat} {fu : Nat} {sh : HS} {R : HR} {F : VF} {o : (Int32 × HI)} (hF : F (.inl (some (.int o.1))) sh o.2 R) {I : HI} {l0 : Nat} {l1 : Int32} {l2 : Int32} {s0 : Int32} {s1 : Nat} {c : Nat × Nat} (hc0 : c.1 ≤ 0 ∧ c.2 ≤ 0) (h0 : fX11_shot_b26 fu sh R I l0 l1 l2 s0 s1 = some o) : V K J 192 26 [some (.ref l0), some (.int l1), some (.int l2)] [.int s0, .ref s1] sh I R c F := by
  unfold fX11_shot_b26 at h0
  refine kX11_isWrong (X := 0) (Y := 0) (X' := 0) (Y' := 0) (pc' := 29) (by decide +kernel) hc0 rfl h0 (fun v2 w2 c hc1 h1 => ?_); clear h0 hc0
  refine s_if (ins := .ifCond .eq 7) (t := 36) (pc' := 32) (by decide +kernel) rfl rfl rfl h1 (fun p2 h2 => ?_) (fun p2 h2 => ?_) <;> clear h1
  · refine s_rl (i := 0) (pc' := 37) (by decide +kernel) rfl ?_
    refine s_il (i := 1) (pc' := 38) (by decide +kernel) rfl ?_
    refine s_il (i := 2) (pc' := 39) (by decide +kernel) rfl ?_
    refine kX11_get (X := 0) (Y := 0) (X' := 0) (Y' := 0) (pc' := 42) (by decide +kernel) hc1 rfl h2 (fun v3 c hc2 h3 => ?_); clear h2 hc1
    exact (vX11_shot_b42 hF) hc2 h3
  · refine s_c (v := 0) (pc' := 33) (by decide +kernel) ?_
    refine s_go (t := 42) (by decide +kernel) ?_
    exact (vX11_shot_b42 hF) hc1 h2
set_option maxRecDepth 100000 in
set_option maxHeartbeats 4000000 in
def fX11_shot_b25 (fu : Nat) (sh : HS) (R : HR) (I : HI) (l0 : Nat) (l1 : Int32) (l2 : Int32) (s0 : Nat) : Option (Int32 × HI) :=
  (fX11_shot_b26 fu sh R) I l0 l1 l2 0 s0
set_option maxRecDepth 100000 in
set_option maxHeartbeats 4000000 in
theorem vX11_shot_b25 {K J : Nat → Nat} {fu : Nat} {sh : HS} {R : HR} {F : VF} {o : (Int32 × HI)} (hF : F (.inl (some (.int o.1))) sh o.2 R) {I : HI} {l0 : Nat} {l1 : Int32} {l2 : Int32} {s0 : Nat} {c : Nat × Nat} (hc0 : c.1 ≤ 0 ∧ c.2 ≤ 0) (h0 : fX11_shot_b25 fu sh R I l0 l1 l2 s0 = some o) : V K J 192 25 [some (.ref l0), some (.int l1), some (.int l2)] [.ref s0] sh I R c F := by
  unfold fX11_shot_b25 at h0
  refine s_c (v := 0) (pc' := 26) (by decide +kernel) ?_
  exact (vX11_shot_b26 hF) hc0 h0
set_option maxRecDepth 100000 in
set_option maxHeartbeats 4000000 in
def fX11_shot (fu : Nat) (sh : HS) (I : HI) (R : HR) (l0 : Nat) (l1 : Int32) (l2 : Int32) : Option (Int32 × HI) :=
  if isT sh l0 9 = true then
    ((fX11_isShot fu sh I R l0 l1).bind fun v1 =>
    if v1 = 0 then
      ((fX11_shot_b25 fu sh R) I l0 l1 l2 l0)
    else
      ((fX11_isIn fu sh I R (l2.toInt64) 0 5).bind fun v4 =>
      if v4 = 0 then
        ((fX11_shot_b25 fu sh R) I l0 l1 l2 l0)
      else
        ((fX11_shot_b26 fu sh R) I l0 l1 l2 1 l0)))
  else none
set_option maxRecDepth 100000 in
set_option maxHeartbeats 4000000 in
theorem vX11_shot {K J : Nat → Nat} {fu : Nat} {sh : HS} {I : HI} {R : HR} {F : VF} {o : (Int32 × HI)} (hF : F (.inl (some (.int o.1))) sh o.2 R) {l0 : Nat} {l1 : Int32} {l2 : Int32} (h0 : fX11_shot fu sh I R l0 l1 l2 = some o) : V K J 192 0 (ent 3 [.ref l0, .int l1, .int l2]) [] sh I R (0, 0) F := by
  unfold fX11_shot at h0
  obtain ⟨-, h1⟩ := gd h0; clear h0
  have hc0 : ((0 : Nat), (0 : Nat)).1 ≤ 0 ∧ ((0 : Nat), (0 : Nat)).2 ≤ 0 := ⟨Nat.le_refl _, Nat.le_refl _⟩
  show V K J 192 0 [some (.ref l0), some (.int l1), some (.int l2)] [] sh I R (0, 0) F
  refine s_rl (i := 0) (pc' := 1) (by decide +kernel) rfl ?_
  refine s_rl (i := 0) (pc' := 2) (by decide +kernel) rfl ?_
  refine s_il (i := 1) (pc' := 3) (by decide +kernel) rfl ?_
  refine kX11_isShot (X := 0) (Y := 0) (X' := 0) (Y' := 0) (pc' := 6) (by decide +kernel) hc0 rfl h1 (fun v1 c hc1 h2 => ?_); clear h1 hc0
  refine s_if (ins := .ifCond .eq 19) (t := 25) (pc' := 9) (by decide +kernel) rfl rfl rfl h2 (fun p3 h3 => ?_) (fun p3 h3 => ?_) <;> clear h2
  · exact (vX11_shot_b25 hF) hc1 h3
  · refine s_il (i := 2) (pc' := 10) (by decide +kernel) rfl ?_
    refine s_a (ins := .i2l) (pc' := 11) (by decide +kernel) rfl ?_
    refine s_cJ (v := 0) (pc' := 12) (by decide +kernel) ?_
    refine s_cJ (v := 5) (pc' := 15) (by decide +kernel) ?_
    refine kX11_isIn (X := 0) (Y := 0) (X' := 0) (Y' := 0) (pc' := 18) (by decide +kernel) hc1 rfl h3 (fun v4 c hc2 h4 => ?_); clear h3 hc1
    refine s_if (ins := .ifCond .eq 7) (t := 25) (pc' := 21) (by decide +kernel) rfl rfl rfl h4 (fun p5 h5 => ?_) (fun p5 h5 => ?_) <;> clear h4
    · exact (vX11_shot_b25 hF) hc2 h5
    · refine s_c (v := 1) (pc' := 22) (by decide +kernel) ?_
      refine s_go (t := 26) (by decide +kernel) ?_
      exact (vX11_shot_b26 hF) hc2 h5
set_option maxRecDepth 100000 in
set_option maxHeartbeats 4000000 in
theorem kX11_shot {K J : Nat → Nat} {fu : Nat} {sh : HS} {I : HI} {R : HR} {F : VF} {mi pc pc' X Y X' Y' : Nat} {L : VL} {rest : List Value} {c : Nat × Nat} {l0 : Nat} {l1 : Int32} {l2 : Int32} {ω : Type} {o : ω} {g : Int32 → HI → Option ω} (hq : cQ mi pc 192 3 pc' X Y X' Y' = true) (hc : c.1 ≤ X ∧ c.2 ≤ Y) (hr : Nat.ble (catS rest) 8 = true) (h : oH (fX11_shot fu sh I R l0 l1 l2) g = some o) (kk : ∀ v w c', (c'.1 ≤ X' ∧ c'.2 ≤ Y') → g v w = some o → V K J mi pc' L ((.int v) :: rest) sh w R c' F) : V K J mi pc L (.int l2 :: .int l1 :: .ref l0 :: rest) sh I R c F := by
  obtain ⟨r, h1, h2⟩ := bnd h
  have hT : isT sh l0 9 = true := by unfold fX11_shot at h1; exact (gd h1).1
  have ml : mL 192 = 3 := by decide +kernel
  have mk : mK 192 = 1 := by decide +kernel
  have mc : mC 192 = 9 := by decide +kernel
  obtain ⟨v, w⟩ := r
  refine s_call (as := [.int l2, .int l1, .ref l0]) (G := fun o' sh' I' R' => o' = .inl (some (.int v)) ∧ sh' = sh ∧ I' = w ∧ R' = R) hq hc rfl hr (by rw [ml]; rfl) (Or.inl rfl) (fun _ => Or.inl ⟨by rw [mc]; decide, by rw [mc]; exact isT_iff.mp hT⟩) (fun z => absurd (mk.symm.trans z) (by decide)) (by rw [ml]; exact vX11_shot (F := fun o' sh' I' R' => o' = .inl (some (.int v)) ∧ sh' = sh ∧ I' = w ∧ R' = R) ⟨rfl, rfl, rfl, rfl⟩ h1) ?_ ?_ ?_
  · rintro sh' I' R' c' hc' ⟨g1, rfl, rfl, rfl⟩
    cases g1
  · rintro v' sh' I' R' c' hc' ⟨g1, rfl, rfl, rfl⟩
    cases g1
    exact kk _ _ _ hc' h2
  · rintro E' sh' I' R' ⟨g1, rfl, rfl, rfl⟩
    cases g1
set_option maxRecDepth 100000 in
set_option maxHeartbeats 4000000 in
def fX11_sizeOfNumber_b10 (fu : Nat) (sh : HS) (I : HI) (R : HR) (s0 : Int32) : Option Int32 :=
  some s0
set_option maxRecDepth 100000 in
set_option maxHeartbeats 4000000 in
theorem vX11_sizeOfNumber_b10 {K J : Nat → Nat} {fu : Nat} {sh : HS} {I : HI} {R : HR} {F : VF} {o : Int32} (hF : F (.inl (some (.int o))) sh I R) {s0 : Int32} {d0 : Option Value} {c : Nat × Nat} (hc0 : c.1 ≤ 0 ∧ c.2 ≤ 0) (h0 : fX11_sizeOfNumber_b10 fu sh I R s0 = some o) : V K J 193 10 [d0] [.int s0] sh I R c F := by
  unfold fX11_sizeOfNumber_b10 at h0
  have e9 := Option.some.inj h0; subst e9
  exact s_ri (X := 0) (Y := 0) (by decide +kernel) hc0 hF
set_option maxRecDepth 100000 in
set_option maxHeartbeats 4000000 in
def fX11_sizeOfNumber (fu : Nat) (sh : HS) (I : HI) (R : HR) (l0 : Int32) : Option Int32 :=
  if 0 ≤ l0 then
    ((fX11_sizeOfNumber_b10 fu sh I R) l0)
  else
    ((fX11_sizeOfNumber_b10 fu sh I R) (-l0))
set_option maxRecDepth 100000 in
set_option maxHeartbeats 4000000 in
theorem vX11_sizeOfNumber {K J : Nat → Nat} {fu : Nat} {sh : HS} {I : HI} {R : HR} {F : VF} {o : Int32} (hF : F (.inl (some (.int o))) sh I R) {l0 : Int32} (h0 : fX11_sizeOfNumber fu sh I R l0 = some o) : V K J 193 0 (ent 1 [.int l0]) [] sh I R (0, 0) F := by
  unfold fX11_sizeOfNumber at h0
  have h1 := h0; clear h0
  have hc0 : ((0 : Nat), (0 : Nat)).1 ≤ 0 ∧ ((0 : Nat), (0 : Nat)).2 ≤ 0 := ⟨Nat.le_refl _, Nat.le_refl _⟩
  show V K J 193 0 [some (.int l0)] [] sh I R (0, 0) F
  refine s_il (i := 0) (pc' := 1) (by decide +kernel) rfl ?_
  refine s_if (ins := .ifCond .ge 8) (t := 9) (pc' := 4) (by decide +kernel) rfl rfl rfl h1 (fun p2 h2 => ?_) (fun p2 h2 => ?_) <;> clear h1
  · refine s_il (i := 0) (pc' := 10) (by decide +kernel) rfl ?_
    exact (vX11_sizeOfNumber_b10 hF) hc0 h2
  · refine s_il (i := 0) (pc' := 5) (by decide +kernel) rfl ?_
    refine s_a (ins := .ineg) (pc' := 6) (by decide +kernel) rfl ?_
    refine s_go (t := 10) (by decide +kernel) ?_
    exact (vX11_sizeOfNumber_b10 hF) hc0 h2
set_option maxRecDepth 100000 in
set_option maxHeartbeats 4000000 in
theorem kX11_sizeOfNumber {K J : Nat → Nat} {fu : Nat} {sh : HS} {I : HI} {R : HR} {F : VF} {mi pc pc' X Y X' Y' : Nat} {L : VL} {rest : List Value} {c : Nat × Nat} {l0 : Int32} {ω : Type} {o : ω} {g : Int32 → Option ω} (hq : cQ mi pc 193 1 pc' X Y X' Y' = true) (hc : c.1 ≤ X ∧ c.2 ≤ Y) (hr : Nat.ble (catS rest) 8 = true) (h : (fX11_sizeOfNumber fu sh I R l0).bind g = some o) (kk : ∀ v c', (c'.1 ≤ X' ∧ c'.2 ≤ Y') → g v = some o → V K J mi pc' L ((.int v) :: rest) sh I R c' F) : V K J mi pc L (.int l0 :: rest) sh I R c F := by
  obtain ⟨r, h1, h2⟩ := bnd h
  have ml : mL 193 = 1 := by decide +kernel
  have mk : mK 193 = 0 := by decide +kernel
  refine s_call (as := [.int l0]) (G := fun o' sh' I' R' => o' = .inl (some (.int r)) ∧ sh' = sh ∧ I' = I ∧ R' = R) hq hc rfl hr (by rw [ml]; rfl) (Or.inl rfl) (fun z => absurd (mk.symm.trans z) (by decide)) (fun z => absurd (mk.symm.trans z) (by decide)) (by rw [ml]; exact vX11_sizeOfNumber (F := fun o' sh' I' R' => o' = .inl (some (.int r)) ∧ sh' = sh ∧ I' = I ∧ R' = R) ⟨rfl, rfl, rfl, rfl⟩ h1) ?_ ?_ ?_
  · rintro sh' I' R' c' hc' ⟨g1, rfl, rfl, rfl⟩
    cases g1
  · rintro v' sh' I' R' c' hc' ⟨g1, rfl, rfl, rfl⟩
    cases g1
    exact kk _ _ hc' h2
  · rintro E' sh' I' R' ⟨g1, rfl, rfl, rfl⟩
    cases g1
set_option maxRecDepth 100000 in
set_option maxHeartbeats 4000000 in
def fX11_directionOf_b68 (fu : Nat) (sh : HS) (I : HI) (R : HR) (s0 : Int32) : Option Int32 :=
  some s0
set_option maxRecDepth 100000 in
set_option maxHeartbeats 4000000 in
theorem vX11_directionOf_b68 {K J : Nat → Nat} {fu : Nat} {sh : HS} {I : HI} {R : HR} {F : VF} {o : Int32} (hF : F (.inl (some (.int o))) sh I R) {s0 : Int32} {d0 d1 d2 : Option Value} {c : Nat × Nat} (hc0 : c.1 ≤ 0 ∧ c.2 ≤ 0) (h0 : fX11_directionOf_b68 fu sh I R s0 = some o) : V K J 194 68 [d0, d1, d2] [.int s0] sh I R c F := by
  unfold fX11_directionOf_b68 at h0
  have e9 := Option.some.inj h0; subst e9
  exact s_ri (X := 0) (Y := 0) (by decide +kernel) hc0 hF
set_option maxRecDepth 100000 in
set_option maxHeartbeats 4000000 in
def fX11_directionOf_b59 (fu : Nat) (sh : HS) (I : HI) (R : HR) (l2 : Int32) : Option Int32 :=
  (oM (4000 - l2) 4000).bind fun v5 =>
  (fX11_directionOf_b68 fu sh I R) v5
set_option maxRecDepth 100000 in
set_option maxHeartbeats 4000000 in
theorem vX11_directionOf_b59 {K J : Nat → Nat} {fu : Nat} {sh : HS} {I : HI} {R : HR} {F : VF} {o : Int32} (hF : F (.inl (some (.int o))) sh I R) {l2 : Int32} {d0 d1 : Option Value} {c : Nat × Nat} (hc0 : c.1 ≤ 0 ∧ c.2 ≤ 0) (h0 : fX11_directionOf_b59 fu sh I R l2 = some o) : V K J 194 59 [d0, d1, some (.int l2)] [] sh I R c F := by
  unfold fX11_directionOf_b59 at h0
  refine s_c (v := 4000) (pc' := 62) (by decide +kernel) ?_
  refine s_il (i := 2) (pc' := 63) (by decide +kernel) rfl ?_
  refine s_a (ins := .isub) (pc' := 64) (by decide +kernel) rfl ?_
  refine s_c (v := 4000) (pc' := 67) (by decide +kernel) ?_
  refine s_rm (pc' := 68) (by decide +kernel) h0 (fun v5 h1 => ?_); clear h0
  exact (vX11_directionOf_b68 hF) hc0 h1
set_option maxRecDepth 100000 in
set_option maxHeartbeats 4000000 in
def fX11_directionOf_b43 (fu : Nat) (sh : HS) (I : HI) (R : HR) (l0 : Int32) (l1 : Int32) (l2 : Int32) : Option Int32 :=
  if 0 ≤ l0 then
    ((fX11_directionOf_b59 fu sh I R) l2)
  else
    (if 0 < l1 then
      ((fX11_directionOf_b59 fu sh I R) l2)
    else
      ((fX11_directionOf_b68 fu sh I R) (2000 + l2)))
set_option maxRecDepth 100000 in
set_option maxHeartbeats 4000000 in
theorem vX11_directionOf_b43 {K J : Nat → Nat} {fu : Nat} {sh : HS} {I : HI} {R : HR} {F : VF} {o : Int32} (hF : F (.inl (some (.int o))) sh I R) {l0 : Int32} {l1 : Int32} {l2 : Int32} {c : Nat × Nat} (hc0 : c.1 ≤ 0 ∧ c.2 ≤ 0) (h0 : fX11_directionOf_b43 fu sh I R l0 l1 l2 = some o) : V K J 194 43 [some (.int l0), some (.int l1), some (.int l2)] [] sh I R c F := by
  unfold fX11_directionOf_b43 at h0
  refine s_il (i := 0) (pc' := 44) (by decide +kernel) rfl ?_
  refine s_if (ins := .ifCond .ge 15) (t := 59) (pc' := 47) (by decide +kernel) rfl rfl rfl h0 (fun p1 h1 => ?_) (fun p1 h1 => ?_) <;> clear h0
  · exact (vX11_directionOf_b59 hF) hc0 h1
  · refine s_il (i := 1) (pc' := 48) (by decide +kernel) rfl ?_
    refine s_if (ins := .ifCond .gt 11) (t := 59) (pc' := 51) (by decide +kernel) rfl rfl rfl h1 (fun p2 h2 => ?_) (fun p2 h2 => ?_) <;> clear h1
    · exact (vX11_directionOf_b59 hF) hc0 h2
    · refine s_c (v := 2000) (pc' := 54) (by decide +kernel) ?_
      refine s_il (i := 2) (pc' := 55) (by decide +kernel) rfl ?_
      refine s_a (ins := .iadd) (pc' := 56) (by decide +kernel) rfl ?_
      refine s_go (t := 68) (by decide +kernel) ?_
      exact (vX11_directionOf_b68 hF) hc0 h2
set_option maxRecDepth 100000 in
set_option maxHeartbeats 4000000 in
def fX11_directionOf_b29 (fu : Nat) (sh : HS) (I : HI) (R : HR) (l0 : Int32) (l1 : Int32) (l2 : Int32) : Option Int32 :=
  if 0 < l0 then
    ((fX11_directionOf_b43 fu sh I R) l0 l1 l2)
  else
    (if l1 ≤ 0 then
      ((fX11_directionOf_b43 fu sh I R) l0 l1 l2)
    else
      (some (2000 - l2)))
set_option maxRecDepth 100000 in
set_option maxHeartbeats 4000000 in
theorem vX11_directionOf_b29 {K J : Nat → Nat} {fu : Nat} {sh : HS} {I : HI} {R : HR} {F : VF} {o : Int32} (hF : F (.inl (some (.int o))) sh I R) {l0 : Int32} {l1 : Int32} {l2 : Int32} {c : Nat × Nat} (hc0 : c.1 ≤ 0 ∧ c.2 ≤ 0) (h0 : fX11_directionOf_b29 fu sh I R l0 l1 l2 = some o) : V K J 194 29 [some (.int l0), some (.int l1), some (.int l2)] [] sh I R c F := by
  unfold fX11_directionOf_b29 at h0
  refine s_il (i := 0) (pc' := 30) (by decide +kernel) rfl ?_
  refine s_if (ins := .ifCond .gt 13) (t := 43) (pc' := 33) (by decide +kernel) rfl rfl rfl h0 (fun p1 h1 => ?_) (fun p1 h1 => ?_) <;> clear h0
  · exact (vX11_directionOf_b43 hF) hc0 h1
  · refine s_il (i := 1) (pc' := 34) (by decide +kernel) rfl ?_
    refine s_if (ins := .ifCond .le 9) (t := 43) (pc' := 37) (by decide +kernel) rfl rfl rfl h1 (fun p2 h2 => ?_) (fun p2 h2 => ?_) <;> clear h1
    · exact (vX11_directionOf_b43 hF) hc0 h2
    · refine s_c (v := 2000) (pc' := 40) (by decide +kernel) ?_
      refine s_il (i := 2) (pc' := 41) (by decide +kernel) rfl ?_
      refine s_a (ins := .isub) (pc' := 42) (by decide +kernel) rfl ?_
      have e9 := Option.some.inj h2; subst e9
      exact s_ri (X := 0) (Y := 0) (by decide +kernel) hc0 hF
set_option maxRecDepth 100000 in
set_option maxHeartbeats 4000000 in
def fX11_directionOf (fu : Nat) (sh : HS) (I : HI) (R : HR) (l0 : Int32) (l1 : Int32) : Option Int32 :=
  (fX11_sizeOfNumber fu sh I R l1).bind fun v1 =>
  (fX11_sizeOfNumber fu sh I R l0).bind fun v2 =>
  (fX11_sizeOfNumber fu sh I R l1).bind fun v3 =>
  (oD (1000 * v1) (v2 + v3)).bind fun v4 =>
  if l0 ≤ 0 then
    ((fX11_directionOf_b29 fu sh I R) l0 l1 v4)
  else
    (if l1 < 0 then
      ((fX11_directionOf_b29 fu sh I R) l0 l1 v4)
    else
      (some v4))
set_option maxRecDepth 100000 in
set_option maxHeartbeats 4000000 in
theorem vX11_directionOf {K J : Nat → Nat} {fu : Nat} {sh : HS} {I : HI} {R : HR} {F : VF} {o : Int32} (hF : F (.inl (some (.int o))) sh I R) {l0 : Int32} {l1 : Int32} (h0 : fX11_directionOf fu sh I R l0 l1 = some o) : V K J 194 0 (ent 3 [.int l0, .int l1]) [] sh I R (0, 0) F := by
  unfold fX11_directionOf at h0
  have h1 := h0; clear h0
  have hc0 : ((0 : Nat), (0 : Nat)).1 ≤ 0 ∧ ((0 : Nat), (0 : Nat)).2 ≤ 0 := ⟨Nat.le_refl _, Nat.le_refl _⟩
  show V K J 194 0 [some (.int l0), some (.int l1), none] [] sh I R (0, 0) F
  refine s_c (v := 1000) (pc' := 3) (by decide +kernel) ?_
  refine s_il (i := 1) (pc' := 4) (by decide +kernel) rfl ?_
  refine kX11_sizeOfNumber (X := 0) (Y := 0) (X' := 0) (Y' := 0) (pc' := 7) (by decide +kernel) hc0 rfl h1 (fun v1 c hc1 h2 => ?_); clear h1 hc0
  refine s_a (ins := .imul) (pc' := 8) (by decide +kernel) rfl ?_
  refine s_il (i := 0) (pc' := 9) (by decide +kernel) rfl ?_
  refine kX11_sizeOfNumber (X := 0) (Y := 0) (X' := 0) (Y' := 0) (pc' := 12) (by decide +kernel) hc1 rfl h2 (fun v2 c hc2 h3 => ?_); clear h2 hc1
  refine s_il (i := 1) (pc' := 13) (by decide +kernel) rfl ?_
  refine kX11_sizeOfNumber (X := 0) (Y := 0) (X' := 0) (Y' := 0) (pc' := 16) (by decide +kernel) hc2 rfl h3 (fun v3 c hc3 h4 => ?_); clear h3 hc2
  refine s_a (ins := .iadd) (pc' := 17) (by decide +kernel) rfl ?_
  refine s_dv (pc' := 18) (by decide +kernel) h4 (fun v4 h5 => ?_); clear h4
  refine s_is (i := 2) (pc' := 19) (L' := [some (.int l0), some (.int l1), some (.int v4)]) (by decide +kernel) rfl rfl ?_
  refine s_il (i := 0) (pc' := 20) (by decide +kernel) rfl ?_
  refine s_if (ins := .ifCond .le 9) (t := 29) (pc' := 23) (by decide +kernel) rfl rfl rfl h5 (fun p6 h6 => ?_) (fun p6 h6 => ?_) <;> clear h5
  · exact (vX11_directionOf_b29 hF) hc3 h6
  · refine s_il (i := 1) (pc' := 24) (by decide +kernel) rfl ?_
    refine s_if (ins := .ifCond .lt 5) (t := 29) (pc' := 27) (by decide +kernel) rfl rfl rfl h6 (fun p7 h7 => ?_) (fun p7 h7 => ?_) <;> clear h6
    · exact (vX11_directionOf_b29 hF) hc3 h7
    · refine s_il (i := 2) (pc' := 28) (by decide +kernel) rfl ?_
      have e9 := Option.some.inj h7; subst e9
      exact s_ri (X := 0) (Y := 0) (by decide +kernel) hc3 hF
set_option maxRecDepth 100000 in
set_option maxHeartbeats 4000000 in
theorem kX11_directionOf {K J : Nat → Nat} {fu : Nat} {sh : HS} {I : HI} {R : HR} {F : VF} {mi pc pc' X Y X' Y' : Nat} {L : VL} {rest : List Value} {c : Nat × Nat} {l0 : Int32} {l1 : Int32} {ω : Type} {o : ω} {g : Int32 → Option ω} (hq : cQ mi pc 194 2 pc' X Y X' Y' = true) (hc : c.1 ≤ X ∧ c.2 ≤ Y) (hr : Nat.ble (catS rest) 8 = true) (h : (fX11_directionOf fu sh I R l0 l1).bind g = some o) (kk : ∀ v c', (c'.1 ≤ X' ∧ c'.2 ≤ Y') → g v = some o → V K J mi pc' L ((.int v) :: rest) sh I R c' F) : V K J mi pc L (.int l1 :: .int l0 :: rest) sh I R c F := by
  obtain ⟨r, h1, h2⟩ := bnd h
  have ml : mL 194 = 3 := by decide +kernel
  have mk : mK 194 = 0 := by decide +kernel
  refine s_call (as := [.int l1, .int l0]) (G := fun o' sh' I' R' => o' = .inl (some (.int r)) ∧ sh' = sh ∧ I' = I ∧ R' = R) hq hc rfl hr (by rw [ml]; rfl) (Or.inl rfl) (fun z => absurd (mk.symm.trans z) (by decide)) (fun z => absurd (mk.symm.trans z) (by decide)) (by rw [ml]; exact vX11_directionOf (F := fun o' sh' I' R' => o' = .inl (some (.int r)) ∧ sh' = sh ∧ I' = I ∧ R' = R) ⟨rfl, rfl, rfl, rfl⟩ h1) ?_ ?_ ?_
  · rintro sh' I' R' c' hc' ⟨g1, rfl, rfl, rfl⟩
    cases g1
  · rintro v' sh' I' R' c' hc' ⟨g1, rfl, rfl, rfl⟩
    cases g1
    exact kk _ _ hc' h2
  · rintro E' sh' I' R' ⟨g1, rfl, rfl, rfl⟩
    cases g1
set_option maxRecDepth 100000 in
set_option maxHeartbeats 4000000 in
def fX11_turnOf (fu : Nat) (sh : HS) (I : HI) (R : HR) (l0 : Int32) (l1 : Int32) : Option Int32 :=
  (fX11_sizeOfNumber fu sh I R (l0 - l1)).bind fun v1 =>
  some (iMin v1 (4000 - v1))
set_option maxRecDepth 100000 in
set_option maxHeartbeats 4000000 in
theorem vX11_turnOf {K J : Nat → Nat} {fu : Nat} {sh : HS} {I : HI} {R : HR} {F : VF} {o : Int32} (hF : F (.inl (some (.int o))) sh I R) {l0 : Int32} {l1 : Int32} (h0 : fX11_turnOf fu sh I R l0 l1 = some o) : V K J 195 0 (ent 3 [.int l0, .int l1]) [] sh I R (0, 0) F := by
  unfold fX11_turnOf at h0
  have h1 := h0; clear h0
  have hc0 : ((0 : Nat), (0 : Nat)).1 ≤ 0 ∧ ((0 : Nat), (0 : Nat)).2 ≤ 0 := ⟨Nat.le_refl _, Nat.le_refl _⟩
  show V K J 195 0 [some (.int l0), some (.int l1), none] [] sh I R (0, 0) F
  refine s_il (i := 0) (pc' := 1) (by decide +kernel) rfl ?_
  refine s_il (i := 1) (pc' := 2) (by decide +kernel) rfl ?_
  refine s_a (ins := .isub) (pc' := 3) (by decide +kernel) rfl ?_
  refine kX11_sizeOfNumber (X := 0) (Y := 0) (X' := 0) (Y' := 0) (pc' := 6) (by decide +kernel) hc0 rfl h1 (fun v1 c hc1 h2 => ?_); clear h1 hc0
  refine s_is (i := 2) (pc' := 7) (L' := [some (.int l0), some (.int l1), some (.int v1)]) (by decide +kernel) rfl rfl ?_
  refine s_il (i := 2) (pc' := 8) (by decide +kernel) rfl ?_
  refine s_c (v := 4000) (pc' := 11) (by decide +kernel) ?_
  refine s_il (i := 2) (pc' := 12) (by decide +kernel) rfl ?_
  refine s_a (ins := .isub) (pc' := 13) (by decide +kernel) rfl ?_
  refine s_min (X := 0) (Y := 0) (pc' := 16) (by decide +kernel) hc1 rfl ?_
  have e9 := Option.some.inj h2; subst e9
  exact s_ri (X := 0) (Y := 0) (by decide +kernel) hc1 hF
set_option maxRecDepth 100000 in
set_option maxHeartbeats 4000000 in
theorem kX11_turnOf {K J : Nat → Nat} {fu : Nat} {sh : HS} {I : HI} {R : HR} {F : VF} {mi pc pc' X Y X' Y' : Nat} {L : VL} {rest : List Value} {c : Nat × Nat} {l0 : Int32} {l1 : Int32} {ω : Type} {o : ω} {g : Int32 → Option ω} (hq : cQ mi pc 195 2 pc' X Y X' Y' = true) (hc : c.1 ≤ X ∧ c.2 ≤ Y) (hr : Nat.ble (catS rest) 8 = true) (h : (fX11_turnOf fu sh I R l0 l1).bind g = some o) (kk : ∀ v c', (c'.1 ≤ X' ∧ c'.2 ≤ Y') → g v = some o → V K J mi pc' L ((.int v) :: rest) sh I R c' F) : V K J mi pc L (.int l1 :: .int l0 :: rest) sh I R c F := by
  obtain ⟨r, h1, h2⟩ := bnd h
  have ml : mL 195 = 3 := by decide +kernel
  have mk : mK 195 = 0 := by decide +kernel
  refine s_call (as := [.int l1, .int l0]) (G := fun o' sh' I' R' => o' = .inl (some (.int r)) ∧ sh' = sh ∧ I' = I ∧ R' = R) hq hc rfl hr (by rw [ml]; rfl) (Or.inl rfl) (fun z => absurd (mk.symm.trans z) (by decide)) (fun z => absurd (mk.symm.trans z) (by decide)) (by rw [ml]; exact vX11_turnOf (F := fun o' sh' I' R' => o' = .inl (some (.int r)) ∧ sh' = sh ∧ I' = I ∧ R' = R) ⟨rfl, rfl, rfl, rfl⟩ h1) ?_ ?_ ?_
  · rintro sh' I' R' c' hc' ⟨g1, rfl, rfl, rfl⟩
    cases g1
  · rintro v' sh' I' R' c' hc' ⟨g1, rfl, rfl, rfl⟩
    cases g1
    exact kk _ _ hc' h2
  · rintro E' sh' I' R' ⟨g1, rfl, rfl, rfl⟩
    cases g1
set_option maxRecDepth 100000 in
set_option maxHeartbeats 4000000 in
def fX11_signOf_b17 (fu : Nat) (sh : HS) (I : HI) (R : HR) (s0 : Int32) : Option Int32 :=
  some s0
set_option maxRecDepth 100000 in
set_option maxHeartbeats 4000000 in
theorem vX11_signOf_b17 {K J : Nat → Nat} {fu : Nat} {sh : HS} {I : HI} {R : HR} {F : VF} {o : Int32} (hF : F (.inl (some (.int o))) sh I R) {s0 : Int32} {d0 : Option Value} {c : Nat × Nat} (hc0 : c.1 ≤ 0 ∧ c.2 ≤ 0) (h0 : fX11_signOf_b17 fu sh I R s0 = some o) : V K J 196 17 [d0] [.int s0] sh I R c F := by
  unfold fX11_signOf_b17 at h0
  have e9 := Option.some.inj h0; subst e9
  exact s_ri (X := 0) (Y := 0) (by decide +kernel) hc0 hF
set_option maxRecDepth 100000 in
set_option maxHeartbeats 4000000 in
def fX11_signOf (fu : Nat) (sh : HS) (I : HI) (R : HR) (l0 : Int32) : Option Int32 :=
  if l0 ≤ 0 then
    (if 0 ≤ l0 then
      ((fX11_signOf_b17 fu sh I R) 0)
    else
      ((fX11_signOf_b17 fu sh I R) (-1)))
  else
    ((fX11_signOf_b17 fu sh I R) 1)
set_option maxRecDepth 100000 in
set_option maxHeartbeats 4000000 in
theorem vX11_signOf {K J : Nat → Nat} {fu : Nat} {sh : HS} {I : HI} {R : HR} {F : VF} {o : Int32} (hF : F (.inl (some (.int o))) sh I R) {l0 : Int32} (h0 : fX11_signOf fu sh I R l0 = some o) : V K J 196 0 (ent 1 [.int l0]) [] sh I R (0, 0) F := by
  unfold fX11_signOf at h0
  have h1 := h0; clear h0
  have hc0 : ((0 : Nat), (0 : Nat)).1 ≤ 0 ∧ ((0 : Nat), (0 : Nat)).2 ≤ 0 := ⟨Nat.le_refl _, Nat.le_refl _⟩
  show V K J 196 0 [some (.int l0)] [] sh I R (0, 0) F
  refine s_il (i := 0) (pc' := 1) (by decide +kernel) rfl ?_
  refine s_if (ins := .ifCond .le 7) (t := 8) (pc' := 4) (by decide +kernel) rfl rfl rfl h1 (fun p2 h2 => ?_) (fun p2 h2 => ?_) <;> clear h1
  · refine s_il (i := 0) (pc' := 9) (by decide +kernel) rfl ?_
    refine s_if (ins := .ifCond .ge 7) (t := 16) (pc' := 12) (by decide +kernel) rfl rfl rfl h2 (fun p3 h3 => ?_) (fun p3 h3 => ?_) <;> clear h2
    · refine s_c (v := 0) (pc' := 17) (by decide +kernel) ?_
      exact (vX11_signOf_b17 hF) hc0 h3
    · refine s_c (v := (-1)) (pc' := 13) (by decide +kernel) ?_
      refine s_go (t := 17) (by decide +kernel) ?_
      exact (vX11_signOf_b17 hF) hc0 h3
  · refine s_c (v := 1) (pc' := 5) (by decide +kernel) ?_
    refine s_go (t := 17) (by decide +kernel) ?_
    exact (vX11_signOf_b17 hF) hc0 h2
set_option maxRecDepth 100000 in
set_option maxHeartbeats 4000000 in
theorem kX11_signOf {K J : Nat → Nat} {fu : Nat} {sh : HS} {I : HI} {R : HR} {F : VF} {mi pc pc' X Y X' Y' : Nat} {L : VL} {rest : List Value} {c : Nat × Nat} {l0 : Int32} {ω : Type} {o : ω} {g : Int32 → Option ω} (hq : cQ mi pc 196 1 pc' X Y X' Y' = true) (hc : c.1 ≤ X ∧ c.2 ≤ Y) (hr : Nat.ble (catS rest) 8 = true) (h : (fX11_signOf fu sh I R l0).bind g = some o) (kk : ∀ v c', (c'.1 ≤ X' ∧ c'.2 ≤ Y') → g v = some o → V K J mi pc' L ((.int v) :: rest) sh I R c' F) : V K J mi pc L (.int l0 :: rest) sh I R c F := by
  obtain ⟨r, h1, h2⟩ := bnd h
  have ml : mL 196 = 1 := by decide +kernel
  have mk : mK 196 = 0 := by decide +kernel
  refine s_call (as := [.int l0]) (G := fun o' sh' I' R' => o' = .inl (some (.int r)) ∧ sh' = sh ∧ I' = I ∧ R' = R) hq hc rfl hr (by rw [ml]; rfl) (Or.inl rfl) (fun z => absurd (mk.symm.trans z) (by decide)) (fun z => absurd (mk.symm.trans z) (by decide)) (by rw [ml]; exact vX11_signOf (F := fun o' sh' I' R' => o' = .inl (some (.int r)) ∧ sh' = sh ∧ I' = I ∧ R' = R) ⟨rfl, rfl, rfl, rfl⟩ h1) ?_ ?_ ?_
  · rintro sh' I' R' c' hc' ⟨g1, rfl, rfl, rfl⟩
    cases g1
  · rintro v' sh' I' R' c' hc' ⟨g1, rfl, rfl, rfl⟩
    cases g1
    exact kk _ _ hc' h2
  · rintro E' sh' I' R' ⟨g1, rfl, rfl, rfl⟩
    cases g1
set_option maxRecDepth 100000 in
set_option maxHeartbeats 4000000 in
def fX11_cross (fu : Nat) (sh : HS) (I : HI) (R : HR) (l0 : Int32) (l1 : Int32) (l2 : Int32) (l3 : Int32) : Option Int32 :=
  some ((l0 * l3) - (l1 * l2))
set_option maxRecDepth 100000 in
set_option maxHeartbeats 4000000 in
theorem vX11_cross {K J : Nat → Nat} {fu : Nat} {sh : HS} {I : HI} {R : HR} {F : VF} {o : Int32} (hF : F (.inl (some (.int o))) sh I R) {l0 : Int32} {l1 : Int32} {l2 : Int32} {l3 : Int32} (h0 : fX11_cross fu sh I R l0 l1 l2 l3 = some o) : V K J 197 0 (ent 4 [.int l0, .int l1, .int l2, .int l3]) [] sh I R (0, 0) F := by
  unfold fX11_cross at h0
  have h1 := h0; clear h0
  have hc0 : ((0 : Nat), (0 : Nat)).1 ≤ 0 ∧ ((0 : Nat), (0 : Nat)).2 ≤ 0 := ⟨Nat.le_refl _, Nat.le_refl _⟩
  show V K J 197 0 [some (.int l0), some (.int l1), some (.int l2), some (.int l3)] [] sh I R (0, 0) F
  refine s_il (i := 0) (pc' := 1) (by decide +kernel) rfl ?_
  refine s_il (i := 3) (pc' := 2) (by decide +kernel) rfl ?_
  refine s_a (ins := .imul) (pc' := 3) (by decide +kernel) rfl ?_
  refine s_il (i := 1) (pc' := 4) (by decide +kernel) rfl ?_
  refine s_il (i := 2) (pc' := 5) (by decide +kernel) rfl ?_
  refine s_a (ins := .imul) (pc' := 6) (by decide +kernel) rfl ?_
  refine s_a (ins := .isub) (pc' := 7) (by decide +kernel) rfl ?_
  have e9 := Option.some.inj h1; subst e9
  exact s_ri (X := 0) (Y := 0) (by decide +kernel) hc0 hF
set_option maxRecDepth 100000 in
set_option maxHeartbeats 4000000 in
theorem kX11_cross {K J : Nat → Nat} {fu : Nat} {sh : HS} {I : HI} {R : HR} {F : VF} {mi pc pc' X Y X' Y' : Nat} {L : VL} {rest : List Value} {c : Nat × Nat} {l0 : Int32} {l1 : Int32} {l2 : Int32} {l3 : Int32} {ω : Type} {o : ω} {g : Int32 → Option ω} (hq : cQ mi pc 197 4 pc' X Y X' Y' = true) (hc : c.1 ≤ X ∧ c.2 ≤ Y) (hr : Nat.ble (catS rest) 8 = true) (h : (fX11_cross fu sh I R l0 l1 l2 l3).bind g = some o) (kk : ∀ v c', (c'.1 ≤ X' ∧ c'.2 ≤ Y') → g v = some o → V K J mi pc' L ((.int v) :: rest) sh I R c' F) : V K J mi pc L (.int l3 :: .int l2 :: .int l1 :: .int l0 :: rest) sh I R c F := by
  obtain ⟨r, h1, h2⟩ := bnd h
  have ml : mL 197 = 4 := by decide +kernel
  have mk : mK 197 = 0 := by decide +kernel
  refine s_call (as := [.int l3, .int l2, .int l1, .int l0]) (G := fun o' sh' I' R' => o' = .inl (some (.int r)) ∧ sh' = sh ∧ I' = I ∧ R' = R) hq hc rfl hr (by rw [ml]; rfl) (Or.inl rfl) (fun z => absurd (mk.symm.trans z) (by decide)) (fun z => absurd (mk.symm.trans z) (by decide)) (by rw [ml]; exact vX11_cross (F := fun o' sh' I' R' => o' = .inl (some (.int r)) ∧ sh' = sh ∧ I' = I ∧ R' = R) ⟨rfl, rfl, rfl, rfl⟩ h1) ?_ ?_ ?_
  · rintro sh' I' R' c' hc' ⟨g1, rfl, rfl, rfl⟩
    cases g1
  · rintro v' sh' I' R' c' hc' ⟨g1, rfl, rfl, rfl⟩
    cases g1
    exact kk _ _ hc' h2
  · rintro E' sh' I' R' ⟨g1, rfl, rfl, rfl⟩
    cases g1
set_option maxRecDepth 100000 in
set_option maxHeartbeats 4000000 in
def fX11_subjectX (fu : Nat) (sh : HS) (I : HI) (R : HR) (l0 : Nat) (l1 : Int32) : Option Int32 :=
  if isT sh l0 9 = true then
    ((fX11_sceneOf fu sh I R l0 l1).bind fun v1 =>
    (fX11_get fu sh I R l0 l1 3).bind fun v2 =>
    (fX11_actorX fu sh I R l0 v1 v2).bind fun v3 =>
    some v3)
  else none
set_option maxRecDepth 100000 in
set_option maxHeartbeats 4000000 in
theorem vX11_subjectX {K J : Nat → Nat} {fu : Nat} {sh : HS} {I : HI} {R : HR} {F : VF} {o : Int32} (hF : F (.inl (some (.int o))) sh I R) {l0 : Nat} {l1 : Int32} (h0 : fX11_subjectX fu sh I R l0 l1 = some o) : V K J 198 0 (ent 2 [.ref l0, .int l1]) [] sh I R (0, 0) F := by
  unfold fX11_subjectX at h0
  obtain ⟨-, h1⟩ := gd h0; clear h0
  have hc0 : ((0 : Nat), (0 : Nat)).1 ≤ 0 ∧ ((0 : Nat), (0 : Nat)).2 ≤ 0 := ⟨Nat.le_refl _, Nat.le_refl _⟩
  show V K J 198 0 [some (.ref l0), some (.int l1)] [] sh I R (0, 0) F
  refine s_rl (i := 0) (pc' := 1) (by decide +kernel) rfl ?_
  refine s_rl (i := 0) (pc' := 2) (by decide +kernel) rfl ?_
  refine s_il (i := 1) (pc' := 3) (by decide +kernel) rfl ?_
  refine kX11_sceneOf (X := 0) (Y := 0) (X' := 0) (Y' := 0) (pc' := 6) (by decide +kernel) hc0 rfl h1 (fun v1 c hc1 h2 => ?_); clear h1 hc0
  refine s_rl (i := 0) (pc' := 7) (by decide +kernel) rfl ?_
  refine s_il (i := 1) (pc' := 8) (by decide +kernel) rfl ?_
  refine s_c (v := 3) (pc' := 9) (by decide +kernel) ?_
  refine kX11_get (X := 0) (Y := 0) (X' := 0) (Y' := 0) (pc' := 12) (by decide +kernel) hc1 rfl h2 (fun v2 c hc2 h3 => ?_); clear h2 hc1
  refine kX11_actorX (X := 0) (Y := 0) (X' := 0) (Y' := 0) (pc' := 15) (by decide +kernel) hc2 rfl h3 (fun v3 c hc3 h4 => ?_); clear h3 hc2
  have e9 := Option.some.inj h4; subst e9
  exact s_ri (X := 0) (Y := 0) (by decide +kernel) hc3 hF
set_option maxRecDepth 100000 in
set_option maxHeartbeats 4000000 in
theorem kX11_subjectX {K J : Nat → Nat} {fu : Nat} {sh : HS} {I : HI} {R : HR} {F : VF} {mi pc pc' X Y X' Y' : Nat} {L : VL} {rest : List Value} {c : Nat × Nat} {l0 : Nat} {l1 : Int32} {ω : Type} {o : ω} {g : Int32 → Option ω} (hq : cQ mi pc 198 2 pc' X Y X' Y' = true) (hc : c.1 ≤ X ∧ c.2 ≤ Y) (hr : Nat.ble (catS rest) 8 = true) (h : (fX11_subjectX fu sh I R l0 l1).bind g = some o) (kk : ∀ v c', (c'.1 ≤ X' ∧ c'.2 ≤ Y') → g v = some o → V K J mi pc' L ((.int v) :: rest) sh I R c' F) : V K J mi pc L (.int l1 :: .ref l0 :: rest) sh I R c F := by
  obtain ⟨r, h1, h2⟩ := bnd h
  have hT : isT sh l0 9 = true := by unfold fX11_subjectX at h1; exact (gd h1).1
  have ml : mL 198 = 2 := by decide +kernel
  have mk : mK 198 = 1 := by decide +kernel
  have mc : mC 198 = 9 := by decide +kernel
  refine s_call (as := [.int l1, .ref l0]) (G := fun o' sh' I' R' => o' = .inl (some (.int r)) ∧ sh' = sh ∧ I' = I ∧ R' = R) hq hc rfl hr (by rw [ml]; rfl) (Or.inl rfl) (fun _ => Or.inl ⟨by rw [mc]; decide, by rw [mc]; exact isT_iff.mp hT⟩) (fun z => absurd (mk.symm.trans z) (by decide)) (by rw [ml]; exact vX11_subjectX (F := fun o' sh' I' R' => o' = .inl (some (.int r)) ∧ sh' = sh ∧ I' = I ∧ R' = R) ⟨rfl, rfl, rfl, rfl⟩ h1) ?_ ?_ ?_
  · rintro sh' I' R' c' hc' ⟨g1, rfl, rfl, rfl⟩
    cases g1
  · rintro v' sh' I' R' c' hc' ⟨g1, rfl, rfl, rfl⟩
    cases g1
    exact kk _ _ hc' h2
  · rintro E' sh' I' R' ⟨g1, rfl, rfl, rfl⟩
    cases g1
set_option maxRecDepth 100000 in
set_option maxHeartbeats 4000000 in
def fX11_subjectY (fu : Nat) (sh : HS) (I : HI) (R : HR) (l0 : Nat) (l1 : Int32) : Option Int32 :=
  if isT sh l0 9 = true then
    ((fX11_sceneOf fu sh I R l0 l1).bind fun v1 =>
    (fX11_get fu sh I R l0 l1 3).bind fun v2 =>
    (fX11_actorY fu sh I R l0 v1 v2).bind fun v3 =>
    some v3)
  else none
set_option maxRecDepth 100000 in
set_option maxHeartbeats 4000000 in
theorem vX11_subjectY {K J : Nat → Nat} {fu : Nat} {sh : HS} {I : HI} {R : HR} {F : VF} {o : Int32} (hF : F (.inl (some (.int o))) sh I R) {l0 : Nat} {l1 : Int32} (h0 : fX11_subjectY fu sh I R l0 l1 = some o) : V K J 199 0 (ent 2 [.ref l0, .int l1]) [] sh I R (0, 0) F := by
  unfold fX11_subjectY at h0
  obtain ⟨-, h1⟩ := gd h0; clear h0
  have hc0 : ((0 : Nat), (0 : Nat)).1 ≤ 0 ∧ ((0 : Nat), (0 : Nat)).2 ≤ 0 := ⟨Nat.le_refl _, Nat.le_refl _⟩
  show V K J 199 0 [some (.ref l0), some (.int l1)] [] sh I R (0, 0) F
  refine s_rl (i := 0) (pc' := 1) (by decide +kernel) rfl ?_
  refine s_rl (i := 0) (pc' := 2) (by decide +kernel) rfl ?_
  refine s_il (i := 1) (pc' := 3) (by decide +kernel) rfl ?_
  refine kX11_sceneOf (X := 0) (Y := 0) (X' := 0) (Y' := 0) (pc' := 6) (by decide +kernel) hc0 rfl h1 (fun v1 c hc1 h2 => ?_); clear h1 hc0
  refine s_rl (i := 0) (pc' := 7) (by decide +kernel) rfl ?_
  refine s_il (i := 1) (pc' := 8) (by decide +kernel) rfl ?_
  refine s_c (v := 3) (pc' := 9) (by decide +kernel) ?_
  refine kX11_get (X := 0) (Y := 0) (X' := 0) (Y' := 0) (pc' := 12) (by decide +kernel) hc1 rfl h2 (fun v2 c hc2 h3 => ?_); clear h2 hc1
  refine kX11_actorY (X := 0) (Y := 0) (X' := 0) (Y' := 0) (pc' := 15) (by decide +kernel) hc2 rfl h3 (fun v3 c hc3 h4 => ?_); clear h3 hc2
  have e9 := Option.some.inj h4; subst e9
  exact s_ri (X := 0) (Y := 0) (by decide +kernel) hc3 hF
set_option maxRecDepth 100000 in
set_option maxHeartbeats 4000000 in
theorem kX11_subjectY {K J : Nat → Nat} {fu : Nat} {sh : HS} {I : HI} {R : HR} {F : VF} {mi pc pc' X Y X' Y' : Nat} {L : VL} {rest : List Value} {c : Nat × Nat} {l0 : Nat} {l1 : Int32} {ω : Type} {o : ω} {g : Int32 → Option ω} (hq : cQ mi pc 199 2 pc' X Y X' Y' = true) (hc : c.1 ≤ X ∧ c.2 ≤ Y) (hr : Nat.ble (catS rest) 8 = true) (h : (fX11_subjectY fu sh I R l0 l1).bind g = some o) (kk : ∀ v c', (c'.1 ≤ X' ∧ c'.2 ≤ Y') → g v = some o → V K J mi pc' L ((.int v) :: rest) sh I R c' F) : V K J mi pc L (.int l1 :: .ref l0 :: rest) sh I R c F := by
  obtain ⟨r, h1, h2⟩ := bnd h
  have hT : isT sh l0 9 = true := by unfold fX11_subjectY at h1; exact (gd h1).1
  have ml : mL 199 = 2 := by decide +kernel
  have mk : mK 199 = 1 := by decide +kernel
  have mc : mC 199 = 9 := by decide +kernel
  refine s_call (as := [.int l1, .ref l0]) (G := fun o' sh' I' R' => o' = .inl (some (.int r)) ∧ sh' = sh ∧ I' = I ∧ R' = R) hq hc rfl hr (by rw [ml]; rfl) (Or.inl rfl) (fun _ => Or.inl ⟨by rw [mc]; decide, by rw [mc]; exact isT_iff.mp hT⟩) (fun z => absurd (mk.symm.trans z) (by decide)) (by rw [ml]; exact vX11_subjectY (F := fun o' sh' I' R' => o' = .inl (some (.int r)) ∧ sh' = sh ∧ I' = I ∧ R' = R) ⟨rfl, rfl, rfl, rfl⟩ h1) ?_ ?_ ?_
  · rintro sh' I' R' c' hc' ⟨g1, rfl, rfl, rfl⟩
    cases g1
  · rintro v' sh' I' R' c' hc' ⟨g1, rfl, rfl, rfl⟩
    cases g1
    exact kk _ _ hc' h2
  · rintro E' sh' I' R' ⟨g1, rfl, rfl, rfl⟩
    cases g1
set_option maxRecDepth 100000 in
set_option maxHeartbeats 4000000 in
def fX11_partnerX (fu : Nat) (sh : HS) (I : HI) (R : HR) (l0 : Nat) (l1 : Int32) : Option Int32 :=
  if isT sh l0 9 = true then
    ((fX11_sceneOf fu sh I R l0 l1).bind fun v1 =>
    (fX11_get fu sh I R l0 l1 4).bind fun v2 =>
    (fX11_actorX fu sh I R l0 v1 v2).bind fun v3 =>
    some v3)
  else none
set_option maxRecDepth 100000 in
set_option maxHeartbeats 4000000 in
theorem vX11_partnerX {K J : Nat → Nat} {fu : Nat} {sh : HS} {I : HI} {R : HR} {F : VF} {o : Int32} (hF : F (.inl (some (.int o))) sh I R) {l0 : Nat} {l1 : Int32} (h0 : fX11_partnerX fu sh I R l0 l1 = some o) : V K J 200 0 (ent 2 [.ref l0, .int l1]) [] sh I R (0, 0) F := by
  unfold fX11_partnerX at h0
  obtain ⟨-, h1⟩ := gd h0; clear h0
  have hc0 : ((0 : Nat), (0 : Nat)).1 ≤ 0 ∧ ((0 : Nat), (0 : Nat)).2 ≤ 0 := ⟨Nat.le_refl _, Nat.le_refl _⟩
  show V K J 200 0 [some (.ref l0), some (.int l1)] [] sh I R (0, 0) F
  refine s_rl (i := 0) (pc' := 1) (by decide +kernel) rfl ?_
  refine s_rl (i := 0) (pc' := 2) (by decide +kernel) rfl ?_
  refine s_il (i := 1) (pc' := 3) (by decide +kernel) rfl ?_
  refine kX11_sceneOf (X := 0) (Y := 0) (X' := 0) (Y' := 0) (pc' := 6) (by decide +kernel) hc0 rfl h1 (fun v1 c hc1 h2 => ?_); clear h1 hc0
  refine s_rl (i := 0) (pc' := 7) (by decide +kernel) rfl ?_
  refine s_il (i := 1) (pc' := 8) (by decide +kernel) rfl ?_
  refine s_c (v := 4) (pc' := 9) (by decide +kernel) ?_
  refine kX11_get (X := 0) (Y := 0) (X' := 0) (Y' := 0) (pc' := 12) (by decide +kernel) hc1 rfl h2 (fun v2 c hc2 h3 => ?_); clear h2 hc1
  refine kX11_actorX (X := 0) (Y := 0) (X' := 0) (Y' := 0) (pc' := 15) (by decide +kernel) hc2 rfl h3 (fun v3 c hc3 h4 => ?_); clear h3 hc2
  have e9 := Option.some.inj h4; subst e9
  exact s_ri (X := 0) (Y := 0) (by decide +kernel) hc3 hF
set_option maxRecDepth 100000 in
set_option maxHeartbeats 4000000 in
theorem kX11_partnerX {K J : Nat → Nat} {fu : Nat} {sh : HS} {I : HI} {R : HR} {F : VF} {mi pc pc' X Y X' Y' : Nat} {L : VL} {rest : List Value} {c : Nat × Nat} {l0 : Nat} {l1 : Int32} {ω : Type} {o : ω} {g : Int32 → Option ω} (hq : cQ mi pc 200 2 pc' X Y X' Y' = true) (hc : c.1 ≤ X ∧ c.2 ≤ Y) (hr : Nat.ble (catS rest) 8 = true) (h : (fX11_partnerX fu sh I R l0 l1).bind g = some o) (kk : ∀ v c', (c'.1 ≤ X' ∧ c'.2 ≤ Y') → g v = some o → V K J mi pc' L ((.int v) :: rest) sh I R c' F) : V K J mi pc L (.int l1 :: .ref l0 :: rest) sh I R c F := by
  obtain ⟨r, h1, h2⟩ := bnd h
  have hT : isT sh l0 9 = true := by unfold fX11_partnerX at h1; exact (gd h1).1
  have ml : mL 200 = 2 := by decide +kernel
  have mk : mK 200 = 1 := by decide +kernel
  have mc : mC 200 = 9 := by decide +kernel
  refine s_call (as := [.int l1, .ref l0]) (G := fun o' sh' I' R' => o' = .inl (some (.int r)) ∧ sh' = sh ∧ I' = I ∧ R' = R) hq hc rfl hr (by rw [ml]; rfl) (Or.inl rfl) (fun _ => Or.inl ⟨by rw [mc]; decide, by rw [mc]; exact isT_iff.mp hT⟩) (fun z => absurd (mk.symm.trans z) (by decide)) (by rw [ml]; exact vX11_partnerX (F := fun o' sh' I' R' => o' = .inl (some (.int r)) ∧ sh' = sh ∧ I' = I ∧ R' = R) ⟨rfl, rfl, rfl, rfl⟩ h1) ?_ ?_ ?_
  · rintro sh' I' R' c' hc' ⟨g1, rfl, rfl, rfl⟩
    cases g1
  · rintro v' sh' I' R' c' hc' ⟨g1, rfl, rfl, rfl⟩
    cases g1
    exact kk _ _ hc' h2
  · rintro E' sh' I' R' ⟨g1, rfl, rfl, rfl⟩
    cases g1
set_option maxRecDepth 100000 in
set_option maxHeartbeats 4000000 in
def fX11_partnerY (fu : Nat) (sh : HS) (I : HI) (R : HR) (l0 : Nat) (l1 : Int32) : Option Int32 :=
  if isT sh l0 9 = true then
    ((fX11_sceneOf fu sh I R l0 l1).bind fun v1 =>
    (fX11_get fu sh I R l0 l1 4).bind fun v2 =>
    (fX11_actorY fu sh I R l0 v1 v2).bind fun v3 =>
    some v3)
  else none
set_option maxRecDepth 100000 in
set_option maxHeartbeats 4000000 in
theorem vX11_partnerY {K J : Nat → Nat} {fu : Nat} {sh : HS} {I : HI} {R : HR} {F : VF} {o : Int32} (hF : F (.inl (some (.int o))) sh I R) {l0 : Nat} {l1 : Int32} (h0 : fX11_partnerY fu sh I R l0 l1 = some o) : V K J 201 0 (ent 2 [.ref l0, .int l1]) [] sh I R (0, 0) F := by
  unfold fX11_partnerY at h0
  obtain ⟨-, h1⟩ := gd h0; clear h0
  have hc0 : ((0 : Nat), (0 : Nat)).1 ≤ 0 ∧ ((0 : Nat), (0 : Nat)).2 ≤ 0 := ⟨Nat.le_refl _, Nat.le_refl _⟩
  show V K J 201 0 [some (.ref l0), some (.int l1)] [] sh I R (0, 0) F
  refine s_rl (i := 0) (pc' := 1) (by decide +kernel) rfl ?_
  refine s_rl (i := 0) (pc' := 2) (by decide +kernel) rfl ?_
  refine s_il (i := 1) (pc' := 3) (by decide +kernel) rfl ?_
  refine kX11_sceneOf (X := 0) (Y := 0) (X' := 0) (Y' := 0) (pc' := 6) (by decide +kernel) hc0 rfl h1 (fun v1 c hc1 h2 => ?_); clear h1 hc0
  refine s_rl (i := 0) (pc' := 7) (by decide +kernel) rfl ?_
  refine s_il (i := 1) (pc' := 8) (by decide +kernel) rfl ?_
  refine s_c (v := 4) (pc' := 9) (by decide +kernel) ?_
  refine kX11_get (X := 0) (Y := 0) (X' := 0) (Y' := 0) (pc' := 12) (by decide +kernel) hc1 rfl h2 (fun v2 c hc2 h3 => ?_); clear h2 hc1
  refine kX11_actorY (X := 0) (Y := 0) (X' := 0) (Y' := 0) (pc' := 15) (by decide +kernel) hc2 rfl h3 (fun v3 c hc3 h4 => ?_); clear h3 hc2
  have e9 := Option.some.inj h4; subst e9
  exact s_ri (X := 0) (Y := 0) (by decide +kernel) hc3 hF
set_option maxRecDepth 100000 in
set_option maxHeartbeats 4000000 in
theorem kX11_partnerY {K J : Nat → Nat} {fu : Nat} {sh : HS} {I : HI} {R : HR} {F : VF} {mi pc pc' X Y X' Y' : Nat} {L : VL} {rest : List Value} {c : Nat × Nat} {l0 : Nat} {l1 : Int32} {ω : Type} {o : ω} {g : Int32 → Option ω} (hq : cQ mi pc 201 2 pc' X Y X' Y' = true) (hc : c.1 ≤ X ∧ c.2 ≤ Y) (hr : Nat.ble (catS rest) 8 = true) (h : (fX11_partnerY fu sh I R l0 l1).bind g = some o) (kk : ∀ v c', (c'.1 ≤ X' ∧ c'.2 ≤ Y') → g v = some o → V K J mi pc' L ((.int v) :: rest) sh I R c' F) : V K J mi pc L (.int l1 :: .ref l0 :: rest) sh I R c F := by
  obtain ⟨r, h1, h2⟩ := bnd h
  have hT : isT sh l0 9 = true := by unfold fX11_partnerY at h1; exact (gd h1).1
  have ml : mL 201 = 2 := by decide +kernel
  have mk : mK 201 = 1 := by decide +kernel
  have mc : mC 201 = 9 := by decide +kernel
  refine s_call (as := [.int l1, .ref l0]) (G := fun o' sh' I' R' => o' = .inl (some (.int r)) ∧ sh' = sh ∧ I' = I ∧ R' = R) hq hc rfl hr (by rw [ml]; rfl) (Or.inl rfl) (fun _ => Or.inl ⟨by rw [mc]; decide, by rw [mc]; exact isT_iff.mp hT⟩) (fun z => absurd (mk.symm.trans z) (by decide)) (by rw [ml]; exact vX11_partnerY (F := fun o' sh' I' R' => o' = .inl (some (.int r)) ∧ sh' = sh ∧ I' = I ∧ R' = R) ⟨rfl, rfl, rfl, rfl⟩ h1) ?_ ?_ ?_
  · rintro sh' I' R' c' hc' ⟨g1, rfl, rfl, rfl⟩
    cases g1
  · rintro v' sh' I' R' c' hc' ⟨g1, rfl, rfl, rfl⟩
    cases g1
    exact kk _ _ hc' h2
  · rintro E' sh' I' R' ⟨g1, rfl, rfl, rfl⟩
    cases g1
set_option maxRecDepth 100000 in
set_option maxHeartbeats 4000000 in
def fX11_viewOf (fu : Nat) (sh : HS) (I : HI) (R : HR) (l0 : Nat) (l1 : Int32) : Option Int32 :=
  if isT sh l0 9 = true then
    ((fX11_subjectX fu sh I R l0 l1).bind fun v1 =>
    (fX11_get fu sh I R l0 l1 1).bind fun v2 =>
    (fX11_subjectY fu sh I R l0 l1).bind fun v3 =>
    (fX11_get fu sh I R l0 l1 2).bind fun v4 =>
    (fX11_directionOf fu sh I R (v1 - v2) (v3 - v4)).bind fun v5 =>
    some v5)
  else none
set_option maxRecDepth 100000 in
set_option maxHeartbeats 4000000 in
theorem vX11_viewOf {K J : Nat → Nat} {fu : Nat} {sh : HS} {I : HI} {R : HR} {F : VF} {o : Int32} (hF : F (.inl (some (.int o))) sh I R) {l0 : Nat} {l1 : Int32} (h0 : fX11_viewOf fu sh I R l0 l1 = some o) : V K J 202 0 (ent 2 [.ref l0, .int l1]) [] sh I R (0, 0) F := by
  unfold fX11_viewOf at h0
  obtain ⟨-, h1⟩ := gd h0; clear h0
  have hc0 : ((0 : Nat), (0 : Nat)).1 ≤ 0 ∧ ((0 : Nat), (0 : Nat)).2 ≤ 0 := ⟨Nat.le_refl _, Nat.le_refl _⟩
  show V K J 202 0 [some (.ref l0), some (.int l1)] [] sh I R (0, 0) F
  refine s_rl (i := 0) (pc' := 1) (by decide +kernel) rfl ?_
  refine s_il (i := 1) (pc' := 2) (by decide +kernel) rfl ?_
  refine kX11_subjectX (X := 0) (Y := 0) (X' := 0) (Y' := 0) (pc' := 5) (by decide +kernel) hc0 rfl h1 (fun v1 c hc1 h2 => ?_); clear h1 hc0
  refine s_rl (i := 0) (pc' := 6) (by decide +kernel) rfl ?_
  refine s_il (i := 1) (pc' := 7) (by decide +kernel) rfl ?_
  refine s_c (v := 1) (pc' := 8) (by decide +kernel) ?_
  refine kX11_get (X := 0) (Y := 0) (X' := 0) (Y' := 0) (pc' := 11) (by decide +kernel) hc1 rfl h2 (fun v2 c hc2 h3 => ?_); clear h2 hc1
  refine s_a (ins := .isub) (pc' := 12) (by decide +kernel) rfl ?_
  refine s_rl (i := 0) (pc' := 13) (by decide +kernel) rfl ?_
  refine s_il (i := 1) (pc' := 14) (by decide +kernel) rfl ?_
  refine kX11_subjectY (X := 0) (Y := 0) (X' := 0) (Y' := 0) (pc' := 17) (by decide +kernel) hc2 rfl h3 (fun v3 c hc3 h4 => ?_); clear h3 hc2
  refine s_rl (i := 0) (pc' := 18) (by decide +kernel) rfl ?_
  refine s_il (i := 1) (pc' := 19) (by decide +kernel) rfl ?_
  refine s_c (v := 2) (pc' := 20) (by decide +kernel) ?_
  refine kX11_get (X := 0) (Y := 0) (X' := 0) (Y' := 0) (pc' := 23) (by decide +kernel) hc3 rfl h4 (fun v4 c hc4 h5 => ?_); clear h4 hc3
  refine s_a (ins := .isub) (pc' := 24) (by decide +kernel) rfl ?_
  refine kX11_directionOf (X := 0) (Y := 0) (X' := 0) (Y' := 0) (pc' := 27) (by decide +kernel) hc4 rfl h5 (fun v5 c hc5 h6 => ?_); clear h5 hc4
  have e9 := Option.some.inj h6; subst e9
  exact s_ri (X := 0) (Y := 0) (by decide +kernel) hc5 hF
set_option maxRecDepth 100000 in
set_option maxHeartbeats 4000000 in
theorem kX11_viewOf {K J : Nat → Nat} {fu : Nat} {sh : HS} {I : HI} {R : HR} {F : VF} {mi pc pc' X Y X' Y' : Nat} {L : VL} {rest : List Value} {c : Nat × Nat} {l0 : Nat} {l1 : Int32} {ω : Type} {o : ω} {g : Int32 → Option ω} (hq : cQ mi pc 202 2 pc' X Y X' Y' = true) (hc : c.1 ≤ X ∧ c.2 ≤ Y) (hr : Nat.ble (catS rest) 8 = true) (h : (fX11_viewOf fu sh I R l0 l1).bind g = some o) (kk : ∀ v c', (c'.1 ≤ X' ∧ c'.2 ≤ Y') → g v = some o → V K J mi pc' L ((.int v) :: rest) sh I R c' F) : V K J mi pc L (.int l1 :: .ref l0 :: rest) sh I R c F := by
  obtain ⟨r, h1, h2⟩ := bnd h
  have hT : isT sh l0 9 = true := by unfold fX11_viewOf at h1; exact (gd h1).1
  have ml : mL 202 = 2 := by decide +kernel
  have mk : mK 202 = 1 := by decide +kernel
  have mc : mC 202 = 9 := by decide +kernel
  refine s_call (as := [.int l1, .ref l0]) (G := fun o' sh' I' R' => o' = .inl (some (.int r)) ∧ sh' = sh ∧ I' = I ∧ R' = R) hq hc rfl hr (by rw [ml]; rfl) (Or.inl rfl) (fun _ => Or.inl ⟨by rw [mc]; decide, by rw [mc]; exact isT_iff.mp hT⟩) (fun z => absurd (mk.symm.trans z) (by decide)) (by rw [ml]; exact vX11_viewOf (F := fun o' sh' I' R' => o' = .inl (some (.int r)) ∧ sh' = sh ∧ I' = I ∧ R' = R) ⟨rfl, rfl, rfl, rfl⟩ h1) ?_ ?_ ?_
  · rintro sh' I' R' c' hc' ⟨g1, rfl, rfl, rfl⟩
    cases g1
  · rintro v' sh' I' R' c' hc' ⟨g1, rfl, rfl, rfl⟩
    cases g1
    exact kk _ _ hc' h2
  · rintro E' sh' I' R' ⟨g1, rfl, rfl, rfl⟩
    cases g1
set_option maxRecDepth 100000 in
set_option maxHeartbeats 4000000 in
def fX11_hasPartner_b15 (fu : Nat) (sh : HS) (I : HI) (R : HR) (s0 : Int32) : Option Int32 :=
  (oZ s0).bind fun z2 =>
  some z2
set_option maxRecDepth 100000 in
set_option maxHeartbeats 4000000 in
theorem vX11_hasPartner_b15 {K J : Nat → Nat} {fu : Nat} {sh : HS} {I : HI} {R : HR} {F : VF} {o : Int32} (hF : F (.inl (some (.int o))) sh I R) {s0 : Int32} {d0 d1 : Option Value} {c : Nat × Nat} (hc0 : c.1 ≤ 0 ∧ c.2 ≤ 0) (h0 : fX11_hasPartner_b15 fu sh I R s0 = some o) : V K J 203 15 [d0, d1] [.int s0] sh I R c F := by
  unfold fX11_hasPartner_b15 at h0
  obtain ⟨hz, h1⟩ := oZb h0
  have e9 := Option.some.inj h1; subst e9
  exact s_rz (X := 0) (Y := 0) (by decide +kernel) hz hc0 hF
set_option maxRecDepth 100000 in
set_option maxHeartbeats 4000000 in
def fX11_hasPartner (fu : Nat) (sh : HS) (I : HI) (R : HR) (l0 : Nat) (l1 : Int32) : Option Int32 :=
  if isT sh l0 9 = true then
    ((fX11_get fu sh I R l0 l1 4).bind fun v1 =>
    if v1 = (-1) then
      ((fX11_hasPartner_b15 fu sh I R) 0)
    else
      ((fX11_hasPartner_b15 fu sh I R) 1))
  else none
set_option maxRecDepth 100000 in
set_option maxHeartbeats 4000000 in
theorem vX11_hasPartner {K J : Nat → Nat} {fu : Nat} {sh : HS} {I : HI} {R : HR} {F : VF} {o : Int32} (hF : F (.inl (some (.int o))) sh I R) {l0 : Nat} {l1 : Int32} (h0 : fX11_hasPartner fu sh I R l0 l1 = some o) : V K J 203 0 (ent 2 [.ref l0, .int l1]) [] sh I R (0, 0) F := by
  unfold fX11_hasPartner at h0
  obtain ⟨-, h1⟩ := gd h0; clear h0
  have hc0 : ((0 : Nat), (0 : Nat)).1 ≤ 0 ∧ ((0 : Nat), (0 : Nat)).2 ≤ 0 := ⟨Nat.le_refl _, Nat.le_refl _⟩
  show V K J 203 0 [some (.ref l0), some (.int l1)] [] sh I R (0, 0) F
  refine s_rl (i := 0) (pc' := 1) (by decide +kernel) rfl ?_
  refine s_il (i := 1) (pc' := 2) (by decide +kernel) rfl ?_
  refine s_c (v := 4) (pc' := 3) (by decide +kernel) ?_
  refine kX11_get (X := 0) (Y := 0) (X' := 0) (Y' := 0) (pc' := 6) (by decide +kernel) hc0 rfl h1 (fun v1 c hc1 h2 => ?_); clear h1 hc0
  refine s_c (v := (-1)) (pc' := 7) (by decide +kernel) ?_
  refine s_if (ins := .if_icmp .eq 7) (t := 14) (pc' := 10) (by decide +kernel) rfl rfl rfl h2 (fun p3 h3 => ?_) (fun p3 h3 => ?_) <;> clear h2
  · refine s_c (v := 0) (pc' := 15) (by decide +kernel) ?_
    exact (vX11_hasPartner_b15 hF) hc1 h3
  · refine s_c (v := 1) (pc' := 11) (by decide +kernel) ?_
    refine s_go (t := 15) (by decide +kernel) ?_
    exact (vX11_hasPartner_b15 hF) hc1 h3
set_option maxRecDepth 100000 in
set_option maxHeartbeats 4000000 in
theorem kX11_hasPartner {K J : Nat → Nat} {fu : Nat} {sh : HS} {I : HI} {R : HR} {F : VF} {mi pc pc' X Y X' Y' : Nat} {L : VL} {rest : List Value} {c : Nat × Nat} {l0 : Nat} {l1 : Int32} {ω : Type} {o : ω} {g : Int32 → Option ω} (hq : cQ mi pc 203 2 pc' X Y X' Y' = true) (hc : c.1 ≤ X ∧ c.2 ≤ Y) (hr : Nat.ble (catS rest) 8 = true) (h : (fX11_hasPartner fu sh I R l0 l1).bind g = some o) (kk : ∀ v c', (c'.1 ≤ X' ∧ c'.2 ≤ Y') → g v = some o → V K J mi pc' L ((.int v) :: rest) sh I R c' F) : V K J mi pc L (.int l1 :: .ref l0 :: rest) sh I R c F := by
  obtain ⟨r, h1, h2⟩ := bnd h
  have hT : isT sh l0 9 = true := by unfold fX11_hasPartner at h1; exact (gd h1).1
  have ml : mL 203 = 2 := by decide +kernel
  have mk : mK 203 = 1 := by decide +kernel
  have mc : mC 203 = 9 := by decide +kernel
  refine s_call (as := [.int l1, .ref l0]) (G := fun o' sh' I' R' => o' = .inl (some (.int r)) ∧ sh' = sh ∧ I' = I ∧ R' = R) hq hc rfl hr (by rw [ml]; rfl) (Or.inl rfl) (fun _ => Or.inl ⟨by rw [mc]; decide, by rw [mc]; exact isT_iff.mp hT⟩) (fun z => absurd (mk.symm.trans z) (by decide)) (by rw [ml]; exact vX11_hasPartner (F := fun o' sh' I' R' => o' = .inl (some (.int r)) ∧ sh' = sh ∧ I' = I ∧ R' = R) ⟨rfl, rfl, rfl, rfl⟩ h1) ?_ ?_ ?_
  · rintro sh' I' R' c' hc' ⟨g1, rfl, rfl, rfl⟩
    cases g1
  · rintro v' sh' I' R' c' hc' ⟨g1, rfl, rfl, rfl⟩
    cases g1
    exact kk _ _ hc' h2
  · rintro E' sh' I' R' ⟨g1, rfl, rfl, rfl⟩
    cases g1
set_option maxRecDepth 100000 in
set_option maxHeartbeats 4000000 in
def fX11_sideOf_b104 (fu : Nat) (sh : HS) (I : HI) (R : HR) (l0 : Nat) (l1 : Int32) (l3 : Int32) (l4 : Int32) (l5 : Int32) (s0 : Int32) : Option Int32 :=
  (fX11_get fu sh I R l0 l1 1).bind fun v8 =>
  (fX11_get fu sh I R l0 l1 2).bind fun v9 =>
  (fX11_cross fu sh I R (l5 - l3) (s0 - l4) (v8 - l3) (v9 - l4)).bind fun v10 =>
  (fX11_signOf fu sh I R v10).bind fun v11 =>
  some v11
set_option maxRecDepth 100000 in
set_option maxHeartbeats 4000000 in
theorem vX11_sideOf_b104 {K J : Nat → Nat} {fu : Nat} {sh : HS} {I : HI} {R : HR} {F : VF} {o : Int32} (hF : F (.inl (some (.int o))) sh I R) {l0 : Nat} {l1 : Int32} {l3 : Int32} {l4 : Int32} {l5 : Int32} {s0 : Int32} {d2 d6 : Option Value} {c : Nat × Nat} (hc0 : c.1 ≤ 0 ∧ c.2 ≤ 0) (h0 : fX11_sideOf_b104 fu sh I R l0 l1 l3 l4 l5 s0 = some o) : V K J 204 104 [some (.ref l0), some (.int l1), d2, some (.int l3), some (.int l4), some (.int l5), d6] [.int s0] sh I R c F := by
  unfold fX11_sideOf_b104 at h0
  refine s_is (i := 6) (pc' := 106) (L' := [some (.ref l0), some (.int l1), d2, some (.int l3), some (.int l4), some (.int l5), some (.int s0)]) (by decide +kernel) rfl rfl ?_
  refine s_il (i := 5) (pc' := 108) (by decide +kernel) rfl ?_
  refine s_il (i := 3) (pc' := 109) (by decide +kernel) rfl ?_
  refine s_a (ins := .isub) (pc' := 110) (by decide +kernel) rfl ?_
  refine s_il (i := 6) (pc' := 112) (by decide +kernel) rfl ?_
  refine s_il (i := 4) (pc' := 114) (by decide +kernel) rfl ?_
  refine s_a (ins := .isub) (pc' := 115) (by decide +kernel) rfl ?_
  refine s_rl (i := 0) (pc' := 116) (by decide +kernel) rfl ?_
  refine s_il (i := 1) (pc' := 117) (by decide +kernel) rfl ?_
  refine s_c (v := 1) (pc' := 118) (by decide +kernel) ?_
  refine kX11_get (X := 0) (Y := 0) (X' := 0) (Y' := 0) (pc' := 121) (by decide +kernel) hc0 rfl h0 (fun v8 c hc1 h1 => ?_); clear h0 hc0
  refine s_il (i := 3) (pc' := 122) (by decide +kernel) rfl ?_
  refine s_a (ins := .isub) (pc' := 123) (by decide +kernel) rfl ?_
  refine s_rl (i := 0) (pc' := 124) (by decide +kernel) rfl ?_
  refine s_il (i := 1) (pc' := 125) (by decide +kernel) rfl ?_
  refine s_c (v := 2) (pc' := 126) (by decide +kernel) ?_
  refine kX11_get (X := 0) (Y := 0) (X' := 0) (Y' := 0) (pc' := 129) (by decide +kernel) hc1 rfl h1 (fun v9 c hc2 h2 => ?_); clear h1 hc1
  refine s_il (i := 4) (pc' := 131) (by decide +kernel) rfl ?_
  refine s_a (ins := .isub) (pc' := 132) (by decide +kernel) rfl ?_
  refine kX11_cross (X := 0) (Y := 0) (X' := 0) (Y' := 0) (pc' := 135) (by decide +kernel) hc2 rfl h2 (fun v10 c hc3 h3 => ?_); clear h2 hc2
  refine kX11_signOf (X := 0) (Y := 0) (X' := 0) (Y' := 0) (pc' := 138) (by decide +kernel) hc3 rfl h3 (fun v11 c hc4 h4 => ?_); clear h3 hc3
  have e9 := Option.some.inj h4; subst e9
  exact s_ri (X := 0) (Y := 0) (by decide +kernel) hc4 hF
set_option maxRecDepth 100000 in
set_option maxHeartbeats 4000000 in
def fX11_sideOf_b85 (fu : Nat) (sh : HS) (I : HI) (R : HR) (l0 : Nat) (l1 : Int32) (l2 : Int32) (l3 : Int32) (l4 : Int32) (s0 : Int32) : Option Int32 :=
  if l2 = 0 then
    ((fX11_subjectY fu sh I R l0 l1).bind fun v7 =>
    (fX11_sideOf_b104 fu sh I R) l0 l1 l3 l4 s0 v7)
  else
    ((fX11_partnerY fu sh I R l0 l1).bind fun v12 =>
    (fX11_sideOf_b104 fu sh I R) l0 l1 l3 l4 s0 v12)
set_option maxRecDepth 100000 in
set_option maxHeartbeats 4000000 in
theorem vX11_sideOf_b85 {K J : Nat → Nat} {fu : Nat} {sh : HS} {I : HI} {R : HR} {F : VF} {o : Int32} (hF : F (.inl (some (.int o))) sh I R) {l0 : Nat} {l1 : Int32} {l2 : Int32} {l3 : Int32} {l4 : Int32} {s0 : Int32} {d5 d6 : Option Value} {c : Nat × Nat} (hc0 : c.1 ≤ 0 ∧ c.2 ≤ 0) (h0 : fX11_sideOf_b85 fu sh I R l0 l1 l2 l3 l4 s0 = some o) : V K J 204 85 [some (.ref l0), some (.int l1), some (.int l2), some (.int l3), some (.int l4), d5, d6] [.int s0] sh I R c F := by
  unfold fX11_sideOf_b85 at h0
  refine s_is (i := 5) (pc' := 87) (L' := [some (.ref l0), some (.int l1), some (.int l2), some (.int l3), some (.int l4), some (.int s0), d6]) (by decide +kernel) rfl rfl ?_
  refine s_il (i := 2) (pc' := 88) (by decide +kernel) rfl ?_
  refine s_if (ins := .ifCond .eq 11) (t := 99) (pc' := 91) (by decide +kernel) rfl rfl rfl h0 (fun p1 h1 => ?_) (fun p1 h1 => ?_) <;> clear h0
  · refine s_rl (i := 0) (pc' := 100) (by decide +kernel) rfl ?_
    refine s_il (i := 1) (pc' := 101) (by decide +kernel) rfl ?_
    refine kX11_subjectY (X := 0) (Y := 0) (X' := 0) (Y' := 0) (pc' := 104) (by decide +kernel) hc0 rfl h1 (fun v7 c hc1 h2 => ?_); clear h1 hc0
    exact (vX11_sideOf_b104 hF) hc1 h2
  · refine s_rl (i := 0) (pc' := 92) (by decide +kernel) rfl ?_
    refine s_il (i := 1) (pc' := 93) (by decide +kernel) rfl ?_
    refine kX11_partnerY (X := 0) (Y := 0) (X' := 0) (Y' := 0) (pc' := 96) (by decide +kernel) hc0 rfl h1 (fun v12 c hc1 h2 => ?_); clear h1 hc0
    refine s_go (t := 104) (by decide +kernel) ?_
    exact (vX11_sideOf_b104 hF) hc1 h2
set_option maxRecDepth 100000 in
set_option maxHeartbeats 4000000 in
def fX11_sideOf_b66 (fu : Nat) (sh : HS) (I : HI) (R : HR) (l0 : Nat) (l1 : Int32) (l2 : Int32) (l3 : Int32) (s0 : Int32) : Option Int32 :=
  if l2 = 0 then
    ((fX11_subjectX fu sh I R l0 l1).bind fun v6 =>
    (fX11_sideOf_b85 fu sh I R) l0 l1 l2 l3 s0 v6)
  else
    ((fX11_partnerX fu sh I R l0 l1).bind fun v13 =>
    (fX11_sideOf_b85 fu sh I R) l0 l1 l2 l3 s0 v13)
set_option maxRecDepth 100000 in
set_option maxHeartbeats 4000000 in
theorem vX11_sideOf_b66 {K J : Nat → Nat} {fu : Nat} {sh : HS} {I : HI} {R : HR} {F : VF} {o : Int32} (hF : F (.inl (some (.int o))) sh I R) {l0 : Nat} {l1 : Int32} {l2 : Int32} {l3 : Int32} {s0 : Int32} {d4 d5 d6 : Option Value} {c : Nat × Nat} (hc0 : c.1 ≤ 0 ∧ c.2 ≤ 0) (h0 : fX11_sideOf_b66 fu sh I R l0 l1 l2 l3 s0 = some o) : V K J 204 66 [some (.ref l0), some (.int l1), some (.int l2), some (.int l3), d4, d5, d6] [.int s0] sh I R c F := by
  unfold fX11_sideOf_b66 at h0
  refine s_is (i := 4) (pc' := 68) (L' := [some (.ref l0), some (.int l1), some (.int l2), some (.int l3), some (.int s0), d5, d6]) (by decide +kernel) rfl rfl ?_
  refine s_il (i := 2) (pc' := 69) (by decide +kernel) rfl ?_
  refine s_if (ins := .ifCond .eq 11) (t := 80) (pc' := 72) (by decide +kernel) rfl rfl rfl h0 (fun p1 h1 => ?_) (fun p1 h1 => ?_) <;> clear h0
  · refine s_rl (i := 0) (pc' := 81) (by decide +kernel) rfl ?_
    refine s_il (i := 1) (pc' := 82) (by decide +kernel) rfl ?_
    refine kX11_subjectX (X := 0) (Y := 0) (X' := 0) (Y' := 0) (pc' := 85) (by decide +kernel) hc0 rfl h1 (fun v6 c hc1 h2 => ?_); clear h1 hc0
    exact (vX11_sideOf_b85 hF) hc1 h2
  · refine s_rl (i := 0) (pc' := 73) (by decide +kernel) rfl ?_
    refine s_il (i := 1) (pc' := 74) (by decide +kernel) rfl ?_
    refine kX11_partnerX (X := 0) (Y := 0) (X' := 0) (Y' := 0) (pc' := 77) (by decide +kernel) hc0 rfl h1 (fun v13 c hc1 h2 => ?_); clear h1 hc0
    refine s_go (t := 85) (by decide +kernel) ?_
    exact (vX11_sideOf_b85 hF) hc1 h2
set_option maxRecDepth 100000 in
set_option maxHeartbeats 4000000 in
def fX11_sideOf_b48 (fu : Nat) (sh : HS) (I : HI) (R : HR) (l0 : Nat) (l1 : Int32) (l2 : Int32) (s0 : Int32) : Option Int32 :=
  if l2 = 0 then
    ((fX11_partnerY fu sh I R l0 l1).bind fun v5 =>
    (fX11_sideOf_b66 fu sh I R) l0 l1 l2 s0 v5)
  else
    ((fX11_subjectY fu sh I R l0 l1).bind fun v14 =>
    (fX11_sideOf_b66 fu sh I R) l0 l1 l2 s0 v14)
set_option maxRecDepth 100000 in
set_option maxHeartbeats 4000000 in
theorem vX11_sideOf_b48 {K J : Nat → Nat} {fu : Nat} {sh : HS} {I : HI} {R : HR} {F : VF} {o : Int32} (hF : F (.inl (some (.int o))) sh I R) {l0 : Nat} {l1 : Int32} {l2 : Int32} {s0 : Int32} {d3 d4 d5 d6 : Option Value} {c : Nat × Nat} (hc0 : c.1 ≤ 0 ∧ c.2 ≤ 0) (h0 : fX11_sideOf_b48 fu sh I R l0 l1 l2 s0 = some o) : V K J 204 48 [some (.ref l0), some (.int l1), some (.int l2), d3, d4, d5, d6] [.int s0] sh I R c F := by
  unfold fX11_sideOf_b48 at h0
  refine s_is (i := 3) (pc' := 49) (L' := [some (.ref l0), some (.int l1), some (.int l2), some (.int s0), d4, d5, d6]) (by decide +kernel) rfl rfl ?_
  refine s_il (i := 2) (pc' := 50) (by decide +kernel) rfl ?_
  refine s_if (ins := .ifCond .eq 11) (t := 61) (pc' := 53) (by decide +kernel) rfl rfl rfl h0 (fun p1 h1 => ?_) (fun p1 h1 => ?_) <;> clear h0
  · refine s_rl (i := 0) (pc' := 62) (by decide +kernel) rfl ?_
    refine s_il (i := 1) (pc' := 63) (by decide +kernel) rfl ?_
    refine kX11_partnerY (X := 0) (Y := 0) (X' := 0) (Y' := 0) (pc' := 66) (by decide +kernel) hc0 rfl h1 (fun v5 c hc1 h2 => ?_); clear h1 hc0
    exact (vX11_sideOf_b66 hF) hc1 h2
  · refine s_rl (i := 0) (pc' := 54) (by decide +kernel) rfl ?_
    refine s_il (i := 1) (pc' := 55) (by decide +kernel) rfl ?_
    refine kX11_subjectY (X := 0) (Y := 0) (X' := 0) (Y' := 0) (pc' := 58) (by decide +kernel) hc0 rfl h1 (fun v14 c hc1 h2 => ?_); clear h1 hc0
    refine s_go (t := 66) (by decide +kernel) ?_
    exact (vX11_sideOf_b66 hF) hc1 h2
set_option maxRecDepth 100000 in
set_option maxHeartbeats 4000000 in
def fX11_sideOf_b30 (fu : Nat) (sh : HS) (I : HI) (R : HR) (l0 : Nat) (l1 : Int32) (s0 : Int32) : Option Int32 :=
  if s0 = 0 then
    ((fX11_partnerX fu sh I R l0 l1).bind fun v4 =>
    (fX11_sideOf_b48 fu sh I R) l0 l1 s0 v4)
  else
    ((fX11_subjectX fu sh I R l0 l1).bind fun v15 =>
    (fX11_sideOf_b48 fu sh I R) l0 l1 s0 v15)
set_option maxRecDepth 100000 in
set_option maxHeartbeats 4000000 in
theorem vX11_sideOf_b30 {K J : Nat → Nat} {fu : Nat} {sh : HS} {I : HI} {R : HR} {F : VF} {o : Int32} (hF : F (.inl (some (.int o))) sh I R) {l0 : Nat} {l1 : Int32} {s0 : Int32} {d2 d3 d4 d5 d6 : Option Value} {c : Nat × Nat} (hc0 : c.1 ≤ 0 ∧ c.2 ≤ 0) (h0 : fX11_sideOf_b30 fu sh I R l0 l1 s0 = some o) : V K J 204 30 [some (.ref l0), some (.int l1), d2, d3, d4, d5, d6] [.int s0] sh I R c F := by
  unfold fX11_sideOf_b30 at h0
  refine s_is (i := 2) (pc' := 31) (L' := [some (.ref l0), some (.int l1), some (.int s0), d3, d4, d5, d6]) (by decide +kernel) rfl rfl ?_
  refine s_il (i := 2) (pc' := 32) (by decide +kernel) rfl ?_
  refine s_if (ins := .ifCond .eq 11) (t := 43) (pc' := 35) (by decide +kernel) rfl rfl rfl h0 (fun p1 h1 => ?_) (fun p1 h1 => ?_) <;> clear h0
  · refine s_rl (i := 0) (pc' := 44) (by decide +kernel) rfl ?_
    refine s_il (i := 1) (pc' := 45) (by decide +kernel) rfl ?_
    refine kX11_partnerX (X := 0) (Y := 0) (X' := 0) (Y' := 0) (pc' := 48) (by decide +kernel) hc0 rfl h1 (fun v4 c hc1 h2 => ?_); clear h1 hc0
    exact (vX11_sideOf_b48 hF) hc1 h2
  · refine s_rl (i := 0) (pc' := 36) (by decide +kernel) rfl ?_
    refine s_il (i := 1) (pc' := 37) (by decide +kernel) rfl ?_
    refine kX11_subjectX (X := 0) (Y := 0) (X' := 0) (Y' := 0) (pc' := 40) (by decide +kernel) hc0 rfl h1 (fun v15 c hc1 h2 => ?_); clear h1 hc0
    refine s_go (t := 48) (by decide +kernel) ?_
    exact (vX11_sideOf_b48 hF) hc1 h2
set_option maxRecDepth 100000 in
set_option maxHeartbeats 4000000 in
def fX11_sideOf (fu : Nat) (sh : HS) (I : HI) (R : HR) (l0 : Nat) (l1 : Int32) : Option Int32 :=
  if isT sh l0 9 = true then
    ((fX11_hasPartner fu sh I R l0 l1).bind fun v1 =>
    if v1 = 0 then
      (some 0)
    else
      ((fX11_get fu sh I R l0 l1 3).bind fun v2 =>
      (fX11_get fu sh I R l0 l1 4).bind fun v3 =>
      if v3 ≤ v2 then
        ((fX11_sideOf_b30 fu sh I R) l0 l1 0)
      else
        ((fX11_sideOf_b30 fu sh I R) l0 l1 1)))
  else none
set_option maxRecDepth 100000 in
set_option maxHeartbeats 4000000 in
theorem vX11_sideOf {K J : Nat → Nat} {fu : Nat} {sh : HS} {I : HI} {R : HR} {F : VF} {o : Int32} (hF : F (.inl (some (.int o))) sh I R) {l0 : Nat} {l1 : Int32} (h0 : fX11_sideOf fu sh I R l0 l1 = some o) : V K J 204 0 (ent 7 [.ref l0, .int l1]) [] sh I R (0, 0) F := by
  unfold fX11_sideOf at h0
  obtain ⟨-, h1⟩ := gd h0; clear h0
  have hc0 : ((0 : Nat), (0 : Nat)).1 ≤ 0 ∧ ((0 : Nat), (0 : Nat)).2 ≤ 0 := ⟨Nat.le_refl _, Nat.le_refl _⟩
  show V K J 204 0 [some (.ref l0), some (.int l1), none, none, none, none, none] [] sh I R (0, 0) F
  refine s_rl (i := 0) (pc' := 1) (by decide +kernel) rfl ?_
  refine s_il (i := 1) (pc' := 2) (by decide +kernel) rfl ?_
  refine kX11_hasPartner (X := 0) (Y := 0) (X' := 0) (Y' := 0) (pc' := 5) (by decide +kernel) hc0 rfl h1 (fun v1 c hc1 h2 => ?_); clear h1 hc0
  refine s_ifn (ins := .ifCond .ne 5) (t := 10) (pc' := 8) (by decide +kernel) rfl rfl rfl h2 (fun p3 h3 => ?_) (fun p3 h3 => ?_) <;> clear h2
  · refine s_rl (i := 0) (pc' := 11) (by decide +kernel) rfl ?_
    refine s_il (i := 1) (pc' := 12) (by decide +kernel) rfl ?_
    refine s_c (v := 3) (pc' := 13) (by decide +kernel) ?_
    refine kX11_get (X := 0) (Y := 0) (X' := 0) (Y' := 0) (pc' := 16) (by decide +kernel) hc1 rfl h3 (fun v2 c hc2 h4 => ?_); clear h3 hc1
    refine s_rl (i := 0) (pc' := 17) (by decide +kernel) rfl ?_
    refine s_il (i := 1) (pc' := 18) (by decide +kernel) rfl ?_
    refine s_c (v := 4) (pc' := 19) (by decide +kernel) ?_
    refine kX11_get (X := 0) (Y := 0) (X' := 0) (Y' := 0) (pc' := 22) (by decide +kernel) hc2 rfl h4 (fun v3 c hc3 h5 => ?_); clear h4 hc2
    refine s_if (ins := .if_icmp .ge 7) (t := 29) (pc' := 25) (by decide +kernel) rfl rfl rfl h5 (fun p6 h6 => ?_) (fun p6 h6 => ?_) <;> clear h5
    · refine s_c (v := 0) (pc' := 30) (by decide +kernel) ?_
      exact (vX11_sideOf_b30 hF) hc3 h6
    · refine s_c (v := 1) (pc' := 26) (by decide +kernel) ?_
      refine s_go (t := 30) (by decide +kernel) ?_
      exact (vX11_sideOf_b30 hF) hc3 h6
  · refine s_c (v := 0) (pc' := 9) (by decide +kernel) ?_
    have e9 := Option.some.inj h3; subst e9
    exact s_ri (X := 0) (Y := 0) (by decide +kernel) hc1 hF
set_option maxRecDepth 100000 in
set_option maxHeartbeats 4000000 in
theorem kX11_sideOf {K J : Nat → Nat} {fu : Nat} {sh : HS} {I : HI} {R : HR} {F : VF} {mi pc pc' X Y X' Y' : Nat} {L : VL} {rest : List Value} {c : Nat × Nat} {l0 : Nat} {l1 : Int32} {ω : Type} {o : ω} {g : Int32 → Option ω} (hq : cQ mi pc 204 2 pc' X Y X' Y' = true) (hc : c.1 ≤ X ∧ c.2 ≤ Y) (hr : Nat.ble (catS rest) 8 = true) (h : (fX11_sideOf fu sh I R l0 l1).bind g = some o) (kk : ∀ v c', (c'.1 ≤ X' ∧ c'.2 ≤ Y') → g v = some o → V K J mi pc' L ((.int v) :: rest) sh I R c' F) : V K J mi pc L (.int l1 :: .ref l0 :: rest) sh I R c F := by
  obtain ⟨r, h1, h2⟩ := bnd h
  have hT : isT sh l0 9 = true := by unfold fX11_sideOf at h1; exact (gd h1).1
  have ml : mL 204 = 7 := by decide +kernel
  have mk : mK 204 = 1 := by decide +kernel
  have mc : mC 204 = 9 := by decide +kernel
  refine s_call (as := [.int l1, .ref l0]) (G := fun o' sh' I' R' => o' = .inl (some (.int r)) ∧ sh' = sh ∧ I' = I ∧ R' = R) hq hc rfl hr (by rw [ml]; rfl) (Or.inl rfl) (fun _ => Or.inl ⟨by rw [mc]; decide, by rw [mc]; exact isT_iff.mp hT⟩) (fun z => absurd (mk.symm.trans z) (by decide)) (by rw [ml]; exact vX11_sideOf (F := fun o' sh' I' R' => o' = .inl (some (.int r)) ∧ sh' = sh ∧ I' = I ∧ R' = R) ⟨rfl, rfl, rfl, rfl⟩ h1) ?_ ?_ ?_
  · rintro sh' I' R' c' hc' ⟨g1, rfl, rfl, rfl⟩
    cases g1
  · rintro v' sh' I' R' c' hc' ⟨g1, rfl, rfl, rfl⟩
    cases g1
    exact kk _ _ hc' h2
  · rintro E' sh' I' R' ⟨g1, rfl, rfl, rfl⟩
    cases g1
set_option maxRecDepth 100000 in
set_option maxHeartbeats 4000000 in
def fX11_lookOf (fu : Nat) (sh : HS) (I : HI) (R : HR) (l0 : Nat) (l1 : Int32) : Option Int32 :=
  if isT sh l0 9 = true then
    ((fX11_hasPartner fu sh I R l0 l1).bind fun v1 =>
    if v1 = 0 then
      (some 0)
    else
      ((fX11_subjectX fu sh I R l0 l1).bind fun v2 =>
      (fX11_subjectY fu sh I R l0 l1).bind fun v3 =>
      (fX11_get fu sh I R l0 l1 1).bind fun v4 =>
      (fX11_get fu sh I R l0 l1 2).bind fun v5 =>
      (fX11_partnerX fu sh I R l0 l1).bind fun v6 =>
      (fX11_partnerY fu sh I R l0 l1).bind fun v7 =>
      (fX11_cross fu sh I R (v2 - v4) (v3 - v5) (v6 - v2) (v7 - v3)).bind fun v8 =>
      (fX11_signOf fu sh I R v8).bind fun v9 =>
      some v9))
  else none
set_option maxRecDepth 100000 in
set_option maxHeartbeats 4000000 in
theorem vX11_lookOf {K J : Nat → Nat} {fu : Nat} {sh : HS} {I : HI} {R : HR} {F : VF} {o : Int32} (hF : F (.inl (some (.int o))) sh I R) {l0 : Nat} {l1 : Int32} (h0 : fX11_lookOf fu sh I R l0 l1 = some o) : V K J 205 0 (ent 4 [.ref l0, .int l1]) [] sh I R (0, 0) F := by
  unfold fX11_lookOf at h0
  obtain ⟨-, h1⟩ := gd h0; clear h0
  have hc0 : ((0 : Nat), (0 : Nat)).1 ≤ 0 ∧ ((0 : Nat), (0 : Nat)).2 ≤ 0 := ⟨Nat.le_refl _, Nat.le_refl _⟩
  show V K J 205 0 [some (.ref l0), some (.int l1), none, none] [] sh I R (0, 0) F
  refine s_rl (i := 0) (pc' := 1) (by decide +kernel) rfl ?_
  refine s_il (i := 1) (pc' := 2) (by decide +kernel) rfl ?_
  refine kX11_hasPartner (X := 0) (Y := 0) (X' := 0) (Y' := 0) (pc' := 5) (by decide +kernel) hc0 rfl h1 (fun v1 c hc1 h2 => ?_); clear h1 hc0
  refine s_ifn (ins := .ifCond .ne 5) (t := 10) (pc' := 8) (by decide +kernel) rfl rfl rfl h2 (fun p3 h3 => ?_) (fun p3 h3 => ?_) <;> clear h2
  · refine s_rl (i := 0) (pc' := 11) (by decide +kernel) rfl ?_
    refine s_il (i := 1) (pc' := 12) (by decide +kernel) rfl ?_
    refine kX11_subjectX (X := 0) (Y := 0) (X' := 0) (Y' := 0) (pc' := 15) (by decide +kernel) hc1 rfl h3 (fun v2 c hc2 h4 => ?_); clear h3 hc1
    refine s_is (i := 2) (pc' := 16) (L' := [some (.ref l0), some (.int l1), some (.int v2), none]) (by decide +kernel) rfl rfl ?_
    refine s_rl (i := 0) (pc' := 17) (by decide +kernel) rfl ?_
    refine s_il (i := 1) (pc' := 18) (by decide +kernel) rfl ?_
    refine kX11_subjectY (X := 0) (Y := 0) (X' := 0) (Y' := 0) (pc' := 21) (by decide +kernel) hc2 rfl h4 (fun v3 c hc3 h5 => ?_); clear h4 hc2
    refine s_is (i := 3) (pc' := 22) (L' := [some (.ref l0), some (.int l1), some (.int v2), some (.int v3)]) (by decide +kernel) rfl rfl ?_
    refine s_il (i := 2) (pc' := 23) (by decide +kernel) rfl ?_
    refine s_rl (i := 0) (pc' := 24) (by decide +kernel) rfl ?_
    refine s_il (i := 1) (pc' := 25) (by decide +kernel) rfl ?_
    refine s_c (v := 1) (pc' := 26) (by decide +kernel) ?_
    refine kX11_get (X := 0) (Y := 0) (X' := 0) (Y' := 0) (pc' := 29) (by decide +kernel) hc3 rfl h5 (fun v4 c hc4 h6 => ?_); clear h5 hc3
    refine s_a (ins := .isub) (pc' := 30) (by decide +kernel) rfl ?_
    refine s_il (i := 3) (pc' := 31) (by decide +kernel) rfl ?_
    refine s_rl (i := 0) (pc' := 32) (by decide +kernel) rfl ?_
    refine s_il (i := 1) (pc' := 33) (by decide +kernel) rfl ?_
    refine s_c (v := 2) (pc' := 34) (by decide +kernel) ?_
    refine kX11_get (X := 0) (Y := 0) (X' := 0) (Y' := 0) (pc' := 37) (by decide +kernel) hc4 rfl h6 (fun v5 c hc5 h7 => ?_); clear h6 hc4
    refine s_a (ins := .isub) (pc' := 38) (by decide +kernel) rfl ?_
    refine s_rl (i := 0) (pc' := 39) (by decide +kernel) rfl ?_
    refine s_il (i := 1) (pc' := 40) (by decide +kernel) rfl ?_
    refine kX11_partnerX (X := 0) (Y := 0) (X' := 0) (Y' := 0) (pc' := 43) (by decide +kernel) hc5 rfl h7 (fun v6 c hc6 h8 => ?_); clear h7 hc5
    refine s_il (i := 2) (pc' := 44) (by decide +kernel) rfl ?_
    refine s_a (ins := .isub) (pc' := 45) (by decide +kernel) rfl ?_
    refine s_rl (i := 0) (pc' := 46) (by decide +kernel) rfl ?_
    refine s_il (i := 1) (pc' := 47) (by decide +kernel) rfl ?_
    refine kX11_partnerY (X := 0) (Y := 0) (X' := 0) (Y' := 0) (pc' := 50) (by decide +kernel) hc6 rfl h8 (fun v7 c hc7 h9 => ?_); clear h8 hc6
    refine s_il (i := 3) (pc' := 51) (by decide +kernel) rfl ?_
    refine s_a (ins := .isub) (pc' := 52) (by decide +kernel) rfl ?_
    refine kX11_cross (X := 0) (Y := 0) (X' := 0) (Y' := 0) (pc' := 55) (by decide +kernel) hc7 rfl h9 (fun v8 c hc8 h10 => ?_); clear h9 hc7
    refine kX11_signOf (X := 0) (Y := 0) (X' := 0) (Y' := 0) (pc' := 58) (by decide +kernel) hc8 rfl h10 (fun v9 c hc9 h11 => ?_); clear h10 hc8
    have e9 := Option.some.inj h11; subst e9
    exact s_ri (X := 0) (Y := 0) (by decide +kernel) hc9 hF
  · refine s_c (v := 0) (pc' := 9) (by decide +kernel) ?_
    have e9 := Option.some.inj h3; subst e9
    exact s_ri (X := 0) (Y := 0) (by decide +kernel) hc1 hF
set_option maxRecDepth 100000 in
set_option maxHeartbeats 4000000 in
theorem kX11_lookOf {K J : Nat → Nat} {fu : Nat} {sh : HS} {I : HI} {R : HR} {F : VF} {mi pc pc' X Y X' Y' : Nat} {L : VL} {rest : List Value} {c : Nat × Nat} {l0 : Nat} {l1 : Int32} {ω : Type} {o : ω} {g : Int32 → Option ω} (hq : cQ mi pc 205 2 pc' X Y X' Y' = true) (hc : c.1 ≤ X ∧ c.2 ≤ Y) (hr : Nat.ble (catS rest) 8 = true) (h : (fX11_lookOf fu sh I R l0 l1).bind g = some o) (kk : ∀ v c', (c'.1 ≤ X' ∧ c'.2 ≤ Y') → g v = some o → V K J mi pc' L ((.int v) :: rest) sh I R c' F) : V K J mi pc L (.int l1 :: .ref l0 :: rest) sh I R c F := by
  obtain ⟨r, h1, h2⟩ := bnd h
  have hT : isT sh l0 9 = true := by unfold fX11_lookOf at h1; exact (gd h1).1
  have ml : mL 205 = 4 := by decide +kernel
  have mk : mK 205 = 1 := by decide +kernel
  have mc : mC 205 = 9 := by decide +kernel
  refine s_call (as := [.int l1, .ref l0]) (G := fun o' sh' I' R' => o' = .inl (some (.int r)) ∧ sh' = sh ∧ I' = I ∧ R' = R) hq hc rfl hr (by rw [ml]; rfl) (Or.inl rfl) (fun _ => Or.inl ⟨by rw [mc]; decide, by rw [mc]; exact isT_iff.mp hT⟩) (fun z => absurd (mk.symm.trans z) (by decide)) (by rw [ml]; exact vX11_lookOf (F := fun o' sh' I' R' => o' = .inl (some (.int r)) ∧ sh' = sh ∧ I' = I ∧ R' = R) ⟨rfl, rfl, rfl, rfl⟩ h1) ?_ ?_ ?_
  · rintro sh' I' R' c' hc' ⟨g1, rfl, rfl, rfl⟩
    cases g1
  · rintro v' sh' I' R' c' hc' ⟨g1, rfl, rfl, rfl⟩
    cases g1
    exact kk _ _ hc' h2
  · rintro E' sh' I' R' ⟨g1, rfl, rfl, rfl⟩
    cases g1
set_option maxRecDepth 100000 in
set_option maxHeartbeats 4000000 in
def fX11_visibleIn_b122 (fu : Nat) (sh : HS) (I : HI) (R : HR) (k18 : Nat → Int32 → Int32 → Int32 → Int32 → Int32 → Option Int32) (l0 : Nat) (l1 : Int32) (l3 : Int32) (l4 : Int32) (l5 : Int32) (s0 : Int32) (s1 : Int32) : Option Int32 :=
  k18 l0 l1 (s1 ||| s0) l3 l4 (l5 + 1)
set_option maxRecDepth 100000 in
set_option maxHeartbeats 4000000 in
theorem vX11_visibleIn_b122 {K J : Nat → Nat} {fu : Nat} {sh : HS} {I : HI} {R : HR} {F : VF} {o : Int32} (hF : F (.inl (some (.int o))) sh I R) {k18 : Nat → Int32 → Int32 → Int32 → Int32 → Int32 → Option Int32} (hk18 : ∀ {l0 : Nat} {l1 : Int32} {l2 : Int32} {l3 : Int32} {l4 : Int32} {l5 : Int32} {d6 d7 d8 : Option Value} {c : Nat × Nat}, (c.1 ≤ 0 ∧ c.2 ≤ 0) → k18 l0 l1 l2 l3 l4 l5 = some o → V K J 206 18 [some (.ref l0), some (.int l1), some (.int l2), some (.int l3), some (.int l4), some (.int l5), d6, d7, d8] [] sh I R c F) {l0 : Nat} {l1 : Int32} {l3 : Int32} {l4 : Int32} {l5 : Int32} {s0 : Int32} {s1 : Int32} {d2 d6 d7 d8 : Option Value} {c : Nat × Nat} (hc0 : c.1 ≤ 0 ∧ c.2 ≤ 0) (h0 : fX11_visibleIn_b122 fu sh I R k18 l0 l1 l3 l4 l5 s0 s1 = some o) : V K J 206 122 [some (.ref l0), some (.int l1), d2, some (.int l3), some (.int l4), some (.int l5), d6, d7, d8] [.int s0, .int s1] sh I R c F := by
  unfold fX11_visibleIn_b122 at h0
  refine s_a (ins := .ior) (pc' := 123) (by decide +kernel) rfl ?_
  refine s_is (i := 2) (pc' := 124) (L' := [some (.ref l0), some (.int l1), some (.int (s1 ||| s0)), some (.int l3), some (.int l4), some (.int l5), d6, d7, d8]) (by decide +kernel) rfl rfl ?_
  refine s_inc (i := 5) (z := 1) (pc' := 127) (L' := [some (.ref l0), some (.int l1), some (.int (s1 ||| s0)), some (.int l3), some (.int l4), some (.int (l5 + 1)), d6, d7, d8]) (by decide +kernel) rfl rfl rfl ?_
  refine s_go (t := 18) (by decide +kernel) ?_
  exact hk18 hc0 h0
set_option maxRecDepth 100000 in
set_option maxHeartbeats 4000000 in
def fX11_visibleIn_b121 (fu : Nat) (sh : HS) (I : HI) (R : HR) (k18 : Nat → Int32 → Int32 → Int32 → Int32 → Int32 → Option Int32) (l0 : Nat) (l1 : Int32) (l3 : Int32) (l4 : Int32) (l5 : Int32) (s0 : Int32) : Option Int32 :=
  (fX11_visibleIn_b122 fu sh I R k18) l0 l1 l3 l4 l5 0 s0
set_option maxRecDepth 100000 in
set_option maxHeartbeats 4000000 in
theorem vX11_visibleIn_b121 {K J : Nat → Nat} {fu : Nat} {sh : HS} {I : HI} {R : HR} {F : VF} {o : Int32} (hF : F (.inl (some (.int o))) sh I R) {k18 : Nat → Int32 → Int32 → Int32 → Int32 → Int32 → Option Int32} (hk18 : ∀ {l0 : Nat} {l1 : Int32} {l2 : Int32} {l3 : Int32} {l4 : Int32} {l5 : Int32} {d6 d7 d8 : Option Value} {c : Nat × Nat}, (c.1 ≤ 0 ∧ c.2 ≤ 0) → k18 l0 l1 l2 l3 l4 l5 = some o → V K J 206 18 [some (.ref l0), some (.int l1), some (.int l2), some (.int l3), some (.int l4), some (.int l5), d6, d7, d8] [] sh I R c F) {l0 : Nat} {l1 : Int32} {l3 : Int32} {l4 : Int32} {l5 : Int32} {s0 : Int32} {d2 d6 d7 d8 : Option Value} {c : Nat × Nat} (hc0 : c.1 ≤ 0 ∧ c.2 ≤ 0) (h0 : fX11_visibleIn_b121 fu sh I R k18 l0 l1 l3 l4 l5 s0 = some o) : V K J 206 121 [some (.ref l0), some (.int l1), d2, some (.int l3), some (.int l4), some (.int l5), d6, d7, d8] [.int s0] sh I R c F := by
  unfold fX11_visibleIn_b121 at h0
  refine s_c (v := 0) (pc' := 122) (by decide +kernel) ?_
  exact (vX11_visibleIn_b122 hF hk18) hc0 h0
set_option maxRecDepth 100000 in
set_option maxHeartbeats 4000000 in
def fX11_visibleIn_b85 (fu : Nat) (sh : HS) (I : HI) (R : HR) (k18 : Nat → Int32 → Int32 → Int32 → Int32 → Int32 → Option Int32) (l0 : Nat) (l1 : Int32) (l2 : Int32) (l3 : Int32) (l4 : Int32) (l5 : Int32) (l6 : Int32) (l7 : Int32) (s0 : Int32) : Option Int32 :=
  if s0 = 0 then
    ((fX11_visibleIn_b121 fu sh I R k18) l0 l1 l3 l4 l5 l2)
  else
    ((fX11_directionOf fu sh I R l6 l7).bind fun v9 =>
    (fX11_turnOf fu sh I R l4 v9).bind fun v10 =>
    (oR sh R l0 9 0).bind fun v11 =>
    (oA sh I v11 2).bind fun v12 =>
    if v12 < v10 then
      ((fX11_visibleIn_b121 fu sh I R k18) l0 l1 l3 l4 l5 l2)
    else
      ((fX11_visibleIn_b122 fu sh I R k18) l0 l1 l3 l4 l5 (1 <<< (l5 &&& 31)) l2))
set_option maxRecDepth 100000 in
set_option maxHeartbeats 4000000 in
theorem vX11_visibleIn_b85 {K J : Nat → Nat} {fu : Nat} {sh : HS} {I : HI} {R : HR} {F : VF} {o : Int32} (hF : F (.inl (some (.int o))) sh I R) {k18 : Nat → Int32 → Int32 → Int32 → Int32 → Int32 → Option Int32} (hk18 : ∀ {l0 : Nat} {l1 : Int32} {l2 : Int32} {l3 : Int32} {l4 : Int32} {l5 : Int32} {d6 d7 d8 : Option Value} {c : Nat × Nat}, (c.1 ≤ 0 ∧ c.2 ≤ 0) → k18 l0 l1 l2 l3 l4 l5 = some o → V K J 206 18 [some (.ref l0), some (.int l1), some (.int l2), some (.int l3), some (.int l4), some (.int l5), d6, d7, d8] [] sh I R c F) {l0 : Nat} {l1 : Int32} {l2 : Int32} {l3 : Int32} {l4 : Int32} {l5 : Int32} {l6 : Int32} {l7 : Int32} {s0 : Int32} {d8 : Option Value} {c : Nat × Nat} (hc0 : c.1 ≤ 0 ∧ c.2 ≤ 0) (h0 : fX11_visibleIn_b85 fu sh I R k18 l0 l1 l2 l3 l4 l5 l6 l7 s0 = some o) : V K J 206 85 [some (.ref l0), some (.int l1), some (.int l2), some (.int l3), some (.int l4), some (.int l5), some (.int l6), some (.int l7), d8] [.int s0] sh I R c F := by
  unfold fX11_visibleIn_b85 at h0
  refine s_is (i := 8) (pc' := 87) (L' := [some (.ref l0), some (.int l1), some (.int l2), some (.int l3), some (.int l4), some (.int l5), some (.int l6), some (.int l7), some (.int s0)]) (by decide +kernel) rfl rfl ?_
  refine s_il (i := 2) (pc' := 88) (by decide +kernel) rfl ?_
  refine s_il (i := 8) (pc' := 90) (by decide +kernel) rfl ?_
  refine s_if (ins := .ifCond .eq 31) (t := 121) (pc' := 93) (by decide +kernel) rfl rfl rfl h0 (fun p1 h1 => ?_) (fun p1 h1 => ?_) <;> clear h0
  · exact (vX11_visibleIn_b121 hF hk18) hc0 h1
  · refine s_il (i := 4) (pc' := 95) (by decide +kernel) rfl ?_
    refine s_il (i := 6) (pc' := 97) (by decide +kernel) rfl ?_
    refine s_il (i := 7) (pc' := 99) (by decide +kernel) rfl ?_
    refine kX11_directionOf (X := 0) (Y := 0) (X' := 0) (Y' := 0) (pc' := 102) (by decide +kernel) hc0 rfl h1 (fun v9 c hc1 h2 => ?_); clear h1 hc0
    refine kX11_turnOf (X := 0) (Y := 0) (X' := 0) (Y' := 0) (pc' := 105) (by decide +kernel) hc1 rfl h2 (fun v10 c hc2 h3 => ?_); clear h2 hc1
    refine s_rl (i := 0) (pc' := 106) (by decide +kernel) rfl ?_
    refine s_gR (t := 9) (j := 0) (pc' := 109) (by decide +kernel) h3 (fun v11 h4 => ?_); clear h3
    refine s_c (v := 2) (pc' := 110) (by decide +kernel) ?_
    refine s_al (pc' := 111) (by decide +kernel) h4 (fun v12 h5 => ?_); clear h4
    refine s_if (ins := .if_icmp .gt 10) (t := 121) (pc' := 114) (by decide +kernel) rfl rfl rfl h5 (fun p6 h6 => ?_) (fun p6 h6 => ?_) <;> clear h5
    · exact (vX11_visibleIn_b121 hF hk18) hc2 h6
    · refine s_c (v := 1) (pc' := 115) (by decide +kernel) ?_
      refine s_il (i := 5) (pc' := 117) (by decide +kernel) rfl ?_
      refine s_a (ins := .ishl) (pc' := 118) (by decide +kernel) rfl ?_
      refine s_go (t := 122) (by decide +kernel) ?_
      exact (vX11_visibleIn_b122 hF hk18) hc2 h6
set_option maxRecDepth 100000 in
set_option maxHeartbeats 4000000 in
def fX11_visibleIn_b84 (fu : Nat) (sh : HS) (I : HI) (R : HR) (k18 : Nat → Int32 → Int32 → Int32 → Int32 → Int32 → Option Int32) (l0 : Nat) (l1 : Int32) (l2 : Int32) (l3 : Int32) (l4 : Int32) (l5 : Int32) (l6 : Int32) (l7 : Int32) : Option Int32 :=
  (fX11_visibleIn_b85 fu sh I R k18) l0 l1 l2 l3 l4 l5 l6 l7 0
set_option maxRecDepth 100000 in
set_option maxHeartbeats 4000000 in
theorem vX11_visibleIn_b84 {K J : Nat → Nat} {fu : Nat} {sh : HS} {I : HI} {R : HR} {F : VF} {o : Int32} (hF : F (.inl (some (.int o))) sh I R) {k18 : Nat → Int32 → Int32 → Int32 → Int32 → Int32 → Option Int32} (hk18 : ∀ {l0 : Nat} {l1 : Int32} {l2 : Int32} {l3 : Int32} {l4 : Int32} {l5 : Int32} {d6 d7 d8 : Option Value} {c : Nat × Nat}, (c.1 ≤ 0 ∧ c.2 ≤ 0) → k18 l0 l1 l2 l3 l4 l5 = some o → V K J 206 18 [some (.ref l0), some (.int l1), some (.int l2), some (.int l3), some (.int l4), some (.int l5), d6, d7, d8] [] sh I R c F) {l0 : Nat} {l1 : Int32} {l2 : Int32} {l3 : Int32} {l4 : Int32} {l5 : Int32} {l6 : Int32} {l7 : Int32} {d8 : Option Value} {c : Nat × Nat} (hc0 : c.1 ≤ 0 ∧ c.2 ≤ 0) (h0 : fX11_visibleIn_b84 fu sh I R k18 l0 l1 l2 l3 l4 l5 l6 l7 = some o) : V K J 206 84 [some (.ref l0), some (.int l1), some (.int l2), some (.int l3), some (.int l4), some (.int l5), some (.int l6), some (.int l7), d8] [] sh I R c F := by
  unfold fX11_visibleIn_b84 at h0
  refine s_c (v := 0) (pc' := 85) (by decide +kernel) ?_
  exact (vX11_visibleIn_b85 hF hk18) hc0 h0
set_option maxRecDepth 100000 in
set_option maxHeartbeats 4000000 in
def fX11_visibleIn_b80 (fu : Nat) (sh : HS) (I : HI) (R : HR) (k18 : Nat → Int32 → Int32 → Int32 → Int32 → Int32 → Option Int32) (l0 : Nat) (l1 : Int32) (l2 : Int32) (l3 : Int32) (l4 : Int32) (l5 : Int32) (l6 : Int32) (l7 : Int32) : Option Int32 :=
  (fX11_visibleIn_b85 fu sh I R k18) l0 l1 l2 l3 l4 l5 l6 l7 1
set_option maxRecDepth 100000 in
set_option maxHeartbeats 4000000 in
theorem vX11_visibleIn_b80 {K J : Nat → Nat} {fu : Nat} {sh : HS} {I : HI} {R : HR} {F : VF} {o : Int32} (hF : F (.inl (some (.int o))) sh I R) {k18 : Nat → Int32 → Int32 → Int32 → Int32 → Int32 → Option Int32} (hk18 : ∀ {l0 : Nat} {l1 : Int32} {l2 : Int32} {l3 : Int32} {l4 : Int32} {l5 : Int32} {d6 d7 d8 : Option Value} {c : Nat × Nat}, (c.1 ≤ 0 ∧ c.2 ≤ 0) → k18 l0 l1 l2 l3 l4 l5 = some o → V K J 206 18 [some (.ref l0), some (.int l1), some (.int l2), some (.int l3), some (.int l4), some (.int l5), d6, d7, d8] [] sh I R c F) {l0 : Nat} {l1 : Int32} {l2 : Int32} {l3 : Int32} {l4 : Int32} {l5 : Int32} {l6 : Int32} {l7 : Int32} {d8 : Option Value} {c : Nat × Nat} (hc0 : c.1 ≤ 0 ∧ c.2 ≤ 0) (h0 : fX11_visibleIn_b80 fu sh I R k18 l0 l1 l2 l3 l4 l5 l6 l7 = some o) : V K J 206 80 [some (.ref l0), some (.int l1), some (.int l2), some (.int l3), some (.int l4), some (.int l5), some (.int l6), some (.int l7), d8] [] sh I R c F := by
  unfold fX11_visibleIn_b80 at h0
  refine s_c (v := 1) (pc' := 81) (by decide +kernel) ?_
  refine s_go (t := 85) (by decide +kernel) ?_
  exact (vX11_visibleIn_b85 hF hk18) hc0 h0
set_option maxRecDepth 100000 in
set_option maxHeartbeats 4000000 in
def fX11_visibleIn_b18 (fu : Nat) (sh : HS) (I : HI) (R : HR) (k18 : Nat → Int32 → Int32 → Int32 → Int32 → Int32 → Option Int32) (l0 : Nat) (l1 : Int32) (l2 : Int32) (l3 : Int32) (l4 : Int32) (l5 : Int32) : Option Int32 :=
  if 6 ≤ l5 then
    (some l2)
  else
    ((fX11_actorX fu sh I R l0 l3 l5).bind fun v3 =>
    (fX11_get fu sh I R l0 l1 1).bind fun v4 =>
    (fX11_actorY fu sh I R l0 l3 l5).bind fun v5 =>
    (fX11_get fu sh I R l0 l1 2).bind fun v6 =>
    (fX11_actorsOf fu sh I R l0 l3).bind fun v7 =>
    (fX11_has fu sh I R v7 l5).bind fun v8 =>
    if v8 = 0 then
      ((fX11_visibleIn_b84 fu sh I R k18) l0 l1 l2 l3 l4 l5 (v3 - v4) (v5 - v6))
    else
      (if (v3 - v4) = 0 then
        (if (v5 - v6) = 0 then
          ((fX11_visibleIn_b84 fu sh I R k18) l0 l1 l2 l3 l4 l5 (v3 - v4) (v5 - v6))
        else
          ((fX11_visibleIn_b80 fu sh I R k18) l0 l1 l2 l3 l4 l5 (v3 - v4) (v5 - v6)))
      else
        ((fX11_visibleIn_b80 fu sh I R k18) l0 l1 l2 l3 l4 l5 (v3 - v4) (v5 - v6))))
set_option maxRecDepth 100000 in
set_option maxHeartbeats 4000000 in
theorem vX11_visibleIn_b18 {K J : Nat → Nat} {fu : Nat} {sh : HS} {I : HI} {R : HR} {F : VF} {o : Int32} (hF : F (.inl (some (.int o))) sh I R) {k18 : Nat → Int32 → Int32 → Int32 → Int32 → Int32 → Option Int32} (hk18 : ∀ {l0 : Nat} {l1 : Int32} {l2 : Int32} {l3 : Int32} {l4 : Int32} {l5 : Int32} {d6 d7 d8 : Option Value} {c : Nat × Nat}, (c.1 ≤ 0 ∧ c.2 ≤ 0) → k18 l0 l1 l2 l3 l4 l5 = some o → V K J 206 18 [some (.ref l0), some (.int l1), some (.int l2), some (.int l3), some (.int l4), some (.int l5), d6, d7, d8] [] sh I R c F) {l0 : Nat} {l1 : Int32} {l2 : Int32} {l3 : Int32} {l4 : Int32} {l5 : Int32} {d6 d7 d8 : Option Value} {c : Nat × Nat} (hc0 : c.1 ≤ 0 ∧ c.2 ≤ 0) (h0 : fX11_visibleIn_b18 fu sh I R k18 l0 l1 l2 l3 l4 l5 = some o) : V K J 206 18 [some (.ref l0), some (.int l1), some (.int l2), some (.int l3), some (.int l4), some (.int l5), d6, d7, d8] [] sh I R c F := by
  unfold fX11_visibleIn_b18 at h0
  refine s_il (i := 5) (pc' := 20) (by decide +kernel) rfl ?_
  refine s_c (v := 6) (pc' := 22) (by decide +kernel) ?_
  refine s_if (ins := .if_icmp .ge 108) (t := 130) (pc' := 25) (by decide +kernel) rfl rfl rfl h0 (fun p1 h1 => ?_) (fun p1 h1 => ?_) <;> clear h0
  · refine s_il (i := 2) (pc' := 131) (by decide +kernel) rfl ?_
    have e9 := Option.some.inj h1; subst e9
    exact s_ri (X := 0) (Y := 0) (by decide +kernel) hc0 hF
  · refine s_rl (i := 0) (pc' := 26) (by decide +kernel) rfl ?_
    refine s_il (i := 3) (pc' := 27) (by decide +kernel) rfl ?_
    refine s_il (i := 5) (pc' := 29) (by decide +kernel) rfl ?_
    refine kX11_actorX (X := 0) (Y := 0) (X' := 0) (Y' := 0) (pc' := 32) (by decide +kernel) hc0 rfl h1 (fun v3 c hc1 h2 => ?_); clear h1 hc0
    refine s_rl (i := 0) (pc' := 33) (by decide +kernel) rfl ?_
    refine s_il (i := 1) (pc' := 34) (by decide +kernel) rfl ?_
    refine s_c (v := 1) (pc' := 35) (by decide +kernel) ?_
    refine kX11_get (X := 0) (Y := 0) (X' := 0) (Y' := 0) (pc' := 38) (by decide +kernel) hc1 rfl h2 (fun v4 c hc2 h3 => ?_); clear h2 hc1
    refine s_a (ins := .isub) (pc' := 39) (by decide +kernel) rfl ?_
    refine s_is (i := 6) (pc' := 41) (L' := [some (.ref l0), some (.int l1), some (.int l2), some (.int l3), some (.int l4), some (.int l5), some (.int (v3 - v4)), d7, d8]) (by decide +kernel) rfl rfl ?_
    refine s_rl (i := 0) (pc' := 42) (by decide +kernel) rfl ?_
    refine s_il (i := 3) (pc' := 43) (by decide +kernel) rfl ?_
    refine s_il (i := 5) (pc' := 45) (by decide +kernel) rfl ?_
    refine kX11_actorY (X := 0) (Y := 0) (X' := 0) (Y' := 0) (pc' := 48) (by decide +kernel) hc2 rfl h3 (fun v5 c hc3 h4 => ?_); clear h3 hc2
    refine s_rl (i := 0) (pc' := 49) (by decide +kernel) rfl ?_
    refine s_il (i := 1) (pc' := 50) (by decide +kernel) rfl ?_
    refine s_c (v := 2) (pc' := 51) (by decide +kernel) ?_
    refine kX11_get (X := 0) (Y := 0) (X' := 0) (Y' := 0) (pc' := 54) (by decide +kernel) hc3 rfl h4 (fun v6 c hc4 h5 => ?_); clear h4 hc3
    refine s_a (ins := .isub) (pc' := 55) (by decide +kernel) rfl ?_
    refine s_is (i := 7) (pc' := 57) (L' := [some (.ref l0), some (.int l1), some (.int l2), some (.int l3), some (.int l4), some (.int l5), some (.int (v3 - v4)), some (.int (v5 - v6)), d8]) (by decide +kernel) rfl rfl ?_
    refine s_rl (i := 0) (pc' := 58) (by decide +kernel) rfl ?_
    refine s_il (i := 3) (pc' := 59) (by decide +kernel) rfl ?_
    refine kX11_actorsOf (X := 0) (Y := 0) (X' := 0) (Y' := 0) (pc' := 62) (by decide +kernel) hc4 rfl h5 (fun v7 c hc5 h6 => ?_); clear h5 hc4
    refine s_il (i := 5) (pc' := 64) (by decide +kernel) rfl ?_
    refine kX11_has (X := 0) (Y := 0) (X' := 0) (Y' := 0) (pc' := 67) (by decide +kernel) hc5 rfl h6 (fun v8 c hc6 h7 => ?_); clear h6 hc5
    refine s_if (ins := .ifCond .eq 17) (t := 84) (pc' := 70) (by decide +kernel) rfl rfl rfl h7 (fun p8 h8 => ?_) (fun p8 h8 => ?_) <;> clear h7
    · exact (vX11_visibleIn_b84 hF hk18) hc6 h8
    · refine s_il (i := 6) (pc' := 72) (by decide +kernel) rfl ?_
      refine s_ifn (ins := .ifCond .ne 8) (t := 80) (pc' := 75) (by decide +kernel) rfl rfl rfl h8 (fun p9 h9 => ?_) (fun p9 h9 => ?_) <;> clear h8
      · exact (vX11_visibleIn_b80 hF hk18) hc6 h9
      · refine s_il (i := 7) (pc' := 77) (by decide +kernel) rfl ?_
        refine s_if (ins := .ifCond .eq 7) (t := 84) (pc' := 80) (by decide +kernel) rfl rfl rfl h9 (fun p10 h10 => ?_) (fun p10 h10 => ?_) <;> clear h9
        · exact (vX11_visibleIn_b84 hF hk18) hc6 h10
        · exact (vX11_visibleIn_b80 hF hk18) hc6 h10
set_option maxRecDepth 100000 in
set_option maxHeartbeats 4000000 in
def fX11_visibleIn_l18 (fu : Nat) (sh : HS) (I : HI) (R : HR) : Nat → Nat → Int32 → Int32 → Int32 → Int32 → Int32 → Option Int32
  | 0 => fun _ _ _ _ _ _ => none
  | n + 1 => fX11_visibleIn_b18 fu sh I R (fX11_visibleIn_l18 fu sh I R n)
set_option maxRecDepth 100000 in
set_option maxHeartbeats 4000000 in
theorem vX11_visibleIn_l18 {K J : Nat → Nat} {fu : Nat} {sh : HS} {I : HI} {R : HR} {F : VF} {o : Int32} (hF : F (.inl (some (.int o))) sh I R) : ∀ (n : Nat) {l0 : Nat} {l1 : Int32} {l2 : Int32} {l3 : Int32} {l4 : Int32} {l5 : Int32} {d6 d7 d8 : Option Value} {c : Nat × Nat} (_ : c.1 ≤ 0 ∧ c.2 ≤ 0) (_ : fX11_visibleIn_l18 fu sh I R n l0 l1 l2 l3 l4 l5 = some o), V K J 206 18 [some (.ref l0), some (.int l1), some (.int l2), some (.int l3), some (.int l4), some (.int l5), d6, d7, d8] [] sh I R c F := by
  intro n
  induction n with
  | zero => exact fun _ h0 => nomatch h0
  | succ n ih => exact fun hc0 h0 => vX11_visibleIn_b18 hF ih hc0 h0
set_option maxRecDepth 100000 in
set_option maxHeartbeats 4000000 in
def fX11_visibleIn (fu : Nat) (sh : HS) (I : HI) (R : HR) (l0 : Nat) (l1 : Int32) : Option Int32 :=
  if isT sh l0 9 = true then
    ((fX11_sceneOf fu sh I R l0 l1).bind fun v1 =>
    (fX11_viewOf fu sh I R l0 l1).bind fun v2 =>
    (fX11_visibleIn_l18 fu sh I R fu) l0 l1 0 v1 v2 0)
  else none
set_option maxRecDepth 100000 in
set_option maxHeartbeats 4000000 in
theorem vX11_visibleIn {K J : Nat → Nat} {fu : Nat} {sh : HS} {I : HI} {R : HR} {F : VF} {o : Int32} (hF : F (.inl (some (.int o))) sh I R) {l0 : Nat} {l1 : Int32} (h0 : fX11_visibleIn fu sh I R l0 l1 = some o) : V K J 206 0 (ent 9 [.ref l0, .int l1]) [] sh I R (0, 0) F := by
  unfold fX11_visibleIn at h0
  obtain ⟨-, h1⟩ := gd h0; clear h0
  have hc0 : ((0 : Nat), (0 : Nat)).1 ≤ 0 ∧ ((0 : Nat), (0 : Nat)).2 ≤ 0 := ⟨Nat.le_refl _, Nat.le_refl _⟩
  show V K J 206 0 [some (.ref l0), some (.int l1), none, none, none, none, none, none, none] [] sh I R (0, 0) F
  refine s_c (v := 0) (pc' := 1) (by decide +kernel) ?_
  refine s_is (i := 2) (pc' := 2) (L' := [some (.ref l0), some (.int l1), some (.int 0), none, none, none, none, none, none]) (by decide +kernel) rfl rfl ?_
  refine s_rl (i := 0) (pc' := 3) (by decide +kernel) rfl ?_
  refine s_il (i := 1) (pc' := 4) (by decide +kernel) rfl ?_
  refine kX11_sceneOf (X := 0) (Y := 0) (X' := 0) (Y' := 0) (pc' := 7) (by decide +kernel) hc0 rfl h1 (fun v1 c hc1 h2 => ?_); clear h1 hc0
  refine s_is (i := 3) (pc' := 8) (L' := [some (.ref l0), some (.int l1), some (.int 0), some (.int v1), none, none, none, none, none]) (by decide +kernel) rfl rfl ?_
  refine s_rl (i := 0) (pc' := 9) (by decide +kernel) rfl ?_
  refine s_il (i := 1) (pc' := 10) (by decide +kernel) rfl ?_
  refine kX11_viewOf (X := 0) (Y := 0) (X' := 0) (Y' := 0) (pc' := 13) (by decide +kernel) hc1 rfl h2 (fun v2 c hc2 h3 => ?_); clear h2 hc1
  refine s_is (i := 4) (pc' := 15) (L' := [some (.ref l0), some (.int l1), some (.int 0), some (.int v1), some (.int v2), none, none, none, none]) (by decide +kernel) rfl rfl ?_
  refine s_c (v := 0) (pc' := 16) (by decide +kernel) ?_
  refine s_is (i := 5) (pc' := 18) (L' := [some (.ref l0), some (.int l1), some (.int 0), some (.int v1), some (.int v2), some (.int 0), none, none, none]) (by decide +kernel) rfl rfl ?_
  exact (vX11_visibleIn_l18 hF fu) hc2 h3
set_option maxRecDepth 100000 in
set_option maxHeartbeats 4000000 in
theorem kX11_visibleIn {K J : Nat → Nat} {fu : Nat} {sh : HS} {I : HI} {R : HR} {F : VF} {mi pc pc' X Y X' Y' : Nat} {L : VL} {rest : List Value} {c : Nat × Nat} {l0 : Nat} {l1 : Int32} {ω : Type} {o : ω} {g : Int32 → Option ω} (hq : cQ mi pc 206 2 pc' X Y X' Y' = true) (hc : c.1 ≤ X ∧ c.2 ≤ Y) (hr : Nat.ble (catS rest) 8 = true) (h : (fX11_visibleIn fu sh I R l0 l1).bind g = some o) (kk : ∀ v c', (c'.1 ≤ X' ∧ c'.2 ≤ Y') → g v = some o → V K J mi pc' L ((.int v) :: rest) sh I R c' F) : V K J mi pc L (.int l1 :: .ref l0 :: rest) sh I R c F := by
  obtain ⟨r, h1, h2⟩ := bnd h
  have hT : isT sh l0 9 = true := by unfold fX11_visibleIn at h1; exact (gd h1).1
  have ml : mL 206 = 9 := by decide +kernel
  have mk : mK 206 = 1 := by decide +kernel
  have mc : mC 206 = 9 := by decide +kernel
  refine s_call (as := [.int l1, .ref l0]) (G := fun o' sh' I' R' => o' = .inl (some (.int r)) ∧ sh' = sh ∧ I' = I ∧ R' = R) hq hc rfl hr (by rw [ml]; rfl) (Or.inl rfl) (fun _ => Or.inl ⟨by rw [mc]; decide, by rw [mc]; exact isT_iff.mp hT⟩) (fun z => absurd (mk.symm.trans z) (by decide)) (by rw [ml]; exact vX11_visibleIn (F := fun o' sh' I' R' => o' = .inl (some (.int r)) ∧ sh' = sh ∧ I' = I ∧ R' = R) ⟨rfl, rfl, rfl, rfl⟩ h1) ?_ ?_ ?_
  · rintro sh' I' R' c' hc' ⟨g1, rfl, rfl, rfl⟩
    cases g1
  · rintro v' sh' I' R' c' hc' ⟨g1, rfl, rfl, rfl⟩
    cases g1
    exact kk _ _ hc' h2
  · rintro E' sh' I' R' ⟨g1, rfl, rfl, rfl⟩
    cases g1
set_option maxRecDepth 100000 in
set_option maxHeartbeats 4000000 in
def fX11_areNear_b81 (fu : Nat) (sh : HS) (I : HI) (R : HR) (s0 : Int32) : Option Int32 :=
  (oZ s0).bind fun z9 =>
  some z9
set_option maxRecDepth 100000 in
set_option maxHeartbeats 4000000 in
theorem vX11_areNear_b81 {K J : Nat → Nat} {fu : Nat} {sh : HS} {I : HI} {R : HR} {F : VF} {o : Int32} (hF : F (.inl (some (.int o))) sh I R) {s0 : Int32} {d0 d1 d2 d3 d4 : Option Value} {c : Nat × Nat} (hc0 : c.1 ≤ 0 ∧ c.2 ≤ 0) (h0 : fX11_areNear_b81 fu sh I R s0 = some o) : V K J 207 81 [d0, d1, d2, d3, d4] [.int s0] sh I R c F := by
  unfold fX11_areNear_b81 at h0
  obtain ⟨hz, h1⟩ := oZb h0
  have e9 := Option.some.inj h1; subst e9
  exact s_rz (X := 0) (Y := 0) (by decide +kernel) hz hc0 hF
set_option maxRecDepth 100000 in
set_option maxHeartbeats 4000000 in
def fX11_areNear_b80 (fu : Nat) (sh : HS) (I : HI) (R : HR) : Option Int32 :=
  (fX11_areNear_b81 fu sh I R) 0
set_option maxRecDepth 100000 in
set_option maxHeartbeats 4000000 in
theorem vX11_areNear_b80 {K J : Nat → Nat} {fu : Nat} {sh : HS} {I : HI} {R : HR} {F : VF} {o : Int32} (hF : F (.inl (some (.int o))) sh I R) {d0 d1 d2 d3 d4 : Option Value} {c : Nat × Nat} (hc0 : c.1 ≤ 0 ∧ c.2 ≤ 0) (h0 : fX11_areNear_b80 fu sh I R = some o) : V K J 207 80 [d0, d1, d2, d3, d4] [] sh I R c F := by
  unfold fX11_areNear_b80 at h0
  refine s_c (v := 0) (pc' := 81) (by decide +kernel) ?_
  exact (vX11_areNear_b81 hF) hc0 h0
set_option maxRecDepth 100000 in
set_option maxHeartbeats 4000000 in
def fX11_areNear (fu : Nat) (sh : HS) (I : HI) (R : HR) (l0 : Nat) (l1 : Int32) (l2 : Int32) (l3 : Int32) : Option Int32 :=
  if isT sh l0 9 = true then
    ((fX11_get fu sh I R l0 l1 1).bind fun v1 =>
    (fX11_get fu sh I R l0 l2 1).bind fun v2 =>
    (fX11_sizeOfNumber fu sh I R (v1 - v2)).bind fun v3 =>
    (fX11_get fu sh I R l0 l1 2).bind fun v4 =>
    (fX11_get fu sh I R l0 l2 2).bind fun v5 =>
    (fX11_sizeOfNumber fu sh I R (v4 - v5)).bind fun v6 =>
    (fX11_sceneOf fu sh I R l0 l1).bind fun v7 =>
    (fX11_sceneOf fu sh I R l0 l2).bind fun v8 =>
    if v7 = v8 then
      (if l3 < (v3 + v6) then
        ((fX11_areNear_b80 fu sh I R))
      else
        ((fX11_viewOf fu sh I R l0 l1).bind fun v10 =>
        (fX11_viewOf fu sh I R l0 l2).bind fun v11 =>
        (fX11_turnOf fu sh I R v10 v11).bind fun v12 =>
        (oR sh R l0 9 0).bind fun v13 =>
        (oA sh I v13 1).bind fun v14 =>
        if v14 < v12 then
          ((fX11_areNear_b80 fu sh I R))
        else
          ((fX11_areNear_b81 fu sh I R) 1)))
    else
      ((fX11_areNear_b80 fu sh I R)))
  else none
set_option maxRecDepth 100000 in
set_option maxHeartbeats 4000000 in
theorem vX11_areNear {K J : Nat → Nat} {fu : Nat} {sh : HS} {I : HI} {R : HR} {F : VF} {o : Int32} (hF : F (.inl (some (.int o))) sh I R) {l0 : Nat} {l1 : Int32} {l2 : Int32} {l3 : Int32} (h0 : fX11_areNear fu sh I R l0 l1 l2 l3 = some o) : V K J 207 0 (ent 5 [.ref l0, .int l1, .int l2, .int l3]) [] sh I R (0, 0) F := by
  unfold fX11_areNear at h0
  obtain ⟨-, h1⟩ := gd h0; clear h0
  have hc0 : ((0 : Nat), (0 : Nat)).1 ≤ 0 ∧ ((0 : Nat), (0 : Nat)).2 ≤ 0 := ⟨Nat.le_refl _, Nat.le_refl _⟩
  show V K J 207 0 [some (.ref l0), some (.int l1), some (.int l2), some (.int l3), none] [] sh I R (0, 0) F
  refine s_rl (i := 0) (pc' := 1) (by decide +kernel) rfl ?_
  refine s_il (i := 1) (pc' := 2) (by decide +kernel) rfl ?_
  refine s_c (v := 1) (pc' := 3) (by decide +kernel) ?_
  refine kX11_get (X := 0) (Y := 0) (X' := 0) (Y' := 0) (pc' := 6) (by decide +kernel) hc0 rfl h1 (fun v1 c hc1 h2 => ?_); clear h1 hc0
  refine s_rl (i := 0) (pc' := 7) (by decide +kernel) rfl ?_
  refine s_il (i := 2) (pc' := 8) (by decide +kernel) rfl ?_
  refine s_c (v := 1) (pc' := 9) (by decide +kernel) ?_
  refine kX11_get (X := 0) (Y := 0) (X' := 0) (Y' := 0) (pc' := 12) (by decide +kernel) hc1 rfl h2 (fun v2 c hc2 h3 => ?_); clear h2 hc1
  refine s_a (ins := .isub) (pc' := 13) (by decide +kernel) rfl ?_
  refine kX11_sizeOfNumber (X := 0) (Y := 0) (X' := 0) (Y' := 0) (pc' := 16) (by decide +kernel) hc2 rfl h3 (fun v3 c hc3 h4 => ?_); clear h3 hc2
  refine s_rl (i := 0) (pc' := 17) (by decide +kernel) rfl ?_
  refine s_il (i := 1) (pc' := 18) (by decide +kernel) rfl ?_
  refine s_c (v := 2) (pc' := 19) (by decide +kernel) ?_
  refine kX11_get (X := 0) (Y := 0) (X' := 0) (Y' := 0) (pc' := 22) (by decide +kernel) hc3 rfl h4 (fun v4 c hc4 h5 => ?_); clear h4 hc3
  refine s_rl (i := 0) (pc' := 23) (by decide +kernel) rfl ?_
  refine s_il (i := 2) (pc' := 24) (by decide +kernel) rfl ?_
  refine s_c (v := 2) (pc' := 25) (by decide +kernel) ?_
  refine kX11_get (X := 0) (Y := 0) (X' := 0) (Y' := 0) (pc' := 28) (by decide +kernel) hc4 rfl h5 (fun v5 c hc5 h6 => ?_); clear h5 hc4
  refine s_a (ins := .isub) (pc' := 29) (by decide +kernel) rfl ?_
  refine kX11_sizeOfNumber (X := 0) (Y := 0) (X' := 0) (Y' := 0) (pc' := 32) (by decide +kernel) hc5 rfl h6 (fun v6 c hc6 h7 => ?_); clear h6 hc5
  refine s_a (ins := .iadd) (pc' := 33) (by decide +kernel) rfl ?_
  refine s_is (i := 4) (pc' := 35) (L' := [some (.ref l0), some (.int l1), some (.int l2), some (.int l3), some (.int (v3 + v6))]) (by decide +kernel) rfl rfl ?_
  refine s_rl (i := 0) (pc' := 36) (by decide +kernel) rfl ?_
  refine s_il (i := 1) (pc' := 37) (by decide +kernel) rfl ?_
  refine kX11_sceneOf (X := 0) (Y := 0) (X' := 0) (Y' := 0) (pc' := 40) (by decide +kernel) hc6 rfl h7 (fun v7 c hc7 h8 => ?_); clear h7 hc6
  refine s_rl (i := 0) (pc' := 41) (by decide +kernel) rfl ?_
  refine s_il (i := 2) (pc' := 42) (by decide +kernel) rfl ?_
  refine kX11_sceneOf (X := 0) (Y := 0) (X' := 0) (Y' := 0) (pc' := 45) (by decide +kernel) hc7 rfl h8 (fun v8 c hc8 h9 => ?_); clear h8 hc7
  refine s_ifn (ins := .if_icmp .ne 35) (t := 80) (pc' := 48) (by decide +kernel) rfl rfl rfl h9 (fun p10 h10 => ?_) (fun p10 h10 => ?_) <;> clear h9
  · exact (vX11_areNear_b80 hF) hc8 h10
  · refine s_il (i := 4) (pc' := 50) (by decide +kernel) rfl ?_
    refine s_il (i := 3) (pc' := 51) (by decide +kernel) rfl ?_
    refine s_if (ins := .if_icmp .gt 29) (t := 80) (pc' := 54) (by decide +kernel) rfl rfl rfl h10 (fun p11 h11 => ?_) (fun p11 h11 => ?_) <;> clear h10
    · exact (vX11_areNear_b80 hF) hc8 h11
    · refine s_rl (i := 0) (pc' := 55) (by decide +kernel) rfl ?_
      refine s_il (i := 1) (pc' := 56) (by decide +kernel) rfl ?_
      refine kX11_viewOf (X := 0) (Y := 0) (X' := 0) (Y' := 0) (pc' := 59) (by decide +kernel) hc8 rfl h11 (fun v10 c hc9 h12 => ?_); clear h11 hc8
      refine s_rl (i := 0) (pc' := 60) (by decide +kernel) rfl ?_
      refine s_il (i := 2) (pc' := 61) (by decide +kernel) rfl ?_
      refine kX11_viewOf (X := 0) (Y := 0) (X' := 0) (Y' := 0) (pc' := 64) (by decide +kernel) hc9 rfl h12 (fun v11 c hc10 h13 => ?_); clear h12 hc9
      refine kX11_turnOf (X := 0) (Y := 0) (X' := 0) (Y' := 0) (pc' := 67) (by decide +kernel) hc10 rfl h13 (fun v12 c hc11 h14 => ?_); clear h13 hc10
      refine s_rl (i := 0) (pc' := 68) (by decide +kernel) rfl ?_
      refine s_gR (t := 9) (j := 0) (pc' := 71) (by decide +kernel) h14 (fun v13 h15 => ?_); clear h14
      refine s_c (v := 1) (pc' := 72) (by decide +kernel) ?_
      refine s_al (pc' := 73) (by decide +kernel) h15 (fun v14 h16 => ?_); clear h15
      refine s_if (ins := .if_icmp .gt 7) (t := 80) (pc' := 76) (by decide +kernel) rfl rfl rfl h16 (fun p17 h17 => ?_) (fun p17 h17 => ?_) <;> clear h16
      · exact (vX11_areNear_b80 hF) hc11 h17
      · refine s_c (v := 1) (pc' := 77) (by decide +kernel) ?_
        refine s_go (t := 81) (by decide +kernel) ?_
        exact (vX11_areNear_b81 hF) hc11 h17
set_option maxRecDepth 100000 in
set_option maxHeartbeats 4000000 in
theorem kX11_areNear {K J : Nat → Nat} {fu : Nat} {sh : HS} {I : HI} {R : HR} {F : VF} {mi pc pc' X Y X' Y' : Nat} {L : VL} {rest : List Value} {c : Nat × Nat} {l0 : Nat} {l1 : Int32} {l2 : Int32} {l3 : Int32} {ω : Type} {o : ω} {g : Int32 → Option ω} (hq : cQ mi pc 207 4 pc' X Y X' Y' = true) (hc : c.1 ≤ X ∧ c.2 ≤ Y) (hr : Nat.ble (catS rest) 8 = true) (h : (fX11_areNear fu sh I R l0 l1 l2 l3).bind g = some o) (kk : ∀ v c', (c'.1 ≤ X' ∧ c'.2 ≤ Y') → g v = some o → V K J mi pc' L ((.int v) :: rest) sh I R c' F) : V K J mi pc L (.int l3 :: .int l2 :: .int l1 :: .ref l0 :: rest) sh I R c F := by
  obtain ⟨r, h1, h2⟩ := bnd h
  have hT : isT sh l0 9 = true := by unfold fX11_areNear at h1; exact (gd h1).1
  have ml : mL 207 = 5 := by decide +kernel
  have mk : mK 207 = 1 := by decide +kernel
  have mc : mC 207 = 9 := by decide +kernel
  refine s_call (as := [.int l3, .int l2, .int l1, .ref l0]) (G := fun o' sh' I' R' => o' = .inl (some (.int r)) ∧ sh' = sh ∧ I' = I ∧ R' = R) hq hc rfl hr (by rw [ml]; rfl) (Or.inl rfl) (fun _ => Or.inl ⟨by rw [mc]; decide, by rw [mc]; exact isT_iff.mp hT⟩) (fun z => absurd (mk.symm.trans z) (by decide)) (by rw [ml]; exact vX11_areNear (F := fun o' sh' I' R' => o' = .inl (some (.int r)) ∧ sh' = sh ∧ I' = I ∧ R' = R) ⟨rfl, rfl, rfl, rfl⟩ h1) ?_ ?_ ?_
  · rintro sh' I' R' c' hc' ⟨g1, rfl, rfl, rfl⟩
    cases g1
  · rintro v' sh' I' R' c' hc' ⟨g1, rfl, rfl, rfl⟩
    cases g1
    exact kk _ _ hc' h2
  · rintro E' sh' I' R' ⟨g1, rfl, rfl, rfl⟩
    cases g1
set_option maxRecDepth 100000 in
set_option maxHeartbeats 4000000 in
def fX11_direction_b60 (fu : Nat) (sh : HS) (R : HR) (I : HI) (s0 : Int32) : Option (Int32 × HI) :=
  some (s0, I)
set_option maxRecDepth 100000 in
set_option maxHeartbeats 4000000 in
theorem vX11_direction_b60 {K J : Nat → Nat} {fu : Nat} {sh : HS} {R : HR} {F : VF} {o : (Int32 × HI)} (hF : F (.inl (some (.int o.1))) sh o.2 R) {I : HI} {s0 : Int32} {d0 d1 d2 : Option Value} {c : Nat × Nat} (hc0 : c.1 ≤ 0 ∧ c.2 ≤ 0) (h0 : fX11_direction_b60 fu sh R I s0 = some o) : V K J 208 60 [d0, d1, d2] [.int s0] sh I R c F := by
  unfold fX11_direction_b60 at h0
  have e9 := Option.some.inj h0; subst e9
  exact s_ri (X := 0) (Y := 0) (by decide +kernel) hc0 hF
set_option maxRecDepth 100000 in
set_option maxHeartbeats 4000000 in
def fX11_direction_b55 (fu : Nat) (sh : HS) (R : HR) (I : HI) (l1 : Int32) (l2 : Int32) : Option (Int32 × HI) :=
  (fX11_directionOf fu sh I R l1 l2).bind fun v3 =>
  (fX11_direction_b60 fu sh R) I v3
set_option maxRecDepth 100000 in
set_option maxHeartbeats 4000000 in
theorem vX11_direction_b55 {K J : Nat → Nat} {fu : Nat} {sh : HS} {R : HR} {F : VF} {o : (Int32 × HI)} (hF : F (.inl (some (.int o.1))) sh o.2 R) {I : HI} {l1 : Int32} {l2 : Int32} {d0 : Option Value} {c : Nat × Nat} (hc0 : c.1 ≤ 0 ∧ c.2 ≤ 0) (h0 : fX11_direction_b55 fu sh R I l1 l2 = some o) : V K J 208 55 [d0, some (.int l1), some (.int l2)] [] sh I R c F := by
  unfold fX11_direction_b55 at h0
  refine s_il (i := 1) (pc' := 56) (by decide +kernel) rfl ?_
  refine s_il (i := 2) (pc' := 57) (by decide +kernel) rfl ?_
  refine kX11_directionOf (X := 0) (Y := 0) (X' := 0) (Y' := 0) (pc' := 60) (by decide +kernel) hc0 rfl h0 (fun v3 c hc1 h1 => ?_); clear h0 hc0
  exact (vX11_direction_b60 hF) hc1 h1
set_option maxRecDepth 100000 in
set_option maxHeartbeats 4000000 in
def fX11_direction_b34 (fu : Nat) (sh : HS) (R : HR) (I : HI) (l1 : Int32) (l2 : Int32) (s0 : Int32) (s1 : Nat) : Option (Int32 × HI) :=
  oH (fX11_isWrong fu sh I R s1 s0) fun v2 w2 =>
  if v2 = 0 then
    (if l1 = 0 then
      (if l2 = 0 then
        ((fX11_direction_b60 fu sh R) w2 (-2))
      else
        ((fX11_direction_b55 fu sh R) w2 l1 l2))
    else
      ((fX11_direction_b55 fu sh R) w2 l1 l2))
  else
    (some (0, w2))
set_option maxRecDepth 100000 in
set_option maxHeartbeats 4000000 in
theorem vX11_direction_b34 {K J : Nat → Nat} {fu : Nat} {sh : HS} {R : HR} {F : VF} {o : (Int32 × HI)} (hF : F (.inl (some (.int o.1))) sh o.2 R) {I : HI} {l1 : Int32} {l2 : Int32} {s0 : Int32} {s1 : Nat} {d0 : Option Value} {c : Nat × Nat} (hc0 : c.1 ≤ 0 ∧ c.2 ≤ 0) (h0 : fX11_direction_b34 fu sh R I l1 l2 s0 s1 = some o) : V K J 208 34 [d0, some (.int l1), some (.int l2)] [.int s0, .ref s1] sh I R c F := by
  unfold fX11_direction_b34 at h0
  refine kX11_isWrong (X := 0) (Y := 0) (X' := 0) (Y' := 0) (pc' := 37) (by decide +kernel) hc0 rfl h0 (fun v2 w2 c hc1 h1 => ?_); clear h0 hc0
  refine s_if (ins := .ifCond .eq 5) (t := 42) (pc' := 40) (by decide +kernel) rfl rfl rfl h1 (fun p2 h2 => ?_) (fun p2 h2 => ?_) <;> clear h1
  · refine s_il (i := 1) (pc' := 43) (by decide +kernel) rfl ?_
    refine s_ifn (ins := .ifCond .ne 12) (t := 55) (pc' := 46) (by decide +kernel) rfl rfl rfl h2 (fun p3 h3 => ?_) (fun p3 h3 => ?_) <;> clear h2
    · exact (vX11_direction_b55 hF) hc1 h3
    · refine s_il (i := 2) (pc' := 47) (by decide +kernel) rfl ?_
      refine s_ifn (ins := .ifCond .ne 8) (t := 55) (pc' := 50) (by decide +kernel) rfl rfl rfl h3 (fun p4 h4 => ?_) (fun p4 h4 => ?_) <;> clear h3
      · exact (vX11_direction_b55 hF) hc1 h4
      · refine s_c (v := (-2)) (pc' := 52) (by decide +kernel) ?_
        refine s_go (t := 60) (by decide +kernel) ?_
        exact (vX11_direction_b60 hF) hc1 h4
  · refine s_c (v := 0) (pc' := 41) (by decide +kernel) ?_
    have e9 := Option.some.inj h2; subst e9
    exact s_ri (X := 0) (Y := 0) (by decide +kernel) hc1 hF
set_option maxRecDepth 100000 in
set_option maxHeartbeats 4000000 in
def fX11_direction_b33 (fu : Nat) (sh : HS) (R : HR) (I : HI) (l1 : Int32) (l2 : Int32) (s0 : Nat) : Option (Int32 × HI) :=
  (fX11_direction_b34 fu sh R) I l1 l2 0 s0
set_option maxRecDepth 100000 in
set_option maxHeartbeats 4000000 in
theorem vX11_direction_b33 {K J : Nat → Nat} {fu : Nat} {sh : HS} {R : HR} {F : VF} {o : (Int32 × HI)} (hF : F (.inl (some (.int o.1))) sh o.2 R) {I : HI} {l1 : Int32} {l2 : Int32} {s0 : Nat} {d0 : Option Value} {c : Nat × Nat} (hc0 : c.1 ≤ 0 ∧ c.2 ≤ 0) (h0 : fX11_direction_b33 fu sh R I l1 l2 s0 = some o) : V K J 208 33 [d0, some (.int l1), some (.int l2)] [.ref s0] sh I R c F := by
  unfold fX11_direction_b33 at h0
  refine s_c (v := 0) (pc' := 34) (by decide +kernel) ?_
  exact (vX11_direction_b34 hF) hc0 h0
set_option maxRecDepth 100000 in
set_option maxHeartbeats 4000000 in
def fX11_direction (fu : Nat) (sh : HS) (I : HI) (R : HR) (l0 : Nat) (l1 : Int32) (l2 : Int32) : Option (Int32 × HI) :=
  if isT sh l0 9 = true then
    ((fX11_isIn fu sh I R (l1.toInt64) (-199) 199).bind fun v1 =>
    if v1 = 0 then
      ((fX11_direction_b33 fu sh R) I l1 l2 l0)
    else
      ((fX11_isIn fu sh I R (l2.toInt64) (-199) 199).bind fun v4 =>
      if v4 = 0 then
        ((fX11_direction_b33 fu sh R) I l1 l2 l0)
      else
        ((fX11_direction_b34 fu sh R) I l1 l2 1 l0)))
  else none
set_option maxRecDepth 100000 in
set_option maxHeartbeats 4000000 in
theorem vX11_direction {K J : Nat → Nat} {fu : Nat} {sh : HS} {I : HI} {R : HR} {F : VF} {o : (Int32 × HI)} (hF : F (.inl (some (.int o.1))) sh o.2 R) {l0 : Nat} {l1 : Int32} {l2 : Int32} (h0 : fX11_direction fu sh I R l0 l1 l2 = some o) : V K J 208 0 (ent 3 [.ref l0, .int l1, .int l2]) [] sh I R (0, 0) F := by
  unfold fX11_direction at h0
  obtain ⟨-, h1⟩ := gd h0; clear h0
  have hc0 : ((0 : Nat), (0 : Nat)).1 ≤ 0 ∧ ((0 : Nat), (0 : Nat)).2 ≤ 0 := ⟨Nat.le_refl _, Nat.le_refl _⟩
  show V K J 208 0 [some (.ref l0), some (.int l1), some (.int l2)] [] sh I R (0, 0) F
  refine s_rl (i := 0) (pc' := 1) (by decide +kernel) rfl ?_
  refine s_il (i := 1) (pc' := 2) (by decide +kernel) rfl ?_
  refine s_a (ins := .i2l) (pc' := 3) (by decide +kernel) rfl ?_
  refine s_cJ (v := (-199)) (pc' := 6) (by decide +kernel) ?_
  refine s_cJ (v := 199) (pc' := 9) (by decide +kernel) ?_
  refine kX11_isIn (X := 0) (Y := 0) (X' := 0) (Y' := 0) (pc' := 12) (by decide +kernel) hc0 rfl h1 (fun v1 c hc1 h2 => ?_); clear h1 hc0
  refine s_if (ins := .ifCond .eq 21) (t := 33) (pc' := 15) (by decide +kernel) rfl rfl rfl h2 (fun p3 h3 => ?_) (fun p3 h3 => ?_) <;> clear h2
  · exact (vX11_direction_b33 hF) hc1 h3
  · refine s_il (i := 2) (pc' := 16) (by decide +kernel) rfl ?_
    refine s_a (ins := .i2l) (pc' := 17) (by decide +kernel) rfl ?_
    refine s_cJ (v := (-199)) (pc' := 20) (by decide +kernel) ?_
    refine s_cJ (v := 199) (pc' := 23) (by decide +kernel) ?_
    refine kX11_isIn (X := 0) (Y := 0) (X' := 0) (Y' := 0) (pc' := 26) (by decide +kernel) hc1 rfl h3 (fun v4 c hc2 h4 => ?_); clear h3 hc1
    refine s_if (ins := .ifCond .eq 7) (t := 33) (pc' := 29) (by decide +kernel) rfl rfl rfl h4 (fun p5 h5 => ?_) (fun p5 h5 => ?_) <;> clear h4
    · exact (vX11_direction_b33 hF) hc2 h5
    · refine s_c (v := 1) (pc' := 30) (by decide +kernel) ?_
      refine s_go (t := 34) (by decide +kernel) ?_
      exact (vX11_direction_b34 hF) hc2 h5
set_option maxRecDepth 100000 in
set_option maxHeartbeats 4000000 in
theorem kX11_direction {K J : Nat → Nat} {fu : Nat} {sh : HS} {I : HI} {R : HR} {F : VF} {mi pc pc' X Y X' Y' : Nat} {L : VL} {rest : List Value} {c : Nat × Nat} {l0 : Nat} {l1 : Int32} {l2 : Int32} {ω : Type} {o : ω} {g : Int32 → HI → Option ω} (hq : cQ mi pc 208 3 pc' X Y X' Y' = true) (hc : c.1 ≤ X ∧ c.2 ≤ Y) (hr : Nat.ble (catS rest) 8 = true) (h : oH (fX11_direction fu sh I R l0 l1 l2) g = some o) (kk : ∀ v w c', (c'.1 ≤ X' ∧ c'.2 ≤ Y') → g v w = some o → V K J mi pc' L ((.int v) :: rest) sh w R c' F) : V K J mi pc L (.int l2 :: .int l1 :: .ref l0 :: rest) sh I R c F := by
  obtain ⟨r, h1, h2⟩ := bnd h
  have hT : isT sh l0 9 = true := by unfold fX11_direction at h1; exact (gd h1).1
  have ml : mL 208 = 3 := by decide +kernel
  have mk : mK 208 = 1 := by decide +kernel
  have mc : mC 208 = 9 := by decide +kernel
  obtain ⟨v, w⟩ := r
  refine s_call (as := [.int l2, .int l1, .ref l0]) (G := fun o' sh' I' R' => o' = .inl (some (.int v)) ∧ sh' = sh ∧ I' = w ∧ R' = R) hq hc rfl hr (by rw [ml]; rfl) (Or.inl rfl) (fun _ => Or.inl ⟨by rw [mc]; decide, by rw [mc]; exact isT_iff.mp hT⟩) (fun z => absurd (mk.symm.trans z) (by decide)) (by rw [ml]; exact vX11_direction (F := fun o' sh' I' R' => o' = .inl (some (.int v)) ∧ sh' = sh ∧ I' = w ∧ R' = R) ⟨rfl, rfl, rfl, rfl⟩ h1) ?_ ?_ ?_
  · rintro sh' I' R' c' hc' ⟨g1, rfl, rfl, rfl⟩
    cases g1
  · rintro v' sh' I' R' c' hc' ⟨g1, rfl, rfl, rfl⟩
    cases g1
    exact kk _ _ _ hc' h2
  · rintro E' sh' I' R' ⟨g1, rfl, rfl, rfl⟩
    cases g1
set_option maxRecDepth 100000 in
set_option maxHeartbeats 4000000 in
def fX11_view_b21 (fu : Nat) (sh : HS) (R : HR) (I : HI) (s0 : Int32) : Option (Int32 × HI) :=
  some (s0, I)
set_option maxRecDepth 100000 in
set_option maxHeartbeats 4000000 in
theorem vX11_view_b21 {K J : Nat → Nat} {fu : Nat} {sh : HS} {R : HR} {F : VF} {o : (Int32 × HI)} (hF : F (.inl (some (.int o.1))) sh o.2 R) {I : HI} {s0 : Int32} {d0 d1 : Option Value} {c : Nat × Nat} (hc0 : c.1 ≤ 0 ∧ c.2 ≤ 0) (h0 : fX11_view_b21 fu sh R I s0 = some o) : V K J 209 21 [d0, d1] [.int s0] sh I R c F := by
  unfold fX11_view_b21 at h0
  have e9 := Option.some.inj h0; subst e9
  exact s_ri (X := 0) (Y := 0) (by decide +kernel) hc0 hF
set_option maxRecDepth 100000 in
set_option maxHeartbeats 4000000 in
def fX11_view (fu : Nat) (sh : HS) (I : HI) (R : HR) (l0 : Nat) (l1 : Int32) : Option (Int32 × HI) :=
  if isT sh l0 9 = true then
    ((fX11_isShot fu sh I R l0 l1).bind fun v1 =>
    oH (fX11_isWrong fu sh I R l0 v1) fun v2 w2 =>
    if v2 = 0 then
      ((fX11_viewOf fu sh w2 R l0 l1).bind fun v3 =>
      (fX11_view_b21 fu sh R) w2 v3)
    else
      ((fX11_view_b21 fu sh R) w2 0))
  else none
set_option maxRecDepth 100000 in
set_option maxHeartbeats 4000000 in
theorem vX11_view {K J : Nat → Nat} {fu : Nat} {sh : HS} {I : HI} {R : HR} {F : VF} {o : (Int32 × HI)} (hF : F (.inl (some (.int o.1))) sh o.2 R) {l0 : Nat} {l1 : Int32} (h0 : fX11_view fu sh I R l0 l1 = some o) : V K J 209 0 (ent 2 [.ref l0, .int l1]) [] sh I R (0, 0) F := by
  unfold fX11_view at h0
  obtain ⟨-, h1⟩ := gd h0; clear h0
  have hc0 : ((0 : Nat), (0 : Nat)).1 ≤ 0 ∧ ((0 : Nat), (0 : Nat)).2 ≤ 0 := ⟨Nat.le_refl _, Nat.le_refl _⟩
  show V K J 209 0 [some (.ref l0), some (.int l1)] [] sh I R (0, 0) F
  refine s_rl (i := 0) (pc' := 1) (by decide +kernel) rfl ?_
  refine s_rl (i := 0) (pc' := 2) (by decide +kernel) rfl ?_
  refine s_il (i := 1) (pc' := 3) (by decide +kernel) rfl ?_
  refine kX11_isShot (X := 0) (Y := 0) (X' := 0) (Y' := 0) (pc' := 6) (by decide +kernel) hc0 rfl h1 (fun v1 c hc1 h2 => ?_); clear h1 hc0
  refine kX11_isWrong (X := 0) (Y := 0) (X' := 0) (Y' := 0) (pc' := 9) (by decide +kernel) hc1 rfl h2 (fun v2 w2 c hc2 h3 => ?_); clear h2 hc1
  refine s_if (ins := .ifCond .eq 7) (t := 16) (pc' := 12) (by decide +kernel) rfl rfl rfl h3 (fun p4 h4 => ?_) (fun p4 h4 => ?_) <;> clear h3
  · refine s_rl (i := 0) (pc' := 17) (by decide +kernel) rfl ?_
    refine s_il (i := 1) (pc' := 18) (by decide +kernel) rfl ?_
    refine kX11_viewOf (X := 0) (Y := 0) (X' := 0) (Y' := 0) (pc' := 21) (by decide +kernel) hc2 rfl h4 (fun v3 c hc3 h5 => ?_); clear h4 hc2
    exact (vX11_view_b21 hF) hc3 h5
  · refine s_c (v := 0) (pc' := 13) (by decide +kernel) ?_
    refine s_go (t := 21) (by decide +kernel) ?_
    exact (vX11_view_b21 hF) hc2 h4
set_option maxRecDepth 100000 in
set_option maxHeartbeats 4000000 in
theorem kX11_view {K J : Nat → Nat} {fu : Nat} {sh : HS} {I : HI} {R : HR} {F : VF} {mi pc pc' X Y X' Y' : Nat} {L : VL} {rest : List Value} {c : Nat × Nat} {l0 : Nat} {l1 : Int32} {ω : Type} {o : ω} {g : Int32 → HI → Option ω} (hq : cQ mi pc 209 2 pc' X Y X' Y' = true) (hc : c.1 ≤ X ∧ c.2 ≤ Y) (hr : Nat.ble (catS rest) 8 = true) (h : oH (fX11_view fu sh I R l0 l1) g = some o) (kk : ∀ v w c', (c'.1 ≤ X' ∧ c'.2 ≤ Y') → g v w = some o → V K J mi pc' L ((.int v) :: rest) sh w R c' F) : V K J mi pc L (.int l1 :: .ref l0 :: rest) sh I R c F := by
  obtain ⟨r, h1, h2⟩ := bnd h
  have hT : isT sh l0 9 = true := by unfold fX11_view at h1; exact (gd h1).1
  have ml : mL 209 = 2 := by decide +kernel
  have mk : mK 209 = 1 := by decide +kernel
  have mc : mC 209 = 9 := by decide +kernel
  obtain ⟨v, w⟩ := r
  refine s_call (as := [.int l1, .ref l0]) (G := fun o' sh' I' R' => o' = .inl (some (.int v)) ∧ sh' = sh ∧ I' = w ∧ R' = R) hq hc rfl hr (by rw [ml]; rfl) (Or.inl rfl) (fun _ => Or.inl ⟨by rw [mc]; decide, by rw [mc]; exact isT_iff.mp hT⟩) (fun z => absurd (mk.symm.trans z) (by decide)) (by rw [ml]; exact vX11_view (F := fun o' sh' I' R' => o' = .inl (some (.int v)) ∧ sh' = sh ∧ I' = w ∧ R' = R) ⟨rfl, rfl, rfl, rfl⟩ h1) ?_ ?_ ?_
  · rintro sh' I' R' c' hc' ⟨g1, rfl, rfl, rfl⟩
    cases g1
  · rintro v' sh' I' R' c' hc' ⟨g1, rfl, rfl, rfl⟩
    cases g1
    exact kk _ _ _ hc' h2
  · rintro E' sh' I' R' ⟨g1, rfl, rfl, rfl⟩
    cases g1
set_option maxRecDepth 100000 in
set_option maxHeartbeats 4000000 in
def fX11_side_b21 (fu : Nat) (sh : HS) (R : HR) (I : HI) (s0 : Int32) : Option (Int32 × HI) :=
  some (s0, I)
set_option maxRecDepth 100000 in
set_option maxHeartbeats 4000000 in
theorem vX11_side_b21 {K J : Nat → Nat} {fu : Nat} {sh : HS} {R : HR} {F : VF} {o : (Int32 × HI)} (hF : F (.inl (some (.int o.1))) sh o.2 R) {I : HI} {s0 : Int32} {d0 d1 : Option Value} {c : Nat × Nat} (hc0 : c.1 ≤ 0 ∧ c.2 ≤ 0) (h0 : fX11_side_b21 fu sh R I s0 = some o) : V K J 210 21 [d0, d1] [.int s0] sh I R c F := by
  unfold fX11_side_b21 at h0
  have e9 := Option.some.inj h0; subst e9
  exact s_ri (X := 0) (Y := 0) (by decide +kernel) hc0 hF
set_option maxRecDepth 100000 in
set_option maxHeartbeats 4000000 in
def fX11_side (fu : Nat) (sh : HS) (I : HI) (R : HR) (l0 : Nat) (l1 : Int32) : Option (Int32 × HI) :=
  if isT sh l0 9 = true then
    ((fX11_isShot fu sh I R l0 l1).bind fun v1 =>
    oH (fX11_isWrong fu sh I R l0 v1) fun v2 w2 =>
    if v2 = 0 then
      ((fX11_sideOf fu sh w2 R l0 l1).bind fun v3 =>
      (fX11_side_b21 fu sh R) w2 v3)
    else
      ((fX11_side_b21 fu sh R) w2 0))
  else none
set_option maxRecDepth 100000 in
set_option maxHeartbeats 4000000 in
theorem vX11_side {K J : Nat → Nat} {fu : Nat} {sh : HS} {I : HI} {R : HR} {F : VF} {o : (Int32 × HI)} (hF : F (.inl (some (.int o.1))) sh o.2 R) {l0 : Nat} {l1 : Int32} (h0 : fX11_side fu sh I R l0 l1 = some o) : V K J 210 0 (ent 2 [.ref l0, .int l1]) [] sh I R (0, 0) F := by
  unfold fX11_side at h0
  obtain ⟨-, h1⟩ := gd h0; clear h0
  have hc0 : ((0 : Nat), (0 : Nat)).1 ≤ 0 ∧ ((0 : Nat), (0 : Nat)).2 ≤ 0 := ⟨Nat.le_refl _, Nat.le_refl _⟩
  show V K J 210 0 [some (.ref l0), some (.int l1)] [] sh I R (0, 0) F
  refine s_rl (i := 0) (pc' := 1) (by decide +kernel) rfl ?_
  refine s_rl (i := 0) (pc' := 2) (by decide +kernel) rfl ?_
  refine s_il (i := 1) (pc' := 3) (by decide +kernel) rfl ?_
  refine kX11_isShot (X := 0) (Y := 0) (X' := 0) (Y' := 0) (pc' := 6) (by decide +kernel) hc0 rfl h1 (fun v1 c hc1 h2 => ?_); clear h1 hc0
  refine kX11_isWrong (X := 0) (Y := 0) (X' := 0) (Y' := 0) (pc' := 9) (by decide +kernel) hc1 rfl h2 (fun v2 w2 c hc2 h3 => ?_); clear h2 hc1
  refine s_if (ins := .ifCond .eq 7) (t := 16) (pc' := 12) (by decide +kernel) rfl rfl rfl h3 (fun p4 h4 => ?_) (fun p4 h4 => ?_) <;> clear h3
  · refine s_rl (i := 0) (pc' := 17) (by decide +kernel) rfl ?_
    refine s_il (i := 1) (pc' := 18) (by decide +kernel) rfl ?_
    refine kX11_sideOf (X := 0) (Y := 0) (X' := 0) (Y' := 0) (pc' := 21) (by decide +kernel) hc2 rfl h4 (fun v3 c hc3 h5 => ?_); clear h4 hc2
    exact (vX11_side_b21 hF) hc3 h5
  · refine s_c (v := 0) (pc' := 13) (by decide +kernel) ?_
    refine s_go (t := 21) (by decide +kernel) ?_
    exact (vX11_side_b21 hF) hc2 h4
set_option maxRecDepth 100000 in
set_option maxHeartbeats 4000000 in
theorem kX11_side {K J : Nat → Nat} {fu : Nat} {sh : HS} {I : HI} {R : HR} {F : VF} {mi pc pc' X Y X' Y' : Nat} {L : VL} {rest : List Value} {c : Nat × Nat} {l0 : Nat} {l1 : Int32} {ω : Type} {o : ω} {g : Int32 → HI → Option ω} (hq : cQ mi pc 210 2 pc' X Y X' Y' = true) (hc : c.1 ≤ X ∧ c.2 ≤ Y) (hr : Nat.ble (catS rest) 8 = true) (h : oH (fX11_side fu sh I R l0 l1) g = some o) (kk : ∀ v w c', (c'.1 ≤ X' ∧ c'.2 ≤ Y') → g v w = some o → V K J mi pc' L ((.int v) :: rest) sh w R c' F) : V K J mi pc L (.int l1 :: .ref l0 :: rest) sh I R c F := by
  obtain ⟨r, h1, h2⟩ := bnd h
  have hT : isT sh l0 9 = true := by unfold fX11_side at h1; exact (gd h1).1
  have ml : mL 210 = 2 := by decide +kernel
  have mk : mK 210 = 1 := by decide +kernel
  have mc : mC 210 = 9 := by decide +kernel
  obtain ⟨v, w⟩ := r
  refine s_call (as := [.int l1, .ref l0]) (G := fun o' sh' I' R' => o' = .inl (some (.int v)) ∧ sh' = sh ∧ I' = w ∧ R' = R) hq hc rfl hr (by rw [ml]; rfl) (Or.inl rfl) (fun _ => Or.inl ⟨by rw [mc]; decide, by rw [mc]; exact isT_iff.mp hT⟩) (fun z => absurd (mk.symm.trans z) (by decide)) (by rw [ml]; exact vX11_side (F := fun o' sh' I' R' => o' = .inl (some (.int v)) ∧ sh' = sh ∧ I' = w ∧ R' = R) ⟨rfl, rfl, rfl, rfl⟩ h1) ?_ ?_ ?_
  · rintro sh' I' R' c' hc' ⟨g1, rfl, rfl, rfl⟩
    cases g1
  · rintro v' sh' I' R' c' hc' ⟨g1, rfl, rfl, rfl⟩
    cases g1
    exact kk _ _ _ hc' h2
  · rintro E' sh' I' R' ⟨g1, rfl, rfl, rfl⟩
    cases g1
set_option maxRecDepth 100000 in
set_option maxHeartbeats 4000000 in
def fX11_look_b21 (fu : Nat) (sh : HS) (R : HR) (I : HI) (s0 : Int32) : Option (Int32 × HI) :=
  some (s0, I)
set_option maxRecDepth 100000 in
set_option maxHeartbeats 4000000 in
theorem vX11_look_b21 {K J : Nat → Nat} {fu : Nat} {sh : HS} {R : HR} {F : VF} {o : (Int32 × HI)} (hF : F (.inl (some (.int o.1))) sh o.2 R) {I : HI} {s0 : Int32} {d0 d1 : Option Value} {c : Nat × Nat} (hc0 : c.1 ≤ 0 ∧ c.2 ≤ 0) (h0 : fX11_look_b21 fu sh R I s0 = some o) : V K J 211 21 [d0, d1] [.int s0] sh I R c F := by
  unfold fX11_look_b21 at h0
  have e9 := Option.some.inj h0; subst e9
  exact s_ri (X := 0) (Y := 0) (by decide +kernel) hc0 hF
set_option maxRecDepth 100000 in
set_option maxHeartbeats 4000000 in
def fX11_look (fu : Nat) (sh : HS) (I : HI) (R : HR) (l0 : Nat) (l1 : Int32) : Option (Int32 × HI) :=
  if isT sh l0 9 = true then
    ((fX11_isShot fu sh I R l0 l1).bind fun v1 =>
    oH (fX11_isWrong fu sh I R l0 v1) fun v2 w2 =>
    if v2 = 0 then
      ((fX11_lookOf fu sh w2 R l0 l1).bind fun v3 =>
      (fX11_look_b21 fu sh R) w2 v3)
    else
      ((fX11_look_b21 fu sh R) w2 0))
  else none
set_option maxRecDepth 100000 in
set_option maxHeartbeats 4000000 in
theorem vX11_look {K J : Nat → Nat} {fu : Nat} {sh : HS} {I : HI} {R : HR} {F : VF} {o : (Int32 × HI)} (hF : F (.inl (some (.int o.1))) sh o.2 R) {l0 : Nat} {l1 : Int32} (h0 : fX11_look fu sh I R l0 l1 = some o) : V K J 211 0 (ent 2 [.ref l0, .int l1]) [] sh I R (0, 0) F := by
  unfold fX11_look at h0
  obtain ⟨-, h1⟩ := gd h0; clear h0
  have hc0 : ((0 : Nat), (0 : Nat)).1 ≤ 0 ∧ ((0 : Nat), (0 : Nat)).2 ≤ 0 := ⟨Nat.le_refl _, Nat.le_refl _⟩
  show V K J 211 0 [some (.ref l0), some (.int l1)] [] sh I R (0, 0) F
  refine s_rl (i := 0) (pc' := 1) (by decide +kernel) rfl ?_
  refine s_rl (i := 0) (pc' := 2) (by decide +kernel) rfl ?_
  refine s_il (i := 1) (pc' := 3) (by decide +kernel) rfl ?_
  refine kX11_isShot (X := 0) (Y := 0) (X' := 0) (Y' := 0) (pc' := 6) (by decide +kernel) hc0 rfl h1 (fun v1 c hc1 h2 => ?_); clear h1 hc0
  refine kX11_isWrong (X := 0) (Y := 0) (X' := 0) (Y' := 0) (pc' := 9) (by decide +kernel) hc1 rfl h2 (fun v2 w2 c hc2 h3 => ?_); clear h2 hc1
  refine s_if (ins := .ifCond .eq 7) (t := 16) (pc' := 12) (by decide +kernel) rfl rfl rfl h3 (fun p4 h4 => ?_) (fun p4 h4 => ?_) <;> clear h3
  · refine s_rl (i := 0) (pc' := 17) (by decide +kernel) rfl ?_
    refine s_il (i := 1) (pc' := 18) (by decide +kernel) rfl ?_
    refine kX11_lookOf (X := 0) (Y := 0) (X' := 0) (Y' := 0) (pc' := 21) (by decide +kernel) hc2 rfl h4 (fun v3 c hc3 h5 => ?_); clear h4 hc2
    exact (vX11_look_b21 hF) hc3 h5
  · refine s_c (v := 0) (pc' := 13) (by decide +kernel) ?_
    refine s_go (t := 21) (by decide +kernel) ?_
    exact (vX11_look_b21 hF) hc2 h4
set_option maxRecDepth 100000 in
set_option maxHeartbeats 4000000 in
theorem kX11_look {K J : Nat → Nat} {fu : Nat} {sh : HS} {I : HI} {R : HR} {F : VF} {mi pc pc' X Y X' Y' : Nat} {L : VL} {rest : List Value} {c : Nat × Nat} {l0 : Nat} {l1 : Int32} {ω : Type} {o : ω} {g : Int32 → HI → Option ω} (hq : cQ mi pc 211 2 pc' X Y X' Y' = true) (hc : c.1 ≤ X ∧ c.2 ≤ Y) (hr : Nat.ble (catS rest) 8 = true) (h : oH (fX11_look fu sh I R l0 l1) g = some o) (kk : ∀ v w c', (c'.1 ≤ X' ∧ c'.2 ≤ Y') → g v w = some o → V K J mi pc' L ((.int v) :: rest) sh w R c' F) : V K J mi pc L (.int l1 :: .ref l0 :: rest) sh I R c F := by
  obtain ⟨r, h1, h2⟩ := bnd h
  have hT : isT sh l0 9 = true := by unfold fX11_look at h1; exact (gd h1).1
  have ml : mL 211 = 2 := by decide +kernel
  have mk : mK 211 = 1 := by decide +kernel
  have mc : mC 211 = 9 := by decide +kernel
  obtain ⟨v, w⟩ := r
  refine s_call (as := [.int l1, .ref l0]) (G := fun o' sh' I' R' => o' = .inl (some (.int v)) ∧ sh' = sh ∧ I' = w ∧ R' = R) hq hc rfl hr (by rw [ml]; rfl) (Or.inl rfl) (fun _ => Or.inl ⟨by rw [mc]; decide, by rw [mc]; exact isT_iff.mp hT⟩) (fun z => absurd (mk.symm.trans z) (by decide)) (by rw [ml]; exact vX11_look (F := fun o' sh' I' R' => o' = .inl (some (.int v)) ∧ sh' = sh ∧ I' = w ∧ R' = R) ⟨rfl, rfl, rfl, rfl⟩ h1) ?_ ?_ ?_
  · rintro sh' I' R' c' hc' ⟨g1, rfl, rfl, rfl⟩
    cases g1
  · rintro v' sh' I' R' c' hc' ⟨g1, rfl, rfl, rfl⟩
    cases g1
    exact kk _ _ _ hc' h2
  · rintro E' sh' I' R' ⟨g1, rfl, rfl, rfl⟩
    cases g1
set_option maxRecDepth 100000 in
set_option maxHeartbeats 4000000 in
def fX11_visible_b21 (fu : Nat) (sh : HS) (R : HR) (I : HI) (s0 : Int32) : Option (Int32 × HI) :=
  some (s0, I)
set_option maxRecDepth 100000 in
set_option maxHeartbeats 4000000 in
theorem vX11_visible_b21 {K J : Nat → Nat} {fu : Nat} {sh : HS} {R : HR} {F : VF} {o : (Int32 × HI)} (hF : F (.inl (some (.int o.1))) sh o.2 R) {I : HI} {s0 : Int32} {d0 d1 : Option Value} {c : Nat × Nat} (hc0 : c.1 ≤ 0 ∧ c.2 ≤ 0) (h0 : fX11_visible_b21 fu sh R I s0 = some o) : V K J 212 21 [d0, d1] [.int s0] sh I R c F := by
  unfold fX11_visible_b21 at h0
  have e9 := Option.some.inj h0; subst e9
  exact s_ri (X := 0) (Y := 0) (by decide +kernel) hc0 hF
set_option maxRecDepth 100000 in
set_option maxHeartbeats 4000000 in
def fX11_visible (fu : Nat) (sh : HS) (I : HI) (R : HR) (l0 : Nat) (l1 : Int32) : Option (Int32 × HI) :=
  if isT sh l0 9 = true then
    ((fX11_isShot fu sh I R l0 l1).bind fun v1 =>
    oH (fX11_isWrong fu sh I R l0 v1) fun v2 w2 =>
    if v2 = 0 then
      ((fX11_visibleIn fu sh w2 R l0 l1).bind fun v3 =>
      (fX11_visible_b21 fu sh R) w2 v3)
    else
      ((fX11_visible_b21 fu sh R) w2 0))
  else none
set_option maxRecDepth 100000 in
set_option maxHeartbeats 4000000 in
theorem vX11_visible {K J : Nat → Nat} {fu : Nat} {sh : HS} {I : HI} {R : HR} {F : VF} {o : (Int32 × HI)} (hF : F (.inl (some (.int o.1))) sh o.2 R) {l0 : Nat} {l1 : Int32} (h0 : fX11_visible fu sh I R l0 l1 = some o) : V K J 212 0 (ent 2 [.ref l0, .int l1]) [] sh I R (0, 0) F := by
  unfold fX11_visible at h0
  obtain ⟨-, h1⟩ := gd h0; clear h0
  have hc0 : ((0 : Nat), (0 : Nat)).1 ≤ 0 ∧ ((0 : Nat), (0 : Nat)).2 ≤ 0 := ⟨Nat.le_refl _, Nat.le_refl _⟩
  show V K J 212 0 [some (.ref l0), some (.int l1)] [] sh I R (0, 0) F
  refine s_rl (i := 0) (pc' := 1) (by decide +kernel) rfl ?_
  refine s_rl (i := 0) (pc' := 2) (by decide +kernel) rfl ?_
  refine s_il (i := 1) (pc' := 3) (by decide +kernel) rfl ?_
  refine kX11_isShot (X := 0) (Y := 0) (X' := 0) (Y' := 0) (pc' := 6) (by decide +kernel) hc0 rfl h1 (fun v1 c hc1 h2 => ?_); clear h1 hc0
  refine kX11_isWrong (X := 0) (Y := 0) (X' := 0) (Y' := 0) (pc' := 9) (by decide +kernel) hc1 rfl h2 (fun v2 w2 c hc2 h3 => ?_); clear h2 hc1
  refine s_if (ins := .ifCond .eq 7) (t := 16) (pc' := 12) (by decide +kernel) rfl rfl rfl h3 (fun p4 h4 => ?_) (fun p4 h4 => ?_) <;> clear h3
  · refine s_rl (i := 0) (pc' := 17) (by decide +kernel) rfl ?_
    refine s_il (i := 1) (pc' := 18) (by decide +kernel) rfl ?_
    refine kX11_visibleIn (X := 0) (Y := 0) (X' := 0) (Y' := 0) (pc' := 21) (by decide +kernel) hc2 rfl h4 (fun v3 c hc3 h5 => ?_); clear h4 hc2
    exact (vX11_visible_b21 hF) hc3 h5
  · refine s_c (v := 0) (pc' := 13) (by decide +kernel) ?_
    refine s_go (t := 21) (by decide +kernel) ?_
    exact (vX11_visible_b21 hF) hc2 h4
set_option maxRecDepth 100000 in
set_option maxHeartbeats 4000000 in
theorem kX11_visible {K J : Nat → Nat} {fu : Nat} {sh : HS} {I : HI} {R : HR} {F : VF} {mi pc pc' X Y X' Y' : Nat} {L : VL} {rest : List Value} {c : Nat × Nat} {l0 : Nat} {l1 : Int32} {ω : Type} {o : ω} {g : Int32 → HI → Option ω} (hq : cQ mi pc 212 2 pc' X Y X' Y' = true) (hc : c.1 ≤ X ∧ c.2 ≤ Y) (hr : Nat.ble (catS rest) 8 = true) (h : oH (fX11_visible fu sh I R l0 l1) g = some o) (kk : ∀ v w c', (c'.1 ≤ X' ∧ c'.2 ≤ Y') → g v w = some o → V K J mi pc' L ((.int v) :: rest) sh w R c' F) : V K J mi pc L (.int l1 :: .ref l0 :: rest) sh I R c F := by
  obtain ⟨r, h1, h2⟩ := bnd h
  have hT : isT sh l0 9 = true := by unfold fX11_visible at h1; exact (gd h1).1
  have ml : mL 212 = 2 := by decide +kernel
  have mk : mK 212 = 1 := by decide +kernel
  have mc : mC 212 = 9 := by decide +kernel
  obtain ⟨v, w⟩ := r
  refine s_call (as := [.int l1, .ref l0]) (G := fun o' sh' I' R' => o' = .inl (some (.int v)) ∧ sh' = sh ∧ I' = w ∧ R' = R) hq hc rfl hr (by rw [ml]; rfl) (Or.inl rfl) (fun _ => Or.inl ⟨by rw [mc]; decide, by rw [mc]; exact isT_iff.mp hT⟩) (fun z => absurd (mk.symm.trans z) (by decide)) (by rw [ml]; exact vX11_visible (F := fun o' sh' I' R' => o' = .inl (some (.int v)) ∧ sh' = sh ∧ I' = w ∧ R' = R) ⟨rfl, rfl, rfl, rfl⟩ h1) ?_ ?_ ?_
  · rintro sh' I' R' c' hc' ⟨g1, rfl, rfl, rfl⟩
    cases g1
  · rintro v' sh' I' R' c' hc' ⟨g1, rfl, rfl, rfl⟩
    cases g1
    exact kk _ _ _ hc' h2
  · rintro E' sh' I' R' ⟨g1, rfl, rfl, rfl⟩
    cases g1
set_option maxRecDepth 100000 in
set_option maxHeartbeats 4000000 in
def fX11_eyeline_b60 (fu : Nat) (sh : HS) (R : HR) (I : HI) (l0 : Nat) (l1 : Int32) (l2 : Int32) (l3 : Int32) : Option (Int32 × HI) :=
  (fX11_directionOf fu sh I R l2 l3).bind fun v8 =>
  (fX11_get fu sh I R l0 l1 1).bind fun v9 =>
  (fX11_subjectX fu sh I R l0 l1).bind fun v10 =>
  (fX11_get fu sh I R l0 l1 2).bind fun v11 =>
  (fX11_subjectY fu sh I R l0 l1).bind fun v12 =>
  (fX11_directionOf fu sh I R (v9 - v10) (v11 - v12)).bind fun v13 =>
  (fX11_turnOf fu sh I R v8 v13).bind fun v14 =>
  some (v14, I)
set_option maxRecDepth 100000 in
set_option maxHeartbeats 4000000 in
theorem vX11_eyeline_b60 {K J : Nat → Nat} {fu : Nat} {sh : HS} {R : HR} {F : VF} {o : (Int32 × HI)} (hF : F (.inl (some (.int o.1))) sh o.2 R) {I : HI} {l0 : Nat} {l1 : Int32} {l2 : Int32} {l3 : Int32} {c : Nat × Nat} (hc0 : c.1 ≤ 0 ∧ c.2 ≤ 0) (h0 : fX11_eyeline_b60 fu sh R I l0 l1 l2 l3 = some o) : V K J 213 60 [some (.ref l0), some (.int l1), some (.int l2), some (.int l3)] [] sh I R c F := by
  unfold fX11_eyeline_b60 at h0
  refine s_il (i := 2) (pc' := 61) (by decide +kernel) rfl ?_
  refine s_il (i := 3) (pc' := 62) (by decide +kernel) rfl ?_
  refine kX11_directionOf (X := 0) (Y := 0) (X' := 0) (Y' := 0) (pc' := 65) (by decide +kernel) hc0 rfl h0 (fun v8 c hc1 h1 => ?_); clear h0 hc0
  refine s_rl (i := 0) (pc' := 66) (by decide +kernel) rfl ?_
  refine s_il (i := 1) (pc' := 67) (by decide +kernel) rfl ?_
  refine s_c (v := 1) (pc' := 68) (by decide +kernel) ?_
  refine kX11_get (X := 0) (Y := 0) (X' := 0) (Y' := 0) (pc' := 71) (by decide +kernel) hc1 rfl h1 (fun v9 c hc2 h2 => ?_); clear h1 hc1
  refine s_rl (i := 0) (pc' := 72) (by decide +kernel) rfl ?_
  refine s_il (i := 1) (pc' := 73) (by decide +kernel) rfl ?_
  refine kX11_subjectX (X := 0) (Y := 0) (X' := 0) (Y' := 0) (pc' := 76) (by decide +kernel) hc2 rfl h2 (fun v10 c hc3 h3 => ?_); clear h2 hc2
  refine s_a (ins := .isub) (pc' := 77) (by decide +kernel) rfl ?_
  refine s_rl (i := 0) (pc' := 78) (by decide +kernel) rfl ?_
  refine s_il (i := 1) (pc' := 79) (by decide +kernel) rfl ?_
  refine s_c (v := 2) (pc' := 80) (by decide +kernel) ?_
  refine kX11_get (X := 0) (Y := 0) (X' := 0) (Y' := 0) (pc' := 83) (by decide +kernel) hc3 rfl h3 (fun v11 c hc4 h4 => ?_); clear h3 hc3
  refine s_rl (i := 0) (pc' := 84) (by decide +kernel) rfl ?_
  refine s_il (i := 1) (pc' := 85) (by decide +kernel) rfl ?_
  refine kX11_subjectY (X := 0) (Y := 0) (X' := 0) (Y' := 0) (pc' := 88) (by decide +kernel) hc4 rfl h4 (fun v12 c hc5 h5 => ?_); clear h4 hc4
  refine s_a (ins := .isub) (pc' := 89) (by decide +kernel) rfl ?_
  refine kX11_directionOf (X := 0) (Y := 0) (X' := 0) (Y' := 0) (pc' := 92) (by decide +kernel) hc5 rfl h5 (fun v13 c hc6 h6 => ?_); clear h5 hc5
  refine kX11_turnOf (X := 0) (Y := 0) (X' := 0) (Y' := 0) (pc' := 95) (by decide +kernel) hc6 rfl h6 (fun v14 c hc7 h7 => ?_); clear h6 hc6
  have e9 := Option.some.inj h7; subst e9
  exact s_ri (X := 0) (Y := 0) (by decide +kernel) hc7 hF
set_option maxRecDepth 100000 in
set_option maxHeartbeats 4000000 in
def fX11_eyeline (fu : Nat) (sh : HS) (I : HI) (R : HR) (l0 : Nat) (l1 : Int32) : Option (Int32 × HI) :=
  if isT sh l0 9 = true then
    ((fX11_isShot fu sh I R l0 l1).bind fun v1 =>
    oH (fX11_isWrong fu sh I R l0 v1) fun v2 w2 =>
    if v2 = 0 then
      ((fX11_hasPartner fu sh w2 R l0 l1).bind fun v3 =>
      if v3 = 0 then
        (some ((-2), w2))
      else
        ((fX11_partnerX fu sh w2 R l0 l1).bind fun v4 =>
        (fX11_subjectX fu sh w2 R l0 l1).bind fun v5 =>
        (fX11_partnerY fu sh w2 R l0 l1).bind fun v6 =>
        (fX11_subjectY fu sh w2 R l0 l1).bind fun v7 =>
        if (v4 - v5) = 0 then
          (if (v6 - v7) = 0 then
            (some ((-3), w2))
          else
            ((fX11_eyeline_b60 fu sh R) w2 l0 l1 (v4 - v5) (v6 - v7)))
        else
          ((fX11_eyeline_b60 fu sh R) w2 l0 l1 (v4 - v5) (v6 - v7))))
    else
      (some (0, w2)))
  else none
set_option maxRecDepth 100000 in
set_option maxHeartbeats 4000000 in
theorem vX11_eyeline {K J : Nat → Nat} {fu : Nat} {sh : HS} {I : HI} {R : HR} {F : VF} {o : (Int32 × HI)} (hF : F (.inl (some (.int o.1))) sh o.2 R) {l0 : Nat} {l1 : Int32} (h0 : fX11_eyeline fu sh I R l0 l1 = some o) : V K J 213 0 (ent 4 [.ref l0, .int l1]) [] sh I R (0, 0) F := by
  unfold fX11_eyeline at h0
  obtain ⟨-, h1⟩ := gd h0; clear h0
  have hc0 : ((0 : Nat), (0 : Nat)).1 ≤ 0 ∧ ((0 : Nat), (0 : Nat)).2 ≤ 0 := ⟨Nat.le_refl _, Nat.le_refl _⟩
  show V K J 213 0 [some (.ref l0), some (.int l1), none, none] [] sh I R (0, 0) F
  refine s_rl (i := 0) (pc' := 1) (by decide +kernel) rfl ?_
  refine s_rl (i := 0) (pc' := 2) (by decide +kernel) rfl ?_
  refine s_il (i := 1) (pc' := 3) (by decide +kernel) rfl ?_
  refine kX11_isShot (X := 0) (Y := 0) (X' := 0) (Y' := 0) (pc' := 6) (by decide +kernel) hc0 rfl h1 (fun v1 c hc1 h2 => ?_); clear h1 hc0
  refine kX11_isWrong (X := 0) (Y := 0) (X' := 0) (Y' := 0) (pc' := 9) (by decide +kernel) hc1 rfl h2 (fun v2 w2 c hc2 h3 => ?_); clear h2 hc1
  refine s_if (ins := .ifCond .eq 5) (t := 14) (pc' := 12) (by decide +kernel) rfl rfl rfl h3 (fun p4 h4 => ?_) (fun p4 h4 => ?_) <;> clear h3
  · refine s_rl (i := 0) (pc' := 15) (by decide +kernel) rfl ?_
    refine s_il (i := 1) (pc' := 16) (by decide +kernel) rfl ?_
    refine kX11_hasPartner (X := 0) (Y := 0) (X' := 0) (Y' := 0) (pc' := 19) (by decide +kernel) hc2 rfl h4 (fun v3 c hc3 h5 => ?_); clear h4 hc2
    refine s_ifn (ins := .ifCond .ne 6) (t := 25) (pc' := 22) (by decide +kernel) rfl rfl rfl h5 (fun p6 h6 => ?_) (fun p6 h6 => ?_) <;> clear h5
    · refine s_rl (i := 0) (pc' := 26) (by decide +kernel) rfl ?_
      refine s_il (i := 1) (pc' := 27) (by decide +kernel) rfl ?_
      refine kX11_partnerX (X := 0) (Y := 0) (X' := 0) (Y' := 0) (pc' := 30) (by decide +kernel) hc3 rfl h6 (fun v4 c hc4 h7 => ?_); clear h6 hc3
      refine s_rl (i := 0) (pc' := 31) (by decide +kernel) rfl ?_
      refine s_il (i := 1) (pc' := 32) (by decide +kernel) rfl ?_
      refine kX11_subjectX (X := 0) (Y := 0) (X' := 0) (Y' := 0) (pc' := 35) (by decide +kernel) hc4 rfl h7 (fun v5 c hc5 h8 => ?_); clear h7 hc4
      refine s_a (ins := .isub) (pc' := 36) (by decide +kernel) rfl ?_
      refine s_is (i := 2) (pc' := 37) (L' := [some (.ref l0), some (.int l1), some (.int (v4 - v5)), none]) (by decide +kernel) rfl rfl ?_
      refine s_rl (i := 0) (pc' := 38) (by decide +kernel) rfl ?_
      refine s_il (i := 1) (pc' := 39) (by decide +kernel) rfl ?_
      refine kX11_partnerY (X := 0) (Y := 0) (X' := 0) (Y' := 0) (pc' := 42) (by decide +kernel) hc5 rfl h8 (fun v6 c hc6 h9 => ?_); clear h8 hc5
      refine s_rl (i := 0) (pc' := 43) (by decide +kernel) rfl ?_
      refine s_il (i := 1) (pc' := 44) (by decide +kernel) rfl ?_
      refine kX11_subjectY (X := 0) (Y := 0) (X' := 0) (Y' := 0) (pc' := 47) (by decide +kernel) hc6 rfl h9 (fun v7 c hc7 h10 => ?_); clear h9 hc6
      refine s_a (ins := .isub) (pc' := 48) (by decide +kernel) rfl ?_
      refine s_is (i := 3) (pc' := 49) (L' := [some (.ref l0), some (.int l1), some (.int (v4 - v5)), some (.int (v6 - v7))]) (by decide +kernel) rfl rfl ?_
      refine s_il (i := 2) (pc' := 50) (by decide +kernel) rfl ?_
      refine s_ifn (ins := .ifCond .ne 10) (t := 60) (pc' := 53) (by decide +kernel) rfl rfl rfl h10 (fun p11 h11 => ?_) (fun p11 h11 => ?_) <;> clear h10
      · exact (vX11_eyeline_b60 hF) hc7 h11
      · refine s_il (i := 3) (pc' := 54) (by decide +kernel) rfl ?_
        refine s_ifn (ins := .ifCond .ne 6) (t := 60) (pc' := 57) (by decide +kernel) rfl rfl rfl h11 (fun p12 h12 => ?_) (fun p12 h12 => ?_) <;> clear h11
        · exact (vX11_eyeline_b60 hF) hc7 h12
        · refine s_c (v := (-3)) (pc' := 59) (by decide +kernel) ?_
          have e9 := Option.some.inj h12; subst e9
          exact s_ri (X := 0) (Y := 0) (by decide +kernel) hc7 hF
    · refine s_c (v := (-2)) (pc' := 24) (by decide +kernel) ?_
      have e9 := Option.some.inj h6; subst e9
      exact s_ri (X := 0) (Y := 0) (by decide +kernel) hc3 hF
  · refine s_c (v := 0) (pc' := 13) (by decide +kernel) ?_
    have e9 := Option.some.inj h4; subst e9
    exact s_ri (X := 0) (Y := 0) (by decide +kernel) hc2 hF
set_option maxRecDepth 100000 in
set_option maxHeartbeats 4000000 in
theorem kX11_eyeline {K J : Nat → Nat} {fu : Nat} {sh : HS} {I : HI} {R : HR} {F : VF} {mi pc pc' X Y X' Y' : Nat} {L : VL} {rest : List Value} {c : Nat × Nat} {l0 : Nat} {l1 : Int32} {ω : Type} {o : ω} {g : Int32 → HI → Option ω} (hq : cQ mi pc 213 2 pc' X Y X' Y' = true) (hc : c.1 ≤ X ∧ c.2 ≤ Y) (hr : Nat.ble (catS rest) 8 = true) (h : oH (fX11_eyeline fu sh I R l0 l1) g = some o) (kk : ∀ v w c', (c'.1 ≤ X' ∧ c'.2 ≤ Y') → g v w = some o → V K J mi pc' L ((.int v) :: rest) sh w R c' F) : V K J mi pc L (.int l1 :: .ref l0 :: rest) sh I R c F := by
  obtain ⟨r, h1, h2⟩ := bnd h
  have hT : isT sh l0 9 = true := by unfold fX11_eyeline at h1; exact (gd h1).1
  have ml : mL 213 = 4 := by decide +kernel
  have mk : mK 213 = 1 := by decide +kernel
  have mc : mC 213 = 9 := by decide +kernel
  obtain ⟨v, w⟩ := r
  refine s_call (as := [.int l1, .ref l0]) (G := fun o' sh' I' R' => o' = .inl (some (.int v)) ∧ sh' = sh ∧ I' = w ∧ R' = R) hq hc rfl hr (by rw [ml]; rfl) (Or.inl rfl) (fun _ => Or.inl ⟨by rw [mc]; decide, by rw [mc]; exact isT_iff.mp hT⟩) (fun z => absurd (mk.symm.trans z) (by decide)) (by rw [ml]; exact vX11_eyeline (F := fun o' sh' I' R' => o' = .inl (some (.int v)) ∧ sh' = sh ∧ I' = w ∧ R' = R) ⟨rfl, rfl, rfl, rfl⟩ h1) ?_ ?_ ?_
  · rintro sh' I' R' c' hc' ⟨g1, rfl, rfl, rfl⟩
    cases g1
  · rintro v' sh' I' R' c' hc' ⟨g1, rfl, rfl, rfl⟩
    cases g1
    exact kk _ _ _ hc' h2
  · rintro E' sh' I' R' ⟨g1, rfl, rfl, rfl⟩
    cases g1
set_option maxRecDepth 100000 in
set_option maxHeartbeats 4000000 in
def fX11_isNear_b48 (fu : Nat) (sh : HS) (R : HR) (I : HI) (s0 : Int32) : Option (Int32 × HI) :=
  (oZ s0).bind fun z3 =>
  some (z3, I)
set_option maxRecDepth 100000 in
set_option maxHeartbeats 4000000 in
theorem vX11_isNear_b48 {K J : Nat → Nat} {fu : Nat} {sh : HS} {R : HR} {F : VF} {o : (Int32 × HI)} (hF : F (.inl (some (.int o.1))) sh o.2 R) {I : HI} {s0 : Int32} {d0 d1 d2 : Option Value} {c : Nat × Nat} (hc0 : c.1 ≤ 0 ∧ c.2 ≤ 0) (h0 : fX11_isNear_b48 fu sh R I s0 = some o) : V K J 214 48 [d0, d1, d2] [.int s0] sh I R c F := by
  unfold fX11_isNear_b48 at h0
  obtain ⟨hz, h1⟩ := oZb h0
  have e9 := Option.some.inj h1; subst e9
  exact s_rz (X := 0) (Y := 0) (by decide +kernel) hz hc0 hF
set_option maxRecDepth 100000 in
set_option maxHeartbeats 4000000 in
def fX11_isNear_b47 (fu : Nat) (sh : HS) (R : HR) (I : HI) : Option (Int32 × HI) :=
  (fX11_isNear_b48 fu sh R) I 0
set_option maxRecDepth 100000 in
set_option maxHeartbeats 4000000 in
theorem vX11_isNear_b47 {K J : Nat → Nat} {fu : Nat} {sh : HS} {R : HR} {F : VF} {o : (Int32 × HI)} (hF : F (.inl (some (.int o.1))) sh o.2 R) {I : HI} {d0 d1 d2 : Option Value} {c : Nat × Nat} (hc0 : c.1 ≤ 0 ∧ c.2 ≤ 0) (h0 : fX11_isNear_b47 fu sh R I = some o) : V K J 214 47 [d0, d1, d2] [] sh I R c F := by
  unfold fX11_isNear_b47 at h0
  refine s_c (v := 0) (pc' := 48) (by decide +kernel) ?_
  exact (vX11_isNear_b48 hF) hc0 h0
set_option maxRecDepth 100000 in
set_option maxHeartbeats 4000000 in
def fX11_isNear_b22 (fu : Nat) (sh : HS) (R : HR) (I : HI) (l0 : Nat) (l1 : Int32) (l2 : Int32) (s0 : Int32) (s1 : Nat) : Option (Int32 × HI) :=
  oH (fX11_isWrong fu sh I R s1 s0) fun v2 w2 =>
  if v2 = 0 then
    ((oR sh R l0 9 0).bind fun v4 =>
    (oA sh w2 v4 0).bind fun v5 =>
    (fX11_areNear fu sh w2 R l0 l1 l2 v5).bind fun v6 =>
    if v6 = 0 then
      ((fX11_isNear_b47 fu sh R) w2)
    else
      ((fX11_isNear_b48 fu sh R) w2 1))
  else
    ((fX11_isNear_b47 fu sh R) w2)
set_option maxRecDepth 100000 in
set_option maxHeartbeats 4000000 in
theorem vX11_isNear_b22 {K J : Nat → Nat} {fu : Nat} {sh : HS} {R : HR} {F : VF} {o : (Int32 × HI)} (hF : F (.inl (some (.int o.1))) sh o.2 R) {I : HI} {l0 : Nat} {l1 : Int32} {l2 : Int32} {s0 : Int32} {s1 : Nat} {c : Nat × Nat} (hc0 : c.1 ≤ 0 ∧ c.2 ≤ 0) (h0 : fX11_isNear_b22 fu sh R I l0 l1 l2 s0 s1 = some o) : V K J 214 22 [some (.ref l0), some (.int l1), some (.int l2)] [.int s0, .ref s1] sh I R c F := by
  unfold fX11_isNear_b22 at h0
  refine kX11_isWrong (X := 0) (Y := 0) (X' := 0) (Y' := 0) (pc' := 25) (by decide +kernel) hc0 rfl h0 (fun v2 w2 c hc1 h1 => ?_); clear h0 hc0
  refine s_ifn (ins := .ifCond .ne 22) (t := 47) (pc' := 28) (by decide +kernel) rfl rfl rfl h1 (fun p2 h2 => ?_) (fun p2 h2 => ?_) <;> clear h1
  · exact (vX11_isNear_b47 hF) hc1 h2
  · refine s_rl (i := 0) (pc' := 29) (by decide +kernel) rfl ?_
    refine s_il (i := 1) (pc' := 30) (by decide +kernel) rfl ?_
    refine s_il (i := 2) (pc' := 31) (by decide +kernel) rfl ?_
    refine s_rl (i := 0) (pc' := 32) (by decide +kernel) rfl ?_
    refine s_gR (t := 9) (j := 0) (pc' := 35) (by decide +kernel) h2 (fun v4 h3 => ?_); clear h2
    refine s_c (v := 0) (pc' := 36) (by decide +kernel) ?_
    refine s_al (pc' := 37) (by decide +kernel) h3 (fun v5 h4 => ?_); clear h3
    refine kX11_areNear (X := 0) (Y := 0) (X' := 0) (Y' := 0) (pc' := 40) (by decide +kernel) hc1 rfl h4 (fun v6 c hc2 h5 => ?_); clear h4 hc1
    refine s_if (ins := .ifCond .eq 7) (t := 47) (pc' := 43) (by decide +kernel) rfl rfl rfl h5 (fun p6 h6 => ?_) (fun p6 h6 => ?_) <;> clear h5
    · exact (vX11_isNear_b47 hF) hc2 h6
    · refine s_c (v := 1) (pc' := 44) (by decide +kernel) ?_
      refine s_go (t := 48) (by decide +kernel) ?_
      exact (vX11_isNear_b48 hF) hc2 h6
set_option maxRecDepth 100000 in
set_option maxHeartbeats 4000000 in
def fX11_isNear_b21 (fu : Nat) (sh : HS) (R : HR) (I : HI) (l0 : Nat) (l1 : Int32) (l2 : Int32) (s0 : Nat) : Option (Int32 × HI) :=
  (fX11_isNear_b22 fu sh R) I l0 l1 l2 0 s0
set_option maxRecDepth 100000 in
set_option maxHeartbeats 4000000 in
theorem vX11_isNear_b21 {K J : Nat → Nat} {fu : Nat} {sh : HS} {R : HR} {F : VF} {o : (Int32 × HI)} (hF : F (.inl (some (.int o.1))) sh o.2 R) {I : HI} {l0 : Nat} {l1 : Int32} {l2 : Int32} {s0 : Nat} {c : Nat × Nat} (hc0 : c.1 ≤ 0 ∧ c.2 ≤ 0) (h0 : fX11_isNear_b21 fu sh R I l0 l1 l2 s0 = some o) : V K J 214 21 [some (.ref l0), some (.int l1), some (.int l2)] [.ref s0] sh I R c F := by
  unfold fX11_isNear_b21 at h0
  refine s_c (v := 0) (pc' := 22) (by decide +kernel) ?_
  exact (vX11_isNear_b22 hF) hc0 h0
set_option maxRecDepth 100000 in
set_option maxHeartbeats 4000000 in
def fX11_isNear (fu : Nat) (sh : HS) (I : HI) (R : HR) (l0 : Nat) (l1 : Int32) (l2 : Int32) : Option (Int32 × HI) :=
  if isT sh l0 9 = true then
    ((fX11_isShot fu sh I R l0 l1).bind fun v1 =>
    if v1 = 0 then
      ((fX11_isNear_b21 fu sh R) I l0 l1 l2 l0)
    else
      ((fX11_isShot fu sh I R l0 l2).bind fun v7 =>
      if v7 = 0 then
        ((fX11_isNear_b21 fu sh R) I l0 l1 l2 l0)
      else
        ((fX11_isNear_b22 fu sh R) I l0 l1 l2 1 l0)))
  else none
set_option maxRecDepth 100000 in
set_option maxHeartbeats 4000000 in
theorem vX11_isNear {K J : Nat → Nat} {fu : Nat} {sh : HS} {I : HI} {R : HR} {F : VF} {o : (Int32 × HI)} (hF : F (.inl (some (.int o.1))) sh o.2 R) {l0 : Nat} {l1 : Int32} {l2 : Int32} (h0 : fX11_isNear fu sh I R l0 l1 l2 = some o) : V K J 214 0 (ent 3 [.ref l0, .int l1, .int l2]) [] sh I R (0, 0) F := by
  unfold fX11_isNear at h0
  obtain ⟨-, h1⟩ := gd h0; clear h0
  have hc0 : ((0 : Nat), (0 : Nat)).1 ≤ 0 ∧ ((0 : Nat), (0 : Nat)).2 ≤ 0 := ⟨Nat.le_refl _, Nat.le_refl _⟩
  show V K J 214 0 [some (.ref l0), some (.int l1), some (.int l2)] [] sh I R (0, 0) F
  refine s_rl (i := 0) (pc' := 1) (by decide +kernel) rfl ?_
  refine s_rl (i := 0) (pc' := 2) (by decide +kernel) rfl ?_
  refine s_il (i := 1) (pc' := 3) (by decide +kernel) rfl ?_
  refine kX11_isShot (X := 0) (Y := 0) (X' := 0) (Y' := 0) (pc' := 6) (by decide +kernel) hc0 rfl h1 (fun v1 c hc1 h2 => ?_); clear h1 hc0
  refine s_if (ins := .ifCond .eq 15) (t := 21) (pc' := 9) (by decide +kernel) rfl rfl rfl h2 (fun p3 h3 => ?_) (fun p3 h3 => ?_) <;> clear h2
  · exact (vX11_isNear_b21 hF) hc1 h3
  · refine s_rl (i := 0) (pc' := 10) (by decide +kernel) rfl ?_
    refine s_il (i := 2) (pc' := 11) (by decide +kernel) rfl ?_
    refine kX11_isShot (X := 0) (Y := 0) (X' := 0) (Y' := 0) (pc' := 14) (by decide +kernel) hc1 rfl h3 (fun v7 c hc2 h4 => ?_); clear h3 hc1
    refine s_if (ins := .ifCond .eq 7) (t := 21) (pc' := 17) (by decide +kernel) rfl rfl rfl h4 (fun p5 h5 => ?_) (fun p5 h5 => ?_) <;> clear h4
    · exact (vX11_isNear_b21 hF) hc2 h5
    · refine s_c (v := 1) (pc' := 18) (by decide +kernel) ?_
      refine s_go (t := 22) (by decide +kernel) ?_
      exact (vX11_isNear_b22 hF) hc2 h5
set_option maxRecDepth 100000 in
set_option maxHeartbeats 4000000 in
theorem kX11_isNear {K J : Nat → Nat} {fu : Nat} {sh : HS} {I : HI} {R : HR} {F : VF} {mi pc pc' X Y X' Y' : Nat} {L : VL} {rest : List Value} {c : Nat × Nat} {l0 : Nat} {l1 : Int32} {l2 : Int32} {ω : Type} {o : ω} {g : Int32 → HI → Option ω} (hq : cQ mi pc 214 3 pc' X Y X' Y' = true) (hc : c.1 ≤ X ∧ c.2 ≤ Y) (hr : Nat.ble (catS rest) 8 = true) (h : oH (fX11_isNear fu sh I R l0 l1 l2) g = some o) (kk : ∀ v w c', (c'.1 ≤ X' ∧ c'.2 ≤ Y') → g v w = some o → V K J mi pc' L ((.int v) :: rest) sh w R c' F) : V K J mi pc L (.int l2 :: .int l1 :: .ref l0 :: rest) sh I R c F := by
  obtain ⟨r, h1, h2⟩ := bnd h
  have hT : isT sh l0 9 = true := by unfold fX11_isNear at h1; exact (gd h1).1
  have ml : mL 214 = 3 := by decide +kernel
  have mk : mK 214 = 1 := by decide +kernel
  have mc : mC 214 = 9 := by decide +kernel
  obtain ⟨v, w⟩ := r
  refine s_call (as := [.int l2, .int l1, .ref l0]) (G := fun o' sh' I' R' => o' = .inl (some (.int v)) ∧ sh' = sh ∧ I' = w ∧ R' = R) hq hc rfl hr (by rw [ml]; rfl) (Or.inl rfl) (fun _ => Or.inl ⟨by rw [mc]; decide, by rw [mc]; exact isT_iff.mp hT⟩) (fun z => absurd (mk.symm.trans z) (by decide)) (by rw [ml]; exact vX11_isNear (F := fun o' sh' I' R' => o' = .inl (some (.int v)) ∧ sh' = sh ∧ I' = w ∧ R' = R) ⟨rfl, rfl, rfl, rfl⟩ h1) ?_ ?_ ?_
  · rintro sh' I' R' c' hc' ⟨g1, rfl, rfl, rfl⟩
    cases g1
  · rintro v' sh' I' R' c' hc' ⟨g1, rfl, rfl, rfl⟩
    cases g1
    exact kk _ _ _ hc' h2
  · rintro E' sh' I' R' ⟨g1, rfl, rfl, rfl⟩
    cases g1
set_option maxRecDepth 100000 in
set_option maxHeartbeats 4000000 in
def fX11_hasBefore_b24 (fu : Nat) (sh : HS) (I : HI) (R : HR) (s0 : Int32) : Option Int32 :=
  (oZ s0).bind fun z1 =>
  some z1
set_option maxRecDepth 100000 in
set_option maxHeartbeats 4000000 in
theorem vX11_hasBefore_b24 {K J : Nat → Nat} {fu : Nat} {sh : HS} {I : HI} {R : HR} {F : VF} {o : Int32} (hF : F (.inl (some (.int o))) sh I R) {s0 : Int32} {d0 d1 : Option Value} {c : Nat × Nat} (hc0 : c.1 ≤ 0 ∧ c.2 ≤ 0) (h0 : fX11_hasBefore_b24 fu sh I R s0 = some o) : V K J 215 24 [d0, d1] [.int s0] sh I R c F := by
  unfold fX11_hasBefore_b24 at h0
  obtain ⟨hz, h1⟩ := oZb h0
  have e9 := Option.some.inj h1; subst e9
  exact s_rz (X := 0) (Y := 0) (by decide +kernel) hz hc0 hF
set_option maxRecDepth 100000 in
set_option maxHeartbeats 4000000 in
def fX11_hasBefore_b23 (fu : Nat) (sh : HS) (I : HI) (R : HR) : Option Int32 :=
  (fX11_hasBefore_b24 fu sh I R) 0
set_option maxRecDepth 100000 in
set_option maxHeartbeats 4000000 in
theorem vX11_hasBefore_b23 {K J : Nat → Nat} {fu : Nat} {sh : HS} {I : HI} {R : HR} {F : VF} {o : Int32} (hF : F (.inl (some (.int o))) sh I R) {d0 d1 : Option Value} {c : Nat × Nat} (hc0 : c.1 ≤ 0 ∧ c.2 ≤ 0) (h0 : fX11_hasBefore_b23 fu sh I R = some o) : V K J 215 23 [d0, d1] [] sh I R c F := by
  unfold fX11_hasBefore_b23 at h0
  refine s_c (v := 0) (pc' := 24) (by decide +kernel) ?_
  exact (vX11_hasBefore_b24 hF) hc0 h0
set_option maxRecDepth 100000 in
set_option maxHeartbeats 4000000 in
def fX11_hasBefore (fu : Nat) (sh : HS) (I : HI) (R : HR) (l0 : Nat) (l1 : Int32) : Option Int32 :=
  if isT sh l0 9 = true then
    (if l1 ≤ 0 then
      ((fX11_hasBefore_b23 fu sh I R))
    else
      ((fX11_sceneOf fu sh I R l0 (l1 - 1)).bind fun v2 =>
      (fX11_sceneOf fu sh I R l0 l1).bind fun v3 =>
      if v2 = v3 then
        ((fX11_hasBefore_b24 fu sh I R) 1)
      else
        ((fX11_hasBefore_b23 fu sh I R))))
  else none
set_option maxRecDepth 100000 in
set_option maxHeartbeats 4000000 in
theorem vX11_hasBefore {K J : Nat → Nat} {fu : Nat} {sh : HS} {I : HI} {R : HR} {F : VF} {o : Int32} (hF : F (.inl (some (.int o))) sh I R) {l0 : Nat} {l1 : Int32} (h0 : fX11_hasBefore fu sh I R l0 l1 = some o) : V K J 215 0 (ent 2 [.ref l0, .int l1]) [] sh I R (0, 0) F := by
  unfold fX11_hasBefore at h0
  obtain ⟨-, h1⟩ := gd h0; clear h0
  have hc0 : ((0 : Nat), (0 : Nat)).1 ≤ 0 ∧ ((0 : Nat), (0 : Nat)).2 ≤ 0 := ⟨Nat.le_refl _, Nat.le_refl _⟩
  show V K J 215 0 [some (.ref l0), some (.int l1)] [] sh I R (0, 0) F
  refine s_il (i := 1) (pc' := 1) (by decide +kernel) rfl ?_
  refine s_if (ins := .ifCond .le 22) (t := 23) (pc' := 4) (by decide +kernel) rfl rfl rfl h1 (fun p2 h2 => ?_) (fun p2 h2 => ?_) <;> clear h1
  · exact (vX11_hasBefore_b23 hF) hc0 h2
  · refine s_rl (i := 0) (pc' := 5) (by decide +kernel) rfl ?_
    refine s_il (i := 1) (pc' := 6) (by decide +kernel) rfl ?_
    refine s_c (v := 1) (pc' := 7) (by decide +kernel) ?_
    refine s_a (ins := .isub) (pc' := 8) (by decide +kernel) rfl ?_
    refine kX11_sceneOf (X := 0) (Y := 0) (X' := 0) (Y' := 0) (pc' := 11) (by decide +kernel) hc0 rfl h2 (fun v2 c hc1 h3 => ?_); clear h2 hc0
    refine s_rl (i := 0) (pc' := 12) (by decide +kernel) rfl ?_
    refine s_il (i := 1) (pc' := 13) (by decide +kernel) rfl ?_
    refine kX11_sceneOf (X := 0) (Y := 0) (X' := 0) (Y' := 0) (pc' := 16) (by decide +kernel) hc1 rfl h3 (fun v3 c hc2 h4 => ?_); clear h3 hc1
    refine s_ifn (ins := .if_icmp .ne 7) (t := 23) (pc' := 19) (by decide +kernel) rfl rfl rfl h4 (fun p5 h5 => ?_) (fun p5 h5 => ?_) <;> clear h4
    · exact (vX11_hasBefore_b23 hF) hc2 h5
    · refine s_c (v := 1) (pc' := 20) (by decide +kernel) ?_
      refine s_go (t := 24) (by decide +kernel) ?_
      exact (vX11_hasBefore_b24 hF) hc2 h5
set_option maxRecDepth 100000 in
set_option maxHeartbeats 4000000 in
theorem kX11_hasBefore {K J : Nat → Nat} {fu : Nat} {sh : HS} {I : HI} {R : HR} {F : VF} {mi pc pc' X Y X' Y' : Nat} {L : VL} {rest : List Value} {c : Nat × Nat} {l0 : Nat} {l1 : Int32} {ω : Type} {o : ω} {g : Int32 → Option ω} (hq : cQ mi pc 215 2 pc' X Y X' Y' = true) (hc : c.1 ≤ X ∧ c.2 ≤ Y) (hr : Nat.ble (catS rest) 8 = true) (h : (fX11_hasBefore fu sh I R l0 l1).bind g = some o) (kk : ∀ v c', (c'.1 ≤ X' ∧ c'.2 ≤ Y') → g v = some o → V K J mi pc' L ((.int v) :: rest) sh I R c' F) : V K J mi pc L (.int l1 :: .ref l0 :: rest) sh I R c F := by
  obtain ⟨r, h1, h2⟩ := bnd h
  have hT : isT sh l0 9 = true := by unfold fX11_hasBefore at h1; exact (gd h1).1
  have ml : mL 215 = 2 := by decide +kernel
  have mk : mK 215 = 1 := by decide +kernel
  have mc : mC 215 = 9 := by decide +kernel
  refine s_call (as := [.int l1, .ref l0]) (G := fun o' sh' I' R' => o' = .inl (some (.int r)) ∧ sh' = sh ∧ I' = I ∧ R' = R) hq hc rfl hr (by rw [ml]; rfl) (Or.inl rfl) (fun _ => Or.inl ⟨by rw [mc]; decide, by rw [mc]; exact isT_iff.mp hT⟩) (fun z => absurd (mk.symm.trans z) (by decide)) (by rw [ml]; exact vX11_hasBefore (F := fun o' sh' I' R' => o' = .inl (some (.int r)) ∧ sh' = sh ∧ I' = I ∧ R' = R) ⟨rfl, rfl, rfl, rfl⟩ h1) ?_ ?_ ?_
  · rintro sh' I' R' c' hc' ⟨g1, rfl, rfl, rfl⟩
    cases g1
  · rintro v' sh' I' R' c' hc' ⟨g1, rfl, rfl, rfl⟩
    cases g1
    exact kk _ _ hc' h2
  · rintro E' sh' I' R' ⟨g1, rfl, rfl, rfl⟩
    cases g1
set_option maxRecDepth 100000 in
set_option maxHeartbeats 4000000 in
def fX11_isCrossed_b57 (fu : Nat) (sh : HS) (I : HI) (R : HR) (s0 : Int32) : Option Int32 :=
  (oZ s0).bind fun z2 =>
  some z2
set_option maxRecDepth 100000 in
set_option maxHeartbeats 4000000 in
theorem vX11_isCrossed_b57 {K J : Nat → Nat} {fu : Nat} {sh : HS} {I : HI} {R : HR} {F : VF} {o : Int32} (hF : F (.inl (some (.int o))) sh I R) {s0 : Int32} {d0 d1 : Option Value} {c : Nat × Nat} (hc0 : c.1 ≤ 0 ∧ c.2 ≤ 0) (h0 : fX11_isCrossed_b57 fu sh I R s0 = some o) : V K J 216 57 [d0, d1] [.int s0] sh I R c F := by
  unfold fX11_isCrossed_b57 at h0
  obtain ⟨hz, h1⟩ := oZb h0
  have e9 := Option.some.inj h1; subst e9
  exact s_rz (X := 0) (Y := 0) (by decide +kernel) hz hc0 hF
set_option maxRecDepth 100000 in
set_option maxHeartbeats 4000000 in
def fX11_isCrossed_b56 (fu : Nat) (sh : HS) (I : HI) (R : HR) : Option Int32 :=
  (fX11_isCrossed_b57 fu sh I R) 0
set_option maxRecDepth 100000 in
set_option maxHeartbeats 4000000 in
theorem vX11_isCrossed_b56 {K J : Nat → Nat} {fu : Nat} {sh : HS} {I : HI} {R : HR} {F : VF} {o : Int32} (hF : F (.inl (some (.int o))) sh I R) {d0 d1 : Option Value} {c : Nat × Nat} (hc0 : c.1 ≤ 0 ∧ c.2 ≤ 0) (h0 : fX11_isCrossed_b56 fu sh I R = some o) : V K J 216 56 [d0, d1] [] sh I R c F := by
  unfold fX11_isCrossed_b56 at h0
  refine s_c (v := 0) (pc' := 57) (by decide +kernel) ?_
  exact (vX11_isCrossed_b57 hF) hc0 h0
set_option maxRecDepth 100000 in
set_option maxHeartbeats 4000000 in
def fX11_isCrossed (fu : Nat) (sh : HS) (I : HI) (R : HR) (l0 : Nat) (l1 : Int32) : Option Int32 :=
  if isT sh l0 9 = true then
    ((fX11_hasPartner fu sh I R l0 l1).bind fun v1 =>
    if v1 = 0 then
      ((fX11_isCrossed_b56 fu sh I R))
    else
      ((fX11_hasPartner fu sh I R l0 (l1 - 1)).bind fun v3 =>
      if v3 = 0 then
        ((fX11_isCrossed_b56 fu sh I R))
      else
        ((fX11_get fu sh I R l0 l1 3).bind fun v4 =>
        (fX11_get fu sh I R l0 (l1 - 1) 4).bind fun v5 =>
        if v4 = v5 then
          ((fX11_get fu sh I R l0 l1 4).bind fun v6 =>
          (fX11_get fu sh I R l0 (l1 - 1) 3).bind fun v7 =>
          if v6 = v7 then
            ((fX11_isCrossed_b57 fu sh I R) 1)
          else
            ((fX11_isCrossed_b56 fu sh I R)))
        else
          ((fX11_isCrossed_b56 fu sh I R)))))
  else none
set_option maxRecDepth 100000 in
set_option maxHeartbeats 4000000 in
theorem vX11_isCrossed {K J : Nat → Nat} {fu : Nat} {sh : HS} {I : HI} {R : HR} {F : VF} {o : Int32} (hF : F (.inl (some (.int o))) sh I R) {l0 : Nat} {l1 : Int32} (h0 : fX11_isCrossed fu sh I R l0 l1 = some o) : V K J 216 0 (ent 2 [.ref l0, .int l1]) [] sh I R (0, 0) F := by
  unfold fX11_isCrossed at h0
  obtain ⟨-, h1⟩ := gd h0; clear h0
  have hc0 : ((0 : Nat), (0 : Nat)).1 ≤ 0 ∧ ((0 : Nat), (0 : Nat)).2 ≤ 0 := ⟨Nat.le_refl _, Nat.le_refl _⟩
  show V K J 216 0 [some (.ref l0), some (.int l1)] [] sh I R (0, 0) F
  refine s_rl (i := 0) (pc' := 1) (by decide +kernel) rfl ?_
  refine s_il (i := 1) (pc' := 2) (by decide +kernel) rfl ?_
  refine kX11_hasPartner (X := 0) (Y := 0) (X' := 0) (Y' := 0) (pc' := 5) (by decide +kernel) hc0 rfl h1 (fun v1 c hc1 h2 => ?_); clear h1 hc0
  refine s_if (ins := .ifCond .eq 51) (t := 56) (pc' := 8) (by decide +kernel) rfl rfl rfl h2 (fun p3 h3 => ?_) (fun p3 h3 => ?_) <;> clear h2
  · exact (vX11_isCrossed_b56 hF) hc1 h3
  · refine s_rl (i := 0) (pc' := 9) (by decide +kernel) rfl ?_
    refine s_il (i := 1) (pc' := 10) (by decide +kernel) rfl ?_
    refine s_c (v := 1) (pc' := 11) (by decide +kernel) ?_
    refine s_a (ins := .isub) (pc' := 12) (by decide +kernel) rfl ?_
    refine kX11_hasPartner (X := 0) (Y := 0) (X' := 0) (Y' := 0) (pc' := 15) (by decide +kernel) hc1 rfl h3 (fun v3 c hc2 h4 => ?_); clear h3 hc1
    refine s_if (ins := .ifCond .eq 41) (t := 56) (pc' := 18) (by decide +kernel) rfl rfl rfl h4 (fun p5 h5 => ?_) (fun p5 h5 => ?_) <;> clear h4
    · exact (vX11_isCrossed_b56 hF) hc2 h5
    · refine s_rl (i := 0) (pc' := 19) (by decide +kernel) rfl ?_
      refine s_il (i := 1) (pc' := 20) (by decide +kernel) rfl ?_
      refine s_c (v := 3) (pc' := 21) (by decide +kernel) ?_
      refine kX11_get (X := 0) (Y := 0) (X' := 0) (Y' := 0) (pc' := 24) (by decide +kernel) hc2 rfl h5 (fun v4 c hc3 h6 => ?_); clear h5 hc2
      refine s_rl (i := 0) (pc' := 25) (by decide +kernel) rfl ?_
      refine s_il (i := 1) (pc' := 26) (by decide +kernel) rfl ?_
      refine s_c (v := 1) (pc' := 27) (by decide +kernel) ?_
      refine s_a (ins := .isub) (pc' := 28) (by decide +kernel) rfl ?_
      refine s_c (v := 4) (pc' := 29) (by decide +kernel) ?_
      refine kX11_get (X := 0) (Y := 0) (X' := 0) (Y' := 0) (pc' := 32) (by decide +kernel) hc3 rfl h6 (fun v5 c hc4 h7 => ?_); clear h6 hc3
      refine s_ifn (ins := .if_icmp .ne 24) (t := 56) (pc' := 35) (by decide +kernel) rfl rfl rfl h7 (fun p8 h8 => ?_) (fun p8 h8 => ?_) <;> clear h7
      · exact (vX11_isCrossed_b56 hF) hc4 h8
      · refine s_rl (i := 0) (pc' := 36) (by decide +kernel) rfl ?_
        refine s_il (i := 1) (pc' := 37) (by decide +kernel) rfl ?_
        refine s_c (v := 4) (pc' := 38) (by decide +kernel) ?_
        refine kX11_get (X := 0) (Y := 0) (X' := 0) (Y' := 0) (pc' := 41) (by decide +kernel) hc4 rfl h8 (fun v6 c hc5 h9 => ?_); clear h8 hc4
        refine s_rl (i := 0) (pc' := 42) (by decide +kernel) rfl ?_
        refine s_il (i := 1) (pc' := 43) (by decide +kernel) rfl ?_
        refine s_c (v := 1) (pc' := 44) (by decide +kernel) ?_
        refine s_a (ins := .isub) (pc' := 45) (by decide +kernel) rfl ?_
        refine s_c (v := 3) (pc' := 46) (by decide +kernel) ?_
        refine kX11_get (X := 0) (Y := 0) (X' := 0) (Y' := 0) (pc' := 49) (by decide +kernel) hc5 rfl h9 (fun v7 c hc6 h10 => ?_); clear h9 hc5
        refine s_ifn (ins := .if_icmp .ne 7) (t := 56) (pc' := 52) (by decide +kernel) rfl rfl rfl h10 (fun p11 h11 => ?_) (fun p11 h11 => ?_) <;> clear h10
        · exact (vX11_isCrossed_b56 hF) hc6 h11
        · refine s_c (v := 1) (pc' := 53) (by decide +kernel) ?_
          refine s_go (t := 57) (by decide +kernel) ?_
          exact (vX11_isCrossed_b57 hF) hc6 h11
set_option maxRecDepth 100000 in
set_option maxHeartbeats 4000000 in
theorem kX11_isCrossed {K J : Nat → Nat} {fu : Nat} {sh : HS} {I : HI} {R : HR} {F : VF} {mi pc pc' X Y X' Y' : Nat} {L : VL} {rest : List Value} {c : Nat × Nat} {l0 : Nat} {l1 : Int32} {ω : Type} {o : ω} {g : Int32 → Option ω} (hq : cQ mi pc 216 2 pc' X Y X' Y' = true) (hc : c.1 ≤ X ∧ c.2 ≤ Y) (hr : Nat.ble (catS rest) 8 = true) (h : (fX11_isCrossed fu sh I R l0 l1).bind g = some o) (kk : ∀ v c', (c'.1 ≤ X' ∧ c'.2 ≤ Y') → g v = some o → V K J mi pc' L ((.int v) :: rest) sh I R c' F) : V K J mi pc L (.int l1 :: .ref l0 :: rest) sh I R c F := by
  obtain ⟨r, h1, h2⟩ := bnd h
  have hT : isT sh l0 9 = true := by unfold fX11_isCrossed at h1; exact (gd h1).1
  have ml : mL 216 = 2 := by decide +kernel
  have mk : mK 216 = 1 := by decide +kernel
  have mc : mC 216 = 9 := by decide +kernel
  refine s_call (as := [.int l1, .ref l0]) (G := fun o' sh' I' R' => o' = .inl (some (.int r)) ∧ sh' = sh ∧ I' = I ∧ R' = R) hq hc rfl hr (by rw [ml]; rfl) (Or.inl rfl) (fun _ => Or.inl ⟨by rw [mc]; decide, by rw [mc]; exact isT_iff.mp hT⟩) (fun z => absurd (mk.symm.trans z) (by decide)) (by rw [ml]; exact vX11_isCrossed (F := fun o' sh' I' R' => o' = .inl (some (.int r)) ∧ sh' = sh ∧ I' = I ∧ R' = R) ⟨rfl, rfl, rfl, rfl⟩ h1) ?_ ?_ ?_
  · rintro sh' I' R' c' hc' ⟨g1, rfl, rfl, rfl⟩
    cases g1
  · rintro v' sh' I' R' c' hc' ⟨g1, rfl, rfl, rfl⟩
    cases g1
    exact kk _ _ hc' h2
  · rintro E' sh' I' R' ⟨g1, rfl, rfl, rfl⟩
    cases g1
set_option maxRecDepth 100000 in
set_option maxHeartbeats 4000000 in
def fX11_isSame_b47 (fu : Nat) (sh : HS) (I : HI) (R : HR) (s0 : Int32) : Option Int32 :=
  (oZ s0).bind fun z2 =>
  some z2
set_option maxRecDepth 100000 in
set_option maxHeartbeats 4000000 in
theorem vX11_isSame_b47 {K J : Nat → Nat} {fu : Nat} {sh : HS} {I : HI} {R : HR} {F : VF} {o : Int32} (hF : F (.inl (some (.int o))) sh I R) {s0 : Int32} {d0 d1 : Option Value} {c : Nat × Nat} (hc0 : c.1 ≤ 0 ∧ c.2 ≤ 0) (h0 : fX11_isSame_b47 fu sh I R s0 = some o) : V K J 217 47 [d0, d1] [.int s0] sh I R c F := by
  unfold fX11_isSame_b47 at h0
  obtain ⟨hz, h1⟩ := oZb h0
  have e9 := Option.some.inj h1; subst e9
  exact s_rz (X := 0) (Y := 0) (by decide +kernel) hz hc0 hF
set_option maxRecDepth 100000 in
set_option maxHeartbeats 4000000 in
def fX11_isSame_b46 (fu : Nat) (sh : HS) (I : HI) (R : HR) : Option Int32 :=
  (fX11_isSame_b47 fu sh I R) 0
set_option maxRecDepth 100000 in
set_option maxHeartbeats 4000000 in
theorem vX11_isSame_b46 {K J : Nat → Nat} {fu : Nat} {sh : HS} {I : HI} {R : HR} {F : VF} {o : Int32} (hF : F (.inl (some (.int o))) sh I R) {d0 d1 : Option Value} {c : Nat × Nat} (hc0 : c.1 ≤ 0 ∧ c.2 ≤ 0) (h0 : fX11_isSame_b46 fu sh I R = some o) : V K J 217 46 [d0, d1] [] sh I R c F := by
  unfold fX11_isSame_b46 at h0
  refine s_c (v := 0) (pc' := 47) (by decide +kernel) ?_
  exact (vX11_isSame_b47 hF) hc0 h0
set_option maxRecDepth 100000 in
set_option maxHeartbeats 4000000 in
def fX11_isSame (fu : Nat) (sh : HS) (I : HI) (R : HR) (l0 : Nat) (l1 : Int32) : Option Int32 :=
  if isT sh l0 9 = true then
    ((fX11_hasPartner fu sh I R l0 l1).bind fun v1 =>
    if v1 = 0 then
      ((fX11_isSame_b46 fu sh I R))
    else
      ((fX11_get fu sh I R l0 l1 3).bind fun v3 =>
      (fX11_get fu sh I R l0 (l1 - 1) 3).bind fun v4 =>
      if v3 = v4 then
        ((fX11_get fu sh I R l0 l1 4).bind fun v5 =>
        (fX11_get fu sh I R l0 (l1 - 1) 4).bind fun v6 =>
        if v5 = v6 then
          ((fX11_isSame_b47 fu sh I R) 1)
        else
          ((fX11_isSame_b46 fu sh I R)))
      else
        ((fX11_isSame_b46 fu sh I R))))
  else none
set_option maxRecDepth 100000 in
set_option maxHeartbeats 4000000 in
theorem vX11_isSame {K J : Nat → Nat} {fu : Nat} {sh : HS} {I : HI} {R : HR} {F : VF} {o : Int32} (hF : F (.inl (some (.int o))) sh I R) {l0 : Nat} {l1 : Int32} (h0 : fX11_isSame fu sh I R l0 l1 = some o) : V K J 217 0 (ent 2 [.ref l0, .int l1]) [] sh I R (0, 0) F := by
  unfold fX11_isSame at h0
  obtain ⟨-, h1⟩ := gd h0; clear h0
  have hc0 : ((0 : Nat), (0 : Nat)).1 ≤ 0 ∧ ((0 : Nat), (0 : Nat)).2 ≤ 0 := ⟨Nat.le_refl _, Nat.le_refl _⟩
  show V K J 217 0 [some (.ref l0), some (.int l1)] [] sh I R (0, 0) F
  refine s_rl (i := 0) (pc' := 1) (by decide +kernel) rfl ?_
  refine s_il (i := 1) (pc' := 2) (by decide +kernel) rfl ?_
  refine kX11_hasPartner (X := 0) (Y := 0) (X' := 0) (Y' := 0) (pc' := 5) (by decide +kernel) hc0 rfl h1 (fun v1 c hc1 h2 => ?_); clear h1 hc0
  refine s_if (ins := .ifCond .eq 41) (t := 46) (pc' := 8) (by decide +kernel) rfl rfl rfl h2 (fun p3 h3 => ?_) (fun p3 h3 => ?_) <;> clear h2
  · exact (vX11_isSame_b46 hF) hc1 h3
  · refine s_rl (i := 0) (pc' := 9) (by decide +kernel) rfl ?_
    refine s_il (i := 1) (pc' := 10) (by decide +kernel) rfl ?_
    refine s_c (v := 3) (pc' := 11) (by decide +kernel) ?_
    refine kX11_get (X := 0) (Y := 0) (X' := 0) (Y' := 0) (pc' := 14) (by decide +kernel) hc1 rfl h3 (fun v3 c hc2 h4 => ?_); clear h3 hc1
    refine s_rl (i := 0) (pc' := 15) (by decide +kernel) rfl ?_
    refine s_il (i := 1) (pc' := 16) (by decide +kernel) rfl ?_
    refine s_c (v := 1) (pc' := 17) (by decide +kernel) ?_
    refine s_a (ins := .isub) (pc' := 18) (by decide +kernel) rfl ?_
    refine s_c (v := 3) (pc' := 19) (by decide +kernel) ?_
    refine kX11_get (X := 0) (Y := 0) (X' := 0) (Y' := 0) (pc' := 22) (by decide +kernel) hc2 rfl h4 (fun v4 c hc3 h5 => ?_); clear h4 hc2
    refine s_ifn (ins := .if_icmp .ne 24) (t := 46) (pc' := 25) (by decide +kernel) rfl rfl rfl h5 (fun p6 h6 => ?_) (fun p6 h6 => ?_) <;> clear h5
    · exact (vX11_isSame_b46 hF) hc3 h6
    · refine s_rl (i := 0) (pc' := 26) (by decide +kernel) rfl ?_
      refine s_il (i := 1) (pc' := 27) (by decide +kernel) rfl ?_
      refine s_c (v := 4) (pc' := 28) (by decide +kernel) ?_
      refine kX11_get (X := 0) (Y := 0) (X' := 0) (Y' := 0) (pc' := 31) (by decide +kernel) hc3 rfl h6 (fun v5 c hc4 h7 => ?_); clear h6 hc3
      refine s_rl (i := 0) (pc' := 32) (by decide +kernel) rfl ?_
      refine s_il (i := 1) (pc' := 33) (by decide +kernel) rfl ?_
      refine s_c (v := 1) (pc' := 34) (by decide +kernel) ?_
      refine s_a (ins := .isub) (pc' := 35) (by decide +kernel) rfl ?_
      refine s_c (v := 4) (pc' := 36) (by decide +kernel) ?_
      refine kX11_get (X := 0) (Y := 0) (X' := 0) (Y' := 0) (pc' := 39) (by decide +kernel) hc4 rfl h7 (fun v6 c hc5 h8 => ?_); clear h7 hc4
      refine s_ifn (ins := .if_icmp .ne 7) (t := 46) (pc' := 42) (by decide +kernel) rfl rfl rfl h8 (fun p9 h9 => ?_) (fun p9 h9 => ?_) <;> clear h8
      · exact (vX11_isSame_b46 hF) hc5 h9
      · refine s_c (v := 1) (pc' := 43) (by decide +kernel) ?_
        refine s_go (t := 47) (by decide +kernel) ?_
        exact (vX11_isSame_b47 hF) hc5 h9
set_option maxRecDepth 100000 in
set_option maxHeartbeats 4000000 in
theorem kX11_isSame {K J : Nat → Nat} {fu : Nat} {sh : HS} {I : HI} {R : HR} {F : VF} {mi pc pc' X Y X' Y' : Nat} {L : VL} {rest : List Value} {c : Nat × Nat} {l0 : Nat} {l1 : Int32} {ω : Type} {o : ω} {g : Int32 → Option ω} (hq : cQ mi pc 217 2 pc' X Y X' Y' = true) (hc : c.1 ≤ X ∧ c.2 ≤ Y) (hr : Nat.ble (catS rest) 8 = true) (h : (fX11_isSame fu sh I R l0 l1).bind g = some o) (kk : ∀ v c', (c'.1 ≤ X' ∧ c'.2 ≤ Y') → g v = some o → V K J mi pc' L ((.int v) :: rest) sh I R c' F) : V K J mi pc L (.int l1 :: .ref l0 :: rest) sh I R c F := by
  obtain ⟨r, h1, h2⟩ := bnd h
  have hT : isT sh l0 9 = true := by unfold fX11_isSame at h1; exact (gd h1).1
  have ml : mL 217 = 2 := by decide +kernel
  have mk : mK 217 = 1 := by decide +kernel
  have mc : mC 217 = 9 := by decide +kernel
  refine s_call (as := [.int l1, .ref l0]) (G := fun o' sh' I' R' => o' = .inl (some (.int r)) ∧ sh' = sh ∧ I' = I ∧ R' = R) hq hc rfl hr (by rw [ml]; rfl) (Or.inl rfl) (fun _ => Or.inl ⟨by rw [mc]; decide, by rw [mc]; exact isT_iff.mp hT⟩) (fun z => absurd (mk.symm.trans z) (by decide)) (by rw [ml]; exact vX11_isSame (F := fun o' sh' I' R' => o' = .inl (some (.int r)) ∧ sh' = sh ∧ I' = I ∧ R' = R) ⟨rfl, rfl, rfl, rfl⟩ h1) ?_ ?_ ?_
  · rintro sh' I' R' c' hc' ⟨g1, rfl, rfl, rfl⟩
    cases g1
  · rintro v' sh' I' R' c' hc' ⟨g1, rfl, rfl, rfl⟩
    cases g1
    exact kk _ _ hc' h2
  · rintro E' sh' I' R' ⟨g1, rfl, rfl, rfl⟩
    cases g1
set_option maxRecDepth 100000 in
set_option maxHeartbeats 4000000 in
def fX11_isBetween_b160 (fu : Nat) (sh : HS) (I : HI) (R : HR) (s0 : Int32) : Option Int32 :=
  (oZ s0).bind fun z11 =>
  some z11
set_option maxRecDepth 100000 in
set_option maxHeartbeats 4000000 in
theorem vX11_isBetween_b160 {K J : Nat → Nat} {fu : Nat} {sh : HS} {I : HI} {R : HR} {F : VF} {o : Int32} (hF : F (.inl (some (.int o))) sh I R) {s0 : Int32} {d0 d1 d2 d3 d4 d5 d6 d7 d8 : Option Value} {c : Nat × Nat} (hc0 : c.1 ≤ 0 ∧ c.2 ≤ 0) (h0 : fX11_isBetween_b160 fu sh I R s0 = some o) : V K J 218 160 [d0, d1, d2, d3, d4, d5, d6, d7, d8] [.int s0] sh I R c F := by
  unfold fX11_isBetween_b160 at h0
  obtain ⟨hz, h1⟩ := oZb h0
  have e9 := Option.some.inj h1; subst e9
  exact s_rz (X := 0) (Y := 0) (by decide +kernel) hz hc0 hF
set_option maxRecDepth 100000 in
set_option maxHeartbeats 4000000 in
def fX11_isBetween_b159 (fu : Nat) (sh : HS) (I : HI) (R : HR) : Option Int32 :=
  (fX11_isBetween_b160 fu sh I R) 0
set_option maxRecDepth 100000 in
set_option maxHeartbeats 4000000 in
theorem vX11_isBetween_b159 {K J : Nat → Nat} {fu : Nat} {sh : HS} {I : HI} {R : HR} {F : VF} {o : Int32} (hF : F (.inl (some (.int o))) sh I R) {d0 d1 d2 d3 d4 d5 d6 d7 d8 : Option Value} {c : Nat × Nat} (hc0 : c.1 ≤ 0 ∧ c.2 ≤ 0) (h0 : fX11_isBetween_b159 fu sh I R = some o) : V K J 218 159 [d0, d1, d2, d3, d4, d5, d6, d7, d8] [] sh I R c F := by
  unfold fX11_isBetween_b159 at h0
  refine s_c (v := 0) (pc' := 160) (by decide +kernel) ?_
  exact (vX11_isBetween_b160 hF) hc0 h0
set_option maxRecDepth 100000 in
set_option maxHeartbeats 4000000 in
def fX11_isBetween_b104 (fu : Nat) (sh : HS) (I : HI) (R : HR) : Option Int32 :=
  some 0
set_option maxRecDepth 100000 in
set_option maxHeartbeats 4000000 in
theorem vX11_isBetween_b104 {K J : Nat → Nat} {fu : Nat} {sh : HS} {I : HI} {R : HR} {F : VF} {o : Int32} (hF : F (.inl (some (.int o))) sh I R) {d0 d1 d2 d3 d4 d5 d6 d7 d8 : Option Value} {c : Nat × Nat} (hc0 : c.1 ≤ 0 ∧ c.2 ≤ 0) (h0 : fX11_isBetween_b104 fu sh I R = some o) : V K J 218 104 [d0, d1, d2, d3, d4, d5, d6, d7, d8] [] sh I R c F := by
  unfold fX11_isBetween_b104 at h0
  refine s_c (v := 0) (pc' := 105) (by decide +kernel) ?_
  have e9 := Option.some.inj h0; subst e9
  exact s_rz (X := 0) (Y := 0) (by decide +kernel) (by decide) hc0 hF
set_option maxRecDepth 100000 in
set_option maxHeartbeats 4000000 in
def fX11_isBetween_b79 (fu : Nat) (sh : HS) (I : HI) (R : HR) (l3 : Int32) (l4 : Int32) (l5 : Int32) (l6 : Int32) (l7 : Int32) (l8 : Int32) : Option Int32 :=
  (fX11_cross fu sh I R (l7 - l5) (l8 - l6) (l3 - l5) (l4 - l6)).bind fun v9 =>
  if v9 = 0 then
    ((fX11_isIn fu sh I R (l3.toInt64) ((iMin l5 l7).toInt64) ((iMax l5 l7).toInt64)).bind fun v10 =>
    if v10 = 0 then
      ((fX11_isBetween_b159 fu sh I R))
    else
      ((fX11_isIn fu sh I R (l4.toInt64) ((iMin l6 l8).toInt64) ((iMax l6 l8).toInt64)).bind fun v12 =>
      if v12 = 0 then
        ((fX11_isBetween_b159 fu sh I R))
      else
        ((fX11_isBetween_b160 fu sh I R) 1)))
  else
    ((fX11_isBetween_b104 fu sh I R))
set_option maxRecDepth 100000 in
set_option maxHeartbeats 4000000 in
theorem vX11_isBetween_b79 {K J : Nat → Nat} {fu : Nat} {sh : HS} {I : HI} {R : HR} {F : VF} {o : Int32} (hF : F (.inl (some (.int o))) sh I R) {l3 : Int32} {l4 : Int32} {l5 : Int32} {l6 : Int32} {l7 : Int32} {l8 : Int32} {d0 d1 d2 : Option Value} {c : Nat × Nat} (hc0 : c.1 ≤ 0 ∧ c.2 ≤ 0) (h0 : fX11_isBetween_b79 fu sh I R l3 l4 l5 l6 l7 l8 = some o) : V K J 218 79 [d0, d1, d2, some (.int l3), some (.int l4), some (.int l5), some (.int l6), some (.int l7), some (.int l8)] [] sh I R c F := by
  unfold fX11_isBetween_b79 at h0
  refine s_il (i := 7) (pc' := 81) (by decide +kernel) rfl ?_
  refine s_il (i := 5) (pc' := 83) (by decide +kernel) rfl ?_
  refine s_a (ins := .isub) (pc' := 84) (by decide +kernel) rfl ?_
  refine s_il (i := 8) (pc' := 86) (by decide +kernel) rfl ?_
  refine s_il (i := 6) (pc' := 88) (by decide +kernel) rfl ?_
  refine s_a (ins := .isub) (pc' := 89) (by decide +kernel) rfl ?_
  refine s_il (i := 3) (pc' := 90) (by decide +kernel) rfl ?_
  refine s_il (i := 5) (pc' := 92) (by decide +kernel) rfl ?_
  refine s_a (ins := .isub) (pc' := 93) (by decide +kernel) rfl ?_
  refine s_il (i := 4) (pc' := 95) (by decide +kernel) rfl ?_
  refine s_il (i := 6) (pc' := 97) (by decide +kernel) rfl ?_
  refine s_a (ins := .isub) (pc' := 98) (by decide +kernel) rfl ?_
  refine kX11_cross (X := 0) (Y := 0) (X' := 0) (Y' := 0) (pc' := 101) (by decide +kernel) hc0 rfl h0 (fun v9 c hc1 h1 => ?_); clear h0 hc0
  refine s_if (ins := .ifCond .eq 5) (t := 106) (pc' := 104) (by decide +kernel) rfl rfl rfl h1 (fun p2 h2 => ?_) (fun p2 h2 => ?_) <;> clear h1
  · refine s_il (i := 3) (pc' := 107) (by decide +kernel) rfl ?_
    refine s_a (ins := .i2l) (pc' := 108) (by decide +kernel) rfl ?_
    refine s_il (i := 5) (pc' := 110) (by decide +kernel) rfl ?_
    refine s_il (i := 7) (pc' := 112) (by decide +kernel) rfl ?_
    refine s_min (X := 0) (Y := 0) (pc' := 115) (by decide +kernel) hc1 rfl ?_
    refine s_a (ins := .i2l) (pc' := 116) (by decide +kernel) rfl ?_
    refine s_il (i := 5) (pc' := 118) (by decide +kernel) rfl ?_
    refine s_il (i := 7) (pc' := 120) (by decide +kernel) rfl ?_
    refine s_max (X := 0) (Y := 0) (pc' := 123) (by decide +kernel) hc1 rfl ?_
    refine s_a (ins := .i2l) (pc' := 124) (by decide +kernel) rfl ?_
    refine kX11_isIn (X := 0) (Y := 0) (X' := 0) (Y' := 0) (pc' := 127) (by decide +kernel) hc1 rfl h2 (fun v10 c hc2 h3 => ?_); clear h2 hc1
    refine s_if (ins := .ifCond .eq 32) (t := 159) (pc' := 130) (by decide +kernel) rfl rfl rfl h3 (fun p4 h4 => ?_) (fun p4 h4 => ?_) <;> clear h3
    · exact (vX11_isBetween_b159 hF) hc2 h4
    · refine s_il (i := 4) (pc' := 132) (by decide +kernel) rfl ?_
      refine s_a (ins := .i2l) (pc' := 133) (by decide +kernel) rfl ?_
      refine s_il (i := 6) (pc' := 135) (by decide +kernel) rfl ?_
      refine s_il (i := 8) (pc' := 137) (by decide +kernel) rfl ?_
      refine s_min (X := 0) (Y := 0) (pc' := 140) (by decide +kernel) hc2 rfl ?_
      refine s_a (ins := .i2l) (pc' := 141) (by decide +kernel) rfl ?_
      refine s_il (i := 6) (pc' := 143) (by decide +kernel) rfl ?_
      refine s_il (i := 8) (pc' := 145) (by decide +kernel) rfl ?_
      refine s_max (X := 0) (Y := 0) (pc' := 148) (by decide +kernel) hc2 rfl ?_
      refine s_a (ins := .i2l) (pc' := 149) (by decide +kernel) rfl ?_
      refine kX11_isIn (X := 0) (Y := 0) (X' := 0) (Y' := 0) (pc' := 152) (by decide +kernel) hc2 rfl h4 (fun v12 c hc3 h5 => ?_); clear h4 hc2
      refine s_if (ins := .ifCond .eq 7) (t := 159) (pc' := 155) (by decide +kernel) rfl rfl rfl h5 (fun p6 h6 => ?_) (fun p6 h6 => ?_) <;> clear h5
      · exact (vX11_isBetween_b159 hF) hc3 h6
      · refine s_c (v := 1) (pc' := 156) (by decide +kernel) ?_
        refine s_go (t := 160) (by decide +kernel) ?_
        exact (vX11_isBetween_b160 hF) hc3 h6
  · exact (vX11_isBetween_b104 hF) hc1 h2
set_option maxRecDepth 100000 in
set_option maxHeartbeats 4000000 in
def fX11_isBetween_b66 (fu : Nat) (sh : HS) (I : HI) (R : HR) (l3 : Int32) (l4 : Int32) (l5 : Int32) (l6 : Int32) (l7 : Int32) (l8 : Int32) : Option Int32 :=
  if l3 = l7 then
    (if l4 = l8 then
      ((fX11_isBetween_b104 fu sh I R))
    else
      ((fX11_isBetween_b79 fu sh I R) l3 l4 l5 l6 l7 l8))
  else
    ((fX11_isBetween_b79 fu sh I R) l3 l4 l5 l6 l7 l8)
set_option maxRecDepth 100000 in
set_option maxHeartbeats 4000000 in
theorem vX11_isBetween_b66 {K J : Nat → Nat} {fu : Nat} {sh : HS} {I : HI} {R : HR} {F : VF} {o : Int32} (hF : F (.inl (some (.int o))) sh I R) {l3 : Int32} {l4 : Int32} {l5 : Int32} {l6 : Int32} {l7 : Int32} {l8 : Int32} {d0 d1 d2 : Option Value} {c : Nat × Nat} (hc0 : c.1 ≤ 0 ∧ c.2 ≤ 0) (h0 : fX11_isBetween_b66 fu sh I R l3 l4 l5 l6 l7 l8 = some o) : V K J 218 66 [d0, d1, d2, some (.int l3), some (.int l4), some (.int l5), some (.int l6), some (.int l7), some (.int l8)] [] sh I R c F := by
  unfold fX11_isBetween_b66 at h0
  refine s_il (i := 3) (pc' := 67) (by decide +kernel) rfl ?_
  refine s_il (i := 7) (pc' := 69) (by decide +kernel) rfl ?_
  refine s_ifn (ins := .if_icmp .ne 10) (t := 79) (pc' := 72) (by decide +kernel) rfl rfl rfl h0 (fun p1 h1 => ?_) (fun p1 h1 => ?_) <;> clear h0
  · exact (vX11_isBetween_b79 hF) hc0 h1
  · refine s_il (i := 4) (pc' := 74) (by decide +kernel) rfl ?_
    refine s_il (i := 8) (pc' := 76) (by decide +kernel) rfl ?_
    refine s_if (ins := .if_icmp .eq 28) (t := 104) (pc' := 79) (by decide +kernel) rfl rfl rfl h1 (fun p2 h2 => ?_) (fun p2 h2 => ?_) <;> clear h1
    · exact (vX11_isBetween_b104 hF) hc0 h2
    · exact (vX11_isBetween_b79 hF) hc0 h2
set_option maxRecDepth 100000 in
set_option maxHeartbeats 4000000 in
def fX11_isBetween (fu : Nat) (sh : HS) (I : HI) (R : HR) (l0 : Nat) (l1 : Int32) (l2 : Int32) : Option Int32 :=
  if isT sh l0 9 = true then
    ((fX11_sceneOf fu sh I R l0 l1).bind fun v1 =>
    (fX11_actorX fu sh I R l0 v1 l2).bind fun v2 =>
    (fX11_sceneOf fu sh I R l0 l1).bind fun v3 =>
    (fX11_actorY fu sh I R l0 v3 l2).bind fun v4 =>
    (fX11_get fu sh I R l0 l1 1).bind fun v5 =>
    (fX11_get fu sh I R l0 l1 2).bind fun v6 =>
    (fX11_subjectX fu sh I R l0 l1).bind fun v7 =>
    (fX11_subjectY fu sh I R l0 l1).bind fun v8 =>
    if v2 = v5 then
      (if v4 = v6 then
        ((fX11_isBetween_b104 fu sh I R))
      else
        ((fX11_isBetween_b66 fu sh I R) v2 v4 v5 v6 v7 v8))
    else
      ((fX11_isBetween_b66 fu sh I R) v2 v4 v5 v6 v7 v8))
  else none
set_option maxRecDepth 100000 in
set_option maxHeartbeats 4000000 in
theorem vX11_isBetween {K J : Nat → Nat} {fu : Nat} {sh : HS} {I : HI} {R : HR} {F : VF} {o : Int32} (hF : F (.inl (some (.int o))) sh I R) {l0 : Nat} {l1 : Int32} {l2 : Int32} (h0 : fX11_isBetween fu sh I R l0 l1 l2 = some o) : V K J 218 0 (ent 9 [.ref l0, .int l1, .int l2]) [] sh I R (0, 0) F := by
  unfold fX11_isBetween at h0
  obtain ⟨-, h1⟩ := gd h0; clear h0
  have hc0 : ((0 : Nat), (0 : Nat)).1 ≤ 0 ∧ ((0 : Nat), (0 : Nat)).2 ≤ 0 := ⟨Nat.le_refl _, Nat.le_refl _⟩
  show V K J 218 0 [some (.ref l0), some (.int l1), some (.int l2), none, none, none, none, none, none] [] sh I R (0, 0) F
  refine s_rl (i := 0) (pc' := 1) (by decide +kernel) rfl ?_
  refine s_rl (i := 0) (pc' := 2) (by decide +kernel) rfl ?_
  refine s_il (i := 1) (pc' := 3) (by decide +kernel) rfl ?_
  refine kX11_sceneOf (X := 0) (Y := 0) (X' := 0) (Y' := 0) (pc' := 6) (by decide +kernel) hc0 rfl h1 (fun v1 c hc1 h2 => ?_); clear h1 hc0
  refine s_il (i := 2) (pc' := 7) (by decide +kernel) rfl ?_
  refine kX11_actorX (X := 0) (Y := 0) (X' := 0) (Y' := 0) (pc' := 10) (by decide +kernel) hc1 rfl h2 (fun v2 c hc2 h3 => ?_); clear h2 hc1
  refine s_is (i := 3) (pc' := 11) (L' := [some (.ref l0), some (.int l1), some (.int l2), some (.int v2), none, none, none, none, none]) (by decide +kernel) rfl rfl ?_
  refine s_rl (i := 0) (pc' := 12) (by decide +kernel) rfl ?_
  refine s_rl (i := 0) (pc' := 13) (by decide +kernel) rfl ?_
  refine s_il (i := 1) (pc' := 14) (by decide +kernel) rfl ?_
  refine kX11_sceneOf (X := 0) (Y := 0) (X' := 0) (Y' := 0) (pc' := 17) (by decide +kernel) hc2 rfl h3 (fun v3 c hc3 h4 => ?_); clear h3 hc2
  refine s_il (i := 2) (pc' := 18) (by decide +kernel) rfl ?_
  refine kX11_actorY (X := 0) (Y := 0) (X' := 0) (Y' := 0) (pc' := 21) (by decide +kernel) hc3 rfl h4 (fun v4 c hc4 h5 => ?_); clear h4 hc3
  refine s_is (i := 4) (pc' := 23) (L' := [some (.ref l0), some (.int l1), some (.int l2), some (.int v2), some (.int v4), none, none, none, none]) (by decide +kernel) rfl rfl ?_
  refine s_rl (i := 0) (pc' := 24) (by decide +kernel) rfl ?_
  refine s_il (i := 1) (pc' := 25) (by decide +kernel) rfl ?_
  refine s_c (v := 1) (pc' := 26) (by decide +kernel) ?_
  refine kX11_get (X := 0) (Y := 0) (X' := 0) (Y' := 0) (pc' := 29) (by decide +kernel) hc4 rfl h5 (fun v5 c hc5 h6 => ?_); clear h5 hc4
  refine s_is (i := 5) (pc' := 31) (L' := [some (.ref l0), some (.int l1), some (.int l2), some (.int v2), some (.int v4), some (.int v5), none, none, none]) (by decide +kernel) rfl rfl ?_
  refine s_rl (i := 0) (pc' := 32) (by decide +kernel) rfl ?_
  refine s_il (i := 1) (pc' := 33) (by decide +kernel) rfl ?_
  refine s_c (v := 2) (pc' := 34) (by decide +kernel) ?_
  refine kX11_get (X := 0) (Y := 0) (X' := 0) (Y' := 0) (pc' := 37) (by decide +kernel) hc5 rfl h6 (fun v6 c hc6 h7 => ?_); clear h6 hc5
  refine s_is (i := 6) (pc' := 39) (L' := [some (.ref l0), some (.int l1), some (.int l2), some (.int v2), some (.int v4), some (.int v5), some (.int v6), none, none]) (by decide +kernel) rfl rfl ?_
  refine s_rl (i := 0) (pc' := 40) (by decide +kernel) rfl ?_
  refine s_il (i := 1) (pc' := 41) (by decide +kernel) rfl ?_
  refine kX11_subjectX (X := 0) (Y := 0) (X' := 0) (Y' := 0) (pc' := 44) (by decide +kernel) hc6 rfl h7 (fun v7 c hc7 h8 => ?_); clear h7 hc6
  refine s_is (i := 7) (pc' := 46) (L' := [some (.ref l0), some (.int l1), some (.int l2), some (.int v2), some (.int v4), some (.int v5), some (.int v6), some (.int v7), none]) (by decide +kernel) rfl rfl ?_
  refine s_rl (i := 0) (pc' := 47) (by decide +kernel) rfl ?_
  refine s_il (i := 1) (pc' := 48) (by decide +kernel) rfl ?_
  refine kX11_subjectY (X := 0) (Y := 0) (X' := 0) (Y' := 0) (pc' := 51) (by decide +kernel) hc7 rfl h8 (fun v8 c hc8 h9 => ?_); clear h8 hc7
  refine s_is (i := 8) (pc' := 53) (L' := [some (.ref l0), some (.int l1), some (.int l2), some (.int v2), some (.int v4), some (.int v5), some (.int v6), some (.int v7), some (.int v8)]) (by decide +kernel) rfl rfl ?_
  refine s_il (i := 3) (pc' := 54) (by decide +kernel) rfl ?_
  refine s_il (i := 5) (pc' := 56) (by decide +kernel) rfl ?_
  refine s_ifn (ins := .if_icmp .ne 10) (t := 66) (pc' := 59) (by decide +kernel) rfl rfl rfl h9 (fun p10 h10 => ?_) (fun p10 h10 => ?_) <;> clear h9
  · exact (vX11_isBetween_b66 hF) hc8 h10
  · refine s_il (i := 4) (pc' := 61) (by decide +kernel) rfl ?_
    refine s_il (i := 6) (pc' := 63) (by decide +kernel) rfl ?_
    refine s_if (ins := .if_icmp .eq 41) (t := 104) (pc' := 66) (by decide +kernel) rfl rfl rfl h10 (fun p11 h11 => ?_) (fun p11 h11 => ?_) <;> clear h10
    · exact (vX11_isBetween_b104 hF) hc8 h11
    · exact (vX11_isBetween_b66 hF) hc8 h11
set_option maxRecDepth 100000 in
set_option maxHeartbeats 4000000 in
theorem kX11_isBetween {K J : Nat → Nat} {fu : Nat} {sh : HS} {I : HI} {R : HR} {F : VF} {mi pc pc' X Y X' Y' : Nat} {L : VL} {rest : List Value} {c : Nat × Nat} {l0 : Nat} {l1 : Int32} {l2 : Int32} {ω : Type} {o : ω} {g : Int32 → Option ω} (hq : cQ mi pc 218 3 pc' X Y X' Y' = true) (hc : c.1 ≤ X ∧ c.2 ≤ Y) (hr : Nat.ble (catS rest) 8 = true) (h : (fX11_isBetween fu sh I R l0 l1 l2).bind g = some o) (kk : ∀ v c', (c'.1 ≤ X' ∧ c'.2 ≤ Y') → g v = some o → V K J mi pc' L ((.int v) :: rest) sh I R c' F) : V K J mi pc L (.int l2 :: .int l1 :: .ref l0 :: rest) sh I R c F := by
  obtain ⟨r, h1, h2⟩ := bnd h
  have hT : isT sh l0 9 = true := by unfold fX11_isBetween at h1; exact (gd h1).1
  have ml : mL 218 = 9 := by decide +kernel
  have mk : mK 218 = 1 := by decide +kernel
  have mc : mC 218 = 9 := by decide +kernel
  refine s_call (as := [.int l2, .int l1, .ref l0]) (G := fun o' sh' I' R' => o' = .inl (some (.int r)) ∧ sh' = sh ∧ I' = I ∧ R' = R) hq hc rfl hr (by rw [ml]; rfl) (Or.inl rfl) (fun _ => Or.inl ⟨by rw [mc]; decide, by rw [mc]; exact isT_iff.mp hT⟩) (fun z => absurd (mk.symm.trans z) (by decide)) (by rw [ml]; exact vX11_isBetween (F := fun o' sh' I' R' => o' = .inl (some (.int r)) ∧ sh' = sh ∧ I' = I ∧ R' = R) ⟨rfl, rfl, rfl, rfl⟩ h1) ?_ ?_ ?_
  · rintro sh' I' R' c' hc' ⟨g1, rfl, rfl, rfl⟩
    cases g1
  · rintro v' sh' I' R' c' hc' ⟨g1, rfl, rfl, rfl⟩
    cases g1
    exact kk _ _ hc' h2
  · rintro E' sh' I' R' ⟨g1, rfl, rfl, rfl⟩
    cases g1
set_option maxRecDepth 100000 in
set_option maxHeartbeats 4000000 in
def fX11_blocker_b45 (fu : Nat) (sh : HS) (I : HI) (R : HR) (k2 : Nat → Int32 → Int32 → Option Int32) (l0 : Nat) (l1 : Int32) (l2 : Int32) : Option Int32 :=
  k2 l0 l1 (l2 + 1)
set_option maxRecDepth 100000 in
set_option maxHeartbeats 4000000 in
theorem vX11_blocker_b45 {K J : Nat → Nat} {fu : Nat} {sh : HS} {I : HI} {R : HR} {F : VF} {o : Int32} (hF : F (.inl (some (.int o))) sh I R) {k2 : Nat → Int32 → Int32 → Option Int32} (hk2 : ∀ {l0 : Nat} {l1 : Int32} {l2 : Int32}  {c : Nat × Nat}, (c.1 ≤ 0 ∧ c.2 ≤ 0) → k2 l0 l1 l2 = some o → V K J 219 2 [some (.ref l0), some (.int l1), some (.int l2)] [] sh I R c F) {l0 : Nat} {l1 : Int32} {l2 : Int32} {c : Nat × Nat} (hc0 : c.1 ≤ 0 ∧ c.2 ≤ 0) (h0 : fX11_blocker_b45 fu sh I R k2 l0 l1 l2 = some o) : V K J 219 45 [some (.ref l0), some (.int l1), some (.int l2)] [] sh I R c F := by
  unfold fX11_blocker_b45 at h0
  refine s_inc (i := 2) (z := 1) (pc' := 48) (L' := [some (.ref l0), some (.int l1), some (.int (l2 + 1))]) (by decide +kernel) rfl rfl rfl ?_
  refine s_go (t := 2) (by decide +kernel) ?_
  exact hk2 hc0 h0
set_option maxRecDepth 100000 in
set_option maxHeartbeats 4000000 in
def fX11_blocker_b2 (fu : Nat) (sh : HS) (I : HI) (R : HR) (k2 : Nat → Int32 → Int32 → Option Int32) (l0 : Nat) (l1 : Int32) (l2 : Int32) : Option Int32 :=
  if 6 ≤ l2 then
    (some (-1))
  else
    ((fX11_get fu sh I R l0 l1 3).bind fun v1 =>
    if l2 = v1 then
      ((fX11_blocker_b45 fu sh I R k2) l0 l1 l2)
    else
      ((fX11_sceneOf fu sh I R l0 l1).bind fun v2 =>
      (fX11_actorsOf fu sh I R l0 v2).bind fun v3 =>
      (fX11_has fu sh I R v3 l2).bind fun v4 =>
      if v4 = 0 then
        ((fX11_blocker_b45 fu sh I R k2) l0 l1 l2)
      else
        ((fX11_isBetween fu sh I R l0 l1 l2).bind fun v5 =>
        if v5 = 0 then
          ((fX11_blocker_b45 fu sh I R k2) l0 l1 l2)
        else
          (some l2))))
set_option maxRecDepth 100000 in
set_option maxHeartbeats 4000000 in
theorem vX11_blocker_b2 {K J : Nat → Nat} {fu : Nat} {sh : HS} {I : HI} {R : HR} {F : VF} {o : Int32} (hF : F (.inl (some (.int o))) sh I R) {k2 : Nat → Int32 → Int32 → Option Int32} (hk2 : ∀ {l0 : Nat} {l1 : Int32} {l2 : Int32}  {c : Nat × Nat}, (c.1 ≤ 0 ∧ c.2 ≤ 0) → k2 l0 l1 l2 = some o → V K J 219 2 [some (.ref l0), some (.int l1), some (.int l2)] [] sh I R c F) {l0 : Nat} {l1 : Int32} {l2 : Int32} {c : Nat × Nat} (hc0 : c.1 ≤ 0 ∧ c.2 ≤ 0) (h0 : fX11_blocker_b2 fu sh I R k2 l0 l1 l2 = some o) : V K J 219 2 [some (.ref l0), some (.int l1), some (.int l2)] [] sh I R c F := by
  unfold fX11_blocker_b2 at h0
  refine s_il (i := 2) (pc' := 3) (by decide +kernel) rfl ?_
  refine s_c (v := 6) (pc' := 5) (by decide +kernel) ?_
  refine s_if (ins := .if_icmp .ge 46) (t := 51) (pc' := 8) (by decide +kernel) rfl rfl rfl h0 (fun p1 h1 => ?_) (fun p1 h1 => ?_) <;> clear h0
  · refine s_c (v := (-1)) (pc' := 52) (by decide +kernel) ?_
    have e9 := Option.some.inj h1; subst e9
    exact s_ri (X := 0) (Y := 0) (by decide +kernel) hc0 hF
  · refine s_il (i := 2) (pc' := 9) (by decide +kernel) rfl ?_
    refine s_rl (i := 0) (pc' := 10) (by decide +kernel) rfl ?_
    refine s_il (i := 1) (pc' := 11) (by decide +kernel) rfl ?_
    refine s_c (v := 3) (pc' := 12) (by decide +kernel) ?_
    refine kX11_get (X := 0) (Y := 0) (X' := 0) (Y' := 0) (pc' := 15) (by decide +kernel) hc0 rfl h1 (fun v1 c hc1 h2 => ?_); clear h1 hc0
    refine s_if (ins := .if_icmp .eq 30) (t := 45) (pc' := 18) (by decide +kernel) rfl rfl rfl h2 (fun p3 h3 => ?_) (fun p3 h3 => ?_) <;> clear h2
    · exact (vX11_blocker_b45 hF hk2) hc1 h3
    · refine s_rl (i := 0) (pc' := 19) (by decide +kernel) rfl ?_
      refine s_rl (i := 0) (pc' := 20) (by decide +kernel) rfl ?_
      refine s_il (i := 1) (pc' := 21) (by decide +kernel) rfl ?_
      refine kX11_sceneOf (X := 0) (Y := 0) (X' := 0) (Y' := 0) (pc' := 24) (by decide +kernel) hc1 rfl h3 (fun v2 c hc2 h4 => ?_); clear h3 hc1
      refine kX11_actorsOf (X := 0) (Y := 0) (X' := 0) (Y' := 0) (pc' := 27) (by decide +kernel) hc2 rfl h4 (fun v3 c hc3 h5 => ?_); clear h4 hc2
      refine s_il (i := 2) (pc' := 28) (by decide +kernel) rfl ?_
      refine kX11_has (X := 0) (Y := 0) (X' := 0) (Y' := 0) (pc' := 31) (by decide +kernel) hc3 rfl h5 (fun v4 c hc4 h6 => ?_); clear h5 hc3
      refine s_if (ins := .ifCond .eq 14) (t := 45) (pc' := 34) (by decide +kernel) rfl rfl rfl h6 (fun p7 h7 => ?_) (fun p7 h7 => ?_) <;> clear h6
      · exact (vX11_blocker_b45 hF hk2) hc4 h7
      · refine s_rl (i := 0) (pc' := 35) (by decide +kernel) rfl ?_
        refine s_il (i := 1) (pc' := 36) (by decide +kernel) rfl ?_
        refine s_il (i := 2) (pc' := 37) (by decide +kernel) rfl ?_
        refine kX11_isBetween (X := 0) (Y := 0) (X' := 0) (Y' := 0) (pc' := 40) (by decide +kernel) hc4 rfl h7 (fun v5 c hc5 h8 => ?_); clear h7 hc4
        refine s_if (ins := .ifCond .eq 5) (t := 45) (pc' := 43) (by decide +kernel) rfl rfl rfl h8 (fun p9 h9 => ?_) (fun p9 h9 => ?_) <;> clear h8
        · exact (vX11_blocker_b45 hF hk2) hc5 h9
        · refine s_il (i := 2) (pc' := 44) (by decide +kernel) rfl ?_
          have e9 := Option.some.inj h9; subst e9
          exact s_ri (X := 0) (Y := 0) (by decide +kernel) hc5 hF
set_option maxRecDepth 100000 in
set_option maxHeartbeats 4000000 in
def fX11_blocker_l2 (fu : Nat) (sh : HS) (I : HI) (R : HR) : Nat → Nat → Int32 → Int32 → Option Int32
  | 0 => fun _ _ _ => none
  | n + 1 => fX11_blocker_b2 fu sh I R (fX11_blocker_l2 fu sh I R n)
set_option maxRecDepth 100000 in
set_option maxHeartbeats 4000000 in
theorem vX11_blocker_l2 {K J : Nat → Nat} {fu : Nat} {sh : HS} {I : HI} {R : HR} {F : VF} {o : Int32} (hF : F (.inl (some (.int o))) sh I R) : ∀ (n : Nat) {l0 : Nat} {l1 : Int32} {l2 : Int32} {c : Nat × Nat} (_ : c.1 ≤ 0 ∧ c.2 ≤ 0) (_ : fX11_blocker_l2 fu sh I R n l0 l1 l2 = some o), V K J 219 2 [some (.ref l0), some (.int l1), some (.int l2)] [] sh I R c F := by
  intro n
  induction n with
  | zero => exact fun _ h0 => nomatch h0
  | succ n ih => exact fun hc0 h0 => vX11_blocker_b2 hF ih hc0 h0
set_option maxRecDepth 100000 in
set_option maxHeartbeats 4000000 in
def fX11_blocker (fu : Nat) (sh : HS) (I : HI) (R : HR) (l0 : Nat) (l1 : Int32) : Option Int32 :=
  if isT sh l0 9 = true then
    ((fX11_blocker_l2 fu sh I R fu) l0 l1 0)
  else none
set_option maxRecDepth 100000 in
set_option maxHeartbeats 4000000 in
theorem vX11_blocker {K J : Nat → Nat} {fu : Nat} {sh : HS} {I : HI} {R : HR} {F : VF} {o : Int32} (hF : F (.inl (some (.int o))) sh I R) {l0 : Nat} {l1 : Int32} (h0 : fX11_blocker fu sh I R l0 l1 = some o) : V K J 219 0 (ent 3 [.ref l0, .int l1]) [] sh I R (0, 0) F := by
  unfold fX11_blocker at h0
  obtain ⟨-, h1⟩ := gd h0; clear h0
  have hc0 : ((0 : Nat), (0 : Nat)).1 ≤ 0 ∧ ((0 : Nat), (0 : Nat)).2 ≤ 0 := ⟨Nat.le_refl _, Nat.le_refl _⟩
  show V K J 219 0 [some (.ref l0), some (.int l1), none] [] sh I R (0, 0) F
  refine s_c (v := 0) (pc' := 1) (by decide +kernel) ?_
  refine s_is (i := 2) (pc' := 2) (L' := [some (.ref l0), some (.int l1), some (.int 0)]) (by decide +kernel) rfl rfl ?_
  exact (vX11_blocker_l2 hF fu) hc0 h1
set_option maxRecDepth 100000 in
set_option maxHeartbeats 4000000 in
theorem kX11_blocker {K J : Nat → Nat} {fu : Nat} {sh : HS} {I : HI} {R : HR} {F : VF} {mi pc pc' X Y X' Y' : Nat} {L : VL} {rest : List Value} {c : Nat × Nat} {l0 : Nat} {l1 : Int32} {ω : Type} {o : ω} {g : Int32 → Option ω} (hq : cQ mi pc 219 2 pc' X Y X' Y' = true) (hc : c.1 ≤ X ∧ c.2 ≤ Y) (hr : Nat.ble (catS rest) 8 = true) (h : (fX11_blocker fu sh I R l0 l1).bind g = some o) (kk : ∀ v c', (c'.1 ≤ X' ∧ c'.2 ≤ Y') → g v = some o → V K J mi pc' L ((.int v) :: rest) sh I R c' F) : V K J mi pc L (.int l1 :: .ref l0 :: rest) sh I R c F := by
  obtain ⟨r, h1, h2⟩ := bnd h
  have hT : isT sh l0 9 = true := by unfold fX11_blocker at h1; exact (gd h1).1
  have ml : mL 219 = 3 := by decide +kernel
  have mk : mK 219 = 1 := by decide +kernel
  have mc : mC 219 = 9 := by decide +kernel
  refine s_call (as := [.int l1, .ref l0]) (G := fun o' sh' I' R' => o' = .inl (some (.int r)) ∧ sh' = sh ∧ I' = I ∧ R' = R) hq hc rfl hr (by rw [ml]; rfl) (Or.inl rfl) (fun _ => Or.inl ⟨by rw [mc]; decide, by rw [mc]; exact isT_iff.mp hT⟩) (fun z => absurd (mk.symm.trans z) (by decide)) (by rw [ml]; exact vX11_blocker (F := fun o' sh' I' R' => o' = .inl (some (.int r)) ∧ sh' = sh ∧ I' = I ∧ R' = R) ⟨rfl, rfl, rfl, rfl⟩ h1) ?_ ?_ ?_
  · rintro sh' I' R' c' hc' ⟨g1, rfl, rfl, rfl⟩
    cases g1
  · rintro v' sh' I' R' c' hc' ⟨g1, rfl, rfl, rfl⟩
    cases g1
    exact kk _ _ hc' h2
  · rintro E' sh' I' R' ⟨g1, rfl, rfl, rfl⟩
    cases g1
set_option maxRecDepth 100000 in
set_option maxHeartbeats 4000000 in
def fX11_kindsOf_b140 (fu : Nat) (sh : HS) (I : HI) (R : HR) (s0 : Int32) (s1 : Int32) : Option Int32 :=
  some (s1 ||| s0)
set_option maxRecDepth 100000 in
set_option maxHeartbeats 4000000 in
theorem vX11_kindsOf_b140 {K J : Nat → Nat} {fu : Nat} {sh : HS} {I : HI} {R : HR} {F : VF} {o : Int32} (hF : F (.inl (some (.int o))) sh I R) {s0 : Int32} {s1 : Int32} {d0 d1 d2 : Option Value} {c : Nat × Nat} (hc0 : c.1 ≤ 0 ∧ c.2 ≤ 0) (h0 : fX11_kindsOf_b140 fu sh I R s0 s1 = some o) : V K J 220 140 [d0, d1, d2] [.int s0, .int s1] sh I R c F := by
  unfold fX11_kindsOf_b140 at h0
  refine s_a (ins := .ior) (pc' := 141) (by decide +kernel) rfl ?_
  refine s_is (i := 2) (pc' := 142) (L' := [d0, d1, some (.int (s1 ||| s0))]) (by decide +kernel) rfl rfl ?_
  refine s_il (i := 2) (pc' := 143) (by decide +kernel) rfl ?_
  have e9 := Option.some.inj h0; subst e9
  exact s_ri (X := 0) (Y := 0) (by decide +kernel) hc0 hF
set_option maxRecDepth 100000 in
set_option maxHeartbeats 4000000 in
def fX11_kindsOf_b139 (fu : Nat) (sh : HS) (I : HI) (R : HR) (s0 : Int32) : Option Int32 :=
  (fX11_kindsOf_b140 fu sh I R) 0 s0
set_option maxRecDepth 100000 in
set_option maxHeartbeats 4000000 in
theorem vX11_kindsOf_b139 {K J : Nat → Nat} {fu : Nat} {sh : HS} {I : HI} {R : HR} {F : VF} {o : Int32} (hF : F (.inl (some (.int o))) sh I R) {s0 : Int32} {d0 d1 d2 : Option Value} {c : Nat × Nat} (hc0 : c.1 ≤ 0 ∧ c.2 ≤ 0) (h0 : fX11_kindsOf_b139 fu sh I R s0 = some o) : V K J 220 139 [d0, d1, d2] [.int s0] sh I R c F := by
  unfold fX11_kindsOf_b139 at h0
  refine s_c (v := 0) (pc' := 140) (by decide +kernel) ?_
  exact (vX11_kindsOf_b140 hF) hc0 h0
set_option maxRecDepth 100000 in
set_option maxHeartbeats 4000000 in
def fX11_kindsOf_b98 (fu : Nat) (sh : HS) (I : HI) (R : HR) (l0 : Nat) (l1 : Int32) (s0 : Int32) (s1 : Int32) : Option Int32 :=
  (fX11_get fu sh I R l0 l1 3).bind fun v7 =>
  (fX11_get fu sh I R l0 (l1 - 1) 3).bind fun v8 =>
  if v7 = v8 then
    ((oR sh R l0 9 0).bind fun v9 =>
    (oA sh I v9 0).bind fun v10 =>
    (fX11_areNear fu sh I R l0 l1 (l1 - 1) v10).bind fun v11 =>
    if v11 = 0 then
      ((fX11_kindsOf_b139 fu sh I R) (s1 ||| s0))
    else
      ((fX11_kindsOf_b140 fu sh I R) 4 (s1 ||| s0)))
  else
    ((fX11_kindsOf_b139 fu sh I R) (s1 ||| s0))
set_option maxRecDepth 100000 in
set_option maxHeartbeats 4000000 in
theorem vX11_kindsOf_b98 {K J : Nat → Nat} {fu : Nat} {sh : HS} {I : HI} {R : HR} {F : VF} {o : Int32} (hF : F (.inl (some (.int o))) sh I R) {l0 : Nat} {l1 : Int32} {s0 : Int32} {s1 : Int32} {d2 : Option Value} {c : Nat × Nat} (hc0 : c.1 ≤ 0 ∧ c.2 ≤ 0) (h0 : fX11_kindsOf_b98 fu sh I R l0 l1 s0 s1 = some o) : V K J 220 98 [some (.ref l0), some (.int l1), d2] [.int s0, .int s1] sh I R c F := by
  unfold fX11_kindsOf_b98 at h0
  refine s_a (ins := .ior) (pc' := 99) (by decide +kernel) rfl ?_
  refine s_is (i := 2) (pc' := 100) (L' := [some (.ref l0), some (.int l1), some (.int (s1 ||| s0))]) (by decide +kernel) rfl rfl ?_
  refine s_il (i := 2) (pc' := 101) (by decide +kernel) rfl ?_
  refine s_rl (i := 0) (pc' := 102) (by decide +kernel) rfl ?_
  refine s_il (i := 1) (pc' := 103) (by decide +kernel) rfl ?_
  refine s_c (v := 3) (pc' := 104) (by decide +kernel) ?_
  refine kX11_get (X := 0) (Y := 0) (X' := 0) (Y' := 0) (pc' := 107) (by decide +kernel) hc0 rfl h0 (fun v7 c hc1 h1 => ?_); clear h0 hc0
  refine s_rl (i := 0) (pc' := 108) (by decide +kernel) rfl ?_
  refine s_il (i := 1) (pc' := 109) (by decide +kernel) rfl ?_
  refine s_c (v := 1) (pc' := 110) (by decide +kernel) ?_
  refine s_a (ins := .isub) (pc' := 111) (by decide +kernel) rfl ?_
  refine s_c (v := 3) (pc' := 112) (by decide +kernel) ?_
  refine kX11_get (X := 0) (Y := 0) (X' := 0) (Y' := 0) (pc' := 115) (by decide +kernel) hc1 rfl h1 (fun v8 c hc2 h2 => ?_); clear h1 hc1
  refine s_ifn (ins := .if_icmp .ne 24) (t := 139) (pc' := 118) (by decide +kernel) rfl rfl rfl h2 (fun p3 h3 => ?_) (fun p3 h3 => ?_) <;> clear h2
  · exact (vX11_kindsOf_b139 hF) hc2 h3
  · refine s_rl (i := 0) (pc' := 119) (by decide +kernel) rfl ?_
    refine s_il (i := 1) (pc' := 120) (by decide +kernel) rfl ?_
    refine s_il (i := 1) (pc' := 121) (by decide +kernel) rfl ?_
    refine s_c (v := 1) (pc' := 122) (by decide +kernel) ?_
    refine s_a (ins := .isub) (pc' := 123) (by decide +kernel) rfl ?_
    refine s_rl (i := 0) (pc' := 124) (by decide +kernel) rfl ?_
    refine s_gR (t := 9) (j := 0) (pc' := 127) (by decide +kernel) h3 (fun v9 h4 => ?_); clear h3
    refine s_c (v := 0) (pc' := 128) (by decide +kernel) ?_
    refine s_al (pc' := 129) (by decide +kernel) h4 (fun v10 h5 => ?_); clear h4
    refine kX11_areNear (X := 0) (Y := 0) (X' := 0) (Y' := 0) (pc' := 132) (by decide +kernel) hc2 rfl h5 (fun v11 c hc3 h6 => ?_); clear h5 hc2
    refine s_if (ins := .ifCond .eq 7) (t := 139) (pc' := 135) (by decide +kernel) rfl rfl rfl h6 (fun p7 h7 => ?_) (fun p7 h7 => ?_) <;> clear h6
    · exact (vX11_kindsOf_b139 hF) hc3 h7
    · refine s_c (v := 4) (pc' := 136) (by decide +kernel) ?_
      refine s_go (t := 140) (by decide +kernel) ?_
      exact (vX11_kindsOf_b140 hF) hc3 h7
set_option maxRecDepth 100000 in
set_option maxHeartbeats 4000000 in
def fX11_kindsOf_b97 (fu : Nat) (sh : HS) (I : HI) (R : HR) (l0 : Nat) (l1 : Int32) (s0 : Int32) : Option Int32 :=
  (fX11_kindsOf_b98 fu sh I R) l0 l1 0 s0
set_option maxRecDepth 100000 in
set_option maxHeartbeats 4000000 in
theorem vX11_kindsOf_b97 {K J : Nat → Nat} {fu : Nat} {sh : HS} {I : HI} {R : HR} {F : VF} {o : Int32} (hF : F (.inl (some (.int o))) sh I R) {l0 : Nat} {l1 : Int32} {s0 : Int32} {d2 : Option Value} {c : Nat × Nat} (hc0 : c.1 ≤ 0 ∧ c.2 ≤ 0) (h0 : fX11_kindsOf_b97 fu sh I R l0 l1 s0 = some o) : V K J 220 97 [some (.ref l0), some (.int l1), d2] [.int s0] sh I R c F := by
  unfold fX11_kindsOf_b97 at h0
  refine s_c (v := 0) (pc' := 98) (by decide +kernel) ?_
  exact (vX11_kindsOf_b98 hF) hc0 h0
set_option maxRecDepth 100000 in
set_option maxHeartbeats 4000000 in
def fX11_kindsOf_b65 (fu : Nat) (sh : HS) (I : HI) (R : HR) (l0 : Nat) (l1 : Int32) (s0 : Int32) (s1 : Int32) : Option Int32 :=
  (fX11_isCrossed fu sh I R l0 l1).bind fun v6 =>
  if v6 = 0 then
    ((fX11_kindsOf_b97 fu sh I R) l0 l1 (s1 ||| s0))
  else
    ((fX11_lookOf fu sh I R l0 l1).bind fun v12 =>
    (fX11_lookOf fu sh I R l0 (l1 - 1)).bind fun v13 =>
    if (v12 * v13) = 1 then
      ((fX11_kindsOf_b98 fu sh I R) l0 l1 2 (s1 ||| s0))
    else
      ((fX11_kindsOf_b97 fu sh I R) l0 l1 (s1 ||| s0)))
set_option maxRecDepth 100000 in
set_option maxHeartbeats 4000000 in
theorem vX11_kindsOf_b65 {K J : Nat → Nat} {fu : Nat} {sh : HS} {I : HI} {R : HR} {F : VF} {o : Int32} (hF : F (.inl (some (.int o))) sh I R) {l0 : Nat} {l1 : Int32} {s0 : Int32} {s1 : Int32} {d2 : Option Value} {c : Nat × Nat} (hc0 : c.1 ≤ 0 ∧ c.2 ≤ 0) (h0 : fX11_kindsOf_b65 fu sh I R l0 l1 s0 s1 = some o) : V K J 220 65 [some (.ref l0), some (.int l1), d2] [.int s0, .int s1] sh I R c F := by
  unfold fX11_kindsOf_b65 at h0
  refine s_a (ins := .ior) (pc' := 66) (by decide +kernel) rfl ?_
  refine s_is (i := 2) (pc' := 67) (L' := [some (.ref l0), some (.int l1), some (.int (s1 ||| s0))]) (by decide +kernel) rfl rfl ?_
  refine s_il (i := 2) (pc' := 68) (by decide +kernel) rfl ?_
  refine s_rl (i := 0) (pc' := 69) (by decide +kernel) rfl ?_
  refine s_il (i := 1) (pc' := 70) (by decide +kernel) rfl ?_
  refine kX11_isCrossed (X := 0) (Y := 0) (X' := 0) (Y' := 0) (pc' := 73) (by decide +kernel) hc0 rfl h0 (fun v6 c hc1 h1 => ?_); clear h0 hc0
  refine s_if (ins := .ifCond .eq 24) (t := 97) (pc' := 76) (by decide +kernel) rfl rfl rfl h1 (fun p2 h2 => ?_) (fun p2 h2 => ?_) <;> clear h1
  · exact (vX11_kindsOf_b97 hF) hc1 h2
  · refine s_rl (i := 0) (pc' := 77) (by decide +kernel) rfl ?_
    refine s_il (i := 1) (pc' := 78) (by decide +kernel) rfl ?_
    refine kX11_lookOf (X := 0) (Y := 0) (X' := 0) (Y' := 0) (pc' := 81) (by decide +kernel) hc1 rfl h2 (fun v12 c hc2 h3 => ?_); clear h2 hc1
    refine s_rl (i := 0) (pc' := 82) (by decide +kernel) rfl ?_
    refine s_il (i := 1) (pc' := 83) (by decide +kernel) rfl ?_
    refine s_c (v := 1) (pc' := 84) (by decide +kernel) ?_
    refine s_a (ins := .isub) (pc' := 85) (by decide +kernel) rfl ?_
    refine kX11_lookOf (X := 0) (Y := 0) (X' := 0) (Y' := 0) (pc' := 88) (by decide +kernel) hc2 rfl h3 (fun v13 c hc3 h4 => ?_); clear h3 hc2
    refine s_a (ins := .imul) (pc' := 89) (by decide +kernel) rfl ?_
    refine s_c (v := 1) (pc' := 90) (by decide +kernel) ?_
    refine s_ifn (ins := .if_icmp .ne 7) (t := 97) (pc' := 93) (by decide +kernel) rfl rfl rfl h4 (fun p5 h5 => ?_) (fun p5 h5 => ?_) <;> clear h4
    · exact (vX11_kindsOf_b97 hF) hc3 h5
    · refine s_c (v := 2) (pc' := 94) (by decide +kernel) ?_
      refine s_go (t := 98) (by decide +kernel) ?_
      exact (vX11_kindsOf_b98 hF) hc3 h5
set_option maxRecDepth 100000 in
set_option maxHeartbeats 4000000 in
def fX11_kindsOf_b64 (fu : Nat) (sh : HS) (I : HI) (R : HR) (l0 : Nat) (l1 : Int32) (s0 : Int32) : Option Int32 :=
  (fX11_kindsOf_b65 fu sh I R) l0 l1 0 s0
set_option maxRecDepth 100000 in
set_option maxHeartbeats 4000000 in
theorem vX11_kindsOf_b64 {K J : Nat → Nat} {fu : Nat} {sh : HS} {I : HI} {R : HR} {F : VF} {o : Int32} (hF : F (.inl (some (.int o))) sh I R) {l0 : Nat} {l1 : Int32} {s0 : Int32} {d2 : Option Value} {c : Nat × Nat} (hc0 : c.1 ≤ 0 ∧ c.2 ≤ 0) (h0 : fX11_kindsOf_b64 fu sh I R l0 l1 s0 = some o) : V K J 220 64 [some (.ref l0), some (.int l1), d2] [.int s0] sh I R c F := by
  unfold fX11_kindsOf_b64 at h0
  refine s_c (v := 0) (pc' := 65) (by decide +kernel) ?_
  exact (vX11_kindsOf_b65 hF) hc0 h0
set_option maxRecDepth 100000 in
set_option maxHeartbeats 4000000 in
def fX11_kindsOf_b43 (fu : Nat) (sh : HS) (I : HI) (R : HR) (l0 : Nat) (l1 : Int32) (s0 : Int32) : Option Int32 :=
  (fX11_sideOf fu sh I R l0 l1).bind fun v4 =>
  (fX11_sideOf fu sh I R l0 (l1 - 1)).bind fun v5 =>
  if (v4 * v5) = (-1) then
    ((fX11_kindsOf_b65 fu sh I R) l0 l1 1 s0)
  else
    ((fX11_kindsOf_b64 fu sh I R) l0 l1 s0)
set_option maxRecDepth 100000 in
set_option maxHeartbeats 4000000 in
theorem vX11_kindsOf_b43 {K J : Nat → Nat} {fu : Nat} {sh : HS} {I : HI} {R : HR} {F : VF} {o : Int32} (hF : F (.inl (some (.int o))) sh I R) {l0 : Nat} {l1 : Int32} {s0 : Int32} {d2 : Option Value} {c : Nat × Nat} (hc0 : c.1 ≤ 0 ∧ c.2 ≤ 0) (h0 : fX11_kindsOf_b43 fu sh I R l0 l1 s0 = some o) : V K J 220 43 [some (.ref l0), some (.int l1), d2] [.int s0] sh I R c F := by
  unfold fX11_kindsOf_b43 at h0
  refine s_rl (i := 0) (pc' := 44) (by decide +kernel) rfl ?_
  refine s_il (i := 1) (pc' := 45) (by decide +kernel) rfl ?_
  refine kX11_sideOf (X := 0) (Y := 0) (X' := 0) (Y' := 0) (pc' := 48) (by decide +kernel) hc0 rfl h0 (fun v4 c hc1 h1 => ?_); clear h0 hc0
  refine s_rl (i := 0) (pc' := 49) (by decide +kernel) rfl ?_
  refine s_il (i := 1) (pc' := 50) (by decide +kernel) rfl ?_
  refine s_c (v := 1) (pc' := 51) (by decide +kernel) ?_
  refine s_a (ins := .isub) (pc' := 52) (by decide +kernel) rfl ?_
  refine kX11_sideOf (X := 0) (Y := 0) (X' := 0) (Y' := 0) (pc' := 55) (by decide +kernel) hc1 rfl h1 (fun v5 c hc2 h2 => ?_); clear h1 hc1
  refine s_a (ins := .imul) (pc' := 56) (by decide +kernel) rfl ?_
  refine s_c (v := (-1)) (pc' := 57) (by decide +kernel) ?_
  refine s_ifn (ins := .if_icmp .ne 7) (t := 64) (pc' := 60) (by decide +kernel) rfl rfl rfl h2 (fun p3 h3 => ?_) (fun p3 h3 => ?_) <;> clear h2
  · exact (vX11_kindsOf_b64 hF) hc2 h3
  · refine s_c (v := 1) (pc' := 61) (by decide +kernel) ?_
    refine s_go (t := 65) (by decide +kernel) ?_
    exact (vX11_kindsOf_b65 hF) hc2 h3
set_option maxRecDepth 100000 in
set_option maxHeartbeats 4000000 in
def fX11_kindsOf_b15 (fu : Nat) (sh : HS) (I : HI) (R : HR) (l0 : Nat) (l1 : Int32) (s0 : Int32) : Option Int32 :=
  (fX11_hasBefore fu sh I R l0 l1).bind fun v2 =>
  if v2 = 0 then
    (some s0)
  else
    ((fX11_isCrossed fu sh I R l0 l1).bind fun v3 =>
    if v3 = 0 then
      ((fX11_isSame fu sh I R l0 l1).bind fun v14 =>
      if v14 = 0 then
        ((fX11_kindsOf_b64 fu sh I R) l0 l1 s0)
      else
        ((fX11_kindsOf_b43 fu sh I R) l0 l1 s0))
    else
      ((fX11_kindsOf_b43 fu sh I R) l0 l1 s0))
set_option maxRecDepth 100000 in
set_option maxHeartbeats 4000000 in
theorem vX11_kindsOf_b15 {K J : Nat → Nat} {fu : Nat} {sh : HS} {I : HI} {R : HR} {F : VF} {o : Int32} (hF : F (.inl (some (.int o))) sh I R) {l0 : Nat} {l1 : Int32} {s0 : Int32} {d2 : Option Value} {c : Nat × Nat} (hc0 : c.1 ≤ 0 ∧ c.2 ≤ 0) (h0 : fX11_kindsOf_b15 fu sh I R l0 l1 s0 = some o) : V K J 220 15 [some (.ref l0), some (.int l1), d2] [.int s0] sh I R c F := by
  unfold fX11_kindsOf_b15 at h0
  refine s_is (i := 2) (pc' := 16) (L' := [some (.ref l0), some (.int l1), some (.int s0)]) (by decide +kernel) rfl rfl ?_
  refine s_rl (i := 0) (pc' := 17) (by decide +kernel) rfl ?_
  refine s_il (i := 1) (pc' := 18) (by decide +kernel) rfl ?_
  refine kX11_hasBefore (X := 0) (Y := 0) (X' := 0) (Y' := 0) (pc' := 21) (by decide +kernel) hc0 rfl h0 (fun v2 c hc1 h1 => ?_); clear h0 hc0
  refine s_ifn (ins := .ifCond .ne 5) (t := 26) (pc' := 24) (by decide +kernel) rfl rfl rfl h1 (fun p2 h2 => ?_) (fun p2 h2 => ?_) <;> clear h1
  · refine s_il (i := 2) (pc' := 27) (by decide +kernel) rfl ?_
    refine s_rl (i := 0) (pc' := 28) (by decide +kernel) rfl ?_
    refine s_il (i := 1) (pc' := 29) (by decide +kernel) rfl ?_
    refine kX11_isCrossed (X := 0) (Y := 0) (X' := 0) (Y' := 0) (pc' := 32) (by decide +kernel) hc1 rfl h2 (fun v3 c hc2 h3 => ?_); clear h2 hc1
    refine s_ifn (ins := .ifCond .ne 11) (t := 43) (pc' := 35) (by decide +kernel) rfl rfl rfl h3 (fun p4 h4 => ?_) (fun p4 h4 => ?_) <;> clear h3
    · exact (vX11_kindsOf_b43 hF) hc2 h4
    · refine s_rl (i := 0) (pc' := 36) (by decide +kernel) rfl ?_
      refine s_il (i := 1) (pc' := 37) (by decide +kernel) rfl ?_
      refine kX11_isSame (X := 0) (Y := 0) (X' := 0) (Y' := 0) (pc' := 40) (by decide +kernel) hc2 rfl h4 (fun v14 c hc3 h5 => ?_); clear h4 hc2
      refine s_if (ins := .ifCond .eq 24) (t := 64) (pc' := 43) (by decide +kernel) rfl rfl rfl h5 (fun p6 h6 => ?_) (fun p6 h6 => ?_) <;> clear h5
      · exact (vX11_kindsOf_b64 hF) hc3 h6
      · exact (vX11_kindsOf_b43 hF) hc3 h6
  · refine s_il (i := 2) (pc' := 25) (by decide +kernel) rfl ?_
    have e9 := Option.some.inj h2; subst e9
    exact s_ri (X := 0) (Y := 0) (by decide +kernel) hc1 hF
set_option maxRecDepth 100000 in
set_option maxHeartbeats 4000000 in
def fX11_kindsOf (fu : Nat) (sh : HS) (I : HI) (R : HR) (l0 : Nat) (l1 : Int32) : Option Int32 :=
  if isT sh l0 9 = true then
    ((fX11_blocker fu sh I R l0 l1).bind fun v1 =>
    if v1 = (-1) then
      ((fX11_kindsOf_b15 fu sh I R) l0 l1 0)
    else
      ((fX11_kindsOf_b15 fu sh I R) l0 l1 8))
  else none
set_option maxRecDepth 100000 in
set_option maxHeartbeats 4000000 in
theorem vX11_kindsOf {K J : Nat → Nat} {fu : Nat} {sh : HS} {I : HI} {R : HR} {F : VF} {o : Int32} (hF : F (.inl (some (.int o))) sh I R) {l0 : Nat} {l1 : Int32} (h0 : fX11_kindsOf fu sh I R l0 l1 = some o) : V K J 220 0 (ent 3 [.ref l0, .int l1]) [] sh I R (0, 0) F := by
  unfold fX11_kindsOf at h0
  obtain ⟨-, h1⟩ := gd h0; clear h0
  have hc0 : ((0 : Nat), (0 : Nat)).1 ≤ 0 ∧ ((0 : Nat), (0 : Nat)).2 ≤ 0 := ⟨Nat.le_refl _, Nat.le_refl _⟩
  show V K J 220 0 [some (.ref l0), some (.int l1), none] [] sh I R (0, 0) F
  refine s_rl (i := 0) (pc' := 1) (by decide +kernel) rfl ?_
  refine s_il (i := 1) (pc' := 2) (by decide +kernel) rfl ?_
  refine kX11_blocker (X := 0) (Y := 0) (X' := 0) (Y' := 0) (pc' := 5) (by decide +kernel) hc0 rfl h1 (fun v1 c hc1 h2 => ?_); clear h1 hc0
  refine s_c (v := (-1)) (pc' := 6) (by decide +kernel) ?_
  refine s_ifn (ins := .if_icmp .ne 7) (t := 13) (pc' := 9) (by decide +kernel) rfl rfl rfl h2 (fun p3 h3 => ?_) (fun p3 h3 => ?_) <;> clear h2
  · refine s_c (v := 8) (pc' := 15) (by decide +kernel) ?_
    exact (vX11_kindsOf_b15 hF) hc1 h3
  · refine s_c (v := 0) (pc' := 10) (by decide +kernel) ?_
    refine s_go (t := 15) (by decide +kernel) ?_
    exact (vX11_kindsOf_b15 hF) hc1 h3
set_option maxRecDepth 100000 in
set_option maxHeartbeats 4000000 in
theorem kX11_kindsOf {K J : Nat → Nat} {fu : Nat} {sh : HS} {I : HI} {R : HR} {F : VF} {mi pc pc' X Y X' Y' : Nat} {L : VL} {rest : List Value} {c : Nat × Nat} {l0 : Nat} {l1 : Int32} {ω : Type} {o : ω} {g : Int32 → Option ω} (hq : cQ mi pc 220 2 pc' X Y X' Y' = true) (hc : c.1 ≤ X ∧ c.2 ≤ Y) (hr : Nat.ble (catS rest) 8 = true) (h : (fX11_kindsOf fu sh I R l0 l1).bind g = some o) (kk : ∀ v c', (c'.1 ≤ X' ∧ c'.2 ≤ Y') → g v = some o → V K J mi pc' L ((.int v) :: rest) sh I R c' F) : V K J mi pc L (.int l1 :: .ref l0 :: rest) sh I R c F := by
  obtain ⟨r, h1, h2⟩ := bnd h
  have hT : isT sh l0 9 = true := by unfold fX11_kindsOf at h1; exact (gd h1).1
  have ml : mL 220 = 3 := by decide +kernel
  have mk : mK 220 = 1 := by decide +kernel
  have mc : mC 220 = 9 := by decide +kernel
  refine s_call (as := [.int l1, .ref l0]) (G := fun o' sh' I' R' => o' = .inl (some (.int r)) ∧ sh' = sh ∧ I' = I ∧ R' = R) hq hc rfl hr (by rw [ml]; rfl) (Or.inl rfl) (fun _ => Or.inl ⟨by rw [mc]; decide, by rw [mc]; exact isT_iff.mp hT⟩) (fun z => absurd (mk.symm.trans z) (by decide)) (by rw [ml]; exact vX11_kindsOf (F := fun o' sh' I' R' => o' = .inl (some (.int r)) ∧ sh' = sh ∧ I' = I ∧ R' = R) ⟨rfl, rfl, rfl, rfl⟩ h1) ?_ ?_ ?_
  · rintro sh' I' R' c' hc' ⟨g1, rfl, rfl, rfl⟩
    cases g1
  · rintro v' sh' I' R' c' hc' ⟨g1, rfl, rfl, rfl⟩
    cases g1
    exact kk _ _ hc' h2
  · rintro E' sh' I' R' ⟨g1, rfl, rfl, rfl⟩
    cases g1
