/-! methods 3 (printed by wip/whole/gen3.py) -/
set_option maxRecDepth 100000 in
set_option maxHeartbeats 4000000 in
def fX10_moveActor (fu : Nat) (sh : HS) (I : HI) (R : HR) (l0 : Nat) (l1 : Int32) (l2 : Int32) (l3 : Int32) (l4 : Int32) : Option ((Int32 ⊕ String) × HI) :=
  if isT sh l0 8 = true then
    (oT0 (fX10_needBoard fu sh I R l0) (fun E => some (.inr E, I)) fun _ =>
    oT0 (fX10_needScene fu sh I R l0 l1) (fun E => some (.inr E, I)) fun _ =>
    (oR sh R l0 8 4).bind fun v3 =>
    (oR sh R v3 0 5).bind fun v4 =>
    (oB sh R v4 5 l1).bind fun v5 =>
    oT0 (fX10_needActor fu sh I R v5 l2) (fun E => some (.inr E, I)) fun _ =>
    oT0 (fX10_needPlace fu sh I R l3 l4) (fun E => some (.inr E, I)) fun _ =>
    (oR sh R l0 8 4).bind fun v8 =>
    (fX0_hasCameraOn fu sh I R v8 l1 l2 l3 l4).bind fun v9 =>
    if v9 = 0 then
      ((fX10_beginAction fu sh I R l0).bind fun w10 =>
      (oR sh R l0 8 4).bind fun v11 =>
      (oR sh R v11 0 5).bind fun v12 =>
      (oB sh R v12 5 l1).bind fun v13 =>
      (oR sh R v13 5 2).bind fun v14 =>
      (oS sh w10 v14 l2 l3).bind fun v15 =>
      (oR sh R l0 8 4).bind fun v16 =>
      (oR sh R v16 0 5).bind fun v17 =>
      (oB sh R v17 5 l1).bind fun v18 =>
      (oR sh R v18 5 3).bind fun v19 =>
      (oS sh v15 v19 l2 l4).bind fun v20 =>
      (oR sh R l0 8 4).bind fun v21 =>
      (fX2_total fu sh v20 R v21).bind fun v22 =>
      some (.inl v22, v20))
    else
      (some (.inl (-2), I)))
  else none
set_option maxRecDepth 100000 in
set_option maxHeartbeats 4000000 in
theorem vX10_moveActor {K J : Nat → Nat} {fu : Nat} {sh : HS} {I : HI} {R : HR} {F : VF} {o : ((Int32 ⊕ String) × HI)} (hF : F (voI o.1) sh o.2 R) {l0 : Nat} {l1 : Int32} {l2 : Int32} {l3 : Int32} {l4 : Int32} (h0 : fX10_moveActor fu sh I R l0 l1 l2 l3 l4 = some o) : V K J 88 0 (ent 5 [.ref l0, .int l1, .int l2, .int l3, .int l4]) [] sh I R (0, 0) F := by
  unfold fX10_moveActor at h0
  obtain ⟨-, h1⟩ := gd h0; clear h0
  have hc0 : ((0 : Nat), (0 : Nat)).1 ≤ 0 ∧ ((0 : Nat), (0 : Nat)).2 ≤ 0 := ⟨Nat.le_refl _, Nat.le_refl _⟩
  show V K J 88 0 [some (.ref l0), some (.int l1), some (.int l2), some (.int l3), some (.int l4)] [] sh I R (0, 0) F
  refine s_rl (i := 0) (pc' := 1) (by decide +kernel) rfl ?_
  refine kX10_needBoard (X := 0) (Y := 0) (X' := 1) (Y' := 6) (pc' := 4) (by decide +kernel) hc0 rfl h1 (fun v1 c hc1 h2 => ?_) (fun E h2 => by have e9 := Option.some.inj h2; subst e9; exact hF); clear h1 hc0
  refine s_rl (i := 0) (pc' := 5) (by decide +kernel) rfl ?_
  refine s_il (i := 1) (pc' := 6) (by decide +kernel) rfl ?_
  refine kX10_needScene (X := 1) (Y := 6) (X' := 2) (Y' := 12) (pc' := 9) (by decide +kernel) hc1 rfl h2 (fun v2 c hc2 h3 => ?_) (fun E h3 => by have e9 := Option.some.inj h3; subst e9; exact hF); clear h2 hc1
  refine s_rl (i := 0) (pc' := 10) (by decide +kernel) rfl ?_
  refine s_gR (t := 8) (j := 4) (pc' := 13) (by decide +kernel) h3 (fun v3 h4 => ?_); clear h3
  refine s_gR (t := 0) (j := 5) (pc' := 16) (by decide +kernel) h4 (fun v4 h5 => ?_); clear h4
  refine s_il (i := 1) (pc' := 17) (by decide +kernel) rfl ?_
  refine s_aal (t := 5) (pc' := 18) (by decide +kernel) h5 (fun v5 h6 => ?_); clear h5
  refine s_il (i := 2) (pc' := 19) (by decide +kernel) rfl ?_
  refine kX10_needActor (X := 2) (Y := 12) (X' := 3) (Y' := 18) (pc' := 22) (by decide +kernel) hc2 rfl h6 (fun v6 c hc3 h7 => ?_) (fun E h7 => by have e9 := Option.some.inj h7; subst e9; exact hF); clear h6 hc2
  refine s_il (i := 3) (pc' := 23) (by decide +kernel) rfl ?_
  refine s_il (i := 4) (pc' := 25) (by decide +kernel) rfl ?_
  refine kX10_needPlace (X := 3) (Y := 18) (X' := 5) (Y' := 30) (pc' := 28) (by decide +kernel) hc3 rfl h7 (fun v7 c hc4 h8 => ?_) (fun E h8 => by have e9 := Option.some.inj h8; subst e9; exact hF); clear h7 hc3
  refine s_rl (i := 0) (pc' := 29) (by decide +kernel) rfl ?_
  refine s_gR (t := 8) (j := 4) (pc' := 32) (by decide +kernel) h8 (fun v8 h9 => ?_); clear h8
  refine s_il (i := 1) (pc' := 33) (by decide +kernel) rfl ?_
  refine s_il (i := 2) (pc' := 34) (by decide +kernel) rfl ?_
  refine s_il (i := 3) (pc' := 35) (by decide +kernel) rfl ?_
  refine s_il (i := 4) (pc' := 37) (by decide +kernel) rfl ?_
  refine kX0_hasCameraOn (X := 5) (Y := 30) (X' := 5) (Y' := 30) (pc' := 40) (by decide +kernel) hc4 rfl h9 (fun v9 c hc5 h10 => ?_); clear h9 hc4
  refine s_if (ins := .ifCond .eq 6) (t := 46) (pc' := 43) (by decide +kernel) rfl rfl rfl h10 (fun p11 h11 => ?_) (fun p11 h11 => ?_) <;> clear h10
  · refine s_rl (i := 0) (pc' := 47) (by decide +kernel) rfl ?_
    refine kX10_beginAction (X := 5) (Y := 30) (X' := 5) (Y' := 30) (pc' := 50) (by decide +kernel) hc5 rfl h11 (fun w10 c hc6 h12 => ?_); clear h11 hc5
    refine s_rl (i := 0) (pc' := 51) (by decide +kernel) rfl ?_
    refine s_gR (t := 8) (j := 4) (pc' := 54) (by decide +kernel) h12 (fun v11 h13 => ?_); clear h12
    refine s_gR (t := 0) (j := 5) (pc' := 57) (by decide +kernel) h13 (fun v12 h14 => ?_); clear h13
    refine s_il (i := 1) (pc' := 58) (by decide +kernel) rfl ?_
    refine s_aal (t := 5) (pc' := 59) (by decide +kernel) h14 (fun v13 h15 => ?_); clear h14
    refine s_gR (t := 5) (j := 2) (pc' := 62) (by decide +kernel) h15 (fun v14 h16 => ?_); clear h15
    refine s_il (i := 2) (pc' := 63) (by decide +kernel) rfl ?_
    refine s_il (i := 3) (pc' := 64) (by decide +kernel) rfl ?_
    refine s_as (pc' := 65) (by decide +kernel) h16 (fun v15 h17 => ?_); clear h16
    refine s_rl (i := 0) (pc' := 66) (by decide +kernel) rfl ?_
    refine s_gR (t := 8) (j := 4) (pc' := 69) (by decide +kernel) h17 (fun v16 h18 => ?_); clear h17
    refine s_gR (t := 0) (j := 5) (pc' := 72) (by decide +kernel) h18 (fun v17 h19 => ?_); clear h18
    refine s_il (i := 1) (pc' := 73) (by decide +kernel) rfl ?_
    refine s_aal (t := 5) (pc' := 74) (by decide +kernel) h19 (fun v18 h20 => ?_); clear h19
    refine s_gR (t := 5) (j := 3) (pc' := 77) (by decide +kernel) h20 (fun v19 h21 => ?_); clear h20
    refine s_il (i := 2) (pc' := 78) (by decide +kernel) rfl ?_
    refine s_il (i := 4) (pc' := 80) (by decide +kernel) rfl ?_
    refine s_as (pc' := 81) (by decide +kernel) h21 (fun v20 h22 => ?_); clear h21
    refine s_rl (i := 0) (pc' := 82) (by decide +kernel) rfl ?_
    refine s_gR (t := 8) (j := 4) (pc' := 85) (by decide +kernel) h22 (fun v21 h23 => ?_); clear h22
    refine kX2_total (X := 5) (Y := 30) (X' := 5) (Y' := 30) (pc' := 88) (by decide +kernel) hc6 rfl h23 (fun v22 c hc7 h24 => ?_); clear h23 hc6
    have e9 := Option.some.inj h24; subst e9
    exact s_ri (X := 5) (Y := 30) (by decide +kernel) hc7 hF
  · refine s_c (v := (-2)) (pc' := 45) (by decide +kernel) ?_
    have e9 := Option.some.inj h11; subst e9
    exact s_ri (X := 5) (Y := 30) (by decide +kernel) hc5 hF
set_option maxRecDepth 100000 in
set_option maxHeartbeats 4000000 in
theorem kX10_moveActor {K J : Nat → Nat} {fu : Nat} {sh : HS} {I : HI} {R : HR} {F : VF} {mi pc pc' X Y X' Y' : Nat} {L : VL} {rest : List Value} {c : Nat × Nat} {l0 : Nat} {l1 : Int32} {l2 : Int32} {l3 : Int32} {l4 : Int32} {ω : Type} {o : ω} {e : String → HI → Option ω} {g : Int32 → HI → Option ω} (hq : cQ mi pc 88 5 pc' X Y X' Y' = true) (hc : c.1 ≤ X ∧ c.2 ≤ Y) (hr : Nat.ble (catS rest) 8 = true) (h : oTh (fX10_moveActor fu sh I R l0 l1 l2 l3 l4) e g = some o) (kk : ∀ v w c', (c'.1 ≤ X' ∧ c'.2 ≤ Y') → g v w = some o → V K J mi pc' L ((.int v) :: rest) sh w R c' F) (kx : ∀ E w, e E w = some o → F (.inr E) sh w R) : V K J mi pc L (.int l4 :: .int l3 :: .int l2 :: .int l1 :: .ref l0 :: rest) sh I R c F := by
  obtain ⟨r, h1, h2⟩ := bnd h
  have hT : isT sh l0 8 = true := by unfold fX10_moveActor at h1; exact (gd h1).1
  have ml : mL 88 = 5 := by decide +kernel
  have mk : mK 88 = 1 := by decide +kernel
  have mc : mC 88 = 8 := by decide +kernel
  obtain ⟨r, w⟩ := r
  rcases r with v | E
  · refine s_call (as := [.int l4, .int l3, .int l2, .int l1, .ref l0]) (G := fun o' sh' I' R' => o' = .inl (some (.int v)) ∧ sh' = sh ∧ I' = w ∧ R' = R) hq hc rfl hr (by rw [ml]; rfl) (Or.inl rfl) (fun _ => Or.inl ⟨by rw [mc]; decide, by rw [mc]; exact isT_iff.mp hT⟩) (fun z => absurd (mk.symm.trans z) (by decide)) (by rw [ml]; exact vX10_moveActor (F := fun o' sh' I' R' => o' = .inl (some (.int v)) ∧ sh' = sh ∧ I' = w ∧ R' = R) ⟨rfl, rfl, rfl, rfl⟩ h1) ?_ ?_ ?_
    · rintro sh' I' R' c' hc' ⟨g1, rfl, rfl, rfl⟩
      cases g1
    · rintro v' sh' I' R' c' hc' ⟨g1, rfl, rfl, rfl⟩
      cases g1
      exact kk _ _ _ hc' h2
    · rintro E' sh' I' R' ⟨g1, rfl, rfl, rfl⟩
      cases g1
  · refine s_call (as := [.int l4, .int l3, .int l2, .int l1, .ref l0]) (G := fun o' sh' I' R' => o' = .inr E ∧ sh' = sh ∧ I' = w ∧ R' = R) hq hc rfl hr (by rw [ml]; rfl) (Or.inl rfl) (fun _ => Or.inl ⟨by rw [mc]; decide, by rw [mc]; exact isT_iff.mp hT⟩) (fun z => absurd (mk.symm.trans z) (by decide)) (by rw [ml]; exact vX10_moveActor (F := fun o' sh' I' R' => o' = .inr E ∧ sh' = sh ∧ I' = w ∧ R' = R) ⟨rfl, rfl, rfl, rfl⟩ h1) ?_ ?_ ?_
    · rintro sh' I' R' c' hc' ⟨g1, rfl, rfl, rfl⟩
      cases g1
    · rintro v' sh' I' R' c' hc' ⟨g1, rfl, rfl, rfl⟩
      cases g1
    · rintro E' sh' I' R' ⟨g1, rfl, rfl, rfl⟩
      cases g1
      exact kx _ _ h2
set_option maxRecDepth 100000 in
set_option maxHeartbeats 4000000 in
def fX10_moveCamera (fu : Nat) (sh : HS) (I : HI) (R : HR) (l0 : Nat) (l1 : Int32) (l2 : Int32) (l3 : Int32) : Option ((Int32 ⊕ String) × HI) :=
  if isT sh l0 8 = true then
    (oT0 (fX10_needBoard fu sh I R l0) (fun E => some (.inr E, I)) fun _ =>
    oT0 (fX10_needShot fu sh I R l0 l1) (fun E => some (.inr E, I)) fun _ =>
    oT0 (fX10_needPlace fu sh I R l2 l3) (fun E => some (.inr E, I)) fun _ =>
    (oR sh R l0 8 4).bind fun v4 =>
    (oR sh R v4 0 6).bind fun v5 =>
    (oB sh R v5 7 l1).bind fun v6 =>
    (oR sh R l0 8 4).bind fun v7 =>
    (fX0_isSubjectAt fu sh I R v7 v6 l2 l3).bind fun v8 =>
    if v8 = 0 then
      ((fX10_beginAction fu sh I R l0).bind fun w9 =>
      (fX8_placeCamera fu sh w9 R v6 l2 l3).bind fun w10 =>
      (oR sh R l0 8 4).bind fun v11 =>
      (fX2_total fu sh w10 R v11).bind fun v12 =>
      some (.inl v12, w10))
    else
      (some (.inl (-2), I)))
  else none
set_option maxRecDepth 100000 in
set_option maxHeartbeats 4000000 in
theorem vX10_moveCamera {K J : Nat → Nat} {fu : Nat} {sh : HS} {I : HI} {R : HR} {F : VF} {o : ((Int32 ⊕ String) × HI)} (hF : F (voI o.1) sh o.2 R) {l0 : Nat} {l1 : Int32} {l2 : Int32} {l3 : Int32} (h0 : fX10_moveCamera fu sh I R l0 l1 l2 l3 = some o) : V K J 89 0 (ent 5 [.ref l0, .int l1, .int l2, .int l3]) [] sh I R (0, 0) F := by
  unfold fX10_moveCamera at h0
  obtain ⟨-, h1⟩ := gd h0; clear h0
  have hc0 : ((0 : Nat), (0 : Nat)).1 ≤ 0 ∧ ((0 : Nat), (0 : Nat)).2 ≤ 0 := ⟨Nat.le_refl _, Nat.le_refl _⟩
  show V K J 89 0 [some (.ref l0), some (.int l1), some (.int l2), some (.int l3), none] [] sh I R (0, 0) F
  refine s_rl (i := 0) (pc' := 1) (by decide +kernel) rfl ?_
  refine kX10_needBoard (X := 0) (Y := 0) (X' := 1) (Y' := 6) (pc' := 4) (by decide +kernel) hc0 rfl h1 (fun v1 c hc1 h2 => ?_) (fun E h2 => by have e9 := Option.some.inj h2; subst e9; exact hF); clear h1 hc0
  refine s_rl (i := 0) (pc' := 5) (by decide +kernel) rfl ?_
  refine s_il (i := 1) (pc' := 6) (by decide +kernel) rfl ?_
  refine kX10_needShot (X := 1) (Y := 6) (X' := 2) (Y' := 12) (pc' := 9) (by decide +kernel) hc1 rfl h2 (fun v2 c hc2 h3 => ?_) (fun E h3 => by have e9 := Option.some.inj h3; subst e9; exact hF); clear h2 hc1
  refine s_il (i := 2) (pc' := 10) (by decide +kernel) rfl ?_
  refine s_il (i := 3) (pc' := 11) (by decide +kernel) rfl ?_
  refine kX10_needPlace (X := 2) (Y := 12) (X' := 4) (Y' := 24) (pc' := 14) (by decide +kernel) hc2 rfl h3 (fun v3 c hc3 h4 => ?_) (fun E h4 => by have e9 := Option.some.inj h4; subst e9; exact hF); clear h3 hc2
  refine s_rl (i := 0) (pc' := 15) (by decide +kernel) rfl ?_
  refine s_gR (t := 8) (j := 4) (pc' := 18) (by decide +kernel) h4 (fun v4 h5 => ?_); clear h4
  refine s_gR (t := 0) (j := 6) (pc' := 21) (by decide +kernel) h5 (fun v5 h6 => ?_); clear h5
  refine s_il (i := 1) (pc' := 22) (by decide +kernel) rfl ?_
  refine s_aal (t := 7) (pc' := 23) (by decide +kernel) h6 (fun v6 h7 => ?_); clear h6
  refine s_rs (i := 4) (pc' := 25) (L' := [some (.ref l0), some (.int l1), some (.int l2), some (.int l3), some (.ref v6)]) (by decide +kernel) rfl rfl ?_
  refine s_rl (i := 0) (pc' := 26) (by decide +kernel) rfl ?_
  refine s_gR (t := 8) (j := 4) (pc' := 29) (by decide +kernel) h7 (fun v7 h8 => ?_); clear h7
  refine s_rl (i := 4) (pc' := 31) (by decide +kernel) rfl ?_
  refine s_il (i := 2) (pc' := 32) (by decide +kernel) rfl ?_
  refine s_il (i := 3) (pc' := 33) (by decide +kernel) rfl ?_
  refine kX0_isSubjectAt (X := 4) (Y := 24) (X' := 4) (Y' := 24) (pc' := 36) (by decide +kernel) hc3 rfl h8 (fun v8 c hc4 h9 => ?_); clear h8 hc3
  refine s_if (ins := .ifCond .eq 6) (t := 42) (pc' := 39) (by decide +kernel) rfl rfl rfl h9 (fun p10 h10 => ?_) (fun p10 h10 => ?_) <;> clear h9
  · refine s_rl (i := 0) (pc' := 43) (by decide +kernel) rfl ?_
    refine kX10_beginAction (X := 4) (Y := 24) (X' := 4) (Y' := 24) (pc' := 46) (by decide +kernel) hc4 rfl h10 (fun w9 c hc5 h11 => ?_); clear h10 hc4
    refine s_rl (i := 4) (pc' := 48) (by decide +kernel) rfl ?_
    refine s_il (i := 2) (pc' := 49) (by decide +kernel) rfl ?_
    refine s_il (i := 3) (pc' := 50) (by decide +kernel) rfl ?_
    refine kX8_placeCamera (X := 4) (Y := 24) (X' := 4) (Y' := 24) (pc' := 53) (by decide +kernel) hc5 rfl h11 (fun w10 c hc6 h12 => ?_); clear h11 hc5
    refine s_rl (i := 0) (pc' := 54) (by decide +kernel) rfl ?_
    refine s_gR (t := 8) (j := 4) (pc' := 57) (by decide +kernel) h12 (fun v11 h13 => ?_); clear h12
    refine kX2_total (X := 4) (Y := 24) (X' := 4) (Y' := 24) (pc' := 60) (by decide +kernel) hc6 rfl h13 (fun v12 c hc7 h14 => ?_); clear h13 hc6
    have e9 := Option.some.inj h14; subst e9
    exact s_ri (X := 4) (Y := 24) (by decide +kernel) hc7 hF
  · refine s_c (v := (-2)) (pc' := 41) (by decide +kernel) ?_
    have e9 := Option.some.inj h10; subst e9
    exact s_ri (X := 4) (Y := 24) (by decide +kernel) hc4 hF
set_option maxRecDepth 100000 in
set_option maxHeartbeats 4000000 in
theorem kX10_moveCamera {K J : Nat → Nat} {fu : Nat} {sh : HS} {I : HI} {R : HR} {F : VF} {mi pc pc' X Y X' Y' : Nat} {L : VL} {rest : List Value} {c : Nat × Nat} {l0 : Nat} {l1 : Int32} {l2 : Int32} {l3 : Int32} {ω : Type} {o : ω} {e : String → HI → Option ω} {g : Int32 → HI → Option ω} (hq : cQ mi pc 89 4 pc' X Y X' Y' = true) (hc : c.1 ≤ X ∧ c.2 ≤ Y) (hr : Nat.ble (catS rest) 8 = true) (h : oTh (fX10_moveCamera fu sh I R l0 l1 l2 l3) e g = some o) (kk : ∀ v w c', (c'.1 ≤ X' ∧ c'.2 ≤ Y') → g v w = some o → V K J mi pc' L ((.int v) :: rest) sh w R c' F) (kx : ∀ E w, e E w = some o → F (.inr E) sh w R) : V K J mi pc L (.int l3 :: .int l2 :: .int l1 :: .ref l0 :: rest) sh I R c F := by
  obtain ⟨r, h1, h2⟩ := bnd h
  have hT : isT sh l0 8 = true := by unfold fX10_moveCamera at h1; exact (gd h1).1
  have ml : mL 89 = 5 := by decide +kernel
  have mk : mK 89 = 1 := by decide +kernel
  have mc : mC 89 = 8 := by decide +kernel
  obtain ⟨r, w⟩ := r
  rcases r with v | E
  · refine s_call (as := [.int l3, .int l2, .int l1, .ref l0]) (G := fun o' sh' I' R' => o' = .inl (some (.int v)) ∧ sh' = sh ∧ I' = w ∧ R' = R) hq hc rfl hr (by rw [ml]; rfl) (Or.inl rfl) (fun _ => Or.inl ⟨by rw [mc]; decide, by rw [mc]; exact isT_iff.mp hT⟩) (fun z => absurd (mk.symm.trans z) (by decide)) (by rw [ml]; exact vX10_moveCamera (F := fun o' sh' I' R' => o' = .inl (some (.int v)) ∧ sh' = sh ∧ I' = w ∧ R' = R) ⟨rfl, rfl, rfl, rfl⟩ h1) ?_ ?_ ?_
    · rintro sh' I' R' c' hc' ⟨g1, rfl, rfl, rfl⟩
      cases g1
    · rintro v' sh' I' R' c' hc' ⟨g1, rfl, rfl, rfl⟩
      cases g1
      exact kk _ _ _ hc' h2
    · rintro E' sh' I' R' ⟨g1, rfl, rfl, rfl⟩
      cases g1
  · refine s_call (as := [.int l3, .int l2, .int l1, .ref l0]) (G := fun o' sh' I' R' => o' = .inr E ∧ sh' = sh ∧ I' = w ∧ R' = R) hq hc rfl hr (by rw [ml]; rfl) (Or.inl rfl) (fun _ => Or.inl ⟨by rw [mc]; decide, by rw [mc]; exact isT_iff.mp hT⟩) (fun z => absurd (mk.symm.trans z) (by decide)) (by rw [ml]; exact vX10_moveCamera (F := fun o' sh' I' R' => o' = .inr E ∧ sh' = sh ∧ I' = w ∧ R' = R) ⟨rfl, rfl, rfl, rfl⟩ h1) ?_ ?_ ?_
    · rintro sh' I' R' c' hc' ⟨g1, rfl, rfl, rfl⟩
      cases g1
    · rintro v' sh' I' R' c' hc' ⟨g1, rfl, rfl, rfl⟩
      cases g1
    · rintro E' sh' I' R' ⟨g1, rfl, rfl, rfl⟩
      cases g1
      exact kx _ _ h2
set_option maxRecDepth 100000 in
set_option maxHeartbeats 4000000 in
def fX10_setCast_b52 (fu : Nat) (sh : HS) (R : HR) (I : HI) (l0 : Nat) (l2 : Int32) (l3 : Int32) (l4 : Nat) (l5 : Nat) : Option ((Int32 ⊕ String) × HI) :=
  if l2 = l3 then
    (some (.inl (-2), I))
  else
    ((oI sh I l4 7 1).bind fun v11 =>
    (oI sh I l4 7 2).bind fun v12 =>
    (fX6_isActorAt fu sh I R l5 l2 v11 v12).bind fun v13 =>
    if v13 = 0 then
      ((fX10_beginAction fu sh I R l0).bind fun w14 =>
      (oP sh w14 l4 7 3 l2).bind fun v15 =>
      (oP sh v15 l4 7 4 l3).bind fun v16 =>
      (oR sh R l0 8 4).bind fun v17 =>
      (fX2_total fu sh v16 R v17).bind fun v18 =>
      some (.inl v18, v16))
    else
      (some (.inl (-3), I)))
set_option maxRecDepth 100000 in
set_option maxHeartbeats 4000000 in
theorem vX10_setCast_b52 {K J : Nat → Nat} {fu : Nat} {sh : HS} {R : HR} {F : VF} {o : ((Int32 ⊕ String) × HI)} (hF : F (voI o.1) sh o.2 R) {I : HI} {l0 : Nat} {l2 : Int32} {l3 : Int32} {l4 : Nat} {l5 : Nat} {d1 : Option Value} {c : Nat × Nat} (hc0 : c.1 ≤ 4 ∧ c.2 ≤ 24) (h0 : fX10_setCast_b52 fu sh R I l0 l2 l3 l4 l5 = some o) : V K J 90 52 [some (.ref l0), d1, some (.int l2), some (.int l3), some (.ref l4), some (.ref l5)] [] sh I R c F := by
  unfold fX10_setCast_b52 at h0
  refine s_il (i := 2) (pc' := 53) (by decide +kernel) rfl ?_
  refine s_il (i := 3) (pc' := 54) (by decide +kernel) rfl ?_
  refine s_ifn (ins := .if_icmp .ne 6) (t := 60) (pc' := 57) (by decide +kernel) rfl rfl rfl h0 (fun p1 h1 => ?_) (fun p1 h1 => ?_) <;> clear h0
  · refine s_rl (i := 5) (pc' := 62) (by decide +kernel) rfl ?_
    refine s_il (i := 2) (pc' := 63) (by decide +kernel) rfl ?_
    refine s_rl (i := 4) (pc' := 65) (by decide +kernel) rfl ?_
    refine s_gI (t := 7) (j := 1) (ty := 0) (pc' := 68) (by decide +kernel) rfl h1 (fun v11 h2 => ?_); clear h1
    refine s_rl (i := 4) (pc' := 70) (by decide +kernel) rfl ?_
    refine s_gI (t := 7) (j := 2) (ty := 0) (pc' := 73) (by decide +kernel) rfl h2 (fun v12 h3 => ?_); clear h2
    refine kX6_isActorAt (X := 4) (Y := 24) (X' := 4) (Y' := 24) (pc' := 76) (by decide +kernel) hc0 rfl h3 (fun v13 c hc1 h4 => ?_); clear h3 hc0
    refine s_if (ins := .ifCond .eq 6) (t := 82) (pc' := 79) (by decide +kernel) rfl rfl rfl h4 (fun p5 h5 => ?_) (fun p5 h5 => ?_) <;> clear h4
    · refine s_rl (i := 0) (pc' := 83) (by decide +kernel) rfl ?_
      refine kX10_beginAction (X := 4) (Y := 24) (X' := 4) (Y' := 24) (pc' := 86) (by decide +kernel) hc1 rfl h5 (fun w14 c hc2 h6 => ?_); clear h5 hc1
      refine s_rl (i := 4) (pc' := 88) (by decide +kernel) rfl ?_
      refine s_il (i := 2) (pc' := 89) (by decide +kernel) rfl ?_
      refine s_pI (t := 7) (j := 3) (ty := 0) (pc' := 92) (by decide +kernel) (Or.inl rfl) h6 (fun v15 h7 => ?_); clear h6
      refine s_rl (i := 4) (pc' := 94) (by decide +kernel) rfl ?_
      refine s_il (i := 3) (pc' := 95) (by decide +kernel) rfl ?_
      refine s_pI (t := 7) (j := 4) (ty := 0) (pc' := 98) (by decide +kernel) (Or.inl rfl) h7 (fun v16 h8 => ?_); clear h7
      refine s_rl (i := 0) (pc' := 99) (by decide +kernel) rfl ?_
      refine s_gR (t := 8) (j := 4) (pc' := 102) (by decide +kernel) h8 (fun v17 h9 => ?_); clear h8
      refine kX2_total (X := 4) (Y := 24) (X' := 4) (Y' := 24) (pc' := 105) (by decide +kernel) hc2 rfl h9 (fun v18 c hc3 h10 => ?_); clear h9 hc2
      have e9 := Option.some.inj h10; subst e9
      exact s_ri (X := 4) (Y := 24) (by decide +kernel) hc3 hF
    · refine s_c (v := (-3)) (pc' := 81) (by decide +kernel) ?_
      have e9 := Option.some.inj h5; subst e9
      exact s_ri (X := 4) (Y := 24) (by decide +kernel) hc1 hF
  · refine s_c (v := (-2)) (pc' := 59) (by decide +kernel) ?_
    have e9 := Option.some.inj h1; subst e9
    exact s_ri (X := 4) (Y := 24) (by decide +kernel) hc0 hF
set_option maxRecDepth 100000 in
set_option maxHeartbeats 4000000 in
def fX10_setCast (fu : Nat) (sh : HS) (I : HI) (R : HR) (l0 : Nat) (l1 : Int32) (l2 : Int32) (l3 : Int32) : Option ((Int32 ⊕ String) × HI) :=
  if isT sh l0 8 = true then
    (oT0 (fX10_needBoard fu sh I R l0) (fun E => some (.inr E, I)) fun _ =>
    oT0 (fX10_needShot fu sh I R l0 l1) (fun E => some (.inr E, I)) fun _ =>
    (oR sh R l0 8 4).bind fun v3 =>
    (oR sh R v3 0 6).bind fun v4 =>
    (oB sh R v4 7 l1).bind fun v5 =>
    (oR sh R l0 8 4).bind fun v6 =>
    (oR sh R v6 0 5).bind fun v7 =>
    (oI sh I v5 7 0).bind fun v8 =>
    (oB sh R v7 5 v8).bind fun v9 =>
    oT0 (fX10_needActor fu sh I R v9 l2) (fun E => some (.inr E, I)) fun _ =>
    if l3 = (-1) then
      ((fX10_setCast_b52 fu sh R) I l0 l2 l3 v5 v9)
    else
      (oT0 (fX10_needActor fu sh I R v9 l3) (fun E => some (.inr E, I)) fun _ =>
      (fX10_setCast_b52 fu sh R) I l0 l2 l3 v5 v9))
  else none
set_option maxRecDepth 100000 in
set_option maxHeartbeats 4000000 in
theorem vX10_setCast {K J : Nat → Nat} {fu : Nat} {sh : HS} {I : HI} {R : HR} {F : VF} {o : ((Int32 ⊕ String) × HI)} (hF : F (voI o.1) sh o.2 R) {l0 : Nat} {l1 : Int32} {l2 : Int32} {l3 : Int32} (h0 : fX10_setCast fu sh I R l0 l1 l2 l3 = some o) : V K J 90 0 (ent 6 [.ref l0, .int l1, .int l2, .int l3]) [] sh I R (0, 0) F := by
  unfold fX10_setCast at h0
  obtain ⟨-, h1⟩ := gd h0; clear h0
  have hc0 : ((0 : Nat), (0 : Nat)).1 ≤ 0 ∧ ((0 : Nat), (0 : Nat)).2 ≤ 0 := ⟨Nat.le_refl _, Nat.le_refl _⟩
  show V K J 90 0 [some (.ref l0), some (.int l1), some (.int l2), some (.int l3), none, none] [] sh I R (0, 0) F
  refine s_rl (i := 0) (pc' := 1) (by decide +kernel) rfl ?_
  refine kX10_needBoard (X := 0) (Y := 0) (X' := 1) (Y' := 6) (pc' := 4) (by decide +kernel) hc0 rfl h1 (fun v1 c hc1 h2 => ?_) (fun E h2 => by have e9 := Option.some.inj h2; subst e9; exact hF); clear h1 hc0
  refine s_rl (i := 0) (pc' := 5) (by decide +kernel) rfl ?_
  refine s_il (i := 1) (pc' := 6) (by decide +kernel) rfl ?_
  refine kX10_needShot (X := 1) (Y := 6) (X' := 2) (Y' := 12) (pc' := 9) (by decide +kernel) hc1 rfl h2 (fun v2 c hc2 h3 => ?_) (fun E h3 => by have e9 := Option.some.inj h3; subst e9; exact hF); clear h2 hc1
  refine s_rl (i := 0) (pc' := 10) (by decide +kernel) rfl ?_
  refine s_gR (t := 8) (j := 4) (pc' := 13) (by decide +kernel) h3 (fun v3 h4 => ?_); clear h3
  refine s_gR (t := 0) (j := 6) (pc' := 16) (by decide +kernel) h4 (fun v4 h5 => ?_); clear h4
  refine s_il (i := 1) (pc' := 17) (by decide +kernel) rfl ?_
  refine s_aal (t := 7) (pc' := 18) (by decide +kernel) h5 (fun v5 h6 => ?_); clear h5
  refine s_rs (i := 4) (pc' := 20) (L' := [some (.ref l0), some (.int l1), some (.int l2), some (.int l3), some (.ref v5), none]) (by decide +kernel) rfl rfl ?_
  refine s_rl (i := 0) (pc' := 21) (by decide +kernel) rfl ?_
  refine s_gR (t := 8) (j := 4) (pc' := 24) (by decide +kernel) h6 (fun v6 h7 => ?_); clear h6
  refine s_gR (t := 0) (j := 5) (pc' := 27) (by decide +kernel) h7 (fun v7 h8 => ?_); clear h7
  refine s_rl (i := 4) (pc' := 29) (by decide +kernel) rfl ?_
  refine s_gI (t := 7) (j := 0) (ty := 0) (pc' := 32) (by decide +kernel) rfl h8 (fun v8 h9 => ?_); clear h8
  refine s_aal (t := 5) (pc' := 33) (by decide +kernel) h9 (fun v9 h10 => ?_); clear h9
  refine s_rs (i := 5) (pc' := 35) (L' := [some (.ref l0), some (.int l1), some (.int l2), some (.int l3), some (.ref v5), some (.ref v9)]) (by decide +kernel) rfl rfl ?_
  refine s_rl (i := 5) (pc' := 37) (by decide +kernel) rfl ?_
  refine s_il (i := 2) (pc' := 38) (by decide +kernel) rfl ?_
  refine kX10_needActor (X := 2) (Y := 12) (X' := 3) (Y' := 18) (pc' := 41) (by decide +kernel) hc2 rfl h10 (fun v10 c hc3 h11 => ?_) (fun E h11 => by have e9 := Option.some.inj h11; subst e9; exact hF); clear h10 hc2
  refine s_il (i := 3) (pc' := 42) (by decide +kernel) rfl ?_
  refine s_c (v := (-1)) (pc' := 43) (by decide +kernel) ?_
  refine s_if (ins := .if_icmp .eq 9) (t := 52) (pc' := 46) (by decide +kernel) rfl rfl rfl h11 (fun p12 h12 => ?_) (fun p12 h12 => ?_) <;> clear h11
  · exact (vX10_setCast_b52 hF) ⟨Nat.le_trans hc3.1 (by decide), Nat.le_trans hc3.2 (by decide)⟩ h12
  · refine s_rl (i := 5) (pc' := 48) (by decide +kernel) rfl ?_
    refine s_il (i := 3) (pc' := 49) (by decide +kernel) rfl ?_
    refine kX10_needActor (X := 3) (Y := 18) (X' := 4) (Y' := 24) (pc' := 52) (by decide +kernel) hc3 rfl h12 (fun v19 c hc4 h13 => ?_) (fun E h13 => by have e9 := Option.some.inj h13; subst e9; exact hF); clear h12 hc3
    exact (vX10_setCast_b52 hF) hc4 h13
set_option maxRecDepth 100000 in
set_option maxHeartbeats 4000000 in
theorem kX10_setCast {K J : Nat → Nat} {fu : Nat} {sh : HS} {I : HI} {R : HR} {F : VF} {mi pc pc' X Y X' Y' : Nat} {L : VL} {rest : List Value} {c : Nat × Nat} {l0 : Nat} {l1 : Int32} {l2 : Int32} {l3 : Int32} {ω : Type} {o : ω} {e : String → HI → Option ω} {g : Int32 → HI → Option ω} (hq : cQ mi pc 90 4 pc' X Y X' Y' = true) (hc : c.1 ≤ X ∧ c.2 ≤ Y) (hr : Nat.ble (catS rest) 8 = true) (h : oTh (fX10_setCast fu sh I R l0 l1 l2 l3) e g = some o) (kk : ∀ v w c', (c'.1 ≤ X' ∧ c'.2 ≤ Y') → g v w = some o → V K J mi pc' L ((.int v) :: rest) sh w R c' F) (kx : ∀ E w, e E w = some o → F (.inr E) sh w R) : V K J mi pc L (.int l3 :: .int l2 :: .int l1 :: .ref l0 :: rest) sh I R c F := by
  obtain ⟨r, h1, h2⟩ := bnd h
  have hT : isT sh l0 8 = true := by unfold fX10_setCast at h1; exact (gd h1).1
  have ml : mL 90 = 6 := by decide +kernel
  have mk : mK 90 = 1 := by decide +kernel
  have mc : mC 90 = 8 := by decide +kernel
  obtain ⟨r, w⟩ := r
  rcases r with v | E
  · refine s_call (as := [.int l3, .int l2, .int l1, .ref l0]) (G := fun o' sh' I' R' => o' = .inl (some (.int v)) ∧ sh' = sh ∧ I' = w ∧ R' = R) hq hc rfl hr (by rw [ml]; rfl) (Or.inl rfl) (fun _ => Or.inl ⟨by rw [mc]; decide, by rw [mc]; exact isT_iff.mp hT⟩) (fun z => absurd (mk.symm.trans z) (by decide)) (by rw [ml]; exact vX10_setCast (F := fun o' sh' I' R' => o' = .inl (some (.int v)) ∧ sh' = sh ∧ I' = w ∧ R' = R) ⟨rfl, rfl, rfl, rfl⟩ h1) ?_ ?_ ?_
    · rintro sh' I' R' c' hc' ⟨g1, rfl, rfl, rfl⟩
      cases g1
    · rintro v' sh' I' R' c' hc' ⟨g1, rfl, rfl, rfl⟩
      cases g1
      exact kk _ _ _ hc' h2
    · rintro E' sh' I' R' ⟨g1, rfl, rfl, rfl⟩
      cases g1
  · refine s_call (as := [.int l3, .int l2, .int l1, .ref l0]) (G := fun o' sh' I' R' => o' = .inr E ∧ sh' = sh ∧ I' = w ∧ R' = R) hq hc rfl hr (by rw [ml]; rfl) (Or.inl rfl) (fun _ => Or.inl ⟨by rw [mc]; decide, by rw [mc]; exact isT_iff.mp hT⟩) (fun z => absurd (mk.symm.trans z) (by decide)) (by rw [ml]; exact vX10_setCast (F := fun o' sh' I' R' => o' = .inr E ∧ sh' = sh ∧ I' = w ∧ R' = R) ⟨rfl, rfl, rfl, rfl⟩ h1) ?_ ?_ ?_
    · rintro sh' I' R' c' hc' ⟨g1, rfl, rfl, rfl⟩
      cases g1
    · rintro v' sh' I' R' c' hc' ⟨g1, rfl, rfl, rfl⟩
      cases g1
    · rintro E' sh' I' R' ⟨g1, rfl, rfl, rfl⟩
      cases g1
      exact kx _ _ h2
set_option maxRecDepth 100000 in
set_option maxHeartbeats 4000000 in
def fX10_setLength (fu : Nat) (sh : HS) (I : HI) (R : HR) (l0 : Nat) (l1 : Int32) (l2 : Int32) : Option ((Int32 ⊕ String) × HI) :=
  if isT sh l0 8 = true then
    (oT0 (fX10_needBoard fu sh I R l0) (fun E => some (.inr E, I)) fun _ =>
    oT0 (fX10_needShot fu sh I R l0 l1) (fun E => some (.inr E, I)) fun _ =>
    oT0 (fX10_needRange fu sh I R l2 1 99) (fun E => some (.inr E, I)) fun _ =>
    (oR sh R l0 8 4).bind fun v4 =>
    (oR sh R v4 0 6).bind fun v5 =>
    (oB sh R v5 7 l1).bind fun v6 =>
    (oI sh I v6 7 5).bind fun v7 =>
    (fX10_beginAction fu sh I R l0).bind fun w8 =>
    (oR sh R l0 8 4).bind fun v9 =>
    (oR sh R v9 0 6).bind fun v10 =>
    (oB sh R v10 7 l1).bind fun v11 =>
    (oP sh w8 v11 7 5 l2).bind fun v12 =>
    some (.inl v7, v12))
  else none
set_option maxRecDepth 100000 in
set_option maxHeartbeats 4000000 in
theorem vX10_setLength {K J : Nat → Nat} {fu : Nat} {sh : HS} {I : HI} {R : HR} {F : VF} {o : ((Int32 ⊕ String) × HI)} (hF : F (voI o.1) sh o.2 R) {l0 : Nat} {l1 : Int32} {l2 : Int32} (h0 : fX10_setLength fu sh I R l0 l1 l2 = some o) : V K J 91 0 (ent 4 [.ref l0, .int l1, .int l2]) [] sh I R (0, 0) F := by
  unfold fX10_setLength at h0
  obtain ⟨-, h1⟩ := gd h0; clear h0
  have hc0 : ((0 : Nat), (0 : Nat)).1 ≤ 0 ∧ ((0 : Nat), (0 : Nat)).2 ≤ 0 := ⟨Nat.le_refl _, Nat.le_refl _⟩
  show V K J 91 0 [some (.ref l0), some (.int l1), some (.int l2), none] [] sh I R (0, 0) F
  refine s_rl (i := 0) (pc' := 1) (by decide +kernel) rfl ?_
  refine kX10_needBoard (X := 0) (Y := 0) (X' := 1) (Y' := 6) (pc' := 4) (by decide +kernel) hc0 rfl h1 (fun v1 c hc1 h2 => ?_) (fun E h2 => by have e9 := Option.some.inj h2; subst e9; exact hF); clear h1 hc0
  refine s_rl (i := 0) (pc' := 5) (by decide +kernel) rfl ?_
  refine s_il (i := 1) (pc' := 6) (by decide +kernel) rfl ?_
  refine kX10_needShot (X := 1) (Y := 6) (X' := 2) (Y' := 12) (pc' := 9) (by decide +kernel) hc1 rfl h2 (fun v2 c hc2 h3 => ?_) (fun E h3 => by have e9 := Option.some.inj h3; subst e9; exact hF); clear h2 hc1
  refine s_il (i := 2) (pc' := 10) (by decide +kernel) rfl ?_
  refine s_c (v := 1) (pc' := 11) (by decide +kernel) ?_
  refine s_c (v := 99) (pc' := 13) (by decide +kernel) ?_
  refine kX10_needRange (X := 2) (Y := 12) (X' := 3) (Y' := 18) (pc' := 16) (by decide +kernel) hc2 rfl h3 (fun v3 c hc3 h4 => ?_) (fun E h4 => by have e9 := Option.some.inj h4; subst e9; exact hF); clear h3 hc2
  refine s_rl (i := 0) (pc' := 17) (by decide +kernel) rfl ?_
  refine s_gR (t := 8) (j := 4) (pc' := 20) (by decide +kernel) h4 (fun v4 h5 => ?_); clear h4
  refine s_gR (t := 0) (j := 6) (pc' := 23) (by decide +kernel) h5 (fun v5 h6 => ?_); clear h5
  refine s_il (i := 1) (pc' := 24) (by decide +kernel) rfl ?_
  refine s_aal (t := 7) (pc' := 25) (by decide +kernel) h6 (fun v6 h7 => ?_); clear h6
  refine s_gI (t := 7) (j := 5) (ty := 0) (pc' := 28) (by decide +kernel) rfl h7 (fun v7 h8 => ?_); clear h7
  refine s_is (i := 3) (pc' := 29) (L' := [some (.ref l0), some (.int l1), some (.int l2), some (.int v7)]) (by decide +kernel) rfl rfl ?_
  refine s_rl (i := 0) (pc' := 30) (by decide +kernel) rfl ?_
  refine kX10_beginAction (X := 3) (Y := 18) (X' := 3) (Y' := 18) (pc' := 33) (by decide +kernel) hc3 rfl h8 (fun w8 c hc4 h9 => ?_); clear h8 hc3
  refine s_rl (i := 0) (pc' := 34) (by decide +kernel) rfl ?_
  refine s_gR (t := 8) (j := 4) (pc' := 37) (by decide +kernel) h9 (fun v9 h10 => ?_); clear h9
  refine s_gR (t := 0) (j := 6) (pc' := 40) (by decide +kernel) h10 (fun v10 h11 => ?_); clear h10
  refine s_il (i := 1) (pc' := 41) (by decide +kernel) rfl ?_
  refine s_aal (t := 7) (pc' := 42) (by decide +kernel) h11 (fun v11 h12 => ?_); clear h11
  refine s_il (i := 2) (pc' := 43) (by decide +kernel) rfl ?_
  refine s_pI (t := 7) (j := 5) (ty := 0) (pc' := 46) (by decide +kernel) (Or.inl rfl) h12 (fun v12 h13 => ?_); clear h12
  refine s_il (i := 3) (pc' := 47) (by decide +kernel) rfl ?_
  have e9 := Option.some.inj h13; subst e9
  exact s_ri (X := 3) (Y := 18) (by decide +kernel) hc4 hF
set_option maxRecDepth 100000 in
set_option maxHeartbeats 4000000 in
theorem kX10_setLength {K J : Nat → Nat} {fu : Nat} {sh : HS} {I : HI} {R : HR} {F : VF} {mi pc pc' X Y X' Y' : Nat} {L : VL} {rest : List Value} {c : Nat × Nat} {l0 : Nat} {l1 : Int32} {l2 : Int32} {ω : Type} {o : ω} {e : String → HI → Option ω} {g : Int32 → HI → Option ω} (hq : cQ mi pc 91 3 pc' X Y X' Y' = true) (hc : c.1 ≤ X ∧ c.2 ≤ Y) (hr : Nat.ble (catS rest) 8 = true) (h : oTh (fX10_setLength fu sh I R l0 l1 l2) e g = some o) (kk : ∀ v w c', (c'.1 ≤ X' ∧ c'.2 ≤ Y') → g v w = some o → V K J mi pc' L ((.int v) :: rest) sh w R c' F) (kx : ∀ E w, e E w = some o → F (.inr E) sh w R) : V K J mi pc L (.int l2 :: .int l1 :: .ref l0 :: rest) sh I R c F := by
  obtain ⟨r, h1, h2⟩ := bnd h
  have hT : isT sh l0 8 = true := by unfold fX10_setLength at h1; exact (gd h1).1
  have ml : mL 91 = 4 := by decide +kernel
  have mk : mK 91 = 1 := by decide +kernel
  have mc : mC 91 = 8 := by decide +kernel
  obtain ⟨r, w⟩ := r
  rcases r with v | E
  · refine s_call (as := [.int l2, .int l1, .ref l0]) (G := fun o' sh' I' R' => o' = .inl (some (.int v)) ∧ sh' = sh ∧ I' = w ∧ R' = R) hq hc rfl hr (by rw [ml]; rfl) (Or.inl rfl) (fun _ => Or.inl ⟨by rw [mc]; decide, by rw [mc]; exact isT_iff.mp hT⟩) (fun z => absurd (mk.symm.trans z) (by decide)) (by rw [ml]; exact vX10_setLength (F := fun o' sh' I' R' => o' = .inl (some (.int v)) ∧ sh' = sh ∧ I' = w ∧ R' = R) ⟨rfl, rfl, rfl, rfl⟩ h1) ?_ ?_ ?_
    · rintro sh' I' R' c' hc' ⟨g1, rfl, rfl, rfl⟩
      cases g1
    · rintro v' sh' I' R' c' hc' ⟨g1, rfl, rfl, rfl⟩
      cases g1
      exact kk _ _ _ hc' h2
    · rintro E' sh' I' R' ⟨g1, rfl, rfl, rfl⟩
      cases g1
  · refine s_call (as := [.int l2, .int l1, .ref l0]) (G := fun o' sh' I' R' => o' = .inr E ∧ sh' = sh ∧ I' = w ∧ R' = R) hq hc rfl hr (by rw [ml]; rfl) (Or.inl rfl) (fun _ => Or.inl ⟨by rw [mc]; decide, by rw [mc]; exact isT_iff.mp hT⟩) (fun z => absurd (mk.symm.trans z) (by decide)) (by rw [ml]; exact vX10_setLength (F := fun o' sh' I' R' => o' = .inr E ∧ sh' = sh ∧ I' = w ∧ R' = R) ⟨rfl, rfl, rfl, rfl⟩ h1) ?_ ?_ ?_
    · rintro sh' I' R' c' hc' ⟨g1, rfl, rfl, rfl⟩
      cases g1
    · rintro v' sh' I' R' c' hc' ⟨g1, rfl, rfl, rfl⟩
      cases g1
    · rintro E' sh' I' R' ⟨g1, rfl, rfl, rfl⟩
      cases g1
      exact kx _ _ h2
set_option maxRecDepth 100000 in
set_option maxHeartbeats 4000000 in
def fX10_shift (fu : Nat) (sh : HS) (I : HI) (R : HR) (l0 : Nat) (l1 : Int32) (l2 : Int32) : Option ((Int32 ⊕ String) × (HI × HR)) :=
  if isT sh l0 8 = true then
    (oT0 (fX10_needBoard fu sh I R l0) (fun E => some (.inr E, (I, R))) fun _ =>
    oT0 (fX10_needShot fu sh I R l0 l1) (fun E => some (.inr E, (I, R))) fun _ =>
    oT0 (fX10_needShot fu sh I R l0 l2) (fun E => some (.inr E, (I, R))) fun _ =>
    (oR sh R l0 8 4).bind fun v4 =>
    (oR sh R v4 0 6).bind fun v5 =>
    (oB sh R v5 7 l1).bind fun v6 =>
    (oI sh I v6 7 0).bind fun v7 =>
    (oR sh R l0 8 4).bind fun v8 =>
    (oR sh R v8 0 6).bind fun v9 =>
    (oB sh R v9 7 l2).bind fun v10 =>
    (oI sh I v10 7 0).bind fun v11 =>
    if v7 = v11 then
      ((fX10_beginAction fu sh I R l0).bind fun w12 =>
      (oR sh R l0 8 4).bind fun v13 =>
      (fX0_renumber fu sh w12 R v13 l1 l2).bind fun w14 =>
      (oR sh w14.2 l0 8 4).bind fun v15 =>
      (fX2_total fu sh w14.1 w14.2 v15).bind fun v16 =>
      some (.inl v16, (w14.1, w14.2)))
    else
      (some (.inl (-2), (I, R))))
  else none
set_option maxRecDepth 100000 in
set_option maxHeartbeats 4000000 in
theorem vX10_shift {K J : Nat → Nat} {fu : Nat} {sh : HS} {I : HI} {R : HR} {F : VF} {o : ((Int32 ⊕ String) × (HI × HR))} (hF : F (voI o.1) sh o.2.1 o.2.2) {l0 : Nat} {l1 : Int32} {l2 : Int32} (h0 : fX10_shift fu sh I R l0 l1 l2 = some o) : V K J 92 0 (ent 3 [.ref l0, .int l1, .int l2]) [] sh I R (0, 0) F := by
  unfold fX10_shift at h0
  obtain ⟨-, h1⟩ := gd h0; clear h0
  have hc0 : ((0 : Nat), (0 : Nat)).1 ≤ 0 ∧ ((0 : Nat), (0 : Nat)).2 ≤ 0 := ⟨Nat.le_refl _, Nat.le_refl _⟩
  show V K J 92 0 [some (.ref l0), some (.int l1), some (.int l2)] [] sh I R (0, 0) F
  refine s_rl (i := 0) (pc' := 1) (by decide +kernel) rfl ?_
  refine kX10_needBoard (X := 0) (Y := 0) (X' := 1) (Y' := 6) (pc' := 4) (by decide +kernel) hc0 rfl h1 (fun v1 c hc1 h2 => ?_) (fun E h2 => by have e9 := Option.some.inj h2; subst e9; exact hF); clear h1 hc0
  refine s_rl (i := 0) (pc' := 5) (by decide +kernel) rfl ?_
  refine s_il (i := 1) (pc' := 6) (by decide +kernel) rfl ?_
  refine kX10_needShot (X := 1) (Y := 6) (X' := 2) (Y' := 12) (pc' := 9) (by decide +kernel) hc1 rfl h2 (fun v2 c hc2 h3 => ?_) (fun E h3 => by have e9 := Option.some.inj h3; subst e9; exact hF); clear h2 hc1
  refine s_rl (i := 0) (pc' := 10) (by decide +kernel) rfl ?_
  refine s_il (i := 2) (pc' := 11) (by decide +kernel) rfl ?_
  refine kX10_needShot (X := 2) (Y := 12) (X' := 3) (Y' := 18) (pc' := 14) (by decide +kernel) hc2 rfl h3 (fun v3 c hc3 h4 => ?_) (fun E h4 => by have e9 := Option.some.inj h4; subst e9; exact hF); clear h3 hc2
  refine s_rl (i := 0) (pc' := 15) (by decide +kernel) rfl ?_
  refine s_gR (t := 8) (j := 4) (pc' := 18) (by decide +kernel) h4 (fun v4 h5 => ?_); clear h4
  refine s_gR (t := 0) (j := 6) (pc' := 21) (by decide +kernel) h5 (fun v5 h6 => ?_); clear h5
  refine s_il (i := 1) (pc' := 22) (by decide +kernel) rfl ?_
  refine s_aal (t := 7) (pc' := 23) (by decide +kernel) h6 (fun v6 h7 => ?_); clear h6
  refine s_gI (t := 7) (j := 0) (ty := 0) (pc' := 26) (by decide +kernel) rfl h7 (fun v7 h8 => ?_); clear h7
  refine s_rl (i := 0) (pc' := 27) (by decide +kernel) rfl ?_
  refine s_gR (t := 8) (j := 4) (pc' := 30) (by decide +kernel) h8 (fun v8 h9 => ?_); clear h8
  refine s_gR (t := 0) (j := 6) (pc' := 33) (by decide +kernel) h9 (fun v9 h10 => ?_); clear h9
  refine s_il (i := 2) (pc' := 34) (by decide +kernel) rfl ?_
  refine s_aal (t := 7) (pc' := 35) (by decide +kernel) h10 (fun v10 h11 => ?_); clear h10
  refine s_gI (t := 7) (j := 0) (ty := 0) (pc' := 38) (by decide +kernel) rfl h11 (fun v11 h12 => ?_); clear h11
  refine s_if (ins := .if_icmp .eq 6) (t := 44) (pc' := 41) (by decide +kernel) rfl rfl rfl h12 (fun p13 h13 => ?_) (fun p13 h13 => ?_) <;> clear h12
  · refine s_rl (i := 0) (pc' := 45) (by decide +kernel) rfl ?_
    refine kX10_beginAction (X := 3) (Y := 18) (X' := 3) (Y' := 18) (pc' := 48) (by decide +kernel) hc3 rfl h13 (fun w12 c hc4 h14 => ?_); clear h13 hc3
    refine s_rl (i := 0) (pc' := 49) (by decide +kernel) rfl ?_
    refine s_gR (t := 8) (j := 4) (pc' := 52) (by decide +kernel) h14 (fun v13 h15 => ?_); clear h14
    refine s_il (i := 1) (pc' := 53) (by decide +kernel) rfl ?_
    refine s_il (i := 2) (pc' := 54) (by decide +kernel) rfl ?_
    refine kX0_renumber (X := 3) (Y := 18) (X' := 3) (Y' := 18) (pc' := 57) (by decide +kernel) hc4 rfl h15 (fun w14 c hc5 h16 => ?_); clear h15 hc4
    refine s_rl (i := 0) (pc' := 58) (by decide +kernel) rfl ?_
    refine s_gR (t := 8) (j := 4) (pc' := 61) (by decide +kernel) h16 (fun v15 h17 => ?_); clear h16
    refine kX2_total (X := 3) (Y := 18) (X' := 3) (Y' := 18) (pc' := 64) (by decide +kernel) hc5 rfl h17 (fun v16 c hc6 h18 => ?_); clear h17 hc5
    have e9 := Option.some.inj h18; subst e9
    exact s_ri (X := 3) (Y := 18) (by decide +kernel) hc6 hF
  · refine s_c (v := (-2)) (pc' := 43) (by decide +kernel) ?_
    have e9 := Option.some.inj h13; subst e9
    exact s_ri (X := 3) (Y := 18) (by decide +kernel) hc3 hF
set_option maxRecDepth 100000 in
set_option maxHeartbeats 4000000 in
theorem kX10_shift {K J : Nat → Nat} {fu : Nat} {sh : HS} {I : HI} {R : HR} {F : VF} {mi pc pc' X Y X' Y' : Nat} {L : VL} {rest : List Value} {c : Nat × Nat} {l0 : Nat} {l1 : Int32} {l2 : Int32} {ω : Type} {o : ω} {e : String → (HI × HR) → Option ω} {g : Int32 → (HI × HR) → Option ω} (hq : cQ mi pc 92 3 pc' X Y X' Y' = true) (hc : c.1 ≤ X ∧ c.2 ≤ Y) (hr : Nat.ble (catS rest) 8 = true) (h : oTh (fX10_shift fu sh I R l0 l1 l2) e g = some o) (kk : ∀ v w c', (c'.1 ≤ X' ∧ c'.2 ≤ Y') → g v w = some o → V K J mi pc' L ((.int v) :: rest) sh w.1 w.2 c' F) (kx : ∀ E w, e E w = some o → F (.inr E) sh w.1 w.2) : V K J mi pc L (.int l2 :: .int l1 :: .ref l0 :: rest) sh I R c F := by
  obtain ⟨r, h1, h2⟩ := bnd h
  have hT : isT sh l0 8 = true := by unfold fX10_shift at h1; exact (gd h1).1
  have ml : mL 92 = 3 := by decide +kernel
  have mk : mK 92 = 1 := by decide +kernel
  have mc : mC 92 = 8 := by decide +kernel
  obtain ⟨r, w⟩ := r
  rcases r with v | E
  · refine s_call (as := [.int l2, .int l1, .ref l0]) (G := fun o' sh' I' R' => o' = .inl (some (.int v)) ∧ sh' = sh ∧ I' = w.1 ∧ R' = w.2) hq hc rfl hr (by rw [ml]; rfl) (Or.inl rfl) (fun _ => Or.inl ⟨by rw [mc]; decide, by rw [mc]; exact isT_iff.mp hT⟩) (fun z => absurd (mk.symm.trans z) (by decide)) (by rw [ml]; exact vX10_shift (F := fun o' sh' I' R' => o' = .inl (some (.int v)) ∧ sh' = sh ∧ I' = w.1 ∧ R' = w.2) ⟨rfl, rfl, rfl, rfl⟩ h1) ?_ ?_ ?_
    · rintro sh' I' R' c' hc' ⟨g1, rfl, rfl, rfl⟩
      cases g1
    · rintro v' sh' I' R' c' hc' ⟨g1, rfl, rfl, rfl⟩
      cases g1
      exact kk _ _ _ hc' h2
    · rintro E' sh' I' R' ⟨g1, rfl, rfl, rfl⟩
      cases g1
  · refine s_call (as := [.int l2, .int l1, .ref l0]) (G := fun o' sh' I' R' => o' = .inr E ∧ sh' = sh ∧ I' = w.1 ∧ R' = w.2) hq hc rfl hr (by rw [ml]; rfl) (Or.inl rfl) (fun _ => Or.inl ⟨by rw [mc]; decide, by rw [mc]; exact isT_iff.mp hT⟩) (fun z => absurd (mk.symm.trans z) (by decide)) (by rw [ml]; exact vX10_shift (F := fun o' sh' I' R' => o' = .inr E ∧ sh' = sh ∧ I' = w.1 ∧ R' = w.2) ⟨rfl, rfl, rfl, rfl⟩ h1) ?_ ?_ ?_
    · rintro sh' I' R' c' hc' ⟨g1, rfl, rfl, rfl⟩
      cases g1
    · rintro v' sh' I' R' c' hc' ⟨g1, rfl, rfl, rfl⟩
      cases g1
    · rintro E' sh' I' R' ⟨g1, rfl, rfl, rfl⟩
      cases g1
      exact kx _ _ h2
set_option maxRecDepth 100000 in
set_option maxHeartbeats 4000000 in
def fX10_drop (fu : Nat) (sh : HS) (I : HI) (R : HR) (l0 : Nat) (l1 : Int32) : Option ((Int32 ⊕ String) × (HI × HR)) :=
  if isT sh l0 8 = true then
    (oT0 (fX10_needBoard fu sh I R l0) (fun E => some (.inr E, (I, R))) fun _ =>
    oT0 (fX10_needShot fu sh I R l0 l1) (fun E => some (.inr E, (I, R))) fun _ =>
    (fX10_beginAction fu sh I R l0).bind fun w3 =>
    (oR sh R l0 8 4).bind fun v4 =>
    (oR sh R l0 8 4).bind fun v5 =>
    (oI sh w3 v5 0 4).bind fun v6 =>
    (fX0_renumber fu sh w3 R v4 l1 (v6 - 1)).bind fun w7 =>
    (oR sh w7.2 l0 8 4).bind fun v8 =>
    (oI sh w7.1 v8 0 4).bind fun v9 =>
    (oP sh w7.1 v8 0 4 (v9 - 1)).bind fun v10 =>
    (oR sh w7.2 l0 8 4).bind fun v11 =>
    (oI sh v10 v11 0 4).bind fun v12 =>
    some (.inl v12, (v10, w7.2)))
  else none
set_option maxRecDepth 100000 in
set_option maxHeartbeats 4000000 in
theorem vX10_drop {K J : Nat → Nat} {fu : Nat} {sh : HS} {I : HI} {R : HR} {F : VF} {o : ((Int32 ⊕ String) × (HI × HR))} (hF : F (voI o.1) sh o.2.1 o.2.2) {l0 : Nat} {l1 : Int32} (h0 : fX10_drop fu sh I R l0 l1 = some o) : V K J 93 0 (ent 2 [.ref l0, .int l1]) [] sh I R (0, 0) F := by
  unfold fX10_drop at h0
  obtain ⟨-, h1⟩ := gd h0; clear h0
  have hc0 : ((0 : Nat), (0 : Nat)).1 ≤ 0 ∧ ((0 : Nat), (0 : Nat)).2 ≤ 0 := ⟨Nat.le_refl _, Nat.le_refl _⟩
  show V K J 93 0 [some (.ref l0), some (.int l1)] [] sh I R (0, 0) F
  refine s_rl (i := 0) (pc' := 1) (by decide +kernel) rfl ?_
  refine kX10_needBoard (X := 0) (Y := 0) (X' := 1) (Y' := 6) (pc' := 4) (by decide +kernel) hc0 rfl h1 (fun v1 c hc1 h2 => ?_) (fun E h2 => by have e9 := Option.some.inj h2; subst e9; exact hF); clear h1 hc0
  refine s_rl (i := 0) (pc' := 5) (by decide +kernel) rfl ?_
  refine s_il (i := 1) (pc' := 6) (by decide +kernel) rfl ?_
  refine kX10_needShot (X := 1) (Y := 6) (X' := 2) (Y' := 12) (pc' := 9) (by decide +kernel) hc1 rfl h2 (fun v2 c hc2 h3 => ?_) (fun E h3 => by have e9 := Option.some.inj h3; subst e9; exact hF); clear h2 hc1
  refine s_rl (i := 0) (pc' := 10) (by decide +kernel) rfl ?_
  refine kX10_beginAction (X := 2) (Y := 12) (X' := 2) (Y' := 12) (pc' := 13) (by decide +kernel) hc2 rfl h3 (fun w3 c hc3 h4 => ?_); clear h3 hc2
  refine s_rl (i := 0) (pc' := 14) (by decide +kernel) rfl ?_
  refine s_gR (t := 8) (j := 4) (pc' := 17) (by decide +kernel) h4 (fun v4 h5 => ?_); clear h4
  refine s_il (i := 1) (pc' := 18) (by decide +kernel) rfl ?_
  refine s_rl (i := 0) (pc' := 19) (by decide +kernel) rfl ?_
  refine s_gR (t := 8) (j := 4) (pc' := 22) (by decide +kernel) h5 (fun v5 h6 => ?_); clear h5
  refine s_gI (t := 0) (j := 4) (ty := 0) (pc' := 25) (by decide +kernel) rfl h6 (fun v6 h7 => ?_); clear h6
  refine s_c (v := 1) (pc' := 26) (by decide +kernel) ?_
  refine s_a (ins := .isub) (pc' := 27) (by decide +kernel) rfl ?_
  refine kX0_renumber (X := 2) (Y := 12) (X' := 2) (Y' := 12) (pc' := 30) (by decide +kernel) hc3 rfl h7 (fun w7 c hc4 h8 => ?_); clear h7 hc3
  refine s_rl (i := 0) (pc' := 31) (by decide +kernel) rfl ?_
  refine s_gR (t := 8) (j := 4) (pc' := 34) (by decide +kernel) h8 (fun v8 h9 => ?_); clear h8
  refine s_a (ins := .dup) (pc' := 35) (by decide +kernel) rfl ?_
  refine s_gI (t := 0) (j := 4) (ty := 0) (pc' := 38) (by decide +kernel) rfl h9 (fun v9 h10 => ?_); clear h9
  refine s_c (v := 1) (pc' := 39) (by decide +kernel) ?_
  refine s_a (ins := .isub) (pc' := 40) (by decide +kernel) rfl ?_
  refine s_pI (t := 0) (j := 4) (ty := 0) (pc' := 43) (by decide +kernel) (Or.inl rfl) h10 (fun v10 h11 => ?_); clear h10
  refine s_rl (i := 0) (pc' := 44) (by decide +kernel) rfl ?_
  refine s_gR (t := 8) (j := 4) (pc' := 47) (by decide +kernel) h11 (fun v11 h12 => ?_); clear h11
  refine s_gI (t := 0) (j := 4) (ty := 0) (pc' := 50) (by decide +kernel) rfl h12 (fun v12 h13 => ?_); clear h12
  have e9 := Option.some.inj h13; subst e9
  exact s_ri (X := 2) (Y := 12) (by decide +kernel) hc4 hF
set_option maxRecDepth 100000 in
set_option maxHeartbeats 4000000 in
theorem kX10_drop {K J : Nat → Nat} {fu : Nat} {sh : HS} {I : HI} {R : HR} {F : VF} {mi pc pc' X Y X' Y' : Nat} {L : VL} {rest : List Value} {c : Nat × Nat} {l0 : Nat} {l1 : Int32} {ω : Type} {o : ω} {e : String → (HI × HR) → Option ω} {g : Int32 → (HI × HR) → Option ω} (hq : cQ mi pc 93 2 pc' X Y X' Y' = true) (hc : c.1 ≤ X ∧ c.2 ≤ Y) (hr : Nat.ble (catS rest) 8 = true) (h : oTh (fX10_drop fu sh I R l0 l1) e g = some o) (kk : ∀ v w c', (c'.1 ≤ X' ∧ c'.2 ≤ Y') → g v w = some o → V K J mi pc' L ((.int v) :: rest) sh w.1 w.2 c' F) (kx : ∀ E w, e E w = some o → F (.inr E) sh w.1 w.2) : V K J mi pc L (.int l1 :: .ref l0 :: rest) sh I R c F := by
  obtain ⟨r, h1, h2⟩ := bnd h
  have hT : isT sh l0 8 = true := by unfold fX10_drop at h1; exact (gd h1).1
  have ml : mL 93 = 2 := by decide +kernel
  have mk : mK 93 = 1 := by decide +kernel
  have mc : mC 93 = 8 := by decide +kernel
  obtain ⟨r, w⟩ := r
  rcases r with v | E
  · refine s_call (as := [.int l1, .ref l0]) (G := fun o' sh' I' R' => o' = .inl (some (.int v)) ∧ sh' = sh ∧ I' = w.1 ∧ R' = w.2) hq hc rfl hr (by rw [ml]; rfl) (Or.inl rfl) (fun _ => Or.inl ⟨by rw [mc]; decide, by rw [mc]; exact isT_iff.mp hT⟩) (fun z => absurd (mk.symm.trans z) (by decide)) (by rw [ml]; exact vX10_drop (F := fun o' sh' I' R' => o' = .inl (some (.int v)) ∧ sh' = sh ∧ I' = w.1 ∧ R' = w.2) ⟨rfl, rfl, rfl, rfl⟩ h1) ?_ ?_ ?_
    · rintro sh' I' R' c' hc' ⟨g1, rfl, rfl, rfl⟩
      cases g1
    · rintro v' sh' I' R' c' hc' ⟨g1, rfl, rfl, rfl⟩
      cases g1
      exact kk _ _ _ hc' h2
    · rintro E' sh' I' R' ⟨g1, rfl, rfl, rfl⟩
      cases g1
  · refine s_call (as := [.int l1, .ref l0]) (G := fun o' sh' I' R' => o' = .inr E ∧ sh' = sh ∧ I' = w.1 ∧ R' = w.2) hq hc rfl hr (by rw [ml]; rfl) (Or.inl rfl) (fun _ => Or.inl ⟨by rw [mc]; decide, by rw [mc]; exact isT_iff.mp hT⟩) (fun z => absurd (mk.symm.trans z) (by decide)) (by rw [ml]; exact vX10_drop (F := fun o' sh' I' R' => o' = .inr E ∧ sh' = sh ∧ I' = w.1 ∧ R' = w.2) ⟨rfl, rfl, rfl, rfl⟩ h1) ?_ ?_ ?_
    · rintro sh' I' R' c' hc' ⟨g1, rfl, rfl, rfl⟩
      cases g1
    · rintro v' sh' I' R' c' hc' ⟨g1, rfl, rfl, rfl⟩
      cases g1
    · rintro E' sh' I' R' ⟨g1, rfl, rfl, rfl⟩
      cases g1
      exact kx _ _ h2
set_option maxRecDepth 100000 in
set_option maxHeartbeats 4000000 in
def fX10_obstacleToFlip_b51 (fu : Nat) (sh : HS) (I : HI) (R : HR) : Option Int32 :=
  some (-3)
set_option maxRecDepth 100000 in
set_option maxHeartbeats 4000000 in
theorem vX10_obstacleToFlip_b51 {K J : Nat → Nat} {fu : Nat} {sh : HS} {I : HI} {R : HR} {F : VF} {o : Int32} (hF : F (.inl (some (.int o))) sh I R) {d0 d1 d2 d3 : Option Value} {c : Nat × Nat} (hc0 : c.1 ≤ 0 ∧ c.2 ≤ 0) (h0 : fX10_obstacleToFlip_b51 fu sh I R = some o) : V K J 140 51 [d0, d1, d2, d3] [] sh I R c F := by
  unfold fX10_obstacleToFlip_b51 at h0
  refine s_c (v := (-3)) (pc' := 53) (by decide +kernel) ?_
  have e9 := Option.some.inj h0; subst e9
  exact s_ri (X := 0) (Y := 0) (by decide +kernel) hc0 hF
set_option maxRecDepth 100000 in
set_option maxHeartbeats 4000000 in
def fX10_obstacleToFlip_b73 (fu : Nat) (sh : HS) (I : HI) (R : HR) (s0 : Int32) : Option Int32 :=
  some s0
set_option maxRecDepth 100000 in
set_option maxHeartbeats 4000000 in
theorem vX10_obstacleToFlip_b73 {K J : Nat → Nat} {fu : Nat} {sh : HS} {I : HI} {R : HR} {F : VF} {o : Int32} (hF : F (.inl (some (.int o))) sh I R) {s0 : Int32} {d0 d1 d2 d3 : Option Value} {c : Nat × Nat} (hc0 : c.1 ≤ 0 ∧ c.2 ≤ 0) (h0 : fX10_obstacleToFlip_b73 fu sh I R s0 = some o) : V K J 140 73 [d0, d1, d2, d3] [.int s0] sh I R c F := by
  unfold fX10_obstacleToFlip_b73 at h0
  have e9 := Option.some.inj h0; subst e9
  exact s_ri (X := 0) (Y := 0) (by decide +kernel) hc0 hF
set_option maxRecDepth 100000 in
set_option maxHeartbeats 4000000 in
def fX10_obstacleToFlip (fu : Nat) (sh : HS) (I : HI) (R : HR) (l0 : Nat) (l1 : Nat) : Option Int32 :=
  if isT sh l0 8 = true then
    ((oI sh I l1 7 4).bind fun v1 =>
    if v1 = (-1) then
      (some (-2))
    else
      ((oR sh R l0 8 4).bind fun v2 =>
      (fX0_oppositeX fu sh I R v2 l1).bind fun v3 =>
      (oR sh R l0 8 4).bind fun v4 =>
      (fX0_oppositeY fu sh I R v4 l1).bind fun v5 =>
      if v3 < 0 then
        ((fX10_obstacleToFlip_b51 fu sh I R))
      else
        (if 199 < v3 then
          ((fX10_obstacleToFlip_b51 fu sh I R))
        else
          (if v5 < 0 then
            ((fX10_obstacleToFlip_b51 fu sh I R))
          else
            (if v5 ≤ 199 then
              ((oR sh R l0 8 4).bind fun v6 =>
              (fX0_isSubjectAt fu sh I R v6 l1 v3 v5).bind fun v7 =>
              if v7 = 0 then
                ((fX10_obstacleToFlip_b73 fu sh I R) 0)
              else
                ((fX10_obstacleToFlip_b73 fu sh I R) (-4)))
            else
              ((fX10_obstacleToFlip_b51 fu sh I R)))))))
  else none
set_option maxRecDepth 100000 in
set_option maxHeartbeats 4000000 in
theorem vX10_obstacleToFlip {K J : Nat → Nat} {fu : Nat} {sh : HS} {I : HI} {R : HR} {F : VF} {o : Int32} (hF : F (.inl (some (.int o))) sh I R) {l0 : Nat} {l1 : Nat} (h0 : fX10_obstacleToFlip fu sh I R l0 l1 = some o) : V K J 140 0 (ent 4 [.ref l0, .ref l1]) [] sh I R (0, 0) F := by
  unfold fX10_obstacleToFlip at h0
  obtain ⟨-, h1⟩ := gd h0; clear h0
  have hc0 : ((0 : Nat), (0 : Nat)).1 ≤ 0 ∧ ((0 : Nat), (0 : Nat)).2 ≤ 0 := ⟨Nat.le_refl _, Nat.le_refl _⟩
  show V K J 140 0 [some (.ref l0), some (.ref l1), none, none] [] sh I R (0, 0) F
  refine s_rl (i := 1) (pc' := 1) (by decide +kernel) rfl ?_
  refine s_gI (t := 7) (j := 4) (ty := 0) (pc' := 4) (by decide +kernel) rfl h1 (fun v1 h2 => ?_); clear h1
  refine s_c (v := (-1)) (pc' := 5) (by decide +kernel) ?_
  refine s_ifn (ins := .if_icmp .ne 6) (t := 11) (pc' := 8) (by decide +kernel) rfl rfl rfl h2 (fun p3 h3 => ?_) (fun p3 h3 => ?_) <;> clear h2
  · refine s_rl (i := 0) (pc' := 12) (by decide +kernel) rfl ?_
    refine s_gR (t := 8) (j := 4) (pc' := 15) (by decide +kernel) h3 (fun v2 h4 => ?_); clear h3
    refine s_rl (i := 1) (pc' := 16) (by decide +kernel) rfl ?_
    refine kX0_oppositeX (X := 0) (Y := 0) (X' := 0) (Y' := 0) (pc' := 19) (by decide +kernel) hc0 rfl h4 (fun v3 c hc1 h5 => ?_); clear h4 hc0
    refine s_is (i := 2) (pc' := 20) (L' := [some (.ref l0), some (.ref l1), some (.int v3), none]) (by decide +kernel) rfl rfl ?_
    refine s_rl (i := 0) (pc' := 21) (by decide +kernel) rfl ?_
    refine s_gR (t := 8) (j := 4) (pc' := 24) (by decide +kernel) h5 (fun v4 h6 => ?_); clear h5
    refine s_rl (i := 1) (pc' := 25) (by decide +kernel) rfl ?_
    refine kX0_oppositeY (X := 0) (Y := 0) (X' := 0) (Y' := 0) (pc' := 28) (by decide +kernel) hc1 rfl h6 (fun v5 c hc2 h7 => ?_); clear h6 hc1
    refine s_is (i := 3) (pc' := 29) (L' := [some (.ref l0), some (.ref l1), some (.int v3), some (.int v5)]) (by decide +kernel) rfl rfl ?_
    refine s_il (i := 2) (pc' := 30) (by decide +kernel) rfl ?_
    refine s_if (ins := .ifCond .lt 21) (t := 51) (pc' := 33) (by decide +kernel) rfl rfl rfl h7 (fun p8 h8 => ?_) (fun p8 h8 => ?_) <;> clear h7
    · exact (vX10_obstacleToFlip_b51 hF) hc2 h8
    · refine s_il (i := 2) (pc' := 34) (by decide +kernel) rfl ?_
      refine s_c (v := 199) (pc' := 37) (by decide +kernel) ?_
      refine s_if (ins := .if_icmp .gt 14) (t := 51) (pc' := 40) (by decide +kernel) rfl rfl rfl h8 (fun p9 h9 => ?_) (fun p9 h9 => ?_) <;> clear h8
      · exact (vX10_obstacleToFlip_b51 hF) hc2 h9
      · refine s_il (i := 3) (pc' := 41) (by decide +kernel) rfl ?_
        refine s_if (ins := .ifCond .lt 10) (t := 51) (pc' := 44) (by decide +kernel) rfl rfl rfl h9 (fun p10 h10 => ?_) (fun p10 h10 => ?_) <;> clear h9
        · exact (vX10_obstacleToFlip_b51 hF) hc2 h10
        · refine s_il (i := 3) (pc' := 45) (by decide +kernel) rfl ?_
          refine s_c (v := 199) (pc' := 48) (by decide +kernel) ?_
          refine s_if (ins := .if_icmp .le 6) (t := 54) (pc' := 51) (by decide +kernel) rfl rfl rfl h10 (fun p11 h11 => ?_) (fun p11 h11 => ?_) <;> clear h10
          · refine s_rl (i := 0) (pc' := 55) (by decide +kernel) rfl ?_
            refine s_gR (t := 8) (j := 4) (pc' := 58) (by decide +kernel) h11 (fun v6 h12 => ?_); clear h11
            refine s_rl (i := 1) (pc' := 59) (by decide +kernel) rfl ?_
            refine s_il (i := 2) (pc' := 60) (by decide +kernel) rfl ?_
            refine s_il (i := 3) (pc' := 61) (by decide +kernel) rfl ?_
            refine kX0_isSubjectAt (X := 0) (Y := 0) (X' := 0) (Y' := 0) (pc' := 64) (by decide +kernel) hc2 rfl h12 (fun v7 c hc3 h13 => ?_); clear h12 hc2
            refine s_if (ins := .ifCond .eq 8) (t := 72) (pc' := 67) (by decide +kernel) rfl rfl rfl h13 (fun p14 h14 => ?_) (fun p14 h14 => ?_) <;> clear h13
            · refine s_c (v := 0) (pc' := 73) (by decide +kernel) ?_
              exact (vX10_obstacleToFlip_b73 hF) hc3 h14
            · refine s_c (v := (-4)) (pc' := 69) (by decide +kernel) ?_
              refine s_go (t := 73) (by decide +kernel) ?_
              exact (vX10_obstacleToFlip_b73 hF) hc3 h14
          · exact (vX10_obstacleToFlip_b51 hF) hc2 h11
  · refine s_c (v := (-2)) (pc' := 10) (by decide +kernel) ?_
    have e9 := Option.some.inj h3; subst e9
    exact s_ri (X := 0) (Y := 0) (by decide +kernel) hc0 hF
set_option maxRecDepth 100000 in
set_option maxHeartbeats 4000000 in
theorem kX10_obstacleToFlip {K J : Nat → Nat} {fu : Nat} {sh : HS} {I : HI} {R : HR} {F : VF} {mi pc pc' X Y X' Y' : Nat} {L : VL} {rest : List Value} {c : Nat × Nat} {l0 : Nat} {l1 : Nat} {ω : Type} {o : ω} {g : Int32 → Option ω} (hq : cQ mi pc 140 2 pc' X Y X' Y' = true) (hc : c.1 ≤ X ∧ c.2 ≤ Y) (hr : Nat.ble (catS rest) 8 = true) (h : (fX10_obstacleToFlip fu sh I R l0 l1).bind g = some o) (kk : ∀ v c', (c'.1 ≤ X' ∧ c'.2 ≤ Y') → g v = some o → V K J mi pc' L ((.int v) :: rest) sh I R c' F) : V K J mi pc L (.ref l1 :: .ref l0 :: rest) sh I R c F := by
  obtain ⟨r, h1, h2⟩ := bnd h
  have hT : isT sh l0 8 = true := by unfold fX10_obstacleToFlip at h1; exact (gd h1).1
  have ml : mL 140 = 4 := by decide +kernel
  have mk : mK 140 = 1 := by decide +kernel
  have mc : mC 140 = 8 := by decide +kernel
  refine s_call (as := [.ref l1, .ref l0]) (G := fun o' sh' I' R' => o' = .inl (some (.int r)) ∧ sh' = sh ∧ I' = I ∧ R' = R) hq hc rfl hr (by rw [ml]; rfl) (Or.inl rfl) (fun _ => Or.inl ⟨by rw [mc]; decide, by rw [mc]; exact isT_iff.mp hT⟩) (fun z => absurd (mk.symm.trans z) (by decide)) (by rw [ml]; exact vX10_obstacleToFlip (F := fun o' sh' I' R' => o' = .inl (some (.int r)) ∧ sh' = sh ∧ I' = I ∧ R' = R) ⟨rfl, rfl, rfl, rfl⟩ h1) ?_ ?_ ?_
  · rintro sh' I' R' c' hc' ⟨g1, rfl, rfl, rfl⟩
    cases g1
  · rintro v' sh' I' R' c' hc' ⟨g1, rfl, rfl, rfl⟩
    cases g1
    exact kk _ _ hc' h2
  · rintro E' sh' I' R' ⟨g1, rfl, rfl, rfl⟩
    cases g1
set_option maxRecDepth 100000 in
set_option maxHeartbeats 4000000 in
def fX10_turnOver (fu : Nat) (sh : HS) (I : HI) (R : HR) (l0 : Nat) (l1 : Nat) : Option HI :=
  if isT sh l0 8 = true then
    ((oR sh R l0 8 4).bind fun v1 =>
    (fX0_oppositeX fu sh I R v1 l1).bind fun v2 =>
    (oR sh R l0 8 4).bind fun v3 =>
    (fX0_oppositeY fu sh I R v3 l1).bind fun v4 =>
    (fX8_placeCamera fu sh I R l1 v2 v4).bind fun w5 =>
    some w5)
  else none
set_option maxRecDepth 100000 in
set_option maxHeartbeats 4000000 in
theorem vX10_turnOver {K J : Nat → Nat} {fu : Nat} {sh : HS} {I : HI} {R : HR} {F : VF} {o : HI} (hF : F (.inl none) sh o R) {l0 : Nat} {l1 : Nat} (h0 : fX10_turnOver fu sh I R l0 l1 = some o) : V K J 141 0 (ent 2 [.ref l0, .ref l1]) [] sh I R (0, 0) F := by
  unfold fX10_turnOver at h0
  obtain ⟨-, h1⟩ := gd h0; clear h0
  have hc0 : ((0 : Nat), (0 : Nat)).1 ≤ 0 ∧ ((0 : Nat), (0 : Nat)).2 ≤ 0 := ⟨Nat.le_refl _, Nat.le_refl _⟩
  show V K J 141 0 [some (.ref l0), some (.ref l1)] [] sh I R (0, 0) F
  refine s_rl (i := 1) (pc' := 1) (by decide +kernel) rfl ?_
  refine s_rl (i := 0) (pc' := 2) (by decide +kernel) rfl ?_
  refine s_gR (t := 8) (j := 4) (pc' := 5) (by decide +kernel) h1 (fun v1 h2 => ?_); clear h1
  refine s_rl (i := 1) (pc' := 6) (by decide +kernel) rfl ?_
  refine kX0_oppositeX (X := 0) (Y := 0) (X' := 0) (Y' := 0) (pc' := 9) (by decide +kernel) hc0 rfl h2 (fun v2 c hc1 h3 => ?_); clear h2 hc0
  refine s_rl (i := 0) (pc' := 10) (by decide +kernel) rfl ?_
  refine s_gR (t := 8) (j := 4) (pc' := 13) (by decide +kernel) h3 (fun v3 h4 => ?_); clear h3
  refine s_rl (i := 1) (pc' := 14) (by decide +kernel) rfl ?_
  refine kX0_oppositeY (X := 0) (Y := 0) (X' := 0) (Y' := 0) (pc' := 17) (by decide +kernel) hc1 rfl h4 (fun v4 c hc2 h5 => ?_); clear h4 hc1
  refine kX8_placeCamera (X := 0) (Y := 0) (X' := 0) (Y' := 0) (pc' := 20) (by decide +kernel) hc2 rfl h5 (fun w5 c hc3 h6 => ?_); clear h5 hc2
  have e9 := Option.some.inj h6; subst e9
  exact s_rv (X := 0) (Y := 0) (by decide +kernel) hc3 hF
set_option maxRecDepth 100000 in
set_option maxHeartbeats 4000000 in
theorem kX10_turnOver {K J : Nat → Nat} {fu : Nat} {sh : HS} {I : HI} {R : HR} {F : VF} {mi pc pc' X Y X' Y' : Nat} {L : VL} {rest : List Value} {c : Nat × Nat} {l0 : Nat} {l1 : Nat} {ω : Type} {o : ω} {g : HI → Option ω} (hq : cQ mi pc 141 2 pc' X Y X' Y' = true) (hc : c.1 ≤ X ∧ c.2 ≤ Y) (hr : Nat.ble (catS rest) 8 = true) (h : (fX10_turnOver fu sh I R l0 l1).bind g = some o) (kk : ∀ w c', (c'.1 ≤ X' ∧ c'.2 ≤ Y') → g w = some o → V K J mi pc' L (rest) sh w R c' F) : V K J mi pc L (.ref l1 :: .ref l0 :: rest) sh I R c F := by
  obtain ⟨r, h1, h2⟩ := bnd h
  have hT : isT sh l0 8 = true := by unfold fX10_turnOver at h1; exact (gd h1).1
  have ml : mL 141 = 2 := by decide +kernel
  have mk : mK 141 = 1 := by decide +kernel
  have mc : mC 141 = 8 := by decide +kernel
  refine s_call (as := [.ref l1, .ref l0]) (G := fun o' sh' I' R' => o' = .inl none ∧ sh' = sh ∧ I' = r ∧ R' = R) hq hc rfl hr (by rw [ml]; rfl) (Or.inl rfl) (fun _ => Or.inl ⟨by rw [mc]; decide, by rw [mc]; exact isT_iff.mp hT⟩) (fun z => absurd (mk.symm.trans z) (by decide)) (by rw [ml]; exact vX10_turnOver (F := fun o' sh' I' R' => o' = .inl none ∧ sh' = sh ∧ I' = r ∧ R' = R) ⟨rfl, rfl, rfl, rfl⟩ h1) ?_ ?_ ?_
  · rintro sh' I' R' c' hc' ⟨g1, rfl, rfl, rfl⟩
    cases g1
    exact kk _ _ hc' h2
  · rintro v' sh' I' R' c' hc' ⟨g1, rfl, rfl, rfl⟩
    cases g1
  · rintro E' sh' I' R' ⟨g1, rfl, rfl, rfl⟩
    cases g1
set_option maxRecDepth 100000 in
set_option maxHeartbeats 4000000 in
def fX10_flip (fu : Nat) (sh : HS) (I : HI) (R : HR) (l0 : Nat) (l1 : Int32) : Option ((Int32 ⊕ String) × HI) :=
  if isT sh l0 8 = true then
    (oT0 (fX10_needBoard fu sh I R l0) (fun E => some (.inr E, I)) fun _ =>
    oT0 (fX10_needShot fu sh I R l0 l1) (fun E => some (.inr E, I)) fun _ =>
    (oR sh R l0 8 4).bind fun v3 =>
    (oR sh R v3 0 6).bind fun v4 =>
    (oB sh R v4 7 l1).bind fun v5 =>
    (fX10_obstacleToFlip fu sh I R l0 v5).bind fun v6 =>
    if v6 = 0 then
      ((fX10_beginAction fu sh I R l0).bind fun w7 =>
      (oR sh R l0 8 4).bind fun v8 =>
      (oR sh R v8 0 6).bind fun v9 =>
      (oB sh R v9 7 l1).bind fun v10 =>
      (fX10_turnOver fu sh w7 R l0 v10).bind fun w11 =>
      (oR sh R l0 8 4).bind fun v12 =>
      (fX2_total fu sh w11 R v12).bind fun v13 =>
      some (.inl v13, w11))
    else
      (some (.inl v6, I)))
  else none
set_option maxRecDepth 100000 in
set_option maxHeartbeats 4000000 in
theorem vX10_flip {K J : Nat → Nat} {fu : Nat} {sh : HS} {I : HI} {R : HR} {F : VF} {o : ((Int32 ⊕ String) × HI)} (hF : F (voI o.1) sh o.2 R) {l0 : Nat} {l1 : Int32} (h0 : fX10_flip fu sh I R l0 l1 = some o) : V K J 94 0 (ent 3 [.ref l0, .int l1]) [] sh I R (0, 0) F := by
  unfold fX10_flip at h0
  obtain ⟨-, h1⟩ := gd h0; clear h0
  have hc0 : ((0 : Nat), (0 : Nat)).1 ≤ 0 ∧ ((0 : Nat), (0 : Nat)).2 ≤ 0 := ⟨Nat.le_refl _, Nat.le_refl _⟩
  show V K J 94 0 [some (.ref l0), some (.int l1), none] [] sh I R (0, 0) F
  refine s_rl (i := 0) (pc' := 1) (by decide +kernel) rfl ?_
  refine kX10_needBoard (X := 0) (Y := 0) (X' := 1) (Y' := 6) (pc' := 4) (by decide +kernel) hc0 rfl h1 (fun v1 c hc1 h2 => ?_) (fun E h2 => by have e9 := Option.some.inj h2; subst e9; exact hF); clear h1 hc0
  refine s_rl (i := 0) (pc' := 5) (by decide +kernel) rfl ?_
  refine s_il (i := 1) (pc' := 6) (by decide +kernel) rfl ?_
  refine kX10_needShot (X := 1) (Y := 6) (X' := 2) (Y' := 12) (pc' := 9) (by decide +kernel) hc1 rfl h2 (fun v2 c hc2 h3 => ?_) (fun E h3 => by have e9 := Option.some.inj h3; subst e9; exact hF); clear h2 hc1
  refine s_rl (i := 0) (pc' := 10) (by decide +kernel) rfl ?_
  refine s_rl (i := 0) (pc' := 11) (by decide +kernel) rfl ?_
  refine s_gR (t := 8) (j := 4) (pc' := 14) (by decide +kernel) h3 (fun v3 h4 => ?_); clear h3
  refine s_gR (t := 0) (j := 6) (pc' := 17) (by decide +kernel) h4 (fun v4 h5 => ?_); clear h4
  refine s_il (i := 1) (pc' := 18) (by decide +kernel) rfl ?_
  refine s_aal (t := 7) (pc' := 19) (by decide +kernel) h5 (fun v5 h6 => ?_); clear h5
  refine kX10_obstacleToFlip (X := 2) (Y := 12) (X' := 2) (Y' := 12) (pc' := 22) (by decide +kernel) hc2 rfl h6 (fun v6 c hc3 h7 => ?_); clear h6 hc2
  refine s_is (i := 2) (pc' := 23) (L' := [some (.ref l0), some (.int l1), some (.int v6)]) (by decide +kernel) rfl rfl ?_
  refine s_il (i := 2) (pc' := 24) (by decide +kernel) rfl ?_
  refine s_if (ins := .ifCond .eq 5) (t := 29) (pc' := 27) (by decide +kernel) rfl rfl rfl h7 (fun p8 h8 => ?_) (fun p8 h8 => ?_) <;> clear h7
  · refine s_rl (i := 0) (pc' := 30) (by decide +kernel) rfl ?_
    refine kX10_beginAction (X := 2) (Y := 12) (X' := 2) (Y' := 12) (pc' := 33) (by decide +kernel) hc3 rfl h8 (fun w7 c hc4 h9 => ?_); clear h8 hc3
    refine s_rl (i := 0) (pc' := 34) (by decide +kernel) rfl ?_
    refine s_rl (i := 0) (pc' := 35) (by decide +kernel) rfl ?_
    refine s_gR (t := 8) (j := 4) (pc' := 38) (by decide +kernel) h9 (fun v8 h10 => ?_); clear h9
    refine s_gR (t := 0) (j := 6) (pc' := 41) (by decide +kernel) h10 (fun v9 h11 => ?_); clear h10
    refine s_il (i := 1) (pc' := 42) (by decide +kernel) rfl ?_
    refine s_aal (t := 7) (pc' := 43) (by decide +kernel) h11 (fun v10 h12 => ?_); clear h11
    refine kX10_turnOver (X := 2) (Y := 12) (X' := 2) (Y' := 12) (pc' := 46) (by decide +kernel) hc4 rfl h12 (fun w11 c hc5 h13 => ?_); clear h12 hc4
    refine s_rl (i := 0) (pc' := 47) (by decide +kernel) rfl ?_
    refine s_gR (t := 8) (j := 4) (pc' := 50) (by decide +kernel) h13 (fun v12 h14 => ?_); clear h13
    refine kX2_total (X := 2) (Y := 12) (X' := 2) (Y' := 12) (pc' := 53) (by decide +kernel) hc5 rfl h14 (fun v13 c hc6 h15 => ?_); clear h14 hc5
    have e9 := Option.some.inj h15; subst e9
    exact s_ri (X := 2) (Y := 12) (by decide +kernel) hc6 hF
  · refine s_il (i := 2) (pc' := 28) (by decide +kernel) rfl ?_
    have e9 := Option.some.inj h8; subst e9
    exact s_ri (X := 2) (Y := 12) (by decide +kernel) hc3 hF
set_option maxRecDepth 100000 in
set_option maxHeartbeats 4000000 in
theorem kX10_flip {K J : Nat → Nat} {fu : Nat} {sh : HS} {I : HI} {R : HR} {F : VF} {mi pc pc' X Y X' Y' : Nat} {L : VL} {rest : List Value} {c : Nat × Nat} {l0 : Nat} {l1 : Int32} {ω : Type} {o : ω} {e : String → HI → Option ω} {g : Int32 → HI → Option ω} (hq : cQ mi pc 94 2 pc' X Y X' Y' = true) (hc : c.1 ≤ X ∧ c.2 ≤ Y) (hr : Nat.ble (catS rest) 8 = true) (h : oTh (fX10_flip fu sh I R l0 l1) e g = some o) (kk : ∀ v w c', (c'.1 ≤ X' ∧ c'.2 ≤ Y') → g v w = some o → V K J mi pc' L ((.int v) :: rest) sh w R c' F) (kx : ∀ E w, e E w = some o → F (.inr E) sh w R) : V K J mi pc L (.int l1 :: .ref l0 :: rest) sh I R c F := by
  obtain ⟨r, h1, h2⟩ := bnd h
  have hT : isT sh l0 8 = true := by unfold fX10_flip at h1; exact (gd h1).1
  have ml : mL 94 = 3 := by decide +kernel
  have mk : mK 94 = 1 := by decide +kernel
  have mc : mC 94 = 8 := by decide +kernel
  obtain ⟨r, w⟩ := r
  rcases r with v | E
  · refine s_call (as := [.int l1, .ref l0]) (G := fun o' sh' I' R' => o' = .inl (some (.int v)) ∧ sh' = sh ∧ I' = w ∧ R' = R) hq hc rfl hr (by rw [ml]; rfl) (Or.inl rfl) (fun _ => Or.inl ⟨by rw [mc]; decide, by rw [mc]; exact isT_iff.mp hT⟩) (fun z => absurd (mk.symm.trans z) (by decide)) (by rw [ml]; exact vX10_flip (F := fun o' sh' I' R' => o' = .inl (some (.int v)) ∧ sh' = sh ∧ I' = w ∧ R' = R) ⟨rfl, rfl, rfl, rfl⟩ h1) ?_ ?_ ?_
    · rintro sh' I' R' c' hc' ⟨g1, rfl, rfl, rfl⟩
      cases g1
    · rintro v' sh' I' R' c' hc' ⟨g1, rfl, rfl, rfl⟩
      cases g1
      exact kk _ _ _ hc' h2
    · rintro E' sh' I' R' ⟨g1, rfl, rfl, rfl⟩
      cases g1
  · refine s_call (as := [.int l1, .ref l0]) (G := fun o' sh' I' R' => o' = .inr E ∧ sh' = sh ∧ I' = w ∧ R' = R) hq hc rfl hr (by rw [ml]; rfl) (Or.inl rfl) (fun _ => Or.inl ⟨by rw [mc]; decide, by rw [mc]; exact isT_iff.mp hT⟩) (fun z => absurd (mk.symm.trans z) (by decide)) (by rw [ml]; exact vX10_flip (F := fun o' sh' I' R' => o' = .inr E ∧ sh' = sh ∧ I' = w ∧ R' = R) ⟨rfl, rfl, rfl, rfl⟩ h1) ?_ ?_ ?_
    · rintro sh' I' R' c' hc' ⟨g1, rfl, rfl, rfl⟩
      cases g1
    · rintro v' sh' I' R' c' hc' ⟨g1, rfl, rfl, rfl⟩
      cases g1
    · rintro E' sh' I' R' ⟨g1, rfl, rfl, rfl⟩
      cases g1
      exact kx _ _ h2
set_option maxRecDepth 100000 in
set_option maxHeartbeats 4000000 in
def fX10_needSetup (fu : Nat) (sh : HS) (I : HI) (R : HR) (l0 : Nat) (l1 : Int32) : Option ((Unit ⊕ String) × HI) :=
  if isT sh l0 8 = true then
    ((fX10_settleSetups fu sh I R l0).bind fun w1 =>
    (oR sh R l0 8 8).bind fun v2 =>
    (oI sh w1 v2 6 0).bind fun v3 =>
    oT0 (fX10_needRange fu sh w1 R l1 0 (v3 - 1)) (fun E => some (.inr E, w1)) fun _ =>
    some (.inl (), w1))
  else none
set_option maxRecDepth 100000 in
set_option maxHeartbeats 4000000 in
theorem vX10_needSetup {K J : Nat → Nat} {fu : Nat} {sh : HS} {I : HI} {R : HR} {F : VF} {o : ((Unit ⊕ String) × HI)} (hF : F (voN o.1) sh o.2 R) {l0 : Nat} {l1 : Int32} (h0 : fX10_needSetup fu sh I R l0 l1 = some o) : V K J 132 0 (ent 2 [.ref l0, .int l1]) [] sh I R (0, 0) F := by
  unfold fX10_needSetup at h0
  obtain ⟨-, h1⟩ := gd h0; clear h0
  have hc0 : ((0 : Nat), (0 : Nat)).1 ≤ 0 ∧ ((0 : Nat), (0 : Nat)).2 ≤ 0 := ⟨Nat.le_refl _, Nat.le_refl _⟩
  show V K J 132 0 [some (.ref l0), some (.int l1)] [] sh I R (0, 0) F
  refine s_rl (i := 0) (pc' := 1) (by decide +kernel) rfl ?_
  refine kX10_settleSetups (X := 0) (Y := 0) (X' := 0) (Y' := 0) (pc' := 4) (by decide +kernel) hc0 rfl h1 (fun w1 c hc1 h2 => ?_); clear h1 hc0
  refine s_il (i := 1) (pc' := 5) (by decide +kernel) rfl ?_
  refine s_c (v := 0) (pc' := 6) (by decide +kernel) ?_
  refine s_rl (i := 0) (pc' := 7) (by decide +kernel) rfl ?_
  refine s_gR (t := 8) (j := 8) (pc' := 10) (by decide +kernel) h2 (fun v2 h3 => ?_); clear h2
  refine s_gI (t := 6) (j := 0) (ty := 0) (pc' := 13) (by decide +kernel) rfl h3 (fun v3 h4 => ?_); clear h3
  refine s_c (v := 1) (pc' := 14) (by decide +kernel) ?_
  refine s_a (ins := .isub) (pc' := 15) (by decide +kernel) rfl ?_
  refine kX10_needRange (X := 0) (Y := 0) (X' := 1) (Y' := 6) (pc' := 18) (by decide +kernel) hc1 rfl h4 (fun v4 c hc2 h5 => ?_) (fun E h5 => by have e9 := Option.some.inj h5; subst e9; exact hF); clear h4 hc1
  have e9 := Option.some.inj h5; subst e9
  exact s_rv (X := 1) (Y := 6) (by decide +kernel) hc2 hF
set_option maxRecDepth 100000 in
set_option maxHeartbeats 4000000 in
theorem kX10_needSetup {K J : Nat → Nat} {fu : Nat} {sh : HS} {I : HI} {R : HR} {F : VF} {mi pc pc' X Y X' Y' : Nat} {L : VL} {rest : List Value} {c : Nat × Nat} {l0 : Nat} {l1 : Int32} {ω : Type} {o : ω} {e : String → HI → Option ω} {g : Unit → HI → Option ω} (hq : cQ mi pc 132 2 pc' X Y X' Y' = true) (hc : c.1 ≤ X ∧ c.2 ≤ Y) (hr : Nat.ble (catS rest) 8 = true) (h : oTh (fX10_needSetup fu sh I R l0 l1) e g = some o) (kk : ∀ v w c', (c'.1 ≤ X' ∧ c'.2 ≤ Y') → g v w = some o → V K J mi pc' L (rest) sh w R c' F) (kx : ∀ E w, e E w = some o → F (.inr E) sh w R) : V K J mi pc L (.int l1 :: .ref l0 :: rest) sh I R c F := by
  obtain ⟨r, h1, h2⟩ := bnd h
  have hT : isT sh l0 8 = true := by unfold fX10_needSetup at h1; exact (gd h1).1
  have ml : mL 132 = 2 := by decide +kernel
  have mk : mK 132 = 1 := by decide +kernel
  have mc : mC 132 = 8 := by decide +kernel
  obtain ⟨r, w⟩ := r
  rcases r with v | E
  · refine s_call (as := [.int l1, .ref l0]) (G := fun o' sh' I' R' => o' = .inl none ∧ sh' = sh ∧ I' = w ∧ R' = R) hq hc rfl hr (by rw [ml]; rfl) (Or.inl rfl) (fun _ => Or.inl ⟨by rw [mc]; decide, by rw [mc]; exact isT_iff.mp hT⟩) (fun z => absurd (mk.symm.trans z) (by decide)) (by rw [ml]; exact vX10_needSetup (F := fun o' sh' I' R' => o' = .inl none ∧ sh' = sh ∧ I' = w ∧ R' = R) ⟨rfl, rfl, rfl, rfl⟩ h1) ?_ ?_ ?_
    · rintro sh' I' R' c' hc' ⟨g1, rfl, rfl, rfl⟩
      cases g1
      exact kk _ _ _ hc' h2
    · rintro v' sh' I' R' c' hc' ⟨g1, rfl, rfl, rfl⟩
      cases g1
    · rintro E' sh' I' R' ⟨g1, rfl, rfl, rfl⟩
      cases g1
  · refine s_call (as := [.int l1, .ref l0]) (G := fun o' sh' I' R' => o' = .inr E ∧ sh' = sh ∧ I' = w ∧ R' = R) hq hc rfl hr (by rw [ml]; rfl) (Or.inl rfl) (fun _ => Or.inl ⟨by rw [mc]; decide, by rw [mc]; exact isT_iff.mp hT⟩) (fun z => absurd (mk.symm.trans z) (by decide)) (by rw [ml]; exact vX10_needSetup (F := fun o' sh' I' R' => o' = .inr E ∧ sh' = sh ∧ I' = w ∧ R' = R) ⟨rfl, rfl, rfl, rfl⟩ h1) ?_ ?_ ?_
    · rintro sh' I' R' c' hc' ⟨g1, rfl, rfl, rfl⟩
      cases g1
    · rintro v' sh' I' R' c' hc' ⟨g1, rfl, rfl, rfl⟩
      cases g1
    · rintro E' sh' I' R' ⟨g1, rfl, rfl, rfl⟩
      cases g1
      exact kx _ _ h2
set_option maxRecDepth 100000 in
set_option maxHeartbeats 4000000 in
def fX10_answerOfJoin_b91 (fu : Nat) (sh : HS) (R : HR) (I : HI) (s0 : Int32) : Option (Int32 × HI) :=
  some (s0, I)
set_option maxRecDepth 100000 in
set_option maxHeartbeats 4000000 in
theorem vX10_answerOfJoin_b91 {K J : Nat → Nat} {fu : Nat} {sh : HS} {R : HR} {F : VF} {o : (Int32 × HI)} (hF : F (.inl (some (.int o.1))) sh o.2 R) {I : HI} {s0 : Int32} {d0 d1 d2 d3 d4 : Option Value} {c : Nat × Nat} (hc0 : c.1 ≤ 0 ∧ c.2 ≤ 0) (h0 : fX10_answerOfJoin_b91 fu sh R I s0 = some o) : V K J 139 91 [d0, d1, d2, d3, d4] [.int s0] sh I R c F := by
  unfold fX10_answerOfJoin_b91 at h0
  have e9 := Option.some.inj h0; subst e9
  exact s_ri (X := 0) (Y := 0) (by decide +kernel) hc0 hF
set_option maxRecDepth 100000 in
set_option maxHeartbeats 4000000 in
def fX10_answerOfJoin (fu : Nat) (sh : HS) (I : HI) (R : HR) (l0 : Nat) (l1 : Nat) (l2 : Int32) : Option (Int32 × HI) :=
  if isT sh l0 8 = true then
    ((oR sh R l0 8 4).bind fun v1 =>
    (oR sh R v1 0 6).bind fun v2 =>
    (oR sh R l0 8 8).bind fun v3 =>
    (oR sh R v3 6 2).bind fun v4 =>
    (oA sh I v4 l2).bind fun v5 =>
    (oB sh R v2 7 v5).bind fun v6 =>
    (oI sh I v6 7 0).bind fun v7 =>
    (oI sh I l1 7 0).bind fun v8 =>
    if v7 = v8 then
      ((oR sh R l0 8 4).bind fun v9 =>
      (oI sh I v6 7 1).bind fun v10 =>
      (oI sh I v6 7 2).bind fun v11 =>
      (fX0_isSubjectAt fu sh I R v9 l1 v10 v11).bind fun v12 =>
      if v12 = 0 then
        ((oR sh R l0 8 4).bind fun v13 =>
        (oI sh I v6 7 1).bind fun v14 =>
        (oI sh I v6 7 2).bind fun v15 =>
        oH (fX2_totalWith fu sh I R v13 l1 v14 v15) fun v16 w16 =>
        (oR sh R l0 8 4).bind fun v17 =>
        (fX2_total fu sh w16 R v17).bind fun v18 =>
        if v16 ≤ v18 then
          ((fX10_answerOfJoin_b91 fu sh R) w16 v16)
        else
          ((fX10_answerOfJoin_b91 fu sh R) w16 (-4)))
      else
        (some ((-3), I)))
    else
      (some ((-2), I)))
  else none
set_option maxRecDepth 100000 in
set_option maxHeartbeats 4000000 in
theorem vX10_answerOfJoin {K J : Nat → Nat} {fu : Nat} {sh : HS} {I : HI} {R : HR} {F : VF} {o : (Int32 × HI)} (hF : F (.inl (some (.int o.1))) sh o.2 R) {l0 : Nat} {l1 : Nat} {l2 : Int32} (h0 : fX10_answerOfJoin fu sh I R l0 l1 l2 = some o) : V K J 139 0 (ent 5 [.ref l0, .ref l1, .int l2]) [] sh I R (0, 0) F := by
  unfold fX10_answerOfJoin at h0
  obtain ⟨-, h1⟩ := gd h0; clear h0
  have hc0 : ((0 : Nat), (0 : Nat)).1 ≤ 0 ∧ ((0 : Nat), (0 : Nat)).2 ≤ 0 := ⟨Nat.le_refl _, Nat.le_refl _⟩
  show V K J 139 0 [some (.ref l0), some (.ref l1), some (.int l2), none, none] [] sh I R (0, 0) F
  refine s_rl (i := 0) (pc' := 1) (by decide +kernel) rfl ?_
  refine s_gR (t := 8) (j := 4) (pc' := 4) (by decide +kernel) h1 (fun v1 h2 => ?_); clear h1
  refine s_gR (t := 0) (j := 6) (pc' := 7) (by decide +kernel) h2 (fun v2 h3 => ?_); clear h2
  refine s_rl (i := 0) (pc' := 8) (by decide +kernel) rfl ?_
  refine s_gR (t := 8) (j := 8) (pc' := 11) (by decide +kernel) h3 (fun v3 h4 => ?_); clear h3
  refine s_gR (t := 6) (j := 2) (pc' := 14) (by decide +kernel) h4 (fun v4 h5 => ?_); clear h4
  refine s_il (i := 2) (pc' := 15) (by decide +kernel) rfl ?_
  refine s_al (pc' := 16) (by decide +kernel) h5 (fun v5 h6 => ?_); clear h5
  refine s_aal (t := 7) (pc' := 17) (by decide +kernel) h6 (fun v6 h7 => ?_); clear h6
  refine s_rs (i := 3) (pc' := 18) (L' := [some (.ref l0), some (.ref l1), some (.int l2), some (.ref v6), none]) (by decide +kernel) rfl rfl ?_
  refine s_rl (i := 3) (pc' := 19) (by decide +kernel) rfl ?_
  refine s_gI (t := 7) (j := 0) (ty := 0) (pc' := 22) (by decide +kernel) rfl h7 (fun v7 h8 => ?_); clear h7
  refine s_rl (i := 1) (pc' := 23) (by decide +kernel) rfl ?_
  refine s_gI (t := 7) (j := 0) (ty := 0) (pc' := 26) (by decide +kernel) rfl h8 (fun v8 h9 => ?_); clear h8
  refine s_if (ins := .if_icmp .eq 6) (t := 32) (pc' := 29) (by decide +kernel) rfl rfl rfl h9 (fun p10 h10 => ?_) (fun p10 h10 => ?_) <;> clear h9
  · refine s_rl (i := 0) (pc' := 33) (by decide +kernel) rfl ?_
    refine s_gR (t := 8) (j := 4) (pc' := 36) (by decide +kernel) h10 (fun v9 h11 => ?_); clear h10
    refine s_rl (i := 1) (pc' := 37) (by decide +kernel) rfl ?_
    refine s_rl (i := 3) (pc' := 38) (by decide +kernel) rfl ?_
    refine s_gI (t := 7) (j := 1) (ty := 0) (pc' := 41) (by decide +kernel) rfl h11 (fun v10 h12 => ?_); clear h11
    refine s_rl (i := 3) (pc' := 42) (by decide +kernel) rfl ?_
    refine s_gI (t := 7) (j := 2) (ty := 0) (pc' := 45) (by decide +kernel) rfl h12 (fun v11 h13 => ?_); clear h12
    refine kX0_isSubjectAt (X := 0) (Y := 0) (X' := 0) (Y' := 0) (pc' := 48) (by decide +kernel) hc0 rfl h13 (fun v12 c hc1 h14 => ?_); clear h13 hc0
    refine s_if (ins := .ifCond .eq 6) (t := 54) (pc' := 51) (by decide +kernel) rfl rfl rfl h14 (fun p15 h15 => ?_) (fun p15 h15 => ?_) <;> clear h14
    · refine s_rl (i := 0) (pc' := 55) (by decide +kernel) rfl ?_
      refine s_gR (t := 8) (j := 4) (pc' := 58) (by decide +kernel) h15 (fun v13 h16 => ?_); clear h15
      refine s_rl (i := 1) (pc' := 59) (by decide +kernel) rfl ?_
      refine s_rl (i := 3) (pc' := 60) (by decide +kernel) rfl ?_
      refine s_gI (t := 7) (j := 1) (ty := 0) (pc' := 63) (by decide +kernel) rfl h16 (fun v14 h17 => ?_); clear h16
      refine s_rl (i := 3) (pc' := 64) (by decide +kernel) rfl ?_
      refine s_gI (t := 7) (j := 2) (ty := 0) (pc' := 67) (by decide +kernel) rfl h17 (fun v15 h18 => ?_); clear h17
      refine kX2_totalWith (X := 0) (Y := 0) (X' := 0) (Y' := 0) (pc' := 70) (by decide +kernel) hc1 rfl h18 (fun v16 w16 c hc2 h19 => ?_); clear h18 hc1
      refine s_is (i := 4) (pc' := 72) (L' := [some (.ref l0), some (.ref l1), some (.int l2), some (.ref v6), some (.int v16)]) (by decide +kernel) rfl rfl ?_
      refine s_il (i := 4) (pc' := 74) (by decide +kernel) rfl ?_
      refine s_rl (i := 0) (pc' := 75) (by decide +kernel) rfl ?_
      refine s_gR (t := 8) (j := 4) (pc' := 78) (by decide +kernel) h19 (fun v17 h20 => ?_); clear h19
      refine kX2_total (X := 0) (Y := 0) (X' := 0) (Y' := 0) (pc' := 81) (by decide +kernel) hc2 rfl h20 (fun v18 c hc3 h21 => ?_); clear h20 hc2
      refine s_if (ins := .if_icmp .le 8) (t := 89) (pc' := 84) (by decide +kernel) rfl rfl rfl h21 (fun p22 h22 => ?_) (fun p22 h22 => ?_) <;> clear h21
      · refine s_il (i := 4) (pc' := 91) (by decide +kernel) rfl ?_
        exact (vX10_answerOfJoin_b91 hF) hc3 h22
      · refine s_c (v := (-4)) (pc' := 86) (by decide +kernel) ?_
        refine s_go (t := 91) (by decide +kernel) ?_
        exact (vX10_answerOfJoin_b91 hF) hc3 h22
    · refine s_c (v := (-3)) (pc' := 53) (by decide +kernel) ?_
      have e9 := Option.some.inj h15; subst e9
      exact s_ri (X := 0) (Y := 0) (by decide +kernel) hc1 hF
  · refine s_c (v := (-2)) (pc' := 31) (by decide +kernel) ?_
    have e9 := Option.some.inj h10; subst e9
    exact s_ri (X := 0) (Y := 0) (by decide +kernel) hc0 hF
set_option maxRecDepth 100000 in
set_option maxHeartbeats 4000000 in
theorem kX10_answerOfJoin {K J : Nat → Nat} {fu : Nat} {sh : HS} {I : HI} {R : HR} {F : VF} {mi pc pc' X Y X' Y' : Nat} {L : VL} {rest : List Value} {c : Nat × Nat} {l0 : Nat} {l1 : Nat} {l2 : Int32} {ω : Type} {o : ω} {g : Int32 → HI → Option ω} (hq : cQ mi pc 139 3 pc' X Y X' Y' = true) (hc : c.1 ≤ X ∧ c.2 ≤ Y) (hr : Nat.ble (catS rest) 8 = true) (h : oH (fX10_answerOfJoin fu sh I R l0 l1 l2) g = some o) (kk : ∀ v w c', (c'.1 ≤ X' ∧ c'.2 ≤ Y') → g v w = some o → V K J mi pc' L ((.int v) :: rest) sh w R c' F) : V K J mi pc L (.int l2 :: .ref l1 :: .ref l0 :: rest) sh I R c F := by
  obtain ⟨r, h1, h2⟩ := bnd h
  have hT : isT sh l0 8 = true := by unfold fX10_answerOfJoin at h1; exact (gd h1).1
  have ml : mL 139 = 5 := by decide +kernel
  have mk : mK 139 = 1 := by decide +kernel
  have mc : mC 139 = 8 := by decide +kernel
  obtain ⟨v, w⟩ := r
  refine s_call (as := [.int l2, .ref l1, .ref l0]) (G := fun o' sh' I' R' => o' = .inl (some (.int v)) ∧ sh' = sh ∧ I' = w ∧ R' = R) hq hc rfl hr (by rw [ml]; rfl) (Or.inl rfl) (fun _ => Or.inl ⟨by rw [mc]; decide, by rw [mc]; exact isT_iff.mp hT⟩) (fun z => absurd (mk.symm.trans z) (by decide)) (by rw [ml]; exact vX10_answerOfJoin (F := fun o' sh' I' R' => o' = .inl (some (.int v)) ∧ sh' = sh ∧ I' = w ∧ R' = R) ⟨rfl, rfl, rfl, rfl⟩ h1) ?_ ?_ ?_
  · rintro sh' I' R' c' hc' ⟨g1, rfl, rfl, rfl⟩
    cases g1
  · rintro v' sh' I' R' c' hc' ⟨g1, rfl, rfl, rfl⟩
    cases g1
    exact kk _ _ _ hc' h2
  · rintro E' sh' I' R' ⟨g1, rfl, rfl, rfl⟩
    cases g1
set_option maxRecDepth 100000 in
set_option maxHeartbeats 4000000 in
def fX10_join_b78 (fu : Nat) (sh : HS) (R : HR) (I : HI) (l3 : Int32) : Option ((Int32 ⊕ String) × HI) :=
  some (.inl l3, I)
set_option maxRecDepth 100000 in
set_option maxHeartbeats 4000000 in
theorem vX10_join_b78 {K J : Nat → Nat} {fu : Nat} {sh : HS} {R : HR} {F : VF} {o : ((Int32 ⊕ String) × HI)} (hF : F (voI o.1) sh o.2 R) {I : HI} {l3 : Int32} {d0 d1 d2 d4 : Option Value} {c : Nat × Nat} (hc0 : c.1 ≤ 3 ∧ c.2 ≤ 18) (h0 : fX10_join_b78 fu sh R I l3 = some o) : V K J 95 78 [d0, d1, d2, some (.int l3), d4] [] sh I R c F := by
  unfold fX10_join_b78 at h0
  refine s_il (i := 3) (pc' := 79) (by decide +kernel) rfl ?_
  have e9 := Option.some.inj h0; subst e9
  exact s_ri (X := 3) (Y := 18) (by decide +kernel) hc0 hF
set_option maxRecDepth 100000 in
set_option maxHeartbeats 4000000 in
def fX10_join (fu : Nat) (sh : HS) (I : HI) (R : HR) (l0 : Nat) (l1 : Int32) (l2 : Int32) : Option ((Int32 ⊕ String) × HI) :=
  if isT sh l0 8 = true then
    (oT0 (fX10_needBoard fu sh I R l0) (fun E => some (.inr E, I)) fun _ =>
    oT0 (fX10_needShot fu sh I R l0 l1) (fun E => some (.inr E, I)) fun _ =>
    oTh (fX10_needSetup fu sh I R l0 l2) (fun E w3 => some (.inr E, w3)) fun _ w3 =>
    (oR sh R l0 8 4).bind fun v4 =>
    (oR sh R v4 0 6).bind fun v5 =>
    (oB sh R v5 7 l1).bind fun v6 =>
    oH (fX10_answerOfJoin fu sh w3 R l0 v6 l2) fun v7 w7 =>
    if v7 < 0 then
      ((fX10_join_b78 fu sh R) w7 v7)
    else
      ((oR sh R l0 8 4).bind fun v8 =>
      (oR sh R v8 0 6).bind fun v9 =>
      (oR sh R l0 8 8).bind fun v10 =>
      (oR sh R v10 6 2).bind fun v11 =>
      (oA sh w7 v11 l2).bind fun v12 =>
      (oB sh R v9 7 v12).bind fun v13 =>
      (fX10_beginAction fu sh w7 R l0).bind fun w14 =>
      (oR sh R l0 8 4).bind fun v15 =>
      (oR sh R v15 0 6).bind fun v16 =>
      (oB sh R v16 7 l1).bind fun v17 =>
      (oI sh w14 v13 7 1).bind fun v18 =>
      (oI sh w14 v13 7 2).bind fun v19 =>
      (fX8_placeCamera fu sh w14 R v17 v18 v19).bind fun w20 =>
      (fX10_join_b78 fu sh R) w20 v7))
  else none
set_option maxRecDepth 100000 in
set_option maxHeartbeats 4000000 in
theorem vX10_join {K J : Nat → Nat} {fu : Nat} {sh : HS} {I : HI} {R : HR} {F : VF} {o : ((Int32 ⊕ String) × HI)} (hF : F (voI o.1) sh o.2 R) {l0 : Nat} {l1 : Int32} {l2 : Int32} (h0 : fX10_join fu sh I R l0 l1 l2 = some o) : V K J 95 0 (ent 5 [.ref l0, .int l1, .int l2]) [] sh I R (0, 0) F := by
  unfold fX10_join at h0
  obtain ⟨-, h1⟩ := gd h0; clear h0
  have hc0 : ((0 : Nat), (0 : Nat)).1 ≤ 0 ∧ ((0 : Nat), (0 : Nat)).2 ≤ 0 := ⟨Nat.le_refl _, Nat.le_refl _⟩
  show V K J 95 0 [some (.ref l0), some (.int l1), some (.int l2), none, none] [] sh I R (0, 0) F
  refine s_rl (i := 0) (pc' := 1) (by decide +kernel) rfl ?_
  refine kX10_needBoard (X := 0) (Y := 0) (X' := 1) (Y' := 6) (pc' := 4) (by decide +kernel) hc0 rfl h1 (fun v1 c hc1 h2 => ?_) (fun E h2 => by have e9 := Option.some.inj h2; subst e9; exact hF); clear h1 hc0
  refine s_rl (i := 0) (pc' := 5) (by decide +kernel) rfl ?_
  refine s_il (i := 1) (pc' := 6) (by decide +kernel) rfl ?_
  refine kX10_needShot (X := 1) (Y := 6) (X' := 2) (Y' := 12) (pc' := 9) (by decide +kernel) hc1 rfl h2 (fun v2 c hc2 h3 => ?_) (fun E h3 => by have e9 := Option.some.inj h3; subst e9; exact hF); clear h2 hc1
  refine s_rl (i := 0) (pc' := 10) (by decide +kernel) rfl ?_
  refine s_il (i := 2) (pc' := 11) (by decide +kernel) rfl ?_
  refine kX10_needSetup (X := 2) (Y := 12) (X' := 3) (Y' := 18) (pc' := 14) (by decide +kernel) hc2 rfl h3 (fun v3 w3 c hc3 h4 => ?_) (fun E w3 h4 => by have e9 := Option.some.inj h4; subst e9; exact hF); clear h3 hc2
  refine s_rl (i := 0) (pc' := 15) (by decide +kernel) rfl ?_
  refine s_rl (i := 0) (pc' := 16) (by decide +kernel) rfl ?_
  refine s_gR (t := 8) (j := 4) (pc' := 19) (by decide +kernel) h4 (fun v4 h5 => ?_); clear h4
  refine s_gR (t := 0) (j := 6) (pc' := 22) (by decide +kernel) h5 (fun v5 h6 => ?_); clear h5
  refine s_il (i := 1) (pc' := 23) (by decide +kernel) rfl ?_
  refine s_aal (t := 7) (pc' := 24) (by decide +kernel) h6 (fun v6 h7 => ?_); clear h6
  refine s_il (i := 2) (pc' := 25) (by decide +kernel) rfl ?_
  refine kX10_answerOfJoin (X := 3) (Y := 18) (X' := 3) (Y' := 18) (pc' := 28) (by decide +kernel) hc3 rfl h7 (fun v7 w7 c hc4 h8 => ?_); clear h7 hc3
  refine s_is (i := 3) (pc' := 29) (L' := [some (.ref l0), some (.int l1), some (.int l2), some (.int v7), none]) (by decide +kernel) rfl rfl ?_
  refine s_il (i := 3) (pc' := 30) (by decide +kernel) rfl ?_
  refine s_if (ins := .ifCond .lt 48) (t := 78) (pc' := 33) (by decide +kernel) rfl rfl rfl h8 (fun p9 h9 => ?_) (fun p9 h9 => ?_) <;> clear h8
  · exact (vX10_join_b78 hF) hc4 h9
  · refine s_rl (i := 0) (pc' := 34) (by decide +kernel) rfl ?_
    refine s_gR (t := 8) (j := 4) (pc' := 37) (by decide +kernel) h9 (fun v8 h10 => ?_); clear h9
    refine s_gR (t := 0) (j := 6) (pc' := 40) (by decide +kernel) h10 (fun v9 h11 => ?_); clear h10
    refine s_rl (i := 0) (pc' := 41) (by decide +kernel) rfl ?_
    refine s_gR (t := 8) (j := 8) (pc' := 44) (by decide +kernel) h11 (fun v10 h12 => ?_); clear h11
    refine s_gR (t := 6) (j := 2) (pc' := 47) (by decide +kernel) h12 (fun v11 h13 => ?_); clear h12
    refine s_il (i := 2) (pc' := 48) (by decide +kernel) rfl ?_
    refine s_al (pc' := 49) (by decide +kernel) h13 (fun v12 h14 => ?_); clear h13
    refine s_aal (t := 7) (pc' := 50) (by decide +kernel) h14 (fun v13 h15 => ?_); clear h14
    refine s_rs (i := 4) (pc' := 52) (L' := [some (.ref l0), some (.int l1), some (.int l2), some (.int v7), some (.ref v13)]) (by decide +kernel) rfl rfl ?_
    refine s_rl (i := 0) (pc' := 53) (by decide +kernel) rfl ?_
    refine kX10_beginAction (X := 3) (Y := 18) (X' := 3) (Y' := 18) (pc' := 56) (by decide +kernel) hc4 rfl h15 (fun w14 c hc5 h16 => ?_); clear h15 hc4
    refine s_rl (i := 0) (pc' := 57) (by decide +kernel) rfl ?_
    refine s_gR (t := 8) (j := 4) (pc' := 60) (by decide +kernel) h16 (fun v15 h17 => ?_); clear h16
    refine s_gR (t := 0) (j := 6) (pc' := 63) (by decide +kernel) h17 (fun v16 h18 => ?_); clear h17
    refine s_il (i := 1) (pc' := 64) (by decide +kernel) rfl ?_
    refine s_aal (t := 7) (pc' := 65) (by decide +kernel) h18 (fun v17 h19 => ?_); clear h18
    refine s_rl (i := 4) (pc' := 67) (by decide +kernel) rfl ?_
    refine s_gI (t := 7) (j := 1) (ty := 0) (pc' := 70) (by decide +kernel) rfl h19 (fun v18 h20 => ?_); clear h19
    refine s_rl (i := 4) (pc' := 72) (by decide +kernel) rfl ?_
    refine s_gI (t := 7) (j := 2) (ty := 0) (pc' := 75) (by decide +kernel) rfl h20 (fun v19 h21 => ?_); clear h20
    refine kX8_placeCamera (X := 3) (Y := 18) (X' := 3) (Y' := 18) (pc' := 78) (by decide +kernel) hc5 rfl h21 (fun w20 c hc6 h22 => ?_); clear h21 hc5
    exact (vX10_join_b78 hF) hc6 h22
set_option maxRecDepth 100000 in
set_option maxHeartbeats 4000000 in
theorem kX10_join {K J : Nat → Nat} {fu : Nat} {sh : HS} {I : HI} {R : HR} {F : VF} {mi pc pc' X Y X' Y' : Nat} {L : VL} {rest : List Value} {c : Nat × Nat} {l0 : Nat} {l1 : Int32} {l2 : Int32} {ω : Type} {o : ω} {e : String → HI → Option ω} {g : Int32 → HI → Option ω} (hq : cQ mi pc 95 3 pc' X Y X' Y' = true) (hc : c.1 ≤ X ∧ c.2 ≤ Y) (hr : Nat.ble (catS rest) 8 = true) (h : oTh (fX10_join fu sh I R l0 l1 l2) e g = some o) (kk : ∀ v w c', (c'.1 ≤ X' ∧ c'.2 ≤ Y') → g v w = some o → V K J mi pc' L ((.int v) :: rest) sh w R c' F) (kx : ∀ E w, e E w = some o → F (.inr E) sh w R) : V K J mi pc L (.int l2 :: .int l1 :: .ref l0 :: rest) sh I R c F := by
  obtain ⟨r, h1, h2⟩ := bnd h
  have hT : isT sh l0 8 = true := by unfold fX10_join at h1; exact (gd h1).1
  have ml : mL 95 = 5 := by decide +kernel
  have mk : mK 95 = 1 := by decide +kernel
  have mc : mC 95 = 8 := by decide +kernel
  obtain ⟨r, w⟩ := r
  rcases r with v | E
  · refine s_call (as := [.int l2, .int l1, .ref l0]) (G := fun o' sh' I' R' => o' = .inl (some (.int v)) ∧ sh' = sh ∧ I' = w ∧ R' = R) hq hc rfl hr (by rw [ml]; rfl) (Or.inl rfl) (fun _ => Or.inl ⟨by rw [mc]; decide, by rw [mc]; exact isT_iff.mp hT⟩) (fun z => absurd (mk.symm.trans z) (by decide)) (by rw [ml]; exact vX10_join (F := fun o' sh' I' R' => o' = .inl (some (.int v)) ∧ sh' = sh ∧ I' = w ∧ R' = R) ⟨rfl, rfl, rfl, rfl⟩ h1) ?_ ?_ ?_
    · rintro sh' I' R' c' hc' ⟨g1, rfl, rfl, rfl⟩
      cases g1
    · rintro v' sh' I' R' c' hc' ⟨g1, rfl, rfl, rfl⟩
      cases g1
      exact kk _ _ _ hc' h2
    · rintro E' sh' I' R' ⟨g1, rfl, rfl, rfl⟩
      cases g1
  · refine s_call (as := [.int l2, .int l1, .ref l0]) (G := fun o' sh' I' R' => o' = .inr E ∧ sh' = sh ∧ I' = w ∧ R' = R) hq hc rfl hr (by rw [ml]; rfl) (Or.inl rfl) (fun _ => Or.inl ⟨by rw [mc]; decide, by rw [mc]; exact isT_iff.mp hT⟩) (fun z => absurd (mk.symm.trans z) (by decide)) (by rw [ml]; exact vX10_join (F := fun o' sh' I' R' => o' = .inr E ∧ sh' = sh ∧ I' = w ∧ R' = R) ⟨rfl, rfl, rfl, rfl⟩ h1) ?_ ?_ ?_
    · rintro sh' I' R' c' hc' ⟨g1, rfl, rfl, rfl⟩
      cases g1
    · rintro v' sh' I' R' c' hc' ⟨g1, rfl, rfl, rfl⟩
      cases g1
    · rintro E' sh' I' R' ⟨g1, rfl, rfl, rfl⟩
      cases g1
      exact kx _ _ h2
set_option maxRecDepth 100000 in
set_option maxHeartbeats 4000000 in
def fX10_bestFlip_b86 (fu : Nat) (sh : HS) (R : HR) (k12 : HI → Nat → Int32 → Int32 → Int32 → Option (Int32 × HI)) (I : HI) (l0 : Nat) (l1 : Int32) (l2 : Int32) (l3 : Int32) : Option (Int32 × HI) :=
  k12 I l0 l1 l2 (l3 + 1)
set_option maxRecDepth 100000 in
set_option maxHeartbeats 4000000 in
theorem vX10_bestFlip_b86 {K J : Nat → Nat} {fu : Nat} {sh : HS} {R : HR} {F : VF} {o : (Int32 × HI)} (hF : F (.inl (some (.int o.1))) sh o.2 R) {k12 : HI → Nat → Int32 → Int32 → Int32 → Option (Int32 × HI)} (hk12 : ∀ {I : HI} {l0 : Nat} {l1 : Int32} {l2 : Int32} {l3 : Int32} {d4 d5 : Option Value} {c : Nat × Nat}, (c.1 ≤ 0 ∧ c.2 ≤ 0) → k12 I l0 l1 l2 l3 = some o → V K J 142 12 [some (.ref l0), some (.int l1), some (.int l2), some (.int l3), d4, d5] [] sh I R c F) {I : HI} {l0 : Nat} {l1 : Int32} {l2 : Int32} {l3 : Int32} {d4 d5 : Option Value} {c : Nat × Nat} (hc0 : c.1 ≤ 0 ∧ c.2 ≤ 0) (h0 : fX10_bestFlip_b86 fu sh R k12 I l0 l1 l2 l3 = some o) : V K J 142 86 [some (.ref l0), some (.int l1), some (.int l2), some (.int l3), d4, d5] [] sh I R c F := by
  unfold fX10_bestFlip_b86 at h0
  refine s_inc (i := 3) (z := 1) (pc' := 89) (L' := [some (.ref l0), some (.int l1), some (.int l2), some (.int (l3 + 1)), d4, d5]) (by decide +kernel) rfl rfl rfl ?_
  refine s_go (t := 12) (by decide +kernel) ?_
  exact hk12 hc0 h0
set_option maxRecDepth 100000 in
set_option maxHeartbeats 4000000 in
def fX10_bestFlip_b12 (fu : Nat) (sh : HS) (R : HR) (k12 : HI → Nat → Int32 → Int32 → Int32 → Option (Int32 × HI)) (I : HI) (l0 : Nat) (l1 : Int32) (l2 : Int32) (l3 : Int32) : Option (Int32 × HI) :=
  (oR sh R l0 8 4).bind fun v3 =>
  (oI sh I v3 0 4).bind fun v4 =>
  if v4 ≤ l3 then
    (some (l2, I))
  else
    ((oR sh R l0 8 4).bind fun v5 =>
    (oR sh R v5 0 6).bind fun v6 =>
    (oB sh R v6 7 l3).bind fun v7 =>
    (fX10_obstacleToFlip fu sh I R l0 v7).bind fun v8 =>
    if v8 = 0 then
      ((oR sh R l0 8 4).bind fun v9 =>
      (oR sh R l0 8 4).bind fun v10 =>
      (fX0_oppositeX fu sh I R v10 v7).bind fun v11 =>
      (oR sh R l0 8 4).bind fun v12 =>
      (fX0_oppositeY fu sh I R v12 v7).bind fun v13 =>
      oH (fX2_totalWith fu sh I R v9 v7 v11 v13) fun v14 w14 =>
      if l1 ≤ v14 then
        ((fX10_bestFlip_b86 fu sh R k12) w14 l0 l1 l2 l3)
      else
        ((fX10_bestFlip_b86 fu sh R k12) w14 l0 v14 l3 l3))
    else
      ((fX10_bestFlip_b86 fu sh R k12) I l0 l1 l2 l3))
set_option maxRecDepth 100000 in
set_option maxHeartbeats 4000000 in
theorem vX10_bestFlip_b12 {K J : Nat → Nat} {fu : Nat} {sh : HS} {R : HR} {F : VF} {o : (Int32 × HI)} (hF : F (.inl (some (.int o.1))) sh o.2 R) {k12 : HI → Nat → Int32 → Int32 → Int32 → Option (Int32 × HI)} (hk12 : ∀ {I : HI} {l0 : Nat} {l1 : Int32} {l2 : Int32} {l3 : Int32} {d4 d5 : Option Value} {c : Nat × Nat}, (c.1 ≤ 0 ∧ c.2 ≤ 0) → k12 I l0 l1 l2 l3 = some o → V K J 142 12 [some (.ref l0), some (.int l1), some (.int l2), some (.int l3), d4, d5] [] sh I R c F) {I : HI} {l0 : Nat} {l1 : Int32} {l2 : Int32} {l3 : Int32} {d4 d5 : Option Value} {c : Nat × Nat} (hc0 : c.1 ≤ 0 ∧ c.2 ≤ 0) (h0 : fX10_bestFlip_b12 fu sh R k12 I l0 l1 l2 l3 = some o) : V K J 142 12 [some (.ref l0), some (.int l1), some (.int l2), some (.int l3), d4, d5] [] sh I R c F := by
  unfold fX10_bestFlip_b12 at h0
  refine s_il (i := 3) (pc' := 13) (by decide +kernel) rfl ?_
  refine s_rl (i := 0) (pc' := 14) (by decide +kernel) rfl ?_
  refine s_gR (t := 8) (j := 4) (pc' := 17) (by decide +kernel) h0 (fun v3 h1 => ?_); clear h0
  refine s_gI (t := 0) (j := 4) (ty := 0) (pc' := 20) (by decide +kernel) rfl h1 (fun v4 h2 => ?_); clear h1
  refine s_if (ins := .if_icmp .ge 72) (t := 92) (pc' := 23) (by decide +kernel) rfl rfl rfl h2 (fun p3 h3 => ?_) (fun p3 h3 => ?_) <;> clear h2
  · refine s_il (i := 2) (pc' := 93) (by decide +kernel) rfl ?_
    have e9 := Option.some.inj h3; subst e9
    exact s_ri (X := 0) (Y := 0) (by decide +kernel) hc0 hF
  · refine s_rl (i := 0) (pc' := 24) (by decide +kernel) rfl ?_
    refine s_gR (t := 8) (j := 4) (pc' := 27) (by decide +kernel) h3 (fun v5 h4 => ?_); clear h3
    refine s_gR (t := 0) (j := 6) (pc' := 30) (by decide +kernel) h4 (fun v6 h5 => ?_); clear h4
    refine s_il (i := 3) (pc' := 31) (by decide +kernel) rfl ?_
    refine s_aal (t := 7) (pc' := 32) (by decide +kernel) h5 (fun v7 h6 => ?_); clear h5
    refine s_rs (i := 4) (pc' := 34) (L' := [some (.ref l0), some (.int l1), some (.int l2), some (.int l3), some (.ref v7), d5]) (by decide +kernel) rfl rfl ?_
    refine s_rl (i := 0) (pc' := 35) (by decide +kernel) rfl ?_
    refine s_rl (i := 4) (pc' := 37) (by decide +kernel) rfl ?_
    refine kX10_obstacleToFlip (X := 0) (Y := 0) (X' := 0) (Y' := 0) (pc' := 40) (by decide +kernel) hc0 rfl h6 (fun v8 c hc1 h7 => ?_); clear h6 hc0
    refine s_if (ins := .ifCond .eq 6) (t := 46) (pc' := 43) (by decide +kernel) rfl rfl rfl h7 (fun p8 h8 => ?_) (fun p8 h8 => ?_) <;> clear h7
    · refine s_rl (i := 0) (pc' := 47) (by decide +kernel) rfl ?_
      refine s_gR (t := 8) (j := 4) (pc' := 50) (by decide +kernel) h8 (fun v9 h9 => ?_); clear h8
      refine s_rl (i := 4) (pc' := 52) (by decide +kernel) rfl ?_
      refine s_rl (i := 0) (pc' := 53) (by decide +kernel) rfl ?_
      refine s_gR (t := 8) (j := 4) (pc' := 56) (by decide +kernel) h9 (fun v10 h10 => ?_); clear h9
      refine s_rl (i := 4) (pc' := 58) (by decide +kernel) rfl ?_
      refine kX0_oppositeX (X := 0) (Y := 0) (X' := 0) (Y' := 0) (pc' := 61) (by decide +kernel) hc1 rfl h10 (fun v11 c hc2 h11 => ?_); clear h10 hc1
      refine s_rl (i := 0) (pc' := 62) (by decide +kernel) rfl ?_
      refine s_gR (t := 8) (j := 4) (pc' := 65) (by decide +kernel) h11 (fun v12 h12 => ?_); clear h11
      refine s_rl (i := 4) (pc' := 67) (by decide +kernel) rfl ?_
      refine kX0_oppositeY (X := 0) (Y := 0) (X' := 0) (Y' := 0) (pc' := 70) (by decide +kernel) hc2 rfl h12 (fun v13 c hc3 h13 => ?_); clear h12 hc2
      refine kX2_totalWith (X := 0) (Y := 0) (X' := 0) (Y' := 0) (pc' := 73) (by decide +kernel) hc3 rfl h13 (fun v14 w14 c hc4 h14 => ?_); clear h13 hc3
      refine s_is (i := 5) (pc' := 75) (L' := [some (.ref l0), some (.int l1), some (.int l2), some (.int l3), some (.ref v7), some (.int v14)]) (by decide +kernel) rfl rfl ?_
      refine s_il (i := 5) (pc' := 77) (by decide +kernel) rfl ?_
      refine s_il (i := 1) (pc' := 78) (by decide +kernel) rfl ?_
      refine s_if (ins := .if_icmp .ge 8) (t := 86) (pc' := 81) (by decide +kernel) rfl rfl rfl h14 (fun p15 h15 => ?_) (fun p15 h15 => ?_) <;> clear h14
      · exact (vX10_bestFlip_b86 hF hk12) hc4 h15
      · refine s_il (i := 5) (pc' := 83) (by decide +kernel) rfl ?_
        refine s_is (i := 1) (pc' := 84) (L' := [some (.ref l0), some (.int v14), some (.int l2), some (.int l3), some (.ref v7), some (.int v14)]) (by decide +kernel) rfl rfl ?_
        refine s_il (i := 3) (pc' := 85) (by decide +kernel) rfl ?_
        refine s_is (i := 2) (pc' := 86) (L' := [some (.ref l0), some (.int v14), some (.int l3), some (.int l3), some (.ref v7), some (.int v14)]) (by decide +kernel) rfl rfl ?_
        exact (vX10_bestFlip_b86 hF hk12) hc4 h15
    · refine s_go (t := 86) (by decide +kernel) ?_
      exact (vX10_bestFlip_b86 hF hk12) hc1 h8
set_option maxRecDepth 100000 in
set_option maxHeartbeats 4000000 in
def fX10_bestFlip_l12 (fu : Nat) (sh : HS) (R : HR) : Nat → HI → Nat → Int32 → Int32 → Int32 → Option (Int32 × HI)
  | 0 => fun _ _ _ _ _ => none
  | n + 1 => fX10_bestFlip_b12 fu sh R (fX10_bestFlip_l12 fu sh R n)
set_option maxRecDepth 100000 in
set_option maxHeartbeats 4000000 in
theorem vX10_bestFlip_l12 {K J : Nat → Nat} {fu : Nat} {sh : HS} {R : HR} {F : VF} {o : (Int32 × HI)} (hF : F (.inl (some (.int o.1))) sh o.2 R) : ∀ (n : Nat) {I : HI} {l0 : Nat} {l1 : Int32} {l2 : Int32} {l3 : Int32} {d4 d5 : Option Value} {c : Nat × Nat} (_ : c.1 ≤ 0 ∧ c.2 ≤ 0) (_ : fX10_bestFlip_l12 fu sh R n I l0 l1 l2 l3 = some o), V K J 142 12 [some (.ref l0), some (.int l1), some (.int l2), some (.int l3), d4, d5] [] sh I R c F := by
  intro n
  induction n with
  | zero => exact fun _ h0 => nomatch h0
  | succ n ih => exact fun hc0 h0 => vX10_bestFlip_b12 hF ih hc0 h0
set_option maxRecDepth 100000 in
set_option maxHeartbeats 4000000 in
def fX10_bestFlip (fu : Nat) (sh : HS) (I : HI) (R : HR) (l0 : Nat) : Option (Int32 × HI) :=
  if isT sh l0 8 = true then
    ((oR sh R l0 8 4).bind fun v1 =>
    (fX2_total fu sh I R v1).bind fun v2 =>
    (fX10_bestFlip_l12 fu sh R fu) I l0 v2 (-1) 0)
  else none
set_option maxRecDepth 100000 in
set_option maxHeartbeats 4000000 in
theorem vX10_bestFlip {K J : Nat → Nat} {fu : Nat} {sh : HS} {I : HI} {R : HR} {F : VF} {o : (Int32 × HI)} (hF : F (.inl (some (.int o.1))) sh o.2 R) {l0 : Nat} (h0 : fX10_bestFlip fu sh I R l0 = some o) : V K J 142 0 (ent 6 [.ref l0]) [] sh I R (0, 0) F := by
  unfold fX10_bestFlip at h0
  obtain ⟨-, h1⟩ := gd h0; clear h0
  have hc0 : ((0 : Nat), (0 : Nat)).1 ≤ 0 ∧ ((0 : Nat), (0 : Nat)).2 ≤ 0 := ⟨Nat.le_refl _, Nat.le_refl _⟩
  show V K J 142 0 [some (.ref l0), none, none, none, none, none] [] sh I R (0, 0) F
  refine s_rl (i := 0) (pc' := 1) (by decide +kernel) rfl ?_
  refine s_gR (t := 8) (j := 4) (pc' := 4) (by decide +kernel) h1 (fun v1 h2 => ?_); clear h1
  refine kX2_total (X := 0) (Y := 0) (X' := 0) (Y' := 0) (pc' := 7) (by decide +kernel) hc0 rfl h2 (fun v2 c hc1 h3 => ?_); clear h2 hc0
  refine s_is (i := 1) (pc' := 8) (L' := [some (.ref l0), some (.int v2), none, none, none, none]) (by decide +kernel) rfl rfl ?_
  refine s_c (v := (-1)) (pc' := 9) (by decide +kernel) ?_
  refine s_is (i := 2) (pc' := 10) (L' := [some (.ref l0), some (.int v2), some (.int (-1)), none, none, none]) (by decide +kernel) rfl rfl ?_
  refine s_c (v := 0) (pc' := 11) (by decide +kernel) ?_
  refine s_is (i := 3) (pc' := 12) (L' := [some (.ref l0), some (.int v2), some (.int (-1)), some (.int 0), none, none]) (by decide +kernel) rfl rfl ?_
  exact (vX10_bestFlip_l12 hF fu) hc1 h3
set_option maxRecDepth 100000 in
set_option maxHeartbeats 4000000 in
theorem kX10_bestFlip {K J : Nat → Nat} {fu : Nat} {sh : HS} {I : HI} {R : HR} {F : VF} {mi pc pc' X Y X' Y' : Nat} {L : VL} {rest : List Value} {c : Nat × Nat} {l0 : Nat} {ω : Type} {o : ω} {g : Int32 → HI → Option ω} (hq : cQ mi pc 142 1 pc' X Y X' Y' = true) (hc : c.1 ≤ X ∧ c.2 ≤ Y) (hr : Nat.ble (catS rest) 8 = true) (h : oH (fX10_bestFlip fu sh I R l0) g = some o) (kk : ∀ v w c', (c'.1 ≤ X' ∧ c'.2 ≤ Y') → g v w = some o → V K J mi pc' L ((.int v) :: rest) sh w R c' F) : V K J mi pc L (.ref l0 :: rest) sh I R c F := by
  obtain ⟨r, h1, h2⟩ := bnd h
  have hT : isT sh l0 8 = true := by unfold fX10_bestFlip at h1; exact (gd h1).1
  have ml : mL 142 = 6 := by decide +kernel
  have mk : mK 142 = 1 := by decide +kernel
  have mc : mC 142 = 8 := by decide +kernel
  obtain ⟨v, w⟩ := r
  refine s_call (as := [.ref l0]) (G := fun o' sh' I' R' => o' = .inl (some (.int v)) ∧ sh' = sh ∧ I' = w ∧ R' = R) hq hc rfl hr (by rw [ml]; rfl) (Or.inl rfl) (fun _ => Or.inl ⟨by rw [mc]; decide, by rw [mc]; exact isT_iff.mp hT⟩) (fun z => absurd (mk.symm.trans z) (by decide)) (by rw [ml]; exact vX10_bestFlip (F := fun o' sh' I' R' => o' = .inl (some (.int v)) ∧ sh' = sh ∧ I' = w ∧ R' = R) ⟨rfl, rfl, rfl, rfl⟩ h1) ?_ ?_ ?_
  · rintro sh' I' R' c' hc' ⟨g1, rfl, rfl, rfl⟩
    cases g1
  · rintro v' sh' I' R' c' hc' ⟨g1, rfl, rfl, rfl⟩
    cases g1
    exact kk _ _ _ hc' h2
  · rintro E' sh' I' R' ⟨g1, rfl, rfl, rfl⟩
    cases g1
set_option maxRecDepth 100000 in
set_option maxHeartbeats 4000000 in
def fX10_mend_b23 (fu : Nat) (sh : HS) (R : HR) (k23 : HI → Nat → Int32 → Int32 → Option ((Int32 ⊕ String) × HI)) (k58 : HI → Int32 → Option ((Int32 ⊕ String) × HI)) (I : HI) (l0 : Nat) (l1 : Int32) (l2 : Int32) : Option ((Int32 ⊕ String) × HI) :=
  if l1 = (-1) then
    (k58 I l2)
  else
    (if 48 ≤ l2 then
      (k58 I l2)
    else
      ((oR sh R l0 8 4).bind fun v4 =>
      (oR sh R v4 0 6).bind fun v5 =>
      (oB sh R v5 7 l1).bind fun v6 =>
      (fX10_turnOver fu sh I R l0 v6).bind fun w7 =>
      oH (fX10_bestFlip fu sh w7 R l0) fun v8 w8 =>
      k23 w8 l0 v8 (l2 + 1)))
set_option maxRecDepth 100000 in
set_option maxHeartbeats 4000000 in
theorem vX10_mend_b23 {K J : Nat → Nat} {fu : Nat} {sh : HS} {R : HR} {F : VF} {o : ((Int32 ⊕ String) × HI)} (hF : F (voI o.1) sh o.2 R) {k23 : HI → Nat → Int32 → Int32 → Option ((Int32 ⊕ String) × HI)} {k58 : HI → Int32 → Option ((Int32 ⊕ String) × HI)} (hk23 : ∀ {I : HI} {l0 : Nat} {l1 : Int32} {l2 : Int32}  {c : Nat × Nat}, (c.1 ≤ 1 ∧ c.2 ≤ 6) → k23 I l0 l1 l2 = some o → V K J 96 23 [some (.ref l0), some (.int l1), some (.int l2)] [] sh I R c F) (hk58 : ∀ {I : HI} {l2 : Int32} {d0 d1 : Option Value} {c : Nat × Nat}, (c.1 ≤ 1 ∧ c.2 ≤ 6) → k58 I l2 = some o → V K J 96 58 [d0, d1, some (.int l2)] [] sh I R c F) {I : HI} {l0 : Nat} {l1 : Int32} {l2 : Int32} {c : Nat × Nat} (hc0 : c.1 ≤ 1 ∧ c.2 ≤ 6) (h0 : fX10_mend_b23 fu sh R k23 k58 I l0 l1 l2 = some o) : V K J 96 23 [some (.ref l0), some (.int l1), some (.int l2)] [] sh I R c F := by
  unfold fX10_mend_b23 at h0
  refine s_il (i := 1) (pc' := 24) (by decide +kernel) rfl ?_
  refine s_c (v := (-1)) (pc' := 25) (by decide +kernel) ?_
  refine s_if (ins := .if_icmp .eq 33) (t := 58) (pc' := 28) (by decide +kernel) rfl rfl rfl h0 (fun p1 h1 => ?_) (fun p1 h1 => ?_) <;> clear h0
  · exact hk58 hc0 h1
  · refine s_il (i := 2) (pc' := 29) (by decide +kernel) rfl ?_
    refine s_c (v := 48) (pc' := 31) (by decide +kernel) ?_
    refine s_if (ins := .if_icmp .ge 27) (t := 58) (pc' := 34) (by decide +kernel) rfl rfl rfl h1 (fun p2 h2 => ?_) (fun p2 h2 => ?_) <;> clear h1
    · exact hk58 hc0 h2
    · refine s_rl (i := 0) (pc' := 35) (by decide +kernel) rfl ?_
      refine s_rl (i := 0) (pc' := 36) (by decide +kernel) rfl ?_
      refine s_gR (t := 8) (j := 4) (pc' := 39) (by decide +kernel) h2 (fun v4 h3 => ?_); clear h2
      refine s_gR (t := 0) (j := 6) (pc' := 42) (by decide +kernel) h3 (fun v5 h4 => ?_); clear h3
      refine s_il (i := 1) (pc' := 43) (by decide +kernel) rfl ?_
      refine s_aal (t := 7) (pc' := 44) (by decide +kernel) h4 (fun v6 h5 => ?_); clear h4
      refine kX10_turnOver (X := 1) (Y := 6) (X' := 1) (Y' := 6) (pc' := 47) (by decide +kernel) hc0 rfl h5 (fun w7 c hc1 h6 => ?_); clear h5 hc0
      refine s_inc (i := 2) (z := 1) (pc' := 50) (L' := [some (.ref l0), some (.int l1), some (.int (l2 + 1))]) (by decide +kernel) rfl rfl rfl ?_
      refine s_rl (i := 0) (pc' := 51) (by decide +kernel) rfl ?_
      refine kX10_bestFlip (X := 1) (Y := 6) (X' := 1) (Y' := 6) (pc' := 54) (by decide +kernel) hc1 rfl h6 (fun v8 w8 c hc2 h7 => ?_); clear h6 hc1
      refine s_is (i := 1) (pc' := 55) (L' := [some (.ref l0), some (.int v8), some (.int (l2 + 1))]) (by decide +kernel) rfl rfl ?_
      refine s_go (t := 23) (by decide +kernel) ?_
      exact hk23 hc2 h7
set_option maxRecDepth 100000 in
set_option maxHeartbeats 4000000 in
def fX10_mend_l23 (fu : Nat) (sh : HS) (R : HR) (k58 : HI → Int32 → Option ((Int32 ⊕ String) × HI)) : Nat → HI → Nat → Int32 → Int32 → Option ((Int32 ⊕ String) × HI)
  | 0 => fun _ _ _ _ => none
  | n + 1 => fX10_mend_b23 fu sh R (fX10_mend_l23 fu sh R k58 n) k58
set_option maxRecDepth 100000 in
set_option maxHeartbeats 4000000 in
theorem vX10_mend_l23 {K J : Nat → Nat} {fu : Nat} {sh : HS} {R : HR} {F : VF} {o : ((Int32 ⊕ String) × HI)} (hF : F (voI o.1) sh o.2 R) {k58 : HI → Int32 → Option ((Int32 ⊕ String) × HI)} (hk58 : ∀ {I : HI} {l2 : Int32} {d0 d1 : Option Value} {c : Nat × Nat}, (c.1 ≤ 1 ∧ c.2 ≤ 6) → k58 I l2 = some o → V K J 96 58 [d0, d1, some (.int l2)] [] sh I R c F) : ∀ (n : Nat) {I : HI} {l0 : Nat} {l1 : Int32} {l2 : Int32} {c : Nat × Nat} (_ : c.1 ≤ 1 ∧ c.2 ≤ 6) (_ : fX10_mend_l23 fu sh R k58 n I l0 l1 l2 = some o), V K J 96 23 [some (.ref l0), some (.int l1), some (.int l2)] [] sh I R c F := by
  intro n
  induction n with
  | zero => exact fun _ h0 => nomatch h0
  | succ n ih => exact fun hc0 h0 => vX10_mend_b23 hF ih hk58 hc0 h0
set_option maxRecDepth 100000 in
set_option maxHeartbeats 4000000 in
def fX10_mend_b58 (fu : Nat) (sh : HS) (R : HR) (I : HI) (l2 : Int32) : Option ((Int32 ⊕ String) × HI) :=
  some (.inl l2, I)
set_option maxRecDepth 100000 in
set_option maxHeartbeats 4000000 in
theorem vX10_mend_b58 {K J : Nat → Nat} {fu : Nat} {sh : HS} {R : HR} {F : VF} {o : ((Int32 ⊕ String) × HI)} (hF : F (voI o.1) sh o.2 R) {I : HI} {l2 : Int32} {d0 d1 : Option Value} {c : Nat × Nat} (hc0 : c.1 ≤ 1 ∧ c.2 ≤ 6) (h0 : fX10_mend_b58 fu sh R I l2 = some o) : V K J 96 58 [d0, d1, some (.int l2)] [] sh I R c F := by
  unfold fX10_mend_b58 at h0
  refine s_il (i := 2) (pc' := 59) (by decide +kernel) rfl ?_
  have e9 := Option.some.inj h0; subst e9
  exact s_ri (X := 1) (Y := 6) (by decide +kernel) hc0 hF
set_option maxRecDepth 100000 in
set_option maxHeartbeats 4000000 in
def fX10_mend (fu : Nat) (sh : HS) (I : HI) (R : HR) (l0 : Nat) : Option ((Int32 ⊕ String) × HI) :=
  if isT sh l0 8 = true then
    (oT0 (fX10_needBoard fu sh I R l0) (fun E => some (.inr E, I)) fun _ =>
    oH (fX10_bestFlip fu sh I R l0) fun v2 w2 =>
    if v2 = (-1) then
      (some (.inl (-2), w2))
    else
      ((fX10_beginAction fu sh w2 R l0).bind fun w3 =>
      (fX10_mend_l23 fu sh R (fX10_mend_b58 fu sh R) fu) w3 l0 v2 0))
  else none
set_option maxRecDepth 100000 in
set_option maxHeartbeats 4000000 in
theorem vX10_mend {K J : Nat → Nat} {fu : Nat} {sh : HS} {I : HI} {R : HR} {F : VF} {o : ((Int32 ⊕ String) × HI)} (hF : F (voI o.1) sh o.2 R) {l0 : Nat} (h0 : fX10_mend fu sh I R l0 = some o) : V K J 96 0 (ent 3 [.ref l0]) [] sh I R (0, 0) F := by
  unfold fX10_mend at h0
  obtain ⟨-, h1⟩ := gd h0; clear h0
  have hc0 : ((0 : Nat), (0 : Nat)).1 ≤ 0 ∧ ((0 : Nat), (0 : Nat)).2 ≤ 0 := ⟨Nat.le_refl _, Nat.le_refl _⟩
  show V K J 96 0 [some (.ref l0), none, none] [] sh I R (0, 0) F
  refine s_rl (i := 0) (pc' := 1) (by decide +kernel) rfl ?_
  refine kX10_needBoard (X := 0) (Y := 0) (X' := 1) (Y' := 6) (pc' := 4) (by decide +kernel) hc0 rfl h1 (fun v1 c hc1 h2 => ?_) (fun E h2 => by have e9 := Option.some.inj h2; subst e9; exact hF); clear h1 hc0
  refine s_rl (i := 0) (pc' := 5) (by decide +kernel) rfl ?_
  refine kX10_bestFlip (X := 1) (Y := 6) (X' := 1) (Y' := 6) (pc' := 8) (by decide +kernel) hc1 rfl h2 (fun v2 w2 c hc2 h3 => ?_); clear h2 hc1
  refine s_is (i := 1) (pc' := 9) (L' := [some (.ref l0), some (.int v2), none]) (by decide +kernel) rfl rfl ?_
  refine s_il (i := 1) (pc' := 10) (by decide +kernel) rfl ?_
  refine s_c (v := (-1)) (pc' := 11) (by decide +kernel) ?_
  refine s_ifn (ins := .if_icmp .ne 6) (t := 17) (pc' := 14) (by decide +kernel) rfl rfl rfl h3 (fun p4 h4 => ?_) (fun p4 h4 => ?_) <;> clear h3
  · refine s_rl (i := 0) (pc' := 18) (by decide +kernel) rfl ?_
    refine kX10_beginAction (X := 1) (Y := 6) (X' := 1) (Y' := 6) (pc' := 21) (by decide +kernel) hc2 rfl h4 (fun w3 c hc3 h5 => ?_); clear h4 hc2
    refine s_c (v := 0) (pc' := 22) (by decide +kernel) ?_
    refine s_is (i := 2) (pc' := 23) (L' := [some (.ref l0), some (.int v2), some (.int 0)]) (by decide +kernel) rfl rfl ?_
    exact (vX10_mend_l23 hF (vX10_mend_b58 hF) fu) hc3 h5
  · refine s_c (v := (-2)) (pc' := 16) (by decide +kernel) ?_
    have e9 := Option.some.inj h4; subst e9
    exact s_ri (X := 1) (Y := 6) (by decide +kernel) hc2 hF
set_option maxRecDepth 100000 in
set_option maxHeartbeats 4000000 in
theorem kX10_mend {K J : Nat → Nat} {fu : Nat} {sh : HS} {I : HI} {R : HR} {F : VF} {mi pc pc' X Y X' Y' : Nat} {L : VL} {rest : List Value} {c : Nat × Nat} {l0 : Nat} {ω : Type} {o : ω} {e : String → HI → Option ω} {g : Int32 → HI → Option ω} (hq : cQ mi pc 96 1 pc' X Y X' Y' = true) (hc : c.1 ≤ X ∧ c.2 ≤ Y) (hr : Nat.ble (catS rest) 8 = true) (h : oTh (fX10_mend fu sh I R l0) e g = some o) (kk : ∀ v w c', (c'.1 ≤ X' ∧ c'.2 ≤ Y') → g v w = some o → V K J mi pc' L ((.int v) :: rest) sh w R c' F) (kx : ∀ E w, e E w = some o → F (.inr E) sh w R) : V K J mi pc L (.ref l0 :: rest) sh I R c F := by
  obtain ⟨r, h1, h2⟩ := bnd h
  have hT : isT sh l0 8 = true := by unfold fX10_mend at h1; exact (gd h1).1
  have ml : mL 96 = 3 := by decide +kernel
  have mk : mK 96 = 1 := by decide +kernel
  have mc : mC 96 = 8 := by decide +kernel
  obtain ⟨r, w⟩ := r
  rcases r with v | E
  · refine s_call (as := [.ref l0]) (G := fun o' sh' I' R' => o' = .inl (some (.int v)) ∧ sh' = sh ∧ I' = w ∧ R' = R) hq hc rfl hr (by rw [ml]; rfl) (Or.inl rfl) (fun _ => Or.inl ⟨by rw [mc]; decide, by rw [mc]; exact isT_iff.mp hT⟩) (fun z => absurd (mk.symm.trans z) (by decide)) (by rw [ml]; exact vX10_mend (F := fun o' sh' I' R' => o' = .inl (some (.int v)) ∧ sh' = sh ∧ I' = w ∧ R' = R) ⟨rfl, rfl, rfl, rfl⟩ h1) ?_ ?_ ?_
    · rintro sh' I' R' c' hc' ⟨g1, rfl, rfl, rfl⟩
      cases g1
    · rintro v' sh' I' R' c' hc' ⟨g1, rfl, rfl, rfl⟩
      cases g1
      exact kk _ _ _ hc' h2
    · rintro E' sh' I' R' ⟨g1, rfl, rfl, rfl⟩
      cases g1
  · refine s_call (as := [.ref l0]) (G := fun o' sh' I' R' => o' = .inr E ∧ sh' = sh ∧ I' = w ∧ R' = R) hq hc rfl hr (by rw [ml]; rfl) (Or.inl rfl) (fun _ => Or.inl ⟨by rw [mc]; decide, by rw [mc]; exact isT_iff.mp hT⟩) (fun z => absurd (mk.symm.trans z) (by decide)) (by rw [ml]; exact vX10_mend (F := fun o' sh' I' R' => o' = .inr E ∧ sh' = sh ∧ I' = w ∧ R' = R) ⟨rfl, rfl, rfl, rfl⟩ h1) ?_ ?_ ?_
    · rintro sh' I' R' c' hc' ⟨g1, rfl, rfl, rfl⟩
      cases g1
    · rintro v' sh' I' R' c' hc' ⟨g1, rfl, rfl, rfl⟩
      cases g1
    · rintro E' sh' I' R' ⟨g1, rfl, rfl, rfl⟩
      cases g1
      exact kx _ _ h2
set_option maxRecDepth 100000 in
set_option maxHeartbeats 4000000 in
def fX10_direction (fu : Nat) (sh : HS) (I : HI) (R : HR) (l0 : Nat) (l1 : Int32) (l2 : Int32) : Option (Int32 ⊕ String) :=
  if isT sh l0 8 = true then
    (oT0 (fX10_needBoard fu sh I R l0) (fun E => some (.inr E)) fun _ =>
    oT0 (fX10_needRange fu sh I R l1 (-199) 199) (fun E => some (.inr E)) fun _ =>
    oT0 (fX10_needRange fu sh I R l2 (-199) 199) (fun E => some (.inr E)) fun _ =>
    (fX10_directionNumber fu sh I R l1 l2).bind fun v4 =>
    some (.inl v4))
  else none
set_option maxRecDepth 100000 in
set_option maxHeartbeats 4000000 in
theorem vX10_direction {K J : Nat → Nat} {fu : Nat} {sh : HS} {I : HI} {R : HR} {F : VF} {o : (Int32 ⊕ String)} (hF : F (voI o) sh I R) {l0 : Nat} {l1 : Int32} {l2 : Int32} (h0 : fX10_direction fu sh I R l0 l1 l2 = some o) : V K J 97 0 (ent 3 [.ref l0, .int l1, .int l2]) [] sh I R (0, 0) F := by
  unfold fX10_direction at h0
  obtain ⟨-, h1⟩ := gd h0; clear h0
  have hc0 : ((0 : Nat), (0 : Nat)).1 ≤ 0 ∧ ((0 : Nat), (0 : Nat)).2 ≤ 0 := ⟨Nat.le_refl _, Nat.le_refl _⟩
  show V K J 97 0 [some (.ref l0), some (.int l1), some (.int l2)] [] sh I R (0, 0) F
  refine s_rl (i := 0) (pc' := 1) (by decide +kernel) rfl ?_
  refine kX10_needBoard (X := 0) (Y := 0) (X' := 1) (Y' := 6) (pc' := 4) (by decide +kernel) hc0 rfl h1 (fun v1 c hc1 h2 => ?_) (fun E h2 => by have e9 := Option.some.inj h2; subst e9; exact hF); clear h1 hc0
  refine s_il (i := 1) (pc' := 5) (by decide +kernel) rfl ?_
  refine s_c (v := (-199)) (pc' := 8) (by decide +kernel) ?_
  refine s_c (v := 199) (pc' := 11) (by decide +kernel) ?_
  refine kX10_needRange (X := 1) (Y := 6) (X' := 2) (Y' := 12) (pc' := 14) (by decide +kernel) hc1 rfl h2 (fun v2 c hc2 h3 => ?_) (fun E h3 => by have e9 := Option.some.inj h3; subst e9; exact hF); clear h2 hc1
  refine s_il (i := 2) (pc' := 15) (by decide +kernel) rfl ?_
  refine s_c (v := (-199)) (pc' := 18) (by decide +kernel) ?_
  refine s_c (v := 199) (pc' := 21) (by decide +kernel) ?_
  refine kX10_needRange (X := 2) (Y := 12) (X' := 3) (Y' := 18) (pc' := 24) (by decide +kernel) hc2 rfl h3 (fun v3 c hc3 h4 => ?_) (fun E h4 => by have e9 := Option.some.inj h4; subst e9; exact hF); clear h3 hc2
  refine s_il (i := 1) (pc' := 25) (by decide +kernel) rfl ?_
  refine s_il (i := 2) (pc' := 26) (by decide +kernel) rfl ?_
  refine kX10_directionNumber (X := 3) (Y := 18) (X' := 3) (Y' := 18) (pc' := 29) (by decide +kernel) hc3 rfl h4 (fun v4 c hc4 h5 => ?_); clear h4 hc3
  have e9 := Option.some.inj h5; subst e9
  exact s_ri (X := 3) (Y := 18) (by decide +kernel) hc4 hF
set_option maxRecDepth 100000 in
set_option maxHeartbeats 4000000 in
theorem kX10_direction {K J : Nat → Nat} {fu : Nat} {sh : HS} {I : HI} {R : HR} {F : VF} {mi pc pc' X Y X' Y' : Nat} {L : VL} {rest : List Value} {c : Nat × Nat} {l0 : Nat} {l1 : Int32} {l2 : Int32} {ω : Type} {o : ω} {e : String → Option ω} {g : Int32 → Option ω} (hq : cQ mi pc 97 3 pc' X Y X' Y' = true) (hc : c.1 ≤ X ∧ c.2 ≤ Y) (hr : Nat.ble (catS rest) 8 = true) (h : oT0 (fX10_direction fu sh I R l0 l1 l2) e g = some o) (kk : ∀ v c', (c'.1 ≤ X' ∧ c'.2 ≤ Y') → g v = some o → V K J mi pc' L ((.int v) :: rest) sh I R c' F) (kx : ∀ E, e E = some o → F (.inr E) sh I R) : V K J mi pc L (.int l2 :: .int l1 :: .ref l0 :: rest) sh I R c F := by
  obtain ⟨r, h1, h2⟩ := bnd h
  have hT : isT sh l0 8 = true := by unfold fX10_direction at h1; exact (gd h1).1
  have ml : mL 97 = 3 := by decide +kernel
  have mk : mK 97 = 1 := by decide +kernel
  have mc : mC 97 = 8 := by decide +kernel
  rcases r with v | E
  · refine s_call (as := [.int l2, .int l1, .ref l0]) (G := fun o' sh' I' R' => o' = .inl (some (.int v)) ∧ sh' = sh ∧ I' = I ∧ R' = R) hq hc rfl hr (by rw [ml]; rfl) (Or.inl rfl) (fun _ => Or.inl ⟨by rw [mc]; decide, by rw [mc]; exact isT_iff.mp hT⟩) (fun z => absurd (mk.symm.trans z) (by decide)) (by rw [ml]; exact vX10_direction (F := fun o' sh' I' R' => o' = .inl (some (.int v)) ∧ sh' = sh ∧ I' = I ∧ R' = R) ⟨rfl, rfl, rfl, rfl⟩ h1) ?_ ?_ ?_
    · rintro sh' I' R' c' hc' ⟨g1, rfl, rfl, rfl⟩
      cases g1
    · rintro v' sh' I' R' c' hc' ⟨g1, rfl, rfl, rfl⟩
      cases g1
      exact kk _ _ hc' h2
    · rintro E' sh' I' R' ⟨g1, rfl, rfl, rfl⟩
      cases g1
  · refine s_call (as := [.int l2, .int l1, .ref l0]) (G := fun o' sh' I' R' => o' = .inr E ∧ sh' = sh ∧ I' = I ∧ R' = R) hq hc rfl hr (by rw [ml]; rfl) (Or.inl rfl) (fun _ => Or.inl ⟨by rw [mc]; decide, by rw [mc]; exact isT_iff.mp hT⟩) (fun z => absurd (mk.symm.trans z) (by decide)) (by rw [ml]; exact vX10_direction (F := fun o' sh' I' R' => o' = .inr E ∧ sh' = sh ∧ I' = I ∧ R' = R) ⟨rfl, rfl, rfl, rfl⟩ h1) ?_ ?_ ?_
    · rintro sh' I' R' c' hc' ⟨g1, rfl, rfl, rfl⟩
      cases g1
    · rintro v' sh' I' R' c' hc' ⟨g1, rfl, rfl, rfl⟩
      cases g1
    · rintro E' sh' I' R' ⟨g1, rfl, rfl, rfl⟩
      cases g1
      exact kx _ h2
set_option maxRecDepth 100000 in
set_option maxHeartbeats 4000000 in
def fX10_view (fu : Nat) (sh : HS) (I : HI) (R : HR) (l0 : Nat) (l1 : Int32) : Option (Int32 ⊕ String) :=
  if isT sh l0 8 = true then
    (oT0 (fX10_needBoard fu sh I R l0) (fun E => some (.inr E)) fun _ =>
    oT0 (fX10_needShot fu sh I R l0 l1) (fun E => some (.inr E)) fun _ =>
    (oR sh R l0 8 4).bind fun v3 =>
    (oR sh R l0 8 4).bind fun v4 =>
    (oR sh R v4 0 6).bind fun v5 =>
    (oB sh R v5 7 l1).bind fun v6 =>
    (fX9_viewOf fu sh I R v3 v6).bind fun v7 =>
    some (.inl v7))
  else none
set_option maxRecDepth 100000 in
set_option maxHeartbeats 4000000 in
theorem vX10_view {K J : Nat → Nat} {fu : Nat} {sh : HS} {I : HI} {R : HR} {F : VF} {o : (Int32 ⊕ String)} (hF : F (voI o) sh I R) {l0 : Nat} {l1 : Int32} (h0 : fX10_view fu sh I R l0 l1 = some o) : V K J 98 0 (ent 2 [.ref l0, .int l1]) [] sh I R (0, 0) F := by
  unfold fX10_view at h0
  obtain ⟨-, h1⟩ := gd h0; clear h0
  have hc0 : ((0 : Nat), (0 : Nat)).1 ≤ 0 ∧ ((0 : Nat), (0 : Nat)).2 ≤ 0 := ⟨Nat.le_refl _, Nat.le_refl _⟩
  show V K J 98 0 [some (.ref l0), some (.int l1)] [] sh I R (0, 0) F
  refine s_rl (i := 0) (pc' := 1) (by decide +kernel) rfl ?_
  refine kX10_needBoard (X := 0) (Y := 0) (X' := 1) (Y' := 6) (pc' := 4) (by decide +kernel) hc0 rfl h1 (fun v1 c hc1 h2 => ?_) (fun E h2 => by have e9 := Option.some.inj h2; subst e9; exact hF); clear h1 hc0
  refine s_rl (i := 0) (pc' := 5) (by decide +kernel) rfl ?_
  refine s_il (i := 1) (pc' := 6) (by decide +kernel) rfl ?_
  refine kX10_needShot (X := 1) (Y := 6) (X' := 2) (Y' := 12) (pc' := 9) (by decide +kernel) hc1 rfl h2 (fun v2 c hc2 h3 => ?_) (fun E h3 => by have e9 := Option.some.inj h3; subst e9; exact hF); clear h2 hc1
  refine s_rl (i := 0) (pc' := 10) (by decide +kernel) rfl ?_
  refine s_gR (t := 8) (j := 4) (pc' := 13) (by decide +kernel) h3 (fun v3 h4 => ?_); clear h3
  refine s_rl (i := 0) (pc' := 14) (by decide +kernel) rfl ?_
  refine s_gR (t := 8) (j := 4) (pc' := 17) (by decide +kernel) h4 (fun v4 h5 => ?_); clear h4
  refine s_gR (t := 0) (j := 6) (pc' := 20) (by decide +kernel) h5 (fun v5 h6 => ?_); clear h5
  refine s_il (i := 1) (pc' := 21) (by decide +kernel) rfl ?_
  refine s_aal (t := 7) (pc' := 22) (by decide +kernel) h6 (fun v6 h7 => ?_); clear h6
  refine kX9_viewOf (X := 2) (Y := 12) (X' := 2) (Y' := 12) (pc' := 25) (by decide +kernel) hc2 rfl h7 (fun v7 c hc3 h8 => ?_); clear h7 hc2
  have e9 := Option.some.inj h8; subst e9
  exact s_ri (X := 2) (Y := 12) (by decide +kernel) hc3 hF
set_option maxRecDepth 100000 in
set_option maxHeartbeats 4000000 in
theorem kX10_view {K J : Nat → Nat} {fu : Nat} {sh : HS} {I : HI} {R : HR} {F : VF} {mi pc pc' X Y X' Y' : Nat} {L : VL} {rest : List Value} {c : Nat × Nat} {l0 : Nat} {l1 : Int32} {ω : Type} {o : ω} {e : String → Option ω} {g : Int32 → Option ω} (hq : cQ mi pc 98 2 pc' X Y X' Y' = true) (hc : c.1 ≤ X ∧ c.2 ≤ Y) (hr : Nat.ble (catS rest) 8 = true) (h : oT0 (fX10_view fu sh I R l0 l1) e g = some o) (kk : ∀ v c', (c'.1 ≤ X' ∧ c'.2 ≤ Y') → g v = some o → V K J mi pc' L ((.int v) :: rest) sh I R c' F) (kx : ∀ E, e E = some o → F (.inr E) sh I R) : V K J mi pc L (.int l1 :: .ref l0 :: rest) sh I R c F := by
  obtain ⟨r, h1, h2⟩ := bnd h
  have hT : isT sh l0 8 = true := by unfold fX10_view at h1; exact (gd h1).1
  have ml : mL 98 = 2 := by decide +kernel
  have mk : mK 98 = 1 := by decide +kernel
  have mc : mC 98 = 8 := by decide +kernel
  rcases r with v | E
  · refine s_call (as := [.int l1, .ref l0]) (G := fun o' sh' I' R' => o' = .inl (some (.int v)) ∧ sh' = sh ∧ I' = I ∧ R' = R) hq hc rfl hr (by rw [ml]; rfl) (Or.inl rfl) (fun _ => Or.inl ⟨by rw [mc]; decide, by rw [mc]; exact isT_iff.mp hT⟩) (fun z => absurd (mk.symm.trans z) (by decide)) (by rw [ml]; exact vX10_view (F := fun o' sh' I' R' => o' = .inl (some (.int v)) ∧ sh' = sh ∧ I' = I ∧ R' = R) ⟨rfl, rfl, rfl, rfl⟩ h1) ?_ ?_ ?_
    · rintro sh' I' R' c' hc' ⟨g1, rfl, rfl, rfl⟩
      cases g1
    · rintro v' sh' I' R' c' hc' ⟨g1, rfl, rfl, rfl⟩
      cases g1
      exact kk _ _ hc' h2
    · rintro E' sh' I' R' ⟨g1, rfl, rfl, rfl⟩
      cases g1
  · refine s_call (as := [.int l1, .ref l0]) (G := fun o' sh' I' R' => o' = .inr E ∧ sh' = sh ∧ I' = I ∧ R' = R) hq hc rfl hr (by rw [ml]; rfl) (Or.inl rfl) (fun _ => Or.inl ⟨by rw [mc]; decide, by rw [mc]; exact isT_iff.mp hT⟩) (fun z => absurd (mk.symm.trans z) (by decide)) (by rw [ml]; exact vX10_view (F := fun o' sh' I' R' => o' = .inr E ∧ sh' = sh ∧ I' = I ∧ R' = R) ⟨rfl, rfl, rfl, rfl⟩ h1) ?_ ?_ ?_
    · rintro sh' I' R' c' hc' ⟨g1, rfl, rfl, rfl⟩
      cases g1
    · rintro v' sh' I' R' c' hc' ⟨g1, rfl, rfl, rfl⟩
      cases g1
    · rintro E' sh' I' R' ⟨g1, rfl, rfl, rfl⟩
      cases g1
      exact kx _ h2
set_option maxRecDepth 100000 in
set_option maxHeartbeats 4000000 in
def fX10_side (fu : Nat) (sh : HS) (I : HI) (R : HR) (l0 : Nat) (l1 : Int32) : Option (Int32 ⊕ String) :=
  if isT sh l0 8 = true then
    (oT0 (fX10_needBoard fu sh I R l0) (fun E => some (.inr E)) fun _ =>
    oT0 (fX10_needShot fu sh I R l0 l1) (fun E => some (.inr E)) fun _ =>
    (oR sh R l0 8 4).bind fun v3 =>
    (oR sh R l0 8 4).bind fun v4 =>
    (oR sh R v4 0 6).bind fun v5 =>
    (oB sh R v5 7 l1).bind fun v6 =>
    (fX9_sideOf fu sh I R v3 v6).bind fun v7 =>
    some (.inl v7))
  else none
set_option maxRecDepth 100000 in
set_option maxHeartbeats 4000000 in
theorem vX10_side {K J : Nat → Nat} {fu : Nat} {sh : HS} {I : HI} {R : HR} {F : VF} {o : (Int32 ⊕ String)} (hF : F (voI o) sh I R) {l0 : Nat} {l1 : Int32} (h0 : fX10_side fu sh I R l0 l1 = some o) : V K J 99 0 (ent 2 [.ref l0, .int l1]) [] sh I R (0, 0) F := by
  unfold fX10_side at h0
  obtain ⟨-, h1⟩ := gd h0; clear h0
  have hc0 : ((0 : Nat), (0 : Nat)).1 ≤ 0 ∧ ((0 : Nat), (0 : Nat)).2 ≤ 0 := ⟨Nat.le_refl _, Nat.le_refl _⟩
  show V K J 99 0 [some (.ref l0), some (.int l1)] [] sh I R (0, 0) F
  refine s_rl (i := 0) (pc' := 1) (by decide +kernel) rfl ?_
  refine kX10_needBoard (X := 0) (Y := 0) (X' := 1) (Y' := 6) (pc' := 4) (by decide +kernel) hc0 rfl h1 (fun v1 c hc1 h2 => ?_) (fun E h2 => by have e9 := Option.some.inj h2; subst e9; exact hF); clear h1 hc0
  refine s_rl (i := 0) (pc' := 5) (by decide +kernel) rfl ?_
  refine s_il (i := 1) (pc' := 6) (by decide +kernel) rfl ?_
  refine kX10_needShot (X := 1) (Y := 6) (X' := 2) (Y' := 12) (pc' := 9) (by decide +kernel) hc1 rfl h2 (fun v2 c hc2 h3 => ?_) (fun E h3 => by have e9 := Option.some.inj h3; subst e9; exact hF); clear h2 hc1
  refine s_rl (i := 0) (pc' := 10) (by decide +kernel) rfl ?_
  refine s_gR (t := 8) (j := 4) (pc' := 13) (by decide +kernel) h3 (fun v3 h4 => ?_); clear h3
  refine s_rl (i := 0) (pc' := 14) (by decide +kernel) rfl ?_
  refine s_gR (t := 8) (j := 4) (pc' := 17) (by decide +kernel) h4 (fun v4 h5 => ?_); clear h4
  refine s_gR (t := 0) (j := 6) (pc' := 20) (by decide +kernel) h5 (fun v5 h6 => ?_); clear h5
  refine s_il (i := 1) (pc' := 21) (by decide +kernel) rfl ?_
  refine s_aal (t := 7) (pc' := 22) (by decide +kernel) h6 (fun v6 h7 => ?_); clear h6
  refine kX9_sideOf (X := 2) (Y := 12) (X' := 2) (Y' := 12) (pc' := 25) (by decide +kernel) hc2 rfl h7 (fun v7 c hc3 h8 => ?_); clear h7 hc2
  have e9 := Option.some.inj h8; subst e9
  exact s_ri (X := 2) (Y := 12) (by decide +kernel) hc3 hF
set_option maxRecDepth 100000 in
set_option maxHeartbeats 4000000 in
theorem kX10_side {K J : Nat → Nat} {fu : Nat} {sh : HS} {I : HI} {R : HR} {F : VF} {mi pc pc' X Y X' Y' : Nat} {L : VL} {rest : List Value} {c : Nat × Nat} {l0 : Nat} {l1 : Int32} {ω : Type} {o : ω} {e : String → Option ω} {g : Int32 → Option ω} (hq : cQ mi pc 99 2 pc' X Y X' Y' = true) (hc : c.1 ≤ X ∧ c.2 ≤ Y) (hr : Nat.ble (catS rest) 8 = true) (h : oT0 (fX10_side fu sh I R l0 l1) e g = some o) (kk : ∀ v c', (c'.1 ≤ X' ∧ c'.2 ≤ Y') → g v = some o → V K J mi pc' L ((.int v) :: rest) sh I R c' F) (kx : ∀ E, e E = some o → F (.inr E) sh I R) : V K J mi pc L (.int l1 :: .ref l0 :: rest) sh I R c F := by
  obtain ⟨r, h1, h2⟩ := bnd h
  have hT : isT sh l0 8 = true := by unfold fX10_side at h1; exact (gd h1).1
  have ml : mL 99 = 2 := by decide +kernel
  have mk : mK 99 = 1 := by decide +kernel
  have mc : mC 99 = 8 := by decide +kernel
  rcases r with v | E
  · refine s_call (as := [.int l1, .ref l0]) (G := fun o' sh' I' R' => o' = .inl (some (.int v)) ∧ sh' = sh ∧ I' = I ∧ R' = R) hq hc rfl hr (by rw [ml]; rfl) (Or.inl rfl) (fun _ => Or.inl ⟨by rw [mc]; decide, by rw [mc]; exact isT_iff.mp hT⟩) (fun z => absurd (mk.symm.trans z) (by decide)) (by rw [ml]; exact vX10_side (F := fun o' sh' I' R' => o' = .inl (some (.int v)) ∧ sh' = sh ∧ I' = I ∧ R' = R) ⟨rfl, rfl, rfl, rfl⟩ h1) ?_ ?_ ?_
    · rintro sh' I' R' c' hc' ⟨g1, rfl, rfl, rfl⟩
      cases g1
    · rintro v' sh' I' R' c' hc' ⟨g1, rfl, rfl, rfl⟩
      cases g1
      exact kk _ _ hc' h2
    · rintro E' sh' I' R' ⟨g1, rfl, rfl, rfl⟩
      cases g1
  · refine s_call (as := [.int l1, .ref l0]) (G := fun o' sh' I' R' => o' = .inr E ∧ sh' = sh ∧ I' = I ∧ R' = R) hq hc rfl hr (by rw [ml]; rfl) (Or.inl rfl) (fun _ => Or.inl ⟨by rw [mc]; decide, by rw [mc]; exact isT_iff.mp hT⟩) (fun z => absurd (mk.symm.trans z) (by decide)) (by rw [ml]; exact vX10_side (F := fun o' sh' I' R' => o' = .inr E ∧ sh' = sh ∧ I' = I ∧ R' = R) ⟨rfl, rfl, rfl, rfl⟩ h1) ?_ ?_ ?_
    · rintro sh' I' R' c' hc' ⟨g1, rfl, rfl, rfl⟩
      cases g1
    · rintro v' sh' I' R' c' hc' ⟨g1, rfl, rfl, rfl⟩
      cases g1
    · rintro E' sh' I' R' ⟨g1, rfl, rfl, rfl⟩
      cases g1
      exact kx _ h2
set_option maxRecDepth 100000 in
set_option maxHeartbeats 4000000 in
def fX10_look (fu : Nat) (sh : HS) (I : HI) (R : HR) (l0 : Nat) (l1 : Int32) : Option (Int32 ⊕ String) :=
  if isT sh l0 8 = true then
    (oT0 (fX10_needBoard fu sh I R l0) (fun E => some (.inr E)) fun _ =>
    oT0 (fX10_needShot fu sh I R l0 l1) (fun E => some (.inr E)) fun _ =>
    (oR sh R l0 8 4).bind fun v3 =>
    (oR sh R l0 8 4).bind fun v4 =>
    (oR sh R v4 0 6).bind fun v5 =>
    (oB sh R v5 7 l1).bind fun v6 =>
    (fX9_lookOf fu sh I R v3 v6).bind fun v7 =>
    some (.inl v7))
  else none
set_option maxRecDepth 100000 in
set_option maxHeartbeats 4000000 in
theorem vX10_look {K J : Nat → Nat} {fu : Nat} {sh : HS} {I : HI} {R : HR} {F : VF} {o : (Int32 ⊕ String)} (hF : F (voI o) sh I R) {l0 : Nat} {l1 : Int32} (h0 : fX10_look fu sh I R l0 l1 = some o) : V K J 100 0 (ent 2 [.ref l0, .int l1]) [] sh I R (0, 0) F := by
  unfold fX10_look at h0
  obtain ⟨-, h1⟩ := gd h0; clear h0
  have hc0 : ((0 : Nat), (0 : Nat)).1 ≤ 0 ∧ ((0 : Nat), (0 : Nat)).2 ≤ 0 := ⟨Nat.le_refl _, Nat.le_refl _⟩
  show V K J 100 0 [some (.ref l0), some (.int l1)] [] sh I R (0, 0) F
  refine s_rl (i := 0) (pc' := 1) (by decide +kernel) rfl ?_
  refine kX10_needBoard (X := 0) (Y := 0) (X' := 1) (Y' := 6) (pc' := 4) (by decide +kernel) hc0 rfl h1 (fun v1 c hc1 h2 => ?_) (fun E h2 => by have e9 := Option.some.inj h2; subst e9; exact hF); clear h1 hc0
  refine s_rl (i := 0) (pc' := 5) (by decide +kernel) rfl ?_
  refine s_il (i := 1) (pc' := 6) (by decide +kernel) rfl ?_
  refine kX10_needShot (X := 1) (Y := 6) (X' := 2) (Y' := 12) (pc' := 9) (by decide +kernel) hc1 rfl h2 (fun v2 c hc2 h3 => ?_) (fun E h3 => by have e9 := Option.some.inj h3; subst e9; exact hF); clear h2 hc1
  refine s_rl (i := 0) (pc' := 10) (by decide +kernel) rfl ?_
  refine s_gR (t := 8) (j := 4) (pc' := 13) (by decide +kernel) h3 (fun v3 h4 => ?_); clear h3
  refine s_rl (i := 0) (pc' := 14) (by decide +kernel) rfl ?_
  refine s_gR (t := 8) (j := 4) (pc' := 17) (by decide +kernel) h4 (fun v4 h5 => ?_); clear h4
  refine s_gR (t := 0) (j := 6) (pc' := 20) (by decide +kernel) h5 (fun v5 h6 => ?_); clear h5
  refine s_il (i := 1) (pc' := 21) (by decide +kernel) rfl ?_
  refine s_aal (t := 7) (pc' := 22) (by decide +kernel) h6 (fun v6 h7 => ?_); clear h6
  refine kX9_lookOf (X := 2) (Y := 12) (X' := 2) (Y' := 12) (pc' := 25) (by decide +kernel) hc2 rfl h7 (fun v7 c hc3 h8 => ?_); clear h7 hc2
  have e9 := Option.some.inj h8; subst e9
  exact s_ri (X := 2) (Y := 12) (by decide +kernel) hc3 hF
set_option maxRecDepth 100000 in
set_option maxHeartbeats 4000000 in
theorem kX10_look {K J : Nat → Nat} {fu : Nat} {sh : HS} {I : HI} {R : HR} {F : VF} {mi pc pc' X Y X' Y' : Nat} {L : VL} {rest : List Value} {c : Nat × Nat} {l0 : Nat} {l1 : Int32} {ω : Type} {o : ω} {e : String → Option ω} {g : Int32 → Option ω} (hq : cQ mi pc 100 2 pc' X Y X' Y' = true) (hc : c.1 ≤ X ∧ c.2 ≤ Y) (hr : Nat.ble (catS rest) 8 = true) (h : oT0 (fX10_look fu sh I R l0 l1) e g = some o) (kk : ∀ v c', (c'.1 ≤ X' ∧ c'.2 ≤ Y') → g v = some o → V K J mi pc' L ((.int v) :: rest) sh I R c' F) (kx : ∀ E, e E = some o → F (.inr E) sh I R) : V K J mi pc L (.int l1 :: .ref l0 :: rest) sh I R c F := by
  obtain ⟨r, h1, h2⟩ := bnd h
  have hT : isT sh l0 8 = true := by unfold fX10_look at h1; exact (gd h1).1
  have ml : mL 100 = 2 := by decide +kernel
  have mk : mK 100 = 1 := by decide +kernel
  have mc : mC 100 = 8 := by decide +kernel
  rcases r with v | E
  · refine s_call (as := [.int l1, .ref l0]) (G := fun o' sh' I' R' => o' = .inl (some (.int v)) ∧ sh' = sh ∧ I' = I ∧ R' = R) hq hc rfl hr (by rw [ml]; rfl) (Or.inl rfl) (fun _ => Or.inl ⟨by rw [mc]; decide, by rw [mc]; exact isT_iff.mp hT⟩) (fun z => absurd (mk.symm.trans z) (by decide)) (by rw [ml]; exact vX10_look (F := fun o' sh' I' R' => o' = .inl (some (.int v)) ∧ sh' = sh ∧ I' = I ∧ R' = R) ⟨rfl, rfl, rfl, rfl⟩ h1) ?_ ?_ ?_
    · rintro sh' I' R' c' hc' ⟨g1, rfl, rfl, rfl⟩
      cases g1
    · rintro v' sh' I' R' c' hc' ⟨g1, rfl, rfl, rfl⟩
      cases g1
      exact kk _ _ hc' h2
    · rintro E' sh' I' R' ⟨g1, rfl, rfl, rfl⟩
      cases g1
  · refine s_call (as := [.int l1, .ref l0]) (G := fun o' sh' I' R' => o' = .inr E ∧ sh' = sh ∧ I' = I ∧ R' = R) hq hc rfl hr (by rw [ml]; rfl) (Or.inl rfl) (fun _ => Or.inl ⟨by rw [mc]; decide, by rw [mc]; exact isT_iff.mp hT⟩) (fun z => absurd (mk.symm.trans z) (by decide)) (by rw [ml]; exact vX10_look (F := fun o' sh' I' R' => o' = .inr E ∧ sh' = sh ∧ I' = I ∧ R' = R) ⟨rfl, rfl, rfl, rfl⟩ h1) ?_ ?_ ?_
    · rintro sh' I' R' c' hc' ⟨g1, rfl, rfl, rfl⟩
      cases g1
    · rintro v' sh' I' R' c' hc' ⟨g1, rfl, rfl, rfl⟩
      cases g1
    · rintro E' sh' I' R' ⟨g1, rfl, rfl, rfl⟩
      cases g1
      exact kx _ h2
set_option maxRecDepth 100000 in
set_option maxHeartbeats 4000000 in
def fX10_visible (fu : Nat) (sh : HS) (I : HI) (R : HR) (l0 : Nat) (l1 : Int32) : Option (Int32 ⊕ String) :=
  if isT sh l0 8 = true then
    (oT0 (fX10_needBoard fu sh I R l0) (fun E => some (.inr E)) fun _ =>
    oT0 (fX10_needShot fu sh I R l0 l1) (fun E => some (.inr E)) fun _ =>
    (oR sh R l0 8 4).bind fun v3 =>
    (oR sh R l0 8 4).bind fun v4 =>
    (oR sh R v4 0 6).bind fun v5 =>
    (oB sh R v5 7 l1).bind fun v6 =>
    (fX9_seenBy fu sh I R v3 v6).bind fun v7 =>
    some (.inl v7))
  else none
set_option maxRecDepth 100000 in
set_option maxHeartbeats 4000000 in
theorem vX10_visible {K J : Nat → Nat} {fu : Nat} {sh : HS} {I : HI} {R : HR} {F : VF} {o : (Int32 ⊕ String)} (hF : F (voI o) sh I R) {l0 : Nat} {l1 : Int32} (h0 : fX10_visible fu sh I R l0 l1 = some o) : V K J 101 0 (ent 2 [.ref l0, .int l1]) [] sh I R (0, 0) F := by
  unfold fX10_visible at h0
  obtain ⟨-, h1⟩ := gd h0; clear h0
  have hc0 : ((0 : Nat), (0 : Nat)).1 ≤ 0 ∧ ((0 : Nat), (0 : Nat)).2 ≤ 0 := ⟨Nat.le_refl _, Nat.le_refl _⟩
  show V K J 101 0 [some (.ref l0), some (.int l1)] [] sh I R (0, 0) F
  refine s_rl (i := 0) (pc' := 1) (by decide +kernel) rfl ?_
  refine kX10_needBoard (X := 0) (Y := 0) (X' := 1) (Y' := 6) (pc' := 4) (by decide +kernel) hc0 rfl h1 (fun v1 c hc1 h2 => ?_) (fun E h2 => by have e9 := Option.some.inj h2; subst e9; exact hF); clear h1 hc0
  refine s_rl (i := 0) (pc' := 5) (by decide +kernel) rfl ?_
  refine s_il (i := 1) (pc' := 6) (by decide +kernel) rfl ?_
  refine kX10_needShot (X := 1) (Y := 6) (X' := 2) (Y' := 12) (pc' := 9) (by decide +kernel) hc1 rfl h2 (fun v2 c hc2 h3 => ?_) (fun E h3 => by have e9 := Option.some.inj h3; subst e9; exact hF); clear h2 hc1
  refine s_rl (i := 0) (pc' := 10) (by decide +kernel) rfl ?_
  refine s_gR (t := 8) (j := 4) (pc' := 13) (by decide +kernel) h3 (fun v3 h4 => ?_); clear h3
  refine s_rl (i := 0) (pc' := 14) (by decide +kernel) rfl ?_
  refine s_gR (t := 8) (j := 4) (pc' := 17) (by decide +kernel) h4 (fun v4 h5 => ?_); clear h4
  refine s_gR (t := 0) (j := 6) (pc' := 20) (by decide +kernel) h5 (fun v5 h6 => ?_); clear h5
  refine s_il (i := 1) (pc' := 21) (by decide +kernel) rfl ?_
  refine s_aal (t := 7) (pc' := 22) (by decide +kernel) h6 (fun v6 h7 => ?_); clear h6
  refine kX9_seenBy (X := 2) (Y := 12) (X' := 2) (Y' := 12) (pc' := 25) (by decide +kernel) hc2 rfl h7 (fun v7 c hc3 h8 => ?_); clear h7 hc2
  have e9 := Option.some.inj h8; subst e9
  exact s_ri (X := 2) (Y := 12) (by decide +kernel) hc3 hF
set_option maxRecDepth 100000 in
set_option maxHeartbeats 4000000 in
theorem kX10_visible {K J : Nat → Nat} {fu : Nat} {sh : HS} {I : HI} {R : HR} {F : VF} {mi pc pc' X Y X' Y' : Nat} {L : VL} {rest : List Value} {c : Nat × Nat} {l0 : Nat} {l1 : Int32} {ω : Type} {o : ω} {e : String → Option ω} {g : Int32 → Option ω} (hq : cQ mi pc 101 2 pc' X Y X' Y' = true) (hc : c.1 ≤ X ∧ c.2 ≤ Y) (hr : Nat.ble (catS rest) 8 = true) (h : oT0 (fX10_visible fu sh I R l0 l1) e g = some o) (kk : ∀ v c', (c'.1 ≤ X' ∧ c'.2 ≤ Y') → g v = some o → V K J mi pc' L ((.int v) :: rest) sh I R c' F) (kx : ∀ E, e E = some o → F (.inr E) sh I R) : V K J mi pc L (.int l1 :: .ref l0 :: rest) sh I R c F := by
  obtain ⟨r, h1, h2⟩ := bnd h
  have hT : isT sh l0 8 = true := by unfold fX10_visible at h1; exact (gd h1).1
  have ml : mL 101 = 2 := by decide +kernel
  have mk : mK 101 = 1 := by decide +kernel
  have mc : mC 101 = 8 := by decide +kernel
  rcases r with v | E
  · refine s_call (as := [.int l1, .ref l0]) (G := fun o' sh' I' R' => o' = .inl (some (.int v)) ∧ sh' = sh ∧ I' = I ∧ R' = R) hq hc rfl hr (by rw [ml]; rfl) (Or.inl rfl) (fun _ => Or.inl ⟨by rw [mc]; decide, by rw [mc]; exact isT_iff.mp hT⟩) (fun z => absurd (mk.symm.trans z) (by decide)) (by rw [ml]; exact vX10_visible (F := fun o' sh' I' R' => o' = .inl (some (.int v)) ∧ sh' = sh ∧ I' = I ∧ R' = R) ⟨rfl, rfl, rfl, rfl⟩ h1) ?_ ?_ ?_
    · rintro sh' I' R' c' hc' ⟨g1, rfl, rfl, rfl⟩
      cases g1
    · rintro v' sh' I' R' c' hc' ⟨g1, rfl, rfl, rfl⟩
      cases g1
      exact kk _ _ hc' h2
    · rintro E' sh' I' R' ⟨g1, rfl, rfl, rfl⟩
      cases g1
  · refine s_call (as := [.int l1, .ref l0]) (G := fun o' sh' I' R' => o' = .inr E ∧ sh' = sh ∧ I' = I ∧ R' = R) hq hc rfl hr (by rw [ml]; rfl) (Or.inl rfl) (fun _ => Or.inl ⟨by rw [mc]; decide, by rw [mc]; exact isT_iff.mp hT⟩) (fun z => absurd (mk.symm.trans z) (by decide)) (by rw [ml]; exact vX10_visible (F := fun o' sh' I' R' => o' = .inr E ∧ sh' = sh ∧ I' = I ∧ R' = R) ⟨rfl, rfl, rfl, rfl⟩ h1) ?_ ?_ ?_
    · rintro sh' I' R' c' hc' ⟨g1, rfl, rfl, rfl⟩
      cases g1
    · rintro v' sh' I' R' c' hc' ⟨g1, rfl, rfl, rfl⟩
      cases g1
    · rintro E' sh' I' R' ⟨g1, rfl, rfl, rfl⟩
      cases g1
      exact kx _ h2
set_option maxRecDepth 100000 in
set_option maxHeartbeats 4000000 in
def fX10_eyeline (fu : Nat) (sh : HS) (I : HI) (R : HR) (l0 : Nat) (l1 : Int32) : Option (Int32 ⊕ String) :=
  if isT sh l0 8 = true then
    (oT0 (fX10_needBoard fu sh I R l0) (fun E => some (.inr E)) fun _ =>
    oT0 (fX10_needShot fu sh I R l0 l1) (fun E => some (.inr E)) fun _ =>
    (oR sh R l0 8 4).bind fun v3 =>
    (oR sh R l0 8 4).bind fun v4 =>
    (oR sh R v4 0 6).bind fun v5 =>
    (oB sh R v5 7 l1).bind fun v6 =>
    (fX9_eyelineOf fu sh I R v3 v6).bind fun v7 =>
    some (.inl v7))
  else none
set_option maxRecDepth 100000 in
set_option maxHeartbeats 4000000 in
theorem vX10_eyeline {K J : Nat → Nat} {fu : Nat} {sh : HS} {I : HI} {R : HR} {F : VF} {o : (Int32 ⊕ String)} (hF : F (voI o) sh I R) {l0 : Nat} {l1 : Int32} (h0 : fX10_eyeline fu sh I R l0 l1 = some o) : V K J 102 0 (ent 2 [.ref l0, .int l1]) [] sh I R (0, 0) F := by
  unfold fX10_eyeline at h0
  obtain ⟨-, h1⟩ := gd h0; clear h0
  have hc0 : ((0 : Nat), (0 : Nat)).1 ≤ 0 ∧ ((0 : Nat), (0 : Nat)).2 ≤ 0 := ⟨Nat.le_refl _, Nat.le_refl _⟩
  show V K J 102 0 [some (.ref l0), some (.int l1)] [] sh I R (0, 0) F
  refine s_rl (i := 0) (pc' := 1) (by decide +kernel) rfl ?_
  refine kX10_needBoard (X := 0) (Y := 0) (X' := 1) (Y' := 6) (pc' := 4) (by decide +kernel) hc0 rfl h1 (fun v1 c hc1 h2 => ?_) (fun E h2 => by have e9 := Option.some.inj h2; subst e9; exact hF); clear h1 hc0
  refine s_rl (i := 0) (pc' := 5) (by decide +kernel) rfl ?_
  refine s_il (i := 1) (pc' := 6) (by decide +kernel) rfl ?_
  refine kX10_needShot (X := 1) (Y := 6) (X' := 2) (Y' := 12) (pc' := 9) (by decide +kernel) hc1 rfl h2 (fun v2 c hc2 h3 => ?_) (fun E h3 => by have e9 := Option.some.inj h3; subst e9; exact hF); clear h2 hc1
  refine s_rl (i := 0) (pc' := 10) (by decide +kernel) rfl ?_
  refine s_gR (t := 8) (j := 4) (pc' := 13) (by decide +kernel) h3 (fun v3 h4 => ?_); clear h3
  refine s_rl (i := 0) (pc' := 14) (by decide +kernel) rfl ?_
  refine s_gR (t := 8) (j := 4) (pc' := 17) (by decide +kernel) h4 (fun v4 h5 => ?_); clear h4
  refine s_gR (t := 0) (j := 6) (pc' := 20) (by decide +kernel) h5 (fun v5 h6 => ?_); clear h5
  refine s_il (i := 1) (pc' := 21) (by decide +kernel) rfl ?_
  refine s_aal (t := 7) (pc' := 22) (by decide +kernel) h6 (fun v6 h7 => ?_); clear h6
  refine kX9_eyelineOf (X := 2) (Y := 12) (X' := 2) (Y' := 12) (pc' := 25) (by decide +kernel) hc2 rfl h7 (fun v7 c hc3 h8 => ?_); clear h7 hc2
  have e9 := Option.some.inj h8; subst e9
  exact s_ri (X := 2) (Y := 12) (by decide +kernel) hc3 hF
set_option maxRecDepth 100000 in
set_option maxHeartbeats 4000000 in
theorem kX10_eyeline {K J : Nat → Nat} {fu : Nat} {sh : HS} {I : HI} {R : HR} {F : VF} {mi pc pc' X Y X' Y' : Nat} {L : VL} {rest : List Value} {c : Nat × Nat} {l0 : Nat} {l1 : Int32} {ω : Type} {o : ω} {e : String → Option ω} {g : Int32 → Option ω} (hq : cQ mi pc 102 2 pc' X Y X' Y' = true) (hc : c.1 ≤ X ∧ c.2 ≤ Y) (hr : Nat.ble (catS rest) 8 = true) (h : oT0 (fX10_eyeline fu sh I R l0 l1) e g = some o) (kk : ∀ v c', (c'.1 ≤ X' ∧ c'.2 ≤ Y') → g v = some o → V K J mi pc' L ((.int v) :: rest) sh I R c' F) (kx : ∀ E, e E = some o → F (.inr E) sh I R) : V K J mi pc L (.int l1 :: .ref l0 :: rest) sh I R c F := by
  obtain ⟨r, h1, h2⟩ := bnd h
  have hT : isT sh l0 8 = true := by unfold fX10_eyeline at h1; exact (gd h1).1
  have ml : mL 102 = 2 := by decide +kernel
  have mk : mK 102 = 1 := by decide +kernel
  have mc : mC 102 = 8 := by decide +kernel
  rcases r with v | E
  · refine s_call (as := [.int l1, .ref l0]) (G := fun o' sh' I' R' => o' = .inl (some (.int v)) ∧ sh' = sh ∧ I' = I ∧ R' = R) hq hc rfl hr (by rw [ml]; rfl) (Or.inl rfl) (fun _ => Or.inl ⟨by rw [mc]; decide, by rw [mc]; exact isT_iff.mp hT⟩) (fun z => absurd (mk.symm.trans z) (by decide)) (by rw [ml]; exact vX10_eyeline (F := fun o' sh' I' R' => o' = .inl (some (.int v)) ∧ sh' = sh ∧ I' = I ∧ R' = R) ⟨rfl, rfl, rfl, rfl⟩ h1) ?_ ?_ ?_
    · rintro sh' I' R' c' hc' ⟨g1, rfl, rfl, rfl⟩
      cases g1
    · rintro v' sh' I' R' c' hc' ⟨g1, rfl, rfl, rfl⟩
      cases g1
      exact kk _ _ hc' h2
    · rintro E' sh' I' R' ⟨g1, rfl, rfl, rfl⟩
      cases g1
  · refine s_call (as := [.int l1, .ref l0]) (G := fun o' sh' I' R' => o' = .inr E ∧ sh' = sh ∧ I' = I ∧ R' = R) hq hc rfl hr (by rw [ml]; rfl) (Or.inl rfl) (fun _ => Or.inl ⟨by rw [mc]; decide, by rw [mc]; exact isT_iff.mp hT⟩) (fun z => absurd (mk.symm.trans z) (by decide)) (by rw [ml]; exact vX10_eyeline (F := fun o' sh' I' R' => o' = .inr E ∧ sh' = sh ∧ I' = I ∧ R' = R) ⟨rfl, rfl, rfl, rfl⟩ h1) ?_ ?_ ?_
    · rintro sh' I' R' c' hc' ⟨g1, rfl, rfl, rfl⟩
      cases g1
    · rintro v' sh' I' R' c' hc' ⟨g1, rfl, rfl, rfl⟩
      cases g1
    · rintro E' sh' I' R' ⟨g1, rfl, rfl, rfl⟩
      cases g1
      exact kx _ h2
set_option maxRecDepth 100000 in
set_option maxHeartbeats 4000000 in
def fX10_isNear (fu : Nat) (sh : HS) (I : HI) (R : HR) (l0 : Nat) (l1 : Int32) (l2 : Int32) : Option (Int32 ⊕ String) :=
  if isT sh l0 8 = true then
    (oT0 (fX10_needBoard fu sh I R l0) (fun E => some (.inr E)) fun _ =>
    oT0 (fX10_needShot fu sh I R l0 l1) (fun E => some (.inr E)) fun _ =>
    oT0 (fX10_needShot fu sh I R l0 l2) (fun E => some (.inr E)) fun _ =>
    (oR sh R l0 8 4).bind fun v4 =>
    (oR sh R l0 8 4).bind fun v5 =>
    (oR sh R v5 0 6).bind fun v6 =>
    (oB sh R v6 7 l1).bind fun v7 =>
    (oR sh R l0 8 4).bind fun v8 =>
    (oR sh R v8 0 6).bind fun v9 =>
    (oB sh R v9 7 l2).bind fun v10 =>
    (oR sh R l0 8 4).bind fun v11 =>
    (oI sh I v11 0 0).bind fun v12 =>
    (fX9_areNear fu sh I R v4 v7 v10 v12).bind fun v13 =>
    (oZ v13).bind fun z14 =>
    some (.inl z14))
  else none
set_option maxRecDepth 100000 in
set_option maxHeartbeats 4000000 in
theorem vX10_isNear {K J : Nat → Nat} {fu : Nat} {sh : HS} {I : HI} {R : HR} {F : VF} {o : (Int32 ⊕ String)} (hF : F (voI o) sh I R) {l0 : Nat} {l1 : Int32} {l2 : Int32} (h0 : fX10_isNear fu sh I R l0 l1 l2 = some o) : V K J 103 0 (ent 3 [.ref l0, .int l1, .int l2]) [] sh I R (0, 0) F := by
  unfold fX10_isNear at h0
  obtain ⟨-, h1⟩ := gd h0; clear h0
  have hc0 : ((0 : Nat), (0 : Nat)).1 ≤ 0 ∧ ((0 : Nat), (0 : Nat)).2 ≤ 0 := ⟨Nat.le_refl _, Nat.le_refl _⟩
  show V K J 103 0 [some (.ref l0), some (.int l1), some (.int l2)] [] sh I R (0, 0) F
  refine s_rl (i := 0) (pc' := 1) (by decide +kernel) rfl ?_
  refine kX10_needBoard (X := 0) (Y := 0) (X' := 1) (Y' := 6) (pc' := 4) (by decide +kernel) hc0 rfl h1 (fun v1 c hc1 h2 => ?_) (fun E h2 => by have e9 := Option.some.inj h2; subst e9; exact hF); clear h1 hc0
  refine s_rl (i := 0) (pc' := 5) (by decide +kernel) rfl ?_
  refine s_il (i := 1) (pc' := 6) (by decide +kernel) rfl ?_
  refine kX10_needShot (X := 1) (Y := 6) (X' := 2) (Y' := 12) (pc' := 9) (by decide +kernel) hc1 rfl h2 (fun v2 c hc2 h3 => ?_) (fun E h3 => by have e9 := Option.some.inj h3; subst e9; exact hF); clear h2 hc1
  refine s_rl (i := 0) (pc' := 10) (by decide +kernel) rfl ?_
  refine s_il (i := 2) (pc' := 11) (by decide +kernel) rfl ?_
  refine kX10_needShot (X := 2) (Y := 12) (X' := 3) (Y' := 18) (pc' := 14) (by decide +kernel) hc2 rfl h3 (fun v3 c hc3 h4 => ?_) (fun E h4 => by have e9 := Option.some.inj h4; subst e9; exact hF); clear h3 hc2
  refine s_rl (i := 0) (pc' := 15) (by decide +kernel) rfl ?_
  refine s_gR (t := 8) (j := 4) (pc' := 18) (by decide +kernel) h4 (fun v4 h5 => ?_); clear h4
  refine s_rl (i := 0) (pc' := 19) (by decide +kernel) rfl ?_
  refine s_gR (t := 8) (j := 4) (pc' := 22) (by decide +kernel) h5 (fun v5 h6 => ?_); clear h5
  refine s_gR (t := 0) (j := 6) (pc' := 25) (by decide +kernel) h6 (fun v6 h7 => ?_); clear h6
  refine s_il (i := 1) (pc' := 26) (by decide +kernel) rfl ?_
  refine s_aal (t := 7) (pc' := 27) (by decide +kernel) h7 (fun v7 h8 => ?_); clear h7
  refine s_rl (i := 0) (pc' := 28) (by decide +kernel) rfl ?_
  refine s_gR (t := 8) (j := 4) (pc' := 31) (by decide +kernel) h8 (fun v8 h9 => ?_); clear h8
  refine s_gR (t := 0) (j := 6) (pc' := 34) (by decide +kernel) h9 (fun v9 h10 => ?_); clear h9
  refine s_il (i := 2) (pc' := 35) (by decide +kernel) rfl ?_
  refine s_aal (t := 7) (pc' := 36) (by decide +kernel) h10 (fun v10 h11 => ?_); clear h10
  refine s_rl (i := 0) (pc' := 37) (by decide +kernel) rfl ?_
  refine s_gR (t := 8) (j := 4) (pc' := 40) (by decide +kernel) h11 (fun v11 h12 => ?_); clear h11
  refine s_gI (t := 0) (j := 0) (ty := 0) (pc' := 43) (by decide +kernel) rfl h12 (fun v12 h13 => ?_); clear h12
  refine kX9_areNear (X := 3) (Y := 18) (X' := 3) (Y' := 18) (pc' := 46) (by decide +kernel) hc3 rfl h13 (fun v13 c hc4 h14 => ?_); clear h13 hc3
  obtain ⟨hz, h15⟩ := oZb h14
  have e9 := Option.some.inj h15; subst e9
  exact s_rz (X := 3) (Y := 18) (by decide +kernel) hz hc4 hF
set_option maxRecDepth 100000 in
set_option maxHeartbeats 4000000 in
theorem kX10_isNear {K J : Nat → Nat} {fu : Nat} {sh : HS} {I : HI} {R : HR} {F : VF} {mi pc pc' X Y X' Y' : Nat} {L : VL} {rest : List Value} {c : Nat × Nat} {l0 : Nat} {l1 : Int32} {l2 : Int32} {ω : Type} {o : ω} {e : String → Option ω} {g : Int32 → Option ω} (hq : cQ mi pc 103 3 pc' X Y X' Y' = true) (hc : c.1 ≤ X ∧ c.2 ≤ Y) (hr : Nat.ble (catS rest) 8 = true) (h : oT0 (fX10_isNear fu sh I R l0 l1 l2) e g = some o) (kk : ∀ v c', (c'.1 ≤ X' ∧ c'.2 ≤ Y') → g v = some o → V K J mi pc' L ((.int v) :: rest) sh I R c' F) (kx : ∀ E, e E = some o → F (.inr E) sh I R) : V K J mi pc L (.int l2 :: .int l1 :: .ref l0 :: rest) sh I R c F := by
  obtain ⟨r, h1, h2⟩ := bnd h
  have hT : isT sh l0 8 = true := by unfold fX10_isNear at h1; exact (gd h1).1
  have ml : mL 103 = 3 := by decide +kernel
  have mk : mK 103 = 1 := by decide +kernel
  have mc : mC 103 = 8 := by decide +kernel
  rcases r with v | E
  · refine s_call (as := [.int l2, .int l1, .ref l0]) (G := fun o' sh' I' R' => o' = .inl (some (.int v)) ∧ sh' = sh ∧ I' = I ∧ R' = R) hq hc rfl hr (by rw [ml]; rfl) (Or.inl rfl) (fun _ => Or.inl ⟨by rw [mc]; decide, by rw [mc]; exact isT_iff.mp hT⟩) (fun z => absurd (mk.symm.trans z) (by decide)) (by rw [ml]; exact vX10_isNear (F := fun o' sh' I' R' => o' = .inl (some (.int v)) ∧ sh' = sh ∧ I' = I ∧ R' = R) ⟨rfl, rfl, rfl, rfl⟩ h1) ?_ ?_ ?_
    · rintro sh' I' R' c' hc' ⟨g1, rfl, rfl, rfl⟩
      cases g1
    · rintro v' sh' I' R' c' hc' ⟨g1, rfl, rfl, rfl⟩
      cases g1
      exact kk _ _ hc' h2
    · rintro E' sh' I' R' ⟨g1, rfl, rfl, rfl⟩
      cases g1
  · refine s_call (as := [.int l2, .int l1, .ref l0]) (G := fun o' sh' I' R' => o' = .inr E ∧ sh' = sh ∧ I' = I ∧ R' = R) hq hc rfl hr (by rw [ml]; rfl) (Or.inl rfl) (fun _ => Or.inl ⟨by rw [mc]; decide, by rw [mc]; exact isT_iff.mp hT⟩) (fun z => absurd (mk.symm.trans z) (by decide)) (by rw [ml]; exact vX10_isNear (F := fun o' sh' I' R' => o' = .inr E ∧ sh' = sh ∧ I' = I ∧ R' = R) ⟨rfl, rfl, rfl, rfl⟩ h1) ?_ ?_ ?_
    · rintro sh' I' R' c' hc' ⟨g1, rfl, rfl, rfl⟩
      cases g1
    · rintro v' sh' I' R' c' hc' ⟨g1, rfl, rfl, rfl⟩
      cases g1
    · rintro E' sh' I' R' ⟨g1, rfl, rfl, rfl⟩
      cases g1
      exact kx _ h2
set_option maxRecDepth 100000 in
set_option maxHeartbeats 4000000 in
def fX10_faults (fu : Nat) (sh : HS) (I : HI) (R : HR) (l0 : Nat) : Option (Int32 ⊕ String) :=
  if isT sh l0 8 = true then
    (oT0 (fX10_needBoard fu sh I R l0) (fun E => some (.inr E)) fun _ =>
    (oR sh R l0 8 4).bind fun v2 =>
    (fX2_total fu sh I R v2).bind fun v3 =>
    some (.inl v3))
  else none
set_option maxRecDepth 100000 in
set_option maxHeartbeats 4000000 in
theorem vX10_faults {K J : Nat → Nat} {fu : Nat} {sh : HS} {I : HI} {R : HR} {F : VF} {o : (Int32 ⊕ String)} (hF : F (voI o) sh I R) {l0 : Nat} (h0 : fX10_faults fu sh I R l0 = some o) : V K J 104 0 (ent 1 [.ref l0]) [] sh I R (0, 0) F := by
  unfold fX10_faults at h0
  obtain ⟨-, h1⟩ := gd h0; clear h0
  have hc0 : ((0 : Nat), (0 : Nat)).1 ≤ 0 ∧ ((0 : Nat), (0 : Nat)).2 ≤ 0 := ⟨Nat.le_refl _, Nat.le_refl _⟩
  show V K J 104 0 [some (.ref l0)] [] sh I R (0, 0) F
  refine s_rl (i := 0) (pc' := 1) (by decide +kernel) rfl ?_
  refine kX10_needBoard (X := 0) (Y := 0) (X' := 1) (Y' := 6) (pc' := 4) (by decide +kernel) hc0 rfl h1 (fun v1 c hc1 h2 => ?_) (fun E h2 => by have e9 := Option.some.inj h2; subst e9; exact hF); clear h1 hc0
  refine s_rl (i := 0) (pc' := 5) (by decide +kernel) rfl ?_
  refine s_gR (t := 8) (j := 4) (pc' := 8) (by decide +kernel) h2 (fun v2 h3 => ?_); clear h2
  refine kX2_total (X := 1) (Y := 6) (X' := 1) (Y' := 6) (pc' := 11) (by decide +kernel) hc1 rfl h3 (fun v3 c hc2 h4 => ?_); clear h3 hc1
  have e9 := Option.some.inj h4; subst e9
  exact s_ri (X := 1) (Y := 6) (by decide +kernel) hc2 hF
set_option maxRecDepth 100000 in
set_option maxHeartbeats 4000000 in
theorem kX10_faults {K J : Nat → Nat} {fu : Nat} {sh : HS} {I : HI} {R : HR} {F : VF} {mi pc pc' X Y X' Y' : Nat} {L : VL} {rest : List Value} {c : Nat × Nat} {l0 : Nat} {ω : Type} {o : ω} {e : String → Option ω} {g : Int32 → Option ω} (hq : cQ mi pc 104 1 pc' X Y X' Y' = true) (hc : c.1 ≤ X ∧ c.2 ≤ Y) (hr : Nat.ble (catS rest) 8 = true) (h : oT0 (fX10_faults fu sh I R l0) e g = some o) (kk : ∀ v c', (c'.1 ≤ X' ∧ c'.2 ≤ Y') → g v = some o → V K J mi pc' L ((.int v) :: rest) sh I R c' F) (kx : ∀ E, e E = some o → F (.inr E) sh I R) : V K J mi pc L (.ref l0 :: rest) sh I R c F := by
  obtain ⟨r, h1, h2⟩ := bnd h
  have hT : isT sh l0 8 = true := by unfold fX10_faults at h1; exact (gd h1).1
  have ml : mL 104 = 1 := by decide +kernel
  have mk : mK 104 = 1 := by decide +kernel
  have mc : mC 104 = 8 := by decide +kernel
  rcases r with v | E
  · refine s_call (as := [.ref l0]) (G := fun o' sh' I' R' => o' = .inl (some (.int v)) ∧ sh' = sh ∧ I' = I ∧ R' = R) hq hc rfl hr (by rw [ml]; rfl) (Or.inl rfl) (fun _ => Or.inl ⟨by rw [mc]; decide, by rw [mc]; exact isT_iff.mp hT⟩) (fun z => absurd (mk.symm.trans z) (by decide)) (by rw [ml]; exact vX10_faults (F := fun o' sh' I' R' => o' = .inl (some (.int v)) ∧ sh' = sh ∧ I' = I ∧ R' = R) ⟨rfl, rfl, rfl, rfl⟩ h1) ?_ ?_ ?_
    · rintro sh' I' R' c' hc' ⟨g1, rfl, rfl, rfl⟩
      cases g1
    · rintro v' sh' I' R' c' hc' ⟨g1, rfl, rfl, rfl⟩
      cases g1
      exact kk _ _ hc' h2
    · rintro E' sh' I' R' ⟨g1, rfl, rfl, rfl⟩
      cases g1
  · refine s_call (as := [.ref l0]) (G := fun o' sh' I' R' => o' = .inr E ∧ sh' = sh ∧ I' = I ∧ R' = R) hq hc rfl hr (by rw [ml]; rfl) (Or.inl rfl) (fun _ => Or.inl ⟨by rw [mc]; decide, by rw [mc]; exact isT_iff.mp hT⟩) (fun z => absurd (mk.symm.trans z) (by decide)) (by rw [ml]; exact vX10_faults (F := fun o' sh' I' R' => o' = .inr E ∧ sh' = sh ∧ I' = I ∧ R' = R) ⟨rfl, rfl, rfl, rfl⟩ h1) ?_ ?_ ?_
    · rintro sh' I' R' c' hc' ⟨g1, rfl, rfl, rfl⟩
      cases g1
    · rintro v' sh' I' R' c' hc' ⟨g1, rfl, rfl, rfl⟩
      cases g1
    · rintro E' sh' I' R' ⟨g1, rfl, rfl, rfl⟩
      cases g1
      exact kx _ h2
set_option maxRecDepth 100000 in
set_option maxHeartbeats 4000000 in
def fX10_propertyOfFault_b24 (fu : Nat) (sh : HS) (I : HI) (R : HR) (s0 : Int32) : Option Int32 :=
  some s0
set_option maxRecDepth 100000 in
set_option maxHeartbeats 4000000 in
theorem vX10_propertyOfFault_b24 {K J : Nat → Nat} {fu : Nat} {sh : HS} {I : HI} {R : HR} {F : VF} {o : Int32} (hF : F (.inl (some (.int o))) sh I R) {s0 : Int32} {d0 d1 d2 d3 : Option Value} {c : Nat × Nat} (hc0 : c.1 ≤ 0 ∧ c.2 ≤ 0) (h0 : fX10_propertyOfFault_b24 fu sh I R s0 = some o) : V K J 106 24 [d0, d1, d2, d3] [.int s0] sh I R c F := by
  unfold fX10_propertyOfFault_b24 at h0
  have e9 := Option.some.inj h0; subst e9
  exact s_ri (X := 0) (Y := 0) (by decide +kernel) hc0 hF
set_option maxRecDepth 100000 in
set_option maxHeartbeats 4000000 in
def fX10_propertyOfFault (fu : Nat) (sh : HS) (I : HI) (R : HR) (l0 : Nat) (l1 : Int32) (l2 : Int32) (l3 : Int32) : Option Int32 :=
  if isT sh l0 8 = true then
    (if l3 = 0 then
      (some l1)
    else
      (if l3 = 1 then
        ((fX10_propertyOfFault_b24 fu sh I R) l2)
      else
        ((oR sh R l0 8 4).bind fun v1 =>
        (fX2_causeOf fu sh I R v1 l1 l2).bind fun v2 =>
        (fX10_propertyOfFault_b24 fu sh I R) v2)))
  else none
set_option maxRecDepth 100000 in
set_option maxHeartbeats 4000000 in
theorem vX10_propertyOfFault {K J : Nat → Nat} {fu : Nat} {sh : HS} {I : HI} {R : HR} {F : VF} {o : Int32} (hF : F (.inl (some (.int o))) sh I R) {l0 : Nat} {l1 : Int32} {l2 : Int32} {l3 : Int32} (h0 : fX10_propertyOfFault fu sh I R l0 l1 l2 l3 = some o) : V K J 106 0 (ent 4 [.ref l0, .int l1, .int l2, .int l3]) [] sh I R (0, 0) F := by
  unfold fX10_propertyOfFault at h0
  obtain ⟨-, h1⟩ := gd h0; clear h0
  have hc0 : ((0 : Nat), (0 : Nat)).1 ≤ 0 ∧ ((0 : Nat), (0 : Nat)).2 ≤ 0 := ⟨Nat.le_refl _, Nat.le_refl _⟩
  show V K J 106 0 [some (.ref l0), some (.int l1), some (.int l2), some (.int l3)] [] sh I R (0, 0) F
  refine s_il (i := 3) (pc' := 1) (by decide +kernel) rfl ?_
  refine s_ifn (ins := .ifCond .ne 5) (t := 6) (pc' := 4) (by decide +kernel) rfl rfl rfl h1 (fun p2 h2 => ?_) (fun p2 h2 => ?_) <;> clear h1
  · refine s_il (i := 3) (pc' := 7) (by decide +kernel) rfl ?_
    refine s_c (v := 1) (pc' := 8) (by decide +kernel) ?_
    refine s_ifn (ins := .if_icmp .ne 7) (t := 15) (pc' := 11) (by decide +kernel) rfl rfl rfl h2 (fun p3 h3 => ?_) (fun p3 h3 => ?_) <;> clear h2
    · refine s_rl (i := 0) (pc' := 16) (by decide +kernel) rfl ?_
      refine s_gR (t := 8) (j := 4) (pc' := 19) (by decide +kernel) h3 (fun v1 h4 => ?_); clear h3
      refine s_il (i := 1) (pc' := 20) (by decide +kernel) rfl ?_
      refine s_il (i := 2) (pc' := 21) (by decide +kernel) rfl ?_
      refine kX2_causeOf (X := 0) (Y := 0) (X' := 0) (Y' := 0) (pc' := 24) (by decide +kernel) hc0 rfl h4 (fun v2 c hc1 h5 => ?_); clear h4 hc0
      exact (vX10_propertyOfFault_b24 hF) hc1 h5
    · refine s_il (i := 2) (pc' := 12) (by decide +kernel) rfl ?_
      refine s_go (t := 24) (by decide +kernel) ?_
      exact (vX10_propertyOfFault_b24 hF) hc0 h3
  · refine s_il (i := 1) (pc' := 5) (by decide +kernel) rfl ?_
    have e9 := Option.some.inj h2; subst e9
    exact s_ri (X := 0) (Y := 0) (by decide +kernel) hc0 hF
set_option maxRecDepth 100000 in
set_option maxHeartbeats 4000000 in
theorem kX10_propertyOfFault {K J : Nat → Nat} {fu : Nat} {sh : HS} {I : HI} {R : HR} {F : VF} {mi pc pc' X Y X' Y' : Nat} {L : VL} {rest : List Value} {c : Nat × Nat} {l0 : Nat} {l1 : Int32} {l2 : Int32} {l3 : Int32} {ω : Type} {o : ω} {g : Int32 → Option ω} (hq : cQ mi pc 106 4 pc' X Y X' Y' = true) (hc : c.1 ≤ X ∧ c.2 ≤ Y) (hr : Nat.ble (catS rest) 8 = true) (h : (fX10_propertyOfFault fu sh I R l0 l1 l2 l3).bind g = some o) (kk : ∀ v c', (c'.1 ≤ X' ∧ c'.2 ≤ Y') → g v = some o → V K J mi pc' L ((.int v) :: rest) sh I R c' F) : V K J mi pc L (.int l3 :: .int l2 :: .int l1 :: .ref l0 :: rest) sh I R c F := by
  obtain ⟨r, h1, h2⟩ := bnd h
  have hT : isT sh l0 8 = true := by unfold fX10_propertyOfFault at h1; exact (gd h1).1
  have ml : mL 106 = 4 := by decide +kernel
  have mk : mK 106 = 1 := by decide +kernel
  have mc : mC 106 = 8 := by decide +kernel
  refine s_call (as := [.int l3, .int l2, .int l1, .ref l0]) (G := fun o' sh' I' R' => o' = .inl (some (.int r)) ∧ sh' = sh ∧ I' = I ∧ R' = R) hq hc rfl hr (by rw [ml]; rfl) (Or.inl rfl) (fun _ => Or.inl ⟨by rw [mc]; decide, by rw [mc]; exact isT_iff.mp hT⟩) (fun z => absurd (mk.symm.trans z) (by decide)) (by rw [ml]; exact vX10_propertyOfFault (F := fun o' sh' I' R' => o' = .inl (some (.int r)) ∧ sh' = sh ∧ I' = I ∧ R' = R) ⟨rfl, rfl, rfl, rfl⟩ h1) ?_ ?_ ?_
  · rintro sh' I' R' c' hc' ⟨g1, rfl, rfl, rfl⟩
    cases g1
  · rintro v' sh' I' R' c' hc' ⟨g1, rfl, rfl, rfl⟩
    cases g1
    exact kk _ _ hc' h2
  · rintro E' sh' I' R' ⟨g1, rfl, rfl, rfl⟩
    cases g1
set_option maxRecDepth 100000 in
set_option maxHeartbeats 4000000 in
def fX10_fault_b92 (fu : Nat) (sh : HS) (I : HI) (R : HR) (k56 : Nat → Int32 → Int32 → Int32 → Int32 → Int32 → Option (Int32 ⊕ String)) (k98 : Nat → Int32 → Int32 → Int32 → Option (Int32 ⊕ String)) (l0 : Nat) (l2 : Int32) (l3 : Int32) (l4 : Int32) (l5 : Int32) (l6 : Int32) : Option (Int32 ⊕ String) :=
  k56 l0 l2 l3 l4 l5 (l6 + 1)
set_option maxRecDepth 100000 in
set_option maxHeartbeats 4000000 in
theorem vX10_fault_b92 {K J : Nat → Nat} {fu : Nat} {sh : HS} {I : HI} {R : HR} {F : VF} {o : (Int32 ⊕ String)} (hF : F (voI o) sh I R) {k56 : Nat → Int32 → Int32 → Int32 → Int32 → Int32 → Option (Int32 ⊕ String)} {k98 : Nat → Int32 → Int32 → Int32 → Option (Int32 ⊕ String)} (hk56 : ∀ {l0 : Nat} {l2 : Int32} {l3 : Int32} {l4 : Int32} {l5 : Int32} {l6 : Int32} {d1 : Option Value} {c : Nat × Nat}, (c.1 ≤ 2 ∧ c.2 ≤ 12) → k56 l0 l2 l3 l4 l5 l6 = some o → V K J 105 56 [some (.ref l0), d1, some (.int l2), some (.int l3), some (.int l4), some (.int l5), some (.int l6)] [] sh I R c F) (hk98 : ∀ {l0 : Nat} {l2 : Int32} {l3 : Int32} {l4 : Int32} {d1 d5 d6 : Option Value} {c : Nat × Nat}, (c.1 ≤ 2 ∧ c.2 ≤ 12) → k98 l0 l2 l3 l4 = some o → V K J 105 98 [some (.ref l0), d1, some (.int l2), some (.int l3), some (.int l4), d5, d6] [] sh I R c F) {l0 : Nat} {l2 : Int32} {l3 : Int32} {l4 : Int32} {l5 : Int32} {l6 : Int32} {d1 : Option Value} {c : Nat × Nat} (hc0 : c.1 ≤ 2 ∧ c.2 ≤ 12) (h0 : fX10_fault_b92 fu sh I R k56 k98 l0 l2 l3 l4 l5 l6 = some o) : V K J 105 92 [some (.ref l0), d1, some (.int l2), some (.int l3), some (.int l4), some (.int l5), some (.int l6)] [] sh I R c F := by
  unfold fX10_fault_b92 at h0
  refine s_inc (i := 6) (z := 1) (pc' := 95) (L' := [some (.ref l0), d1, some (.int l2), some (.int l3), some (.int l4), some (.int l5), some (.int (l6 + 1))]) (by decide +kernel) rfl rfl rfl ?_
  refine s_go (t := 56) (by decide +kernel) ?_
  exact hk56 hc0 h0
set_option maxRecDepth 100000 in
set_option maxHeartbeats 4000000 in
def fX10_fault_b56 (fu : Nat) (sh : HS) (I : HI) (R : HR) (k56 : Nat → Int32 → Int32 → Int32 → Int32 → Int32 → Option (Int32 ⊕ String)) (k98 : Nat → Int32 → Int32 → Int32 → Option (Int32 ⊕ String)) (l0 : Nat) (l2 : Int32) (l3 : Int32) (l4 : Int32) (l5 : Int32) (l6 : Int32) : Option (Int32 ⊕ String) :=
  if 4 ≤ l6 then
    (k98 l0 l2 l3 l4)
  else
    ((fX10_holds fu sh I R l5 l6).bind fun v7 =>
    if v7 = 0 then
      ((fX10_fault_b92 fu sh I R k56 k98) l0 l2 l3 l4 l5 l6)
    else
      (if l3 = 0 then
        ((fX10_propertyOfFault fu sh I R l0 l4 l6 l2).bind fun v8 =>
        some (.inl v8))
      else
        ((fX10_fault_b92 fu sh I R k56 k98) l0 l2 (l3 + (-1)) l4 l5 l6)))
set_option maxRecDepth 100000 in
set_option maxHeartbeats 4000000 in
theorem vX10_fault_b56 {K J : Nat → Nat} {fu : Nat} {sh : HS} {I : HI} {R : HR} {F : VF} {o : (Int32 ⊕ String)} (hF : F (voI o) sh I R) {k56 : Nat → Int32 → Int32 → Int32 → Int32 → Int32 → Option (Int32 ⊕ String)} {k98 : Nat → Int32 → Int32 → Int32 → Option (Int32 ⊕ String)} (hk56 : ∀ {l0 : Nat} {l2 : Int32} {l3 : Int32} {l4 : Int32} {l5 : Int32} {l6 : Int32} {d1 : Option Value} {c : Nat × Nat}, (c.1 ≤ 2 ∧ c.2 ≤ 12) → k56 l0 l2 l3 l4 l5 l6 = some o → V K J 105 56 [some (.ref l0), d1, some (.int l2), some (.int l3), some (.int l4), some (.int l5), some (.int l6)] [] sh I R c F) (hk98 : ∀ {l0 : Nat} {l2 : Int32} {l3 : Int32} {l4 : Int32} {d1 d5 d6 : Option Value} {c : Nat × Nat}, (c.1 ≤ 2 ∧ c.2 ≤ 12) → k98 l0 l2 l3 l4 = some o → V K J 105 98 [some (.ref l0), d1, some (.int l2), some (.int l3), some (.int l4), d5, d6] [] sh I R c F) {l0 : Nat} {l2 : Int32} {l3 : Int32} {l4 : Int32} {l5 : Int32} {l6 : Int32} {d1 : Option Value} {c : Nat × Nat} (hc0 : c.1 ≤ 2 ∧ c.2 ≤ 12) (h0 : fX10_fault_b56 fu sh I R k56 k98 l0 l2 l3 l4 l5 l6 = some o) : V K J 105 56 [some (.ref l0), d1, some (.int l2), some (.int l3), some (.int l4), some (.int l5), some (.int l6)] [] sh I R c F := by
  unfold fX10_fault_b56 at h0
  refine s_il (i := 6) (pc' := 58) (by decide +kernel) rfl ?_
  refine s_c (v := 4) (pc' := 59) (by decide +kernel) ?_
  refine s_if (ins := .if_icmp .ge 39) (t := 98) (pc' := 62) (by decide +kernel) rfl rfl rfl h0 (fun p1 h1 => ?_) (fun p1 h1 => ?_) <;> clear h0
  · exact hk98 hc0 h1
  · refine s_il (i := 5) (pc' := 64) (by decide +kernel) rfl ?_
    refine s_il (i := 6) (pc' := 66) (by decide +kernel) rfl ?_
    refine kX10_holds (X := 2) (Y := 12) (X' := 2) (Y' := 12) (pc' := 69) (by decide +kernel) hc0 rfl h1 (fun v7 c hc1 h2 => ?_); clear h1 hc0
    refine s_ifn (ins := .ifCond .ne 6) (t := 75) (pc' := 72) (by decide +kernel) rfl rfl rfl h2 (fun p3 h3 => ?_) (fun p3 h3 => ?_) <;> clear h2
    · refine s_il (i := 3) (pc' := 76) (by decide +kernel) rfl ?_
      refine s_ifn (ins := .ifCond .ne 13) (t := 89) (pc' := 79) (by decide +kernel) rfl rfl rfl h3 (fun p4 h4 => ?_) (fun p4 h4 => ?_) <;> clear h3
      · refine s_inc (i := 3) (z := (-1)) (pc' := 92) (L' := [some (.ref l0), d1, some (.int l2), some (.int (l3 + (-1))), some (.int l4), some (.int l5), some (.int l6)]) (by decide +kernel) rfl rfl rfl ?_
        exact (vX10_fault_b92 hF hk56 hk98) hc1 h4
      · refine s_rl (i := 0) (pc' := 80) (by decide +kernel) rfl ?_
        refine s_il (i := 4) (pc' := 82) (by decide +kernel) rfl ?_
        refine s_il (i := 6) (pc' := 84) (by decide +kernel) rfl ?_
        refine s_il (i := 2) (pc' := 85) (by decide +kernel) rfl ?_
        refine kX10_propertyOfFault (X := 2) (Y := 12) (X' := 2) (Y' := 12) (pc' := 88) (by decide +kernel) hc1 rfl h4 (fun v8 c hc2 h5 => ?_); clear h4 hc1
        have e9 := Option.some.inj h5; subst e9
        exact s_ri (X := 2) (Y := 12) (by decide +kernel) hc2 hF
    · refine s_go (t := 92) (by decide +kernel) ?_
      exact (vX10_fault_b92 hF hk56 hk98) hc1 h3
set_option maxRecDepth 100000 in
set_option maxHeartbeats 4000000 in
def fX10_fault_l56 (fu : Nat) (sh : HS) (I : HI) (R : HR) (k98 : Nat → Int32 → Int32 → Int32 → Option (Int32 ⊕ String)) : Nat → Nat → Int32 → Int32 → Int32 → Int32 → Int32 → Option (Int32 ⊕ String)
  | 0 => fun _ _ _ _ _ _ => none
  | n + 1 => fX10_fault_b56 fu sh I R (fX10_fault_l56 fu sh I R k98 n) k98
set_option maxRecDepth 100000 in
set_option maxHeartbeats 4000000 in
theorem vX10_fault_l56 {K J : Nat → Nat} {fu : Nat} {sh : HS} {I : HI} {R : HR} {F : VF} {o : (Int32 ⊕ String)} (hF : F (voI o) sh I R) {k98 : Nat → Int32 → Int32 → Int32 → Option (Int32 ⊕ String)} (hk98 : ∀ {l0 : Nat} {l2 : Int32} {l3 : Int32} {l4 : Int32} {d1 d5 d6 : Option Value} {c : Nat × Nat}, (c.1 ≤ 2 ∧ c.2 ≤ 12) → k98 l0 l2 l3 l4 = some o → V K J 105 98 [some (.ref l0), d1, some (.int l2), some (.int l3), some (.int l4), d5, d6] [] sh I R c F) : ∀ (n : Nat) {l0 : Nat} {l2 : Int32} {l3 : Int32} {l4 : Int32} {l5 : Int32} {l6 : Int32} {d1 : Option Value} {c : Nat × Nat} (_ : c.1 ≤ 2 ∧ c.2 ≤ 12) (_ : fX10_fault_l56 fu sh I R k98 n l0 l2 l3 l4 l5 l6 = some o), V K J 105 56 [some (.ref l0), d1, some (.int l2), some (.int l3), some (.int l4), some (.int l5), some (.int l6)] [] sh I R c F := by
  intro n
  induction n with
  | zero => exact fun _ h0 => nomatch h0
  | succ n ih => exact fun hc0 h0 => vX10_fault_b56 hF ih hk98 hc0 h0
set_option maxRecDepth 100000 in
set_option maxHeartbeats 4000000 in
def fX10_fault_b98 (fu : Nat) (sh : HS) (I : HI) (R : HR) (k30 : Nat → Int32 → Int32 → Int32 → Option (Int32 ⊕ String)) (l0 : Nat) (l2 : Int32) (l3 : Int32) (l4 : Int32) : Option (Int32 ⊕ String) :=
  k30 l0 l2 l3 (l4 + 1)
set_option maxRecDepth 100000 in
set_option maxHeartbeats 4000000 in
theorem vX10_fault_b98 {K J : Nat → Nat} {fu : Nat} {sh : HS} {I : HI} {R : HR} {F : VF} {o : (Int32 ⊕ String)} (hF : F (voI o) sh I R) {k30 : Nat → Int32 → Int32 → Int32 → Option (Int32 ⊕ String)} (hk30 : ∀ {l0 : Nat} {l2 : Int32} {l3 : Int32} {l4 : Int32} {d1 d5 d6 : Option Value} {c : Nat × Nat}, (c.1 ≤ 2 ∧ c.2 ≤ 12) → k30 l0 l2 l3 l4 = some o → V K J 105 30 [some (.ref l0), d1, some (.int l2), some (.int l3), some (.int l4), d5, d6] [] sh I R c F) {l0 : Nat} {l2 : Int32} {l3 : Int32} {l4 : Int32} {d1 d5 d6 : Option Value} {c : Nat × Nat} (hc0 : c.1 ≤ 2 ∧ c.2 ≤ 12) (h0 : fX10_fault_b98 fu sh I R k30 l0 l2 l3 l4 = some o) : V K J 105 98 [some (.ref l0), d1, some (.int l2), some (.int l3), some (.int l4), d5, d6] [] sh I R c F := by
  unfold fX10_fault_b98 at h0
  refine s_inc (i := 4) (z := 1) (pc' := 101) (L' := [some (.ref l0), d1, some (.int l2), some (.int l3), some (.int (l4 + 1)), d5, d6]) (by decide +kernel) rfl rfl rfl ?_
  refine s_go (t := 30) (by decide +kernel) ?_
  exact hk30 hc0 h0
set_option maxRecDepth 100000 in
set_option maxHeartbeats 4000000 in
def fX10_fault_b30 (fu : Nat) (sh : HS) (I : HI) (R : HR) (k30 : Nat → Int32 → Int32 → Int32 → Option (Int32 ⊕ String)) (l0 : Nat) (l2 : Int32) (l3 : Int32) (l4 : Int32) : Option (Int32 ⊕ String) :=
  (oR sh R l0 8 4).bind fun v3 =>
  (oI sh I v3 0 4).bind fun v4 =>
  if v4 ≤ l4 then
    (some (.inr "java/util/NoSuchElementException"))
  else
    ((oR sh R l0 8 4).bind fun v5 =>
    (fX2_kindsOf fu sh I R v5 l4).bind fun v6 =>
    (fX10_fault_l56 fu sh I R (fX10_fault_b98 fu sh I R k30) fu) l0 l2 l3 l4 v6 0)
set_option maxRecDepth 100000 in
set_option maxHeartbeats 4000000 in
theorem vX10_fault_b30 {K J : Nat → Nat} {fu : Nat} {sh : HS} {I : HI} {R : HR} {F : VF} {o : (Int32 ⊕ String)} (hF : F (voI o) sh I R) {k30 : Nat → Int32 → Int32 → Int32 → Option (Int32 ⊕ String)} (hk30 : ∀ {l0 : Nat} {l2 : Int32} {l3 : Int32} {l4 : Int32} {d1 d5 d6 : Option Value} {c : Nat × Nat}, (c.1 ≤ 2 ∧ c.2 ≤ 12) → k30 l0 l2 l3 l4 = some o → V K J 105 30 [some (.ref l0), d1, some (.int l2), some (.int l3), some (.int l4), d5, d6] [] sh I R c F) {l0 : Nat} {l2 : Int32} {l3 : Int32} {l4 : Int32} {d1 d5 d6 : Option Value} {c : Nat × Nat} (hc0 : c.1 ≤ 2 ∧ c.2 ≤ 12) (h0 : fX10_fault_b30 fu sh I R k30 l0 l2 l3 l4 = some o) : V K J 105 30 [some (.ref l0), d1, some (.int l2), some (.int l3), some (.int l4), d5, d6] [] sh I R c F := by
  unfold fX10_fault_b30 at h0
  refine s_il (i := 4) (pc' := 32) (by decide +kernel) rfl ?_
  refine s_rl (i := 0) (pc' := 33) (by decide +kernel) rfl ?_
  refine s_gR (t := 8) (j := 4) (pc' := 36) (by decide +kernel) h0 (fun v3 h1 => ?_); clear h0
  refine s_gI (t := 0) (j := 4) (ty := 0) (pc' := 39) (by decide +kernel) rfl h1 (fun v4 h2 => ?_); clear h1
  refine s_if (ins := .if_icmp .ge 65) (t := 104) (pc' := 42) (by decide +kernel) rfl rfl rfl h2 (fun p3 h3 => ?_) (fun p3 h3 => ?_) <;> clear h2
  · have e9 := Option.some.inj h3; subst e9
    exact s_th (E := "java/util/NoSuchElementException") (X := 2) (Y := 12) (by decide +kernel) hc0 rfl hF
  · refine s_rl (i := 0) (pc' := 43) (by decide +kernel) rfl ?_
    refine s_gR (t := 8) (j := 4) (pc' := 46) (by decide +kernel) h3 (fun v5 h4 => ?_); clear h3
    refine s_il (i := 4) (pc' := 48) (by decide +kernel) rfl ?_
    refine kX2_kindsOf (X := 2) (Y := 12) (X' := 2) (Y' := 12) (pc' := 51) (by decide +kernel) hc0 rfl h4 (fun v6 c hc1 h5 => ?_); clear h4 hc0
    refine s_is (i := 5) (pc' := 53) (L' := [some (.ref l0), d1, some (.int l2), some (.int l3), some (.int l4), some (.int v6), d6]) (by decide +kernel) rfl rfl ?_
    refine s_c (v := 0) (pc' := 54) (by decide +kernel) ?_
    refine s_is (i := 6) (pc' := 56) (L' := [some (.ref l0), d1, some (.int l2), some (.int l3), some (.int l4), some (.int v6), some (.int 0)]) (by decide +kernel) rfl rfl ?_
    exact (vX10_fault_l56 hF (vX10_fault_b98 hF hk30) fu) hc1 h5
set_option maxRecDepth 100000 in
set_option maxHeartbeats 4000000 in
def fX10_fault_l30 (fu : Nat) (sh : HS) (I : HI) (R : HR) : Nat → Nat → Int32 → Int32 → Int32 → Option (Int32 ⊕ String)
  | 0 => fun _ _ _ _ => none
  | n + 1 => fX10_fault_b30 fu sh I R (fX10_fault_l30 fu sh I R n)
set_option maxRecDepth 100000 in
set_option maxHeartbeats 4000000 in
theorem vX10_fault_l30 {K J : Nat → Nat} {fu : Nat} {sh : HS} {I : HI} {R : HR} {F : VF} {o : (Int32 ⊕ String)} (hF : F (voI o) sh I R) : ∀ (n : Nat) {l0 : Nat} {l2 : Int32} {l3 : Int32} {l4 : Int32} {d1 d5 d6 : Option Value} {c : Nat × Nat} (_ : c.1 ≤ 2 ∧ c.2 ≤ 12) (_ : fX10_fault_l30 fu sh I R n l0 l2 l3 l4 = some o), V K J 105 30 [some (.ref l0), d1, some (.int l2), some (.int l3), some (.int l4), d5, d6] [] sh I R c F := by
  intro n
  induction n with
  | zero => exact fun _ h0 => nomatch h0
  | succ n ih => exact fun hc0 h0 => vX10_fault_b30 hF ih hc0 h0
set_option maxRecDepth 100000 in
set_option maxHeartbeats 4000000 in
def fX10_fault (fu : Nat) (sh : HS) (I : HI) (R : HR) (l0 : Nat) (l1 : Int32) (l2 : Int32) : Option (Int32 ⊕ String) :=
  if isT sh l0 8 = true then
    (oT0 (fX10_needBoard fu sh I R l0) (fun E => some (.inr E)) fun _ =>
    oT0 (fX10_needRange fu sh I R l2 0 2) (fun E => some (.inr E)) fun _ =>
    if 0 ≤ l1 then
      ((fX10_fault_l30 fu sh I R fu) l0 l2 l1 0)
    else
      (some (.inr "java/lang/IllegalArgumentException")))
  else none
set_option maxRecDepth 100000 in
set_option maxHeartbeats 4000000 in
theorem vX10_fault {K J : Nat → Nat} {fu : Nat} {sh : HS} {I : HI} {R : HR} {F : VF} {o : (Int32 ⊕ String)} (hF : F (voI o) sh I R) {l0 : Nat} {l1 : Int32} {l2 : Int32} (h0 : fX10_fault fu sh I R l0 l1 l2 = some o) : V K J 105 0 (ent 7 [.ref l0, .int l1, .int l2]) [] sh I R (0, 0) F := by
  unfold fX10_fault at h0
  obtain ⟨-, h1⟩ := gd h0; clear h0
  have hc0 : ((0 : Nat), (0 : Nat)).1 ≤ 0 ∧ ((0 : Nat), (0 : Nat)).2 ≤ 0 := ⟨Nat.le_refl _, Nat.le_refl _⟩
  show V K J 105 0 [some (.ref l0), some (.int l1), some (.int l2), none, none, none, none] [] sh I R (0, 0) F
  refine s_rl (i := 0) (pc' := 1) (by decide +kernel) rfl ?_
  refine kX10_needBoard (X := 0) (Y := 0) (X' := 1) (Y' := 6) (pc' := 4) (by decide +kernel) hc0 rfl h1 (fun v1 c hc1 h2 => ?_) (fun E h2 => by have e9 := Option.some.inj h2; subst e9; exact hF); clear h1 hc0
  refine s_il (i := 2) (pc' := 5) (by decide +kernel) rfl ?_
  refine s_c (v := 0) (pc' := 6) (by decide +kernel) ?_
  refine s_c (v := 2) (pc' := 7) (by decide +kernel) ?_
  refine kX10_needRange (X := 1) (Y := 6) (X' := 2) (Y' := 12) (pc' := 10) (by decide +kernel) hc1 rfl h2 (fun v2 c hc2 h3 => ?_) (fun E h3 => by have e9 := Option.some.inj h3; subst e9; exact hF); clear h2 hc1
  refine s_il (i := 1) (pc' := 11) (by decide +kernel) rfl ?_
  refine s_if (ins := .ifCond .ge 14) (t := 25) (pc' := 14) (by decide +kernel) rfl rfl rfl h3 (fun p4 h4 => ?_) (fun p4 h4 => ?_) <;> clear h3
  · refine s_il (i := 1) (pc' := 26) (by decide +kernel) rfl ?_
    refine s_is (i := 3) (pc' := 27) (L' := [some (.ref l0), some (.int l1), some (.int l2), some (.int l1), none, none, none]) (by decide +kernel) rfl rfl ?_
    refine s_c (v := 0) (pc' := 28) (by decide +kernel) ?_
    refine s_is (i := 4) (pc' := 30) (L' := [some (.ref l0), some (.int l1), some (.int l2), some (.int l1), some (.int 0), none, none]) (by decide +kernel) rfl rfl ?_
    exact (vX10_fault_l30 hF fu) hc2 h4
  · have e9 := Option.some.inj h4; subst e9
    exact s_th (E := "java/lang/IllegalArgumentException") (X := 2) (Y := 12) (by decide +kernel) hc2 rfl hF
set_option maxRecDepth 100000 in
set_option maxHeartbeats 4000000 in
theorem kX10_fault {K J : Nat → Nat} {fu : Nat} {sh : HS} {I : HI} {R : HR} {F : VF} {mi pc pc' X Y X' Y' : Nat} {L : VL} {rest : List Value} {c : Nat × Nat} {l0 : Nat} {l1 : Int32} {l2 : Int32} {ω : Type} {o : ω} {e : String → Option ω} {g : Int32 → Option ω} (hq : cQ mi pc 105 3 pc' X Y X' Y' = true) (hc : c.1 ≤ X ∧ c.2 ≤ Y) (hr : Nat.ble (catS rest) 8 = true) (h : oT0 (fX10_fault fu sh I R l0 l1 l2) e g = some o) (kk : ∀ v c', (c'.1 ≤ X' ∧ c'.2 ≤ Y') → g v = some o → V K J mi pc' L ((.int v) :: rest) sh I R c' F) (kx : ∀ E, e E = some o → F (.inr E) sh I R) : V K J mi pc L (.int l2 :: .int l1 :: .ref l0 :: rest) sh I R c F := by
  obtain ⟨r, h1, h2⟩ := bnd h
  have hT : isT sh l0 8 = true := by unfold fX10_fault at h1; exact (gd h1).1
  have ml : mL 105 = 7 := by decide +kernel
  have mk : mK 105 = 1 := by decide +kernel
  have mc : mC 105 = 8 := by decide +kernel
  rcases r with v | E
  · refine s_call (as := [.int l2, .int l1, .ref l0]) (G := fun o' sh' I' R' => o' = .inl (some (.int v)) ∧ sh' = sh ∧ I' = I ∧ R' = R) hq hc rfl hr (by rw [ml]; rfl) (Or.inl rfl) (fun _ => Or.inl ⟨by rw [mc]; decide, by rw [mc]; exact isT_iff.mp hT⟩) (fun z => absurd (mk.symm.trans z) (by decide)) (by rw [ml]; exact vX10_fault (F := fun o' sh' I' R' => o' = .inl (some (.int v)) ∧ sh' = sh ∧ I' = I ∧ R' = R) ⟨rfl, rfl, rfl, rfl⟩ h1) ?_ ?_ ?_
    · rintro sh' I' R' c' hc' ⟨g1, rfl, rfl, rfl⟩
      cases g1
    · rintro v' sh' I' R' c' hc' ⟨g1, rfl, rfl, rfl⟩
      cases g1
      exact kk _ _ hc' h2
    · rintro E' sh' I' R' ⟨g1, rfl, rfl, rfl⟩
      cases g1
  · refine s_call (as := [.int l2, .int l1, .ref l0]) (G := fun o' sh' I' R' => o' = .inr E ∧ sh' = sh ∧ I' = I ∧ R' = R) hq hc rfl hr (by rw [ml]; rfl) (Or.inl rfl) (fun _ => Or.inl ⟨by rw [mc]; decide, by rw [mc]; exact isT_iff.mp hT⟩) (fun z => absurd (mk.symm.trans z) (by decide)) (by rw [ml]; exact vX10_fault (F := fun o' sh' I' R' => o' = .inr E ∧ sh' = sh ∧ I' = I ∧ R' = R) ⟨rfl, rfl, rfl, rfl⟩ h1) ?_ ?_ ?_
    · rintro sh' I' R' c' hc' ⟨g1, rfl, rfl, rfl⟩
      cases g1
    · rintro v' sh' I' R' c' hc' ⟨g1, rfl, rfl, rfl⟩
      cases g1
    · rintro E' sh' I' R' ⟨g1, rfl, rfl, rfl⟩
      cases g1
      exact kx _ h2
set_option maxRecDepth 100000 in
set_option maxHeartbeats 4000000 in
def fX10_faultsOf (fu : Nat) (sh : HS) (I : HI) (R : HR) (l0 : Nat) (l1 : Int32) : Option (Int32 ⊕ String) :=
  if isT sh l0 8 = true then
    (oT0 (fX10_needBoard fu sh I R l0) (fun E => some (.inr E)) fun _ =>
    oT0 (fX10_needShot fu sh I R l0 l1) (fun E => some (.inr E)) fun _ =>
    (oR sh R l0 8 4).bind fun v3 =>
    (fX2_kindsOf fu sh I R v3 l1).bind fun v4 =>
    some (.inl v4))
  else none
set_option maxRecDepth 100000 in
set_option maxHeartbeats 4000000 in
theorem vX10_faultsOf {K J : Nat → Nat} {fu : Nat} {sh : HS} {I : HI} {R : HR} {F : VF} {o : (Int32 ⊕ String)} (hF : F (voI o) sh I R) {l0 : Nat} {l1 : Int32} (h0 : fX10_faultsOf fu sh I R l0 l1 = some o) : V K J 107 0 (ent 2 [.ref l0, .int l1]) [] sh I R (0, 0) F := by
  unfold fX10_faultsOf at h0
  obtain ⟨-, h1⟩ := gd h0; clear h0
  have hc0 : ((0 : Nat), (0 : Nat)).1 ≤ 0 ∧ ((0 : Nat), (0 : Nat)).2 ≤ 0 := ⟨Nat.le_refl _, Nat.le_refl _⟩
  show V K J 107 0 [some (.ref l0), some (.int l1)] [] sh I R (0, 0) F
  refine s_rl (i := 0) (pc' := 1) (by decide +kernel) rfl ?_
  refine kX10_needBoard (X := 0) (Y := 0) (X' := 1) (Y' := 6) (pc' := 4) (by decide +kernel) hc0 rfl h1 (fun v1 c hc1 h2 => ?_) (fun E h2 => by have e9 := Option.some.inj h2; subst e9; exact hF); clear h1 hc0
  refine s_rl (i := 0) (pc' := 5) (by decide +kernel) rfl ?_
  refine s_il (i := 1) (pc' := 6) (by decide +kernel) rfl ?_
  refine kX10_needShot (X := 1) (Y := 6) (X' := 2) (Y' := 12) (pc' := 9) (by decide +kernel) hc1 rfl h2 (fun v2 c hc2 h3 => ?_) (fun E h3 => by have e9 := Option.some.inj h3; subst e9; exact hF); clear h2 hc1
  refine s_rl (i := 0) (pc' := 10) (by decide +kernel) rfl ?_
  refine s_gR (t := 8) (j := 4) (pc' := 13) (by decide +kernel) h3 (fun v3 h4 => ?_); clear h3
  refine s_il (i := 1) (pc' := 14) (by decide +kernel) rfl ?_
  refine kX2_kindsOf (X := 2) (Y := 12) (X' := 2) (Y' := 12) (pc' := 17) (by decide +kernel) hc2 rfl h4 (fun v4 c hc3 h5 => ?_); clear h4 hc2
  have e9 := Option.some.inj h5; subst e9
  exact s_ri (X := 2) (Y := 12) (by decide +kernel) hc3 hF
set_option maxRecDepth 100000 in
set_option maxHeartbeats 4000000 in
theorem kX10_faultsOf {K J : Nat → Nat} {fu : Nat} {sh : HS} {I : HI} {R : HR} {F : VF} {mi pc pc' X Y X' Y' : Nat} {L : VL} {rest : List Value} {c : Nat × Nat} {l0 : Nat} {l1 : Int32} {ω : Type} {o : ω} {e : String → Option ω} {g : Int32 → Option ω} (hq : cQ mi pc 107 2 pc' X Y X' Y' = true) (hc : c.1 ≤ X ∧ c.2 ≤ Y) (hr : Nat.ble (catS rest) 8 = true) (h : oT0 (fX10_faultsOf fu sh I R l0 l1) e g = some o) (kk : ∀ v c', (c'.1 ≤ X' ∧ c'.2 ≤ Y') → g v = some o → V K J mi pc' L ((.int v) :: rest) sh I R c' F) (kx : ∀ E, e E = some o → F (.inr E) sh I R) : V K J mi pc L (.int l1 :: .ref l0 :: rest) sh I R c F := by
  obtain ⟨r, h1, h2⟩ := bnd h
  have hT : isT sh l0 8 = true := by unfold fX10_faultsOf at h1; exact (gd h1).1
  have ml : mL 107 = 2 := by decide +kernel
  have mk : mK 107 = 1 := by decide +kernel
  have mc : mC 107 = 8 := by decide +kernel
  rcases r with v | E
  · refine s_call (as := [.int l1, .ref l0]) (G := fun o' sh' I' R' => o' = .inl (some (.int v)) ∧ sh' = sh ∧ I' = I ∧ R' = R) hq hc rfl hr (by rw [ml]; rfl) (Or.inl rfl) (fun _ => Or.inl ⟨by rw [mc]; decide, by rw [mc]; exact isT_iff.mp hT⟩) (fun z => absurd (mk.symm.trans z) (by decide)) (by rw [ml]; exact vX10_faultsOf (F := fun o' sh' I' R' => o' = .inl (some (.int v)) ∧ sh' = sh ∧ I' = I ∧ R' = R) ⟨rfl, rfl, rfl, rfl⟩ h1) ?_ ?_ ?_
    · rintro sh' I' R' c' hc' ⟨g1, rfl, rfl, rfl⟩
      cases g1
    · rintro v' sh' I' R' c' hc' ⟨g1, rfl, rfl, rfl⟩
      cases g1
      exact kk _ _ hc' h2
    · rintro E' sh' I' R' ⟨g1, rfl, rfl, rfl⟩
      cases g1
  · refine s_call (as := [.int l1, .ref l0]) (G := fun o' sh' I' R' => o' = .inr E ∧ sh' = sh ∧ I' = I ∧ R' = R) hq hc rfl hr (by rw [ml]; rfl) (Or.inl rfl) (fun _ => Or.inl ⟨by rw [mc]; decide, by rw [mc]; exact isT_iff.mp hT⟩) (fun z => absurd (mk.symm.trans z) (by decide)) (by rw [ml]; exact vX10_faultsOf (F := fun o' sh' I' R' => o' = .inr E ∧ sh' = sh ∧ I' = I ∧ R' = R) ⟨rfl, rfl, rfl, rfl⟩ h1) ?_ ?_ ?_
    · rintro sh' I' R' c' hc' ⟨g1, rfl, rfl, rfl⟩
      cases g1
    · rintro v' sh' I' R' c' hc' ⟨g1, rfl, rfl, rfl⟩
      cases g1
    · rintro E' sh' I' R' ⟨g1, rfl, rfl, rfl⟩
      cases g1
      exact kx _ h2
set_option maxRecDepth 100000 in
set_option maxHeartbeats 4000000 in
def fX10_faultsWith (fu : Nat) (sh : HS) (I : HI) (R : HR) (l0 : Nat) (l1 : Int32) (l2 : Int32) (l3 : Int32) : Option ((Int32 ⊕ String) × HI) :=
  if isT sh l0 8 = true then
    (oT0 (fX10_needBoard fu sh I R l0) (fun E => some (.inr E, I)) fun _ =>
    oT0 (fX10_needShot fu sh I R l0 l1) (fun E => some (.inr E, I)) fun _ =>
    oT0 (fX10_needPlace fu sh I R l2 l3) (fun E => some (.inr E, I)) fun _ =>
    (oR sh R l0 8 4).bind fun v4 =>
    (oR sh R l0 8 4).bind fun v5 =>
    (oR sh R v5 0 6).bind fun v6 =>
    (oB sh R v6 7 l1).bind fun v7 =>
    (fX0_isSubjectAt fu sh I R v4 v7 l2 l3).bind fun v8 =>
    if v8 = 0 then
      ((oR sh R l0 8 4).bind fun v9 =>
      (oR sh R l0 8 4).bind fun v10 =>
      (oR sh R v10 0 6).bind fun v11 =>
      (oB sh R v11 7 l1).bind fun v12 =>
      oH (fX2_totalWith fu sh I R v9 v12 l2 l3) fun v13 w13 =>
      some (.inl v13, w13))
    else
      (some (.inl (-2), I)))
  else none
set_option maxRecDepth 100000 in
set_option maxHeartbeats 4000000 in
theorem vX10_faultsWith {K J : Nat → Nat} {fu : Nat} {sh : HS} {I : HI} {R : HR} {F : VF} {o : ((Int32 ⊕ String) × HI)} (hF : F (voI o.1) sh o.2 R) {l0 : Nat} {l1 : Int32} {l2 : Int32} {l3 : Int32} (h0 : fX10_faultsWith fu sh I R l0 l1 l2 l3 = some o) : V K J 108 0 (ent 4 [.ref l0, .int l1, .int l2, .int l3]) [] sh I R (0, 0) F := by
  unfold fX10_faultsWith at h0
  obtain ⟨-, h1⟩ := gd h0; clear h0
  have hc0 : ((0 : Nat), (0 : Nat)).1 ≤ 0 ∧ ((0 : Nat), (0 : Nat)).2 ≤ 0 := ⟨Nat.le_refl _, Nat.le_refl _⟩
  show V K J 108 0 [some (.ref l0), some (.int l1), some (.int l2), some (.int l3)] [] sh I R (0, 0) F
  refine s_rl (i := 0) (pc' := 1) (by decide +kernel) rfl ?_
  refine kX10_needBoard (X := 0) (Y := 0) (X' := 1) (Y' := 6) (pc' := 4) (by decide +kernel) hc0 rfl h1 (fun v1 c hc1 h2 => ?_) (fun E h2 => by have e9 := Option.some.inj h2; subst e9; exact hF); clear h1 hc0
  refine s_rl (i := 0) (pc' := 5) (by decide +kernel) rfl ?_
  refine s_il (i := 1) (pc' := 6) (by decide +kernel) rfl ?_
  refine kX10_needShot (X := 1) (Y := 6) (X' := 2) (Y' := 12) (pc' := 9) (by decide +kernel) hc1 rfl h2 (fun v2 c hc2 h3 => ?_) (fun E h3 => by have e9 := Option.some.inj h3; subst e9; exact hF); clear h2 hc1
  refine s_il (i := 2) (pc' := 10) (by decide +kernel) rfl ?_
  refine s_il (i := 3) (pc' := 11) (by decide +kernel) rfl ?_
  refine kX10_needPlace (X := 2) (Y := 12) (X' := 4) (Y' := 24) (pc' := 14) (by decide +kernel) hc2 rfl h3 (fun v3 c hc3 h4 => ?_) (fun E h4 => by have e9 := Option.some.inj h4; subst e9; exact hF); clear h3 hc2
  refine s_rl (i := 0) (pc' := 15) (by decide +kernel) rfl ?_
  refine s_gR (t := 8) (j := 4) (pc' := 18) (by decide +kernel) h4 (fun v4 h5 => ?_); clear h4
  refine s_rl (i := 0) (pc' := 19) (by decide +kernel) rfl ?_
  refine s_gR (t := 8) (j := 4) (pc' := 22) (by decide +kernel) h5 (fun v5 h6 => ?_); clear h5
  refine s_gR (t := 0) (j := 6) (pc' := 25) (by decide +kernel) h6 (fun v6 h7 => ?_); clear h6
  refine s_il (i := 1) (pc' := 26) (by decide +kernel) rfl ?_
  refine s_aal (t := 7) (pc' := 27) (by decide +kernel) h7 (fun v7 h8 => ?_); clear h7
  refine s_il (i := 2) (pc' := 28) (by decide +kernel) rfl ?_
  refine s_il (i := 3) (pc' := 29) (by decide +kernel) rfl ?_
  refine kX0_isSubjectAt (X := 4) (Y := 24) (X' := 4) (Y' := 24) (pc' := 32) (by decide +kernel) hc3 rfl h8 (fun v8 c hc4 h9 => ?_); clear h8 hc3
  refine s_if (ins := .ifCond .eq 6) (t := 38) (pc' := 35) (by decide +kernel) rfl rfl rfl h9 (fun p10 h10 => ?_) (fun p10 h10 => ?_) <;> clear h9
  · refine s_rl (i := 0) (pc' := 39) (by decide +kernel) rfl ?_
    refine s_gR (t := 8) (j := 4) (pc' := 42) (by decide +kernel) h10 (fun v9 h11 => ?_); clear h10
    refine s_rl (i := 0) (pc' := 43) (by decide +kernel) rfl ?_
    refine s_gR (t := 8) (j := 4) (pc' := 46) (by decide +kernel) h11 (fun v10 h12 => ?_); clear h11
    refine s_gR (t := 0) (j := 6) (pc' := 49) (by decide +kernel) h12 (fun v11 h13 => ?_); clear h12
    refine s_il (i := 1) (pc' := 50) (by decide +kernel) rfl ?_
    refine s_aal (t := 7) (pc' := 51) (by decide +kernel) h13 (fun v12 h14 => ?_); clear h13
    refine s_il (i := 2) (pc' := 52) (by decide +kernel) rfl ?_
    refine s_il (i := 3) (pc' := 53) (by decide +kernel) rfl ?_
    refine kX2_totalWith (X := 4) (Y := 24) (X' := 4) (Y' := 24) (pc' := 56) (by decide +kernel) hc4 rfl h14 (fun v13 w13 c hc5 h15 => ?_); clear h14 hc4
    have e9 := Option.some.inj h15; subst e9
    exact s_ri (X := 4) (Y := 24) (by decide +kernel) hc5 hF
  · refine s_c (v := (-2)) (pc' := 37) (by decide +kernel) ?_
    have e9 := Option.some.inj h10; subst e9
    exact s_ri (X := 4) (Y := 24) (by decide +kernel) hc4 hF
set_option maxRecDepth 100000 in
set_option maxHeartbeats 4000000 in
theorem kX10_faultsWith {K J : Nat → Nat} {fu : Nat} {sh : HS} {I : HI} {R : HR} {F : VF} {mi pc pc' X Y X' Y' : Nat} {L : VL} {rest : List Value} {c : Nat × Nat} {l0 : Nat} {l1 : Int32} {l2 : Int32} {l3 : Int32} {ω : Type} {o : ω} {e : String → HI → Option ω} {g : Int32 → HI → Option ω} (hq : cQ mi pc 108 4 pc' X Y X' Y' = true) (hc : c.1 ≤ X ∧ c.2 ≤ Y) (hr : Nat.ble (catS rest) 8 = true) (h : oTh (fX10_faultsWith fu sh I R l0 l1 l2 l3) e g = some o) (kk : ∀ v w c', (c'.1 ≤ X' ∧ c'.2 ≤ Y') → g v w = some o → V K J mi pc' L ((.int v) :: rest) sh w R c' F) (kx : ∀ E w, e E w = some o → F (.inr E) sh w R) : V K J mi pc L (.int l3 :: .int l2 :: .int l1 :: .ref l0 :: rest) sh I R c F := by
  obtain ⟨r, h1, h2⟩ := bnd h
  have hT : isT sh l0 8 = true := by unfold fX10_faultsWith at h1; exact (gd h1).1
  have ml : mL 108 = 4 := by decide +kernel
  have mk : mK 108 = 1 := by decide +kernel
  have mc : mC 108 = 8 := by decide +kernel
  obtain ⟨r, w⟩ := r
  rcases r with v | E
  · refine s_call (as := [.int l3, .int l2, .int l1, .ref l0]) (G := fun o' sh' I' R' => o' = .inl (some (.int v)) ∧ sh' = sh ∧ I' = w ∧ R' = R) hq hc rfl hr (by rw [ml]; rfl) (Or.inl rfl) (fun _ => Or.inl ⟨by rw [mc]; decide, by rw [mc]; exact isT_iff.mp hT⟩) (fun z => absurd (mk.symm.trans z) (by decide)) (by rw [ml]; exact vX10_faultsWith (F := fun o' sh' I' R' => o' = .inl (some (.int v)) ∧ sh' = sh ∧ I' = w ∧ R' = R) ⟨rfl, rfl, rfl, rfl⟩ h1) ?_ ?_ ?_
    · rintro sh' I' R' c' hc' ⟨g1, rfl, rfl, rfl⟩
      cases g1
    · rintro v' sh' I' R' c' hc' ⟨g1, rfl, rfl, rfl⟩
      cases g1
      exact kk _ _ _ hc' h2
    · rintro E' sh' I' R' ⟨g1, rfl, rfl, rfl⟩
      cases g1
  · refine s_call (as := [.int l3, .int l2, .int l1, .ref l0]) (G := fun o' sh' I' R' => o' = .inr E ∧ sh' = sh ∧ I' = w ∧ R' = R) hq hc rfl hr (by rw [ml]; rfl) (Or.inl rfl) (fun _ => Or.inl ⟨by rw [mc]; decide, by rw [mc]; exact isT_iff.mp hT⟩) (fun z => absurd (mk.symm.trans z) (by decide)) (by rw [ml]; exact vX10_faultsWith (F := fun o' sh' I' R' => o' = .inr E ∧ sh' = sh ∧ I' = w ∧ R' = R) ⟨rfl, rfl, rfl, rfl⟩ h1) ?_ ?_ ?_
    · rintro sh' I' R' c' hc' ⟨g1, rfl, rfl, rfl⟩
      cases g1
    · rintro v' sh' I' R' c' hc' ⟨g1, rfl, rfl, rfl⟩
      cases g1
    · rintro E' sh' I' R' ⟨g1, rfl, rfl, rfl⟩
      cases g1
      exact kx _ _ h2
set_option maxRecDepth 100000 in
set_option maxHeartbeats 4000000 in
def fX10_findShotOrder_b32 (fu : Nat) (sh : HS) (R : HR) (k32 : HI → Nat → Int32 → Int32 → Int32 → Nat → Int32 → Option HI) (k82 : HI → Nat → Int32 → Int32 → Int32 → Option HI) (I : HI) (l0 : Nat) (l1 : Int32) (l2 : Int32) (l3 : Int32) (l4 : Nat) (l5 : Int32) : Option HI :=
  if l2 ≤ l5 then
    (k82 I l0 l1 l2 l3)
  else
    ((oR sh R l0 8 4).bind fun v8 =>
    (oR sh R l0 8 4).bind fun v9 =>
    (oR sh R v9 0 6).bind fun v10 =>
    (oB sh R v10 7 (l1 + l5)).bind fun v11 =>
    (fX2_kindsBetween fu sh I R v8 v11 l4).bind fun v12 =>
    (oR sh R l0 8 12).bind fun v13 =>
    (fJ6_bitCount_0f7a4 fu sh I R v12).bind fun v14 =>
    (fX5_setStep fu sh I R v13 l5 l3 v14).bind fun w15 =>
    k32 w15 l0 l1 l2 l3 l4 (l5 + 1))
set_option maxRecDepth 100000 in
set_option maxHeartbeats 4000000 in
theorem vX10_findShotOrder_b32 {K J : Nat → Nat} {fu : Nat} {sh : HS} {R : HR} {F : VF} {o : HI} (hF : F (.inl none) sh o R) {k32 : HI → Nat → Int32 → Int32 → Int32 → Nat → Int32 → Option HI} {k82 : HI → Nat → Int32 → Int32 → Int32 → Option HI} (hk32 : ∀ {I : HI} {l0 : Nat} {l1 : Int32} {l2 : Int32} {l3 : Int32} {l4 : Nat} {l5 : Int32} {d6 : Option Value} {c : Nat × Nat}, (c.1 ≤ 0 ∧ c.2 ≤ 0) → k32 I l0 l1 l2 l3 l4 l5 = some o → V K J 138 32 [some (.ref l0), some (.int l1), some (.int l2), some (.int l3), some (.ref l4), some (.int l5), d6] [] sh I R c F) (hk82 : ∀ {I : HI} {l0 : Nat} {l1 : Int32} {l2 : Int32} {l3 : Int32} {d4 d5 d6 : Option Value} {c : Nat × Nat}, (c.1 ≤ 0 ∧ c.2 ≤ 0) → k82 I l0 l1 l2 l3 = some o → V K J 138 82 [some (.ref l0), some (.int l1), some (.int l2), some (.int l3), d4, d5, d6] [] sh I R c F) {I : HI} {l0 : Nat} {l1 : Int32} {l2 : Int32} {l3 : Int32} {l4 : Nat} {l5 : Int32} {d6 : Option Value} {c : Nat × Nat} (hc0 : c.1 ≤ 0 ∧ c.2 ≤ 0) (h0 : fX10_findShotOrder_b32 fu sh R k32 k82 I l0 l1 l2 l3 l4 l5 = some o) : V K J 138 32 [some (.ref l0), some (.int l1), some (.int l2), some (.int l3), some (.ref l4), some (.int l5), d6] [] sh I R c F := by
  unfold fX10_findShotOrder_b32 at h0
  refine s_il (i := 5) (pc' := 34) (by decide +kernel) rfl ?_
  refine s_il (i := 2) (pc' := 35) (by decide +kernel) rfl ?_
  refine s_if (ins := .if_icmp .ge 47) (t := 82) (pc' := 38) (by decide +kernel) rfl rfl rfl h0 (fun p1 h1 => ?_) (fun p1 h1 => ?_) <;> clear h0
  · exact hk82 hc0 h1
  · refine s_rl (i := 0) (pc' := 39) (by decide +kernel) rfl ?_
    refine s_gR (t := 8) (j := 4) (pc' := 42) (by decide +kernel) h1 (fun v8 h2 => ?_); clear h1
    refine s_rl (i := 0) (pc' := 43) (by decide +kernel) rfl ?_
    refine s_gR (t := 8) (j := 4) (pc' := 46) (by decide +kernel) h2 (fun v9 h3 => ?_); clear h2
    refine s_gR (t := 0) (j := 6) (pc' := 49) (by decide +kernel) h3 (fun v10 h4 => ?_); clear h3
    refine s_il (i := 1) (pc' := 50) (by decide +kernel) rfl ?_
    refine s_il (i := 5) (pc' := 52) (by decide +kernel) rfl ?_
    refine s_a (ins := .iadd) (pc' := 53) (by decide +kernel) rfl ?_
    refine s_aal (t := 7) (pc' := 54) (by decide +kernel) h4 (fun v11 h5 => ?_); clear h4
    refine s_rl (i := 4) (pc' := 56) (by decide +kernel) rfl ?_
    refine kX2_kindsBetween (X := 0) (Y := 0) (X' := 0) (Y' := 0) (pc' := 59) (by decide +kernel) hc0 rfl h5 (fun v12 c hc1 h6 => ?_); clear h5 hc0
    refine s_is (i := 6) (pc' := 61) (L' := [some (.ref l0), some (.int l1), some (.int l2), some (.int l3), some (.ref l4), some (.int l5), some (.int v12)]) (by decide +kernel) rfl rfl ?_
    refine s_rl (i := 0) (pc' := 62) (by decide +kernel) rfl ?_
    refine s_gR (t := 8) (j := 12) (pc' := 65) (by decide +kernel) h6 (fun v13 h7 => ?_); clear h6
    refine s_il (i := 5) (pc' := 67) (by decide +kernel) rfl ?_
    refine s_il (i := 3) (pc' := 68) (by decide +kernel) rfl ?_
    refine s_il (i := 6) (pc' := 70) (by decide +kernel) rfl ?_
    refine kJ6_bitCount_0f7a4 (X := 0) (Y := 0) (X' := 0) (Y' := 0) (pc' := 73) (by decide +kernel) hc1 rfl h7 (fun v14 c hc2 h8 => ?_); clear h7 hc1
    refine kX5_setStep (X := 0) (Y := 0) (X' := 0) (Y' := 0) (pc' := 76) (by decide +kernel) hc2 rfl h8 (fun w15 c hc3 h9 => ?_); clear h8 hc2
    refine s_inc (i := 5) (z := 1) (pc' := 79) (L' := [some (.ref l0), some (.int l1), some (.int l2), some (.int l3), some (.ref l4), some (.int (l5 + 1)), some (.int v12)]) (by decide +kernel) rfl rfl rfl ?_
    refine s_go (t := 32) (by decide +kernel) ?_
    exact hk32 hc3 h9
set_option maxRecDepth 100000 in
set_option maxHeartbeats 4000000 in
def fX10_findShotOrder_l32 (fu : Nat) (sh : HS) (R : HR) (k82 : HI → Nat → Int32 → Int32 → Int32 → Option HI) : Nat → HI → Nat → Int32 → Int32 → Int32 → Nat → Int32 → Option HI
  | 0 => fun _ _ _ _ _ _ _ => none
  | n + 1 => fX10_findShotOrder_b32 fu sh R (fX10_findShotOrder_l32 fu sh R k82 n) k82
set_option maxRecDepth 100000 in
set_option maxHeartbeats 4000000 in
theorem vX10_findShotOrder_l32 {K J : Nat → Nat} {fu : Nat} {sh : HS} {R : HR} {F : VF} {o : HI} (hF : F (.inl none) sh o R) {k82 : HI → Nat → Int32 → Int32 → Int32 → Option HI} (hk82 : ∀ {I : HI} {l0 : Nat} {l1 : Int32} {l2 : Int32} {l3 : Int32} {d4 d5 d6 : Option Value} {c : Nat × Nat}, (c.1 ≤ 0 ∧ c.2 ≤ 0) → k82 I l0 l1 l2 l3 = some o → V K J 138 82 [some (.ref l0), some (.int l1), some (.int l2), some (.int l3), d4, d5, d6] [] sh I R c F) : ∀ (n : Nat) {I : HI} {l0 : Nat} {l1 : Int32} {l2 : Int32} {l3 : Int32} {l4 : Nat} {l5 : Int32} {d6 : Option Value} {c : Nat × Nat} (_ : c.1 ≤ 0 ∧ c.2 ≤ 0) (_ : fX10_findShotOrder_l32 fu sh R k82 n I l0 l1 l2 l3 l4 l5 = some o), V K J 138 32 [some (.ref l0), some (.int l1), some (.int l2), some (.int l3), some (.ref l4), some (.int l5), d6] [] sh I R c F := by
  intro n
  induction n with
  | zero => exact fun _ h0 => nomatch h0
  | succ n ih => exact fun hc0 h0 => vX10_findShotOrder_b32 hF ih hk82 hc0 h0
set_option maxRecDepth 100000 in
set_option maxHeartbeats 4000000 in
def fX10_findShotOrder_b82 (fu : Nat) (sh : HS) (R : HR) (k2 : HI → Nat → Int32 → Int32 → Int32 → Option HI) (I : HI) (l0 : Nat) (l1 : Int32) (l2 : Int32) (l3 : Int32) : Option HI :=
  k2 I l0 l1 l2 (l3 + 1)
set_option maxRecDepth 100000 in
set_option maxHeartbeats 4000000 in
theorem vX10_findShotOrder_b82 {K J : Nat → Nat} {fu : Nat} {sh : HS} {R : HR} {F : VF} {o : HI} (hF : F (.inl none) sh o R) {k2 : HI → Nat → Int32 → Int32 → Int32 → Option HI} (hk2 : ∀ {I : HI} {l0 : Nat} {l1 : Int32} {l2 : Int32} {l3 : Int32} {d4 d5 d6 : Option Value} {c : Nat × Nat}, (c.1 ≤ 0 ∧ c.2 ≤ 0) → k2 I l0 l1 l2 l3 = some o → V K J 138 2 [some (.ref l0), some (.int l1), some (.int l2), some (.int l3), d4, d5, d6] [] sh I R c F) {I : HI} {l0 : Nat} {l1 : Int32} {l2 : Int32} {l3 : Int32} {d4 d5 d6 : Option Value} {c : Nat × Nat} (hc0 : c.1 ≤ 0 ∧ c.2 ≤ 0) (h0 : fX10_findShotOrder_b82 fu sh R k2 I l0 l1 l2 l3 = some o) : V K J 138 82 [some (.ref l0), some (.int l1), some (.int l2), some (.int l3), d4, d5, d6] [] sh I R c F := by
  unfold fX10_findShotOrder_b82 at h0
  refine s_inc (i := 3) (z := 1) (pc' := 85) (L' := [some (.ref l0), some (.int l1), some (.int l2), some (.int (l3 + 1)), d4, d5, d6]) (by decide +kernel) rfl rfl rfl ?_
  refine s_go (t := 2) (by decide +kernel) ?_
  exact hk2 hc0 h0
set_option maxRecDepth 100000 in
set_option maxHeartbeats 4000000 in
def fX10_findShotOrder_b2 (fu : Nat) (sh : HS) (R : HR) (k2 : HI → Nat → Int32 → Int32 → Int32 → Option HI) (I : HI) (l0 : Nat) (l1 : Int32) (l2 : Int32) (l3 : Int32) : Option HI :=
  if l2 ≤ l3 then
    ((oR sh R l0 8 12).bind fun v1 =>
    (fX5_find fu sh I R v1 l2).bind fun w2 =>
    some w2)
  else
    ((oR sh R l0 8 12).bind fun v3 =>
    (fX5_setStart fu sh I R v3 l3 0).bind fun w4 =>
    (oR sh R l0 8 4).bind fun v5 =>
    (oR sh R v5 0 6).bind fun v6 =>
    (oB sh R v6 7 (l1 + l3)).bind fun v7 =>
    (fX10_findShotOrder_l32 fu sh R (fX10_findShotOrder_b82 fu sh R k2) fu) w4 l0 l1 l2 l3 v7 0)
set_option maxRecDepth 100000 in
set_option maxHeartbeats 4000000 in
theorem vX10_findShotOrder_b2 {K J : Nat → Nat} {fu : Nat} {sh : HS} {R : HR} {F : VF} {o : HI} (hF : F (.inl none) sh o R) {k2 : HI → Nat → Int32 → Int32 → Int32 → Option HI} (hk2 : ∀ {I : HI} {l0 : Nat} {l1 : Int32} {l2 : Int32} {l3 : Int32} {d4 d5 d6 : Option Value} {c : Nat × Nat}, (c.1 ≤ 0 ∧ c.2 ≤ 0) → k2 I l0 l1 l2 l3 = some o → V K J 138 2 [some (.ref l0), some (.int l1), some (.int l2), some (.int l3), d4, d5, d6] [] sh I R c F) {I : HI} {l0 : Nat} {l1 : Int32} {l2 : Int32} {l3 : Int32} {d4 d5 d6 : Option Value} {c : Nat × Nat} (hc0 : c.1 ≤ 0 ∧ c.2 ≤ 0) (h0 : fX10_findShotOrder_b2 fu sh R k2 I l0 l1 l2 l3 = some o) : V K J 138 2 [some (.ref l0), some (.int l1), some (.int l2), some (.int l3), d4, d5, d6] [] sh I R c F := by
  unfold fX10_findShotOrder_b2 at h0
  refine s_il (i := 3) (pc' := 3) (by decide +kernel) rfl ?_
  refine s_il (i := 2) (pc' := 4) (by decide +kernel) rfl ?_
  refine s_if (ins := .if_icmp .ge 84) (t := 88) (pc' := 7) (by decide +kernel) rfl rfl rfl h0 (fun p1 h1 => ?_) (fun p1 h1 => ?_) <;> clear h0
  · refine s_rl (i := 0) (pc' := 89) (by decide +kernel) rfl ?_
    refine s_gR (t := 8) (j := 12) (pc' := 92) (by decide +kernel) h1 (fun v1 h2 => ?_); clear h1
    refine s_il (i := 2) (pc' := 93) (by decide +kernel) rfl ?_
    refine kX5_find (X := 0) (Y := 0) (X' := 0) (Y' := 0) (pc' := 96) (by decide +kernel) hc0 rfl h2 (fun w2 c hc1 h3 => ?_); clear h2 hc0
    have e9 := Option.some.inj h3; subst e9
    exact s_rv (X := 0) (Y := 0) (by decide +kernel) hc1 hF
  · refine s_rl (i := 0) (pc' := 8) (by decide +kernel) rfl ?_
    refine s_gR (t := 8) (j := 12) (pc' := 11) (by decide +kernel) h1 (fun v3 h2 => ?_); clear h1
    refine s_il (i := 3) (pc' := 12) (by decide +kernel) rfl ?_
    refine s_c (v := 0) (pc' := 13) (by decide +kernel) ?_
    refine kX5_setStart (X := 0) (Y := 0) (X' := 0) (Y' := 0) (pc' := 16) (by decide +kernel) hc0 rfl h2 (fun w4 c hc1 h3 => ?_); clear h2 hc0
    refine s_rl (i := 0) (pc' := 17) (by decide +kernel) rfl ?_
    refine s_gR (t := 8) (j := 4) (pc' := 20) (by decide +kernel) h3 (fun v5 h4 => ?_); clear h3
    refine s_gR (t := 0) (j := 6) (pc' := 23) (by decide +kernel) h4 (fun v6 h5 => ?_); clear h4
    refine s_il (i := 1) (pc' := 24) (by decide +kernel) rfl ?_
    refine s_il (i := 3) (pc' := 25) (by decide +kernel) rfl ?_
    refine s_a (ins := .iadd) (pc' := 26) (by decide +kernel) rfl ?_
    refine s_aal (t := 7) (pc' := 27) (by decide +kernel) h5 (fun v7 h6 => ?_); clear h5
    refine s_rs (i := 4) (pc' := 29) (L' := [some (.ref l0), some (.int l1), some (.int l2), some (.int l3), some (.ref v7), d5, d6]) (by decide +kernel) rfl rfl ?_
    refine s_c (v := 0) (pc' := 30) (by decide +kernel) ?_
    refine s_is (i := 5) (pc' := 32) (L' := [some (.ref l0), some (.int l1), some (.int l2), some (.int l3), some (.ref v7), some (.int 0), d6]) (by decide +kernel) rfl rfl ?_
    exact (vX10_findShotOrder_l32 hF (vX10_findShotOrder_b82 hF hk2) fu) hc1 h6
set_option maxRecDepth 100000 in
set_option maxHeartbeats 4000000 in
def fX10_findShotOrder_l2 (fu : Nat) (sh : HS) (R : HR) : Nat → HI → Nat → Int32 → Int32 → Int32 → Option HI
  | 0 => fun _ _ _ _ _ => none
  | n + 1 => fX10_findShotOrder_b2 fu sh R (fX10_findShotOrder_l2 fu sh R n)
set_option maxRecDepth 100000 in
set_option maxHeartbeats 4000000 in
theorem vX10_findShotOrder_l2 {K J : Nat → Nat} {fu : Nat} {sh : HS} {R : HR} {F : VF} {o : HI} (hF : F (.inl none) sh o R) : ∀ (n : Nat) {I : HI} {l0 : Nat} {l1 : Int32} {l2 : Int32} {l3 : Int32} {d4 d5 d6 : Option Value} {c : Nat × Nat} (_ : c.1 ≤ 0 ∧ c.2 ≤ 0) (_ : fX10_findShotOrder_l2 fu sh R n I l0 l1 l2 l3 = some o), V K J 138 2 [some (.ref l0), some (.int l1), some (.int l2), some (.int l3), d4, d5, d6] [] sh I R c F := by
  intro n
  induction n with
  | zero => exact fun _ h0 => nomatch h0
  | succ n ih => exact fun hc0 h0 => vX10_findShotOrder_b2 hF ih hc0 h0
set_option maxRecDepth 100000 in
set_option maxHeartbeats 4000000 in
def fX10_findShotOrder (fu : Nat) (sh : HS) (I : HI) (R : HR) (l0 : Nat) (l1 : Int32) (l2 : Int32) : Option HI :=
  if isT sh l0 8 = true then
    ((fX10_findShotOrder_l2 fu sh R fu) I l0 l1 l2 0)
  else none
set_option maxRecDepth 100000 in
set_option maxHeartbeats 4000000 in
theorem vX10_findShotOrder {K J : Nat → Nat} {fu : Nat} {sh : HS} {I : HI} {R : HR} {F : VF} {o : HI} (hF : F (.inl none) sh o R) {l0 : Nat} {l1 : Int32} {l2 : Int32} (h0 : fX10_findShotOrder fu sh I R l0 l1 l2 = some o) : V K J 138 0 (ent 7 [.ref l0, .int l1, .int l2]) [] sh I R (0, 0) F := by
  unfold fX10_findShotOrder at h0
  obtain ⟨-, h1⟩ := gd h0; clear h0
  have hc0 : ((0 : Nat), (0 : Nat)).1 ≤ 0 ∧ ((0 : Nat), (0 : Nat)).2 ≤ 0 := ⟨Nat.le_refl _, Nat.le_refl _⟩
  show V K J 138 0 [some (.ref l0), some (.int l1), some (.int l2), none, none, none, none] [] sh I R (0, 0) F
  refine s_c (v := 0) (pc' := 1) (by decide +kernel) ?_
  refine s_is (i := 3) (pc' := 2) (L' := [some (.ref l0), some (.int l1), some (.int l2), some (.int 0), none, none, none]) (by decide +kernel) rfl rfl ?_
  exact (vX10_findShotOrder_l2 hF fu) hc0 h1
set_option maxRecDepth 100000 in
set_option maxHeartbeats 4000000 in
theorem kX10_findShotOrder {K J : Nat → Nat} {fu : Nat} {sh : HS} {I : HI} {R : HR} {F : VF} {mi pc pc' X Y X' Y' : Nat} {L : VL} {rest : List Value} {c : Nat × Nat} {l0 : Nat} {l1 : Int32} {l2 : Int32} {ω : Type} {o : ω} {g : HI → Option ω} (hq : cQ mi pc 138 3 pc' X Y X' Y' = true) (hc : c.1 ≤ X ∧ c.2 ≤ Y) (hr : Nat.ble (catS rest) 8 = true) (h : (fX10_findShotOrder fu sh I R l0 l1 l2).bind g = some o) (kk : ∀ w c', (c'.1 ≤ X' ∧ c'.2 ≤ Y') → g w = some o → V K J mi pc' L (rest) sh w R c' F) : V K J mi pc L (.int l2 :: .int l1 :: .ref l0 :: rest) sh I R c F := by
  obtain ⟨r, h1, h2⟩ := bnd h
  have hT : isT sh l0 8 = true := by unfold fX10_findShotOrder at h1; exact (gd h1).1
  have ml : mL 138 = 7 := by decide +kernel
  have mk : mK 138 = 1 := by decide +kernel
  have mc : mC 138 = 8 := by decide +kernel
  refine s_call (as := [.int l2, .int l1, .ref l0]) (G := fun o' sh' I' R' => o' = .inl none ∧ sh' = sh ∧ I' = r ∧ R' = R) hq hc rfl hr (by rw [ml]; rfl) (Or.inl rfl) (fun _ => Or.inl ⟨by rw [mc]; decide, by rw [mc]; exact isT_iff.mp hT⟩) (fun z => absurd (mk.symm.trans z) (by decide)) (by rw [ml]; exact vX10_findShotOrder (F := fun o' sh' I' R' => o' = .inl none ∧ sh' = sh ∧ I' = r ∧ R' = R) ⟨rfl, rfl, rfl, rfl⟩ h1) ?_ ?_ ?_
  · rintro sh' I' R' c' hc' ⟨g1, rfl, rfl, rfl⟩
    cases g1
    exact kk _ _ hc' h2
  · rintro v' sh' I' R' c' hc' ⟨g1, rfl, rfl, rfl⟩
    cases g1
  · rintro E' sh' I' R' ⟨g1, rfl, rfl, rfl⟩
    cases g1
set_option maxRecDepth 100000 in
set_option maxHeartbeats 4000000 in
def fX10_bestShot (fu : Nat) (sh : HS) (I : HI) (R : HR) (l0 : Nat) (l1 : Int32) (l2 : Int32) : Option ((Int32 ⊕ String) × HI) :=
  if isT sh l0 8 = true then
    (oT0 (fX10_needBoard fu sh I R l0) (fun E => some (.inr E, I)) fun _ =>
    oT0 (fX10_needScene fu sh I R l0 l1) (fun E => some (.inr E, I)) fun _ =>
    if 0 ≤ l2 then
      ((oR sh R l0 8 4).bind fun v3 =>
      (fX0_shotsOfScene fu sh I R v3 l1).bind fun v4 =>
      if v4 ≤ 6 then
        (if l2 < v4 then
          ((oR sh R l0 8 4).bind fun v5 =>
          (fX0_firstShotOfScene fu sh I R v5 l1).bind fun v6 =>
          (fX10_findShotOrder fu sh I R l0 v6 v4).bind fun w7 =>
          (oR sh R l0 8 12).bind fun v8 =>
          (oR sh R v8 4 4).bind fun v9 =>
          (oA sh w7 v9 l2).bind fun v10 =>
          some (.inl (v6 + v10), w7))
        else
          (some (.inr "java/util/NoSuchElementException", I)))
      else
        (some (.inl (-2), I)))
    else
      (some (.inr "java/lang/IllegalArgumentException", I)))
  else none
set_option maxRecDepth 100000 in
set_option maxHeartbeats 4000000 in
theorem vX10_bestShot {K J : Nat → Nat} {fu : Nat} {sh : HS} {I : HI} {R : HR} {F : VF} {o : ((Int32 ⊕ String) × HI)} (hF : F (voI o.1) sh o.2 R) {l0 : Nat} {l1 : Int32} {l2 : Int32} (h0 : fX10_bestShot fu sh I R l0 l1 l2 = some o) : V K J 109 0 (ent 5 [.ref l0, .int l1, .int l2]) [] sh I R (0, 0) F := by
  unfold fX10_bestShot at h0
  obtain ⟨-, h1⟩ := gd h0; clear h0
  have hc0 : ((0 : Nat), (0 : Nat)).1 ≤ 0 ∧ ((0 : Nat), (0 : Nat)).2 ≤ 0 := ⟨Nat.le_refl _, Nat.le_refl _⟩
  show V K J 109 0 [some (.ref l0), some (.int l1), some (.int l2), none, none] [] sh I R (0, 0) F
  refine s_rl (i := 0) (pc' := 1) (by decide +kernel) rfl ?_
  refine kX10_needBoard (X := 0) (Y := 0) (X' := 1) (Y' := 6) (pc' := 4) (by decide +kernel) hc0 rfl h1 (fun v1 c hc1 h2 => ?_) (fun E h2 => by have e9 := Option.some.inj h2; subst e9; exact hF); clear h1 hc0
  refine s_rl (i := 0) (pc' := 5) (by decide +kernel) rfl ?_
  refine s_il (i := 1) (pc' := 6) (by decide +kernel) rfl ?_
  refine kX10_needScene (X := 1) (Y := 6) (X' := 2) (Y' := 12) (pc' := 9) (by decide +kernel) hc1 rfl h2 (fun v2 c hc2 h3 => ?_) (fun E h3 => by have e9 := Option.some.inj h3; subst e9; exact hF); clear h2 hc1
  refine s_il (i := 2) (pc' := 10) (by decide +kernel) rfl ?_
  refine s_if (ins := .ifCond .ge 14) (t := 24) (pc' := 13) (by decide +kernel) rfl rfl rfl h3 (fun p4 h4 => ?_) (fun p4 h4 => ?_) <;> clear h3
  · refine s_rl (i := 0) (pc' := 25) (by decide +kernel) rfl ?_
    refine s_gR (t := 8) (j := 4) (pc' := 28) (by decide +kernel) h4 (fun v3 h5 => ?_); clear h4
    refine s_il (i := 1) (pc' := 29) (by decide +kernel) rfl ?_
    refine kX0_shotsOfScene (X := 2) (Y := 12) (X' := 2) (Y' := 12) (pc' := 32) (by decide +kernel) hc2 rfl h5 (fun v4 c hc3 h6 => ?_); clear h5 hc2
    refine s_is (i := 3) (pc' := 33) (L' := [some (.ref l0), some (.int l1), some (.int l2), some (.int v4), none]) (by decide +kernel) rfl rfl ?_
    refine s_il (i := 3) (pc' := 34) (by decide +kernel) rfl ?_
    refine s_c (v := 6) (pc' := 36) (by decide +kernel) ?_
    refine s_if (ins := .if_icmp .le 6) (t := 42) (pc' := 39) (by decide +kernel) rfl rfl rfl h6 (fun p7 h7 => ?_) (fun p7 h7 => ?_) <;> clear h6
    · refine s_il (i := 2) (pc' := 43) (by decide +kernel) rfl ?_
      refine s_il (i := 3) (pc' := 44) (by decide +kernel) rfl ?_
      refine s_if (ins := .if_icmp .lt 14) (t := 58) (pc' := 47) (by decide +kernel) rfl rfl rfl h7 (fun p8 h8 => ?_) (fun p8 h8 => ?_) <;> clear h7
      · refine s_rl (i := 0) (pc' := 59) (by decide +kernel) rfl ?_
        refine s_gR (t := 8) (j := 4) (pc' := 62) (by decide +kernel) h8 (fun v5 h9 => ?_); clear h8
        refine s_il (i := 1) (pc' := 63) (by decide +kernel) rfl ?_
        refine kX0_firstShotOfScene (X := 2) (Y := 12) (X' := 2) (Y' := 12) (pc' := 66) (by decide +kernel) hc3 rfl h9 (fun v6 c hc4 h10 => ?_); clear h9 hc3
        refine s_is (i := 4) (pc' := 68) (L' := [some (.ref l0), some (.int l1), some (.int l2), some (.int v4), some (.int v6)]) (by decide +kernel) rfl rfl ?_
        refine s_rl (i := 0) (pc' := 69) (by decide +kernel) rfl ?_
        refine s_il (i := 4) (pc' := 71) (by decide +kernel) rfl ?_
        refine s_il (i := 3) (pc' := 72) (by decide +kernel) rfl ?_
        refine kX10_findShotOrder (X := 2) (Y := 12) (X' := 2) (Y' := 12) (pc' := 75) (by decide +kernel) hc4 rfl h10 (fun w7 c hc5 h11 => ?_); clear h10 hc4
        refine s_il (i := 4) (pc' := 77) (by decide +kernel) rfl ?_
        refine s_rl (i := 0) (pc' := 78) (by decide +kernel) rfl ?_
        refine s_gR (t := 8) (j := 12) (pc' := 81) (by decide +kernel) h11 (fun v8 h12 => ?_); clear h11
        refine s_gR (t := 4) (j := 4) (pc' := 84) (by decide +kernel) h12 (fun v9 h13 => ?_); clear h12
        refine s_il (i := 2) (pc' := 85) (by decide +kernel) rfl ?_
        refine s_al (pc' := 86) (by decide +kernel) h13 (fun v10 h14 => ?_); clear h13
        refine s_a (ins := .iadd) (pc' := 87) (by decide +kernel) rfl ?_
        have e9 := Option.some.inj h14; subst e9
        exact s_ri (X := 2) (Y := 12) (by decide +kernel) hc5 hF
      · have e9 := Option.some.inj h8; subst e9
        exact s_th (E := "java/util/NoSuchElementException") (X := 2) (Y := 12) (by decide +kernel) hc3 rfl hF
    · refine s_c (v := (-2)) (pc' := 41) (by decide +kernel) ?_
      have e9 := Option.some.inj h7; subst e9
      exact s_ri (X := 2) (Y := 12) (by decide +kernel) hc3 hF
  · have e9 := Option.some.inj h4; subst e9
    exact s_th (E := "java/lang/IllegalArgumentException") (X := 2) (Y := 12) (by decide +kernel) hc2 rfl hF
set_option maxRecDepth 100000 in
set_option maxHeartbeats 4000000 in
theorem kX10_bestShot {K J : Nat → Nat} {fu : Nat} {sh : HS} {I : HI} {R : HR} {F : VF} {mi pc pc' X Y X' Y' : Nat} {L : VL} {rest : List Value} {c : Nat × Nat} {l0 : Nat} {l1 : Int32} {l2 : Int32} {ω : Type} {o : ω} {e : String → HI → Option ω} {g : Int32 → HI → Option ω} (hq : cQ mi pc 109 3 pc' X Y X' Y' = true) (hc : c.1 ≤ X ∧ c.2 ≤ Y) (hr : Nat.ble (catS rest) 8 = true) (h : oTh (fX10_bestShot fu sh I R l0 l1 l2) e g = some o) (kk : ∀ v w c', (c'.1 ≤ X' ∧ c'.2 ≤ Y') → g v w = some o → V K J mi pc' L ((.int v) :: rest) sh w R c' F) (kx : ∀ E w, e E w = some o → F (.inr E) sh w R) : V K J mi pc L (.int l2 :: .int l1 :: .ref l0 :: rest) sh I R c F := by
  obtain ⟨r, h1, h2⟩ := bnd h
  have hT : isT sh l0 8 = true := by unfold fX10_bestShot at h1; exact (gd h1).1
  have ml : mL 109 = 5 := by decide +kernel
  have mk : mK 109 = 1 := by decide +kernel
  have mc : mC 109 = 8 := by decide +kernel
  obtain ⟨r, w⟩ := r
  rcases r with v | E
  · refine s_call (as := [.int l2, .int l1, .ref l0]) (G := fun o' sh' I' R' => o' = .inl (some (.int v)) ∧ sh' = sh ∧ I' = w ∧ R' = R) hq hc rfl hr (by rw [ml]; rfl) (Or.inl rfl) (fun _ => Or.inl ⟨by rw [mc]; decide, by rw [mc]; exact isT_iff.mp hT⟩) (fun z => absurd (mk.symm.trans z) (by decide)) (by rw [ml]; exact vX10_bestShot (F := fun o' sh' I' R' => o' = .inl (some (.int v)) ∧ sh' = sh ∧ I' = w ∧ R' = R) ⟨rfl, rfl, rfl, rfl⟩ h1) ?_ ?_ ?_
    · rintro sh' I' R' c' hc' ⟨g1, rfl, rfl, rfl⟩
      cases g1
    · rintro v' sh' I' R' c' hc' ⟨g1, rfl, rfl, rfl⟩
      cases g1
      exact kk _ _ _ hc' h2
    · rintro E' sh' I' R' ⟨g1, rfl, rfl, rfl⟩
      cases g1
  · refine s_call (as := [.int l2, .int l1, .ref l0]) (G := fun o' sh' I' R' => o' = .inr E ∧ sh' = sh ∧ I' = w ∧ R' = R) hq hc rfl hr (by rw [ml]; rfl) (Or.inl rfl) (fun _ => Or.inl ⟨by rw [mc]; decide, by rw [mc]; exact isT_iff.mp hT⟩) (fun z => absurd (mk.symm.trans z) (by decide)) (by rw [ml]; exact vX10_bestShot (F := fun o' sh' I' R' => o' = .inr E ∧ sh' = sh ∧ I' = w ∧ R' = R) ⟨rfl, rfl, rfl, rfl⟩ h1) ?_ ?_ ?_
    · rintro sh' I' R' c' hc' ⟨g1, rfl, rfl, rfl⟩
      cases g1
    · rintro v' sh' I' R' c' hc' ⟨g1, rfl, rfl, rfl⟩
      cases g1
    · rintro E' sh' I' R' ⟨g1, rfl, rfl, rfl⟩
      cases g1
      exact kx _ _ h2
set_option maxRecDepth 100000 in
set_option maxHeartbeats 4000000 in
def fX10_setups (fu : Nat) (sh : HS) (I : HI) (R : HR) (l0 : Nat) : Option ((Int32 ⊕ String) × HI) :=
  if isT sh l0 8 = true then
    (oT0 (fX10_needBoard fu sh I R l0) (fun E => some (.inr E, I)) fun _ =>
    (fX10_settleSetups fu sh I R l0).bind fun w2 =>
    (oR sh R l0 8 8).bind fun v3 =>
    (oI sh w2 v3 6 0).bind fun v4 =>
    some (.inl v4, w2))
  else none
set_option maxRecDepth 100000 in
set_option maxHeartbeats 4000000 in
theorem vX10_setups {K J : Nat → Nat} {fu : Nat} {sh : HS} {I : HI} {R : HR} {F : VF} {o : ((Int32 ⊕ String) × HI)} (hF : F (voI o.1) sh o.2 R) {l0 : Nat} (h0 : fX10_setups fu sh I R l0 = some o) : V K J 110 0 (ent 1 [.ref l0]) [] sh I R (0, 0) F := by
  unfold fX10_setups at h0
  obtain ⟨-, h1⟩ := gd h0; clear h0
  have hc0 : ((0 : Nat), (0 : Nat)).1 ≤ 0 ∧ ((0 : Nat), (0 : Nat)).2 ≤ 0 := ⟨Nat.le_refl _, Nat.le_refl _⟩
  show V K J 110 0 [some (.ref l0)] [] sh I R (0, 0) F
  refine s_rl (i := 0) (pc' := 1) (by decide +kernel) rfl ?_
  refine kX10_needBoard (X := 0) (Y := 0) (X' := 1) (Y' := 6) (pc' := 4) (by decide +kernel) hc0 rfl h1 (fun v1 c hc1 h2 => ?_) (fun E h2 => by have e9 := Option.some.inj h2; subst e9; exact hF); clear h1 hc0
  refine s_rl (i := 0) (pc' := 5) (by decide +kernel) rfl ?_
  refine kX10_settleSetups (X := 1) (Y := 6) (X' := 1) (Y' := 6) (pc' := 8) (by decide +kernel) hc1 rfl h2 (fun w2 c hc2 h3 => ?_); clear h2 hc1
  refine s_rl (i := 0) (pc' := 9) (by decide +kernel) rfl ?_
  refine s_gR (t := 8) (j := 8) (pc' := 12) (by decide +kernel) h3 (fun v3 h4 => ?_); clear h3
  refine s_gI (t := 6) (j := 0) (ty := 0) (pc' := 15) (by decide +kernel) rfl h4 (fun v4 h5 => ?_); clear h4
  have e9 := Option.some.inj h5; subst e9
  exact s_ri (X := 1) (Y := 6) (by decide +kernel) hc2 hF
set_option maxRecDepth 100000 in
set_option maxHeartbeats 4000000 in
theorem kX10_setups {K J : Nat → Nat} {fu : Nat} {sh : HS} {I : HI} {R : HR} {F : VF} {mi pc pc' X Y X' Y' : Nat} {L : VL} {rest : List Value} {c : Nat × Nat} {l0 : Nat} {ω : Type} {o : ω} {e : String → HI → Option ω} {g : Int32 → HI → Option ω} (hq : cQ mi pc 110 1 pc' X Y X' Y' = true) (hc : c.1 ≤ X ∧ c.2 ≤ Y) (hr : Nat.ble (catS rest) 8 = true) (h : oTh (fX10_setups fu sh I R l0) e g = some o) (kk : ∀ v w c', (c'.1 ≤ X' ∧ c'.2 ≤ Y') → g v w = some o → V K J mi pc' L ((.int v) :: rest) sh w R c' F) (kx : ∀ E w, e E w = some o → F (.inr E) sh w R) : V K J mi pc L (.ref l0 :: rest) sh I R c F := by
  obtain ⟨r, h1, h2⟩ := bnd h
  have hT : isT sh l0 8 = true := by unfold fX10_setups at h1; exact (gd h1).1
  have ml : mL 110 = 1 := by decide +kernel
  have mk : mK 110 = 1 := by decide +kernel
  have mc : mC 110 = 8 := by decide +kernel
  obtain ⟨r, w⟩ := r
  rcases r with v | E
  · refine s_call (as := [.ref l0]) (G := fun o' sh' I' R' => o' = .inl (some (.int v)) ∧ sh' = sh ∧ I' = w ∧ R' = R) hq hc rfl hr (by rw [ml]; rfl) (Or.inl rfl) (fun _ => Or.inl ⟨by rw [mc]; decide, by rw [mc]; exact isT_iff.mp hT⟩) (fun z => absurd (mk.symm.trans z) (by decide)) (by rw [ml]; exact vX10_setups (F := fun o' sh' I' R' => o' = .inl (some (.int v)) ∧ sh' = sh ∧ I' = w ∧ R' = R) ⟨rfl, rfl, rfl, rfl⟩ h1) ?_ ?_ ?_
    · rintro sh' I' R' c' hc' ⟨g1, rfl, rfl, rfl⟩
      cases g1
    · rintro v' sh' I' R' c' hc' ⟨g1, rfl, rfl, rfl⟩
      cases g1
      exact kk _ _ _ hc' h2
    · rintro E' sh' I' R' ⟨g1, rfl, rfl, rfl⟩
      cases g1
  · refine s_call (as := [.ref l0]) (G := fun o' sh' I' R' => o' = .inr E ∧ sh' = sh ∧ I' = w ∧ R' = R) hq hc rfl hr (by rw [ml]; rfl) (Or.inl rfl) (fun _ => Or.inl ⟨by rw [mc]; decide, by rw [mc]; exact isT_iff.mp hT⟩) (fun z => absurd (mk.symm.trans z) (by decide)) (by rw [ml]; exact vX10_setups (F := fun o' sh' I' R' => o' = .inr E ∧ sh' = sh ∧ I' = w ∧ R' = R) ⟨rfl, rfl, rfl, rfl⟩ h1) ?_ ?_ ?_
    · rintro sh' I' R' c' hc' ⟨g1, rfl, rfl, rfl⟩
      cases g1
    · rintro v' sh' I' R' c' hc' ⟨g1, rfl, rfl, rfl⟩
      cases g1
    · rintro E' sh' I' R' ⟨g1, rfl, rfl, rfl⟩
      cases g1
      exact kx _ _ h2
set_option maxRecDepth 100000 in
set_option maxHeartbeats 4000000 in
def fX10_setupOf (fu : Nat) (sh : HS) (I : HI) (R : HR) (l0 : Nat) (l1 : Int32) : Option ((Int32 ⊕ String) × HI) :=
  if isT sh l0 8 = true then
    (oT0 (fX10_needBoard fu sh I R l0) (fun E => some (.inr E, I)) fun _ =>
    oT0 (fX10_needShot fu sh I R l0 l1) (fun E => some (.inr E, I)) fun _ =>
    (fX10_settleSetups fu sh I R l0).bind fun w3 =>
    (oR sh R l0 8 8).bind fun v4 =>
    (oR sh R v4 6 1).bind fun v5 =>
    (oA sh w3 v5 l1).bind fun v6 =>
    some (.inl v6, w3))
  else none
set_option maxRecDepth 100000 in
set_option maxHeartbeats 4000000 in
theorem vX10_setupOf {K J : Nat → Nat} {fu : Nat} {sh : HS} {I : HI} {R : HR} {F : VF} {o : ((Int32 ⊕ String) × HI)} (hF : F (voI o.1) sh o.2 R) {l0 : Nat} {l1 : Int32} (h0 : fX10_setupOf fu sh I R l0 l1 = some o) : V K J 111 0 (ent 2 [.ref l0, .int l1]) [] sh I R (0, 0) F := by
  unfold fX10_setupOf at h0
  obtain ⟨-, h1⟩ := gd h0; clear h0
  have hc0 : ((0 : Nat), (0 : Nat)).1 ≤ 0 ∧ ((0 : Nat), (0 : Nat)).2 ≤ 0 := ⟨Nat.le_refl _, Nat.le_refl _⟩
  show V K J 111 0 [some (.ref l0), some (.int l1)] [] sh I R (0, 0) F
  refine s_rl (i := 0) (pc' := 1) (by decide +kernel) rfl ?_
  refine kX10_needBoard (X := 0) (Y := 0) (X' := 1) (Y' := 6) (pc' := 4) (by decide +kernel) hc0 rfl h1 (fun v1 c hc1 h2 => ?_) (fun E h2 => by have e9 := Option.some.inj h2; subst e9; exact hF); clear h1 hc0
  refine s_rl (i := 0) (pc' := 5) (by decide +kernel) rfl ?_
  refine s_il (i := 1) (pc' := 6) (by decide +kernel) rfl ?_
  refine kX10_needShot (X := 1) (Y := 6) (X' := 2) (Y' := 12) (pc' := 9) (by decide +kernel) hc1 rfl h2 (fun v2 c hc2 h3 => ?_) (fun E h3 => by have e9 := Option.some.inj h3; subst e9; exact hF); clear h2 hc1
  refine s_rl (i := 0) (pc' := 10) (by decide +kernel) rfl ?_
  refine kX10_settleSetups (X := 2) (Y := 12) (X' := 2) (Y' := 12) (pc' := 13) (by decide +kernel) hc2 rfl h3 (fun w3 c hc3 h4 => ?_); clear h3 hc2
  refine s_rl (i := 0) (pc' := 14) (by decide +kernel) rfl ?_
  refine s_gR (t := 8) (j := 8) (pc' := 17) (by decide +kernel) h4 (fun v4 h5 => ?_); clear h4
  refine s_gR (t := 6) (j := 1) (pc' := 20) (by decide +kernel) h5 (fun v5 h6 => ?_); clear h5
  refine s_il (i := 1) (pc' := 21) (by decide +kernel) rfl ?_
  refine s_al (pc' := 22) (by decide +kernel) h6 (fun v6 h7 => ?_); clear h6
  have e9 := Option.some.inj h7; subst e9
  exact s_ri (X := 2) (Y := 12) (by decide +kernel) hc3 hF
set_option maxRecDepth 100000 in
set_option maxHeartbeats 4000000 in
theorem kX10_setupOf {K J : Nat → Nat} {fu : Nat} {sh : HS} {I : HI} {R : HR} {F : VF} {mi pc pc' X Y X' Y' : Nat} {L : VL} {rest : List Value} {c : Nat × Nat} {l0 : Nat} {l1 : Int32} {ω : Type} {o : ω} {e : String → HI → Option ω} {g : Int32 → HI → Option ω} (hq : cQ mi pc 111 2 pc' X Y X' Y' = true) (hc : c.1 ≤ X ∧ c.2 ≤ Y) (hr : Nat.ble (catS rest) 8 = true) (h : oTh (fX10_setupOf fu sh I R l0 l1) e g = some o) (kk : ∀ v w c', (c'.1 ≤ X' ∧ c'.2 ≤ Y') → g v w = some o → V K J mi pc' L ((.int v) :: rest) sh w R c' F) (kx : ∀ E w, e E w = some o → F (.inr E) sh w R) : V K J mi pc L (.int l1 :: .ref l0 :: rest) sh I R c F := by
  obtain ⟨r, h1, h2⟩ := bnd h
  have hT : isT sh l0 8 = true := by unfold fX10_setupOf at h1; exact (gd h1).1
  have ml : mL 111 = 2 := by decide +kernel
  have mk : mK 111 = 1 := by decide +kernel
  have mc : mC 111 = 8 := by decide +kernel
  obtain ⟨r, w⟩ := r
  rcases r with v | E
  · refine s_call (as := [.int l1, .ref l0]) (G := fun o' sh' I' R' => o' = .inl (some (.int v)) ∧ sh' = sh ∧ I' = w ∧ R' = R) hq hc rfl hr (by rw [ml]; rfl) (Or.inl rfl) (fun _ => Or.inl ⟨by rw [mc]; decide, by rw [mc]; exact isT_iff.mp hT⟩) (fun z => absurd (mk.symm.trans z) (by decide)) (by rw [ml]; exact vX10_setupOf (F := fun o' sh' I' R' => o' = .inl (some (.int v)) ∧ sh' = sh ∧ I' = w ∧ R' = R) ⟨rfl, rfl, rfl, rfl⟩ h1) ?_ ?_ ?_
    · rintro sh' I' R' c' hc' ⟨g1, rfl, rfl, rfl⟩
      cases g1
    · rintro v' sh' I' R' c' hc' ⟨g1, rfl, rfl, rfl⟩
      cases g1
      exact kk _ _ _ hc' h2
    · rintro E' sh' I' R' ⟨g1, rfl, rfl, rfl⟩
      cases g1
  · refine s_call (as := [.int l1, .ref l0]) (G := fun o' sh' I' R' => o' = .inr E ∧ sh' = sh ∧ I' = w ∧ R' = R) hq hc rfl hr (by rw [ml]; rfl) (Or.inl rfl) (fun _ => Or.inl ⟨by rw [mc]; decide, by rw [mc]; exact isT_iff.mp hT⟩) (fun z => absurd (mk.symm.trans z) (by decide)) (by rw [ml]; exact vX10_setupOf (F := fun o' sh' I' R' => o' = .inr E ∧ sh' = sh ∧ I' = w ∧ R' = R) ⟨rfl, rfl, rfl, rfl⟩ h1) ?_ ?_ ?_
    · rintro sh' I' R' c' hc' ⟨g1, rfl, rfl, rfl⟩
      cases g1
    · rintro v' sh' I' R' c' hc' ⟨g1, rfl, rfl, rfl⟩
      cases g1
    · rintro E' sh' I' R' ⟨g1, rfl, rfl, rfl⟩
      cases g1
      exact kx _ _ h2
set_option maxRecDepth 100000 in
set_option maxHeartbeats 4000000 in
def fX10_setup (fu : Nat) (sh : HS) (I : HI) (R : HR) (l0 : Nat) (l1 : Int32) (l2 : Int32) : Option ((Int32 ⊕ String) × HI) :=
  if isT sh l0 8 = true then
    (oT0 (fX10_needBoard fu sh I R l0) (fun E => some (.inr E, I)) fun _ =>
    oTh (fX10_needSetup fu sh I R l0 l1) (fun E w2 => some (.inr E, w2)) fun _ w2 =>
    oT0 (fX10_needRange fu sh w2 R l2 0 4) (fun E => some (.inr E, w2)) fun _ =>
    if l2 = 0 then
      ((oR sh R l0 8 8).bind fun v4 =>
      (oR sh R v4 6 2).bind fun v5 =>
      (oA sh w2 v5 l1).bind fun v6 =>
      some (.inl v6, w2))
    else
      if l2 = 1 then
        ((oR sh R l0 8 8).bind fun v7 =>
        (oR sh R v7 6 3).bind fun v8 =>
        (oA sh w2 v8 l1).bind fun v9 =>
        some (.inl v9, w2))
      else
        if l2 = 2 then
          ((oR sh R l0 8 8).bind fun v10 =>
          (oR sh R v10 6 4).bind fun v11 =>
          (oA sh w2 v11 l1).bind fun v12 =>
          some (.inl v12, w2))
        else
          if l2 = 3 then
            ((oR sh R l0 8 8).bind fun v13 =>
            (oR sh R v13 6 5).bind fun v14 =>
            (oA sh w2 v14 l1).bind fun v15 =>
            some (.inl v15, w2))
          else
            (oR sh R l0 8 8).bind fun v16 =>
            (oR sh R v16 6 6).bind fun v17 =>
            (oA sh w2 v17 l1).bind fun v18 =>
            some (.inl v18, w2))
  else none
set_option maxRecDepth 100000 in
set_option maxHeartbeats 4000000 in
theorem vX10_setup {K J : Nat → Nat} {fu : Nat} {sh : HS} {I : HI} {R : HR} {F : VF} {o : ((Int32 ⊕ String) × HI)} (hF : F (voI o.1) sh o.2 R) {l0 : Nat} {l1 : Int32} {l2 : Int32} (h0 : fX10_setup fu sh I R l0 l1 l2 = some o) : V K J 112 0 (ent 3 [.ref l0, .int l1, .int l2]) [] sh I R (0, 0) F := by
  unfold fX10_setup at h0
  obtain ⟨-, h1⟩ := gd h0; clear h0
  have hc0 : ((0 : Nat), (0 : Nat)).1 ≤ 0 ∧ ((0 : Nat), (0 : Nat)).2 ≤ 0 := ⟨Nat.le_refl _, Nat.le_refl _⟩
  show V K J 112 0 [some (.ref l0), some (.int l1), some (.int l2)] [] sh I R (0, 0) F
  refine s_rl (i := 0) (pc' := 1) (by decide +kernel) rfl ?_
  refine kX10_needBoard (X := 0) (Y := 0) (X' := 1) (Y' := 6) (pc' := 4) (by decide +kernel) hc0 rfl h1 (fun v1 c hc1 h2 => ?_) (fun E h2 => by have e9 := Option.some.inj h2; subst e9; exact hF); clear h1 hc0
  refine s_rl (i := 0) (pc' := 5) (by decide +kernel) rfl ?_
  refine s_il (i := 1) (pc' := 6) (by decide +kernel) rfl ?_
  refine kX10_needSetup (X := 1) (Y := 6) (X' := 2) (Y' := 12) (pc' := 9) (by decide +kernel) hc1 rfl h2 (fun v2 w2 c hc2 h3 => ?_) (fun E w2 h3 => by have e9 := Option.some.inj h3; subst e9; exact hF); clear h2 hc1
  refine s_il (i := 2) (pc' := 10) (by decide +kernel) rfl ?_
  refine s_c (v := 0) (pc' := 11) (by decide +kernel) ?_
  refine s_c (v := 4) (pc' := 12) (by decide +kernel) ?_
  refine kX10_needRange (X := 2) (Y := 12) (X' := 3) (Y' := 18) (pc' := 15) (by decide +kernel) hc2 rfl h3 (fun v3 c hc3 h4 => ?_) (fun E h4 => by have e9 := Option.some.inj h4; subst e9; exact hF); clear h3 hc2
  refine s_il (i := 2) (pc' := 16) (by decide +kernel) rfl ?_
  by_cases e0 : l2 = 0
  · have h5 := h4
    rw [if_pos e0] at h5
    clear h4
    refine s_sw (v := 0) (t := 48) e0 (by decide +kernel) ?_
    refine s_rl (i := 0) (pc' := 49) (by decide +kernel) rfl ?_
    refine s_gR (t := 8) (j := 8) (pc' := 52) (by decide +kernel) h5 (fun v4 h6 => ?_); clear h5
    refine s_gR (t := 6) (j := 2) (pc' := 55) (by decide +kernel) h6 (fun v5 h7 => ?_); clear h6
    refine s_il (i := 1) (pc' := 56) (by decide +kernel) rfl ?_
    refine s_al (pc' := 57) (by decide +kernel) h7 (fun v6 h8 => ?_); clear h7
    have e9 := Option.some.inj h8; subst e9
    exact s_ri (X := 3) (Y := 18) (by decide +kernel) hc3 hF
  rw [if_neg e0] at h4
  by_cases e1 : l2 = 1
  · have h5 := h4
    rw [if_pos e1] at h5
    clear h4
    refine s_sw (v := 1) (t := 58) e1 (by decide +kernel) ?_
    refine s_rl (i := 0) (pc' := 59) (by decide +kernel) rfl ?_
    refine s_gR (t := 8) (j := 8) (pc' := 62) (by decide +kernel) h5 (fun v7 h6 => ?_); clear h5
    refine s_gR (t := 6) (j := 3) (pc' := 65) (by decide +kernel) h6 (fun v8 h7 => ?_); clear h6
    refine s_il (i := 1) (pc' := 66) (by decide +kernel) rfl ?_
    refine s_al (pc' := 67) (by decide +kernel) h7 (fun v9 h8 => ?_); clear h7
    have e9 := Option.some.inj h8; subst e9
    exact s_ri (X := 3) (Y := 18) (by decide +kernel) hc3 hF
  rw [if_neg e1] at h4
  by_cases e2 : l2 = 2
  · have h5 := h4
    rw [if_pos e2] at h5
    clear h4
    refine s_sw (v := 2) (t := 68) e2 (by decide +kernel) ?_
    refine s_rl (i := 0) (pc' := 69) (by decide +kernel) rfl ?_
    refine s_gR (t := 8) (j := 8) (pc' := 72) (by decide +kernel) h5 (fun v10 h6 => ?_); clear h5
    refine s_gR (t := 6) (j := 4) (pc' := 75) (by decide +kernel) h6 (fun v11 h7 => ?_); clear h6
    refine s_il (i := 1) (pc' := 76) (by decide +kernel) rfl ?_
    refine s_al (pc' := 77) (by decide +kernel) h7 (fun v12 h8 => ?_); clear h7
    have e9 := Option.some.inj h8; subst e9
    exact s_ri (X := 3) (Y := 18) (by decide +kernel) hc3 hF
  rw [if_neg e2] at h4
  by_cases e3 : l2 = 3
  · have h5 := h4
    rw [if_pos e3] at h5
    clear h4
    refine s_sw (v := 3) (t := 78) e3 (by decide +kernel) ?_
    refine s_rl (i := 0) (pc' := 79) (by decide +kernel) rfl ?_
    refine s_gR (t := 8) (j := 8) (pc' := 82) (by decide +kernel) h5 (fun v13 h6 => ?_); clear h5
    refine s_gR (t := 6) (j := 5) (pc' := 85) (by decide +kernel) h6 (fun v14 h7 => ?_); clear h6
    refine s_il (i := 1) (pc' := 86) (by decide +kernel) rfl ?_
    refine s_al (pc' := 87) (by decide +kernel) h7 (fun v15 h8 => ?_); clear h7
    have e9 := Option.some.inj h8; subst e9
    exact s_ri (X := 3) (Y := 18) (by decide +kernel) hc3 hF
  rw [if_neg e3] at h4
  refine s_sd (n := 4) (t := 88) (sw_out4 e0 e1 e2 e3) (by decide +kernel) ?_
  refine s_rl (i := 0) (pc' := 89) (by decide +kernel) rfl ?_
  refine s_gR (t := 8) (j := 8) (pc' := 92) (by decide +kernel) h4 (fun v16 h5 => ?_); clear h4
  refine s_gR (t := 6) (j := 6) (pc' := 95) (by decide +kernel) h5 (fun v17 h6 => ?_); clear h5
  refine s_il (i := 1) (pc' := 96) (by decide +kernel) rfl ?_
  refine s_al (pc' := 97) (by decide +kernel) h6 (fun v18 h7 => ?_); clear h6
  have e9 := Option.some.inj h7; subst e9
  exact s_ri (X := 3) (Y := 18) (by decide +kernel) hc3 hF
set_option maxRecDepth 100000 in
set_option maxHeartbeats 4000000 in
theorem kX10_setup {K J : Nat → Nat} {fu : Nat} {sh : HS} {I : HI} {R : HR} {F : VF} {mi pc pc' X Y X' Y' : Nat} {L : VL} {rest : List Value} {c : Nat × Nat} {l0 : Nat} {l1 : Int32} {l2 : Int32} {ω : Type} {o : ω} {e : String → HI → Option ω} {g : Int32 → HI → Option ω} (hq : cQ mi pc 112 3 pc' X Y X' Y' = true) (hc : c.1 ≤ X ∧ c.2 ≤ Y) (hr : Nat.ble (catS rest) 8 = true) (h : oTh (fX10_setup fu sh I R l0 l1 l2) e g = some o) (kk : ∀ v w c', (c'.1 ≤ X' ∧ c'.2 ≤ Y') → g v w = some o → V K J mi pc' L ((.int v) :: rest) sh w R c' F) (kx : ∀ E w, e E w = some o → F (.inr E) sh w R) : V K J mi pc L (.int l2 :: .int l1 :: .ref l0 :: rest) sh I R c F := by
  obtain ⟨r, h1, h2⟩ := bnd h
  have hT : isT sh l0 8 = true := by unfold fX10_setup at h1; exact (gd h1).1
  have ml : mL 112 = 3 := by decide +kernel
  have mk : mK 112 = 1 := by decide +kernel
  have mc : mC 112 = 8 := by decide +kernel
  obtain ⟨r, w⟩ := r
  rcases r with v | E
  · refine s_call (as := [.int l2, .int l1, .ref l0]) (G := fun o' sh' I' R' => o' = .inl (some (.int v)) ∧ sh' = sh ∧ I' = w ∧ R' = R) hq hc rfl hr (by rw [ml]; rfl) (Or.inl rfl) (fun _ => Or.inl ⟨by rw [mc]; decide, by rw [mc]; exact isT_iff.mp hT⟩) (fun z => absurd (mk.symm.trans z) (by decide)) (by rw [ml]; exact vX10_setup (F := fun o' sh' I' R' => o' = .inl (some (.int v)) ∧ sh' = sh ∧ I' = w ∧ R' = R) ⟨rfl, rfl, rfl, rfl⟩ h1) ?_ ?_ ?_
    · rintro sh' I' R' c' hc' ⟨g1, rfl, rfl, rfl⟩
      cases g1
    · rintro v' sh' I' R' c' hc' ⟨g1, rfl, rfl, rfl⟩
      cases g1
      exact kk _ _ _ hc' h2
    · rintro E' sh' I' R' ⟨g1, rfl, rfl, rfl⟩
      cases g1
  · refine s_call (as := [.int l2, .int l1, .ref l0]) (G := fun o' sh' I' R' => o' = .inr E ∧ sh' = sh ∧ I' = w ∧ R' = R) hq hc rfl hr (by rw [ml]; rfl) (Or.inl rfl) (fun _ => Or.inl ⟨by rw [mc]; decide, by rw [mc]; exact isT_iff.mp hT⟩) (fun z => absurd (mk.symm.trans z) (by decide)) (by rw [ml]; exact vX10_setup (F := fun o' sh' I' R' => o' = .inr E ∧ sh' = sh ∧ I' = w ∧ R' = R) ⟨rfl, rfl, rfl, rfl⟩ h1) ?_ ?_ ?_
    · rintro sh' I' R' c' hc' ⟨g1, rfl, rfl, rfl⟩
      cases g1
    · rintro v' sh' I' R' c' hc' ⟨g1, rfl, rfl, rfl⟩
      cases g1
    · rintro E' sh' I' R' ⟨g1, rfl, rfl, rfl⟩
      cases g1
      exact kx _ _ h2
