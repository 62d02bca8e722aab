/-! methods 3 (printed by wip/whole/gen3.py) -/
set_option maxRecDepth 100000 in
set_option maxHeartbeats 4000000 in
def fX10_isNear (fu : Nat) (sh : HS) (I : HI) (R : HR) (l0 : Nat) (l1 : Int32) (l2 : Int32) : Option (Int32 ⊕ String) :=
  if isT sh l0 8 = true then
    (oT0 (fX10_needBoard fu sh I R l0) (fun E => some (.inr E)) fun _ =>
    oT0 (fX10_needShot fu sh I R l0 l1) (fun E => some (.inr E)) fun _ =>
    oT0 (fX10_needShot fu sh I R l0 l2) (fun E => some (.inr E)) fun _ =>
    (oR sh R l0 8 4).bind fun v4 =>
    (oR sh R l0 8 4).bind fun v5 =>
    (oR sh R v5 0 6).bind fun v6 =>
    (oB sh R v6 7 l1).bind fun v7 =>
    (oR sh R l0 8 4).bind fun v8 =>
    (oR sh R v8 0 6).bind fun v9 =>
    (oB sh R v9 7 l2).bind fun v10 =>
    (oR sh R l0 8 4).bind fun v11 =>
    (oI sh I v11 0 0).bind fun v12 =>
    (fX9_areNear fu sh I R v4 v7 v10 v12).bind fun v13 =>
    (oZ v13).bind fun z14 =>
    some (.inl z14))
  else none
set_option maxRecDepth 100000 in
set_option maxHeartbeats 4000000 in
theorem vX10_isNear {K J : Nat → Nat} {fu : Nat} {sh : HS} {I : HI} {R : HR} {F : VF} {o : (Int32 ⊕ String)} (hF : F (voI o) sh I R) {l0 : Nat} {l1 : Int32} {l2 : Int32} (h0 : fX10_isNear fu sh I R l0 l1 l2 = some o) : V K J 85 0 (ent 3 [.ref l0, .int l1, .int l2]) [] sh I R (0, 0) F := by
  unfold fX10_isNear at h0
  obtain ⟨-, h1⟩ := gd h0; clear h0
  have hc0 : ((0 : Nat), (0 : Nat)).1 ≤ 0 ∧ ((0 : Nat), (0 : Nat)).2 ≤ 0 := ⟨Nat.le_refl _, Nat.le_refl _⟩
  show V K J 85 0 [some (.ref l0), some (.int l1), some (.int l2)] [] sh I R (0, 0) F
  refine s_rl (i := 0) (pc' := 1) (by decide +kernel) rfl ?_
  refine kX10_needBoard (X := 0) (Y := 0) (X' := 1) (Y' := 6) (pc' := 4) (by decide +kernel) hc0 rfl h1 (fun v1 c hc1 h2 => ?_) (fun E h2 => by have e9 := Option.some.inj h2; subst e9; exact hF); clear h1 hc0
  refine s_rl (i := 0) (pc' := 5) (by decide +kernel) rfl ?_
  refine s_il (i := 1) (pc' := 6) (by decide +kernel) rfl ?_
  refine kX10_needShot (X := 1) (Y := 6) (X' := 2) (Y' := 12) (pc' := 9) (by decide +kernel) hc1 rfl h2 (fun v2 c hc2 h3 => ?_) (fun E h3 => by have e9 := Option.some.inj h3; subst e9; exact hF); clear h2 hc1
  refine s_rl (i := 0) (pc' := 10) (by decide +kernel) rfl ?_
  refine s_il (i := 2) (pc' := 11) (by decide +kernel) rfl ?_
  refine kX10_needShot (X := 2) (Y := 12) (X' := 3) (Y' := 18) (pc' := 14) (by decide +kernel) hc2 rfl h3 (fun v3 c hc3 h4 => ?_) (fun E h4 => by have e9 := Option.some.inj h4; subst e9; exact hF); clear h3 hc2
  refine s_rl (i := 0) (pc' := 15) (by decide +kernel) rfl ?_
  refine s_gR (t := 8) (j := 4) (pc' := 18) (by decide +kernel) h4 (fun v4 h5 => ?_); clear h4
  refine s_rl (i := 0) (pc' := 19) (by decide +kernel) rfl ?_
  refine s_gR (t := 8) (j := 4) (pc' := 22) (by decide +kernel) h5 (fun v5 h6 => ?_); clear h5
  refine s_gR (t := 0) (j := 6) (pc' := 25) (by decide +kernel) h6 (fun v6 h7 => ?_); clear h6
  refine s_il (i := 1) (pc' := 26) (by decide +kernel) rfl ?_
  refine s_aal (t := 7) (pc' := 27) (by decide +kernel) h7 (fun v7 h8 => ?_); clear h7
  refine s_rl (i := 0) (pc' := 28) (by decide +kernel) rfl ?_
  refine s_gR (t := 8) (j := 4) (pc' := 31) (by decide +kernel) h8 (fun v8 h9 => ?_); clear h8
  refine s_gR (t := 0) (j := 6) (pc' := 34) (by decide +kernel) h9 (fun v9 h10 => ?_); clear h9
  refine s_il (i := 2) (pc' := 35) (by decide +kernel) rfl ?_
  refine s_aal (t := 7) (pc' := 36) (by decide +kernel) h10 (fun v10 h11 => ?_); clear h10
  refine s_rl (i := 0) (pc' := 37) (by decide +kernel) rfl ?_
  refine s_gR (t := 8) (j := 4) (pc' := 40) (by decide +kernel) h11 (fun v11 h12 => ?_); clear h11
  refine s_gI (t := 0) (j := 0) (ty := 0) (pc' := 43) (by decide +kernel) rfl h12 (fun v12 h13 => ?_); clear h12
  refine kX9_areNear (X := 3) (Y := 18) (X' := 3) (Y' := 18) (pc' := 46) (by decide +kernel) hc3 rfl h13 (fun v13 c hc4 h14 => ?_); clear h13 hc3
  obtain ⟨hz, h15⟩ := oZb h14
  have e9 := Option.some.inj h15; subst e9
  exact s_rz (X := 3) (Y := 18) (by decide +kernel) hz hc4 hF
set_option maxRecDepth 100000 in
set_option maxHeartbeats 4000000 in
theorem kX10_isNear {K J : Nat → Nat} {fu : Nat} {sh : HS} {I : HI} {R : HR} {F : VF} {mi pc pc' X Y X' Y' : Nat} {L : VL} {rest : List Value} {c : Nat × Nat} {l0 : Nat} {l1 : Int32} {l2 : Int32} {ω : Type} {o : ω} {e : String → Option ω} {g : Int32 → Option ω} (hq : cQ mi pc 85 3 pc' X Y X' Y' = true) (hc : c.1 ≤ X ∧ c.2 ≤ Y) (hr : Nat.ble (catS rest) 8 = true) (h : oT0 (fX10_isNear fu sh I R l0 l1 l2) e g = some o) (kk : ∀ v c', (c'.1 ≤ X' ∧ c'.2 ≤ Y') → g v = some o → V K J mi pc' L ((.int v) :: rest) sh I R c' F) (kx : ∀ E, e E = some o → F (.inr E) sh I R) : V K J mi pc L (.int l2 :: .int l1 :: .ref l0 :: rest) sh I R c F := by
  obtain ⟨r, h1, h2⟩ := bnd h
  have hT : isT sh l0 8 = true := by unfold fX10_isNear at h1; exact (gd h1).1
  have ml : mL 85 = 3 := by decide +kernel
  have mk : mK 85 = 1 := by decide +kernel
  have mc : mC 85 = 8 := by decide +kernel
  rcases r with v | E
  · refine s_call (as := [.int l2, .int l1, .ref l0]) (G := fun o' sh' I' R' => o' = .inl (some (.int v)) ∧ sh' = sh ∧ I' = I ∧ R' = R) hq hc rfl hr (by rw [ml]; rfl) (Or.inl rfl) (fun _ => Or.inl (Or.inl ⟨by rw [mc]; decide, by rw [mc]; exact isT_iff.mp hT⟩)) (fun z => absurd (mk.symm.trans z) (by decide)) (by rw [ml]; exact vX10_isNear (F := fun o' sh' I' R' => o' = .inl (some (.int v)) ∧ sh' = sh ∧ I' = I ∧ R' = R) ⟨rfl, rfl, rfl, rfl⟩ h1) ?_ ?_ ?_
    · rintro sh' I' R' c' hc' ⟨g1, rfl, rfl, rfl⟩
      cases g1
    · rintro v' sh' I' R' c' hc' ⟨g1, rfl, rfl, rfl⟩
      cases g1
      exact kk _ _ hc' h2
    · rintro E' sh' I' R' ⟨g1, rfl, rfl, rfl⟩
      cases g1
  · refine s_call (as := [.int l2, .int l1, .ref l0]) (G := fun o' sh' I' R' => o' = .inr E ∧ sh' = sh ∧ I' = I ∧ R' = R) hq hc rfl hr (by rw [ml]; rfl) (Or.inl rfl) (fun _ => Or.inl (Or.inl ⟨by rw [mc]; decide, by rw [mc]; exact isT_iff.mp hT⟩)) (fun z => absurd (mk.symm.trans z) (by decide)) (by rw [ml]; exact vX10_isNear (F := fun o' sh' I' R' => o' = .inr E ∧ sh' = sh ∧ I' = I ∧ R' = R) ⟨rfl, rfl, rfl, rfl⟩ h1) ?_ ?_ ?_
    · rintro sh' I' R' c' hc' ⟨g1, rfl, rfl, rfl⟩
      cases g1
    · rintro v' sh' I' R' c' hc' ⟨g1, rfl, rfl, rfl⟩
      cases g1
    · rintro E' sh' I' R' ⟨g1, rfl, rfl, rfl⟩
      cases g1
      exact kx _ h2
set_option maxRecDepth 100000 in
set_option maxHeartbeats 4000000 in
def fX10_faults (fu : Nat) (sh : HS) (I : HI) (R : HR) (l0 : Nat) : Option (Int32 ⊕ String) :=
  if isT sh l0 8 = true then
    (oT0 (fX10_needBoard fu sh I R l0) (fun E => some (.inr E)) fun _ =>
    (oR sh R l0 8 4).bind fun v2 =>
    (fX2_total fu sh I R v2).bind fun v3 =>
    some (.inl v3))
  else none
set_option maxRecDepth 100000 in
set_option maxHeartbeats 4000000 in
theorem vX10_faults {K J : Nat → Nat} {fu : Nat} {sh : HS} {I : HI} {R : HR} {F : VF} {o : (Int32 ⊕ String)} (hF : F (voI o) sh I R) {l0 : Nat} (h0 : fX10_faults fu sh I R l0 = some o) : V K J 86 0 (ent 1 [.ref l0]) [] sh I R (0, 0) F := by
  unfold fX10_faults at h0
  obtain ⟨-, h1⟩ := gd h0; clear h0
  have hc0 : ((0 : Nat), (0 : Nat)).1 ≤ 0 ∧ ((0 : Nat), (0 : Nat)).2 ≤ 0 := ⟨Nat.le_refl _, Nat.le_refl _⟩
  show V K J 86 0 [some (.ref l0)] [] sh I R (0, 0) F
  refine s_rl (i := 0) (pc' := 1) (by decide +kernel) rfl ?_
  refine kX10_needBoard (X := 0) (Y := 0) (X' := 1) (Y' := 6) (pc' := 4) (by decide +kernel) hc0 rfl h1 (fun v1 c hc1 h2 => ?_) (fun E h2 => by have e9 := Option.some.inj h2; subst e9; exact hF); clear h1 hc0
  refine s_rl (i := 0) (pc' := 5) (by decide +kernel) rfl ?_
  refine s_gR (t := 8) (j := 4) (pc' := 8) (by decide +kernel) h2 (fun v2 h3 => ?_); clear h2
  refine kX2_total (X := 1) (Y := 6) (X' := 1) (Y' := 6) (pc' := 11) (by decide +kernel) hc1 rfl h3 (fun v3 c hc2 h4 => ?_); clear h3 hc1
  have e9 := Option.some.inj h4; subst e9
  exact s_ri (X := 1) (Y := 6) (by decide +kernel) hc2 hF
set_option maxRecDepth 100000 in
set_option maxHeartbeats 4000000 in
theorem kX10_faults {K J : Nat → Nat} {fu : Nat} {sh : HS} {I : HI} {R : HR} {F : VF} {mi pc pc' X Y X' Y' : Nat} {L : VL} {rest : List Value} {c : Nat × Nat} {l0 : Nat} {ω : Type} {o : ω} {e : String → Option ω} {g : Int32 → Option ω} (hq : cQ mi pc 86 1 pc' X Y X' Y' = true) (hc : c.1 ≤ X ∧ c.2 ≤ Y) (hr : Nat.ble (catS rest) 8 = true) (h : oT0 (fX10_faults fu sh I R l0) e g = some o) (kk : ∀ v c', (c'.1 ≤ X' ∧ c'.2 ≤ Y') → g v = some o → V K J mi pc' L ((.int v) :: rest) sh I R c' F) (kx : ∀ E, e E = some o → F (.inr E) sh I R) : V K J mi pc L (.ref l0 :: rest) sh I R c F := by
  obtain ⟨r, h1, h2⟩ := bnd h
  have hT : isT sh l0 8 = true := by unfold fX10_faults at h1; exact (gd h1).1
  have ml : mL 86 = 1 := by decide +kernel
  have mk : mK 86 = 1 := by decide +kernel
  have mc : mC 86 = 8 := by decide +kernel
  rcases r with v | E
  · refine s_call (as := [.ref l0]) (G := fun o' sh' I' R' => o' = .inl (some (.int v)) ∧ sh' = sh ∧ I' = I ∧ R' = R) hq hc rfl hr (by rw [ml]; rfl) (Or.inl rfl) (fun _ => Or.inl (Or.inl ⟨by rw [mc]; decide, by rw [mc]; exact isT_iff.mp hT⟩)) (fun z => absurd (mk.symm.trans z) (by decide)) (by rw [ml]; exact vX10_faults (F := fun o' sh' I' R' => o' = .inl (some (.int v)) ∧ sh' = sh ∧ I' = I ∧ R' = R) ⟨rfl, rfl, rfl, rfl⟩ h1) ?_ ?_ ?_
    · rintro sh' I' R' c' hc' ⟨g1, rfl, rfl, rfl⟩
      cases g1
    · rintro v' sh' I' R' c' hc' ⟨g1, rfl, rfl, rfl⟩
      cases g1
      exact kk _ _ hc' h2
    · rintro E' sh' I' R' ⟨g1, rfl, rfl, rfl⟩
      cases g1
  · refine s_call (as := [.ref l0]) (G := fun o' sh' I' R' => o' = .inr E ∧ sh' = sh ∧ I' = I ∧ R' = R) hq hc rfl hr (by rw [ml]; rfl) (Or.inl rfl) (fun _ => Or.inl (Or.inl ⟨by rw [mc]; decide, by rw [mc]; exact isT_iff.mp hT⟩)) (fun z => absurd (mk.symm.trans z) (by decide)) (by rw [ml]; exact vX10_faults (F := fun o' sh' I' R' => o' = .inr E ∧ sh' = sh ∧ I' = I ∧ R' = R) ⟨rfl, rfl, rfl, rfl⟩ h1) ?_ ?_ ?_
    · rintro sh' I' R' c' hc' ⟨g1, rfl, rfl, rfl⟩
      cases g1
    · rintro v' sh' I' R' c' hc' ⟨g1, rfl, rfl, rfl⟩
      cases g1
    · rintro E' sh' I' R' ⟨g1, rfl, rfl, rfl⟩
      cases g1
      exact kx _ h2
set_option maxRecDepth 100000 in
set_option maxHeartbeats 4000000 in
def fX10_propertyOfFault_b24 (fu : Nat) (sh : HS) (I : HI) (R : HR) (s0 : Int32) : Option Int32 :=
  some s0
set_option maxRecDepth 100000 in
set_option maxHeartbeats 4000000 in
theorem vX10_propertyOfFault_b24 {K J : Nat → Nat} {fu : Nat} {sh : HS} {I : HI} {R : HR} {F : VF} {o : Int32} (hF : F (.inl (some (.int o))) sh I R) {s0 : Int32} {d0 d1 d2 d3 : Option Value} {c : Nat × Nat} (hc0 : c.1 ≤ 0 ∧ c.2 ≤ 0) (h0 : fX10_propertyOfFault_b24 fu sh I R s0 = some o) : V K J 88 24 [d0, d1, d2, d3] [.int s0] sh I R c F := by
  unfold fX10_propertyOfFault_b24 at h0
  have e9 := Option.some.inj h0; subst e9
  exact s_ri (X := 0) (Y := 0) (by decide +kernel) hc0 hF
set_option maxRecDepth 100000 in
set_option maxHeartbeats 4000000 in
def fX10_propertyOfFault (fu : Nat) (sh : HS) (I : HI) (R : HR) (l0 : Nat) (l1 : Int32) (l2 : Int32) (l3 : Int32) : Option Int32 :=
  if isT sh l0 8 = true then
    (if l3 = 0 then
      (some l1)
    else
      (if l3 = 1 then
        ((fX10_propertyOfFault_b24 fu sh I R) l2)
      else
        ((oR sh R l0 8 4).bind fun v1 =>
        (fX2_causeOf fu sh I R v1 l1 l2).bind fun v2 =>
        (fX10_propertyOfFault_b24 fu sh I R) v2)))
  else none
set_option maxRecDepth 100000 in
set_option maxHeartbeats 4000000 in
theorem vX10_propertyOfFault {K J : Nat → Nat} {fu : Nat} {sh : HS} {I : HI} {R : HR} {F : VF} {o : Int32} (hF : F (.inl (some (.int o))) sh I R) {l0 : Nat} {l1 : Int32} {l2 : Int32} {l3 : Int32} (h0 : fX10_propertyOfFault fu sh I R l0 l1 l2 l3 = some o) : V K J 88 0 (ent 4 [.ref l0, .int l1, .int l2, .int l3]) [] sh I R (0, 0) F := by
  unfold fX10_propertyOfFault at h0
  obtain ⟨-, h1⟩ := gd h0; clear h0
  have hc0 : ((0 : Nat), (0 : Nat)).1 ≤ 0 ∧ ((0 : Nat), (0 : Nat)).2 ≤ 0 := ⟨Nat.le_refl _, Nat.le_refl _⟩
  show V K J 88 0 [some (.ref l0), some (.int l1), some (.int l2), some (.int l3)] [] sh I R (0, 0) F
  refine s_il (i := 3) (pc' := 1) (by decide +kernel) rfl ?_
  refine s_ifn (ins := .ifCond .ne 5) (t := 6) (pc' := 4) (by decide +kernel) rfl rfl rfl h1 (fun p2 h2 => ?_) (fun p2 h2 => ?_) <;> clear h1
  · refine s_il (i := 3) (pc' := 7) (by decide +kernel) rfl ?_
    refine s_c (v := 1) (pc' := 8) (by decide +kernel) ?_
    refine s_ifn (ins := .if_icmp .ne 7) (t := 15) (pc' := 11) (by decide +kernel) rfl rfl rfl h2 (fun p3 h3 => ?_) (fun p3 h3 => ?_) <;> clear h2
    · refine s_rl (i := 0) (pc' := 16) (by decide +kernel) rfl ?_
      refine s_gR (t := 8) (j := 4) (pc' := 19) (by decide +kernel) h3 (fun v1 h4 => ?_); clear h3
      refine s_il (i := 1) (pc' := 20) (by decide +kernel) rfl ?_
      refine s_il (i := 2) (pc' := 21) (by decide +kernel) rfl ?_
      refine kX2_causeOf (X := 0) (Y := 0) (X' := 0) (Y' := 0) (pc' := 24) (by decide +kernel) hc0 rfl h4 (fun v2 c hc1 h5 => ?_); clear h4 hc0
      exact (vX10_propertyOfFault_b24 hF) hc1 h5
    · refine s_il (i := 2) (pc' := 12) (by decide +kernel) rfl ?_
      refine s_go (t := 24) (by decide +kernel) ?_
      exact (vX10_propertyOfFault_b24 hF) hc0 h3
  · refine s_il (i := 1) (pc' := 5) (by decide +kernel) rfl ?_
    have e9 := Option.some.inj h2; subst e9
    exact s_ri (X := 0) (Y := 0) (by decide +kernel) hc0 hF
set_option maxRecDepth 100000 in
set_option maxHeartbeats 4000000 in
theorem kX10_propertyOfFault {K J : Nat → Nat} {fu : Nat} {sh : HS} {I : HI} {R : HR} {F : VF} {mi pc pc' X Y X' Y' : Nat} {L : VL} {rest : List Value} {c : Nat × Nat} {l0 : Nat} {l1 : Int32} {l2 : Int32} {l3 : Int32} {ω : Type} {o : ω} {g : Int32 → Option ω} (hq : cQ mi pc 88 4 pc' X Y X' Y' = true) (hc : c.1 ≤ X ∧ c.2 ≤ Y) (hr : Nat.ble (catS rest) 8 = true) (h : (fX10_propertyOfFault fu sh I R l0 l1 l2 l3).bind g = some o) (kk : ∀ v c', (c'.1 ≤ X' ∧ c'.2 ≤ Y') → g v = some o → V K J mi pc' L ((.int v) :: rest) sh I R c' F) : V K J mi pc L (.int l3 :: .int l2 :: .int l1 :: .ref l0 :: rest) sh I R c F := by
  obtain ⟨r, h1, h2⟩ := bnd h
  have hT : isT sh l0 8 = true := by unfold fX10_propertyOfFault at h1; exact (gd h1).1
  have ml : mL 88 = 4 := by decide +kernel
  have mk : mK 88 = 1 := by decide +kernel
  have mc : mC 88 = 8 := by decide +kernel
  refine s_call (as := [.int l3, .int l2, .int l1, .ref l0]) (G := fun o' sh' I' R' => o' = .inl (some (.int r)) ∧ sh' = sh ∧ I' = I ∧ R' = R) hq hc rfl hr (by rw [ml]; rfl) (Or.inl rfl) (fun _ => Or.inl (Or.inl ⟨by rw [mc]; decide, by rw [mc]; exact isT_iff.mp hT⟩)) (fun z => absurd (mk.symm.trans z) (by decide)) (by rw [ml]; exact vX10_propertyOfFault (F := fun o' sh' I' R' => o' = .inl (some (.int r)) ∧ sh' = sh ∧ I' = I ∧ R' = R) ⟨rfl, rfl, rfl, rfl⟩ h1) ?_ ?_ ?_
  · rintro sh' I' R' c' hc' ⟨g1, rfl, rfl, rfl⟩
    cases g1
  · rintro v' sh' I' R' c' hc' ⟨g1, rfl, rfl, rfl⟩
    cases g1
    exact kk _ _ hc' h2
  · rintro E' sh' I' R' ⟨g1, rfl, rfl, rfl⟩
    cases g1
set_option maxRecDepth 100000 in
set_option maxHeartbeats 4000000 in
def fX10_fault_b92 (fu : Nat) (sh : HS) (I : HI) (R : HR) (k56 : Nat → Int32 → Int32 → Int32 → Int32 → Int32 → Option (Int32 ⊕ String)) (k98 : Nat → Int32 → Int32 → Int32 → Option (Int32 ⊕ String)) (l0 : Nat) (l2 : Int32) (l3 : Int32) (l4 : Int32) (l5 : Int32) (l6 : Int32) : Option (Int32 ⊕ String) :=
  k56 l0 l2 l3 l4 l5 (l6 + 1)
set_option maxRecDepth 100000 in
set_option maxHeartbeats 4000000 in
theorem vX10_fault_b92 {K J : Nat → Nat} {fu : Nat} {sh : HS} {I : HI} {R : HR} {F : VF} {o : (Int32 ⊕ String)} (hF : F (voI o) sh I R) {k56 : Nat → Int32 → Int32 → Int32 → Int32 → Int32 → Option (Int32 ⊕ String)} {k98 : Nat → Int32 → Int32 → Int32 → Option (Int32 ⊕ String)} (hk56 : ∀ {l0 : Nat} {l2 : Int32} {l3 : Int32} {l4 : Int32} {l5 : Int32} {l6 : Int32} {d1 : Option Value} {c : Nat × Nat}, (c.1 ≤ 2 ∧ c.2 ≤ 12) → k56 l0 l2 l3 l4 l5 l6 = some o → V K J 87 56 [some (.ref l0), d1, some (.int l2), some (.int l3), some (.int l4), some (.int l5), some (.int l6)] [] sh I R c F) (hk98 : ∀ {l0 : Nat} {l2 : Int32} {l3 : Int32} {l4 : Int32} {d1 d5 d6 : Option Value} {c : Nat × Nat}, (c.1 ≤ 2 ∧ c.2 ≤ 12) → k98 l0 l2 l3 l4 = some o → V K J 87 98 [some (.ref l0), d1, some (.int l2), some (.int l3), some (.int l4), d5, d6] [] sh I R c F) {l0 : Nat} {l2 : Int32} {l3 : Int32} {l4 : Int32} {l5 : Int32} {l6 : Int32} {d1 : Option Value} {c : Nat × Nat} (hc0 : c.1 ≤ 2 ∧ c.2 ≤ 12) (h0 : fX10_fault_b92 fu sh I R k56 k98 l0 l2 l3 l4 l5 l6 = some o) : V K J 87 92 [some (.ref l0), d1, some (.int l2), some (.int l3), some (.int l4), some (.int l5), some (.int l6)] [] sh I R c F := by
  unfold fX10_fault_b92 at h0
  refine s_inc (i := 6) (z := 1) (pc' := 95) (L' := [some (.ref l0), d1, some (.int l2), some (.int l3), some (.int l4), some (.int l5), some (.int (l6 + 1))]) (by decide +kernel) rfl rfl rfl ?_
  refine s_go (t := 56) (by decide +kernel) ?_
  exact hk56 hc0 h0
set_option maxRecDepth 100000 in
set_option maxHeartbeats 4000000 in
def fX10_fault_b56 (fu : Nat) (sh : HS) (I : HI) (R : HR) (k56 : Nat → Int32 → Int32 → Int32 → Int32 → Int32 → Option (Int32 ⊕ String)) (k98 : Nat → Int32 → Int32 → Int32 → Option (Int32 ⊕ String)) (l0 : Nat) (l2 : Int32) (l3 : Int32) (l4 : Int32) (l5 : Int32) (l6 : Int32) : Option (Int32 ⊕ String) :=
  if 4 ≤ l6 then
    (k98 l0 l2 l3 l4)
  else
    ((fX10_holds fu sh I R l5 l6).bind fun v7 =>
    if v7 = 0 then
      ((fX10_fault_b92 fu sh I R k56 k98) l0 l2 l3 l4 l5 l6)
    else
      (if l3 = 0 then
        ((fX10_propertyOfFault fu sh I R l0 l4 l6 l2).bind fun v8 =>
        some (.inl v8))
      else
        ((fX10_fault_b92 fu sh I R k56 k98) l0 l2 (l3 + (-1)) l4 l5 l6)))
set_option maxRecDepth 100000 in
set_option maxHeartbeats 4000000 in
theorem vX10_fault_b56 {K J : Nat → Nat} {fu : Nat} {sh : HS} {I : HI} {R : HR} {F : VF} {o : (Int32 ⊕ String)} (hF : F (voI o) sh I R) {k56 : Nat → Int32 → Int32 → Int32 → Int32 → Int32 → Option (Int32 ⊕ String)} {k98 : Nat → Int32 → Int32 → Int32 → Option (Int32 ⊕ String)} (hk56 : ∀ {l0 : Nat} {l2 : Int32} {l3 : Int32} {l4 : Int32} {l5 : Int32} {l6 : Int32} {d1 : Option Value} {c : Nat × Nat}, (c.1 ≤ 2 ∧ c.2 ≤ 12) → k56 l0 l2 l3 l4 l5 l6 = some o → V K J 87 56 [some (.ref l0), d1, some (.int l2), some (.int l3), some (.int l4), some (.int l5), some (.int l6)] [] sh I R c F) (hk98 : ∀ {l0 : Nat} {l2 : Int32} {l3 : Int32} {l4 : Int32} {d1 d5 d6 : Option Value} {c : Nat × Nat}, (c.1 ≤ 2 ∧ c.2 ≤ 12) → k98 l0 l2 l3 l4 = some o → V K J 87 98 [some (.ref l0), d1, some (.int l2), some (.int l3), some (.int l4), d5, d6] [] sh I R c F) {l0 : Nat} {l2 : Int32} {l3 : Int32} {l4 : Int32} {l5 : Int32} {l6 : Int32} {d1 : Option Value} {c : Nat × Nat} (hc0 : c.1 ≤ 2 ∧ c.2 ≤ 12) (h0 : fX10_fault_b56 fu sh I R k56 k98 l0 l2 l3 l4 l5 l6 = some o) : V K J 87 56 [some (.ref l0), d1, some (.int l2), some (.int l3), some (.int l4), some (.int l5), some (.int l6)] [] sh I R c F := by
  unfold fX10_fault_b56 at h0
  refine s_il (i := 6) (pc' := 58) (by decide +kernel) rfl ?_
  refine s_c (v := 4) (pc' := 59) (by decide +kernel) ?_
  refine s_if (ins := .if_icmp .ge 39) (t := 98) (pc' := 62) (by decide +kernel) rfl rfl rfl h0 (fun p1 h1 => ?_) (fun p1 h1 => ?_) <;> clear h0
  · exact hk98 hc0 h1
  · refine s_il (i := 5) (pc' := 64) (by decide +kernel) rfl ?_
    refine s_il (i := 6) (pc' := 66) (by decide +kernel) rfl ?_
    refine kX10_holds (X := 2) (Y := 12) (X' := 2) (Y' := 12) (pc' := 69) (by decide +kernel) hc0 rfl h1 (fun v7 c hc1 h2 => ?_); clear h1 hc0
    refine s_ifn (ins := .ifCond .ne 6) (t := 75) (pc' := 72) (by decide +kernel) rfl rfl rfl h2 (fun p3 h3 => ?_) (fun p3 h3 => ?_) <;> clear h2
    · refine s_il (i := 3) (pc' := 76) (by decide +kernel) rfl ?_
      refine s_ifn (ins := .ifCond .ne 13) (t := 89) (pc' := 79) (by decide +kernel) rfl rfl rfl h3 (fun p4 h4 => ?_) (fun p4 h4 => ?_) <;> clear h3
      · refine s_inc (i := 3) (z := (-1)) (pc' := 92) (L' := [some (.ref l0), d1, some (.int l2), some (.int (l3 + (-1))), some (.int l4), some (.int l5), some (.int l6)]) (by decide +kernel) rfl rfl rfl ?_
        exact (vX10_fault_b92 hF hk56 hk98) hc1 h4
      · refine s_rl (i := 0) (pc' := 80) (by decide +kernel) rfl ?_
        refine s_il (i := 4) (pc' := 82) (by decide +kernel) rfl ?_
        refine s_il (i := 6) (pc' := 84) (by decide +kernel) rfl ?_
        refine s_il (i := 2) (pc' := 85) (by decide +kernel) rfl ?_
        refine kX10_propertyOfFault (X := 2) (Y := 12) (X' := 2) (Y' := 12) (pc' := 88) (by decide +kernel) hc1 rfl h4 (fun v8 c hc2 h5 => ?_); clear h4 hc1
        have e9 := Option.some.inj h5; subst e9
        exact s_ri (X := 2) (Y := 12) (by decide +kernel) hc2 hF
    · refine s_go (t := 92) (by decide +kernel) ?_
      exact (vX10_fault_b92 hF hk56 hk98) hc1 h3
set_option maxRecDepth 100000 in
set_option maxHeartbeats 4000000 in
def fX10_fault_l56 (fu : Nat) (sh : HS) (I : HI) (R : HR) (k98 : Nat → Int32 → Int32 → Int32 → Option (Int32 ⊕ String)) : Nat → Nat → Int32 → Int32 → Int32 → Int32 → Int32 → Option (Int32 ⊕ String)
  | 0 => fun _ _ _ _ _ _ => none
  | n + 1 => fX10_fault_b56 fu sh I R (fX10_fault_l56 fu sh I R k98 n) k98
set_option maxRecDepth 100000 in
set_option maxHeartbeats 4000000 in
theorem vX10_fault_l56 {K J : Nat → Nat} {fu : Nat} {sh : HS} {I : HI} {R : HR} {F : VF} {o : (Int32 ⊕ String)} (hF : F (voI o) sh I R) {k98 : Nat → Int32 → Int32 → Int32 → Option (Int32 ⊕ String)} (hk98 : ∀ {l0 : Nat} {l2 : Int32} {l3 : Int32} {l4 : Int32} {d1 d5 d6 : Option Value} {c : Nat × Nat}, (c.1 ≤ 2 ∧ c.2 ≤ 12) → k98 l0 l2 l3 l4 = some o → V K J 87 98 [some (.ref l0), d1, some (.int l2), some (.int l3), some (.int l4), d5, d6] [] sh I R c F) : ∀ (n : Nat) {l0 : Nat} {l2 : Int32} {l3 : Int32} {l4 : Int32} {l5 : Int32} {l6 : Int32} {d1 : Option Value} {c : Nat × Nat} (_ : c.1 ≤ 2 ∧ c.2 ≤ 12) (_ : fX10_fault_l56 fu sh I R k98 n l0 l2 l3 l4 l5 l6 = some o), V K J 87 56 [some (.ref l0), d1, some (.int l2), some (.int l3), some (.int l4), some (.int l5), some (.int l6)] [] sh I R c F := by
  intro n
  induction n with
  | zero => exact fun _ h0 => nomatch h0
  | succ n ih => exact fun hc0 h0 => vX10_fault_b56 hF ih hk98 hc0 h0
set_option maxRecDepth 100000 in
set_option maxHeartbeats 4000000 in
def fX10_fault_b98 (fu : Nat) (sh : HS) (I : HI) (R : HR) (k30 : Nat → Int32 → Int32 → Int32 → Option (Int32 ⊕ String)) (l0 : Nat) (l2 : Int32) (l3 : Int32) (l4 : Int32) : Option (Int32 ⊕ String) :=
  k30 l0 l2 l3 (l4 + 1)
set_option maxRecDepth 100000 in
set_option maxHeartbeats 4000000 in
theorem vX10_fault_b98 {K J : Nat → Nat} {fu : Nat} {sh : HS} {I : HI} {R : HR} {F : VF} {o : (Int32 ⊕ String)} (hF : F (voI o) sh I R) {k30 : Nat → Int32 → Int32 → Int32 → Option (Int32 ⊕ String)} (hk30 : ∀ {l0 : Nat} {l2 : Int32} {l3 : Int32} {l4 : Int32} {d1 d5 d6 : Option Value} {c : Nat × Nat}, (c.1 ≤ 2 ∧ c.2 ≤ 12) → k30 l0 l2 l3 l4 = some o → V K J 87 30 [some (.ref l0), d1, some (.int l2), some (.int l3), some (.int l4), d5, d6] [] sh I R c F) {l0 : Nat} {l2 : Int32} {l3 : Int32} {l4 : Int32} {d1 d5 d6 : Option Value} {c : Nat × Nat} (hc0 : c.1 ≤ 2 ∧ c.2 ≤ 12) (h0 : fX10_fault_b98 fu sh I R k30 l0 l2 l3 l4 = some o) : V K J 87 98 [some (.ref l0), d1, some (.int l2), some (.int l3), some (.int l4), d5, d6] [] sh I R c F := by
  unfold fX10_fault_b98 at h0
  refine s_inc (i := 4) (z := 1) (pc' := 101) (L' := [some (.ref l0), d1, some (.int l2), some (.int l3), some (.int (l4 + 1)), d5, d6]) (by decide +kernel) rfl rfl rfl ?_
  refine s_go (t := 30) (by decide +kernel) ?_
  exact hk30 hc0 h0
set_option maxRecDepth 100000 in
set_option maxHeartbeats 4000000 in
def fX10_fault_b30 (fu : Nat) (sh : HS) (I : HI) (R : HR) (k30 : Nat → Int32 → Int32 → Int32 → Option (Int32 ⊕ String)) (l0 : Nat) (l2 : Int32) (l3 : Int32) (l4 : Int32) : Option (Int32 ⊕ String) :=
  (oR sh R l0 8 4).bind fun v3 =>
  (oI sh I v3 0 4).bind fun v4 =>
  if v4 ≤ l4 then
    (some (.inr "java/util/NoSuchElementException"))
  else
    ((oR sh R l0 8 4).bind fun v5 =>
    (fX2_kindsOf fu sh I R v5 l4).bind fun v6 =>
    (fX10_fault_l56 fu sh I R (fX10_fault_b98 fu sh I R k30) fu) l0 l2 l3 l4 v6 0)
set_option maxRecDepth 100000 in
set_option maxHeartbeats 4000000 in
theorem vX10_fault_b30 {K J : Nat → Nat} {fu : Nat} {sh : HS} {I : HI} {R : HR} {F : VF} {o : (Int32 ⊕ String)} (hF : F (voI o) sh I R) {k30 : Nat → Int32 → Int32 → Int32 → Option (Int32 ⊕ String)} (hk30 : ∀ {l0 : Nat} {l2 : Int32} {l3 : Int32} {l4 : Int32} {d1 d5 d6 : Option Value} {c : Nat × Nat}, (c.1 ≤ 2 ∧ c.2 ≤ 12) → k30 l0 l2 l3 l4 = some o → V K J 87 30 [some (.ref l0), d1, some (.int l2), some (.int l3), some (.int l4), d5, d6] [] sh I R c F) {l0 : Nat} {l2 : Int32} {l3 : Int32} {l4 : Int32} {d1 d5 d6 : Option Value} {c : Nat × Nat} (hc0 : c.1 ≤ 2 ∧ c.2 ≤ 12) (h0 : fX10_fault_b30 fu sh I R k30 l0 l2 l3 l4 = some o) : V K J 87 30 [some (.ref l0), d1, some (.int l2), some (.int l3), some (.int l4), d5, d6] [] sh I R c F := by
  unfold fX10_fault_b30 at h0
  refine s_il (i := 4) (pc' := 32) (by decide +kernel) rfl ?_
  refine s_rl (i := 0) (pc' := 33) (by decide +kernel) rfl ?_
  refine s_gR (t := 8) (j := 4) (pc' := 36) (by decide +kernel) h0 (fun v3 h1 => ?_); clear h0
  refine s_gI (t := 0) (j := 4) (ty := 0) (pc' := 39) (by decide +kernel) rfl h1 (fun v4 h2 => ?_); clear h1
  refine s_if (ins := .if_icmp .ge 65) (t := 104) (pc' := 42) (by decide +kernel) rfl rfl rfl h2 (fun p3 h3 => ?_) (fun p3 h3 => ?_) <;> clear h2
  · have e9 := Option.some.inj h3; subst e9
    exact s_th (E := "java/util/NoSuchElementException") (X := 2) (Y := 12) (by decide +kernel) hc0 rfl hF
  · refine s_rl (i := 0) (pc' := 43) (by decide +kernel) rfl ?_
    refine s_gR (t := 8) (j := 4) (pc' := 46) (by decide +kernel) h3 (fun v5 h4 => ?_); clear h3
    refine s_il (i := 4) (pc' := 48) (by decide +kernel) rfl ?_
    refine kX2_kindsOf (X := 2) (Y := 12) (X' := 2) (Y' := 12) (pc' := 51) (by decide +kernel) hc0 rfl h4 (fun v6 c hc1 h5 => ?_); clear h4 hc0
    refine s_is (i := 5) (pc' := 53) (L' := [some (.ref l0), d1, some (.int l2), some (.int l3), some (.int l4), some (.int v6), d6]) (by decide +kernel) rfl rfl ?_
    refine s_c (v := 0) (pc' := 54) (by decide +kernel) ?_
    refine s_is (i := 6) (pc' := 56) (L' := [some (.ref l0), d1, some (.int l2), some (.int l3), some (.int l4), some (.int v6), some (.int 0)]) (by decide +kernel) rfl rfl ?_
    exact (vX10_fault_l56 hF (vX10_fault_b98 hF hk30) fu) hc1 h5
set_option maxRecDepth 100000 in
set_option maxHeartbeats 4000000 in
def fX10_fault_l30 (fu : Nat) (sh : HS) (I : HI) (R : HR) : Nat → Nat → Int32 → Int32 → Int32 → Option (Int32 ⊕ String)
  | 0 => fun _ _ _ _ => none
  | n + 1 => fX10_fault_b30 fu sh I R (fX10_fault_l30 fu sh I R n)
set_option maxRecDepth 100000 in
set_option maxHeartbeats 4000000 in
theorem vX10_fault_l30 {K J : Nat → Nat} {fu : Nat} {sh : HS} {I : HI} {R : HR} {F : VF} {o : (Int32 ⊕ String)} (hF : F (voI o) sh I R) : ∀ (n : Nat) {l0 : Nat} {l2 : Int32} {l3 : Int32} {l4 : Int32} {d1 d5 d6 : Option Value} {c : Nat × Nat} (_ : c.1 ≤ 2 ∧ c.2 ≤ 12) (_ : fX10_fault_l30 fu sh I R n l0 l2 l3 l4 = some o), V K J 87 30 [some (.ref l0), d1, some (.int l2), some (.int l3), some (.int l4), d5, d6] [] sh I R c F := by
  intro n
  induction n with
  | zero => exact fun _ h0 => nomatch h0
  | succ n ih => exact fun hc0 h0 => vX10_fault_b30 hF ih hc0 h0
set_option maxRecDepth 100000 in
set_option maxHeartbeats 4000000 in
def fX10_fault (fu : Nat) (sh : HS) (I : HI) (R : HR) (l0 : Nat) (l1 : Int32) (l2 : Int32) : Option (Int32 ⊕ String) :=
  if isT sh l0 8 = true then
    (oT0 (fX10_needBoard fu sh I R l0) (fun E => some (.inr E)) fun _ =>
    oT0 (fX10_needRange fu sh I R l2 0 2) (fun E => some (.inr E)) fun _ =>
    if 0 ≤ l1 then
      ((fX10_fault_l30 fu sh I R fu) l0 l2 l1 0)
    else
      (some (.inr "java/lang/IllegalArgumentException")))
  else none
set_option maxRecDepth 100000 in
set_option maxHeartbeats 4000000 in
theorem vX10_fault {K J : Nat → Nat} {fu : Nat} {sh : HS} {I : HI} {R : HR} {F : VF} {o : (Int32 ⊕ String)} (hF : F (voI o) sh I R) {l0 : Nat} {l1 : Int32} {l2 : Int32} (h0 : fX10_fault fu sh I R l0 l1 l2 = some o) : V K J 87 0 (ent 7 [.ref l0, .int l1, .int l2]) [] sh I R (0, 0) F := by
  unfold fX10_fault at h0
  obtain ⟨-, h1⟩ := gd h0; clear h0
  have hc0 : ((0 : Nat), (0 : Nat)).1 ≤ 0 ∧ ((0 : Nat), (0 : Nat)).2 ≤ 0 := ⟨Nat.le_refl _, Nat.le_refl _⟩
  show V K J 87 0 [some (.ref l0), some (.int l1), some (.int l2), none, none, none, none] [] sh I R (0, 0) F
  refine s_rl (i := 0) (pc' := 1) (by decide +kernel) rfl ?_
  refine kX10_needBoard (X := 0) (Y := 0) (X' := 1) (Y' := 6) (pc' := 4) (by decide +kernel) hc0 rfl h1 (fun v1 c hc1 h2 => ?_) (fun E h2 => by have e9 := Option.some.inj h2; subst e9; exact hF); clear h1 hc0
  refine s_il (i := 2) (pc' := 5) (by decide +kernel) rfl ?_
  refine s_c (v := 0) (pc' := 6) (by decide +kernel) ?_
  refine s_c (v := 2) (pc' := 7) (by decide +kernel) ?_
  refine kX10_needRange (X := 1) (Y := 6) (X' := 2) (Y' := 12) (pc' := 10) (by decide +kernel) hc1 rfl h2 (fun v2 c hc2 h3 => ?_) (fun E h3 => by have e9 := Option.some.inj h3; subst e9; exact hF); clear h2 hc1
  refine s_il (i := 1) (pc' := 11) (by decide +kernel) rfl ?_
  refine s_if (ins := .ifCond .ge 14) (t := 25) (pc' := 14) (by decide +kernel) rfl rfl rfl h3 (fun p4 h4 => ?_) (fun p4 h4 => ?_) <;> clear h3
  · refine s_il (i := 1) (pc' := 26) (by decide +kernel) rfl ?_
    refine s_is (i := 3) (pc' := 27) (L' := [some (.ref l0), some (.int l1), some (.int l2), some (.int l1), none, none, none]) (by decide +kernel) rfl rfl ?_
    refine s_c (v := 0) (pc' := 28) (by decide +kernel) ?_
    refine s_is (i := 4) (pc' := 30) (L' := [some (.ref l0), some (.int l1), some (.int l2), some (.int l1), some (.int 0), none, none]) (by decide +kernel) rfl rfl ?_
    exact (vX10_fault_l30 hF fu) hc2 h4
  · have e9 := Option.some.inj h4; subst e9
    exact s_th (E := "java/lang/IllegalArgumentException") (X := 2) (Y := 12) (by decide +kernel) hc2 rfl hF
set_option maxRecDepth 100000 in
set_option maxHeartbeats 4000000 in
theorem kX10_fault {K J : Nat → Nat} {fu : Nat} {sh : HS} {I : HI} {R : HR} {F : VF} {mi pc pc' X Y X' Y' : Nat} {L : VL} {rest : List Value} {c : Nat × Nat} {l0 : Nat} {l1 : Int32} {l2 : Int32} {ω : Type} {o : ω} {e : String → Option ω} {g : Int32 → Option ω} (hq : cQ mi pc 87 3 pc' X Y X' Y' = true) (hc : c.1 ≤ X ∧ c.2 ≤ Y) (hr : Nat.ble (catS rest) 8 = true) (h : oT0 (fX10_fault fu sh I R l0 l1 l2) e g = some o) (kk : ∀ v c', (c'.1 ≤ X' ∧ c'.2 ≤ Y') → g v = some o → V K J mi pc' L ((.int v) :: rest) sh I R c' F) (kx : ∀ E, e E = some o → F (.inr E) sh I R) : V K J mi pc L (.int l2 :: .int l1 :: .ref l0 :: rest) sh I R c F := by
  obtain ⟨r, h1, h2⟩ := bnd h
  have hT : isT sh l0 8 = true := by unfold fX10_fault at h1; exact (gd h1).1
  have ml : mL 87 = 7 := by decide +kernel
  have mk : mK 87 = 1 := by decide +kernel
  have mc : mC 87 = 8 := by decide +kernel
  rcases r with v | E
  · refine s_call (as := [.int l2, .int l1, .ref l0]) (G := fun o' sh' I' R' => o' = .inl (some (.int v)) ∧ sh' = sh ∧ I' = I ∧ R' = R) hq hc rfl hr (by rw [ml]; rfl) (Or.inl rfl) (fun _ => Or.inl (Or.inl ⟨by rw [mc]; decide, by rw [mc]; exact isT_iff.mp hT⟩)) (fun z => absurd (mk.symm.trans z) (by decide)) (by rw [ml]; exact vX10_fault (F := fun o' sh' I' R' => o' = .inl (some (.int v)) ∧ sh' = sh ∧ I' = I ∧ R' = R) ⟨rfl, rfl, rfl, rfl⟩ h1) ?_ ?_ ?_
    · rintro sh' I' R' c' hc' ⟨g1, rfl, rfl, rfl⟩
      cases g1
    · rintro v' sh' I' R' c' hc' ⟨g1, rfl, rfl, rfl⟩
      cases g1
      exact kk _ _ hc' h2
    · rintro E' sh' I' R' ⟨g1, rfl, rfl, rfl⟩
      cases g1
  · refine s_call (as := [.int l2, .int l1, .ref l0]) (G := fun o' sh' I' R' => o' = .inr E ∧ sh' = sh ∧ I' = I ∧ R' = R) hq hc rfl hr (by rw [ml]; rfl) (Or.inl rfl) (fun _ => Or.inl (Or.inl ⟨by rw [mc]; decide, by rw [mc]; exact isT_iff.mp hT⟩)) (fun z => absurd (mk.symm.trans z) (by decide)) (by rw [ml]; exact vX10_fault (F := fun o' sh' I' R' => o' = .inr E ∧ sh' = sh ∧ I' = I ∧ R' = R) ⟨rfl, rfl, rfl, rfl⟩ h1) ?_ ?_ ?_
    · rintro sh' I' R' c' hc' ⟨g1, rfl, rfl, rfl⟩
      cases g1
    · rintro v' sh' I' R' c' hc' ⟨g1, rfl, rfl, rfl⟩
      cases g1
    · rintro E' sh' I' R' ⟨g1, rfl, rfl, rfl⟩
      cases g1
      exact kx _ h2
set_option maxRecDepth 100000 in
set_option maxHeartbeats 4000000 in
def fX10_faultsOf (fu : Nat) (sh : HS) (I : HI) (R : HR) (l0 : Nat) (l1 : Int32) : Option (Int32 ⊕ String) :=
  if isT sh l0 8 = true then
    (oT0 (fX10_needBoard fu sh I R l0) (fun E => some (.inr E)) fun _ =>
    oT0 (fX10_needShot fu sh I R l0 l1) (fun E => some (.inr E)) fun _ =>
    (oR sh R l0 8 4).bind fun v3 =>
    (fX2_kindsOf fu sh I R v3 l1).bind fun v4 =>
    some (.inl v4))
  else none
set_option maxRecDepth 100000 in
set_option maxHeartbeats 4000000 in
theorem vX10_faultsOf {K J : Nat → Nat} {fu : Nat} {sh : HS} {I : HI} {R : HR} {F : VF} {o : (Int32 ⊕ String)} (hF : F (voI o) sh I R) {l0 : Nat} {l1 : Int32} (h0 : fX10_faultsOf fu sh I R l0 l1 = some o) : V K J 89 0 (ent 2 [.ref l0, .int l1]) [] sh I R (0, 0) F := by
  unfold fX10_faultsOf at h0
  obtain ⟨-, h1⟩ := gd h0; clear h0
  have hc0 : ((0 : Nat), (0 : Nat)).1 ≤ 0 ∧ ((0 : Nat), (0 : Nat)).2 ≤ 0 := ⟨Nat.le_refl _, Nat.le_refl _⟩
  show V K J 89 0 [some (.ref l0), some (.int l1)] [] sh I R (0, 0) F
  refine s_rl (i := 0) (pc' := 1) (by decide +kernel) rfl ?_
  refine kX10_needBoard (X := 0) (Y := 0) (X' := 1) (Y' := 6) (pc' := 4) (by decide +kernel) hc0 rfl h1 (fun v1 c hc1 h2 => ?_) (fun E h2 => by have e9 := Option.some.inj h2; subst e9; exact hF); clear h1 hc0
  refine s_rl (i := 0) (pc' := 5) (by decide +kernel) rfl ?_
  refine s_il (i := 1) (pc' := 6) (by decide +kernel) rfl ?_
  refine kX10_needShot (X := 1) (Y := 6) (X' := 2) (Y' := 12) (pc' := 9) (by decide +kernel) hc1 rfl h2 (fun v2 c hc2 h3 => ?_) (fun E h3 => by have e9 := Option.some.inj h3; subst e9; exact hF); clear h2 hc1
  refine s_rl (i := 0) (pc' := 10) (by decide +kernel) rfl ?_
  refine s_gR (t := 8) (j := 4) (pc' := 13) (by decide +kernel) h3 (fun v3 h4 => ?_); clear h3
  refine s_il (i := 1) (pc' := 14) (by decide +kernel) rfl ?_
  refine kX2_kindsOf (X := 2) (Y := 12) (X' := 2) (Y' := 12) (pc' := 17) (by decide +kernel) hc2 rfl h4 (fun v4 c hc3 h5 => ?_); clear h4 hc2
  have e9 := Option.some.inj h5; subst e9
  exact s_ri (X := 2) (Y := 12) (by decide +kernel) hc3 hF
set_option maxRecDepth 100000 in
set_option maxHeartbeats 4000000 in
theorem kX10_faultsOf {K J : Nat → Nat} {fu : Nat} {sh : HS} {I : HI} {R : HR} {F : VF} {mi pc pc' X Y X' Y' : Nat} {L : VL} {rest : List Value} {c : Nat × Nat} {l0 : Nat} {l1 : Int32} {ω : Type} {o : ω} {e : String → Option ω} {g : Int32 → Option ω} (hq : cQ mi pc 89 2 pc' X Y X' Y' = true) (hc : c.1 ≤ X ∧ c.2 ≤ Y) (hr : Nat.ble (catS rest) 8 = true) (h : oT0 (fX10_faultsOf fu sh I R l0 l1) e g = some o) (kk : ∀ v c', (c'.1 ≤ X' ∧ c'.2 ≤ Y') → g v = some o → V K J mi pc' L ((.int v) :: rest) sh I R c' F) (kx : ∀ E, e E = some o → F (.inr E) sh I R) : V K J mi pc L (.int l1 :: .ref l0 :: rest) sh I R c F := by
  obtain ⟨r, h1, h2⟩ := bnd h
  have hT : isT sh l0 8 = true := by unfold fX10_faultsOf at h1; exact (gd h1).1
  have ml : mL 89 = 2 := by decide +kernel
  have mk : mK 89 = 1 := by decide +kernel
  have mc : mC 89 = 8 := by decide +kernel
  rcases r with v | E
  · refine s_call (as := [.int l1, .ref l0]) (G := fun o' sh' I' R' => o' = .inl (some (.int v)) ∧ sh' = sh ∧ I' = I ∧ R' = R) hq hc rfl hr (by rw [ml]; rfl) (Or.inl rfl) (fun _ => Or.inl (Or.inl ⟨by rw [mc]; decide, by rw [mc]; exact isT_iff.mp hT⟩)) (fun z => absurd (mk.symm.trans z) (by decide)) (by rw [ml]; exact vX10_faultsOf (F := fun o' sh' I' R' => o' = .inl (some (.int v)) ∧ sh' = sh ∧ I' = I ∧ R' = R) ⟨rfl, rfl, rfl, rfl⟩ h1) ?_ ?_ ?_
    · rintro sh' I' R' c' hc' ⟨g1, rfl, rfl, rfl⟩
      cases g1
    · rintro v' sh' I' R' c' hc' ⟨g1, rfl, rfl, rfl⟩
      cases g1
      exact kk _ _ hc' h2
    · rintro E' sh' I' R' ⟨g1, rfl, rfl, rfl⟩
      cases g1
  · refine s_call (as := [.int l1, .ref l0]) (G := fun o' sh' I' R' => o' = .inr E ∧ sh' = sh ∧ I' = I ∧ R' = R) hq hc rfl hr (by rw [ml]; rfl) (Or.inl rfl) (fun _ => Or.inl (Or.inl ⟨by rw [mc]; decide, by rw [mc]; exact isT_iff.mp hT⟩)) (fun z => absurd (mk.symm.trans z) (by decide)) (by rw [ml]; exact vX10_faultsOf (F := fun o' sh' I' R' => o' = .inr E ∧ sh' = sh ∧ I' = I ∧ R' = R) ⟨rfl, rfl, rfl, rfl⟩ h1) ?_ ?_ ?_
    · rintro sh' I' R' c' hc' ⟨g1, rfl, rfl, rfl⟩
      cases g1
    · rintro v' sh' I' R' c' hc' ⟨g1, rfl, rfl, rfl⟩
      cases g1
    · rintro E' sh' I' R' ⟨g1, rfl, rfl, rfl⟩
      cases g1
      exact kx _ h2
set_option maxRecDepth 100000 in
set_option maxHeartbeats 4000000 in
def fX10_setups (fu : Nat) (sh : HS) (I : HI) (R : HR) (l0 : Nat) : Option ((Int32 ⊕ String) × HI) :=
  if isT sh l0 8 = true then
    (oT0 (fX10_needBoard fu sh I R l0) (fun E => some (.inr E, I)) fun _ =>
    (fX10_settleSetups fu sh I R l0).bind fun w2 =>
    (oR sh R l0 8 8).bind fun v3 =>
    (oI sh w2 v3 6 0).bind fun v4 =>
    some (.inl v4, w2))
  else none
set_option maxRecDepth 100000 in
set_option maxHeartbeats 4000000 in
theorem vX10_setups {K J : Nat → Nat} {fu : Nat} {sh : HS} {I : HI} {R : HR} {F : VF} {o : ((Int32 ⊕ String) × HI)} (hF : F (voI o.1) sh o.2 R) {l0 : Nat} (h0 : fX10_setups fu sh I R l0 = some o) : V K J 90 0 (ent 1 [.ref l0]) [] sh I R (0, 0) F := by
  unfold fX10_setups at h0
  obtain ⟨-, h1⟩ := gd h0; clear h0
  have hc0 : ((0 : Nat), (0 : Nat)).1 ≤ 0 ∧ ((0 : Nat), (0 : Nat)).2 ≤ 0 := ⟨Nat.le_refl _, Nat.le_refl _⟩
  show V K J 90 0 [some (.ref l0)] [] sh I R (0, 0) F
  refine s_rl (i := 0) (pc' := 1) (by decide +kernel) rfl ?_
  refine kX10_needBoard (X := 0) (Y := 0) (X' := 1) (Y' := 6) (pc' := 4) (by decide +kernel) hc0 rfl h1 (fun v1 c hc1 h2 => ?_) (fun E h2 => by have e9 := Option.some.inj h2; subst e9; exact hF); clear h1 hc0
  refine s_rl (i := 0) (pc' := 5) (by decide +kernel) rfl ?_
  refine kX10_settleSetups (X := 1) (Y := 6) (X' := 1) (Y' := 6) (pc' := 8) (by decide +kernel) hc1 rfl h2 (fun w2 c hc2 h3 => ?_); clear h2 hc1
  refine s_rl (i := 0) (pc' := 9) (by decide +kernel) rfl ?_
  refine s_gR (t := 8) (j := 8) (pc' := 12) (by decide +kernel) h3 (fun v3 h4 => ?_); clear h3
  refine s_gI (t := 6) (j := 0) (ty := 0) (pc' := 15) (by decide +kernel) rfl h4 (fun v4 h5 => ?_); clear h4
  have e9 := Option.some.inj h5; subst e9
  exact s_ri (X := 1) (Y := 6) (by decide +kernel) hc2 hF
set_option maxRecDepth 100000 in
set_option maxHeartbeats 4000000 in
theorem kX10_setups {K J : Nat → Nat} {fu : Nat} {sh : HS} {I : HI} {R : HR} {F : VF} {mi pc pc' X Y X' Y' : Nat} {L : VL} {rest : List Value} {c : Nat × Nat} {l0 : Nat} {ω : Type} {o : ω} {e : String → HI → Option ω} {g : Int32 → HI → Option ω} (hq : cQ mi pc 90 1 pc' X Y X' Y' = true) (hc : c.1 ≤ X ∧ c.2 ≤ Y) (hr : Nat.ble (catS rest) 8 = true) (h : oTh (fX10_setups fu sh I R l0) e g = some o) (kk : ∀ v w c', (c'.1 ≤ X' ∧ c'.2 ≤ Y') → g v w = some o → V K J mi pc' L ((.int v) :: rest) sh w R c' F) (kx : ∀ E w, e E w = some o → F (.inr E) sh w R) : V K J mi pc L (.ref l0 :: rest) sh I R c F := by
  obtain ⟨r, h1, h2⟩ := bnd h
  have hT : isT sh l0 8 = true := by unfold fX10_setups at h1; exact (gd h1).1
  have ml : mL 90 = 1 := by decide +kernel
  have mk : mK 90 = 1 := by decide +kernel
  have mc : mC 90 = 8 := by decide +kernel
  obtain ⟨r, w⟩ := r
  rcases r with v | E
  · refine s_call (as := [.ref l0]) (G := fun o' sh' I' R' => o' = .inl (some (.int v)) ∧ sh' = sh ∧ I' = w ∧ R' = R) hq hc rfl hr (by rw [ml]; rfl) (Or.inl rfl) (fun _ => Or.inl (Or.inl ⟨by rw [mc]; decide, by rw [mc]; exact isT_iff.mp hT⟩)) (fun z => absurd (mk.symm.trans z) (by decide)) (by rw [ml]; exact vX10_setups (F := fun o' sh' I' R' => o' = .inl (some (.int v)) ∧ sh' = sh ∧ I' = w ∧ R' = R) ⟨rfl, rfl, rfl, rfl⟩ h1) ?_ ?_ ?_
    · rintro sh' I' R' c' hc' ⟨g1, rfl, rfl, rfl⟩
      cases g1
    · rintro v' sh' I' R' c' hc' ⟨g1, rfl, rfl, rfl⟩
      cases g1
      exact kk _ _ _ hc' h2
    · rintro E' sh' I' R' ⟨g1, rfl, rfl, rfl⟩
      cases g1
  · refine s_call (as := [.ref l0]) (G := fun o' sh' I' R' => o' = .inr E ∧ sh' = sh ∧ I' = w ∧ R' = R) hq hc rfl hr (by rw [ml]; rfl) (Or.inl rfl) (fun _ => Or.inl (Or.inl ⟨by rw [mc]; decide, by rw [mc]; exact isT_iff.mp hT⟩)) (fun z => absurd (mk.symm.trans z) (by decide)) (by rw [ml]; exact vX10_setups (F := fun o' sh' I' R' => o' = .inr E ∧ sh' = sh ∧ I' = w ∧ R' = R) ⟨rfl, rfl, rfl, rfl⟩ h1) ?_ ?_ ?_
    · rintro sh' I' R' c' hc' ⟨g1, rfl, rfl, rfl⟩
      cases g1
    · rintro v' sh' I' R' c' hc' ⟨g1, rfl, rfl, rfl⟩
      cases g1
    · rintro E' sh' I' R' ⟨g1, rfl, rfl, rfl⟩
      cases g1
      exact kx _ _ h2
set_option maxRecDepth 100000 in
set_option maxHeartbeats 4000000 in
def fX10_setupOf (fu : Nat) (sh : HS) (I : HI) (R : HR) (l0 : Nat) (l1 : Int32) : Option ((Int32 ⊕ String) × HI) :=
  if isT sh l0 8 = true then
    (oT0 (fX10_needBoard fu sh I R l0) (fun E => some (.inr E, I)) fun _ =>
    oT0 (fX10_needShot fu sh I R l0 l1) (fun E => some (.inr E, I)) fun _ =>
    (fX10_settleSetups fu sh I R l0).bind fun w3 =>
    (oR sh R l0 8 8).bind fun v4 =>
    (oR sh R v4 6 1).bind fun v5 =>
    (oA sh w3 v5 l1).bind fun v6 =>
    some (.inl v6, w3))
  else none
set_option maxRecDepth 100000 in
set_option maxHeartbeats 4000000 in
theorem vX10_setupOf {K J : Nat → Nat} {fu : Nat} {sh : HS} {I : HI} {R : HR} {F : VF} {o : ((Int32 ⊕ String) × HI)} (hF : F (voI o.1) sh o.2 R) {l0 : Nat} {l1 : Int32} (h0 : fX10_setupOf fu sh I R l0 l1 = some o) : V K J 91 0 (ent 2 [.ref l0, .int l1]) [] sh I R (0, 0) F := by
  unfold fX10_setupOf at h0
  obtain ⟨-, h1⟩ := gd h0; clear h0
  have hc0 : ((0 : Nat), (0 : Nat)).1 ≤ 0 ∧ ((0 : Nat), (0 : Nat)).2 ≤ 0 := ⟨Nat.le_refl _, Nat.le_refl _⟩
  show V K J 91 0 [some (.ref l0), some (.int l1)] [] sh I R (0, 0) F
  refine s_rl (i := 0) (pc' := 1) (by decide +kernel) rfl ?_
  refine kX10_needBoard (X := 0) (Y := 0) (X' := 1) (Y' := 6) (pc' := 4) (by decide +kernel) hc0 rfl h1 (fun v1 c hc1 h2 => ?_) (fun E h2 => by have e9 := Option.some.inj h2; subst e9; exact hF); clear h1 hc0
  refine s_rl (i := 0) (pc' := 5) (by decide +kernel) rfl ?_
  refine s_il (i := 1) (pc' := 6) (by decide +kernel) rfl ?_
  refine kX10_needShot (X := 1) (Y := 6) (X' := 2) (Y' := 12) (pc' := 9) (by decide +kernel) hc1 rfl h2 (fun v2 c hc2 h3 => ?_) (fun E h3 => by have e9 := Option.some.inj h3; subst e9; exact hF); clear h2 hc1
  refine s_rl (i := 0) (pc' := 10) (by decide +kernel) rfl ?_
  refine kX10_settleSetups (X := 2) (Y := 12) (X' := 2) (Y' := 12) (pc' := 13) (by decide +kernel) hc2 rfl h3 (fun w3 c hc3 h4 => ?_); clear h3 hc2
  refine s_rl (i := 0) (pc' := 14) (by decide +kernel) rfl ?_
  refine s_gR (t := 8) (j := 8) (pc' := 17) (by decide +kernel) h4 (fun v4 h5 => ?_); clear h4
  refine s_gR (t := 6) (j := 1) (pc' := 20) (by decide +kernel) h5 (fun v5 h6 => ?_); clear h5
  refine s_il (i := 1) (pc' := 21) (by decide +kernel) rfl ?_
  refine s_al (pc' := 22) (by decide +kernel) h6 (fun v6 h7 => ?_); clear h6
  have e9 := Option.some.inj h7; subst e9
  exact s_ri (X := 2) (Y := 12) (by decide +kernel) hc3 hF
set_option maxRecDepth 100000 in
set_option maxHeartbeats 4000000 in
theorem kX10_setupOf {K J : Nat → Nat} {fu : Nat} {sh : HS} {I : HI} {R : HR} {F : VF} {mi pc pc' X Y X' Y' : Nat} {L : VL} {rest : List Value} {c : Nat × Nat} {l0 : Nat} {l1 : Int32} {ω : Type} {o : ω} {e : String → HI → Option ω} {g : Int32 → HI → Option ω} (hq : cQ mi pc 91 2 pc' X Y X' Y' = true) (hc : c.1 ≤ X ∧ c.2 ≤ Y) (hr : Nat.ble (catS rest) 8 = true) (h : oTh (fX10_setupOf fu sh I R l0 l1) e g = some o) (kk : ∀ v w c', (c'.1 ≤ X' ∧ c'.2 ≤ Y') → g v w = some o → V K J mi pc' L ((.int v) :: rest) sh w R c' F) (kx : ∀ E w, e E w = some o → F (.inr E) sh w R) : V K J mi pc L (.int l1 :: .ref l0 :: rest) sh I R c F := by
  obtain ⟨r, h1, h2⟩ := bnd h
  have hT : isT sh l0 8 = true := by unfold fX10_setupOf at h1; exact (gd h1).1
  have ml : mL 91 = 2 := by decide +kernel
  have mk : mK 91 = 1 := by decide +kernel
  have mc : mC 91 = 8 := by decide +kernel
  obtain ⟨r, w⟩ := r
  rcases r with v | E
  · refine s_call (as := [.int l1, .ref l0]) (G := fun o' sh' I' R' => o' = .inl (some (.int v)) ∧ sh' = sh ∧ I' = w ∧ R' = R) hq hc rfl hr (by rw [ml]; rfl) (Or.inl rfl) (fun _ => Or.inl (Or.inl ⟨by rw [mc]; decide, by rw [mc]; exact isT_iff.mp hT⟩)) (fun z => absurd (mk.symm.trans z) (by decide)) (by rw [ml]; exact vX10_setupOf (F := fun o' sh' I' R' => o' = .inl (some (.int v)) ∧ sh' = sh ∧ I' = w ∧ R' = R) ⟨rfl, rfl, rfl, rfl⟩ h1) ?_ ?_ ?_
    · rintro sh' I' R' c' hc' ⟨g1, rfl, rfl, rfl⟩
      cases g1
    · rintro v' sh' I' R' c' hc' ⟨g1, rfl, rfl, rfl⟩
      cases g1
      exact kk _ _ _ hc' h2
    · rintro E' sh' I' R' ⟨g1, rfl, rfl, rfl⟩
      cases g1
  · refine s_call (as := [.int l1, .ref l0]) (G := fun o' sh' I' R' => o' = .inr E ∧ sh' = sh ∧ I' = w ∧ R' = R) hq hc rfl hr (by rw [ml]; rfl) (Or.inl rfl) (fun _ => Or.inl (Or.inl ⟨by rw [mc]; decide, by rw [mc]; exact isT_iff.mp hT⟩)) (fun z => absurd (mk.symm.trans z) (by decide)) (by rw [ml]; exact vX10_setupOf (F := fun o' sh' I' R' => o' = .inr E ∧ sh' = sh ∧ I' = w ∧ R' = R) ⟨rfl, rfl, rfl, rfl⟩ h1) ?_ ?_ ?_
    · rintro sh' I' R' c' hc' ⟨g1, rfl, rfl, rfl⟩
      cases g1
    · rintro v' sh' I' R' c' hc' ⟨g1, rfl, rfl, rfl⟩
      cases g1
    · rintro E' sh' I' R' ⟨g1, rfl, rfl, rfl⟩
      cases g1
      exact kx _ _ h2
set_option maxRecDepth 100000 in
set_option maxHeartbeats 4000000 in
def fX10_needSetup (fu : Nat) (sh : HS) (I : HI) (R : HR) (l0 : Nat) (l1 : Int32) : Option ((Unit ⊕ String) × HI) :=
  if isT sh l0 8 = true then
    ((fX10_settleSetups fu sh I R l0).bind fun w1 =>
    (oR sh R l0 8 8).bind fun v2 =>
    (oI sh w1 v2 6 0).bind fun v3 =>
    oT0 (fX10_needRange fu sh w1 R l1 0 (v3 - 1)) (fun E => some (.inr E, w1)) fun _ =>
    some (.inl (), w1))
  else none
set_option maxRecDepth 100000 in
set_option maxHeartbeats 4000000 in
theorem vX10_needSetup {K J : Nat → Nat} {fu : Nat} {sh : HS} {I : HI} {R : HR} {F : VF} {o : ((Unit ⊕ String) × HI)} (hF : F (voN o.1) sh o.2 R) {l0 : Nat} {l1 : Int32} (h0 : fX10_needSetup fu sh I R l0 l1 = some o) : V K J 100 0 (ent 2 [.ref l0, .int l1]) [] sh I R (0, 0) F := by
  unfold fX10_needSetup at h0
  obtain ⟨-, h1⟩ := gd h0; clear h0
  have hc0 : ((0 : Nat), (0 : Nat)).1 ≤ 0 ∧ ((0 : Nat), (0 : Nat)).2 ≤ 0 := ⟨Nat.le_refl _, Nat.le_refl _⟩
  show V K J 100 0 [some (.ref l0), some (.int l1)] [] sh I R (0, 0) F
  refine s_rl (i := 0) (pc' := 1) (by decide +kernel) rfl ?_
  refine kX10_settleSetups (X := 0) (Y := 0) (X' := 0) (Y' := 0) (pc' := 4) (by decide +kernel) hc0 rfl h1 (fun w1 c hc1 h2 => ?_); clear h1 hc0
  refine s_il (i := 1) (pc' := 5) (by decide +kernel) rfl ?_
  refine s_c (v := 0) (pc' := 6) (by decide +kernel) ?_
  refine s_rl (i := 0) (pc' := 7) (by decide +kernel) rfl ?_
  refine s_gR (t := 8) (j := 8) (pc' := 10) (by decide +kernel) h2 (fun v2 h3 => ?_); clear h2
  refine s_gI (t := 6) (j := 0) (ty := 0) (pc' := 13) (by decide +kernel) rfl h3 (fun v3 h4 => ?_); clear h3
  refine s_c (v := 1) (pc' := 14) (by decide +kernel) ?_
  refine s_a (ins := .isub) (pc' := 15) (by decide +kernel) rfl ?_
  refine kX10_needRange (X := 0) (Y := 0) (X' := 1) (Y' := 6) (pc' := 18) (by decide +kernel) hc1 rfl h4 (fun v4 c hc2 h5 => ?_) (fun E h5 => by have e9 := Option.some.inj h5; subst e9; exact hF); clear h4 hc1
  have e9 := Option.some.inj h5; subst e9
  exact s_rv (X := 1) (Y := 6) (by decide +kernel) hc2 hF
set_option maxRecDepth 100000 in
set_option maxHeartbeats 4000000 in
theorem kX10_needSetup {K J : Nat → Nat} {fu : Nat} {sh : HS} {I : HI} {R : HR} {F : VF} {mi pc pc' X Y X' Y' : Nat} {L : VL} {rest : List Value} {c : Nat × Nat} {l0 : Nat} {l1 : Int32} {ω : Type} {o : ω} {e : String → HI → Option ω} {g : Unit → HI → Option ω} (hq : cQ mi pc 100 2 pc' X Y X' Y' = true) (hc : c.1 ≤ X ∧ c.2 ≤ Y) (hr : Nat.ble (catS rest) 8 = true) (h : oTh (fX10_needSetup fu sh I R l0 l1) e g = some o) (kk : ∀ v w c', (c'.1 ≤ X' ∧ c'.2 ≤ Y') → g v w = some o → V K J mi pc' L (rest) sh w R c' F) (kx : ∀ E w, e E w = some o → F (.inr E) sh w R) : V K J mi pc L (.int l1 :: .ref l0 :: rest) sh I R c F := by
  obtain ⟨r, h1, h2⟩ := bnd h
  have hT : isT sh l0 8 = true := by unfold fX10_needSetup at h1; exact (gd h1).1
  have ml : mL 100 = 2 := by decide +kernel
  have mk : mK 100 = 1 := by decide +kernel
  have mc : mC 100 = 8 := by decide +kernel
  obtain ⟨r, w⟩ := r
  rcases r with v | E
  · refine s_call (as := [.int l1, .ref l0]) (G := fun o' sh' I' R' => o' = .inl none ∧ sh' = sh ∧ I' = w ∧ R' = R) hq hc rfl hr (by rw [ml]; rfl) (Or.inl rfl) (fun _ => Or.inl (Or.inl ⟨by rw [mc]; decide, by rw [mc]; exact isT_iff.mp hT⟩)) (fun z => absurd (mk.symm.trans z) (by decide)) (by rw [ml]; exact vX10_needSetup (F := fun o' sh' I' R' => o' = .inl none ∧ sh' = sh ∧ I' = w ∧ R' = R) ⟨rfl, rfl, rfl, rfl⟩ h1) ?_ ?_ ?_
    · rintro sh' I' R' c' hc' ⟨g1, rfl, rfl, rfl⟩
      cases g1
      exact kk _ _ _ hc' h2
    · rintro v' sh' I' R' c' hc' ⟨g1, rfl, rfl, rfl⟩
      cases g1
    · rintro E' sh' I' R' ⟨g1, rfl, rfl, rfl⟩
      cases g1
  · refine s_call (as := [.int l1, .ref l0]) (G := fun o' sh' I' R' => o' = .inr E ∧ sh' = sh ∧ I' = w ∧ R' = R) hq hc rfl hr (by rw [ml]; rfl) (Or.inl rfl) (fun _ => Or.inl (Or.inl ⟨by rw [mc]; decide, by rw [mc]; exact isT_iff.mp hT⟩)) (fun z => absurd (mk.symm.trans z) (by decide)) (by rw [ml]; exact vX10_needSetup (F := fun o' sh' I' R' => o' = .inr E ∧ sh' = sh ∧ I' = w ∧ R' = R) ⟨rfl, rfl, rfl, rfl⟩ h1) ?_ ?_ ?_
    · rintro sh' I' R' c' hc' ⟨g1, rfl, rfl, rfl⟩
      cases g1
    · rintro v' sh' I' R' c' hc' ⟨g1, rfl, rfl, rfl⟩
      cases g1
    · rintro E' sh' I' R' ⟨g1, rfl, rfl, rfl⟩
      cases g1
      exact kx _ _ h2
set_option maxRecDepth 100000 in
set_option maxHeartbeats 4000000 in
def fX10_setup (fu : Nat) (sh : HS) (I : HI) (R : HR) (l0 : Nat) (l1 : Int32) (l2 : Int32) : Option ((Int32 ⊕ String) × HI) :=
  if isT sh l0 8 = true then
    (oT0 (fX10_needBoard fu sh I R l0) (fun E => some (.inr E, I)) fun _ =>
    oTh (fX10_needSetup fu sh I R l0 l1) (fun E w2 => some (.inr E, w2)) fun _ w2 =>
    oT0 (fX10_needRange fu sh w2 R l2 0 4) (fun E => some (.inr E, w2)) fun _ =>
    if l2 = 0 then
      ((oR sh R l0 8 8).bind fun v4 =>
      (oR sh R v4 6 2).bind fun v5 =>
      (oA sh w2 v5 l1).bind fun v6 =>
      some (.inl v6, w2))
    else
      if l2 = 1 then
        ((oR sh R l0 8 8).bind fun v7 =>
        (oR sh R v7 6 3).bind fun v8 =>
        (oA sh w2 v8 l1).bind fun v9 =>
        some (.inl v9, w2))
      else
        if l2 = 2 then
          ((oR sh R l0 8 8).bind fun v10 =>
          (oR sh R v10 6 4).bind fun v11 =>
          (oA sh w2 v11 l1).bind fun v12 =>
          some (.inl v12, w2))
        else
          if l2 = 3 then
            ((oR sh R l0 8 8).bind fun v13 =>
            (oR sh R v13 6 5).bind fun v14 =>
            (oA sh w2 v14 l1).bind fun v15 =>
            some (.inl v15, w2))
          else
            (oR sh R l0 8 8).bind fun v16 =>
            (oR sh R v16 6 6).bind fun v17 =>
            (oA sh w2 v17 l1).bind fun v18 =>
            some (.inl v18, w2))
  else none
set_option maxRecDepth 100000 in
set_option maxHeartbeats 4000000 in
theorem vX10_setup {K J : Nat → Nat} {fu : Nat} {sh : HS} {I : HI} {R : HR} {F : VF} {o : ((Int32 ⊕ String) × HI)} (hF : F (voI o.1) sh o.2 R) {l0 : Nat} {l1 : Int32} {l2 : Int32} (h0 : fX10_setup fu sh I R l0 l1 l2 = some o) : V K J 92 0 (ent 3 [.ref l0, .int l1, .int l2]) [] sh I R (0, 0) F := by
  unfold fX10_setup at h0
  obtain ⟨-, h1⟩ := gd h0; clear h0
  have hc0 : ((0 : Nat), (0 : Nat)).1 ≤ 0 ∧ ((0 : Nat), (0 : Nat)).2 ≤ 0 := ⟨Nat.le_refl _, Nat.le_refl _⟩
  show V K J 92 0 [some (.ref l0), some (.int l1), some (.int l2)] [] sh I R (0, 0) F
  refine s_rl (i := 0) (pc' := 1) (by decide +kernel) rfl ?_
  refine kX10_needBoard (X := 0) (Y := 0) (X' := 1) (Y' := 6) (pc' := 4) (by decide +kernel) hc0 rfl h1 (fun v1 c hc1 h2 => ?_) (fun E h2 => by have e9 := Option.some.inj h2; subst e9; exact hF); clear h1 hc0
  refine s_rl (i := 0) (pc' := 5) (by decide +kernel) rfl ?_
  refine s_il (i := 1) (pc' := 6) (by decide +kernel) rfl ?_
  refine kX10_needSetup (X := 1) (Y := 6) (X' := 2) (Y' := 12) (pc' := 9) (by decide +kernel) hc1 rfl h2 (fun v2 w2 c hc2 h3 => ?_) (fun E w2 h3 => by have e9 := Option.some.inj h3; subst e9; exact hF); clear h2 hc1
  refine s_il (i := 2) (pc' := 10) (by decide +kernel) rfl ?_
  refine s_c (v := 0) (pc' := 11) (by decide +kernel) ?_
  refine s_c (v := 4) (pc' := 12) (by decide +kernel) ?_
  refine kX10_needRange (X := 2) (Y := 12) (X' := 3) (Y' := 18) (pc' := 15) (by decide +kernel) hc2 rfl h3 (fun v3 c hc3 h4 => ?_) (fun E h4 => by have e9 := Option.some.inj h4; subst e9; exact hF); clear h3 hc2
  refine s_il (i := 2) (pc' := 16) (by decide +kernel) rfl ?_
  by_cases e0 : l2 = 0
  · have h5 := h4
    rw [if_pos e0] at h5
    clear h4
    refine s_sw (v := 0) (t := 48) e0 (by decide +kernel) ?_
    refine s_rl (i := 0) (pc' := 49) (by decide +kernel) rfl ?_
    refine s_gR (t := 8) (j := 8) (pc' := 52) (by decide +kernel) h5 (fun v4 h6 => ?_); clear h5
    refine s_gR (t := 6) (j := 2) (pc' := 55) (by decide +kernel) h6 (fun v5 h7 => ?_); clear h6
    refine s_il (i := 1) (pc' := 56) (by decide +kernel) rfl ?_
    refine s_al (pc' := 57) (by decide +kernel) h7 (fun v6 h8 => ?_); clear h7
    have e9 := Option.some.inj h8; subst e9
    exact s_ri (X := 3) (Y := 18) (by decide +kernel) hc3 hF
  rw [if_neg e0] at h4
  by_cases e1 : l2 = 1
  · have h5 := h4
    rw [if_pos e1] at h5
    clear h4
    refine s_sw (v := 1) (t := 58) e1 (by decide +kernel) ?_
    refine s_rl (i := 0) (pc' := 59) (by decide +kernel) rfl ?_
    refine s_gR (t := 8) (j := 8) (pc' := 62) (by decide +kernel) h5 (fun v7 h6 => ?_); clear h5
    refine s_gR (t := 6) (j := 3) (pc' := 65) (by decide +kernel) h6 (fun v8 h7 => ?_); clear h6
    refine s_il (i := 1) (pc' := 66) (by decide +kernel) rfl ?_
    refine s_al (pc' := 67) (by decide +kernel) h7 (fun v9 h8 => ?_); clear h7
    have e9 := Option.some.inj h8; subst e9
    exact s_ri (X := 3) (Y := 18) (by decide +kernel) hc3 hF
  rw [if_neg e1] at h4
  by_cases e2 : l2 = 2
  · have h5 := h4
    rw [if_pos e2] at h5
    clear h4
    refine s_sw (v := 2) (t := 68) e2 (by decide +kernel) ?_
    refine s_rl (i := 0) (pc' := 69) (by decide +kernel) rfl ?_
    refine s_gR (t := 8) (j := 8) (pc' := 72) (by decide +kernel) h5 (fun v10 h6 => ?_); clear h5
    refine s_gR (t := 6) (j := 4) (pc' := 75) (by decide +kernel) h6 (fun v11 h7 => ?_); clear h6
    refine s_il (i := 1) (pc' := 76) (by decide +kernel) rfl ?_
    refine s_al (pc' := 77) (by decide +kernel) h7 (fun v12 h8 => ?_); clear h7
    have e9 := Option.some.inj h8; subst e9
    exact s_ri (X := 3) (Y := 18) (by decide +kernel) hc3 hF
  rw [if_neg e2] at h4
  by_cases e3 : l2 = 3
  · have h5 := h4
    rw [if_pos e3] at h5
    clear h4
    refine s_sw (v := 3) (t := 78) e3 (by decide +kernel) ?_
    refine s_rl (i := 0) (pc' := 79) (by decide +kernel) rfl ?_
    refine s_gR (t := 8) (j := 8) (pc' := 82) (by decide +kernel) h5 (fun v13 h6 => ?_); clear h5
    refine s_gR (t := 6) (j := 5) (pc' := 85) (by decide +kernel) h6 (fun v14 h7 => ?_); clear h6
    refine s_il (i := 1) (pc' := 86) (by decide +kernel) rfl ?_
    refine s_al (pc' := 87) (by decide +kernel) h7 (fun v15 h8 => ?_); clear h7
    have e9 := Option.some.inj h8; subst e9
    exact s_ri (X := 3) (Y := 18) (by decide +kernel) hc3 hF
  rw [if_neg e3] at h4
  refine s_sd (n := 4) (t := 88) (sw_out4 e0 e1 e2 e3) (by decide +kernel) ?_
  refine s_rl (i := 0) (pc' := 89) (by decide +kernel) rfl ?_
  refine s_gR (t := 8) (j := 8) (pc' := 92) (by decide +kernel) h4 (fun v16 h5 => ?_); clear h4
  refine s_gR (t := 6) (j := 6) (pc' := 95) (by decide +kernel) h5 (fun v17 h6 => ?_); clear h5
  refine s_il (i := 1) (pc' := 96) (by decide +kernel) rfl ?_
  refine s_al (pc' := 97) (by decide +kernel) h6 (fun v18 h7 => ?_); clear h6
  have e9 := Option.some.inj h7; subst e9
  exact s_ri (X := 3) (Y := 18) (by decide +kernel) hc3 hF
set_option maxRecDepth 100000 in
set_option maxHeartbeats 4000000 in
theorem kX10_setup {K J : Nat → Nat} {fu : Nat} {sh : HS} {I : HI} {R : HR} {F : VF} {mi pc pc' X Y X' Y' : Nat} {L : VL} {rest : List Value} {c : Nat × Nat} {l0 : Nat} {l1 : Int32} {l2 : Int32} {ω : Type} {o : ω} {e : String → HI → Option ω} {g : Int32 → HI → Option ω} (hq : cQ mi pc 92 3 pc' X Y X' Y' = true) (hc : c.1 ≤ X ∧ c.2 ≤ Y) (hr : Nat.ble (catS rest) 8 = true) (h : oTh (fX10_setup fu sh I R l0 l1 l2) e g = some o) (kk : ∀ v w c', (c'.1 ≤ X' ∧ c'.2 ≤ Y') → g v w = some o → V K J mi pc' L ((.int v) :: rest) sh w R c' F) (kx : ∀ E w, e E w = some o → F (.inr E) sh w R) : V K J mi pc L (.int l2 :: .int l1 :: .ref l0 :: rest) sh I R c F := by
  obtain ⟨r, h1, h2⟩ := bnd h
  have hT : isT sh l0 8 = true := by unfold fX10_setup at h1; exact (gd h1).1
  have ml : mL 92 = 3 := by decide +kernel
  have mk : mK 92 = 1 := by decide +kernel
  have mc : mC 92 = 8 := by decide +kernel
  obtain ⟨r, w⟩ := r
  rcases r with v | E
  · refine s_call (as := [.int l2, .int l1, .ref l0]) (G := fun o' sh' I' R' => o' = .inl (some (.int v)) ∧ sh' = sh ∧ I' = w ∧ R' = R) hq hc rfl hr (by rw [ml]; rfl) (Or.inl rfl) (fun _ => Or.inl (Or.inl ⟨by rw [mc]; decide, by rw [mc]; exact isT_iff.mp hT⟩)) (fun z => absurd (mk.symm.trans z) (by decide)) (by rw [ml]; exact vX10_setup (F := fun o' sh' I' R' => o' = .inl (some (.int v)) ∧ sh' = sh ∧ I' = w ∧ R' = R) ⟨rfl, rfl, rfl, rfl⟩ h1) ?_ ?_ ?_
    · rintro sh' I' R' c' hc' ⟨g1, rfl, rfl, rfl⟩
      cases g1
    · rintro v' sh' I' R' c' hc' ⟨g1, rfl, rfl, rfl⟩
      cases g1
      exact kk _ _ _ hc' h2
    · rintro E' sh' I' R' ⟨g1, rfl, rfl, rfl⟩
      cases g1
  · refine s_call (as := [.int l2, .int l1, .ref l0]) (G := fun o' sh' I' R' => o' = .inr E ∧ sh' = sh ∧ I' = w ∧ R' = R) hq hc rfl hr (by rw [ml]; rfl) (Or.inl rfl) (fun _ => Or.inl (Or.inl ⟨by rw [mc]; decide, by rw [mc]; exact isT_iff.mp hT⟩)) (fun z => absurd (mk.symm.trans z) (by decide)) (by rw [ml]; exact vX10_setup (F := fun o' sh' I' R' => o' = .inr E ∧ sh' = sh ∧ I' = w ∧ R' = R) ⟨rfl, rfl, rfl, rfl⟩ h1) ?_ ?_ ?_
    · rintro sh' I' R' c' hc' ⟨g1, rfl, rfl, rfl⟩
      cases g1
    · rintro v' sh' I' R' c' hc' ⟨g1, rfl, rfl, rfl⟩
      cases g1
    · rintro E' sh' I' R' ⟨g1, rfl, rfl, rfl⟩
      cases g1
      exact kx _ _ h2
set_option maxRecDepth 100000 in
set_option maxHeartbeats 4000000 in
def fX10_change_b44 (fu : Nat) (sh : HS) (R : HR) (I : HI) (s0 : Int32) : Option ((Int32 ⊕ String) × HI) :=
  some (.inl s0, I)
set_option maxRecDepth 100000 in
set_option maxHeartbeats 4000000 in
theorem vX10_change_b44 {K J : Nat → Nat} {fu : Nat} {sh : HS} {R : HR} {F : VF} {o : ((Int32 ⊕ String) × HI)} (hF : F (voI o.1) sh o.2 R) {I : HI} {s0 : Int32} {d0 d1 d2 : Option Value} {c : Nat × Nat} (hc0 : c.1 ≤ 3 ∧ c.2 ≤ 18) (h0 : fX10_change_b44 fu sh R I s0 = some o) : V K J 93 44 [d0, d1, d2] [.int s0] sh I R c F := by
  unfold fX10_change_b44 at h0
  have e9 := Option.some.inj h0; subst e9
  exact s_ri (X := 3) (Y := 18) (by decide +kernel) hc0 hF
set_option maxRecDepth 100000 in
set_option maxHeartbeats 4000000 in
def fX10_change_b14 (fu : Nat) (sh : HS) (R : HR) (I : HI) (l0 : Nat) (l1 : Int32) (l2 : Int32) : Option ((Int32 ⊕ String) × HI) :=
  oTh (fX10_needSetup fu sh I R l0 l2) (fun E w2 => some (.inr E, w2)) fun _ w2 =>
  if l1 = (-1) then
    ((oR sh R l0 8 8).bind fun v5 =>
    (fX7_costOfStart fu sh w2 R v5 l2).bind fun v6 =>
    (fX10_change_b44 fu sh R) w2 v6)
  else
    ((oR sh R l0 8 8).bind fun v3 =>
    (fX7_costOfChange fu sh w2 R v3 l1 l2).bind fun v4 =>
    (fX10_change_b44 fu sh R) w2 v4)
set_option maxRecDepth 100000 in
set_option maxHeartbeats 4000000 in
theorem vX10_change_b14 {K J : Nat → Nat} {fu : Nat} {sh : HS} {R : HR} {F : VF} {o : ((Int32 ⊕ String) × HI)} (hF : F (voI o.1) sh o.2 R) {I : HI} {l0 : Nat} {l1 : Int32} {l2 : Int32} {c : Nat × Nat} (hc0 : c.1 ≤ 2 ∧ c.2 ≤ 12) (h0 : fX10_change_b14 fu sh R I l0 l1 l2 = some o) : V K J 93 14 [some (.ref l0), some (.int l1), some (.int l2)] [] sh I R c F := by
  unfold fX10_change_b14 at h0
  refine s_rl (i := 0) (pc' := 15) (by decide +kernel) rfl ?_
  refine s_il (i := 2) (pc' := 16) (by decide +kernel) rfl ?_
  refine kX10_needSetup (X := 2) (Y := 12) (X' := 3) (Y' := 18) (pc' := 19) (by decide +kernel) hc0 rfl h0 (fun v2 w2 c hc1 h1 => ?_) (fun E w2 h1 => by have e9 := Option.some.inj h1; subst e9; exact hF); clear h0 hc0
  refine s_il (i := 1) (pc' := 20) (by decide +kernel) rfl ?_
  refine s_c (v := (-1)) (pc' := 21) (by decide +kernel) ?_
  refine s_ifn (ins := .if_icmp .ne 14) (t := 35) (pc' := 24) (by decide +kernel) rfl rfl rfl h1 (fun p2 h2 => ?_) (fun p2 h2 => ?_) <;> clear h1
  · refine s_rl (i := 0) (pc' := 36) (by decide +kernel) rfl ?_
    refine s_gR (t := 8) (j := 8) (pc' := 39) (by decide +kernel) h2 (fun v3 h3 => ?_); clear h2
    refine s_il (i := 1) (pc' := 40) (by decide +kernel) rfl ?_
    refine s_il (i := 2) (pc' := 41) (by decide +kernel) rfl ?_
    refine kX7_costOfChange (X := 3) (Y := 18) (X' := 3) (Y' := 18) (pc' := 44) (by decide +kernel) hc1 rfl h3 (fun v4 c hc2 h4 => ?_); clear h3 hc1
    exact (vX10_change_b44 hF) hc2 h4
  · refine s_rl (i := 0) (pc' := 25) (by decide +kernel) rfl ?_
    refine s_gR (t := 8) (j := 8) (pc' := 28) (by decide +kernel) h2 (fun v5 h3 => ?_); clear h2
    refine s_il (i := 2) (pc' := 29) (by decide +kernel) rfl ?_
    refine kX7_costOfStart (X := 3) (Y := 18) (X' := 3) (Y' := 18) (pc' := 32) (by decide +kernel) hc1 rfl h3 (fun v6 c hc2 h4 => ?_); clear h3 hc1
    refine s_go (t := 44) (by decide +kernel) ?_
    exact (vX10_change_b44 hF) hc2 h4
set_option maxRecDepth 100000 in
set_option maxHeartbeats 4000000 in
def fX10_change (fu : Nat) (sh : HS) (I : HI) (R : HR) (l0 : Nat) (l1 : Int32) (l2 : Int32) : Option ((Int32 ⊕ String) × HI) :=
  if isT sh l0 8 = true then
    (oT0 (fX10_needBoard fu sh I R l0) (fun E => some (.inr E, I)) fun _ =>
    if l1 = (-1) then
      ((fX10_change_b14 fu sh R) I l0 l1 l2)
    else
      (oTh (fX10_needSetup fu sh I R l0 l1) (fun E w7 => some (.inr E, w7)) fun _ w7 =>
      (fX10_change_b14 fu sh R) w7 l0 l1 l2))
  else none
set_option maxRecDepth 100000 in
set_option maxHeartbeats 4000000 in
theorem vX10_change {K J : Nat → Nat} {fu : Nat} {sh : HS} {I : HI} {R : HR} {F : VF} {o : ((Int32 ⊕ String) × HI)} (hF : F (voI o.1) sh o.2 R) {l0 : Nat} {l1 : Int32} {l2 : Int32} (h0 : fX10_change fu sh I R l0 l1 l2 = some o) : V K J 93 0 (ent 3 [.ref l0, .int l1, .int l2]) [] sh I R (0, 0) F := by
  unfold fX10_change at h0
  obtain ⟨-, h1⟩ := gd h0; clear h0
  have hc0 : ((0 : Nat), (0 : Nat)).1 ≤ 0 ∧ ((0 : Nat), (0 : Nat)).2 ≤ 0 := ⟨Nat.le_refl _, Nat.le_refl _⟩
  show V K J 93 0 [some (.ref l0), some (.int l1), some (.int l2)] [] sh I R (0, 0) F
  refine s_rl (i := 0) (pc' := 1) (by decide +kernel) rfl ?_
  refine kX10_needBoard (X := 0) (Y := 0) (X' := 1) (Y' := 6) (pc' := 4) (by decide +kernel) hc0 rfl h1 (fun v1 c hc1 h2 => ?_) (fun E h2 => by have e9 := Option.some.inj h2; subst e9; exact hF); clear h1 hc0
  refine s_il (i := 1) (pc' := 5) (by decide +kernel) rfl ?_
  refine s_c (v := (-1)) (pc' := 6) (by decide +kernel) ?_
  refine s_if (ins := .if_icmp .eq 8) (t := 14) (pc' := 9) (by decide +kernel) rfl rfl rfl h2 (fun p3 h3 => ?_) (fun p3 h3 => ?_) <;> clear h2
  · exact (vX10_change_b14 hF) ⟨Nat.le_trans hc1.1 (by decide), Nat.le_trans hc1.2 (by decide)⟩ h3
  · refine s_rl (i := 0) (pc' := 10) (by decide +kernel) rfl ?_
    refine s_il (i := 1) (pc' := 11) (by decide +kernel) rfl ?_
    refine kX10_needSetup (X := 1) (Y := 6) (X' := 2) (Y' := 12) (pc' := 14) (by decide +kernel) hc1 rfl h3 (fun v7 w7 c hc2 h4 => ?_) (fun E w7 h4 => by have e9 := Option.some.inj h4; subst e9; exact hF); clear h3 hc1
    exact (vX10_change_b14 hF) hc2 h4
set_option maxRecDepth 100000 in
set_option maxHeartbeats 4000000 in
theorem kX10_change {K J : Nat → Nat} {fu : Nat} {sh : HS} {I : HI} {R : HR} {F : VF} {mi pc pc' X Y X' Y' : Nat} {L : VL} {rest : List Value} {c : Nat × Nat} {l0 : Nat} {l1 : Int32} {l2 : Int32} {ω : Type} {o : ω} {e : String → HI → Option ω} {g : Int32 → HI → Option ω} (hq : cQ mi pc 93 3 pc' X Y X' Y' = true) (hc : c.1 ≤ X ∧ c.2 ≤ Y) (hr : Nat.ble (catS rest) 8 = true) (h : oTh (fX10_change fu sh I R l0 l1 l2) e g = some o) (kk : ∀ v w c', (c'.1 ≤ X' ∧ c'.2 ≤ Y') → g v w = some o → V K J mi pc' L ((.int v) :: rest) sh w R c' F) (kx : ∀ E w, e E w = some o → F (.inr E) sh w R) : V K J mi pc L (.int l2 :: .int l1 :: .ref l0 :: rest) sh I R c F := by
  obtain ⟨r, h1, h2⟩ := bnd h
  have hT : isT sh l0 8 = true := by unfold fX10_change at h1; exact (gd h1).1
  have ml : mL 93 = 3 := by decide +kernel
  have mk : mK 93 = 1 := by decide +kernel
  have mc : mC 93 = 8 := by decide +kernel
  obtain ⟨r, w⟩ := r
  rcases r with v | E
  · refine s_call (as := [.int l2, .int l1, .ref l0]) (G := fun o' sh' I' R' => o' = .inl (some (.int v)) ∧ sh' = sh ∧ I' = w ∧ R' = R) hq hc rfl hr (by rw [ml]; rfl) (Or.inl rfl) (fun _ => Or.inl (Or.inl ⟨by rw [mc]; decide, by rw [mc]; exact isT_iff.mp hT⟩)) (fun z => absurd (mk.symm.trans z) (by decide)) (by rw [ml]; exact vX10_change (F := fun o' sh' I' R' => o' = .inl (some (.int v)) ∧ sh' = sh ∧ I' = w ∧ R' = R) ⟨rfl, rfl, rfl, rfl⟩ h1) ?_ ?_ ?_
    · rintro sh' I' R' c' hc' ⟨g1, rfl, rfl, rfl⟩
      cases g1
    · rintro v' sh' I' R' c' hc' ⟨g1, rfl, rfl, rfl⟩
      cases g1
      exact kk _ _ _ hc' h2
    · rintro E' sh' I' R' ⟨g1, rfl, rfl, rfl⟩
      cases g1
  · refine s_call (as := [.int l2, .int l1, .ref l0]) (G := fun o' sh' I' R' => o' = .inr E ∧ sh' = sh ∧ I' = w ∧ R' = R) hq hc rfl hr (by rw [ml]; rfl) (Or.inl rfl) (fun _ => Or.inl (Or.inl ⟨by rw [mc]; decide, by rw [mc]; exact isT_iff.mp hT⟩)) (fun z => absurd (mk.symm.trans z) (by decide)) (by rw [ml]; exact vX10_change (F := fun o' sh' I' R' => o' = .inr E ∧ sh' = sh ∧ I' = w ∧ R' = R) ⟨rfl, rfl, rfl, rfl⟩ h1) ?_ ?_ ?_
    · rintro sh' I' R' c' hc' ⟨g1, rfl, rfl, rfl⟩
      cases g1
    · rintro v' sh' I' R' c' hc' ⟨g1, rfl, rfl, rfl⟩
      cases g1
    · rintro E' sh' I' R' ⟨g1, rfl, rfl, rfl⟩
      cases g1
      exact kx _ _ h2
set_option maxRecDepth 100000 in
set_option maxHeartbeats 4000000 in
def fX10_plainCost_b50 (fu : Nat) (sh : HS) (R : HR) (k12 : HI → Nat → Int32 → Int32 → Option ((Int32 ⊕ String) × HI)) (I : HI) (l0 : Nat) (l2 : Int32) (s0 : Int32) (s1 : Int32) : Option ((Int32 ⊕ String) × HI) :=
  k12 I l0 (s1 + s0) (l2 + 1)
set_option maxRecDepth 100000 in
set_option maxHeartbeats 4000000 in
theorem vX10_plainCost_b50 {K J : Nat → Nat} {fu : Nat} {sh : HS} {R : HR} {F : VF} {o : ((Int32 ⊕ String) × HI)} (hF : F (voI o.1) sh o.2 R) {k12 : HI → Nat → Int32 → Int32 → Option ((Int32 ⊕ String) × HI)} (hk12 : ∀ {I : HI} {l0 : Nat} {l1 : Int32} {l2 : Int32}  {c : Nat × Nat}, (c.1 ≤ 1 ∧ c.2 ≤ 6) → k12 I l0 l1 l2 = some o → V K J 94 12 [some (.ref l0), some (.int l1), some (.int l2)] [] sh I R c F) {I : HI} {l0 : Nat} {l2 : Int32} {s0 : Int32} {s1 : Int32} {d1 : Option Value} {c : Nat × Nat} (hc0 : c.1 ≤ 1 ∧ c.2 ≤ 6) (h0 : fX10_plainCost_b50 fu sh R k12 I l0 l2 s0 s1 = some o) : V K J 94 50 [some (.ref l0), d1, some (.int l2)] [.int s0, .int s1] sh I R c F := by
  unfold fX10_plainCost_b50 at h0
  refine s_a (ins := .iadd) (pc' := 51) (by decide +kernel) rfl ?_
  refine s_is (i := 1) (pc' := 52) (L' := [some (.ref l0), some (.int (s1 + s0)), some (.int l2)]) (by decide +kernel) rfl rfl ?_
  refine s_inc (i := 2) (z := 1) (pc' := 55) (L' := [some (.ref l0), some (.int (s1 + s0)), some (.int (l2 + 1))]) (by decide +kernel) rfl rfl rfl ?_
  refine s_go (t := 12) (by decide +kernel) ?_
  exact hk12 hc0 h0
set_option maxRecDepth 100000 in
set_option maxHeartbeats 4000000 in
def fX10_plainCost_b12 (fu : Nat) (sh : HS) (R : HR) (k12 : HI → Nat → Int32 → Int32 → Option ((Int32 ⊕ String) × HI)) (I : HI) (l0 : Nat) (l1 : Int32) (l2 : Int32) : Option ((Int32 ⊕ String) × HI) :=
  (oR sh R l0 8 8).bind fun v3 =>
  (oI sh I v3 6 0).bind fun v4 =>
  if v4 ≤ l2 then
    (some (.inl l1, I))
  else
    (if l2 = 0 then
      ((oR sh R l0 8 8).bind fun v7 =>
      (fX7_costOfStart fu sh I R v7 l2).bind fun v8 =>
      (fX10_plainCost_b50 fu sh R k12) I l0 l2 v8 l1)
    else
      ((oR sh R l0 8 8).bind fun v5 =>
      (fX7_costOfChange fu sh I R v5 (l2 - 1) l2).bind fun v6 =>
      (fX10_plainCost_b50 fu sh R k12) I l0 l2 v6 l1))
set_option maxRecDepth 100000 in
set_option maxHeartbeats 4000000 in
theorem vX10_plainCost_b12 {K J : Nat → Nat} {fu : Nat} {sh : HS} {R : HR} {F : VF} {o : ((Int32 ⊕ String) × HI)} (hF : F (voI o.1) sh o.2 R) {k12 : HI → Nat → Int32 → Int32 → Option ((Int32 ⊕ String) × HI)} (hk12 : ∀ {I : HI} {l0 : Nat} {l1 : Int32} {l2 : Int32}  {c : Nat × Nat}, (c.1 ≤ 1 ∧ c.2 ≤ 6) → k12 I l0 l1 l2 = some o → V K J 94 12 [some (.ref l0), some (.int l1), some (.int l2)] [] sh I R c F) {I : HI} {l0 : Nat} {l1 : Int32} {l2 : Int32} {c : Nat × Nat} (hc0 : c.1 ≤ 1 ∧ c.2 ≤ 6) (h0 : fX10_plainCost_b12 fu sh R k12 I l0 l1 l2 = some o) : V K J 94 12 [some (.ref l0), some (.int l1), some (.int l2)] [] sh I R c F := by
  unfold fX10_plainCost_b12 at h0
  refine s_il (i := 2) (pc' := 13) (by decide +kernel) rfl ?_
  refine s_rl (i := 0) (pc' := 14) (by decide +kernel) rfl ?_
  refine s_gR (t := 8) (j := 8) (pc' := 17) (by decide +kernel) h0 (fun v3 h1 => ?_); clear h0
  refine s_gI (t := 6) (j := 0) (ty := 0) (pc' := 20) (by decide +kernel) rfl h1 (fun v4 h2 => ?_); clear h1
  refine s_if (ins := .if_icmp .ge 38) (t := 58) (pc' := 23) (by decide +kernel) rfl rfl rfl h2 (fun p3 h3 => ?_) (fun p3 h3 => ?_) <;> clear h2
  · refine s_il (i := 1) (pc' := 59) (by decide +kernel) rfl ?_
    have e9 := Option.some.inj h3; subst e9
    exact s_ri (X := 1) (Y := 6) (by decide +kernel) hc0 hF
  · refine s_il (i := 1) (pc' := 24) (by decide +kernel) rfl ?_
    refine s_il (i := 2) (pc' := 25) (by decide +kernel) rfl ?_
    refine s_ifn (ins := .ifCond .ne 14) (t := 39) (pc' := 28) (by decide +kernel) rfl rfl rfl h3 (fun p4 h4 => ?_) (fun p4 h4 => ?_) <;> clear h3
    · refine s_rl (i := 0) (pc' := 40) (by decide +kernel) rfl ?_
      refine s_gR (t := 8) (j := 8) (pc' := 43) (by decide +kernel) h4 (fun v5 h5 => ?_); clear h4
      refine s_il (i := 2) (pc' := 44) (by decide +kernel) rfl ?_
      refine s_c (v := 1) (pc' := 45) (by decide +kernel) ?_
      refine s_a (ins := .isub) (pc' := 46) (by decide +kernel) rfl ?_
      refine s_il (i := 2) (pc' := 47) (by decide +kernel) rfl ?_
      refine kX7_costOfChange (X := 1) (Y := 6) (X' := 1) (Y' := 6) (pc' := 50) (by decide +kernel) hc0 rfl h5 (fun v6 c hc1 h6 => ?_); clear h5 hc0
      exact (vX10_plainCost_b50 hF hk12) hc1 h6
    · refine s_rl (i := 0) (pc' := 29) (by decide +kernel) rfl ?_
      refine s_gR (t := 8) (j := 8) (pc' := 32) (by decide +kernel) h4 (fun v7 h5 => ?_); clear h4
      refine s_il (i := 2) (pc' := 33) (by decide +kernel) rfl ?_
      refine kX7_costOfStart (X := 1) (Y := 6) (X' := 1) (Y' := 6) (pc' := 36) (by decide +kernel) hc0 rfl h5 (fun v8 c hc1 h6 => ?_); clear h5 hc0
      refine s_go (t := 50) (by decide +kernel) ?_
      exact (vX10_plainCost_b50 hF hk12) hc1 h6
set_option maxRecDepth 100000 in
set_option maxHeartbeats 4000000 in
def fX10_plainCost_l12 (fu : Nat) (sh : HS) (R : HR) : Nat → HI → Nat → Int32 → Int32 → Option ((Int32 ⊕ String) × HI)
  | 0 => fun _ _ _ _ => none
  | n + 1 => fX10_plainCost_b12 fu sh R (fX10_plainCost_l12 fu sh R n)
set_option maxRecDepth 100000 in
set_option maxHeartbeats 4000000 in
theorem vX10_plainCost_l12 {K J : Nat → Nat} {fu : Nat} {sh : HS} {R : HR} {F : VF} {o : ((Int32 ⊕ String) × HI)} (hF : F (voI o.1) sh o.2 R) : ∀ (n : Nat) {I : HI} {l0 : Nat} {l1 : Int32} {l2 : Int32} {c : Nat × Nat} (_ : c.1 ≤ 1 ∧ c.2 ≤ 6) (_ : fX10_plainCost_l12 fu sh R n I l0 l1 l2 = some o), V K J 94 12 [some (.ref l0), some (.int l1), some (.int l2)] [] sh I R c F := by
  intro n
  induction n with
  | zero => exact fun _ h0 => nomatch h0
  | succ n ih => exact fun hc0 h0 => vX10_plainCost_b12 hF ih hc0 h0
set_option maxRecDepth 100000 in
set_option maxHeartbeats 4000000 in
def fX10_plainCost (fu : Nat) (sh : HS) (I : HI) (R : HR) (l0 : Nat) : Option ((Int32 ⊕ String) × HI) :=
  if isT sh l0 8 = true then
    (oT0 (fX10_needBoard fu sh I R l0) (fun E => some (.inr E, I)) fun _ =>
    (fX10_settleSetups fu sh I R l0).bind fun w2 =>
    (fX10_plainCost_l12 fu sh R fu) w2 l0 0 0)
  else none
set_option maxRecDepth 100000 in
set_option maxHeartbeats 4000000 in
theorem vX10_plainCost {K J : Nat → Nat} {fu : Nat} {sh : HS} {I : HI} {R : HR} {F : VF} {o : ((Int32 ⊕ String) × HI)} (hF : F (voI o.1) sh o.2 R) {l0 : Nat} (h0 : fX10_plainCost fu sh I R l0 = some o) : V K J 94 0 (ent 3 [.ref l0]) [] sh I R (0, 0) F := by
  unfold fX10_plainCost at h0
  obtain ⟨-, h1⟩ := gd h0; clear h0
  have hc0 : ((0 : Nat), (0 : Nat)).1 ≤ 0 ∧ ((0 : Nat), (0 : Nat)).2 ≤ 0 := ⟨Nat.le_refl _, Nat.le_refl _⟩
  show V K J 94 0 [some (.ref l0), none, none] [] sh I R (0, 0) F
  refine s_rl (i := 0) (pc' := 1) (by decide +kernel) rfl ?_
  refine kX10_needBoard (X := 0) (Y := 0) (X' := 1) (Y' := 6) (pc' := 4) (by decide +kernel) hc0 rfl h1 (fun v1 c hc1 h2 => ?_) (fun E h2 => by have e9 := Option.some.inj h2; subst e9; exact hF); clear h1 hc0
  refine s_rl (i := 0) (pc' := 5) (by decide +kernel) rfl ?_
  refine kX10_settleSetups (X := 1) (Y := 6) (X' := 1) (Y' := 6) (pc' := 8) (by decide +kernel) hc1 rfl h2 (fun w2 c hc2 h3 => ?_); clear h2 hc1
  refine s_c (v := 0) (pc' := 9) (by decide +kernel) ?_
  refine s_is (i := 1) (pc' := 10) (L' := [some (.ref l0), some (.int 0), none]) (by decide +kernel) rfl rfl ?_
  refine s_c (v := 0) (pc' := 11) (by decide +kernel) ?_
  refine s_is (i := 2) (pc' := 12) (L' := [some (.ref l0), some (.int 0), some (.int 0)]) (by decide +kernel) rfl rfl ?_
  exact (vX10_plainCost_l12 hF fu) hc2 h3
set_option maxRecDepth 100000 in
set_option maxHeartbeats 4000000 in
theorem kX10_plainCost {K J : Nat → Nat} {fu : Nat} {sh : HS} {I : HI} {R : HR} {F : VF} {mi pc pc' X Y X' Y' : Nat} {L : VL} {rest : List Value} {c : Nat × Nat} {l0 : Nat} {ω : Type} {o : ω} {e : String → HI → Option ω} {g : Int32 → HI → Option ω} (hq : cQ mi pc 94 1 pc' X Y X' Y' = true) (hc : c.1 ≤ X ∧ c.2 ≤ Y) (hr : Nat.ble (catS rest) 8 = true) (h : oTh (fX10_plainCost fu sh I R l0) e g = some o) (kk : ∀ v w c', (c'.1 ≤ X' ∧ c'.2 ≤ Y') → g v w = some o → V K J mi pc' L ((.int v) :: rest) sh w R c' F) (kx : ∀ E w, e E w = some o → F (.inr E) sh w R) : V K J mi pc L (.ref l0 :: rest) sh I R c F := by
  obtain ⟨r, h1, h2⟩ := bnd h
  have hT : isT sh l0 8 = true := by unfold fX10_plainCost at h1; exact (gd h1).1
  have ml : mL 94 = 3 := by decide +kernel
  have mk : mK 94 = 1 := by decide +kernel
  have mc : mC 94 = 8 := by decide +kernel
  obtain ⟨r, w⟩ := r
  rcases r with v | E
  · refine s_call (as := [.ref l0]) (G := fun o' sh' I' R' => o' = .inl (some (.int v)) ∧ sh' = sh ∧ I' = w ∧ R' = R) hq hc rfl hr (by rw [ml]; rfl) (Or.inl rfl) (fun _ => Or.inl (Or.inl ⟨by rw [mc]; decide, by rw [mc]; exact isT_iff.mp hT⟩)) (fun z => absurd (mk.symm.trans z) (by decide)) (by rw [ml]; exact vX10_plainCost (F := fun o' sh' I' R' => o' = .inl (some (.int v)) ∧ sh' = sh ∧ I' = w ∧ R' = R) ⟨rfl, rfl, rfl, rfl⟩ h1) ?_ ?_ ?_
    · rintro sh' I' R' c' hc' ⟨g1, rfl, rfl, rfl⟩
      cases g1
    · rintro v' sh' I' R' c' hc' ⟨g1, rfl, rfl, rfl⟩
      cases g1
      exact kk _ _ _ hc' h2
    · rintro E' sh' I' R' ⟨g1, rfl, rfl, rfl⟩
      cases g1
  · refine s_call (as := [.ref l0]) (G := fun o' sh' I' R' => o' = .inr E ∧ sh' = sh ∧ I' = w ∧ R' = R) hq hc rfl hr (by rw [ml]; rfl) (Or.inl rfl) (fun _ => Or.inl (Or.inl ⟨by rw [mc]; decide, by rw [mc]; exact isT_iff.mp hT⟩)) (fun z => absurd (mk.symm.trans z) (by decide)) (by rw [ml]; exact vX10_plainCost (F := fun o' sh' I' R' => o' = .inr E ∧ sh' = sh ∧ I' = w ∧ R' = R) ⟨rfl, rfl, rfl, rfl⟩ h1) ?_ ?_ ?_
    · rintro sh' I' R' c' hc' ⟨g1, rfl, rfl, rfl⟩
      cases g1
    · rintro v' sh' I' R' c' hc' ⟨g1, rfl, rfl, rfl⟩
      cases g1
    · rintro E' sh' I' R' ⟨g1, rfl, rfl, rfl⟩
      cases g1
      exact kx _ _ h2
set_option maxRecDepth 100000 in
set_option maxHeartbeats 4000000 in
def fX11_direction_b72 (fu : Nat) (sh : HS) (I : HI) (R : HR) (s0 : Int32) : Option Int32 :=
  some s0
set_option maxRecDepth 100000 in
set_option maxHeartbeats 4000000 in
theorem vX11_direction_b72 {K J : Nat → Nat} {fu : Nat} {sh : HS} {I : HI} {R : HR} {F : VF} {o : Int32} (hF : F (.inl (some (.int o))) sh I R) {s0 : Int32} {d0 d1 d2 : Option Value} {c : Nat × Nat} (hc0 : c.1 ≤ 0 ∧ c.2 ≤ 0) (h0 : fX11_direction_b72 fu sh I R s0 = some o) : V K J 113 72 [d0, d1, d2] [.int s0] sh I R c F := by
  unfold fX11_direction_b72 at h0
  have e9 := Option.some.inj h0; subst e9
  exact s_ri (X := 0) (Y := 0) (by decide +kernel) hc0 hF
set_option maxRecDepth 100000 in
set_option maxHeartbeats 4000000 in
def fX11_direction_b63 (fu : Nat) (sh : HS) (I : HI) (R : HR) (l2 : Int32) : Option Int32 :=
  (oM (4000 - l2) 4000).bind fun v2 =>
  (fX11_direction_b72 fu sh I R) v2
set_option maxRecDepth 100000 in
set_option maxHeartbeats 4000000 in
theorem vX11_direction_b63 {K J : Nat → Nat} {fu : Nat} {sh : HS} {I : HI} {R : HR} {F : VF} {o : Int32} (hF : F (.inl (some (.int o))) sh I R) {l2 : Int32} {d0 d1 : Option Value} {c : Nat × Nat} (hc0 : c.1 ≤ 0 ∧ c.2 ≤ 0) (h0 : fX11_direction_b63 fu sh I R l2 = some o) : V K J 113 63 [d0, d1, some (.int l2)] [] sh I R c F := by
  unfold fX11_direction_b63 at h0
  refine s_c (v := 4000) (pc' := 66) (by decide +kernel) ?_
  refine s_il (i := 2) (pc' := 67) (by decide +kernel) rfl ?_
  refine s_a (ins := .isub) (pc' := 68) (by decide +kernel) rfl ?_
  refine s_c (v := 4000) (pc' := 71) (by decide +kernel) ?_
  refine s_rm (pc' := 72) (by decide +kernel) h0 (fun v2 h1 => ?_); clear h0
  exact (vX11_direction_b72 hF) hc0 h1
set_option maxRecDepth 100000 in
set_option maxHeartbeats 4000000 in
def fX11_direction_b47 (fu : Nat) (sh : HS) (I : HI) (R : HR) (l0 : Int32) (l1 : Int32) (l2 : Int32) : Option Int32 :=
  if 0 ≤ l0 then
    ((fX11_direction_b63 fu sh I R) l2)
  else
    (if 0 < l1 then
      ((fX11_direction_b63 fu sh I R) l2)
    else
      ((fX11_direction_b72 fu sh I R) (2000 + l2)))
set_option maxRecDepth 100000 in
set_option maxHeartbeats 4000000 in
theorem vX11_direction_b47 {K J : Nat → Nat} {fu : Nat} {sh : HS} {I : HI} {R : HR} {F : VF} {o : Int32} (hF : F (.inl (some (.int o))) sh I R) {l0 : Int32} {l1 : Int32} {l2 : Int32} {c : Nat × Nat} (hc0 : c.1 ≤ 0 ∧ c.2 ≤ 0) (h0 : fX11_direction_b47 fu sh I R l0 l1 l2 = some o) : V K J 113 47 [some (.int l0), some (.int l1), some (.int l2)] [] sh I R c F := by
  unfold fX11_direction_b47 at h0
  refine s_il (i := 0) (pc' := 48) (by decide +kernel) rfl ?_
  refine s_if (ins := .ifCond .ge 15) (t := 63) (pc' := 51) (by decide +kernel) rfl rfl rfl h0 (fun p1 h1 => ?_) (fun p1 h1 => ?_) <;> clear h0
  · exact (vX11_direction_b63 hF) hc0 h1
  · refine s_il (i := 1) (pc' := 52) (by decide +kernel) rfl ?_
    refine s_if (ins := .ifCond .gt 11) (t := 63) (pc' := 55) (by decide +kernel) rfl rfl rfl h1 (fun p2 h2 => ?_) (fun p2 h2 => ?_) <;> clear h1
    · exact (vX11_direction_b63 hF) hc0 h2
    · refine s_c (v := 2000) (pc' := 58) (by decide +kernel) ?_
      refine s_il (i := 2) (pc' := 59) (by decide +kernel) rfl ?_
      refine s_a (ins := .iadd) (pc' := 60) (by decide +kernel) rfl ?_
      refine s_go (t := 72) (by decide +kernel) ?_
      exact (vX11_direction_b72 hF) hc0 h2
set_option maxRecDepth 100000 in
set_option maxHeartbeats 4000000 in
def fX11_direction_b31 (fu : Nat) (sh : HS) (I : HI) (R : HR) (l0 : Int32) (l1 : Int32) (l2 : Int32) : Option Int32 :=
  if 0 < l0 then
    ((fX11_direction_b47 fu sh I R) l0 l1 l2)
  else
    (if l1 ≤ 0 then
      ((fX11_direction_b47 fu sh I R) l0 l1 l2)
    else
      ((fX11_direction_b72 fu sh I R) (2000 - l2)))
set_option maxRecDepth 100000 in
set_option maxHeartbeats 4000000 in
theorem vX11_direction_b31 {K J : Nat → Nat} {fu : Nat} {sh : HS} {I : HI} {R : HR} {F : VF} {o : Int32} (hF : F (.inl (some (.int o))) sh I R) {l0 : Int32} {l1 : Int32} {l2 : Int32} {c : Nat × Nat} (hc0 : c.1 ≤ 0 ∧ c.2 ≤ 0) (h0 : fX11_direction_b31 fu sh I R l0 l1 l2 = some o) : V K J 113 31 [some (.int l0), some (.int l1), some (.int l2)] [] sh I R c F := by
  unfold fX11_direction_b31 at h0
  refine s_il (i := 0) (pc' := 32) (by decide +kernel) rfl ?_
  refine s_if (ins := .ifCond .gt 15) (t := 47) (pc' := 35) (by decide +kernel) rfl rfl rfl h0 (fun p1 h1 => ?_) (fun p1 h1 => ?_) <;> clear h0
  · exact (vX11_direction_b47 hF) hc0 h1
  · refine s_il (i := 1) (pc' := 36) (by decide +kernel) rfl ?_
    refine s_if (ins := .ifCond .le 11) (t := 47) (pc' := 39) (by decide +kernel) rfl rfl rfl h1 (fun p2 h2 => ?_) (fun p2 h2 => ?_) <;> clear h1
    · exact (vX11_direction_b47 hF) hc0 h2
    · refine s_c (v := 2000) (pc' := 42) (by decide +kernel) ?_
      refine s_il (i := 2) (pc' := 43) (by decide +kernel) rfl ?_
      refine s_a (ins := .isub) (pc' := 44) (by decide +kernel) rfl ?_
      refine s_go (t := 72) (by decide +kernel) ?_
      exact (vX11_direction_b72 hF) hc0 h2
set_option maxRecDepth 100000 in
set_option maxHeartbeats 4000000 in
def fX11_direction (fu : Nat) (sh : HS) (I : HI) (R : HR) (l0 : Int32) (l1 : Int32) : Option Int32 :=
  (oD (1000 * (iAbs l1)) ((iAbs l0) + (iAbs l1))).bind fun v1 =>
  if l0 ≤ 0 then
    ((fX11_direction_b31 fu sh I R) l0 l1 v1)
  else
    (if l1 < 0 then
      ((fX11_direction_b31 fu sh I R) l0 l1 v1)
    else
      ((fX11_direction_b72 fu sh I R) v1))
set_option maxRecDepth 100000 in
set_option maxHeartbeats 4000000 in
theorem vX11_direction {K J : Nat → Nat} {fu : Nat} {sh : HS} {I : HI} {R : HR} {F : VF} {o : Int32} (hF : F (.inl (some (.int o))) sh I R) {l0 : Int32} {l1 : Int32} (h0 : fX11_direction fu sh I R l0 l1 = some o) : V K J 113 0 (ent 3 [.int l0, .int l1]) [] sh I R (0, 0) F := by
  unfold fX11_direction at h0
  have h1 := h0; clear h0
  have hc0 : ((0 : Nat), (0 : Nat)).1 ≤ 0 ∧ ((0 : Nat), (0 : Nat)).2 ≤ 0 := ⟨Nat.le_refl _, Nat.le_refl _⟩
  show V K J 113 0 [some (.int l0), some (.int l1), none] [] sh I R (0, 0) F
  refine s_c (v := 1000) (pc' := 3) (by decide +kernel) ?_
  refine s_il (i := 1) (pc' := 4) (by decide +kernel) rfl ?_
  refine s_abs (X := 0) (Y := 0) (pc' := 7) (by decide +kernel) hc0 rfl ?_
  refine s_a (ins := .imul) (pc' := 8) (by decide +kernel) rfl ?_
  refine s_il (i := 0) (pc' := 9) (by decide +kernel) rfl ?_
  refine s_abs (X := 0) (Y := 0) (pc' := 12) (by decide +kernel) hc0 rfl ?_
  refine s_il (i := 1) (pc' := 13) (by decide +kernel) rfl ?_
  refine s_abs (X := 0) (Y := 0) (pc' := 16) (by decide +kernel) hc0 rfl ?_
  refine s_a (ins := .iadd) (pc' := 17) (by decide +kernel) rfl ?_
  refine s_dv (pc' := 18) (by decide +kernel) h1 (fun v1 h2 => ?_); clear h1
  refine s_is (i := 2) (pc' := 19) (L' := [some (.int l0), some (.int l1), some (.int v1)]) (by decide +kernel) rfl rfl ?_
  refine s_il (i := 0) (pc' := 20) (by decide +kernel) rfl ?_
  refine s_if (ins := .ifCond .le 11) (t := 31) (pc' := 23) (by decide +kernel) rfl rfl rfl h2 (fun p3 h3 => ?_) (fun p3 h3 => ?_) <;> clear h2
  · exact (vX11_direction_b31 hF) hc0 h3
  · refine s_il (i := 1) (pc' := 24) (by decide +kernel) rfl ?_
    refine s_if (ins := .ifCond .lt 7) (t := 31) (pc' := 27) (by decide +kernel) rfl rfl rfl h3 (fun p4 h4 => ?_) (fun p4 h4 => ?_) <;> clear h3
    · exact (vX11_direction_b31 hF) hc0 h4
    · refine s_il (i := 2) (pc' := 28) (by decide +kernel) rfl ?_
      refine s_go (t := 72) (by decide +kernel) ?_
      exact (vX11_direction_b72 hF) hc0 h4
set_option maxRecDepth 100000 in
set_option maxHeartbeats 4000000 in
theorem kX11_direction {K J : Nat → Nat} {fu : Nat} {sh : HS} {I : HI} {R : HR} {F : VF} {mi pc pc' X Y X' Y' : Nat} {L : VL} {rest : List Value} {c : Nat × Nat} {l0 : Int32} {l1 : Int32} {ω : Type} {o : ω} {g : Int32 → Option ω} (hq : cQ mi pc 113 2 pc' X Y X' Y' = true) (hc : c.1 ≤ X ∧ c.2 ≤ Y) (hr : Nat.ble (catS rest) 8 = true) (h : (fX11_direction fu sh I R l0 l1).bind g = some o) (kk : ∀ v c', (c'.1 ≤ X' ∧ c'.2 ≤ Y') → g v = some o → V K J mi pc' L ((.int v) :: rest) sh I R c' F) : V K J mi pc L (.int l1 :: .int l0 :: rest) sh I R c F := by
  obtain ⟨r, h1, h2⟩ := bnd h
  have ml : mL 113 = 3 := by decide +kernel
  have mk : mK 113 = 0 := by decide +kernel
  refine s_call (as := [.int l1, .int l0]) (G := fun o' sh' I' R' => o' = .inl (some (.int r)) ∧ sh' = sh ∧ I' = I ∧ R' = R) hq hc rfl hr (by rw [ml]; rfl) (Or.inl rfl) (fun z => absurd (mk.symm.trans z) (by decide)) (fun z => absurd (mk.symm.trans z) (by decide)) (by rw [ml]; exact vX11_direction (F := fun o' sh' I' R' => o' = .inl (some (.int r)) ∧ sh' = sh ∧ I' = I ∧ R' = R) ⟨rfl, rfl, rfl, rfl⟩ h1) ?_ ?_ ?_
  · rintro sh' I' R' c' hc' ⟨g1, rfl, rfl, rfl⟩
    cases g1
  · rintro v' sh' I' R' c' hc' ⟨g1, rfl, rfl, rfl⟩
    cases g1
    exact kk _ _ hc' h2
  · rintro E' sh' I' R' ⟨g1, rfl, rfl, rfl⟩
    cases g1
set_option maxRecDepth 100000 in
set_option maxHeartbeats 4000000 in
def fX11_turn (fu : Nat) (sh : HS) (I : HI) (R : HR) (l0 : Int32) (l1 : Int32) : Option Int32 :=
  some (iMin (iAbs (l0 - l1)) (4000 - (iAbs (l0 - l1))))
set_option maxRecDepth 100000 in
set_option maxHeartbeats 4000000 in
theorem vX11_turn {K J : Nat → Nat} {fu : Nat} {sh : HS} {I : HI} {R : HR} {F : VF} {o : Int32} (hF : F (.inl (some (.int o))) sh I R) {l0 : Int32} {l1 : Int32} (h0 : fX11_turn fu sh I R l0 l1 = some o) : V K J 114 0 (ent 2 [.int l0, .int l1]) [] sh I R (0, 0) F := by
  unfold fX11_turn at h0
  have h1 := h0; clear h0
  have hc0 : ((0 : Nat), (0 : Nat)).1 ≤ 0 ∧ ((0 : Nat), (0 : Nat)).2 ≤ 0 := ⟨Nat.le_refl _, Nat.le_refl _⟩
  show V K J 114 0 [some (.int l0), some (.int l1)] [] sh I R (0, 0) F
  refine s_il (i := 0) (pc' := 1) (by decide +kernel) rfl ?_
  refine s_il (i := 1) (pc' := 2) (by decide +kernel) rfl ?_
  refine s_a (ins := .isub) (pc' := 3) (by decide +kernel) rfl ?_
  refine s_abs (X := 0) (Y := 0) (pc' := 6) (by decide +kernel) hc0 rfl ?_
  refine s_c (v := 4000) (pc' := 9) (by decide +kernel) ?_
  refine s_il (i := 0) (pc' := 10) (by decide +kernel) rfl ?_
  refine s_il (i := 1) (pc' := 11) (by decide +kernel) rfl ?_
  refine s_a (ins := .isub) (pc' := 12) (by decide +kernel) rfl ?_
  refine s_abs (X := 0) (Y := 0) (pc' := 15) (by decide +kernel) hc0 rfl ?_
  refine s_a (ins := .isub) (pc' := 16) (by decide +kernel) rfl ?_
  refine s_min (X := 0) (Y := 0) (pc' := 19) (by decide +kernel) hc0 rfl ?_
  have e9 := Option.some.inj h1; subst e9
  exact s_ri (X := 0) (Y := 0) (by decide +kernel) hc0 hF
set_option maxRecDepth 100000 in
set_option maxHeartbeats 4000000 in
theorem kX11_turn {K J : Nat → Nat} {fu : Nat} {sh : HS} {I : HI} {R : HR} {F : VF} {mi pc pc' X Y X' Y' : Nat} {L : VL} {rest : List Value} {c : Nat × Nat} {l0 : Int32} {l1 : Int32} {ω : Type} {o : ω} {g : Int32 → Option ω} (hq : cQ mi pc 114 2 pc' X Y X' Y' = true) (hc : c.1 ≤ X ∧ c.2 ≤ Y) (hr : Nat.ble (catS rest) 8 = true) (h : (fX11_turn fu sh I R l0 l1).bind g = some o) (kk : ∀ v c', (c'.1 ≤ X' ∧ c'.2 ≤ Y') → g v = some o → V K J mi pc' L ((.int v) :: rest) sh I R c' F) : V K J mi pc L (.int l1 :: .int l0 :: rest) sh I R c F := by
  obtain ⟨r, h1, h2⟩ := bnd h
  have ml : mL 114 = 2 := by decide +kernel
  have mk : mK 114 = 0 := by decide +kernel
  refine s_call (as := [.int l1, .int l0]) (G := fun o' sh' I' R' => o' = .inl (some (.int r)) ∧ sh' = sh ∧ I' = I ∧ R' = R) hq hc rfl hr (by rw [ml]; rfl) (Or.inl rfl) (fun z => absurd (mk.symm.trans z) (by decide)) (fun z => absurd (mk.symm.trans z) (by decide)) (by rw [ml]; exact vX11_turn (F := fun o' sh' I' R' => o' = .inl (some (.int r)) ∧ sh' = sh ∧ I' = I ∧ R' = R) ⟨rfl, rfl, rfl, rfl⟩ h1) ?_ ?_ ?_
  · rintro sh' I' R' c' hc' ⟨g1, rfl, rfl, rfl⟩
    cases g1
  · rintro v' sh' I' R' c' hc' ⟨g1, rfl, rfl, rfl⟩
    cases g1
    exact kk _ _ hc' h2
  · rintro E' sh' I' R' ⟨g1, rfl, rfl, rfl⟩
    cases g1
set_option maxRecDepth 100000 in
set_option maxHeartbeats 4000000 in
def fJ6_stringSize_0f7a4_b16 (fu : Nat) (sh : HS) (I : HI) (R : HR) (k16 : Int32 → Int32 → Int32 → Int32 → Option Int32) (l0 : Int32) (l1 : Int32) (l2 : Int32) (l3 : Int32) : Option Int32 :=
  if 10 ≤ l3 then
    (some (10 + l1))
  else
    (if l0 ≤ l2 then
      (k16 l0 l1 (10 * l2) (l3 + 1))
    else
      (some (l3 + l1)))
set_option maxRecDepth 100000 in
set_option maxHeartbeats 4000000 in
theorem vJ6_stringSize_0f7a4_b16 {K J : Nat → Nat} {fu : Nat} {sh : HS} {I : HI} {R : HR} {F : VF} {o : Int32} (hF : F (.inl (some (.int o))) sh I R) {k16 : Int32 → Int32 → Int32 → Int32 → Option Int32} (hk16 : ∀ {l0 : Int32} {l1 : Int32} {l2 : Int32} {l3 : Int32}  {c : Nat × Nat}, (c.1 ≤ 0 ∧ c.2 ≤ 0) → k16 l0 l1 l2 l3 = some o → V K J 149 16 [some (.int l0), some (.int l1), some (.int l2), some (.int l3)] [] sh I R c F) {l0 : Int32} {l1 : Int32} {l2 : Int32} {l3 : Int32} {c : Nat × Nat} (hc0 : c.1 ≤ 0 ∧ c.2 ≤ 0) (h0 : fJ6_stringSize_0f7a4_b16 fu sh I R k16 l0 l1 l2 l3 = some o) : V K J 149 16 [some (.int l0), some (.int l1), some (.int l2), some (.int l3)] [] sh I R c F := by
  unfold fJ6_stringSize_0f7a4_b16 at h0
  refine s_il (i := 3) (pc' := 17) (by decide +kernel) rfl ?_
  refine s_c (v := 10) (pc' := 19) (by decide +kernel) ?_
  refine s_if (ins := .if_icmp .ge 23) (t := 42) (pc' := 22) (by decide +kernel) rfl rfl rfl h0 (fun p1 h1 => ?_) (fun p1 h1 => ?_) <;> clear h0
  · refine s_c (v := 10) (pc' := 44) (by decide +kernel) ?_
    refine s_il (i := 1) (pc' := 45) (by decide +kernel) rfl ?_
    refine s_a (ins := .iadd) (pc' := 46) (by decide +kernel) rfl ?_
    have e9 := Option.some.inj h1; subst e9
    exact s_ri (X := 0) (Y := 0) (by decide +kernel) hc0 hF
  · refine s_il (i := 0) (pc' := 23) (by decide +kernel) rfl ?_
    refine s_il (i := 2) (pc' := 24) (by decide +kernel) rfl ?_
    refine s_if (ins := .if_icmp .le 7) (t := 31) (pc' := 27) (by decide +kernel) rfl rfl rfl h1 (fun p2 h2 => ?_) (fun p2 h2 => ?_) <;> clear h1
    · refine s_c (v := 10) (pc' := 33) (by decide +kernel) ?_
      refine s_il (i := 2) (pc' := 34) (by decide +kernel) rfl ?_
      refine s_a (ins := .imul) (pc' := 35) (by decide +kernel) rfl ?_
      refine s_is (i := 2) (pc' := 36) (L' := [some (.int l0), some (.int l1), some (.int (10 * l2)), some (.int l3)]) (by decide +kernel) rfl rfl ?_
      refine s_inc (i := 3) (z := 1) (pc' := 39) (L' := [some (.int l0), some (.int l1), some (.int (10 * l2)), some (.int (l3 + 1))]) (by decide +kernel) rfl rfl rfl ?_
      refine s_go (t := 16) (by decide +kernel) ?_
      exact hk16 hc0 h2
    · refine s_il (i := 3) (pc' := 28) (by decide +kernel) rfl ?_
      refine s_il (i := 1) (pc' := 29) (by decide +kernel) rfl ?_
      refine s_a (ins := .iadd) (pc' := 30) (by decide +kernel) rfl ?_
      have e9 := Option.some.inj h2; subst e9
      exact s_ri (X := 0) (Y := 0) (by decide +kernel) hc0 hF
set_option maxRecDepth 100000 in
set_option maxHeartbeats 4000000 in
def fJ6_stringSize_0f7a4_l16 (fu : Nat) (sh : HS) (I : HI) (R : HR) : Nat → Int32 → Int32 → Int32 → Int32 → Option Int32
  | 0 => fun _ _ _ _ => none
  | n + 1 => fJ6_stringSize_0f7a4_b16 fu sh I R (fJ6_stringSize_0f7a4_l16 fu sh I R n)
set_option maxRecDepth 100000 in
set_option maxHeartbeats 4000000 in
theorem vJ6_stringSize_0f7a4_l16 {K J : Nat → Nat} {fu : Nat} {sh : HS} {I : HI} {R : HR} {F : VF} {o : Int32} (hF : F (.inl (some (.int o))) sh I R) : ∀ (n : Nat) {l0 : Int32} {l1 : Int32} {l2 : Int32} {l3 : Int32} {c : Nat × Nat} (_ : c.1 ≤ 0 ∧ c.2 ≤ 0) (_ : fJ6_stringSize_0f7a4_l16 fu sh I R n l0 l1 l2 l3 = some o), V K J 149 16 [some (.int l0), some (.int l1), some (.int l2), some (.int l3)] [] sh I R c F := by
  intro n
  induction n with
  | zero => exact fun _ h0 => nomatch h0
  | succ n ih => exact fun hc0 h0 => vJ6_stringSize_0f7a4_b16 hF ih hc0 h0
set_option maxRecDepth 100000 in
set_option maxHeartbeats 4000000 in
def fJ6_stringSize_0f7a4_b11 (fu : Nat) (sh : HS) (I : HI) (R : HR) (l0 : Int32) (l1 : Int32) : Option Int32 :=
  (fJ6_stringSize_0f7a4_l16 fu sh I R fu) l0 l1 (-10) 1
set_option maxRecDepth 100000 in
set_option maxHeartbeats 4000000 in
theorem vJ6_stringSize_0f7a4_b11 {K J : Nat → Nat} {fu : Nat} {sh : HS} {I : HI} {R : HR} {F : VF} {o : Int32} (hF : F (.inl (some (.int o))) sh I R) {l0 : Int32} {l1 : Int32} {d2 d3 : Option Value} {c : Nat × Nat} (hc0 : c.1 ≤ 0 ∧ c.2 ≤ 0) (h0 : fJ6_stringSize_0f7a4_b11 fu sh I R l0 l1 = some o) : V K J 149 11 [some (.int l0), some (.int l1), d2, d3] [] sh I R c F := by
  unfold fJ6_stringSize_0f7a4_b11 at h0
  refine s_c (v := (-10)) (pc' := 13) (by decide +kernel) ?_
  refine s_is (i := 2) (pc' := 14) (L' := [some (.int l0), some (.int l1), some (.int (-10)), d3]) (by decide +kernel) rfl rfl ?_
  refine s_c (v := 1) (pc' := 15) (by decide +kernel) ?_
  refine s_is (i := 3) (pc' := 16) (L' := [some (.int l0), some (.int l1), some (.int (-10)), some (.int 1)]) (by decide +kernel) rfl rfl ?_
  exact (vJ6_stringSize_0f7a4_l16 hF fu) hc0 h0
set_option maxRecDepth 100000 in
set_option maxHeartbeats 4000000 in
def fJ6_stringSize_0f7a4 (fu : Nat) (sh : HS) (I : HI) (R : HR) (l0 : Int32) : Option Int32 :=
  if l0 < 0 then
    ((fJ6_stringSize_0f7a4_b11 fu sh I R) l0 1)
  else
    ((fJ6_stringSize_0f7a4_b11 fu sh I R) (-l0) 0)
set_option maxRecDepth 100000 in
set_option maxHeartbeats 4000000 in
theorem vJ6_stringSize_0f7a4 {K J : Nat → Nat} {fu : Nat} {sh : HS} {I : HI} {R : HR} {F : VF} {o : Int32} (hF : F (.inl (some (.int o))) sh I R) {l0 : Int32} (h0 : fJ6_stringSize_0f7a4 fu sh I R l0 = some o) : V K J 149 0 (ent 4 [.int l0]) [] sh I R (0, 0) F := by
  unfold fJ6_stringSize_0f7a4 at h0
  have h1 := h0; clear h0
  have hc0 : ((0 : Nat), (0 : Nat)).1 ≤ 0 ∧ ((0 : Nat), (0 : Nat)).2 ≤ 0 := ⟨Nat.le_refl _, Nat.le_refl _⟩
  show V K J 149 0 [some (.int l0), none, none, none] [] sh I R (0, 0) F
  refine s_c (v := 1) (pc' := 1) (by decide +kernel) ?_
  refine s_is (i := 1) (pc' := 2) (L' := [some (.int l0), some (.int 1), none, none]) (by decide +kernel) rfl rfl ?_
  refine s_il (i := 0) (pc' := 3) (by decide +kernel) rfl ?_
  refine s_if (ins := .ifCond .lt 8) (t := 11) (pc' := 6) (by decide +kernel) rfl rfl rfl h1 (fun p2 h2 => ?_) (fun p2 h2 => ?_) <;> clear h1
  · exact (vJ6_stringSize_0f7a4_b11 hF) hc0 h2
  · refine s_c (v := 0) (pc' := 7) (by decide +kernel) ?_
    refine s_is (i := 1) (pc' := 8) (L' := [some (.int l0), some (.int 0), none, none]) (by decide +kernel) rfl rfl ?_
    refine s_il (i := 0) (pc' := 9) (by decide +kernel) rfl ?_
    refine s_a (ins := .ineg) (pc' := 10) (by decide +kernel) rfl ?_
    refine s_is (i := 0) (pc' := 11) (L' := [some (.int (-l0)), some (.int 0), none, none]) (by decide +kernel) rfl rfl ?_
    exact (vJ6_stringSize_0f7a4_b11 hF) hc0 h2
set_option maxRecDepth 100000 in
set_option maxHeartbeats 4000000 in
theorem kJ6_stringSize_0f7a4 {K J : Nat → Nat} {fu : Nat} {sh : HS} {I : HI} {R : HR} {F : VF} {mi pc pc' X Y X' Y' : Nat} {L : VL} {rest : List Value} {c : Nat × Nat} {l0 : Int32} {ω : Type} {o : ω} {g : Int32 → Option ω} (hq : cQ mi pc 149 1 pc' X Y X' Y' = true) (hc : c.1 ≤ X ∧ c.2 ≤ Y) (hr : Nat.ble (catS rest) 8 = true) (h : (fJ6_stringSize_0f7a4 fu sh I R l0).bind g = some o) (kk : ∀ v c', (c'.1 ≤ X' ∧ c'.2 ≤ Y') → g v = some o → V K J mi pc' L ((.int v) :: rest) sh I R c' F) : V K J mi pc L (.int l0 :: rest) sh I R c F := by
  obtain ⟨r, h1, h2⟩ := bnd h
  have ml : mL 149 = 4 := by decide +kernel
  have mk : mK 149 = 0 := by decide +kernel
  refine s_call (as := [.int l0]) (G := fun o' sh' I' R' => o' = .inl (some (.int r)) ∧ sh' = sh ∧ I' = I ∧ R' = R) hq hc rfl hr (by rw [ml]; rfl) (Or.inl rfl) (fun z => absurd (mk.symm.trans z) (by decide)) (fun z => absurd (mk.symm.trans z) (by decide)) (by rw [ml]; exact vJ6_stringSize_0f7a4 (F := fun o' sh' I' R' => o' = .inl (some (.int r)) ∧ sh' = sh ∧ I' = I ∧ R' = R) ⟨rfl, rfl, rfl, rfl⟩ h1) ?_ ?_ ?_
  · rintro sh' I' R' c' hc' ⟨g1, rfl, rfl, rfl⟩
    cases g1
  · rintro v' sh' I' R' c' hc' ⟨g1, rfl, rfl, rfl⟩
    cases g1
    exact kk _ _ hc' h2
  · rintro E' sh' I' R' ⟨g1, rfl, rfl, rfl⟩
    cases g1
set_option maxRecDepth 100000 in
set_option maxHeartbeats 4000000 in
def fJ6_numberOfTrailingZeros_0f7a4_b74 (fu : Nat) (sh : HS) (I : HI) (R : HR) (l0 : Int32) (l1 : Int32) : Option Int32 :=
  some (l1 + (iShr l0 1))
set_option maxRecDepth 100000 in
set_option maxHeartbeats 4000000 in
theorem vJ6_numberOfTrailingZeros_0f7a4_b74 {K J : Nat → Nat} {fu : Nat} {sh : HS} {I : HI} {R : HR} {F : VF} {o : Int32} (hF : F (.inl (some (.int o))) sh I R) {l0 : Int32} {l1 : Int32} {c : Nat × Nat} (hc0 : c.1 ≤ 0 ∧ c.2 ≤ 0) (h0 : fJ6_numberOfTrailingZeros_0f7a4_b74 fu sh I R l0 l1 = some o) : V K J 153 74 [some (.int l0), some (.int l1)] [] sh I R c F := by
  unfold fJ6_numberOfTrailingZeros_0f7a4_b74 at h0
  refine s_il (i := 1) (pc' := 75) (by decide +kernel) rfl ?_
  refine s_il (i := 0) (pc' := 76) (by decide +kernel) rfl ?_
  refine s_c (v := 1) (pc' := 77) (by decide +kernel) ?_
  refine s_a (ins := .iushr) (pc' := 78) (by decide +kernel) rfl ?_
  refine s_a (ins := .iadd) (pc' := 79) (by decide +kernel) rfl ?_
  have e9 := Option.some.inj h0; subst e9
  exact s_ri (X := 0) (Y := 0) (by decide +kernel) hc0 hF
set_option maxRecDepth 100000 in
set_option maxHeartbeats 4000000 in
def fJ6_numberOfTrailingZeros_0f7a4_b62 (fu : Nat) (sh : HS) (I : HI) (R : HR) (l0 : Int32) (l1 : Int32) : Option Int32 :=
  if l0 ≤ 4 then
    ((fJ6_numberOfTrailingZeros_0f7a4_b74 fu sh I R) l0 l1)
  else
    ((fJ6_numberOfTrailingZeros_0f7a4_b74 fu sh I R) (iShr l0 2) (l1 + 2))
set_option maxRecDepth 100000 in
set_option maxHeartbeats 4000000 in
theorem vJ6_numberOfTrailingZeros_0f7a4_b62 {K J : Nat → Nat} {fu : Nat} {sh : HS} {I : HI} {R : HR} {F : VF} {o : Int32} (hF : F (.inl (some (.int o))) sh I R) {l0 : Int32} {l1 : Int32} {c : Nat × Nat} (hc0 : c.1 ≤ 0 ∧ c.2 ≤ 0) (h0 : fJ6_numberOfTrailingZeros_0f7a4_b62 fu sh I R l0 l1 = some o) : V K J 153 62 [some (.int l0), some (.int l1)] [] sh I R c F := by
  unfold fJ6_numberOfTrailingZeros_0f7a4_b62 at h0
  refine s_il (i := 0) (pc' := 63) (by decide +kernel) rfl ?_
  refine s_c (v := 4) (pc' := 64) (by decide +kernel) ?_
  refine s_if (ins := .if_icmp .le 10) (t := 74) (pc' := 67) (by decide +kernel) rfl rfl rfl h0 (fun p1 h1 => ?_) (fun p1 h1 => ?_) <;> clear h0
  · exact (vJ6_numberOfTrailingZeros_0f7a4_b74 hF) hc0 h1
  · refine s_inc (i := 1) (z := 2) (pc' := 70) (L' := [some (.int l0), some (.int (l1 + 2))]) (by decide +kernel) rfl rfl rfl ?_
    refine s_il (i := 0) (pc' := 71) (by decide +kernel) rfl ?_
    refine s_c (v := 2) (pc' := 72) (by decide +kernel) ?_
    refine s_a (ins := .iushr) (pc' := 73) (by decide +kernel) rfl ?_
    refine s_is (i := 0) (pc' := 74) (L' := [some (.int (iShr l0 2)), some (.int (l1 + 2))]) (by decide +kernel) rfl rfl ?_
    exact (vJ6_numberOfTrailingZeros_0f7a4_b74 hF) hc0 h1
set_option maxRecDepth 100000 in
set_option maxHeartbeats 4000000 in
def fJ6_numberOfTrailingZeros_0f7a4_b49 (fu : Nat) (sh : HS) (I : HI) (R : HR) (l0 : Int32) (l1 : Int32) : Option Int32 :=
  if l0 ≤ 16 then
    ((fJ6_numberOfTrailingZeros_0f7a4_b62 fu sh I R) l0 l1)
  else
    ((fJ6_numberOfTrailingZeros_0f7a4_b62 fu sh I R) (iShr l0 4) (l1 + 4))
set_option maxRecDepth 100000 in
set_option maxHeartbeats 4000000 in
theorem vJ6_numberOfTrailingZeros_0f7a4_b49 {K J : Nat → Nat} {fu : Nat} {sh : HS} {I : HI} {R : HR} {F : VF} {o : Int32} (hF : F (.inl (some (.int o))) sh I R) {l0 : Int32} {l1 : Int32} {c : Nat × Nat} (hc0 : c.1 ≤ 0 ∧ c.2 ≤ 0) (h0 : fJ6_numberOfTrailingZeros_0f7a4_b49 fu sh I R l0 l1 = some o) : V K J 153 49 [some (.int l0), some (.int l1)] [] sh I R c F := by
  unfold fJ6_numberOfTrailingZeros_0f7a4_b49 at h0
  refine s_il (i := 0) (pc' := 50) (by decide +kernel) rfl ?_
  refine s_c (v := 16) (pc' := 52) (by decide +kernel) ?_
  refine s_if (ins := .if_icmp .le 10) (t := 62) (pc' := 55) (by decide +kernel) rfl rfl rfl h0 (fun p1 h1 => ?_) (fun p1 h1 => ?_) <;> clear h0
  · exact (vJ6_numberOfTrailingZeros_0f7a4_b62 hF) hc0 h1
  · refine s_inc (i := 1) (z := 4) (pc' := 58) (L' := [some (.int l0), some (.int (l1 + 4))]) (by decide +kernel) rfl rfl rfl ?_
    refine s_il (i := 0) (pc' := 59) (by decide +kernel) rfl ?_
    refine s_c (v := 4) (pc' := 60) (by decide +kernel) ?_
    refine s_a (ins := .iushr) (pc' := 61) (by decide +kernel) rfl ?_
    refine s_is (i := 0) (pc' := 62) (L' := [some (.int (iShr l0 4)), some (.int (l1 + 4))]) (by decide +kernel) rfl rfl ?_
    exact (vJ6_numberOfTrailingZeros_0f7a4_b62 hF) hc0 h1
set_option maxRecDepth 100000 in
set_option maxHeartbeats 4000000 in
def fJ6_numberOfTrailingZeros_0f7a4_b34 (fu : Nat) (sh : HS) (I : HI) (R : HR) (l0 : Int32) (l1 : Int32) : Option Int32 :=
  if l0 ≤ 256 then
    ((fJ6_numberOfTrailingZeros_0f7a4_b49 fu sh I R) l0 l1)
  else
    ((fJ6_numberOfTrailingZeros_0f7a4_b49 fu sh I R) (iShr l0 8) (l1 + 8))
set_option maxRecDepth 100000 in
set_option maxHeartbeats 4000000 in
theorem vJ6_numberOfTrailingZeros_0f7a4_b34 {K J : Nat → Nat} {fu : Nat} {sh : HS} {I : HI} {R : HR} {F : VF} {o : Int32} (hF : F (.inl (some (.int o))) sh I R) {l0 : Int32} {l1 : Int32} {c : Nat × Nat} (hc0 : c.1 ≤ 0 ∧ c.2 ≤ 0) (h0 : fJ6_numberOfTrailingZeros_0f7a4_b34 fu sh I R l0 l1 = some o) : V K J 153 34 [some (.int l0), some (.int l1)] [] sh I R c F := by
  unfold fJ6_numberOfTrailingZeros_0f7a4_b34 at h0
  refine s_il (i := 0) (pc' := 35) (by decide +kernel) rfl ?_
  refine s_c (v := 256) (pc' := 38) (by decide +kernel) ?_
  refine s_if (ins := .if_icmp .le 11) (t := 49) (pc' := 41) (by decide +kernel) rfl rfl rfl h0 (fun p1 h1 => ?_) (fun p1 h1 => ?_) <;> clear h0
  · exact (vJ6_numberOfTrailingZeros_0f7a4_b49 hF) hc0 h1
  · refine s_inc (i := 1) (z := 8) (pc' := 44) (L' := [some (.int l0), some (.int (l1 + 8))]) (by decide +kernel) rfl rfl rfl ?_
    refine s_il (i := 0) (pc' := 45) (by decide +kernel) rfl ?_
    refine s_c (v := 8) (pc' := 47) (by decide +kernel) ?_
    refine s_a (ins := .iushr) (pc' := 48) (by decide +kernel) rfl ?_
    refine s_is (i := 0) (pc' := 49) (L' := [some (.int (iShr l0 8)), some (.int (l1 + 8))]) (by decide +kernel) rfl rfl ?_
    exact (vJ6_numberOfTrailingZeros_0f7a4_b49 hF) hc0 h1
set_option maxRecDepth 100000 in
set_option maxHeartbeats 4000000 in
def fJ6_numberOfTrailingZeros_0f7a4 (fu : Nat) (sh : HS) (I : HI) (R : HR) (l0 : Int32) : Option Int32 :=
  if 0 < ((l0 ^^^ (-1)) &&& (l0 - 1)) then
    (if ((l0 ^^^ (-1)) &&& (l0 - 1)) ≤ 65536 then
      ((fJ6_numberOfTrailingZeros_0f7a4_b34 fu sh I R) ((l0 ^^^ (-1)) &&& (l0 - 1)) 1)
    else
      ((fJ6_numberOfTrailingZeros_0f7a4_b34 fu sh I R) (iShr ((l0 ^^^ (-1)) &&& (l0 - 1)) 16) (1 + 16)))
  else
    (some (((l0 ^^^ (-1)) &&& (l0 - 1)) &&& 32))
set_option maxRecDepth 100000 in
set_option maxHeartbeats 4000000 in
theorem vJ6_numberOfTrailingZeros_0f7a4 {K J : Nat → Nat} {fu : Nat} {sh : HS} {I : HI} {R : HR} {F : VF} {o : Int32} (hF : F (.inl (some (.int o))) sh I R) {l0 : Int32} (h0 : fJ6_numberOfTrailingZeros_0f7a4 fu sh I R l0 = some o) : V K J 153 0 (ent 2 [.int l0]) [] sh I R (0, 0) F := by
  unfold fJ6_numberOfTrailingZeros_0f7a4 at h0
  have h1 := h0; clear h0
  have hc0 : ((0 : Nat), (0 : Nat)).1 ≤ 0 ∧ ((0 : Nat), (0 : Nat)).2 ≤ 0 := ⟨Nat.le_refl _, Nat.le_refl _⟩
  show V K J 153 0 [some (.int l0), none] [] sh I R (0, 0) F
  refine s_il (i := 0) (pc' := 1) (by decide +kernel) rfl ?_
  refine s_c (v := (-1)) (pc' := 2) (by decide +kernel) ?_
  refine s_a (ins := .ixor) (pc' := 3) (by decide +kernel) rfl ?_
  refine s_il (i := 0) (pc' := 4) (by decide +kernel) rfl ?_
  refine s_c (v := 1) (pc' := 5) (by decide +kernel) ?_
  refine s_a (ins := .isub) (pc' := 6) (by decide +kernel) rfl ?_
  refine s_a (ins := .iand) (pc' := 7) (by decide +kernel) rfl ?_
  refine s_is (i := 0) (pc' := 8) (L' := [some (.int ((l0 ^^^ (-1)) &&& (l0 - 1))), none]) (by decide +kernel) rfl rfl ?_
  refine s_il (i := 0) (pc' := 9) (by decide +kernel) rfl ?_
  refine s_if (ins := .ifCond .gt 8) (t := 17) (pc' := 12) (by decide +kernel) rfl rfl rfl h1 (fun p2 h2 => ?_) (fun p2 h2 => ?_) <;> clear h1
  · refine s_c (v := 1) (pc' := 18) (by decide +kernel) ?_
    refine s_is (i := 1) (pc' := 19) (L' := [some (.int ((l0 ^^^ (-1)) &&& (l0 - 1))), some (.int 1)]) (by decide +kernel) rfl rfl ?_
    refine s_il (i := 0) (pc' := 20) (by decide +kernel) rfl ?_
    refine s_c (v := 65536) (pc' := 23) (by decide +kernel) ?_
    refine s_if (ins := .if_icmp .le 11) (t := 34) (pc' := 26) (by decide +kernel) rfl rfl rfl h2 (fun p3 h3 => ?_) (fun p3 h3 => ?_) <;> clear h2
    · exact (vJ6_numberOfTrailingZeros_0f7a4_b34 hF) hc0 h3
    · refine s_inc (i := 1) (z := 16) (pc' := 29) (L' := [some (.int ((l0 ^^^ (-1)) &&& (l0 - 1))), some (.int (1 + 16))]) (by decide +kernel) rfl rfl rfl ?_
      refine s_il (i := 0) (pc' := 30) (by decide +kernel) rfl ?_
      refine s_c (v := 16) (pc' := 32) (by decide +kernel) ?_
      refine s_a (ins := .iushr) (pc' := 33) (by decide +kernel) rfl ?_
      refine s_is (i := 0) (pc' := 34) (L' := [some (.int (iShr ((l0 ^^^ (-1)) &&& (l0 - 1)) 16)), some (.int (1 + 16))]) (by decide +kernel) rfl rfl ?_
      exact (vJ6_numberOfTrailingZeros_0f7a4_b34 hF) hc0 h3
  · refine s_il (i := 0) (pc' := 13) (by decide +kernel) rfl ?_
    refine s_c (v := 32) (pc' := 15) (by decide +kernel) ?_
    refine s_a (ins := .iand) (pc' := 16) (by decide +kernel) rfl ?_
    have e9 := Option.some.inj h2; subst e9
    exact s_ri (X := 0) (Y := 0) (by decide +kernel) hc0 hF
set_option maxRecDepth 100000 in
set_option maxHeartbeats 4000000 in
theorem kJ6_numberOfTrailingZeros_0f7a4 {K J : Nat → Nat} {fu : Nat} {sh : HS} {I : HI} {R : HR} {F : VF} {mi pc pc' X Y X' Y' : Nat} {L : VL} {rest : List Value} {c : Nat × Nat} {l0 : Int32} {ω : Type} {o : ω} {g : Int32 → Option ω} (hq : cQ mi pc 153 1 pc' X Y X' Y' = true) (hc : c.1 ≤ X ∧ c.2 ≤ Y) (hr : Nat.ble (catS rest) 8 = true) (h : (fJ6_numberOfTrailingZeros_0f7a4 fu sh I R l0).bind g = some o) (kk : ∀ v c', (c'.1 ≤ X' ∧ c'.2 ≤ Y') → g v = some o → V K J mi pc' L ((.int v) :: rest) sh I R c' F) : V K J mi pc L (.int l0 :: rest) sh I R c F := by
  obtain ⟨r, h1, h2⟩ := bnd h
  have ml : mL 153 = 2 := by decide +kernel
  have mk : mK 153 = 0 := by decide +kernel
  refine s_call (as := [.int l0]) (G := fun o' sh' I' R' => o' = .inl (some (.int r)) ∧ sh' = sh ∧ I' = I ∧ R' = R) hq hc rfl hr (by rw [ml]; rfl) (Or.inl rfl) (fun z => absurd (mk.symm.trans z) (by decide)) (fun z => absurd (mk.symm.trans z) (by decide)) (by rw [ml]; exact vJ6_numberOfTrailingZeros_0f7a4 (F := fun o' sh' I' R' => o' = .inl (some (.int r)) ∧ sh' = sh ∧ I' = I ∧ R' = R) ⟨rfl, rfl, rfl, rfl⟩ h1) ?_ ?_ ?_
  · rintro sh' I' R' c' hc' ⟨g1, rfl, rfl, rfl⟩
    cases g1
  · rintro v' sh' I' R' c' hc' ⟨g1, rfl, rfl, rfl⟩
    cases g1
    exact kk _ _ hc' h2
  · rintro E' sh' I' R' ⟨g1, rfl, rfl, rfl⟩
    cases g1
set_option maxRecDepth 100000 in
set_option maxHeartbeats 4000000 in
def fJ6_signum_0f7a4 (fu : Nat) (sh : HS) (I : HI) (R : HR) (l0 : Int32) : Option Int32 :=
  some ((l0 >>> (31 &&& 31)) ||| (iShr (-l0) 31))
set_option maxRecDepth 100000 in
set_option maxHeartbeats 4000000 in
theorem vJ6_signum_0f7a4 {K J : Nat → Nat} {fu : Nat} {sh : HS} {I : HI} {R : HR} {F : VF} {o : Int32} (hF : F (.inl (some (.int o))) sh I R) {l0 : Int32} (h0 : fJ6_signum_0f7a4 fu sh I R l0 = some o) : V K J 155 0 (ent 1 [.int l0]) [] sh I R (0, 0) F := by
  unfold fJ6_signum_0f7a4 at h0
  have h1 := h0; clear h0
  have hc0 : ((0 : Nat), (0 : Nat)).1 ≤ 0 ∧ ((0 : Nat), (0 : Nat)).2 ≤ 0 := ⟨Nat.le_refl _, Nat.le_refl _⟩
  show V K J 155 0 [some (.int l0)] [] sh I R (0, 0) F
  refine s_il (i := 0) (pc' := 1) (by decide +kernel) rfl ?_
  refine s_c (v := 31) (pc' := 3) (by decide +kernel) ?_
  refine s_a (ins := .ishr) (pc' := 4) (by decide +kernel) rfl ?_
  refine s_il (i := 0) (pc' := 5) (by decide +kernel) rfl ?_
  refine s_a (ins := .ineg) (pc' := 6) (by decide +kernel) rfl ?_
  refine s_c (v := 31) (pc' := 8) (by decide +kernel) ?_
  refine s_a (ins := .iushr) (pc' := 9) (by decide +kernel) rfl ?_
  refine s_a (ins := .ior) (pc' := 10) (by decide +kernel) rfl ?_
  have e9 := Option.some.inj h1; subst e9
  exact s_ri (X := 0) (Y := 0) (by decide +kernel) hc0 hF
set_option maxRecDepth 100000 in
set_option maxHeartbeats 4000000 in
theorem kJ6_signum_0f7a4 {K J : Nat → Nat} {fu : Nat} {sh : HS} {I : HI} {R : HR} {F : VF} {mi pc pc' X Y X' Y' : Nat} {L : VL} {rest : List Value} {c : Nat × Nat} {l0 : Int32} {ω : Type} {o : ω} {g : Int32 → Option ω} (hq : cQ mi pc 155 1 pc' X Y X' Y' = true) (hc : c.1 ≤ X ∧ c.2 ≤ Y) (hr : Nat.ble (catS rest) 8 = true) (h : (fJ6_signum_0f7a4 fu sh I R l0).bind g = some o) (kk : ∀ v c', (c'.1 ≤ X' ∧ c'.2 ≤ Y') → g v = some o → V K J mi pc' L ((.int v) :: rest) sh I R c' F) : V K J mi pc L (.int l0 :: rest) sh I R c F := by
  obtain ⟨r, h1, h2⟩ := bnd h
  have ml : mL 155 = 1 := by decide +kernel
  have mk : mK 155 = 0 := by decide +kernel
  refine s_call (as := [.int l0]) (G := fun o' sh' I' R' => o' = .inl (some (.int r)) ∧ sh' = sh ∧ I' = I ∧ R' = R) hq hc rfl hr (by rw [ml]; rfl) (Or.inl rfl) (fun z => absurd (mk.symm.trans z) (by decide)) (fun z => absurd (mk.symm.trans z) (by decide)) (by rw [ml]; exact vJ6_signum_0f7a4 (F := fun o' sh' I' R' => o' = .inl (some (.int r)) ∧ sh' = sh ∧ I' = I ∧ R' = R) ⟨rfl, rfl, rfl, rfl⟩ h1) ?_ ?_ ?_
  · rintro sh' I' R' c' hc' ⟨g1, rfl, rfl, rfl⟩
    cases g1
  · rintro v' sh' I' R' c' hc' ⟨g1, rfl, rfl, rfl⟩
    cases g1
    exact kk _ _ hc' h2
  · rintro E' sh' I' R' ⟨g1, rfl, rfl, rfl⟩
    cases g1
