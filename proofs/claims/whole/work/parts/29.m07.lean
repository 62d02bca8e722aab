/-! methods 7 (printed by wip/whole/gen3.py) -/
set_option maxRecDepth 100000 in
set_option maxHeartbeats 4000000 in
def fX11_faultsNow_b4 (fu : Nat) (sh : HS) (I : HI) (R : HR) (k4 : Nat → Int32 → Int32 → Option Int32) (l0 : Nat) (l1 : Int32) (l2 : Int32) : Option Int32 :=
  (oR sh R l0 9 0).bind fun v1 =>
  (oA sh I v1 4).bind fun v2 =>
  if v2 ≤ l2 then
    (some l1)
  else
    ((fX11_kindsOf fu sh I R l0 l2).bind fun v3 =>
    (fX11_sizeOf fu sh I R v3).bind fun v4 =>
    k4 l0 (l1 + v4) (l2 + 1))
set_option maxRecDepth 100000 in
set_option maxHeartbeats 4000000 in
theorem vX11_faultsNow_b4 {K J : Nat → Nat} {fu : Nat} {sh : HS} {I : HI} {R : HR} {F : VF} {o : Int32} (hF : F (.inl (some (.int o))) sh I R) {k4 : Nat → Int32 → Int32 → Option Int32} (hk4 : ∀ {l0 : Nat} {l1 : Int32} {l2 : Int32}  {c : Nat × Nat}, (c.1 ≤ 0 ∧ c.2 ≤ 0) → k4 l0 l1 l2 = some o → V K J 221 4 [some (.ref l0), some (.int l1), some (.int l2)] [] sh I R c F) {l0 : Nat} {l1 : Int32} {l2 : Int32} {c : Nat × Nat} (hc0 : c.1 ≤ 0 ∧ c.2 ≤ 0) (h0 : fX11_faultsNow_b4 fu sh I R k4 l0 l1 l2 = some o) : V K J 221 4 [some (.ref l0), some (.int l1), some (.int l2)] [] sh I R c F := by
  unfold fX11_faultsNow_b4 at h0
  refine s_il (i := 2) (pc' := 5) (by decide +kernel) rfl ?_
  refine s_rl (i := 0) (pc' := 6) (by decide +kernel) rfl ?_
  refine s_gR (t := 9) (j := 0) (pc' := 9) (by decide +kernel) h0 (fun v1 h1 => ?_); clear h0
  refine s_c (v := 4) (pc' := 10) (by decide +kernel) ?_
  refine s_al (pc' := 11) (by decide +kernel) h1 (fun v2 h2 => ?_); clear h1
  refine s_if (ins := .if_icmp .ge 20) (t := 31) (pc' := 14) (by decide +kernel) rfl rfl rfl h2 (fun p3 h3 => ?_) (fun p3 h3 => ?_) <;> clear h2
  · refine s_il (i := 1) (pc' := 32) (by decide +kernel) rfl ?_
    have e9 := Option.some.inj h3; subst e9
    exact s_ri (X := 0) (Y := 0) (by decide +kernel) hc0 hF
  · refine s_il (i := 1) (pc' := 15) (by decide +kernel) rfl ?_
    refine s_rl (i := 0) (pc' := 16) (by decide +kernel) rfl ?_
    refine s_il (i := 2) (pc' := 17) (by decide +kernel) rfl ?_
    refine kX11_kindsOf (X := 0) (Y := 0) (X' := 0) (Y' := 0) (pc' := 20) (by decide +kernel) hc0 rfl h3 (fun v3 c hc1 h4 => ?_); clear h3 hc0
    refine kX11_sizeOf (X := 0) (Y := 0) (X' := 0) (Y' := 0) (pc' := 23) (by decide +kernel) hc1 rfl h4 (fun v4 c hc2 h5 => ?_); clear h4 hc1
    refine s_a (ins := .iadd) (pc' := 24) (by decide +kernel) rfl ?_
    refine s_is (i := 1) (pc' := 25) (L' := [some (.ref l0), some (.int (l1 + v4)), some (.int l2)]) (by decide +kernel) rfl rfl ?_
    refine s_inc (i := 2) (z := 1) (pc' := 28) (L' := [some (.ref l0), some (.int (l1 + v4)), some (.int (l2 + 1))]) (by decide +kernel) rfl rfl rfl ?_
    refine s_go (t := 4) (by decide +kernel) ?_
    exact hk4 hc2 h5
set_option maxRecDepth 100000 in
set_option maxHeartbeats 4000000 in
def fX11_faultsNow_l4 (fu : Nat) (sh : HS) (I : HI) (R : HR) : Nat → Nat → Int32 → Int32 → Option Int32
  | 0 => fun _ _ _ => none
  | n + 1 => fX11_faultsNow_b4 fu sh I R (fX11_faultsNow_l4 fu sh I R n)
set_option maxRecDepth 100000 in
set_option maxHeartbeats 4000000 in
theorem vX11_faultsNow_l4 {K J : Nat → Nat} {fu : Nat} {sh : HS} {I : HI} {R : HR} {F : VF} {o : Int32} (hF : F (.inl (some (.int o))) sh I R) : ∀ (n : Nat) {l0 : Nat} {l1 : Int32} {l2 : Int32} {c : Nat × Nat} (_ : c.1 ≤ 0 ∧ c.2 ≤ 0) (_ : fX11_faultsNow_l4 fu sh I R n l0 l1 l2 = some o), V K J 221 4 [some (.ref l0), some (.int l1), some (.int l2)] [] sh I R c F := by
  intro n
  induction n with
  | zero => exact fun _ h0 => nomatch h0
  | succ n ih => exact fun hc0 h0 => vX11_faultsNow_b4 hF ih hc0 h0
set_option maxRecDepth 100000 in
set_option maxHeartbeats 4000000 in
def fX11_faultsNow (fu : Nat) (sh : HS) (I : HI) (R : HR) (l0 : Nat) : Option Int32 :=
  if isT sh l0 9 = true then
    ((fX11_faultsNow_l4 fu sh I R fu) l0 0 0)
  else none
set_option maxRecDepth 100000 in
set_option maxHeartbeats 4000000 in
theorem vX11_faultsNow {K J : Nat → Nat} {fu : Nat} {sh : HS} {I : HI} {R : HR} {F : VF} {o : Int32} (hF : F (.inl (some (.int o))) sh I R) {l0 : Nat} (h0 : fX11_faultsNow fu sh I R l0 = some o) : V K J 221 0 (ent 3 [.ref l0]) [] sh I R (0, 0) F := by
  unfold fX11_faultsNow at h0
  obtain ⟨-, h1⟩ := gd h0; clear h0
  have hc0 : ((0 : Nat), (0 : Nat)).1 ≤ 0 ∧ ((0 : Nat), (0 : Nat)).2 ≤ 0 := ⟨Nat.le_refl _, Nat.le_refl _⟩
  show V K J 221 0 [some (.ref l0), none, none] [] sh I R (0, 0) F
  refine s_c (v := 0) (pc' := 1) (by decide +kernel) ?_
  refine s_is (i := 1) (pc' := 2) (L' := [some (.ref l0), some (.int 0), none]) (by decide +kernel) rfl rfl ?_
  refine s_c (v := 0) (pc' := 3) (by decide +kernel) ?_
  refine s_is (i := 2) (pc' := 4) (L' := [some (.ref l0), some (.int 0), some (.int 0)]) (by decide +kernel) rfl rfl ?_
  exact (vX11_faultsNow_l4 hF fu) hc0 h1
set_option maxRecDepth 100000 in
set_option maxHeartbeats 4000000 in
theorem kX11_faultsNow {K J : Nat → Nat} {fu : Nat} {sh : HS} {I : HI} {R : HR} {F : VF} {mi pc pc' X Y X' Y' : Nat} {L : VL} {rest : List Value} {c : Nat × Nat} {l0 : Nat} {ω : Type} {o : ω} {g : Int32 → Option ω} (hq : cQ mi pc 221 1 pc' X Y X' Y' = true) (hc : c.1 ≤ X ∧ c.2 ≤ Y) (hr : Nat.ble (catS rest) 8 = true) (h : (fX11_faultsNow fu sh I R l0).bind g = some o) (kk : ∀ v c', (c'.1 ≤ X' ∧ c'.2 ≤ Y') → g v = some o → V K J mi pc' L ((.int v) :: rest) sh I R c' F) : V K J mi pc L (.ref l0 :: rest) sh I R c F := by
  obtain ⟨r, h1, h2⟩ := bnd h
  have hT : isT sh l0 9 = true := by unfold fX11_faultsNow at h1; exact (gd h1).1
  have ml : mL 221 = 3 := by decide +kernel
  have mk : mK 221 = 1 := by decide +kernel
  have mc : mC 221 = 9 := by decide +kernel
  refine s_call (as := [.ref l0]) (G := fun o' sh' I' R' => o' = .inl (some (.int r)) ∧ sh' = sh ∧ I' = I ∧ R' = R) hq hc rfl hr (by rw [ml]; rfl) (Or.inl rfl) (fun _ => Or.inl ⟨by rw [mc]; decide, by rw [mc]; exact isT_iff.mp hT⟩) (fun z => absurd (mk.symm.trans z) (by decide)) (by rw [ml]; exact vX11_faultsNow (F := fun o' sh' I' R' => o' = .inl (some (.int r)) ∧ sh' = sh ∧ I' = I ∧ R' = R) ⟨rfl, rfl, rfl, rfl⟩ h1) ?_ ?_ ?_
  · rintro sh' I' R' c' hc' ⟨g1, rfl, rfl, rfl⟩
    cases g1
  · rintro v' sh' I' R' c' hc' ⟨g1, rfl, rfl, rfl⟩
    cases g1
    exact kk _ _ hc' h2
  · rintro E' sh' I' R' ⟨g1, rfl, rfl, rfl⟩
    cases g1
set_option maxRecDepth 100000 in
set_option maxHeartbeats 4000000 in
def fX11_faults_b16 (fu : Nat) (sh : HS) (R : HR) (I : HI) (s0 : Int32) : Option (Int32 × HI) :=
  some (s0, I)
set_option maxRecDepth 100000 in
set_option maxHeartbeats 4000000 in
theorem vX11_faults_b16 {K J : Nat → Nat} {fu : Nat} {sh : HS} {R : HR} {F : VF} {o : (Int32 × HI)} (hF : F (.inl (some (.int o.1))) sh o.2 R) {I : HI} {s0 : Int32} {d0 : Option Value} {c : Nat × Nat} (hc0 : c.1 ≤ 0 ∧ c.2 ≤ 0) (h0 : fX11_faults_b16 fu sh R I s0 = some o) : V K J 222 16 [d0] [.int s0] sh I R c F := by
  unfold fX11_faults_b16 at h0
  have e9 := Option.some.inj h0; subst e9
  exact s_ri (X := 0) (Y := 0) (by decide +kernel) hc0 hF
set_option maxRecDepth 100000 in
set_option maxHeartbeats 4000000 in
def fX11_faults (fu : Nat) (sh : HS) (I : HI) (R : HR) (l0 : Nat) : Option (Int32 × HI) :=
  if isT sh l0 9 = true then
    (oH (fX11_isWrong fu sh I R l0 1) fun v1 w1 =>
    if v1 = 0 then
      ((fX11_faultsNow fu sh w1 R l0).bind fun v2 =>
      (fX11_faults_b16 fu sh R) w1 v2)
    else
      ((fX11_faults_b16 fu sh R) w1 0))
  else none
set_option maxRecDepth 100000 in
set_option maxHeartbeats 4000000 in
theorem vX11_faults {K J : Nat → Nat} {fu : Nat} {sh : HS} {I : HI} {R : HR} {F : VF} {o : (Int32 × HI)} (hF : F (.inl (some (.int o.1))) sh o.2 R) {l0 : Nat} (h0 : fX11_faults fu sh I R l0 = some o) : V K J 222 0 (ent 1 [.ref l0]) [] sh I R (0, 0) F := by
  unfold fX11_faults at h0
  obtain ⟨-, h1⟩ := gd h0; clear h0
  have hc0 : ((0 : Nat), (0 : Nat)).1 ≤ 0 ∧ ((0 : Nat), (0 : Nat)).2 ≤ 0 := ⟨Nat.le_refl _, Nat.le_refl _⟩
  show V K J 222 0 [some (.ref l0)] [] sh I R (0, 0) F
  refine s_rl (i := 0) (pc' := 1) (by decide +kernel) rfl ?_
  refine s_c (v := 1) (pc' := 2) (by decide +kernel) ?_
  refine kX11_isWrong (X := 0) (Y := 0) (X' := 0) (Y' := 0) (pc' := 5) (by decide +kernel) hc0 rfl h1 (fun v1 w1 c hc1 h2 => ?_); clear h1 hc0
  refine s_if (ins := .ifCond .eq 7) (t := 12) (pc' := 8) (by decide +kernel) rfl rfl rfl h2 (fun p3 h3 => ?_) (fun p3 h3 => ?_) <;> clear h2
  · refine s_rl (i := 0) (pc' := 13) (by decide +kernel) rfl ?_
    refine kX11_faultsNow (X := 0) (Y := 0) (X' := 0) (Y' := 0) (pc' := 16) (by decide +kernel) hc1 rfl h3 (fun v2 c hc2 h4 => ?_); clear h3 hc1
    exact (vX11_faults_b16 hF) hc2 h4
  · refine s_c (v := 0) (pc' := 9) (by decide +kernel) ?_
    refine s_go (t := 16) (by decide +kernel) ?_
    exact (vX11_faults_b16 hF) hc1 h3
set_option maxRecDepth 100000 in
set_option maxHeartbeats 4000000 in
theorem kX11_faults {K J : Nat → Nat} {fu : Nat} {sh : HS} {I : HI} {R : HR} {F : VF} {mi pc pc' X Y X' Y' : Nat} {L : VL} {rest : List Value} {c : Nat × Nat} {l0 : Nat} {ω : Type} {o : ω} {g : Int32 → HI → Option ω} (hq : cQ mi pc 222 1 pc' X Y X' Y' = true) (hc : c.1 ≤ X ∧ c.2 ≤ Y) (hr : Nat.ble (catS rest) 8 = true) (h : oH (fX11_faults fu sh I R l0) g = some o) (kk : ∀ v w c', (c'.1 ≤ X' ∧ c'.2 ≤ Y') → g v w = some o → V K J mi pc' L ((.int v) :: rest) sh w R c' F) : V K J mi pc L (.ref l0 :: rest) sh I R c F := by
  obtain ⟨r, h1, h2⟩ := bnd h
  have hT : isT sh l0 9 = true := by unfold fX11_faults at h1; exact (gd h1).1
  have ml : mL 222 = 1 := by decide +kernel
  have mk : mK 222 = 1 := by decide +kernel
  have mc : mC 222 = 9 := by decide +kernel
  obtain ⟨v, w⟩ := r
  refine s_call (as := [.ref l0]) (G := fun o' sh' I' R' => o' = .inl (some (.int v)) ∧ sh' = sh ∧ I' = w ∧ R' = R) hq hc rfl hr (by rw [ml]; rfl) (Or.inl rfl) (fun _ => Or.inl ⟨by rw [mc]; decide, by rw [mc]; exact isT_iff.mp hT⟩) (fun z => absurd (mk.symm.trans z) (by decide)) (by rw [ml]; exact vX11_faults (F := fun o' sh' I' R' => o' = .inl (some (.int v)) ∧ sh' = sh ∧ I' = w ∧ R' = R) ⟨rfl, rfl, rfl, rfl⟩ h1) ?_ ?_ ?_
  · rintro sh' I' R' c' hc' ⟨g1, rfl, rfl, rfl⟩
    cases g1
  · rintro v' sh' I' R' c' hc' ⟨g1, rfl, rfl, rfl⟩
    cases g1
    exact kk _ _ _ hc' h2
  · rintro E' sh' I' R' ⟨g1, rfl, rfl, rfl⟩
    cases g1
set_option maxRecDepth 100000 in
set_option maxHeartbeats 4000000 in
def fX11_toldOf_b33 (fu : Nat) (sh : HS) (I : HI) (R : HR) (s0 : Int32) : Option Int32 :=
  some s0
set_option maxRecDepth 100000 in
set_option maxHeartbeats 4000000 in
theorem vX11_toldOf_b33 {K J : Nat → Nat} {fu : Nat} {sh : HS} {I : HI} {R : HR} {F : VF} {o : Int32} (hF : F (.inl (some (.int o))) sh I R) {s0 : Int32} {d0 d1 d2 d3 : Option Value} {c : Nat × Nat} (hc0 : c.1 ≤ 0 ∧ c.2 ≤ 0) (h0 : fX11_toldOf_b33 fu sh I R s0 = some o) : V K J 223 33 [d0, d1, d2, d3] [.int s0] sh I R c F := by
  unfold fX11_toldOf_b33 at h0
  have e9 := Option.some.inj h0; subst e9
  exact s_ri (X := 0) (Y := 0) (by decide +kernel) hc0 hF
set_option maxRecDepth 100000 in
set_option maxHeartbeats 4000000 in
def fX11_toldOf (fu : Nat) (sh : HS) (I : HI) (R : HR) (l0 : Nat) (l1 : Int32) (l2 : Int32) (l3 : Int32) : Option Int32 :=
  if isT sh l0 9 = true then
    (if l3 = 0 then
      ((fX11_toldOf_b33 fu sh I R) l1)
    else
      (if l3 = 1 then
        ((fX11_toldOf_b33 fu sh I R) l2)
      else
        (if l2 = 3 then
          ((fX11_blocker fu sh I R l0 l1).bind fun v1 =>
          (fX11_toldOf_b33 fu sh I R) v1)
        else
          ((fX11_toldOf_b33 fu sh I R) (l1 - 1)))))
  else none
set_option maxRecDepth 100000 in
set_option maxHeartbeats 4000000 in
theorem vX11_toldOf {K J : Nat → Nat} {fu : Nat} {sh : HS} {I : HI} {R : HR} {F : VF} {o : Int32} (hF : F (.inl (some (.int o))) sh I R) {l0 : Nat} {l1 : Int32} {l2 : Int32} {l3 : Int32} (h0 : fX11_toldOf fu sh I R l0 l1 l2 l3 = some o) : V K J 223 0 (ent 4 [.ref l0, .int l1, .int l2, .int l3]) [] sh I R (0, 0) F := by
  unfold fX11_toldOf at h0
  obtain ⟨-, h1⟩ := gd h0; clear h0
  have hc0 : ((0 : Nat), (0 : Nat)).1 ≤ 0 ∧ ((0 : Nat), (0 : Nat)).2 ≤ 0 := ⟨Nat.le_refl _, Nat.le_refl _⟩
  show V K J 223 0 [some (.ref l0), some (.int l1), some (.int l2), some (.int l3)] [] sh I R (0, 0) F
  refine s_il (i := 3) (pc' := 1) (by decide +kernel) rfl ?_
  refine s_ifn (ins := .ifCond .ne 7) (t := 8) (pc' := 4) (by decide +kernel) rfl rfl rfl h1 (fun p2 h2 => ?_) (fun p2 h2 => ?_) <;> clear h1
  · refine s_il (i := 3) (pc' := 9) (by decide +kernel) rfl ?_
    refine s_c (v := 1) (pc' := 10) (by decide +kernel) ?_
    refine s_ifn (ins := .if_icmp .ne 7) (t := 17) (pc' := 13) (by decide +kernel) rfl rfl rfl h2 (fun p3 h3 => ?_) (fun p3 h3 => ?_) <;> clear h2
    · refine s_il (i := 2) (pc' := 18) (by decide +kernel) rfl ?_
      refine s_c (v := 3) (pc' := 19) (by decide +kernel) ?_
      refine s_ifn (ins := .if_icmp .ne 11) (t := 30) (pc' := 22) (by decide +kernel) rfl rfl rfl h3 (fun p4 h4 => ?_) (fun p4 h4 => ?_) <;> clear h3
      · refine s_il (i := 1) (pc' := 31) (by decide +kernel) rfl ?_
        refine s_c (v := 1) (pc' := 32) (by decide +kernel) ?_
        refine s_a (ins := .isub) (pc' := 33) (by decide +kernel) rfl ?_
        exact (vX11_toldOf_b33 hF) hc0 h4
      · refine s_rl (i := 0) (pc' := 23) (by decide +kernel) rfl ?_
        refine s_il (i := 1) (pc' := 24) (by decide +kernel) rfl ?_
        refine kX11_blocker (X := 0) (Y := 0) (X' := 0) (Y' := 0) (pc' := 27) (by decide +kernel) hc0 rfl h4 (fun v1 c hc1 h5 => ?_); clear h4 hc0
        refine s_go (t := 33) (by decide +kernel) ?_
        exact (vX11_toldOf_b33 hF) hc1 h5
    · refine s_il (i := 2) (pc' := 14) (by decide +kernel) rfl ?_
      refine s_go (t := 33) (by decide +kernel) ?_
      exact (vX11_toldOf_b33 hF) hc0 h3
  · refine s_il (i := 1) (pc' := 5) (by decide +kernel) rfl ?_
    refine s_go (t := 33) (by decide +kernel) ?_
    exact (vX11_toldOf_b33 hF) hc0 h2
set_option maxRecDepth 100000 in
set_option maxHeartbeats 4000000 in
theorem kX11_toldOf {K J : Nat → Nat} {fu : Nat} {sh : HS} {I : HI} {R : HR} {F : VF} {mi pc pc' X Y X' Y' : Nat} {L : VL} {rest : List Value} {c : Nat × Nat} {l0 : Nat} {l1 : Int32} {l2 : Int32} {l3 : Int32} {ω : Type} {o : ω} {g : Int32 → Option ω} (hq : cQ mi pc 223 4 pc' X Y X' Y' = true) (hc : c.1 ≤ X ∧ c.2 ≤ Y) (hr : Nat.ble (catS rest) 8 = true) (h : (fX11_toldOf fu sh I R l0 l1 l2 l3).bind g = some o) (kk : ∀ v c', (c'.1 ≤ X' ∧ c'.2 ≤ Y') → g v = some o → V K J mi pc' L ((.int v) :: rest) sh I R c' F) : V K J mi pc L (.int l3 :: .int l2 :: .int l1 :: .ref l0 :: rest) sh I R c F := by
  obtain ⟨r, h1, h2⟩ := bnd h
  have hT : isT sh l0 9 = true := by unfold fX11_toldOf at h1; exact (gd h1).1
  have ml : mL 223 = 4 := by decide +kernel
  have mk : mK 223 = 1 := by decide +kernel
  have mc : mC 223 = 9 := by decide +kernel
  refine s_call (as := [.int l3, .int l2, .int l1, .ref l0]) (G := fun o' sh' I' R' => o' = .inl (some (.int r)) ∧ sh' = sh ∧ I' = I ∧ R' = R) hq hc rfl hr (by rw [ml]; rfl) (Or.inl rfl) (fun _ => Or.inl ⟨by rw [mc]; decide, by rw [mc]; exact isT_iff.mp hT⟩) (fun z => absurd (mk.symm.trans z) (by decide)) (by rw [ml]; exact vX11_toldOf (F := fun o' sh' I' R' => o' = .inl (some (.int r)) ∧ sh' = sh ∧ I' = I ∧ R' = R) ⟨rfl, rfl, rfl, rfl⟩ h1) ?_ ?_ ?_
  · rintro sh' I' R' c' hc' ⟨g1, rfl, rfl, rfl⟩
    cases g1
  · rintro v' sh' I' R' c' hc' ⟨g1, rfl, rfl, rfl⟩
    cases g1
    exact kk _ _ hc' h2
  · rintro E' sh' I' R' ⟨g1, rfl, rfl, rfl⟩
    cases g1
set_option maxRecDepth 100000 in
set_option maxHeartbeats 4000000 in
def fX11_fault_b103 (fu : Nat) (sh : HS) (R : HR) (k49 : HI → Nat → Int32 → Int32 → Int32 → Int32 → Option (Int32 × HI)) (k111 : HI → Nat → Int32 → Int32 → Int32 → Option (Int32 × HI)) (I : HI) (l0 : Nat) (l2 : Int32) (l4 : Int32) (l5 : Int32) (s0 : Int32) (s1 : Int32) : Option (Int32 × HI) :=
  k49 I l0 l2 (s1 - s0) l4 (l5 + 1)
set_option maxRecDepth 100000 in
set_option maxHeartbeats 4000000 in
theorem vX11_fault_b103 {K J : Nat → Nat} {fu : Nat} {sh : HS} {R : HR} {F : VF} {o : (Int32 × HI)} (hF : F (.inl (some (.int o.1))) sh o.2 R) {k49 : HI → Nat → Int32 → Int32 → Int32 → Int32 → Option (Int32 × HI)} {k111 : HI → Nat → Int32 → Int32 → Int32 → Option (Int32 × HI)} (hk49 : ∀ {I : HI} {l0 : Nat} {l2 : Int32} {l3 : Int32} {l4 : Int32} {l5 : Int32} {d1 : Option Value} {c : Nat × Nat}, (c.1 ≤ 0 ∧ c.2 ≤ 0) → k49 I l0 l2 l3 l4 l5 = some o → V K J 224 49 [some (.ref l0), d1, some (.int l2), some (.int l3), some (.int l4), some (.int l5)] [] sh I R c F) (hk111 : ∀ {I : HI} {l0 : Nat} {l2 : Int32} {l3 : Int32} {l4 : Int32} {d1 d5 : Option Value} {c : Nat × Nat}, (c.1 ≤ 0 ∧ c.2 ≤ 0) → k111 I l0 l2 l3 l4 = some o → V K J 224 111 [some (.ref l0), d1, some (.int l2), some (.int l3), some (.int l4), d5] [] sh I R c F) {I : HI} {l0 : Nat} {l2 : Int32} {l4 : Int32} {l5 : Int32} {s0 : Int32} {s1 : Int32} {d1 d3 : Option Value} {c : Nat × Nat} (hc0 : c.1 ≤ 0 ∧ c.2 ≤ 0) (h0 : fX11_fault_b103 fu sh R k49 k111 I l0 l2 l4 l5 s0 s1 = some o) : V K J 224 103 [some (.ref l0), d1, some (.int l2), d3, some (.int l4), some (.int l5)] [.int s0, .int s1] sh I R c F := by
  unfold fX11_fault_b103 at h0
  refine s_a (ins := .isub) (pc' := 104) (by decide +kernel) rfl ?_
  refine s_is (i := 3) (pc' := 105) (L' := [some (.ref l0), d1, some (.int l2), some (.int (s1 - s0)), some (.int l4), some (.int l5)]) (by decide +kernel) rfl rfl ?_
  refine s_inc (i := 5) (z := 1) (pc' := 108) (L' := [some (.ref l0), d1, some (.int l2), some (.int (s1 - s0)), some (.int l4), some (.int (l5 + 1))]) (by decide +kernel) rfl rfl rfl ?_
  refine s_go (t := 49) (by decide +kernel) ?_
  exact hk49 hc0 h0
set_option maxRecDepth 100000 in
set_option maxHeartbeats 4000000 in
def fX11_fault_b83 (fu : Nat) (sh : HS) (R : HR) (k49 : HI → Nat → Int32 → Int32 → Int32 → Int32 → Option (Int32 × HI)) (k111 : HI → Nat → Int32 → Int32 → Int32 → Option (Int32 × HI)) (I : HI) (l0 : Nat) (l2 : Int32) (l3 : Int32) (l4 : Int32) (l5 : Int32) : Option (Int32 × HI) :=
  (fX11_kindsOf fu sh I R l0 l4).bind fun v8 =>
  (fX11_has fu sh I R v8 l5).bind fun v9 =>
  if v9 = 0 then
    ((fX11_fault_b103 fu sh R k49 k111) I l0 l2 l4 l5 0 l3)
  else
    ((fX11_fault_b103 fu sh R k49 k111) I l0 l2 l4 l5 1 l3)
set_option maxRecDepth 100000 in
set_option maxHeartbeats 4000000 in
theorem vX11_fault_b83 {K J : Nat → Nat} {fu : Nat} {sh : HS} {R : HR} {F : VF} {o : (Int32 × HI)} (hF : F (.inl (some (.int o.1))) sh o.2 R) {k49 : HI → Nat → Int32 → Int32 → Int32 → Int32 → Option (Int32 × HI)} {k111 : HI → Nat → Int32 → Int32 → Int32 → Option (Int32 × HI)} (hk49 : ∀ {I : HI} {l0 : Nat} {l2 : Int32} {l3 : Int32} {l4 : Int32} {l5 : Int32} {d1 : Option Value} {c : Nat × Nat}, (c.1 ≤ 0 ∧ c.2 ≤ 0) → k49 I l0 l2 l3 l4 l5 = some o → V K J 224 49 [some (.ref l0), d1, some (.int l2), some (.int l3), some (.int l4), some (.int l5)] [] sh I R c F) (hk111 : ∀ {I : HI} {l0 : Nat} {l2 : Int32} {l3 : Int32} {l4 : Int32} {d1 d5 : Option Value} {c : Nat × Nat}, (c.1 ≤ 0 ∧ c.2 ≤ 0) → k111 I l0 l2 l3 l4 = some o → V K J 224 111 [some (.ref l0), d1, some (.int l2), some (.int l3), some (.int l4), d5] [] sh I R c F) {I : HI} {l0 : Nat} {l2 : Int32} {l3 : Int32} {l4 : Int32} {l5 : Int32} {d1 : Option Value} {c : Nat × Nat} (hc0 : c.1 ≤ 0 ∧ c.2 ≤ 0) (h0 : fX11_fault_b83 fu sh R k49 k111 I l0 l2 l3 l4 l5 = some o) : V K J 224 83 [some (.ref l0), d1, some (.int l2), some (.int l3), some (.int l4), some (.int l5)] [] sh I R c F := by
  unfold fX11_fault_b83 at h0
  refine s_il (i := 3) (pc' := 84) (by decide +kernel) rfl ?_
  refine s_rl (i := 0) (pc' := 85) (by decide +kernel) rfl ?_
  refine s_il (i := 4) (pc' := 87) (by decide +kernel) rfl ?_
  refine kX11_kindsOf (X := 0) (Y := 0) (X' := 0) (Y' := 0) (pc' := 90) (by decide +kernel) hc0 rfl h0 (fun v8 c hc1 h1 => ?_); clear h0 hc0
  refine s_il (i := 5) (pc' := 92) (by decide +kernel) rfl ?_
  refine kX11_has (X := 0) (Y := 0) (X' := 0) (Y' := 0) (pc' := 95) (by decide +kernel) hc1 rfl h1 (fun v9 c hc2 h2 => ?_); clear h1 hc1
  refine s_if (ins := .ifCond .eq 7) (t := 102) (pc' := 98) (by decide +kernel) rfl rfl rfl h2 (fun p3 h3 => ?_) (fun p3 h3 => ?_) <;> clear h2
  · refine s_c (v := 0) (pc' := 103) (by decide +kernel) ?_
    exact (vX11_fault_b103 hF hk49 hk111) hc2 h3
  · refine s_c (v := 1) (pc' := 99) (by decide +kernel) ?_
    refine s_go (t := 103) (by decide +kernel) ?_
    exact (vX11_fault_b103 hF hk49 hk111) hc2 h3
set_option maxRecDepth 100000 in
set_option maxHeartbeats 4000000 in
def fX11_fault_b49 (fu : Nat) (sh : HS) (R : HR) (k49 : HI → Nat → Int32 → Int32 → Int32 → Int32 → Option (Int32 × HI)) (k111 : HI → Nat → Int32 → Int32 → Int32 → Option (Int32 × HI)) (I : HI) (l0 : Nat) (l2 : Int32) (l3 : Int32) (l4 : Int32) (l5 : Int32) : Option (Int32 × HI) :=
  if 4 ≤ l5 then
    (k111 I l0 l2 l3 l4)
  else
    ((fX11_kindsOf fu sh I R l0 l4).bind fun v6 =>
    (fX11_has fu sh I R v6 l5).bind fun v7 =>
    if v7 = 0 then
      ((fX11_fault_b83 fu sh R k49 k111) I l0 l2 l3 l4 l5)
    else
      (if l3 = 0 then
        ((fX11_toldOf fu sh I R l0 l4 l5 l2).bind fun v10 =>
        some (v10, I))
      else
        ((fX11_fault_b83 fu sh R k49 k111) I l0 l2 l3 l4 l5)))
set_option maxRecDepth 100000 in
set_option maxHeartbeats 4000000 in
theorem vX11_fault_b49 {K J : Nat → Nat} {fu : Nat} {sh : HS} {R : HR} {F : VF} {o : (Int32 × HI)} (hF : F (.inl (some (.int o.1))) sh o.2 R) {k49 : HI → Nat → Int32 → Int32 → Int32 → Int32 → Option (Int32 × HI)} {k111 : HI → Nat → Int32 → Int32 → Int32 → Option (Int32 × HI)} (hk49 : ∀ {I : HI} {l0 : Nat} {l2 : Int32} {l3 : Int32} {l4 : Int32} {l5 : Int32} {d1 : Option Value} {c : Nat × Nat}, (c.1 ≤ 0 ∧ c.2 ≤ 0) → k49 I l0 l2 l3 l4 l5 = some o → V K J 224 49 [some (.ref l0), d1, some (.int l2), some (.int l3), some (.int l4), some (.int l5)] [] sh I R c F) (hk111 : ∀ {I : HI} {l0 : Nat} {l2 : Int32} {l3 : Int32} {l4 : Int32} {d1 d5 : Option Value} {c : Nat × Nat}, (c.1 ≤ 0 ∧ c.2 ≤ 0) → k111 I l0 l2 l3 l4 = some o → V K J 224 111 [some (.ref l0), d1, some (.int l2), some (.int l3), some (.int l4), d5] [] sh I R c F) {I : HI} {l0 : Nat} {l2 : Int32} {l3 : Int32} {l4 : Int32} {l5 : Int32} {d1 : Option Value} {c : Nat × Nat} (hc0 : c.1 ≤ 0 ∧ c.2 ≤ 0) (h0 : fX11_fault_b49 fu sh R k49 k111 I l0 l2 l3 l4 l5 = some o) : V K J 224 49 [some (.ref l0), d1, some (.int l2), some (.int l3), some (.int l4), some (.int l5)] [] sh I R c F := by
  unfold fX11_fault_b49 at h0
  refine s_il (i := 5) (pc' := 51) (by decide +kernel) rfl ?_
  refine s_c (v := 4) (pc' := 52) (by decide +kernel) ?_
  refine s_if (ins := .if_icmp .ge 59) (t := 111) (pc' := 55) (by decide +kernel) rfl rfl rfl h0 (fun p1 h1 => ?_) (fun p1 h1 => ?_) <;> clear h0
  · exact hk111 hc0 h1
  · refine s_rl (i := 0) (pc' := 56) (by decide +kernel) rfl ?_
    refine s_il (i := 4) (pc' := 58) (by decide +kernel) rfl ?_
    refine kX11_kindsOf (X := 0) (Y := 0) (X' := 0) (Y' := 0) (pc' := 61) (by decide +kernel) hc0 rfl h1 (fun v6 c hc1 h2 => ?_); clear h1 hc0
    refine s_il (i := 5) (pc' := 63) (by decide +kernel) rfl ?_
    refine kX11_has (X := 0) (Y := 0) (X' := 0) (Y' := 0) (pc' := 66) (by decide +kernel) hc1 rfl h2 (fun v7 c hc2 h3 => ?_); clear h2 hc1
    refine s_if (ins := .ifCond .eq 17) (t := 83) (pc' := 69) (by decide +kernel) rfl rfl rfl h3 (fun p4 h4 => ?_) (fun p4 h4 => ?_) <;> clear h3
    · exact (vX11_fault_b83 hF hk49 hk111) hc2 h4
    · refine s_il (i := 3) (pc' := 70) (by decide +kernel) rfl ?_
      refine s_ifn (ins := .ifCond .ne 13) (t := 83) (pc' := 73) (by decide +kernel) rfl rfl rfl h4 (fun p5 h5 => ?_) (fun p5 h5 => ?_) <;> clear h4
      · exact (vX11_fault_b83 hF hk49 hk111) hc2 h5
      · refine s_rl (i := 0) (pc' := 74) (by decide +kernel) rfl ?_
        refine s_il (i := 4) (pc' := 76) (by decide +kernel) rfl ?_
        refine s_il (i := 5) (pc' := 78) (by decide +kernel) rfl ?_
        refine s_il (i := 2) (pc' := 79) (by decide +kernel) rfl ?_
        refine kX11_toldOf (X := 0) (Y := 0) (X' := 0) (Y' := 0) (pc' := 82) (by decide +kernel) hc2 rfl h5 (fun v10 c hc3 h6 => ?_); clear h5 hc2
        have e9 := Option.some.inj h6; subst e9
        exact s_ri (X := 0) (Y := 0) (by decide +kernel) hc3 hF
set_option maxRecDepth 100000 in
set_option maxHeartbeats 4000000 in
def fX11_fault_l49 (fu : Nat) (sh : HS) (R : HR) (k111 : HI → Nat → Int32 → Int32 → Int32 → Option (Int32 × HI)) : Nat → HI → Nat → Int32 → Int32 → Int32 → Int32 → Option (Int32 × HI)
  | 0 => fun _ _ _ _ _ _ => none
  | n + 1 => fX11_fault_b49 fu sh R (fX11_fault_l49 fu sh R k111 n) k111
set_option maxRecDepth 100000 in
set_option maxHeartbeats 4000000 in
theorem vX11_fault_l49 {K J : Nat → Nat} {fu : Nat} {sh : HS} {R : HR} {F : VF} {o : (Int32 × HI)} (hF : F (.inl (some (.int o.1))) sh o.2 R) {k111 : HI → Nat → Int32 → Int32 → Int32 → Option (Int32 × HI)} (hk111 : ∀ {I : HI} {l0 : Nat} {l2 : Int32} {l3 : Int32} {l4 : Int32} {d1 d5 : Option Value} {c : Nat × Nat}, (c.1 ≤ 0 ∧ c.2 ≤ 0) → k111 I l0 l2 l3 l4 = some o → V K J 224 111 [some (.ref l0), d1, some (.int l2), some (.int l3), some (.int l4), d5] [] sh I R c F) : ∀ (n : Nat) {I : HI} {l0 : Nat} {l2 : Int32} {l3 : Int32} {l4 : Int32} {l5 : Int32} {d1 : Option Value} {c : Nat × Nat} (_ : c.1 ≤ 0 ∧ c.2 ≤ 0) (_ : fX11_fault_l49 fu sh R k111 n I l0 l2 l3 l4 l5 = some o), V K J 224 49 [some (.ref l0), d1, some (.int l2), some (.int l3), some (.int l4), some (.int l5)] [] sh I R c F := by
  intro n
  induction n with
  | zero => exact fun _ h0 => nomatch h0
  | succ n ih => exact fun hc0 h0 => vX11_fault_b49 hF ih hk111 hc0 h0
set_option maxRecDepth 100000 in
set_option maxHeartbeats 4000000 in
def fX11_fault_b111 (fu : Nat) (sh : HS) (R : HR) (k35 : HI → Nat → Int32 → Int32 → Int32 → Option (Int32 × HI)) (I : HI) (l0 : Nat) (l2 : Int32) (l3 : Int32) (l4 : Int32) : Option (Int32 × HI) :=
  k35 I l0 l2 l3 (l4 + 1)
set_option maxRecDepth 100000 in
set_option maxHeartbeats 4000000 in
theorem vX11_fault_b111 {K J : Nat → Nat} {fu : Nat} {sh : HS} {R : HR} {F : VF} {o : (Int32 × HI)} (hF : F (.inl (some (.int o.1))) sh o.2 R) {k35 : HI → Nat → Int32 → Int32 → Int32 → Option (Int32 × HI)} (hk35 : ∀ {I : HI} {l0 : Nat} {l2 : Int32} {l3 : Int32} {l4 : Int32} {d1 d5 : Option Value} {c : Nat × Nat}, (c.1 ≤ 0 ∧ c.2 ≤ 0) → k35 I l0 l2 l3 l4 = some o → V K J 224 35 [some (.ref l0), d1, some (.int l2), some (.int l3), some (.int l4), d5] [] sh I R c F) {I : HI} {l0 : Nat} {l2 : Int32} {l3 : Int32} {l4 : Int32} {d1 d5 : Option Value} {c : Nat × Nat} (hc0 : c.1 ≤ 0 ∧ c.2 ≤ 0) (h0 : fX11_fault_b111 fu sh R k35 I l0 l2 l3 l4 = some o) : V K J 224 111 [some (.ref l0), d1, some (.int l2), some (.int l3), some (.int l4), d5] [] sh I R c F := by
  unfold fX11_fault_b111 at h0
  refine s_inc (i := 4) (z := 1) (pc' := 114) (L' := [some (.ref l0), d1, some (.int l2), some (.int l3), some (.int (l4 + 1)), d5]) (by decide +kernel) rfl rfl rfl ?_
  refine s_go (t := 35) (by decide +kernel) ?_
  exact hk35 hc0 h0
set_option maxRecDepth 100000 in
set_option maxHeartbeats 4000000 in
def fX11_fault_b35 (fu : Nat) (sh : HS) (R : HR) (k35 : HI → Nat → Int32 → Int32 → Int32 → Option (Int32 × HI)) (I : HI) (l0 : Nat) (l2 : Int32) (l3 : Int32) (l4 : Int32) : Option (Int32 × HI) :=
  (oR sh R l0 9 0).bind fun v3 =>
  (oA sh I v3 4).bind fun v4 =>
  if v4 ≤ l4 then
    ((oP sh I l0 9 5 3).bind fun v5 =>
    some (0, v5))
  else
    ((fX11_fault_l49 fu sh R (fX11_fault_b111 fu sh R k35) fu) I l0 l2 l3 l4 0)
set_option maxRecDepth 100000 in
set_option maxHeartbeats 4000000 in
theorem vX11_fault_b35 {K J : Nat → Nat} {fu : Nat} {sh : HS} {R : HR} {F : VF} {o : (Int32 × HI)} (hF : F (.inl (some (.int o.1))) sh o.2 R) {k35 : HI → Nat → Int32 → Int32 → Int32 → Option (Int32 × HI)} (hk35 : ∀ {I : HI} {l0 : Nat} {l2 : Int32} {l3 : Int32} {l4 : Int32} {d1 d5 : Option Value} {c : Nat × Nat}, (c.1 ≤ 0 ∧ c.2 ≤ 0) → k35 I l0 l2 l3 l4 = some o → V K J 224 35 [some (.ref l0), d1, some (.int l2), some (.int l3), some (.int l4), d5] [] sh I R c F) {I : HI} {l0 : Nat} {l2 : Int32} {l3 : Int32} {l4 : Int32} {d1 d5 : Option Value} {c : Nat × Nat} (hc0 : c.1 ≤ 0 ∧ c.2 ≤ 0) (h0 : fX11_fault_b35 fu sh R k35 I l0 l2 l3 l4 = some o) : V K J 224 35 [some (.ref l0), d1, some (.int l2), some (.int l3), some (.int l4), d5] [] sh I R c F := by
  unfold fX11_fault_b35 at h0
  refine s_il (i := 4) (pc' := 37) (by decide +kernel) rfl ?_
  refine s_rl (i := 0) (pc' := 38) (by decide +kernel) rfl ?_
  refine s_gR (t := 9) (j := 0) (pc' := 41) (by decide +kernel) h0 (fun v3 h1 => ?_); clear h0
  refine s_c (v := 4) (pc' := 42) (by decide +kernel) ?_
  refine s_al (pc' := 43) (by decide +kernel) h1 (fun v4 h2 => ?_); clear h1
  refine s_if (ins := .if_icmp .ge 74) (t := 117) (pc' := 46) (by decide +kernel) rfl rfl rfl h2 (fun p3 h3 => ?_) (fun p3 h3 => ?_) <;> clear h2
  · refine s_rl (i := 0) (pc' := 118) (by decide +kernel) rfl ?_
    refine s_c (v := 3) (pc' := 119) (by decide +kernel) ?_
    refine s_pI (t := 9) (j := 5) (ty := 0) (pc' := 122) (by decide +kernel) (Or.inl rfl) h3 (fun v5 h4 => ?_); clear h3
    refine s_c (v := 0) (pc' := 123) (by decide +kernel) ?_
    have e9 := Option.some.inj h4; subst e9
    exact s_ri (X := 0) (Y := 0) (by decide +kernel) hc0 hF
  · refine s_c (v := 0) (pc' := 47) (by decide +kernel) ?_
    refine s_is (i := 5) (pc' := 49) (L' := [some (.ref l0), d1, some (.int l2), some (.int l3), some (.int l4), some (.int 0)]) (by decide +kernel) rfl rfl ?_
    exact (vX11_fault_l49 hF (vX11_fault_b111 hF hk35) fu) hc0 h3
set_option maxRecDepth 100000 in
set_option maxHeartbeats 4000000 in
def fX11_fault_l35 (fu : Nat) (sh : HS) (R : HR) : Nat → HI → Nat → Int32 → Int32 → Int32 → Option (Int32 × HI)
  | 0 => fun _ _ _ _ _ => none
  | n + 1 => fX11_fault_b35 fu sh R (fX11_fault_l35 fu sh R n)
set_option maxRecDepth 100000 in
set_option maxHeartbeats 4000000 in
theorem vX11_fault_l35 {K J : Nat → Nat} {fu : Nat} {sh : HS} {R : HR} {F : VF} {o : (Int32 × HI)} (hF : F (.inl (some (.int o.1))) sh o.2 R) : ∀ (n : Nat) {I : HI} {l0 : Nat} {l2 : Int32} {l3 : Int32} {l4 : Int32} {d1 d5 : Option Value} {c : Nat × Nat} (_ : c.1 ≤ 0 ∧ c.2 ≤ 0) (_ : fX11_fault_l35 fu sh R n I l0 l2 l3 l4 = some o), V K J 224 35 [some (.ref l0), d1, some (.int l2), some (.int l3), some (.int l4), d5] [] sh I R c F := by
  intro n
  induction n with
  | zero => exact fun _ h0 => nomatch h0
  | succ n ih => exact fun hc0 h0 => vX11_fault_b35 hF ih hc0 h0
set_option maxRecDepth 100000 in
set_option maxHeartbeats 4000000 in
def fX11_fault_b22 (fu : Nat) (sh : HS) (R : HR) (I : HI) (l0 : Nat) (l1 : Int32) (l2 : Int32) (s0 : Int32) (s1 : Nat) : Option (Int32 × HI) :=
  oH (fX11_isWrong fu sh I R s1 s0) fun v2 w2 =>
  if v2 = 0 then
    ((fX11_fault_l35 fu sh R fu) w2 l0 l2 l1 0)
  else
    (some (0, w2))
set_option maxRecDepth 100000 in
set_option maxHeartbeats 4000000 in
theorem vX11_fault_b22 {K J : Nat → Nat} {fu : Nat} {sh : HS} {R : HR} {F : VF} {o : (Int32 × HI)} (hF : F (.inl (some (.int o.1))) sh o.2 R) {I : HI} {l0 : Nat} {l1 : Int32} {l2 : Int32} {s0 : Int32} {s1 : Nat} {d3 d4 d5 : Option Value} {c : Nat × Nat} (hc0 : c.1 ≤ 0 ∧ c.2 ≤ 0) (h0 : fX11_fault_b22 fu sh R I l0 l1 l2 s0 s1 = some o) : V K J 224 22 [some (.ref l0), some (.int l1), some (.int l2), d3, d4, d5] [.int s0, .ref s1] sh I R c F := by
  unfold fX11_fault_b22 at h0
  refine kX11_isWrong (X := 0) (Y := 0) (X' := 0) (Y' := 0) (pc' := 25) (by decide +kernel) hc0 rfl h0 (fun v2 w2 c hc1 h1 => ?_); clear h0 hc0
  refine s_if (ins := .ifCond .eq 5) (t := 30) (pc' := 28) (by decide +kernel) rfl rfl rfl h1 (fun p2 h2 => ?_) (fun p2 h2 => ?_) <;> clear h1
  · refine s_il (i := 1) (pc' := 31) (by decide +kernel) rfl ?_
    refine s_is (i := 3) (pc' := 32) (L' := [some (.ref l0), some (.int l1), some (.int l2), some (.int l1), d4, d5]) (by decide +kernel) rfl rfl ?_
    refine s_c (v := 0) (pc' := 33) (by decide +kernel) ?_
    refine s_is (i := 4) (pc' := 35) (L' := [some (.ref l0), some (.int l1), some (.int l2), some (.int l1), some (.int 0), d5]) (by decide +kernel) rfl rfl ?_
    exact (vX11_fault_l35 hF fu) hc1 h2
  · refine s_c (v := 0) (pc' := 29) (by decide +kernel) ?_
    have e9 := Option.some.inj h2; subst e9
    exact s_ri (X := 0) (Y := 0) (by decide +kernel) hc1 hF
set_option maxRecDepth 100000 in
set_option maxHeartbeats 4000000 in
def fX11_fault_b21 (fu : Nat) (sh : HS) (R : HR) (I : HI) (l0 : Nat) (l1 : Int32) (l2 : Int32) (s0 : Nat) : Option (Int32 × HI) :=
  (fX11_fault_b22 fu sh R) I l0 l1 l2 0 s0
set_option maxRecDepth 100000 in
set_option maxHeartbeats 4000000 in
theorem vX11_fault_b21 {K J : Nat → Nat} {fu : Nat} {sh : HS} {R : HR} {F : VF} {o : (Int32 × HI)} (hF : F (.inl (some (.int o.1))) sh o.2 R) {I : HI} {l0 : Nat} {l1 : Int32} {l2 : Int32} {s0 : Nat} {d3 d4 d5 : Option Value} {c : Nat × Nat} (hc0 : c.1 ≤ 0 ∧ c.2 ≤ 0) (h0 : fX11_fault_b21 fu sh R I l0 l1 l2 s0 = some o) : V K J 224 21 [some (.ref l0), some (.int l1), some (.int l2), d3, d4, d5] [.ref s0] sh I R c F := by
  unfold fX11_fault_b21 at h0
  refine s_c (v := 0) (pc' := 22) (by decide +kernel) ?_
  exact (vX11_fault_b22 hF) hc0 h0
set_option maxRecDepth 100000 in
set_option maxHeartbeats 4000000 in
def fX11_fault (fu : Nat) (sh : HS) (I : HI) (R : HR) (l0 : Nat) (l1 : Int32) (l2 : Int32) : Option (Int32 × HI) :=
  if isT sh l0 9 = true then
    ((fX11_isIn fu sh I R (l2.toInt64) 0 2).bind fun v1 =>
    if v1 = 0 then
      ((fX11_fault_b21 fu sh R) I l0 l1 l2 l0)
    else
      (if l1 < 0 then
        ((fX11_fault_b21 fu sh R) I l0 l1 l2 l0)
      else
        ((fX11_fault_b22 fu sh R) I l0 l1 l2 1 l0)))
  else none
set_option maxRecDepth 100000 in
set_option maxHeartbeats 4000000 in
theorem vX11_fault {K J : Nat → Nat} {fu : Nat} {sh : HS} {I : HI} {R : HR} {F : VF} {o : (Int32 × HI)} (hF : F (.inl (some (.int o.1))) sh o.2 R) {l0 : Nat} {l1 : Int32} {l2 : Int32} (h0 : fX11_fault fu sh I R l0 l1 l2 = some o) : V K J 224 0 (ent 6 [.ref l0, .int l1, .int l2]) [] sh I R (0, 0) F := by
  unfold fX11_fault at h0
  obtain ⟨-, h1⟩ := gd h0; clear h0
  have hc0 : ((0 : Nat), (0 : Nat)).1 ≤ 0 ∧ ((0 : Nat), (0 : Nat)).2 ≤ 0 := ⟨Nat.le_refl _, Nat.le_refl _⟩
  show V K J 224 0 [some (.ref l0), some (.int l1), some (.int l2), none, none, none] [] sh I R (0, 0) F
  refine s_rl (i := 0) (pc' := 1) (by decide +kernel) rfl ?_
  refine s_il (i := 2) (pc' := 2) (by decide +kernel) rfl ?_
  refine s_a (ins := .i2l) (pc' := 3) (by decide +kernel) rfl ?_
  refine s_cJ (v := 0) (pc' := 4) (by decide +kernel) ?_
  refine s_cJ (v := 2) (pc' := 7) (by decide +kernel) ?_
  refine kX11_isIn (X := 0) (Y := 0) (X' := 0) (Y' := 0) (pc' := 10) (by decide +kernel) hc0 rfl h1 (fun v1 c hc1 h2 => ?_); clear h1 hc0
  refine s_if (ins := .ifCond .eq 11) (t := 21) (pc' := 13) (by decide +kernel) rfl rfl rfl h2 (fun p3 h3 => ?_) (fun p3 h3 => ?_) <;> clear h2
  · exact (vX11_fault_b21 hF) hc1 h3
  · refine s_il (i := 1) (pc' := 14) (by decide +kernel) rfl ?_
    refine s_if (ins := .ifCond .lt 7) (t := 21) (pc' := 17) (by decide +kernel) rfl rfl rfl h3 (fun p4 h4 => ?_) (fun p4 h4 => ?_) <;> clear h3
    · exact (vX11_fault_b21 hF) hc1 h4
    · refine s_c (v := 1) (pc' := 18) (by decide +kernel) ?_
      refine s_go (t := 22) (by decide +kernel) ?_
      exact (vX11_fault_b22 hF) hc1 h4
set_option maxRecDepth 100000 in
set_option maxHeartbeats 4000000 in
theorem kX11_fault {K J : Nat → Nat} {fu : Nat} {sh : HS} {I : HI} {R : HR} {F : VF} {mi pc pc' X Y X' Y' : Nat} {L : VL} {rest : List Value} {c : Nat × Nat} {l0 : Nat} {l1 : Int32} {l2 : Int32} {ω : Type} {o : ω} {g : Int32 → HI → Option ω} (hq : cQ mi pc 224 3 pc' X Y X' Y' = true) (hc : c.1 ≤ X ∧ c.2 ≤ Y) (hr : Nat.ble (catS rest) 8 = true) (h : oH (fX11_fault fu sh I R l0 l1 l2) g = some o) (kk : ∀ v w c', (c'.1 ≤ X' ∧ c'.2 ≤ Y') → g v w = some o → V K J mi pc' L ((.int v) :: rest) sh w R c' F) : V K J mi pc L (.int l2 :: .int l1 :: .ref l0 :: rest) sh I R c F := by
  obtain ⟨r, h1, h2⟩ := bnd h
  have hT : isT sh l0 9 = true := by unfold fX11_fault at h1; exact (gd h1).1
  have ml : mL 224 = 6 := by decide +kernel
  have mk : mK 224 = 1 := by decide +kernel
  have mc : mC 224 = 9 := by decide +kernel
  obtain ⟨v, w⟩ := r
  refine s_call (as := [.int l2, .int l1, .ref l0]) (G := fun o' sh' I' R' => o' = .inl (some (.int v)) ∧ sh' = sh ∧ I' = w ∧ R' = R) hq hc rfl hr (by rw [ml]; rfl) (Or.inl rfl) (fun _ => Or.inl ⟨by rw [mc]; decide, by rw [mc]; exact isT_iff.mp hT⟩) (fun z => absurd (mk.symm.trans z) (by decide)) (by rw [ml]; exact vX11_fault (F := fun o' sh' I' R' => o' = .inl (some (.int v)) ∧ sh' = sh ∧ I' = w ∧ R' = R) ⟨rfl, rfl, rfl, rfl⟩ h1) ?_ ?_ ?_
  · rintro sh' I' R' c' hc' ⟨g1, rfl, rfl, rfl⟩
    cases g1
  · rintro v' sh' I' R' c' hc' ⟨g1, rfl, rfl, rfl⟩
    cases g1
    exact kk _ _ _ hc' h2
  · rintro E' sh' I' R' ⟨g1, rfl, rfl, rfl⟩
    cases g1
set_option maxRecDepth 100000 in
set_option maxHeartbeats 4000000 in
def fX11_faultsOf_b21 (fu : Nat) (sh : HS) (R : HR) (I : HI) (s0 : Int32) : Option (Int32 × HI) :=
  some (s0, I)
set_option maxRecDepth 100000 in
set_option maxHeartbeats 4000000 in
theorem vX11_faultsOf_b21 {K J : Nat → Nat} {fu : Nat} {sh : HS} {R : HR} {F : VF} {o : (Int32 × HI)} (hF : F (.inl (some (.int o.1))) sh o.2 R) {I : HI} {s0 : Int32} {d0 d1 : Option Value} {c : Nat × Nat} (hc0 : c.1 ≤ 0 ∧ c.2 ≤ 0) (h0 : fX11_faultsOf_b21 fu sh R I s0 = some o) : V K J 225 21 [d0, d1] [.int s0] sh I R c F := by
  unfold fX11_faultsOf_b21 at h0
  have e9 := Option.some.inj h0; subst e9
  exact s_ri (X := 0) (Y := 0) (by decide +kernel) hc0 hF
set_option maxRecDepth 100000 in
set_option maxHeartbeats 4000000 in
def fX11_faultsOf (fu : Nat) (sh : HS) (I : HI) (R : HR) (l0 : Nat) (l1 : Int32) : Option (Int32 × HI) :=
  if isT sh l0 9 = true then
    ((fX11_isShot fu sh I R l0 l1).bind fun v1 =>
    oH (fX11_isWrong fu sh I R l0 v1) fun v2 w2 =>
    if v2 = 0 then
      ((fX11_kindsOf fu sh w2 R l0 l1).bind fun v3 =>
      (fX11_faultsOf_b21 fu sh R) w2 v3)
    else
      ((fX11_faultsOf_b21 fu sh R) w2 0))
  else none
set_option maxRecDepth 100000 in
set_option maxHeartbeats 4000000 in
theorem vX11_faultsOf {K J : Nat → Nat} {fu : Nat} {sh : HS} {I : HI} {R : HR} {F : VF} {o : (Int32 × HI)} (hF : F (.inl (some (.int o.1))) sh o.2 R) {l0 : Nat} {l1 : Int32} (h0 : fX11_faultsOf fu sh I R l0 l1 = some o) : V K J 225 0 (ent 2 [.ref l0, .int l1]) [] sh I R (0, 0) F := by
  unfold fX11_faultsOf at h0
  obtain ⟨-, h1⟩ := gd h0; clear h0
  have hc0 : ((0 : Nat), (0 : Nat)).1 ≤ 0 ∧ ((0 : Nat), (0 : Nat)).2 ≤ 0 := ⟨Nat.le_refl _, Nat.le_refl _⟩
  show V K J 225 0 [some (.ref l0), some (.int l1)] [] sh I R (0, 0) F
  refine s_rl (i := 0) (pc' := 1) (by decide +kernel) rfl ?_
  refine s_rl (i := 0) (pc' := 2) (by decide +kernel) rfl ?_
  refine s_il (i := 1) (pc' := 3) (by decide +kernel) rfl ?_
  refine kX11_isShot (X := 0) (Y := 0) (X' := 0) (Y' := 0) (pc' := 6) (by decide +kernel) hc0 rfl h1 (fun v1 c hc1 h2 => ?_); clear h1 hc0
  refine kX11_isWrong (X := 0) (Y := 0) (X' := 0) (Y' := 0) (pc' := 9) (by decide +kernel) hc1 rfl h2 (fun v2 w2 c hc2 h3 => ?_); clear h2 hc1
  refine s_if (ins := .ifCond .eq 7) (t := 16) (pc' := 12) (by decide +kernel) rfl rfl rfl h3 (fun p4 h4 => ?_) (fun p4 h4 => ?_) <;> clear h3
  · refine s_rl (i := 0) (pc' := 17) (by decide +kernel) rfl ?_
    refine s_il (i := 1) (pc' := 18) (by decide +kernel) rfl ?_
    refine kX11_kindsOf (X := 0) (Y := 0) (X' := 0) (Y' := 0) (pc' := 21) (by decide +kernel) hc2 rfl h4 (fun v3 c hc3 h5 => ?_); clear h4 hc2
    exact (vX11_faultsOf_b21 hF) hc3 h5
  · refine s_c (v := 0) (pc' := 13) (by decide +kernel) ?_
    refine s_go (t := 21) (by decide +kernel) ?_
    exact (vX11_faultsOf_b21 hF) hc2 h4
set_option maxRecDepth 100000 in
set_option maxHeartbeats 4000000 in
theorem kX11_faultsOf {K J : Nat → Nat} {fu : Nat} {sh : HS} {I : HI} {R : HR} {F : VF} {mi pc pc' X Y X' Y' : Nat} {L : VL} {rest : List Value} {c : Nat × Nat} {l0 : Nat} {l1 : Int32} {ω : Type} {o : ω} {g : Int32 → HI → Option ω} (hq : cQ mi pc 225 2 pc' X Y X' Y' = true) (hc : c.1 ≤ X ∧ c.2 ≤ Y) (hr : Nat.ble (catS rest) 8 = true) (h : oH (fX11_faultsOf fu sh I R l0 l1) g = some o) (kk : ∀ v w c', (c'.1 ≤ X' ∧ c'.2 ≤ Y') → g v w = some o → V K J mi pc' L ((.int v) :: rest) sh w R c' F) : V K J mi pc L (.int l1 :: .ref l0 :: rest) sh I R c F := by
  obtain ⟨r, h1, h2⟩ := bnd h
  have hT : isT sh l0 9 = true := by unfold fX11_faultsOf at h1; exact (gd h1).1
  have ml : mL 225 = 2 := by decide +kernel
  have mk : mK 225 = 1 := by decide +kernel
  have mc : mC 225 = 9 := by decide +kernel
  obtain ⟨v, w⟩ := r
  refine s_call (as := [.int l1, .ref l0]) (G := fun o' sh' I' R' => o' = .inl (some (.int v)) ∧ sh' = sh ∧ I' = w ∧ R' = R) hq hc rfl hr (by rw [ml]; rfl) (Or.inl rfl) (fun _ => Or.inl ⟨by rw [mc]; decide, by rw [mc]; exact isT_iff.mp hT⟩) (fun z => absurd (mk.symm.trans z) (by decide)) (by rw [ml]; exact vX11_faultsOf (F := fun o' sh' I' R' => o' = .inl (some (.int v)) ∧ sh' = sh ∧ I' = w ∧ R' = R) ⟨rfl, rfl, rfl, rfl⟩ h1) ?_ ?_ ?_
  · rintro sh' I' R' c' hc' ⟨g1, rfl, rfl, rfl⟩
    cases g1
  · rintro v' sh' I' R' c' hc' ⟨g1, rfl, rfl, rfl⟩
    cases g1
    exact kk _ _ _ hc' h2
  · rintro E' sh' I' R' ⟨g1, rfl, rfl, rfl⟩
    cases g1
set_option maxRecDepth 100000 in
set_option maxHeartbeats 4000000 in
def fX11_faultsAt (fu : Nat) (sh : HS) (I : HI) (R : HR) (l0 : Nat) (l1 : Int32) (l2 : Int32) (l3 : Int32) : Option (Int32 × HI) :=
  if isT sh l0 9 = true then
    ((fX11_get fu sh I R l0 l1 1).bind fun v1 =>
    (fX11_get fu sh I R l0 l1 2).bind fun v2 =>
    (fX11_set fu sh I R l0 l1 1 l2).bind fun w3 =>
    (fX11_set fu sh w3 R l0 l1 2 l3).bind fun w4 =>
    (fX11_faultsNow fu sh w4 R l0).bind fun v5 =>
    (fX11_set fu sh w4 R l0 l1 1 v1).bind fun w6 =>
    (fX11_set fu sh w6 R l0 l1 2 v2).bind fun w7 =>
    some (v5, w7))
  else none
set_option maxRecDepth 100000 in
set_option maxHeartbeats 4000000 in
theorem vX11_faultsAt {K J : Nat → Nat} {fu : Nat} {sh : HS} {I : HI} {R : HR} {F : VF} {o : (Int32 × HI)} (hF : F (.inl (some (.int o.1))) sh o.2 R) {l0 : Nat} {l1 : Int32} {l2 : Int32} {l3 : Int32} (h0 : fX11_faultsAt fu sh I R l0 l1 l2 l3 = some o) : V K J 226 0 (ent 7 [.ref l0, .int l1, .int l2, .int l3]) [] sh I R (0, 0) F := by
  unfold fX11_faultsAt at h0
  obtain ⟨-, h1⟩ := gd h0; clear h0
  have hc0 : ((0 : Nat), (0 : Nat)).1 ≤ 0 ∧ ((0 : Nat), (0 : Nat)).2 ≤ 0 := ⟨Nat.le_refl _, Nat.le_refl _⟩
  show V K J 226 0 [some (.ref l0), some (.int l1), some (.int l2), some (.int l3), none, none, none] [] sh I R (0, 0) F
  refine s_rl (i := 0) (pc' := 1) (by decide +kernel) rfl ?_
  refine s_il (i := 1) (pc' := 2) (by decide +kernel) rfl ?_
  refine s_c (v := 1) (pc' := 3) (by decide +kernel) ?_
  refine kX11_get (X := 0) (Y := 0) (X' := 0) (Y' := 0) (pc' := 6) (by decide +kernel) hc0 rfl h1 (fun v1 c hc1 h2 => ?_); clear h1 hc0
  refine s_is (i := 4) (pc' := 8) (L' := [some (.ref l0), some (.int l1), some (.int l2), some (.int l3), some (.int v1), none, none]) (by decide +kernel) rfl rfl ?_
  refine s_rl (i := 0) (pc' := 9) (by decide +kernel) rfl ?_
  refine s_il (i := 1) (pc' := 10) (by decide +kernel) rfl ?_
  refine s_c (v := 2) (pc' := 11) (by decide +kernel) ?_
  refine kX11_get (X := 0) (Y := 0) (X' := 0) (Y' := 0) (pc' := 14) (by decide +kernel) hc1 rfl h2 (fun v2 c hc2 h3 => ?_); clear h2 hc1
  refine s_is (i := 5) (pc' := 16) (L' := [some (.ref l0), some (.int l1), some (.int l2), some (.int l3), some (.int v1), some (.int v2), none]) (by decide +kernel) rfl rfl ?_
  refine s_rl (i := 0) (pc' := 17) (by decide +kernel) rfl ?_
  refine s_il (i := 1) (pc' := 18) (by decide +kernel) rfl ?_
  refine s_c (v := 1) (pc' := 19) (by decide +kernel) ?_
  refine s_il (i := 2) (pc' := 20) (by decide +kernel) rfl ?_
  refine kX11_set (X := 0) (Y := 0) (X' := 0) (Y' := 0) (pc' := 23) (by decide +kernel) hc2 rfl h3 (fun w3 c hc3 h4 => ?_); clear h3 hc2
  refine s_rl (i := 0) (pc' := 24) (by decide +kernel) rfl ?_
  refine s_il (i := 1) (pc' := 25) (by decide +kernel) rfl ?_
  refine s_c (v := 2) (pc' := 26) (by decide +kernel) ?_
  refine s_il (i := 3) (pc' := 27) (by decide +kernel) rfl ?_
  refine kX11_set (X := 0) (Y := 0) (X' := 0) (Y' := 0) (pc' := 30) (by decide +kernel) hc3 rfl h4 (fun w4 c hc4 h5 => ?_); clear h4 hc3
  refine s_rl (i := 0) (pc' := 31) (by decide +kernel) rfl ?_
  refine kX11_faultsNow (X := 0) (Y := 0) (X' := 0) (Y' := 0) (pc' := 34) (by decide +kernel) hc4 rfl h5 (fun v5 c hc5 h6 => ?_); clear h5 hc4
  refine s_is (i := 6) (pc' := 36) (L' := [some (.ref l0), some (.int l1), some (.int l2), some (.int l3), some (.int v1), some (.int v2), some (.int v5)]) (by decide +kernel) rfl rfl ?_
  refine s_rl (i := 0) (pc' := 37) (by decide +kernel) rfl ?_
  refine s_il (i := 1) (pc' := 38) (by decide +kernel) rfl ?_
  refine s_c (v := 1) (pc' := 39) (by decide +kernel) ?_
  refine s_il (i := 4) (pc' := 41) (by decide +kernel) rfl ?_
  refine kX11_set (X := 0) (Y := 0) (X' := 0) (Y' := 0) (pc' := 44) (by decide +kernel) hc5 rfl h6 (fun w6 c hc6 h7 => ?_); clear h6 hc5
  refine s_rl (i := 0) (pc' := 45) (by decide +kernel) rfl ?_
  refine s_il (i := 1) (pc' := 46) (by decide +kernel) rfl ?_
  refine s_c (v := 2) (pc' := 47) (by decide +kernel) ?_
  refine s_il (i := 5) (pc' := 49) (by decide +kernel) rfl ?_
  refine kX11_set (X := 0) (Y := 0) (X' := 0) (Y' := 0) (pc' := 52) (by decide +kernel) hc6 rfl h7 (fun w7 c hc7 h8 => ?_); clear h7 hc6
  refine s_il (i := 6) (pc' := 54) (by decide +kernel) rfl ?_
  have e9 := Option.some.inj h8; subst e9
  exact s_ri (X := 0) (Y := 0) (by decide +kernel) hc7 hF
set_option maxRecDepth 100000 in
set_option maxHeartbeats 4000000 in
theorem kX11_faultsAt {K J : Nat → Nat} {fu : Nat} {sh : HS} {I : HI} {R : HR} {F : VF} {mi pc pc' X Y X' Y' : Nat} {L : VL} {rest : List Value} {c : Nat × Nat} {l0 : Nat} {l1 : Int32} {l2 : Int32} {l3 : Int32} {ω : Type} {o : ω} {g : Int32 → HI → Option ω} (hq : cQ mi pc 226 4 pc' X Y X' Y' = true) (hc : c.1 ≤ X ∧ c.2 ≤ Y) (hr : Nat.ble (catS rest) 8 = true) (h : oH (fX11_faultsAt fu sh I R l0 l1 l2 l3) g = some o) (kk : ∀ v w c', (c'.1 ≤ X' ∧ c'.2 ≤ Y') → g v w = some o → V K J mi pc' L ((.int v) :: rest) sh w R c' F) : V K J mi pc L (.int l3 :: .int l2 :: .int l1 :: .ref l0 :: rest) sh I R c F := by
  obtain ⟨r, h1, h2⟩ := bnd h
  have hT : isT sh l0 9 = true := by unfold fX11_faultsAt at h1; exact (gd h1).1
  have ml : mL 226 = 7 := by decide +kernel
  have mk : mK 226 = 1 := by decide +kernel
  have mc : mC 226 = 9 := by decide +kernel
  obtain ⟨v, w⟩ := r
  refine s_call (as := [.int l3, .int l2, .int l1, .ref l0]) (G := fun o' sh' I' R' => o' = .inl (some (.int v)) ∧ sh' = sh ∧ I' = w ∧ R' = R) hq hc rfl hr (by rw [ml]; rfl) (Or.inl rfl) (fun _ => Or.inl ⟨by rw [mc]; decide, by rw [mc]; exact isT_iff.mp hT⟩) (fun z => absurd (mk.symm.trans z) (by decide)) (by rw [ml]; exact vX11_faultsAt (F := fun o' sh' I' R' => o' = .inl (some (.int v)) ∧ sh' = sh ∧ I' = w ∧ R' = R) ⟨rfl, rfl, rfl, rfl⟩ h1) ?_ ?_ ?_
  · rintro sh' I' R' c' hc' ⟨g1, rfl, rfl, rfl⟩
    cases g1
  · rintro v' sh' I' R' c' hc' ⟨g1, rfl, rfl, rfl⟩
    cases g1
    exact kk _ _ _ hc' h2
  · rintro E' sh' I' R' ⟨g1, rfl, rfl, rfl⟩
    cases g1
set_option maxRecDepth 100000 in
set_option maxHeartbeats 4000000 in
def fX11_faultsWith_b58 (fu : Nat) (sh : HS) (R : HR) (I : HI) (s0 : Int32) : Option (Int32 × HI) :=
  some (s0, I)
set_option maxRecDepth 100000 in
set_option maxHeartbeats 4000000 in
theorem vX11_faultsWith_b58 {K J : Nat → Nat} {fu : Nat} {sh : HS} {R : HR} {F : VF} {o : (Int32 × HI)} (hF : F (.inl (some (.int o.1))) sh o.2 R) {I : HI} {s0 : Int32} {d0 d1 d2 d3 : Option Value} {c : Nat × Nat} (hc0 : c.1 ≤ 0 ∧ c.2 ≤ 0) (h0 : fX11_faultsWith_b58 fu sh R I s0 = some o) : V K J 227 58 [d0, d1, d2, d3] [.int s0] sh I R c F := by
  unfold fX11_faultsWith_b58 at h0
  have e9 := Option.some.inj h0; subst e9
  exact s_ri (X := 0) (Y := 0) (by decide +kernel) hc0 hF
set_option maxRecDepth 100000 in
set_option maxHeartbeats 4000000 in
def fX11_faultsWith_b22 (fu : Nat) (sh : HS) (R : HR) (I : HI) (l0 : Nat) (l1 : Int32) (l2 : Int32) (l3 : Int32) (s0 : Int32) (s1 : Nat) : Option (Int32 × HI) :=
  oH (fX11_isWrong fu sh I R s1 s0) fun v2 w2 =>
  if v2 = 0 then
    ((fX11_get fu sh w2 R l0 l1 3).bind fun v3 =>
    (fX11_isAt fu sh w2 R l0 l1 v3 l2 l3).bind fun v4 =>
    if v4 = 0 then
      (oH (fX11_faultsAt fu sh w2 R l0 l1 l2 l3) fun v5 w5 =>
      (fX11_faultsWith_b58 fu sh R) w5 v5)
    else
      ((fX11_faultsWith_b58 fu sh R) w2 (-2)))
  else
    (some (0, w2))
set_option maxRecDepth 100000 in
set_option maxHeartbeats 4000000 in
theorem vX11_faultsWith_b22 {K J : Nat → Nat} {fu : Nat} {sh : HS} {R : HR} {F : VF} {o : (Int32 × HI)} (hF : F (.inl (some (.int o.1))) sh o.2 R) {I : HI} {l0 : Nat} {l1 : Int32} {l2 : Int32} {l3 : Int32} {s0 : Int32} {s1 : Nat} {c : Nat × Nat} (hc0 : c.1 ≤ 0 ∧ c.2 ≤ 0) (h0 : fX11_faultsWith_b22 fu sh R I l0 l1 l2 l3 s0 s1 = some o) : V K J 227 22 [some (.ref l0), some (.int l1), some (.int l2), some (.int l3)] [.int s0, .ref s1] sh I R c F := by
  unfold fX11_faultsWith_b22 at h0
  refine kX11_isWrong (X := 0) (Y := 0) (X' := 0) (Y' := 0) (pc' := 25) (by decide +kernel) hc0 rfl h0 (fun v2 w2 c hc1 h1 => ?_); clear h0 hc0
  refine s_if (ins := .ifCond .eq 5) (t := 30) (pc' := 28) (by decide +kernel) rfl rfl rfl h1 (fun p2 h2 => ?_) (fun p2 h2 => ?_) <;> clear h1
  · refine s_rl (i := 0) (pc' := 31) (by decide +kernel) rfl ?_
    refine s_il (i := 1) (pc' := 32) (by decide +kernel) rfl ?_
    refine s_rl (i := 0) (pc' := 33) (by decide +kernel) rfl ?_
    refine s_il (i := 1) (pc' := 34) (by decide +kernel) rfl ?_
    refine s_c (v := 3) (pc' := 35) (by decide +kernel) ?_
    refine kX11_get (X := 0) (Y := 0) (X' := 0) (Y' := 0) (pc' := 38) (by decide +kernel) hc1 rfl h2 (fun v3 c hc2 h3 => ?_); clear h2 hc1
    refine s_il (i := 2) (pc' := 39) (by decide +kernel) rfl ?_
    refine s_il (i := 3) (pc' := 40) (by decide +kernel) rfl ?_
    refine kX11_isAt (X := 0) (Y := 0) (X' := 0) (Y' := 0) (pc' := 43) (by decide +kernel) hc2 rfl h3 (fun v4 c hc3 h4 => ?_); clear h3 hc2
    refine s_if (ins := .ifCond .eq 8) (t := 51) (pc' := 46) (by decide +kernel) rfl rfl rfl h4 (fun p5 h5 => ?_) (fun p5 h5 => ?_) <;> clear h4
    · refine s_rl (i := 0) (pc' := 52) (by decide +kernel) rfl ?_
      refine s_il (i := 1) (pc' := 53) (by decide +kernel) rfl ?_
      refine s_il (i := 2) (pc' := 54) (by decide +kernel) rfl ?_
      refine s_il (i := 3) (pc' := 55) (by decide +kernel) rfl ?_
      refine kX11_faultsAt (X := 0) (Y := 0) (X' := 0) (Y' := 0) (pc' := 58) (by decide +kernel) hc3 rfl h5 (fun v5 w5 c hc4 h6 => ?_); clear h5 hc3
      exact (vX11_faultsWith_b58 hF) hc4 h6
    · refine s_c (v := (-2)) (pc' := 48) (by decide +kernel) ?_
      refine s_go (t := 58) (by decide +kernel) ?_
      exact (vX11_faultsWith_b58 hF) hc3 h5
  · refine s_c (v := 0) (pc' := 29) (by decide +kernel) ?_
    have e9 := Option.some.inj h2; subst e9
    exact s_ri (X := 0) (Y := 0) (by decide +kernel) hc1 hF
set_option maxRecDepth 100000 in
set_option maxHeartbeats 4000000 in
def fX11_faultsWith_b21 (fu : Nat) (sh : HS) (R : HR) (I : HI) (l0 : Nat) (l1 : Int32) (l2 : Int32) (l3 : Int32) (s0 : Nat) : Option (Int32 × HI) :=
  (fX11_faultsWith_b22 fu sh R) I l0 l1 l2 l3 0 s0
set_option maxRecDepth 100000 in
set_option maxHeartbeats 4000000 in
theorem vX11_faultsWith_b21 {K J : Nat → Nat} {fu : Nat} {sh : HS} {R : HR} {F : VF} {o : (Int32 × HI)} (hF : F (.inl (some (.int o.1))) sh o.2 R) {I : HI} {l0 : Nat} {l1 : Int32} {l2 : Int32} {l3 : Int32} {s0 : Nat} {c : Nat × Nat} (hc0 : c.1 ≤ 0 ∧ c.2 ≤ 0) (h0 : fX11_faultsWith_b21 fu sh R I l0 l1 l2 l3 s0 = some o) : V K J 227 21 [some (.ref l0), some (.int l1), some (.int l2), some (.int l3)] [.ref s0] sh I R c F := by
  unfold fX11_faultsWith_b21 at h0
  refine s_c (v := 0) (pc' := 22) (by decide +kernel) ?_
  exact (vX11_faultsWith_b22 hF) hc0 h0
set_option maxRecDepth 100000 in
set_option maxHeartbeats 4000000 in
def fX11_faultsWith (fu : Nat) (sh : HS) (I : HI) (R : HR) (l0 : Nat) (l1 : Int32) (l2 : Int32) (l3 : Int32) : Option (Int32 × HI) :=
  if isT sh l0 9 = true then
    ((fX11_isShot fu sh I R l0 l1).bind fun v1 =>
    if v1 = 0 then
      ((fX11_faultsWith_b21 fu sh R) I l0 l1 l2 l3 l0)
    else
      ((fX11_isPlace fu sh I R l2 l3).bind fun v6 =>
      if v6 = 0 then
        ((fX11_faultsWith_b21 fu sh R) I l0 l1 l2 l3 l0)
      else
        ((fX11_faultsWith_b22 fu sh R) I l0 l1 l2 l3 1 l0)))
  else none
set_option maxRecDepth 100000 in
set_option maxHeartbeats 4000000 in
theorem vX11_faultsWith {K J : Nat → Nat} {fu : Nat} {sh : HS} {I : HI} {R : HR} {F : VF} {o : (Int32 × HI)} (hF : F (.inl (some (.int o.1))) sh o.2 R) {l0 : Nat} {l1 : Int32} {l2 : Int32} {l3 : Int32} (h0 : fX11_faultsWith fu sh I R l0 l1 l2 l3 = some o) : V K J 227 0 (ent 4 [.ref l0, .int l1, .int l2, .int l3]) [] sh I R (0, 0) F := by
  unfold fX11_faultsWith at h0
  obtain ⟨-, h1⟩ := gd h0; clear h0
  have hc0 : ((0 : Nat), (0 : Nat)).1 ≤ 0 ∧ ((0 : Nat), (0 : Nat)).2 ≤ 0 := ⟨Nat.le_refl _, Nat.le_refl _⟩
  show V K J 227 0 [some (.ref l0), some (.int l1), some (.int l2), some (.int l3)] [] sh I R (0, 0) F
  refine s_rl (i := 0) (pc' := 1) (by decide +kernel) rfl ?_
  refine s_rl (i := 0) (pc' := 2) (by decide +kernel) rfl ?_
  refine s_il (i := 1) (pc' := 3) (by decide +kernel) rfl ?_
  refine kX11_isShot (X := 0) (Y := 0) (X' := 0) (Y' := 0) (pc' := 6) (by decide +kernel) hc0 rfl h1 (fun v1 c hc1 h2 => ?_); clear h1 hc0
  refine s_if (ins := .ifCond .eq 15) (t := 21) (pc' := 9) (by decide +kernel) rfl rfl rfl h2 (fun p3 h3 => ?_) (fun p3 h3 => ?_) <;> clear h2
  · exact (vX11_faultsWith_b21 hF) hc1 h3
  · refine s_il (i := 2) (pc' := 10) (by decide +kernel) rfl ?_
    refine s_il (i := 3) (pc' := 11) (by decide +kernel) rfl ?_
    refine kX11_isPlace (X := 0) (Y := 0) (X' := 0) (Y' := 0) (pc' := 14) (by decide +kernel) hc1 rfl h3 (fun v6 c hc2 h4 => ?_); clear h3 hc1
    refine s_if (ins := .ifCond .eq 7) (t := 21) (pc' := 17) (by decide +kernel) rfl rfl rfl h4 (fun p5 h5 => ?_) (fun p5 h5 => ?_) <;> clear h4
    · exact (vX11_faultsWith_b21 hF) hc2 h5
    · refine s_c (v := 1) (pc' := 18) (by decide +kernel) ?_
      refine s_go (t := 22) (by decide +kernel) ?_
      exact (vX11_faultsWith_b22 hF) hc2 h5
set_option maxRecDepth 100000 in
set_option maxHeartbeats 4000000 in
theorem kX11_faultsWith {K J : Nat → Nat} {fu : Nat} {sh : HS} {I : HI} {R : HR} {F : VF} {mi pc pc' X Y X' Y' : Nat} {L : VL} {rest : List Value} {c : Nat × Nat} {l0 : Nat} {l1 : Int32} {l2 : Int32} {l3 : Int32} {ω : Type} {o : ω} {g : Int32 → HI → Option ω} (hq : cQ mi pc 227 4 pc' X Y X' Y' = true) (hc : c.1 ≤ X ∧ c.2 ≤ Y) (hr : Nat.ble (catS rest) 8 = true) (h : oH (fX11_faultsWith fu sh I R l0 l1 l2 l3) g = some o) (kk : ∀ v w c', (c'.1 ≤ X' ∧ c'.2 ≤ Y') → g v w = some o → V K J mi pc' L ((.int v) :: rest) sh w R c' F) : V K J mi pc L (.int l3 :: .int l2 :: .int l1 :: .ref l0 :: rest) sh I R c F := by
  obtain ⟨r, h1, h2⟩ := bnd h
  have hT : isT sh l0 9 = true := by unfold fX11_faultsWith at h1; exact (gd h1).1
  have ml : mL 227 = 4 := by decide +kernel
  have mk : mK 227 = 1 := by decide +kernel
  have mc : mC 227 = 9 := by decide +kernel
  obtain ⟨v, w⟩ := r
  refine s_call (as := [.int l3, .int l2, .int l1, .ref l0]) (G := fun o' sh' I' R' => o' = .inl (some (.int v)) ∧ sh' = sh ∧ I' = w ∧ R' = R) hq hc rfl hr (by rw [ml]; rfl) (Or.inl rfl) (fun _ => Or.inl ⟨by rw [mc]; decide, by rw [mc]; exact isT_iff.mp hT⟩) (fun z => absurd (mk.symm.trans z) (by decide)) (by rw [ml]; exact vX11_faultsWith (F := fun o' sh' I' R' => o' = .inl (some (.int v)) ∧ sh' = sh ∧ I' = w ∧ R' = R) ⟨rfl, rfl, rfl, rfl⟩ h1) ?_ ?_ ?_
  · rintro sh' I' R' c' hc' ⟨g1, rfl, rfl, rfl⟩
    cases g1
  · rintro v' sh' I' R' c' hc' ⟨g1, rfl, rfl, rfl⟩
    cases g1
    exact kk _ _ _ hc' h2
  · rintro E' sh' I' R' ⟨g1, rfl, rfl, rfl⟩
    cases g1
set_option maxRecDepth 100000 in
set_option maxHeartbeats 4000000 in
def fX11_setupsNow_b19 (fu : Nat) (sh : HS) (R : HR) (k19 : HI → Nat → Int32 → Int32 → Int32 → Option (Int32 × HI)) (k48 : HI → Nat → Int32 → Int32 → Int32 → Option (Int32 × HI)) (I : HI) (l0 : Nat) (l1 : Int32) (l2 : Int32) (l3 : Int32) : Option (Int32 × HI) :=
  (oI sh I l0 9 22).bind fun v5 =>
  if v5 ≤ l3 then
    (k48 I l0 l1 l2 l3)
  else
    ((oR sh R l0 9 20).bind fun v6 =>
    (oA sh I v6 l3).bind fun v7 =>
    (fX11_areNear fu sh I R l0 l2 v7 l1).bind fun v8 =>
    if v8 = 0 then
      (k19 I l0 l1 l2 (l3 + 1))
    else
      (k48 I l0 l1 l2 l3))
set_option maxRecDepth 100000 in
set_option maxHeartbeats 4000000 in
theorem vX11_setupsNow_b19 {K J : Nat → Nat} {fu : Nat} {sh : HS} {R : HR} {F : VF} {o : (Int32 × HI)} (hF : F (.inl (some (.int o.1))) sh o.2 R) {k19 : HI → Nat → Int32 → Int32 → Int32 → Option (Int32 × HI)} {k48 : HI → Nat → Int32 → Int32 → Int32 → Option (Int32 × HI)} (hk19 : ∀ {I : HI} {l0 : Nat} {l1 : Int32} {l2 : Int32} {l3 : Int32}  {c : Nat × Nat}, (c.1 ≤ 0 ∧ c.2 ≤ 0) → k19 I l0 l1 l2 l3 = some o → V K J 251 19 [some (.ref l0), some (.int l1), some (.int l2), some (.int l3)] [] sh I R c F) (hk48 : ∀ {I : HI} {l0 : Nat} {l1 : Int32} {l2 : Int32} {l3 : Int32}  {c : Nat × Nat}, (c.1 ≤ 0 ∧ c.2 ≤ 0) → k48 I l0 l1 l2 l3 = some o → V K J 251 48 [some (.ref l0), some (.int l1), some (.int l2), some (.int l3)] [] sh I R c F) {I : HI} {l0 : Nat} {l1 : Int32} {l2 : Int32} {l3 : Int32} {c : Nat × Nat} (hc0 : c.1 ≤ 0 ∧ c.2 ≤ 0) (h0 : fX11_setupsNow_b19 fu sh R k19 k48 I l0 l1 l2 l3 = some o) : V K J 251 19 [some (.ref l0), some (.int l1), some (.int l2), some (.int l3)] [] sh I R c F := by
  unfold fX11_setupsNow_b19 at h0
  refine s_il (i := 3) (pc' := 20) (by decide +kernel) rfl ?_
  refine s_rl (i := 0) (pc' := 21) (by decide +kernel) rfl ?_
  refine s_gI (t := 9) (j := 22) (ty := 0) (pc' := 24) (by decide +kernel) rfl h0 (fun v5 h1 => ?_); clear h0
  refine s_if (ins := .if_icmp .ge 24) (t := 48) (pc' := 27) (by decide +kernel) rfl rfl rfl h1 (fun p2 h2 => ?_) (fun p2 h2 => ?_) <;> clear h1
  · exact hk48 hc0 h2
  · refine s_rl (i := 0) (pc' := 28) (by decide +kernel) rfl ?_
    refine s_il (i := 2) (pc' := 29) (by decide +kernel) rfl ?_
    refine s_rl (i := 0) (pc' := 30) (by decide +kernel) rfl ?_
    refine s_gR (t := 9) (j := 20) (pc' := 33) (by decide +kernel) h2 (fun v6 h3 => ?_); clear h2
    refine s_il (i := 3) (pc' := 34) (by decide +kernel) rfl ?_
    refine s_al (pc' := 35) (by decide +kernel) h3 (fun v7 h4 => ?_); clear h3
    refine s_il (i := 1) (pc' := 36) (by decide +kernel) rfl ?_
    refine kX11_areNear (X := 0) (Y := 0) (X' := 0) (Y' := 0) (pc' := 39) (by decide +kernel) hc0 rfl h4 (fun v8 c hc1 h5 => ?_); clear h4 hc0
    refine s_ifn (ins := .ifCond .ne 9) (t := 48) (pc' := 42) (by decide +kernel) rfl rfl rfl h5 (fun p6 h6 => ?_) (fun p6 h6 => ?_) <;> clear h5
    · exact hk48 hc1 h6
    · refine s_inc (i := 3) (z := 1) (pc' := 45) (L' := [some (.ref l0), some (.int l1), some (.int l2), some (.int (l3 + 1))]) (by decide +kernel) rfl rfl rfl ?_
      refine s_go (t := 19) (by decide +kernel) ?_
      exact hk19 hc1 h6
set_option maxRecDepth 100000 in
set_option maxHeartbeats 4000000 in
def fX11_setupsNow_l19 (fu : Nat) (sh : HS) (R : HR) (k48 : HI → Nat → Int32 → Int32 → Int32 → Option (Int32 × HI)) : Nat → HI → Nat → Int32 → Int32 → Int32 → Option (Int32 × HI)
  | 0 => fun _ _ _ _ _ => none
  | n + 1 => fX11_setupsNow_b19 fu sh R (fX11_setupsNow_l19 fu sh R k48 n) k48
set_option maxRecDepth 100000 in
set_option maxHeartbeats 4000000 in
theorem vX11_setupsNow_l19 {K J : Nat → Nat} {fu : Nat} {sh : HS} {R : HR} {F : VF} {o : (Int32 × HI)} (hF : F (.inl (some (.int o.1))) sh o.2 R) {k48 : HI → Nat → Int32 → Int32 → Int32 → Option (Int32 × HI)} (hk48 : ∀ {I : HI} {l0 : Nat} {l1 : Int32} {l2 : Int32} {l3 : Int32}  {c : Nat × Nat}, (c.1 ≤ 0 ∧ c.2 ≤ 0) → k48 I l0 l1 l2 l3 = some o → V K J 251 48 [some (.ref l0), some (.int l1), some (.int l2), some (.int l3)] [] sh I R c F) : ∀ (n : Nat) {I : HI} {l0 : Nat} {l1 : Int32} {l2 : Int32} {l3 : Int32} {c : Nat × Nat} (_ : c.1 ≤ 0 ∧ c.2 ≤ 0) (_ : fX11_setupsNow_l19 fu sh R k48 n I l0 l1 l2 l3 = some o), V K J 251 19 [some (.ref l0), some (.int l1), some (.int l2), some (.int l3)] [] sh I R c F := by
  intro n
  induction n with
  | zero => exact fun _ h0 => nomatch h0
  | succ n ih => exact fun hc0 h0 => vX11_setupsNow_b19 hF ih hk48 hc0 h0
set_option maxRecDepth 100000 in
set_option maxHeartbeats 4000000 in
def fX11_setupsNow_b80 (fu : Nat) (sh : HS) (R : HR) (k7 : HI → Nat → Int32 → Int32 → Option (Int32 × HI)) (I : HI) (l0 : Nat) (l1 : Int32) (l2 : Int32) (l3 : Int32) : Option (Int32 × HI) :=
  (oR sh R l0 9 21).bind fun v10 =>
  (oA sh I v10 l3).bind fun v11 =>
  (oS sh I v10 l3 (v11 ||| (1 <<< (l2 &&& 31)))).bind fun v12 =>
  (oR sh R l0 9 19).bind fun v13 =>
  (oS sh v12 v13 l2 l3).bind fun v14 =>
  k7 v14 l0 l1 (l2 + 1)
set_option maxRecDepth 100000 in
set_option maxHeartbeats 4000000 in
theorem vX11_setupsNow_b80 {K J : Nat → Nat} {fu : Nat} {sh : HS} {R : HR} {F : VF} {o : (Int32 × HI)} (hF : F (.inl (some (.int o.1))) sh o.2 R) {k7 : HI → Nat → Int32 → Int32 → Option (Int32 × HI)} (hk7 : ∀ {I : HI} {l0 : Nat} {l1 : Int32} {l2 : Int32} {d3 : Option Value} {c : Nat × Nat}, (c.1 ≤ 0 ∧ c.2 ≤ 0) → k7 I l0 l1 l2 = some o → V K J 251 7 [some (.ref l0), some (.int l1), some (.int l2), d3] [] sh I R c F) {I : HI} {l0 : Nat} {l1 : Int32} {l2 : Int32} {l3 : Int32} {c : Nat × Nat} (hc0 : c.1 ≤ 0 ∧ c.2 ≤ 0) (h0 : fX11_setupsNow_b80 fu sh R k7 I l0 l1 l2 l3 = some o) : V K J 251 80 [some (.ref l0), some (.int l1), some (.int l2), some (.int l3)] [] sh I R c F := by
  unfold fX11_setupsNow_b80 at h0
  refine s_rl (i := 0) (pc' := 81) (by decide +kernel) rfl ?_
  refine s_gR (t := 9) (j := 21) (pc' := 84) (by decide +kernel) h0 (fun v10 h1 => ?_); clear h0
  refine s_il (i := 3) (pc' := 85) (by decide +kernel) rfl ?_
  refine s_a (ins := .dup2) (pc' := 86) (by decide +kernel) rfl ?_
  refine s_al (pc' := 87) (by decide +kernel) h1 (fun v11 h2 => ?_); clear h1
  refine s_c (v := 1) (pc' := 88) (by decide +kernel) ?_
  refine s_il (i := 2) (pc' := 89) (by decide +kernel) rfl ?_
  refine s_a (ins := .ishl) (pc' := 90) (by decide +kernel) rfl ?_
  refine s_a (ins := .ior) (pc' := 91) (by decide +kernel) rfl ?_
  refine s_as (pc' := 92) (by decide +kernel) h2 (fun v12 h3 => ?_); clear h2
  refine s_rl (i := 0) (pc' := 93) (by decide +kernel) rfl ?_
  refine s_gR (t := 9) (j := 19) (pc' := 96) (by decide +kernel) h3 (fun v13 h4 => ?_); clear h3
  refine s_il (i := 2) (pc' := 97) (by decide +kernel) rfl ?_
  refine s_il (i := 3) (pc' := 98) (by decide +kernel) rfl ?_
  refine s_as (pc' := 99) (by decide +kernel) h4 (fun v14 h5 => ?_); clear h4
  refine s_inc (i := 2) (z := 1) (pc' := 102) (L' := [some (.ref l0), some (.int l1), some (.int (l2 + 1)), some (.int l3)]) (by decide +kernel) rfl rfl rfl ?_
  refine s_go (t := 7) (by decide +kernel) ?_
  exact hk7 hc0 h5
set_option maxRecDepth 100000 in
set_option maxHeartbeats 4000000 in
def fX11_setupsNow_b48 (fu : Nat) (sh : HS) (R : HR) (k7 : HI → Nat → Int32 → Int32 → Option (Int32 × HI)) (I : HI) (l0 : Nat) (l1 : Int32) (l2 : Int32) (l3 : Int32) : Option (Int32 × HI) :=
  (oI sh I l0 9 22).bind fun v9 =>
  if l3 = v9 then
    ((oR sh R l0 9 20).bind fun v15 =>
    (oS sh I v15 l3 l2).bind fun v16 =>
    (oR sh R l0 9 21).bind fun v17 =>
    (oS sh v16 v17 l3 0).bind fun v18 =>
    (oI sh v18 l0 9 22).bind fun v19 =>
    (oP sh v18 l0 9 22 (v19 + 1)).bind fun v20 =>
    (fX11_setupsNow_b80 fu sh R k7) v20 l0 l1 l2 l3)
  else
    ((fX11_setupsNow_b80 fu sh R k7) I l0 l1 l2 l3)
set_option maxRecDepth 100000 in
set_option maxHeartbeats 4000000 in
theorem vX11_setupsNow_b48 {K J : Nat → Nat} {fu : Nat} {sh : HS} {R : HR} {F : VF} {o : (Int32 × HI)} (hF : F (.inl (some (.int o.1))) sh o.2 R) {k7 : HI → Nat → Int32 → Int32 → Option (Int32 × HI)} (hk7 : ∀ {I : HI} {l0 : Nat} {l1 : Int32} {l2 : Int32} {d3 : Option Value} {c : Nat × Nat}, (c.1 ≤ 0 ∧ c.2 ≤ 0) → k7 I l0 l1 l2 = some o → V K J 251 7 [some (.ref l0), some (.int l1), some (.int l2), d3] [] sh I R c F) {I : HI} {l0 : Nat} {l1 : Int32} {l2 : Int32} {l3 : Int32} {c : Nat × Nat} (hc0 : c.1 ≤ 0 ∧ c.2 ≤ 0) (h0 : fX11_setupsNow_b48 fu sh R k7 I l0 l1 l2 l3 = some o) : V K J 251 48 [some (.ref l0), some (.int l1), some (.int l2), some (.int l3)] [] sh I R c F := by
  unfold fX11_setupsNow_b48 at h0
  refine s_il (i := 3) (pc' := 49) (by decide +kernel) rfl ?_
  refine s_rl (i := 0) (pc' := 50) (by decide +kernel) rfl ?_
  refine s_gI (t := 9) (j := 22) (ty := 0) (pc' := 53) (by decide +kernel) rfl h0 (fun v9 h1 => ?_); clear h0
  refine s_ifn (ins := .if_icmp .ne 27) (t := 80) (pc' := 56) (by decide +kernel) rfl rfl rfl h1 (fun p2 h2 => ?_) (fun p2 h2 => ?_) <;> clear h1
  · exact (vX11_setupsNow_b80 hF hk7) hc0 h2
  · refine s_rl (i := 0) (pc' := 57) (by decide +kernel) rfl ?_
    refine s_gR (t := 9) (j := 20) (pc' := 60) (by decide +kernel) h2 (fun v15 h3 => ?_); clear h2
    refine s_il (i := 3) (pc' := 61) (by decide +kernel) rfl ?_
    refine s_il (i := 2) (pc' := 62) (by decide +kernel) rfl ?_
    refine s_as (pc' := 63) (by decide +kernel) h3 (fun v16 h4 => ?_); clear h3
    refine s_rl (i := 0) (pc' := 64) (by decide +kernel) rfl ?_
    refine s_gR (t := 9) (j := 21) (pc' := 67) (by decide +kernel) h4 (fun v17 h5 => ?_); clear h4
    refine s_il (i := 3) (pc' := 68) (by decide +kernel) rfl ?_
    refine s_c (v := 0) (pc' := 69) (by decide +kernel) ?_
    refine s_as (pc' := 70) (by decide +kernel) h5 (fun v18 h6 => ?_); clear h5
    refine s_rl (i := 0) (pc' := 71) (by decide +kernel) rfl ?_
    refine s_a (ins := .dup) (pc' := 72) (by decide +kernel) rfl ?_
    refine s_gI (t := 9) (j := 22) (ty := 0) (pc' := 75) (by decide +kernel) rfl h6 (fun v19 h7 => ?_); clear h6
    refine s_c (v := 1) (pc' := 76) (by decide +kernel) ?_
    refine s_a (ins := .iadd) (pc' := 77) (by decide +kernel) rfl ?_
    refine s_pI (t := 9) (j := 22) (ty := 0) (pc' := 80) (by decide +kernel) (Or.inl rfl) h7 (fun v20 h8 => ?_); clear h7
    exact (vX11_setupsNow_b80 hF hk7) hc0 h8
set_option maxRecDepth 100000 in
set_option maxHeartbeats 4000000 in
def fX11_setupsNow_b7 (fu : Nat) (sh : HS) (R : HR) (k7 : HI → Nat → Int32 → Int32 → Option (Int32 × HI)) (I : HI) (l0 : Nat) (l1 : Int32) (l2 : Int32) : Option (Int32 × HI) :=
  (oR sh R l0 9 0).bind fun v2 =>
  (oA sh I v2 4).bind fun v3 =>
  if v3 ≤ l2 then
    ((oI sh I l0 9 22).bind fun v4 =>
    some (v4, I))
  else
    ((fX11_setupsNow_l19 fu sh R (fX11_setupsNow_b48 fu sh R k7) fu) I l0 l1 l2 0)
set_option maxRecDepth 100000 in
set_option maxHeartbeats 4000000 in
theorem vX11_setupsNow_b7 {K J : Nat → Nat} {fu : Nat} {sh : HS} {R : HR} {F : VF} {o : (Int32 × HI)} (hF : F (.inl (some (.int o.1))) sh o.2 R) {k7 : HI → Nat → Int32 → Int32 → Option (Int32 × HI)} (hk7 : ∀ {I : HI} {l0 : Nat} {l1 : Int32} {l2 : Int32} {d3 : Option Value} {c : Nat × Nat}, (c.1 ≤ 0 ∧ c.2 ≤ 0) → k7 I l0 l1 l2 = some o → V K J 251 7 [some (.ref l0), some (.int l1), some (.int l2), d3] [] sh I R c F) {I : HI} {l0 : Nat} {l1 : Int32} {l2 : Int32} {d3 : Option Value} {c : Nat × Nat} (hc0 : c.1 ≤ 0 ∧ c.2 ≤ 0) (h0 : fX11_setupsNow_b7 fu sh R k7 I l0 l1 l2 = some o) : V K J 251 7 [some (.ref l0), some (.int l1), some (.int l2), d3] [] sh I R c F := by
  unfold fX11_setupsNow_b7 at h0
  refine s_il (i := 2) (pc' := 8) (by decide +kernel) rfl ?_
  refine s_rl (i := 0) (pc' := 9) (by decide +kernel) rfl ?_
  refine s_gR (t := 9) (j := 0) (pc' := 12) (by decide +kernel) h0 (fun v2 h1 => ?_); clear h0
  refine s_c (v := 4) (pc' := 13) (by decide +kernel) ?_
  refine s_al (pc' := 14) (by decide +kernel) h1 (fun v3 h2 => ?_); clear h1
  refine s_if (ins := .if_icmp .ge 91) (t := 105) (pc' := 17) (by decide +kernel) rfl rfl rfl h2 (fun p3 h3 => ?_) (fun p3 h3 => ?_) <;> clear h2
  · refine s_rl (i := 0) (pc' := 106) (by decide +kernel) rfl ?_
    refine s_gI (t := 9) (j := 22) (ty := 0) (pc' := 109) (by decide +kernel) rfl h3 (fun v4 h4 => ?_); clear h3
    have e9 := Option.some.inj h4; subst e9
    exact s_ri (X := 0) (Y := 0) (by decide +kernel) hc0 hF
  · refine s_c (v := 0) (pc' := 18) (by decide +kernel) ?_
    refine s_is (i := 3) (pc' := 19) (L' := [some (.ref l0), some (.int l1), some (.int l2), some (.int 0)]) (by decide +kernel) rfl rfl ?_
    exact (vX11_setupsNow_l19 hF (vX11_setupsNow_b48 hF hk7) fu) hc0 h3
set_option maxRecDepth 100000 in
set_option maxHeartbeats 4000000 in
def fX11_setupsNow_l7 (fu : Nat) (sh : HS) (R : HR) : Nat → HI → Nat → Int32 → Int32 → Option (Int32 × HI)
  | 0 => fun _ _ _ _ => none
  | n + 1 => fX11_setupsNow_b7 fu sh R (fX11_setupsNow_l7 fu sh R n)
set_option maxRecDepth 100000 in
set_option maxHeartbeats 4000000 in
theorem vX11_setupsNow_l7 {K J : Nat → Nat} {fu : Nat} {sh : HS} {R : HR} {F : VF} {o : (Int32 × HI)} (hF : F (.inl (some (.int o.1))) sh o.2 R) : ∀ (n : Nat) {I : HI} {l0 : Nat} {l1 : Int32} {l2 : Int32} {d3 : Option Value} {c : Nat × Nat} (_ : c.1 ≤ 0 ∧ c.2 ≤ 0) (_ : fX11_setupsNow_l7 fu sh R n I l0 l1 l2 = some o), V K J 251 7 [some (.ref l0), some (.int l1), some (.int l2), d3] [] sh I R c F := by
  intro n
  induction n with
  | zero => exact fun _ h0 => nomatch h0
  | succ n ih => exact fun hc0 h0 => vX11_setupsNow_b7 hF ih hc0 h0
set_option maxRecDepth 100000 in
set_option maxHeartbeats 4000000 in
def fX11_setupsNow (fu : Nat) (sh : HS) (I : HI) (R : HR) (l0 : Nat) (l1 : Int32) : Option (Int32 × HI) :=
  if isT sh l0 9 = true then
    ((oP sh I l0 9 22 0).bind fun v1 =>
    (fX11_setupsNow_l7 fu sh R fu) v1 l0 l1 0)
  else none
set_option maxRecDepth 100000 in
set_option maxHeartbeats 4000000 in
theorem vX11_setupsNow {K J : Nat → Nat} {fu : Nat} {sh : HS} {I : HI} {R : HR} {F : VF} {o : (Int32 × HI)} (hF : F (.inl (some (.int o.1))) sh o.2 R) {l0 : Nat} {l1 : Int32} (h0 : fX11_setupsNow fu sh I R l0 l1 = some o) : V K J 251 0 (ent 4 [.ref l0, .int l1]) [] sh I R (0, 0) F := by
  unfold fX11_setupsNow at h0
  obtain ⟨-, h1⟩ := gd h0; clear h0
  have hc0 : ((0 : Nat), (0 : Nat)).1 ≤ 0 ∧ ((0 : Nat), (0 : Nat)).2 ≤ 0 := ⟨Nat.le_refl _, Nat.le_refl _⟩
  show V K J 251 0 [some (.ref l0), some (.int l1), none, none] [] sh I R (0, 0) F
  refine s_rl (i := 0) (pc' := 1) (by decide +kernel) rfl ?_
  refine s_c (v := 0) (pc' := 2) (by decide +kernel) ?_
  refine s_pI (t := 9) (j := 22) (ty := 0) (pc' := 5) (by decide +kernel) (Or.inl rfl) h1 (fun v1 h2 => ?_); clear h1
  refine s_c (v := 0) (pc' := 6) (by decide +kernel) ?_
  refine s_is (i := 2) (pc' := 7) (L' := [some (.ref l0), some (.int l1), some (.int 0), none]) (by decide +kernel) rfl rfl ?_
  exact (vX11_setupsNow_l7 hF fu) hc0 h2
set_option maxRecDepth 100000 in
set_option maxHeartbeats 4000000 in
theorem kX11_setupsNow {K J : Nat → Nat} {fu : Nat} {sh : HS} {I : HI} {R : HR} {F : VF} {mi pc pc' X Y X' Y' : Nat} {L : VL} {rest : List Value} {c : Nat × Nat} {l0 : Nat} {l1 : Int32} {ω : Type} {o : ω} {g : Int32 → HI → Option ω} (hq : cQ mi pc 251 2 pc' X Y X' Y' = true) (hc : c.1 ≤ X ∧ c.2 ≤ Y) (hr : Nat.ble (catS rest) 8 = true) (h : oH (fX11_setupsNow fu sh I R l0 l1) g = some o) (kk : ∀ v w c', (c'.1 ≤ X' ∧ c'.2 ≤ Y') → g v w = some o → V K J mi pc' L ((.int v) :: rest) sh w R c' F) : V K J mi pc L (.int l1 :: .ref l0 :: rest) sh I R c F := by
  obtain ⟨r, h1, h2⟩ := bnd h
  have hT : isT sh l0 9 = true := by unfold fX11_setupsNow at h1; exact (gd h1).1
  have ml : mL 251 = 4 := by decide +kernel
  have mk : mK 251 = 1 := by decide +kernel
  have mc : mC 251 = 9 := by decide +kernel
  obtain ⟨v, w⟩ := r
  refine s_call (as := [.int l1, .ref l0]) (G := fun o' sh' I' R' => o' = .inl (some (.int v)) ∧ sh' = sh ∧ I' = w ∧ R' = R) hq hc rfl hr (by rw [ml]; rfl) (Or.inl rfl) (fun _ => Or.inl ⟨by rw [mc]; decide, by rw [mc]; exact isT_iff.mp hT⟩) (fun z => absurd (mk.symm.trans z) (by decide)) (by rw [ml]; exact vX11_setupsNow (F := fun o' sh' I' R' => o' = .inl (some (.int v)) ∧ sh' = sh ∧ I' = w ∧ R' = R) ⟨rfl, rfl, rfl, rfl⟩ h1) ?_ ?_ ?_
  · rintro sh' I' R' c' hc' ⟨g1, rfl, rfl, rfl⟩
    cases g1
  · rintro v' sh' I' R' c' hc' ⟨g1, rfl, rfl, rfl⟩
    cases g1
    exact kk _ _ _ hc' h2
  · rintro E' sh' I' R' ⟨g1, rfl, rfl, rfl⟩
    cases g1
set_option maxRecDepth 100000 in
set_option maxHeartbeats 4000000 in
def fX11_setLimits_b42 (fu : Nat) (sh : HS) (R : HR) (I : HI) (l0 : Nat) (l1 : Int32) (l2 : Int32) (l3 : Int32) (s0 : Int32) (s1 : Nat) : Option (Int32 × HI) :=
  oH (fX11_isWrong fu sh I R s1 s0) fun v2 w2 =>
  if v2 = 0 then
    ((fX11_remember fu sh w2 R l0).bind fun w3 =>
    (oR sh R l0 9 0).bind fun v4 =>
    (oS sh w3 v4 0 l1).bind fun v5 =>
    (oR sh R l0 9 0).bind fun v6 =>
    (oS sh v5 v6 1 l2).bind fun v7 =>
    (oR sh R l0 9 0).bind fun v8 =>
    (oS sh v7 v8 2 l3).bind fun v9 =>
    (oR sh R l0 9 0).bind fun v10 =>
    (oA sh v9 v10 0).bind fun v11 =>
    oH (fX11_setupsNow fu sh v9 R l0 v11) fun v12 w12 =>
    some (v12, w12))
  else
    (some (0, w2))
set_option maxRecDepth 100000 in
set_option maxHeartbeats 4000000 in
theorem vX11_setLimits_b42 {K J : Nat → Nat} {fu : Nat} {sh : HS} {R : HR} {F : VF} {o : (Int32 × HI)} (hF : F (.inl (some (.int o.1))) sh o.2 R) {I : HI} {l0 : Nat} {l1 : Int32} {l2 : Int32} {l3 : Int32} {s0 : Int32} {s1 : Nat} {c : Nat × Nat} (hc0 : c.1 ≤ 0 ∧ c.2 ≤ 0) (h0 : fX11_setLimits_b42 fu sh R I l0 l1 l2 l3 s0 s1 = some o) : V K J 228 42 [some (.ref l0), some (.int l1), some (.int l2), some (.int l3)] [.int s0, .ref s1] sh I R c F := by
  unfold fX11_setLimits_b42 at h0
  refine kX11_isWrong (X := 0) (Y := 0) (X' := 0) (Y' := 0) (pc' := 45) (by decide +kernel) hc0 rfl h0 (fun v2 w2 c hc1 h1 => ?_); clear h0 hc0
  refine s_if (ins := .ifCond .eq 5) (t := 50) (pc' := 48) (by decide +kernel) rfl rfl rfl h1 (fun p2 h2 => ?_) (fun p2 h2 => ?_) <;> clear h1
  · refine s_rl (i := 0) (pc' := 51) (by decide +kernel) rfl ?_
    refine kX11_remember (X := 0) (Y := 0) (X' := 0) (Y' := 0) (pc' := 54) (by decide +kernel) hc1 rfl h2 (fun w3 c hc2 h3 => ?_); clear h2 hc1
    refine s_rl (i := 0) (pc' := 55) (by decide +kernel) rfl ?_
    refine s_gR (t := 9) (j := 0) (pc' := 58) (by decide +kernel) h3 (fun v4 h4 => ?_); clear h3
    refine s_c (v := 0) (pc' := 59) (by decide +kernel) ?_
    refine s_il (i := 1) (pc' := 60) (by decide +kernel) rfl ?_
    refine s_as (pc' := 61) (by decide +kernel) h4 (fun v5 h5 => ?_); clear h4
    refine s_rl (i := 0) (pc' := 62) (by decide +kernel) rfl ?_
    refine s_gR (t := 9) (j := 0) (pc' := 65) (by decide +kernel) h5 (fun v6 h6 => ?_); clear h5
    refine s_c (v := 1) (pc' := 66) (by decide +kernel) ?_
    refine s_il (i := 2) (pc' := 67) (by decide +kernel) rfl ?_
    refine s_as (pc' := 68) (by decide +kernel) h6 (fun v7 h7 => ?_); clear h6
    refine s_rl (i := 0) (pc' := 69) (by decide +kernel) rfl ?_
    refine s_gR (t := 9) (j := 0) (pc' := 72) (by decide +kernel) h7 (fun v8 h8 => ?_); clear h7
    refine s_c (v := 2) (pc' := 73) (by decide +kernel) ?_
    refine s_il (i := 3) (pc' := 74) (by decide +kernel) rfl ?_
    refine s_as (pc' := 75) (by decide +kernel) h8 (fun v9 h9 => ?_); clear h8
    refine s_rl (i := 0) (pc' := 76) (by decide +kernel) rfl ?_
    refine s_rl (i := 0) (pc' := 77) (by decide +kernel) rfl ?_
    refine s_gR (t := 9) (j := 0) (pc' := 80) (by decide +kernel) h9 (fun v10 h10 => ?_); clear h9
    refine s_c (v := 0) (pc' := 81) (by decide +kernel) ?_
    refine s_al (pc' := 82) (by decide +kernel) h10 (fun v11 h11 => ?_); clear h10
    refine kX11_setupsNow (X := 0) (Y := 0) (X' := 0) (Y' := 0) (pc' := 85) (by decide +kernel) hc2 rfl h11 (fun v12 w12 c hc3 h12 => ?_); clear h11 hc2
    have e9 := Option.some.inj h12; subst e9
    exact s_ri (X := 0) (Y := 0) (by decide +kernel) hc3 hF
  · refine s_c (v := 0) (pc' := 49) (by decide +kernel) ?_
    have e9 := Option.some.inj h2; subst e9
    exact s_ri (X := 0) (Y := 0) (by decide +kernel) hc1 hF
set_option maxRecDepth 100000 in
set_option maxHeartbeats 4000000 in
def fX11_setLimits_b41 (fu : Nat) (sh : HS) (R : HR) (I : HI) (l0 : Nat) (l1 : Int32) (l2 : Int32) (l3 : Int32) (s0 : Nat) : Option (Int32 × HI) :=
  (fX11_setLimits_b42 fu sh R) I l0 l1 l2 l3 0 s0
set_option maxRecDepth 100000 in
set_option maxHeartbeats 4000000 in
theorem vX11_setLimits_b41 {K J : Nat → Nat} {fu : Nat} {sh : HS} {R : HR} {F : VF} {o : (Int32 × HI)} (hF : F (.inl (some (.int o.1))) sh o.2 R) {I : HI} {l0 : Nat} {l1 : Int32} {l2 : Int32} {l3 : Int32} {s0 : Nat} {c : Nat × Nat} (hc0 : c.1 ≤ 0 ∧ c.2 ≤ 0) (h0 : fX11_setLimits_b41 fu sh R I l0 l1 l2 l3 s0 = some o) : V K J 228 41 [some (.ref l0), some (.int l1), some (.int l2), some (.int l3)] [.ref s0] sh I R c F := by
  unfold fX11_setLimits_b41 at h0
  refine s_c (v := 0) (pc' := 42) (by decide +kernel) ?_
  exact (vX11_setLimits_b42 hF) hc0 h0
set_option maxRecDepth 100000 in
set_option maxHeartbeats 4000000 in
def fX11_setLimits (fu : Nat) (sh : HS) (I : HI) (R : HR) (l0 : Nat) (l1 : Int32) (l2 : Int32) (l3 : Int32) : Option (Int32 × HI) :=
  if isT sh l0 9 = true then
    ((fX11_isIn fu sh I R (l1.toInt64) 0 99).bind fun v1 =>
    if v1 = 0 then
      ((fX11_setLimits_b41 fu sh R) I l0 l1 l2 l3 l0)
    else
      ((fX11_isIn fu sh I R (l2.toInt64) 0 2000).bind fun v13 =>
      if v13 = 0 then
        ((fX11_setLimits_b41 fu sh R) I l0 l1 l2 l3 l0)
      else
        ((fX11_isIn fu sh I R (l3.toInt64) 0 2000).bind fun v14 =>
        if v14 = 0 then
          ((fX11_setLimits_b41 fu sh R) I l0 l1 l2 l3 l0)
        else
          ((fX11_setLimits_b42 fu sh R) I l0 l1 l2 l3 1 l0))))
  else none
set_option maxRecDepth 100000 in
set_option maxHeartbeats 4000000 in
theorem vX11_setLimits {K J : Nat → Nat} {fu : Nat} {sh : HS} {I : HI} {R : HR} {F : VF} {o : (Int32 × HI)} (hF : F (.inl (some (.int o.1))) sh o.2 R) {l0 : Nat} {l1 : Int32} {l2 : Int32} {l3 : Int32} (h0 : fX11_setLimits fu sh I R l0 l1 l2 l3 = some o) : V K J 228 0 (ent 4 [.ref l0, .int l1, .int l2, .int l3]) [] sh I R (0, 0) F := by
  unfold fX11_setLimits at h0
  obtain ⟨-, h1⟩ := gd h0; clear h0
  have hc0 : ((0 : Nat), (0 : Nat)).1 ≤ 0 ∧ ((0 : Nat), (0 : Nat)).2 ≤ 0 := ⟨Nat.le_refl _, Nat.le_refl _⟩
  show V K J 228 0 [some (.ref l0), some (.int l1), some (.int l2), some (.int l3)] [] sh I R (0, 0) F
  refine s_rl (i := 0) (pc' := 1) (by decide +kernel) rfl ?_
  refine s_il (i := 1) (pc' := 2) (by decide +kernel) rfl ?_
  refine s_a (ins := .i2l) (pc' := 3) (by decide +kernel) rfl ?_
  refine s_cJ (v := 0) (pc' := 4) (by decide +kernel) ?_
  refine s_cJ (v := 99) (pc' := 7) (by decide +kernel) ?_
  refine kX11_isIn (X := 0) (Y := 0) (X' := 0) (Y' := 0) (pc' := 10) (by decide +kernel) hc0 rfl h1 (fun v1 c hc1 h2 => ?_); clear h1 hc0
  refine s_if (ins := .ifCond .eq 31) (t := 41) (pc' := 13) (by decide +kernel) rfl rfl rfl h2 (fun p3 h3 => ?_) (fun p3 h3 => ?_) <;> clear h2
  · exact (vX11_setLimits_b41 hF) hc1 h3
  · refine s_il (i := 2) (pc' := 14) (by decide +kernel) rfl ?_
    refine s_a (ins := .i2l) (pc' := 15) (by decide +kernel) rfl ?_
    refine s_cJ (v := 0) (pc' := 16) (by decide +kernel) ?_
    refine s_cJ (v := 2000) (pc' := 19) (by decide +kernel) ?_
    refine kX11_isIn (X := 0) (Y := 0) (X' := 0) (Y' := 0) (pc' := 22) (by decide +kernel) hc1 rfl h3 (fun v13 c hc2 h4 => ?_); clear h3 hc1
    refine s_if (ins := .ifCond .eq 19) (t := 41) (pc' := 25) (by decide +kernel) rfl rfl rfl h4 (fun p5 h5 => ?_) (fun p5 h5 => ?_) <;> clear h4
    · exact (vX11_setLimits_b41 hF) hc2 h5
    · refine s_il (i := 3) (pc' := 26) (by decide +kernel) rfl ?_
      refine s_a (ins := .i2l) (pc' := 27) (by decide +kernel) rfl ?_
      refine s_cJ (v := 0) (pc' := 28) (by decide +kernel) ?_
      refine s_cJ (v := 2000) (pc' := 31) (by decide +kernel) ?_
      refine kX11_isIn (X := 0) (Y := 0) (X' := 0) (Y' := 0) (pc' := 34) (by decide +kernel) hc2 rfl h5 (fun v14 c hc3 h6 => ?_); clear h5 hc2
      refine s_if (ins := .ifCond .eq 7) (t := 41) (pc' := 37) (by decide +kernel) rfl rfl rfl h6 (fun p7 h7 => ?_) (fun p7 h7 => ?_) <;> clear h6
      · exact (vX11_setLimits_b41 hF) hc3 h7
      · refine s_c (v := 1) (pc' := 38) (by decide +kernel) ?_
        refine s_go (t := 42) (by decide +kernel) ?_
        exact (vX11_setLimits_b42 hF) hc3 h7
set_option maxRecDepth 100000 in
set_option maxHeartbeats 4000000 in
theorem kX11_setLimits {K J : Nat → Nat} {fu : Nat} {sh : HS} {I : HI} {R : HR} {F : VF} {mi pc pc' X Y X' Y' : Nat} {L : VL} {rest : List Value} {c : Nat × Nat} {l0 : Nat} {l1 : Int32} {l2 : Int32} {l3 : Int32} {ω : Type} {o : ω} {g : Int32 → HI → Option ω} (hq : cQ mi pc 228 4 pc' X Y X' Y' = true) (hc : c.1 ≤ X ∧ c.2 ≤ Y) (hr : Nat.ble (catS rest) 8 = true) (h : oH (fX11_setLimits fu sh I R l0 l1 l2 l3) g = some o) (kk : ∀ v w c', (c'.1 ≤ X' ∧ c'.2 ≤ Y') → g v w = some o → V K J mi pc' L ((.int v) :: rest) sh w R c' F) : V K J mi pc L (.int l3 :: .int l2 :: .int l1 :: .ref l0 :: rest) sh I R c F := by
  obtain ⟨r, h1, h2⟩ := bnd h
  have hT : isT sh l0 9 = true := by unfold fX11_setLimits at h1; exact (gd h1).1
  have ml : mL 228 = 4 := by decide +kernel
  have mk : mK 228 = 1 := by decide +kernel
  have mc : mC 228 = 9 := by decide +kernel
  obtain ⟨v, w⟩ := r
  refine s_call (as := [.int l3, .int l2, .int l1, .ref l0]) (G := fun o' sh' I' R' => o' = .inl (some (.int v)) ∧ sh' = sh ∧ I' = w ∧ R' = R) hq hc rfl hr (by rw [ml]; rfl) (Or.inl rfl) (fun _ => Or.inl ⟨by rw [mc]; decide, by rw [mc]; exact isT_iff.mp hT⟩) (fun z => absurd (mk.symm.trans z) (by decide)) (by rw [ml]; exact vX11_setLimits (F := fun o' sh' I' R' => o' = .inl (some (.int v)) ∧ sh' = sh ∧ I' = w ∧ R' = R) ⟨rfl, rfl, rfl, rfl⟩ h1) ?_ ?_ ?_
  · rintro sh' I' R' c' hc' ⟨g1, rfl, rfl, rfl⟩
    cases g1
  · rintro v' sh' I' R' c' hc' ⟨g1, rfl, rfl, rfl⟩
    cases g1
    exact kk _ _ _ hc' h2
  · rintro E' sh' I' R' ⟨g1, rfl, rfl, rfl⟩
    cases g1
set_option maxRecDepth 100000 in
set_option maxHeartbeats 4000000 in
def fX11_setLight_b26 (fu : Nat) (sh : HS) (R : HR) (I : HI) (l0 : Nat) (l1 : Int32) (l2 : Int32) (s0 : Int32) (s1 : Nat) : Option (Int32 × HI) :=
  oH (fX11_isWrong fu sh I R s1 s0) fun v2 w2 =>
  if v2 = 0 then
    ((fX11_remember fu sh w2 R l0).bind fun w3 =>
    (oR sh R l0 9 0).bind fun v4 =>
    (fX11_sceneAt fu sh w3 R l1).bind fun v5 =>
    (oA sh w3 v4 v5).bind fun v6 =>
    (oR sh R l0 9 0).bind fun v7 =>
    (fX11_sceneAt fu sh w3 R l1).bind fun v8 =>
    (oS sh w3 v7 v8 l2).bind fun v9 =>
    some (v6, v9))
  else
    (some (0, w2))
set_option maxRecDepth 100000 in
set_option maxHeartbeats 4000000 in
theorem vX11_setLight_b26 {K J : Nat → Nat} {fu : Nat} {sh : HS} {R : HR} {F : VF} {o : (Int32 × HI)} (hF : F (.inl (some (.int o.1))) sh o.2 R) {I : HI} {l0 : Nat} {l1 : Int32} {l2 : Int32} {s0 : Int32} {s1 : Nat} {d3 : Option Value} {c : Nat × Nat} (hc0 : c.1 ≤ 0 ∧ c.2 ≤ 0) (h0 : fX11_setLight_b26 fu sh R I l0 l1 l2 s0 s1 = some o) : V K J 229 26 [some (.ref l0), some (.int l1), some (.int l2), d3] [.int s0, .ref s1] sh I R c F := by
  unfold fX11_setLight_b26 at h0
  refine kX11_isWrong (X := 0) (Y := 0) (X' := 0) (Y' := 0) (pc' := 29) (by decide +kernel) hc0 rfl h0 (fun v2 w2 c hc1 h1 => ?_); clear h0 hc0
  refine s_if (ins := .ifCond .eq 5) (t := 34) (pc' := 32) (by decide +kernel) rfl rfl rfl h1 (fun p2 h2 => ?_) (fun p2 h2 => ?_) <;> clear h1
  · refine s_rl (i := 0) (pc' := 35) (by decide +kernel) rfl ?_
    refine kX11_remember (X := 0) (Y := 0) (X' := 0) (Y' := 0) (pc' := 38) (by decide +kernel) hc1 rfl h2 (fun w3 c hc2 h3 => ?_); clear h2 hc1
    refine s_rl (i := 0) (pc' := 39) (by decide +kernel) rfl ?_
    refine s_gR (t := 9) (j := 0) (pc' := 42) (by decide +kernel) h3 (fun v4 h4 => ?_); clear h3
    refine s_il (i := 1) (pc' := 43) (by decide +kernel) rfl ?_
    refine kX11_sceneAt (X := 0) (Y := 0) (X' := 0) (Y' := 0) (pc' := 46) (by decide +kernel) hc2 rfl h4 (fun v5 c hc3 h5 => ?_); clear h4 hc2
    refine s_al (pc' := 47) (by decide +kernel) h5 (fun v6 h6 => ?_); clear h5
    refine s_is (i := 3) (pc' := 48) (L' := [some (.ref l0), some (.int l1), some (.int l2), some (.int v6)]) (by decide +kernel) rfl rfl ?_
    refine s_rl (i := 0) (pc' := 49) (by decide +kernel) rfl ?_
    refine s_gR (t := 9) (j := 0) (pc' := 52) (by decide +kernel) h6 (fun v7 h7 => ?_); clear h6
    refine s_il (i := 1) (pc' := 53) (by decide +kernel) rfl ?_
    refine kX11_sceneAt (X := 0) (Y := 0) (X' := 0) (Y' := 0) (pc' := 56) (by decide +kernel) hc3 rfl h7 (fun v8 c hc4 h8 => ?_); clear h7 hc3
    refine s_il (i := 2) (pc' := 57) (by decide +kernel) rfl ?_
    refine s_as (pc' := 58) (by decide +kernel) h8 (fun v9 h9 => ?_); clear h8
    refine s_il (i := 3) (pc' := 59) (by decide +kernel) rfl ?_
    have e9 := Option.some.inj h9; subst e9
    exact s_ri (X := 0) (Y := 0) (by decide +kernel) hc4 hF
  · refine s_c (v := 0) (pc' := 33) (by decide +kernel) ?_
    have e9 := Option.some.inj h2; subst e9
    exact s_ri (X := 0) (Y := 0) (by decide +kernel) hc1 hF
set_option maxRecDepth 100000 in
set_option maxHeartbeats 4000000 in
def fX11_setLight_b25 (fu : Nat) (sh : HS) (R : HR) (I : HI) (l0 : Nat) (l1 : Int32) (l2 : Int32) (s0 : Nat) : Option (Int32 × HI) :=
  (fX11_setLight_b26 fu sh R) I l0 l1 l2 0 s0
set_option maxRecDepth 100000 in
set_option maxHeartbeats 4000000 in
theorem vX11_setLight_b25 {K J : Nat → Nat} {fu : Nat} {sh : HS} {R : HR} {F : VF} {o : (Int32 × HI)} (hF : F (.inl (some (.int o.1))) sh o.2 R) {I : HI} {l0 : Nat} {l1 : Int32} {l2 : Int32} {s0 : Nat} {d3 : Option Value} {c : Nat × Nat} (hc0 : c.1 ≤ 0 ∧ c.2 ≤ 0) (h0 : fX11_setLight_b25 fu sh R I l0 l1 l2 s0 = some o) : V K J 229 25 [some (.ref l0), some (.int l1), some (.int l2), d3] [.ref s0] sh I R c F := by
  unfold fX11_setLight_b25 at h0
  refine s_c (v := 0) (pc' := 26) (by decide +kernel) ?_
  exact (vX11_setLight_b26 hF) hc0 h0
set_option maxRecDepth 100000 in
set_option maxHeartbeats 4000000 in
def fX11_setLight (fu : Nat) (sh : HS) (I : HI) (R : HR) (l0 : Nat) (l1 : Int32) (l2 : Int32) : Option (Int32 × HI) :=
  if isT sh l0 9 = true then
    ((fX11_isScene fu sh I R l0 l1).bind fun v1 =>
    if v1 = 0 then
      ((fX11_setLight_b25 fu sh R) I l0 l1 l2 l0)
    else
      ((fX11_isIn fu sh I R (l2.toInt64) 0 3).bind fun v10 =>
      if v10 = 0 then
        ((fX11_setLight_b25 fu sh R) I l0 l1 l2 l0)
      else
        ((fX11_setLight_b26 fu sh R) I l0 l1 l2 1 l0)))
  else none
set_option maxRecDepth 100000 in
set_option maxHeartbeats 4000000 in
theorem vX11_setLight {K J : Nat → Nat} {fu : Nat} {sh : HS} {I : HI} {R : HR} {F : VF} {o : (Int32 × HI)} (hF : F (.inl (some (.int o.1))) sh o.2 R) {l0 : Nat} {l1 : Int32} {l2 : Int32} (h0 : fX11_setLight fu sh I R l0 l1 l2 = some o) : V K J 229 0 (ent 4 [.ref l0, .int l1, .int l2]) [] sh I R (0, 0) F := by
  unfold fX11_setLight at h0
  obtain ⟨-, h1⟩ := gd h0; clear h0
  have hc0 : ((0 : Nat), (0 : Nat)).1 ≤ 0 ∧ ((0 : Nat), (0 : Nat)).2 ≤ 0 := ⟨Nat.le_refl _, Nat.le_refl _⟩
  show V K J 229 0 [some (.ref l0), some (.int l1), some (.int l2), none] [] sh I R (0, 0) F
  refine s_rl (i := 0) (pc' := 1) (by decide +kernel) rfl ?_
  refine s_rl (i := 0) (pc' := 2) (by decide +kernel) rfl ?_
  refine s_il (i := 1) (pc' := 3) (by decide +kernel) rfl ?_
  refine kX11_isScene (X := 0) (Y := 0) (X' := 0) (Y' := 0) (pc' := 6) (by decide +kernel) hc0 rfl h1 (fun v1 c hc1 h2 => ?_); clear h1 hc0
  refine s_if (ins := .ifCond .eq 19) (t := 25) (pc' := 9) (by decide +kernel) rfl rfl rfl h2 (fun p3 h3 => ?_) (fun p3 h3 => ?_) <;> clear h2
  · exact (vX11_setLight_b25 hF) hc1 h3
  · refine s_il (i := 2) (pc' := 10) (by decide +kernel) rfl ?_
    refine s_a (ins := .i2l) (pc' := 11) (by decide +kernel) rfl ?_
    refine s_cJ (v := 0) (pc' := 12) (by decide +kernel) ?_
    refine s_cJ (v := 3) (pc' := 15) (by decide +kernel) ?_
    refine kX11_isIn (X := 0) (Y := 0) (X' := 0) (Y' := 0) (pc' := 18) (by decide +kernel) hc1 rfl h3 (fun v10 c hc2 h4 => ?_); clear h3 hc1
    refine s_if (ins := .ifCond .eq 7) (t := 25) (pc' := 21) (by decide +kernel) rfl rfl rfl h4 (fun p5 h5 => ?_) (fun p5 h5 => ?_) <;> clear h4
    · exact (vX11_setLight_b25 hF) hc2 h5
    · refine s_c (v := 1) (pc' := 22) (by decide +kernel) ?_
      refine s_go (t := 26) (by decide +kernel) ?_
      exact (vX11_setLight_b26 hF) hc2 h5
set_option maxRecDepth 100000 in
set_option maxHeartbeats 4000000 in
theorem kX11_setLight {K J : Nat → Nat} {fu : Nat} {sh : HS} {I : HI} {R : HR} {F : VF} {mi pc pc' X Y X' Y' : Nat} {L : VL} {rest : List Value} {c : Nat × Nat} {l0 : Nat} {l1 : Int32} {l2 : Int32} {ω : Type} {o : ω} {g : Int32 → HI → Option ω} (hq : cQ mi pc 229 3 pc' X Y X' Y' = true) (hc : c.1 ≤ X ∧ c.2 ≤ Y) (hr : Nat.ble (catS rest) 8 = true) (h : oH (fX11_setLight fu sh I R l0 l1 l2) g = some o) (kk : ∀ v w c', (c'.1 ≤ X' ∧ c'.2 ≤ Y') → g v w = some o → V K J mi pc' L ((.int v) :: rest) sh w R c' F) : V K J mi pc L (.int l2 :: .int l1 :: .ref l0 :: rest) sh I R c F := by
  obtain ⟨r, h1, h2⟩ := bnd h
  have hT : isT sh l0 9 = true := by unfold fX11_setLight at h1; exact (gd h1).1
  have ml : mL 229 = 4 := by decide +kernel
  have mk : mK 229 = 1 := by decide +kernel
  have mc : mC 229 = 9 := by decide +kernel
  obtain ⟨v, w⟩ := r
  refine s_call (as := [.int l2, .int l1, .ref l0]) (G := fun o' sh' I' R' => o' = .inl (some (.int v)) ∧ sh' = sh ∧ I' = w ∧ R' = R) hq hc rfl hr (by rw [ml]; rfl) (Or.inl rfl) (fun _ => Or.inl ⟨by rw [mc]; decide, by rw [mc]; exact isT_iff.mp hT⟩) (fun z => absurd (mk.symm.trans z) (by decide)) (by rw [ml]; exact vX11_setLight (F := fun o' sh' I' R' => o' = .inl (some (.int v)) ∧ sh' = sh ∧ I' = w ∧ R' = R) ⟨rfl, rfl, rfl, rfl⟩ h1) ?_ ?_ ?_
  · rintro sh' I' R' c' hc' ⟨g1, rfl, rfl, rfl⟩
    cases g1
  · rintro v' sh' I' R' c' hc' ⟨g1, rfl, rfl, rfl⟩
    cases g1
    exact kk _ _ _ hc' h2
  · rintro E' sh' I' R' ⟨g1, rfl, rfl, rfl⟩
    cases g1
set_option maxRecDepth 100000 in
set_option maxHeartbeats 4000000 in
def fX11_moveActor_b93 (fu : Nat) (sh : HS) (R : HR) (k35 : HI → Nat → Int32 → Int32 → Int32 → Int32 → Int32 → Option (Int32 × HI)) (k99 : HI → Nat → Int32 → Int32 → Int32 → Int32 → Option (Int32 × HI)) (I : HI) (l0 : Nat) (l1 : Int32) (l2 : Int32) (l3 : Int32) (l4 : Int32) (l5 : Int32) : Option (Int32 × HI) :=
  k35 I l0 l1 l2 l3 l4 (l5 + 1)
set_option maxRecDepth 100000 in
set_option maxHeartbeats 4000000 in
theorem vX11_moveActor_b93 {K J : Nat → Nat} {fu : Nat} {sh : HS} {R : HR} {F : VF} {o : (Int32 × HI)} (hF : F (.inl (some (.int o.1))) sh o.2 R) {k35 : HI → Nat → Int32 → Int32 → Int32 → Int32 → Int32 → Option (Int32 × HI)} {k99 : HI → Nat → Int32 → Int32 → Int32 → Int32 → Option (Int32 × HI)} (hk35 : ∀ {I : HI} {l0 : Nat} {l1 : Int32} {l2 : Int32} {l3 : Int32} {l4 : Int32} {l5 : Int32}  {c : Nat × Nat}, (c.1 ≤ 0 ∧ c.2 ≤ 0) → k35 I l0 l1 l2 l3 l4 l5 = some o → V K J 230 35 [some (.ref l0), some (.int l1), some (.int l2), some (.int l3), some (.int l4), some (.int l5)] [] sh I R c F) (hk99 : ∀ {I : HI} {l0 : Nat} {l1 : Int32} {l2 : Int32} {l3 : Int32} {l4 : Int32} {d5 : Option Value} {c : Nat × Nat}, (c.1 ≤ 0 ∧ c.2 ≤ 0) → k99 I l0 l1 l2 l3 l4 = some o → V K J 230 99 [some (.ref l0), some (.int l1), some (.int l2), some (.int l3), some (.int l4), d5] [] sh I R c F) {I : HI} {l0 : Nat} {l1 : Int32} {l2 : Int32} {l3 : Int32} {l4 : Int32} {l5 : Int32} {c : Nat × Nat} (hc0 : c.1 ≤ 0 ∧ c.2 ≤ 0) (h0 : fX11_moveActor_b93 fu sh R k35 k99 I l0 l1 l2 l3 l4 l5 = some o) : V K J 230 93 [some (.ref l0), some (.int l1), some (.int l2), some (.int l3), some (.int l4), some (.int l5)] [] sh I R c F := by
  unfold fX11_moveActor_b93 at h0
  refine s_inc (i := 5) (z := 1) (pc' := 96) (L' := [some (.ref l0), some (.int l1), some (.int l2), some (.int l3), some (.int l4), some (.int (l5 + 1))]) (by decide +kernel) rfl rfl rfl ?_
  refine s_go (t := 35) (by decide +kernel) ?_
  exact hk35 hc0 h0
set_option maxRecDepth 100000 in
set_option maxHeartbeats 4000000 in
def fX11_moveActor_b35 (fu : Nat) (sh : HS) (R : HR) (k35 : HI → Nat → Int32 → Int32 → Int32 → Int32 → Int32 → Option (Int32 × HI)) (k99 : HI → Nat → Int32 → Int32 → Int32 → Int32 → Option (Int32 × HI)) (I : HI) (l0 : Nat) (l1 : Int32) (l2 : Int32) (l3 : Int32) (l4 : Int32) (l5 : Int32) : Option (Int32 × HI) :=
  (oR sh R l0 9 0).bind fun v3 =>
  (oA sh I v3 4).bind fun v4 =>
  if v4 ≤ l5 then
    (k99 I l0 l1 l2 l3 l4)
  else
    ((fX11_sceneOf fu sh I R l0 l5).bind fun v5 =>
    if v5 = l1 then
      ((fX11_get fu sh I R l0 l5 3).bind fun v6 =>
      if v6 = l2 then
        ((fX11_get fu sh I R l0 l5 1).bind fun v7 =>
        if v7 = l3 then
          ((fX11_get fu sh I R l0 l5 2).bind fun v8 =>
          if v8 = l4 then
            (some ((-2), I))
          else
            ((fX11_moveActor_b93 fu sh R k35 k99) I l0 l1 l2 l3 l4 l5))
        else
          ((fX11_moveActor_b93 fu sh R k35 k99) I l0 l1 l2 l3 l4 l5))
      else
        ((fX11_moveActor_b93 fu sh R k35 k99) I l0 l1 l2 l3 l4 l5))
    else
      ((fX11_moveActor_b93 fu sh R k35 k99) I l0 l1 l2 l3 l4 l5))
set_option maxRecDepth 100000 in
set_option maxHeartbeats 4000000 in
theorem vX11_moveActor_b35 {K J : Nat → Nat} {fu : Nat} {sh : HS} {R : HR} {F : VF} {o : (Int32 × HI)} (hF : F (.inl (some (.int o.1))) sh o.2 R) {k35 : HI → Nat → Int32 → Int32 → Int32 → Int32 → Int32 → Option (Int32 × HI)} {k99 : HI → Nat → Int32 → Int32 → Int32 → Int32 → Option (Int32 × HI)} (hk35 : ∀ {I : HI} {l0 : Nat} {l1 : Int32} {l2 : Int32} {l3 : Int32} {l4 : Int32} {l5 : Int32}  {c : Nat × Nat}, (c.1 ≤ 0 ∧ c.2 ≤ 0) → k35 I l0 l1 l2 l3 l4 l5 = some o → V K J 230 35 [some (.ref l0), some (.int l1), some (.int l2), some (.int l3), some (.int l4), some (.int l5)] [] sh I R c F) (hk99 : ∀ {I : HI} {l0 : Nat} {l1 : Int32} {l2 : Int32} {l3 : Int32} {l4 : Int32} {d5 : Option Value} {c : Nat × Nat}, (c.1 ≤ 0 ∧ c.2 ≤ 0) → k99 I l0 l1 l2 l3 l4 = some o → V K J 230 99 [some (.ref l0), some (.int l1), some (.int l2), some (.int l3), some (.int l4), d5] [] sh I R c F) {I : HI} {l0 : Nat} {l1 : Int32} {l2 : Int32} {l3 : Int32} {l4 : Int32} {l5 : Int32} {c : Nat × Nat} (hc0 : c.1 ≤ 0 ∧ c.2 ≤ 0) (h0 : fX11_moveActor_b35 fu sh R k35 k99 I l0 l1 l2 l3 l4 l5 = some o) : V K J 230 35 [some (.ref l0), some (.int l1), some (.int l2), some (.int l3), some (.int l4), some (.int l5)] [] sh I R c F := by
  unfold fX11_moveActor_b35 at h0
  refine s_il (i := 5) (pc' := 37) (by decide +kernel) rfl ?_
  refine s_rl (i := 0) (pc' := 38) (by decide +kernel) rfl ?_
  refine s_gR (t := 9) (j := 0) (pc' := 41) (by decide +kernel) h0 (fun v3 h1 => ?_); clear h0
  refine s_c (v := 4) (pc' := 42) (by decide +kernel) ?_
  refine s_al (pc' := 43) (by decide +kernel) h1 (fun v4 h2 => ?_); clear h1
  refine s_if (ins := .if_icmp .ge 56) (t := 99) (pc' := 46) (by decide +kernel) rfl rfl rfl h2 (fun p3 h3 => ?_) (fun p3 h3 => ?_) <;> clear h2
  · exact hk99 hc0 h3
  · refine s_rl (i := 0) (pc' := 47) (by decide +kernel) rfl ?_
    refine s_il (i := 5) (pc' := 49) (by decide +kernel) rfl ?_
    refine kX11_sceneOf (X := 0) (Y := 0) (X' := 0) (Y' := 0) (pc' := 52) (by decide +kernel) hc0 rfl h3 (fun v5 c hc1 h4 => ?_); clear h3 hc0
    refine s_il (i := 1) (pc' := 53) (by decide +kernel) rfl ?_
    refine s_ifn (ins := .if_icmp .ne 40) (t := 93) (pc' := 56) (by decide +kernel) rfl rfl rfl h4 (fun p5 h5 => ?_) (fun p5 h5 => ?_) <;> clear h4
    · exact (vX11_moveActor_b93 hF hk35 hk99) hc1 h5
    · refine s_rl (i := 0) (pc' := 57) (by decide +kernel) rfl ?_
      refine s_il (i := 5) (pc' := 59) (by decide +kernel) rfl ?_
      refine s_c (v := 3) (pc' := 60) (by decide +kernel) ?_
      refine kX11_get (X := 0) (Y := 0) (X' := 0) (Y' := 0) (pc' := 63) (by decide +kernel) hc1 rfl h5 (fun v6 c hc2 h6 => ?_); clear h5 hc1
      refine s_il (i := 2) (pc' := 64) (by decide +kernel) rfl ?_
      refine s_ifn (ins := .if_icmp .ne 29) (t := 93) (pc' := 67) (by decide +kernel) rfl rfl rfl h6 (fun p7 h7 => ?_) (fun p7 h7 => ?_) <;> clear h6
      · exact (vX11_moveActor_b93 hF hk35 hk99) hc2 h7
      · refine s_rl (i := 0) (pc' := 68) (by decide +kernel) rfl ?_
        refine s_il (i := 5) (pc' := 70) (by decide +kernel) rfl ?_
        refine s_c (v := 1) (pc' := 71) (by decide +kernel) ?_
        refine kX11_get (X := 0) (Y := 0) (X' := 0) (Y' := 0) (pc' := 74) (by decide +kernel) hc2 rfl h7 (fun v7 c hc3 h8 => ?_); clear h7 hc2
        refine s_il (i := 3) (pc' := 75) (by decide +kernel) rfl ?_
        refine s_ifn (ins := .if_icmp .ne 18) (t := 93) (pc' := 78) (by decide +kernel) rfl rfl rfl h8 (fun p9 h9 => ?_) (fun p9 h9 => ?_) <;> clear h8
        · exact (vX11_moveActor_b93 hF hk35 hk99) hc3 h9
        · refine s_rl (i := 0) (pc' := 79) (by decide +kernel) rfl ?_
          refine s_il (i := 5) (pc' := 81) (by decide +kernel) rfl ?_
          refine s_c (v := 2) (pc' := 82) (by decide +kernel) ?_
          refine kX11_get (X := 0) (Y := 0) (X' := 0) (Y' := 0) (pc' := 85) (by decide +kernel) hc3 rfl h9 (fun v8 c hc4 h10 => ?_); clear h9 hc3
          refine s_il (i := 4) (pc' := 87) (by decide +kernel) rfl ?_
          refine s_ifn (ins := .if_icmp .ne 6) (t := 93) (pc' := 90) (by decide +kernel) rfl rfl rfl h10 (fun p11 h11 => ?_) (fun p11 h11 => ?_) <;> clear h10
          · exact (vX11_moveActor_b93 hF hk35 hk99) hc4 h11
          · refine s_c (v := (-2)) (pc' := 92) (by decide +kernel) ?_
            have e9 := Option.some.inj h11; subst e9
            exact s_ri (X := 0) (Y := 0) (by decide +kernel) hc4 hF
set_option maxRecDepth 100000 in
set_option maxHeartbeats 4000000 in
def fX11_moveActor_l35 (fu : Nat) (sh : HS) (R : HR) (k99 : HI → Nat → Int32 → Int32 → Int32 → Int32 → Option (Int32 × HI)) : Nat → HI → Nat → Int32 → Int32 → Int32 → Int32 → Int32 → Option (Int32 × HI)
  | 0 => fun _ _ _ _ _ _ _ => none
  | n + 1 => fX11_moveActor_b35 fu sh R (fX11_moveActor_l35 fu sh R k99 n) k99
set_option maxRecDepth 100000 in
set_option maxHeartbeats 4000000 in
theorem vX11_moveActor_l35 {K J : Nat → Nat} {fu : Nat} {sh : HS} {R : HR} {F : VF} {o : (Int32 × HI)} (hF : F (.inl (some (.int o.1))) sh o.2 R) {k99 : HI → Nat → Int32 → Int32 → Int32 → Int32 → Option (Int32 × HI)} (hk99 : ∀ {I : HI} {l0 : Nat} {l1 : Int32} {l2 : Int32} {l3 : Int32} {l4 : Int32} {d5 : Option Value} {c : Nat × Nat}, (c.1 ≤ 0 ∧ c.2 ≤ 0) → k99 I l0 l1 l2 l3 l4 = some o → V K J 230 99 [some (.ref l0), some (.int l1), some (.int l2), some (.int l3), some (.int l4), d5] [] sh I R c F) : ∀ (n : Nat) {I : HI} {l0 : Nat} {l1 : Int32} {l2 : Int32} {l3 : Int32} {l4 : Int32} {l5 : Int32} {c : Nat × Nat} (_ : c.1 ≤ 0 ∧ c.2 ≤ 0) (_ : fX11_moveActor_l35 fu sh R k99 n I l0 l1 l2 l3 l4 l5 = some o), V K J 230 35 [some (.ref l0), some (.int l1), some (.int l2), some (.int l3), some (.int l4), some (.int l5)] [] sh I R c F := by
  intro n
  induction n with
  | zero => exact fun _ h0 => nomatch h0
  | succ n ih => exact fun hc0 h0 => vX11_moveActor_b35 hF ih hk99 hc0 h0
set_option maxRecDepth 100000 in
set_option maxHeartbeats 4000000 in
def fX11_moveActor_b99 (fu : Nat) (sh : HS) (R : HR) (I : HI) (l0 : Nat) (l1 : Int32) (l2 : Int32) (l3 : Int32) (l4 : Int32) : Option (Int32 × HI) :=
  (fX11_remember fu sh I R l0).bind fun w9 =>
  (oR sh R l0 9 0).bind fun v10 =>
  (fX11_sceneAt fu sh w9 R l1).bind fun v11 =>
  (oS sh w9 v10 ((v11 + 2) + l2) l3).bind fun v12 =>
  (oR sh R l0 9 0).bind fun v13 =>
  (fX11_sceneAt fu sh v12 R l1).bind fun v14 =>
  (oS sh v12 v13 ((v14 + 8) + l2) l4).bind fun v15 =>
  (fX11_faultsNow fu sh v15 R l0).bind fun v16 =>
  some (v16, v15)
set_option maxRecDepth 100000 in
set_option maxHeartbeats 4000000 in
theorem vX11_moveActor_b99 {K J : Nat → Nat} {fu : Nat} {sh : HS} {R : HR} {F : VF} {o : (Int32 × HI)} (hF : F (.inl (some (.int o.1))) sh o.2 R) {I : HI} {l0 : Nat} {l1 : Int32} {l2 : Int32} {l3 : Int32} {l4 : Int32} {d5 : Option Value} {c : Nat × Nat} (hc0 : c.1 ≤ 0 ∧ c.2 ≤ 0) (h0 : fX11_moveActor_b99 fu sh R I l0 l1 l2 l3 l4 = some o) : V K J 230 99 [some (.ref l0), some (.int l1), some (.int l2), some (.int l3), some (.int l4), d5] [] sh I R c F := by
  unfold fX11_moveActor_b99 at h0
  refine s_rl (i := 0) (pc' := 100) (by decide +kernel) rfl ?_
  refine kX11_remember (X := 0) (Y := 0) (X' := 0) (Y' := 0) (pc' := 103) (by decide +kernel) hc0 rfl h0 (fun w9 c hc1 h1 => ?_); clear h0 hc0
  refine s_rl (i := 0) (pc' := 104) (by decide +kernel) rfl ?_
  refine s_gR (t := 9) (j := 0) (pc' := 107) (by decide +kernel) h1 (fun v10 h2 => ?_); clear h1
  refine s_il (i := 1) (pc' := 108) (by decide +kernel) rfl ?_
  refine kX11_sceneAt (X := 0) (Y := 0) (X' := 0) (Y' := 0) (pc' := 111) (by decide +kernel) hc1 rfl h2 (fun v11 c hc2 h3 => ?_); clear h2 hc1
  refine s_c (v := 2) (pc' := 112) (by decide +kernel) ?_
  refine s_a (ins := .iadd) (pc' := 113) (by decide +kernel) rfl ?_
  refine s_il (i := 2) (pc' := 114) (by decide +kernel) rfl ?_
  refine s_a (ins := .iadd) (pc' := 115) (by decide +kernel) rfl ?_
  refine s_il (i := 3) (pc' := 116) (by decide +kernel) rfl ?_
  refine s_as (pc' := 117) (by decide +kernel) h3 (fun v12 h4 => ?_); clear h3
  refine s_rl (i := 0) (pc' := 118) (by decide +kernel) rfl ?_
  refine s_gR (t := 9) (j := 0) (pc' := 121) (by decide +kernel) h4 (fun v13 h5 => ?_); clear h4
  refine s_il (i := 1) (pc' := 122) (by decide +kernel) rfl ?_
  refine kX11_sceneAt (X := 0) (Y := 0) (X' := 0) (Y' := 0) (pc' := 125) (by decide +kernel) hc2 rfl h5 (fun v14 c hc3 h6 => ?_); clear h5 hc2
  refine s_c (v := 8) (pc' := 127) (by decide +kernel) ?_
  refine s_a (ins := .iadd) (pc' := 128) (by decide +kernel) rfl ?_
  refine s_il (i := 2) (pc' := 129) (by decide +kernel) rfl ?_
  refine s_a (ins := .iadd) (pc' := 130) (by decide +kernel) rfl ?_
  refine s_il (i := 4) (pc' := 132) (by decide +kernel) rfl ?_
  refine s_as (pc' := 133) (by decide +kernel) h6 (fun v15 h7 => ?_); clear h6
  refine s_rl (i := 0) (pc' := 134) (by decide +kernel) rfl ?_
  refine kX11_faultsNow (X := 0) (Y := 0) (X' := 0) (Y' := 0) (pc' := 137) (by decide +kernel) hc3 rfl h7 (fun v16 c hc4 h8 => ?_); clear h7 hc3
  have e9 := Option.some.inj h8; subst e9
  exact s_ri (X := 0) (Y := 0) (by decide +kernel) hc4 hF
set_option maxRecDepth 100000 in
set_option maxHeartbeats 4000000 in
def fX11_moveActor_b24 (fu : Nat) (sh : HS) (R : HR) (I : HI) (l0 : Nat) (l1 : Int32) (l2 : Int32) (l3 : Int32) (l4 : Int32) (s0 : Int32) (s1 : Nat) : Option (Int32 × HI) :=
  oH (fX11_isWrong fu sh I R s1 s0) fun v2 w2 =>
  if v2 = 0 then
    ((fX11_moveActor_l35 fu sh R (fX11_moveActor_b99 fu sh R) fu) w2 l0 l1 l2 l3 l4 0)
  else
    (some (0, w2))
set_option maxRecDepth 100000 in
set_option maxHeartbeats 4000000 in
theorem vX11_moveActor_b24 {K J : Nat → Nat} {fu : Nat} {sh : HS} {R : HR} {F : VF} {o : (Int32 × HI)} (hF : F (.inl (some (.int o.1))) sh o.2 R) {I : HI} {l0 : Nat} {l1 : Int32} {l2 : Int32} {l3 : Int32} {l4 : Int32} {s0 : Int32} {s1 : Nat} {d5 : Option Value} {c : Nat × Nat} (hc0 : c.1 ≤ 0 ∧ c.2 ≤ 0) (h0 : fX11_moveActor_b24 fu sh R I l0 l1 l2 l3 l4 s0 s1 = some o) : V K J 230 24 [some (.ref l0), some (.int l1), some (.int l2), some (.int l3), some (.int l4), d5] [.int s0, .ref s1] sh I R c F := by
  unfold fX11_moveActor_b24 at h0
  refine kX11_isWrong (X := 0) (Y := 0) (X' := 0) (Y' := 0) (pc' := 27) (by decide +kernel) hc0 rfl h0 (fun v2 w2 c hc1 h1 => ?_); clear h0 hc0
  refine s_if (ins := .ifCond .eq 5) (t := 32) (pc' := 30) (by decide +kernel) rfl rfl rfl h1 (fun p2 h2 => ?_) (fun p2 h2 => ?_) <;> clear h1
  · refine s_c (v := 0) (pc' := 33) (by decide +kernel) ?_
    refine s_is (i := 5) (pc' := 35) (L' := [some (.ref l0), some (.int l1), some (.int l2), some (.int l3), some (.int l4), some (.int 0)]) (by decide +kernel) rfl rfl ?_
    exact (vX11_moveActor_l35 hF (vX11_moveActor_b99 hF) fu) hc1 h2
  · refine s_c (v := 0) (pc' := 31) (by decide +kernel) ?_
    have e9 := Option.some.inj h2; subst e9
    exact s_ri (X := 0) (Y := 0) (by decide +kernel) hc1 hF
set_option maxRecDepth 100000 in
set_option maxHeartbeats 4000000 in
def fX11_moveActor_b23 (fu : Nat) (sh : HS) (R : HR) (I : HI) (l0 : Nat) (l1 : Int32) (l2 : Int32) (l3 : Int32) (l4 : Int32) (s0 : Nat) : Option (Int32 × HI) :=
  (fX11_moveActor_b24 fu sh R) I l0 l1 l2 l3 l4 0 s0
set_option maxRecDepth 100000 in
set_option maxHeartbeats 4000000 in
theorem vX11_moveActor_b23 {K J : Nat → Nat} {fu : Nat} {sh : HS} {R : HR} {F : VF} {o : (Int32 × HI)} (hF : F (.inl (some (.int o.1))) sh o.2 R) {I : HI} {l0 : Nat} {l1 : Int32} {l2 : Int32} {l3 : Int32} {l4 : Int32} {s0 : Nat} {d5 : Option Value} {c : Nat × Nat} (hc0 : c.1 ≤ 0 ∧ c.2 ≤ 0) (h0 : fX11_moveActor_b23 fu sh R I l0 l1 l2 l3 l4 s0 = some o) : V K J 230 23 [some (.ref l0), some (.int l1), some (.int l2), some (.int l3), some (.int l4), d5] [.ref s0] sh I R c F := by
  unfold fX11_moveActor_b23 at h0
  refine s_c (v := 0) (pc' := 24) (by decide +kernel) ?_
  exact (vX11_moveActor_b24 hF) hc0 h0
set_option maxRecDepth 100000 in
set_option maxHeartbeats 4000000 in
def fX11_moveActor (fu : Nat) (sh : HS) (I : HI) (R : HR) (l0 : Nat) (l1 : Int32) (l2 : Int32) (l3 : Int32) (l4 : Int32) : Option (Int32 × HI) :=
  if isT sh l0 9 = true then
    ((fX11_isActor fu sh I R l0 l1 l2).bind fun v1 =>
    if v1 = 0 then
      ((fX11_moveActor_b23 fu sh R) I l0 l1 l2 l3 l4 l0)
    else
      ((fX11_isPlace fu sh I R l3 l4).bind fun v17 =>
      if v17 = 0 then
        ((fX11_moveActor_b23 fu sh R) I l0 l1 l2 l3 l4 l0)
      else
        ((fX11_moveActor_b24 fu sh R) I l0 l1 l2 l3 l4 1 l0)))
  else none
set_option maxRecDepth 100000 in
set_option maxHeartbeats 4000000 in
theorem vX11_moveActor {K J : Nat → Nat} {fu : Nat} {sh : HS} {I : HI} {R : HR} {F : VF} {o : (Int32 × HI)} (hF : F (.inl (some (.int o.1))) sh o.2 R) {l0 : Nat} {l1 : Int32} {l2 : Int32} {l3 : Int32} {l4 : Int32} (h0 : fX11_moveActor fu sh I R l0 l1 l2 l3 l4 = some o) : V K J 230 0 (ent 6 [.ref l0, .int l1, .int l2, .int l3, .int l4]) [] sh I R (0, 0) F := by
  unfold fX11_moveActor at h0
  obtain ⟨-, h1⟩ := gd h0; clear h0
  have hc0 : ((0 : Nat), (0 : Nat)).1 ≤ 0 ∧ ((0 : Nat), (0 : Nat)).2 ≤ 0 := ⟨Nat.le_refl _, Nat.le_refl _⟩
  show V K J 230 0 [some (.ref l0), some (.int l1), some (.int l2), some (.int l3), some (.int l4), none] [] sh I R (0, 0) F
  refine s_rl (i := 0) (pc' := 1) (by decide +kernel) rfl ?_
  refine s_rl (i := 0) (pc' := 2) (by decide +kernel) rfl ?_
  refine s_il (i := 1) (pc' := 3) (by decide +kernel) rfl ?_
  refine s_il (i := 2) (pc' := 4) (by decide +kernel) rfl ?_
  refine kX11_isActor (X := 0) (Y := 0) (X' := 0) (Y' := 0) (pc' := 7) (by decide +kernel) hc0 rfl h1 (fun v1 c hc1 h2 => ?_); clear h1 hc0
  refine s_if (ins := .ifCond .eq 16) (t := 23) (pc' := 10) (by decide +kernel) rfl rfl rfl h2 (fun p3 h3 => ?_) (fun p3 h3 => ?_) <;> clear h2
  · exact (vX11_moveActor_b23 hF) hc1 h3
  · refine s_il (i := 3) (pc' := 11) (by decide +kernel) rfl ?_
    refine s_il (i := 4) (pc' := 13) (by decide +kernel) rfl ?_
    refine kX11_isPlace (X := 0) (Y := 0) (X' := 0) (Y' := 0) (pc' := 16) (by decide +kernel) hc1 rfl h3 (fun v17 c hc2 h4 => ?_); clear h3 hc1
    refine s_if (ins := .ifCond .eq 7) (t := 23) (pc' := 19) (by decide +kernel) rfl rfl rfl h4 (fun p5 h5 => ?_) (fun p5 h5 => ?_) <;> clear h4
    · exact (vX11_moveActor_b23 hF) hc2 h5
    · refine s_c (v := 1) (pc' := 20) (by decide +kernel) ?_
      refine s_go (t := 24) (by decide +kernel) ?_
      exact (vX11_moveActor_b24 hF) hc2 h5
set_option maxRecDepth 100000 in
set_option maxHeartbeats 4000000 in
theorem kX11_moveActor {K J : Nat → Nat} {fu : Nat} {sh : HS} {I : HI} {R : HR} {F : VF} {mi pc pc' X Y X' Y' : Nat} {L : VL} {rest : List Value} {c : Nat × Nat} {l0 : Nat} {l1 : Int32} {l2 : Int32} {l3 : Int32} {l4 : Int32} {ω : Type} {o : ω} {g : Int32 → HI → Option ω} (hq : cQ mi pc 230 5 pc' X Y X' Y' = true) (hc : c.1 ≤ X ∧ c.2 ≤ Y) (hr : Nat.ble (catS rest) 8 = true) (h : oH (fX11_moveActor fu sh I R l0 l1 l2 l3 l4) g = some o) (kk : ∀ v w c', (c'.1 ≤ X' ∧ c'.2 ≤ Y') → g v w = some o → V K J mi pc' L ((.int v) :: rest) sh w R c' F) : V K J mi pc L (.int l4 :: .int l3 :: .int l2 :: .int l1 :: .ref l0 :: rest) sh I R c F := by
  obtain ⟨r, h1, h2⟩ := bnd h
  have hT : isT sh l0 9 = true := by unfold fX11_moveActor at h1; exact (gd h1).1
  have ml : mL 230 = 6 := by decide +kernel
  have mk : mK 230 = 1 := by decide +kernel
  have mc : mC 230 = 9 := by decide +kernel
  obtain ⟨v, w⟩ := r
  refine s_call (as := [.int l4, .int l3, .int l2, .int l1, .ref l0]) (G := fun o' sh' I' R' => o' = .inl (some (.int v)) ∧ sh' = sh ∧ I' = w ∧ R' = R) hq hc rfl hr (by rw [ml]; rfl) (Or.inl rfl) (fun _ => Or.inl ⟨by rw [mc]; decide, by rw [mc]; exact isT_iff.mp hT⟩) (fun z => absurd (mk.symm.trans z) (by decide)) (by rw [ml]; exact vX11_moveActor (F := fun o' sh' I' R' => o' = .inl (some (.int v)) ∧ sh' = sh ∧ I' = w ∧ R' = R) ⟨rfl, rfl, rfl, rfl⟩ h1) ?_ ?_ ?_
  · rintro sh' I' R' c' hc' ⟨g1, rfl, rfl, rfl⟩
    cases g1
  · rintro v' sh' I' R' c' hc' ⟨g1, rfl, rfl, rfl⟩
    cases g1
    exact kk _ _ _ hc' h2
  · rintro E' sh' I' R' ⟨g1, rfl, rfl, rfl⟩
    cases g1
set_option maxRecDepth 100000 in
set_option maxHeartbeats 4000000 in
def fX11_camera (fu : Nat) (sh : HS) (I : HI) (R : HR) (l0 : Nat) (l1 : Int32) (l2 : Int32) (l3 : Int32) : Option (Int32 × HI) :=
  if isT sh l0 9 = true then
    ((fX11_remember fu sh I R l0).bind fun w1 =>
    (fX11_set fu sh w1 R l0 l1 1 l2).bind fun w2 =>
    (fX11_set fu sh w2 R l0 l1 2 l3).bind fun w3 =>
    (fX11_faultsNow fu sh w3 R l0).bind fun v4 =>
    some (v4, w3))
  else none
set_option maxRecDepth 100000 in
set_option maxHeartbeats 4000000 in
theorem vX11_camera {K J : Nat → Nat} {fu : Nat} {sh : HS} {I : HI} {R : HR} {F : VF} {o : (Int32 × HI)} (hF : F (.inl (some (.int o.1))) sh o.2 R) {l0 : Nat} {l1 : Int32} {l2 : Int32} {l3 : Int32} (h0 : fX11_camera fu sh I R l0 l1 l2 l3 = some o) : V K J 231 0 (ent 4 [.ref l0, .int l1, .int l2, .int l3]) [] sh I R (0, 0) F := by
  unfold fX11_camera at h0
  obtain ⟨-, h1⟩ := gd h0; clear h0
  have hc0 : ((0 : Nat), (0 : Nat)).1 ≤ 0 ∧ ((0 : Nat), (0 : Nat)).2 ≤ 0 := ⟨Nat.le_refl _, Nat.le_refl _⟩
  show V K J 231 0 [some (.ref l0), some (.int l1), some (.int l2), some (.int l3)] [] sh I R (0, 0) F
  refine s_rl (i := 0) (pc' := 1) (by decide +kernel) rfl ?_
  refine kX11_remember (X := 0) (Y := 0) (X' := 0) (Y' := 0) (pc' := 4) (by decide +kernel) hc0 rfl h1 (fun w1 c hc1 h2 => ?_); clear h1 hc0
  refine s_rl (i := 0) (pc' := 5) (by decide +kernel) rfl ?_
  refine s_il (i := 1) (pc' := 6) (by decide +kernel) rfl ?_
  refine s_c (v := 1) (pc' := 7) (by decide +kernel) ?_
  refine s_il (i := 2) (pc' := 8) (by decide +kernel) rfl ?_
  refine kX11_set (X := 0) (Y := 0) (X' := 0) (Y' := 0) (pc' := 11) (by decide +kernel) hc1 rfl h2 (fun w2 c hc2 h3 => ?_); clear h2 hc1
  refine s_rl (i := 0) (pc' := 12) (by decide +kernel) rfl ?_
  refine s_il (i := 1) (pc' := 13) (by decide +kernel) rfl ?_
  refine s_c (v := 2) (pc' := 14) (by decide +kernel) ?_
  refine s_il (i := 3) (pc' := 15) (by decide +kernel) rfl ?_
  refine kX11_set (X := 0) (Y := 0) (X' := 0) (Y' := 0) (pc' := 18) (by decide +kernel) hc2 rfl h3 (fun w3 c hc3 h4 => ?_); clear h3 hc2
  refine s_rl (i := 0) (pc' := 19) (by decide +kernel) rfl ?_
  refine kX11_faultsNow (X := 0) (Y := 0) (X' := 0) (Y' := 0) (pc' := 22) (by decide +kernel) hc3 rfl h4 (fun v4 c hc4 h5 => ?_); clear h4 hc3
  have e9 := Option.some.inj h5; subst e9
  exact s_ri (X := 0) (Y := 0) (by decide +kernel) hc4 hF
set_option maxRecDepth 100000 in
set_option maxHeartbeats 4000000 in
theorem kX11_camera {K J : Nat → Nat} {fu : Nat} {sh : HS} {I : HI} {R : HR} {F : VF} {mi pc pc' X Y X' Y' : Nat} {L : VL} {rest : List Value} {c : Nat × Nat} {l0 : Nat} {l1 : Int32} {l2 : Int32} {l3 : Int32} {ω : Type} {o : ω} {g : Int32 → HI → Option ω} (hq : cQ mi pc 231 4 pc' X Y X' Y' = true) (hc : c.1 ≤ X ∧ c.2 ≤ Y) (hr : Nat.ble (catS rest) 8 = true) (h : oH (fX11_camera fu sh I R l0 l1 l2 l3) g = some o) (kk : ∀ v w c', (c'.1 ≤ X' ∧ c'.2 ≤ Y') → g v w = some o → V K J mi pc' L ((.int v) :: rest) sh w R c' F) : V K J mi pc L (.int l3 :: .int l2 :: .int l1 :: .ref l0 :: rest) sh I R c F := by
  obtain ⟨r, h1, h2⟩ := bnd h
  have hT : isT sh l0 9 = true := by unfold fX11_camera at h1; exact (gd h1).1
  have ml : mL 231 = 4 := by decide +kernel
  have mk : mK 231 = 1 := by decide +kernel
  have mc : mC 231 = 9 := by decide +kernel
  obtain ⟨v, w⟩ := r
  refine s_call (as := [.int l3, .int l2, .int l1, .ref l0]) (G := fun o' sh' I' R' => o' = .inl (some (.int v)) ∧ sh' = sh ∧ I' = w ∧ R' = R) hq hc rfl hr (by rw [ml]; rfl) (Or.inl rfl) (fun _ => Or.inl ⟨by rw [mc]; decide, by rw [mc]; exact isT_iff.mp hT⟩) (fun z => absurd (mk.symm.trans z) (by decide)) (by rw [ml]; exact vX11_camera (F := fun o' sh' I' R' => o' = .inl (some (.int v)) ∧ sh' = sh ∧ I' = w ∧ R' = R) ⟨rfl, rfl, rfl, rfl⟩ h1) ?_ ?_ ?_
  · rintro sh' I' R' c' hc' ⟨g1, rfl, rfl, rfl⟩
    cases g1
  · rintro v' sh' I' R' c' hc' ⟨g1, rfl, rfl, rfl⟩
    cases g1
    exact kk _ _ _ hc' h2
  · rintro E' sh' I' R' ⟨g1, rfl, rfl, rfl⟩
    cases g1
set_option maxRecDepth 100000 in
set_option maxHeartbeats 4000000 in
def fX11_moveCamera_b58 (fu : Nat) (sh : HS) (R : HR) (I : HI) (s0 : Int32) : Option (Int32 × HI) :=
  some (s0, I)
set_option maxRecDepth 100000 in
set_option maxHeartbeats 4000000 in
theorem vX11_moveCamera_b58 {K J : Nat → Nat} {fu : Nat} {sh : HS} {R : HR} {F : VF} {o : (Int32 × HI)} (hF : F (.inl (some (.int o.1))) sh o.2 R) {I : HI} {s0 : Int32} {d0 d1 d2 d3 : Option Value} {c : Nat × Nat} (hc0 : c.1 ≤ 0 ∧ c.2 ≤ 0) (h0 : fX11_moveCamera_b58 fu sh R I s0 = some o) : V K J 232 58 [d0, d1, d2, d3] [.int s0] sh I R c F := by
  unfold fX11_moveCamera_b58 at h0
  have e9 := Option.some.inj h0; subst e9
  exact s_ri (X := 0) (Y := 0) (by decide +kernel) hc0 hF
set_option maxRecDepth 100000 in
set_option maxHeartbeats 4000000 in
def fX11_moveCamera_b22 (fu : Nat) (sh : HS) (R : HR) (I : HI) (l0 : Nat) (l1 : Int32) (l2 : Int32) (l3 : Int32) (s0 : Int32) (s1 : Nat) : Option (Int32 × HI) :=
  oH (fX11_isWrong fu sh I R s1 s0) fun v2 w2 =>
  if v2 = 0 then
    ((fX11_get fu sh w2 R l0 l1 3).bind fun v3 =>
    (fX11_isAt fu sh w2 R l0 l1 v3 l2 l3).bind fun v4 =>
    if v4 = 0 then
      (oH (fX11_camera fu sh w2 R l0 l1 l2 l3) fun v5 w5 =>
      (fX11_moveCamera_b58 fu sh R) w5 v5)
    else
      ((fX11_moveCamera_b58 fu sh R) w2 (-2)))
  else
    (some (0, w2))
set_option maxRecDepth 100000 in
set_option maxHeartbeats 4000000 in
theorem vX11_moveCamera_b22 {K J : Nat → Nat} {fu : Nat} {sh : HS} {R : HR} {F : VF} {o : (Int32 × HI)} (hF : F (.inl (some (.int o.1))) sh o.2 R) {I : HI} {l0 : Nat} {l1 : Int32} {l2 : Int32} {l3 : Int32} {s0 : Int32} {s1 : Nat} {c : Nat × Nat} (hc0 : c.1 ≤ 0 ∧ c.2 ≤ 0) (h0 : fX11_moveCamera_b22 fu sh R I l0 l1 l2 l3 s0 s1 = some o) : V K J 232 22 [some (.ref l0), some (.int l1), some (.int l2), some (.int l3)] [.int s0, .ref s1] sh I R c F := by
  unfold fX11_moveCamera_b22 at h0
  refine kX11_isWrong (X := 0) (Y := 0) (X' := 0) (Y' := 0) (pc' := 25) (by decide +kernel) hc0 rfl h0 (fun v2 w2 c hc1 h1 => ?_); clear h0 hc0
  refine s_if (ins := .ifCond .eq 5) (t := 30) (pc' := 28) (by decide +kernel) rfl rfl rfl h1 (fun p2 h2 => ?_) (fun p2 h2 => ?_) <;> clear h1
  · refine s_rl (i := 0) (pc' := 31) (by decide +kernel) rfl ?_
    refine s_il (i := 1) (pc' := 32) (by decide +kernel) rfl ?_
    refine s_rl (i := 0) (pc' := 33) (by decide +kernel) rfl ?_
    refine s_il (i := 1) (pc' := 34) (by decide +kernel) rfl ?_
    refine s_c (v := 3) (pc' := 35) (by decide +kernel) ?_
    refine kX11_get (X := 0) (Y := 0) (X' := 0) (Y' := 0) (pc' := 38) (by decide +kernel) hc1 rfl h2 (fun v3 c hc2 h3 => ?_); clear h2 hc1
    refine s_il (i := 2) (pc' := 39) (by decide +kernel) rfl ?_
    refine s_il (i := 3) (pc' := 40) (by decide +kernel) rfl ?_
    refine kX11_isAt (X := 0) (Y := 0) (X' := 0) (Y' := 0) (pc' := 43) (by decide +kernel) hc2 rfl h3 (fun v4 c hc3 h4 => ?_); clear h3 hc2
    refine s_if (ins := .ifCond .eq 8) (t := 51) (pc' := 46) (by decide +kernel) rfl rfl rfl h4 (fun p5 h5 => ?_) (fun p5 h5 => ?_) <;> clear h4
    · refine s_rl (i := 0) (pc' := 52) (by decide +kernel) rfl ?_
      refine s_il (i := 1) (pc' := 53) (by decide +kernel) rfl ?_
      refine s_il (i := 2) (pc' := 54) (by decide +kernel) rfl ?_
      refine s_il (i := 3) (pc' := 55) (by decide +kernel) rfl ?_
      refine kX11_camera (X := 0) (Y := 0) (X' := 0) (Y' := 0) (pc' := 58) (by decide +kernel) hc3 rfl h5 (fun v5 w5 c hc4 h6 => ?_); clear h5 hc3
      exact (vX11_moveCamera_b58 hF) hc4 h6
    · refine s_c (v := (-2)) (pc' := 48) (by decide +kernel) ?_
      refine s_go (t := 58) (by decide +kernel) ?_
      exact (vX11_moveCamera_b58 hF) hc3 h5
  · refine s_c (v := 0) (pc' := 29) (by decide +kernel) ?_
    have e9 := Option.some.inj h2; subst e9
    exact s_ri (X := 0) (Y := 0) (by decide +kernel) hc1 hF
set_option maxRecDepth 100000 in
set_option maxHeartbeats 4000000 in
def fX11_moveCamera_b21 (fu : Nat) (sh : HS) (R : HR) (I : HI) (l0 : Nat) (l1 : Int32) (l2 : Int32) (l3 : Int32) (s0 : Nat) : Option (Int32 × HI) :=
  (fX11_moveCamera_b22 fu sh R) I l0 l1 l2 l3 0 s0
set_option maxRecDepth 100000 in
set_option maxHeartbeats 4000000 in
theorem vX11_moveCamera_b21 {K J : Nat → Nat} {fu : Nat} {sh : HS} {R : HR} {F : VF} {o : (Int32 × HI)} (hF : F (.inl (some (.int o.1))) sh o.2 R) {I : HI} {l0 : Nat} {l1 : Int32} {l2 : Int32} {l3 : Int32} {s0 : Nat} {c : Nat × Nat} (hc0 : c.1 ≤ 0 ∧ c.2 ≤ 0) (h0 : fX11_moveCamera_b21 fu sh R I l0 l1 l2 l3 s0 = some o) : V K J 232 21 [some (.ref l0), some (.int l1), some (.int l2), some (.int l3)] [.ref s0] sh I R c F := by
  unfold fX11_moveCamera_b21 at h0
  refine s_c (v := 0) (pc' := 22) (by decide +kernel) ?_
  exact (vX11_moveCamera_b22 hF) hc0 h0
set_option maxRecDepth 100000 in
set_option maxHeartbeats 4000000 in
def fX11_moveCamera (fu : Nat) (sh : HS) (I : HI) (R : HR) (l0 : Nat) (l1 : Int32) (l2 : Int32) (l3 : Int32) : Option (Int32 × HI) :=
  if isT sh l0 9 = true then
    ((fX11_isShot fu sh I R l0 l1).bind fun v1 =>
    if v1 = 0 then
      ((fX11_moveCamera_b21 fu sh R) I l0 l1 l2 l3 l0)
    else
      ((fX11_isPlace fu sh I R l2 l3).bind fun v6 =>
      if v6 = 0 then
        ((fX11_moveCamera_b21 fu sh R) I l0 l1 l2 l3 l0)
      else
        ((fX11_moveCamera_b22 fu sh R) I l0 l1 l2 l3 1 l0)))
  else none
set_option maxRecDepth 100000 in
set_option maxHeartbeats 4000000 in
theorem vX11_moveCamera {K J : Nat → Nat} {fu : Nat} {sh : HS} {I : HI} {R : HR} {F : VF} {o : (Int32 × HI)} (hF : F (.inl (some (.int o.1))) sh o.2 R) {l0 : Nat} {l1 : Int32} {l2 : Int32} {l3 : Int32} (h0 : fX11_moveCamera fu sh I R l0 l1 l2 l3 = some o) : V K J 232 0 (ent 4 [.ref l0, .int l1, .int l2, .int l3]) [] sh I R (0, 0) F := by
  unfold fX11_moveCamera at h0
  obtain ⟨-, h1⟩ := gd h0; clear h0
  have hc0 : ((0 : Nat), (0 : Nat)).1 ≤ 0 ∧ ((0 : Nat), (0 : Nat)).2 ≤ 0 := ⟨Nat.le_refl _, Nat.le_refl _⟩
  show V K J 232 0 [some (.ref l0), some (.int l1), some (.int l2), some (.int l3)] [] sh I R (0, 0) F
  refine s_rl (i := 0) (pc' := 1) (by decide +kernel) rfl ?_
  refine s_rl (i := 0) (pc' := 2) (by decide +kernel) rfl ?_
  refine s_il (i := 1) (pc' := 3) (by decide +kernel) rfl ?_
  refine kX11_isShot (X := 0) (Y := 0) (X' := 0) (Y' := 0) (pc' := 6) (by decide +kernel) hc0 rfl h1 (fun v1 c hc1 h2 => ?_); clear h1 hc0
  refine s_if (ins := .ifCond .eq 15) (t := 21) (pc' := 9) (by decide +kernel) rfl rfl rfl h2 (fun p3 h3 => ?_) (fun p3 h3 => ?_) <;> clear h2
  · exact (vX11_moveCamera_b21 hF) hc1 h3
  · refine s_il (i := 2) (pc' := 10) (by decide +kernel) rfl ?_
    refine s_il (i := 3) (pc' := 11) (by decide +kernel) rfl ?_
    refine kX11_isPlace (X := 0) (Y := 0) (X' := 0) (Y' := 0) (pc' := 14) (by decide +kernel) hc1 rfl h3 (fun v6 c hc2 h4 => ?_); clear h3 hc1
    refine s_if (ins := .ifCond .eq 7) (t := 21) (pc' := 17) (by decide +kernel) rfl rfl rfl h4 (fun p5 h5 => ?_) (fun p5 h5 => ?_) <;> clear h4
    · exact (vX11_moveCamera_b21 hF) hc2 h5
    · refine s_c (v := 1) (pc' := 18) (by decide +kernel) ?_
      refine s_go (t := 22) (by decide +kernel) ?_
      exact (vX11_moveCamera_b22 hF) hc2 h5
set_option maxRecDepth 100000 in
set_option maxHeartbeats 4000000 in
theorem kX11_moveCamera {K J : Nat → Nat} {fu : Nat} {sh : HS} {I : HI} {R : HR} {F : VF} {mi pc pc' X Y X' Y' : Nat} {L : VL} {rest : List Value} {c : Nat × Nat} {l0 : Nat} {l1 : Int32} {l2 : Int32} {l3 : Int32} {ω : Type} {o : ω} {g : Int32 → HI → Option ω} (hq : cQ mi pc 232 4 pc' X Y X' Y' = true) (hc : c.1 ≤ X ∧ c.2 ≤ Y) (hr : Nat.ble (catS rest) 8 = true) (h : oH (fX11_moveCamera fu sh I R l0 l1 l2 l3) g = some o) (kk : ∀ v w c', (c'.1 ≤ X' ∧ c'.2 ≤ Y') → g v w = some o → V K J mi pc' L ((.int v) :: rest) sh w R c' F) : V K J mi pc L (.int l3 :: .int l2 :: .int l1 :: .ref l0 :: rest) sh I R c F := by
  obtain ⟨r, h1, h2⟩ := bnd h
  have hT : isT sh l0 9 = true := by unfold fX11_moveCamera at h1; exact (gd h1).1
  have ml : mL 232 = 4 := by decide +kernel
  have mk : mK 232 = 1 := by decide +kernel
  have mc : mC 232 = 9 := by decide +kernel
  obtain ⟨v, w⟩ := r
  refine s_call (as := [.int l3, .int l2, .int l1, .ref l0]) (G := fun o' sh' I' R' => o' = .inl (some (.int v)) ∧ sh' = sh ∧ I' = w ∧ R' = R) hq hc rfl hr (by rw [ml]; rfl) (Or.inl rfl) (fun _ => Or.inl ⟨by rw [mc]; decide, by rw [mc]; exact isT_iff.mp hT⟩) (fun z => absurd (mk.symm.trans z) (by decide)) (by rw [ml]; exact vX11_moveCamera (F := fun o' sh' I' R' => o' = .inl (some (.int v)) ∧ sh' = sh ∧ I' = w ∧ R' = R) ⟨rfl, rfl, rfl, rfl⟩ h1) ?_ ?_ ?_
  · rintro sh' I' R' c' hc' ⟨g1, rfl, rfl, rfl⟩
    cases g1
  · rintro v' sh' I' R' c' hc' ⟨g1, rfl, rfl, rfl⟩
    cases g1
    exact kk _ _ _ hc' h2
  · rintro E' sh' I' R' ⟨g1, rfl, rfl, rfl⟩
    cases g1
set_option maxRecDepth 100000 in
set_option maxHeartbeats 4000000 in
def fX11_setCast_b44 (fu : Nat) (sh : HS) (R : HR) (I : HI) (l0 : Nat) (l1 : Int32) (l2 : Int32) (l3 : Int32) (s0 : Int32) : Option (Int32 × HI) :=
  oH (fX11_isWrong fu sh I R l0 s0) fun v2 w2 =>
  if v2 = 0 then
    (if l2 = l3 then
      (some ((-2), w2))
    else
      ((fX11_get fu sh w2 R l0 l1 1).bind fun v3 =>
      (fX11_get fu sh w2 R l0 l1 2).bind fun v4 =>
      (fX11_isAt fu sh w2 R l0 l1 l2 v3 v4).bind fun v5 =>
      if v5 = 0 then
        ((fX11_remember fu sh w2 R l0).bind fun w6 =>
        (fX11_set fu sh w6 R l0 l1 3 l2).bind fun w7 =>
        (fX11_set fu sh w7 R l0 l1 4 l3).bind fun w8 =>
        (fX11_faultsNow fu sh w8 R l0).bind fun v9 =>
        some (v9, w8))
      else
        (some ((-3), w2))))
  else
    (some (0, w2))
set_option maxRecDepth 100000 in
set_option maxHeartbeats 4000000 in
theorem vX11_setCast_b44 {K J : Nat → Nat} {fu : Nat} {sh : HS} {R : HR} {F : VF} {o : (Int32 × HI)} (hF : F (.inl (some (.int o.1))) sh o.2 R) {I : HI} {l0 : Nat} {l1 : Int32} {l2 : Int32} {l3 : Int32} {s0 : Int32} {d4 : Option Value} {c : Nat × Nat} (hc0 : c.1 ≤ 0 ∧ c.2 ≤ 0) (h0 : fX11_setCast_b44 fu sh R I l0 l1 l2 l3 s0 = some o) : V K J 233 44 [some (.ref l0), some (.int l1), some (.int l2), some (.int l3), d4] [.int s0] sh I R c F := by
  unfold fX11_setCast_b44 at h0
  refine s_is (i := 4) (pc' := 46) (L' := [some (.ref l0), some (.int l1), some (.int l2), some (.int l3), some (.int s0)]) (by decide +kernel) rfl rfl ?_
  refine s_rl (i := 0) (pc' := 47) (by decide +kernel) rfl ?_
  refine s_il (i := 4) (pc' := 49) (by decide +kernel) rfl ?_
  refine kX11_isWrong (X := 0) (Y := 0) (X' := 0) (Y' := 0) (pc' := 52) (by decide +kernel) hc0 rfl h0 (fun v2 w2 c hc1 h1 => ?_); clear h0 hc0
  refine s_if (ins := .ifCond .eq 5) (t := 57) (pc' := 55) (by decide +kernel) rfl rfl rfl h1 (fun p2 h2 => ?_) (fun p2 h2 => ?_) <;> clear h1
  · refine s_il (i := 2) (pc' := 58) (by decide +kernel) rfl ?_
    refine s_il (i := 3) (pc' := 59) (by decide +kernel) rfl ?_
    refine s_ifn (ins := .if_icmp .ne 6) (t := 65) (pc' := 62) (by decide +kernel) rfl rfl rfl h2 (fun p3 h3 => ?_) (fun p3 h3 => ?_) <;> clear h2
    · refine s_rl (i := 0) (pc' := 66) (by decide +kernel) rfl ?_
      refine s_il (i := 1) (pc' := 67) (by decide +kernel) rfl ?_
      refine s_il (i := 2) (pc' := 68) (by decide +kernel) rfl ?_
      refine s_rl (i := 0) (pc' := 69) (by decide +kernel) rfl ?_
      refine s_il (i := 1) (pc' := 70) (by decide +kernel) rfl ?_
      refine s_c (v := 1) (pc' := 71) (by decide +kernel) ?_
      refine kX11_get (X := 0) (Y := 0) (X' := 0) (Y' := 0) (pc' := 74) (by decide +kernel) hc1 rfl h3 (fun v3 c hc2 h4 => ?_); clear h3 hc1
      refine s_rl (i := 0) (pc' := 75) (by decide +kernel) rfl ?_
      refine s_il (i := 1) (pc' := 76) (by decide +kernel) rfl ?_
      refine s_c (v := 2) (pc' := 77) (by decide +kernel) ?_
      refine kX11_get (X := 0) (Y := 0) (X' := 0) (Y' := 0) (pc' := 80) (by decide +kernel) hc2 rfl h4 (fun v4 c hc3 h5 => ?_); clear h4 hc2
      refine kX11_isAt (X := 0) (Y := 0) (X' := 0) (Y' := 0) (pc' := 83) (by decide +kernel) hc3 rfl h5 (fun v5 c hc4 h6 => ?_); clear h5 hc3
      refine s_if (ins := .ifCond .eq 6) (t := 89) (pc' := 86) (by decide +kernel) rfl rfl rfl h6 (fun p7 h7 => ?_) (fun p7 h7 => ?_) <;> clear h6
      · refine s_rl (i := 0) (pc' := 90) (by decide +kernel) rfl ?_
        refine kX11_remember (X := 0) (Y := 0) (X' := 0) (Y' := 0) (pc' := 93) (by decide +kernel) hc4 rfl h7 (fun w6 c hc5 h8 => ?_); clear h7 hc4
        refine s_rl (i := 0) (pc' := 94) (by decide +kernel) rfl ?_
        refine s_il (i := 1) (pc' := 95) (by decide +kernel) rfl ?_
        refine s_c (v := 3) (pc' := 96) (by decide +kernel) ?_
        refine s_il (i := 2) (pc' := 97) (by decide +kernel) rfl ?_
        refine kX11_set (X := 0) (Y := 0) (X' := 0) (Y' := 0) (pc' := 100) (by decide +kernel) hc5 rfl h8 (fun w7 c hc6 h9 => ?_); clear h8 hc5
        refine s_rl (i := 0) (pc' := 101) (by decide +kernel) rfl ?_
        refine s_il (i := 1) (pc' := 102) (by decide +kernel) rfl ?_
        refine s_c (v := 4) (pc' := 103) (by decide +kernel) ?_
        refine s_il (i := 3) (pc' := 104) (by decide +kernel) rfl ?_
        refine kX11_set (X := 0) (Y := 0) (X' := 0) (Y' := 0) (pc' := 107) (by decide +kernel) hc6 rfl h9 (fun w8 c hc7 h10 => ?_); clear h9 hc6
        refine s_rl (i := 0) (pc' := 108) (by decide +kernel) rfl ?_
        refine kX11_faultsNow (X := 0) (Y := 0) (X' := 0) (Y' := 0) (pc' := 111) (by decide +kernel) hc7 rfl h10 (fun v9 c hc8 h11 => ?_); clear h10 hc7
        have e9 := Option.some.inj h11; subst e9
        exact s_ri (X := 0) (Y := 0) (by decide +kernel) hc8 hF
      · refine s_c (v := (-3)) (pc' := 88) (by decide +kernel) ?_
        have e9 := Option.some.inj h7; subst e9
        exact s_ri (X := 0) (Y := 0) (by decide +kernel) hc4 hF
    · refine s_c (v := (-2)) (pc' := 64) (by decide +kernel) ?_
      have e9 := Option.some.inj h3; subst e9
      exact s_ri (X := 0) (Y := 0) (by decide +kernel) hc1 hF
  · refine s_c (v := 0) (pc' := 56) (by decide +kernel) ?_
    have e9 := Option.some.inj h2; subst e9
    exact s_ri (X := 0) (Y := 0) (by decide +kernel) hc1 hF
set_option maxRecDepth 100000 in
set_option maxHeartbeats 4000000 in
def fX11_setCast_b43 (fu : Nat) (sh : HS) (R : HR) (I : HI) (l0 : Nat) (l1 : Int32) (l2 : Int32) (l3 : Int32) : Option (Int32 × HI) :=
  (fX11_setCast_b44 fu sh R) I l0 l1 l2 l3 0
set_option maxRecDepth 100000 in
set_option maxHeartbeats 4000000 in
theorem vX11_setCast_b43 {K J : Nat → Nat} {fu : Nat} {sh : HS} {R : HR} {F : VF} {o : (Int32 × HI)} (hF : F (.inl (some (.int o.1))) sh o.2 R) {I : HI} {l0 : Nat} {l1 : Int32} {l2 : Int32} {l3 : Int32} {d4 : Option Value} {c : Nat × Nat} (hc0 : c.1 ≤ 0 ∧ c.2 ≤ 0) (h0 : fX11_setCast_b43 fu sh R I l0 l1 l2 l3 = some o) : V K J 233 43 [some (.ref l0), some (.int l1), some (.int l2), some (.int l3), d4] [] sh I R c F := by
  unfold fX11_setCast_b43 at h0
  refine s_c (v := 0) (pc' := 44) (by decide +kernel) ?_
  exact (vX11_setCast_b44 hF) hc0 h0
set_option maxRecDepth 100000 in
set_option maxHeartbeats 4000000 in
def fX11_setCast_b39 (fu : Nat) (sh : HS) (R : HR) (I : HI) (l0 : Nat) (l1 : Int32) (l2 : Int32) (l3 : Int32) : Option (Int32 × HI) :=
  (fX11_setCast_b44 fu sh R) I l0 l1 l2 l3 1
set_option maxRecDepth 100000 in
set_option maxHeartbeats 4000000 in
theorem vX11_setCast_b39 {K J : Nat → Nat} {fu : Nat} {sh : HS} {R : HR} {F : VF} {o : (Int32 × HI)} (hF : F (.inl (some (.int o.1))) sh o.2 R) {I : HI} {l0 : Nat} {l1 : Int32} {l2 : Int32} {l3 : Int32} {d4 : Option Value} {c : Nat × Nat} (hc0 : c.1 ≤ 0 ∧ c.2 ≤ 0) (h0 : fX11_setCast_b39 fu sh R I l0 l1 l2 l3 = some o) : V K J 233 39 [some (.ref l0), some (.int l1), some (.int l2), some (.int l3), d4] [] sh I R c F := by
  unfold fX11_setCast_b39 at h0
  refine s_c (v := 1) (pc' := 40) (by decide +kernel) ?_
  refine s_go (t := 44) (by decide +kernel) ?_
  exact (vX11_setCast_b44 hF) hc0 h0
set_option maxRecDepth 100000 in
set_option maxHeartbeats 4000000 in
def fX11_setCast (fu : Nat) (sh : HS) (I : HI) (R : HR) (l0 : Nat) (l1 : Int32) (l2 : Int32) (l3 : Int32) : Option (Int32 × HI) :=
  if isT sh l0 9 = true then
    ((fX11_isShot fu sh I R l0 l1).bind fun v1 =>
    if v1 = 0 then
      ((fX11_setCast_b43 fu sh R) I l0 l1 l2 l3)
    else
      ((fX11_sceneOf fu sh I R l0 l1).bind fun v10 =>
      (fX11_isActor fu sh I R l0 v10 l2).bind fun v11 =>
      if v11 = 0 then
        ((fX11_setCast_b43 fu sh R) I l0 l1 l2 l3)
      else
        (if l3 = (-1) then
          ((fX11_setCast_b39 fu sh R) I l0 l1 l2 l3)
        else
          ((fX11_sceneOf fu sh I R l0 l1).bind fun v12 =>
          (fX11_isActor fu sh I R l0 v12 l3).bind fun v13 =>
          if v13 = 0 then
            ((fX11_setCast_b43 fu sh R) I l0 l1 l2 l3)
          else
            ((fX11_setCast_b39 fu sh R) I l0 l1 l2 l3)))))
  else none
set_option maxRecDepth 100000 in
set_option maxHeartbeats 4000000 in
theorem vX11_setCast {K J : Nat → Nat} {fu : Nat} {sh : HS} {I : HI} {R : HR} {F : VF} {o : (Int32 × HI)} (hF : F (.inl (some (.int o.1))) sh o.2 R) {l0 : Nat} {l1 : Int32} {l2 : Int32} {l3 : Int32} (h0 : fX11_setCast fu sh I R l0 l1 l2 l3 = some o) : V K J 233 0 (ent 5 [.ref l0, .int l1, .int l2, .int l3]) [] sh I R (0, 0) F := by
  unfold fX11_setCast at h0
  obtain ⟨-, h1⟩ := gd h0; clear h0
  have hc0 : ((0 : Nat), (0 : Nat)).1 ≤ 0 ∧ ((0 : Nat), (0 : Nat)).2 ≤ 0 := ⟨Nat.le_refl _, Nat.le_refl _⟩
  show V K J 233 0 [some (.ref l0), some (.int l1), some (.int l2), some (.int l3), none] [] sh I R (0, 0) F
  refine s_rl (i := 0) (pc' := 1) (by decide +kernel) rfl ?_
  refine s_il (i := 1) (pc' := 2) (by decide +kernel) rfl ?_
  refine kX11_isShot (X := 0) (Y := 0) (X' := 0) (Y' := 0) (pc' := 5) (by decide +kernel) hc0 rfl h1 (fun v1 c hc1 h2 => ?_); clear h1 hc0
  refine s_if (ins := .ifCond .eq 38) (t := 43) (pc' := 8) (by decide +kernel) rfl rfl rfl h2 (fun p3 h3 => ?_) (fun p3 h3 => ?_) <;> clear h2
  · exact (vX11_setCast_b43 hF) hc1 h3
  · refine s_rl (i := 0) (pc' := 9) (by decide +kernel) rfl ?_
    refine s_rl (i := 0) (pc' := 10) (by decide +kernel) rfl ?_
    refine s_il (i := 1) (pc' := 11) (by decide +kernel) rfl ?_
    refine kX11_sceneOf (X := 0) (Y := 0) (X' := 0) (Y' := 0) (pc' := 14) (by decide +kernel) hc1 rfl h3 (fun v10 c hc2 h4 => ?_); clear h3 hc1
    refine s_il (i := 2) (pc' := 15) (by decide +kernel) rfl ?_
    refine kX11_isActor (X := 0) (Y := 0) (X' := 0) (Y' := 0) (pc' := 18) (by decide +kernel) hc2 rfl h4 (fun v11 c hc3 h5 => ?_); clear h4 hc2
    refine s_if (ins := .ifCond .eq 25) (t := 43) (pc' := 21) (by decide +kernel) rfl rfl rfl h5 (fun p6 h6 => ?_) (fun p6 h6 => ?_) <;> clear h5
    · exact (vX11_setCast_b43 hF) hc3 h6
    · refine s_il (i := 3) (pc' := 22) (by decide +kernel) rfl ?_
      refine s_c (v := (-1)) (pc' := 23) (by decide +kernel) ?_
      refine s_if (ins := .if_icmp .eq 16) (t := 39) (pc' := 26) (by decide +kernel) rfl rfl rfl h6 (fun p7 h7 => ?_) (fun p7 h7 => ?_) <;> clear h6
      · exact (vX11_setCast_b39 hF) hc3 h7
      · refine s_rl (i := 0) (pc' := 27) (by decide +kernel) rfl ?_
        refine s_rl (i := 0) (pc' := 28) (by decide +kernel) rfl ?_
        refine s_il (i := 1) (pc' := 29) (by decide +kernel) rfl ?_
        refine kX11_sceneOf (X := 0) (Y := 0) (X' := 0) (Y' := 0) (pc' := 32) (by decide +kernel) hc3 rfl h7 (fun v12 c hc4 h8 => ?_); clear h7 hc3
        refine s_il (i := 3) (pc' := 33) (by decide +kernel) rfl ?_
        refine kX11_isActor (X := 0) (Y := 0) (X' := 0) (Y' := 0) (pc' := 36) (by decide +kernel) hc4 rfl h8 (fun v13 c hc5 h9 => ?_); clear h8 hc4
        refine s_if (ins := .ifCond .eq 7) (t := 43) (pc' := 39) (by decide +kernel) rfl rfl rfl h9 (fun p10 h10 => ?_) (fun p10 h10 => ?_) <;> clear h9
        · exact (vX11_setCast_b43 hF) hc5 h10
        · exact (vX11_setCast_b39 hF) hc5 h10
set_option maxRecDepth 100000 in
set_option maxHeartbeats 4000000 in
theorem kX11_setCast {K J : Nat → Nat} {fu : Nat} {sh : HS} {I : HI} {R : HR} {F : VF} {mi pc pc' X Y X' Y' : Nat} {L : VL} {rest : List Value} {c : Nat × Nat} {l0 : Nat} {l1 : Int32} {l2 : Int32} {l3 : Int32} {ω : Type} {o : ω} {g : Int32 → HI → Option ω} (hq : cQ mi pc 233 4 pc' X Y X' Y' = true) (hc : c.1 ≤ X ∧ c.2 ≤ Y) (hr : Nat.ble (catS rest) 8 = true) (h : oH (fX11_setCast fu sh I R l0 l1 l2 l3) g = some o) (kk : ∀ v w c', (c'.1 ≤ X' ∧ c'.2 ≤ Y') → g v w = some o → V K J mi pc' L ((.int v) :: rest) sh w R c' F) : V K J mi pc L (.int l3 :: .int l2 :: .int l1 :: .ref l0 :: rest) sh I R c F := by
  obtain ⟨r, h1, h2⟩ := bnd h
  have hT : isT sh l0 9 = true := by unfold fX11_setCast at h1; exact (gd h1).1
  have ml : mL 233 = 5 := by decide +kernel
  have mk : mK 233 = 1 := by decide +kernel
  have mc : mC 233 = 9 := by decide +kernel
  obtain ⟨v, w⟩ := r
  refine s_call (as := [.int l3, .int l2, .int l1, .ref l0]) (G := fun o' sh' I' R' => o' = .inl (some (.int v)) ∧ sh' = sh ∧ I' = w ∧ R' = R) hq hc rfl hr (by rw [ml]; rfl) (Or.inl rfl) (fun _ => Or.inl ⟨by rw [mc]; decide, by rw [mc]; exact isT_iff.mp hT⟩) (fun z => absurd (mk.symm.trans z) (by decide)) (by rw [ml]; exact vX11_setCast (F := fun o' sh' I' R' => o' = .inl (some (.int v)) ∧ sh' = sh ∧ I' = w ∧ R' = R) ⟨rfl, rfl, rfl, rfl⟩ h1) ?_ ?_ ?_
  · rintro sh' I' R' c' hc' ⟨g1, rfl, rfl, rfl⟩
    cases g1
  · rintro v' sh' I' R' c' hc' ⟨g1, rfl, rfl, rfl⟩
    cases g1
    exact kk _ _ _ hc' h2
  · rintro E' sh' I' R' ⟨g1, rfl, rfl, rfl⟩
    cases g1
set_option maxRecDepth 100000 in
set_option maxHeartbeats 4000000 in
def fX11_setLength_b26 (fu : Nat) (sh : HS) (R : HR) (I : HI) (l0 : Nat) (l1 : Int32) (l2 : Int32) (s0 : Int32) (s1 : Nat) : Option (Int32 × HI) :=
  oH (fX11_isWrong fu sh I R s1 s0) fun v2 w2 =>
  if v2 = 0 then
    ((fX11_remember fu sh w2 R l0).bind fun w3 =>
    (fX11_get fu sh w3 R l0 l1 5).bind fun v4 =>
    (fX11_set fu sh w3 R l0 l1 5 l2).bind fun w5 =>
    some (v4, w5))
  else
    (some (0, w2))
set_option maxRecDepth 100000 in
set_option maxHeartbeats 4000000 in
theorem vX11_setLength_b26 {K J : Nat → Nat} {fu : Nat} {sh : HS} {R : HR} {F : VF} {o : (Int32 × HI)} (hF : F (.inl (some (.int o.1))) sh o.2 R) {I : HI} {l0 : Nat} {l1 : Int32} {l2 : Int32} {s0 : Int32} {s1 : Nat} {d3 : Option Value} {c : Nat × Nat} (hc0 : c.1 ≤ 0 ∧ c.2 ≤ 0) (h0 : fX11_setLength_b26 fu sh R I l0 l1 l2 s0 s1 = some o) : V K J 234 26 [some (.ref l0), some (.int l1), some (.int l2), d3] [.int s0, .ref s1] sh I R c F := by
  unfold fX11_setLength_b26 at h0
  refine kX11_isWrong (X := 0) (Y := 0) (X' := 0) (Y' := 0) (pc' := 29) (by decide +kernel) hc0 rfl h0 (fun v2 w2 c hc1 h1 => ?_); clear h0 hc0
  refine s_if (ins := .ifCond .eq 5) (t := 34) (pc' := 32) (by decide +kernel) rfl rfl rfl h1 (fun p2 h2 => ?_) (fun p2 h2 => ?_) <;> clear h1
  · refine s_rl (i := 0) (pc' := 35) (by decide +kernel) rfl ?_
    refine kX11_remember (X := 0) (Y := 0) (X' := 0) (Y' := 0) (pc' := 38) (by decide +kernel) hc1 rfl h2 (fun w3 c hc2 h3 => ?_); clear h2 hc1
    refine s_rl (i := 0) (pc' := 39) (by decide +kernel) rfl ?_
    refine s_il (i := 1) (pc' := 40) (by decide +kernel) rfl ?_
    refine s_c (v := 5) (pc' := 41) (by decide +kernel) ?_
    refine kX11_get (X := 0) (Y := 0) (X' := 0) (Y' := 0) (pc' := 44) (by decide +kernel) hc2 rfl h3 (fun v4 c hc3 h4 => ?_); clear h3 hc2
    refine s_is (i := 3) (pc' := 45) (L' := [some (.ref l0), some (.int l1), some (.int l2), some (.int v4)]) (by decide +kernel) rfl rfl ?_
    refine s_rl (i := 0) (pc' := 46) (by decide +kernel) rfl ?_
    refine s_il (i := 1) (pc' := 47) (by decide +kernel) rfl ?_
    refine s_c (v := 5) (pc' := 48) (by decide +kernel) ?_
    refine s_il (i := 2) (pc' := 49) (by decide +kernel) rfl ?_
    refine kX11_set (X := 0) (Y := 0) (X' := 0) (Y' := 0) (pc' := 52) (by decide +kernel) hc3 rfl h4 (fun w5 c hc4 h5 => ?_); clear h4 hc3
    refine s_il (i := 3) (pc' := 53) (by decide +kernel) rfl ?_
    have e9 := Option.some.inj h5; subst e9
    exact s_ri (X := 0) (Y := 0) (by decide +kernel) hc4 hF
  · refine s_c (v := 0) (pc' := 33) (by decide +kernel) ?_
    have e9 := Option.some.inj h2; subst e9
    exact s_ri (X := 0) (Y := 0) (by decide +kernel) hc1 hF
set_option maxRecDepth 100000 in
set_option maxHeartbeats 4000000 in
def fX11_setLength_b25 (fu : Nat) (sh : HS) (R : HR) (I : HI) (l0 : Nat) (l1 : Int32) (l2 : Int32) (s0 : Nat) : Option (Int32 × HI) :=
  (fX11_setLength_b26 fu sh R) I l0 l1 l2 0 s0
set_option maxRecDepth 100000 in
set_option maxHeartbeats 4000000 in
theorem vX11_setLength_b25 {K J : Nat → Nat} {fu : Nat} {sh : HS} {R : HR} {F : VF} {o : (Int32 × HI)} (hF : F (.inl (some (.int o.1))) sh o.2 R) {I : HI} {l0 : Nat} {l1 : Int32} {l2 : Int32} {s0 : Nat} {d3 : Option Value} {c : Nat × Nat} (hc0 : c.1 ≤ 0 ∧ c.2 ≤ 0) (h0 : fX11_setLength_b25 fu sh R I l0 l1 l2 s0 = some o) : V K J 234 25 [some (.ref l0), some (.int l1), some (.int l2), d3] [.ref s0] sh I R c F := by
  unfold fX11_setLength_b25 at h0
  refine s_c (v := 0) (pc' := 26) (by decide +kernel) ?_
  exact (vX11_setLength_b26 hF) hc0 h0
set_option maxRecDepth 100000 in
set_option maxHeartbeats 4000000 in
def fX11_setLength (fu : Nat) (sh : HS) (I : HI) (R : HR) (l0 : Nat) (l1 : Int32) (l2 : Int32) : Option (Int32 × HI) :=
  if isT sh l0 9 = true then
    ((fX11_isShot fu sh I R l0 l1).bind fun v1 =>
    if v1 = 0 then
      ((fX11_setLength_b25 fu sh R) I l0 l1 l2 l0)
    else
      ((fX11_isIn fu sh I R (l2.toInt64) 1 99).bind fun v6 =>
      if v6 = 0 then
        ((fX11_setLength_b25 fu sh R) I l0 l1 l2 l0)
      else
        ((fX11_setLength_b26 fu sh R) I l0 l1 l2 1 l0)))
  else none
set_option maxRecDepth 100000 in
set_option maxHeartbeats 4000000 in
theorem vX11_setLength {K J : Nat → Nat} {fu : Nat} {sh : HS} {I : HI} {R : HR} {F : VF} {o : (Int32 × HI)} (hF : F (.inl (some (.int o.1))) sh o.2 R) {l0 : Nat} {l1 : Int32} {l2 : Int32} (h0 : fX11_setLength fu sh I R l0 l1 l2 = some o) : V K J 234 0 (ent 4 [.ref l0, .int l1, .int l2]) [] sh I R (0, 0) F := by
  unfold fX11_setLength at h0
  obtain ⟨-, h1⟩ := gd h0; clear h0
  have hc0 : ((0 : Nat), (0 : Nat)).1 ≤ 0 ∧ ((0 : Nat), (0 : Nat)).2 ≤ 0 := ⟨Nat.le_refl _, Nat.le_refl _⟩
  show V K J 234 0 [some (.ref l0), some (.int l1), some (.int l2), none] [] sh I R (0, 0) F
  refine s_rl (i := 0) (pc' := 1) (by decide +kernel) rfl ?_
  refine s_rl (i := 0) (pc' := 2) (by decide +kernel) rfl ?_
  refine s_il (i := 1) (pc' := 3) (by decide +kernel) rfl ?_
  refine kX11_isShot (X := 0) (Y := 0) (X' := 0) (Y' := 0) (pc' := 6) (by decide +kernel) hc0 rfl h1 (fun v1 c hc1 h2 => ?_); clear h1 hc0
  refine s_if (ins := .ifCond .eq 19) (t := 25) (pc' := 9) (by decide +kernel) rfl rfl rfl h2 (fun p3 h3 => ?_) (fun p3 h3 => ?_) <;> clear h2
  · exact (vX11_setLength_b25 hF) hc1 h3
  · refine s_il (i := 2) (pc' := 10) (by decide +kernel) rfl ?_
    refine s_a (ins := .i2l) (pc' := 11) (by decide +kernel) rfl ?_
    refine s_cJ (v := 1) (pc' := 12) (by decide +kernel) ?_
    refine s_cJ (v := 99) (pc' := 15) (by decide +kernel) ?_
    refine kX11_isIn (X := 0) (Y := 0) (X' := 0) (Y' := 0) (pc' := 18) (by decide +kernel) hc1 rfl h3 (fun v6 c hc2 h4 => ?_); clear h3 hc1
    refine s_if (ins := .ifCond .eq 7) (t := 25) (pc' := 21) (by decide +kernel) rfl rfl rfl h4 (fun p5 h5 => ?_) (fun p5 h5 => ?_) <;> clear h4
    · exact (vX11_setLength_b25 hF) hc2 h5
    · refine s_c (v := 1) (pc' := 22) (by decide +kernel) ?_
      refine s_go (t := 26) (by decide +kernel) ?_
      exact (vX11_setLength_b26 hF) hc2 h5
set_option maxRecDepth 100000 in
set_option maxHeartbeats 4000000 in
theorem kX11_setLength {K J : Nat → Nat} {fu : Nat} {sh : HS} {I : HI} {R : HR} {F : VF} {mi pc pc' X Y X' Y' : Nat} {L : VL} {rest : List Value} {c : Nat × Nat} {l0 : Nat} {l1 : Int32} {l2 : Int32} {ω : Type} {o : ω} {g : Int32 → HI → Option ω} (hq : cQ mi pc 234 3 pc' X Y X' Y' = true) (hc : c.1 ≤ X ∧ c.2 ≤ Y) (hr : Nat.ble (catS rest) 8 = true) (h : oH (fX11_setLength fu sh I R l0 l1 l2) g = some o) (kk : ∀ v w c', (c'.1 ≤ X' ∧ c'.2 ≤ Y') → g v w = some o → V K J mi pc' L ((.int v) :: rest) sh w R c' F) : V K J mi pc L (.int l2 :: .int l1 :: .ref l0 :: rest) sh I R c F := by
  obtain ⟨r, h1, h2⟩ := bnd h
  have hT : isT sh l0 9 = true := by unfold fX11_setLength at h1; exact (gd h1).1
  have ml : mL 234 = 4 := by decide +kernel
  have mk : mK 234 = 1 := by decide +kernel
  have mc : mC 234 = 9 := by decide +kernel
  obtain ⟨v, w⟩ := r
  refine s_call (as := [.int l2, .int l1, .ref l0]) (G := fun o' sh' I' R' => o' = .inl (some (.int v)) ∧ sh' = sh ∧ I' = w ∧ R' = R) hq hc rfl hr (by rw [ml]; rfl) (Or.inl rfl) (fun _ => Or.inl ⟨by rw [mc]; decide, by rw [mc]; exact isT_iff.mp hT⟩) (fun z => absurd (mk.symm.trans z) (by decide)) (by rw [ml]; exact vX11_setLength (F := fun o' sh' I' R' => o' = .inl (some (.int v)) ∧ sh' = sh ∧ I' = w ∧ R' = R) ⟨rfl, rfl, rfl, rfl⟩ h1) ?_ ?_ ?_
  · rintro sh' I' R' c' hc' ⟨g1, rfl, rfl, rfl⟩
    cases g1
  · rintro v' sh' I' R' c' hc' ⟨g1, rfl, rfl, rfl⟩
    cases g1
    exact kk _ _ _ hc' h2
  · rintro E' sh' I' R' ⟨g1, rfl, rfl, rfl⟩
    cases g1
set_option maxRecDepth 100000 in
set_option maxHeartbeats 4000000 in
def fX11_exchange_b2 (fu : Nat) (sh : HS) (R : HR) (k2 : HI → Nat → Int32 → Int32 → Int32 → Option HI) (I : HI) (l0 : Nat) (l1 : Int32) (l2 : Int32) (l3 : Int32) : Option HI :=
  if 6 ≤ l3 then
    (some I)
  else
    ((fX11_get fu sh I R l0 l1 l3).bind fun v1 =>
    (fX11_get fu sh I R l0 l2 l3).bind fun v2 =>
    (fX11_set fu sh I R l0 l1 l3 v2).bind fun w3 =>
    (fX11_set fu sh w3 R l0 l2 l3 v1).bind fun w4 =>
    k2 w4 l0 l1 l2 (l3 + 1))
set_option maxRecDepth 100000 in
set_option maxHeartbeats 4000000 in
theorem vX11_exchange_b2 {K J : Nat → Nat} {fu : Nat} {sh : HS} {R : HR} {F : VF} {o : HI} (hF : F (.inl none) sh o R) {k2 : HI → Nat → Int32 → Int32 → Int32 → Option HI} (hk2 : ∀ {I : HI} {l0 : Nat} {l1 : Int32} {l2 : Int32} {l3 : Int32} {d4 : Option Value} {c : Nat × Nat}, (c.1 ≤ 0 ∧ c.2 ≤ 0) → k2 I l0 l1 l2 l3 = some o → V K J 235 2 [some (.ref l0), some (.int l1), some (.int l2), some (.int l3), d4] [] sh I R c F) {I : HI} {l0 : Nat} {l1 : Int32} {l2 : Int32} {l3 : Int32} {d4 : Option Value} {c : Nat × Nat} (hc0 : c.1 ≤ 0 ∧ c.2 ≤ 0) (h0 : fX11_exchange_b2 fu sh R k2 I l0 l1 l2 l3 = some o) : V K J 235 2 [some (.ref l0), some (.int l1), some (.int l2), some (.int l3), d4] [] sh I R c F := by
  unfold fX11_exchange_b2 at h0
  refine s_il (i := 3) (pc' := 3) (by decide +kernel) rfl ?_
  refine s_c (v := 6) (pc' := 5) (by decide +kernel) ?_
  refine s_if (ins := .if_icmp .ge 37) (t := 42) (pc' := 8) (by decide +kernel) rfl rfl rfl h0 (fun p1 h1 => ?_) (fun p1 h1 => ?_) <;> clear h0
  · have e9 := Option.some.inj h1; subst e9
    exact s_rv (X := 0) (Y := 0) (by decide +kernel) hc0 hF
  · refine s_rl (i := 0) (pc' := 9) (by decide +kernel) rfl ?_
    refine s_il (i := 1) (pc' := 10) (by decide +kernel) rfl ?_
    refine s_il (i := 3) (pc' := 11) (by decide +kernel) rfl ?_
    refine kX11_get (X := 0) (Y := 0) (X' := 0) (Y' := 0) (pc' := 14) (by decide +kernel) hc0 rfl h1 (fun v1 c hc1 h2 => ?_); clear h1 hc0
    refine s_is (i := 4) (pc' := 16) (L' := [some (.ref l0), some (.int l1), some (.int l2), some (.int l3), some (.int v1)]) (by decide +kernel) rfl rfl ?_
    refine s_rl (i := 0) (pc' := 17) (by decide +kernel) rfl ?_
    refine s_il (i := 1) (pc' := 18) (by decide +kernel) rfl ?_
    refine s_il (i := 3) (pc' := 19) (by decide +kernel) rfl ?_
    refine s_rl (i := 0) (pc' := 20) (by decide +kernel) rfl ?_
    refine s_il (i := 2) (pc' := 21) (by decide +kernel) rfl ?_
    refine s_il (i := 3) (pc' := 22) (by decide +kernel) rfl ?_
    refine kX11_get (X := 0) (Y := 0) (X' := 0) (Y' := 0) (pc' := 25) (by decide +kernel) hc1 rfl h2 (fun v2 c hc2 h3 => ?_); clear h2 hc1
    refine kX11_set (X := 0) (Y := 0) (X' := 0) (Y' := 0) (pc' := 28) (by decide +kernel) hc2 rfl h3 (fun w3 c hc3 h4 => ?_); clear h3 hc2
    refine s_rl (i := 0) (pc' := 29) (by decide +kernel) rfl ?_
    refine s_il (i := 2) (pc' := 30) (by decide +kernel) rfl ?_
    refine s_il (i := 3) (pc' := 31) (by decide +kernel) rfl ?_
    refine s_il (i := 4) (pc' := 33) (by decide +kernel) rfl ?_
    refine kX11_set (X := 0) (Y := 0) (X' := 0) (Y' := 0) (pc' := 36) (by decide +kernel) hc3 rfl h4 (fun w4 c hc4 h5 => ?_); clear h4 hc3
    refine s_inc (i := 3) (z := 1) (pc' := 39) (L' := [some (.ref l0), some (.int l1), some (.int l2), some (.int (l3 + 1)), some (.int v1)]) (by decide +kernel) rfl rfl rfl ?_
    refine s_go (t := 2) (by decide +kernel) ?_
    exact hk2 hc4 h5
set_option maxRecDepth 100000 in
set_option maxHeartbeats 4000000 in
def fX11_exchange_l2 (fu : Nat) (sh : HS) (R : HR) : Nat → HI → Nat → Int32 → Int32 → Int32 → Option HI
  | 0 => fun _ _ _ _ _ => none
  | n + 1 => fX11_exchange_b2 fu sh R (fX11_exchange_l2 fu sh R n)
set_option maxRecDepth 100000 in
set_option maxHeartbeats 4000000 in
theorem vX11_exchange_l2 {K J : Nat → Nat} {fu : Nat} {sh : HS} {R : HR} {F : VF} {o : HI} (hF : F (.inl none) sh o R) : ∀ (n : Nat) {I : HI} {l0 : Nat} {l1 : Int32} {l2 : Int32} {l3 : Int32} {d4 : Option Value} {c : Nat × Nat} (_ : c.1 ≤ 0 ∧ c.2 ≤ 0) (_ : fX11_exchange_l2 fu sh R n I l0 l1 l2 l3 = some o), V K J 235 2 [some (.ref l0), some (.int l1), some (.int l2), some (.int l3), d4] [] sh I R c F := by
  intro n
  induction n with
  | zero => exact fun _ h0 => nomatch h0
  | succ n ih => exact fun hc0 h0 => vX11_exchange_b2 hF ih hc0 h0
set_option maxRecDepth 100000 in
set_option maxHeartbeats 4000000 in
def fX11_exchange (fu : Nat) (sh : HS) (I : HI) (R : HR) (l0 : Nat) (l1 : Int32) (l2 : Int32) : Option HI :=
  if isT sh l0 9 = true then
    ((fX11_exchange_l2 fu sh R fu) I l0 l1 l2 0)
  else none
set_option maxRecDepth 100000 in
set_option maxHeartbeats 4000000 in
theorem vX11_exchange {K J : Nat → Nat} {fu : Nat} {sh : HS} {I : HI} {R : HR} {F : VF} {o : HI} (hF : F (.inl none) sh o R) {l0 : Nat} {l1 : Int32} {l2 : Int32} (h0 : fX11_exchange fu sh I R l0 l1 l2 = some o) : V K J 235 0 (ent 5 [.ref l0, .int l1, .int l2]) [] sh I R (0, 0) F := by
  unfold fX11_exchange at h0
  obtain ⟨-, h1⟩ := gd h0; clear h0
  have hc0 : ((0 : Nat), (0 : Nat)).1 ≤ 0 ∧ ((0 : Nat), (0 : Nat)).2 ≤ 0 := ⟨Nat.le_refl _, Nat.le_refl _⟩
  show V K J 235 0 [some (.ref l0), some (.int l1), some (.int l2), none, none] [] sh I R (0, 0) F
  refine s_c (v := 0) (pc' := 1) (by decide +kernel) ?_
  refine s_is (i := 3) (pc' := 2) (L' := [some (.ref l0), some (.int l1), some (.int l2), some (.int 0), none]) (by decide +kernel) rfl rfl ?_
  exact (vX11_exchange_l2 hF fu) hc0 h1
set_option maxRecDepth 100000 in
set_option maxHeartbeats 4000000 in
theorem kX11_exchange {K J : Nat → Nat} {fu : Nat} {sh : HS} {I : HI} {R : HR} {F : VF} {mi pc pc' X Y X' Y' : Nat} {L : VL} {rest : List Value} {c : Nat × Nat} {l0 : Nat} {l1 : Int32} {l2 : Int32} {ω : Type} {o : ω} {g : HI → Option ω} (hq : cQ mi pc 235 3 pc' X Y X' Y' = true) (hc : c.1 ≤ X ∧ c.2 ≤ Y) (hr : Nat.ble (catS rest) 8 = true) (h : (fX11_exchange fu sh I R l0 l1 l2).bind g = some o) (kk : ∀ w c', (c'.1 ≤ X' ∧ c'.2 ≤ Y') → g w = some o → V K J mi pc' L (rest) sh w R c' F) : V K J mi pc L (.int l2 :: .int l1 :: .ref l0 :: rest) sh I R c F := by
  obtain ⟨r, h1, h2⟩ := bnd h
  have hT : isT sh l0 9 = true := by unfold fX11_exchange at h1; exact (gd h1).1
  have ml : mL 235 = 5 := by decide +kernel
  have mk : mK 235 = 1 := by decide +kernel
  have mc : mC 235 = 9 := by decide +kernel
  refine s_call (as := [.int l2, .int l1, .ref l0]) (G := fun o' sh' I' R' => o' = .inl none ∧ sh' = sh ∧ I' = r ∧ R' = R) hq hc rfl hr (by rw [ml]; rfl) (Or.inl rfl) (fun _ => Or.inl ⟨by rw [mc]; decide, by rw [mc]; exact isT_iff.mp hT⟩) (fun z => absurd (mk.symm.trans z) (by decide)) (by rw [ml]; exact vX11_exchange (F := fun o' sh' I' R' => o' = .inl none ∧ sh' = sh ∧ I' = r ∧ R' = R) ⟨rfl, rfl, rfl, rfl⟩ h1) ?_ ?_ ?_
  · rintro sh' I' R' c' hc' ⟨g1, rfl, rfl, rfl⟩
    cases g1
    exact kk _ _ hc' h2
  · rintro v' sh' I' R' c' hc' ⟨g1, rfl, rfl, rfl⟩
    cases g1
  · rintro E' sh' I' R' ⟨g1, rfl, rfl, rfl⟩
    cases g1
set_option maxRecDepth 100000 in
set_option maxHeartbeats 4000000 in
def fX11_shift_b64 (fu : Nat) (sh : HS) (R : HR) (k64 : HI → Nat → Int32 → Int32 → Int32 → Option (Int32 × HI)) (I : HI) (l0 : Nat) (l2 : Int32) (l3 : Int32) (l4 : Int32) : Option (Int32 × HI) :=
  if l4 = l2 then
    ((fX11_faultsNow fu sh I R l0).bind fun v6 =>
    some (v6, I))
  else
    ((fX11_exchange fu sh I R l0 l4 (l4 + l3)).bind fun w7 =>
    k64 w7 l0 l2 l3 (l4 + l3))
set_option maxRecDepth 100000 in
set_option maxHeartbeats 4000000 in
theorem vX11_shift_b64 {K J : Nat → Nat} {fu : Nat} {sh : HS} {R : HR} {F : VF} {o : (Int32 × HI)} (hF : F (.inl (some (.int o.1))) sh o.2 R) {k64 : HI → Nat → Int32 → Int32 → Int32 → Option (Int32 × HI)} (hk64 : ∀ {I : HI} {l0 : Nat} {l2 : Int32} {l3 : Int32} {l4 : Int32} {d1 : Option Value} {c : Nat × Nat}, (c.1 ≤ 0 ∧ c.2 ≤ 0) → k64 I l0 l2 l3 l4 = some o → V K J 236 64 [some (.ref l0), d1, some (.int l2), some (.int l3), some (.int l4)] [] sh I R c F) {I : HI} {l0 : Nat} {l2 : Int32} {l3 : Int32} {l4 : Int32} {d1 : Option Value} {c : Nat × Nat} (hc0 : c.1 ≤ 0 ∧ c.2 ≤ 0) (h0 : fX11_shift_b64 fu sh R k64 I l0 l2 l3 l4 = some o) : V K J 236 64 [some (.ref l0), d1, some (.int l2), some (.int l3), some (.int l4)] [] sh I R c F := by
  unfold fX11_shift_b64 at h0
  refine s_il (i := 4) (pc' := 66) (by decide +kernel) rfl ?_
  refine s_il (i := 2) (pc' := 67) (by decide +kernel) rfl ?_
  refine s_if (ins := .if_icmp .eq 22) (t := 89) (pc' := 70) (by decide +kernel) rfl rfl rfl h0 (fun p1 h1 => ?_) (fun p1 h1 => ?_) <;> clear h0
  · refine s_rl (i := 0) (pc' := 90) (by decide +kernel) rfl ?_
    refine kX11_faultsNow (X := 0) (Y := 0) (X' := 0) (Y' := 0) (pc' := 93) (by decide +kernel) hc0 rfl h1 (fun v6 c hc1 h2 => ?_); clear h1 hc0
    have e9 := Option.some.inj h2; subst e9
    exact s_ri (X := 0) (Y := 0) (by decide +kernel) hc1 hF
  · refine s_rl (i := 0) (pc' := 71) (by decide +kernel) rfl ?_
    refine s_il (i := 4) (pc' := 73) (by decide +kernel) rfl ?_
    refine s_il (i := 4) (pc' := 75) (by decide +kernel) rfl ?_
    refine s_il (i := 3) (pc' := 76) (by decide +kernel) rfl ?_
    refine s_a (ins := .iadd) (pc' := 77) (by decide +kernel) rfl ?_
    refine kX11_exchange (X := 0) (Y := 0) (X' := 0) (Y' := 0) (pc' := 80) (by decide +kernel) hc0 rfl h1 (fun w7 c hc1 h2 => ?_); clear h1 hc0
    refine s_il (i := 4) (pc' := 82) (by decide +kernel) rfl ?_
    refine s_il (i := 3) (pc' := 83) (by decide +kernel) rfl ?_
    refine s_a (ins := .iadd) (pc' := 84) (by decide +kernel) rfl ?_
    refine s_is (i := 4) (pc' := 86) (L' := [some (.ref l0), d1, some (.int l2), some (.int l3), some (.int (l4 + l3))]) (by decide +kernel) rfl rfl ?_
    refine s_go (t := 64) (by decide +kernel) ?_
    exact hk64 hc1 h2
set_option maxRecDepth 100000 in
set_option maxHeartbeats 4000000 in
def fX11_shift_l64 (fu : Nat) (sh : HS) (R : HR) : Nat → HI → Nat → Int32 → Int32 → Int32 → Option (Int32 × HI)
  | 0 => fun _ _ _ _ _ => none
  | n + 1 => fX11_shift_b64 fu sh R (fX11_shift_l64 fu sh R n)
set_option maxRecDepth 100000 in
set_option maxHeartbeats 4000000 in
theorem vX11_shift_l64 {K J : Nat → Nat} {fu : Nat} {sh : HS} {R : HR} {F : VF} {o : (Int32 × HI)} (hF : F (.inl (some (.int o.1))) sh o.2 R) : ∀ (n : Nat) {I : HI} {l0 : Nat} {l2 : Int32} {l3 : Int32} {l4 : Int32} {d1 : Option Value} {c : Nat × Nat} (_ : c.1 ≤ 0 ∧ c.2 ≤ 0) (_ : fX11_shift_l64 fu sh R n I l0 l2 l3 l4 = some o), V K J 236 64 [some (.ref l0), d1, some (.int l2), some (.int l3), some (.int l4)] [] sh I R c F := by
  intro n
  induction n with
  | zero => exact fun _ h0 => nomatch h0
  | succ n ih => exact fun hc0 h0 => vX11_shift_b64 hF ih hc0 h0
set_option maxRecDepth 100000 in
set_option maxHeartbeats 4000000 in
def fX11_shift_b60 (fu : Nat) (sh : HS) (R : HR) (I : HI) (l0 : Nat) (l1 : Int32) (l2 : Int32) (s0 : Int32) : Option (Int32 × HI) :=
  (fX11_shift_l64 fu sh R fu) I l0 l2 s0 l1
set_option maxRecDepth 100000 in
set_option maxHeartbeats 4000000 in
theorem vX11_shift_b60 {K J : Nat → Nat} {fu : Nat} {sh : HS} {R : HR} {F : VF} {o : (Int32 × HI)} (hF : F (.inl (some (.int o.1))) sh o.2 R) {I : HI} {l0 : Nat} {l1 : Int32} {l2 : Int32} {s0 : Int32} {d3 d4 : Option Value} {c : Nat × Nat} (hc0 : c.1 ≤ 0 ∧ c.2 ≤ 0) (h0 : fX11_shift_b60 fu sh R I l0 l1 l2 s0 = some o) : V K J 236 60 [some (.ref l0), some (.int l1), some (.int l2), d3, d4] [.int s0] sh I R c F := by
  unfold fX11_shift_b60 at h0
  refine s_is (i := 3) (pc' := 61) (L' := [some (.ref l0), some (.int l1), some (.int l2), some (.int s0), d4]) (by decide +kernel) rfl rfl ?_
  refine s_il (i := 1) (pc' := 62) (by decide +kernel) rfl ?_
  refine s_is (i := 4) (pc' := 64) (L' := [some (.ref l0), some (.int l1), some (.int l2), some (.int s0), some (.int l1)]) (by decide +kernel) rfl rfl ?_
  exact (vX11_shift_l64 hF fu) hc0 h0
set_option maxRecDepth 100000 in
set_option maxHeartbeats 4000000 in
def fX11_shift_b22 (fu : Nat) (sh : HS) (R : HR) (I : HI) (l0 : Nat) (l1 : Int32) (l2 : Int32) (s0 : Int32) (s1 : Nat) : Option (Int32 × HI) :=
  oH (fX11_isWrong fu sh I R s1 s0) fun v2 w2 =>
  if v2 = 0 then
    ((fX11_sceneOf fu sh w2 R l0 l1).bind fun v3 =>
    (fX11_sceneOf fu sh w2 R l0 l2).bind fun v4 =>
    if v3 = v4 then
      ((fX11_remember fu sh w2 R l0).bind fun w5 =>
      if l2 ≤ l1 then
        ((fX11_shift_b60 fu sh R) w5 l0 l1 l2 (-1))
      else
        ((fX11_shift_b60 fu sh R) w5 l0 l1 l2 1))
    else
      (some ((-2), w2)))
  else
    (some (0, w2))
set_option maxRecDepth 100000 in
set_option maxHeartbeats 4000000 in
theorem vX11_shift_b22 {K J : Nat → Nat} {fu : Nat} {sh : HS} {R : HR} {F : VF} {o : (Int32 × HI)} (hF : F (.inl (some (.int o.1))) sh o.2 R) {I : HI} {l0 : Nat} {l1 : Int32} {l2 : Int32} {s0 : Int32} {s1 : Nat} {d3 d4 : Option Value} {c : Nat × Nat} (hc0 : c.1 ≤ 0 ∧ c.2 ≤ 0) (h0 : fX11_shift_b22 fu sh R I l0 l1 l2 s0 s1 = some o) : V K J 236 22 [some (.ref l0), some (.int l1), some (.int l2), d3, d4] [.int s0, .ref s1] sh I R c F := by
  unfold fX11_shift_b22 at h0
  refine kX11_isWrong (X := 0) (Y := 0) (X' := 0) (Y' := 0) (pc' := 25) (by decide +kernel) hc0 rfl h0 (fun v2 w2 c hc1 h1 => ?_); clear h0 hc0
  refine s_if (ins := .ifCond .eq 5) (t := 30) (pc' := 28) (by decide +kernel) rfl rfl rfl h1 (fun p2 h2 => ?_) (fun p2 h2 => ?_) <;> clear h1
  · refine s_rl (i := 0) (pc' := 31) (by decide +kernel) rfl ?_
    refine s_il (i := 1) (pc' := 32) (by decide +kernel) rfl ?_
    refine kX11_sceneOf (X := 0) (Y := 0) (X' := 0) (Y' := 0) (pc' := 35) (by decide +kernel) hc1 rfl h2 (fun v3 c hc2 h3 => ?_); clear h2 hc1
    refine s_rl (i := 0) (pc' := 36) (by decide +kernel) rfl ?_
    refine s_il (i := 2) (pc' := 37) (by decide +kernel) rfl ?_
    refine kX11_sceneOf (X := 0) (Y := 0) (X' := 0) (Y' := 0) (pc' := 40) (by decide +kernel) hc2 rfl h3 (fun v4 c hc3 h4 => ?_); clear h3 hc2
    refine s_if (ins := .if_icmp .eq 6) (t := 46) (pc' := 43) (by decide +kernel) rfl rfl rfl h4 (fun p5 h5 => ?_) (fun p5 h5 => ?_) <;> clear h4
    · refine s_rl (i := 0) (pc' := 47) (by decide +kernel) rfl ?_
      refine kX11_remember (X := 0) (Y := 0) (X' := 0) (Y' := 0) (pc' := 50) (by decide +kernel) hc3 rfl h5 (fun w5 c hc4 h6 => ?_); clear h5 hc3
      refine s_il (i := 1) (pc' := 51) (by decide +kernel) rfl ?_
      refine s_il (i := 2) (pc' := 52) (by decide +kernel) rfl ?_
      refine s_if (ins := .if_icmp .ge 7) (t := 59) (pc' := 55) (by decide +kernel) rfl rfl rfl h6 (fun p7 h7 => ?_) (fun p7 h7 => ?_) <;> clear h6
      · refine s_c (v := (-1)) (pc' := 60) (by decide +kernel) ?_
        exact (vX11_shift_b60 hF) hc4 h7
      · refine s_c (v := 1) (pc' := 56) (by decide +kernel) ?_
        refine s_go (t := 60) (by decide +kernel) ?_
        exact (vX11_shift_b60 hF) hc4 h7
    · refine s_c (v := (-2)) (pc' := 45) (by decide +kernel) ?_
      have e9 := Option.some.inj h5; subst e9
      exact s_ri (X := 0) (Y := 0) (by decide +kernel) hc3 hF
  · refine s_c (v := 0) (pc' := 29) (by decide +kernel) ?_
    have e9 := Option.some.inj h2; subst e9
    exact s_ri (X := 0) (Y := 0) (by decide +kernel) hc1 hF
set_option maxRecDepth 100000 in
set_option maxHeartbeats 4000000 in
def fX11_shift_b21 (fu : Nat) (sh : HS) (R : HR) (I : HI) (l0 : Nat) (l1 : Int32) (l2 : Int32) (s0 : Nat) : Option (Int32 × HI) :=
  (fX11_shift_b22 fu sh R) I l0 l1 l2 0 s0
set_option maxRecDepth 100000 in
set_option maxHeartbeats 4000000 in
theorem vX11_shift_b21 {K J : Nat → Nat} {fu : Nat} {sh : HS} {R : HR} {F : VF} {o : (Int32 × HI)} (hF : F (.inl (some (.int o.1))) sh o.2 R) {I : HI} {l0 : Nat} {l1 : Int32} {l2 : Int32} {s0 : Nat} {d3 d4 : Option Value} {c : Nat × Nat} (hc0 : c.1 ≤ 0 ∧ c.2 ≤ 0) (h0 : fX11_shift_b21 fu sh R I l0 l1 l2 s0 = some o) : V K J 236 21 [some (.ref l0), some (.int l1), some (.int l2), d3, d4] [.ref s0] sh I R c F := by
  unfold fX11_shift_b21 at h0
  refine s_c (v := 0) (pc' := 22) (by decide +kernel) ?_
  exact (vX11_shift_b22 hF) hc0 h0
set_option maxRecDepth 100000 in
set_option maxHeartbeats 4000000 in
def fX11_shift (fu : Nat) (sh : HS) (I : HI) (R : HR) (l0 : Nat) (l1 : Int32) (l2 : Int32) : Option (Int32 × HI) :=
  if isT sh l0 9 = true then
    ((fX11_isShot fu sh I R l0 l1).bind fun v1 =>
    if v1 = 0 then
      ((fX11_shift_b21 fu sh R) I l0 l1 l2 l0)
    else
      ((fX11_isShot fu sh I R l0 l2).bind fun v8 =>
      if v8 = 0 then
        ((fX11_shift_b21 fu sh R) I l0 l1 l2 l0)
      else
        ((fX11_shift_b22 fu sh R) I l0 l1 l2 1 l0)))
  else none
set_option maxRecDepth 100000 in
set_option maxHeartbeats 4000000 in
theorem vX11_shift {K J : Nat → Nat} {fu : Nat} {sh : HS} {I : HI} {R : HR} {F : VF} {o : (Int32 × HI)} (hF : F (.inl (some (.int o.1))) sh o.2 R) {l0 : Nat} {l1 : Int32} {l2 : Int32} (h0 : fX11_shift fu sh I R l0 l1 l2 = some o) : V K J 236 0 (ent 5 [.ref l0, .int l1, .int l2]) [] sh I R (0, 0) F := by
  unfold fX11_shift at h0
  obtain ⟨-, h1⟩ := gd h0; clear h0
  have hc0 : ((0 : Nat), (0 : Nat)).1 ≤ 0 ∧ ((0 : Nat), (0 : Nat)).2 ≤ 0 := ⟨Nat.le_refl _, Nat.le_refl _⟩
  show V K J 236 0 [some (.ref l0), some (.int l1), some (.int l2), none, none] [] sh I R (0, 0) F
  refine s_rl (i := 0) (pc' := 1) (by decide +kernel) rfl ?_
  refine s_rl (i := 0) (pc' := 2) (by decide +kernel) rfl ?_
  refine s_il (i := 1) (pc' := 3) (by decide +kernel) rfl ?_
  refine kX11_isShot (X := 0) (Y := 0) (X' := 0) (Y' := 0) (pc' := 6) (by decide +kernel) hc0 rfl h1 (fun v1 c hc1 h2 => ?_); clear h1 hc0
  refine s_if (ins := .ifCond .eq 15) (t := 21) (pc' := 9) (by decide +kernel) rfl rfl rfl h2 (fun p3 h3 => ?_) (fun p3 h3 => ?_) <;> clear h2
  · exact (vX11_shift_b21 hF) hc1 h3
  · refine s_rl (i := 0) (pc' := 10) (by decide +kernel) rfl ?_
    refine s_il (i := 2) (pc' := 11) (by decide +kernel) rfl ?_
    refine kX11_isShot (X := 0) (Y := 0) (X' := 0) (Y' := 0) (pc' := 14) (by decide +kernel) hc1 rfl h3 (fun v8 c hc2 h4 => ?_); clear h3 hc1
    refine s_if (ins := .ifCond .eq 7) (t := 21) (pc' := 17) (by decide +kernel) rfl rfl rfl h4 (fun p5 h5 => ?_) (fun p5 h5 => ?_) <;> clear h4
    · exact (vX11_shift_b21 hF) hc2 h5
    · refine s_c (v := 1) (pc' := 18) (by decide +kernel) ?_
      refine s_go (t := 22) (by decide +kernel) ?_
      exact (vX11_shift_b22 hF) hc2 h5
set_option maxRecDepth 100000 in
set_option maxHeartbeats 4000000 in
theorem kX11_shift {K J : Nat → Nat} {fu : Nat} {sh : HS} {I : HI} {R : HR} {F : VF} {mi pc pc' X Y X' Y' : Nat} {L : VL} {rest : List Value} {c : Nat × Nat} {l0 : Nat} {l1 : Int32} {l2 : Int32} {ω : Type} {o : ω} {g : Int32 → HI → Option ω} (hq : cQ mi pc 236 3 pc' X Y X' Y' = true) (hc : c.1 ≤ X ∧ c.2 ≤ Y) (hr : Nat.ble (catS rest) 8 = true) (h : oH (fX11_shift fu sh I R l0 l1 l2) g = some o) (kk : ∀ v w c', (c'.1 ≤ X' ∧ c'.2 ≤ Y') → g v w = some o → V K J mi pc' L ((.int v) :: rest) sh w R c' F) : V K J mi pc L (.int l2 :: .int l1 :: .ref l0 :: rest) sh I R c F := by
  obtain ⟨r, h1, h2⟩ := bnd h
  have hT : isT sh l0 9 = true := by unfold fX11_shift at h1; exact (gd h1).1
  have ml : mL 236 = 5 := by decide +kernel
  have mk : mK 236 = 1 := by decide +kernel
  have mc : mC 236 = 9 := by decide +kernel
  obtain ⟨v, w⟩ := r
  refine s_call (as := [.int l2, .int l1, .ref l0]) (G := fun o' sh' I' R' => o' = .inl (some (.int v)) ∧ sh' = sh ∧ I' = w ∧ R' = R) hq hc rfl hr (by rw [ml]; rfl) (Or.inl rfl) (fun _ => Or.inl ⟨by rw [mc]; decide, by rw [mc]; exact isT_iff.mp hT⟩) (fun z => absurd (mk.symm.trans z) (by decide)) (by rw [ml]; exact vX11_shift (F := fun o' sh' I' R' => o' = .inl (some (.int v)) ∧ sh' = sh ∧ I' = w ∧ R' = R) ⟨rfl, rfl, rfl, rfl⟩ h1) ?_ ?_ ?_
  · rintro sh' I' R' c' hc' ⟨g1, rfl, rfl, rfl⟩
    cases g1
  · rintro v' sh' I' R' c' hc' ⟨g1, rfl, rfl, rfl⟩
    cases g1
    exact kk _ _ _ hc' h2
  · rintro E' sh' I' R' ⟨g1, rfl, rfl, rfl⟩
    cases g1
set_option maxRecDepth 100000 in
set_option maxHeartbeats 4000000 in
def fX11_drop_b36 (fu : Nat) (sh : HS) (R : HR) (k36 : HI → Nat → Int32 → Option (Int32 × HI)) (I : HI) (l0 : Nat) (l2 : Int32) : Option (Int32 × HI) :=
  (oR sh R l0 9 0).bind fun v7 =>
  (oA sh I v7 4).bind fun v8 =>
  if (47 + (6 * v8)) ≤ l2 then
    ((oR sh R l0 9 0).bind fun v9 =>
    (oA sh I v9 4).bind fun v10 =>
    some (v10, I))
  else
    ((oR sh R l0 9 0).bind fun v11 =>
    (oR sh R l0 9 0).bind fun v12 =>
    (oA sh I v12 (l2 + 6)).bind fun v13 =>
    (oS sh I v11 l2 v13).bind fun v14 =>
    k36 v14 l0 (l2 + 1))
set_option maxRecDepth 100000 in
set_option maxHeartbeats 4000000 in
theorem vX11_drop_b36 {K J : Nat → Nat} {fu : Nat} {sh : HS} {R : HR} {F : VF} {o : (Int32 × HI)} (hF : F (.inl (some (.int o.1))) sh o.2 R) {k36 : HI → Nat → Int32 → Option (Int32 × HI)} (hk36 : ∀ {I : HI} {l0 : Nat} {l2 : Int32} {d1 : Option Value} {c : Nat × Nat}, (c.1 ≤ 0 ∧ c.2 ≤ 0) → k36 I l0 l2 = some o → V K J 237 36 [some (.ref l0), d1, some (.int l2)] [] sh I R c F) {I : HI} {l0 : Nat} {l2 : Int32} {d1 : Option Value} {c : Nat × Nat} (hc0 : c.1 ≤ 0 ∧ c.2 ≤ 0) (h0 : fX11_drop_b36 fu sh R k36 I l0 l2 = some o) : V K J 237 36 [some (.ref l0), d1, some (.int l2)] [] sh I R c F := by
  unfold fX11_drop_b36 at h0
  refine s_il (i := 2) (pc' := 37) (by decide +kernel) rfl ?_
  refine s_c (v := 47) (pc' := 39) (by decide +kernel) ?_
  refine s_c (v := 6) (pc' := 41) (by decide +kernel) ?_
  refine s_rl (i := 0) (pc' := 42) (by decide +kernel) rfl ?_
  refine s_gR (t := 9) (j := 0) (pc' := 45) (by decide +kernel) h0 (fun v7 h1 => ?_); clear h0
  refine s_c (v := 4) (pc' := 46) (by decide +kernel) ?_
  refine s_al (pc' := 47) (by decide +kernel) h1 (fun v8 h2 => ?_); clear h1
  refine s_a (ins := .imul) (pc' := 48) (by decide +kernel) rfl ?_
  refine s_a (ins := .iadd) (pc' := 49) (by decide +kernel) rfl ?_
  refine s_if (ins := .if_icmp .ge 24) (t := 73) (pc' := 52) (by decide +kernel) rfl rfl rfl h2 (fun p3 h3 => ?_) (fun p3 h3 => ?_) <;> clear h2
  · refine s_rl (i := 0) (pc' := 74) (by decide +kernel) rfl ?_
    refine s_gR (t := 9) (j := 0) (pc' := 77) (by decide +kernel) h3 (fun v9 h4 => ?_); clear h3
    refine s_c (v := 4) (pc' := 78) (by decide +kernel) ?_
    refine s_al (pc' := 79) (by decide +kernel) h4 (fun v10 h5 => ?_); clear h4
    have e9 := Option.some.inj h5; subst e9
    exact s_ri (X := 0) (Y := 0) (by decide +kernel) hc0 hF
  · refine s_rl (i := 0) (pc' := 53) (by decide +kernel) rfl ?_
    refine s_gR (t := 9) (j := 0) (pc' := 56) (by decide +kernel) h3 (fun v11 h4 => ?_); clear h3
    refine s_il (i := 2) (pc' := 57) (by decide +kernel) rfl ?_
    refine s_rl (i := 0) (pc' := 58) (by decide +kernel) rfl ?_
    refine s_gR (t := 9) (j := 0) (pc' := 61) (by decide +kernel) h4 (fun v12 h5 => ?_); clear h4
    refine s_il (i := 2) (pc' := 62) (by decide +kernel) rfl ?_
    refine s_c (v := 6) (pc' := 64) (by decide +kernel) ?_
    refine s_a (ins := .iadd) (pc' := 65) (by decide +kernel) rfl ?_
    refine s_al (pc' := 66) (by decide +kernel) h5 (fun v13 h6 => ?_); clear h5
    refine s_as (pc' := 67) (by decide +kernel) h6 (fun v14 h7 => ?_); clear h6
    refine s_inc (i := 2) (z := 1) (pc' := 70) (L' := [some (.ref l0), d1, some (.int (l2 + 1))]) (by decide +kernel) rfl rfl rfl ?_
    refine s_go (t := 36) (by decide +kernel) ?_
    exact hk36 hc0 h7
set_option maxRecDepth 100000 in
set_option maxHeartbeats 4000000 in
def fX11_drop_l36 (fu : Nat) (sh : HS) (R : HR) : Nat → HI → Nat → Int32 → Option (Int32 × HI)
  | 0 => fun _ _ _ => none
  | n + 1 => fX11_drop_b36 fu sh R (fX11_drop_l36 fu sh R n)
set_option maxRecDepth 100000 in
set_option maxHeartbeats 4000000 in
theorem vX11_drop_l36 {K J : Nat → Nat} {fu : Nat} {sh : HS} {R : HR} {F : VF} {o : (Int32 × HI)} (hF : F (.inl (some (.int o.1))) sh o.2 R) : ∀ (n : Nat) {I : HI} {l0 : Nat} {l2 : Int32} {d1 : Option Value} {c : Nat × Nat} (_ : c.1 ≤ 0 ∧ c.2 ≤ 0) (_ : fX11_drop_l36 fu sh R n I l0 l2 = some o), V K J 237 36 [some (.ref l0), d1, some (.int l2)] [] sh I R c F := by
  intro n
  induction n with
  | zero => exact fun _ h0 => nomatch h0
  | succ n ih => exact fun hc0 h0 => vX11_drop_b36 hF ih hc0 h0
set_option maxRecDepth 100000 in
set_option maxHeartbeats 4000000 in
def fX11_drop (fu : Nat) (sh : HS) (I : HI) (R : HR) (l0 : Nat) (l1 : Int32) : Option (Int32 × HI) :=
  if isT sh l0 9 = true then
    ((fX11_isShot fu sh I R l0 l1).bind fun v1 =>
    oH (fX11_isWrong fu sh I R l0 v1) fun v2 w2 =>
    if v2 = 0 then
      ((fX11_remember fu sh w2 R l0).bind fun w3 =>
      (oR sh R l0 9 0).bind fun v4 =>
      (oA sh w3 v4 4).bind fun v5 =>
      (oS sh w3 v4 4 (v5 - 1)).bind fun v6 =>
      (fX11_drop_l36 fu sh R fu) v6 l0 (47 + (6 * l1)))
    else
      (some (0, w2)))
  else none
set_option maxRecDepth 100000 in
set_option maxHeartbeats 4000000 in
theorem vX11_drop {K J : Nat → Nat} {fu : Nat} {sh : HS} {I : HI} {R : HR} {F : VF} {o : (Int32 × HI)} (hF : F (.inl (some (.int o.1))) sh o.2 R) {l0 : Nat} {l1 : Int32} (h0 : fX11_drop fu sh I R l0 l1 = some o) : V K J 237 0 (ent 3 [.ref l0, .int l1]) [] sh I R (0, 0) F := by
  unfold fX11_drop at h0
  obtain ⟨-, h1⟩ := gd h0; clear h0
  have hc0 : ((0 : Nat), (0 : Nat)).1 ≤ 0 ∧ ((0 : Nat), (0 : Nat)).2 ≤ 0 := ⟨Nat.le_refl _, Nat.le_refl _⟩
  show V K J 237 0 [some (.ref l0), some (.int l1), none] [] sh I R (0, 0) F
  refine s_rl (i := 0) (pc' := 1) (by decide +kernel) rfl ?_
  refine s_rl (i := 0) (pc' := 2) (by decide +kernel) rfl ?_
  refine s_il (i := 1) (pc' := 3) (by decide +kernel) rfl ?_
  refine kX11_isShot (X := 0) (Y := 0) (X' := 0) (Y' := 0) (pc' := 6) (by decide +kernel) hc0 rfl h1 (fun v1 c hc1 h2 => ?_); clear h1 hc0
  refine kX11_isWrong (X := 0) (Y := 0) (X' := 0) (Y' := 0) (pc' := 9) (by decide +kernel) hc1 rfl h2 (fun v2 w2 c hc2 h3 => ?_); clear h2 hc1
  refine s_if (ins := .ifCond .eq 5) (t := 14) (pc' := 12) (by decide +kernel) rfl rfl rfl h3 (fun p4 h4 => ?_) (fun p4 h4 => ?_) <;> clear h3
  · refine s_rl (i := 0) (pc' := 15) (by decide +kernel) rfl ?_
    refine kX11_remember (X := 0) (Y := 0) (X' := 0) (Y' := 0) (pc' := 18) (by decide +kernel) hc2 rfl h4 (fun w3 c hc3 h5 => ?_); clear h4 hc2
    refine s_rl (i := 0) (pc' := 19) (by decide +kernel) rfl ?_
    refine s_gR (t := 9) (j := 0) (pc' := 22) (by decide +kernel) h5 (fun v4 h6 => ?_); clear h5
    refine s_c (v := 4) (pc' := 23) (by decide +kernel) ?_
    refine s_a (ins := .dup2) (pc' := 24) (by decide +kernel) rfl ?_
    refine s_al (pc' := 25) (by decide +kernel) h6 (fun v5 h7 => ?_); clear h6
    refine s_c (v := 1) (pc' := 26) (by decide +kernel) ?_
    refine s_a (ins := .isub) (pc' := 27) (by decide +kernel) rfl ?_
    refine s_as (pc' := 28) (by decide +kernel) h7 (fun v6 h8 => ?_); clear h7
    refine s_c (v := 47) (pc' := 30) (by decide +kernel) ?_
    refine s_c (v := 6) (pc' := 32) (by decide +kernel) ?_
    refine s_il (i := 1) (pc' := 33) (by decide +kernel) rfl ?_
    refine s_a (ins := .imul) (pc' := 34) (by decide +kernel) rfl ?_
    refine s_a (ins := .iadd) (pc' := 35) (by decide +kernel) rfl ?_
    refine s_is (i := 2) (pc' := 36) (L' := [some (.ref l0), some (.int l1), some (.int (47 + (6 * l1)))]) (by decide +kernel) rfl rfl ?_
    exact (vX11_drop_l36 hF fu) hc3 h8
  · refine s_c (v := 0) (pc' := 13) (by decide +kernel) ?_
    have e9 := Option.some.inj h4; subst e9
    exact s_ri (X := 0) (Y := 0) (by decide +kernel) hc2 hF
set_option maxRecDepth 100000 in
set_option maxHeartbeats 4000000 in
theorem kX11_drop {K J : Nat → Nat} {fu : Nat} {sh : HS} {I : HI} {R : HR} {F : VF} {mi pc pc' X Y X' Y' : Nat} {L : VL} {rest : List Value} {c : Nat × Nat} {l0 : Nat} {l1 : Int32} {ω : Type} {o : ω} {g : Int32 → HI → Option ω} (hq : cQ mi pc 237 2 pc' X Y X' Y' = true) (hc : c.1 ≤ X ∧ c.2 ≤ Y) (hr : Nat.ble (catS rest) 8 = true) (h : oH (fX11_drop fu sh I R l0 l1) g = some o) (kk : ∀ v w c', (c'.1 ≤ X' ∧ c'.2 ≤ Y') → g v w = some o → V K J mi pc' L ((.int v) :: rest) sh w R c' F) : V K J mi pc L (.int l1 :: .ref l0 :: rest) sh I R c F := by
  obtain ⟨r, h1, h2⟩ := bnd h
  have hT : isT sh l0 9 = true := by unfold fX11_drop at h1; exact (gd h1).1
  have ml : mL 237 = 3 := by decide +kernel
  have mk : mK 237 = 1 := by decide +kernel
  have mc : mC 237 = 9 := by decide +kernel
  obtain ⟨v, w⟩ := r
  refine s_call (as := [.int l1, .ref l0]) (G := fun o' sh' I' R' => o' = .inl (some (.int v)) ∧ sh' = sh ∧ I' = w ∧ R' = R) hq hc rfl hr (by rw [ml]; rfl) (Or.inl rfl) (fun _ => Or.inl ⟨by rw [mc]; decide, by rw [mc]; exact isT_iff.mp hT⟩) (fun z => absurd (mk.symm.trans z) (by decide)) (by rw [ml]; exact vX11_drop (F := fun o' sh' I' R' => o' = .inl (some (.int v)) ∧ sh' = sh ∧ I' = w ∧ R' = R) ⟨rfl, rfl, rfl, rfl⟩ h1) ?_ ?_ ?_
  · rintro sh' I' R' c' hc' ⟨g1, rfl, rfl, rfl⟩
    cases g1
  · rintro v' sh' I' R' c' hc' ⟨g1, rfl, rfl, rfl⟩
    cases g1
    exact kk _ _ _ hc' h2
  · rintro E' sh' I' R' ⟨g1, rfl, rfl, rfl⟩
    cases g1
set_option maxRecDepth 100000 in
set_option maxHeartbeats 4000000 in
def fX11_flippedX (fu : Nat) (sh : HS) (I : HI) (R : HR) (l0 : Nat) (l1 : Int32) : Option Int32 :=
  if isT sh l0 9 = true then
    ((fX11_subjectX fu sh I R l0 l1).bind fun v1 =>
    (fX11_partnerX fu sh I R l0 l1).bind fun v2 =>
    (fX11_get fu sh I R l0 l1 1).bind fun v3 =>
    some ((v1 + v2) - v3))
  else none
set_option maxRecDepth 100000 in
set_option maxHeartbeats 4000000 in
theorem vX11_flippedX {K J : Nat → Nat} {fu : Nat} {sh : HS} {I : HI} {R : HR} {F : VF} {o : Int32} (hF : F (.inl (some (.int o))) sh I R) {l0 : Nat} {l1 : Int32} (h0 : fX11_flippedX fu sh I R l0 l1 = some o) : V K J 238 0 (ent 2 [.ref l0, .int l1]) [] sh I R (0, 0) F := by
  unfold fX11_flippedX at h0
  obtain ⟨-, h1⟩ := gd h0; clear h0
  have hc0 : ((0 : Nat), (0 : Nat)).1 ≤ 0 ∧ ((0 : Nat), (0 : Nat)).2 ≤ 0 := ⟨Nat.le_refl _, Nat.le_refl _⟩
  show V K J 238 0 [some (.ref l0), some (.int l1)] [] sh I R (0, 0) F
  refine s_rl (i := 0) (pc' := 1) (by decide +kernel) rfl ?_
  refine s_il (i := 1) (pc' := 2) (by decide +kernel) rfl ?_
  refine kX11_subjectX (X := 0) (Y := 0) (X' := 0) (Y' := 0) (pc' := 5) (by decide +kernel) hc0 rfl h1 (fun v1 c hc1 h2 => ?_); clear h1 hc0
  refine s_rl (i := 0) (pc' := 6) (by decide +kernel) rfl ?_
  refine s_il (i := 1) (pc' := 7) (by decide +kernel) rfl ?_
  refine kX11_partnerX (X := 0) (Y := 0) (X' := 0) (Y' := 0) (pc' := 10) (by decide +kernel) hc1 rfl h2 (fun v2 c hc2 h3 => ?_); clear h2 hc1
  refine s_a (ins := .iadd) (pc' := 11) (by decide +kernel) rfl ?_
  refine s_rl (i := 0) (pc' := 12) (by decide +kernel) rfl ?_
  refine s_il (i := 1) (pc' := 13) (by decide +kernel) rfl ?_
  refine s_c (v := 1) (pc' := 14) (by decide +kernel) ?_
  refine kX11_get (X := 0) (Y := 0) (X' := 0) (Y' := 0) (pc' := 17) (by decide +kernel) hc2 rfl h3 (fun v3 c hc3 h4 => ?_); clear h3 hc2
  refine s_a (ins := .isub) (pc' := 18) (by decide +kernel) rfl ?_
  have e9 := Option.some.inj h4; subst e9
  exact s_ri (X := 0) (Y := 0) (by decide +kernel) hc3 hF
set_option maxRecDepth 100000 in
set_option maxHeartbeats 4000000 in
theorem kX11_flippedX {K J : Nat → Nat} {fu : Nat} {sh : HS} {I : HI} {R : HR} {F : VF} {mi pc pc' X Y X' Y' : Nat} {L : VL} {rest : List Value} {c : Nat × Nat} {l0 : Nat} {l1 : Int32} {ω : Type} {o : ω} {g : Int32 → Option ω} (hq : cQ mi pc 238 2 pc' X Y X' Y' = true) (hc : c.1 ≤ X ∧ c.2 ≤ Y) (hr : Nat.ble (catS rest) 8 = true) (h : (fX11_flippedX fu sh I R l0 l1).bind g = some o) (kk : ∀ v c', (c'.1 ≤ X' ∧ c'.2 ≤ Y') → g v = some o → V K J mi pc' L ((.int v) :: rest) sh I R c' F) : V K J mi pc L (.int l1 :: .ref l0 :: rest) sh I R c F := by
  obtain ⟨r, h1, h2⟩ := bnd h
  have hT : isT sh l0 9 = true := by unfold fX11_flippedX at h1; exact (gd h1).1
  have ml : mL 238 = 2 := by decide +kernel
  have mk : mK 238 = 1 := by decide +kernel
  have mc : mC 238 = 9 := by decide +kernel
  refine s_call (as := [.int l1, .ref l0]) (G := fun o' sh' I' R' => o' = .inl (some (.int r)) ∧ sh' = sh ∧ I' = I ∧ R' = R) hq hc rfl hr (by rw [ml]; rfl) (Or.inl rfl) (fun _ => Or.inl ⟨by rw [mc]; decide, by rw [mc]; exact isT_iff.mp hT⟩) (fun z => absurd (mk.symm.trans z) (by decide)) (by rw [ml]; exact vX11_flippedX (F := fun o' sh' I' R' => o' = .inl (some (.int r)) ∧ sh' = sh ∧ I' = I ∧ R' = R) ⟨rfl, rfl, rfl, rfl⟩ h1) ?_ ?_ ?_
  · rintro sh' I' R' c' hc' ⟨g1, rfl, rfl, rfl⟩
    cases g1
  · rintro v' sh' I' R' c' hc' ⟨g1, rfl, rfl, rfl⟩
    cases g1
    exact kk _ _ hc' h2
  · rintro E' sh' I' R' ⟨g1, rfl, rfl, rfl⟩
    cases g1
set_option maxRecDepth 100000 in
set_option maxHeartbeats 4000000 in
def fX11_flippedY (fu : Nat) (sh : HS) (I : HI) (R : HR) (l0 : Nat) (l1 : Int32) : Option Int32 :=
  if isT sh l0 9 = true then
    ((fX11_subjectY fu sh I R l0 l1).bind fun v1 =>
    (fX11_partnerY fu sh I R l0 l1).bind fun v2 =>
    (fX11_get fu sh I R l0 l1 2).bind fun v3 =>
    some ((v1 + v2) - v3))
  else none
set_option maxRecDepth 100000 in
set_option maxHeartbeats 4000000 in
theorem vX11_flippedY {K J : Nat → Nat} {fu : Nat} {sh : HS} {I : HI} {R : HR} {F : VF} {o : Int32} (hF : F (.inl (some (.int o))) sh I R) {l0 : Nat} {l1 : Int32} (h0 : fX11_flippedY fu sh I R l0 l1 = some o) : V K J 239 0 (ent 2 [.ref l0, .int l1]) [] sh I R (0, 0) F := by
  unfold fX11_flippedY at h0
  obtain ⟨-, h1⟩ := gd h0; clear h0
  have hc0 : ((0 : Nat), (0 : Nat)).1 ≤ 0 ∧ ((0 : Nat), (0 : Nat)).2 ≤ 0 := ⟨Nat.le_refl _, Nat.le_refl _⟩
  show V K J 239 0 [some (.ref l0), some (.int l1)] [] sh I R (0, 0) F
  refine s_rl (i := 0) (pc' := 1) (by decide +kernel) rfl ?_
  refine s_il (i := 1) (pc' := 2) (by decide +kernel) rfl ?_
  refine kX11_subjectY (X := 0) (Y := 0) (X' := 0) (Y' := 0) (pc' := 5) (by decide +kernel) hc0 rfl h1 (fun v1 c hc1 h2 => ?_); clear h1 hc0
  refine s_rl (i := 0) (pc' := 6) (by decide +kernel) rfl ?_
  refine s_il (i := 1) (pc' := 7) (by decide +kernel) rfl ?_
  refine kX11_partnerY (X := 0) (Y := 0) (X' := 0) (Y' := 0) (pc' := 10) (by decide +kernel) hc1 rfl h2 (fun v2 c hc2 h3 => ?_); clear h2 hc1
  refine s_a (ins := .iadd) (pc' := 11) (by decide +kernel) rfl ?_
  refine s_rl (i := 0) (pc' := 12) (by decide +kernel) rfl ?_
  refine s_il (i := 1) (pc' := 13) (by decide +kernel) rfl ?_
  refine s_c (v := 2) (pc' := 14) (by decide +kernel) ?_
  refine kX11_get (X := 0) (Y := 0) (X' := 0) (Y' := 0) (pc' := 17) (by decide +kernel) hc2 rfl h3 (fun v3 c hc3 h4 => ?_); clear h3 hc2
  refine s_a (ins := .isub) (pc' := 18) (by decide +kernel) rfl ?_
  have e9 := Option.some.inj h4; subst e9
  exact s_ri (X := 0) (Y := 0) (by decide +kernel) hc3 hF
set_option maxRecDepth 100000 in
set_option maxHeartbeats 4000000 in
theorem kX11_flippedY {K J : Nat → Nat} {fu : Nat} {sh : HS} {I : HI} {R : HR} {F : VF} {mi pc pc' X Y X' Y' : Nat} {L : VL} {rest : List Value} {c : Nat × Nat} {l0 : Nat} {l1 : Int32} {ω : Type} {o : ω} {g : Int32 → Option ω} (hq : cQ mi pc 239 2 pc' X Y X' Y' = true) (hc : c.1 ≤ X ∧ c.2 ≤ Y) (hr : Nat.ble (catS rest) 8 = true) (h : (fX11_flippedY fu sh I R l0 l1).bind g = some o) (kk : ∀ v c', (c'.1 ≤ X' ∧ c'.2 ≤ Y') → g v = some o → V K J mi pc' L ((.int v) :: rest) sh I R c' F) : V K J mi pc L (.int l1 :: .ref l0 :: rest) sh I R c F := by
  obtain ⟨r, h1, h2⟩ := bnd h
  have hT : isT sh l0 9 = true := by unfold fX11_flippedY at h1; exact (gd h1).1
  have ml : mL 239 = 2 := by decide +kernel
  have mk : mK 239 = 1 := by decide +kernel
  have mc : mC 239 = 9 := by decide +kernel
  refine s_call (as := [.int l1, .ref l0]) (G := fun o' sh' I' R' => o' = .inl (some (.int r)) ∧ sh' = sh ∧ I' = I ∧ R' = R) hq hc rfl hr (by rw [ml]; rfl) (Or.inl rfl) (fun _ => Or.inl ⟨by rw [mc]; decide, by rw [mc]; exact isT_iff.mp hT⟩) (fun z => absurd (mk.symm.trans z) (by decide)) (by rw [ml]; exact vX11_flippedY (F := fun o' sh' I' R' => o' = .inl (some (.int r)) ∧ sh' = sh ∧ I' = I ∧ R' = R) ⟨rfl, rfl, rfl, rfl⟩ h1) ?_ ?_ ?_
  · rintro sh' I' R' c' hc' ⟨g1, rfl, rfl, rfl⟩
    cases g1
  · rintro v' sh' I' R' c' hc' ⟨g1, rfl, rfl, rfl⟩
    cases g1
    exact kk _ _ hc' h2
  · rintro E' sh' I' R' ⟨g1, rfl, rfl, rfl⟩
    cases g1
set_option maxRecDepth 100000 in
set_option maxHeartbeats 4000000 in
def fX11_noFlip_b60 (fu : Nat) (sh : HS) (I : HI) (R : HR) (s0 : Int32) : Option Int32 :=
  some s0
set_option maxRecDepth 100000 in
set_option maxHeartbeats 4000000 in
theorem vX11_noFlip_b60 {K J : Nat → Nat} {fu : Nat} {sh : HS} {I : HI} {R : HR} {F : VF} {o : Int32} (hF : F (.inl (some (.int o))) sh I R) {s0 : Int32} {d0 d1 : Option Value} {c : Nat × Nat} (hc0 : c.1 ≤ 0 ∧ c.2 ≤ 0) (h0 : fX11_noFlip_b60 fu sh I R s0 = some o) : V K J 240 60 [d0, d1] [.int s0] sh I R c F := by
  unfold fX11_noFlip_b60 at h0
  have e9 := Option.some.inj h0; subst e9
  exact s_ri (X := 0) (Y := 0) (by decide +kernel) hc0 hF
set_option maxRecDepth 100000 in
set_option maxHeartbeats 4000000 in
def fX11_noFlip (fu : Nat) (sh : HS) (I : HI) (R : HR) (l0 : Nat) (l1 : Int32) : Option Int32 :=
  if isT sh l0 9 = true then
    ((fX11_hasPartner fu sh I R l0 l1).bind fun v1 =>
    if v1 = 0 then
      (some (-2))
    else
      ((fX11_flippedX fu sh I R l0 l1).bind fun v2 =>
      (fX11_flippedY fu sh I R l0 l1).bind fun v3 =>
      (fX11_isPlace fu sh I R v2 v3).bind fun v4 =>
      if v4 = 0 then
        (some (-3))
      else
        ((fX11_get fu sh I R l0 l1 3).bind fun v5 =>
        (fX11_flippedX fu sh I R l0 l1).bind fun v6 =>
        (fX11_flippedY fu sh I R l0 l1).bind fun v7 =>
        (fX11_isAt fu sh I R l0 l1 v5 v6 v7).bind fun v8 =>
        if v8 = 0 then
          ((fX11_noFlip_b60 fu sh I R) 0)
        else
          ((fX11_noFlip_b60 fu sh I R) (-4)))))
  else none
set_option maxRecDepth 100000 in
set_option maxHeartbeats 4000000 in
theorem vX11_noFlip {K J : Nat → Nat} {fu : Nat} {sh : HS} {I : HI} {R : HR} {F : VF} {o : Int32} (hF : F (.inl (some (.int o))) sh I R) {l0 : Nat} {l1 : Int32} (h0 : fX11_noFlip fu sh I R l0 l1 = some o) : V K J 240 0 (ent 2 [.ref l0, .int l1]) [] sh I R (0, 0) F := by
  unfold fX11_noFlip at h0
  obtain ⟨-, h1⟩ := gd h0; clear h0
  have hc0 : ((0 : Nat), (0 : Nat)).1 ≤ 0 ∧ ((0 : Nat), (0 : Nat)).2 ≤ 0 := ⟨Nat.le_refl _, Nat.le_refl _⟩
  show V K J 240 0 [some (.ref l0), some (.int l1)] [] sh I R (0, 0) F
  refine s_rl (i := 0) (pc' := 1) (by decide +kernel) rfl ?_
  refine s_il (i := 1) (pc' := 2) (by decide +kernel) rfl ?_
  refine kX11_hasPartner (X := 0) (Y := 0) (X' := 0) (Y' := 0) (pc' := 5) (by decide +kernel) hc0 rfl h1 (fun v1 c hc1 h2 => ?_); clear h1 hc0
  refine s_ifn (ins := .ifCond .ne 6) (t := 11) (pc' := 8) (by decide +kernel) rfl rfl rfl h2 (fun p3 h3 => ?_) (fun p3 h3 => ?_) <;> clear h2
  · refine s_rl (i := 0) (pc' := 12) (by decide +kernel) rfl ?_
    refine s_il (i := 1) (pc' := 13) (by decide +kernel) rfl ?_
    refine kX11_flippedX (X := 0) (Y := 0) (X' := 0) (Y' := 0) (pc' := 16) (by decide +kernel) hc1 rfl h3 (fun v2 c hc2 h4 => ?_); clear h3 hc1
    refine s_rl (i := 0) (pc' := 17) (by decide +kernel) rfl ?_
    refine s_il (i := 1) (pc' := 18) (by decide +kernel) rfl ?_
    refine kX11_flippedY (X := 0) (Y := 0) (X' := 0) (Y' := 0) (pc' := 21) (by decide +kernel) hc2 rfl h4 (fun v3 c hc3 h5 => ?_); clear h4 hc2
    refine kX11_isPlace (X := 0) (Y := 0) (X' := 0) (Y' := 0) (pc' := 24) (by decide +kernel) hc3 rfl h5 (fun v4 c hc4 h6 => ?_); clear h5 hc3
    refine s_ifn (ins := .ifCond .ne 6) (t := 30) (pc' := 27) (by decide +kernel) rfl rfl rfl h6 (fun p7 h7 => ?_) (fun p7 h7 => ?_) <;> clear h6
    · refine s_rl (i := 0) (pc' := 31) (by decide +kernel) rfl ?_
      refine s_il (i := 1) (pc' := 32) (by decide +kernel) rfl ?_
      refine s_rl (i := 0) (pc' := 33) (by decide +kernel) rfl ?_
      refine s_il (i := 1) (pc' := 34) (by decide +kernel) rfl ?_
      refine s_c (v := 3) (pc' := 35) (by decide +kernel) ?_
      refine kX11_get (X := 0) (Y := 0) (X' := 0) (Y' := 0) (pc' := 38) (by decide +kernel) hc4 rfl h7 (fun v5 c hc5 h8 => ?_); clear h7 hc4
      refine s_rl (i := 0) (pc' := 39) (by decide +kernel) rfl ?_
      refine s_il (i := 1) (pc' := 40) (by decide +kernel) rfl ?_
      refine kX11_flippedX (X := 0) (Y := 0) (X' := 0) (Y' := 0) (pc' := 43) (by decide +kernel) hc5 rfl h8 (fun v6 c hc6 h9 => ?_); clear h8 hc5
      refine s_rl (i := 0) (pc' := 44) (by decide +kernel) rfl ?_
      refine s_il (i := 1) (pc' := 45) (by decide +kernel) rfl ?_
      refine kX11_flippedY (X := 0) (Y := 0) (X' := 0) (Y' := 0) (pc' := 48) (by decide +kernel) hc6 rfl h9 (fun v7 c hc7 h10 => ?_); clear h9 hc6
      refine kX11_isAt (X := 0) (Y := 0) (X' := 0) (Y' := 0) (pc' := 51) (by decide +kernel) hc7 rfl h10 (fun v8 c hc8 h11 => ?_); clear h10 hc7
      refine s_if (ins := .ifCond .eq 8) (t := 59) (pc' := 54) (by decide +kernel) rfl rfl rfl h11 (fun p12 h12 => ?_) (fun p12 h12 => ?_) <;> clear h11
      · refine s_c (v := 0) (pc' := 60) (by decide +kernel) ?_
        exact (vX11_noFlip_b60 hF) hc8 h12
      · refine s_c (v := (-4)) (pc' := 56) (by decide +kernel) ?_
        refine s_go (t := 60) (by decide +kernel) ?_
        exact (vX11_noFlip_b60 hF) hc8 h12
    · refine s_c (v := (-3)) (pc' := 29) (by decide +kernel) ?_
      have e9 := Option.some.inj h7; subst e9
      exact s_ri (X := 0) (Y := 0) (by decide +kernel) hc4 hF
  · refine s_c (v := (-2)) (pc' := 10) (by decide +kernel) ?_
    have e9 := Option.some.inj h3; subst e9
    exact s_ri (X := 0) (Y := 0) (by decide +kernel) hc1 hF
set_option maxRecDepth 100000 in
set_option maxHeartbeats 4000000 in
theorem kX11_noFlip {K J : Nat → Nat} {fu : Nat} {sh : HS} {I : HI} {R : HR} {F : VF} {mi pc pc' X Y X' Y' : Nat} {L : VL} {rest : List Value} {c : Nat × Nat} {l0 : Nat} {l1 : Int32} {ω : Type} {o : ω} {g : Int32 → Option ω} (hq : cQ mi pc 240 2 pc' X Y X' Y' = true) (hc : c.1 ≤ X ∧ c.2 ≤ Y) (hr : Nat.ble (catS rest) 8 = true) (h : (fX11_noFlip fu sh I R l0 l1).bind g = some o) (kk : ∀ v c', (c'.1 ≤ X' ∧ c'.2 ≤ Y') → g v = some o → V K J mi pc' L ((.int v) :: rest) sh I R c' F) : V K J mi pc L (.int l1 :: .ref l0 :: rest) sh I R c F := by
  obtain ⟨r, h1, h2⟩ := bnd h
  have hT : isT sh l0 9 = true := by unfold fX11_noFlip at h1; exact (gd h1).1
  have ml : mL 240 = 2 := by decide +kernel
  have mk : mK 240 = 1 := by decide +kernel
  have mc : mC 240 = 9 := by decide +kernel
  refine s_call (as := [.int l1, .ref l0]) (G := fun o' sh' I' R' => o' = .inl (some (.int r)) ∧ sh' = sh ∧ I' = I ∧ R' = R) hq hc rfl hr (by rw [ml]; rfl) (Or.inl rfl) (fun _ => Or.inl ⟨by rw [mc]; decide, by rw [mc]; exact isT_iff.mp hT⟩) (fun z => absurd (mk.symm.trans z) (by decide)) (by rw [ml]; exact vX11_noFlip (F := fun o' sh' I' R' => o' = .inl (some (.int r)) ∧ sh' = sh ∧ I' = I ∧ R' = R) ⟨rfl, rfl, rfl, rfl⟩ h1) ?_ ?_ ?_
  · rintro sh' I' R' c' hc' ⟨g1, rfl, rfl, rfl⟩
    cases g1
  · rintro v' sh' I' R' c' hc' ⟨g1, rfl, rfl, rfl⟩
    cases g1
    exact kk _ _ hc' h2
  · rintro E' sh' I' R' ⟨g1, rfl, rfl, rfl⟩
    cases g1
set_option maxRecDepth 100000 in
set_option maxHeartbeats 4000000 in
def fX11_flip_b43 (fu : Nat) (sh : HS) (R : HR) (I : HI) (s0 : Int32) : Option (Int32 × HI) :=
  some (s0, I)
set_option maxRecDepth 100000 in
set_option maxHeartbeats 4000000 in
theorem vX11_flip_b43 {K J : Nat → Nat} {fu : Nat} {sh : HS} {R : HR} {F : VF} {o : (Int32 × HI)} (hF : F (.inl (some (.int o.1))) sh o.2 R) {I : HI} {s0 : Int32} {d0 d1 d2 : Option Value} {c : Nat × Nat} (hc0 : c.1 ≤ 0 ∧ c.2 ≤ 0) (h0 : fX11_flip_b43 fu sh R I s0 = some o) : V K J 241 43 [d0, d1, d2] [.int s0] sh I R c F := by
  unfold fX11_flip_b43 at h0
  have e9 := Option.some.inj h0; subst e9
  exact s_ri (X := 0) (Y := 0) (by decide +kernel) hc0 hF
set_option maxRecDepth 100000 in
set_option maxHeartbeats 4000000 in
def fX11_flip (fu : Nat) (sh : HS) (I : HI) (R : HR) (l0 : Nat) (l1 : Int32) : Option (Int32 × HI) :=
  if isT sh l0 9 = true then
    ((fX11_isShot fu sh I R l0 l1).bind fun v1 =>
    oH (fX11_isWrong fu sh I R l0 v1) fun v2 w2 =>
    if v2 = 0 then
      ((fX11_noFlip fu sh w2 R l0 l1).bind fun v3 =>
      if 0 ≤ v3 then
        ((fX11_flippedX fu sh w2 R l0 l1).bind fun v4 =>
        (fX11_flippedY fu sh w2 R l0 l1).bind fun v5 =>
        oH (fX11_camera fu sh w2 R l0 l1 v4 v5) fun v6 w6 =>
        (fX11_flip_b43 fu sh R) w6 v6)
      else
        ((fX11_flip_b43 fu sh R) w2 v3))
    else
      (some (0, w2)))
  else none
set_option maxRecDepth 100000 in
set_option maxHeartbeats 4000000 in
theorem vX11_flip {K J : Nat → Nat} {fu : Nat} {sh : HS} {I : HI} {R : HR} {F : VF} {o : (Int32 × HI)} (hF : F (.inl (some (.int o.1))) sh o.2 R) {l0 : Nat} {l1 : Int32} (h0 : fX11_flip fu sh I R l0 l1 = some o) : V K J 241 0 (ent 3 [.ref l0, .int l1]) [] sh I R (0, 0) F := by
  unfold fX11_flip at h0
  obtain ⟨-, h1⟩ := gd h0; clear h0
  have hc0 : ((0 : Nat), (0 : Nat)).1 ≤ 0 ∧ ((0 : Nat), (0 : Nat)).2 ≤ 0 := ⟨Nat.le_refl _, Nat.le_refl _⟩
  show V K J 241 0 [some (.ref l0), some (.int l1), none] [] sh I R (0, 0) F
  refine s_rl (i := 0) (pc' := 1) (by decide +kernel) rfl ?_
  refine s_rl (i := 0) (pc' := 2) (by decide +kernel) rfl ?_
  refine s_il (i := 1) (pc' := 3) (by decide +kernel) rfl ?_
  refine kX11_isShot (X := 0) (Y := 0) (X' := 0) (Y' := 0) (pc' := 6) (by decide +kernel) hc0 rfl h1 (fun v1 c hc1 h2 => ?_); clear h1 hc0
  refine kX11_isWrong (X := 0) (Y := 0) (X' := 0) (Y' := 0) (pc' := 9) (by decide +kernel) hc1 rfl h2 (fun v2 w2 c hc2 h3 => ?_); clear h2 hc1
  refine s_if (ins := .ifCond .eq 5) (t := 14) (pc' := 12) (by decide +kernel) rfl rfl rfl h3 (fun p4 h4 => ?_) (fun p4 h4 => ?_) <;> clear h3
  · refine s_rl (i := 0) (pc' := 15) (by decide +kernel) rfl ?_
    refine s_il (i := 1) (pc' := 16) (by decide +kernel) rfl ?_
    refine kX11_noFlip (X := 0) (Y := 0) (X' := 0) (Y' := 0) (pc' := 19) (by decide +kernel) hc2 rfl h4 (fun v3 c hc3 h5 => ?_); clear h4 hc2
    refine s_is (i := 2) (pc' := 20) (L' := [some (.ref l0), some (.int l1), some (.int v3)]) (by decide +kernel) rfl rfl ?_
    refine s_il (i := 2) (pc' := 21) (by decide +kernel) rfl ?_
    refine s_if (ins := .ifCond .ge 7) (t := 28) (pc' := 24) (by decide +kernel) rfl rfl rfl h5 (fun p6 h6 => ?_) (fun p6 h6 => ?_) <;> clear h5
    · refine s_rl (i := 0) (pc' := 29) (by decide +kernel) rfl ?_
      refine s_il (i := 1) (pc' := 30) (by decide +kernel) rfl ?_
      refine s_rl (i := 0) (pc' := 31) (by decide +kernel) rfl ?_
      refine s_il (i := 1) (pc' := 32) (by decide +kernel) rfl ?_
      refine kX11_flippedX (X := 0) (Y := 0) (X' := 0) (Y' := 0) (pc' := 35) (by decide +kernel) hc3 rfl h6 (fun v4 c hc4 h7 => ?_); clear h6 hc3
      refine s_rl (i := 0) (pc' := 36) (by decide +kernel) rfl ?_
      refine s_il (i := 1) (pc' := 37) (by decide +kernel) rfl ?_
      refine kX11_flippedY (X := 0) (Y := 0) (X' := 0) (Y' := 0) (pc' := 40) (by decide +kernel) hc4 rfl h7 (fun v5 c hc5 h8 => ?_); clear h7 hc4
      refine kX11_camera (X := 0) (Y := 0) (X' := 0) (Y' := 0) (pc' := 43) (by decide +kernel) hc5 rfl h8 (fun v6 w6 c hc6 h9 => ?_); clear h8 hc5
      exact (vX11_flip_b43 hF) hc6 h9
    · refine s_il (i := 2) (pc' := 25) (by decide +kernel) rfl ?_
      refine s_go (t := 43) (by decide +kernel) ?_
      exact (vX11_flip_b43 hF) hc3 h6
  · refine s_c (v := 0) (pc' := 13) (by decide +kernel) ?_
    have e9 := Option.some.inj h4; subst e9
    exact s_ri (X := 0) (Y := 0) (by decide +kernel) hc2 hF
set_option maxRecDepth 100000 in
set_option maxHeartbeats 4000000 in
theorem kX11_flip {K J : Nat → Nat} {fu : Nat} {sh : HS} {I : HI} {R : HR} {F : VF} {mi pc pc' X Y X' Y' : Nat} {L : VL} {rest : List Value} {c : Nat × Nat} {l0 : Nat} {l1 : Int32} {ω : Type} {o : ω} {g : Int32 → HI → Option ω} (hq : cQ mi pc 241 2 pc' X Y X' Y' = true) (hc : c.1 ≤ X ∧ c.2 ≤ Y) (hr : Nat.ble (catS rest) 8 = true) (h : oH (fX11_flip fu sh I R l0 l1) g = some o) (kk : ∀ v w c', (c'.1 ≤ X' ∧ c'.2 ≤ Y') → g v w = some o → V K J mi pc' L ((.int v) :: rest) sh w R c' F) : V K J mi pc L (.int l1 :: .ref l0 :: rest) sh I R c F := by
  obtain ⟨r, h1, h2⟩ := bnd h
  have hT : isT sh l0 9 = true := by unfold fX11_flip at h1; exact (gd h1).1
  have ml : mL 241 = 3 := by decide +kernel
  have mk : mK 241 = 1 := by decide +kernel
  have mc : mC 241 = 9 := by decide +kernel
  obtain ⟨v, w⟩ := r
  refine s_call (as := [.int l1, .ref l0]) (G := fun o' sh' I' R' => o' = .inl (some (.int v)) ∧ sh' = sh ∧ I' = w ∧ R' = R) hq hc rfl hr (by rw [ml]; rfl) (Or.inl rfl) (fun _ => Or.inl ⟨by rw [mc]; decide, by rw [mc]; exact isT_iff.mp hT⟩) (fun z => absurd (mk.symm.trans z) (by decide)) (by rw [ml]; exact vX11_flip (F := fun o' sh' I' R' => o' = .inl (some (.int v)) ∧ sh' = sh ∧ I' = w ∧ R' = R) ⟨rfl, rfl, rfl, rfl⟩ h1) ?_ ?_ ?_
  · rintro sh' I' R' c' hc' ⟨g1, rfl, rfl, rfl⟩
    cases g1
  · rintro v' sh' I' R' c' hc' ⟨g1, rfl, rfl, rfl⟩
    cases g1
    exact kk _ _ _ hc' h2
  · rintro E' sh' I' R' ⟨g1, rfl, rfl, rfl⟩
    cases g1
set_option maxRecDepth 100000 in
set_option maxHeartbeats 4000000 in
def fX11_noJoin_b82 (fu : Nat) (sh : HS) (R : HR) (I : HI) (s0 : Int32) : Option (Int32 × HI) :=
  some (s0, I)
set_option maxRecDepth 100000 in
set_option maxHeartbeats 4000000 in
theorem vX11_noJoin_b82 {K J : Nat → Nat} {fu : Nat} {sh : HS} {R : HR} {F : VF} {o : (Int32 × HI)} (hF : F (.inl (some (.int o.1))) sh o.2 R) {I : HI} {s0 : Int32} {d0 d1 d2 d3 : Option Value} {c : Nat × Nat} (hc0 : c.1 ≤ 0 ∧ c.2 ≤ 0) (h0 : fX11_noJoin_b82 fu sh R I s0 = some o) : V K J 242 82 [d0, d1, d2, d3] [.int s0] sh I R c F := by
  unfold fX11_noJoin_b82 at h0
  have e9 := Option.some.inj h0; subst e9
  exact s_ri (X := 0) (Y := 0) (by decide +kernel) hc0 hF
set_option maxRecDepth 100000 in
set_option maxHeartbeats 4000000 in
def fX11_noJoin (fu : Nat) (sh : HS) (I : HI) (R : HR) (l0 : Nat) (l1 : Int32) (l2 : Int32) : Option (Int32 × HI) :=
  if isT sh l0 9 = true then
    ((oR sh R l0 9 20).bind fun v1 =>
    (oA sh I v1 l2).bind fun v2 =>
    (fX11_sceneOf fu sh I R l0 v2).bind fun v3 =>
    (fX11_sceneOf fu sh I R l0 l1).bind fun v4 =>
    if v3 = v4 then
      ((fX11_get fu sh I R l0 l1 3).bind fun v5 =>
      (fX11_get fu sh I R l0 v2 1).bind fun v6 =>
      (fX11_get fu sh I R l0 v2 2).bind fun v7 =>
      (fX11_isAt fu sh I R l0 l1 v5 v6 v7).bind fun v8 =>
      if v8 = 0 then
        ((fX11_get fu sh I R l0 v2 1).bind fun v9 =>
        (fX11_get fu sh I R l0 v2 2).bind fun v10 =>
        oH (fX11_faultsAt fu sh I R l0 l1 v9 v10) fun v11 w11 =>
        (fX11_faultsNow fu sh w11 R l0).bind fun v12 =>
        if v11 ≤ v12 then
          ((fX11_noJoin_b82 fu sh R) w11 0)
        else
          ((fX11_noJoin_b82 fu sh R) w11 (-4)))
      else
        (some ((-3), I)))
    else
      (some ((-2), I)))
  else none
set_option maxRecDepth 100000 in
set_option maxHeartbeats 4000000 in
theorem vX11_noJoin {K J : Nat → Nat} {fu : Nat} {sh : HS} {I : HI} {R : HR} {F : VF} {o : (Int32 × HI)} (hF : F (.inl (some (.int o.1))) sh o.2 R) {l0 : Nat} {l1 : Int32} {l2 : Int32} (h0 : fX11_noJoin fu sh I R l0 l1 l2 = some o) : V K J 242 0 (ent 4 [.ref l0, .int l1, .int l2]) [] sh I R (0, 0) F := by
  unfold fX11_noJoin at h0
  obtain ⟨-, h1⟩ := gd h0; clear h0
  have hc0 : ((0 : Nat), (0 : Nat)).1 ≤ 0 ∧ ((0 : Nat), (0 : Nat)).2 ≤ 0 := ⟨Nat.le_refl _, Nat.le_refl _⟩
  show V K J 242 0 [some (.ref l0), some (.int l1), some (.int l2), none] [] sh I R (0, 0) F
  refine s_rl (i := 0) (pc' := 1) (by decide +kernel) rfl ?_
  refine s_gR (t := 9) (j := 20) (pc' := 4) (by decide +kernel) h1 (fun v1 h2 => ?_); clear h1
  refine s_il (i := 2) (pc' := 5) (by decide +kernel) rfl ?_
  refine s_al (pc' := 6) (by decide +kernel) h2 (fun v2 h3 => ?_); clear h2
  refine s_is (i := 3) (pc' := 7) (L' := [some (.ref l0), some (.int l1), some (.int l2), some (.int v2)]) (by decide +kernel) rfl rfl ?_
  refine s_rl (i := 0) (pc' := 8) (by decide +kernel) rfl ?_
  refine s_il (i := 3) (pc' := 9) (by decide +kernel) rfl ?_
  refine kX11_sceneOf (X := 0) (Y := 0) (X' := 0) (Y' := 0) (pc' := 12) (by decide +kernel) hc0 rfl h3 (fun v3 c hc1 h4 => ?_); clear h3 hc0
  refine s_rl (i := 0) (pc' := 13) (by decide +kernel) rfl ?_
  refine s_il (i := 1) (pc' := 14) (by decide +kernel) rfl ?_
  refine kX11_sceneOf (X := 0) (Y := 0) (X' := 0) (Y' := 0) (pc' := 17) (by decide +kernel) hc1 rfl h4 (fun v4 c hc2 h5 => ?_); clear h4 hc1
  refine s_if (ins := .if_icmp .eq 6) (t := 23) (pc' := 20) (by decide +kernel) rfl rfl rfl h5 (fun p6 h6 => ?_) (fun p6 h6 => ?_) <;> clear h5
  · refine s_rl (i := 0) (pc' := 24) (by decide +kernel) rfl ?_
    refine s_il (i := 1) (pc' := 25) (by decide +kernel) rfl ?_
    refine s_rl (i := 0) (pc' := 26) (by decide +kernel) rfl ?_
    refine s_il (i := 1) (pc' := 27) (by decide +kernel) rfl ?_
    refine s_c (v := 3) (pc' := 28) (by decide +kernel) ?_
    refine kX11_get (X := 0) (Y := 0) (X' := 0) (Y' := 0) (pc' := 31) (by decide +kernel) hc2 rfl h6 (fun v5 c hc3 h7 => ?_); clear h6 hc2
    refine s_rl (i := 0) (pc' := 32) (by decide +kernel) rfl ?_
    refine s_il (i := 3) (pc' := 33) (by decide +kernel) rfl ?_
    refine s_c (v := 1) (pc' := 34) (by decide +kernel) ?_
    refine kX11_get (X := 0) (Y := 0) (X' := 0) (Y' := 0) (pc' := 37) (by decide +kernel) hc3 rfl h7 (fun v6 c hc4 h8 => ?_); clear h7 hc3
    refine s_rl (i := 0) (pc' := 38) (by decide +kernel) rfl ?_
    refine s_il (i := 3) (pc' := 39) (by decide +kernel) rfl ?_
    refine s_c (v := 2) (pc' := 40) (by decide +kernel) ?_
    refine kX11_get (X := 0) (Y := 0) (X' := 0) (Y' := 0) (pc' := 43) (by decide +kernel) hc4 rfl h8 (fun v7 c hc5 h9 => ?_); clear h8 hc4
    refine kX11_isAt (X := 0) (Y := 0) (X' := 0) (Y' := 0) (pc' := 46) (by decide +kernel) hc5 rfl h9 (fun v8 c hc6 h10 => ?_); clear h9 hc5
    refine s_if (ins := .ifCond .eq 6) (t := 52) (pc' := 49) (by decide +kernel) rfl rfl rfl h10 (fun p11 h11 => ?_) (fun p11 h11 => ?_) <;> clear h10
    · refine s_rl (i := 0) (pc' := 53) (by decide +kernel) rfl ?_
      refine s_il (i := 1) (pc' := 54) (by decide +kernel) rfl ?_
      refine s_rl (i := 0) (pc' := 55) (by decide +kernel) rfl ?_
      refine s_il (i := 3) (pc' := 56) (by decide +kernel) rfl ?_
      refine s_c (v := 1) (pc' := 57) (by decide +kernel) ?_
      refine kX11_get (X := 0) (Y := 0) (X' := 0) (Y' := 0) (pc' := 60) (by decide +kernel) hc6 rfl h11 (fun v9 c hc7 h12 => ?_); clear h11 hc6
      refine s_rl (i := 0) (pc' := 61) (by decide +kernel) rfl ?_
      refine s_il (i := 3) (pc' := 62) (by decide +kernel) rfl ?_
      refine s_c (v := 2) (pc' := 63) (by decide +kernel) ?_
      refine kX11_get (X := 0) (Y := 0) (X' := 0) (Y' := 0) (pc' := 66) (by decide +kernel) hc7 rfl h12 (fun v10 c hc8 h13 => ?_); clear h12 hc7
      refine kX11_faultsAt (X := 0) (Y := 0) (X' := 0) (Y' := 0) (pc' := 69) (by decide +kernel) hc8 rfl h13 (fun v11 w11 c hc9 h14 => ?_); clear h13 hc8
      refine s_rl (i := 0) (pc' := 70) (by decide +kernel) rfl ?_
      refine kX11_faultsNow (X := 0) (Y := 0) (X' := 0) (Y' := 0) (pc' := 73) (by decide +kernel) hc9 rfl h14 (fun v12 c hc10 h15 => ?_); clear h14 hc9
      refine s_if (ins := .if_icmp .le 8) (t := 81) (pc' := 76) (by decide +kernel) rfl rfl rfl h15 (fun p16 h16 => ?_) (fun p16 h16 => ?_) <;> clear h15
      · refine s_c (v := 0) (pc' := 82) (by decide +kernel) ?_
        exact (vX11_noJoin_b82 hF) hc10 h16
      · refine s_c (v := (-4)) (pc' := 78) (by decide +kernel) ?_
        refine s_go (t := 82) (by decide +kernel) ?_
        exact (vX11_noJoin_b82 hF) hc10 h16
    · refine s_c (v := (-3)) (pc' := 51) (by decide +kernel) ?_
      have e9 := Option.some.inj h11; subst e9
      exact s_ri (X := 0) (Y := 0) (by decide +kernel) hc6 hF
  · refine s_c (v := (-2)) (pc' := 22) (by decide +kernel) ?_
    have e9 := Option.some.inj h6; subst e9
    exact s_ri (X := 0) (Y := 0) (by decide +kernel) hc2 hF
set_option maxRecDepth 100000 in
set_option maxHeartbeats 4000000 in
theorem kX11_noJoin {K J : Nat → Nat} {fu : Nat} {sh : HS} {I : HI} {R : HR} {F : VF} {mi pc pc' X Y X' Y' : Nat} {L : VL} {rest : List Value} {c : Nat × Nat} {l0 : Nat} {l1 : Int32} {l2 : Int32} {ω : Type} {o : ω} {g : Int32 → HI → Option ω} (hq : cQ mi pc 242 3 pc' X Y X' Y' = true) (hc : c.1 ≤ X ∧ c.2 ≤ Y) (hr : Nat.ble (catS rest) 8 = true) (h : oH (fX11_noJoin fu sh I R l0 l1 l2) g = some o) (kk : ∀ v w c', (c'.1 ≤ X' ∧ c'.2 ≤ Y') → g v w = some o → V K J mi pc' L ((.int v) :: rest) sh w R c' F) : V K J mi pc L (.int l2 :: .int l1 :: .ref l0 :: rest) sh I R c F := by
  obtain ⟨r, h1, h2⟩ := bnd h
  have hT : isT sh l0 9 = true := by unfold fX11_noJoin at h1; exact (gd h1).1
  have ml : mL 242 = 4 := by decide +kernel
  have mk : mK 242 = 1 := by decide +kernel
  have mc : mC 242 = 9 := by decide +kernel
  obtain ⟨v, w⟩ := r
  refine s_call (as := [.int l2, .int l1, .ref l0]) (G := fun o' sh' I' R' => o' = .inl (some (.int v)) ∧ sh' = sh ∧ I' = w ∧ R' = R) hq hc rfl hr (by rw [ml]; rfl) (Or.inl rfl) (fun _ => Or.inl ⟨by rw [mc]; decide, by rw [mc]; exact isT_iff.mp hT⟩) (fun z => absurd (mk.symm.trans z) (by decide)) (by rw [ml]; exact vX11_noJoin (F := fun o' sh' I' R' => o' = .inl (some (.int v)) ∧ sh' = sh ∧ I' = w ∧ R' = R) ⟨rfl, rfl, rfl, rfl⟩ h1) ?_ ?_ ?_
  · rintro sh' I' R' c' hc' ⟨g1, rfl, rfl, rfl⟩
    cases g1
  · rintro v' sh' I' R' c' hc' ⟨g1, rfl, rfl, rfl⟩
    cases g1
    exact kk _ _ _ hc' h2
  · rintro E' sh' I' R' ⟨g1, rfl, rfl, rfl⟩
    cases g1
set_option maxRecDepth 100000 in
set_option maxHeartbeats 4000000 in
def fX11_join_b86 (fu : Nat) (sh : HS) (R : HR) (I : HI) (s0 : Int32) : Option (Int32 × HI) :=
  some (s0, I)
set_option maxRecDepth 100000 in
set_option maxHeartbeats 4000000 in
theorem vX11_join_b86 {K J : Nat → Nat} {fu : Nat} {sh : HS} {R : HR} {F : VF} {o : (Int32 × HI)} (hF : F (.inl (some (.int o.1))) sh o.2 R) {I : HI} {s0 : Int32} {d0 d1 d2 d3 d4 : Option Value} {c : Nat × Nat} (hc0 : c.1 ≤ 0 ∧ c.2 ≤ 0) (h0 : fX11_join_b86 fu sh R I s0 = some o) : V K J 243 86 [d0, d1, d2, d3, d4] [.int s0] sh I R c F := by
  unfold fX11_join_b86 at h0
  have e9 := Option.some.inj h0; subst e9
  exact s_ri (X := 0) (Y := 0) (by decide +kernel) hc0 hF
set_option maxRecDepth 100000 in
set_option maxHeartbeats 4000000 in
def fX11_join_b36 (fu : Nat) (sh : HS) (R : HR) (I : HI) (l0 : Nat) (l1 : Int32) (l2 : Int32) (s0 : Int32) (s1 : Nat) : Option (Int32 × HI) :=
  oH (fX11_isWrong fu sh I R s1 s0) fun v2 w2 =>
  if v2 = 0 then
    (oH (fX11_noJoin fu sh w2 R l0 l1 l2) fun v3 w3 =>
    (oR sh R l0 9 20).bind fun v4 =>
    (oA sh w3 v4 l2).bind fun v5 =>
    if 0 ≤ v3 then
      ((fX11_get fu sh w3 R l0 v5 1).bind fun v6 =>
      (fX11_get fu sh w3 R l0 v5 2).bind fun v7 =>
      oH (fX11_camera fu sh w3 R l0 l1 v6 v7) fun v8 w8 =>
      (fX11_join_b86 fu sh R) w8 v8)
    else
      ((fX11_join_b86 fu sh R) w3 v3))
  else
    (some (0, w2))
set_option maxRecDepth 100000 in
set_option maxHeartbeats 4000000 in
theorem vX11_join_b36 {K J : Nat → Nat} {fu : Nat} {sh : HS} {R : HR} {F : VF} {o : (Int32 × HI)} (hF : F (.inl (some (.int o.1))) sh o.2 R) {I : HI} {l0 : Nat} {l1 : Int32} {l2 : Int32} {s0 : Int32} {s1 : Nat} {d3 d4 : Option Value} {c : Nat × Nat} (hc0 : c.1 ≤ 0 ∧ c.2 ≤ 0) (h0 : fX11_join_b36 fu sh R I l0 l1 l2 s0 s1 = some o) : V K J 243 36 [some (.ref l0), some (.int l1), some (.int l2), d3, d4] [.int s0, .ref s1] sh I R c F := by
  unfold fX11_join_b36 at h0
  refine kX11_isWrong (X := 0) (Y := 0) (X' := 0) (Y' := 0) (pc' := 39) (by decide +kernel) hc0 rfl h0 (fun v2 w2 c hc1 h1 => ?_); clear h0 hc0
  refine s_if (ins := .ifCond .eq 5) (t := 44) (pc' := 42) (by decide +kernel) rfl rfl rfl h1 (fun p2 h2 => ?_) (fun p2 h2 => ?_) <;> clear h1
  · refine s_rl (i := 0) (pc' := 45) (by decide +kernel) rfl ?_
    refine s_il (i := 1) (pc' := 46) (by decide +kernel) rfl ?_
    refine s_il (i := 2) (pc' := 47) (by decide +kernel) rfl ?_
    refine kX11_noJoin (X := 0) (Y := 0) (X' := 0) (Y' := 0) (pc' := 50) (by decide +kernel) hc1 rfl h2 (fun v3 w3 c hc2 h3 => ?_); clear h2 hc1
    refine s_is (i := 3) (pc' := 51) (L' := [some (.ref l0), some (.int l1), some (.int l2), some (.int v3), d4]) (by decide +kernel) rfl rfl ?_
    refine s_rl (i := 0) (pc' := 52) (by decide +kernel) rfl ?_
    refine s_gR (t := 9) (j := 20) (pc' := 55) (by decide +kernel) h3 (fun v4 h4 => ?_); clear h3
    refine s_il (i := 2) (pc' := 56) (by decide +kernel) rfl ?_
    refine s_al (pc' := 57) (by decide +kernel) h4 (fun v5 h5 => ?_); clear h4
    refine s_is (i := 4) (pc' := 59) (L' := [some (.ref l0), some (.int l1), some (.int l2), some (.int v3), some (.int v5)]) (by decide +kernel) rfl rfl ?_
    refine s_il (i := 3) (pc' := 60) (by decide +kernel) rfl ?_
    refine s_if (ins := .ifCond .ge 7) (t := 67) (pc' := 63) (by decide +kernel) rfl rfl rfl h5 (fun p6 h6 => ?_) (fun p6 h6 => ?_) <;> clear h5
    · refine s_rl (i := 0) (pc' := 68) (by decide +kernel) rfl ?_
      refine s_il (i := 1) (pc' := 69) (by decide +kernel) rfl ?_
      refine s_rl (i := 0) (pc' := 70) (by decide +kernel) rfl ?_
      refine s_il (i := 4) (pc' := 72) (by decide +kernel) rfl ?_
      refine s_c (v := 1) (pc' := 73) (by decide +kernel) ?_
      refine kX11_get (X := 0) (Y := 0) (X' := 0) (Y' := 0) (pc' := 76) (by decide +kernel) hc2 rfl h6 (fun v6 c hc3 h7 => ?_); clear h6 hc2
      refine s_rl (i := 0) (pc' := 77) (by decide +kernel) rfl ?_
      refine s_il (i := 4) (pc' := 79) (by decide +kernel) rfl ?_
      refine s_c (v := 2) (pc' := 80) (by decide +kernel) ?_
      refine kX11_get (X := 0) (Y := 0) (X' := 0) (Y' := 0) (pc' := 83) (by decide +kernel) hc3 rfl h7 (fun v7 c hc4 h8 => ?_); clear h7 hc3
      refine kX11_camera (X := 0) (Y := 0) (X' := 0) (Y' := 0) (pc' := 86) (by decide +kernel) hc4 rfl h8 (fun v8 w8 c hc5 h9 => ?_); clear h8 hc4
      exact (vX11_join_b86 hF) hc5 h9
    · refine s_il (i := 3) (pc' := 64) (by decide +kernel) rfl ?_
      refine s_go (t := 86) (by decide +kernel) ?_
      exact (vX11_join_b86 hF) hc2 h6
  · refine s_c (v := 0) (pc' := 43) (by decide +kernel) ?_
    have e9 := Option.some.inj h2; subst e9
    exact s_ri (X := 0) (Y := 0) (by decide +kernel) hc1 hF
set_option maxRecDepth 100000 in
set_option maxHeartbeats 4000000 in
def fX11_join_b35 (fu : Nat) (sh : HS) (R : HR) (I : HI) (l0 : Nat) (l1 : Int32) (l2 : Int32) (s0 : Nat) : Option (Int32 × HI) :=
  (fX11_join_b36 fu sh R) I l0 l1 l2 0 s0
set_option maxRecDepth 100000 in
set_option maxHeartbeats 4000000 in
theorem vX11_join_b35 {K J : Nat → Nat} {fu : Nat} {sh : HS} {R : HR} {F : VF} {o : (Int32 × HI)} (hF : F (.inl (some (.int o.1))) sh o.2 R) {I : HI} {l0 : Nat} {l1 : Int32} {l2 : Int32} {s0 : Nat} {d3 d4 : Option Value} {c : Nat × Nat} (hc0 : c.1 ≤ 0 ∧ c.2 ≤ 0) (h0 : fX11_join_b35 fu sh R I l0 l1 l2 s0 = some o) : V K J 243 35 [some (.ref l0), some (.int l1), some (.int l2), d3, d4] [.ref s0] sh I R c F := by
  unfold fX11_join_b35 at h0
  refine s_c (v := 0) (pc' := 36) (by decide +kernel) ?_
  exact (vX11_join_b36 hF) hc0 h0
set_option maxRecDepth 100000 in
set_option maxHeartbeats 4000000 in
def fX11_join (fu : Nat) (sh : HS) (I : HI) (R : HR) (l0 : Nat) (l1 : Int32) (l2 : Int32) : Option (Int32 × HI) :=
  if isT sh l0 9 = true then
    ((fX11_isShot fu sh I R l0 l1).bind fun v1 =>
    if v1 = 0 then
      ((fX11_join_b35 fu sh R) I l0 l1 l2 l0)
    else
      ((oR sh R l0 9 0).bind fun v9 =>
      (oA sh I v9 0).bind fun v10 =>
      oH (fX11_setupsNow fu sh I R l0 v10) fun v11 w11 =>
      (fX11_isIn fu sh w11 R (l2.toInt64) 0 ((v11 - 1).toInt64)).bind fun v12 =>
      if v12 = 0 then
        ((fX11_join_b35 fu sh R) w11 l0 l1 l2 l0)
      else
        ((fX11_join_b36 fu sh R) w11 l0 l1 l2 1 l0)))
  else none
set_option maxRecDepth 100000 in
set_option maxHeartbeats 4000000 in
theorem vX11_join {K J : Nat → Nat} {fu : Nat} {sh : HS} {I : HI} {R : HR} {F : VF} {o : (Int32 × HI)} (hF : F (.inl (some (.int o.1))) sh o.2 R) {l0 : Nat} {l1 : Int32} {l2 : Int32} (h0 : fX11_join fu sh I R l0 l1 l2 = some o) : V K J 243 0 (ent 5 [.ref l0, .int l1, .int l2]) [] sh I R (0, 0) F := by
  unfold fX11_join at h0
  obtain ⟨-, h1⟩ := gd h0; clear h0
  have hc0 : ((0 : Nat), (0 : Nat)).1 ≤ 0 ∧ ((0 : Nat), (0 : Nat)).2 ≤ 0 := ⟨Nat.le_refl _, Nat.le_refl _⟩
  show V K J 243 0 [some (.ref l0), some (.int l1), some (.int l2), none, none] [] sh I R (0, 0) F
  refine s_rl (i := 0) (pc' := 1) (by decide +kernel) rfl ?_
  refine s_rl (i := 0) (pc' := 2) (by decide +kernel) rfl ?_
  refine s_il (i := 1) (pc' := 3) (by decide +kernel) rfl ?_
  refine kX11_isShot (X := 0) (Y := 0) (X' := 0) (Y' := 0) (pc' := 6) (by decide +kernel) hc0 rfl h1 (fun v1 c hc1 h2 => ?_); clear h1 hc0
  refine s_if (ins := .ifCond .eq 29) (t := 35) (pc' := 9) (by decide +kernel) rfl rfl rfl h2 (fun p3 h3 => ?_) (fun p3 h3 => ?_) <;> clear h2
  · exact (vX11_join_b35 hF) hc1 h3
  · refine s_il (i := 2) (pc' := 10) (by decide +kernel) rfl ?_
    refine s_a (ins := .i2l) (pc' := 11) (by decide +kernel) rfl ?_
    refine s_cJ (v := 0) (pc' := 12) (by decide +kernel) ?_
    refine s_rl (i := 0) (pc' := 13) (by decide +kernel) rfl ?_
    refine s_rl (i := 0) (pc' := 14) (by decide +kernel) rfl ?_
    refine s_gR (t := 9) (j := 0) (pc' := 17) (by decide +kernel) h3 (fun v9 h4 => ?_); clear h3
    refine s_c (v := 0) (pc' := 18) (by decide +kernel) ?_
    refine s_al (pc' := 19) (by decide +kernel) h4 (fun v10 h5 => ?_); clear h4
    refine kX11_setupsNow (X := 0) (Y := 0) (X' := 0) (Y' := 0) (pc' := 22) (by decide +kernel) hc1 rfl h5 (fun v11 w11 c hc2 h6 => ?_); clear h5 hc1
    refine s_c (v := 1) (pc' := 23) (by decide +kernel) ?_
    refine s_a (ins := .isub) (pc' := 24) (by decide +kernel) rfl ?_
    refine s_a (ins := .i2l) (pc' := 25) (by decide +kernel) rfl ?_
    refine kX11_isIn (X := 0) (Y := 0) (X' := 0) (Y' := 0) (pc' := 28) (by decide +kernel) hc2 rfl h6 (fun v12 c hc3 h7 => ?_); clear h6 hc2
    refine s_if (ins := .ifCond .eq 7) (t := 35) (pc' := 31) (by decide +kernel) rfl rfl rfl h7 (fun p8 h8 => ?_) (fun p8 h8 => ?_) <;> clear h7
    · exact (vX11_join_b35 hF) hc3 h8
    · refine s_c (v := 1) (pc' := 32) (by decide +kernel) ?_
      refine s_go (t := 36) (by decide +kernel) ?_
      exact (vX11_join_b36 hF) hc3 h8
set_option maxRecDepth 100000 in
set_option maxHeartbeats 4000000 in
theorem kX11_join {K J : Nat → Nat} {fu : Nat} {sh : HS} {I : HI} {R : HR} {F : VF} {mi pc pc' X Y X' Y' : Nat} {L : VL} {rest : List Value} {c : Nat × Nat} {l0 : Nat} {l1 : Int32} {l2 : Int32} {ω : Type} {o : ω} {g : Int32 → HI → Option ω} (hq : cQ mi pc 243 3 pc' X Y X' Y' = true) (hc : c.1 ≤ X ∧ c.2 ≤ Y) (hr : Nat.ble (catS rest) 8 = true) (h : oH (fX11_join fu sh I R l0 l1 l2) g = some o) (kk : ∀ v w c', (c'.1 ≤ X' ∧ c'.2 ≤ Y') → g v w = some o → V K J mi pc' L ((.int v) :: rest) sh w R c' F) : V K J mi pc L (.int l2 :: .int l1 :: .ref l0 :: rest) sh I R c F := by
  obtain ⟨r, h1, h2⟩ := bnd h
  have hT : isT sh l0 9 = true := by unfold fX11_join at h1; exact (gd h1).1
  have ml : mL 243 = 5 := by decide +kernel
  have mk : mK 243 = 1 := by decide +kernel
  have mc : mC 243 = 9 := by decide +kernel
  obtain ⟨v, w⟩ := r
  refine s_call (as := [.int l2, .int l1, .ref l0]) (G := fun o' sh' I' R' => o' = .inl (some (.int v)) ∧ sh' = sh ∧ I' = w ∧ R' = R) hq hc rfl hr (by rw [ml]; rfl) (Or.inl rfl) (fun _ => Or.inl ⟨by rw [mc]; decide, by rw [mc]; exact isT_iff.mp hT⟩) (fun z => absurd (mk.symm.trans z) (by decide)) (by rw [ml]; exact vX11_join (F := fun o' sh' I' R' => o' = .inl (some (.int v)) ∧ sh' = sh ∧ I' = w ∧ R' = R) ⟨rfl, rfl, rfl, rfl⟩ h1) ?_ ?_ ?_
  · rintro sh' I' R' c' hc' ⟨g1, rfl, rfl, rfl⟩
    cases g1
  · rintro v' sh' I' R' c' hc' ⟨g1, rfl, rfl, rfl⟩
    cases g1
    exact kk _ _ _ hc' h2
  · rintro E' sh' I' R' ⟨g1, rfl, rfl, rfl⟩
    cases g1
