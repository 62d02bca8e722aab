/-! methods 5 (printed by wip/whole/gen3.py) -/
set_option maxRecDepth 100000 in
set_option maxHeartbeats 4000000 in
def fX11_expectWord_b13 (fu : Nat) (sh : HS) (R : HR) (I : HI) (l0 : Nat) : Option HI :=
  (fX11_next fu sh I R l0).bind fun w2 =>
  some w2
set_option maxRecDepth 100000 in
set_option maxHeartbeats 4000000 in
theorem vX11_expectWord_b13 {K J : Nat → Nat} {fu : Nat} {sh : HS} {R : HR} {F : VF} {o : HI} (hF : F (.inl none) sh o R) {I : HI} {l0 : Nat} {d1 : Option Value} {c : Nat × Nat} (hc0 : c.1 ≤ 0 ∧ c.2 ≤ 0) (h0 : fX11_expectWord_b13 fu sh R I l0 = some o) : V K J 165 13 [some (.ref l0), d1] [] sh I R c F := by
  unfold fX11_expectWord_b13 at h0
  refine s_rl (i := 0) (pc' := 14) (by decide +kernel) rfl ?_
  refine kX11_next (X := 0) (Y := 0) (X' := 0) (Y' := 0) (pc' := 17) (by decide +kernel) hc0 rfl h0 (fun w2 c hc1 h1 => ?_); clear h0 hc0
  have e9 := Option.some.inj h1; subst e9
  exact s_rv (X := 0) (Y := 0) (by decide +kernel) hc1 hF
set_option maxRecDepth 100000 in
set_option maxHeartbeats 4000000 in
def fX11_expectWord (fu : Nat) (sh : HS) (I : HI) (R : HR) (l0 : Nat) (l1 : Nat) : Option HI :=
  if isT sh l0 9 = true then
    ((fX11_isWord fu sh I R l0 l1).bind fun v1 =>
    if v1 = 0 then
      ((fX11_fail fu sh I R l0 1).bind fun w3 =>
      (fX11_expectWord_b13 fu sh R) w3 l0)
    else
      ((fX11_expectWord_b13 fu sh R) I l0))
  else none
set_option maxRecDepth 100000 in
set_option maxHeartbeats 4000000 in
theorem vX11_expectWord {K J : Nat → Nat} {fu : Nat} {sh : HS} {I : HI} {R : HR} {F : VF} {o : HI} (hF : F (.inl none) sh o R) {l0 : Nat} {l1 : Nat} (h0 : fX11_expectWord fu sh I R l0 l1 = some o) : V K J 165 0 (ent 2 [.ref l0, .ref (K l1)]) [] sh I R (0, 0) F := by
  unfold fX11_expectWord at h0
  obtain ⟨-, h1⟩ := gd h0; clear h0
  have hc0 : ((0 : Nat), (0 : Nat)).1 ≤ 0 ∧ ((0 : Nat), (0 : Nat)).2 ≤ 0 := ⟨Nat.le_refl _, Nat.le_refl _⟩
  show V K J 165 0 [some (.ref l0), some (.ref (K l1))] [] sh I R (0, 0) F
  refine s_rl (i := 0) (pc' := 1) (by decide +kernel) rfl ?_
  refine s_rl (i := 1) (pc' := 2) (by decide +kernel) rfl ?_
  refine kX11_isWord (X := 0) (Y := 0) (X' := 0) (Y' := 0) (pc' := 5) (by decide +kernel) hc0 rfl h1 (fun v1 c hc1 h2 => ?_); clear h1 hc0
  refine s_ifn (ins := .ifCond .ne 8) (t := 13) (pc' := 8) (by decide +kernel) rfl rfl rfl h2 (fun p3 h3 => ?_) (fun p3 h3 => ?_) <;> clear h2
  · exact (vX11_expectWord_b13 hF) hc1 h3
  · refine s_rl (i := 0) (pc' := 9) (by decide +kernel) rfl ?_
    refine s_c (v := 1) (pc' := 10) (by decide +kernel) ?_
    refine kX11_fail (X := 0) (Y := 0) (X' := 0) (Y' := 0) (pc' := 13) (by decide +kernel) hc1 rfl h3 (fun w3 c hc2 h4 => ?_); clear h3 hc1
    exact (vX11_expectWord_b13 hF) hc2 h4
set_option maxRecDepth 100000 in
set_option maxHeartbeats 4000000 in
theorem kX11_expectWord {K J : Nat → Nat} {fu : Nat} {sh : HS} {I : HI} {R : HR} {F : VF} {mi pc pc' X Y X' Y' : Nat} {L : VL} {rest : List Value} {c : Nat × Nat} {l0 : Nat} {l1 : Nat} {ω : Type} {o : ω} {g : HI → Option ω} (hq : cQ mi pc 165 2 pc' X Y X' Y' = true) (hc : c.1 ≤ X ∧ c.2 ≤ Y) (hr : Nat.ble (catS rest) 8 = true) (h : (fX11_expectWord fu sh I R l0 l1).bind g = some o) (kk : ∀ w c', (c'.1 ≤ X' ∧ c'.2 ≤ Y') → g w = some o → V K J mi pc' L (rest) sh w R c' F) : V K J mi pc L (.ref (K l1) :: .ref l0 :: rest) sh I R c F := by
  obtain ⟨r, h1, h2⟩ := bnd h
  have hT : isT sh l0 9 = true := by unfold fX11_expectWord at h1; exact (gd h1).1
  have ml : mL 165 = 2 := by decide +kernel
  have mk : mK 165 = 1 := by decide +kernel
  have mc : mC 165 = 9 := by decide +kernel
  refine s_call (as := [.ref (K l1), .ref l0]) (G := fun o' sh' I' R' => o' = .inl none ∧ sh' = sh ∧ I' = r ∧ R' = R) hq hc rfl hr (by rw [ml]; rfl) (Or.inl rfl) (fun _ => Or.inl ⟨by rw [mc]; decide, by rw [mc]; exact isT_iff.mp hT⟩) (fun z => absurd (mk.symm.trans z) (by decide)) (by rw [ml]; exact vX11_expectWord (F := fun o' sh' I' R' => o' = .inl none ∧ sh' = sh ∧ I' = r ∧ R' = R) ⟨rfl, rfl, rfl, rfl⟩ h1) ?_ ?_ ?_
  · rintro sh' I' R' c' hc' ⟨g1, rfl, rfl, rfl⟩
    cases g1
    exact kk _ _ hc' h2
  · rintro v' sh' I' R' c' hc' ⟨g1, rfl, rfl, rfl⟩
    cases g1
  · rintro E' sh' I' R' ⟨g1, rfl, rfl, rfl⟩
    cases g1
set_option maxRecDepth 100000 in
set_option maxHeartbeats 4000000 in
def fX11_expectSemicolon_b13 (fu : Nat) (sh : HS) (R : HR) (I : HI) (l0 : Nat) : Option HI :=
  (fX11_next fu sh I R l0).bind fun w2 =>
  some w2
set_option maxRecDepth 100000 in
set_option maxHeartbeats 4000000 in
theorem vX11_expectSemicolon_b13 {K J : Nat → Nat} {fu : Nat} {sh : HS} {R : HR} {F : VF} {o : HI} (hF : F (.inl none) sh o R) {I : HI} {l0 : Nat} {c : Nat × Nat} (hc0 : c.1 ≤ 0 ∧ c.2 ≤ 0) (h0 : fX11_expectSemicolon_b13 fu sh R I l0 = some o) : V K J 166 13 [some (.ref l0)] [] sh I R c F := by
  unfold fX11_expectSemicolon_b13 at h0
  refine s_rl (i := 0) (pc' := 14) (by decide +kernel) rfl ?_
  refine kX11_next (X := 0) (Y := 0) (X' := 0) (Y' := 0) (pc' := 17) (by decide +kernel) hc0 rfl h0 (fun w2 c hc1 h1 => ?_); clear h0 hc0
  have e9 := Option.some.inj h1; subst e9
  exact s_rv (X := 0) (Y := 0) (by decide +kernel) hc1 hF
set_option maxRecDepth 100000 in
set_option maxHeartbeats 4000000 in
def fX11_expectSemicolon (fu : Nat) (sh : HS) (I : HI) (R : HR) (l0 : Nat) : Option HI :=
  if isT sh l0 9 = true then
    ((oI sh I l0 9 11).bind fun v1 =>
    if v1 = 4 then
      ((fX11_expectSemicolon_b13 fu sh R) I l0)
    else
      ((fX11_fail fu sh I R l0 1).bind fun w3 =>
      (fX11_expectSemicolon_b13 fu sh R) w3 l0))
  else none
set_option maxRecDepth 100000 in
set_option maxHeartbeats 4000000 in
theorem vX11_expectSemicolon {K J : Nat → Nat} {fu : Nat} {sh : HS} {I : HI} {R : HR} {F : VF} {o : HI} (hF : F (.inl none) sh o R) {l0 : Nat} (h0 : fX11_expectSemicolon fu sh I R l0 = some o) : V K J 166 0 (ent 1 [.ref l0]) [] sh I R (0, 0) F := by
  unfold fX11_expectSemicolon at h0
  obtain ⟨-, h1⟩ := gd h0; clear h0
  have hc0 : ((0 : Nat), (0 : Nat)).1 ≤ 0 ∧ ((0 : Nat), (0 : Nat)).2 ≤ 0 := ⟨Nat.le_refl _, Nat.le_refl _⟩
  show V K J 166 0 [some (.ref l0)] [] sh I R (0, 0) F
  refine s_rl (i := 0) (pc' := 1) (by decide +kernel) rfl ?_
  refine s_gI (t := 9) (j := 11) (ty := 0) (pc' := 4) (by decide +kernel) rfl h1 (fun v1 h2 => ?_); clear h1
  refine s_c (v := 4) (pc' := 5) (by decide +kernel) ?_
  refine s_if (ins := .if_icmp .eq 8) (t := 13) (pc' := 8) (by decide +kernel) rfl rfl rfl h2 (fun p3 h3 => ?_) (fun p3 h3 => ?_) <;> clear h2
  · exact (vX11_expectSemicolon_b13 hF) hc0 h3
  · refine s_rl (i := 0) (pc' := 9) (by decide +kernel) rfl ?_
    refine s_c (v := 1) (pc' := 10) (by decide +kernel) ?_
    refine kX11_fail (X := 0) (Y := 0) (X' := 0) (Y' := 0) (pc' := 13) (by decide +kernel) hc0 rfl h3 (fun w3 c hc1 h4 => ?_); clear h3 hc0
    exact (vX11_expectSemicolon_b13 hF) hc1 h4
set_option maxRecDepth 100000 in
set_option maxHeartbeats 4000000 in
theorem kX11_expectSemicolon {K J : Nat → Nat} {fu : Nat} {sh : HS} {I : HI} {R : HR} {F : VF} {mi pc pc' X Y X' Y' : Nat} {L : VL} {rest : List Value} {c : Nat × Nat} {l0 : Nat} {ω : Type} {o : ω} {g : HI → Option ω} (hq : cQ mi pc 166 1 pc' X Y X' Y' = true) (hc : c.1 ≤ X ∧ c.2 ≤ Y) (hr : Nat.ble (catS rest) 8 = true) (h : (fX11_expectSemicolon fu sh I R l0).bind g = some o) (kk : ∀ w c', (c'.1 ≤ X' ∧ c'.2 ≤ Y') → g w = some o → V K J mi pc' L (rest) sh w R c' F) : V K J mi pc L (.ref l0 :: rest) sh I R c F := by
  obtain ⟨r, h1, h2⟩ := bnd h
  have hT : isT sh l0 9 = true := by unfold fX11_expectSemicolon at h1; exact (gd h1).1
  have ml : mL 166 = 1 := by decide +kernel
  have mk : mK 166 = 1 := by decide +kernel
  have mc : mC 166 = 9 := by decide +kernel
  refine s_call (as := [.ref l0]) (G := fun o' sh' I' R' => o' = .inl none ∧ sh' = sh ∧ I' = r ∧ R' = R) hq hc rfl hr (by rw [ml]; rfl) (Or.inl rfl) (fun _ => Or.inl ⟨by rw [mc]; decide, by rw [mc]; exact isT_iff.mp hT⟩) (fun z => absurd (mk.symm.trans z) (by decide)) (by rw [ml]; exact vX11_expectSemicolon (F := fun o' sh' I' R' => o' = .inl none ∧ sh' = sh ∧ I' = r ∧ R' = R) ⟨rfl, rfl, rfl, rfl⟩ h1) ?_ ?_ ?_
  · rintro sh' I' R' c' hc' ⟨g1, rfl, rfl, rfl⟩
    cases g1
    exact kk _ _ hc' h2
  · rintro v' sh' I' R' c' hc' ⟨g1, rfl, rfl, rfl⟩
    cases g1
  · rintro E' sh' I' R' ⟨g1, rfl, rfl, rfl⟩
    cases g1
set_option maxRecDepth 100000 in
set_option maxHeartbeats 4000000 in
def fX11_read_b36 (fu : Nat) (sh : HS) (R : HR) (I : HI) (l0 : Nat) : Option (Int32 × HI) :=
  (oI sh I l0 9 12).bind fun v4 =>
  (fX11_next fu sh I R l0).bind fun w5 =>
  some (v4, w5)
set_option maxRecDepth 100000 in
set_option maxHeartbeats 4000000 in
theorem vX11_read_b36 {K J : Nat → Nat} {fu : Nat} {sh : HS} {R : HR} {F : VF} {o : (Int32 × HI)} (hF : F (.inl (some (.int o.1))) sh o.2 R) {I : HI} {l0 : Nat} {d1 d2 d3 : Option Value} {c : Nat × Nat} (hc0 : c.1 ≤ 0 ∧ c.2 ≤ 0) (h0 : fX11_read_b36 fu sh R I l0 = some o) : V K J 167 36 [some (.ref l0), d1, d2, d3] [] sh I R c F := by
  unfold fX11_read_b36 at h0
  refine s_rl (i := 0) (pc' := 37) (by decide +kernel) rfl ?_
  refine s_gI (t := 9) (j := 12) (ty := 0) (pc' := 40) (by decide +kernel) rfl h0 (fun v4 h1 => ?_); clear h0
  refine s_is (i := 3) (pc' := 41) (L' := [some (.ref l0), d1, d2, some (.int v4)]) (by decide +kernel) rfl rfl ?_
  refine s_rl (i := 0) (pc' := 42) (by decide +kernel) rfl ?_
  refine kX11_next (X := 0) (Y := 0) (X' := 0) (Y' := 0) (pc' := 45) (by decide +kernel) hc0 rfl h1 (fun w5 c hc1 h2 => ?_); clear h1 hc0
  refine s_il (i := 3) (pc' := 46) (by decide +kernel) rfl ?_
  have e9 := Option.some.inj h2; subst e9
  exact s_ri (X := 0) (Y := 0) (by decide +kernel) hc1 hF
set_option maxRecDepth 100000 in
set_option maxHeartbeats 4000000 in
def fX11_read (fu : Nat) (sh : HS) (I : HI) (R : HR) (l0 : Nat) (l1 : Int32) (l2 : Int32) : Option (Int32 × HI) :=
  if isT sh l0 9 = true then
    ((oI sh I l0 9 11).bind fun v1 =>
    if v1 = 3 then
      ((oI sh I l0 9 12).bind fun v2 =>
      (fX11_isIn fu sh I R (v2.toInt64) (l1.toInt64) (l2.toInt64)).bind fun v3 =>
      if v3 = 0 then
        ((fX11_fail fu sh I R l0 2).bind fun w6 =>
        (fX11_read_b36 fu sh R) w6 l0)
      else
        ((fX11_read_b36 fu sh R) I l0))
    else
      ((fX11_fail fu sh I R l0 1).bind fun w7 =>
      (fX11_read_b36 fu sh R) w7 l0))
  else none
set_option maxRecDepth 100000 in
set_option maxHeartbeats 4000000 in
theorem vX11_read {K J : Nat → Nat} {fu : Nat} {sh : HS} {I : HI} {R : HR} {F : VF} {o : (Int32 × HI)} (hF : F (.inl (some (.int o.1))) sh o.2 R) {l0 : Nat} {l1 : Int32} {l2 : Int32} (h0 : fX11_read fu sh I R l0 l1 l2 = some o) : V K J 167 0 (ent 4 [.ref l0, .int l1, .int l2]) [] sh I R (0, 0) F := by
  unfold fX11_read at h0
  obtain ⟨-, h1⟩ := gd h0; clear h0
  have hc0 : ((0 : Nat), (0 : Nat)).1 ≤ 0 ∧ ((0 : Nat), (0 : Nat)).2 ≤ 0 := ⟨Nat.le_refl _, Nat.le_refl _⟩
  show V K J 167 0 [some (.ref l0), some (.int l1), some (.int l2), none] [] sh I R (0, 0) F
  refine s_rl (i := 0) (pc' := 1) (by decide +kernel) rfl ?_
  refine s_gI (t := 9) (j := 11) (ty := 0) (pc' := 4) (by decide +kernel) rfl h1 (fun v1 h2 => ?_); clear h1
  refine s_c (v := 3) (pc' := 5) (by decide +kernel) ?_
  refine s_if (ins := .if_icmp .eq 11) (t := 16) (pc' := 8) (by decide +kernel) rfl rfl rfl h2 (fun p3 h3 => ?_) (fun p3 h3 => ?_) <;> clear h2
  · refine s_rl (i := 0) (pc' := 17) (by decide +kernel) rfl ?_
    refine s_gI (t := 9) (j := 12) (ty := 0) (pc' := 20) (by decide +kernel) rfl h3 (fun v2 h4 => ?_); clear h3
    refine s_a (ins := .i2l) (pc' := 21) (by decide +kernel) rfl ?_
    refine s_il (i := 1) (pc' := 22) (by decide +kernel) rfl ?_
    refine s_a (ins := .i2l) (pc' := 23) (by decide +kernel) rfl ?_
    refine s_il (i := 2) (pc' := 24) (by decide +kernel) rfl ?_
    refine s_a (ins := .i2l) (pc' := 25) (by decide +kernel) rfl ?_
    refine kX11_isIn (X := 0) (Y := 0) (X' := 0) (Y' := 0) (pc' := 28) (by decide +kernel) hc0 rfl h4 (fun v3 c hc1 h5 => ?_); clear h4 hc0
    refine s_ifn (ins := .ifCond .ne 8) (t := 36) (pc' := 31) (by decide +kernel) rfl rfl rfl h5 (fun p6 h6 => ?_) (fun p6 h6 => ?_) <;> clear h5
    · exact (vX11_read_b36 hF) hc1 h6
    · refine s_rl (i := 0) (pc' := 32) (by decide +kernel) rfl ?_
      refine s_c (v := 2) (pc' := 33) (by decide +kernel) ?_
      refine kX11_fail (X := 0) (Y := 0) (X' := 0) (Y' := 0) (pc' := 36) (by decide +kernel) hc1 rfl h6 (fun w6 c hc2 h7 => ?_); clear h6 hc1
      exact (vX11_read_b36 hF) hc2 h7
  · refine s_rl (i := 0) (pc' := 9) (by decide +kernel) rfl ?_
    refine s_c (v := 1) (pc' := 10) (by decide +kernel) ?_
    refine kX11_fail (X := 0) (Y := 0) (X' := 0) (Y' := 0) (pc' := 13) (by decide +kernel) hc0 rfl h3 (fun w7 c hc1 h4 => ?_); clear h3 hc0
    refine s_go (t := 36) (by decide +kernel) ?_
    exact (vX11_read_b36 hF) hc1 h4
set_option maxRecDepth 100000 in
set_option maxHeartbeats 4000000 in
theorem kX11_read {K J : Nat → Nat} {fu : Nat} {sh : HS} {I : HI} {R : HR} {F : VF} {mi pc pc' X Y X' Y' : Nat} {L : VL} {rest : List Value} {c : Nat × Nat} {l0 : Nat} {l1 : Int32} {l2 : Int32} {ω : Type} {o : ω} {g : Int32 → HI → Option ω} (hq : cQ mi pc 167 3 pc' X Y X' Y' = true) (hc : c.1 ≤ X ∧ c.2 ≤ Y) (hr : Nat.ble (catS rest) 8 = true) (h : oH (fX11_read fu sh I R l0 l1 l2) g = some o) (kk : ∀ v w c', (c'.1 ≤ X' ∧ c'.2 ≤ Y') → g v w = some o → V K J mi pc' L ((.int v) :: rest) sh w R c' F) : V K J mi pc L (.int l2 :: .int l1 :: .ref l0 :: rest) sh I R c F := by
  obtain ⟨r, h1, h2⟩ := bnd h
  have hT : isT sh l0 9 = true := by unfold fX11_read at h1; exact (gd h1).1
  have ml : mL 167 = 4 := by decide +kernel
  have mk : mK 167 = 1 := by decide +kernel
  have mc : mC 167 = 9 := by decide +kernel
  obtain ⟨v, w⟩ := r
  refine s_call (as := [.int l2, .int l1, .ref l0]) (G := fun o' sh' I' R' => o' = .inl (some (.int v)) ∧ sh' = sh ∧ I' = w ∧ R' = R) hq hc rfl hr (by rw [ml]; rfl) (Or.inl rfl) (fun _ => Or.inl ⟨by rw [mc]; decide, by rw [mc]; exact isT_iff.mp hT⟩) (fun z => absurd (mk.symm.trans z) (by decide)) (by rw [ml]; exact vX11_read (F := fun o' sh' I' R' => o' = .inl (some (.int v)) ∧ sh' = sh ∧ I' = w ∧ R' = R) ⟨rfl, rfl, rfl, rfl⟩ h1) ?_ ?_ ?_
  · rintro sh' I' R' c' hc' ⟨g1, rfl, rfl, rfl⟩
    cases g1
  · rintro v' sh' I' R' c' hc' ⟨g1, rfl, rfl, rfl⟩
    cases g1
    exact kk _ _ _ hc' h2
  · rintro E' sh' I' R' ⟨g1, rfl, rfl, rfl⟩
    cases g1
set_option maxRecDepth 100000 in
set_option maxHeartbeats 4000000 in
def fX11_readActor_b143 (fu : Nat) (sh : HS) (R : HR) (I : HI) : Option HI :=
  some I
set_option maxRecDepth 100000 in
set_option maxHeartbeats 4000000 in
theorem vX11_readActor_b143 {K J : Nat → Nat} {fu : Nat} {sh : HS} {R : HR} {F : VF} {o : HI} (hF : F (.inl none) sh o R) {I : HI} {d0 d1 d2 d3 d4 d5 : Option Value} {c : Nat × Nat} (hc0 : c.1 ≤ 0 ∧ c.2 ≤ 0) (h0 : fX11_readActor_b143 fu sh R I = some o) : V K J 168 143 [d0, d1, d2, d3, d4, d5] [] sh I R c F := by
  unfold fX11_readActor_b143 at h0
  have e9 := Option.some.inj h0; subst e9
  exact s_rv (X := 0) (Y := 0) (by decide +kernel) hc0 hF
set_option maxRecDepth 100000 in
set_option maxHeartbeats 4000000 in
def fX11_readActor_b66 (fu : Nat) (sh : HS) (R : HR) (I : HI) (l0 : Nat) (l2 : Int32) : Option HI :=
  oH (fX11_read fu sh I R l0 0 5) fun v3 w3 =>
  oH (fX11_read fu sh w3 R l0 0 199) fun v4 w4 =>
  oH (fX11_read fu sh w4 R l0 0 199) fun v5 w5 =>
  (fX11_expectSemicolon fu sh w5 R l0).bind fun w6 =>
  (fX11_isFine fu sh w6 R l0).bind fun v7 =>
  if v7 = 0 then
    ((fX11_readActor_b143 fu sh R) w6)
  else
    ((oR sh R l0 9 1).bind fun v8 =>
    (oA sh w6 v8 (l2 + 1)).bind fun v9 =>
    (oS sh w6 v8 (l2 + 1) (v9 ||| (1 <<< (v3 &&& 31)))).bind fun v10 =>
    (oR sh R l0 9 1).bind fun v11 =>
    (oS sh v10 v11 ((l2 + 2) + v3) v4).bind fun v12 =>
    (oR sh R l0 9 1).bind fun v13 =>
    (oS sh v12 v13 ((l2 + 8) + v3) v5).bind fun v14 =>
    (fX11_readActor_b143 fu sh R) v14)
set_option maxRecDepth 100000 in
set_option maxHeartbeats 4000000 in
theorem vX11_readActor_b66 {K J : Nat → Nat} {fu : Nat} {sh : HS} {R : HR} {F : VF} {o : HI} (hF : F (.inl none) sh o R) {I : HI} {l0 : Nat} {l2 : Int32} {d1 d3 d4 d5 : Option Value} {c : Nat × Nat} (hc0 : c.1 ≤ 0 ∧ c.2 ≤ 0) (h0 : fX11_readActor_b66 fu sh R I l0 l2 = some o) : V K J 168 66 [some (.ref l0), d1, some (.int l2), d3, d4, d5] [] sh I R c F := by
  unfold fX11_readActor_b66 at h0
  refine s_rl (i := 0) (pc' := 67) (by decide +kernel) rfl ?_
  refine s_c (v := 0) (pc' := 68) (by decide +kernel) ?_
  refine s_c (v := 5) (pc' := 69) (by decide +kernel) ?_
  refine kX11_read (X := 0) (Y := 0) (X' := 0) (Y' := 0) (pc' := 72) (by decide +kernel) hc0 rfl h0 (fun v3 w3 c hc1 h1 => ?_); clear h0 hc0
  refine s_is (i := 3) (pc' := 73) (L' := [some (.ref l0), d1, some (.int l2), some (.int v3), d4, d5]) (by decide +kernel) rfl rfl ?_
  refine s_rl (i := 0) (pc' := 74) (by decide +kernel) rfl ?_
  refine s_c (v := 0) (pc' := 75) (by decide +kernel) ?_
  refine s_c (v := 199) (pc' := 78) (by decide +kernel) ?_
  refine kX11_read (X := 0) (Y := 0) (X' := 0) (Y' := 0) (pc' := 81) (by decide +kernel) hc1 rfl h1 (fun v4 w4 c hc2 h2 => ?_); clear h1 hc1
  refine s_is (i := 4) (pc' := 83) (L' := [some (.ref l0), d1, some (.int l2), some (.int v3), some (.int v4), d5]) (by decide +kernel) rfl rfl ?_
  refine s_rl (i := 0) (pc' := 84) (by decide +kernel) rfl ?_
  refine s_c (v := 0) (pc' := 85) (by decide +kernel) ?_
  refine s_c (v := 199) (pc' := 88) (by decide +kernel) ?_
  refine kX11_read (X := 0) (Y := 0) (X' := 0) (Y' := 0) (pc' := 91) (by decide +kernel) hc2 rfl h2 (fun v5 w5 c hc3 h3 => ?_); clear h2 hc2
  refine s_is (i := 5) (pc' := 93) (L' := [some (.ref l0), d1, some (.int l2), some (.int v3), some (.int v4), some (.int v5)]) (by decide +kernel) rfl rfl ?_
  refine s_rl (i := 0) (pc' := 94) (by decide +kernel) rfl ?_
  refine kX11_expectSemicolon (X := 0) (Y := 0) (X' := 0) (Y' := 0) (pc' := 97) (by decide +kernel) hc3 rfl h3 (fun w6 c hc4 h4 => ?_); clear h3 hc3
  refine s_rl (i := 0) (pc' := 98) (by decide +kernel) rfl ?_
  refine kX11_isFine (X := 0) (Y := 0) (X' := 0) (Y' := 0) (pc' := 101) (by decide +kernel) hc4 rfl h4 (fun v7 c hc5 h5 => ?_); clear h4 hc4
  refine s_if (ins := .ifCond .eq 42) (t := 143) (pc' := 104) (by decide +kernel) rfl rfl rfl h5 (fun p6 h6 => ?_) (fun p6 h6 => ?_) <;> clear h5
  · exact (vX11_readActor_b143 hF) hc5 h6
  · refine s_rl (i := 0) (pc' := 105) (by decide +kernel) rfl ?_
    refine s_gR (t := 9) (j := 1) (pc' := 108) (by decide +kernel) h6 (fun v8 h7 => ?_); clear h6
    refine s_il (i := 2) (pc' := 109) (by decide +kernel) rfl ?_
    refine s_c (v := 1) (pc' := 110) (by decide +kernel) ?_
    refine s_a (ins := .iadd) (pc' := 111) (by decide +kernel) rfl ?_
    refine s_a (ins := .dup2) (pc' := 112) (by decide +kernel) rfl ?_
    refine s_al (pc' := 113) (by decide +kernel) h7 (fun v9 h8 => ?_); clear h7
    refine s_c (v := 1) (pc' := 114) (by decide +kernel) ?_
    refine s_il (i := 3) (pc' := 115) (by decide +kernel) rfl ?_
    refine s_a (ins := .ishl) (pc' := 116) (by decide +kernel) rfl ?_
    refine s_a (ins := .ior) (pc' := 117) (by decide +kernel) rfl ?_
    refine s_as (pc' := 118) (by decide +kernel) h8 (fun v10 h9 => ?_); clear h8
    refine s_rl (i := 0) (pc' := 119) (by decide +kernel) rfl ?_
    refine s_gR (t := 9) (j := 1) (pc' := 122) (by decide +kernel) h9 (fun v11 h10 => ?_); clear h9
    refine s_il (i := 2) (pc' := 123) (by decide +kernel) rfl ?_
    refine s_c (v := 2) (pc' := 124) (by decide +kernel) ?_
    refine s_a (ins := .iadd) (pc' := 125) (by decide +kernel) rfl ?_
    refine s_il (i := 3) (pc' := 126) (by decide +kernel) rfl ?_
    refine s_a (ins := .iadd) (pc' := 127) (by decide +kernel) rfl ?_
    refine s_il (i := 4) (pc' := 129) (by decide +kernel) rfl ?_
    refine s_as (pc' := 130) (by decide +kernel) h10 (fun v12 h11 => ?_); clear h10
    refine s_rl (i := 0) (pc' := 131) (by decide +kernel) rfl ?_
    refine s_gR (t := 9) (j := 1) (pc' := 134) (by decide +kernel) h11 (fun v13 h12 => ?_); clear h11
    refine s_il (i := 2) (pc' := 135) (by decide +kernel) rfl ?_
    refine s_c (v := 8) (pc' := 137) (by decide +kernel) ?_
    refine s_a (ins := .iadd) (pc' := 138) (by decide +kernel) rfl ?_
    refine s_il (i := 3) (pc' := 139) (by decide +kernel) rfl ?_
    refine s_a (ins := .iadd) (pc' := 140) (by decide +kernel) rfl ?_
    refine s_il (i := 5) (pc' := 142) (by decide +kernel) rfl ?_
    refine s_as (pc' := 143) (by decide +kernel) h12 (fun v14 h13 => ?_); clear h12
    exact (vX11_readActor_b143 hF) hc5 h13
set_option maxRecDepth 100000 in
set_option maxHeartbeats 4000000 in
def fX11_readActor (fu : Nat) (sh : HS) (I : HI) (R : HR) (l0 : Nat) (l1 : Int32) : Option HI :=
  if isT sh l0 9 = true then
    ((fX11_expectWord fu sh I R l0 12).bind fun w1 =>
    (fX11_isFine fu sh w1 R l0).bind fun v2 =>
    if v2 = 0 then
      ((fX11_readActor_b66 fu sh R) w1 l0 (5 + (14 * l1)))
    else
      ((oI sh w1 l0 9 11).bind fun v15 =>
      if v15 = 3 then
        ((oI sh w1 l0 9 12).bind fun v16 =>
        (fX11_isIn fu sh w1 R (v16.toInt64) 0 5).bind fun v17 =>
        if v17 = 0 then
          ((fX11_readActor_b66 fu sh R) w1 l0 (5 + (14 * l1)))
        else
          ((oR sh R l0 9 1).bind fun v18 =>
          (oA sh w1 v18 ((5 + (14 * l1)) + 1)).bind fun v19 =>
          (oI sh w1 l0 9 12).bind fun v20 =>
          (fX11_has fu sh w1 R v19 v20).bind fun v21 =>
          if v21 = 0 then
            ((fX11_readActor_b66 fu sh R) w1 l0 (5 + (14 * l1)))
          else
            ((fX11_fail fu sh w1 R l0 3).bind fun w22 =>
            (fX11_readActor_b66 fu sh R) w22 l0 (5 + (14 * l1)))))
      else
        ((fX11_readActor_b66 fu sh R) w1 l0 (5 + (14 * l1)))))
  else none
set_option maxRecDepth 100000 in
set_option maxHeartbeats 4000000 in
theorem vX11_readActor {K J : Nat → Nat} {fu : Nat} {sh : HS} {I : HI} {R : HR} {F : VF} {o : HI} (hF : F (.inl none) sh o R) {l0 : Nat} {l1 : Int32} (h0 : fX11_readActor fu sh I R l0 l1 = some o) : V K J 168 0 (ent 6 [.ref l0, .int l1]) [] sh I R (0, 0) F := by
  unfold fX11_readActor at h0
  obtain ⟨-, h1⟩ := gd h0; clear h0
  have hc0 : ((0 : Nat), (0 : Nat)).1 ≤ 0 ∧ ((0 : Nat), (0 : Nat)).2 ≤ 0 := ⟨Nat.le_refl _, Nat.le_refl _⟩
  show V K J 168 0 [some (.ref l0), some (.int l1), none, none, none, none] [] sh I R (0, 0) F
  refine s_c (v := 5) (pc' := 1) (by decide +kernel) ?_
  refine s_c (v := 14) (pc' := 3) (by decide +kernel) ?_
  refine s_il (i := 1) (pc' := 4) (by decide +kernel) rfl ?_
  refine s_a (ins := .imul) (pc' := 5) (by decide +kernel) rfl ?_
  refine s_a (ins := .iadd) (pc' := 6) (by decide +kernel) rfl ?_
  refine s_is (i := 2) (pc' := 7) (L' := [some (.ref l0), some (.int l1), some (.int (5 + (14 * l1))), none, none, none]) (by decide +kernel) rfl rfl ?_
  refine s_rl (i := 0) (pc' := 8) (by decide +kernel) rfl ?_
  refine s_cS (i := 12) (pc' := 10) (by decide +kernel) ?_
  refine kX11_expectWord (X := 0) (Y := 0) (X' := 0) (Y' := 0) (pc' := 13) (by decide +kernel) hc0 rfl h1 (fun w1 c hc1 h2 => ?_); clear h1 hc0
  refine s_rl (i := 0) (pc' := 14) (by decide +kernel) rfl ?_
  refine kX11_isFine (X := 0) (Y := 0) (X' := 0) (Y' := 0) (pc' := 17) (by decide +kernel) hc1 rfl h2 (fun v2 c hc2 h3 => ?_); clear h2 hc1
  refine s_if (ins := .ifCond .eq 49) (t := 66) (pc' := 20) (by decide +kernel) rfl rfl rfl h3 (fun p4 h4 => ?_) (fun p4 h4 => ?_) <;> clear h3
  · exact (vX11_readActor_b66 hF) hc2 h4
  · refine s_rl (i := 0) (pc' := 21) (by decide +kernel) rfl ?_
    refine s_gI (t := 9) (j := 11) (ty := 0) (pc' := 24) (by decide +kernel) rfl h4 (fun v15 h5 => ?_); clear h4
    refine s_c (v := 3) (pc' := 25) (by decide +kernel) ?_
    refine s_ifn (ins := .if_icmp .ne 41) (t := 66) (pc' := 28) (by decide +kernel) rfl rfl rfl h5 (fun p6 h6 => ?_) (fun p6 h6 => ?_) <;> clear h5
    · exact (vX11_readActor_b66 hF) hc2 h6
    · refine s_rl (i := 0) (pc' := 29) (by decide +kernel) rfl ?_
      refine s_gI (t := 9) (j := 12) (ty := 0) (pc' := 32) (by decide +kernel) rfl h6 (fun v16 h7 => ?_); clear h6
      refine s_a (ins := .i2l) (pc' := 33) (by decide +kernel) rfl ?_
      refine s_cJ (v := 0) (pc' := 34) (by decide +kernel) ?_
      refine s_cJ (v := 5) (pc' := 37) (by decide +kernel) ?_
      refine kX11_isIn (X := 0) (Y := 0) (X' := 0) (Y' := 0) (pc' := 40) (by decide +kernel) hc2 rfl h7 (fun v17 c hc3 h8 => ?_); clear h7 hc2
      refine s_if (ins := .ifCond .eq 26) (t := 66) (pc' := 43) (by decide +kernel) rfl rfl rfl h8 (fun p9 h9 => ?_) (fun p9 h9 => ?_) <;> clear h8
      · exact (vX11_readActor_b66 hF) hc3 h9
      · refine s_rl (i := 0) (pc' := 44) (by decide +kernel) rfl ?_
        refine s_gR (t := 9) (j := 1) (pc' := 47) (by decide +kernel) h9 (fun v18 h10 => ?_); clear h9
        refine s_il (i := 2) (pc' := 48) (by decide +kernel) rfl ?_
        refine s_c (v := 1) (pc' := 49) (by decide +kernel) ?_
        refine s_a (ins := .iadd) (pc' := 50) (by decide +kernel) rfl ?_
        refine s_al (pc' := 51) (by decide +kernel) h10 (fun v19 h11 => ?_); clear h10
        refine s_rl (i := 0) (pc' := 52) (by decide +kernel) rfl ?_
        refine s_gI (t := 9) (j := 12) (ty := 0) (pc' := 55) (by decide +kernel) rfl h11 (fun v20 h12 => ?_); clear h11
        refine kX11_has (X := 0) (Y := 0) (X' := 0) (Y' := 0) (pc' := 58) (by decide +kernel) hc3 rfl h12 (fun v21 c hc4 h13 => ?_); clear h12 hc3
        refine s_if (ins := .ifCond .eq 8) (t := 66) (pc' := 61) (by decide +kernel) rfl rfl rfl h13 (fun p14 h14 => ?_) (fun p14 h14 => ?_) <;> clear h13
        · exact (vX11_readActor_b66 hF) hc4 h14
        · refine s_rl (i := 0) (pc' := 62) (by decide +kernel) rfl ?_
          refine s_c (v := 3) (pc' := 63) (by decide +kernel) ?_
          refine kX11_fail (X := 0) (Y := 0) (X' := 0) (Y' := 0) (pc' := 66) (by decide +kernel) hc4 rfl h14 (fun w22 c hc5 h15 => ?_); clear h14 hc4
          exact (vX11_readActor_b66 hF) hc5 h15
set_option maxRecDepth 100000 in
set_option maxHeartbeats 4000000 in
theorem kX11_readActor {K J : Nat → Nat} {fu : Nat} {sh : HS} {I : HI} {R : HR} {F : VF} {mi pc pc' X Y X' Y' : Nat} {L : VL} {rest : List Value} {c : Nat × Nat} {l0 : Nat} {l1 : Int32} {ω : Type} {o : ω} {g : HI → Option ω} (hq : cQ mi pc 168 2 pc' X Y X' Y' = true) (hc : c.1 ≤ X ∧ c.2 ≤ Y) (hr : Nat.ble (catS rest) 8 = true) (h : (fX11_readActor fu sh I R l0 l1).bind g = some o) (kk : ∀ w c', (c'.1 ≤ X' ∧ c'.2 ≤ Y') → g w = some o → V K J mi pc' L (rest) sh w R c' F) : V K J mi pc L (.int l1 :: .ref l0 :: rest) sh I R c F := by
  obtain ⟨r, h1, h2⟩ := bnd h
  have hT : isT sh l0 9 = true := by unfold fX11_readActor at h1; exact (gd h1).1
  have ml : mL 168 = 6 := by decide +kernel
  have mk : mK 168 = 1 := by decide +kernel
  have mc : mC 168 = 9 := by decide +kernel
  refine s_call (as := [.int l1, .ref l0]) (G := fun o' sh' I' R' => o' = .inl none ∧ sh' = sh ∧ I' = r ∧ R' = R) hq hc rfl hr (by rw [ml]; rfl) (Or.inl rfl) (fun _ => Or.inl ⟨by rw [mc]; decide, by rw [mc]; exact isT_iff.mp hT⟩) (fun z => absurd (mk.symm.trans z) (by decide)) (by rw [ml]; exact vX11_readActor (F := fun o' sh' I' R' => o' = .inl none ∧ sh' = sh ∧ I' = r ∧ R' = R) ⟨rfl, rfl, rfl, rfl⟩ h1) ?_ ?_ ?_
  · rintro sh' I' R' c' hc' ⟨g1, rfl, rfl, rfl⟩
    cases g1
    exact kk _ _ hc' h2
  · rintro v' sh' I' R' c' hc' ⟨g1, rfl, rfl, rfl⟩
    cases g1
  · rintro E' sh' I' R' ⟨g1, rfl, rfl, rfl⟩
    cases g1
set_option maxRecDepth 100000 in
set_option maxHeartbeats 4000000 in
def fX11_readCast_b75 (fu : Nat) (sh : HS) (R : HR) (I : HI) (l0 : Nat) : Option (Int32 × HI) :=
  (oI sh I l0 9 12).bind fun v5 =>
  some (v5, I)
set_option maxRecDepth 100000 in
set_option maxHeartbeats 4000000 in
theorem vX11_readCast_b75 {K J : Nat → Nat} {fu : Nat} {sh : HS} {R : HR} {F : VF} {o : (Int32 × HI)} (hF : F (.inl (some (.int o.1))) sh o.2 R) {I : HI} {l0 : Nat} {d1 d2 : Option Value} {c : Nat × Nat} (hc0 : c.1 ≤ 0 ∧ c.2 ≤ 0) (h0 : fX11_readCast_b75 fu sh R I l0 = some o) : V K J 169 75 [some (.ref l0), d1, d2] [] sh I R c F := by
  unfold fX11_readCast_b75 at h0
  refine s_rl (i := 0) (pc' := 76) (by decide +kernel) rfl ?_
  refine s_gI (t := 9) (j := 12) (ty := 0) (pc' := 79) (by decide +kernel) rfl h0 (fun v5 h1 => ?_); clear h0
  have e9 := Option.some.inj h1; subst e9
  exact s_ri (X := 0) (Y := 0) (by decide +kernel) hc0 hF
set_option maxRecDepth 100000 in
set_option maxHeartbeats 4000000 in
def fX11_readCast_b54 (fu : Nat) (sh : HS) (R : HR) (I : HI) (l0 : Nat) : Option (Int32 × HI) :=
  (fX11_fail fu sh I R l0 2).bind fun w4 =>
  (fX11_readCast_b75 fu sh R) w4 l0
set_option maxRecDepth 100000 in
set_option maxHeartbeats 4000000 in
theorem vX11_readCast_b54 {K J : Nat → Nat} {fu : Nat} {sh : HS} {R : HR} {F : VF} {o : (Int32 × HI)} (hF : F (.inl (some (.int o.1))) sh o.2 R) {I : HI} {l0 : Nat} {d1 d2 : Option Value} {c : Nat × Nat} (hc0 : c.1 ≤ 0 ∧ c.2 ≤ 0) (h0 : fX11_readCast_b54 fu sh R I l0 = some o) : V K J 169 54 [some (.ref l0), d1, d2] [] sh I R c F := by
  unfold fX11_readCast_b54 at h0
  refine s_rl (i := 0) (pc' := 55) (by decide +kernel) rfl ?_
  refine s_c (v := 2) (pc' := 56) (by decide +kernel) ?_
  refine kX11_fail (X := 0) (Y := 0) (X' := 0) (Y' := 0) (pc' := 59) (by decide +kernel) hc0 rfl h0 (fun w4 c hc1 h1 => ?_); clear h0 hc0
  refine s_go (t := 75) (by decide +kernel) ?_
  exact (vX11_readCast_b75 hF) hc1 h1
set_option maxRecDepth 100000 in
set_option maxHeartbeats 4000000 in
def fX11_readCast (fu : Nat) (sh : HS) (I : HI) (R : HR) (l0 : Nat) (l1 : Int32) (l2 : Int32) : Option (Int32 × HI) :=
  if isT sh l0 9 = true then
    ((oI sh I l0 9 11).bind fun v1 =>
    if v1 = 3 then
      ((oI sh I l0 9 12).bind fun v2 =>
      (fX11_isIn fu sh I R (v2.toInt64) 0 5).bind fun v3 =>
      if v3 = 0 then
        ((fX11_readCast_b54 fu sh R) I l0)
      else
        ((oR sh R l0 9 1).bind fun v6 =>
        (oA sh I v6 ((5 + (14 * l1)) + 1)).bind fun v7 =>
        (oI sh I l0 9 12).bind fun v8 =>
        (fX11_has fu sh I R v7 v8).bind fun v9 =>
        if v9 = 0 then
          ((fX11_readCast_b54 fu sh R) I l0)
        else
          ((oI sh I l0 9 12).bind fun v10 =>
          if v10 = l2 then
            ((fX11_fail fu sh I R l0 3).bind fun w11 =>
            (fX11_readCast_b75 fu sh R) w11 l0)
          else
            ((fX11_readCast_b75 fu sh R) I l0))))
    else
      ((fX11_fail fu sh I R l0 1).bind fun w12 =>
      (fX11_readCast_b75 fu sh R) w12 l0))
  else none
set_option maxRecDepth 100000 in
set_option maxHeartbeats 4000000 in
theorem vX11_readCast {K J : Nat → Nat} {fu : Nat} {sh : HS} {I : HI} {R : HR} {F : VF} {o : (Int32 × HI)} (hF : F (.inl (some (.int o.1))) sh o.2 R) {l0 : Nat} {l1 : Int32} {l2 : Int32} (h0 : fX11_readCast fu sh I R l0 l1 l2 = some o) : V K J 169 0 (ent 3 [.ref l0, .int l1, .int l2]) [] sh I R (0, 0) F := by
  unfold fX11_readCast at h0
  obtain ⟨-, h1⟩ := gd h0; clear h0
  have hc0 : ((0 : Nat), (0 : Nat)).1 ≤ 0 ∧ ((0 : Nat), (0 : Nat)).2 ≤ 0 := ⟨Nat.le_refl _, Nat.le_refl _⟩
  show V K J 169 0 [some (.ref l0), some (.int l1), some (.int l2)] [] sh I R (0, 0) F
  refine s_rl (i := 0) (pc' := 1) (by decide +kernel) rfl ?_
  refine s_gI (t := 9) (j := 11) (ty := 0) (pc' := 4) (by decide +kernel) rfl h1 (fun v1 h2 => ?_); clear h1
  refine s_c (v := 3) (pc' := 5) (by decide +kernel) ?_
  refine s_if (ins := .if_icmp .eq 11) (t := 16) (pc' := 8) (by decide +kernel) rfl rfl rfl h2 (fun p3 h3 => ?_) (fun p3 h3 => ?_) <;> clear h2
  · refine s_rl (i := 0) (pc' := 17) (by decide +kernel) rfl ?_
    refine s_gI (t := 9) (j := 12) (ty := 0) (pc' := 20) (by decide +kernel) rfl h3 (fun v2 h4 => ?_); clear h3
    refine s_a (ins := .i2l) (pc' := 21) (by decide +kernel) rfl ?_
    refine s_cJ (v := 0) (pc' := 22) (by decide +kernel) ?_
    refine s_cJ (v := 5) (pc' := 25) (by decide +kernel) ?_
    refine kX11_isIn (X := 0) (Y := 0) (X' := 0) (Y' := 0) (pc' := 28) (by decide +kernel) hc0 rfl h4 (fun v3 c hc1 h5 => ?_); clear h4 hc0
    refine s_if (ins := .ifCond .eq 26) (t := 54) (pc' := 31) (by decide +kernel) rfl rfl rfl h5 (fun p6 h6 => ?_) (fun p6 h6 => ?_) <;> clear h5
    · exact (vX11_readCast_b54 hF) hc1 h6
    · refine s_rl (i := 0) (pc' := 32) (by decide +kernel) rfl ?_
      refine s_gR (t := 9) (j := 1) (pc' := 35) (by decide +kernel) h6 (fun v6 h7 => ?_); clear h6
      refine s_c (v := 5) (pc' := 36) (by decide +kernel) ?_
      refine s_c (v := 14) (pc' := 38) (by decide +kernel) ?_
      refine s_il (i := 1) (pc' := 39) (by decide +kernel) rfl ?_
      refine s_a (ins := .imul) (pc' := 40) (by decide +kernel) rfl ?_
      refine s_a (ins := .iadd) (pc' := 41) (by decide +kernel) rfl ?_
      refine s_c (v := 1) (pc' := 42) (by decide +kernel) ?_
      refine s_a (ins := .iadd) (pc' := 43) (by decide +kernel) rfl ?_
      refine s_al (pc' := 44) (by decide +kernel) h7 (fun v7 h8 => ?_); clear h7
      refine s_rl (i := 0) (pc' := 45) (by decide +kernel) rfl ?_
      refine s_gI (t := 9) (j := 12) (ty := 0) (pc' := 48) (by decide +kernel) rfl h8 (fun v8 h9 => ?_); clear h8
      refine kX11_has (X := 0) (Y := 0) (X' := 0) (Y' := 0) (pc' := 51) (by decide +kernel) hc1 rfl h9 (fun v9 c hc2 h10 => ?_); clear h9 hc1
      refine s_ifn (ins := .ifCond .ne 11) (t := 62) (pc' := 54) (by decide +kernel) rfl rfl rfl h10 (fun p11 h11 => ?_) (fun p11 h11 => ?_) <;> clear h10
      · refine s_rl (i := 0) (pc' := 63) (by decide +kernel) rfl ?_
        refine s_gI (t := 9) (j := 12) (ty := 0) (pc' := 66) (by decide +kernel) rfl h11 (fun v10 h12 => ?_); clear h11
        refine s_il (i := 2) (pc' := 67) (by decide +kernel) rfl ?_
        refine s_ifn (ins := .if_icmp .ne 8) (t := 75) (pc' := 70) (by decide +kernel) rfl rfl rfl h12 (fun p13 h13 => ?_) (fun p13 h13 => ?_) <;> clear h12
        · exact (vX11_readCast_b75 hF) hc2 h13
        · refine s_rl (i := 0) (pc' := 71) (by decide +kernel) rfl ?_
          refine s_c (v := 3) (pc' := 72) (by decide +kernel) ?_
          refine kX11_fail (X := 0) (Y := 0) (X' := 0) (Y' := 0) (pc' := 75) (by decide +kernel) hc2 rfl h13 (fun w11 c hc3 h14 => ?_); clear h13 hc2
          exact (vX11_readCast_b75 hF) hc3 h14
      · exact (vX11_readCast_b54 hF) hc2 h11
  · refine s_rl (i := 0) (pc' := 9) (by decide +kernel) rfl ?_
    refine s_c (v := 1) (pc' := 10) (by decide +kernel) ?_
    refine kX11_fail (X := 0) (Y := 0) (X' := 0) (Y' := 0) (pc' := 13) (by decide +kernel) hc0 rfl h3 (fun w12 c hc1 h4 => ?_); clear h3 hc0
    refine s_go (t := 75) (by decide +kernel) ?_
    exact (vX11_readCast_b75 hF) hc1 h4
set_option maxRecDepth 100000 in
set_option maxHeartbeats 4000000 in
theorem kX11_readCast {K J : Nat → Nat} {fu : Nat} {sh : HS} {I : HI} {R : HR} {F : VF} {mi pc pc' X Y X' Y' : Nat} {L : VL} {rest : List Value} {c : Nat × Nat} {l0 : Nat} {l1 : Int32} {l2 : Int32} {ω : Type} {o : ω} {g : Int32 → HI → Option ω} (hq : cQ mi pc 169 3 pc' X Y X' Y' = true) (hc : c.1 ≤ X ∧ c.2 ≤ Y) (hr : Nat.ble (catS rest) 8 = true) (h : oH (fX11_readCast fu sh I R l0 l1 l2) g = some o) (kk : ∀ v w c', (c'.1 ≤ X' ∧ c'.2 ≤ Y') → g v w = some o → V K J mi pc' L ((.int v) :: rest) sh w R c' F) : V K J mi pc L (.int l2 :: .int l1 :: .ref l0 :: rest) sh I R c F := by
  obtain ⟨r, h1, h2⟩ := bnd h
  have hT : isT sh l0 9 = true := by unfold fX11_readCast at h1; exact (gd h1).1
  have ml : mL 169 = 3 := by decide +kernel
  have mk : mK 169 = 1 := by decide +kernel
  have mc : mC 169 = 9 := by decide +kernel
  obtain ⟨v, w⟩ := r
  refine s_call (as := [.int l2, .int l1, .ref l0]) (G := fun o' sh' I' R' => o' = .inl (some (.int v)) ∧ sh' = sh ∧ I' = w ∧ R' = R) hq hc rfl hr (by rw [ml]; rfl) (Or.inl rfl) (fun _ => Or.inl ⟨by rw [mc]; decide, by rw [mc]; exact isT_iff.mp hT⟩) (fun z => absurd (mk.symm.trans z) (by decide)) (by rw [ml]; exact vX11_readCast (F := fun o' sh' I' R' => o' = .inl (some (.int v)) ∧ sh' = sh ∧ I' = w ∧ R' = R) ⟨rfl, rfl, rfl, rfl⟩ h1) ?_ ?_ ?_
  · rintro sh' I' R' c' hc' ⟨g1, rfl, rfl, rfl⟩
    cases g1
  · rintro v' sh' I' R' c' hc' ⟨g1, rfl, rfl, rfl⟩
    cases g1
    exact kk _ _ _ hc' h2
  · rintro E' sh' I' R' ⟨g1, rfl, rfl, rfl⟩
    cases g1
set_option maxRecDepth 100000 in
set_option maxHeartbeats 4000000 in
def fX11_readShot_b122 (fu : Nat) (sh : HS) (R : HR) (I : HI) (l0 : Nat) (l1 : Int32) (l3 : Int32) (l4 : Int32) (l5 : Int32) (s0 : Int32) : Option HI :=
  (fX11_next fu sh I R l0).bind fun w11 =>
  oH (fX11_read fu sh w11 R l0 1 99) fun v12 w12 =>
  (fX11_expectSemicolon fu sh w12 R l0).bind fun w13 =>
  (fX11_isFine fu sh w13 R l0).bind fun v14 =>
  if v14 = 0 then
    (some w13)
  else
    ((oR sh R l0 9 1).bind fun v15 =>
    (oA sh w13 v15 4).bind fun v16 =>
    (oR sh R l0 9 1).bind fun v17 =>
    (oS sh w13 v17 (47 + (6 * v16)) l1).bind fun v18 =>
    (oR sh R l0 9 1).bind fun v19 =>
    (oS sh v18 v19 ((47 + (6 * v16)) + 1) l3).bind fun v20 =>
    (oR sh R l0 9 1).bind fun v21 =>
    (oS sh v20 v21 ((47 + (6 * v16)) + 2) l4).bind fun v22 =>
    (oR sh R l0 9 1).bind fun v23 =>
    (oS sh v22 v23 ((47 + (6 * v16)) + 3) l5).bind fun v24 =>
    (oR sh R l0 9 1).bind fun v25 =>
    (oS sh v24 v25 ((47 + (6 * v16)) + 4) s0).bind fun v26 =>
    (oR sh R l0 9 1).bind fun v27 =>
    (oS sh v26 v27 ((47 + (6 * v16)) + 5) v12).bind fun v28 =>
    (oR sh R l0 9 1).bind fun v29 =>
    (oA sh v28 v29 4).bind fun v30 =>
    (oS sh v28 v29 4 (v30 + 1)).bind fun v31 =>
    some v31)
set_option maxRecDepth 100000 in
set_option maxHeartbeats 4000000 in
theorem vX11_readShot_b122 {K J : Nat → Nat} {fu : Nat} {sh : HS} {R : HR} {F : VF} {o : HI} (hF : F (.inl none) sh o R) {I : HI} {l0 : Nat} {l1 : Int32} {l3 : Int32} {l4 : Int32} {l5 : Int32} {s0 : Int32} {d2 d6 d7 d8 : Option Value} {c : Nat × Nat} (hc0 : c.1 ≤ 0 ∧ c.2 ≤ 0) (h0 : fX11_readShot_b122 fu sh R I l0 l1 l3 l4 l5 s0 = some o) : V K J 170 122 [some (.ref l0), some (.int l1), d2, some (.int l3), some (.int l4), some (.int l5), d6, d7, d8] [.int s0] sh I R c F := by
  unfold fX11_readShot_b122 at h0
  refine s_is (i := 6) (pc' := 124) (L' := [some (.ref l0), some (.int l1), d2, some (.int l3), some (.int l4), some (.int l5), some (.int s0), d7, d8]) (by decide +kernel) rfl rfl ?_
  refine s_rl (i := 0) (pc' := 125) (by decide +kernel) rfl ?_
  refine kX11_next (X := 0) (Y := 0) (X' := 0) (Y' := 0) (pc' := 128) (by decide +kernel) hc0 rfl h0 (fun w11 c hc1 h1 => ?_); clear h0 hc0
  refine s_rl (i := 0) (pc' := 129) (by decide +kernel) rfl ?_
  refine s_c (v := 1) (pc' := 130) (by decide +kernel) ?_
  refine s_c (v := 99) (pc' := 132) (by decide +kernel) ?_
  refine kX11_read (X := 0) (Y := 0) (X' := 0) (Y' := 0) (pc' := 135) (by decide +kernel) hc1 rfl h1 (fun v12 w12 c hc2 h2 => ?_); clear h1 hc1
  refine s_is (i := 7) (pc' := 137) (L' := [some (.ref l0), some (.int l1), d2, some (.int l3), some (.int l4), some (.int l5), some (.int s0), some (.int v12), d8]) (by decide +kernel) rfl rfl ?_
  refine s_rl (i := 0) (pc' := 138) (by decide +kernel) rfl ?_
  refine kX11_expectSemicolon (X := 0) (Y := 0) (X' := 0) (Y' := 0) (pc' := 141) (by decide +kernel) hc2 rfl h2 (fun w13 c hc3 h3 => ?_); clear h2 hc2
  refine s_rl (i := 0) (pc' := 142) (by decide +kernel) rfl ?_
  refine kX11_isFine (X := 0) (Y := 0) (X' := 0) (Y' := 0) (pc' := 145) (by decide +kernel) hc3 rfl h3 (fun v14 c hc4 h4 => ?_); clear h3 hc3
  refine s_ifn (ins := .ifCond .ne 4) (t := 149) (pc' := 148) (by decide +kernel) rfl rfl rfl h4 (fun p5 h5 => ?_) (fun p5 h5 => ?_) <;> clear h4
  · refine s_c (v := 47) (pc' := 151) (by decide +kernel) ?_
    refine s_c (v := 6) (pc' := 153) (by decide +kernel) ?_
    refine s_rl (i := 0) (pc' := 154) (by decide +kernel) rfl ?_
    refine s_gR (t := 9) (j := 1) (pc' := 157) (by decide +kernel) h5 (fun v15 h6 => ?_); clear h5
    refine s_c (v := 4) (pc' := 158) (by decide +kernel) ?_
    refine s_al (pc' := 159) (by decide +kernel) h6 (fun v16 h7 => ?_); clear h6
    refine s_a (ins := .imul) (pc' := 160) (by decide +kernel) rfl ?_
    refine s_a (ins := .iadd) (pc' := 161) (by decide +kernel) rfl ?_
    refine s_is (i := 8) (pc' := 163) (L' := [some (.ref l0), some (.int l1), d2, some (.int l3), some (.int l4), some (.int l5), some (.int s0), some (.int v12), some (.int (47 + (6 * v16)))]) (by decide +kernel) rfl rfl ?_
    refine s_rl (i := 0) (pc' := 164) (by decide +kernel) rfl ?_
    refine s_gR (t := 9) (j := 1) (pc' := 167) (by decide +kernel) h7 (fun v17 h8 => ?_); clear h7
    refine s_il (i := 8) (pc' := 169) (by decide +kernel) rfl ?_
    refine s_il (i := 1) (pc' := 170) (by decide +kernel) rfl ?_
    refine s_as (pc' := 171) (by decide +kernel) h8 (fun v18 h9 => ?_); clear h8
    refine s_rl (i := 0) (pc' := 172) (by decide +kernel) rfl ?_
    refine s_gR (t := 9) (j := 1) (pc' := 175) (by decide +kernel) h9 (fun v19 h10 => ?_); clear h9
    refine s_il (i := 8) (pc' := 177) (by decide +kernel) rfl ?_
    refine s_c (v := 1) (pc' := 178) (by decide +kernel) ?_
    refine s_a (ins := .iadd) (pc' := 179) (by decide +kernel) rfl ?_
    refine s_il (i := 3) (pc' := 180) (by decide +kernel) rfl ?_
    refine s_as (pc' := 181) (by decide +kernel) h10 (fun v20 h11 => ?_); clear h10
    refine s_rl (i := 0) (pc' := 182) (by decide +kernel) rfl ?_
    refine s_gR (t := 9) (j := 1) (pc' := 185) (by decide +kernel) h11 (fun v21 h12 => ?_); clear h11
    refine s_il (i := 8) (pc' := 187) (by decide +kernel) rfl ?_
    refine s_c (v := 2) (pc' := 188) (by decide +kernel) ?_
    refine s_a (ins := .iadd) (pc' := 189) (by decide +kernel) rfl ?_
    refine s_il (i := 4) (pc' := 191) (by decide +kernel) rfl ?_
    refine s_as (pc' := 192) (by decide +kernel) h12 (fun v22 h13 => ?_); clear h12
    refine s_rl (i := 0) (pc' := 193) (by decide +kernel) rfl ?_
    refine s_gR (t := 9) (j := 1) (pc' := 196) (by decide +kernel) h13 (fun v23 h14 => ?_); clear h13
    refine s_il (i := 8) (pc' := 198) (by decide +kernel) rfl ?_
    refine s_c (v := 3) (pc' := 199) (by decide +kernel) ?_
    refine s_a (ins := .iadd) (pc' := 200) (by decide +kernel) rfl ?_
    refine s_il (i := 5) (pc' := 202) (by decide +kernel) rfl ?_
    refine s_as (pc' := 203) (by decide +kernel) h14 (fun v24 h15 => ?_); clear h14
    refine s_rl (i := 0) (pc' := 204) (by decide +kernel) rfl ?_
    refine s_gR (t := 9) (j := 1) (pc' := 207) (by decide +kernel) h15 (fun v25 h16 => ?_); clear h15
    refine s_il (i := 8) (pc' := 209) (by decide +kernel) rfl ?_
    refine s_c (v := 4) (pc' := 210) (by decide +kernel) ?_
    refine s_a (ins := .iadd) (pc' := 211) (by decide +kernel) rfl ?_
    refine s_il (i := 6) (pc' := 213) (by decide +kernel) rfl ?_
    refine s_as (pc' := 214) (by decide +kernel) h16 (fun v26 h17 => ?_); clear h16
    refine s_rl (i := 0) (pc' := 215) (by decide +kernel) rfl ?_
    refine s_gR (t := 9) (j := 1) (pc' := 218) (by decide +kernel) h17 (fun v27 h18 => ?_); clear h17
    refine s_il (i := 8) (pc' := 220) (by decide +kernel) rfl ?_
    refine s_c (v := 5) (pc' := 221) (by decide +kernel) ?_
    refine s_a (ins := .iadd) (pc' := 222) (by decide +kernel) rfl ?_
    refine s_il (i := 7) (pc' := 224) (by decide +kernel) rfl ?_
    refine s_as (pc' := 225) (by decide +kernel) h18 (fun v28 h19 => ?_); clear h18
    refine s_rl (i := 0) (pc' := 226) (by decide +kernel) rfl ?_
    refine s_gR (t := 9) (j := 1) (pc' := 229) (by decide +kernel) h19 (fun v29 h20 => ?_); clear h19
    refine s_c (v := 4) (pc' := 230) (by decide +kernel) ?_
    refine s_a (ins := .dup2) (pc' := 231) (by decide +kernel) rfl ?_
    refine s_al (pc' := 232) (by decide +kernel) h20 (fun v30 h21 => ?_); clear h20
    refine s_c (v := 1) (pc' := 233) (by decide +kernel) ?_
    refine s_a (ins := .iadd) (pc' := 234) (by decide +kernel) rfl ?_
    refine s_as (pc' := 235) (by decide +kernel) h21 (fun v31 h22 => ?_); clear h21
    have e9 := Option.some.inj h22; subst e9
    exact s_rv (X := 0) (Y := 0) (by decide +kernel) hc4 hF
  · have e9 := Option.some.inj h5; subst e9
    exact s_rv (X := 0) (Y := 0) (by decide +kernel) hc4 hF
set_option maxRecDepth 100000 in
set_option maxHeartbeats 4000000 in
def fX11_readShot_b98 (fu : Nat) (sh : HS) (R : HR) (I : HI) (l0 : Nat) (l1 : Int32) (l3 : Int32) (l4 : Int32) (l5 : Int32) : Option HI :=
  (fX11_next fu sh I R l0).bind fun w8 =>
  (fX11_isWord fu sh w8 R l0 20).bind fun v9 =>
  if v9 = 0 then
    (oH (fX11_readCast fu sh w8 R l0 l1 l5) fun v10 w10 =>
    (fX11_readShot_b122 fu sh R) w10 l0 l1 l3 l4 l5 v10)
  else
    ((fX11_readShot_b122 fu sh R) w8 l0 l1 l3 l4 l5 (-1))
set_option maxRecDepth 100000 in
set_option maxHeartbeats 4000000 in
theorem vX11_readShot_b98 {K J : Nat → Nat} {fu : Nat} {sh : HS} {R : HR} {F : VF} {o : HI} (hF : F (.inl none) sh o R) {I : HI} {l0 : Nat} {l1 : Int32} {l3 : Int32} {l4 : Int32} {l5 : Int32} {d2 d6 d7 d8 : Option Value} {c : Nat × Nat} (hc0 : c.1 ≤ 0 ∧ c.2 ≤ 0) (h0 : fX11_readShot_b98 fu sh R I l0 l1 l3 l4 l5 = some o) : V K J 170 98 [some (.ref l0), some (.int l1), d2, some (.int l3), some (.int l4), some (.int l5), d6, d7, d8] [] sh I R c F := by
  unfold fX11_readShot_b98 at h0
  refine s_rl (i := 0) (pc' := 99) (by decide +kernel) rfl ?_
  refine kX11_next (X := 0) (Y := 0) (X' := 0) (Y' := 0) (pc' := 102) (by decide +kernel) hc0 rfl h0 (fun w8 c hc1 h1 => ?_); clear h0 hc0
  refine s_rl (i := 0) (pc' := 103) (by decide +kernel) rfl ?_
  refine s_cS (i := 20) (pc' := 105) (by decide +kernel) ?_
  refine kX11_isWord (X := 0) (Y := 0) (X' := 0) (Y' := 0) (pc' := 108) (by decide +kernel) hc1 rfl h1 (fun v9 c hc2 h2 => ?_); clear h1 hc1
  refine s_if (ins := .ifCond .eq 7) (t := 115) (pc' := 111) (by decide +kernel) rfl rfl rfl h2 (fun p3 h3 => ?_) (fun p3 h3 => ?_) <;> clear h2
  · refine s_rl (i := 0) (pc' := 116) (by decide +kernel) rfl ?_
    refine s_il (i := 1) (pc' := 117) (by decide +kernel) rfl ?_
    refine s_il (i := 5) (pc' := 119) (by decide +kernel) rfl ?_
    refine kX11_readCast (X := 0) (Y := 0) (X' := 0) (Y' := 0) (pc' := 122) (by decide +kernel) hc2 rfl h3 (fun v10 w10 c hc3 h4 => ?_); clear h3 hc2
    exact (vX11_readShot_b122 hF) hc3 h4
  · refine s_c (v := (-1)) (pc' := 112) (by decide +kernel) ?_
    refine s_go (t := 122) (by decide +kernel) ?_
    exact (vX11_readShot_b122 hF) hc2 h3
set_option maxRecDepth 100000 in
set_option maxHeartbeats 4000000 in
def fX11_readShot_b16 (fu : Nat) (sh : HS) (R : HR) (I : HI) (l0 : Nat) (l1 : Int32) : Option HI :=
  (fX11_next fu sh I R l0).bind fun w3 =>
  oH (fX11_read fu sh w3 R l0 0 199) fun v4 w4 =>
  oH (fX11_read fu sh w4 R l0 0 199) fun v5 w5 =>
  oH (fX11_readCast fu sh w5 R l0 l1 (-1)) fun v6 w6 =>
  (fX11_isFine fu sh w6 R l0).bind fun v7 =>
  if v7 = 0 then
    ((fX11_readShot_b98 fu sh R) w6 l0 l1 v4 v5 v6)
  else
    ((oR sh R l0 9 1).bind fun v32 =>
    (oA sh w6 v32 (((5 + (14 * l1)) + 2) + v6)).bind fun v33 =>
    if v33 = v4 then
      ((oR sh R l0 9 1).bind fun v34 =>
      (oA sh w6 v34 (((5 + (14 * l1)) + 8) + v6)).bind fun v35 =>
      if v35 = v5 then
        ((fX11_fail fu sh w6 R l0 3).bind fun w36 =>
        (fX11_readShot_b98 fu sh R) w36 l0 l1 v4 v5 v6)
      else
        ((fX11_readShot_b98 fu sh R) w6 l0 l1 v4 v5 v6))
    else
      ((fX11_readShot_b98 fu sh R) w6 l0 l1 v4 v5 v6))
set_option maxRecDepth 100000 in
set_option maxHeartbeats 4000000 in
theorem vX11_readShot_b16 {K J : Nat → Nat} {fu : Nat} {sh : HS} {R : HR} {F : VF} {o : HI} (hF : F (.inl none) sh o R) {I : HI} {l0 : Nat} {l1 : Int32} {d2 d3 d4 d5 d6 d7 d8 : Option Value} {c : Nat × Nat} (hc0 : c.1 ≤ 0 ∧ c.2 ≤ 0) (h0 : fX11_readShot_b16 fu sh R I l0 l1 = some o) : V K J 170 16 [some (.ref l0), some (.int l1), d2, d3, d4, d5, d6, d7, d8] [] sh I R c F := by
  unfold fX11_readShot_b16 at h0
  refine s_rl (i := 0) (pc' := 17) (by decide +kernel) rfl ?_
  refine kX11_next (X := 0) (Y := 0) (X' := 0) (Y' := 0) (pc' := 20) (by decide +kernel) hc0 rfl h0 (fun w3 c hc1 h1 => ?_); clear h0 hc0
  refine s_c (v := 5) (pc' := 21) (by decide +kernel) ?_
  refine s_c (v := 14) (pc' := 23) (by decide +kernel) ?_
  refine s_il (i := 1) (pc' := 24) (by decide +kernel) rfl ?_
  refine s_a (ins := .imul) (pc' := 25) (by decide +kernel) rfl ?_
  refine s_a (ins := .iadd) (pc' := 26) (by decide +kernel) rfl ?_
  refine s_is (i := 2) (pc' := 27) (L' := [some (.ref l0), some (.int l1), some (.int (5 + (14 * l1))), d3, d4, d5, d6, d7, d8]) (by decide +kernel) rfl rfl ?_
  refine s_rl (i := 0) (pc' := 28) (by decide +kernel) rfl ?_
  refine s_c (v := 0) (pc' := 29) (by decide +kernel) ?_
  refine s_c (v := 199) (pc' := 32) (by decide +kernel) ?_
  refine kX11_read (X := 0) (Y := 0) (X' := 0) (Y' := 0) (pc' := 35) (by decide +kernel) hc1 rfl h1 (fun v4 w4 c hc2 h2 => ?_); clear h1 hc1
  refine s_is (i := 3) (pc' := 36) (L' := [some (.ref l0), some (.int l1), some (.int (5 + (14 * l1))), some (.int v4), d4, d5, d6, d7, d8]) (by decide +kernel) rfl rfl ?_
  refine s_rl (i := 0) (pc' := 37) (by decide +kernel) rfl ?_
  refine s_c (v := 0) (pc' := 38) (by decide +kernel) ?_
  refine s_c (v := 199) (pc' := 41) (by decide +kernel) ?_
  refine kX11_read (X := 0) (Y := 0) (X' := 0) (Y' := 0) (pc' := 44) (by decide +kernel) hc2 rfl h2 (fun v5 w5 c hc3 h3 => ?_); clear h2 hc2
  refine s_is (i := 4) (pc' := 46) (L' := [some (.ref l0), some (.int l1), some (.int (5 + (14 * l1))), some (.int v4), some (.int v5), d5, d6, d7, d8]) (by decide +kernel) rfl rfl ?_
  refine s_rl (i := 0) (pc' := 47) (by decide +kernel) rfl ?_
  refine s_il (i := 1) (pc' := 48) (by decide +kernel) rfl ?_
  refine s_c (v := (-1)) (pc' := 49) (by decide +kernel) ?_
  refine kX11_readCast (X := 0) (Y := 0) (X' := 0) (Y' := 0) (pc' := 52) (by decide +kernel) hc3 rfl h3 (fun v6 w6 c hc4 h4 => ?_); clear h3 hc3
  refine s_is (i := 5) (pc' := 54) (L' := [some (.ref l0), some (.int l1), some (.int (5 + (14 * l1))), some (.int v4), some (.int v5), some (.int v6), d6, d7, d8]) (by decide +kernel) rfl rfl ?_
  refine s_rl (i := 0) (pc' := 55) (by decide +kernel) rfl ?_
  refine kX11_isFine (X := 0) (Y := 0) (X' := 0) (Y' := 0) (pc' := 58) (by decide +kernel) hc4 rfl h4 (fun v7 c hc5 h5 => ?_); clear h4 hc4
  refine s_if (ins := .ifCond .eq 40) (t := 98) (pc' := 61) (by decide +kernel) rfl rfl rfl h5 (fun p6 h6 => ?_) (fun p6 h6 => ?_) <;> clear h5
  · exact (vX11_readShot_b98 hF) hc5 h6
  · refine s_rl (i := 0) (pc' := 62) (by decide +kernel) rfl ?_
    refine s_gR (t := 9) (j := 1) (pc' := 65) (by decide +kernel) h6 (fun v32 h7 => ?_); clear h6
    refine s_il (i := 2) (pc' := 66) (by decide +kernel) rfl ?_
    refine s_c (v := 2) (pc' := 67) (by decide +kernel) ?_
    refine s_a (ins := .iadd) (pc' := 68) (by decide +kernel) rfl ?_
    refine s_il (i := 5) (pc' := 70) (by decide +kernel) rfl ?_
    refine s_a (ins := .iadd) (pc' := 71) (by decide +kernel) rfl ?_
    refine s_al (pc' := 72) (by decide +kernel) h7 (fun v33 h8 => ?_); clear h7
    refine s_il (i := 3) (pc' := 73) (by decide +kernel) rfl ?_
    refine s_ifn (ins := .if_icmp .ne 25) (t := 98) (pc' := 76) (by decide +kernel) rfl rfl rfl h8 (fun p9 h9 => ?_) (fun p9 h9 => ?_) <;> clear h8
    · exact (vX11_readShot_b98 hF) hc5 h9
    · refine s_rl (i := 0) (pc' := 77) (by decide +kernel) rfl ?_
      refine s_gR (t := 9) (j := 1) (pc' := 80) (by decide +kernel) h9 (fun v34 h10 => ?_); clear h9
      refine s_il (i := 2) (pc' := 81) (by decide +kernel) rfl ?_
      refine s_c (v := 8) (pc' := 83) (by decide +kernel) ?_
      refine s_a (ins := .iadd) (pc' := 84) (by decide +kernel) rfl ?_
      refine s_il (i := 5) (pc' := 86) (by decide +kernel) rfl ?_
      refine s_a (ins := .iadd) (pc' := 87) (by decide +kernel) rfl ?_
      refine s_al (pc' := 88) (by decide +kernel) h10 (fun v35 h11 => ?_); clear h10
      refine s_il (i := 4) (pc' := 90) (by decide +kernel) rfl ?_
      refine s_ifn (ins := .if_icmp .ne 8) (t := 98) (pc' := 93) (by decide +kernel) rfl rfl rfl h11 (fun p12 h12 => ?_) (fun p12 h12 => ?_) <;> clear h11
      · exact (vX11_readShot_b98 hF) hc5 h12
      · refine s_rl (i := 0) (pc' := 94) (by decide +kernel) rfl ?_
        refine s_c (v := 3) (pc' := 95) (by decide +kernel) ?_
        refine kX11_fail (X := 0) (Y := 0) (X' := 0) (Y' := 0) (pc' := 98) (by decide +kernel) hc5 rfl h12 (fun w36 c hc6 h13 => ?_); clear h12 hc5
        exact (vX11_readShot_b98 hF) hc6 h13
set_option maxRecDepth 100000 in
set_option maxHeartbeats 4000000 in
def fX11_readShot (fu : Nat) (sh : HS) (I : HI) (R : HR) (l0 : Nat) (l1 : Int32) : Option HI :=
  if isT sh l0 9 = true then
    ((oR sh R l0 9 1).bind fun v1 =>
    (oA sh I v1 4).bind fun v2 =>
    if v2 = 12 then
      ((fX11_fail fu sh I R l0 4).bind fun w37 =>
      (fX11_readShot_b16 fu sh R) w37 l0 l1)
    else
      ((fX11_readShot_b16 fu sh R) I l0 l1))
  else none
set_option maxRecDepth 100000 in
set_option maxHeartbeats 4000000 in
theorem vX11_readShot {K J : Nat → Nat} {fu : Nat} {sh : HS} {I : HI} {R : HR} {F : VF} {o : HI} (hF : F (.inl none) sh o R) {l0 : Nat} {l1 : Int32} (h0 : fX11_readShot fu sh I R l0 l1 = some o) : V K J 170 0 (ent 9 [.ref l0, .int l1]) [] sh I R (0, 0) F := by
  unfold fX11_readShot at h0
  obtain ⟨-, h1⟩ := gd h0; clear h0
  have hc0 : ((0 : Nat), (0 : Nat)).1 ≤ 0 ∧ ((0 : Nat), (0 : Nat)).2 ≤ 0 := ⟨Nat.le_refl _, Nat.le_refl _⟩
  show V K J 170 0 [some (.ref l0), some (.int l1), none, none, none, none, none, none, none] [] sh I R (0, 0) F
  refine s_rl (i := 0) (pc' := 1) (by decide +kernel) rfl ?_
  refine s_gR (t := 9) (j := 1) (pc' := 4) (by decide +kernel) h1 (fun v1 h2 => ?_); clear h1
  refine s_c (v := 4) (pc' := 5) (by decide +kernel) ?_
  refine s_al (pc' := 6) (by decide +kernel) h2 (fun v2 h3 => ?_); clear h2
  refine s_c (v := 12) (pc' := 8) (by decide +kernel) ?_
  refine s_ifn (ins := .if_icmp .ne 8) (t := 16) (pc' := 11) (by decide +kernel) rfl rfl rfl h3 (fun p4 h4 => ?_) (fun p4 h4 => ?_) <;> clear h3
  · exact (vX11_readShot_b16 hF) hc0 h4
  · refine s_rl (i := 0) (pc' := 12) (by decide +kernel) rfl ?_
    refine s_c (v := 4) (pc' := 13) (by decide +kernel) ?_
    refine kX11_fail (X := 0) (Y := 0) (X' := 0) (Y' := 0) (pc' := 16) (by decide +kernel) hc0 rfl h4 (fun w37 c hc1 h5 => ?_); clear h4 hc0
    exact (vX11_readShot_b16 hF) hc1 h5
set_option maxRecDepth 100000 in
set_option maxHeartbeats 4000000 in
theorem kX11_readShot {K J : Nat → Nat} {fu : Nat} {sh : HS} {I : HI} {R : HR} {F : VF} {mi pc pc' X Y X' Y' : Nat} {L : VL} {rest : List Value} {c : Nat × Nat} {l0 : Nat} {l1 : Int32} {ω : Type} {o : ω} {g : HI → Option ω} (hq : cQ mi pc 170 2 pc' X Y X' Y' = true) (hc : c.1 ≤ X ∧ c.2 ≤ Y) (hr : Nat.ble (catS rest) 8 = true) (h : (fX11_readShot fu sh I R l0 l1).bind g = some o) (kk : ∀ w c', (c'.1 ≤ X' ∧ c'.2 ≤ Y') → g w = some o → V K J mi pc' L (rest) sh w R c' F) : V K J mi pc L (.int l1 :: .ref l0 :: rest) sh I R c F := by
  obtain ⟨r, h1, h2⟩ := bnd h
  have hT : isT sh l0 9 = true := by unfold fX11_readShot at h1; exact (gd h1).1
  have ml : mL 170 = 9 := by decide +kernel
  have mk : mK 170 = 1 := by decide +kernel
  have mc : mC 170 = 9 := by decide +kernel
  refine s_call (as := [.int l1, .ref l0]) (G := fun o' sh' I' R' => o' = .inl none ∧ sh' = sh ∧ I' = r ∧ R' = R) hq hc rfl hr (by rw [ml]; rfl) (Or.inl rfl) (fun _ => Or.inl ⟨by rw [mc]; decide, by rw [mc]; exact isT_iff.mp hT⟩) (fun z => absurd (mk.symm.trans z) (by decide)) (by rw [ml]; exact vX11_readShot (F := fun o' sh' I' R' => o' = .inl none ∧ sh' = sh ∧ I' = r ∧ R' = R) ⟨rfl, rfl, rfl, rfl⟩ h1) ?_ ?_ ?_
  · rintro sh' I' R' c' hc' ⟨g1, rfl, rfl, rfl⟩
    cases g1
    exact kk _ _ hc' h2
  · rintro v' sh' I' R' c' hc' ⟨g1, rfl, rfl, rfl⟩
    cases g1
  · rintro E' sh' I' R' ⟨g1, rfl, rfl, rfl⟩
    cases g1
set_option maxRecDepth 100000 in
set_option maxHeartbeats 4000000 in
def fX11_readScene_b92 (fu : Nat) (sh : HS) (R : HR) (k92 : HI → Nat → Int32 → Option HI) (k109 : HI → Nat → Int32 → Option HI) (I : HI) (l0 : Nat) (l1 : Int32) : Option HI :=
  (fX11_isWord fu sh I R l0 12).bind fun v16 =>
  if v16 = 0 then
    (k109 I l0 l1)
  else
    ((fX11_readActor fu sh I R l0 l1).bind fun w17 =>
    k92 w17 l0 l1)
set_option maxRecDepth 100000 in
set_option maxHeartbeats 4000000 in
theorem vX11_readScene_b92 {K J : Nat → Nat} {fu : Nat} {sh : HS} {R : HR} {F : VF} {o : HI} (hF : F (.inl none) sh o R) {k92 : HI → Nat → Int32 → Option HI} {k109 : HI → Nat → Int32 → Option HI} (hk92 : ∀ {I : HI} {l0 : Nat} {l1 : Int32} {d2 : Option Value} {c : Nat × Nat}, (c.1 ≤ 0 ∧ c.2 ≤ 0) → k92 I l0 l1 = some o → V K J 171 92 [some (.ref l0), some (.int l1), d2] [] sh I R c F) (hk109 : ∀ {I : HI} {l0 : Nat} {l1 : Int32} {d2 : Option Value} {c : Nat × Nat}, (c.1 ≤ 0 ∧ c.2 ≤ 0) → k109 I l0 l1 = some o → V K J 171 109 [some (.ref l0), some (.int l1), d2] [] sh I R c F) {I : HI} {l0 : Nat} {l1 : Int32} {d2 : Option Value} {c : Nat × Nat} (hc0 : c.1 ≤ 0 ∧ c.2 ≤ 0) (h0 : fX11_readScene_b92 fu sh R k92 k109 I l0 l1 = some o) : V K J 171 92 [some (.ref l0), some (.int l1), d2] [] sh I R c F := by
  unfold fX11_readScene_b92 at h0
  refine s_rl (i := 0) (pc' := 93) (by decide +kernel) rfl ?_
  refine s_cS (i := 12) (pc' := 95) (by decide +kernel) ?_
  refine kX11_isWord (X := 0) (Y := 0) (X' := 0) (Y' := 0) (pc' := 98) (by decide +kernel) hc0 rfl h0 (fun v16 c hc1 h1 => ?_); clear h0 hc0
  refine s_if (ins := .ifCond .eq 11) (t := 109) (pc' := 101) (by decide +kernel) rfl rfl rfl h1 (fun p2 h2 => ?_) (fun p2 h2 => ?_) <;> clear h1
  · exact hk109 hc1 h2
  · refine s_rl (i := 0) (pc' := 102) (by decide +kernel) rfl ?_
    refine s_il (i := 1) (pc' := 103) (by decide +kernel) rfl ?_
    refine kX11_readActor (X := 0) (Y := 0) (X' := 0) (Y' := 0) (pc' := 106) (by decide +kernel) hc1 rfl h2 (fun w17 c hc2 h3 => ?_); clear h2 hc1
    refine s_go (t := 92) (by decide +kernel) ?_
    exact hk92 hc2 h3
set_option maxRecDepth 100000 in
set_option maxHeartbeats 4000000 in
def fX11_readScene_l92 (fu : Nat) (sh : HS) (R : HR) (k109 : HI → Nat → Int32 → Option HI) : Nat → HI → Nat → Int32 → Option HI
  | 0 => fun _ _ _ => none
  | n + 1 => fX11_readScene_b92 fu sh R (fX11_readScene_l92 fu sh R k109 n) k109
set_option maxRecDepth 100000 in
set_option maxHeartbeats 4000000 in
theorem vX11_readScene_l92 {K J : Nat → Nat} {fu : Nat} {sh : HS} {R : HR} {F : VF} {o : HI} (hF : F (.inl none) sh o R) {k109 : HI → Nat → Int32 → Option HI} (hk109 : ∀ {I : HI} {l0 : Nat} {l1 : Int32} {d2 : Option Value} {c : Nat × Nat}, (c.1 ≤ 0 ∧ c.2 ≤ 0) → k109 I l0 l1 = some o → V K J 171 109 [some (.ref l0), some (.int l1), d2] [] sh I R c F) : ∀ (n : Nat) {I : HI} {l0 : Nat} {l1 : Int32} {d2 : Option Value} {c : Nat × Nat} (_ : c.1 ≤ 0 ∧ c.2 ≤ 0) (_ : fX11_readScene_l92 fu sh R k109 n I l0 l1 = some o), V K J 171 92 [some (.ref l0), some (.int l1), d2] [] sh I R c F := by
  intro n
  induction n with
  | zero => exact fun _ h0 => nomatch h0
  | succ n ih => exact fun hc0 h0 => vX11_readScene_b92 hF ih hk109 hc0 h0
set_option maxRecDepth 100000 in
set_option maxHeartbeats 4000000 in
def fX11_readScene_b109 (fu : Nat) (sh : HS) (R : HR) (k109 : HI → Nat → Int32 → Option HI) (I : HI) (l0 : Nat) (l1 : Int32) : Option HI :=
  (fX11_isWord fu sh I R l0 24).bind fun v18 =>
  if v18 = 0 then
    (some I)
  else
    ((fX11_readShot fu sh I R l0 l1).bind fun w19 =>
    k109 w19 l0 l1)
set_option maxRecDepth 100000 in
set_option maxHeartbeats 4000000 in
theorem vX11_readScene_b109 {K J : Nat → Nat} {fu : Nat} {sh : HS} {R : HR} {F : VF} {o : HI} (hF : F (.inl none) sh o R) {k109 : HI → Nat → Int32 → Option HI} (hk109 : ∀ {I : HI} {l0 : Nat} {l1 : Int32} {d2 : Option Value} {c : Nat × Nat}, (c.1 ≤ 0 ∧ c.2 ≤ 0) → k109 I l0 l1 = some o → V K J 171 109 [some (.ref l0), some (.int l1), d2] [] sh I R c F) {I : HI} {l0 : Nat} {l1 : Int32} {d2 : Option Value} {c : Nat × Nat} (hc0 : c.1 ≤ 0 ∧ c.2 ≤ 0) (h0 : fX11_readScene_b109 fu sh R k109 I l0 l1 = some o) : V K J 171 109 [some (.ref l0), some (.int l1), d2] [] sh I R c F := by
  unfold fX11_readScene_b109 at h0
  refine s_rl (i := 0) (pc' := 110) (by decide +kernel) rfl ?_
  refine s_cS (i := 24) (pc' := 112) (by decide +kernel) ?_
  refine kX11_isWord (X := 0) (Y := 0) (X' := 0) (Y' := 0) (pc' := 115) (by decide +kernel) hc0 rfl h0 (fun v18 c hc1 h1 => ?_); clear h0 hc0
  refine s_if (ins := .ifCond .eq 11) (t := 126) (pc' := 118) (by decide +kernel) rfl rfl rfl h1 (fun p2 h2 => ?_) (fun p2 h2 => ?_) <;> clear h1
  · have e9 := Option.some.inj h2; subst e9
    exact s_rv (X := 0) (Y := 0) (by decide +kernel) hc1 hF
  · refine s_rl (i := 0) (pc' := 119) (by decide +kernel) rfl ?_
    refine s_il (i := 1) (pc' := 120) (by decide +kernel) rfl ?_
    refine kX11_readShot (X := 0) (Y := 0) (X' := 0) (Y' := 0) (pc' := 123) (by decide +kernel) hc1 rfl h2 (fun w19 c hc2 h3 => ?_); clear h2 hc1
    refine s_go (t := 109) (by decide +kernel) ?_
    exact hk109 hc2 h3
set_option maxRecDepth 100000 in
set_option maxHeartbeats 4000000 in
def fX11_readScene_l109 (fu : Nat) (sh : HS) (R : HR) : Nat → HI → Nat → Int32 → Option HI
  | 0 => fun _ _ _ => none
  | n + 1 => fX11_readScene_b109 fu sh R (fX11_readScene_l109 fu sh R n)
set_option maxRecDepth 100000 in
set_option maxHeartbeats 4000000 in
theorem vX11_readScene_l109 {K J : Nat → Nat} {fu : Nat} {sh : HS} {R : HR} {F : VF} {o : HI} (hF : F (.inl none) sh o R) : ∀ (n : Nat) {I : HI} {l0 : Nat} {l1 : Int32} {d2 : Option Value} {c : Nat × Nat} (_ : c.1 ≤ 0 ∧ c.2 ≤ 0) (_ : fX11_readScene_l109 fu sh R n I l0 l1 = some o), V K J 171 109 [some (.ref l0), some (.int l1), d2] [] sh I R c F := by
  intro n
  induction n with
  | zero => exact fun _ h0 => nomatch h0
  | succ n ih => exact fun hc0 h0 => vX11_readScene_b109 hF ih hc0 h0
set_option maxRecDepth 100000 in
set_option maxHeartbeats 4000000 in
def fX11_readScene_b26 (fu : Nat) (sh : HS) (R : HR) (I : HI) (l0 : Nat) (l1 : Int32) : Option HI :=
  (fX11_expectWord fu sh I R l0 21).bind fun w4 =>
  oH (fX11_read fu sh w4 R l0 0 3) fun v5 w5 =>
  (fX11_expectSemicolon fu sh w5 R l0).bind fun w6 =>
  (fX11_isFine fu sh w6 R l0).bind fun v7 =>
  if v7 = 0 then
    (some w6)
  else
    ((oR sh R l0 9 1).bind fun v8 =>
    (oS sh w6 v8 (5 + (14 * l1)) v5).bind fun v9 =>
    (oR sh R l0 9 1).bind fun v10 =>
    (oS sh v9 v10 ((5 + (14 * l1)) + 1) 0).bind fun v11 =>
    (oR sh R l0 9 1).bind fun v12 =>
    (oA sh v11 v12 3).bind fun v13 =>
    (oS sh v11 v12 3 (v13 + 1)).bind fun v14 =>
    (fX11_readActor fu sh v14 R l0 l1).bind fun w15 =>
    (fX11_readScene_l92 fu sh R (fX11_readScene_l109 fu sh R fu) fu) w15 l0 l1)
set_option maxRecDepth 100000 in
set_option maxHeartbeats 4000000 in
theorem vX11_readScene_b26 {K J : Nat → Nat} {fu : Nat} {sh : HS} {R : HR} {F : VF} {o : HI} (hF : F (.inl none) sh o R) {I : HI} {l0 : Nat} {l1 : Int32} {d2 : Option Value} {c : Nat × Nat} (hc0 : c.1 ≤ 0 ∧ c.2 ≤ 0) (h0 : fX11_readScene_b26 fu sh R I l0 l1 = some o) : V K J 171 26 [some (.ref l0), some (.int l1), d2] [] sh I R c F := by
  unfold fX11_readScene_b26 at h0
  refine s_rl (i := 0) (pc' := 27) (by decide +kernel) rfl ?_
  refine s_cS (i := 21) (pc' := 29) (by decide +kernel) ?_
  refine kX11_expectWord (X := 0) (Y := 0) (X' := 0) (Y' := 0) (pc' := 32) (by decide +kernel) hc0 rfl h0 (fun w4 c hc1 h1 => ?_); clear h0 hc0
  refine s_rl (i := 0) (pc' := 33) (by decide +kernel) rfl ?_
  refine s_c (v := 0) (pc' := 34) (by decide +kernel) ?_
  refine s_c (v := 3) (pc' := 35) (by decide +kernel) ?_
  refine kX11_read (X := 0) (Y := 0) (X' := 0) (Y' := 0) (pc' := 38) (by decide +kernel) hc1 rfl h1 (fun v5 w5 c hc2 h2 => ?_); clear h1 hc1
  refine s_is (i := 2) (pc' := 39) (L' := [some (.ref l0), some (.int l1), some (.int v5)]) (by decide +kernel) rfl rfl ?_
  refine s_rl (i := 0) (pc' := 40) (by decide +kernel) rfl ?_
  refine kX11_expectSemicolon (X := 0) (Y := 0) (X' := 0) (Y' := 0) (pc' := 43) (by decide +kernel) hc2 rfl h2 (fun w6 c hc3 h3 => ?_); clear h2 hc2
  refine s_rl (i := 0) (pc' := 44) (by decide +kernel) rfl ?_
  refine kX11_isFine (X := 0) (Y := 0) (X' := 0) (Y' := 0) (pc' := 47) (by decide +kernel) hc3 rfl h3 (fun v7 c hc4 h4 => ?_); clear h3 hc3
  refine s_ifn (ins := .ifCond .ne 4) (t := 51) (pc' := 50) (by decide +kernel) rfl rfl rfl h4 (fun p5 h5 => ?_) (fun p5 h5 => ?_) <;> clear h4
  · refine s_rl (i := 0) (pc' := 52) (by decide +kernel) rfl ?_
    refine s_gR (t := 9) (j := 1) (pc' := 55) (by decide +kernel) h5 (fun v8 h6 => ?_); clear h5
    refine s_c (v := 5) (pc' := 56) (by decide +kernel) ?_
    refine s_c (v := 14) (pc' := 58) (by decide +kernel) ?_
    refine s_il (i := 1) (pc' := 59) (by decide +kernel) rfl ?_
    refine s_a (ins := .imul) (pc' := 60) (by decide +kernel) rfl ?_
    refine s_a (ins := .iadd) (pc' := 61) (by decide +kernel) rfl ?_
    refine s_il (i := 2) (pc' := 62) (by decide +kernel) rfl ?_
    refine s_as (pc' := 63) (by decide +kernel) h6 (fun v9 h7 => ?_); clear h6
    refine s_rl (i := 0) (pc' := 64) (by decide +kernel) rfl ?_
    refine s_gR (t := 9) (j := 1) (pc' := 67) (by decide +kernel) h7 (fun v10 h8 => ?_); clear h7
    refine s_c (v := 5) (pc' := 68) (by decide +kernel) ?_
    refine s_c (v := 14) (pc' := 70) (by decide +kernel) ?_
    refine s_il (i := 1) (pc' := 71) (by decide +kernel) rfl ?_
    refine s_a (ins := .imul) (pc' := 72) (by decide +kernel) rfl ?_
    refine s_a (ins := .iadd) (pc' := 73) (by decide +kernel) rfl ?_
    refine s_c (v := 1) (pc' := 74) (by decide +kernel) ?_
    refine s_a (ins := .iadd) (pc' := 75) (by decide +kernel) rfl ?_
    refine s_c (v := 0) (pc' := 76) (by decide +kernel) ?_
    refine s_as (pc' := 77) (by decide +kernel) h8 (fun v11 h9 => ?_); clear h8
    refine s_rl (i := 0) (pc' := 78) (by decide +kernel) rfl ?_
    refine s_gR (t := 9) (j := 1) (pc' := 81) (by decide +kernel) h9 (fun v12 h10 => ?_); clear h9
    refine s_c (v := 3) (pc' := 82) (by decide +kernel) ?_
    refine s_a (ins := .dup2) (pc' := 83) (by decide +kernel) rfl ?_
    refine s_al (pc' := 84) (by decide +kernel) h10 (fun v13 h11 => ?_); clear h10
    refine s_c (v := 1) (pc' := 85) (by decide +kernel) ?_
    refine s_a (ins := .iadd) (pc' := 86) (by decide +kernel) rfl ?_
    refine s_as (pc' := 87) (by decide +kernel) h11 (fun v14 h12 => ?_); clear h11
    refine s_rl (i := 0) (pc' := 88) (by decide +kernel) rfl ?_
    refine s_il (i := 1) (pc' := 89) (by decide +kernel) rfl ?_
    refine kX11_readActor (X := 0) (Y := 0) (X' := 0) (Y' := 0) (pc' := 92) (by decide +kernel) hc4 rfl h12 (fun w15 c hc5 h13 => ?_); clear h12 hc4
    exact (vX11_readScene_l92 hF (vX11_readScene_l109 hF fu) fu) hc5 h13
  · have e9 := Option.some.inj h5; subst e9
    exact s_rv (X := 0) (Y := 0) (by decide +kernel) hc4 hF
set_option maxRecDepth 100000 in
set_option maxHeartbeats 4000000 in
def fX11_readScene (fu : Nat) (sh : HS) (I : HI) (R : HR) (l0 : Nat) : Option HI :=
  if isT sh l0 9 = true then
    ((oR sh R l0 9 1).bind fun v1 =>
    (oA sh I v1 3).bind fun v2 =>
    (fX11_isWord fu sh I R l0 21).bind fun v3 =>
    if v3 = 0 then
      ((fX11_readScene_b26 fu sh R) I l0 v2)
    else
      (if v2 = 3 then
        ((fX11_fail fu sh I R l0 4).bind fun w20 =>
        (fX11_readScene_b26 fu sh R) w20 l0 v2)
      else
        ((fX11_readScene_b26 fu sh R) I l0 v2)))
  else none
set_option maxRecDepth 100000 in
set_option maxHeartbeats 4000000 in
theorem vX11_readScene {K J : Nat → Nat} {fu : Nat} {sh : HS} {I : HI} {R : HR} {F : VF} {o : HI} (hF : F (.inl none) sh o R) {l0 : Nat} (h0 : fX11_readScene fu sh I R l0 = some o) : V K J 171 0 (ent 3 [.ref l0]) [] sh I R (0, 0) F := by
  unfold fX11_readScene at h0
  obtain ⟨-, h1⟩ := gd h0; clear h0
  have hc0 : ((0 : Nat), (0 : Nat)).1 ≤ 0 ∧ ((0 : Nat), (0 : Nat)).2 ≤ 0 := ⟨Nat.le_refl _, Nat.le_refl _⟩
  show V K J 171 0 [some (.ref l0), none, none] [] sh I R (0, 0) F
  refine s_rl (i := 0) (pc' := 1) (by decide +kernel) rfl ?_
  refine s_gR (t := 9) (j := 1) (pc' := 4) (by decide +kernel) h1 (fun v1 h2 => ?_); clear h1
  refine s_c (v := 3) (pc' := 5) (by decide +kernel) ?_
  refine s_al (pc' := 6) (by decide +kernel) h2 (fun v2 h3 => ?_); clear h2
  refine s_is (i := 1) (pc' := 7) (L' := [some (.ref l0), some (.int v2), none]) (by decide +kernel) rfl rfl ?_
  refine s_rl (i := 0) (pc' := 8) (by decide +kernel) rfl ?_
  refine s_cS (i := 21) (pc' := 10) (by decide +kernel) ?_
  refine kX11_isWord (X := 0) (Y := 0) (X' := 0) (Y' := 0) (pc' := 13) (by decide +kernel) hc0 rfl h3 (fun v3 c hc1 h4 => ?_); clear h3 hc0
  refine s_if (ins := .ifCond .eq 13) (t := 26) (pc' := 16) (by decide +kernel) rfl rfl rfl h4 (fun p5 h5 => ?_) (fun p5 h5 => ?_) <;> clear h4
  · exact (vX11_readScene_b26 hF) hc1 h5
  · refine s_il (i := 1) (pc' := 17) (by decide +kernel) rfl ?_
    refine s_c (v := 3) (pc' := 18) (by decide +kernel) ?_
    refine s_ifn (ins := .if_icmp .ne 8) (t := 26) (pc' := 21) (by decide +kernel) rfl rfl rfl h5 (fun p6 h6 => ?_) (fun p6 h6 => ?_) <;> clear h5
    · exact (vX11_readScene_b26 hF) hc1 h6
    · refine s_rl (i := 0) (pc' := 22) (by decide +kernel) rfl ?_
      refine s_c (v := 4) (pc' := 23) (by decide +kernel) ?_
      refine kX11_fail (X := 0) (Y := 0) (X' := 0) (Y' := 0) (pc' := 26) (by decide +kernel) hc1 rfl h6 (fun w20 c hc2 h7 => ?_); clear h6 hc1
      exact (vX11_readScene_b26 hF) hc2 h7
set_option maxRecDepth 100000 in
set_option maxHeartbeats 4000000 in
theorem kX11_readScene {K J : Nat → Nat} {fu : Nat} {sh : HS} {I : HI} {R : HR} {F : VF} {mi pc pc' X Y X' Y' : Nat} {L : VL} {rest : List Value} {c : Nat × Nat} {l0 : Nat} {ω : Type} {o : ω} {g : HI → Option ω} (hq : cQ mi pc 171 1 pc' X Y X' Y' = true) (hc : c.1 ≤ X ∧ c.2 ≤ Y) (hr : Nat.ble (catS rest) 8 = true) (h : (fX11_readScene fu sh I R l0).bind g = some o) (kk : ∀ w c', (c'.1 ≤ X' ∧ c'.2 ≤ Y') → g w = some o → V K J mi pc' L (rest) sh w R c' F) : V K J mi pc L (.ref l0 :: rest) sh I R c F := by
  obtain ⟨r, h1, h2⟩ := bnd h
  have hT : isT sh l0 9 = true := by unfold fX11_readScene at h1; exact (gd h1).1
  have ml : mL 171 = 3 := by decide +kernel
  have mk : mK 171 = 1 := by decide +kernel
  have mc : mC 171 = 9 := by decide +kernel
  refine s_call (as := [.ref l0]) (G := fun o' sh' I' R' => o' = .inl none ∧ sh' = sh ∧ I' = r ∧ R' = R) hq hc rfl hr (by rw [ml]; rfl) (Or.inl rfl) (fun _ => Or.inl ⟨by rw [mc]; decide, by rw [mc]; exact isT_iff.mp hT⟩) (fun z => absurd (mk.symm.trans z) (by decide)) (by rw [ml]; exact vX11_readScene (F := fun o' sh' I' R' => o' = .inl none ∧ sh' = sh ∧ I' = r ∧ R' = R) ⟨rfl, rfl, rfl, rfl⟩ h1) ?_ ?_ ?_
  · rintro sh' I' R' c' hc' ⟨g1, rfl, rfl, rfl⟩
    cases g1
    exact kk _ _ hc' h2
  · rintro v' sh' I' R' c' hc' ⟨g1, rfl, rfl, rfl⟩
    cases g1
  · rintro E' sh' I' R' ⟨g1, rfl, rfl, rfl⟩
    cases g1
set_option maxRecDepth 100000 in
set_option maxHeartbeats 4000000 in
def fX11_load_b7 (fu : Nat) (sh : HS) (R : HR) (k7 : HI → Nat → Int32 → Option (Int32 × HI)) (k26 : HI → Nat → Option (Int32 × HI)) (I : HI) (l0 : Nat) (l1 : Int32) : Option (Int32 × HI) :=
  if 119 ≤ l1 then
    (k26 I l0)
  else
    ((oR sh R l0 9 1).bind fun v2 =>
    (oS sh I v2 l1 0).bind fun v3 =>
    k7 v3 l0 (l1 + 1))
set_option maxRecDepth 100000 in
set_option maxHeartbeats 4000000 in
theorem vX11_load_b7 {K J : Nat → Nat} {fu : Nat} {sh : HS} {R : HR} {F : VF} {o : (Int32 × HI)} (hF : F (.inl (some (.int o.1))) sh o.2 R) {k7 : HI → Nat → Int32 → Option (Int32 × HI)} {k26 : HI → Nat → Option (Int32 × HI)} (hk7 : ∀ {I : HI} {l0 : Nat} {l1 : Int32}  {c : Nat × Nat}, (c.1 ≤ 0 ∧ c.2 ≤ 0) → k7 I l0 l1 = some o → V K J 172 7 [some (.ref l0), some (.int l1)] [] sh I R c F) (hk26 : ∀ {I : HI} {l0 : Nat} {d1 : Option Value} {c : Nat × Nat}, (c.1 ≤ 0 ∧ c.2 ≤ 0) → k26 I l0 = some o → V K J 172 26 [some (.ref l0), d1] [] sh I R c F) {I : HI} {l0 : Nat} {l1 : Int32} {c : Nat × Nat} (hc0 : c.1 ≤ 0 ∧ c.2 ≤ 0) (h0 : fX11_load_b7 fu sh R k7 k26 I l0 l1 = some o) : V K J 172 7 [some (.ref l0), some (.int l1)] [] sh I R c F := by
  unfold fX11_load_b7 at h0
  refine s_il (i := 1) (pc' := 8) (by decide +kernel) rfl ?_
  refine s_c (v := 119) (pc' := 10) (by decide +kernel) ?_
  refine s_if (ins := .if_icmp .ge 16) (t := 26) (pc' := 13) (by decide +kernel) rfl rfl rfl h0 (fun p1 h1 => ?_) (fun p1 h1 => ?_) <;> clear h0
  · exact hk26 hc0 h1
  · refine s_rl (i := 0) (pc' := 14) (by decide +kernel) rfl ?_
    refine s_gR (t := 9) (j := 1) (pc' := 17) (by decide +kernel) h1 (fun v2 h2 => ?_); clear h1
    refine s_il (i := 1) (pc' := 18) (by decide +kernel) rfl ?_
    refine s_c (v := 0) (pc' := 19) (by decide +kernel) ?_
    refine s_as (pc' := 20) (by decide +kernel) h2 (fun v3 h3 => ?_); clear h2
    refine s_inc (i := 1) (z := 1) (pc' := 23) (L' := [some (.ref l0), some (.int (l1 + 1))]) (by decide +kernel) rfl rfl rfl ?_
    refine s_go (t := 7) (by decide +kernel) ?_
    exact hk7 hc0 h3
set_option maxRecDepth 100000 in
set_option maxHeartbeats 4000000 in
def fX11_load_l7 (fu : Nat) (sh : HS) (R : HR) (k26 : HI → Nat → Option (Int32 × HI)) : Nat → HI → Nat → Int32 → Option (Int32 × HI)
  | 0 => fun _ _ _ => none
  | n + 1 => fX11_load_b7 fu sh R (fX11_load_l7 fu sh R k26 n) k26
set_option maxRecDepth 100000 in
set_option maxHeartbeats 4000000 in
theorem vX11_load_l7 {K J : Nat → Nat} {fu : Nat} {sh : HS} {R : HR} {F : VF} {o : (Int32 × HI)} (hF : F (.inl (some (.int o.1))) sh o.2 R) {k26 : HI → Nat → Option (Int32 × HI)} (hk26 : ∀ {I : HI} {l0 : Nat} {d1 : Option Value} {c : Nat × Nat}, (c.1 ≤ 0 ∧ c.2 ≤ 0) → k26 I l0 = some o → V K J 172 26 [some (.ref l0), d1] [] sh I R c F) : ∀ (n : Nat) {I : HI} {l0 : Nat} {l1 : Int32} {c : Nat × Nat} (_ : c.1 ≤ 0 ∧ c.2 ≤ 0) (_ : fX11_load_l7 fu sh R k26 n I l0 l1 = some o), V K J 172 7 [some (.ref l0), some (.int l1)] [] sh I R c F := by
  intro n
  induction n with
  | zero => exact fun _ h0 => nomatch h0
  | succ n ih => exact fun hc0 h0 => vX11_load_b7 hF ih hk26 hc0 h0
set_option maxRecDepth 100000 in
set_option maxHeartbeats 4000000 in
def fX11_load_b113 (fu : Nat) (sh : HS) (R : HR) (k113 : HI → Nat → Option (Int32 × HI)) (k134 : HI → Nat → Option (Int32 × HI)) (I : HI) (l0 : Nat) : Option (Int32 × HI) :=
  (fX11_isFine fu sh I R l0).bind fun v23 =>
  if v23 = 0 then
    (k134 I l0)
  else
    ((oI sh I l0 9 11).bind fun v24 =>
    if v24 = 0 then
      (k134 I l0)
    else
      ((fX11_readScene fu sh I R l0).bind fun w25 =>
      k113 w25 l0))
set_option maxRecDepth 100000 in
set_option maxHeartbeats 4000000 in
theorem vX11_load_b113 {K J : Nat → Nat} {fu : Nat} {sh : HS} {R : HR} {F : VF} {o : (Int32 × HI)} (hF : F (.inl (some (.int o.1))) sh o.2 R) {k113 : HI → Nat → Option (Int32 × HI)} {k134 : HI → Nat → Option (Int32 × HI)} (hk113 : ∀ {I : HI} {l0 : Nat} {d1 : Option Value} {c : Nat × Nat}, (c.1 ≤ 0 ∧ c.2 ≤ 0) → k113 I l0 = some o → V K J 172 113 [some (.ref l0), d1] [] sh I R c F) (hk134 : ∀ {I : HI} {l0 : Nat} {d1 : Option Value} {c : Nat × Nat}, (c.1 ≤ 0 ∧ c.2 ≤ 0) → k134 I l0 = some o → V K J 172 134 [some (.ref l0), d1] [] sh I R c F) {I : HI} {l0 : Nat} {d1 : Option Value} {c : Nat × Nat} (hc0 : c.1 ≤ 0 ∧ c.2 ≤ 0) (h0 : fX11_load_b113 fu sh R k113 k134 I l0 = some o) : V K J 172 113 [some (.ref l0), d1] [] sh I R c F := by
  unfold fX11_load_b113 at h0
  refine s_rl (i := 0) (pc' := 114) (by decide +kernel) rfl ?_
  refine kX11_isFine (X := 0) (Y := 0) (X' := 0) (Y' := 0) (pc' := 117) (by decide +kernel) hc0 rfl h0 (fun v23 c hc1 h1 => ?_); clear h0 hc0
  refine s_if (ins := .ifCond .eq 17) (t := 134) (pc' := 120) (by decide +kernel) rfl rfl rfl h1 (fun p2 h2 => ?_) (fun p2 h2 => ?_) <;> clear h1
  · exact hk134 hc1 h2
  · refine s_rl (i := 0) (pc' := 121) (by decide +kernel) rfl ?_
    refine s_gI (t := 9) (j := 11) (ty := 0) (pc' := 124) (by decide +kernel) rfl h2 (fun v24 h3 => ?_); clear h2
    refine s_if (ins := .ifCond .eq 10) (t := 134) (pc' := 127) (by decide +kernel) rfl rfl rfl h3 (fun p4 h4 => ?_) (fun p4 h4 => ?_) <;> clear h3
    · exact hk134 hc1 h4
    · refine s_rl (i := 0) (pc' := 128) (by decide +kernel) rfl ?_
      refine kX11_readScene (X := 0) (Y := 0) (X' := 0) (Y' := 0) (pc' := 131) (by decide +kernel) hc1 rfl h4 (fun w25 c hc2 h5 => ?_); clear h4 hc1
      refine s_go (t := 113) (by decide +kernel) ?_
      exact hk113 hc2 h5
set_option maxRecDepth 100000 in
set_option maxHeartbeats 4000000 in
def fX11_load_l113 (fu : Nat) (sh : HS) (R : HR) (k134 : HI → Nat → Option (Int32 × HI)) : Nat → HI → Nat → Option (Int32 × HI)
  | 0 => fun _ _ => none
  | n + 1 => fX11_load_b113 fu sh R (fX11_load_l113 fu sh R k134 n) k134
set_option maxRecDepth 100000 in
set_option maxHeartbeats 4000000 in
theorem vX11_load_l113 {K J : Nat → Nat} {fu : Nat} {sh : HS} {R : HR} {F : VF} {o : (Int32 × HI)} (hF : F (.inl (some (.int o.1))) sh o.2 R) {k134 : HI → Nat → Option (Int32 × HI)} (hk134 : ∀ {I : HI} {l0 : Nat} {d1 : Option Value} {c : Nat × Nat}, (c.1 ≤ 0 ∧ c.2 ≤ 0) → k134 I l0 = some o → V K J 172 134 [some (.ref l0), d1] [] sh I R c F) : ∀ (n : Nat) {I : HI} {l0 : Nat} {d1 : Option Value} {c : Nat × Nat} (_ : c.1 ≤ 0 ∧ c.2 ≤ 0) (_ : fX11_load_l113 fu sh R k134 n I l0 = some o), V K J 172 113 [some (.ref l0), d1] [] sh I R c F := by
  intro n
  induction n with
  | zero => exact fun _ h0 => nomatch h0
  | succ n ih => exact fun hc0 h0 => vX11_load_b113 hF ih hk134 hc0 h0
set_option maxRecDepth 100000 in
set_option maxHeartbeats 4000000 in
def fX11_load_b159 (fu : Nat) (sh : HS) (R : HR) (k159 : HI → Nat → Int32 → Option (Int32 × HI)) (I : HI) (l0 : Nat) (l1 : Int32) : Option (Int32 × HI) :=
  if 119 ≤ l1 then
    ((oP sh I l0 9 4 1).bind fun v29 =>
    (oP sh v29 l0 9 3 0).bind fun v30 =>
    (oR sh R l0 9 0).bind fun v31 =>
    (oA sh v30 v31 4).bind fun v32 =>
    some (v32, v30))
  else
    ((oR sh R l0 9 0).bind fun v33 =>
    (oR sh R l0 9 1).bind fun v34 =>
    (oA sh I v34 l1).bind fun v35 =>
    (oS sh I v33 l1 v35).bind fun v36 =>
    k159 v36 l0 (l1 + 1))
set_option maxRecDepth 100000 in
set_option maxHeartbeats 4000000 in
theorem vX11_load_b159 {K J : Nat → Nat} {fu : Nat} {sh : HS} {R : HR} {F : VF} {o : (Int32 × HI)} (hF : F (.inl (some (.int o.1))) sh o.2 R) {k159 : HI → Nat → Int32 → Option (Int32 × HI)} (hk159 : ∀ {I : HI} {l0 : Nat} {l1 : Int32}  {c : Nat × Nat}, (c.1 ≤ 0 ∧ c.2 ≤ 0) → k159 I l0 l1 = some o → V K J 172 159 [some (.ref l0), some (.int l1)] [] sh I R c F) {I : HI} {l0 : Nat} {l1 : Int32} {c : Nat × Nat} (hc0 : c.1 ≤ 0 ∧ c.2 ≤ 0) (h0 : fX11_load_b159 fu sh R k159 I l0 l1 = some o) : V K J 172 159 [some (.ref l0), some (.int l1)] [] sh I R c F := by
  unfold fX11_load_b159 at h0
  refine s_il (i := 1) (pc' := 160) (by decide +kernel) rfl ?_
  refine s_c (v := 119) (pc' := 162) (by decide +kernel) ?_
  refine s_if (ins := .if_icmp .ge 21) (t := 183) (pc' := 165) (by decide +kernel) rfl rfl rfl h0 (fun p1 h1 => ?_) (fun p1 h1 => ?_) <;> clear h0
  · refine s_rl (i := 0) (pc' := 184) (by decide +kernel) rfl ?_
    refine s_c (v := 1) (pc' := 185) (by decide +kernel) ?_
    refine s_pI (t := 9) (j := 4) (ty := 1) (pc' := 188) (by decide +kernel) (Or.inr ⟨rfl, by decide⟩) h1 (fun v29 h2 => ?_); clear h1
    refine s_rl (i := 0) (pc' := 189) (by decide +kernel) rfl ?_
    refine s_c (v := 0) (pc' := 190) (by decide +kernel) ?_
    refine s_pI (t := 9) (j := 3) (ty := 0) (pc' := 193) (by decide +kernel) (Or.inl rfl) h2 (fun v30 h3 => ?_); clear h2
    refine s_rl (i := 0) (pc' := 194) (by decide +kernel) rfl ?_
    refine s_gR (t := 9) (j := 0) (pc' := 197) (by decide +kernel) h3 (fun v31 h4 => ?_); clear h3
    refine s_c (v := 4) (pc' := 198) (by decide +kernel) ?_
    refine s_al (pc' := 199) (by decide +kernel) h4 (fun v32 h5 => ?_); clear h4
    have e9 := Option.some.inj h5; subst e9
    exact s_ri (X := 0) (Y := 0) (by decide +kernel) hc0 hF
  · refine s_rl (i := 0) (pc' := 166) (by decide +kernel) rfl ?_
    refine s_gR (t := 9) (j := 0) (pc' := 169) (by decide +kernel) h1 (fun v33 h2 => ?_); clear h1
    refine s_il (i := 1) (pc' := 170) (by decide +kernel) rfl ?_
    refine s_rl (i := 0) (pc' := 171) (by decide +kernel) rfl ?_
    refine s_gR (t := 9) (j := 1) (pc' := 174) (by decide +kernel) h2 (fun v34 h3 => ?_); clear h2
    refine s_il (i := 1) (pc' := 175) (by decide +kernel) rfl ?_
    refine s_al (pc' := 176) (by decide +kernel) h3 (fun v35 h4 => ?_); clear h3
    refine s_as (pc' := 177) (by decide +kernel) h4 (fun v36 h5 => ?_); clear h4
    refine s_inc (i := 1) (z := 1) (pc' := 180) (L' := [some (.ref l0), some (.int (l1 + 1))]) (by decide +kernel) rfl rfl rfl ?_
    refine s_go (t := 159) (by decide +kernel) ?_
    exact hk159 hc0 h5
set_option maxRecDepth 100000 in
set_option maxHeartbeats 4000000 in
def fX11_load_l159 (fu : Nat) (sh : HS) (R : HR) : Nat → HI → Nat → Int32 → Option (Int32 × HI)
  | 0 => fun _ _ _ => none
  | n + 1 => fX11_load_b159 fu sh R (fX11_load_l159 fu sh R n)
set_option maxRecDepth 100000 in
set_option maxHeartbeats 4000000 in
theorem vX11_load_l159 {K J : Nat → Nat} {fu : Nat} {sh : HS} {R : HR} {F : VF} {o : (Int32 × HI)} (hF : F (.inl (some (.int o.1))) sh o.2 R) : ∀ (n : Nat) {I : HI} {l0 : Nat} {l1 : Int32} {c : Nat × Nat} (_ : c.1 ≤ 0 ∧ c.2 ≤ 0) (_ : fX11_load_l159 fu sh R n I l0 l1 = some o), V K J 172 159 [some (.ref l0), some (.int l1)] [] sh I R c F := by
  intro n
  induction n with
  | zero => exact fun _ h0 => nomatch h0
  | succ n ih => exact fun hc0 h0 => vX11_load_b159 hF ih hc0 h0
set_option maxRecDepth 100000 in
set_option maxHeartbeats 4000000 in
def fX11_load_b134 (fu : Nat) (sh : HS) (R : HR) (I : HI) (l0 : Nat) : Option (Int32 × HI) :=
  (oI sh I l0 9 14).bind fun v26 =>
  (oP sh I l0 9 15 v26).bind fun v27 =>
  (fX11_isFine fu sh v27 R l0).bind fun v28 =>
  if v28 = 0 then
    ((oI sh v27 l0 9 13).bind fun v37 =>
    some (((-10) - v37), v27))
  else
    ((fX11_load_l159 fu sh R fu) v27 l0 0)
set_option maxRecDepth 100000 in
set_option maxHeartbeats 4000000 in
theorem vX11_load_b134 {K J : Nat → Nat} {fu : Nat} {sh : HS} {R : HR} {F : VF} {o : (Int32 × HI)} (hF : F (.inl (some (.int o.1))) sh o.2 R) {I : HI} {l0 : Nat} {d1 : Option Value} {c : Nat × Nat} (hc0 : c.1 ≤ 0 ∧ c.2 ≤ 0) (h0 : fX11_load_b134 fu sh R I l0 = some o) : V K J 172 134 [some (.ref l0), d1] [] sh I R c F := by
  unfold fX11_load_b134 at h0
  refine s_rl (i := 0) (pc' := 135) (by decide +kernel) rfl ?_
  refine s_rl (i := 0) (pc' := 136) (by decide +kernel) rfl ?_
  refine s_gI (t := 9) (j := 14) (ty := 0) (pc' := 139) (by decide +kernel) rfl h0 (fun v26 h1 => ?_); clear h0
  refine s_pI (t := 9) (j := 15) (ty := 0) (pc' := 142) (by decide +kernel) (Or.inl rfl) h1 (fun v27 h2 => ?_); clear h1
  refine s_rl (i := 0) (pc' := 143) (by decide +kernel) rfl ?_
  refine kX11_isFine (X := 0) (Y := 0) (X' := 0) (Y' := 0) (pc' := 146) (by decide +kernel) hc0 rfl h2 (fun v28 c hc1 h3 => ?_); clear h2 hc0
  refine s_ifn (ins := .ifCond .ne 11) (t := 157) (pc' := 149) (by decide +kernel) rfl rfl rfl h3 (fun p4 h4 => ?_) (fun p4 h4 => ?_) <;> clear h3
  · refine s_c (v := 0) (pc' := 158) (by decide +kernel) ?_
    refine s_is (i := 1) (pc' := 159) (L' := [some (.ref l0), some (.int 0)]) (by decide +kernel) rfl rfl ?_
    exact (vX11_load_l159 hF fu) hc1 h4
  · refine s_c (v := (-10)) (pc' := 151) (by decide +kernel) ?_
    refine s_rl (i := 0) (pc' := 152) (by decide +kernel) rfl ?_
    refine s_gI (t := 9) (j := 13) (ty := 0) (pc' := 155) (by decide +kernel) rfl h4 (fun v37 h5 => ?_); clear h4
    refine s_a (ins := .isub) (pc' := 156) (by decide +kernel) rfl ?_
    have e9 := Option.some.inj h5; subst e9
    exact s_ri (X := 0) (Y := 0) (by decide +kernel) hc1 hF
set_option maxRecDepth 100000 in
set_option maxHeartbeats 4000000 in
def fX11_load_b26 (fu : Nat) (sh : HS) (R : HR) (I : HI) (l0 : Nat) : Option (Int32 × HI) :=
  (oI sh I l0 9 7).bind fun v4 =>
  (oP sh I l0 9 8 v4).bind fun v5 =>
  (oP sh v5 l0 9 7 0).bind fun v6 =>
  (oP sh v6 l0 9 9 0).bind fun v7 =>
  (oP sh v7 l0 9 13 0).bind fun v8 =>
  (oP sh v8 l0 9 14 (-1)).bind fun v9 =>
  (fX11_next fu sh v9 R l0).bind fun w10 =>
  (fX11_expectWord fu sh w10 R l0 14).bind fun w11 =>
  (oR sh R l0 9 1).bind fun v12 =>
  oH (fX11_read fu sh w11 R l0 0 99) fun v13 w13 =>
  (oS sh w13 v12 0 v13).bind fun v14 =>
  (oR sh R l0 9 1).bind fun v15 =>
  oH (fX11_read fu sh v14 R l0 0 2000) fun v16 w16 =>
  (oS sh w16 v15 1 v16).bind fun v17 =>
  (oR sh R l0 9 1).bind fun v18 =>
  oH (fX11_read fu sh v17 R l0 0 2000) fun v19 w19 =>
  (oS sh w19 v18 2 v19).bind fun v20 =>
  (fX11_expectSemicolon fu sh v20 R l0).bind fun w21 =>
  (fX11_readScene fu sh w21 R l0).bind fun w22 =>
  (fX11_load_l113 fu sh R (fX11_load_b134 fu sh R) fu) w22 l0
set_option maxRecDepth 100000 in
set_option maxHeartbeats 4000000 in
theorem vX11_load_b26 {K J : Nat → Nat} {fu : Nat} {sh : HS} {R : HR} {F : VF} {o : (Int32 × HI)} (hF : F (.inl (some (.int o.1))) sh o.2 R) {I : HI} {l0 : Nat} {d1 : Option Value} {c : Nat × Nat} (hc0 : c.1 ≤ 0 ∧ c.2 ≤ 0) (h0 : fX11_load_b26 fu sh R I l0 = some o) : V K J 172 26 [some (.ref l0), d1] [] sh I R c F := by
  unfold fX11_load_b26 at h0
  refine s_rl (i := 0) (pc' := 27) (by decide +kernel) rfl ?_
  refine s_rl (i := 0) (pc' := 28) (by decide +kernel) rfl ?_
  refine s_gI (t := 9) (j := 7) (ty := 0) (pc' := 31) (by decide +kernel) rfl h0 (fun v4 h1 => ?_); clear h0
  refine s_pI (t := 9) (j := 8) (ty := 0) (pc' := 34) (by decide +kernel) (Or.inl rfl) h1 (fun v5 h2 => ?_); clear h1
  refine s_rl (i := 0) (pc' := 35) (by decide +kernel) rfl ?_
  refine s_c (v := 0) (pc' := 36) (by decide +kernel) ?_
  refine s_pI (t := 9) (j := 7) (ty := 0) (pc' := 39) (by decide +kernel) (Or.inl rfl) h2 (fun v6 h3 => ?_); clear h2
  refine s_rl (i := 0) (pc' := 40) (by decide +kernel) rfl ?_
  refine s_c (v := 0) (pc' := 41) (by decide +kernel) ?_
  refine s_pI (t := 9) (j := 9) (ty := 0) (pc' := 44) (by decide +kernel) (Or.inl rfl) h3 (fun v7 h4 => ?_); clear h3
  refine s_rl (i := 0) (pc' := 45) (by decide +kernel) rfl ?_
  refine s_c (v := 0) (pc' := 46) (by decide +kernel) ?_
  refine s_pI (t := 9) (j := 13) (ty := 0) (pc' := 49) (by decide +kernel) (Or.inl rfl) h4 (fun v8 h5 => ?_); clear h4
  refine s_rl (i := 0) (pc' := 50) (by decide +kernel) rfl ?_
  refine s_c (v := (-1)) (pc' := 51) (by decide +kernel) ?_
  refine s_pI (t := 9) (j := 14) (ty := 0) (pc' := 54) (by decide +kernel) (Or.inl rfl) h5 (fun v9 h6 => ?_); clear h5
  refine s_rl (i := 0) (pc' := 55) (by decide +kernel) rfl ?_
  refine kX11_next (X := 0) (Y := 0) (X' := 0) (Y' := 0) (pc' := 58) (by decide +kernel) hc0 rfl h6 (fun w10 c hc1 h7 => ?_); clear h6 hc0
  refine s_rl (i := 0) (pc' := 59) (by decide +kernel) rfl ?_
  refine s_cS (i := 14) (pc' := 61) (by decide +kernel) ?_
  refine kX11_expectWord (X := 0) (Y := 0) (X' := 0) (Y' := 0) (pc' := 64) (by decide +kernel) hc1 rfl h7 (fun w11 c hc2 h8 => ?_); clear h7 hc1
  refine s_rl (i := 0) (pc' := 65) (by decide +kernel) rfl ?_
  refine s_gR (t := 9) (j := 1) (pc' := 68) (by decide +kernel) h8 (fun v12 h9 => ?_); clear h8
  refine s_c (v := 0) (pc' := 69) (by decide +kernel) ?_
  refine s_rl (i := 0) (pc' := 70) (by decide +kernel) rfl ?_
  refine s_c (v := 0) (pc' := 71) (by decide +kernel) ?_
  refine s_c (v := 99) (pc' := 73) (by decide +kernel) ?_
  refine kX11_read (X := 0) (Y := 0) (X' := 0) (Y' := 0) (pc' := 76) (by decide +kernel) hc2 rfl h9 (fun v13 w13 c hc3 h10 => ?_); clear h9 hc2
  refine s_as (pc' := 77) (by decide +kernel) h10 (fun v14 h11 => ?_); clear h10
  refine s_rl (i := 0) (pc' := 78) (by decide +kernel) rfl ?_
  refine s_gR (t := 9) (j := 1) (pc' := 81) (by decide +kernel) h11 (fun v15 h12 => ?_); clear h11
  refine s_c (v := 1) (pc' := 82) (by decide +kernel) ?_
  refine s_rl (i := 0) (pc' := 83) (by decide +kernel) rfl ?_
  refine s_c (v := 0) (pc' := 84) (by decide +kernel) ?_
  refine s_c (v := 2000) (pc' := 87) (by decide +kernel) ?_
  refine kX11_read (X := 0) (Y := 0) (X' := 0) (Y' := 0) (pc' := 90) (by decide +kernel) hc3 rfl h12 (fun v16 w16 c hc4 h13 => ?_); clear h12 hc3
  refine s_as (pc' := 91) (by decide +kernel) h13 (fun v17 h14 => ?_); clear h13
  refine s_rl (i := 0) (pc' := 92) (by decide +kernel) rfl ?_
  refine s_gR (t := 9) (j := 1) (pc' := 95) (by decide +kernel) h14 (fun v18 h15 => ?_); clear h14
  refine s_c (v := 2) (pc' := 96) (by decide +kernel) ?_
  refine s_rl (i := 0) (pc' := 97) (by decide +kernel) rfl ?_
  refine s_c (v := 0) (pc' := 98) (by decide +kernel) ?_
  refine s_c (v := 2000) (pc' := 101) (by decide +kernel) ?_
  refine kX11_read (X := 0) (Y := 0) (X' := 0) (Y' := 0) (pc' := 104) (by decide +kernel) hc4 rfl h15 (fun v19 w19 c hc5 h16 => ?_); clear h15 hc4
  refine s_as (pc' := 105) (by decide +kernel) h16 (fun v20 h17 => ?_); clear h16
  refine s_rl (i := 0) (pc' := 106) (by decide +kernel) rfl ?_
  refine kX11_expectSemicolon (X := 0) (Y := 0) (X' := 0) (Y' := 0) (pc' := 109) (by decide +kernel) hc5 rfl h17 (fun w21 c hc6 h18 => ?_); clear h17 hc5
  refine s_rl (i := 0) (pc' := 110) (by decide +kernel) rfl ?_
  refine kX11_readScene (X := 0) (Y := 0) (X' := 0) (Y' := 0) (pc' := 113) (by decide +kernel) hc6 rfl h18 (fun w22 c hc7 h19 => ?_); clear h18 hc6
  exact (vX11_load_l113 hF (vX11_load_b134 hF) fu) hc7 h19
set_option maxRecDepth 100000 in
set_option maxHeartbeats 4000000 in
def fX11_load (fu : Nat) (sh : HS) (I : HI) (R : HR) (l0 : Nat) : Option (Int32 × HI) :=
  if isT sh l0 9 = true then
    ((oP sh I l0 9 5 0).bind fun v1 =>
    (fX11_load_l7 fu sh R (fX11_load_b26 fu sh R) fu) v1 l0 0)
  else none
set_option maxRecDepth 100000 in
set_option maxHeartbeats 4000000 in
theorem vX11_load {K J : Nat → Nat} {fu : Nat} {sh : HS} {I : HI} {R : HR} {F : VF} {o : (Int32 × HI)} (hF : F (.inl (some (.int o.1))) sh o.2 R) {l0 : Nat} (h0 : fX11_load fu sh I R l0 = some o) : V K J 172 0 (ent 2 [.ref l0]) [] sh I R (0, 0) F := by
  unfold fX11_load at h0
  obtain ⟨-, h1⟩ := gd h0; clear h0
  have hc0 : ((0 : Nat), (0 : Nat)).1 ≤ 0 ∧ ((0 : Nat), (0 : Nat)).2 ≤ 0 := ⟨Nat.le_refl _, Nat.le_refl _⟩
  show V K J 172 0 [some (.ref l0), none] [] sh I R (0, 0) F
  refine s_rl (i := 0) (pc' := 1) (by decide +kernel) rfl ?_
  refine s_c (v := 0) (pc' := 2) (by decide +kernel) ?_
  refine s_pI (t := 9) (j := 5) (ty := 0) (pc' := 5) (by decide +kernel) (Or.inl rfl) h1 (fun v1 h2 => ?_); clear h1
  refine s_c (v := 0) (pc' := 6) (by decide +kernel) ?_
  refine s_is (i := 1) (pc' := 7) (L' := [some (.ref l0), some (.int 0)]) (by decide +kernel) rfl rfl ?_
  exact (vX11_load_l7 hF (vX11_load_b26 hF) fu) hc0 h2
set_option maxRecDepth 100000 in
set_option maxHeartbeats 4000000 in
theorem kX11_load {K J : Nat → Nat} {fu : Nat} {sh : HS} {I : HI} {R : HR} {F : VF} {mi pc pc' X Y X' Y' : Nat} {L : VL} {rest : List Value} {c : Nat × Nat} {l0 : Nat} {ω : Type} {o : ω} {g : Int32 → HI → Option ω} (hq : cQ mi pc 172 1 pc' X Y X' Y' = true) (hc : c.1 ≤ X ∧ c.2 ≤ Y) (hr : Nat.ble (catS rest) 8 = true) (h : oH (fX11_load fu sh I R l0) g = some o) (kk : ∀ v w c', (c'.1 ≤ X' ∧ c'.2 ≤ Y') → g v w = some o → V K J mi pc' L ((.int v) :: rest) sh w R c' F) : V K J mi pc L (.ref l0 :: rest) sh I R c F := by
  obtain ⟨r, h1, h2⟩ := bnd h
  have hT : isT sh l0 9 = true := by unfold fX11_load at h1; exact (gd h1).1
  have ml : mL 172 = 2 := by decide +kernel
  have mk : mK 172 = 1 := by decide +kernel
  have mc : mC 172 = 9 := by decide +kernel
  obtain ⟨v, w⟩ := r
  refine s_call (as := [.ref l0]) (G := fun o' sh' I' R' => o' = .inl (some (.int v)) ∧ sh' = sh ∧ I' = w ∧ R' = R) hq hc rfl hr (by rw [ml]; rfl) (Or.inl rfl) (fun _ => Or.inl ⟨by rw [mc]; decide, by rw [mc]; exact isT_iff.mp hT⟩) (fun z => absurd (mk.symm.trans z) (by decide)) (by rw [ml]; exact vX11_load (F := fun o' sh' I' R' => o' = .inl (some (.int v)) ∧ sh' = sh ∧ I' = w ∧ R' = R) ⟨rfl, rfl, rfl, rfl⟩ h1) ?_ ?_ ?_
  · rintro sh' I' R' c' hc' ⟨g1, rfl, rfl, rfl⟩
    cases g1
  · rintro v' sh' I' R' c' hc' ⟨g1, rfl, rfl, rfl⟩
    cases g1
    exact kk _ _ _ hc' h2
  · rintro E' sh' I' R' ⟨g1, rfl, rfl, rfl⟩
    cases g1
set_option maxRecDepth 100000 in
set_option maxHeartbeats 4000000 in
def fX11_errorPosition (fu : Nat) (sh : HS) (I : HI) (R : HR) (l0 : Nat) : Option (Int32 × HI) :=
  if isT sh l0 9 = true then
    ((oP sh I l0 9 5 0).bind fun v1 =>
    (oI sh v1 l0 9 15).bind fun v2 =>
    some (v2, v1))
  else none
set_option maxRecDepth 100000 in
set_option maxHeartbeats 4000000 in
theorem vX11_errorPosition {K J : Nat → Nat} {fu : Nat} {sh : HS} {I : HI} {R : HR} {F : VF} {o : (Int32 × HI)} (hF : F (.inl (some (.int o.1))) sh o.2 R) {l0 : Nat} (h0 : fX11_errorPosition fu sh I R l0 = some o) : V K J 173 0 (ent 1 [.ref l0]) [] sh I R (0, 0) F := by
  unfold fX11_errorPosition at h0
  obtain ⟨-, h1⟩ := gd h0; clear h0
  have hc0 : ((0 : Nat), (0 : Nat)).1 ≤ 0 ∧ ((0 : Nat), (0 : Nat)).2 ≤ 0 := ⟨Nat.le_refl _, Nat.le_refl _⟩
  show V K J 173 0 [some (.ref l0)] [] sh I R (0, 0) F
  refine s_rl (i := 0) (pc' := 1) (by decide +kernel) rfl ?_
  refine s_c (v := 0) (pc' := 2) (by decide +kernel) ?_
  refine s_pI (t := 9) (j := 5) (ty := 0) (pc' := 5) (by decide +kernel) (Or.inl rfl) h1 (fun v1 h2 => ?_); clear h1
  refine s_rl (i := 0) (pc' := 6) (by decide +kernel) rfl ?_
  refine s_gI (t := 9) (j := 15) (ty := 0) (pc' := 9) (by decide +kernel) rfl h2 (fun v2 h3 => ?_); clear h2
  have e9 := Option.some.inj h3; subst e9
  exact s_ri (X := 0) (Y := 0) (by decide +kernel) hc0 hF
set_option maxRecDepth 100000 in
set_option maxHeartbeats 4000000 in
theorem kX11_errorPosition {K J : Nat → Nat} {fu : Nat} {sh : HS} {I : HI} {R : HR} {F : VF} {mi pc pc' X Y X' Y' : Nat} {L : VL} {rest : List Value} {c : Nat × Nat} {l0 : Nat} {ω : Type} {o : ω} {g : Int32 → HI → Option ω} (hq : cQ mi pc 173 1 pc' X Y X' Y' = true) (hc : c.1 ≤ X ∧ c.2 ≤ Y) (hr : Nat.ble (catS rest) 8 = true) (h : oH (fX11_errorPosition fu sh I R l0) g = some o) (kk : ∀ v w c', (c'.1 ≤ X' ∧ c'.2 ≤ Y') → g v w = some o → V K J mi pc' L ((.int v) :: rest) sh w R c' F) : V K J mi pc L (.ref l0 :: rest) sh I R c F := by
  obtain ⟨r, h1, h2⟩ := bnd h
  have hT : isT sh l0 9 = true := by unfold fX11_errorPosition at h1; exact (gd h1).1
  have ml : mL 173 = 1 := by decide +kernel
  have mk : mK 173 = 1 := by decide +kernel
  have mc : mC 173 = 9 := by decide +kernel
  obtain ⟨v, w⟩ := r
  refine s_call (as := [.ref l0]) (G := fun o' sh' I' R' => o' = .inl (some (.int v)) ∧ sh' = sh ∧ I' = w ∧ R' = R) hq hc rfl hr (by rw [ml]; rfl) (Or.inl rfl) (fun _ => Or.inl ⟨by rw [mc]; decide, by rw [mc]; exact isT_iff.mp hT⟩) (fun z => absurd (mk.symm.trans z) (by decide)) (by rw [ml]; exact vX11_errorPosition (F := fun o' sh' I' R' => o' = .inl (some (.int v)) ∧ sh' = sh ∧ I' = w ∧ R' = R) ⟨rfl, rfl, rfl, rfl⟩ h1) ?_ ?_ ?_
  · rintro sh' I' R' c' hc' ⟨g1, rfl, rfl, rfl⟩
    cases g1
  · rintro v' sh' I' R' c' hc' ⟨g1, rfl, rfl, rfl⟩
    cases g1
    exact kk _ _ _ hc' h2
  · rintro E' sh' I' R' ⟨g1, rfl, rfl, rfl⟩
    cases g1
set_option maxRecDepth 100000 in
set_option maxHeartbeats 4000000 in
def fX11_remember_b52 (fu : Nat) (sh : HS) (R : HR) (k52 : HI → Nat → Int32 → Option HI) (I : HI) (l0 : Nat) (l1 : Int32) : Option HI :=
  if 119 ≤ l1 then
    ((oI sh I l0 9 3).bind fun v2 =>
    (oP sh I l0 9 3 (v2 + 1)).bind fun v3 =>
    some v3)
  else
    ((oR sh R l0 9 2).bind fun v4 =>
    (oI sh I l0 9 3).bind fun v5 =>
    (oR sh R l0 9 0).bind fun v6 =>
    (oA sh I v6 l1).bind fun v7 =>
    (oS sh I v4 ((119 * v5) + l1) v7).bind fun v8 =>
    k52 v8 l0 (l1 + 1))
set_option maxRecDepth 100000 in
set_option maxHeartbeats 4000000 in
theorem vX11_remember_b52 {K J : Nat → Nat} {fu : Nat} {sh : HS} {R : HR} {F : VF} {o : HI} (hF : F (.inl none) sh o R) {k52 : HI → Nat → Int32 → Option HI} (hk52 : ∀ {I : HI} {l0 : Nat} {l1 : Int32}  {c : Nat × Nat}, (c.1 ≤ 0 ∧ c.2 ≤ 0) → k52 I l0 l1 = some o → V K J 174 52 [some (.ref l0), some (.int l1)] [] sh I R c F) {I : HI} {l0 : Nat} {l1 : Int32} {c : Nat × Nat} (hc0 : c.1 ≤ 0 ∧ c.2 ≤ 0) (h0 : fX11_remember_b52 fu sh R k52 I l0 l1 = some o) : V K J 174 52 [some (.ref l0), some (.int l1)] [] sh I R c F := by
  unfold fX11_remember_b52 at h0
  refine s_il (i := 1) (pc' := 53) (by decide +kernel) rfl ?_
  refine s_c (v := 119) (pc' := 55) (by decide +kernel) ?_
  refine s_if (ins := .if_icmp .ge 29) (t := 84) (pc' := 58) (by decide +kernel) rfl rfl rfl h0 (fun p1 h1 => ?_) (fun p1 h1 => ?_) <;> clear h0
  · refine s_rl (i := 0) (pc' := 85) (by decide +kernel) rfl ?_
    refine s_a (ins := .dup) (pc' := 86) (by decide +kernel) rfl ?_
    refine s_gI (t := 9) (j := 3) (ty := 0) (pc' := 89) (by decide +kernel) rfl h1 (fun v2 h2 => ?_); clear h1
    refine s_c (v := 1) (pc' := 90) (by decide +kernel) ?_
    refine s_a (ins := .iadd) (pc' := 91) (by decide +kernel) rfl ?_
    refine s_pI (t := 9) (j := 3) (ty := 0) (pc' := 94) (by decide +kernel) (Or.inl rfl) h2 (fun v3 h3 => ?_); clear h2
    have e9 := Option.some.inj h3; subst e9
    exact s_rv (X := 0) (Y := 0) (by decide +kernel) hc0 hF
  · refine s_rl (i := 0) (pc' := 59) (by decide +kernel) rfl ?_
    refine s_gR (t := 9) (j := 2) (pc' := 62) (by decide +kernel) h1 (fun v4 h2 => ?_); clear h1
    refine s_c (v := 119) (pc' := 64) (by decide +kernel) ?_
    refine s_rl (i := 0) (pc' := 65) (by decide +kernel) rfl ?_
    refine s_gI (t := 9) (j := 3) (ty := 0) (pc' := 68) (by decide +kernel) rfl h2 (fun v5 h3 => ?_); clear h2
    refine s_a (ins := .imul) (pc' := 69) (by decide +kernel) rfl ?_
    refine s_il (i := 1) (pc' := 70) (by decide +kernel) rfl ?_
    refine s_a (ins := .iadd) (pc' := 71) (by decide +kernel) rfl ?_
    refine s_rl (i := 0) (pc' := 72) (by decide +kernel) rfl ?_
    refine s_gR (t := 9) (j := 0) (pc' := 75) (by decide +kernel) h3 (fun v6 h4 => ?_); clear h3
    refine s_il (i := 1) (pc' := 76) (by decide +kernel) rfl ?_
    refine s_al (pc' := 77) (by decide +kernel) h4 (fun v7 h5 => ?_); clear h4
    refine s_as (pc' := 78) (by decide +kernel) h5 (fun v8 h6 => ?_); clear h5
    refine s_inc (i := 1) (z := 1) (pc' := 81) (L' := [some (.ref l0), some (.int (l1 + 1))]) (by decide +kernel) rfl rfl rfl ?_
    refine s_go (t := 52) (by decide +kernel) ?_
    exact hk52 hc0 h6
set_option maxRecDepth 100000 in
set_option maxHeartbeats 4000000 in
def fX11_remember_l52 (fu : Nat) (sh : HS) (R : HR) : Nat → HI → Nat → Int32 → Option HI
  | 0 => fun _ _ _ => none
  | n + 1 => fX11_remember_b52 fu sh R (fX11_remember_l52 fu sh R n)
set_option maxRecDepth 100000 in
set_option maxHeartbeats 4000000 in
theorem vX11_remember_l52 {K J : Nat → Nat} {fu : Nat} {sh : HS} {R : HR} {F : VF} {o : HI} (hF : F (.inl none) sh o R) : ∀ (n : Nat) {I : HI} {l0 : Nat} {l1 : Int32} {c : Nat × Nat} (_ : c.1 ≤ 0 ∧ c.2 ≤ 0) (_ : fX11_remember_l52 fu sh R n I l0 l1 = some o), V K J 174 52 [some (.ref l0), some (.int l1)] [] sh I R c F := by
  intro n
  induction n with
  | zero => exact fun _ h0 => nomatch h0
  | succ n ih => exact fun hc0 h0 => vX11_remember_b52 hF ih hc0 h0
set_option maxRecDepth 100000 in
set_option maxHeartbeats 4000000 in
def fX11_remember_b50 (fu : Nat) (sh : HS) (R : HR) (I : HI) (l0 : Nat) : Option HI :=
  (fX11_remember_l52 fu sh R fu) I l0 0
set_option maxRecDepth 100000 in
set_option maxHeartbeats 4000000 in
theorem vX11_remember_b50 {K J : Nat → Nat} {fu : Nat} {sh : HS} {R : HR} {F : VF} {o : HI} (hF : F (.inl none) sh o R) {I : HI} {l0 : Nat} {d1 : Option Value} {c : Nat × Nat} (hc0 : c.1 ≤ 0 ∧ c.2 ≤ 0) (h0 : fX11_remember_b50 fu sh R I l0 = some o) : V K J 174 50 [some (.ref l0), d1] [] sh I R c F := by
  unfold fX11_remember_b50 at h0
  refine s_c (v := 0) (pc' := 51) (by decide +kernel) ?_
  refine s_is (i := 1) (pc' := 52) (L' := [some (.ref l0), some (.int 0)]) (by decide +kernel) rfl rfl ?_
  exact (vX11_remember_l52 hF fu) hc0 h0
set_option maxRecDepth 100000 in
set_option maxHeartbeats 4000000 in
def fX11_remember_b12 (fu : Nat) (sh : HS) (R : HR) (k12 : HI → Nat → Int32 → Option HI) (k40 : HI → Nat → Option HI) (I : HI) (l0 : Nat) (l1 : Int32) : Option HI :=
  if 1190 ≤ l1 then
    (k40 I l0)
  else
    ((oR sh R l0 9 2).bind fun v9 =>
    (oR sh R l0 9 2).bind fun v10 =>
    (oA sh I v10 l1).bind fun v11 =>
    (oS sh I v9 (l1 - 119) v11).bind fun v12 =>
    k12 v12 l0 (l1 + 1))
set_option maxRecDepth 100000 in
set_option maxHeartbeats 4000000 in
theorem vX11_remember_b12 {K J : Nat → Nat} {fu : Nat} {sh : HS} {R : HR} {F : VF} {o : HI} (hF : F (.inl none) sh o R) {k12 : HI → Nat → Int32 → Option HI} {k40 : HI → Nat → Option HI} (hk12 : ∀ {I : HI} {l0 : Nat} {l1 : Int32}  {c : Nat × Nat}, (c.1 ≤ 0 ∧ c.2 ≤ 0) → k12 I l0 l1 = some o → V K J 174 12 [some (.ref l0), some (.int l1)] [] sh I R c F) (hk40 : ∀ {I : HI} {l0 : Nat} {d1 : Option Value} {c : Nat × Nat}, (c.1 ≤ 0 ∧ c.2 ≤ 0) → k40 I l0 = some o → V K J 174 40 [some (.ref l0), d1] [] sh I R c F) {I : HI} {l0 : Nat} {l1 : Int32} {c : Nat × Nat} (hc0 : c.1 ≤ 0 ∧ c.2 ≤ 0) (h0 : fX11_remember_b12 fu sh R k12 k40 I l0 l1 = some o) : V K J 174 12 [some (.ref l0), some (.int l1)] [] sh I R c F := by
  unfold fX11_remember_b12 at h0
  refine s_il (i := 1) (pc' := 13) (by decide +kernel) rfl ?_
  refine s_c (v := 1190) (pc' := 16) (by decide +kernel) ?_
  refine s_if (ins := .if_icmp .ge 24) (t := 40) (pc' := 19) (by decide +kernel) rfl rfl rfl h0 (fun p1 h1 => ?_) (fun p1 h1 => ?_) <;> clear h0
  · exact hk40 hc0 h1
  · refine s_rl (i := 0) (pc' := 20) (by decide +kernel) rfl ?_
    refine s_gR (t := 9) (j := 2) (pc' := 23) (by decide +kernel) h1 (fun v9 h2 => ?_); clear h1
    refine s_il (i := 1) (pc' := 24) (by decide +kernel) rfl ?_
    refine s_c (v := 119) (pc' := 26) (by decide +kernel) ?_
    refine s_a (ins := .isub) (pc' := 27) (by decide +kernel) rfl ?_
    refine s_rl (i := 0) (pc' := 28) (by decide +kernel) rfl ?_
    refine s_gR (t := 9) (j := 2) (pc' := 31) (by decide +kernel) h2 (fun v10 h3 => ?_); clear h2
    refine s_il (i := 1) (pc' := 32) (by decide +kernel) rfl ?_
    refine s_al (pc' := 33) (by decide +kernel) h3 (fun v11 h4 => ?_); clear h3
    refine s_as (pc' := 34) (by decide +kernel) h4 (fun v12 h5 => ?_); clear h4
    refine s_inc (i := 1) (z := 1) (pc' := 37) (L' := [some (.ref l0), some (.int (l1 + 1))]) (by decide +kernel) rfl rfl rfl ?_
    refine s_go (t := 12) (by decide +kernel) ?_
    exact hk12 hc0 h5
set_option maxRecDepth 100000 in
set_option maxHeartbeats 4000000 in
def fX11_remember_l12 (fu : Nat) (sh : HS) (R : HR) (k40 : HI → Nat → Option HI) : Nat → HI → Nat → Int32 → Option HI
  | 0 => fun _ _ _ => none
  | n + 1 => fX11_remember_b12 fu sh R (fX11_remember_l12 fu sh R k40 n) k40
set_option maxRecDepth 100000 in
set_option maxHeartbeats 4000000 in
theorem vX11_remember_l12 {K J : Nat → Nat} {fu : Nat} {sh : HS} {R : HR} {F : VF} {o : HI} (hF : F (.inl none) sh o R) {k40 : HI → Nat → Option HI} (hk40 : ∀ {I : HI} {l0 : Nat} {d1 : Option Value} {c : Nat × Nat}, (c.1 ≤ 0 ∧ c.2 ≤ 0) → k40 I l0 = some o → V K J 174 40 [some (.ref l0), d1] [] sh I R c F) : ∀ (n : Nat) {I : HI} {l0 : Nat} {l1 : Int32} {c : Nat × Nat} (_ : c.1 ≤ 0 ∧ c.2 ≤ 0) (_ : fX11_remember_l12 fu sh R k40 n I l0 l1 = some o), V K J 174 12 [some (.ref l0), some (.int l1)] [] sh I R c F := by
  intro n
  induction n with
  | zero => exact fun _ h0 => nomatch h0
  | succ n ih => exact fun hc0 h0 => vX11_remember_b12 hF ih hk40 hc0 h0
set_option maxRecDepth 100000 in
set_option maxHeartbeats 4000000 in
def fX11_remember_b40 (fu : Nat) (sh : HS) (R : HR) (I : HI) (l0 : Nat) : Option HI :=
  (oI sh I l0 9 3).bind fun v13 =>
  (oP sh I l0 9 3 (v13 - 1)).bind fun v14 =>
  (fX11_remember_b50 fu sh R) v14 l0
set_option maxRecDepth 100000 in
set_option maxHeartbeats 4000000 in
theorem vX11_remember_b40 {K J : Nat → Nat} {fu : Nat} {sh : HS} {R : HR} {F : VF} {o : HI} (hF : F (.inl none) sh o R) {I : HI} {l0 : Nat} {d1 : Option Value} {c : Nat × Nat} (hc0 : c.1 ≤ 0 ∧ c.2 ≤ 0) (h0 : fX11_remember_b40 fu sh R I l0 = some o) : V K J 174 40 [some (.ref l0), d1] [] sh I R c F := by
  unfold fX11_remember_b40 at h0
  refine s_rl (i := 0) (pc' := 41) (by decide +kernel) rfl ?_
  refine s_a (ins := .dup) (pc' := 42) (by decide +kernel) rfl ?_
  refine s_gI (t := 9) (j := 3) (ty := 0) (pc' := 45) (by decide +kernel) rfl h0 (fun v13 h1 => ?_); clear h0
  refine s_c (v := 1) (pc' := 46) (by decide +kernel) ?_
  refine s_a (ins := .isub) (pc' := 47) (by decide +kernel) rfl ?_
  refine s_pI (t := 9) (j := 3) (ty := 0) (pc' := 50) (by decide +kernel) (Or.inl rfl) h1 (fun v14 h2 => ?_); clear h1
  exact (vX11_remember_b50 hF) hc0 h2
set_option maxRecDepth 100000 in
set_option maxHeartbeats 4000000 in
def fX11_remember (fu : Nat) (sh : HS) (I : HI) (R : HR) (l0 : Nat) : Option HI :=
  if isT sh l0 9 = true then
    ((oI sh I l0 9 3).bind fun v1 =>
    if v1 = 10 then
      ((fX11_remember_l12 fu sh R (fX11_remember_b40 fu sh R) fu) I l0 119)
    else
      ((fX11_remember_b50 fu sh R) I l0))
  else none
set_option maxRecDepth 100000 in
set_option maxHeartbeats 4000000 in
theorem vX11_remember {K J : Nat → Nat} {fu : Nat} {sh : HS} {I : HI} {R : HR} {F : VF} {o : HI} (hF : F (.inl none) sh o R) {l0 : Nat} (h0 : fX11_remember fu sh I R l0 = some o) : V K J 174 0 (ent 2 [.ref l0]) [] sh I R (0, 0) F := by
  unfold fX11_remember at h0
  obtain ⟨-, h1⟩ := gd h0; clear h0
  have hc0 : ((0 : Nat), (0 : Nat)).1 ≤ 0 ∧ ((0 : Nat), (0 : Nat)).2 ≤ 0 := ⟨Nat.le_refl _, Nat.le_refl _⟩
  show V K J 174 0 [some (.ref l0), none] [] sh I R (0, 0) F
  refine s_rl (i := 0) (pc' := 1) (by decide +kernel) rfl ?_
  refine s_gI (t := 9) (j := 3) (ty := 0) (pc' := 4) (by decide +kernel) rfl h1 (fun v1 h2 => ?_); clear h1
  refine s_c (v := 10) (pc' := 6) (by decide +kernel) ?_
  refine s_ifn (ins := .if_icmp .ne 44) (t := 50) (pc' := 9) (by decide +kernel) rfl rfl rfl h2 (fun p3 h3 => ?_) (fun p3 h3 => ?_) <;> clear h2
  · exact (vX11_remember_b50 hF) hc0 h3
  · refine s_c (v := 119) (pc' := 11) (by decide +kernel) ?_
    refine s_is (i := 1) (pc' := 12) (L' := [some (.ref l0), some (.int 119)]) (by decide +kernel) rfl rfl ?_
    exact (vX11_remember_l12 hF (vX11_remember_b40 hF) fu) hc0 h3
set_option maxRecDepth 100000 in
set_option maxHeartbeats 4000000 in
theorem kX11_remember {K J : Nat → Nat} {fu : Nat} {sh : HS} {I : HI} {R : HR} {F : VF} {mi pc pc' X Y X' Y' : Nat} {L : VL} {rest : List Value} {c : Nat × Nat} {l0 : Nat} {ω : Type} {o : ω} {g : HI → Option ω} (hq : cQ mi pc 174 1 pc' X Y X' Y' = true) (hc : c.1 ≤ X ∧ c.2 ≤ Y) (hr : Nat.ble (catS rest) 8 = true) (h : (fX11_remember fu sh I R l0).bind g = some o) (kk : ∀ w c', (c'.1 ≤ X' ∧ c'.2 ≤ Y') → g w = some o → V K J mi pc' L (rest) sh w R c' F) : V K J mi pc L (.ref l0 :: rest) sh I R c F := by
  obtain ⟨r, h1, h2⟩ := bnd h
  have hT : isT sh l0 9 = true := by unfold fX11_remember at h1; exact (gd h1).1
  have ml : mL 174 = 2 := by decide +kernel
  have mk : mK 174 = 1 := by decide +kernel
  have mc : mC 174 = 9 := by decide +kernel
  refine s_call (as := [.ref l0]) (G := fun o' sh' I' R' => o' = .inl none ∧ sh' = sh ∧ I' = r ∧ R' = R) hq hc rfl hr (by rw [ml]; rfl) (Or.inl rfl) (fun _ => Or.inl ⟨by rw [mc]; decide, by rw [mc]; exact isT_iff.mp hT⟩) (fun z => absurd (mk.symm.trans z) (by decide)) (by rw [ml]; exact vX11_remember (F := fun o' sh' I' R' => o' = .inl none ∧ sh' = sh ∧ I' = r ∧ R' = R) ⟨rfl, rfl, rfl, rfl⟩ h1) ?_ ?_ ?_
  · rintro sh' I' R' c' hc' ⟨g1, rfl, rfl, rfl⟩
    cases g1
    exact kk _ _ hc' h2
  · rintro v' sh' I' R' c' hc' ⟨g1, rfl, rfl, rfl⟩
    cases g1
  · rintro E' sh' I' R' ⟨g1, rfl, rfl, rfl⟩
    cases g1
set_option maxRecDepth 100000 in
set_option maxHeartbeats 4000000 in
def fX11_undo_b32 (fu : Nat) (sh : HS) (R : HR) (k32 : HI → Nat → Int32 → Option (Int32 × HI)) (I : HI) (l0 : Nat) (l1 : Int32) : Option (Int32 × HI) :=
  if 119 ≤ l1 then
    ((oI sh I l0 9 3).bind fun v5 =>
    some (v5, I))
  else
    ((oR sh R l0 9 0).bind fun v6 =>
    (oR sh R l0 9 2).bind fun v7 =>
    (oI sh I l0 9 3).bind fun v8 =>
    (oA sh I v7 ((119 * v8) + l1)).bind fun v9 =>
    (oS sh I v6 l1 v9).bind fun v10 =>
    k32 v10 l0 (l1 + 1))
set_option maxRecDepth 100000 in
set_option maxHeartbeats 4000000 in
theorem vX11_undo_b32 {K J : Nat → Nat} {fu : Nat} {sh : HS} {R : HR} {F : VF} {o : (Int32 × HI)} (hF : F (.inl (some (.int o.1))) sh o.2 R) {k32 : HI → Nat → Int32 → Option (Int32 × HI)} (hk32 : ∀ {I : HI} {l0 : Nat} {l1 : Int32}  {c : Nat × Nat}, (c.1 ≤ 0 ∧ c.2 ≤ 0) → k32 I l0 l1 = some o → V K J 175 32 [some (.ref l0), some (.int l1)] [] sh I R c F) {I : HI} {l0 : Nat} {l1 : Int32} {c : Nat × Nat} (hc0 : c.1 ≤ 0 ∧ c.2 ≤ 0) (h0 : fX11_undo_b32 fu sh R k32 I l0 l1 = some o) : V K J 175 32 [some (.ref l0), some (.int l1)] [] sh I R c F := by
  unfold fX11_undo_b32 at h0
  refine s_il (i := 1) (pc' := 33) (by decide +kernel) rfl ?_
  refine s_c (v := 119) (pc' := 35) (by decide +kernel) ?_
  refine s_if (ins := .if_icmp .ge 29) (t := 64) (pc' := 38) (by decide +kernel) rfl rfl rfl h0 (fun p1 h1 => ?_) (fun p1 h1 => ?_) <;> clear h0
  · refine s_rl (i := 0) (pc' := 65) (by decide +kernel) rfl ?_
    refine s_gI (t := 9) (j := 3) (ty := 0) (pc' := 68) (by decide +kernel) rfl h1 (fun v5 h2 => ?_); clear h1
    have e9 := Option.some.inj h2; subst e9
    exact s_ri (X := 0) (Y := 0) (by decide +kernel) hc0 hF
  · refine s_rl (i := 0) (pc' := 39) (by decide +kernel) rfl ?_
    refine s_gR (t := 9) (j := 0) (pc' := 42) (by decide +kernel) h1 (fun v6 h2 => ?_); clear h1
    refine s_il (i := 1) (pc' := 43) (by decide +kernel) rfl ?_
    refine s_rl (i := 0) (pc' := 44) (by decide +kernel) rfl ?_
    refine s_gR (t := 9) (j := 2) (pc' := 47) (by decide +kernel) h2 (fun v7 h3 => ?_); clear h2
    refine s_c (v := 119) (pc' := 49) (by decide +kernel) ?_
    refine s_rl (i := 0) (pc' := 50) (by decide +kernel) rfl ?_
    refine s_gI (t := 9) (j := 3) (ty := 0) (pc' := 53) (by decide +kernel) rfl h3 (fun v8 h4 => ?_); clear h3
    refine s_a (ins := .imul) (pc' := 54) (by decide +kernel) rfl ?_
    refine s_il (i := 1) (pc' := 55) (by decide +kernel) rfl ?_
    refine s_a (ins := .iadd) (pc' := 56) (by decide +kernel) rfl ?_
    refine s_al (pc' := 57) (by decide +kernel) h4 (fun v9 h5 => ?_); clear h4
    refine s_as (pc' := 58) (by decide +kernel) h5 (fun v10 h6 => ?_); clear h5
    refine s_inc (i := 1) (z := 1) (pc' := 61) (L' := [some (.ref l0), some (.int (l1 + 1))]) (by decide +kernel) rfl rfl rfl ?_
    refine s_go (t := 32) (by decide +kernel) ?_
    exact hk32 hc0 h6
set_option maxRecDepth 100000 in
set_option maxHeartbeats 4000000 in
def fX11_undo_l32 (fu : Nat) (sh : HS) (R : HR) : Nat → HI → Nat → Int32 → Option (Int32 × HI)
  | 0 => fun _ _ _ => none
  | n + 1 => fX11_undo_b32 fu sh R (fX11_undo_l32 fu sh R n)
set_option maxRecDepth 100000 in
set_option maxHeartbeats 4000000 in
theorem vX11_undo_l32 {K J : Nat → Nat} {fu : Nat} {sh : HS} {R : HR} {F : VF} {o : (Int32 × HI)} (hF : F (.inl (some (.int o.1))) sh o.2 R) : ∀ (n : Nat) {I : HI} {l0 : Nat} {l1 : Int32} {c : Nat × Nat} (_ : c.1 ≤ 0 ∧ c.2 ≤ 0) (_ : fX11_undo_l32 fu sh R n I l0 l1 = some o), V K J 175 32 [some (.ref l0), some (.int l1)] [] sh I R c F := by
  intro n
  induction n with
  | zero => exact fun _ h0 => nomatch h0
  | succ n ih => exact fun hc0 h0 => vX11_undo_b32 hF ih hc0 h0
set_option maxRecDepth 100000 in
set_option maxHeartbeats 4000000 in
def fX11_undo (fu : Nat) (sh : HS) (I : HI) (R : HR) (l0 : Nat) : Option (Int32 × HI) :=
  if isT sh l0 9 = true then
    (oH (fX11_isWrong fu sh I R l0 1) fun v1 w1 =>
    if v1 = 0 then
      ((oI sh w1 l0 9 3).bind fun v2 =>
      if v2 = 0 then
        (some ((-2), w1))
      else
        ((oI sh w1 l0 9 3).bind fun v3 =>
        (oP sh w1 l0 9 3 (v3 - 1)).bind fun v4 =>
        (fX11_undo_l32 fu sh R fu) v4 l0 0))
    else
      (some (0, w1)))
  else none
set_option maxRecDepth 100000 in
set_option maxHeartbeats 4000000 in
theorem vX11_undo {K J : Nat → Nat} {fu : Nat} {sh : HS} {I : HI} {R : HR} {F : VF} {o : (Int32 × HI)} (hF : F (.inl (some (.int o.1))) sh o.2 R) {l0 : Nat} (h0 : fX11_undo fu sh I R l0 = some o) : V K J 175 0 (ent 2 [.ref l0]) [] sh I R (0, 0) F := by
  unfold fX11_undo at h0
  obtain ⟨-, h1⟩ := gd h0; clear h0
  have hc0 : ((0 : Nat), (0 : Nat)).1 ≤ 0 ∧ ((0 : Nat), (0 : Nat)).2 ≤ 0 := ⟨Nat.le_refl _, Nat.le_refl _⟩
  show V K J 175 0 [some (.ref l0), none] [] sh I R (0, 0) F
  refine s_rl (i := 0) (pc' := 1) (by decide +kernel) rfl ?_
  refine s_c (v := 1) (pc' := 2) (by decide +kernel) ?_
  refine kX11_isWrong (X := 0) (Y := 0) (X' := 0) (Y' := 0) (pc' := 5) (by decide +kernel) hc0 rfl h1 (fun v1 w1 c hc1 h2 => ?_); clear h1 hc0
  refine s_if (ins := .ifCond .eq 5) (t := 10) (pc' := 8) (by decide +kernel) rfl rfl rfl h2 (fun p3 h3 => ?_) (fun p3 h3 => ?_) <;> clear h2
  · refine s_rl (i := 0) (pc' := 11) (by decide +kernel) rfl ?_
    refine s_gI (t := 9) (j := 3) (ty := 0) (pc' := 14) (by decide +kernel) rfl h3 (fun v2 h4 => ?_); clear h3
    refine s_ifn (ins := .ifCond .ne 6) (t := 20) (pc' := 17) (by decide +kernel) rfl rfl rfl h4 (fun p5 h5 => ?_) (fun p5 h5 => ?_) <;> clear h4
    · refine s_rl (i := 0) (pc' := 21) (by decide +kernel) rfl ?_
      refine s_a (ins := .dup) (pc' := 22) (by decide +kernel) rfl ?_
      refine s_gI (t := 9) (j := 3) (ty := 0) (pc' := 25) (by decide +kernel) rfl h5 (fun v3 h6 => ?_); clear h5
      refine s_c (v := 1) (pc' := 26) (by decide +kernel) ?_
      refine s_a (ins := .isub) (pc' := 27) (by decide +kernel) rfl ?_
      refine s_pI (t := 9) (j := 3) (ty := 0) (pc' := 30) (by decide +kernel) (Or.inl rfl) h6 (fun v4 h7 => ?_); clear h6
      refine s_c (v := 0) (pc' := 31) (by decide +kernel) ?_
      refine s_is (i := 1) (pc' := 32) (L' := [some (.ref l0), some (.int 0)]) (by decide +kernel) rfl rfl ?_
      exact (vX11_undo_l32 hF fu) hc1 h7
    · refine s_c (v := (-2)) (pc' := 19) (by decide +kernel) ?_
      have e9 := Option.some.inj h5; subst e9
      exact s_ri (X := 0) (Y := 0) (by decide +kernel) hc1 hF
  · refine s_c (v := 0) (pc' := 9) (by decide +kernel) ?_
    have e9 := Option.some.inj h3; subst e9
    exact s_ri (X := 0) (Y := 0) (by decide +kernel) hc1 hF
set_option maxRecDepth 100000 in
set_option maxHeartbeats 4000000 in
theorem kX11_undo {K J : Nat → Nat} {fu : Nat} {sh : HS} {I : HI} {R : HR} {F : VF} {mi pc pc' X Y X' Y' : Nat} {L : VL} {rest : List Value} {c : Nat × Nat} {l0 : Nat} {ω : Type} {o : ω} {g : Int32 → HI → Option ω} (hq : cQ mi pc 175 1 pc' X Y X' Y' = true) (hc : c.1 ≤ X ∧ c.2 ≤ Y) (hr : Nat.ble (catS rest) 8 = true) (h : oH (fX11_undo fu sh I R l0) g = some o) (kk : ∀ v w c', (c'.1 ≤ X' ∧ c'.2 ≤ Y') → g v w = some o → V K J mi pc' L ((.int v) :: rest) sh w R c' F) : V K J mi pc L (.ref l0 :: rest) sh I R c F := by
  obtain ⟨r, h1, h2⟩ := bnd h
  have hT : isT sh l0 9 = true := by unfold fX11_undo at h1; exact (gd h1).1
  have ml : mL 175 = 2 := by decide +kernel
  have mk : mK 175 = 1 := by decide +kernel
  have mc : mC 175 = 9 := by decide +kernel
  obtain ⟨v, w⟩ := r
  refine s_call (as := [.ref l0]) (G := fun o' sh' I' R' => o' = .inl (some (.int v)) ∧ sh' = sh ∧ I' = w ∧ R' = R) hq hc rfl hr (by rw [ml]; rfl) (Or.inl rfl) (fun _ => Or.inl ⟨by rw [mc]; decide, by rw [mc]; exact isT_iff.mp hT⟩) (fun z => absurd (mk.symm.trans z) (by decide)) (by rw [ml]; exact vX11_undo (F := fun o' sh' I' R' => o' = .inl (some (.int v)) ∧ sh' = sh ∧ I' = w ∧ R' = R) ⟨rfl, rfl, rfl, rfl⟩ h1) ?_ ?_ ?_
  · rintro sh' I' R' c' hc' ⟨g1, rfl, rfl, rfl⟩
    cases g1
  · rintro v' sh' I' R' c' hc' ⟨g1, rfl, rfl, rfl⟩
    cases g1
    exact kk _ _ _ hc' h2
  · rintro E' sh' I' R' ⟨g1, rfl, rfl, rfl⟩
    cases g1
set_option maxRecDepth 100000 in
set_option maxHeartbeats 4000000 in
def fX11_isScene (fu : Nat) (sh : HS) (I : HI) (R : HR) (l0 : Nat) (l1 : Int32) : Option Int32 :=
  if isT sh l0 9 = true then
    ((oR sh R l0 9 0).bind fun v1 =>
    (oA sh I v1 3).bind fun v2 =>
    (fX11_isIn fu sh I R (l1.toInt64) 0 ((v2 - 1).toInt64)).bind fun v3 =>
    (oZ v3).bind fun z4 =>
    some z4)
  else none
set_option maxRecDepth 100000 in
set_option maxHeartbeats 4000000 in
theorem vX11_isScene {K J : Nat → Nat} {fu : Nat} {sh : HS} {I : HI} {R : HR} {F : VF} {o : Int32} (hF : F (.inl (some (.int o))) sh I R) {l0 : Nat} {l1 : Int32} (h0 : fX11_isScene fu sh I R l0 l1 = some o) : V K J 176 0 (ent 2 [.ref l0, .int l1]) [] sh I R (0, 0) F := by
  unfold fX11_isScene at h0
  obtain ⟨-, h1⟩ := gd h0; clear h0
  have hc0 : ((0 : Nat), (0 : Nat)).1 ≤ 0 ∧ ((0 : Nat), (0 : Nat)).2 ≤ 0 := ⟨Nat.le_refl _, Nat.le_refl _⟩
  show V K J 176 0 [some (.ref l0), some (.int l1)] [] sh I R (0, 0) F
  refine s_il (i := 1) (pc' := 1) (by decide +kernel) rfl ?_
  refine s_a (ins := .i2l) (pc' := 2) (by decide +kernel) rfl ?_
  refine s_cJ (v := 0) (pc' := 3) (by decide +kernel) ?_
  refine s_rl (i := 0) (pc' := 4) (by decide +kernel) rfl ?_
  refine s_gR (t := 9) (j := 0) (pc' := 7) (by decide +kernel) h1 (fun v1 h2 => ?_); clear h1
  refine s_c (v := 3) (pc' := 8) (by decide +kernel) ?_
  refine s_al (pc' := 9) (by decide +kernel) h2 (fun v2 h3 => ?_); clear h2
  refine s_c (v := 1) (pc' := 10) (by decide +kernel) ?_
  refine s_a (ins := .isub) (pc' := 11) (by decide +kernel) rfl ?_
  refine s_a (ins := .i2l) (pc' := 12) (by decide +kernel) rfl ?_
  refine kX11_isIn (X := 0) (Y := 0) (X' := 0) (Y' := 0) (pc' := 15) (by decide +kernel) hc0 rfl h3 (fun v3 c hc1 h4 => ?_); clear h3 hc0
  obtain ⟨hz, h5⟩ := oZb h4
  have e9 := Option.some.inj h5; subst e9
  exact s_rz (X := 0) (Y := 0) (by decide +kernel) hz hc1 hF
set_option maxRecDepth 100000 in
set_option maxHeartbeats 4000000 in
theorem kX11_isScene {K J : Nat → Nat} {fu : Nat} {sh : HS} {I : HI} {R : HR} {F : VF} {mi pc pc' X Y X' Y' : Nat} {L : VL} {rest : List Value} {c : Nat × Nat} {l0 : Nat} {l1 : Int32} {ω : Type} {o : ω} {g : Int32 → Option ω} (hq : cQ mi pc 176 2 pc' X Y X' Y' = true) (hc : c.1 ≤ X ∧ c.2 ≤ Y) (hr : Nat.ble (catS rest) 8 = true) (h : (fX11_isScene fu sh I R l0 l1).bind g = some o) (kk : ∀ v c', (c'.1 ≤ X' ∧ c'.2 ≤ Y') → g v = some o → V K J mi pc' L ((.int v) :: rest) sh I R c' F) : V K J mi pc L (.int l1 :: .ref l0 :: rest) sh I R c F := by
  obtain ⟨r, h1, h2⟩ := bnd h
  have hT : isT sh l0 9 = true := by unfold fX11_isScene at h1; exact (gd h1).1
  have ml : mL 176 = 2 := by decide +kernel
  have mk : mK 176 = 1 := by decide +kernel
  have mc : mC 176 = 9 := by decide +kernel
  refine s_call (as := [.int l1, .ref l0]) (G := fun o' sh' I' R' => o' = .inl (some (.int r)) ∧ sh' = sh ∧ I' = I ∧ R' = R) hq hc rfl hr (by rw [ml]; rfl) (Or.inl rfl) (fun _ => Or.inl ⟨by rw [mc]; decide, by rw [mc]; exact isT_iff.mp hT⟩) (fun z => absurd (mk.symm.trans z) (by decide)) (by rw [ml]; exact vX11_isScene (F := fun o' sh' I' R' => o' = .inl (some (.int r)) ∧ sh' = sh ∧ I' = I ∧ R' = R) ⟨rfl, rfl, rfl, rfl⟩ h1) ?_ ?_ ?_
  · rintro sh' I' R' c' hc' ⟨g1, rfl, rfl, rfl⟩
    cases g1
  · rintro v' sh' I' R' c' hc' ⟨g1, rfl, rfl, rfl⟩
    cases g1
    exact kk _ _ hc' h2
  · rintro E' sh' I' R' ⟨g1, rfl, rfl, rfl⟩
    cases g1
set_option maxRecDepth 100000 in
set_option maxHeartbeats 4000000 in
def fX11_isShot (fu : Nat) (sh : HS) (I : HI) (R : HR) (l0 : Nat) (l1 : Int32) : Option Int32 :=
  if isT sh l0 9 = true then
    ((oR sh R l0 9 0).bind fun v1 =>
    (oA sh I v1 4).bind fun v2 =>
    (fX11_isIn fu sh I R (l1.toInt64) 0 ((v2 - 1).toInt64)).bind fun v3 =>
    (oZ v3).bind fun z4 =>
    some z4)
  else none
set_option maxRecDepth 100000 in
set_option maxHeartbeats 4000000 in
theorem vX11_isShot {K J : Nat → Nat} {fu : Nat} {sh : HS} {I : HI} {R : HR} {F : VF} {o : Int32} (hF : F (.inl (some (.int o))) sh I R) {l0 : Nat} {l1 : Int32} (h0 : fX11_isShot fu sh I R l0 l1 = some o) : V K J 177 0 (ent 2 [.ref l0, .int l1]) [] sh I R (0, 0) F := by
  unfold fX11_isShot at h0
  obtain ⟨-, h1⟩ := gd h0; clear h0
  have hc0 : ((0 : Nat), (0 : Nat)).1 ≤ 0 ∧ ((0 : Nat), (0 : Nat)).2 ≤ 0 := ⟨Nat.le_refl _, Nat.le_refl _⟩
  show V K J 177 0 [some (.ref l0), some (.int l1)] [] sh I R (0, 0) F
  refine s_il (i := 1) (pc' := 1) (by decide +kernel) rfl ?_
  refine s_a (ins := .i2l) (pc' := 2) (by decide +kernel) rfl ?_
  refine s_cJ (v := 0) (pc' := 3) (by decide +kernel) ?_
  refine s_rl (i := 0) (pc' := 4) (by decide +kernel) rfl ?_
  refine s_gR (t := 9) (j := 0) (pc' := 7) (by decide +kernel) h1 (fun v1 h2 => ?_); clear h1
  refine s_c (v := 4) (pc' := 8) (by decide +kernel) ?_
  refine s_al (pc' := 9) (by decide +kernel) h2 (fun v2 h3 => ?_); clear h2
  refine s_c (v := 1) (pc' := 10) (by decide +kernel) ?_
  refine s_a (ins := .isub) (pc' := 11) (by decide +kernel) rfl ?_
  refine s_a (ins := .i2l) (pc' := 12) (by decide +kernel) rfl ?_
  refine kX11_isIn (X := 0) (Y := 0) (X' := 0) (Y' := 0) (pc' := 15) (by decide +kernel) hc0 rfl h3 (fun v3 c hc1 h4 => ?_); clear h3 hc0
  obtain ⟨hz, h5⟩ := oZb h4
  have e9 := Option.some.inj h5; subst e9
  exact s_rz (X := 0) (Y := 0) (by decide +kernel) hz hc1 hF
set_option maxRecDepth 100000 in
set_option maxHeartbeats 4000000 in
theorem kX11_isShot {K J : Nat → Nat} {fu : Nat} {sh : HS} {I : HI} {R : HR} {F : VF} {mi pc pc' X Y X' Y' : Nat} {L : VL} {rest : List Value} {c : Nat × Nat} {l0 : Nat} {l1 : Int32} {ω : Type} {o : ω} {g : Int32 → Option ω} (hq : cQ mi pc 177 2 pc' X Y X' Y' = true) (hc : c.1 ≤ X ∧ c.2 ≤ Y) (hr : Nat.ble (catS rest) 8 = true) (h : (fX11_isShot fu sh I R l0 l1).bind g = some o) (kk : ∀ v c', (c'.1 ≤ X' ∧ c'.2 ≤ Y') → g v = some o → V K J mi pc' L ((.int v) :: rest) sh I R c' F) : V K J mi pc L (.int l1 :: .ref l0 :: rest) sh I R c F := by
  obtain ⟨r, h1, h2⟩ := bnd h
  have hT : isT sh l0 9 = true := by unfold fX11_isShot at h1; exact (gd h1).1
  have ml : mL 177 = 2 := by decide +kernel
  have mk : mK 177 = 1 := by decide +kernel
  have mc : mC 177 = 9 := by decide +kernel
  refine s_call (as := [.int l1, .ref l0]) (G := fun o' sh' I' R' => o' = .inl (some (.int r)) ∧ sh' = sh ∧ I' = I ∧ R' = R) hq hc rfl hr (by rw [ml]; rfl) (Or.inl rfl) (fun _ => Or.inl ⟨by rw [mc]; decide, by rw [mc]; exact isT_iff.mp hT⟩) (fun z => absurd (mk.symm.trans z) (by decide)) (by rw [ml]; exact vX11_isShot (F := fun o' sh' I' R' => o' = .inl (some (.int r)) ∧ sh' = sh ∧ I' = I ∧ R' = R) ⟨rfl, rfl, rfl, rfl⟩ h1) ?_ ?_ ?_
  · rintro sh' I' R' c' hc' ⟨g1, rfl, rfl, rfl⟩
    cases g1
  · rintro v' sh' I' R' c' hc' ⟨g1, rfl, rfl, rfl⟩
    cases g1
    exact kk _ _ hc' h2
  · rintro E' sh' I' R' ⟨g1, rfl, rfl, rfl⟩
    cases g1
set_option maxRecDepth 100000 in
set_option maxHeartbeats 4000000 in
def fX11_sceneAt (fu : Nat) (sh : HS) (I : HI) (R : HR) (l0 : Int32) : Option Int32 :=
  some (5 + (14 * l0))
set_option maxRecDepth 100000 in
set_option maxHeartbeats 4000000 in
theorem vX11_sceneAt {K J : Nat → Nat} {fu : Nat} {sh : HS} {I : HI} {R : HR} {F : VF} {o : Int32} (hF : F (.inl (some (.int o))) sh I R) {l0 : Int32} (h0 : fX11_sceneAt fu sh I R l0 = some o) : V K J 178 0 (ent 1 [.int l0]) [] sh I R (0, 0) F := by
  unfold fX11_sceneAt at h0
  have h1 := h0; clear h0
  have hc0 : ((0 : Nat), (0 : Nat)).1 ≤ 0 ∧ ((0 : Nat), (0 : Nat)).2 ≤ 0 := ⟨Nat.le_refl _, Nat.le_refl _⟩
  show V K J 178 0 [some (.int l0)] [] sh I R (0, 0) F
  refine s_c (v := 5) (pc' := 1) (by decide +kernel) ?_
  refine s_c (v := 14) (pc' := 3) (by decide +kernel) ?_
  refine s_il (i := 0) (pc' := 4) (by decide +kernel) rfl ?_
  refine s_a (ins := .imul) (pc' := 5) (by decide +kernel) rfl ?_
  refine s_a (ins := .iadd) (pc' := 6) (by decide +kernel) rfl ?_
  have e9 := Option.some.inj h1; subst e9
  exact s_ri (X := 0) (Y := 0) (by decide +kernel) hc0 hF
set_option maxRecDepth 100000 in
set_option maxHeartbeats 4000000 in
theorem kX11_sceneAt {K J : Nat → Nat} {fu : Nat} {sh : HS} {I : HI} {R : HR} {F : VF} {mi pc pc' X Y X' Y' : Nat} {L : VL} {rest : List Value} {c : Nat × Nat} {l0 : Int32} {ω : Type} {o : ω} {g : Int32 → Option ω} (hq : cQ mi pc 178 1 pc' X Y X' Y' = true) (hc : c.1 ≤ X ∧ c.2 ≤ Y) (hr : Nat.ble (catS rest) 8 = true) (h : (fX11_sceneAt fu sh I R l0).bind g = some o) (kk : ∀ v c', (c'.1 ≤ X' ∧ c'.2 ≤ Y') → g v = some o → V K J mi pc' L ((.int v) :: rest) sh I R c' F) : V K J mi pc L (.int l0 :: rest) sh I R c F := by
  obtain ⟨r, h1, h2⟩ := bnd h
  have ml : mL 178 = 1 := by decide +kernel
  have mk : mK 178 = 0 := by decide +kernel
  refine s_call (as := [.int l0]) (G := fun o' sh' I' R' => o' = .inl (some (.int r)) ∧ sh' = sh ∧ I' = I ∧ R' = R) hq hc rfl hr (by rw [ml]; rfl) (Or.inl rfl) (fun z => absurd (mk.symm.trans z) (by decide)) (fun z => absurd (mk.symm.trans z) (by decide)) (by rw [ml]; exact vX11_sceneAt (F := fun o' sh' I' R' => o' = .inl (some (.int r)) ∧ sh' = sh ∧ I' = I ∧ R' = R) ⟨rfl, rfl, rfl, rfl⟩ h1) ?_ ?_ ?_
  · rintro sh' I' R' c' hc' ⟨g1, rfl, rfl, rfl⟩
    cases g1
  · rintro v' sh' I' R' c' hc' ⟨g1, rfl, rfl, rfl⟩
    cases g1
    exact kk _ _ hc' h2
  · rintro E' sh' I' R' ⟨g1, rfl, rfl, rfl⟩
    cases g1
set_option maxRecDepth 100000 in
set_option maxHeartbeats 4000000 in
def fX11_actorsOf (fu : Nat) (sh : HS) (I : HI) (R : HR) (l0 : Nat) (l1 : Int32) : Option Int32 :=
  if isT sh l0 9 = true then
    ((oR sh R l0 9 0).bind fun v1 =>
    (fX11_sceneAt fu sh I R l1).bind fun v2 =>
    (oA sh I v1 (v2 + 1)).bind fun v3 =>
    some v3)
  else none
set_option maxRecDepth 100000 in
set_option maxHeartbeats 4000000 in
theorem vX11_actorsOf {K J : Nat → Nat} {fu : Nat} {sh : HS} {I : HI} {R : HR} {F : VF} {o : Int32} (hF : F (.inl (some (.int o))) sh I R) {l0 : Nat} {l1 : Int32} (h0 : fX11_actorsOf fu sh I R l0 l1 = some o) : V K J 179 0 (ent 2 [.ref l0, .int l1]) [] sh I R (0, 0) F := by
  unfold fX11_actorsOf at h0
  obtain ⟨-, h1⟩ := gd h0; clear h0
  have hc0 : ((0 : Nat), (0 : Nat)).1 ≤ 0 ∧ ((0 : Nat), (0 : Nat)).2 ≤ 0 := ⟨Nat.le_refl _, Nat.le_refl _⟩
  show V K J 179 0 [some (.ref l0), some (.int l1)] [] sh I R (0, 0) F
  refine s_rl (i := 0) (pc' := 1) (by decide +kernel) rfl ?_
  refine s_gR (t := 9) (j := 0) (pc' := 4) (by decide +kernel) h1 (fun v1 h2 => ?_); clear h1
  refine s_il (i := 1) (pc' := 5) (by decide +kernel) rfl ?_
  refine kX11_sceneAt (X := 0) (Y := 0) (X' := 0) (Y' := 0) (pc' := 8) (by decide +kernel) hc0 rfl h2 (fun v2 c hc1 h3 => ?_); clear h2 hc0
  refine s_c (v := 1) (pc' := 9) (by decide +kernel) ?_
  refine s_a (ins := .iadd) (pc' := 10) (by decide +kernel) rfl ?_
  refine s_al (pc' := 11) (by decide +kernel) h3 (fun v3 h4 => ?_); clear h3
  have e9 := Option.some.inj h4; subst e9
  exact s_ri (X := 0) (Y := 0) (by decide +kernel) hc1 hF
set_option maxRecDepth 100000 in
set_option maxHeartbeats 4000000 in
theorem kX11_actorsOf {K J : Nat → Nat} {fu : Nat} {sh : HS} {I : HI} {R : HR} {F : VF} {mi pc pc' X Y X' Y' : Nat} {L : VL} {rest : List Value} {c : Nat × Nat} {l0 : Nat} {l1 : Int32} {ω : Type} {o : ω} {g : Int32 → Option ω} (hq : cQ mi pc 179 2 pc' X Y X' Y' = true) (hc : c.1 ≤ X ∧ c.2 ≤ Y) (hr : Nat.ble (catS rest) 8 = true) (h : (fX11_actorsOf fu sh I R l0 l1).bind g = some o) (kk : ∀ v c', (c'.1 ≤ X' ∧ c'.2 ≤ Y') → g v = some o → V K J mi pc' L ((.int v) :: rest) sh I R c' F) : V K J mi pc L (.int l1 :: .ref l0 :: rest) sh I R c F := by
  obtain ⟨r, h1, h2⟩ := bnd h
  have hT : isT sh l0 9 = true := by unfold fX11_actorsOf at h1; exact (gd h1).1
  have ml : mL 179 = 2 := by decide +kernel
  have mk : mK 179 = 1 := by decide +kernel
  have mc : mC 179 = 9 := by decide +kernel
  refine s_call (as := [.int l1, .ref l0]) (G := fun o' sh' I' R' => o' = .inl (some (.int r)) ∧ sh' = sh ∧ I' = I ∧ R' = R) hq hc rfl hr (by rw [ml]; rfl) (Or.inl rfl) (fun _ => Or.inl ⟨by rw [mc]; decide, by rw [mc]; exact isT_iff.mp hT⟩) (fun z => absurd (mk.symm.trans z) (by decide)) (by rw [ml]; exact vX11_actorsOf (F := fun o' sh' I' R' => o' = .inl (some (.int r)) ∧ sh' = sh ∧ I' = I ∧ R' = R) ⟨rfl, rfl, rfl, rfl⟩ h1) ?_ ?_ ?_
  · rintro sh' I' R' c' hc' ⟨g1, rfl, rfl, rfl⟩
    cases g1
  · rintro v' sh' I' R' c' hc' ⟨g1, rfl, rfl, rfl⟩
    cases g1
    exact kk _ _ hc' h2
  · rintro E' sh' I' R' ⟨g1, rfl, rfl, rfl⟩
    cases g1
set_option maxRecDepth 100000 in
set_option maxHeartbeats 4000000 in
def fX11_isActor_b37 (fu : Nat) (sh : HS) (I : HI) (R : HR) (s0 : Int32) : Option Int32 :=
  (oZ s0).bind fun z2 =>
  some z2
set_option maxRecDepth 100000 in
set_option maxHeartbeats 4000000 in
theorem vX11_isActor_b37 {K J : Nat → Nat} {fu : Nat} {sh : HS} {I : HI} {R : HR} {F : VF} {o : Int32} (hF : F (.inl (some (.int o))) sh I R) {s0 : Int32} {d0 d1 d2 : Option Value} {c : Nat × Nat} (hc0 : c.1 ≤ 0 ∧ c.2 ≤ 0) (h0 : fX11_isActor_b37 fu sh I R s0 = some o) : V K J 180 37 [d0, d1, d2] [.int s0] sh I R c F := by
  unfold fX11_isActor_b37 at h0
  obtain ⟨hz, h1⟩ := oZb h0
  have e9 := Option.some.inj h1; subst e9
  exact s_rz (X := 0) (Y := 0) (by decide +kernel) hz hc0 hF
set_option maxRecDepth 100000 in
set_option maxHeartbeats 4000000 in
def fX11_isActor_b36 (fu : Nat) (sh : HS) (I : HI) (R : HR) : Option Int32 :=
  (fX11_isActor_b37 fu sh I R) 0
set_option maxRecDepth 100000 in
set_option maxHeartbeats 4000000 in
theorem vX11_isActor_b36 {K J : Nat → Nat} {fu : Nat} {sh : HS} {I : HI} {R : HR} {F : VF} {o : Int32} (hF : F (.inl (some (.int o))) sh I R) {d0 d1 d2 : Option Value} {c : Nat × Nat} (hc0 : c.1 ≤ 0 ∧ c.2 ≤ 0) (h0 : fX11_isActor_b36 fu sh I R = some o) : V K J 180 36 [d0, d1, d2] [] sh I R c F := by
  unfold fX11_isActor_b36 at h0
  refine s_c (v := 0) (pc' := 37) (by decide +kernel) ?_
  exact (vX11_isActor_b37 hF) hc0 h0
set_option maxRecDepth 100000 in
set_option maxHeartbeats 4000000 in
def fX11_isActor (fu : Nat) (sh : HS) (I : HI) (R : HR) (l0 : Nat) (l1 : Int32) (l2 : Int32) : Option Int32 :=
  if isT sh l0 9 = true then
    ((fX11_isScene fu sh I R l0 l1).bind fun v1 =>
    if v1 = 0 then
      ((fX11_isActor_b36 fu sh I R))
    else
      ((fX11_isIn fu sh I R (l2.toInt64) 0 5).bind fun v3 =>
      if v3 = 0 then
        ((fX11_isActor_b36 fu sh I R))
      else
        ((fX11_actorsOf fu sh I R l0 l1).bind fun v4 =>
        (fX11_has fu sh I R v4 l2).bind fun v5 =>
        if v5 = 0 then
          ((fX11_isActor_b36 fu sh I R))
        else
          ((fX11_isActor_b37 fu sh I R) 1))))
  else none
set_option maxRecDepth 100000 in
set_option maxHeartbeats 4000000 in
theorem vX11_isActor {K J : Nat → Nat} {fu : Nat} {sh : HS} {I : HI} {R : HR} {F : VF} {o : Int32} (hF : F (.inl (some (.int o))) sh I R) {l0 : Nat} {l1 : Int32} {l2 : Int32} (h0 : fX11_isActor fu sh I R l0 l1 l2 = some o) : V K J 180 0 (ent 3 [.ref l0, .int l1, .int l2]) [] sh I R (0, 0) F := by
  unfold fX11_isActor at h0
  obtain ⟨-, h1⟩ := gd h0; clear h0
  have hc0 : ((0 : Nat), (0 : Nat)).1 ≤ 0 ∧ ((0 : Nat), (0 : Nat)).2 ≤ 0 := ⟨Nat.le_refl _, Nat.le_refl _⟩
  show V K J 180 0 [some (.ref l0), some (.int l1), some (.int l2)] [] sh I R (0, 0) F
  refine s_rl (i := 0) (pc' := 1) (by decide +kernel) rfl ?_
  refine s_il (i := 1) (pc' := 2) (by decide +kernel) rfl ?_
  refine kX11_isScene (X := 0) (Y := 0) (X' := 0) (Y' := 0) (pc' := 5) (by decide +kernel) hc0 rfl h1 (fun v1 c hc1 h2 => ?_); clear h1 hc0
  refine s_if (ins := .ifCond .eq 31) (t := 36) (pc' := 8) (by decide +kernel) rfl rfl rfl h2 (fun p3 h3 => ?_) (fun p3 h3 => ?_) <;> clear h2
  · exact (vX11_isActor_b36 hF) hc1 h3
  · refine s_il (i := 2) (pc' := 9) (by decide +kernel) rfl ?_
    refine s_a (ins := .i2l) (pc' := 10) (by decide +kernel) rfl ?_
    refine s_cJ (v := 0) (pc' := 11) (by decide +kernel) ?_
    refine s_cJ (v := 5) (pc' := 14) (by decide +kernel) ?_
    refine kX11_isIn (X := 0) (Y := 0) (X' := 0) (Y' := 0) (pc' := 17) (by decide +kernel) hc1 rfl h3 (fun v3 c hc2 h4 => ?_); clear h3 hc1
    refine s_if (ins := .ifCond .eq 19) (t := 36) (pc' := 20) (by decide +kernel) rfl rfl rfl h4 (fun p5 h5 => ?_) (fun p5 h5 => ?_) <;> clear h4
    · exact (vX11_isActor_b36 hF) hc2 h5
    · refine s_rl (i := 0) (pc' := 21) (by decide +kernel) rfl ?_
      refine s_il (i := 1) (pc' := 22) (by decide +kernel) rfl ?_
      refine kX11_actorsOf (X := 0) (Y := 0) (X' := 0) (Y' := 0) (pc' := 25) (by decide +kernel) hc2 rfl h5 (fun v4 c hc3 h6 => ?_); clear h5 hc2
      refine s_il (i := 2) (pc' := 26) (by decide +kernel) rfl ?_
      refine kX11_has (X := 0) (Y := 0) (X' := 0) (Y' := 0) (pc' := 29) (by decide +kernel) hc3 rfl h6 (fun v5 c hc4 h7 => ?_); clear h6 hc3
      refine s_if (ins := .ifCond .eq 7) (t := 36) (pc' := 32) (by decide +kernel) rfl rfl rfl h7 (fun p8 h8 => ?_) (fun p8 h8 => ?_) <;> clear h7
      · exact (vX11_isActor_b36 hF) hc4 h8
      · refine s_c (v := 1) (pc' := 33) (by decide +kernel) ?_
        refine s_go (t := 37) (by decide +kernel) ?_
        exact (vX11_isActor_b37 hF) hc4 h8
set_option maxRecDepth 100000 in
set_option maxHeartbeats 4000000 in
theorem kX11_isActor {K J : Nat → Nat} {fu : Nat} {sh : HS} {I : HI} {R : HR} {F : VF} {mi pc pc' X Y X' Y' : Nat} {L : VL} {rest : List Value} {c : Nat × Nat} {l0 : Nat} {l1 : Int32} {l2 : Int32} {ω : Type} {o : ω} {g : Int32 → Option ω} (hq : cQ mi pc 180 3 pc' X Y X' Y' = true) (hc : c.1 ≤ X ∧ c.2 ≤ Y) (hr : Nat.ble (catS rest) 8 = true) (h : (fX11_isActor fu sh I R l0 l1 l2).bind g = some o) (kk : ∀ v c', (c'.1 ≤ X' ∧ c'.2 ≤ Y') → g v = some o → V K J mi pc' L ((.int v) :: rest) sh I R c' F) : V K J mi pc L (.int l2 :: .int l1 :: .ref l0 :: rest) sh I R c F := by
  obtain ⟨r, h1, h2⟩ := bnd h
  have hT : isT sh l0 9 = true := by unfold fX11_isActor at h1; exact (gd h1).1
  have ml : mL 180 = 3 := by decide +kernel
  have mk : mK 180 = 1 := by decide +kernel
  have mc : mC 180 = 9 := by decide +kernel
  refine s_call (as := [.int l2, .int l1, .ref l0]) (G := fun o' sh' I' R' => o' = .inl (some (.int r)) ∧ sh' = sh ∧ I' = I ∧ R' = R) hq hc rfl hr (by rw [ml]; rfl) (Or.inl rfl) (fun _ => Or.inl ⟨by rw [mc]; decide, by rw [mc]; exact isT_iff.mp hT⟩) (fun z => absurd (mk.symm.trans z) (by decide)) (by rw [ml]; exact vX11_isActor (F := fun o' sh' I' R' => o' = .inl (some (.int r)) ∧ sh' = sh ∧ I' = I ∧ R' = R) ⟨rfl, rfl, rfl, rfl⟩ h1) ?_ ?_ ?_
  · rintro sh' I' R' c' hc' ⟨g1, rfl, rfl, rfl⟩
    cases g1
  · rintro v' sh' I' R' c' hc' ⟨g1, rfl, rfl, rfl⟩
    cases g1
    exact kk _ _ hc' h2
  · rintro E' sh' I' R' ⟨g1, rfl, rfl, rfl⟩
    cases g1
set_option maxRecDepth 100000 in
set_option maxHeartbeats 4000000 in
def fX11_get (fu : Nat) (sh : HS) (I : HI) (R : HR) (l0 : Nat) (l1 : Int32) (l2 : Int32) : Option Int32 :=
  if isT sh l0 9 = true then
    ((oR sh R l0 9 0).bind fun v1 =>
    (oA sh I v1 ((47 + (6 * l1)) + l2)).bind fun v2 =>
    some v2)
  else none
set_option maxRecDepth 100000 in
set_option maxHeartbeats 4000000 in
theorem vX11_get {K J : Nat → Nat} {fu : Nat} {sh : HS} {I : HI} {R : HR} {F : VF} {o : Int32} (hF : F (.inl (some (.int o))) sh I R) {l0 : Nat} {l1 : Int32} {l2 : Int32} (h0 : fX11_get fu sh I R l0 l1 l2 = some o) : V K J 181 0 (ent 3 [.ref l0, .int l1, .int l2]) [] sh I R (0, 0) F := by
  unfold fX11_get at h0
  obtain ⟨-, h1⟩ := gd h0; clear h0
  have hc0 : ((0 : Nat), (0 : Nat)).1 ≤ 0 ∧ ((0 : Nat), (0 : Nat)).2 ≤ 0 := ⟨Nat.le_refl _, Nat.le_refl _⟩
  show V K J 181 0 [some (.ref l0), some (.int l1), some (.int l2)] [] sh I R (0, 0) F
  refine s_rl (i := 0) (pc' := 1) (by decide +kernel) rfl ?_
  refine s_gR (t := 9) (j := 0) (pc' := 4) (by decide +kernel) h1 (fun v1 h2 => ?_); clear h1
  refine s_c (v := 47) (pc' := 6) (by decide +kernel) ?_
  refine s_c (v := 6) (pc' := 8) (by decide +kernel) ?_
  refine s_il (i := 1) (pc' := 9) (by decide +kernel) rfl ?_
  refine s_a (ins := .imul) (pc' := 10) (by decide +kernel) rfl ?_
  refine s_a (ins := .iadd) (pc' := 11) (by decide +kernel) rfl ?_
  refine s_il (i := 2) (pc' := 12) (by decide +kernel) rfl ?_
  refine s_a (ins := .iadd) (pc' := 13) (by decide +kernel) rfl ?_
  refine s_al (pc' := 14) (by decide +kernel) h2 (fun v2 h3 => ?_); clear h2
  have e9 := Option.some.inj h3; subst e9
  exact s_ri (X := 0) (Y := 0) (by decide +kernel) hc0 hF
set_option maxRecDepth 100000 in
set_option maxHeartbeats 4000000 in
theorem kX11_get {K J : Nat → Nat} {fu : Nat} {sh : HS} {I : HI} {R : HR} {F : VF} {mi pc pc' X Y X' Y' : Nat} {L : VL} {rest : List Value} {c : Nat × Nat} {l0 : Nat} {l1 : Int32} {l2 : Int32} {ω : Type} {o : ω} {g : Int32 → Option ω} (hq : cQ mi pc 181 3 pc' X Y X' Y' = true) (hc : c.1 ≤ X ∧ c.2 ≤ Y) (hr : Nat.ble (catS rest) 8 = true) (h : (fX11_get fu sh I R l0 l1 l2).bind g = some o) (kk : ∀ v c', (c'.1 ≤ X' ∧ c'.2 ≤ Y') → g v = some o → V K J mi pc' L ((.int v) :: rest) sh I R c' F) : V K J mi pc L (.int l2 :: .int l1 :: .ref l0 :: rest) sh I R c F := by
  obtain ⟨r, h1, h2⟩ := bnd h
  have hT : isT sh l0 9 = true := by unfold fX11_get at h1; exact (gd h1).1
  have ml : mL 181 = 3 := by decide +kernel
  have mk : mK 181 = 1 := by decide +kernel
  have mc : mC 181 = 9 := by decide +kernel
  refine s_call (as := [.int l2, .int l1, .ref l0]) (G := fun o' sh' I' R' => o' = .inl (some (.int r)) ∧ sh' = sh ∧ I' = I ∧ R' = R) hq hc rfl hr (by rw [ml]; rfl) (Or.inl rfl) (fun _ => Or.inl ⟨by rw [mc]; decide, by rw [mc]; exact isT_iff.mp hT⟩) (fun z => absurd (mk.symm.trans z) (by decide)) (by rw [ml]; exact vX11_get (F := fun o' sh' I' R' => o' = .inl (some (.int r)) ∧ sh' = sh ∧ I' = I ∧ R' = R) ⟨rfl, rfl, rfl, rfl⟩ h1) ?_ ?_ ?_
  · rintro sh' I' R' c' hc' ⟨g1, rfl, rfl, rfl⟩
    cases g1
  · rintro v' sh' I' R' c' hc' ⟨g1, rfl, rfl, rfl⟩
    cases g1
    exact kk _ _ hc' h2
  · rintro E' sh' I' R' ⟨g1, rfl, rfl, rfl⟩
    cases g1
set_option maxRecDepth 100000 in
set_option maxHeartbeats 4000000 in
def fX11_set (fu : Nat) (sh : HS) (I : HI) (R : HR) (l0 : Nat) (l1 : Int32) (l2 : Int32) (l3 : Int32) : Option HI :=
  if isT sh l0 9 = true then
    ((oR sh R l0 9 0).bind fun v1 =>
    (oS sh I v1 ((47 + (6 * l1)) + l2) l3).bind fun v2 =>
    some v2)
  else none
set_option maxRecDepth 100000 in
set_option maxHeartbeats 4000000 in
theorem vX11_set {K J : Nat → Nat} {fu : Nat} {sh : HS} {I : HI} {R : HR} {F : VF} {o : HI} (hF : F (.inl none) sh o R) {l0 : Nat} {l1 : Int32} {l2 : Int32} {l3 : Int32} (h0 : fX11_set fu sh I R l0 l1 l2 l3 = some o) : V K J 182 0 (ent 4 [.ref l0, .int l1, .int l2, .int l3]) [] sh I R (0, 0) F := by
  unfold fX11_set at h0
  obtain ⟨-, h1⟩ := gd h0; clear h0
  have hc0 : ((0 : Nat), (0 : Nat)).1 ≤ 0 ∧ ((0 : Nat), (0 : Nat)).2 ≤ 0 := ⟨Nat.le_refl _, Nat.le_refl _⟩
  show V K J 182 0 [some (.ref l0), some (.int l1), some (.int l2), some (.int l3)] [] sh I R (0, 0) F
  refine s_rl (i := 0) (pc' := 1) (by decide +kernel) rfl ?_
  refine s_gR (t := 9) (j := 0) (pc' := 4) (by decide +kernel) h1 (fun v1 h2 => ?_); clear h1
  refine s_c (v := 47) (pc' := 6) (by decide +kernel) ?_
  refine s_c (v := 6) (pc' := 8) (by decide +kernel) ?_
  refine s_il (i := 1) (pc' := 9) (by decide +kernel) rfl ?_
  refine s_a (ins := .imul) (pc' := 10) (by decide +kernel) rfl ?_
  refine s_a (ins := .iadd) (pc' := 11) (by decide +kernel) rfl ?_
  refine s_il (i := 2) (pc' := 12) (by decide +kernel) rfl ?_
  refine s_a (ins := .iadd) (pc' := 13) (by decide +kernel) rfl ?_
  refine s_il (i := 3) (pc' := 14) (by decide +kernel) rfl ?_
  refine s_as (pc' := 15) (by decide +kernel) h2 (fun v2 h3 => ?_); clear h2
  have e9 := Option.some.inj h3; subst e9
  exact s_rv (X := 0) (Y := 0) (by decide +kernel) hc0 hF
set_option maxRecDepth 100000 in
set_option maxHeartbeats 4000000 in
theorem kX11_set {K J : Nat → Nat} {fu : Nat} {sh : HS} {I : HI} {R : HR} {F : VF} {mi pc pc' X Y X' Y' : Nat} {L : VL} {rest : List Value} {c : Nat × Nat} {l0 : Nat} {l1 : Int32} {l2 : Int32} {l3 : Int32} {ω : Type} {o : ω} {g : HI → Option ω} (hq : cQ mi pc 182 4 pc' X Y X' Y' = true) (hc : c.1 ≤ X ∧ c.2 ≤ Y) (hr : Nat.ble (catS rest) 8 = true) (h : (fX11_set fu sh I R l0 l1 l2 l3).bind g = some o) (kk : ∀ w c', (c'.1 ≤ X' ∧ c'.2 ≤ Y') → g w = some o → V K J mi pc' L (rest) sh w R c' F) : V K J mi pc L (.int l3 :: .int l2 :: .int l1 :: .ref l0 :: rest) sh I R c F := by
  obtain ⟨r, h1, h2⟩ := bnd h
  have hT : isT sh l0 9 = true := by unfold fX11_set at h1; exact (gd h1).1
  have ml : mL 182 = 4 := by decide +kernel
  have mk : mK 182 = 1 := by decide +kernel
  have mc : mC 182 = 9 := by decide +kernel
  refine s_call (as := [.int l3, .int l2, .int l1, .ref l0]) (G := fun o' sh' I' R' => o' = .inl none ∧ sh' = sh ∧ I' = r ∧ R' = R) hq hc rfl hr (by rw [ml]; rfl) (Or.inl rfl) (fun _ => Or.inl ⟨by rw [mc]; decide, by rw [mc]; exact isT_iff.mp hT⟩) (fun z => absurd (mk.symm.trans z) (by decide)) (by rw [ml]; exact vX11_set (F := fun o' sh' I' R' => o' = .inl none ∧ sh' = sh ∧ I' = r ∧ R' = R) ⟨rfl, rfl, rfl, rfl⟩ h1) ?_ ?_ ?_
  · rintro sh' I' R' c' hc' ⟨g1, rfl, rfl, rfl⟩
    cases g1
    exact kk _ _ hc' h2
  · rintro v' sh' I' R' c' hc' ⟨g1, rfl, rfl, rfl⟩
    cases g1
  · rintro E' sh' I' R' ⟨g1, rfl, rfl, rfl⟩
    cases g1
set_option maxRecDepth 100000 in
set_option maxHeartbeats 4000000 in
def fX11_sceneOf (fu : Nat) (sh : HS) (I : HI) (R : HR) (l0 : Nat) (l1 : Int32) : Option Int32 :=
  if isT sh l0 9 = true then
    ((fX11_get fu sh I R l0 l1 0).bind fun v1 =>
    some v1)
  else none
set_option maxRecDepth 100000 in
set_option maxHeartbeats 4000000 in
theorem vX11_sceneOf {K J : Nat → Nat} {fu : Nat} {sh : HS} {I : HI} {R : HR} {F : VF} {o : Int32} (hF : F (.inl (some (.int o))) sh I R) {l0 : Nat} {l1 : Int32} (h0 : fX11_sceneOf fu sh I R l0 l1 = some o) : V K J 183 0 (ent 2 [.ref l0, .int l1]) [] sh I R (0, 0) F := by
  unfold fX11_sceneOf at h0
  obtain ⟨-, h1⟩ := gd h0; clear h0
  have hc0 : ((0 : Nat), (0 : Nat)).1 ≤ 0 ∧ ((0 : Nat), (0 : Nat)).2 ≤ 0 := ⟨Nat.le_refl _, Nat.le_refl _⟩
  show V K J 183 0 [some (.ref l0), some (.int l1)] [] sh I R (0, 0) F
  refine s_rl (i := 0) (pc' := 1) (by decide +kernel) rfl ?_
  refine s_il (i := 1) (pc' := 2) (by decide +kernel) rfl ?_
  refine s_c (v := 0) (pc' := 3) (by decide +kernel) ?_
  refine kX11_get (X := 0) (Y := 0) (X' := 0) (Y' := 0) (pc' := 6) (by decide +kernel) hc0 rfl h1 (fun v1 c hc1 h2 => ?_); clear h1 hc0
  have e9 := Option.some.inj h2; subst e9
  exact s_ri (X := 0) (Y := 0) (by decide +kernel) hc1 hF
set_option maxRecDepth 100000 in
set_option maxHeartbeats 4000000 in
theorem kX11_sceneOf {K J : Nat → Nat} {fu : Nat} {sh : HS} {I : HI} {R : HR} {F : VF} {mi pc pc' X Y X' Y' : Nat} {L : VL} {rest : List Value} {c : Nat × Nat} {l0 : Nat} {l1 : Int32} {ω : Type} {o : ω} {g : Int32 → Option ω} (hq : cQ mi pc 183 2 pc' X Y X' Y' = true) (hc : c.1 ≤ X ∧ c.2 ≤ Y) (hr : Nat.ble (catS rest) 8 = true) (h : (fX11_sceneOf fu sh I R l0 l1).bind g = some o) (kk : ∀ v c', (c'.1 ≤ X' ∧ c'.2 ≤ Y') → g v = some o → V K J mi pc' L ((.int v) :: rest) sh I R c' F) : V K J mi pc L (.int l1 :: .ref l0 :: rest) sh I R c F := by
  obtain ⟨r, h1, h2⟩ := bnd h
  have hT : isT sh l0 9 = true := by unfold fX11_sceneOf at h1; exact (gd h1).1
  have ml : mL 183 = 2 := by decide +kernel
  have mk : mK 183 = 1 := by decide +kernel
  have mc : mC 183 = 9 := by decide +kernel
  refine s_call (as := [.int l1, .ref l0]) (G := fun o' sh' I' R' => o' = .inl (some (.int r)) ∧ sh' = sh ∧ I' = I ∧ R' = R) hq hc rfl hr (by rw [ml]; rfl) (Or.inl rfl) (fun _ => Or.inl ⟨by rw [mc]; decide, by rw [mc]; exact isT_iff.mp hT⟩) (fun z => absurd (mk.symm.trans z) (by decide)) (by rw [ml]; exact vX11_sceneOf (F := fun o' sh' I' R' => o' = .inl (some (.int r)) ∧ sh' = sh ∧ I' = I ∧ R' = R) ⟨rfl, rfl, rfl, rfl⟩ h1) ?_ ?_ ?_
  · rintro sh' I' R' c' hc' ⟨g1, rfl, rfl, rfl⟩
    cases g1
  · rintro v' sh' I' R' c' hc' ⟨g1, rfl, rfl, rfl⟩
    cases g1
    exact kk _ _ hc' h2
  · rintro E' sh' I' R' ⟨g1, rfl, rfl, rfl⟩
    cases g1
set_option maxRecDepth 100000 in
set_option maxHeartbeats 4000000 in
def fX11_actorX (fu : Nat) (sh : HS) (I : HI) (R : HR) (l0 : Nat) (l1 : Int32) (l2 : Int32) : Option Int32 :=
  if isT sh l0 9 = true then
    ((oR sh R l0 9 0).bind fun v1 =>
    (fX11_sceneAt fu sh I R l1).bind fun v2 =>
    (oA sh I v1 ((v2 + 2) + l2)).bind fun v3 =>
    some v3)
  else none
set_option maxRecDepth 100000 in
set_option maxHeartbeats 4000000 in
theorem vX11_actorX {K J : Nat → Nat} {fu : Nat} {sh : HS} {I : HI} {R : HR} {F : VF} {o : Int32} (hF : F (.inl (some (.int o))) sh I R) {l0 : Nat} {l1 : Int32} {l2 : Int32} (h0 : fX11_actorX fu sh I R l0 l1 l2 = some o) : V K J 184 0 (ent 3 [.ref l0, .int l1, .int l2]) [] sh I R (0, 0) F := by
  unfold fX11_actorX at h0
  obtain ⟨-, h1⟩ := gd h0; clear h0
  have hc0 : ((0 : Nat), (0 : Nat)).1 ≤ 0 ∧ ((0 : Nat), (0 : Nat)).2 ≤ 0 := ⟨Nat.le_refl _, Nat.le_refl _⟩
  show V K J 184 0 [some (.ref l0), some (.int l1), some (.int l2)] [] sh I R (0, 0) F
  refine s_rl (i := 0) (pc' := 1) (by decide +kernel) rfl ?_
  refine s_gR (t := 9) (j := 0) (pc' := 4) (by decide +kernel) h1 (fun v1 h2 => ?_); clear h1
  refine s_il (i := 1) (pc' := 5) (by decide +kernel) rfl ?_
  refine kX11_sceneAt (X := 0) (Y := 0) (X' := 0) (Y' := 0) (pc' := 8) (by decide +kernel) hc0 rfl h2 (fun v2 c hc1 h3 => ?_); clear h2 hc0
  refine s_c (v := 2) (pc' := 9) (by decide +kernel) ?_
  refine s_a (ins := .iadd) (pc' := 10) (by decide +kernel) rfl ?_
  refine s_il (i := 2) (pc' := 11) (by decide +kernel) rfl ?_
  refine s_a (ins := .iadd) (pc' := 12) (by decide +kernel) rfl ?_
  refine s_al (pc' := 13) (by decide +kernel) h3 (fun v3 h4 => ?_); clear h3
  have e9 := Option.some.inj h4; subst e9
  exact s_ri (X := 0) (Y := 0) (by decide +kernel) hc1 hF
set_option maxRecDepth 100000 in
set_option maxHeartbeats 4000000 in
theorem kX11_actorX {K J : Nat → Nat} {fu : Nat} {sh : HS} {I : HI} {R : HR} {F : VF} {mi pc pc' X Y X' Y' : Nat} {L : VL} {rest : List Value} {c : Nat × Nat} {l0 : Nat} {l1 : Int32} {l2 : Int32} {ω : Type} {o : ω} {g : Int32 → Option ω} (hq : cQ mi pc 184 3 pc' X Y X' Y' = true) (hc : c.1 ≤ X ∧ c.2 ≤ Y) (hr : Nat.ble (catS rest) 8 = true) (h : (fX11_actorX fu sh I R l0 l1 l2).bind g = some o) (kk : ∀ v c', (c'.1 ≤ X' ∧ c'.2 ≤ Y') → g v = some o → V K J mi pc' L ((.int v) :: rest) sh I R c' F) : V K J mi pc L (.int l2 :: .int l1 :: .ref l0 :: rest) sh I R c F := by
  obtain ⟨r, h1, h2⟩ := bnd h
  have hT : isT sh l0 9 = true := by unfold fX11_actorX at h1; exact (gd h1).1
  have ml : mL 184 = 3 := by decide +kernel
  have mk : mK 184 = 1 := by decide +kernel
  have mc : mC 184 = 9 := by decide +kernel
  refine s_call (as := [.int l2, .int l1, .ref l0]) (G := fun o' sh' I' R' => o' = .inl (some (.int r)) ∧ sh' = sh ∧ I' = I ∧ R' = R) hq hc rfl hr (by rw [ml]; rfl) (Or.inl rfl) (fun _ => Or.inl ⟨by rw [mc]; decide, by rw [mc]; exact isT_iff.mp hT⟩) (fun z => absurd (mk.symm.trans z) (by decide)) (by rw [ml]; exact vX11_actorX (F := fun o' sh' I' R' => o' = .inl (some (.int r)) ∧ sh' = sh ∧ I' = I ∧ R' = R) ⟨rfl, rfl, rfl, rfl⟩ h1) ?_ ?_ ?_
  · rintro sh' I' R' c' hc' ⟨g1, rfl, rfl, rfl⟩
    cases g1
  · rintro v' sh' I' R' c' hc' ⟨g1, rfl, rfl, rfl⟩
    cases g1
    exact kk _ _ hc' h2
  · rintro E' sh' I' R' ⟨g1, rfl, rfl, rfl⟩
    cases g1
set_option maxRecDepth 100000 in
set_option maxHeartbeats 4000000 in
def fX11_actorY (fu : Nat) (sh : HS) (I : HI) (R : HR) (l0 : Nat) (l1 : Int32) (l2 : Int32) : Option Int32 :=
  if isT sh l0 9 = true then
    ((oR sh R l0 9 0).bind fun v1 =>
    (fX11_sceneAt fu sh I R l1).bind fun v2 =>
    (oA sh I v1 ((v2 + 8) + l2)).bind fun v3 =>
    some v3)
  else none
set_option maxRecDepth 100000 in
set_option maxHeartbeats 4000000 in
theorem vX11_actorY {K J : Nat → Nat} {fu : Nat} {sh : HS} {I : HI} {R : HR} {F : VF} {o : Int32} (hF : F (.inl (some (.int o))) sh I R) {l0 : Nat} {l1 : Int32} {l2 : Int32} (h0 : fX11_actorY fu sh I R l0 l1 l2 = some o) : V K J 185 0 (ent 3 [.ref l0, .int l1, .int l2]) [] sh I R (0, 0) F := by
  unfold fX11_actorY at h0
  obtain ⟨-, h1⟩ := gd h0; clear h0
  have hc0 : ((0 : Nat), (0 : Nat)).1 ≤ 0 ∧ ((0 : Nat), (0 : Nat)).2 ≤ 0 := ⟨Nat.le_refl _, Nat.le_refl _⟩
  show V K J 185 0 [some (.ref l0), some (.int l1), some (.int l2)] [] sh I R (0, 0) F
  refine s_rl (i := 0) (pc' := 1) (by decide +kernel) rfl ?_
  refine s_gR (t := 9) (j := 0) (pc' := 4) (by decide +kernel) h1 (fun v1 h2 => ?_); clear h1
  refine s_il (i := 1) (pc' := 5) (by decide +kernel) rfl ?_
  refine kX11_sceneAt (X := 0) (Y := 0) (X' := 0) (Y' := 0) (pc' := 8) (by decide +kernel) hc0 rfl h2 (fun v2 c hc1 h3 => ?_); clear h2 hc0
  refine s_c (v := 8) (pc' := 10) (by decide +kernel) ?_
  refine s_a (ins := .iadd) (pc' := 11) (by decide +kernel) rfl ?_
  refine s_il (i := 2) (pc' := 12) (by decide +kernel) rfl ?_
  refine s_a (ins := .iadd) (pc' := 13) (by decide +kernel) rfl ?_
  refine s_al (pc' := 14) (by decide +kernel) h3 (fun v3 h4 => ?_); clear h3
  have e9 := Option.some.inj h4; subst e9
  exact s_ri (X := 0) (Y := 0) (by decide +kernel) hc1 hF
set_option maxRecDepth 100000 in
set_option maxHeartbeats 4000000 in
theorem kX11_actorY {K J : Nat → Nat} {fu : Nat} {sh : HS} {I : HI} {R : HR} {F : VF} {mi pc pc' X Y X' Y' : Nat} {L : VL} {rest : List Value} {c : Nat × Nat} {l0 : Nat} {l1 : Int32} {l2 : Int32} {ω : Type} {o : ω} {g : Int32 → Option ω} (hq : cQ mi pc 185 3 pc' X Y X' Y' = true) (hc : c.1 ≤ X ∧ c.2 ≤ Y) (hr : Nat.ble (catS rest) 8 = true) (h : (fX11_actorY fu sh I R l0 l1 l2).bind g = some o) (kk : ∀ v c', (c'.1 ≤ X' ∧ c'.2 ≤ Y') → g v = some o → V K J mi pc' L ((.int v) :: rest) sh I R c' F) : V K J mi pc L (.int l2 :: .int l1 :: .ref l0 :: rest) sh I R c F := by
  obtain ⟨r, h1, h2⟩ := bnd h
  have hT : isT sh l0 9 = true := by unfold fX11_actorY at h1; exact (gd h1).1
  have ml : mL 185 = 3 := by decide +kernel
  have mk : mK 185 = 1 := by decide +kernel
  have mc : mC 185 = 9 := by decide +kernel
  refine s_call (as := [.int l2, .int l1, .ref l0]) (G := fun o' sh' I' R' => o' = .inl (some (.int r)) ∧ sh' = sh ∧ I' = I ∧ R' = R) hq hc rfl hr (by rw [ml]; rfl) (Or.inl rfl) (fun _ => Or.inl ⟨by rw [mc]; decide, by rw [mc]; exact isT_iff.mp hT⟩) (fun z => absurd (mk.symm.trans z) (by decide)) (by rw [ml]; exact vX11_actorY (F := fun o' sh' I' R' => o' = .inl (some (.int r)) ∧ sh' = sh ∧ I' = I ∧ R' = R) ⟨rfl, rfl, rfl, rfl⟩ h1) ?_ ?_ ?_
  · rintro sh' I' R' c' hc' ⟨g1, rfl, rfl, rfl⟩
    cases g1
  · rintro v' sh' I' R' c' hc' ⟨g1, rfl, rfl, rfl⟩
    cases g1
    exact kk _ _ hc' h2
  · rintro E' sh' I' R' ⟨g1, rfl, rfl, rfl⟩
    cases g1
set_option maxRecDepth 100000 in
set_option maxHeartbeats 4000000 in
def fX11_isAt_b34 (fu : Nat) (sh : HS) (I : HI) (R : HR) (s0 : Int32) : Option Int32 :=
  (oZ s0).bind fun z3 =>
  some z3
set_option maxRecDepth 100000 in
set_option maxHeartbeats 4000000 in
theorem vX11_isAt_b34 {K J : Nat → Nat} {fu : Nat} {sh : HS} {I : HI} {R : HR} {F : VF} {o : Int32} (hF : F (.inl (some (.int o))) sh I R) {s0 : Int32} {d0 d1 d2 d3 d4 : Option Value} {c : Nat × Nat} (hc0 : c.1 ≤ 0 ∧ c.2 ≤ 0) (h0 : fX11_isAt_b34 fu sh I R s0 = some o) : V K J 186 34 [d0, d1, d2, d3, d4] [.int s0] sh I R c F := by
  unfold fX11_isAt_b34 at h0
  obtain ⟨hz, h1⟩ := oZb h0
  have e9 := Option.some.inj h1; subst e9
  exact s_rz (X := 0) (Y := 0) (by decide +kernel) hz hc0 hF
set_option maxRecDepth 100000 in
set_option maxHeartbeats 4000000 in
def fX11_isAt_b33 (fu : Nat) (sh : HS) (I : HI) (R : HR) : Option Int32 :=
  (fX11_isAt_b34 fu sh I R) 0
set_option maxRecDepth 100000 in
set_option maxHeartbeats 4000000 in
theorem vX11_isAt_b33 {K J : Nat → Nat} {fu : Nat} {sh : HS} {I : HI} {R : HR} {F : VF} {o : Int32} (hF : F (.inl (some (.int o))) sh I R) {d0 d1 d2 d3 d4 : Option Value} {c : Nat × Nat} (hc0 : c.1 ≤ 0 ∧ c.2 ≤ 0) (h0 : fX11_isAt_b33 fu sh I R = some o) : V K J 186 33 [d0, d1, d2, d3, d4] [] sh I R c F := by
  unfold fX11_isAt_b33 at h0
  refine s_c (v := 0) (pc' := 34) (by decide +kernel) ?_
  exact (vX11_isAt_b34 hF) hc0 h0
set_option maxRecDepth 100000 in
set_option maxHeartbeats 4000000 in
def fX11_isAt (fu : Nat) (sh : HS) (I : HI) (R : HR) (l0 : Nat) (l1 : Int32) (l2 : Int32) (l3 : Int32) (l4 : Int32) : Option Int32 :=
  if isT sh l0 9 = true then
    ((fX11_sceneOf fu sh I R l0 l1).bind fun v1 =>
    (fX11_actorX fu sh I R l0 v1 l2).bind fun v2 =>
    if v2 = l3 then
      ((fX11_sceneOf fu sh I R l0 l1).bind fun v4 =>
      (fX11_actorY fu sh I R l0 v4 l2).bind fun v5 =>
      if v5 = l4 then
        ((fX11_isAt_b34 fu sh I R) 1)
      else
        ((fX11_isAt_b33 fu sh I R)))
    else
      ((fX11_isAt_b33 fu sh I R)))
  else none
set_option maxRecDepth 100000 in
set_option maxHeartbeats 4000000 in
theorem vX11_isAt {K J : Nat → Nat} {fu : Nat} {sh : HS} {I : HI} {R : HR} {F : VF} {o : Int32} (hF : F (.inl (some (.int o))) sh I R) {l0 : Nat} {l1 : Int32} {l2 : Int32} {l3 : Int32} {l4 : Int32} (h0 : fX11_isAt fu sh I R l0 l1 l2 l3 l4 = some o) : V K J 186 0 (ent 5 [.ref l0, .int l1, .int l2, .int l3, .int l4]) [] sh I R (0, 0) F := by
  unfold fX11_isAt at h0
  obtain ⟨-, h1⟩ := gd h0; clear h0
  have hc0 : ((0 : Nat), (0 : Nat)).1 ≤ 0 ∧ ((0 : Nat), (0 : Nat)).2 ≤ 0 := ⟨Nat.le_refl _, Nat.le_refl _⟩
  show V K J 186 0 [some (.ref l0), some (.int l1), some (.int l2), some (.int l3), some (.int l4)] [] sh I R (0, 0) F
  refine s_rl (i := 0) (pc' := 1) (by decide +kernel) rfl ?_
  refine s_rl (i := 0) (pc' := 2) (by decide +kernel) rfl ?_
  refine s_il (i := 1) (pc' := 3) (by decide +kernel) rfl ?_
  refine kX11_sceneOf (X := 0) (Y := 0) (X' := 0) (Y' := 0) (pc' := 6) (by decide +kernel) hc0 rfl h1 (fun v1 c hc1 h2 => ?_); clear h1 hc0
  refine s_il (i := 2) (pc' := 7) (by decide +kernel) rfl ?_
  refine kX11_actorX (X := 0) (Y := 0) (X' := 0) (Y' := 0) (pc' := 10) (by decide +kernel) hc1 rfl h2 (fun v2 c hc2 h3 => ?_); clear h2 hc1
  refine s_il (i := 3) (pc' := 11) (by decide +kernel) rfl ?_
  refine s_ifn (ins := .if_icmp .ne 22) (t := 33) (pc' := 14) (by decide +kernel) rfl rfl rfl h3 (fun p4 h4 => ?_) (fun p4 h4 => ?_) <;> clear h3
  · exact (vX11_isAt_b33 hF) hc2 h4
  · refine s_rl (i := 0) (pc' := 15) (by decide +kernel) rfl ?_
    refine s_rl (i := 0) (pc' := 16) (by decide +kernel) rfl ?_
    refine s_il (i := 1) (pc' := 17) (by decide +kernel) rfl ?_
    refine kX11_sceneOf (X := 0) (Y := 0) (X' := 0) (Y' := 0) (pc' := 20) (by decide +kernel) hc2 rfl h4 (fun v4 c hc3 h5 => ?_); clear h4 hc2
    refine s_il (i := 2) (pc' := 21) (by decide +kernel) rfl ?_
    refine kX11_actorY (X := 0) (Y := 0) (X' := 0) (Y' := 0) (pc' := 24) (by decide +kernel) hc3 rfl h5 (fun v5 c hc4 h6 => ?_); clear h5 hc3
    refine s_il (i := 4) (pc' := 26) (by decide +kernel) rfl ?_
    refine s_ifn (ins := .if_icmp .ne 7) (t := 33) (pc' := 29) (by decide +kernel) rfl rfl rfl h6 (fun p7 h7 => ?_) (fun p7 h7 => ?_) <;> clear h6
    · exact (vX11_isAt_b33 hF) hc4 h7
    · refine s_c (v := 1) (pc' := 30) (by decide +kernel) ?_
      refine s_go (t := 34) (by decide +kernel) ?_
      exact (vX11_isAt_b34 hF) hc4 h7
set_option maxRecDepth 100000 in
set_option maxHeartbeats 4000000 in
theorem kX11_isAt {K J : Nat → Nat} {fu : Nat} {sh : HS} {I : HI} {R : HR} {F : VF} {mi pc pc' X Y X' Y' : Nat} {L : VL} {rest : List Value} {c : Nat × Nat} {l0 : Nat} {l1 : Int32} {l2 : Int32} {l3 : Int32} {l4 : Int32} {ω : Type} {o : ω} {g : Int32 → Option ω} (hq : cQ mi pc 186 5 pc' X Y X' Y' = true) (hc : c.1 ≤ X ∧ c.2 ≤ Y) (hr : Nat.ble (catS rest) 8 = true) (h : (fX11_isAt fu sh I R l0 l1 l2 l3 l4).bind g = some o) (kk : ∀ v c', (c'.1 ≤ X' ∧ c'.2 ≤ Y') → g v = some o → V K J mi pc' L ((.int v) :: rest) sh I R c' F) : V K J mi pc L (.int l4 :: .int l3 :: .int l2 :: .int l1 :: .ref l0 :: rest) sh I R c F := by
  obtain ⟨r, h1, h2⟩ := bnd h
  have hT : isT sh l0 9 = true := by unfold fX11_isAt at h1; exact (gd h1).1
  have ml : mL 186 = 5 := by decide +kernel
  have mk : mK 186 = 1 := by decide +kernel
  have mc : mC 186 = 9 := by decide +kernel
  refine s_call (as := [.int l4, .int l3, .int l2, .int l1, .ref l0]) (G := fun o' sh' I' R' => o' = .inl (some (.int r)) ∧ sh' = sh ∧ I' = I ∧ R' = R) hq hc rfl hr (by rw [ml]; rfl) (Or.inl rfl) (fun _ => Or.inl ⟨by rw [mc]; decide, by rw [mc]; exact isT_iff.mp hT⟩) (fun z => absurd (mk.symm.trans z) (by decide)) (by rw [ml]; exact vX11_isAt (F := fun o' sh' I' R' => o' = .inl (some (.int r)) ∧ sh' = sh ∧ I' = I ∧ R' = R) ⟨rfl, rfl, rfl, rfl⟩ h1) ?_ ?_ ?_
  · rintro sh' I' R' c' hc' ⟨g1, rfl, rfl, rfl⟩
    cases g1
  · rintro v' sh' I' R' c' hc' ⟨g1, rfl, rfl, rfl⟩
    cases g1
    exact kk _ _ hc' h2
  · rintro E' sh' I' R' ⟨g1, rfl, rfl, rfl⟩
    cases g1
set_option maxRecDepth 100000 in
set_option maxHeartbeats 4000000 in
def fX11_isPlace_b29 (fu : Nat) (sh : HS) (I : HI) (R : HR) (s0 : Int32) : Option Int32 :=
  (oZ s0).bind fun z2 =>
  some z2
set_option maxRecDepth 100000 in
set_option maxHeartbeats 4000000 in
theorem vX11_isPlace_b29 {K J : Nat → Nat} {fu : Nat} {sh : HS} {I : HI} {R : HR} {F : VF} {o : Int32} (hF : F (.inl (some (.int o))) sh I R) {s0 : Int32} {d0 d1 : Option Value} {c : Nat × Nat} (hc0 : c.1 ≤ 0 ∧ c.2 ≤ 0) (h0 : fX11_isPlace_b29 fu sh I R s0 = some o) : V K J 187 29 [d0, d1] [.int s0] sh I R c F := by
  unfold fX11_isPlace_b29 at h0
  obtain ⟨hz, h1⟩ := oZb h0
  have e9 := Option.some.inj h1; subst e9
  exact s_rz (X := 0) (Y := 0) (by decide +kernel) hz hc0 hF
set_option maxRecDepth 100000 in
set_option maxHeartbeats 4000000 in
def fX11_isPlace_b28 (fu : Nat) (sh : HS) (I : HI) (R : HR) : Option Int32 :=
  (fX11_isPlace_b29 fu sh I R) 0
set_option maxRecDepth 100000 in
set_option maxHeartbeats 4000000 in
theorem vX11_isPlace_b28 {K J : Nat → Nat} {fu : Nat} {sh : HS} {I : HI} {R : HR} {F : VF} {o : Int32} (hF : F (.inl (some (.int o))) sh I R) {d0 d1 : Option Value} {c : Nat × Nat} (hc0 : c.1 ≤ 0 ∧ c.2 ≤ 0) (h0 : fX11_isPlace_b28 fu sh I R = some o) : V K J 187 28 [d0, d1] [] sh I R c F := by
  unfold fX11_isPlace_b28 at h0
  refine s_c (v := 0) (pc' := 29) (by decide +kernel) ?_
  exact (vX11_isPlace_b29 hF) hc0 h0
set_option maxRecDepth 100000 in
set_option maxHeartbeats 4000000 in
def fX11_isPlace (fu : Nat) (sh : HS) (I : HI) (R : HR) (l0 : Int32) (l1 : Int32) : Option Int32 :=
  (fX11_isIn fu sh I R (l0.toInt64) 0 199).bind fun v1 =>
  if v1 = 0 then
    ((fX11_isPlace_b28 fu sh I R))
  else
    ((fX11_isIn fu sh I R (l1.toInt64) 0 199).bind fun v3 =>
    if v3 = 0 then
      ((fX11_isPlace_b28 fu sh I R))
    else
      ((fX11_isPlace_b29 fu sh I R) 1))
set_option maxRecDepth 100000 in
set_option maxHeartbeats 4000000 in
theorem vX11_isPlace {K J : Nat → Nat} {fu : Nat} {sh : HS} {I : HI} {R : HR} {F : VF} {o : Int32} (hF : F (.inl (some (.int o))) sh I R) {l0 : Int32} {l1 : Int32} (h0 : fX11_isPlace fu sh I R l0 l1 = some o) : V K J 187 0 (ent 2 [.int l0, .int l1]) [] sh I R (0, 0) F := by
  unfold fX11_isPlace at h0
  have h1 := h0; clear h0
  have hc0 : ((0 : Nat), (0 : Nat)).1 ≤ 0 ∧ ((0 : Nat), (0 : Nat)).2 ≤ 0 := ⟨Nat.le_refl _, Nat.le_refl _⟩
  show V K J 187 0 [some (.int l0), some (.int l1)] [] sh I R (0, 0) F
  refine s_il (i := 0) (pc' := 1) (by decide +kernel) rfl ?_
  refine s_a (ins := .i2l) (pc' := 2) (by decide +kernel) rfl ?_
  refine s_cJ (v := 0) (pc' := 3) (by decide +kernel) ?_
  refine s_cJ (v := 199) (pc' := 6) (by decide +kernel) ?_
  refine kX11_isIn (X := 0) (Y := 0) (X' := 0) (Y' := 0) (pc' := 9) (by decide +kernel) hc0 rfl h1 (fun v1 c hc1 h2 => ?_); clear h1 hc0
  refine s_if (ins := .ifCond .eq 19) (t := 28) (pc' := 12) (by decide +kernel) rfl rfl rfl h2 (fun p3 h3 => ?_) (fun p3 h3 => ?_) <;> clear h2
  · exact (vX11_isPlace_b28 hF) hc1 h3
  · refine s_il (i := 1) (pc' := 13) (by decide +kernel) rfl ?_
    refine s_a (ins := .i2l) (pc' := 14) (by decide +kernel) rfl ?_
    refine s_cJ (v := 0) (pc' := 15) (by decide +kernel) ?_
    refine s_cJ (v := 199) (pc' := 18) (by decide +kernel) ?_
    refine kX11_isIn (X := 0) (Y := 0) (X' := 0) (Y' := 0) (pc' := 21) (by decide +kernel) hc1 rfl h3 (fun v3 c hc2 h4 => ?_); clear h3 hc1
    refine s_if (ins := .ifCond .eq 7) (t := 28) (pc' := 24) (by decide +kernel) rfl rfl rfl h4 (fun p5 h5 => ?_) (fun p5 h5 => ?_) <;> clear h4
    · exact (vX11_isPlace_b28 hF) hc2 h5
    · refine s_c (v := 1) (pc' := 25) (by decide +kernel) ?_
      refine s_go (t := 29) (by decide +kernel) ?_
      exact (vX11_isPlace_b29 hF) hc2 h5
set_option maxRecDepth 100000 in
set_option maxHeartbeats 4000000 in
theorem kX11_isPlace {K J : Nat → Nat} {fu : Nat} {sh : HS} {I : HI} {R : HR} {F : VF} {mi pc pc' X Y X' Y' : Nat} {L : VL} {rest : List Value} {c : Nat × Nat} {l0 : Int32} {l1 : Int32} {ω : Type} {o : ω} {g : Int32 → Option ω} (hq : cQ mi pc 187 2 pc' X Y X' Y' = true) (hc : c.1 ≤ X ∧ c.2 ≤ Y) (hr : Nat.ble (catS rest) 8 = true) (h : (fX11_isPlace fu sh I R l0 l1).bind g = some o) (kk : ∀ v c', (c'.1 ≤ X' ∧ c'.2 ≤ Y') → g v = some o → V K J mi pc' L ((.int v) :: rest) sh I R c' F) : V K J mi pc L (.int l1 :: .int l0 :: rest) sh I R c F := by
  obtain ⟨r, h1, h2⟩ := bnd h
  have ml : mL 187 = 2 := by decide +kernel
  have mk : mK 187 = 0 := by decide +kernel
  refine s_call (as := [.int l1, .int l0]) (G := fun o' sh' I' R' => o' = .inl (some (.int r)) ∧ sh' = sh ∧ I' = I ∧ R' = R) hq hc rfl hr (by rw [ml]; rfl) (Or.inl rfl) (fun z => absurd (mk.symm.trans z) (by decide)) (fun z => absurd (mk.symm.trans z) (by decide)) (by rw [ml]; exact vX11_isPlace (F := fun o' sh' I' R' => o' = .inl (some (.int r)) ∧ sh' = sh ∧ I' = I ∧ R' = R) ⟨rfl, rfl, rfl, rfl⟩ h1) ?_ ?_ ?_
  · rintro sh' I' R' c' hc' ⟨g1, rfl, rfl, rfl⟩
    cases g1
  · rintro v' sh' I' R' c' hc' ⟨g1, rfl, rfl, rfl⟩
    cases g1
    exact kk _ _ hc' h2
  · rintro E' sh' I' R' ⟨g1, rfl, rfl, rfl⟩
    cases g1
set_option maxRecDepth 100000 in
set_option maxHeartbeats 4000000 in
def fX11_shotsOf_b29 (fu : Nat) (sh : HS) (I : HI) (R : HR) (k4 : Nat → Int32 → Int32 → Int32 → Option Int32) (l0 : Nat) (l1 : Int32) (l3 : Int32) (s0 : Int32) (s1 : Int32) : Option Int32 :=
  k4 l0 l1 (s1 + s0) (l3 + 1)
set_option maxRecDepth 100000 in
set_option maxHeartbeats 4000000 in
theorem vX11_shotsOf_b29 {K J : Nat → Nat} {fu : Nat} {sh : HS} {I : HI} {R : HR} {F : VF} {o : Int32} (hF : F (.inl (some (.int o))) sh I R) {k4 : Nat → Int32 → Int32 → Int32 → Option Int32} (hk4 : ∀ {l0 : Nat} {l1 : Int32} {l2 : Int32} {l3 : Int32}  {c : Nat × Nat}, (c.1 ≤ 0 ∧ c.2 ≤ 0) → k4 l0 l1 l2 l3 = some o → V K J 188 4 [some (.ref l0), some (.int l1), some (.int l2), some (.int l3)] [] sh I R c F) {l0 : Nat} {l1 : Int32} {l3 : Int32} {s0 : Int32} {s1 : Int32} {d2 : Option Value} {c : Nat × Nat} (hc0 : c.1 ≤ 0 ∧ c.2 ≤ 0) (h0 : fX11_shotsOf_b29 fu sh I R k4 l0 l1 l3 s0 s1 = some o) : V K J 188 29 [some (.ref l0), some (.int l1), d2, some (.int l3)] [.int s0, .int s1] sh I R c F := by
  unfold fX11_shotsOf_b29 at h0
  refine s_a (ins := .iadd) (pc' := 30) (by decide +kernel) rfl ?_
  refine s_is (i := 2) (pc' := 31) (L' := [some (.ref l0), some (.int l1), some (.int (s1 + s0)), some (.int l3)]) (by decide +kernel) rfl rfl ?_
  refine s_inc (i := 3) (z := 1) (pc' := 34) (L' := [some (.ref l0), some (.int l1), some (.int (s1 + s0)), some (.int (l3 + 1))]) (by decide +kernel) rfl rfl rfl ?_
  refine s_go (t := 4) (by decide +kernel) ?_
  exact hk4 hc0 h0
set_option maxRecDepth 100000 in
set_option maxHeartbeats 4000000 in
def fX11_shotsOf_b4 (fu : Nat) (sh : HS) (I : HI) (R : HR) (k4 : Nat → Int32 → Int32 → Int32 → Option Int32) (l0 : Nat) (l1 : Int32) (l2 : Int32) (l3 : Int32) : Option Int32 :=
  (oR sh R l0 9 0).bind fun v1 =>
  (oA sh I v1 4).bind fun v2 =>
  if v2 ≤ l3 then
    (some l2)
  else
    ((fX11_sceneOf fu sh I R l0 l3).bind fun v3 =>
    if v3 = l1 then
      ((fX11_shotsOf_b29 fu sh I R k4) l0 l1 l3 1 l2)
    else
      ((fX11_shotsOf_b29 fu sh I R k4) l0 l1 l3 0 l2))
set_option maxRecDepth 100000 in
set_option maxHeartbeats 4000000 in
theorem vX11_shotsOf_b4 {K J : Nat → Nat} {fu : Nat} {sh : HS} {I : HI} {R : HR} {F : VF} {o : Int32} (hF : F (.inl (some (.int o))) sh I R) {k4 : Nat → Int32 → Int32 → Int32 → Option Int32} (hk4 : ∀ {l0 : Nat} {l1 : Int32} {l2 : Int32} {l3 : Int32}  {c : Nat × Nat}, (c.1 ≤ 0 ∧ c.2 ≤ 0) → k4 l0 l1 l2 l3 = some o → V K J 188 4 [some (.ref l0), some (.int l1), some (.int l2), some (.int l3)] [] sh I R c F) {l0 : Nat} {l1 : Int32} {l2 : Int32} {l3 : Int32} {c : Nat × Nat} (hc0 : c.1 ≤ 0 ∧ c.2 ≤ 0) (h0 : fX11_shotsOf_b4 fu sh I R k4 l0 l1 l2 l3 = some o) : V K J 188 4 [some (.ref l0), some (.int l1), some (.int l2), some (.int l3)] [] sh I R c F := by
  unfold fX11_shotsOf_b4 at h0
  refine s_il (i := 3) (pc' := 5) (by decide +kernel) rfl ?_
  refine s_rl (i := 0) (pc' := 6) (by decide +kernel) rfl ?_
  refine s_gR (t := 9) (j := 0) (pc' := 9) (by decide +kernel) h0 (fun v1 h1 => ?_); clear h0
  refine s_c (v := 4) (pc' := 10) (by decide +kernel) ?_
  refine s_al (pc' := 11) (by decide +kernel) h1 (fun v2 h2 => ?_); clear h1
  refine s_if (ins := .if_icmp .ge 26) (t := 37) (pc' := 14) (by decide +kernel) rfl rfl rfl h2 (fun p3 h3 => ?_) (fun p3 h3 => ?_) <;> clear h2
  · refine s_il (i := 2) (pc' := 38) (by decide +kernel) rfl ?_
    have e9 := Option.some.inj h3; subst e9
    exact s_ri (X := 0) (Y := 0) (by decide +kernel) hc0 hF
  · refine s_il (i := 2) (pc' := 15) (by decide +kernel) rfl ?_
    refine s_rl (i := 0) (pc' := 16) (by decide +kernel) rfl ?_
    refine s_il (i := 3) (pc' := 17) (by decide +kernel) rfl ?_
    refine kX11_sceneOf (X := 0) (Y := 0) (X' := 0) (Y' := 0) (pc' := 20) (by decide +kernel) hc0 rfl h3 (fun v3 c hc1 h4 => ?_); clear h3 hc0
    refine s_il (i := 1) (pc' := 21) (by decide +kernel) rfl ?_
    refine s_ifn (ins := .if_icmp .ne 7) (t := 28) (pc' := 24) (by decide +kernel) rfl rfl rfl h4 (fun p5 h5 => ?_) (fun p5 h5 => ?_) <;> clear h4
    · refine s_c (v := 0) (pc' := 29) (by decide +kernel) ?_
      exact (vX11_shotsOf_b29 hF hk4) hc1 h5
    · refine s_c (v := 1) (pc' := 25) (by decide +kernel) ?_
      refine s_go (t := 29) (by decide +kernel) ?_
      exact (vX11_shotsOf_b29 hF hk4) hc1 h5
set_option maxRecDepth 100000 in
set_option maxHeartbeats 4000000 in
def fX11_shotsOf_l4 (fu : Nat) (sh : HS) (I : HI) (R : HR) : Nat → Nat → Int32 → Int32 → Int32 → Option Int32
  | 0 => fun _ _ _ _ => none
  | n + 1 => fX11_shotsOf_b4 fu sh I R (fX11_shotsOf_l4 fu sh I R n)
set_option maxRecDepth 100000 in
set_option maxHeartbeats 4000000 in
theorem vX11_shotsOf_l4 {K J : Nat → Nat} {fu : Nat} {sh : HS} {I : HI} {R : HR} {F : VF} {o : Int32} (hF : F (.inl (some (.int o))) sh I R) : ∀ (n : Nat) {l0 : Nat} {l1 : Int32} {l2 : Int32} {l3 : Int32} {c : Nat × Nat} (_ : c.1 ≤ 0 ∧ c.2 ≤ 0) (_ : fX11_shotsOf_l4 fu sh I R n l0 l1 l2 l3 = some o), V K J 188 4 [some (.ref l0), some (.int l1), some (.int l2), some (.int l3)] [] sh I R c F := by
  intro n
  induction n with
  | zero => exact fun _ h0 => nomatch h0
  | succ n ih => exact fun hc0 h0 => vX11_shotsOf_b4 hF ih hc0 h0
set_option maxRecDepth 100000 in
set_option maxHeartbeats 4000000 in
def fX11_shotsOf (fu : Nat) (sh : HS) (I : HI) (R : HR) (l0 : Nat) (l1 : Int32) : Option Int32 :=
  if isT sh l0 9 = true then
    ((fX11_shotsOf_l4 fu sh I R fu) l0 l1 0 0)
  else none
set_option maxRecDepth 100000 in
set_option maxHeartbeats 4000000 in
theorem vX11_shotsOf {K J : Nat → Nat} {fu : Nat} {sh : HS} {I : HI} {R : HR} {F : VF} {o : Int32} (hF : F (.inl (some (.int o))) sh I R) {l0 : Nat} {l1 : Int32} (h0 : fX11_shotsOf fu sh I R l0 l1 = some o) : V K J 188 0 (ent 4 [.ref l0, .int l1]) [] sh I R (0, 0) F := by
  unfold fX11_shotsOf at h0
  obtain ⟨-, h1⟩ := gd h0; clear h0
  have hc0 : ((0 : Nat), (0 : Nat)).1 ≤ 0 ∧ ((0 : Nat), (0 : Nat)).2 ≤ 0 := ⟨Nat.le_refl _, Nat.le_refl _⟩
  show V K J 188 0 [some (.ref l0), some (.int l1), none, none] [] sh I R (0, 0) F
  refine s_c (v := 0) (pc' := 1) (by decide +kernel) ?_
  refine s_is (i := 2) (pc' := 2) (L' := [some (.ref l0), some (.int l1), some (.int 0), none]) (by decide +kernel) rfl rfl ?_
  refine s_c (v := 0) (pc' := 3) (by decide +kernel) ?_
  refine s_is (i := 3) (pc' := 4) (L' := [some (.ref l0), some (.int l1), some (.int 0), some (.int 0)]) (by decide +kernel) rfl rfl ?_
  exact (vX11_shotsOf_l4 hF fu) hc0 h1
set_option maxRecDepth 100000 in
set_option maxHeartbeats 4000000 in
theorem kX11_shotsOf {K J : Nat → Nat} {fu : Nat} {sh : HS} {I : HI} {R : HR} {F : VF} {mi pc pc' X Y X' Y' : Nat} {L : VL} {rest : List Value} {c : Nat × Nat} {l0 : Nat} {l1 : Int32} {ω : Type} {o : ω} {g : Int32 → Option ω} (hq : cQ mi pc 188 2 pc' X Y X' Y' = true) (hc : c.1 ≤ X ∧ c.2 ≤ Y) (hr : Nat.ble (catS rest) 8 = true) (h : (fX11_shotsOf fu sh I R l0 l1).bind g = some o) (kk : ∀ v c', (c'.1 ≤ X' ∧ c'.2 ≤ Y') → g v = some o → V K J mi pc' L ((.int v) :: rest) sh I R c' F) : V K J mi pc L (.int l1 :: .ref l0 :: rest) sh I R c F := by
  obtain ⟨r, h1, h2⟩ := bnd h
  have hT : isT sh l0 9 = true := by unfold fX11_shotsOf at h1; exact (gd h1).1
  have ml : mL 188 = 4 := by decide +kernel
  have mk : mK 188 = 1 := by decide +kernel
  have mc : mC 188 = 9 := by decide +kernel
  refine s_call (as := [.int l1, .ref l0]) (G := fun o' sh' I' R' => o' = .inl (some (.int r)) ∧ sh' = sh ∧ I' = I ∧ R' = R) hq hc rfl hr (by rw [ml]; rfl) (Or.inl rfl) (fun _ => Or.inl ⟨by rw [mc]; decide, by rw [mc]; exact isT_iff.mp hT⟩) (fun z => absurd (mk.symm.trans z) (by decide)) (by rw [ml]; exact vX11_shotsOf (F := fun o' sh' I' R' => o' = .inl (some (.int r)) ∧ sh' = sh ∧ I' = I ∧ R' = R) ⟨rfl, rfl, rfl, rfl⟩ h1) ?_ ?_ ?_
  · rintro sh' I' R' c' hc' ⟨g1, rfl, rfl, rfl⟩
    cases g1
  · rintro v' sh' I' R' c' hc' ⟨g1, rfl, rfl, rfl⟩
    cases g1
    exact kk _ _ hc' h2
  · rintro E' sh' I' R' ⟨g1, rfl, rfl, rfl⟩
    cases g1
set_option maxRecDepth 100000 in
set_option maxHeartbeats 4000000 in
def fX11_lengthOf_b33 (fu : Nat) (sh : HS) (I : HI) (R : HR) (k4 : Nat → Int32 → Int32 → Int32 → Option Int32) (l0 : Nat) (l1 : Int32) (l3 : Int32) (s0 : Int32) (s1 : Int32) : Option Int32 :=
  k4 l0 l1 (s1 + s0) (l3 + 1)
set_option maxRecDepth 100000 in
set_option maxHeartbeats 4000000 in
theorem vX11_lengthOf_b33 {K J : Nat → Nat} {fu : Nat} {sh : HS} {I : HI} {R : HR} {F : VF} {o : Int32} (hF : F (.inl (some (.int o))) sh I R) {k4 : Nat → Int32 → Int32 → Int32 → Option Int32} (hk4 : ∀ {l0 : Nat} {l1 : Int32} {l2 : Int32} {l3 : Int32}  {c : Nat × Nat}, (c.1 ≤ 0 ∧ c.2 ≤ 0) → k4 l0 l1 l2 l3 = some o → V K J 253 4 [some (.ref l0), some (.int l1), some (.int l2), some (.int l3)] [] sh I R c F) {l0 : Nat} {l1 : Int32} {l3 : Int32} {s0 : Int32} {s1 : Int32} {d2 : Option Value} {c : Nat × Nat} (hc0 : c.1 ≤ 0 ∧ c.2 ≤ 0) (h0 : fX11_lengthOf_b33 fu sh I R k4 l0 l1 l3 s0 s1 = some o) : V K J 253 33 [some (.ref l0), some (.int l1), d2, some (.int l3)] [.int s0, .int s1] sh I R c F := by
  unfold fX11_lengthOf_b33 at h0
  refine s_a (ins := .iadd) (pc' := 34) (by decide +kernel) rfl ?_
  refine s_is (i := 2) (pc' := 35) (L' := [some (.ref l0), some (.int l1), some (.int (s1 + s0)), some (.int l3)]) (by decide +kernel) rfl rfl ?_
  refine s_inc (i := 3) (z := 1) (pc' := 38) (L' := [some (.ref l0), some (.int l1), some (.int (s1 + s0)), some (.int (l3 + 1))]) (by decide +kernel) rfl rfl rfl ?_
  refine s_go (t := 4) (by decide +kernel) ?_
  exact hk4 hc0 h0
set_option maxRecDepth 100000 in
set_option maxHeartbeats 4000000 in
def fX11_lengthOf_b4 (fu : Nat) (sh : HS) (I : HI) (R : HR) (k4 : Nat → Int32 → Int32 → Int32 → Option Int32) (l0 : Nat) (l1 : Int32) (l2 : Int32) (l3 : Int32) : Option Int32 :=
  (oR sh R l0 9 0).bind fun v1 =>
  (oA sh I v1 4).bind fun v2 =>
  if v2 ≤ l3 then
    (some l2)
  else
    ((fX11_has fu sh I R l1 l3).bind fun v3 =>
    if v3 = 0 then
      ((fX11_lengthOf_b33 fu sh I R k4) l0 l1 l3 0 l2)
    else
      ((fX11_get fu sh I R l0 l3 5).bind fun v4 =>
      (fX11_lengthOf_b33 fu sh I R k4) l0 l1 l3 v4 l2))
set_option maxRecDepth 100000 in
set_option maxHeartbeats 4000000 in
theorem vX11_lengthOf_b4 {K J : Nat → Nat} {fu : Nat} {sh : HS} {I : HI} {R : HR} {F : VF} {o : Int32} (hF : F (.inl (some (.int o))) sh I R) {k4 : Nat → Int32 → Int32 → Int32 → Option Int32} (hk4 : ∀ {l0 : Nat} {l1 : Int32} {l2 : Int32} {l3 : Int32}  {c : Nat × Nat}, (c.1 ≤ 0 ∧ c.2 ≤ 0) → k4 l0 l1 l2 l3 = some o → V K J 253 4 [some (.ref l0), some (.int l1), some (.int l2), some (.int l3)] [] sh I R c F) {l0 : Nat} {l1 : Int32} {l2 : Int32} {l3 : Int32} {c : Nat × Nat} (hc0 : c.1 ≤ 0 ∧ c.2 ≤ 0) (h0 : fX11_lengthOf_b4 fu sh I R k4 l0 l1 l2 l3 = some o) : V K J 253 4 [some (.ref l0), some (.int l1), some (.int l2), some (.int l3)] [] sh I R c F := by
  unfold fX11_lengthOf_b4 at h0
  refine s_il (i := 3) (pc' := 5) (by decide +kernel) rfl ?_
  refine s_rl (i := 0) (pc' := 6) (by decide +kernel) rfl ?_
  refine s_gR (t := 9) (j := 0) (pc' := 9) (by decide +kernel) h0 (fun v1 h1 => ?_); clear h0
  refine s_c (v := 4) (pc' := 10) (by decide +kernel) ?_
  refine s_al (pc' := 11) (by decide +kernel) h1 (fun v2 h2 => ?_); clear h1
  refine s_if (ins := .if_icmp .ge 30) (t := 41) (pc' := 14) (by decide +kernel) rfl rfl rfl h2 (fun p3 h3 => ?_) (fun p3 h3 => ?_) <;> clear h2
  · refine s_il (i := 2) (pc' := 42) (by decide +kernel) rfl ?_
    have e9 := Option.some.inj h3; subst e9
    exact s_ri (X := 0) (Y := 0) (by decide +kernel) hc0 hF
  · refine s_il (i := 2) (pc' := 15) (by decide +kernel) rfl ?_
    refine s_il (i := 1) (pc' := 16) (by decide +kernel) rfl ?_
    refine s_il (i := 3) (pc' := 17) (by decide +kernel) rfl ?_
    refine kX11_has (X := 0) (Y := 0) (X' := 0) (Y' := 0) (pc' := 20) (by decide +kernel) hc0 rfl h3 (fun v3 c hc1 h4 => ?_); clear h3 hc0
    refine s_if (ins := .ifCond .eq 12) (t := 32) (pc' := 23) (by decide +kernel) rfl rfl rfl h4 (fun p5 h5 => ?_) (fun p5 h5 => ?_) <;> clear h4
    · refine s_c (v := 0) (pc' := 33) (by decide +kernel) ?_
      exact (vX11_lengthOf_b33 hF hk4) hc1 h5
    · refine s_rl (i := 0) (pc' := 24) (by decide +kernel) rfl ?_
      refine s_il (i := 3) (pc' := 25) (by decide +kernel) rfl ?_
      refine s_c (v := 5) (pc' := 26) (by decide +kernel) ?_
      refine kX11_get (X := 0) (Y := 0) (X' := 0) (Y' := 0) (pc' := 29) (by decide +kernel) hc1 rfl h5 (fun v4 c hc2 h6 => ?_); clear h5 hc1
      refine s_go (t := 33) (by decide +kernel) ?_
      exact (vX11_lengthOf_b33 hF hk4) hc2 h6
set_option maxRecDepth 100000 in
set_option maxHeartbeats 4000000 in
def fX11_lengthOf_l4 (fu : Nat) (sh : HS) (I : HI) (R : HR) : Nat → Nat → Int32 → Int32 → Int32 → Option Int32
  | 0 => fun _ _ _ _ => none
  | n + 1 => fX11_lengthOf_b4 fu sh I R (fX11_lengthOf_l4 fu sh I R n)
set_option maxRecDepth 100000 in
set_option maxHeartbeats 4000000 in
theorem vX11_lengthOf_l4 {K J : Nat → Nat} {fu : Nat} {sh : HS} {I : HI} {R : HR} {F : VF} {o : Int32} (hF : F (.inl (some (.int o))) sh I R) : ∀ (n : Nat) {l0 : Nat} {l1 : Int32} {l2 : Int32} {l3 : Int32} {c : Nat × Nat} (_ : c.1 ≤ 0 ∧ c.2 ≤ 0) (_ : fX11_lengthOf_l4 fu sh I R n l0 l1 l2 l3 = some o), V K J 253 4 [some (.ref l0), some (.int l1), some (.int l2), some (.int l3)] [] sh I R c F := by
  intro n
  induction n with
  | zero => exact fun _ h0 => nomatch h0
  | succ n ih => exact fun hc0 h0 => vX11_lengthOf_b4 hF ih hc0 h0
set_option maxRecDepth 100000 in
set_option maxHeartbeats 4000000 in
def fX11_lengthOf (fu : Nat) (sh : HS) (I : HI) (R : HR) (l0 : Nat) (l1 : Int32) : Option Int32 :=
  if isT sh l0 9 = true then
    ((fX11_lengthOf_l4 fu sh I R fu) l0 l1 0 0)
  else none
set_option maxRecDepth 100000 in
set_option maxHeartbeats 4000000 in
theorem vX11_lengthOf {K J : Nat → Nat} {fu : Nat} {sh : HS} {I : HI} {R : HR} {F : VF} {o : Int32} (hF : F (.inl (some (.int o))) sh I R) {l0 : Nat} {l1 : Int32} (h0 : fX11_lengthOf fu sh I R l0 l1 = some o) : V K J 253 0 (ent 4 [.ref l0, .int l1]) [] sh I R (0, 0) F := by
  unfold fX11_lengthOf at h0
  obtain ⟨-, h1⟩ := gd h0; clear h0
  have hc0 : ((0 : Nat), (0 : Nat)).1 ≤ 0 ∧ ((0 : Nat), (0 : Nat)).2 ≤ 0 := ⟨Nat.le_refl _, Nat.le_refl _⟩
  show V K J 253 0 [some (.ref l0), some (.int l1), none, none] [] sh I R (0, 0) F
  refine s_c (v := 0) (pc' := 1) (by decide +kernel) ?_
  refine s_is (i := 2) (pc' := 2) (L' := [some (.ref l0), some (.int l1), some (.int 0), none]) (by decide +kernel) rfl rfl ?_
  refine s_c (v := 0) (pc' := 3) (by decide +kernel) ?_
  refine s_is (i := 3) (pc' := 4) (L' := [some (.ref l0), some (.int l1), some (.int 0), some (.int 0)]) (by decide +kernel) rfl rfl ?_
  exact (vX11_lengthOf_l4 hF fu) hc0 h1
set_option maxRecDepth 100000 in
set_option maxHeartbeats 4000000 in
theorem kX11_lengthOf {K J : Nat → Nat} {fu : Nat} {sh : HS} {I : HI} {R : HR} {F : VF} {mi pc pc' X Y X' Y' : Nat} {L : VL} {rest : List Value} {c : Nat × Nat} {l0 : Nat} {l1 : Int32} {ω : Type} {o : ω} {g : Int32 → Option ω} (hq : cQ mi pc 253 2 pc' X Y X' Y' = true) (hc : c.1 ≤ X ∧ c.2 ≤ Y) (hr : Nat.ble (catS rest) 8 = true) (h : (fX11_lengthOf fu sh I R l0 l1).bind g = some o) (kk : ∀ v c', (c'.1 ≤ X' ∧ c'.2 ≤ Y') → g v = some o → V K J mi pc' L ((.int v) :: rest) sh I R c' F) : V K J mi pc L (.int l1 :: .ref l0 :: rest) sh I R c F := by
  obtain ⟨r, h1, h2⟩ := bnd h
  have hT : isT sh l0 9 = true := by unfold fX11_lengthOf at h1; exact (gd h1).1
  have ml : mL 253 = 4 := by decide +kernel
  have mk : mK 253 = 1 := by decide +kernel
  have mc : mC 253 = 9 := by decide +kernel
  refine s_call (as := [.int l1, .ref l0]) (G := fun o' sh' I' R' => o' = .inl (some (.int r)) ∧ sh' = sh ∧ I' = I ∧ R' = R) hq hc rfl hr (by rw [ml]; rfl) (Or.inl rfl) (fun _ => Or.inl ⟨by rw [mc]; decide, by rw [mc]; exact isT_iff.mp hT⟩) (fun z => absurd (mk.symm.trans z) (by decide)) (by rw [ml]; exact vX11_lengthOf (F := fun o' sh' I' R' => o' = .inl (some (.int r)) ∧ sh' = sh ∧ I' = I ∧ R' = R) ⟨rfl, rfl, rfl, rfl⟩ h1) ?_ ?_ ?_
  · rintro sh' I' R' c' hc' ⟨g1, rfl, rfl, rfl⟩
    cases g1
  · rintro v' sh' I' R' c' hc' ⟨g1, rfl, rfl, rfl⟩
    cases g1
    exact kk _ _ hc' h2
  · rintro E' sh' I' R' ⟨g1, rfl, rfl, rfl⟩
    cases g1
set_option maxRecDepth 100000 in
set_option maxHeartbeats 4000000 in
def fX11_count (fu : Nat) (sh : HS) (I : HI) (R : HR) (l0 : Nat) (l1 : Int32) : Option (Int32 × HI) :=
  if isT sh l0 9 = true then
    ((fX11_isIn fu sh I R (l1.toInt64) 0 5).bind fun v1 =>
    oH (fX11_isWrong fu sh I R l0 v1) fun v2 w2 =>
    if v2 = 0 then
      (if l1 = 0 then
        ((oR sh R l0 9 0).bind fun v3 =>
        (oA sh w2 v3 3).bind fun v4 =>
        some (v4, w2))
      else
        if l1 = 1 then
          ((oR sh R l0 9 0).bind fun v5 =>
          (oA sh w2 v5 4).bind fun v6 =>
          some (v6, w2))
        else
          if l1 = 2 then
            ((oR sh R l0 9 0).bind fun v7 =>
            (oA sh w2 v7 0).bind fun v8 =>
            some (v8, w2))
          else
            if l1 = 3 then
              ((oR sh R l0 9 0).bind fun v9 =>
              (oA sh w2 v9 1).bind fun v10 =>
              some (v10, w2))
            else
              if l1 = 4 then
                ((oR sh R l0 9 0).bind fun v11 =>
                (oA sh w2 v11 2).bind fun v12 =>
                some (v12, w2))
              else
                (oR sh R l0 9 0).bind fun v13 =>
                (oA sh w2 v13 4).bind fun v14 =>
                (fX11_lengthOf fu sh w2 R l0 ((1 <<< (v14 &&& 31)) - 1)).bind fun v15 =>
                some (v15, w2))
    else
      (some (0, w2)))
  else none
set_option maxRecDepth 100000 in
set_option maxHeartbeats 4000000 in
theorem vX11_count {K J : Nat → Nat} {fu : Nat} {sh : HS} {I : HI} {R : HR} {F : VF} {o : (Int32 × HI)} (hF : F (.inl (some (.int o.1))) sh o.2 R) {l0 : Nat} {l1 : Int32} (h0 : fX11_count fu sh I R l0 l1 = some o) : V K J 189 0 (ent 2 [.ref l0, .int l1]) [] sh I R (0, 0) F := by
  unfold fX11_count at h0
  obtain ⟨-, h1⟩ := gd h0; clear h0
  have hc0 : ((0 : Nat), (0 : Nat)).1 ≤ 0 ∧ ((0 : Nat), (0 : Nat)).2 ≤ 0 := ⟨Nat.le_refl _, Nat.le_refl _⟩
  show V K J 189 0 [some (.ref l0), some (.int l1)] [] sh I R (0, 0) F
  refine s_rl (i := 0) (pc' := 1) (by decide +kernel) rfl ?_
  refine s_il (i := 1) (pc' := 2) (by decide +kernel) rfl ?_
  refine s_a (ins := .i2l) (pc' := 3) (by decide +kernel) rfl ?_
  refine s_cJ (v := 0) (pc' := 4) (by decide +kernel) ?_
  refine s_cJ (v := 5) (pc' := 7) (by decide +kernel) ?_
  refine kX11_isIn (X := 0) (Y := 0) (X' := 0) (Y' := 0) (pc' := 10) (by decide +kernel) hc0 rfl h1 (fun v1 c hc1 h2 => ?_); clear h1 hc0
  refine kX11_isWrong (X := 0) (Y := 0) (X' := 0) (Y' := 0) (pc' := 13) (by decide +kernel) hc1 rfl h2 (fun v2 w2 c hc2 h3 => ?_); clear h2 hc1
  refine s_if (ins := .ifCond .eq 5) (t := 18) (pc' := 16) (by decide +kernel) rfl rfl rfl h3 (fun p4 h4 => ?_) (fun p4 h4 => ?_) <;> clear h3
  · refine s_il (i := 1) (pc' := 19) (by decide +kernel) rfl ?_
    by_cases e0 : l1 = 0
    · have h5 := h4
      rw [if_pos e0] at h5
      clear h4
      refine s_sw (v := 0) (t := 52) e0 (by decide +kernel) ?_
      refine s_rl (i := 0) (pc' := 53) (by decide +kernel) rfl ?_
      refine s_gR (t := 9) (j := 0) (pc' := 56) (by decide +kernel) h5 (fun v3 h6 => ?_); clear h5
      refine s_c (v := 3) (pc' := 57) (by decide +kernel) ?_
      refine s_al (pc' := 58) (by decide +kernel) h6 (fun v4 h7 => ?_); clear h6
      have e9 := Option.some.inj h7; subst e9
      exact s_ri (X := 0) (Y := 0) (by decide +kernel) hc2 hF
    rw [if_neg e0] at h4
    by_cases e1 : l1 = 1
    · have h5 := h4
      rw [if_pos e1] at h5
      clear h4
      refine s_sw (v := 1) (t := 59) e1 (by decide +kernel) ?_
      refine s_rl (i := 0) (pc' := 60) (by decide +kernel) rfl ?_
      refine s_gR (t := 9) (j := 0) (pc' := 63) (by decide +kernel) h5 (fun v5 h6 => ?_); clear h5
      refine s_c (v := 4) (pc' := 64) (by decide +kernel) ?_
      refine s_al (pc' := 65) (by decide +kernel) h6 (fun v6 h7 => ?_); clear h6
      have e9 := Option.some.inj h7; subst e9
      exact s_ri (X := 0) (Y := 0) (by decide +kernel) hc2 hF
    rw [if_neg e1] at h4
    by_cases e2 : l1 = 2
    · have h5 := h4
      rw [if_pos e2] at h5
      clear h4
      refine s_sw (v := 2) (t := 66) e2 (by decide +kernel) ?_
      refine s_rl (i := 0) (pc' := 67) (by decide +kernel) rfl ?_
      refine s_gR (t := 9) (j := 0) (pc' := 70) (by decide +kernel) h5 (fun v7 h6 => ?_); clear h5
      refine s_c (v := 0) (pc' := 71) (by decide +kernel) ?_
      refine s_al (pc' := 72) (by decide +kernel) h6 (fun v8 h7 => ?_); clear h6
      have e9 := Option.some.inj h7; subst e9
      exact s_ri (X := 0) (Y := 0) (by decide +kernel) hc2 hF
    rw [if_neg e2] at h4
    by_cases e3 : l1 = 3
    · have h5 := h4
      rw [if_pos e3] at h5
      clear h4
      refine s_sw (v := 3) (t := 73) e3 (by decide +kernel) ?_
      refine s_rl (i := 0) (pc' := 74) (by decide +kernel) rfl ?_
      refine s_gR (t := 9) (j := 0) (pc' := 77) (by decide +kernel) h5 (fun v9 h6 => ?_); clear h5
      refine s_c (v := 1) (pc' := 78) (by decide +kernel) ?_
      refine s_al (pc' := 79) (by decide +kernel) h6 (fun v10 h7 => ?_); clear h6
      have e9 := Option.some.inj h7; subst e9
      exact s_ri (X := 0) (Y := 0) (by decide +kernel) hc2 hF
    rw [if_neg e3] at h4
    by_cases e4 : l1 = 4
    · have h5 := h4
      rw [if_pos e4] at h5
      clear h4
      refine s_sw (v := 4) (t := 80) e4 (by decide +kernel) ?_
      refine s_rl (i := 0) (pc' := 81) (by decide +kernel) rfl ?_
      refine s_gR (t := 9) (j := 0) (pc' := 84) (by decide +kernel) h5 (fun v11 h6 => ?_); clear h5
      refine s_c (v := 2) (pc' := 85) (by decide +kernel) ?_
      refine s_al (pc' := 86) (by decide +kernel) h6 (fun v12 h7 => ?_); clear h6
      have e9 := Option.some.inj h7; subst e9
      exact s_ri (X := 0) (Y := 0) (by decide +kernel) hc2 hF
    rw [if_neg e4] at h4
    refine s_sd (n := 5) (t := 87) (sw_out5 e0 e1 e2 e3 e4) (by decide +kernel) ?_
    refine s_rl (i := 0) (pc' := 88) (by decide +kernel) rfl ?_
    refine s_c (v := 1) (pc' := 89) (by decide +kernel) ?_
    refine s_rl (i := 0) (pc' := 90) (by decide +kernel) rfl ?_
    refine s_gR (t := 9) (j := 0) (pc' := 93) (by decide +kernel) h4 (fun v13 h5 => ?_); clear h4
    refine s_c (v := 4) (pc' := 94) (by decide +kernel) ?_
    refine s_al (pc' := 95) (by decide +kernel) h5 (fun v14 h6 => ?_); clear h5
    refine s_a (ins := .ishl) (pc' := 96) (by decide +kernel) rfl ?_
    refine s_c (v := 1) (pc' := 97) (by decide +kernel) ?_
    refine s_a (ins := .isub) (pc' := 98) (by decide +kernel) rfl ?_
    refine kX11_lengthOf (X := 0) (Y := 0) (X' := 0) (Y' := 0) (pc' := 101) (by decide +kernel) hc2 rfl h6 (fun v15 c hc3 h7 => ?_); clear h6 hc2
    have e9 := Option.some.inj h7; subst e9
    exact s_ri (X := 0) (Y := 0) (by decide +kernel) hc3 hF
  · refine s_c (v := 0) (pc' := 17) (by decide +kernel) ?_
    have e9 := Option.some.inj h4; subst e9
    exact s_ri (X := 0) (Y := 0) (by decide +kernel) hc2 hF
set_option maxRecDepth 100000 in
set_option maxHeartbeats 4000000 in
theorem kX11_count {K J : Nat → Nat} {fu : Nat} {sh : HS} {I : HI} {R : HR} {F : VF} {mi pc pc' X Y X' Y' : Nat} {L : VL} {rest : List Value} {c : Nat × Nat} {l0 : Nat} {l1 : Int32} {ω : Type} {o : ω} {g : Int32 → HI → Option ω} (hq : cQ mi pc 189 2 pc' X Y X' Y' = true) (hc : c.1 ≤ X ∧ c.2 ≤ Y) (hr : Nat.ble (catS rest) 8 = true) (h : oH (fX11_count fu sh I R l0 l1) g = some o) (kk : ∀ v w c', (c'.1 ≤ X' ∧ c'.2 ≤ Y') → g v w = some o → V K J mi pc' L ((.int v) :: rest) sh w R c' F) : V K J mi pc L (.int l1 :: .ref l0 :: rest) sh I R c F := by
  obtain ⟨r, h1, h2⟩ := bnd h
  have hT : isT sh l0 9 = true := by unfold fX11_count at h1; exact (gd h1).1
  have ml : mL 189 = 2 := by decide +kernel
  have mk : mK 189 = 1 := by decide +kernel
  have mc : mC 189 = 9 := by decide +kernel
  obtain ⟨v, w⟩ := r
  refine s_call (as := [.int l1, .ref l0]) (G := fun o' sh' I' R' => o' = .inl (some (.int v)) ∧ sh' = sh ∧ I' = w ∧ R' = R) hq hc rfl hr (by rw [ml]; rfl) (Or.inl rfl) (fun _ => Or.inl ⟨by rw [mc]; decide, by rw [mc]; exact isT_iff.mp hT⟩) (fun z => absurd (mk.symm.trans z) (by decide)) (by rw [ml]; exact vX11_count (F := fun o' sh' I' R' => o' = .inl (some (.int v)) ∧ sh' = sh ∧ I' = w ∧ R' = R) ⟨rfl, rfl, rfl, rfl⟩ h1) ?_ ?_ ?_
  · rintro sh' I' R' c' hc' ⟨g1, rfl, rfl, rfl⟩
    cases g1
  · rintro v' sh' I' R' c' hc' ⟨g1, rfl, rfl, rfl⟩
    cases g1
    exact kk _ _ _ hc' h2
  · rintro E' sh' I' R' ⟨g1, rfl, rfl, rfl⟩
    cases g1
set_option maxRecDepth 100000 in
set_option maxHeartbeats 4000000 in
def fX11_scene_b58 (fu : Nat) (sh : HS) (R : HR) (I : HI) (s0 : Int32) : Option (Int32 × HI) :=
  some (s0, I)
set_option maxRecDepth 100000 in
set_option maxHeartbeats 4000000 in
theorem vX11_scene_b58 {K J : Nat → Nat} {fu : Nat} {sh : HS} {R : HR} {F : VF} {o : (Int32 × HI)} (hF : F (.inl (some (.int o.1))) sh o.2 R) {I : HI} {s0 : Int32} {d0 d1 d2 : Option Value} {c : Nat × Nat} (hc0 : c.1 ≤ 0 ∧ c.2 ≤ 0) (h0 : fX11_scene_b58 fu sh R I s0 = some o) : V K J 190 58 [d0, d1, d2] [.int s0] sh I R c F := by
  unfold fX11_scene_b58 at h0
  have e9 := Option.some.inj h0; subst e9
  exact s_ri (X := 0) (Y := 0) (by decide +kernel) hc0 hF
set_option maxRecDepth 100000 in
set_option maxHeartbeats 4000000 in
def fX11_scene_b26 (fu : Nat) (sh : HS) (R : HR) (I : HI) (l0 : Nat) (l1 : Int32) (l2 : Int32) (s0 : Int32) (s1 : Nat) : Option (Int32 × HI) :=
  oH (fX11_isWrong fu sh I R s1 s0) fun v2 w2 =>
  if v2 = 0 then
    (if l2 = 2 then
      ((fX11_shotsOf fu sh w2 R l0 l1).bind fun v6 =>
      (fX11_scene_b58 fu sh R) w2 v6)
    else
      ((oR sh R l0 9 0).bind fun v3 =>
      (fX11_sceneAt fu sh w2 R l1).bind fun v4 =>
      (oA sh w2 v3 (v4 + l2)).bind fun v5 =>
      (fX11_scene_b58 fu sh R) w2 v5))
  else
    (some (0, w2))
set_option maxRecDepth 100000 in
set_option maxHeartbeats 4000000 in
theorem vX11_scene_b26 {K J : Nat → Nat} {fu : Nat} {sh : HS} {R : HR} {F : VF} {o : (Int32 × HI)} (hF : F (.inl (some (.int o.1))) sh o.2 R) {I : HI} {l0 : Nat} {l1 : Int32} {l2 : Int32} {s0 : Int32} {s1 : Nat} {c : Nat × Nat} (hc0 : c.1 ≤ 0 ∧ c.2 ≤ 0) (h0 : fX11_scene_b26 fu sh R I l0 l1 l2 s0 s1 = some o) : V K J 190 26 [some (.ref l0), some (.int l1), some (.int l2)] [.int s0, .ref s1] sh I R c F := by
  unfold fX11_scene_b26 at h0
  refine kX11_isWrong (X := 0) (Y := 0) (X' := 0) (Y' := 0) (pc' := 29) (by decide +kernel) hc0 rfl h0 (fun v2 w2 c hc1 h1 => ?_); clear h0 hc0
  refine s_if (ins := .ifCond .eq 5) (t := 34) (pc' := 32) (by decide +kernel) rfl rfl rfl h1 (fun p2 h2 => ?_) (fun p2 h2 => ?_) <;> clear h1
  · refine s_il (i := 2) (pc' := 35) (by decide +kernel) rfl ?_
    refine s_c (v := 2) (pc' := 36) (by decide +kernel) ?_
    refine s_ifn (ins := .if_icmp .ne 11) (t := 47) (pc' := 39) (by decide +kernel) rfl rfl rfl h2 (fun p3 h3 => ?_) (fun p3 h3 => ?_) <;> clear h2
    · refine s_rl (i := 0) (pc' := 48) (by decide +kernel) rfl ?_
      refine s_gR (t := 9) (j := 0) (pc' := 51) (by decide +kernel) h3 (fun v3 h4 => ?_); clear h3
      refine s_il (i := 1) (pc' := 52) (by decide +kernel) rfl ?_
      refine kX11_sceneAt (X := 0) (Y := 0) (X' := 0) (Y' := 0) (pc' := 55) (by decide +kernel) hc1 rfl h4 (fun v4 c hc2 h5 => ?_); clear h4 hc1
      refine s_il (i := 2) (pc' := 56) (by decide +kernel) rfl ?_
      refine s_a (ins := .iadd) (pc' := 57) (by decide +kernel) rfl ?_
      refine s_al (pc' := 58) (by decide +kernel) h5 (fun v5 h6 => ?_); clear h5
      exact (vX11_scene_b58 hF) hc2 h6
    · refine s_rl (i := 0) (pc' := 40) (by decide +kernel) rfl ?_
      refine s_il (i := 1) (pc' := 41) (by decide +kernel) rfl ?_
      refine kX11_shotsOf (X := 0) (Y := 0) (X' := 0) (Y' := 0) (pc' := 44) (by decide +kernel) hc1 rfl h3 (fun v6 c hc2 h4 => ?_); clear h3 hc1
      refine s_go (t := 58) (by decide +kernel) ?_
      exact (vX11_scene_b58 hF) hc2 h4
  · refine s_c (v := 0) (pc' := 33) (by decide +kernel) ?_
    have e9 := Option.some.inj h2; subst e9
    exact s_ri (X := 0) (Y := 0) (by decide +kernel) hc1 hF
set_option maxRecDepth 100000 in
set_option maxHeartbeats 4000000 in
def fX11_scene_b25 (fu : Nat) (sh : HS) (R : HR) (I : HI) (l0 : Nat) (l1 : Int32) (l2 : Int32) (s0 : Nat) : Option (Int32 × HI) :=
  (fX11_scene_b26 fu sh R) I l0 l1 l2 0 s0
set_option maxRecDepth 100000 in
set_option maxHeartbeats 4000000 in
theorem vX11_scene_b25 {K J : Nat → Nat} {fu : Nat} {sh : HS} {R : HR} {F : VF} {o : (Int32 × HI)} (hF : F (.inl (some (.int o.1))) sh o.2 R) {I : HI} {l0 : Nat} {l1 : Int32} {l2 : Int32} {s0 : Nat} {c : Nat × Nat} (hc0 : c.1 ≤ 0 ∧ c.2 ≤ 0) (h0 : fX11_scene_b25 fu sh R I l0 l1 l2 s0 = some o) : V K J 190 25 [some (.ref l0), some (.int l1), some (.int l2)] [.ref s0] sh I R c F := by
  unfold fX11_scene_b25 at h0
  refine s_c (v := 0) (pc' := 26) (by decide +kernel) ?_
  exact (vX11_scene_b26 hF) hc0 h0
set_option maxRecDepth 100000 in
set_option maxHeartbeats 4000000 in
def fX11_scene (fu : Nat) (sh : HS) (I : HI) (R : HR) (l0 : Nat) (l1 : Int32) (l2 : Int32) : Option (Int32 × HI) :=
  if isT sh l0 9 = true then
    ((fX11_isScene fu sh I R l0 l1).bind fun v1 =>
    if v1 = 0 then
      ((fX11_scene_b25 fu sh R) I l0 l1 l2 l0)
    else
      ((fX11_isIn fu sh I R (l2.toInt64) 0 2).bind fun v7 =>
      if v7 = 0 then
        ((fX11_scene_b25 fu sh R) I l0 l1 l2 l0)
      else
        ((fX11_scene_b26 fu sh R) I l0 l1 l2 1 l0)))
  else none
set_option maxRecDepth 100000 in
set_option maxHeartbeats 4000000 in
theorem vX11_scene {K J : Nat → Nat} {fu : Nat} {sh : HS} {I : HI} {R : HR} {F : VF} {o : (Int32 × HI)} (hF : F (.inl (some (.int o.1))) sh o.2 R) {l0 : Nat} {l1 : Int32} {l2 : Int32} (h0 : fX11_scene fu sh I R l0 l1 l2 = some o) : V K J 190 0 (ent 3 [.ref l0, .int l1, .int l2]) [] sh I R (0, 0) F := by
  unfold fX11_scene at h0
  obtain ⟨-, h1⟩ := gd h0; clear h0
  have hc0 : ((0 : Nat), (0 : Nat)).1 ≤ 0 ∧ ((0 : Nat), (0 : Nat)).2 ≤ 0 := ⟨Nat.le_refl _, Nat.le_refl _⟩
  show V K J 190 0 [some (.ref l0), some (.int l1), some (.int l2)] [] sh I R (0, 0) F
  refine s_rl (i := 0) (pc' := 1) (by decide +kernel) rfl ?_
  refine s_rl (i := 0) (pc' := 2) (by decide +kernel) rfl ?_
  refine s_il (i := 1) (pc' := 3) (by decide +kernel) rfl ?_
  refine kX11_isScene (X := 0) (Y := 0) (X' := 0) (Y' := 0) (pc' := 6) (by decide +kernel) hc0 rfl h1 (fun v1 c hc1 h2 => ?_); clear h1 hc0
  refine s_if (ins := .ifCond .eq 19) (t := 25) (pc' := 9) (by decide +kernel) rfl rfl rfl h2 (fun p3 h3 => ?_) (fun p3 h3 => ?_) <;> clear h2
  · exact (vX11_scene_b25 hF) hc1 h3
  · refine s_il (i := 2) (pc' := 10) (by decide +kernel) rfl ?_
    refine s_a (ins := .i2l) (pc' := 11) (by decide +kernel) rfl ?_
    refine s_cJ (v := 0) (pc' := 12) (by decide +kernel) ?_
    refine s_cJ (v := 2) (pc' := 15) (by decide +kernel) ?_
    refine kX11_isIn (X := 0) (Y := 0) (X' := 0) (Y' := 0) (pc' := 18) (by decide +kernel) hc1 rfl h3 (fun v7 c hc2 h4 => ?_); clear h3 hc1
    refine s_if (ins := .ifCond .eq 7) (t := 25) (pc' := 21) (by decide +kernel) rfl rfl rfl h4 (fun p5 h5 => ?_) (fun p5 h5 => ?_) <;> clear h4
    · exact (vX11_scene_b25 hF) hc2 h5
    · refine s_c (v := 1) (pc' := 22) (by decide +kernel) ?_
      refine s_go (t := 26) (by decide +kernel) ?_
      exact (vX11_scene_b26 hF) hc2 h5
set_option maxRecDepth 100000 in
set_option maxHeartbeats 4000000 in
theorem kX11_scene {K J : Nat → Nat} {fu : Nat} {sh : HS} {I : HI} {R : HR} {F : VF} {mi pc pc' X Y X' Y' : Nat} {L : VL} {rest : List Value} {c : Nat × Nat} {l0 : Nat} {l1 : Int32} {l2 : Int32} {ω : Type} {o : ω} {g : Int32 → HI → Option ω} (hq : cQ mi pc 190 3 pc' X Y X' Y' = true) (hc : c.1 ≤ X ∧ c.2 ≤ Y) (hr : Nat.ble (catS rest) 8 = true) (h : oH (fX11_scene fu sh I R l0 l1 l2) g = some o) (kk : ∀ v w c', (c'.1 ≤ X' ∧ c'.2 ≤ Y') → g v w = some o → V K J mi pc' L ((.int v) :: rest) sh w R c' F) : V K J mi pc L (.int l2 :: .int l1 :: .ref l0 :: rest) sh I R c F := by
  obtain ⟨r, h1, h2⟩ := bnd h
  have hT : isT sh l0 9 = true := by unfold fX11_scene at h1; exact (gd h1).1
  have ml : mL 190 = 3 := by decide +kernel
  have mk : mK 190 = 1 := by decide +kernel
  have mc : mC 190 = 9 := by decide +kernel
  obtain ⟨v, w⟩ := r
  refine s_call (as := [.int l2, .int l1, .ref l0]) (G := fun o' sh' I' R' => o' = .inl (some (.int v)) ∧ sh' = sh ∧ I' = w ∧ R' = R) hq hc rfl hr (by rw [ml]; rfl) (Or.inl rfl) (fun _ => Or.inl ⟨by rw [mc]; decide, by rw [mc]; exact isT_iff.mp hT⟩) (fun z => absurd (mk.symm.trans z) (by decide)) (by rw [ml]; exact vX11_scene (F := fun o' sh' I' R' => o' = .inl (some (.int v)) ∧ sh' = sh ∧ I' = w ∧ R' = R) ⟨rfl, rfl, rfl, rfl⟩ h1) ?_ ?_ ?_
  · rintro sh' I' R' c' hc' ⟨g1, rfl, rfl, rfl⟩
    cases g1
  · rintro v' sh' I' R' c' hc' ⟨g1, rfl, rfl, rfl⟩
    cases g1
    exact kk _ _ _ hc' h2
  · rintro E' sh' I' R' ⟨g1, rfl, rfl, rfl⟩
    cases g1
