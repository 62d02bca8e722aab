/-! methods 2 (printed by wip/whole/gen3.py) -/
set_option maxRecDepth 100000 in
set_option maxHeartbeats 4000000 in
def fX5_bestNext_b73 (fu : Nat) (sh : HS) (I : HI) (R : HR) (k9 : Nat → Int32 → Int32 → Int32 → Int32 → Int32 → Option Int32) (l0 : Nat) (l1 : Int32) (l2 : Int32) (l3 : Int32) (l4 : Int32) (l5 : Int32) : Option Int32 :=
  k9 l0 l1 l2 l3 l4 (l5 + 1)
set_option maxRecDepth 100000 in
set_option maxHeartbeats 4000000 in
theorem vX5_bestNext_b73 {K J : Nat → Nat} {fu : Nat} {sh : HS} {I : HI} {R : HR} {F : VF} {o : Int32} (hF : F (.inl (some (.int o))) sh I R) {k9 : Nat → Int32 → Int32 → Int32 → Int32 → Int32 → Option Int32} (hk9 : ∀ {l0 : Nat} {l1 : Int32} {l2 : Int32} {l3 : Int32} {l4 : Int32} {l5 : Int32} {d6 : Option Value} {c : Nat × Nat}, (c.1 ≤ 0 ∧ c.2 ≤ 0) → k9 l0 l1 l2 l3 l4 l5 = some o → V K J 54 9 [some (.ref l0), some (.int l1), some (.int l2), some (.int l3), some (.int l4), some (.int l5), d6] [] sh I R c F) {l0 : Nat} {l1 : Int32} {l2 : Int32} {l3 : Int32} {l4 : Int32} {l5 : Int32} {d6 : Option Value} {c : Nat × Nat} (hc0 : c.1 ≤ 0 ∧ c.2 ≤ 0) (h0 : fX5_bestNext_b73 fu sh I R k9 l0 l1 l2 l3 l4 l5 = some o) : V K J 54 73 [some (.ref l0), some (.int l1), some (.int l2), some (.int l3), some (.int l4), some (.int l5), d6] [] sh I R c F := by
  unfold fX5_bestNext_b73 at h0
  refine s_inc (i := 5) (z := 1) (pc' := 76) (L' := [some (.ref l0), some (.int l1), some (.int l2), some (.int l3), some (.int l4), some (.int (l5 + 1)), d6]) (by decide +kernel) rfl rfl rfl ?_
  refine s_go (t := 9) (by decide +kernel) ?_
  exact hk9 hc0 h0
set_option maxRecDepth 100000 in
set_option maxHeartbeats 4000000 in
def fX5_bestNext_b9 (fu : Nat) (sh : HS) (I : HI) (R : HR) (k9 : Nat → Int32 → Int32 → Int32 → Int32 → Int32 → Option Int32) (l0 : Nat) (l1 : Int32) (l2 : Int32) (l3 : Int32) (l4 : Int32) (l5 : Int32) : Option Int32 :=
  (oI sh I l0 4 6).bind fun v1 =>
  if v1 ≤ l5 then
    (some l3)
  else
    ((fX10_holds fu sh I R l1 l5).bind fun v2 =>
    if v2 = 0 then
      ((fX5_priceOf fu sh I R l0 l2 l5).bind fun v3 =>
      (oR sh R l0 4 3).bind fun v4 =>
      (oI sh I l0 4 0).bind fun v5 =>
      (oA sh I v4 (((l1 ||| ((1 : Int32) <<< (l5 &&& 31))) * v5) + l5)).bind fun v6 =>
      if l4 ≤ (v3 + v6) then
        ((fX5_bestNext_b73 fu sh I R k9) l0 l1 l2 l3 l4 l5)
      else
        ((fX5_bestNext_b73 fu sh I R k9) l0 l1 l2 l5 (v3 + v6) l5))
    else
      ((fX5_bestNext_b73 fu sh I R k9) l0 l1 l2 l3 l4 l5))
set_option maxRecDepth 100000 in
set_option maxHeartbeats 4000000 in
theorem vX5_bestNext_b9 {K J : Nat → Nat} {fu : Nat} {sh : HS} {I : HI} {R : HR} {F : VF} {o : Int32} (hF : F (.inl (some (.int o))) sh I R) {k9 : Nat → Int32 → Int32 → Int32 → Int32 → Int32 → Option Int32} (hk9 : ∀ {l0 : Nat} {l1 : Int32} {l2 : Int32} {l3 : Int32} {l4 : Int32} {l5 : Int32} {d6 : Option Value} {c : Nat × Nat}, (c.1 ≤ 0 ∧ c.2 ≤ 0) → k9 l0 l1 l2 l3 l4 l5 = some o → V K J 54 9 [some (.ref l0), some (.int l1), some (.int l2), some (.int l3), some (.int l4), some (.int l5), d6] [] sh I R c F) {l0 : Nat} {l1 : Int32} {l2 : Int32} {l3 : Int32} {l4 : Int32} {l5 : Int32} {d6 : Option Value} {c : Nat × Nat} (hc0 : c.1 ≤ 0 ∧ c.2 ≤ 0) (h0 : fX5_bestNext_b9 fu sh I R k9 l0 l1 l2 l3 l4 l5 = some o) : V K J 54 9 [some (.ref l0), some (.int l1), some (.int l2), some (.int l3), some (.int l4), some (.int l5), d6] [] sh I R c F := by
  unfold fX5_bestNext_b9 at h0
  refine s_il (i := 5) (pc' := 11) (by decide +kernel) rfl ?_
  refine s_rl (i := 0) (pc' := 12) (by decide +kernel) rfl ?_
  refine s_gI (t := 4) (j := 6) (ty := 0) (pc' := 15) (by decide +kernel) rfl h0 (fun v1 h1 => ?_); clear h0
  refine s_if (ins := .if_icmp .ge 64) (t := 79) (pc' := 18) (by decide +kernel) rfl rfl rfl h1 (fun p2 h2 => ?_) (fun p2 h2 => ?_) <;> clear h1
  · refine s_il (i := 3) (pc' := 80) (by decide +kernel) rfl ?_
    have e9 := Option.some.inj h2; subst e9
    exact s_ri (X := 0) (Y := 0) (by decide +kernel) hc0 hF
  · refine s_il (i := 1) (pc' := 19) (by decide +kernel) rfl ?_
    refine s_il (i := 5) (pc' := 21) (by decide +kernel) rfl ?_
    refine kX10_holds (X := 0) (Y := 0) (X' := 0) (Y' := 0) (pc' := 24) (by decide +kernel) hc0 rfl h2 (fun v2 c hc1 h3 => ?_); clear h2 hc0
    refine s_if (ins := .ifCond .eq 6) (t := 30) (pc' := 27) (by decide +kernel) rfl rfl rfl h3 (fun p4 h4 => ?_) (fun p4 h4 => ?_) <;> clear h3
    · refine s_rl (i := 0) (pc' := 31) (by decide +kernel) rfl ?_
      refine s_il (i := 2) (pc' := 32) (by decide +kernel) rfl ?_
      refine s_il (i := 5) (pc' := 34) (by decide +kernel) rfl ?_
      refine kX5_priceOf (X := 0) (Y := 0) (X' := 0) (Y' := 0) (pc' := 37) (by decide +kernel) hc1 rfl h4 (fun v3 c hc2 h5 => ?_); clear h4 hc1
      refine s_rl (i := 0) (pc' := 38) (by decide +kernel) rfl ?_
      refine s_gR (t := 4) (j := 3) (pc' := 41) (by decide +kernel) h5 (fun v4 h6 => ?_); clear h5
      refine s_il (i := 1) (pc' := 42) (by decide +kernel) rfl ?_
      refine s_c (v := 1) (pc' := 43) (by decide +kernel) ?_
      refine s_il (i := 5) (pc' := 45) (by decide +kernel) rfl ?_
      refine s_a (ins := .ishl) (pc' := 46) (by decide +kernel) rfl ?_
      refine s_a (ins := .ior) (pc' := 47) (by decide +kernel) rfl ?_
      refine s_rl (i := 0) (pc' := 48) (by decide +kernel) rfl ?_
      refine s_gI (t := 4) (j := 0) (ty := 0) (pc' := 51) (by decide +kernel) rfl h6 (fun v5 h7 => ?_); clear h6
      refine s_a (ins := .imul) (pc' := 52) (by decide +kernel) rfl ?_
      refine s_il (i := 5) (pc' := 54) (by decide +kernel) rfl ?_
      refine s_a (ins := .iadd) (pc' := 55) (by decide +kernel) rfl ?_
      refine s_al (pc' := 56) (by decide +kernel) h7 (fun v6 h8 => ?_); clear h7
      refine s_a (ins := .iadd) (pc' := 57) (by decide +kernel) rfl ?_
      refine s_is (i := 6) (pc' := 59) (L' := [some (.ref l0), some (.int l1), some (.int l2), some (.int l3), some (.int l4), some (.int l5), some (.int (v3 + v6))]) (by decide +kernel) rfl rfl ?_
      refine s_il (i := 6) (pc' := 61) (by decide +kernel) rfl ?_
      refine s_il (i := 4) (pc' := 63) (by decide +kernel) rfl ?_
      refine s_if (ins := .if_icmp .ge 10) (t := 73) (pc' := 66) (by decide +kernel) rfl rfl rfl h8 (fun p9 h9 => ?_) (fun p9 h9 => ?_) <;> clear h8
      · exact (vX5_bestNext_b73 hF hk9) hc2 h9
      · refine s_il (i := 6) (pc' := 68) (by decide +kernel) rfl ?_
        refine s_is (i := 4) (pc' := 70) (L' := [some (.ref l0), some (.int l1), some (.int l2), some (.int l3), some (.int (v3 + v6)), some (.int l5), some (.int (v3 + v6))]) (by decide +kernel) rfl rfl ?_
        refine s_il (i := 5) (pc' := 72) (by decide +kernel) rfl ?_
        refine s_is (i := 3) (pc' := 73) (L' := [some (.ref l0), some (.int l1), some (.int l2), some (.int l5), some (.int (v3 + v6)), some (.int l5), some (.int (v3 + v6))]) (by decide +kernel) rfl rfl ?_
        exact (vX5_bestNext_b73 hF hk9) hc2 h9
    · refine s_go (t := 73) (by decide +kernel) ?_
      exact (vX5_bestNext_b73 hF hk9) hc1 h4
set_option maxRecDepth 100000 in
set_option maxHeartbeats 4000000 in
def fX5_bestNext_l9 (fu : Nat) (sh : HS) (I : HI) (R : HR) : Nat → Nat → Int32 → Int32 → Int32 → Int32 → Int32 → Option Int32
  | 0 => fun _ _ _ _ _ _ => none
  | n + 1 => fX5_bestNext_b9 fu sh I R (fX5_bestNext_l9 fu sh I R n)
set_option maxRecDepth 100000 in
set_option maxHeartbeats 4000000 in
theorem vX5_bestNext_l9 {K J : Nat → Nat} {fu : Nat} {sh : HS} {I : HI} {R : HR} {F : VF} {o : Int32} (hF : F (.inl (some (.int o))) sh I R) : ∀ (n : Nat) {l0 : Nat} {l1 : Int32} {l2 : Int32} {l3 : Int32} {l4 : Int32} {l5 : Int32} {d6 : Option Value} {c : Nat × Nat} (_ : c.1 ≤ 0 ∧ c.2 ≤ 0) (_ : fX5_bestNext_l9 fu sh I R n l0 l1 l2 l3 l4 l5 = some o), V K J 54 9 [some (.ref l0), some (.int l1), some (.int l2), some (.int l3), some (.int l4), some (.int l5), d6] [] sh I R c F := by
  intro n
  induction n with
  | zero => exact fun _ h0 => nomatch h0
  | succ n ih => exact fun hc0 h0 => vX5_bestNext_b9 hF ih hc0 h0
set_option maxRecDepth 100000 in
set_option maxHeartbeats 4000000 in
def fX5_bestNext (fu : Nat) (sh : HS) (I : HI) (R : HR) (l0 : Nat) (l1 : Int32) (l2 : Int32) : Option Int32 :=
  if isT sh l0 4 = true then
    ((fX5_bestNext_l9 fu sh I R fu) l0 l1 l2 0 1000000 0)
  else none
set_option maxRecDepth 100000 in
set_option maxHeartbeats 4000000 in
theorem vX5_bestNext {K J : Nat → Nat} {fu : Nat} {sh : HS} {I : HI} {R : HR} {F : VF} {o : Int32} (hF : F (.inl (some (.int o))) sh I R) {l0 : Nat} {l1 : Int32} {l2 : Int32} (h0 : fX5_bestNext fu sh I R l0 l1 l2 = some o) : V K J 54 0 (ent 7 [.ref l0, .int l1, .int l2]) [] sh I R (0, 0) F := by
  unfold fX5_bestNext at h0
  obtain ⟨-, h1⟩ := gd h0; clear h0
  have hc0 : ((0 : Nat), (0 : Nat)).1 ≤ 0 ∧ ((0 : Nat), (0 : Nat)).2 ≤ 0 := ⟨Nat.le_refl _, Nat.le_refl _⟩
  show V K J 54 0 [some (.ref l0), some (.int l1), some (.int l2), none, none, none, none] [] sh I R (0, 0) F
  refine s_c (v := 0) (pc' := 1) (by decide +kernel) ?_
  refine s_is (i := 3) (pc' := 2) (L' := [some (.ref l0), some (.int l1), some (.int l2), some (.int 0), none, none, none]) (by decide +kernel) rfl rfl ?_
  refine s_c (v := 1000000) (pc' := 4) (by decide +kernel) ?_
  refine s_is (i := 4) (pc' := 6) (L' := [some (.ref l0), some (.int l1), some (.int l2), some (.int 0), some (.int 1000000), none, none]) (by decide +kernel) rfl rfl ?_
  refine s_c (v := 0) (pc' := 7) (by decide +kernel) ?_
  refine s_is (i := 5) (pc' := 9) (L' := [some (.ref l0), some (.int l1), some (.int l2), some (.int 0), some (.int 1000000), some (.int 0), none]) (by decide +kernel) rfl rfl ?_
  exact (vX5_bestNext_l9 hF fu) hc0 h1
set_option maxRecDepth 100000 in
set_option maxHeartbeats 4000000 in
theorem kX5_bestNext {K J : Nat → Nat} {fu : Nat} {sh : HS} {I : HI} {R : HR} {F : VF} {mi pc pc' X Y X' Y' : Nat} {L : VL} {rest : List Value} {c : Nat × Nat} {l0 : Nat} {l1 : Int32} {l2 : Int32} {ω : Type} {o : ω} {g : Int32 → Option ω} (hq : cQ mi pc 54 3 pc' X Y X' Y' = true) (hc : c.1 ≤ X ∧ c.2 ≤ Y) (hr : Nat.ble (catS rest) 8 = true) (h : (fX5_bestNext fu sh I R l0 l1 l2).bind g = some o) (kk : ∀ v c', (c'.1 ≤ X' ∧ c'.2 ≤ Y') → g v = some o → V K J mi pc' L ((.int v) :: rest) sh I R c' F) : V K J mi pc L (.int l2 :: .int l1 :: .ref l0 :: rest) sh I R c F := by
  obtain ⟨r, h1, h2⟩ := bnd h
  have hT : isT sh l0 4 = true := by unfold fX5_bestNext at h1; exact (gd h1).1
  have ml : mL 54 = 7 := by decide +kernel
  have mk : mK 54 = 1 := by decide +kernel
  have mc : mC 54 = 4 := by decide +kernel
  refine s_call (as := [.int l2, .int l1, .ref l0]) (G := fun o' sh' I' R' => o' = .inl (some (.int r)) ∧ sh' = sh ∧ I' = I ∧ R' = R) hq hc rfl hr (by rw [ml]; rfl) (Or.inl rfl) (fun _ => Or.inl ⟨by rw [mc]; decide, by rw [mc]; exact isT_iff.mp hT⟩) (fun z => absurd (mk.symm.trans z) (by decide)) (by rw [ml]; exact vX5_bestNext (F := fun o' sh' I' R' => o' = .inl (some (.int r)) ∧ sh' = sh ∧ I' = I ∧ R' = R) ⟨rfl, rfl, rfl, rfl⟩ h1) ?_ ?_ ?_
  · rintro sh' I' R' c' hc' ⟨g1, rfl, rfl, rfl⟩
    cases g1
  · rintro v' sh' I' R' c' hc' ⟨g1, rfl, rfl, rfl⟩
    cases g1
    exact kk _ _ hc' h2
  · rintro E' sh' I' R' ⟨g1, rfl, rfl, rfl⟩
    cases g1
set_option maxRecDepth 100000 in
set_option maxHeartbeats 4000000 in
def fX5_followBest_b11 (fu : Nat) (sh : HS) (R : HR) (k11 : HI → Nat → Int32 → Int32 → Int32 → Option HI) (I : HI) (l0 : Nat) (l1 : Int32) (l2 : Int32) (l3 : Int32) : Option HI :=
  (oI sh I l0 4 6).bind fun v2 =>
  if v2 ≤ l3 then
    (some I)
  else
    ((fX5_bestNext fu sh I R l0 l1 l2).bind fun v3 =>
    (oI sh I l0 4 5).bind fun v4 =>
    (fX5_priceOf fu sh I R l0 l2 v3).bind fun v5 =>
    (oP sh I l0 4 5 (v4 + v5)).bind fun v6 =>
    (oR sh R l0 4 4).bind fun v7 =>
    (oS sh v6 v7 l3 v3).bind fun v8 =>
    k11 v8 l0 (l1 ||| (1 <<< (v3 &&& 31))) v3 (l3 + 1))
set_option maxRecDepth 100000 in
set_option maxHeartbeats 4000000 in
theorem vX5_followBest_b11 {K J : Nat → Nat} {fu : Nat} {sh : HS} {R : HR} {F : VF} {o : HI} (hF : F (.inl none) sh o R) {k11 : HI → Nat → Int32 → Int32 → Int32 → Option HI} (hk11 : ∀ {I : HI} {l0 : Nat} {l1 : Int32} {l2 : Int32} {l3 : Int32} {d4 : Option Value} {c : Nat × Nat}, (c.1 ≤ 0 ∧ c.2 ≤ 0) → k11 I l0 l1 l2 l3 = some o → V K J 53 11 [some (.ref l0), some (.int l1), some (.int l2), some (.int l3), d4] [] sh I R c F) {I : HI} {l0 : Nat} {l1 : Int32} {l2 : Int32} {l3 : Int32} {d4 : Option Value} {c : Nat × Nat} (hc0 : c.1 ≤ 0 ∧ c.2 ≤ 0) (h0 : fX5_followBest_b11 fu sh R k11 I l0 l1 l2 l3 = some o) : V K J 53 11 [some (.ref l0), some (.int l1), some (.int l2), some (.int l3), d4] [] sh I R c F := by
  unfold fX5_followBest_b11 at h0
  refine s_il (i := 3) (pc' := 12) (by decide +kernel) rfl ?_
  refine s_rl (i := 0) (pc' := 13) (by decide +kernel) rfl ?_
  refine s_gI (t := 4) (j := 6) (ty := 0) (pc' := 16) (by decide +kernel) rfl h0 (fun v2 h1 => ?_); clear h0
  refine s_if (ins := .if_icmp .ge 51) (t := 67) (pc' := 19) (by decide +kernel) rfl rfl rfl h1 (fun p2 h2 => ?_) (fun p2 h2 => ?_) <;> clear h1
  · have e9 := Option.some.inj h2; subst e9
    exact s_rv (X := 0) (Y := 0) (by decide +kernel) hc0 hF
  · refine s_rl (i := 0) (pc' := 20) (by decide +kernel) rfl ?_
    refine s_il (i := 1) (pc' := 21) (by decide +kernel) rfl ?_
    refine s_il (i := 2) (pc' := 22) (by decide +kernel) rfl ?_
    refine kX5_bestNext (X := 0) (Y := 0) (X' := 0) (Y' := 0) (pc' := 25) (by decide +kernel) hc0 rfl h2 (fun v3 c hc1 h3 => ?_); clear h2 hc0
    refine s_is (i := 4) (pc' := 27) (L' := [some (.ref l0), some (.int l1), some (.int l2), some (.int l3), some (.int v3)]) (by decide +kernel) rfl rfl ?_
    refine s_rl (i := 0) (pc' := 28) (by decide +kernel) rfl ?_
    refine s_a (ins := .dup) (pc' := 29) (by decide +kernel) rfl ?_
    refine s_gI (t := 4) (j := 5) (ty := 0) (pc' := 32) (by decide +kernel) rfl h3 (fun v4 h4 => ?_); clear h3
    refine s_rl (i := 0) (pc' := 33) (by decide +kernel) rfl ?_
    refine s_il (i := 2) (pc' := 34) (by decide +kernel) rfl ?_
    refine s_il (i := 4) (pc' := 36) (by decide +kernel) rfl ?_
    refine kX5_priceOf (X := 0) (Y := 0) (X' := 0) (Y' := 0) (pc' := 39) (by decide +kernel) hc1 rfl h4 (fun v5 c hc2 h5 => ?_); clear h4 hc1
    refine s_a (ins := .iadd) (pc' := 40) (by decide +kernel) rfl ?_
    refine s_pI (t := 4) (j := 5) (ty := 0) (pc' := 43) (by decide +kernel) (Or.inl rfl) h5 (fun v6 h6 => ?_); clear h5
    refine s_rl (i := 0) (pc' := 44) (by decide +kernel) rfl ?_
    refine s_gR (t := 4) (j := 4) (pc' := 47) (by decide +kernel) h6 (fun v7 h7 => ?_); clear h6
    refine s_il (i := 3) (pc' := 48) (by decide +kernel) rfl ?_
    refine s_il (i := 4) (pc' := 50) (by decide +kernel) rfl ?_
    refine s_as (pc' := 51) (by decide +kernel) h7 (fun v8 h8 => ?_); clear h7
    refine s_il (i := 1) (pc' := 52) (by decide +kernel) rfl ?_
    refine s_c (v := 1) (pc' := 53) (by decide +kernel) ?_
    refine s_il (i := 4) (pc' := 55) (by decide +kernel) rfl ?_
    refine s_a (ins := .ishl) (pc' := 56) (by decide +kernel) rfl ?_
    refine s_a (ins := .ior) (pc' := 57) (by decide +kernel) rfl ?_
    refine s_is (i := 1) (pc' := 58) (L' := [some (.ref l0), some (.int (l1 ||| (1 <<< (v3 &&& 31)))), some (.int l2), some (.int l3), some (.int v3)]) (by decide +kernel) rfl rfl ?_
    refine s_il (i := 4) (pc' := 60) (by decide +kernel) rfl ?_
    refine s_is (i := 2) (pc' := 61) (L' := [some (.ref l0), some (.int (l1 ||| (1 <<< (v3 &&& 31)))), some (.int v3), some (.int l3), some (.int v3)]) (by decide +kernel) rfl rfl ?_
    refine s_inc (i := 3) (z := 1) (pc' := 64) (L' := [some (.ref l0), some (.int (l1 ||| (1 <<< (v3 &&& 31)))), some (.int v3), some (.int (l3 + 1)), some (.int v3)]) (by decide +kernel) rfl rfl rfl ?_
    refine s_go (t := 11) (by decide +kernel) ?_
    exact hk11 hc2 h8
set_option maxRecDepth 100000 in
set_option maxHeartbeats 4000000 in
def fX5_followBest_l11 (fu : Nat) (sh : HS) (R : HR) : Nat → HI → Nat → Int32 → Int32 → Int32 → Option HI
  | 0 => fun _ _ _ _ _ => none
  | n + 1 => fX5_followBest_b11 fu sh R (fX5_followBest_l11 fu sh R n)
set_option maxRecDepth 100000 in
set_option maxHeartbeats 4000000 in
theorem vX5_followBest_l11 {K J : Nat → Nat} {fu : Nat} {sh : HS} {R : HR} {F : VF} {o : HI} (hF : F (.inl none) sh o R) : ∀ (n : Nat) {I : HI} {l0 : Nat} {l1 : Int32} {l2 : Int32} {l3 : Int32} {d4 : Option Value} {c : Nat × Nat} (_ : c.1 ≤ 0 ∧ c.2 ≤ 0) (_ : fX5_followBest_l11 fu sh R n I l0 l1 l2 l3 = some o), V K J 53 11 [some (.ref l0), some (.int l1), some (.int l2), some (.int l3), d4] [] sh I R c F := by
  intro n
  induction n with
  | zero => exact fun _ h0 => nomatch h0
  | succ n ih => exact fun hc0 h0 => vX5_followBest_b11 hF ih hc0 h0
set_option maxRecDepth 100000 in
set_option maxHeartbeats 4000000 in
def fX5_followBest (fu : Nat) (sh : HS) (I : HI) (R : HR) (l0 : Nat) : Option HI :=
  if isT sh l0 4 = true then
    ((oP sh I l0 4 5 0).bind fun v1 =>
    (fX5_followBest_l11 fu sh R fu) v1 l0 0 (-1) 0)
  else none
set_option maxRecDepth 100000 in
set_option maxHeartbeats 4000000 in
theorem vX5_followBest {K J : Nat → Nat} {fu : Nat} {sh : HS} {I : HI} {R : HR} {F : VF} {o : HI} (hF : F (.inl none) sh o R) {l0 : Nat} (h0 : fX5_followBest fu sh I R l0 = some o) : V K J 53 0 (ent 5 [.ref l0]) [] sh I R (0, 0) F := by
  unfold fX5_followBest at h0
  obtain ⟨-, h1⟩ := gd h0; clear h0
  have hc0 : ((0 : Nat), (0 : Nat)).1 ≤ 0 ∧ ((0 : Nat), (0 : Nat)).2 ≤ 0 := ⟨Nat.le_refl _, Nat.le_refl _⟩
  show V K J 53 0 [some (.ref l0), none, none, none, none] [] sh I R (0, 0) F
  refine s_rl (i := 0) (pc' := 1) (by decide +kernel) rfl ?_
  refine s_c (v := 0) (pc' := 2) (by decide +kernel) ?_
  refine s_pI (t := 4) (j := 5) (ty := 0) (pc' := 5) (by decide +kernel) (Or.inl rfl) h1 (fun v1 h2 => ?_); clear h1
  refine s_c (v := 0) (pc' := 6) (by decide +kernel) ?_
  refine s_is (i := 1) (pc' := 7) (L' := [some (.ref l0), some (.int 0), none, none, none]) (by decide +kernel) rfl rfl ?_
  refine s_c (v := (-1)) (pc' := 8) (by decide +kernel) ?_
  refine s_is (i := 2) (pc' := 9) (L' := [some (.ref l0), some (.int 0), some (.int (-1)), none, none]) (by decide +kernel) rfl rfl ?_
  refine s_c (v := 0) (pc' := 10) (by decide +kernel) ?_
  refine s_is (i := 3) (pc' := 11) (L' := [some (.ref l0), some (.int 0), some (.int (-1)), some (.int 0), none]) (by decide +kernel) rfl rfl ?_
  exact (vX5_followBest_l11 hF fu) hc0 h2
set_option maxRecDepth 100000 in
set_option maxHeartbeats 4000000 in
theorem kX5_followBest {K J : Nat → Nat} {fu : Nat} {sh : HS} {I : HI} {R : HR} {F : VF} {mi pc pc' X Y X' Y' : Nat} {L : VL} {rest : List Value} {c : Nat × Nat} {l0 : Nat} {ω : Type} {o : ω} {g : HI → Option ω} (hq : cQ mi pc 53 1 pc' X Y X' Y' = true) (hc : c.1 ≤ X ∧ c.2 ≤ Y) (hr : Nat.ble (catS rest) 8 = true) (h : (fX5_followBest fu sh I R l0).bind g = some o) (kk : ∀ w c', (c'.1 ≤ X' ∧ c'.2 ≤ Y') → g w = some o → V K J mi pc' L (rest) sh w R c' F) : V K J mi pc L (.ref l0 :: rest) sh I R c F := by
  obtain ⟨r, h1, h2⟩ := bnd h
  have hT : isT sh l0 4 = true := by unfold fX5_followBest at h1; exact (gd h1).1
  have ml : mL 53 = 5 := by decide +kernel
  have mk : mK 53 = 1 := by decide +kernel
  have mc : mC 53 = 4 := by decide +kernel
  refine s_call (as := [.ref l0]) (G := fun o' sh' I' R' => o' = .inl none ∧ sh' = sh ∧ I' = r ∧ R' = R) hq hc rfl hr (by rw [ml]; rfl) (Or.inl rfl) (fun _ => Or.inl ⟨by rw [mc]; decide, by rw [mc]; exact isT_iff.mp hT⟩) (fun z => absurd (mk.symm.trans z) (by decide)) (by rw [ml]; exact vX5_followBest (F := fun o' sh' I' R' => o' = .inl none ∧ sh' = sh ∧ I' = r ∧ R' = R) ⟨rfl, rfl, rfl, rfl⟩ h1) ?_ ?_ ?_
  · rintro sh' I' R' c' hc' ⟨g1, rfl, rfl, rfl⟩
    cases g1
    exact kk _ _ hc' h2
  · rintro v' sh' I' R' c' hc' ⟨g1, rfl, rfl, rfl⟩
    cases g1
  · rintro E' sh' I' R' ⟨g1, rfl, rfl, rfl⟩
    cases g1
set_option maxRecDepth 100000 in
set_option maxHeartbeats 4000000 in
def fX5_find_b78 (fu : Nat) (sh : HS) (R : HR) (k30 : HI → Nat → Int32 → Int32 → Int32 → Option HI) (k84 : HI → Nat → Int32 → Int32 → Option HI) (I : HI) (l0 : Nat) (l2 : Int32) (l3 : Int32) (l4 : Int32) : Option HI :=
  k30 I l0 l2 l3 (l4 + 1)
set_option maxRecDepth 100000 in
set_option maxHeartbeats 4000000 in
theorem vX5_find_b78 {K J : Nat → Nat} {fu : Nat} {sh : HS} {R : HR} {F : VF} {o : HI} (hF : F (.inl none) sh o R) {k30 : HI → Nat → Int32 → Int32 → Int32 → Option HI} {k84 : HI → Nat → Int32 → Int32 → Option HI} (hk30 : ∀ {I : HI} {l0 : Nat} {l2 : Int32} {l3 : Int32} {l4 : Int32} {d1 : Option Value} {c : Nat × Nat}, (c.1 ≤ 0 ∧ c.2 ≤ 0) → k30 I l0 l2 l3 l4 = some o → V K J 51 30 [some (.ref l0), d1, some (.int l2), some (.int l3), some (.int l4)] [] sh I R c F) (hk84 : ∀ {I : HI} {l0 : Nat} {l2 : Int32} {l3 : Int32} {d1 d4 : Option Value} {c : Nat × Nat}, (c.1 ≤ 0 ∧ c.2 ≤ 0) → k84 I l0 l2 l3 = some o → V K J 51 84 [some (.ref l0), d1, some (.int l2), some (.int l3), d4] [] sh I R c F) {I : HI} {l0 : Nat} {l2 : Int32} {l3 : Int32} {l4 : Int32} {d1 : Option Value} {c : Nat × Nat} (hc0 : c.1 ≤ 0 ∧ c.2 ≤ 0) (h0 : fX5_find_b78 fu sh R k30 k84 I l0 l2 l3 l4 = some o) : V K J 51 78 [some (.ref l0), d1, some (.int l2), some (.int l3), some (.int l4)] [] sh I R c F := by
  unfold fX5_find_b78 at h0
  refine s_inc (i := 4) (z := 1) (pc' := 81) (L' := [some (.ref l0), d1, some (.int l2), some (.int l3), some (.int (l4 + 1))]) (by decide +kernel) rfl rfl rfl ?_
  refine s_go (t := 30) (by decide +kernel) ?_
  exact hk30 hc0 h0
set_option maxRecDepth 100000 in
set_option maxHeartbeats 4000000 in
def fX5_find_b77 (fu : Nat) (sh : HS) (R : HR) (k30 : HI → Nat → Int32 → Int32 → Int32 → Option HI) (k84 : HI → Nat → Int32 → Int32 → Option HI) (I : HI) (l0 : Nat) (l2 : Int32) (l3 : Int32) (l4 : Int32) (s0 : Int32) (s1 : Int32) (s2 : Nat) : Option HI :=
  (oS sh I s2 s1 s0).bind fun v10 =>
  (fX5_find_b78 fu sh R k30 k84) v10 l0 l2 l3 l4
set_option maxRecDepth 100000 in
set_option maxHeartbeats 4000000 in
theorem vX5_find_b77 {K J : Nat → Nat} {fu : Nat} {sh : HS} {R : HR} {F : VF} {o : HI} (hF : F (.inl none) sh o R) {k30 : HI → Nat → Int32 → Int32 → Int32 → Option HI} {k84 : HI → Nat → Int32 → Int32 → Option HI} (hk30 : ∀ {I : HI} {l0 : Nat} {l2 : Int32} {l3 : Int32} {l4 : Int32} {d1 : Option Value} {c : Nat × Nat}, (c.1 ≤ 0 ∧ c.2 ≤ 0) → k30 I l0 l2 l3 l4 = some o → V K J 51 30 [some (.ref l0), d1, some (.int l2), some (.int l3), some (.int l4)] [] sh I R c F) (hk84 : ∀ {I : HI} {l0 : Nat} {l2 : Int32} {l3 : Int32} {d1 d4 : Option Value} {c : Nat × Nat}, (c.1 ≤ 0 ∧ c.2 ≤ 0) → k84 I l0 l2 l3 = some o → V K J 51 84 [some (.ref l0), d1, some (.int l2), some (.int l3), d4] [] sh I R c F) {I : HI} {l0 : Nat} {l2 : Int32} {l3 : Int32} {l4 : Int32} {s0 : Int32} {s1 : Int32} {s2 : Nat} {d1 : Option Value} {c : Nat × Nat} (hc0 : c.1 ≤ 0 ∧ c.2 ≤ 0) (h0 : fX5_find_b77 fu sh R k30 k84 I l0 l2 l3 l4 s0 s1 s2 = some o) : V K J 51 77 [some (.ref l0), d1, some (.int l2), some (.int l3), some (.int l4)] [.int s0, .int s1, .ref s2] sh I R c F := by
  unfold fX5_find_b77 at h0
  refine s_as (pc' := 78) (by decide +kernel) h0 (fun v10 h1 => ?_); clear h0
  exact (vX5_find_b78 hF hk30 hk84) hc0 h1
set_option maxRecDepth 100000 in
set_option maxHeartbeats 4000000 in
def fX5_find_b30 (fu : Nat) (sh : HS) (R : HR) (k30 : HI → Nat → Int32 → Int32 → Int32 → Option HI) (k84 : HI → Nat → Int32 → Int32 → Option HI) (I : HI) (l0 : Nat) (l2 : Int32) (l3 : Int32) (l4 : Int32) : Option HI :=
  (oI sh I l0 4 6).bind fun v5 =>
  if v5 ≤ l4 then
    (k84 I l0 l2 l3)
  else
    ((fX10_holds fu sh I R l3 l4).bind fun v6 =>
    if v6 = 0 then
      ((fX5_find_b78 fu sh R k30 k84) I l0 l2 l3 l4)
    else
      ((oR sh R l0 4 3).bind fun v7 =>
      (oI sh I l0 4 0).bind fun v8 =>
      if l3 = l2 then
        ((fX5_find_b77 fu sh R k30 k84) I l0 l2 l3 l4 0 ((l3 * v8) + l4) v7)
      else
        ((fX5_leastRest fu sh I R l0 l3 l4).bind fun v9 =>
        (fX5_find_b77 fu sh R k30 k84) I l0 l2 l3 l4 v9 ((l3 * v8) + l4) v7)))
set_option maxRecDepth 100000 in
set_option maxHeartbeats 4000000 in
theorem vX5_find_b30 {K J : Nat → Nat} {fu : Nat} {sh : HS} {R : HR} {F : VF} {o : HI} (hF : F (.inl none) sh o R) {k30 : HI → Nat → Int32 → Int32 → Int32 → Option HI} {k84 : HI → Nat → Int32 → Int32 → Option HI} (hk30 : ∀ {I : HI} {l0 : Nat} {l2 : Int32} {l3 : Int32} {l4 : Int32} {d1 : Option Value} {c : Nat × Nat}, (c.1 ≤ 0 ∧ c.2 ≤ 0) → k30 I l0 l2 l3 l4 = some o → V K J 51 30 [some (.ref l0), d1, some (.int l2), some (.int l3), some (.int l4)] [] sh I R c F) (hk84 : ∀ {I : HI} {l0 : Nat} {l2 : Int32} {l3 : Int32} {d1 d4 : Option Value} {c : Nat × Nat}, (c.1 ≤ 0 ∧ c.2 ≤ 0) → k84 I l0 l2 l3 = some o → V K J 51 84 [some (.ref l0), d1, some (.int l2), some (.int l3), d4] [] sh I R c F) {I : HI} {l0 : Nat} {l2 : Int32} {l3 : Int32} {l4 : Int32} {d1 : Option Value} {c : Nat × Nat} (hc0 : c.1 ≤ 0 ∧ c.2 ≤ 0) (h0 : fX5_find_b30 fu sh R k30 k84 I l0 l2 l3 l4 = some o) : V K J 51 30 [some (.ref l0), d1, some (.int l2), some (.int l3), some (.int l4)] [] sh I R c F := by
  unfold fX5_find_b30 at h0
  refine s_il (i := 4) (pc' := 32) (by decide +kernel) rfl ?_
  refine s_rl (i := 0) (pc' := 33) (by decide +kernel) rfl ?_
  refine s_gI (t := 4) (j := 6) (ty := 0) (pc' := 36) (by decide +kernel) rfl h0 (fun v5 h1 => ?_); clear h0
  refine s_if (ins := .if_icmp .ge 48) (t := 84) (pc' := 39) (by decide +kernel) rfl rfl rfl h1 (fun p2 h2 => ?_) (fun p2 h2 => ?_) <;> clear h1
  · exact hk84 hc0 h2
  · refine s_il (i := 3) (pc' := 40) (by decide +kernel) rfl ?_
    refine s_il (i := 4) (pc' := 42) (by decide +kernel) rfl ?_
    refine kX10_holds (X := 0) (Y := 0) (X' := 0) (Y' := 0) (pc' := 45) (by decide +kernel) hc0 rfl h2 (fun v6 c hc1 h3 => ?_); clear h2 hc0
    refine s_if (ins := .ifCond .eq 33) (t := 78) (pc' := 48) (by decide +kernel) rfl rfl rfl h3 (fun p4 h4 => ?_) (fun p4 h4 => ?_) <;> clear h3
    · exact (vX5_find_b78 hF hk30 hk84) hc1 h4
    · refine s_rl (i := 0) (pc' := 49) (by decide +kernel) rfl ?_
      refine s_gR (t := 4) (j := 3) (pc' := 52) (by decide +kernel) h4 (fun v7 h5 => ?_); clear h4
      refine s_il (i := 3) (pc' := 53) (by decide +kernel) rfl ?_
      refine s_rl (i := 0) (pc' := 54) (by decide +kernel) rfl ?_
      refine s_gI (t := 4) (j := 0) (ty := 0) (pc' := 57) (by decide +kernel) rfl h5 (fun v8 h6 => ?_); clear h5
      refine s_a (ins := .imul) (pc' := 58) (by decide +kernel) rfl ?_
      refine s_il (i := 4) (pc' := 60) (by decide +kernel) rfl ?_
      refine s_a (ins := .iadd) (pc' := 61) (by decide +kernel) rfl ?_
      refine s_il (i := 3) (pc' := 62) (by decide +kernel) rfl ?_
      refine s_il (i := 2) (pc' := 63) (by decide +kernel) rfl ?_
      refine s_ifn (ins := .if_icmp .ne 7) (t := 70) (pc' := 66) (by decide +kernel) rfl rfl rfl h6 (fun p7 h7 => ?_) (fun p7 h7 => ?_) <;> clear h6
      · refine s_rl (i := 0) (pc' := 71) (by decide +kernel) rfl ?_
        refine s_il (i := 3) (pc' := 72) (by decide +kernel) rfl ?_
        refine s_il (i := 4) (pc' := 74) (by decide +kernel) rfl ?_
        refine kX5_leastRest (X := 0) (Y := 0) (X' := 0) (Y' := 0) (pc' := 77) (by decide +kernel) hc1 rfl h7 (fun v9 c hc2 h8 => ?_); clear h7 hc1
        exact (vX5_find_b77 hF hk30 hk84) hc2 h8
      · refine s_c (v := 0) (pc' := 67) (by decide +kernel) ?_
        refine s_go (t := 77) (by decide +kernel) ?_
        exact (vX5_find_b77 hF hk30 hk84) hc1 h7
set_option maxRecDepth 100000 in
set_option maxHeartbeats 4000000 in
def fX5_find_l30 (fu : Nat) (sh : HS) (R : HR) (k84 : HI → Nat → Int32 → Int32 → Option HI) : Nat → HI → Nat → Int32 → Int32 → Int32 → Option HI
  | 0 => fun _ _ _ _ _ => none
  | n + 1 => fX5_find_b30 fu sh R (fX5_find_l30 fu sh R k84 n) k84
set_option maxRecDepth 100000 in
set_option maxHeartbeats 4000000 in
theorem vX5_find_l30 {K J : Nat → Nat} {fu : Nat} {sh : HS} {R : HR} {F : VF} {o : HI} (hF : F (.inl none) sh o R) {k84 : HI → Nat → Int32 → Int32 → Option HI} (hk84 : ∀ {I : HI} {l0 : Nat} {l2 : Int32} {l3 : Int32} {d1 d4 : Option Value} {c : Nat × Nat}, (c.1 ≤ 0 ∧ c.2 ≤ 0) → k84 I l0 l2 l3 = some o → V K J 51 84 [some (.ref l0), d1, some (.int l2), some (.int l3), d4] [] sh I R c F) : ∀ (n : Nat) {I : HI} {l0 : Nat} {l2 : Int32} {l3 : Int32} {l4 : Int32} {d1 : Option Value} {c : Nat × Nat} (_ : c.1 ≤ 0 ∧ c.2 ≤ 0) (_ : fX5_find_l30 fu sh R k84 n I l0 l2 l3 l4 = some o), V K J 51 30 [some (.ref l0), d1, some (.int l2), some (.int l3), some (.int l4)] [] sh I R c F := by
  intro n
  induction n with
  | zero => exact fun _ h0 => nomatch h0
  | succ n ih => exact fun hc0 h0 => vX5_find_b30 hF ih hk84 hc0 h0
set_option maxRecDepth 100000 in
set_option maxHeartbeats 4000000 in
def fX5_find_b84 (fu : Nat) (sh : HS) (R : HR) (k23 : HI → Nat → Int32 → Int32 → Option HI) (I : HI) (l0 : Nat) (l2 : Int32) (l3 : Int32) : Option HI :=
  k23 I l0 l2 (l3 + (-1))
set_option maxRecDepth 100000 in
set_option maxHeartbeats 4000000 in
theorem vX5_find_b84 {K J : Nat → Nat} {fu : Nat} {sh : HS} {R : HR} {F : VF} {o : HI} (hF : F (.inl none) sh o R) {k23 : HI → Nat → Int32 → Int32 → Option HI} (hk23 : ∀ {I : HI} {l0 : Nat} {l2 : Int32} {l3 : Int32} {d1 d4 : Option Value} {c : Nat × Nat}, (c.1 ≤ 0 ∧ c.2 ≤ 0) → k23 I l0 l2 l3 = some o → V K J 51 23 [some (.ref l0), d1, some (.int l2), some (.int l3), d4] [] sh I R c F) {I : HI} {l0 : Nat} {l2 : Int32} {l3 : Int32} {d1 d4 : Option Value} {c : Nat × Nat} (hc0 : c.1 ≤ 0 ∧ c.2 ≤ 0) (h0 : fX5_find_b84 fu sh R k23 I l0 l2 l3 = some o) : V K J 51 84 [some (.ref l0), d1, some (.int l2), some (.int l3), d4] [] sh I R c F := by
  unfold fX5_find_b84 at h0
  refine s_inc (i := 3) (z := (-1)) (pc' := 87) (L' := [some (.ref l0), d1, some (.int l2), some (.int (l3 + (-1))), d4]) (by decide +kernel) rfl rfl rfl ?_
  refine s_go (t := 23) (by decide +kernel) ?_
  exact hk23 hc0 h0
set_option maxRecDepth 100000 in
set_option maxHeartbeats 4000000 in
def fX5_find_b23 (fu : Nat) (sh : HS) (R : HR) (k23 : HI → Nat → Int32 → Int32 → Option HI) (I : HI) (l0 : Nat) (l2 : Int32) (l3 : Int32) : Option HI :=
  if l3 ≤ 0 then
    ((fX5_followBest fu sh I R l0).bind fun w4 =>
    some w4)
  else
    ((fX5_find_l30 fu sh R (fX5_find_b84 fu sh R k23) fu) I l0 l2 l3 0)
set_option maxRecDepth 100000 in
set_option maxHeartbeats 4000000 in
theorem vX5_find_b23 {K J : Nat → Nat} {fu : Nat} {sh : HS} {R : HR} {F : VF} {o : HI} (hF : F (.inl none) sh o R) {k23 : HI → Nat → Int32 → Int32 → Option HI} (hk23 : ∀ {I : HI} {l0 : Nat} {l2 : Int32} {l3 : Int32} {d1 d4 : Option Value} {c : Nat × Nat}, (c.1 ≤ 0 ∧ c.2 ≤ 0) → k23 I l0 l2 l3 = some o → V K J 51 23 [some (.ref l0), d1, some (.int l2), some (.int l3), d4] [] sh I R c F) {I : HI} {l0 : Nat} {l2 : Int32} {l3 : Int32} {d1 d4 : Option Value} {c : Nat × Nat} (hc0 : c.1 ≤ 0 ∧ c.2 ≤ 0) (h0 : fX5_find_b23 fu sh R k23 I l0 l2 l3 = some o) : V K J 51 23 [some (.ref l0), d1, some (.int l2), some (.int l3), d4] [] sh I R c F := by
  unfold fX5_find_b23 at h0
  refine s_il (i := 3) (pc' := 24) (by decide +kernel) rfl ?_
  refine s_if (ins := .ifCond .le 66) (t := 90) (pc' := 27) (by decide +kernel) rfl rfl rfl h0 (fun p1 h1 => ?_) (fun p1 h1 => ?_) <;> clear h0
  · refine s_rl (i := 0) (pc' := 91) (by decide +kernel) rfl ?_
    refine kX5_followBest (X := 0) (Y := 0) (X' := 0) (Y' := 0) (pc' := 94) (by decide +kernel) hc0 rfl h1 (fun w4 c hc1 h2 => ?_); clear h1 hc0
    have e9 := Option.some.inj h2; subst e9
    exact s_rv (X := 0) (Y := 0) (by decide +kernel) hc1 hF
  · refine s_c (v := 0) (pc' := 28) (by decide +kernel) ?_
    refine s_is (i := 4) (pc' := 30) (L' := [some (.ref l0), d1, some (.int l2), some (.int l3), some (.int 0)]) (by decide +kernel) rfl rfl ?_
    exact (vX5_find_l30 hF (vX5_find_b84 hF hk23) fu) hc0 h1
set_option maxRecDepth 100000 in
set_option maxHeartbeats 4000000 in
def fX5_find_l23 (fu : Nat) (sh : HS) (R : HR) : Nat → HI → Nat → Int32 → Int32 → Option HI
  | 0 => fun _ _ _ _ => none
  | n + 1 => fX5_find_b23 fu sh R (fX5_find_l23 fu sh R n)
set_option maxRecDepth 100000 in
set_option maxHeartbeats 4000000 in
theorem vX5_find_l23 {K J : Nat → Nat} {fu : Nat} {sh : HS} {R : HR} {F : VF} {o : HI} (hF : F (.inl none) sh o R) : ∀ (n : Nat) {I : HI} {l0 : Nat} {l2 : Int32} {l3 : Int32} {d1 d4 : Option Value} {c : Nat × Nat} (_ : c.1 ≤ 0 ∧ c.2 ≤ 0) (_ : fX5_find_l23 fu sh R n I l0 l2 l3 = some o), V K J 51 23 [some (.ref l0), d1, some (.int l2), some (.int l3), d4] [] sh I R c F := by
  intro n
  induction n with
  | zero => exact fun _ h0 => nomatch h0
  | succ n ih => exact fun hc0 h0 => vX5_find_b23 hF ih hc0 h0
set_option maxRecDepth 100000 in
set_option maxHeartbeats 4000000 in
def fX5_find (fu : Nat) (sh : HS) (I : HI) (R : HR) (l0 : Nat) (l1 : Int32) : Option HI :=
  if isT sh l0 4 = true then
    ((oI sh I l0 4 0).bind fun v1 =>
    (oP sh I l0 4 6 (iMin l1 v1)).bind fun v2 =>
    (oI sh v2 l0 4 6).bind fun v3 =>
    (fX5_find_l23 fu sh R fu) v2 l0 ((1 <<< (v3 &&& 31)) - 1) ((1 <<< (v3 &&& 31)) - 1))
  else none
set_option maxRecDepth 100000 in
set_option maxHeartbeats 4000000 in
theorem vX5_find {K J : Nat → Nat} {fu : Nat} {sh : HS} {I : HI} {R : HR} {F : VF} {o : HI} (hF : F (.inl none) sh o R) {l0 : Nat} {l1 : Int32} (h0 : fX5_find fu sh I R l0 l1 = some o) : V K J 51 0 (ent 5 [.ref l0, .int l1]) [] sh I R (0, 0) F := by
  unfold fX5_find at h0
  obtain ⟨-, h1⟩ := gd h0; clear h0
  have hc0 : ((0 : Nat), (0 : Nat)).1 ≤ 0 ∧ ((0 : Nat), (0 : Nat)).2 ≤ 0 := ⟨Nat.le_refl _, Nat.le_refl _⟩
  show V K J 51 0 [some (.ref l0), some (.int l1), none, none, none] [] sh I R (0, 0) F
  refine s_rl (i := 0) (pc' := 1) (by decide +kernel) rfl ?_
  refine s_il (i := 1) (pc' := 2) (by decide +kernel) rfl ?_
  refine s_rl (i := 0) (pc' := 3) (by decide +kernel) rfl ?_
  refine s_gI (t := 4) (j := 0) (ty := 0) (pc' := 6) (by decide +kernel) rfl h1 (fun v1 h2 => ?_); clear h1
  refine s_min (X := 0) (Y := 0) (pc' := 9) (by decide +kernel) hc0 rfl ?_
  refine s_pI (t := 4) (j := 6) (ty := 0) (pc' := 12) (by decide +kernel) (Or.inl rfl) h2 (fun v2 h3 => ?_); clear h2
  refine s_c (v := 1) (pc' := 13) (by decide +kernel) ?_
  refine s_rl (i := 0) (pc' := 14) (by decide +kernel) rfl ?_
  refine s_gI (t := 4) (j := 6) (ty := 0) (pc' := 17) (by decide +kernel) rfl h3 (fun v3 h4 => ?_); clear h3
  refine s_a (ins := .ishl) (pc' := 18) (by decide +kernel) rfl ?_
  refine s_c (v := 1) (pc' := 19) (by decide +kernel) ?_
  refine s_a (ins := .isub) (pc' := 20) (by decide +kernel) rfl ?_
  refine s_is (i := 2) (pc' := 21) (L' := [some (.ref l0), some (.int l1), some (.int ((1 <<< (v3 &&& 31)) - 1)), none, none]) (by decide +kernel) rfl rfl ?_
  refine s_il (i := 2) (pc' := 22) (by decide +kernel) rfl ?_
  refine s_is (i := 3) (pc' := 23) (L' := [some (.ref l0), some (.int l1), some (.int ((1 <<< (v3 &&& 31)) - 1)), some (.int ((1 <<< (v3 &&& 31)) - 1)), none]) (by decide +kernel) rfl rfl ?_
  exact (vX5_find_l23 hF fu) hc0 h4
set_option maxRecDepth 100000 in
set_option maxHeartbeats 4000000 in
theorem kX5_find {K J : Nat → Nat} {fu : Nat} {sh : HS} {I : HI} {R : HR} {F : VF} {mi pc pc' X Y X' Y' : Nat} {L : VL} {rest : List Value} {c : Nat × Nat} {l0 : Nat} {l1 : Int32} {ω : Type} {o : ω} {g : HI → Option ω} (hq : cQ mi pc 51 2 pc' X Y X' Y' = true) (hc : c.1 ≤ X ∧ c.2 ≤ Y) (hr : Nat.ble (catS rest) 8 = true) (h : (fX5_find fu sh I R l0 l1).bind g = some o) (kk : ∀ w c', (c'.1 ≤ X' ∧ c'.2 ≤ Y') → g w = some o → V K J mi pc' L (rest) sh w R c' F) : V K J mi pc L (.int l1 :: .ref l0 :: rest) sh I R c F := by
  obtain ⟨r, h1, h2⟩ := bnd h
  have hT : isT sh l0 4 = true := by unfold fX5_find at h1; exact (gd h1).1
  have ml : mL 51 = 5 := by decide +kernel
  have mk : mK 51 = 1 := by decide +kernel
  have mc : mC 51 = 4 := by decide +kernel
  refine s_call (as := [.int l1, .ref l0]) (G := fun o' sh' I' R' => o' = .inl none ∧ sh' = sh ∧ I' = r ∧ R' = R) hq hc rfl hr (by rw [ml]; rfl) (Or.inl rfl) (fun _ => Or.inl ⟨by rw [mc]; decide, by rw [mc]; exact isT_iff.mp hT⟩) (fun z => absurd (mk.symm.trans z) (by decide)) (by rw [ml]; exact vX5_find (F := fun o' sh' I' R' => o' = .inl none ∧ sh' = sh ∧ I' = r ∧ R' = R) ⟨rfl, rfl, rfl, rfl⟩ h1) ?_ ?_ ?_
  · rintro sh' I' R' c' hc' ⟨g1, rfl, rfl, rfl⟩
    cases g1
    exact kk _ _ hc' h2
  · rintro v' sh' I' R' c' hc' ⟨g1, rfl, rfl, rfl⟩
    cases g1
  · rintro E' sh' I' R' ⟨g1, rfl, rfl, rfl⟩
    cases g1
set_option maxRecDepth 100000 in
set_option maxHeartbeats 4000000 in
def fX7_group_b27 (fu : Nat) (sh : HS) (R : HR) (k27 : HI → Nat → Int32 → Nat → Nat → Int32 → Int32 → Nat → Int32 → Option (Int32 × HI)) (k59 : HI → Nat → Int32 → Nat → Nat → Int32 → Int32 → Int32 → Option (Int32 × HI)) (I : HI) (l0 : Nat) (l1 : Int32) (l2 : Nat) (l3 : Nat) (l4 : Int32) (l5 : Int32) (l6 : Nat) (l7 : Int32) : Option (Int32 × HI) :=
  if l4 ≤ l7 then
    (k59 I l0 l1 l2 l3 l4 l5 l7)
  else
    ((oR sh R l0 0 6).bind fun v4 =>
    (oA sh I l3 l7).bind fun v5 =>
    (oB sh R v4 7 v5).bind fun v6 =>
    (fX9_areNear fu sh I R l0 l6 v6 l1).bind fun v7 =>
    if v7 = 0 then
      (k27 I l0 l1 l2 l3 l4 l5 l6 (l7 + 1))
    else
      (k59 I l0 l1 l2 l3 l4 l5 l7))
set_option maxRecDepth 100000 in
set_option maxHeartbeats 4000000 in
theorem vX7_group_b27 {K J : Nat → Nat} {fu : Nat} {sh : HS} {R : HR} {F : VF} {o : (Int32 × HI)} (hF : F (.inl (some (.int o.1))) sh o.2 R) {k27 : HI → Nat → Int32 → Nat → Nat → Int32 → Int32 → Nat → Int32 → Option (Int32 × HI)} {k59 : HI → Nat → Int32 → Nat → Nat → Int32 → Int32 → Int32 → Option (Int32 × HI)} (hk27 : ∀ {I : HI} {l0 : Nat} {l1 : Int32} {l2 : Nat} {l3 : Nat} {l4 : Int32} {l5 : Int32} {l6 : Nat} {l7 : Int32}  {c : Nat × Nat}, (c.1 ≤ 0 ∧ c.2 ≤ 0) → k27 I l0 l1 l2 l3 l4 l5 l6 l7 = some o → V K J 63 27 [some (.ref l0), some (.int l1), some (.ref l2), some (.ref l3), some (.int l4), some (.int l5), some (.ref l6), some (.int l7)] [] sh I R c F) (hk59 : ∀ {I : HI} {l0 : Nat} {l1 : Int32} {l2 : Nat} {l3 : Nat} {l4 : Int32} {l5 : Int32} {l7 : Int32} {d6 : Option Value} {c : Nat × Nat}, (c.1 ≤ 0 ∧ c.2 ≤ 0) → k59 I l0 l1 l2 l3 l4 l5 l7 = some o → V K J 63 59 [some (.ref l0), some (.int l1), some (.ref l2), some (.ref l3), some (.int l4), some (.int l5), d6, some (.int l7)] [] sh I R c F) {I : HI} {l0 : Nat} {l1 : Int32} {l2 : Nat} {l3 : Nat} {l4 : Int32} {l5 : Int32} {l6 : Nat} {l7 : Int32} {c : Nat × Nat} (hc0 : c.1 ≤ 0 ∧ c.2 ≤ 0) (h0 : fX7_group_b27 fu sh R k27 k59 I l0 l1 l2 l3 l4 l5 l6 l7 = some o) : V K J 63 27 [some (.ref l0), some (.int l1), some (.ref l2), some (.ref l3), some (.int l4), some (.int l5), some (.ref l6), some (.int l7)] [] sh I R c F := by
  unfold fX7_group_b27 at h0
  refine s_il (i := 7) (pc' := 29) (by decide +kernel) rfl ?_
  refine s_il (i := 4) (pc' := 31) (by decide +kernel) rfl ?_
  refine s_if (ins := .if_icmp .ge 28) (t := 59) (pc' := 34) (by decide +kernel) rfl rfl rfl h0 (fun p1 h1 => ?_) (fun p1 h1 => ?_) <;> clear h0
  · exact hk59 hc0 h1
  · refine s_rl (i := 0) (pc' := 35) (by decide +kernel) rfl ?_
    refine s_rl (i := 6) (pc' := 37) (by decide +kernel) rfl ?_
    refine s_rl (i := 0) (pc' := 38) (by decide +kernel) rfl ?_
    refine s_gR (t := 0) (j := 6) (pc' := 41) (by decide +kernel) h1 (fun v4 h2 => ?_); clear h1
    refine s_rl (i := 3) (pc' := 42) (by decide +kernel) rfl ?_
    refine s_il (i := 7) (pc' := 44) (by decide +kernel) rfl ?_
    refine s_al (pc' := 45) (by decide +kernel) h2 (fun v5 h3 => ?_); clear h2
    refine s_aal (t := 7) (pc' := 46) (by decide +kernel) h3 (fun v6 h4 => ?_); clear h3
    refine s_il (i := 1) (pc' := 47) (by decide +kernel) rfl ?_
    refine kX9_areNear (X := 0) (Y := 0) (X' := 0) (Y' := 0) (pc' := 50) (by decide +kernel) hc0 rfl h4 (fun v7 c hc1 h5 => ?_); clear h4 hc0
    refine s_ifn (ins := .ifCond .ne 9) (t := 59) (pc' := 53) (by decide +kernel) rfl rfl rfl h5 (fun p6 h6 => ?_) (fun p6 h6 => ?_) <;> clear h5
    · exact hk59 hc1 h6
    · refine s_inc (i := 7) (z := 1) (pc' := 56) (L' := [some (.ref l0), some (.int l1), some (.ref l2), some (.ref l3), some (.int l4), some (.int l5), some (.ref l6), some (.int (l7 + 1))]) (by decide +kernel) rfl rfl rfl ?_
      refine s_go (t := 27) (by decide +kernel) ?_
      exact hk27 hc1 h6
set_option maxRecDepth 100000 in
set_option maxHeartbeats 4000000 in
def fX7_group_l27 (fu : Nat) (sh : HS) (R : HR) (k59 : HI → Nat → Int32 → Nat → Nat → Int32 → Int32 → Int32 → Option (Int32 × HI)) : Nat → HI → Nat → Int32 → Nat → Nat → Int32 → Int32 → Nat → Int32 → Option (Int32 × HI)
  | 0 => fun _ _ _ _ _ _ _ _ _ => none
  | n + 1 => fX7_group_b27 fu sh R (fX7_group_l27 fu sh R k59 n) k59
set_option maxRecDepth 100000 in
set_option maxHeartbeats 4000000 in
theorem vX7_group_l27 {K J : Nat → Nat} {fu : Nat} {sh : HS} {R : HR} {F : VF} {o : (Int32 × HI)} (hF : F (.inl (some (.int o.1))) sh o.2 R) {k59 : HI → Nat → Int32 → Nat → Nat → Int32 → Int32 → Int32 → Option (Int32 × HI)} (hk59 : ∀ {I : HI} {l0 : Nat} {l1 : Int32} {l2 : Nat} {l3 : Nat} {l4 : Int32} {l5 : Int32} {l7 : Int32} {d6 : Option Value} {c : Nat × Nat}, (c.1 ≤ 0 ∧ c.2 ≤ 0) → k59 I l0 l1 l2 l3 l4 l5 l7 = some o → V K J 63 59 [some (.ref l0), some (.int l1), some (.ref l2), some (.ref l3), some (.int l4), some (.int l5), d6, some (.int l7)] [] sh I R c F) : ∀ (n : Nat) {I : HI} {l0 : Nat} {l1 : Int32} {l2 : Nat} {l3 : Nat} {l4 : Int32} {l5 : Int32} {l6 : Nat} {l7 : Int32} {c : Nat × Nat} (_ : c.1 ≤ 0 ∧ c.2 ≤ 0) (_ : fX7_group_l27 fu sh R k59 n I l0 l1 l2 l3 l4 l5 l6 l7 = some o), V K J 63 27 [some (.ref l0), some (.int l1), some (.ref l2), some (.ref l3), some (.int l4), some (.int l5), some (.ref l6), some (.int l7)] [] sh I R c F := by
  intro n
  induction n with
  | zero => exact fun _ h0 => nomatch h0
  | succ n ih => exact fun hc0 h0 => vX7_group_b27 hF ih hk59 hc0 h0
set_option maxRecDepth 100000 in
set_option maxHeartbeats 4000000 in
def fX7_group_b75 (fu : Nat) (sh : HS) (R : HR) (k6 : HI → Nat → Int32 → Nat → Nat → Int32 → Int32 → Option (Int32 × HI)) (I : HI) (l0 : Nat) (l1 : Int32) (l2 : Nat) (l3 : Nat) (l4 : Int32) (l5 : Int32) (l7 : Int32) : Option (Int32 × HI) :=
  (oS sh I l2 l5 l7).bind fun v8 =>
  k6 v8 l0 l1 l2 l3 l4 (l5 + 1)
set_option maxRecDepth 100000 in
set_option maxHeartbeats 4000000 in
theorem vX7_group_b75 {K J : Nat → Nat} {fu : Nat} {sh : HS} {R : HR} {F : VF} {o : (Int32 × HI)} (hF : F (.inl (some (.int o.1))) sh o.2 R) {k6 : HI → Nat → Int32 → Nat → Nat → Int32 → Int32 → Option (Int32 × HI)} (hk6 : ∀ {I : HI} {l0 : Nat} {l1 : Int32} {l2 : Nat} {l3 : Nat} {l4 : Int32} {l5 : Int32} {d6 d7 : Option Value} {c : Nat × Nat}, (c.1 ≤ 0 ∧ c.2 ≤ 0) → k6 I l0 l1 l2 l3 l4 l5 = some o → V K J 63 6 [some (.ref l0), some (.int l1), some (.ref l2), some (.ref l3), some (.int l4), some (.int l5), d6, d7] [] sh I R c F) {I : HI} {l0 : Nat} {l1 : Int32} {l2 : Nat} {l3 : Nat} {l4 : Int32} {l5 : Int32} {l7 : Int32} {d6 : Option Value} {c : Nat × Nat} (hc0 : c.1 ≤ 0 ∧ c.2 ≤ 0) (h0 : fX7_group_b75 fu sh R k6 I l0 l1 l2 l3 l4 l5 l7 = some o) : V K J 63 75 [some (.ref l0), some (.int l1), some (.ref l2), some (.ref l3), some (.int l4), some (.int l5), d6, some (.int l7)] [] sh I R c F := by
  unfold fX7_group_b75 at h0
  refine s_rl (i := 2) (pc' := 76) (by decide +kernel) rfl ?_
  refine s_il (i := 5) (pc' := 78) (by decide +kernel) rfl ?_
  refine s_il (i := 7) (pc' := 80) (by decide +kernel) rfl ?_
  refine s_as (pc' := 81) (by decide +kernel) h0 (fun v8 h1 => ?_); clear h0
  refine s_inc (i := 5) (z := 1) (pc' := 84) (L' := [some (.ref l0), some (.int l1), some (.ref l2), some (.ref l3), some (.int l4), some (.int (l5 + 1)), d6, some (.int l7)]) (by decide +kernel) rfl rfl rfl ?_
  refine s_go (t := 6) (by decide +kernel) ?_
  exact hk6 hc0 h1
set_option maxRecDepth 100000 in
set_option maxHeartbeats 4000000 in
def fX7_group_b59 (fu : Nat) (sh : HS) (R : HR) (k6 : HI → Nat → Int32 → Nat → Nat → Int32 → Int32 → Option (Int32 × HI)) (I : HI) (l0 : Nat) (l1 : Int32) (l2 : Nat) (l3 : Nat) (l4 : Int32) (l5 : Int32) (l7 : Int32) : Option (Int32 × HI) :=
  if l7 = l4 then
    ((oS sh I l3 l4 l5).bind fun v9 =>
    (fX7_group_b75 fu sh R k6) v9 l0 l1 l2 l3 (l4 + 1) l5 l7)
  else
    ((fX7_group_b75 fu sh R k6) I l0 l1 l2 l3 l4 l5 l7)
set_option maxRecDepth 100000 in
set_option maxHeartbeats 4000000 in
theorem vX7_group_b59 {K J : Nat → Nat} {fu : Nat} {sh : HS} {R : HR} {F : VF} {o : (Int32 × HI)} (hF : F (.inl (some (.int o.1))) sh o.2 R) {k6 : HI → Nat → Int32 → Nat → Nat → Int32 → Int32 → Option (Int32 × HI)} (hk6 : ∀ {I : HI} {l0 : Nat} {l1 : Int32} {l2 : Nat} {l3 : Nat} {l4 : Int32} {l5 : Int32} {d6 d7 : Option Value} {c : Nat × Nat}, (c.1 ≤ 0 ∧ c.2 ≤ 0) → k6 I l0 l1 l2 l3 l4 l5 = some o → V K J 63 6 [some (.ref l0), some (.int l1), some (.ref l2), some (.ref l3), some (.int l4), some (.int l5), d6, d7] [] sh I R c F) {I : HI} {l0 : Nat} {l1 : Int32} {l2 : Nat} {l3 : Nat} {l4 : Int32} {l5 : Int32} {l7 : Int32} {d6 : Option Value} {c : Nat × Nat} (hc0 : c.1 ≤ 0 ∧ c.2 ≤ 0) (h0 : fX7_group_b59 fu sh R k6 I l0 l1 l2 l3 l4 l5 l7 = some o) : V K J 63 59 [some (.ref l0), some (.int l1), some (.ref l2), some (.ref l3), some (.int l4), some (.int l5), d6, some (.int l7)] [] sh I R c F := by
  unfold fX7_group_b59 at h0
  refine s_il (i := 7) (pc' := 61) (by decide +kernel) rfl ?_
  refine s_il (i := 4) (pc' := 63) (by decide +kernel) rfl ?_
  refine s_ifn (ins := .if_icmp .ne 12) (t := 75) (pc' := 66) (by decide +kernel) rfl rfl rfl h0 (fun p1 h1 => ?_) (fun p1 h1 => ?_) <;> clear h0
  · exact (vX7_group_b75 hF hk6) hc0 h1
  · refine s_rl (i := 3) (pc' := 67) (by decide +kernel) rfl ?_
    refine s_il (i := 4) (pc' := 69) (by decide +kernel) rfl ?_
    refine s_il (i := 5) (pc' := 71) (by decide +kernel) rfl ?_
    refine s_as (pc' := 72) (by decide +kernel) h1 (fun v9 h2 => ?_); clear h1
    refine s_inc (i := 4) (z := 1) (pc' := 75) (L' := [some (.ref l0), some (.int l1), some (.ref l2), some (.ref l3), some (.int (l4 + 1)), some (.int l5), d6, some (.int l7)]) (by decide +kernel) rfl rfl rfl ?_
    exact (vX7_group_b75 hF hk6) hc0 h2
set_option maxRecDepth 100000 in
set_option maxHeartbeats 4000000 in
def fX7_group_b6 (fu : Nat) (sh : HS) (R : HR) (k6 : HI → Nat → Int32 → Nat → Nat → Int32 → Int32 → Option (Int32 × HI)) (I : HI) (l0 : Nat) (l1 : Int32) (l2 : Nat) (l3 : Nat) (l4 : Int32) (l5 : Int32) : Option (Int32 × HI) :=
  (oI sh I l0 0 4).bind fun v1 =>
  if v1 ≤ l5 then
    (some (l4, I))
  else
    ((oR sh R l0 0 6).bind fun v2 =>
    (oB sh R v2 7 l5).bind fun v3 =>
    (fX7_group_l27 fu sh R (fX7_group_b59 fu sh R k6) fu) I l0 l1 l2 l3 l4 l5 v3 0)
set_option maxRecDepth 100000 in
set_option maxHeartbeats 4000000 in
theorem vX7_group_b6 {K J : Nat → Nat} {fu : Nat} {sh : HS} {R : HR} {F : VF} {o : (Int32 × HI)} (hF : F (.inl (some (.int o.1))) sh o.2 R) {k6 : HI → Nat → Int32 → Nat → Nat → Int32 → Int32 → Option (Int32 × HI)} (hk6 : ∀ {I : HI} {l0 : Nat} {l1 : Int32} {l2 : Nat} {l3 : Nat} {l4 : Int32} {l5 : Int32} {d6 d7 : Option Value} {c : Nat × Nat}, (c.1 ≤ 0 ∧ c.2 ≤ 0) → k6 I l0 l1 l2 l3 l4 l5 = some o → V K J 63 6 [some (.ref l0), some (.int l1), some (.ref l2), some (.ref l3), some (.int l4), some (.int l5), d6, d7] [] sh I R c F) {I : HI} {l0 : Nat} {l1 : Int32} {l2 : Nat} {l3 : Nat} {l4 : Int32} {l5 : Int32} {d6 d7 : Option Value} {c : Nat × Nat} (hc0 : c.1 ≤ 0 ∧ c.2 ≤ 0) (h0 : fX7_group_b6 fu sh R k6 I l0 l1 l2 l3 l4 l5 = some o) : V K J 63 6 [some (.ref l0), some (.int l1), some (.ref l2), some (.ref l3), some (.int l4), some (.int l5), d6, d7] [] sh I R c F := by
  unfold fX7_group_b6 at h0
  refine s_il (i := 5) (pc' := 8) (by decide +kernel) rfl ?_
  refine s_rl (i := 0) (pc' := 9) (by decide +kernel) rfl ?_
  refine s_gI (t := 0) (j := 4) (ty := 0) (pc' := 12) (by decide +kernel) rfl h0 (fun v1 h1 => ?_); clear h0
  refine s_if (ins := .if_icmp .ge 75) (t := 87) (pc' := 15) (by decide +kernel) rfl rfl rfl h1 (fun p2 h2 => ?_) (fun p2 h2 => ?_) <;> clear h1
  · refine s_il (i := 4) (pc' := 89) (by decide +kernel) rfl ?_
    have e9 := Option.some.inj h2; subst e9
    exact s_ri (X := 0) (Y := 0) (by decide +kernel) hc0 hF
  · refine s_rl (i := 0) (pc' := 16) (by decide +kernel) rfl ?_
    refine s_gR (t := 0) (j := 6) (pc' := 19) (by decide +kernel) h2 (fun v2 h3 => ?_); clear h2
    refine s_il (i := 5) (pc' := 21) (by decide +kernel) rfl ?_
    refine s_aal (t := 7) (pc' := 22) (by decide +kernel) h3 (fun v3 h4 => ?_); clear h3
    refine s_rs (i := 6) (pc' := 24) (L' := [some (.ref l0), some (.int l1), some (.ref l2), some (.ref l3), some (.int l4), some (.int l5), some (.ref v3), d7]) (by decide +kernel) rfl rfl ?_
    refine s_c (v := 0) (pc' := 25) (by decide +kernel) ?_
    refine s_is (i := 7) (pc' := 27) (L' := [some (.ref l0), some (.int l1), some (.ref l2), some (.ref l3), some (.int l4), some (.int l5), some (.ref v3), some (.int 0)]) (by decide +kernel) rfl rfl ?_
    exact (vX7_group_l27 hF (vX7_group_b59 hF hk6) fu) hc0 h4
set_option maxRecDepth 100000 in
set_option maxHeartbeats 4000000 in
def fX7_group_l6 (fu : Nat) (sh : HS) (R : HR) : Nat → HI → Nat → Int32 → Nat → Nat → Int32 → Int32 → Option (Int32 × HI)
  | 0 => fun _ _ _ _ _ _ _ => none
  | n + 1 => fX7_group_b6 fu sh R (fX7_group_l6 fu sh R n)
set_option maxRecDepth 100000 in
set_option maxHeartbeats 4000000 in
theorem vX7_group_l6 {K J : Nat → Nat} {fu : Nat} {sh : HS} {R : HR} {F : VF} {o : (Int32 × HI)} (hF : F (.inl (some (.int o.1))) sh o.2 R) : ∀ (n : Nat) {I : HI} {l0 : Nat} {l1 : Int32} {l2 : Nat} {l3 : Nat} {l4 : Int32} {l5 : Int32} {d6 d7 : Option Value} {c : Nat × Nat} (_ : c.1 ≤ 0 ∧ c.2 ≤ 0) (_ : fX7_group_l6 fu sh R n I l0 l1 l2 l3 l4 l5 = some o), V K J 63 6 [some (.ref l0), some (.int l1), some (.ref l2), some (.ref l3), some (.int l4), some (.int l5), d6, d7] [] sh I R c F := by
  intro n
  induction n with
  | zero => exact fun _ h0 => nomatch h0
  | succ n ih => exact fun hc0 h0 => vX7_group_b6 hF ih hc0 h0
set_option maxRecDepth 100000 in
set_option maxHeartbeats 4000000 in
def fX7_group (fu : Nat) (sh : HS) (I : HI) (R : HR) (l0 : Nat) (l1 : Int32) (l2 : Nat) (l3 : Nat) : Option (Int32 × HI) :=
  (fX7_group_l6 fu sh R fu) I l0 l1 l2 l3 0 0
set_option maxRecDepth 100000 in
set_option maxHeartbeats 4000000 in
theorem vX7_group {K J : Nat → Nat} {fu : Nat} {sh : HS} {I : HI} {R : HR} {F : VF} {o : (Int32 × HI)} (hF : F (.inl (some (.int o.1))) sh o.2 R) {l0 : Nat} {l1 : Int32} {l2 : Nat} {l3 : Nat} (h0 : fX7_group fu sh I R l0 l1 l2 l3 = some o) : V K J 63 0 (ent 8 [.ref l0, .int l1, .ref l2, .ref l3]) [] sh I R (0, 0) F := by
  unfold fX7_group at h0
  have h1 := h0; clear h0
  have hc0 : ((0 : Nat), (0 : Nat)).1 ≤ 0 ∧ ((0 : Nat), (0 : Nat)).2 ≤ 0 := ⟨Nat.le_refl _, Nat.le_refl _⟩
  show V K J 63 0 [some (.ref l0), some (.int l1), some (.ref l2), some (.ref l3), none, none, none, none] [] sh I R (0, 0) F
  refine s_c (v := 0) (pc' := 1) (by decide +kernel) ?_
  refine s_is (i := 4) (pc' := 3) (L' := [some (.ref l0), some (.int l1), some (.ref l2), some (.ref l3), some (.int 0), none, none, none]) (by decide +kernel) rfl rfl ?_
  refine s_c (v := 0) (pc' := 4) (by decide +kernel) ?_
  refine s_is (i := 5) (pc' := 6) (L' := [some (.ref l0), some (.int l1), some (.ref l2), some (.ref l3), some (.int 0), some (.int 0), none, none]) (by decide +kernel) rfl rfl ?_
  exact (vX7_group_l6 hF fu) hc0 h1
set_option maxRecDepth 100000 in
set_option maxHeartbeats 4000000 in
theorem kX7_group {K J : Nat → Nat} {fu : Nat} {sh : HS} {I : HI} {R : HR} {F : VF} {mi pc pc' X Y X' Y' : Nat} {L : VL} {rest : List Value} {c : Nat × Nat} {l0 : Nat} {l1 : Int32} {l2 : Nat} {l3 : Nat} {ω : Type} {o : ω} {g : Int32 → HI → Option ω} (hq : cQ mi pc 63 4 pc' X Y X' Y' = true) (hc : c.1 ≤ X ∧ c.2 ≤ Y) (hr : Nat.ble (catS rest) 8 = true) (h : oH (fX7_group fu sh I R l0 l1 l2 l3) g = some o) (kk : ∀ v w c', (c'.1 ≤ X' ∧ c'.2 ≤ Y') → g v w = some o → V K J mi pc' L ((.int v) :: rest) sh w R c' F) : V K J mi pc L (.ref l3 :: .ref l2 :: .int l1 :: .ref l0 :: rest) sh I R c F := by
  obtain ⟨r, h1, h2⟩ := bnd h
  have ml : mL 63 = 8 := by decide +kernel
  have mk : mK 63 = 0 := by decide +kernel
  obtain ⟨v, w⟩ := r
  refine s_call (as := [.ref l3, .ref l2, .int l1, .ref l0]) (G := fun o' sh' I' R' => o' = .inl (some (.int v)) ∧ sh' = sh ∧ I' = w ∧ R' = R) hq hc rfl hr (by rw [ml]; rfl) (Or.inl rfl) (fun z => absurd (mk.symm.trans z) (by decide)) (fun z => absurd (mk.symm.trans z) (by decide)) (by rw [ml]; exact vX7_group (F := fun o' sh' I' R' => o' = .inl (some (.int v)) ∧ sh' = sh ∧ I' = w ∧ R' = R) ⟨rfl, rfl, rfl, rfl⟩ h1) ?_ ?_ ?_
  · rintro sh' I' R' c' hc' ⟨g1, rfl, rfl, rfl⟩
    cases g1
  · rintro v' sh' I' R' c' hc' ⟨g1, rfl, rfl, rfl⟩
    cases g1
    exact kk _ _ _ hc' h2
  · rintro E' sh' I' R' ⟨g1, rfl, rfl, rfl⟩
    cases g1
set_option maxRecDepth 100000 in
set_option maxHeartbeats 4000000 in
def fX9_seenBy_b109 (fu : Nat) (sh : HS) (I : HI) (R : HR) (k22 : Nat → Nat → Nat → Int32 → Int32 → Int32 → Option Int32) (l0 : Nat) (l1 : Nat) (l2 : Nat) (l3 : Int32) (l4 : Int32) (l5 : Int32) : Option Int32 :=
  k22 l0 l1 l2 l3 l4 (l5 + 1)
set_option maxRecDepth 100000 in
set_option maxHeartbeats 4000000 in
theorem vX9_seenBy_b109 {K J : Nat → Nat} {fu : Nat} {sh : HS} {I : HI} {R : HR} {F : VF} {o : Int32} (hF : F (.inl (some (.int o))) sh I R) {k22 : Nat → Nat → Nat → Int32 → Int32 → Int32 → Option Int32} (hk22 : ∀ {l0 : Nat} {l1 : Nat} {l2 : Nat} {l3 : Int32} {l4 : Int32} {l5 : Int32} {d6 : Option Value} {c : Nat × Nat}, (c.1 ≤ 0 ∧ c.2 ≤ 0) → k22 l0 l1 l2 l3 l4 l5 = some o → V K J 72 22 [some (.ref l0), some (.ref l1), some (.ref l2), some (.int l3), some (.int l4), some (.int l5), d6] [] sh I R c F) {l0 : Nat} {l1 : Nat} {l2 : Nat} {l3 : Int32} {l4 : Int32} {l5 : Int32} {d6 : Option Value} {c : Nat × Nat} (hc0 : c.1 ≤ 0 ∧ c.2 ≤ 0) (h0 : fX9_seenBy_b109 fu sh I R k22 l0 l1 l2 l3 l4 l5 = some o) : V K J 72 109 [some (.ref l0), some (.ref l1), some (.ref l2), some (.int l3), some (.int l4), some (.int l5), d6] [] sh I R c F := by
  unfold fX9_seenBy_b109 at h0
  refine s_inc (i := 5) (z := 1) (pc' := 112) (L' := [some (.ref l0), some (.ref l1), some (.ref l2), some (.int l3), some (.int l4), some (.int (l5 + 1)), d6]) (by decide +kernel) rfl rfl rfl ?_
  refine s_go (t := 22) (by decide +kernel) ?_
  exact hk22 hc0 h0
set_option maxRecDepth 100000 in
set_option maxHeartbeats 4000000 in
def fX9_seenBy_b22 (fu : Nat) (sh : HS) (I : HI) (R : HR) (k22 : Nat → Nat → Nat → Int32 → Int32 → Int32 → Option Int32) (l0 : Nat) (l1 : Nat) (l2 : Nat) (l3 : Int32) (l4 : Int32) (l5 : Int32) : Option Int32 :=
  if 6 ≤ l5 then
    (some l4)
  else
    ((fX6_hasActor fu sh I R l2 l5).bind fun v5 =>
    if v5 = 0 then
      ((fX9_seenBy_b109 fu sh I R k22) l0 l1 l2 l3 l4 l5)
    else
      ((oI sh I l1 7 1).bind fun v6 =>
      (oI sh I l1 7 2).bind fun v7 =>
      (fX6_isActorAt fu sh I R l2 l5 v6 v7).bind fun v8 =>
      if v8 = 0 then
        ((oR sh R l2 5 2).bind fun v9 =>
        (oA sh I v9 l5).bind fun v10 =>
        (oI sh I l1 7 1).bind fun v11 =>
        (oR sh R l2 5 3).bind fun v12 =>
        (oA sh I v12 l5).bind fun v13 =>
        (oI sh I l1 7 2).bind fun v14 =>
        (fX10_directionNumber fu sh I R (v10 - v11) (v13 - v14)).bind fun v15 =>
        (fX10_turnBetween fu sh I R l3 v15).bind fun v16 =>
        (oI sh I l0 0 2).bind fun v17 =>
        if v17 < v16 then
          ((fX9_seenBy_b109 fu sh I R k22) l0 l1 l2 l3 l4 l5)
        else
          ((fX9_seenBy_b109 fu sh I R k22) l0 l1 l2 l3 (l4 ||| (1 <<< (l5 &&& 31))) l5))
      else
        ((fX9_seenBy_b109 fu sh I R k22) l0 l1 l2 l3 l4 l5)))
set_option maxRecDepth 100000 in
set_option maxHeartbeats 4000000 in
theorem vX9_seenBy_b22 {K J : Nat → Nat} {fu : Nat} {sh : HS} {I : HI} {R : HR} {F : VF} {o : Int32} (hF : F (.inl (some (.int o))) sh I R) {k22 : Nat → Nat → Nat → Int32 → Int32 → Int32 → Option Int32} (hk22 : ∀ {l0 : Nat} {l1 : Nat} {l2 : Nat} {l3 : Int32} {l4 : Int32} {l5 : Int32} {d6 : Option Value} {c : Nat × Nat}, (c.1 ≤ 0 ∧ c.2 ≤ 0) → k22 l0 l1 l2 l3 l4 l5 = some o → V K J 72 22 [some (.ref l0), some (.ref l1), some (.ref l2), some (.int l3), some (.int l4), some (.int l5), d6] [] sh I R c F) {l0 : Nat} {l1 : Nat} {l2 : Nat} {l3 : Int32} {l4 : Int32} {l5 : Int32} {d6 : Option Value} {c : Nat × Nat} (hc0 : c.1 ≤ 0 ∧ c.2 ≤ 0) (h0 : fX9_seenBy_b22 fu sh I R k22 l0 l1 l2 l3 l4 l5 = some o) : V K J 72 22 [some (.ref l0), some (.ref l1), some (.ref l2), some (.int l3), some (.int l4), some (.int l5), d6] [] sh I R c F := by
  unfold fX9_seenBy_b22 at h0
  refine s_il (i := 5) (pc' := 24) (by decide +kernel) rfl ?_
  refine s_c (v := 6) (pc' := 26) (by decide +kernel) ?_
  refine s_if (ins := .if_icmp .ge 89) (t := 115) (pc' := 29) (by decide +kernel) rfl rfl rfl h0 (fun p1 h1 => ?_) (fun p1 h1 => ?_) <;> clear h0
  · refine s_il (i := 4) (pc' := 117) (by decide +kernel) rfl ?_
    have e9 := Option.some.inj h1; subst e9
    exact s_ri (X := 0) (Y := 0) (by decide +kernel) hc0 hF
  · refine s_rl (i := 2) (pc' := 30) (by decide +kernel) rfl ?_
    refine s_il (i := 5) (pc' := 32) (by decide +kernel) rfl ?_
    refine kX6_hasActor (X := 0) (Y := 0) (X' := 0) (Y' := 0) (pc' := 35) (by decide +kernel) hc0 rfl h1 (fun v5 c hc1 h2 => ?_); clear h1 hc0
    refine s_if (ins := .ifCond .eq 74) (t := 109) (pc' := 38) (by decide +kernel) rfl rfl rfl h2 (fun p3 h3 => ?_) (fun p3 h3 => ?_) <;> clear h2
    · exact (vX9_seenBy_b109 hF hk22) hc1 h3
    · refine s_rl (i := 2) (pc' := 39) (by decide +kernel) rfl ?_
      refine s_il (i := 5) (pc' := 41) (by decide +kernel) rfl ?_
      refine s_rl (i := 1) (pc' := 42) (by decide +kernel) rfl ?_
      refine s_gI (t := 7) (j := 1) (ty := 0) (pc' := 45) (by decide +kernel) rfl h3 (fun v6 h4 => ?_); clear h3
      refine s_rl (i := 1) (pc' := 46) (by decide +kernel) rfl ?_
      refine s_gI (t := 7) (j := 2) (ty := 0) (pc' := 49) (by decide +kernel) rfl h4 (fun v7 h5 => ?_); clear h4
      refine kX6_isActorAt (X := 0) (Y := 0) (X' := 0) (Y' := 0) (pc' := 52) (by decide +kernel) hc1 rfl h5 (fun v8 c hc2 h6 => ?_); clear h5 hc1
      refine s_if (ins := .ifCond .eq 6) (t := 58) (pc' := 55) (by decide +kernel) rfl rfl rfl h6 (fun p7 h7 => ?_) (fun p7 h7 => ?_) <;> clear h6
      · refine s_rl (i := 2) (pc' := 59) (by decide +kernel) rfl ?_
        refine s_gR (t := 5) (j := 2) (pc' := 62) (by decide +kernel) h7 (fun v9 h8 => ?_); clear h7
        refine s_il (i := 5) (pc' := 64) (by decide +kernel) rfl ?_
        refine s_al (pc' := 65) (by decide +kernel) h8 (fun v10 h9 => ?_); clear h8
        refine s_rl (i := 1) (pc' := 66) (by decide +kernel) rfl ?_
        refine s_gI (t := 7) (j := 1) (ty := 0) (pc' := 69) (by decide +kernel) rfl h9 (fun v11 h10 => ?_); clear h9
        refine s_a (ins := .isub) (pc' := 70) (by decide +kernel) rfl ?_
        refine s_rl (i := 2) (pc' := 71) (by decide +kernel) rfl ?_
        refine s_gR (t := 5) (j := 3) (pc' := 74) (by decide +kernel) h10 (fun v12 h11 => ?_); clear h10
        refine s_il (i := 5) (pc' := 76) (by decide +kernel) rfl ?_
        refine s_al (pc' := 77) (by decide +kernel) h11 (fun v13 h12 => ?_); clear h11
        refine s_rl (i := 1) (pc' := 78) (by decide +kernel) rfl ?_
        refine s_gI (t := 7) (j := 2) (ty := 0) (pc' := 81) (by decide +kernel) rfl h12 (fun v14 h13 => ?_); clear h12
        refine s_a (ins := .isub) (pc' := 82) (by decide +kernel) rfl ?_
        refine kX10_directionNumber (X := 0) (Y := 0) (X' := 0) (Y' := 0) (pc' := 85) (by decide +kernel) hc2 rfl h13 (fun v15 c hc3 h14 => ?_); clear h13 hc2
        refine s_is (i := 6) (pc' := 87) (L' := [some (.ref l0), some (.ref l1), some (.ref l2), some (.int l3), some (.int l4), some (.int l5), some (.int v15)]) (by decide +kernel) rfl rfl ?_
        refine s_il (i := 3) (pc' := 88) (by decide +kernel) rfl ?_
        refine s_il (i := 6) (pc' := 90) (by decide +kernel) rfl ?_
        refine kX10_turnBetween (X := 0) (Y := 0) (X' := 0) (Y' := 0) (pc' := 93) (by decide +kernel) hc3 rfl h14 (fun v16 c hc4 h15 => ?_); clear h14 hc3
        refine s_rl (i := 0) (pc' := 94) (by decide +kernel) rfl ?_
        refine s_gI (t := 0) (j := 2) (ty := 0) (pc' := 97) (by decide +kernel) rfl h15 (fun v17 h16 => ?_); clear h15
        refine s_if (ins := .if_icmp .gt 12) (t := 109) (pc' := 100) (by decide +kernel) rfl rfl rfl h16 (fun p17 h17 => ?_) (fun p17 h17 => ?_) <;> clear h16
        · exact (vX9_seenBy_b109 hF hk22) hc4 h17
        · refine s_il (i := 4) (pc' := 102) (by decide +kernel) rfl ?_
          refine s_c (v := 1) (pc' := 103) (by decide +kernel) ?_
          refine s_il (i := 5) (pc' := 105) (by decide +kernel) rfl ?_
          refine s_a (ins := .ishl) (pc' := 106) (by decide +kernel) rfl ?_
          refine s_a (ins := .ior) (pc' := 107) (by decide +kernel) rfl ?_
          refine s_is (i := 4) (pc' := 109) (L' := [some (.ref l0), some (.ref l1), some (.ref l2), some (.int l3), some (.int (l4 ||| (1 <<< (l5 &&& 31)))), some (.int l5), some (.int v15)]) (by decide +kernel) rfl rfl ?_
          exact (vX9_seenBy_b109 hF hk22) hc4 h17
      · refine s_go (t := 109) (by decide +kernel) ?_
        exact (vX9_seenBy_b109 hF hk22) hc2 h7
set_option maxRecDepth 100000 in
set_option maxHeartbeats 4000000 in
def fX9_seenBy_l22 (fu : Nat) (sh : HS) (I : HI) (R : HR) : Nat → Nat → Nat → Nat → Int32 → Int32 → Int32 → Option Int32
  | 0 => fun _ _ _ _ _ _ => none
  | n + 1 => fX9_seenBy_b22 fu sh I R (fX9_seenBy_l22 fu sh I R n)
set_option maxRecDepth 100000 in
set_option maxHeartbeats 4000000 in
theorem vX9_seenBy_l22 {K J : Nat → Nat} {fu : Nat} {sh : HS} {I : HI} {R : HR} {F : VF} {o : Int32} (hF : F (.inl (some (.int o))) sh I R) : ∀ (n : Nat) {l0 : Nat} {l1 : Nat} {l2 : Nat} {l3 : Int32} {l4 : Int32} {l5 : Int32} {d6 : Option Value} {c : Nat × Nat} (_ : c.1 ≤ 0 ∧ c.2 ≤ 0) (_ : fX9_seenBy_l22 fu sh I R n l0 l1 l2 l3 l4 l5 = some o), V K J 72 22 [some (.ref l0), some (.ref l1), some (.ref l2), some (.int l3), some (.int l4), some (.int l5), d6] [] sh I R c F := by
  intro n
  induction n with
  | zero => exact fun _ h0 => nomatch h0
  | succ n ih => exact fun hc0 h0 => vX9_seenBy_b22 hF ih hc0 h0
set_option maxRecDepth 100000 in
set_option maxHeartbeats 4000000 in
def fX9_seenBy (fu : Nat) (sh : HS) (I : HI) (R : HR) (l0 : Nat) (l1 : Nat) : Option Int32 :=
  (oR sh R l0 0 5).bind fun v1 =>
  (oI sh I l1 7 0).bind fun v2 =>
  (oB sh R v1 5 v2).bind fun v3 =>
  (fX9_viewOf fu sh I R l0 l1).bind fun v4 =>
  (fX9_seenBy_l22 fu sh I R fu) l0 l1 v3 v4 0 0
set_option maxRecDepth 100000 in
set_option maxHeartbeats 4000000 in
theorem vX9_seenBy {K J : Nat → Nat} {fu : Nat} {sh : HS} {I : HI} {R : HR} {F : VF} {o : Int32} (hF : F (.inl (some (.int o))) sh I R) {l0 : Nat} {l1 : Nat} (h0 : fX9_seenBy fu sh I R l0 l1 = some o) : V K J 72 0 (ent 7 [.ref l0, .ref l1]) [] sh I R (0, 0) F := by
  unfold fX9_seenBy at h0
  have h1 := h0; clear h0
  have hc0 : ((0 : Nat), (0 : Nat)).1 ≤ 0 ∧ ((0 : Nat), (0 : Nat)).2 ≤ 0 := ⟨Nat.le_refl _, Nat.le_refl _⟩
  show V K J 72 0 [some (.ref l0), some (.ref l1), none, none, none, none, none] [] sh I R (0, 0) F
  refine s_rl (i := 0) (pc' := 1) (by decide +kernel) rfl ?_
  refine s_gR (t := 0) (j := 5) (pc' := 4) (by decide +kernel) h1 (fun v1 h2 => ?_); clear h1
  refine s_rl (i := 1) (pc' := 5) (by decide +kernel) rfl ?_
  refine s_gI (t := 7) (j := 0) (ty := 0) (pc' := 8) (by decide +kernel) rfl h2 (fun v2 h3 => ?_); clear h2
  refine s_aal (t := 5) (pc' := 9) (by decide +kernel) h3 (fun v3 h4 => ?_); clear h3
  refine s_rs (i := 2) (pc' := 10) (L' := [some (.ref l0), some (.ref l1), some (.ref v3), none, none, none, none]) (by decide +kernel) rfl rfl ?_
  refine s_rl (i := 0) (pc' := 11) (by decide +kernel) rfl ?_
  refine s_rl (i := 1) (pc' := 12) (by decide +kernel) rfl ?_
  refine kX9_viewOf (X := 0) (Y := 0) (X' := 0) (Y' := 0) (pc' := 15) (by decide +kernel) hc0 rfl h4 (fun v4 c hc1 h5 => ?_); clear h4 hc0
  refine s_is (i := 3) (pc' := 16) (L' := [some (.ref l0), some (.ref l1), some (.ref v3), some (.int v4), none, none, none]) (by decide +kernel) rfl rfl ?_
  refine s_c (v := 0) (pc' := 17) (by decide +kernel) ?_
  refine s_is (i := 4) (pc' := 19) (L' := [some (.ref l0), some (.ref l1), some (.ref v3), some (.int v4), some (.int 0), none, none]) (by decide +kernel) rfl rfl ?_
  refine s_c (v := 0) (pc' := 20) (by decide +kernel) ?_
  refine s_is (i := 5) (pc' := 22) (L' := [some (.ref l0), some (.ref l1), some (.ref v3), some (.int v4), some (.int 0), some (.int 0), none]) (by decide +kernel) rfl rfl ?_
  exact (vX9_seenBy_l22 hF fu) hc1 h5
set_option maxRecDepth 100000 in
set_option maxHeartbeats 4000000 in
theorem kX9_seenBy {K J : Nat → Nat} {fu : Nat} {sh : HS} {I : HI} {R : HR} {F : VF} {mi pc pc' X Y X' Y' : Nat} {L : VL} {rest : List Value} {c : Nat × Nat} {l0 : Nat} {l1 : Nat} {ω : Type} {o : ω} {g : Int32 → Option ω} (hq : cQ mi pc 72 2 pc' X Y X' Y' = true) (hc : c.1 ≤ X ∧ c.2 ≤ Y) (hr : Nat.ble (catS rest) 8 = true) (h : (fX9_seenBy fu sh I R l0 l1).bind g = some o) (kk : ∀ v c', (c'.1 ≤ X' ∧ c'.2 ≤ Y') → g v = some o → V K J mi pc' L ((.int v) :: rest) sh I R c' F) : V K J mi pc L (.ref l1 :: .ref l0 :: rest) sh I R c F := by
  obtain ⟨r, h1, h2⟩ := bnd h
  have ml : mL 72 = 7 := by decide +kernel
  have mk : mK 72 = 0 := by decide +kernel
  refine s_call (as := [.ref l1, .ref l0]) (G := fun o' sh' I' R' => o' = .inl (some (.int r)) ∧ sh' = sh ∧ I' = I ∧ R' = R) hq hc rfl hr (by rw [ml]; rfl) (Or.inl rfl) (fun z => absurd (mk.symm.trans z) (by decide)) (fun z => absurd (mk.symm.trans z) (by decide)) (by rw [ml]; exact vX9_seenBy (F := fun o' sh' I' R' => o' = .inl (some (.int r)) ∧ sh' = sh ∧ I' = I ∧ R' = R) ⟨rfl, rfl, rfl, rfl⟩ h1) ?_ ?_ ?_
  · rintro sh' I' R' c' hc' ⟨g1, rfl, rfl, rfl⟩
    cases g1
  · rintro v' sh' I' R' c' hc' ⟨g1, rfl, rfl, rfl⟩
    cases g1
    exact kk _ _ hc' h2
  · rintro E' sh' I' R' ⟨g1, rfl, rfl, rfl⟩
    cases g1
set_option maxRecDepth 100000 in
set_option maxHeartbeats 4000000 in
def fX7_fill_b22 (fu : Nat) (sh : HS) (R : HR) (k22 : HI → Nat → Nat → Int32 → Option HI) (k97 : HI → Nat → Nat → Option HI) (I : HI) (l0 : Nat) (l1 : Nat) (l2 : Int32) : Option HI :=
  (oI sh I l0 6 0).bind fun v6 =>
  if v6 ≤ l2 then
    (k97 I l0 l1)
  else
    ((oR sh R l0 6 3).bind fun v7 =>
    (oS sh I v7 l2 0).bind fun v8 =>
    (oR sh R l0 6 4).bind fun v9 =>
    (oS sh v8 v9 l2 0).bind fun v10 =>
    (oR sh R l0 6 5).bind fun v11 =>
    (oS sh v10 v11 l2 0).bind fun v12 =>
    (oR sh R l0 6 6).bind fun v13 =>
    (oR sh R l1 0 6).bind fun v14 =>
    (oR sh R l0 6 2).bind fun v15 =>
    (oA sh v12 v15 l2).bind fun v16 =>
    (oB sh R v14 7 v16).bind fun v17 =>
    (oI sh v12 v17 7 0).bind fun v18 =>
    (oS sh v12 v13 l2 v18).bind fun v19 =>
    (oR sh R l0 6 7).bind fun v20 =>
    (oR sh R l1 0 5).bind fun v21 =>
    (oR sh R l0 6 6).bind fun v22 =>
    (oA sh v19 v22 l2).bind fun v23 =>
    (oB sh R v21 5 v23).bind fun v24 =>
    (oI sh v19 v24 5 0).bind fun v25 =>
    (oS sh v19 v20 l2 v25).bind fun v26 =>
    k22 v26 l0 l1 (l2 + 1))
set_option maxRecDepth 100000 in
set_option maxHeartbeats 4000000 in
theorem vX7_fill_b22 {K J : Nat → Nat} {fu : Nat} {sh : HS} {R : HR} {F : VF} {o : HI} (hF : F (.inl none) sh o R) {k22 : HI → Nat → Nat → Int32 → Option HI} {k97 : HI → Nat → Nat → Option HI} (hk22 : ∀ {I : HI} {l0 : Nat} {l1 : Nat} {l2 : Int32} {d3 d4 : Option Value} {c : Nat × Nat}, (c.1 ≤ 0 ∧ c.2 ≤ 0) → k22 I l0 l1 l2 = some o → V K J 61 22 [some (.ref l0), some (.ref l1), some (.int l2), d3, d4] [] sh I R c F) (hk97 : ∀ {I : HI} {l0 : Nat} {l1 : Nat} {d2 d3 d4 : Option Value} {c : Nat × Nat}, (c.1 ≤ 0 ∧ c.2 ≤ 0) → k97 I l0 l1 = some o → V K J 61 97 [some (.ref l0), some (.ref l1), d2, d3, d4] [] sh I R c F) {I : HI} {l0 : Nat} {l1 : Nat} {l2 : Int32} {d3 d4 : Option Value} {c : Nat × Nat} (hc0 : c.1 ≤ 0 ∧ c.2 ≤ 0) (h0 : fX7_fill_b22 fu sh R k22 k97 I l0 l1 l2 = some o) : V K J 61 22 [some (.ref l0), some (.ref l1), some (.int l2), d3, d4] [] sh I R c F := by
  unfold fX7_fill_b22 at h0
  refine s_il (i := 2) (pc' := 23) (by decide +kernel) rfl ?_
  refine s_rl (i := 0) (pc' := 24) (by decide +kernel) rfl ?_
  refine s_gI (t := 6) (j := 0) (ty := 0) (pc' := 27) (by decide +kernel) rfl h0 (fun v6 h1 => ?_); clear h0
  refine s_if (ins := .if_icmp .ge 70) (t := 97) (pc' := 30) (by decide +kernel) rfl rfl rfl h1 (fun p2 h2 => ?_) (fun p2 h2 => ?_) <;> clear h1
  · exact hk97 hc0 h2
  · refine s_rl (i := 0) (pc' := 31) (by decide +kernel) rfl ?_
    refine s_gR (t := 6) (j := 3) (pc' := 34) (by decide +kernel) h2 (fun v7 h3 => ?_); clear h2
    refine s_il (i := 2) (pc' := 35) (by decide +kernel) rfl ?_
    refine s_c (v := 0) (pc' := 36) (by decide +kernel) ?_
    refine s_as (pc' := 37) (by decide +kernel) h3 (fun v8 h4 => ?_); clear h3
    refine s_rl (i := 0) (pc' := 38) (by decide +kernel) rfl ?_
    refine s_gR (t := 6) (j := 4) (pc' := 41) (by decide +kernel) h4 (fun v9 h5 => ?_); clear h4
    refine s_il (i := 2) (pc' := 42) (by decide +kernel) rfl ?_
    refine s_c (v := 0) (pc' := 43) (by decide +kernel) ?_
    refine s_as (pc' := 44) (by decide +kernel) h5 (fun v10 h6 => ?_); clear h5
    refine s_rl (i := 0) (pc' := 45) (by decide +kernel) rfl ?_
    refine s_gR (t := 6) (j := 5) (pc' := 48) (by decide +kernel) h6 (fun v11 h7 => ?_); clear h6
    refine s_il (i := 2) (pc' := 49) (by decide +kernel) rfl ?_
    refine s_c (v := 0) (pc' := 50) (by decide +kernel) ?_
    refine s_as (pc' := 51) (by decide +kernel) h7 (fun v12 h8 => ?_); clear h7
    refine s_rl (i := 0) (pc' := 52) (by decide +kernel) rfl ?_
    refine s_gR (t := 6) (j := 6) (pc' := 55) (by decide +kernel) h8 (fun v13 h9 => ?_); clear h8
    refine s_il (i := 2) (pc' := 56) (by decide +kernel) rfl ?_
    refine s_rl (i := 1) (pc' := 57) (by decide +kernel) rfl ?_
    refine s_gR (t := 0) (j := 6) (pc' := 60) (by decide +kernel) h9 (fun v14 h10 => ?_); clear h9
    refine s_rl (i := 0) (pc' := 61) (by decide +kernel) rfl ?_
    refine s_gR (t := 6) (j := 2) (pc' := 64) (by decide +kernel) h10 (fun v15 h11 => ?_); clear h10
    refine s_il (i := 2) (pc' := 65) (by decide +kernel) rfl ?_
    refine s_al (pc' := 66) (by decide +kernel) h11 (fun v16 h12 => ?_); clear h11
    refine s_aal (t := 7) (pc' := 67) (by decide +kernel) h12 (fun v17 h13 => ?_); clear h12
    refine s_gI (t := 7) (j := 0) (ty := 0) (pc' := 70) (by decide +kernel) rfl h13 (fun v18 h14 => ?_); clear h13
    refine s_as (pc' := 71) (by decide +kernel) h14 (fun v19 h15 => ?_); clear h14
    refine s_rl (i := 0) (pc' := 72) (by decide +kernel) rfl ?_
    refine s_gR (t := 6) (j := 7) (pc' := 75) (by decide +kernel) h15 (fun v20 h16 => ?_); clear h15
    refine s_il (i := 2) (pc' := 76) (by decide +kernel) rfl ?_
    refine s_rl (i := 1) (pc' := 77) (by decide +kernel) rfl ?_
    refine s_gR (t := 0) (j := 5) (pc' := 80) (by decide +kernel) h16 (fun v21 h17 => ?_); clear h16
    refine s_rl (i := 0) (pc' := 81) (by decide +kernel) rfl ?_
    refine s_gR (t := 6) (j := 6) (pc' := 84) (by decide +kernel) h17 (fun v22 h18 => ?_); clear h17
    refine s_il (i := 2) (pc' := 85) (by decide +kernel) rfl ?_
    refine s_al (pc' := 86) (by decide +kernel) h18 (fun v23 h19 => ?_); clear h18
    refine s_aal (t := 5) (pc' := 87) (by decide +kernel) h19 (fun v24 h20 => ?_); clear h19
    refine s_gI (t := 5) (j := 0) (ty := 0) (pc' := 90) (by decide +kernel) rfl h20 (fun v25 h21 => ?_); clear h20
    refine s_as (pc' := 91) (by decide +kernel) h21 (fun v26 h22 => ?_); clear h21
    refine s_inc (i := 2) (z := 1) (pc' := 94) (L' := [some (.ref l0), some (.ref l1), some (.int (l2 + 1)), d3, d4]) (by decide +kernel) rfl rfl rfl ?_
    refine s_go (t := 22) (by decide +kernel) ?_
    exact hk22 hc0 h22
set_option maxRecDepth 100000 in
set_option maxHeartbeats 4000000 in
def fX7_fill_l22 (fu : Nat) (sh : HS) (R : HR) (k97 : HI → Nat → Nat → Option HI) : Nat → HI → Nat → Nat → Int32 → Option HI
  | 0 => fun _ _ _ _ => none
  | n + 1 => fX7_fill_b22 fu sh R (fX7_fill_l22 fu sh R k97 n) k97
set_option maxRecDepth 100000 in
set_option maxHeartbeats 4000000 in
theorem vX7_fill_l22 {K J : Nat → Nat} {fu : Nat} {sh : HS} {R : HR} {F : VF} {o : HI} (hF : F (.inl none) sh o R) {k97 : HI → Nat → Nat → Option HI} (hk97 : ∀ {I : HI} {l0 : Nat} {l1 : Nat} {d2 d3 d4 : Option Value} {c : Nat × Nat}, (c.1 ≤ 0 ∧ c.2 ≤ 0) → k97 I l0 l1 = some o → V K J 61 97 [some (.ref l0), some (.ref l1), d2, d3, d4] [] sh I R c F) : ∀ (n : Nat) {I : HI} {l0 : Nat} {l1 : Nat} {l2 : Int32} {d3 d4 : Option Value} {c : Nat × Nat} (_ : c.1 ≤ 0 ∧ c.2 ≤ 0) (_ : fX7_fill_l22 fu sh R k97 n I l0 l1 l2 = some o), V K J 61 22 [some (.ref l0), some (.ref l1), some (.int l2), d3, d4] [] sh I R c F := by
  intro n
  induction n with
  | zero => exact fun _ h0 => nomatch h0
  | succ n ih => exact fun hc0 h0 => vX7_fill_b22 hF ih hk97 hc0 h0
set_option maxRecDepth 100000 in
set_option maxHeartbeats 4000000 in
def fX7_fill_b99 (fu : Nat) (sh : HS) (R : HR) (k99 : HI → Nat → Nat → Int32 → Option HI) (I : HI) (l0 : Nat) (l1 : Nat) (l2 : Int32) : Option HI :=
  (oI sh I l1 0 4).bind fun v27 =>
  if v27 ≤ l2 then
    (some I)
  else
    ((oR sh R l1 0 6).bind fun v28 =>
    (oB sh R v28 7 l2).bind fun v29 =>
    (oR sh R l0 6 1).bind fun v30 =>
    (oA sh I v30 l2).bind fun v31 =>
    (oR sh R l0 6 3).bind fun v32 =>
    (oA sh I v32 v31).bind fun v33 =>
    (oS sh I v32 v31 (v33 ||| (1 <<< (l2 &&& 31)))).bind fun v34 =>
    (oR sh R l0 6 4).bind fun v35 =>
    (oA sh v34 v35 v31).bind fun v36 =>
    (fX9_seenBy fu sh v34 R l1 v29).bind fun v37 =>
    (oS sh v34 v35 v31 (v36 ||| v37)).bind fun v38 =>
    (oR sh R l0 6 5).bind fun v39 =>
    (oA sh v38 v39 v31).bind fun v40 =>
    (oI sh v38 v29 7 5).bind fun v41 =>
    (oS sh v38 v39 v31 (v40 + v41)).bind fun v42 =>
    k99 v42 l0 l1 (l2 + 1))
set_option maxRecDepth 100000 in
set_option maxHeartbeats 4000000 in
theorem vX7_fill_b99 {K J : Nat → Nat} {fu : Nat} {sh : HS} {R : HR} {F : VF} {o : HI} (hF : F (.inl none) sh o R) {k99 : HI → Nat → Nat → Int32 → Option HI} (hk99 : ∀ {I : HI} {l0 : Nat} {l1 : Nat} {l2 : Int32} {d3 d4 : Option Value} {c : Nat × Nat}, (c.1 ≤ 0 ∧ c.2 ≤ 0) → k99 I l0 l1 l2 = some o → V K J 61 99 [some (.ref l0), some (.ref l1), some (.int l2), d3, d4] [] sh I R c F) {I : HI} {l0 : Nat} {l1 : Nat} {l2 : Int32} {d3 d4 : Option Value} {c : Nat × Nat} (hc0 : c.1 ≤ 0 ∧ c.2 ≤ 0) (h0 : fX7_fill_b99 fu sh R k99 I l0 l1 l2 = some o) : V K J 61 99 [some (.ref l0), some (.ref l1), some (.int l2), d3, d4] [] sh I R c F := by
  unfold fX7_fill_b99 at h0
  refine s_il (i := 2) (pc' := 100) (by decide +kernel) rfl ?_
  refine s_rl (i := 1) (pc' := 101) (by decide +kernel) rfl ?_
  refine s_gI (t := 0) (j := 4) (ty := 0) (pc' := 104) (by decide +kernel) rfl h0 (fun v27 h1 => ?_); clear h0
  refine s_if (ins := .if_icmp .ge 66) (t := 170) (pc' := 107) (by decide +kernel) rfl rfl rfl h1 (fun p2 h2 => ?_) (fun p2 h2 => ?_) <;> clear h1
  · have e9 := Option.some.inj h2; subst e9
    exact s_rv (X := 0) (Y := 0) (by decide +kernel) hc0 hF
  · refine s_rl (i := 1) (pc' := 108) (by decide +kernel) rfl ?_
    refine s_gR (t := 0) (j := 6) (pc' := 111) (by decide +kernel) h2 (fun v28 h3 => ?_); clear h2
    refine s_il (i := 2) (pc' := 112) (by decide +kernel) rfl ?_
    refine s_aal (t := 7) (pc' := 113) (by decide +kernel) h3 (fun v29 h4 => ?_); clear h3
    refine s_rs (i := 3) (pc' := 114) (L' := [some (.ref l0), some (.ref l1), some (.int l2), some (.ref v29), d4]) (by decide +kernel) rfl rfl ?_
    refine s_rl (i := 0) (pc' := 115) (by decide +kernel) rfl ?_
    refine s_gR (t := 6) (j := 1) (pc' := 118) (by decide +kernel) h4 (fun v30 h5 => ?_); clear h4
    refine s_il (i := 2) (pc' := 119) (by decide +kernel) rfl ?_
    refine s_al (pc' := 120) (by decide +kernel) h5 (fun v31 h6 => ?_); clear h5
    refine s_is (i := 4) (pc' := 122) (L' := [some (.ref l0), some (.ref l1), some (.int l2), some (.ref v29), some (.int v31)]) (by decide +kernel) rfl rfl ?_
    refine s_rl (i := 0) (pc' := 123) (by decide +kernel) rfl ?_
    refine s_gR (t := 6) (j := 3) (pc' := 126) (by decide +kernel) h6 (fun v32 h7 => ?_); clear h6
    refine s_il (i := 4) (pc' := 128) (by decide +kernel) rfl ?_
    refine s_a (ins := .dup2) (pc' := 129) (by decide +kernel) rfl ?_
    refine s_al (pc' := 130) (by decide +kernel) h7 (fun v33 h8 => ?_); clear h7
    refine s_c (v := 1) (pc' := 131) (by decide +kernel) ?_
    refine s_il (i := 2) (pc' := 132) (by decide +kernel) rfl ?_
    refine s_a (ins := .ishl) (pc' := 133) (by decide +kernel) rfl ?_
    refine s_a (ins := .ior) (pc' := 134) (by decide +kernel) rfl ?_
    refine s_as (pc' := 135) (by decide +kernel) h8 (fun v34 h9 => ?_); clear h8
    refine s_rl (i := 0) (pc' := 136) (by decide +kernel) rfl ?_
    refine s_gR (t := 6) (j := 4) (pc' := 139) (by decide +kernel) h9 (fun v35 h10 => ?_); clear h9
    refine s_il (i := 4) (pc' := 141) (by decide +kernel) rfl ?_
    refine s_a (ins := .dup2) (pc' := 142) (by decide +kernel) rfl ?_
    refine s_al (pc' := 143) (by decide +kernel) h10 (fun v36 h11 => ?_); clear h10
    refine s_rl (i := 1) (pc' := 144) (by decide +kernel) rfl ?_
    refine s_rl (i := 3) (pc' := 145) (by decide +kernel) rfl ?_
    refine kX9_seenBy (X := 0) (Y := 0) (X' := 0) (Y' := 0) (pc' := 148) (by decide +kernel) hc0 rfl h11 (fun v37 c hc1 h12 => ?_); clear h11 hc0
    refine s_a (ins := .ior) (pc' := 149) (by decide +kernel) rfl ?_
    refine s_as (pc' := 150) (by decide +kernel) h12 (fun v38 h13 => ?_); clear h12
    refine s_rl (i := 0) (pc' := 151) (by decide +kernel) rfl ?_
    refine s_gR (t := 6) (j := 5) (pc' := 154) (by decide +kernel) h13 (fun v39 h14 => ?_); clear h13
    refine s_il (i := 4) (pc' := 156) (by decide +kernel) rfl ?_
    refine s_a (ins := .dup2) (pc' := 157) (by decide +kernel) rfl ?_
    refine s_al (pc' := 158) (by decide +kernel) h14 (fun v40 h15 => ?_); clear h14
    refine s_rl (i := 3) (pc' := 159) (by decide +kernel) rfl ?_
    refine s_gI (t := 7) (j := 5) (ty := 0) (pc' := 162) (by decide +kernel) rfl h15 (fun v41 h16 => ?_); clear h15
    refine s_a (ins := .iadd) (pc' := 163) (by decide +kernel) rfl ?_
    refine s_as (pc' := 164) (by decide +kernel) h16 (fun v42 h17 => ?_); clear h16
    refine s_inc (i := 2) (z := 1) (pc' := 167) (L' := [some (.ref l0), some (.ref l1), some (.int (l2 + 1)), some (.ref v29), some (.int v31)]) (by decide +kernel) rfl rfl rfl ?_
    refine s_go (t := 99) (by decide +kernel) ?_
    exact hk99 hc1 h17
set_option maxRecDepth 100000 in
set_option maxHeartbeats 4000000 in
def fX7_fill_l99 (fu : Nat) (sh : HS) (R : HR) : Nat → HI → Nat → Nat → Int32 → Option HI
  | 0 => fun _ _ _ _ => none
  | n + 1 => fX7_fill_b99 fu sh R (fX7_fill_l99 fu sh R n)
set_option maxRecDepth 100000 in
set_option maxHeartbeats 4000000 in
theorem vX7_fill_l99 {K J : Nat → Nat} {fu : Nat} {sh : HS} {R : HR} {F : VF} {o : HI} (hF : F (.inl none) sh o R) : ∀ (n : Nat) {I : HI} {l0 : Nat} {l1 : Nat} {l2 : Int32} {d3 d4 : Option Value} {c : Nat × Nat} (_ : c.1 ≤ 0 ∧ c.2 ≤ 0) (_ : fX7_fill_l99 fu sh R n I l0 l1 l2 = some o), V K J 61 99 [some (.ref l0), some (.ref l1), some (.int l2), d3, d4] [] sh I R c F := by
  intro n
  induction n with
  | zero => exact fun _ h0 => nomatch h0
  | succ n ih => exact fun hc0 h0 => vX7_fill_b99 hF ih hc0 h0
set_option maxRecDepth 100000 in
set_option maxHeartbeats 4000000 in
def fX7_fill_b97 (fu : Nat) (sh : HS) (R : HR) (I : HI) (l0 : Nat) (l1 : Nat) : Option HI :=
  (fX7_fill_l99 fu sh R fu) I l0 l1 0
set_option maxRecDepth 100000 in
set_option maxHeartbeats 4000000 in
theorem vX7_fill_b97 {K J : Nat → Nat} {fu : Nat} {sh : HS} {R : HR} {F : VF} {o : HI} (hF : F (.inl none) sh o R) {I : HI} {l0 : Nat} {l1 : Nat} {d2 d3 d4 : Option Value} {c : Nat × Nat} (hc0 : c.1 ≤ 0 ∧ c.2 ≤ 0) (h0 : fX7_fill_b97 fu sh R I l0 l1 = some o) : V K J 61 97 [some (.ref l0), some (.ref l1), d2, d3, d4] [] sh I R c F := by
  unfold fX7_fill_b97 at h0
  refine s_c (v := 0) (pc' := 98) (by decide +kernel) ?_
  refine s_is (i := 2) (pc' := 99) (L' := [some (.ref l0), some (.ref l1), some (.int 0), d3, d4]) (by decide +kernel) rfl rfl ?_
  exact (vX7_fill_l99 hF fu) hc0 h0
set_option maxRecDepth 100000 in
set_option maxHeartbeats 4000000 in
def fX7_fill (fu : Nat) (sh : HS) (I : HI) (R : HR) (l0 : Nat) (l1 : Nat) : Option HI :=
  if isT sh l0 6 = true then
    ((oI sh I l1 0 0).bind fun v1 =>
    (oR sh R l0 6 1).bind fun v2 =>
    (oR sh R l0 6 2).bind fun v3 =>
    oH (fX7_group fu sh I R l1 v1 v2 v3) fun v4 w4 =>
    (oP sh w4 l0 6 0 v4).bind fun v5 =>
    (fX7_fill_l22 fu sh R (fX7_fill_b97 fu sh R) fu) v5 l0 l1 0)
  else none
set_option maxRecDepth 100000 in
set_option maxHeartbeats 4000000 in
theorem vX7_fill {K J : Nat → Nat} {fu : Nat} {sh : HS} {I : HI} {R : HR} {F : VF} {o : HI} (hF : F (.inl none) sh o R) {l0 : Nat} {l1 : Nat} (h0 : fX7_fill fu sh I R l0 l1 = some o) : V K J 61 0 (ent 5 [.ref l0, .ref l1]) [] sh I R (0, 0) F := by
  unfold fX7_fill at h0
  obtain ⟨-, h1⟩ := gd h0; clear h0
  have hc0 : ((0 : Nat), (0 : Nat)).1 ≤ 0 ∧ ((0 : Nat), (0 : Nat)).2 ≤ 0 := ⟨Nat.le_refl _, Nat.le_refl _⟩
  show V K J 61 0 [some (.ref l0), some (.ref l1), none, none, none] [] sh I R (0, 0) F
  refine s_rl (i := 0) (pc' := 1) (by decide +kernel) rfl ?_
  refine s_rl (i := 1) (pc' := 2) (by decide +kernel) rfl ?_
  refine s_rl (i := 1) (pc' := 3) (by decide +kernel) rfl ?_
  refine s_gI (t := 0) (j := 0) (ty := 0) (pc' := 6) (by decide +kernel) rfl h1 (fun v1 h2 => ?_); clear h1
  refine s_rl (i := 0) (pc' := 7) (by decide +kernel) rfl ?_
  refine s_gR (t := 6) (j := 1) (pc' := 10) (by decide +kernel) h2 (fun v2 h3 => ?_); clear h2
  refine s_rl (i := 0) (pc' := 11) (by decide +kernel) rfl ?_
  refine s_gR (t := 6) (j := 2) (pc' := 14) (by decide +kernel) h3 (fun v3 h4 => ?_); clear h3
  refine kX7_group (X := 0) (Y := 0) (X' := 0) (Y' := 0) (pc' := 17) (by decide +kernel) hc0 rfl h4 (fun v4 w4 c hc1 h5 => ?_); clear h4 hc0
  refine s_pI (t := 6) (j := 0) (ty := 0) (pc' := 20) (by decide +kernel) (Or.inl rfl) h5 (fun v5 h6 => ?_); clear h5
  refine s_c (v := 0) (pc' := 21) (by decide +kernel) ?_
  refine s_is (i := 2) (pc' := 22) (L' := [some (.ref l0), some (.ref l1), some (.int 0), none, none]) (by decide +kernel) rfl rfl ?_
  exact (vX7_fill_l22 hF (vX7_fill_b97 hF) fu) hc1 h6
set_option maxRecDepth 100000 in
set_option maxHeartbeats 4000000 in
theorem kX7_fill {K J : Nat → Nat} {fu : Nat} {sh : HS} {I : HI} {R : HR} {F : VF} {mi pc pc' X Y X' Y' : Nat} {L : VL} {rest : List Value} {c : Nat × Nat} {l0 : Nat} {l1 : Nat} {ω : Type} {o : ω} {g : HI → Option ω} (hq : cQ mi pc 61 2 pc' X Y X' Y' = true) (hc : c.1 ≤ X ∧ c.2 ≤ Y) (hr : Nat.ble (catS rest) 8 = true) (h : (fX7_fill fu sh I R l0 l1).bind g = some o) (kk : ∀ w c', (c'.1 ≤ X' ∧ c'.2 ≤ Y') → g w = some o → V K J mi pc' L (rest) sh w R c' F) : V K J mi pc L (.ref l1 :: .ref l0 :: rest) sh I R c F := by
  obtain ⟨r, h1, h2⟩ := bnd h
  have hT : isT sh l0 6 = true := by unfold fX7_fill at h1; exact (gd h1).1
  have ml : mL 61 = 5 := by decide +kernel
  have mk : mK 61 = 1 := by decide +kernel
  have mc : mC 61 = 6 := by decide +kernel
  refine s_call (as := [.ref l1, .ref l0]) (G := fun o' sh' I' R' => o' = .inl none ∧ sh' = sh ∧ I' = r ∧ R' = R) hq hc rfl hr (by rw [ml]; rfl) (Or.inl rfl) (fun _ => Or.inl ⟨by rw [mc]; decide, by rw [mc]; exact isT_iff.mp hT⟩) (fun z => absurd (mk.symm.trans z) (by decide)) (by rw [ml]; exact vX7_fill (F := fun o' sh' I' R' => o' = .inl none ∧ sh' = sh ∧ I' = r ∧ R' = R) ⟨rfl, rfl, rfl, rfl⟩ h1) ?_ ?_ ?_
  · rintro sh' I' R' c' hc' ⟨g1, rfl, rfl, rfl⟩
    cases g1
    exact kk _ _ hc' h2
  · rintro v' sh' I' R' c' hc' ⟨g1, rfl, rfl, rfl⟩
    cases g1
  · rintro E' sh' I' R' ⟨g1, rfl, rfl, rfl⟩
    cases g1
set_option maxRecDepth 100000 in
set_option maxHeartbeats 4000000 in
def fX7_sizeWithReach (fu : Nat) (sh : HS) (I : HI) (R : HR) (l0 : Nat) (l1 : Nat) (l2 : Int32) : Option (Int32 × HI) :=
  if isT sh l0 6 = true then
    ((oR sh R l0 6 8).bind fun v1 =>
    (oR sh R l0 6 9).bind fun v2 =>
    oH (fX7_group fu sh I R l1 l2 v1 v2) fun v3 w3 =>
    some (v3, w3))
  else none
set_option maxRecDepth 100000 in
set_option maxHeartbeats 4000000 in
theorem vX7_sizeWithReach {K J : Nat → Nat} {fu : Nat} {sh : HS} {I : HI} {R : HR} {F : VF} {o : (Int32 × HI)} (hF : F (.inl (some (.int o.1))) sh o.2 R) {l0 : Nat} {l1 : Nat} {l2 : Int32} (h0 : fX7_sizeWithReach fu sh I R l0 l1 l2 = some o) : V K J 62 0 (ent 3 [.ref l0, .ref l1, .int l2]) [] sh I R (0, 0) F := by
  unfold fX7_sizeWithReach at h0
  obtain ⟨-, h1⟩ := gd h0; clear h0
  have hc0 : ((0 : Nat), (0 : Nat)).1 ≤ 0 ∧ ((0 : Nat), (0 : Nat)).2 ≤ 0 := ⟨Nat.le_refl _, Nat.le_refl _⟩
  show V K J 62 0 [some (.ref l0), some (.ref l1), some (.int l2)] [] sh I R (0, 0) F
  refine s_rl (i := 1) (pc' := 1) (by decide +kernel) rfl ?_
  refine s_il (i := 2) (pc' := 2) (by decide +kernel) rfl ?_
  refine s_rl (i := 0) (pc' := 3) (by decide +kernel) rfl ?_
  refine s_gR (t := 6) (j := 8) (pc' := 6) (by decide +kernel) h1 (fun v1 h2 => ?_); clear h1
  refine s_rl (i := 0) (pc' := 7) (by decide +kernel) rfl ?_
  refine s_gR (t := 6) (j := 9) (pc' := 10) (by decide +kernel) h2 (fun v2 h3 => ?_); clear h2
  refine kX7_group (X := 0) (Y := 0) (X' := 0) (Y' := 0) (pc' := 13) (by decide +kernel) hc0 rfl h3 (fun v3 w3 c hc1 h4 => ?_); clear h3 hc0
  have e9 := Option.some.inj h4; subst e9
  exact s_ri (X := 0) (Y := 0) (by decide +kernel) hc1 hF
set_option maxRecDepth 100000 in
set_option maxHeartbeats 4000000 in
theorem kX7_sizeWithReach {K J : Nat → Nat} {fu : Nat} {sh : HS} {I : HI} {R : HR} {F : VF} {mi pc pc' X Y X' Y' : Nat} {L : VL} {rest : List Value} {c : Nat × Nat} {l0 : Nat} {l1 : Nat} {l2 : Int32} {ω : Type} {o : ω} {g : Int32 → HI → Option ω} (hq : cQ mi pc 62 3 pc' X Y X' Y' = true) (hc : c.1 ≤ X ∧ c.2 ≤ Y) (hr : Nat.ble (catS rest) 8 = true) (h : oH (fX7_sizeWithReach fu sh I R l0 l1 l2) g = some o) (kk : ∀ v w c', (c'.1 ≤ X' ∧ c'.2 ≤ Y') → g v w = some o → V K J mi pc' L ((.int v) :: rest) sh w R c' F) : V K J mi pc L (.int l2 :: .ref l1 :: .ref l0 :: rest) sh I R c F := by
  obtain ⟨r, h1, h2⟩ := bnd h
  have hT : isT sh l0 6 = true := by unfold fX7_sizeWithReach at h1; exact (gd h1).1
  have ml : mL 62 = 3 := by decide +kernel
  have mk : mK 62 = 1 := by decide +kernel
  have mc : mC 62 = 6 := by decide +kernel
  obtain ⟨v, w⟩ := r
  refine s_call (as := [.int l2, .ref l1, .ref l0]) (G := fun o' sh' I' R' => o' = .inl (some (.int v)) ∧ sh' = sh ∧ I' = w ∧ R' = R) hq hc rfl hr (by rw [ml]; rfl) (Or.inl rfl) (fun _ => Or.inl ⟨by rw [mc]; decide, by rw [mc]; exact isT_iff.mp hT⟩) (fun z => absurd (mk.symm.trans z) (by decide)) (by rw [ml]; exact vX7_sizeWithReach (F := fun o' sh' I' R' => o' = .inl (some (.int v)) ∧ sh' = sh ∧ I' = w ∧ R' = R) ⟨rfl, rfl, rfl, rfl⟩ h1) ?_ ?_ ?_
  · rintro sh' I' R' c' hc' ⟨g1, rfl, rfl, rfl⟩
    cases g1
  · rintro v' sh' I' R' c' hc' ⟨g1, rfl, rfl, rfl⟩
    cases g1
    exact kk _ _ _ hc' h2
  · rintro E' sh' I' R' ⟨g1, rfl, rfl, rfl⟩
    cases g1
set_option maxRecDepth 100000 in
set_option maxHeartbeats 4000000 in
def fX7_costOfStart (fu : Nat) (sh : HS) (I : HI) (R : HR) (l0 : Nat) (l1 : Int32) : Option Int32 :=
  if isT sh l0 6 = true then
    ((oR sh R l0 6 4).bind fun v1 =>
    (oA sh I v1 l1).bind fun v2 =>
    (fJ6_bitCount_0f7a4 fu sh I R v2).bind fun v3 =>
    some (2 * v3))
  else none
set_option maxRecDepth 100000 in
set_option maxHeartbeats 4000000 in
theorem vX7_costOfStart {K J : Nat → Nat} {fu : Nat} {sh : HS} {I : HI} {R : HR} {F : VF} {o : Int32} (hF : F (.inl (some (.int o))) sh I R) {l0 : Nat} {l1 : Int32} (h0 : fX7_costOfStart fu sh I R l0 l1 = some o) : V K J 64 0 (ent 2 [.ref l0, .int l1]) [] sh I R (0, 0) F := by
  unfold fX7_costOfStart at h0
  obtain ⟨-, h1⟩ := gd h0; clear h0
  have hc0 : ((0 : Nat), (0 : Nat)).1 ≤ 0 ∧ ((0 : Nat), (0 : Nat)).2 ≤ 0 := ⟨Nat.le_refl _, Nat.le_refl _⟩
  show V K J 64 0 [some (.ref l0), some (.int l1)] [] sh I R (0, 0) F
  refine s_c (v := 2) (pc' := 1) (by decide +kernel) ?_
  refine s_rl (i := 0) (pc' := 2) (by decide +kernel) rfl ?_
  refine s_gR (t := 6) (j := 4) (pc' := 5) (by decide +kernel) h1 (fun v1 h2 => ?_); clear h1
  refine s_il (i := 1) (pc' := 6) (by decide +kernel) rfl ?_
  refine s_al (pc' := 7) (by decide +kernel) h2 (fun v2 h3 => ?_); clear h2
  refine kJ6_bitCount_0f7a4 (X := 0) (Y := 0) (X' := 0) (Y' := 0) (pc' := 10) (by decide +kernel) hc0 rfl h3 (fun v3 c hc1 h4 => ?_); clear h3 hc0
  refine s_a (ins := .imul) (pc' := 11) (by decide +kernel) rfl ?_
  have e9 := Option.some.inj h4; subst e9
  exact s_ri (X := 0) (Y := 0) (by decide +kernel) hc1 hF
set_option maxRecDepth 100000 in
set_option maxHeartbeats 4000000 in
theorem kX7_costOfStart {K J : Nat → Nat} {fu : Nat} {sh : HS} {I : HI} {R : HR} {F : VF} {mi pc pc' X Y X' Y' : Nat} {L : VL} {rest : List Value} {c : Nat × Nat} {l0 : Nat} {l1 : Int32} {ω : Type} {o : ω} {g : Int32 → Option ω} (hq : cQ mi pc 64 2 pc' X Y X' Y' = true) (hc : c.1 ≤ X ∧ c.2 ≤ Y) (hr : Nat.ble (catS rest) 8 = true) (h : (fX7_costOfStart fu sh I R l0 l1).bind g = some o) (kk : ∀ v c', (c'.1 ≤ X' ∧ c'.2 ≤ Y') → g v = some o → V K J mi pc' L ((.int v) :: rest) sh I R c' F) : V K J mi pc L (.int l1 :: .ref l0 :: rest) sh I R c F := by
  obtain ⟨r, h1, h2⟩ := bnd h
  have hT : isT sh l0 6 = true := by unfold fX7_costOfStart at h1; exact (gd h1).1
  have ml : mL 64 = 2 := by decide +kernel
  have mk : mK 64 = 1 := by decide +kernel
  have mc : mC 64 = 6 := by decide +kernel
  refine s_call (as := [.int l1, .ref l0]) (G := fun o' sh' I' R' => o' = .inl (some (.int r)) ∧ sh' = sh ∧ I' = I ∧ R' = R) hq hc rfl hr (by rw [ml]; rfl) (Or.inl rfl) (fun _ => Or.inl ⟨by rw [mc]; decide, by rw [mc]; exact isT_iff.mp hT⟩) (fun z => absurd (mk.symm.trans z) (by decide)) (by rw [ml]; exact vX7_costOfStart (F := fun o' sh' I' R' => o' = .inl (some (.int r)) ∧ sh' = sh ∧ I' = I ∧ R' = R) ⟨rfl, rfl, rfl, rfl⟩ h1) ?_ ?_ ?_
  · rintro sh' I' R' c' hc' ⟨g1, rfl, rfl, rfl⟩
    cases g1
  · rintro v' sh' I' R' c' hc' ⟨g1, rfl, rfl, rfl⟩
    cases g1
    exact kk _ _ hc' h2
  · rintro E' sh' I' R' ⟨g1, rfl, rfl, rfl⟩
    cases g1
set_option maxRecDepth 100000 in
set_option maxHeartbeats 4000000 in
def fX7_costOfChange_b21 (fu : Nat) (sh : HS) (I : HI) (R : HR) (l0 : Nat) (l1 : Int32) (l2 : Int32) (s0 : Int32) : Option Int32 :=
  (oR sh R l0 6 7).bind fun v5 =>
  (oA sh I v5 l1).bind fun v6 =>
  (oR sh R l0 6 7).bind fun v7 =>
  (oA sh I v7 l2).bind fun v8 =>
  (oR sh R l0 6 4).bind fun v9 =>
  (oA sh I v9 l2).bind fun v10 =>
  (oR sh R l0 6 4).bind fun v11 =>
  (oA sh I v11 l1).bind fun v12 =>
  (fJ6_bitCount_0f7a4 fu sh I R (v10 &&& (v12 ^^^ (-1)))).bind fun v13 =>
  some ((s0 + (4 * (iAbs (v6 - v8)))) + (2 * v13))
set_option maxRecDepth 100000 in
set_option maxHeartbeats 4000000 in
theorem vX7_costOfChange_b21 {K J : Nat → Nat} {fu : Nat} {sh : HS} {I : HI} {R : HR} {F : VF} {o : Int32} (hF : F (.inl (some (.int o))) sh I R) {l0 : Nat} {l1 : Int32} {l2 : Int32} {s0 : Int32} {d3 d4 : Option Value} {c : Nat × Nat} (hc0 : c.1 ≤ 0 ∧ c.2 ≤ 0) (h0 : fX7_costOfChange_b21 fu sh I R l0 l1 l2 s0 = some o) : V K J 65 21 [some (.ref l0), some (.int l1), some (.int l2), d3, d4] [.int s0] sh I R c F := by
  unfold fX7_costOfChange_b21 at h0
  refine s_is (i := 3) (pc' := 22) (L' := [some (.ref l0), some (.int l1), some (.int l2), some (.int s0), d4]) (by decide +kernel) rfl rfl ?_
  refine s_c (v := 4) (pc' := 23) (by decide +kernel) ?_
  refine s_rl (i := 0) (pc' := 24) (by decide +kernel) rfl ?_
  refine s_gR (t := 6) (j := 7) (pc' := 27) (by decide +kernel) h0 (fun v5 h1 => ?_); clear h0
  refine s_il (i := 1) (pc' := 28) (by decide +kernel) rfl ?_
  refine s_al (pc' := 29) (by decide +kernel) h1 (fun v6 h2 => ?_); clear h1
  refine s_rl (i := 0) (pc' := 30) (by decide +kernel) rfl ?_
  refine s_gR (t := 6) (j := 7) (pc' := 33) (by decide +kernel) h2 (fun v7 h3 => ?_); clear h2
  refine s_il (i := 2) (pc' := 34) (by decide +kernel) rfl ?_
  refine s_al (pc' := 35) (by decide +kernel) h3 (fun v8 h4 => ?_); clear h3
  refine s_a (ins := .isub) (pc' := 36) (by decide +kernel) rfl ?_
  refine s_abs (X := 0) (Y := 0) (pc' := 39) (by decide +kernel) hc0 rfl ?_
  refine s_a (ins := .imul) (pc' := 40) (by decide +kernel) rfl ?_
  refine s_is (i := 4) (pc' := 42) (L' := [some (.ref l0), some (.int l1), some (.int l2), some (.int s0), some (.int (4 * (iAbs (v6 - v8))))]) (by decide +kernel) rfl rfl ?_
  refine s_il (i := 3) (pc' := 43) (by decide +kernel) rfl ?_
  refine s_il (i := 4) (pc' := 45) (by decide +kernel) rfl ?_
  refine s_a (ins := .iadd) (pc' := 46) (by decide +kernel) rfl ?_
  refine s_c (v := 2) (pc' := 47) (by decide +kernel) ?_
  refine s_rl (i := 0) (pc' := 48) (by decide +kernel) rfl ?_
  refine s_gR (t := 6) (j := 4) (pc' := 51) (by decide +kernel) h4 (fun v9 h5 => ?_); clear h4
  refine s_il (i := 2) (pc' := 52) (by decide +kernel) rfl ?_
  refine s_al (pc' := 53) (by decide +kernel) h5 (fun v10 h6 => ?_); clear h5
  refine s_rl (i := 0) (pc' := 54) (by decide +kernel) rfl ?_
  refine s_gR (t := 6) (j := 4) (pc' := 57) (by decide +kernel) h6 (fun v11 h7 => ?_); clear h6
  refine s_il (i := 1) (pc' := 58) (by decide +kernel) rfl ?_
  refine s_al (pc' := 59) (by decide +kernel) h7 (fun v12 h8 => ?_); clear h7
  refine s_c (v := (-1)) (pc' := 60) (by decide +kernel) ?_
  refine s_a (ins := .ixor) (pc' := 61) (by decide +kernel) rfl ?_
  refine s_a (ins := .iand) (pc' := 62) (by decide +kernel) rfl ?_
  refine kJ6_bitCount_0f7a4 (X := 0) (Y := 0) (X' := 0) (Y' := 0) (pc' := 65) (by decide +kernel) hc0 rfl h8 (fun v13 c hc1 h9 => ?_); clear h8 hc0
  refine s_a (ins := .imul) (pc' := 66) (by decide +kernel) rfl ?_
  refine s_a (ins := .iadd) (pc' := 67) (by decide +kernel) rfl ?_
  have e9 := Option.some.inj h9; subst e9
  exact s_ri (X := 0) (Y := 0) (by decide +kernel) hc1 hF
set_option maxRecDepth 100000 in
set_option maxHeartbeats 4000000 in
def fX7_costOfChange (fu : Nat) (sh : HS) (I : HI) (R : HR) (l0 : Nat) (l1 : Int32) (l2 : Int32) : Option Int32 :=
  if isT sh l0 6 = true then
    ((oR sh R l0 6 6).bind fun v1 =>
    (oA sh I v1 l1).bind fun v2 =>
    (oR sh R l0 6 6).bind fun v3 =>
    (oA sh I v3 l2).bind fun v4 =>
    if v2 = v4 then
      ((fX7_costOfChange_b21 fu sh I R) l0 l1 l2 0)
    else
      ((fX7_costOfChange_b21 fu sh I R) l0 l1 l2 9))
  else none
set_option maxRecDepth 100000 in
set_option maxHeartbeats 4000000 in
theorem vX7_costOfChange {K J : Nat → Nat} {fu : Nat} {sh : HS} {I : HI} {R : HR} {F : VF} {o : Int32} (hF : F (.inl (some (.int o))) sh I R) {l0 : Nat} {l1 : Int32} {l2 : Int32} (h0 : fX7_costOfChange fu sh I R l0 l1 l2 = some o) : V K J 65 0 (ent 5 [.ref l0, .int l1, .int l2]) [] sh I R (0, 0) F := by
  unfold fX7_costOfChange at h0
  obtain ⟨-, h1⟩ := gd h0; clear h0
  have hc0 : ((0 : Nat), (0 : Nat)).1 ≤ 0 ∧ ((0 : Nat), (0 : Nat)).2 ≤ 0 := ⟨Nat.le_refl _, Nat.le_refl _⟩
  show V K J 65 0 [some (.ref l0), some (.int l1), some (.int l2), none, none] [] sh I R (0, 0) F
  refine s_rl (i := 0) (pc' := 1) (by decide +kernel) rfl ?_
  refine s_gR (t := 6) (j := 6) (pc' := 4) (by decide +kernel) h1 (fun v1 h2 => ?_); clear h1
  refine s_il (i := 1) (pc' := 5) (by decide +kernel) rfl ?_
  refine s_al (pc' := 6) (by decide +kernel) h2 (fun v2 h3 => ?_); clear h2
  refine s_rl (i := 0) (pc' := 7) (by decide +kernel) rfl ?_
  refine s_gR (t := 6) (j := 6) (pc' := 10) (by decide +kernel) h3 (fun v3 h4 => ?_); clear h3
  refine s_il (i := 2) (pc' := 11) (by decide +kernel) rfl ?_
  refine s_al (pc' := 12) (by decide +kernel) h4 (fun v4 h5 => ?_); clear h4
  refine s_ifn (ins := .if_icmp .ne 7) (t := 19) (pc' := 15) (by decide +kernel) rfl rfl rfl h5 (fun p6 h6 => ?_) (fun p6 h6 => ?_) <;> clear h5
  · refine s_c (v := 9) (pc' := 21) (by decide +kernel) ?_
    exact (vX7_costOfChange_b21 hF) hc0 h6
  · refine s_c (v := 0) (pc' := 16) (by decide +kernel) ?_
    refine s_go (t := 21) (by decide +kernel) ?_
    exact (vX7_costOfChange_b21 hF) hc0 h6
set_option maxRecDepth 100000 in
set_option maxHeartbeats 4000000 in
theorem kX7_costOfChange {K J : Nat → Nat} {fu : Nat} {sh : HS} {I : HI} {R : HR} {F : VF} {mi pc pc' X Y X' Y' : Nat} {L : VL} {rest : List Value} {c : Nat × Nat} {l0 : Nat} {l1 : Int32} {l2 : Int32} {ω : Type} {o : ω} {g : Int32 → Option ω} (hq : cQ mi pc 65 3 pc' X Y X' Y' = true) (hc : c.1 ≤ X ∧ c.2 ≤ Y) (hr : Nat.ble (catS rest) 8 = true) (h : (fX7_costOfChange fu sh I R l0 l1 l2).bind g = some o) (kk : ∀ v c', (c'.1 ≤ X' ∧ c'.2 ≤ Y') → g v = some o → V K J mi pc' L ((.int v) :: rest) sh I R c' F) : V K J mi pc L (.int l2 :: .int l1 :: .ref l0 :: rest) sh I R c F := by
  obtain ⟨r, h1, h2⟩ := bnd h
  have hT : isT sh l0 6 = true := by unfold fX7_costOfChange at h1; exact (gd h1).1
  have ml : mL 65 = 5 := by decide +kernel
  have mk : mK 65 = 1 := by decide +kernel
  have mc : mC 65 = 6 := by decide +kernel
  refine s_call (as := [.int l2, .int l1, .ref l0]) (G := fun o' sh' I' R' => o' = .inl (some (.int r)) ∧ sh' = sh ∧ I' = I ∧ R' = R) hq hc rfl hr (by rw [ml]; rfl) (Or.inl rfl) (fun _ => Or.inl ⟨by rw [mc]; decide, by rw [mc]; exact isT_iff.mp hT⟩) (fun z => absurd (mk.symm.trans z) (by decide)) (by rw [ml]; exact vX7_costOfChange (F := fun o' sh' I' R' => o' = .inl (some (.int r)) ∧ sh' = sh ∧ I' = I ∧ R' = R) ⟨rfl, rfl, rfl, rfl⟩ h1) ?_ ?_ ?_
  · rintro sh' I' R' c' hc' ⟨g1, rfl, rfl, rfl⟩
    cases g1
  · rintro v' sh' I' R' c' hc' ⟨g1, rfl, rfl, rfl⟩
    cases g1
    exact kk _ _ hc' h2
  · rintro E' sh' I' R' ⟨g1, rfl, rfl, rfl⟩
    cases g1
set_option maxRecDepth 100000 in
set_option maxHeartbeats 4000000 in
def fX9_eyelineOf (fu : Nat) (sh : HS) (I : HI) (R : HR) (l0 : Nat) (l1 : Nat) : Option Int32 :=
  (oI sh I l1 7 4).bind fun v1 =>
  if v1 = (-1) then
    (some (-2))
  else
    ((oR sh R l0 0 5).bind fun v2 =>
    (oI sh I l1 7 0).bind fun v3 =>
    (oB sh R v2 5 v3).bind fun v4 =>
    (oR sh R v4 5 2).bind fun v5 =>
    (oI sh I l1 7 3).bind fun v6 =>
    (oA sh I v5 v6).bind fun v7 =>
    (oR sh R v4 5 3).bind fun v8 =>
    (oI sh I l1 7 3).bind fun v9 =>
    (oA sh I v8 v9).bind fun v10 =>
    (oI sh I l1 7 4).bind fun v11 =>
    (fX6_isActorAt fu sh I R v4 v11 v7 v10).bind fun v12 =>
    if v12 = 0 then
      ((oR sh R v4 5 2).bind fun v13 =>
      (oI sh I l1 7 4).bind fun v14 =>
      (oA sh I v13 v14).bind fun v15 =>
      (oR sh R v4 5 3).bind fun v16 =>
      (oI sh I l1 7 4).bind fun v17 =>
      (oA sh I v16 v17).bind fun v18 =>
      (fX10_directionNumber fu sh I R (v15 - v7) (v18 - v10)).bind fun v19 =>
      (oI sh I l1 7 1).bind fun v20 =>
      (oI sh I l1 7 2).bind fun v21 =>
      (fX10_directionNumber fu sh I R (v20 - v7) (v21 - v10)).bind fun v22 =>
      (fX10_turnBetween fu sh I R v19 v22).bind fun v23 =>
      some v23)
    else
      (some (-3)))
set_option maxRecDepth 100000 in
set_option maxHeartbeats 4000000 in
theorem vX9_eyelineOf {K J : Nat → Nat} {fu : Nat} {sh : HS} {I : HI} {R : HR} {F : VF} {o : Int32} (hF : F (.inl (some (.int o))) sh I R) {l0 : Nat} {l1 : Nat} (h0 : fX9_eyelineOf fu sh I R l0 l1 = some o) : V K J 73 0 (ent 5 [.ref l0, .ref l1]) [] sh I R (0, 0) F := by
  unfold fX9_eyelineOf at h0
  have h1 := h0; clear h0
  have hc0 : ((0 : Nat), (0 : Nat)).1 ≤ 0 ∧ ((0 : Nat), (0 : Nat)).2 ≤ 0 := ⟨Nat.le_refl _, Nat.le_refl _⟩
  show V K J 73 0 [some (.ref l0), some (.ref l1), none, none, none] [] sh I R (0, 0) F
  refine s_rl (i := 1) (pc' := 1) (by decide +kernel) rfl ?_
  refine s_gI (t := 7) (j := 4) (ty := 0) (pc' := 4) (by decide +kernel) rfl h1 (fun v1 h2 => ?_); clear h1
  refine s_c (v := (-1)) (pc' := 5) (by decide +kernel) ?_
  refine s_ifn (ins := .if_icmp .ne 6) (t := 11) (pc' := 8) (by decide +kernel) rfl rfl rfl h2 (fun p3 h3 => ?_) (fun p3 h3 => ?_) <;> clear h2
  · refine s_rl (i := 0) (pc' := 12) (by decide +kernel) rfl ?_
    refine s_gR (t := 0) (j := 5) (pc' := 15) (by decide +kernel) h3 (fun v2 h4 => ?_); clear h3
    refine s_rl (i := 1) (pc' := 16) (by decide +kernel) rfl ?_
    refine s_gI (t := 7) (j := 0) (ty := 0) (pc' := 19) (by decide +kernel) rfl h4 (fun v3 h5 => ?_); clear h4
    refine s_aal (t := 5) (pc' := 20) (by decide +kernel) h5 (fun v4 h6 => ?_); clear h5
    refine s_rs (i := 2) (pc' := 21) (L' := [some (.ref l0), some (.ref l1), some (.ref v4), none, none]) (by decide +kernel) rfl rfl ?_
    refine s_rl (i := 2) (pc' := 22) (by decide +kernel) rfl ?_
    refine s_gR (t := 5) (j := 2) (pc' := 25) (by decide +kernel) h6 (fun v5 h7 => ?_); clear h6
    refine s_rl (i := 1) (pc' := 26) (by decide +kernel) rfl ?_
    refine s_gI (t := 7) (j := 3) (ty := 0) (pc' := 29) (by decide +kernel) rfl h7 (fun v6 h8 => ?_); clear h7
    refine s_al (pc' := 30) (by decide +kernel) h8 (fun v7 h9 => ?_); clear h8
    refine s_is (i := 3) (pc' := 31) (L' := [some (.ref l0), some (.ref l1), some (.ref v4), some (.int v7), none]) (by decide +kernel) rfl rfl ?_
    refine s_rl (i := 2) (pc' := 32) (by decide +kernel) rfl ?_
    refine s_gR (t := 5) (j := 3) (pc' := 35) (by decide +kernel) h9 (fun v8 h10 => ?_); clear h9
    refine s_rl (i := 1) (pc' := 36) (by decide +kernel) rfl ?_
    refine s_gI (t := 7) (j := 3) (ty := 0) (pc' := 39) (by decide +kernel) rfl h10 (fun v9 h11 => ?_); clear h10
    refine s_al (pc' := 40) (by decide +kernel) h11 (fun v10 h12 => ?_); clear h11
    refine s_is (i := 4) (pc' := 42) (L' := [some (.ref l0), some (.ref l1), some (.ref v4), some (.int v7), some (.int v10)]) (by decide +kernel) rfl rfl ?_
    refine s_rl (i := 2) (pc' := 43) (by decide +kernel) rfl ?_
    refine s_rl (i := 1) (pc' := 44) (by decide +kernel) rfl ?_
    refine s_gI (t := 7) (j := 4) (ty := 0) (pc' := 47) (by decide +kernel) rfl h12 (fun v11 h13 => ?_); clear h12
    refine s_il (i := 3) (pc' := 48) (by decide +kernel) rfl ?_
    refine s_il (i := 4) (pc' := 50) (by decide +kernel) rfl ?_
    refine kX6_isActorAt (X := 0) (Y := 0) (X' := 0) (Y' := 0) (pc' := 53) (by decide +kernel) hc0 rfl h13 (fun v12 c hc1 h14 => ?_); clear h13 hc0
    refine s_if (ins := .ifCond .eq 6) (t := 59) (pc' := 56) (by decide +kernel) rfl rfl rfl h14 (fun p15 h15 => ?_) (fun p15 h15 => ?_) <;> clear h14
    · refine s_rl (i := 2) (pc' := 60) (by decide +kernel) rfl ?_
      refine s_gR (t := 5) (j := 2) (pc' := 63) (by decide +kernel) h15 (fun v13 h16 => ?_); clear h15
      refine s_rl (i := 1) (pc' := 64) (by decide +kernel) rfl ?_
      refine s_gI (t := 7) (j := 4) (ty := 0) (pc' := 67) (by decide +kernel) rfl h16 (fun v14 h17 => ?_); clear h16
      refine s_al (pc' := 68) (by decide +kernel) h17 (fun v15 h18 => ?_); clear h17
      refine s_il (i := 3) (pc' := 69) (by decide +kernel) rfl ?_
      refine s_a (ins := .isub) (pc' := 70) (by decide +kernel) rfl ?_
      refine s_rl (i := 2) (pc' := 71) (by decide +kernel) rfl ?_
      refine s_gR (t := 5) (j := 3) (pc' := 74) (by decide +kernel) h18 (fun v16 h19 => ?_); clear h18
      refine s_rl (i := 1) (pc' := 75) (by decide +kernel) rfl ?_
      refine s_gI (t := 7) (j := 4) (ty := 0) (pc' := 78) (by decide +kernel) rfl h19 (fun v17 h20 => ?_); clear h19
      refine s_al (pc' := 79) (by decide +kernel) h20 (fun v18 h21 => ?_); clear h20
      refine s_il (i := 4) (pc' := 81) (by decide +kernel) rfl ?_
      refine s_a (ins := .isub) (pc' := 82) (by decide +kernel) rfl ?_
      refine kX10_directionNumber (X := 0) (Y := 0) (X' := 0) (Y' := 0) (pc' := 85) (by decide +kernel) hc1 rfl h21 (fun v19 c hc2 h22 => ?_); clear h21 hc1
      refine s_rl (i := 1) (pc' := 86) (by decide +kernel) rfl ?_
      refine s_gI (t := 7) (j := 1) (ty := 0) (pc' := 89) (by decide +kernel) rfl h22 (fun v20 h23 => ?_); clear h22
      refine s_il (i := 3) (pc' := 90) (by decide +kernel) rfl ?_
      refine s_a (ins := .isub) (pc' := 91) (by decide +kernel) rfl ?_
      refine s_rl (i := 1) (pc' := 92) (by decide +kernel) rfl ?_
      refine s_gI (t := 7) (j := 2) (ty := 0) (pc' := 95) (by decide +kernel) rfl h23 (fun v21 h24 => ?_); clear h23
      refine s_il (i := 4) (pc' := 97) (by decide +kernel) rfl ?_
      refine s_a (ins := .isub) (pc' := 98) (by decide +kernel) rfl ?_
      refine kX10_directionNumber (X := 0) (Y := 0) (X' := 0) (Y' := 0) (pc' := 101) (by decide +kernel) hc2 rfl h24 (fun v22 c hc3 h25 => ?_); clear h24 hc2
      refine kX10_turnBetween (X := 0) (Y := 0) (X' := 0) (Y' := 0) (pc' := 104) (by decide +kernel) hc3 rfl h25 (fun v23 c hc4 h26 => ?_); clear h25 hc3
      have e9 := Option.some.inj h26; subst e9
      exact s_ri (X := 0) (Y := 0) (by decide +kernel) hc4 hF
    · refine s_c (v := (-3)) (pc' := 58) (by decide +kernel) ?_
      have e9 := Option.some.inj h15; subst e9
      exact s_ri (X := 0) (Y := 0) (by decide +kernel) hc1 hF
  · refine s_c (v := (-2)) (pc' := 10) (by decide +kernel) ?_
    have e9 := Option.some.inj h3; subst e9
    exact s_ri (X := 0) (Y := 0) (by decide +kernel) hc0 hF
set_option maxRecDepth 100000 in
set_option maxHeartbeats 4000000 in
theorem kX9_eyelineOf {K J : Nat → Nat} {fu : Nat} {sh : HS} {I : HI} {R : HR} {F : VF} {mi pc pc' X Y X' Y' : Nat} {L : VL} {rest : List Value} {c : Nat × Nat} {l0 : Nat} {l1 : Nat} {ω : Type} {o : ω} {g : Int32 → Option ω} (hq : cQ mi pc 73 2 pc' X Y X' Y' = true) (hc : c.1 ≤ X ∧ c.2 ≤ Y) (hr : Nat.ble (catS rest) 8 = true) (h : (fX9_eyelineOf fu sh I R l0 l1).bind g = some o) (kk : ∀ v c', (c'.1 ≤ X' ∧ c'.2 ≤ Y') → g v = some o → V K J mi pc' L ((.int v) :: rest) sh I R c' F) : V K J mi pc L (.ref l1 :: .ref l0 :: rest) sh I R c F := by
  obtain ⟨r, h1, h2⟩ := bnd h
  have ml : mL 73 = 5 := by decide +kernel
  have mk : mK 73 = 0 := by decide +kernel
  refine s_call (as := [.ref l1, .ref l0]) (G := fun o' sh' I' R' => o' = .inl (some (.int r)) ∧ sh' = sh ∧ I' = I ∧ R' = R) hq hc rfl hr (by rw [ml]; rfl) (Or.inl rfl) (fun z => absurd (mk.symm.trans z) (by decide)) (fun z => absurd (mk.symm.trans z) (by decide)) (by rw [ml]; exact vX9_eyelineOf (F := fun o' sh' I' R' => o' = .inl (some (.int r)) ∧ sh' = sh ∧ I' = I ∧ R' = R) ⟨rfl, rfl, rfl, rfl⟩ h1) ?_ ?_ ?_
  · rintro sh' I' R' c' hc' ⟨g1, rfl, rfl, rfl⟩
    cases g1
  · rintro v' sh' I' R' c' hc' ⟨g1, rfl, rfl, rfl⟩
    cases g1
    exact kk _ _ hc' h2
  · rintro E' sh' I' R' ⟨g1, rfl, rfl, rfl⟩
    cases g1
set_option maxRecDepth 100000 in
set_option maxHeartbeats 4000000 in
def fX10_putFourBytes_b3 (fu : Nat) (sh : HS) (R : HR) (k3 : HI → Nat → Int32 → Int32 → Option HI) (k49 : HI → Option HI) (I : HI) (l0 : Nat) (l1 : Int32) (l2 : Int32) : Option HI :=
  if l2 < 0 then
    (k49 I)
  else
    ((oI sh I l0 8 1).bind fun v1 =>
    if 800 ≤ v1 then
      (k49 I)
    else
      ((oR sh R l0 8 0).bind fun v2 =>
      (oI sh I l0 8 1).bind fun v3 =>
      (oS sh I v2 v3 ((iShr l1 l2) &&& 255)).bind fun v4 =>
      (oI sh v4 l0 8 1).bind fun v5 =>
      (oP sh v4 l0 8 1 (v5 + 1)).bind fun v6 =>
      k3 v6 l0 l1 (l2 + (-8))))
set_option maxRecDepth 100000 in
set_option maxHeartbeats 4000000 in
theorem vX10_putFourBytes_b3 {K J : Nat → Nat} {fu : Nat} {sh : HS} {R : HR} {F : VF} {o : HI} (hF : F (.inl none) sh o R) {k3 : HI → Nat → Int32 → Int32 → Option HI} {k49 : HI → Option HI} (hk3 : ∀ {I : HI} {l0 : Nat} {l1 : Int32} {l2 : Int32}  {c : Nat × Nat}, (c.1 ≤ 0 ∧ c.2 ≤ 0) → k3 I l0 l1 l2 = some o → V K J 78 3 [some (.ref l0), some (.int l1), some (.int l2)] [] sh I R c F) (hk49 : ∀ {I : HI} {d0 d1 d2 : Option Value} {c : Nat × Nat}, (c.1 ≤ 0 ∧ c.2 ≤ 0) → k49 I = some o → V K J 78 49 [d0, d1, d2] [] sh I R c F) {I : HI} {l0 : Nat} {l1 : Int32} {l2 : Int32} {c : Nat × Nat} (hc0 : c.1 ≤ 0 ∧ c.2 ≤ 0) (h0 : fX10_putFourBytes_b3 fu sh R k3 k49 I l0 l1 l2 = some o) : V K J 78 3 [some (.ref l0), some (.int l1), some (.int l2)] [] sh I R c F := by
  unfold fX10_putFourBytes_b3 at h0
  refine s_il (i := 2) (pc' := 4) (by decide +kernel) rfl ?_
  refine s_if (ins := .ifCond .lt 45) (t := 49) (pc' := 7) (by decide +kernel) rfl rfl rfl h0 (fun p1 h1 => ?_) (fun p1 h1 => ?_) <;> clear h0
  · exact hk49 hc0 h1
  · refine s_rl (i := 0) (pc' := 8) (by decide +kernel) rfl ?_
    refine s_gI (t := 8) (j := 1) (ty := 0) (pc' := 11) (by decide +kernel) rfl h1 (fun v1 h2 => ?_); clear h1
    refine s_c (v := 800) (pc' := 14) (by decide +kernel) ?_
    refine s_if (ins := .if_icmp .ge 35) (t := 49) (pc' := 17) (by decide +kernel) rfl rfl rfl h2 (fun p3 h3 => ?_) (fun p3 h3 => ?_) <;> clear h2
    · exact hk49 hc0 h3
    · refine s_rl (i := 0) (pc' := 18) (by decide +kernel) rfl ?_
      refine s_gR (t := 8) (j := 0) (pc' := 21) (by decide +kernel) h3 (fun v2 h4 => ?_); clear h3
      refine s_rl (i := 0) (pc' := 22) (by decide +kernel) rfl ?_
      refine s_gI (t := 8) (j := 1) (ty := 0) (pc' := 25) (by decide +kernel) rfl h4 (fun v3 h5 => ?_); clear h4
      refine s_il (i := 1) (pc' := 26) (by decide +kernel) rfl ?_
      refine s_il (i := 2) (pc' := 27) (by decide +kernel) rfl ?_
      refine s_a (ins := .iushr) (pc' := 28) (by decide +kernel) rfl ?_
      refine s_c (v := 255) (pc' := 31) (by decide +kernel) ?_
      refine s_a (ins := .iand) (pc' := 32) (by decide +kernel) rfl ?_
      refine s_as (pc' := 33) (by decide +kernel) h5 (fun v4 h6 => ?_); clear h5
      refine s_rl (i := 0) (pc' := 34) (by decide +kernel) rfl ?_
      refine s_a (ins := .dup) (pc' := 35) (by decide +kernel) rfl ?_
      refine s_gI (t := 8) (j := 1) (ty := 0) (pc' := 38) (by decide +kernel) rfl h6 (fun v5 h7 => ?_); clear h6
      refine s_c (v := 1) (pc' := 39) (by decide +kernel) ?_
      refine s_a (ins := .iadd) (pc' := 40) (by decide +kernel) rfl ?_
      refine s_pI (t := 8) (j := 1) (ty := 0) (pc' := 43) (by decide +kernel) (Or.inl rfl) h7 (fun v6 h8 => ?_); clear h7
      refine s_inc (i := 2) (z := (-8)) (pc' := 46) (L' := [some (.ref l0), some (.int l1), some (.int (l2 + (-8)))]) (by decide +kernel) rfl rfl rfl ?_
      refine s_go (t := 3) (by decide +kernel) ?_
      exact hk3 hc0 h8
set_option maxRecDepth 100000 in
set_option maxHeartbeats 4000000 in
def fX10_putFourBytes_l3 (fu : Nat) (sh : HS) (R : HR) (k49 : HI → Option HI) : Nat → HI → Nat → Int32 → Int32 → Option HI
  | 0 => fun _ _ _ _ => none
  | n + 1 => fX10_putFourBytes_b3 fu sh R (fX10_putFourBytes_l3 fu sh R k49 n) k49
set_option maxRecDepth 100000 in
set_option maxHeartbeats 4000000 in
theorem vX10_putFourBytes_l3 {K J : Nat → Nat} {fu : Nat} {sh : HS} {R : HR} {F : VF} {o : HI} (hF : F (.inl none) sh o R) {k49 : HI → Option HI} (hk49 : ∀ {I : HI} {d0 d1 d2 : Option Value} {c : Nat × Nat}, (c.1 ≤ 0 ∧ c.2 ≤ 0) → k49 I = some o → V K J 78 49 [d0, d1, d2] [] sh I R c F) : ∀ (n : Nat) {I : HI} {l0 : Nat} {l1 : Int32} {l2 : Int32} {c : Nat × Nat} (_ : c.1 ≤ 0 ∧ c.2 ≤ 0) (_ : fX10_putFourBytes_l3 fu sh R k49 n I l0 l1 l2 = some o), V K J 78 3 [some (.ref l0), some (.int l1), some (.int l2)] [] sh I R c F := by
  intro n
  induction n with
  | zero => exact fun _ h0 => nomatch h0
  | succ n ih => exact fun hc0 h0 => vX10_putFourBytes_b3 hF ih hk49 hc0 h0
set_option maxRecDepth 100000 in
set_option maxHeartbeats 4000000 in
def fX10_putFourBytes_b49 (fu : Nat) (sh : HS) (R : HR) (I : HI) : Option HI :=
  some I
set_option maxRecDepth 100000 in
set_option maxHeartbeats 4000000 in
theorem vX10_putFourBytes_b49 {K J : Nat → Nat} {fu : Nat} {sh : HS} {R : HR} {F : VF} {o : HI} (hF : F (.inl none) sh o R) {I : HI} {d0 d1 d2 : Option Value} {c : Nat × Nat} (hc0 : c.1 ≤ 0 ∧ c.2 ≤ 0) (h0 : fX10_putFourBytes_b49 fu sh R I = some o) : V K J 78 49 [d0, d1, d2] [] sh I R c F := by
  unfold fX10_putFourBytes_b49 at h0
  have e9 := Option.some.inj h0; subst e9
  exact s_rv (X := 0) (Y := 0) (by decide +kernel) hc0 hF
set_option maxRecDepth 100000 in
set_option maxHeartbeats 4000000 in
def fX10_putFourBytes (fu : Nat) (sh : HS) (I : HI) (R : HR) (l0 : Nat) (l1 : Int32) : Option HI :=
  if isT sh l0 8 = true then
    ((fX10_putFourBytes_l3 fu sh R (fX10_putFourBytes_b49 fu sh R) fu) I l0 l1 24)
  else none
set_option maxRecDepth 100000 in
set_option maxHeartbeats 4000000 in
theorem vX10_putFourBytes {K J : Nat → Nat} {fu : Nat} {sh : HS} {I : HI} {R : HR} {F : VF} {o : HI} (hF : F (.inl none) sh o R) {l0 : Nat} {l1 : Int32} (h0 : fX10_putFourBytes fu sh I R l0 l1 = some o) : V K J 78 0 (ent 3 [.ref l0, .int l1]) [] sh I R (0, 0) F := by
  unfold fX10_putFourBytes at h0
  obtain ⟨-, h1⟩ := gd h0; clear h0
  have hc0 : ((0 : Nat), (0 : Nat)).1 ≤ 0 ∧ ((0 : Nat), (0 : Nat)).2 ≤ 0 := ⟨Nat.le_refl _, Nat.le_refl _⟩
  show V K J 78 0 [some (.ref l0), some (.int l1), none] [] sh I R (0, 0) F
  refine s_c (v := 24) (pc' := 2) (by decide +kernel) ?_
  refine s_is (i := 2) (pc' := 3) (L' := [some (.ref l0), some (.int l1), some (.int 24)]) (by decide +kernel) rfl rfl ?_
  exact (vX10_putFourBytes_l3 hF (vX10_putFourBytes_b49 hF) fu) hc0 h1
set_option maxRecDepth 100000 in
set_option maxHeartbeats 4000000 in
theorem kX10_putFourBytes {K J : Nat → Nat} {fu : Nat} {sh : HS} {I : HI} {R : HR} {F : VF} {mi pc pc' X Y X' Y' : Nat} {L : VL} {rest : List Value} {c : Nat × Nat} {l0 : Nat} {l1 : Int32} {ω : Type} {o : ω} {g : HI → Option ω} (hq : cQ mi pc 78 2 pc' X Y X' Y' = true) (hc : c.1 ≤ X ∧ c.2 ≤ Y) (hr : Nat.ble (catS rest) 8 = true) (h : (fX10_putFourBytes fu sh I R l0 l1).bind g = some o) (kk : ∀ w c', (c'.1 ≤ X' ∧ c'.2 ≤ Y') → g w = some o → V K J mi pc' L (rest) sh w R c' F) : V K J mi pc L (.int l1 :: .ref l0 :: rest) sh I R c F := by
  obtain ⟨r, h1, h2⟩ := bnd h
  have hT : isT sh l0 8 = true := by unfold fX10_putFourBytes at h1; exact (gd h1).1
  have ml : mL 78 = 3 := by decide +kernel
  have mk : mK 78 = 1 := by decide +kernel
  have mc : mC 78 = 8 := by decide +kernel
  refine s_call (as := [.int l1, .ref l0]) (G := fun o' sh' I' R' => o' = .inl none ∧ sh' = sh ∧ I' = r ∧ R' = R) hq hc rfl hr (by rw [ml]; rfl) (Or.inl rfl) (fun _ => Or.inl ⟨by rw [mc]; decide, by rw [mc]; exact isT_iff.mp hT⟩) (fun z => absurd (mk.symm.trans z) (by decide)) (by rw [ml]; exact vX10_putFourBytes (F := fun o' sh' I' R' => o' = .inl none ∧ sh' = sh ∧ I' = r ∧ R' = R) ⟨rfl, rfl, rfl, rfl⟩ h1) ?_ ?_ ?_
  · rintro sh' I' R' c' hc' ⟨g1, rfl, rfl, rfl⟩
    cases g1
    exact kk _ _ hc' h2
  · rintro v' sh' I' R' c' hc' ⟨g1, rfl, rfl, rfl⟩
    cases g1
  · rintro E' sh' I' R' ⟨g1, rfl, rfl, rfl⟩
    cases g1
set_option maxRecDepth 100000 in
set_option maxHeartbeats 4000000 in
def fX10_append (fu : Nat) (sh : HS) (I : HI) (R : HR) (l0 : Nat) (l1 : Int32) (l2 : Int32) (l3 : Int32) (l4 : Int32) (l5 : Int32) : Option ((Int32 ⊕ String) × HI) :=
  if isT sh l0 8 = true then
    ((oI sh I l0 8 1).bind fun v1 =>
    if (v1 + 20) ≤ 800 then
      ((fX10_putFourBytes fu sh I R l0 l1).bind fun w2 =>
      (fX10_putFourBytes fu sh w2 R l0 l2).bind fun w3 =>
      (fX10_putFourBytes fu sh w3 R l0 l3).bind fun w4 =>
      (fX10_putFourBytes fu sh w4 R l0 l4).bind fun w5 =>
      (fX10_putFourBytes fu sh w5 R l0 l5).bind fun w6 =>
      (oI sh w6 l0 8 1).bind fun v7 =>
      some (.inl v7, w6))
    else
      (some (.inr "java/lang/IllegalStateException", I)))
  else none
set_option maxRecDepth 100000 in
set_option maxHeartbeats 4000000 in
theorem vX10_append {K J : Nat → Nat} {fu : Nat} {sh : HS} {I : HI} {R : HR} {F : VF} {o : ((Int32 ⊕ String) × HI)} (hF : F (voI o.1) sh o.2 R) {l0 : Nat} {l1 : Int32} {l2 : Int32} {l3 : Int32} {l4 : Int32} {l5 : Int32} (h0 : fX10_append fu sh I R l0 l1 l2 l3 l4 l5 = some o) : V K J 77 0 (ent 6 [.ref l0, .int l1, .int l2, .int l3, .int l4, .int l5]) [] sh I R (0, 0) F := by
  unfold fX10_append at h0
  obtain ⟨-, h1⟩ := gd h0; clear h0
  have hc0 : ((0 : Nat), (0 : Nat)).1 ≤ 0 ∧ ((0 : Nat), (0 : Nat)).2 ≤ 0 := ⟨Nat.le_refl _, Nat.le_refl _⟩
  show V K J 77 0 [some (.ref l0), some (.int l1), some (.int l2), some (.int l3), some (.int l4), some (.int l5)] [] sh I R (0, 0) F
  refine s_rl (i := 0) (pc' := 1) (by decide +kernel) rfl ?_
  refine s_gI (t := 8) (j := 1) (ty := 0) (pc' := 4) (by decide +kernel) rfl h1 (fun v1 h2 => ?_); clear h1
  refine s_c (v := 20) (pc' := 6) (by decide +kernel) ?_
  refine s_a (ins := .iadd) (pc' := 7) (by decide +kernel) rfl ?_
  refine s_c (v := 800) (pc' := 10) (by decide +kernel) ?_
  refine s_if (ins := .if_icmp .le 13) (t := 23) (pc' := 13) (by decide +kernel) rfl rfl rfl h2 (fun p3 h3 => ?_) (fun p3 h3 => ?_) <;> clear h2
  · refine s_rl (i := 0) (pc' := 24) (by decide +kernel) rfl ?_
    refine s_il (i := 1) (pc' := 25) (by decide +kernel) rfl ?_
    refine kX10_putFourBytes (X := 0) (Y := 0) (X' := 0) (Y' := 0) (pc' := 28) (by decide +kernel) hc0 rfl h3 (fun w2 c hc1 h4 => ?_); clear h3 hc0
    refine s_rl (i := 0) (pc' := 29) (by decide +kernel) rfl ?_
    refine s_il (i := 2) (pc' := 30) (by decide +kernel) rfl ?_
    refine kX10_putFourBytes (X := 0) (Y := 0) (X' := 0) (Y' := 0) (pc' := 33) (by decide +kernel) hc1 rfl h4 (fun w3 c hc2 h5 => ?_); clear h4 hc1
    refine s_rl (i := 0) (pc' := 34) (by decide +kernel) rfl ?_
    refine s_il (i := 3) (pc' := 35) (by decide +kernel) rfl ?_
    refine kX10_putFourBytes (X := 0) (Y := 0) (X' := 0) (Y' := 0) (pc' := 38) (by decide +kernel) hc2 rfl h5 (fun w4 c hc3 h6 => ?_); clear h5 hc2
    refine s_rl (i := 0) (pc' := 39) (by decide +kernel) rfl ?_
    refine s_il (i := 4) (pc' := 41) (by decide +kernel) rfl ?_
    refine kX10_putFourBytes (X := 0) (Y := 0) (X' := 0) (Y' := 0) (pc' := 44) (by decide +kernel) hc3 rfl h6 (fun w5 c hc4 h7 => ?_); clear h6 hc3
    refine s_rl (i := 0) (pc' := 45) (by decide +kernel) rfl ?_
    refine s_il (i := 5) (pc' := 47) (by decide +kernel) rfl ?_
    refine kX10_putFourBytes (X := 0) (Y := 0) (X' := 0) (Y' := 0) (pc' := 50) (by decide +kernel) hc4 rfl h7 (fun w6 c hc5 h8 => ?_); clear h7 hc4
    refine s_rl (i := 0) (pc' := 51) (by decide +kernel) rfl ?_
    refine s_gI (t := 8) (j := 1) (ty := 0) (pc' := 54) (by decide +kernel) rfl h8 (fun v7 h9 => ?_); clear h8
    have e9 := Option.some.inj h9; subst e9
    exact s_ri (X := 0) (Y := 0) (by decide +kernel) hc5 hF
  · have e9 := Option.some.inj h3; subst e9
    exact s_th (E := "java/lang/IllegalStateException") (X := 0) (Y := 0) (by decide +kernel) hc0 rfl hF
set_option maxRecDepth 100000 in
set_option maxHeartbeats 4000000 in
theorem kX10_append {K J : Nat → Nat} {fu : Nat} {sh : HS} {I : HI} {R : HR} {F : VF} {mi pc pc' X Y X' Y' : Nat} {L : VL} {rest : List Value} {c : Nat × Nat} {l0 : Nat} {l1 : Int32} {l2 : Int32} {l3 : Int32} {l4 : Int32} {l5 : Int32} {ω : Type} {o : ω} {e : String → HI → Option ω} {g : Int32 → HI → Option ω} (hq : cQ mi pc 77 6 pc' X Y X' Y' = true) (hc : c.1 ≤ X ∧ c.2 ≤ Y) (hr : Nat.ble (catS rest) 8 = true) (h : oTh (fX10_append fu sh I R l0 l1 l2 l3 l4 l5) e g = some o) (kk : ∀ v w c', (c'.1 ≤ X' ∧ c'.2 ≤ Y') → g v w = some o → V K J mi pc' L ((.int v) :: rest) sh w R c' F) (kx : ∀ E w, e E w = some o → F (.inr E) sh w R) : V K J mi pc L (.int l5 :: .int l4 :: .int l3 :: .int l2 :: .int l1 :: .ref l0 :: rest) sh I R c F := by
  obtain ⟨r, h1, h2⟩ := bnd h
  have hT : isT sh l0 8 = true := by unfold fX10_append at h1; exact (gd h1).1
  have ml : mL 77 = 6 := by decide +kernel
  have mk : mK 77 = 1 := by decide +kernel
  have mc : mC 77 = 8 := by decide +kernel
  obtain ⟨r, w⟩ := r
  rcases r with v | E
  · refine s_call (as := [.int l5, .int l4, .int l3, .int l2, .int l1, .ref l0]) (G := fun o' sh' I' R' => o' = .inl (some (.int v)) ∧ sh' = sh ∧ I' = w ∧ R' = R) hq hc rfl hr (by rw [ml]; rfl) (Or.inl rfl) (fun _ => Or.inl ⟨by rw [mc]; decide, by rw [mc]; exact isT_iff.mp hT⟩) (fun z => absurd (mk.symm.trans z) (by decide)) (by rw [ml]; exact vX10_append (F := fun o' sh' I' R' => o' = .inl (some (.int v)) ∧ sh' = sh ∧ I' = w ∧ R' = R) ⟨rfl, rfl, rfl, rfl⟩ h1) ?_ ?_ ?_
    · rintro sh' I' R' c' hc' ⟨g1, rfl, rfl, rfl⟩
      cases g1
    · rintro v' sh' I' R' c' hc' ⟨g1, rfl, rfl, rfl⟩
      cases g1
      exact kk _ _ _ hc' h2
    · rintro E' sh' I' R' ⟨g1, rfl, rfl, rfl⟩
      cases g1
  · refine s_call (as := [.int l5, .int l4, .int l3, .int l2, .int l1, .ref l0]) (G := fun o' sh' I' R' => o' = .inr E ∧ sh' = sh ∧ I' = w ∧ R' = R) hq hc rfl hr (by rw [ml]; rfl) (Or.inl rfl) (fun _ => Or.inl ⟨by rw [mc]; decide, by rw [mc]; exact isT_iff.mp hT⟩) (fun z => absurd (mk.symm.trans z) (by decide)) (by rw [ml]; exact vX10_append (F := fun o' sh' I' R' => o' = .inr E ∧ sh' = sh ∧ I' = w ∧ R' = R) ⟨rfl, rfl, rfl, rfl⟩ h1) ?_ ?_ ?_
    · rintro sh' I' R' c' hc' ⟨g1, rfl, rfl, rfl⟩
      cases g1
    · rintro v' sh' I' R' c' hc' ⟨g1, rfl, rfl, rfl⟩
      cases g1
    · rintro E' sh' I' R' ⟨g1, rfl, rfl, rfl⟩
      cases g1
      exact kx _ _ h2
set_option maxRecDepth 100000 in
set_option maxHeartbeats 4000000 in
def fX10_truncate_b12 (fu : Nat) (sh : HS) (R : HR) (I : HI) : Option ((Int32 ⊕ String) × HI) :=
  some (.inr "java/lang/IllegalArgumentException", I)
set_option maxRecDepth 100000 in
set_option maxHeartbeats 4000000 in
theorem vX10_truncate_b12 {K J : Nat → Nat} {fu : Nat} {sh : HS} {R : HR} {F : VF} {o : ((Int32 ⊕ String) × HI)} (hF : F (voI o.1) sh o.2 R) {I : HI} {d0 d1 : Option Value} {c : Nat × Nat} (hc0 : c.1 ≤ 0 ∧ c.2 ≤ 0) (h0 : fX10_truncate_b12 fu sh R I = some o) : V K J 79 12 [d0, d1] [] sh I R c F := by
  unfold fX10_truncate_b12 at h0
  have e9 := Option.some.inj h0; subst e9
  exact s_th (E := "java/lang/IllegalArgumentException") (X := 0) (Y := 0) (by decide +kernel) hc0 rfl hF
set_option maxRecDepth 100000 in
set_option maxHeartbeats 4000000 in
def fX10_truncate (fu : Nat) (sh : HS) (I : HI) (R : HR) (l0 : Nat) (l1 : Int32) : Option ((Int32 ⊕ String) × HI) :=
  if isT sh l0 8 = true then
    (if l1 < 0 then
      ((fX10_truncate_b12 fu sh R) I)
    else
      ((oI sh I l0 8 1).bind fun v1 =>
      if l1 ≤ v1 then
        ((oP sh I l0 8 1 l1).bind fun v2 =>
        (oI sh v2 l0 8 1).bind fun v3 =>
        some (.inl v3, v2))
      else
        ((fX10_truncate_b12 fu sh R) I)))
  else none
set_option maxRecDepth 100000 in
set_option maxHeartbeats 4000000 in
theorem vX10_truncate {K J : Nat → Nat} {fu : Nat} {sh : HS} {I : HI} {R : HR} {F : VF} {o : ((Int32 ⊕ String) × HI)} (hF : F (voI o.1) sh o.2 R) {l0 : Nat} {l1 : Int32} (h0 : fX10_truncate fu sh I R l0 l1 = some o) : V K J 79 0 (ent 2 [.ref l0, .int l1]) [] sh I R (0, 0) F := by
  unfold fX10_truncate at h0
  obtain ⟨-, h1⟩ := gd h0; clear h0
  have hc0 : ((0 : Nat), (0 : Nat)).1 ≤ 0 ∧ ((0 : Nat), (0 : Nat)).2 ≤ 0 := ⟨Nat.le_refl _, Nat.le_refl _⟩
  show V K J 79 0 [some (.ref l0), some (.int l1)] [] sh I R (0, 0) F
  refine s_il (i := 1) (pc' := 1) (by decide +kernel) rfl ?_
  refine s_if (ins := .ifCond .lt 11) (t := 12) (pc' := 4) (by decide +kernel) rfl rfl rfl h1 (fun p2 h2 => ?_) (fun p2 h2 => ?_) <;> clear h1
  · exact (vX10_truncate_b12 hF) hc0 h2
  · refine s_il (i := 1) (pc' := 5) (by decide +kernel) rfl ?_
    refine s_rl (i := 0) (pc' := 6) (by decide +kernel) rfl ?_
    refine s_gI (t := 8) (j := 1) (ty := 0) (pc' := 9) (by decide +kernel) rfl h2 (fun v1 h3 => ?_); clear h2
    refine s_if (ins := .if_icmp .le 13) (t := 22) (pc' := 12) (by decide +kernel) rfl rfl rfl h3 (fun p4 h4 => ?_) (fun p4 h4 => ?_) <;> clear h3
    · refine s_rl (i := 0) (pc' := 23) (by decide +kernel) rfl ?_
      refine s_il (i := 1) (pc' := 24) (by decide +kernel) rfl ?_
      refine s_pI (t := 8) (j := 1) (ty := 0) (pc' := 27) (by decide +kernel) (Or.inl rfl) h4 (fun v2 h5 => ?_); clear h4
      refine s_rl (i := 0) (pc' := 28) (by decide +kernel) rfl ?_
      refine s_gI (t := 8) (j := 1) (ty := 0) (pc' := 31) (by decide +kernel) rfl h5 (fun v3 h6 => ?_); clear h5
      have e9 := Option.some.inj h6; subst e9
      exact s_ri (X := 0) (Y := 0) (by decide +kernel) hc0 hF
    · exact (vX10_truncate_b12 hF) hc0 h4
set_option maxRecDepth 100000 in
set_option maxHeartbeats 4000000 in
theorem kX10_truncate {K J : Nat → Nat} {fu : Nat} {sh : HS} {I : HI} {R : HR} {F : VF} {mi pc pc' X Y X' Y' : Nat} {L : VL} {rest : List Value} {c : Nat × Nat} {l0 : Nat} {l1 : Int32} {ω : Type} {o : ω} {e : String → HI → Option ω} {g : Int32 → HI → Option ω} (hq : cQ mi pc 79 2 pc' X Y X' Y' = true) (hc : c.1 ≤ X ∧ c.2 ≤ Y) (hr : Nat.ble (catS rest) 8 = true) (h : oTh (fX10_truncate fu sh I R l0 l1) e g = some o) (kk : ∀ v w c', (c'.1 ≤ X' ∧ c'.2 ≤ Y') → g v w = some o → V K J mi pc' L ((.int v) :: rest) sh w R c' F) (kx : ∀ E w, e E w = some o → F (.inr E) sh w R) : V K J mi pc L (.int l1 :: .ref l0 :: rest) sh I R c F := by
  obtain ⟨r, h1, h2⟩ := bnd h
  have hT : isT sh l0 8 = true := by unfold fX10_truncate at h1; exact (gd h1).1
  have ml : mL 79 = 2 := by decide +kernel
  have mk : mK 79 = 1 := by decide +kernel
  have mc : mC 79 = 8 := by decide +kernel
  obtain ⟨r, w⟩ := r
  rcases r with v | E
  · refine s_call (as := [.int l1, .ref l0]) (G := fun o' sh' I' R' => o' = .inl (some (.int v)) ∧ sh' = sh ∧ I' = w ∧ R' = R) hq hc rfl hr (by rw [ml]; rfl) (Or.inl rfl) (fun _ => Or.inl ⟨by rw [mc]; decide, by rw [mc]; exact isT_iff.mp hT⟩) (fun z => absurd (mk.symm.trans z) (by decide)) (by rw [ml]; exact vX10_truncate (F := fun o' sh' I' R' => o' = .inl (some (.int v)) ∧ sh' = sh ∧ I' = w ∧ R' = R) ⟨rfl, rfl, rfl, rfl⟩ h1) ?_ ?_ ?_
    · rintro sh' I' R' c' hc' ⟨g1, rfl, rfl, rfl⟩
      cases g1
    · rintro v' sh' I' R' c' hc' ⟨g1, rfl, rfl, rfl⟩
      cases g1
      exact kk _ _ _ hc' h2
    · rintro E' sh' I' R' ⟨g1, rfl, rfl, rfl⟩
      cases g1
  · refine s_call (as := [.int l1, .ref l0]) (G := fun o' sh' I' R' => o' = .inr E ∧ sh' = sh ∧ I' = w ∧ R' = R) hq hc rfl hr (by rw [ml]; rfl) (Or.inl rfl) (fun _ => Or.inl ⟨by rw [mc]; decide, by rw [mc]; exact isT_iff.mp hT⟩) (fun z => absurd (mk.symm.trans z) (by decide)) (by rw [ml]; exact vX10_truncate (F := fun o' sh' I' R' => o' = .inr E ∧ sh' = sh ∧ I' = w ∧ R' = R) ⟨rfl, rfl, rfl, rfl⟩ h1) ?_ ?_ ?_
    · rintro sh' I' R' c' hc' ⟨g1, rfl, rfl, rfl⟩
      cases g1
    · rintro v' sh' I' R' c' hc' ⟨g1, rfl, rfl, rfl⟩
      cases g1
    · rintro E' sh' I' R' ⟨g1, rfl, rfl, rfl⟩
      cases g1
      exact kx _ _ h2
set_option maxRecDepth 100000 in
set_option maxHeartbeats 4000000 in
def fX10_forgetAnswers (fu : Nat) (sh : HS) (I : HI) (R : HR) (l0 : Nat) : Option HI :=
  if isT sh l0 8 = true then
    ((oP sh I l0 8 9 0).bind fun v1 =>
    (oP sh v1 l0 8 11 0).bind fun v2 =>
    some v2)
  else none
set_option maxRecDepth 100000 in
set_option maxHeartbeats 4000000 in
theorem vX10_forgetAnswers {K J : Nat → Nat} {fu : Nat} {sh : HS} {I : HI} {R : HR} {F : VF} {o : HI} (hF : F (.inl none) sh o R) {l0 : Nat} (h0 : fX10_forgetAnswers fu sh I R l0 = some o) : V K J 135 0 (ent 1 [.ref l0]) [] sh I R (0, 0) F := by
  unfold fX10_forgetAnswers at h0
  obtain ⟨-, h1⟩ := gd h0; clear h0
  have hc0 : ((0 : Nat), (0 : Nat)).1 ≤ 0 ∧ ((0 : Nat), (0 : Nat)).2 ≤ 0 := ⟨Nat.le_refl _, Nat.le_refl _⟩
  show V K J 135 0 [some (.ref l0)] [] sh I R (0, 0) F
  refine s_rl (i := 0) (pc' := 1) (by decide +kernel) rfl ?_
  refine s_c (v := 0) (pc' := 2) (by decide +kernel) ?_
  refine s_pI (t := 8) (j := 9) (ty := 1) (pc' := 5) (by decide +kernel) (Or.inr ⟨rfl, by decide⟩) h1 (fun v1 h2 => ?_); clear h1
  refine s_rl (i := 0) (pc' := 6) (by decide +kernel) rfl ?_
  refine s_c (v := 0) (pc' := 7) (by decide +kernel) ?_
  refine s_pI (t := 8) (j := 11) (ty := 1) (pc' := 10) (by decide +kernel) (Or.inr ⟨rfl, by decide⟩) h2 (fun v2 h3 => ?_); clear h2
  have e9 := Option.some.inj h3; subst e9
  exact s_rv (X := 0) (Y := 0) (by decide +kernel) hc0 hF
set_option maxRecDepth 100000 in
set_option maxHeartbeats 4000000 in
theorem kX10_forgetAnswers {K J : Nat → Nat} {fu : Nat} {sh : HS} {I : HI} {R : HR} {F : VF} {mi pc pc' X Y X' Y' : Nat} {L : VL} {rest : List Value} {c : Nat × Nat} {l0 : Nat} {ω : Type} {o : ω} {g : HI → Option ω} (hq : cQ mi pc 135 1 pc' X Y X' Y' = true) (hc : c.1 ≤ X ∧ c.2 ≤ Y) (hr : Nat.ble (catS rest) 8 = true) (h : (fX10_forgetAnswers fu sh I R l0).bind g = some o) (kk : ∀ w c', (c'.1 ≤ X' ∧ c'.2 ≤ Y') → g w = some o → V K J mi pc' L (rest) sh w R c' F) : V K J mi pc L (.ref l0 :: rest) sh I R c F := by
  obtain ⟨r, h1, h2⟩ := bnd h
  have hT : isT sh l0 8 = true := by unfold fX10_forgetAnswers at h1; exact (gd h1).1
  have ml : mL 135 = 1 := by decide +kernel
  have mk : mK 135 = 1 := by decide +kernel
  have mc : mC 135 = 8 := by decide +kernel
  refine s_call (as := [.ref l0]) (G := fun o' sh' I' R' => o' = .inl none ∧ sh' = sh ∧ I' = r ∧ R' = R) hq hc rfl hr (by rw [ml]; rfl) (Or.inl rfl) (fun _ => Or.inl ⟨by rw [mc]; decide, by rw [mc]; exact isT_iff.mp hT⟩) (fun z => absurd (mk.symm.trans z) (by decide)) (by rw [ml]; exact vX10_forgetAnswers (F := fun o' sh' I' R' => o' = .inl none ∧ sh' = sh ∧ I' = r ∧ R' = R) ⟨rfl, rfl, rfl, rfl⟩ h1) ?_ ?_ ?_
  · rintro sh' I' R' c' hc' ⟨g1, rfl, rfl, rfl⟩
    cases g1
    exact kk _ _ hc' h2
  · rintro v' sh' I' R' c' hc' ⟨g1, rfl, rfl, rfl⟩
    cases g1
  · rintro E' sh' I' R' ⟨g1, rfl, rfl, rfl⟩
    cases g1
set_option maxRecDepth 100000 in
set_option maxHeartbeats 4000000 in
def fX10_load (fu : Nat) (sh : HS) (I : HI) (R : HR) (l0 : Nat) : Option (Int32 × (HI × HR)) :=
  if isT sh l0 8 = true then
    ((oR sh R l0 8 6).bind fun v1 =>
    (oR sh R l0 8 0).bind fun v2 =>
    (oI sh I l0 8 1).bind fun v3 =>
    (oR sh R l0 8 5).bind fun v4 =>
    oH (fX1_read fu sh I R v1 v2 v3 v4) fun v5 w5 =>
    (oP sh w5.1 l0 8 1 0).bind fun v6 =>
    if v5 = 0 then
      ((oP sh v6 l0 8 2 (-1)).bind fun v7 =>
      (oR sh w5.2 l0 8 4).bind fun v8 =>
      (oR sh w5.2 l0 8 5).bind fun v9 =>
      (fX0_copyFrom fu sh v7 w5.2 v8 v9).bind fun w10 =>
      (oP sh w10 l0 8 3 1).bind fun v11 =>
      (oR sh w5.2 l0 8 7).bind fun v12 =>
      (fX3_forgetAll fu sh v11 w5.2 v12).bind fun w13 =>
      (fX10_forgetAnswers fu sh w13 w5.2 l0).bind fun w14 =>
      (oR sh w5.2 l0 8 4).bind fun v15 =>
      (oI sh w14 v15 0 4).bind fun v16 =>
      some (v16, (w14, w5.2)))
    else
      ((oR sh w5.2 l0 8 6).bind fun v17 =>
      (fX1_position fu sh v6 w5.2 v17).bind fun v18 =>
      (oP sh v6 l0 8 2 v18).bind fun v19 =>
      some (((-10) - v5), (v19, w5.2))))
  else none
set_option maxRecDepth 100000 in
set_option maxHeartbeats 4000000 in
theorem vX10_load {K J : Nat → Nat} {fu : Nat} {sh : HS} {I : HI} {R : HR} {F : VF} {o : (Int32 × (HI × HR))} (hF : F (.inl (some (.int o.1))) sh o.2.1 o.2.2) {l0 : Nat} (h0 : fX10_load fu sh I R l0 = some o) : V K J 80 0 (ent 2 [.ref l0]) [] sh I R (0, 0) F := by
  unfold fX10_load at h0
  obtain ⟨-, h1⟩ := gd h0; clear h0
  have hc0 : ((0 : Nat), (0 : Nat)).1 ≤ 0 ∧ ((0 : Nat), (0 : Nat)).2 ≤ 0 := ⟨Nat.le_refl _, Nat.le_refl _⟩
  show V K J 80 0 [some (.ref l0), none] [] sh I R (0, 0) F
  refine s_rl (i := 0) (pc' := 1) (by decide +kernel) rfl ?_
  refine s_gR (t := 8) (j := 6) (pc' := 4) (by decide +kernel) h1 (fun v1 h2 => ?_); clear h1
  refine s_rl (i := 0) (pc' := 5) (by decide +kernel) rfl ?_
  refine s_gR (t := 8) (j := 0) (pc' := 8) (by decide +kernel) h2 (fun v2 h3 => ?_); clear h2
  refine s_rl (i := 0) (pc' := 9) (by decide +kernel) rfl ?_
  refine s_gI (t := 8) (j := 1) (ty := 0) (pc' := 12) (by decide +kernel) rfl h3 (fun v3 h4 => ?_); clear h3
  refine s_rl (i := 0) (pc' := 13) (by decide +kernel) rfl ?_
  refine s_gR (t := 8) (j := 5) (pc' := 16) (by decide +kernel) h4 (fun v4 h5 => ?_); clear h4
  refine kX1_read (X := 0) (Y := 0) (X' := 0) (Y' := 0) (pc' := 19) (by decide +kernel) hc0 rfl h5 (fun v5 w5 c hc1 h6 => ?_); clear h5 hc0
  refine s_is (i := 1) (pc' := 20) (L' := [some (.ref l0), some (.int v5)]) (by decide +kernel) rfl rfl ?_
  refine s_rl (i := 0) (pc' := 21) (by decide +kernel) rfl ?_
  refine s_c (v := 0) (pc' := 22) (by decide +kernel) ?_
  refine s_pI (t := 8) (j := 1) (ty := 0) (pc' := 25) (by decide +kernel) (Or.inl rfl) h6 (fun v6 h7 => ?_); clear h6
  refine s_il (i := 1) (pc' := 26) (by decide +kernel) rfl ?_
  refine s_if (ins := .ifCond .eq 19) (t := 45) (pc' := 29) (by decide +kernel) rfl rfl rfl h7 (fun p8 h8 => ?_) (fun p8 h8 => ?_) <;> clear h7
  · refine s_rl (i := 0) (pc' := 46) (by decide +kernel) rfl ?_
    refine s_c (v := (-1)) (pc' := 47) (by decide +kernel) ?_
    refine s_pI (t := 8) (j := 2) (ty := 0) (pc' := 50) (by decide +kernel) (Or.inl rfl) h8 (fun v7 h9 => ?_); clear h8
    refine s_rl (i := 0) (pc' := 51) (by decide +kernel) rfl ?_
    refine s_gR (t := 8) (j := 4) (pc' := 54) (by decide +kernel) h9 (fun v8 h10 => ?_); clear h9
    refine s_rl (i := 0) (pc' := 55) (by decide +kernel) rfl ?_
    refine s_gR (t := 8) (j := 5) (pc' := 58) (by decide +kernel) h10 (fun v9 h11 => ?_); clear h10
    refine kX0_copyFrom (X := 0) (Y := 0) (X' := 0) (Y' := 0) (pc' := 61) (by decide +kernel) hc1 rfl h11 (fun w10 c hc2 h12 => ?_); clear h11 hc1
    refine s_rl (i := 0) (pc' := 62) (by decide +kernel) rfl ?_
    refine s_c (v := 1) (pc' := 63) (by decide +kernel) ?_
    refine s_pI (t := 8) (j := 3) (ty := 1) (pc' := 66) (by decide +kernel) (Or.inr ⟨rfl, by decide⟩) h12 (fun v11 h13 => ?_); clear h12
    refine s_rl (i := 0) (pc' := 67) (by decide +kernel) rfl ?_
    refine s_gR (t := 8) (j := 7) (pc' := 70) (by decide +kernel) h13 (fun v12 h14 => ?_); clear h13
    refine kX3_forgetAll (X := 0) (Y := 0) (X' := 0) (Y' := 0) (pc' := 73) (by decide +kernel) hc2 rfl h14 (fun w13 c hc3 h15 => ?_); clear h14 hc2
    refine s_rl (i := 0) (pc' := 74) (by decide +kernel) rfl ?_
    refine kX10_forgetAnswers (X := 0) (Y := 0) (X' := 0) (Y' := 0) (pc' := 77) (by decide +kernel) hc3 rfl h15 (fun w14 c hc4 h16 => ?_); clear h15 hc3
    refine s_rl (i := 0) (pc' := 78) (by decide +kernel) rfl ?_
    refine s_gR (t := 8) (j := 4) (pc' := 81) (by decide +kernel) h16 (fun v15 h17 => ?_); clear h16
    refine s_gI (t := 0) (j := 4) (ty := 0) (pc' := 84) (by decide +kernel) rfl h17 (fun v16 h18 => ?_); clear h17
    have e9 := Option.some.inj h18; subst e9
    exact s_ri (X := 0) (Y := 0) (by decide +kernel) hc4 hF
  · refine s_rl (i := 0) (pc' := 30) (by decide +kernel) rfl ?_
    refine s_rl (i := 0) (pc' := 31) (by decide +kernel) rfl ?_
    refine s_gR (t := 8) (j := 6) (pc' := 34) (by decide +kernel) h8 (fun v17 h9 => ?_); clear h8
    refine kX1_position (X := 0) (Y := 0) (X' := 0) (Y' := 0) (pc' := 37) (by decide +kernel) hc1 rfl h9 (fun v18 c hc2 h10 => ?_); clear h9 hc1
    refine s_pI (t := 8) (j := 2) (ty := 0) (pc' := 40) (by decide +kernel) (Or.inl rfl) h10 (fun v19 h11 => ?_); clear h10
    refine s_c (v := (-10)) (pc' := 42) (by decide +kernel) ?_
    refine s_il (i := 1) (pc' := 43) (by decide +kernel) rfl ?_
    refine s_a (ins := .isub) (pc' := 44) (by decide +kernel) rfl ?_
    have e9 := Option.some.inj h11; subst e9
    exact s_ri (X := 0) (Y := 0) (by decide +kernel) hc2 hF
set_option maxRecDepth 100000 in
set_option maxHeartbeats 4000000 in
theorem kX10_load {K J : Nat → Nat} {fu : Nat} {sh : HS} {I : HI} {R : HR} {F : VF} {mi pc pc' X Y X' Y' : Nat} {L : VL} {rest : List Value} {c : Nat × Nat} {l0 : Nat} {ω : Type} {o : ω} {g : Int32 → (HI × HR) → Option ω} (hq : cQ mi pc 80 1 pc' X Y X' Y' = true) (hc : c.1 ≤ X ∧ c.2 ≤ Y) (hr : Nat.ble (catS rest) 8 = true) (h : oH (fX10_load fu sh I R l0) g = some o) (kk : ∀ v w c', (c'.1 ≤ X' ∧ c'.2 ≤ Y') → g v w = some o → V K J mi pc' L ((.int v) :: rest) sh w.1 w.2 c' F) : V K J mi pc L (.ref l0 :: rest) sh I R c F := by
  obtain ⟨r, h1, h2⟩ := bnd h
  have hT : isT sh l0 8 = true := by unfold fX10_load at h1; exact (gd h1).1
  have ml : mL 80 = 2 := by decide +kernel
  have mk : mK 80 = 1 := by decide +kernel
  have mc : mC 80 = 8 := by decide +kernel
  obtain ⟨v, w⟩ := r
  refine s_call (as := [.ref l0]) (G := fun o' sh' I' R' => o' = .inl (some (.int v)) ∧ sh' = sh ∧ I' = w.1 ∧ R' = w.2) hq hc rfl hr (by rw [ml]; rfl) (Or.inl rfl) (fun _ => Or.inl ⟨by rw [mc]; decide, by rw [mc]; exact isT_iff.mp hT⟩) (fun z => absurd (mk.symm.trans z) (by decide)) (by rw [ml]; exact vX10_load (F := fun o' sh' I' R' => o' = .inl (some (.int v)) ∧ sh' = sh ∧ I' = w.1 ∧ R' = w.2) ⟨rfl, rfl, rfl, rfl⟩ h1) ?_ ?_ ?_
  · rintro sh' I' R' c' hc' ⟨g1, rfl, rfl, rfl⟩
    cases g1
  · rintro v' sh' I' R' c' hc' ⟨g1, rfl, rfl, rfl⟩
    cases g1
    exact kk _ _ _ hc' h2
  · rintro E' sh' I' R' ⟨g1, rfl, rfl, rfl⟩
    cases g1
set_option maxRecDepth 100000 in
set_option maxHeartbeats 4000000 in
def fX10_errorPosition (fu : Nat) (sh : HS) (I : HI) (R : HR) (l0 : Nat) : Option Int32 :=
  if isT sh l0 8 = true then
    ((oI sh I l0 8 2).bind fun v1 =>
    some v1)
  else none
set_option maxRecDepth 100000 in
set_option maxHeartbeats 4000000 in
theorem vX10_errorPosition {K J : Nat → Nat} {fu : Nat} {sh : HS} {I : HI} {R : HR} {F : VF} {o : Int32} (hF : F (.inl (some (.int o))) sh I R) {l0 : Nat} (h0 : fX10_errorPosition fu sh I R l0 = some o) : V K J 81 0 (ent 1 [.ref l0]) [] sh I R (0, 0) F := by
  unfold fX10_errorPosition at h0
  obtain ⟨-, h1⟩ := gd h0; clear h0
  have hc0 : ((0 : Nat), (0 : Nat)).1 ≤ 0 ∧ ((0 : Nat), (0 : Nat)).2 ≤ 0 := ⟨Nat.le_refl _, Nat.le_refl _⟩
  show V K J 81 0 [some (.ref l0)] [] sh I R (0, 0) F
  refine s_rl (i := 0) (pc' := 1) (by decide +kernel) rfl ?_
  refine s_gI (t := 8) (j := 2) (ty := 0) (pc' := 4) (by decide +kernel) rfl h1 (fun v1 h2 => ?_); clear h1
  have e9 := Option.some.inj h2; subst e9
  exact s_ri (X := 0) (Y := 0) (by decide +kernel) hc0 hF
set_option maxRecDepth 100000 in
set_option maxHeartbeats 4000000 in
theorem kX10_errorPosition {K J : Nat → Nat} {fu : Nat} {sh : HS} {I : HI} {R : HR} {F : VF} {mi pc pc' X Y X' Y' : Nat} {L : VL} {rest : List Value} {c : Nat × Nat} {l0 : Nat} {ω : Type} {o : ω} {g : Int32 → Option ω} (hq : cQ mi pc 81 1 pc' X Y X' Y' = true) (hc : c.1 ≤ X ∧ c.2 ≤ Y) (hr : Nat.ble (catS rest) 8 = true) (h : (fX10_errorPosition fu sh I R l0).bind g = some o) (kk : ∀ v c', (c'.1 ≤ X' ∧ c'.2 ≤ Y') → g v = some o → V K J mi pc' L ((.int v) :: rest) sh I R c' F) : V K J mi pc L (.ref l0 :: rest) sh I R c F := by
  obtain ⟨r, h1, h2⟩ := bnd h
  have hT : isT sh l0 8 = true := by unfold fX10_errorPosition at h1; exact (gd h1).1
  have ml : mL 81 = 1 := by decide +kernel
  have mk : mK 81 = 1 := by decide +kernel
  have mc : mC 81 = 8 := by decide +kernel
  refine s_call (as := [.ref l0]) (G := fun o' sh' I' R' => o' = .inl (some (.int r)) ∧ sh' = sh ∧ I' = I ∧ R' = R) hq hc rfl hr (by rw [ml]; rfl) (Or.inl rfl) (fun _ => Or.inl ⟨by rw [mc]; decide, by rw [mc]; exact isT_iff.mp hT⟩) (fun z => absurd (mk.symm.trans z) (by decide)) (by rw [ml]; exact vX10_errorPosition (F := fun o' sh' I' R' => o' = .inl (some (.int r)) ∧ sh' = sh ∧ I' = I ∧ R' = R) ⟨rfl, rfl, rfl, rfl⟩ h1) ?_ ?_ ?_
  · rintro sh' I' R' c' hc' ⟨g1, rfl, rfl, rfl⟩
    cases g1
  · rintro v' sh' I' R' c' hc' ⟨g1, rfl, rfl, rfl⟩
    cases g1
    exact kk _ _ hc' h2
  · rintro E' sh' I' R' ⟨g1, rfl, rfl, rfl⟩
    cases g1
set_option maxRecDepth 100000 in
set_option maxHeartbeats 4000000 in
def fX10_needBoard (fu : Nat) (sh : HS) (I : HI) (R : HR) (l0 : Nat) : Option (Unit ⊕ String) :=
  if isT sh l0 8 = true then
    ((oI sh I l0 8 3).bind fun v1 =>
    if v1 = 0 then
      (some (.inr "java/lang/IllegalStateException"))
    else
      (some (.inl ())))
  else none
set_option maxRecDepth 100000 in
set_option maxHeartbeats 4000000 in
theorem vX10_needBoard {K J : Nat → Nat} {fu : Nat} {sh : HS} {I : HI} {R : HR} {F : VF} {o : (Unit ⊕ String)} (hF : F (voN o) sh I R) {l0 : Nat} (h0 : fX10_needBoard fu sh I R l0 = some o) : V K J 127 0 (ent 1 [.ref l0]) [] sh I R (0, 0) F := by
  unfold fX10_needBoard at h0
  obtain ⟨-, h1⟩ := gd h0; clear h0
  have hc0 : ((0 : Nat), (0 : Nat)).1 ≤ 0 ∧ ((0 : Nat), (0 : Nat)).2 ≤ 0 := ⟨Nat.le_refl _, Nat.le_refl _⟩
  show V K J 127 0 [some (.ref l0)] [] sh I R (0, 0) F
  refine s_rl (i := 0) (pc' := 1) (by decide +kernel) rfl ?_
  refine s_gI (t := 8) (j := 3) (ty := 1) (pc' := 4) (by decide +kernel) rfl h1 (fun v1 h2 => ?_); clear h1
  refine s_ifn (ins := .ifCond .ne 14) (t := 18) (pc' := 7) (by decide +kernel) rfl rfl rfl h2 (fun p3 h3 => ?_) (fun p3 h3 => ?_) <;> clear h2
  · have e9 := Option.some.inj h3; subst e9
    exact s_rv (X := 0) (Y := 0) (by decide +kernel) hc0 hF
  · have e9 := Option.some.inj h3; subst e9
    exact s_th (E := "java/lang/IllegalStateException") (X := 0) (Y := 0) (by decide +kernel) hc0 rfl hF
set_option maxRecDepth 100000 in
set_option maxHeartbeats 4000000 in
theorem kX10_needBoard {K J : Nat → Nat} {fu : Nat} {sh : HS} {I : HI} {R : HR} {F : VF} {mi pc pc' X Y X' Y' : Nat} {L : VL} {rest : List Value} {c : Nat × Nat} {l0 : Nat} {ω : Type} {o : ω} {e : String → Option ω} {g : Unit → Option ω} (hq : cQ mi pc 127 1 pc' X Y X' Y' = true) (hc : c.1 ≤ X ∧ c.2 ≤ Y) (hr : Nat.ble (catS rest) 8 = true) (h : oT0 (fX10_needBoard fu sh I R l0) e g = some o) (kk : ∀ v c', (c'.1 ≤ X' ∧ c'.2 ≤ Y') → g v = some o → V K J mi pc' L (rest) sh I R c' F) (kx : ∀ E, e E = some o → F (.inr E) sh I R) : V K J mi pc L (.ref l0 :: rest) sh I R c F := by
  obtain ⟨r, h1, h2⟩ := bnd h
  have hT : isT sh l0 8 = true := by unfold fX10_needBoard at h1; exact (gd h1).1
  have ml : mL 127 = 1 := by decide +kernel
  have mk : mK 127 = 1 := by decide +kernel
  have mc : mC 127 = 8 := by decide +kernel
  rcases r with v | E
  · refine s_call (as := [.ref l0]) (G := fun o' sh' I' R' => o' = .inl none ∧ sh' = sh ∧ I' = I ∧ R' = R) hq hc rfl hr (by rw [ml]; rfl) (Or.inl rfl) (fun _ => Or.inl ⟨by rw [mc]; decide, by rw [mc]; exact isT_iff.mp hT⟩) (fun z => absurd (mk.symm.trans z) (by decide)) (by rw [ml]; exact vX10_needBoard (F := fun o' sh' I' R' => o' = .inl none ∧ sh' = sh ∧ I' = I ∧ R' = R) ⟨rfl, rfl, rfl, rfl⟩ h1) ?_ ?_ ?_
    · rintro sh' I' R' c' hc' ⟨g1, rfl, rfl, rfl⟩
      cases g1
      exact kk _ _ hc' h2
    · rintro v' sh' I' R' c' hc' ⟨g1, rfl, rfl, rfl⟩
      cases g1
    · rintro E' sh' I' R' ⟨g1, rfl, rfl, rfl⟩
      cases g1
  · refine s_call (as := [.ref l0]) (G := fun o' sh' I' R' => o' = .inr E ∧ sh' = sh ∧ I' = I ∧ R' = R) hq hc rfl hr (by rw [ml]; rfl) (Or.inl rfl) (fun _ => Or.inl ⟨by rw [mc]; decide, by rw [mc]; exact isT_iff.mp hT⟩) (fun z => absurd (mk.symm.trans z) (by decide)) (by rw [ml]; exact vX10_needBoard (F := fun o' sh' I' R' => o' = .inr E ∧ sh' = sh ∧ I' = I ∧ R' = R) ⟨rfl, rfl, rfl, rfl⟩ h1) ?_ ?_ ?_
    · rintro sh' I' R' c' hc' ⟨g1, rfl, rfl, rfl⟩
      cases g1
    · rintro v' sh' I' R' c' hc' ⟨g1, rfl, rfl, rfl⟩
      cases g1
    · rintro E' sh' I' R' ⟨g1, rfl, rfl, rfl⟩
      cases g1
      exact kx _ h2
set_option maxRecDepth 100000 in
set_option maxHeartbeats 4000000 in
def fX10_needRange_b10 (fu : Nat) (sh : HS) (I : HI) (R : HR) : Option (Unit ⊕ String) :=
  some (.inr "java/lang/IllegalArgumentException")
set_option maxRecDepth 100000 in
set_option maxHeartbeats 4000000 in
theorem vX10_needRange_b10 {K J : Nat → Nat} {fu : Nat} {sh : HS} {I : HI} {R : HR} {F : VF} {o : (Unit ⊕ String)} (hF : F (voN o) sh I R) {d0 d1 d2 : Option Value} {c : Nat × Nat} (hc0 : c.1 ≤ 0 ∧ c.2 ≤ 0) (h0 : fX10_needRange_b10 fu sh I R = some o) : V K J 128 10 [d0, d1, d2] [] sh I R c F := by
  unfold fX10_needRange_b10 at h0
  have e9 := Option.some.inj h0; subst e9
  exact s_th (E := "java/lang/IllegalArgumentException") (X := 0) (Y := 0) (by decide +kernel) hc0 rfl hF
set_option maxRecDepth 100000 in
set_option maxHeartbeats 4000000 in
def fX10_needRange (fu : Nat) (sh : HS) (I : HI) (R : HR) (l0 : Int32) (l1 : Int32) (l2 : Int32) : Option (Unit ⊕ String) :=
  if l0 < l1 then
    ((fX10_needRange_b10 fu sh I R))
  else
    (if l0 ≤ l2 then
      (some (.inl ()))
    else
      ((fX10_needRange_b10 fu sh I R)))
set_option maxRecDepth 100000 in
set_option maxHeartbeats 4000000 in
theorem vX10_needRange {K J : Nat → Nat} {fu : Nat} {sh : HS} {I : HI} {R : HR} {F : VF} {o : (Unit ⊕ String)} (hF : F (voN o) sh I R) {l0 : Int32} {l1 : Int32} {l2 : Int32} (h0 : fX10_needRange fu sh I R l0 l1 l2 = some o) : V K J 128 0 (ent 3 [.int l0, .int l1, .int l2]) [] sh I R (0, 0) F := by
  unfold fX10_needRange at h0
  have h1 := h0; clear h0
  have hc0 : ((0 : Nat), (0 : Nat)).1 ≤ 0 ∧ ((0 : Nat), (0 : Nat)).2 ≤ 0 := ⟨Nat.le_refl _, Nat.le_refl _⟩
  show V K J 128 0 [some (.int l0), some (.int l1), some (.int l2)] [] sh I R (0, 0) F
  refine s_il (i := 0) (pc' := 1) (by decide +kernel) rfl ?_
  refine s_il (i := 1) (pc' := 2) (by decide +kernel) rfl ?_
  refine s_if (ins := .if_icmp .lt 8) (t := 10) (pc' := 5) (by decide +kernel) rfl rfl rfl h1 (fun p2 h2 => ?_) (fun p2 h2 => ?_) <;> clear h1
  · exact (vX10_needRange_b10 hF) hc0 h2
  · refine s_il (i := 0) (pc' := 6) (by decide +kernel) rfl ?_
    refine s_il (i := 2) (pc' := 7) (by decide +kernel) rfl ?_
    refine s_if (ins := .if_icmp .le 14) (t := 21) (pc' := 10) (by decide +kernel) rfl rfl rfl h2 (fun p3 h3 => ?_) (fun p3 h3 => ?_) <;> clear h2
    · have e9 := Option.some.inj h3; subst e9
      exact s_rv (X := 0) (Y := 0) (by decide +kernel) hc0 hF
    · exact (vX10_needRange_b10 hF) hc0 h3
set_option maxRecDepth 100000 in
set_option maxHeartbeats 4000000 in
theorem kX10_needRange {K J : Nat → Nat} {fu : Nat} {sh : HS} {I : HI} {R : HR} {F : VF} {mi pc pc' X Y X' Y' : Nat} {L : VL} {rest : List Value} {c : Nat × Nat} {l0 : Int32} {l1 : Int32} {l2 : Int32} {ω : Type} {o : ω} {e : String → Option ω} {g : Unit → Option ω} (hq : cQ mi pc 128 3 pc' X Y X' Y' = true) (hc : c.1 ≤ X ∧ c.2 ≤ Y) (hr : Nat.ble (catS rest) 8 = true) (h : oT0 (fX10_needRange fu sh I R l0 l1 l2) e g = some o) (kk : ∀ v c', (c'.1 ≤ X' ∧ c'.2 ≤ Y') → g v = some o → V K J mi pc' L (rest) sh I R c' F) (kx : ∀ E, e E = some o → F (.inr E) sh I R) : V K J mi pc L (.int l2 :: .int l1 :: .int l0 :: rest) sh I R c F := by
  obtain ⟨r, h1, h2⟩ := bnd h
  have ml : mL 128 = 3 := by decide +kernel
  have mk : mK 128 = 0 := by decide +kernel
  rcases r with v | E
  · refine s_call (as := [.int l2, .int l1, .int l0]) (G := fun o' sh' I' R' => o' = .inl none ∧ sh' = sh ∧ I' = I ∧ R' = R) hq hc rfl hr (by rw [ml]; rfl) (Or.inl rfl) (fun z => absurd (mk.symm.trans z) (by decide)) (fun z => absurd (mk.symm.trans z) (by decide)) (by rw [ml]; exact vX10_needRange (F := fun o' sh' I' R' => o' = .inl none ∧ sh' = sh ∧ I' = I ∧ R' = R) ⟨rfl, rfl, rfl, rfl⟩ h1) ?_ ?_ ?_
    · rintro sh' I' R' c' hc' ⟨g1, rfl, rfl, rfl⟩
      cases g1
      exact kk _ _ hc' h2
    · rintro v' sh' I' R' c' hc' ⟨g1, rfl, rfl, rfl⟩
      cases g1
    · rintro E' sh' I' R' ⟨g1, rfl, rfl, rfl⟩
      cases g1
  · refine s_call (as := [.int l2, .int l1, .int l0]) (G := fun o' sh' I' R' => o' = .inr E ∧ sh' = sh ∧ I' = I ∧ R' = R) hq hc rfl hr (by rw [ml]; rfl) (Or.inl rfl) (fun z => absurd (mk.symm.trans z) (by decide)) (fun z => absurd (mk.symm.trans z) (by decide)) (by rw [ml]; exact vX10_needRange (F := fun o' sh' I' R' => o' = .inr E ∧ sh' = sh ∧ I' = I ∧ R' = R) ⟨rfl, rfl, rfl, rfl⟩ h1) ?_ ?_ ?_
    · rintro sh' I' R' c' hc' ⟨g1, rfl, rfl, rfl⟩
      cases g1
    · rintro v' sh' I' R' c' hc' ⟨g1, rfl, rfl, rfl⟩
      cases g1
    · rintro E' sh' I' R' ⟨g1, rfl, rfl, rfl⟩
      cases g1
      exact kx _ h2
set_option maxRecDepth 100000 in
set_option maxHeartbeats 4000000 in
def fX10_count (fu : Nat) (sh : HS) (I : HI) (R : HR) (l0 : Nat) (l1 : Int32) : Option (Int32 ⊕ String) :=
  if isT sh l0 8 = true then
    (oT0 (fX10_needBoard fu sh I R l0) (fun E => some (.inr E)) fun _ =>
    oT0 (fX10_needRange fu sh I R l1 0 5) (fun E => some (.inr E)) fun _ =>
    if l1 = 0 then
      ((oR sh R l0 8 4).bind fun v3 =>
      (oI sh I v3 0 3).bind fun v4 =>
      some (.inl v4))
    else
      if l1 = 1 then
        ((oR sh R l0 8 4).bind fun v5 =>
        (oI sh I v5 0 4).bind fun v6 =>
        some (.inl v6))
      else
        if l1 = 2 then
          ((oR sh R l0 8 4).bind fun v7 =>
          (oI sh I v7 0 0).bind fun v8 =>
          some (.inl v8))
        else
          if l1 = 3 then
            ((oR sh R l0 8 4).bind fun v9 =>
            (oI sh I v9 0 1).bind fun v10 =>
            some (.inl v10))
          else
            if l1 = 4 then
              ((oR sh R l0 8 4).bind fun v11 =>
              (oI sh I v11 0 2).bind fun v12 =>
              some (.inl v12))
            else
              (oR sh R l0 8 4).bind fun v13 =>
              (fX0_secondsOfAllShots fu sh I R v13).bind fun v14 =>
              some (.inl v14))
  else none
set_option maxRecDepth 100000 in
set_option maxHeartbeats 4000000 in
theorem vX10_count {K J : Nat → Nat} {fu : Nat} {sh : HS} {I : HI} {R : HR} {F : VF} {o : (Int32 ⊕ String)} (hF : F (voI o) sh I R) {l0 : Nat} {l1 : Int32} (h0 : fX10_count fu sh I R l0 l1 = some o) : V K J 82 0 (ent 2 [.ref l0, .int l1]) [] sh I R (0, 0) F := by
  unfold fX10_count at h0
  obtain ⟨-, h1⟩ := gd h0; clear h0
  have hc0 : ((0 : Nat), (0 : Nat)).1 ≤ 0 ∧ ((0 : Nat), (0 : Nat)).2 ≤ 0 := ⟨Nat.le_refl _, Nat.le_refl _⟩
  show V K J 82 0 [some (.ref l0), some (.int l1)] [] sh I R (0, 0) F
  refine s_rl (i := 0) (pc' := 1) (by decide +kernel) rfl ?_
  refine kX10_needBoard (X := 0) (Y := 0) (X' := 1) (Y' := 6) (pc' := 4) (by decide +kernel) hc0 rfl h1 (fun v1 c hc1 h2 => ?_) (fun E h2 => by have e9 := Option.some.inj h2; subst e9; exact hF); clear h1 hc0
  refine s_il (i := 1) (pc' := 5) (by decide +kernel) rfl ?_
  refine s_c (v := 0) (pc' := 6) (by decide +kernel) ?_
  refine s_c (v := 5) (pc' := 7) (by decide +kernel) ?_
  refine kX10_needRange (X := 1) (Y := 6) (X' := 2) (Y' := 12) (pc' := 10) (by decide +kernel) hc1 rfl h2 (fun v2 c hc2 h3 => ?_) (fun E h3 => by have e9 := Option.some.inj h3; subst e9; exact hF); clear h2 hc1
  refine s_il (i := 1) (pc' := 11) (by decide +kernel) rfl ?_
  by_cases e0 : l1 = 0
  · have h4 := h3
    rw [if_pos e0] at h4
    clear h3
    refine s_sw (v := 0) (t := 44) e0 (by decide +kernel) ?_
    refine s_rl (i := 0) (pc' := 45) (by decide +kernel) rfl ?_
    refine s_gR (t := 8) (j := 4) (pc' := 48) (by decide +kernel) h4 (fun v3 h5 => ?_); clear h4
    refine s_gI (t := 0) (j := 3) (ty := 0) (pc' := 51) (by decide +kernel) rfl h5 (fun v4 h6 => ?_); clear h5
    have e9 := Option.some.inj h6; subst e9
    exact s_ri (X := 2) (Y := 12) (by decide +kernel) hc2 hF
  rw [if_neg e0] at h3
  by_cases e1 : l1 = 1
  · have h4 := h3
    rw [if_pos e1] at h4
    clear h3
    refine s_sw (v := 1) (t := 52) e1 (by decide +kernel) ?_
    refine s_rl (i := 0) (pc' := 53) (by decide +kernel) rfl ?_
    refine s_gR (t := 8) (j := 4) (pc' := 56) (by decide +kernel) h4 (fun v5 h5 => ?_); clear h4
    refine s_gI (t := 0) (j := 4) (ty := 0) (pc' := 59) (by decide +kernel) rfl h5 (fun v6 h6 => ?_); clear h5
    have e9 := Option.some.inj h6; subst e9
    exact s_ri (X := 2) (Y := 12) (by decide +kernel) hc2 hF
  rw [if_neg e1] at h3
  by_cases e2 : l1 = 2
  · have h4 := h3
    rw [if_pos e2] at h4
    clear h3
    refine s_sw (v := 2) (t := 60) e2 (by decide +kernel) ?_
    refine s_rl (i := 0) (pc' := 61) (by decide +kernel) rfl ?_
    refine s_gR (t := 8) (j := 4) (pc' := 64) (by decide +kernel) h4 (fun v7 h5 => ?_); clear h4
    refine s_gI (t := 0) (j := 0) (ty := 0) (pc' := 67) (by decide +kernel) rfl h5 (fun v8 h6 => ?_); clear h5
    have e9 := Option.some.inj h6; subst e9
    exact s_ri (X := 2) (Y := 12) (by decide +kernel) hc2 hF
  rw [if_neg e2] at h3
  by_cases e3 : l1 = 3
  · have h4 := h3
    rw [if_pos e3] at h4
    clear h3
    refine s_sw (v := 3) (t := 68) e3 (by decide +kernel) ?_
    refine s_rl (i := 0) (pc' := 69) (by decide +kernel) rfl ?_
    refine s_gR (t := 8) (j := 4) (pc' := 72) (by decide +kernel) h4 (fun v9 h5 => ?_); clear h4
    refine s_gI (t := 0) (j := 1) (ty := 0) (pc' := 75) (by decide +kernel) rfl h5 (fun v10 h6 => ?_); clear h5
    have e9 := Option.some.inj h6; subst e9
    exact s_ri (X := 2) (Y := 12) (by decide +kernel) hc2 hF
  rw [if_neg e3] at h3
  by_cases e4 : l1 = 4
  · have h4 := h3
    rw [if_pos e4] at h4
    clear h3
    refine s_sw (v := 4) (t := 76) e4 (by decide +kernel) ?_
    refine s_rl (i := 0) (pc' := 77) (by decide +kernel) rfl ?_
    refine s_gR (t := 8) (j := 4) (pc' := 80) (by decide +kernel) h4 (fun v11 h5 => ?_); clear h4
    refine s_gI (t := 0) (j := 2) (ty := 0) (pc' := 83) (by decide +kernel) rfl h5 (fun v12 h6 => ?_); clear h5
    have e9 := Option.some.inj h6; subst e9
    exact s_ri (X := 2) (Y := 12) (by decide +kernel) hc2 hF
  rw [if_neg e4] at h3
  refine s_sd (n := 5) (t := 84) (sw_out5 e0 e1 e2 e3 e4) (by decide +kernel) ?_
  refine s_rl (i := 0) (pc' := 85) (by decide +kernel) rfl ?_
  refine s_gR (t := 8) (j := 4) (pc' := 88) (by decide +kernel) h3 (fun v13 h4 => ?_); clear h3
  refine kX0_secondsOfAllShots (X := 2) (Y := 12) (X' := 2) (Y' := 12) (pc' := 91) (by decide +kernel) hc2 rfl h4 (fun v14 c hc3 h5 => ?_); clear h4 hc2
  have e9 := Option.some.inj h5; subst e9
  exact s_ri (X := 2) (Y := 12) (by decide +kernel) hc3 hF
set_option maxRecDepth 100000 in
set_option maxHeartbeats 4000000 in
theorem kX10_count {K J : Nat → Nat} {fu : Nat} {sh : HS} {I : HI} {R : HR} {F : VF} {mi pc pc' X Y X' Y' : Nat} {L : VL} {rest : List Value} {c : Nat × Nat} {l0 : Nat} {l1 : Int32} {ω : Type} {o : ω} {e : String → Option ω} {g : Int32 → Option ω} (hq : cQ mi pc 82 2 pc' X Y X' Y' = true) (hc : c.1 ≤ X ∧ c.2 ≤ Y) (hr : Nat.ble (catS rest) 8 = true) (h : oT0 (fX10_count fu sh I R l0 l1) e g = some o) (kk : ∀ v c', (c'.1 ≤ X' ∧ c'.2 ≤ Y') → g v = some o → V K J mi pc' L ((.int v) :: rest) sh I R c' F) (kx : ∀ E, e E = some o → F (.inr E) sh I R) : V K J mi pc L (.int l1 :: .ref l0 :: rest) sh I R c F := by
  obtain ⟨r, h1, h2⟩ := bnd h
  have hT : isT sh l0 8 = true := by unfold fX10_count at h1; exact (gd h1).1
  have ml : mL 82 = 2 := by decide +kernel
  have mk : mK 82 = 1 := by decide +kernel
  have mc : mC 82 = 8 := by decide +kernel
  rcases r with v | E
  · refine s_call (as := [.int l1, .ref l0]) (G := fun o' sh' I' R' => o' = .inl (some (.int v)) ∧ sh' = sh ∧ I' = I ∧ R' = R) hq hc rfl hr (by rw [ml]; rfl) (Or.inl rfl) (fun _ => Or.inl ⟨by rw [mc]; decide, by rw [mc]; exact isT_iff.mp hT⟩) (fun z => absurd (mk.symm.trans z) (by decide)) (by rw [ml]; exact vX10_count (F := fun o' sh' I' R' => o' = .inl (some (.int v)) ∧ sh' = sh ∧ I' = I ∧ R' = R) ⟨rfl, rfl, rfl, rfl⟩ h1) ?_ ?_ ?_
    · rintro sh' I' R' c' hc' ⟨g1, rfl, rfl, rfl⟩
      cases g1
    · rintro v' sh' I' R' c' hc' ⟨g1, rfl, rfl, rfl⟩
      cases g1
      exact kk _ _ hc' h2
    · rintro E' sh' I' R' ⟨g1, rfl, rfl, rfl⟩
      cases g1
  · refine s_call (as := [.int l1, .ref l0]) (G := fun o' sh' I' R' => o' = .inr E ∧ sh' = sh ∧ I' = I ∧ R' = R) hq hc rfl hr (by rw [ml]; rfl) (Or.inl rfl) (fun _ => Or.inl ⟨by rw [mc]; decide, by rw [mc]; exact isT_iff.mp hT⟩) (fun z => absurd (mk.symm.trans z) (by decide)) (by rw [ml]; exact vX10_count (F := fun o' sh' I' R' => o' = .inr E ∧ sh' = sh ∧ I' = I ∧ R' = R) ⟨rfl, rfl, rfl, rfl⟩ h1) ?_ ?_ ?_
    · rintro sh' I' R' c' hc' ⟨g1, rfl, rfl, rfl⟩
      cases g1
    · rintro v' sh' I' R' c' hc' ⟨g1, rfl, rfl, rfl⟩
      cases g1
    · rintro E' sh' I' R' ⟨g1, rfl, rfl, rfl⟩
      cases g1
      exact kx _ h2
set_option maxRecDepth 100000 in
set_option maxHeartbeats 4000000 in
def fX10_needScene (fu : Nat) (sh : HS) (I : HI) (R : HR) (l0 : Nat) (l1 : Int32) : Option (Unit ⊕ String) :=
  if isT sh l0 8 = true then
    ((oR sh R l0 8 4).bind fun v1 =>
    (oI sh I v1 0 3).bind fun v2 =>
    oT0 (fX10_needRange fu sh I R l1 0 (v2 - 1)) (fun E => some (.inr E)) fun _ =>
    some (.inl ()))
  else none
set_option maxRecDepth 100000 in
set_option maxHeartbeats 4000000 in
theorem vX10_needScene {K J : Nat → Nat} {fu : Nat} {sh : HS} {I : HI} {R : HR} {F : VF} {o : (Unit ⊕ String)} (hF : F (voN o) sh I R) {l0 : Nat} {l1 : Int32} (h0 : fX10_needScene fu sh I R l0 l1 = some o) : V K J 130 0 (ent 2 [.ref l0, .int l1]) [] sh I R (0, 0) F := by
  unfold fX10_needScene at h0
  obtain ⟨-, h1⟩ := gd h0; clear h0
  have hc0 : ((0 : Nat), (0 : Nat)).1 ≤ 0 ∧ ((0 : Nat), (0 : Nat)).2 ≤ 0 := ⟨Nat.le_refl _, Nat.le_refl _⟩
  show V K J 130 0 [some (.ref l0), some (.int l1)] [] sh I R (0, 0) F
  refine s_il (i := 1) (pc' := 1) (by decide +kernel) rfl ?_
  refine s_c (v := 0) (pc' := 2) (by decide +kernel) ?_
  refine s_rl (i := 0) (pc' := 3) (by decide +kernel) rfl ?_
  refine s_gR (t := 8) (j := 4) (pc' := 6) (by decide +kernel) h1 (fun v1 h2 => ?_); clear h1
  refine s_gI (t := 0) (j := 3) (ty := 0) (pc' := 9) (by decide +kernel) rfl h2 (fun v2 h3 => ?_); clear h2
  refine s_c (v := 1) (pc' := 10) (by decide +kernel) ?_
  refine s_a (ins := .isub) (pc' := 11) (by decide +kernel) rfl ?_
  refine kX10_needRange (X := 0) (Y := 0) (X' := 1) (Y' := 6) (pc' := 14) (by decide +kernel) hc0 rfl h3 (fun v3 c hc1 h4 => ?_) (fun E h4 => by have e9 := Option.some.inj h4; subst e9; exact hF); clear h3 hc0
  have e9 := Option.some.inj h4; subst e9
  exact s_rv (X := 1) (Y := 6) (by decide +kernel) hc1 hF
set_option maxRecDepth 100000 in
set_option maxHeartbeats 4000000 in
theorem kX10_needScene {K J : Nat → Nat} {fu : Nat} {sh : HS} {I : HI} {R : HR} {F : VF} {mi pc pc' X Y X' Y' : Nat} {L : VL} {rest : List Value} {c : Nat × Nat} {l0 : Nat} {l1 : Int32} {ω : Type} {o : ω} {e : String → Option ω} {g : Unit → Option ω} (hq : cQ mi pc 130 2 pc' X Y X' Y' = true) (hc : c.1 ≤ X ∧ c.2 ≤ Y) (hr : Nat.ble (catS rest) 8 = true) (h : oT0 (fX10_needScene fu sh I R l0 l1) e g = some o) (kk : ∀ v c', (c'.1 ≤ X' ∧ c'.2 ≤ Y') → g v = some o → V K J mi pc' L (rest) sh I R c' F) (kx : ∀ E, e E = some o → F (.inr E) sh I R) : V K J mi pc L (.int l1 :: .ref l0 :: rest) sh I R c F := by
  obtain ⟨r, h1, h2⟩ := bnd h
  have hT : isT sh l0 8 = true := by unfold fX10_needScene at h1; exact (gd h1).1
  have ml : mL 130 = 2 := by decide +kernel
  have mk : mK 130 = 1 := by decide +kernel
  have mc : mC 130 = 8 := by decide +kernel
  rcases r with v | E
  · refine s_call (as := [.int l1, .ref l0]) (G := fun o' sh' I' R' => o' = .inl none ∧ sh' = sh ∧ I' = I ∧ R' = R) hq hc rfl hr (by rw [ml]; rfl) (Or.inl rfl) (fun _ => Or.inl ⟨by rw [mc]; decide, by rw [mc]; exact isT_iff.mp hT⟩) (fun z => absurd (mk.symm.trans z) (by decide)) (by rw [ml]; exact vX10_needScene (F := fun o' sh' I' R' => o' = .inl none ∧ sh' = sh ∧ I' = I ∧ R' = R) ⟨rfl, rfl, rfl, rfl⟩ h1) ?_ ?_ ?_
    · rintro sh' I' R' c' hc' ⟨g1, rfl, rfl, rfl⟩
      cases g1
      exact kk _ _ hc' h2
    · rintro v' sh' I' R' c' hc' ⟨g1, rfl, rfl, rfl⟩
      cases g1
    · rintro E' sh' I' R' ⟨g1, rfl, rfl, rfl⟩
      cases g1
  · refine s_call (as := [.int l1, .ref l0]) (G := fun o' sh' I' R' => o' = .inr E ∧ sh' = sh ∧ I' = I ∧ R' = R) hq hc rfl hr (by rw [ml]; rfl) (Or.inl rfl) (fun _ => Or.inl ⟨by rw [mc]; decide, by rw [mc]; exact isT_iff.mp hT⟩) (fun z => absurd (mk.symm.trans z) (by decide)) (by rw [ml]; exact vX10_needScene (F := fun o' sh' I' R' => o' = .inr E ∧ sh' = sh ∧ I' = I ∧ R' = R) ⟨rfl, rfl, rfl, rfl⟩ h1) ?_ ?_ ?_
    · rintro sh' I' R' c' hc' ⟨g1, rfl, rfl, rfl⟩
      cases g1
    · rintro v' sh' I' R' c' hc' ⟨g1, rfl, rfl, rfl⟩
      cases g1
    · rintro E' sh' I' R' ⟨g1, rfl, rfl, rfl⟩
      cases g1
      exact kx _ h2
set_option maxRecDepth 100000 in
set_option maxHeartbeats 4000000 in
def fX10_scene (fu : Nat) (sh : HS) (I : HI) (R : HR) (l0 : Nat) (l1 : Int32) (l2 : Int32) : Option (Int32 ⊕ String) :=
  if isT sh l0 8 = true then
    (oT0 (fX10_needBoard fu sh I R l0) (fun E => some (.inr E)) fun _ =>
    oT0 (fX10_needScene fu sh I R l0 l1) (fun E => some (.inr E)) fun _ =>
    oT0 (fX10_needRange fu sh I R l2 0 2) (fun E => some (.inr E)) fun _ =>
    if l2 = 0 then
      ((oR sh R l0 8 4).bind fun v4 =>
      (oR sh R v4 0 5).bind fun v5 =>
      (oB sh R v5 5 l1).bind fun v6 =>
      (oI sh I v6 5 0).bind fun v7 =>
      some (.inl v7))
    else
      if l2 = 1 then
        ((oR sh R l0 8 4).bind fun v8 =>
        (oR sh R v8 0 5).bind fun v9 =>
        (oB sh R v9 5 l1).bind fun v10 =>
        (oI sh I v10 5 1).bind fun v11 =>
        some (.inl v11))
      else
        (oR sh R l0 8 4).bind fun v12 =>
        (fX0_shotsOfScene fu sh I R v12 l1).bind fun v13 =>
        some (.inl v13))
  else none
set_option maxRecDepth 100000 in
set_option maxHeartbeats 4000000 in
theorem vX10_scene {K J : Nat → Nat} {fu : Nat} {sh : HS} {I : HI} {R : HR} {F : VF} {o : (Int32 ⊕ String)} (hF : F (voI o) sh I R) {l0 : Nat} {l1 : Int32} {l2 : Int32} (h0 : fX10_scene fu sh I R l0 l1 l2 = some o) : V K J 83 0 (ent 3 [.ref l0, .int l1, .int l2]) [] sh I R (0, 0) F := by
  unfold fX10_scene at h0
  obtain ⟨-, h1⟩ := gd h0; clear h0
  have hc0 : ((0 : Nat), (0 : Nat)).1 ≤ 0 ∧ ((0 : Nat), (0 : Nat)).2 ≤ 0 := ⟨Nat.le_refl _, Nat.le_refl _⟩
  show V K J 83 0 [some (.ref l0), some (.int l1), some (.int l2)] [] sh I R (0, 0) F
  refine s_rl (i := 0) (pc' := 1) (by decide +kernel) rfl ?_
  refine kX10_needBoard (X := 0) (Y := 0) (X' := 1) (Y' := 6) (pc' := 4) (by decide +kernel) hc0 rfl h1 (fun v1 c hc1 h2 => ?_) (fun E h2 => by have e9 := Option.some.inj h2; subst e9; exact hF); clear h1 hc0
  refine s_rl (i := 0) (pc' := 5) (by decide +kernel) rfl ?_
  refine s_il (i := 1) (pc' := 6) (by decide +kernel) rfl ?_
  refine kX10_needScene (X := 1) (Y := 6) (X' := 2) (Y' := 12) (pc' := 9) (by decide +kernel) hc1 rfl h2 (fun v2 c hc2 h3 => ?_) (fun E h3 => by have e9 := Option.some.inj h3; subst e9; exact hF); clear h2 hc1
  refine s_il (i := 2) (pc' := 10) (by decide +kernel) rfl ?_
  refine s_c (v := 0) (pc' := 11) (by decide +kernel) ?_
  refine s_c (v := 2) (pc' := 12) (by decide +kernel) ?_
  refine kX10_needRange (X := 2) (Y := 12) (X' := 3) (Y' := 18) (pc' := 15) (by decide +kernel) hc2 rfl h3 (fun v3 c hc3 h4 => ?_) (fun E h4 => by have e9 := Option.some.inj h4; subst e9; exact hF); clear h3 hc2
  refine s_il (i := 2) (pc' := 16) (by decide +kernel) rfl ?_
  by_cases e0 : l2 = 0
  · have h5 := h4
    rw [if_pos e0] at h5
    clear h4
    refine s_sw (v := 0) (t := 44) e0 (by decide +kernel) ?_
    refine s_rl (i := 0) (pc' := 45) (by decide +kernel) rfl ?_
    refine s_gR (t := 8) (j := 4) (pc' := 48) (by decide +kernel) h5 (fun v4 h6 => ?_); clear h5
    refine s_gR (t := 0) (j := 5) (pc' := 51) (by decide +kernel) h6 (fun v5 h7 => ?_); clear h6
    refine s_il (i := 1) (pc' := 52) (by decide +kernel) rfl ?_
    refine s_aal (t := 5) (pc' := 53) (by decide +kernel) h7 (fun v6 h8 => ?_); clear h7
    refine s_gI (t := 5) (j := 0) (ty := 0) (pc' := 56) (by decide +kernel) rfl h8 (fun v7 h9 => ?_); clear h8
    have e9 := Option.some.inj h9; subst e9
    exact s_ri (X := 3) (Y := 18) (by decide +kernel) hc3 hF
  rw [if_neg e0] at h4
  by_cases e1 : l2 = 1
  · have h5 := h4
    rw [if_pos e1] at h5
    clear h4
    refine s_sw (v := 1) (t := 57) e1 (by decide +kernel) ?_
    refine s_rl (i := 0) (pc' := 58) (by decide +kernel) rfl ?_
    refine s_gR (t := 8) (j := 4) (pc' := 61) (by decide +kernel) h5 (fun v8 h6 => ?_); clear h5
    refine s_gR (t := 0) (j := 5) (pc' := 64) (by decide +kernel) h6 (fun v9 h7 => ?_); clear h6
    refine s_il (i := 1) (pc' := 65) (by decide +kernel) rfl ?_
    refine s_aal (t := 5) (pc' := 66) (by decide +kernel) h7 (fun v10 h8 => ?_); clear h7
    refine s_gI (t := 5) (j := 1) (ty := 0) (pc' := 69) (by decide +kernel) rfl h8 (fun v11 h9 => ?_); clear h8
    have e9 := Option.some.inj h9; subst e9
    exact s_ri (X := 3) (Y := 18) (by decide +kernel) hc3 hF
  rw [if_neg e1] at h4
  refine s_sd (n := 2) (t := 70) (sw_out2 e0 e1) (by decide +kernel) ?_
  refine s_rl (i := 0) (pc' := 71) (by decide +kernel) rfl ?_
  refine s_gR (t := 8) (j := 4) (pc' := 74) (by decide +kernel) h4 (fun v12 h5 => ?_); clear h4
  refine s_il (i := 1) (pc' := 75) (by decide +kernel) rfl ?_
  refine kX0_shotsOfScene (X := 3) (Y := 18) (X' := 3) (Y' := 18) (pc' := 78) (by decide +kernel) hc3 rfl h5 (fun v13 c hc4 h6 => ?_); clear h5 hc3
  have e9 := Option.some.inj h6; subst e9
  exact s_ri (X := 3) (Y := 18) (by decide +kernel) hc4 hF
set_option maxRecDepth 100000 in
set_option maxHeartbeats 4000000 in
theorem kX10_scene {K J : Nat → Nat} {fu : Nat} {sh : HS} {I : HI} {R : HR} {F : VF} {mi pc pc' X Y X' Y' : Nat} {L : VL} {rest : List Value} {c : Nat × Nat} {l0 : Nat} {l1 : Int32} {l2 : Int32} {ω : Type} {o : ω} {e : String → Option ω} {g : Int32 → Option ω} (hq : cQ mi pc 83 3 pc' X Y X' Y' = true) (hc : c.1 ≤ X ∧ c.2 ≤ Y) (hr : Nat.ble (catS rest) 8 = true) (h : oT0 (fX10_scene fu sh I R l0 l1 l2) e g = some o) (kk : ∀ v c', (c'.1 ≤ X' ∧ c'.2 ≤ Y') → g v = some o → V K J mi pc' L ((.int v) :: rest) sh I R c' F) (kx : ∀ E, e E = some o → F (.inr E) sh I R) : V K J mi pc L (.int l2 :: .int l1 :: .ref l0 :: rest) sh I R c F := by
  obtain ⟨r, h1, h2⟩ := bnd h
  have hT : isT sh l0 8 = true := by unfold fX10_scene at h1; exact (gd h1).1
  have ml : mL 83 = 3 := by decide +kernel
  have mk : mK 83 = 1 := by decide +kernel
  have mc : mC 83 = 8 := by decide +kernel
  rcases r with v | E
  · refine s_call (as := [.int l2, .int l1, .ref l0]) (G := fun o' sh' I' R' => o' = .inl (some (.int v)) ∧ sh' = sh ∧ I' = I ∧ R' = R) hq hc rfl hr (by rw [ml]; rfl) (Or.inl rfl) (fun _ => Or.inl ⟨by rw [mc]; decide, by rw [mc]; exact isT_iff.mp hT⟩) (fun z => absurd (mk.symm.trans z) (by decide)) (by rw [ml]; exact vX10_scene (F := fun o' sh' I' R' => o' = .inl (some (.int v)) ∧ sh' = sh ∧ I' = I ∧ R' = R) ⟨rfl, rfl, rfl, rfl⟩ h1) ?_ ?_ ?_
    · rintro sh' I' R' c' hc' ⟨g1, rfl, rfl, rfl⟩
      cases g1
    · rintro v' sh' I' R' c' hc' ⟨g1, rfl, rfl, rfl⟩
      cases g1
      exact kk _ _ hc' h2
    · rintro E' sh' I' R' ⟨g1, rfl, rfl, rfl⟩
      cases g1
  · refine s_call (as := [.int l2, .int l1, .ref l0]) (G := fun o' sh' I' R' => o' = .inr E ∧ sh' = sh ∧ I' = I ∧ R' = R) hq hc rfl hr (by rw [ml]; rfl) (Or.inl rfl) (fun _ => Or.inl ⟨by rw [mc]; decide, by rw [mc]; exact isT_iff.mp hT⟩) (fun z => absurd (mk.symm.trans z) (by decide)) (by rw [ml]; exact vX10_scene (F := fun o' sh' I' R' => o' = .inr E ∧ sh' = sh ∧ I' = I ∧ R' = R) ⟨rfl, rfl, rfl, rfl⟩ h1) ?_ ?_ ?_
    · rintro sh' I' R' c' hc' ⟨g1, rfl, rfl, rfl⟩
      cases g1
    · rintro v' sh' I' R' c' hc' ⟨g1, rfl, rfl, rfl⟩
      cases g1
    · rintro E' sh' I' R' ⟨g1, rfl, rfl, rfl⟩
      cases g1
      exact kx _ h2
set_option maxRecDepth 100000 in
set_option maxHeartbeats 4000000 in
def fX10_needActor (fu : Nat) (sh : HS) (I : HI) (R : HR) (l0 : Nat) (l1 : Int32) : Option (Unit ⊕ String) :=
  (fX6_hasActor fu sh I R l0 l1).bind fun v1 =>
  if v1 = 0 then
    (some (.inr "java/lang/IllegalArgumentException"))
  else
    (some (.inl ()))
set_option maxRecDepth 100000 in
set_option maxHeartbeats 4000000 in
theorem vX10_needActor {K J : Nat → Nat} {fu : Nat} {sh : HS} {I : HI} {R : HR} {F : VF} {o : (Unit ⊕ String)} (hF : F (voN o) sh I R) {l0 : Nat} {l1 : Int32} (h0 : fX10_needActor fu sh I R l0 l1 = some o) : V K J 133 0 (ent 2 [.ref l0, .int l1]) [] sh I R (0, 0) F := by
  unfold fX10_needActor at h0
  have h1 := h0; clear h0
  have hc0 : ((0 : Nat), (0 : Nat)).1 ≤ 0 ∧ ((0 : Nat), (0 : Nat)).2 ≤ 0 := ⟨Nat.le_refl _, Nat.le_refl _⟩
  show V K J 133 0 [some (.ref l0), some (.int l1)] [] sh I R (0, 0) F
  refine s_rl (i := 0) (pc' := 1) (by decide +kernel) rfl ?_
  refine s_il (i := 1) (pc' := 2) (by decide +kernel) rfl ?_
  refine kX6_hasActor (X := 0) (Y := 0) (X' := 0) (Y' := 0) (pc' := 5) (by decide +kernel) hc0 rfl h1 (fun v1 c hc1 h2 => ?_); clear h1 hc0
  refine s_ifn (ins := .ifCond .ne 14) (t := 19) (pc' := 8) (by decide +kernel) rfl rfl rfl h2 (fun p3 h3 => ?_) (fun p3 h3 => ?_) <;> clear h2
  · have e9 := Option.some.inj h3; subst e9
    exact s_rv (X := 0) (Y := 0) (by decide +kernel) hc1 hF
  · have e9 := Option.some.inj h3; subst e9
    exact s_th (E := "java/lang/IllegalArgumentException") (X := 0) (Y := 0) (by decide +kernel) hc1 rfl hF
set_option maxRecDepth 100000 in
set_option maxHeartbeats 4000000 in
theorem kX10_needActor {K J : Nat → Nat} {fu : Nat} {sh : HS} {I : HI} {R : HR} {F : VF} {mi pc pc' X Y X' Y' : Nat} {L : VL} {rest : List Value} {c : Nat × Nat} {l0 : Nat} {l1 : Int32} {ω : Type} {o : ω} {e : String → Option ω} {g : Unit → Option ω} (hq : cQ mi pc 133 2 pc' X Y X' Y' = true) (hc : c.1 ≤ X ∧ c.2 ≤ Y) (hr : Nat.ble (catS rest) 8 = true) (h : oT0 (fX10_needActor fu sh I R l0 l1) e g = some o) (kk : ∀ v c', (c'.1 ≤ X' ∧ c'.2 ≤ Y') → g v = some o → V K J mi pc' L (rest) sh I R c' F) (kx : ∀ E, e E = some o → F (.inr E) sh I R) : V K J mi pc L (.int l1 :: .ref l0 :: rest) sh I R c F := by
  obtain ⟨r, h1, h2⟩ := bnd h
  have ml : mL 133 = 2 := by decide +kernel
  have mk : mK 133 = 0 := by decide +kernel
  rcases r with v | E
  · refine s_call (as := [.int l1, .ref l0]) (G := fun o' sh' I' R' => o' = .inl none ∧ sh' = sh ∧ I' = I ∧ R' = R) hq hc rfl hr (by rw [ml]; rfl) (Or.inl rfl) (fun z => absurd (mk.symm.trans z) (by decide)) (fun z => absurd (mk.symm.trans z) (by decide)) (by rw [ml]; exact vX10_needActor (F := fun o' sh' I' R' => o' = .inl none ∧ sh' = sh ∧ I' = I ∧ R' = R) ⟨rfl, rfl, rfl, rfl⟩ h1) ?_ ?_ ?_
    · rintro sh' I' R' c' hc' ⟨g1, rfl, rfl, rfl⟩
      cases g1
      exact kk _ _ hc' h2
    · rintro v' sh' I' R' c' hc' ⟨g1, rfl, rfl, rfl⟩
      cases g1
    · rintro E' sh' I' R' ⟨g1, rfl, rfl, rfl⟩
      cases g1
  · refine s_call (as := [.int l1, .ref l0]) (G := fun o' sh' I' R' => o' = .inr E ∧ sh' = sh ∧ I' = I ∧ R' = R) hq hc rfl hr (by rw [ml]; rfl) (Or.inl rfl) (fun z => absurd (mk.symm.trans z) (by decide)) (fun z => absurd (mk.symm.trans z) (by decide)) (by rw [ml]; exact vX10_needActor (F := fun o' sh' I' R' => o' = .inr E ∧ sh' = sh ∧ I' = I ∧ R' = R) ⟨rfl, rfl, rfl, rfl⟩ h1) ?_ ?_ ?_
    · rintro sh' I' R' c' hc' ⟨g1, rfl, rfl, rfl⟩
      cases g1
    · rintro v' sh' I' R' c' hc' ⟨g1, rfl, rfl, rfl⟩
      cases g1
    · rintro E' sh' I' R' ⟨g1, rfl, rfl, rfl⟩
      cases g1
      exact kx _ h2
set_option maxRecDepth 100000 in
set_option maxHeartbeats 4000000 in
def fX10_actor_b57 (fu : Nat) (sh : HS) (I : HI) (R : HR) (s0 : Int32) : Option (Int32 ⊕ String) :=
  some (.inl s0)
set_option maxRecDepth 100000 in
set_option maxHeartbeats 4000000 in
theorem vX10_actor_b57 {K J : Nat → Nat} {fu : Nat} {sh : HS} {I : HI} {R : HR} {F : VF} {o : (Int32 ⊕ String)} (hF : F (voI o) sh I R) {s0 : Int32} {d0 d1 d2 d3 : Option Value} {c : Nat × Nat} (hc0 : c.1 ≤ 3 ∧ c.2 ≤ 18) (h0 : fX10_actor_b57 fu sh I R s0 = some o) : V K J 84 57 [d0, d1, d2, d3] [.int s0] sh I R c F := by
  unfold fX10_actor_b57 at h0
  have e9 := Option.some.inj h0; subst e9
  exact s_ri (X := 3) (Y := 18) (by decide +kernel) hc0 hF
set_option maxRecDepth 100000 in
set_option maxHeartbeats 4000000 in
def fX10_actor (fu : Nat) (sh : HS) (I : HI) (R : HR) (l0 : Nat) (l1 : Int32) (l2 : Int32) (l3 : Int32) : Option (Int32 ⊕ String) :=
  if isT sh l0 8 = true then
    (oT0 (fX10_needBoard fu sh I R l0) (fun E => some (.inr E)) fun _ =>
    oT0 (fX10_needScene fu sh I R l0 l1) (fun E => some (.inr E)) fun _ =>
    (oR sh R l0 8 4).bind fun v3 =>
    (oR sh R v3 0 5).bind fun v4 =>
    (oB sh R v4 5 l1).bind fun v5 =>
    oT0 (fX10_needActor fu sh I R v5 l2) (fun E => some (.inr E)) fun _ =>
    if l3 = 0 then
      ((oR sh R l0 8 4).bind fun v7 =>
      (oR sh R v7 0 5).bind fun v8 =>
      (oB sh R v8 5 l1).bind fun v9 =>
      (oR sh R v9 5 2).bind fun v10 =>
      (oA sh I v10 l2).bind fun v11 =>
      (fX10_actor_b57 fu sh I R) v11)
    else
      ((oR sh R l0 8 4).bind fun v12 =>
      (oR sh R v12 0 5).bind fun v13 =>
      (oB sh R v13 5 l1).bind fun v14 =>
      (oR sh R v14 5 3).bind fun v15 =>
      (oA sh I v15 l2).bind fun v16 =>
      (fX10_actor_b57 fu sh I R) v16))
  else none
set_option maxRecDepth 100000 in
set_option maxHeartbeats 4000000 in
theorem vX10_actor {K J : Nat → Nat} {fu : Nat} {sh : HS} {I : HI} {R : HR} {F : VF} {o : (Int32 ⊕ String)} (hF : F (voI o) sh I R) {l0 : Nat} {l1 : Int32} {l2 : Int32} {l3 : Int32} (h0 : fX10_actor fu sh I R l0 l1 l2 l3 = some o) : V K J 84 0 (ent 4 [.ref l0, .int l1, .int l2, .int l3]) [] sh I R (0, 0) F := by
  unfold fX10_actor at h0
  obtain ⟨-, h1⟩ := gd h0; clear h0
  have hc0 : ((0 : Nat), (0 : Nat)).1 ≤ 0 ∧ ((0 : Nat), (0 : Nat)).2 ≤ 0 := ⟨Nat.le_refl _, Nat.le_refl _⟩
  show V K J 84 0 [some (.ref l0), some (.int l1), some (.int l2), some (.int l3)] [] sh I R (0, 0) F
  refine s_rl (i := 0) (pc' := 1) (by decide +kernel) rfl ?_
  refine kX10_needBoard (X := 0) (Y := 0) (X' := 1) (Y' := 6) (pc' := 4) (by decide +kernel) hc0 rfl h1 (fun v1 c hc1 h2 => ?_) (fun E h2 => by have e9 := Option.some.inj h2; subst e9; exact hF); clear h1 hc0
  refine s_rl (i := 0) (pc' := 5) (by decide +kernel) rfl ?_
  refine s_il (i := 1) (pc' := 6) (by decide +kernel) rfl ?_
  refine kX10_needScene (X := 1) (Y := 6) (X' := 2) (Y' := 12) (pc' := 9) (by decide +kernel) hc1 rfl h2 (fun v2 c hc2 h3 => ?_) (fun E h3 => by have e9 := Option.some.inj h3; subst e9; exact hF); clear h2 hc1
  refine s_rl (i := 0) (pc' := 10) (by decide +kernel) rfl ?_
  refine s_gR (t := 8) (j := 4) (pc' := 13) (by decide +kernel) h3 (fun v3 h4 => ?_); clear h3
  refine s_gR (t := 0) (j := 5) (pc' := 16) (by decide +kernel) h4 (fun v4 h5 => ?_); clear h4
  refine s_il (i := 1) (pc' := 17) (by decide +kernel) rfl ?_
  refine s_aal (t := 5) (pc' := 18) (by decide +kernel) h5 (fun v5 h6 => ?_); clear h5
  refine s_il (i := 2) (pc' := 19) (by decide +kernel) rfl ?_
  refine kX10_needActor (X := 2) (Y := 12) (X' := 3) (Y' := 18) (pc' := 22) (by decide +kernel) hc2 rfl h6 (fun v6 c hc3 h7 => ?_) (fun E h7 => by have e9 := Option.some.inj h7; subst e9; exact hF); clear h6 hc2
  refine s_il (i := 3) (pc' := 23) (by decide +kernel) rfl ?_
  refine s_if (ins := .ifCond .eq 20) (t := 43) (pc' := 26) (by decide +kernel) rfl rfl rfl h7 (fun p8 h8 => ?_) (fun p8 h8 => ?_) <;> clear h7
  · refine s_rl (i := 0) (pc' := 44) (by decide +kernel) rfl ?_
    refine s_gR (t := 8) (j := 4) (pc' := 47) (by decide +kernel) h8 (fun v7 h9 => ?_); clear h8
    refine s_gR (t := 0) (j := 5) (pc' := 50) (by decide +kernel) h9 (fun v8 h10 => ?_); clear h9
    refine s_il (i := 1) (pc' := 51) (by decide +kernel) rfl ?_
    refine s_aal (t := 5) (pc' := 52) (by decide +kernel) h10 (fun v9 h11 => ?_); clear h10
    refine s_gR (t := 5) (j := 2) (pc' := 55) (by decide +kernel) h11 (fun v10 h12 => ?_); clear h11
    refine s_il (i := 2) (pc' := 56) (by decide +kernel) rfl ?_
    refine s_al (pc' := 57) (by decide +kernel) h12 (fun v11 h13 => ?_); clear h12
    exact (vX10_actor_b57 hF) hc3 h13
  · refine s_rl (i := 0) (pc' := 27) (by decide +kernel) rfl ?_
    refine s_gR (t := 8) (j := 4) (pc' := 30) (by decide +kernel) h8 (fun v12 h9 => ?_); clear h8
    refine s_gR (t := 0) (j := 5) (pc' := 33) (by decide +kernel) h9 (fun v13 h10 => ?_); clear h9
    refine s_il (i := 1) (pc' := 34) (by decide +kernel) rfl ?_
    refine s_aal (t := 5) (pc' := 35) (by decide +kernel) h10 (fun v14 h11 => ?_); clear h10
    refine s_gR (t := 5) (j := 3) (pc' := 38) (by decide +kernel) h11 (fun v15 h12 => ?_); clear h11
    refine s_il (i := 2) (pc' := 39) (by decide +kernel) rfl ?_
    refine s_al (pc' := 40) (by decide +kernel) h12 (fun v16 h13 => ?_); clear h12
    refine s_go (t := 57) (by decide +kernel) ?_
    exact (vX10_actor_b57 hF) hc3 h13
set_option maxRecDepth 100000 in
set_option maxHeartbeats 4000000 in
theorem kX10_actor {K J : Nat → Nat} {fu : Nat} {sh : HS} {I : HI} {R : HR} {F : VF} {mi pc pc' X Y X' Y' : Nat} {L : VL} {rest : List Value} {c : Nat × Nat} {l0 : Nat} {l1 : Int32} {l2 : Int32} {l3 : Int32} {ω : Type} {o : ω} {e : String → Option ω} {g : Int32 → Option ω} (hq : cQ mi pc 84 4 pc' X Y X' Y' = true) (hc : c.1 ≤ X ∧ c.2 ≤ Y) (hr : Nat.ble (catS rest) 8 = true) (h : oT0 (fX10_actor fu sh I R l0 l1 l2 l3) e g = some o) (kk : ∀ v c', (c'.1 ≤ X' ∧ c'.2 ≤ Y') → g v = some o → V K J mi pc' L ((.int v) :: rest) sh I R c' F) (kx : ∀ E, e E = some o → F (.inr E) sh I R) : V K J mi pc L (.int l3 :: .int l2 :: .int l1 :: .ref l0 :: rest) sh I R c F := by
  obtain ⟨r, h1, h2⟩ := bnd h
  have hT : isT sh l0 8 = true := by unfold fX10_actor at h1; exact (gd h1).1
  have ml : mL 84 = 4 := by decide +kernel
  have mk : mK 84 = 1 := by decide +kernel
  have mc : mC 84 = 8 := by decide +kernel
  rcases r with v | E
  · refine s_call (as := [.int l3, .int l2, .int l1, .ref l0]) (G := fun o' sh' I' R' => o' = .inl (some (.int v)) ∧ sh' = sh ∧ I' = I ∧ R' = R) hq hc rfl hr (by rw [ml]; rfl) (Or.inl rfl) (fun _ => Or.inl ⟨by rw [mc]; decide, by rw [mc]; exact isT_iff.mp hT⟩) (fun z => absurd (mk.symm.trans z) (by decide)) (by rw [ml]; exact vX10_actor (F := fun o' sh' I' R' => o' = .inl (some (.int v)) ∧ sh' = sh ∧ I' = I ∧ R' = R) ⟨rfl, rfl, rfl, rfl⟩ h1) ?_ ?_ ?_
    · rintro sh' I' R' c' hc' ⟨g1, rfl, rfl, rfl⟩
      cases g1
    · rintro v' sh' I' R' c' hc' ⟨g1, rfl, rfl, rfl⟩
      cases g1
      exact kk _ _ hc' h2
    · rintro E' sh' I' R' ⟨g1, rfl, rfl, rfl⟩
      cases g1
  · refine s_call (as := [.int l3, .int l2, .int l1, .ref l0]) (G := fun o' sh' I' R' => o' = .inr E ∧ sh' = sh ∧ I' = I ∧ R' = R) hq hc rfl hr (by rw [ml]; rfl) (Or.inl rfl) (fun _ => Or.inl ⟨by rw [mc]; decide, by rw [mc]; exact isT_iff.mp hT⟩) (fun z => absurd (mk.symm.trans z) (by decide)) (by rw [ml]; exact vX10_actor (F := fun o' sh' I' R' => o' = .inr E ∧ sh' = sh ∧ I' = I ∧ R' = R) ⟨rfl, rfl, rfl, rfl⟩ h1) ?_ ?_ ?_
    · rintro sh' I' R' c' hc' ⟨g1, rfl, rfl, rfl⟩
      cases g1
    · rintro v' sh' I' R' c' hc' ⟨g1, rfl, rfl, rfl⟩
      cases g1
    · rintro E' sh' I' R' ⟨g1, rfl, rfl, rfl⟩
      cases g1
      exact kx _ h2
set_option maxRecDepth 100000 in
set_option maxHeartbeats 4000000 in
def fX10_needShot (fu : Nat) (sh : HS) (I : HI) (R : HR) (l0 : Nat) (l1 : Int32) : Option (Unit ⊕ String) :=
  if isT sh l0 8 = true then
    ((oR sh R l0 8 4).bind fun v1 =>
    (oI sh I v1 0 4).bind fun v2 =>
    oT0 (fX10_needRange fu sh I R l1 0 (v2 - 1)) (fun E => some (.inr E)) fun _ =>
    some (.inl ()))
  else none
set_option maxRecDepth 100000 in
set_option maxHeartbeats 4000000 in
theorem vX10_needShot {K J : Nat → Nat} {fu : Nat} {sh : HS} {I : HI} {R : HR} {F : VF} {o : (Unit ⊕ String)} (hF : F (voN o) sh I R) {l0 : Nat} {l1 : Int32} (h0 : fX10_needShot fu sh I R l0 l1 = some o) : V K J 131 0 (ent 2 [.ref l0, .int l1]) [] sh I R (0, 0) F := by
  unfold fX10_needShot at h0
  obtain ⟨-, h1⟩ := gd h0; clear h0
  have hc0 : ((0 : Nat), (0 : Nat)).1 ≤ 0 ∧ ((0 : Nat), (0 : Nat)).2 ≤ 0 := ⟨Nat.le_refl _, Nat.le_refl _⟩
  show V K J 131 0 [some (.ref l0), some (.int l1)] [] sh I R (0, 0) F
  refine s_il (i := 1) (pc' := 1) (by decide +kernel) rfl ?_
  refine s_c (v := 0) (pc' := 2) (by decide +kernel) ?_
  refine s_rl (i := 0) (pc' := 3) (by decide +kernel) rfl ?_
  refine s_gR (t := 8) (j := 4) (pc' := 6) (by decide +kernel) h1 (fun v1 h2 => ?_); clear h1
  refine s_gI (t := 0) (j := 4) (ty := 0) (pc' := 9) (by decide +kernel) rfl h2 (fun v2 h3 => ?_); clear h2
  refine s_c (v := 1) (pc' := 10) (by decide +kernel) ?_
  refine s_a (ins := .isub) (pc' := 11) (by decide +kernel) rfl ?_
  refine kX10_needRange (X := 0) (Y := 0) (X' := 1) (Y' := 6) (pc' := 14) (by decide +kernel) hc0 rfl h3 (fun v3 c hc1 h4 => ?_) (fun E h4 => by have e9 := Option.some.inj h4; subst e9; exact hF); clear h3 hc0
  have e9 := Option.some.inj h4; subst e9
  exact s_rv (X := 1) (Y := 6) (by decide +kernel) hc1 hF
set_option maxRecDepth 100000 in
set_option maxHeartbeats 4000000 in
theorem kX10_needShot {K J : Nat → Nat} {fu : Nat} {sh : HS} {I : HI} {R : HR} {F : VF} {mi pc pc' X Y X' Y' : Nat} {L : VL} {rest : List Value} {c : Nat × Nat} {l0 : Nat} {l1 : Int32} {ω : Type} {o : ω} {e : String → Option ω} {g : Unit → Option ω} (hq : cQ mi pc 131 2 pc' X Y X' Y' = true) (hc : c.1 ≤ X ∧ c.2 ≤ Y) (hr : Nat.ble (catS rest) 8 = true) (h : oT0 (fX10_needShot fu sh I R l0 l1) e g = some o) (kk : ∀ v c', (c'.1 ≤ X' ∧ c'.2 ≤ Y') → g v = some o → V K J mi pc' L (rest) sh I R c' F) (kx : ∀ E, e E = some o → F (.inr E) sh I R) : V K J mi pc L (.int l1 :: .ref l0 :: rest) sh I R c F := by
  obtain ⟨r, h1, h2⟩ := bnd h
  have hT : isT sh l0 8 = true := by unfold fX10_needShot at h1; exact (gd h1).1
  have ml : mL 131 = 2 := by decide +kernel
  have mk : mK 131 = 1 := by decide +kernel
  have mc : mC 131 = 8 := by decide +kernel
  rcases r with v | E
  · refine s_call (as := [.int l1, .ref l0]) (G := fun o' sh' I' R' => o' = .inl none ∧ sh' = sh ∧ I' = I ∧ R' = R) hq hc rfl hr (by rw [ml]; rfl) (Or.inl rfl) (fun _ => Or.inl ⟨by rw [mc]; decide, by rw [mc]; exact isT_iff.mp hT⟩) (fun z => absurd (mk.symm.trans z) (by decide)) (by rw [ml]; exact vX10_needShot (F := fun o' sh' I' R' => o' = .inl none ∧ sh' = sh ∧ I' = I ∧ R' = R) ⟨rfl, rfl, rfl, rfl⟩ h1) ?_ ?_ ?_
    · rintro sh' I' R' c' hc' ⟨g1, rfl, rfl, rfl⟩
      cases g1
      exact kk _ _ hc' h2
    · rintro v' sh' I' R' c' hc' ⟨g1, rfl, rfl, rfl⟩
      cases g1
    · rintro E' sh' I' R' ⟨g1, rfl, rfl, rfl⟩
      cases g1
  · refine s_call (as := [.int l1, .ref l0]) (G := fun o' sh' I' R' => o' = .inr E ∧ sh' = sh ∧ I' = I ∧ R' = R) hq hc rfl hr (by rw [ml]; rfl) (Or.inl rfl) (fun _ => Or.inl ⟨by rw [mc]; decide, by rw [mc]; exact isT_iff.mp hT⟩) (fun z => absurd (mk.symm.trans z) (by decide)) (by rw [ml]; exact vX10_needShot (F := fun o' sh' I' R' => o' = .inr E ∧ sh' = sh ∧ I' = I ∧ R' = R) ⟨rfl, rfl, rfl, rfl⟩ h1) ?_ ?_ ?_
    · rintro sh' I' R' c' hc' ⟨g1, rfl, rfl, rfl⟩
      cases g1
    · rintro v' sh' I' R' c' hc' ⟨g1, rfl, rfl, rfl⟩
      cases g1
    · rintro E' sh' I' R' ⟨g1, rfl, rfl, rfl⟩
      cases g1
      exact kx _ h2
set_option maxRecDepth 100000 in
set_option maxHeartbeats 4000000 in
def fX10_shot (fu : Nat) (sh : HS) (I : HI) (R : HR) (l0 : Nat) (l1 : Int32) (l2 : Int32) : Option (Int32 ⊕ String) :=
  if isT sh l0 8 = true then
    (oT0 (fX10_needBoard fu sh I R l0) (fun E => some (.inr E)) fun _ =>
    oT0 (fX10_needShot fu sh I R l0 l1) (fun E => some (.inr E)) fun _ =>
    oT0 (fX10_needRange fu sh I R l2 0 5) (fun E => some (.inr E)) fun _ =>
    (oR sh R l0 8 4).bind fun v4 =>
    (oR sh R v4 0 6).bind fun v5 =>
    (oB sh R v5 7 l1).bind fun v6 =>
    if l2 = 0 then
      ((oI sh I v6 7 0).bind fun v7 =>
      some (.inl v7))
    else
      if l2 = 1 then
        ((oI sh I v6 7 1).bind fun v8 =>
        some (.inl v8))
      else
        if l2 = 2 then
          ((oI sh I v6 7 2).bind fun v9 =>
          some (.inl v9))
        else
          if l2 = 3 then
            ((oI sh I v6 7 3).bind fun v10 =>
            some (.inl v10))
          else
            if l2 = 4 then
              ((oI sh I v6 7 4).bind fun v11 =>
              some (.inl v11))
            else
              (oI sh I v6 7 5).bind fun v12 =>
              some (.inl v12))
  else none
set_option maxRecDepth 100000 in
set_option maxHeartbeats 4000000 in
theorem vX10_shot {K J : Nat → Nat} {fu : Nat} {sh : HS} {I : HI} {R : HR} {F : VF} {o : (Int32 ⊕ String)} (hF : F (voI o) sh I R) {l0 : Nat} {l1 : Int32} {l2 : Int32} (h0 : fX10_shot fu sh I R l0 l1 l2 = some o) : V K J 85 0 (ent 4 [.ref l0, .int l1, .int l2]) [] sh I R (0, 0) F := by
  unfold fX10_shot at h0
  obtain ⟨-, h1⟩ := gd h0; clear h0
  have hc0 : ((0 : Nat), (0 : Nat)).1 ≤ 0 ∧ ((0 : Nat), (0 : Nat)).2 ≤ 0 := ⟨Nat.le_refl _, Nat.le_refl _⟩
  show V K J 85 0 [some (.ref l0), some (.int l1), some (.int l2), none] [] sh I R (0, 0) F
  refine s_rl (i := 0) (pc' := 1) (by decide +kernel) rfl ?_
  refine kX10_needBoard (X := 0) (Y := 0) (X' := 1) (Y' := 6) (pc' := 4) (by decide +kernel) hc0 rfl h1 (fun v1 c hc1 h2 => ?_) (fun E h2 => by have e9 := Option.some.inj h2; subst e9; exact hF); clear h1 hc0
  refine s_rl (i := 0) (pc' := 5) (by decide +kernel) rfl ?_
  refine s_il (i := 1) (pc' := 6) (by decide +kernel) rfl ?_
  refine kX10_needShot (X := 1) (Y := 6) (X' := 2) (Y' := 12) (pc' := 9) (by decide +kernel) hc1 rfl h2 (fun v2 c hc2 h3 => ?_) (fun E h3 => by have e9 := Option.some.inj h3; subst e9; exact hF); clear h2 hc1
  refine s_il (i := 2) (pc' := 10) (by decide +kernel) rfl ?_
  refine s_c (v := 0) (pc' := 11) (by decide +kernel) ?_
  refine s_c (v := 5) (pc' := 12) (by decide +kernel) ?_
  refine kX10_needRange (X := 2) (Y := 12) (X' := 3) (Y' := 18) (pc' := 15) (by decide +kernel) hc2 rfl h3 (fun v3 c hc3 h4 => ?_) (fun E h4 => by have e9 := Option.some.inj h4; subst e9; exact hF); clear h3 hc2
  refine s_rl (i := 0) (pc' := 16) (by decide +kernel) rfl ?_
  refine s_gR (t := 8) (j := 4) (pc' := 19) (by decide +kernel) h4 (fun v4 h5 => ?_); clear h4
  refine s_gR (t := 0) (j := 6) (pc' := 22) (by decide +kernel) h5 (fun v5 h6 => ?_); clear h5
  refine s_il (i := 1) (pc' := 23) (by decide +kernel) rfl ?_
  refine s_aal (t := 7) (pc' := 24) (by decide +kernel) h6 (fun v6 h7 => ?_); clear h6
  refine s_rs (i := 3) (pc' := 25) (L' := [some (.ref l0), some (.int l1), some (.int l2), some (.ref v6)]) (by decide +kernel) rfl rfl ?_
  refine s_il (i := 2) (pc' := 26) (by decide +kernel) rfl ?_
  by_cases e0 : l2 = 0
  · have h8 := h7
    rw [if_pos e0] at h8
    clear h7
    refine s_sw (v := 0) (t := 60) e0 (by decide +kernel) ?_
    refine s_rl (i := 3) (pc' := 61) (by decide +kernel) rfl ?_
    refine s_gI (t := 7) (j := 0) (ty := 0) (pc' := 64) (by decide +kernel) rfl h8 (fun v7 h9 => ?_); clear h8
    have e9 := Option.some.inj h9; subst e9
    exact s_ri (X := 3) (Y := 18) (by decide +kernel) hc3 hF
  rw [if_neg e0] at h7
  by_cases e1 : l2 = 1
  · have h8 := h7
    rw [if_pos e1] at h8
    clear h7
    refine s_sw (v := 1) (t := 65) e1 (by decide +kernel) ?_
    refine s_rl (i := 3) (pc' := 66) (by decide +kernel) rfl ?_
    refine s_gI (t := 7) (j := 1) (ty := 0) (pc' := 69) (by decide +kernel) rfl h8 (fun v8 h9 => ?_); clear h8
    have e9 := Option.some.inj h9; subst e9
    exact s_ri (X := 3) (Y := 18) (by decide +kernel) hc3 hF
  rw [if_neg e1] at h7
  by_cases e2 : l2 = 2
  · have h8 := h7
    rw [if_pos e2] at h8
    clear h7
    refine s_sw (v := 2) (t := 70) e2 (by decide +kernel) ?_
    refine s_rl (i := 3) (pc' := 71) (by decide +kernel) rfl ?_
    refine s_gI (t := 7) (j := 2) (ty := 0) (pc' := 74) (by decide +kernel) rfl h8 (fun v9 h9 => ?_); clear h8
    have e9 := Option.some.inj h9; subst e9
    exact s_ri (X := 3) (Y := 18) (by decide +kernel) hc3 hF
  rw [if_neg e2] at h7
  by_cases e3 : l2 = 3
  · have h8 := h7
    rw [if_pos e3] at h8
    clear h7
    refine s_sw (v := 3) (t := 75) e3 (by decide +kernel) ?_
    refine s_rl (i := 3) (pc' := 76) (by decide +kernel) rfl ?_
    refine s_gI (t := 7) (j := 3) (ty := 0) (pc' := 79) (by decide +kernel) rfl h8 (fun v10 h9 => ?_); clear h8
    have e9 := Option.some.inj h9; subst e9
    exact s_ri (X := 3) (Y := 18) (by decide +kernel) hc3 hF
  rw [if_neg e3] at h7
  by_cases e4 : l2 = 4
  · have h8 := h7
    rw [if_pos e4] at h8
    clear h7
    refine s_sw (v := 4) (t := 80) e4 (by decide +kernel) ?_
    refine s_rl (i := 3) (pc' := 81) (by decide +kernel) rfl ?_
    refine s_gI (t := 7) (j := 4) (ty := 0) (pc' := 84) (by decide +kernel) rfl h8 (fun v11 h9 => ?_); clear h8
    have e9 := Option.some.inj h9; subst e9
    exact s_ri (X := 3) (Y := 18) (by decide +kernel) hc3 hF
  rw [if_neg e4] at h7
  refine s_sd (n := 5) (t := 85) (sw_out5 e0 e1 e2 e3 e4) (by decide +kernel) ?_
  refine s_rl (i := 3) (pc' := 86) (by decide +kernel) rfl ?_
  refine s_gI (t := 7) (j := 5) (ty := 0) (pc' := 89) (by decide +kernel) rfl h7 (fun v12 h8 => ?_); clear h7
  have e9 := Option.some.inj h8; subst e9
  exact s_ri (X := 3) (Y := 18) (by decide +kernel) hc3 hF
set_option maxRecDepth 100000 in
set_option maxHeartbeats 4000000 in
theorem kX10_shot {K J : Nat → Nat} {fu : Nat} {sh : HS} {I : HI} {R : HR} {F : VF} {mi pc pc' X Y X' Y' : Nat} {L : VL} {rest : List Value} {c : Nat × Nat} {l0 : Nat} {l1 : Int32} {l2 : Int32} {ω : Type} {o : ω} {e : String → Option ω} {g : Int32 → Option ω} (hq : cQ mi pc 85 3 pc' X Y X' Y' = true) (hc : c.1 ≤ X ∧ c.2 ≤ Y) (hr : Nat.ble (catS rest) 8 = true) (h : oT0 (fX10_shot fu sh I R l0 l1 l2) e g = some o) (kk : ∀ v c', (c'.1 ≤ X' ∧ c'.2 ≤ Y') → g v = some o → V K J mi pc' L ((.int v) :: rest) sh I R c' F) (kx : ∀ E, e E = some o → F (.inr E) sh I R) : V K J mi pc L (.int l2 :: .int l1 :: .ref l0 :: rest) sh I R c F := by
  obtain ⟨r, h1, h2⟩ := bnd h
  have hT : isT sh l0 8 = true := by unfold fX10_shot at h1; exact (gd h1).1
  have ml : mL 85 = 4 := by decide +kernel
  have mk : mK 85 = 1 := by decide +kernel
  have mc : mC 85 = 8 := by decide +kernel
  rcases r with v | E
  · refine s_call (as := [.int l2, .int l1, .ref l0]) (G := fun o' sh' I' R' => o' = .inl (some (.int v)) ∧ sh' = sh ∧ I' = I ∧ R' = R) hq hc rfl hr (by rw [ml]; rfl) (Or.inl rfl) (fun _ => Or.inl ⟨by rw [mc]; decide, by rw [mc]; exact isT_iff.mp hT⟩) (fun z => absurd (mk.symm.trans z) (by decide)) (by rw [ml]; exact vX10_shot (F := fun o' sh' I' R' => o' = .inl (some (.int v)) ∧ sh' = sh ∧ I' = I ∧ R' = R) ⟨rfl, rfl, rfl, rfl⟩ h1) ?_ ?_ ?_
    · rintro sh' I' R' c' hc' ⟨g1, rfl, rfl, rfl⟩
      cases g1
    · rintro v' sh' I' R' c' hc' ⟨g1, rfl, rfl, rfl⟩
      cases g1
      exact kk _ _ hc' h2
    · rintro E' sh' I' R' ⟨g1, rfl, rfl, rfl⟩
      cases g1
  · refine s_call (as := [.int l2, .int l1, .ref l0]) (G := fun o' sh' I' R' => o' = .inr E ∧ sh' = sh ∧ I' = I ∧ R' = R) hq hc rfl hr (by rw [ml]; rfl) (Or.inl rfl) (fun _ => Or.inl ⟨by rw [mc]; decide, by rw [mc]; exact isT_iff.mp hT⟩) (fun z => absurd (mk.symm.trans z) (by decide)) (by rw [ml]; exact vX10_shot (F := fun o' sh' I' R' => o' = .inr E ∧ sh' = sh ∧ I' = I ∧ R' = R) ⟨rfl, rfl, rfl, rfl⟩ h1) ?_ ?_ ?_
    · rintro sh' I' R' c' hc' ⟨g1, rfl, rfl, rfl⟩
      cases g1
    · rintro v' sh' I' R' c' hc' ⟨g1, rfl, rfl, rfl⟩
      cases g1
    · rintro E' sh' I' R' ⟨g1, rfl, rfl, rfl⟩
      cases g1
      exact kx _ h2
set_option maxRecDepth 100000 in
set_option maxHeartbeats 4000000 in
def fX10_beginAction (fu : Nat) (sh : HS) (I : HI) (R : HR) (l0 : Nat) : Option HI :=
  if isT sh l0 8 = true then
    ((oR sh R l0 8 7).bind fun v1 =>
    (oR sh R l0 8 4).bind fun v2 =>
    (fX3_remember fu sh I R v1 v2).bind fun w3 =>
    (fX10_forgetAnswers fu sh w3 R l0).bind fun w4 =>
    some w4)
  else none
set_option maxRecDepth 100000 in
set_option maxHeartbeats 4000000 in
theorem vX10_beginAction {K J : Nat → Nat} {fu : Nat} {sh : HS} {I : HI} {R : HR} {F : VF} {o : HI} (hF : F (.inl none) sh o R) {l0 : Nat} (h0 : fX10_beginAction fu sh I R l0 = some o) : V K J 134 0 (ent 1 [.ref l0]) [] sh I R (0, 0) F := by
  unfold fX10_beginAction at h0
  obtain ⟨-, h1⟩ := gd h0; clear h0
  have hc0 : ((0 : Nat), (0 : Nat)).1 ≤ 0 ∧ ((0 : Nat), (0 : Nat)).2 ≤ 0 := ⟨Nat.le_refl _, Nat.le_refl _⟩
  show V K J 134 0 [some (.ref l0)] [] sh I R (0, 0) F
  refine s_rl (i := 0) (pc' := 1) (by decide +kernel) rfl ?_
  refine s_gR (t := 8) (j := 7) (pc' := 4) (by decide +kernel) h1 (fun v1 h2 => ?_); clear h1
  refine s_rl (i := 0) (pc' := 5) (by decide +kernel) rfl ?_
  refine s_gR (t := 8) (j := 4) (pc' := 8) (by decide +kernel) h2 (fun v2 h3 => ?_); clear h2
  refine kX3_remember (X := 0) (Y := 0) (X' := 0) (Y' := 0) (pc' := 11) (by decide +kernel) hc0 rfl h3 (fun w3 c hc1 h4 => ?_); clear h3 hc0
  refine s_rl (i := 0) (pc' := 12) (by decide +kernel) rfl ?_
  refine kX10_forgetAnswers (X := 0) (Y := 0) (X' := 0) (Y' := 0) (pc' := 15) (by decide +kernel) hc1 rfl h4 (fun w4 c hc2 h5 => ?_); clear h4 hc1
  have e9 := Option.some.inj h5; subst e9
  exact s_rv (X := 0) (Y := 0) (by decide +kernel) hc2 hF
set_option maxRecDepth 100000 in
set_option maxHeartbeats 4000000 in
theorem kX10_beginAction {K J : Nat → Nat} {fu : Nat} {sh : HS} {I : HI} {R : HR} {F : VF} {mi pc pc' X Y X' Y' : Nat} {L : VL} {rest : List Value} {c : Nat × Nat} {l0 : Nat} {ω : Type} {o : ω} {g : HI → Option ω} (hq : cQ mi pc 134 1 pc' X Y X' Y' = true) (hc : c.1 ≤ X ∧ c.2 ≤ Y) (hr : Nat.ble (catS rest) 8 = true) (h : (fX10_beginAction fu sh I R l0).bind g = some o) (kk : ∀ w c', (c'.1 ≤ X' ∧ c'.2 ≤ Y') → g w = some o → V K J mi pc' L (rest) sh w R c' F) : V K J mi pc L (.ref l0 :: rest) sh I R c F := by
  obtain ⟨r, h1, h2⟩ := bnd h
  have hT : isT sh l0 8 = true := by unfold fX10_beginAction at h1; exact (gd h1).1
  have ml : mL 134 = 1 := by decide +kernel
  have mk : mK 134 = 1 := by decide +kernel
  have mc : mC 134 = 8 := by decide +kernel
  refine s_call (as := [.ref l0]) (G := fun o' sh' I' R' => o' = .inl none ∧ sh' = sh ∧ I' = r ∧ R' = R) hq hc rfl hr (by rw [ml]; rfl) (Or.inl rfl) (fun _ => Or.inl ⟨by rw [mc]; decide, by rw [mc]; exact isT_iff.mp hT⟩) (fun z => absurd (mk.symm.trans z) (by decide)) (by rw [ml]; exact vX10_beginAction (F := fun o' sh' I' R' => o' = .inl none ∧ sh' = sh ∧ I' = r ∧ R' = R) ⟨rfl, rfl, rfl, rfl⟩ h1) ?_ ?_ ?_
  · rintro sh' I' R' c' hc' ⟨g1, rfl, rfl, rfl⟩
    cases g1
    exact kk _ _ hc' h2
  · rintro v' sh' I' R' c' hc' ⟨g1, rfl, rfl, rfl⟩
    cases g1
  · rintro E' sh' I' R' ⟨g1, rfl, rfl, rfl⟩
    cases g1
set_option maxRecDepth 100000 in
set_option maxHeartbeats 4000000 in
def fX10_settleSetups_b23 (fu : Nat) (sh : HS) (R : HR) (I : HI) : Option HI :=
  some I
set_option maxRecDepth 100000 in
set_option maxHeartbeats 4000000 in
theorem vX10_settleSetups_b23 {K J : Nat → Nat} {fu : Nat} {sh : HS} {R : HR} {F : VF} {o : HI} (hF : F (.inl none) sh o R) {I : HI} {d0 : Option Value} {c : Nat × Nat} (hc0 : c.1 ≤ 0 ∧ c.2 ≤ 0) (h0 : fX10_settleSetups_b23 fu sh R I = some o) : V K J 136 23 [d0] [] sh I R c F := by
  unfold fX10_settleSetups_b23 at h0
  have e9 := Option.some.inj h0; subst e9
  exact s_rv (X := 0) (Y := 0) (by decide +kernel) hc0 hF
set_option maxRecDepth 100000 in
set_option maxHeartbeats 4000000 in
def fX10_settleSetups (fu : Nat) (sh : HS) (I : HI) (R : HR) (l0 : Nat) : Option HI :=
  if isT sh l0 8 = true then
    ((oI sh I l0 8 9).bind fun v1 =>
    if v1 = 0 then
      ((oR sh R l0 8 8).bind fun v2 =>
      (oR sh R l0 8 4).bind fun v3 =>
      (fX7_fill fu sh I R v2 v3).bind fun w4 =>
      (oP sh w4 l0 8 9 1).bind fun v5 =>
      (fX10_settleSetups_b23 fu sh R) v5)
    else
      ((fX10_settleSetups_b23 fu sh R) I))
  else none
set_option maxRecDepth 100000 in
set_option maxHeartbeats 4000000 in
theorem vX10_settleSetups {K J : Nat → Nat} {fu : Nat} {sh : HS} {I : HI} {R : HR} {F : VF} {o : HI} (hF : F (.inl none) sh o R) {l0 : Nat} (h0 : fX10_settleSetups fu sh I R l0 = some o) : V K J 136 0 (ent 1 [.ref l0]) [] sh I R (0, 0) F := by
  unfold fX10_settleSetups at h0
  obtain ⟨-, h1⟩ := gd h0; clear h0
  have hc0 : ((0 : Nat), (0 : Nat)).1 ≤ 0 ∧ ((0 : Nat), (0 : Nat)).2 ≤ 0 := ⟨Nat.le_refl _, Nat.le_refl _⟩
  show V K J 136 0 [some (.ref l0)] [] sh I R (0, 0) F
  refine s_rl (i := 0) (pc' := 1) (by decide +kernel) rfl ?_
  refine s_gI (t := 8) (j := 9) (ty := 1) (pc' := 4) (by decide +kernel) rfl h1 (fun v1 h2 => ?_); clear h1
  refine s_ifn (ins := .ifCond .ne 19) (t := 23) (pc' := 7) (by decide +kernel) rfl rfl rfl h2 (fun p3 h3 => ?_) (fun p3 h3 => ?_) <;> clear h2
  · exact (vX10_settleSetups_b23 hF) hc0 h3
  · refine s_rl (i := 0) (pc' := 8) (by decide +kernel) rfl ?_
    refine s_gR (t := 8) (j := 8) (pc' := 11) (by decide +kernel) h3 (fun v2 h4 => ?_); clear h3
    refine s_rl (i := 0) (pc' := 12) (by decide +kernel) rfl ?_
    refine s_gR (t := 8) (j := 4) (pc' := 15) (by decide +kernel) h4 (fun v3 h5 => ?_); clear h4
    refine kX7_fill (X := 0) (Y := 0) (X' := 0) (Y' := 0) (pc' := 18) (by decide +kernel) hc0 rfl h5 (fun w4 c hc1 h6 => ?_); clear h5 hc0
    refine s_rl (i := 0) (pc' := 19) (by decide +kernel) rfl ?_
    refine s_c (v := 1) (pc' := 20) (by decide +kernel) ?_
    refine s_pI (t := 8) (j := 9) (ty := 1) (pc' := 23) (by decide +kernel) (Or.inr ⟨rfl, by decide⟩) h6 (fun v5 h7 => ?_); clear h6
    exact (vX10_settleSetups_b23 hF) hc1 h7
set_option maxRecDepth 100000 in
set_option maxHeartbeats 4000000 in
theorem kX10_settleSetups {K J : Nat → Nat} {fu : Nat} {sh : HS} {I : HI} {R : HR} {F : VF} {mi pc pc' X Y X' Y' : Nat} {L : VL} {rest : List Value} {c : Nat × Nat} {l0 : Nat} {ω : Type} {o : ω} {g : HI → Option ω} (hq : cQ mi pc 136 1 pc' X Y X' Y' = true) (hc : c.1 ≤ X ∧ c.2 ≤ Y) (hr : Nat.ble (catS rest) 8 = true) (h : (fX10_settleSetups fu sh I R l0).bind g = some o) (kk : ∀ w c', (c'.1 ≤ X' ∧ c'.2 ≤ Y') → g w = some o → V K J mi pc' L (rest) sh w R c' F) : V K J mi pc L (.ref l0 :: rest) sh I R c F := by
  obtain ⟨r, h1, h2⟩ := bnd h
  have hT : isT sh l0 8 = true := by unfold fX10_settleSetups at h1; exact (gd h1).1
  have ml : mL 136 = 1 := by decide +kernel
  have mk : mK 136 = 1 := by decide +kernel
  have mc : mC 136 = 8 := by decide +kernel
  refine s_call (as := [.ref l0]) (G := fun o' sh' I' R' => o' = .inl none ∧ sh' = sh ∧ I' = r ∧ R' = R) hq hc rfl hr (by rw [ml]; rfl) (Or.inl rfl) (fun _ => Or.inl ⟨by rw [mc]; decide, by rw [mc]; exact isT_iff.mp hT⟩) (fun z => absurd (mk.symm.trans z) (by decide)) (by rw [ml]; exact vX10_settleSetups (F := fun o' sh' I' R' => o' = .inl none ∧ sh' = sh ∧ I' = r ∧ R' = R) ⟨rfl, rfl, rfl, rfl⟩ h1) ?_ ?_ ?_
  · rintro sh' I' R' c' hc' ⟨g1, rfl, rfl, rfl⟩
    cases g1
    exact kk _ _ hc' h2
  · rintro v' sh' I' R' c' hc' ⟨g1, rfl, rfl, rfl⟩
    cases g1
  · rintro E' sh' I' R' ⟨g1, rfl, rfl, rfl⟩
    cases g1
set_option maxRecDepth 100000 in
set_option maxHeartbeats 4000000 in
def fX10_setLimits (fu : Nat) (sh : HS) (I : HI) (R : HR) (l0 : Nat) (l1 : Int32) (l2 : Int32) (l3 : Int32) : Option ((Int32 ⊕ String) × HI) :=
  if isT sh l0 8 = true then
    (oT0 (fX10_needBoard fu sh I R l0) (fun E => some (.inr E, I)) fun _ =>
    oT0 (fX10_needRange fu sh I R l1 0 99) (fun E => some (.inr E, I)) fun _ =>
    oT0 (fX10_needRange fu sh I R l2 0 2000) (fun E => some (.inr E, I)) fun _ =>
    oT0 (fX10_needRange fu sh I R l3 0 2000) (fun E => some (.inr E, I)) fun _ =>
    (fX10_beginAction fu sh I R l0).bind fun w5 =>
    (oR sh R l0 8 4).bind fun v6 =>
    (oP sh w5 v6 0 0 l1).bind fun v7 =>
    (oR sh R l0 8 4).bind fun v8 =>
    (oP sh v7 v8 0 1 l2).bind fun v9 =>
    (oR sh R l0 8 4).bind fun v10 =>
    (oP sh v9 v10 0 2 l3).bind fun v11 =>
    (fX10_settleSetups fu sh v11 R l0).bind fun w12 =>
    (oR sh R l0 8 8).bind fun v13 =>
    (oI sh w12 v13 6 0).bind fun v14 =>
    some (.inl v14, w12))
  else none
set_option maxRecDepth 100000 in
set_option maxHeartbeats 4000000 in
theorem vX10_setLimits {K J : Nat → Nat} {fu : Nat} {sh : HS} {I : HI} {R : HR} {F : VF} {o : ((Int32 ⊕ String) × HI)} (hF : F (voI o.1) sh o.2 R) {l0 : Nat} {l1 : Int32} {l2 : Int32} {l3 : Int32} (h0 : fX10_setLimits fu sh I R l0 l1 l2 l3 = some o) : V K J 86 0 (ent 4 [.ref l0, .int l1, .int l2, .int l3]) [] sh I R (0, 0) F := by
  unfold fX10_setLimits at h0
  obtain ⟨-, h1⟩ := gd h0; clear h0
  have hc0 : ((0 : Nat), (0 : Nat)).1 ≤ 0 ∧ ((0 : Nat), (0 : Nat)).2 ≤ 0 := ⟨Nat.le_refl _, Nat.le_refl _⟩
  show V K J 86 0 [some (.ref l0), some (.int l1), some (.int l2), some (.int l3)] [] sh I R (0, 0) F
  refine s_rl (i := 0) (pc' := 1) (by decide +kernel) rfl ?_
  refine kX10_needBoard (X := 0) (Y := 0) (X' := 1) (Y' := 6) (pc' := 4) (by decide +kernel) hc0 rfl h1 (fun v1 c hc1 h2 => ?_) (fun E h2 => by have e9 := Option.some.inj h2; subst e9; exact hF); clear h1 hc0
  refine s_il (i := 1) (pc' := 5) (by decide +kernel) rfl ?_
  refine s_c (v := 0) (pc' := 6) (by decide +kernel) ?_
  refine s_c (v := 99) (pc' := 8) (by decide +kernel) ?_
  refine kX10_needRange (X := 1) (Y := 6) (X' := 2) (Y' := 12) (pc' := 11) (by decide +kernel) hc1 rfl h2 (fun v2 c hc2 h3 => ?_) (fun E h3 => by have e9 := Option.some.inj h3; subst e9; exact hF); clear h2 hc1
  refine s_il (i := 2) (pc' := 12) (by decide +kernel) rfl ?_
  refine s_c (v := 0) (pc' := 13) (by decide +kernel) ?_
  refine s_c (v := 2000) (pc' := 16) (by decide +kernel) ?_
  refine kX10_needRange (X := 2) (Y := 12) (X' := 3) (Y' := 18) (pc' := 19) (by decide +kernel) hc2 rfl h3 (fun v3 c hc3 h4 => ?_) (fun E h4 => by have e9 := Option.some.inj h4; subst e9; exact hF); clear h3 hc2
  refine s_il (i := 3) (pc' := 20) (by decide +kernel) rfl ?_
  refine s_c (v := 0) (pc' := 21) (by decide +kernel) ?_
  refine s_c (v := 2000) (pc' := 24) (by decide +kernel) ?_
  refine kX10_needRange (X := 3) (Y := 18) (X' := 4) (Y' := 24) (pc' := 27) (by decide +kernel) hc3 rfl h4 (fun v4 c hc4 h5 => ?_) (fun E h5 => by have e9 := Option.some.inj h5; subst e9; exact hF); clear h4 hc3
  refine s_rl (i := 0) (pc' := 28) (by decide +kernel) rfl ?_
  refine kX10_beginAction (X := 4) (Y := 24) (X' := 4) (Y' := 24) (pc' := 31) (by decide +kernel) hc4 rfl h5 (fun w5 c hc5 h6 => ?_); clear h5 hc4
  refine s_rl (i := 0) (pc' := 32) (by decide +kernel) rfl ?_
  refine s_gR (t := 8) (j := 4) (pc' := 35) (by decide +kernel) h6 (fun v6 h7 => ?_); clear h6
  refine s_il (i := 1) (pc' := 36) (by decide +kernel) rfl ?_
  refine s_pI (t := 0) (j := 0) (ty := 0) (pc' := 39) (by decide +kernel) (Or.inl rfl) h7 (fun v7 h8 => ?_); clear h7
  refine s_rl (i := 0) (pc' := 40) (by decide +kernel) rfl ?_
  refine s_gR (t := 8) (j := 4) (pc' := 43) (by decide +kernel) h8 (fun v8 h9 => ?_); clear h8
  refine s_il (i := 2) (pc' := 44) (by decide +kernel) rfl ?_
  refine s_pI (t := 0) (j := 1) (ty := 0) (pc' := 47) (by decide +kernel) (Or.inl rfl) h9 (fun v9 h10 => ?_); clear h9
  refine s_rl (i := 0) (pc' := 48) (by decide +kernel) rfl ?_
  refine s_gR (t := 8) (j := 4) (pc' := 51) (by decide +kernel) h10 (fun v10 h11 => ?_); clear h10
  refine s_il (i := 3) (pc' := 52) (by decide +kernel) rfl ?_
  refine s_pI (t := 0) (j := 2) (ty := 0) (pc' := 55) (by decide +kernel) (Or.inl rfl) h11 (fun v11 h12 => ?_); clear h11
  refine s_rl (i := 0) (pc' := 56) (by decide +kernel) rfl ?_
  refine kX10_settleSetups (X := 4) (Y := 24) (X' := 4) (Y' := 24) (pc' := 59) (by decide +kernel) hc5 rfl h12 (fun w12 c hc6 h13 => ?_); clear h12 hc5
  refine s_rl (i := 0) (pc' := 60) (by decide +kernel) rfl ?_
  refine s_gR (t := 8) (j := 8) (pc' := 63) (by decide +kernel) h13 (fun v13 h14 => ?_); clear h13
  refine s_gI (t := 6) (j := 0) (ty := 0) (pc' := 66) (by decide +kernel) rfl h14 (fun v14 h15 => ?_); clear h14
  have e9 := Option.some.inj h15; subst e9
  exact s_ri (X := 4) (Y := 24) (by decide +kernel) hc6 hF
set_option maxRecDepth 100000 in
set_option maxHeartbeats 4000000 in
theorem kX10_setLimits {K J : Nat → Nat} {fu : Nat} {sh : HS} {I : HI} {R : HR} {F : VF} {mi pc pc' X Y X' Y' : Nat} {L : VL} {rest : List Value} {c : Nat × Nat} {l0 : Nat} {l1 : Int32} {l2 : Int32} {l3 : Int32} {ω : Type} {o : ω} {e : String → HI → Option ω} {g : Int32 → HI → Option ω} (hq : cQ mi pc 86 4 pc' X Y X' Y' = true) (hc : c.1 ≤ X ∧ c.2 ≤ Y) (hr : Nat.ble (catS rest) 8 = true) (h : oTh (fX10_setLimits fu sh I R l0 l1 l2 l3) e g = some o) (kk : ∀ v w c', (c'.1 ≤ X' ∧ c'.2 ≤ Y') → g v w = some o → V K J mi pc' L ((.int v) :: rest) sh w R c' F) (kx : ∀ E w, e E w = some o → F (.inr E) sh w R) : V K J mi pc L (.int l3 :: .int l2 :: .int l1 :: .ref l0 :: rest) sh I R c F := by
  obtain ⟨r, h1, h2⟩ := bnd h
  have hT : isT sh l0 8 = true := by unfold fX10_setLimits at h1; exact (gd h1).1
  have ml : mL 86 = 4 := by decide +kernel
  have mk : mK 86 = 1 := by decide +kernel
  have mc : mC 86 = 8 := by decide +kernel
  obtain ⟨r, w⟩ := r
  rcases r with v | E
  · refine s_call (as := [.int l3, .int l2, .int l1, .ref l0]) (G := fun o' sh' I' R' => o' = .inl (some (.int v)) ∧ sh' = sh ∧ I' = w ∧ R' = R) hq hc rfl hr (by rw [ml]; rfl) (Or.inl rfl) (fun _ => Or.inl ⟨by rw [mc]; decide, by rw [mc]; exact isT_iff.mp hT⟩) (fun z => absurd (mk.symm.trans z) (by decide)) (by rw [ml]; exact vX10_setLimits (F := fun o' sh' I' R' => o' = .inl (some (.int v)) ∧ sh' = sh ∧ I' = w ∧ R' = R) ⟨rfl, rfl, rfl, rfl⟩ h1) ?_ ?_ ?_
    · rintro sh' I' R' c' hc' ⟨g1, rfl, rfl, rfl⟩
      cases g1
    · rintro v' sh' I' R' c' hc' ⟨g1, rfl, rfl, rfl⟩
      cases g1
      exact kk _ _ _ hc' h2
    · rintro E' sh' I' R' ⟨g1, rfl, rfl, rfl⟩
      cases g1
  · refine s_call (as := [.int l3, .int l2, .int l1, .ref l0]) (G := fun o' sh' I' R' => o' = .inr E ∧ sh' = sh ∧ I' = w ∧ R' = R) hq hc rfl hr (by rw [ml]; rfl) (Or.inl rfl) (fun _ => Or.inl ⟨by rw [mc]; decide, by rw [mc]; exact isT_iff.mp hT⟩) (fun z => absurd (mk.symm.trans z) (by decide)) (by rw [ml]; exact vX10_setLimits (F := fun o' sh' I' R' => o' = .inr E ∧ sh' = sh ∧ I' = w ∧ R' = R) ⟨rfl, rfl, rfl, rfl⟩ h1) ?_ ?_ ?_
    · rintro sh' I' R' c' hc' ⟨g1, rfl, rfl, rfl⟩
      cases g1
    · rintro v' sh' I' R' c' hc' ⟨g1, rfl, rfl, rfl⟩
      cases g1
    · rintro E' sh' I' R' ⟨g1, rfl, rfl, rfl⟩
      cases g1
      exact kx _ _ h2
set_option maxRecDepth 100000 in
set_option maxHeartbeats 4000000 in
def fX10_setLight (fu : Nat) (sh : HS) (I : HI) (R : HR) (l0 : Nat) (l1 : Int32) (l2 : Int32) : Option ((Int32 ⊕ String) × HI) :=
  if isT sh l0 8 = true then
    (oT0 (fX10_needBoard fu sh I R l0) (fun E => some (.inr E, I)) fun _ =>
    oT0 (fX10_needScene fu sh I R l0 l1) (fun E => some (.inr E, I)) fun _ =>
    oT0 (fX10_needRange fu sh I R l2 0 3) (fun E => some (.inr E, I)) fun _ =>
    (oR sh R l0 8 4).bind fun v4 =>
    (oR sh R v4 0 5).bind fun v5 =>
    (oB sh R v5 5 l1).bind fun v6 =>
    (oI sh I v6 5 0).bind fun v7 =>
    (fX10_beginAction fu sh I R l0).bind fun w8 =>
    (oR sh R l0 8 4).bind fun v9 =>
    (oR sh R v9 0 5).bind fun v10 =>
    (oB sh R v10 5 l1).bind fun v11 =>
    (oP sh w8 v11 5 0 l2).bind fun v12 =>
    some (.inl v7, v12))
  else none
set_option maxRecDepth 100000 in
set_option maxHeartbeats 4000000 in
theorem vX10_setLight {K J : Nat → Nat} {fu : Nat} {sh : HS} {I : HI} {R : HR} {F : VF} {o : ((Int32 ⊕ String) × HI)} (hF : F (voI o.1) sh o.2 R) {l0 : Nat} {l1 : Int32} {l2 : Int32} (h0 : fX10_setLight fu sh I R l0 l1 l2 = some o) : V K J 87 0 (ent 4 [.ref l0, .int l1, .int l2]) [] sh I R (0, 0) F := by
  unfold fX10_setLight at h0
  obtain ⟨-, h1⟩ := gd h0; clear h0
  have hc0 : ((0 : Nat), (0 : Nat)).1 ≤ 0 ∧ ((0 : Nat), (0 : Nat)).2 ≤ 0 := ⟨Nat.le_refl _, Nat.le_refl _⟩
  show V K J 87 0 [some (.ref l0), some (.int l1), some (.int l2), none] [] sh I R (0, 0) F
  refine s_rl (i := 0) (pc' := 1) (by decide +kernel) rfl ?_
  refine kX10_needBoard (X := 0) (Y := 0) (X' := 1) (Y' := 6) (pc' := 4) (by decide +kernel) hc0 rfl h1 (fun v1 c hc1 h2 => ?_) (fun E h2 => by have e9 := Option.some.inj h2; subst e9; exact hF); clear h1 hc0
  refine s_rl (i := 0) (pc' := 5) (by decide +kernel) rfl ?_
  refine s_il (i := 1) (pc' := 6) (by decide +kernel) rfl ?_
  refine kX10_needScene (X := 1) (Y := 6) (X' := 2) (Y' := 12) (pc' := 9) (by decide +kernel) hc1 rfl h2 (fun v2 c hc2 h3 => ?_) (fun E h3 => by have e9 := Option.some.inj h3; subst e9; exact hF); clear h2 hc1
  refine s_il (i := 2) (pc' := 10) (by decide +kernel) rfl ?_
  refine s_c (v := 0) (pc' := 11) (by decide +kernel) ?_
  refine s_c (v := 3) (pc' := 12) (by decide +kernel) ?_
  refine kX10_needRange (X := 2) (Y := 12) (X' := 3) (Y' := 18) (pc' := 15) (by decide +kernel) hc2 rfl h3 (fun v3 c hc3 h4 => ?_) (fun E h4 => by have e9 := Option.some.inj h4; subst e9; exact hF); clear h3 hc2
  refine s_rl (i := 0) (pc' := 16) (by decide +kernel) rfl ?_
  refine s_gR (t := 8) (j := 4) (pc' := 19) (by decide +kernel) h4 (fun v4 h5 => ?_); clear h4
  refine s_gR (t := 0) (j := 5) (pc' := 22) (by decide +kernel) h5 (fun v5 h6 => ?_); clear h5
  refine s_il (i := 1) (pc' := 23) (by decide +kernel) rfl ?_
  refine s_aal (t := 5) (pc' := 24) (by decide +kernel) h6 (fun v6 h7 => ?_); clear h6
  refine s_gI (t := 5) (j := 0) (ty := 0) (pc' := 27) (by decide +kernel) rfl h7 (fun v7 h8 => ?_); clear h7
  refine s_is (i := 3) (pc' := 28) (L' := [some (.ref l0), some (.int l1), some (.int l2), some (.int v7)]) (by decide +kernel) rfl rfl ?_
  refine s_rl (i := 0) (pc' := 29) (by decide +kernel) rfl ?_
  refine kX10_beginAction (X := 3) (Y := 18) (X' := 3) (Y' := 18) (pc' := 32) (by decide +kernel) hc3 rfl h8 (fun w8 c hc4 h9 => ?_); clear h8 hc3
  refine s_rl (i := 0) (pc' := 33) (by decide +kernel) rfl ?_
  refine s_gR (t := 8) (j := 4) (pc' := 36) (by decide +kernel) h9 (fun v9 h10 => ?_); clear h9
  refine s_gR (t := 0) (j := 5) (pc' := 39) (by decide +kernel) h10 (fun v10 h11 => ?_); clear h10
  refine s_il (i := 1) (pc' := 40) (by decide +kernel) rfl ?_
  refine s_aal (t := 5) (pc' := 41) (by decide +kernel) h11 (fun v11 h12 => ?_); clear h11
  refine s_il (i := 2) (pc' := 42) (by decide +kernel) rfl ?_
  refine s_pI (t := 5) (j := 0) (ty := 0) (pc' := 45) (by decide +kernel) (Or.inl rfl) h12 (fun v12 h13 => ?_); clear h12
  refine s_il (i := 3) (pc' := 46) (by decide +kernel) rfl ?_
  have e9 := Option.some.inj h13; subst e9
  exact s_ri (X := 3) (Y := 18) (by decide +kernel) hc4 hF
set_option maxRecDepth 100000 in
set_option maxHeartbeats 4000000 in
theorem kX10_setLight {K J : Nat → Nat} {fu : Nat} {sh : HS} {I : HI} {R : HR} {F : VF} {mi pc pc' X Y X' Y' : Nat} {L : VL} {rest : List Value} {c : Nat × Nat} {l0 : Nat} {l1 : Int32} {l2 : Int32} {ω : Type} {o : ω} {e : String → HI → Option ω} {g : Int32 → HI → Option ω} (hq : cQ mi pc 87 3 pc' X Y X' Y' = true) (hc : c.1 ≤ X ∧ c.2 ≤ Y) (hr : Nat.ble (catS rest) 8 = true) (h : oTh (fX10_setLight fu sh I R l0 l1 l2) e g = some o) (kk : ∀ v w c', (c'.1 ≤ X' ∧ c'.2 ≤ Y') → g v w = some o → V K J mi pc' L ((.int v) :: rest) sh w R c' F) (kx : ∀ E w, e E w = some o → F (.inr E) sh w R) : V K J mi pc L (.int l2 :: .int l1 :: .ref l0 :: rest) sh I R c F := by
  obtain ⟨r, h1, h2⟩ := bnd h
  have hT : isT sh l0 8 = true := by unfold fX10_setLight at h1; exact (gd h1).1
  have ml : mL 87 = 4 := by decide +kernel
  have mk : mK 87 = 1 := by decide +kernel
  have mc : mC 87 = 8 := by decide +kernel
  obtain ⟨r, w⟩ := r
  rcases r with v | E
  · refine s_call (as := [.int l2, .int l1, .ref l0]) (G := fun o' sh' I' R' => o' = .inl (some (.int v)) ∧ sh' = sh ∧ I' = w ∧ R' = R) hq hc rfl hr (by rw [ml]; rfl) (Or.inl rfl) (fun _ => Or.inl ⟨by rw [mc]; decide, by rw [mc]; exact isT_iff.mp hT⟩) (fun z => absurd (mk.symm.trans z) (by decide)) (by rw [ml]; exact vX10_setLight (F := fun o' sh' I' R' => o' = .inl (some (.int v)) ∧ sh' = sh ∧ I' = w ∧ R' = R) ⟨rfl, rfl, rfl, rfl⟩ h1) ?_ ?_ ?_
    · rintro sh' I' R' c' hc' ⟨g1, rfl, rfl, rfl⟩
      cases g1
    · rintro v' sh' I' R' c' hc' ⟨g1, rfl, rfl, rfl⟩
      cases g1
      exact kk _ _ _ hc' h2
    · rintro E' sh' I' R' ⟨g1, rfl, rfl, rfl⟩
      cases g1
  · refine s_call (as := [.int l2, .int l1, .ref l0]) (G := fun o' sh' I' R' => o' = .inr E ∧ sh' = sh ∧ I' = w ∧ R' = R) hq hc rfl hr (by rw [ml]; rfl) (Or.inl rfl) (fun _ => Or.inl ⟨by rw [mc]; decide, by rw [mc]; exact isT_iff.mp hT⟩) (fun z => absurd (mk.symm.trans z) (by decide)) (by rw [ml]; exact vX10_setLight (F := fun o' sh' I' R' => o' = .inr E ∧ sh' = sh ∧ I' = w ∧ R' = R) ⟨rfl, rfl, rfl, rfl⟩ h1) ?_ ?_ ?_
    · rintro sh' I' R' c' hc' ⟨g1, rfl, rfl, rfl⟩
      cases g1
    · rintro v' sh' I' R' c' hc' ⟨g1, rfl, rfl, rfl⟩
      cases g1
    · rintro E' sh' I' R' ⟨g1, rfl, rfl, rfl⟩
      cases g1
      exact kx _ _ h2
set_option maxRecDepth 100000 in
set_option maxHeartbeats 4000000 in
def fX10_needPlace (fu : Nat) (sh : HS) (I : HI) (R : HR) (l0 : Int32) (l1 : Int32) : Option (Unit ⊕ String) :=
  oT0 (fX10_needRange fu sh I R l0 0 199) (fun E => some (.inr E)) fun _ =>
  oT0 (fX10_needRange fu sh I R l1 0 199) (fun E => some (.inr E)) fun _ =>
  some (.inl ())
set_option maxRecDepth 100000 in
set_option maxHeartbeats 4000000 in
theorem vX10_needPlace {K J : Nat → Nat} {fu : Nat} {sh : HS} {I : HI} {R : HR} {F : VF} {o : (Unit ⊕ String)} (hF : F (voN o) sh I R) {l0 : Int32} {l1 : Int32} (h0 : fX10_needPlace fu sh I R l0 l1 = some o) : V K J 129 0 (ent 2 [.int l0, .int l1]) [] sh I R (0, 0) F := by
  unfold fX10_needPlace at h0
  have h1 := h0; clear h0
  have hc0 : ((0 : Nat), (0 : Nat)).1 ≤ 0 ∧ ((0 : Nat), (0 : Nat)).2 ≤ 0 := ⟨Nat.le_refl _, Nat.le_refl _⟩
  show V K J 129 0 [some (.int l0), some (.int l1)] [] sh I R (0, 0) F
  refine s_il (i := 0) (pc' := 1) (by decide +kernel) rfl ?_
  refine s_c (v := 0) (pc' := 2) (by decide +kernel) ?_
  refine s_c (v := 199) (pc' := 5) (by decide +kernel) ?_
  refine kX10_needRange (X := 0) (Y := 0) (X' := 1) (Y' := 6) (pc' := 8) (by decide +kernel) hc0 rfl h1 (fun v1 c hc1 h2 => ?_) (fun E h2 => by have e9 := Option.some.inj h2; subst e9; exact hF); clear h1 hc0
  refine s_il (i := 1) (pc' := 9) (by decide +kernel) rfl ?_
  refine s_c (v := 0) (pc' := 10) (by decide +kernel) ?_
  refine s_c (v := 199) (pc' := 13) (by decide +kernel) ?_
  refine kX10_needRange (X := 1) (Y := 6) (X' := 2) (Y' := 12) (pc' := 16) (by decide +kernel) hc1 rfl h2 (fun v2 c hc2 h3 => ?_) (fun E h3 => by have e9 := Option.some.inj h3; subst e9; exact hF); clear h2 hc1
  have e9 := Option.some.inj h3; subst e9
  exact s_rv (X := 2) (Y := 12) (by decide +kernel) hc2 hF
set_option maxRecDepth 100000 in
set_option maxHeartbeats 4000000 in
theorem kX10_needPlace {K J : Nat → Nat} {fu : Nat} {sh : HS} {I : HI} {R : HR} {F : VF} {mi pc pc' X Y X' Y' : Nat} {L : VL} {rest : List Value} {c : Nat × Nat} {l0 : Int32} {l1 : Int32} {ω : Type} {o : ω} {e : String → Option ω} {g : Unit → Option ω} (hq : cQ mi pc 129 2 pc' X Y X' Y' = true) (hc : c.1 ≤ X ∧ c.2 ≤ Y) (hr : Nat.ble (catS rest) 8 = true) (h : oT0 (fX10_needPlace fu sh I R l0 l1) e g = some o) (kk : ∀ v c', (c'.1 ≤ X' ∧ c'.2 ≤ Y') → g v = some o → V K J mi pc' L (rest) sh I R c' F) (kx : ∀ E, e E = some o → F (.inr E) sh I R) : V K J mi pc L (.int l1 :: .int l0 :: rest) sh I R c F := by
  obtain ⟨r, h1, h2⟩ := bnd h
  have ml : mL 129 = 2 := by decide +kernel
  have mk : mK 129 = 0 := by decide +kernel
  rcases r with v | E
  · refine s_call (as := [.int l1, .int l0]) (G := fun o' sh' I' R' => o' = .inl none ∧ sh' = sh ∧ I' = I ∧ R' = R) hq hc rfl hr (by rw [ml]; rfl) (Or.inl rfl) (fun z => absurd (mk.symm.trans z) (by decide)) (fun z => absurd (mk.symm.trans z) (by decide)) (by rw [ml]; exact vX10_needPlace (F := fun o' sh' I' R' => o' = .inl none ∧ sh' = sh ∧ I' = I ∧ R' = R) ⟨rfl, rfl, rfl, rfl⟩ h1) ?_ ?_ ?_
    · rintro sh' I' R' c' hc' ⟨g1, rfl, rfl, rfl⟩
      cases g1
      exact kk _ _ hc' h2
    · rintro v' sh' I' R' c' hc' ⟨g1, rfl, rfl, rfl⟩
      cases g1
    · rintro E' sh' I' R' ⟨g1, rfl, rfl, rfl⟩
      cases g1
  · refine s_call (as := [.int l1, .int l0]) (G := fun o' sh' I' R' => o' = .inr E ∧ sh' = sh ∧ I' = I ∧ R' = R) hq hc rfl hr (by rw [ml]; rfl) (Or.inl rfl) (fun z => absurd (mk.symm.trans z) (by decide)) (fun z => absurd (mk.symm.trans z) (by decide)) (by rw [ml]; exact vX10_needPlace (F := fun o' sh' I' R' => o' = .inr E ∧ sh' = sh ∧ I' = I ∧ R' = R) ⟨rfl, rfl, rfl, rfl⟩ h1) ?_ ?_ ?_
    · rintro sh' I' R' c' hc' ⟨g1, rfl, rfl, rfl⟩
      cases g1
    · rintro v' sh' I' R' c' hc' ⟨g1, rfl, rfl, rfl⟩
      cases g1
    · rintro E' sh' I' R' ⟨g1, rfl, rfl, rfl⟩
      cases g1
      exact kx _ h2
