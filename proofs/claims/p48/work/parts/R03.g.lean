/- ('J4', 'append_cf468') -/
def wJ4_append_cf468 (K J : Nat → Nat) (fu : Nat) (sh : HS) (I : HI) (R : HR) (l0 : Nat) (l1 : Int32) (F : VF) : Prop :=
  isT sh l0 13 = true ∧
  (0 + 1 ≤ 1 ∧ 0 + 1300 ≤ 1300) ∧
  wJ5_append_3fe6f K J fu sh I R l0 l1 (qwR fun v3 t3 i3 j3 =>
  ((0 + 1) ≤ 1 ∧ (0 + 1300) ≤ 1300) ∧
  F (.inl (some (.ref l0))) t3 i3 j3)
theorem vwJ4_append_cf468 {l : Launch} {K J : Nat → Nat} {fu : Nat} {sh : HS} {I : HI} {R : HR} {l0 : Nat} {l1 : Int32} {F : VF} (h0 : wJ4_append_cf468 K J fu sh I R l0 l1 F) : MW l K J 158 0 (ent (mL 158) [.ref l0, .int l1]) [] sh I R (0, 0) F := by
  unfold wJ4_append_cf468 at h0
  have ml : mL 158 = 2 := by decide +kernel
  rw [ml]
  show MW l K J 158 0 [some (.ref l0), some (.int l1)] [] sh I R (0, 0) F
  refine mw_rl (i := 0) (pc' := 1) (by decide +kernel) rfl ?_
  refine mw_il (i := 1) (pc' := 2) (by decide +kernel) rfl ?_
  obtain ⟨q1, h1⟩ := h0
  obtain ⟨r2, h2⟩ := h1
  obtain ⟨m3, q9⟩ := isT_iff.mp q1
  refine mwx_SU (ix := 50) (q := 202) (na := 2) (ce := 1) (sl := 1300) (X := 1) (Y := 1300) (as := [.int l1]) (by decide +kernel) r2 rfl rfl rfl rfl q9 (vwJ5_append_3fe6f h2) (fun _ _ _ g => by obtain ⟨_, e9, -⟩ := g; cases e9) (fun v9 t3 i3 j3 g => ?_) (fun _ _ _ _ g => by obtain ⟨_, e9, -⟩ := g; cases e9)
  obtain ⟨v3, e9, h3⟩ := g; cases e9; clear h2
  refine mw_pop (by decide +kernel) rfl ?_
  refine mw_rl (i := 0) (pc' := 7) (by decide +kernel) rfl ?_
  obtain ⟨r4, h4⟩ := h3
  exact mw_rr (v := some l0) (X := 1) (Y := 1300) (by decide +kernel) r4 h4
/- ('Jx35411', 'init_45d68') -/
def wJx35411_init_45d68 (K J : Nat → Nat) (fu : Nat) (sh : HS) (I : HI) (R : HR) (l0 : Nat) (l1 : Nat) (F : VF) : Prop :=
  wB (oQ sh R l0 11 3 l1) fun v1 =>
  wB (oP sh I l0 11 1 (-1)) fun v2 =>
  wB (oR sh v1 l0 11 3) fun v3 =>
  wB (oI sh v2 v3 10 0) fun v4 =>
  wB (oP sh v2 l0 11 2 v4) fun v5 =>
  F (.inl none) sh v5 v1
theorem vwJx35411_init_45d68 {l : Launch} {K J : Nat → Nat} {fu : Nat} {sh : HS} {I : HI} {R : HR} {l0 : Nat} {l1 : Nat} {F : VF} (h0 : wJx35411_init_45d68 K J fu sh I R l0 l1 F) : MW l K J 144 0 (ent (mL 144) [.ref l0, .ref l1]) [] sh I R (0, 0) F := by
  unfold wJx35411_init_45d68 at h0
  have ml : mL 144 = 2 := by decide +kernel
  rw [ml]
  show MW l K J 144 0 [some (.ref l0), some (.ref l1)] [] sh I R (0, 0) F
  refine mw_rl (i := 0) (pc' := 1) (by decide +kernel) rfl ?_
  refine mw_rl (i := 1) (pc' := 2) (by decide +kernel) rfl ?_
  refine mw_pR (ix := 1) (t := 11) (j := 3) (md := 0) (by decide +kernel) h0 (fun v1 h1 => ?_); clear h0
  refine mw_rl (i := 0) (pc' := 6) (by decide +kernel) rfl ?_
  refine mw_oin (ix := 7) (X := 0) (Y := 0) (by decide +kernel) rfl ⟨Nat.le_refl _, Nat.le_refl _⟩ ?_
  refine mw_rl (i := 0) (pc' := 10) (by decide +kernel) rfl ?_
  refine mw_c (v := (-1)) (pc' := 11) (by decide +kernel) ?_
  refine mw_pI (ix := 13) (t := 11) (j := 1) (ty := 0) (md := 0) (by decide +kernel) (Or.inl rfl) h1 (fun v2 h2 => ?_); clear h1
  refine mw_rl (i := 0) (pc' := 15) (by decide +kernel) rfl ?_
  refine mw_rl (i := 0) (pc' := 16) (by decide +kernel) rfl ?_
  refine mw_fR (ix := 1) (t := 11) (j := 3) (md := 0) (by decide +kernel) h2 (fun v3 h3 => ?_); clear h2
  refine mw_fI (ix := 17) (t := 10) (j := 0) (ty := 0) (md := 2) (by decide +kernel) (by decide) h3 (fun v4 h4 => ?_); clear h3
  refine mw_pI (ix := 22) (t := 11) (j := 2) (ty := 0) (md := 0) (by decide +kernel) (Or.inl rfl) h4 (fun v5 h5 => ?_); clear h4
  exact mw_rv (X := 0) (Y := 0) (by decide +kernel) ⟨Nat.le_refl _, Nat.le_refl _⟩ h5
/- ('Jx4a65c', 'iterator_32c93') -/
def wJx4a65c_iterator_32c93 (K J : Nat → Nat) (fu : Nat) (sh : HS) (I : HI) (R : HR) (l0 : Nat) (F : VF) : Prop :=
  (0 + 1 ≤ 1 ∧ 0 + 4 ≤ 4) ∧
  wNew sh I R 11 4 fun a2 t2 i2 j2 =>
  ((0 + 1) ≤ 1 ∧ (0 + 4) ≤ 4) ∧
  wJx35411_init_45d68 K J fu t2 i2 j2 a2 l0 (qwV fun t4 i4 j4 =>
  ((0 + 1) ≤ 1 ∧ (0 + 4) ≤ 4) ∧
  F (.inl (some (.ref a2))) t4 i4 j4)
theorem vwJx4a65c_iterator_32c93 {l : Launch} {K J : Nat → Nat} {fu : Nat} {sh : HS} {I : HI} {R : HR} {l0 : Nat} {F : VF} (h0 : wJx4a65c_iterator_32c93 K J fu sh I R l0 F) : MW l K J 143 0 (ent (mL 143) [.ref l0]) [] sh I R (0, 0) F := by
  unfold wJx4a65c_iterator_32c93 at h0
  have ml : mL 143 = 1 := by decide +kernel
  rw [ml]
  show MW l K J 143 0 [some (.ref l0)] [] sh I R (0, 0) F
  obtain ⟨r1, h1⟩ := h0
  refine mw_new (ix := 267) (t := 11) (N := 4) (X := 1) (Y := 4) (by decide +kernel) r1 h1 (fun a2 t2 i2 j2 h2 => ?_); clear h1
  refine mw_a (ins := .dup) (pc' := 4) (by decide +kernel) rfl ?_
  refine mw_rl (i := 0) (pc' := 5) (by decide +kernel) rfl ?_
  obtain ⟨r3, h3⟩ := h2
  refine mwx_V (q := 144) (na := 2) (ce := 0) (sl := 0) (X := 1) (Y := 4) (as := [.ref l0, .ref a2]) (by decide +kernel) r3 rfl rfl (by rw [show mL 144 = 2 from by decide +kernel]; rfl) rfl (fun z => absurd z (by decide +kernel)) (fun _ => ⟨_, rfl⟩) (vwJx35411_init_45d68 h3) (fun t4 i4 j4 h4 => ?_); clear h3
  obtain ⟨r5, h5⟩ := h4
  exact mw_rr (v := some a2) (X := 1) (Y := 4) (by decide +kernel) r5 h5
/- ('Jx35411', 'hasNext_aae02') -/
def wJx35411_hasNext_aae02_b19 (K J : Nat → Nat) (fu : Nat) (F : VF) (sh : HS) (I : HI) (R : HR) (s0 : Int32) : Prop :=
  (s0 = 0 ∨ s0 = 1) ∧ F (.inl (some (.int s0))) sh I R
theorem vwJx35411_hasNext_aae02_b19 {l : Launch} {K J : Nat → Nat} {fu : Nat} {F : VF} {sh : HS} {I : HI} {R : HR} {s0 : Int32} {d0 : Option Value} (h0 : wJx35411_hasNext_aae02_b19 K J fu F sh I R s0) : MW l K J 145 19 [d0] [.int s0] sh I R (0, 0) F := by
  unfold wJx35411_hasNext_aae02_b19 at h0
  exact mw_rz (X := 0) (Y := 0) (by decide +kernel) h0.1 ⟨Nat.le_refl _, Nat.le_refl _⟩ h0.2
def wJx35411_hasNext_aae02 (K J : Nat → Nat) (fu : Nat) (sh : HS) (I : HI) (R : HR) (l0 : Nat) (F : VF) : Prop :=
  wB (oI sh I l0 11 0) fun v1 =>
  wB (oR sh R l0 11 3) fun v2 =>
  wB (oI sh I v2 10 2) fun v3 =>
  if v1 = v3 then
    ((wJx35411_hasNext_aae02_b19 K J fu F) sh I R 0)
  else
    ((wJx35411_hasNext_aae02_b19 K J fu F) sh I R 1)
theorem vwJx35411_hasNext_aae02 {l : Launch} {K J : Nat → Nat} {fu : Nat} {sh : HS} {I : HI} {R : HR} {l0 : Nat} {F : VF} (h0 : wJx35411_hasNext_aae02 K J fu sh I R l0 F) : MW l K J 145 0 (ent (mL 145) [.ref l0]) [] sh I R (0, 0) F := by
  unfold wJx35411_hasNext_aae02 at h0
  have ml : mL 145 = 1 := by decide +kernel
  rw [ml]
  show MW l K J 145 0 [some (.ref l0)] [] sh I R (0, 0) F
  refine mw_rl (i := 0) (pc' := 1) (by decide +kernel) rfl ?_
  refine mw_fI (ix := 25) (t := 11) (j := 0) (ty := 0) (md := 0) (by decide +kernel) (by decide) h0 (fun v1 h1 => ?_); clear h0
  refine mw_rl (i := 0) (pc' := 5) (by decide +kernel) rfl ?_
  refine mw_fR (ix := 1) (t := 11) (j := 3) (md := 0) (by decide +kernel) h1 (fun v2 h2 => ?_); clear h1
  refine mw_fI (ix := 28) (t := 10) (j := 2) (ty := 0) (md := 1) (by decide +kernel) (by decide) h2 (fun v3 h3 => ?_); clear h2
  refine mw_if (ins := .if_icmp .eq 7) (t := 18) (pc' := 14) (by decide +kernel) rfl rfl rfl h3 (fun p4 h4 => ?_) (fun p4 h4 => ?_) <;> clear h3
  · refine mw_c (v := 0) (pc' := 19) (by decide +kernel) ?_
    exact (vwJx35411_hasNext_aae02_b19) h4
  · refine mw_c (v := 1) (pc' := 15) (by decide +kernel) ?_
    refine mw_go (t := 19) (by decide +kernel) ?_
    exact (vwJx35411_hasNext_aae02_b19) h4
/- ('Jx35411', 'checkForComodification_da8c8') -/
def wJx35411_checkForComodification_da8c8 (K J : Nat → Nat) (fu : Nat) (sh : HS) (I : HI) (R : HR) (l0 : Nat) (F : VF) : Prop :=
  wB (oR sh R l0 11 3) fun v1 =>
  wB (oI sh I v1 10 0) fun v2 =>
  wB (oI sh I l0 11 2) fun v3 =>
  if v2 = v3 then
    (F (.inl none) sh I R)
  else
    (False)
theorem vwJx35411_checkForComodification_da8c8 {l : Launch} {K J : Nat → Nat} {fu : Nat} {sh : HS} {I : HI} {R : HR} {l0 : Nat} {F : VF} (h0 : wJx35411_checkForComodification_da8c8 K J fu sh I R l0 F) : MW l K J 147 0 (ent (mL 147) [.ref l0]) [] sh I R (0, 0) F := by
  unfold wJx35411_checkForComodification_da8c8 at h0
  have ml : mL 147 = 1 := by decide +kernel
  rw [ml]
  show MW l K J 147 0 [some (.ref l0)] [] sh I R (0, 0) F
  refine mw_rl (i := 0) (pc' := 1) (by decide +kernel) rfl ?_
  refine mw_fR (ix := 1) (t := 11) (j := 3) (md := 0) (by decide +kernel) h0 (fun v1 h1 => ?_); clear h0
  refine mw_fI (ix := 17) (t := 10) (j := 0) (ty := 0) (md := 2) (by decide +kernel) (by decide) h1 (fun v2 h2 => ?_); clear h1
  refine mw_rl (i := 0) (pc' := 8) (by decide +kernel) rfl ?_
  refine mw_fI (ix := 22) (t := 11) (j := 2) (ty := 0) (md := 0) (by decide +kernel) (by decide) h2 (fun v3 h3 => ?_); clear h2
  refine mw_if (ins := .if_icmp .eq 11) (t := 22) (pc' := 14) (by decide +kernel) rfl rfl rfl h3 (fun p4 h4 => ?_) (fun p4 h4 => ?_) <;> clear h3
  · exact mw_rv (X := 0) (Y := 0) (by decide +kernel) ⟨Nat.le_refl _, Nat.le_refl _⟩ h4
  · exact h4.elim
/- ('Jx35411', 'next_0502b') -/
def wJx35411_next_0502b (K J : Nat → Nat) (fu : Nat) (sh : HS) (I : HI) (R : HR) (l0 : Nat) (F : VF) : Prop :=
  rcvB sh l0 11 = true ∧
  wJx35411_checkForComodification_da8c8 K J fu sh I R l0 (qwV fun t2 i2 j2 =>
  wB (oI t2 i2 l0 11 0) fun v3 =>
  wB (oR t2 j2 l0 11 3) fun v4 =>
  wB (oI t2 i2 v4 10 2) fun v5 =>
  if v3 < v5 then
    (wB (oR t2 j2 l0 11 3) fun v6 =>
    wB (oR t2 j2 v6 10 1) fun v7 =>
    wB (oLn t2 v7) fun v8 =>
    if v3 < v8 then
      (wB (oP t2 i2 l0 11 0 (v3 + 1)) fun v9 =>
      wB (oP t2 v9 l0 11 1 v3) fun v10 =>
      wB (oAr t2 j2 v7 46 v3) fun v11 =>
      F (.inl (some (.ref v11))) t2 v10 j2)
    else
      (False))
  else
    (False))
theorem vwJx35411_next_0502b {l : Launch} {K J : Nat → Nat} {fu : Nat} {sh : HS} {I : HI} {R : HR} {l0 : Nat} {F : VF} (h0 : wJx35411_next_0502b K J fu sh I R l0 F) : MW l K J 146 0 (ent (mL 146) [.ref l0]) [] sh I R (0, 0) F := by
  unfold wJx35411_next_0502b at h0
  have ml : mL 146 = 3 := by decide +kernel
  rw [ml]
  show MW l K J 146 0 [some (.ref l0), none, none] [] sh I R (0, 0) F
  refine mw_rl (i := 0) (pc' := 1) (by decide +kernel) rfl ?_
  obtain ⟨q1, h1⟩ := h0
  refine mwx_V (q := 147) (na := 1) (ce := 0) (sl := 0) (X := 0) (Y := 0) (as := [.ref l0]) (by decide +kernel) ⟨Nat.le_refl _, Nat.le_refl _⟩ rfl rfl (by rw [show mL 147 = 1 from by decide +kernel]; rfl) rfl (fun _ => rv_of q1 (by decide +kernel)) (fun z => absurd z (by decide +kernel)) (vwJx35411_checkForComodification_da8c8 h1) (fun t2 i2 j2 h2 => ?_); clear h1
  refine mw_rl (i := 0) (pc' := 5) (by decide +kernel) rfl ?_
  refine mw_fI (ix := 25) (t := 11) (j := 0) (ty := 0) (md := 0) (by decide +kernel) (by decide) h2 (fun v3 h3 => ?_); clear h2
  refine mw_is (i := 1) (pc' := 9) (L' := [some (.ref l0), some (.int v3), none]) (by decide +kernel) rfl rfl ?_
  refine mw_il (i := 1) (pc' := 10) (by decide +kernel) rfl ?_
  refine mw_rl (i := 0) (pc' := 11) (by decide +kernel) rfl ?_
  refine mw_fR (ix := 1) (t := 11) (j := 3) (md := 0) (by decide +kernel) h3 (fun v4 h4 => ?_); clear h3
  refine mw_fI (ix := 28) (t := 10) (j := 2) (ty := 0) (md := 1) (by decide +kernel) (by decide) h4 (fun v5 h5 => ?_); clear h4
  refine mw_if (ins := .if_icmp .lt 11) (t := 28) (pc' := 20) (by decide +kernel) rfl rfl rfl h5 (fun p6 h6 => ?_) (fun p6 h6 => ?_) <;> clear h5
  · refine mw_rl (i := 0) (pc' := 29) (by decide +kernel) rfl ?_
    refine mw_fR (ix := 1) (t := 11) (j := 3) (md := 0) (by decide +kernel) h6 (fun v6 h7 => ?_); clear h6
    refine mw_fR (ix := 37) (t := 10) (j := 1) (md := 0) (by decide +kernel) h7 (fun v7 h8 => ?_); clear h7
    refine mw_rs (i := 2) (pc' := 36) (L' := [some (.ref l0), some (.int v3), some (.ref v7)]) (by decide +kernel) rfl rfl ?_
    refine mw_il (i := 1) (pc' := 37) (by decide +kernel) rfl ?_
    refine mw_rl (i := 2) (pc' := 38) (by decide +kernel) rfl ?_
    refine mw_ln (by decide +kernel) h8 (fun v8 h9 => ?_); clear h8
    refine mw_if (ins := .if_icmp .lt 11) (t := 50) (pc' := 42) (by decide +kernel) rfl rfl rfl h9 (fun p10 h10 => ?_) (fun p10 h10 => ?_) <;> clear h9
    · refine mw_rl (i := 0) (pc' := 51) (by decide +kernel) rfl ?_
      refine mw_il (i := 1) (pc' := 52) (by decide +kernel) rfl ?_
      refine mw_c (v := 1) (pc' := 53) (by decide +kernel) ?_
      refine mw_a (ins := .iadd) (pc' := 54) (by decide +kernel) rfl ?_
      refine mw_pI (ix := 25) (t := 11) (j := 0) (ty := 0) (md := 0) (by decide +kernel) (Or.inl rfl) h10 (fun v9 h11 => ?_); clear h10
      refine mw_rl (i := 2) (pc' := 58) (by decide +kernel) rfl ?_
      refine mw_rl (i := 0) (pc' := 59) (by decide +kernel) rfl ?_
      refine mw_il (i := 1) (pc' := 60) (by decide +kernel) rfl ?_
      refine mw_dx (by decide +kernel) rfl rfl ?_
      refine mw_pI (ix := 13) (t := 11) (j := 1) (ty := 0) (md := 0) (by decide +kernel) (Or.inl rfl) h11 (fun v10 h12 => ?_); clear h11
      refine mw_aal (t := 46) (by decide +kernel) (by decide) h12 (fun v11 h13 => ?_); clear h12
      exact mw_rr (v := some v11) (X := 0) (Y := 0) (by decide +kernel) ⟨Nat.le_refl _, Nat.le_refl _⟩ h13
    · exact h10.elim
  · exact h6.elim
/- ('J5', 'getValue_6d5f1') -/
def wJ5_getValue_6d5f1 (K J : Nat → Nat) (fu : Nat) (sh : HS) (I : HI) (R : HR) (l0 : Nat) (F : VF) : Prop :=
  wB (oR sh R l0 13 0) fun v1 =>
  F (.inl (some (.ref v1))) sh I R
theorem vwJ5_getValue_6d5f1 {l : Launch} {K J : Nat → Nat} {fu : Nat} {sh : HS} {I : HI} {R : HR} {l0 : Nat} {F : VF} (h0 : wJ5_getValue_6d5f1 K J fu sh I R l0 F) : MW l K J 204 0 (ent (mL 204) [.ref l0]) [] sh I R (0, 0) F := by
  unfold wJ5_getValue_6d5f1 at h0
  have ml : mL 204 = 1 := by decide +kernel
  rw [ml]
  show MW l K J 204 0 [some (.ref l0)] [] sh I R (0, 0) F
  refine mw_rl (i := 0) (pc' := 1) (by decide +kernel) rfl ?_
  refine mw_fR (ix := 15) (t := 13) (j := 0) (md := 0) (by decide +kernel) h0 (fun v1 h1 => ?_); clear h0
  exact mw_rr (v := some v1) (X := 0) (Y := 0) (by decide +kernel) ⟨Nat.le_refl _, Nat.le_refl _⟩ h1
/- ('J5', 'length_8abf5') -/
def wJ5_length_8abf5 (K J : Nat → Nat) (fu : Nat) (sh : HS) (I : HI) (R : HR) (l0 : Nat) (F : VF) : Prop :=
  wB (oI sh I l0 13 3) fun v1 =>
  F (.inl (some (.int v1))) sh I R
theorem vwJ5_length_8abf5 {l : Launch} {K J : Nat → Nat} {fu : Nat} {sh : HS} {I : HI} {R : HR} {l0 : Nat} {F : VF} (h0 : wJ5_length_8abf5 K J fu sh I R l0 F) : MW l K J 198 0 (ent (mL 198) [.ref l0]) [] sh I R (0, 0) F := by
  unfold wJ5_length_8abf5 at h0
  have ml : mL 198 = 1 := by decide +kernel
  rw [ml]
  show MW l K J 198 0 [some (.ref l0)] [] sh I R (0, 0) F
  refine mw_rl (i := 0) (pc' := 1) (by decide +kernel) rfl ?_
  refine mw_fI (ix := 79) (t := 13) (j := 3) (ty := 0) (md := 0) (by decide +kernel) (by decide) h0 (fun v1 h1 => ?_); clear h0
  exact mw_ri (X := 0) (Y := 0) (by decide +kernel) ⟨Nat.le_refl _, Nat.le_refl _⟩ h1
/- ('J4', 'length_8abf5') -/
def wJ4_length_8abf5 (K J : Nat → Nat) (fu : Nat) (sh : HS) (I : HI) (R : HR) (l0 : Nat) (F : VF) : Prop :=
  isT sh l0 13 = true ∧
  wJ5_length_8abf5 K J fu sh I R l0 (qwI fun v2 t2 i2 j2 =>
  F (.inl (some (.int v2))) t2 i2 j2)
theorem vwJ4_length_8abf5 {l : Launch} {K J : Nat → Nat} {fu : Nat} {sh : HS} {I : HI} {R : HR} {l0 : Nat} {F : VF} (h0 : wJ4_length_8abf5 K J fu sh I R l0 F) : MW l K J 161 0 (ent (mL 161) [.ref l0]) [] sh I R (0, 0) F := by
  unfold wJ4_length_8abf5 at h0
  have ml : mL 161 = 1 := by decide +kernel
  rw [ml]
  show MW l K J 161 0 [some (.ref l0)] [] sh I R (0, 0) F
  refine mw_rl (i := 0) (pc' := 1) (by decide +kernel) rfl ?_
  obtain ⟨q1, h1⟩ := h0
  obtain ⟨m2, q9⟩ := isT_iff.mp q1
  refine mwx_SU (ix := 343) (q := 198) (na := 1) (ce := 0) (sl := 0) (X := 0) (Y := 0) (as := []) (by decide +kernel) ⟨Nat.le_refl _, Nat.le_refl _⟩ rfl rfl rfl rfl q9 (vwJ5_length_8abf5 h1) (fun _ _ _ g => by obtain ⟨_, e9, -⟩ := g; cases e9) (fun v9 t2 i2 j2 g => ?_) (fun _ _ _ _ g => by obtain ⟨_, e9, -⟩ := g; cases e9)
  obtain ⟨v2, e9, h2⟩ := g; cases e9; clear h1
  exact mw_ri (X := 0) (Y := 0) (by decide +kernel) ⟨Nat.le_refl _, Nat.le_refl _⟩ h2
/- ('J7', 'checkLength_df160') -/
def wJ7_checkLength_df160 (K J : Nat → Nat) (fu : Nat) (sh : HS) (I : HI) (R : HR) (l0 : Int32) (l1 : Int32) (F : VF) : Prop :=
  if l0 ≤ l1 then
    (F (.inl none) sh I R)
  else
    (False)
theorem vwJ7_checkLength_df160 {l : Launch} {K J : Nat → Nat} {fu : Nat} {sh : HS} {I : HI} {R : HR} {l0 : Int32} {l1 : Int32} {F : VF} (h0 : wJ7_checkLength_df160 K J fu sh I R l0 l1 F) : MW l K J 211 0 (ent (mL 211) [.int l0, .int l1]) [] sh I R (0, 0) F := by
  unfold wJ7_checkLength_df160 at h0
  have ml : mL 211 = 2 := by decide +kernel
  rw [ml]
  show MW l K J 211 0 [some (.int l0), some (.int l1)] [] sh I R (0, 0) F
  refine mw_il (i := 1) (pc' := 1) (by decide +kernel) rfl ?_
  refine mw_il (i := 0) (pc' := 2) (by decide +kernel) rfl ?_
  refine mw_if (ins := .if_icmp .ge 35) (t := 37) (pc' := 5) (by decide +kernel) rfl rfl rfl h0 (fun p1 h1 => ?_) (fun p1 h1 => ?_) <;> clear h0
  · exact mw_rv (X := 0) (Y := 0) (by decide +kernel) ⟨Nat.le_refl _, Nat.le_refl _⟩ h1
  · exact h1.elim
/- ('J7', 'copyOfRangeByte_39247') -/
def wJ7_copyOfRangeByte_39247 (K J : Nat → Nat) (fu : Nat) (sh : HS) (I : HI) (R : HR) (l0 : Nat) (l1 : Int32) (l2 : Int32) (F : VF) : Prop :=
  (0 ≤ 1 ∧ 0 ≤ 1300) ∧
  wJ7_checkLength_df160 K J fu sh I R l1 l2 (qwV fun t2 i2 j2 =>
  (¬ (l2 - l1) < 0 ∧ (l2 - l1).toNatClampNeg < 100000) ∧
  (0 + 1 ≤ 1 ∧ 0 + (l2 - l1).toNatClampNeg ≤ 1300) ∧
  wNewI t2 i2 21 (l2 - l1).toNatClampNeg fun a3 t3 i3 =>
  wB (oLn t3 l0) fun v5 =>
  ((0 + 1) ≤ 1 ∧ (0 + (l2 - l1).toNatClampNeg) ≤ 1300) ∧
  ((0 + 1) ≤ 1 ∧ (0 + (l2 - l1).toNatClampNeg) ≤ 1300) ∧
  oCb t3 i3 l0 l1 a3 0 (iMin (v5 - l1) (l2 - l1)) fun w8 =>
  ((0 + 1) ≤ 1 ∧ (0 + (l2 - l1).toNatClampNeg) ≤ 1300) ∧
  F (.inl (some (.ref a3))) t3 w8 j2)
theorem vwJ7_copyOfRangeByte_39247 {l : Launch} {K J : Nat → Nat} {fu : Nat} {sh : HS} {I : HI} {R : HR} {l0 : Nat} {l1 : Int32} {l2 : Int32} {F : VF} (h0 : wJ7_copyOfRangeByte_39247 K J fu sh I R l0 l1 l2 F) : MW l K J 213 0 (ent (mL 213) [.ref l0, .int l1, .int l2]) [] sh I R (0, 0) F := by
  unfold wJ7_copyOfRangeByte_39247 at h0
  have ml : mL 213 = 5 := by decide +kernel
  rw [ml]
  show MW l K J 213 0 [some (.ref l0), some (.int l1), some (.int l2), none, none] [] sh I R (0, 0) F
  refine mw_il (i := 1) (pc' := 1) (by decide +kernel) rfl ?_
  refine mw_il (i := 2) (pc' := 2) (by decide +kernel) rfl ?_
  obtain ⟨r1, h1⟩ := h0
  refine mwx_V (q := 211) (na := 2) (ce := 0) (sl := 0) (X := 1) (Y := 1300) (as := [.int l2, .int l1]) (by decide +kernel) r1 rfl rfl (by rw [show mL 211 = 2 from by decide +kernel]; rfl) rfl (fun z => absurd z (by decide +kernel)) (fun z => absurd z (by decide +kernel)) (vwJ7_checkLength_df160 h1) (fun t2 i2 j2 h2 => ?_); clear h1
  refine mw_il (i := 2) (pc' := 6) (by decide +kernel) rfl ?_
  refine mw_il (i := 1) (pc' := 7) (by decide +kernel) rfl ?_
  refine mw_a (ins := .isub) (pc' := 8) (by decide +kernel) rfl ?_
  refine mw_is (i := 3) (pc' := 9) (L' := [some (.ref l0), some (.int l1), some (.int l2), some (.int (l2 - l1)), none]) (by decide +kernel) rfl rfl ?_
  refine mw_il (i := 3) (pc' := 10) (by decide +kernel) rfl ?_
  obtain ⟨q3, h3⟩ := h2
  obtain ⟨r4, h4⟩ := h3
  refine mw_nwb (X := 1) (Y := 1300) (by decide +kernel) q3 r4 h4 (fun a3 t3 i3 h5 => ?_); clear h4
  refine mw_rs (i := 4) (pc' := 14) (L' := [some (.ref l0), some (.int l1), some (.int l2), some (.int (l2 - l1)), some (.ref a3)]) (by decide +kernel) rfl rfl ?_
  refine mw_rl (i := 0) (pc' := 15) (by decide +kernel) rfl ?_
  refine mw_il (i := 1) (pc' := 16) (by decide +kernel) rfl ?_
  refine mw_rl (i := 4) (pc' := 18) (by decide +kernel) rfl ?_
  refine mw_c (v := 0) (pc' := 19) (by decide +kernel) ?_
  refine mw_rl (i := 0) (pc' := 20) (by decide +kernel) rfl ?_
  refine mw_ln (by decide +kernel) h5 (fun v5 h6 => ?_); clear h5
  refine mw_il (i := 1) (pc' := 22) (by decide +kernel) rfl ?_
  refine mw_a (ins := .isub) (pc' := 23) (by decide +kernel) rfl ?_
  refine mw_il (i := 3) (pc' := 24) (by decide +kernel) rfl ?_
  obtain ⟨r6, h7⟩ := h6
  refine mw_min (X := 1) (Y := 1300) (pc' := 27) (by decide +kernel) r6 rfl ?_
  obtain ⟨r7, h8⟩ := h7
  refine mw_cpB (ix := 150) (X := 1) (Y := 1300) (by decide +kernel) rfl r7 h8 (fun w8 h9 => ?_); clear h8
  refine mw_rl (i := 4) (pc' := 32) (by decide +kernel) rfl ?_
  obtain ⟨r9, h10⟩ := h9
  exact mw_rr (v := some a3) (X := 1) (Y := 1300) (by decide +kernel) r9 h10
/- ('J7', 'copyOfRange_39247') -/
def wJ7_copyOfRange_39247_b10 (K J : Nat → Nat) (fu : Nat) (F : VF) (sh : HS) (I : HI) (R : HR) (c1 : Nat) (c2 : Nat) (l0 : Nat) (l1 : Int32) (l2 : Int32) : Prop :=
  (c1 + 1 ≤ 1 ∧ c2 + 1300 ≤ 1300) ∧
  wJ7_copyOfRangeByte_39247 K J fu sh I R l0 l1 l2 (qwR fun v2 t2 i2 j2 =>
  ((c1 + 1) ≤ 1 ∧ (c2 + 1300) ≤ 1300) ∧
  F (.inl (some (.ref v2))) t2 i2 j2)
theorem vwJ7_copyOfRange_39247_b10 {l : Launch} {K J : Nat → Nat} {fu : Nat} {F : VF} {sh : HS} {I : HI} {R : HR} {c1 : Nat} {c2 : Nat} {l0 : Nat} {l1 : Int32} {l2 : Int32} (h0 : wJ7_copyOfRange_39247_b10 K J fu F sh I R c1 c2 l0 l1 l2) : MW l K J 212 10 [some (.ref l0), some (.int l1), some (.int l2)] [] sh I R (c1, c2) F := by
  unfold wJ7_copyOfRange_39247_b10 at h0
  refine mw_rl (i := 0) (pc' := 11) (by decide +kernel) rfl ?_
  refine mw_il (i := 1) (pc' := 12) (by decide +kernel) rfl ?_
  refine mw_il (i := 2) (pc' := 13) (by decide +kernel) rfl ?_
  obtain ⟨r1, h1⟩ := h0
  refine mwx_R (q := 213) (na := 3) (ce := 1) (sl := 1300) (X := 1) (Y := 1300) (as := [.int l2, .int l1, .ref l0]) (by decide +kernel) r1 rfl rfl (by rw [show mL 213 = 5 from by decide +kernel]; rfl) rfl (fun z => absurd z (by decide +kernel)) (fun z => absurd z (by decide +kernel)) (vwJ7_copyOfRangeByte_39247 h1) (fun v2 t2 i2 j2 h2 => ?_); clear h1
  obtain ⟨r3, h3⟩ := h2
  exact mw_rr (v := some v2) (X := 1) (Y := 1300) (by decide +kernel) r3 h3
def wJ7_copyOfRange_39247 (K J : Nat → Nat) (fu : Nat) (sh : HS) (I : HI) (R : HR) (l0 : Nat) (l1 : Int32) (l2 : Int32) (F : VF) : Prop :=
  if l1 = 0 then
    (wB (oLn sh l0) fun v4 =>
    if l2 = v4 then
      (∃ m5, sh l0 = some (21, m5) ∧
      (0 + 1 ≤ 1 ∧ 0 + m5 ≤ 1300) ∧
      wCln sh I l0 m5 fun a5 t5 i5 =>
      wB (oKt t5 a5 4) fun _ =>
      ((0 + 1) ≤ 1 ∧ (0 + m5) ≤ 1300) ∧
      F (.inl (some (.ref a5))) t5 i5 R)
    else
      ((wJ7_copyOfRange_39247_b10 K J fu F) sh I R 0 0 l0 l1 l2))
  else
    ((wJ7_copyOfRange_39247_b10 K J fu F) sh I R 0 0 l0 l1 l2)
theorem vwJ7_copyOfRange_39247 {l : Launch} {K J : Nat → Nat} {fu : Nat} {sh : HS} {I : HI} {R : HR} {l0 : Nat} {l1 : Int32} {l2 : Int32} {F : VF} (h0 : wJ7_copyOfRange_39247 K J fu sh I R l0 l1 l2 F) : MW l K J 212 0 (ent (mL 212) [.ref l0, .int l1, .int l2]) [] sh I R (0, 0) F := by
  unfold wJ7_copyOfRange_39247 at h0
  have ml : mL 212 = 3 := by decide +kernel
  rw [ml]
  show MW l K J 212 0 [some (.ref l0), some (.int l1), some (.int l2)] [] sh I R (0, 0) F
  refine mw_il (i := 1) (pc' := 1) (by decide +kernel) rfl ?_
  refine mw_ifn (ins := .ifCond .ne 9) (t := 10) (pc' := 4) (by decide +kernel) rfl rfl rfl h0 (fun p1 h1 => ?_) (fun p1 h1 => ?_) <;> clear h0
  · exact (vwJ7_copyOfRange_39247_b10) h1
  · refine mw_il (i := 2) (pc' := 5) (by decide +kernel) rfl ?_
    refine mw_rl (i := 0) (pc' := 6) (by decide +kernel) rfl ?_
    refine mw_ln (by decide +kernel) h1 (fun v4 h2 => ?_); clear h1
    refine mw_if (ins := .if_icmp .eq 10) (t := 17) (pc' := 10) (by decide +kernel) rfl rfl rfl h2 (fun p3 h3 => ?_) (fun p3 h3 => ?_) <;> clear h2
    · refine mw_rl (i := 0) (pc' := 18) (by decide +kernel) rfl ?_
      obtain ⟨m5, q5, h4⟩ := h3
      obtain ⟨r6, h5⟩ := h4
      refine mw_cln (ix := 310) (X := 1) (Y := 1300) (by decide +kernel) rfl q5 r6 h5 (fun a5 t5 i5 h6 => ?_); clear h5
      refine mw_cst (ix := 311) (v := 4) (by decide +kernel) h6 (fun h7 => ?_); clear h6
      obtain ⟨r7, h8⟩ := h7
      exact mw_rr (v := some a5) (X := 1) (Y := 1300) (by decide +kernel) r7 h8
    · exact (vwJ7_copyOfRange_39247_b10) h3
/- ('J0', 'init_db425') -/
def wJ0_init_db425_b97 (K J : Nat → Nat) (fu : Nat) (F : VF) (sh : HS) (I : HI) (R : HR) (c1 : Nat) (c2 : Nat) : Prop :=
  (c1 ≤ 1 ∧ c2 ≤ 1300) ∧
  F (.inl none) sh I R
theorem vwJ0_init_db425_b97 {l : Launch} {K J : Nat → Nat} {fu : Nat} {F : VF} {sh : HS} {I : HI} {R : HR} {c1 : Nat} {c2 : Nat} {d0 d1 d2 d3 d4 : Option Value} (h0 : wJ0_init_db425_b97 K J fu F sh I R c1 c2) : MW l K J 168 97 [d0, d1, d2, d3, d4] [] sh I R (c1, c2) F := by
  unfold wJ0_init_db425_b97 at h0
  obtain ⟨r15, h1⟩ := h0
  exact mw_rv (X := 1) (Y := 1300) (by decide +kernel) r15 h1
def wJ0_init_db425_b79 (K J : Nat → Nat) (fu : Nat) (F : VF) (sh : HS) (I : HI) (R : HR) (c1 : Nat) (c2 : Nat) (l0 : Nat) (l3 : Nat) (l4 : Int32) : Prop :=
  wB (oPB sh I l0 14 1 1) fun v11 =>
  (c1 + 1 ≤ 1 ∧ c2 + 1300 ≤ 1300) ∧
  wJ7_copyOfRange_39247 K J fu sh v11 R l3 0 (l4 <<< (1 &&& 31)) (qwR fun v13 t13 i13 j13 =>
  wB (oQ t13 j13 l0 14 0 v13) fun v14 =>
  (wJ0_init_db425_b97 K J fu F) t13 i13 v14 (c1 + 1) (c2 + 1300))
theorem vwJ0_init_db425_b79 {l : Launch} {K J : Nat → Nat} {fu : Nat} {F : VF} {sh : HS} {I : HI} {R : HR} {c1 : Nat} {c2 : Nat} {l0 : Nat} {l3 : Nat} {l4 : Int32} {d1 d2 : Option Value} (h0 : wJ0_init_db425_b79 K J fu F sh I R c1 c2 l0 l3 l4) : MW l K J 168 79 [some (.ref l0), d1, d2, some (.ref l3), some (.int l4)] [] sh I R (c1, c2) F := by
  unfold wJ0_init_db425_b79 at h0
  refine mw_rl (i := 0) (pc' := 80) (by decide +kernel) rfl ?_
  refine mw_c (v := 1) (pc' := 81) (by decide +kernel) ?_
  refine mw_pB (ix := 15) (t := 14) (j := 1) (md := 0) (by decide +kernel) h0 (fun v11 h1 => ?_); clear h0
  refine mw_rl (i := 0) (pc' := 85) (by decide +kernel) rfl ?_
  refine mw_rl (i := 3) (pc' := 86) (by decide +kernel) rfl ?_
  refine mw_c (v := 0) (pc' := 87) (by decide +kernel) ?_
  refine mw_il (i := 4) (pc' := 89) (by decide +kernel) rfl ?_
  refine mw_c (v := 1) (pc' := 90) (by decide +kernel) ?_
  refine mw_a (ins := .ishl) (pc' := 91) (by decide +kernel) rfl ?_
  obtain ⟨r12, h2⟩ := h1
  refine mwx_R (q := 212) (na := 3) (ce := 1) (sl := 1300) (X := 1) (Y := 1300) (as := [.int (l4 <<< (1 &&& 31)), .int 0, .ref l3]) (by decide +kernel) r12 rfl rfl (by rw [show mL 212 = 3 from by decide +kernel]; rfl) rfl (fun z => absurd z (by decide +kernel)) (fun z => absurd z (by decide +kernel)) (vwJ7_copyOfRange_39247 h2) (fun v13 t13 i13 j13 h3 => ?_); clear h2
  refine mw_pR (ix := 9) (t := 14) (j := 0) (md := 0) (by decide +kernel) h3 (fun v14 h4 => ?_); clear h3
  exact (vwJ0_init_db425_b97) h4
def wJ0_init_db425 (K J : Nat → Nat) (fu : Nat) (sh : HS) (I : HI) (R : HR) (l0 : Nat) (l1 : Nat) (l2 : Option Nat) (F : VF) : Prop :=
  (0 ≤ 1 ∧ 0 ≤ 1300) ∧
  rcvB sh l1 13 = true ∧
  (0 ≤ 1 ∧ 0 ≤ 1300) ∧
  wJ5_getValue_6d5f1 K J fu sh I R l1 (qwR fun v4 t4 i4 j4 =>
  isT t4 l1 13 = true ∧
  (0 ≤ 1 ∧ 0 ≤ 1300) ∧
  wJ4_length_8abf5 K J fu t4 i4 j4 l1 (qwI fun v7 t7 i7 j7 =>
  rcvB t7 l1 13 = true ∧
  (0 ≤ 1 ∧ 0 ≤ 1300) ∧
  wJ5_isLatin1_aae02 K J fu t7 i7 j7 l1 (qwI fun v10 t10 i10 j10 =>
  if v10 = 0 then
    (if (1 : Int32) = 0 then
      ((wJ0_init_db425_b79 K J fu F) t10 i10 j10 0 0 l0 v4 v7)
    else
      (wB (oI t10 i10 l1 13 2) fun v16 =>
      if v16 = 0 then
        ((wJ0_init_db425_b79 K J fu F) t10 i10 j10 0 0 l0 v4 v7)
      else
        (False)))
  else
    (wB (oPB t10 i10 l0 14 1 0) fun v17 =>
    (0 + 1 ≤ 1 ∧ 0 + 1300 ≤ 1300) ∧
    wJ7_copyOfRange_39247 K J fu t10 v17 j10 v4 0 v7 (qwR fun v19 t19 i19 j19 =>
    wB (oQ t19 j19 l0 14 0 v19) fun v20 =>
    (wJ0_init_db425_b97 K J fu F) t19 i19 v20 (0 + 1) (0 + 1300))))))
theorem vwJ0_init_db425 {l : Launch} {K J : Nat → Nat} {fu : Nat} {sh : HS} {I : HI} {R : HR} {l0 : Nat} {l1 : Nat} {l2 : Option Nat} {F : VF} (h0 : wJ0_init_db425 K J fu sh I R l0 l1 l2 F) : MW l K J 168 0 (ent (mL 168) [.ref l0, .ref l1, va_rf l2]) [] sh I R (0, 0) F := by
  unfold wJ0_init_db425 at h0
  have ml : mL 168 = 5 := by decide +kernel
  rw [ml]
  rw [show ent 5 [.ref l0, .ref l1, va_rf l2] = [some (.ref l0), some (.ref l1), some (va_rf l2), none, none] from by cases l2 <;> rfl]
  show MW l K J 168 0 [some (.ref l0), some (.ref l1), some (va_rf l2), none, none] [] sh I R (0, 0) F
  refine mw_rl (i := 0) (pc' := 1) (by decide +kernel) rfl ?_
  obtain ⟨r1, h1⟩ := h0
  refine mw_oin (ix := 1) (X := 1) (Y := 1300) (by decide +kernel) rfl r1 ?_
  refine mw_rl (i := 1) (pc' := 5) (by decide +kernel) rfl ?_
  obtain ⟨q2, h2⟩ := h1
  obtain ⟨r3, h3⟩ := h2
  refine mwx_R (q := 204) (na := 1) (ce := 0) (sl := 0) (X := 1) (Y := 1300) (as := [.ref l1]) (by decide +kernel) r3 rfl rfl (by rw [show mL 204 = 1 from by decide +kernel]; rfl) rfl (fun _ => rv_of q2 (by decide +kernel)) (fun z => absurd z (by decide +kernel)) (vwJ5_getValue_6d5f1 h3) (fun v4 t4 i4 j4 h4 => ?_); clear h3
  refine mw_rs (i := 3) (pc' := 9) (L' := [some (.ref l0), some (.ref l1), some (va_rf l2), some (.ref v4), none]) (by decide +kernel) rfl rfl ?_
  refine mw_rl (i := 1) (pc' := 10) (by decide +kernel) rfl ?_
  obtain ⟨q5, h5⟩ := h4
  obtain ⟨r6, h6⟩ := h5
  refine mwx_Ln (ix := 549) (X := 1) (Y := 1300) (by decide +kernel) r6 rfl q5 (vwJ4_length_8abf5 h6) (fun v7 t7 i7 j7 h7 => ?_); clear h6
  refine mw_is (i := 4) (pc' := 15) (L' := [some (.ref l0), some (.ref l1), some (va_rf l2), some (.ref v4), some (.int v7)]) (by decide +kernel) rfl rfl ?_
  refine mw_rl (i := 1) (pc' := 16) (by decide +kernel) rfl ?_
  obtain ⟨q8, h8⟩ := h7
  obtain ⟨r9, h9⟩ := h8
  refine mwx_I (q := 205) (na := 1) (ce := 0) (sl := 0) (X := 1) (Y := 1300) (as := [.ref l1]) (by decide +kernel) r9 rfl rfl (by rw [show mL 205 = 1 from by decide +kernel]; rfl) rfl (fun _ => rv_of q8 (by decide +kernel)) (fun z => absurd z (by decide +kernel)) (vwJ5_isLatin1_aae02 h9) (fun v10 t10 i10 j10 h10 => ?_); clear h9
  refine mw_if (ins := .ifCond .eq 22) (t := 41) (pc' := 22) (by decide +kernel) rfl rfl rfl h10 (fun p11 h11 => ?_) (fun p11 h11 => ?_) <;> clear h10
  · refine mw_gs0 (pc' := 44) (by decide +kernel) ?_
    refine mw_if (ins := .ifCond .eq 35) (t := 79) (pc' := 47) (by decide +kernel) rfl rfl rfl h11 (fun p12 h12 => ?_) (fun p12 h12 => ?_) <;> clear h11
    · exact (vwJ0_init_db425_b79) h12
    · refine mw_rl (i := 1) (pc' := 48) (by decide +kernel) rfl ?_
      refine mw_fI (ix := 1048) (t := 13) (j := 2) (ty := 1) (md := 0) (by decide +kernel) (by decide) h12 (fun v16 h13 => ?_); clear h12
      refine mw_if (ins := .ifCond .eq 28) (t := 79) (pc' := 54) (by decide +kernel) rfl rfl rfl h13 (fun p14 h14 => ?_) (fun p14 h14 => ?_) <;> clear h13
      · exact (vwJ0_init_db425_b79) h14
      · refine mw_rl (i := 0) (pc' := 55) (by decide +kernel) rfl ?_
        refine mw_rl (i := 3) (pc' := 56) (by decide +kernel) rfl ?_
        refine mw_c (v := 0) (pc' := 57) (by decide +kernel) ?_
        refine mw_il (i := 4) (pc' := 59) (by decide +kernel) rfl ?_
        exact h14.elim
  · refine mw_rl (i := 0) (pc' := 23) (by decide +kernel) rfl ?_
    refine mw_c (v := 0) (pc' := 24) (by decide +kernel) ?_
    refine mw_pB (ix := 15) (t := 14) (j := 1) (md := 0) (by decide +kernel) h11 (fun v17 h12 => ?_); clear h11
    refine mw_rl (i := 0) (pc' := 28) (by decide +kernel) rfl ?_
    refine mw_rl (i := 3) (pc' := 29) (by decide +kernel) rfl ?_
    refine mw_c (v := 0) (pc' := 30) (by decide +kernel) ?_
    refine mw_il (i := 4) (pc' := 32) (by decide +kernel) rfl ?_
    obtain ⟨r18, h13⟩ := h12
    refine mwx_R (q := 212) (na := 3) (ce := 1) (sl := 1300) (X := 1) (Y := 1300) (as := [.int v7, .int 0, .ref v4]) (by decide +kernel) r18 rfl rfl (by rw [show mL 212 = 3 from by decide +kernel]; rfl) rfl (fun z => absurd z (by decide +kernel)) (fun z => absurd z (by decide +kernel)) (vwJ7_copyOfRange_39247 h13) (fun v19 t19 i19 j19 h14 => ?_); clear h13
    refine mw_pR (ix := 9) (t := 14) (j := 0) (md := 0) (by decide +kernel) h14 (fun v20 h15 => ?_); clear h14
    refine mw_go (t := 97) (by decide +kernel) ?_
    exact (vwJ0_init_db425_b97) h15
/- ('J0', 'init_81219') -/
def wJ0_init_81219 (K J : Nat → Nat) (fu : Nat) (sh : HS) (I : HI) (R : HR) (l0 : Nat) (l1 : Nat) (F : VF) : Prop :=
  (0 + 1 ≤ 1 ∧ 0 + 1300 ≤ 1300) ∧
  wJ0_init_db425 K J fu sh I R l0 l1 none (qwV fun t2 i2 j2 =>
  ((0 + 1) ≤ 1 ∧ (0 + 1300) ≤ 1300) ∧
  F (.inl none) t2 i2 j2)
theorem vwJ0_init_81219 {l : Launch} {K J : Nat → Nat} {fu : Nat} {sh : HS} {I : HI} {R : HR} {l0 : Nat} {l1 : Nat} {F : VF} (h0 : wJ0_init_81219 K J fu sh I R l0 l1 F) : MW l K J 162 0 (ent (mL 162) [.ref l0, .ref l1]) [] sh I R (0, 0) F := by
  unfold wJ0_init_81219 at h0
  have ml : mL 162 = 2 := by decide +kernel
  rw [ml]
  show MW l K J 162 0 [some (.ref l0), some (.ref l1)] [] sh I R (0, 0) F
  refine mw_rl (i := 0) (pc' := 1) (by decide +kernel) rfl ?_
  refine mw_rl (i := 1) (pc' := 2) (by decide +kernel) rfl ?_
  refine mw_null (by decide +kernel) ?_
  obtain ⟨r1, h1⟩ := h0
  refine mwx_V (q := 168) (na := 3) (ce := 1) (sl := 1300) (X := 1) (Y := 1300) (as := [va_rf none, .ref l1, .ref l0]) (by decide +kernel) r1 rfl rfl (by rw [show mL 168 = 5 from by decide +kernel]; first | rfl | (cases none <;> rfl)) (by first | rfl | (cases none <;> rfl)) (fun z => absurd z (by decide +kernel)) (fun _ => ⟨_, rfl⟩) (vwJ0_init_db425 h1) (fun t2 i2 j2 h2 => ?_); clear h1
  obtain ⟨r3, h3⟩ := h2
  exact mw_rv (X := 1) (Y := 1300) (by decide +kernel) r3 h3
/- ('J4', 'toString_0e30d') -/
def wJ4_toString_0e30d (K J : Nat → Nat) (fu : Nat) (sh : HS) (I : HI) (R : HR) (l0 : Nat) (F : VF) : Prop :=
  (0 + 1 ≤ 2 ∧ 0 + 4 ≤ 1304) ∧
  wNew sh I R 14 4 fun a2 t2 i2 j2 =>
  ((0 + 1) + 1 ≤ 2 ∧ (0 + 4) + 1300 ≤ 1304) ∧
  wJ0_init_81219 K J fu t2 i2 j2 a2 l0 (qwV fun t4 i4 j4 =>
  (((0 + 1) + 1) ≤ 2 ∧ ((0 + 4) + 1300) ≤ 1304) ∧
  F (.inl (some (.ref a2))) t4 i4 j4)
theorem vwJ4_toString_0e30d {l : Launch} {K J : Nat → Nat} {fu : Nat} {sh : HS} {I : HI} {R : HR} {l0 : Nat} {F : VF} (h0 : wJ4_toString_0e30d K J fu sh I R l0 F) : MW l K J 160 0 (ent (mL 160) [.ref l0]) [] sh I R (0, 0) F := by
  unfold wJ4_toString_0e30d at h0
  have ml : mL 160 = 1 := by decide +kernel
  rw [ml]
  show MW l K J 160 0 [some (.ref l0)] [] sh I R (0, 0) F
  obtain ⟨r1, h1⟩ := h0
  refine mw_new (ix := 18) (t := 14) (N := 4) (X := 2) (Y := 1304) (by decide +kernel) r1 h1 (fun a2 t2 i2 j2 h2 => ?_); clear h1
  refine mw_a (ins := .dup) (pc' := 4) (by decide +kernel) rfl ?_
  refine mw_rl (i := 0) (pc' := 5) (by decide +kernel) rfl ?_
  obtain ⟨r3, h3⟩ := h2
  refine mwx_V (q := 162) (na := 2) (ce := 1) (sl := 1300) (X := 2) (Y := 1304) (as := [.ref l0, .ref a2]) (by decide +kernel) r3 rfl rfl (by rw [show mL 162 = 2 from by decide +kernel]; rfl) rfl (fun z => absurd z (by decide +kernel)) (fun _ => ⟨_, rfl⟩) (vwJ0_init_81219 h3) (fun t4 i4 j4 h4 => ?_); clear h3
  obtain ⟨r5, h5⟩ := h4
  exact mw_rr (v := some a2) (X := 2) (Y := 1304) (by decide +kernel) r5 h5
/- ('X11', 'said') -/
def wX11_said_b150 (K J : Nat → Nat) (fu : Nat) (F : VF) (k85 : HS → HI → HR → Nat → Nat → Nat → Nat → Int32 → Int32 → Prop) (k156 : HS → HI → HR → Nat → Nat → Nat → Nat → Int32 → Prop) (sh : HS) (I : HI) (R : HR) (c1 : Nat) (c2 : Nat) (l0 : Nat) (l1 : Nat) (l2 : Int32) (l3 : Int32) : Prop :=
  k85 sh I R c1 c2 l0 l1 l2 (l3 + 1)
theorem vwX11_said_b150 {l : Launch} {K J : Nat → Nat} {fu : Nat} {F : VF} {k85 : HS → HI → HR → Nat → Nat → Nat → Nat → Int32 → Int32 → Prop} {k156 : HS → HI → HR → Nat → Nat → Nat → Nat → Int32 → Prop} (hk85 : ∀ {sh : HS} {I : HI} {R : HR} {c1 : Nat} {c2 : Nat} {l0 : Nat} {l1 : Nat} {l2 : Int32} {l3 : Int32} {d4 : Option Value}, k85 sh I R c1 c2 l0 l1 l2 l3 → MW l K J 129 85 [some (.ref l0), some (.ref l1), some (.int l2), some (.int l3), d4] [] sh I R (c1, c2) F) (hk156 : ∀ {sh : HS} {I : HI} {R : HR} {c1 : Nat} {c2 : Nat} {l0 : Nat} {l1 : Nat} {l2 : Int32} {d3 d4 : Option Value}, k156 sh I R c1 c2 l0 l1 l2 → MW l K J 129 156 [some (.ref l0), some (.ref l1), some (.int l2), d3, d4] [] sh I R (c1, c2) F) {sh : HS} {I : HI} {R : HR} {c1 : Nat} {c2 : Nat} {l0 : Nat} {l1 : Nat} {l2 : Int32} {l3 : Int32} {d4 : Option Value} (h0 : wX11_said_b150 K J fu F k85 k156 sh I R c1 c2 l0 l1 l2 l3) : MW l K J 129 150 [some (.ref l0), some (.ref l1), some (.int l2), some (.int l3), d4] [] sh I R (c1, c2) F := by
  unfold wX11_said_b150 at h0
  refine mw_inc (i := 3) (z := 1) (pc' := 153) (L' := [some (.ref l0), some (.ref l1), some (.int l2), some (.int (l3 + 1)), d4]) (by decide +kernel) rfl rfl rfl ?_
  refine mw_go (t := 85) (by decide +kernel) ?_
  exact hk85 h0
def wX11_said_b85 (K J : Nat → Nat) (fu : Nat) (F : VF) (k85 : HS → HI → HR → Nat → Nat → Nat → Nat → Int32 → Int32 → Prop) (k156 : HS → HI → HR → Nat → Nat → Nat → Nat → Int32 → Prop) (sh : HS) (I : HI) (R : HR) (c1 : Nat) (c2 : Nat) (l0 : Nat) (l1 : Nat) (l2 : Int32) (l3 : Int32) : Prop :=
  if (6 : Int32) ≤ l3 then
    (k156 sh I R c1 c2 l0 l1 l2)
  else
    (wB (oR sh R l0 9 5) fun v46 =>
    wB (oAr sh R v46 45 l2) fun v47 =>
    wB (oA2 sh I v47 l3) fun v48 =>
    if v48 < 0 then
      ((wX11_said_b150 K J fu F k85 k156) sh I R c1 c2 l0 l1 l2 l3)
    else
      (rcvB sh l1 13 = true ∧
      (c1 + 1 ≤ 1500 ∧ c2 + 1300 ≤ 1200000) ∧
      wJ4_append_15ec4 K J fu sh I R l1 (K 6) (qwR fun v51 t51 i51 j51 =>
      rcvB t51 v51 13 = true ∧
      ((c1 + 1) + 1 ≤ 1500 ∧ (c2 + 1300) + 1300 ≤ 1200000) ∧
      wJ4_append_bf812 K J fu t51 i51 j51 v51 l3 (qwR fun v54 t54 i54 j54 =>
      rcvB t54 v54 13 = true ∧
      (((c1 + 1) + 1) + 1 ≤ 1500 ∧ ((c2 + 1300) + 1300) + 1300 ≤ 1200000) ∧
      wJ4_append_cf468 K J fu t54 i54 j54 v54 32 (qwR fun v57 t57 i57 j57 =>
      wB (oR t57 j57 l0 9 5) fun v58 =>
      wB (oAr t57 j57 v58 45 l2) fun v59 =>
      wB (oA2 t57 i57 v59 l3) fun v60 =>
      rcvB t57 v57 13 = true ∧
      ((((c1 + 1) + 1) + 1) + 1 ≤ 1500 ∧ (((c2 + 1300) + 1300) + 1300) + 1300 ≤ 1200000) ∧
      wJ4_append_bf812 K J fu t57 i57 j57 v57 v60 (qwR fun v63 t63 i63 j63 =>
      rcvB t63 v63 13 = true ∧
      (((((c1 + 1) + 1) + 1) + 1) + 1 ≤ 1500 ∧ ((((c2 + 1300) + 1300) + 1300) + 1300) + 1300 ≤ 1200000) ∧
      wJ4_append_cf468 K J fu t63 i63 j63 v63 32 (qwR fun v66 t66 i66 j66 =>
      wB (oR t66 j66 l0 9 6) fun v67 =>
      wB (oAr t66 j66 v67 45 l2) fun v68 =>
      wB (oA2 t66 i66 v68 l3) fun v69 =>
      rcvB t66 v66 13 = true ∧
      ((((((c1 + 1) + 1) + 1) + 1) + 1) + 1 ≤ 1500 ∧ (((((c2 + 1300) + 1300) + 1300) + 1300) + 1300) + 1300 ≤ 1200000) ∧
      wJ4_append_bf812 K J fu t66 i66 j66 v66 v69 (qwR fun v72 t72 i72 j72 =>
      rcvB t72 v72 13 = true ∧
      (((((((c1 + 1) + 1) + 1) + 1) + 1) + 1) + 1 ≤ 1500 ∧ ((((((c2 + 1300) + 1300) + 1300) + 1300) + 1300) + 1300) + 1300 ≤ 1200000) ∧
      wJ4_append_cf468 K J fu t72 i72 j72 v72 59 (qwR fun v75 t75 i75 j75 =>
      (wX11_said_b150 K J fu F k85 k156) t75 i75 j75 (((((((c1 + 1) + 1) + 1) + 1) + 1) + 1) + 1) (((((((c2 + 1300) + 1300) + 1300) + 1300) + 1300) + 1300) + 1300) l0 l1 l2 l3)))))))))
theorem vwX11_said_b85 {l : Launch} {K J : Nat → Nat} {fu : Nat} {F : VF} {k85 : HS → HI → HR → Nat → Nat → Nat → Nat → Int32 → Int32 → Prop} {k156 : HS → HI → HR → Nat → Nat → Nat → Nat → Int32 → Prop} (hk85 : ∀ {sh : HS} {I : HI} {R : HR} {c1 : Nat} {c2 : Nat} {l0 : Nat} {l1 : Nat} {l2 : Int32} {l3 : Int32} {d4 : Option Value}, k85 sh I R c1 c2 l0 l1 l2 l3 → MW l K J 129 85 [some (.ref l0), some (.ref l1), some (.int l2), some (.int l3), d4] [] sh I R (c1, c2) F) (hk156 : ∀ {sh : HS} {I : HI} {R : HR} {c1 : Nat} {c2 : Nat} {l0 : Nat} {l1 : Nat} {l2 : Int32} {d3 d4 : Option Value}, k156 sh I R c1 c2 l0 l1 l2 → MW l K J 129 156 [some (.ref l0), some (.ref l1), some (.int l2), d3, d4] [] sh I R (c1, c2) F) {sh : HS} {I : HI} {R : HR} {c1 : Nat} {c2 : Nat} {l0 : Nat} {l1 : Nat} {l2 : Int32} {l3 : Int32} {d4 : Option Value} (h0 : wX11_said_b85 K J fu F k85 k156 sh I R c1 c2 l0 l1 l2 l3) : MW l K J 129 85 [some (.ref l0), some (.ref l1), some (.int l2), some (.int l3), d4] [] sh I R (c1, c2) F := by
  unfold wX11_said_b85 at h0
  refine mw_il (i := 3) (pc' := 86) (by decide +kernel) rfl ?_
  refine mw_c (v := 6) (pc' := 88) (by decide +kernel) ?_
  refine mw_if (ins := .if_icmp .ge 68) (t := 156) (pc' := 91) (by decide +kernel) rfl rfl rfl h0 (fun p1 h1 => ?_) (fun p1 h1 => ?_) <;> clear h0
  · exact hk156 h1
  · refine mw_rl (i := 0) (pc' := 92) (by decide +kernel) rfl ?_
    refine mw_fR (ix := 21) (t := 9) (j := 5) (md := 0) (by decide +kernel) h1 (fun v46 h2 => ?_); clear h1
    refine mw_il (i := 2) (pc' := 96) (by decide +kernel) rfl ?_
    refine mw_aal (t := 45) (by decide +kernel) (by decide) h2 (fun v47 h3 => ?_); clear h2
    refine mw_il (i := 3) (pc' := 98) (by decide +kernel) rfl ?_
    refine mw_al (by decide +kernel) h3 (fun v48 h4 => ?_); clear h3
    refine mw_if (ins := .ifCond .lt 51) (t := 150) (pc' := 102) (by decide +kernel) rfl rfl rfl h4 (fun p5 h5 => ?_) (fun p5 h5 => ?_) <;> clear h4
    · exact (vwX11_said_b150 hk85 hk156) h5
    · refine mw_rl (i := 1) (pc' := 103) (by decide +kernel) rfl ?_
      refine mw_cS (i := 6) (pc' := 105) (by decide +kernel) ?_
      obtain ⟨q49, h6⟩ := h5
      obtain ⟨r50, h7⟩ := h6
      refine mwx_R (q := 157) (na := 2) (ce := 1) (sl := 1300) (X := 1500) (Y := 1200000) (as := [.ref (K 6), .ref l1]) (by decide +kernel) r50 rfl rfl (by rw [show mL 157 = 2 from by decide +kernel]; rfl) rfl (fun _ => rv_of q49 (by decide +kernel)) (fun z => absurd z (by decide +kernel)) (vwJ4_append_15ec4 h7) (fun v51 t51 i51 j51 h8 => ?_); clear h7
      refine mw_il (i := 3) (pc' := 109) (by decide +kernel) rfl ?_
      obtain ⟨q52, h9⟩ := h8
      obtain ⟨r53, h10⟩ := h9
      refine mwx_R (q := 159) (na := 2) (ce := 1) (sl := 1300) (X := 1500) (Y := 1200000) (as := [.int l3, .ref v51]) (by decide +kernel) r53 rfl rfl (by rw [show mL 159 = 2 from by decide +kernel]; rfl) rfl (fun _ => rv_of q52 (by decide +kernel)) (fun z => absurd z (by decide +kernel)) (vwJ4_append_bf812 h10) (fun v54 t54 i54 j54 h11 => ?_); clear h10
      refine mw_c (v := 32) (pc' := 114) (by decide +kernel) ?_
      obtain ⟨q55, h12⟩ := h11
      obtain ⟨r56, h13⟩ := h12
      refine mwx_R (q := 158) (na := 2) (ce := 1) (sl := 1300) (X := 1500) (Y := 1200000) (as := [.int 32, .ref v54]) (by decide +kernel) r56 rfl rfl (by rw [show mL 158 = 2 from by decide +kernel]; rfl) rfl (fun _ => rv_of q55 (by decide +kernel)) (fun z => absurd z (by decide +kernel)) (vwJ4_append_cf468 h13) (fun v57 t57 i57 j57 h14 => ?_); clear h13
      refine mw_rl (i := 0) (pc' := 118) (by decide +kernel) rfl ?_
      refine mw_fR (ix := 21) (t := 9) (j := 5) (md := 0) (by decide +kernel) h14 (fun v58 h15 => ?_); clear h14
      refine mw_il (i := 2) (pc' := 122) (by decide +kernel) rfl ?_
      refine mw_aal (t := 45) (by decide +kernel) (by decide) h15 (fun v59 h16 => ?_); clear h15
      refine mw_il (i := 3) (pc' := 124) (by decide +kernel) rfl ?_
      refine mw_al (by decide +kernel) h16 (fun v60 h17 => ?_); clear h16
      obtain ⟨q61, h18⟩ := h17
      obtain ⟨r62, h19⟩ := h18
      refine mwx_R (q := 159) (na := 2) (ce := 1) (sl := 1300) (X := 1500) (Y := 1200000) (as := [.int v60, .ref v57]) (by decide +kernel) r62 rfl rfl (by rw [show mL 159 = 2 from by decide +kernel]; rfl) rfl (fun _ => rv_of q61 (by decide +kernel)) (fun z => absurd z (by decide +kernel)) (vwJ4_append_bf812 h19) (fun v63 t63 i63 j63 h20 => ?_); clear h19
      refine mw_c (v := 32) (pc' := 130) (by decide +kernel) ?_
      obtain ⟨q64, h21⟩ := h20
      obtain ⟨r65, h22⟩ := h21
      refine mwx_R (q := 158) (na := 2) (ce := 1) (sl := 1300) (X := 1500) (Y := 1200000) (as := [.int 32, .ref v63]) (by decide +kernel) r65 rfl rfl (by rw [show mL 158 = 2 from by decide +kernel]; rfl) rfl (fun _ => rv_of q64 (by decide +kernel)) (fun z => absurd z (by decide +kernel)) (vwJ4_append_cf468 h22) (fun v66 t66 i66 j66 h23 => ?_); clear h22
      refine mw_rl (i := 0) (pc' := 134) (by decide +kernel) rfl ?_
      refine mw_fR (ix := 25) (t := 9) (j := 6) (md := 0) (by decide +kernel) h23 (fun v67 h24 => ?_); clear h23
      refine mw_il (i := 2) (pc' := 138) (by decide +kernel) rfl ?_
      refine mw_aal (t := 45) (by decide +kernel) (by decide) h24 (fun v68 h25 => ?_); clear h24
      refine mw_il (i := 3) (pc' := 140) (by decide +kernel) rfl ?_
      refine mw_al (by decide +kernel) h25 (fun v69 h26 => ?_); clear h25
      obtain ⟨q70, h27⟩ := h26
      obtain ⟨r71, h28⟩ := h27
      refine mwx_R (q := 159) (na := 2) (ce := 1) (sl := 1300) (X := 1500) (Y := 1200000) (as := [.int v69, .ref v66]) (by decide +kernel) r71 rfl rfl (by rw [show mL 159 = 2 from by decide +kernel]; rfl) rfl (fun _ => rv_of q70 (by decide +kernel)) (fun z => absurd z (by decide +kernel)) (vwJ4_append_bf812 h28) (fun v72 t72 i72 j72 h29 => ?_); clear h28
      refine mw_c (v := 59) (pc' := 146) (by decide +kernel) ?_
      obtain ⟨q73, h30⟩ := h29
      obtain ⟨r74, h31⟩ := h30
      refine mwx_R (q := 158) (na := 2) (ce := 1) (sl := 1300) (X := 1500) (Y := 1200000) (as := [.int 59, .ref v72]) (by decide +kernel) r74 rfl rfl (by rw [show mL 158 = 2 from by decide +kernel]; rfl) rfl (fun _ => rv_of q73 (by decide +kernel)) (fun z => absurd z (by decide +kernel)) (vwJ4_append_cf468 h31) (fun v75 t75 i75 j75 h32 => ?_); clear h31
      refine mw_pop (by decide +kernel) rfl ?_
      exact (vwX11_said_b150 hk85 hk156) h32
def wX11_said_l85 (K J : Nat → Nat) (fu : Nat) (F : VF) (k156 : HS → HI → HR → Nat → Nat → Nat → Nat → Int32 → Prop) : Nat → HS → HI → HR → Nat → Nat → Nat → Nat → Int32 → Int32 → Prop
  | 0 => fun _ _ _ _ _ _ _ _ _ => False
  | n + 1 => wX11_said_b85 K J fu F (wX11_said_l85 K J fu F k156 n) k156
theorem vwX11_said_l85 {l : Launch} {K J : Nat → Nat} {fu : Nat} {F : VF} {k156 : HS → HI → HR → Nat → Nat → Nat → Nat → Int32 → Prop} (hk156 : ∀ {sh : HS} {I : HI} {R : HR} {c1 : Nat} {c2 : Nat} {l0 : Nat} {l1 : Nat} {l2 : Int32} {d3 d4 : Option Value}, k156 sh I R c1 c2 l0 l1 l2 → MW l K J 129 156 [some (.ref l0), some (.ref l1), some (.int l2), d3, d4] [] sh I R (c1, c2) F) : ∀ (n : Nat) {sh : HS} {I : HI} {R : HR} {c1 : Nat} {c2 : Nat} {l0 : Nat} {l1 : Nat} {l2 : Int32} {l3 : Int32} {d4 : Option Value} (_ : wX11_said_l85 K J fu F k156 n sh I R c1 c2 l0 l1 l2 l3), MW l K J 129 85 [some (.ref l0), some (.ref l1), some (.int l2), some (.int l3), d4] [] sh I R (c1, c2) F := by
  intro n
  induction n with
  | zero => exact fun h0 => h0.elim
  | succ n ih => exact fun h0 => vwX11_said_b85 ih hk156 h0
def wX11_said_b271 (K J : Nat → Nat) (fu : Nat) (F : VF) (k164 : HS → HI → HR → Nat → Nat → Nat → Nat → Int32 → Nat → Prop) (k295 : HS → HI → HR → Nat → Nat → Nat → Nat → Int32 → Prop) (sh : HS) (I : HI) (R : HR) (c1 : Nat) (c2 : Nat) (l0 : Nat) (l1 : Nat) (l2 : Int32) (l3 : Nat) (l4 : Nat) (s0 : Nat) (s1 : Nat) : Prop :=
  rcvB sh s1 13 = true ∧
  (c1 + 1 ≤ 1500 ∧ c2 + 1300 ≤ 1200000) ∧
  wJ4_append_15ec4 K J fu sh I R s1 s0 (qwR fun v128 t128 i128 j128 =>
  rcvB t128 v128 13 = true ∧
  ((c1 + 1) + 1 ≤ 1500 ∧ (c2 + 1300) + 1300 ≤ 1200000) ∧
  wJ4_append_cf468 K J fu t128 i128 j128 v128 32 (qwR fun v131 t131 i131 j131 =>
  wB (oA2 t131 i131 l4 5) fun v132 =>
  rcvB t131 v131 13 = true ∧
  (((c1 + 1) + 1) + 1 ≤ 1500 ∧ ((c2 + 1300) + 1300) + 1300 ≤ 1200000) ∧
  wJ4_append_bf812 K J fu t131 i131 j131 v131 v132 (qwR fun v135 t135 i135 j135 =>
  rcvB t135 v135 13 = true ∧
  ((((c1 + 1) + 1) + 1) + 1 ≤ 1500 ∧ (((c2 + 1300) + 1300) + 1300) + 1300 ≤ 1200000) ∧
  wJ4_append_15ec4 K J fu t135 i135 j135 v135 (K 1) (qwR fun v138 t138 i138 j138 =>
  k164 t138 i138 j138 ((((c1 + 1) + 1) + 1) + 1) ((((c2 + 1300) + 1300) + 1300) + 1300) l0 l1 l2 l3))))
theorem vwX11_said_b271 {l : Launch} {K J : Nat → Nat} {fu : Nat} {F : VF} {k164 : HS → HI → HR → Nat → Nat → Nat → Nat → Int32 → Nat → Prop} {k295 : HS → HI → HR → Nat → Nat → Nat → Nat → Int32 → Prop} (hk164 : ∀ {sh : HS} {I : HI} {R : HR} {c1 : Nat} {c2 : Nat} {l0 : Nat} {l1 : Nat} {l2 : Int32} {l3 : Nat} {d4 : Option Value}, k164 sh I R c1 c2 l0 l1 l2 l3 → MW l K J 129 164 [some (.ref l0), some (.ref l1), some (.int l2), some (.ref l3), d4] [] sh I R (c1, c2) F) (hk295 : ∀ {sh : HS} {I : HI} {R : HR} {c1 : Nat} {c2 : Nat} {l0 : Nat} {l1 : Nat} {l2 : Int32} {d3 d4 : Option Value}, k295 sh I R c1 c2 l0 l1 l2 → MW l K J 129 295 [some (.ref l0), some (.ref l1), some (.int l2), d3, d4] [] sh I R (c1, c2) F) {sh : HS} {I : HI} {R : HR} {c1 : Nat} {c2 : Nat} {l0 : Nat} {l1 : Nat} {l2 : Int32} {l3 : Nat} {l4 : Nat} {s0 : Nat} {s1 : Nat} (h0 : wX11_said_b271 K J fu F k164 k295 sh I R c1 c2 l0 l1 l2 l3 l4 s0 s1) : MW l K J 129 271 [some (.ref l0), some (.ref l1), some (.int l2), some (.ref l3), some (.ref l4)] [.ref s0, .ref s1] sh I R (c1, c2) F := by
  unfold wX11_said_b271 at h0
  obtain ⟨q126, h1⟩ := h0
  obtain ⟨r127, h2⟩ := h1
  refine mwx_R (q := 157) (na := 2) (ce := 1) (sl := 1300) (X := 1500) (Y := 1200000) (as := [.ref s0, .ref s1]) (by decide +kernel) r127 rfl rfl (by rw [show mL 157 = 2 from by decide +kernel]; rfl) rfl (fun _ => rv_of q126 (by decide +kernel)) (fun z => absurd z (by decide +kernel)) (vwJ4_append_15ec4 h2) (fun v128 t128 i128 j128 h3 => ?_); clear h2
  refine mw_c (v := 32) (pc' := 276) (by decide +kernel) ?_
  obtain ⟨q129, h4⟩ := h3
  obtain ⟨r130, h5⟩ := h4
  refine mwx_R (q := 158) (na := 2) (ce := 1) (sl := 1300) (X := 1500) (Y := 1200000) (as := [.int 32, .ref v128]) (by decide +kernel) r130 rfl rfl (by rw [show mL 158 = 2 from by decide +kernel]; rfl) rfl (fun _ => rv_of q129 (by decide +kernel)) (fun z => absurd z (by decide +kernel)) (vwJ4_append_cf468 h5) (fun v131 t131 i131 j131 h6 => ?_); clear h5
  refine mw_rl (i := 4) (pc' := 281) (by decide +kernel) rfl ?_
  refine mw_c (v := 5) (pc' := 282) (by decide +kernel) ?_
  refine mw_al (by decide +kernel) h6 (fun v132 h7 => ?_); clear h6
  obtain ⟨q133, h8⟩ := h7
  obtain ⟨r134, h9⟩ := h8
  refine mwx_R (q := 159) (na := 2) (ce := 1) (sl := 1300) (X := 1500) (Y := 1200000) (as := [.int v132, .ref v131]) (by decide +kernel) r134 rfl rfl (by rw [show mL 159 = 2 from by decide +kernel]; rfl) rfl (fun _ => rv_of q133 (by decide +kernel)) (fun z => absurd z (by decide +kernel)) (vwJ4_append_bf812 h9) (fun v135 t135 i135 j135 h10 => ?_); clear h9
  refine mw_cS (i := 1) (pc' := 288) (by decide +kernel) ?_
  obtain ⟨q136, h11⟩ := h10
  obtain ⟨r137, h12⟩ := h11
  refine mwx_R (q := 157) (na := 2) (ce := 1) (sl := 1300) (X := 1500) (Y := 1200000) (as := [.ref (K 1), .ref v135]) (by decide +kernel) r137 rfl rfl (by rw [show mL 157 = 2 from by decide +kernel]; rfl) rfl (fun _ => rv_of q136 (by decide +kernel)) (fun z => absurd z (by decide +kernel)) (vwJ4_append_15ec4 h12) (fun v138 t138 i138 j138 h13 => ?_); clear h12
  refine mw_pop (by decide +kernel) rfl ?_
  refine mw_go (t := 164) (by decide +kernel) ?_
  exact hk164 h13
def wX11_said_b164 (K J : Nat → Nat) (fu : Nat) (F : VF) (k164 : HS → HI → HR → Nat → Nat → Nat → Nat → Int32 → Nat → Prop) (k295 : HS → HI → HR → Nat → Nat → Nat → Nat → Int32 → Prop) (sh : HS) (I : HI) (R : HR) (c1 : Nat) (c2 : Nat) (l0 : Nat) (l1 : Nat) (l2 : Int32) (l3 : Nat) : Prop :=
  isT sh l3 11 = true ∧
  (c1 ≤ 1500 ∧ c2 ≤ 1200000) ∧
  wJx35411_hasNext_aae02 K J fu sh I R l3 (qwI fun v82 t82 i82 j82 =>
  if v82 = 0 then
    (k295 t82 i82 j82 c1 c2 l0 l1 l2)
  else
    (isT t82 l3 11 = true ∧
    (c1 ≤ 1500 ∧ c2 ≤ 1200000) ∧
    wJx35411_next_0502b K J fu t82 i82 j82 l3 (qwR fun v85 t85 i85 j85 =>
    wB (oKt t85 v85 1) fun _ =>
    wB (oA2 t85 i85 v85 0) fun v86 =>
    if v86 = l2 then
      (rcvB t85 l1 13 = true ∧
      (c1 + 1 ≤ 1500 ∧ c2 + 1300 ≤ 1200000) ∧
      wJ4_append_15ec4 K J fu t85 i85 j85 l1 (K 19) (qwR fun v89 t89 i89 j89 =>
      wB (oA2 t89 i89 v85 1) fun v90 =>
      rcvB t89 v89 13 = true ∧
      ((c1 + 1) + 1 ≤ 1500 ∧ (c2 + 1300) + 1300 ≤ 1200000) ∧
      wJ4_append_bf812 K J fu t89 i89 j89 v89 v90 (qwR fun v93 t93 i93 j93 =>
      rcvB t93 v93 13 = true ∧
      (((c1 + 1) + 1) + 1 ≤ 1500 ∧ ((c2 + 1300) + 1300) + 1300 ≤ 1200000) ∧
      wJ4_append_cf468 K J fu t93 i93 j93 v93 32 (qwR fun v96 t96 i96 j96 =>
      wB (oA2 t96 i96 v85 2) fun v97 =>
      rcvB t96 v96 13 = true ∧
      ((((c1 + 1) + 1) + 1) + 1 ≤ 1500 ∧ (((c2 + 1300) + 1300) + 1300) + 1300 ≤ 1200000) ∧
      wJ4_append_bf812 K J fu t96 i96 j96 v96 v97 (qwR fun v100 t100 i100 j100 =>
      rcvB t100 v100 13 = true ∧
      (((((c1 + 1) + 1) + 1) + 1) + 1 ≤ 1500 ∧ ((((c2 + 1300) + 1300) + 1300) + 1300) + 1300 ≤ 1200000) ∧
      wJ4_append_cf468 K J fu t100 i100 j100 v100 32 (qwR fun v103 t103 i103 j103 =>
      wB (oA2 t103 i103 v85 3) fun v104 =>
      rcvB t103 v103 13 = true ∧
      ((((((c1 + 1) + 1) + 1) + 1) + 1) + 1 ≤ 1500 ∧ (((((c2 + 1300) + 1300) + 1300) + 1300) + 1300) + 1300 ≤ 1200000) ∧
      wJ4_append_bf812 K J fu t103 i103 j103 v103 v104 (qwR fun v107 t107 i107 j107 =>
      rcvB t107 v107 13 = true ∧
      (((((((c1 + 1) + 1) + 1) + 1) + 1) + 1) + 1 ≤ 1500 ∧ ((((((c2 + 1300) + 1300) + 1300) + 1300) + 1300) + 1300) + 1300 ≤ 1200000) ∧
      wJ4_append_cf468 K J fu t107 i107 j107 v107 32 (qwR fun v110 t110 i110 j110 =>
      wB (oA2 t110 i110 v85 4) fun v111 =>
      if 0 ≤ v111 then
        (((((((((c1 + 1) + 1) + 1) + 1) + 1) + 1) + 1) + 1 ≤ 1500 ∧ (((((((c2 + 1300) + 1300) + 1300) + 1300) + 1300) + 1300) + 1300) + 4 ≤ 1200000) ∧
        wNew t110 i110 j110 13 4 fun a113 t113 i113 j113 =>
        (((((((((c1 + 1) + 1) + 1) + 1) + 1) + 1) + 1) + 1) + 1 ≤ 1500 ∧ ((((((((c2 + 1300) + 1300) + 1300) + 1300) + 1300) + 1300) + 1300) + 4) + 16 ≤ 1200000) ∧
        wJ4_init_da8c8 K J fu t113 i113 j113 a113 (qwV fun t115 i115 j115 =>
        rcvB t115 a113 13 = true ∧
        ((((((((((c1 + 1) + 1) + 1) + 1) + 1) + 1) + 1) + 1) + 1) + 1 ≤ 1500 ∧ (((((((((c2 + 1300) + 1300) + 1300) + 1300) + 1300) + 1300) + 1300) + 4) + 16) + 1300 ≤ 1200000) ∧
        wJ4_append_15ec4 K J fu t115 i115 j115 a113 (K 0) (qwR fun v118 t118 i118 j118 =>
        wB (oA2 t118 i118 v85 4) fun v119 =>
        rcvB t118 v118 13 = true ∧
        (((((((((((c1 + 1) + 1) + 1) + 1) + 1) + 1) + 1) + 1) + 1) + 1) + 1 ≤ 1500 ∧ ((((((((((c2 + 1300) + 1300) + 1300) + 1300) + 1300) + 1300) + 1300) + 4) + 16) + 1300) + 1300 ≤ 1200000) ∧
        wJ4_append_bf812 K J fu t118 i118 j118 v118 v119 (qwR fun v122 t122 i122 j122 =>
        rcvB t122 v122 13 = true ∧
        ((((((((((((c1 + 1) + 1) + 1) + 1) + 1) + 1) + 1) + 1) + 1) + 1) + 1) + 2 ≤ 1500 ∧ (((((((((((c2 + 1300) + 1300) + 1300) + 1300) + 1300) + 1300) + 1300) + 4) + 16) + 1300) + 1300) + 1304 ≤ 1200000) ∧
        wJ4_toString_0e30d K J fu t122 i122 j122 v122 (qwR fun v125 t125 i125 j125 =>
        (wX11_said_b271 K J fu F k164 k295) t125 i125 j125 ((((((((((((c1 + 1) + 1) + 1) + 1) + 1) + 1) + 1) + 1) + 1) + 1) + 1) + 2) ((((((((((((c2 + 1300) + 1300) + 1300) + 1300) + 1300) + 1300) + 1300) + 4) + 16) + 1300) + 1300) + 1304) l0 l1 l2 l3 v85 v125 v110)))))
      else
        ((wX11_said_b271 K J fu F k164 k295) t110 i110 j110 (((((((c1 + 1) + 1) + 1) + 1) + 1) + 1) + 1) (((((((c2 + 1300) + 1300) + 1300) + 1300) + 1300) + 1300) + 1300) l0 l1 l2 l3 v85 (K 15) v110)))))))))
    else
      (k164 t85 i85 j85 c1 c2 l0 l1 l2 l3))))
theorem vwX11_said_b164 {l : Launch} {K J : Nat → Nat} {fu : Nat} {F : VF} {k164 : HS → HI → HR → Nat → Nat → Nat → Nat → Int32 → Nat → Prop} {k295 : HS → HI → HR → Nat → Nat → Nat → Nat → Int32 → Prop} (hk164 : ∀ {sh : HS} {I : HI} {R : HR} {c1 : Nat} {c2 : Nat} {l0 : Nat} {l1 : Nat} {l2 : Int32} {l3 : Nat} {d4 : Option Value}, k164 sh I R c1 c2 l0 l1 l2 l3 → MW l K J 129 164 [some (.ref l0), some (.ref l1), some (.int l2), some (.ref l3), d4] [] sh I R (c1, c2) F) (hk295 : ∀ {sh : HS} {I : HI} {R : HR} {c1 : Nat} {c2 : Nat} {l0 : Nat} {l1 : Nat} {l2 : Int32} {d3 d4 : Option Value}, k295 sh I R c1 c2 l0 l1 l2 → MW l K J 129 295 [some (.ref l0), some (.ref l1), some (.int l2), d3, d4] [] sh I R (c1, c2) F) {sh : HS} {I : HI} {R : HR} {c1 : Nat} {c2 : Nat} {l0 : Nat} {l1 : Nat} {l2 : Int32} {l3 : Nat} {d4 : Option Value} (h0 : wX11_said_b164 K J fu F k164 k295 sh I R c1 c2 l0 l1 l2 l3) : MW l K J 129 164 [some (.ref l0), some (.ref l1), some (.int l2), some (.ref l3), d4] [] sh I R (c1, c2) F := by
  unfold wX11_said_b164 at h0
  refine mw_rl (i := 3) (pc' := 165) (by decide +kernel) rfl ?_
  obtain ⟨q80, h1⟩ := h0
  obtain ⟨r81, h2⟩ := h1
  refine mwx_IF (ix := 148) (cnt := 1) (q := 145) (ce := 0) (sl := 0) (X := 1500) (Y := 1200000) (by decide +kernel) r81 rfl q80 (vwJx35411_hasNext_aae02 h2) (fun _ _ _ g => by obtain ⟨_, e9, -⟩ := g; cases e9) (fun v9 t82 i82 j82 g => ?_) (fun _ _ _ _ g => by obtain ⟨_, e9, -⟩ := g; cases e9)
  obtain ⟨v82, e9, h3⟩ := g; cases e9; clear h2
  refine mw_if (ins := .ifCond .eq 125) (t := 295) (pc' := 173) (by decide +kernel) rfl rfl rfl h3 (fun p4 h4 => ?_) (fun p4 h4 => ?_) <;> clear h3
  · exact hk295 h4
  · refine mw_rl (i := 3) (pc' := 174) (by decide +kernel) rfl ?_
    obtain ⟨q83, h5⟩ := h4
    obtain ⟨r84, h6⟩ := h5
    refine mwx_IF (ix := 154) (cnt := 1) (q := 146) (ce := 0) (sl := 0) (X := 1500) (Y := 1200000) (by decide +kernel) r84 rfl q83 (vwJx35411_next_0502b h6) (fun _ _ _ g => by obtain ⟨_, e9, -⟩ := g; cases e9) (fun v9 t85 i85 j85 g => ?_) (fun _ _ _ _ g => by obtain ⟨_, e9, -⟩ := g; cases e9)
    obtain ⟨v85, e9, h7⟩ := g; cases e9; clear h6
    refine mw_cst (ix := 20) (v := 1) (by decide +kernel) h7 (fun h8 => ?_); clear h7
    refine mw_rs (i := 4) (pc' := 184) (L' := [some (.ref l0), some (.ref l1), some (.int l2), some (.ref l3), some (.ref v85)]) (by decide +kernel) rfl rfl ?_
    refine mw_rl (i := 4) (pc' := 186) (by decide +kernel) rfl ?_
    refine mw_c (v := 0) (pc' := 187) (by decide +kernel) ?_
    refine mw_al (by decide +kernel) h8 (fun v86 h9 => ?_); clear h8
    refine mw_il (i := 2) (pc' := 189) (by decide +kernel) rfl ?_
    refine mw_if (ins := .if_icmp .eq 6) (t := 195) (pc' := 192) (by decide +kernel) rfl rfl rfl h9 (fun p10 h10 => ?_) (fun p10 h10 => ?_) <;> clear h9
    · refine mw_rl (i := 1) (pc' := 196) (by decide +kernel) rfl ?_
      refine mw_cS (i := 19) (pc' := 198) (by decide +kernel) ?_
      obtain ⟨q87, h11⟩ := h10
      obtain ⟨r88, h12⟩ := h11
      refine mwx_R (q := 157) (na := 2) (ce := 1) (sl := 1300) (X := 1500) (Y := 1200000) (as := [.ref (K 19), .ref l1]) (by decide +kernel) r88 rfl rfl (by rw [show mL 157 = 2 from by decide +kernel]; rfl) rfl (fun _ => rv_of q87 (by decide +kernel)) (fun z => absurd z (by decide +kernel)) (vwJ4_append_15ec4 h12) (fun v89 t89 i89 j89 h13 => ?_); clear h12
      refine mw_rl (i := 4) (pc' := 203) (by decide +kernel) rfl ?_
      refine mw_c (v := 1) (pc' := 204) (by decide +kernel) ?_
      refine mw_al (by decide +kernel) h13 (fun v90 h14 => ?_); clear h13
      obtain ⟨q91, h15⟩ := h14
      obtain ⟨r92, h16⟩ := h15
      refine mwx_R (q := 159) (na := 2) (ce := 1) (sl := 1300) (X := 1500) (Y := 1200000) (as := [.int v90, .ref v89]) (by decide +kernel) r92 rfl rfl (by rw [show mL 159 = 2 from by decide +kernel]; rfl) rfl (fun _ => rv_of q91 (by decide +kernel)) (fun z => absurd z (by decide +kernel)) (vwJ4_append_bf812 h16) (fun v93 t93 i93 j93 h17 => ?_); clear h16
      refine mw_c (v := 32) (pc' := 210) (by decide +kernel) ?_
      obtain ⟨q94, h18⟩ := h17
      obtain ⟨r95, h19⟩ := h18
      refine mwx_R (q := 158) (na := 2) (ce := 1) (sl := 1300) (X := 1500) (Y := 1200000) (as := [.int 32, .ref v93]) (by decide +kernel) r95 rfl rfl (by rw [show mL 158 = 2 from by decide +kernel]; rfl) rfl (fun _ => rv_of q94 (by decide +kernel)) (fun z => absurd z (by decide +kernel)) (vwJ4_append_cf468 h19) (fun v96 t96 i96 j96 h20 => ?_); clear h19
      refine mw_rl (i := 4) (pc' := 215) (by decide +kernel) rfl ?_
      refine mw_c (v := 2) (pc' := 216) (by decide +kernel) ?_
      refine mw_al (by decide +kernel) h20 (fun v97 h21 => ?_); clear h20
      obtain ⟨q98, h22⟩ := h21
      obtain ⟨r99, h23⟩ := h22
      refine mwx_R (q := 159) (na := 2) (ce := 1) (sl := 1300) (X := 1500) (Y := 1200000) (as := [.int v97, .ref v96]) (by decide +kernel) r99 rfl rfl (by rw [show mL 159 = 2 from by decide +kernel]; rfl) rfl (fun _ => rv_of q98 (by decide +kernel)) (fun z => absurd z (by decide +kernel)) (vwJ4_append_bf812 h23) (fun v100 t100 i100 j100 h24 => ?_); clear h23
      refine mw_c (v := 32) (pc' := 222) (by decide +kernel) ?_
      obtain ⟨q101, h25⟩ := h24
      obtain ⟨r102, h26⟩ := h25
      refine mwx_R (q := 158) (na := 2) (ce := 1) (sl := 1300) (X := 1500) (Y := 1200000) (as := [.int 32, .ref v100]) (by decide +kernel) r102 rfl rfl (by rw [show mL 158 = 2 from by decide +kernel]; rfl) rfl (fun _ => rv_of q101 (by decide +kernel)) (fun z => absurd z (by decide +kernel)) (vwJ4_append_cf468 h26) (fun v103 t103 i103 j103 h27 => ?_); clear h26
      refine mw_rl (i := 4) (pc' := 227) (by decide +kernel) rfl ?_
      refine mw_c (v := 3) (pc' := 228) (by decide +kernel) ?_
      refine mw_al (by decide +kernel) h27 (fun v104 h28 => ?_); clear h27
      obtain ⟨q105, h29⟩ := h28
      obtain ⟨r106, h30⟩ := h29
      refine mwx_R (q := 159) (na := 2) (ce := 1) (sl := 1300) (X := 1500) (Y := 1200000) (as := [.int v104, .ref v103]) (by decide +kernel) r106 rfl rfl (by rw [show mL 159 = 2 from by decide +kernel]; rfl) rfl (fun _ => rv_of q105 (by decide +kernel)) (fun z => absurd z (by decide +kernel)) (vwJ4_append_bf812 h30) (fun v107 t107 i107 j107 h31 => ?_); clear h30
      refine mw_c (v := 32) (pc' := 234) (by decide +kernel) ?_
      obtain ⟨q108, h32⟩ := h31
      obtain ⟨r109, h33⟩ := h32
      refine mwx_R (q := 158) (na := 2) (ce := 1) (sl := 1300) (X := 1500) (Y := 1200000) (as := [.int 32, .ref v107]) (by decide +kernel) r109 rfl rfl (by rw [show mL 158 = 2 from by decide +kernel]; rfl) rfl (fun _ => rv_of q108 (by decide +kernel)) (fun z => absurd z (by decide +kernel)) (vwJ4_append_cf468 h33) (fun v110 t110 i110 j110 h34 => ?_); clear h33
      refine mw_rl (i := 4) (pc' := 239) (by decide +kernel) rfl ?_
      refine mw_c (v := 4) (pc' := 240) (by decide +kernel) ?_
      refine mw_al (by decide +kernel) h34 (fun v111 h35 => ?_); clear h34
      refine mw_if (ins := .ifCond .ge 8) (t := 249) (pc' := 244) (by decide +kernel) rfl rfl rfl h35 (fun p36 h36 => ?_) (fun p36 h36 => ?_) <;> clear h35
      · obtain ⟨r112, h37⟩ := h36
        refine mw_new (ix := 123) (t := 13) (N := 4) (X := 1500) (Y := 1200000) (by decide +kernel) r112 h37 (fun a113 t113 i113 j113 h38 => ?_); clear h37
        refine mw_a (ins := .dup) (pc' := 253) (by decide +kernel) rfl ?_
        obtain ⟨r114, h39⟩ := h38
        refine mwx_V (q := 156) (na := 1) (ce := 1) (sl := 16) (X := 1500) (Y := 1200000) (as := [.ref a113]) (by decide +kernel) r114 rfl rfl (by rw [show mL 156 = 1 from by decide +kernel]; rfl) rfl (fun z => absurd z (by decide +kernel)) (fun _ => ⟨_, rfl⟩) (vwJ4_init_da8c8 h39) (fun t115 i115 j115 h40 => ?_); clear h39
        refine mw_cS (i := 0) (pc' := 258) (by decide +kernel) ?_
        obtain ⟨q116, h41⟩ := h40
        obtain ⟨r117, h42⟩ := h41
        refine mwx_R (q := 157) (na := 2) (ce := 1) (sl := 1300) (X := 1500) (Y := 1200000) (as := [.ref (K 0), .ref a113]) (by decide +kernel) r117 rfl rfl (by rw [show mL 157 = 2 from by decide +kernel]; rfl) rfl (fun _ => rv_of q116 (by decide +kernel)) (fun z => absurd z (by decide +kernel)) (vwJ4_append_15ec4 h42) (fun v118 t118 i118 j118 h43 => ?_); clear h42
        refine mw_rl (i := 4) (pc' := 263) (by decide +kernel) rfl ?_
        refine mw_c (v := 4) (pc' := 264) (by decide +kernel) ?_
        refine mw_al (by decide +kernel) h43 (fun v119 h44 => ?_); clear h43
        obtain ⟨q120, h45⟩ := h44
        obtain ⟨r121, h46⟩ := h45
        refine mwx_R (q := 159) (na := 2) (ce := 1) (sl := 1300) (X := 1500) (Y := 1200000) (as := [.int v119, .ref v118]) (by decide +kernel) r121 rfl rfl (by rw [show mL 159 = 2 from by decide +kernel]; rfl) rfl (fun _ => rv_of q120 (by decide +kernel)) (fun z => absurd z (by decide +kernel)) (vwJ4_append_bf812 h46) (fun v122 t122 i122 j122 h47 => ?_); clear h46
        obtain ⟨q123, h48⟩ := h47
        obtain ⟨r124, h49⟩ := h48
        refine mwx_R (q := 160) (na := 1) (ce := 2) (sl := 1304) (X := 1500) (Y := 1200000) (as := [.ref v122]) (by decide +kernel) r124 rfl rfl (by rw [show mL 160 = 1 from by decide +kernel]; rfl) rfl (fun _ => rv_of q123 (by decide +kernel)) (fun z => absurd z (by decide +kernel)) (vwJ4_toString_0e30d h49) (fun v125 t125 i125 j125 h50 => ?_); clear h49
        exact (vwX11_said_b271 hk164 hk295) h50
      · refine mw_cS (i := 15) (pc' := 246) (by decide +kernel) ?_
        refine mw_go (t := 271) (by decide +kernel) ?_
        exact (vwX11_said_b271 hk164 hk295) h36
    · refine mw_go (t := 164) (by decide +kernel) ?_
      exact hk164 h10
def wX11_said_l164 (K J : Nat → Nat) (fu : Nat) (F : VF) (k295 : HS → HI → HR → Nat → Nat → Nat → Nat → Int32 → Prop) : Nat → HS → HI → HR → Nat → Nat → Nat → Nat → Int32 → Nat → Prop
  | 0 => fun _ _ _ _ _ _ _ _ _ => False
  | n + 1 => wX11_said_b164 K J fu F (wX11_said_l164 K J fu F k295 n) k295
theorem vwX11_said_l164 {l : Launch} {K J : Nat → Nat} {fu : Nat} {F : VF} {k295 : HS → HI → HR → Nat → Nat → Nat → Nat → Int32 → Prop} (hk295 : ∀ {sh : HS} {I : HI} {R : HR} {c1 : Nat} {c2 : Nat} {l0 : Nat} {l1 : Nat} {l2 : Int32} {d3 d4 : Option Value}, k295 sh I R c1 c2 l0 l1 l2 → MW l K J 129 295 [some (.ref l0), some (.ref l1), some (.int l2), d3, d4] [] sh I R (c1, c2) F) : ∀ (n : Nat) {sh : HS} {I : HI} {R : HR} {c1 : Nat} {c2 : Nat} {l0 : Nat} {l1 : Nat} {l2 : Int32} {l3 : Nat} {d4 : Option Value} (_ : wX11_said_l164 K J fu F k295 n sh I R c1 c2 l0 l1 l2 l3), MW l K J 129 164 [some (.ref l0), some (.ref l1), some (.int l2), some (.ref l3), d4] [] sh I R (c1, c2) F := by
  intro n
  induction n with
  | zero => exact fun h0 => h0.elim
  | succ n ih => exact fun h0 => vwX11_said_b164 ih hk295 h0
def wX11_said_b295 (K J : Nat → Nat) (fu : Nat) (F : VF) (k53 : HS → HI → HR → Nat → Nat → Nat → Nat → Int32 → Prop) (sh : HS) (I : HI) (R : HR) (c1 : Nat) (c2 : Nat) (l0 : Nat) (l1 : Nat) (l2 : Int32) : Prop :=
  k53 sh I R c1 c2 l0 l1 (l2 + 1)
theorem vwX11_said_b295 {l : Launch} {K J : Nat → Nat} {fu : Nat} {F : VF} {k53 : HS → HI → HR → Nat → Nat → Nat → Nat → Int32 → Prop} (hk53 : ∀ {sh : HS} {I : HI} {R : HR} {c1 : Nat} {c2 : Nat} {l0 : Nat} {l1 : Nat} {l2 : Int32} {d3 d4 : Option Value}, k53 sh I R c1 c2 l0 l1 l2 → MW l K J 129 53 [some (.ref l0), some (.ref l1), some (.int l2), d3, d4] [] sh I R (c1, c2) F) {sh : HS} {I : HI} {R : HR} {c1 : Nat} {c2 : Nat} {l0 : Nat} {l1 : Nat} {l2 : Int32} {d3 d4 : Option Value} (h0 : wX11_said_b295 K J fu F k53 sh I R c1 c2 l0 l1 l2) : MW l K J 129 295 [some (.ref l0), some (.ref l1), some (.int l2), d3, d4] [] sh I R (c1, c2) F := by
  unfold wX11_said_b295 at h0
  refine mw_inc (i := 2) (z := 1) (pc' := 298) (L' := [some (.ref l0), some (.ref l1), some (.int (l2 + 1)), d3, d4]) (by decide +kernel) rfl rfl rfl ?_
  refine mw_go (t := 53) (by decide +kernel) ?_
  exact hk53 h0
def wX11_said_b156 (K J : Nat → Nat) (fu : Nat) (F : VF) (k53 : HS → HI → HR → Nat → Nat → Nat → Nat → Int32 → Prop) (sh : HS) (I : HI) (R : HR) (c1 : Nat) (c2 : Nat) (l0 : Nat) (l1 : Nat) (l2 : Int32) : Prop :=
  wB (oR sh R l0 9 3) fun v76 =>
  rcvB sh v76 10 = true ∧
  (c1 + 1 ≤ 1500 ∧ c2 + 4 ≤ 1200000) ∧
  wJx4a65c_iterator_32c93 K J fu sh I R v76 (qwR fun v79 t79 i79 j79 =>
  (wX11_said_l164 K J fu F (wX11_said_b295 K J fu F k53) fu) t79 i79 j79 (c1 + 1) (c2 + 4) l0 l1 l2 v79)
theorem vwX11_said_b156 {l : Launch} {K J : Nat → Nat} {fu : Nat} {F : VF} {k53 : HS → HI → HR → Nat → Nat → Nat → Nat → Int32 → Prop} (hk53 : ∀ {sh : HS} {I : HI} {R : HR} {c1 : Nat} {c2 : Nat} {l0 : Nat} {l1 : Nat} {l2 : Int32} {d3 d4 : Option Value}, k53 sh I R c1 c2 l0 l1 l2 → MW l K J 129 53 [some (.ref l0), some (.ref l1), some (.int l2), d3, d4] [] sh I R (c1, c2) F) {sh : HS} {I : HI} {R : HR} {c1 : Nat} {c2 : Nat} {l0 : Nat} {l1 : Nat} {l2 : Int32} {d3 d4 : Option Value} (h0 : wX11_said_b156 K J fu F k53 sh I R c1 c2 l0 l1 l2) : MW l K J 129 156 [some (.ref l0), some (.ref l1), some (.int l2), d3, d4] [] sh I R (c1, c2) F := by
  unfold wX11_said_b156 at h0
  refine mw_rl (i := 0) (pc' := 157) (by decide +kernel) rfl ?_
  refine mw_fR (ix := 10) (t := 9) (j := 3) (md := 0) (by decide +kernel) h0 (fun v76 h1 => ?_); clear h0
  obtain ⟨q77, h2⟩ := h1
  obtain ⟨r78, h3⟩ := h2
  refine mwx_R (q := 143) (na := 1) (ce := 1) (sl := 4) (X := 1500) (Y := 1200000) (as := [.ref v76]) (by decide +kernel) r78 rfl rfl (by rw [show mL 143 = 1 from by decide +kernel]; rfl) rfl (fun _ => rv_of q77 (by decide +kernel)) (fun z => absurd z (by decide +kernel)) (vwJx4a65c_iterator_32c93 h3) (fun v79 t79 i79 j79 h4 => ?_); clear h3
  refine mw_rs (i := 3) (pc' := 164) (L' := [some (.ref l0), some (.ref l1), some (.int l2), some (.ref v79), d4]) (by decide +kernel) rfl rfl ?_
  exact (vwX11_said_l164 (vwX11_said_b295 hk53) fu) h4
def wX11_said_b53 (K J : Nat → Nat) (fu : Nat) (F : VF) (k53 : HS → HI → HR → Nat → Nat → Nat → Nat → Int32 → Prop) (sh : HS) (I : HI) (R : HR) (c1 : Nat) (c2 : Nat) (l0 : Nat) (l1 : Nat) (l2 : Int32) : Prop :=
  wB (oR sh R l0 9 4) fun v29 =>
  wB (oLn sh v29) fun v30 =>
  if v30 ≤ l2 then
    (rcvB sh l1 13 = true ∧
    (c1 + 2 ≤ 1500 ∧ c2 + 1304 ≤ 1200000) ∧
    wJ4_toString_0e30d K J fu sh I R l1 (qwR fun v33 t33 i33 j33 =>
    ((c1 + 2) ≤ 1500 ∧ (c2 + 1304) ≤ 1200000) ∧
    F (.inl (some (.ref v33))) t33 i33 j33))
  else
    (rcvB sh l1 13 = true ∧
    (c1 + 1 ≤ 1500 ∧ c2 + 1300 ≤ 1200000) ∧
    wJ4_append_15ec4 K J fu sh I R l1 (K 17) (qwR fun v37 t37 i37 j37 =>
    wB (oR t37 j37 l0 9 4) fun v38 =>
    wB (oA2 t37 i37 v38 l2) fun v39 =>
    rcvB t37 v37 13 = true ∧
    ((c1 + 1) + 1 ≤ 1500 ∧ (c2 + 1300) + 1300 ≤ 1200000) ∧
    wJ4_append_bf812 K J fu t37 i37 j37 v37 v39 (qwR fun v42 t42 i42 j42 =>
    rcvB t42 v42 13 = true ∧
    (((c1 + 1) + 1) + 1 ≤ 1500 ∧ ((c2 + 1300) + 1300) + 1300 ≤ 1200000) ∧
    wJ4_append_cf468 K J fu t42 i42 j42 v42 59 (qwR fun v45 t45 i45 j45 =>
    (wX11_said_l85 K J fu F (wX11_said_b156 K J fu F k53) fu) t45 i45 j45 (((c1 + 1) + 1) + 1) (((c2 + 1300) + 1300) + 1300) l0 l1 l2 0))))
theorem vwX11_said_b53 {l : Launch} {K J : Nat → Nat} {fu : Nat} {F : VF} {k53 : HS → HI → HR → Nat → Nat → Nat → Nat → Int32 → Prop} (hk53 : ∀ {sh : HS} {I : HI} {R : HR} {c1 : Nat} {c2 : Nat} {l0 : Nat} {l1 : Nat} {l2 : Int32} {d3 d4 : Option Value}, k53 sh I R c1 c2 l0 l1 l2 → MW l K J 129 53 [some (.ref l0), some (.ref l1), some (.int l2), d3, d4] [] sh I R (c1, c2) F) {sh : HS} {I : HI} {R : HR} {c1 : Nat} {c2 : Nat} {l0 : Nat} {l1 : Nat} {l2 : Int32} {d3 d4 : Option Value} (h0 : wX11_said_b53 K J fu F k53 sh I R c1 c2 l0 l1 l2) : MW l K J 129 53 [some (.ref l0), some (.ref l1), some (.int l2), d3, d4] [] sh I R (c1, c2) F := by
  unfold wX11_said_b53 at h0
  refine mw_il (i := 2) (pc' := 54) (by decide +kernel) rfl ?_
  refine mw_rl (i := 0) (pc' := 55) (by decide +kernel) rfl ?_
  refine mw_fR (ix := 16) (t := 9) (j := 4) (md := 0) (by decide +kernel) h0 (fun v29 h1 => ?_); clear h0
  refine mw_ln (by decide +kernel) h1 (fun v30 h2 => ?_); clear h1
  refine mw_if (ins := .if_icmp .ge 242) (t := 301) (pc' := 62) (by decide +kernel) rfl rfl rfl h2 (fun p3 h3 => ?_) (fun p3 h3 => ?_) <;> clear h2
  · refine mw_rl (i := 1) (pc' := 302) (by decide +kernel) rfl ?_
    obtain ⟨q31, h4⟩ := h3
    obtain ⟨r32, h5⟩ := h4
    refine mwx_R (q := 160) (na := 1) (ce := 2) (sl := 1304) (X := 1500) (Y := 1200000) (as := [.ref l1]) (by decide +kernel) r32 rfl rfl (by rw [show mL 160 = 1 from by decide +kernel]; rfl) rfl (fun _ => rv_of q31 (by decide +kernel)) (fun z => absurd z (by decide +kernel)) (vwJ4_toString_0e30d h5) (fun v33 t33 i33 j33 h6 => ?_); clear h5
    obtain ⟨r34, h7⟩ := h6
    exact mw_rr (v := some v33) (X := 1500) (Y := 1200000) (by decide +kernel) r34 h7
  · refine mw_rl (i := 1) (pc' := 63) (by decide +kernel) rfl ?_
    refine mw_cS (i := 17) (pc' := 65) (by decide +kernel) ?_
    obtain ⟨q35, h4⟩ := h3
    obtain ⟨r36, h5⟩ := h4
    refine mwx_R (q := 157) (na := 2) (ce := 1) (sl := 1300) (X := 1500) (Y := 1200000) (as := [.ref (K 17), .ref l1]) (by decide +kernel) r36 rfl rfl (by rw [show mL 157 = 2 from by decide +kernel]; rfl) rfl (fun _ => rv_of q35 (by decide +kernel)) (fun z => absurd z (by decide +kernel)) (vwJ4_append_15ec4 h5) (fun v37 t37 i37 j37 h6 => ?_); clear h5
    refine mw_rl (i := 0) (pc' := 69) (by decide +kernel) rfl ?_
    refine mw_fR (ix := 16) (t := 9) (j := 4) (md := 0) (by decide +kernel) h6 (fun v38 h7 => ?_); clear h6
    refine mw_il (i := 2) (pc' := 73) (by decide +kernel) rfl ?_
    refine mw_al (by decide +kernel) h7 (fun v39 h8 => ?_); clear h7
    obtain ⟨q40, h9⟩ := h8
    obtain ⟨r41, h10⟩ := h9
    refine mwx_R (q := 159) (na := 2) (ce := 1) (sl := 1300) (X := 1500) (Y := 1200000) (as := [.int v39, .ref v37]) (by decide +kernel) r41 rfl rfl (by rw [show mL 159 = 2 from by decide +kernel]; rfl) rfl (fun _ => rv_of q40 (by decide +kernel)) (fun z => absurd z (by decide +kernel)) (vwJ4_append_bf812 h10) (fun v42 t42 i42 j42 h11 => ?_); clear h10
    refine mw_c (v := 59) (pc' := 79) (by decide +kernel) ?_
    obtain ⟨q43, h12⟩ := h11
    obtain ⟨r44, h13⟩ := h12
    refine mwx_R (q := 158) (na := 2) (ce := 1) (sl := 1300) (X := 1500) (Y := 1200000) (as := [.int 59, .ref v42]) (by decide +kernel) r44 rfl rfl (by rw [show mL 158 = 2 from by decide +kernel]; rfl) rfl (fun _ => rv_of q43 (by decide +kernel)) (fun z => absurd z (by decide +kernel)) (vwJ4_append_cf468 h13) (fun v45 t45 i45 j45 h14 => ?_); clear h13
    refine mw_pop (by decide +kernel) rfl ?_
    refine mw_c (v := 0) (pc' := 84) (by decide +kernel) ?_
    refine mw_is (i := 3) (pc' := 85) (L' := [some (.ref l0), some (.ref l1), some (.int l2), some (.int 0), d4]) (by decide +kernel) rfl rfl ?_
    exact (vwX11_said_l85 (vwX11_said_b156 hk53) fu) h14
def wX11_said_l53 (K J : Nat → Nat) (fu : Nat) (F : VF) : Nat → HS → HI → HR → Nat → Nat → Nat → Nat → Int32 → Prop
  | 0 => fun _ _ _ _ _ _ _ _ => False
  | n + 1 => wX11_said_b53 K J fu F (wX11_said_l53 K J fu F n)
theorem vwX11_said_l53 {l : Launch} {K J : Nat → Nat} {fu : Nat} {F : VF} : ∀ (n : Nat) {sh : HS} {I : HI} {R : HR} {c1 : Nat} {c2 : Nat} {l0 : Nat} {l1 : Nat} {l2 : Int32} {d3 d4 : Option Value} (_ : wX11_said_l53 K J fu F n sh I R c1 c2 l0 l1 l2), MW l K J 129 53 [some (.ref l0), some (.ref l1), some (.int l2), d3, d4] [] sh I R (c1, c2) F := by
  intro n
  induction n with
  | zero => exact fun h0 => h0.elim
  | succ n ih => exact fun h0 => vwX11_said_b53 ih h0
def wX11_said (K J : Nat → Nat) (fu : Nat) (sh : HS) (I : HI) (R : HR) (l0 : Nat) (F : VF) : Prop :=
  (0 + 1 ≤ 1500 ∧ 0 + 4 ≤ 1200000) ∧
  wNew sh I R 13 4 fun a2 t2 i2 j2 =>
  ((0 + 1) + 1 ≤ 1500 ∧ (0 + 4) + 16 ≤ 1200000) ∧
  wJ4_init_da8c8 K J fu t2 i2 j2 a2 (qwV fun t4 i4 j4 =>
  rcvB t4 a2 13 = true ∧
  (((0 + 1) + 1) + 1 ≤ 1500 ∧ ((0 + 4) + 16) + 1300 ≤ 1200000) ∧
  wJ4_append_15ec4 K J fu t4 i4 j4 a2 (K 9) (qwR fun v7 t7 i7 j7 =>
  wB (oI t7 i7 l0 9 0) fun v8 =>
  rcvB t7 v7 13 = true ∧
  ((((0 + 1) + 1) + 1) + 1 ≤ 1500 ∧ (((0 + 4) + 16) + 1300) + 1300 ≤ 1200000) ∧
  wJ4_append_bf812 K J fu t7 i7 j7 v7 v8 (qwR fun v11 t11 i11 j11 =>
  rcvB t11 v11 13 = true ∧
  (((((0 + 1) + 1) + 1) + 1) + 1 ≤ 1500 ∧ ((((0 + 4) + 16) + 1300) + 1300) + 1300 ≤ 1200000) ∧
  wJ4_append_cf468 K J fu t11 i11 j11 v11 32 (qwR fun v14 t14 i14 j14 =>
  wB (oI t14 i14 l0 9 1) fun v15 =>
  rcvB t14 v14 13 = true ∧
  ((((((0 + 1) + 1) + 1) + 1) + 1) + 1 ≤ 1500 ∧ (((((0 + 4) + 16) + 1300) + 1300) + 1300) + 1300 ≤ 1200000) ∧
  wJ4_append_bf812 K J fu t14 i14 j14 v14 v15 (qwR fun v18 t18 i18 j18 =>
  rcvB t18 v18 13 = true ∧
  (((((((0 + 1) + 1) + 1) + 1) + 1) + 1) + 1 ≤ 1500 ∧ ((((((0 + 4) + 16) + 1300) + 1300) + 1300) + 1300) + 1300 ≤ 1200000) ∧
  wJ4_append_cf468 K J fu t18 i18 j18 v18 32 (qwR fun v21 t21 i21 j21 =>
  wB (oI t21 i21 l0 9 2) fun v22 =>
  rcvB t21 v21 13 = true ∧
  ((((((((0 + 1) + 1) + 1) + 1) + 1) + 1) + 1) + 1 ≤ 1500 ∧ (((((((0 + 4) + 16) + 1300) + 1300) + 1300) + 1300) + 1300) + 1300 ≤ 1200000) ∧
  wJ4_append_bf812 K J fu t21 i21 j21 v21 v22 (qwR fun v25 t25 i25 j25 =>
  rcvB t25 v25 13 = true ∧
  (((((((((0 + 1) + 1) + 1) + 1) + 1) + 1) + 1) + 1) + 1 ≤ 1500 ∧ ((((((((0 + 4) + 16) + 1300) + 1300) + 1300) + 1300) + 1300) + 1300) + 1300 ≤ 1200000) ∧
  wJ4_append_15ec4 K J fu t25 i25 j25 v25 (K 2) (qwR fun v28 t28 i28 j28 =>
  (wX11_said_l53 K J fu F fu) t28 i28 j28 (((((((((0 + 1) + 1) + 1) + 1) + 1) + 1) + 1) + 1) + 1) (((((((((0 + 4) + 16) + 1300) + 1300) + 1300) + 1300) + 1300) + 1300) + 1300) l0 a2 0))))))))
theorem vwX11_said {l : Launch} {K J : Nat → Nat} {fu : Nat} {sh : HS} {I : HI} {R : HR} {l0 : Nat} {F : VF} (h0 : wX11_said K J fu sh I R l0 F) : MW l K J 129 0 (ent (mL 129) [.ref l0]) [] sh I R (0, 0) F := by
  unfold wX11_said at h0
  have ml : mL 129 = 5 := by decide +kernel
  rw [ml]
  show MW l K J 129 0 [some (.ref l0), none, none, none, none] [] sh I R (0, 0) F
  obtain ⟨r1, h1⟩ := h0
  refine mw_new (ix := 123) (t := 13) (N := 4) (X := 1500) (Y := 1200000) (by decide +kernel) r1 h1 (fun a2 t2 i2 j2 h2 => ?_); clear h1
  refine mw_a (ins := .dup) (pc' := 4) (by decide +kernel) rfl ?_
  obtain ⟨r3, h3⟩ := h2
  refine mwx_V (q := 156) (na := 1) (ce := 1) (sl := 16) (X := 1500) (Y := 1200000) (as := [.ref a2]) (by decide +kernel) r3 rfl rfl (by rw [show mL 156 = 1 from by decide +kernel]; rfl) rfl (fun z => absurd z (by decide +kernel)) (fun _ => ⟨_, rfl⟩) (vwJ4_init_da8c8 h3) (fun t4 i4 j4 h4 => ?_); clear h3
  refine mw_rs (i := 1) (pc' := 8) (L' := [some (.ref l0), some (.ref a2), none, none, none]) (by decide +kernel) rfl rfl ?_
  refine mw_rl (i := 1) (pc' := 9) (by decide +kernel) rfl ?_
  refine mw_cS (i := 9) (pc' := 11) (by decide +kernel) ?_
  obtain ⟨q5, h5⟩ := h4
  obtain ⟨r6, h6⟩ := h5
  refine mwx_R (q := 157) (na := 2) (ce := 1) (sl := 1300) (X := 1500) (Y := 1200000) (as := [.ref (K 9), .ref a2]) (by decide +kernel) r6 rfl rfl (by rw [show mL 157 = 2 from by decide +kernel]; rfl) rfl (fun _ => rv_of q5 (by decide +kernel)) (fun z => absurd z (by decide +kernel)) (vwJ4_append_15ec4 h6) (fun v7 t7 i7 j7 h7 => ?_); clear h6
  refine mw_rl (i := 0) (pc' := 15) (by decide +kernel) rfl ?_
  refine mw_fI (ix := 82) (t := 9) (j := 0) (ty := 0) (md := 0) (by decide +kernel) (by decide) h7 (fun v8 h8 => ?_); clear h7
  obtain ⟨q9, h9⟩ := h8
  obtain ⟨r10, h10⟩ := h9
  refine mwx_R (q := 159) (na := 2) (ce := 1) (sl := 1300) (X := 1500) (Y := 1200000) (as := [.int v8, .ref v7]) (by decide +kernel) r10 rfl rfl (by rw [show mL 159 = 2 from by decide +kernel]; rfl) rfl (fun _ => rv_of q9 (by decide +kernel)) (fun z => absurd z (by decide +kernel)) (vwJ4_append_bf812 h10) (fun v11 t11 i11 j11 h11 => ?_); clear h10
  refine mw_c (v := 32) (pc' := 23) (by decide +kernel) ?_
  obtain ⟨q12, h12⟩ := h11
  obtain ⟨r13, h13⟩ := h12
  refine mwx_R (q := 158) (na := 2) (ce := 1) (sl := 1300) (X := 1500) (Y := 1200000) (as := [.int 32, .ref v11]) (by decide +kernel) r13 rfl rfl (by rw [show mL 158 = 2 from by decide +kernel]; rfl) rfl (fun _ => rv_of q12 (by decide +kernel)) (fun z => absurd z (by decide +kernel)) (vwJ4_append_cf468 h13) (fun v14 t14 i14 j14 h14 => ?_); clear h13
  refine mw_rl (i := 0) (pc' := 27) (by decide +kernel) rfl ?_
  refine mw_fI (ix := 67) (t := 9) (j := 1) (ty := 0) (md := 0) (by decide +kernel) (by decide) h14 (fun v15 h15 => ?_); clear h14
  obtain ⟨q16, h16⟩ := h15
  obtain ⟨r17, h17⟩ := h16
  refine mwx_R (q := 159) (na := 2) (ce := 1) (sl := 1300) (X := 1500) (Y := 1200000) (as := [.int v15, .ref v14]) (by decide +kernel) r17 rfl rfl (by rw [show mL 159 = 2 from by decide +kernel]; rfl) rfl (fun _ => rv_of q16 (by decide +kernel)) (fun z => absurd z (by decide +kernel)) (vwJ4_append_bf812 h17) (fun v18 t18 i18 j18 h18 => ?_); clear h17
  refine mw_c (v := 32) (pc' := 35) (by decide +kernel) ?_
  obtain ⟨q19, h19⟩ := h18
  obtain ⟨r20, h20⟩ := h19
  refine mwx_R (q := 158) (na := 2) (ce := 1) (sl := 1300) (X := 1500) (Y := 1200000) (as := [.int 32, .ref v18]) (by decide +kernel) r20 rfl rfl (by rw [show mL 158 = 2 from by decide +kernel]; rfl) rfl (fun _ => rv_of q19 (by decide +kernel)) (fun z => absurd z (by decide +kernel)) (vwJ4_append_cf468 h20) (fun v21 t21 i21 j21 h21 => ?_); clear h20
  refine mw_rl (i := 0) (pc' := 39) (by decide +kernel) rfl ?_
  refine mw_fI (ix := 63) (t := 9) (j := 2) (ty := 0) (md := 0) (by decide +kernel) (by decide) h21 (fun v22 h22 => ?_); clear h21
  obtain ⟨q23, h23⟩ := h22
  obtain ⟨r24, h24⟩ := h23
  refine mwx_R (q := 159) (na := 2) (ce := 1) (sl := 1300) (X := 1500) (Y := 1200000) (as := [.int v22, .ref v21]) (by decide +kernel) r24 rfl rfl (by rw [show mL 159 = 2 from by decide +kernel]; rfl) rfl (fun _ => rv_of q23 (by decide +kernel)) (fun z => absurd z (by decide +kernel)) (vwJ4_append_bf812 h24) (fun v25 t25 i25 j25 h25 => ?_); clear h24
  refine mw_cS (i := 2) (pc' := 47) (by decide +kernel) ?_
  obtain ⟨q26, h26⟩ := h25
  obtain ⟨r27, h27⟩ := h26
  refine mwx_R (q := 157) (na := 2) (ce := 1) (sl := 1300) (X := 1500) (Y := 1200000) (as := [.ref (K 2), .ref v25]) (by decide +kernel) r27 rfl rfl (by rw [show mL 157 = 2 from by decide +kernel]; rfl) rfl (fun _ => rv_of q26 (by decide +kernel)) (fun z => absurd z (by decide +kernel)) (vwJ4_append_15ec4 h27) (fun v28 t28 i28 j28 h28 => ?_); clear h27
  refine mw_pop (by decide +kernel) rfl ?_
  refine mw_c (v := 0) (pc' := 52) (by decide +kernel) ?_
  refine mw_is (i := 2) (pc' := 53) (L' := [some (.ref l0), some (.ref a2), some (.int 0), none, none]) (by decide +kernel) rfl rfl ?_
  exact (vwX11_said_l53 fu) h28
