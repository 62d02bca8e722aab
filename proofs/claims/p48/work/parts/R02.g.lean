/- ('J5', 'init_d00df') -/
def wJ5_init_d00df (K J : Nat → Nat) (fu : Nat) (sh : HS) (I : HI) (R : HR) (l0 : Nat) (l1 : Int32) (F : VF) : Prop :=
  (0 ≤ 1 ∧ 0 ≤ 16) ∧
  if (1 : Int32) = 0 then
    (False)
  else
    ((¬ l1 < 0 ∧ l1.toNatClampNeg < 100000) ∧
    (0 + 1 ≤ 1 ∧ 0 + l1.toNatClampNeg ≤ 16) ∧
    wNewI sh I 21 l1.toNatClampNeg fun a2 t2 i2 =>
    wB (oQ t2 R l0 13 0 a2) fun v4 =>
    wB (oPB t2 i2 l0 13 1 0) fun v5 =>
    ((0 + 1) ≤ 1 ∧ (0 + l1.toNatClampNeg) ≤ 16) ∧
    F (.inl none) t2 v5 v4)
theorem vwJ5_init_d00df {l : Launch} {K J : Nat → Nat} {fu : Nat} {sh : HS} {I : HI} {R : HR} {l0 : Nat} {l1 : Int32} {F : VF} (h0 : wJ5_init_d00df K J fu sh I R l0 l1 F) : MW l K J 197 0 (ent (mL 197) [.ref l0, .int l1]) [] sh I R (0, 0) F := by
  unfold wJ5_init_d00df at h0
  have ml : mL 197 = 2 := by decide +kernel
  rw [ml]
  show MW l K J 197 0 [some (.ref l0), some (.int l1)] [] sh I R (0, 0) F
  refine mw_rl (i := 0) (pc' := 1) (by decide +kernel) rfl ?_
  obtain ⟨r1, h1⟩ := h0
  refine mw_oin (ix := 3) (X := 1) (Y := 16) (by decide +kernel) rfl r1 ?_
  refine mw_gs0 (pc' := 7) (by decide +kernel) ?_
  refine mw_if (ins := .ifCond .eq 18) (t := 25) (pc' := 10) (by decide +kernel) rfl rfl rfl h1 (fun p2 h2 => ?_) (fun p2 h2 => ?_) <;> clear h1
  · refine mw_rl (i := 0) (pc' := 26) (by decide +kernel) rfl ?_
    refine mw_il (i := 1) (pc' := 27) (by decide +kernel) rfl ?_
    exact h2.elim
  · refine mw_rl (i := 0) (pc' := 11) (by decide +kernel) rfl ?_
    refine mw_il (i := 1) (pc' := 12) (by decide +kernel) rfl ?_
    obtain ⟨q2, h3⟩ := h2
    obtain ⟨r3, h4⟩ := h3
    refine mw_nwb (X := 1) (Y := 16) (by decide +kernel) q2 r3 h4 (fun a2 t2 i2 h5 => ?_); clear h4
    refine mw_pR (ix := 15) (t := 13) (j := 0) (md := 0) (by decide +kernel) h5 (fun v4 h6 => ?_); clear h5
    refine mw_rl (i := 0) (pc' := 18) (by decide +kernel) rfl ?_
    refine mw_c (v := 0) (pc' := 19) (by decide +kernel) ?_
    refine mw_pB (ix := 22) (t := 13) (j := 1) (md := 0) (by decide +kernel) h6 (fun v5 h7 => ?_); clear h6
    refine mw_go (t := 38) (by decide +kernel) ?_
    obtain ⟨r6, h8⟩ := h7
    exact mw_rv (X := 1) (Y := 16) (by decide +kernel) r6 h8
/- ('J4', 'init_da8c8') -/
def wJ4_init_da8c8 (K J : Nat → Nat) (fu : Nat) (sh : HS) (I : HI) (R : HR) (l0 : Nat) (F : VF) : Prop :=
  (0 + 1 ≤ 1 ∧ 0 + 16 ≤ 16) ∧
  wJ5_init_d00df K J fu sh I R l0 16 (qwV fun t2 i2 j2 =>
  ((0 + 1) ≤ 1 ∧ (0 + 16) ≤ 16) ∧
  F (.inl none) t2 i2 j2)
theorem vwJ4_init_da8c8 {l : Launch} {K J : Nat → Nat} {fu : Nat} {sh : HS} {I : HI} {R : HR} {l0 : Nat} {F : VF} (h0 : wJ4_init_da8c8 K J fu sh I R l0 F) : MW l K J 156 0 (ent (mL 156) [.ref l0]) [] sh I R (0, 0) F := by
  unfold wJ4_init_da8c8 at h0
  have ml : mL 156 = 1 := by decide +kernel
  rw [ml]
  show MW l K J 156 0 [some (.ref l0)] [] sh I R (0, 0) F
  refine mw_rl (i := 0) (pc' := 1) (by decide +kernel) rfl ?_
  refine mw_c (v := 16) (pc' := 3) (by decide +kernel) ?_
  obtain ⟨r1, h1⟩ := h0
  refine mwx_V (q := 197) (na := 2) (ce := 1) (sl := 16) (X := 1) (Y := 16) (as := [.int 16, .ref l0]) (by decide +kernel) r1 rfl rfl (by rw [show mL 197 = 2 from by decide +kernel]; rfl) rfl (fun z => absurd z (by decide +kernel)) (fun _ => ⟨_, rfl⟩) (vwJ5_init_d00df h1) (fun t2 i2 j2 h2 => ?_); clear h1
  obtain ⟨r3, h3⟩ := h2
  exact mw_rv (X := 1) (Y := 16) (by decide +kernel) r3 h3
/- ('J0', 'coder_7d493') -/
def wJ0_coder_7d493_b14 (K J : Nat → Nat) (fu : Nat) (F : VF) (sh : HS) (I : HI) (R : HR) (s0 : Int32) : Prop :=
  narrow .byte (.int s0) = .int s0 ∧ F (.inl (some (.int s0))) sh I R
theorem vwJ0_coder_7d493_b14 {l : Launch} {K J : Nat → Nat} {fu : Nat} {F : VF} {sh : HS} {I : HI} {R : HR} {s0 : Int32} {d0 : Option Value} (h0 : wJ0_coder_7d493_b14 K J fu F sh I R s0) : MW l K J 170 14 [d0] [.int s0] sh I R (0, 0) F := by
  unfold wJ0_coder_7d493_b14 at h0
  exact mw_rn (ty := .byte) (X := 0) (Y := 0) (by decide +kernel) h0.1 ⟨Nat.le_refl _, Nat.le_refl _⟩ h0.2
def wJ0_coder_7d493 (K J : Nat → Nat) (fu : Nat) (sh : HS) (I : HI) (R : HR) (l0 : Nat) (F : VF) : Prop :=
  if (1 : Int32) = 0 then
    ((wJ0_coder_7d493_b14 K J fu F) sh I R 1)
  else
    (wB (oI2 sh I l0 14 1) fun v1 =>
    (wJ0_coder_7d493_b14 K J fu F) sh I R v1)
theorem vwJ0_coder_7d493 {l : Launch} {K J : Nat → Nat} {fu : Nat} {sh : HS} {I : HI} {R : HR} {l0 : Nat} {F : VF} (h0 : wJ0_coder_7d493 K J fu sh I R l0 F) : MW l K J 170 0 (ent (mL 170) [.ref l0]) [] sh I R (0, 0) F := by
  unfold wJ0_coder_7d493 at h0
  have ml : mL 170 = 1 := by decide +kernel
  rw [ml]
  show MW l K J 170 0 [some (.ref l0)] [] sh I R (0, 0) F
  refine mw_gs0 (pc' := 3) (by decide +kernel) ?_
  refine mw_if (ins := .ifCond .eq 10) (t := 13) (pc' := 6) (by decide +kernel) rfl rfl rfl h0 (fun p1 h1 => ?_) (fun p1 h1 => ?_) <;> clear h0
  · refine mw_c (v := 1) (pc' := 14) (by decide +kernel) ?_
    exact (vwJ0_coder_7d493_b14) h1
  · refine mw_rl (i := 0) (pc' := 7) (by decide +kernel) rfl ?_
    refine mw_fI2 (ix := 15) (t := 14) (j := 1) (ty := 3) (by decide +kernel) (by decide) h1 (fun v1 h2 => ?_); clear h1
    refine mw_go (t := 14) (by decide +kernel) ?_
    exact (vwJ0_coder_7d493_b14) h2
/- ('J0', 'length_8abf5') -/
def wJ0_length_8abf5 (K J : Nat → Nat) (fu : Nat) (sh : HS) (I : HI) (R : HR) (l0 : Nat) (F : VF) : Prop :=
  wB (oR2 sh R l0 14 0) fun v1 =>
  wB (oLn sh v1) fun v2 =>
  rcvB sh l0 14 = true ∧
  wJ0_coder_7d493 K J fu sh I R l0 (qwI fun v4 t4 i4 j4 =>
  F (.inl (some (.int (v2 >>> (v4 &&& 31))))) t4 i4 j4)
theorem vwJ0_length_8abf5 {l : Launch} {K J : Nat → Nat} {fu : Nat} {sh : HS} {I : HI} {R : HR} {l0 : Nat} {F : VF} (h0 : wJ0_length_8abf5 K J fu sh I R l0 F) : MW l K J 163 0 (ent (mL 163) [.ref l0]) [] sh I R (0, 0) F := by
  unfold wJ0_length_8abf5 at h0
  have ml : mL 163 = 1 := by decide +kernel
  rw [ml]
  show MW l K J 163 0 [some (.ref l0)] [] sh I R (0, 0) F
  refine mw_rl (i := 0) (pc' := 1) (by decide +kernel) rfl ?_
  refine mw_fR2 (ix := 9) (by decide +kernel) h0 (fun v1 h1 => ?_); clear h0
  refine mw_ln (by decide +kernel) h1 (fun v2 h2 => ?_); clear h1
  refine mw_rl (i := 0) (pc' := 6) (by decide +kernel) rfl ?_
  obtain ⟨q3, h3⟩ := h2
  refine mwx_I (q := 170) (na := 1) (ce := 0) (sl := 0) (X := 0) (Y := 0) (as := [.ref l0]) (by decide +kernel) ⟨Nat.le_refl _, Nat.le_refl _⟩ rfl rfl (by rw [show mL 170 = 1 from by decide +kernel]; rfl) rfl (fun _ => rv_of q3 (by decide +kernel)) (fun z => absurd z (by decide +kernel)) (vwJ0_coder_7d493 h3) (fun v4 t4 i4 j4 h4 => ?_); clear h3
  refine mw_a (ins := .ishr) (pc' := 10) (by decide +kernel) rfl ?_
  exact mw_ri (X := 0) (Y := 0) (by decide +kernel) ⟨Nat.le_refl _, Nat.le_refl _⟩ h4
/- ('J5', 'newCapacity_0f7a4') -/
def wJ5_newCapacity_0f7a4 (K J : Nat → Nat) (fu : Nat) (sh : HS) (I : HI) (R : HR) (l0 : Nat) (l1 : Int32) (F : VF) : Prop :=
  wB (oR sh R l0 13 0) fun v1 =>
  wB (oLn sh v1) fun v2 =>
  wB (oI sh I l0 13 1) fun v3 =>
  wB (oI sh I l0 13 1) fun v4 =>
  wJ8_newLength_cabcc K J fu sh I R v2 ((l1 <<< (v3 &&& 31)) - v2) (v2 + ((2 : Int32) <<< (v4 &&& 31))) (qwI fun v5 t5 i5 j5 =>
  if v5 = (2147483647 : Int32) then
    (False)
  else
    (wB (oI t5 i5 l0 13 1) fun v6 =>
    F (.inl (some (.int (v5 >>> (v6 &&& 31))))) t5 i5 j5))
theorem vwJ5_newCapacity_0f7a4 {l : Launch} {K J : Nat → Nat} {fu : Nat} {sh : HS} {I : HI} {R : HR} {l0 : Nat} {l1 : Int32} {F : VF} (h0 : wJ5_newCapacity_0f7a4 K J fu sh I R l0 l1 F) : MW l K J 200 0 (ent (mL 200) [.ref l0, .int l1]) [] sh I R (0, 0) F := by
  unfold wJ5_newCapacity_0f7a4 at h0
  have ml : mL 200 = 6 := by decide +kernel
  rw [ml]
  show MW l K J 200 0 [some (.ref l0), some (.int l1), none, none, none, none] [] sh I R (0, 0) F
  refine mw_rl (i := 0) (pc' := 1) (by decide +kernel) rfl ?_
  refine mw_fR (ix := 15) (t := 13) (j := 0) (md := 0) (by decide +kernel) h0 (fun v1 h1 => ?_); clear h0
  refine mw_ln (by decide +kernel) h1 (fun v2 h2 => ?_); clear h1
  refine mw_is (i := 2) (pc' := 6) (L' := [some (.ref l0), some (.int l1), some (.int v2), none, none, none]) (by decide +kernel) rfl rfl ?_
  refine mw_il (i := 1) (pc' := 7) (by decide +kernel) rfl ?_
  refine mw_rl (i := 0) (pc' := 8) (by decide +kernel) rfl ?_
  refine mw_fI (ix := 22) (t := 13) (j := 1) (ty := 3) (md := 0) (by decide +kernel) (by decide) h2 (fun v3 h3 => ?_); clear h2
  refine mw_a (ins := .ishl) (pc' := 12) (by decide +kernel) rfl ?_
  refine mw_is (i := 3) (pc' := 13) (L' := [some (.ref l0), some (.int l1), some (.int v2), some (.int (l1 <<< (v3 &&& 31))), none, none]) (by decide +kernel) rfl rfl ?_
  refine mw_il (i := 3) (pc' := 14) (by decide +kernel) rfl ?_
  refine mw_il (i := 2) (pc' := 15) (by decide +kernel) rfl ?_
  refine mw_a (ins := .isub) (pc' := 16) (by decide +kernel) rfl ?_
  refine mw_is (i := 4) (pc' := 18) (L' := [some (.ref l0), some (.int l1), some (.int v2), some (.int (l1 <<< (v3 &&& 31))), some (.int ((l1 <<< (v3 &&& 31)) - v2)), none]) (by decide +kernel) rfl rfl ?_
  refine mw_il (i := 2) (pc' := 19) (by decide +kernel) rfl ?_
  refine mw_il (i := 4) (pc' := 21) (by decide +kernel) rfl ?_
  refine mw_il (i := 2) (pc' := 22) (by decide +kernel) rfl ?_
  refine mw_c (v := 2) (pc' := 23) (by decide +kernel) ?_
  refine mw_rl (i := 0) (pc' := 24) (by decide +kernel) rfl ?_
  refine mw_fI (ix := 22) (t := 13) (j := 1) (ty := 3) (md := 0) (by decide +kernel) (by decide) h3 (fun v4 h4 => ?_); clear h3
  refine mw_a (ins := .ishl) (pc' := 28) (by decide +kernel) rfl ?_
  refine mw_a (ins := .iadd) (pc' := 29) (by decide +kernel) rfl ?_
  refine mwx_I (q := 214) (na := 3) (ce := 0) (sl := 0) (X := 0) (Y := 0) (as := [.int (v2 + ((2 : Int32) <<< (v4 &&& 31))), .int ((l1 <<< (v3 &&& 31)) - v2), .int v2]) (by decide +kernel) ⟨Nat.le_refl _, Nat.le_refl _⟩ rfl rfl (by rw [show mL 214 = 4 from by decide +kernel]; rfl) rfl (fun z => absurd z (by decide +kernel)) (fun z => absurd z (by decide +kernel)) (vwJ8_newLength_cabcc h4) (fun v5 t5 i5 j5 h5 => ?_); clear h4
  refine mw_is (i := 5) (pc' := 34) (L' := [some (.ref l0), some (.int l1), some (.int v2), some (.int (l1 <<< (v3 &&& 31))), some (.int ((l1 <<< (v3 &&& 31)) - v2)), some (.int v5)]) (by decide +kernel) rfl rfl ?_
  refine mw_il (i := 5) (pc' := 36) (by decide +kernel) rfl ?_
  refine mw_c (v := 2147483647) (pc' := 38) (by decide +kernel) ?_
  refine mw_ifn (ins := .if_icmp .ne 13) (t := 51) (pc' := 41) (by decide +kernel) rfl rfl rfl h5 (fun p6 h6 => ?_) (fun p6 h6 => ?_) <;> clear h5
  · refine mw_il (i := 5) (pc' := 53) (by decide +kernel) rfl ?_
    refine mw_rl (i := 0) (pc' := 54) (by decide +kernel) rfl ?_
    refine mw_fI (ix := 22) (t := 13) (j := 1) (ty := 3) (md := 0) (by decide +kernel) (by decide) h6 (fun v6 h7 => ?_); clear h6
    refine mw_a (ins := .ishr) (pc' := 58) (by decide +kernel) rfl ?_
    exact mw_ri (X := 0) (Y := 0) (by decide +kernel) ⟨Nat.le_refl _, Nat.le_refl _⟩ h7
  · exact h6.elim
/- ('J7', 'copyOf_9075b') -/
def wJ7_copyOf_9075b (K J : Nat → Nat) (fu : Nat) (sh : HS) (I : HI) (R : HR) (l0 : Nat) (l1 : Int32) (F : VF) : Prop :=
  wB (oLn sh l0) fun v1 =>
  if l1 = v1 then
    (∃ m9, sh l0 = some (21, m9) ∧
    (0 + 1 ≤ 1 ∧ 0 + m9 ≤ 1300) ∧
    wCln sh I l0 m9 fun a9 t9 i9 =>
    wB (oKt t9 a9 4) fun _ =>
    ((0 + 1) ≤ 1 ∧ (0 + m9) ≤ 1300) ∧
    F (.inl (some (.ref a9))) t9 i9 R)
  else
    ((¬ l1 < 0 ∧ l1.toNatClampNeg < 100000) ∧
    (0 + 1 ≤ 1 ∧ 0 + l1.toNatClampNeg ≤ 1300) ∧
    wNewI sh I 21 l1.toNatClampNeg fun a2 t2 i2 =>
    wB (oLn t2 l0) fun v4 =>
    ((0 + 1) ≤ 1 ∧ (0 + l1.toNatClampNeg) ≤ 1300) ∧
    ((0 + 1) ≤ 1 ∧ (0 + l1.toNatClampNeg) ≤ 1300) ∧
    oCb t2 i2 l0 0 a2 0 (iMin v4 l1) fun w7 =>
    ((0 + 1) ≤ 1 ∧ (0 + l1.toNatClampNeg) ≤ 1300) ∧
    F (.inl (some (.ref a2))) t2 w7 R)
theorem vwJ7_copyOf_9075b {l : Launch} {K J : Nat → Nat} {fu : Nat} {sh : HS} {I : HI} {R : HR} {l0 : Nat} {l1 : Int32} {F : VF} (h0 : wJ7_copyOf_9075b K J fu sh I R l0 l1 F) : MW l K J 210 0 (ent (mL 210) [.ref l0, .int l1]) [] sh I R (0, 0) F := by
  unfold wJ7_copyOf_9075b at h0
  have ml : mL 210 = 3 := by decide +kernel
  rw [ml]
  show MW l K J 210 0 [some (.ref l0), some (.int l1), none] [] sh I R (0, 0) F
  refine mw_il (i := 1) (pc' := 1) (by decide +kernel) rfl ?_
  refine mw_rl (i := 0) (pc' := 2) (by decide +kernel) rfl ?_
  refine mw_ln (by decide +kernel) h0 (fun v1 h1 => ?_); clear h0
  refine mw_ifn (ins := .if_icmp .ne 11) (t := 14) (pc' := 6) (by decide +kernel) rfl rfl rfl h1 (fun p2 h2 => ?_) (fun p2 h2 => ?_) <;> clear h1
  · refine mw_il (i := 1) (pc' := 15) (by decide +kernel) rfl ?_
    obtain ⟨q2, h3⟩ := h2
    obtain ⟨r3, h4⟩ := h3
    refine mw_nwb (X := 1) (Y := 1300) (by decide +kernel) q2 r3 h4 (fun a2 t2 i2 h5 => ?_); clear h4
    refine mw_rs (i := 2) (pc' := 18) (L' := [some (.ref l0), some (.int l1), some (.ref a2)]) (by decide +kernel) rfl rfl ?_
    refine mw_rl (i := 0) (pc' := 19) (by decide +kernel) rfl ?_
    refine mw_c (v := 0) (pc' := 20) (by decide +kernel) ?_
    refine mw_rl (i := 2) (pc' := 21) (by decide +kernel) rfl ?_
    refine mw_c (v := 0) (pc' := 22) (by decide +kernel) ?_
    refine mw_rl (i := 0) (pc' := 23) (by decide +kernel) rfl ?_
    refine mw_ln (by decide +kernel) h5 (fun v4 h6 => ?_); clear h5
    refine mw_il (i := 1) (pc' := 25) (by decide +kernel) rfl ?_
    obtain ⟨r5, h7⟩ := h6
    refine mw_min (X := 1) (Y := 1300) (pc' := 28) (by decide +kernel) r5 rfl ?_
    obtain ⟨r6, h8⟩ := h7
    refine mw_cpB (ix := 150) (X := 1) (Y := 1300) (by decide +kernel) rfl r6 h8 (fun w7 h9 => ?_); clear h8
    refine mw_rl (i := 2) (pc' := 32) (by decide +kernel) rfl ?_
    obtain ⟨r8, h10⟩ := h9
    exact mw_rr (v := some a2) (X := 1) (Y := 1300) (by decide +kernel) r8 h10
  · refine mw_rl (i := 0) (pc' := 7) (by decide +kernel) rfl ?_
    obtain ⟨m9, q9, h3⟩ := h2
    obtain ⟨r10, h4⟩ := h3
    refine mw_cln (ix := 310) (X := 1) (Y := 1300) (by decide +kernel) rfl q9 r10 h4 (fun a9 t9 i9 h5 => ?_); clear h4
    refine mw_cst (ix := 311) (v := 4) (by decide +kernel) h5 (fun h6 => ?_); clear h5
    obtain ⟨r11, h7⟩ := h6
    exact mw_rr (v := some a9) (X := 1) (Y := 1300) (by decide +kernel) r11 h7
/- ('J5', 'ensureCapacityInternal_d00df') -/
def wJ5_ensureCapacityInternal_d00df_b38 (K J : Nat → Nat) (fu : Nat) (F : VF) (sh : HS) (I : HI) (R : HR) (c1 : Nat) (c2 : Nat) : Prop :=
  (c1 ≤ 1 ∧ c2 ≤ 1300) ∧
  F (.inl none) sh I R
theorem vwJ5_ensureCapacityInternal_d00df_b38 {l : Launch} {K J : Nat → Nat} {fu : Nat} {F : VF} {sh : HS} {I : HI} {R : HR} {c1 : Nat} {c2 : Nat} {d0 d1 d2 : Option Value} (h0 : wJ5_ensureCapacityInternal_d00df_b38 K J fu F sh I R c1 c2) : MW l K J 199 38 [d0, d1, d2] [] sh I R (c1, c2) F := by
  unfold wJ5_ensureCapacityInternal_d00df_b38 at h0
  obtain ⟨r4, h1⟩ := h0
  exact mw_rv (X := 1) (Y := 1300) (by decide +kernel) r4 h1
def wJ5_ensureCapacityInternal_d00df (K J : Nat → Nat) (fu : Nat) (sh : HS) (I : HI) (R : HR) (l0 : Nat) (l1 : Int32) (F : VF) : Prop :=
  wB (oR sh R l0 13 0) fun v1 =>
  wB (oLn sh v1) fun v2 =>
  wB (oI sh I l0 13 1) fun v3 =>
  if (l1 - (v2 >>> (v3 &&& 31))) ≤ 0 then
    ((wJ5_ensureCapacityInternal_d00df_b38 K J fu F) sh I R 0 0)
  else
    (wB (oR sh R l0 13 0) fun v5 =>
    rcvB sh l0 13 = true ∧
    (0 ≤ 1 ∧ 0 ≤ 1300) ∧
    wJ5_newCapacity_0f7a4 K J fu sh I R l0 l1 (qwI fun v8 t8 i8 j8 =>
    wB (oI t8 i8 l0 13 1) fun v9 =>
    (0 + 1 ≤ 1 ∧ 0 + 1300 ≤ 1300) ∧
    wJ7_copyOf_9075b K J fu t8 i8 j8 v5 (v8 <<< (v9 &&& 31)) (qwR fun v11 t11 i11 j11 =>
    wB (oQ t11 j11 l0 13 0 v11) fun v12 =>
    (wJ5_ensureCapacityInternal_d00df_b38 K J fu F) t11 i11 v12 (0 + 1) (0 + 1300))))
theorem vwJ5_ensureCapacityInternal_d00df {l : Launch} {K J : Nat → Nat} {fu : Nat} {sh : HS} {I : HI} {R : HR} {l0 : Nat} {l1 : Int32} {F : VF} (h0 : wJ5_ensureCapacityInternal_d00df K J fu sh I R l0 l1 F) : MW l K J 199 0 (ent (mL 199) [.ref l0, .int l1]) [] sh I R (0, 0) F := by
  unfold wJ5_ensureCapacityInternal_d00df at h0
  have ml : mL 199 = 3 := by decide +kernel
  rw [ml]
  show MW l K J 199 0 [some (.ref l0), some (.int l1), none] [] sh I R (0, 0) F
  refine mw_rl (i := 0) (pc' := 1) (by decide +kernel) rfl ?_
  refine mw_fR (ix := 15) (t := 13) (j := 0) (md := 0) (by decide +kernel) h0 (fun v1 h1 => ?_); clear h0
  refine mw_ln (by decide +kernel) h1 (fun v2 h2 => ?_); clear h1
  refine mw_rl (i := 0) (pc' := 6) (by decide +kernel) rfl ?_
  refine mw_fI (ix := 22) (t := 13) (j := 1) (ty := 3) (md := 0) (by decide +kernel) (by decide) h2 (fun v3 h3 => ?_); clear h2
  refine mw_a (ins := .ishr) (pc' := 10) (by decide +kernel) rfl ?_
  refine mw_is (i := 2) (pc' := 11) (L' := [some (.ref l0), some (.int l1), some (.int (v2 >>> (v3 &&& 31)))]) (by decide +kernel) rfl rfl ?_
  refine mw_il (i := 1) (pc' := 12) (by decide +kernel) rfl ?_
  refine mw_il (i := 2) (pc' := 13) (by decide +kernel) rfl ?_
  refine mw_a (ins := .isub) (pc' := 14) (by decide +kernel) rfl ?_
  refine mw_if (ins := .ifCond .le 24) (t := 38) (pc' := 17) (by decide +kernel) rfl rfl rfl h3 (fun p4 h4 => ?_) (fun p4 h4 => ?_) <;> clear h3
  · exact (vwJ5_ensureCapacityInternal_d00df_b38) h4
  · refine mw_rl (i := 0) (pc' := 18) (by decide +kernel) rfl ?_
    refine mw_rl (i := 0) (pc' := 19) (by decide +kernel) rfl ?_
    refine mw_fR (ix := 15) (t := 13) (j := 0) (md := 0) (by decide +kernel) h4 (fun v5 h5 => ?_); clear h4
    refine mw_rl (i := 0) (pc' := 23) (by decide +kernel) rfl ?_
    refine mw_il (i := 1) (pc' := 24) (by decide +kernel) rfl ?_
    obtain ⟨q6, h6⟩ := h5
    obtain ⟨r7, h7⟩ := h6
    refine mwx_I (q := 200) (na := 2) (ce := 0) (sl := 0) (X := 1) (Y := 1300) (as := [.int l1, .ref l0]) (by decide +kernel) r7 rfl rfl (by rw [show mL 200 = 6 from by decide +kernel]; rfl) rfl (fun _ => rv_of q6 (by decide +kernel)) (fun z => absurd z (by decide +kernel)) (vwJ5_newCapacity_0f7a4 h7) (fun v8 t8 i8 j8 h8 => ?_); clear h7
    refine mw_rl (i := 0) (pc' := 28) (by decide +kernel) rfl ?_
    refine mw_fI (ix := 22) (t := 13) (j := 1) (ty := 3) (md := 0) (by decide +kernel) (by decide) h8 (fun v9 h9 => ?_); clear h8
    refine mw_a (ins := .ishl) (pc' := 32) (by decide +kernel) rfl ?_
    obtain ⟨r10, h10⟩ := h9
    refine mwx_R (q := 210) (na := 2) (ce := 1) (sl := 1300) (X := 1) (Y := 1300) (as := [.int (v8 <<< (v9 &&& 31)), .ref v5]) (by decide +kernel) r10 rfl rfl (by rw [show mL 210 = 3 from by decide +kernel]; rfl) rfl (fun z => absurd z (by decide +kernel)) (fun z => absurd z (by decide +kernel)) (vwJ7_copyOf_9075b h10) (fun v11 t11 i11 j11 h11 => ?_); clear h10
    refine mw_pR (ix := 15) (t := 13) (j := 0) (md := 0) (by decide +kernel) h11 (fun v12 h12 => ?_); clear h11
    exact (vwJ5_ensureCapacityInternal_d00df_b38) h12
/- ('J5', 'inflateIfNeededFor_a7421') -/
def wJ5_inflateIfNeededFor_a7421_b21 (K J : Nat → Nat) (fu : Nat) (F : VF) (sh : HS) (I : HI) (R : HR) : Prop :=
  F (.inl none) sh I R
theorem vwJ5_inflateIfNeededFor_a7421_b21 {l : Launch} {K J : Nat → Nat} {fu : Nat} {F : VF} {sh : HS} {I : HI} {R : HR} {d0 d1 : Option Value} (h0 : wJ5_inflateIfNeededFor_a7421_b21 K J fu F sh I R) : MW l K J 206 21 [d0, d1] [] sh I R (0, 0) F := by
  unfold wJ5_inflateIfNeededFor_a7421_b21 at h0
  exact mw_rv (X := 0) (Y := 0) (by decide +kernel) ⟨Nat.le_refl _, Nat.le_refl _⟩ h0
def wJ5_inflateIfNeededFor_a7421 (K J : Nat → Nat) (fu : Nat) (sh : HS) (I : HI) (R : HR) (l0 : Nat) (l1 : Nat) (F : VF) : Prop :=
  if (1 : Int32) = 0 then
    ((wJ5_inflateIfNeededFor_a7421_b21 K J fu F) sh I R)
  else
    (wB (oI sh I l0 13 1) fun v1 =>
    rcvB sh l1 14 = true ∧
    wJ0_coder_7d493 K J fu sh I R l1 (qwI fun v3 t3 i3 j3 =>
    if v1 = v3 then
      ((wJ5_inflateIfNeededFor_a7421_b21 K J fu F) t3 i3 j3)
    else
      (False)))
theorem vwJ5_inflateIfNeededFor_a7421 {l : Launch} {K J : Nat → Nat} {fu : Nat} {sh : HS} {I : HI} {R : HR} {l0 : Nat} {l1 : Nat} {F : VF} (h0 : wJ5_inflateIfNeededFor_a7421 K J fu sh I R l0 l1 F) : MW l K J 206 0 (ent (mL 206) [.ref l0, .ref l1]) [] sh I R (0, 0) F := by
  unfold wJ5_inflateIfNeededFor_a7421 at h0
  have ml : mL 206 = 2 := by decide +kernel
  rw [ml]
  show MW l K J 206 0 [some (.ref l0), some (.ref l1)] [] sh I R (0, 0) F
  refine mw_gs0 (pc' := 3) (by decide +kernel) ?_
  refine mw_if (ins := .ifCond .eq 18) (t := 21) (pc' := 6) (by decide +kernel) rfl rfl rfl h0 (fun p1 h1 => ?_) (fun p1 h1 => ?_) <;> clear h0
  · exact (vwJ5_inflateIfNeededFor_a7421_b21) h1
  · refine mw_rl (i := 0) (pc' := 7) (by decide +kernel) rfl ?_
    refine mw_fI (ix := 22) (t := 13) (j := 1) (ty := 3) (md := 0) (by decide +kernel) (by decide) h1 (fun v1 h2 => ?_); clear h1
    refine mw_rl (i := 1) (pc' := 11) (by decide +kernel) rfl ?_
    obtain ⟨q2, h3⟩ := h2
    refine mwx_I (q := 170) (na := 1) (ce := 0) (sl := 0) (X := 0) (Y := 0) (as := [.ref l1]) (by decide +kernel) ⟨Nat.le_refl _, Nat.le_refl _⟩ rfl rfl (by rw [show mL 170 = 1 from by decide +kernel]; rfl) rfl (fun _ => rv_of q2 (by decide +kernel)) (fun z => absurd z (by decide +kernel)) (vwJ0_coder_7d493 h3) (fun v3 t3 i3 j3 h4 => ?_); clear h3
    refine mw_if (ins := .if_icmp .eq 7) (t := 21) (pc' := 17) (by decide +kernel) rfl rfl rfl h4 (fun p5 h5 => ?_) (fun p5 h5 => ?_) <;> clear h4
    · exact (vwJ5_inflateIfNeededFor_a7421_b21) h5
    · refine mw_rl (i := 0) (pc' := 18) (by decide +kernel) rfl ?_
      exact h5.elim
/- ('J1', 'inflate_0e8fd') -/
def wJ1_inflate_0e8fd (K J : Nat → Nat) (fu : Nat) (sh : HS) (I : HI) (R : HR) (l0 : Nat) (l1 : Int32) (l2 : Nat) (l3 : Int32) (l4 : Int32) (F : VF) : Prop :=
  False
theorem vwJ1_inflate_0e8fd {l : Launch} {K J : Nat → Nat} {fu : Nat} {sh : HS} {I : HI} {R : HR} {l0 : Nat} {l1 : Int32} {l2 : Nat} {l3 : Int32} {l4 : Int32} {F : VF} (h0 : wJ1_inflate_0e8fd K J fu sh I R l0 l1 l2 l3 l4 F) : MW l K J 193 0 (ent (mL 193) [.ref l0, .int l1, .ref l2, .int l3, .int l4]) [] sh I R (0, 0) F := by
  unfold wJ1_inflate_0e8fd at h0
  have ml : mL 193 = 5 := by decide +kernel
  rw [ml]
  show MW l K J 193 0 [some (.ref l0), some (.int l1), some (.ref l2), some (.int l3), some (.int l4)] [] sh I R (0, 0) F
  refine mw_rl (i := 0) (pc' := 1) (by decide +kernel) rfl ?_
  refine mw_il (i := 1) (pc' := 2) (by decide +kernel) rfl ?_
  refine mw_rl (i := 2) (pc' := 3) (by decide +kernel) rfl ?_
  refine mw_il (i := 3) (pc' := 4) (by decide +kernel) rfl ?_
  refine mw_il (i := 4) (pc' := 6) (by decide +kernel) rfl ?_
  exact h0.elim
/- ('J0', 'getBytes_840e7') -/
def wJ0_getBytes_840e7_b43 (K J : Nat → Nat) (fu : Nat) (F : VF) (sh : HS) (I : HI) (R : HR) : Prop :=
  F (.inl none) sh I R
theorem vwJ0_getBytes_840e7_b43 {l : Launch} {K J : Nat → Nat} {fu : Nat} {F : VF} {sh : HS} {I : HI} {R : HR} {d0 d1 d2 d3 : Option Value} (h0 : wJ0_getBytes_840e7_b43 K J fu F sh I R) : MW l K J 167 43 [d0, d1, d2, d3] [] sh I R (0, 0) F := by
  unfold wJ0_getBytes_840e7_b43 at h0
  exact mw_rv (X := 0) (Y := 0) (by decide +kernel) ⟨Nat.le_refl _, Nat.le_refl _⟩ h0
def wJ0_getBytes_840e7 (K J : Nat → Nat) (fu : Nat) (sh : HS) (I : HI) (R : HR) (l0 : Nat) (l1 : Nat) (l2 : Int32) (l3 : Int32) (F : VF) : Prop :=
  rcvB sh l0 14 = true ∧
  wJ0_coder_7d493 K J fu sh I R l0 (qwI fun v2 t2 i2 j2 =>
  if v2 = l3 then
    (wB (oR2 t2 j2 l0 14 0) fun v7 =>
    wB (oR2 t2 j2 l0 14 0) fun v8 =>
    wB (oLn t2 v8) fun v9 =>
    oCb t2 i2 v7 0 l1 (l2 <<< (l3 &&& 31)) v9 fun w10 =>
    (wJ0_getBytes_840e7_b43 K J fu F) t2 w10 j2)
  else
    (wB (oR2 t2 j2 l0 14 0) fun v3 =>
    wB (oR2 t2 j2 l0 14 0) fun v4 =>
    wB (oLn t2 v4) fun v5 =>
    wJ1_inflate_0e8fd K J fu t2 i2 j2 v3 0 l1 l2 v5 (qwV fun t6 i6 j6 =>
    (wJ0_getBytes_840e7_b43 K J fu F) t6 i6 j6)))
theorem vwJ0_getBytes_840e7 {l : Launch} {K J : Nat → Nat} {fu : Nat} {sh : HS} {I : HI} {R : HR} {l0 : Nat} {l1 : Nat} {l2 : Int32} {l3 : Int32} {F : VF} (h0 : wJ0_getBytes_840e7 K J fu sh I R l0 l1 l2 l3 F) : MW l K J 167 0 (ent (mL 167) [.ref l0, .ref l1, .int l2, .int l3]) [] sh I R (0, 0) F := by
  unfold wJ0_getBytes_840e7 at h0
  have ml : mL 167 = 4 := by decide +kernel
  rw [ml]
  show MW l K J 167 0 [some (.ref l0), some (.ref l1), some (.int l2), some (.int l3)] [] sh I R (0, 0) F
  refine mw_rl (i := 0) (pc' := 1) (by decide +kernel) rfl ?_
  obtain ⟨q1, h1⟩ := h0
  refine mwx_I (q := 170) (na := 1) (ce := 0) (sl := 0) (X := 0) (Y := 0) (as := [.ref l0]) (by decide +kernel) ⟨Nat.le_refl _, Nat.le_refl _⟩ rfl rfl (by rw [show mL 170 = 1 from by decide +kernel]; rfl) rfl (fun _ => rv_of q1 (by decide +kernel)) (fun z => absurd z (by decide +kernel)) (vwJ0_coder_7d493 h1) (fun v2 t2 i2 j2 h2 => ?_); clear h1
  refine mw_il (i := 3) (pc' := 5) (by decide +kernel) rfl ?_
  refine mw_ifn (ins := .if_icmp .ne 23) (t := 28) (pc' := 8) (by decide +kernel) rfl rfl rfl h2 (fun p3 h3 => ?_) (fun p3 h3 => ?_) <;> clear h2
  · refine mw_rl (i := 0) (pc' := 29) (by decide +kernel) rfl ?_
    refine mw_fR2 (ix := 9) (by decide +kernel) h3 (fun v3 h4 => ?_); clear h3
    refine mw_c (v := 0) (pc' := 33) (by decide +kernel) ?_
    refine mw_rl (i := 1) (pc' := 34) (by decide +kernel) rfl ?_
    refine mw_il (i := 2) (pc' := 35) (by decide +kernel) rfl ?_
    refine mw_rl (i := 0) (pc' := 36) (by decide +kernel) rfl ?_
    refine mw_fR2 (ix := 9) (by decide +kernel) h4 (fun v4 h5 => ?_); clear h4
    refine mw_ln (by decide +kernel) h5 (fun v5 h6 => ?_); clear h5
    refine mwx_V (q := 193) (na := 5) (ce := 0) (sl := 0) (X := 0) (Y := 0) (as := [.int v5, .int l2, .ref l1, .int 0, .ref v3]) (by decide +kernel) ⟨Nat.le_refl _, Nat.le_refl _⟩ rfl rfl (by rw [show mL 193 = 5 from by decide +kernel]; rfl) rfl (fun z => absurd z (by decide +kernel)) (fun z => absurd z (by decide +kernel)) (vwJ1_inflate_0e8fd h6) (fun t6 i6 j6 h7 => ?_); clear h6
    exact (vwJ0_getBytes_840e7_b43) h7
  · refine mw_rl (i := 0) (pc' := 9) (by decide +kernel) rfl ?_
    refine mw_fR2 (ix := 9) (by decide +kernel) h3 (fun v7 h4 => ?_); clear h3
    refine mw_c (v := 0) (pc' := 13) (by decide +kernel) ?_
    refine mw_rl (i := 1) (pc' := 14) (by decide +kernel) rfl ?_
    refine mw_il (i := 2) (pc' := 15) (by decide +kernel) rfl ?_
    refine mw_il (i := 3) (pc' := 16) (by decide +kernel) rfl ?_
    refine mw_a (ins := .ishl) (pc' := 17) (by decide +kernel) rfl ?_
    refine mw_rl (i := 0) (pc' := 18) (by decide +kernel) rfl ?_
    refine mw_fR2 (ix := 9) (by decide +kernel) h4 (fun v8 h5 => ?_); clear h4
    refine mw_ln (by decide +kernel) h5 (fun v9 h6 => ?_); clear h5
    refine mw_cpB (ix := 212) (X := 0) (Y := 0) (by decide +kernel) rfl ⟨Nat.le_refl _, Nat.le_refl _⟩ h6 (fun w10 h7 => ?_); clear h6
    refine mw_go (t := 43) (by decide +kernel) ?_
    exact (vwJ0_getBytes_840e7_b43) h7
/- ('J5', 'putStringAt_47b60') -/
def wJ5_putStringAt_47b60 (K J : Nat → Nat) (fu : Nat) (sh : HS) (I : HI) (R : HR) (l0 : Nat) (l1 : Int32) (l2 : Nat) (F : VF) : Prop :=
  rcvB sh l0 13 = true ∧
  wJ5_inflateIfNeededFor_a7421 K J fu sh I R l0 l2 (qwV fun t2 i2 j2 =>
  wB (oR t2 j2 l0 13 0) fun v3 =>
  wB (oI t2 i2 l0 13 1) fun v4 =>
  rcvB t2 l2 14 = true ∧
  wJ0_getBytes_840e7 K J fu t2 i2 j2 l2 v3 l1 v4 (qwV fun t6 i6 j6 =>
  F (.inl none) t6 i6 j6))
theorem vwJ5_putStringAt_47b60 {l : Launch} {K J : Nat → Nat} {fu : Nat} {sh : HS} {I : HI} {R : HR} {l0 : Nat} {l1 : Int32} {l2 : Nat} {F : VF} (h0 : wJ5_putStringAt_47b60 K J fu sh I R l0 l1 l2 F) : MW l K J 207 0 (ent (mL 207) [.ref l0, .int l1, .ref l2]) [] sh I R (0, 0) F := by
  unfold wJ5_putStringAt_47b60 at h0
  have ml : mL 207 = 3 := by decide +kernel
  rw [ml]
  show MW l K J 207 0 [some (.ref l0), some (.int l1), some (.ref l2)] [] sh I R (0, 0) F
  refine mw_rl (i := 0) (pc' := 1) (by decide +kernel) rfl ?_
  refine mw_rl (i := 2) (pc' := 2) (by decide +kernel) rfl ?_
  obtain ⟨q1, h1⟩ := h0
  refine mwx_V (q := 206) (na := 2) (ce := 0) (sl := 0) (X := 0) (Y := 0) (as := [.ref l2, .ref l0]) (by decide +kernel) ⟨Nat.le_refl _, Nat.le_refl _⟩ rfl rfl (by rw [show mL 206 = 2 from by decide +kernel]; rfl) rfl (fun _ => rv_of q1 (by decide +kernel)) (fun z => absurd z (by decide +kernel)) (vwJ5_inflateIfNeededFor_a7421 h1) (fun t2 i2 j2 h2 => ?_); clear h1
  refine mw_rl (i := 2) (pc' := 6) (by decide +kernel) rfl ?_
  refine mw_rl (i := 0) (pc' := 7) (by decide +kernel) rfl ?_
  refine mw_fR (ix := 15) (t := 13) (j := 0) (md := 0) (by decide +kernel) h2 (fun v3 h3 => ?_); clear h2
  refine mw_il (i := 1) (pc' := 11) (by decide +kernel) rfl ?_
  refine mw_rl (i := 0) (pc' := 12) (by decide +kernel) rfl ?_
  refine mw_fI (ix := 22) (t := 13) (j := 1) (ty := 3) (md := 0) (by decide +kernel) (by decide) h3 (fun v4 h4 => ?_); clear h3
  obtain ⟨q5, h5⟩ := h4
  refine mwx_V (q := 167) (na := 4) (ce := 0) (sl := 0) (X := 0) (Y := 0) (as := [.int v4, .int l1, .ref v3, .ref l2]) (by decide +kernel) ⟨Nat.le_refl _, Nat.le_refl _⟩ rfl rfl (by rw [show mL 167 = 4 from by decide +kernel]; rfl) rfl (fun _ => rv_of q5 (by decide +kernel)) (fun z => absurd z (by decide +kernel)) (vwJ0_getBytes_840e7 h5) (fun t6 i6 j6 h6 => ?_); clear h5
  exact mw_rv (X := 0) (Y := 0) (by decide +kernel) ⟨Nat.le_refl _, Nat.le_refl _⟩ h6
/- ('J5', 'append_cf1ce') -/
def wJ5_append_cf1ce (K J : Nat → Nat) (fu : Nat) (sh : HS) (I : HI) (R : HR) (l0 : Nat) (l1 : Nat) (F : VF) : Prop :=
  if (some l1) = none then
    (False)
  else
    (rcvB sh l1 14 = true ∧
    (0 ≤ 1 ∧ 0 ≤ 1300) ∧
    wJ0_length_8abf5 K J fu sh I R l1 (qwI fun v3 t3 i3 j3 =>
    wB (oI t3 i3 l0 13 3) fun v4 =>
    rcvB t3 l0 13 = true ∧
    (0 + 1 ≤ 1 ∧ 0 + 1300 ≤ 1300) ∧
    wJ5_ensureCapacityInternal_d00df K J fu t3 i3 j3 l0 (v4 + v3) (qwV fun t7 i7 j7 =>
    wB (oI t7 i7 l0 13 3) fun v8 =>
    rcvB t7 l0 13 = true ∧
    ((0 + 1) ≤ 1 ∧ (0 + 1300) ≤ 1300) ∧
    wJ5_putStringAt_47b60 K J fu t7 i7 j7 l0 v8 l1 (qwV fun t11 i11 j11 =>
    wB (oI t11 i11 l0 13 3) fun v12 =>
    wB (oP t11 i11 l0 13 3 (v12 + v3)) fun v13 =>
    ((0 + 1) ≤ 1 ∧ (0 + 1300) ≤ 1300) ∧
    F (.inl (some (.ref l0))) t11 v13 j11))))
theorem vwJ5_append_cf1ce {l : Launch} {K J : Nat → Nat} {fu : Nat} {sh : HS} {I : HI} {R : HR} {l0 : Nat} {l1 : Nat} {F : VF} (h0 : wJ5_append_cf1ce K J fu sh I R l0 l1 F) : MW l K J 201 0 (ent (mL 201) [.ref l0, .ref l1]) [] sh I R (0, 0) F := by
  unfold wJ5_append_cf1ce at h0
  have ml : mL 201 = 3 := by decide +kernel
  rw [ml]
  show MW l K J 201 0 [some (.ref l0), some (.ref l1), none] [] sh I R (0, 0) F
  refine mw_rl (i := 1) (pc' := 1) (by decide +kernel) rfl ?_
  refine mw_nnl (o := 8) (t := 9) (x := (some l1)) (by decide +kernel) h0 (fun p1 h1 => ?_) (fun p1 h1 => ?_) <;> clear h0
  · refine mw_rl (i := 0) (pc' := 5) (by decide +kernel) rfl ?_
    exact h1.elim
  · refine mw_rl (i := 1) (pc' := 10) (by decide +kernel) rfl ?_
    obtain ⟨q1, h2⟩ := h1
    obtain ⟨r2, h3⟩ := h2
    refine mwx_I (q := 163) (na := 1) (ce := 0) (sl := 0) (X := 1) (Y := 1300) (as := [.ref l1]) (by decide +kernel) r2 rfl rfl (by rw [show mL 163 = 1 from by decide +kernel]; rfl) rfl (fun _ => rv_of q1 (by decide +kernel)) (fun z => absurd z (by decide +kernel)) (vwJ0_length_8abf5 h3) (fun v3 t3 i3 j3 h4 => ?_); clear h3
    refine mw_is (i := 2) (pc' := 14) (L' := [some (.ref l0), some (.ref l1), some (.int v3)]) (by decide +kernel) rfl rfl ?_
    refine mw_rl (i := 0) (pc' := 15) (by decide +kernel) rfl ?_
    refine mw_rl (i := 0) (pc' := 16) (by decide +kernel) rfl ?_
    refine mw_fI (ix := 79) (t := 13) (j := 3) (ty := 0) (md := 0) (by decide +kernel) (by decide) h4 (fun v4 h5 => ?_); clear h4
    refine mw_il (i := 2) (pc' := 20) (by decide +kernel) rfl ?_
    refine mw_a (ins := .iadd) (pc' := 21) (by decide +kernel) rfl ?_
    obtain ⟨q5, h6⟩ := h5
    obtain ⟨r6, h7⟩ := h6
    refine mwx_V (q := 199) (na := 2) (ce := 1) (sl := 1300) (X := 1) (Y := 1300) (as := [.int (v4 + v3), .ref l0]) (by decide +kernel) r6 rfl rfl (by rw [show mL 199 = 3 from by decide +kernel]; rfl) rfl (fun _ => rv_of q5 (by decide +kernel)) (fun z => absurd z (by decide +kernel)) (vwJ5_ensureCapacityInternal_d00df h7) (fun t7 i7 j7 h8 => ?_); clear h7
    refine mw_rl (i := 0) (pc' := 25) (by decide +kernel) rfl ?_
    refine mw_rl (i := 0) (pc' := 26) (by decide +kernel) rfl ?_
    refine mw_fI (ix := 79) (t := 13) (j := 3) (ty := 0) (md := 0) (by decide +kernel) (by decide) h8 (fun v8 h9 => ?_); clear h8
    refine mw_rl (i := 1) (pc' := 30) (by decide +kernel) rfl ?_
    obtain ⟨q9, h10⟩ := h9
    obtain ⟨r10, h11⟩ := h10
    refine mwx_V (q := 207) (na := 3) (ce := 0) (sl := 0) (X := 1) (Y := 1300) (as := [.ref l1, .int v8, .ref l0]) (by decide +kernel) r10 rfl rfl (by rw [show mL 207 = 3 from by decide +kernel]; rfl) rfl (fun _ => rv_of q9 (by decide +kernel)) (fun z => absurd z (by decide +kernel)) (vwJ5_putStringAt_47b60 h11) (fun t11 i11 j11 h12 => ?_); clear h11
    refine mw_rl (i := 0) (pc' := 34) (by decide +kernel) rfl ?_
    refine mw_a (ins := .dup) (pc' := 35) (by decide +kernel) rfl ?_
    refine mw_fI (ix := 79) (t := 13) (j := 3) (ty := 0) (md := 0) (by decide +kernel) (by decide) h12 (fun v12 h13 => ?_); clear h12
    refine mw_il (i := 2) (pc' := 39) (by decide +kernel) rfl ?_
    refine mw_a (ins := .iadd) (pc' := 40) (by decide +kernel) rfl ?_
    refine mw_pI (ix := 79) (t := 13) (j := 3) (ty := 0) (md := 0) (by decide +kernel) (Or.inl rfl) h13 (fun v13 h14 => ?_); clear h13
    refine mw_rl (i := 0) (pc' := 44) (by decide +kernel) rfl ?_
    obtain ⟨r14, h15⟩ := h14
    exact mw_rr (v := some l0) (X := 1) (Y := 1300) (by decide +kernel) r14 h15
/- ('J4', 'append_15ec4') -/
def wJ4_append_15ec4 (K J : Nat → Nat) (fu : Nat) (sh : HS) (I : HI) (R : HR) (l0 : Nat) (l1 : Nat) (F : VF) : Prop :=
  isT sh l0 13 = true ∧
  (0 + 1 ≤ 1 ∧ 0 + 1300 ≤ 1300) ∧
  wJ5_append_cf1ce K J fu sh I R l0 l1 (qwR fun v3 t3 i3 j3 =>
  ((0 + 1) ≤ 1 ∧ (0 + 1300) ≤ 1300) ∧
  F (.inl (some (.ref l0))) t3 i3 j3)
theorem vwJ4_append_15ec4 {l : Launch} {K J : Nat → Nat} {fu : Nat} {sh : HS} {I : HI} {R : HR} {l0 : Nat} {l1 : Nat} {F : VF} (h0 : wJ4_append_15ec4 K J fu sh I R l0 l1 F) : MW l K J 157 0 (ent (mL 157) [.ref l0, .ref l1]) [] sh I R (0, 0) F := by
  unfold wJ4_append_15ec4 at h0
  have ml : mL 157 = 2 := by decide +kernel
  rw [ml]
  show MW l K J 157 0 [some (.ref l0), some (.ref l1)] [] sh I R (0, 0) F
  refine mw_rl (i := 0) (pc' := 1) (by decide +kernel) rfl ?_
  refine mw_rl (i := 1) (pc' := 2) (by decide +kernel) rfl ?_
  obtain ⟨q1, h1⟩ := h0
  obtain ⟨r2, h2⟩ := h1
  obtain ⟨m3, q9⟩ := isT_iff.mp q1
  refine mwx_SU (ix := 29) (q := 201) (na := 2) (ce := 1) (sl := 1300) (X := 1) (Y := 1300) (as := [.ref l1]) (by decide +kernel) r2 rfl rfl rfl rfl q9 (vwJ5_append_cf1ce h2) (fun _ _ _ g => by obtain ⟨_, e9, -⟩ := g; cases e9) (fun v9 t3 i3 j3 g => ?_) (fun _ _ _ _ g => by obtain ⟨_, e9, -⟩ := g; cases e9)
  obtain ⟨v3, e9, h3⟩ := g; cases e9; clear h2
  refine mw_pop (by decide +kernel) rfl ?_
  refine mw_rl (i := 0) (pc' := 7) (by decide +kernel) rfl ?_
  obtain ⟨r4, h4⟩ := h3
  exact mw_rr (v := some l0) (X := 1) (Y := 1300) (by decide +kernel) r4 h4
/- ('J5', 'isLatin1_aae02') -/
def wJ5_isLatin1_aae02_b18 (K J : Nat → Nat) (fu : Nat) (F : VF) (sh : HS) (I : HI) (R : HR) (s0 : Int32) : Prop :=
  (s0 = 0 ∨ s0 = 1) ∧ F (.inl (some (.int s0))) sh I R
theorem vwJ5_isLatin1_aae02_b18 {l : Launch} {K J : Nat → Nat} {fu : Nat} {F : VF} {sh : HS} {I : HI} {R : HR} {s0 : Int32} {d0 : Option Value} (h0 : wJ5_isLatin1_aae02_b18 K J fu F sh I R s0) : MW l K J 205 18 [d0] [.int s0] sh I R (0, 0) F := by
  unfold wJ5_isLatin1_aae02_b18 at h0
  exact mw_rz (X := 0) (Y := 0) (by decide +kernel) h0.1 ⟨Nat.le_refl _, Nat.le_refl _⟩ h0.2
def wJ5_isLatin1_aae02_b17 (K J : Nat → Nat) (fu : Nat) (F : VF) (sh : HS) (I : HI) (R : HR) : Prop :=
  (wJ5_isLatin1_aae02_b18 K J fu F) sh I R 0
theorem vwJ5_isLatin1_aae02_b17 {l : Launch} {K J : Nat → Nat} {fu : Nat} {F : VF} {sh : HS} {I : HI} {R : HR} {d0 : Option Value} (h0 : wJ5_isLatin1_aae02_b17 K J fu F sh I R) : MW l K J 205 17 [d0] [] sh I R (0, 0) F := by
  unfold wJ5_isLatin1_aae02_b17 at h0
  refine mw_c (v := 0) (pc' := 18) (by decide +kernel) ?_
  exact (vwJ5_isLatin1_aae02_b18) h0
def wJ5_isLatin1_aae02 (K J : Nat → Nat) (fu : Nat) (sh : HS) (I : HI) (R : HR) (l0 : Nat) (F : VF) : Prop :=
  if (1 : Int32) = 0 then
    ((wJ5_isLatin1_aae02_b17 K J fu F) sh I R)
  else
    (wB (oI sh I l0 13 1) fun v1 =>
    if v1 = 0 then
      ((wJ5_isLatin1_aae02_b18 K J fu F) sh I R 1)
    else
      ((wJ5_isLatin1_aae02_b17 K J fu F) sh I R))
theorem vwJ5_isLatin1_aae02 {l : Launch} {K J : Nat → Nat} {fu : Nat} {sh : HS} {I : HI} {R : HR} {l0 : Nat} {F : VF} (h0 : wJ5_isLatin1_aae02 K J fu sh I R l0 F) : MW l K J 205 0 (ent (mL 205) [.ref l0]) [] sh I R (0, 0) F := by
  unfold wJ5_isLatin1_aae02 at h0
  have ml : mL 205 = 1 := by decide +kernel
  rw [ml]
  show MW l K J 205 0 [some (.ref l0)] [] sh I R (0, 0) F
  refine mw_gs0 (pc' := 3) (by decide +kernel) ?_
  refine mw_if (ins := .ifCond .eq 14) (t := 17) (pc' := 6) (by decide +kernel) rfl rfl rfl h0 (fun p1 h1 => ?_) (fun p1 h1 => ?_) <;> clear h0
  · exact (vwJ5_isLatin1_aae02_b17) h1
  · refine mw_rl (i := 0) (pc' := 7) (by decide +kernel) rfl ?_
    refine mw_fI (ix := 22) (t := 13) (j := 1) (ty := 3) (md := 0) (by decide +kernel) (by decide) h1 (fun v1 h2 => ?_); clear h1
    refine mw_ifn (ins := .ifCond .ne 7) (t := 17) (pc' := 13) (by decide +kernel) rfl rfl rfl h2 (fun p3 h3 => ?_) (fun p3 h3 => ?_) <;> clear h2
    · exact (vwJ5_isLatin1_aae02_b17) h3
    · refine mw_c (v := 1) (pc' := 14) (by decide +kernel) ?_
      refine mw_go (t := 18) (by decide +kernel) ?_
      exact (vwJ5_isLatin1_aae02_b18) h3
/- ('J6', 'getChars_ba4f3') -/
def wJ6_getChars_ba4f3_b22 (K J : Nat → Nat) (fu : Nat) (F : VF) (k22 : HS → HI → HR → Int32 → Nat → Int32 → Int32 → Prop) (k72 : HS → HI → HR → Int32 → Nat → Int32 → Int32 → Prop) (sh : HS) (I : HI) (R : HR) (l0 : Int32) (l2 : Nat) (l5 : Int32) (l6 : Int32) : Prop :=
  if ((-100) : Int32) < l0 then
    (k72 sh I R l0 l2 l5 l6)
  else
    (wB (oD l0 100) fun v1 =>
    wB (oBb sh I (K (nS + 2)) ((v1 * 100) - l0)) fun v2 =>
    wB (oBs sh I l2 (l5 + (-1)) v2) fun v3 =>
    wB (oBb sh v3 (K (nS + 3)) ((v1 * 100) - l0)) fun v4 =>
    wB (oBs sh v3 l2 ((l5 + (-1)) + (-1)) v4) fun v5 =>
    k22 sh v5 R v1 l2 ((l5 + (-1)) + (-1)) l6)
theorem vwJ6_getChars_ba4f3_b22 {l : Launch} {K J : Nat → Nat} {fu : Nat} {F : VF} {k22 : HS → HI → HR → Int32 → Nat → Int32 → Int32 → Prop} {k72 : HS → HI → HR → Int32 → Nat → Int32 → Int32 → Prop} (hk22 : ∀ {sh : HS} {I : HI} {R : HR} {l0 : Int32} {l2 : Nat} {l5 : Int32} {l6 : Int32} {d1 d3 d4 : Option Value}, k22 sh I R l0 l2 l5 l6 → MW l K J 148 22 [some (.int l0), d1, some (.ref l2), d3, d4, some (.int l5), some (.int l6)] [] sh I R (0, 0) F) (hk72 : ∀ {sh : HS} {I : HI} {R : HR} {l0 : Int32} {l2 : Nat} {l5 : Int32} {l6 : Int32} {d1 d3 d4 : Option Value}, k72 sh I R l0 l2 l5 l6 → MW l K J 148 72 [some (.int l0), d1, some (.ref l2), d3, d4, some (.int l5), some (.int l6)] [] sh I R (0, 0) F) {sh : HS} {I : HI} {R : HR} {l0 : Int32} {l2 : Nat} {l5 : Int32} {l6 : Int32} {d1 d3 d4 : Option Value} (h0 : wJ6_getChars_ba4f3_b22 K J fu F k22 k72 sh I R l0 l2 l5 l6) : MW l K J 148 22 [some (.int l0), d1, some (.ref l2), d3, d4, some (.int l5), some (.int l6)] [] sh I R (0, 0) F := by
  unfold wJ6_getChars_ba4f3_b22 at h0
  refine mw_il (i := 0) (pc' := 23) (by decide +kernel) rfl ?_
  refine mw_c (v := (-100)) (pc' := 25) (by decide +kernel) ?_
  refine mw_if (ins := .if_icmp .gt 47) (t := 72) (pc' := 28) (by decide +kernel) rfl rfl rfl h0 (fun p1 h1 => ?_) (fun p1 h1 => ?_) <;> clear h0
  · exact hk72 h1
  · refine mw_il (i := 0) (pc' := 29) (by decide +kernel) rfl ?_
    refine mw_c (v := 100) (pc' := 31) (by decide +kernel) ?_
    refine mw_dv (by decide +kernel) h1 (fun v1 h2 => ?_); clear h1
    refine mw_is (i := 3) (pc' := 33) (L' := [some (.int l0), d1, some (.ref l2), some (.int v1), d4, some (.int l5), some (.int l6)]) (by decide +kernel) rfl rfl ?_
    refine mw_il (i := 3) (pc' := 34) (by decide +kernel) rfl ?_
    refine mw_c (v := 100) (pc' := 36) (by decide +kernel) ?_
    refine mw_a (ins := .imul) (pc' := 37) (by decide +kernel) rfl ?_
    refine mw_il (i := 0) (pc' := 38) (by decide +kernel) rfl ?_
    refine mw_a (ins := .isub) (pc' := 39) (by decide +kernel) rfl ?_
    refine mw_is (i := 4) (pc' := 41) (L' := [some (.int l0), d1, some (.ref l2), some (.int v1), some (.int ((v1 * 100) - l0)), some (.int l5), some (.int l6)]) (by decide +kernel) rfl rfl ?_
    refine mw_il (i := 3) (pc' := 42) (by decide +kernel) rfl ?_
    refine mw_is (i := 0) (pc' := 43) (L' := [some (.int v1), d1, some (.ref l2), some (.int v1), some (.int ((v1 * 100) - l0)), some (.int l5), some (.int l6)]) (by decide +kernel) rfl rfl ?_
    refine mw_rl (i := 2) (pc' := 44) (by decide +kernel) rfl ?_
    refine mw_inc (i := 5) (z := (-1)) (pc' := 47) (L' := [some (.int v1), d1, some (.ref l2), some (.int v1), some (.int ((v1 * 100) - l0)), some (.int (l5 + (-1))), some (.int l6)]) (by decide +kernel) rfl rfl rfl ?_
    refine mw_il (i := 5) (pc' := 49) (by decide +kernel) rfl ?_
    refine mw_gsV (ix := 83) (q := 5) (v := .ref (K (nS + 2))) (by decide +kernel) rfl ?_
    refine mw_il (i := 4) (pc' := 54) (by decide +kernel) rfl ?_
    refine mw_bl (by decide +kernel) h2 (fun v2 h3 => ?_); clear h2
    refine mw_bs (by decide +kernel) h3 (fun v3 h4 => ?_); clear h3
    refine mw_rl (i := 2) (pc' := 57) (by decide +kernel) rfl ?_
    refine mw_inc (i := 5) (z := (-1)) (pc' := 60) (L' := [some (.int v1), d1, some (.ref l2), some (.int v1), some (.int ((v1 * 100) - l0)), some (.int ((l5 + (-1)) + (-1))), some (.int l6)]) (by decide +kernel) rfl rfl rfl ?_
    refine mw_il (i := 5) (pc' := 62) (by decide +kernel) rfl ?_
    refine mw_gsV (ix := 87) (q := 6) (v := .ref (K (nS + 3))) (by decide +kernel) rfl ?_
    refine mw_il (i := 4) (pc' := 67) (by decide +kernel) rfl ?_
    refine mw_bl (by decide +kernel) h4 (fun v4 h5 => ?_); clear h4
    refine mw_bs (by decide +kernel) h5 (fun v5 h6 => ?_); clear h5
    refine mw_go (t := 22) (by decide +kernel) ?_
    exact hk22 h6
def wJ6_getChars_ba4f3_l22 (K J : Nat → Nat) (fu : Nat) (F : VF) (k72 : HS → HI → HR → Int32 → Nat → Int32 → Int32 → Prop) : Nat → HS → HI → HR → Int32 → Nat → Int32 → Int32 → Prop
  | 0 => fun _ _ _ _ _ _ _ => False
  | n + 1 => wJ6_getChars_ba4f3_b22 K J fu F (wJ6_getChars_ba4f3_l22 K J fu F k72 n) k72
theorem vwJ6_getChars_ba4f3_l22 {l : Launch} {K J : Nat → Nat} {fu : Nat} {F : VF} {k72 : HS → HI → HR → Int32 → Nat → Int32 → Int32 → Prop} (hk72 : ∀ {sh : HS} {I : HI} {R : HR} {l0 : Int32} {l2 : Nat} {l5 : Int32} {l6 : Int32} {d1 d3 d4 : Option Value}, k72 sh I R l0 l2 l5 l6 → MW l K J 148 72 [some (.int l0), d1, some (.ref l2), d3, d4, some (.int l5), some (.int l6)] [] sh I R (0, 0) F) : ∀ (n : Nat) {sh : HS} {I : HI} {R : HR} {l0 : Int32} {l2 : Nat} {l5 : Int32} {l6 : Int32} {d1 d3 d4 : Option Value} (_ : wJ6_getChars_ba4f3_l22 K J fu F k72 n sh I R l0 l2 l5 l6), MW l K J 148 22 [some (.int l0), d1, some (.ref l2), d3, d4, some (.int l5), some (.int l6)] [] sh I R (0, 0) F := by
  intro n
  induction n with
  | zero => exact fun h0 => h0.elim
  | succ n ih => exact fun h0 => vwJ6_getChars_ba4f3_b22 ih hk72 h0
def wJ6_getChars_ba4f3_b118 (K J : Nat → Nat) (fu : Nat) (F : VF) (sh : HS) (I : HI) (R : HR) (l5 : Int32) : Prop :=
  F (.inl (some (.int l5))) sh I R
theorem vwJ6_getChars_ba4f3_b118 {l : Launch} {K J : Nat → Nat} {fu : Nat} {F : VF} {sh : HS} {I : HI} {R : HR} {l5 : Int32} {d0 d1 d2 d3 d4 d6 : Option Value} (h0 : wJ6_getChars_ba4f3_b118 K J fu F sh I R l5) : MW l K J 148 118 [d0, d1, d2, d3, d4, some (.int l5), d6] [] sh I R (0, 0) F := by
  unfold wJ6_getChars_ba4f3_b118 at h0
  refine mw_il (i := 5) (pc' := 120) (by decide +kernel) rfl ?_
  exact mw_ri (X := 0) (Y := 0) (by decide +kernel) ⟨Nat.le_refl _, Nat.le_refl _⟩ h0
def wJ6_getChars_ba4f3_b104 (K J : Nat → Nat) (fu : Nat) (F : VF) (sh : HS) (I : HI) (R : HR) (l2 : Nat) (l5 : Int32) (l6 : Int32) : Prop :=
  if l6 = 0 then
    ((wJ6_getChars_ba4f3_b118 K J fu F) sh I R l5)
  else
    (wB (oBs sh I l2 (l5 + (-1)) 45) fun v8 =>
    (wJ6_getChars_ba4f3_b118 K J fu F) sh v8 R (l5 + (-1)))
theorem vwJ6_getChars_ba4f3_b104 {l : Launch} {K J : Nat → Nat} {fu : Nat} {F : VF} {sh : HS} {I : HI} {R : HR} {l2 : Nat} {l5 : Int32} {l6 : Int32} {d0 d1 d3 d4 : Option Value} (h0 : wJ6_getChars_ba4f3_b104 K J fu F sh I R l2 l5 l6) : MW l K J 148 104 [d0, d1, some (.ref l2), d3, d4, some (.int l5), some (.int l6)] [] sh I R (0, 0) F := by
  unfold wJ6_getChars_ba4f3_b104 at h0
  refine mw_il (i := 6) (pc' := 106) (by decide +kernel) rfl ?_
  refine mw_if (ins := .ifCond .eq 12) (t := 118) (pc' := 109) (by decide +kernel) rfl rfl rfl h0 (fun p1 h1 => ?_) (fun p1 h1 => ?_) <;> clear h0
  · exact (vwJ6_getChars_ba4f3_b118) h1
  · refine mw_rl (i := 2) (pc' := 110) (by decide +kernel) rfl ?_
    refine mw_inc (i := 5) (z := (-1)) (pc' := 113) (L' := [d0, d1, some (.ref l2), d3, d4, some (.int (l5 + (-1))), some (.int l6)]) (by decide +kernel) rfl rfl rfl ?_
    refine mw_il (i := 5) (pc' := 115) (by decide +kernel) rfl ?_
    refine mw_c (v := 45) (pc' := 117) (by decide +kernel) ?_
    refine mw_bs (by decide +kernel) h1 (fun v8 h2 => ?_); clear h1
    exact (vwJ6_getChars_ba4f3_b118) h2
def wJ6_getChars_ba4f3_b72 (K J : Nat → Nat) (fu : Nat) (F : VF) (sh : HS) (I : HI) (R : HR) (l0 : Int32) (l2 : Nat) (l5 : Int32) (l6 : Int32) : Prop :=
  wB (oBb sh I (K (nS + 2)) (-l0)) fun v6 =>
  wB (oBs sh I l2 (l5 + (-1)) v6) fun v7 =>
  if ((-9) : Int32) ≤ l0 then
    ((wJ6_getChars_ba4f3_b104 K J fu F) sh v7 R l2 (l5 + (-1)) l6)
  else
    (wB (oBb sh v7 (K (nS + 3)) (-l0)) fun v9 =>
    wB (oBs sh v7 l2 ((l5 + (-1)) + (-1)) v9) fun v10 =>
    (wJ6_getChars_ba4f3_b104 K J fu F) sh v10 R l2 ((l5 + (-1)) + (-1)) l6)
theorem vwJ6_getChars_ba4f3_b72 {l : Launch} {K J : Nat → Nat} {fu : Nat} {F : VF} {sh : HS} {I : HI} {R : HR} {l0 : Int32} {l2 : Nat} {l5 : Int32} {l6 : Int32} {d1 d3 d4 : Option Value} (h0 : wJ6_getChars_ba4f3_b72 K J fu F sh I R l0 l2 l5 l6) : MW l K J 148 72 [some (.int l0), d1, some (.ref l2), d3, d4, some (.int l5), some (.int l6)] [] sh I R (0, 0) F := by
  unfold wJ6_getChars_ba4f3_b72 at h0
  refine mw_rl (i := 2) (pc' := 73) (by decide +kernel) rfl ?_
  refine mw_inc (i := 5) (z := (-1)) (pc' := 76) (L' := [some (.int l0), d1, some (.ref l2), d3, d4, some (.int (l5 + (-1))), some (.int l6)]) (by decide +kernel) rfl rfl rfl ?_
  refine mw_il (i := 5) (pc' := 78) (by decide +kernel) rfl ?_
  refine mw_gsV (ix := 83) (q := 5) (v := .ref (K (nS + 2))) (by decide +kernel) rfl ?_
  refine mw_il (i := 0) (pc' := 82) (by decide +kernel) rfl ?_
  refine mw_a (ins := .ineg) (pc' := 83) (by decide +kernel) rfl ?_
  refine mw_bl (by decide +kernel) h0 (fun v6 h1 => ?_); clear h0
  refine mw_bs (by decide +kernel) h1 (fun v7 h2 => ?_); clear h1
  refine mw_il (i := 0) (pc' := 86) (by decide +kernel) rfl ?_
  refine mw_c (v := (-9)) (pc' := 88) (by decide +kernel) ?_
  refine mw_if (ins := .if_icmp .ge 16) (t := 104) (pc' := 91) (by decide +kernel) rfl rfl rfl h2 (fun p3 h3 => ?_) (fun p3 h3 => ?_) <;> clear h2
  · exact (vwJ6_getChars_ba4f3_b104) h3
  · refine mw_rl (i := 2) (pc' := 92) (by decide +kernel) rfl ?_
    refine mw_inc (i := 5) (z := (-1)) (pc' := 95) (L' := [some (.int l0), d1, some (.ref l2), d3, d4, some (.int ((l5 + (-1)) + (-1))), some (.int l6)]) (by decide +kernel) rfl rfl rfl ?_
    refine mw_il (i := 5) (pc' := 97) (by decide +kernel) rfl ?_
    refine mw_gsV (ix := 87) (q := 6) (v := .ref (K (nS + 3))) (by decide +kernel) rfl ?_
    refine mw_il (i := 0) (pc' := 101) (by decide +kernel) rfl ?_
    refine mw_a (ins := .ineg) (pc' := 102) (by decide +kernel) rfl ?_
    refine mw_bl (by decide +kernel) h3 (fun v9 h4 => ?_); clear h3
    refine mw_bs (by decide +kernel) h4 (fun v10 h5 => ?_); clear h4
    exact (vwJ6_getChars_ba4f3_b104) h5
def wJ6_getChars_ba4f3_b12 (K J : Nat → Nat) (fu : Nat) (F : VF) (sh : HS) (I : HI) (R : HR) (l0 : Int32) (l2 : Nat) (l5 : Int32) (s0 : Int32) : Prop :=
  if s0 = 0 then
    ((wJ6_getChars_ba4f3_l22 K J fu F (wJ6_getChars_ba4f3_b72 K J fu F) fu) sh I R (-l0) l2 l5 s0)
  else
    ((wJ6_getChars_ba4f3_l22 K J fu F (wJ6_getChars_ba4f3_b72 K J fu F) fu) sh I R l0 l2 l5 s0)
theorem vwJ6_getChars_ba4f3_b12 {l : Launch} {K J : Nat → Nat} {fu : Nat} {F : VF} {sh : HS} {I : HI} {R : HR} {l0 : Int32} {l2 : Nat} {l5 : Int32} {s0 : Int32} {d1 d3 d4 d6 : Option Value} (h0 : wJ6_getChars_ba4f3_b12 K J fu F sh I R l0 l2 l5 s0) : MW l K J 148 12 [some (.int l0), d1, some (.ref l2), d3, d4, some (.int l5), d6] [.int s0] sh I R (0, 0) F := by
  unfold wJ6_getChars_ba4f3_b12 at h0
  refine mw_is (i := 6) (pc' := 14) (L' := [some (.int l0), d1, some (.ref l2), d3, d4, some (.int l5), some (.int s0)]) (by decide +kernel) rfl rfl ?_
  refine mw_il (i := 6) (pc' := 16) (by decide +kernel) rfl ?_
  refine mw_ifn (ins := .ifCond .ne 6) (t := 22) (pc' := 19) (by decide +kernel) rfl rfl rfl h0 (fun p1 h1 => ?_) (fun p1 h1 => ?_) <;> clear h0
  · exact (vwJ6_getChars_ba4f3_l22 (vwJ6_getChars_ba4f3_b72) fu) h1
  · refine mw_il (i := 0) (pc' := 20) (by decide +kernel) rfl ?_
    refine mw_a (ins := .ineg) (pc' := 21) (by decide +kernel) rfl ?_
    refine mw_is (i := 0) (pc' := 22) (L' := [some (.int (-l0)), d1, some (.ref l2), d3, d4, some (.int l5), some (.int s0)]) (by decide +kernel) rfl rfl ?_
    exact (vwJ6_getChars_ba4f3_l22 (vwJ6_getChars_ba4f3_b72) fu) h1
def wJ6_getChars_ba4f3 (K J : Nat → Nat) (fu : Nat) (sh : HS) (I : HI) (R : HR) (l0 : Int32) (l1 : Int32) (l2 : Nat) (F : VF) : Prop :=
  if 0 ≤ l0 then
    ((wJ6_getChars_ba4f3_b12 K J fu F) sh I R l0 l2 l1 0)
  else
    ((wJ6_getChars_ba4f3_b12 K J fu F) sh I R l0 l2 l1 1)
theorem vwJ6_getChars_ba4f3 {l : Launch} {K J : Nat → Nat} {fu : Nat} {sh : HS} {I : HI} {R : HR} {l0 : Int32} {l1 : Int32} {l2 : Nat} {F : VF} (h0 : wJ6_getChars_ba4f3 K J fu sh I R l0 l1 l2 F) : MW l K J 148 0 (ent (mL 148) [.int l0, .int l1, .ref l2]) [] sh I R (0, 0) F := by
  unfold wJ6_getChars_ba4f3 at h0
  have ml : mL 148 = 7 := by decide +kernel
  rw [ml]
  show MW l K J 148 0 [some (.int l0), some (.int l1), some (.ref l2), none, none, none, none] [] sh I R (0, 0) F
  refine mw_il (i := 1) (pc' := 1) (by decide +kernel) rfl ?_
  refine mw_is (i := 5) (pc' := 3) (L' := [some (.int l0), some (.int l1), some (.ref l2), none, none, some (.int l1), none]) (by decide +kernel) rfl rfl ?_
  refine mw_il (i := 0) (pc' := 4) (by decide +kernel) rfl ?_
  refine mw_if (ins := .ifCond .ge 7) (t := 11) (pc' := 7) (by decide +kernel) rfl rfl rfl h0 (fun p1 h1 => ?_) (fun p1 h1 => ?_) <;> clear h0
  · refine mw_c (v := 0) (pc' := 12) (by decide +kernel) ?_
    exact (vwJ6_getChars_ba4f3_b12) h1
  · refine mw_c (v := 1) (pc' := 8) (by decide +kernel) ?_
    refine mw_go (t := 12) (by decide +kernel) ?_
    exact (vwJ6_getChars_ba4f3_b12) h1
/- ('J5', 'append_c97b9') -/
def wJ5_append_c97b9 (K J : Nat → Nat) (fu : Nat) (sh : HS) (I : HI) (R : HR) (l0 : Nat) (l1 : Int32) (F : VF) : Prop :=
  wB (oI sh I l0 13 3) fun v1 =>
  (0 ≤ 1 ∧ 0 ≤ 1300) ∧
  wB (fJ6_stringSize_0f7a4 fu sh I R l1) fun v3 =>
  rcvB sh l0 13 = true ∧
  (0 + 1 ≤ 1 ∧ 0 + 1300 ≤ 1300) ∧
  wJ5_ensureCapacityInternal_d00df K J fu sh I R l0 (v1 + v3) (qwV fun t6 i6 j6 =>
  rcvB t6 l0 13 = true ∧
  ((0 + 1) ≤ 1 ∧ (0 + 1300) ≤ 1300) ∧
  wJ5_isLatin1_aae02 K J fu t6 i6 j6 l0 (qwI fun v9 t9 i9 j9 =>
  if v9 = 0 then
    (wB (oR t9 j9 l0 13 0) fun v10 =>
    False)
  else
    (wB (oR t9 j9 l0 13 0) fun v11 =>
    ((0 + 1) ≤ 1 ∧ (0 + 1300) ≤ 1300) ∧
    wJ6_getChars_ba4f3 K J fu t9 i9 j9 l1 (v1 + v3) v11 (qwI fun v13 t13 i13 j13 =>
    wB (oP t13 i13 l0 13 3 (v1 + v3)) fun v14 =>
    ((0 + 1) ≤ 1 ∧ (0 + 1300) ≤ 1300) ∧
    F (.inl (some (.ref l0))) t13 v14 j13))))
theorem vwJ5_append_c97b9 {l : Launch} {K J : Nat → Nat} {fu : Nat} {sh : HS} {I : HI} {R : HR} {l0 : Nat} {l1 : Int32} {F : VF} (h0 : wJ5_append_c97b9 K J fu sh I R l0 l1 F) : MW l K J 203 0 (ent (mL 203) [.ref l0, .int l1]) [] sh I R (0, 0) F := by
  unfold wJ5_append_c97b9 at h0
  have ml : mL 203 = 4 := by decide +kernel
  rw [ml]
  show MW l K J 203 0 [some (.ref l0), some (.int l1), none, none] [] sh I R (0, 0) F
  refine mw_rl (i := 0) (pc' := 1) (by decide +kernel) rfl ?_
  refine mw_fI (ix := 79) (t := 13) (j := 3) (ty := 0) (md := 0) (by decide +kernel) (by decide) h0 (fun v1 h1 => ?_); clear h0
  refine mw_is (i := 2) (pc' := 5) (L' := [some (.ref l0), some (.int l1), some (.int v1), none]) (by decide +kernel) rfl rfl ?_
  refine mw_il (i := 2) (pc' := 6) (by decide +kernel) rfl ?_
  refine mw_il (i := 1) (pc' := 7) (by decide +kernel) rfl ?_
  obtain ⟨r2, h2⟩ := h1
  refine hJ6_stringSize_0f7a4 (X := 1) (Y := 1300) (by decide +kernel) r2 rfl h2 (fun v3 h3 => ?_); clear h2
  refine mw_a (ins := .iadd) (pc' := 11) (by decide +kernel) rfl ?_
  refine mw_is (i := 3) (pc' := 12) (L' := [some (.ref l0), some (.int l1), some (.int v1), some (.int (v1 + v3))]) (by decide +kernel) rfl rfl ?_
  refine mw_rl (i := 0) (pc' := 13) (by decide +kernel) rfl ?_
  refine mw_il (i := 3) (pc' := 14) (by decide +kernel) rfl ?_
  obtain ⟨q4, h4⟩ := h3
  obtain ⟨r5, h5⟩ := h4
  refine mwx_V (q := 199) (na := 2) (ce := 1) (sl := 1300) (X := 1) (Y := 1300) (as := [.int (v1 + v3), .ref l0]) (by decide +kernel) r5 rfl rfl (by rw [show mL 199 = 3 from by decide +kernel]; rfl) rfl (fun _ => rv_of q4 (by decide +kernel)) (fun z => absurd z (by decide +kernel)) (vwJ5_ensureCapacityInternal_d00df h5) (fun t6 i6 j6 h6 => ?_); clear h5
  refine mw_rl (i := 0) (pc' := 18) (by decide +kernel) rfl ?_
  obtain ⟨q7, h7⟩ := h6
  obtain ⟨r8, h8⟩ := h7
  refine mwx_I (q := 205) (na := 1) (ce := 0) (sl := 0) (X := 1) (Y := 1300) (as := [.ref l0]) (by decide +kernel) r8 rfl rfl (by rw [show mL 205 = 1 from by decide +kernel]; rfl) rfl (fun _ => rv_of q7 (by decide +kernel)) (fun z => absurd z (by decide +kernel)) (vwJ5_isLatin1_aae02 h8) (fun v9 t9 i9 j9 h9 => ?_); clear h8
  refine mw_if (ins := .ifCond .eq 16) (t := 37) (pc' := 24) (by decide +kernel) rfl rfl rfl h9 (fun p10 h10 => ?_) (fun p10 h10 => ?_) <;> clear h9
  · refine mw_il (i := 1) (pc' := 38) (by decide +kernel) rfl ?_
    refine mw_il (i := 2) (pc' := 39) (by decide +kernel) rfl ?_
    refine mw_il (i := 3) (pc' := 40) (by decide +kernel) rfl ?_
    refine mw_rl (i := 0) (pc' := 41) (by decide +kernel) rfl ?_
    refine mw_fR (ix := 15) (t := 13) (j := 0) (md := 0) (by decide +kernel) h10 (fun v10 h11 => ?_); clear h10
    exact h11.elim
  · refine mw_il (i := 1) (pc' := 25) (by decide +kernel) rfl ?_
    refine mw_il (i := 3) (pc' := 26) (by decide +kernel) rfl ?_
    refine mw_rl (i := 0) (pc' := 27) (by decide +kernel) rfl ?_
    refine mw_fR (ix := 15) (t := 13) (j := 0) (md := 0) (by decide +kernel) h10 (fun v11 h11 => ?_); clear h10
    obtain ⟨r12, h12⟩ := h11
    refine mwx_I (q := 148) (na := 3) (ce := 0) (sl := 0) (X := 1) (Y := 1300) (as := [.ref v11, .int (v1 + v3), .int l1]) (by decide +kernel) r12 rfl rfl (by rw [show mL 148 = 7 from by decide +kernel]; rfl) rfl (fun z => absurd z (by decide +kernel)) (fun z => absurd z (by decide +kernel)) (vwJ6_getChars_ba4f3 h12) (fun v13 t13 i13 j13 h13 => ?_); clear h12
    refine mw_pop (by decide +kernel) rfl ?_
    refine mw_go (t := 48) (by decide +kernel) ?_
    refine mw_rl (i := 0) (pc' := 49) (by decide +kernel) rfl ?_
    refine mw_il (i := 3) (pc' := 50) (by decide +kernel) rfl ?_
    refine mw_pI (ix := 79) (t := 13) (j := 3) (ty := 0) (md := 0) (by decide +kernel) (Or.inl rfl) h13 (fun v14 h14 => ?_); clear h13
    refine mw_rl (i := 0) (pc' := 54) (by decide +kernel) rfl ?_
    obtain ⟨r15, h15⟩ := h14
    exact mw_rr (v := some l0) (X := 1) (Y := 1300) (by decide +kernel) r15 h15
/- ('J4', 'append_bf812') -/
def wJ4_append_bf812 (K J : Nat → Nat) (fu : Nat) (sh : HS) (I : HI) (R : HR) (l0 : Nat) (l1 : Int32) (F : VF) : Prop :=
  isT sh l0 13 = true ∧
  (0 + 1 ≤ 1 ∧ 0 + 1300 ≤ 1300) ∧
  wJ5_append_c97b9 K J fu sh I R l0 l1 (qwR fun v3 t3 i3 j3 =>
  ((0 + 1) ≤ 1 ∧ (0 + 1300) ≤ 1300) ∧
  F (.inl (some (.ref l0))) t3 i3 j3)
theorem vwJ4_append_bf812 {l : Launch} {K J : Nat → Nat} {fu : Nat} {sh : HS} {I : HI} {R : HR} {l0 : Nat} {l1 : Int32} {F : VF} (h0 : wJ4_append_bf812 K J fu sh I R l0 l1 F) : MW l K J 159 0 (ent (mL 159) [.ref l0, .int l1]) [] sh I R (0, 0) F := by
  unfold wJ4_append_bf812 at h0
  have ml : mL 159 = 2 := by decide +kernel
  rw [ml]
  show MW l K J 159 0 [some (.ref l0), some (.int l1)] [] sh I R (0, 0) F
  refine mw_rl (i := 0) (pc' := 1) (by decide +kernel) rfl ?_
  refine mw_il (i := 1) (pc' := 2) (by decide +kernel) rfl ?_
  obtain ⟨q1, h1⟩ := h0
  obtain ⟨r2, h2⟩ := h1
  obtain ⟨m3, q9⟩ := isT_iff.mp q1
  refine mwx_SU (ix := 53) (q := 203) (na := 2) (ce := 1) (sl := 1300) (X := 1) (Y := 1300) (as := [.int l1]) (by decide +kernel) r2 rfl rfl rfl rfl q9 (vwJ5_append_c97b9 h2) (fun _ _ _ g => by obtain ⟨_, e9, -⟩ := g; cases e9) (fun v9 t3 i3 j3 g => ?_) (fun _ _ _ _ g => by obtain ⟨_, e9, -⟩ := g; cases e9)
  obtain ⟨v3, e9, h3⟩ := g; cases e9; clear h2
  refine mw_pop (by decide +kernel) rfl ?_
  refine mw_rl (i := 0) (pc' := 7) (by decide +kernel) rfl ?_
  obtain ⟨r4, h4⟩ := h3
  exact mw_rr (v := some l0) (X := 1) (Y := 1300) (by decide +kernel) r4 h4
/- ('J1', 'canEncode_fc78d') -/
def wJ1_canEncode_fc78d_b12 (K J : Nat → Nat) (fu : Nat) (F : VF) (sh : HS) (I : HI) (R : HR) (s0 : Int32) : Prop :=
  (s0 = 0 ∨ s0 = 1) ∧ F (.inl (some (.int s0))) sh I R
theorem vwJ1_canEncode_fc78d_b12 {l : Launch} {K J : Nat → Nat} {fu : Nat} {F : VF} {sh : HS} {I : HI} {R : HR} {s0 : Int32} {d0 : Option Value} (h0 : wJ1_canEncode_fc78d_b12 K J fu F sh I R s0) : MW l K J 191 12 [d0] [.int s0] sh I R (0, 0) F := by
  unfold wJ1_canEncode_fc78d_b12 at h0
  exact mw_rz (X := 0) (Y := 0) (by decide +kernel) h0.1 ⟨Nat.le_refl _, Nat.le_refl _⟩ h0.2
def wJ1_canEncode_fc78d (K J : Nat → Nat) (fu : Nat) (sh : HS) (I : HI) (R : HR) (l0 : Int32) (F : VF) : Prop :=
  if (255 : Int32) < l0 then
    ((wJ1_canEncode_fc78d_b12 K J fu F) sh I R 0)
  else
    ((wJ1_canEncode_fc78d_b12 K J fu F) sh I R 1)
theorem vwJ1_canEncode_fc78d {l : Launch} {K J : Nat → Nat} {fu : Nat} {sh : HS} {I : HI} {R : HR} {l0 : Int32} {F : VF} (h0 : wJ1_canEncode_fc78d K J fu sh I R l0 F) : MW l K J 191 0 (ent (mL 191) [.int l0]) [] sh I R (0, 0) F := by
  unfold wJ1_canEncode_fc78d at h0
  have ml : mL 191 = 1 := by decide +kernel
  rw [ml]
  show MW l K J 191 0 [some (.int l0)] [] sh I R (0, 0) F
  refine mw_il (i := 0) (pc' := 1) (by decide +kernel) rfl ?_
  refine mw_c (v := 255) (pc' := 4) (by decide +kernel) ?_
  refine mw_if (ins := .if_icmp .gt 7) (t := 11) (pc' := 7) (by decide +kernel) rfl rfl rfl h0 (fun p1 h1 => ?_) (fun p1 h1 => ?_) <;> clear h0
  · refine mw_c (v := 0) (pc' := 12) (by decide +kernel) ?_
    exact (vwJ1_canEncode_fc78d_b12) h1
  · refine mw_c (v := 1) (pc' := 8) (by decide +kernel) ?_
    refine mw_go (t := 12) (by decide +kernel) ?_
    exact (vwJ1_canEncode_fc78d_b12) h1
/- ('J5', 'append_3fe6f') -/
def wJ5_append_3fe6f_b45 (K J : Nat → Nat) (fu : Nat) (F : VF) (sh : HS) (I : HI) (R : HR) (c1 : Nat) (c2 : Nat) (l0 : Nat) (l1 : Int32) : Prop :=
  rcvB sh l0 13 = true ∧
  (c1 ≤ 1 ∧ c2 ≤ 1300) ∧
  wJ5_isLatin1_aae02 K J fu sh I R l0 (qwI fun v10 t10 i10 j10 =>
  if v10 = 0 then
    (wB (oR t10 j10 l0 13 0) fun v11 =>
    wB (oI t10 i10 l0 13 3) fun v12 =>
    wB (oP t10 i10 l0 13 3 (v12 + 1)) fun v13 =>
    False)
  else
    (False))
theorem vwJ5_append_3fe6f_b45 {l : Launch} {K J : Nat → Nat} {fu : Nat} {F : VF} {sh : HS} {I : HI} {R : HR} {c1 : Nat} {c2 : Nat} {l0 : Nat} {l1 : Int32} (h0 : wJ5_append_3fe6f_b45 K J fu F sh I R c1 c2 l0 l1) : MW l K J 202 45 [some (.ref l0), some (.int l1)] [] sh I R (c1, c2) F := by
  unfold wJ5_append_3fe6f_b45 at h0
  refine mw_rl (i := 0) (pc' := 46) (by decide +kernel) rfl ?_
  obtain ⟨q8, h1⟩ := h0
  obtain ⟨r9, h2⟩ := h1
  refine mwx_I (q := 205) (na := 1) (ce := 0) (sl := 0) (X := 1) (Y := 1300) (as := [.ref l0]) (by decide +kernel) r9 rfl rfl (by rw [show mL 205 = 1 from by decide +kernel]; rfl) rfl (fun _ => rv_of q8 (by decide +kernel)) (fun z => absurd z (by decide +kernel)) (vwJ5_isLatin1_aae02 h2) (fun v10 t10 i10 j10 h3 => ?_); clear h2
  refine mw_if (ins := .ifCond .eq 7) (t := 56) (pc' := 52) (by decide +kernel) rfl rfl rfl h3 (fun p4 h4 => ?_) (fun p4 h4 => ?_) <;> clear h3
  · refine mw_rl (i := 0) (pc' := 57) (by decide +kernel) rfl ?_
    refine mw_fR (ix := 15) (t := 13) (j := 0) (md := 0) (by decide +kernel) h4 (fun v11 h5 => ?_); clear h4
    refine mw_rl (i := 0) (pc' := 61) (by decide +kernel) rfl ?_
    refine mw_a (ins := .dup) (pc' := 62) (by decide +kernel) rfl ?_
    refine mw_fI (ix := 79) (t := 13) (j := 3) (ty := 0) (md := 0) (by decide +kernel) (by decide) h5 (fun v12 h6 => ?_); clear h5
    refine mw_dx (by decide +kernel) rfl rfl ?_
    refine mw_c (v := 1) (pc' := 67) (by decide +kernel) ?_
    refine mw_a (ins := .iadd) (pc' := 68) (by decide +kernel) rfl ?_
    refine mw_pI (ix := 79) (t := 13) (j := 3) (ty := 0) (md := 0) (by decide +kernel) (Or.inl rfl) h6 (fun v13 h7 => ?_); clear h6
    refine mw_il (i := 1) (pc' := 72) (by decide +kernel) rfl ?_
    exact h7.elim
  · refine mw_rl (i := 0) (pc' := 53) (by decide +kernel) rfl ?_
    exact h4.elim
def wJ5_append_3fe6f (K J : Nat → Nat) (fu : Nat) (sh : HS) (I : HI) (R : HR) (l0 : Nat) (l1 : Int32) (F : VF) : Prop :=
  wB (oI sh I l0 13 3) fun v1 =>
  rcvB sh l0 13 = true ∧
  (0 + 1 ≤ 1 ∧ 0 + 1300 ≤ 1300) ∧
  wJ5_ensureCapacityInternal_d00df K J fu sh I R l0 (v1 + 1) (qwV fun t4 i4 j4 =>
  rcvB t4 l0 13 = true ∧
  ((0 + 1) ≤ 1 ∧ (0 + 1300) ≤ 1300) ∧
  wJ5_isLatin1_aae02 K J fu t4 i4 j4 l0 (qwI fun v7 t7 i7 j7 =>
  if v7 = 0 then
    ((wJ5_append_3fe6f_b45 K J fu F) t7 i7 j7 (0 + 1) (0 + 1300) l0 l1)
  else
    (((0 + 1) ≤ 1 ∧ (0 + 1300) ≤ 1300) ∧
    wJ1_canEncode_fc78d K J fu t7 i7 j7 l1 (qwI fun v15 t15 i15 j15 =>
    if v15 = 0 then
      ((wJ5_append_3fe6f_b45 K J fu F) t15 i15 j15 (0 + 1) (0 + 1300) l0 l1)
    else
      (wB (oR t15 j15 l0 13 0) fun v16 =>
      wB (oI t15 i15 l0 13 3) fun v17 =>
      wB (oP t15 i15 l0 13 3 (v17 + 1)) fun v18 =>
      wB (oBs t15 v18 v16 v17 (iByt l1)) fun v19 =>
      ((0 + 1) ≤ 1 ∧ (0 + 1300) ≤ 1300) ∧
      F (.inl (some (.ref l0))) t15 v19 j15)))))
theorem vwJ5_append_3fe6f {l : Launch} {K J : Nat → Nat} {fu : Nat} {sh : HS} {I : HI} {R : HR} {l0 : Nat} {l1 : Int32} {F : VF} (h0 : wJ5_append_3fe6f K J fu sh I R l0 l1 F) : MW l K J 202 0 (ent (mL 202) [.ref l0, .int l1]) [] sh I R (0, 0) F := by
  unfold wJ5_append_3fe6f at h0
  have ml : mL 202 = 2 := by decide +kernel
  rw [ml]
  show MW l K J 202 0 [some (.ref l0), some (.int l1)] [] sh I R (0, 0) F
  refine mw_rl (i := 0) (pc' := 1) (by decide +kernel) rfl ?_
  refine mw_rl (i := 0) (pc' := 2) (by decide +kernel) rfl ?_
  refine mw_fI (ix := 79) (t := 13) (j := 3) (ty := 0) (md := 0) (by decide +kernel) (by decide) h0 (fun v1 h1 => ?_); clear h0
  refine mw_c (v := 1) (pc' := 6) (by decide +kernel) ?_
  refine mw_a (ins := .iadd) (pc' := 7) (by decide +kernel) rfl ?_
  obtain ⟨q2, h2⟩ := h1
  obtain ⟨r3, h3⟩ := h2
  refine mwx_V (q := 199) (na := 2) (ce := 1) (sl := 1300) (X := 1) (Y := 1300) (as := [.int (v1 + 1), .ref l0]) (by decide +kernel) r3 rfl rfl (by rw [show mL 199 = 3 from by decide +kernel]; rfl) rfl (fun _ => rv_of q2 (by decide +kernel)) (fun z => absurd z (by decide +kernel)) (vwJ5_ensureCapacityInternal_d00df h3) (fun t4 i4 j4 h4 => ?_); clear h3
  refine mw_rl (i := 0) (pc' := 11) (by decide +kernel) rfl ?_
  obtain ⟨q5, h5⟩ := h4
  obtain ⟨r6, h6⟩ := h5
  refine mwx_I (q := 205) (na := 1) (ce := 0) (sl := 0) (X := 1) (Y := 1300) (as := [.ref l0]) (by decide +kernel) r6 rfl rfl (by rw [show mL 205 = 1 from by decide +kernel]; rfl) rfl (fun _ => rv_of q5 (by decide +kernel)) (fun z => absurd z (by decide +kernel)) (vwJ5_isLatin1_aae02 h6) (fun v7 t7 i7 j7 h7 => ?_); clear h6
  refine mw_if (ins := .ifCond .eq 31) (t := 45) (pc' := 17) (by decide +kernel) rfl rfl rfl h7 (fun p8 h8 => ?_) (fun p8 h8 => ?_) <;> clear h7
  · exact (vwJ5_append_3fe6f_b45) h8
  · refine mw_il (i := 1) (pc' := 18) (by decide +kernel) rfl ?_
    obtain ⟨r14, h9⟩ := h8
    refine mwx_I (q := 191) (na := 1) (ce := 0) (sl := 0) (X := 1) (Y := 1300) (as := [.int l1]) (by decide +kernel) r14 rfl rfl (by rw [show mL 191 = 1 from by decide +kernel]; rfl) rfl (fun z => absurd z (by decide +kernel)) (fun z => absurd z (by decide +kernel)) (vwJ1_canEncode_fc78d h9) (fun v15 t15 i15 j15 h10 => ?_); clear h9
    refine mw_if (ins := .ifCond .eq 24) (t := 45) (pc' := 24) (by decide +kernel) rfl rfl rfl h10 (fun p11 h11 => ?_) (fun p11 h11 => ?_) <;> clear h10
    · exact (vwJ5_append_3fe6f_b45) h11
    · refine mw_rl (i := 0) (pc' := 25) (by decide +kernel) rfl ?_
      refine mw_fR (ix := 15) (t := 13) (j := 0) (md := 0) (by decide +kernel) h11 (fun v16 h12 => ?_); clear h11
      refine mw_rl (i := 0) (pc' := 29) (by decide +kernel) rfl ?_
      refine mw_a (ins := .dup) (pc' := 30) (by decide +kernel) rfl ?_
      refine mw_fI (ix := 79) (t := 13) (j := 3) (ty := 0) (md := 0) (by decide +kernel) (by decide) h12 (fun v17 h13 => ?_); clear h12
      refine mw_dx (by decide +kernel) rfl rfl ?_
      refine mw_c (v := 1) (pc' := 35) (by decide +kernel) ?_
      refine mw_a (ins := .iadd) (pc' := 36) (by decide +kernel) rfl ?_
      refine mw_pI (ix := 79) (t := 13) (j := 3) (ty := 0) (md := 0) (by decide +kernel) (Or.inl rfl) h13 (fun v18 h14 => ?_); clear h13
      refine mw_il (i := 1) (pc' := 40) (by decide +kernel) rfl ?_
      refine mw_i2b (by decide +kernel) ?_
      refine mw_bs (by decide +kernel) h14 (fun v19 h15 => ?_); clear h14
      refine mw_go (t := 75) (by decide +kernel) ?_
      refine mw_rl (i := 0) (pc' := 76) (by decide +kernel) rfl ?_
      obtain ⟨r20, h16⟩ := h15
      exact mw_rr (v := some l0) (X := 1) (Y := 1300) (by decide +kernel) r20 h16
