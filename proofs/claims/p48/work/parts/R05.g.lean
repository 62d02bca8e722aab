/- ('Jxd2413', 'init_da8c8') -/
def wJxd2413_init_da8c8 (K J : Nat → Nat) (fu : Nat) (sh : HS) (I : HI) (R : HR) (l0 : Nat) (F : VF) : Prop :=
  F (.inl none) sh I R
theorem vwJxd2413_init_da8c8 {l : Launch} {K J : Nat → Nat} {fu : Nat} {sh : HS} {I : HI} {R : HR} {l0 : Nat} {F : VF} (h0 : wJxd2413_init_da8c8 K J fu sh I R l0 F) : MW l K J 215 0 (ent (mL 215) [.ref l0]) [] sh I R (0, 0) F := by
  unfold wJxd2413_init_da8c8 at h0
  have ml : mL 215 = 1 := by decide +kernel
  rw [ml]
  show MW l K J 215 0 [some (.ref l0)] [] sh I R (0, 0) F
  refine mw_rl (i := 0) (pc' := 1) (by decide +kernel) rfl ?_
  refine mw_oin (ix := 1) (X := 0) (Y := 0) (by decide +kernel) rfl ⟨Nat.le_refl _, Nat.le_refl _⟩ ?_
  exact mw_rv (X := 0) (Y := 0) (by decide +kernel) ⟨Nat.le_refl _, Nat.le_refl _⟩ h0
/- ('J6', 'init_d00df') -/
def wJ6_init_d00df (K J : Nat → Nat) (fu : Nat) (sh : HS) (I : HI) (R : HR) (l0 : Nat) (l1 : Int32) (F : VF) : Prop :=
  wJxd2413_init_da8c8 K J fu sh I R l0 (qwV fun t1 i1 j1 =>
  wB (oP t1 i1 l0 12 0 l1) fun v2 =>
  F (.inl none) t1 v2 j1)
theorem vwJ6_init_d00df {l : Launch} {K J : Nat → Nat} {fu : Nat} {sh : HS} {I : HI} {R : HR} {l0 : Nat} {l1 : Int32} {F : VF} (h0 : wJ6_init_d00df K J fu sh I R l0 l1 F) : MW l K J 151 0 (ent (mL 151) [.ref l0, .int l1]) [] sh I R (0, 0) F := by
  unfold wJ6_init_d00df at h0
  have ml : mL 151 = 2 := by decide +kernel
  rw [ml]
  show MW l K J 151 0 [some (.ref l0), some (.int l1)] [] sh I R (0, 0) F
  refine mw_rl (i := 0) (pc' := 1) (by decide +kernel) rfl ?_
  refine mwx_V (q := 215) (na := 1) (ce := 0) (sl := 0) (X := 0) (Y := 0) (as := [.ref l0]) (by decide +kernel) ⟨Nat.le_refl _, Nat.le_refl _⟩ rfl rfl (by rw [show mL 215 = 1 from by decide +kernel]; rfl) rfl (fun z => absurd z (by decide +kernel)) (fun _ => ⟨_, rfl⟩) (vwJxd2413_init_da8c8 h0) (fun t1 i1 j1 h1 => ?_); clear h0
  refine mw_rl (i := 0) (pc' := 5) (by decide +kernel) rfl ?_
  refine mw_il (i := 1) (pc' := 6) (by decide +kernel) rfl ?_
  refine mw_pI (ix := 205) (t := 12) (j := 0) (ty := 0) (md := 0) (by decide +kernel) (Or.inl rfl) h1 (fun v2 h2 => ?_); clear h1
  exact mw_rv (X := 0) (Y := 0) (by decide +kernel) ⟨Nat.le_refl _, Nat.le_refl _⟩ h2
/- ('J6', 'valueOf_2dffe') -/
def wJ6_valueOf_2dffe_b23 (K J : Nat → Nat) (fu : Nat) (F : VF) (sh : HS) (I : HI) (R : HR) (c1 : Nat) (c2 : Nat) (l0 : Int32) : Prop :=
  (c1 + 1 ≤ 1 ∧ c2 + 1 ≤ 1) ∧
  wNew sh I R 12 1 fun a2 t2 i2 j2 =>
  ((c1 + 1) ≤ 1 ∧ (c2 + 1) ≤ 1) ∧
  wJ6_init_d00df K J fu t2 i2 j2 a2 l0 (qwV fun t4 i4 j4 =>
  ((c1 + 1) ≤ 1 ∧ (c2 + 1) ≤ 1) ∧
  F (.inl (some (.ref a2))) t4 i4 j4)
theorem vwJ6_valueOf_2dffe_b23 {l : Launch} {K J : Nat → Nat} {fu : Nat} {F : VF} {sh : HS} {I : HI} {R : HR} {c1 : Nat} {c2 : Nat} {l0 : Int32} (h0 : wJ6_valueOf_2dffe_b23 K J fu F sh I R c1 c2 l0) : MW l K J 150 23 [some (.int l0)] [] sh I R (c1, c2) F := by
  unfold wJ6_valueOf_2dffe_b23 at h0
  obtain ⟨r1, h1⟩ := h0
  refine mw_new (ix := 1) (t := 12) (N := 1) (X := 1) (Y := 1) (by decide +kernel) r1 h1 (fun a2 t2 i2 j2 h2 => ?_); clear h1
  refine mw_a (ins := .dup) (pc' := 27) (by decide +kernel) rfl ?_
  refine mw_il (i := 0) (pc' := 28) (by decide +kernel) rfl ?_
  obtain ⟨r3, h3⟩ := h2
  refine mwx_V (q := 151) (na := 2) (ce := 0) (sl := 0) (X := 1) (Y := 1) (as := [.int l0, .ref a2]) (by decide +kernel) r3 rfl rfl (by rw [show mL 151 = 2 from by decide +kernel]; rfl) rfl (fun z => absurd z (by decide +kernel)) (fun _ => ⟨_, rfl⟩) (vwJ6_init_d00df h3) (fun t4 i4 j4 h4 => ?_); clear h3
  obtain ⟨r5, h5⟩ := h4
  exact mw_rr (v := some a2) (X := 1) (Y := 1) (by decide +kernel) r5 h5
def wJ6_valueOf_2dffe (K J : Nat → Nat) (fu : Nat) (sh : HS) (I : HI) (R : HR) (l0 : Int32) (F : VF) : Prop :=
  if l0 < ((-128) : Int32) then
    ((wJ6_valueOf_2dffe_b23 K J fu F) sh I R 0 0 l0)
  else
    (if (127 : Int32) < l0 then
      ((wJ6_valueOf_2dffe_b23 K J fu F) sh I R 0 0 l0)
    else
      (wB (oAr sh R (K (nS + 1)) 25 (l0 + 128)) fun v6 =>
      (0 ≤ 1 ∧ 0 ≤ 1) ∧
      F (.inl (some (.ref v6))) sh I R))
theorem vwJ6_valueOf_2dffe {l : Launch} {K J : Nat → Nat} {fu : Nat} {sh : HS} {I : HI} {R : HR} {l0 : Int32} {F : VF} (h0 : wJ6_valueOf_2dffe K J fu sh I R l0 F) : MW l K J 150 0 (ent (mL 150) [.int l0]) [] sh I R (0, 0) F := by
  unfold wJ6_valueOf_2dffe at h0
  have ml : mL 150 = 1 := by decide +kernel
  rw [ml]
  show MW l K J 150 0 [some (.int l0)] [] sh I R (0, 0) F
  refine mw_il (i := 0) (pc' := 1) (by decide +kernel) rfl ?_
  refine mw_c (v := (-128)) (pc' := 3) (by decide +kernel) ?_
  refine mw_if (ins := .if_icmp .lt 20) (t := 23) (pc' := 6) (by decide +kernel) rfl rfl rfl h0 (fun p1 h1 => ?_) (fun p1 h1 => ?_) <;> clear h0
  · exact (vwJ6_valueOf_2dffe_b23) h1
  · refine mw_il (i := 0) (pc' := 7) (by decide +kernel) rfl ?_
    refine mw_gsV (ix := 191) (q := 3) (v := .int 127) (by decide +kernel) rfl ?_
    refine mw_if (ins := .if_icmp .gt 13) (t := 23) (pc' := 13) (by decide +kernel) rfl rfl rfl h1 (fun p2 h2 => ?_) (fun p2 h2 => ?_) <;> clear h1
    · exact (vwJ6_valueOf_2dffe_b23) h2
    · refine mw_gsV (ix := 195) (q := 4) (v := .ref (K (nS + 1))) (by decide +kernel) rfl ?_
      refine mw_il (i := 0) (pc' := 17) (by decide +kernel) rfl ?_
      refine mw_c (v := 128) (pc' := 20) (by decide +kernel) ?_
      refine mw_a (ins := .iadd) (pc' := 21) (by decide +kernel) rfl ?_
      refine mw_aal (t := 25) (by decide +kernel) (by decide) h2 (fun v6 h3 => ?_); clear h2
      obtain ⟨r7, h4⟩ := h3
      exact mw_rr (v := some v6) (X := 1) (Y := 1) (by decide +kernel) r7 h4
/- ('Jx4a65c', 'set_bcc79') -/
def wJx4a65c_set_bcc79 (K J : Nat → Nat) (fu : Nat) (sh : HS) (I : HI) (R : HR) (l0 : Nat) (l1 : Int32) (l2 : Nat) (F : VF) : Prop :=
  wB (oI sh I l0 10 2) fun v1 =>
  wJ15_checkIndex_7cf53 K J fu sh I R l1 v1 (qwI fun v2 t2 i2 j2 =>
  rcvB t2 l0 10 = true ∧
  wJx4a65c_elementData_915e3 K J fu t2 i2 j2 l0 l1 (qwR fun v4 t4 i4 j4 =>
  wB (oR t4 j4 l0 10 1) fun v5 =>
  wB (oAs t4 j4 v5 l1 l2) fun v6 =>
  F (.inl (some (.ref v4))) t4 i4 v6))
theorem vwJx4a65c_set_bcc79 {l : Launch} {K J : Nat → Nat} {fu : Nat} {sh : HS} {I : HI} {R : HR} {l0 : Nat} {l1 : Int32} {l2 : Nat} {F : VF} (h0 : wJx4a65c_set_bcc79 K J fu sh I R l0 l1 l2 F) : MW l K J 136 0 (ent (mL 136) [.ref l0, .int l1, .ref l2]) [] sh I R (0, 0) F := by
  unfold wJx4a65c_set_bcc79 at h0
  have ml : mL 136 = 4 := by decide +kernel
  rw [ml]
  show MW l K J 136 0 [some (.ref l0), some (.int l1), some (.ref l2), none] [] sh I R (0, 0) F
  refine mw_il (i := 1) (pc' := 1) (by decide +kernel) rfl ?_
  refine mw_rl (i := 0) (pc' := 2) (by decide +kernel) rfl ?_
  refine mw_fI (ix := 48) (t := 10) (j := 2) (ty := 0) (md := 0) (by decide +kernel) (by decide) h0 (fun v1 h1 => ?_); clear h0
  refine mwx_I (q := 196) (na := 2) (ce := 0) (sl := 0) (X := 0) (Y := 0) (as := [.int v1, .int l1]) (by decide +kernel) ⟨Nat.le_refl _, Nat.le_refl _⟩ rfl rfl (by rw [show mL 196 = 2 from by decide +kernel]; rfl) rfl (fun z => absurd z (by decide +kernel)) (fun z => absurd z (by decide +kernel)) (vwJ15_checkIndex_7cf53 h1) (fun v2 t2 i2 j2 h2 => ?_); clear h1
  refine mw_pop (by decide +kernel) rfl ?_
  refine mw_rl (i := 0) (pc' := 10) (by decide +kernel) rfl ?_
  refine mw_il (i := 1) (pc' := 11) (by decide +kernel) rfl ?_
  obtain ⟨q3, h3⟩ := h2
  refine mwx_R (q := 134) (na := 2) (ce := 0) (sl := 0) (X := 0) (Y := 0) (as := [.int l1, .ref l0]) (by decide +kernel) ⟨Nat.le_refl _, Nat.le_refl _⟩ rfl rfl (by rw [show mL 134 = 2 from by decide +kernel]; rfl) rfl (fun _ => rv_of q3 (by decide +kernel)) (fun z => absurd z (by decide +kernel)) (vwJx4a65c_elementData_915e3 h3) (fun v4 t4 i4 j4 h4 => ?_); clear h3
  refine mw_rs (i := 3) (pc' := 15) (L' := [some (.ref l0), some (.int l1), some (.ref l2), some (.ref v4)]) (by decide +kernel) rfl rfl ?_
  refine mw_rl (i := 0) (pc' := 16) (by decide +kernel) rfl ?_
  refine mw_fR (ix := 9) (t := 10) (j := 1) (md := 0) (by decide +kernel) h4 (fun v5 h5 => ?_); clear h4
  refine mw_il (i := 1) (pc' := 20) (by decide +kernel) rfl ?_
  refine mw_rl (i := 2) (pc' := 21) (by decide +kernel) rfl ?_
  refine mw_aas (by decide +kernel) h5 (fun v6 h6 => ?_); clear h5
  refine mw_rl (i := 3) (pc' := 23) (by decide +kernel) rfl ?_
  exact mw_rr (v := some v4) (X := 0) (Y := 0) (by decide +kernel) ⟨Nat.le_refl _, Nat.le_refl _⟩ h6
/- ('X11', 'setups') -/
def wX11_setups_b24 (K J : Nat → Nat) (fu : Nat) (F : VF) (k24 : HS → HI → HR → Nat → Nat → Nat → Int32 → Nat → Int32 → Int32 → Prop) (k83 : HS → HI → HR → Nat → Nat → Nat → Int32 → Nat → Int32 → Int32 → Prop) (sh : HS) (I : HI) (R : HR) (c1 : Nat) (c2 : Nat) (l0 : Nat) (l1 : Int32) (l2 : Nat) (l3 : Int32) (l4 : Int32) : Prop :=
  rcvB sh l2 10 = true ∧
  (c1 ≤ 40 ∧ c2 ≤ 450) ∧
  wJx4a65c_size_8abf5 K J fu sh I R l2 (qwI fun v12 t12 i12 j12 =>
  if v12 ≤ l4 then
    (k83 t12 i12 j12 c1 c2 l0 l1 l2 l3 l4)
  else
    (wB (oR t12 j12 l0 9 3) fun v13 =>
    rcvB t12 v13 10 = true ∧
    (c1 ≤ 40 ∧ c2 ≤ 450) ∧
    wJx4a65c_get_915e3 K J fu t12 i12 j12 v13 l3 (qwR fun v16 t16 i16 j16 =>
    wB (oKt t16 v16 1) fun _ =>
    wB (oR t16 j16 l0 9 3) fun v17 =>
    rcvB t16 l2 10 = true ∧
    (c1 ≤ 40 ∧ c2 ≤ 450) ∧
    wJx4a65c_get_915e3 K J fu t16 i16 j16 l2 l4 (qwR fun v20 t20 i20 j20 =>
    wB (oKt t20 v20 3) fun _ =>
    rcvB t20 v20 12 = true ∧
    (c1 ≤ 40 ∧ c2 ≤ 450) ∧
    wJ6_intValue_8abf5 K J fu t20 i20 j20 v20 (qwI fun v23 t23 i23 j23 =>
    (c1 ≤ 40 ∧ c2 ≤ 450) ∧
    wB (fJ6_numberOfTrailingZeros_0f7a4 fu t23 i23 j23 v23) fun v25 =>
    rcvB t23 v17 10 = true ∧
    (c1 ≤ 40 ∧ c2 ≤ 450) ∧
    wJx4a65c_get_915e3 K J fu t23 i23 j23 v17 v25 (qwR fun v28 t28 i28 j28 =>
    wB (oKt t28 v28 1) fun _ =>
    rcvB t28 l0 9 = true ∧
    (c1 ≤ 40 ∧ c2 ≤ 450) ∧
    wX11_near K J fu t28 i28 j28 l0 v16 v28 l1 (qwI fun v31 t31 i31 j31 =>
    if v31 = 0 then
      (k24 t31 i31 j31 c1 c2 l0 l1 l2 l3 (l4 + 1))
    else
      (k83 t31 i31 j31 c1 c2 l0 l1 l2 l3 l4))))))))
theorem vwX11_setups_b24 {l : Launch} {K J : Nat → Nat} {fu : Nat} {F : VF} {k24 : HS → HI → HR → Nat → Nat → Nat → Int32 → Nat → Int32 → Int32 → Prop} {k83 : HS → HI → HR → Nat → Nat → Nat → Int32 → Nat → Int32 → Int32 → Prop} (hk24 : ∀ {sh : HS} {I : HI} {R : HR} {c1 : Nat} {c2 : Nat} {l0 : Nat} {l1 : Int32} {l2 : Nat} {l3 : Int32} {l4 : Int32}, k24 sh I R c1 c2 l0 l1 l2 l3 l4 → MW l K J 125 24 [some (.ref l0), some (.int l1), some (.ref l2), some (.int l3), some (.int l4)] [] sh I R (c1, c2) F) (hk83 : ∀ {sh : HS} {I : HI} {R : HR} {c1 : Nat} {c2 : Nat} {l0 : Nat} {l1 : Int32} {l2 : Nat} {l3 : Int32} {l4 : Int32}, k83 sh I R c1 c2 l0 l1 l2 l3 l4 → MW l K J 125 83 [some (.ref l0), some (.int l1), some (.ref l2), some (.int l3), some (.int l4)] [] sh I R (c1, c2) F) {sh : HS} {I : HI} {R : HR} {c1 : Nat} {c2 : Nat} {l0 : Nat} {l1 : Int32} {l2 : Nat} {l3 : Int32} {l4 : Int32} (h0 : wX11_setups_b24 K J fu F k24 k83 sh I R c1 c2 l0 l1 l2 l3 l4) : MW l K J 125 24 [some (.ref l0), some (.int l1), some (.ref l2), some (.int l3), some (.int l4)] [] sh I R (c1, c2) F := by
  unfold wX11_setups_b24 at h0
  refine mw_il (i := 4) (pc' := 26) (by decide +kernel) rfl ?_
  refine mw_rl (i := 2) (pc' := 27) (by decide +kernel) rfl ?_
  obtain ⟨q10, h1⟩ := h0
  obtain ⟨r11, h2⟩ := h1
  refine mwx_I (q := 133) (na := 1) (ce := 0) (sl := 0) (X := 40) (Y := 450) (as := [.ref l2]) (by decide +kernel) r11 rfl rfl (by rw [show mL 133 = 1 from by decide +kernel]; rfl) rfl (fun _ => rv_of q10 (by decide +kernel)) (fun z => absurd z (by decide +kernel)) (vwJx4a65c_size_8abf5 h2) (fun v12 t12 i12 j12 h3 => ?_); clear h2
  refine mw_if (ins := .if_icmp .ge 53) (t := 83) (pc' := 33) (by decide +kernel) rfl rfl rfl h3 (fun p4 h4 => ?_) (fun p4 h4 => ?_) <;> clear h3
  · exact hk83 h4
  · refine mw_rl (i := 0) (pc' := 34) (by decide +kernel) rfl ?_
    refine mw_rl (i := 0) (pc' := 35) (by decide +kernel) rfl ?_
    refine mw_fR (ix := 10) (t := 9) (j := 3) (md := 0) (by decide +kernel) h4 (fun v13 h5 => ?_); clear h4
    refine mw_il (i := 3) (pc' := 39) (by decide +kernel) rfl ?_
    obtain ⟨q14, h6⟩ := h5
    obtain ⟨r15, h7⟩ := h6
    refine mwx_R (q := 135) (na := 2) (ce := 0) (sl := 0) (X := 40) (Y := 450) (as := [.int l3, .ref v13]) (by decide +kernel) r15 rfl rfl (by rw [show mL 135 = 2 from by decide +kernel]; rfl) rfl (fun _ => rv_of q14 (by decide +kernel)) (fun z => absurd z (by decide +kernel)) (vwJx4a65c_get_915e3 h7) (fun v16 t16 i16 j16 h8 => ?_); clear h7
    refine mw_cst (ix := 20) (v := 1) (by decide +kernel) h8 (fun h9 => ?_); clear h8
    refine mw_rl (i := 0) (pc' := 46) (by decide +kernel) rfl ?_
    refine mw_fR (ix := 10) (t := 9) (j := 3) (md := 0) (by decide +kernel) h9 (fun v17 h10 => ?_); clear h9
    refine mw_rl (i := 2) (pc' := 50) (by decide +kernel) rfl ?_
    refine mw_il (i := 4) (pc' := 52) (by decide +kernel) rfl ?_
    obtain ⟨q18, h11⟩ := h10
    obtain ⟨r19, h12⟩ := h11
    refine mwx_R (q := 135) (na := 2) (ce := 0) (sl := 0) (X := 40) (Y := 450) (as := [.int l4, .ref l2]) (by decide +kernel) r19 rfl rfl (by rw [show mL 135 = 2 from by decide +kernel]; rfl) rfl (fun _ => rv_of q18 (by decide +kernel)) (fun z => absurd z (by decide +kernel)) (vwJx4a65c_get_915e3 h12) (fun v20 t20 i20 j20 h13 => ?_); clear h12
    refine mw_cst (ix := 52) (v := 3) (by decide +kernel) h13 (fun h14 => ?_); clear h13
    obtain ⟨q21, h15⟩ := h14
    obtain ⟨r22, h16⟩ := h15
    refine mwx_I (q := 152) (na := 1) (ce := 0) (sl := 0) (X := 40) (Y := 450) (as := [.ref v20]) (by decide +kernel) r22 rfl rfl (by rw [show mL 152 = 1 from by decide +kernel]; rfl) rfl (fun _ => rv_of q21 (by decide +kernel)) (fun z => absurd z (by decide +kernel)) (vwJ6_intValue_8abf5 h16) (fun v23 t23 i23 j23 h17 => ?_); clear h16
    obtain ⟨r24, h18⟩ := h17
    refine hJ6_numberOfTrailingZeros_0f7a4 (X := 40) (Y := 450) (by decide +kernel) r24 rfl h18 (fun v25 h19 => ?_); clear h18
    obtain ⟨q26, h20⟩ := h19
    obtain ⟨r27, h21⟩ := h20
    refine mwx_R (q := 135) (na := 2) (ce := 0) (sl := 0) (X := 40) (Y := 450) (as := [.int v25, .ref v17]) (by decide +kernel) r27 rfl rfl (by rw [show mL 135 = 2 from by decide +kernel]; rfl) rfl (fun _ => rv_of q26 (by decide +kernel)) (fun z => absurd z (by decide +kernel)) (vwJx4a65c_get_915e3 h21) (fun v28 t28 i28 j28 h22 => ?_); clear h21
    refine mw_cst (ix := 20) (v := 1) (by decide +kernel) h22 (fun h23 => ?_); clear h22
    refine mw_il (i := 1) (pc' := 71) (by decide +kernel) rfl ?_
    obtain ⟨q29, h24⟩ := h23
    obtain ⟨r30, h25⟩ := h24
    refine mwx_I (q := 121) (na := 4) (ce := 0) (sl := 0) (X := 40) (Y := 450) (as := [.int l1, .ref v28, .ref v16, .ref l0]) (by decide +kernel) r30 rfl rfl (by rw [show mL 121 = 4 from by decide +kernel]; rfl) rfl (fun _ => rv_of q29 (by decide +kernel)) (fun z => absurd z (by decide +kernel)) (vwX11_near h25) (fun v31 t31 i31 j31 h26 => ?_); clear h25
    refine mw_ifn (ins := .ifCond .ne 9) (t := 83) (pc' := 77) (by decide +kernel) rfl rfl rfl h26 (fun p27 h27 => ?_) (fun p27 h27 => ?_) <;> clear h26
    · exact hk83 h27
    · refine mw_inc (i := 4) (z := 1) (pc' := 80) (L' := [some (.ref l0), some (.int l1), some (.ref l2), some (.int l3), some (.int (l4 + 1))]) (by decide +kernel) rfl rfl rfl ?_
      refine mw_go (t := 24) (by decide +kernel) ?_
      exact hk24 h27
def wX11_setups_l24 (K J : Nat → Nat) (fu : Nat) (F : VF) (k83 : HS → HI → HR → Nat → Nat → Nat → Int32 → Nat → Int32 → Int32 → Prop) : Nat → HS → HI → HR → Nat → Nat → Nat → Int32 → Nat → Int32 → Int32 → Prop
  | 0 => fun _ _ _ _ _ _ _ _ _ _ => False
  | n + 1 => wX11_setups_b24 K J fu F (wX11_setups_l24 K J fu F k83 n) k83
theorem vwX11_setups_l24 {l : Launch} {K J : Nat → Nat} {fu : Nat} {F : VF} {k83 : HS → HI → HR → Nat → Nat → Nat → Int32 → Nat → Int32 → Int32 → Prop} (hk83 : ∀ {sh : HS} {I : HI} {R : HR} {c1 : Nat} {c2 : Nat} {l0 : Nat} {l1 : Int32} {l2 : Nat} {l3 : Int32} {l4 : Int32}, k83 sh I R c1 c2 l0 l1 l2 l3 l4 → MW l K J 125 83 [some (.ref l0), some (.int l1), some (.ref l2), some (.int l3), some (.int l4)] [] sh I R (c1, c2) F) : ∀ (n : Nat) {sh : HS} {I : HI} {R : HR} {c1 : Nat} {c2 : Nat} {l0 : Nat} {l1 : Int32} {l2 : Nat} {l3 : Int32} {l4 : Int32} (_ : wX11_setups_l24 K J fu F k83 n sh I R c1 c2 l0 l1 l2 l3 l4), MW l K J 125 24 [some (.ref l0), some (.int l1), some (.ref l2), some (.int l3), some (.int l4)] [] sh I R (c1, c2) F := by
  intro n
  induction n with
  | zero => exact fun h0 => h0.elim
  | succ n ih => exact fun h0 => vwX11_setups_b24 ih hk83 h0
def wX11_setups_b101 (K J : Nat → Nat) (fu : Nat) (F : VF) (k10 : HS → HI → HR → Nat → Nat → Nat → Int32 → Nat → Int32 → Prop) (sh : HS) (I : HI) (R : HR) (c1 : Nat) (c2 : Nat) (l0 : Nat) (l1 : Int32) (l2 : Nat) (l3 : Int32) (l4 : Int32) : Prop :=
  rcvB sh l2 10 = true ∧
  (c1 ≤ 40 ∧ c2 ≤ 450) ∧
  wJx4a65c_get_915e3 K J fu sh I R l2 l4 (qwR fun v37 t37 i37 j37 =>
  wB (oKt t37 v37 3) fun _ =>
  rcvB t37 v37 12 = true ∧
  (c1 ≤ 40 ∧ c2 ≤ 450) ∧
  wJ6_intValue_8abf5 K J fu t37 i37 j37 v37 (qwI fun v40 t40 i40 j40 =>
  (c1 + 1 ≤ 40 ∧ c2 + 1 ≤ 450) ∧
  wJ6_valueOf_2dffe K J fu t40 i40 j40 (v40 ||| ((1 : Int32) <<< (l3 &&& 31))) (qwR fun v42 t42 i42 j42 =>
  rcvB t42 l2 10 = true ∧
  ((c1 + 1) ≤ 40 ∧ (c2 + 1) ≤ 450) ∧
  wJx4a65c_set_bcc79 K J fu t42 i42 j42 l2 l4 v42 (qwR fun v45 t45 i45 j45 =>
  k10 t45 i45 j45 (c1 + 1) (c2 + 1) l0 l1 l2 (l3 + 1)))))
theorem vwX11_setups_b101 {l : Launch} {K J : Nat → Nat} {fu : Nat} {F : VF} {k10 : HS → HI → HR → Nat → Nat → Nat → Int32 → Nat → Int32 → Prop} (hk10 : ∀ {sh : HS} {I : HI} {R : HR} {c1 : Nat} {c2 : Nat} {l0 : Nat} {l1 : Int32} {l2 : Nat} {l3 : Int32} {d4 : Option Value}, k10 sh I R c1 c2 l0 l1 l2 l3 → MW l K J 125 10 [some (.ref l0), some (.int l1), some (.ref l2), some (.int l3), d4] [] sh I R (c1, c2) F) {sh : HS} {I : HI} {R : HR} {c1 : Nat} {c2 : Nat} {l0 : Nat} {l1 : Int32} {l2 : Nat} {l3 : Int32} {l4 : Int32} (h0 : wX11_setups_b101 K J fu F k10 sh I R c1 c2 l0 l1 l2 l3 l4) : MW l K J 125 101 [some (.ref l0), some (.int l1), some (.ref l2), some (.int l3), some (.int l4)] [] sh I R (c1, c2) F := by
  unfold wX11_setups_b101 at h0
  refine mw_rl (i := 2) (pc' := 102) (by decide +kernel) rfl ?_
  refine mw_il (i := 4) (pc' := 104) (by decide +kernel) rfl ?_
  refine mw_rl (i := 2) (pc' := 105) (by decide +kernel) rfl ?_
  refine mw_il (i := 4) (pc' := 107) (by decide +kernel) rfl ?_
  obtain ⟨q35, h1⟩ := h0
  obtain ⟨r36, h2⟩ := h1
  refine mwx_R (q := 135) (na := 2) (ce := 0) (sl := 0) (X := 40) (Y := 450) (as := [.int l4, .ref l2]) (by decide +kernel) r36 rfl rfl (by rw [show mL 135 = 2 from by decide +kernel]; rfl) rfl (fun _ => rv_of q35 (by decide +kernel)) (fun z => absurd z (by decide +kernel)) (vwJx4a65c_get_915e3 h2) (fun v37 t37 i37 j37 h3 => ?_); clear h2
  refine mw_cst (ix := 52) (v := 3) (by decide +kernel) h3 (fun h4 => ?_); clear h3
  obtain ⟨q38, h5⟩ := h4
  obtain ⟨r39, h6⟩ := h5
  refine mwx_I (q := 152) (na := 1) (ce := 0) (sl := 0) (X := 40) (Y := 450) (as := [.ref v37]) (by decide +kernel) r39 rfl rfl (by rw [show mL 152 = 1 from by decide +kernel]; rfl) rfl (fun _ => rv_of q38 (by decide +kernel)) (fun z => absurd z (by decide +kernel)) (vwJ6_intValue_8abf5 h6) (fun v40 t40 i40 j40 h7 => ?_); clear h6
  refine mw_c (v := 1) (pc' := 117) (by decide +kernel) ?_
  refine mw_il (i := 3) (pc' := 118) (by decide +kernel) rfl ?_
  refine mw_a (ins := .ishl) (pc' := 119) (by decide +kernel) rfl ?_
  refine mw_a (ins := .ior) (pc' := 120) (by decide +kernel) rfl ?_
  obtain ⟨r41, h8⟩ := h7
  refine mwx_R (q := 150) (na := 1) (ce := 1) (sl := 1) (X := 40) (Y := 450) (as := [.int (v40 ||| ((1 : Int32) <<< (l3 &&& 31)))]) (by decide +kernel) r41 rfl rfl (by rw [show mL 150 = 1 from by decide +kernel]; rfl) rfl (fun z => absurd z (by decide +kernel)) (fun z => absurd z (by decide +kernel)) (vwJ6_valueOf_2dffe h8) (fun v42 t42 i42 j42 h9 => ?_); clear h8
  obtain ⟨q43, h10⟩ := h9
  obtain ⟨r44, h11⟩ := h10
  refine mwx_R (q := 136) (na := 3) (ce := 0) (sl := 0) (X := 40) (Y := 450) (as := [.ref v42, .int l4, .ref l2]) (by decide +kernel) r44 rfl rfl (by rw [show mL 136 = 4 from by decide +kernel]; rfl) rfl (fun _ => rv_of q43 (by decide +kernel)) (fun z => absurd z (by decide +kernel)) (vwJx4a65c_set_bcc79 h11) (fun v45 t45 i45 j45 h12 => ?_); clear h11
  refine mw_pop (by decide +kernel) rfl ?_
  refine mw_inc (i := 3) (z := 1) (pc' := 130) (L' := [some (.ref l0), some (.int l1), some (.ref l2), some (.int (l3 + 1)), some (.int l4)]) (by decide +kernel) rfl rfl rfl ?_
  refine mw_go (t := 10) (by decide +kernel) ?_
  exact hk10 h12
def wX11_setups_b83 (K J : Nat → Nat) (fu : Nat) (F : VF) (k10 : HS → HI → HR → Nat → Nat → Nat → Int32 → Nat → Int32 → Prop) (sh : HS) (I : HI) (R : HR) (c1 : Nat) (c2 : Nat) (l0 : Nat) (l1 : Int32) (l2 : Nat) (l3 : Int32) (l4 : Int32) : Prop :=
  rcvB sh l2 10 = true ∧
  (c1 ≤ 40 ∧ c2 ≤ 450) ∧
  wJx4a65c_size_8abf5 K J fu sh I R l2 (qwI fun v34 t34 i34 j34 =>
  if l4 = v34 then
    ((c1 + 1 ≤ 40 ∧ c2 + 1 ≤ 450) ∧
    wJ6_valueOf_2dffe K J fu t34 i34 j34 0 (qwR fun v47 t47 i47 j47 =>
    rcvB t47 l2 10 = true ∧
    ((c1 + 1) + 1 ≤ 40 ∧ (c2 + 1) + 32 ≤ 450) ∧
    wJx4a65c_add_9ea2d K J fu t47 i47 j47 l2 v47 (qwI fun v50 t50 i50 j50 =>
    (wX11_setups_b101 K J fu F k10) t50 i50 j50 ((c1 + 1) + 1) ((c2 + 1) + 32) l0 l1 l2 l3 l4)))
  else
    ((wX11_setups_b101 K J fu F k10) t34 i34 j34 c1 c2 l0 l1 l2 l3 l4))
theorem vwX11_setups_b83 {l : Launch} {K J : Nat → Nat} {fu : Nat} {F : VF} {k10 : HS → HI → HR → Nat → Nat → Nat → Int32 → Nat → Int32 → Prop} (hk10 : ∀ {sh : HS} {I : HI} {R : HR} {c1 : Nat} {c2 : Nat} {l0 : Nat} {l1 : Int32} {l2 : Nat} {l3 : Int32} {d4 : Option Value}, k10 sh I R c1 c2 l0 l1 l2 l3 → MW l K J 125 10 [some (.ref l0), some (.int l1), some (.ref l2), some (.int l3), d4] [] sh I R (c1, c2) F) {sh : HS} {I : HI} {R : HR} {c1 : Nat} {c2 : Nat} {l0 : Nat} {l1 : Int32} {l2 : Nat} {l3 : Int32} {l4 : Int32} (h0 : wX11_setups_b83 K J fu F k10 sh I R c1 c2 l0 l1 l2 l3 l4) : MW l K J 125 83 [some (.ref l0), some (.int l1), some (.ref l2), some (.int l3), some (.int l4)] [] sh I R (c1, c2) F := by
  unfold wX11_setups_b83 at h0
  refine mw_il (i := 4) (pc' := 85) (by decide +kernel) rfl ?_
  refine mw_rl (i := 2) (pc' := 86) (by decide +kernel) rfl ?_
  obtain ⟨q32, h1⟩ := h0
  obtain ⟨r33, h2⟩ := h1
  refine mwx_I (q := 133) (na := 1) (ce := 0) (sl := 0) (X := 40) (Y := 450) (as := [.ref l2]) (by decide +kernel) r33 rfl rfl (by rw [show mL 133 = 1 from by decide +kernel]; rfl) rfl (fun _ => rv_of q32 (by decide +kernel)) (fun z => absurd z (by decide +kernel)) (vwJx4a65c_size_8abf5 h2) (fun v34 t34 i34 j34 h3 => ?_); clear h2
  refine mw_ifn (ins := .if_icmp .ne 12) (t := 101) (pc' := 92) (by decide +kernel) rfl rfl rfl h3 (fun p4 h4 => ?_) (fun p4 h4 => ?_) <;> clear h3
  · exact (vwX11_setups_b101 hk10) h4
  · refine mw_rl (i := 2) (pc' := 93) (by decide +kernel) rfl ?_
    refine mw_c (v := 0) (pc' := 94) (by decide +kernel) ?_
    obtain ⟨r46, h5⟩ := h4
    refine mwx_R (q := 150) (na := 1) (ce := 1) (sl := 1) (X := 40) (Y := 450) (as := [.int 0]) (by decide +kernel) r46 rfl rfl (by rw [show mL 150 = 1 from by decide +kernel]; rfl) rfl (fun z => absurd z (by decide +kernel)) (fun z => absurd z (by decide +kernel)) (vwJ6_valueOf_2dffe h5) (fun v47 t47 i47 j47 h6 => ?_); clear h5
    obtain ⟨q48, h7⟩ := h6
    obtain ⟨r49, h8⟩ := h7
    refine mwx_I (q := 138) (na := 2) (ce := 1) (sl := 32) (X := 40) (Y := 450) (as := [.ref v47, .ref l2]) (by decide +kernel) r49 rfl rfl (by rw [show mL 138 = 2 from by decide +kernel]; rfl) rfl (fun _ => rv_of q48 (by decide +kernel)) (fun z => absurd z (by decide +kernel)) (vwJx4a65c_add_9ea2d h8) (fun v50 t50 i50 j50 h9 => ?_); clear h8
    refine mw_pop (by decide +kernel) rfl ?_
    exact (vwX11_setups_b101 hk10) h9
def wX11_setups_b10 (K J : Nat → Nat) (fu : Nat) (F : VF) (k10 : HS → HI → HR → Nat → Nat → Nat → Int32 → Nat → Int32 → Prop) (sh : HS) (I : HI) (R : HR) (c1 : Nat) (c2 : Nat) (l0 : Nat) (l1 : Int32) (l2 : Nat) (l3 : Int32) : Prop :=
  wB (oR sh R l0 9 3) fun v5 =>
  rcvB sh v5 10 = true ∧
  (c1 ≤ 40 ∧ c2 ≤ 450) ∧
  wJx4a65c_size_8abf5 K J fu sh I R v5 (qwI fun v8 t8 i8 j8 =>
  if v8 ≤ l3 then
    ((c1 ≤ 40 ∧ c2 ≤ 450) ∧
    F (.inl (some (.ref l2))) t8 i8 j8)
  else
    ((wX11_setups_l24 K J fu F (wX11_setups_b83 K J fu F k10) fu) t8 i8 j8 c1 c2 l0 l1 l2 l3 0))
theorem vwX11_setups_b10 {l : Launch} {K J : Nat → Nat} {fu : Nat} {F : VF} {k10 : HS → HI → HR → Nat → Nat → Nat → Int32 → Nat → Int32 → Prop} (hk10 : ∀ {sh : HS} {I : HI} {R : HR} {c1 : Nat} {c2 : Nat} {l0 : Nat} {l1 : Int32} {l2 : Nat} {l3 : Int32} {d4 : Option Value}, k10 sh I R c1 c2 l0 l1 l2 l3 → MW l K J 125 10 [some (.ref l0), some (.int l1), some (.ref l2), some (.int l3), d4] [] sh I R (c1, c2) F) {sh : HS} {I : HI} {R : HR} {c1 : Nat} {c2 : Nat} {l0 : Nat} {l1 : Int32} {l2 : Nat} {l3 : Int32} {d4 : Option Value} (h0 : wX11_setups_b10 K J fu F k10 sh I R c1 c2 l0 l1 l2 l3) : MW l K J 125 10 [some (.ref l0), some (.int l1), some (.ref l2), some (.int l3), d4] [] sh I R (c1, c2) F := by
  unfold wX11_setups_b10 at h0
  refine mw_il (i := 3) (pc' := 11) (by decide +kernel) rfl ?_
  refine mw_rl (i := 0) (pc' := 12) (by decide +kernel) rfl ?_
  refine mw_fR (ix := 10) (t := 9) (j := 3) (md := 0) (by decide +kernel) h0 (fun v5 h1 => ?_); clear h0
  obtain ⟨q6, h2⟩ := h1
  obtain ⟨r7, h3⟩ := h2
  refine mwx_I (q := 133) (na := 1) (ce := 0) (sl := 0) (X := 40) (Y := 450) (as := [.ref v5]) (by decide +kernel) r7 rfl rfl (by rw [show mL 133 = 1 from by decide +kernel]; rfl) rfl (fun _ => rv_of q6 (by decide +kernel)) (fun z => absurd z (by decide +kernel)) (vwJx4a65c_size_8abf5 h3) (fun v8 t8 i8 j8 h4 => ?_); clear h3
  refine mw_if (ins := .if_icmp .ge 115) (t := 133) (pc' := 21) (by decide +kernel) rfl rfl rfl h4 (fun p5 h5 => ?_) (fun p5 h5 => ?_) <;> clear h4
  · refine mw_rl (i := 2) (pc' := 134) (by decide +kernel) rfl ?_
    obtain ⟨r9, h6⟩ := h5
    exact mw_rr (v := some l2) (X := 40) (Y := 450) (by decide +kernel) r9 h6
  · refine mw_c (v := 0) (pc' := 22) (by decide +kernel) ?_
    refine mw_is (i := 4) (pc' := 24) (L' := [some (.ref l0), some (.int l1), some (.ref l2), some (.int l3), some (.int 0)]) (by decide +kernel) rfl rfl ?_
    exact (vwX11_setups_l24 (vwX11_setups_b83 hk10) fu) h5
def wX11_setups_l10 (K J : Nat → Nat) (fu : Nat) (F : VF) : Nat → HS → HI → HR → Nat → Nat → Nat → Int32 → Nat → Int32 → Prop
  | 0 => fun _ _ _ _ _ _ _ _ _ => False
  | n + 1 => wX11_setups_b10 K J fu F (wX11_setups_l10 K J fu F n)
theorem vwX11_setups_l10 {l : Launch} {K J : Nat → Nat} {fu : Nat} {F : VF} : ∀ (n : Nat) {sh : HS} {I : HI} {R : HR} {c1 : Nat} {c2 : Nat} {l0 : Nat} {l1 : Int32} {l2 : Nat} {l3 : Int32} {d4 : Option Value} (_ : wX11_setups_l10 K J fu F n sh I R c1 c2 l0 l1 l2 l3), MW l K J 125 10 [some (.ref l0), some (.int l1), some (.ref l2), some (.int l3), d4] [] sh I R (c1, c2) F := by
  intro n
  induction n with
  | zero => exact fun h0 => h0.elim
  | succ n ih => exact fun h0 => vwX11_setups_b10 ih h0
def wX11_setups (K J : Nat → Nat) (fu : Nat) (sh : HS) (I : HI) (R : HR) (l0 : Nat) (l1 : Int32) (F : VF) : Prop :=
  (0 + 1 ≤ 40 ∧ 0 + 3 ≤ 450) ∧
  wNew sh I R 10 3 fun a2 t2 i2 j2 =>
  ((0 + 1) ≤ 40 ∧ (0 + 3) ≤ 450) ∧
  wJx4a65c_init_da8c8 K J fu t2 i2 j2 a2 (qwV fun t4 i4 j4 =>
  (wX11_setups_l10 K J fu F fu) t4 i4 j4 (0 + 1) (0 + 3) l0 l1 a2 0)
theorem vwX11_setups {l : Launch} {K J : Nat → Nat} {fu : Nat} {sh : HS} {I : HI} {R : HR} {l0 : Nat} {l1 : Int32} {F : VF} (h0 : wX11_setups K J fu sh I R l0 l1 F) : MW l K J 125 0 (ent (mL 125) [.ref l0, .int l1]) [] sh I R (0, 0) F := by
  unfold wX11_setups at h0
  have ml : mL 125 = 5 := by decide +kernel
  rw [ml]
  show MW l K J 125 0 [some (.ref l0), some (.int l1), none, none, none] [] sh I R (0, 0) F
  obtain ⟨r1, h1⟩ := h0
  refine mw_new (ix := 7) (t := 10) (N := 3) (X := 40) (Y := 450) (by decide +kernel) r1 h1 (fun a2 t2 i2 j2 h2 => ?_); clear h1
  refine mw_a (ins := .dup) (pc' := 4) (by decide +kernel) rfl ?_
  obtain ⟨r3, h3⟩ := h2
  refine mwx_V (q := 130) (na := 1) (ce := 0) (sl := 0) (X := 40) (Y := 450) (as := [.ref a2]) (by decide +kernel) r3 rfl rfl (by rw [show mL 130 = 1 from by decide +kernel]; rfl) rfl (fun z => absurd z (by decide +kernel)) (fun _ => ⟨_, rfl⟩) (vwJx4a65c_init_da8c8 h3) (fun t4 i4 j4 h4 => ?_); clear h3
  refine mw_rs (i := 2) (pc' := 8) (L' := [some (.ref l0), some (.int l1), some (.ref a2), none, none]) (by decide +kernel) rfl rfl ?_
  refine mw_c (v := 0) (pc' := 9) (by decide +kernel) ?_
  refine mw_is (i := 3) (pc' := 10) (L' := [some (.ref l0), some (.int l1), some (.ref a2), some (.int 0), none]) (by decide +kernel) rfl rfl ?_
  exact (vwX11_setups_l10 fu) h4
/- ('X11', 'blocker') -/
def wX11_blocker_b125 (K J : Nat → Nat) (fu : Nat) (F : VF) (k29 : HS → HI → HR → Nat → Nat → Int32 → Int32 → Int32 → Prop) (sh : HS) (I : HI) (R : HR) (l0 : Nat) (l1 : Nat) (l2 : Int32) (l3 : Int32) (l4 : Int32) : Prop :=
  k29 sh I R l0 l1 l2 l3 (l4 + 1)
theorem vwX11_blocker_b125 {l : Launch} {K J : Nat → Nat} {fu : Nat} {F : VF} {k29 : HS → HI → HR → Nat → Nat → Int32 → Int32 → Int32 → Prop} (hk29 : ∀ {sh : HS} {I : HI} {R : HR} {l0 : Nat} {l1 : Nat} {l2 : Int32} {l3 : Int32} {l4 : Int32} {d5 d6 d7 : Option Value}, k29 sh I R l0 l1 l2 l3 l4 → MW l K J 122 29 [some (.ref l0), some (.ref l1), some (.int l2), some (.int l3), some (.int l4), d5, d6, d7] [] sh I R (0, 0) F) {sh : HS} {I : HI} {R : HR} {l0 : Nat} {l1 : Nat} {l2 : Int32} {l3 : Int32} {l4 : Int32} {d5 d6 d7 : Option Value} (h0 : wX11_blocker_b125 K J fu F k29 sh I R l0 l1 l2 l3 l4) : MW l K J 122 125 [some (.ref l0), some (.ref l1), some (.int l2), some (.int l3), some (.int l4), d5, d6, d7] [] sh I R (0, 0) F := by
  unfold wX11_blocker_b125 at h0
  refine mw_inc (i := 4) (z := 1) (pc' := 128) (L' := [some (.ref l0), some (.ref l1), some (.int l2), some (.int l3), some (.int (l4 + 1)), d5, d6, d7]) (by decide +kernel) rfl rfl rfl ?_
  refine mw_go (t := 29) (by decide +kernel) ?_
  exact hk29 h0
def wX11_blocker_b29 (K J : Nat → Nat) (fu : Nat) (F : VF) (k29 : HS → HI → HR → Nat → Nat → Int32 → Int32 → Int32 → Prop) (sh : HS) (I : HI) (R : HR) (l0 : Nat) (l1 : Nat) (l2 : Int32) (l3 : Int32) (l4 : Int32) : Prop :=
  if (6 : Int32) ≤ l4 then
    (F (.inl (some (.int (-1)))) sh I R)
  else
    (rcvB sh l0 9 = true ∧
    wX11_ax K J fu sh I R l0 l1 l4 (qwI fun v10 t10 i10 j10 =>
    if v10 < 0 then
      ((wX11_blocker_b125 K J fu F k29) t10 i10 j10 l0 l1 l2 l3 l4)
    else
      (wB (oA2 t10 i10 l1 3) fun v11 =>
      if l4 = v11 then
        ((wX11_blocker_b125 K J fu F k29) t10 i10 j10 l0 l1 l2 l3 l4)
      else
        (rcvB t10 l0 9 = true ∧
        wX11_ax K J fu t10 i10 j10 l0 l1 l4 (qwI fun v13 t13 i13 j13 =>
        wB (oA2 t13 i13 l1 1) fun v14 =>
        rcvB t13 l0 9 = true ∧
        wX11_ay K J fu t13 i13 j13 l0 l1 l4 (qwI fun v16 t16 i16 j16 =>
        wB (oA2 t16 i16 l1 2) fun v17 =>
        if (l2 * (v16 - v17)) = (l3 * (v13 - v14)) then
          (if (((v13 - v14) * l2) + ((v16 - v17) * l3)) ≤ 0 then
            ((wX11_blocker_b125 K J fu F k29) t16 i16 j16 l0 l1 l2 l3 l4)
          else
            (if ((l2 * l2) + (l3 * l3)) ≤ (((v13 - v14) * l2) + ((v16 - v17) * l3)) then
              ((wX11_blocker_b125 K J fu F k29) t16 i16 j16 l0 l1 l2 l3 l4)
            else
              (F (.inl (some (.int l4))) t16 i16 j16)))
        else
          ((wX11_blocker_b125 K J fu F k29) t16 i16 j16 l0 l1 l2 l3 l4)))))))
theorem vwX11_blocker_b29 {l : Launch} {K J : Nat → Nat} {fu : Nat} {F : VF} {k29 : HS → HI → HR → Nat → Nat → Int32 → Int32 → Int32 → Prop} (hk29 : ∀ {sh : HS} {I : HI} {R : HR} {l0 : Nat} {l1 : Nat} {l2 : Int32} {l3 : Int32} {l4 : Int32} {d5 d6 d7 : Option Value}, k29 sh I R l0 l1 l2 l3 l4 → MW l K J 122 29 [some (.ref l0), some (.ref l1), some (.int l2), some (.int l3), some (.int l4), d5, d6, d7] [] sh I R (0, 0) F) {sh : HS} {I : HI} {R : HR} {l0 : Nat} {l1 : Nat} {l2 : Int32} {l3 : Int32} {l4 : Int32} {d5 d6 d7 : Option Value} (h0 : wX11_blocker_b29 K J fu F k29 sh I R l0 l1 l2 l3 l4) : MW l K J 122 29 [some (.ref l0), some (.ref l1), some (.int l2), some (.int l3), some (.int l4), d5, d6, d7] [] sh I R (0, 0) F := by
  unfold wX11_blocker_b29 at h0
  refine mw_il (i := 4) (pc' := 31) (by decide +kernel) rfl ?_
  refine mw_c (v := 6) (pc' := 33) (by decide +kernel) ?_
  refine mw_if (ins := .if_icmp .ge 98) (t := 131) (pc' := 36) (by decide +kernel) rfl rfl rfl h0 (fun p1 h1 => ?_) (fun p1 h1 => ?_) <;> clear h0
  · refine mw_c (v := (-1)) (pc' := 132) (by decide +kernel) ?_
    exact mw_ri (X := 0) (Y := 0) (by decide +kernel) ⟨Nat.le_refl _, Nat.le_refl _⟩ h1
  · refine mw_rl (i := 0) (pc' := 37) (by decide +kernel) rfl ?_
    refine mw_rl (i := 1) (pc' := 38) (by decide +kernel) rfl ?_
    refine mw_il (i := 4) (pc' := 40) (by decide +kernel) rfl ?_
    obtain ⟨q9, h2⟩ := h1
    refine mwx_I (q := 115) (na := 3) (ce := 0) (sl := 0) (X := 0) (Y := 0) (as := [.int l4, .ref l1, .ref l0]) (by decide +kernel) ⟨Nat.le_refl _, Nat.le_refl _⟩ rfl rfl (by rw [show mL 115 = 3 from by decide +kernel]; rfl) rfl (fun _ => rv_of q9 (by decide +kernel)) (fun z => absurd z (by decide +kernel)) (vwX11_ax h2) (fun v10 t10 i10 j10 h3 => ?_); clear h2
    refine mw_if (ins := .ifCond .lt 82) (t := 125) (pc' := 46) (by decide +kernel) rfl rfl rfl h3 (fun p4 h4 => ?_) (fun p4 h4 => ?_) <;> clear h3
    · exact (vwX11_blocker_b125 hk29) h4
    · refine mw_il (i := 4) (pc' := 48) (by decide +kernel) rfl ?_
      refine mw_rl (i := 1) (pc' := 49) (by decide +kernel) rfl ?_
      refine mw_c (v := 3) (pc' := 50) (by decide +kernel) ?_
      refine mw_al (by decide +kernel) h4 (fun v11 h5 => ?_); clear h4
      refine mw_ifn (ins := .if_icmp .ne 6) (t := 57) (pc' := 54) (by decide +kernel) rfl rfl rfl h5 (fun p6 h6 => ?_) (fun p6 h6 => ?_) <;> clear h5
      · refine mw_rl (i := 0) (pc' := 58) (by decide +kernel) rfl ?_
        refine mw_rl (i := 1) (pc' := 59) (by decide +kernel) rfl ?_
        refine mw_il (i := 4) (pc' := 61) (by decide +kernel) rfl ?_
        obtain ⟨q12, h7⟩ := h6
        refine mwx_I (q := 115) (na := 3) (ce := 0) (sl := 0) (X := 0) (Y := 0) (as := [.int l4, .ref l1, .ref l0]) (by decide +kernel) ⟨Nat.le_refl _, Nat.le_refl _⟩ rfl rfl (by rw [show mL 115 = 3 from by decide +kernel]; rfl) rfl (fun _ => rv_of q12 (by decide +kernel)) (fun z => absurd z (by decide +kernel)) (vwX11_ax h7) (fun v13 t13 i13 j13 h8 => ?_); clear h7
        refine mw_rl (i := 1) (pc' := 65) (by decide +kernel) rfl ?_
        refine mw_c (v := 1) (pc' := 66) (by decide +kernel) ?_
        refine mw_al (by decide +kernel) h8 (fun v14 h9 => ?_); clear h8
        refine mw_a (ins := .isub) (pc' := 68) (by decide +kernel) rfl ?_
        refine mw_is (i := 5) (pc' := 70) (L' := [some (.ref l0), some (.ref l1), some (.int l2), some (.int l3), some (.int l4), some (.int (v13 - v14)), d6, d7]) (by decide +kernel) rfl rfl ?_
        refine mw_rl (i := 0) (pc' := 71) (by decide +kernel) rfl ?_
        refine mw_rl (i := 1) (pc' := 72) (by decide +kernel) rfl ?_
        refine mw_il (i := 4) (pc' := 74) (by decide +kernel) rfl ?_
        obtain ⟨q15, h10⟩ := h9
        refine mwx_I (q := 116) (na := 3) (ce := 0) (sl := 0) (X := 0) (Y := 0) (as := [.int l4, .ref l1, .ref l0]) (by decide +kernel) ⟨Nat.le_refl _, Nat.le_refl _⟩ rfl rfl (by rw [show mL 116 = 3 from by decide +kernel]; rfl) rfl (fun _ => rv_of q15 (by decide +kernel)) (fun z => absurd z (by decide +kernel)) (vwX11_ay h10) (fun v16 t16 i16 j16 h11 => ?_); clear h10
        refine mw_rl (i := 1) (pc' := 78) (by decide +kernel) rfl ?_
        refine mw_c (v := 2) (pc' := 79) (by decide +kernel) ?_
        refine mw_al (by decide +kernel) h11 (fun v17 h12 => ?_); clear h11
        refine mw_a (ins := .isub) (pc' := 81) (by decide +kernel) rfl ?_
        refine mw_is (i := 6) (pc' := 83) (L' := [some (.ref l0), some (.ref l1), some (.int l2), some (.int l3), some (.int l4), some (.int (v13 - v14)), some (.int (v16 - v17)), d7]) (by decide +kernel) rfl rfl ?_
        refine mw_il (i := 5) (pc' := 85) (by decide +kernel) rfl ?_
        refine mw_il (i := 2) (pc' := 86) (by decide +kernel) rfl ?_
        refine mw_a (ins := .imul) (pc' := 87) (by decide +kernel) rfl ?_
        refine mw_il (i := 6) (pc' := 89) (by decide +kernel) rfl ?_
        refine mw_il (i := 3) (pc' := 90) (by decide +kernel) rfl ?_
        refine mw_a (ins := .imul) (pc' := 91) (by decide +kernel) rfl ?_
        refine mw_a (ins := .iadd) (pc' := 92) (by decide +kernel) rfl ?_
        refine mw_is (i := 7) (pc' := 94) (L' := [some (.ref l0), some (.ref l1), some (.int l2), some (.int l3), some (.int l4), some (.int (v13 - v14)), some (.int (v16 - v17)), some (.int (((v13 - v14) * l2) + ((v16 - v17) * l3)))]) (by decide +kernel) rfl rfl ?_
        refine mw_il (i := 2) (pc' := 95) (by decide +kernel) rfl ?_
        refine mw_il (i := 6) (pc' := 97) (by decide +kernel) rfl ?_
        refine mw_a (ins := .imul) (pc' := 98) (by decide +kernel) rfl ?_
        refine mw_il (i := 3) (pc' := 99) (by decide +kernel) rfl ?_
        refine mw_il (i := 5) (pc' := 101) (by decide +kernel) rfl ?_
        refine mw_a (ins := .imul) (pc' := 102) (by decide +kernel) rfl ?_
        refine mw_ifn (ins := .if_icmp .ne 23) (t := 125) (pc' := 105) (by decide +kernel) rfl rfl rfl h12 (fun p13 h13 => ?_) (fun p13 h13 => ?_) <;> clear h12
        · exact (vwX11_blocker_b125 hk29) h13
        · refine mw_il (i := 7) (pc' := 107) (by decide +kernel) rfl ?_
          refine mw_if (ins := .ifCond .le 18) (t := 125) (pc' := 110) (by decide +kernel) rfl rfl rfl h13 (fun p14 h14 => ?_) (fun p14 h14 => ?_) <;> clear h13
          · exact (vwX11_blocker_b125 hk29) h14
          · refine mw_il (i := 7) (pc' := 112) (by decide +kernel) rfl ?_
            refine mw_il (i := 2) (pc' := 113) (by decide +kernel) rfl ?_
            refine mw_il (i := 2) (pc' := 114) (by decide +kernel) rfl ?_
            refine mw_a (ins := .imul) (pc' := 115) (by decide +kernel) rfl ?_
            refine mw_il (i := 3) (pc' := 116) (by decide +kernel) rfl ?_
            refine mw_il (i := 3) (pc' := 117) (by decide +kernel) rfl ?_
            refine mw_a (ins := .imul) (pc' := 118) (by decide +kernel) rfl ?_
            refine mw_a (ins := .iadd) (pc' := 119) (by decide +kernel) rfl ?_
            refine mw_if (ins := .if_icmp .ge 6) (t := 125) (pc' := 122) (by decide +kernel) rfl rfl rfl h14 (fun p15 h15 => ?_) (fun p15 h15 => ?_) <;> clear h14
            · exact (vwX11_blocker_b125 hk29) h15
            · refine mw_il (i := 4) (pc' := 124) (by decide +kernel) rfl ?_
              exact mw_ri (X := 0) (Y := 0) (by decide +kernel) ⟨Nat.le_refl _, Nat.le_refl _⟩ h15
      · refine mw_go (t := 125) (by decide +kernel) ?_
        exact (vwX11_blocker_b125 hk29) h6
def wX11_blocker_l29 (K J : Nat → Nat) (fu : Nat) (F : VF) : Nat → HS → HI → HR → Nat → Nat → Int32 → Int32 → Int32 → Prop
  | 0 => fun _ _ _ _ _ _ _ _ => False
  | n + 1 => wX11_blocker_b29 K J fu F (wX11_blocker_l29 K J fu F n)
theorem vwX11_blocker_l29 {l : Launch} {K J : Nat → Nat} {fu : Nat} {F : VF} : ∀ (n : Nat) {sh : HS} {I : HI} {R : HR} {l0 : Nat} {l1 : Nat} {l2 : Int32} {l3 : Int32} {l4 : Int32} {d5 d6 d7 : Option Value} (_ : wX11_blocker_l29 K J fu F n sh I R l0 l1 l2 l3 l4), MW l K J 122 29 [some (.ref l0), some (.ref l1), some (.int l2), some (.int l3), some (.int l4), d5, d6, d7] [] sh I R (0, 0) F := by
  intro n
  induction n with
  | zero => exact fun h0 => h0.elim
  | succ n ih => exact fun h0 => vwX11_blocker_b29 ih h0
def wX11_blocker (K J : Nat → Nat) (fu : Nat) (sh : HS) (I : HI) (R : HR) (l0 : Nat) (l1 : Nat) (F : VF) : Prop :=
  wB (oA2 sh I l1 3) fun v1 =>
  rcvB sh l0 9 = true ∧
  wX11_ax K J fu sh I R l0 l1 v1 (qwI fun v3 t3 i3 j3 =>
  wB (oA2 t3 i3 l1 1) fun v4 =>
  wB (oA2 t3 i3 l1 3) fun v5 =>
  rcvB t3 l0 9 = true ∧
  wX11_ay K J fu t3 i3 j3 l0 l1 v5 (qwI fun v7 t7 i7 j7 =>
  wB (oA2 t7 i7 l1 2) fun v8 =>
  (wX11_blocker_l29 K J fu F fu) t7 i7 j7 l0 l1 (v3 - v4) (v7 - v8) 0))
theorem vwX11_blocker {l : Launch} {K J : Nat → Nat} {fu : Nat} {sh : HS} {I : HI} {R : HR} {l0 : Nat} {l1 : Nat} {F : VF} (h0 : wX11_blocker K J fu sh I R l0 l1 F) : MW l K J 122 0 (ent (mL 122) [.ref l0, .ref l1]) [] sh I R (0, 0) F := by
  unfold wX11_blocker at h0
  have ml : mL 122 = 8 := by decide +kernel
  rw [ml]
  show MW l K J 122 0 [some (.ref l0), some (.ref l1), none, none, none, none, none, none] [] sh I R (0, 0) F
  refine mw_rl (i := 0) (pc' := 1) (by decide +kernel) rfl ?_
  refine mw_rl (i := 1) (pc' := 2) (by decide +kernel) rfl ?_
  refine mw_rl (i := 1) (pc' := 3) (by decide +kernel) rfl ?_
  refine mw_c (v := 3) (pc' := 4) (by decide +kernel) ?_
  refine mw_al (by decide +kernel) h0 (fun v1 h1 => ?_); clear h0
  obtain ⟨q2, h2⟩ := h1
  refine mwx_I (q := 115) (na := 3) (ce := 0) (sl := 0) (X := 0) (Y := 0) (as := [.int v1, .ref l1, .ref l0]) (by decide +kernel) ⟨Nat.le_refl _, Nat.le_refl _⟩ rfl rfl (by rw [show mL 115 = 3 from by decide +kernel]; rfl) rfl (fun _ => rv_of q2 (by decide +kernel)) (fun z => absurd z (by decide +kernel)) (vwX11_ax h2) (fun v3 t3 i3 j3 h3 => ?_); clear h2
  refine mw_rl (i := 1) (pc' := 9) (by decide +kernel) rfl ?_
  refine mw_c (v := 1) (pc' := 10) (by decide +kernel) ?_
  refine mw_al (by decide +kernel) h3 (fun v4 h4 => ?_); clear h3
  refine mw_a (ins := .isub) (pc' := 12) (by decide +kernel) rfl ?_
  refine mw_is (i := 2) (pc' := 13) (L' := [some (.ref l0), some (.ref l1), some (.int (v3 - v4)), none, none, none, none, none]) (by decide +kernel) rfl rfl ?_
  refine mw_rl (i := 0) (pc' := 14) (by decide +kernel) rfl ?_
  refine mw_rl (i := 1) (pc' := 15) (by decide +kernel) rfl ?_
  refine mw_rl (i := 1) (pc' := 16) (by decide +kernel) rfl ?_
  refine mw_c (v := 3) (pc' := 17) (by decide +kernel) ?_
  refine mw_al (by decide +kernel) h4 (fun v5 h5 => ?_); clear h4
  obtain ⟨q6, h6⟩ := h5
  refine mwx_I (q := 116) (na := 3) (ce := 0) (sl := 0) (X := 0) (Y := 0) (as := [.int v5, .ref l1, .ref l0]) (by decide +kernel) ⟨Nat.le_refl _, Nat.le_refl _⟩ rfl rfl (by rw [show mL 116 = 3 from by decide +kernel]; rfl) rfl (fun _ => rv_of q6 (by decide +kernel)) (fun z => absurd z (by decide +kernel)) (vwX11_ay h6) (fun v7 t7 i7 j7 h7 => ?_); clear h6
  refine mw_rl (i := 1) (pc' := 22) (by decide +kernel) rfl ?_
  refine mw_c (v := 2) (pc' := 23) (by decide +kernel) ?_
  refine mw_al (by decide +kernel) h7 (fun v8 h8 => ?_); clear h7
  refine mw_a (ins := .isub) (pc' := 25) (by decide +kernel) rfl ?_
  refine mw_is (i := 3) (pc' := 26) (L' := [some (.ref l0), some (.ref l1), some (.int (v3 - v4)), some (.int (v7 - v8)), none, none, none, none]) (by decide +kernel) rfl rfl ?_
  refine mw_c (v := 0) (pc' := 27) (by decide +kernel) ?_
  refine mw_is (i := 4) (pc' := 29) (L' := [some (.ref l0), some (.ref l1), some (.int (v3 - v4)), some (.int (v7 - v8)), some (.int 0), none, none, none]) (by decide +kernel) rfl rfl ?_
  exact (vwX11_blocker_l29 fu) h8
/- ('X11', 'side') -/
def wX11_side (K J : Nat → Nat) (fu : Nat) (sh : HS) (I : HI) (R : HR) (l0 : Nat) (l1 : Nat) (F : VF) : Prop :=
  wB (oA2 sh I l1 4) fun v1 =>
  if 0 ≤ v1 then
    (wB (oA2 sh I l1 3) fun v2 =>
    wB (oA2 sh I l1 4) fun v3 =>
    wB (oA2 sh I l1 3) fun v4 =>
    wB (oA2 sh I l1 4) fun v5 =>
    rcvB sh l0 9 = true ∧
    wX11_ax K J fu sh I R l0 l1 (iMax v4 v5) (qwI fun v7 t7 i7 j7 =>
    rcvB t7 l0 9 = true ∧
    wX11_ax K J fu t7 i7 j7 l0 l1 (iMin v2 v3) (qwI fun v9 t9 i9 j9 =>
    wB (oA2 t9 i9 l1 2) fun v10 =>
    rcvB t9 l0 9 = true ∧
    wX11_ay K J fu t9 i9 j9 l0 l1 (iMin v2 v3) (qwI fun v12 t12 i12 j12 =>
    rcvB t12 l0 9 = true ∧
    wX11_ay K J fu t12 i12 j12 l0 l1 (iMax v4 v5) (qwI fun v14 t14 i14 j14 =>
    rcvB t14 l0 9 = true ∧
    wX11_ay K J fu t14 i14 j14 l0 l1 (iMin v2 v3) (qwI fun v16 t16 i16 j16 =>
    wB (oA2 t16 i16 l1 1) fun v17 =>
    rcvB t16 l0 9 = true ∧
    wX11_ax K J fu t16 i16 j16 l0 l1 (iMin v2 v3) (qwI fun v19 t19 i19 j19 =>
    wB (fJ6_signum_0f7a4 fu t19 i19 j19 (((v7 - v9) * (v10 - v12)) - ((v14 - v16) * (v17 - v19)))) fun v20 =>
    F (.inl (some (.int v20))) t19 i19 j19)))))))
  else
    (F (.inl (some (.int 0))) sh I R)
theorem vwX11_side {l : Launch} {K J : Nat → Nat} {fu : Nat} {sh : HS} {I : HI} {R : HR} {l0 : Nat} {l1 : Nat} {F : VF} (h0 : wX11_side K J fu sh I R l0 l1 F) : MW l K J 118 0 (ent (mL 118) [.ref l0, .ref l1]) [] sh I R (0, 0) F := by
  unfold wX11_side at h0
  have ml : mL 118 = 4 := by decide +kernel
  rw [ml]
  show MW l K J 118 0 [some (.ref l0), some (.ref l1), none, none] [] sh I R (0, 0) F
  refine mw_rl (i := 1) (pc' := 1) (by decide +kernel) rfl ?_
  refine mw_c (v := 4) (pc' := 2) (by decide +kernel) ?_
  refine mw_al (by decide +kernel) h0 (fun v1 h1 => ?_); clear h0
  refine mw_if (ins := .ifCond .ge 5) (t := 8) (pc' := 6) (by decide +kernel) rfl rfl rfl h1 (fun p2 h2 => ?_) (fun p2 h2 => ?_) <;> clear h1
  · refine mw_rl (i := 1) (pc' := 9) (by decide +kernel) rfl ?_
    refine mw_c (v := 3) (pc' := 10) (by decide +kernel) ?_
    refine mw_al (by decide +kernel) h2 (fun v2 h3 => ?_); clear h2
    refine mw_rl (i := 1) (pc' := 12) (by decide +kernel) rfl ?_
    refine mw_c (v := 4) (pc' := 13) (by decide +kernel) ?_
    refine mw_al (by decide +kernel) h3 (fun v3 h4 => ?_); clear h3
    refine mw_min (X := 0) (Y := 0) (pc' := 17) (by decide +kernel) ⟨Nat.le_refl _, Nat.le_refl _⟩ rfl ?_
    refine mw_is (i := 2) (pc' := 18) (L' := [some (.ref l0), some (.ref l1), some (.int (iMin v2 v3)), none]) (by decide +kernel) rfl rfl ?_
    refine mw_rl (i := 1) (pc' := 19) (by decide +kernel) rfl ?_
    refine mw_c (v := 3) (pc' := 20) (by decide +kernel) ?_
    refine mw_al (by decide +kernel) h4 (fun v4 h5 => ?_); clear h4
    refine mw_rl (i := 1) (pc' := 22) (by decide +kernel) rfl ?_
    refine mw_c (v := 4) (pc' := 23) (by decide +kernel) ?_
    refine mw_al (by decide +kernel) h5 (fun v5 h6 => ?_); clear h5
    refine mw_max (X := 0) (Y := 0) (pc' := 27) (by decide +kernel) ⟨Nat.le_refl _, Nat.le_refl _⟩ rfl ?_
    refine mw_is (i := 3) (pc' := 28) (L' := [some (.ref l0), some (.ref l1), some (.int (iMin v2 v3)), some (.int (iMax v4 v5))]) (by decide +kernel) rfl rfl ?_
    refine mw_rl (i := 0) (pc' := 29) (by decide +kernel) rfl ?_
    refine mw_rl (i := 1) (pc' := 30) (by decide +kernel) rfl ?_
    refine mw_il (i := 3) (pc' := 31) (by decide +kernel) rfl ?_
    obtain ⟨q6, h7⟩ := h6
    refine mwx_I (q := 115) (na := 3) (ce := 0) (sl := 0) (X := 0) (Y := 0) (as := [.int (iMax v4 v5), .ref l1, .ref l0]) (by decide +kernel) ⟨Nat.le_refl _, Nat.le_refl _⟩ rfl rfl (by rw [show mL 115 = 3 from by decide +kernel]; rfl) rfl (fun _ => rv_of q6 (by decide +kernel)) (fun z => absurd z (by decide +kernel)) (vwX11_ax h7) (fun v7 t7 i7 j7 h8 => ?_); clear h7
    refine mw_rl (i := 0) (pc' := 35) (by decide +kernel) rfl ?_
    refine mw_rl (i := 1) (pc' := 36) (by decide +kernel) rfl ?_
    refine mw_il (i := 2) (pc' := 37) (by decide +kernel) rfl ?_
    obtain ⟨q8, h9⟩ := h8
    refine mwx_I (q := 115) (na := 3) (ce := 0) (sl := 0) (X := 0) (Y := 0) (as := [.int (iMin v2 v3), .ref l1, .ref l0]) (by decide +kernel) ⟨Nat.le_refl _, Nat.le_refl _⟩ rfl rfl (by rw [show mL 115 = 3 from by decide +kernel]; rfl) rfl (fun _ => rv_of q8 (by decide +kernel)) (fun z => absurd z (by decide +kernel)) (vwX11_ax h9) (fun v9 t9 i9 j9 h10 => ?_); clear h9
    refine mw_a (ins := .isub) (pc' := 41) (by decide +kernel) rfl ?_
    refine mw_rl (i := 1) (pc' := 42) (by decide +kernel) rfl ?_
    refine mw_c (v := 2) (pc' := 43) (by decide +kernel) ?_
    refine mw_al (by decide +kernel) h10 (fun v10 h11 => ?_); clear h10
    refine mw_rl (i := 0) (pc' := 45) (by decide +kernel) rfl ?_
    refine mw_rl (i := 1) (pc' := 46) (by decide +kernel) rfl ?_
    refine mw_il (i := 2) (pc' := 47) (by decide +kernel) rfl ?_
    obtain ⟨q11, h12⟩ := h11
    refine mwx_I (q := 116) (na := 3) (ce := 0) (sl := 0) (X := 0) (Y := 0) (as := [.int (iMin v2 v3), .ref l1, .ref l0]) (by decide +kernel) ⟨Nat.le_refl _, Nat.le_refl _⟩ rfl rfl (by rw [show mL 116 = 3 from by decide +kernel]; rfl) rfl (fun _ => rv_of q11 (by decide +kernel)) (fun z => absurd z (by decide +kernel)) (vwX11_ay h12) (fun v12 t12 i12 j12 h13 => ?_); clear h12
    refine mw_a (ins := .isub) (pc' := 51) (by decide +kernel) rfl ?_
    refine mw_a (ins := .imul) (pc' := 52) (by decide +kernel) rfl ?_
    refine mw_rl (i := 0) (pc' := 53) (by decide +kernel) rfl ?_
    refine mw_rl (i := 1) (pc' := 54) (by decide +kernel) rfl ?_
    refine mw_il (i := 3) (pc' := 55) (by decide +kernel) rfl ?_
    obtain ⟨q13, h14⟩ := h13
    refine mwx_I (q := 116) (na := 3) (ce := 0) (sl := 0) (X := 0) (Y := 0) (as := [.int (iMax v4 v5), .ref l1, .ref l0]) (by decide +kernel) ⟨Nat.le_refl _, Nat.le_refl _⟩ rfl rfl (by rw [show mL 116 = 3 from by decide +kernel]; rfl) rfl (fun _ => rv_of q13 (by decide +kernel)) (fun z => absurd z (by decide +kernel)) (vwX11_ay h14) (fun v14 t14 i14 j14 h15 => ?_); clear h14
    refine mw_rl (i := 0) (pc' := 59) (by decide +kernel) rfl ?_
    refine mw_rl (i := 1) (pc' := 60) (by decide +kernel) rfl ?_
    refine mw_il (i := 2) (pc' := 61) (by decide +kernel) rfl ?_
    obtain ⟨q15, h16⟩ := h15
    refine mwx_I (q := 116) (na := 3) (ce := 0) (sl := 0) (X := 0) (Y := 0) (as := [.int (iMin v2 v3), .ref l1, .ref l0]) (by decide +kernel) ⟨Nat.le_refl _, Nat.le_refl _⟩ rfl rfl (by rw [show mL 116 = 3 from by decide +kernel]; rfl) rfl (fun _ => rv_of q15 (by decide +kernel)) (fun z => absurd z (by decide +kernel)) (vwX11_ay h16) (fun v16 t16 i16 j16 h17 => ?_); clear h16
    refine mw_a (ins := .isub) (pc' := 65) (by decide +kernel) rfl ?_
    refine mw_rl (i := 1) (pc' := 66) (by decide +kernel) rfl ?_
    refine mw_c (v := 1) (pc' := 67) (by decide +kernel) ?_
    refine mw_al (by decide +kernel) h17 (fun v17 h18 => ?_); clear h17
    refine mw_rl (i := 0) (pc' := 69) (by decide +kernel) rfl ?_
    refine mw_rl (i := 1) (pc' := 70) (by decide +kernel) rfl ?_
    refine mw_il (i := 2) (pc' := 71) (by decide +kernel) rfl ?_
    obtain ⟨q18, h19⟩ := h18
    refine mwx_I (q := 115) (na := 3) (ce := 0) (sl := 0) (X := 0) (Y := 0) (as := [.int (iMin v2 v3), .ref l1, .ref l0]) (by decide +kernel) ⟨Nat.le_refl _, Nat.le_refl _⟩ rfl rfl (by rw [show mL 115 = 3 from by decide +kernel]; rfl) rfl (fun _ => rv_of q18 (by decide +kernel)) (fun z => absurd z (by decide +kernel)) (vwX11_ax h19) (fun v19 t19 i19 j19 h20 => ?_); clear h19
    refine mw_a (ins := .isub) (pc' := 75) (by decide +kernel) rfl ?_
    refine mw_a (ins := .imul) (pc' := 76) (by decide +kernel) rfl ?_
    refine mw_a (ins := .isub) (pc' := 77) (by decide +kernel) rfl ?_
    refine hJ6_signum_0f7a4 (X := 0) (Y := 0) (by decide +kernel) ⟨Nat.le_refl _, Nat.le_refl _⟩ rfl h20 (fun v20 h21 => ?_); clear h20
    exact mw_ri (X := 0) (Y := 0) (by decide +kernel) ⟨Nat.le_refl _, Nat.le_refl _⟩ h21
  · refine mw_c (v := 0) (pc' := 7) (by decide +kernel) ?_
    exact mw_ri (X := 0) (Y := 0) (by decide +kernel) ⟨Nat.le_refl _, Nat.le_refl _⟩ h2
/- ('X11', 'look') -/
def wX11_look (K J : Nat → Nat) (fu : Nat) (sh : HS) (I : HI) (R : HR) (l0 : Nat) (l1 : Nat) (F : VF) : Prop :=
  wB (oA2 sh I l1 4) fun v1 =>
  if 0 ≤ v1 then
    (wB (oA2 sh I l1 3) fun v2 =>
    rcvB sh l0 9 = true ∧
    wX11_ax K J fu sh I R l0 l1 v2 (qwI fun v4 t4 i4 j4 =>
    wB (oA2 t4 i4 l1 3) fun v5 =>
    rcvB t4 l0 9 = true ∧
    wX11_ay K J fu t4 i4 j4 l0 l1 v5 (qwI fun v7 t7 i7 j7 =>
    wB (oA2 t7 i7 l1 1) fun v8 =>
    wB (oA2 t7 i7 l1 4) fun v9 =>
    rcvB t7 l0 9 = true ∧
    wX11_ay K J fu t7 i7 j7 l0 l1 v9 (qwI fun v11 t11 i11 j11 =>
    wB (oA2 t11 i11 l1 2) fun v12 =>
    wB (oA2 t11 i11 l1 4) fun v13 =>
    rcvB t11 l0 9 = true ∧
    wX11_ax K J fu t11 i11 j11 l0 l1 v13 (qwI fun v15 t15 i15 j15 =>
    wB (fJ6_signum_0f7a4 fu t15 i15 j15 (((v4 - v8) * (v11 - v7)) - ((v7 - v12) * (v15 - v4)))) fun v16 =>
    F (.inl (some (.int v16))) t15 i15 j15)))))
  else
    (F (.inl (some (.int 0))) sh I R)
theorem vwX11_look {l : Launch} {K J : Nat → Nat} {fu : Nat} {sh : HS} {I : HI} {R : HR} {l0 : Nat} {l1 : Nat} {F : VF} (h0 : wX11_look K J fu sh I R l0 l1 F) : MW l K J 119 0 (ent (mL 119) [.ref l0, .ref l1]) [] sh I R (0, 0) F := by
  unfold wX11_look at h0
  have ml : mL 119 = 4 := by decide +kernel
  rw [ml]
  show MW l K J 119 0 [some (.ref l0), some (.ref l1), none, none] [] sh I R (0, 0) F
  refine mw_rl (i := 1) (pc' := 1) (by decide +kernel) rfl ?_
  refine mw_c (v := 4) (pc' := 2) (by decide +kernel) ?_
  refine mw_al (by decide +kernel) h0 (fun v1 h1 => ?_); clear h0
  refine mw_if (ins := .ifCond .ge 5) (t := 8) (pc' := 6) (by decide +kernel) rfl rfl rfl h1 (fun p2 h2 => ?_) (fun p2 h2 => ?_) <;> clear h1
  · refine mw_rl (i := 0) (pc' := 9) (by decide +kernel) rfl ?_
    refine mw_rl (i := 1) (pc' := 10) (by decide +kernel) rfl ?_
    refine mw_rl (i := 1) (pc' := 11) (by decide +kernel) rfl ?_
    refine mw_c (v := 3) (pc' := 12) (by decide +kernel) ?_
    refine mw_al (by decide +kernel) h2 (fun v2 h3 => ?_); clear h2
    obtain ⟨q3, h4⟩ := h3
    refine mwx_I (q := 115) (na := 3) (ce := 0) (sl := 0) (X := 0) (Y := 0) (as := [.int v2, .ref l1, .ref l0]) (by decide +kernel) ⟨Nat.le_refl _, Nat.le_refl _⟩ rfl rfl (by rw [show mL 115 = 3 from by decide +kernel]; rfl) rfl (fun _ => rv_of q3 (by decide +kernel)) (fun z => absurd z (by decide +kernel)) (vwX11_ax h4) (fun v4 t4 i4 j4 h5 => ?_); clear h4
    refine mw_is (i := 2) (pc' := 17) (L' := [some (.ref l0), some (.ref l1), some (.int v4), none]) (by decide +kernel) rfl rfl ?_
    refine mw_rl (i := 0) (pc' := 18) (by decide +kernel) rfl ?_
    refine mw_rl (i := 1) (pc' := 19) (by decide +kernel) rfl ?_
    refine mw_rl (i := 1) (pc' := 20) (by decide +kernel) rfl ?_
    refine mw_c (v := 3) (pc' := 21) (by decide +kernel) ?_
    refine mw_al (by decide +kernel) h5 (fun v5 h6 => ?_); clear h5
    obtain ⟨q6, h7⟩ := h6
    refine mwx_I (q := 116) (na := 3) (ce := 0) (sl := 0) (X := 0) (Y := 0) (as := [.int v5, .ref l1, .ref l0]) (by decide +kernel) ⟨Nat.le_refl _, Nat.le_refl _⟩ rfl rfl (by rw [show mL 116 = 3 from by decide +kernel]; rfl) rfl (fun _ => rv_of q6 (by decide +kernel)) (fun z => absurd z (by decide +kernel)) (vwX11_ay h7) (fun v7 t7 i7 j7 h8 => ?_); clear h7
    refine mw_is (i := 3) (pc' := 26) (L' := [some (.ref l0), some (.ref l1), some (.int v4), some (.int v7)]) (by decide +kernel) rfl rfl ?_
    refine mw_il (i := 2) (pc' := 27) (by decide +kernel) rfl ?_
    refine mw_rl (i := 1) (pc' := 28) (by decide +kernel) rfl ?_
    refine mw_c (v := 1) (pc' := 29) (by decide +kernel) ?_
    refine mw_al (by decide +kernel) h8 (fun v8 h9 => ?_); clear h8
    refine mw_a (ins := .isub) (pc' := 31) (by decide +kernel) rfl ?_
    refine mw_rl (i := 0) (pc' := 32) (by decide +kernel) rfl ?_
    refine mw_rl (i := 1) (pc' := 33) (by decide +kernel) rfl ?_
    refine mw_rl (i := 1) (pc' := 34) (by decide +kernel) rfl ?_
    refine mw_c (v := 4) (pc' := 35) (by decide +kernel) ?_
    refine mw_al (by decide +kernel) h9 (fun v9 h10 => ?_); clear h9
    obtain ⟨q10, h11⟩ := h10
    refine mwx_I (q := 116) (na := 3) (ce := 0) (sl := 0) (X := 0) (Y := 0) (as := [.int v9, .ref l1, .ref l0]) (by decide +kernel) ⟨Nat.le_refl _, Nat.le_refl _⟩ rfl rfl (by rw [show mL 116 = 3 from by decide +kernel]; rfl) rfl (fun _ => rv_of q10 (by decide +kernel)) (fun z => absurd z (by decide +kernel)) (vwX11_ay h11) (fun v11 t11 i11 j11 h12 => ?_); clear h11
    refine mw_il (i := 3) (pc' := 40) (by decide +kernel) rfl ?_
    refine mw_a (ins := .isub) (pc' := 41) (by decide +kernel) rfl ?_
    refine mw_a (ins := .imul) (pc' := 42) (by decide +kernel) rfl ?_
    refine mw_il (i := 3) (pc' := 43) (by decide +kernel) rfl ?_
    refine mw_rl (i := 1) (pc' := 44) (by decide +kernel) rfl ?_
    refine mw_c (v := 2) (pc' := 45) (by decide +kernel) ?_
    refine mw_al (by decide +kernel) h12 (fun v12 h13 => ?_); clear h12
    refine mw_a (ins := .isub) (pc' := 47) (by decide +kernel) rfl ?_
    refine mw_rl (i := 0) (pc' := 48) (by decide +kernel) rfl ?_
    refine mw_rl (i := 1) (pc' := 49) (by decide +kernel) rfl ?_
    refine mw_rl (i := 1) (pc' := 50) (by decide +kernel) rfl ?_
    refine mw_c (v := 4) (pc' := 51) (by decide +kernel) ?_
    refine mw_al (by decide +kernel) h13 (fun v13 h14 => ?_); clear h13
    obtain ⟨q14, h15⟩ := h14
    refine mwx_I (q := 115) (na := 3) (ce := 0) (sl := 0) (X := 0) (Y := 0) (as := [.int v13, .ref l1, .ref l0]) (by decide +kernel) ⟨Nat.le_refl _, Nat.le_refl _⟩ rfl rfl (by rw [show mL 115 = 3 from by decide +kernel]; rfl) rfl (fun _ => rv_of q14 (by decide +kernel)) (fun z => absurd z (by decide +kernel)) (vwX11_ax h15) (fun v15 t15 i15 j15 h16 => ?_); clear h15
    refine mw_il (i := 2) (pc' := 56) (by decide +kernel) rfl ?_
    refine mw_a (ins := .isub) (pc' := 57) (by decide +kernel) rfl ?_
    refine mw_a (ins := .imul) (pc' := 58) (by decide +kernel) rfl ?_
    refine mw_a (ins := .isub) (pc' := 59) (by decide +kernel) rfl ?_
    refine hJ6_signum_0f7a4 (X := 0) (Y := 0) (by decide +kernel) ⟨Nat.le_refl _, Nat.le_refl _⟩ rfl h16 (fun v16 h17 => ?_); clear h16
    exact mw_ri (X := 0) (Y := 0) (by decide +kernel) ⟨Nat.le_refl _, Nat.le_refl _⟩ h17
  · refine mw_c (v := 0) (pc' := 7) (by decide +kernel) ?_
    exact mw_ri (X := 0) (Y := 0) (by decide +kernel) ⟨Nat.le_refl _, Nat.le_refl _⟩ h2
/- ('X11', 'kinds') -/
def wX11_kinds_b63 (K J : Nat → Nat) (fu : Nat) (F : VF) (sh : HS) (I : HI) (R : HR) (l4 : Int32) : Prop :=
  F (.inl (some (.int l4))) sh I R
theorem vwX11_kinds_b63 {l : Launch} {K J : Nat → Nat} {fu : Nat} {F : VF} {sh : HS} {I : HI} {R : HR} {l4 : Int32} {d0 d1 d2 d3 d5 d6 d7 : Option Value} (h0 : wX11_kinds_b63 K J fu F sh I R l4) : MW l K J 123 63 [d0, d1, d2, d3, some (.int l4), d5, d6, d7] [] sh I R (0, 0) F := by
  unfold wX11_kinds_b63 at h0
  refine mw_il (i := 4) (pc' := 65) (by decide +kernel) rfl ?_
  exact mw_ri (X := 0) (Y := 0) (by decide +kernel) ⟨Nat.le_refl _, Nat.le_refl _⟩ h0
def wX11_kinds_b243 (K J : Nat → Nat) (fu : Nat) (F : VF) (sh : HS) (I : HI) (R : HR) (l4 : Int32) : Prop :=
  F (.inl (some (.int l4))) sh I R
theorem vwX11_kinds_b243 {l : Launch} {K J : Nat → Nat} {fu : Nat} {F : VF} {sh : HS} {I : HI} {R : HR} {l4 : Int32} {d0 d1 d2 d3 d5 d6 d7 : Option Value} (h0 : wX11_kinds_b243 K J fu F sh I R l4) : MW l K J 123 243 [d0, d1, d2, d3, some (.int l4), d5, d6, d7] [] sh I R (0, 0) F := by
  unfold wX11_kinds_b243 at h0
  refine mw_il (i := 4) (pc' := 245) (by decide +kernel) rfl ?_
  exact mw_ri (X := 0) (Y := 0) (by decide +kernel) ⟨Nat.le_refl _, Nat.le_refl _⟩ h0
def wX11_kinds_b215 (K J : Nat → Nat) (fu : Nat) (F : VF) (sh : HS) (I : HI) (R : HR) (l0 : Nat) (l2 : Nat) (l3 : Option Nat) (l4 : Int32) : Prop :=
  wB (oA2 sh I l2 3) fun v12 =>
  wB l3 fun n13 =>
  wB (oA2 sh I n13 3) fun v14 =>
  if v12 = v14 then
    (wB (oI sh I l0 9 0) fun v15 =>
    rcvB sh l0 9 = true ∧
    wX11_near K J fu sh I R l0 l2 n13 v15 (qwI fun v17 t17 i17 j17 =>
    if v17 = 0 then
      ((wX11_kinds_b243 K J fu F) t17 i17 j17 l4)
    else
      ((wX11_kinds_b243 K J fu F) t17 i17 j17 (l4 ||| 4))))
  else
    ((wX11_kinds_b243 K J fu F) sh I R l4)
theorem vwX11_kinds_b215 {l : Launch} {K J : Nat → Nat} {fu : Nat} {F : VF} {sh : HS} {I : HI} {R : HR} {l0 : Nat} {l2 : Nat} {l3 : Option Nat} {l4 : Int32} {d1 d5 d6 d7 : Option Value} (h0 : wX11_kinds_b215 K J fu F sh I R l0 l2 l3 l4) : MW l K J 123 215 [some (.ref l0), d1, some (.ref l2), some (va_rf l3), some (.int l4), d5, d6, d7] [] sh I R (0, 0) F := by
  unfold wX11_kinds_b215 at h0
  refine mw_rl (i := 2) (pc' := 216) (by decide +kernel) rfl ?_
  refine mw_c (v := 3) (pc' := 217) (by decide +kernel) ?_
  refine mw_al (by decide +kernel) h0 (fun v12 h1 => ?_); clear h0
  refine mw_ldv (t := 1) (i := 3) (v := va_rf l3) (pc' := 219) (by decide +kernel) rfl (isTy_rf _) ?_
  refine mw_c (v := 3) (pc' := 220) (by decide +kernel) ?_
  obtain ⟨n13, e9, h2⟩ := wBd h1
  subst e9; clear h1
  refine mw_al (by decide +kernel) h2 (fun v14 h3 => ?_); clear h2
  refine mw_ifn (ins := .if_icmp .ne 22) (t := 243) (pc' := 224) (by decide +kernel) rfl rfl rfl h3 (fun p4 h4 => ?_) (fun p4 h4 => ?_) <;> clear h3
  · exact (vwX11_kinds_b243) h4
  · refine mw_rl (i := 0) (pc' := 225) (by decide +kernel) rfl ?_
    refine mw_rl (i := 2) (pc' := 226) (by decide +kernel) rfl ?_
    refine mw_rl (i := 3) (pc' := 227) (by decide +kernel) rfl ?_
    refine mw_rl (i := 0) (pc' := 228) (by decide +kernel) rfl ?_
    refine mw_fI (ix := 82) (t := 9) (j := 0) (ty := 0) (md := 0) (by decide +kernel) (by decide) h4 (fun v15 h5 => ?_); clear h4
    obtain ⟨q16, h6⟩ := h5
    refine mwx_I (q := 121) (na := 4) (ce := 0) (sl := 0) (X := 0) (Y := 0) (as := [.int v15, .ref n13, .ref l2, .ref l0]) (by decide +kernel) ⟨Nat.le_refl _, Nat.le_refl _⟩ rfl rfl (by rw [show mL 121 = 4 from by decide +kernel]; rfl) rfl (fun _ => rv_of q16 (by decide +kernel)) (fun z => absurd z (by decide +kernel)) (vwX11_near h6) (fun v17 t17 i17 j17 h7 => ?_); clear h6
    refine mw_if (ins := .ifCond .eq 9) (t := 243) (pc' := 237) (by decide +kernel) rfl rfl rfl h7 (fun p8 h8 => ?_) (fun p8 h8 => ?_) <;> clear h7
    · exact (vwX11_kinds_b243) h8
    · refine mw_il (i := 4) (pc' := 239) (by decide +kernel) rfl ?_
      refine mw_c (v := 4) (pc' := 240) (by decide +kernel) ?_
      refine mw_a (ins := .ior) (pc' := 241) (by decide +kernel) rfl ?_
      refine mw_is (i := 4) (pc' := 243) (L' := [some (.ref l0), d1, some (.ref l2), some (.ref n13), some (.int (l4 ||| 4)), d5, d6, d7]) (by decide +kernel) rfl rfl ?_
      exact (vwX11_kinds_b243) h8
def wX11_kinds_b183 (K J : Nat → Nat) (fu : Nat) (F : VF) (sh : HS) (I : HI) (R : HR) (l0 : Nat) (l2 : Nat) (l3 : Option Nat) (l4 : Int32) (l6 : Int32) : Prop :=
  if l6 = 0 then
    ((wX11_kinds_b215 K J fu F) sh I R l0 l2 l3 l4)
  else
    (rcvB sh l0 9 = true ∧
    wX11_look K J fu sh I R l0 l2 (qwI fun v19 t19 i19 j19 =>
    if v19 = 0 then
      ((wX11_kinds_b215 K J fu F) t19 i19 j19 l0 l2 l3 l4)
    else
      (rcvB t19 l0 9 = true ∧
      wX11_look K J fu t19 i19 j19 l0 l2 (qwI fun v21 t21 i21 j21 =>
      wB l3 fun n22 =>
      rcvB t21 l0 9 = true ∧
      wX11_look K J fu t21 i21 j21 l0 n22 (qwI fun v24 t24 i24 j24 =>
      if v21 = v24 then
        ((wX11_kinds_b215 K J fu F) t24 i24 j24 l0 l2 (some n22) (l4 ||| 2))
      else
        ((wX11_kinds_b215 K J fu F) t24 i24 j24 l0 l2 (some n22) l4))))))
theorem vwX11_kinds_b183 {l : Launch} {K J : Nat → Nat} {fu : Nat} {F : VF} {sh : HS} {I : HI} {R : HR} {l0 : Nat} {l2 : Nat} {l3 : Option Nat} {l4 : Int32} {l6 : Int32} {d1 d5 d7 : Option Value} (h0 : wX11_kinds_b183 K J fu F sh I R l0 l2 l3 l4 l6) : MW l K J 123 183 [some (.ref l0), d1, some (.ref l2), some (va_rf l3), some (.int l4), d5, some (.int l6), d7] [] sh I R (0, 0) F := by
  unfold wX11_kinds_b183 at h0
  refine mw_il (i := 6) (pc' := 185) (by decide +kernel) rfl ?_
  refine mw_if (ins := .ifCond .eq 30) (t := 215) (pc' := 188) (by decide +kernel) rfl rfl rfl h0 (fun p1 h1 => ?_) (fun p1 h1 => ?_) <;> clear h0
  · exact (vwX11_kinds_b215) h1
  · refine mw_rl (i := 0) (pc' := 189) (by decide +kernel) rfl ?_
    refine mw_rl (i := 2) (pc' := 190) (by decide +kernel) rfl ?_
    obtain ⟨q18, h2⟩ := h1
    refine mwx_I (q := 119) (na := 2) (ce := 0) (sl := 0) (X := 0) (Y := 0) (as := [.ref l2, .ref l0]) (by decide +kernel) ⟨Nat.le_refl _, Nat.le_refl _⟩ rfl rfl (by rw [show mL 119 = 4 from by decide +kernel]; rfl) rfl (fun _ => rv_of q18 (by decide +kernel)) (fun z => absurd z (by decide +kernel)) (vwX11_look h2) (fun v19 t19 i19 j19 h3 => ?_); clear h2
    refine mw_if (ins := .ifCond .eq 22) (t := 215) (pc' := 196) (by decide +kernel) rfl rfl rfl h3 (fun p4 h4 => ?_) (fun p4 h4 => ?_) <;> clear h3
    · exact (vwX11_kinds_b215) h4
    · refine mw_rl (i := 0) (pc' := 197) (by decide +kernel) rfl ?_
      refine mw_rl (i := 2) (pc' := 198) (by decide +kernel) rfl ?_
      obtain ⟨q20, h5⟩ := h4
      refine mwx_I (q := 119) (na := 2) (ce := 0) (sl := 0) (X := 0) (Y := 0) (as := [.ref l2, .ref l0]) (by decide +kernel) ⟨Nat.le_refl _, Nat.le_refl _⟩ rfl rfl (by rw [show mL 119 = 4 from by decide +kernel]; rfl) rfl (fun _ => rv_of q20 (by decide +kernel)) (fun z => absurd z (by decide +kernel)) (vwX11_look h5) (fun v21 t21 i21 j21 h6 => ?_); clear h5
      refine mw_rl (i := 0) (pc' := 202) (by decide +kernel) rfl ?_
      refine mw_ldv (t := 1) (i := 3) (v := va_rf l3) (pc' := 203) (by decide +kernel) rfl (isTy_rf _) ?_
      obtain ⟨n22, e9, h7⟩ := wBd h6
      subst e9; clear h6
      obtain ⟨q23, h8⟩ := h7
      refine mwx_I (q := 119) (na := 2) (ce := 0) (sl := 0) (X := 0) (Y := 0) (as := [.ref n22, .ref l0]) (by decide +kernel) ⟨Nat.le_refl _, Nat.le_refl _⟩ rfl rfl (by rw [show mL 119 = 4 from by decide +kernel]; rfl) rfl (fun _ => rv_of q23 (by decide +kernel)) (fun z => absurd z (by decide +kernel)) (vwX11_look h8) (fun v24 t24 i24 j24 h9 => ?_); clear h8
      refine mw_ifn (ins := .if_icmp .ne 9) (t := 215) (pc' := 209) (by decide +kernel) rfl rfl rfl h9 (fun p10 h10 => ?_) (fun p10 h10 => ?_) <;> clear h9
      · exact (vwX11_kinds_b215) h10
      · refine mw_il (i := 4) (pc' := 211) (by decide +kernel) rfl ?_
        refine mw_c (v := 2) (pc' := 212) (by decide +kernel) ?_
        refine mw_a (ins := .ior) (pc' := 213) (by decide +kernel) rfl ?_
        refine mw_is (i := 4) (pc' := 215) (L' := [some (.ref l0), d1, some (.ref l2), some (.ref n22), some (.int (l4 ||| 2)), d5, some (.int l6), d7]) (by decide +kernel) rfl rfl ?_
        exact (vwX11_kinds_b215) h10
def wX11_kinds_b155 (K J : Nat → Nat) (fu : Nat) (F : VF) (sh : HS) (I : HI) (R : HR) (l0 : Nat) (l2 : Nat) (l3 : Option Nat) (l4 : Int32) (l6 : Int32) : Prop :=
  rcvB sh l0 9 = true ∧
  wX11_side K J fu sh I R l0 l2 (qwI fun v11 t11 i11 j11 =>
  if v11 = 0 then
    ((wX11_kinds_b183 K J fu F) t11 i11 j11 l0 l2 l3 l4 l6)
  else
    (rcvB t11 l0 9 = true ∧
    wX11_side K J fu t11 i11 j11 l0 l2 (qwI fun v26 t26 i26 j26 =>
    wB l3 fun n27 =>
    rcvB t26 l0 9 = true ∧
    wX11_side K J fu t26 i26 j26 l0 n27 (qwI fun v29 t29 i29 j29 =>
    if v26 = (-v29) then
      ((wX11_kinds_b183 K J fu F) t29 i29 j29 l0 l2 (some n27) (l4 ||| 1) l6)
    else
      ((wX11_kinds_b183 K J fu F) t29 i29 j29 l0 l2 (some n27) l4 l6)))))
theorem vwX11_kinds_b155 {l : Launch} {K J : Nat → Nat} {fu : Nat} {F : VF} {sh : HS} {I : HI} {R : HR} {l0 : Nat} {l2 : Nat} {l3 : Option Nat} {l4 : Int32} {l6 : Int32} {d1 d5 d7 : Option Value} (h0 : wX11_kinds_b155 K J fu F sh I R l0 l2 l3 l4 l6) : MW l K J 123 155 [some (.ref l0), d1, some (.ref l2), some (va_rf l3), some (.int l4), d5, some (.int l6), d7] [] sh I R (0, 0) F := by
  unfold wX11_kinds_b155 at h0
  refine mw_rl (i := 0) (pc' := 156) (by decide +kernel) rfl ?_
  refine mw_rl (i := 2) (pc' := 157) (by decide +kernel) rfl ?_
  obtain ⟨q10, h1⟩ := h0
  refine mwx_I (q := 118) (na := 2) (ce := 0) (sl := 0) (X := 0) (Y := 0) (as := [.ref l2, .ref l0]) (by decide +kernel) ⟨Nat.le_refl _, Nat.le_refl _⟩ rfl rfl (by rw [show mL 118 = 4 from by decide +kernel]; rfl) rfl (fun _ => rv_of q10 (by decide +kernel)) (fun z => absurd z (by decide +kernel)) (vwX11_side h1) (fun v11 t11 i11 j11 h2 => ?_); clear h1
  refine mw_if (ins := .ifCond .eq 23) (t := 183) (pc' := 163) (by decide +kernel) rfl rfl rfl h2 (fun p3 h3 => ?_) (fun p3 h3 => ?_) <;> clear h2
  · exact (vwX11_kinds_b183) h3
  · refine mw_rl (i := 0) (pc' := 164) (by decide +kernel) rfl ?_
    refine mw_rl (i := 2) (pc' := 165) (by decide +kernel) rfl ?_
    obtain ⟨q25, h4⟩ := h3
    refine mwx_I (q := 118) (na := 2) (ce := 0) (sl := 0) (X := 0) (Y := 0) (as := [.ref l2, .ref l0]) (by decide +kernel) ⟨Nat.le_refl _, Nat.le_refl _⟩ rfl rfl (by rw [show mL 118 = 4 from by decide +kernel]; rfl) rfl (fun _ => rv_of q25 (by decide +kernel)) (fun z => absurd z (by decide +kernel)) (vwX11_side h4) (fun v26 t26 i26 j26 h5 => ?_); clear h4
    refine mw_rl (i := 0) (pc' := 169) (by decide +kernel) rfl ?_
    refine mw_ldv (t := 1) (i := 3) (v := va_rf l3) (pc' := 170) (by decide +kernel) rfl (isTy_rf _) ?_
    obtain ⟨n27, e9, h6⟩ := wBd h5
    subst e9; clear h5
    obtain ⟨q28, h7⟩ := h6
    refine mwx_I (q := 118) (na := 2) (ce := 0) (sl := 0) (X := 0) (Y := 0) (as := [.ref n27, .ref l0]) (by decide +kernel) ⟨Nat.le_refl _, Nat.le_refl _⟩ rfl rfl (by rw [show mL 118 = 4 from by decide +kernel]; rfl) rfl (fun _ => rv_of q28 (by decide +kernel)) (fun z => absurd z (by decide +kernel)) (vwX11_side h7) (fun v29 t29 i29 j29 h8 => ?_); clear h7
    refine mw_a (ins := .ineg) (pc' := 174) (by decide +kernel) rfl ?_
    refine mw_ifn (ins := .if_icmp .ne 9) (t := 183) (pc' := 177) (by decide +kernel) rfl rfl rfl h8 (fun p9 h9 => ?_) (fun p9 h9 => ?_) <;> clear h8
    · exact (vwX11_kinds_b183) h9
    · refine mw_il (i := 4) (pc' := 179) (by decide +kernel) rfl ?_
      refine mw_c (v := 1) (pc' := 180) (by decide +kernel) ?_
      refine mw_a (ins := .ior) (pc' := 181) (by decide +kernel) rfl ?_
      refine mw_is (i := 4) (pc' := 183) (L' := [some (.ref l0), d1, some (.ref l2), some (.ref n27), some (.int (l4 ||| 1)), d5, some (.int l6), d7]) (by decide +kernel) rfl rfl ?_
      exact (vwX11_kinds_b183) h9
def wX11_kinds_b143 (K J : Nat → Nat) (fu : Nat) (F : VF) (sh : HS) (I : HI) (R : HR) (l0 : Nat) (l2 : Nat) (l3 : Option Nat) (l4 : Int32) (l6 : Int32) (s0 : Int32) : Prop :=
  if l6 = 0 then
    (if s0 = 0 then
      ((wX11_kinds_b183 K J fu F) sh I R l0 l2 l3 l4 l6)
    else
      ((wX11_kinds_b155 K J fu F) sh I R l0 l2 l3 l4 l6))
  else
    ((wX11_kinds_b155 K J fu F) sh I R l0 l2 l3 l4 l6)
theorem vwX11_kinds_b143 {l : Launch} {K J : Nat → Nat} {fu : Nat} {F : VF} {sh : HS} {I : HI} {R : HR} {l0 : Nat} {l2 : Nat} {l3 : Option Nat} {l4 : Int32} {l6 : Int32} {s0 : Int32} {d1 d5 d7 : Option Value} (h0 : wX11_kinds_b143 K J fu F sh I R l0 l2 l3 l4 l6 s0) : MW l K J 123 143 [some (.ref l0), d1, some (.ref l2), some (va_rf l3), some (.int l4), d5, some (.int l6), d7] [.int s0] sh I R (0, 0) F := by
  unfold wX11_kinds_b143 at h0
  refine mw_is (i := 7) (pc' := 145) (L' := [some (.ref l0), d1, some (.ref l2), some (va_rf l3), some (.int l4), d5, some (.int l6), some (.int s0)]) (by decide +kernel) rfl rfl ?_
  refine mw_il (i := 6) (pc' := 147) (by decide +kernel) rfl ?_
  refine mw_ifn (ins := .ifCond .ne 8) (t := 155) (pc' := 150) (by decide +kernel) rfl rfl rfl h0 (fun p1 h1 => ?_) (fun p1 h1 => ?_) <;> clear h0
  · exact (vwX11_kinds_b155) h1
  · refine mw_il (i := 7) (pc' := 152) (by decide +kernel) rfl ?_
    refine mw_if (ins := .ifCond .eq 31) (t := 183) (pc' := 155) (by decide +kernel) rfl rfl rfl h1 (fun p2 h2 => ?_) (fun p2 h2 => ?_) <;> clear h1
    · exact (vwX11_kinds_b183) h2
    · exact (vwX11_kinds_b155) h2
def wX11_kinds_b142 (K J : Nat → Nat) (fu : Nat) (F : VF) (sh : HS) (I : HI) (R : HR) (l0 : Nat) (l2 : Nat) (l3 : Option Nat) (l4 : Int32) (l6 : Int32) : Prop :=
  (wX11_kinds_b143 K J fu F) sh I R l0 l2 l3 l4 l6 0
theorem vwX11_kinds_b142 {l : Launch} {K J : Nat → Nat} {fu : Nat} {F : VF} {sh : HS} {I : HI} {R : HR} {l0 : Nat} {l2 : Nat} {l3 : Option Nat} {l4 : Int32} {l6 : Int32} {d1 d5 d7 : Option Value} (h0 : wX11_kinds_b142 K J fu F sh I R l0 l2 l3 l4 l6) : MW l K J 123 142 [some (.ref l0), d1, some (.ref l2), some (va_rf l3), some (.int l4), d5, some (.int l6), d7] [] sh I R (0, 0) F := by
  unfold wX11_kinds_b142 at h0
  refine mw_c (v := 0) (pc' := 143) (by decide +kernel) ?_
  exact (vwX11_kinds_b143) h0
def wX11_kinds_b113 (K J : Nat → Nat) (fu : Nat) (F : VF) (sh : HS) (I : HI) (R : HR) (l0 : Nat) (l2 : Nat) (l3 : Option Nat) (l4 : Int32) (l5 : Int32) (s0 : Int32) : Prop :=
  if l5 = 0 then
    ((wX11_kinds_b142 K J fu F) sh I R l0 l2 l3 l4 s0)
  else
    (wB (oA2 sh I l2 3) fun v30 =>
    wB l3 fun n31 =>
    wB (oA2 sh I n31 3) fun v32 =>
    if v30 = v32 then
      (wB (oA2 sh I l2 4) fun v33 =>
      wB (oA2 sh I n31 4) fun v34 =>
      if v33 = v34 then
        ((wX11_kinds_b143 K J fu F) sh I R l0 l2 (some n31) l4 s0 1)
      else
        ((wX11_kinds_b142 K J fu F) sh I R l0 l2 (some n31) l4 s0))
    else
      ((wX11_kinds_b142 K J fu F) sh I R l0 l2 (some n31) l4 s0))
theorem vwX11_kinds_b113 {l : Launch} {K J : Nat → Nat} {fu : Nat} {F : VF} {sh : HS} {I : HI} {R : HR} {l0 : Nat} {l2 : Nat} {l3 : Option Nat} {l4 : Int32} {l5 : Int32} {s0 : Int32} {d1 d6 d7 : Option Value} (h0 : wX11_kinds_b113 K J fu F sh I R l0 l2 l3 l4 l5 s0) : MW l K J 123 113 [some (.ref l0), d1, some (.ref l2), some (va_rf l3), some (.int l4), some (.int l5), d6, d7] [.int s0] sh I R (0, 0) F := by
  unfold wX11_kinds_b113 at h0
  refine mw_is (i := 6) (pc' := 115) (L' := [some (.ref l0), d1, some (.ref l2), some (va_rf l3), some (.int l4), some (.int l5), some (.int s0), d7]) (by decide +kernel) rfl rfl ?_
  refine mw_il (i := 5) (pc' := 117) (by decide +kernel) rfl ?_
  refine mw_if (ins := .ifCond .eq 25) (t := 142) (pc' := 120) (by decide +kernel) rfl rfl rfl h0 (fun p1 h1 => ?_) (fun p1 h1 => ?_) <;> clear h0
  · exact (vwX11_kinds_b142) h1
  · refine mw_rl (i := 2) (pc' := 121) (by decide +kernel) rfl ?_
    refine mw_c (v := 3) (pc' := 122) (by decide +kernel) ?_
    refine mw_al (by decide +kernel) h1 (fun v30 h2 => ?_); clear h1
    refine mw_ldv (t := 1) (i := 3) (v := va_rf l3) (pc' := 124) (by decide +kernel) rfl (isTy_rf _) ?_
    refine mw_c (v := 3) (pc' := 125) (by decide +kernel) ?_
    obtain ⟨n31, e9, h3⟩ := wBd h2
    subst e9; clear h2
    refine mw_al (by decide +kernel) h3 (fun v32 h4 => ?_); clear h3
    refine mw_ifn (ins := .if_icmp .ne 16) (t := 142) (pc' := 129) (by decide +kernel) rfl rfl rfl h4 (fun p5 h5 => ?_) (fun p5 h5 => ?_) <;> clear h4
    · exact (vwX11_kinds_b142) h5
    · refine mw_rl (i := 2) (pc' := 130) (by decide +kernel) rfl ?_
      refine mw_c (v := 4) (pc' := 131) (by decide +kernel) ?_
      refine mw_al (by decide +kernel) h5 (fun v33 h6 => ?_); clear h5
      refine mw_rl (i := 3) (pc' := 133) (by decide +kernel) rfl ?_
      refine mw_c (v := 4) (pc' := 134) (by decide +kernel) ?_
      refine mw_al (by decide +kernel) h6 (fun v34 h7 => ?_); clear h6
      refine mw_ifn (ins := .if_icmp .ne 7) (t := 142) (pc' := 138) (by decide +kernel) rfl rfl rfl h7 (fun p8 h8 => ?_) (fun p8 h8 => ?_) <;> clear h7
      · exact (vwX11_kinds_b142) h8
      · refine mw_c (v := 1) (pc' := 139) (by decide +kernel) ?_
        refine mw_go (t := 143) (by decide +kernel) ?_
        exact (vwX11_kinds_b143) h8
def wX11_kinds_b112 (K J : Nat → Nat) (fu : Nat) (F : VF) (sh : HS) (I : HI) (R : HR) (l0 : Nat) (l2 : Nat) (l3 : Option Nat) (l4 : Int32) (l5 : Int32) : Prop :=
  (wX11_kinds_b113 K J fu F) sh I R l0 l2 l3 l4 l5 0
theorem vwX11_kinds_b112 {l : Launch} {K J : Nat → Nat} {fu : Nat} {F : VF} {sh : HS} {I : HI} {R : HR} {l0 : Nat} {l2 : Nat} {l3 : Option Nat} {l4 : Int32} {l5 : Int32} {d1 d6 d7 : Option Value} (h0 : wX11_kinds_b112 K J fu F sh I R l0 l2 l3 l4 l5) : MW l K J 123 112 [some (.ref l0), d1, some (.ref l2), some (va_rf l3), some (.int l4), some (.int l5), d6, d7] [] sh I R (0, 0) F := by
  unfold wX11_kinds_b112 at h0
  refine mw_c (v := 0) (pc' := 113) (by decide +kernel) ?_
  exact (vwX11_kinds_b113) h0
def wX11_kinds_b83 (K J : Nat → Nat) (fu : Nat) (F : VF) (sh : HS) (I : HI) (R : HR) (l0 : Nat) (l2 : Nat) (l3 : Option Nat) (l4 : Int32) (s0 : Int32) : Prop :=
  if s0 = 0 then
    ((wX11_kinds_b112 K J fu F) sh I R l0 l2 l3 l4 s0)
  else
    (wB (oA2 sh I l2 3) fun v35 =>
    wB l3 fun n36 =>
    wB (oA2 sh I n36 4) fun v37 =>
    if v35 = v37 then
      (wB (oA2 sh I l2 4) fun v38 =>
      wB (oA2 sh I n36 3) fun v39 =>
      if v38 = v39 then
        ((wX11_kinds_b113 K J fu F) sh I R l0 l2 (some n36) l4 s0 1)
      else
        ((wX11_kinds_b112 K J fu F) sh I R l0 l2 (some n36) l4 s0))
    else
      ((wX11_kinds_b112 K J fu F) sh I R l0 l2 (some n36) l4 s0))
theorem vwX11_kinds_b83 {l : Launch} {K J : Nat → Nat} {fu : Nat} {F : VF} {sh : HS} {I : HI} {R : HR} {l0 : Nat} {l2 : Nat} {l3 : Option Nat} {l4 : Int32} {s0 : Int32} {d1 d5 d6 d7 : Option Value} (h0 : wX11_kinds_b83 K J fu F sh I R l0 l2 l3 l4 s0) : MW l K J 123 83 [some (.ref l0), d1, some (.ref l2), some (va_rf l3), some (.int l4), d5, d6, d7] [.int s0] sh I R (0, 0) F := by
  unfold wX11_kinds_b83 at h0
  refine mw_is (i := 5) (pc' := 85) (L' := [some (.ref l0), d1, some (.ref l2), some (va_rf l3), some (.int l4), some (.int s0), d6, d7]) (by decide +kernel) rfl rfl ?_
  refine mw_il (i := 5) (pc' := 87) (by decide +kernel) rfl ?_
  refine mw_if (ins := .ifCond .eq 25) (t := 112) (pc' := 90) (by decide +kernel) rfl rfl rfl h0 (fun p1 h1 => ?_) (fun p1 h1 => ?_) <;> clear h0
  · exact (vwX11_kinds_b112) h1
  · refine mw_rl (i := 2) (pc' := 91) (by decide +kernel) rfl ?_
    refine mw_c (v := 3) (pc' := 92) (by decide +kernel) ?_
    refine mw_al (by decide +kernel) h1 (fun v35 h2 => ?_); clear h1
    refine mw_ldv (t := 1) (i := 3) (v := va_rf l3) (pc' := 94) (by decide +kernel) rfl (isTy_rf _) ?_
    refine mw_c (v := 4) (pc' := 95) (by decide +kernel) ?_
    obtain ⟨n36, e9, h3⟩ := wBd h2
    subst e9; clear h2
    refine mw_al (by decide +kernel) h3 (fun v37 h4 => ?_); clear h3
    refine mw_ifn (ins := .if_icmp .ne 16) (t := 112) (pc' := 99) (by decide +kernel) rfl rfl rfl h4 (fun p5 h5 => ?_) (fun p5 h5 => ?_) <;> clear h4
    · exact (vwX11_kinds_b112) h5
    · refine mw_rl (i := 2) (pc' := 100) (by decide +kernel) rfl ?_
      refine mw_c (v := 4) (pc' := 101) (by decide +kernel) ?_
      refine mw_al (by decide +kernel) h5 (fun v38 h6 => ?_); clear h5
      refine mw_rl (i := 3) (pc' := 103) (by decide +kernel) rfl ?_
      refine mw_c (v := 3) (pc' := 104) (by decide +kernel) ?_
      refine mw_al (by decide +kernel) h6 (fun v39 h7 => ?_); clear h6
      refine mw_ifn (ins := .if_icmp .ne 7) (t := 112) (pc' := 108) (by decide +kernel) rfl rfl rfl h7 (fun p8 h8 => ?_) (fun p8 h8 => ?_) <;> clear h7
      · exact (vwX11_kinds_b112) h8
      · refine mw_c (v := 1) (pc' := 109) (by decide +kernel) ?_
        refine mw_go (t := 113) (by decide +kernel) ?_
        exact (vwX11_kinds_b113) h8
def wX11_kinds_b82 (K J : Nat → Nat) (fu : Nat) (F : VF) (sh : HS) (I : HI) (R : HR) (l0 : Nat) (l2 : Nat) (l3 : Option Nat) (l4 : Int32) : Prop :=
  (wX11_kinds_b83 K J fu F) sh I R l0 l2 l3 l4 0
theorem vwX11_kinds_b82 {l : Launch} {K J : Nat → Nat} {fu : Nat} {F : VF} {sh : HS} {I : HI} {R : HR} {l0 : Nat} {l2 : Nat} {l3 : Option Nat} {l4 : Int32} {d1 d5 d6 d7 : Option Value} (h0 : wX11_kinds_b82 K J fu F sh I R l0 l2 l3 l4) : MW l K J 123 82 [some (.ref l0), d1, some (.ref l2), some (va_rf l3), some (.int l4), d5, d6, d7] [] sh I R (0, 0) F := by
  unfold wX11_kinds_b82 at h0
  refine mw_c (v := 0) (pc' := 83) (by decide +kernel) ?_
  exact (vwX11_kinds_b83) h0
def wX11_kinds_b48 (K J : Nat → Nat) (fu : Nat) (F : VF) (sh : HS) (I : HI) (R : HR) (l0 : Nat) (l2 : Nat) (l3 : Option Nat) (s0 : Int32) : Prop :=
  if l3 = none then
    ((wX11_kinds_b63 K J fu F) sh I R s0)
  else
    (wB l3 fun n6 =>
    wB (oA2 sh I n6 0) fun v7 =>
    wB (oA2 sh I l2 0) fun v8 =>
    if v7 = v8 then
      (wB (oA2 sh I l2 4) fun v9 =>
      if v9 < 0 then
        ((wX11_kinds_b82 K J fu F) sh I R l0 l2 (some n6) s0)
      else
        (wB (oA2 sh I n6 4) fun v40 =>
        if v40 < 0 then
          ((wX11_kinds_b82 K J fu F) sh I R l0 l2 (some n6) s0)
        else
          ((wX11_kinds_b83 K J fu F) sh I R l0 l2 (some n6) s0 1)))
    else
      ((wX11_kinds_b63 K J fu F) sh I R s0))
theorem vwX11_kinds_b48 {l : Launch} {K J : Nat → Nat} {fu : Nat} {F : VF} {sh : HS} {I : HI} {R : HR} {l0 : Nat} {l2 : Nat} {l3 : Option Nat} {s0 : Int32} {d1 d4 d5 d6 d7 : Option Value} (h0 : wX11_kinds_b48 K J fu F sh I R l0 l2 l3 s0) : MW l K J 123 48 [some (.ref l0), d1, some (.ref l2), some (va_rf l3), d4, d5, d6, d7] [.int s0] sh I R (0, 0) F := by
  unfold wX11_kinds_b48 at h0
  refine mw_is (i := 4) (pc' := 50) (L' := [some (.ref l0), d1, some (.ref l2), some (va_rf l3), some (.int s0), d5, d6, d7]) (by decide +kernel) rfl rfl ?_
  refine mw_ldv (t := 1) (i := 3) (v := va_rf l3) (pc' := 51) (by decide +kernel) rfl (isTy_rf _) ?_
  refine mw_nul (o := 12) (t := 63) (x := l3) (by decide +kernel) h0 (fun p1 h1 => ?_) (fun p1 h1 => ?_) <;> clear h0
  · exact (vwX11_kinds_b63) h1
  · refine mw_ldv (t := 1) (i := 3) (v := va_rf l3) (pc' := 55) (by decide +kernel) rfl (isTy_rf _) ?_
    refine mw_c (v := 0) (pc' := 56) (by decide +kernel) ?_
    obtain ⟨n6, e9, h2⟩ := wBd h1
    subst e9; clear h1
    refine mw_al (by decide +kernel) h2 (fun v7 h3 => ?_); clear h2
    refine mw_rl (i := 2) (pc' := 58) (by decide +kernel) rfl ?_
    refine mw_c (v := 0) (pc' := 59) (by decide +kernel) ?_
    refine mw_al (by decide +kernel) h3 (fun v8 h4 => ?_); clear h3
    refine mw_if (ins := .if_icmp .eq 6) (t := 66) (pc' := 63) (by decide +kernel) rfl rfl rfl h4 (fun p5 h5 => ?_) (fun p5 h5 => ?_) <;> clear h4
    · refine mw_rl (i := 2) (pc' := 67) (by decide +kernel) rfl ?_
      refine mw_c (v := 4) (pc' := 68) (by decide +kernel) ?_
      refine mw_al (by decide +kernel) h5 (fun v9 h6 => ?_); clear h5
      refine mw_if (ins := .ifCond .lt 13) (t := 82) (pc' := 72) (by decide +kernel) rfl rfl rfl h6 (fun p7 h7 => ?_) (fun p7 h7 => ?_) <;> clear h6
      · exact (vwX11_kinds_b82) h7
      · refine mw_rl (i := 3) (pc' := 73) (by decide +kernel) rfl ?_
        refine mw_c (v := 4) (pc' := 74) (by decide +kernel) ?_
        refine mw_al (by decide +kernel) h7 (fun v40 h8 => ?_); clear h7
        refine mw_if (ins := .ifCond .lt 7) (t := 82) (pc' := 78) (by decide +kernel) rfl rfl rfl h8 (fun p9 h9 => ?_) (fun p9 h9 => ?_) <;> clear h8
        · exact (vwX11_kinds_b82) h9
        · refine mw_c (v := 1) (pc' := 79) (by decide +kernel) ?_
          refine mw_go (t := 83) (by decide +kernel) ?_
          exact (vwX11_kinds_b83) h9
    · exact (vwX11_kinds_b63) h5
def wX11_kinds_b33 (K J : Nat → Nat) (fu : Nat) (F : VF) (sh : HS) (I : HI) (R : HR) (l0 : Nat) (l2 : Nat) (s0 : Option Nat) : Prop :=
  rcvB sh l0 9 = true ∧
  wX11_blocker K J fu sh I R l0 l2 (qwI fun v5 t5 i5 j5 =>
  if 0 ≤ v5 then
    ((wX11_kinds_b48 K J fu F) t5 i5 j5 l0 l2 s0 8)
  else
    ((wX11_kinds_b48 K J fu F) t5 i5 j5 l0 l2 s0 0))
theorem vwX11_kinds_b33 {l : Launch} {K J : Nat → Nat} {fu : Nat} {F : VF} {sh : HS} {I : HI} {R : HR} {l0 : Nat} {l2 : Nat} {s0 : Option Nat} {d1 d3 d4 d5 d6 d7 : Option Value} (h0 : wX11_kinds_b33 K J fu F sh I R l0 l2 s0) : MW l K J 123 33 [some (.ref l0), d1, some (.ref l2), d3, d4, d5, d6, d7] [va_rf s0] sh I R (0, 0) F := by
  unfold wX11_kinds_b33 at h0
  refine mw_stv (t := 1) (i := 3) (v := va_rf s0) (pc' := 34) (L' := [some (.ref l0), d1, some (.ref l2), some (va_rf s0), d4, d5, d6, d7]) (by decide +kernel) (isTy_rf _) rfl rfl ?_
  refine mw_rl (i := 0) (pc' := 35) (by decide +kernel) rfl ?_
  refine mw_rl (i := 2) (pc' := 36) (by decide +kernel) rfl ?_
  obtain ⟨q4, h1⟩ := h0
  refine mwx_I (q := 122) (na := 2) (ce := 0) (sl := 0) (X := 0) (Y := 0) (as := [.ref l2, .ref l0]) (by decide +kernel) ⟨Nat.le_refl _, Nat.le_refl _⟩ rfl rfl (by rw [show mL 122 = 8 from by decide +kernel]; rfl) rfl (fun _ => rv_of q4 (by decide +kernel)) (fun z => absurd z (by decide +kernel)) (vwX11_blocker h1) (fun v5 t5 i5 j5 h2 => ?_); clear h1
  refine mw_if (ins := .ifCond .ge 7) (t := 46) (pc' := 42) (by decide +kernel) rfl rfl rfl h2 (fun p3 h3 => ?_) (fun p3 h3 => ?_) <;> clear h2
  · refine mw_c (v := 8) (pc' := 48) (by decide +kernel) ?_
    exact (vwX11_kinds_b48) h3
  · refine mw_c (v := 0) (pc' := 43) (by decide +kernel) ?_
    refine mw_go (t := 48) (by decide +kernel) ?_
    exact (vwX11_kinds_b48) h3
def wX11_kinds (K J : Nat → Nat) (fu : Nat) (sh : HS) (I : HI) (R : HR) (l0 : Nat) (l1 : Int32) (F : VF) : Prop :=
  wB (oR sh R l0 9 3) fun v1 =>
  rcvB sh v1 10 = true ∧
  wJx4a65c_get_915e3 K J fu sh I R v1 l1 (qwR fun v3 t3 i3 j3 =>
  wB (oKt t3 v3 1) fun _ =>
  if l1 ≤ 0 then
    ((wX11_kinds_b33 K J fu F) t3 i3 j3 l0 v3 none)
  else
    (wB (oR t3 j3 l0 9 3) fun v41 =>
    rcvB t3 v41 10 = true ∧
    wJx4a65c_get_915e3 K J fu t3 i3 j3 v41 (l1 - 1) (qwR fun v43 t43 i43 j43 =>
    wB (oKt t43 v43 1) fun _ =>
    (wX11_kinds_b33 K J fu F) t43 i43 j43 l0 v3 (some v43))))
theorem vwX11_kinds {l : Launch} {K J : Nat → Nat} {fu : Nat} {sh : HS} {I : HI} {R : HR} {l0 : Nat} {l1 : Int32} {F : VF} (h0 : wX11_kinds K J fu sh I R l0 l1 F) : MW l K J 123 0 (ent (mL 123) [.ref l0, .int l1]) [] sh I R (0, 0) F := by
  unfold wX11_kinds at h0
  have ml : mL 123 = 8 := by decide +kernel
  rw [ml]
  show MW l K J 123 0 [some (.ref l0), some (.int l1), none, none, none, none, none, none] [] sh I R (0, 0) F
  refine mw_rl (i := 0) (pc' := 1) (by decide +kernel) rfl ?_
  refine mw_fR (ix := 10) (t := 9) (j := 3) (md := 0) (by decide +kernel) h0 (fun v1 h1 => ?_); clear h0
  refine mw_il (i := 1) (pc' := 5) (by decide +kernel) rfl ?_
  obtain ⟨q2, h2⟩ := h1
  refine mwx_R (q := 135) (na := 2) (ce := 0) (sl := 0) (X := 0) (Y := 0) (as := [.int l1, .ref v1]) (by decide +kernel) ⟨Nat.le_refl _, Nat.le_refl _⟩ rfl rfl (by rw [show mL 135 = 2 from by decide +kernel]; rfl) rfl (fun _ => rv_of q2 (by decide +kernel)) (fun z => absurd z (by decide +kernel)) (vwJx4a65c_get_915e3 h2) (fun v3 t3 i3 j3 h3 => ?_); clear h2
  refine mw_cst (ix := 20) (v := 1) (by decide +kernel) h3 (fun h4 => ?_); clear h3
  refine mw_rs (i := 2) (pc' := 12) (L' := [some (.ref l0), some (.int l1), some (.ref v3), none, none, none, none, none]) (by decide +kernel) rfl rfl ?_
  refine mw_il (i := 1) (pc' := 13) (by decide +kernel) rfl ?_
  refine mw_if (ins := .ifCond .le 19) (t := 32) (pc' := 16) (by decide +kernel) rfl rfl rfl h4 (fun p5 h5 => ?_) (fun p5 h5 => ?_) <;> clear h4
  · refine mw_null (by decide +kernel) ?_
    exact (vwX11_kinds_b33) h5
  · refine mw_rl (i := 0) (pc' := 17) (by decide +kernel) rfl ?_
    refine mw_fR (ix := 10) (t := 9) (j := 3) (md := 0) (by decide +kernel) h5 (fun v41 h6 => ?_); clear h5
    refine mw_il (i := 1) (pc' := 21) (by decide +kernel) rfl ?_
    refine mw_c (v := 1) (pc' := 22) (by decide +kernel) ?_
    refine mw_a (ins := .isub) (pc' := 23) (by decide +kernel) rfl ?_
    obtain ⟨q42, h7⟩ := h6
    refine mwx_R (q := 135) (na := 2) (ce := 0) (sl := 0) (X := 0) (Y := 0) (as := [.int (l1 - 1), .ref v41]) (by decide +kernel) ⟨Nat.le_refl _, Nat.le_refl _⟩ rfl rfl (by rw [show mL 135 = 2 from by decide +kernel]; rfl) rfl (fun _ => rv_of q42 (by decide +kernel)) (fun z => absurd z (by decide +kernel)) (vwJx4a65c_get_915e3 h7) (fun v43 t43 i43 j43 h8 => ?_); clear h7
    refine mw_cst (ix := 20) (v := 1) (by decide +kernel) h8 (fun h9 => ?_); clear h8
    refine mw_go (t := 33) (by decide +kernel) ?_
    exact (vwX11_kinds_b33) h9
