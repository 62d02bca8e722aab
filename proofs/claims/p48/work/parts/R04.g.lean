/- ('J0', 'isLatin1_aae02') -/
def wJ0_isLatin1_aae02_b18 (K J : Nat → Nat) (fu : Nat) (F : VF) (sh : HS) (I : HI) (R : HR) (s0 : Int32) : Prop :=
  (s0 = 0 ∨ s0 = 1) ∧ F (.inl (some (.int s0))) sh I R
theorem vwJ0_isLatin1_aae02_b18 {l : Launch} {K J : Nat → Nat} {fu : Nat} {F : VF} {sh : HS} {I : HI} {R : HR} {s0 : Int32} {d0 : Option Value} (h0 : wJ0_isLatin1_aae02_b18 K J fu F sh I R s0) : MW l K J 171 18 [d0] [.int s0] sh I R (0, 0) F := by
  unfold wJ0_isLatin1_aae02_b18 at h0
  exact mw_rz (X := 0) (Y := 0) (by decide +kernel) h0.1 ⟨Nat.le_refl _, Nat.le_refl _⟩ h0.2
def wJ0_isLatin1_aae02_b17 (K J : Nat → Nat) (fu : Nat) (F : VF) (sh : HS) (I : HI) (R : HR) : Prop :=
  (wJ0_isLatin1_aae02_b18 K J fu F) sh I R 0
theorem vwJ0_isLatin1_aae02_b17 {l : Launch} {K J : Nat → Nat} {fu : Nat} {F : VF} {sh : HS} {I : HI} {R : HR} {d0 : Option Value} (h0 : wJ0_isLatin1_aae02_b17 K J fu F sh I R) : MW l K J 171 17 [d0] [] sh I R (0, 0) F := by
  unfold wJ0_isLatin1_aae02_b17 at h0
  refine mw_c (v := 0) (pc' := 18) (by decide +kernel) ?_
  exact (vwJ0_isLatin1_aae02_b18) h0
def wJ0_isLatin1_aae02 (K J : Nat → Nat) (fu : Nat) (sh : HS) (I : HI) (R : HR) (l0 : Nat) (F : VF) : Prop :=
  if (1 : Int32) = 0 then
    ((wJ0_isLatin1_aae02_b17 K J fu F) sh I R)
  else
    (wB (oI2 sh I l0 14 1) fun v1 =>
    if v1 = 0 then
      ((wJ0_isLatin1_aae02_b18 K J fu F) sh I R 1)
    else
      ((wJ0_isLatin1_aae02_b17 K J fu F) sh I R))
theorem vwJ0_isLatin1_aae02 {l : Launch} {K J : Nat → Nat} {fu : Nat} {sh : HS} {I : HI} {R : HR} {l0 : Nat} {F : VF} (h0 : wJ0_isLatin1_aae02 K J fu sh I R l0 F) : MW l K J 171 0 (ent (mL 171) [.ref l0]) [] sh I R (0, 0) F := by
  unfold wJ0_isLatin1_aae02 at h0
  have ml : mL 171 = 1 := by decide +kernel
  rw [ml]
  show MW l K J 171 0 [some (.ref l0)] [] sh I R (0, 0) F
  refine mw_gs0 (pc' := 3) (by decide +kernel) ?_
  refine mw_if (ins := .ifCond .eq 14) (t := 17) (pc' := 6) (by decide +kernel) rfl rfl rfl h0 (fun p1 h1 => ?_) (fun p1 h1 => ?_) <;> clear h0
  · exact (vwJ0_isLatin1_aae02_b17) h1
  · refine mw_rl (i := 0) (pc' := 7) (by decide +kernel) rfl ?_
    refine mw_fI2 (ix := 15) (t := 14) (j := 1) (ty := 3) (by decide +kernel) (by decide) h1 (fun v1 h2 => ?_); clear h1
    refine mw_ifn (ins := .ifCond .ne 7) (t := 17) (pc' := 13) (by decide +kernel) rfl rfl rfl h2 (fun p3 h3 => ?_) (fun p3 h3 => ?_) <;> clear h2
    · exact (vwJ0_isLatin1_aae02_b17) h3
    · refine mw_c (v := 1) (pc' := 14) (by decide +kernel) ?_
      refine mw_go (t := 18) (by decide +kernel) ?_
      exact (vwJ0_isLatin1_aae02_b18) h3
/- ('J3', 'checkIndex_8e157') -/
def wJ3_checkIndex_8e157_b9 (K J : Nat → Nat) (fu : Nat) (F : VF) (sh : HS) (I : HI) (R : HR) (l0 : Int32) (l1 : Int32) (l2 : Option Nat) : Prop :=
  False
theorem vwJ3_checkIndex_8e157_b9 {l : Launch} {K J : Nat → Nat} {fu : Nat} {F : VF} {sh : HS} {I : HI} {R : HR} {l0 : Int32} {l1 : Int32} {l2 : Option Nat} (h0 : wJ3_checkIndex_8e157_b9 K J fu F sh I R l0 l1 l2) : MW l K J 194 9 [some (.int l0), some (.int l1), some (va_rf l2)] [] sh I R (0, 0) F := by
  unfold wJ3_checkIndex_8e157_b9 at h0
  refine mw_ldv (t := 1) (i := 2) (v := va_rf l2) (pc' := 10) (by decide +kernel) rfl (isTy_rf _) ?_
  refine mw_il (i := 0) (pc' := 11) (by decide +kernel) rfl ?_
  refine mw_il (i := 1) (pc' := 12) (by decide +kernel) rfl ?_
  exact h0.elim
def wJ3_checkIndex_8e157 (K J : Nat → Nat) (fu : Nat) (sh : HS) (I : HI) (R : HR) (l0 : Int32) (l1 : Int32) (l2 : Option Nat) (F : VF) : Prop :=
  if l0 < 0 then
    ((wJ3_checkIndex_8e157_b9 K J fu F) sh I R l0 l1 l2)
  else
    (if l0 < l1 then
      (F (.inl (some (.int l0))) sh I R)
    else
      ((wJ3_checkIndex_8e157_b9 K J fu F) sh I R l0 l1 l2))
theorem vwJ3_checkIndex_8e157 {l : Launch} {K J : Nat → Nat} {fu : Nat} {sh : HS} {I : HI} {R : HR} {l0 : Int32} {l1 : Int32} {l2 : Option Nat} {F : VF} (h0 : wJ3_checkIndex_8e157 K J fu sh I R l0 l1 l2 F) : MW l K J 194 0 (ent (mL 194) [.int l0, .int l1, va_rf l2]) [] sh I R (0, 0) F := by
  unfold wJ3_checkIndex_8e157 at h0
  have ml : mL 194 = 3 := by decide +kernel
  rw [ml]
  rw [show ent 3 [.int l0, .int l1, va_rf l2] = [some (.int l0), some (.int l1), some (va_rf l2)] from by cases l2 <;> rfl]
  show MW l K J 194 0 [some (.int l0), some (.int l1), some (va_rf l2)] [] sh I R (0, 0) F
  refine mw_il (i := 0) (pc' := 1) (by decide +kernel) rfl ?_
  refine mw_if (ins := .ifCond .lt 8) (t := 9) (pc' := 4) (by decide +kernel) rfl rfl rfl h0 (fun p1 h1 => ?_) (fun p1 h1 => ?_) <;> clear h0
  · exact (vwJ3_checkIndex_8e157_b9) h1
  · refine mw_il (i := 0) (pc' := 5) (by decide +kernel) rfl ?_
    refine mw_il (i := 1) (pc' := 6) (by decide +kernel) rfl ?_
    refine mw_if (ins := .if_icmp .lt 10) (t := 16) (pc' := 9) (by decide +kernel) rfl rfl rfl h1 (fun p2 h2 => ?_) (fun p2 h2 => ?_) <;> clear h1
    · refine mw_il (i := 0) (pc' := 17) (by decide +kernel) rfl ?_
      exact mw_ri (X := 0) (Y := 0) (by decide +kernel) ⟨Nat.le_refl _, Nat.le_refl _⟩ h2
    · exact (vwJ3_checkIndex_8e157_b9) h2
/- ('J0', 'checkIndex_df160') -/
def wJ0_checkIndex_df160 (K J : Nat → Nat) (fu : Nat) (sh : HS) (I : HI) (R : HR) (l0 : Int32) (l1 : Int32) (F : VF) : Prop :=
  ∀ v1 : Option Nat,
  wJ3_checkIndex_8e157 K J fu sh I R l0 l1 v1 (qwI fun v2 t2 i2 j2 =>
  F (.inl none) t2 i2 j2)
theorem vwJ0_checkIndex_df160 {l : Launch} {K J : Nat → Nat} {fu : Nat} {sh : HS} {I : HI} {R : HR} {l0 : Int32} {l1 : Int32} {F : VF} (h0 : wJ0_checkIndex_df160 K J fu sh I R l0 l1 F) : MW l K J 172 0 (ent (mL 172) [.int l0, .int l1]) [] sh I R (0, 0) F := by
  unfold wJ0_checkIndex_df160 at h0
  have ml : mL 172 = 2 := by decide +kernel
  rw [ml]
  show MW l K J 172 0 [some (.int l0), some (.int l1)] [] sh I R (0, 0) F
  refine mw_il (i := 0) (pc' := 1) (by decide +kernel) rfl ?_
  refine mw_il (i := 1) (pc' := 2) (by decide +kernel) rfl ?_
  refine mw_gsN (pc' := 5) (by decide +kernel) (fun v1 => ?_)
  have h1 := h0 v1; clear h0
  refine mwx_I (q := 194) (na := 3) (ce := 0) (sl := 0) (X := 0) (Y := 0) (as := [va_rf v1, .int l1, .int l0]) (by decide +kernel) ⟨Nat.le_refl _, Nat.le_refl _⟩ rfl rfl (by rw [show mL 194 = 3 from by decide +kernel]; first | rfl | (cases v1 <;> rfl)) (by first | rfl | (cases v1 <;> rfl)) (fun z => absurd z (by decide +kernel)) (fun z => absurd z (by decide +kernel)) (vwJ3_checkIndex_8e157 h1) (fun v2 t2 i2 j2 h2 => ?_); clear h1
  refine mw_pop (by decide +kernel) rfl ?_
  exact mw_rv (X := 0) (Y := 0) (by decide +kernel) ⟨Nat.le_refl _, Nat.le_refl _⟩ h2
/- ('J1', 'charAt_3b067') -/
def wJ1_charAt_3b067 (K J : Nat → Nat) (fu : Nat) (sh : HS) (I : HI) (R : HR) (l0 : Nat) (l1 : Int32) (F : VF) : Prop :=
  wB (oLn sh l0) fun v1 =>
  wJ0_checkIndex_df160 K J fu sh I R l1 v1 (qwV fun t2 i2 j2 =>
  wB (oBb t2 i2 l0 l1) fun v3 =>
  narrow .char (.int (iChr (v3 &&& 255))) = .int (iChr (v3 &&& 255)) ∧ F (.inl (some (.int (iChr (v3 &&& 255))))) t2 i2 j2)
theorem vwJ1_charAt_3b067 {l : Launch} {K J : Nat → Nat} {fu : Nat} {sh : HS} {I : HI} {R : HR} {l0 : Nat} {l1 : Int32} {F : VF} (h0 : wJ1_charAt_3b067 K J fu sh I R l0 l1 F) : MW l K J 190 0 (ent (mL 190) [.ref l0, .int l1]) [] sh I R (0, 0) F := by
  unfold wJ1_charAt_3b067 at h0
  have ml : mL 190 = 2 := by decide +kernel
  rw [ml]
  show MW l K J 190 0 [some (.ref l0), some (.int l1)] [] sh I R (0, 0) F
  refine mw_il (i := 1) (pc' := 1) (by decide +kernel) rfl ?_
  refine mw_rl (i := 0) (pc' := 2) (by decide +kernel) rfl ?_
  refine mw_ln (by decide +kernel) h0 (fun v1 h1 => ?_); clear h0
  refine mwx_V (q := 172) (na := 2) (ce := 0) (sl := 0) (X := 0) (Y := 0) (as := [.int v1, .int l1]) (by decide +kernel) ⟨Nat.le_refl _, Nat.le_refl _⟩ rfl rfl (by rw [show mL 172 = 2 from by decide +kernel]; rfl) rfl (fun z => absurd z (by decide +kernel)) (fun z => absurd z (by decide +kernel)) (vwJ0_checkIndex_df160 h1) (fun t2 i2 j2 h2 => ?_); clear h1
  refine mw_rl (i := 0) (pc' := 7) (by decide +kernel) rfl ?_
  refine mw_il (i := 1) (pc' := 8) (by decide +kernel) rfl ?_
  refine mw_bl (by decide +kernel) h2 (fun v3 h3 => ?_); clear h2
  refine mw_c (v := 255) (pc' := 12) (by decide +kernel) ?_
  refine mw_a (ins := .iand) (pc' := 13) (by decide +kernel) rfl ?_
  refine mw_a (ins := .i2c) (pc' := 14) (by decide +kernel) rfl ?_
  exact mw_rn (ty := .char) (X := 0) (Y := 0) (by decide +kernel) h3.1 ⟨Nat.le_refl _, Nat.le_refl _⟩ h3.2
/- ('J0', 'charAt_5068e') -/
def wJ0_charAt_5068e (K J : Nat → Nat) (fu : Nat) (sh : HS) (I : HI) (R : HR) (l0 : Nat) (l1 : Int32) (F : VF) : Prop :=
  rcvB sh l0 14 = true ∧
  wJ0_isLatin1_aae02 K J fu sh I R l0 (qwI fun v2 t2 i2 j2 =>
  if v2 = 0 then
    (wB (oR2 t2 j2 l0 14 0) fun v3 =>
    False)
  else
    (wB (oR2 t2 j2 l0 14 0) fun v4 =>
    wJ1_charAt_3b067 K J fu t2 i2 j2 v4 l1 (qwI fun v5 t5 i5 j5 =>
    narrow .char (.int v5) = .int v5 ∧ F (.inl (some (.int v5))) t5 i5 j5)))
theorem vwJ0_charAt_5068e {l : Launch} {K J : Nat → Nat} {fu : Nat} {sh : HS} {I : HI} {R : HR} {l0 : Nat} {l1 : Int32} {F : VF} (h0 : wJ0_charAt_5068e K J fu sh I R l0 l1 F) : MW l K J 164 0 (ent (mL 164) [.ref l0, .int l1]) [] sh I R (0, 0) F := by
  unfold wJ0_charAt_5068e at h0
  have ml : mL 164 = 2 := by decide +kernel
  rw [ml]
  show MW l K J 164 0 [some (.ref l0), some (.int l1)] [] sh I R (0, 0) F
  refine mw_rl (i := 0) (pc' := 1) (by decide +kernel) rfl ?_
  obtain ⟨q1, h1⟩ := h0
  refine mwx_I (q := 171) (na := 1) (ce := 0) (sl := 0) (X := 0) (Y := 0) (as := [.ref l0]) (by decide +kernel) ⟨Nat.le_refl _, Nat.le_refl _⟩ rfl rfl (by rw [show mL 171 = 1 from by decide +kernel]; rfl) rfl (fun _ => rv_of q1 (by decide +kernel)) (fun z => absurd z (by decide +kernel)) (vwJ0_isLatin1_aae02 h1) (fun v2 t2 i2 j2 h2 => ?_); clear h1
  refine mw_if (ins := .ifCond .eq 12) (t := 16) (pc' := 7) (by decide +kernel) rfl rfl rfl h2 (fun p3 h3 => ?_) (fun p3 h3 => ?_) <;> clear h2
  · refine mw_rl (i := 0) (pc' := 17) (by decide +kernel) rfl ?_
    refine mw_fR2 (ix := 9) (by decide +kernel) h3 (fun v3 h4 => ?_); clear h3
    refine mw_il (i := 1) (pc' := 21) (by decide +kernel) rfl ?_
    exact h4.elim
  · refine mw_rl (i := 0) (pc' := 8) (by decide +kernel) rfl ?_
    refine mw_fR2 (ix := 9) (by decide +kernel) h3 (fun v4 h4 => ?_); clear h3
    refine mw_il (i := 1) (pc' := 12) (by decide +kernel) rfl ?_
    refine mwx_I (q := 190) (na := 2) (ce := 0) (sl := 0) (X := 0) (Y := 0) (as := [.int l1, .ref v4]) (by decide +kernel) ⟨Nat.le_refl _, Nat.le_refl _⟩ rfl rfl (by rw [show mL 190 = 2 from by decide +kernel]; rfl) rfl (fun z => absurd z (by decide +kernel)) (fun z => absurd z (by decide +kernel)) (vwJ1_charAt_3b067 h4) (fun v5 t5 i5 j5 h5 => ?_); clear h4
    exact mw_rn (ty := .char) (X := 0) (Y := 0) (by decide +kernel) h5.1 ⟨Nat.le_refl _, Nat.le_refl _⟩ h5.2
/- ('L', 'feed') -/
def wL_feed_b62 (K J : Nat → Nat) (fu : Nat) (F : VF) (k17 : HS → HI → HR → Nat → Nat → Nat → Nat → Int32 → Nat → Int32 → Prop) (k70 : HS → HI → HR → Nat → Nat → Nat → Nat → Int32 → Nat → Prop) (sh : HS) (I : HI) (R : HR) (c1 : Nat) (c2 : Nat) (l0 : Nat) (l1 : Nat) (l2 : Int32) (l3 : Nat) (l4 : Int32) (s0 : Int32) (s1 : Int32) (s2 : Int32) (s3 : Nat) : Prop :=
  wB (oS sh I s3 s2 (s1 ||| s0)) fun v18 =>
  k17 sh v18 R c1 c2 l0 l1 l2 l3 (l4 + 1)
theorem vwL_feed_b62 {l : Launch} {K J : Nat → Nat} {fu : Nat} {F : VF} {k17 : HS → HI → HR → Nat → Nat → Nat → Nat → Int32 → Nat → Int32 → Prop} {k70 : HS → HI → HR → Nat → Nat → Nat → Nat → Int32 → Nat → Prop} (hk17 : ∀ {sh : HS} {I : HI} {R : HR} {c1 : Nat} {c2 : Nat} {l0 : Nat} {l1 : Nat} {l2 : Int32} {l3 : Nat} {l4 : Int32}, k17 sh I R c1 c2 l0 l1 l2 l3 l4 → MW l K J 178 17 [some (.ref l0), some (.ref l1), some (.int l2), some (.ref l3), some (.int l4)] [] sh I R (c1, c2) F) (hk70 : ∀ {sh : HS} {I : HI} {R : HR} {c1 : Nat} {c2 : Nat} {l0 : Nat} {l1 : Nat} {l2 : Int32} {l3 : Nat} {d4 : Option Value}, k70 sh I R c1 c2 l0 l1 l2 l3 → MW l K J 178 70 [some (.ref l0), some (.ref l1), some (.int l2), some (.ref l3), d4] [] sh I R (c1, c2) F) {sh : HS} {I : HI} {R : HR} {c1 : Nat} {c2 : Nat} {l0 : Nat} {l1 : Nat} {l2 : Int32} {l3 : Nat} {l4 : Int32} {s0 : Int32} {s1 : Int32} {s2 : Int32} {s3 : Nat} (h0 : wL_feed_b62 K J fu F k17 k70 sh I R c1 c2 l0 l1 l2 l3 l4 s0 s1 s2 s3) : MW l K J 178 62 [some (.ref l0), some (.ref l1), some (.int l2), some (.ref l3), some (.int l4)] [.int s0, .int s1, .int s2, .ref s3] sh I R (c1, c2) F := by
  unfold wL_feed_b62 at h0
  refine mw_a (ins := .ior) (pc' := 63) (by decide +kernel) rfl ?_
  refine mw_ast (by decide +kernel) h0 (fun v18 h1 => ?_); clear h0
  refine mw_inc (i := 4) (z := 1) (pc' := 67) (L' := [some (.ref l0), some (.ref l1), some (.int l2), some (.ref l3), some (.int (l4 + 1))]) (by decide +kernel) rfl rfl rfl ?_
  refine mw_go (t := 17) (by decide +kernel) ?_
  exact hk17 h1
def wL_feed_b17 (K J : Nat → Nat) (fu : Nat) (F : VF) (k17 : HS → HI → HR → Nat → Nat → Nat → Nat → Int32 → Nat → Int32 → Prop) (k70 : HS → HI → HR → Nat → Nat → Nat → Nat → Int32 → Nat → Prop) (sh : HS) (I : HI) (R : HR) (c1 : Nat) (c2 : Nat) (l0 : Nat) (l1 : Nat) (l2 : Int32) (l3 : Nat) (l4 : Int32) : Prop :=
  if (20 : Int32) ≤ l4 then
    (k70 sh I R c1 c2 l0 l1 l2 l3)
  else
    (wB (oD l4 4) fun v12 =>
    wB (oD l4 4) fun v13 =>
    wB (oA2 sh I l3 v13) fun v14 =>
    rcvB sh l1 14 = true ∧
    (c1 ≤ 200 ∧ c2 ≤ 1200) ∧
    wJ0_length_8abf5 K J fu sh I R l1 (qwI fun v17 t17 i17 j17 =>
    if v17 ≤ (l2 + l4) then
      ((wL_feed_b62 K J fu F k17 k70) t17 i17 j17 c1 c2 l0 l1 l2 l3 l4 32 (v14 <<< (8 &&& 31)) v12 l3)
    else
      (rcvB t17 l1 14 = true ∧
      (c1 ≤ 200 ∧ c2 ≤ 1200) ∧
      wJ0_charAt_5068e K J fu t17 i17 j17 l1 (l2 + l4) (qwI fun v21 t21 i21 j21 =>
      (wL_feed_b62 K J fu F k17 k70) t21 i21 j21 c1 c2 l0 l1 l2 l3 l4 v21 (v14 <<< (8 &&& 31)) v12 l3))))
theorem vwL_feed_b17 {l : Launch} {K J : Nat → Nat} {fu : Nat} {F : VF} {k17 : HS → HI → HR → Nat → Nat → Nat → Nat → Int32 → Nat → Int32 → Prop} {k70 : HS → HI → HR → Nat → Nat → Nat → Nat → Int32 → Nat → Prop} (hk17 : ∀ {sh : HS} {I : HI} {R : HR} {c1 : Nat} {c2 : Nat} {l0 : Nat} {l1 : Nat} {l2 : Int32} {l3 : Nat} {l4 : Int32}, k17 sh I R c1 c2 l0 l1 l2 l3 l4 → MW l K J 178 17 [some (.ref l0), some (.ref l1), some (.int l2), some (.ref l3), some (.int l4)] [] sh I R (c1, c2) F) (hk70 : ∀ {sh : HS} {I : HI} {R : HR} {c1 : Nat} {c2 : Nat} {l0 : Nat} {l1 : Nat} {l2 : Int32} {l3 : Nat} {d4 : Option Value}, k70 sh I R c1 c2 l0 l1 l2 l3 → MW l K J 178 70 [some (.ref l0), some (.ref l1), some (.int l2), some (.ref l3), d4] [] sh I R (c1, c2) F) {sh : HS} {I : HI} {R : HR} {c1 : Nat} {c2 : Nat} {l0 : Nat} {l1 : Nat} {l2 : Int32} {l3 : Nat} {l4 : Int32} (h0 : wL_feed_b17 K J fu F k17 k70 sh I R c1 c2 l0 l1 l2 l3 l4) : MW l K J 178 17 [some (.ref l0), some (.ref l1), some (.int l2), some (.ref l3), some (.int l4)] [] sh I R (c1, c2) F := by
  unfold wL_feed_b17 at h0
  refine mw_il (i := 4) (pc' := 19) (by decide +kernel) rfl ?_
  refine mw_c (v := 20) (pc' := 21) (by decide +kernel) ?_
  refine mw_if (ins := .if_icmp .ge 49) (t := 70) (pc' := 24) (by decide +kernel) rfl rfl rfl h0 (fun p1 h1 => ?_) (fun p1 h1 => ?_) <;> clear h0
  · exact hk70 h1
  · refine mw_rl (i := 3) (pc' := 25) (by decide +kernel) rfl ?_
    refine mw_il (i := 4) (pc' := 27) (by decide +kernel) rfl ?_
    refine mw_c (v := 4) (pc' := 28) (by decide +kernel) ?_
    refine mw_dv (by decide +kernel) h1 (fun v12 h2 => ?_); clear h1
    refine mw_rl (i := 3) (pc' := 30) (by decide +kernel) rfl ?_
    refine mw_il (i := 4) (pc' := 32) (by decide +kernel) rfl ?_
    refine mw_c (v := 4) (pc' := 33) (by decide +kernel) ?_
    refine mw_dv (by decide +kernel) h2 (fun v13 h3 => ?_); clear h2
    refine mw_al (by decide +kernel) h3 (fun v14 h4 => ?_); clear h3
    refine mw_c (v := 8) (pc' := 37) (by decide +kernel) ?_
    refine mw_a (ins := .ishl) (pc' := 38) (by decide +kernel) rfl ?_
    refine mw_il (i := 2) (pc' := 39) (by decide +kernel) rfl ?_
    refine mw_il (i := 4) (pc' := 41) (by decide +kernel) rfl ?_
    refine mw_a (ins := .iadd) (pc' := 42) (by decide +kernel) rfl ?_
    refine mw_rl (i := 1) (pc' := 43) (by decide +kernel) rfl ?_
    obtain ⟨q15, h5⟩ := h4
    obtain ⟨r16, h6⟩ := h5
    refine mwx_I (q := 163) (na := 1) (ce := 0) (sl := 0) (X := 200) (Y := 1200) (as := [.ref l1]) (by decide +kernel) r16 rfl rfl (by rw [show mL 163 = 1 from by decide +kernel]; rfl) rfl (fun _ => rv_of q15 (by decide +kernel)) (fun z => absurd z (by decide +kernel)) (vwJ0_length_8abf5 h6) (fun v17 t17 i17 j17 h7 => ?_); clear h6
    refine mw_if (ins := .if_icmp .ge 14) (t := 60) (pc' := 49) (by decide +kernel) rfl rfl rfl h7 (fun p8 h8 => ?_) (fun p8 h8 => ?_) <;> clear h7
    · refine mw_c (v := 32) (pc' := 62) (by decide +kernel) ?_
      exact (vwL_feed_b62 hk17 hk70) h8
    · refine mw_rl (i := 1) (pc' := 50) (by decide +kernel) rfl ?_
      refine mw_il (i := 2) (pc' := 51) (by decide +kernel) rfl ?_
      refine mw_il (i := 4) (pc' := 53) (by decide +kernel) rfl ?_
      refine mw_a (ins := .iadd) (pc' := 54) (by decide +kernel) rfl ?_
      obtain ⟨q19, h9⟩ := h8
      obtain ⟨r20, h10⟩ := h9
      refine mwx_I (q := 164) (na := 2) (ce := 0) (sl := 0) (X := 200) (Y := 1200) (as := [.int (l2 + l4), .ref l1]) (by decide +kernel) r20 rfl rfl (by rw [show mL 164 = 2 from by decide +kernel]; rfl) rfl (fun _ => rv_of q19 (by decide +kernel)) (fun z => absurd z (by decide +kernel)) (vwJ0_charAt_5068e h10) (fun v21 t21 i21 j21 h11 => ?_); clear h10
      refine mw_go (t := 62) (by decide +kernel) ?_
      exact (vwL_feed_b62 hk17 hk70) h11
def wL_feed_l17 (K J : Nat → Nat) (fu : Nat) (F : VF) (k70 : HS → HI → HR → Nat → Nat → Nat → Nat → Int32 → Nat → Prop) : Nat → HS → HI → HR → Nat → Nat → Nat → Nat → Int32 → Nat → Int32 → Prop
  | 0 => fun _ _ _ _ _ _ _ _ _ _ => False
  | n + 1 => wL_feed_b17 K J fu F (wL_feed_l17 K J fu F k70 n) k70
theorem vwL_feed_l17 {l : Launch} {K J : Nat → Nat} {fu : Nat} {F : VF} {k70 : HS → HI → HR → Nat → Nat → Nat → Nat → Int32 → Nat → Prop} (hk70 : ∀ {sh : HS} {I : HI} {R : HR} {c1 : Nat} {c2 : Nat} {l0 : Nat} {l1 : Nat} {l2 : Int32} {l3 : Nat} {d4 : Option Value}, k70 sh I R c1 c2 l0 l1 l2 l3 → MW l K J 178 70 [some (.ref l0), some (.ref l1), some (.int l2), some (.ref l3), d4] [] sh I R (c1, c2) F) : ∀ (n : Nat) {sh : HS} {I : HI} {R : HR} {c1 : Nat} {c2 : Nat} {l0 : Nat} {l1 : Nat} {l2 : Int32} {l3 : Nat} {l4 : Int32} (_ : wL_feed_l17 K J fu F k70 n sh I R c1 c2 l0 l1 l2 l3 l4), MW l K J 178 17 [some (.ref l0), some (.ref l1), some (.int l2), some (.ref l3), some (.int l4)] [] sh I R (c1, c2) F := by
  intro n
  induction n with
  | zero => exact fun h0 => h0.elim
  | succ n ih => exact fun h0 => vwL_feed_b17 ih hk70 h0
def wL_feed_b70 (K J : Nat → Nat) (fu : Nat) (F : VF) (k2 : HS → HI → HR → Nat → Nat → Nat → Nat → Int32 → Prop) (sh : HS) (I : HI) (R : HR) (c1 : Nat) (c2 : Nat) (l0 : Nat) (l1 : Nat) (l2 : Int32) (l3 : Nat) : Prop :=
  wB (oA2 sh I l3 0) fun v22 =>
  wB (oA2 sh I l3 1) fun v23 =>
  wB (oA2 sh I l3 2) fun v24 =>
  wB (oA2 sh I l3 3) fun v25 =>
  wB (oA2 sh I l3 4) fun v26 =>
  (c1 + 1 ≤ 200 ∧ c2 + 6 ≤ 1200) ∧
  wB (fX10_append fu sh I R l0 v22 v23 v24 v25 v26) fun r28 => wS r28.1 fun v28 =>
  k2 sh r28.2 R (c1 + 1) (c2 + 6) l0 l1 (l2 + 20)
theorem vwL_feed_b70 {l : Launch} {K J : Nat → Nat} {fu : Nat} {F : VF} {k2 : HS → HI → HR → Nat → Nat → Nat → Nat → Int32 → Prop} (hk2 : ∀ {sh : HS} {I : HI} {R : HR} {c1 : Nat} {c2 : Nat} {l0 : Nat} {l1 : Nat} {l2 : Int32} {d3 d4 : Option Value}, k2 sh I R c1 c2 l0 l1 l2 → MW l K J 178 2 [some (.ref l0), some (.ref l1), some (.int l2), d3, d4] [] sh I R (c1, c2) F) {sh : HS} {I : HI} {R : HR} {c1 : Nat} {c2 : Nat} {l0 : Nat} {l1 : Nat} {l2 : Int32} {l3 : Nat} {d4 : Option Value} (h0 : wL_feed_b70 K J fu F k2 sh I R c1 c2 l0 l1 l2 l3) : MW l K J 178 70 [some (.ref l0), some (.ref l1), some (.int l2), some (.ref l3), d4] [] sh I R (c1, c2) F := by
  unfold wL_feed_b70 at h0
  refine mw_rl (i := 0) (pc' := 71) (by decide +kernel) rfl ?_
  refine mw_rl (i := 3) (pc' := 72) (by decide +kernel) rfl ?_
  refine mw_c (v := 0) (pc' := 73) (by decide +kernel) ?_
  refine mw_al (by decide +kernel) h0 (fun v22 h1 => ?_); clear h0
  refine mw_rl (i := 3) (pc' := 75) (by decide +kernel) rfl ?_
  refine mw_c (v := 1) (pc' := 76) (by decide +kernel) ?_
  refine mw_al (by decide +kernel) h1 (fun v23 h2 => ?_); clear h1
  refine mw_rl (i := 3) (pc' := 78) (by decide +kernel) rfl ?_
  refine mw_c (v := 2) (pc' := 79) (by decide +kernel) ?_
  refine mw_al (by decide +kernel) h2 (fun v24 h3 => ?_); clear h2
  refine mw_rl (i := 3) (pc' := 81) (by decide +kernel) rfl ?_
  refine mw_c (v := 3) (pc' := 82) (by decide +kernel) ?_
  refine mw_al (by decide +kernel) h3 (fun v25 h4 => ?_); clear h3
  refine mw_rl (i := 3) (pc' := 84) (by decide +kernel) rfl ?_
  refine mw_c (v := 4) (pc' := 85) (by decide +kernel) ?_
  refine mw_al (by decide +kernel) h4 (fun v26 h5 => ?_); clear h4
  obtain ⟨r27, h6⟩ := h5
  refine hX10_append (X := 200) (Y := 1200) (by decide +kernel) r27 rfl h6 (fun v28 r28 h7 => ?_); clear h6
  refine mw_is (i := 4) (pc' := 91) (L' := [some (.ref l0), some (.ref l1), some (.int l2), some (.ref l3), some (.int v28)]) (by decide +kernel) rfl rfl ?_
  refine mw_inc (i := 2) (z := 20) (pc' := 94) (L' := [some (.ref l0), some (.ref l1), some (.int (l2 + 20)), some (.ref l3), some (.int v28)]) (by decide +kernel) rfl rfl rfl ?_
  refine mw_go (t := 2) (by decide +kernel) ?_
  exact hk2 h7
def wL_feed_b2 (K J : Nat → Nat) (fu : Nat) (F : VF) (k2 : HS → HI → HR → Nat → Nat → Nat → Nat → Int32 → Prop) (sh : HS) (I : HI) (R : HR) (c1 : Nat) (c2 : Nat) (l0 : Nat) (l1 : Nat) (l2 : Int32) : Prop :=
  rcvB sh l1 14 = true ∧
  (c1 ≤ 200 ∧ c2 ≤ 1200) ∧
  wJ0_length_8abf5 K J fu sh I R l1 (qwI fun v3 t3 i3 j3 =>
  if v3 ≤ l2 then
    (rcvB t3 l1 14 = true ∧
    (c1 ≤ 200 ∧ c2 ≤ 1200) ∧
    wJ0_length_8abf5 K J fu t3 i3 j3 l1 (qwI fun v6 t6 i6 j6 =>
    (c1 + 1 ≤ 200 ∧ c2 + 6 ≤ 1200) ∧
    wB (fX10_truncate fu t6 i6 j6 l0 v6) fun r8 => wS r8.1 fun v8 =>
    ((c1 + 1) ≤ 200 ∧ (c2 + 6) ≤ 1200) ∧
    F (.inl none) t6 r8.2 j6))
  else
    ((¬ (5 : Int32) < 0 ∧ (5 : Int32).toNatClampNeg < 100000) ∧
    (c1 + 1 ≤ 200 ∧ c2 + (5 : Int32).toNatClampNeg ≤ 1200) ∧
    wNewI t3 i3 20 (5 : Int32).toNatClampNeg fun a10 t10 i10 =>
    (wL_feed_l17 K J fu F (wL_feed_b70 K J fu F k2) fu) t10 i10 j3 (c1 + 1) (c2 + (5 : Int32).toNatClampNeg) l0 l1 l2 a10 0))
theorem vwL_feed_b2 {l : Launch} {K J : Nat → Nat} {fu : Nat} {F : VF} {k2 : HS → HI → HR → Nat → Nat → Nat → Nat → Int32 → Prop} (hk2 : ∀ {sh : HS} {I : HI} {R : HR} {c1 : Nat} {c2 : Nat} {l0 : Nat} {l1 : Nat} {l2 : Int32} {d3 d4 : Option Value}, k2 sh I R c1 c2 l0 l1 l2 → MW l K J 178 2 [some (.ref l0), some (.ref l1), some (.int l2), d3, d4] [] sh I R (c1, c2) F) {sh : HS} {I : HI} {R : HR} {c1 : Nat} {c2 : Nat} {l0 : Nat} {l1 : Nat} {l2 : Int32} {d3 d4 : Option Value} (h0 : wL_feed_b2 K J fu F k2 sh I R c1 c2 l0 l1 l2) : MW l K J 178 2 [some (.ref l0), some (.ref l1), some (.int l2), d3, d4] [] sh I R (c1, c2) F := by
  unfold wL_feed_b2 at h0
  refine mw_il (i := 2) (pc' := 3) (by decide +kernel) rfl ?_
  refine mw_rl (i := 1) (pc' := 4) (by decide +kernel) rfl ?_
  obtain ⟨q1, h1⟩ := h0
  obtain ⟨r2, h2⟩ := h1
  refine mwx_I (q := 163) (na := 1) (ce := 0) (sl := 0) (X := 200) (Y := 1200) (as := [.ref l1]) (by decide +kernel) r2 rfl rfl (by rw [show mL 163 = 1 from by decide +kernel]; rfl) rfl (fun _ => rv_of q1 (by decide +kernel)) (fun z => absurd z (by decide +kernel)) (vwJ0_length_8abf5 h2) (fun v3 t3 i3 j3 h3 => ?_); clear h2
  refine mw_if (ins := .if_icmp .ge 90) (t := 97) (pc' := 10) (by decide +kernel) rfl rfl rfl h3 (fun p4 h4 => ?_) (fun p4 h4 => ?_) <;> clear h3
  · refine mw_rl (i := 0) (pc' := 98) (by decide +kernel) rfl ?_
    refine mw_rl (i := 1) (pc' := 99) (by decide +kernel) rfl ?_
    obtain ⟨q4, h5⟩ := h4
    obtain ⟨r5, h6⟩ := h5
    refine mwx_I (q := 163) (na := 1) (ce := 0) (sl := 0) (X := 200) (Y := 1200) (as := [.ref l1]) (by decide +kernel) r5 rfl rfl (by rw [show mL 163 = 1 from by decide +kernel]; rfl) rfl (fun _ => rv_of q4 (by decide +kernel)) (fun z => absurd z (by decide +kernel)) (vwJ0_length_8abf5 h6) (fun v6 t6 i6 j6 h7 => ?_); clear h6
    obtain ⟨r7, h8⟩ := h7
    refine hX10_truncate (X := 200) (Y := 1200) (by decide +kernel) r7 rfl h8 (fun v8 r8 h9 => ?_); clear h8
    refine mw_is (i := 2) (pc' := 106) (L' := [some (.ref l0), some (.ref l1), some (.int v8), d3, d4]) (by decide +kernel) rfl rfl ?_
    obtain ⟨r9, h10⟩ := h9
    exact mw_rv (X := 200) (Y := 1200) (by decide +kernel) r9 h10
  · refine mw_c (v := 5) (pc' := 11) (by decide +kernel) ?_
    obtain ⟨q10, h5⟩ := h4
    obtain ⟨r11, h6⟩ := h5
    refine mw_nwi (X := 200) (Y := 1200) (by decide +kernel) q10 r11 h6 (fun a10 t10 i10 h7 => ?_); clear h6
    refine mw_rs (i := 3) (pc' := 14) (L' := [some (.ref l0), some (.ref l1), some (.int l2), some (.ref a10), d4]) (by decide +kernel) rfl rfl ?_
    refine mw_c (v := 0) (pc' := 15) (by decide +kernel) ?_
    refine mw_is (i := 4) (pc' := 17) (L' := [some (.ref l0), some (.ref l1), some (.int l2), some (.ref a10), some (.int 0)]) (by decide +kernel) rfl rfl ?_
    exact (vwL_feed_l17 (vwL_feed_b70 hk2) fu) h7
def wL_feed_l2 (K J : Nat → Nat) (fu : Nat) (F : VF) : Nat → HS → HI → HR → Nat → Nat → Nat → Nat → Int32 → Prop
  | 0 => fun _ _ _ _ _ _ _ _ => False
  | n + 1 => wL_feed_b2 K J fu F (wL_feed_l2 K J fu F n)
theorem vwL_feed_l2 {l : Launch} {K J : Nat → Nat} {fu : Nat} {F : VF} : ∀ (n : Nat) {sh : HS} {I : HI} {R : HR} {c1 : Nat} {c2 : Nat} {l0 : Nat} {l1 : Nat} {l2 : Int32} {d3 d4 : Option Value} (_ : wL_feed_l2 K J fu F n sh I R c1 c2 l0 l1 l2), MW l K J 178 2 [some (.ref l0), some (.ref l1), some (.int l2), d3, d4] [] sh I R (c1, c2) F := by
  intro n
  induction n with
  | zero => exact fun h0 => h0.elim
  | succ n ih => exact fun h0 => vwL_feed_b2 ih h0
def wL_feed (K J : Nat → Nat) (fu : Nat) (sh : HS) (I : HI) (R : HR) (l0 : Nat) (l1 : Nat) (F : VF) : Prop :=
  (wL_feed_l2 K J fu F fu) sh I R 0 0 l0 l1 0
theorem vwL_feed {l : Launch} {K J : Nat → Nat} {fu : Nat} {sh : HS} {I : HI} {R : HR} {l0 : Nat} {l1 : Nat} {F : VF} (h0 : wL_feed K J fu sh I R l0 l1 F) : MW l K J 178 0 (ent (mL 178) [.ref l0, .ref l1]) [] sh I R (0, 0) F := by
  unfold wL_feed at h0
  have ml : mL 178 = 5 := by decide +kernel
  rw [ml]
  show MW l K J 178 0 [some (.ref l0), some (.ref l1), none, none, none] [] sh I R (0, 0) F
  refine mw_c (v := 0) (pc' := 1) (by decide +kernel) ?_
  refine mw_is (i := 2) (pc' := 2) (L' := [some (.ref l0), some (.ref l1), some (.int 0), none, none]) (by decide +kernel) rfl rfl ?_
  exact (vwL_feed_l2 fu) h0
/- ('Jx4a65c', 'size_8abf5') -/
def wJx4a65c_size_8abf5 (K J : Nat → Nat) (fu : Nat) (sh : HS) (I : HI) (R : HR) (l0 : Nat) (F : VF) : Prop :=
  wB (oI sh I l0 10 2) fun v1 =>
  F (.inl (some (.int v1))) sh I R
theorem vwJx4a65c_size_8abf5 {l : Launch} {K J : Nat → Nat} {fu : Nat} {sh : HS} {I : HI} {R : HR} {l0 : Nat} {F : VF} (h0 : wJx4a65c_size_8abf5 K J fu sh I R l0 F) : MW l K J 133 0 (ent (mL 133) [.ref l0]) [] sh I R (0, 0) F := by
  unfold wJx4a65c_size_8abf5 at h0
  have ml : mL 133 = 1 := by decide +kernel
  rw [ml]
  show MW l K J 133 0 [some (.ref l0)] [] sh I R (0, 0) F
  refine mw_rl (i := 0) (pc' := 1) (by decide +kernel) rfl ?_
  refine mw_fI (ix := 48) (t := 10) (j := 2) (ty := 0) (md := 0) (by decide +kernel) (by decide) h0 (fun v1 h1 => ?_); clear h0
  exact mw_ri (X := 0) (Y := 0) (by decide +kernel) ⟨Nat.le_refl _, Nat.le_refl _⟩ h1
/- ('J3', 'checkFromToIndex_8c36e') -/
def wJ3_checkFromToIndex_8c36e_b14 (K J : Nat → Nat) (fu : Nat) (F : VF) (sh : HS) (I : HI) (R : HR) (l0 : Int32) (l1 : Int32) (l2 : Int32) (l3 : Option Nat) : Prop :=
  False
theorem vwJ3_checkFromToIndex_8c36e_b14 {l : Launch} {K J : Nat → Nat} {fu : Nat} {F : VF} {sh : HS} {I : HI} {R : HR} {l0 : Int32} {l1 : Int32} {l2 : Int32} {l3 : Option Nat} (h0 : wJ3_checkFromToIndex_8c36e_b14 K J fu F sh I R l0 l1 l2 l3) : MW l K J 195 14 [some (.int l0), some (.int l1), some (.int l2), some (va_rf l3)] [] sh I R (0, 0) F := by
  unfold wJ3_checkFromToIndex_8c36e_b14 at h0
  refine mw_ldv (t := 1) (i := 3) (v := va_rf l3) (pc' := 15) (by decide +kernel) rfl (isTy_rf _) ?_
  refine mw_il (i := 0) (pc' := 16) (by decide +kernel) rfl ?_
  refine mw_il (i := 1) (pc' := 17) (by decide +kernel) rfl ?_
  refine mw_il (i := 2) (pc' := 18) (by decide +kernel) rfl ?_
  exact h0.elim
def wJ3_checkFromToIndex_8c36e (K J : Nat → Nat) (fu : Nat) (sh : HS) (I : HI) (R : HR) (l0 : Int32) (l1 : Int32) (l2 : Int32) (l3 : Option Nat) (F : VF) : Prop :=
  if l0 < 0 then
    ((wJ3_checkFromToIndex_8c36e_b14 K J fu F) sh I R l0 l1 l2 l3)
  else
    (if l1 < l0 then
      ((wJ3_checkFromToIndex_8c36e_b14 K J fu F) sh I R l0 l1 l2 l3)
    else
      (if l1 ≤ l2 then
        (F (.inl (some (.int l0))) sh I R)
      else
        ((wJ3_checkFromToIndex_8c36e_b14 K J fu F) sh I R l0 l1 l2 l3)))
theorem vwJ3_checkFromToIndex_8c36e {l : Launch} {K J : Nat → Nat} {fu : Nat} {sh : HS} {I : HI} {R : HR} {l0 : Int32} {l1 : Int32} {l2 : Int32} {l3 : Option Nat} {F : VF} (h0 : wJ3_checkFromToIndex_8c36e K J fu sh I R l0 l1 l2 l3 F) : MW l K J 195 0 (ent (mL 195) [.int l0, .int l1, .int l2, va_rf l3]) [] sh I R (0, 0) F := by
  unfold wJ3_checkFromToIndex_8c36e at h0
  have ml : mL 195 = 4 := by decide +kernel
  rw [ml]
  rw [show ent 4 [.int l0, .int l1, .int l2, va_rf l3] = [some (.int l0), some (.int l1), some (.int l2), some (va_rf l3)] from by cases l3 <;> rfl]
  show MW l K J 195 0 [some (.int l0), some (.int l1), some (.int l2), some (va_rf l3)] [] sh I R (0, 0) F
  refine mw_il (i := 0) (pc' := 1) (by decide +kernel) rfl ?_
  refine mw_if (ins := .ifCond .lt 13) (t := 14) (pc' := 4) (by decide +kernel) rfl rfl rfl h0 (fun p1 h1 => ?_) (fun p1 h1 => ?_) <;> clear h0
  · exact (vwJ3_checkFromToIndex_8c36e_b14) h1
  · refine mw_il (i := 0) (pc' := 5) (by decide +kernel) rfl ?_
    refine mw_il (i := 1) (pc' := 6) (by decide +kernel) rfl ?_
    refine mw_if (ins := .if_icmp .gt 8) (t := 14) (pc' := 9) (by decide +kernel) rfl rfl rfl h1 (fun p2 h2 => ?_) (fun p2 h2 => ?_) <;> clear h1
    · exact (vwJ3_checkFromToIndex_8c36e_b14) h2
    · refine mw_il (i := 1) (pc' := 10) (by decide +kernel) rfl ?_
      refine mw_il (i := 2) (pc' := 11) (by decide +kernel) rfl ?_
      refine mw_if (ins := .if_icmp .le 11) (t := 22) (pc' := 14) (by decide +kernel) rfl rfl rfl h2 (fun p3 h3 => ?_) (fun p3 h3 => ?_) <;> clear h2
      · refine mw_il (i := 0) (pc' := 23) (by decide +kernel) rfl ?_
        exact mw_ri (X := 0) (Y := 0) (by decide +kernel) ⟨Nat.le_refl _, Nat.le_refl _⟩ h3
      · exact (vwJ3_checkFromToIndex_8c36e_b14) h3
/- ('J0', 'checkBoundsBeginEnd_23922') -/
def wJ0_checkBoundsBeginEnd_23922 (K J : Nat → Nat) (fu : Nat) (sh : HS) (I : HI) (R : HR) (l0 : Int32) (l1 : Int32) (l2 : Int32) (F : VF) : Prop :=
  ∀ v1 : Option Nat,
  wJ3_checkFromToIndex_8c36e K J fu sh I R l0 l1 l2 v1 (qwI fun v2 t2 i2 j2 =>
  F (.inl none) t2 i2 j2)
theorem vwJ0_checkBoundsBeginEnd_23922 {l : Launch} {K J : Nat → Nat} {fu : Nat} {sh : HS} {I : HI} {R : HR} {l0 : Int32} {l1 : Int32} {l2 : Int32} {F : VF} (h0 : wJ0_checkBoundsBeginEnd_23922 K J fu sh I R l0 l1 l2 F) : MW l K J 173 0 (ent (mL 173) [.int l0, .int l1, .int l2]) [] sh I R (0, 0) F := by
  unfold wJ0_checkBoundsBeginEnd_23922 at h0
  have ml : mL 173 = 3 := by decide +kernel
  rw [ml]
  show MW l K J 173 0 [some (.int l0), some (.int l1), some (.int l2)] [] sh I R (0, 0) F
  refine mw_il (i := 0) (pc' := 1) (by decide +kernel) rfl ?_
  refine mw_il (i := 1) (pc' := 2) (by decide +kernel) rfl ?_
  refine mw_il (i := 2) (pc' := 3) (by decide +kernel) rfl ?_
  refine mw_gsN (pc' := 6) (by decide +kernel) (fun v1 => ?_)
  have h1 := h0 v1; clear h0
  refine mwx_I (q := 195) (na := 4) (ce := 0) (sl := 0) (X := 0) (Y := 0) (as := [va_rf v1, .int l2, .int l1, .int l0]) (by decide +kernel) ⟨Nat.le_refl _, Nat.le_refl _⟩ rfl rfl (by rw [show mL 195 = 4 from by decide +kernel]; first | rfl | (cases v1 <;> rfl)) (by first | rfl | (cases v1 <;> rfl)) (fun z => absurd z (by decide +kernel)) (fun z => absurd z (by decide +kernel)) (vwJ3_checkFromToIndex_8c36e h1) (fun v2 t2 i2 j2 h2 => ?_); clear h1
  refine mw_pop (by decide +kernel) rfl ?_
  exact mw_rv (X := 0) (Y := 0) (by decide +kernel) ⟨Nat.le_refl _, Nat.le_refl _⟩ h2
/- ('J0', 'init_031fb') -/
def wJ0_init_031fb (K J : Nat → Nat) (fu : Nat) (sh : HS) (I : HI) (R : HR) (l0 : Nat) (l1 : Nat) (l2 : Int32) (F : VF) : Prop :=
  (0 ≤ 0 ∧ 0 ≤ 0) ∧
  wB (oQ sh R l0 14 0 l1) fun v2 =>
  wB (oPB sh I l0 14 1 l2) fun v3 =>
  (0 ≤ 0 ∧ 0 ≤ 0) ∧
  F (.inl none) sh v3 v2
theorem vwJ0_init_031fb {l : Launch} {K J : Nat → Nat} {fu : Nat} {sh : HS} {I : HI} {R : HR} {l0 : Nat} {l1 : Nat} {l2 : Int32} {F : VF} (h0 : wJ0_init_031fb K J fu sh I R l0 l1 l2 F) : MW l K J 169 0 (ent (mL 169) [.ref l0, .ref l1, .int l2]) [] sh I R (0, 0) F := by
  unfold wJ0_init_031fb at h0
  have ml : mL 169 = 3 := by decide +kernel
  rw [ml]
  show MW l K J 169 0 [some (.ref l0), some (.ref l1), some (.int l2)] [] sh I R (0, 0) F
  refine mw_rl (i := 0) (pc' := 1) (by decide +kernel) rfl ?_
  obtain ⟨r1, h1⟩ := h0
  refine mw_oin (ix := 1) (X := 0) (Y := 0) (by decide +kernel) rfl r1 ?_
  refine mw_rl (i := 0) (pc' := 5) (by decide +kernel) rfl ?_
  refine mw_rl (i := 1) (pc' := 6) (by decide +kernel) rfl ?_
  refine mw_pR (ix := 9) (t := 14) (j := 0) (md := 0) (by decide +kernel) h1 (fun v2 h2 => ?_); clear h1
  refine mw_rl (i := 0) (pc' := 10) (by decide +kernel) rfl ?_
  refine mw_il (i := 2) (pc' := 11) (by decide +kernel) rfl ?_
  refine mw_pB (ix := 15) (t := 14) (j := 1) (md := 0) (by decide +kernel) h2 (fun v3 h3 => ?_); clear h2
  obtain ⟨r4, h4⟩ := h3
  exact mw_rv (X := 0) (Y := 0) (by decide +kernel) r4 h4
/- ('J1', 'newString_b4f7a') -/
def wJ1_newString_b4f7a (K J : Nat → Nat) (fu : Nat) (sh : HS) (I : HI) (R : HR) (l0 : Nat) (l1 : Int32) (l2 : Int32) (F : VF) : Prop :=
  if l2 = 0 then
    ((0 ≤ 2 ∧ 0 ≤ 1304) ∧
    F (.inl (some (.ref (K 0)))) sh I R)
  else
    ((0 + 1 ≤ 2 ∧ 0 + 4 ≤ 1304) ∧
    wNew sh I R 14 4 fun a2 t2 i2 j2 =>
    ((0 + 1) + 1 ≤ 2 ∧ (0 + 4) + 1300 ≤ 1304) ∧
    wJ7_copyOfRange_39247 K J fu t2 i2 j2 l0 l1 (l1 + l2) (qwR fun v4 t4 i4 j4 =>
    (((0 + 1) + 1) + 0 ≤ 2 ∧ ((0 + 4) + 1300) + 0 ≤ 1304) ∧
    wJ0_init_031fb K J fu t4 i4 j4 a2 v4 0 (qwV fun t6 i6 j6 =>
    ((((0 + 1) + 1) + 0) ≤ 2 ∧ (((0 + 4) + 1300) + 0) ≤ 1304) ∧
    F (.inl (some (.ref a2))) t6 i6 j6)))
theorem vwJ1_newString_b4f7a {l : Launch} {K J : Nat → Nat} {fu : Nat} {sh : HS} {I : HI} {R : HR} {l0 : Nat} {l1 : Int32} {l2 : Int32} {F : VF} (h0 : wJ1_newString_b4f7a K J fu sh I R l0 l1 l2 F) : MW l K J 192 0 (ent (mL 192) [.ref l0, .int l1, .int l2]) [] sh I R (0, 0) F := by
  unfold wJ1_newString_b4f7a at h0
  have ml : mL 192 = 3 := by decide +kernel
  rw [ml]
  show MW l K J 192 0 [some (.ref l0), some (.int l1), some (.int l2)] [] sh I R (0, 0) F
  refine mw_il (i := 2) (pc' := 1) (by decide +kernel) rfl ?_
  refine mw_ifn (ins := .ifCond .ne 6) (t := 7) (pc' := 4) (by decide +kernel) rfl rfl rfl h0 (fun p1 h1 => ?_) (fun p1 h1 => ?_) <;> clear h0
  · obtain ⟨r1, h2⟩ := h1
    refine mw_new (ix := 1) (t := 14) (N := 4) (X := 2) (Y := 1304) (by decide +kernel) r1 h2 (fun a2 t2 i2 j2 h3 => ?_); clear h2
    refine mw_a (ins := .dup) (pc' := 11) (by decide +kernel) rfl ?_
    refine mw_rl (i := 0) (pc' := 12) (by decide +kernel) rfl ?_
    refine mw_il (i := 1) (pc' := 13) (by decide +kernel) rfl ?_
    refine mw_il (i := 1) (pc' := 14) (by decide +kernel) rfl ?_
    refine mw_il (i := 2) (pc' := 15) (by decide +kernel) rfl ?_
    refine mw_a (ins := .iadd) (pc' := 16) (by decide +kernel) rfl ?_
    obtain ⟨r3, h4⟩ := h3
    refine mwx_R (q := 212) (na := 3) (ce := 1) (sl := 1300) (X := 2) (Y := 1304) (as := [.int (l1 + l2), .int l1, .ref l0]) (by decide +kernel) r3 rfl rfl (by rw [show mL 212 = 3 from by decide +kernel]; rfl) rfl (fun z => absurd z (by decide +kernel)) (fun z => absurd z (by decide +kernel)) (vwJ7_copyOfRange_39247 h4) (fun v4 t4 i4 j4 h5 => ?_); clear h4
    refine mw_c (v := 0) (pc' := 20) (by decide +kernel) ?_
    obtain ⟨r5, h6⟩ := h5
    refine mwx_V (q := 169) (na := 3) (ce := 0) (sl := 0) (X := 2) (Y := 1304) (as := [.int 0, .ref v4, .ref a2]) (by decide +kernel) r5 rfl rfl (by rw [show mL 169 = 3 from by decide +kernel]; rfl) rfl (fun z => absurd z (by decide +kernel)) (fun _ => ⟨_, rfl⟩) (vwJ0_init_031fb h6) (fun t6 i6 j6 h7 => ?_); clear h6
    obtain ⟨r7, h8⟩ := h7
    exact mw_rr (v := some a2) (X := 2) (Y := 1304) (by decide +kernel) r7 h8
  · refine mw_cS (i := 0) (pc' := 6) (by decide +kernel) ?_
    obtain ⟨r8, h2⟩ := h1
    exact mw_rr (v := some (K 0)) (X := 2) (Y := 1304) (by decide +kernel) r8 h2
/- ('J0', 'substring_37a41') -/
def wJ0_substring_37a41_b22 (K J : Nat → Nat) (fu : Nat) (F : VF) (sh : HS) (I : HI) (R : HR) (c1 : Nat) (c2 : Nat) (l0 : Nat) (l1 : Int32) (l2 : Int32) : Prop :=
  rcvB sh l0 14 = true ∧
  (c1 ≤ 2 ∧ c2 ≤ 1304) ∧
  wJ0_isLatin1_aae02 K J fu sh I R l0 (qwI fun v8 t8 i8 j8 =>
  if v8 = 0 then
    (wB (oR2 t8 j8 l0 14 0) fun v9 =>
    False)
  else
    (wB (oR2 t8 j8 l0 14 0) fun v10 =>
    (c1 + 2 ≤ 2 ∧ c2 + 1304 ≤ 1304) ∧
    wJ1_newString_b4f7a K J fu t8 i8 j8 v10 l1 (l2 - l1) (qwR fun v12 t12 i12 j12 =>
    ((c1 + 2) ≤ 2 ∧ (c2 + 1304) ≤ 1304) ∧
    F (.inl (some (.ref v12))) t12 i12 j12)))
theorem vwJ0_substring_37a41_b22 {l : Launch} {K J : Nat → Nat} {fu : Nat} {F : VF} {sh : HS} {I : HI} {R : HR} {c1 : Nat} {c2 : Nat} {l0 : Nat} {l1 : Int32} {l2 : Int32} {d3 d4 : Option Value} (h0 : wJ0_substring_37a41_b22 K J fu F sh I R c1 c2 l0 l1 l2) : MW l K J 166 22 [some (.ref l0), some (.int l1), some (.int l2), d3, d4] [] sh I R (c1, c2) F := by
  unfold wJ0_substring_37a41_b22 at h0
  refine mw_il (i := 2) (pc' := 23) (by decide +kernel) rfl ?_
  refine mw_il (i := 1) (pc' := 24) (by decide +kernel) rfl ?_
  refine mw_a (ins := .isub) (pc' := 25) (by decide +kernel) rfl ?_
  refine mw_is (i := 4) (pc' := 27) (L' := [some (.ref l0), some (.int l1), some (.int l2), d3, some (.int (l2 - l1))]) (by decide +kernel) rfl rfl ?_
  refine mw_rl (i := 0) (pc' := 28) (by decide +kernel) rfl ?_
  obtain ⟨q6, h1⟩ := h0
  obtain ⟨r7, h2⟩ := h1
  refine mwx_I (q := 171) (na := 1) (ce := 0) (sl := 0) (X := 2) (Y := 1304) (as := [.ref l0]) (by decide +kernel) r7 rfl rfl (by rw [show mL 171 = 1 from by decide +kernel]; rfl) rfl (fun _ => rv_of q6 (by decide +kernel)) (fun z => absurd z (by decide +kernel)) (vwJ0_isLatin1_aae02 h2) (fun v8 t8 i8 j8 h3 => ?_); clear h2
  refine mw_if (ins := .ifCond .eq 16) (t := 47) (pc' := 34) (by decide +kernel) rfl rfl rfl h3 (fun p4 h4 => ?_) (fun p4 h4 => ?_) <;> clear h3
  · refine mw_rl (i := 0) (pc' := 48) (by decide +kernel) rfl ?_
    refine mw_fR2 (ix := 9) (by decide +kernel) h4 (fun v9 h5 => ?_); clear h4
    refine mw_il (i := 1) (pc' := 52) (by decide +kernel) rfl ?_
    refine mw_il (i := 4) (pc' := 54) (by decide +kernel) rfl ?_
    exact h5.elim
  · refine mw_rl (i := 0) (pc' := 35) (by decide +kernel) rfl ?_
    refine mw_fR2 (ix := 9) (by decide +kernel) h4 (fun v10 h5 => ?_); clear h4
    refine mw_il (i := 1) (pc' := 39) (by decide +kernel) rfl ?_
    refine mw_il (i := 4) (pc' := 41) (by decide +kernel) rfl ?_
    obtain ⟨r11, h6⟩ := h5
    refine mwx_R (q := 192) (na := 3) (ce := 2) (sl := 1304) (X := 2) (Y := 1304) (as := [.int (l2 - l1), .int l1, .ref v10]) (by decide +kernel) r11 rfl rfl (by rw [show mL 192 = 3 from by decide +kernel]; rfl) rfl (fun z => absurd z (by decide +kernel)) (fun z => absurd z (by decide +kernel)) (vwJ1_newString_b4f7a h6) (fun v12 t12 i12 j12 h7 => ?_); clear h6
    refine mw_go (t := 57) (by decide +kernel) ?_
    obtain ⟨r13, h8⟩ := h7
    exact mw_rr (v := some v12) (X := 2) (Y := 1304) (by decide +kernel) r13 h8
def wJ0_substring_37a41 (K J : Nat → Nat) (fu : Nat) (sh : HS) (I : HI) (R : HR) (l0 : Nat) (l1 : Int32) (l2 : Int32) (F : VF) : Prop :=
  rcvB sh l0 14 = true ∧
  (0 ≤ 2 ∧ 0 ≤ 1304) ∧
  wJ0_length_8abf5 K J fu sh I R l0 (qwI fun v3 t3 i3 j3 =>
  (0 ≤ 2 ∧ 0 ≤ 1304) ∧
  wJ0_checkBoundsBeginEnd_23922 K J fu t3 i3 j3 l1 l2 v3 (qwV fun t5 i5 j5 =>
  if l1 = 0 then
    (if l2 = v3 then
      ((0 ≤ 2 ∧ 0 ≤ 1304) ∧
      F (.inl (some (.ref l0))) t5 i5 j5)
    else
      ((wJ0_substring_37a41_b22 K J fu F) t5 i5 j5 0 0 l0 l1 l2))
  else
    ((wJ0_substring_37a41_b22 K J fu F) t5 i5 j5 0 0 l0 l1 l2)))
theorem vwJ0_substring_37a41 {l : Launch} {K J : Nat → Nat} {fu : Nat} {sh : HS} {I : HI} {R : HR} {l0 : Nat} {l1 : Int32} {l2 : Int32} {F : VF} (h0 : wJ0_substring_37a41 K J fu sh I R l0 l1 l2 F) : MW l K J 166 0 (ent (mL 166) [.ref l0, .int l1, .int l2]) [] sh I R (0, 0) F := by
  unfold wJ0_substring_37a41 at h0
  have ml : mL 166 = 5 := by decide +kernel
  rw [ml]
  show MW l K J 166 0 [some (.ref l0), some (.int l1), some (.int l2), none, none] [] sh I R (0, 0) F
  refine mw_rl (i := 0) (pc' := 1) (by decide +kernel) rfl ?_
  obtain ⟨q1, h1⟩ := h0
  obtain ⟨r2, h2⟩ := h1
  refine mwx_I (q := 163) (na := 1) (ce := 0) (sl := 0) (X := 2) (Y := 1304) (as := [.ref l0]) (by decide +kernel) r2 rfl rfl (by rw [show mL 163 = 1 from by decide +kernel]; rfl) rfl (fun _ => rv_of q1 (by decide +kernel)) (fun z => absurd z (by decide +kernel)) (vwJ0_length_8abf5 h2) (fun v3 t3 i3 j3 h3 => ?_); clear h2
  refine mw_is (i := 3) (pc' := 5) (L' := [some (.ref l0), some (.int l1), some (.int l2), some (.int v3), none]) (by decide +kernel) rfl rfl ?_
  refine mw_il (i := 1) (pc' := 6) (by decide +kernel) rfl ?_
  refine mw_il (i := 2) (pc' := 7) (by decide +kernel) rfl ?_
  refine mw_il (i := 3) (pc' := 8) (by decide +kernel) rfl ?_
  obtain ⟨r4, h4⟩ := h3
  refine mwx_V (q := 173) (na := 3) (ce := 0) (sl := 0) (X := 2) (Y := 1304) (as := [.int v3, .int l2, .int l1]) (by decide +kernel) r4 rfl rfl (by rw [show mL 173 = 3 from by decide +kernel]; rfl) rfl (fun z => absurd z (by decide +kernel)) (fun z => absurd z (by decide +kernel)) (vwJ0_checkBoundsBeginEnd_23922 h4) (fun t5 i5 j5 h5 => ?_); clear h4
  refine mw_il (i := 1) (pc' := 12) (by decide +kernel) rfl ?_
  refine mw_ifn (ins := .ifCond .ne 10) (t := 22) (pc' := 15) (by decide +kernel) rfl rfl rfl h5 (fun p6 h6 => ?_) (fun p6 h6 => ?_) <;> clear h5
  · exact (vwJ0_substring_37a41_b22) h6
  · refine mw_il (i := 2) (pc' := 16) (by decide +kernel) rfl ?_
    refine mw_il (i := 3) (pc' := 17) (by decide +kernel) rfl ?_
    refine mw_ifn (ins := .if_icmp .ne 5) (t := 22) (pc' := 20) (by decide +kernel) rfl rfl rfl h6 (fun p7 h7 => ?_) (fun p7 h7 => ?_) <;> clear h6
    · exact (vwJ0_substring_37a41_b22) h7
    · refine mw_rl (i := 0) (pc' := 21) (by decide +kernel) rfl ?_
      obtain ⟨r14, h8⟩ := h7
      exact mw_rr (v := some l0) (X := 2) (Y := 1304) (by decide +kernel) r14 h8
/- ('J0', 'substring_b52d3') -/
def wJ0_substring_b52d3 (K J : Nat → Nat) (fu : Nat) (sh : HS) (I : HI) (R : HR) (l0 : Nat) (l1 : Int32) (F : VF) : Prop :=
  rcvB sh l0 14 = true ∧
  (0 ≤ 2 ∧ 0 ≤ 1304) ∧
  wJ0_length_8abf5 K J fu sh I R l0 (qwI fun v3 t3 i3 j3 =>
  rcvB t3 l0 14 = true ∧
  (0 + 2 ≤ 2 ∧ 0 + 1304 ≤ 1304) ∧
  wJ0_substring_37a41 K J fu t3 i3 j3 l0 l1 v3 (qwR fun v6 t6 i6 j6 =>
  ((0 + 2) ≤ 2 ∧ (0 + 1304) ≤ 1304) ∧
  F (.inl (some (.ref v6))) t6 i6 j6))
theorem vwJ0_substring_b52d3 {l : Launch} {K J : Nat → Nat} {fu : Nat} {sh : HS} {I : HI} {R : HR} {l0 : Nat} {l1 : Int32} {F : VF} (h0 : wJ0_substring_b52d3 K J fu sh I R l0 l1 F) : MW l K J 165 0 (ent (mL 165) [.ref l0, .int l1]) [] sh I R (0, 0) F := by
  unfold wJ0_substring_b52d3 at h0
  have ml : mL 165 = 2 := by decide +kernel
  rw [ml]
  show MW l K J 165 0 [some (.ref l0), some (.int l1)] [] sh I R (0, 0) F
  refine mw_rl (i := 0) (pc' := 1) (by decide +kernel) rfl ?_
  refine mw_il (i := 1) (pc' := 2) (by decide +kernel) rfl ?_
  refine mw_rl (i := 0) (pc' := 3) (by decide +kernel) rfl ?_
  obtain ⟨q1, h1⟩ := h0
  obtain ⟨r2, h2⟩ := h1
  refine mwx_I (q := 163) (na := 1) (ce := 0) (sl := 0) (X := 2) (Y := 1304) (as := [.ref l0]) (by decide +kernel) r2 rfl rfl (by rw [show mL 163 = 1 from by decide +kernel]; rfl) rfl (fun _ => rv_of q1 (by decide +kernel)) (fun z => absurd z (by decide +kernel)) (vwJ0_length_8abf5 h2) (fun v3 t3 i3 j3 h3 => ?_); clear h2
  obtain ⟨q4, h4⟩ := h3
  obtain ⟨r5, h5⟩ := h4
  refine mwx_R (q := 166) (na := 3) (ce := 2) (sl := 1304) (X := 2) (Y := 1304) (as := [.int v3, .int l1, .ref l0]) (by decide +kernel) r5 rfl rfl (by rw [show mL 166 = 5 from by decide +kernel]; rfl) rfl (fun _ => rv_of q4 (by decide +kernel)) (fun z => absurd z (by decide +kernel)) (vwJ0_substring_37a41 h5) (fun v6 t6 i6 j6 h6 => ?_); clear h5
  obtain ⟨r7, h7⟩ := h6
  exact mw_rr (v := some v6) (X := 2) (Y := 1304) (by decide +kernel) r7 h7
/- ('J15', 'checkIndex_7cf53') -/
def wJ15_checkIndex_7cf53 (K J : Nat → Nat) (fu : Nat) (sh : HS) (I : HI) (R : HR) (l0 : Int32) (l1 : Int32) (F : VF) : Prop :=
  wJ3_checkIndex_8e157 K J fu sh I R l0 l1 none (qwI fun v1 t1 i1 j1 =>
  F (.inl (some (.int v1))) t1 i1 j1)
theorem vwJ15_checkIndex_7cf53 {l : Launch} {K J : Nat → Nat} {fu : Nat} {sh : HS} {I : HI} {R : HR} {l0 : Int32} {l1 : Int32} {F : VF} (h0 : wJ15_checkIndex_7cf53 K J fu sh I R l0 l1 F) : MW l K J 196 0 (ent (mL 196) [.int l0, .int l1]) [] sh I R (0, 0) F := by
  unfold wJ15_checkIndex_7cf53 at h0
  have ml : mL 196 = 2 := by decide +kernel
  rw [ml]
  show MW l K J 196 0 [some (.int l0), some (.int l1)] [] sh I R (0, 0) F
  refine mw_il (i := 0) (pc' := 1) (by decide +kernel) rfl ?_
  refine mw_il (i := 1) (pc' := 2) (by decide +kernel) rfl ?_
  refine mw_null (by decide +kernel) ?_
  refine mwx_I (q := 194) (na := 3) (ce := 0) (sl := 0) (X := 0) (Y := 0) (as := [va_rf none, .int l1, .int l0]) (by decide +kernel) ⟨Nat.le_refl _, Nat.le_refl _⟩ rfl rfl (by rw [show mL 194 = 3 from by decide +kernel]; first | rfl | (cases none <;> rfl)) (by first | rfl | (cases none <;> rfl)) (fun z => absurd z (by decide +kernel)) (fun z => absurd z (by decide +kernel)) (vwJ3_checkIndex_8e157 h0) (fun v1 t1 i1 j1 h1 => ?_); clear h0
  exact mw_ri (X := 0) (Y := 0) (by decide +kernel) ⟨Nat.le_refl _, Nat.le_refl _⟩ h1
/- ('Jx4a65c', 'elementData_915e3') -/
def wJx4a65c_elementData_915e3 (K J : Nat → Nat) (fu : Nat) (sh : HS) (I : HI) (R : HR) (l0 : Nat) (l1 : Int32) (F : VF) : Prop :=
  wB (oR sh R l0 10 1) fun v1 =>
  wB (oAr sh R v1 46 l1) fun v2 =>
  F (.inl (some (.ref v2))) sh I R
theorem vwJx4a65c_elementData_915e3 {l : Launch} {K J : Nat → Nat} {fu : Nat} {sh : HS} {I : HI} {R : HR} {l0 : Nat} {l1 : Int32} {F : VF} (h0 : wJx4a65c_elementData_915e3 K J fu sh I R l0 l1 F) : MW l K J 134 0 (ent (mL 134) [.ref l0, .int l1]) [] sh I R (0, 0) F := by
  unfold wJx4a65c_elementData_915e3 at h0
  have ml : mL 134 = 2 := by decide +kernel
  rw [ml]
  show MW l K J 134 0 [some (.ref l0), some (.int l1)] [] sh I R (0, 0) F
  refine mw_rl (i := 0) (pc' := 1) (by decide +kernel) rfl ?_
  refine mw_fR (ix := 9) (t := 10) (j := 1) (md := 0) (by decide +kernel) h0 (fun v1 h1 => ?_); clear h0
  refine mw_il (i := 1) (pc' := 5) (by decide +kernel) rfl ?_
  refine mw_aal (t := 46) (by decide +kernel) (by decide) h1 (fun v2 h2 => ?_); clear h1
  exact mw_rr (v := some v2) (X := 0) (Y := 0) (by decide +kernel) ⟨Nat.le_refl _, Nat.le_refl _⟩ h2
/- ('Jx4a65c', 'get_915e3') -/
def wJx4a65c_get_915e3 (K J : Nat → Nat) (fu : Nat) (sh : HS) (I : HI) (R : HR) (l0 : Nat) (l1 : Int32) (F : VF) : Prop :=
  wB (oI sh I l0 10 2) fun v1 =>
  wJ15_checkIndex_7cf53 K J fu sh I R l1 v1 (qwI fun v2 t2 i2 j2 =>
  rcvB t2 l0 10 = true ∧
  wJx4a65c_elementData_915e3 K J fu t2 i2 j2 l0 l1 (qwR fun v4 t4 i4 j4 =>
  F (.inl (some (.ref v4))) t4 i4 j4))
theorem vwJx4a65c_get_915e3 {l : Launch} {K J : Nat → Nat} {fu : Nat} {sh : HS} {I : HI} {R : HR} {l0 : Nat} {l1 : Int32} {F : VF} (h0 : wJx4a65c_get_915e3 K J fu sh I R l0 l1 F) : MW l K J 135 0 (ent (mL 135) [.ref l0, .int l1]) [] sh I R (0, 0) F := by
  unfold wJx4a65c_get_915e3 at h0
  have ml : mL 135 = 2 := by decide +kernel
  rw [ml]
  show MW l K J 135 0 [some (.ref l0), some (.int l1)] [] sh I R (0, 0) F
  refine mw_il (i := 1) (pc' := 1) (by decide +kernel) rfl ?_
  refine mw_rl (i := 0) (pc' := 2) (by decide +kernel) rfl ?_
  refine mw_fI (ix := 48) (t := 10) (j := 2) (ty := 0) (md := 0) (by decide +kernel) (by decide) h0 (fun v1 h1 => ?_); clear h0
  refine mwx_I (q := 196) (na := 2) (ce := 0) (sl := 0) (X := 0) (Y := 0) (as := [.int v1, .int l1]) (by decide +kernel) ⟨Nat.le_refl _, Nat.le_refl _⟩ rfl rfl (by rw [show mL 196 = 2 from by decide +kernel]; rfl) rfl (fun z => absurd z (by decide +kernel)) (fun z => absurd z (by decide +kernel)) (vwJ15_checkIndex_7cf53 h1) (fun v2 t2 i2 j2 h2 => ?_); clear h1
  refine mw_pop (by decide +kernel) rfl ?_
  refine mw_rl (i := 0) (pc' := 10) (by decide +kernel) rfl ?_
  refine mw_il (i := 1) (pc' := 11) (by decide +kernel) rfl ?_
  obtain ⟨q3, h3⟩ := h2
  refine mwx_R (q := 134) (na := 2) (ce := 0) (sl := 0) (X := 0) (Y := 0) (as := [.int l1, .ref l0]) (by decide +kernel) ⟨Nat.le_refl _, Nat.le_refl _⟩ rfl rfl (by rw [show mL 134 = 2 from by decide +kernel]; rfl) rfl (fun _ => rv_of q3 (by decide +kernel)) (fun z => absurd z (by decide +kernel)) (vwJx4a65c_elementData_915e3 h3) (fun v4 t4 i4 j4 h4 => ?_); clear h3
  exact mw_rr (v := some v4) (X := 0) (Y := 0) (by decide +kernel) ⟨Nat.le_refl _, Nat.le_refl _⟩ h4
/- ('J6', 'intValue_8abf5') -/
def wJ6_intValue_8abf5 (K J : Nat → Nat) (fu : Nat) (sh : HS) (I : HI) (R : HR) (l0 : Nat) (F : VF) : Prop :=
  wB (oI2 sh I l0 12 0) fun v1 =>
  F (.inl (some (.int v1))) sh I R
theorem vwJ6_intValue_8abf5 {l : Launch} {K J : Nat → Nat} {fu : Nat} {sh : HS} {I : HI} {R : HR} {l0 : Nat} {F : VF} (h0 : wJ6_intValue_8abf5 K J fu sh I R l0 F) : MW l K J 152 0 (ent (mL 152) [.ref l0]) [] sh I R (0, 0) F := by
  unfold wJ6_intValue_8abf5 at h0
  have ml : mL 152 = 1 := by decide +kernel
  rw [ml]
  show MW l K J 152 0 [some (.ref l0)] [] sh I R (0, 0) F
  refine mw_rl (i := 0) (pc' := 1) (by decide +kernel) rfl ?_
  refine mw_fI2 (ix := 205) (t := 12) (j := 0) (ty := 0) (by decide +kernel) (by decide) h0 (fun v1 h1 => ?_); clear h0
  exact mw_ri (X := 0) (Y := 0) (by decide +kernel) ⟨Nat.le_refl _, Nat.le_refl _⟩ h1
/- ('X11', 'ax') -/
def wX11_ax (K J : Nat → Nat) (fu : Nat) (sh : HS) (I : HI) (R : HR) (l0 : Nat) (l1 : Nat) (l2 : Int32) (F : VF) : Prop :=
  wB (oR sh R l0 9 5) fun v1 =>
  wB (oA2 sh I l1 0) fun v2 =>
  wB (oAr sh R v1 45 v2) fun v3 =>
  wB (oA2 sh I v3 l2) fun v4 =>
  F (.inl (some (.int v4))) sh I R
theorem vwX11_ax {l : Launch} {K J : Nat → Nat} {fu : Nat} {sh : HS} {I : HI} {R : HR} {l0 : Nat} {l1 : Nat} {l2 : Int32} {F : VF} (h0 : wX11_ax K J fu sh I R l0 l1 l2 F) : MW l K J 115 0 (ent (mL 115) [.ref l0, .ref l1, .int l2]) [] sh I R (0, 0) F := by
  unfold wX11_ax at h0
  have ml : mL 115 = 3 := by decide +kernel
  rw [ml]
  show MW l K J 115 0 [some (.ref l0), some (.ref l1), some (.int l2)] [] sh I R (0, 0) F
  refine mw_rl (i := 0) (pc' := 1) (by decide +kernel) rfl ?_
  refine mw_fR (ix := 21) (t := 9) (j := 5) (md := 0) (by decide +kernel) h0 (fun v1 h1 => ?_); clear h0
  refine mw_rl (i := 1) (pc' := 5) (by decide +kernel) rfl ?_
  refine mw_c (v := 0) (pc' := 6) (by decide +kernel) ?_
  refine mw_al (by decide +kernel) h1 (fun v2 h2 => ?_); clear h1
  refine mw_aal (t := 45) (by decide +kernel) (by decide) h2 (fun v3 h3 => ?_); clear h2
  refine mw_il (i := 2) (pc' := 9) (by decide +kernel) rfl ?_
  refine mw_al (by decide +kernel) h3 (fun v4 h4 => ?_); clear h3
  exact mw_ri (X := 0) (Y := 0) (by decide +kernel) ⟨Nat.le_refl _, Nat.le_refl _⟩ h4
/- ('X11', 'ay') -/
def wX11_ay (K J : Nat → Nat) (fu : Nat) (sh : HS) (I : HI) (R : HR) (l0 : Nat) (l1 : Nat) (l2 : Int32) (F : VF) : Prop :=
  wB (oR sh R l0 9 6) fun v1 =>
  wB (oA2 sh I l1 0) fun v2 =>
  wB (oAr sh R v1 45 v2) fun v3 =>
  wB (oA2 sh I v3 l2) fun v4 =>
  F (.inl (some (.int v4))) sh I R
theorem vwX11_ay {l : Launch} {K J : Nat → Nat} {fu : Nat} {sh : HS} {I : HI} {R : HR} {l0 : Nat} {l1 : Nat} {l2 : Int32} {F : VF} (h0 : wX11_ay K J fu sh I R l0 l1 l2 F) : MW l K J 116 0 (ent (mL 116) [.ref l0, .ref l1, .int l2]) [] sh I R (0, 0) F := by
  unfold wX11_ay at h0
  have ml : mL 116 = 3 := by decide +kernel
  rw [ml]
  show MW l K J 116 0 [some (.ref l0), some (.ref l1), some (.int l2)] [] sh I R (0, 0) F
  refine mw_rl (i := 0) (pc' := 1) (by decide +kernel) rfl ?_
  refine mw_fR (ix := 25) (t := 9) (j := 6) (md := 0) (by decide +kernel) h0 (fun v1 h1 => ?_); clear h0
  refine mw_rl (i := 1) (pc' := 5) (by decide +kernel) rfl ?_
  refine mw_c (v := 0) (pc' := 6) (by decide +kernel) ?_
  refine mw_al (by decide +kernel) h1 (fun v2 h2 => ?_); clear h1
  refine mw_aal (t := 45) (by decide +kernel) (by decide) h2 (fun v3 h3 => ?_); clear h2
  refine mw_il (i := 2) (pc' := 9) (by decide +kernel) rfl ?_
  refine mw_al (by decide +kernel) h3 (fun v4 h4 => ?_); clear h3
  exact mw_ri (X := 0) (Y := 0) (by decide +kernel) ⟨Nat.le_refl _, Nat.le_refl _⟩ h4
/- ('X11', 'view') -/
def wX11_view (K J : Nat → Nat) (fu : Nat) (sh : HS) (I : HI) (R : HR) (l0 : Nat) (l1 : Nat) (F : VF) : Prop :=
  wB (oA2 sh I l1 3) fun v1 =>
  rcvB sh l0 9 = true ∧
  wX11_ax K J fu sh I R l0 l1 v1 (qwI fun v3 t3 i3 j3 =>
  wB (oA2 t3 i3 l1 1) fun v4 =>
  wB (oA2 t3 i3 l1 3) fun v5 =>
  rcvB t3 l0 9 = true ∧
  wX11_ay K J fu t3 i3 j3 l0 l1 v5 (qwI fun v7 t7 i7 j7 =>
  wB (oA2 t7 i7 l1 2) fun v8 =>
  wB (fX11_direction fu t7 i7 j7 (v3 - v4) (v7 - v8)) fun v9 =>
  F (.inl (some (.int v9))) t7 i7 j7))
theorem vwX11_view {l : Launch} {K J : Nat → Nat} {fu : Nat} {sh : HS} {I : HI} {R : HR} {l0 : Nat} {l1 : Nat} {F : VF} (h0 : wX11_view K J fu sh I R l0 l1 F) : MW l K J 117 0 (ent (mL 117) [.ref l0, .ref l1]) [] sh I R (0, 0) F := by
  unfold wX11_view at h0
  have ml : mL 117 = 2 := by decide +kernel
  rw [ml]
  show MW l K J 117 0 [some (.ref l0), some (.ref l1)] [] sh I R (0, 0) F
  refine mw_rl (i := 0) (pc' := 1) (by decide +kernel) rfl ?_
  refine mw_rl (i := 1) (pc' := 2) (by decide +kernel) rfl ?_
  refine mw_rl (i := 1) (pc' := 3) (by decide +kernel) rfl ?_
  refine mw_c (v := 3) (pc' := 4) (by decide +kernel) ?_
  refine mw_al (by decide +kernel) h0 (fun v1 h1 => ?_); clear h0
  obtain ⟨q2, h2⟩ := h1
  refine mwx_I (q := 115) (na := 3) (ce := 0) (sl := 0) (X := 0) (Y := 0) (as := [.int v1, .ref l1, .ref l0]) (by decide +kernel) ⟨Nat.le_refl _, Nat.le_refl _⟩ rfl rfl (by rw [show mL 115 = 3 from by decide +kernel]; rfl) rfl (fun _ => rv_of q2 (by decide +kernel)) (fun z => absurd z (by decide +kernel)) (vwX11_ax h2) (fun v3 t3 i3 j3 h3 => ?_); clear h2
  refine mw_rl (i := 1) (pc' := 9) (by decide +kernel) rfl ?_
  refine mw_c (v := 1) (pc' := 10) (by decide +kernel) ?_
  refine mw_al (by decide +kernel) h3 (fun v4 h4 => ?_); clear h3
  refine mw_a (ins := .isub) (pc' := 12) (by decide +kernel) rfl ?_
  refine mw_rl (i := 0) (pc' := 13) (by decide +kernel) rfl ?_
  refine mw_rl (i := 1) (pc' := 14) (by decide +kernel) rfl ?_
  refine mw_rl (i := 1) (pc' := 15) (by decide +kernel) rfl ?_
  refine mw_c (v := 3) (pc' := 16) (by decide +kernel) ?_
  refine mw_al (by decide +kernel) h4 (fun v5 h5 => ?_); clear h4
  obtain ⟨q6, h6⟩ := h5
  refine mwx_I (q := 116) (na := 3) (ce := 0) (sl := 0) (X := 0) (Y := 0) (as := [.int v5, .ref l1, .ref l0]) (by decide +kernel) ⟨Nat.le_refl _, Nat.le_refl _⟩ rfl rfl (by rw [show mL 116 = 3 from by decide +kernel]; rfl) rfl (fun _ => rv_of q6 (by decide +kernel)) (fun z => absurd z (by decide +kernel)) (vwX11_ay h6) (fun v7 t7 i7 j7 h7 => ?_); clear h6
  refine mw_rl (i := 1) (pc' := 21) (by decide +kernel) rfl ?_
  refine mw_c (v := 2) (pc' := 22) (by decide +kernel) ?_
  refine mw_al (by decide +kernel) h7 (fun v8 h8 => ?_); clear h7
  refine mw_a (ins := .isub) (pc' := 24) (by decide +kernel) rfl ?_
  refine hX11_direction (X := 0) (Y := 0) (by decide +kernel) ⟨Nat.le_refl _, Nat.le_refl _⟩ rfl h8 (fun v9 h9 => ?_); clear h8
  exact mw_ri (X := 0) (Y := 0) (by decide +kernel) ⟨Nat.le_refl _, Nat.le_refl _⟩ h9
/- ('X11', 'near') -/
def wX11_near_b59 (K J : Nat → Nat) (fu : Nat) (F : VF) (sh : HS) (I : HI) (R : HR) (s0 : Int32) : Prop :=
  (s0 = 0 ∨ s0 = 1) ∧ F (.inl (some (.int s0))) sh I R
theorem vwX11_near_b59 {l : Launch} {K J : Nat → Nat} {fu : Nat} {F : VF} {sh : HS} {I : HI} {R : HR} {s0 : Int32} {d0 d1 d2 d3 : Option Value} (h0 : wX11_near_b59 K J fu F sh I R s0) : MW l K J 121 59 [d0, d1, d2, d3] [.int s0] sh I R (0, 0) F := by
  unfold wX11_near_b59 at h0
  exact mw_rz (X := 0) (Y := 0) (by decide +kernel) h0.1 ⟨Nat.le_refl _, Nat.le_refl _⟩ h0.2
def wX11_near_b58 (K J : Nat → Nat) (fu : Nat) (F : VF) (sh : HS) (I : HI) (R : HR) : Prop :=
  (wX11_near_b59 K J fu F) sh I R 0
theorem vwX11_near_b58 {l : Launch} {K J : Nat → Nat} {fu : Nat} {F : VF} {sh : HS} {I : HI} {R : HR} {d0 d1 d2 d3 : Option Value} (h0 : wX11_near_b58 K J fu F sh I R) : MW l K J 121 58 [d0, d1, d2, d3] [] sh I R (0, 0) F := by
  unfold wX11_near_b58 at h0
  refine mw_c (v := 0) (pc' := 59) (by decide +kernel) ?_
  exact (vwX11_near_b59) h0
def wX11_near (K J : Nat → Nat) (fu : Nat) (sh : HS) (I : HI) (R : HR) (l0 : Nat) (l1 : Nat) (l2 : Nat) (l3 : Int32) (F : VF) : Prop :=
  wB (oA2 sh I l1 0) fun v1 =>
  wB (oA2 sh I l2 0) fun v2 =>
  if v1 = v2 then
    (wB (oA2 sh I l1 1) fun v3 =>
    wB (oA2 sh I l2 1) fun v4 =>
    wB (oA2 sh I l1 2) fun v5 =>
    wB (oA2 sh I l2 2) fun v6 =>
    if l3 < ((iAbs (v3 - v4)) + (iAbs (v5 - v6))) then
      ((wX11_near_b58 K J fu F) sh I R)
    else
      (rcvB sh l0 9 = true ∧
      wX11_view K J fu sh I R l0 l1 (qwI fun v8 t8 i8 j8 =>
      rcvB t8 l0 9 = true ∧
      wX11_view K J fu t8 i8 j8 l0 l2 (qwI fun v10 t10 i10 j10 =>
      wB (fX11_turn fu t10 i10 j10 v8 v10) fun v11 =>
      wB (oI t10 i10 l0 9 1) fun v12 =>
      if v12 < v11 then
        ((wX11_near_b58 K J fu F) t10 i10 j10)
      else
        ((wX11_near_b59 K J fu F) t10 i10 j10 1)))))
  else
    ((wX11_near_b58 K J fu F) sh I R)
theorem vwX11_near {l : Launch} {K J : Nat → Nat} {fu : Nat} {sh : HS} {I : HI} {R : HR} {l0 : Nat} {l1 : Nat} {l2 : Nat} {l3 : Int32} {F : VF} (h0 : wX11_near K J fu sh I R l0 l1 l2 l3 F) : MW l K J 121 0 (ent (mL 121) [.ref l0, .ref l1, .ref l2, .int l3]) [] sh I R (0, 0) F := by
  unfold wX11_near at h0
  have ml : mL 121 = 4 := by decide +kernel
  rw [ml]
  show MW l K J 121 0 [some (.ref l0), some (.ref l1), some (.ref l2), some (.int l3)] [] sh I R (0, 0) F
  refine mw_rl (i := 1) (pc' := 1) (by decide +kernel) rfl ?_
  refine mw_c (v := 0) (pc' := 2) (by decide +kernel) ?_
  refine mw_al (by decide +kernel) h0 (fun v1 h1 => ?_); clear h0
  refine mw_rl (i := 2) (pc' := 4) (by decide +kernel) rfl ?_
  refine mw_c (v := 0) (pc' := 5) (by decide +kernel) ?_
  refine mw_al (by decide +kernel) h1 (fun v2 h2 => ?_); clear h1
  refine mw_ifn (ins := .if_icmp .ne 52) (t := 58) (pc' := 9) (by decide +kernel) rfl rfl rfl h2 (fun p3 h3 => ?_) (fun p3 h3 => ?_) <;> clear h2
  · exact (vwX11_near_b58) h3
  · refine mw_rl (i := 1) (pc' := 10) (by decide +kernel) rfl ?_
    refine mw_c (v := 1) (pc' := 11) (by decide +kernel) ?_
    refine mw_al (by decide +kernel) h3 (fun v3 h4 => ?_); clear h3
    refine mw_rl (i := 2) (pc' := 13) (by decide +kernel) rfl ?_
    refine mw_c (v := 1) (pc' := 14) (by decide +kernel) ?_
    refine mw_al (by decide +kernel) h4 (fun v4 h5 => ?_); clear h4
    refine mw_a (ins := .isub) (pc' := 16) (by decide +kernel) rfl ?_
    refine mw_abs (X := 0) (Y := 0) (pc' := 19) (by decide +kernel) ⟨Nat.le_refl _, Nat.le_refl _⟩ rfl ?_
    refine mw_rl (i := 1) (pc' := 20) (by decide +kernel) rfl ?_
    refine mw_c (v := 2) (pc' := 21) (by decide +kernel) ?_
    refine mw_al (by decide +kernel) h5 (fun v5 h6 => ?_); clear h5
    refine mw_rl (i := 2) (pc' := 23) (by decide +kernel) rfl ?_
    refine mw_c (v := 2) (pc' := 24) (by decide +kernel) ?_
    refine mw_al (by decide +kernel) h6 (fun v6 h7 => ?_); clear h6
    refine mw_a (ins := .isub) (pc' := 26) (by decide +kernel) rfl ?_
    refine mw_abs (X := 0) (Y := 0) (pc' := 29) (by decide +kernel) ⟨Nat.le_refl _, Nat.le_refl _⟩ rfl ?_
    refine mw_a (ins := .iadd) (pc' := 30) (by decide +kernel) rfl ?_
    refine mw_il (i := 3) (pc' := 31) (by decide +kernel) rfl ?_
    refine mw_if (ins := .if_icmp .gt 27) (t := 58) (pc' := 34) (by decide +kernel) rfl rfl rfl h7 (fun p8 h8 => ?_) (fun p8 h8 => ?_) <;> clear h7
    · exact (vwX11_near_b58) h8
    · refine mw_rl (i := 0) (pc' := 35) (by decide +kernel) rfl ?_
      refine mw_rl (i := 1) (pc' := 36) (by decide +kernel) rfl ?_
      obtain ⟨q7, h9⟩ := h8
      refine mwx_I (q := 117) (na := 2) (ce := 0) (sl := 0) (X := 0) (Y := 0) (as := [.ref l1, .ref l0]) (by decide +kernel) ⟨Nat.le_refl _, Nat.le_refl _⟩ rfl rfl (by rw [show mL 117 = 2 from by decide +kernel]; rfl) rfl (fun _ => rv_of q7 (by decide +kernel)) (fun z => absurd z (by decide +kernel)) (vwX11_view h9) (fun v8 t8 i8 j8 h10 => ?_); clear h9
      refine mw_rl (i := 0) (pc' := 40) (by decide +kernel) rfl ?_
      refine mw_rl (i := 2) (pc' := 41) (by decide +kernel) rfl ?_
      obtain ⟨q9, h11⟩ := h10
      refine mwx_I (q := 117) (na := 2) (ce := 0) (sl := 0) (X := 0) (Y := 0) (as := [.ref l2, .ref l0]) (by decide +kernel) ⟨Nat.le_refl _, Nat.le_refl _⟩ rfl rfl (by rw [show mL 117 = 2 from by decide +kernel]; rfl) rfl (fun _ => rv_of q9 (by decide +kernel)) (fun z => absurd z (by decide +kernel)) (vwX11_view h11) (fun v10 t10 i10 j10 h12 => ?_); clear h11
      refine hX11_turn (X := 0) (Y := 0) (by decide +kernel) ⟨Nat.le_refl _, Nat.le_refl _⟩ rfl h12 (fun v11 h13 => ?_); clear h12
      refine mw_rl (i := 0) (pc' := 48) (by decide +kernel) rfl ?_
      refine mw_fI (ix := 67) (t := 9) (j := 1) (ty := 0) (md := 0) (by decide +kernel) (by decide) h13 (fun v12 h14 => ?_); clear h13
      refine mw_if (ins := .if_icmp .gt 7) (t := 58) (pc' := 54) (by decide +kernel) rfl rfl rfl h14 (fun p15 h15 => ?_) (fun p15 h15 => ?_) <;> clear h14
      · exact (vwX11_near_b58) h15
      · refine mw_c (v := 1) (pc' := 55) (by decide +kernel) ?_
        refine mw_go (t := 59) (by decide +kernel) ?_
        exact (vwX11_near_b59) h15
