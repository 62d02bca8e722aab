/- ('L', 'someActor') -/
def wL_someActor_b5 (K J : Nat → Nat) (fu : Nat) (F : VF) (k5 : HS → HI → HR → Nat → Int32 → Int32 → Prop) (sh : HS) (I : HI) (R : HR) (l0 : Nat) (l1 : Int32) (l3 : Int32) : Prop :=
  wB (oR sh R l0 9 5) fun v2 =>
  wB (oAr sh R v2 45 l1) fun v3 =>
  wB (oA2 sh I v3 l3) fun v4 =>
  if 0 ≤ v4 then
    (F (.inl (some (.int l3))) sh I R)
  else
    (wB (oM (l3 + 1) 6) fun v5 =>
    k5 sh I R l0 l1 v5)
theorem vwL_someActor_b5 {l : Launch} {K J : Nat → Nat} {fu : Nat} {F : VF} {k5 : HS → HI → HR → Nat → Int32 → Int32 → Prop} (hk5 : ∀ {sh : HS} {I : HI} {R : HR} {l0 : Nat} {l1 : Int32} {l3 : Int32} {d2 : Option Value}, k5 sh I R l0 l1 l3 → MW l K J 176 5 [some (.ref l0), some (.int l1), d2, some (.int l3)] [] sh I R (0, 0) F) {sh : HS} {I : HI} {R : HR} {l0 : Nat} {l1 : Int32} {l3 : Int32} {d2 : Option Value} (h0 : wL_someActor_b5 K J fu F k5 sh I R l0 l1 l3) : MW l K J 176 5 [some (.ref l0), some (.int l1), d2, some (.int l3)] [] sh I R (0, 0) F := by
  unfold wL_someActor_b5 at h0
  refine mw_rl (i := 0) (pc' := 6) (by decide +kernel) rfl ?_
  refine mw_fR (ix := 34) (t := 9) (j := 5) (md := 1) (by decide +kernel) h0 (fun v2 h1 => ?_); clear h0
  refine mw_il (i := 1) (pc' := 10) (by decide +kernel) rfl ?_
  refine mw_aal (t := 45) (by decide +kernel) (by decide) h1 (fun v3 h2 => ?_); clear h1
  refine mw_il (i := 3) (pc' := 12) (by decide +kernel) rfl ?_
  refine mw_al (by decide +kernel) h2 (fun v4 h3 => ?_); clear h2
  refine mw_if (ins := .ifCond .ge 13) (t := 26) (pc' := 16) (by decide +kernel) rfl rfl rfl h3 (fun p4 h4 => ?_) (fun p4 h4 => ?_) <;> clear h3
  · refine mw_il (i := 3) (pc' := 27) (by decide +kernel) rfl ?_
    exact mw_ri (X := 0) (Y := 0) (by decide +kernel) ⟨Nat.le_refl _, Nat.le_refl _⟩ h4
  · refine mw_il (i := 3) (pc' := 17) (by decide +kernel) rfl ?_
    refine mw_c (v := 1) (pc' := 18) (by decide +kernel) ?_
    refine mw_a (ins := .iadd) (pc' := 19) (by decide +kernel) rfl ?_
    refine mw_c (v := 6) (pc' := 21) (by decide +kernel) ?_
    refine mw_rm (by decide +kernel) h4 (fun v5 h5 => ?_); clear h4
    refine mw_is (i := 3) (pc' := 23) (L' := [some (.ref l0), some (.int l1), d2, some (.int v5)]) (by decide +kernel) rfl rfl ?_
    refine mw_go (t := 5) (by decide +kernel) ?_
    exact hk5 h5
def wL_someActor_l5 (K J : Nat → Nat) (fu : Nat) (F : VF) : Nat → HS → HI → HR → Nat → Int32 → Int32 → Prop
  | 0 => fun _ _ _ _ _ _ => False
  | n + 1 => wL_someActor_b5 K J fu F (wL_someActor_l5 K J fu F n)
theorem vwL_someActor_l5 {l : Launch} {K J : Nat → Nat} {fu : Nat} {F : VF} : ∀ (n : Nat) {sh : HS} {I : HI} {R : HR} {l0 : Nat} {l1 : Int32} {l3 : Int32} {d2 : Option Value} (_ : wL_someActor_l5 K J fu F n sh I R l0 l1 l3), MW l K J 176 5 [some (.ref l0), some (.int l1), d2, some (.int l3)] [] sh I R (0, 0) F := by
  intro n
  induction n with
  | zero => exact fun h0 => h0.elim
  | succ n ih => exact fun h0 => vwL_someActor_b5 ih h0
def wL_someActor (K J : Nat → Nat) (fu : Nat) (sh : HS) (I : HI) (R : HR) (l0 : Nat) (l1 : Int32) (l2 : Int32) (F : VF) : Prop :=
  wB (oM l2 6) fun v1 =>
  (wL_someActor_l5 K J fu F fu) sh I R l0 l1 v1
theorem vwL_someActor {l : Launch} {K J : Nat → Nat} {fu : Nat} {sh : HS} {I : HI} {R : HR} {l0 : Nat} {l1 : Int32} {l2 : Int32} {F : VF} (h0 : wL_someActor K J fu sh I R l0 l1 l2 F) : MW l K J 176 0 (ent (mL 176) [.ref l0, .int l1, .int l2]) [] sh I R (0, 0) F := by
  unfold wL_someActor at h0
  have ml : mL 176 = 4 := by decide +kernel
  rw [ml]
  show MW l K J 176 0 [some (.ref l0), some (.int l1), some (.int l2), none] [] sh I R (0, 0) F
  refine mw_il (i := 2) (pc' := 1) (by decide +kernel) rfl ?_
  refine mw_c (v := 6) (pc' := 3) (by decide +kernel) ?_
  refine mw_rm (by decide +kernel) h0 (fun v1 h1 => ?_); clear h0
  refine mw_is (i := 3) (pc' := 5) (L' := [some (.ref l0), some (.int l1), some (.int l2), some (.int v1)]) (by decide +kernel) rfl rfl ?_
  exact (vwL_someActor_l5 fu) h1
/- ('J8', 'newLength_cabcc') -/
def wJ8_newLength_cabcc_b21 (K J : Nat → Nat) (fu : Nat) (F : VF) (sh : HS) (I : HI) (R : HR) (l0 : Int32) (l1 : Int32) : Prop :=
  False
theorem vwJ8_newLength_cabcc_b21 {l : Launch} {K J : Nat → Nat} {fu : Nat} {F : VF} {sh : HS} {I : HI} {R : HR} {l0 : Int32} {l1 : Int32} {d2 d3 : Option Value} (h0 : wJ8_newLength_cabcc_b21 K J fu F sh I R l0 l1) : MW l K J 214 21 [some (.int l0), some (.int l1), d2, d3] [] sh I R (0, 0) F := by
  unfold wJ8_newLength_cabcc_b21 at h0
  refine mw_il (i := 0) (pc' := 22) (by decide +kernel) rfl ?_
  refine mw_il (i := 1) (pc' := 23) (by decide +kernel) rfl ?_
  exact h0.elim
def wJ8_newLength_cabcc (K J : Nat → Nat) (fu : Nat) (sh : HS) (I : HI) (R : HR) (l0 : Int32) (l1 : Int32) (l2 : Int32) (F : VF) : Prop :=
  if (l0 + (iMax l1 l2)) ≤ (0 : Int32) then
    ((wJ8_newLength_cabcc_b21 K J fu F) sh I R l0 l1)
  else
    (if (2147483639 : Int32) < (l0 + (iMax l1 l2)) then
      ((wJ8_newLength_cabcc_b21 K J fu F) sh I R l0 l1)
    else
      (F (.inl (some (.int (l0 + (iMax l1 l2))))) sh I R))
theorem vwJ8_newLength_cabcc {l : Launch} {K J : Nat → Nat} {fu : Nat} {sh : HS} {I : HI} {R : HR} {l0 : Int32} {l1 : Int32} {l2 : Int32} {F : VF} (h0 : wJ8_newLength_cabcc K J fu sh I R l0 l1 l2 F) : MW l K J 214 0 (ent (mL 214) [.int l0, .int l1, .int l2]) [] sh I R (0, 0) F := by
  unfold wJ8_newLength_cabcc at h0
  have ml : mL 214 = 4 := by decide +kernel
  rw [ml]
  show MW l K J 214 0 [some (.int l0), some (.int l1), some (.int l2), none] [] sh I R (0, 0) F
  refine mw_il (i := 0) (pc' := 1) (by decide +kernel) rfl ?_
  refine mw_il (i := 1) (pc' := 2) (by decide +kernel) rfl ?_
  refine mw_il (i := 2) (pc' := 3) (by decide +kernel) rfl ?_
  refine mw_max (X := 0) (Y := 0) (pc' := 6) (by decide +kernel) ⟨Nat.le_refl _, Nat.le_refl _⟩ rfl ?_
  refine mw_a (ins := .iadd) (pc' := 7) (by decide +kernel) rfl ?_
  refine mw_is (i := 3) (pc' := 8) (L' := [some (.int l0), some (.int l1), some (.int l2), some (.int (l0 + (iMax l1 l2)))]) (by decide +kernel) rfl rfl ?_
  refine mw_c (v := 0) (pc' := 9) (by decide +kernel) ?_
  refine mw_il (i := 3) (pc' := 10) (by decide +kernel) rfl ?_
  refine mw_if (ins := .if_icmp .ge 11) (t := 21) (pc' := 13) (by decide +kernel) rfl rfl rfl h0 (fun p1 h1 => ?_) (fun p1 h1 => ?_) <;> clear h0
  · exact (vwJ8_newLength_cabcc_b21) h1
  · refine mw_il (i := 3) (pc' := 14) (by decide +kernel) rfl ?_
    refine mw_c (v := 2147483639) (pc' := 16) (by decide +kernel) ?_
    refine mw_if (ins := .if_icmp .gt 5) (t := 21) (pc' := 19) (by decide +kernel) rfl rfl rfl h1 (fun p2 h2 => ?_) (fun p2 h2 => ?_) <;> clear h1
    · exact (vwJ8_newLength_cabcc_b21) h2
    · refine mw_il (i := 3) (pc' := 20) (by decide +kernel) rfl ?_
      exact mw_ri (X := 0) (Y := 0) (by decide +kernel) ⟨Nat.le_refl _, Nat.le_refl _⟩ h2
/- ('J7', 'copyOf_6403c') -/
def wJ7_copyOf_6403c (K J : Nat → Nat) (fu : Nat) (sh : HS) (I : HI) (R : HR) (l0 : Nat) (l1 : Int32) (l2 : Nat) (F : VF) : Prop :=
  if (some l2) = (some (J nS)) then
    ((¬ l1 < 0 ∧ l1.toNatClampNeg < 100000) ∧
    (0 + 1 ≤ 1 ∧ 0 + l1.toNatClampNeg ≤ 32) ∧
    wNewR sh R 46 l1.toNatClampNeg fun a1 t1 j1 =>
    wB (oLn t1 l0) fun v3 =>
    ((0 + 1) ≤ 1 ∧ (0 + l1.toNatClampNeg) ≤ 32) ∧
    ((0 + 1) ≤ 1 ∧ (0 + l1.toNatClampNeg) ≤ 32) ∧
    oCr t1 j1 l0 0 a1 0 (iMin v3 l1) fun w6 =>
    ((0 + 1) ≤ 1 ∧ (0 + l1.toNatClampNeg) ≤ 32) ∧
    F (.inl (some (.ref a1))) t1 I w6)
  else
    (False)
theorem vwJ7_copyOf_6403c {l : Launch} {K J : Nat → Nat} {fu : Nat} {sh : HS} {I : HI} {R : HR} {l0 : Nat} {l1 : Int32} {l2 : Nat} {F : VF} (h0 : wJ7_copyOf_6403c K J fu sh I R l0 l1 l2 F) : MW l K J 209 0 (ent (mL 209) [.ref l0, .int l1, .ref l2]) [] sh I R (0, 0) F := by
  unfold wJ7_copyOf_6403c at h0
  have ml : mL 209 = 4 := by decide +kernel
  rw [ml]
  show MW l K J 209 0 [some (.ref l0), some (.int l1), some (.ref l2), none] [] sh I R (0, 0) F
  refine mw_rl (i := 2) (pc' := 1) (by decide +kernel) rfl ?_
  refine mw_ldM (ix := 110) (by decide +kernel) ?_
  refine mw_ane (o := 10) (t := 13) (x := (some l2)) (y := (some (J nS))) (by decide +kernel) h0 (fun p1 h1 => ?_) (fun p1 h1 => ?_) <;> clear h0
  · refine mw_rl (i := 2) (pc' := 14) (by decide +kernel) rfl ?_
    exact h1.elim
  · refine mw_il (i := 1) (pc' := 7) (by decide +kernel) rfl ?_
    obtain ⟨q1, h2⟩ := h1
    obtain ⟨r2, h3⟩ := h2
    refine mw_anw (ix := 2) (v := 0) (X := 1) (Y := 32) (by decide +kernel) (by decide) q1 r2 h3 (fun a1 t1 j1 h4 => ?_); clear h3
    refine mw_go (t := 24) (by decide +kernel) ?_
    refine mw_rs (i := 3) (pc' := 25) (L' := [some (.ref l0), some (.int l1), some (.ref l2), some (.ref a1)]) (by decide +kernel) rfl rfl ?_
    refine mw_rl (i := 0) (pc' := 26) (by decide +kernel) rfl ?_
    refine mw_c (v := 0) (pc' := 27) (by decide +kernel) ?_
    refine mw_rl (i := 3) (pc' := 28) (by decide +kernel) rfl ?_
    refine mw_c (v := 0) (pc' := 29) (by decide +kernel) ?_
    refine mw_rl (i := 0) (pc' := 30) (by decide +kernel) rfl ?_
    refine mw_ln (by decide +kernel) h4 (fun v3 h5 => ?_); clear h4
    refine mw_il (i := 1) (pc' := 32) (by decide +kernel) rfl ?_
    obtain ⟨r4, h6⟩ := h5
    refine mw_min (X := 1) (Y := 32) (pc' := 35) (by decide +kernel) r4 rfl ?_
    obtain ⟨r5, h7⟩ := h6
    refine mw_cpR (ix := 150) (X := 1) (Y := 32) (by decide +kernel) rfl r5 h7 (fun w6 h8 => ?_); clear h7
    refine mw_rl (i := 3) (pc' := 39) (by decide +kernel) rfl ?_
    obtain ⟨r7, h9⟩ := h8
    exact mw_rr (v := some a1) (X := 1) (Y := 32) (by decide +kernel) r7 h9
/- ('J7', 'copyOf_1904c') -/
def wJ7_copyOf_1904c (K J : Nat → Nat) (fu : Nat) (sh : HS) (I : HI) (R : HR) (l0 : Nat) (l1 : Int32) (F : VF) : Prop :=
  (∃ m1, sh l0 = some (46, m1)) ∧
  (0 ≤ 1 ∧ 0 ≤ 32) ∧
  (0 + 1 ≤ 1 ∧ 0 + 32 ≤ 32) ∧
  wJ7_copyOf_6403c K J fu sh I R l0 l1 (J nS) (qwR fun v4 t4 i4 j4 =>
  ((0 + 1) ≤ 1 ∧ (0 + 32) ≤ 32) ∧
  F (.inl (some (.ref v4))) t4 i4 j4)
theorem vwJ7_copyOf_1904c {l : Launch} {K J : Nat → Nat} {fu : Nat} {sh : HS} {I : HI} {R : HR} {l0 : Nat} {l1 : Int32} {F : VF} (h0 : wJ7_copyOf_1904c K J fu sh I R l0 l1 F) : MW l K J 208 0 (ent (mL 208) [.ref l0, .int l1]) [] sh I R (0, 0) F := by
  unfold wJ7_copyOf_1904c at h0
  have ml : mL 208 = 2 := by decide +kernel
  rw [ml]
  show MW l K J 208 0 [some (.ref l0), some (.int l1)] [] sh I R (0, 0) F
  refine mw_rl (i := 0) (pc' := 1) (by decide +kernel) rfl ?_
  refine mw_il (i := 1) (pc' := 2) (by decide +kernel) rfl ?_
  refine mw_rl (i := 0) (pc' := 3) (by decide +kernel) rfl ?_
  obtain ⟨⟨m1, q1⟩, h1⟩ := h0
  obtain ⟨r2, h2⟩ := h1
  refine mw_gcl (ix := 86) (X := 1) (Y := 32) (by decide +kernel) rfl q1 r2 ?_
  obtain ⟨r3, h3⟩ := h2
  refine mwx_R (q := 209) (na := 3) (ce := 1) (sl := 32) (X := 1) (Y := 32) (as := [.ref (J nS), .int l1, .ref l0]) (by decide +kernel) r3 rfl rfl (by rw [show mL 209 = 4 from by decide +kernel]; rfl) rfl (fun z => absurd z (by decide +kernel)) (fun z => absurd z (by decide +kernel)) (vwJ7_copyOf_6403c h3) (fun v4 t4 i4 j4 h4 => ?_); clear h3
  obtain ⟨r5, h5⟩ := h4
  exact mw_rr (v := some v4) (X := 1) (Y := 32) (by decide +kernel) r5 h5
/- ('Jx4a65c', 'grow_92f84') -/
def wJx4a65c_grow_92f84_b20 (K J : Nat → Nat) (fu : Nat) (F : VF) (sh : HS) (I : HI) (R : HR) (c1 : Nat) (c2 : Nat) (l0 : Nat) (l1 : Int32) (l2 : Int32) : Prop :=
  (c1 ≤ 1 ∧ c2 ≤ 32) ∧
  wJ8_newLength_cabcc K J fu sh I R l2 (l1 - l2) (l2 >>> (1 &&& 31)) (qwI fun v4 t4 i4 j4 =>
  wB (oR t4 j4 l0 10 1) fun v5 =>
  (c1 + 1 ≤ 1 ∧ c2 + 32 ≤ 32) ∧
  wJ7_copyOf_1904c K J fu t4 i4 j4 v5 v4 (qwR fun v7 t7 i7 j7 =>
  wB (oQ t7 j7 l0 10 1 v7) fun v8 =>
  ((c1 + 1) ≤ 1 ∧ (c2 + 32) ≤ 32) ∧
  F (.inl (some (.ref v7))) t7 i7 v8))
theorem vwJx4a65c_grow_92f84_b20 {l : Launch} {K J : Nat → Nat} {fu : Nat} {F : VF} {sh : HS} {I : HI} {R : HR} {c1 : Nat} {c2 : Nat} {l0 : Nat} {l1 : Int32} {l2 : Int32} {d3 : Option Value} (h0 : wJx4a65c_grow_92f84_b20 K J fu F sh I R c1 c2 l0 l1 l2) : MW l K J 131 20 [some (.ref l0), some (.int l1), some (.int l2), d3] [] sh I R (c1, c2) F := by
  unfold wJx4a65c_grow_92f84_b20 at h0
  refine mw_il (i := 2) (pc' := 21) (by decide +kernel) rfl ?_
  refine mw_il (i := 1) (pc' := 22) (by decide +kernel) rfl ?_
  refine mw_il (i := 2) (pc' := 23) (by decide +kernel) rfl ?_
  refine mw_a (ins := .isub) (pc' := 24) (by decide +kernel) rfl ?_
  refine mw_il (i := 2) (pc' := 25) (by decide +kernel) rfl ?_
  refine mw_c (v := 1) (pc' := 26) (by decide +kernel) ?_
  refine mw_a (ins := .ishr) (pc' := 27) (by decide +kernel) rfl ?_
  obtain ⟨r3, h1⟩ := h0
  refine mwx_I (q := 214) (na := 3) (ce := 0) (sl := 0) (X := 1) (Y := 32) (as := [.int (l2 >>> (1 &&& 31)), .int (l1 - l2), .int l2]) (by decide +kernel) r3 rfl rfl (by rw [show mL 214 = 4 from by decide +kernel]; rfl) rfl (fun z => absurd z (by decide +kernel)) (fun z => absurd z (by decide +kernel)) (vwJ8_newLength_cabcc h1) (fun v4 t4 i4 j4 h2 => ?_); clear h1
  refine mw_is (i := 3) (pc' := 31) (L' := [some (.ref l0), some (.int l1), some (.int l2), some (.int v4)]) (by decide +kernel) rfl rfl ?_
  refine mw_rl (i := 0) (pc' := 32) (by decide +kernel) rfl ?_
  refine mw_rl (i := 0) (pc' := 33) (by decide +kernel) rfl ?_
  refine mw_fR (ix := 9) (t := 10) (j := 1) (md := 0) (by decide +kernel) h2 (fun v5 h3 => ?_); clear h2
  refine mw_il (i := 3) (pc' := 37) (by decide +kernel) rfl ?_
  obtain ⟨r6, h4⟩ := h3
  refine mwx_R (q := 208) (na := 2) (ce := 1) (sl := 32) (X := 1) (Y := 32) (as := [.int v4, .ref v5]) (by decide +kernel) r6 rfl rfl (by rw [show mL 208 = 2 from by decide +kernel]; rfl) rfl (fun z => absurd z (by decide +kernel)) (fun z => absurd z (by decide +kernel)) (vwJ7_copyOf_1904c h4) (fun v7 t7 i7 j7 h5 => ?_); clear h4
  refine mw_dx (by decide +kernel) rfl rfl ?_
  refine mw_pR (ix := 9) (t := 10) (j := 1) (md := 0) (by decide +kernel) h5 (fun v8 h6 => ?_); clear h5
  obtain ⟨r9, h7⟩ := h6
  exact mw_rr (v := some v7) (X := 1) (Y := 32) (by decide +kernel) r9 h7
def wJx4a65c_grow_92f84 (K J : Nat → Nat) (fu : Nat) (sh : HS) (I : HI) (R : HR) (l0 : Nat) (l1 : Int32) (F : VF) : Prop :=
  wB (oR sh R l0 10 1) fun v1 =>
  wB (oLn sh v1) fun v2 =>
  if 0 < v2 then
    ((wJx4a65c_grow_92f84_b20 K J fu F) sh I R 0 0 l0 l1 v2)
  else
    (wB (oR sh R l0 10 1) fun v10 =>
    if (some v10) = (some (K nS)) then
      ((0 ≤ 1 ∧ 0 ≤ 32) ∧
      (¬ (iMax 10 l1) < 0 ∧ (iMax 10 l1).toNatClampNeg < 100000) ∧
      (0 + 1 ≤ 1 ∧ 0 + (iMax 10 l1).toNatClampNeg ≤ 32) ∧
      wNewR sh R 46 (iMax 10 l1).toNatClampNeg fun a12 t12 j12 =>
      wB (oQ t12 j12 l0 10 1 a12) fun v14 =>
      ((0 + 1) ≤ 1 ∧ (0 + (iMax 10 l1).toNatClampNeg) ≤ 32) ∧
      F (.inl (some (.ref a12))) t12 I v14)
    else
      ((wJx4a65c_grow_92f84_b20 K J fu F) sh I R 0 0 l0 l1 v2))
theorem vwJx4a65c_grow_92f84 {l : Launch} {K J : Nat → Nat} {fu : Nat} {sh : HS} {I : HI} {R : HR} {l0 : Nat} {l1 : Int32} {F : VF} (h0 : wJx4a65c_grow_92f84 K J fu sh I R l0 l1 F) : MW l K J 131 0 (ent (mL 131) [.ref l0, .int l1]) [] sh I R (0, 0) F := by
  unfold wJx4a65c_grow_92f84 at h0
  have ml : mL 131 = 4 := by decide +kernel
  rw [ml]
  show MW l K J 131 0 [some (.ref l0), some (.int l1), none, none] [] sh I R (0, 0) F
  refine mw_rl (i := 0) (pc' := 1) (by decide +kernel) rfl ?_
  refine mw_fR (ix := 9) (t := 10) (j := 1) (md := 0) (by decide +kernel) h0 (fun v1 h1 => ?_); clear h0
  refine mw_ln (by decide +kernel) h1 (fun v2 h2 => ?_); clear h1
  refine mw_is (i := 2) (pc' := 6) (L' := [some (.ref l0), some (.int l1), some (.int v2), none]) (by decide +kernel) rfl rfl ?_
  refine mw_il (i := 2) (pc' := 7) (by decide +kernel) rfl ?_
  refine mw_if (ins := .ifCond .gt 13) (t := 20) (pc' := 10) (by decide +kernel) rfl rfl rfl h2 (fun p3 h3 => ?_) (fun p3 h3 => ?_) <;> clear h2
  · exact (vwJx4a65c_grow_92f84_b20) h3
  · refine mw_rl (i := 0) (pc' := 11) (by decide +kernel) rfl ?_
    refine mw_fR (ix := 9) (t := 10) (j := 1) (md := 0) (by decide +kernel) h3 (fun v10 h4 => ?_); clear h3
    refine mw_gsV (ix := 39) (q := 2) (v := .ref (K nS)) (by decide +kernel) rfl ?_
    refine mw_aeq (o := 28) (t := 45) (x := (some v10)) (y := (some (K nS))) (by decide +kernel) h4 (fun p5 h5 => ?_) (fun p5 h5 => ?_) <;> clear h4
    · refine mw_rl (i := 0) (pc' := 46) (by decide +kernel) rfl ?_
      refine mw_c (v := 10) (pc' := 48) (by decide +kernel) ?_
      refine mw_il (i := 1) (pc' := 49) (by decide +kernel) rfl ?_
      obtain ⟨r11, h6⟩ := h5
      refine mw_max (X := 1) (Y := 32) (pc' := 52) (by decide +kernel) r11 rfl ?_
      obtain ⟨q12, h7⟩ := h6
      obtain ⟨r13, h8⟩ := h7
      refine mw_anw (ix := 7) (v := 0) (X := 1) (Y := 32) (by decide +kernel) (by decide) q12 r13 h8 (fun a12 t12 j12 h9 => ?_); clear h8
      refine mw_dx (by decide +kernel) rfl rfl ?_
      refine mw_pR (ix := 9) (t := 10) (j := 1) (md := 0) (by decide +kernel) h9 (fun v14 h10 => ?_); clear h9
      obtain ⟨r15, h11⟩ := h10
      exact mw_rr (v := some a12) (X := 1) (Y := 32) (by decide +kernel) r15 h11
    · exact (vwJx4a65c_grow_92f84_b20) h5
/- ('Jx4a65c', 'grow_d5877') -/
def wJx4a65c_grow_d5877 (K J : Nat → Nat) (fu : Nat) (sh : HS) (I : HI) (R : HR) (l0 : Nat) (F : VF) : Prop :=
  wB (oI sh I l0 10 2) fun v1 =>
  rcvB sh l0 10 = true ∧
  (0 + 1 ≤ 1 ∧ 0 + 32 ≤ 32) ∧
  wJx4a65c_grow_92f84 K J fu sh I R l0 (v1 + 1) (qwR fun v4 t4 i4 j4 =>
  ((0 + 1) ≤ 1 ∧ (0 + 32) ≤ 32) ∧
  F (.inl (some (.ref v4))) t4 i4 j4)
theorem vwJx4a65c_grow_d5877 {l : Launch} {K J : Nat → Nat} {fu : Nat} {sh : HS} {I : HI} {R : HR} {l0 : Nat} {F : VF} (h0 : wJx4a65c_grow_d5877 K J fu sh I R l0 F) : MW l K J 132 0 (ent (mL 132) [.ref l0]) [] sh I R (0, 0) F := by
  unfold wJx4a65c_grow_d5877 at h0
  have ml : mL 132 = 1 := by decide +kernel
  rw [ml]
  show MW l K J 132 0 [some (.ref l0)] [] sh I R (0, 0) F
  refine mw_rl (i := 0) (pc' := 1) (by decide +kernel) rfl ?_
  refine mw_rl (i := 0) (pc' := 2) (by decide +kernel) rfl ?_
  refine mw_fI (ix := 48) (t := 10) (j := 2) (ty := 0) (md := 0) (by decide +kernel) (by decide) h0 (fun v1 h1 => ?_); clear h0
  refine mw_c (v := 1) (pc' := 6) (by decide +kernel) ?_
  refine mw_a (ins := .iadd) (pc' := 7) (by decide +kernel) rfl ?_
  obtain ⟨q2, h2⟩ := h1
  obtain ⟨r3, h3⟩ := h2
  refine mwx_R (q := 131) (na := 2) (ce := 1) (sl := 32) (X := 1) (Y := 32) (as := [.int (v1 + 1), .ref l0]) (by decide +kernel) r3 rfl rfl (by rw [show mL 131 = 4 from by decide +kernel]; rfl) rfl (fun _ => rv_of q2 (by decide +kernel)) (fun z => absurd z (by decide +kernel)) (vwJx4a65c_grow_92f84 h3) (fun v4 t4 i4 j4 h4 => ?_); clear h3
  obtain ⟨r5, h5⟩ := h4
  exact mw_rr (v := some v4) (X := 1) (Y := 32) (by decide +kernel) r5 h5
/- ('Jx4a65c', 'add_72be8') -/
def wJx4a65c_add_72be8_b11 (K J : Nat → Nat) (fu : Nat) (F : VF) (sh : HS) (I : HI) (R : HR) (c1 : Nat) (c2 : Nat) (l0 : Nat) (l1 : Nat) (l2 : Nat) (l3 : Int32) : Prop :=
  wB (oAs sh R l2 l3 l1) fun v2 =>
  wB (oP sh I l0 10 2 (l3 + 1)) fun v3 =>
  (c1 ≤ 1 ∧ c2 ≤ 32) ∧
  F (.inl none) sh v3 v2
theorem vwJx4a65c_add_72be8_b11 {l : Launch} {K J : Nat → Nat} {fu : Nat} {F : VF} {sh : HS} {I : HI} {R : HR} {c1 : Nat} {c2 : Nat} {l0 : Nat} {l1 : Nat} {l2 : Nat} {l3 : Int32} (h0 : wJx4a65c_add_72be8_b11 K J fu F sh I R c1 c2 l0 l1 l2 l3) : MW l K J 137 11 [some (.ref l0), some (.ref l1), some (.ref l2), some (.int l3)] [] sh I R (c1, c2) F := by
  unfold wJx4a65c_add_72be8_b11 at h0
  refine mw_rl (i := 2) (pc' := 12) (by decide +kernel) rfl ?_
  refine mw_il (i := 3) (pc' := 13) (by decide +kernel) rfl ?_
  refine mw_rl (i := 1) (pc' := 14) (by decide +kernel) rfl ?_
  refine mw_aas (by decide +kernel) h0 (fun v2 h1 => ?_); clear h0
  refine mw_rl (i := 0) (pc' := 16) (by decide +kernel) rfl ?_
  refine mw_il (i := 3) (pc' := 17) (by decide +kernel) rfl ?_
  refine mw_c (v := 1) (pc' := 18) (by decide +kernel) ?_
  refine mw_a (ins := .iadd) (pc' := 19) (by decide +kernel) rfl ?_
  refine mw_pI (ix := 48) (t := 10) (j := 2) (ty := 0) (md := 0) (by decide +kernel) (Or.inl rfl) h1 (fun v3 h2 => ?_); clear h1
  obtain ⟨r4, h3⟩ := h2
  exact mw_rv (X := 1) (Y := 32) (by decide +kernel) r4 h3
def wJx4a65c_add_72be8 (K J : Nat → Nat) (fu : Nat) (sh : HS) (I : HI) (R : HR) (l0 : Nat) (l1 : Nat) (l2 : Nat) (l3 : Int32) (F : VF) : Prop :=
  wB (oLn sh l2) fun v1 =>
  if l3 = v1 then
    (rcvB sh l0 10 = true ∧
    (0 + 1 ≤ 1 ∧ 0 + 32 ≤ 32) ∧
    wJx4a65c_grow_d5877 K J fu sh I R l0 (qwR fun v7 t7 i7 j7 =>
    (wJx4a65c_add_72be8_b11 K J fu F) t7 i7 j7 (0 + 1) (0 + 32) l0 l1 v7 l3))
  else
    ((wJx4a65c_add_72be8_b11 K J fu F) sh I R 0 0 l0 l1 l2 l3)
theorem vwJx4a65c_add_72be8 {l : Launch} {K J : Nat → Nat} {fu : Nat} {sh : HS} {I : HI} {R : HR} {l0 : Nat} {l1 : Nat} {l2 : Nat} {l3 : Int32} {F : VF} (h0 : wJx4a65c_add_72be8 K J fu sh I R l0 l1 l2 l3 F) : MW l K J 137 0 (ent (mL 137) [.ref l0, .ref l1, .ref l2, .int l3]) [] sh I R (0, 0) F := by
  unfold wJx4a65c_add_72be8 at h0
  have ml : mL 137 = 4 := by decide +kernel
  rw [ml]
  show MW l K J 137 0 [some (.ref l0), some (.ref l1), some (.ref l2), some (.int l3)] [] sh I R (0, 0) F
  refine mw_il (i := 3) (pc' := 1) (by decide +kernel) rfl ?_
  refine mw_rl (i := 2) (pc' := 2) (by decide +kernel) rfl ?_
  refine mw_ln (by decide +kernel) h0 (fun v1 h1 => ?_); clear h0
  refine mw_ifn (ins := .if_icmp .ne 8) (t := 11) (pc' := 6) (by decide +kernel) rfl rfl rfl h1 (fun p2 h2 => ?_) (fun p2 h2 => ?_) <;> clear h1
  · exact (vwJx4a65c_add_72be8_b11) h2
  · refine mw_rl (i := 0) (pc' := 7) (by decide +kernel) rfl ?_
    obtain ⟨q5, h3⟩ := h2
    obtain ⟨r6, h4⟩ := h3
    refine mwx_R (q := 132) (na := 1) (ce := 1) (sl := 32) (X := 1) (Y := 32) (as := [.ref l0]) (by decide +kernel) r6 rfl rfl (by rw [show mL 132 = 1 from by decide +kernel]; rfl) rfl (fun _ => rv_of q5 (by decide +kernel)) (fun z => absurd z (by decide +kernel)) (vwJx4a65c_grow_d5877 h4) (fun v7 t7 i7 j7 h5 => ?_); clear h4
    refine mw_rs (i := 2) (pc' := 11) (L' := [some (.ref l0), some (.ref l1), some (.ref v7), some (.int l3)]) (by decide +kernel) rfl rfl ?_
    exact (vwJx4a65c_add_72be8_b11) h5
/- ('Jx4a65c', 'add_9ea2d') -/
def wJx4a65c_add_9ea2d (K J : Nat → Nat) (fu : Nat) (sh : HS) (I : HI) (R : HR) (l0 : Nat) (l1 : Nat) (F : VF) : Prop :=
  wB (oI sh I l0 10 0) fun v1 =>
  wB (oP sh I l0 10 0 (v1 + 1)) fun v2 =>
  wB (oR sh R l0 10 1) fun v3 =>
  wB (oI sh v2 l0 10 2) fun v4 =>
  rcvB sh l0 10 = true ∧
  (0 + 1 ≤ 1 ∧ 0 + 32 ≤ 32) ∧
  wJx4a65c_add_72be8 K J fu sh v2 R l0 l1 v3 v4 (qwV fun t7 i7 j7 =>
  ((0 + 1) ≤ 1 ∧ (0 + 32) ≤ 32) ∧
  F (.inl (some (.int 1))) t7 i7 j7)
theorem vwJx4a65c_add_9ea2d {l : Launch} {K J : Nat → Nat} {fu : Nat} {sh : HS} {I : HI} {R : HR} {l0 : Nat} {l1 : Nat} {F : VF} (h0 : wJx4a65c_add_9ea2d K J fu sh I R l0 l1 F) : MW l K J 138 0 (ent (mL 138) [.ref l0, .ref l1]) [] sh I R (0, 0) F := by
  unfold wJx4a65c_add_9ea2d at h0
  have ml : mL 138 = 2 := by decide +kernel
  rw [ml]
  show MW l K J 138 0 [some (.ref l0), some (.ref l1)] [] sh I R (0, 0) F
  refine mw_rl (i := 0) (pc' := 1) (by decide +kernel) rfl ?_
  refine mw_a (ins := .dup) (pc' := 2) (by decide +kernel) rfl ?_
  refine mw_fI (ix := 63) (t := 10) (j := 0) (ty := 0) (md := 2) (by decide +kernel) (by decide) h0 (fun v1 h1 => ?_); clear h0
  refine mw_c (v := 1) (pc' := 6) (by decide +kernel) ?_
  refine mw_a (ins := .iadd) (pc' := 7) (by decide +kernel) rfl ?_
  refine mw_pI (ix := 63) (t := 10) (j := 0) (ty := 0) (md := 2) (by decide +kernel) (Or.inl rfl) h1 (fun v2 h2 => ?_); clear h1
  refine mw_rl (i := 0) (pc' := 11) (by decide +kernel) rfl ?_
  refine mw_rl (i := 1) (pc' := 12) (by decide +kernel) rfl ?_
  refine mw_rl (i := 0) (pc' := 13) (by decide +kernel) rfl ?_
  refine mw_fR (ix := 9) (t := 10) (j := 1) (md := 0) (by decide +kernel) h2 (fun v3 h3 => ?_); clear h2
  refine mw_rl (i := 0) (pc' := 17) (by decide +kernel) rfl ?_
  refine mw_fI (ix := 48) (t := 10) (j := 2) (ty := 0) (md := 0) (by decide +kernel) (by decide) h3 (fun v4 h4 => ?_); clear h3
  obtain ⟨q5, h5⟩ := h4
  obtain ⟨r6, h6⟩ := h5
  refine mwx_V (q := 137) (na := 4) (ce := 1) (sl := 32) (X := 1) (Y := 32) (as := [.int v4, .ref v3, .ref l1, .ref l0]) (by decide +kernel) r6 rfl rfl (by rw [show mL 137 = 4 from by decide +kernel]; rfl) rfl (fun _ => rv_of q5 (by decide +kernel)) (fun z => absurd z (by decide +kernel)) (vwJx4a65c_add_72be8 h6) (fun t7 i7 j7 h7 => ?_); clear h6
  refine mw_c (v := 1) (pc' := 24) (by decide +kernel) ?_
  obtain ⟨r8, h8⟩ := h7
  exact mw_rz (X := 1) (Y := 32) (by decide +kernel) (by decide) r8 h8
/- ('L', 'addShot') -/
def wL_addShot_b135 (K J : Nat → Nat) (fu : Nat) (F : VF) (sh : HS) (I : HI) (R : HR) (c1 : Nat) (c2 : Nat) (l3 : Int32) (s0 : Int32) (s1 : Int32) (s2 : Nat) (s3 : Nat) (s4 : Nat) : Prop :=
  wB (oS sh I s2 s1 s0) fun v21 =>
  wB (oD l3 24) fun v22 =>
  wB (oM v22 99) fun v23 =>
  wB (oS sh v21 s3 5 (1 + v23)) fun v24 =>
  rcvB sh s4 10 = true ∧
  (c1 + 1 ≤ 2 ∧ c2 + 32 ≤ 38) ∧
  wJx4a65c_add_9ea2d K J fu sh v24 R s4 s3 (qwI fun v27 t27 i27 j27 =>
  ((c1 + 1) ≤ 2 ∧ (c2 + 32) ≤ 38) ∧
  F (.inl none) t27 i27 j27)
theorem vwL_addShot_b135 {l : Launch} {K J : Nat → Nat} {fu : Nat} {F : VF} {sh : HS} {I : HI} {R : HR} {c1 : Nat} {c2 : Nat} {l3 : Int32} {s0 : Int32} {s1 : Int32} {s2 : Nat} {s3 : Nat} {s4 : Nat} {d0 d1 d2 d4 d5 d6 d7 : Option Value} (h0 : wL_addShot_b135 K J fu F sh I R c1 c2 l3 s0 s1 s2 s3 s4) : MW l K J 177 135 [d0, d1, d2, some (.int l3), d4, d5, d6, d7] [.int s0, .int s1, .ref s2, .ref s3, .ref s4] sh I R (c1, c2) F := by
  unfold wL_addShot_b135 at h0
  refine mw_ast (by decide +kernel) h0 (fun v21 h1 => ?_); clear h0
  refine mw_a (ins := .dup) (pc' := 137) (by decide +kernel) rfl ?_
  refine mw_c (v := 5) (pc' := 138) (by decide +kernel) ?_
  refine mw_c (v := 1) (pc' := 139) (by decide +kernel) ?_
  refine mw_il (i := 3) (pc' := 140) (by decide +kernel) rfl ?_
  refine mw_c (v := 24) (pc' := 142) (by decide +kernel) ?_
  refine mw_dv (by decide +kernel) h1 (fun v22 h2 => ?_); clear h1
  refine mw_c (v := 99) (pc' := 145) (by decide +kernel) ?_
  refine mw_rm (by decide +kernel) h2 (fun v23 h3 => ?_); clear h2
  refine mw_a (ins := .iadd) (pc' := 147) (by decide +kernel) rfl ?_
  refine mw_ast (by decide +kernel) h3 (fun v24 h4 => ?_); clear h3
  obtain ⟨q25, h5⟩ := h4
  obtain ⟨r26, h6⟩ := h5
  refine mwx_I (q := 138) (na := 2) (ce := 1) (sl := 32) (X := 2) (Y := 38) (as := [.ref s3, .ref s4]) (by decide +kernel) r26 rfl rfl (by rw [show mL 138 = 2 from by decide +kernel]; rfl) rfl (fun _ => rv_of q25 (by decide +kernel)) (fun z => absurd z (by decide +kernel)) (vwJx4a65c_add_9ea2d h6) (fun v27 t27 i27 j27 h7 => ?_); clear h6
  refine mw_pop (by decide +kernel) rfl ?_
  obtain ⟨r28, h8⟩ := h7
  exact mw_rv (X := 2) (Y := 38) (by decide +kernel) r28 h8
def wL_addShot_b129 (K J : Nat → Nat) (fu : Nat) (F : VF) (sh : HS) (I : HI) (R : HR) (c1 : Nat) (c2 : Nat) (l3 : Int32) (s0 : Int32) (s1 : Nat) (s2 : Nat) (s3 : Nat) : Prop :=
  (wL_addShot_b135 K J fu F) sh I R c1 c2 l3 (-1) s0 s1 s2 s3
theorem vwL_addShot_b129 {l : Launch} {K J : Nat → Nat} {fu : Nat} {F : VF} {sh : HS} {I : HI} {R : HR} {c1 : Nat} {c2 : Nat} {l3 : Int32} {s0 : Int32} {s1 : Nat} {s2 : Nat} {s3 : Nat} {d0 d1 d2 d4 d5 d6 d7 : Option Value} (h0 : wL_addShot_b129 K J fu F sh I R c1 c2 l3 s0 s1 s2 s3) : MW l K J 177 129 [d0, d1, d2, some (.int l3), d4, d5, d6, d7] [.int s0, .ref s1, .ref s2, .ref s3] sh I R (c1, c2) F := by
  unfold wL_addShot_b129 at h0
  refine mw_c (v := (-1)) (pc' := 130) (by decide +kernel) ?_
  refine mw_go (t := 135) (by decide +kernel) ?_
  exact (vwL_addShot_b135) h0
def wL_addShot_b84 (K J : Nat → Nat) (fu : Nat) (F : VF) (sh : HS) (I : HI) (R : HR) (c1 : Nat) (c2 : Nat) (l0 : Nat) (l1 : Int32) (l3 : Int32) (l4 : Int32) (l5 : Int32) (l6 : Int32) (l7 : Int32) : Prop :=
  wB (oR sh R l0 9 3) fun v14 =>
  (¬ (6 : Int32) < 0 ∧ (6 : Int32).toNatClampNeg < 100000) ∧
  (c1 + 1 ≤ 2 ∧ c2 + (6 : Int32).toNatClampNeg ≤ 38) ∧
  wNewI sh I 20 (6 : Int32).toNatClampNeg fun a15 t15 i15 =>
  wB (oS t15 i15 a15 0 l1) fun v17 =>
  wB (oS t15 v17 a15 1 l4) fun v18 =>
  wB (oS t15 v18 a15 2 l5) fun v19 =>
  wB (oS t15 v19 a15 3 l6) fun v20 =>
  if l7 = l6 then
    ((wL_addShot_b129 K J fu F) t15 v20 R (c1 + 1) (c2 + (6 : Int32).toNatClampNeg) l3 4 a15 a15 v14)
  else
    (wB (oD l3 6) fun v29 =>
    wB (oM v29 4) fun v30 =>
    if v30 = 0 then
      ((wL_addShot_b129 K J fu F) t15 v20 R (c1 + 1) (c2 + (6 : Int32).toNatClampNeg) l3 4 a15 a15 v14)
    else
      ((wL_addShot_b135 K J fu F) t15 v20 R (c1 + 1) (c2 + (6 : Int32).toNatClampNeg) l3 l7 4 a15 a15 v14))
theorem vwL_addShot_b84 {l : Launch} {K J : Nat → Nat} {fu : Nat} {F : VF} {sh : HS} {I : HI} {R : HR} {c1 : Nat} {c2 : Nat} {l0 : Nat} {l1 : Int32} {l3 : Int32} {l4 : Int32} {l5 : Int32} {l6 : Int32} {l7 : Int32} {d2 : Option Value} (h0 : wL_addShot_b84 K J fu F sh I R c1 c2 l0 l1 l3 l4 l5 l6 l7) : MW l K J 177 84 [some (.ref l0), some (.int l1), d2, some (.int l3), some (.int l4), some (.int l5), some (.int l6), some (.int l7)] [] sh I R (c1, c2) F := by
  unfold wL_addShot_b84 at h0
  refine mw_rl (i := 0) (pc' := 85) (by decide +kernel) rfl ?_
  refine mw_fR (ix := 48) (t := 9) (j := 3) (md := 1) (by decide +kernel) h0 (fun v14 h1 => ?_); clear h0
  refine mw_c (v := 6) (pc' := 90) (by decide +kernel) ?_
  obtain ⟨q15, h2⟩ := h1
  obtain ⟨r16, h3⟩ := h2
  refine mw_nwi (X := 2) (Y := 38) (by decide +kernel) q15 r16 h3 (fun a15 t15 i15 h4 => ?_); clear h3
  refine mw_a (ins := .dup) (pc' := 93) (by decide +kernel) rfl ?_
  refine mw_c (v := 0) (pc' := 94) (by decide +kernel) ?_
  refine mw_il (i := 1) (pc' := 95) (by decide +kernel) rfl ?_
  refine mw_ast (by decide +kernel) h4 (fun v17 h5 => ?_); clear h4
  refine mw_a (ins := .dup) (pc' := 97) (by decide +kernel) rfl ?_
  refine mw_c (v := 1) (pc' := 98) (by decide +kernel) ?_
  refine mw_il (i := 4) (pc' := 100) (by decide +kernel) rfl ?_
  refine mw_ast (by decide +kernel) h5 (fun v18 h6 => ?_); clear h5
  refine mw_a (ins := .dup) (pc' := 102) (by decide +kernel) rfl ?_
  refine mw_c (v := 2) (pc' := 103) (by decide +kernel) ?_
  refine mw_il (i := 5) (pc' := 105) (by decide +kernel) rfl ?_
  refine mw_ast (by decide +kernel) h6 (fun v19 h7 => ?_); clear h6
  refine mw_a (ins := .dup) (pc' := 107) (by decide +kernel) rfl ?_
  refine mw_c (v := 3) (pc' := 108) (by decide +kernel) ?_
  refine mw_il (i := 6) (pc' := 110) (by decide +kernel) rfl ?_
  refine mw_ast (by decide +kernel) h7 (fun v20 h8 => ?_); clear h7
  refine mw_a (ins := .dup) (pc' := 112) (by decide +kernel) rfl ?_
  refine mw_c (v := 4) (pc' := 113) (by decide +kernel) ?_
  refine mw_il (i := 7) (pc' := 115) (by decide +kernel) rfl ?_
  refine mw_il (i := 6) (pc' := 117) (by decide +kernel) rfl ?_
  refine mw_if (ins := .if_icmp .eq 12) (t := 129) (pc' := 120) (by decide +kernel) rfl rfl rfl h8 (fun p9 h9 => ?_) (fun p9 h9 => ?_) <;> clear h8
  · exact (vwL_addShot_b129) h9
  · refine mw_il (i := 3) (pc' := 121) (by decide +kernel) rfl ?_
    refine mw_c (v := 6) (pc' := 123) (by decide +kernel) ?_
    refine mw_dv (by decide +kernel) h9 (fun v29 h10 => ?_); clear h9
    refine mw_c (v := 4) (pc' := 125) (by decide +kernel) ?_
    refine mw_rm (by decide +kernel) h10 (fun v30 h11 => ?_); clear h10
    refine mw_ifn (ins := .ifCond .ne 7) (t := 133) (pc' := 129) (by decide +kernel) rfl rfl rfl h11 (fun p12 h12 => ?_) (fun p12 h12 => ?_) <;> clear h11
    · refine mw_il (i := 7) (pc' := 135) (by decide +kernel) rfl ?_
      exact (vwL_addShot_b135) h12
    · exact (vwL_addShot_b129) h12
def wL_addShot (K J : Nat → Nat) (fu : Nat) (sh : HS) (I : HI) (R : HR) (l0 : Nat) (l1 : Int32) (l2 : Int32) (l3 : Int32) (F : VF) : Prop :=
  wB (oM l2 12) fun v1 =>
  wB (oD l2 12) fun v2 =>
  wB (oM v2 12) fun v3 =>
  wB (oD l2 144) fun v4 =>
  wB (oM v4 6) fun v5 =>
  (0 ≤ 2 ∧ 0 ≤ 38) ∧
  wL_someActor K J fu sh I R l0 l1 v5 (qwI fun v7 t7 i7 j7 =>
  wB (oM l3 6) fun v8 =>
  (0 ≤ 2 ∧ 0 ≤ 38) ∧
  wL_someActor K J fu t7 i7 j7 l0 l1 v8 (qwI fun v10 t10 i10 j10 =>
  wB (oR t10 j10 l0 9 5) fun v11 =>
  wB (oAr t10 j10 v11 45 l1) fun v12 =>
  wB (oA2 t10 i10 v12 v7) fun v13 =>
  if v13 = (30 + (10 * v1)) then
    (wB (oR t10 j10 l0 9 6) fun v31 =>
    wB (oAr t10 j10 v31 45 l1) fun v32 =>
    wB (oA2 t10 i10 v32 v7) fun v33 =>
    if v33 = (30 + (10 * v3)) then
      ((wL_addShot_b84 K J fu F) t10 i10 j10 0 0 l0 l1 l3 ((30 + (10 * v1)) + 5) (30 + (10 * v3)) v7 v10)
    else
      ((wL_addShot_b84 K J fu F) t10 i10 j10 0 0 l0 l1 l3 (30 + (10 * v1)) (30 + (10 * v3)) v7 v10))
  else
    ((wL_addShot_b84 K J fu F) t10 i10 j10 0 0 l0 l1 l3 (30 + (10 * v1)) (30 + (10 * v3)) v7 v10)))
theorem vwL_addShot {l : Launch} {K J : Nat → Nat} {fu : Nat} {sh : HS} {I : HI} {R : HR} {l0 : Nat} {l1 : Int32} {l2 : Int32} {l3 : Int32} {F : VF} (h0 : wL_addShot K J fu sh I R l0 l1 l2 l3 F) : MW l K J 177 0 (ent (mL 177) [.ref l0, .int l1, .int l2, .int l3]) [] sh I R (0, 0) F := by
  unfold wL_addShot at h0
  have ml : mL 177 = 8 := by decide +kernel
  rw [ml]
  show MW l K J 177 0 [some (.ref l0), some (.int l1), some (.int l2), some (.int l3), none, none, none, none] [] sh I R (0, 0) F
  refine mw_c (v := 30) (pc' := 2) (by decide +kernel) ?_
  refine mw_c (v := 10) (pc' := 4) (by decide +kernel) ?_
  refine mw_il (i := 2) (pc' := 5) (by decide +kernel) rfl ?_
  refine mw_c (v := 12) (pc' := 7) (by decide +kernel) ?_
  refine mw_rm (by decide +kernel) h0 (fun v1 h1 => ?_); clear h0
  refine mw_a (ins := .imul) (pc' := 9) (by decide +kernel) rfl ?_
  refine mw_a (ins := .iadd) (pc' := 10) (by decide +kernel) rfl ?_
  refine mw_is (i := 4) (pc' := 12) (L' := [some (.ref l0), some (.int l1), some (.int l2), some (.int l3), some (.int (30 + (10 * v1))), none, none, none]) (by decide +kernel) rfl rfl ?_
  refine mw_c (v := 30) (pc' := 14) (by decide +kernel) ?_
  refine mw_c (v := 10) (pc' := 16) (by decide +kernel) ?_
  refine mw_il (i := 2) (pc' := 17) (by decide +kernel) rfl ?_
  refine mw_c (v := 12) (pc' := 19) (by decide +kernel) ?_
  refine mw_dv (by decide +kernel) h1 (fun v2 h2 => ?_); clear h1
  refine mw_c (v := 12) (pc' := 22) (by decide +kernel) ?_
  refine mw_rm (by decide +kernel) h2 (fun v3 h3 => ?_); clear h2
  refine mw_a (ins := .imul) (pc' := 24) (by decide +kernel) rfl ?_
  refine mw_a (ins := .iadd) (pc' := 25) (by decide +kernel) rfl ?_
  refine mw_is (i := 5) (pc' := 27) (L' := [some (.ref l0), some (.int l1), some (.int l2), some (.int l3), some (.int (30 + (10 * v1))), some (.int (30 + (10 * v3))), none, none]) (by decide +kernel) rfl rfl ?_
  refine mw_rl (i := 0) (pc' := 28) (by decide +kernel) rfl ?_
  refine mw_il (i := 1) (pc' := 29) (by decide +kernel) rfl ?_
  refine mw_il (i := 2) (pc' := 30) (by decide +kernel) rfl ?_
  refine mw_c (v := 144) (pc' := 33) (by decide +kernel) ?_
  refine mw_dv (by decide +kernel) h3 (fun v4 h4 => ?_); clear h3
  refine mw_c (v := 6) (pc' := 36) (by decide +kernel) ?_
  refine mw_rm (by decide +kernel) h4 (fun v5 h5 => ?_); clear h4
  obtain ⟨r6, h6⟩ := h5
  refine mwx_I (q := 176) (na := 3) (ce := 0) (sl := 0) (X := 2) (Y := 38) (as := [.int v5, .int l1, .ref l0]) (by decide +kernel) r6 rfl rfl (by rw [show mL 176 = 4 from by decide +kernel]; rfl) rfl (fun z => absurd z (by decide +kernel)) (fun z => absurd z (by decide +kernel)) (vwL_someActor h6) (fun v7 t7 i7 j7 h7 => ?_); clear h6
  refine mw_is (i := 6) (pc' := 42) (L' := [some (.ref l0), some (.int l1), some (.int l2), some (.int l3), some (.int (30 + (10 * v1))), some (.int (30 + (10 * v3))), some (.int v7), none]) (by decide +kernel) rfl rfl ?_
  refine mw_rl (i := 0) (pc' := 43) (by decide +kernel) rfl ?_
  refine mw_il (i := 1) (pc' := 44) (by decide +kernel) rfl ?_
  refine mw_il (i := 3) (pc' := 45) (by decide +kernel) rfl ?_
  refine mw_c (v := 6) (pc' := 47) (by decide +kernel) ?_
  refine mw_rm (by decide +kernel) h7 (fun v8 h8 => ?_); clear h7
  obtain ⟨r9, h9⟩ := h8
  refine mwx_I (q := 176) (na := 3) (ce := 0) (sl := 0) (X := 2) (Y := 38) (as := [.int v8, .int l1, .ref l0]) (by decide +kernel) r9 rfl rfl (by rw [show mL 176 = 4 from by decide +kernel]; rfl) rfl (fun z => absurd z (by decide +kernel)) (fun z => absurd z (by decide +kernel)) (vwL_someActor h9) (fun v10 t10 i10 j10 h10 => ?_); clear h9
  refine mw_is (i := 7) (pc' := 53) (L' := [some (.ref l0), some (.int l1), some (.int l2), some (.int l3), some (.int (30 + (10 * v1))), some (.int (30 + (10 * v3))), some (.int v7), some (.int v10)]) (by decide +kernel) rfl rfl ?_
  refine mw_rl (i := 0) (pc' := 54) (by decide +kernel) rfl ?_
  refine mw_fR (ix := 34) (t := 9) (j := 5) (md := 1) (by decide +kernel) h10 (fun v11 h11 => ?_); clear h10
  refine mw_il (i := 1) (pc' := 58) (by decide +kernel) rfl ?_
  refine mw_aal (t := 45) (by decide +kernel) (by decide) h11 (fun v12 h12 => ?_); clear h11
  refine mw_il (i := 6) (pc' := 61) (by decide +kernel) rfl ?_
  refine mw_al (by decide +kernel) h12 (fun v13 h13 => ?_); clear h12
  refine mw_il (i := 4) (pc' := 64) (by decide +kernel) rfl ?_
  refine mw_ifn (ins := .if_icmp .ne 20) (t := 84) (pc' := 67) (by decide +kernel) rfl rfl rfl h13 (fun p14 h14 => ?_) (fun p14 h14 => ?_) <;> clear h13
  · exact (vwL_addShot_b84) h14
  · refine mw_rl (i := 0) (pc' := 68) (by decide +kernel) rfl ?_
    refine mw_fR (ix := 37) (t := 9) (j := 6) (md := 1) (by decide +kernel) h14 (fun v31 h15 => ?_); clear h14
    refine mw_il (i := 1) (pc' := 72) (by decide +kernel) rfl ?_
    refine mw_aal (t := 45) (by decide +kernel) (by decide) h15 (fun v32 h16 => ?_); clear h15
    refine mw_il (i := 6) (pc' := 75) (by decide +kernel) rfl ?_
    refine mw_al (by decide +kernel) h16 (fun v33 h17 => ?_); clear h16
    refine mw_il (i := 5) (pc' := 78) (by decide +kernel) rfl ?_
    refine mw_ifn (ins := .if_icmp .ne 6) (t := 84) (pc' := 81) (by decide +kernel) rfl rfl rfl h17 (fun p18 h18 => ?_) (fun p18 h18 => ?_) <;> clear h17
    · exact (vwL_addShot_b84) h18
    · refine mw_inc (i := 4) (z := 5) (pc' := 84) (L' := [some (.ref l0), some (.int l1), some (.int l2), some (.int l3), some (.int ((30 + (10 * v1)) + 5)), some (.int (30 + (10 * v3))), some (.int v7), some (.int v10)]) (by decide +kernel) rfl rfl rfl ?_
      exact (vwL_addShot_b84) h18
/- ('L', 'drawn') -/
def wL_drawn_b238 (K J : Nat → Nat) (fu : Nat) (F : VF) (k121 : HS → HI → HR → Nat → Nat → Nat → Nat → Int32 → Int32 → Int32 → Int32 → Int32 → Prop) (k245 : HS → HI → HR → Nat → Nat → Nat → Nat → Int32 → Int32 → Int32 → Int32 → Prop) (sh : HS) (I : HI) (R : HR) (c1 : Nat) (c2 : Nat) (l0 : Nat) (l1 : Nat) (l3 : Int32) (l4 : Int32) (l5 : Int32) (l6 : Int32) (l7 : Int32) (s0 : Int32) (s1 : Int32) (s2 : Nat) : Prop :=
  wB (oS sh I s2 s1 s0) fun v41 =>
  k121 sh v41 R c1 c2 l0 l1 l3 l4 l5 l6 (l7 + 1)
theorem vwL_drawn_b238 {l : Launch} {K J : Nat → Nat} {fu : Nat} {F : VF} {k121 : HS → HI → HR → Nat → Nat → Nat → Nat → Int32 → Int32 → Int32 → Int32 → Int32 → Prop} {k245 : HS → HI → HR → Nat → Nat → Nat → Nat → Int32 → Int32 → Int32 → Int32 → Prop} (hk121 : ∀ {sh : HS} {I : HI} {R : HR} {c1 : Nat} {c2 : Nat} {l0 : Nat} {l1 : Nat} {l3 : Int32} {l4 : Int32} {l5 : Int32} {l6 : Int32} {l7 : Int32} {d2 d8 d9 : Option Value}, k121 sh I R c1 c2 l0 l1 l3 l4 l5 l6 l7 → MW l K J 175 121 [some (.ref l0), some (.ref l1), d2, some (.int l3), some (.int l4), some (.int l5), some (.int l6), some (.int l7), d8, d9] [] sh I R (c1, c2) F) (hk245 : ∀ {sh : HS} {I : HI} {R : HR} {c1 : Nat} {c2 : Nat} {l0 : Nat} {l1 : Nat} {l3 : Int32} {l4 : Int32} {l5 : Int32} {l6 : Int32} {d2 d7 d8 d9 : Option Value}, k245 sh I R c1 c2 l0 l1 l3 l4 l5 l6 → MW l K J 175 245 [some (.ref l0), some (.ref l1), d2, some (.int l3), some (.int l4), some (.int l5), some (.int l6), d7, d8, d9] [] sh I R (c1, c2) F) {sh : HS} {I : HI} {R : HR} {c1 : Nat} {c2 : Nat} {l0 : Nat} {l1 : Nat} {l3 : Int32} {l4 : Int32} {l5 : Int32} {l6 : Int32} {l7 : Int32} {s0 : Int32} {s1 : Int32} {s2 : Nat} {d2 d8 d9 : Option Value} (h0 : wL_drawn_b238 K J fu F k121 k245 sh I R c1 c2 l0 l1 l3 l4 l5 l6 l7 s0 s1 s2) : MW l K J 175 238 [some (.ref l0), some (.ref l1), d2, some (.int l3), some (.int l4), some (.int l5), some (.int l6), some (.int l7), d8, d9] [.int s0, .int s1, .ref s2] sh I R (c1, c2) F := by
  unfold wL_drawn_b238 at h0
  refine mw_ast (by decide +kernel) h0 (fun v41 h1 => ?_); clear h0
  refine mw_inc (i := 7) (z := 1) (pc' := 242) (L' := [some (.ref l0), some (.ref l1), d2, some (.int l3), some (.int l4), some (.int l5), some (.int l6), some (.int (l7 + 1)), d8, d9]) (by decide +kernel) rfl rfl rfl ?_
  refine mw_go (t := 121) (by decide +kernel) ?_
  exact hk121 h1
def wL_drawn_b205 (K J : Nat → Nat) (fu : Nat) (F : VF) (k121 : HS → HI → HR → Nat → Nat → Nat → Nat → Int32 → Int32 → Int32 → Int32 → Int32 → Prop) (k245 : HS → HI → HR → Nat → Nat → Nat → Nat → Int32 → Int32 → Int32 → Int32 → Prop) (sh : HS) (I : HI) (R : HR) (c1 : Nat) (c2 : Nat) (l0 : Nat) (l1 : Nat) (l3 : Int32) (l4 : Int32) (l5 : Int32) (l6 : Int32) (l7 : Int32) (l8 : Int32) (l9 : Int32) (s0 : Int32) (s1 : Int32) (s2 : Nat) : Prop :=
  wB (oS sh I s2 s1 s0) fun v38 =>
  wB (oR sh R l1 9 6) fun v39 =>
  wB (oAr sh R v39 45 l5) fun v40 =>
  if l8 = 0 then
    ((wL_drawn_b238 K J fu F k121 k245) sh v38 R c1 c2 l0 l1 l3 l4 l5 l6 l7 (-1) l7 v40)
  else
    (wB (oD l9 9) fun v42 =>
    wB (oM v42 9) fun v43 =>
    (wL_drawn_b238 K J fu F k121 k245) sh v38 R c1 c2 l0 l1 l3 l4 l5 l6 l7 (40 + (10 * v43)) l7 v40)
theorem vwL_drawn_b205 {l : Launch} {K J : Nat → Nat} {fu : Nat} {F : VF} {k121 : HS → HI → HR → Nat → Nat → Nat → Nat → Int32 → Int32 → Int32 → Int32 → Int32 → Prop} {k245 : HS → HI → HR → Nat → Nat → Nat → Nat → Int32 → Int32 → Int32 → Int32 → Prop} (hk121 : ∀ {sh : HS} {I : HI} {R : HR} {c1 : Nat} {c2 : Nat} {l0 : Nat} {l1 : Nat} {l3 : Int32} {l4 : Int32} {l5 : Int32} {l6 : Int32} {l7 : Int32} {d2 d8 d9 : Option Value}, k121 sh I R c1 c2 l0 l1 l3 l4 l5 l6 l7 → MW l K J 175 121 [some (.ref l0), some (.ref l1), d2, some (.int l3), some (.int l4), some (.int l5), some (.int l6), some (.int l7), d8, d9] [] sh I R (c1, c2) F) (hk245 : ∀ {sh : HS} {I : HI} {R : HR} {c1 : Nat} {c2 : Nat} {l0 : Nat} {l1 : Nat} {l3 : Int32} {l4 : Int32} {l5 : Int32} {l6 : Int32} {d2 d7 d8 d9 : Option Value}, k245 sh I R c1 c2 l0 l1 l3 l4 l5 l6 → MW l K J 175 245 [some (.ref l0), some (.ref l1), d2, some (.int l3), some (.int l4), some (.int l5), some (.int l6), d7, d8, d9] [] sh I R (c1, c2) F) {sh : HS} {I : HI} {R : HR} {c1 : Nat} {c2 : Nat} {l0 : Nat} {l1 : Nat} {l3 : Int32} {l4 : Int32} {l5 : Int32} {l6 : Int32} {l7 : Int32} {l8 : Int32} {l9 : Int32} {s0 : Int32} {s1 : Int32} {s2 : Nat} {d2 : Option Value} (h0 : wL_drawn_b205 K J fu F k121 k245 sh I R c1 c2 l0 l1 l3 l4 l5 l6 l7 l8 l9 s0 s1 s2) : MW l K J 175 205 [some (.ref l0), some (.ref l1), d2, some (.int l3), some (.int l4), some (.int l5), some (.int l6), some (.int l7), some (.int l8), some (.int l9)] [.int s0, .int s1, .ref s2] sh I R (c1, c2) F := by
  unfold wL_drawn_b205 at h0
  refine mw_ast (by decide +kernel) h0 (fun v38 h1 => ?_); clear h0
  refine mw_rl (i := 1) (pc' := 207) (by decide +kernel) rfl ?_
  refine mw_fR (ix := 37) (t := 9) (j := 6) (md := 1) (by decide +kernel) h1 (fun v39 h2 => ?_); clear h1
  refine mw_il (i := 5) (pc' := 212) (by decide +kernel) rfl ?_
  refine mw_aal (t := 45) (by decide +kernel) (by decide) h2 (fun v40 h3 => ?_); clear h2
  refine mw_il (i := 7) (pc' := 215) (by decide +kernel) rfl ?_
  refine mw_il (i := 8) (pc' := 217) (by decide +kernel) rfl ?_
  refine mw_if (ins := .ifCond .eq 20) (t := 237) (pc' := 220) (by decide +kernel) rfl rfl rfl h3 (fun p4 h4 => ?_) (fun p4 h4 => ?_) <;> clear h3
  · refine mw_c (v := (-1)) (pc' := 238) (by decide +kernel) ?_
    exact (vwL_drawn_b238 hk121 hk245) h4
  · refine mw_c (v := 40) (pc' := 222) (by decide +kernel) ?_
    refine mw_c (v := 10) (pc' := 224) (by decide +kernel) ?_
    refine mw_il (i := 9) (pc' := 226) (by decide +kernel) rfl ?_
    refine mw_c (v := 9) (pc' := 228) (by decide +kernel) ?_
    refine mw_dv (by decide +kernel) h4 (fun v42 h5 => ?_); clear h4
    refine mw_c (v := 9) (pc' := 231) (by decide +kernel) ?_
    refine mw_rm (by decide +kernel) h5 (fun v43 h6 => ?_); clear h5
    refine mw_a (ins := .imul) (pc' := 233) (by decide +kernel) rfl ?_
    refine mw_a (ins := .iadd) (pc' := 234) (by decide +kernel) rfl ?_
    refine mw_go (t := 238) (by decide +kernel) ?_
    exact (vwL_drawn_b238 hk121 hk245) h6
def wL_drawn_b163 (K J : Nat → Nat) (fu : Nat) (F : VF) (k121 : HS → HI → HR → Nat → Nat → Nat → Nat → Int32 → Int32 → Int32 → Int32 → Int32 → Prop) (k245 : HS → HI → HR → Nat → Nat → Nat → Nat → Int32 → Int32 → Int32 → Int32 → Prop) (sh : HS) (I : HI) (R : HR) (c1 : Nat) (c2 : Nat) (l0 : Nat) (l1 : Nat) (l3 : Int32) (l4 : Int32) (l5 : Int32) (l6 : Int32) (l7 : Int32) (s0 : Int32) : Prop :=
  (c1 ≤ 60 ∧ c2 ≤ 1000) ∧
  wL_cell K J fu sh I R l0 l4 (qwI fun v35 t35 i35 j35 =>
  wB (oR t35 j35 l1 9 5) fun v36 =>
  wB (oAr t35 j35 v36 45 l5) fun v37 =>
  if s0 = 0 then
    ((wL_drawn_b205 K J fu F k121 k245) t35 i35 j35 c1 c2 l0 l1 l3 (l4 + 1) l5 l6 l7 s0 v35 (-1) l7 v37)
  else
    (wB (oM v35 9) fun v44 =>
    (wL_drawn_b205 K J fu F k121 k245) t35 i35 j35 c1 c2 l0 l1 l3 (l4 + 1) l5 l6 l7 s0 v35 (40 + (10 * v44)) l7 v37))
theorem vwL_drawn_b163 {l : Launch} {K J : Nat → Nat} {fu : Nat} {F : VF} {k121 : HS → HI → HR → Nat → Nat → Nat → Nat → Int32 → Int32 → Int32 → Int32 → Int32 → Prop} {k245 : HS → HI → HR → Nat → Nat → Nat → Nat → Int32 → Int32 → Int32 → Int32 → Prop} (hk121 : ∀ {sh : HS} {I : HI} {R : HR} {c1 : Nat} {c2 : Nat} {l0 : Nat} {l1 : Nat} {l3 : Int32} {l4 : Int32} {l5 : Int32} {l6 : Int32} {l7 : Int32} {d2 d8 d9 : Option Value}, k121 sh I R c1 c2 l0 l1 l3 l4 l5 l6 l7 → MW l K J 175 121 [some (.ref l0), some (.ref l1), d2, some (.int l3), some (.int l4), some (.int l5), some (.int l6), some (.int l7), d8, d9] [] sh I R (c1, c2) F) (hk245 : ∀ {sh : HS} {I : HI} {R : HR} {c1 : Nat} {c2 : Nat} {l0 : Nat} {l1 : Nat} {l3 : Int32} {l4 : Int32} {l5 : Int32} {l6 : Int32} {d2 d7 d8 d9 : Option Value}, k245 sh I R c1 c2 l0 l1 l3 l4 l5 l6 → MW l K J 175 245 [some (.ref l0), some (.ref l1), d2, some (.int l3), some (.int l4), some (.int l5), some (.int l6), d7, d8, d9] [] sh I R (c1, c2) F) {sh : HS} {I : HI} {R : HR} {c1 : Nat} {c2 : Nat} {l0 : Nat} {l1 : Nat} {l3 : Int32} {l4 : Int32} {l5 : Int32} {l6 : Int32} {l7 : Int32} {s0 : Int32} {d2 d8 d9 : Option Value} (h0 : wL_drawn_b163 K J fu F k121 k245 sh I R c1 c2 l0 l1 l3 l4 l5 l6 l7 s0) : MW l K J 175 163 [some (.ref l0), some (.ref l1), d2, some (.int l3), some (.int l4), some (.int l5), some (.int l6), some (.int l7), d8, d9] [.int s0] sh I R (c1, c2) F := by
  unfold wL_drawn_b163 at h0
  refine mw_is (i := 8) (pc' := 165) (L' := [some (.ref l0), some (.ref l1), d2, some (.int l3), some (.int l4), some (.int l5), some (.int l6), some (.int l7), some (.int s0), d9]) (by decide +kernel) rfl rfl ?_
  refine mw_rl (i := 0) (pc' := 166) (by decide +kernel) rfl ?_
  refine mw_il (i := 4) (pc' := 168) (by decide +kernel) rfl ?_
  obtain ⟨r34, h1⟩ := h0
  refine mwx_I (q := 174) (na := 2) (ce := 0) (sl := 0) (X := 60) (Y := 1000) (as := [.int l4, .ref l0]) (by decide +kernel) r34 rfl rfl (by rw [show mL 174 = 2 from by decide +kernel]; rfl) rfl (fun z => absurd z (by decide +kernel)) (fun z => absurd z (by decide +kernel)) (vwL_cell h1) (fun v35 t35 i35 j35 h2 => ?_); clear h1
  refine mw_is (i := 9) (pc' := 173) (L' := [some (.ref l0), some (.ref l1), d2, some (.int l3), some (.int l4), some (.int l5), some (.int l6), some (.int l7), some (.int s0), some (.int v35)]) (by decide +kernel) rfl rfl ?_
  refine mw_inc (i := 4) (z := 1) (pc' := 176) (L' := [some (.ref l0), some (.ref l1), d2, some (.int l3), some (.int (l4 + 1)), some (.int l5), some (.int l6), some (.int l7), some (.int s0), some (.int v35)]) (by decide +kernel) rfl rfl rfl ?_
  refine mw_rl (i := 1) (pc' := 177) (by decide +kernel) rfl ?_
  refine mw_fR (ix := 34) (t := 9) (j := 5) (md := 1) (by decide +kernel) h2 (fun v36 h3 => ?_); clear h2
  refine mw_il (i := 5) (pc' := 182) (by decide +kernel) rfl ?_
  refine mw_aal (t := 45) (by decide +kernel) (by decide) h3 (fun v37 h4 => ?_); clear h3
  refine mw_il (i := 7) (pc' := 185) (by decide +kernel) rfl ?_
  refine mw_il (i := 8) (pc' := 187) (by decide +kernel) rfl ?_
  refine mw_if (ins := .ifCond .eq 17) (t := 204) (pc' := 190) (by decide +kernel) rfl rfl rfl h4 (fun p5 h5 => ?_) (fun p5 h5 => ?_) <;> clear h4
  · refine mw_c (v := (-1)) (pc' := 205) (by decide +kernel) ?_
    exact (vwL_drawn_b205 hk121 hk245) h5
  · refine mw_c (v := 40) (pc' := 192) (by decide +kernel) ?_
    refine mw_c (v := 10) (pc' := 194) (by decide +kernel) ?_
    refine mw_il (i := 9) (pc' := 196) (by decide +kernel) rfl ?_
    refine mw_c (v := 9) (pc' := 198) (by decide +kernel) ?_
    refine mw_rm (by decide +kernel) h5 (fun v44 h6 => ?_); clear h5
    refine mw_a (ins := .imul) (pc' := 200) (by decide +kernel) rfl ?_
    refine mw_a (ins := .iadd) (pc' := 201) (by decide +kernel) rfl ?_
    refine mw_go (t := 205) (by decide +kernel) ?_
    exact (vwL_drawn_b205 hk121 hk245) h6
def wL_drawn_b158 (K J : Nat → Nat) (fu : Nat) (F : VF) (k121 : HS → HI → HR → Nat → Nat → Nat → Nat → Int32 → Int32 → Int32 → Int32 → Int32 → Prop) (k245 : HS → HI → HR → Nat → Nat → Nat → Nat → Int32 → Int32 → Int32 → Int32 → Prop) (sh : HS) (I : HI) (R : HR) (c1 : Nat) (c2 : Nat) (l0 : Nat) (l1 : Nat) (l3 : Int32) (l4 : Int32) (l5 : Int32) (l6 : Int32) (l7 : Int32) : Prop :=
  (wL_drawn_b163 K J fu F k121 k245) sh I R c1 c2 l0 l1 l3 l4 l5 l6 l7 1
theorem vwL_drawn_b158 {l : Launch} {K J : Nat → Nat} {fu : Nat} {F : VF} {k121 : HS → HI → HR → Nat → Nat → Nat → Nat → Int32 → Int32 → Int32 → Int32 → Int32 → Prop} {k245 : HS → HI → HR → Nat → Nat → Nat → Nat → Int32 → Int32 → Int32 → Int32 → Prop} (hk121 : ∀ {sh : HS} {I : HI} {R : HR} {c1 : Nat} {c2 : Nat} {l0 : Nat} {l1 : Nat} {l3 : Int32} {l4 : Int32} {l5 : Int32} {l6 : Int32} {l7 : Int32} {d2 d8 d9 : Option Value}, k121 sh I R c1 c2 l0 l1 l3 l4 l5 l6 l7 → MW l K J 175 121 [some (.ref l0), some (.ref l1), d2, some (.int l3), some (.int l4), some (.int l5), some (.int l6), some (.int l7), d8, d9] [] sh I R (c1, c2) F) (hk245 : ∀ {sh : HS} {I : HI} {R : HR} {c1 : Nat} {c2 : Nat} {l0 : Nat} {l1 : Nat} {l3 : Int32} {l4 : Int32} {l5 : Int32} {l6 : Int32} {d2 d7 d8 d9 : Option Value}, k245 sh I R c1 c2 l0 l1 l3 l4 l5 l6 → MW l K J 175 245 [some (.ref l0), some (.ref l1), d2, some (.int l3), some (.int l4), some (.int l5), some (.int l6), d7, d8, d9] [] sh I R (c1, c2) F) {sh : HS} {I : HI} {R : HR} {c1 : Nat} {c2 : Nat} {l0 : Nat} {l1 : Nat} {l3 : Int32} {l4 : Int32} {l5 : Int32} {l6 : Int32} {l7 : Int32} {d2 d8 d9 : Option Value} (h0 : wL_drawn_b158 K J fu F k121 k245 sh I R c1 c2 l0 l1 l3 l4 l5 l6 l7) : MW l K J 175 158 [some (.ref l0), some (.ref l1), d2, some (.int l3), some (.int l4), some (.int l5), some (.int l6), some (.int l7), d8, d9] [] sh I R (c1, c2) F := by
  unfold wL_drawn_b158 at h0
  refine mw_c (v := 1) (pc' := 159) (by decide +kernel) ?_
  refine mw_go (t := 163) (by decide +kernel) ?_
  exact (vwL_drawn_b163 hk121 hk245) h0
def wL_drawn_b162 (K J : Nat → Nat) (fu : Nat) (F : VF) (k121 : HS → HI → HR → Nat → Nat → Nat → Nat → Int32 → Int32 → Int32 → Int32 → Int32 → Prop) (k245 : HS → HI → HR → Nat → Nat → Nat → Nat → Int32 → Int32 → Int32 → Int32 → Prop) (sh : HS) (I : HI) (R : HR) (c1 : Nat) (c2 : Nat) (l0 : Nat) (l1 : Nat) (l3 : Int32) (l4 : Int32) (l5 : Int32) (l6 : Int32) (l7 : Int32) : Prop :=
  (wL_drawn_b163 K J fu F k121 k245) sh I R c1 c2 l0 l1 l3 l4 l5 l6 l7 0
theorem vwL_drawn_b162 {l : Launch} {K J : Nat → Nat} {fu : Nat} {F : VF} {k121 : HS → HI → HR → Nat → Nat → Nat → Nat → Int32 → Int32 → Int32 → Int32 → Int32 → Prop} {k245 : HS → HI → HR → Nat → Nat → Nat → Nat → Int32 → Int32 → Int32 → Int32 → Prop} (hk121 : ∀ {sh : HS} {I : HI} {R : HR} {c1 : Nat} {c2 : Nat} {l0 : Nat} {l1 : Nat} {l3 : Int32} {l4 : Int32} {l5 : Int32} {l6 : Int32} {l7 : Int32} {d2 d8 d9 : Option Value}, k121 sh I R c1 c2 l0 l1 l3 l4 l5 l6 l7 → MW l K J 175 121 [some (.ref l0), some (.ref l1), d2, some (.int l3), some (.int l4), some (.int l5), some (.int l6), some (.int l7), d8, d9] [] sh I R (c1, c2) F) (hk245 : ∀ {sh : HS} {I : HI} {R : HR} {c1 : Nat} {c2 : Nat} {l0 : Nat} {l1 : Nat} {l3 : Int32} {l4 : Int32} {l5 : Int32} {l6 : Int32} {d2 d7 d8 d9 : Option Value}, k245 sh I R c1 c2 l0 l1 l3 l4 l5 l6 → MW l K J 175 245 [some (.ref l0), some (.ref l1), d2, some (.int l3), some (.int l4), some (.int l5), some (.int l6), d7, d8, d9] [] sh I R (c1, c2) F) {sh : HS} {I : HI} {R : HR} {c1 : Nat} {c2 : Nat} {l0 : Nat} {l1 : Nat} {l3 : Int32} {l4 : Int32} {l5 : Int32} {l6 : Int32} {l7 : Int32} {d2 d8 d9 : Option Value} (h0 : wL_drawn_b162 K J fu F k121 k245 sh I R c1 c2 l0 l1 l3 l4 l5 l6 l7) : MW l K J 175 162 [some (.ref l0), some (.ref l1), d2, some (.int l3), some (.int l4), some (.int l5), some (.int l6), some (.int l7), d8, d9] [] sh I R (c1, c2) F := by
  unfold wL_drawn_b162 at h0
  refine mw_c (v := 0) (pc' := 163) (by decide +kernel) ?_
  exact (vwL_drawn_b163 hk121 hk245) h0
def wL_drawn_b121 (K J : Nat → Nat) (fu : Nat) (F : VF) (k121 : HS → HI → HR → Nat → Nat → Nat → Nat → Int32 → Int32 → Int32 → Int32 → Int32 → Prop) (k245 : HS → HI → HR → Nat → Nat → Nat → Nat → Int32 → Int32 → Int32 → Int32 → Prop) (sh : HS) (I : HI) (R : HR) (c1 : Nat) (c2 : Nat) (l0 : Nat) (l1 : Nat) (l3 : Int32) (l4 : Int32) (l5 : Int32) (l6 : Int32) (l7 : Int32) : Prop :=
  if (6 : Int32) ≤ l7 then
    (k245 sh I R c1 c2 l0 l1 l3 l4 l5 l6)
  else
    (wB (oD l6 4) fun v32 =>
    wB (oM v32 3) fun v33 =>
    if l7 = v33 then
      ((wL_drawn_b158 K J fu F k121 k245) sh I R c1 c2 l0 l1 l3 l4 l5 l6 l7)
    else
      (if ((l6 >>> ((5 + l7) &&& 31)) &&& 1) = (1 : Int32) then
        (if (4 : Int32) ≤ l7 then
          ((wL_drawn_b162 K J fu F k121 k245) sh I R c1 c2 l0 l1 l3 l4 l5 l6 l7)
        else
          ((wL_drawn_b158 K J fu F k121 k245) sh I R c1 c2 l0 l1 l3 l4 l5 l6 l7))
      else
        ((wL_drawn_b162 K J fu F k121 k245) sh I R c1 c2 l0 l1 l3 l4 l5 l6 l7)))
theorem vwL_drawn_b121 {l : Launch} {K J : Nat → Nat} {fu : Nat} {F : VF} {k121 : HS → HI → HR → Nat → Nat → Nat → Nat → Int32 → Int32 → Int32 → Int32 → Int32 → Prop} {k245 : HS → HI → HR → Nat → Nat → Nat → Nat → Int32 → Int32 → Int32 → Int32 → Prop} (hk121 : ∀ {sh : HS} {I : HI} {R : HR} {c1 : Nat} {c2 : Nat} {l0 : Nat} {l1 : Nat} {l3 : Int32} {l4 : Int32} {l5 : Int32} {l6 : Int32} {l7 : Int32} {d2 d8 d9 : Option Value}, k121 sh I R c1 c2 l0 l1 l3 l4 l5 l6 l7 → MW l K J 175 121 [some (.ref l0), some (.ref l1), d2, some (.int l3), some (.int l4), some (.int l5), some (.int l6), some (.int l7), d8, d9] [] sh I R (c1, c2) F) (hk245 : ∀ {sh : HS} {I : HI} {R : HR} {c1 : Nat} {c2 : Nat} {l0 : Nat} {l1 : Nat} {l3 : Int32} {l4 : Int32} {l5 : Int32} {l6 : Int32} {d2 d7 d8 d9 : Option Value}, k245 sh I R c1 c2 l0 l1 l3 l4 l5 l6 → MW l K J 175 245 [some (.ref l0), some (.ref l1), d2, some (.int l3), some (.int l4), some (.int l5), some (.int l6), d7, d8, d9] [] sh I R (c1, c2) F) {sh : HS} {I : HI} {R : HR} {c1 : Nat} {c2 : Nat} {l0 : Nat} {l1 : Nat} {l3 : Int32} {l4 : Int32} {l5 : Int32} {l6 : Int32} {l7 : Int32} {d2 d8 d9 : Option Value} (h0 : wL_drawn_b121 K J fu F k121 k245 sh I R c1 c2 l0 l1 l3 l4 l5 l6 l7) : MW l K J 175 121 [some (.ref l0), some (.ref l1), d2, some (.int l3), some (.int l4), some (.int l5), some (.int l6), some (.int l7), d8, d9] [] sh I R (c1, c2) F := by
  unfold wL_drawn_b121 at h0
  refine mw_il (i := 7) (pc' := 123) (by decide +kernel) rfl ?_
  refine mw_c (v := 6) (pc' := 125) (by decide +kernel) ?_
  refine mw_if (ins := .if_icmp .ge 120) (t := 245) (pc' := 128) (by decide +kernel) rfl rfl rfl h0 (fun p1 h1 => ?_) (fun p1 h1 => ?_) <;> clear h0
  · exact hk245 h1
  · refine mw_il (i := 7) (pc' := 130) (by decide +kernel) rfl ?_
    refine mw_il (i := 6) (pc' := 132) (by decide +kernel) rfl ?_
    refine mw_c (v := 4) (pc' := 133) (by decide +kernel) ?_
    refine mw_dv (by decide +kernel) h1 (fun v32 h2 => ?_); clear h1
    refine mw_c (v := 3) (pc' := 135) (by decide +kernel) ?_
    refine mw_rm (by decide +kernel) h2 (fun v33 h3 => ?_); clear h2
    refine mw_if (ins := .if_icmp .eq 22) (t := 158) (pc' := 139) (by decide +kernel) rfl rfl rfl h3 (fun p4 h4 => ?_) (fun p4 h4 => ?_) <;> clear h3
    · exact (vwL_drawn_b158 hk121 hk245) h4
    · refine mw_il (i := 6) (pc' := 141) (by decide +kernel) rfl ?_
      refine mw_c (v := 5) (pc' := 142) (by decide +kernel) ?_
      refine mw_il (i := 7) (pc' := 144) (by decide +kernel) rfl ?_
      refine mw_a (ins := .iadd) (pc' := 145) (by decide +kernel) rfl ?_
      refine mw_a (ins := .ishr) (pc' := 146) (by decide +kernel) rfl ?_
      refine mw_c (v := 1) (pc' := 147) (by decide +kernel) ?_
      refine mw_a (ins := .iand) (pc' := 148) (by decide +kernel) rfl ?_
      refine mw_c (v := 1) (pc' := 149) (by decide +kernel) ?_
      refine mw_ifn (ins := .if_icmp .ne 13) (t := 162) (pc' := 152) (by decide +kernel) rfl rfl rfl h4 (fun p5 h5 => ?_) (fun p5 h5 => ?_) <;> clear h4
      · exact (vwL_drawn_b162 hk121 hk245) h5
      · refine mw_il (i := 7) (pc' := 154) (by decide +kernel) rfl ?_
        refine mw_c (v := 4) (pc' := 155) (by decide +kernel) ?_
        refine mw_if (ins := .if_icmp .ge 7) (t := 162) (pc' := 158) (by decide +kernel) rfl rfl rfl h5 (fun p6 h6 => ?_) (fun p6 h6 => ?_) <;> clear h5
        · exact (vwL_drawn_b162 hk121 hk245) h6
        · exact (vwL_drawn_b158 hk121 hk245) h6
def wL_drawn_l121 (K J : Nat → Nat) (fu : Nat) (F : VF) (k245 : HS → HI → HR → Nat → Nat → Nat → Nat → Int32 → Int32 → Int32 → Int32 → Prop) : Nat → HS → HI → HR → Nat → Nat → Nat → Nat → Int32 → Int32 → Int32 → Int32 → Int32 → Prop
  | 0 => fun _ _ _ _ _ _ _ _ _ _ _ _ => False
  | n + 1 => wL_drawn_b121 K J fu F (wL_drawn_l121 K J fu F k245 n) k245
theorem vwL_drawn_l121 {l : Launch} {K J : Nat → Nat} {fu : Nat} {F : VF} {k245 : HS → HI → HR → Nat → Nat → Nat → Nat → Int32 → Int32 → Int32 → Int32 → Prop} (hk245 : ∀ {sh : HS} {I : HI} {R : HR} {c1 : Nat} {c2 : Nat} {l0 : Nat} {l1 : Nat} {l3 : Int32} {l4 : Int32} {l5 : Int32} {l6 : Int32} {d2 d7 d8 d9 : Option Value}, k245 sh I R c1 c2 l0 l1 l3 l4 l5 l6 → MW l K J 175 245 [some (.ref l0), some (.ref l1), d2, some (.int l3), some (.int l4), some (.int l5), some (.int l6), d7, d8, d9] [] sh I R (c1, c2) F) : ∀ (n : Nat) {sh : HS} {I : HI} {R : HR} {c1 : Nat} {c2 : Nat} {l0 : Nat} {l1 : Nat} {l3 : Int32} {l4 : Int32} {l5 : Int32} {l6 : Int32} {l7 : Int32} {d2 d8 d9 : Option Value} (_ : wL_drawn_l121 K J fu F k245 n sh I R c1 c2 l0 l1 l3 l4 l5 l6 l7), MW l K J 175 121 [some (.ref l0), some (.ref l1), d2, some (.int l3), some (.int l4), some (.int l5), some (.int l6), some (.int l7), d8, d9] [] sh I R (c1, c2) F := by
  intro n
  induction n with
  | zero => exact fun h0 => h0.elim
  | succ n ih => exact fun h0 => vwL_drawn_b121 ih hk245 h0
def wL_drawn_b255 (K J : Nat → Nat) (fu : Nat) (F : VF) (k255 : HS → HI → HR → Nat → Nat → Nat → Nat → Int32 → Int32 → Int32 → Int32 → Prop) (k289 : HS → HI → HR → Nat → Nat → Nat → Nat → Int32 → Int32 → Int32 → Prop) (sh : HS) (I : HI) (R : HR) (c1 : Nat) (c2 : Nat) (l0 : Nat) (l1 : Nat) (l3 : Int32) (l4 : Int32) (l5 : Int32) (l7 : Int32) : Prop :=
  if l7 ≤ 0 then
    (k289 sh I R c1 c2 l0 l1 l3 l4 l5)
  else
    ((c1 ≤ 60 ∧ c2 ≤ 1000) ∧
    wL_cell K J fu sh I R l0 l4 (qwI fun v48 t48 i48 j48 =>
    (c1 ≤ 60 ∧ c2 ≤ 1000) ∧
    wL_cell K J fu t48 i48 j48 l0 (l4 + 1) (qwI fun v50 t50 i50 j50 =>
    (c1 + 2 ≤ 60 ∧ c2 + 38 ≤ 1000) ∧
    wL_addShot K J fu t50 i50 j50 l1 l5 v48 v50 (qwV fun t52 i52 j52 =>
    k255 t52 i52 j52 (c1 + 2) (c2 + 38) l0 l1 l3 (l4 + 2) l5 (l7 + (-1))))))
theorem vwL_drawn_b255 {l : Launch} {K J : Nat → Nat} {fu : Nat} {F : VF} {k255 : HS → HI → HR → Nat → Nat → Nat → Nat → Int32 → Int32 → Int32 → Int32 → Prop} {k289 : HS → HI → HR → Nat → Nat → Nat → Nat → Int32 → Int32 → Int32 → Prop} (hk255 : ∀ {sh : HS} {I : HI} {R : HR} {c1 : Nat} {c2 : Nat} {l0 : Nat} {l1 : Nat} {l3 : Int32} {l4 : Int32} {l5 : Int32} {l7 : Int32} {d2 d6 d8 d9 : Option Value}, k255 sh I R c1 c2 l0 l1 l3 l4 l5 l7 → MW l K J 175 255 [some (.ref l0), some (.ref l1), d2, some (.int l3), some (.int l4), some (.int l5), d6, some (.int l7), d8, d9] [] sh I R (c1, c2) F) (hk289 : ∀ {sh : HS} {I : HI} {R : HR} {c1 : Nat} {c2 : Nat} {l0 : Nat} {l1 : Nat} {l3 : Int32} {l4 : Int32} {l5 : Int32} {d2 d6 d7 d8 d9 : Option Value}, k289 sh I R c1 c2 l0 l1 l3 l4 l5 → MW l K J 175 289 [some (.ref l0), some (.ref l1), d2, some (.int l3), some (.int l4), some (.int l5), d6, d7, d8, d9] [] sh I R (c1, c2) F) {sh : HS} {I : HI} {R : HR} {c1 : Nat} {c2 : Nat} {l0 : Nat} {l1 : Nat} {l3 : Int32} {l4 : Int32} {l5 : Int32} {l7 : Int32} {d2 d6 d8 d9 : Option Value} (h0 : wL_drawn_b255 K J fu F k255 k289 sh I R c1 c2 l0 l1 l3 l4 l5 l7) : MW l K J 175 255 [some (.ref l0), some (.ref l1), d2, some (.int l3), some (.int l4), some (.int l5), d6, some (.int l7), d8, d9] [] sh I R (c1, c2) F := by
  unfold wL_drawn_b255 at h0
  refine mw_il (i := 7) (pc' := 257) (by decide +kernel) rfl ?_
  refine mw_if (ins := .ifCond .le 32) (t := 289) (pc' := 260) (by decide +kernel) rfl rfl rfl h0 (fun p1 h1 => ?_) (fun p1 h1 => ?_) <;> clear h0
  · exact hk289 h1
  · refine mw_rl (i := 1) (pc' := 261) (by decide +kernel) rfl ?_
    refine mw_il (i := 5) (pc' := 263) (by decide +kernel) rfl ?_
    refine mw_rl (i := 0) (pc' := 264) (by decide +kernel) rfl ?_
    refine mw_il (i := 4) (pc' := 266) (by decide +kernel) rfl ?_
    obtain ⟨r47, h2⟩ := h1
    refine mwx_I (q := 174) (na := 2) (ce := 0) (sl := 0) (X := 60) (Y := 1000) (as := [.int l4, .ref l0]) (by decide +kernel) r47 rfl rfl (by rw [show mL 174 = 2 from by decide +kernel]; rfl) rfl (fun z => absurd z (by decide +kernel)) (fun z => absurd z (by decide +kernel)) (vwL_cell h2) (fun v48 t48 i48 j48 h3 => ?_); clear h2
    refine mw_rl (i := 0) (pc' := 270) (by decide +kernel) rfl ?_
    refine mw_il (i := 4) (pc' := 272) (by decide +kernel) rfl ?_
    refine mw_c (v := 1) (pc' := 273) (by decide +kernel) ?_
    refine mw_a (ins := .iadd) (pc' := 274) (by decide +kernel) rfl ?_
    obtain ⟨r49, h4⟩ := h3
    refine mwx_I (q := 174) (na := 2) (ce := 0) (sl := 0) (X := 60) (Y := 1000) (as := [.int (l4 + 1), .ref l0]) (by decide +kernel) r49 rfl rfl (by rw [show mL 174 = 2 from by decide +kernel]; rfl) rfl (fun z => absurd z (by decide +kernel)) (fun z => absurd z (by decide +kernel)) (vwL_cell h4) (fun v50 t50 i50 j50 h5 => ?_); clear h4
    obtain ⟨r51, h6⟩ := h5
    refine mwx_V (q := 177) (na := 4) (ce := 2) (sl := 38) (X := 60) (Y := 1000) (as := [.int v50, .int v48, .int l5, .ref l1]) (by decide +kernel) r51 rfl rfl (by rw [show mL 177 = 8 from by decide +kernel]; rfl) rfl (fun z => absurd z (by decide +kernel)) (fun z => absurd z (by decide +kernel)) (vwL_addShot h6) (fun t52 i52 j52 h7 => ?_); clear h6
    refine mw_inc (i := 4) (z := 2) (pc' := 283) (L' := [some (.ref l0), some (.ref l1), d2, some (.int l3), some (.int (l4 + 2)), some (.int l5), d6, some (.int l7), d8, d9]) (by decide +kernel) rfl rfl rfl ?_
    refine mw_inc (i := 7) (z := (-1)) (pc' := 286) (L' := [some (.ref l0), some (.ref l1), d2, some (.int l3), some (.int (l4 + 2)), some (.int l5), d6, some (.int (l7 + (-1))), d8, d9]) (by decide +kernel) rfl rfl rfl ?_
    refine mw_go (t := 255) (by decide +kernel) ?_
    exact hk255 h7
def wL_drawn_l255 (K J : Nat → Nat) (fu : Nat) (F : VF) (k289 : HS → HI → HR → Nat → Nat → Nat → Nat → Int32 → Int32 → Int32 → Prop) : Nat → HS → HI → HR → Nat → Nat → Nat → Nat → Int32 → Int32 → Int32 → Int32 → Prop
  | 0 => fun _ _ _ _ _ _ _ _ _ _ _ => False
  | n + 1 => wL_drawn_b255 K J fu F (wL_drawn_l255 K J fu F k289 n) k289
theorem vwL_drawn_l255 {l : Launch} {K J : Nat → Nat} {fu : Nat} {F : VF} {k289 : HS → HI → HR → Nat → Nat → Nat → Nat → Int32 → Int32 → Int32 → Prop} (hk289 : ∀ {sh : HS} {I : HI} {R : HR} {c1 : Nat} {c2 : Nat} {l0 : Nat} {l1 : Nat} {l3 : Int32} {l4 : Int32} {l5 : Int32} {d2 d6 d7 d8 d9 : Option Value}, k289 sh I R c1 c2 l0 l1 l3 l4 l5 → MW l K J 175 289 [some (.ref l0), some (.ref l1), d2, some (.int l3), some (.int l4), some (.int l5), d6, d7, d8, d9] [] sh I R (c1, c2) F) : ∀ (n : Nat) {sh : HS} {I : HI} {R : HR} {c1 : Nat} {c2 : Nat} {l0 : Nat} {l1 : Nat} {l3 : Int32} {l4 : Int32} {l5 : Int32} {l7 : Int32} {d2 d6 d8 d9 : Option Value} (_ : wL_drawn_l255 K J fu F k289 n sh I R c1 c2 l0 l1 l3 l4 l5 l7), MW l K J 175 255 [some (.ref l0), some (.ref l1), d2, some (.int l3), some (.int l4), some (.int l5), d6, some (.int l7), d8, d9] [] sh I R (c1, c2) F := by
  intro n
  induction n with
  | zero => exact fun h0 => h0.elim
  | succ n ih => exact fun h0 => vwL_drawn_b255 ih hk289 h0
def wL_drawn_b289 (K J : Nat → Nat) (fu : Nat) (F : VF) (k90 : HS → HI → HR → Nat → Nat → Nat → Nat → Int32 → Int32 → Int32 → Prop) (sh : HS) (I : HI) (R : HR) (c1 : Nat) (c2 : Nat) (l0 : Nat) (l1 : Nat) (l3 : Int32) (l4 : Int32) (l5 : Int32) : Prop :=
  k90 sh I R c1 c2 l0 l1 l3 l4 (l5 + 1)
theorem vwL_drawn_b289 {l : Launch} {K J : Nat → Nat} {fu : Nat} {F : VF} {k90 : HS → HI → HR → Nat → Nat → Nat → Nat → Int32 → Int32 → Int32 → Prop} (hk90 : ∀ {sh : HS} {I : HI} {R : HR} {c1 : Nat} {c2 : Nat} {l0 : Nat} {l1 : Nat} {l3 : Int32} {l4 : Int32} {l5 : Int32} {d2 d6 d7 d8 d9 : Option Value}, k90 sh I R c1 c2 l0 l1 l3 l4 l5 → MW l K J 175 90 [some (.ref l0), some (.ref l1), d2, some (.int l3), some (.int l4), some (.int l5), d6, d7, d8, d9] [] sh I R (c1, c2) F) {sh : HS} {I : HI} {R : HR} {c1 : Nat} {c2 : Nat} {l0 : Nat} {l1 : Nat} {l3 : Int32} {l4 : Int32} {l5 : Int32} {d2 d6 d7 d8 d9 : Option Value} (h0 : wL_drawn_b289 K J fu F k90 sh I R c1 c2 l0 l1 l3 l4 l5) : MW l K J 175 289 [some (.ref l0), some (.ref l1), d2, some (.int l3), some (.int l4), some (.int l5), d6, d7, d8, d9] [] sh I R (c1, c2) F := by
  unfold wL_drawn_b289 at h0
  refine mw_inc (i := 5) (z := 1) (pc' := 292) (L' := [some (.ref l0), some (.ref l1), d2, some (.int l3), some (.int l4), some (.int (l5 + 1)), d6, d7, d8, d9]) (by decide +kernel) rfl rfl rfl ?_
  refine mw_go (t := 90) (by decide +kernel) ?_
  exact hk90 h0
def wL_drawn_b245 (K J : Nat → Nat) (fu : Nat) (F : VF) (k90 : HS → HI → HR → Nat → Nat → Nat → Nat → Int32 → Int32 → Int32 → Prop) (sh : HS) (I : HI) (R : HR) (c1 : Nat) (c2 : Nat) (l0 : Nat) (l1 : Nat) (l3 : Int32) (l4 : Int32) (l5 : Int32) (l6 : Int32) : Prop :=
  wB (oD l6 512) fun v45 =>
  wB (oM v45 5) fun v46 =>
  (wL_drawn_l255 K J fu F (wL_drawn_b289 K J fu F k90) fu) sh I R c1 c2 l0 l1 l3 l4 l5 v46
theorem vwL_drawn_b245 {l : Launch} {K J : Nat → Nat} {fu : Nat} {F : VF} {k90 : HS → HI → HR → Nat → Nat → Nat → Nat → Int32 → Int32 → Int32 → Prop} (hk90 : ∀ {sh : HS} {I : HI} {R : HR} {c1 : Nat} {c2 : Nat} {l0 : Nat} {l1 : Nat} {l3 : Int32} {l4 : Int32} {l5 : Int32} {d2 d6 d7 d8 d9 : Option Value}, k90 sh I R c1 c2 l0 l1 l3 l4 l5 → MW l K J 175 90 [some (.ref l0), some (.ref l1), d2, some (.int l3), some (.int l4), some (.int l5), d6, d7, d8, d9] [] sh I R (c1, c2) F) {sh : HS} {I : HI} {R : HR} {c1 : Nat} {c2 : Nat} {l0 : Nat} {l1 : Nat} {l3 : Int32} {l4 : Int32} {l5 : Int32} {l6 : Int32} {d2 d7 d8 d9 : Option Value} (h0 : wL_drawn_b245 K J fu F k90 sh I R c1 c2 l0 l1 l3 l4 l5 l6) : MW l K J 175 245 [some (.ref l0), some (.ref l1), d2, some (.int l3), some (.int l4), some (.int l5), some (.int l6), d7, d8, d9] [] sh I R (c1, c2) F := by
  unfold wL_drawn_b245 at h0
  refine mw_il (i := 6) (pc' := 247) (by decide +kernel) rfl ?_
  refine mw_c (v := 512) (pc' := 250) (by decide +kernel) ?_
  refine mw_dv (by decide +kernel) h0 (fun v45 h1 => ?_); clear h0
  refine mw_c (v := 5) (pc' := 252) (by decide +kernel) ?_
  refine mw_rm (by decide +kernel) h1 (fun v46 h2 => ?_); clear h1
  refine mw_is (i := 7) (pc' := 255) (L' := [some (.ref l0), some (.ref l1), d2, some (.int l3), some (.int l4), some (.int l5), some (.int l6), some (.int v46), d8, d9]) (by decide +kernel) rfl rfl ?_
  exact (vwL_drawn_l255 (vwL_drawn_b289 hk90) fu) h2
def wL_drawn_b90 (K J : Nat → Nat) (fu : Nat) (F : VF) (k90 : HS → HI → HR → Nat → Nat → Nat → Nat → Int32 → Int32 → Int32 → Prop) (sh : HS) (I : HI) (R : HR) (c1 : Nat) (c2 : Nat) (l0 : Nat) (l1 : Nat) (l3 : Int32) (l4 : Int32) (l5 : Int32) : Prop :=
  if l3 ≤ l5 then
    ((c1 ≤ 60 ∧ c2 ≤ 1000) ∧
    F (.inl (some (.ref l1))) sh I R)
  else
    ((c1 ≤ 60 ∧ c2 ≤ 1000) ∧
    wL_cell K J fu sh I R l0 l4 (qwI fun v28 t28 i28 j28 =>
    wB (oR t28 j28 l1 9 4) fun v29 =>
    wB (oM v28 4) fun v30 =>
    wB (oS t28 i28 v29 l5 v30) fun v31 =>
    (wL_drawn_l121 K J fu F (wL_drawn_b245 K J fu F k90) fu) t28 v31 j28 c1 c2 l0 l1 l3 (l4 + 1) l5 v28 0))
theorem vwL_drawn_b90 {l : Launch} {K J : Nat → Nat} {fu : Nat} {F : VF} {k90 : HS → HI → HR → Nat → Nat → Nat → Nat → Int32 → Int32 → Int32 → Prop} (hk90 : ∀ {sh : HS} {I : HI} {R : HR} {c1 : Nat} {c2 : Nat} {l0 : Nat} {l1 : Nat} {l3 : Int32} {l4 : Int32} {l5 : Int32} {d2 d6 d7 d8 d9 : Option Value}, k90 sh I R c1 c2 l0 l1 l3 l4 l5 → MW l K J 175 90 [some (.ref l0), some (.ref l1), d2, some (.int l3), some (.int l4), some (.int l5), d6, d7, d8, d9] [] sh I R (c1, c2) F) {sh : HS} {I : HI} {R : HR} {c1 : Nat} {c2 : Nat} {l0 : Nat} {l1 : Nat} {l3 : Int32} {l4 : Int32} {l5 : Int32} {d2 d6 d7 d8 d9 : Option Value} (h0 : wL_drawn_b90 K J fu F k90 sh I R c1 c2 l0 l1 l3 l4 l5) : MW l K J 175 90 [some (.ref l0), some (.ref l1), d2, some (.int l3), some (.int l4), some (.int l5), d6, d7, d8, d9] [] sh I R (c1, c2) F := by
  unfold wL_drawn_b90 at h0
  refine mw_il (i := 5) (pc' := 92) (by decide +kernel) rfl ?_
  refine mw_il (i := 3) (pc' := 93) (by decide +kernel) rfl ?_
  refine mw_if (ins := .if_icmp .ge 202) (t := 295) (pc' := 96) (by decide +kernel) rfl rfl rfl h0 (fun p1 h1 => ?_) (fun p1 h1 => ?_) <;> clear h0
  · refine mw_rl (i := 1) (pc' := 296) (by decide +kernel) rfl ?_
    obtain ⟨r26, h2⟩ := h1
    exact mw_rr (v := some l1) (X := 60) (Y := 1000) (by decide +kernel) r26 h2
  · refine mw_rl (i := 0) (pc' := 97) (by decide +kernel) rfl ?_
    refine mw_il (i := 4) (pc' := 99) (by decide +kernel) rfl ?_
    obtain ⟨r27, h2⟩ := h1
    refine mwx_I (q := 174) (na := 2) (ce := 0) (sl := 0) (X := 60) (Y := 1000) (as := [.int l4, .ref l0]) (by decide +kernel) r27 rfl rfl (by rw [show mL 174 = 2 from by decide +kernel]; rfl) rfl (fun z => absurd z (by decide +kernel)) (fun z => absurd z (by decide +kernel)) (vwL_cell h2) (fun v28 t28 i28 j28 h3 => ?_); clear h2
    refine mw_is (i := 6) (pc' := 104) (L' := [some (.ref l0), some (.ref l1), d2, some (.int l3), some (.int l4), some (.int l5), some (.int v28), d7, d8, d9]) (by decide +kernel) rfl rfl ?_
    refine mw_inc (i := 4) (z := 1) (pc' := 107) (L' := [some (.ref l0), some (.ref l1), d2, some (.int l3), some (.int (l4 + 1)), some (.int l5), some (.int v28), d7, d8, d9]) (by decide +kernel) rfl rfl rfl ?_
    refine mw_rl (i := 1) (pc' := 108) (by decide +kernel) rfl ?_
    refine mw_fR (ix := 28) (t := 9) (j := 4) (md := 1) (by decide +kernel) h3 (fun v29 h4 => ?_); clear h3
    refine mw_il (i := 5) (pc' := 113) (by decide +kernel) rfl ?_
    refine mw_il (i := 6) (pc' := 115) (by decide +kernel) rfl ?_
    refine mw_c (v := 4) (pc' := 116) (by decide +kernel) ?_
    refine mw_rm (by decide +kernel) h4 (fun v30 h5 => ?_); clear h4
    refine mw_ast (by decide +kernel) h5 (fun v31 h6 => ?_); clear h5
    refine mw_c (v := 0) (pc' := 119) (by decide +kernel) ?_
    refine mw_is (i := 7) (pc' := 121) (L' := [some (.ref l0), some (.ref l1), d2, some (.int l3), some (.int (l4 + 1)), some (.int l5), some (.int v28), some (.int 0), d8, d9]) (by decide +kernel) rfl rfl ?_
    exact (vwL_drawn_l121 (vwL_drawn_b245 hk90) fu) h6
def wL_drawn_l90 (K J : Nat → Nat) (fu : Nat) (F : VF) : Nat → HS → HI → HR → Nat → Nat → Nat → Nat → Int32 → Int32 → Int32 → Prop
  | 0 => fun _ _ _ _ _ _ _ _ _ _ => False
  | n + 1 => wL_drawn_b90 K J fu F (wL_drawn_l90 K J fu F n)
theorem vwL_drawn_l90 {l : Launch} {K J : Nat → Nat} {fu : Nat} {F : VF} : ∀ (n : Nat) {sh : HS} {I : HI} {R : HR} {c1 : Nat} {c2 : Nat} {l0 : Nat} {l1 : Nat} {l3 : Int32} {l4 : Int32} {l5 : Int32} {d2 d6 d7 d8 d9 : Option Value} (_ : wL_drawn_l90 K J fu F n sh I R c1 c2 l0 l1 l3 l4 l5), MW l K J 175 90 [some (.ref l0), some (.ref l1), d2, some (.int l3), some (.int l4), some (.int l5), d6, d7, d8, d9] [] sh I R (c1, c2) F := by
  intro n
  induction n with
  | zero => exact fun h0 => h0.elim
  | succ n ih => exact fun h0 => vwL_drawn_b90 ih h0
def wL_drawn (K J : Nat → Nat) (fu : Nat) (sh : HS) (I : HI) (R : HR) (l0 : Nat) (F : VF) : Prop :=
  (0 + 1 ≤ 60 ∧ 0 + 7 ≤ 1000) ∧
  wNew sh I R 9 7 fun a2 t2 i2 j2 =>
  ((0 + 1) + 4 ≤ 60 ∧ (0 + 7) + 3 ≤ 1000) ∧
  wX11_init K J fu t2 i2 j2 a2 (qwV fun t4 i4 j4 =>
  (((0 + 1) + 4) ≤ 60 ∧ ((0 + 7) + 3) ≤ 1000) ∧
  wL_cell K J fu t4 i4 j4 l0 0 (qwI fun v6 t6 i6 j6 =>
  wB (oM v6 3) fun v7 =>
  wB (oD v6 3) fun v8 =>
  wB (oM v8 60) fun v9 =>
  wB (oP t6 i6 a2 9 0 v9) fun v10 =>
  wB (oD v6 180) fun v11 =>
  wB (oM v11 1500) fun v12 =>
  wB (oP t6 v10 a2 9 1 v12) fun v13 =>
  wB (oD v6 270000) fun v14 =>
  wB (oM v14 1200) fun v15 =>
  wB (oP t6 v13 a2 9 2 v15) fun v16 =>
  (¬ (1 + v7) < 0 ∧ (1 + v7).toNatClampNeg < 100000) ∧
  (((0 + 1) + 4) + 1 ≤ 60 ∧ ((0 + 7) + 3) + (1 + v7).toNatClampNeg ≤ 1000) ∧
  wNewI t6 v16 20 (1 + v7).toNatClampNeg fun a17 t17 i17 =>
  wB (oQ t17 j6 a2 9 4 a17) fun v19 =>
  ((¬ (1 + v7) < 0 ∧ (1 + v7).toNatClampNeg < 1000) ∧ ¬ (6 : Int32) < 0 ∧ (6 : Int32).toNatClampNeg < 1000) ∧
  ((((0 + 1) + 4) + 1) + (1 + (1 + v7).toNatClampNeg) ≤ 60 ∧ (((0 + 7) + 3) + (1 + v7).toNatClampNeg) + ((1 + v7).toNatClampNeg + (1 + v7).toNatClampNeg * (6 : Int32).toNatClampNeg) ≤ 1000) ∧
  wMna t17 i17 v19 (1 + v7).toNatClampNeg (6 : Int32).toNatClampNeg fun a20 t20 i20 j20 =>
  wB (oQ t20 j20 a2 9 5 a20) fun v22 =>
  ((¬ (1 + v7) < 0 ∧ (1 + v7).toNatClampNeg < 1000) ∧ ¬ (6 : Int32) < 0 ∧ (6 : Int32).toNatClampNeg < 1000) ∧
  (((((0 + 1) + 4) + 1) + (1 + (1 + v7).toNatClampNeg)) + (1 + (1 + v7).toNatClampNeg) ≤ 60 ∧ ((((0 + 7) + 3) + (1 + v7).toNatClampNeg) + ((1 + v7).toNatClampNeg + (1 + v7).toNatClampNeg * (6 : Int32).toNatClampNeg)) + ((1 + v7).toNatClampNeg + (1 + v7).toNatClampNeg * (6 : Int32).toNatClampNeg) ≤ 1000) ∧
  wMna t20 i20 v22 (1 + v7).toNatClampNeg (6 : Int32).toNatClampNeg fun a23 t23 i23 j23 =>
  wB (oQ t23 j23 a2 9 6 a23) fun v25 =>
  (wL_drawn_l90 K J fu F fu) t23 i23 v25 (((((0 + 1) + 4) + 1) + (1 + (1 + v7).toNatClampNeg)) + (1 + (1 + v7).toNatClampNeg)) (((((0 + 7) + 3) + (1 + v7).toNatClampNeg) + ((1 + v7).toNatClampNeg + (1 + v7).toNatClampNeg * (6 : Int32).toNatClampNeg)) + ((1 + v7).toNatClampNeg + (1 + v7).toNatClampNeg * (6 : Int32).toNatClampNeg)) l0 a2 (1 + v7) 1 0))
theorem vwL_drawn {l : Launch} {K J : Nat → Nat} {fu : Nat} {sh : HS} {I : HI} {R : HR} {l0 : Nat} {F : VF} (h0 : wL_drawn K J fu sh I R l0 F) : MW l K J 175 0 (ent (mL 175) [.ref l0]) [] sh I R (0, 0) F := by
  unfold wL_drawn at h0
  have ml : mL 175 = 10 := by decide +kernel
  rw [ml]
  show MW l K J 175 0 [some (.ref l0), none, none, none, none, none, none, none, none, none] [] sh I R (0, 0) F
  obtain ⟨r1, h1⟩ := h0
  refine mw_new (ix := 8) (t := 9) (N := 7) (X := 60) (Y := 1000) (by decide +kernel) r1 h1 (fun a2 t2 i2 j2 h2 => ?_); clear h1
  refine mw_a (ins := .dup) (pc' := 4) (by decide +kernel) rfl ?_
  obtain ⟨r3, h3⟩ := h2
  refine mwx_V (q := 112) (na := 1) (ce := 4) (sl := 3) (X := 60) (Y := 1000) (as := [.ref a2]) (by decide +kernel) r3 rfl rfl (by rw [show mL 112 = 1 from by decide +kernel]; rfl) rfl (fun z => absurd z (by decide +kernel)) (fun _ => ⟨_, rfl⟩) (vwX11_init h3) (fun t4 i4 j4 h4 => ?_); clear h3
  refine mw_rs (i := 1) (pc' := 8) (L' := [some (.ref l0), some (.ref a2), none, none, none, none, none, none, none, none]) (by decide +kernel) rfl rfl ?_
  refine mw_rl (i := 0) (pc' := 9) (by decide +kernel) rfl ?_
  refine mw_c (v := 0) (pc' := 10) (by decide +kernel) ?_
  obtain ⟨r5, h5⟩ := h4
  refine mwx_I (q := 174) (na := 2) (ce := 0) (sl := 0) (X := 60) (Y := 1000) (as := [.int 0, .ref l0]) (by decide +kernel) r5 rfl rfl (by rw [show mL 174 = 2 from by decide +kernel]; rfl) rfl (fun z => absurd z (by decide +kernel)) (fun z => absurd z (by decide +kernel)) (vwL_cell h5) (fun v6 t6 i6 j6 h6 => ?_); clear h5
  refine mw_is (i := 2) (pc' := 14) (L' := [some (.ref l0), some (.ref a2), some (.int v6), none, none, none, none, none, none, none]) (by decide +kernel) rfl rfl ?_
  refine mw_c (v := 1) (pc' := 15) (by decide +kernel) ?_
  refine mw_il (i := 2) (pc' := 16) (by decide +kernel) rfl ?_
  refine mw_c (v := 3) (pc' := 17) (by decide +kernel) ?_
  refine mw_rm (by decide +kernel) h6 (fun v7 h7 => ?_); clear h6
  refine mw_a (ins := .iadd) (pc' := 19) (by decide +kernel) rfl ?_
  refine mw_is (i := 3) (pc' := 20) (L' := [some (.ref l0), some (.ref a2), some (.int v6), some (.int (1 + v7)), none, none, none, none, none, none]) (by decide +kernel) rfl rfl ?_
  refine mw_c (v := 1) (pc' := 21) (by decide +kernel) ?_
  refine mw_is (i := 4) (pc' := 23) (L' := [some (.ref l0), some (.ref a2), some (.int v6), some (.int (1 + v7)), some (.int 1), none, none, none, none, none]) (by decide +kernel) rfl rfl ?_
  refine mw_rl (i := 1) (pc' := 24) (by decide +kernel) rfl ?_
  refine mw_il (i := 2) (pc' := 25) (by decide +kernel) rfl ?_
  refine mw_c (v := 3) (pc' := 26) (by decide +kernel) ?_
  refine mw_dv (by decide +kernel) h7 (fun v8 h8 => ?_); clear h7
  refine mw_c (v := 60) (pc' := 29) (by decide +kernel) ?_
  refine mw_rm (by decide +kernel) h8 (fun v9 h9 => ?_); clear h8
  refine mw_pI (ix := 17) (t := 9) (j := 0) (ty := 0) (md := 1) (by decide +kernel) (Or.inl rfl) h9 (fun v10 h10 => ?_); clear h9
  refine mw_rl (i := 1) (pc' := 34) (by decide +kernel) rfl ?_
  refine mw_il (i := 2) (pc' := 35) (by decide +kernel) rfl ?_
  refine mw_c (v := 180) (pc' := 38) (by decide +kernel) ?_
  refine mw_dv (by decide +kernel) h10 (fun v11 h11 => ?_); clear h10
  refine mw_c (v := 1500) (pc' := 42) (by decide +kernel) ?_
  refine mw_rm (by decide +kernel) h11 (fun v12 h12 => ?_); clear h11
  refine mw_pI (ix := 21) (t := 9) (j := 1) (ty := 0) (md := 1) (by decide +kernel) (Or.inl rfl) h12 (fun v13 h13 => ?_); clear h12
  refine mw_rl (i := 1) (pc' := 47) (by decide +kernel) rfl ?_
  refine mw_il (i := 2) (pc' := 48) (by decide +kernel) rfl ?_
  refine mw_c (v := 270000) (pc' := 50) (by decide +kernel) ?_
  refine mw_dv (by decide +kernel) h13 (fun v14 h14 => ?_); clear h13
  refine mw_c (v := 1200) (pc' := 54) (by decide +kernel) ?_
  refine mw_rm (by decide +kernel) h14 (fun v15 h15 => ?_); clear h14
  refine mw_pI (ix := 25) (t := 9) (j := 2) (ty := 0) (md := 1) (by decide +kernel) (Or.inl rfl) h15 (fun v16 h16 => ?_); clear h15
  refine mw_rl (i := 1) (pc' := 59) (by decide +kernel) rfl ?_
  refine mw_il (i := 3) (pc' := 60) (by decide +kernel) rfl ?_
  obtain ⟨q17, h17⟩ := h16
  obtain ⟨r18, h18⟩ := h17
  refine mw_nwi (X := 60) (Y := 1000) (by decide +kernel) q17 r18 h18 (fun a17 t17 i17 h19 => ?_); clear h18
  refine mw_pR (ix := 28) (t := 9) (j := 4) (md := 1) (by decide +kernel) h19 (fun v19 h20 => ?_); clear h19
  refine mw_rl (i := 1) (pc' := 66) (by decide +kernel) rfl ?_
  refine mw_il (i := 3) (pc' := 67) (by decide +kernel) rfl ?_
  refine mw_c (v := 6) (pc' := 69) (by decide +kernel) ?_
  obtain ⟨q20, h21⟩ := h20
  obtain ⟨r21, h22⟩ := h21
  refine mw_mna (ix := 32) (X := 60) (Y := 1000) (by decide +kernel) q20 r21 h22 (fun a20 t20 i20 j20 h23 => ?_); clear h22
  refine mw_pR (ix := 34) (t := 9) (j := 5) (md := 1) (by decide +kernel) h23 (fun v22 h24 => ?_); clear h23
  refine mw_rl (i := 1) (pc' := 77) (by decide +kernel) rfl ?_
  refine mw_il (i := 3) (pc' := 78) (by decide +kernel) rfl ?_
  refine mw_c (v := 6) (pc' := 80) (by decide +kernel) ?_
  obtain ⟨q23, h25⟩ := h24
  obtain ⟨r24, h26⟩ := h25
  refine mw_mna (ix := 32) (X := 60) (Y := 1000) (by decide +kernel) q23 r24 h26 (fun a23 t23 i23 j23 h27 => ?_); clear h26
  refine mw_pR (ix := 37) (t := 9) (j := 6) (md := 1) (by decide +kernel) h27 (fun v25 h28 => ?_); clear h27
  refine mw_c (v := 0) (pc' := 88) (by decide +kernel) ?_
  refine mw_is (i := 5) (pc' := 90) (L' := [some (.ref l0), some (.ref a2), some (.int v6), some (.int (1 + v7)), some (.int 1), some (.int 0), none, none, none, none]) (by decide +kernel) rfl rfl ?_
  exact (vwL_drawn_l90 fu) h28
