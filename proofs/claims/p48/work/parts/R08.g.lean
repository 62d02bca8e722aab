/- ('X11', 'visible') -/
def wX11_visible_b94 (K J : Nat → Nat) (fu : Nat) (F : VF) (k4 : HS → HI → HR → Nat → Nat → Int32 → Int32 → Prop) (sh : HS) (I : HI) (R : HR) (l0 : Nat) (l1 : Nat) (l2 : Int32) (l3 : Int32) : Prop :=
  k4 sh I R l0 l1 l2 (l3 + 1)
theorem vwX11_visible_b94 {l : Launch} {K J : Nat → Nat} {fu : Nat} {F : VF} {k4 : HS → HI → HR → Nat → Nat → Int32 → Int32 → Prop} (hk4 : ∀ {sh : HS} {I : HI} {R : HR} {l0 : Nat} {l1 : Nat} {l2 : Int32} {l3 : Int32}, k4 sh I R l0 l1 l2 l3 → MW l K J 120 4 [some (.ref l0), some (.ref l1), some (.int l2), some (.int l3)] [] sh I R (0, 0) F) {sh : HS} {I : HI} {R : HR} {l0 : Nat} {l1 : Nat} {l2 : Int32} {l3 : Int32} (h0 : wX11_visible_b94 K J fu F k4 sh I R l0 l1 l2 l3) : MW l K J 120 94 [some (.ref l0), some (.ref l1), some (.int l2), some (.int l3)] [] sh I R (0, 0) F := by
  unfold wX11_visible_b94 at h0
  refine mw_inc (i := 3) (z := 1) (pc' := 97) (L' := [some (.ref l0), some (.ref l1), some (.int l2), some (.int (l3 + 1))]) (by decide +kernel) rfl rfl rfl ?_
  refine mw_go (t := 4) (by decide +kernel) ?_
  exact hk4 h0
def wX11_visible_b92 (K J : Nat → Nat) (fu : Nat) (F : VF) (k4 : HS → HI → HR → Nat → Nat → Int32 → Int32 → Prop) (sh : HS) (I : HI) (R : HR) (l0 : Nat) (l1 : Nat) (l3 : Int32) (s0 : Int32) (s1 : Int32) : Prop :=
  (wX11_visible_b94 K J fu F k4) sh I R l0 l1 (s1 ||| s0) l3
theorem vwX11_visible_b92 {l : Launch} {K J : Nat → Nat} {fu : Nat} {F : VF} {k4 : HS → HI → HR → Nat → Nat → Int32 → Int32 → Prop} (hk4 : ∀ {sh : HS} {I : HI} {R : HR} {l0 : Nat} {l1 : Nat} {l2 : Int32} {l3 : Int32}, k4 sh I R l0 l1 l2 l3 → MW l K J 120 4 [some (.ref l0), some (.ref l1), some (.int l2), some (.int l3)] [] sh I R (0, 0) F) {sh : HS} {I : HI} {R : HR} {l0 : Nat} {l1 : Nat} {l3 : Int32} {s0 : Int32} {s1 : Int32} {d2 : Option Value} (h0 : wX11_visible_b92 K J fu F k4 sh I R l0 l1 l3 s0 s1) : MW l K J 120 92 [some (.ref l0), some (.ref l1), d2, some (.int l3)] [.int s0, .int s1] sh I R (0, 0) F := by
  unfold wX11_visible_b92 at h0
  refine mw_a (ins := .ior) (pc' := 93) (by decide +kernel) rfl ?_
  refine mw_is (i := 2) (pc' := 94) (L' := [some (.ref l0), some (.ref l1), some (.int (s1 ||| s0)), some (.int l3)]) (by decide +kernel) rfl rfl ?_
  exact (vwX11_visible_b94 hk4) h0
def wX11_visible_b46 (K J : Nat → Nat) (fu : Nat) (F : VF) (k4 : HS → HI → HR → Nat → Nat → Int32 → Int32 → Prop) (sh : HS) (I : HI) (R : HR) (l0 : Nat) (l1 : Nat) (l2 : Int32) (l3 : Int32) : Prop :=
  rcvB sh l0 9 = true ∧
  wX11_view K J fu sh I R l0 l1 (qwI fun v7 t7 i7 j7 =>
  rcvB t7 l0 9 = true ∧
  wX11_ax K J fu t7 i7 j7 l0 l1 l3 (qwI fun v9 t9 i9 j9 =>
  wB (oA2 t9 i9 l1 1) fun v10 =>
  rcvB t9 l0 9 = true ∧
  wX11_ay K J fu t9 i9 j9 l0 l1 l3 (qwI fun v12 t12 i12 j12 =>
  wB (oA2 t12 i12 l1 2) fun v13 =>
  wB (fX11_direction fu t12 i12 j12 (v9 - v10) (v12 - v13)) fun v14 =>
  wB (fX11_turn fu t12 i12 j12 v7 v14) fun v15 =>
  wB (oI t12 i12 l0 9 2) fun v16 =>
  if v16 < v15 then
    ((wX11_visible_b92 K J fu F k4) t12 i12 j12 l0 l1 l3 0 l2)
  else
    ((wX11_visible_b92 K J fu F k4) t12 i12 j12 l0 l1 l3 ((1 : Int32) <<< (l3 &&& 31)) l2))))
theorem vwX11_visible_b46 {l : Launch} {K J : Nat → Nat} {fu : Nat} {F : VF} {k4 : HS → HI → HR → Nat → Nat → Int32 → Int32 → Prop} (hk4 : ∀ {sh : HS} {I : HI} {R : HR} {l0 : Nat} {l1 : Nat} {l2 : Int32} {l3 : Int32}, k4 sh I R l0 l1 l2 l3 → MW l K J 120 4 [some (.ref l0), some (.ref l1), some (.int l2), some (.int l3)] [] sh I R (0, 0) F) {sh : HS} {I : HI} {R : HR} {l0 : Nat} {l1 : Nat} {l2 : Int32} {l3 : Int32} (h0 : wX11_visible_b46 K J fu F k4 sh I R l0 l1 l2 l3) : MW l K J 120 46 [some (.ref l0), some (.ref l1), some (.int l2), some (.int l3)] [] sh I R (0, 0) F := by
  unfold wX11_visible_b46 at h0
  refine mw_il (i := 2) (pc' := 47) (by decide +kernel) rfl ?_
  refine mw_rl (i := 0) (pc' := 48) (by decide +kernel) rfl ?_
  refine mw_rl (i := 1) (pc' := 49) (by decide +kernel) rfl ?_
  obtain ⟨q6, h1⟩ := h0
  refine mwx_I (q := 117) (na := 2) (ce := 0) (sl := 0) (X := 0) (Y := 0) (as := [.ref l1, .ref l0]) (by decide +kernel) ⟨Nat.le_refl _, Nat.le_refl _⟩ rfl rfl (by rw [show mL 117 = 2 from by decide +kernel]; rfl) rfl (fun _ => rv_of q6 (by decide +kernel)) (fun z => absurd z (by decide +kernel)) (vwX11_view h1) (fun v7 t7 i7 j7 h2 => ?_); clear h1
  refine mw_rl (i := 0) (pc' := 53) (by decide +kernel) rfl ?_
  refine mw_rl (i := 1) (pc' := 54) (by decide +kernel) rfl ?_
  refine mw_il (i := 3) (pc' := 55) (by decide +kernel) rfl ?_
  obtain ⟨q8, h3⟩ := h2
  refine mwx_I (q := 115) (na := 3) (ce := 0) (sl := 0) (X := 0) (Y := 0) (as := [.int l3, .ref l1, .ref l0]) (by decide +kernel) ⟨Nat.le_refl _, Nat.le_refl _⟩ rfl rfl (by rw [show mL 115 = 3 from by decide +kernel]; rfl) rfl (fun _ => rv_of q8 (by decide +kernel)) (fun z => absurd z (by decide +kernel)) (vwX11_ax h3) (fun v9 t9 i9 j9 h4 => ?_); clear h3
  refine mw_rl (i := 1) (pc' := 59) (by decide +kernel) rfl ?_
  refine mw_c (v := 1) (pc' := 60) (by decide +kernel) ?_
  refine mw_al (by decide +kernel) h4 (fun v10 h5 => ?_); clear h4
  refine mw_a (ins := .isub) (pc' := 62) (by decide +kernel) rfl ?_
  refine mw_rl (i := 0) (pc' := 63) (by decide +kernel) rfl ?_
  refine mw_rl (i := 1) (pc' := 64) (by decide +kernel) rfl ?_
  refine mw_il (i := 3) (pc' := 65) (by decide +kernel) rfl ?_
  obtain ⟨q11, h6⟩ := h5
  refine mwx_I (q := 116) (na := 3) (ce := 0) (sl := 0) (X := 0) (Y := 0) (as := [.int l3, .ref l1, .ref l0]) (by decide +kernel) ⟨Nat.le_refl _, Nat.le_refl _⟩ rfl rfl (by rw [show mL 116 = 3 from by decide +kernel]; rfl) rfl (fun _ => rv_of q11 (by decide +kernel)) (fun z => absurd z (by decide +kernel)) (vwX11_ay h6) (fun v12 t12 i12 j12 h7 => ?_); clear h6
  refine mw_rl (i := 1) (pc' := 69) (by decide +kernel) rfl ?_
  refine mw_c (v := 2) (pc' := 70) (by decide +kernel) ?_
  refine mw_al (by decide +kernel) h7 (fun v13 h8 => ?_); clear h7
  refine mw_a (ins := .isub) (pc' := 72) (by decide +kernel) rfl ?_
  refine hX11_direction (X := 0) (Y := 0) (by decide +kernel) ⟨Nat.le_refl _, Nat.le_refl _⟩ rfl h8 (fun v14 h9 => ?_); clear h8
  refine hX11_turn (X := 0) (Y := 0) (by decide +kernel) ⟨Nat.le_refl _, Nat.le_refl _⟩ rfl h9 (fun v15 h10 => ?_); clear h9
  refine mw_rl (i := 0) (pc' := 79) (by decide +kernel) rfl ?_
  refine mw_fI (ix := 63) (t := 9) (j := 2) (ty := 0) (md := 0) (by decide +kernel) (by decide) h10 (fun v16 h11 => ?_); clear h10
  refine mw_if (ins := .if_icmp .gt 9) (t := 91) (pc' := 85) (by decide +kernel) rfl rfl rfl h11 (fun p12 h12 => ?_) (fun p12 h12 => ?_) <;> clear h11
  · refine mw_c (v := 0) (pc' := 92) (by decide +kernel) ?_
    exact (vwX11_visible_b92 hk4) h12
  · refine mw_c (v := 1) (pc' := 86) (by decide +kernel) ?_
    refine mw_il (i := 3) (pc' := 87) (by decide +kernel) rfl ?_
    refine mw_a (ins := .ishl) (pc' := 88) (by decide +kernel) rfl ?_
    refine mw_go (t := 92) (by decide +kernel) ?_
    exact (vwX11_visible_b92 hk4) h12
def wX11_visible_b4 (K J : Nat → Nat) (fu : Nat) (F : VF) (k4 : HS → HI → HR → Nat → Nat → Int32 → Int32 → Prop) (sh : HS) (I : HI) (R : HR) (l0 : Nat) (l1 : Nat) (l2 : Int32) (l3 : Int32) : Prop :=
  if (6 : Int32) ≤ l3 then
    (F (.inl (some (.int l2))) sh I R)
  else
    (rcvB sh l0 9 = true ∧
    wX11_ax K J fu sh I R l0 l1 l3 (qwI fun v2 t2 i2 j2 =>
    if v2 < 0 then
      ((wX11_visible_b94 K J fu F k4) t2 i2 j2 l0 l1 l2 l3)
    else
      (rcvB t2 l0 9 = true ∧
      wX11_ax K J fu t2 i2 j2 l0 l1 l3 (qwI fun v4 t4 i4 j4 =>
      wB (oA2 t4 i4 l1 1) fun v5 =>
      if v4 = v5 then
        (rcvB t4 l0 9 = true ∧
        wX11_ay K J fu t4 i4 j4 l0 l1 l3 (qwI fun v18 t18 i18 j18 =>
        wB (oA2 t18 i18 l1 2) fun v19 =>
        if v18 = v19 then
          ((wX11_visible_b94 K J fu F k4) t18 i18 j18 l0 l1 l2 l3)
        else
          ((wX11_visible_b46 K J fu F k4) t18 i18 j18 l0 l1 l2 l3)))
      else
        ((wX11_visible_b46 K J fu F k4) t4 i4 j4 l0 l1 l2 l3)))))
theorem vwX11_visible_b4 {l : Launch} {K J : Nat → Nat} {fu : Nat} {F : VF} {k4 : HS → HI → HR → Nat → Nat → Int32 → Int32 → Prop} (hk4 : ∀ {sh : HS} {I : HI} {R : HR} {l0 : Nat} {l1 : Nat} {l2 : Int32} {l3 : Int32}, k4 sh I R l0 l1 l2 l3 → MW l K J 120 4 [some (.ref l0), some (.ref l1), some (.int l2), some (.int l3)] [] sh I R (0, 0) F) {sh : HS} {I : HI} {R : HR} {l0 : Nat} {l1 : Nat} {l2 : Int32} {l3 : Int32} (h0 : wX11_visible_b4 K J fu F k4 sh I R l0 l1 l2 l3) : MW l K J 120 4 [some (.ref l0), some (.ref l1), some (.int l2), some (.int l3)] [] sh I R (0, 0) F := by
  unfold wX11_visible_b4 at h0
  refine mw_il (i := 3) (pc' := 5) (by decide +kernel) rfl ?_
  refine mw_c (v := 6) (pc' := 7) (by decide +kernel) ?_
  refine mw_if (ins := .if_icmp .ge 93) (t := 100) (pc' := 10) (by decide +kernel) rfl rfl rfl h0 (fun p1 h1 => ?_) (fun p1 h1 => ?_) <;> clear h0
  · refine mw_il (i := 2) (pc' := 101) (by decide +kernel) rfl ?_
    exact mw_ri (X := 0) (Y := 0) (by decide +kernel) ⟨Nat.le_refl _, Nat.le_refl _⟩ h1
  · refine mw_rl (i := 0) (pc' := 11) (by decide +kernel) rfl ?_
    refine mw_rl (i := 1) (pc' := 12) (by decide +kernel) rfl ?_
    refine mw_il (i := 3) (pc' := 13) (by decide +kernel) rfl ?_
    obtain ⟨q1, h2⟩ := h1
    refine mwx_I (q := 115) (na := 3) (ce := 0) (sl := 0) (X := 0) (Y := 0) (as := [.int l3, .ref l1, .ref l0]) (by decide +kernel) ⟨Nat.le_refl _, Nat.le_refl _⟩ rfl rfl (by rw [show mL 115 = 3 from by decide +kernel]; rfl) rfl (fun _ => rv_of q1 (by decide +kernel)) (fun z => absurd z (by decide +kernel)) (vwX11_ax h2) (fun v2 t2 i2 j2 h3 => ?_); clear h2
    refine mw_if (ins := .ifCond .lt 78) (t := 94) (pc' := 19) (by decide +kernel) rfl rfl rfl h3 (fun p4 h4 => ?_) (fun p4 h4 => ?_) <;> clear h3
    · exact (vwX11_visible_b94 hk4) h4
    · refine mw_rl (i := 0) (pc' := 20) (by decide +kernel) rfl ?_
      refine mw_rl (i := 1) (pc' := 21) (by decide +kernel) rfl ?_
      refine mw_il (i := 3) (pc' := 22) (by decide +kernel) rfl ?_
      obtain ⟨q3, h5⟩ := h4
      refine mwx_I (q := 115) (na := 3) (ce := 0) (sl := 0) (X := 0) (Y := 0) (as := [.int l3, .ref l1, .ref l0]) (by decide +kernel) ⟨Nat.le_refl _, Nat.le_refl _⟩ rfl rfl (by rw [show mL 115 = 3 from by decide +kernel]; rfl) rfl (fun _ => rv_of q3 (by decide +kernel)) (fun z => absurd z (by decide +kernel)) (vwX11_ax h5) (fun v4 t4 i4 j4 h6 => ?_); clear h5
      refine mw_rl (i := 1) (pc' := 26) (by decide +kernel) rfl ?_
      refine mw_c (v := 1) (pc' := 27) (by decide +kernel) ?_
      refine mw_al (by decide +kernel) h6 (fun v5 h7 => ?_); clear h6
      refine mw_ifn (ins := .if_icmp .ne 18) (t := 46) (pc' := 31) (by decide +kernel) rfl rfl rfl h7 (fun p8 h8 => ?_) (fun p8 h8 => ?_) <;> clear h7
      · exact (vwX11_visible_b46 hk4) h8
      · refine mw_rl (i := 0) (pc' := 32) (by decide +kernel) rfl ?_
        refine mw_rl (i := 1) (pc' := 33) (by decide +kernel) rfl ?_
        refine mw_il (i := 3) (pc' := 34) (by decide +kernel) rfl ?_
        obtain ⟨q17, h9⟩ := h8
        refine mwx_I (q := 116) (na := 3) (ce := 0) (sl := 0) (X := 0) (Y := 0) (as := [.int l3, .ref l1, .ref l0]) (by decide +kernel) ⟨Nat.le_refl _, Nat.le_refl _⟩ rfl rfl (by rw [show mL 116 = 3 from by decide +kernel]; rfl) rfl (fun _ => rv_of q17 (by decide +kernel)) (fun z => absurd z (by decide +kernel)) (vwX11_ay h9) (fun v18 t18 i18 j18 h10 => ?_); clear h9
        refine mw_rl (i := 1) (pc' := 38) (by decide +kernel) rfl ?_
        refine mw_c (v := 2) (pc' := 39) (by decide +kernel) ?_
        refine mw_al (by decide +kernel) h10 (fun v19 h11 => ?_); clear h10
        refine mw_ifn (ins := .if_icmp .ne 6) (t := 46) (pc' := 43) (by decide +kernel) rfl rfl rfl h11 (fun p12 h12 => ?_) (fun p12 h12 => ?_) <;> clear h11
        · exact (vwX11_visible_b46 hk4) h12
        · refine mw_go (t := 94) (by decide +kernel) ?_
          exact (vwX11_visible_b94 hk4) h12
def wX11_visible_l4 (K J : Nat → Nat) (fu : Nat) (F : VF) : Nat → HS → HI → HR → Nat → Nat → Int32 → Int32 → Prop
  | 0 => fun _ _ _ _ _ _ _ => False
  | n + 1 => wX11_visible_b4 K J fu F (wX11_visible_l4 K J fu F n)
theorem vwX11_visible_l4 {l : Launch} {K J : Nat → Nat} {fu : Nat} {F : VF} : ∀ (n : Nat) {sh : HS} {I : HI} {R : HR} {l0 : Nat} {l1 : Nat} {l2 : Int32} {l3 : Int32} (_ : wX11_visible_l4 K J fu F n sh I R l0 l1 l2 l3), MW l K J 120 4 [some (.ref l0), some (.ref l1), some (.int l2), some (.int l3)] [] sh I R (0, 0) F := by
  intro n
  induction n with
  | zero => exact fun h0 => h0.elim
  | succ n ih => exact fun h0 => vwX11_visible_b4 ih h0
def wX11_visible (K J : Nat → Nat) (fu : Nat) (sh : HS) (I : HI) (R : HR) (l0 : Nat) (l1 : Nat) (F : VF) : Prop :=
  (wX11_visible_l4 K J fu F fu) sh I R l0 l1 0 0
theorem vwX11_visible {l : Launch} {K J : Nat → Nat} {fu : Nat} {sh : HS} {I : HI} {R : HR} {l0 : Nat} {l1 : Nat} {F : VF} (h0 : wX11_visible K J fu sh I R l0 l1 F) : MW l K J 120 0 (ent (mL 120) [.ref l0, .ref l1]) [] sh I R (0, 0) F := by
  unfold wX11_visible at h0
  have ml : mL 120 = 4 := by decide +kernel
  rw [ml]
  show MW l K J 120 0 [some (.ref l0), some (.ref l1), none, none] [] sh I R (0, 0) F
  refine mw_c (v := 0) (pc' := 1) (by decide +kernel) ?_
  refine mw_is (i := 2) (pc' := 2) (L' := [some (.ref l0), some (.ref l1), some (.int 0), none]) (by decide +kernel) rfl rfl ?_
  refine mw_c (v := 0) (pc' := 3) (by decide +kernel) ?_
  refine mw_is (i := 3) (pc' := 4) (L' := [some (.ref l0), some (.ref l1), some (.int 0), some (.int 0)]) (by decide +kernel) rfl rfl ?_
  exact (vwX11_visible_l4 fu) h0
/- ('L', 'eyeline') -/
def wL_eyeline_b93 (K J : Nat → Nat) (fu : Nat) (F : VF) (sh : HS) (I : HI) (R : HR) (s0 : Int32) : Prop :=
  F (.inl (some (.int s0))) sh I R
theorem vwL_eyeline_b93 {l : Launch} {K J : Nat → Nat} {fu : Nat} {F : VF} {sh : HS} {I : HI} {R : HR} {s0 : Int32} {d0 d1 d2 d3 : Option Value} (h0 : wL_eyeline_b93 K J fu F sh I R s0) : MW l K J 186 93 [d0, d1, d2, d3] [.int s0] sh I R (0, 0) F := by
  unfold wL_eyeline_b93 at h0
  exact mw_ri (X := 0) (Y := 0) (by decide +kernel) ⟨Nat.le_refl _, Nat.le_refl _⟩ h0
def wL_eyeline_b58 (K J : Nat → Nat) (fu : Nat) (F : VF) (sh : HS) (I : HI) (R : HR) (l0 : Nat) (l1 : Nat) (l2 : Int32) (l3 : Int32) : Prop :=
  wB (fX11_direction fu sh I R l2 l3) fun v14 =>
  wB (oA2 sh I l1 1) fun v15 =>
  wB (oA2 sh I l1 3) fun v16 =>
  rcvB sh l0 9 = true ∧
  wX11_ax K J fu sh I R l0 l1 v16 (qwI fun v18 t18 i18 j18 =>
  wB (oA2 t18 i18 l1 2) fun v19 =>
  wB (oA2 t18 i18 l1 3) fun v20 =>
  rcvB t18 l0 9 = true ∧
  wX11_ay K J fu t18 i18 j18 l0 l1 v20 (qwI fun v22 t22 i22 j22 =>
  wB (fX11_direction fu t22 i22 j22 (v15 - v18) (v19 - v22)) fun v23 =>
  wB (fX11_turn fu t22 i22 j22 v14 v23) fun v24 =>
  (wL_eyeline_b93 K J fu F) t22 i22 j22 v24))
theorem vwL_eyeline_b58 {l : Launch} {K J : Nat → Nat} {fu : Nat} {F : VF} {sh : HS} {I : HI} {R : HR} {l0 : Nat} {l1 : Nat} {l2 : Int32} {l3 : Int32} (h0 : wL_eyeline_b58 K J fu F sh I R l0 l1 l2 l3) : MW l K J 186 58 [some (.ref l0), some (.ref l1), some (.int l2), some (.int l3)] [] sh I R (0, 0) F := by
  unfold wL_eyeline_b58 at h0
  refine mw_il (i := 2) (pc' := 59) (by decide +kernel) rfl ?_
  refine mw_il (i := 3) (pc' := 60) (by decide +kernel) rfl ?_
  refine hX11_direction (X := 0) (Y := 0) (by decide +kernel) ⟨Nat.le_refl _, Nat.le_refl _⟩ rfl h0 (fun v14 h1 => ?_); clear h0
  refine mw_rl (i := 1) (pc' := 64) (by decide +kernel) rfl ?_
  refine mw_c (v := 1) (pc' := 65) (by decide +kernel) ?_
  refine mw_al (by decide +kernel) h1 (fun v15 h2 => ?_); clear h1
  refine mw_rl (i := 0) (pc' := 67) (by decide +kernel) rfl ?_
  refine mw_rl (i := 1) (pc' := 68) (by decide +kernel) rfl ?_
  refine mw_rl (i := 1) (pc' := 69) (by decide +kernel) rfl ?_
  refine mw_c (v := 3) (pc' := 70) (by decide +kernel) ?_
  refine mw_al (by decide +kernel) h2 (fun v16 h3 => ?_); clear h2
  obtain ⟨q17, h4⟩ := h3
  refine mwx_I (q := 115) (na := 3) (ce := 0) (sl := 0) (X := 0) (Y := 0) (as := [.int v16, .ref l1, .ref l0]) (by decide +kernel) ⟨Nat.le_refl _, Nat.le_refl _⟩ rfl rfl (by rw [show mL 115 = 3 from by decide +kernel]; rfl) rfl (fun _ => rv_of q17 (by decide +kernel)) (fun z => absurd z (by decide +kernel)) (vwX11_ax h4) (fun v18 t18 i18 j18 h5 => ?_); clear h4
  refine mw_a (ins := .isub) (pc' := 75) (by decide +kernel) rfl ?_
  refine mw_rl (i := 1) (pc' := 76) (by decide +kernel) rfl ?_
  refine mw_c (v := 2) (pc' := 77) (by decide +kernel) ?_
  refine mw_al (by decide +kernel) h5 (fun v19 h6 => ?_); clear h5
  refine mw_rl (i := 0) (pc' := 79) (by decide +kernel) rfl ?_
  refine mw_rl (i := 1) (pc' := 80) (by decide +kernel) rfl ?_
  refine mw_rl (i := 1) (pc' := 81) (by decide +kernel) rfl ?_
  refine mw_c (v := 3) (pc' := 82) (by decide +kernel) ?_
  refine mw_al (by decide +kernel) h6 (fun v20 h7 => ?_); clear h6
  obtain ⟨q21, h8⟩ := h7
  refine mwx_I (q := 116) (na := 3) (ce := 0) (sl := 0) (X := 0) (Y := 0) (as := [.int v20, .ref l1, .ref l0]) (by decide +kernel) ⟨Nat.le_refl _, Nat.le_refl _⟩ rfl rfl (by rw [show mL 116 = 3 from by decide +kernel]; rfl) rfl (fun _ => rv_of q21 (by decide +kernel)) (fun z => absurd z (by decide +kernel)) (vwX11_ay h8) (fun v22 t22 i22 j22 h9 => ?_); clear h8
  refine mw_a (ins := .isub) (pc' := 87) (by decide +kernel) rfl ?_
  refine hX11_direction (X := 0) (Y := 0) (by decide +kernel) ⟨Nat.le_refl _, Nat.le_refl _⟩ rfl h9 (fun v23 h10 => ?_); clear h9
  refine hX11_turn (X := 0) (Y := 0) (by decide +kernel) ⟨Nat.le_refl _, Nat.le_refl _⟩ rfl h10 (fun v24 h11 => ?_); clear h10
  exact (vwL_eyeline_b93) h11
def wL_eyeline (K J : Nat → Nat) (fu : Nat) (sh : HS) (I : HI) (R : HR) (l0 : Nat) (l1 : Nat) (F : VF) : Prop :=
  wB (oA2 sh I l1 4) fun v1 =>
  if 0 ≤ v1 then
    (wB (oA2 sh I l1 4) fun v2 =>
    rcvB sh l0 9 = true ∧
    wX11_ax K J fu sh I R l0 l1 v2 (qwI fun v4 t4 i4 j4 =>
    wB (oA2 t4 i4 l1 3) fun v5 =>
    rcvB t4 l0 9 = true ∧
    wX11_ax K J fu t4 i4 j4 l0 l1 v5 (qwI fun v7 t7 i7 j7 =>
    wB (oA2 t7 i7 l1 4) fun v8 =>
    rcvB t7 l0 9 = true ∧
    wX11_ay K J fu t7 i7 j7 l0 l1 v8 (qwI fun v10 t10 i10 j10 =>
    wB (oA2 t10 i10 l1 3) fun v11 =>
    rcvB t10 l0 9 = true ∧
    wX11_ay K J fu t10 i10 j10 l0 l1 v11 (qwI fun v13 t13 i13 j13 =>
    if (v4 - v7) = 0 then
      (if (v10 - v13) = 0 then
        ((wL_eyeline_b93 K J fu F) t13 i13 j13 (-3))
      else
        ((wL_eyeline_b58 K J fu F) t13 i13 j13 l0 l1 (v4 - v7) (v10 - v13)))
    else
      ((wL_eyeline_b58 K J fu F) t13 i13 j13 l0 l1 (v4 - v7) (v10 - v13)))))))
  else
    (F (.inl (some (.int (-2)))) sh I R)
theorem vwL_eyeline {l : Launch} {K J : Nat → Nat} {fu : Nat} {sh : HS} {I : HI} {R : HR} {l0 : Nat} {l1 : Nat} {F : VF} (h0 : wL_eyeline K J fu sh I R l0 l1 F) : MW l K J 186 0 (ent (mL 186) [.ref l0, .ref l1]) [] sh I R (0, 0) F := by
  unfold wL_eyeline at h0
  have ml : mL 186 = 4 := by decide +kernel
  rw [ml]
  show MW l K J 186 0 [some (.ref l0), some (.ref l1), none, none] [] sh I R (0, 0) F
  refine mw_rl (i := 1) (pc' := 1) (by decide +kernel) rfl ?_
  refine mw_c (v := 4) (pc' := 2) (by decide +kernel) ?_
  refine mw_al (by decide +kernel) h0 (fun v1 h1 => ?_); clear h0
  refine mw_if (ins := .ifCond .ge 6) (t := 9) (pc' := 6) (by decide +kernel) rfl rfl rfl h1 (fun p2 h2 => ?_) (fun p2 h2 => ?_) <;> clear h1
  · refine mw_rl (i := 0) (pc' := 10) (by decide +kernel) rfl ?_
    refine mw_rl (i := 1) (pc' := 11) (by decide +kernel) rfl ?_
    refine mw_rl (i := 1) (pc' := 12) (by decide +kernel) rfl ?_
    refine mw_c (v := 4) (pc' := 13) (by decide +kernel) ?_
    refine mw_al (by decide +kernel) h2 (fun v2 h3 => ?_); clear h2
    obtain ⟨q3, h4⟩ := h3
    refine mwx_I (q := 115) (na := 3) (ce := 0) (sl := 0) (X := 0) (Y := 0) (as := [.int v2, .ref l1, .ref l0]) (by decide +kernel) ⟨Nat.le_refl _, Nat.le_refl _⟩ rfl rfl (by rw [show mL 115 = 3 from by decide +kernel]; rfl) rfl (fun _ => rv_of q3 (by decide +kernel)) (fun z => absurd z (by decide +kernel)) (vwX11_ax h4) (fun v4 t4 i4 j4 h5 => ?_); clear h4
    refine mw_rl (i := 0) (pc' := 18) (by decide +kernel) rfl ?_
    refine mw_rl (i := 1) (pc' := 19) (by decide +kernel) rfl ?_
    refine mw_rl (i := 1) (pc' := 20) (by decide +kernel) rfl ?_
    refine mw_c (v := 3) (pc' := 21) (by decide +kernel) ?_
    refine mw_al (by decide +kernel) h5 (fun v5 h6 => ?_); clear h5
    obtain ⟨q6, h7⟩ := h6
    refine mwx_I (q := 115) (na := 3) (ce := 0) (sl := 0) (X := 0) (Y := 0) (as := [.int v5, .ref l1, .ref l0]) (by decide +kernel) ⟨Nat.le_refl _, Nat.le_refl _⟩ rfl rfl (by rw [show mL 115 = 3 from by decide +kernel]; rfl) rfl (fun _ => rv_of q6 (by decide +kernel)) (fun z => absurd z (by decide +kernel)) (vwX11_ax h7) (fun v7 t7 i7 j7 h8 => ?_); clear h7
    refine mw_a (ins := .isub) (pc' := 26) (by decide +kernel) rfl ?_
    refine mw_is (i := 2) (pc' := 27) (L' := [some (.ref l0), some (.ref l1), some (.int (v4 - v7)), none]) (by decide +kernel) rfl rfl ?_
    refine mw_rl (i := 0) (pc' := 28) (by decide +kernel) rfl ?_
    refine mw_rl (i := 1) (pc' := 29) (by decide +kernel) rfl ?_
    refine mw_rl (i := 1) (pc' := 30) (by decide +kernel) rfl ?_
    refine mw_c (v := 4) (pc' := 31) (by decide +kernel) ?_
    refine mw_al (by decide +kernel) h8 (fun v8 h9 => ?_); clear h8
    obtain ⟨q9, h10⟩ := h9
    refine mwx_I (q := 116) (na := 3) (ce := 0) (sl := 0) (X := 0) (Y := 0) (as := [.int v8, .ref l1, .ref l0]) (by decide +kernel) ⟨Nat.le_refl _, Nat.le_refl _⟩ rfl rfl (by rw [show mL 116 = 3 from by decide +kernel]; rfl) rfl (fun _ => rv_of q9 (by decide +kernel)) (fun z => absurd z (by decide +kernel)) (vwX11_ay h10) (fun v10 t10 i10 j10 h11 => ?_); clear h10
    refine mw_rl (i := 0) (pc' := 36) (by decide +kernel) rfl ?_
    refine mw_rl (i := 1) (pc' := 37) (by decide +kernel) rfl ?_
    refine mw_rl (i := 1) (pc' := 38) (by decide +kernel) rfl ?_
    refine mw_c (v := 3) (pc' := 39) (by decide +kernel) ?_
    refine mw_al (by decide +kernel) h11 (fun v11 h12 => ?_); clear h11
    obtain ⟨q12, h13⟩ := h12
    refine mwx_I (q := 116) (na := 3) (ce := 0) (sl := 0) (X := 0) (Y := 0) (as := [.int v11, .ref l1, .ref l0]) (by decide +kernel) ⟨Nat.le_refl _, Nat.le_refl _⟩ rfl rfl (by rw [show mL 116 = 3 from by decide +kernel]; rfl) rfl (fun _ => rv_of q12 (by decide +kernel)) (fun z => absurd z (by decide +kernel)) (vwX11_ay h13) (fun v13 t13 i13 j13 h14 => ?_); clear h13
    refine mw_a (ins := .isub) (pc' := 44) (by decide +kernel) rfl ?_
    refine mw_is (i := 3) (pc' := 45) (L' := [some (.ref l0), some (.ref l1), some (.int (v4 - v7)), some (.int (v10 - v13))]) (by decide +kernel) rfl rfl ?_
    refine mw_il (i := 2) (pc' := 46) (by decide +kernel) rfl ?_
    refine mw_ifn (ins := .ifCond .ne 12) (t := 58) (pc' := 49) (by decide +kernel) rfl rfl rfl h14 (fun p15 h15 => ?_) (fun p15 h15 => ?_) <;> clear h14
    · exact (vwL_eyeline_b58) h15
    · refine mw_il (i := 3) (pc' := 50) (by decide +kernel) rfl ?_
      refine mw_ifn (ins := .ifCond .ne 8) (t := 58) (pc' := 53) (by decide +kernel) rfl rfl rfl h15 (fun p16 h16 => ?_) (fun p16 h16 => ?_) <;> clear h15
      · exact (vwL_eyeline_b58) h16
      · refine mw_c (v := (-3)) (pc' := 55) (by decide +kernel) ?_
        refine mw_go (t := 93) (by decide +kernel) ?_
        exact (vwL_eyeline_b93) h16
  · refine mw_c (v := (-2)) (pc' := 8) (by decide +kernel) ?_
    exact mw_ri (X := 0) (Y := 0) (by decide +kernel) ⟨Nat.le_refl _, Nat.le_refl _⟩ h2
/- ('L', 'shotsHold') -/
def wL_shotsHold_b31 (K J : Nat → Nat) (fu : Nat) (F : VF) (k31 : HS → HI → HR → Nat → Nat → Nat → Nat → Int32 → Int32 → Nat → Int32 → Prop) (k61 : HS → HI → HR → Nat → Nat → Nat → Nat → Int32 → Int32 → Nat → Prop) (sh : HS) (I : HI) (R : HR) (c1 : Nat) (c2 : Nat) (l0 : Nat) (l1 : Nat) (l2 : Int32) (l3 : Int32) (l4 : Nat) (l5 : Int32) : Prop :=
  if (6 : Int32) ≤ l5 then
    (k61 sh I R c1 c2 l0 l1 l2 l3 l4)
  else
    ((c1 + 3 ≤ 900 ∧ c2 + 18 ≤ 5400) ∧
    wB (fX10_shot fu sh I R l0 l3 l5) fun r10 => wS r10 fun v10 =>
    wB (oA2 sh I l4 l5) fun v11 =>
    if v10 = v11 then
      (k31 sh I R (c1 + 3) (c2 + 18) l0 l1 l2 l3 l4 (l5 + 1))
    else
      (((c1 + 3) ≤ 900 ∧ (c2 + 18) ≤ 5400) ∧
      F (.inl (some (.int 0))) sh I R))
theorem vwL_shotsHold_b31 {l : Launch} {K J : Nat → Nat} {fu : Nat} {F : VF} {k31 : HS → HI → HR → Nat → Nat → Nat → Nat → Int32 → Int32 → Nat → Int32 → Prop} {k61 : HS → HI → HR → Nat → Nat → Nat → Nat → Int32 → Int32 → Nat → Prop} (hk31 : ∀ {sh : HS} {I : HI} {R : HR} {c1 : Nat} {c2 : Nat} {l0 : Nat} {l1 : Nat} {l2 : Int32} {l3 : Int32} {l4 : Nat} {l5 : Int32}, k31 sh I R c1 c2 l0 l1 l2 l3 l4 l5 → MW l K J 185 31 [some (.ref l0), some (.ref l1), some (.int l2), some (.int l3), some (.ref l4), some (.int l5)] [] sh I R (c1, c2) F) (hk61 : ∀ {sh : HS} {I : HI} {R : HR} {c1 : Nat} {c2 : Nat} {l0 : Nat} {l1 : Nat} {l2 : Int32} {l3 : Int32} {l4 : Nat} {d5 : Option Value}, k61 sh I R c1 c2 l0 l1 l2 l3 l4 → MW l K J 185 61 [some (.ref l0), some (.ref l1), some (.int l2), some (.int l3), some (.ref l4), d5] [] sh I R (c1, c2) F) {sh : HS} {I : HI} {R : HR} {c1 : Nat} {c2 : Nat} {l0 : Nat} {l1 : Nat} {l2 : Int32} {l3 : Int32} {l4 : Nat} {l5 : Int32} (h0 : wL_shotsHold_b31 K J fu F k31 k61 sh I R c1 c2 l0 l1 l2 l3 l4 l5) : MW l K J 185 31 [some (.ref l0), some (.ref l1), some (.int l2), some (.int l3), some (.ref l4), some (.int l5)] [] sh I R (c1, c2) F := by
  unfold wL_shotsHold_b31 at h0
  refine mw_il (i := 5) (pc' := 33) (by decide +kernel) rfl ?_
  refine mw_c (v := 6) (pc' := 35) (by decide +kernel) ?_
  refine mw_if (ins := .if_icmp .ge 26) (t := 61) (pc' := 38) (by decide +kernel) rfl rfl rfl h0 (fun p1 h1 => ?_) (fun p1 h1 => ?_) <;> clear h0
  · exact hk61 h1
  · refine mw_rl (i := 0) (pc' := 39) (by decide +kernel) rfl ?_
    refine mw_il (i := 3) (pc' := 40) (by decide +kernel) rfl ?_
    refine mw_il (i := 5) (pc' := 42) (by decide +kernel) rfl ?_
    obtain ⟨r9, h2⟩ := h1
    refine hX10_shot (X := 900) (Y := 5400) (by decide +kernel) r9 rfl h2 (fun v10 h3 => ?_); clear h2
    refine mw_rl (i := 4) (pc' := 47) (by decide +kernel) rfl ?_
    refine mw_il (i := 5) (pc' := 49) (by decide +kernel) rfl ?_
    refine mw_al (by decide +kernel) h3 (fun v11 h4 => ?_); clear h3
    refine mw_if (ins := .if_icmp .eq 5) (t := 55) (pc' := 53) (by decide +kernel) rfl rfl rfl h4 (fun p5 h5 => ?_) (fun p5 h5 => ?_) <;> clear h4
    · refine mw_inc (i := 5) (z := 1) (pc' := 58) (L' := [some (.ref l0), some (.ref l1), some (.int l2), some (.int l3), some (.ref l4), some (.int (l5 + 1))]) (by decide +kernel) rfl rfl rfl ?_
      refine mw_go (t := 31) (by decide +kernel) ?_
      exact hk31 h5
    · refine mw_c (v := 0) (pc' := 54) (by decide +kernel) ?_
      obtain ⟨r12, h6⟩ := h5
      exact mw_rz (X := 900) (Y := 5400) (by decide +kernel) (by decide) r12 h6
def wL_shotsHold_l31 (K J : Nat → Nat) (fu : Nat) (F : VF) (k61 : HS → HI → HR → Nat → Nat → Nat → Nat → Int32 → Int32 → Nat → Prop) : Nat → HS → HI → HR → Nat → Nat → Nat → Nat → Int32 → Int32 → Nat → Int32 → Prop
  | 0 => fun _ _ _ _ _ _ _ _ _ _ _ => False
  | n + 1 => wL_shotsHold_b31 K J fu F (wL_shotsHold_l31 K J fu F k61 n) k61
theorem vwL_shotsHold_l31 {l : Launch} {K J : Nat → Nat} {fu : Nat} {F : VF} {k61 : HS → HI → HR → Nat → Nat → Nat → Nat → Int32 → Int32 → Nat → Prop} (hk61 : ∀ {sh : HS} {I : HI} {R : HR} {c1 : Nat} {c2 : Nat} {l0 : Nat} {l1 : Nat} {l2 : Int32} {l3 : Int32} {l4 : Nat} {d5 : Option Value}, k61 sh I R c1 c2 l0 l1 l2 l3 l4 → MW l K J 185 61 [some (.ref l0), some (.ref l1), some (.int l2), some (.int l3), some (.ref l4), d5] [] sh I R (c1, c2) F) : ∀ (n : Nat) {sh : HS} {I : HI} {R : HR} {c1 : Nat} {c2 : Nat} {l0 : Nat} {l1 : Nat} {l2 : Int32} {l3 : Int32} {l4 : Nat} {l5 : Int32} (_ : wL_shotsHold_l31 K J fu F k61 n sh I R c1 c2 l0 l1 l2 l3 l4 l5), MW l K J 185 31 [some (.ref l0), some (.ref l1), some (.int l2), some (.int l3), some (.ref l4), some (.int l5)] [] sh I R (c1, c2) F := by
  intro n
  induction n with
  | zero => exact fun h0 => h0.elim
  | succ n ih => exact fun h0 => vwL_shotsHold_b31 ih hk61 h0
def wL_shotsHold_b151 (K J : Nat → Nat) (fu : Nat) (F : VF) (k151 : HS → HI → HR → Nat → Nat → Nat → Nat → Int32 → Int32 → Nat → Int32 → Prop) (k203 : HS → HI → HR → Nat → Nat → Nat → Nat → Int32 → Int32 → Nat → Prop) (sh : HS) (I : HI) (R : HR) (c1 : Nat) (c2 : Nat) (l0 : Nat) (l1 : Nat) (l2 : Int32) (l3 : Int32) (l4 : Nat) (l5 : Int32) : Prop :=
  wB (oR sh R l1 9 3) fun v42 =>
  rcvB sh v42 10 = true ∧
  (c1 ≤ 900 ∧ c2 ≤ 5400) ∧
  wJx4a65c_size_8abf5 K J fu sh I R v42 (qwI fun v45 t45 i45 j45 =>
  if v45 ≤ l5 then
    (k203 t45 i45 j45 c1 c2 l0 l1 l2 l3 l4)
  else
    ((c1 + 3 ≤ 900 ∧ c2 + 18 ≤ 5400) ∧
    wB (fX10_isNear fu t45 i45 j45 l0 l3 l5) fun r47 => wS r47 fun v47 =>
    wB (oR t45 j45 l1 9 3) fun v48 =>
    rcvB t45 v48 10 = true ∧
    ((c1 + 3) ≤ 900 ∧ (c2 + 18) ≤ 5400) ∧
    wJx4a65c_get_915e3 K J fu t45 i45 j45 v48 l5 (qwR fun v51 t51 i51 j51 =>
    wB (oKt t51 v51 1) fun _ =>
    wB (oI t51 i51 l1 9 0) fun v52 =>
    rcvB t51 l1 9 = true ∧
    ((c1 + 3) ≤ 900 ∧ (c2 + 18) ≤ 5400) ∧
    wX11_near K J fu t51 i51 j51 l1 l4 v51 v52 (qwI fun v55 t55 i55 j55 =>
    if v47 = v55 then
      (k151 t55 i55 j55 (c1 + 3) (c2 + 18) l0 l1 l2 l3 l4 (l5 + 1))
    else
      (((c1 + 3) ≤ 900 ∧ (c2 + 18) ≤ 5400) ∧
      F (.inl (some (.int 0))) t55 i55 j55)))))
theorem vwL_shotsHold_b151 {l : Launch} {K J : Nat → Nat} {fu : Nat} {F : VF} {k151 : HS → HI → HR → Nat → Nat → Nat → Nat → Int32 → Int32 → Nat → Int32 → Prop} {k203 : HS → HI → HR → Nat → Nat → Nat → Nat → Int32 → Int32 → Nat → Prop} (hk151 : ∀ {sh : HS} {I : HI} {R : HR} {c1 : Nat} {c2 : Nat} {l0 : Nat} {l1 : Nat} {l2 : Int32} {l3 : Int32} {l4 : Nat} {l5 : Int32}, k151 sh I R c1 c2 l0 l1 l2 l3 l4 l5 → MW l K J 185 151 [some (.ref l0), some (.ref l1), some (.int l2), some (.int l3), some (.ref l4), some (.int l5)] [] sh I R (c1, c2) F) (hk203 : ∀ {sh : HS} {I : HI} {R : HR} {c1 : Nat} {c2 : Nat} {l0 : Nat} {l1 : Nat} {l2 : Int32} {l3 : Int32} {l4 : Nat} {d5 : Option Value}, k203 sh I R c1 c2 l0 l1 l2 l3 l4 → MW l K J 185 203 [some (.ref l0), some (.ref l1), some (.int l2), some (.int l3), some (.ref l4), d5] [] sh I R (c1, c2) F) {sh : HS} {I : HI} {R : HR} {c1 : Nat} {c2 : Nat} {l0 : Nat} {l1 : Nat} {l2 : Int32} {l3 : Int32} {l4 : Nat} {l5 : Int32} (h0 : wL_shotsHold_b151 K J fu F k151 k203 sh I R c1 c2 l0 l1 l2 l3 l4 l5) : MW l K J 185 151 [some (.ref l0), some (.ref l1), some (.int l2), some (.int l3), some (.ref l4), some (.int l5)] [] sh I R (c1, c2) F := by
  unfold wL_shotsHold_b151 at h0
  refine mw_il (i := 5) (pc' := 153) (by decide +kernel) rfl ?_
  refine mw_rl (i := 1) (pc' := 154) (by decide +kernel) rfl ?_
  refine mw_fR (ix := 48) (t := 9) (j := 3) (md := 1) (by decide +kernel) h0 (fun v42 h1 => ?_); clear h0
  obtain ⟨q43, h2⟩ := h1
  obtain ⟨r44, h3⟩ := h2
  refine mwx_I (q := 133) (na := 1) (ce := 0) (sl := 0) (X := 900) (Y := 5400) (as := [.ref v42]) (by decide +kernel) r44 rfl rfl (by rw [show mL 133 = 1 from by decide +kernel]; rfl) rfl (fun _ => rv_of q43 (by decide +kernel)) (fun z => absurd z (by decide +kernel)) (vwJx4a65c_size_8abf5 h3) (fun v45 t45 i45 j45 h4 => ?_); clear h3
  refine mw_if (ins := .if_icmp .ge 43) (t := 203) (pc' := 163) (by decide +kernel) rfl rfl rfl h4 (fun p5 h5 => ?_) (fun p5 h5 => ?_) <;> clear h4
  · exact hk203 h5
  · refine mw_rl (i := 0) (pc' := 164) (by decide +kernel) rfl ?_
    refine mw_il (i := 3) (pc' := 165) (by decide +kernel) rfl ?_
    refine mw_il (i := 5) (pc' := 167) (by decide +kernel) rfl ?_
    obtain ⟨r46, h6⟩ := h5
    refine hX10_isNear (X := 900) (Y := 5400) (by decide +kernel) r46 rfl h6 (fun v47 h7 => ?_); clear h6
    refine mw_rl (i := 1) (pc' := 171) (by decide +kernel) rfl ?_
    refine mw_rl (i := 4) (pc' := 173) (by decide +kernel) rfl ?_
    refine mw_rl (i := 1) (pc' := 174) (by decide +kernel) rfl ?_
    refine mw_fR (ix := 48) (t := 9) (j := 3) (md := 1) (by decide +kernel) h7 (fun v48 h8 => ?_); clear h7
    refine mw_il (i := 5) (pc' := 179) (by decide +kernel) rfl ?_
    obtain ⟨q49, h9⟩ := h8
    obtain ⟨r50, h10⟩ := h9
    refine mwx_R (q := 135) (na := 2) (ce := 0) (sl := 0) (X := 900) (Y := 5400) (as := [.int l5, .ref v48]) (by decide +kernel) r50 rfl rfl (by rw [show mL 135 = 2 from by decide +kernel]; rfl) rfl (fun _ => rv_of q49 (by decide +kernel)) (fun z => absurd z (by decide +kernel)) (vwJx4a65c_get_915e3 h10) (fun v51 t51 i51 j51 h11 => ?_); clear h10
    refine mw_cst (ix := 97) (v := 1) (by decide +kernel) h11 (fun h12 => ?_); clear h11
    refine mw_rl (i := 1) (pc' := 186) (by decide +kernel) rfl ?_
    refine mw_fI (ix := 17) (t := 9) (j := 0) (ty := 0) (md := 1) (by decide +kernel) (by decide) h12 (fun v52 h13 => ?_); clear h12
    obtain ⟨q53, h14⟩ := h13
    obtain ⟨r54, h15⟩ := h14
    refine mwx_I (q := 121) (na := 4) (ce := 0) (sl := 0) (X := 900) (Y := 5400) (as := [.int v52, .ref v51, .ref l4, .ref l1]) (by decide +kernel) r54 rfl rfl (by rw [show mL 121 = 4 from by decide +kernel]; rfl) rfl (fun _ => rv_of q53 (by decide +kernel)) (fun z => absurd z (by decide +kernel)) (vwX11_near h15) (fun v55 t55 i55 j55 h16 => ?_); clear h15
    refine mw_if (ins := .if_icmp .eq 5) (t := 197) (pc' := 195) (by decide +kernel) rfl rfl rfl h16 (fun p17 h17 => ?_) (fun p17 h17 => ?_) <;> clear h16
    · refine mw_inc (i := 5) (z := 1) (pc' := 200) (L' := [some (.ref l0), some (.ref l1), some (.int l2), some (.int l3), some (.ref l4), some (.int (l5 + 1))]) (by decide +kernel) rfl rfl rfl ?_
      refine mw_go (t := 151) (by decide +kernel) ?_
      exact hk151 h17
    · refine mw_c (v := 0) (pc' := 196) (by decide +kernel) ?_
      obtain ⟨r56, h18⟩ := h17
      exact mw_rz (X := 900) (Y := 5400) (by decide +kernel) (by decide) r56 h18
def wL_shotsHold_l151 (K J : Nat → Nat) (fu : Nat) (F : VF) (k203 : HS → HI → HR → Nat → Nat → Nat → Nat → Int32 → Int32 → Nat → Prop) : Nat → HS → HI → HR → Nat → Nat → Nat → Nat → Int32 → Int32 → Nat → Int32 → Prop
  | 0 => fun _ _ _ _ _ _ _ _ _ _ _ => False
  | n + 1 => wL_shotsHold_b151 K J fu F (wL_shotsHold_l151 K J fu F k203 n) k203
theorem vwL_shotsHold_l151 {l : Launch} {K J : Nat → Nat} {fu : Nat} {F : VF} {k203 : HS → HI → HR → Nat → Nat → Nat → Nat → Int32 → Int32 → Nat → Prop} (hk203 : ∀ {sh : HS} {I : HI} {R : HR} {c1 : Nat} {c2 : Nat} {l0 : Nat} {l1 : Nat} {l2 : Int32} {l3 : Int32} {l4 : Nat} {d5 : Option Value}, k203 sh I R c1 c2 l0 l1 l2 l3 l4 → MW l K J 185 203 [some (.ref l0), some (.ref l1), some (.int l2), some (.int l3), some (.ref l4), d5] [] sh I R (c1, c2) F) : ∀ (n : Nat) {sh : HS} {I : HI} {R : HR} {c1 : Nat} {c2 : Nat} {l0 : Nat} {l1 : Nat} {l2 : Int32} {l3 : Int32} {l4 : Nat} {l5 : Int32} (_ : wL_shotsHold_l151 K J fu F k203 n sh I R c1 c2 l0 l1 l2 l3 l4 l5), MW l K J 185 151 [some (.ref l0), some (.ref l1), some (.int l2), some (.int l3), some (.ref l4), some (.int l5)] [] sh I R (c1, c2) F := by
  intro n
  induction n with
  | zero => exact fun h0 => h0.elim
  | succ n ih => exact fun h0 => vwL_shotsHold_b151 ih hk203 h0
def wL_shotsHold_b203 (K J : Nat → Nat) (fu : Nat) (F : VF) (k4 : HS → HI → HR → Nat → Nat → Nat → Nat → Int32 → Int32 → Prop) (k130 : HS → HI → HR → Nat → Nat → Prop) (k216 : HS → HI → HR → Nat → Nat → Nat → Nat → Int32 → Prop) (sh : HS) (I : HI) (R : HR) (c1 : Nat) (c2 : Nat) (l0 : Nat) (l1 : Nat) (l2 : Int32) (l3 : Int32) (l4 : Nat) : Prop :=
  wB (oA2 sh I l4 5) fun v57 =>
  k4 sh I R c1 c2 l0 l1 (l2 + v57) (l3 + 1)
theorem vwL_shotsHold_b203 {l : Launch} {K J : Nat → Nat} {fu : Nat} {F : VF} {k4 : HS → HI → HR → Nat → Nat → Nat → Nat → Int32 → Int32 → Prop} {k130 : HS → HI → HR → Nat → Nat → Prop} {k216 : HS → HI → HR → Nat → Nat → Nat → Nat → Int32 → Prop} (hk4 : ∀ {sh : HS} {I : HI} {R : HR} {c1 : Nat} {c2 : Nat} {l0 : Nat} {l1 : Nat} {l2 : Int32} {l3 : Int32} {d4 d5 : Option Value}, k4 sh I R c1 c2 l0 l1 l2 l3 → MW l K J 185 4 [some (.ref l0), some (.ref l1), some (.int l2), some (.int l3), d4, d5] [] sh I R (c1, c2) F) (hk130 : ∀ {sh : HS} {I : HI} {R : HR} {c1 : Nat} {c2 : Nat} {d0 d1 d2 d3 d4 d5 : Option Value}, k130 sh I R c1 c2 → MW l K J 185 130 [d0, d1, d2, d3, d4, d5] [] sh I R (c1, c2) F) (hk216 : ∀ {sh : HS} {I : HI} {R : HR} {c1 : Nat} {c2 : Nat} {l0 : Nat} {l1 : Nat} {l2 : Int32} {d3 d4 d5 : Option Value}, k216 sh I R c1 c2 l0 l1 l2 → MW l K J 185 216 [some (.ref l0), some (.ref l1), some (.int l2), d3, d4, d5] [] sh I R (c1, c2) F) {sh : HS} {I : HI} {R : HR} {c1 : Nat} {c2 : Nat} {l0 : Nat} {l1 : Nat} {l2 : Int32} {l3 : Int32} {l4 : Nat} {d5 : Option Value} (h0 : wL_shotsHold_b203 K J fu F k4 k130 k216 sh I R c1 c2 l0 l1 l2 l3 l4) : MW l K J 185 203 [some (.ref l0), some (.ref l1), some (.int l2), some (.int l3), some (.ref l4), d5] [] sh I R (c1, c2) F := by
  unfold wL_shotsHold_b203 at h0
  refine mw_il (i := 2) (pc' := 204) (by decide +kernel) rfl ?_
  refine mw_rl (i := 4) (pc' := 206) (by decide +kernel) rfl ?_
  refine mw_c (v := 5) (pc' := 207) (by decide +kernel) ?_
  refine mw_al (by decide +kernel) h0 (fun v57 h1 => ?_); clear h0
  refine mw_a (ins := .iadd) (pc' := 209) (by decide +kernel) rfl ?_
  refine mw_is (i := 2) (pc' := 210) (L' := [some (.ref l0), some (.ref l1), some (.int (l2 + v57)), some (.int l3), some (.ref l4), d5]) (by decide +kernel) rfl rfl ?_
  refine mw_inc (i := 3) (z := 1) (pc' := 213) (L' := [some (.ref l0), some (.ref l1), some (.int (l2 + v57)), some (.int (l3 + 1)), some (.ref l4), d5]) (by decide +kernel) rfl rfl rfl ?_
  refine mw_go (t := 4) (by decide +kernel) ?_
  exact hk4 h1
def wL_shotsHold_b61 (K J : Nat → Nat) (fu : Nat) (F : VF) (k4 : HS → HI → HR → Nat → Nat → Nat → Nat → Int32 → Int32 → Prop) (k130 : HS → HI → HR → Nat → Nat → Prop) (k216 : HS → HI → HR → Nat → Nat → Nat → Nat → Int32 → Prop) (sh : HS) (I : HI) (R : HR) (c1 : Nat) (c2 : Nat) (l0 : Nat) (l1 : Nat) (l2 : Int32) (l3 : Int32) (l4 : Nat) : Prop :=
  (c1 + 2 ≤ 900 ∧ c2 + 12 ≤ 5400) ∧
  wB (fX10_view fu sh I R l0 l3) fun r14 => wS r14 fun v14 =>
  rcvB sh l1 9 = true ∧
  ((c1 + 2) ≤ 900 ∧ (c2 + 12) ≤ 5400) ∧
  wX11_view K J fu sh I R l1 l4 (qwI fun v17 t17 i17 j17 =>
  if v14 = v17 then
    (((c1 + 2) + 2 ≤ 900 ∧ (c2 + 12) + 12 ≤ 5400) ∧
    wB (fX10_side fu t17 i17 j17 l0 l3) fun r19 => wS r19 fun v19 =>
    rcvB t17 l1 9 = true ∧
    (((c1 + 2) + 2) ≤ 900 ∧ ((c2 + 12) + 12) ≤ 5400) ∧
    wX11_side K J fu t17 i17 j17 l1 l4 (qwI fun v22 t22 i22 j22 =>
    if v19 = v22 then
      ((((c1 + 2) + 2) + 2 ≤ 900 ∧ ((c2 + 12) + 12) + 12 ≤ 5400) ∧
      wB (fX10_look fu t22 i22 j22 l0 l3) fun r24 => wS r24 fun v24 =>
      rcvB t22 l1 9 = true ∧
      ((((c1 + 2) + 2) + 2) ≤ 900 ∧ (((c2 + 12) + 12) + 12) ≤ 5400) ∧
      wX11_look K J fu t22 i22 j22 l1 l4 (qwI fun v27 t27 i27 j27 =>
      if v24 = v27 then
        (((((c1 + 2) + 2) + 2) + 2 ≤ 900 ∧ (((c2 + 12) + 12) + 12) + 12 ≤ 5400) ∧
        wB (fX10_visible fu t27 i27 j27 l0 l3) fun r29 => wS r29 fun v29 =>
        rcvB t27 l1 9 = true ∧
        (((((c1 + 2) + 2) + 2) + 2) ≤ 900 ∧ ((((c2 + 12) + 12) + 12) + 12) ≤ 5400) ∧
        wX11_visible K J fu t27 i27 j27 l1 l4 (qwI fun v32 t32 i32 j32 =>
        if v29 = v32 then
          ((((((c1 + 2) + 2) + 2) + 2) + 2 ≤ 900 ∧ ((((c2 + 12) + 12) + 12) + 12) + 12 ≤ 5400) ∧
          wB (fX10_faultsOf fu t32 i32 j32 l0 l3) fun r34 => wS r34 fun v34 =>
          rcvB t32 l1 9 = true ∧
          ((((((c1 + 2) + 2) + 2) + 2) + 2) ≤ 900 ∧ (((((c2 + 12) + 12) + 12) + 12) + 12) ≤ 5400) ∧
          wX11_kinds K J fu t32 i32 j32 l1 l3 (qwI fun v37 t37 i37 j37 =>
          if v34 = v37 then
            (((((((c1 + 2) + 2) + 2) + 2) + 2) + 2 ≤ 900 ∧ (((((c2 + 12) + 12) + 12) + 12) + 12) + 12 ≤ 5400) ∧
            wB (fX10_eyeline fu t37 i37 j37 l0 l3) fun r39 => wS r39 fun v39 =>
            (((((((c1 + 2) + 2) + 2) + 2) + 2) + 2) ≤ 900 ∧ ((((((c2 + 12) + 12) + 12) + 12) + 12) + 12) ≤ 5400) ∧
            wL_eyeline K J fu t37 i37 j37 l1 l4 (qwI fun v41 t41 i41 j41 =>
            if v39 = v41 then
              ((wL_shotsHold_l151 K J fu F (wL_shotsHold_b203 K J fu F k4 k130 k216) fu) t41 i41 j41 ((((((c1 + 2) + 2) + 2) + 2) + 2) + 2) ((((((c2 + 12) + 12) + 12) + 12) + 12) + 12) l0 l1 l2 l3 l4 0)
            else
              ((((((((c1 + 2) + 2) + 2) + 2) + 2) + 2) ≤ 900 ∧ ((((((c2 + 12) + 12) + 12) + 12) + 12) + 12) ≤ 5400) ∧
              F (.inl (some (.int 0))) t41 i41 j41)))
          else
            (k130 t37 i37 j37 (((((c1 + 2) + 2) + 2) + 2) + 2) (((((c2 + 12) + 12) + 12) + 12) + 12))))
        else
          (k130 t32 i32 j32 ((((c1 + 2) + 2) + 2) + 2) ((((c2 + 12) + 12) + 12) + 12))))
      else
        (k130 t27 i27 j27 (((c1 + 2) + 2) + 2) (((c2 + 12) + 12) + 12))))
    else
      (k130 t22 i22 j22 ((c1 + 2) + 2) ((c2 + 12) + 12))))
  else
    (k130 t17 i17 j17 (c1 + 2) (c2 + 12)))
theorem vwL_shotsHold_b61 {l : Launch} {K J : Nat → Nat} {fu : Nat} {F : VF} {k4 : HS → HI → HR → Nat → Nat → Nat → Nat → Int32 → Int32 → Prop} {k130 : HS → HI → HR → Nat → Nat → Prop} {k216 : HS → HI → HR → Nat → Nat → Nat → Nat → Int32 → Prop} (hk4 : ∀ {sh : HS} {I : HI} {R : HR} {c1 : Nat} {c2 : Nat} {l0 : Nat} {l1 : Nat} {l2 : Int32} {l3 : Int32} {d4 d5 : Option Value}, k4 sh I R c1 c2 l0 l1 l2 l3 → MW l K J 185 4 [some (.ref l0), some (.ref l1), some (.int l2), some (.int l3), d4, d5] [] sh I R (c1, c2) F) (hk130 : ∀ {sh : HS} {I : HI} {R : HR} {c1 : Nat} {c2 : Nat} {d0 d1 d2 d3 d4 d5 : Option Value}, k130 sh I R c1 c2 → MW l K J 185 130 [d0, d1, d2, d3, d4, d5] [] sh I R (c1, c2) F) (hk216 : ∀ {sh : HS} {I : HI} {R : HR} {c1 : Nat} {c2 : Nat} {l0 : Nat} {l1 : Nat} {l2 : Int32} {d3 d4 d5 : Option Value}, k216 sh I R c1 c2 l0 l1 l2 → MW l K J 185 216 [some (.ref l0), some (.ref l1), some (.int l2), d3, d4, d5] [] sh I R (c1, c2) F) {sh : HS} {I : HI} {R : HR} {c1 : Nat} {c2 : Nat} {l0 : Nat} {l1 : Nat} {l2 : Int32} {l3 : Int32} {l4 : Nat} {d5 : Option Value} (h0 : wL_shotsHold_b61 K J fu F k4 k130 k216 sh I R c1 c2 l0 l1 l2 l3 l4) : MW l K J 185 61 [some (.ref l0), some (.ref l1), some (.int l2), some (.int l3), some (.ref l4), d5] [] sh I R (c1, c2) F := by
  unfold wL_shotsHold_b61 at h0
  refine mw_rl (i := 0) (pc' := 62) (by decide +kernel) rfl ?_
  refine mw_il (i := 3) (pc' := 63) (by decide +kernel) rfl ?_
  obtain ⟨r13, h1⟩ := h0
  refine hX10_view (X := 900) (Y := 5400) (by decide +kernel) r13 rfl h1 (fun v14 h2 => ?_); clear h1
  refine mw_rl (i := 1) (pc' := 67) (by decide +kernel) rfl ?_
  refine mw_rl (i := 4) (pc' := 69) (by decide +kernel) rfl ?_
  obtain ⟨q15, h3⟩ := h2
  obtain ⟨r16, h4⟩ := h3
  refine mwx_I (q := 117) (na := 2) (ce := 0) (sl := 0) (X := 900) (Y := 5400) (as := [.ref l4, .ref l1]) (by decide +kernel) r16 rfl rfl (by rw [show mL 117 = 2 from by decide +kernel]; rfl) rfl (fun _ => rv_of q15 (by decide +kernel)) (fun z => absurd z (by decide +kernel)) (vwX11_view h4) (fun v17 t17 i17 j17 h5 => ?_); clear h4
  refine mw_ifn (ins := .if_icmp .ne 58) (t := 130) (pc' := 75) (by decide +kernel) rfl rfl rfl h5 (fun p6 h6 => ?_) (fun p6 h6 => ?_) <;> clear h5
  · exact hk130 h6
  · refine mw_rl (i := 0) (pc' := 76) (by decide +kernel) rfl ?_
    refine mw_il (i := 3) (pc' := 77) (by decide +kernel) rfl ?_
    obtain ⟨r18, h7⟩ := h6
    refine hX10_side (X := 900) (Y := 5400) (by decide +kernel) r18 rfl h7 (fun v19 h8 => ?_); clear h7
    refine mw_rl (i := 1) (pc' := 81) (by decide +kernel) rfl ?_
    refine mw_rl (i := 4) (pc' := 83) (by decide +kernel) rfl ?_
    obtain ⟨q20, h9⟩ := h8
    obtain ⟨r21, h10⟩ := h9
    refine mwx_I (q := 118) (na := 2) (ce := 0) (sl := 0) (X := 900) (Y := 5400) (as := [.ref l4, .ref l1]) (by decide +kernel) r21 rfl rfl (by rw [show mL 118 = 4 from by decide +kernel]; rfl) rfl (fun _ => rv_of q20 (by decide +kernel)) (fun z => absurd z (by decide +kernel)) (vwX11_side h10) (fun v22 t22 i22 j22 h11 => ?_); clear h10
    refine mw_ifn (ins := .if_icmp .ne 44) (t := 130) (pc' := 89) (by decide +kernel) rfl rfl rfl h11 (fun p12 h12 => ?_) (fun p12 h12 => ?_) <;> clear h11
    · exact hk130 h12
    · refine mw_rl (i := 0) (pc' := 90) (by decide +kernel) rfl ?_
      refine mw_il (i := 3) (pc' := 91) (by decide +kernel) rfl ?_
      obtain ⟨r23, h13⟩ := h12
      refine hX10_look (X := 900) (Y := 5400) (by decide +kernel) r23 rfl h13 (fun v24 h14 => ?_); clear h13
      refine mw_rl (i := 1) (pc' := 95) (by decide +kernel) rfl ?_
      refine mw_rl (i := 4) (pc' := 97) (by decide +kernel) rfl ?_
      obtain ⟨q25, h15⟩ := h14
      obtain ⟨r26, h16⟩ := h15
      refine mwx_I (q := 119) (na := 2) (ce := 0) (sl := 0) (X := 900) (Y := 5400) (as := [.ref l4, .ref l1]) (by decide +kernel) r26 rfl rfl (by rw [show mL 119 = 4 from by decide +kernel]; rfl) rfl (fun _ => rv_of q25 (by decide +kernel)) (fun z => absurd z (by decide +kernel)) (vwX11_look h16) (fun v27 t27 i27 j27 h17 => ?_); clear h16
      refine mw_ifn (ins := .if_icmp .ne 30) (t := 130) (pc' := 103) (by decide +kernel) rfl rfl rfl h17 (fun p18 h18 => ?_) (fun p18 h18 => ?_) <;> clear h17
      · exact hk130 h18
      · refine mw_rl (i := 0) (pc' := 104) (by decide +kernel) rfl ?_
        refine mw_il (i := 3) (pc' := 105) (by decide +kernel) rfl ?_
        obtain ⟨r28, h19⟩ := h18
        refine hX10_visible (X := 900) (Y := 5400) (by decide +kernel) r28 rfl h19 (fun v29 h20 => ?_); clear h19
        refine mw_rl (i := 1) (pc' := 109) (by decide +kernel) rfl ?_
        refine mw_rl (i := 4) (pc' := 111) (by decide +kernel) rfl ?_
        obtain ⟨q30, h21⟩ := h20
        obtain ⟨r31, h22⟩ := h21
        refine mwx_I (q := 120) (na := 2) (ce := 0) (sl := 0) (X := 900) (Y := 5400) (as := [.ref l4, .ref l1]) (by decide +kernel) r31 rfl rfl (by rw [show mL 120 = 4 from by decide +kernel]; rfl) rfl (fun _ => rv_of q30 (by decide +kernel)) (fun z => absurd z (by decide +kernel)) (vwX11_visible h22) (fun v32 t32 i32 j32 h23 => ?_); clear h22
        refine mw_ifn (ins := .if_icmp .ne 16) (t := 130) (pc' := 117) (by decide +kernel) rfl rfl rfl h23 (fun p24 h24 => ?_) (fun p24 h24 => ?_) <;> clear h23
        · exact hk130 h24
        · refine mw_rl (i := 0) (pc' := 118) (by decide +kernel) rfl ?_
          refine mw_il (i := 3) (pc' := 119) (by decide +kernel) rfl ?_
          obtain ⟨r33, h25⟩ := h24
          refine hX10_faultsOf (X := 900) (Y := 5400) (by decide +kernel) r33 rfl h25 (fun v34 h26 => ?_); clear h25
          refine mw_rl (i := 1) (pc' := 123) (by decide +kernel) rfl ?_
          refine mw_il (i := 3) (pc' := 124) (by decide +kernel) rfl ?_
          obtain ⟨q35, h27⟩ := h26
          obtain ⟨r36, h28⟩ := h27
          refine mwx_I (q := 123) (na := 2) (ce := 0) (sl := 0) (X := 900) (Y := 5400) (as := [.int l3, .ref l1]) (by decide +kernel) r36 rfl rfl (by rw [show mL 123 = 8 from by decide +kernel]; rfl) rfl (fun _ => rv_of q35 (by decide +kernel)) (fun z => absurd z (by decide +kernel)) (vwX11_kinds h28) (fun v37 t37 i37 j37 h29 => ?_); clear h28
          refine mw_if (ins := .if_icmp .eq 5) (t := 132) (pc' := 130) (by decide +kernel) rfl rfl rfl h29 (fun p30 h30 => ?_) (fun p30 h30 => ?_) <;> clear h29
          · refine mw_rl (i := 0) (pc' := 133) (by decide +kernel) rfl ?_
            refine mw_il (i := 3) (pc' := 134) (by decide +kernel) rfl ?_
            obtain ⟨r38, h31⟩ := h30
            refine hX10_eyeline (X := 900) (Y := 5400) (by decide +kernel) r38 rfl h31 (fun v39 h32 => ?_); clear h31
            refine mw_rl (i := 1) (pc' := 138) (by decide +kernel) rfl ?_
            refine mw_rl (i := 4) (pc' := 140) (by decide +kernel) rfl ?_
            obtain ⟨r40, h33⟩ := h32
            refine mwx_I (q := 186) (na := 2) (ce := 0) (sl := 0) (X := 900) (Y := 5400) (as := [.ref l4, .ref l1]) (by decide +kernel) r40 rfl rfl (by rw [show mL 186 = 4 from by decide +kernel]; rfl) rfl (fun z => absurd z (by decide +kernel)) (fun z => absurd z (by decide +kernel)) (vwL_eyeline h33) (fun v41 t41 i41 j41 h34 => ?_); clear h33
            refine mw_if (ins := .if_icmp .eq 5) (t := 148) (pc' := 146) (by decide +kernel) rfl rfl rfl h34 (fun p35 h35 => ?_) (fun p35 h35 => ?_) <;> clear h34
            · refine mw_c (v := 0) (pc' := 149) (by decide +kernel) ?_
              refine mw_is (i := 5) (pc' := 151) (L' := [some (.ref l0), some (.ref l1), some (.int l2), some (.int l3), some (.ref l4), some (.int 0)]) (by decide +kernel) rfl rfl ?_
              exact (vwL_shotsHold_l151 (vwL_shotsHold_b203 hk4 hk130 hk216) fu) h35
            · refine mw_c (v := 0) (pc' := 147) (by decide +kernel) ?_
              obtain ⟨r58, h36⟩ := h35
              exact mw_rz (X := 900) (Y := 5400) (by decide +kernel) (by decide) r58 h36
          · exact hk130 h30
def wL_shotsHold_b4 (K J : Nat → Nat) (fu : Nat) (F : VF) (k4 : HS → HI → HR → Nat → Nat → Nat → Nat → Int32 → Int32 → Prop) (k130 : HS → HI → HR → Nat → Nat → Prop) (k216 : HS → HI → HR → Nat → Nat → Nat → Nat → Int32 → Prop) (sh : HS) (I : HI) (R : HR) (c1 : Nat) (c2 : Nat) (l0 : Nat) (l1 : Nat) (l2 : Int32) (l3 : Int32) : Prop :=
  wB (oR sh R l1 9 3) fun v1 =>
  rcvB sh v1 10 = true ∧
  (c1 ≤ 900 ∧ c2 ≤ 5400) ∧
  wJx4a65c_size_8abf5 K J fu sh I R v1 (qwI fun v4 t4 i4 j4 =>
  if v4 ≤ l3 then
    (k216 t4 i4 j4 c1 c2 l0 l1 l2)
  else
    (wB (oR t4 j4 l1 9 3) fun v5 =>
    rcvB t4 v5 10 = true ∧
    (c1 ≤ 900 ∧ c2 ≤ 5400) ∧
    wJx4a65c_get_915e3 K J fu t4 i4 j4 v5 l3 (qwR fun v8 t8 i8 j8 =>
    wB (oKt t8 v8 1) fun _ =>
    (wL_shotsHold_l31 K J fu F (wL_shotsHold_b61 K J fu F k4 k130 k216) fu) t8 i8 j8 c1 c2 l0 l1 l2 l3 v8 0)))
theorem vwL_shotsHold_b4 {l : Launch} {K J : Nat → Nat} {fu : Nat} {F : VF} {k4 : HS → HI → HR → Nat → Nat → Nat → Nat → Int32 → Int32 → Prop} {k130 : HS → HI → HR → Nat → Nat → Prop} {k216 : HS → HI → HR → Nat → Nat → Nat → Nat → Int32 → Prop} (hk4 : ∀ {sh : HS} {I : HI} {R : HR} {c1 : Nat} {c2 : Nat} {l0 : Nat} {l1 : Nat} {l2 : Int32} {l3 : Int32} {d4 d5 : Option Value}, k4 sh I R c1 c2 l0 l1 l2 l3 → MW l K J 185 4 [some (.ref l0), some (.ref l1), some (.int l2), some (.int l3), d4, d5] [] sh I R (c1, c2) F) (hk130 : ∀ {sh : HS} {I : HI} {R : HR} {c1 : Nat} {c2 : Nat} {d0 d1 d2 d3 d4 d5 : Option Value}, k130 sh I R c1 c2 → MW l K J 185 130 [d0, d1, d2, d3, d4, d5] [] sh I R (c1, c2) F) (hk216 : ∀ {sh : HS} {I : HI} {R : HR} {c1 : Nat} {c2 : Nat} {l0 : Nat} {l1 : Nat} {l2 : Int32} {d3 d4 d5 : Option Value}, k216 sh I R c1 c2 l0 l1 l2 → MW l K J 185 216 [some (.ref l0), some (.ref l1), some (.int l2), d3, d4, d5] [] sh I R (c1, c2) F) {sh : HS} {I : HI} {R : HR} {c1 : Nat} {c2 : Nat} {l0 : Nat} {l1 : Nat} {l2 : Int32} {l3 : Int32} {d4 d5 : Option Value} (h0 : wL_shotsHold_b4 K J fu F k4 k130 k216 sh I R c1 c2 l0 l1 l2 l3) : MW l K J 185 4 [some (.ref l0), some (.ref l1), some (.int l2), some (.int l3), d4, d5] [] sh I R (c1, c2) F := by
  unfold wL_shotsHold_b4 at h0
  refine mw_il (i := 3) (pc' := 5) (by decide +kernel) rfl ?_
  refine mw_rl (i := 1) (pc' := 6) (by decide +kernel) rfl ?_
  refine mw_fR (ix := 48) (t := 9) (j := 3) (md := 1) (by decide +kernel) h0 (fun v1 h1 => ?_); clear h0
  obtain ⟨q2, h2⟩ := h1
  obtain ⟨r3, h3⟩ := h2
  refine mwx_I (q := 133) (na := 1) (ce := 0) (sl := 0) (X := 900) (Y := 5400) (as := [.ref v1]) (by decide +kernel) r3 rfl rfl (by rw [show mL 133 = 1 from by decide +kernel]; rfl) rfl (fun _ => rv_of q2 (by decide +kernel)) (fun z => absurd z (by decide +kernel)) (vwJx4a65c_size_8abf5 h3) (fun v4 t4 i4 j4 h4 => ?_); clear h3
  refine mw_if (ins := .if_icmp .ge 204) (t := 216) (pc' := 15) (by decide +kernel) rfl rfl rfl h4 (fun p5 h5 => ?_) (fun p5 h5 => ?_) <;> clear h4
  · exact hk216 h5
  · refine mw_rl (i := 1) (pc' := 16) (by decide +kernel) rfl ?_
    refine mw_fR (ix := 48) (t := 9) (j := 3) (md := 1) (by decide +kernel) h5 (fun v5 h6 => ?_); clear h5
    refine mw_il (i := 3) (pc' := 20) (by decide +kernel) rfl ?_
    obtain ⟨q6, h7⟩ := h6
    obtain ⟨r7, h8⟩ := h7
    refine mwx_R (q := 135) (na := 2) (ce := 0) (sl := 0) (X := 900) (Y := 5400) (as := [.int l3, .ref v5]) (by decide +kernel) r7 rfl rfl (by rw [show mL 135 = 2 from by decide +kernel]; rfl) rfl (fun _ => rv_of q6 (by decide +kernel)) (fun z => absurd z (by decide +kernel)) (vwJx4a65c_get_915e3 h8) (fun v8 t8 i8 j8 h9 => ?_); clear h8
    refine mw_cst (ix := 97) (v := 1) (by decide +kernel) h9 (fun h10 => ?_); clear h9
    refine mw_rs (i := 4) (pc' := 28) (L' := [some (.ref l0), some (.ref l1), some (.int l2), some (.int l3), some (.ref v8), d5]) (by decide +kernel) rfl rfl ?_
    refine mw_c (v := 0) (pc' := 29) (by decide +kernel) ?_
    refine mw_is (i := 5) (pc' := 31) (L' := [some (.ref l0), some (.ref l1), some (.int l2), some (.int l3), some (.ref v8), some (.int 0)]) (by decide +kernel) rfl rfl ?_
    exact (vwL_shotsHold_l31 (vwL_shotsHold_b61 hk4 hk130 hk216) fu) h10
def wL_shotsHold_l4 (K J : Nat → Nat) (fu : Nat) (F : VF) (k130 : HS → HI → HR → Nat → Nat → Prop) (k216 : HS → HI → HR → Nat → Nat → Nat → Nat → Int32 → Prop) : Nat → HS → HI → HR → Nat → Nat → Nat → Nat → Int32 → Int32 → Prop
  | 0 => fun _ _ _ _ _ _ _ _ _ => False
  | n + 1 => wL_shotsHold_b4 K J fu F (wL_shotsHold_l4 K J fu F k130 k216 n) k130 k216
theorem vwL_shotsHold_l4 {l : Launch} {K J : Nat → Nat} {fu : Nat} {F : VF} {k130 : HS → HI → HR → Nat → Nat → Prop} {k216 : HS → HI → HR → Nat → Nat → Nat → Nat → Int32 → Prop} (hk130 : ∀ {sh : HS} {I : HI} {R : HR} {c1 : Nat} {c2 : Nat} {d0 d1 d2 d3 d4 d5 : Option Value}, k130 sh I R c1 c2 → MW l K J 185 130 [d0, d1, d2, d3, d4, d5] [] sh I R (c1, c2) F) (hk216 : ∀ {sh : HS} {I : HI} {R : HR} {c1 : Nat} {c2 : Nat} {l0 : Nat} {l1 : Nat} {l2 : Int32} {d3 d4 d5 : Option Value}, k216 sh I R c1 c2 l0 l1 l2 → MW l K J 185 216 [some (.ref l0), some (.ref l1), some (.int l2), d3, d4, d5] [] sh I R (c1, c2) F) : ∀ (n : Nat) {sh : HS} {I : HI} {R : HR} {c1 : Nat} {c2 : Nat} {l0 : Nat} {l1 : Nat} {l2 : Int32} {l3 : Int32} {d4 d5 : Option Value} (_ : wL_shotsHold_l4 K J fu F k130 k216 n sh I R c1 c2 l0 l1 l2 l3), MW l K J 185 4 [some (.ref l0), some (.ref l1), some (.int l2), some (.int l3), d4, d5] [] sh I R (c1, c2) F := by
  intro n
  induction n with
  | zero => exact fun h0 => h0.elim
  | succ n ih => exact fun h0 => vwL_shotsHold_b4 ih hk130 hk216 h0
def wL_shotsHold_b130 (K J : Nat → Nat) (fu : Nat) (F : VF) (sh : HS) (I : HI) (R : HR) (c1 : Nat) (c2 : Nat) : Prop :=
  (c1 ≤ 900 ∧ c2 ≤ 5400) ∧
  F (.inl (some (.int 0))) sh I R
theorem vwL_shotsHold_b130 {l : Launch} {K J : Nat → Nat} {fu : Nat} {F : VF} {sh : HS} {I : HI} {R : HR} {c1 : Nat} {c2 : Nat} {d0 d1 d2 d3 d4 d5 : Option Value} (h0 : wL_shotsHold_b130 K J fu F sh I R c1 c2) : MW l K J 185 130 [d0, d1, d2, d3, d4, d5] [] sh I R (c1, c2) F := by
  unfold wL_shotsHold_b130 at h0
  refine mw_c (v := 0) (pc' := 131) (by decide +kernel) ?_
  obtain ⟨r59, h1⟩ := h0
  exact mw_rz (X := 900) (Y := 5400) (by decide +kernel) (by decide) r59 h1
def wL_shotsHold_b267 (K J : Nat → Nat) (fu : Nat) (F : VF) (k267 : HS → HI → HR → Nat → Nat → Nat → Nat → Int32 → Prop) (sh : HS) (I : HI) (R : HR) (c1 : Nat) (c2 : Nat) (l0 : Nat) (l3 : Nat) (l4 : Int32) : Prop :=
  if (6 : Int32) ≤ l4 then
    ((c1 ≤ 900 ∧ c2 ≤ 5400) ∧
    F (.inl (some (.int 1))) sh I R)
  else
    ((c1 + 2 ≤ 900 ∧ c2 + 12 ≤ 5400) ∧
    wB (fX10_count fu sh I R l0 l4) fun r79 => wS r79 fun v79 =>
    wB (oA2 sh I l3 l4) fun v80 =>
    if v79 = v80 then
      (k267 sh I R (c1 + 2) (c2 + 12) l0 l3 (l4 + 1))
    else
      (((c1 + 2) ≤ 900 ∧ (c2 + 12) ≤ 5400) ∧
      F (.inl (some (.int 0))) sh I R))
theorem vwL_shotsHold_b267 {l : Launch} {K J : Nat → Nat} {fu : Nat} {F : VF} {k267 : HS → HI → HR → Nat → Nat → Nat → Nat → Int32 → Prop} (hk267 : ∀ {sh : HS} {I : HI} {R : HR} {c1 : Nat} {c2 : Nat} {l0 : Nat} {l3 : Nat} {l4 : Int32} {d1 d2 d5 : Option Value}, k267 sh I R c1 c2 l0 l3 l4 → MW l K J 185 267 [some (.ref l0), d1, d2, some (.ref l3), some (.int l4), d5] [] sh I R (c1, c2) F) {sh : HS} {I : HI} {R : HR} {c1 : Nat} {c2 : Nat} {l0 : Nat} {l3 : Nat} {l4 : Int32} {d1 d2 d5 : Option Value} (h0 : wL_shotsHold_b267 K J fu F k267 sh I R c1 c2 l0 l3 l4) : MW l K J 185 267 [some (.ref l0), d1, d2, some (.ref l3), some (.int l4), d5] [] sh I R (c1, c2) F := by
  unfold wL_shotsHold_b267 at h0
  refine mw_il (i := 4) (pc' := 269) (by decide +kernel) rfl ?_
  refine mw_c (v := 6) (pc' := 271) (by decide +kernel) ?_
  refine mw_if (ins := .if_icmp .ge 24) (t := 295) (pc' := 274) (by decide +kernel) rfl rfl rfl h0 (fun p1 h1 => ?_) (fun p1 h1 => ?_) <;> clear h0
  · refine mw_c (v := 1) (pc' := 296) (by decide +kernel) ?_
    obtain ⟨r77, h2⟩ := h1
    exact mw_rz (X := 900) (Y := 5400) (by decide +kernel) (by decide) r77 h2
  · refine mw_rl (i := 0) (pc' := 275) (by decide +kernel) rfl ?_
    refine mw_il (i := 4) (pc' := 277) (by decide +kernel) rfl ?_
    obtain ⟨r78, h2⟩ := h1
    refine hX10_count (X := 900) (Y := 5400) (by decide +kernel) r78 rfl h2 (fun v79 h3 => ?_); clear h2
    refine mw_rl (i := 3) (pc' := 281) (by decide +kernel) rfl ?_
    refine mw_il (i := 4) (pc' := 283) (by decide +kernel) rfl ?_
    refine mw_al (by decide +kernel) h3 (fun v80 h4 => ?_); clear h3
    refine mw_if (ins := .if_icmp .eq 5) (t := 289) (pc' := 287) (by decide +kernel) rfl rfl rfl h4 (fun p5 h5 => ?_) (fun p5 h5 => ?_) <;> clear h4
    · refine mw_inc (i := 4) (z := 1) (pc' := 292) (L' := [some (.ref l0), d1, d2, some (.ref l3), some (.int (l4 + 1)), d5]) (by decide +kernel) rfl rfl rfl ?_
      refine mw_go (t := 267) (by decide +kernel) ?_
      exact hk267 h5
    · refine mw_c (v := 0) (pc' := 288) (by decide +kernel) ?_
      obtain ⟨r81, h6⟩ := h5
      exact mw_rz (X := 900) (Y := 5400) (by decide +kernel) (by decide) r81 h6
def wL_shotsHold_l267 (K J : Nat → Nat) (fu : Nat) (F : VF) : Nat → HS → HI → HR → Nat → Nat → Nat → Nat → Int32 → Prop
  | 0 => fun _ _ _ _ _ _ _ _ => False
  | n + 1 => wL_shotsHold_b267 K J fu F (wL_shotsHold_l267 K J fu F n)
theorem vwL_shotsHold_l267 {l : Launch} {K J : Nat → Nat} {fu : Nat} {F : VF} : ∀ (n : Nat) {sh : HS} {I : HI} {R : HR} {c1 : Nat} {c2 : Nat} {l0 : Nat} {l3 : Nat} {l4 : Int32} {d1 d2 d5 : Option Value} (_ : wL_shotsHold_l267 K J fu F n sh I R c1 c2 l0 l3 l4), MW l K J 185 267 [some (.ref l0), d1, d2, some (.ref l3), some (.int l4), d5] [] sh I R (c1, c2) F := by
  intro n
  induction n with
  | zero => exact fun h0 => h0.elim
  | succ n ih => exact fun h0 => vwL_shotsHold_b267 ih h0
def wL_shotsHold_b216 (K J : Nat → Nat) (fu : Nat) (F : VF) (sh : HS) (I : HI) (R : HR) (c1 : Nat) (c2 : Nat) (l0 : Nat) (l1 : Nat) (l2 : Int32) : Prop :=
  (¬ (6 : Int32) < 0 ∧ (6 : Int32).toNatClampNeg < 100000) ∧
  (c1 + 1 ≤ 900 ∧ c2 + (6 : Int32).toNatClampNeg ≤ 5400) ∧
  wNewI sh I 20 (6 : Int32).toNatClampNeg fun a60 t60 i60 =>
  wB (oR t60 R l1 9 4) fun v62 =>
  wB (oLn t60 v62) fun v63 =>
  wB (oS t60 i60 a60 0 v63) fun v64 =>
  wB (oR t60 R l1 9 3) fun v65 =>
  rcvB t60 v65 10 = true ∧
  ((c1 + 1) ≤ 900 ∧ (c2 + (6 : Int32).toNatClampNeg) ≤ 5400) ∧
  wJx4a65c_size_8abf5 K J fu t60 v64 R v65 (qwI fun v68 t68 i68 j68 =>
  wB (oS t68 i68 a60 1 v68) fun v69 =>
  wB (oI t68 v69 l1 9 0) fun v70 =>
  wB (oS t68 v69 a60 2 v70) fun v71 =>
  wB (oI t68 v71 l1 9 1) fun v72 =>
  wB (oS t68 v71 a60 3 v72) fun v73 =>
  wB (oI t68 v73 l1 9 2) fun v74 =>
  wB (oS t68 v73 a60 4 v74) fun v75 =>
  wB (oS t68 v75 a60 5 l2) fun v76 =>
  (wL_shotsHold_l267 K J fu F fu) t68 v76 j68 (c1 + 1) (c2 + (6 : Int32).toNatClampNeg) l0 a60 0)
theorem vwL_shotsHold_b216 {l : Launch} {K J : Nat → Nat} {fu : Nat} {F : VF} {sh : HS} {I : HI} {R : HR} {c1 : Nat} {c2 : Nat} {l0 : Nat} {l1 : Nat} {l2 : Int32} {d3 d4 d5 : Option Value} (h0 : wL_shotsHold_b216 K J fu F sh I R c1 c2 l0 l1 l2) : MW l K J 185 216 [some (.ref l0), some (.ref l1), some (.int l2), d3, d4, d5] [] sh I R (c1, c2) F := by
  unfold wL_shotsHold_b216 at h0
  refine mw_c (v := 6) (pc' := 218) (by decide +kernel) ?_
  obtain ⟨q60, h1⟩ := h0
  obtain ⟨r61, h2⟩ := h1
  refine mw_nwi (X := 900) (Y := 5400) (by decide +kernel) q60 r61 h2 (fun a60 t60 i60 h3 => ?_); clear h2
  refine mw_a (ins := .dup) (pc' := 221) (by decide +kernel) rfl ?_
  refine mw_c (v := 0) (pc' := 222) (by decide +kernel) ?_
  refine mw_rl (i := 1) (pc' := 223) (by decide +kernel) rfl ?_
  refine mw_fR (ix := 28) (t := 9) (j := 4) (md := 1) (by decide +kernel) h3 (fun v62 h4 => ?_); clear h3
  refine mw_ln (by decide +kernel) h4 (fun v63 h5 => ?_); clear h4
  refine mw_ast (by decide +kernel) h5 (fun v64 h6 => ?_); clear h5
  refine mw_a (ins := .dup) (pc' := 229) (by decide +kernel) rfl ?_
  refine mw_c (v := 1) (pc' := 230) (by decide +kernel) ?_
  refine mw_rl (i := 1) (pc' := 231) (by decide +kernel) rfl ?_
  refine mw_fR (ix := 48) (t := 9) (j := 3) (md := 1) (by decide +kernel) h6 (fun v65 h7 => ?_); clear h6
  obtain ⟨q66, h8⟩ := h7
  obtain ⟨r67, h9⟩ := h8
  refine mwx_I (q := 133) (na := 1) (ce := 0) (sl := 0) (X := 900) (Y := 5400) (as := [.ref v65]) (by decide +kernel) r67 rfl rfl (by rw [show mL 133 = 1 from by decide +kernel]; rfl) rfl (fun _ => rv_of q66 (by decide +kernel)) (fun z => absurd z (by decide +kernel)) (vwJx4a65c_size_8abf5 h9) (fun v68 t68 i68 j68 h10 => ?_); clear h9
  refine mw_ast (by decide +kernel) h10 (fun v69 h11 => ?_); clear h10
  refine mw_a (ins := .dup) (pc' := 239) (by decide +kernel) rfl ?_
  refine mw_c (v := 2) (pc' := 240) (by decide +kernel) ?_
  refine mw_rl (i := 1) (pc' := 241) (by decide +kernel) rfl ?_
  refine mw_fI (ix := 17) (t := 9) (j := 0) (ty := 0) (md := 1) (by decide +kernel) (by decide) h11 (fun v70 h12 => ?_); clear h11
  refine mw_ast (by decide +kernel) h12 (fun v71 h13 => ?_); clear h12
  refine mw_a (ins := .dup) (pc' := 246) (by decide +kernel) rfl ?_
  refine mw_c (v := 3) (pc' := 247) (by decide +kernel) ?_
  refine mw_rl (i := 1) (pc' := 248) (by decide +kernel) rfl ?_
  refine mw_fI (ix := 21) (t := 9) (j := 1) (ty := 0) (md := 1) (by decide +kernel) (by decide) h13 (fun v72 h14 => ?_); clear h13
  refine mw_ast (by decide +kernel) h14 (fun v73 h15 => ?_); clear h14
  refine mw_a (ins := .dup) (pc' := 253) (by decide +kernel) rfl ?_
  refine mw_c (v := 4) (pc' := 254) (by decide +kernel) ?_
  refine mw_rl (i := 1) (pc' := 255) (by decide +kernel) rfl ?_
  refine mw_fI (ix := 25) (t := 9) (j := 2) (ty := 0) (md := 1) (by decide +kernel) (by decide) h15 (fun v74 h16 => ?_); clear h15
  refine mw_ast (by decide +kernel) h16 (fun v75 h17 => ?_); clear h16
  refine mw_a (ins := .dup) (pc' := 260) (by decide +kernel) rfl ?_
  refine mw_c (v := 5) (pc' := 261) (by decide +kernel) ?_
  refine mw_il (i := 2) (pc' := 262) (by decide +kernel) rfl ?_
  refine mw_ast (by decide +kernel) h17 (fun v76 h18 => ?_); clear h17
  refine mw_rs (i := 3) (pc' := 264) (L' := [some (.ref l0), some (.ref l1), some (.int l2), some (.ref a60), d4, d5]) (by decide +kernel) rfl rfl ?_
  refine mw_c (v := 0) (pc' := 265) (by decide +kernel) ?_
  refine mw_is (i := 4) (pc' := 267) (L' := [some (.ref l0), some (.ref l1), some (.int l2), some (.ref a60), some (.int 0), d5]) (by decide +kernel) rfl rfl ?_
  exact (vwL_shotsHold_l267 fu) h18
def wL_shotsHold (K J : Nat → Nat) (fu : Nat) (sh : HS) (I : HI) (R : HR) (l0 : Nat) (l1 : Nat) (F : VF) : Prop :=
  (wL_shotsHold_l4 K J fu F (wL_shotsHold_b130 K J fu F) (wL_shotsHold_b216 K J fu F) fu) sh I R 0 0 l0 l1 0 0
theorem vwL_shotsHold {l : Launch} {K J : Nat → Nat} {fu : Nat} {sh : HS} {I : HI} {R : HR} {l0 : Nat} {l1 : Nat} {F : VF} (h0 : wL_shotsHold K J fu sh I R l0 l1 F) : MW l K J 185 0 (ent (mL 185) [.ref l0, .ref l1]) [] sh I R (0, 0) F := by
  unfold wL_shotsHold at h0
  have ml : mL 185 = 6 := by decide +kernel
  rw [ml]
  show MW l K J 185 0 [some (.ref l0), some (.ref l1), none, none, none, none] [] sh I R (0, 0) F
  refine mw_c (v := 0) (pc' := 1) (by decide +kernel) ?_
  refine mw_is (i := 2) (pc' := 2) (L' := [some (.ref l0), some (.ref l1), some (.int 0), none, none, none]) (by decide +kernel) rfl rfl ?_
  refine mw_c (v := 0) (pc' := 3) (by decide +kernel) ?_
  refine mw_is (i := 3) (pc' := 4) (L' := [some (.ref l0), some (.ref l1), some (.int 0), some (.int 0), none, none]) (by decide +kernel) rfl rfl ?_
  exact (vwL_shotsHold_l4 (vwL_shotsHold_b130) (vwL_shotsHold_b216) fu) h0
