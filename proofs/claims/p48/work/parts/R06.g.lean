/- ('X11', 'faults') -/
def wX11_faults_b4 (K J : Nat → Nat) (fu : Nat) (F : VF) (k4 : HS → HI → HR → Nat → Int32 → Int32 → Prop) (sh : HS) (I : HI) (R : HR) (l0 : Nat) (l1 : Int32) (l2 : Int32) : Prop :=
  wB (oR sh R l0 9 3) fun v1 =>
  rcvB sh v1 10 = true ∧
  wJx4a65c_size_8abf5 K J fu sh I R v1 (qwI fun v3 t3 i3 j3 =>
  if v3 ≤ l2 then
    (F (.inl (some (.int l1))) t3 i3 j3)
  else
    (rcvB t3 l0 9 = true ∧
    wX11_kinds K J fu t3 i3 j3 l0 l2 (qwI fun v5 t5 i5 j5 =>
    wB (fJ6_bitCount_0f7a4 fu t5 i5 j5 v5) fun v6 =>
    k4 t5 i5 j5 l0 (l1 + v6) (l2 + 1))))
theorem vwX11_faults_b4 {l : Launch} {K J : Nat → Nat} {fu : Nat} {F : VF} {k4 : HS → HI → HR → Nat → Int32 → Int32 → Prop} (hk4 : ∀ {sh : HS} {I : HI} {R : HR} {l0 : Nat} {l1 : Int32} {l2 : Int32}, k4 sh I R l0 l1 l2 → MW l K J 124 4 [some (.ref l0), some (.int l1), some (.int l2)] [] sh I R (0, 0) F) {sh : HS} {I : HI} {R : HR} {l0 : Nat} {l1 : Int32} {l2 : Int32} (h0 : wX11_faults_b4 K J fu F k4 sh I R l0 l1 l2) : MW l K J 124 4 [some (.ref l0), some (.int l1), some (.int l2)] [] sh I R (0, 0) F := by
  unfold wX11_faults_b4 at h0
  refine mw_il (i := 2) (pc' := 5) (by decide +kernel) rfl ?_
  refine mw_rl (i := 0) (pc' := 6) (by decide +kernel) rfl ?_
  refine mw_fR (ix := 10) (t := 9) (j := 3) (md := 0) (by decide +kernel) h0 (fun v1 h1 => ?_); clear h0
  obtain ⟨q2, h2⟩ := h1
  refine mwx_I (q := 133) (na := 1) (ce := 0) (sl := 0) (X := 0) (Y := 0) (as := [.ref v1]) (by decide +kernel) ⟨Nat.le_refl _, Nat.le_refl _⟩ rfl rfl (by rw [show mL 133 = 1 from by decide +kernel]; rfl) rfl (fun _ => rv_of q2 (by decide +kernel)) (fun z => absurd z (by decide +kernel)) (vwJx4a65c_size_8abf5 h2) (fun v3 t3 i3 j3 h3 => ?_); clear h2
  refine mw_if (ins := .if_icmp .ge 20) (t := 32) (pc' := 15) (by decide +kernel) rfl rfl rfl h3 (fun p4 h4 => ?_) (fun p4 h4 => ?_) <;> clear h3
  · refine mw_il (i := 1) (pc' := 33) (by decide +kernel) rfl ?_
    exact mw_ri (X := 0) (Y := 0) (by decide +kernel) ⟨Nat.le_refl _, Nat.le_refl _⟩ h4
  · refine mw_il (i := 1) (pc' := 16) (by decide +kernel) rfl ?_
    refine mw_rl (i := 0) (pc' := 17) (by decide +kernel) rfl ?_
    refine mw_il (i := 2) (pc' := 18) (by decide +kernel) rfl ?_
    obtain ⟨q4, h5⟩ := h4
    refine mwx_I (q := 123) (na := 2) (ce := 0) (sl := 0) (X := 0) (Y := 0) (as := [.int l2, .ref l0]) (by decide +kernel) ⟨Nat.le_refl _, Nat.le_refl _⟩ rfl rfl (by rw [show mL 123 = 8 from by decide +kernel]; rfl) rfl (fun _ => rv_of q4 (by decide +kernel)) (fun z => absurd z (by decide +kernel)) (vwX11_kinds h5) (fun v5 t5 i5 j5 h6 => ?_); clear h5
    refine hJ6_bitCount_0f7a4 (X := 0) (Y := 0) (by decide +kernel) ⟨Nat.le_refl _, Nat.le_refl _⟩ rfl h6 (fun v6 h7 => ?_); clear h6
    refine mw_a (ins := .iadd) (pc' := 25) (by decide +kernel) rfl ?_
    refine mw_is (i := 1) (pc' := 26) (L' := [some (.ref l0), some (.int (l1 + v6)), some (.int l2)]) (by decide +kernel) rfl rfl ?_
    refine mw_inc (i := 2) (z := 1) (pc' := 29) (L' := [some (.ref l0), some (.int (l1 + v6)), some (.int (l2 + 1))]) (by decide +kernel) rfl rfl rfl ?_
    refine mw_go (t := 4) (by decide +kernel) ?_
    exact hk4 h7
def wX11_faults_l4 (K J : Nat → Nat) (fu : Nat) (F : VF) : Nat → HS → HI → HR → Nat → Int32 → Int32 → Prop
  | 0 => fun _ _ _ _ _ _ => False
  | n + 1 => wX11_faults_b4 K J fu F (wX11_faults_l4 K J fu F n)
theorem vwX11_faults_l4 {l : Launch} {K J : Nat → Nat} {fu : Nat} {F : VF} : ∀ (n : Nat) {sh : HS} {I : HI} {R : HR} {l0 : Nat} {l1 : Int32} {l2 : Int32} (_ : wX11_faults_l4 K J fu F n sh I R l0 l1 l2), MW l K J 124 4 [some (.ref l0), some (.int l1), some (.int l2)] [] sh I R (0, 0) F := by
  intro n
  induction n with
  | zero => exact fun h0 => h0.elim
  | succ n ih => exact fun h0 => vwX11_faults_b4 ih h0
def wX11_faults (K J : Nat → Nat) (fu : Nat) (sh : HS) (I : HI) (R : HR) (l0 : Nat) (F : VF) : Prop :=
  (wX11_faults_l4 K J fu F fu) sh I R l0 0 0
theorem vwX11_faults {l : Launch} {K J : Nat → Nat} {fu : Nat} {sh : HS} {I : HI} {R : HR} {l0 : Nat} {F : VF} (h0 : wX11_faults K J fu sh I R l0 F) : MW l K J 124 0 (ent (mL 124) [.ref l0]) [] sh I R (0, 0) F := by
  unfold wX11_faults at h0
  have ml : mL 124 = 3 := by decide +kernel
  rw [ml]
  show MW l K J 124 0 [some (.ref l0), none, none] [] sh I R (0, 0) F
  refine mw_c (v := 0) (pc' := 1) (by decide +kernel) ?_
  refine mw_is (i := 1) (pc' := 2) (L' := [some (.ref l0), some (.int 0), none]) (by decide +kernel) rfl rfl ?_
  refine mw_c (v := 0) (pc' := 3) (by decide +kernel) ?_
  refine mw_is (i := 2) (pc' := 4) (L' := [some (.ref l0), some (.int 0), some (.int 0)]) (by decide +kernel) rfl rfl ?_
  exact (vwX11_faults_l4 fu) h0
/- ('L', 'casts') -/
def wL_casts_b149 (K J : Nat → Nat) (fu : Nat) (F : VF) (sh : HS) (I : HI) (R : HR) (c1 : Nat) (c2 : Nat) (s0 : Int32) : Prop :=
  (c1 ≤ 20 ∧ c2 ≤ 200) ∧
  (s0 = 0 ∨ s0 = 1) ∧ F (.inl (some (.int s0))) sh I R
theorem vwL_casts_b149 {l : Launch} {K J : Nat → Nat} {fu : Nat} {F : VF} {sh : HS} {I : HI} {R : HR} {c1 : Nat} {c2 : Nat} {s0 : Int32} {d0 d1 d2 d3 d4 d5 d6 : Option Value} (h0 : wL_casts_b149 K J fu F sh I R c1 c2 s0) : MW l K J 181 149 [d0, d1, d2, d3, d4, d5, d6] [.int s0] sh I R (c1, c2) F := by
  unfold wL_casts_b149 at h0
  obtain ⟨r23, h1⟩ := h0
  exact mw_rz (X := 20) (Y := 200) (by decide +kernel) h1.1 r23 h1.2
def wL_casts_b118 (K J : Nat → Nat) (fu : Nat) (F : VF) (sh : HS) (I : HI) (R : HR) (c1 : Nat) (c2 : Nat) (l0 : Nat) (l1 : Nat) (l2 : Nat) (l3 : Int32) (l5 : Int32) (l6 : Int32) : Prop :=
  wB (oS sh I l2 3 l5) fun v16 =>
  wB (oS sh v16 l2 4 l6) fun v17 =>
  (c1 + 4 ≤ 20 ∧ c2 + 24 ≤ 200) ∧
  wB (fX10_setCast fu sh v17 R l0 l3 l5 l6) fun r19 => wS r19.1 fun v19 =>
  rcvB sh l1 9 = true ∧
  ((c1 + 4) ≤ 20 ∧ (c2 + 24) ≤ 200) ∧
  wX11_faults K J fu sh r19.2 R l1 (qwI fun v22 t22 i22 j22 =>
  if v19 = v22 then
    ((wL_casts_b149 K J fu F) t22 i22 j22 (c1 + 4) (c2 + 24) 1)
  else
    ((wL_casts_b149 K J fu F) t22 i22 j22 (c1 + 4) (c2 + 24) 0))
theorem vwL_casts_b118 {l : Launch} {K J : Nat → Nat} {fu : Nat} {F : VF} {sh : HS} {I : HI} {R : HR} {c1 : Nat} {c2 : Nat} {l0 : Nat} {l1 : Nat} {l2 : Nat} {l3 : Int32} {l5 : Int32} {l6 : Int32} {d4 : Option Value} (h0 : wL_casts_b118 K J fu F sh I R c1 c2 l0 l1 l2 l3 l5 l6) : MW l K J 181 118 [some (.ref l0), some (.ref l1), some (.ref l2), some (.int l3), d4, some (.int l5), some (.int l6)] [] sh I R (c1, c2) F := by
  unfold wL_casts_b118 at h0
  refine mw_rl (i := 2) (pc' := 119) (by decide +kernel) rfl ?_
  refine mw_c (v := 3) (pc' := 120) (by decide +kernel) ?_
  refine mw_il (i := 5) (pc' := 122) (by decide +kernel) rfl ?_
  refine mw_ast (by decide +kernel) h0 (fun v16 h1 => ?_); clear h0
  refine mw_rl (i := 2) (pc' := 124) (by decide +kernel) rfl ?_
  refine mw_c (v := 4) (pc' := 125) (by decide +kernel) ?_
  refine mw_il (i := 6) (pc' := 127) (by decide +kernel) rfl ?_
  refine mw_ast (by decide +kernel) h1 (fun v17 h2 => ?_); clear h1
  refine mw_rl (i := 0) (pc' := 129) (by decide +kernel) rfl ?_
  refine mw_il (i := 3) (pc' := 130) (by decide +kernel) rfl ?_
  refine mw_il (i := 5) (pc' := 132) (by decide +kernel) rfl ?_
  refine mw_il (i := 6) (pc' := 134) (by decide +kernel) rfl ?_
  obtain ⟨r18, h3⟩ := h2
  refine hX10_setCast (X := 20) (Y := 200) (by decide +kernel) r18 rfl h3 (fun v19 r19 h4 => ?_); clear h3
  refine mw_rl (i := 1) (pc' := 138) (by decide +kernel) rfl ?_
  obtain ⟨q20, h5⟩ := h4
  obtain ⟨r21, h6⟩ := h5
  refine mwx_I (q := 124) (na := 1) (ce := 0) (sl := 0) (X := 20) (Y := 200) (as := [.ref l1]) (by decide +kernel) r21 rfl rfl (by rw [show mL 124 = 3 from by decide +kernel]; rfl) rfl (fun _ => rv_of q20 (by decide +kernel)) (fun z => absurd z (by decide +kernel)) (vwX11_faults h6) (fun v22 t22 i22 j22 h7 => ?_); clear h6
  refine mw_ifn (ins := .if_icmp .ne 7) (t := 148) (pc' := 144) (by decide +kernel) rfl rfl rfl h7 (fun p8 h8 => ?_) (fun p8 h8 => ?_) <;> clear h7
  · refine mw_c (v := 0) (pc' := 149) (by decide +kernel) ?_
    exact (vwL_casts_b149) h8
  · refine mw_c (v := 1) (pc' := 145) (by decide +kernel) ?_
    refine mw_go (t := 149) (by decide +kernel) ?_
    exact (vwL_casts_b149) h8
def wL_casts_b117 (K J : Nat → Nat) (fu : Nat) (F : VF) (sh : HS) (I : HI) (R : HR) (c1 : Nat) (c2 : Nat) (s0 : Int32) : Prop :=
  (c1 ≤ 20 ∧ c2 ≤ 200) ∧
  (s0 = 0 ∨ s0 = 1) ∧ F (.inl (some (.int s0))) sh I R
theorem vwL_casts_b117 {l : Launch} {K J : Nat → Nat} {fu : Nat} {F : VF} {sh : HS} {I : HI} {R : HR} {c1 : Nat} {c2 : Nat} {s0 : Int32} {d0 d1 d2 d3 d4 d5 d6 : Option Value} (h0 : wL_casts_b117 K J fu F sh I R c1 c2 s0) : MW l K J 181 117 [d0, d1, d2, d3, d4, d5, d6] [.int s0] sh I R (c1, c2) F := by
  unfold wL_casts_b117 at h0
  obtain ⟨r30, h1⟩ := h0
  exact mw_rz (X := 20) (Y := 200) (by decide +kernel) h1.1 r30 h1.2
def wL_casts_b71 (K J : Nat → Nat) (fu : Nat) (F : VF) (sh : HS) (I : HI) (R : HR) (c1 : Nat) (c2 : Nat) (s0 : Int32) : Prop :=
  (c1 ≤ 20 ∧ c2 ≤ 200) ∧
  (s0 = 0 ∨ s0 = 1) ∧ F (.inl (some (.int s0))) sh I R
theorem vwL_casts_b71 {l : Launch} {K J : Nat → Nat} {fu : Nat} {F : VF} {sh : HS} {I : HI} {R : HR} {c1 : Nat} {c2 : Nat} {s0 : Int32} {d0 d1 d2 d3 d4 d5 d6 : Option Value} (h0 : wL_casts_b71 K J fu F sh I R c1 c2 s0) : MW l K J 181 71 [d0, d1, d2, d3, d4, d5, d6] [.int s0] sh I R (c1, c2) F := by
  unfold wL_casts_b71 at h0
  obtain ⟨r33, h1⟩ := h0
  exact mw_rz (X := 20) (Y := 200) (by decide +kernel) h1.1 r33 h1.2
def wL_casts_b43 (K J : Nat → Nat) (fu : Nat) (F : VF) (sh : HS) (I : HI) (R : HR) (c1 : Nat) (c2 : Nat) (l0 : Nat) (l1 : Nat) (l2 : Nat) (l3 : Int32) (l5 : Int32) (s0 : Int32) : Prop :=
  if l5 = s0 then
    ((c1 + 4 ≤ 20 ∧ c2 + 24 ≤ 200) ∧
    wB (fX10_setCast fu sh I R l0 l3 l5 s0) fun r32 => wS r32.1 fun v32 =>
    if v32 = ((-2) : Int32) then
      ((wL_casts_b71 K J fu F) sh r32.2 R (c1 + 4) (c2 + 24) 1)
    else
      ((wL_casts_b71 K J fu F) sh r32.2 R (c1 + 4) (c2 + 24) 0))
  else
    (rcvB sh l1 9 = true ∧
    (c1 ≤ 20 ∧ c2 ≤ 200) ∧
    wX11_ax K J fu sh I R l1 l2 l5 (qwI fun v14 t14 i14 j14 =>
    wB (oA2 t14 i14 l2 1) fun v15 =>
    if v14 = v15 then
      (rcvB t14 l1 9 = true ∧
      (c1 ≤ 20 ∧ c2 ≤ 200) ∧
      wX11_ay K J fu t14 i14 j14 l1 l2 l5 (qwI fun v26 t26 i26 j26 =>
      wB (oA2 t26 i26 l2 2) fun v27 =>
      if v26 = v27 then
        ((c1 + 4 ≤ 20 ∧ c2 + 24 ≤ 200) ∧
        wB (fX10_setCast fu t26 i26 j26 l0 l3 l5 s0) fun r29 => wS r29.1 fun v29 =>
        if v29 = ((-3) : Int32) then
          ((wL_casts_b117 K J fu F) t26 r29.2 j26 (c1 + 4) (c2 + 24) 1)
        else
          ((wL_casts_b117 K J fu F) t26 r29.2 j26 (c1 + 4) (c2 + 24) 0))
      else
        ((wL_casts_b118 K J fu F) t26 i26 j26 c1 c2 l0 l1 l2 l3 l5 s0)))
    else
      ((wL_casts_b118 K J fu F) t14 i14 j14 c1 c2 l0 l1 l2 l3 l5 s0)))
theorem vwL_casts_b43 {l : Launch} {K J : Nat → Nat} {fu : Nat} {F : VF} {sh : HS} {I : HI} {R : HR} {c1 : Nat} {c2 : Nat} {l0 : Nat} {l1 : Nat} {l2 : Nat} {l3 : Int32} {l5 : Int32} {s0 : Int32} {d4 d6 : Option Value} (h0 : wL_casts_b43 K J fu F sh I R c1 c2 l0 l1 l2 l3 l5 s0) : MW l K J 181 43 [some (.ref l0), some (.ref l1), some (.ref l2), some (.int l3), d4, some (.int l5), d6] [.int s0] sh I R (c1, c2) F := by
  unfold wL_casts_b43 at h0
  refine mw_is (i := 6) (pc' := 45) (L' := [some (.ref l0), some (.ref l1), some (.ref l2), some (.int l3), d4, some (.int l5), some (.int s0)]) (by decide +kernel) rfl rfl ?_
  refine mw_il (i := 5) (pc' := 47) (by decide +kernel) rfl ?_
  refine mw_il (i := 6) (pc' := 49) (by decide +kernel) rfl ?_
  refine mw_ifn (ins := .if_icmp .ne 23) (t := 72) (pc' := 52) (by decide +kernel) rfl rfl rfl h0 (fun p1 h1 => ?_) (fun p1 h1 => ?_) <;> clear h0
  · refine mw_rl (i := 1) (pc' := 73) (by decide +kernel) rfl ?_
    refine mw_rl (i := 2) (pc' := 74) (by decide +kernel) rfl ?_
    refine mw_il (i := 5) (pc' := 76) (by decide +kernel) rfl ?_
    obtain ⟨q12, h2⟩ := h1
    obtain ⟨r13, h3⟩ := h2
    refine mwx_I (q := 115) (na := 3) (ce := 0) (sl := 0) (X := 20) (Y := 200) (as := [.int l5, .ref l2, .ref l1]) (by decide +kernel) r13 rfl rfl (by rw [show mL 115 = 3 from by decide +kernel]; rfl) rfl (fun _ => rv_of q12 (by decide +kernel)) (fun z => absurd z (by decide +kernel)) (vwX11_ax h3) (fun v14 t14 i14 j14 h4 => ?_); clear h3
    refine mw_rl (i := 2) (pc' := 80) (by decide +kernel) rfl ?_
    refine mw_c (v := 1) (pc' := 81) (by decide +kernel) ?_
    refine mw_al (by decide +kernel) h4 (fun v15 h5 => ?_); clear h4
    refine mw_ifn (ins := .if_icmp .ne 36) (t := 118) (pc' := 85) (by decide +kernel) rfl rfl rfl h5 (fun p6 h6 => ?_) (fun p6 h6 => ?_) <;> clear h5
    · exact (vwL_casts_b118) h6
    · refine mw_rl (i := 1) (pc' := 86) (by decide +kernel) rfl ?_
      refine mw_rl (i := 2) (pc' := 87) (by decide +kernel) rfl ?_
      refine mw_il (i := 5) (pc' := 89) (by decide +kernel) rfl ?_
      obtain ⟨q24, h7⟩ := h6
      obtain ⟨r25, h8⟩ := h7
      refine mwx_I (q := 116) (na := 3) (ce := 0) (sl := 0) (X := 20) (Y := 200) (as := [.int l5, .ref l2, .ref l1]) (by decide +kernel) r25 rfl rfl (by rw [show mL 116 = 3 from by decide +kernel]; rfl) rfl (fun _ => rv_of q24 (by decide +kernel)) (fun z => absurd z (by decide +kernel)) (vwX11_ay h8) (fun v26 t26 i26 j26 h9 => ?_); clear h8
      refine mw_rl (i := 2) (pc' := 93) (by decide +kernel) rfl ?_
      refine mw_c (v := 2) (pc' := 94) (by decide +kernel) ?_
      refine mw_al (by decide +kernel) h9 (fun v27 h10 => ?_); clear h9
      refine mw_ifn (ins := .if_icmp .ne 23) (t := 118) (pc' := 98) (by decide +kernel) rfl rfl rfl h10 (fun p11 h11 => ?_) (fun p11 h11 => ?_) <;> clear h10
      · exact (vwL_casts_b118) h11
      · refine mw_rl (i := 0) (pc' := 99) (by decide +kernel) rfl ?_
        refine mw_il (i := 3) (pc' := 100) (by decide +kernel) rfl ?_
        refine mw_il (i := 5) (pc' := 102) (by decide +kernel) rfl ?_
        refine mw_il (i := 6) (pc' := 104) (by decide +kernel) rfl ?_
        obtain ⟨r28, h12⟩ := h11
        refine hX10_setCast (X := 20) (Y := 200) (by decide +kernel) r28 rfl h12 (fun v29 r29 h13 => ?_); clear h12
        refine mw_c (v := (-3)) (pc' := 109) (by decide +kernel) ?_
        refine mw_ifn (ins := .if_icmp .ne 7) (t := 116) (pc' := 112) (by decide +kernel) rfl rfl rfl h13 (fun p14 h14 => ?_) (fun p14 h14 => ?_) <;> clear h13
        · refine mw_c (v := 0) (pc' := 117) (by decide +kernel) ?_
          exact (vwL_casts_b117) h14
        · refine mw_c (v := 1) (pc' := 113) (by decide +kernel) ?_
          refine mw_go (t := 117) (by decide +kernel) ?_
          exact (vwL_casts_b117) h14
  · refine mw_rl (i := 0) (pc' := 53) (by decide +kernel) rfl ?_
    refine mw_il (i := 3) (pc' := 54) (by decide +kernel) rfl ?_
    refine mw_il (i := 5) (pc' := 56) (by decide +kernel) rfl ?_
    refine mw_il (i := 6) (pc' := 58) (by decide +kernel) rfl ?_
    obtain ⟨r31, h2⟩ := h1
    refine hX10_setCast (X := 20) (Y := 200) (by decide +kernel) r31 rfl h2 (fun v32 r32 h3 => ?_); clear h2
    refine mw_c (v := (-2)) (pc' := 63) (by decide +kernel) ?_
    refine mw_ifn (ins := .if_icmp .ne 7) (t := 70) (pc' := 66) (by decide +kernel) rfl rfl rfl h3 (fun p4 h4 => ?_) (fun p4 h4 => ?_) <;> clear h3
    · refine mw_c (v := 0) (pc' := 71) (by decide +kernel) ?_
      exact (vwL_casts_b71) h4
    · refine mw_c (v := 1) (pc' := 67) (by decide +kernel) ?_
      refine mw_go (t := 71) (by decide +kernel) ?_
      exact (vwL_casts_b71) h4
def wL_casts (K J : Nat → Nat) (fu : Nat) (sh : HS) (I : HI) (R : HR) (l0 : Nat) (l1 : Nat) (l2 : Nat) (l3 : Int32) (l4 : Int32) (F : VF) : Prop :=
  wB (oA2 sh I l2 0) fun v1 =>
  wB (oM l4 6) fun v2 =>
  (0 ≤ 20 ∧ 0 ≤ 200) ∧
  wL_someActor K J fu sh I R l1 v1 v2 (qwI fun v4 t4 i4 j4 =>
  wB (oD l4 6) fun v5 =>
  wB (oM v5 3) fun v6 =>
  if v6 = 0 then
    ((wL_casts_b43 K J fu F) t4 i4 j4 0 0 l0 l1 l2 l3 v4 (-1))
  else
    (wB (oA2 t4 i4 l2 0) fun v7 =>
    wB (oD l4 18) fun v8 =>
    wB (oM v8 6) fun v9 =>
    (0 ≤ 20 ∧ 0 ≤ 200) ∧
    wL_someActor K J fu t4 i4 j4 l1 v7 v9 (qwI fun v11 t11 i11 j11 =>
    (wL_casts_b43 K J fu F) t11 i11 j11 0 0 l0 l1 l2 l3 v4 v11)))
theorem vwL_casts {l : Launch} {K J : Nat → Nat} {fu : Nat} {sh : HS} {I : HI} {R : HR} {l0 : Nat} {l1 : Nat} {l2 : Nat} {l3 : Int32} {l4 : Int32} {F : VF} (h0 : wL_casts K J fu sh I R l0 l1 l2 l3 l4 F) : MW l K J 181 0 (ent (mL 181) [.ref l0, .ref l1, .ref l2, .int l3, .int l4]) [] sh I R (0, 0) F := by
  unfold wL_casts at h0
  have ml : mL 181 = 7 := by decide +kernel
  rw [ml]
  show MW l K J 181 0 [some (.ref l0), some (.ref l1), some (.ref l2), some (.int l3), some (.int l4), none, none] [] sh I R (0, 0) F
  refine mw_rl (i := 1) (pc' := 1) (by decide +kernel) rfl ?_
  refine mw_rl (i := 2) (pc' := 2) (by decide +kernel) rfl ?_
  refine mw_c (v := 0) (pc' := 3) (by decide +kernel) ?_
  refine mw_al (by decide +kernel) h0 (fun v1 h1 => ?_); clear h0
  refine mw_il (i := 4) (pc' := 6) (by decide +kernel) rfl ?_
  refine mw_c (v := 6) (pc' := 8) (by decide +kernel) ?_
  refine mw_rm (by decide +kernel) h1 (fun v2 h2 => ?_); clear h1
  obtain ⟨r3, h3⟩ := h2
  refine mwx_I (q := 176) (na := 3) (ce := 0) (sl := 0) (X := 20) (Y := 200) (as := [.int v2, .int v1, .ref l1]) (by decide +kernel) r3 rfl rfl (by rw [show mL 176 = 4 from by decide +kernel]; rfl) rfl (fun z => absurd z (by decide +kernel)) (fun z => absurd z (by decide +kernel)) (vwL_someActor h3) (fun v4 t4 i4 j4 h4 => ?_); clear h3
  refine mw_is (i := 5) (pc' := 14) (L' := [some (.ref l0), some (.ref l1), some (.ref l2), some (.int l3), some (.int l4), some (.int v4), none]) (by decide +kernel) rfl rfl ?_
  refine mw_il (i := 4) (pc' := 16) (by decide +kernel) rfl ?_
  refine mw_c (v := 6) (pc' := 18) (by decide +kernel) ?_
  refine mw_dv (by decide +kernel) h4 (fun v5 h5 => ?_); clear h4
  refine mw_c (v := 3) (pc' := 20) (by decide +kernel) ?_
  refine mw_rm (by decide +kernel) h5 (fun v6 h6 => ?_); clear h5
  refine mw_ifn (ins := .ifCond .ne 7) (t := 28) (pc' := 24) (by decide +kernel) rfl rfl rfl h6 (fun p7 h7 => ?_) (fun p7 h7 => ?_) <;> clear h6
  · refine mw_rl (i := 1) (pc' := 29) (by decide +kernel) rfl ?_
    refine mw_rl (i := 2) (pc' := 30) (by decide +kernel) rfl ?_
    refine mw_c (v := 0) (pc' := 31) (by decide +kernel) ?_
    refine mw_al (by decide +kernel) h7 (fun v7 h8 => ?_); clear h7
    refine mw_il (i := 4) (pc' := 34) (by decide +kernel) rfl ?_
    refine mw_c (v := 18) (pc' := 36) (by decide +kernel) ?_
    refine mw_dv (by decide +kernel) h8 (fun v8 h9 => ?_); clear h8
    refine mw_c (v := 6) (pc' := 39) (by decide +kernel) ?_
    refine mw_rm (by decide +kernel) h9 (fun v9 h10 => ?_); clear h9
    obtain ⟨r10, h11⟩ := h10
    refine mwx_I (q := 176) (na := 3) (ce := 0) (sl := 0) (X := 20) (Y := 200) (as := [.int v9, .int v7, .ref l1]) (by decide +kernel) r10 rfl rfl (by rw [show mL 176 = 4 from by decide +kernel]; rfl) rfl (fun z => absurd z (by decide +kernel)) (fun z => absurd z (by decide +kernel)) (vwL_someActor h11) (fun v11 t11 i11 j11 h12 => ?_); clear h11
    exact (vwL_casts_b43) h12
  · refine mw_c (v := (-1)) (pc' := 25) (by decide +kernel) ?_
    refine mw_go (t := 43) (by decide +kernel) ?_
    exact (vwL_casts_b43) h7
/- ('Jx4a65c', 'fastRemove_b59b0') -/
def wJx4a65c_fastRemove_b59b0_b34 (K J : Nat → Nat) (fu : Nat) (F : VF) (sh : HS) (I : HI) (R : HR) (l0 : Nat) (l1 : Nat) (l3 : Int32) : Prop :=
  wB (oP sh I l0 10 2 l3) fun v4 =>
  wB (oAsN sh R l1 l3) fun v5 =>
  F (.inl none) sh v4 v5
theorem vwJx4a65c_fastRemove_b59b0_b34 {l : Launch} {K J : Nat → Nat} {fu : Nat} {F : VF} {sh : HS} {I : HI} {R : HR} {l0 : Nat} {l1 : Nat} {l3 : Int32} {d2 : Option Value} (h0 : wJx4a65c_fastRemove_b59b0_b34 K J fu F sh I R l0 l1 l3) : MW l K J 141 34 [some (.ref l0), some (.ref l1), d2, some (.int l3)] [] sh I R (0, 0) F := by
  unfold wJx4a65c_fastRemove_b59b0_b34 at h0
  refine mw_rl (i := 1) (pc' := 35) (by decide +kernel) rfl ?_
  refine mw_rl (i := 0) (pc' := 36) (by decide +kernel) rfl ?_
  refine mw_il (i := 3) (pc' := 37) (by decide +kernel) rfl ?_
  refine mw_dx (by decide +kernel) rfl rfl ?_
  refine mw_pI (ix := 48) (t := 10) (j := 2) (ty := 0) (md := 0) (by decide +kernel) (Or.inl rfl) h0 (fun v4 h1 => ?_); clear h0
  refine mw_null (by decide +kernel) ?_
  refine mw_asN (by decide +kernel) h1 (fun v5 h2 => ?_); clear h1
  exact mw_rv (X := 0) (Y := 0) (by decide +kernel) ⟨Nat.le_refl _, Nat.le_refl _⟩ h2
def wJx4a65c_fastRemove_b59b0 (K J : Nat → Nat) (fu : Nat) (sh : HS) (I : HI) (R : HR) (l0 : Nat) (l1 : Nat) (l2 : Int32) (F : VF) : Prop :=
  wB (oI sh I l0 10 0) fun v1 =>
  wB (oP sh I l0 10 0 (v1 + 1)) fun v2 =>
  wB (oI sh v2 l0 10 2) fun v3 =>
  if (v3 - 1) ≤ l2 then
    ((wJx4a65c_fastRemove_b59b0_b34 K J fu F) sh v2 R l0 l1 (v3 - 1))
  else
    (oCr sh R l1 (l2 + 1) l1 l2 ((v3 - 1) - l2) fun w6 =>
    (wJx4a65c_fastRemove_b59b0_b34 K J fu F) sh v2 w6 l0 l1 (v3 - 1))
theorem vwJx4a65c_fastRemove_b59b0 {l : Launch} {K J : Nat → Nat} {fu : Nat} {sh : HS} {I : HI} {R : HR} {l0 : Nat} {l1 : Nat} {l2 : Int32} {F : VF} (h0 : wJx4a65c_fastRemove_b59b0 K J fu sh I R l0 l1 l2 F) : MW l K J 141 0 (ent (mL 141) [.ref l0, .ref l1, .int l2]) [] sh I R (0, 0) F := by
  unfold wJx4a65c_fastRemove_b59b0 at h0
  have ml : mL 141 = 4 := by decide +kernel
  rw [ml]
  show MW l K J 141 0 [some (.ref l0), some (.ref l1), some (.int l2), none] [] sh I R (0, 0) F
  refine mw_rl (i := 0) (pc' := 1) (by decide +kernel) rfl ?_
  refine mw_a (ins := .dup) (pc' := 2) (by decide +kernel) rfl ?_
  refine mw_fI (ix := 63) (t := 10) (j := 0) (ty := 0) (md := 2) (by decide +kernel) (by decide) h0 (fun v1 h1 => ?_); clear h0
  refine mw_c (v := 1) (pc' := 6) (by decide +kernel) ?_
  refine mw_a (ins := .iadd) (pc' := 7) (by decide +kernel) rfl ?_
  refine mw_pI (ix := 63) (t := 10) (j := 0) (ty := 0) (md := 2) (by decide +kernel) (Or.inl rfl) h1 (fun v2 h2 => ?_); clear h1
  refine mw_rl (i := 0) (pc' := 11) (by decide +kernel) rfl ?_
  refine mw_fI (ix := 48) (t := 10) (j := 2) (ty := 0) (md := 0) (by decide +kernel) (by decide) h2 (fun v3 h3 => ?_); clear h2
  refine mw_c (v := 1) (pc' := 15) (by decide +kernel) ?_
  refine mw_a (ins := .isub) (pc' := 16) (by decide +kernel) rfl ?_
  refine mw_a (ins := .dup) (pc' := 17) (by decide +kernel) rfl ?_
  refine mw_is (i := 3) (pc' := 18) (L' := [some (.ref l0), some (.ref l1), some (.int l2), some (.int (v3 - 1))]) (by decide +kernel) rfl rfl ?_
  refine mw_il (i := 2) (pc' := 19) (by decide +kernel) rfl ?_
  refine mw_if (ins := .if_icmp .le 15) (t := 34) (pc' := 22) (by decide +kernel) rfl rfl rfl h3 (fun p4 h4 => ?_) (fun p4 h4 => ?_) <;> clear h3
  · exact (vwJx4a65c_fastRemove_b59b0_b34) h4
  · refine mw_rl (i := 1) (pc' := 23) (by decide +kernel) rfl ?_
    refine mw_il (i := 2) (pc' := 24) (by decide +kernel) rfl ?_
    refine mw_c (v := 1) (pc' := 25) (by decide +kernel) ?_
    refine mw_a (ins := .iadd) (pc' := 26) (by decide +kernel) rfl ?_
    refine mw_rl (i := 1) (pc' := 27) (by decide +kernel) rfl ?_
    refine mw_il (i := 2) (pc' := 28) (by decide +kernel) rfl ?_
    refine mw_il (i := 3) (pc' := 29) (by decide +kernel) rfl ?_
    refine mw_il (i := 2) (pc' := 30) (by decide +kernel) rfl ?_
    refine mw_a (ins := .isub) (pc' := 31) (by decide +kernel) rfl ?_
    refine mw_cpR (ix := 112) (X := 0) (Y := 0) (by decide +kernel) rfl ⟨Nat.le_refl _, Nat.le_refl _⟩ h4 (fun w6 h5 => ?_); clear h4
    exact (vwJx4a65c_fastRemove_b59b0_b34) h5
/- ('Jx4a65c', 'remove_915e3') -/
def wJx4a65c_remove_915e3 (K J : Nat → Nat) (fu : Nat) (sh : HS) (I : HI) (R : HR) (l0 : Nat) (l1 : Int32) (F : VF) : Prop :=
  wB (oI sh I l0 10 2) fun v1 =>
  wJ15_checkIndex_7cf53 K J fu sh I R l1 v1 (qwI fun v2 t2 i2 j2 =>
  wB (oR t2 j2 l0 10 1) fun v3 =>
  wB (oAr t2 j2 v3 46 l1) fun v4 =>
  rcvB t2 l0 10 = true ∧
  wJx4a65c_fastRemove_b59b0 K J fu t2 i2 j2 l0 v3 l1 (qwV fun t6 i6 j6 =>
  F (.inl (some (.ref v4))) t6 i6 j6))
theorem vwJx4a65c_remove_915e3 {l : Launch} {K J : Nat → Nat} {fu : Nat} {sh : HS} {I : HI} {R : HR} {l0 : Nat} {l1 : Int32} {F : VF} (h0 : wJx4a65c_remove_915e3 K J fu sh I R l0 l1 F) : MW l K J 140 0 (ent (mL 140) [.ref l0, .int l1]) [] sh I R (0, 0) F := by
  unfold wJx4a65c_remove_915e3 at h0
  have ml : mL 140 = 4 := by decide +kernel
  rw [ml]
  show MW l K J 140 0 [some (.ref l0), some (.int l1), none, none] [] sh I R (0, 0) F
  refine mw_il (i := 1) (pc' := 1) (by decide +kernel) rfl ?_
  refine mw_rl (i := 0) (pc' := 2) (by decide +kernel) rfl ?_
  refine mw_fI (ix := 48) (t := 10) (j := 2) (ty := 0) (md := 0) (by decide +kernel) (by decide) h0 (fun v1 h1 => ?_); clear h0
  refine mwx_I (q := 196) (na := 2) (ce := 0) (sl := 0) (X := 0) (Y := 0) (as := [.int v1, .int l1]) (by decide +kernel) ⟨Nat.le_refl _, Nat.le_refl _⟩ rfl rfl (by rw [show mL 196 = 2 from by decide +kernel]; rfl) rfl (fun z => absurd z (by decide +kernel)) (fun z => absurd z (by decide +kernel)) (vwJ15_checkIndex_7cf53 h1) (fun v2 t2 i2 j2 h2 => ?_); clear h1
  refine mw_pop (by decide +kernel) rfl ?_
  refine mw_rl (i := 0) (pc' := 10) (by decide +kernel) rfl ?_
  refine mw_fR (ix := 9) (t := 10) (j := 1) (md := 0) (by decide +kernel) h2 (fun v3 h3 => ?_); clear h2
  refine mw_rs (i := 2) (pc' := 14) (L' := [some (.ref l0), some (.int l1), some (.ref v3), none]) (by decide +kernel) rfl rfl ?_
  refine mw_rl (i := 2) (pc' := 15) (by decide +kernel) rfl ?_
  refine mw_il (i := 1) (pc' := 16) (by decide +kernel) rfl ?_
  refine mw_aal (t := 46) (by decide +kernel) (by decide) h3 (fun v4 h4 => ?_); clear h3
  refine mw_rs (i := 3) (pc' := 18) (L' := [some (.ref l0), some (.int l1), some (.ref v3), some (.ref v4)]) (by decide +kernel) rfl rfl ?_
  refine mw_rl (i := 0) (pc' := 19) (by decide +kernel) rfl ?_
  refine mw_rl (i := 2) (pc' := 20) (by decide +kernel) rfl ?_
  refine mw_il (i := 1) (pc' := 21) (by decide +kernel) rfl ?_
  obtain ⟨q5, h5⟩ := h4
  refine mwx_V (q := 141) (na := 3) (ce := 0) (sl := 0) (X := 0) (Y := 0) (as := [.int l1, .ref v3, .ref l0]) (by decide +kernel) ⟨Nat.le_refl _, Nat.le_refl _⟩ rfl rfl (by rw [show mL 141 = 4 from by decide +kernel]; rfl) rfl (fun _ => rv_of q5 (by decide +kernel)) (fun z => absurd z (by decide +kernel)) (vwJx4a65c_fastRemove_b59b0 h5) (fun t6 i6 j6 h6 => ?_); clear h5
  refine mw_rl (i := 3) (pc' := 25) (by decide +kernel) rfl ?_
  exact mw_rr (v := some v4) (X := 0) (Y := 0) (by decide +kernel) ⟨Nat.le_refl _, Nat.le_refl _⟩ h6
/- ('Jx4a65c', 'rangeCheckForAdd_d00df') -/
def wJx4a65c_rangeCheckForAdd_d00df_b12 (K J : Nat → Nat) (fu : Nat) (F : VF) (sh : HS) (I : HI) (R : HR) : Prop :=
  False
theorem vwJx4a65c_rangeCheckForAdd_d00df_b12 {l : Launch} {K J : Nat → Nat} {fu : Nat} {F : VF} {sh : HS} {I : HI} {R : HR} {d0 d1 : Option Value} (h0 : wJx4a65c_rangeCheckForAdd_d00df_b12 K J fu F sh I R) : MW l K J 142 12 [d0, d1] [] sh I R (0, 0) F := by
  unfold wJx4a65c_rangeCheckForAdd_d00df_b12 at h0
  exact h0.elim
def wJx4a65c_rangeCheckForAdd_d00df (K J : Nat → Nat) (fu : Nat) (sh : HS) (I : HI) (R : HR) (l0 : Nat) (l1 : Int32) (F : VF) : Prop :=
  wB (oI sh I l0 10 2) fun v1 =>
  if v1 < l1 then
    ((wJx4a65c_rangeCheckForAdd_d00df_b12 K J fu F) sh I R)
  else
    (if 0 ≤ l1 then
      (F (.inl none) sh I R)
    else
      ((wJx4a65c_rangeCheckForAdd_d00df_b12 K J fu F) sh I R))
theorem vwJx4a65c_rangeCheckForAdd_d00df {l : Launch} {K J : Nat → Nat} {fu : Nat} {sh : HS} {I : HI} {R : HR} {l0 : Nat} {l1 : Int32} {F : VF} (h0 : wJx4a65c_rangeCheckForAdd_d00df K J fu sh I R l0 l1 F) : MW l K J 142 0 (ent (mL 142) [.ref l0, .int l1]) [] sh I R (0, 0) F := by
  unfold wJx4a65c_rangeCheckForAdd_d00df at h0
  have ml : mL 142 = 2 := by decide +kernel
  rw [ml]
  show MW l K J 142 0 [some (.ref l0), some (.int l1)] [] sh I R (0, 0) F
  refine mw_il (i := 1) (pc' := 1) (by decide +kernel) rfl ?_
  refine mw_rl (i := 0) (pc' := 2) (by decide +kernel) rfl ?_
  refine mw_fI (ix := 48) (t := 10) (j := 2) (ty := 0) (md := 0) (by decide +kernel) (by decide) h0 (fun v1 h1 => ?_); clear h0
  refine mw_if (ins := .if_icmp .gt 7) (t := 12) (pc' := 8) (by decide +kernel) rfl rfl rfl h1 (fun p2 h2 => ?_) (fun p2 h2 => ?_) <;> clear h1
  · exact (vwJx4a65c_rangeCheckForAdd_d00df_b12) h2
  · refine mw_il (i := 1) (pc' := 9) (by decide +kernel) rfl ?_
    refine mw_if (ins := .ifCond .ge 16) (t := 25) (pc' := 12) (by decide +kernel) rfl rfl rfl h2 (fun p3 h3 => ?_) (fun p3 h3 => ?_) <;> clear h2
    · exact mw_rv (X := 0) (Y := 0) (by decide +kernel) ⟨Nat.le_refl _, Nat.le_refl _⟩ h3
    · exact (vwJx4a65c_rangeCheckForAdd_d00df_b12) h3
/- ('Jx4a65c', 'add_7a177') -/
def wJx4a65c_add_7a177_b38 (K J : Nat → Nat) (fu : Nat) (F : VF) (sh : HS) (I : HI) (R : HR) (c1 : Nat) (c2 : Nat) (l0 : Nat) (l1 : Int32) (l2 : Nat) (l3 : Int32) (l4 : Nat) : Prop :=
  (c1 ≤ 1 ∧ c2 ≤ 32) ∧
  oCr sh R l4 l1 l4 (l1 + 1) (l3 - l1) fun w10 =>
  wB (oAs sh w10 l4 l1 l2) fun v11 =>
  wB (oP sh I l0 10 2 (l3 + 1)) fun v12 =>
  (c1 ≤ 1 ∧ c2 ≤ 32) ∧
  F (.inl none) sh v12 v11
theorem vwJx4a65c_add_7a177_b38 {l : Launch} {K J : Nat → Nat} {fu : Nat} {F : VF} {sh : HS} {I : HI} {R : HR} {c1 : Nat} {c2 : Nat} {l0 : Nat} {l1 : Int32} {l2 : Nat} {l3 : Int32} {l4 : Nat} (h0 : wJx4a65c_add_7a177_b38 K J fu F sh I R c1 c2 l0 l1 l2 l3 l4) : MW l K J 139 38 [some (.ref l0), some (.int l1), some (.ref l2), some (.int l3), some (.ref l4)] [] sh I R (c1, c2) F := by
  unfold wJx4a65c_add_7a177_b38 at h0
  refine mw_rl (i := 4) (pc' := 40) (by decide +kernel) rfl ?_
  refine mw_il (i := 1) (pc' := 41) (by decide +kernel) rfl ?_
  refine mw_rl (i := 4) (pc' := 43) (by decide +kernel) rfl ?_
  refine mw_il (i := 1) (pc' := 44) (by decide +kernel) rfl ?_
  refine mw_c (v := 1) (pc' := 45) (by decide +kernel) ?_
  refine mw_a (ins := .iadd) (pc' := 46) (by decide +kernel) rfl ?_
  refine mw_il (i := 3) (pc' := 47) (by decide +kernel) rfl ?_
  refine mw_il (i := 1) (pc' := 48) (by decide +kernel) rfl ?_
  refine mw_a (ins := .isub) (pc' := 49) (by decide +kernel) rfl ?_
  obtain ⟨r9, h1⟩ := h0
  refine mw_cpR (ix := 112) (X := 1) (Y := 32) (by decide +kernel) rfl r9 h1 (fun w10 h2 => ?_); clear h1
  refine mw_rl (i := 4) (pc' := 54) (by decide +kernel) rfl ?_
  refine mw_il (i := 1) (pc' := 55) (by decide +kernel) rfl ?_
  refine mw_rl (i := 2) (pc' := 56) (by decide +kernel) rfl ?_
  refine mw_aas (by decide +kernel) h2 (fun v11 h3 => ?_); clear h2
  refine mw_rl (i := 0) (pc' := 58) (by decide +kernel) rfl ?_
  refine mw_il (i := 3) (pc' := 59) (by decide +kernel) rfl ?_
  refine mw_c (v := 1) (pc' := 60) (by decide +kernel) ?_
  refine mw_a (ins := .iadd) (pc' := 61) (by decide +kernel) rfl ?_
  refine mw_pI (ix := 48) (t := 10) (j := 2) (ty := 0) (md := 0) (by decide +kernel) (Or.inl rfl) h3 (fun v12 h4 => ?_); clear h3
  obtain ⟨r13, h5⟩ := h4
  exact mw_rv (X := 1) (Y := 32) (by decide +kernel) r13 h5
def wJx4a65c_add_7a177 (K J : Nat → Nat) (fu : Nat) (sh : HS) (I : HI) (R : HR) (l0 : Nat) (l1 : Int32) (l2 : Nat) (F : VF) : Prop :=
  rcvB sh l0 10 = true ∧
  (0 ≤ 1 ∧ 0 ≤ 32) ∧
  wJx4a65c_rangeCheckForAdd_d00df K J fu sh I R l0 l1 (qwV fun t3 i3 j3 =>
  wB (oI t3 i3 l0 10 0) fun v4 =>
  wB (oP t3 i3 l0 10 0 (v4 + 1)) fun v5 =>
  wB (oI t3 v5 l0 10 2) fun v6 =>
  wB (oR t3 j3 l0 10 1) fun v7 =>
  wB (oLn t3 v7) fun v8 =>
  if v6 = v8 then
    (rcvB t3 l0 10 = true ∧
    (0 + 1 ≤ 1 ∧ 0 + 32 ≤ 32) ∧
    wJx4a65c_grow_d5877 K J fu t3 v5 j3 l0 (qwR fun v16 t16 i16 j16 =>
    (wJx4a65c_add_7a177_b38 K J fu F) t16 i16 j16 (0 + 1) (0 + 32) l0 l1 l2 v6 v16))
  else
    ((wJx4a65c_add_7a177_b38 K J fu F) t3 v5 j3 0 0 l0 l1 l2 v6 v7))
theorem vwJx4a65c_add_7a177 {l : Launch} {K J : Nat → Nat} {fu : Nat} {sh : HS} {I : HI} {R : HR} {l0 : Nat} {l1 : Int32} {l2 : Nat} {F : VF} (h0 : wJx4a65c_add_7a177 K J fu sh I R l0 l1 l2 F) : MW l K J 139 0 (ent (mL 139) [.ref l0, .int l1, .ref l2]) [] sh I R (0, 0) F := by
  unfold wJx4a65c_add_7a177 at h0
  have ml : mL 139 = 5 := by decide +kernel
  rw [ml]
  show MW l K J 139 0 [some (.ref l0), some (.int l1), some (.ref l2), none, none] [] sh I R (0, 0) F
  refine mw_rl (i := 0) (pc' := 1) (by decide +kernel) rfl ?_
  refine mw_il (i := 1) (pc' := 2) (by decide +kernel) rfl ?_
  obtain ⟨q1, h1⟩ := h0
  obtain ⟨r2, h2⟩ := h1
  refine mwx_V (q := 142) (na := 2) (ce := 0) (sl := 0) (X := 1) (Y := 32) (as := [.int l1, .ref l0]) (by decide +kernel) r2 rfl rfl (by rw [show mL 142 = 2 from by decide +kernel]; rfl) rfl (fun _ => rv_of q1 (by decide +kernel)) (fun z => absurd z (by decide +kernel)) (vwJx4a65c_rangeCheckForAdd_d00df h2) (fun t3 i3 j3 h3 => ?_); clear h2
  refine mw_rl (i := 0) (pc' := 6) (by decide +kernel) rfl ?_
  refine mw_a (ins := .dup) (pc' := 7) (by decide +kernel) rfl ?_
  refine mw_fI (ix := 63) (t := 10) (j := 0) (ty := 0) (md := 2) (by decide +kernel) (by decide) h3 (fun v4 h4 => ?_); clear h3
  refine mw_c (v := 1) (pc' := 11) (by decide +kernel) ?_
  refine mw_a (ins := .iadd) (pc' := 12) (by decide +kernel) rfl ?_
  refine mw_pI (ix := 63) (t := 10) (j := 0) (ty := 0) (md := 2) (by decide +kernel) (Or.inl rfl) h4 (fun v5 h5 => ?_); clear h4
  refine mw_rl (i := 0) (pc' := 16) (by decide +kernel) rfl ?_
  refine mw_fI (ix := 48) (t := 10) (j := 2) (ty := 0) (md := 0) (by decide +kernel) (by decide) h5 (fun v6 h6 => ?_); clear h5
  refine mw_a (ins := .dup) (pc' := 20) (by decide +kernel) rfl ?_
  refine mw_is (i := 3) (pc' := 21) (L' := [some (.ref l0), some (.int l1), some (.ref l2), some (.int v6), none]) (by decide +kernel) rfl rfl ?_
  refine mw_rl (i := 0) (pc' := 22) (by decide +kernel) rfl ?_
  refine mw_fR (ix := 9) (t := 10) (j := 1) (md := 0) (by decide +kernel) h6 (fun v7 h7 => ?_); clear h6
  refine mw_a (ins := .dup) (pc' := 26) (by decide +kernel) rfl ?_
  refine mw_rs (i := 4) (pc' := 28) (L' := [some (.ref l0), some (.int l1), some (.ref l2), some (.int v6), some (.ref v7)]) (by decide +kernel) rfl rfl ?_
  refine mw_ln (by decide +kernel) h7 (fun v8 h8 => ?_); clear h7
  refine mw_ifn (ins := .if_icmp .ne 9) (t := 38) (pc' := 32) (by decide +kernel) rfl rfl rfl h8 (fun p9 h9 => ?_) (fun p9 h9 => ?_) <;> clear h8
  · exact (vwJx4a65c_add_7a177_b38) h9
  · refine mw_rl (i := 0) (pc' := 33) (by decide +kernel) rfl ?_
    obtain ⟨q14, h10⟩ := h9
    obtain ⟨r15, h11⟩ := h10
    refine mwx_R (q := 132) (na := 1) (ce := 1) (sl := 32) (X := 1) (Y := 32) (as := [.ref l0]) (by decide +kernel) r15 rfl rfl (by rw [show mL 132 = 1 from by decide +kernel]; rfl) rfl (fun _ => rv_of q14 (by decide +kernel)) (fun z => absurd z (by decide +kernel)) (vwJx4a65c_grow_d5877 h11) (fun v16 t16 i16 j16 h12 => ?_); clear h11
    refine mw_rs (i := 4) (pc' := 38) (L' := [some (.ref l0), some (.int l1), some (.ref l2), some (.int v6), some (.ref v16)]) (by decide +kernel) rfl rfl ?_
    exact (vwJx4a65c_add_7a177_b38) h12
/- ('L', 'shifts') -/
def wL_shifts_b87 (K J : Nat → Nat) (fu : Nat) (F : VF) (sh : HS) (I : HI) (R : HR) (c1 : Nat) (c2 : Nat) (s0 : Int32) : Prop :=
  (c1 ≤ 10 ∧ c2 ≤ 100) ∧
  (s0 = 0 ∨ s0 = 1) ∧ F (.inl (some (.int s0))) sh I R
theorem vwL_shifts_b87 {l : Launch} {K J : Nat → Nat} {fu : Nat} {F : VF} {sh : HS} {I : HI} {R : HR} {c1 : Nat} {c2 : Nat} {s0 : Int32} {d0 d1 d2 d3 d4 : Option Value} (h0 : wL_shifts_b87 K J fu F sh I R c1 c2 s0) : MW l K J 182 87 [d0, d1, d2, d3, d4] [.int s0] sh I R (c1, c2) F := by
  unfold wL_shifts_b87 at h0
  obtain ⟨r24, h1⟩ := h0
  exact mw_rz (X := 10) (Y := 100) (by decide +kernel) h1.1 r24 h1.2
def wL_shifts_b45 (K J : Nat → Nat) (fu : Nat) (F : VF) (sh : HS) (I : HI) (R : HR) (c1 : Nat) (c2 : Nat) (s0 : Int32) : Prop :=
  (c1 ≤ 10 ∧ c2 ≤ 100) ∧
  (s0 = 0 ∨ s0 = 1) ∧ F (.inl (some (.int s0))) sh I R
theorem vwL_shifts_b45 {l : Launch} {K J : Nat → Nat} {fu : Nat} {F : VF} {sh : HS} {I : HI} {R : HR} {c1 : Nat} {c2 : Nat} {s0 : Int32} {d0 d1 d2 d3 d4 : Option Value} (h0 : wL_shifts_b45 K J fu F sh I R c1 c2 s0) : MW l K J 182 45 [d0, d1, d2, d3, d4] [.int s0] sh I R (c1, c2) F := by
  unfold wL_shifts_b45 at h0
  obtain ⟨r27, h1⟩ := h0
  exact mw_rz (X := 10) (Y := 100) (by decide +kernel) h1.1 r27 h1.2
def wL_shifts (K J : Nat → Nat) (fu : Nat) (sh : HS) (I : HI) (R : HR) (l0 : Nat) (l1 : Nat) (l2 : Int32) (l3 : Int32) (F : VF) : Prop :=
  wB (oR sh R l1 9 3) fun v1 =>
  rcvB sh v1 10 = true ∧
  (0 ≤ 10 ∧ 0 ≤ 100) ∧
  wJx4a65c_get_915e3 K J fu sh I R v1 l2 (qwR fun v4 t4 i4 j4 =>
  wB (oKt t4 v4 1) fun _ =>
  wB (oA2 t4 i4 v4 0) fun v5 =>
  wB (oR t4 j4 l1 9 3) fun v6 =>
  rcvB t4 v6 10 = true ∧
  (0 ≤ 10 ∧ 0 ≤ 100) ∧
  wJx4a65c_get_915e3 K J fu t4 i4 j4 v6 l3 (qwR fun v9 t9 i9 j9 =>
  wB (oKt t9 v9 1) fun _ =>
  wB (oA2 t9 i9 v9 0) fun v10 =>
  if v5 = v10 then
    (wB (oR t9 j9 l1 9 3) fun v11 =>
    rcvB t9 v11 10 = true ∧
    (0 ≤ 10 ∧ 0 ≤ 100) ∧
    wJx4a65c_remove_915e3 K J fu t9 i9 j9 v11 l2 (qwR fun v14 t14 i14 j14 =>
    wB (oKt t14 v14 1) fun _ =>
    wB (oR t14 j14 l1 9 3) fun v15 =>
    rcvB t14 v15 10 = true ∧
    (0 + 1 ≤ 10 ∧ 0 + 32 ≤ 100) ∧
    wJx4a65c_add_7a177 K J fu t14 i14 j14 v15 l3 v14 (qwV fun t18 i18 j18 =>
    ((0 + 1) + 3 ≤ 10 ∧ (0 + 32) + 18 ≤ 100) ∧
    wB (fX10_shift fu t18 i18 j18 l0 l2 l3) fun r20 => wS r20.1 fun v20 =>
    rcvB t18 l1 9 = true ∧
    (((0 + 1) + 3) ≤ 10 ∧ ((0 + 32) + 18) ≤ 100) ∧
    wX11_faults K J fu t18 r20.2.1 r20.2.2 l1 (qwI fun v23 t23 i23 j23 =>
    if v20 = v23 then
      ((wL_shifts_b87 K J fu F) t23 i23 j23 ((0 + 1) + 3) ((0 + 32) + 18) 1)
    else
      ((wL_shifts_b87 K J fu F) t23 i23 j23 ((0 + 1) + 3) ((0 + 32) + 18) 0)))))
  else
    ((0 + 3 ≤ 10 ∧ 0 + 18 ≤ 100) ∧
    wB (fX10_shift fu t9 i9 j9 l0 l2 l3) fun r26 => wS r26.1 fun v26 =>
    if v26 = ((-2) : Int32) then
      ((wL_shifts_b45 K J fu F) t9 r26.2.1 r26.2.2 (0 + 3) (0 + 18) 1)
    else
      ((wL_shifts_b45 K J fu F) t9 r26.2.1 r26.2.2 (0 + 3) (0 + 18) 0))))
theorem vwL_shifts {l : Launch} {K J : Nat → Nat} {fu : Nat} {sh : HS} {I : HI} {R : HR} {l0 : Nat} {l1 : Nat} {l2 : Int32} {l3 : Int32} {F : VF} (h0 : wL_shifts K J fu sh I R l0 l1 l2 l3 F) : MW l K J 182 0 (ent (mL 182) [.ref l0, .ref l1, .int l2, .int l3]) [] sh I R (0, 0) F := by
  unfold wL_shifts at h0
  have ml : mL 182 = 5 := by decide +kernel
  rw [ml]
  show MW l K J 182 0 [some (.ref l0), some (.ref l1), some (.int l2), some (.int l3), none] [] sh I R (0, 0) F
  refine mw_rl (i := 1) (pc' := 1) (by decide +kernel) rfl ?_
  refine mw_fR (ix := 48) (t := 9) (j := 3) (md := 1) (by decide +kernel) h0 (fun v1 h1 => ?_); clear h0
  refine mw_il (i := 2) (pc' := 5) (by decide +kernel) rfl ?_
  obtain ⟨q2, h2⟩ := h1
  obtain ⟨r3, h3⟩ := h2
  refine mwx_R (q := 135) (na := 2) (ce := 0) (sl := 0) (X := 10) (Y := 100) (as := [.int l2, .ref v1]) (by decide +kernel) r3 rfl rfl (by rw [show mL 135 = 2 from by decide +kernel]; rfl) rfl (fun _ => rv_of q2 (by decide +kernel)) (fun z => absurd z (by decide +kernel)) (vwJx4a65c_get_915e3 h3) (fun v4 t4 i4 j4 h4 => ?_); clear h3
  refine mw_cst (ix := 97) (v := 1) (by decide +kernel) h4 (fun h5 => ?_); clear h4
  refine mw_c (v := 0) (pc' := 12) (by decide +kernel) ?_
  refine mw_al (by decide +kernel) h5 (fun v5 h6 => ?_); clear h5
  refine mw_rl (i := 1) (pc' := 14) (by decide +kernel) rfl ?_
  refine mw_fR (ix := 48) (t := 9) (j := 3) (md := 1) (by decide +kernel) h6 (fun v6 h7 => ?_); clear h6
  refine mw_il (i := 3) (pc' := 18) (by decide +kernel) rfl ?_
  obtain ⟨q7, h8⟩ := h7
  obtain ⟨r8, h9⟩ := h8
  refine mwx_R (q := 135) (na := 2) (ce := 0) (sl := 0) (X := 10) (Y := 100) (as := [.int l3, .ref v6]) (by decide +kernel) r8 rfl rfl (by rw [show mL 135 = 2 from by decide +kernel]; rfl) rfl (fun _ => rv_of q7 (by decide +kernel)) (fun z => absurd z (by decide +kernel)) (vwJx4a65c_get_915e3 h9) (fun v9 t9 i9 j9 h10 => ?_); clear h9
  refine mw_cst (ix := 97) (v := 1) (by decide +kernel) h10 (fun h11 => ?_); clear h10
  refine mw_c (v := 0) (pc' := 25) (by decide +kernel) ?_
  refine mw_al (by decide +kernel) h11 (fun v10 h12 => ?_); clear h11
  refine mw_if (ins := .if_icmp .eq 20) (t := 46) (pc' := 29) (by decide +kernel) rfl rfl rfl h12 (fun p13 h13 => ?_) (fun p13 h13 => ?_) <;> clear h12
  · refine mw_rl (i := 1) (pc' := 47) (by decide +kernel) rfl ?_
    refine mw_fR (ix := 48) (t := 9) (j := 3) (md := 1) (by decide +kernel) h13 (fun v11 h14 => ?_); clear h13
    refine mw_il (i := 2) (pc' := 51) (by decide +kernel) rfl ?_
    obtain ⟨q12, h15⟩ := h14
    obtain ⟨r13, h16⟩ := h15
    refine mwx_R (q := 140) (na := 2) (ce := 0) (sl := 0) (X := 10) (Y := 100) (as := [.int l2, .ref v11]) (by decide +kernel) r13 rfl rfl (by rw [show mL 140 = 4 from by decide +kernel]; rfl) rfl (fun _ => rv_of q12 (by decide +kernel)) (fun z => absurd z (by decide +kernel)) (vwJx4a65c_remove_915e3 h16) (fun v14 t14 i14 j14 h17 => ?_); clear h16
    refine mw_cst (ix := 97) (v := 1) (by decide +kernel) h17 (fun h18 => ?_); clear h17
    refine mw_rs (i := 4) (pc' := 59) (L' := [some (.ref l0), some (.ref l1), some (.int l2), some (.int l3), some (.ref v14)]) (by decide +kernel) rfl rfl ?_
    refine mw_rl (i := 1) (pc' := 60) (by decide +kernel) rfl ?_
    refine mw_fR (ix := 48) (t := 9) (j := 3) (md := 1) (by decide +kernel) h18 (fun v15 h19 => ?_); clear h18
    refine mw_il (i := 3) (pc' := 64) (by decide +kernel) rfl ?_
    refine mw_rl (i := 4) (pc' := 66) (by decide +kernel) rfl ?_
    obtain ⟨q16, h20⟩ := h19
    obtain ⟨r17, h21⟩ := h20
    refine mwx_V (q := 139) (na := 3) (ce := 1) (sl := 32) (X := 10) (Y := 100) (as := [.ref v14, .int l3, .ref v15]) (by decide +kernel) r17 rfl rfl (by rw [show mL 139 = 5 from by decide +kernel]; rfl) rfl (fun _ => rv_of q16 (by decide +kernel)) (fun z => absurd z (by decide +kernel)) (vwJx4a65c_add_7a177 h21) (fun t18 i18 j18 h22 => ?_); clear h21
    refine mw_rl (i := 0) (pc' := 70) (by decide +kernel) rfl ?_
    refine mw_il (i := 2) (pc' := 71) (by decide +kernel) rfl ?_
    refine mw_il (i := 3) (pc' := 72) (by decide +kernel) rfl ?_
    obtain ⟨r19, h23⟩ := h22
    refine hX10_shift (X := 10) (Y := 100) (by decide +kernel) r19 rfl h23 (fun v20 r20 h24 => ?_); clear h23
    refine mw_rl (i := 1) (pc' := 76) (by decide +kernel) rfl ?_
    obtain ⟨q21, h25⟩ := h24
    obtain ⟨r22, h26⟩ := h25
    refine mwx_I (q := 124) (na := 1) (ce := 0) (sl := 0) (X := 10) (Y := 100) (as := [.ref l1]) (by decide +kernel) r22 rfl rfl (by rw [show mL 124 = 3 from by decide +kernel]; rfl) rfl (fun _ => rv_of q21 (by decide +kernel)) (fun z => absurd z (by decide +kernel)) (vwX11_faults h26) (fun v23 t23 i23 j23 h27 => ?_); clear h26
    refine mw_ifn (ins := .if_icmp .ne 7) (t := 86) (pc' := 82) (by decide +kernel) rfl rfl rfl h27 (fun p28 h28 => ?_) (fun p28 h28 => ?_) <;> clear h27
    · refine mw_c (v := 0) (pc' := 87) (by decide +kernel) ?_
      exact (vwL_shifts_b87) h28
    · refine mw_c (v := 1) (pc' := 83) (by decide +kernel) ?_
      refine mw_go (t := 87) (by decide +kernel) ?_
      exact (vwL_shifts_b87) h28
  · refine mw_rl (i := 0) (pc' := 30) (by decide +kernel) rfl ?_
    refine mw_il (i := 2) (pc' := 31) (by decide +kernel) rfl ?_
    refine mw_il (i := 3) (pc' := 32) (by decide +kernel) rfl ?_
    obtain ⟨r25, h14⟩ := h13
    refine hX10_shift (X := 10) (Y := 100) (by decide +kernel) r25 rfl h14 (fun v26 r26 h15 => ?_); clear h14
    refine mw_c (v := (-2)) (pc' := 37) (by decide +kernel) ?_
    refine mw_ifn (ins := .if_icmp .ne 7) (t := 44) (pc' := 40) (by decide +kernel) rfl rfl rfl h15 (fun p16 h16 => ?_) (fun p16 h16 => ?_) <;> clear h15
    · refine mw_c (v := 0) (pc' := 45) (by decide +kernel) ?_
      exact (vwL_shifts_b45) h16
    · refine mw_c (v := 1) (pc' := 41) (by decide +kernel) ?_
      refine mw_go (t := 45) (by decide +kernel) ?_
      exact (vwL_shifts_b45) h16
/- ('L', 'flips') -/
def wL_flips_b109 (K J : Nat → Nat) (fu : Nat) (F : VF) (sh : HS) (I : HI) (R : HR) (c1 : Nat) (c2 : Nat) (s0 : Int32) : Prop :=
  (c1 ≤ 20 ∧ c2 ≤ 200) ∧
  (s0 = 0 ∨ s0 = 1) ∧ F (.inl (some (.int s0))) sh I R
theorem vwL_flips_b109 {l : Launch} {K J : Nat → Nat} {fu : Nat} {F : VF} {sh : HS} {I : HI} {R : HR} {c1 : Nat} {c2 : Nat} {s0 : Int32} {d0 d1 d2 d3 d4 d5 : Option Value} (h0 : wL_flips_b109 K J fu F sh I R c1 c2 s0) : MW l K J 183 109 [d0, d1, d2, d3, d4, d5] [.int s0] sh I R (c1, c2) F := by
  unfold wL_flips_b109 at h0
  obtain ⟨r22, h1⟩ := h0
  exact mw_rz (X := 20) (Y := 200) (by decide +kernel) h1.1 r22 h1.2
def wL_flips_b94 (K J : Nat → Nat) (fu : Nat) (F : VF) (sh : HS) (I : HI) (R : HR) (c1 : Nat) (c2 : Nat) (l0 : Nat) (l3 : Int32) : Prop :=
  (c1 + 2 ≤ 20 ∧ c2 + 12 ≤ 200) ∧
  wB (fX10_flip fu sh I R l0 l3) fun r21 => wS r21.1 fun v21 =>
  if v21 = ((-3) : Int32) then
    ((wL_flips_b109 K J fu F) sh r21.2 R (c1 + 2) (c2 + 12) 1)
  else
    ((wL_flips_b109 K J fu F) sh r21.2 R (c1 + 2) (c2 + 12) 0)
theorem vwL_flips_b94 {l : Launch} {K J : Nat → Nat} {fu : Nat} {F : VF} {sh : HS} {I : HI} {R : HR} {c1 : Nat} {c2 : Nat} {l0 : Nat} {l3 : Int32} {d1 d2 d4 d5 : Option Value} (h0 : wL_flips_b94 K J fu F sh I R c1 c2 l0 l3) : MW l K J 183 94 [some (.ref l0), d1, d2, some (.int l3), d4, d5] [] sh I R (c1, c2) F := by
  unfold wL_flips_b94 at h0
  refine mw_rl (i := 0) (pc' := 95) (by decide +kernel) rfl ?_
  refine mw_il (i := 3) (pc' := 96) (by decide +kernel) rfl ?_
  obtain ⟨r20, h1⟩ := h0
  refine hX10_flip (X := 20) (Y := 200) (by decide +kernel) r20 rfl h1 (fun v21 r21 h2 => ?_); clear h1
  refine mw_c (v := (-3)) (pc' := 101) (by decide +kernel) ?_
  refine mw_ifn (ins := .if_icmp .ne 7) (t := 108) (pc' := 104) (by decide +kernel) rfl rfl rfl h2 (fun p3 h3 => ?_) (fun p3 h3 => ?_) <;> clear h2
  · refine mw_c (v := 0) (pc' := 109) (by decide +kernel) ?_
    exact (vwL_flips_b109) h3
  · refine mw_c (v := 1) (pc' := 105) (by decide +kernel) ?_
    refine mw_go (t := 109) (by decide +kernel) ?_
    exact (vwL_flips_b109) h3
def wL_flips_b179 (K J : Nat → Nat) (fu : Nat) (F : VF) (sh : HS) (I : HI) (R : HR) (c1 : Nat) (c2 : Nat) (s0 : Int32) : Prop :=
  (c1 ≤ 20 ∧ c2 ≤ 200) ∧
  (s0 = 0 ∨ s0 = 1) ∧ F (.inl (some (.int s0))) sh I R
theorem vwL_flips_b179 {l : Launch} {K J : Nat → Nat} {fu : Nat} {F : VF} {sh : HS} {I : HI} {R : HR} {c1 : Nat} {c2 : Nat} {s0 : Int32} {d0 d1 d2 d3 d4 d5 : Option Value} (h0 : wL_flips_b179 K J fu F sh I R c1 c2 s0) : MW l K J 183 179 [d0, d1, d2, d3, d4, d5] [.int s0] sh I R (c1, c2) F := by
  unfold wL_flips_b179 at h0
  obtain ⟨r34, h1⟩ := h0
  exact mw_rz (X := 20) (Y := 200) (by decide +kernel) h1.1 r34 h1.2
def wL_flips_b152 (K J : Nat → Nat) (fu : Nat) (F : VF) (sh : HS) (I : HI) (R : HR) (c1 : Nat) (c2 : Nat) (l0 : Nat) (l1 : Nat) (l2 : Nat) (l3 : Int32) (l4 : Int32) (l5 : Int32) : Prop :=
  wB (oS sh I l2 1 l4) fun v27 =>
  wB (oS sh v27 l2 2 l5) fun v28 =>
  (c1 + 2 ≤ 20 ∧ c2 + 12 ≤ 200) ∧
  wB (fX10_flip fu sh v28 R l0 l3) fun r30 => wS r30.1 fun v30 =>
  rcvB sh l1 9 = true ∧
  ((c1 + 2) ≤ 20 ∧ (c2 + 12) ≤ 200) ∧
  wX11_faults K J fu sh r30.2 R l1 (qwI fun v33 t33 i33 j33 =>
  if v30 = v33 then
    ((wL_flips_b179 K J fu F) t33 i33 j33 (c1 + 2) (c2 + 12) 1)
  else
    ((wL_flips_b179 K J fu F) t33 i33 j33 (c1 + 2) (c2 + 12) 0))
theorem vwL_flips_b152 {l : Launch} {K J : Nat → Nat} {fu : Nat} {F : VF} {sh : HS} {I : HI} {R : HR} {c1 : Nat} {c2 : Nat} {l0 : Nat} {l1 : Nat} {l2 : Nat} {l3 : Int32} {l4 : Int32} {l5 : Int32} (h0 : wL_flips_b152 K J fu F sh I R c1 c2 l0 l1 l2 l3 l4 l5) : MW l K J 183 152 [some (.ref l0), some (.ref l1), some (.ref l2), some (.int l3), some (.int l4), some (.int l5)] [] sh I R (c1, c2) F := by
  unfold wL_flips_b152 at h0
  refine mw_rl (i := 2) (pc' := 153) (by decide +kernel) rfl ?_
  refine mw_c (v := 1) (pc' := 154) (by decide +kernel) ?_
  refine mw_il (i := 4) (pc' := 156) (by decide +kernel) rfl ?_
  refine mw_ast (by decide +kernel) h0 (fun v27 h1 => ?_); clear h0
  refine mw_rl (i := 2) (pc' := 158) (by decide +kernel) rfl ?_
  refine mw_c (v := 2) (pc' := 159) (by decide +kernel) ?_
  refine mw_il (i := 5) (pc' := 161) (by decide +kernel) rfl ?_
  refine mw_ast (by decide +kernel) h1 (fun v28 h2 => ?_); clear h1
  refine mw_rl (i := 0) (pc' := 163) (by decide +kernel) rfl ?_
  refine mw_il (i := 3) (pc' := 164) (by decide +kernel) rfl ?_
  obtain ⟨r29, h3⟩ := h2
  refine hX10_flip (X := 20) (Y := 200) (by decide +kernel) r29 rfl h3 (fun v30 r30 h4 => ?_); clear h3
  refine mw_rl (i := 1) (pc' := 168) (by decide +kernel) rfl ?_
  obtain ⟨q31, h5⟩ := h4
  obtain ⟨r32, h6⟩ := h5
  refine mwx_I (q := 124) (na := 1) (ce := 0) (sl := 0) (X := 20) (Y := 200) (as := [.ref l1]) (by decide +kernel) r32 rfl rfl (by rw [show mL 124 = 3 from by decide +kernel]; rfl) rfl (fun _ => rv_of q31 (by decide +kernel)) (fun z => absurd z (by decide +kernel)) (vwX11_faults h6) (fun v33 t33 i33 j33 h7 => ?_); clear h6
  refine mw_ifn (ins := .if_icmp .ne 7) (t := 178) (pc' := 174) (by decide +kernel) rfl rfl rfl h7 (fun p8 h8 => ?_) (fun p8 h8 => ?_) <;> clear h7
  · refine mw_c (v := 0) (pc' := 179) (by decide +kernel) ?_
    exact (vwL_flips_b179) h8
  · refine mw_c (v := 1) (pc' := 175) (by decide +kernel) ?_
    refine mw_go (t := 179) (by decide +kernel) ?_
    exact (vwL_flips_b179) h8
def wL_flips_b151 (K J : Nat → Nat) (fu : Nat) (F : VF) (sh : HS) (I : HI) (R : HR) (c1 : Nat) (c2 : Nat) (s0 : Int32) : Prop :=
  (c1 ≤ 20 ∧ c2 ≤ 200) ∧
  (s0 = 0 ∨ s0 = 1) ∧ F (.inl (some (.int s0))) sh I R
theorem vwL_flips_b151 {l : Launch} {K J : Nat → Nat} {fu : Nat} {F : VF} {sh : HS} {I : HI} {R : HR} {c1 : Nat} {c2 : Nat} {s0 : Int32} {d0 d1 d2 d3 d4 d5 : Option Value} (h0 : wL_flips_b151 K J fu F sh I R c1 c2 s0) : MW l K J 183 151 [d0, d1, d2, d3, d4, d5] [.int s0] sh I R (c1, c2) F := by
  unfold wL_flips_b151 at h0
  obtain ⟨r41, h1⟩ := h0
  exact mw_rz (X := 20) (Y := 200) (by decide +kernel) h1.1 r41 h1.2
def wL_flips_b21 (K J : Nat → Nat) (fu : Nat) (F : VF) (sh : HS) (I : HI) (R : HR) (c1 : Nat) (c2 : Nat) (s0 : Int32) : Prop :=
  (c1 ≤ 20 ∧ c2 ≤ 200) ∧
  (s0 = 0 ∨ s0 = 1) ∧ F (.inl (some (.int s0))) sh I R
theorem vwL_flips_b21 {l : Launch} {K J : Nat → Nat} {fu : Nat} {F : VF} {sh : HS} {I : HI} {R : HR} {c1 : Nat} {c2 : Nat} {s0 : Int32} {d0 d1 d2 d3 d4 d5 : Option Value} (h0 : wL_flips_b21 K J fu F sh I R c1 c2 s0) : MW l K J 183 21 [d0, d1, d2, d3, d4, d5] [.int s0] sh I R (c1, c2) F := by
  unfold wL_flips_b21 at h0
  obtain ⟨r44, h1⟩ := h0
  exact mw_rz (X := 20) (Y := 200) (by decide +kernel) h1.1 r44 h1.2
def wL_flips (K J : Nat → Nat) (fu : Nat) (sh : HS) (I : HI) (R : HR) (l0 : Nat) (l1 : Nat) (l2 : Nat) (l3 : Int32) (F : VF) : Prop :=
  wB (oA2 sh I l2 4) fun v1 =>
  if 0 ≤ v1 then
    (wB (oA2 sh I l2 3) fun v2 =>
    rcvB sh l1 9 = true ∧
    (0 ≤ 20 ∧ 0 ≤ 200) ∧
    wX11_ax K J fu sh I R l1 l2 v2 (qwI fun v5 t5 i5 j5 =>
    wB (oA2 t5 i5 l2 4) fun v6 =>
    rcvB t5 l1 9 = true ∧
    (0 ≤ 20 ∧ 0 ≤ 200) ∧
    wX11_ax K J fu t5 i5 j5 l1 l2 v6 (qwI fun v9 t9 i9 j9 =>
    wB (oA2 t9 i9 l2 1) fun v10 =>
    wB (oA2 t9 i9 l2 3) fun v11 =>
    rcvB t9 l1 9 = true ∧
    (0 ≤ 20 ∧ 0 ≤ 200) ∧
    wX11_ay K J fu t9 i9 j9 l1 l2 v11 (qwI fun v14 t14 i14 j14 =>
    wB (oA2 t14 i14 l2 4) fun v15 =>
    rcvB t14 l1 9 = true ∧
    (0 ≤ 20 ∧ 0 ≤ 200) ∧
    wX11_ay K J fu t14 i14 j14 l1 l2 v15 (qwI fun v18 t18 i18 j18 =>
    wB (oA2 t18 i18 l2 2) fun v19 =>
    if ((v5 + v9) - v10) < 0 then
      ((wL_flips_b94 K J fu F) t18 i18 j18 0 0 l0 l3)
    else
      (if (199 : Int32) < ((v5 + v9) - v10) then
        ((wL_flips_b94 K J fu F) t18 i18 j18 0 0 l0 l3)
      else
        (if ((v14 + v18) - v19) < 0 then
          ((wL_flips_b94 K J fu F) t18 i18 j18 0 0 l0 l3)
        else
          (if ((v14 + v18) - v19) ≤ (199 : Int32) then
            (wB (oA2 t18 i18 l2 3) fun v23 =>
            rcvB t18 l1 9 = true ∧
            (0 ≤ 20 ∧ 0 ≤ 200) ∧
            wX11_ax K J fu t18 i18 j18 l1 l2 v23 (qwI fun v26 t26 i26 j26 =>
            if v26 = ((v5 + v9) - v10) then
              (wB (oA2 t26 i26 l2 3) fun v35 =>
              rcvB t26 l1 9 = true ∧
              (0 ≤ 20 ∧ 0 ≤ 200) ∧
              wX11_ay K J fu t26 i26 j26 l1 l2 v35 (qwI fun v38 t38 i38 j38 =>
              if v38 = ((v14 + v18) - v19) then
                ((0 + 2 ≤ 20 ∧ 0 + 12 ≤ 200) ∧
                wB (fX10_flip fu t38 i38 j38 l0 l3) fun r40 => wS r40.1 fun v40 =>
                if v40 = ((-4) : Int32) then
                  ((wL_flips_b151 K J fu F) t38 r40.2 j38 (0 + 2) (0 + 12) 1)
                else
                  ((wL_flips_b151 K J fu F) t38 r40.2 j38 (0 + 2) (0 + 12) 0))
              else
                ((wL_flips_b152 K J fu F) t38 i38 j38 0 0 l0 l1 l2 l3 ((v5 + v9) - v10) ((v14 + v18) - v19))))
            else
              ((wL_flips_b152 K J fu F) t26 i26 j26 0 0 l0 l1 l2 l3 ((v5 + v9) - v10) ((v14 + v18) - v19))))
          else
            ((wL_flips_b94 K J fu F) t18 i18 j18 0 0 l0 l3)))))))))
  else
    ((0 + 2 ≤ 20 ∧ 0 + 12 ≤ 200) ∧
    wB (fX10_flip fu sh I R l0 l3) fun r43 => wS r43.1 fun v43 =>
    if v43 = ((-2) : Int32) then
      ((wL_flips_b21 K J fu F) sh r43.2 R (0 + 2) (0 + 12) 1)
    else
      ((wL_flips_b21 K J fu F) sh r43.2 R (0 + 2) (0 + 12) 0))
theorem vwL_flips {l : Launch} {K J : Nat → Nat} {fu : Nat} {sh : HS} {I : HI} {R : HR} {l0 : Nat} {l1 : Nat} {l2 : Nat} {l3 : Int32} {F : VF} (h0 : wL_flips K J fu sh I R l0 l1 l2 l3 F) : MW l K J 183 0 (ent (mL 183) [.ref l0, .ref l1, .ref l2, .int l3]) [] sh I R (0, 0) F := by
  unfold wL_flips at h0
  have ml : mL 183 = 6 := by decide +kernel
  rw [ml]
  show MW l K J 183 0 [some (.ref l0), some (.ref l1), some (.ref l2), some (.int l3), none, none] [] sh I R (0, 0) F
  refine mw_rl (i := 2) (pc' := 1) (by decide +kernel) rfl ?_
  refine mw_c (v := 4) (pc' := 2) (by decide +kernel) ?_
  refine mw_al (by decide +kernel) h0 (fun v1 h1 => ?_); clear h0
  refine mw_if (ins := .ifCond .ge 19) (t := 22) (pc' := 6) (by decide +kernel) rfl rfl rfl h1 (fun p2 h2 => ?_) (fun p2 h2 => ?_) <;> clear h1
  · refine mw_rl (i := 1) (pc' := 23) (by decide +kernel) rfl ?_
    refine mw_rl (i := 2) (pc' := 24) (by decide +kernel) rfl ?_
    refine mw_rl (i := 2) (pc' := 25) (by decide +kernel) rfl ?_
    refine mw_c (v := 3) (pc' := 26) (by decide +kernel) ?_
    refine mw_al (by decide +kernel) h2 (fun v2 h3 => ?_); clear h2
    obtain ⟨q3, h4⟩ := h3
    obtain ⟨r4, h5⟩ := h4
    refine mwx_I (q := 115) (na := 3) (ce := 0) (sl := 0) (X := 20) (Y := 200) (as := [.int v2, .ref l2, .ref l1]) (by decide +kernel) r4 rfl rfl (by rw [show mL 115 = 3 from by decide +kernel]; rfl) rfl (fun _ => rv_of q3 (by decide +kernel)) (fun z => absurd z (by decide +kernel)) (vwX11_ax h5) (fun v5 t5 i5 j5 h6 => ?_); clear h5
    refine mw_rl (i := 1) (pc' := 31) (by decide +kernel) rfl ?_
    refine mw_rl (i := 2) (pc' := 32) (by decide +kernel) rfl ?_
    refine mw_rl (i := 2) (pc' := 33) (by decide +kernel) rfl ?_
    refine mw_c (v := 4) (pc' := 34) (by decide +kernel) ?_
    refine mw_al (by decide +kernel) h6 (fun v6 h7 => ?_); clear h6
    obtain ⟨q7, h8⟩ := h7
    obtain ⟨r8, h9⟩ := h8
    refine mwx_I (q := 115) (na := 3) (ce := 0) (sl := 0) (X := 20) (Y := 200) (as := [.int v6, .ref l2, .ref l1]) (by decide +kernel) r8 rfl rfl (by rw [show mL 115 = 3 from by decide +kernel]; rfl) rfl (fun _ => rv_of q7 (by decide +kernel)) (fun z => absurd z (by decide +kernel)) (vwX11_ax h9) (fun v9 t9 i9 j9 h10 => ?_); clear h9
    refine mw_a (ins := .iadd) (pc' := 39) (by decide +kernel) rfl ?_
    refine mw_rl (i := 2) (pc' := 40) (by decide +kernel) rfl ?_
    refine mw_c (v := 1) (pc' := 41) (by decide +kernel) ?_
    refine mw_al (by decide +kernel) h10 (fun v10 h11 => ?_); clear h10
    refine mw_a (ins := .isub) (pc' := 43) (by decide +kernel) rfl ?_
    refine mw_is (i := 4) (pc' := 45) (L' := [some (.ref l0), some (.ref l1), some (.ref l2), some (.int l3), some (.int ((v5 + v9) - v10)), none]) (by decide +kernel) rfl rfl ?_
    refine mw_rl (i := 1) (pc' := 46) (by decide +kernel) rfl ?_
    refine mw_rl (i := 2) (pc' := 47) (by decide +kernel) rfl ?_
    refine mw_rl (i := 2) (pc' := 48) (by decide +kernel) rfl ?_
    refine mw_c (v := 3) (pc' := 49) (by decide +kernel) ?_
    refine mw_al (by decide +kernel) h11 (fun v11 h12 => ?_); clear h11
    obtain ⟨q12, h13⟩ := h12
    obtain ⟨r13, h14⟩ := h13
    refine mwx_I (q := 116) (na := 3) (ce := 0) (sl := 0) (X := 20) (Y := 200) (as := [.int v11, .ref l2, .ref l1]) (by decide +kernel) r13 rfl rfl (by rw [show mL 116 = 3 from by decide +kernel]; rfl) rfl (fun _ => rv_of q12 (by decide +kernel)) (fun z => absurd z (by decide +kernel)) (vwX11_ay h14) (fun v14 t14 i14 j14 h15 => ?_); clear h14
    refine mw_rl (i := 1) (pc' := 54) (by decide +kernel) rfl ?_
    refine mw_rl (i := 2) (pc' := 55) (by decide +kernel) rfl ?_
    refine mw_rl (i := 2) (pc' := 56) (by decide +kernel) rfl ?_
    refine mw_c (v := 4) (pc' := 57) (by decide +kernel) ?_
    refine mw_al (by decide +kernel) h15 (fun v15 h16 => ?_); clear h15
    obtain ⟨q16, h17⟩ := h16
    obtain ⟨r17, h18⟩ := h17
    refine mwx_I (q := 116) (na := 3) (ce := 0) (sl := 0) (X := 20) (Y := 200) (as := [.int v15, .ref l2, .ref l1]) (by decide +kernel) r17 rfl rfl (by rw [show mL 116 = 3 from by decide +kernel]; rfl) rfl (fun _ => rv_of q16 (by decide +kernel)) (fun z => absurd z (by decide +kernel)) (vwX11_ay h18) (fun v18 t18 i18 j18 h19 => ?_); clear h18
    refine mw_a (ins := .iadd) (pc' := 62) (by decide +kernel) rfl ?_
    refine mw_rl (i := 2) (pc' := 63) (by decide +kernel) rfl ?_
    refine mw_c (v := 2) (pc' := 64) (by decide +kernel) ?_
    refine mw_al (by decide +kernel) h19 (fun v19 h20 => ?_); clear h19
    refine mw_a (ins := .isub) (pc' := 66) (by decide +kernel) rfl ?_
    refine mw_is (i := 5) (pc' := 68) (L' := [some (.ref l0), some (.ref l1), some (.ref l2), some (.int l3), some (.int ((v5 + v9) - v10)), some (.int ((v14 + v18) - v19))]) (by decide +kernel) rfl rfl ?_
    refine mw_il (i := 4) (pc' := 70) (by decide +kernel) rfl ?_
    refine mw_if (ins := .ifCond .lt 24) (t := 94) (pc' := 73) (by decide +kernel) rfl rfl rfl h20 (fun p21 h21 => ?_) (fun p21 h21 => ?_) <;> clear h20
    · exact (vwL_flips_b94) h21
    · refine mw_il (i := 4) (pc' := 75) (by decide +kernel) rfl ?_
      refine mw_c (v := 199) (pc' := 78) (by decide +kernel) ?_
      refine mw_if (ins := .if_icmp .gt 16) (t := 94) (pc' := 81) (by decide +kernel) rfl rfl rfl h21 (fun p22 h22 => ?_) (fun p22 h22 => ?_) <;> clear h21
      · exact (vwL_flips_b94) h22
      · refine mw_il (i := 5) (pc' := 83) (by decide +kernel) rfl ?_
        refine mw_if (ins := .ifCond .lt 11) (t := 94) (pc' := 86) (by decide +kernel) rfl rfl rfl h22 (fun p23 h23 => ?_) (fun p23 h23 => ?_) <;> clear h22
        · exact (vwL_flips_b94) h23
        · refine mw_il (i := 5) (pc' := 88) (by decide +kernel) rfl ?_
          refine mw_c (v := 199) (pc' := 91) (by decide +kernel) ?_
          refine mw_if (ins := .if_icmp .le 19) (t := 110) (pc' := 94) (by decide +kernel) rfl rfl rfl h23 (fun p24 h24 => ?_) (fun p24 h24 => ?_) <;> clear h23
          · refine mw_rl (i := 1) (pc' := 111) (by decide +kernel) rfl ?_
            refine mw_rl (i := 2) (pc' := 112) (by decide +kernel) rfl ?_
            refine mw_rl (i := 2) (pc' := 113) (by decide +kernel) rfl ?_
            refine mw_c (v := 3) (pc' := 114) (by decide +kernel) ?_
            refine mw_al (by decide +kernel) h24 (fun v23 h25 => ?_); clear h24
            obtain ⟨q24, h26⟩ := h25
            obtain ⟨r25, h27⟩ := h26
            refine mwx_I (q := 115) (na := 3) (ce := 0) (sl := 0) (X := 20) (Y := 200) (as := [.int v23, .ref l2, .ref l1]) (by decide +kernel) r25 rfl rfl (by rw [show mL 115 = 3 from by decide +kernel]; rfl) rfl (fun _ => rv_of q24 (by decide +kernel)) (fun z => absurd z (by decide +kernel)) (vwX11_ax h27) (fun v26 t26 i26 j26 h28 => ?_); clear h27
            refine mw_il (i := 4) (pc' := 120) (by decide +kernel) rfl ?_
            refine mw_ifn (ins := .if_icmp .ne 32) (t := 152) (pc' := 123) (by decide +kernel) rfl rfl rfl h28 (fun p29 h29 => ?_) (fun p29 h29 => ?_) <;> clear h28
            · exact (vwL_flips_b152) h29
            · refine mw_rl (i := 1) (pc' := 124) (by decide +kernel) rfl ?_
              refine mw_rl (i := 2) (pc' := 125) (by decide +kernel) rfl ?_
              refine mw_rl (i := 2) (pc' := 126) (by decide +kernel) rfl ?_
              refine mw_c (v := 3) (pc' := 127) (by decide +kernel) ?_
              refine mw_al (by decide +kernel) h29 (fun v35 h30 => ?_); clear h29
              obtain ⟨q36, h31⟩ := h30
              obtain ⟨r37, h32⟩ := h31
              refine mwx_I (q := 116) (na := 3) (ce := 0) (sl := 0) (X := 20) (Y := 200) (as := [.int v35, .ref l2, .ref l1]) (by decide +kernel) r37 rfl rfl (by rw [show mL 116 = 3 from by decide +kernel]; rfl) rfl (fun _ => rv_of q36 (by decide +kernel)) (fun z => absurd z (by decide +kernel)) (vwX11_ay h32) (fun v38 t38 i38 j38 h33 => ?_); clear h32
              refine mw_il (i := 5) (pc' := 133) (by decide +kernel) rfl ?_
              refine mw_ifn (ins := .if_icmp .ne 19) (t := 152) (pc' := 136) (by decide +kernel) rfl rfl rfl h33 (fun p34 h34 => ?_) (fun p34 h34 => ?_) <;> clear h33
              · exact (vwL_flips_b152) h34
              · refine mw_rl (i := 0) (pc' := 137) (by decide +kernel) rfl ?_
                refine mw_il (i := 3) (pc' := 138) (by decide +kernel) rfl ?_
                obtain ⟨r39, h35⟩ := h34
                refine hX10_flip (X := 20) (Y := 200) (by decide +kernel) r39 rfl h35 (fun v40 r40 h36 => ?_); clear h35
                refine mw_c (v := (-4)) (pc' := 143) (by decide +kernel) ?_
                refine mw_ifn (ins := .if_icmp .ne 7) (t := 150) (pc' := 146) (by decide +kernel) rfl rfl rfl h36 (fun p37 h37 => ?_) (fun p37 h37 => ?_) <;> clear h36
                · refine mw_c (v := 0) (pc' := 151) (by decide +kernel) ?_
                  exact (vwL_flips_b151) h37
                · refine mw_c (v := 1) (pc' := 147) (by decide +kernel) ?_
                  refine mw_go (t := 151) (by decide +kernel) ?_
                  exact (vwL_flips_b151) h37
          · exact (vwL_flips_b94) h24
  · refine mw_rl (i := 0) (pc' := 7) (by decide +kernel) rfl ?_
    refine mw_il (i := 3) (pc' := 8) (by decide +kernel) rfl ?_
    obtain ⟨r42, h3⟩ := h2
    refine hX10_flip (X := 20) (Y := 200) (by decide +kernel) r42 rfl h3 (fun v43 r43 h4 => ?_); clear h3
    refine mw_c (v := (-2)) (pc' := 13) (by decide +kernel) ?_
    refine mw_ifn (ins := .if_icmp .ne 7) (t := 20) (pc' := 16) (by decide +kernel) rfl rfl rfl h4 (fun p5 h5 => ?_) (fun p5 h5 => ?_) <;> clear h4
    · refine mw_c (v := 0) (pc' := 21) (by decide +kernel) ?_
      exact (vwL_flips_b21) h5
    · refine mw_c (v := 1) (pc' := 17) (by decide +kernel) ?_
      refine mw_go (t := 21) (by decide +kernel) ?_
      exact (vwL_flips_b21) h5
