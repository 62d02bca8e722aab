/- ('L', 'scenesHold') -/
def wL_scenesHold_b90 (K J : Nat → Nat) (fu : Nat) (F : VF) (k19 : HS → HI → HR → Nat → Nat → Nat → Nat → Int32 → Int32 → Int32 → Int32 → Prop) (k88 : HS → HI → HR → Nat → Nat → Prop) (k96 : HS → HI → HR → Nat → Nat → Nat → Nat → Int32 → Int32 → Int32 → Prop) (sh : HS) (I : HI) (R : HR) (c1 : Nat) (c2 : Nat) (l0 : Nat) (l1 : Nat) (l2 : Int32) (l3 : Int32) (l4 : Int32) (l5 : Int32) : Prop :=
  k19 sh I R c1 c2 l0 l1 l2 l3 l4 (l5 + 1)
theorem vwL_scenesHold_b90 {l : Launch} {K J : Nat → Nat} {fu : Nat} {F : VF} {k19 : HS → HI → HR → Nat → Nat → Nat → Nat → Int32 → Int32 → Int32 → Int32 → Prop} {k88 : HS → HI → HR → Nat → Nat → Prop} {k96 : HS → HI → HR → Nat → Nat → Nat → Nat → Int32 → Int32 → Int32 → Prop} (hk19 : ∀ {sh : HS} {I : HI} {R : HR} {c1 : Nat} {c2 : Nat} {l0 : Nat} {l1 : Nat} {l2 : Int32} {l3 : Int32} {l4 : Int32} {l5 : Int32} {d6 : Option Value}, k19 sh I R c1 c2 l0 l1 l2 l3 l4 l5 → MW l K J 187 19 [some (.ref l0), some (.ref l1), some (.int l2), some (.int l3), some (.int l4), some (.int l5), d6] [] sh I R (c1, c2) F) (hk88 : ∀ {sh : HS} {I : HI} {R : HR} {c1 : Nat} {c2 : Nat} {d0 d1 d2 d3 d4 d5 d6 : Option Value}, k88 sh I R c1 c2 → MW l K J 187 88 [d0, d1, d2, d3, d4, d5, d6] [] sh I R (c1, c2) F) (hk96 : ∀ {sh : HS} {I : HI} {R : HR} {c1 : Nat} {c2 : Nat} {l0 : Nat} {l1 : Nat} {l2 : Int32} {l3 : Int32} {l4 : Int32} {d5 d6 : Option Value}, k96 sh I R c1 c2 l0 l1 l2 l3 l4 → MW l K J 187 96 [some (.ref l0), some (.ref l1), some (.int l2), some (.int l3), some (.int l4), d5, d6] [] sh I R (c1, c2) F) {sh : HS} {I : HI} {R : HR} {c1 : Nat} {c2 : Nat} {l0 : Nat} {l1 : Nat} {l2 : Int32} {l3 : Int32} {l4 : Int32} {l5 : Int32} {d6 : Option Value} (h0 : wL_scenesHold_b90 K J fu F k19 k88 k96 sh I R c1 c2 l0 l1 l2 l3 l4 l5) : MW l K J 187 90 [some (.ref l0), some (.ref l1), some (.int l2), some (.int l3), some (.int l4), some (.int l5), d6] [] sh I R (c1, c2) F := by
  unfold wL_scenesHold_b90 at h0
  refine mw_inc (i := 5) (z := 1) (pc' := 93) (L' := [some (.ref l0), some (.ref l1), some (.int l2), some (.int l3), some (.int l4), some (.int (l5 + 1)), d6]) (by decide +kernel) rfl rfl rfl ?_
  refine mw_go (t := 19) (by decide +kernel) ?_
  exact hk19 h0
def wL_scenesHold_b19 (K J : Nat → Nat) (fu : Nat) (F : VF) (k19 : HS → HI → HR → Nat → Nat → Nat → Nat → Int32 → Int32 → Int32 → Int32 → Prop) (k88 : HS → HI → HR → Nat → Nat → Prop) (k96 : HS → HI → HR → Nat → Nat → Nat → Nat → Int32 → Int32 → Int32 → Prop) (sh : HS) (I : HI) (R : HR) (c1 : Nat) (c2 : Nat) (l0 : Nat) (l1 : Nat) (l2 : Int32) (l3 : Int32) (l4 : Int32) (l5 : Int32) : Prop :=
  if (6 : Int32) ≤ l5 then
    (k96 sh I R c1 c2 l0 l1 l2 l3 l4)
  else
    (wB (oR sh R l1 9 5) fun v4 =>
    wB (oAr sh R v4 45 l2) fun v5 =>
    wB (oA2 sh I v5 l5) fun v6 =>
    if 0 ≤ v6 then
      ((c1 + 3 ≤ 200 ∧ c2 + 18 ≤ 1200) ∧
      wB (fX10_actor fu sh I R l0 l2 l5 0) fun r8 => wS r8 fun v8 =>
      wB (oR sh R l1 9 5) fun v9 =>
      wB (oAr sh R v9 45 l2) fun v10 =>
      wB (oA2 sh I v10 l5) fun v11 =>
      if v8 = v11 then
        (((c1 + 3) + 3 ≤ 200 ∧ (c2 + 18) + 18 ≤ 1200) ∧
        wB (fX10_actor fu sh I R l0 l2 l5 1) fun r13 => wS r13 fun v13 =>
        wB (oR sh R l1 9 6) fun v14 =>
        wB (oAr sh R v14 45 l2) fun v15 =>
        wB (oA2 sh I v15 l5) fun v16 =>
        if v13 = v16 then
          ((wL_scenesHold_b90 K J fu F k19 k88 k96) sh I R ((c1 + 3) + 3) ((c2 + 18) + 18) l0 l1 l2 (l3 ||| ((1 : Int32) <<< (l5 &&& 31))) l4 l5)
        else
          (k88 sh I R ((c1 + 3) + 3) ((c2 + 18) + 18)))
      else
        (k88 sh I R (c1 + 3) (c2 + 18)))
    else
      ((wL_scenesHold_b90 K J fu F k19 k88 k96) sh I R c1 c2 l0 l1 l2 l3 l4 l5))
theorem vwL_scenesHold_b19 {l : Launch} {K J : Nat → Nat} {fu : Nat} {F : VF} {k19 : HS → HI → HR → Nat → Nat → Nat → Nat → Int32 → Int32 → Int32 → Int32 → Prop} {k88 : HS → HI → HR → Nat → Nat → Prop} {k96 : HS → HI → HR → Nat → Nat → Nat → Nat → Int32 → Int32 → Int32 → Prop} (hk19 : ∀ {sh : HS} {I : HI} {R : HR} {c1 : Nat} {c2 : Nat} {l0 : Nat} {l1 : Nat} {l2 : Int32} {l3 : Int32} {l4 : Int32} {l5 : Int32} {d6 : Option Value}, k19 sh I R c1 c2 l0 l1 l2 l3 l4 l5 → MW l K J 187 19 [some (.ref l0), some (.ref l1), some (.int l2), some (.int l3), some (.int l4), some (.int l5), d6] [] sh I R (c1, c2) F) (hk88 : ∀ {sh : HS} {I : HI} {R : HR} {c1 : Nat} {c2 : Nat} {d0 d1 d2 d3 d4 d5 d6 : Option Value}, k88 sh I R c1 c2 → MW l K J 187 88 [d0, d1, d2, d3, d4, d5, d6] [] sh I R (c1, c2) F) (hk96 : ∀ {sh : HS} {I : HI} {R : HR} {c1 : Nat} {c2 : Nat} {l0 : Nat} {l1 : Nat} {l2 : Int32} {l3 : Int32} {l4 : Int32} {d5 d6 : Option Value}, k96 sh I R c1 c2 l0 l1 l2 l3 l4 → MW l K J 187 96 [some (.ref l0), some (.ref l1), some (.int l2), some (.int l3), some (.int l4), d5, d6] [] sh I R (c1, c2) F) {sh : HS} {I : HI} {R : HR} {c1 : Nat} {c2 : Nat} {l0 : Nat} {l1 : Nat} {l2 : Int32} {l3 : Int32} {l4 : Int32} {l5 : Int32} {d6 : Option Value} (h0 : wL_scenesHold_b19 K J fu F k19 k88 k96 sh I R c1 c2 l0 l1 l2 l3 l4 l5) : MW l K J 187 19 [some (.ref l0), some (.ref l1), some (.int l2), some (.int l3), some (.int l4), some (.int l5), d6] [] sh I R (c1, c2) F := by
  unfold wL_scenesHold_b19 at h0
  refine mw_il (i := 5) (pc' := 21) (by decide +kernel) rfl ?_
  refine mw_c (v := 6) (pc' := 23) (by decide +kernel) ?_
  refine mw_if (ins := .if_icmp .ge 73) (t := 96) (pc' := 26) (by decide +kernel) rfl rfl rfl h0 (fun p1 h1 => ?_) (fun p1 h1 => ?_) <;> clear h0
  · exact hk96 h1
  · refine mw_rl (i := 1) (pc' := 27) (by decide +kernel) rfl ?_
    refine mw_fR (ix := 34) (t := 9) (j := 5) (md := 1) (by decide +kernel) h1 (fun v4 h2 => ?_); clear h1
    refine mw_il (i := 2) (pc' := 31) (by decide +kernel) rfl ?_
    refine mw_aal (t := 45) (by decide +kernel) (by decide) h2 (fun v5 h3 => ?_); clear h2
    refine mw_il (i := 5) (pc' := 34) (by decide +kernel) rfl ?_
    refine mw_al (by decide +kernel) h3 (fun v6 h4 => ?_); clear h3
    refine mw_if (ins := .ifCond .ge 6) (t := 41) (pc' := 38) (by decide +kernel) rfl rfl rfl h4 (fun p5 h5 => ?_) (fun p5 h5 => ?_) <;> clear h4
    · refine mw_il (i := 3) (pc' := 42) (by decide +kernel) rfl ?_
      refine mw_c (v := 1) (pc' := 43) (by decide +kernel) ?_
      refine mw_il (i := 5) (pc' := 45) (by decide +kernel) rfl ?_
      refine mw_a (ins := .ishl) (pc' := 46) (by decide +kernel) rfl ?_
      refine mw_a (ins := .ior) (pc' := 47) (by decide +kernel) rfl ?_
      refine mw_is (i := 3) (pc' := 48) (L' := [some (.ref l0), some (.ref l1), some (.int l2), some (.int (l3 ||| ((1 : Int32) <<< (l5 &&& 31)))), some (.int l4), some (.int l5), d6]) (by decide +kernel) rfl rfl ?_
      refine mw_rl (i := 0) (pc' := 49) (by decide +kernel) rfl ?_
      refine mw_il (i := 2) (pc' := 50) (by decide +kernel) rfl ?_
      refine mw_il (i := 5) (pc' := 52) (by decide +kernel) rfl ?_
      refine mw_c (v := 0) (pc' := 53) (by decide +kernel) ?_
      obtain ⟨r7, h6⟩ := h5
      refine hX10_actor (X := 200) (Y := 1200) (by decide +kernel) r7 rfl h6 (fun v8 h7 => ?_); clear h6
      refine mw_rl (i := 1) (pc' := 57) (by decide +kernel) rfl ?_
      refine mw_fR (ix := 34) (t := 9) (j := 5) (md := 1) (by decide +kernel) h7 (fun v9 h8 => ?_); clear h7
      refine mw_il (i := 2) (pc' := 61) (by decide +kernel) rfl ?_
      refine mw_aal (t := 45) (by decide +kernel) (by decide) h8 (fun v10 h9 => ?_); clear h8
      refine mw_il (i := 5) (pc' := 64) (by decide +kernel) rfl ?_
      refine mw_al (by decide +kernel) h9 (fun v11 h10 => ?_); clear h9
      refine mw_ifn (ins := .if_icmp .ne 23) (t := 88) (pc' := 68) (by decide +kernel) rfl rfl rfl h10 (fun p11 h11 => ?_) (fun p11 h11 => ?_) <;> clear h10
      · exact hk88 h11
      · refine mw_rl (i := 0) (pc' := 69) (by decide +kernel) rfl ?_
        refine mw_il (i := 2) (pc' := 70) (by decide +kernel) rfl ?_
        refine mw_il (i := 5) (pc' := 72) (by decide +kernel) rfl ?_
        refine mw_c (v := 1) (pc' := 73) (by decide +kernel) ?_
        obtain ⟨r12, h12⟩ := h11
        refine hX10_actor (X := 200) (Y := 1200) (by decide +kernel) r12 rfl h12 (fun v13 h13 => ?_); clear h12
        refine mw_rl (i := 1) (pc' := 77) (by decide +kernel) rfl ?_
        refine mw_fR (ix := 37) (t := 9) (j := 6) (md := 1) (by decide +kernel) h13 (fun v14 h14 => ?_); clear h13
        refine mw_il (i := 2) (pc' := 81) (by decide +kernel) rfl ?_
        refine mw_aal (t := 45) (by decide +kernel) (by decide) h14 (fun v15 h15 => ?_); clear h14
        refine mw_il (i := 5) (pc' := 84) (by decide +kernel) rfl ?_
        refine mw_al (by decide +kernel) h15 (fun v16 h16 => ?_); clear h15
        refine mw_if (ins := .if_icmp .eq 5) (t := 90) (pc' := 88) (by decide +kernel) rfl rfl rfl h16 (fun p17 h17 => ?_) (fun p17 h17 => ?_) <;> clear h16
        · exact (vwL_scenesHold_b90 hk19 hk88 hk96) h17
        · exact hk88 h17
    · refine mw_go (t := 90) (by decide +kernel) ?_
      exact (vwL_scenesHold_b90 hk19 hk88 hk96) h5
def wL_scenesHold_l19 (K J : Nat → Nat) (fu : Nat) (F : VF) (k88 : HS → HI → HR → Nat → Nat → Prop) (k96 : HS → HI → HR → Nat → Nat → Nat → Nat → Int32 → Int32 → Int32 → Prop) : Nat → HS → HI → HR → Nat → Nat → Nat → Nat → Int32 → Int32 → Int32 → Int32 → Prop
  | 0 => fun _ _ _ _ _ _ _ _ _ _ _ => False
  | n + 1 => wL_scenesHold_b19 K J fu F (wL_scenesHold_l19 K J fu F k88 k96 n) k88 k96
theorem vwL_scenesHold_l19 {l : Launch} {K J : Nat → Nat} {fu : Nat} {F : VF} {k88 : HS → HI → HR → Nat → Nat → Prop} {k96 : HS → HI → HR → Nat → Nat → Nat → Nat → Int32 → Int32 → Int32 → Prop} (hk88 : ∀ {sh : HS} {I : HI} {R : HR} {c1 : Nat} {c2 : Nat} {d0 d1 d2 d3 d4 d5 d6 : Option Value}, k88 sh I R c1 c2 → MW l K J 187 88 [d0, d1, d2, d3, d4, d5, d6] [] sh I R (c1, c2) F) (hk96 : ∀ {sh : HS} {I : HI} {R : HR} {c1 : Nat} {c2 : Nat} {l0 : Nat} {l1 : Nat} {l2 : Int32} {l3 : Int32} {l4 : Int32} {d5 d6 : Option Value}, k96 sh I R c1 c2 l0 l1 l2 l3 l4 → MW l K J 187 96 [some (.ref l0), some (.ref l1), some (.int l2), some (.int l3), some (.int l4), d5, d6] [] sh I R (c1, c2) F) : ∀ (n : Nat) {sh : HS} {I : HI} {R : HR} {c1 : Nat} {c2 : Nat} {l0 : Nat} {l1 : Nat} {l2 : Int32} {l3 : Int32} {l4 : Int32} {l5 : Int32} {d6 : Option Value} (_ : wL_scenesHold_l19 K J fu F k88 k96 n sh I R c1 c2 l0 l1 l2 l3 l4 l5), MW l K J 187 19 [some (.ref l0), some (.ref l1), some (.int l2), some (.int l3), some (.int l4), some (.int l5), d6] [] sh I R (c1, c2) F := by
  intro n
  induction n with
  | zero => exact fun h0 => h0.elim
  | succ n ih => exact fun h0 => vwL_scenesHold_b19 ih hk88 hk96 h0
def wL_scenesHold_b142 (K J : Nat → Nat) (fu : Nat) (F : VF) (k105 : HS → HI → HR → Nat → Nat → Nat → Nat → Int32 → Int32 → Int32 → Nat → Prop) (k148 : HS → HI → HR → Nat → Nat → Nat → Nat → Int32 → Int32 → Int32 → Prop) (sh : HS) (I : HI) (R : HR) (c1 : Nat) (c2 : Nat) (l0 : Nat) (l1 : Nat) (l2 : Int32) (l3 : Int32) (l5 : Nat) (s0 : Int32) (s1 : Int32) : Prop :=
  k105 sh I R c1 c2 l0 l1 l2 l3 (s1 + s0) l5
theorem vwL_scenesHold_b142 {l : Launch} {K J : Nat → Nat} {fu : Nat} {F : VF} {k105 : HS → HI → HR → Nat → Nat → Nat → Nat → Int32 → Int32 → Int32 → Nat → Prop} {k148 : HS → HI → HR → Nat → Nat → Nat → Nat → Int32 → Int32 → Int32 → Prop} (hk105 : ∀ {sh : HS} {I : HI} {R : HR} {c1 : Nat} {c2 : Nat} {l0 : Nat} {l1 : Nat} {l2 : Int32} {l3 : Int32} {l4 : Int32} {l5 : Nat} {d6 : Option Value}, k105 sh I R c1 c2 l0 l1 l2 l3 l4 l5 → MW l K J 187 105 [some (.ref l0), some (.ref l1), some (.int l2), some (.int l3), some (.int l4), some (.ref l5), d6] [] sh I R (c1, c2) F) (hk148 : ∀ {sh : HS} {I : HI} {R : HR} {c1 : Nat} {c2 : Nat} {l0 : Nat} {l1 : Nat} {l2 : Int32} {l3 : Int32} {l4 : Int32} {d5 d6 : Option Value}, k148 sh I R c1 c2 l0 l1 l2 l3 l4 → MW l K J 187 148 [some (.ref l0), some (.ref l1), some (.int l2), some (.int l3), some (.int l4), d5, d6] [] sh I R (c1, c2) F) {sh : HS} {I : HI} {R : HR} {c1 : Nat} {c2 : Nat} {l0 : Nat} {l1 : Nat} {l2 : Int32} {l3 : Int32} {l5 : Nat} {s0 : Int32} {s1 : Int32} {d4 d6 : Option Value} (h0 : wL_scenesHold_b142 K J fu F k105 k148 sh I R c1 c2 l0 l1 l2 l3 l5 s0 s1) : MW l K J 187 142 [some (.ref l0), some (.ref l1), some (.int l2), some (.int l3), d4, some (.ref l5), d6] [.int s0, .int s1] sh I R (c1, c2) F := by
  unfold wL_scenesHold_b142 at h0
  refine mw_a (ins := .iadd) (pc' := 143) (by decide +kernel) rfl ?_
  refine mw_is (i := 4) (pc' := 145) (L' := [some (.ref l0), some (.ref l1), some (.int l2), some (.int l3), some (.int (s1 + s0)), some (.ref l5), d6]) (by decide +kernel) rfl rfl ?_
  refine mw_go (t := 105) (by decide +kernel) ?_
  exact hk105 h0
def wL_scenesHold_b105 (K J : Nat → Nat) (fu : Nat) (F : VF) (k105 : HS → HI → HR → Nat → Nat → Nat → Nat → Int32 → Int32 → Int32 → Nat → Prop) (k148 : HS → HI → HR → Nat → Nat → Nat → Nat → Int32 → Int32 → Int32 → Prop) (sh : HS) (I : HI) (R : HR) (c1 : Nat) (c2 : Nat) (l0 : Nat) (l1 : Nat) (l2 : Int32) (l3 : Int32) (l4 : Int32) (l5 : Nat) : Prop :=
  isT sh l5 11 = true ∧
  (c1 ≤ 200 ∧ c2 ≤ 1200) ∧
  wJx35411_hasNext_aae02 K J fu sh I R l5 (qwI fun v23 t23 i23 j23 =>
  if v23 = 0 then
    (k148 t23 i23 j23 c1 c2 l0 l1 l2 l3 l4)
  else
    (isT t23 l5 11 = true ∧
    (c1 ≤ 200 ∧ c2 ≤ 1200) ∧
    wJx35411_next_0502b K J fu t23 i23 j23 l5 (qwR fun v26 t26 i26 j26 =>
    wB (oKt t26 v26 1) fun _ =>
    wB (oA2 t26 i26 v26 0) fun v27 =>
    if v27 = l2 then
      ((wL_scenesHold_b142 K J fu F k105 k148) t26 i26 j26 c1 c2 l0 l1 l2 l3 l5 1 l4)
    else
      ((wL_scenesHold_b142 K J fu F k105 k148) t26 i26 j26 c1 c2 l0 l1 l2 l3 l5 0 l4))))
theorem vwL_scenesHold_b105 {l : Launch} {K J : Nat → Nat} {fu : Nat} {F : VF} {k105 : HS → HI → HR → Nat → Nat → Nat → Nat → Int32 → Int32 → Int32 → Nat → Prop} {k148 : HS → HI → HR → Nat → Nat → Nat → Nat → Int32 → Int32 → Int32 → Prop} (hk105 : ∀ {sh : HS} {I : HI} {R : HR} {c1 : Nat} {c2 : Nat} {l0 : Nat} {l1 : Nat} {l2 : Int32} {l3 : Int32} {l4 : Int32} {l5 : Nat} {d6 : Option Value}, k105 sh I R c1 c2 l0 l1 l2 l3 l4 l5 → MW l K J 187 105 [some (.ref l0), some (.ref l1), some (.int l2), some (.int l3), some (.int l4), some (.ref l5), d6] [] sh I R (c1, c2) F) (hk148 : ∀ {sh : HS} {I : HI} {R : HR} {c1 : Nat} {c2 : Nat} {l0 : Nat} {l1 : Nat} {l2 : Int32} {l3 : Int32} {l4 : Int32} {d5 d6 : Option Value}, k148 sh I R c1 c2 l0 l1 l2 l3 l4 → MW l K J 187 148 [some (.ref l0), some (.ref l1), some (.int l2), some (.int l3), some (.int l4), d5, d6] [] sh I R (c1, c2) F) {sh : HS} {I : HI} {R : HR} {c1 : Nat} {c2 : Nat} {l0 : Nat} {l1 : Nat} {l2 : Int32} {l3 : Int32} {l4 : Int32} {l5 : Nat} {d6 : Option Value} (h0 : wL_scenesHold_b105 K J fu F k105 k148 sh I R c1 c2 l0 l1 l2 l3 l4 l5) : MW l K J 187 105 [some (.ref l0), some (.ref l1), some (.int l2), some (.int l3), some (.int l4), some (.ref l5), d6] [] sh I R (c1, c2) F := by
  unfold wL_scenesHold_b105 at h0
  refine mw_rl (i := 5) (pc' := 107) (by decide +kernel) rfl ?_
  obtain ⟨q21, h1⟩ := h0
  obtain ⟨r22, h2⟩ := h1
  refine mwx_IF (ix := 114) (cnt := 1) (q := 145) (ce := 0) (sl := 0) (X := 200) (Y := 1200) (by decide +kernel) r22 rfl q21 (vwJx35411_hasNext_aae02 h2) (fun _ _ _ g => by obtain ⟨_, e9, -⟩ := g; cases e9) (fun v9 t23 i23 j23 g => ?_) (fun _ _ _ _ g => by obtain ⟨_, e9, -⟩ := g; cases e9)
  obtain ⟨v23, e9, h3⟩ := g; cases e9; clear h2
  refine mw_if (ins := .ifCond .eq 36) (t := 148) (pc' := 115) (by decide +kernel) rfl rfl rfl h3 (fun p4 h4 => ?_) (fun p4 h4 => ?_) <;> clear h3
  · exact hk148 h4
  · refine mw_rl (i := 5) (pc' := 117) (by decide +kernel) rfl ?_
    obtain ⟨q24, h5⟩ := h4
    obtain ⟨r25, h6⟩ := h5
    refine mwx_IF (ix := 120) (cnt := 1) (q := 146) (ce := 0) (sl := 0) (X := 200) (Y := 1200) (by decide +kernel) r25 rfl q24 (vwJx35411_next_0502b h6) (fun _ _ _ g => by obtain ⟨_, e9, -⟩ := g; cases e9) (fun v9 t26 i26 j26 g => ?_) (fun _ _ _ _ g => by obtain ⟨_, e9, -⟩ := g; cases e9)
    obtain ⟨v26, e9, h7⟩ := g; cases e9; clear h6
    refine mw_cst (ix := 97) (v := 1) (by decide +kernel) h7 (fun h8 => ?_); clear h7
    refine mw_rs (i := 6) (pc' := 127) (L' := [some (.ref l0), some (.ref l1), some (.int l2), some (.int l3), some (.int l4), some (.ref l5), some (.ref v26)]) (by decide +kernel) rfl rfl ?_
    refine mw_il (i := 4) (pc' := 129) (by decide +kernel) rfl ?_
    refine mw_rl (i := 6) (pc' := 131) (by decide +kernel) rfl ?_
    refine mw_c (v := 0) (pc' := 132) (by decide +kernel) ?_
    refine mw_al (by decide +kernel) h8 (fun v27 h9 => ?_); clear h8
    refine mw_il (i := 2) (pc' := 134) (by decide +kernel) rfl ?_
    refine mw_ifn (ins := .if_icmp .ne 7) (t := 141) (pc' := 137) (by decide +kernel) rfl rfl rfl h9 (fun p10 h10 => ?_) (fun p10 h10 => ?_) <;> clear h9
    · refine mw_c (v := 0) (pc' := 142) (by decide +kernel) ?_
      exact (vwL_scenesHold_b142 hk105 hk148) h10
    · refine mw_c (v := 1) (pc' := 138) (by decide +kernel) ?_
      refine mw_go (t := 142) (by decide +kernel) ?_
      exact (vwL_scenesHold_b142 hk105 hk148) h10
def wL_scenesHold_l105 (K J : Nat → Nat) (fu : Nat) (F : VF) (k148 : HS → HI → HR → Nat → Nat → Nat → Nat → Int32 → Int32 → Int32 → Prop) : Nat → HS → HI → HR → Nat → Nat → Nat → Nat → Int32 → Int32 → Int32 → Nat → Prop
  | 0 => fun _ _ _ _ _ _ _ _ _ _ _ => False
  | n + 1 => wL_scenesHold_b105 K J fu F (wL_scenesHold_l105 K J fu F k148 n) k148
theorem vwL_scenesHold_l105 {l : Launch} {K J : Nat → Nat} {fu : Nat} {F : VF} {k148 : HS → HI → HR → Nat → Nat → Nat → Nat → Int32 → Int32 → Int32 → Prop} (hk148 : ∀ {sh : HS} {I : HI} {R : HR} {c1 : Nat} {c2 : Nat} {l0 : Nat} {l1 : Nat} {l2 : Int32} {l3 : Int32} {l4 : Int32} {d5 d6 : Option Value}, k148 sh I R c1 c2 l0 l1 l2 l3 l4 → MW l K J 187 148 [some (.ref l0), some (.ref l1), some (.int l2), some (.int l3), some (.int l4), d5, d6] [] sh I R (c1, c2) F) : ∀ (n : Nat) {sh : HS} {I : HI} {R : HR} {c1 : Nat} {c2 : Nat} {l0 : Nat} {l1 : Nat} {l2 : Int32} {l3 : Int32} {l4 : Int32} {l5 : Nat} {d6 : Option Value} (_ : wL_scenesHold_l105 K J fu F k148 n sh I R c1 c2 l0 l1 l2 l3 l4 l5), MW l K J 187 105 [some (.ref l0), some (.ref l1), some (.int l2), some (.int l3), some (.int l4), some (.ref l5), d6] [] sh I R (c1, c2) F := by
  intro n
  induction n with
  | zero => exact fun h0 => h0.elim
  | succ n ih => exact fun h0 => vwL_scenesHold_b105 ih hk148 h0
def wL_scenesHold_b148 (K J : Nat → Nat) (fu : Nat) (F : VF) (k2 : HS → HI → HR → Nat → Nat → Nat → Nat → Int32 → Prop) (k88 : HS → HI → HR → Nat → Nat → Prop) (k184 : HS → HI → HR → Nat → Nat → Prop) (sh : HS) (I : HI) (R : HR) (c1 : Nat) (c2 : Nat) (l0 : Nat) (l1 : Nat) (l2 : Int32) (l3 : Int32) (l4 : Int32) : Prop :=
  (c1 + 3 ≤ 200 ∧ c2 + 18 ≤ 1200) ∧
  wB (fX10_scene fu sh I R l0 l2 0) fun r29 => wS r29 fun v29 =>
  wB (oR sh R l1 9 4) fun v30 =>
  wB (oA2 sh I v30 l2) fun v31 =>
  if v29 = v31 then
    (((c1 + 3) + 3 ≤ 200 ∧ (c2 + 18) + 18 ≤ 1200) ∧
    wB (fX10_scene fu sh I R l0 l2 1) fun r33 => wS r33 fun v33 =>
    if v33 = l3 then
      ((((c1 + 3) + 3) + 3 ≤ 200 ∧ ((c2 + 18) + 18) + 18 ≤ 1200) ∧
      wB (fX10_scene fu sh I R l0 l2 2) fun r35 => wS r35 fun v35 =>
      if v35 = l4 then
        (k2 sh I R (((c1 + 3) + 3) + 3) (((c2 + 18) + 18) + 18) l0 l1 (l2 + 1))
      else
        (k184 sh I R (((c1 + 3) + 3) + 3) (((c2 + 18) + 18) + 18)))
    else
      (k184 sh I R ((c1 + 3) + 3) ((c2 + 18) + 18)))
  else
    (k184 sh I R (c1 + 3) (c2 + 18))
theorem vwL_scenesHold_b148 {l : Launch} {K J : Nat → Nat} {fu : Nat} {F : VF} {k2 : HS → HI → HR → Nat → Nat → Nat → Nat → Int32 → Prop} {k88 : HS → HI → HR → Nat → Nat → Prop} {k184 : HS → HI → HR → Nat → Nat → Prop} (hk2 : ∀ {sh : HS} {I : HI} {R : HR} {c1 : Nat} {c2 : Nat} {l0 : Nat} {l1 : Nat} {l2 : Int32} {d3 d4 d5 d6 : Option Value}, k2 sh I R c1 c2 l0 l1 l2 → MW l K J 187 2 [some (.ref l0), some (.ref l1), some (.int l2), d3, d4, d5, d6] [] sh I R (c1, c2) F) (hk88 : ∀ {sh : HS} {I : HI} {R : HR} {c1 : Nat} {c2 : Nat} {d0 d1 d2 d3 d4 d5 d6 : Option Value}, k88 sh I R c1 c2 → MW l K J 187 88 [d0, d1, d2, d3, d4, d5, d6] [] sh I R (c1, c2) F) (hk184 : ∀ {sh : HS} {I : HI} {R : HR} {c1 : Nat} {c2 : Nat} {d0 d1 d2 d3 d4 d5 d6 : Option Value}, k184 sh I R c1 c2 → MW l K J 187 184 [d0, d1, d2, d3, d4, d5, d6] [] sh I R (c1, c2) F) {sh : HS} {I : HI} {R : HR} {c1 : Nat} {c2 : Nat} {l0 : Nat} {l1 : Nat} {l2 : Int32} {l3 : Int32} {l4 : Int32} {d5 d6 : Option Value} (h0 : wL_scenesHold_b148 K J fu F k2 k88 k184 sh I R c1 c2 l0 l1 l2 l3 l4) : MW l K J 187 148 [some (.ref l0), some (.ref l1), some (.int l2), some (.int l3), some (.int l4), d5, d6] [] sh I R (c1, c2) F := by
  unfold wL_scenesHold_b148 at h0
  refine mw_rl (i := 0) (pc' := 149) (by decide +kernel) rfl ?_
  refine mw_il (i := 2) (pc' := 150) (by decide +kernel) rfl ?_
  refine mw_c (v := 0) (pc' := 151) (by decide +kernel) ?_
  obtain ⟨r28, h1⟩ := h0
  refine hX10_scene (X := 200) (Y := 1200) (by decide +kernel) r28 rfl h1 (fun v29 h2 => ?_); clear h1
  refine mw_rl (i := 1) (pc' := 155) (by decide +kernel) rfl ?_
  refine mw_fR (ix := 28) (t := 9) (j := 4) (md := 1) (by decide +kernel) h2 (fun v30 h3 => ?_); clear h2
  refine mw_il (i := 2) (pc' := 159) (by decide +kernel) rfl ?_
  refine mw_al (by decide +kernel) h3 (fun v31 h4 => ?_); clear h3
  refine mw_ifn (ins := .if_icmp .ne 24) (t := 184) (pc' := 163) (by decide +kernel) rfl rfl rfl h4 (fun p5 h5 => ?_) (fun p5 h5 => ?_) <;> clear h4
  · exact hk184 h5
  · refine mw_rl (i := 0) (pc' := 164) (by decide +kernel) rfl ?_
    refine mw_il (i := 2) (pc' := 165) (by decide +kernel) rfl ?_
    refine mw_c (v := 1) (pc' := 166) (by decide +kernel) ?_
    obtain ⟨r32, h6⟩ := h5
    refine hX10_scene (X := 200) (Y := 1200) (by decide +kernel) r32 rfl h6 (fun v33 h7 => ?_); clear h6
    refine mw_il (i := 3) (pc' := 170) (by decide +kernel) rfl ?_
    refine mw_ifn (ins := .if_icmp .ne 14) (t := 184) (pc' := 173) (by decide +kernel) rfl rfl rfl h7 (fun p8 h8 => ?_) (fun p8 h8 => ?_) <;> clear h7
    · exact hk184 h8
    · refine mw_rl (i := 0) (pc' := 174) (by decide +kernel) rfl ?_
      refine mw_il (i := 2) (pc' := 175) (by decide +kernel) rfl ?_
      refine mw_c (v := 2) (pc' := 176) (by decide +kernel) ?_
      obtain ⟨r34, h9⟩ := h8
      refine hX10_scene (X := 200) (Y := 1200) (by decide +kernel) r34 rfl h9 (fun v35 h10 => ?_); clear h9
      refine mw_il (i := 4) (pc' := 181) (by decide +kernel) rfl ?_
      refine mw_if (ins := .if_icmp .eq 5) (t := 186) (pc' := 184) (by decide +kernel) rfl rfl rfl h10 (fun p11 h11 => ?_) (fun p11 h11 => ?_) <;> clear h10
      · refine mw_inc (i := 2) (z := 1) (pc' := 189) (L' := [some (.ref l0), some (.ref l1), some (.int (l2 + 1)), some (.int l3), some (.int l4), d5, d6]) (by decide +kernel) rfl rfl rfl ?_
        refine mw_go (t := 2) (by decide +kernel) ?_
        exact hk2 h11
      · exact hk184 h11
def wL_scenesHold_b96 (K J : Nat → Nat) (fu : Nat) (F : VF) (k2 : HS → HI → HR → Nat → Nat → Nat → Nat → Int32 → Prop) (k88 : HS → HI → HR → Nat → Nat → Prop) (k184 : HS → HI → HR → Nat → Nat → Prop) (sh : HS) (I : HI) (R : HR) (c1 : Nat) (c2 : Nat) (l0 : Nat) (l1 : Nat) (l2 : Int32) (l3 : Int32) (l4 : Int32) : Prop :=
  wB (oR sh R l1 9 3) fun v17 =>
  rcvB sh v17 10 = true ∧
  (c1 + 1 ≤ 200 ∧ c2 + 4 ≤ 1200) ∧
  wJx4a65c_iterator_32c93 K J fu sh I R v17 (qwR fun v20 t20 i20 j20 =>
  (wL_scenesHold_l105 K J fu F (wL_scenesHold_b148 K J fu F k2 k88 k184) fu) t20 i20 j20 (c1 + 1) (c2 + 4) l0 l1 l2 l3 l4 v20)
theorem vwL_scenesHold_b96 {l : Launch} {K J : Nat → Nat} {fu : Nat} {F : VF} {k2 : HS → HI → HR → Nat → Nat → Nat → Nat → Int32 → Prop} {k88 : HS → HI → HR → Nat → Nat → Prop} {k184 : HS → HI → HR → Nat → Nat → Prop} (hk2 : ∀ {sh : HS} {I : HI} {R : HR} {c1 : Nat} {c2 : Nat} {l0 : Nat} {l1 : Nat} {l2 : Int32} {d3 d4 d5 d6 : Option Value}, k2 sh I R c1 c2 l0 l1 l2 → MW l K J 187 2 [some (.ref l0), some (.ref l1), some (.int l2), d3, d4, d5, d6] [] sh I R (c1, c2) F) (hk88 : ∀ {sh : HS} {I : HI} {R : HR} {c1 : Nat} {c2 : Nat} {d0 d1 d2 d3 d4 d5 d6 : Option Value}, k88 sh I R c1 c2 → MW l K J 187 88 [d0, d1, d2, d3, d4, d5, d6] [] sh I R (c1, c2) F) (hk184 : ∀ {sh : HS} {I : HI} {R : HR} {c1 : Nat} {c2 : Nat} {d0 d1 d2 d3 d4 d5 d6 : Option Value}, k184 sh I R c1 c2 → MW l K J 187 184 [d0, d1, d2, d3, d4, d5, d6] [] sh I R (c1, c2) F) {sh : HS} {I : HI} {R : HR} {c1 : Nat} {c2 : Nat} {l0 : Nat} {l1 : Nat} {l2 : Int32} {l3 : Int32} {l4 : Int32} {d5 d6 : Option Value} (h0 : wL_scenesHold_b96 K J fu F k2 k88 k184 sh I R c1 c2 l0 l1 l2 l3 l4) : MW l K J 187 96 [some (.ref l0), some (.ref l1), some (.int l2), some (.int l3), some (.int l4), d5, d6] [] sh I R (c1, c2) F := by
  unfold wL_scenesHold_b96 at h0
  refine mw_rl (i := 1) (pc' := 97) (by decide +kernel) rfl ?_
  refine mw_fR (ix := 48) (t := 9) (j := 3) (md := 1) (by decide +kernel) h0 (fun v17 h1 => ?_); clear h0
  obtain ⟨q18, h2⟩ := h1
  obtain ⟨r19, h3⟩ := h2
  refine mwx_R (q := 143) (na := 1) (ce := 1) (sl := 4) (X := 200) (Y := 1200) (as := [.ref v17]) (by decide +kernel) r19 rfl rfl (by rw [show mL 143 = 1 from by decide +kernel]; rfl) rfl (fun _ => rv_of q18 (by decide +kernel)) (fun z => absurd z (by decide +kernel)) (vwJx4a65c_iterator_32c93 h3) (fun v20 t20 i20 j20 h4 => ?_); clear h3
  refine mw_rs (i := 5) (pc' := 105) (L' := [some (.ref l0), some (.ref l1), some (.int l2), some (.int l3), some (.int l4), some (.ref v20), d6]) (by decide +kernel) rfl rfl ?_
  exact (vwL_scenesHold_l105 (vwL_scenesHold_b148 hk2 hk88 hk184) fu) h4
def wL_scenesHold_b2 (K J : Nat → Nat) (fu : Nat) (F : VF) (k2 : HS → HI → HR → Nat → Nat → Nat → Nat → Int32 → Prop) (k88 : HS → HI → HR → Nat → Nat → Prop) (k184 : HS → HI → HR → Nat → Nat → Prop) (sh : HS) (I : HI) (R : HR) (c1 : Nat) (c2 : Nat) (l0 : Nat) (l1 : Nat) (l2 : Int32) : Prop :=
  wB (oR sh R l1 9 4) fun v1 =>
  wB (oLn sh v1) fun v2 =>
  if v2 ≤ l2 then
    ((c1 ≤ 200 ∧ c2 ≤ 1200) ∧
    F (.inl (some (.int 1))) sh I R)
  else
    ((wL_scenesHold_l19 K J fu F k88 (wL_scenesHold_b96 K J fu F k2 k88 k184) fu) sh I R c1 c2 l0 l1 l2 0 0 0)
theorem vwL_scenesHold_b2 {l : Launch} {K J : Nat → Nat} {fu : Nat} {F : VF} {k2 : HS → HI → HR → Nat → Nat → Nat → Nat → Int32 → Prop} {k88 : HS → HI → HR → Nat → Nat → Prop} {k184 : HS → HI → HR → Nat → Nat → Prop} (hk2 : ∀ {sh : HS} {I : HI} {R : HR} {c1 : Nat} {c2 : Nat} {l0 : Nat} {l1 : Nat} {l2 : Int32} {d3 d4 d5 d6 : Option Value}, k2 sh I R c1 c2 l0 l1 l2 → MW l K J 187 2 [some (.ref l0), some (.ref l1), some (.int l2), d3, d4, d5, d6] [] sh I R (c1, c2) F) (hk88 : ∀ {sh : HS} {I : HI} {R : HR} {c1 : Nat} {c2 : Nat} {d0 d1 d2 d3 d4 d5 d6 : Option Value}, k88 sh I R c1 c2 → MW l K J 187 88 [d0, d1, d2, d3, d4, d5, d6] [] sh I R (c1, c2) F) (hk184 : ∀ {sh : HS} {I : HI} {R : HR} {c1 : Nat} {c2 : Nat} {d0 d1 d2 d3 d4 d5 d6 : Option Value}, k184 sh I R c1 c2 → MW l K J 187 184 [d0, d1, d2, d3, d4, d5, d6] [] sh I R (c1, c2) F) {sh : HS} {I : HI} {R : HR} {c1 : Nat} {c2 : Nat} {l0 : Nat} {l1 : Nat} {l2 : Int32} {d3 d4 d5 d6 : Option Value} (h0 : wL_scenesHold_b2 K J fu F k2 k88 k184 sh I R c1 c2 l0 l1 l2) : MW l K J 187 2 [some (.ref l0), some (.ref l1), some (.int l2), d3, d4, d5, d6] [] sh I R (c1, c2) F := by
  unfold wL_scenesHold_b2 at h0
  refine mw_il (i := 2) (pc' := 3) (by decide +kernel) rfl ?_
  refine mw_rl (i := 1) (pc' := 4) (by decide +kernel) rfl ?_
  refine mw_fR (ix := 28) (t := 9) (j := 4) (md := 1) (by decide +kernel) h0 (fun v1 h1 => ?_); clear h0
  refine mw_ln (by decide +kernel) h1 (fun v2 h2 => ?_); clear h1
  refine mw_if (ins := .if_icmp .ge 184) (t := 192) (pc' := 11) (by decide +kernel) rfl rfl rfl h2 (fun p3 h3 => ?_) (fun p3 h3 => ?_) <;> clear h2
  · refine mw_c (v := 1) (pc' := 193) (by decide +kernel) ?_
    obtain ⟨r3, h4⟩ := h3
    exact mw_rz (X := 200) (Y := 1200) (by decide +kernel) (by decide) r3 h4
  · refine mw_c (v := 0) (pc' := 12) (by decide +kernel) ?_
    refine mw_is (i := 3) (pc' := 13) (L' := [some (.ref l0), some (.ref l1), some (.int l2), some (.int 0), d4, d5, d6]) (by decide +kernel) rfl rfl ?_
    refine mw_c (v := 0) (pc' := 14) (by decide +kernel) ?_
    refine mw_is (i := 4) (pc' := 16) (L' := [some (.ref l0), some (.ref l1), some (.int l2), some (.int 0), some (.int 0), d5, d6]) (by decide +kernel) rfl rfl ?_
    refine mw_c (v := 0) (pc' := 17) (by decide +kernel) ?_
    refine mw_is (i := 5) (pc' := 19) (L' := [some (.ref l0), some (.ref l1), some (.int l2), some (.int 0), some (.int 0), some (.int 0), d6]) (by decide +kernel) rfl rfl ?_
    exact (vwL_scenesHold_l19 hk88 (vwL_scenesHold_b96 hk2 hk88 hk184) fu) h3
def wL_scenesHold_l2 (K J : Nat → Nat) (fu : Nat) (F : VF) (k88 : HS → HI → HR → Nat → Nat → Prop) (k184 : HS → HI → HR → Nat → Nat → Prop) : Nat → HS → HI → HR → Nat → Nat → Nat → Nat → Int32 → Prop
  | 0 => fun _ _ _ _ _ _ _ _ => False
  | n + 1 => wL_scenesHold_b2 K J fu F (wL_scenesHold_l2 K J fu F k88 k184 n) k88 k184
theorem vwL_scenesHold_l2 {l : Launch} {K J : Nat → Nat} {fu : Nat} {F : VF} {k88 : HS → HI → HR → Nat → Nat → Prop} {k184 : HS → HI → HR → Nat → Nat → Prop} (hk88 : ∀ {sh : HS} {I : HI} {R : HR} {c1 : Nat} {c2 : Nat} {d0 d1 d2 d3 d4 d5 d6 : Option Value}, k88 sh I R c1 c2 → MW l K J 187 88 [d0, d1, d2, d3, d4, d5, d6] [] sh I R (c1, c2) F) (hk184 : ∀ {sh : HS} {I : HI} {R : HR} {c1 : Nat} {c2 : Nat} {d0 d1 d2 d3 d4 d5 d6 : Option Value}, k184 sh I R c1 c2 → MW l K J 187 184 [d0, d1, d2, d3, d4, d5, d6] [] sh I R (c1, c2) F) : ∀ (n : Nat) {sh : HS} {I : HI} {R : HR} {c1 : Nat} {c2 : Nat} {l0 : Nat} {l1 : Nat} {l2 : Int32} {d3 d4 d5 d6 : Option Value} (_ : wL_scenesHold_l2 K J fu F k88 k184 n sh I R c1 c2 l0 l1 l2), MW l K J 187 2 [some (.ref l0), some (.ref l1), some (.int l2), d3, d4, d5, d6] [] sh I R (c1, c2) F := by
  intro n
  induction n with
  | zero => exact fun h0 => h0.elim
  | succ n ih => exact fun h0 => vwL_scenesHold_b2 ih hk88 hk184 h0
def wL_scenesHold_b88 (K J : Nat → Nat) (fu : Nat) (F : VF) (sh : HS) (I : HI) (R : HR) (c1 : Nat) (c2 : Nat) : Prop :=
  (c1 ≤ 200 ∧ c2 ≤ 1200) ∧
  F (.inl (some (.int 0))) sh I R
theorem vwL_scenesHold_b88 {l : Launch} {K J : Nat → Nat} {fu : Nat} {F : VF} {sh : HS} {I : HI} {R : HR} {c1 : Nat} {c2 : Nat} {d0 d1 d2 d3 d4 d5 d6 : Option Value} (h0 : wL_scenesHold_b88 K J fu F sh I R c1 c2) : MW l K J 187 88 [d0, d1, d2, d3, d4, d5, d6] [] sh I R (c1, c2) F := by
  unfold wL_scenesHold_b88 at h0
  refine mw_c (v := 0) (pc' := 89) (by decide +kernel) ?_
  obtain ⟨r36, h1⟩ := h0
  exact mw_rz (X := 200) (Y := 1200) (by decide +kernel) (by decide) r36 h1
def wL_scenesHold_b184 (K J : Nat → Nat) (fu : Nat) (F : VF) (sh : HS) (I : HI) (R : HR) (c1 : Nat) (c2 : Nat) : Prop :=
  (c1 ≤ 200 ∧ c2 ≤ 1200) ∧
  F (.inl (some (.int 0))) sh I R
theorem vwL_scenesHold_b184 {l : Launch} {K J : Nat → Nat} {fu : Nat} {F : VF} {sh : HS} {I : HI} {R : HR} {c1 : Nat} {c2 : Nat} {d0 d1 d2 d3 d4 d5 d6 : Option Value} (h0 : wL_scenesHold_b184 K J fu F sh I R c1 c2) : MW l K J 187 184 [d0, d1, d2, d3, d4, d5, d6] [] sh I R (c1, c2) F := by
  unfold wL_scenesHold_b184 at h0
  refine mw_c (v := 0) (pc' := 185) (by decide +kernel) ?_
  obtain ⟨r37, h1⟩ := h0
  exact mw_rz (X := 200) (Y := 1200) (by decide +kernel) (by decide) r37 h1
def wL_scenesHold (K J : Nat → Nat) (fu : Nat) (sh : HS) (I : HI) (R : HR) (l0 : Nat) (l1 : Nat) (F : VF) : Prop :=
  (wL_scenesHold_l2 K J fu F (wL_scenesHold_b88 K J fu F) (wL_scenesHold_b184 K J fu F) fu) sh I R 0 0 l0 l1 0
theorem vwL_scenesHold {l : Launch} {K J : Nat → Nat} {fu : Nat} {sh : HS} {I : HI} {R : HR} {l0 : Nat} {l1 : Nat} {F : VF} (h0 : wL_scenesHold K J fu sh I R l0 l1 F) : MW l K J 187 0 (ent (mL 187) [.ref l0, .ref l1]) [] sh I R (0, 0) F := by
  unfold wL_scenesHold at h0
  have ml : mL 187 = 7 := by decide +kernel
  rw [ml]
  show MW l K J 187 0 [some (.ref l0), some (.ref l1), none, none, none, none, none] [] sh I R (0, 0) F
  refine mw_c (v := 0) (pc' := 1) (by decide +kernel) ?_
  refine mw_is (i := 2) (pc' := 2) (L' := [some (.ref l0), some (.ref l1), some (.int 0), none, none, none, none]) (by decide +kernel) rfl rfl ?_
  exact (vwL_scenesHold_l2 (vwL_scenesHold_b88) (vwL_scenesHold_b184) fu) h0
/- ('X11', 'actors') -/
def wX11_actors_b44 (K J : Nat → Nat) (fu : Nat) (F : VF) (k4 : HS → HI → HR → Nat → Int32 → Int32 → Int32 → Prop) (sh : HS) (I : HI) (R : HR) (l0 : Nat) (l1 : Int32) (l3 : Int32) (s0 : Int32) (s1 : Int32) : Prop :=
  k4 sh I R l0 l1 (s1 ||| s0) (l3 + 1)
theorem vwX11_actors_b44 {l : Launch} {K J : Nat → Nat} {fu : Nat} {F : VF} {k4 : HS → HI → HR → Nat → Int32 → Int32 → Int32 → Prop} (hk4 : ∀ {sh : HS} {I : HI} {R : HR} {l0 : Nat} {l1 : Int32} {l2 : Int32} {l3 : Int32}, k4 sh I R l0 l1 l2 l3 → MW l K J 126 4 [some (.ref l0), some (.int l1), some (.int l2), some (.int l3)] [] sh I R (0, 0) F) {sh : HS} {I : HI} {R : HR} {l0 : Nat} {l1 : Int32} {l3 : Int32} {s0 : Int32} {s1 : Int32} {d2 : Option Value} (h0 : wX11_actors_b44 K J fu F k4 sh I R l0 l1 l3 s0 s1) : MW l K J 126 44 [some (.ref l0), some (.int l1), d2, some (.int l3)] [.int s0, .int s1] sh I R (0, 0) F := by
  unfold wX11_actors_b44 at h0
  refine mw_a (ins := .ior) (pc' := 45) (by decide +kernel) rfl ?_
  refine mw_is (i := 2) (pc' := 46) (L' := [some (.ref l0), some (.int l1), some (.int (s1 ||| s0)), some (.int l3)]) (by decide +kernel) rfl rfl ?_
  refine mw_inc (i := 3) (z := 1) (pc' := 49) (L' := [some (.ref l0), some (.int l1), some (.int (s1 ||| s0)), some (.int (l3 + 1))]) (by decide +kernel) rfl rfl rfl ?_
  refine mw_go (t := 4) (by decide +kernel) ?_
  exact hk4 h0
def wX11_actors_b4 (K J : Nat → Nat) (fu : Nat) (F : VF) (k4 : HS → HI → HR → Nat → Int32 → Int32 → Int32 → Prop) (sh : HS) (I : HI) (R : HR) (l0 : Nat) (l1 : Int32) (l2 : Int32) (l3 : Int32) : Prop :=
  wB (oR sh R l0 9 3) fun v1 =>
  rcvB sh v1 10 = true ∧
  wJx4a65c_size_8abf5 K J fu sh I R v1 (qwI fun v3 t3 i3 j3 =>
  if v3 ≤ l3 then
    (F (.inl (some (.int l2))) t3 i3 j3)
  else
    (if ((l1 >>> (l3 &&& 31)) &&& 1) = (1 : Int32) then
      (wB (oR t3 j3 l0 9 3) fun v4 =>
      rcvB t3 v4 10 = true ∧
      wJx4a65c_get_915e3 K J fu t3 i3 j3 v4 l3 (qwR fun v6 t6 i6 j6 =>
      wB (oKt t6 v6 1) fun _ =>
      rcvB t6 l0 9 = true ∧
      wX11_visible K J fu t6 i6 j6 l0 v6 (qwI fun v8 t8 i8 j8 =>
      (wX11_actors_b44 K J fu F k4) t8 i8 j8 l0 l1 l3 v8 l2)))
    else
      ((wX11_actors_b44 K J fu F k4) t3 i3 j3 l0 l1 l3 0 l2)))
theorem vwX11_actors_b4 {l : Launch} {K J : Nat → Nat} {fu : Nat} {F : VF} {k4 : HS → HI → HR → Nat → Int32 → Int32 → Int32 → Prop} (hk4 : ∀ {sh : HS} {I : HI} {R : HR} {l0 : Nat} {l1 : Int32} {l2 : Int32} {l3 : Int32}, k4 sh I R l0 l1 l2 l3 → MW l K J 126 4 [some (.ref l0), some (.int l1), some (.int l2), some (.int l3)] [] sh I R (0, 0) F) {sh : HS} {I : HI} {R : HR} {l0 : Nat} {l1 : Int32} {l2 : Int32} {l3 : Int32} (h0 : wX11_actors_b4 K J fu F k4 sh I R l0 l1 l2 l3) : MW l K J 126 4 [some (.ref l0), some (.int l1), some (.int l2), some (.int l3)] [] sh I R (0, 0) F := by
  unfold wX11_actors_b4 at h0
  refine mw_il (i := 3) (pc' := 5) (by decide +kernel) rfl ?_
  refine mw_rl (i := 0) (pc' := 6) (by decide +kernel) rfl ?_
  refine mw_fR (ix := 10) (t := 9) (j := 3) (md := 0) (by decide +kernel) h0 (fun v1 h1 => ?_); clear h0
  obtain ⟨q2, h2⟩ := h1
  refine mwx_I (q := 133) (na := 1) (ce := 0) (sl := 0) (X := 0) (Y := 0) (as := [.ref v1]) (by decide +kernel) ⟨Nat.le_refl _, Nat.le_refl _⟩ rfl rfl (by rw [show mL 133 = 1 from by decide +kernel]; rfl) rfl (fun _ => rv_of q2 (by decide +kernel)) (fun z => absurd z (by decide +kernel)) (vwJx4a65c_size_8abf5 h2) (fun v3 t3 i3 j3 h3 => ?_); clear h2
  refine mw_if (ins := .if_icmp .ge 40) (t := 52) (pc' := 15) (by decide +kernel) rfl rfl rfl h3 (fun p4 h4 => ?_) (fun p4 h4 => ?_) <;> clear h3
  · refine mw_il (i := 2) (pc' := 53) (by decide +kernel) rfl ?_
    exact mw_ri (X := 0) (Y := 0) (by decide +kernel) ⟨Nat.le_refl _, Nat.le_refl _⟩ h4
  · refine mw_il (i := 2) (pc' := 16) (by decide +kernel) rfl ?_
    refine mw_il (i := 1) (pc' := 17) (by decide +kernel) rfl ?_
    refine mw_il (i := 3) (pc' := 18) (by decide +kernel) rfl ?_
    refine mw_a (ins := .ishr) (pc' := 19) (by decide +kernel) rfl ?_
    refine mw_c (v := 1) (pc' := 20) (by decide +kernel) ?_
    refine mw_a (ins := .iand) (pc' := 21) (by decide +kernel) rfl ?_
    refine mw_c (v := 1) (pc' := 22) (by decide +kernel) ?_
    refine mw_ifn (ins := .if_icmp .ne 21) (t := 43) (pc' := 25) (by decide +kernel) rfl rfl rfl h4 (fun p5 h5 => ?_) (fun p5 h5 => ?_) <;> clear h4
    · refine mw_c (v := 0) (pc' := 44) (by decide +kernel) ?_
      exact (vwX11_actors_b44 hk4) h5
    · refine mw_rl (i := 0) (pc' := 26) (by decide +kernel) rfl ?_
      refine mw_rl (i := 0) (pc' := 27) (by decide +kernel) rfl ?_
      refine mw_fR (ix := 10) (t := 9) (j := 3) (md := 0) (by decide +kernel) h5 (fun v4 h6 => ?_); clear h5
      refine mw_il (i := 3) (pc' := 31) (by decide +kernel) rfl ?_
      obtain ⟨q5, h7⟩ := h6
      refine mwx_R (q := 135) (na := 2) (ce := 0) (sl := 0) (X := 0) (Y := 0) (as := [.int l3, .ref v4]) (by decide +kernel) ⟨Nat.le_refl _, Nat.le_refl _⟩ rfl rfl (by rw [show mL 135 = 2 from by decide +kernel]; rfl) rfl (fun _ => rv_of q5 (by decide +kernel)) (fun z => absurd z (by decide +kernel)) (vwJx4a65c_get_915e3 h7) (fun v6 t6 i6 j6 h8 => ?_); clear h7
      refine mw_cst (ix := 20) (v := 1) (by decide +kernel) h8 (fun h9 => ?_); clear h8
      obtain ⟨q7, h10⟩ := h9
      refine mwx_I (q := 120) (na := 2) (ce := 0) (sl := 0) (X := 0) (Y := 0) (as := [.ref v6, .ref l0]) (by decide +kernel) ⟨Nat.le_refl _, Nat.le_refl _⟩ rfl rfl (by rw [show mL 120 = 4 from by decide +kernel]; rfl) rfl (fun _ => rv_of q7 (by decide +kernel)) (fun z => absurd z (by decide +kernel)) (vwX11_visible h10) (fun v8 t8 i8 j8 h11 => ?_); clear h10
      refine mw_go (t := 44) (by decide +kernel) ?_
      exact (vwX11_actors_b44 hk4) h11
def wX11_actors_l4 (K J : Nat → Nat) (fu : Nat) (F : VF) : Nat → HS → HI → HR → Nat → Int32 → Int32 → Int32 → Prop
  | 0 => fun _ _ _ _ _ _ _ => False
  | n + 1 => wX11_actors_b4 K J fu F (wX11_actors_l4 K J fu F n)
theorem vwX11_actors_l4 {l : Launch} {K J : Nat → Nat} {fu : Nat} {F : VF} : ∀ (n : Nat) {sh : HS} {I : HI} {R : HR} {l0 : Nat} {l1 : Int32} {l2 : Int32} {l3 : Int32} (_ : wX11_actors_l4 K J fu F n sh I R l0 l1 l2 l3), MW l K J 126 4 [some (.ref l0), some (.int l1), some (.int l2), some (.int l3)] [] sh I R (0, 0) F := by
  intro n
  induction n with
  | zero => exact fun h0 => h0.elim
  | succ n ih => exact fun h0 => vwX11_actors_b4 ih h0
def wX11_actors (K J : Nat → Nat) (fu : Nat) (sh : HS) (I : HI) (R : HR) (l0 : Nat) (l1 : Int32) (F : VF) : Prop :=
  (wX11_actors_l4 K J fu F fu) sh I R l0 l1 0 0
theorem vwX11_actors {l : Launch} {K J : Nat → Nat} {fu : Nat} {sh : HS} {I : HI} {R : HR} {l0 : Nat} {l1 : Int32} {F : VF} (h0 : wX11_actors K J fu sh I R l0 l1 F) : MW l K J 126 0 (ent (mL 126) [.ref l0, .int l1]) [] sh I R (0, 0) F := by
  unfold wX11_actors at h0
  have ml : mL 126 = 4 := by decide +kernel
  rw [ml]
  show MW l K J 126 0 [some (.ref l0), some (.int l1), none, none] [] sh I R (0, 0) F
  refine mw_c (v := 0) (pc' := 1) (by decide +kernel) ?_
  refine mw_is (i := 2) (pc' := 2) (L' := [some (.ref l0), some (.int l1), some (.int 0), none]) (by decide +kernel) rfl rfl ?_
  refine mw_c (v := 0) (pc' := 3) (by decide +kernel) ?_
  refine mw_is (i := 3) (pc' := 4) (L' := [some (.ref l0), some (.int l1), some (.int 0), some (.int 0)]) (by decide +kernel) rfl rfl ?_
  exact (vwX11_actors_l4 fu) h0
/- ('X11', 'length') -/
def wX11_length_b42 (K J : Nat → Nat) (fu : Nat) (F : VF) (k4 : HS → HI → HR → Nat → Int32 → Int32 → Int32 → Prop) (sh : HS) (I : HI) (R : HR) (l0 : Nat) (l1 : Int32) (l3 : Int32) (s0 : Int32) (s1 : Int32) : Prop :=
  k4 sh I R l0 l1 (s1 + s0) (l3 + 1)
theorem vwX11_length_b42 {l : Launch} {K J : Nat → Nat} {fu : Nat} {F : VF} {k4 : HS → HI → HR → Nat → Int32 → Int32 → Int32 → Prop} (hk4 : ∀ {sh : HS} {I : HI} {R : HR} {l0 : Nat} {l1 : Int32} {l2 : Int32} {l3 : Int32}, k4 sh I R l0 l1 l2 l3 → MW l K J 127 4 [some (.ref l0), some (.int l1), some (.int l2), some (.int l3)] [] sh I R (0, 0) F) {sh : HS} {I : HI} {R : HR} {l0 : Nat} {l1 : Int32} {l3 : Int32} {s0 : Int32} {s1 : Int32} {d2 : Option Value} (h0 : wX11_length_b42 K J fu F k4 sh I R l0 l1 l3 s0 s1) : MW l K J 127 42 [some (.ref l0), some (.int l1), d2, some (.int l3)] [.int s0, .int s1] sh I R (0, 0) F := by
  unfold wX11_length_b42 at h0
  refine mw_a (ins := .iadd) (pc' := 43) (by decide +kernel) rfl ?_
  refine mw_is (i := 2) (pc' := 44) (L' := [some (.ref l0), some (.int l1), some (.int (s1 + s0)), some (.int l3)]) (by decide +kernel) rfl rfl ?_
  refine mw_inc (i := 3) (z := 1) (pc' := 47) (L' := [some (.ref l0), some (.int l1), some (.int (s1 + s0)), some (.int (l3 + 1))]) (by decide +kernel) rfl rfl rfl ?_
  refine mw_go (t := 4) (by decide +kernel) ?_
  exact hk4 h0
def wX11_length_b4 (K J : Nat → Nat) (fu : Nat) (F : VF) (k4 : HS → HI → HR → Nat → Int32 → Int32 → Int32 → Prop) (sh : HS) (I : HI) (R : HR) (l0 : Nat) (l1 : Int32) (l2 : Int32) (l3 : Int32) : Prop :=
  wB (oR sh R l0 9 3) fun v1 =>
  rcvB sh v1 10 = true ∧
  wJx4a65c_size_8abf5 K J fu sh I R v1 (qwI fun v3 t3 i3 j3 =>
  if v3 ≤ l3 then
    (F (.inl (some (.int l2))) t3 i3 j3)
  else
    (if ((l1 >>> (l3 &&& 31)) &&& 1) = (1 : Int32) then
      (wB (oR t3 j3 l0 9 3) fun v4 =>
      rcvB t3 v4 10 = true ∧
      wJx4a65c_get_915e3 K J fu t3 i3 j3 v4 l3 (qwR fun v6 t6 i6 j6 =>
      wB (oKt t6 v6 1) fun _ =>
      wB (oA2 t6 i6 v6 5) fun v7 =>
      (wX11_length_b42 K J fu F k4) t6 i6 j6 l0 l1 l3 v7 l2))
    else
      ((wX11_length_b42 K J fu F k4) t3 i3 j3 l0 l1 l3 0 l2)))
theorem vwX11_length_b4 {l : Launch} {K J : Nat → Nat} {fu : Nat} {F : VF} {k4 : HS → HI → HR → Nat → Int32 → Int32 → Int32 → Prop} (hk4 : ∀ {sh : HS} {I : HI} {R : HR} {l0 : Nat} {l1 : Int32} {l2 : Int32} {l3 : Int32}, k4 sh I R l0 l1 l2 l3 → MW l K J 127 4 [some (.ref l0), some (.int l1), some (.int l2), some (.int l3)] [] sh I R (0, 0) F) {sh : HS} {I : HI} {R : HR} {l0 : Nat} {l1 : Int32} {l2 : Int32} {l3 : Int32} (h0 : wX11_length_b4 K J fu F k4 sh I R l0 l1 l2 l3) : MW l K J 127 4 [some (.ref l0), some (.int l1), some (.int l2), some (.int l3)] [] sh I R (0, 0) F := by
  unfold wX11_length_b4 at h0
  refine mw_il (i := 3) (pc' := 5) (by decide +kernel) rfl ?_
  refine mw_rl (i := 0) (pc' := 6) (by decide +kernel) rfl ?_
  refine mw_fR (ix := 10) (t := 9) (j := 3) (md := 0) (by decide +kernel) h0 (fun v1 h1 => ?_); clear h0
  obtain ⟨q2, h2⟩ := h1
  refine mwx_I (q := 133) (na := 1) (ce := 0) (sl := 0) (X := 0) (Y := 0) (as := [.ref v1]) (by decide +kernel) ⟨Nat.le_refl _, Nat.le_refl _⟩ rfl rfl (by rw [show mL 133 = 1 from by decide +kernel]; rfl) rfl (fun _ => rv_of q2 (by decide +kernel)) (fun z => absurd z (by decide +kernel)) (vwJx4a65c_size_8abf5 h2) (fun v3 t3 i3 j3 h3 => ?_); clear h2
  refine mw_if (ins := .if_icmp .ge 38) (t := 50) (pc' := 15) (by decide +kernel) rfl rfl rfl h3 (fun p4 h4 => ?_) (fun p4 h4 => ?_) <;> clear h3
  · refine mw_il (i := 2) (pc' := 51) (by decide +kernel) rfl ?_
    exact mw_ri (X := 0) (Y := 0) (by decide +kernel) ⟨Nat.le_refl _, Nat.le_refl _⟩ h4
  · refine mw_il (i := 2) (pc' := 16) (by decide +kernel) rfl ?_
    refine mw_il (i := 1) (pc' := 17) (by decide +kernel) rfl ?_
    refine mw_il (i := 3) (pc' := 18) (by decide +kernel) rfl ?_
    refine mw_a (ins := .ishr) (pc' := 19) (by decide +kernel) rfl ?_
    refine mw_c (v := 1) (pc' := 20) (by decide +kernel) ?_
    refine mw_a (ins := .iand) (pc' := 21) (by decide +kernel) rfl ?_
    refine mw_c (v := 1) (pc' := 22) (by decide +kernel) ?_
    refine mw_ifn (ins := .if_icmp .ne 19) (t := 41) (pc' := 25) (by decide +kernel) rfl rfl rfl h4 (fun p5 h5 => ?_) (fun p5 h5 => ?_) <;> clear h4
    · refine mw_c (v := 0) (pc' := 42) (by decide +kernel) ?_
      exact (vwX11_length_b42 hk4) h5
    · refine mw_rl (i := 0) (pc' := 26) (by decide +kernel) rfl ?_
      refine mw_fR (ix := 10) (t := 9) (j := 3) (md := 0) (by decide +kernel) h5 (fun v4 h6 => ?_); clear h5
      refine mw_il (i := 3) (pc' := 30) (by decide +kernel) rfl ?_
      obtain ⟨q5, h7⟩ := h6
      refine mwx_R (q := 135) (na := 2) (ce := 0) (sl := 0) (X := 0) (Y := 0) (as := [.int l3, .ref v4]) (by decide +kernel) ⟨Nat.le_refl _, Nat.le_refl _⟩ rfl rfl (by rw [show mL 135 = 2 from by decide +kernel]; rfl) rfl (fun _ => rv_of q5 (by decide +kernel)) (fun z => absurd z (by decide +kernel)) (vwJx4a65c_get_915e3 h7) (fun v6 t6 i6 j6 h8 => ?_); clear h7
      refine mw_cst (ix := 20) (v := 1) (by decide +kernel) h8 (fun h9 => ?_); clear h8
      refine mw_c (v := 5) (pc' := 37) (by decide +kernel) ?_
      refine mw_al (by decide +kernel) h9 (fun v7 h10 => ?_); clear h9
      refine mw_go (t := 42) (by decide +kernel) ?_
      exact (vwX11_length_b42 hk4) h10
def wX11_length_l4 (K J : Nat → Nat) (fu : Nat) (F : VF) : Nat → HS → HI → HR → Nat → Int32 → Int32 → Int32 → Prop
  | 0 => fun _ _ _ _ _ _ _ => False
  | n + 1 => wX11_length_b4 K J fu F (wX11_length_l4 K J fu F n)
theorem vwX11_length_l4 {l : Launch} {K J : Nat → Nat} {fu : Nat} {F : VF} : ∀ (n : Nat) {sh : HS} {I : HI} {R : HR} {l0 : Nat} {l1 : Int32} {l2 : Int32} {l3 : Int32} (_ : wX11_length_l4 K J fu F n sh I R l0 l1 l2 l3), MW l K J 127 4 [some (.ref l0), some (.int l1), some (.int l2), some (.int l3)] [] sh I R (0, 0) F := by
  intro n
  induction n with
  | zero => exact fun h0 => h0.elim
  | succ n ih => exact fun h0 => vwX11_length_b4 ih h0
def wX11_length (K J : Nat → Nat) (fu : Nat) (sh : HS) (I : HI) (R : HR) (l0 : Nat) (l1 : Int32) (F : VF) : Prop :=
  (wX11_length_l4 K J fu F fu) sh I R l0 l1 0 0
theorem vwX11_length {l : Launch} {K J : Nat → Nat} {fu : Nat} {sh : HS} {I : HI} {R : HR} {l0 : Nat} {l1 : Int32} {F : VF} (h0 : wX11_length K J fu sh I R l0 l1 F) : MW l K J 127 0 (ent (mL 127) [.ref l0, .int l1]) [] sh I R (0, 0) F := by
  unfold wX11_length at h0
  have ml : mL 127 = 4 := by decide +kernel
  rw [ml]
  show MW l K J 127 0 [some (.ref l0), some (.int l1), none, none] [] sh I R (0, 0) F
  refine mw_c (v := 0) (pc' := 1) (by decide +kernel) ?_
  refine mw_is (i := 2) (pc' := 2) (L' := [some (.ref l0), some (.int l1), some (.int 0), none]) (by decide +kernel) rfl rfl ?_
  refine mw_c (v := 0) (pc' := 3) (by decide +kernel) ?_
  refine mw_is (i := 3) (pc' := 4) (L' := [some (.ref l0), some (.int l1), some (.int 0), some (.int 0)]) (by decide +kernel) rfl rfl ?_
  exact (vwX11_length_l4 fu) h0
/- ('X11', 'change') -/
def wX11_change_b62 (K J : Nat → Nat) (fu : Nat) (F : VF) (sh : HS) (I : HI) (R : HR) (l0 : Nat) (l1 : Int32) (l2 : Int32) (l3 : Int32) (l4 : Int32) (s0 : Int32) : Prop :=
  wB (oR sh R l0 9 4) fun v11 =>
  wB (oA2 sh I v11 l3) fun v12 =>
  wB (oR sh R l0 9 4) fun v13 =>
  wB (oA2 sh I v13 l4) fun v14 =>
  rcvB sh l0 9 = true ∧
  wX11_actors K J fu sh I R l0 l2 (qwI fun v16 t16 i16 j16 =>
  rcvB t16 l0 9 = true ∧
  wX11_actors K J fu t16 i16 j16 l0 l1 (qwI fun v18 t18 i18 j18 =>
  wB (fJ6_bitCount_0f7a4 fu t18 i18 j18 (v16 &&& (v18 ^^^ (-1)))) fun v19 =>
  F (.inl (some (.int ((s0 + (4 * (iAbs (v12 - v14)))) + (2 * v19))))) t18 i18 j18))
theorem vwX11_change_b62 {l : Launch} {K J : Nat → Nat} {fu : Nat} {F : VF} {sh : HS} {I : HI} {R : HR} {l0 : Nat} {l1 : Int32} {l2 : Int32} {l3 : Int32} {l4 : Int32} {s0 : Int32} (h0 : wX11_change_b62 K J fu F sh I R l0 l1 l2 l3 l4 s0) : MW l K J 128 62 [some (.ref l0), some (.int l1), some (.int l2), some (.int l3), some (.int l4)] [.int s0] sh I R (0, 0) F := by
  unfold wX11_change_b62 at h0
  refine mw_c (v := 4) (pc' := 63) (by decide +kernel) ?_
  refine mw_rl (i := 0) (pc' := 64) (by decide +kernel) rfl ?_
  refine mw_fR (ix := 16) (t := 9) (j := 4) (md := 0) (by decide +kernel) h0 (fun v11 h1 => ?_); clear h0
  refine mw_il (i := 3) (pc' := 68) (by decide +kernel) rfl ?_
  refine mw_al (by decide +kernel) h1 (fun v12 h2 => ?_); clear h1
  refine mw_rl (i := 0) (pc' := 70) (by decide +kernel) rfl ?_
  refine mw_fR (ix := 16) (t := 9) (j := 4) (md := 0) (by decide +kernel) h2 (fun v13 h3 => ?_); clear h2
  refine mw_il (i := 4) (pc' := 75) (by decide +kernel) rfl ?_
  refine mw_al (by decide +kernel) h3 (fun v14 h4 => ?_); clear h3
  refine mw_a (ins := .isub) (pc' := 77) (by decide +kernel) rfl ?_
  refine mw_abs (X := 0) (Y := 0) (pc' := 80) (by decide +kernel) ⟨Nat.le_refl _, Nat.le_refl _⟩ rfl ?_
  refine mw_a (ins := .imul) (pc' := 81) (by decide +kernel) rfl ?_
  refine mw_a (ins := .iadd) (pc' := 82) (by decide +kernel) rfl ?_
  refine mw_c (v := 2) (pc' := 83) (by decide +kernel) ?_
  refine mw_rl (i := 0) (pc' := 84) (by decide +kernel) rfl ?_
  refine mw_il (i := 2) (pc' := 85) (by decide +kernel) rfl ?_
  obtain ⟨q15, h5⟩ := h4
  refine mwx_I (q := 126) (na := 2) (ce := 0) (sl := 0) (X := 0) (Y := 0) (as := [.int l2, .ref l0]) (by decide +kernel) ⟨Nat.le_refl _, Nat.le_refl _⟩ rfl rfl (by rw [show mL 126 = 4 from by decide +kernel]; rfl) rfl (fun _ => rv_of q15 (by decide +kernel)) (fun z => absurd z (by decide +kernel)) (vwX11_actors h5) (fun v16 t16 i16 j16 h6 => ?_); clear h5
  refine mw_rl (i := 0) (pc' := 89) (by decide +kernel) rfl ?_
  refine mw_il (i := 1) (pc' := 90) (by decide +kernel) rfl ?_
  obtain ⟨q17, h7⟩ := h6
  refine mwx_I (q := 126) (na := 2) (ce := 0) (sl := 0) (X := 0) (Y := 0) (as := [.int l1, .ref l0]) (by decide +kernel) ⟨Nat.le_refl _, Nat.le_refl _⟩ rfl rfl (by rw [show mL 126 = 4 from by decide +kernel]; rfl) rfl (fun _ => rv_of q17 (by decide +kernel)) (fun z => absurd z (by decide +kernel)) (vwX11_actors h7) (fun v18 t18 i18 j18 h8 => ?_); clear h7
  refine mw_c (v := (-1)) (pc' := 94) (by decide +kernel) ?_
  refine mw_a (ins := .ixor) (pc' := 95) (by decide +kernel) rfl ?_
  refine mw_a (ins := .iand) (pc' := 96) (by decide +kernel) rfl ?_
  refine hJ6_bitCount_0f7a4 (X := 0) (Y := 0) (by decide +kernel) ⟨Nat.le_refl _, Nat.le_refl _⟩ rfl h8 (fun v19 h9 => ?_); clear h8
  refine mw_a (ins := .imul) (pc' := 100) (by decide +kernel) rfl ?_
  refine mw_a (ins := .iadd) (pc' := 101) (by decide +kernel) rfl ?_
  exact mw_ri (X := 0) (Y := 0) (by decide +kernel) ⟨Nat.le_refl _, Nat.le_refl _⟩ h9
def wX11_change (K J : Nat → Nat) (fu : Nat) (sh : HS) (I : HI) (R : HR) (l0 : Nat) (l1 : Int32) (l2 : Int32) (F : VF) : Prop :=
  if l1 = 0 then
    (rcvB sh l0 9 = true ∧
    wX11_actors K J fu sh I R l0 l2 (qwI fun v21 t21 i21 j21 =>
    wB (fJ6_bitCount_0f7a4 fu t21 i21 j21 v21) fun v22 =>
    F (.inl (some (.int (2 * v22)))) t21 i21 j21))
  else
    (wB (oR sh R l0 9 3) fun v1 =>
    wB (fJ6_numberOfTrailingZeros_0f7a4 fu sh I R l1) fun v2 =>
    rcvB sh v1 10 = true ∧
    wJx4a65c_get_915e3 K J fu sh I R v1 v2 (qwR fun v4 t4 i4 j4 =>
    wB (oKt t4 v4 1) fun _ =>
    wB (oA2 t4 i4 v4 0) fun v5 =>
    wB (oR t4 j4 l0 9 3) fun v6 =>
    wB (fJ6_numberOfTrailingZeros_0f7a4 fu t4 i4 j4 l2) fun v7 =>
    rcvB t4 v6 10 = true ∧
    wJx4a65c_get_915e3 K J fu t4 i4 j4 v6 v7 (qwR fun v9 t9 i9 j9 =>
    wB (oKt t9 v9 1) fun _ =>
    wB (oA2 t9 i9 v9 0) fun v10 =>
    if v5 = v10 then
      ((wX11_change_b62 K J fu F) t9 i9 j9 l0 l1 l2 v5 v10 0)
    else
      ((wX11_change_b62 K J fu F) t9 i9 j9 l0 l1 l2 v5 v10 9))))
theorem vwX11_change {l : Launch} {K J : Nat → Nat} {fu : Nat} {sh : HS} {I : HI} {R : HR} {l0 : Nat} {l1 : Int32} {l2 : Int32} {F : VF} (h0 : wX11_change K J fu sh I R l0 l1 l2 F) : MW l K J 128 0 (ent (mL 128) [.ref l0, .int l1, .int l2]) [] sh I R (0, 0) F := by
  unfold wX11_change at h0
  have ml : mL 128 = 5 := by decide +kernel
  rw [ml]
  show MW l K J 128 0 [some (.ref l0), some (.int l1), some (.int l2), none, none] [] sh I R (0, 0) F
  refine mw_il (i := 1) (pc' := 1) (by decide +kernel) rfl ?_
  refine mw_ifn (ins := .ifCond .ne 14) (t := 15) (pc' := 4) (by decide +kernel) rfl rfl rfl h0 (fun p1 h1 => ?_) (fun p1 h1 => ?_) <;> clear h0
  · refine mw_rl (i := 0) (pc' := 16) (by decide +kernel) rfl ?_
    refine mw_fR (ix := 10) (t := 9) (j := 3) (md := 0) (by decide +kernel) h1 (fun v1 h2 => ?_); clear h1
    refine mw_il (i := 1) (pc' := 20) (by decide +kernel) rfl ?_
    refine hJ6_numberOfTrailingZeros_0f7a4 (X := 0) (Y := 0) (by decide +kernel) ⟨Nat.le_refl _, Nat.le_refl _⟩ rfl h2 (fun v2 h3 => ?_); clear h2
    obtain ⟨q3, h4⟩ := h3
    refine mwx_R (q := 135) (na := 2) (ce := 0) (sl := 0) (X := 0) (Y := 0) (as := [.int v2, .ref v1]) (by decide +kernel) ⟨Nat.le_refl _, Nat.le_refl _⟩ rfl rfl (by rw [show mL 135 = 2 from by decide +kernel]; rfl) rfl (fun _ => rv_of q3 (by decide +kernel)) (fun z => absurd z (by decide +kernel)) (vwJx4a65c_get_915e3 h4) (fun v4 t4 i4 j4 h5 => ?_); clear h4
    refine mw_cst (ix := 20) (v := 1) (by decide +kernel) h5 (fun h6 => ?_); clear h5
    refine mw_c (v := 0) (pc' := 30) (by decide +kernel) ?_
    refine mw_al (by decide +kernel) h6 (fun v5 h7 => ?_); clear h6
    refine mw_is (i := 3) (pc' := 32) (L' := [some (.ref l0), some (.int l1), some (.int l2), some (.int v5), none]) (by decide +kernel) rfl rfl ?_
    refine mw_rl (i := 0) (pc' := 33) (by decide +kernel) rfl ?_
    refine mw_fR (ix := 10) (t := 9) (j := 3) (md := 0) (by decide +kernel) h7 (fun v6 h8 => ?_); clear h7
    refine mw_il (i := 2) (pc' := 37) (by decide +kernel) rfl ?_
    refine hJ6_numberOfTrailingZeros_0f7a4 (X := 0) (Y := 0) (by decide +kernel) ⟨Nat.le_refl _, Nat.le_refl _⟩ rfl h8 (fun v7 h9 => ?_); clear h8
    obtain ⟨q8, h10⟩ := h9
    refine mwx_R (q := 135) (na := 2) (ce := 0) (sl := 0) (X := 0) (Y := 0) (as := [.int v7, .ref v6]) (by decide +kernel) ⟨Nat.le_refl _, Nat.le_refl _⟩ rfl rfl (by rw [show mL 135 = 2 from by decide +kernel]; rfl) rfl (fun _ => rv_of q8 (by decide +kernel)) (fun z => absurd z (by decide +kernel)) (vwJx4a65c_get_915e3 h10) (fun v9 t9 i9 j9 h11 => ?_); clear h10
    refine mw_cst (ix := 20) (v := 1) (by decide +kernel) h11 (fun h12 => ?_); clear h11
    refine mw_c (v := 0) (pc' := 47) (by decide +kernel) ?_
    refine mw_al (by decide +kernel) h12 (fun v10 h13 => ?_); clear h12
    refine mw_is (i := 4) (pc' := 50) (L' := [some (.ref l0), some (.int l1), some (.int l2), some (.int v5), some (.int v10)]) (by decide +kernel) rfl rfl ?_
    refine mw_il (i := 3) (pc' := 51) (by decide +kernel) rfl ?_
    refine mw_il (i := 4) (pc' := 53) (by decide +kernel) rfl ?_
    refine mw_ifn (ins := .if_icmp .ne 7) (t := 60) (pc' := 56) (by decide +kernel) rfl rfl rfl h13 (fun p14 h14 => ?_) (fun p14 h14 => ?_) <;> clear h13
    · refine mw_c (v := 9) (pc' := 62) (by decide +kernel) ?_
      exact (vwX11_change_b62) h14
    · refine mw_c (v := 0) (pc' := 57) (by decide +kernel) ?_
      refine mw_go (t := 62) (by decide +kernel) ?_
      exact (vwX11_change_b62) h14
  · refine mw_c (v := 2) (pc' := 5) (by decide +kernel) ?_
    refine mw_rl (i := 0) (pc' := 6) (by decide +kernel) rfl ?_
    refine mw_il (i := 2) (pc' := 7) (by decide +kernel) rfl ?_
    obtain ⟨q20, h2⟩ := h1
    refine mwx_I (q := 126) (na := 2) (ce := 0) (sl := 0) (X := 0) (Y := 0) (as := [.int l2, .ref l0]) (by decide +kernel) ⟨Nat.le_refl _, Nat.le_refl _⟩ rfl rfl (by rw [show mL 126 = 4 from by decide +kernel]; rfl) rfl (fun _ => rv_of q20 (by decide +kernel)) (fun z => absurd z (by decide +kernel)) (vwX11_actors h2) (fun v21 t21 i21 j21 h3 => ?_); clear h2
    refine hJ6_bitCount_0f7a4 (X := 0) (Y := 0) (by decide +kernel) ⟨Nat.le_refl _, Nat.le_refl _⟩ rfl h3 (fun v22 h4 => ?_); clear h3
    refine mw_a (ins := .imul) (pc' := 14) (by decide +kernel) rfl ?_
    exact mw_ri (X := 0) (Y := 0) (by decide +kernel) ⟨Nat.le_refl _, Nat.le_refl _⟩ h4
/- ('L', 'setupsHold') -/
def wL_setupsHold_b165 (K J : Nat → Nat) (fu : Nat) (F : VF) (k129 : HS → HI → HR → Nat → Nat → Nat → Nat → Nat → Int32 → Int32 → Int32 → Int32 → Prop) (k171 : HS → HI → HR → Nat → Nat → Nat → Nat → Nat → Int32 → Int32 → Int32 → Prop) (sh : HS) (I : HI) (R : HR) (c1 : Nat) (c2 : Nat) (l0 : Nat) (l1 : Nat) (l2 : Nat) (l3 : Int32) (l4 : Int32) (l5 : Int32) (l7 : Int32) : Prop :=
  k129 sh I R c1 c2 l0 l1 l2 l3 l4 l5 (l7 + 1)
theorem vwL_setupsHold_b165 {l : Launch} {K J : Nat → Nat} {fu : Nat} {F : VF} {k129 : HS → HI → HR → Nat → Nat → Nat → Nat → Nat → Int32 → Int32 → Int32 → Int32 → Prop} {k171 : HS → HI → HR → Nat → Nat → Nat → Nat → Nat → Int32 → Int32 → Int32 → Prop} (hk129 : ∀ {sh : HS} {I : HI} {R : HR} {c1 : Nat} {c2 : Nat} {l0 : Nat} {l1 : Nat} {l2 : Nat} {l3 : Int32} {l4 : Int32} {l5 : Int32} {l7 : Int32} {d6 : Option Value}, k129 sh I R c1 c2 l0 l1 l2 l3 l4 l5 l7 → MW l K J 189 129 [some (.ref l0), some (.ref l1), some (.ref l2), some (.int l3), some (.int l4), some (.int l5), d6, some (.int l7)] [] sh I R (c1, c2) F) (hk171 : ∀ {sh : HS} {I : HI} {R : HR} {c1 : Nat} {c2 : Nat} {l0 : Nat} {l1 : Nat} {l2 : Nat} {l3 : Int32} {l4 : Int32} {l5 : Int32} {d6 d7 : Option Value}, k171 sh I R c1 c2 l0 l1 l2 l3 l4 l5 → MW l K J 189 171 [some (.ref l0), some (.ref l1), some (.ref l2), some (.int l3), some (.int l4), some (.int l5), d6, d7] [] sh I R (c1, c2) F) {sh : HS} {I : HI} {R : HR} {c1 : Nat} {c2 : Nat} {l0 : Nat} {l1 : Nat} {l2 : Nat} {l3 : Int32} {l4 : Int32} {l5 : Int32} {l7 : Int32} {d6 : Option Value} (h0 : wL_setupsHold_b165 K J fu F k129 k171 sh I R c1 c2 l0 l1 l2 l3 l4 l5 l7) : MW l K J 189 165 [some (.ref l0), some (.ref l1), some (.ref l2), some (.int l3), some (.int l4), some (.int l5), d6, some (.int l7)] [] sh I R (c1, c2) F := by
  unfold wL_setupsHold_b165 at h0
  refine mw_inc (i := 7) (z := 1) (pc' := 168) (L' := [some (.ref l0), some (.ref l1), some (.ref l2), some (.int l3), some (.int l4), some (.int l5), d6, some (.int (l7 + 1))]) (by decide +kernel) rfl rfl rfl ?_
  refine mw_go (t := 129) (by decide +kernel) ?_
  exact hk129 h0
def wL_setupsHold_b129 (K J : Nat → Nat) (fu : Nat) (F : VF) (k129 : HS → HI → HR → Nat → Nat → Nat → Nat → Nat → Int32 → Int32 → Int32 → Int32 → Prop) (k171 : HS → HI → HR → Nat → Nat → Nat → Nat → Nat → Int32 → Int32 → Int32 → Prop) (sh : HS) (I : HI) (R : HR) (c1 : Nat) (c2 : Nat) (l0 : Nat) (l1 : Nat) (l2 : Nat) (l3 : Int32) (l4 : Int32) (l5 : Int32) (l7 : Int32) : Prop :=
  wB (oR sh R l1 9 3) fun v37 =>
  rcvB sh v37 10 = true ∧
  (c1 ≤ 1100 ∧ c2 ≤ 6600) ∧
  wJx4a65c_size_8abf5 K J fu sh I R v37 (qwI fun v40 t40 i40 j40 =>
  if v40 ≤ l7 then
    (k171 t40 i40 j40 c1 c2 l0 l1 l2 l3 l4 l5)
  else
    (if ((l5 >>> (l7 &&& 31)) &&& 1) = (1 : Int32) then
      ((c1 + 2 ≤ 1100 ∧ c2 + 12 ≤ 6600) ∧
      wB (fX10_setupOf fu t40 i40 j40 l0 l7) fun r42 => wS r42.1 fun v42 =>
      if v42 = l4 then
        ((wL_setupsHold_b165 K J fu F k129 k171) t40 r42.2 j40 (c1 + 2) (c2 + 12) l0 l1 l2 l3 l4 l5 l7)
      else
        (((c1 + 2) ≤ 1100 ∧ (c2 + 12) ≤ 6600) ∧
        F (.inl (some (.int 0))) t40 r42.2 j40))
    else
      ((wL_setupsHold_b165 K J fu F k129 k171) t40 i40 j40 c1 c2 l0 l1 l2 l3 l4 l5 l7)))
theorem vwL_setupsHold_b129 {l : Launch} {K J : Nat → Nat} {fu : Nat} {F : VF} {k129 : HS → HI → HR → Nat → Nat → Nat → Nat → Nat → Int32 → Int32 → Int32 → Int32 → Prop} {k171 : HS → HI → HR → Nat → Nat → Nat → Nat → Nat → Int32 → Int32 → Int32 → Prop} (hk129 : ∀ {sh : HS} {I : HI} {R : HR} {c1 : Nat} {c2 : Nat} {l0 : Nat} {l1 : Nat} {l2 : Nat} {l3 : Int32} {l4 : Int32} {l5 : Int32} {l7 : Int32} {d6 : Option Value}, k129 sh I R c1 c2 l0 l1 l2 l3 l4 l5 l7 → MW l K J 189 129 [some (.ref l0), some (.ref l1), some (.ref l2), some (.int l3), some (.int l4), some (.int l5), d6, some (.int l7)] [] sh I R (c1, c2) F) (hk171 : ∀ {sh : HS} {I : HI} {R : HR} {c1 : Nat} {c2 : Nat} {l0 : Nat} {l1 : Nat} {l2 : Nat} {l3 : Int32} {l4 : Int32} {l5 : Int32} {d6 d7 : Option Value}, k171 sh I R c1 c2 l0 l1 l2 l3 l4 l5 → MW l K J 189 171 [some (.ref l0), some (.ref l1), some (.ref l2), some (.int l3), some (.int l4), some (.int l5), d6, d7] [] sh I R (c1, c2) F) {sh : HS} {I : HI} {R : HR} {c1 : Nat} {c2 : Nat} {l0 : Nat} {l1 : Nat} {l2 : Nat} {l3 : Int32} {l4 : Int32} {l5 : Int32} {l7 : Int32} {d6 : Option Value} (h0 : wL_setupsHold_b129 K J fu F k129 k171 sh I R c1 c2 l0 l1 l2 l3 l4 l5 l7) : MW l K J 189 129 [some (.ref l0), some (.ref l1), some (.ref l2), some (.int l3), some (.int l4), some (.int l5), d6, some (.int l7)] [] sh I R (c1, c2) F := by
  unfold wL_setupsHold_b129 at h0
  refine mw_il (i := 7) (pc' := 131) (by decide +kernel) rfl ?_
  refine mw_rl (i := 1) (pc' := 132) (by decide +kernel) rfl ?_
  refine mw_fR (ix := 48) (t := 9) (j := 3) (md := 1) (by decide +kernel) h0 (fun v37 h1 => ?_); clear h0
  obtain ⟨q38, h2⟩ := h1
  obtain ⟨r39, h3⟩ := h2
  refine mwx_I (q := 133) (na := 1) (ce := 0) (sl := 0) (X := 1100) (Y := 6600) (as := [.ref v37]) (by decide +kernel) r39 rfl rfl (by rw [show mL 133 = 1 from by decide +kernel]; rfl) rfl (fun _ => rv_of q38 (by decide +kernel)) (fun z => absurd z (by decide +kernel)) (vwJx4a65c_size_8abf5 h3) (fun v40 t40 i40 j40 h4 => ?_); clear h3
  refine mw_if (ins := .if_icmp .ge 33) (t := 171) (pc' := 141) (by decide +kernel) rfl rfl rfl h4 (fun p5 h5 => ?_) (fun p5 h5 => ?_) <;> clear h4
  · exact hk171 h5
  · refine mw_il (i := 5) (pc' := 143) (by decide +kernel) rfl ?_
    refine mw_il (i := 7) (pc' := 145) (by decide +kernel) rfl ?_
    refine mw_a (ins := .ishr) (pc' := 146) (by decide +kernel) rfl ?_
    refine mw_c (v := 1) (pc' := 147) (by decide +kernel) ?_
    refine mw_a (ins := .iand) (pc' := 148) (by decide +kernel) rfl ?_
    refine mw_c (v := 1) (pc' := 149) (by decide +kernel) ?_
    refine mw_ifn (ins := .if_icmp .ne 16) (t := 165) (pc' := 152) (by decide +kernel) rfl rfl rfl h5 (fun p6 h6 => ?_) (fun p6 h6 => ?_) <;> clear h5
    · exact (vwL_setupsHold_b165 hk129 hk171) h6
    · refine mw_rl (i := 0) (pc' := 153) (by decide +kernel) rfl ?_
      refine mw_il (i := 7) (pc' := 155) (by decide +kernel) rfl ?_
      obtain ⟨r41, h7⟩ := h6
      refine hX10_setupOf (X := 1100) (Y := 6600) (by decide +kernel) r41 rfl h7 (fun v42 r42 h8 => ?_); clear h7
      refine mw_il (i := 4) (pc' := 160) (by decide +kernel) rfl ?_
      refine mw_if (ins := .if_icmp .eq 5) (t := 165) (pc' := 163) (by decide +kernel) rfl rfl rfl h8 (fun p9 h9 => ?_) (fun p9 h9 => ?_) <;> clear h8
      · exact (vwL_setupsHold_b165 hk129 hk171) h9
      · refine mw_c (v := 0) (pc' := 164) (by decide +kernel) ?_
        obtain ⟨r43, h10⟩ := h9
        exact mw_rz (X := 1100) (Y := 6600) (by decide +kernel) (by decide) r43 h10
def wL_setupsHold_l129 (K J : Nat → Nat) (fu : Nat) (F : VF) (k171 : HS → HI → HR → Nat → Nat → Nat → Nat → Nat → Int32 → Int32 → Int32 → Prop) : Nat → HS → HI → HR → Nat → Nat → Nat → Nat → Nat → Int32 → Int32 → Int32 → Int32 → Prop
  | 0 => fun _ _ _ _ _ _ _ _ _ _ _ _ => False
  | n + 1 => wL_setupsHold_b129 K J fu F (wL_setupsHold_l129 K J fu F k171 n) k171
theorem vwL_setupsHold_l129 {l : Launch} {K J : Nat → Nat} {fu : Nat} {F : VF} {k171 : HS → HI → HR → Nat → Nat → Nat → Nat → Nat → Int32 → Int32 → Int32 → Prop} (hk171 : ∀ {sh : HS} {I : HI} {R : HR} {c1 : Nat} {c2 : Nat} {l0 : Nat} {l1 : Nat} {l2 : Nat} {l3 : Int32} {l4 : Int32} {l5 : Int32} {d6 d7 : Option Value}, k171 sh I R c1 c2 l0 l1 l2 l3 l4 l5 → MW l K J 189 171 [some (.ref l0), some (.ref l1), some (.ref l2), some (.int l3), some (.int l4), some (.int l5), d6, d7] [] sh I R (c1, c2) F) : ∀ (n : Nat) {sh : HS} {I : HI} {R : HR} {c1 : Nat} {c2 : Nat} {l0 : Nat} {l1 : Nat} {l2 : Nat} {l3 : Int32} {l4 : Int32} {l5 : Int32} {l7 : Int32} {d6 : Option Value} (_ : wL_setupsHold_l129 K J fu F k171 n sh I R c1 c2 l0 l1 l2 l3 l4 l5 l7), MW l K J 189 129 [some (.ref l0), some (.ref l1), some (.ref l2), some (.int l3), some (.int l4), some (.int l5), d6, some (.int l7)] [] sh I R (c1, c2) F := by
  intro n
  induction n with
  | zero => exact fun h0 => h0.elim
  | succ n ih => exact fun h0 => vwL_setupsHold_b129 ih hk171 h0
def wL_setupsHold_b213 (K J : Nat → Nat) (fu : Nat) (F : VF) (k174 : HS → HI → HR → Nat → Nat → Nat → Nat → Nat → Int32 → Int32 → Int32 → Int32 → Prop) (k229 : HS → HI → HR → Nat → Nat → Nat → Nat → Nat → Int32 → Int32 → Int32 → Prop) (sh : HS) (I : HI) (R : HR) (c1 : Nat) (c2 : Nat) (l0 : Nat) (l1 : Nat) (l2 : Nat) (l3 : Int32) (l4 : Int32) (l5 : Int32) (l7 : Int32) (s0 : Int32) (s1 : Nat) (s2 : Int32) : Prop :=
  rcvB sh s1 9 = true ∧
  (c1 ≤ 1100 ∧ c2 ≤ 6600) ∧
  wX11_change K J fu sh I R s1 s0 l5 (qwI fun v57 t57 i57 j57 =>
  if s2 = v57 then
    (k174 t57 i57 j57 c1 c2 l0 l1 l2 l3 l4 l5 (l7 + 1))
  else
    ((c1 ≤ 1100 ∧ c2 ≤ 6600) ∧
    F (.inl (some (.int 0))) t57 i57 j57))
theorem vwL_setupsHold_b213 {l : Launch} {K J : Nat → Nat} {fu : Nat} {F : VF} {k174 : HS → HI → HR → Nat → Nat → Nat → Nat → Nat → Int32 → Int32 → Int32 → Int32 → Prop} {k229 : HS → HI → HR → Nat → Nat → Nat → Nat → Nat → Int32 → Int32 → Int32 → Prop} (hk174 : ∀ {sh : HS} {I : HI} {R : HR} {c1 : Nat} {c2 : Nat} {l0 : Nat} {l1 : Nat} {l2 : Nat} {l3 : Int32} {l4 : Int32} {l5 : Int32} {l7 : Int32} {d6 : Option Value}, k174 sh I R c1 c2 l0 l1 l2 l3 l4 l5 l7 → MW l K J 189 174 [some (.ref l0), some (.ref l1), some (.ref l2), some (.int l3), some (.int l4), some (.int l5), d6, some (.int l7)] [] sh I R (c1, c2) F) (hk229 : ∀ {sh : HS} {I : HI} {R : HR} {c1 : Nat} {c2 : Nat} {l0 : Nat} {l1 : Nat} {l2 : Nat} {l3 : Int32} {l4 : Int32} {l5 : Int32} {d6 d7 : Option Value}, k229 sh I R c1 c2 l0 l1 l2 l3 l4 l5 → MW l K J 189 229 [some (.ref l0), some (.ref l1), some (.ref l2), some (.int l3), some (.int l4), some (.int l5), d6, d7] [] sh I R (c1, c2) F) {sh : HS} {I : HI} {R : HR} {c1 : Nat} {c2 : Nat} {l0 : Nat} {l1 : Nat} {l2 : Nat} {l3 : Int32} {l4 : Int32} {l5 : Int32} {l7 : Int32} {s0 : Int32} {s1 : Nat} {s2 : Int32} {d6 : Option Value} (h0 : wL_setupsHold_b213 K J fu F k174 k229 sh I R c1 c2 l0 l1 l2 l3 l4 l5 l7 s0 s1 s2) : MW l K J 189 213 [some (.ref l0), some (.ref l1), some (.ref l2), some (.int l3), some (.int l4), some (.int l5), d6, some (.int l7)] [.int s0, .ref s1, .int s2] sh I R (c1, c2) F := by
  unfold wL_setupsHold_b213 at h0
  refine mw_il (i := 5) (pc' := 215) (by decide +kernel) rfl ?_
  obtain ⟨q55, h1⟩ := h0
  obtain ⟨r56, h2⟩ := h1
  refine mwx_I (q := 128) (na := 3) (ce := 0) (sl := 0) (X := 1100) (Y := 6600) (as := [.int l5, .int s0, .ref s1]) (by decide +kernel) r56 rfl rfl (by rw [show mL 128 = 5 from by decide +kernel]; rfl) rfl (fun _ => rv_of q55 (by decide +kernel)) (fun z => absurd z (by decide +kernel)) (vwX11_change h2) (fun v57 t57 i57 j57 h3 => ?_); clear h2
  refine mw_if (ins := .if_icmp .eq 5) (t := 223) (pc' := 221) (by decide +kernel) rfl rfl rfl h3 (fun p4 h4 => ?_) (fun p4 h4 => ?_) <;> clear h3
  · refine mw_inc (i := 7) (z := 1) (pc' := 226) (L' := [some (.ref l0), some (.ref l1), some (.ref l2), some (.int l3), some (.int l4), some (.int l5), d6, some (.int (l7 + 1))]) (by decide +kernel) rfl rfl rfl ?_
    refine mw_go (t := 174) (by decide +kernel) ?_
    exact hk174 h4
  · refine mw_c (v := 0) (pc' := 222) (by decide +kernel) ?_
    obtain ⟨r58, h5⟩ := h4
    exact mw_rz (X := 1100) (Y := 6600) (by decide +kernel) (by decide) r58 h5
def wL_setupsHold_b174 (K J : Nat → Nat) (fu : Nat) (F : VF) (k174 : HS → HI → HR → Nat → Nat → Nat → Nat → Nat → Int32 → Int32 → Int32 → Int32 → Prop) (k229 : HS → HI → HR → Nat → Nat → Nat → Nat → Nat → Int32 → Int32 → Int32 → Prop) (sh : HS) (I : HI) (R : HR) (c1 : Nat) (c2 : Nat) (l0 : Nat) (l1 : Nat) (l2 : Nat) (l3 : Int32) (l4 : Int32) (l5 : Int32) (l7 : Int32) : Prop :=
  rcvB sh l2 10 = true ∧
  (c1 ≤ 1100 ∧ c2 ≤ 6600) ∧
  wJx4a65c_size_8abf5 K J fu sh I R l2 (qwI fun v46 t46 i46 j46 =>
  if v46 ≤ l7 then
    (k229 t46 i46 j46 c1 c2 l0 l1 l2 l3 l4 l5)
  else
    ((c1 + 3 ≤ 1100 ∧ c2 + 18 ≤ 6600) ∧
    wB (fX10_change fu t46 i46 j46 l0 l7 l4) fun r48 => wS r48.1 fun v48 =>
    if 0 ≤ l7 then
      (rcvB t46 l2 10 = true ∧
      ((c1 + 3) ≤ 1100 ∧ (c2 + 18) ≤ 6600) ∧
      wJx4a65c_get_915e3 K J fu t46 r48.2 j46 l2 l7 (qwR fun v51 t51 i51 j51 =>
      wB (oKt t51 v51 3) fun _ =>
      rcvB t51 v51 12 = true ∧
      ((c1 + 3) ≤ 1100 ∧ (c2 + 18) ≤ 6600) ∧
      wJ6_intValue_8abf5 K J fu t51 i51 j51 v51 (qwI fun v54 t54 i54 j54 =>
      (wL_setupsHold_b213 K J fu F k174 k229) t54 i54 j54 (c1 + 3) (c2 + 18) l0 l1 l2 l3 l4 l5 l7 v54 l1 v48)))
    else
      ((wL_setupsHold_b213 K J fu F k174 k229) t46 r48.2 j46 (c1 + 3) (c2 + 18) l0 l1 l2 l3 l4 l5 l7 0 l1 v48)))
theorem vwL_setupsHold_b174 {l : Launch} {K J : Nat → Nat} {fu : Nat} {F : VF} {k174 : HS → HI → HR → Nat → Nat → Nat → Nat → Nat → Int32 → Int32 → Int32 → Int32 → Prop} {k229 : HS → HI → HR → Nat → Nat → Nat → Nat → Nat → Int32 → Int32 → Int32 → Prop} (hk174 : ∀ {sh : HS} {I : HI} {R : HR} {c1 : Nat} {c2 : Nat} {l0 : Nat} {l1 : Nat} {l2 : Nat} {l3 : Int32} {l4 : Int32} {l5 : Int32} {l7 : Int32} {d6 : Option Value}, k174 sh I R c1 c2 l0 l1 l2 l3 l4 l5 l7 → MW l K J 189 174 [some (.ref l0), some (.ref l1), some (.ref l2), some (.int l3), some (.int l4), some (.int l5), d6, some (.int l7)] [] sh I R (c1, c2) F) (hk229 : ∀ {sh : HS} {I : HI} {R : HR} {c1 : Nat} {c2 : Nat} {l0 : Nat} {l1 : Nat} {l2 : Nat} {l3 : Int32} {l4 : Int32} {l5 : Int32} {d6 d7 : Option Value}, k229 sh I R c1 c2 l0 l1 l2 l3 l4 l5 → MW l K J 189 229 [some (.ref l0), some (.ref l1), some (.ref l2), some (.int l3), some (.int l4), some (.int l5), d6, d7] [] sh I R (c1, c2) F) {sh : HS} {I : HI} {R : HR} {c1 : Nat} {c2 : Nat} {l0 : Nat} {l1 : Nat} {l2 : Nat} {l3 : Int32} {l4 : Int32} {l5 : Int32} {l7 : Int32} {d6 : Option Value} (h0 : wL_setupsHold_b174 K J fu F k174 k229 sh I R c1 c2 l0 l1 l2 l3 l4 l5 l7) : MW l K J 189 174 [some (.ref l0), some (.ref l1), some (.ref l2), some (.int l3), some (.int l4), some (.int l5), d6, some (.int l7)] [] sh I R (c1, c2) F := by
  unfold wL_setupsHold_b174 at h0
  refine mw_il (i := 7) (pc' := 176) (by decide +kernel) rfl ?_
  refine mw_rl (i := 2) (pc' := 177) (by decide +kernel) rfl ?_
  obtain ⟨q44, h1⟩ := h0
  obtain ⟨r45, h2⟩ := h1
  refine mwx_I (q := 133) (na := 1) (ce := 0) (sl := 0) (X := 1100) (Y := 6600) (as := [.ref l2]) (by decide +kernel) r45 rfl rfl (by rw [show mL 133 = 1 from by decide +kernel]; rfl) rfl (fun _ => rv_of q44 (by decide +kernel)) (fun z => absurd z (by decide +kernel)) (vwJx4a65c_size_8abf5 h2) (fun v46 t46 i46 j46 h3 => ?_); clear h2
  refine mw_if (ins := .if_icmp .ge 49) (t := 229) (pc' := 183) (by decide +kernel) rfl rfl rfl h3 (fun p4 h4 => ?_) (fun p4 h4 => ?_) <;> clear h3
  · exact hk229 h4
  · refine mw_rl (i := 0) (pc' := 184) (by decide +kernel) rfl ?_
    refine mw_il (i := 7) (pc' := 186) (by decide +kernel) rfl ?_
    refine mw_il (i := 4) (pc' := 188) (by decide +kernel) rfl ?_
    obtain ⟨r47, h5⟩ := h4
    refine hX10_change (X := 1100) (Y := 6600) (by decide +kernel) r47 rfl h5 (fun v48 r48 h6 => ?_); clear h5
    refine mw_rl (i := 1) (pc' := 192) (by decide +kernel) rfl ?_
    refine mw_il (i := 7) (pc' := 194) (by decide +kernel) rfl ?_
    refine mw_if (ins := .ifCond .ge 7) (t := 201) (pc' := 197) (by decide +kernel) rfl rfl rfl h6 (fun p7 h7 => ?_) (fun p7 h7 => ?_) <;> clear h6
    · refine mw_rl (i := 2) (pc' := 202) (by decide +kernel) rfl ?_
      refine mw_il (i := 7) (pc' := 204) (by decide +kernel) rfl ?_
      obtain ⟨q49, h8⟩ := h7
      obtain ⟨r50, h9⟩ := h8
      refine mwx_R (q := 135) (na := 2) (ce := 0) (sl := 0) (X := 1100) (Y := 6600) (as := [.int l7, .ref l2]) (by decide +kernel) r50 rfl rfl (by rw [show mL 135 = 2 from by decide +kernel]; rfl) rfl (fun _ => rv_of q49 (by decide +kernel)) (fun z => absurd z (by decide +kernel)) (vwJx4a65c_get_915e3 h9) (fun v51 t51 i51 j51 h10 => ?_); clear h9
      refine mw_cst (ix := 276) (v := 3) (by decide +kernel) h10 (fun h11 => ?_); clear h10
      obtain ⟨q52, h12⟩ := h11
      obtain ⟨r53, h13⟩ := h12
      refine mwx_I (q := 152) (na := 1) (ce := 0) (sl := 0) (X := 1100) (Y := 6600) (as := [.ref v51]) (by decide +kernel) r53 rfl rfl (by rw [show mL 152 = 1 from by decide +kernel]; rfl) rfl (fun _ => rv_of q52 (by decide +kernel)) (fun z => absurd z (by decide +kernel)) (vwJ6_intValue_8abf5 h13) (fun v54 t54 i54 j54 h14 => ?_); clear h13
      exact (vwL_setupsHold_b213 hk174 hk229) h14
    · refine mw_c (v := 0) (pc' := 198) (by decide +kernel) ?_
      refine mw_go (t := 213) (by decide +kernel) ?_
      exact (vwL_setupsHold_b213 hk174 hk229) h7
def wL_setupsHold_l174 (K J : Nat → Nat) (fu : Nat) (F : VF) (k229 : HS → HI → HR → Nat → Nat → Nat → Nat → Nat → Int32 → Int32 → Int32 → Prop) : Nat → HS → HI → HR → Nat → Nat → Nat → Nat → Nat → Int32 → Int32 → Int32 → Int32 → Prop
  | 0 => fun _ _ _ _ _ _ _ _ _ _ _ _ => False
  | n + 1 => wL_setupsHold_b174 K J fu F (wL_setupsHold_l174 K J fu F k229 n) k229
theorem vwL_setupsHold_l174 {l : Launch} {K J : Nat → Nat} {fu : Nat} {F : VF} {k229 : HS → HI → HR → Nat → Nat → Nat → Nat → Nat → Int32 → Int32 → Int32 → Prop} (hk229 : ∀ {sh : HS} {I : HI} {R : HR} {c1 : Nat} {c2 : Nat} {l0 : Nat} {l1 : Nat} {l2 : Nat} {l3 : Int32} {l4 : Int32} {l5 : Int32} {d6 d7 : Option Value}, k229 sh I R c1 c2 l0 l1 l2 l3 l4 l5 → MW l K J 189 229 [some (.ref l0), some (.ref l1), some (.ref l2), some (.int l3), some (.int l4), some (.int l5), d6, d7] [] sh I R (c1, c2) F) : ∀ (n : Nat) {sh : HS} {I : HI} {R : HR} {c1 : Nat} {c2 : Nat} {l0 : Nat} {l1 : Nat} {l2 : Nat} {l3 : Int32} {l4 : Int32} {l5 : Int32} {l7 : Int32} {d6 : Option Value} (_ : wL_setupsHold_l174 K J fu F k229 n sh I R c1 c2 l0 l1 l2 l3 l4 l5 l7), MW l K J 189 174 [some (.ref l0), some (.ref l1), some (.ref l2), some (.int l3), some (.int l4), some (.int l5), d6, some (.int l7)] [] sh I R (c1, c2) F := by
  intro n
  induction n with
  | zero => exact fun h0 => h0.elim
  | succ n ih => exact fun h0 => vwL_setupsHold_b174 ih hk229 h0
def wL_setupsHold_b254 (K J : Nat → Nat) (fu : Nat) (F : VF) (k14 : HS → HI → HR → Nat → Nat → Nat → Nat → Nat → Int32 → Int32 → Prop) (k124 : HS → HI → HR → Nat → Nat → Prop) (k267 : HS → HI → HR → Nat → Nat → Nat → Nat → Int32 → Prop) (sh : HS) (I : HI) (R : HR) (c1 : Nat) (c2 : Nat) (l0 : Nat) (l1 : Nat) (l2 : Nat) (l4 : Int32) (l5 : Int32) (s0 : Int32) (s1 : Nat) (s2 : Int32) : Prop :=
  rcvB sh s1 9 = true ∧
  (c1 ≤ 1100 ∧ c2 ≤ 6600) ∧
  wX11_change K J fu sh I R s1 s0 l5 (qwI fun v67 t67 i67 j67 =>
  k14 t67 i67 j67 c1 c2 l0 l1 l2 (s2 + v67) (l4 + 1))
theorem vwL_setupsHold_b254 {l : Launch} {K J : Nat → Nat} {fu : Nat} {F : VF} {k14 : HS → HI → HR → Nat → Nat → Nat → Nat → Nat → Int32 → Int32 → Prop} {k124 : HS → HI → HR → Nat → Nat → Prop} {k267 : HS → HI → HR → Nat → Nat → Nat → Nat → Int32 → Prop} (hk14 : ∀ {sh : HS} {I : HI} {R : HR} {c1 : Nat} {c2 : Nat} {l0 : Nat} {l1 : Nat} {l2 : Nat} {l3 : Int32} {l4 : Int32} {d5 d6 d7 : Option Value}, k14 sh I R c1 c2 l0 l1 l2 l3 l4 → MW l K J 189 14 [some (.ref l0), some (.ref l1), some (.ref l2), some (.int l3), some (.int l4), d5, d6, d7] [] sh I R (c1, c2) F) (hk124 : ∀ {sh : HS} {I : HI} {R : HR} {c1 : Nat} {c2 : Nat} {d0 d1 d2 d3 d4 d5 d6 d7 : Option Value}, k124 sh I R c1 c2 → MW l K J 189 124 [d0, d1, d2, d3, d4, d5, d6, d7] [] sh I R (c1, c2) F) (hk267 : ∀ {sh : HS} {I : HI} {R : HR} {c1 : Nat} {c2 : Nat} {l0 : Nat} {l2 : Nat} {l3 : Int32} {d1 d4 d5 d6 d7 : Option Value}, k267 sh I R c1 c2 l0 l2 l3 → MW l K J 189 267 [some (.ref l0), d1, some (.ref l2), some (.int l3), d4, d5, d6, d7] [] sh I R (c1, c2) F) {sh : HS} {I : HI} {R : HR} {c1 : Nat} {c2 : Nat} {l0 : Nat} {l1 : Nat} {l2 : Nat} {l4 : Int32} {l5 : Int32} {s0 : Int32} {s1 : Nat} {s2 : Int32} {d3 d6 d7 : Option Value} (h0 : wL_setupsHold_b254 K J fu F k14 k124 k267 sh I R c1 c2 l0 l1 l2 l4 l5 s0 s1 s2) : MW l K J 189 254 [some (.ref l0), some (.ref l1), some (.ref l2), d3, some (.int l4), some (.int l5), d6, d7] [.int s0, .ref s1, .int s2] sh I R (c1, c2) F := by
  unfold wL_setupsHold_b254 at h0
  refine mw_il (i := 5) (pc' := 256) (by decide +kernel) rfl ?_
  obtain ⟨q65, h1⟩ := h0
  obtain ⟨r66, h2⟩ := h1
  refine mwx_I (q := 128) (na := 3) (ce := 0) (sl := 0) (X := 1100) (Y := 6600) (as := [.int l5, .int s0, .ref s1]) (by decide +kernel) r66 rfl rfl (by rw [show mL 128 = 5 from by decide +kernel]; rfl) rfl (fun _ => rv_of q65 (by decide +kernel)) (fun z => absurd z (by decide +kernel)) (vwX11_change h2) (fun v67 t67 i67 j67 h3 => ?_); clear h2
  refine mw_a (ins := .iadd) (pc' := 260) (by decide +kernel) rfl ?_
  refine mw_is (i := 3) (pc' := 261) (L' := [some (.ref l0), some (.ref l1), some (.ref l2), some (.int (s2 + v67)), some (.int l4), some (.int l5), d6, d7]) (by decide +kernel) rfl rfl ?_
  refine mw_inc (i := 4) (z := 1) (pc' := 264) (L' := [some (.ref l0), some (.ref l1), some (.ref l2), some (.int (s2 + v67)), some (.int (l4 + 1)), some (.int l5), d6, d7]) (by decide +kernel) rfl rfl rfl ?_
  refine mw_go (t := 14) (by decide +kernel) ?_
  exact hk14 h3
def wL_setupsHold_b229 (K J : Nat → Nat) (fu : Nat) (F : VF) (k14 : HS → HI → HR → Nat → Nat → Nat → Nat → Nat → Int32 → Int32 → Prop) (k124 : HS → HI → HR → Nat → Nat → Prop) (k267 : HS → HI → HR → Nat → Nat → Nat → Nat → Int32 → Prop) (sh : HS) (I : HI) (R : HR) (c1 : Nat) (c2 : Nat) (l0 : Nat) (l1 : Nat) (l2 : Nat) (l3 : Int32) (l4 : Int32) (l5 : Int32) : Prop :=
  if l4 = 0 then
    ((wL_setupsHold_b254 K J fu F k14 k124 k267) sh I R c1 c2 l0 l1 l2 l4 l5 0 l1 l3)
  else
    (rcvB sh l2 10 = true ∧
    (c1 ≤ 1100 ∧ c2 ≤ 6600) ∧
    wJx4a65c_get_915e3 K J fu sh I R l2 (l4 - 1) (qwR fun v61 t61 i61 j61 =>
    wB (oKt t61 v61 3) fun _ =>
    rcvB t61 v61 12 = true ∧
    (c1 ≤ 1100 ∧ c2 ≤ 6600) ∧
    wJ6_intValue_8abf5 K J fu t61 i61 j61 v61 (qwI fun v64 t64 i64 j64 =>
    (wL_setupsHold_b254 K J fu F k14 k124 k267) t64 i64 j64 c1 c2 l0 l1 l2 l4 l5 v64 l1 l3)))
theorem vwL_setupsHold_b229 {l : Launch} {K J : Nat → Nat} {fu : Nat} {F : VF} {k14 : HS → HI → HR → Nat → Nat → Nat → Nat → Nat → Int32 → Int32 → Prop} {k124 : HS → HI → HR → Nat → Nat → Prop} {k267 : HS → HI → HR → Nat → Nat → Nat → Nat → Int32 → Prop} (hk14 : ∀ {sh : HS} {I : HI} {R : HR} {c1 : Nat} {c2 : Nat} {l0 : Nat} {l1 : Nat} {l2 : Nat} {l3 : Int32} {l4 : Int32} {d5 d6 d7 : Option Value}, k14 sh I R c1 c2 l0 l1 l2 l3 l4 → MW l K J 189 14 [some (.ref l0), some (.ref l1), some (.ref l2), some (.int l3), some (.int l4), d5, d6, d7] [] sh I R (c1, c2) F) (hk124 : ∀ {sh : HS} {I : HI} {R : HR} {c1 : Nat} {c2 : Nat} {d0 d1 d2 d3 d4 d5 d6 d7 : Option Value}, k124 sh I R c1 c2 → MW l K J 189 124 [d0, d1, d2, d3, d4, d5, d6, d7] [] sh I R (c1, c2) F) (hk267 : ∀ {sh : HS} {I : HI} {R : HR} {c1 : Nat} {c2 : Nat} {l0 : Nat} {l2 : Nat} {l3 : Int32} {d1 d4 d5 d6 d7 : Option Value}, k267 sh I R c1 c2 l0 l2 l3 → MW l K J 189 267 [some (.ref l0), d1, some (.ref l2), some (.int l3), d4, d5, d6, d7] [] sh I R (c1, c2) F) {sh : HS} {I : HI} {R : HR} {c1 : Nat} {c2 : Nat} {l0 : Nat} {l1 : Nat} {l2 : Nat} {l3 : Int32} {l4 : Int32} {l5 : Int32} {d6 d7 : Option Value} (h0 : wL_setupsHold_b229 K J fu F k14 k124 k267 sh I R c1 c2 l0 l1 l2 l3 l4 l5) : MW l K J 189 229 [some (.ref l0), some (.ref l1), some (.ref l2), some (.int l3), some (.int l4), some (.int l5), d6, d7] [] sh I R (c1, c2) F := by
  unfold wL_setupsHold_b229 at h0
  refine mw_il (i := 3) (pc' := 230) (by decide +kernel) rfl ?_
  refine mw_rl (i := 1) (pc' := 231) (by decide +kernel) rfl ?_
  refine mw_il (i := 4) (pc' := 233) (by decide +kernel) rfl ?_
  refine mw_ifn (ins := .ifCond .ne 7) (t := 240) (pc' := 236) (by decide +kernel) rfl rfl rfl h0 (fun p1 h1 => ?_) (fun p1 h1 => ?_) <;> clear h0
  · refine mw_rl (i := 2) (pc' := 241) (by decide +kernel) rfl ?_
    refine mw_il (i := 4) (pc' := 243) (by decide +kernel) rfl ?_
    refine mw_c (v := 1) (pc' := 244) (by decide +kernel) ?_
    refine mw_a (ins := .isub) (pc' := 245) (by decide +kernel) rfl ?_
    obtain ⟨q59, h2⟩ := h1
    obtain ⟨r60, h3⟩ := h2
    refine mwx_R (q := 135) (na := 2) (ce := 0) (sl := 0) (X := 1100) (Y := 6600) (as := [.int (l4 - 1), .ref l2]) (by decide +kernel) r60 rfl rfl (by rw [show mL 135 = 2 from by decide +kernel]; rfl) rfl (fun _ => rv_of q59 (by decide +kernel)) (fun z => absurd z (by decide +kernel)) (vwJx4a65c_get_915e3 h3) (fun v61 t61 i61 j61 h4 => ?_); clear h3
    refine mw_cst (ix := 276) (v := 3) (by decide +kernel) h4 (fun h5 => ?_); clear h4
    obtain ⟨q62, h6⟩ := h5
    obtain ⟨r63, h7⟩ := h6
    refine mwx_I (q := 152) (na := 1) (ce := 0) (sl := 0) (X := 1100) (Y := 6600) (as := [.ref v61]) (by decide +kernel) r63 rfl rfl (by rw [show mL 152 = 1 from by decide +kernel]; rfl) rfl (fun _ => rv_of q62 (by decide +kernel)) (fun z => absurd z (by decide +kernel)) (vwJ6_intValue_8abf5 h7) (fun v64 t64 i64 j64 h8 => ?_); clear h7
    exact (vwL_setupsHold_b254 hk14 hk124 hk267) h8
  · refine mw_c (v := 0) (pc' := 237) (by decide +kernel) ?_
    refine mw_go (t := 254) (by decide +kernel) ?_
    exact (vwL_setupsHold_b254 hk14 hk124 hk267) h1
def wL_setupsHold_b171 (K J : Nat → Nat) (fu : Nat) (F : VF) (k14 : HS → HI → HR → Nat → Nat → Nat → Nat → Nat → Int32 → Int32 → Prop) (k124 : HS → HI → HR → Nat → Nat → Prop) (k267 : HS → HI → HR → Nat → Nat → Nat → Nat → Int32 → Prop) (sh : HS) (I : HI) (R : HR) (c1 : Nat) (c2 : Nat) (l0 : Nat) (l1 : Nat) (l2 : Nat) (l3 : Int32) (l4 : Int32) (l5 : Int32) : Prop :=
  (wL_setupsHold_l174 K J fu F (wL_setupsHold_b229 K J fu F k14 k124 k267) fu) sh I R c1 c2 l0 l1 l2 l3 l4 l5 (-1)
theorem vwL_setupsHold_b171 {l : Launch} {K J : Nat → Nat} {fu : Nat} {F : VF} {k14 : HS → HI → HR → Nat → Nat → Nat → Nat → Nat → Int32 → Int32 → Prop} {k124 : HS → HI → HR → Nat → Nat → Prop} {k267 : HS → HI → HR → Nat → Nat → Nat → Nat → Int32 → Prop} (hk14 : ∀ {sh : HS} {I : HI} {R : HR} {c1 : Nat} {c2 : Nat} {l0 : Nat} {l1 : Nat} {l2 : Nat} {l3 : Int32} {l4 : Int32} {d5 d6 d7 : Option Value}, k14 sh I R c1 c2 l0 l1 l2 l3 l4 → MW l K J 189 14 [some (.ref l0), some (.ref l1), some (.ref l2), some (.int l3), some (.int l4), d5, d6, d7] [] sh I R (c1, c2) F) (hk124 : ∀ {sh : HS} {I : HI} {R : HR} {c1 : Nat} {c2 : Nat} {d0 d1 d2 d3 d4 d5 d6 d7 : Option Value}, k124 sh I R c1 c2 → MW l K J 189 124 [d0, d1, d2, d3, d4, d5, d6, d7] [] sh I R (c1, c2) F) (hk267 : ∀ {sh : HS} {I : HI} {R : HR} {c1 : Nat} {c2 : Nat} {l0 : Nat} {l2 : Nat} {l3 : Int32} {d1 d4 d5 d6 d7 : Option Value}, k267 sh I R c1 c2 l0 l2 l3 → MW l K J 189 267 [some (.ref l0), d1, some (.ref l2), some (.int l3), d4, d5, d6, d7] [] sh I R (c1, c2) F) {sh : HS} {I : HI} {R : HR} {c1 : Nat} {c2 : Nat} {l0 : Nat} {l1 : Nat} {l2 : Nat} {l3 : Int32} {l4 : Int32} {l5 : Int32} {d6 d7 : Option Value} (h0 : wL_setupsHold_b171 K J fu F k14 k124 k267 sh I R c1 c2 l0 l1 l2 l3 l4 l5) : MW l K J 189 171 [some (.ref l0), some (.ref l1), some (.ref l2), some (.int l3), some (.int l4), some (.int l5), d6, d7] [] sh I R (c1, c2) F := by
  unfold wL_setupsHold_b171 at h0
  refine mw_c (v := (-1)) (pc' := 172) (by decide +kernel) ?_
  refine mw_is (i := 7) (pc' := 174) (L' := [some (.ref l0), some (.ref l1), some (.ref l2), some (.int l3), some (.int l4), some (.int l5), d6, some (.int (-1))]) (by decide +kernel) rfl rfl ?_
  exact (vwL_setupsHold_l174 (vwL_setupsHold_b229 hk14 hk124 hk267) fu) h0
def wL_setupsHold_b14 (K J : Nat → Nat) (fu : Nat) (F : VF) (k14 : HS → HI → HR → Nat → Nat → Nat → Nat → Nat → Int32 → Int32 → Prop) (k124 : HS → HI → HR → Nat → Nat → Prop) (k267 : HS → HI → HR → Nat → Nat → Nat → Nat → Int32 → Prop) (sh : HS) (I : HI) (R : HR) (c1 : Nat) (c2 : Nat) (l0 : Nat) (l1 : Nat) (l2 : Nat) (l3 : Int32) (l4 : Int32) : Prop :=
  rcvB sh l2 10 = true ∧
  (c1 ≤ 1100 ∧ c2 ≤ 6600) ∧
  wJx4a65c_size_8abf5 K J fu sh I R l2 (qwI fun v7 t7 i7 j7 =>
  if v7 ≤ l4 then
    (k267 t7 i7 j7 c1 c2 l0 l2 l3)
  else
    (rcvB t7 l2 10 = true ∧
    (c1 ≤ 1100 ∧ c2 ≤ 6600) ∧
    wJx4a65c_get_915e3 K J fu t7 i7 j7 l2 l4 (qwR fun v10 t10 i10 j10 =>
    wB (oKt t10 v10 3) fun _ =>
    rcvB t10 v10 12 = true ∧
    (c1 ≤ 1100 ∧ c2 ≤ 6600) ∧
    wJ6_intValue_8abf5 K J fu t10 i10 j10 v10 (qwI fun v13 t13 i13 j13 =>
    (c1 ≤ 1100 ∧ c2 ≤ 6600) ∧
    wB (fJ6_numberOfTrailingZeros_0f7a4 fu t13 i13 j13 v13) fun v15 =>
    (c1 + 3 ≤ 1100 ∧ c2 + 18 ≤ 6600) ∧
    wB (fX10_setup fu t13 i13 j13 l0 l4 0) fun r17 => wS r17.1 fun v17 =>
    if v17 = v15 then
      (((c1 + 3) + 3 ≤ 1100 ∧ (c2 + 18) + 18 ≤ 6600) ∧
      wB (fX10_setup fu t13 r17.2 j13 l0 l4 1) fun r19 => wS r19.1 fun v19 =>
      if v19 = v13 then
        ((((c1 + 3) + 3) + 3 ≤ 1100 ∧ ((c2 + 18) + 18) + 18 ≤ 6600) ∧
        wB (fX10_setup fu t13 r19.2 j13 l0 l4 2) fun r21 => wS r21.1 fun v21 =>
        rcvB t13 l1 9 = true ∧
        ((((c1 + 3) + 3) + 3) ≤ 1100 ∧ (((c2 + 18) + 18) + 18) ≤ 6600) ∧
        wX11_actors K J fu t13 r21.2 j13 l1 v13 (qwI fun v24 t24 i24 j24 =>
        if v21 = v24 then
          (((((c1 + 3) + 3) + 3) + 3 ≤ 1100 ∧ (((c2 + 18) + 18) + 18) + 18 ≤ 6600) ∧
          wB (fX10_setup fu t24 i24 j24 l0 l4 3) fun r26 => wS r26.1 fun v26 =>
          rcvB t24 l1 9 = true ∧
          (((((c1 + 3) + 3) + 3) + 3) ≤ 1100 ∧ ((((c2 + 18) + 18) + 18) + 18) ≤ 6600) ∧
          wX11_length K J fu t24 r26.2 j24 l1 v13 (qwI fun v29 t29 i29 j29 =>
          if v26 = v29 then
            ((((((c1 + 3) + 3) + 3) + 3) + 3 ≤ 1100 ∧ ((((c2 + 18) + 18) + 18) + 18) + 18 ≤ 6600) ∧
            wB (fX10_setup fu t29 i29 j29 l0 l4 4) fun r31 => wS r31.1 fun v31 =>
            wB (oR t29 j29 l1 9 3) fun v32 =>
            rcvB t29 v32 10 = true ∧
            ((((((c1 + 3) + 3) + 3) + 3) + 3) ≤ 1100 ∧ (((((c2 + 18) + 18) + 18) + 18) + 18) ≤ 6600) ∧
            wJx4a65c_get_915e3 K J fu t29 r31.2 j29 v32 v15 (qwR fun v35 t35 i35 j35 =>
            wB (oKt t35 v35 1) fun _ =>
            wB (oA2 t35 i35 v35 0) fun v36 =>
            if v31 = v36 then
              ((wL_setupsHold_l129 K J fu F (wL_setupsHold_b171 K J fu F k14 k124 k267) fu) t35 i35 j35 (((((c1 + 3) + 3) + 3) + 3) + 3) (((((c2 + 18) + 18) + 18) + 18) + 18) l0 l1 l2 l3 l4 v13 0)
            else
              (k124 t35 i35 j35 (((((c1 + 3) + 3) + 3) + 3) + 3) (((((c2 + 18) + 18) + 18) + 18) + 18))))
          else
            (k124 t29 i29 j29 ((((c1 + 3) + 3) + 3) + 3) ((((c2 + 18) + 18) + 18) + 18))))
        else
          (k124 t24 i24 j24 (((c1 + 3) + 3) + 3) (((c2 + 18) + 18) + 18))))
      else
        (k124 t13 r19.2 j13 ((c1 + 3) + 3) ((c2 + 18) + 18)))
    else
      (k124 t13 r17.2 j13 (c1 + 3) (c2 + 18))))))
theorem vwL_setupsHold_b14 {l : Launch} {K J : Nat → Nat} {fu : Nat} {F : VF} {k14 : HS → HI → HR → Nat → Nat → Nat → Nat → Nat → Int32 → Int32 → Prop} {k124 : HS → HI → HR → Nat → Nat → Prop} {k267 : HS → HI → HR → Nat → Nat → Nat → Nat → Int32 → Prop} (hk14 : ∀ {sh : HS} {I : HI} {R : HR} {c1 : Nat} {c2 : Nat} {l0 : Nat} {l1 : Nat} {l2 : Nat} {l3 : Int32} {l4 : Int32} {d5 d6 d7 : Option Value}, k14 sh I R c1 c2 l0 l1 l2 l3 l4 → MW l K J 189 14 [some (.ref l0), some (.ref l1), some (.ref l2), some (.int l3), some (.int l4), d5, d6, d7] [] sh I R (c1, c2) F) (hk124 : ∀ {sh : HS} {I : HI} {R : HR} {c1 : Nat} {c2 : Nat} {d0 d1 d2 d3 d4 d5 d6 d7 : Option Value}, k124 sh I R c1 c2 → MW l K J 189 124 [d0, d1, d2, d3, d4, d5, d6, d7] [] sh I R (c1, c2) F) (hk267 : ∀ {sh : HS} {I : HI} {R : HR} {c1 : Nat} {c2 : Nat} {l0 : Nat} {l2 : Nat} {l3 : Int32} {d1 d4 d5 d6 d7 : Option Value}, k267 sh I R c1 c2 l0 l2 l3 → MW l K J 189 267 [some (.ref l0), d1, some (.ref l2), some (.int l3), d4, d5, d6, d7] [] sh I R (c1, c2) F) {sh : HS} {I : HI} {R : HR} {c1 : Nat} {c2 : Nat} {l0 : Nat} {l1 : Nat} {l2 : Nat} {l3 : Int32} {l4 : Int32} {d5 d6 d7 : Option Value} (h0 : wL_setupsHold_b14 K J fu F k14 k124 k267 sh I R c1 c2 l0 l1 l2 l3 l4) : MW l K J 189 14 [some (.ref l0), some (.ref l1), some (.ref l2), some (.int l3), some (.int l4), d5, d6, d7] [] sh I R (c1, c2) F := by
  unfold wL_setupsHold_b14 at h0
  refine mw_il (i := 4) (pc' := 16) (by decide +kernel) rfl ?_
  refine mw_rl (i := 2) (pc' := 17) (by decide +kernel) rfl ?_
  obtain ⟨q5, h1⟩ := h0
  obtain ⟨r6, h2⟩ := h1
  refine mwx_I (q := 133) (na := 1) (ce := 0) (sl := 0) (X := 1100) (Y := 6600) (as := [.ref l2]) (by decide +kernel) r6 rfl rfl (by rw [show mL 133 = 1 from by decide +kernel]; rfl) rfl (fun _ => rv_of q5 (by decide +kernel)) (fun z => absurd z (by decide +kernel)) (vwJx4a65c_size_8abf5 h2) (fun v7 t7 i7 j7 h3 => ?_); clear h2
  refine mw_if (ins := .if_icmp .ge 247) (t := 267) (pc' := 23) (by decide +kernel) rfl rfl rfl h3 (fun p4 h4 => ?_) (fun p4 h4 => ?_) <;> clear h3
  · exact hk267 h4
  · refine mw_rl (i := 2) (pc' := 24) (by decide +kernel) rfl ?_
    refine mw_il (i := 4) (pc' := 26) (by decide +kernel) rfl ?_
    obtain ⟨q8, h5⟩ := h4
    obtain ⟨r9, h6⟩ := h5
    refine mwx_R (q := 135) (na := 2) (ce := 0) (sl := 0) (X := 1100) (Y := 6600) (as := [.int l4, .ref l2]) (by decide +kernel) r9 rfl rfl (by rw [show mL 135 = 2 from by decide +kernel]; rfl) rfl (fun _ => rv_of q8 (by decide +kernel)) (fun z => absurd z (by decide +kernel)) (vwJx4a65c_get_915e3 h6) (fun v10 t10 i10 j10 h7 => ?_); clear h6
    refine mw_cst (ix := 276) (v := 3) (by decide +kernel) h7 (fun h8 => ?_); clear h7
    obtain ⟨q11, h9⟩ := h8
    obtain ⟨r12, h10⟩ := h9
    refine mwx_I (q := 152) (na := 1) (ce := 0) (sl := 0) (X := 1100) (Y := 6600) (as := [.ref v10]) (by decide +kernel) r12 rfl rfl (by rw [show mL 152 = 1 from by decide +kernel]; rfl) rfl (fun _ => rv_of q11 (by decide +kernel)) (fun z => absurd z (by decide +kernel)) (vwJ6_intValue_8abf5 h10) (fun v13 t13 i13 j13 h11 => ?_); clear h10
    refine mw_is (i := 5) (pc' := 37) (L' := [some (.ref l0), some (.ref l1), some (.ref l2), some (.int l3), some (.int l4), some (.int v13), d6, d7]) (by decide +kernel) rfl rfl ?_
    refine mw_il (i := 5) (pc' := 39) (by decide +kernel) rfl ?_
    obtain ⟨r14, h12⟩ := h11
    refine hJ6_numberOfTrailingZeros_0f7a4 (X := 1100) (Y := 6600) (by decide +kernel) r14 rfl h12 (fun v15 h13 => ?_); clear h12
    refine mw_is (i := 6) (pc' := 44) (L' := [some (.ref l0), some (.ref l1), some (.ref l2), some (.int l3), some (.int l4), some (.int v13), some (.int v15), d7]) (by decide +kernel) rfl rfl ?_
    refine mw_rl (i := 0) (pc' := 45) (by decide +kernel) rfl ?_
    refine mw_il (i := 4) (pc' := 47) (by decide +kernel) rfl ?_
    refine mw_c (v := 0) (pc' := 48) (by decide +kernel) ?_
    obtain ⟨r16, h14⟩ := h13
    refine hX10_setup (X := 1100) (Y := 6600) (by decide +kernel) r16 rfl h14 (fun v17 r17 h15 => ?_); clear h14
    refine mw_il (i := 6) (pc' := 53) (by decide +kernel) rfl ?_
    refine mw_ifn (ins := .if_icmp .ne 71) (t := 124) (pc' := 56) (by decide +kernel) rfl rfl rfl h15 (fun p16 h16 => ?_) (fun p16 h16 => ?_) <;> clear h15
    · exact hk124 h16
    · refine mw_rl (i := 0) (pc' := 57) (by decide +kernel) rfl ?_
      refine mw_il (i := 4) (pc' := 59) (by decide +kernel) rfl ?_
      refine mw_c (v := 1) (pc' := 60) (by decide +kernel) ?_
      obtain ⟨r18, h17⟩ := h16
      refine hX10_setup (X := 1100) (Y := 6600) (by decide +kernel) r18 rfl h17 (fun v19 r19 h18 => ?_); clear h17
      refine mw_il (i := 5) (pc' := 65) (by decide +kernel) rfl ?_
      refine mw_ifn (ins := .if_icmp .ne 59) (t := 124) (pc' := 68) (by decide +kernel) rfl rfl rfl h18 (fun p19 h19 => ?_) (fun p19 h19 => ?_) <;> clear h18
      · exact hk124 h19
      · refine mw_rl (i := 0) (pc' := 69) (by decide +kernel) rfl ?_
        refine mw_il (i := 4) (pc' := 71) (by decide +kernel) rfl ?_
        refine mw_c (v := 2) (pc' := 72) (by decide +kernel) ?_
        obtain ⟨r20, h20⟩ := h19
        refine hX10_setup (X := 1100) (Y := 6600) (by decide +kernel) r20 rfl h20 (fun v21 r21 h21 => ?_); clear h20
        refine mw_rl (i := 1) (pc' := 76) (by decide +kernel) rfl ?_
        refine mw_il (i := 5) (pc' := 78) (by decide +kernel) rfl ?_
        obtain ⟨q22, h22⟩ := h21
        obtain ⟨r23, h23⟩ := h22
        refine mwx_I (q := 126) (na := 2) (ce := 0) (sl := 0) (X := 1100) (Y := 6600) (as := [.int v13, .ref l1]) (by decide +kernel) r23 rfl rfl (by rw [show mL 126 = 4 from by decide +kernel]; rfl) rfl (fun _ => rv_of q22 (by decide +kernel)) (fun z => absurd z (by decide +kernel)) (vwX11_actors h23) (fun v24 t24 i24 j24 h24 => ?_); clear h23
        refine mw_ifn (ins := .if_icmp .ne 43) (t := 124) (pc' := 84) (by decide +kernel) rfl rfl rfl h24 (fun p25 h25 => ?_) (fun p25 h25 => ?_) <;> clear h24
        · exact hk124 h25
        · refine mw_rl (i := 0) (pc' := 85) (by decide +kernel) rfl ?_
          refine mw_il (i := 4) (pc' := 87) (by decide +kernel) rfl ?_
          refine mw_c (v := 3) (pc' := 88) (by decide +kernel) ?_
          obtain ⟨r25, h26⟩ := h25
          refine hX10_setup (X := 1100) (Y := 6600) (by decide +kernel) r25 rfl h26 (fun v26 r26 h27 => ?_); clear h26
          refine mw_rl (i := 1) (pc' := 92) (by decide +kernel) rfl ?_
          refine mw_il (i := 5) (pc' := 94) (by decide +kernel) rfl ?_
          obtain ⟨q27, h28⟩ := h27
          obtain ⟨r28, h29⟩ := h28
          refine mwx_I (q := 127) (na := 2) (ce := 0) (sl := 0) (X := 1100) (Y := 6600) (as := [.int v13, .ref l1]) (by decide +kernel) r28 rfl rfl (by rw [show mL 127 = 4 from by decide +kernel]; rfl) rfl (fun _ => rv_of q27 (by decide +kernel)) (fun z => absurd z (by decide +kernel)) (vwX11_length h29) (fun v29 t29 i29 j29 h30 => ?_); clear h29
          refine mw_ifn (ins := .if_icmp .ne 27) (t := 124) (pc' := 100) (by decide +kernel) rfl rfl rfl h30 (fun p31 h31 => ?_) (fun p31 h31 => ?_) <;> clear h30
          · exact hk124 h31
          · refine mw_rl (i := 0) (pc' := 101) (by decide +kernel) rfl ?_
            refine mw_il (i := 4) (pc' := 103) (by decide +kernel) rfl ?_
            refine mw_c (v := 4) (pc' := 104) (by decide +kernel) ?_
            obtain ⟨r30, h32⟩ := h31
            refine hX10_setup (X := 1100) (Y := 6600) (by decide +kernel) r30 rfl h32 (fun v31 r31 h33 => ?_); clear h32
            refine mw_rl (i := 1) (pc' := 108) (by decide +kernel) rfl ?_
            refine mw_fR (ix := 48) (t := 9) (j := 3) (md := 1) (by decide +kernel) h33 (fun v32 h34 => ?_); clear h33
            refine mw_il (i := 6) (pc' := 113) (by decide +kernel) rfl ?_
            obtain ⟨q33, h35⟩ := h34
            obtain ⟨r34, h36⟩ := h35
            refine mwx_R (q := 135) (na := 2) (ce := 0) (sl := 0) (X := 1100) (Y := 6600) (as := [.int v15, .ref v32]) (by decide +kernel) r34 rfl rfl (by rw [show mL 135 = 2 from by decide +kernel]; rfl) rfl (fun _ => rv_of q33 (by decide +kernel)) (fun z => absurd z (by decide +kernel)) (vwJx4a65c_get_915e3 h36) (fun v35 t35 i35 j35 h37 => ?_); clear h36
            refine mw_cst (ix := 97) (v := 1) (by decide +kernel) h37 (fun h38 => ?_); clear h37
            refine mw_c (v := 0) (pc' := 120) (by decide +kernel) ?_
            refine mw_al (by decide +kernel) h38 (fun v36 h39 => ?_); clear h38
            refine mw_if (ins := .if_icmp .eq 5) (t := 126) (pc' := 124) (by decide +kernel) rfl rfl rfl h39 (fun p40 h40 => ?_) (fun p40 h40 => ?_) <;> clear h39
            · refine mw_c (v := 0) (pc' := 127) (by decide +kernel) ?_
              refine mw_is (i := 7) (pc' := 129) (L' := [some (.ref l0), some (.ref l1), some (.ref l2), some (.int l3), some (.int l4), some (.int v13), some (.int v15), some (.int 0)]) (by decide +kernel) rfl rfl ?_
              exact (vwL_setupsHold_l129 (vwL_setupsHold_b171 hk14 hk124 hk267) fu) h40
            · exact hk124 h40
def wL_setupsHold_l14 (K J : Nat → Nat) (fu : Nat) (F : VF) (k124 : HS → HI → HR → Nat → Nat → Prop) (k267 : HS → HI → HR → Nat → Nat → Nat → Nat → Int32 → Prop) : Nat → HS → HI → HR → Nat → Nat → Nat → Nat → Nat → Int32 → Int32 → Prop
  | 0 => fun _ _ _ _ _ _ _ _ _ _ => False
  | n + 1 => wL_setupsHold_b14 K J fu F (wL_setupsHold_l14 K J fu F k124 k267 n) k124 k267
theorem vwL_setupsHold_l14 {l : Launch} {K J : Nat → Nat} {fu : Nat} {F : VF} {k124 : HS → HI → HR → Nat → Nat → Prop} {k267 : HS → HI → HR → Nat → Nat → Nat → Nat → Int32 → Prop} (hk124 : ∀ {sh : HS} {I : HI} {R : HR} {c1 : Nat} {c2 : Nat} {d0 d1 d2 d3 d4 d5 d6 d7 : Option Value}, k124 sh I R c1 c2 → MW l K J 189 124 [d0, d1, d2, d3, d4, d5, d6, d7] [] sh I R (c1, c2) F) (hk267 : ∀ {sh : HS} {I : HI} {R : HR} {c1 : Nat} {c2 : Nat} {l0 : Nat} {l2 : Nat} {l3 : Int32} {d1 d4 d5 d6 d7 : Option Value}, k267 sh I R c1 c2 l0 l2 l3 → MW l K J 189 267 [some (.ref l0), d1, some (.ref l2), some (.int l3), d4, d5, d6, d7] [] sh I R (c1, c2) F) : ∀ (n : Nat) {sh : HS} {I : HI} {R : HR} {c1 : Nat} {c2 : Nat} {l0 : Nat} {l1 : Nat} {l2 : Nat} {l3 : Int32} {l4 : Int32} {d5 d6 d7 : Option Value} (_ : wL_setupsHold_l14 K J fu F k124 k267 n sh I R c1 c2 l0 l1 l2 l3 l4), MW l K J 189 14 [some (.ref l0), some (.ref l1), some (.ref l2), some (.int l3), some (.int l4), d5, d6, d7] [] sh I R (c1, c2) F := by
  intro n
  induction n with
  | zero => exact fun h0 => h0.elim
  | succ n ih => exact fun h0 => vwL_setupsHold_b14 ih hk124 hk267 h0
def wL_setupsHold_b124 (K J : Nat → Nat) (fu : Nat) (F : VF) (sh : HS) (I : HI) (R : HR) (c1 : Nat) (c2 : Nat) : Prop :=
  (c1 ≤ 1100 ∧ c2 ≤ 6600) ∧
  F (.inl (some (.int 0))) sh I R
theorem vwL_setupsHold_b124 {l : Launch} {K J : Nat → Nat} {fu : Nat} {F : VF} {sh : HS} {I : HI} {R : HR} {c1 : Nat} {c2 : Nat} {d0 d1 d2 d3 d4 d5 d6 d7 : Option Value} (h0 : wL_setupsHold_b124 K J fu F sh I R c1 c2) : MW l K J 189 124 [d0, d1, d2, d3, d4, d5, d6, d7] [] sh I R (c1, c2) F := by
  unfold wL_setupsHold_b124 at h0
  refine mw_c (v := 0) (pc' := 125) (by decide +kernel) ?_
  obtain ⟨r68, h1⟩ := h0
  exact mw_rz (X := 1100) (Y := 6600) (by decide +kernel) (by decide) r68 h1
def wL_setupsHold_b291 (K J : Nat → Nat) (fu : Nat) (F : VF) (sh : HS) (I : HI) (R : HR) (c1 : Nat) (c2 : Nat) (s0 : Int32) : Prop :=
  (c1 ≤ 1100 ∧ c2 ≤ 6600) ∧
  (s0 = 0 ∨ s0 = 1) ∧ F (.inl (some (.int s0))) sh I R
theorem vwL_setupsHold_b291 {l : Launch} {K J : Nat → Nat} {fu : Nat} {F : VF} {sh : HS} {I : HI} {R : HR} {c1 : Nat} {c2 : Nat} {s0 : Int32} {d0 d1 d2 d3 d4 d5 d6 d7 : Option Value} (h0 : wL_setupsHold_b291 K J fu F sh I R c1 c2 s0) : MW l K J 189 291 [d0, d1, d2, d3, d4, d5, d6, d7] [.int s0] sh I R (c1, c2) F := by
  unfold wL_setupsHold_b291 at h0
  obtain ⟨r74, h1⟩ := h0
  exact mw_rz (X := 1100) (Y := 6600) (by decide +kernel) h1.1 r74 h1.2
def wL_setupsHold_b290 (K J : Nat → Nat) (fu : Nat) (F : VF) (sh : HS) (I : HI) (R : HR) (c1 : Nat) (c2 : Nat) : Prop :=
  (wL_setupsHold_b291 K J fu F) sh I R c1 c2 0
theorem vwL_setupsHold_b290 {l : Launch} {K J : Nat → Nat} {fu : Nat} {F : VF} {sh : HS} {I : HI} {R : HR} {c1 : Nat} {c2 : Nat} {d0 d1 d2 d3 d4 d5 d6 d7 : Option Value} (h0 : wL_setupsHold_b290 K J fu F sh I R c1 c2) : MW l K J 189 290 [d0, d1, d2, d3, d4, d5, d6, d7] [] sh I R (c1, c2) F := by
  unfold wL_setupsHold_b290 at h0
  refine mw_c (v := 0) (pc' := 291) (by decide +kernel) ?_
  exact (vwL_setupsHold_b291) h0
def wL_setupsHold_b267 (K J : Nat → Nat) (fu : Nat) (F : VF) (sh : HS) (I : HI) (R : HR) (c1 : Nat) (c2 : Nat) (l0 : Nat) (l2 : Nat) (l3 : Int32) : Prop :=
  (c1 + 1 ≤ 1100 ∧ c2 + 6 ≤ 6600) ∧
  wB (fX10_setups fu sh I R l0) fun r70 => wS r70.1 fun v70 =>
  rcvB sh l2 10 = true ∧
  ((c1 + 1) ≤ 1100 ∧ (c2 + 6) ≤ 6600) ∧
  wJx4a65c_size_8abf5 K J fu sh r70.2 R l2 (qwI fun v73 t73 i73 j73 =>
  if v70 = v73 then
    (((c1 + 1) + 1 ≤ 1100 ∧ (c2 + 6) + 6 ≤ 6600) ∧
    wB (fX10_plainCost fu t73 i73 j73 l0) fun r76 => wS r76.1 fun v76 =>
    if v76 = l3 then
      ((wL_setupsHold_b291 K J fu F) t73 r76.2 j73 ((c1 + 1) + 1) ((c2 + 6) + 6) 1)
    else
      ((wL_setupsHold_b290 K J fu F) t73 r76.2 j73 ((c1 + 1) + 1) ((c2 + 6) + 6)))
  else
    ((wL_setupsHold_b290 K J fu F) t73 i73 j73 (c1 + 1) (c2 + 6)))
theorem vwL_setupsHold_b267 {l : Launch} {K J : Nat → Nat} {fu : Nat} {F : VF} {sh : HS} {I : HI} {R : HR} {c1 : Nat} {c2 : Nat} {l0 : Nat} {l2 : Nat} {l3 : Int32} {d1 d4 d5 d6 d7 : Option Value} (h0 : wL_setupsHold_b267 K J fu F sh I R c1 c2 l0 l2 l3) : MW l K J 189 267 [some (.ref l0), d1, some (.ref l2), some (.int l3), d4, d5, d6, d7] [] sh I R (c1, c2) F := by
  unfold wL_setupsHold_b267 at h0
  refine mw_rl (i := 0) (pc' := 268) (by decide +kernel) rfl ?_
  obtain ⟨r69, h1⟩ := h0
  refine hX10_setups (X := 1100) (Y := 6600) (by decide +kernel) r69 rfl h1 (fun v70 r70 h2 => ?_); clear h1
  refine mw_rl (i := 2) (pc' := 272) (by decide +kernel) rfl ?_
  obtain ⟨q71, h3⟩ := h2
  obtain ⟨r72, h4⟩ := h3
  refine mwx_I (q := 133) (na := 1) (ce := 0) (sl := 0) (X := 1100) (Y := 6600) (as := [.ref l2]) (by decide +kernel) r72 rfl rfl (by rw [show mL 133 = 1 from by decide +kernel]; rfl) rfl (fun _ => rv_of q71 (by decide +kernel)) (fun z => absurd z (by decide +kernel)) (vwJx4a65c_size_8abf5 h4) (fun v73 t73 i73 j73 h5 => ?_); clear h4
  refine mw_ifn (ins := .if_icmp .ne 15) (t := 290) (pc' := 278) (by decide +kernel) rfl rfl rfl h5 (fun p6 h6 => ?_) (fun p6 h6 => ?_) <;> clear h5
  · exact (vwL_setupsHold_b290) h6
  · refine mw_rl (i := 0) (pc' := 279) (by decide +kernel) rfl ?_
    obtain ⟨r75, h7⟩ := h6
    refine hX10_plainCost (X := 1100) (Y := 6600) (by decide +kernel) r75 rfl h7 (fun v76 r76 h8 => ?_); clear h7
    refine mw_il (i := 3) (pc' := 283) (by decide +kernel) rfl ?_
    refine mw_ifn (ins := .if_icmp .ne 7) (t := 290) (pc' := 286) (by decide +kernel) rfl rfl rfl h8 (fun p9 h9 => ?_) (fun p9 h9 => ?_) <;> clear h8
    · exact (vwL_setupsHold_b290) h9
    · refine mw_c (v := 1) (pc' := 287) (by decide +kernel) ?_
      refine mw_go (t := 291) (by decide +kernel) ?_
      exact (vwL_setupsHold_b291) h9
def wL_setupsHold (K J : Nat → Nat) (fu : Nat) (sh : HS) (I : HI) (R : HR) (l0 : Nat) (l1 : Nat) (F : VF) : Prop :=
  wB (oI sh I l1 9 0) fun v1 =>
  rcvB sh l1 9 = true ∧
  (0 + 40 ≤ 1100 ∧ 0 + 450 ≤ 6600) ∧
  wX11_setups K J fu sh I R l1 v1 (qwR fun v4 t4 i4 j4 =>
  (wL_setupsHold_l14 K J fu F (wL_setupsHold_b124 K J fu F) (wL_setupsHold_b267 K J fu F) fu) t4 i4 j4 (0 + 40) (0 + 450) l0 l1 v4 0 0)
theorem vwL_setupsHold {l : Launch} {K J : Nat → Nat} {fu : Nat} {sh : HS} {I : HI} {R : HR} {l0 : Nat} {l1 : Nat} {F : VF} (h0 : wL_setupsHold K J fu sh I R l0 l1 F) : MW l K J 189 0 (ent (mL 189) [.ref l0, .ref l1]) [] sh I R (0, 0) F := by
  unfold wL_setupsHold at h0
  have ml : mL 189 = 8 := by decide +kernel
  rw [ml]
  show MW l K J 189 0 [some (.ref l0), some (.ref l1), none, none, none, none, none, none] [] sh I R (0, 0) F
  refine mw_rl (i := 1) (pc' := 1) (by decide +kernel) rfl ?_
  refine mw_rl (i := 1) (pc' := 2) (by decide +kernel) rfl ?_
  refine mw_fI (ix := 17) (t := 9) (j := 0) (ty := 0) (md := 1) (by decide +kernel) (by decide) h0 (fun v1 h1 => ?_); clear h0
  obtain ⟨q2, h2⟩ := h1
  obtain ⟨r3, h3⟩ := h2
  refine mwx_R (q := 125) (na := 2) (ce := 40) (sl := 450) (X := 1100) (Y := 6600) (as := [.int v1, .ref l1]) (by decide +kernel) r3 rfl rfl (by rw [show mL 125 = 5 from by decide +kernel]; rfl) rfl (fun _ => rv_of q2 (by decide +kernel)) (fun z => absurd z (by decide +kernel)) (vwX11_setups h3) (fun v4 t4 i4 j4 h4 => ?_); clear h3
  refine mw_rs (i := 2) (pc' := 9) (L' := [some (.ref l0), some (.ref l1), some (.ref v4), none, none, none, none, none]) (by decide +kernel) rfl rfl ?_
  refine mw_c (v := 0) (pc' := 10) (by decide +kernel) ?_
  refine mw_is (i := 3) (pc' := 11) (L' := [some (.ref l0), some (.ref l1), some (.ref v4), some (.int 0), none, none, none, none]) (by decide +kernel) rfl rfl ?_
  refine mw_c (v := 0) (pc' := 12) (by decide +kernel) ?_
  refine mw_is (i := 4) (pc' := 14) (L' := [some (.ref l0), some (.ref l1), some (.ref v4), some (.int 0), some (.int 0), none, none, none]) (by decide +kernel) rfl rfl ?_
  exact (vwL_setupsHold_l14 (vwL_setupsHold_b124) (vwL_setupsHold_b267) fu) h4
