theorem sw_out8 {x : Int32} (h0 : ¬ x = 0) (h1 : ¬ x = 1) (h2 : ¬ x = 2) (h3 : ¬ x = 3) (h4 : ¬ x = 4) (h5 : ¬ x = 5) (h6 : ¬ x = 6) (h7 : ¬ x = 7) : x.toInt < 0 ∨ (8 : Int) ≤ x.toInt := by
  have a0 : ¬ x.toInt = 0 := ne_toInt h0
  have a1 : ¬ x.toInt = 1 := ne_toInt h1
  have a2 : ¬ x.toInt = 2 := ne_toInt h2
  have a3 : ¬ x.toInt = 3 := ne_toInt h3
  have a4 : ¬ x.toInt = 4 := ne_toInt h4
  have a5 : ¬ x.toInt = 5 := ne_toInt h5
  have a6 : ¬ x.toInt = 6 := ne_toInt h6
  have a7 : ¬ x.toInt = 7 := ne_toInt h7
  omega
/- ('L', 'acts') -/
def wL_acts_b207 (K J : Nat → Nat) (fu : Nat) (F : VF) (sh : HS) (I : HI) (R : HR) (c1 : Nat) (c2 : Nat) (s0 : Int32) : Prop :=
  (c1 ≤ 100 ∧ c2 ≤ 3000) ∧
  (s0 = 0 ∨ s0 = 1) ∧ F (.inl (some (.int s0))) sh I R
theorem vwL_acts_b207 {l : Launch} {K J : Nat → Nat} {fu : Nat} {F : VF} {sh : HS} {I : HI} {R : HR} {c1 : Nat} {c2 : Nat} {s0 : Int32} {d0 d1 d2 d3 d4 d5 d6 d7 d8 d9 d10 d11 d12 : Option Value} (h0 : wL_acts_b207 K J fu F sh I R c1 c2 s0) : MW l K J 180 207 [d0, d1, d2, d3, d4, d5, d6, d7, d8, d9, d10, d11, d12] [.int s0] sh I R (c1, c2) F := by
  unfold wL_acts_b207 at h0
  obtain ⟨r37, h1⟩ := h0
  exact mw_rz (X := 100) (Y := 3000) (by decide +kernel) h1.1 r37 h1.2
def wL_acts_b253 (K J : Nat → Nat) (fu : Nat) (F : VF) (sh : HS) (I : HI) (R : HR) (c1 : Nat) (c2 : Nat) (s0 : Int32) : Prop :=
  (c1 ≤ 100 ∧ c2 ≤ 3000) ∧
  (s0 = 0 ∨ s0 = 1) ∧ F (.inl (some (.int s0))) sh I R
theorem vwL_acts_b253 {l : Launch} {K J : Nat → Nat} {fu : Nat} {F : VF} {sh : HS} {I : HI} {R : HR} {c1 : Nat} {c2 : Nat} {s0 : Int32} {d0 d1 d2 d3 d4 d5 d6 d7 d8 d9 d10 d11 d12 : Option Value} (h0 : wL_acts_b253 K J fu F sh I R c1 c2 s0) : MW l K J 180 253 [d0, d1, d2, d3, d4, d5, d6, d7, d8, d9, d10, d11, d12] [.int s0] sh I R (c1, c2) F := by
  unfold wL_acts_b253 at h0
  obtain ⟨r48, h1⟩ := h0
  exact mw_rz (X := 100) (Y := 3000) (by decide +kernel) h1.1 r48 h1.2
def wL_acts_b344 (K J : Nat → Nat) (fu : Nat) (F : VF) (k263 : HS → HI → HR → Nat → Nat → Nat → Nat → Int32 → Int32 → Int32 → Int32 → Nat → Prop) (k321 : HS → HI → HR → Nat → Nat → Nat → Int32 → Int32 → Int32 → Int32 → Prop) (k347 : HS → HI → HR → Nat → Nat → Nat → Nat → Int32 → Int32 → Int32 → Int32 → Prop) (sh : HS) (I : HI) (R : HR) (c1 : Nat) (c2 : Nat) (l0 : Nat) (l1 : Nat) (l5 : Int32) (l6 : Int32) (l7 : Int32) (l8 : Int32) (l11 : Nat) : Prop :=
  k263 sh I R c1 c2 l0 l1 l5 l6 l7 l8 l11
theorem vwL_acts_b344 {l : Launch} {K J : Nat → Nat} {fu : Nat} {F : VF} {k263 : HS → HI → HR → Nat → Nat → Nat → Nat → Int32 → Int32 → Int32 → Int32 → Nat → Prop} {k321 : HS → HI → HR → Nat → Nat → Nat → Int32 → Int32 → Int32 → Int32 → Prop} {k347 : HS → HI → HR → Nat → Nat → Nat → Nat → Int32 → Int32 → Int32 → Int32 → Prop} (hk263 : ∀ {sh : HS} {I : HI} {R : HR} {c1 : Nat} {c2 : Nat} {l0 : Nat} {l1 : Nat} {l5 : Int32} {l6 : Int32} {l7 : Int32} {l8 : Int32} {l11 : Nat} {d2 d3 d4 d9 d10 d12 : Option Value}, k263 sh I R c1 c2 l0 l1 l5 l6 l7 l8 l11 → MW l K J 180 263 [some (.ref l0), some (.ref l1), d2, d3, d4, some (.int l5), some (.int l6), some (.int l7), some (.int l8), d9, d10, some (.ref l11), d12] [] sh I R (c1, c2) F) (hk321 : ∀ {sh : HS} {I : HI} {R : HR} {c1 : Nat} {c2 : Nat} {l0 : Nat} {l5 : Int32} {l6 : Int32} {l7 : Int32} {l8 : Int32} {d1 d2 d3 d4 d9 d10 d11 d12 : Option Value}, k321 sh I R c1 c2 l0 l5 l6 l7 l8 → MW l K J 180 321 [some (.ref l0), d1, d2, d3, d4, some (.int l5), some (.int l6), some (.int l7), some (.int l8), d9, d10, d11, d12] [] sh I R (c1, c2) F) (hk347 : ∀ {sh : HS} {I : HI} {R : HR} {c1 : Nat} {c2 : Nat} {l0 : Nat} {l1 : Nat} {l5 : Int32} {l6 : Int32} {l7 : Int32} {l8 : Int32} {d2 d3 d4 d9 d10 d11 d12 : Option Value}, k347 sh I R c1 c2 l0 l1 l5 l6 l7 l8 → MW l K J 180 347 [some (.ref l0), some (.ref l1), d2, d3, d4, some (.int l5), some (.int l6), some (.int l7), some (.int l8), d9, d10, d11, d12] [] sh I R (c1, c2) F) {sh : HS} {I : HI} {R : HR} {c1 : Nat} {c2 : Nat} {l0 : Nat} {l1 : Nat} {l5 : Int32} {l6 : Int32} {l7 : Int32} {l8 : Int32} {l11 : Nat} {d2 d3 d4 d9 d10 d12 : Option Value} (h0 : wL_acts_b344 K J fu F k263 k321 k347 sh I R c1 c2 l0 l1 l5 l6 l7 l8 l11) : MW l K J 180 344 [some (.ref l0), some (.ref l1), d2, d3, d4, some (.int l5), some (.int l6), some (.int l7), some (.int l8), d9, d10, some (.ref l11), d12] [] sh I R (c1, c2) F := by
  unfold wL_acts_b344 at h0
  refine mw_go (t := 263) (by decide +kernel) ?_
  exact hk263 h0
def wL_acts_b263 (K J : Nat → Nat) (fu : Nat) (F : VF) (k263 : HS → HI → HR → Nat → Nat → Nat → Nat → Int32 → Int32 → Int32 → Int32 → Nat → Prop) (k321 : HS → HI → HR → Nat → Nat → Nat → Int32 → Int32 → Int32 → Int32 → Prop) (k347 : HS → HI → HR → Nat → Nat → Nat → Nat → Int32 → Int32 → Int32 → Int32 → Prop) (sh : HS) (I : HI) (R : HR) (c1 : Nat) (c2 : Nat) (l0 : Nat) (l1 : Nat) (l5 : Int32) (l6 : Int32) (l7 : Int32) (l8 : Int32) (l11 : Nat) : Prop :=
  isT sh l11 11 = true ∧
  (c1 ≤ 100 ∧ c2 ≤ 3000) ∧
  wJx35411_hasNext_aae02 K J fu sh I R l11 (qwI fun v55 t55 i55 j55 =>
  if v55 = 0 then
    (k347 t55 i55 j55 c1 c2 l0 l1 l5 l6 l7 l8)
  else
    (isT t55 l11 11 = true ∧
    (c1 ≤ 100 ∧ c2 ≤ 3000) ∧
    wJx35411_next_0502b K J fu t55 i55 j55 l11 (qwR fun v58 t58 i58 j58 =>
    wB (oKt t58 v58 1) fun _ =>
    wB (oA2 t58 i58 v58 0) fun v59 =>
    if v59 = l5 then
      (wB (oA2 t58 i58 v58 3) fun v60 =>
      if v60 = l6 then
        (wB (oA2 t58 i58 v58 1) fun v61 =>
        if v61 = l7 then
          (wB (oA2 t58 i58 v58 2) fun v62 =>
          if v62 = l8 then
            (k321 t58 i58 j58 c1 c2 l0 l5 l6 l7 l8)
          else
            ((wL_acts_b344 K J fu F k263 k321 k347) t58 i58 j58 c1 c2 l0 l1 l5 l6 l7 l8 l11))
        else
          ((wL_acts_b344 K J fu F k263 k321 k347) t58 i58 j58 c1 c2 l0 l1 l5 l6 l7 l8 l11))
      else
        ((wL_acts_b344 K J fu F k263 k321 k347) t58 i58 j58 c1 c2 l0 l1 l5 l6 l7 l8 l11))
    else
      ((wL_acts_b344 K J fu F k263 k321 k347) t58 i58 j58 c1 c2 l0 l1 l5 l6 l7 l8 l11))))
theorem vwL_acts_b263 {l : Launch} {K J : Nat → Nat} {fu : Nat} {F : VF} {k263 : HS → HI → HR → Nat → Nat → Nat → Nat → Int32 → Int32 → Int32 → Int32 → Nat → Prop} {k321 : HS → HI → HR → Nat → Nat → Nat → Int32 → Int32 → Int32 → Int32 → Prop} {k347 : HS → HI → HR → Nat → Nat → Nat → Nat → Int32 → Int32 → Int32 → Int32 → Prop} (hk263 : ∀ {sh : HS} {I : HI} {R : HR} {c1 : Nat} {c2 : Nat} {l0 : Nat} {l1 : Nat} {l5 : Int32} {l6 : Int32} {l7 : Int32} {l8 : Int32} {l11 : Nat} {d2 d3 d4 d9 d10 d12 : Option Value}, k263 sh I R c1 c2 l0 l1 l5 l6 l7 l8 l11 → MW l K J 180 263 [some (.ref l0), some (.ref l1), d2, d3, d4, some (.int l5), some (.int l6), some (.int l7), some (.int l8), d9, d10, some (.ref l11), d12] [] sh I R (c1, c2) F) (hk321 : ∀ {sh : HS} {I : HI} {R : HR} {c1 : Nat} {c2 : Nat} {l0 : Nat} {l5 : Int32} {l6 : Int32} {l7 : Int32} {l8 : Int32} {d1 d2 d3 d4 d9 d10 d11 d12 : Option Value}, k321 sh I R c1 c2 l0 l5 l6 l7 l8 → MW l K J 180 321 [some (.ref l0), d1, d2, d3, d4, some (.int l5), some (.int l6), some (.int l7), some (.int l8), d9, d10, d11, d12] [] sh I R (c1, c2) F) (hk347 : ∀ {sh : HS} {I : HI} {R : HR} {c1 : Nat} {c2 : Nat} {l0 : Nat} {l1 : Nat} {l5 : Int32} {l6 : Int32} {l7 : Int32} {l8 : Int32} {d2 d3 d4 d9 d10 d11 d12 : Option Value}, k347 sh I R c1 c2 l0 l1 l5 l6 l7 l8 → MW l K J 180 347 [some (.ref l0), some (.ref l1), d2, d3, d4, some (.int l5), some (.int l6), some (.int l7), some (.int l8), d9, d10, d11, d12] [] sh I R (c1, c2) F) {sh : HS} {I : HI} {R : HR} {c1 : Nat} {c2 : Nat} {l0 : Nat} {l1 : Nat} {l5 : Int32} {l6 : Int32} {l7 : Int32} {l8 : Int32} {l11 : Nat} {d2 d3 d4 d9 d10 d12 : Option Value} (h0 : wL_acts_b263 K J fu F k263 k321 k347 sh I R c1 c2 l0 l1 l5 l6 l7 l8 l11) : MW l K J 180 263 [some (.ref l0), some (.ref l1), d2, d3, d4, some (.int l5), some (.int l6), some (.int l7), some (.int l8), d9, d10, some (.ref l11), d12] [] sh I R (c1, c2) F := by
  unfold wL_acts_b263 at h0
  refine mw_rl (i := 11) (pc' := 265) (by decide +kernel) rfl ?_
  obtain ⟨q53, h1⟩ := h0
  obtain ⟨r54, h2⟩ := h1
  refine mwx_IF (ix := 114) (cnt := 1) (q := 145) (ce := 0) (sl := 0) (X := 100) (Y := 3000) (by decide +kernel) r54 rfl q53 (vwJx35411_hasNext_aae02 h2) (fun _ _ _ g => by obtain ⟨_, e9, -⟩ := g; cases e9) (fun v9 t55 i55 j55 g => ?_) (fun _ _ _ _ g => by obtain ⟨_, e9, -⟩ := g; cases e9)
  obtain ⟨v55, e9, h3⟩ := g; cases e9; clear h2
  refine mw_if (ins := .ifCond .eq 77) (t := 347) (pc' := 273) (by decide +kernel) rfl rfl rfl h3 (fun p4 h4 => ?_) (fun p4 h4 => ?_) <;> clear h3
  · exact hk347 h4
  · refine mw_rl (i := 11) (pc' := 275) (by decide +kernel) rfl ?_
    obtain ⟨q56, h5⟩ := h4
    obtain ⟨r57, h6⟩ := h5
    refine mwx_IF (ix := 120) (cnt := 1) (q := 146) (ce := 0) (sl := 0) (X := 100) (Y := 3000) (by decide +kernel) r57 rfl q56 (vwJx35411_next_0502b h6) (fun _ _ _ g => by obtain ⟨_, e9, -⟩ := g; cases e9) (fun v9 t58 i58 j58 g => ?_) (fun _ _ _ _ g => by obtain ⟨_, e9, -⟩ := g; cases e9)
    obtain ⟨v58, e9, h7⟩ := g; cases e9; clear h6
    refine mw_cst (ix := 97) (v := 1) (by decide +kernel) h7 (fun h8 => ?_); clear h7
    refine mw_rs (i := 12) (pc' := 285) (L' := [some (.ref l0), some (.ref l1), d2, d3, d4, some (.int l5), some (.int l6), some (.int l7), some (.int l8), d9, d10, some (.ref l11), some (.ref v58)]) (by decide +kernel) rfl rfl ?_
    refine mw_rl (i := 12) (pc' := 287) (by decide +kernel) rfl ?_
    refine mw_c (v := 0) (pc' := 288) (by decide +kernel) ?_
    refine mw_al (by decide +kernel) h8 (fun v59 h9 => ?_); clear h8
    refine mw_il (i := 5) (pc' := 291) (by decide +kernel) rfl ?_
    refine mw_ifn (ins := .if_icmp .ne 53) (t := 344) (pc' := 294) (by decide +kernel) rfl rfl rfl h9 (fun p10 h10 => ?_) (fun p10 h10 => ?_) <;> clear h9
    · exact (vwL_acts_b344 hk263 hk321 hk347) h10
    · refine mw_rl (i := 12) (pc' := 296) (by decide +kernel) rfl ?_
      refine mw_c (v := 3) (pc' := 297) (by decide +kernel) ?_
      refine mw_al (by decide +kernel) h10 (fun v60 h11 => ?_); clear h10
      refine mw_il (i := 6) (pc' := 300) (by decide +kernel) rfl ?_
      refine mw_ifn (ins := .if_icmp .ne 44) (t := 344) (pc' := 303) (by decide +kernel) rfl rfl rfl h11 (fun p12 h12 => ?_) (fun p12 h12 => ?_) <;> clear h11
      · exact (vwL_acts_b344 hk263 hk321 hk347) h12
      · refine mw_rl (i := 12) (pc' := 305) (by decide +kernel) rfl ?_
        refine mw_c (v := 1) (pc' := 306) (by decide +kernel) ?_
        refine mw_al (by decide +kernel) h12 (fun v61 h13 => ?_); clear h12
        refine mw_il (i := 7) (pc' := 309) (by decide +kernel) rfl ?_
        refine mw_ifn (ins := .if_icmp .ne 35) (t := 344) (pc' := 312) (by decide +kernel) rfl rfl rfl h13 (fun p14 h14 => ?_) (fun p14 h14 => ?_) <;> clear h13
        · exact (vwL_acts_b344 hk263 hk321 hk347) h14
        · refine mw_rl (i := 12) (pc' := 314) (by decide +kernel) rfl ?_
          refine mw_c (v := 2) (pc' := 315) (by decide +kernel) ?_
          refine mw_al (by decide +kernel) h14 (fun v62 h15 => ?_); clear h14
          refine mw_il (i := 8) (pc' := 318) (by decide +kernel) rfl ?_
          refine mw_ifn (ins := .if_icmp .ne 26) (t := 344) (pc' := 321) (by decide +kernel) rfl rfl rfl h15 (fun p16 h16 => ?_) (fun p16 h16 => ?_) <;> clear h15
          · exact (vwL_acts_b344 hk263 hk321 hk347) h16
          · exact hk321 h16
def wL_acts_l263 (K J : Nat → Nat) (fu : Nat) (F : VF) (k321 : HS → HI → HR → Nat → Nat → Nat → Int32 → Int32 → Int32 → Int32 → Prop) (k347 : HS → HI → HR → Nat → Nat → Nat → Nat → Int32 → Int32 → Int32 → Int32 → Prop) : Nat → HS → HI → HR → Nat → Nat → Nat → Nat → Int32 → Int32 → Int32 → Int32 → Nat → Prop
  | 0 => fun _ _ _ _ _ _ _ _ _ _ _ _ => False
  | n + 1 => wL_acts_b263 K J fu F (wL_acts_l263 K J fu F k321 k347 n) k321 k347
theorem vwL_acts_l263 {l : Launch} {K J : Nat → Nat} {fu : Nat} {F : VF} {k321 : HS → HI → HR → Nat → Nat → Nat → Int32 → Int32 → Int32 → Int32 → Prop} {k347 : HS → HI → HR → Nat → Nat → Nat → Nat → Int32 → Int32 → Int32 → Int32 → Prop} (hk321 : ∀ {sh : HS} {I : HI} {R : HR} {c1 : Nat} {c2 : Nat} {l0 : Nat} {l5 : Int32} {l6 : Int32} {l7 : Int32} {l8 : Int32} {d1 d2 d3 d4 d9 d10 d11 d12 : Option Value}, k321 sh I R c1 c2 l0 l5 l6 l7 l8 → MW l K J 180 321 [some (.ref l0), d1, d2, d3, d4, some (.int l5), some (.int l6), some (.int l7), some (.int l8), d9, d10, d11, d12] [] sh I R (c1, c2) F) (hk347 : ∀ {sh : HS} {I : HI} {R : HR} {c1 : Nat} {c2 : Nat} {l0 : Nat} {l1 : Nat} {l5 : Int32} {l6 : Int32} {l7 : Int32} {l8 : Int32} {d2 d3 d4 d9 d10 d11 d12 : Option Value}, k347 sh I R c1 c2 l0 l1 l5 l6 l7 l8 → MW l K J 180 347 [some (.ref l0), some (.ref l1), d2, d3, d4, some (.int l5), some (.int l6), some (.int l7), some (.int l8), d9, d10, d11, d12] [] sh I R (c1, c2) F) : ∀ (n : Nat) {sh : HS} {I : HI} {R : HR} {c1 : Nat} {c2 : Nat} {l0 : Nat} {l1 : Nat} {l5 : Int32} {l6 : Int32} {l7 : Int32} {l8 : Int32} {l11 : Nat} {d2 d3 d4 d9 d10 d12 : Option Value} (_ : wL_acts_l263 K J fu F k321 k347 n sh I R c1 c2 l0 l1 l5 l6 l7 l8 l11), MW l K J 180 263 [some (.ref l0), some (.ref l1), d2, d3, d4, some (.int l5), some (.int l6), some (.int l7), some (.int l8), d9, d10, some (.ref l11), d12] [] sh I R (c1, c2) F := by
  intro n
  induction n with
  | zero => exact fun h0 => h0.elim
  | succ n ih => exact fun h0 => vwL_acts_b263 ih hk321 hk347 h0
def wL_acts_b343 (K J : Nat → Nat) (fu : Nat) (F : VF) (sh : HS) (I : HI) (R : HR) (c1 : Nat) (c2 : Nat) (s0 : Int32) : Prop :=
  (c1 ≤ 100 ∧ c2 ≤ 3000) ∧
  (s0 = 0 ∨ s0 = 1) ∧ F (.inl (some (.int s0))) sh I R
theorem vwL_acts_b343 {l : Launch} {K J : Nat → Nat} {fu : Nat} {F : VF} {sh : HS} {I : HI} {R : HR} {c1 : Nat} {c2 : Nat} {s0 : Int32} {d0 d1 d2 d3 d4 d5 d6 d7 d8 d9 d10 d11 d12 : Option Value} (h0 : wL_acts_b343 K J fu F sh I R c1 c2 s0) : MW l K J 180 343 [d0, d1, d2, d3, d4, d5, d6, d7, d8, d9, d10, d11, d12] [.int s0] sh I R (c1, c2) F := by
  unfold wL_acts_b343 at h0
  obtain ⟨r65, h1⟩ := h0
  exact mw_rz (X := 100) (Y := 3000) (by decide +kernel) h1.1 r65 h1.2
def wL_acts_b321 (K J : Nat → Nat) (fu : Nat) (F : VF) (sh : HS) (I : HI) (R : HR) (c1 : Nat) (c2 : Nat) (l0 : Nat) (l5 : Int32) (l6 : Int32) (l7 : Int32) (l8 : Int32) : Prop :=
  (c1 + 5 ≤ 100 ∧ c2 + 30 ≤ 3000) ∧
  wB (fX10_moveActor fu sh I R l0 l5 l6 l7 l8) fun r64 => wS r64.1 fun v64 =>
  if v64 = ((-2) : Int32) then
    ((wL_acts_b343 K J fu F) sh r64.2 R (c1 + 5) (c2 + 30) 1)
  else
    ((wL_acts_b343 K J fu F) sh r64.2 R (c1 + 5) (c2 + 30) 0)
theorem vwL_acts_b321 {l : Launch} {K J : Nat → Nat} {fu : Nat} {F : VF} {sh : HS} {I : HI} {R : HR} {c1 : Nat} {c2 : Nat} {l0 : Nat} {l5 : Int32} {l6 : Int32} {l7 : Int32} {l8 : Int32} {d1 d2 d3 d4 d9 d10 d11 d12 : Option Value} (h0 : wL_acts_b321 K J fu F sh I R c1 c2 l0 l5 l6 l7 l8) : MW l K J 180 321 [some (.ref l0), d1, d2, d3, d4, some (.int l5), some (.int l6), some (.int l7), some (.int l8), d9, d10, d11, d12] [] sh I R (c1, c2) F := by
  unfold wL_acts_b321 at h0
  refine mw_rl (i := 0) (pc' := 322) (by decide +kernel) rfl ?_
  refine mw_il (i := 5) (pc' := 324) (by decide +kernel) rfl ?_
  refine mw_il (i := 6) (pc' := 326) (by decide +kernel) rfl ?_
  refine mw_il (i := 7) (pc' := 328) (by decide +kernel) rfl ?_
  refine mw_il (i := 8) (pc' := 330) (by decide +kernel) rfl ?_
  obtain ⟨r63, h1⟩ := h0
  refine hX10_moveActor (X := 100) (Y := 3000) (by decide +kernel) r63 rfl h1 (fun v64 r64 h2 => ?_); clear h1
  refine mw_c (v := (-2)) (pc' := 335) (by decide +kernel) ?_
  refine mw_ifn (ins := .if_icmp .ne 7) (t := 342) (pc' := 338) (by decide +kernel) rfl rfl rfl h2 (fun p3 h3 => ?_) (fun p3 h3 => ?_) <;> clear h2
  · refine mw_c (v := 0) (pc' := 343) (by decide +kernel) ?_
    exact (vwL_acts_b343) h3
  · refine mw_c (v := 1) (pc' := 339) (by decide +kernel) ?_
    refine mw_go (t := 343) (by decide +kernel) ?_
    exact (vwL_acts_b343) h3
def wL_acts_b395 (K J : Nat → Nat) (fu : Nat) (F : VF) (sh : HS) (I : HI) (R : HR) (c1 : Nat) (c2 : Nat) (s0 : Int32) : Prop :=
  (c1 ≤ 100 ∧ c2 ≤ 3000) ∧
  (s0 = 0 ∨ s0 = 1) ∧ F (.inl (some (.int s0))) sh I R
theorem vwL_acts_b395 {l : Launch} {K J : Nat → Nat} {fu : Nat} {F : VF} {sh : HS} {I : HI} {R : HR} {c1 : Nat} {c2 : Nat} {s0 : Int32} {d0 d1 d2 d3 d4 d5 d6 d7 d8 d9 d10 d11 d12 : Option Value} (h0 : wL_acts_b395 K J fu F sh I R c1 c2 s0) : MW l K J 180 395 [d0, d1, d2, d3, d4, d5, d6, d7, d8, d9, d10, d11, d12] [.int s0] sh I R (c1, c2) F := by
  unfold wL_acts_b395 at h0
  obtain ⟨r77, h1⟩ := h0
  exact mw_rz (X := 100) (Y := 3000) (by decide +kernel) h1.1 r77 h1.2
def wL_acts_b347 (K J : Nat → Nat) (fu : Nat) (F : VF) (sh : HS) (I : HI) (R : HR) (c1 : Nat) (c2 : Nat) (l0 : Nat) (l1 : Nat) (l5 : Int32) (l6 : Int32) (l7 : Int32) (l8 : Int32) : Prop :=
  wB (oR sh R l1 9 5) fun v66 =>
  wB (oAr sh R v66 45 l5) fun v67 =>
  wB (oS sh I v67 l6 l7) fun v68 =>
  wB (oR sh R l1 9 6) fun v69 =>
  wB (oAr sh R v69 45 l5) fun v70 =>
  wB (oS sh v68 v70 l6 l8) fun v71 =>
  (c1 + 5 ≤ 100 ∧ c2 + 30 ≤ 3000) ∧
  wB (fX10_moveActor fu sh v71 R l0 l5 l6 l7 l8) fun r73 => wS r73.1 fun v73 =>
  rcvB sh l1 9 = true ∧
  ((c1 + 5) ≤ 100 ∧ (c2 + 30) ≤ 3000) ∧
  wX11_faults K J fu sh r73.2 R l1 (qwI fun v76 t76 i76 j76 =>
  if v73 = v76 then
    ((wL_acts_b395 K J fu F) t76 i76 j76 (c1 + 5) (c2 + 30) 1)
  else
    ((wL_acts_b395 K J fu F) t76 i76 j76 (c1 + 5) (c2 + 30) 0))
theorem vwL_acts_b347 {l : Launch} {K J : Nat → Nat} {fu : Nat} {F : VF} {sh : HS} {I : HI} {R : HR} {c1 : Nat} {c2 : Nat} {l0 : Nat} {l1 : Nat} {l5 : Int32} {l6 : Int32} {l7 : Int32} {l8 : Int32} {d2 d3 d4 d9 d10 d11 d12 : Option Value} (h0 : wL_acts_b347 K J fu F sh I R c1 c2 l0 l1 l5 l6 l7 l8) : MW l K J 180 347 [some (.ref l0), some (.ref l1), d2, d3, d4, some (.int l5), some (.int l6), some (.int l7), some (.int l8), d9, d10, d11, d12] [] sh I R (c1, c2) F := by
  unfold wL_acts_b347 at h0
  refine mw_rl (i := 1) (pc' := 348) (by decide +kernel) rfl ?_
  refine mw_fR (ix := 34) (t := 9) (j := 5) (md := 1) (by decide +kernel) h0 (fun v66 h1 => ?_); clear h0
  refine mw_il (i := 5) (pc' := 353) (by decide +kernel) rfl ?_
  refine mw_aal (t := 45) (by decide +kernel) (by decide) h1 (fun v67 h2 => ?_); clear h1
  refine mw_il (i := 6) (pc' := 356) (by decide +kernel) rfl ?_
  refine mw_il (i := 7) (pc' := 358) (by decide +kernel) rfl ?_
  refine mw_ast (by decide +kernel) h2 (fun v68 h3 => ?_); clear h2
  refine mw_rl (i := 1) (pc' := 360) (by decide +kernel) rfl ?_
  refine mw_fR (ix := 37) (t := 9) (j := 6) (md := 1) (by decide +kernel) h3 (fun v69 h4 => ?_); clear h3
  refine mw_il (i := 5) (pc' := 365) (by decide +kernel) rfl ?_
  refine mw_aal (t := 45) (by decide +kernel) (by decide) h4 (fun v70 h5 => ?_); clear h4
  refine mw_il (i := 6) (pc' := 368) (by decide +kernel) rfl ?_
  refine mw_il (i := 8) (pc' := 370) (by decide +kernel) rfl ?_
  refine mw_ast (by decide +kernel) h5 (fun v71 h6 => ?_); clear h5
  refine mw_rl (i := 0) (pc' := 372) (by decide +kernel) rfl ?_
  refine mw_il (i := 5) (pc' := 374) (by decide +kernel) rfl ?_
  refine mw_il (i := 6) (pc' := 376) (by decide +kernel) rfl ?_
  refine mw_il (i := 7) (pc' := 378) (by decide +kernel) rfl ?_
  refine mw_il (i := 8) (pc' := 380) (by decide +kernel) rfl ?_
  obtain ⟨r72, h7⟩ := h6
  refine hX10_moveActor (X := 100) (Y := 3000) (by decide +kernel) r72 rfl h7 (fun v73 r73 h8 => ?_); clear h7
  refine mw_rl (i := 1) (pc' := 384) (by decide +kernel) rfl ?_
  obtain ⟨q74, h9⟩ := h8
  obtain ⟨r75, h10⟩ := h9
  refine mwx_I (q := 124) (na := 1) (ce := 0) (sl := 0) (X := 100) (Y := 3000) (as := [.ref l1]) (by decide +kernel) r75 rfl rfl (by rw [show mL 124 = 3 from by decide +kernel]; rfl) rfl (fun _ => rv_of q74 (by decide +kernel)) (fun z => absurd z (by decide +kernel)) (vwX11_faults h10) (fun v76 t76 i76 j76 h11 => ?_); clear h10
  refine mw_ifn (ins := .if_icmp .ne 7) (t := 394) (pc' := 390) (by decide +kernel) rfl rfl rfl h11 (fun p12 h12 => ?_) (fun p12 h12 => ?_) <;> clear h11
  · refine mw_c (v := 0) (pc' := 395) (by decide +kernel) ?_
    exact (vwL_acts_b395) h12
  · refine mw_c (v := 1) (pc' := 391) (by decide +kernel) ?_
    refine mw_go (t := 395) (by decide +kernel) ?_
    exact (vwL_acts_b395) h12
def wL_acts_b504 (K J : Nat → Nat) (fu : Nat) (F : VF) (sh : HS) (I : HI) (R : HR) (c1 : Nat) (c2 : Nat) (s0 : Int32) : Prop :=
  (c1 ≤ 100 ∧ c2 ≤ 3000) ∧
  (s0 = 0 ∨ s0 = 1) ∧ F (.inl (some (.int s0))) sh I R
theorem vwL_acts_b504 {l : Launch} {K J : Nat → Nat} {fu : Nat} {F : VF} {sh : HS} {I : HI} {R : HR} {c1 : Nat} {c2 : Nat} {s0 : Int32} {d0 d1 d2 d3 d4 d5 d6 d7 d8 d9 d10 d11 d12 : Option Value} (h0 : wL_acts_b504 K J fu F sh I R c1 c2 s0) : MW l K J 180 504 [d0, d1, d2, d3, d4, d5, d6, d7, d8, d9, d10, d11, d12] [.int s0] sh I R (c1, c2) F := by
  unfold wL_acts_b504 at h0
  obtain ⟨r92, h1⟩ := h0
  exact mw_rz (X := 100) (Y := 3000) (by decide +kernel) h1.1 r92 h1.2
def wL_acts_b468 (K J : Nat → Nat) (fu : Nat) (F : VF) (sh : HS) (I : HI) (R : HR) (c1 : Nat) (c2 : Nat) (l0 : Nat) (l1 : Nat) (l3 : Int32) (l4 : Int32) (l7 : Int32) (l8 : Int32) (l9 : Option Nat) : Prop :=
  wB l9 fun n83 =>
  wB (oS sh I n83 1 l7) fun v84 =>
  wB (oS sh v84 n83 2 l8) fun v85 =>
  wB (oM l3 l4) fun v86 =>
  (c1 + 4 ≤ 100 ∧ c2 + 24 ≤ 3000) ∧
  wB (fX10_moveCamera fu sh v85 R l0 v86 l7 l8) fun r88 => wS r88.1 fun v88 =>
  rcvB sh l1 9 = true ∧
  ((c1 + 4) ≤ 100 ∧ (c2 + 24) ≤ 3000) ∧
  wX11_faults K J fu sh r88.2 R l1 (qwI fun v91 t91 i91 j91 =>
  if v88 = v91 then
    ((wL_acts_b504 K J fu F) t91 i91 j91 (c1 + 4) (c2 + 24) 1)
  else
    ((wL_acts_b504 K J fu F) t91 i91 j91 (c1 + 4) (c2 + 24) 0))
theorem vwL_acts_b468 {l : Launch} {K J : Nat → Nat} {fu : Nat} {F : VF} {sh : HS} {I : HI} {R : HR} {c1 : Nat} {c2 : Nat} {l0 : Nat} {l1 : Nat} {l3 : Int32} {l4 : Int32} {l7 : Int32} {l8 : Int32} {l9 : Option Nat} {d2 d5 d6 d10 d11 d12 : Option Value} (h0 : wL_acts_b468 K J fu F sh I R c1 c2 l0 l1 l3 l4 l7 l8 l9) : MW l K J 180 468 [some (.ref l0), some (.ref l1), d2, some (.int l3), some (.int l4), d5, d6, some (.int l7), some (.int l8), some (va_rf l9), d10, d11, d12] [] sh I R (c1, c2) F := by
  unfold wL_acts_b468 at h0
  refine mw_ldv (t := 1) (i := 9) (v := va_rf l9) (pc' := 470) (by decide +kernel) rfl (isTy_rf _) ?_
  refine mw_c (v := 1) (pc' := 471) (by decide +kernel) ?_
  refine mw_il (i := 7) (pc' := 473) (by decide +kernel) rfl ?_
  obtain ⟨n83, e9, h1⟩ := wBd h0
  subst e9; clear h0
  refine mw_ast (by decide +kernel) h1 (fun v84 h2 => ?_); clear h1
  refine mw_rl (i := 9) (pc' := 476) (by decide +kernel) rfl ?_
  refine mw_c (v := 2) (pc' := 477) (by decide +kernel) ?_
  refine mw_il (i := 8) (pc' := 479) (by decide +kernel) rfl ?_
  refine mw_ast (by decide +kernel) h2 (fun v85 h3 => ?_); clear h2
  refine mw_rl (i := 0) (pc' := 481) (by decide +kernel) rfl ?_
  refine mw_il (i := 3) (pc' := 482) (by decide +kernel) rfl ?_
  refine mw_il (i := 4) (pc' := 484) (by decide +kernel) rfl ?_
  refine mw_rm (by decide +kernel) h3 (fun v86 h4 => ?_); clear h3
  refine mw_il (i := 7) (pc' := 487) (by decide +kernel) rfl ?_
  refine mw_il (i := 8) (pc' := 489) (by decide +kernel) rfl ?_
  obtain ⟨r87, h5⟩ := h4
  refine hX10_moveCamera (X := 100) (Y := 3000) (by decide +kernel) r87 rfl h5 (fun v88 r88 h6 => ?_); clear h5
  refine mw_rl (i := 1) (pc' := 493) (by decide +kernel) rfl ?_
  obtain ⟨q89, h7⟩ := h6
  obtain ⟨r90, h8⟩ := h7
  refine mwx_I (q := 124) (na := 1) (ce := 0) (sl := 0) (X := 100) (Y := 3000) (as := [.ref l1]) (by decide +kernel) r90 rfl rfl (by rw [show mL 124 = 3 from by decide +kernel]; rfl) rfl (fun _ => rv_of q89 (by decide +kernel)) (fun z => absurd z (by decide +kernel)) (vwX11_faults h8) (fun v91 t91 i91 j91 h9 => ?_); clear h8
  refine mw_ifn (ins := .if_icmp .ne 7) (t := 503) (pc' := 499) (by decide +kernel) rfl rfl rfl h9 (fun p10 h10 => ?_) (fun p10 h10 => ?_) <;> clear h9
  · refine mw_c (v := 0) (pc' := 504) (by decide +kernel) ?_
    exact (vwL_acts_b504) h10
  · refine mw_c (v := 1) (pc' := 500) (by decide +kernel) ?_
    refine mw_go (t := 504) (by decide +kernel) ?_
    exact (vwL_acts_b504) h10
def wL_acts_b467 (K J : Nat → Nat) (fu : Nat) (F : VF) (sh : HS) (I : HI) (R : HR) (c1 : Nat) (c2 : Nat) (s0 : Int32) : Prop :=
  (c1 ≤ 100 ∧ c2 ≤ 3000) ∧
  (s0 = 0 ∨ s0 = 1) ∧ F (.inl (some (.int s0))) sh I R
theorem vwL_acts_b467 {l : Launch} {K J : Nat → Nat} {fu : Nat} {F : VF} {sh : HS} {I : HI} {R : HR} {c1 : Nat} {c2 : Nat} {s0 : Int32} {d0 d1 d2 d3 d4 d5 d6 d7 d8 d9 d10 d11 d12 : Option Value} (h0 : wL_acts_b467 K J fu F sh I R c1 c2 s0) : MW l K J 180 467 [d0, d1, d2, d3, d4, d5, d6, d7, d8, d9, d10, d11, d12] [.int s0] sh I R (c1, c2) F := by
  unfold wL_acts_b467 at h0
  obtain ⟨r100, h1⟩ := h0
  exact mw_rz (X := 100) (Y := 3000) (by decide +kernel) h1.1 r100 h1.2
def wL_acts_b414 (K J : Nat → Nat) (fu : Nat) (F : VF) (sh : HS) (I : HI) (R : HR) (c1 : Nat) (c2 : Nat) (s0 : Int32) : Prop :=
  (c1 ≤ 100 ∧ c2 ≤ 3000) ∧
  (s0 = 0 ∨ s0 = 1) ∧ F (.inl (some (.int s0))) sh I R
theorem vwL_acts_b414 {l : Launch} {K J : Nat → Nat} {fu : Nat} {F : VF} {sh : HS} {I : HI} {R : HR} {c1 : Nat} {c2 : Nat} {s0 : Int32} {d0 d1 d2 d3 d4 d5 d6 d7 d8 d9 d10 d11 d12 : Option Value} (h0 : wL_acts_b414 K J fu F sh I R c1 c2 s0) : MW l K J 180 414 [d0, d1, d2, d3, d4, d5, d6, d7, d8, d9, d10, d11, d12] [.int s0] sh I R (c1, c2) F := by
  unfold wL_acts_b414 at h0
  obtain ⟨r103, h1⟩ := h0
  exact mw_rz (X := 100) (Y := 3000) (by decide +kernel) h1.1 r103 h1.2
def wL_acts_b533 (K J : Nat → Nat) (fu : Nat) (F : VF) (sh : HS) (I : HI) (R : HR) (c1 : Nat) (c2 : Nat) (s0 : Int32) : Prop :=
  (c1 ≤ 100 ∧ c2 ≤ 3000) ∧
  (s0 = 0 ∨ s0 = 1) ∧ F (.inl (some (.int s0))) sh I R
theorem vwL_acts_b533 {l : Launch} {K J : Nat → Nat} {fu : Nat} {F : VF} {sh : HS} {I : HI} {R : HR} {c1 : Nat} {c2 : Nat} {s0 : Int32} {d0 d1 d2 d3 d4 d5 d6 d7 d8 d9 d10 d11 d12 : Option Value} (h0 : wL_acts_b533 K J fu F sh I R c1 c2 s0) : MW l K J 180 533 [d0, d1, d2, d3, d4, d5, d6, d7, d8, d9, d10, d11, d12] [.int s0] sh I R (c1, c2) F := by
  unfold wL_acts_b533 at h0
  obtain ⟨r104, h1⟩ := h0
  exact mw_rz (X := 100) (Y := 3000) (by decide +kernel) h1.1 r104 h1.2
def wL_acts_b528 (K J : Nat → Nat) (fu : Nat) (F : VF) (sh : HS) (I : HI) (R : HR) (c1 : Nat) (c2 : Nat) : Prop :=
  (wL_acts_b533 K J fu F) sh I R c1 c2 1
theorem vwL_acts_b528 {l : Launch} {K J : Nat → Nat} {fu : Nat} {F : VF} {sh : HS} {I : HI} {R : HR} {c1 : Nat} {c2 : Nat} {d0 d1 d2 d3 d4 d5 d6 d7 d8 d9 d10 d11 d12 : Option Value} (h0 : wL_acts_b528 K J fu F sh I R c1 c2) : MW l K J 180 528 [d0, d1, d2, d3, d4, d5, d6, d7, d8, d9, d10, d11, d12] [] sh I R (c1, c2) F := by
  unfold wL_acts_b528 at h0
  refine mw_c (v := 1) (pc' := 529) (by decide +kernel) ?_
  refine mw_go (t := 533) (by decide +kernel) ?_
  exact (vwL_acts_b533) h0
def wL_acts_b593 (K J : Nat → Nat) (fu : Nat) (F : VF) (sh : HS) (I : HI) (R : HR) (c1 : Nat) (c2 : Nat) (s0 : Int32) : Prop :=
  (c1 ≤ 100 ∧ c2 ≤ 3000) ∧
  (s0 = 0 ∨ s0 = 1) ∧ F (.inl (some (.int s0))) sh I R
theorem vwL_acts_b593 {l : Launch} {K J : Nat → Nat} {fu : Nat} {F : VF} {sh : HS} {I : HI} {R : HR} {c1 : Nat} {c2 : Nat} {s0 : Int32} {d0 d1 d2 d3 d4 d5 d6 d7 d8 d9 d10 d11 d12 : Option Value} (h0 : wL_acts_b593 K J fu F sh I R c1 c2 s0) : MW l K J 180 593 [d0, d1, d2, d3, d4, d5, d6, d7, d8, d9, d10, d11, d12] [.int s0] sh I R (c1, c2) F := by
  unfold wL_acts_b593 at h0
  obtain ⟨r119, h1⟩ := h0
  exact mw_rz (X := 100) (Y := 3000) (by decide +kernel) h1.1 r119 h1.2
def wL_acts_b551 (K J : Nat → Nat) (fu : Nat) (F : VF) (sh : HS) (I : HI) (R : HR) (c1 : Nat) (c2 : Nat) (s0 : Int32) : Prop :=
  (c1 ≤ 100 ∧ c2 ≤ 3000) ∧
  (s0 = 0 ∨ s0 = 1) ∧ F (.inl (some (.int s0))) sh I R
theorem vwL_acts_b551 {l : Launch} {K J : Nat → Nat} {fu : Nat} {F : VF} {sh : HS} {I : HI} {R : HR} {c1 : Nat} {c2 : Nat} {s0 : Int32} {d0 d1 d2 d3 d4 d5 d6 d7 d8 d9 d10 d11 d12 : Option Value} (h0 : wL_acts_b551 K J fu F sh I R c1 c2 s0) : MW l K J 180 551 [d0, d1, d2, d3, d4, d5, d6, d7, d8, d9, d10, d11, d12] [.int s0] sh I R (c1, c2) F := by
  unfold wL_acts_b551 at h0
  obtain ⟨r122, h1⟩ := h0
  exact mw_rz (X := 100) (Y := 3000) (by decide +kernel) h1.1 r122 h1.2
def wL_acts_b623 (K J : Nat → Nat) (fu : Nat) (F : VF) (sh : HS) (I : HI) (R : HR) (c1 : Nat) (c2 : Nat) (s0 : Int32) : Prop :=
  (c1 ≤ 100 ∧ c2 ≤ 3000) ∧
  (s0 = 0 ∨ s0 = 1) ∧ F (.inl (some (.int s0))) sh I R
theorem vwL_acts_b623 {l : Launch} {K J : Nat → Nat} {fu : Nat} {F : VF} {sh : HS} {I : HI} {R : HR} {c1 : Nat} {c2 : Nat} {s0 : Int32} {d0 d1 d2 d3 d4 d5 d6 d7 d8 d9 d10 d11 d12 : Option Value} (h0 : wL_acts_b623 K J fu F sh I R c1 c2 s0) : MW l K J 180 623 [d0, d1, d2, d3, d4, d5, d6, d7, d8, d9, d10, d11, d12] [.int s0] sh I R (c1, c2) F := by
  unfold wL_acts_b623 at h0
  obtain ⟨r123, h1⟩ := h0
  exact mw_rz (X := 100) (Y := 3000) (by decide +kernel) h1.1 r123 h1.2
def wL_acts_b618 (K J : Nat → Nat) (fu : Nat) (F : VF) (sh : HS) (I : HI) (R : HR) (c1 : Nat) (c2 : Nat) : Prop :=
  (wL_acts_b623 K J fu F) sh I R c1 c2 1
theorem vwL_acts_b618 {l : Launch} {K J : Nat → Nat} {fu : Nat} {F : VF} {sh : HS} {I : HI} {R : HR} {c1 : Nat} {c2 : Nat} {d0 d1 d2 d3 d4 d5 d6 d7 d8 d9 d10 d11 d12 : Option Value} (h0 : wL_acts_b618 K J fu F sh I R c1 c2) : MW l K J 180 618 [d0, d1, d2, d3, d4, d5, d6, d7, d8, d9, d10, d11, d12] [] sh I R (c1, c2) F := by
  unfold wL_acts_b618 at h0
  refine mw_c (v := 1) (pc' := 619) (by decide +kernel) ?_
  refine mw_go (t := 623) (by decide +kernel) ?_
  exact (vwL_acts_b623) h0
def wL_acts_b668 (K J : Nat → Nat) (fu : Nat) (F : VF) (sh : HS) (I : HI) (R : HR) (c1 : Nat) (c2 : Nat) (s0 : Int32) : Prop :=
  (c1 ≤ 100 ∧ c2 ≤ 3000) ∧
  (s0 = 0 ∨ s0 = 1) ∧ F (.inl (some (.int s0))) sh I R
theorem vwL_acts_b668 {l : Launch} {K J : Nat → Nat} {fu : Nat} {F : VF} {sh : HS} {I : HI} {R : HR} {c1 : Nat} {c2 : Nat} {s0 : Int32} {d0 d1 d2 d3 d4 d5 d6 d7 d8 d9 d10 d11 d12 : Option Value} (h0 : wL_acts_b668 K J fu F sh I R c1 c2 s0) : MW l K J 180 668 [d0, d1, d2, d3, d4, d5, d6, d7, d8, d9, d10, d11, d12] [.int s0] sh I R (c1, c2) F := by
  unfold wL_acts_b668 at h0
  obtain ⟨r137, h1⟩ := h0
  exact mw_rz (X := 100) (Y := 3000) (by decide +kernel) h1.1 r137 h1.2
def wL_acts_b693 (K J : Nat → Nat) (fu : Nat) (F : VF) (sh : HS) (I : HI) (R : HR) (c1 : Nat) (c2 : Nat) (s0 : Int32) : Prop :=
  (c1 ≤ 100 ∧ c2 ≤ 3000) ∧
  (s0 = 0 ∨ s0 = 1) ∧ F (.inl (some (.int s0))) sh I R
theorem vwL_acts_b693 {l : Launch} {K J : Nat → Nat} {fu : Nat} {F : VF} {sh : HS} {I : HI} {R : HR} {c1 : Nat} {c2 : Nat} {s0 : Int32} {d0 d1 d2 d3 d4 d5 d6 d7 d8 d9 d10 d11 d12 : Option Value} (h0 : wL_acts_b693 K J fu F sh I R c1 c2 s0) : MW l K J 180 693 [d0, d1, d2, d3, d4, d5, d6, d7, d8, d9, d10, d11, d12] [.int s0] sh I R (c1, c2) F := by
  unfold wL_acts_b693 at h0
  obtain ⟨r139, h1⟩ := h0
  exact mw_rz (X := 100) (Y := 3000) (by decide +kernel) h1.1 r139 h1.2
def wL_acts_b688 (K J : Nat → Nat) (fu : Nat) (F : VF) (sh : HS) (I : HI) (R : HR) (c1 : Nat) (c2 : Nat) : Prop :=
  (wL_acts_b693 K J fu F) sh I R c1 c2 1
theorem vwL_acts_b688 {l : Launch} {K J : Nat → Nat} {fu : Nat} {F : VF} {sh : HS} {I : HI} {R : HR} {c1 : Nat} {c2 : Nat} {d0 d1 d2 d3 d4 d5 d6 d7 d8 d9 d10 d11 d12 : Option Value} (h0 : wL_acts_b688 K J fu F sh I R c1 c2) : MW l K J 180 688 [d0, d1, d2, d3, d4, d5, d6, d7, d8, d9, d10, d11, d12] [] sh I R (c1, c2) F := by
  unfold wL_acts_b688 at h0
  refine mw_c (v := 1) (pc' := 689) (by decide +kernel) ?_
  refine mw_go (t := 693) (by decide +kernel) ?_
  exact (vwL_acts_b693) h0
def wL_acts_b87 (K J : Nat → Nat) (fu : Nat) (F : VF) (sh : HS) (I : HI) (R : HR) (c1 : Nat) (c2 : Nat) (l0 : Nat) (l1 : Nat) (l2 : Int32) (l3 : Int32) (l4 : Int32) (l5 : Int32) (l6 : Int32) (l7 : Int32) (l8 : Int32) (s0 : Option Nat) : Prop :=
  wB (oM l2 9) fun v16 =>
  if v16 = 0 then
    (wB (oM l3 90) fun v17 =>
    wB (oP sh I l1 9 0 v17) fun v18 =>
    wB (oD l3 90) fun v19 =>
    wB (oM v19 1800) fun v20 =>
    wB (oP sh v18 l1 9 1 v20) fun v21 =>
    wB (oD l3 37) fun v22 =>
    wB (oM v22 1500) fun v23 =>
    wB (oP sh v21 l1 9 2 v23) fun v24 =>
    wB (oI sh v24 l1 9 0) fun v25 =>
    wB (oI sh v24 l1 9 1) fun v26 =>
    wB (oI sh v24 l1 9 2) fun v27 =>
    (c1 + 4 ≤ 100 ∧ c2 + 24 ≤ 3000) ∧
    wB (fX10_setLimits fu sh v24 R l0 v25 v26 v27) fun r29 => wS r29.1 fun v29 =>
    wB (oI sh r29.2 l1 9 0) fun v30 =>
    rcvB sh l1 9 = true ∧
    ((c1 + 4) + 40 ≤ 100 ∧ (c2 + 24) + 450 ≤ 3000) ∧
    wX11_setups K J fu sh r29.2 R l1 v30 (qwR fun v33 t33 i33 j33 =>
    rcvB t33 v33 10 = true ∧
    (((c1 + 4) + 40) ≤ 100 ∧ ((c2 + 24) + 450) ≤ 3000) ∧
    wJx4a65c_size_8abf5 K J fu t33 i33 j33 v33 (qwI fun v36 t36 i36 j36 =>
    if v29 = v36 then
      ((wL_acts_b207 K J fu F) t36 i36 j36 ((c1 + 4) + 40) ((c2 + 24) + 450) 1)
    else
      ((wL_acts_b207 K J fu F) t36 i36 j36 ((c1 + 4) + 40) ((c2 + 24) + 450) 0))))
  else
    if v16 = 1 then
      (wB (oR sh R l1 9 4) fun v38 =>
      wB (oA2 sh I v38 l5) fun v39 =>
      wB (oR sh R l1 9 4) fun v40 =>
      wB (oD l3 11) fun v41 =>
      wB (oM v41 4) fun v42 =>
      wB (oS sh I v40 l5 v42) fun v43 =>
      wB (oR sh R l1 9 4) fun v44 =>
      wB (oA2 sh v43 v44 l5) fun v45 =>
      (c1 + 3 ≤ 100 ∧ c2 + 18 ≤ 3000) ∧
      wB (fX10_setLight fu sh v43 R l0 l5 v45) fun r47 => wS r47.1 fun v47 =>
      if v47 = v39 then
        ((wL_acts_b253 K J fu F) sh r47.2 R (c1 + 3) (c2 + 18) 1)
      else
        ((wL_acts_b253 K J fu F) sh r47.2 R (c1 + 3) (c2 + 18) 0))
    else
      if v16 = 2 then
        (wB (oR sh R l1 9 3) fun v49 =>
        rcvB sh v49 10 = true ∧
        (c1 + 1 ≤ 100 ∧ c2 + 4 ≤ 3000) ∧
        wJx4a65c_iterator_32c93 K J fu sh I R v49 (qwR fun v52 t52 i52 j52 =>
        (wL_acts_l263 K J fu F (wL_acts_b321 K J fu F) (wL_acts_b347 K J fu F) fu) t52 i52 j52 (c1 + 1) (c2 + 4) l0 l1 l5 l6 l7 l8 v52))
      else
        if v16 = 3 then
          (if s0 = none then
            ((c1 + 2 ≤ 100 ∧ c2 + 12 ≤ 3000) ∧
            wB (fX10_count fu sh I R l0 1) fun r102 => wS r102 fun v102 =>
            if v102 = 0 then
              ((wL_acts_b414 K J fu F) sh I R (c1 + 2) (c2 + 12) 1)
            else
              ((wL_acts_b414 K J fu F) sh I R (c1 + 2) (c2 + 12) 0))
          else
            (wB s0 fun n78 =>
            wB (oA2 sh I n78 3) fun v79 =>
            rcvB sh l1 9 = true ∧
            (c1 ≤ 100 ∧ c2 ≤ 3000) ∧
            wX11_ax K J fu sh I R l1 n78 v79 (qwI fun v82 t82 i82 j82 =>
            if v82 = l7 then
              (wB (oA2 t82 i82 n78 3) fun v93 =>
              rcvB t82 l1 9 = true ∧
              (c1 ≤ 100 ∧ c2 ≤ 3000) ∧
              wX11_ay K J fu t82 i82 j82 l1 n78 v93 (qwI fun v96 t96 i96 j96 =>
              if v96 = l8 then
                (wB (oM l3 l4) fun v97 =>
                (c1 + 4 ≤ 100 ∧ c2 + 24 ≤ 3000) ∧
                wB (fX10_moveCamera fu t96 i96 j96 l0 v97 l7 l8) fun r99 => wS r99.1 fun v99 =>
                if v99 = ((-2) : Int32) then
                  ((wL_acts_b467 K J fu F) t96 r99.2 j96 (c1 + 4) (c2 + 24) 1)
                else
                  ((wL_acts_b467 K J fu F) t96 r99.2 j96 (c1 + 4) (c2 + 24) 0))
              else
                ((wL_acts_b468 K J fu F) t96 i96 j96 c1 c2 l0 l1 l3 l4 l7 l8 (some n78))))
            else
              ((wL_acts_b468 K J fu F) t82 i82 j82 c1 c2 l0 l1 l3 l4 l7 l8 (some n78)))))
        else
          if v16 = 4 then
            (if s0 = none then
              ((wL_acts_b528 K J fu F) sh I R c1 c2)
            else
              (wB (oM l3 l4) fun v105 =>
              wB (oD l3 13) fun v106 =>
              wB s0 fun n107 =>
              (c1 + 20 ≤ 100 ∧ c2 + 200 ≤ 3000) ∧
              wL_casts K J fu sh I R l0 l1 n107 v105 v106 (qwI fun v109 t109 i109 j109 =>
              if v109 = 0 then
                ((wL_acts_b533 K J fu F) t109 i109 j109 (c1 + 20) (c2 + 200) 0)
              else
                ((wL_acts_b528 K J fu F) t109 i109 j109 (c1 + 20) (c2 + 200)))))
          else
            if v16 = 5 then
              (if s0 = none then
                ((c1 + 1 ≤ 100 ∧ c2 + 6 ≤ 3000) ∧
                wB (fX10_faults fu sh I R l0) fun r121 => wS r121 fun v121 =>
                if v121 = 0 then
                  ((wL_acts_b551 K J fu F) sh I R (c1 + 1) (c2 + 6) 1)
                else
                  ((wL_acts_b551 K J fu F) sh I R (c1 + 1) (c2 + 6) 0))
              else
                (wB s0 fun n110 =>
                wB (oA2 sh I n110 5) fun v111 =>
                wB (oD l3 9) fun v112 =>
                wB (oM v112 99) fun v113 =>
                wB (oS sh I n110 5 (1 + v113)) fun v114 =>
                wB (oM l3 l4) fun v115 =>
                wB (oA2 sh v114 n110 5) fun v116 =>
                (c1 + 3 ≤ 100 ∧ c2 + 18 ≤ 3000) ∧
                wB (fX10_setLength fu sh v114 R l0 v115 v116) fun r118 => wS r118.1 fun v118 =>
                if v118 = v111 then
                  ((wL_acts_b593 K J fu F) sh r118.2 R (c1 + 3) (c2 + 18) 1)
                else
                  ((wL_acts_b593 K J fu F) sh r118.2 R (c1 + 3) (c2 + 18) 0)))
            else
              if v16 = 6 then
                (if s0 = none then
                  ((wL_acts_b618 K J fu F) sh I R c1 c2)
                else
                  (wB (oM l3 l4) fun v124 =>
                  wB (oD l3 17) fun v125 =>
                  wB (oM v125 l4) fun v126 =>
                  (c1 + 10 ≤ 100 ∧ c2 + 100 ≤ 3000) ∧
                  wL_shifts K J fu sh I R l0 l1 v124 v126 (qwI fun v128 t128 i128 j128 =>
                  if v128 = 0 then
                    ((wL_acts_b623 K J fu F) t128 i128 j128 (c1 + 10) (c2 + 100) 0)
                  else
                    ((wL_acts_b618 K J fu F) t128 i128 j128 (c1 + 10) (c2 + 100)))))
              else
                if v16 = 7 then
                  (if (4 : Int32) ≤ l4 then
                    (wB (oR sh R l1 9 3) fun v129 =>
                    wB (oM l3 l4) fun v130 =>
                    rcvB sh v129 10 = true ∧
                    (c1 ≤ 100 ∧ c2 ≤ 3000) ∧
                    wJx4a65c_remove_915e3 K J fu sh I R v129 v130 (qwR fun v133 t133 i133 j133 =>
                    wB (oKt t133 v133 1) fun _ =>
                    wB (oM l3 l4) fun v134 =>
                    (c1 + 2 ≤ 100 ∧ c2 + 12 ≤ 3000) ∧
                    wB (fX10_drop fu t133 i133 j133 l0 v134) fun r136 => wS r136.1 fun v136 =>
                    if v136 = (l4 - 1) then
                      ((wL_acts_b668 K J fu F) t133 r136.2.1 r136.2.2 (c1 + 2) (c2 + 12) 1)
                    else
                      ((wL_acts_b668 K J fu F) t133 r136.2.1 r136.2.2 (c1 + 2) (c2 + 12) 0)))
                  else
                    ((c1 ≤ 100 ∧ c2 ≤ 3000) ∧
                    F (.inl (some (.int 1))) sh I R))
                else
                  if s0 = none then
                    ((wL_acts_b688 K J fu F) sh I R c1 c2)
                  else
                    (wB (oM l3 l4) fun v140 =>
                    wB s0 fun n141 =>
                    (c1 + 20 ≤ 100 ∧ c2 + 200 ≤ 3000) ∧
                    wL_flips K J fu sh I R l0 l1 n141 v140 (qwI fun v143 t143 i143 j143 =>
                    if v143 = 0 then
                      ((wL_acts_b693 K J fu F) t143 i143 j143 (c1 + 20) (c2 + 200) 0)
                    else
                      ((wL_acts_b688 K J fu F) t143 i143 j143 (c1 + 20) (c2 + 200))))
theorem vwL_acts_b87 {l : Launch} {K J : Nat → Nat} {fu : Nat} {F : VF} {sh : HS} {I : HI} {R : HR} {c1 : Nat} {c2 : Nat} {l0 : Nat} {l1 : Nat} {l2 : Int32} {l3 : Int32} {l4 : Int32} {l5 : Int32} {l6 : Int32} {l7 : Int32} {l8 : Int32} {s0 : Option Nat} {d9 d10 d11 d12 : Option Value} (h0 : wL_acts_b87 K J fu F sh I R c1 c2 l0 l1 l2 l3 l4 l5 l6 l7 l8 s0) : MW l K J 180 87 [some (.ref l0), some (.ref l1), some (.int l2), some (.int l3), some (.int l4), some (.int l5), some (.int l6), some (.int l7), some (.int l8), d9, d10, d11, d12] [va_rf s0] sh I R (c1, c2) F := by
  unfold wL_acts_b87 at h0
  refine mw_stv (t := 1) (i := 9) (v := va_rf s0) (pc' := 89) (L' := [some (.ref l0), some (.ref l1), some (.int l2), some (.int l3), some (.int l4), some (.int l5), some (.int l6), some (.int l7), some (.int l8), some (va_rf s0), d10, d11, d12]) (by decide +kernel) (isTy_rf _) rfl rfl ?_
  refine mw_il (i := 2) (pc' := 90) (by decide +kernel) rfl ?_
  refine mw_c (v := 9) (pc' := 92) (by decide +kernel) ?_
  refine mw_rm (by decide +kernel) h0 (fun v16 h1 => ?_); clear h0
  by_cases e0 : v16 = 0
  · have h2 := h1
    rw [if_pos e0] at h2
    clear h1
    refine mw_sw (v := 0) (t := 140) e0 (by decide +kernel) ?_
    refine mw_rl (i := 1) (pc' := 141) (by decide +kernel) rfl ?_
    refine mw_il (i := 3) (pc' := 142) (by decide +kernel) rfl ?_
    refine mw_c (v := 90) (pc' := 144) (by decide +kernel) ?_
    refine mw_rm (by decide +kernel) h2 (fun v17 h3 => ?_); clear h2
    refine mw_pI (ix := 17) (t := 9) (j := 0) (ty := 0) (md := 1) (by decide +kernel) (Or.inl rfl) h3 (fun v18 h4 => ?_); clear h3
    refine mw_rl (i := 1) (pc' := 149) (by decide +kernel) rfl ?_
    refine mw_il (i := 3) (pc' := 150) (by decide +kernel) rfl ?_
    refine mw_c (v := 90) (pc' := 152) (by decide +kernel) ?_
    refine mw_dv (by decide +kernel) h4 (fun v19 h5 => ?_); clear h4
    refine mw_c (v := 1800) (pc' := 156) (by decide +kernel) ?_
    refine mw_rm (by decide +kernel) h5 (fun v20 h6 => ?_); clear h5
    refine mw_pI (ix := 21) (t := 9) (j := 1) (ty := 0) (md := 1) (by decide +kernel) (Or.inl rfl) h6 (fun v21 h7 => ?_); clear h6
    refine mw_rl (i := 1) (pc' := 161) (by decide +kernel) rfl ?_
    refine mw_il (i := 3) (pc' := 162) (by decide +kernel) rfl ?_
    refine mw_c (v := 37) (pc' := 164) (by decide +kernel) ?_
    refine mw_dv (by decide +kernel) h7 (fun v22 h8 => ?_); clear h7
    refine mw_c (v := 1500) (pc' := 168) (by decide +kernel) ?_
    refine mw_rm (by decide +kernel) h8 (fun v23 h9 => ?_); clear h8
    refine mw_pI (ix := 25) (t := 9) (j := 2) (ty := 0) (md := 1) (by decide +kernel) (Or.inl rfl) h9 (fun v24 h10 => ?_); clear h9
    refine mw_rl (i := 0) (pc' := 173) (by decide +kernel) rfl ?_
    refine mw_rl (i := 1) (pc' := 174) (by decide +kernel) rfl ?_
    refine mw_fI (ix := 17) (t := 9) (j := 0) (ty := 0) (md := 1) (by decide +kernel) (by decide) h10 (fun v25 h11 => ?_); clear h10
    refine mw_rl (i := 1) (pc' := 178) (by decide +kernel) rfl ?_
    refine mw_fI (ix := 21) (t := 9) (j := 1) (ty := 0) (md := 1) (by decide +kernel) (by decide) h11 (fun v26 h12 => ?_); clear h11
    refine mw_rl (i := 1) (pc' := 182) (by decide +kernel) rfl ?_
    refine mw_fI (ix := 25) (t := 9) (j := 2) (ty := 0) (md := 1) (by decide +kernel) (by decide) h12 (fun v27 h13 => ?_); clear h12
    obtain ⟨r28, h14⟩ := h13
    refine hX10_setLimits (X := 100) (Y := 3000) (by decide +kernel) r28 rfl h14 (fun v29 r29 h15 => ?_); clear h14
    refine mw_rl (i := 1) (pc' := 189) (by decide +kernel) rfl ?_
    refine mw_rl (i := 1) (pc' := 190) (by decide +kernel) rfl ?_
    refine mw_fI (ix := 17) (t := 9) (j := 0) (ty := 0) (md := 1) (by decide +kernel) (by decide) h15 (fun v30 h16 => ?_); clear h15
    obtain ⟨q31, h17⟩ := h16
    obtain ⟨r32, h18⟩ := h17
    refine mwx_R (q := 125) (na := 2) (ce := 40) (sl := 450) (X := 100) (Y := 3000) (as := [.int v30, .ref l1]) (by decide +kernel) r32 rfl rfl (by rw [show mL 125 = 5 from by decide +kernel]; rfl) rfl (fun _ => rv_of q31 (by decide +kernel)) (fun z => absurd z (by decide +kernel)) (vwX11_setups h18) (fun v33 t33 i33 j33 h19 => ?_); clear h18
    obtain ⟨q34, h20⟩ := h19
    obtain ⟨r35, h21⟩ := h20
    refine mwx_I (q := 133) (na := 1) (ce := 0) (sl := 0) (X := 100) (Y := 3000) (as := [.ref v33]) (by decide +kernel) r35 rfl rfl (by rw [show mL 133 = 1 from by decide +kernel]; rfl) rfl (fun _ => rv_of q34 (by decide +kernel)) (fun z => absurd z (by decide +kernel)) (vwJx4a65c_size_8abf5 h21) (fun v36 t36 i36 j36 h22 => ?_); clear h21
    refine mw_ifn (ins := .if_icmp .ne 7) (t := 206) (pc' := 202) (by decide +kernel) rfl rfl rfl h22 (fun p23 h23 => ?_) (fun p23 h23 => ?_) <;> clear h22
    · refine mw_c (v := 0) (pc' := 207) (by decide +kernel) ?_
      exact (vwL_acts_b207) h23
    · refine mw_c (v := 1) (pc' := 203) (by decide +kernel) ?_
      refine mw_go (t := 207) (by decide +kernel) ?_
      exact (vwL_acts_b207) h23
  rw [if_neg e0] at h1
  by_cases e1 : v16 = 1
  · have h2 := h1
    rw [if_pos e1] at h2
    clear h1
    refine mw_sw (v := 1) (t := 208) e1 (by decide +kernel) ?_
    refine mw_rl (i := 1) (pc' := 209) (by decide +kernel) rfl ?_
    refine mw_fR (ix := 28) (t := 9) (j := 4) (md := 1) (by decide +kernel) h2 (fun v38 h3 => ?_); clear h2
    refine mw_il (i := 5) (pc' := 214) (by decide +kernel) rfl ?_
    refine mw_al (by decide +kernel) h3 (fun v39 h4 => ?_); clear h3
    refine mw_is (i := 10) (pc' := 217) (L' := [some (.ref l0), some (.ref l1), some (.int l2), some (.int l3), some (.int l4), some (.int l5), some (.int l6), some (.int l7), some (.int l8), some (va_rf s0), some (.int v39), d11, d12]) (by decide +kernel) rfl rfl ?_
    refine mw_rl (i := 1) (pc' := 218) (by decide +kernel) rfl ?_
    refine mw_fR (ix := 28) (t := 9) (j := 4) (md := 1) (by decide +kernel) h4 (fun v40 h5 => ?_); clear h4
    refine mw_il (i := 5) (pc' := 223) (by decide +kernel) rfl ?_
    refine mw_il (i := 3) (pc' := 224) (by decide +kernel) rfl ?_
    refine mw_c (v := 11) (pc' := 226) (by decide +kernel) ?_
    refine mw_dv (by decide +kernel) h5 (fun v41 h6 => ?_); clear h5
    refine mw_c (v := 4) (pc' := 228) (by decide +kernel) ?_
    refine mw_rm (by decide +kernel) h6 (fun v42 h7 => ?_); clear h6
    refine mw_ast (by decide +kernel) h7 (fun v43 h8 => ?_); clear h7
    refine mw_rl (i := 0) (pc' := 231) (by decide +kernel) rfl ?_
    refine mw_il (i := 5) (pc' := 233) (by decide +kernel) rfl ?_
    refine mw_rl (i := 1) (pc' := 234) (by decide +kernel) rfl ?_
    refine mw_fR (ix := 28) (t := 9) (j := 4) (md := 1) (by decide +kernel) h8 (fun v44 h9 => ?_); clear h8
    refine mw_il (i := 5) (pc' := 239) (by decide +kernel) rfl ?_
    refine mw_al (by decide +kernel) h9 (fun v45 h10 => ?_); clear h9
    obtain ⟨r46, h11⟩ := h10
    refine hX10_setLight (X := 100) (Y := 3000) (by decide +kernel) r46 rfl h11 (fun v47 r47 h12 => ?_); clear h11
    refine mw_il (i := 10) (pc' := 245) (by decide +kernel) rfl ?_
    refine mw_ifn (ins := .if_icmp .ne 7) (t := 252) (pc' := 248) (by decide +kernel) rfl rfl rfl h12 (fun p13 h13 => ?_) (fun p13 h13 => ?_) <;> clear h12
    · refine mw_c (v := 0) (pc' := 253) (by decide +kernel) ?_
      exact (vwL_acts_b253) h13
    · refine mw_c (v := 1) (pc' := 249) (by decide +kernel) ?_
      refine mw_go (t := 253) (by decide +kernel) ?_
      exact (vwL_acts_b253) h13
  rw [if_neg e1] at h1
  by_cases e2 : v16 = 2
  · have h2 := h1
    rw [if_pos e2] at h2
    clear h1
    refine mw_sw (v := 2) (t := 254) e2 (by decide +kernel) ?_
    refine mw_rl (i := 1) (pc' := 255) (by decide +kernel) rfl ?_
    refine mw_fR (ix := 48) (t := 9) (j := 3) (md := 1) (by decide +kernel) h2 (fun v49 h3 => ?_); clear h2
    obtain ⟨q50, h4⟩ := h3
    obtain ⟨r51, h5⟩ := h4
    refine mwx_R (q := 143) (na := 1) (ce := 1) (sl := 4) (X := 100) (Y := 3000) (as := [.ref v49]) (by decide +kernel) r51 rfl rfl (by rw [show mL 143 = 1 from by decide +kernel]; rfl) rfl (fun _ => rv_of q50 (by decide +kernel)) (fun z => absurd z (by decide +kernel)) (vwJx4a65c_iterator_32c93 h5) (fun v52 t52 i52 j52 h6 => ?_); clear h5
    refine mw_rs (i := 11) (pc' := 263) (L' := [some (.ref l0), some (.ref l1), some (.int l2), some (.int l3), some (.int l4), some (.int l5), some (.int l6), some (.int l7), some (.int l8), some (va_rf s0), d10, some (.ref v52), d12]) (by decide +kernel) rfl rfl ?_
    exact (vwL_acts_l263 (vwL_acts_b321) (vwL_acts_b347) fu) h6
  rw [if_neg e2] at h1
  by_cases e3 : v16 = 3
  · have h2 := h1
    rw [if_pos e3] at h2
    clear h1
    refine mw_sw (v := 3) (t := 396) e3 (by decide +kernel) ?_
    refine mw_ldv (t := 1) (i := 9) (v := va_rf s0) (pc' := 398) (by decide +kernel) rfl (isTy_rf _) ?_
    refine mw_nnl (o := 17) (t := 415) (x := s0) (by decide +kernel) h2 (fun p3 h3 => ?_) (fun p3 h3 => ?_) <;> clear h2
    · refine mw_rl (i := 0) (pc' := 402) (by decide +kernel) rfl ?_
      refine mw_c (v := 1) (pc' := 403) (by decide +kernel) ?_
      obtain ⟨r101, h4⟩ := h3
      refine hX10_count (X := 100) (Y := 3000) (by decide +kernel) r101 rfl h4 (fun v102 h5 => ?_); clear h4
      refine mw_ifn (ins := .ifCond .ne 7) (t := 413) (pc' := 409) (by decide +kernel) rfl rfl rfl h5 (fun p6 h6 => ?_) (fun p6 h6 => ?_) <;> clear h5
      · refine mw_c (v := 0) (pc' := 414) (by decide +kernel) ?_
        exact (vwL_acts_b414) h6
      · refine mw_c (v := 1) (pc' := 410) (by decide +kernel) ?_
        refine mw_go (t := 414) (by decide +kernel) ?_
        exact (vwL_acts_b414) h6
    · refine mw_rl (i := 1) (pc' := 416) (by decide +kernel) rfl ?_
      refine mw_ldv (t := 1) (i := 9) (v := va_rf s0) (pc' := 418) (by decide +kernel) rfl (isTy_rf _) ?_
      refine mw_ldv (t := 1) (i := 9) (v := va_rf s0) (pc' := 420) (by decide +kernel) rfl (isTy_rf _) ?_
      refine mw_c (v := 3) (pc' := 421) (by decide +kernel) ?_
      obtain ⟨n78, e9, h4⟩ := wBd h3
      subst e9; clear h3
      refine mw_al (by decide +kernel) h4 (fun v79 h5 => ?_); clear h4
      obtain ⟨q80, h6⟩ := h5
      obtain ⟨r81, h7⟩ := h6
      refine mwx_I (q := 115) (na := 3) (ce := 0) (sl := 0) (X := 100) (Y := 3000) (as := [.int v79, .ref n78, .ref l1]) (by decide +kernel) r81 rfl rfl (by rw [show mL 115 = 3 from by decide +kernel]; rfl) rfl (fun _ => rv_of q80 (by decide +kernel)) (fun z => absurd z (by decide +kernel)) (vwX11_ax h7) (fun v82 t82 i82 j82 h8 => ?_); clear h7
      refine mw_il (i := 7) (pc' := 427) (by decide +kernel) rfl ?_
      refine mw_ifn (ins := .if_icmp .ne 41) (t := 468) (pc' := 430) (by decide +kernel) rfl rfl rfl h8 (fun p9 h9 => ?_) (fun p9 h9 => ?_) <;> clear h8
      · exact (vwL_acts_b468) h9
      · refine mw_rl (i := 1) (pc' := 431) (by decide +kernel) rfl ?_
        refine mw_rl (i := 9) (pc' := 433) (by decide +kernel) rfl ?_
        refine mw_rl (i := 9) (pc' := 435) (by decide +kernel) rfl ?_
        refine mw_c (v := 3) (pc' := 436) (by decide +kernel) ?_
        refine mw_al (by decide +kernel) h9 (fun v93 h10 => ?_); clear h9
        obtain ⟨q94, h11⟩ := h10
        obtain ⟨r95, h12⟩ := h11
        refine mwx_I (q := 116) (na := 3) (ce := 0) (sl := 0) (X := 100) (Y := 3000) (as := [.int v93, .ref n78, .ref l1]) (by decide +kernel) r95 rfl rfl (by rw [show mL 116 = 3 from by decide +kernel]; rfl) rfl (fun _ => rv_of q94 (by decide +kernel)) (fun z => absurd z (by decide +kernel)) (vwX11_ay h12) (fun v96 t96 i96 j96 h13 => ?_); clear h12
        refine mw_il (i := 8) (pc' := 442) (by decide +kernel) rfl ?_
        refine mw_ifn (ins := .if_icmp .ne 26) (t := 468) (pc' := 445) (by decide +kernel) rfl rfl rfl h13 (fun p14 h14 => ?_) (fun p14 h14 => ?_) <;> clear h13
        · exact (vwL_acts_b468) h14
        · refine mw_rl (i := 0) (pc' := 446) (by decide +kernel) rfl ?_
          refine mw_il (i := 3) (pc' := 447) (by decide +kernel) rfl ?_
          refine mw_il (i := 4) (pc' := 449) (by decide +kernel) rfl ?_
          refine mw_rm (by decide +kernel) h14 (fun v97 h15 => ?_); clear h14
          refine mw_il (i := 7) (pc' := 452) (by decide +kernel) rfl ?_
          refine mw_il (i := 8) (pc' := 454) (by decide +kernel) rfl ?_
          obtain ⟨r98, h16⟩ := h15
          refine hX10_moveCamera (X := 100) (Y := 3000) (by decide +kernel) r98 rfl h16 (fun v99 r99 h17 => ?_); clear h16
          refine mw_c (v := (-2)) (pc' := 459) (by decide +kernel) ?_
          refine mw_ifn (ins := .if_icmp .ne 7) (t := 466) (pc' := 462) (by decide +kernel) rfl rfl rfl h17 (fun p18 h18 => ?_) (fun p18 h18 => ?_) <;> clear h17
          · refine mw_c (v := 0) (pc' := 467) (by decide +kernel) ?_
            exact (vwL_acts_b467) h18
          · refine mw_c (v := 1) (pc' := 463) (by decide +kernel) ?_
            refine mw_go (t := 467) (by decide +kernel) ?_
            exact (vwL_acts_b467) h18
  rw [if_neg e3] at h1
  by_cases e4 : v16 = 4
  · have h2 := h1
    rw [if_pos e4] at h2
    clear h1
    refine mw_sw (v := 4) (t := 505) e4 (by decide +kernel) ?_
    refine mw_ldv (t := 1) (i := 9) (v := va_rf s0) (pc' := 507) (by decide +kernel) rfl (isTy_rf _) ?_
    refine mw_nul (o := 21) (t := 528) (x := s0) (by decide +kernel) h2 (fun p3 h3 => ?_) (fun p3 h3 => ?_) <;> clear h2
    · exact (vwL_acts_b528) h3
    · refine mw_rl (i := 0) (pc' := 511) (by decide +kernel) rfl ?_
      refine mw_rl (i := 1) (pc' := 512) (by decide +kernel) rfl ?_
      refine mw_ldv (t := 1) (i := 9) (v := va_rf s0) (pc' := 514) (by decide +kernel) rfl (isTy_rf _) ?_
      refine mw_il (i := 3) (pc' := 515) (by decide +kernel) rfl ?_
      refine mw_il (i := 4) (pc' := 517) (by decide +kernel) rfl ?_
      refine mw_rm (by decide +kernel) h3 (fun v105 h4 => ?_); clear h3
      refine mw_il (i := 3) (pc' := 519) (by decide +kernel) rfl ?_
      refine mw_c (v := 13) (pc' := 521) (by decide +kernel) ?_
      refine mw_dv (by decide +kernel) h4 (fun v106 h5 => ?_); clear h4
      obtain ⟨n107, e9, h6⟩ := wBd h5
      subst e9; clear h5
      obtain ⟨r108, h7⟩ := h6
      refine mwx_I (q := 181) (na := 5) (ce := 20) (sl := 200) (X := 100) (Y := 3000) (as := [.int v106, .int v105, .ref n107, .ref l1, .ref l0]) (by decide +kernel) r108 rfl rfl (by rw [show mL 181 = 7 from by decide +kernel]; rfl) rfl (fun z => absurd z (by decide +kernel)) (fun z => absurd z (by decide +kernel)) (vwL_casts h7) (fun v109 t109 i109 j109 h8 => ?_); clear h7
      refine mw_if (ins := .ifCond .eq 7) (t := 532) (pc' := 528) (by decide +kernel) rfl rfl rfl h8 (fun p9 h9 => ?_) (fun p9 h9 => ?_) <;> clear h8
      · refine mw_c (v := 0) (pc' := 533) (by decide +kernel) ?_
        exact (vwL_acts_b533) h9
      · exact (vwL_acts_b528) h9
  rw [if_neg e4] at h1
  by_cases e5 : v16 = 5
  · have h2 := h1
    rw [if_pos e5] at h2
    clear h1
    refine mw_sw (v := 5) (t := 534) e5 (by decide +kernel) ?_
    refine mw_ldv (t := 1) (i := 9) (v := va_rf s0) (pc' := 536) (by decide +kernel) rfl (isTy_rf _) ?_
    refine mw_nnl (o := 16) (t := 552) (x := s0) (by decide +kernel) h2 (fun p3 h3 => ?_) (fun p3 h3 => ?_) <;> clear h2
    · refine mw_rl (i := 0) (pc' := 540) (by decide +kernel) rfl ?_
      obtain ⟨r120, h4⟩ := h3
      refine hX10_faults (X := 100) (Y := 3000) (by decide +kernel) r120 rfl h4 (fun v121 h5 => ?_); clear h4
      refine mw_ifn (ins := .ifCond .ne 7) (t := 550) (pc' := 546) (by decide +kernel) rfl rfl rfl h5 (fun p6 h6 => ?_) (fun p6 h6 => ?_) <;> clear h5
      · refine mw_c (v := 0) (pc' := 551) (by decide +kernel) ?_
        exact (vwL_acts_b551) h6
      · refine mw_c (v := 1) (pc' := 547) (by decide +kernel) ?_
        refine mw_go (t := 551) (by decide +kernel) ?_
        exact (vwL_acts_b551) h6
    · refine mw_ldv (t := 1) (i := 9) (v := va_rf s0) (pc' := 554) (by decide +kernel) rfl (isTy_rf _) ?_
      refine mw_c (v := 5) (pc' := 555) (by decide +kernel) ?_
      obtain ⟨n110, e9, h4⟩ := wBd h3
      subst e9; clear h3
      refine mw_al (by decide +kernel) h4 (fun v111 h5 => ?_); clear h4
      refine mw_is (i := 11) (pc' := 558) (L' := [some (.ref l0), some (.ref l1), some (.int l2), some (.int l3), some (.int l4), some (.int l5), some (.int l6), some (.int l7), some (.int l8), some (.ref n110), d10, some (.int v111), d12]) (by decide +kernel) rfl rfl ?_
      refine mw_rl (i := 9) (pc' := 560) (by decide +kernel) rfl ?_
      refine mw_c (v := 5) (pc' := 561) (by decide +kernel) ?_
      refine mw_c (v := 1) (pc' := 562) (by decide +kernel) ?_
      refine mw_il (i := 3) (pc' := 563) (by decide +kernel) rfl ?_
      refine mw_c (v := 9) (pc' := 565) (by decide +kernel) ?_
      refine mw_dv (by decide +kernel) h5 (fun v112 h6 => ?_); clear h5
      refine mw_c (v := 99) (pc' := 568) (by decide +kernel) ?_
      refine mw_rm (by decide +kernel) h6 (fun v113 h7 => ?_); clear h6
      refine mw_a (ins := .iadd) (pc' := 570) (by decide +kernel) rfl ?_
      refine mw_ast (by decide +kernel) h7 (fun v114 h8 => ?_); clear h7
      refine mw_rl (i := 0) (pc' := 572) (by decide +kernel) rfl ?_
      refine mw_il (i := 3) (pc' := 573) (by decide +kernel) rfl ?_
      refine mw_il (i := 4) (pc' := 575) (by decide +kernel) rfl ?_
      refine mw_rm (by decide +kernel) h8 (fun v115 h9 => ?_); clear h8
      refine mw_rl (i := 9) (pc' := 578) (by decide +kernel) rfl ?_
      refine mw_c (v := 5) (pc' := 579) (by decide +kernel) ?_
      refine mw_al (by decide +kernel) h9 (fun v116 h10 => ?_); clear h9
      obtain ⟨r117, h11⟩ := h10
      refine hX10_setLength (X := 100) (Y := 3000) (by decide +kernel) r117 rfl h11 (fun v118 r118 h12 => ?_); clear h11
      refine mw_il (i := 11) (pc' := 585) (by decide +kernel) rfl ?_
      refine mw_ifn (ins := .if_icmp .ne 7) (t := 592) (pc' := 588) (by decide +kernel) rfl rfl rfl h12 (fun p13 h13 => ?_) (fun p13 h13 => ?_) <;> clear h12
      · refine mw_c (v := 0) (pc' := 593) (by decide +kernel) ?_
        exact (vwL_acts_b593) h13
      · refine mw_c (v := 1) (pc' := 589) (by decide +kernel) ?_
        refine mw_go (t := 593) (by decide +kernel) ?_
        exact (vwL_acts_b593) h13
  rw [if_neg e5] at h1
  by_cases e6 : v16 = 6
  · have h2 := h1
    rw [if_pos e6] at h2
    clear h1
    refine mw_sw (v := 6) (t := 594) e6 (by decide +kernel) ?_
    refine mw_ldv (t := 1) (i := 9) (v := va_rf s0) (pc' := 596) (by decide +kernel) rfl (isTy_rf _) ?_
    refine mw_nul (o := 22) (t := 618) (x := s0) (by decide +kernel) h2 (fun p3 h3 => ?_) (fun p3 h3 => ?_) <;> clear h2
    · exact (vwL_acts_b618) h3
    · refine mw_rl (i := 0) (pc' := 600) (by decide +kernel) rfl ?_
      refine mw_rl (i := 1) (pc' := 601) (by decide +kernel) rfl ?_
      refine mw_il (i := 3) (pc' := 602) (by decide +kernel) rfl ?_
      refine mw_il (i := 4) (pc' := 604) (by decide +kernel) rfl ?_
      refine mw_rm (by decide +kernel) h3 (fun v124 h4 => ?_); clear h3
      refine mw_il (i := 3) (pc' := 606) (by decide +kernel) rfl ?_
      refine mw_c (v := 17) (pc' := 608) (by decide +kernel) ?_
      refine mw_dv (by decide +kernel) h4 (fun v125 h5 => ?_); clear h4
      refine mw_il (i := 4) (pc' := 611) (by decide +kernel) rfl ?_
      refine mw_rm (by decide +kernel) h5 (fun v126 h6 => ?_); clear h5
      obtain ⟨r127, h7⟩ := h6
      refine mwx_I (q := 182) (na := 4) (ce := 10) (sl := 100) (X := 100) (Y := 3000) (as := [.int v126, .int v124, .ref l1, .ref l0]) (by decide +kernel) r127 rfl rfl (by rw [show mL 182 = 5 from by decide +kernel]; rfl) rfl (fun z => absurd z (by decide +kernel)) (fun z => absurd z (by decide +kernel)) (vwL_shifts h7) (fun v128 t128 i128 j128 h8 => ?_); clear h7
      refine mw_if (ins := .ifCond .eq 7) (t := 622) (pc' := 618) (by decide +kernel) rfl rfl rfl h8 (fun p9 h9 => ?_) (fun p9 h9 => ?_) <;> clear h8
      · refine mw_c (v := 0) (pc' := 623) (by decide +kernel) ?_
        exact (vwL_acts_b623) h9
      · exact (vwL_acts_b618) h9
  rw [if_neg e6] at h1
  by_cases e7 : v16 = 7
  · have h2 := h1
    rw [if_pos e7] at h2
    clear h1
    refine mw_sw (v := 7) (t := 624) e7 (by decide +kernel) ?_
    refine mw_il (i := 4) (pc' := 626) (by decide +kernel) rfl ?_
    refine mw_c (v := 4) (pc' := 627) (by decide +kernel) ?_
    refine mw_if (ins := .if_icmp .ge 5) (t := 632) (pc' := 630) (by decide +kernel) rfl rfl rfl h2 (fun p3 h3 => ?_) (fun p3 h3 => ?_) <;> clear h2
    · refine mw_rl (i := 1) (pc' := 633) (by decide +kernel) rfl ?_
      refine mw_fR (ix := 48) (t := 9) (j := 3) (md := 1) (by decide +kernel) h3 (fun v129 h4 => ?_); clear h3
      refine mw_il (i := 3) (pc' := 637) (by decide +kernel) rfl ?_
      refine mw_il (i := 4) (pc' := 639) (by decide +kernel) rfl ?_
      refine mw_rm (by decide +kernel) h4 (fun v130 h5 => ?_); clear h4
      obtain ⟨q131, h6⟩ := h5
      obtain ⟨r132, h7⟩ := h6
      refine mwx_R (q := 140) (na := 2) (ce := 0) (sl := 0) (X := 100) (Y := 3000) (as := [.int v130, .ref v129]) (by decide +kernel) r132 rfl rfl (by rw [show mL 140 = 4 from by decide +kernel]; rfl) rfl (fun _ => rv_of q131 (by decide +kernel)) (fun z => absurd z (by decide +kernel)) (vwJx4a65c_remove_915e3 h7) (fun v133 t133 i133 j133 h8 => ?_); clear h7
      refine mw_cst (ix := 97) (v := 1) (by decide +kernel) h8 (fun h9 => ?_); clear h8
      refine mw_rs (i := 12) (pc' := 648) (L' := [some (.ref l0), some (.ref l1), some (.int l2), some (.int l3), some (.int l4), some (.int l5), some (.int l6), some (.int l7), some (.int l8), some (va_rf s0), d10, d11, some (.ref v133)]) (by decide +kernel) rfl rfl ?_
      refine mw_rl (i := 0) (pc' := 649) (by decide +kernel) rfl ?_
      refine mw_il (i := 3) (pc' := 650) (by decide +kernel) rfl ?_
      refine mw_il (i := 4) (pc' := 652) (by decide +kernel) rfl ?_
      refine mw_rm (by decide +kernel) h9 (fun v134 h10 => ?_); clear h9
      obtain ⟨r135, h11⟩ := h10
      refine hX10_drop (X := 100) (Y := 3000) (by decide +kernel) r135 rfl h11 (fun v136 r136 h12 => ?_); clear h11
      refine mw_il (i := 4) (pc' := 658) (by decide +kernel) rfl ?_
      refine mw_c (v := 1) (pc' := 659) (by decide +kernel) ?_
      refine mw_a (ins := .isub) (pc' := 660) (by decide +kernel) rfl ?_
      refine mw_ifn (ins := .if_icmp .ne 7) (t := 667) (pc' := 663) (by decide +kernel) rfl rfl rfl h12 (fun p13 h13 => ?_) (fun p13 h13 => ?_) <;> clear h12
      · refine mw_c (v := 0) (pc' := 668) (by decide +kernel) ?_
        exact (vwL_acts_b668) h13
      · refine mw_c (v := 1) (pc' := 664) (by decide +kernel) ?_
        refine mw_go (t := 668) (by decide +kernel) ?_
        exact (vwL_acts_b668) h13
    · refine mw_c (v := 1) (pc' := 631) (by decide +kernel) ?_
      obtain ⟨r138, h4⟩ := h3
      exact mw_rz (X := 100) (Y := 3000) (by decide +kernel) (by decide) r138 h4
  rw [if_neg e7] at h1
  refine mw_sd (n := 8) (t := 669) (sw_out8 e0 e1 e2 e3 e4 e5 e6 e7) (by decide +kernel) ?_
  refine mw_ldv (t := 1) (i := 9) (v := va_rf s0) (pc' := 671) (by decide +kernel) rfl (isTy_rf _) ?_
  refine mw_nul (o := 17) (t := 688) (x := s0) (by decide +kernel) h1 (fun p2 h2 => ?_) (fun p2 h2 => ?_) <;> clear h1
  · exact (vwL_acts_b688) h2
  · refine mw_rl (i := 0) (pc' := 675) (by decide +kernel) rfl ?_
    refine mw_rl (i := 1) (pc' := 676) (by decide +kernel) rfl ?_
    refine mw_ldv (t := 1) (i := 9) (v := va_rf s0) (pc' := 678) (by decide +kernel) rfl (isTy_rf _) ?_
    refine mw_il (i := 3) (pc' := 679) (by decide +kernel) rfl ?_
    refine mw_il (i := 4) (pc' := 681) (by decide +kernel) rfl ?_
    refine mw_rm (by decide +kernel) h2 (fun v140 h3 => ?_); clear h2
    obtain ⟨n141, e9, h4⟩ := wBd h3
    subst e9; clear h3
    obtain ⟨r142, h5⟩ := h4
    refine mwx_I (q := 183) (na := 4) (ce := 20) (sl := 200) (X := 100) (Y := 3000) (as := [.int v140, .ref n141, .ref l1, .ref l0]) (by decide +kernel) r142 rfl rfl (by rw [show mL 183 = 6 from by decide +kernel]; rfl) rfl (fun z => absurd z (by decide +kernel)) (fun z => absurd z (by decide +kernel)) (vwL_flips h5) (fun v143 t143 i143 j143 h6 => ?_); clear h5
    refine mw_if (ins := .ifCond .eq 7) (t := 692) (pc' := 688) (by decide +kernel) rfl rfl rfl h6 (fun p7 h7 => ?_) (fun p7 h7 => ?_) <;> clear h6
    · refine mw_c (v := 0) (pc' := 693) (by decide +kernel) ?_
      exact (vwL_acts_b693) h7
    · exact (vwL_acts_b688) h7
def wL_acts (K J : Nat → Nat) (fu : Nat) (sh : HS) (I : HI) (R : HR) (l0 : Nat) (l1 : Nat) (l2 : Int32) (F : VF) : Prop :=
  wB (oD l2 9) fun v1 =>
  wB (oR sh R l1 9 3) fun v2 =>
  rcvB sh v2 10 = true ∧
  (0 ≤ 100 ∧ 0 ≤ 3000) ∧
  wJx4a65c_size_8abf5 K J fu sh I R v2 (qwI fun v5 t5 i5 j5 =>
  wB (oR t5 j5 l1 9 4) fun v6 =>
  wB (oLn t5 v6) fun v7 =>
  wB (oM v1 v7) fun v8 =>
  wB (oD v1 3) fun v9 =>
  (0 ≤ 100 ∧ 0 ≤ 3000) ∧
  wL_someActor K J fu t5 i5 j5 l1 v8 v9 (qwI fun v11 t11 i11 j11 =>
  wB (oD v1 7) fun v12 =>
  wB (oM v12 12) fun v13 =>
  wB (oD v1 91) fun v14 =>
  wB (oM v14 12) fun v15 =>
  if v5 ≤ 0 then
    ((wL_acts_b87 K J fu F) t11 i11 j11 0 0 l0 l1 l2 v1 v5 v8 v11 (30 + (10 * v13)) (30 + (10 * v15)) none)
  else
    (wB (oR t11 j11 l1 9 3) fun v144 =>
    wB (oM v1 v5) fun v145 =>
    rcvB t11 v144 10 = true ∧
    (0 ≤ 100 ∧ 0 ≤ 3000) ∧
    wJx4a65c_get_915e3 K J fu t11 i11 j11 v144 v145 (qwR fun v148 t148 i148 j148 =>
    wB (oKt t148 v148 1) fun _ =>
    (wL_acts_b87 K J fu F) t148 i148 j148 0 0 l0 l1 l2 v1 v5 v8 v11 (30 + (10 * v13)) (30 + (10 * v15)) (some v148)))))
theorem vwL_acts {l : Launch} {K J : Nat → Nat} {fu : Nat} {sh : HS} {I : HI} {R : HR} {l0 : Nat} {l1 : Nat} {l2 : Int32} {F : VF} (h0 : wL_acts K J fu sh I R l0 l1 l2 F) : MW l K J 180 0 (ent (mL 180) [.ref l0, .ref l1, .int l2]) [] sh I R (0, 0) F := by
  unfold wL_acts at h0
  have ml : mL 180 = 13 := by decide +kernel
  rw [ml]
  show MW l K J 180 0 [some (.ref l0), some (.ref l1), some (.int l2), none, none, none, none, none, none, none, none, none, none] [] sh I R (0, 0) F
  refine mw_il (i := 2) (pc' := 1) (by decide +kernel) rfl ?_
  refine mw_c (v := 9) (pc' := 3) (by decide +kernel) ?_
  refine mw_dv (by decide +kernel) h0 (fun v1 h1 => ?_); clear h0
  refine mw_is (i := 3) (pc' := 5) (L' := [some (.ref l0), some (.ref l1), some (.int l2), some (.int v1), none, none, none, none, none, none, none, none, none]) (by decide +kernel) rfl rfl ?_
  refine mw_rl (i := 1) (pc' := 6) (by decide +kernel) rfl ?_
  refine mw_fR (ix := 48) (t := 9) (j := 3) (md := 1) (by decide +kernel) h1 (fun v2 h2 => ?_); clear h1
  obtain ⟨q3, h3⟩ := h2
  obtain ⟨r4, h4⟩ := h3
  refine mwx_I (q := 133) (na := 1) (ce := 0) (sl := 0) (X := 100) (Y := 3000) (as := [.ref v2]) (by decide +kernel) r4 rfl rfl (by rw [show mL 133 = 1 from by decide +kernel]; rfl) rfl (fun _ => rv_of q3 (by decide +kernel)) (fun z => absurd z (by decide +kernel)) (vwJx4a65c_size_8abf5 h4) (fun v5 t5 i5 j5 h5 => ?_); clear h4
  refine mw_is (i := 4) (pc' := 14) (L' := [some (.ref l0), some (.ref l1), some (.int l2), some (.int v1), some (.int v5), none, none, none, none, none, none, none, none]) (by decide +kernel) rfl rfl ?_
  refine mw_il (i := 3) (pc' := 15) (by decide +kernel) rfl ?_
  refine mw_rl (i := 1) (pc' := 16) (by decide +kernel) rfl ?_
  refine mw_fR (ix := 28) (t := 9) (j := 4) (md := 1) (by decide +kernel) h5 (fun v6 h6 => ?_); clear h5
  refine mw_ln (by decide +kernel) h6 (fun v7 h7 => ?_); clear h6
  refine mw_rm (by decide +kernel) h7 (fun v8 h8 => ?_); clear h7
  refine mw_is (i := 5) (pc' := 23) (L' := [some (.ref l0), some (.ref l1), some (.int l2), some (.int v1), some (.int v5), some (.int v8), none, none, none, none, none, none, none]) (by decide +kernel) rfl rfl ?_
  refine mw_rl (i := 1) (pc' := 24) (by decide +kernel) rfl ?_
  refine mw_il (i := 5) (pc' := 26) (by decide +kernel) rfl ?_
  refine mw_il (i := 3) (pc' := 27) (by decide +kernel) rfl ?_
  refine mw_c (v := 3) (pc' := 28) (by decide +kernel) ?_
  refine mw_dv (by decide +kernel) h8 (fun v9 h9 => ?_); clear h8
  obtain ⟨r10, h10⟩ := h9
  refine mwx_I (q := 176) (na := 3) (ce := 0) (sl := 0) (X := 100) (Y := 3000) (as := [.int v9, .int v8, .ref l1]) (by decide +kernel) r10 rfl rfl (by rw [show mL 176 = 4 from by decide +kernel]; rfl) rfl (fun z => absurd z (by decide +kernel)) (fun z => absurd z (by decide +kernel)) (vwL_someActor h10) (fun v11 t11 i11 j11 h11 => ?_); clear h10
  refine mw_is (i := 6) (pc' := 34) (L' := [some (.ref l0), some (.ref l1), some (.int l2), some (.int v1), some (.int v5), some (.int v8), some (.int v11), none, none, none, none, none, none]) (by decide +kernel) rfl rfl ?_
  refine mw_c (v := 30) (pc' := 36) (by decide +kernel) ?_
  refine mw_c (v := 10) (pc' := 38) (by decide +kernel) ?_
  refine mw_il (i := 3) (pc' := 39) (by decide +kernel) rfl ?_
  refine mw_c (v := 7) (pc' := 41) (by decide +kernel) ?_
  refine mw_dv (by decide +kernel) h11 (fun v12 h12 => ?_); clear h11
  refine mw_c (v := 12) (pc' := 44) (by decide +kernel) ?_
  refine mw_rm (by decide +kernel) h12 (fun v13 h13 => ?_); clear h12
  refine mw_a (ins := .imul) (pc' := 46) (by decide +kernel) rfl ?_
  refine mw_a (ins := .iadd) (pc' := 47) (by decide +kernel) rfl ?_
  refine mw_is (i := 7) (pc' := 49) (L' := [some (.ref l0), some (.ref l1), some (.int l2), some (.int v1), some (.int v5), some (.int v8), some (.int v11), some (.int (30 + (10 * v13))), none, none, none, none, none]) (by decide +kernel) rfl rfl ?_
  refine mw_c (v := 30) (pc' := 51) (by decide +kernel) ?_
  refine mw_c (v := 10) (pc' := 53) (by decide +kernel) ?_
  refine mw_il (i := 3) (pc' := 54) (by decide +kernel) rfl ?_
  refine mw_c (v := 91) (pc' := 56) (by decide +kernel) ?_
  refine mw_dv (by decide +kernel) h13 (fun v14 h14 => ?_); clear h13
  refine mw_c (v := 12) (pc' := 59) (by decide +kernel) ?_
  refine mw_rm (by decide +kernel) h14 (fun v15 h15 => ?_); clear h14
  refine mw_a (ins := .imul) (pc' := 61) (by decide +kernel) rfl ?_
  refine mw_a (ins := .iadd) (pc' := 62) (by decide +kernel) rfl ?_
  refine mw_is (i := 8) (pc' := 64) (L' := [some (.ref l0), some (.ref l1), some (.int l2), some (.int v1), some (.int v5), some (.int v8), some (.int v11), some (.int (30 + (10 * v13))), some (.int (30 + (10 * v15))), none, none, none, none]) (by decide +kernel) rfl rfl ?_
  refine mw_il (i := 4) (pc' := 66) (by decide +kernel) rfl ?_
  refine mw_if (ins := .ifCond .le 20) (t := 86) (pc' := 69) (by decide +kernel) rfl rfl rfl h15 (fun p16 h16 => ?_) (fun p16 h16 => ?_) <;> clear h15
  · refine mw_null (by decide +kernel) ?_
    exact (vwL_acts_b87) h16
  · refine mw_rl (i := 1) (pc' := 70) (by decide +kernel) rfl ?_
    refine mw_fR (ix := 48) (t := 9) (j := 3) (md := 1) (by decide +kernel) h16 (fun v144 h17 => ?_); clear h16
    refine mw_il (i := 3) (pc' := 74) (by decide +kernel) rfl ?_
    refine mw_il (i := 4) (pc' := 76) (by decide +kernel) rfl ?_
    refine mw_rm (by decide +kernel) h17 (fun v145 h18 => ?_); clear h17
    obtain ⟨q146, h19⟩ := h18
    obtain ⟨r147, h20⟩ := h19
    refine mwx_R (q := 135) (na := 2) (ce := 0) (sl := 0) (X := 100) (Y := 3000) (as := [.int v145, .ref v144]) (by decide +kernel) r147 rfl rfl (by rw [show mL 135 = 2 from by decide +kernel]; rfl) rfl (fun _ => rv_of q146 (by decide +kernel)) (fun z => absurd z (by decide +kernel)) (vwJx4a65c_get_915e3 h20) (fun v148 t148 i148 j148 h21 => ?_); clear h20
    refine mw_cst (ix := 97) (v := 1) (by decide +kernel) h21 (fun h22 => ?_); clear h21
    refine mw_go (t := 87) (by decide +kernel) ?_
    exact (vwL_acts_b87) h22
