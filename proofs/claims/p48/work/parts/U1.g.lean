section ST
variable {l : Launch} {K J : Nat → Nat} {mi pc : Nat} {L : VL} {rest : List Value} {sh : HS} {I : HI} {R : HR} {c : Nat × Nat} {F : VF}
theorem hX10_load2 {fu X Y l0 : Nat} {P : Int32 × (HI × HR) → Prop} (hq : cQx mi pc 65 1 0 0 X Y = true) (hc : c.1 + 0 ≤ X ∧ c.2 + 0 ≤ Y) (hr : Nat.ble (catS rest) 8 = true) (hw : wB (fX10_load fu sh I R l0) P) (kk : ∀ r, P r → MW l K J mi (pc + 3) L ((.int r.1) :: rest) sh r.2.1 r.2.2 (c.1 + 0, c.2 + 0) F) : MW l K J mi pc L (.ref l0 :: rest) sh I R c F := by
  obtain ⟨r, h1, h2⟩ := wBd hw
  refine hX10_load (fu := fu) (P := fun v r => v = r.1 ∧ P r) hq hc hr (by rw [h1]; exact ⟨rfl, h2⟩) (fun v r h => ?_)
  obtain ⟨rfl, h⟩ := h
  exact kk r h
end ST
/- ('L', 'loaded') -/
def wL_loaded_b35 (K J : Nat → Nat) (fu : Nat) (F : VF) (sh : HS) (I : HI) (R : HR) (c1 : Nat) (c2 : Nat) (s0 : Option Nat) : Prop :=
  (c1 ≤ 2100 ∧ c2 ≤ 1320000) ∧
  F (.inl (some (va_rf s0))) sh I R
theorem vwL_loaded_b35 {l : Launch} {K J : Nat → Nat} {fu : Nat} {F : VF} {sh : HS} {I : HI} {R : HR} {c1 : Nat} {c2 : Nat} {s0 : Option Nat} {d0 d1 : Option Value} (h0 : wL_loaded_b35 K J fu F sh I R c1 c2 s0) : MW l K J 179 35 [d0, d1] [va_rf s0] sh I R (c1, c2) F := by
  unfold wL_loaded_b35 at h0
  obtain ⟨r16, h1⟩ := h0
  exact mw_rr (v := s0) (X := 2100) (Y := 1320000) (by decide +kernel) r16 h1
def wL_loaded (K J : Nat → Nat) (fu : Nat) (sh : HS) (I : HI) (R : HR) (l0 : Nat) (F : VF) : Prop :=
  (1 ≤ 2100 ∧ 14 ≤ 1320000) ∧
  wNew sh I R 8 14 fun a2 t2 i2 j2 =>
  (316 ≤ 2100 ∧ 102368 ≤ 1320000) ∧
  wX10_init t2 i2 j2 a2 fun t4 i4 j4 =>
  rcvB t4 l0 9 = true ∧
  (1816 ≤ 2100 ∧ 1302368 ≤ 1320000) ∧
  wX11_said K J fu t4 i4 j4 l0 (qwR fun v7 t7 i7 j7 =>
  (2016 ≤ 2100 ∧ 1303568 ≤ 1320000) ∧
  wL_feed K J fu t7 i7 j7 a2 v7 (qwV fun t9 i9 j9 =>
  (2016 ≤ 2100 ∧ 1303568 ≤ 1320000) ∧
  wB (fX10_load fu t9 i9 j9 a2) fun r11 =>
  wB (oR t9 r11.2.2 l0 9 3) fun v12 =>
  rcvB t9 v12 10 = true ∧
  (2016 ≤ 2100 ∧ 1303568 ≤ 1320000) ∧
  wJx4a65c_size_8abf5 K J fu t9 r11.2.1 r11.2.2 v12 (qwI fun v15 t15 i15 j15 =>
  if r11.1 = v15 then
    ((wL_loaded_b35 K J fu F) t15 i15 j15 2016 1303568 (some a2))
  else
    ((wL_loaded_b35 K J fu F) t15 i15 j15 2016 1303568 none))))
theorem vwL_loaded {l : Launch} {K J : Nat → Nat} {fu : Nat} {sh : HS} {I : HI} {R : HR} {l0 : Nat} {F : VF} (h0 : wL_loaded K J fu sh I R l0 F) : MW l K J 179 0 (ent (mL 179) [.ref l0]) [] sh I R (0, 0) F := by
  unfold wL_loaded at h0
  have ml : mL 179 = 2 := by decide +kernel
  rw [ml]
  show MW l K J 179 0 [some (.ref l0), none] [] sh I R (0, 0) F
  obtain ⟨r1, h1⟩ := h0
  refine mw_new (ix := 69) (t := 8) (N := 14) (X := 2100) (Y := 1320000) (by decide +kernel) r1 h1 (fun a2 t2 i2 j2 h2 => ?_); clear h1
  refine mw_a (ins := .dup) (pc' := 4) (by decide +kernel) rfl ?_
  obtain ⟨r3, h3⟩ := h2
  refine hX10_init (X := 2100) (Y := 1320000) (by decide +kernel) r3 rfl h3 (fun t4 i4 j4 h4 => ?_); clear h3
  refine mw_rs (i := 1) (pc' := 8) (L' := [some (.ref l0), some (.ref a2)]) (by decide +kernel) rfl rfl ?_
  refine mw_rl (i := 1) (pc' := 9) (by decide +kernel) rfl ?_
  refine mw_rl (i := 0) (pc' := 10) (by decide +kernel) rfl ?_
  obtain ⟨q5, h5⟩ := h4
  obtain ⟨r6, h6⟩ := h5
  refine mwx_R (q := 129) (na := 1) (ce := 1500) (sl := 1200000) (X := 2100) (Y := 1320000) (as := [.ref l0]) (by decide +kernel) r6 rfl rfl (by rw [show mL 129 = 5 from by decide +kernel]; rfl) rfl (fun _ => rv_of q5 (by decide +kernel)) (fun z => absurd z (by decide +kernel)) (vwX11_said h6) (fun v7 t7 i7 j7 h7 => ?_); clear h6
  obtain ⟨r8, h8⟩ := h7
  refine mwx_V (q := 178) (na := 2) (ce := 200) (sl := 1200) (X := 2100) (Y := 1320000) (as := [.ref v7, .ref a2]) (by decide +kernel) r8 rfl rfl (by rw [show mL 178 = 5 from by decide +kernel]; rfl) rfl (fun z => absurd z (by decide +kernel)) (fun z => absurd z (by decide +kernel)) (vwL_feed h8) (fun t9 i9 j9 h9 => ?_); clear h8
  refine mw_rl (i := 1) (pc' := 17) (by decide +kernel) rfl ?_
  obtain ⟨r10, h10⟩ := h9
  refine hX10_load2 (X := 2100) (Y := 1320000) (by decide +kernel) r10 rfl h10 (fun r11 h11 => ?_); clear h10
  refine mw_rl (i := 0) (pc' := 21) (by decide +kernel) rfl ?_
  refine mw_fR (ix := 48) (t := 9) (j := 3) (md := 1) (by decide +kernel) h11 (fun v12 h12 => ?_); clear h11
  obtain ⟨q13, h13⟩ := h12
  obtain ⟨r14, h14⟩ := h13
  refine mwx_I (q := 133) (na := 1) (ce := 0) (sl := 0) (X := 2100) (Y := 1320000) (as := [.ref v12]) (by decide +kernel) r14 rfl rfl (by rw [show mL 133 = 1 from by decide +kernel]; rfl) rfl (fun _ => rv_of q13 (by decide +kernel)) (fun z => absurd z (by decide +kernel)) (vwJx4a65c_size_8abf5 h14) (fun v15 t15 i15 j15 h15 => ?_); clear h14
  refine mw_ifn (ins := .if_icmp .ne 7) (t := 34) (pc' := 30) (by decide +kernel) rfl rfl rfl h15 (fun p16 h16 => ?_) (fun p16 h16 => ?_) <;> clear h15
  · refine mw_null (by decide +kernel) ?_
    exact (vwL_loaded_b35) h16
  · refine mw_rl (i := 1) (pc' := 31) (by decide +kernel) rfl ?_
    refine mw_go (t := 35) (by decide +kernel) ?_
    exact (vwL_loaded_b35) h16
/- ('L', 'wrongHolds') -/
set_option maxRecDepth 100000 in
def wL_wrongHolds_b31 (K J : Nat → Nat) (fu : Nat) (F : VF) (sh : HS) (I : HI) (R : HR) (c1 : Nat) (c2 : Nat) : Prop :=
  (c1 ≤ 2700 ∧ c2 ≤ 1330000) ∧
  F (.inl (some (.int 0))) sh I R
set_option maxRecDepth 100000 in
set_option maxHeartbeats 4000000 in
theorem vwL_wrongHolds_b31 {l : Launch} {K J : Nat → Nat} {fu : Nat} {F : VF} {sh : HS} {I : HI} {R : HR} {c1 : Nat} {c2 : Nat} {d0 d1 d2 d3 d4 d5 : Option Value} (h0 : wL_wrongHolds_b31 K J fu F sh I R c1 c2) : MW l K J 184 31 [d0, d1, d2, d3, d4, d5] [] sh I R (c1, c2) F := by
  unfold wL_wrongHolds_b31 at h0
  refine mw_c (v := 0) (pc' := 32) (by decide +kernel) ?_
  obtain ⟨r7, h1⟩ := h0
  exact mw_rz (X := 2700) (Y := 1330000) (by decide +kernel) (by decide) r7 h1
set_option maxRecDepth 100000 in
def wL_wrongHolds_b120 (K J : Nat → Nat) (fu : Nat) (F : VF) (sh : HS) (I : HI) (R : HR) (c1 : Nat) (c2 : Nat) : Prop :=
  (c1 ≤ 2700 ∧ c2 ≤ 1330000) ∧
  F (.inl (some (.int 0))) sh I R
set_option maxRecDepth 100000 in
set_option maxHeartbeats 4000000 in
theorem vwL_wrongHolds_b120 {l : Launch} {K J : Nat → Nat} {fu : Nat} {F : VF} {sh : HS} {I : HI} {R : HR} {c1 : Nat} {c2 : Nat} {d0 d1 d2 d3 d4 d5 : Option Value} (h0 : wL_wrongHolds_b120 K J fu F sh I R c1 c2) : MW l K J 184 120 [d0, d1, d2, d3, d4, d5] [] sh I R (c1, c2) F := by
  unfold wL_wrongHolds_b120 at h0
  refine mw_c (v := 0) (pc' := 121) (by decide +kernel) ?_
  obtain ⟨r45, h1⟩ := h0
  exact mw_rz (X := 2700) (Y := 1330000) (by decide +kernel) (by decide) r45 h1
set_option maxRecDepth 100000 in
def wL_wrongHolds_b146 (K J : Nat → Nat) (fu : Nat) (F : VF) (sh : HS) (I : HI) (R : HR) (c1 : Nat) (c2 : Nat) : Prop :=
  (c1 ≤ 2700 ∧ c2 ≤ 1330000) ∧
  F (.inl (some (.int 0))) sh I R
set_option maxRecDepth 100000 in
set_option maxHeartbeats 4000000 in
theorem vwL_wrongHolds_b146 {l : Launch} {K J : Nat → Nat} {fu : Nat} {F : VF} {sh : HS} {I : HI} {R : HR} {c1 : Nat} {c2 : Nat} {d0 d1 d2 d3 d4 d5 : Option Value} (h0 : wL_wrongHolds_b146 K J fu F sh I R c1 c2) : MW l K J 184 146 [d0, d1, d2, d3, d4, d5] [] sh I R (c1, c2) F := by
  unfold wL_wrongHolds_b146 at h0
  refine mw_c (v := 0) (pc' := 147) (by decide +kernel) ?_
  obtain ⟨r54, h1⟩ := h0
  exact mw_rz (X := 2700) (Y := 1330000) (by decide +kernel) (by decide) r54 h1
set_option maxRecDepth 100000 in
def wL_wrongHolds_b177 (K J : Nat → Nat) (fu : Nat) (F : VF) (sh : HS) (I : HI) (R : HR) (c1 : Nat) (c2 : Nat) (s0 : Int32) : Prop :=
  (c1 ≤ 2700 ∧ c2 ≤ 1330000) ∧
  (s0 = 0 ∨ s0 = 1) ∧ F (.inl (some (.int s0))) sh I R
set_option maxRecDepth 100000 in
set_option maxHeartbeats 4000000 in
theorem vwL_wrongHolds_b177 {l : Launch} {K J : Nat → Nat} {fu : Nat} {F : VF} {sh : HS} {I : HI} {R : HR} {c1 : Nat} {c2 : Nat} {s0 : Int32} {d0 d1 d2 d3 d4 d5 : Option Value} (h0 : wL_wrongHolds_b177 K J fu F sh I R c1 c2 s0) : MW l K J 184 177 [d0, d1, d2, d3, d4, d5] [.int s0] sh I R (c1, c2) F := by
  unfold wL_wrongHolds_b177 at h0
  obtain ⟨r61, h1⟩ := h0
  exact mw_rz (X := 2700) (Y := 1330000) (by decide +kernel) h1.1 r61 h1.2
set_option maxRecDepth 100000 in
def wL_wrongHolds_b176 (K J : Nat → Nat) (fu : Nat) (F : VF) (sh : HS) (I : HI) (R : HR) (c1 : Nat) (c2 : Nat) : Prop :=
  (wL_wrongHolds_b177 K J fu F) sh I R c1 c2 0
set_option maxRecDepth 100000 in
set_option maxHeartbeats 4000000 in
theorem vwL_wrongHolds_b176 {l : Launch} {K J : Nat → Nat} {fu : Nat} {F : VF} {sh : HS} {I : HI} {R : HR} {c1 : Nat} {c2 : Nat} {d0 d1 d2 d3 d4 d5 : Option Value} (h0 : wL_wrongHolds_b176 K J fu F sh I R c1 c2) : MW l K J 184 176 [d0, d1, d2, d3, d4, d5] [] sh I R (c1, c2) F := by
  unfold wL_wrongHolds_b176 at h0
  refine mw_c (v := 0) (pc' := 177) (by decide +kernel) ?_
  exact (vwL_wrongHolds_b177) h0
set_option maxRecDepth 100000 in
def wL_wrongHolds (K J : Nat → Nat) (fu : Nat) (sh : HS) (I : HI) (R : HR) (l0 : Nat) (l1 : Int32) (F : VF) : Prop :=
  (1 ≤ 2700 ∧ 14 ≤ 1330000) ∧
  wNew sh I R 8 14 fun a2 t2 i2 j2 =>
  (316 ≤ 2700 ∧ 102368 ≤ 1330000) ∧
  wX10_init t2 i2 j2 a2 fun t4 i4 j4 =>
  (316 ≤ 2700 ∧ 102368 ≤ 1330000) ∧
  wB (fX10_load fu t4 i4 j4 a2) fun r6 =>
  if r6.1 = ((-11) : Int32) then
    ((316 ≤ 2700 ∧ 102368 ≤ 1330000) ∧
    wB (fX10_errorPosition fu t4 r6.2.1 r6.2.2 a2) fun v9 =>
    if v9 = 0 then
      ((317 ≤ 2700 ∧ 102374 ≤ 1330000) ∧
      wB (fX10_faults fu t4 r6.2.1 r6.2.2 a2) fun v11 => hasW "java/lang/IllegalStateException" v11 ∧
      if (hasV v11) = 0 then
        ((wL_wrongHolds_b31 K J fu F) t4 r6.2.1 r6.2.2 317 102374)
      else
        (rcvB t4 l0 9 = true ∧
        (1817 ≤ 2700 ∧ 1302374 ≤ 1330000) ∧
        wX11_said K J fu t4 r6.2.1 r6.2.2 l0 (qwR fun v14 t14 i14 j14 =>
        rcvB t14 v14 14 = true ∧
        (1817 ≤ 2700 ∧ 1302374 ≤ 1330000) ∧
        wJ0_length_8abf5 K J fu t14 i14 j14 v14 (qwI fun v17 t17 i17 j17 =>
        wB (oM l1 v17) fun v18 =>
        (1818 ≤ 2700 ∧ 1302378 ≤ 1330000) ∧
        wNew t17 i17 j17 13 4 fun a20 t20 i20 j20 =>
        (1819 ≤ 2700 ∧ 1302394 ≤ 1330000) ∧
        wJ4_init_da8c8 K J fu t20 i20 j20 a20 (qwV fun t22 i22 j22 =>
        rcvB t22 v14 14 = true ∧
        (1821 ≤ 2700 ∧ 1303698 ≤ 1330000) ∧
        wJ0_substring_37a41 K J fu t22 i22 j22 v14 0 v18 (qwR fun v25 t25 i25 j25 =>
        rcvB t25 a20 13 = true ∧
        (1822 ≤ 2700 ∧ 1304998 ≤ 1330000) ∧
        wJ4_append_15ec4 K J fu t25 i25 j25 a20 v25 (qwR fun v28 t28 i28 j28 =>
        rcvB t28 v28 13 = true ∧
        (1823 ≤ 2700 ∧ 1306298 ≤ 1330000) ∧
        wJ4_append_15ec4 K J fu t28 i28 j28 v28 (K 3) (qwR fun v31 t31 i31 j31 =>
        rcvB t31 v14 14 = true ∧
        (1825 ≤ 2700 ∧ 1307602 ≤ 1330000) ∧
        wJ0_substring_b52d3 K J fu t31 i31 j31 v14 v18 (qwR fun v34 t34 i34 j34 =>
        rcvB t34 v31 13 = true ∧
        (1826 ≤ 2700 ∧ 1308902 ≤ 1330000) ∧
        wJ4_append_15ec4 K J fu t34 i34 j34 v31 v34 (qwR fun v37 t37 i37 j37 =>
        rcvB t37 v37 13 = true ∧
        (1828 ≤ 2700 ∧ 1310206 ≤ 1330000) ∧
        wJ4_toString_0e30d K J fu t37 i37 j37 v37 (qwR fun v40 t40 i40 j40 =>
        (2028 ≤ 2700 ∧ 1311406 ≤ 1330000) ∧
        wL_feed K J fu t40 i40 j40 a2 v40 (qwV fun t42 i42 j42 =>
        (2028 ≤ 2700 ∧ 1311406 ≤ 1330000) ∧
        wB (fX10_load fu t42 i42 j42 a2) fun r44 =>
        if ((-11) : Int32) < r44.1 then
          ((wL_wrongHolds_b120 K J fu F) t42 r44.2.1 r44.2.2 2028 1311406)
        else
          (if r44.1 < ((-14) : Int32) then
            ((wL_wrongHolds_b120 K J fu F) t42 r44.2.1 r44.2.2 2028 1311406)
          else
            ((2028 ≤ 2700 ∧ 1311406 ≤ 1330000) ∧
            wB (fX10_errorPosition fu t42 r44.2.1 r44.2.2 a2) fun v47 =>
            if v18 < v47 then
              ((wL_wrongHolds_b120 K J fu F) t42 r44.2.1 r44.2.2 2028 1311406)
            else
              ((2029 ≤ 2700 ∧ 1311412 ≤ 1330000) ∧
              wB (fX10_faults fu t42 r44.2.1 r44.2.2 a2) fun v49 => hasW "java/lang/IllegalStateException" v49 ∧
              if (hasV v49) = 0 then
                ((wL_wrongHolds_b120 K J fu F) t42 r44.2.1 r44.2.2 2029 1311412)
              else
                ((2229 ≤ 2700 ∧ 1312612 ≤ 1330000) ∧
                wL_feed K J fu t42 r44.2.1 r44.2.2 a2 (K 11) (qwV fun t51 i51 j51 =>
                (2229 ≤ 2700 ∧ 1312612 ≤ 1330000) ∧
                wB (fX10_load fu t51 i51 j51 a2) fun r53 =>
                if r53.1 = ((-12) : Int32) then
                  ((2229 ≤ 2700 ∧ 1312612 ≤ 1330000) ∧
                  wB (fX10_errorPosition fu t51 r53.2.1 r53.2.2 a2) fun v56 =>
                  if v56 = (19 : Int32) then
                    ((2429 ≤ 2700 ∧ 1313812 ≤ 1330000) ∧
                    wL_feed K J fu t51 r53.2.1 r53.2.2 a2 (K 10) (qwV fun t58 i58 j58 =>
                    (2429 ≤ 2700 ∧ 1313812 ≤ 1330000) ∧
                    wB (fX10_load fu t58 i58 j58 a2) fun r60 =>
                    if r60.1 = ((-13) : Int32) then
                      ((2429 ≤ 2700 ∧ 1313812 ≤ 1330000) ∧
                      wB (fX10_errorPosition fu t58 r60.2.1 r60.2.2 a2) fun v63 =>
                      if v63 = (42 : Int32) then
                        ((wL_wrongHolds_b177 K J fu F) t58 r60.2.1 r60.2.2 2429 1313812 1)
                      else
                        ((wL_wrongHolds_b176 K J fu F) t58 r60.2.1 r60.2.2 2429 1313812))
                    else
                      ((wL_wrongHolds_b176 K J fu F) t58 r60.2.1 r60.2.2 2429 1313812)))
                  else
                    ((wL_wrongHolds_b146 K J fu F) t51 r53.2.1 r53.2.2 2229 1312612))
                else
                  ((wL_wrongHolds_b146 K J fu F) t51 r53.2.1 r53.2.2 2229 1312612))))))))))))))))))
    else
      ((wL_wrongHolds_b31 K J fu F) t4 r6.2.1 r6.2.2 316 102368))
  else
    ((wL_wrongHolds_b31 K J fu F) t4 r6.2.1 r6.2.2 316 102368)
set_option maxRecDepth 100000 in
set_option maxHeartbeats 4000000 in
theorem vwL_wrongHolds {l : Launch} {K J : Nat → Nat} {fu : Nat} {sh : HS} {I : HI} {R : HR} {l0 : Nat} {l1 : Int32} {F : VF} (h0 : wL_wrongHolds K J fu sh I R l0 l1 F) : MW l K J 184 0 (ent (mL 184) [.ref l0, .int l1]) [] sh I R (0, 0) F := by
  unfold wL_wrongHolds at h0
  have ml : mL 184 = 6 := by decide +kernel
  rw [ml]
  show MW l K J 184 0 [some (.ref l0), some (.int l1), none, none, none, none] [] sh I R (0, 0) F
  obtain ⟨r1, h1⟩ := h0
  refine mw_new (ix := 69) (t := 8) (N := 14) (X := 2700) (Y := 1330000) (by decide +kernel) r1 h1 (fun a2 t2 i2 j2 h2 => ?_); clear h1
  refine mw_a (ins := .dup) (pc' := 4) (by decide +kernel) rfl ?_
  obtain ⟨r3, h3⟩ := h2
  refine hX10_init (X := 2700) (Y := 1330000) (by decide +kernel) r3 rfl h3 (fun t4 i4 j4 h4 => ?_); clear h3
  refine mw_rs (i := 2) (pc' := 8) (L' := [some (.ref l0), some (.int l1), some (.ref a2), none, none, none]) (by decide +kernel) rfl rfl ?_
  refine mw_rl (i := 2) (pc' := 9) (by decide +kernel) rfl ?_
  obtain ⟨r5, h5⟩ := h4
  refine hX10_load2 (X := 2700) (Y := 1330000) (by decide +kernel) r5 rfl h5 (fun r6 h6 => ?_); clear h5
  refine mw_c (v := (-11)) (pc' := 14) (by decide +kernel) ?_
  refine mw_ifn (ins := .if_icmp .ne 17) (t := 31) (pc' := 17) (by decide +kernel) rfl rfl rfl h6 (fun p7 h7 => ?_) (fun p7 h7 => ?_) <;> clear h6
  · exact (vwL_wrongHolds_b31) h7
  · refine mw_rl (i := 2) (pc' := 18) (by decide +kernel) rfl ?_
    obtain ⟨r8, h8⟩ := h7
    refine hX10_errorPosition (X := 2700) (Y := 1330000) (by decide +kernel) r8 rfl h8 (fun v9 h9 => ?_); clear h8
    refine mw_ifn (ins := .ifCond .ne 10) (t := 31) (pc' := 24) (by decide +kernel) rfl rfl rfl h9 (fun p10 h10 => ?_) (fun p10 h10 => ?_) <;> clear h9
    · exact (vwL_wrongHolds_b31) h10
    · refine mw_rl (i := 2) (pc' := 25) (by decide +kernel) rfl ?_
      obtain ⟨r10, h11⟩ := h10
      refine mw_hasNone (ix := 187) (X := 2700) (Y := 1330000) (by decide +kernel) rfl r10 h11 (fun v11 h12 => ?_); clear h11
      refine mw_ifn (ins := .ifCond .ne 5) (t := 33) (pc' := 31) (by decide +kernel) rfl rfl rfl h12 (fun p13 h13 => ?_) (fun p13 h13 => ?_) <;> clear h12
      · refine mw_rl (i := 0) (pc' := 34) (by decide +kernel) rfl ?_
        obtain ⟨q12, h14⟩ := h13
        obtain ⟨r13, h15⟩ := h14
        refine mwx_R (q := 129) (na := 1) (ce := 1500) (sl := 1200000) (X := 2700) (Y := 1330000) (as := [.ref l0]) (by decide +kernel) r13 rfl rfl (by rw [show mL 129 = 5 from by decide +kernel]; rfl) rfl (fun _ => rv_of q12 (by decide +kernel)) (fun z => absurd z (by decide +kernel)) (vwX11_said h15) (fun v14 t14 i14 j14 h16 => ?_); clear h15
        refine mw_rs (i := 3) (pc' := 38) (L' := [some (.ref l0), some (.int l1), some (.ref a2), some (.ref v14), none, none]) (by decide +kernel) rfl rfl ?_
        refine mw_il (i := 1) (pc' := 39) (by decide +kernel) rfl ?_
        refine mw_rl (i := 3) (pc' := 40) (by decide +kernel) rfl ?_
        obtain ⟨q15, h17⟩ := h16
        obtain ⟨r16, h18⟩ := h17
        refine mwx_I (q := 163) (na := 1) (ce := 0) (sl := 0) (X := 2700) (Y := 1330000) (as := [.ref v14]) (by decide +kernel) r16 rfl rfl (by rw [show mL 163 = 1 from by decide +kernel]; rfl) rfl (fun _ => rv_of q15 (by decide +kernel)) (fun z => absurd z (by decide +kernel)) (vwJ0_length_8abf5 h18) (fun v17 t17 i17 j17 h19 => ?_); clear h18
        refine mw_rm (by decide +kernel) h19 (fun v18 h20 => ?_); clear h19
        refine mw_is (i := 4) (pc' := 46) (L' := [some (.ref l0), some (.int l1), some (.ref a2), some (.ref v14), some (.int v18), none]) (by decide +kernel) rfl rfl ?_
        refine mw_rl (i := 2) (pc' := 47) (by decide +kernel) rfl ?_
        obtain ⟨r19, h21⟩ := h20
        refine mw_new (ix := 191) (t := 13) (N := 4) (X := 2700) (Y := 1330000) (by decide +kernel) r19 h21 (fun a20 t20 i20 j20 h22 => ?_); clear h21
        refine mw_a (ins := .dup) (pc' := 51) (by decide +kernel) rfl ?_
        obtain ⟨r21, h23⟩ := h22
        refine mwx_V (q := 156) (na := 1) (ce := 1) (sl := 16) (X := 2700) (Y := 1330000) (as := [.ref a20]) (by decide +kernel) r21 rfl rfl (by rw [show mL 156 = 1 from by decide +kernel]; rfl) rfl (fun z => absurd z (by decide +kernel)) (fun _ => ⟨_, rfl⟩) (vwJ4_init_da8c8 h23) (fun t22 i22 j22 h24 => ?_); clear h23
        refine mw_rl (i := 3) (pc' := 55) (by decide +kernel) rfl ?_
        refine mw_c (v := 0) (pc' := 56) (by decide +kernel) ?_
        refine mw_il (i := 4) (pc' := 58) (by decide +kernel) rfl ?_
        obtain ⟨q23, h25⟩ := h24
        obtain ⟨r24, h26⟩ := h25
        refine mwx_R (q := 166) (na := 3) (ce := 2) (sl := 1304) (X := 2700) (Y := 1330000) (as := [.int v18, .int 0, .ref v14]) (by decide +kernel) r24 rfl rfl (by rw [show mL 166 = 5 from by decide +kernel]; rfl) rfl (fun _ => rv_of q23 (by decide +kernel)) (fun z => absurd z (by decide +kernel)) (vwJ0_substring_37a41 h26) (fun v25 t25 i25 j25 h27 => ?_); clear h26
        obtain ⟨q26, h28⟩ := h27
        obtain ⟨r27, h29⟩ := h28
        refine mwx_R (q := 157) (na := 2) (ce := 1) (sl := 1300) (X := 2700) (Y := 1330000) (as := [.ref v25, .ref a20]) (by decide +kernel) r27 rfl rfl (by rw [show mL 157 = 2 from by decide +kernel]; rfl) rfl (fun _ => rv_of q26 (by decide +kernel)) (fun z => absurd z (by decide +kernel)) (vwJ4_append_15ec4 h29) (fun v28 t28 i28 j28 h30 => ?_); clear h29
        refine mw_cS (i := 3) (pc' := 66) (by decide +kernel) ?_
        obtain ⟨q29, h31⟩ := h30
        obtain ⟨r30, h32⟩ := h31
        refine mwx_R (q := 157) (na := 2) (ce := 1) (sl := 1300) (X := 2700) (Y := 1330000) (as := [.ref (K 3), .ref v28]) (by decide +kernel) r30 rfl rfl (by rw [show mL 157 = 2 from by decide +kernel]; rfl) rfl (fun _ => rv_of q29 (by decide +kernel)) (fun z => absurd z (by decide +kernel)) (vwJ4_append_15ec4 h32) (fun v31 t31 i31 j31 h33 => ?_); clear h32
        refine mw_rl (i := 3) (pc' := 70) (by decide +kernel) rfl ?_
        refine mw_il (i := 4) (pc' := 72) (by decide +kernel) rfl ?_
        obtain ⟨q32, h34⟩ := h33
        obtain ⟨r33, h35⟩ := h34
        refine mwx_R (q := 165) (na := 2) (ce := 2) (sl := 1304) (X := 2700) (Y := 1330000) (as := [.int v18, .ref v14]) (by decide +kernel) r33 rfl rfl (by rw [show mL 165 = 2 from by decide +kernel]; rfl) rfl (fun _ => rv_of q32 (by decide +kernel)) (fun z => absurd z (by decide +kernel)) (vwJ0_substring_b52d3 h35) (fun v34 t34 i34 j34 h36 => ?_); clear h35
        obtain ⟨q35, h37⟩ := h36
        obtain ⟨r36, h38⟩ := h37
        refine mwx_R (q := 157) (na := 2) (ce := 1) (sl := 1300) (X := 2700) (Y := 1330000) (as := [.ref v34, .ref v31]) (by decide +kernel) r36 rfl rfl (by rw [show mL 157 = 2 from by decide +kernel]; rfl) rfl (fun _ => rv_of q35 (by decide +kernel)) (fun z => absurd z (by decide +kernel)) (vwJ4_append_15ec4 h38) (fun v37 t37 i37 j37 h39 => ?_); clear h38
        obtain ⟨q38, h40⟩ := h39
        obtain ⟨r39, h41⟩ := h40
        refine mwx_R (q := 160) (na := 1) (ce := 2) (sl := 1304) (X := 2700) (Y := 1330000) (as := [.ref v37]) (by decide +kernel) r39 rfl rfl (by rw [show mL 160 = 1 from by decide +kernel]; rfl) rfl (fun _ => rv_of q38 (by decide +kernel)) (fun z => absurd z (by decide +kernel)) (vwJ4_toString_0e30d h41) (fun v40 t40 i40 j40 h42 => ?_); clear h41
        obtain ⟨r41, h43⟩ := h42
        refine mwx_V (q := 178) (na := 2) (ce := 200) (sl := 1200) (X := 2700) (Y := 1330000) (as := [.ref v40, .ref a2]) (by decide +kernel) r41 rfl rfl (by rw [show mL 178 = 5 from by decide +kernel]; rfl) rfl (fun z => absurd z (by decide +kernel)) (fun z => absurd z (by decide +kernel)) (vwL_feed h43) (fun t42 i42 j42 h44 => ?_); clear h43
        refine mw_rl (i := 2) (pc' := 85) (by decide +kernel) rfl ?_
        obtain ⟨r43, h45⟩ := h44
        refine hX10_load2 (X := 2700) (Y := 1330000) (by decide +kernel) r43 rfl h45 (fun r44 h46 => ?_); clear h45
        refine mw_is (i := 5) (pc' := 90) (L' := [some (.ref l0), some (.int l1), some (.ref a2), some (.ref v14), some (.int v18), some (.int r44.1)]) (by decide +kernel) rfl rfl ?_
        refine mw_il (i := 5) (pc' := 92) (by decide +kernel) rfl ?_
        refine mw_c (v := (-11)) (pc' := 94) (by decide +kernel) ?_
        refine mw_if (ins := .if_icmp .gt 26) (t := 120) (pc' := 97) (by decide +kernel) rfl rfl rfl h46 (fun p47 h47 => ?_) (fun p47 h47 => ?_) <;> clear h46
        · exact (vwL_wrongHolds_b120) h47
        · refine mw_il (i := 5) (pc' := 99) (by decide +kernel) rfl ?_
          refine mw_c (v := (-14)) (pc' := 101) (by decide +kernel) ?_
          refine mw_if (ins := .if_icmp .lt 19) (t := 120) (pc' := 104) (by decide +kernel) rfl rfl rfl h47 (fun p48 h48 => ?_) (fun p48 h48 => ?_) <;> clear h47
          · exact (vwL_wrongHolds_b120) h48
          · refine mw_rl (i := 2) (pc' := 105) (by decide +kernel) rfl ?_
            obtain ⟨r46, h49⟩ := h48
            refine hX10_errorPosition (X := 2700) (Y := 1330000) (by decide +kernel) r46 rfl h49 (fun v47 h50 => ?_); clear h49
            refine mw_il (i := 4) (pc' := 110) (by decide +kernel) rfl ?_
            refine mw_if (ins := .if_icmp .gt 10) (t := 120) (pc' := 113) (by decide +kernel) rfl rfl rfl h50 (fun p51 h51 => ?_) (fun p51 h51 => ?_) <;> clear h50
            · exact (vwL_wrongHolds_b120) h51
            · refine mw_rl (i := 2) (pc' := 114) (by decide +kernel) rfl ?_
              obtain ⟨r48, h52⟩ := h51
              refine mw_hasNone (ix := 187) (X := 2700) (Y := 1330000) (by decide +kernel) rfl r48 h52 (fun v49 h53 => ?_); clear h52
              refine mw_ifn (ins := .ifCond .ne 5) (t := 122) (pc' := 120) (by decide +kernel) rfl rfl rfl h53 (fun p54 h54 => ?_) (fun p54 h54 => ?_) <;> clear h53
              · refine mw_rl (i := 2) (pc' := 123) (by decide +kernel) rfl ?_
                refine mw_cS (i := 11) (pc' := 125) (by decide +kernel) ?_
                obtain ⟨r50, h55⟩ := h54
                refine mwx_V (q := 178) (na := 2) (ce := 200) (sl := 1200) (X := 2700) (Y := 1330000) (as := [.ref (K 11), .ref a2]) (by decide +kernel) r50 rfl rfl (by rw [show mL 178 = 5 from by decide +kernel]; rfl) rfl (fun z => absurd z (by decide +kernel)) (fun z => absurd z (by decide +kernel)) (vwL_feed h55) (fun t51 i51 j51 h56 => ?_); clear h55
                refine mw_rl (i := 2) (pc' := 129) (by decide +kernel) rfl ?_
                obtain ⟨r52, h57⟩ := h56
                refine hX10_load2 (X := 2700) (Y := 1330000) (by decide +kernel) r52 rfl h57 (fun r53 h58 => ?_); clear h57
                refine mw_c (v := (-12)) (pc' := 134) (by decide +kernel) ?_
                refine mw_ifn (ins := .if_icmp .ne 12) (t := 146) (pc' := 137) (by decide +kernel) rfl rfl rfl h58 (fun p59 h59 => ?_) (fun p59 h59 => ?_) <;> clear h58
                · exact (vwL_wrongHolds_b146) h59
                · refine mw_rl (i := 2) (pc' := 138) (by decide +kernel) rfl ?_
                  obtain ⟨r55, h60⟩ := h59
                  refine hX10_errorPosition (X := 2700) (Y := 1330000) (by decide +kernel) r55 rfl h60 (fun v56 h61 => ?_); clear h60
                  refine mw_c (v := 19) (pc' := 143) (by decide +kernel) ?_
                  refine mw_if (ins := .if_icmp .eq 5) (t := 148) (pc' := 146) (by decide +kernel) rfl rfl rfl h61 (fun p62 h62 => ?_) (fun p62 h62 => ?_) <;> clear h61
                  · refine mw_rl (i := 2) (pc' := 149) (by decide +kernel) rfl ?_
                    refine mw_cS (i := 10) (pc' := 151) (by decide +kernel) ?_
                    obtain ⟨r57, h63⟩ := h62
                    refine mwx_V (q := 178) (na := 2) (ce := 200) (sl := 1200) (X := 2700) (Y := 1330000) (as := [.ref (K 10), .ref a2]) (by decide +kernel) r57 rfl rfl (by rw [show mL 178 = 5 from by decide +kernel]; rfl) rfl (fun z => absurd z (by decide +kernel)) (fun z => absurd z (by decide +kernel)) (vwL_feed h63) (fun t58 i58 j58 h64 => ?_); clear h63
                    refine mw_rl (i := 2) (pc' := 155) (by decide +kernel) rfl ?_
                    obtain ⟨r59, h65⟩ := h64
                    refine hX10_load2 (X := 2700) (Y := 1330000) (by decide +kernel) r59 rfl h65 (fun r60 h66 => ?_); clear h65
                    refine mw_c (v := (-13)) (pc' := 160) (by decide +kernel) ?_
                    refine mw_ifn (ins := .if_icmp .ne 16) (t := 176) (pc' := 163) (by decide +kernel) rfl rfl rfl h66 (fun p67 h67 => ?_) (fun p67 h67 => ?_) <;> clear h66
                    · exact (vwL_wrongHolds_b176) h67
                    · refine mw_rl (i := 2) (pc' := 164) (by decide +kernel) rfl ?_
                      obtain ⟨r62, h68⟩ := h67
                      refine hX10_errorPosition (X := 2700) (Y := 1330000) (by decide +kernel) r62 rfl h68 (fun v63 h69 => ?_); clear h68
                      refine mw_c (v := 42) (pc' := 169) (by decide +kernel) ?_
                      refine mw_ifn (ins := .if_icmp .ne 7) (t := 176) (pc' := 172) (by decide +kernel) rfl rfl rfl h69 (fun p70 h70 => ?_) (fun p70 h70 => ?_) <;> clear h69
                      · exact (vwL_wrongHolds_b176) h70
                      · refine mw_c (v := 1) (pc' := 173) (by decide +kernel) ?_
                        refine mw_go (t := 177) (by decide +kernel) ?_
                        exact (vwL_wrongHolds_b177) h70
                  · exact (vwL_wrongHolds_b146) h62
              · exact (vwL_wrongHolds_b120) h54
      · exact (vwL_wrongHolds_b31) h13
/- ('L', 'faultsHold') -/
def wL_faultsHold_b102 (K J : Nat → Nat) (fu : Nat) (F : VF) (k18 : HS → HI → HR → Nat → Nat → Nat → Nat → Int32 → Int32 → Int32 → Prop) (k97 : HS → HI → HR → Nat → Nat → Prop) (k108 : HS → HI → HR → Nat → Nat → Nat → Nat → Int32 → Int32 → Prop) (sh : HS) (I : HI) (R : HR) (c1 : Nat) (c2 : Nat) (l0 : Nat) (l1 : Nat) (l2 : Int32) (l3 : Int32) (l4 : Int32) : Prop :=
  k18 sh I R c1 c2 l0 l1 l2 l3 (l4 + 1)
theorem vwL_faultsHold_b102 {l : Launch} {K J : Nat → Nat} {fu : Nat} {F : VF} {k18 : HS → HI → HR → Nat → Nat → Nat → Nat → Int32 → Int32 → Int32 → Prop} {k97 : HS → HI → HR → Nat → Nat → Prop} {k108 : HS → HI → HR → Nat → Nat → Nat → Nat → Int32 → Int32 → Prop} (hk18 : ∀ {sh : HS} {I : HI} {R : HR} {c1 : Nat} {c2 : Nat} {l0 : Nat} {l1 : Nat} {l2 : Int32} {l3 : Int32} {l4 : Int32}, k18 sh I R c1 c2 l0 l1 l2 l3 l4 → MW l K J 188 18 [some (.ref l0), some (.ref l1), some (.int l2), some (.int l3), some (.int l4)] [] sh I R (c1, c2) F) (hk97 : ∀ {sh : HS} {I : HI} {R : HR} {c1 : Nat} {c2 : Nat} {d0 d1 d2 d3 d4 : Option Value}, k97 sh I R c1 c2 → MW l K J 188 97 [d0, d1, d2, d3, d4] [] sh I R (c1, c2) F) (hk108 : ∀ {sh : HS} {I : HI} {R : HR} {c1 : Nat} {c2 : Nat} {l0 : Nat} {l1 : Nat} {l2 : Int32} {l3 : Int32} {d4 : Option Value}, k108 sh I R c1 c2 l0 l1 l2 l3 → MW l K J 188 108 [some (.ref l0), some (.ref l1), some (.int l2), some (.int l3), d4] [] sh I R (c1, c2) F) {sh : HS} {I : HI} {R : HR} {c1 : Nat} {c2 : Nat} {l0 : Nat} {l1 : Nat} {l2 : Int32} {l3 : Int32} {l4 : Int32} (h0 : wL_faultsHold_b102 K J fu F k18 k97 k108 sh I R c1 c2 l0 l1 l2 l3 l4) : MW l K J 188 102 [some (.ref l0), some (.ref l1), some (.int l2), some (.int l3), some (.int l4)] [] sh I R (c1, c2) F := by
  unfold wL_faultsHold_b102 at h0
  refine mw_inc (i := 4) (z := 1) (pc' := 105) (L' := [some (.ref l0), some (.ref l1), some (.int l2), some (.int l3), some (.int (l4 + 1))]) (by decide +kernel) rfl rfl rfl ?_
  refine mw_go (t := 18) (by decide +kernel) ?_
  exact hk18 h0
def wL_faultsHold_b94 (K J : Nat → Nat) (fu : Nat) (F : VF) (k18 : HS → HI → HR → Nat → Nat → Nat → Nat → Int32 → Int32 → Int32 → Prop) (k97 : HS → HI → HR → Nat → Nat → Prop) (k108 : HS → HI → HR → Nat → Nat → Nat → Nat → Int32 → Int32 → Prop) (sh : HS) (I : HI) (R : HR) (c1 : Nat) (c2 : Nat) (l0 : Nat) (l1 : Nat) (l2 : Int32) (l3 : Int32) (l4 : Int32) (s0 : Int32) (s1 : Int32) : Prop :=
  if s1 = s0 then
    ((wL_faultsHold_b102 K J fu F k18 k97 k108) sh I R c1 c2 l0 l1 (l2 + 1) l3 l4)
  else
    (k97 sh I R c1 c2)
theorem vwL_faultsHold_b94 {l : Launch} {K J : Nat → Nat} {fu : Nat} {F : VF} {k18 : HS → HI → HR → Nat → Nat → Nat → Nat → Int32 → Int32 → Int32 → Prop} {k97 : HS → HI → HR → Nat → Nat → Prop} {k108 : HS → HI → HR → Nat → Nat → Nat → Nat → Int32 → Int32 → Prop} (hk18 : ∀ {sh : HS} {I : HI} {R : HR} {c1 : Nat} {c2 : Nat} {l0 : Nat} {l1 : Nat} {l2 : Int32} {l3 : Int32} {l4 : Int32}, k18 sh I R c1 c2 l0 l1 l2 l3 l4 → MW l K J 188 18 [some (.ref l0), some (.ref l1), some (.int l2), some (.int l3), some (.int l4)] [] sh I R (c1, c2) F) (hk97 : ∀ {sh : HS} {I : HI} {R : HR} {c1 : Nat} {c2 : Nat} {d0 d1 d2 d3 d4 : Option Value}, k97 sh I R c1 c2 → MW l K J 188 97 [d0, d1, d2, d3, d4] [] sh I R (c1, c2) F) (hk108 : ∀ {sh : HS} {I : HI} {R : HR} {c1 : Nat} {c2 : Nat} {l0 : Nat} {l1 : Nat} {l2 : Int32} {l3 : Int32} {d4 : Option Value}, k108 sh I R c1 c2 l0 l1 l2 l3 → MW l K J 188 108 [some (.ref l0), some (.ref l1), some (.int l2), some (.int l3), d4] [] sh I R (c1, c2) F) {sh : HS} {I : HI} {R : HR} {c1 : Nat} {c2 : Nat} {l0 : Nat} {l1 : Nat} {l2 : Int32} {l3 : Int32} {l4 : Int32} {s0 : Int32} {s1 : Int32} (h0 : wL_faultsHold_b94 K J fu F k18 k97 k108 sh I R c1 c2 l0 l1 l2 l3 l4 s0 s1) : MW l K J 188 94 [some (.ref l0), some (.ref l1), some (.int l2), some (.int l3), some (.int l4)] [.int s0, .int s1] sh I R (c1, c2) F := by
  unfold wL_faultsHold_b94 at h0
  refine mw_if (ins := .if_icmp .eq 5) (t := 99) (pc' := 97) (by decide +kernel) rfl rfl rfl h0 (fun p1 h1 => ?_) (fun p1 h1 => ?_) <;> clear h0
  · refine mw_inc (i := 2) (z := 1) (pc' := 102) (L' := [some (.ref l0), some (.ref l1), some (.int (l2 + 1)), some (.int l3), some (.int l4)]) (by decide +kernel) rfl rfl rfl ?_
    exact (vwL_faultsHold_b102 hk18 hk97 hk108) h1
  · exact hk97 h1
def wL_faultsHold_b18 (K J : Nat → Nat) (fu : Nat) (F : VF) (k18 : HS → HI → HR → Nat → Nat → Nat → Nat → Int32 → Int32 → Int32 → Prop) (k97 : HS → HI → HR → Nat → Nat → Prop) (k108 : HS → HI → HR → Nat → Nat → Nat → Nat → Int32 → Int32 → Prop) (sh : HS) (I : HI) (R : HR) (c1 : Nat) (c2 : Nat) (l0 : Nat) (l1 : Nat) (l2 : Int32) (l3 : Int32) (l4 : Int32) : Prop :=
  if (4 : Int32) ≤ l4 then
    (k108 sh I R c1 c2 l0 l1 l2 l3)
  else
    (rcvB sh l1 9 = true ∧
    (c1 ≤ 700 ∧ c2 ≤ 4200) ∧
    wX11_kinds K J fu sh I R l1 l3 (qwI fun v7 t7 i7 j7 =>
    if ((v7 >>> (l4 &&& 31)) &&& 1) = 0 then
      ((wL_faultsHold_b102 K J fu F k18 k97 k108) t7 i7 j7 c1 c2 l0 l1 l2 l3 l4)
    else
      ((c1 + 4 ≤ 700 ∧ c2 + 24 ≤ 4200) ∧
      wB (fX10_fault fu t7 i7 j7 l0 l2 0) fun r9 => wS r9 fun v9 =>
      if v9 = l3 then
        (((c1 + 4) + 4 ≤ 700 ∧ (c2 + 24) + 24 ≤ 4200) ∧
        wB (fX10_fault fu t7 i7 j7 l0 l2 1) fun r11 => wS r11 fun v11 =>
        if v11 = l4 then
          ((((c1 + 4) + 4) + 4 ≤ 700 ∧ ((c2 + 24) + 24) + 24 ≤ 4200) ∧
          wB (fX10_fault fu t7 i7 j7 l0 l2 2) fun r13 => wS r13 fun v13 =>
          if l4 = (3 : Int32) then
            (wB (oR t7 j7 l1 9 3) fun v14 =>
            rcvB t7 v14 10 = true ∧
            ((((c1 + 4) + 4) + 4) ≤ 700 ∧ (((c2 + 24) + 24) + 24) ≤ 4200) ∧
            wJx4a65c_get_915e3 K J fu t7 i7 j7 v14 l3 (qwR fun v17 t17 i17 j17 =>
            wB (oKt t17 v17 1) fun _ =>
            rcvB t17 l1 9 = true ∧
            ((((c1 + 4) + 4) + 4) ≤ 700 ∧ (((c2 + 24) + 24) + 24) ≤ 4200) ∧
            wX11_blocker K J fu t17 i17 j17 l1 v17 (qwI fun v20 t20 i20 j20 =>
            (wL_faultsHold_b94 K J fu F k18 k97 k108) t20 i20 j20 (((c1 + 4) + 4) + 4) (((c2 + 24) + 24) + 24) l0 l1 l2 l3 l4 v20 v13)))
          else
            ((wL_faultsHold_b94 K J fu F k18 k97 k108) t7 i7 j7 (((c1 + 4) + 4) + 4) (((c2 + 24) + 24) + 24) l0 l1 l2 l3 l4 (l3 - 1) v13))
        else
          (k97 t7 i7 j7 ((c1 + 4) + 4) ((c2 + 24) + 24)))
      else
        (k97 t7 i7 j7 (c1 + 4) (c2 + 24)))))
theorem vwL_faultsHold_b18 {l : Launch} {K J : Nat → Nat} {fu : Nat} {F : VF} {k18 : HS → HI → HR → Nat → Nat → Nat → Nat → Int32 → Int32 → Int32 → Prop} {k97 : HS → HI → HR → Nat → Nat → Prop} {k108 : HS → HI → HR → Nat → Nat → Nat → Nat → Int32 → Int32 → Prop} (hk18 : ∀ {sh : HS} {I : HI} {R : HR} {c1 : Nat} {c2 : Nat} {l0 : Nat} {l1 : Nat} {l2 : Int32} {l3 : Int32} {l4 : Int32}, k18 sh I R c1 c2 l0 l1 l2 l3 l4 → MW l K J 188 18 [some (.ref l0), some (.ref l1), some (.int l2), some (.int l3), some (.int l4)] [] sh I R (c1, c2) F) (hk97 : ∀ {sh : HS} {I : HI} {R : HR} {c1 : Nat} {c2 : Nat} {d0 d1 d2 d3 d4 : Option Value}, k97 sh I R c1 c2 → MW l K J 188 97 [d0, d1, d2, d3, d4] [] sh I R (c1, c2) F) (hk108 : ∀ {sh : HS} {I : HI} {R : HR} {c1 : Nat} {c2 : Nat} {l0 : Nat} {l1 : Nat} {l2 : Int32} {l3 : Int32} {d4 : Option Value}, k108 sh I R c1 c2 l0 l1 l2 l3 → MW l K J 188 108 [some (.ref l0), some (.ref l1), some (.int l2), some (.int l3), d4] [] sh I R (c1, c2) F) {sh : HS} {I : HI} {R : HR} {c1 : Nat} {c2 : Nat} {l0 : Nat} {l1 : Nat} {l2 : Int32} {l3 : Int32} {l4 : Int32} (h0 : wL_faultsHold_b18 K J fu F k18 k97 k108 sh I R c1 c2 l0 l1 l2 l3 l4) : MW l K J 188 18 [some (.ref l0), some (.ref l1), some (.int l2), some (.int l3), some (.int l4)] [] sh I R (c1, c2) F := by
  unfold wL_faultsHold_b18 at h0
  refine mw_il (i := 4) (pc' := 20) (by decide +kernel) rfl ?_
  refine mw_c (v := 4) (pc' := 21) (by decide +kernel) ?_
  refine mw_if (ins := .if_icmp .ge 87) (t := 108) (pc' := 24) (by decide +kernel) rfl rfl rfl h0 (fun p1 h1 => ?_) (fun p1 h1 => ?_) <;> clear h0
  · exact hk108 h1
  · refine mw_rl (i := 1) (pc' := 25) (by decide +kernel) rfl ?_
    refine mw_il (i := 3) (pc' := 26) (by decide +kernel) rfl ?_
    obtain ⟨q5, h2⟩ := h1
    obtain ⟨r6, h3⟩ := h2
    refine mwx_I (q := 123) (na := 2) (ce := 0) (sl := 0) (X := 700) (Y := 4200) (as := [.int l3, .ref l1]) (by decide +kernel) r6 rfl rfl (by rw [show mL 123 = 8 from by decide +kernel]; rfl) rfl (fun _ => rv_of q5 (by decide +kernel)) (fun z => absurd z (by decide +kernel)) (vwX11_kinds h3) (fun v7 t7 i7 j7 h4 => ?_); clear h3
    refine mw_il (i := 4) (pc' := 31) (by decide +kernel) rfl ?_
    refine mw_a (ins := .ishr) (pc' := 32) (by decide +kernel) rfl ?_
    refine mw_c (v := 1) (pc' := 33) (by decide +kernel) ?_
    refine mw_a (ins := .iand) (pc' := 34) (by decide +kernel) rfl ?_
    refine mw_ifn (ins := .ifCond .ne 6) (t := 40) (pc' := 37) (by decide +kernel) rfl rfl rfl h4 (fun p5 h5 => ?_) (fun p5 h5 => ?_) <;> clear h4
    · refine mw_rl (i := 0) (pc' := 41) (by decide +kernel) rfl ?_
      refine mw_il (i := 2) (pc' := 42) (by decide +kernel) rfl ?_
      refine mw_c (v := 0) (pc' := 43) (by decide +kernel) ?_
      obtain ⟨r8, h6⟩ := h5
      refine hX10_fault (X := 700) (Y := 4200) (by decide +kernel) r8 rfl h6 (fun v9 h7 => ?_); clear h6
      refine mw_il (i := 3) (pc' := 47) (by decide +kernel) rfl ?_
      refine mw_ifn (ins := .if_icmp .ne 50) (t := 97) (pc' := 50) (by decide +kernel) rfl rfl rfl h7 (fun p8 h8 => ?_) (fun p8 h8 => ?_) <;> clear h7
      · exact hk97 h8
      · refine mw_rl (i := 0) (pc' := 51) (by decide +kernel) rfl ?_
        refine mw_il (i := 2) (pc' := 52) (by decide +kernel) rfl ?_
        refine mw_c (v := 1) (pc' := 53) (by decide +kernel) ?_
        obtain ⟨r10, h9⟩ := h8
        refine hX10_fault (X := 700) (Y := 4200) (by decide +kernel) r10 rfl h9 (fun v11 h10 => ?_); clear h9
        refine mw_il (i := 4) (pc' := 58) (by decide +kernel) rfl ?_
        refine mw_ifn (ins := .if_icmp .ne 39) (t := 97) (pc' := 61) (by decide +kernel) rfl rfl rfl h10 (fun p11 h11 => ?_) (fun p11 h11 => ?_) <;> clear h10
        · exact hk97 h11
        · refine mw_rl (i := 0) (pc' := 62) (by decide +kernel) rfl ?_
          refine mw_il (i := 2) (pc' := 63) (by decide +kernel) rfl ?_
          refine mw_c (v := 2) (pc' := 64) (by decide +kernel) ?_
          obtain ⟨r12, h12⟩ := h11
          refine hX10_fault (X := 700) (Y := 4200) (by decide +kernel) r12 rfl h12 (fun v13 h13 => ?_); clear h12
          refine mw_il (i := 4) (pc' := 69) (by decide +kernel) rfl ?_
          refine mw_c (v := 3) (pc' := 70) (by decide +kernel) ?_
          refine mw_ifn (ins := .if_icmp .ne 21) (t := 91) (pc' := 73) (by decide +kernel) rfl rfl rfl h13 (fun p14 h14 => ?_) (fun p14 h14 => ?_) <;> clear h13
          · refine mw_il (i := 3) (pc' := 92) (by decide +kernel) rfl ?_
            refine mw_c (v := 1) (pc' := 93) (by decide +kernel) ?_
            refine mw_a (ins := .isub) (pc' := 94) (by decide +kernel) rfl ?_
            exact (vwL_faultsHold_b94 hk18 hk97 hk108) h14
          · refine mw_rl (i := 1) (pc' := 74) (by decide +kernel) rfl ?_
            refine mw_rl (i := 1) (pc' := 75) (by decide +kernel) rfl ?_
            refine mw_fR (ix := 48) (t := 9) (j := 3) (md := 1) (by decide +kernel) h14 (fun v14 h15 => ?_); clear h14
            refine mw_il (i := 3) (pc' := 79) (by decide +kernel) rfl ?_
            obtain ⟨q15, h16⟩ := h15
            obtain ⟨r16, h17⟩ := h16
            refine mwx_R (q := 135) (na := 2) (ce := 0) (sl := 0) (X := 700) (Y := 4200) (as := [.int l3, .ref v14]) (by decide +kernel) r16 rfl rfl (by rw [show mL 135 = 2 from by decide +kernel]; rfl) rfl (fun _ => rv_of q15 (by decide +kernel)) (fun z => absurd z (by decide +kernel)) (vwJx4a65c_get_915e3 h17) (fun v17 t17 i17 j17 h18 => ?_); clear h17
            refine mw_cst (ix := 97) (v := 1) (by decide +kernel) h18 (fun h19 => ?_); clear h18
            obtain ⟨q18, h20⟩ := h19
            obtain ⟨r19, h21⟩ := h20
            refine mwx_I (q := 122) (na := 2) (ce := 0) (sl := 0) (X := 700) (Y := 4200) (as := [.ref v17, .ref l1]) (by decide +kernel) r19 rfl rfl (by rw [show mL 122 = 8 from by decide +kernel]; rfl) rfl (fun _ => rv_of q18 (by decide +kernel)) (fun z => absurd z (by decide +kernel)) (vwX11_blocker h21) (fun v20 t20 i20 j20 h22 => ?_); clear h21
            refine mw_go (t := 94) (by decide +kernel) ?_
            exact (vwL_faultsHold_b94 hk18 hk97 hk108) h22
    · refine mw_go (t := 102) (by decide +kernel) ?_
      exact (vwL_faultsHold_b102 hk18 hk97 hk108) h5
def wL_faultsHold_l18 (K J : Nat → Nat) (fu : Nat) (F : VF) (k97 : HS → HI → HR → Nat → Nat → Prop) (k108 : HS → HI → HR → Nat → Nat → Nat → Nat → Int32 → Int32 → Prop) : Nat → HS → HI → HR → Nat → Nat → Nat → Nat → Int32 → Int32 → Int32 → Prop
  | 0 => fun _ _ _ _ _ _ _ _ _ _ => False
  | n + 1 => wL_faultsHold_b18 K J fu F (wL_faultsHold_l18 K J fu F k97 k108 n) k97 k108
theorem vwL_faultsHold_l18 {l : Launch} {K J : Nat → Nat} {fu : Nat} {F : VF} {k97 : HS → HI → HR → Nat → Nat → Prop} {k108 : HS → HI → HR → Nat → Nat → Nat → Nat → Int32 → Int32 → Prop} (hk97 : ∀ {sh : HS} {I : HI} {R : HR} {c1 : Nat} {c2 : Nat} {d0 d1 d2 d3 d4 : Option Value}, k97 sh I R c1 c2 → MW l K J 188 97 [d0, d1, d2, d3, d4] [] sh I R (c1, c2) F) (hk108 : ∀ {sh : HS} {I : HI} {R : HR} {c1 : Nat} {c2 : Nat} {l0 : Nat} {l1 : Nat} {l2 : Int32} {l3 : Int32} {d4 : Option Value}, k108 sh I R c1 c2 l0 l1 l2 l3 → MW l K J 188 108 [some (.ref l0), some (.ref l1), some (.int l2), some (.int l3), d4] [] sh I R (c1, c2) F) : ∀ (n : Nat) {sh : HS} {I : HI} {R : HR} {c1 : Nat} {c2 : Nat} {l0 : Nat} {l1 : Nat} {l2 : Int32} {l3 : Int32} {l4 : Int32} (_ : wL_faultsHold_l18 K J fu F k97 k108 n sh I R c1 c2 l0 l1 l2 l3 l4), MW l K J 188 18 [some (.ref l0), some (.ref l1), some (.int l2), some (.int l3), some (.int l4)] [] sh I R (c1, c2) F := by
  intro n
  induction n with
  | zero => exact fun h0 => h0.elim
  | succ n ih => exact fun h0 => vwL_faultsHold_b18 ih hk97 hk108 h0
def wL_faultsHold_b108 (K J : Nat → Nat) (fu : Nat) (F : VF) (k4 : HS → HI → HR → Nat → Nat → Nat → Nat → Int32 → Int32 → Prop) (k97 : HS → HI → HR → Nat → Nat → Prop) (k114 : HS → HI → HR → Nat → Nat → Nat → Int32 → Prop) (sh : HS) (I : HI) (R : HR) (c1 : Nat) (c2 : Nat) (l0 : Nat) (l1 : Nat) (l2 : Int32) (l3 : Int32) : Prop :=
  k4 sh I R c1 c2 l0 l1 l2 (l3 + 1)
theorem vwL_faultsHold_b108 {l : Launch} {K J : Nat → Nat} {fu : Nat} {F : VF} {k4 : HS → HI → HR → Nat → Nat → Nat → Nat → Int32 → Int32 → Prop} {k97 : HS → HI → HR → Nat → Nat → Prop} {k114 : HS → HI → HR → Nat → Nat → Nat → Int32 → Prop} (hk4 : ∀ {sh : HS} {I : HI} {R : HR} {c1 : Nat} {c2 : Nat} {l0 : Nat} {l1 : Nat} {l2 : Int32} {l3 : Int32} {d4 : Option Value}, k4 sh I R c1 c2 l0 l1 l2 l3 → MW l K J 188 4 [some (.ref l0), some (.ref l1), some (.int l2), some (.int l3), d4] [] sh I R (c1, c2) F) (hk97 : ∀ {sh : HS} {I : HI} {R : HR} {c1 : Nat} {c2 : Nat} {d0 d1 d2 d3 d4 : Option Value}, k97 sh I R c1 c2 → MW l K J 188 97 [d0, d1, d2, d3, d4] [] sh I R (c1, c2) F) (hk114 : ∀ {sh : HS} {I : HI} {R : HR} {c1 : Nat} {c2 : Nat} {l0 : Nat} {l2 : Int32} {d1 d3 d4 : Option Value}, k114 sh I R c1 c2 l0 l2 → MW l K J 188 114 [some (.ref l0), d1, some (.int l2), d3, d4] [] sh I R (c1, c2) F) {sh : HS} {I : HI} {R : HR} {c1 : Nat} {c2 : Nat} {l0 : Nat} {l1 : Nat} {l2 : Int32} {l3 : Int32} {d4 : Option Value} (h0 : wL_faultsHold_b108 K J fu F k4 k97 k114 sh I R c1 c2 l0 l1 l2 l3) : MW l K J 188 108 [some (.ref l0), some (.ref l1), some (.int l2), some (.int l3), d4] [] sh I R (c1, c2) F := by
  unfold wL_faultsHold_b108 at h0
  refine mw_inc (i := 3) (z := 1) (pc' := 111) (L' := [some (.ref l0), some (.ref l1), some (.int l2), some (.int (l3 + 1)), d4]) (by decide +kernel) rfl rfl rfl ?_
  refine mw_go (t := 4) (by decide +kernel) ?_
  exact hk4 h0
def wL_faultsHold_b4 (K J : Nat → Nat) (fu : Nat) (F : VF) (k4 : HS → HI → HR → Nat → Nat → Nat → Nat → Int32 → Int32 → Prop) (k97 : HS → HI → HR → Nat → Nat → Prop) (k114 : HS → HI → HR → Nat → Nat → Nat → Int32 → Prop) (sh : HS) (I : HI) (R : HR) (c1 : Nat) (c2 : Nat) (l0 : Nat) (l1 : Nat) (l2 : Int32) (l3 : Int32) : Prop :=
  wB (oR sh R l1 9 3) fun v1 =>
  rcvB sh v1 10 = true ∧
  (c1 ≤ 700 ∧ c2 ≤ 4200) ∧
  wJx4a65c_size_8abf5 K J fu sh I R v1 (qwI fun v4 t4 i4 j4 =>
  if v4 ≤ l3 then
    (k114 t4 i4 j4 c1 c2 l0 l2)
  else
    ((wL_faultsHold_l18 K J fu F k97 (wL_faultsHold_b108 K J fu F k4 k97 k114) fu) t4 i4 j4 c1 c2 l0 l1 l2 l3 0))
theorem vwL_faultsHold_b4 {l : Launch} {K J : Nat → Nat} {fu : Nat} {F : VF} {k4 : HS → HI → HR → Nat → Nat → Nat → Nat → Int32 → Int32 → Prop} {k97 : HS → HI → HR → Nat → Nat → Prop} {k114 : HS → HI → HR → Nat → Nat → Nat → Int32 → Prop} (hk4 : ∀ {sh : HS} {I : HI} {R : HR} {c1 : Nat} {c2 : Nat} {l0 : Nat} {l1 : Nat} {l2 : Int32} {l3 : Int32} {d4 : Option Value}, k4 sh I R c1 c2 l0 l1 l2 l3 → MW l K J 188 4 [some (.ref l0), some (.ref l1), some (.int l2), some (.int l3), d4] [] sh I R (c1, c2) F) (hk97 : ∀ {sh : HS} {I : HI} {R : HR} {c1 : Nat} {c2 : Nat} {d0 d1 d2 d3 d4 : Option Value}, k97 sh I R c1 c2 → MW l K J 188 97 [d0, d1, d2, d3, d4] [] sh I R (c1, c2) F) (hk114 : ∀ {sh : HS} {I : HI} {R : HR} {c1 : Nat} {c2 : Nat} {l0 : Nat} {l2 : Int32} {d1 d3 d4 : Option Value}, k114 sh I R c1 c2 l0 l2 → MW l K J 188 114 [some (.ref l0), d1, some (.int l2), d3, d4] [] sh I R (c1, c2) F) {sh : HS} {I : HI} {R : HR} {c1 : Nat} {c2 : Nat} {l0 : Nat} {l1 : Nat} {l2 : Int32} {l3 : Int32} {d4 : Option Value} (h0 : wL_faultsHold_b4 K J fu F k4 k97 k114 sh I R c1 c2 l0 l1 l2 l3) : MW l K J 188 4 [some (.ref l0), some (.ref l1), some (.int l2), some (.int l3), d4] [] sh I R (c1, c2) F := by
  unfold wL_faultsHold_b4 at h0
  refine mw_il (i := 3) (pc' := 5) (by decide +kernel) rfl ?_
  refine mw_rl (i := 1) (pc' := 6) (by decide +kernel) rfl ?_
  refine mw_fR (ix := 48) (t := 9) (j := 3) (md := 1) (by decide +kernel) h0 (fun v1 h1 => ?_); clear h0
  obtain ⟨q2, h2⟩ := h1
  obtain ⟨r3, h3⟩ := h2
  refine mwx_I (q := 133) (na := 1) (ce := 0) (sl := 0) (X := 700) (Y := 4200) (as := [.ref v1]) (by decide +kernel) r3 rfl rfl (by rw [show mL 133 = 1 from by decide +kernel]; rfl) rfl (fun _ => rv_of q2 (by decide +kernel)) (fun z => absurd z (by decide +kernel)) (vwJx4a65c_size_8abf5 h3) (fun v4 t4 i4 j4 h4 => ?_); clear h3
  refine mw_if (ins := .if_icmp .ge 102) (t := 114) (pc' := 15) (by decide +kernel) rfl rfl rfl h4 (fun p5 h5 => ?_) (fun p5 h5 => ?_) <;> clear h4
  · exact hk114 h5
  · refine mw_c (v := 0) (pc' := 16) (by decide +kernel) ?_
    refine mw_is (i := 4) (pc' := 18) (L' := [some (.ref l0), some (.ref l1), some (.int l2), some (.int l3), some (.int 0)]) (by decide +kernel) rfl rfl ?_
    exact (vwL_faultsHold_l18 hk97 (vwL_faultsHold_b108 hk4 hk97 hk114) fu) h5
def wL_faultsHold_l4 (K J : Nat → Nat) (fu : Nat) (F : VF) (k97 : HS → HI → HR → Nat → Nat → Prop) (k114 : HS → HI → HR → Nat → Nat → Nat → Int32 → Prop) : Nat → HS → HI → HR → Nat → Nat → Nat → Nat → Int32 → Int32 → Prop
  | 0 => fun _ _ _ _ _ _ _ _ _ => False
  | n + 1 => wL_faultsHold_b4 K J fu F (wL_faultsHold_l4 K J fu F k97 k114 n) k97 k114
theorem vwL_faultsHold_l4 {l : Launch} {K J : Nat → Nat} {fu : Nat} {F : VF} {k97 : HS → HI → HR → Nat → Nat → Prop} {k114 : HS → HI → HR → Nat → Nat → Nat → Int32 → Prop} (hk97 : ∀ {sh : HS} {I : HI} {R : HR} {c1 : Nat} {c2 : Nat} {d0 d1 d2 d3 d4 : Option Value}, k97 sh I R c1 c2 → MW l K J 188 97 [d0, d1, d2, d3, d4] [] sh I R (c1, c2) F) (hk114 : ∀ {sh : HS} {I : HI} {R : HR} {c1 : Nat} {c2 : Nat} {l0 : Nat} {l2 : Int32} {d1 d3 d4 : Option Value}, k114 sh I R c1 c2 l0 l2 → MW l K J 188 114 [some (.ref l0), d1, some (.int l2), d3, d4] [] sh I R (c1, c2) F) : ∀ (n : Nat) {sh : HS} {I : HI} {R : HR} {c1 : Nat} {c2 : Nat} {l0 : Nat} {l1 : Nat} {l2 : Int32} {l3 : Int32} {d4 : Option Value} (_ : wL_faultsHold_l4 K J fu F k97 k114 n sh I R c1 c2 l0 l1 l2 l3), MW l K J 188 4 [some (.ref l0), some (.ref l1), some (.int l2), some (.int l3), d4] [] sh I R (c1, c2) F := by
  intro n
  induction n with
  | zero => exact fun h0 => h0.elim
  | succ n ih => exact fun h0 => vwL_faultsHold_b4 ih hk97 hk114 h0
def wL_faultsHold_b97 (K J : Nat → Nat) (fu : Nat) (F : VF) (sh : HS) (I : HI) (R : HR) (c1 : Nat) (c2 : Nat) : Prop :=
  (c1 ≤ 700 ∧ c2 ≤ 4200) ∧
  F (.inl (some (.int 0))) sh I R
theorem vwL_faultsHold_b97 {l : Launch} {K J : Nat → Nat} {fu : Nat} {F : VF} {sh : HS} {I : HI} {R : HR} {c1 : Nat} {c2 : Nat} {d0 d1 d2 d3 d4 : Option Value} (h0 : wL_faultsHold_b97 K J fu F sh I R c1 c2) : MW l K J 188 97 [d0, d1, d2, d3, d4] [] sh I R (c1, c2) F := by
  unfold wL_faultsHold_b97 at h0
  refine mw_c (v := 0) (pc' := 98) (by decide +kernel) ?_
  obtain ⟨r21, h1⟩ := h0
  exact mw_rz (X := 700) (Y := 4200) (by decide +kernel) (by decide) r21 h1
def wL_faultsHold_b135 (K J : Nat → Nat) (fu : Nat) (F : VF) (sh : HS) (I : HI) (R : HR) (c1 : Nat) (c2 : Nat) (s0 : Int32) : Prop :=
  (c1 ≤ 700 ∧ c2 ≤ 4200) ∧
  (s0 = 0 ∨ s0 = 1) ∧ F (.inl (some (.int s0))) sh I R
theorem vwL_faultsHold_b135 {l : Launch} {K J : Nat → Nat} {fu : Nat} {F : VF} {sh : HS} {I : HI} {R : HR} {c1 : Nat} {c2 : Nat} {s0 : Int32} {d0 d1 d2 d3 d4 : Option Value} (h0 : wL_faultsHold_b135 K J fu F sh I R c1 c2 s0) : MW l K J 188 135 [d0, d1, d2, d3, d4] [.int s0] sh I R (c1, c2) F := by
  unfold wL_faultsHold_b135 at h0
  obtain ⟨r24, h1⟩ := h0
  exact mw_rz (X := 700) (Y := 4200) (by decide +kernel) h1.1 r24 h1.2
def wL_faultsHold_b134 (K J : Nat → Nat) (fu : Nat) (F : VF) (sh : HS) (I : HI) (R : HR) (c1 : Nat) (c2 : Nat) : Prop :=
  (wL_faultsHold_b135 K J fu F) sh I R c1 c2 0
theorem vwL_faultsHold_b134 {l : Launch} {K J : Nat → Nat} {fu : Nat} {F : VF} {sh : HS} {I : HI} {R : HR} {c1 : Nat} {c2 : Nat} {d0 d1 d2 d3 d4 : Option Value} (h0 : wL_faultsHold_b134 K J fu F sh I R c1 c2) : MW l K J 188 134 [d0, d1, d2, d3, d4] [] sh I R (c1, c2) F := by
  unfold wL_faultsHold_b134 at h0
  refine mw_c (v := 0) (pc' := 135) (by decide +kernel) ?_
  exact (vwL_faultsHold_b135) h0
def wL_faultsHold_b114 (K J : Nat → Nat) (fu : Nat) (F : VF) (sh : HS) (I : HI) (R : HR) (c1 : Nat) (c2 : Nat) (l0 : Nat) (l2 : Int32) : Prop :=
  (c1 + 1 ≤ 700 ∧ c2 + 6 ≤ 4200) ∧
  wB (fX10_faults fu sh I R l0) fun r23 => wS r23 fun v23 =>
  if v23 = l2 then
    (((c1 + 1) + 4 ≤ 700 ∧ (c2 + 6) + 24 ≤ 4200) ∧
    wB (fX10_fault fu sh I R l0 l2 0) fun v26 => hasW "java/util/NoSuchElementException" v26 ∧
    if (hasV v26) = 0 then
      ((wL_faultsHold_b134 K J fu F) sh I R ((c1 + 1) + 4) ((c2 + 6) + 24))
    else
      ((wL_faultsHold_b135 K J fu F) sh I R ((c1 + 1) + 4) ((c2 + 6) + 24) 1))
  else
    ((wL_faultsHold_b134 K J fu F) sh I R (c1 + 1) (c2 + 6))
theorem vwL_faultsHold_b114 {l : Launch} {K J : Nat → Nat} {fu : Nat} {F : VF} {sh : HS} {I : HI} {R : HR} {c1 : Nat} {c2 : Nat} {l0 : Nat} {l2 : Int32} {d1 d3 d4 : Option Value} (h0 : wL_faultsHold_b114 K J fu F sh I R c1 c2 l0 l2) : MW l K J 188 114 [some (.ref l0), d1, some (.int l2), d3, d4] [] sh I R (c1, c2) F := by
  unfold wL_faultsHold_b114 at h0
  refine mw_rl (i := 0) (pc' := 115) (by decide +kernel) rfl ?_
  obtain ⟨r22, h1⟩ := h0
  refine hX10_faults (X := 700) (Y := 4200) (by decide +kernel) r22 rfl h1 (fun v23 h2 => ?_); clear h1
  refine mw_il (i := 2) (pc' := 119) (by decide +kernel) rfl ?_
  refine mw_ifn (ins := .if_icmp .ne 15) (t := 134) (pc' := 122) (by decide +kernel) rfl rfl rfl h2 (fun p3 h3 => ?_) (fun p3 h3 => ?_) <;> clear h2
  · exact (vwL_faultsHold_b134) h3
  · refine mw_rl (i := 0) (pc' := 123) (by decide +kernel) rfl ?_
    refine mw_il (i := 2) (pc' := 124) (by decide +kernel) rfl ?_
    obtain ⟨r25, h4⟩ := h3
    refine mw_hasNoFault (ix := 272) (X := 700) (Y := 4200) (by decide +kernel) rfl r25 h4 (fun v26 h5 => ?_); clear h4
    refine mw_if (ins := .ifCond .eq 7) (t := 134) (pc' := 130) (by decide +kernel) rfl rfl rfl h5 (fun p6 h6 => ?_) (fun p6 h6 => ?_) <;> clear h5
    · exact (vwL_faultsHold_b134) h6
    · refine mw_c (v := 1) (pc' := 131) (by decide +kernel) ?_
      refine mw_go (t := 135) (by decide +kernel) ?_
      exact (vwL_faultsHold_b135) h6
def wL_faultsHold (K J : Nat → Nat) (fu : Nat) (sh : HS) (I : HI) (R : HR) (l0 : Nat) (l1 : Nat) (F : VF) : Prop :=
  (wL_faultsHold_l4 K J fu F (wL_faultsHold_b97 K J fu F) (wL_faultsHold_b114 K J fu F) fu) sh I R 0 0 l0 l1 0 0
theorem vwL_faultsHold {l : Launch} {K J : Nat → Nat} {fu : Nat} {sh : HS} {I : HI} {R : HR} {l0 : Nat} {l1 : Nat} {F : VF} (h0 : wL_faultsHold K J fu sh I R l0 l1 F) : MW l K J 188 0 (ent (mL 188) [.ref l0, .ref l1]) [] sh I R (0, 0) F := by
  unfold wL_faultsHold at h0
  have ml : mL 188 = 5 := by decide +kernel
  rw [ml]
  show MW l K J 188 0 [some (.ref l0), some (.ref l1), none, none, none] [] sh I R (0, 0) F
  refine mw_c (v := 0) (pc' := 1) (by decide +kernel) ?_
  refine mw_is (i := 2) (pc' := 2) (L' := [some (.ref l0), some (.ref l1), some (.int 0), none, none]) (by decide +kernel) rfl rfl ?_
  refine mw_c (v := 0) (pc' := 3) (by decide +kernel) ?_
  refine mw_is (i := 3) (pc' := 4) (L' := [some (.ref l0), some (.ref l1), some (.int 0), some (.int 0), none]) (by decide +kernel) rfl rfl ?_
  exact (vwL_faultsHold_l4 (vwL_faultsHold_b97) (vwL_faultsHold_b114) fu) h0
/- ('L', 'law') -/
def wL_law_b27 (K J : Nat → Nat) (fu : Nat) (F : VF) (sh : HS) (I : HI) (R : HR) (c1 : Nat) (c2 : Nat) : Prop :=
  (c1 ≤ 600086 ∧ c2 ≤ 7301442) ∧
  F (.inl (some (.int 0))) sh I R
theorem vwL_law_b27 {l : Launch} {K J : Nat → Nat} {fu : Nat} {F : VF} {sh : HS} {I : HI} {R : HR} {c1 : Nat} {c2 : Nat} {d0 d1 d2 d3 : Option Value} (h0 : wL_law_b27 K J fu F sh I R c1 c2) : MW l K J 218 27 [d0, d1, d2, d3] [] sh I R (c1, c2) F := by
  unfold wL_law_b27 at h0
  refine mw_c (v := 0) (pc' := 28) (by decide +kernel) ?_
  obtain ⟨r5, h1⟩ := h0
  exact mw_rz (X := 600086) (Y := 7301442) (by decide +kernel) (by decide) r5 h1
def wL_law_b31 (K J : Nat → Nat) (fu : Nat) (F : VF) (k31 : HS → HI → HR → Nat → Nat → Nat → Nat → Option Nat → Int32 → Prop) (k87 : HS → HI → HR → Nat → Nat → Prop) (sh : HS) (I : HI) (R : HR) (c1 : Nat) (c2 : Nat) (l0 : Nat) (l1 : Nat) (l2 : Option Nat) (l3 : Int32) : Prop :=
  if (30 : Int32) ≤ l3 then
    ((c1 ≤ 600086 ∧ c2 ≤ 7301442) ∧
    F (.inl (some (.int 1))) sh I R)
  else
    ((c1 ≤ 600086 ∧ c2 ≤ 7301442) ∧
    wL_cell K J fu sh I R l0 (40 + l3) (qwI fun v12 t12 i12 j12 =>
    wB l2 fun n13 =>
    (c1 + 100 ≤ 600086 ∧ c2 + 3000 ≤ 7301442) ∧
    wL_acts K J fu t12 i12 j12 n13 l1 (v12 + l3) (qwI fun v15 t15 i15 j15 =>
    if v15 = 0 then
      (k87 t15 i15 j15 (c1 + 100) (c2 + 3000))
    else
      (((c1 + 100) + 900 ≤ 600086 ∧ (c2 + 3000) + 5400 ≤ 7301442) ∧
      wL_shotsHold K J fu t15 i15 j15 n13 l1 (qwI fun v17 t17 i17 j17 =>
      if v17 = 0 then
        (k87 t17 i17 j17 ((c1 + 100) + 900) ((c2 + 3000) + 5400))
      else
        ((((c1 + 100) + 900) + 200 ≤ 600086 ∧ ((c2 + 3000) + 5400) + 1200 ≤ 7301442) ∧
        wL_scenesHold K J fu t17 i17 j17 n13 l1 (qwI fun v19 t19 i19 j19 =>
        if v19 = 0 then
          (k87 t19 i19 j19 (((c1 + 100) + 900) + 200) (((c2 + 3000) + 5400) + 1200))
        else
          (((((c1 + 100) + 900) + 200) + 700 ≤ 600086 ∧ (((c2 + 3000) + 5400) + 1200) + 4200 ≤ 7301442) ∧
          wL_faultsHold K J fu t19 i19 j19 n13 l1 (qwI fun v21 t21 i21 j21 =>
          if v21 = 0 then
            (k87 t21 i21 j21 ((((c1 + 100) + 900) + 200) + 700) ((((c2 + 3000) + 5400) + 1200) + 4200))
          else
            ((((((c1 + 100) + 900) + 200) + 700) + 1100 ≤ 600086 ∧ ((((c2 + 3000) + 5400) + 1200) + 4200) + 6600 ≤ 7301442) ∧
            wL_setupsHold K J fu t21 i21 j21 n13 l1 (qwI fun v23 t23 i23 j23 =>
            if v23 = 0 then
              (k87 t23 i23 j23 (((((c1 + 100) + 900) + 200) + 700) + 1100) (((((c2 + 3000) + 5400) + 1200) + 4200) + 6600))
            else
              (k31 t23 i23 j23 (((((c1 + 100) + 900) + 200) + 700) + 1100) (((((c2 + 3000) + 5400) + 1200) + 4200) + 6600) l0 l1 (some n13) (l3 + 1)))))))))))))
theorem vwL_law_b31 {l : Launch} {K J : Nat → Nat} {fu : Nat} {F : VF} {k31 : HS → HI → HR → Nat → Nat → Nat → Nat → Option Nat → Int32 → Prop} {k87 : HS → HI → HR → Nat → Nat → Prop} (hk31 : ∀ {sh : HS} {I : HI} {R : HR} {c1 : Nat} {c2 : Nat} {l0 : Nat} {l1 : Nat} {l2 : Option Nat} {l3 : Int32}, k31 sh I R c1 c2 l0 l1 l2 l3 → MW l K J 218 31 [some (.ref l0), some (.ref l1), some (va_rf l2), some (.int l3)] [] sh I R (c1, c2) F) (hk87 : ∀ {sh : HS} {I : HI} {R : HR} {c1 : Nat} {c2 : Nat} {d0 d1 d2 d3 : Option Value}, k87 sh I R c1 c2 → MW l K J 218 87 [d0, d1, d2, d3] [] sh I R (c1, c2) F) {sh : HS} {I : HI} {R : HR} {c1 : Nat} {c2 : Nat} {l0 : Nat} {l1 : Nat} {l2 : Option Nat} {l3 : Int32} (h0 : wL_law_b31 K J fu F k31 k87 sh I R c1 c2 l0 l1 l2 l3) : MW l K J 218 31 [some (.ref l0), some (.ref l1), some (va_rf l2), some (.int l3)] [] sh I R (c1, c2) F := by
  unfold wL_law_b31 at h0
  refine mw_il (i := 3) (pc' := 32) (by decide +kernel) rfl ?_
  refine mw_c (v := 30) (pc' := 34) (by decide +kernel) ?_
  refine mw_if (ins := .if_icmp .ge 61) (t := 95) (pc' := 37) (by decide +kernel) rfl rfl rfl h0 (fun p1 h1 => ?_) (fun p1 h1 => ?_) <;> clear h0
  · refine mw_c (v := 1) (pc' := 96) (by decide +kernel) ?_
    obtain ⟨r10, h2⟩ := h1
    exact mw_rz (X := 600086) (Y := 7301442) (by decide +kernel) (by decide) r10 h2
  · refine mw_ldv (t := 1) (i := 2) (v := va_rf l2) (pc' := 38) (by decide +kernel) rfl (isTy_rf _) ?_
    refine mw_rl (i := 1) (pc' := 39) (by decide +kernel) rfl ?_
    refine mw_rl (i := 0) (pc' := 40) (by decide +kernel) rfl ?_
    refine mw_c (v := 40) (pc' := 42) (by decide +kernel) ?_
    refine mw_il (i := 3) (pc' := 43) (by decide +kernel) rfl ?_
    refine mw_a (ins := .iadd) (pc' := 44) (by decide +kernel) rfl ?_
    obtain ⟨r11, h2⟩ := h1
    refine mwx_I (q := 174) (na := 2) (ce := 0) (sl := 0) (X := 600086) (Y := 7301442) (as := [.int (40 + l3), .ref l0]) (by decide +kernel) r11 rfl (by cases l2 <;> rfl) (by rw [show mL 174 = 2 from by decide +kernel]; rfl) rfl (fun z => absurd z (by decide +kernel)) (fun z => absurd z (by decide +kernel)) (vwL_cell h2) (fun v12 t12 i12 j12 h3 => ?_); clear h2
    refine mw_il (i := 3) (pc' := 48) (by decide +kernel) rfl ?_
    refine mw_a (ins := .iadd) (pc' := 49) (by decide +kernel) rfl ?_
    obtain ⟨n13, e9, h4⟩ := wBd h3
    subst e9; clear h3
    obtain ⟨r14, h5⟩ := h4
    refine mwx_I (q := 180) (na := 3) (ce := 100) (sl := 3000) (X := 600086) (Y := 7301442) (as := [.int (v12 + l3), .ref l1, .ref n13]) (by decide +kernel) r14 rfl rfl (by rw [show mL 180 = 13 from by decide +kernel]; rfl) rfl (fun z => absurd z (by decide +kernel)) (fun z => absurd z (by decide +kernel)) (vwL_acts h5) (fun v15 t15 i15 j15 h6 => ?_); clear h5
    refine mw_if (ins := .ifCond .eq 35) (t := 87) (pc' := 55) (by decide +kernel) rfl rfl rfl h6 (fun p7 h7 => ?_) (fun p7 h7 => ?_) <;> clear h6
    · exact hk87 h7
    · refine mw_rl (i := 2) (pc' := 56) (by decide +kernel) rfl ?_
      refine mw_rl (i := 1) (pc' := 57) (by decide +kernel) rfl ?_
      obtain ⟨r16, h8⟩ := h7
      refine mwx_I (q := 185) (na := 2) (ce := 900) (sl := 5400) (X := 600086) (Y := 7301442) (as := [.ref l1, .ref n13]) (by decide +kernel) r16 rfl rfl (by rw [show mL 185 = 6 from by decide +kernel]; rfl) rfl (fun z => absurd z (by decide +kernel)) (fun z => absurd z (by decide +kernel)) (vwL_shotsHold h8) (fun v17 t17 i17 j17 h9 => ?_); clear h8
      refine mw_if (ins := .ifCond .eq 27) (t := 87) (pc' := 63) (by decide +kernel) rfl rfl rfl h9 (fun p10 h10 => ?_) (fun p10 h10 => ?_) <;> clear h9
      · exact hk87 h10
      · refine mw_rl (i := 2) (pc' := 64) (by decide +kernel) rfl ?_
        refine mw_rl (i := 1) (pc' := 65) (by decide +kernel) rfl ?_
        obtain ⟨r18, h11⟩ := h10
        refine mwx_I (q := 187) (na := 2) (ce := 200) (sl := 1200) (X := 600086) (Y := 7301442) (as := [.ref l1, .ref n13]) (by decide +kernel) r18 rfl rfl (by rw [show mL 187 = 7 from by decide +kernel]; rfl) rfl (fun z => absurd z (by decide +kernel)) (fun z => absurd z (by decide +kernel)) (vwL_scenesHold h11) (fun v19 t19 i19 j19 h12 => ?_); clear h11
        refine mw_if (ins := .ifCond .eq 19) (t := 87) (pc' := 71) (by decide +kernel) rfl rfl rfl h12 (fun p13 h13 => ?_) (fun p13 h13 => ?_) <;> clear h12
        · exact hk87 h13
        · refine mw_rl (i := 2) (pc' := 72) (by decide +kernel) rfl ?_
          refine mw_rl (i := 1) (pc' := 73) (by decide +kernel) rfl ?_
          obtain ⟨r20, h14⟩ := h13
          refine mwx_I (q := 188) (na := 2) (ce := 700) (sl := 4200) (X := 600086) (Y := 7301442) (as := [.ref l1, .ref n13]) (by decide +kernel) r20 rfl rfl (by rw [show mL 188 = 5 from by decide +kernel]; rfl) rfl (fun z => absurd z (by decide +kernel)) (fun z => absurd z (by decide +kernel)) (vwL_faultsHold h14) (fun v21 t21 i21 j21 h15 => ?_); clear h14
          refine mw_if (ins := .ifCond .eq 11) (t := 87) (pc' := 79) (by decide +kernel) rfl rfl rfl h15 (fun p16 h16 => ?_) (fun p16 h16 => ?_) <;> clear h15
          · exact hk87 h16
          · refine mw_rl (i := 2) (pc' := 80) (by decide +kernel) rfl ?_
            refine mw_rl (i := 1) (pc' := 81) (by decide +kernel) rfl ?_
            obtain ⟨r22, h17⟩ := h16
            refine mwx_I (q := 189) (na := 2) (ce := 1100) (sl := 6600) (X := 600086) (Y := 7301442) (as := [.ref l1, .ref n13]) (by decide +kernel) r22 rfl rfl (by rw [show mL 189 = 8 from by decide +kernel]; rfl) rfl (fun z => absurd z (by decide +kernel)) (fun z => absurd z (by decide +kernel)) (vwL_setupsHold h17) (fun v23 t23 i23 j23 h18 => ?_); clear h17
            refine mw_ifn (ins := .ifCond .ne 5) (t := 89) (pc' := 87) (by decide +kernel) rfl rfl rfl h18 (fun p19 h19 => ?_) (fun p19 h19 => ?_) <;> clear h18
            · refine mw_inc (i := 3) (z := 1) (pc' := 92) (L' := [some (.ref l0), some (.ref l1), some (.ref n13), some (.int (l3 + 1))]) (by decide +kernel) rfl rfl rfl ?_
              refine mw_go (t := 31) (by decide +kernel) ?_
              exact hk31 h19
            · exact hk87 h19
def wL_law_l31 (K J : Nat → Nat) (fu : Nat) (F : VF) (k87 : HS → HI → HR → Nat → Nat → Prop) : Nat → HS → HI → HR → Nat → Nat → Nat → Nat → Option Nat → Int32 → Prop
  | 0 => fun _ _ _ _ _ _ _ _ _ => False
  | n + 1 => wL_law_b31 K J fu F (wL_law_l31 K J fu F k87 n) k87
theorem vwL_law_l31 {l : Launch} {K J : Nat → Nat} {fu : Nat} {F : VF} {k87 : HS → HI → HR → Nat → Nat → Prop} (hk87 : ∀ {sh : HS} {I : HI} {R : HR} {c1 : Nat} {c2 : Nat} {d0 d1 d2 d3 : Option Value}, k87 sh I R c1 c2 → MW l K J 218 87 [d0, d1, d2, d3] [] sh I R (c1, c2) F) : ∀ (n : Nat) {sh : HS} {I : HI} {R : HR} {c1 : Nat} {c2 : Nat} {l0 : Nat} {l1 : Nat} {l2 : Option Nat} {l3 : Int32} (_ : wL_law_l31 K J fu F k87 n sh I R c1 c2 l0 l1 l2 l3), MW l K J 218 31 [some (.ref l0), some (.ref l1), some (va_rf l2), some (.int l3)] [] sh I R (c1, c2) F := by
  intro n
  induction n with
  | zero => exact fun h0 => h0.elim
  | succ n ih => exact fun h0 => vwL_law_b31 ih hk87 h0
def wL_law_b87 (K J : Nat → Nat) (fu : Nat) (F : VF) (sh : HS) (I : HI) (R : HR) (c1 : Nat) (c2 : Nat) : Prop :=
  (c1 ≤ 600086 ∧ c2 ≤ 7301442) ∧
  F (.inl (some (.int 0))) sh I R
theorem vwL_law_b87 {l : Launch} {K J : Nat → Nat} {fu : Nat} {F : VF} {sh : HS} {I : HI} {R : HR} {c1 : Nat} {c2 : Nat} {d0 d1 d2 d3 : Option Value} (h0 : wL_law_b87 K J fu F sh I R c1 c2) : MW l K J 218 87 [d0, d1, d2, d3] [] sh I R (c1, c2) F := by
  unfold wL_law_b87 at h0
  refine mw_c (v := 0) (pc' := 88) (by decide +kernel) ?_
  obtain ⟨r24, h1⟩ := h0
  exact mw_rz (X := 600086) (Y := 7301442) (by decide +kernel) (by decide) r24 h1
def wL_law (K J : Nat → Nat) (fu : Nat) (sh : HS) (I : HI) (R : HR) (l0 : Nat) (F : VF) : Prop :=
  (60 ≤ 600086 ∧ 1000 ≤ 7301442) ∧
  wL_drawn K J fu sh I R l0 (qwR fun v2 t2 i2 j2 =>
  (2160 ≤ 600086 ∧ 1321000 ≤ 7301442) ∧
  wL_loaded K J fu t2 i2 j2 v2 (qwN fun v4 t4 i4 j4 =>
  if v4 = none then
    ((wL_law_b27 K J fu F) t4 i4 j4 2160 1321000)
  else
    ((2160 ≤ 600086 ∧ 1321000 ≤ 7301442) ∧
    wL_cell K J fu t4 i4 j4 l0 70 (qwI fun v7 t7 i7 j7 =>
    (4860 ≤ 600086 ∧ 2651000 ≤ 7301442) ∧
    wL_wrongHolds K J fu t7 i7 j7 v2 v7 (qwI fun v9 t9 i9 j9 =>
    if v9 = 0 then
      ((wL_law_b27 K J fu F) t9 i9 j9 4860 2651000)
    else
      ((wL_law_l31 K J fu F (wL_law_b87 K J fu F) fu) t9 i9 j9 4860 2651000 l0 v2 v4 0))))))
theorem vwL_law {l : Launch} {K J : Nat → Nat} {fu : Nat} {sh : HS} {I : HI} {R : HR} {l0 : Nat} {F : VF} (h0 : wL_law K J fu sh I R l0 F) : MW l K J 218 0 (ent (mL 218) [.ref l0]) [] sh I R (0, 0) F := by
  unfold wL_law at h0
  have ml : mL 218 = 4 := by decide +kernel
  rw [ml]
  show MW l K J 218 0 [some (.ref l0), none, none, none] [] sh I R (0, 0) F
  refine mw_rl (i := 0) (pc' := 1) (by decide +kernel) rfl ?_
  obtain ⟨r1, h1⟩ := h0
  refine mwx_R (q := 175) (na := 1) (ce := 60) (sl := 1000) (X := 600086) (Y := 7301442) (as := [.ref l0]) (by decide +kernel) r1 rfl rfl (by rw [show mL 175 = 10 from by decide +kernel]; rfl) rfl (fun z => absurd z (by decide +kernel)) (fun z => absurd z (by decide +kernel)) (vwL_drawn h1) (fun v2 t2 i2 j2 h2 => ?_); clear h1
  refine mw_rs (i := 1) (pc' := 5) (L' := [some (.ref l0), some (.ref v2), none, none]) (by decide +kernel) rfl rfl ?_
  refine mw_rl (i := 1) (pc' := 6) (by decide +kernel) rfl ?_
  obtain ⟨r3, h3⟩ := h2
  refine mwx_N (q := 179) (na := 1) (ce := 2100) (sl := 1320000) (X := 600086) (Y := 7301442) (as := [.ref v2]) (by decide +kernel) r3 rfl rfl (by rw [show mL 179 = 2 from by decide +kernel]; rfl) rfl (fun z => absurd z (by decide +kernel)) (fun z => absurd z (by decide +kernel)) (vwL_loaded h3) (fun v4 t4 i4 j4 h4 => ?_); clear h3
  refine mw_stv (t := 1) (i := 2) (v := va_rf v4) (pc' := 10) (L' := [some (.ref l0), some (.ref v2), some (va_rf v4), none]) (by decide +kernel) (isTy_rf _) rfl rfl ?_
  refine mw_ldv (t := 1) (i := 2) (v := va_rf v4) (pc' := 11) (by decide +kernel) rfl (isTy_rf _) ?_
  refine mw_nul (o := 16) (t := 27) (x := v4) (by decide +kernel) h4 (fun p5 h5 => ?_) (fun p5 h5 => ?_) <;> clear h4
  · exact (vwL_law_b27) h5
  · refine mw_rl (i := 1) (pc' := 15) (by decide +kernel) rfl ?_
    refine mw_rl (i := 0) (pc' := 16) (by decide +kernel) rfl ?_
    refine mw_c (v := 70) (pc' := 18) (by decide +kernel) ?_
    obtain ⟨r6, h6⟩ := h5
    refine mwx_I (q := 174) (na := 2) (ce := 0) (sl := 0) (X := 600086) (Y := 7301442) (as := [.int 70, .ref l0]) (by decide +kernel) r6 rfl rfl (by rw [show mL 174 = 2 from by decide +kernel]; rfl) rfl (fun z => absurd z (by decide +kernel)) (fun z => absurd z (by decide +kernel)) (vwL_cell h6) (fun v7 t7 i7 j7 h7 => ?_); clear h6
    obtain ⟨r8, h8⟩ := h7
    refine mwx_I (q := 184) (na := 2) (ce := 2700) (sl := 1330000) (X := 600086) (Y := 7301442) (as := [.int v7, .ref v2]) (by decide +kernel) r8 rfl rfl (by rw [show mL 184 = 6 from by decide +kernel]; rfl) rfl (fun z => absurd z (by decide +kernel)) (fun z => absurd z (by decide +kernel)) (vwL_wrongHolds h8) (fun v9 t9 i9 j9 h9 => ?_); clear h8
    refine mw_ifn (ins := .ifCond .ne 5) (t := 29) (pc' := 27) (by decide +kernel) rfl rfl rfl h9 (fun p10 h10 => ?_) (fun p10 h10 => ?_) <;> clear h9
    · refine mw_c (v := 0) (pc' := 30) (by decide +kernel) ?_
      refine mw_is (i := 3) (pc' := 31) (L' := [some (.ref l0), some (.ref v2), some (va_rf v4), some (.int 0)]) (by decide +kernel) rfl rfl ?_
      exact (vwL_law_l31 (vwL_law_b87) fu) h10
    · exact (vwL_law_b27) h10
