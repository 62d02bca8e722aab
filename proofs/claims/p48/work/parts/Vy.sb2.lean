/-! THE LAW, STAGE 2: what is put behind a builder's text -/
/-- the digits of a number below 10000 -/
def decS (x : Int) : List Int := if x < 10 then [48 + x] else if x < 100 then [48 + x / 10, 48 + x % 10] else if x < 1000 then [48 + x / 100, 48 + x / 10 % 10, 48 + x % 10] else [48 + x / 1000, 48 + x / 100 % 10, 48 + x / 10 % 10, 48 + x % 10]
/-- the tables of digits -/
def DIG (sh : HS) (I : HI) (K : Nat → Nat) : Prop := sh (K (nS + 2)) = some (23, 100) ∧ sh (K (nS + 3)) = some (23, 100) ∧ ∀ j : Nat, j < 100 → I (K (nS + 2)) j = iz (48 + (j : Int) % 10) ∧ I (K (nS + 3)) j = iz (48 + (j : Int) / 10)
theorem DIG.ex {X : Nat → Prop} {sh sh' : HS} {I I' : HI} {R R' : HR} {K : Nat → Nat} (h : DIG sh I K) (e : EXH X sh I R sh' I' R') (hx : ∀ a n, sh a = some (23, n) → ¬ X a) : DIG sh' I' K := by
  obtain ⟨h1, h2, h3⟩ := h
  refine ⟨e.k h1, e.k h2, fun j hj => ?_⟩
  rw [(e.2 _ (nnk h1) (hx _ _ h1)).1, (e.2 _ (nnk h2) (hx _ _ h2)).1]
  exact h3 j hj
theorem oBs_n {sh : HS} {I : HI} {q m : Nat} {x y : Int32} (h : sh q = some (21, m)) (j : Nat) (hj : j < m) (hx : x = iz (j : Int)) (hm : m ≤ 2147483647 := by omega) : oBs sh I q x y = some (u2 I q j y.toInt8.toInt32) := by
  subst hx
  unfold oBs
  rw [if_pos (inA_n h hj hm), iz_nat (by omega) (by omega)]
  rfl
theorem oBb_n {sh : HS} {I : HI} {q m : Nat} {x : Int32} (h : sh q = some (21, m) ∨ sh q = some (23, m)) (j : Nat) (hj : j < m) (hx : x = iz (j : Int)) (hm : m ≤ 2147483647 := by omega) : oBb sh I q x = some (I q j) := by
  subst hx
  unfold oBb
  have e : (inA sh q 21 (iz (j : Int)) || inA sh q 23 (iz (j : Int))) = true := by
    rcases h with h | h
    · rw [inA_n h hj hm]; rfl
    · rw [inA_n h hj hm, Bool.or_true]
  rw [if_pos e, iz_nat (by omega) (by omega)]
  rfl
section SB
variable {K J : Nat → Nat} {fu : Nat} {sh0 sh sh' : HS} {I0 I I' : HI} {R0 R R' : HR} {b ea cap q : Nat} {T U : List Int} {X : Nat → Prop}
theorem SBX.pair (h : EXH (fun _ => False) sh0 I0 R0 sh I R) {c : Nat} (hb : sh0 b = none) (hc : sh0 c = none) (e : EXH (fun q => q = b ∨ q = c) sh I R sh' I' R') : EXH (fun _ => False) sh0 I0 R0 sh' I' R' := h.tr e (fun y hy z => by
  rcases z with z | z
  · exact absurd (by rw [z]; exact hb) hy
  · exact absurd (by rw [z]; exact hc) hy)
theorem l_appS {P : Nat → HS → HI → HR → Prop} (B : SBX sh0 I0 R0 b T sh I R) (Q : STRG sh I R q U) (hU : CHR U) (hl : T.length + U.length ≤ 640)
    (hP : ∀ sh' I' R', SBX sh0 I0 R0 b (T ++ U) sh' I' R' → EXH (XK sh) sh I R sh' I' R' → P b sh' I' R') : wJ4_append_15ec4 K J fu sh I R b q (qwR P) := by
  obtain ⟨ea, cap, B, E, hb0, he0⟩ := B
  have s1 := B.1
  unfold wJ4_append_15ec4
  refine ⟨isT_of s1, ⟨by decide, by decide⟩, ?_⟩
  unfold wJ5_append_cf1ce
  rw [if_neg (by simp)]
  refine ⟨Q.rcv, ⟨by decide, by decide⟩, l_strlen Q ?_⟩
  refine wB_of (oI_at s1) ?_
  refine ⟨rcv_k s1, ⟨by decide, by decide⟩, ?_⟩
  rw [B.2.2.2.2.1, iz_add, show ((T.length : Int) + (U.length : Int)) = ((T.length + U.length : Nat) : Int) from rfl]
  refine l_ensure B hl (fun ea' cap' sh1 I1 R1 B1 hc e1 he => ?_)
  have Q1 : STRG sh1 I1 R1 q U := Q.ex e1 (by rcases Q.1 with ⟨n, z⟩ | ⟨n, z⟩ <;> exact ne_k z s1 (by decide)) (fun v hv _ => by
    obtain ⟨n, hv | hv⟩ := hv <;> exact ne_k hv s1 (by decide))
  have he1 : sh0 ea' = none := by
    rcases he with he | he
    · rw [he]; exact he0
    · exact E.nw he
  have E1 : EXH (fun _ => False) sh0 I0 R0 sh1 I1 R1 := E.tr e1 (fun y hy z => absurd (by rw [z]; exact hb0) hy)
  have hne := B1.ne
  obtain ⟨t1, t2, t3, t4, t5, t6, t7, t8⟩ := B1
  refine wB_of (oI_at t1) ?_
  refine ⟨rcv_k t1, ⟨by decide, by decide⟩, ?_⟩
  unfold wJ5_putStringAt_47b60
  refine ⟨rcv_k t1, ?_⟩
  unfold wJ5_inflateIfNeededFor_a7421
  rw [if_neg (by decide)]
  refine wB_of (oI_at t1) ?_
  refine ⟨Q1.rcv, l_coder Q1 ?_⟩
  rw [t4, if_pos rfl]
  unfold wJ5_inflateIfNeededFor_a7421_b21
  refine ⟨rfl, ?_⟩
  refine wB_of (oR_at t1 t2) ?_
  refine wB_of (oI_at t1) ?_
  refine ⟨Q1.rcv, ?_⟩
  unfold wJ0_getBytes_840e7
  refine ⟨Q1.rcv, l_coder Q1 ?_⟩
  rw [t4, if_pos rfl]
  obtain ⟨v, v1, v2, v3, v4⟩ := Q1.val
  refine wB_of v1 ?_
  refine wB_of v1 ?_
  refine wB_of v2 ?_
  rw [t5, shl0]
  obtain ⟨t0, v5, v6⟩ : ∃ t0, sh1 v = some (t0, U.length) ∧ (t0 = 21 ∨ t0 = 23) := by
    rcases v3 with z | z
    · exact ⟨21, z, Or.inl rfl⟩
    · exact ⟨23, z, Or.inr rfl⟩
  have zT : (iz (T.length : Int)).toNatClampNeg = T.length := by rw [iz_nat (by omega) (by omega)]; omega
  have zU : (iz (U.length : Int)).toNatClampNeg = U.length := by rw [iz_nat (by omega) (by omega)]; omega
  have z0 : (0 : Int32).toNatClampNeg = 0 := by decide
  have gU : ∀ j, j < U.length → ∃ x, U[j]? = some x ∧ (0 ≤ x ∧ x ≤ 127) ∧ I1 v j = iz x := fun j hj => ⟨U[j], List.getElem?_eq_getElem hj, hU _ (List.getElem_mem hj), v4 j _ (List.getElem?_eq_getElem hj)⟩
  refine ⟨t0, U.length, cap', v5, v6, t3, by decide, by rw [ilt rfl il0 (IRn (by omega)) ⟨by decide, by decide⟩]; omega, by rw [ilt rfl il0 (IRn (by omega)) ⟨by decide, by decide⟩]; omega, by rw [zU, z0]; omega, by rw [zU, zT]; omega, fun j hj => ?_, ?_⟩
  · rw [zU] at hj
    obtain ⟨x, x1, x2, x3⟩ := gU j hj
    rw [z0, show 0 + j = j by omega, x3]
    exact (fits_c x2).1
  rw [zU, zT, z0]
  have f1 : ∀ j, T.length ≤ j → j < T.length + U.length → cp2 I1 v 0 ea' T.length U.length ea' j = I1 v (j - T.length) := fun j h1 h2 => by
    unfold cp2
    rw [if_pos ⟨rfl, h1, h2⟩, show 0 + (j - T.length) = j - T.length by omega]
  have f2 : ∀ j, ¬ (T.length ≤ j ∧ j < T.length + U.length) → cp2 I1 v 0 ea' T.length U.length ea' j = I1 ea' j := fun j h1 => by
    unfold cp2
    rw [if_neg (fun z => h1 z.2)]
  have f3 : ∀ y, ¬ y = ea' → cp2 I1 v 0 ea' T.length U.length y = I1 y := fun y hy => by
    funext j
    unfold cp2
    rw [if_neg (fun z => hy z.1)]
  generalize cp2 I1 v 0 ea' T.length U.length = f at *
  unfold wJ0_getBytes_840e7_b43
  refine ⟨rfl, rfl, ?_⟩
  refine wB_of (oI_at t1) ?_
  rw [f3 b hne, t5, iz_add, show ((T.length : Int) + (U.length : Int)) = ((T.length + U.length : Nat) : Int) from rfl]
  refine wB_of (oP_at t1) ?_
  have e2 : EXH (fun q => q = b ∨ q = ea') sh1 I1 R1 sh1 (u2 f b 3 (iz ((T.length + U.length : Nat) : Int))) R1 := ⟨fun _ _ => rfl, fun y _ hy => ⟨by
    funext j
    rw [u2_off (fun z => hy (Or.inl z)), f3 y (fun z => hy (Or.inr z))], rfl⟩⟩
  refine ⟨⟨by decide, by decide⟩, _, rfl, ⟨by decide, by decide⟩, _, rfl, hP _ _ _ ⟨ea', cap', ⟨t1, t2, t3, by rw [u2_k (by decide), f3 b hne]; exact t4, by rw [u2_self, List.length_append], ⟨by rw [List.length_append]; omega, t6.2⟩, fun j hj => ?_, fun k x hk => ?_⟩, SBX.pair E1 hb0 he1 e2, hb0, he1⟩ ?_⟩
  · rw [u2_off (fun z => hne z.symm)]
    by_cases z : T.length ≤ j ∧ j < T.length + U.length
    · obtain ⟨x, x1, x2, x3⟩ := gU (j - T.length) (by omega)
      rw [f1 j z.1 z.2, x3]
      exact (fits_c x2).1
    · rw [f2 j z]
      exact t7 j hj
  · rw [u2_off (fun z => hne z.symm)]
    rcases get_app hk with ⟨k1, k2⟩ | ⟨k1, k2, k3⟩
    · rw [f2 k (by omega)]
      exact t8 k x k2
    · rw [f1 k k1 k2]
      exact v4 _ x k3
  · refine (e1.mono (Y := XK sh) (fun y _ z => Or.inl ⟨4, by rw [z]; exact s1⟩)).tr e2 (fun y hy z => ?_)
    rcases z with z | z
    · exact Or.inl ⟨4, by rw [z]; exact s1⟩
    · rw [z]
      rcases he with he | he
      · rw [he]; exact Or.inr ⟨cap, B.2.2.1⟩
      · exact absurd (by rw [z]; exact he) hy
theorem l_lat1 {P : Int32 → HS → HI → HR → Prop} (h : sh b = some (13, 4)) (h1 : I b 1 = iz 0) (hP : P 1 sh I R) : wJ5_isLatin1_aae02 K J fu sh I R b (qwI P) := by
  unfold wJ5_isLatin1_aae02
  rw [if_neg (by decide)]
  refine wB_of (oI_at h) ?_
  rw [h1, if_pos il0.symm]
  unfold wJ5_isLatin1_aae02_b18
  exact ⟨Or.inr rfl, _, rfl, hP⟩
/-- after a byte is written behind the text -/
theorem SBD.wr (h : SBD sh I R b ea cap T) {x : Int} (hx : 0 ≤ x ∧ x ≤ 127) (hl : T.length + 1 ≤ cap) : SBD sh (u2 (u2 I b 3 (iz ((T.length + 1 : Nat) : Int))) ea T.length (iz x)) R b ea cap (T ++ [x]) := by
  have hne := h.ne
  obtain ⟨s1, s2, s3, s4, s5, s6, s7, s8⟩ := h
  have hne' : ¬ ea = b := fun z => hne z.symm
  refine ⟨s1, s2, s3, by rw [u2_off hne, u2_k (by decide)]; exact s4, by rw [u2_off hne, u2_self, List.length_append]; rfl, ⟨by rw [List.length_append]; exact hl, s6.2⟩, fun j hj => ?_, fun k y hk => ?_⟩
  · rw [u2_on]
    by_cases z : j = T.length
    · rw [if_pos z]; exact (fits_c hx).1
    · rw [if_neg z, u2_off hne']; exact s7 j hj
  · rw [u2_on]
    rcases get_app hk with ⟨k1, k2⟩ | ⟨k1, k2, k3⟩
    · rw [if_neg (by omega), u2_off hne']
      exact s8 k y k2
    · have hk0 : k = T.length := by
        have : [x].length = 1 := rfl
        omega
      rw [if_pos hk0]
      rw [hk0, Nat.sub_self] at k3
      rw [Option.some.inj k3]
theorem l_appC {P : Nat → HS → HI → HR → Prop} (B : SBX sh0 I0 R0 b T sh I R) {c : Int} {cc : Int32} (hcc : cc = iz c) (hc : 0 ≤ c ∧ c ≤ 127) (hl : T.length + 1 ≤ 640)
    (hP : ∀ sh' I' R', SBX sh0 I0 R0 b (T ++ [c]) sh' I' R' → EXH (XK sh) sh I R sh' I' R' → P b sh' I' R') : wJ4_append_cf468 K J fu sh I R b cc (qwR P) := by
  subst hcc
  obtain ⟨ea, cap, B, E, hb0, he0⟩ := B
  have s1 := B.1
  unfold wJ4_append_cf468
  refine ⟨isT_of s1, ⟨by decide, by decide⟩, ?_⟩
  unfold wJ5_append_3fe6f
  refine wB_of (oI_at s1) ?_
  refine ⟨rcv_k s1, ⟨by decide, by decide⟩, ?_⟩
  rw [B.2.2.2.2.1, il1, iz_add, show ((T.length : Int) + 1) = ((T.length + 1 : Nat) : Int) from rfl]
  refine l_ensure B hl (fun ea' cap' sh1 I1 R1 B1 hcp e1 he => ?_)
  have he1 : sh0 ea' = none := by
    rcases he with he | he
    · rw [he]; exact he0
    · exact E.nw he
  have E1 : EXH (fun _ => False) sh0 I0 R0 sh1 I1 R1 := E.tr e1 (fun y hy z => absurd (by rw [z]; exact hb0) hy)
  have hne := B1.ne
  have B2 := B1.wr hc hcp
  obtain ⟨t1, t2, t3, t4, t5, t6, t7, t8⟩ := B1
  refine ⟨rcv_k t1, ⟨by decide, by decide⟩, l_lat1 t1 t4 ?_⟩
  rw [if_neg (by decide)]
  refine ⟨⟨by decide, by decide⟩, ?_⟩
  unfold wJ1_canEncode_fc78d
  rw [if_neg (by rw [ilt (show (255 : Int32) = iz 255 from iz_lit _) rfl ⟨by decide, by decide⟩ ⟨by omega, by omega⟩]; omega)]
  unfold wJ1_canEncode_fc78d_b12
  refine ⟨Or.inr rfl, _, rfl, ?_⟩
  dsimp only
  rw [if_neg (by decide)]
  refine wB_of (oR_at t1 t2) ?_
  refine wB_of (oI_at t1) ?_
  rw [t5, iz_add, show ((T.length : Int) + 1) = ((T.length + 1 : Nat) : Int) from rfl]
  refine wB_of (oP_at t1) ?_
  have by1 : (iByt (iz c)).toInt8.toInt32 = iz c := by
    unfold iByt
    rw [(fits_c hc).2, (fits_c hc).2]
  refine wB_of (oBs_n t3 T.length (by omega) rfl (by omega)) ?_
  rw [by1]
  have e2 : EXH (fun q => q = b ∨ q = ea') sh1 I1 R1 sh1 (u2 (u2 I1 b 3 (iz ((T.length + 1 : Nat) : Int))) ea' T.length (iz c)) R1 := ⟨fun _ _ => rfl, fun y _ hy => ⟨by
    funext j
    rw [u2_off (fun z => hy (Or.inr z)), u2_off (fun z => hy (Or.inl z))], rfl⟩⟩
  refine ⟨⟨by decide, by decide⟩, _, rfl, ⟨by decide, by decide⟩, _, rfl, hP _ _ _ ⟨ea', cap', B2, SBX.pair E1 hb0 he1 e2, hb0, he1⟩ ?_⟩
  refine (e1.mono (Y := XK sh) (fun y _ z => Or.inl ⟨4, by rw [z]; exact s1⟩)).tr e2 (fun y hy z => ?_)
  rcases z with z | z
  · exact Or.inl ⟨4, by rw [z]; exact s1⟩
  · rw [z]
    rcases he with he | he
    · rw [he]; exact Or.inr ⟨cap, B.2.2.1⟩
    · exact absurd (by rw [z]; exact he) hy
end SB
