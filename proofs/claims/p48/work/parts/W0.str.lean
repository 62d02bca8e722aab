/-! THE LAW, STAGE 2: bytes copied, a builder's text made, a part of a text -/
section SB
variable {K J : Nat → Nat} {fu : Nat} {sh0 sh sh' : HS} {I0 I I' : HI} {R0 R R' : HR} {b ea cap q v n : Nat} {T U : List Int} {X : Nat → Prop}
theorem EXH.pt {a : Nat} {f : HI} (h : sh a = none) (z : Nat × Nat) (hf : ∀ y, ¬ y = a → f y = I y) : EXH (fun _ => False) sh I R (u1 sh a (some z)) f R := ⟨fun y hy => u1_off (fun e => hy (by rw [e]; exact h)), fun y hy _ => ⟨hf y (fun e => hy (by rw [e]; exact h)), rfl⟩⟩
theorem l_cor10 {P : Nat → HS → HI → HR → Prop} {fr to : Nat} (hv : sh v = some (21, n) ∨ sh v = some (23, n)) (hfit : ∀ j, j < n → fits .byte (.int (I v j)) = true) (h1 : fr ≤ to) (h2 : to ≤ n) (h3 : n ≤ 1290)
    (hP : ∀ a sh' I', sh a = none → sh' a = some (21, to - fr) → EXH (fun _ => False) sh I R sh' I' R → (∀ j, j < to - fr → I' a j = I v (fr + j)) → P a sh' I' R) : wJ7_copyOfRange_39247_b10 K J fu (qwR P) sh I R 0 0 v (iz (fr : Int)) (iz (to : Int)) := by
  unfold wJ7_copyOfRange_39247_b10
  refine ⟨⟨by decide, by decide⟩, ?_⟩
  unfold wJ7_copyOfRangeByte_39247
  refine ⟨⟨by decide, by decide⟩, ?_⟩
  unfold wJ7_checkLength_df160
  rw [if_pos (by rw [ile rfl rfl (IRn (by omega)) (IRn (by omega))]; omega)]
  refine ⟨rfl, ?_⟩
  rw [iz_sub, show ((to : Int) - (fr : Int)) = ((to - fr : Nat) : Int) by omega]
  have zn : (iz ((to - fr : Nat) : Int)).toNatClampNeg = to - fr := by rw [iz_nat (by omega) (by omega)]; omega
  have zf : (iz (fr : Int)).toNatClampNeg = fr := by rw [iz_nat (by omega) (by omega)]; omega
  have z0 : (0 : Int32).toNatClampNeg = 0 := by decide
  have nn : ∀ m : Nat, m ≤ 2147483647 → ¬ iz (m : Int) < 0 := fun m hm => by rw [ilt rfl il0 (IRn hm) ⟨by decide, by decide⟩]; omega
  rw [zn]
  refine ⟨⟨nn _ (by omega), by omega⟩, ⟨by omega, by omega⟩, fun a ha => ?_⟩
  obtain ⟨t0, hv0, ht0⟩ : ∃ t0, sh v = some (t0, n) ∧ (t0 = 21 ∨ t0 = 23) := by
    rcases hv with z | z
    · exact ⟨21, z, Or.inl rfl⟩
    · exact ⟨23, z, Or.inr rfl⟩
  have va : ¬ v = a := fun z => by rw [← z, hv0] at ha; cases ha
  have kv : u1 sh a (some (21, to - fr)) v = some (t0, n) := by rw [u1_off va]; exact hv0
  have ka : u1 sh a (some (21, to - fr)) a = some (21, to - fr) := u1_on
  refine wB_of (oLn_n kv (by rcases ht0 with z | z <;> rw [z] <;> decide)) ?_
  rw [iz_sub, iMin_iz (by omega) (by omega) (by omega) (by omega), show min ((n : Int) - (fr : Int)) ((to - fr : Nat) : Int) = ((to - fr : Nat) : Int) by omega]
  refine ⟨⟨by omega, by omega⟩, ⟨by omega, by omega⟩, t0, n, to - fr, kv, ht0, ka, nn _ (by omega), by decide, nn _ (by omega), by rw [zn, zf]; omega, by rw [zn, z0]; omega, fun j hj => ?_, ?_⟩
  · rw [zn] at hj
    rw [zf, u1_off va]
    exact hfit _ (by omega)
  rw [zn, zf, z0]
  obtain ⟨f, hf⟩ : ∃ f, f = cp2 (u1 I a (fun _ => 0)) v fr a 0 (to - fr) := ⟨_, rfl⟩
  obtain ⟨f1, f2, f3⟩ := cp2_new hf va
  rw [← hf]
  exact ⟨⟨by omega, by omega⟩, _, rfl, ⟨by decide, by decide⟩, _, rfl, hP a _ f ha ka (EXH.pt ha _ f3) f1⟩
theorem l_cor {P : Nat → HS → HI → HR → Prop} {fr to : Nat} (hv : sh v = some (21, n)) (hfit : ∀ j, j < n → fits .byte (.int (I v j)) = true) (h1 : fr ≤ to) (h2 : to ≤ n) (h3 : n ≤ 1290)
    (hP : ∀ a sh' I', sh a = none → sh' a = some (21, to - fr) → EXH (fun _ => False) sh I R sh' I' R → (∀ j, j < to - fr → I' a j = I v (fr + j)) → P a sh' I' R) : wJ7_copyOfRange_39247 K J fu sh I R v (iz (fr : Int)) (iz (to : Int)) (qwR P) := by
  unfold wJ7_copyOfRange_39247
  by_cases c : fr = 0
  · subst c
    rw [if_pos (by decide)]
    refine wB_of (oLn_n hv (by decide)) ?_
    by_cases d : to = n
    · subst d
      rw [if_pos rfl]
      refine ⟨to, hv, ⟨by omega, by omega⟩, fun a ha => ?_⟩
      have ka : u1 sh a (some (21, to)) a = some (21, to) := u1_on
      have e4 : oKt (u1 sh a (some (21, to))) a 4 = some () := by
        unfold oKt
        rw [isT_of ka]
        rfl
      refine wB_of e4 ?_
      refine ⟨⟨by omega, by omega⟩, _, rfl, hP a _ _ ha ka (EXH.pt ha _ (fun y hy => u1_off hy)) (fun j _ => ?_)⟩
      rw [u1_on, show 0 + j = j by omega]
    · rw [if_neg (by rw [ieq rfl rfl (IRn (by omega)) (IRn (by omega))]; omega)]
      exact l_cor10 (Or.inl hv) hfit h1 h2 h3 hP
  · rw [if_neg (by rw [ieq rfl il0 (IRn (by omega)) ⟨by decide, by decide⟩]; omega)]
    exact l_cor10 (Or.inl hv) hfit h1 h2 h3 hP
theorem STRG.fit (h : STRG sh I R q T) (hT : CHR T) {v : Nat} (hv : R q 0 = some v) : ∀ j, j < T.length → fits .byte (.int (I v j)) = true := by
  obtain ⟨s1, s2, w, s3, s4, s5⟩ := h
  rw [hv] at s3
  cases s3
  intro j hj
  rw [s5 j T[j] (List.getElem?_eq_getElem hj)]
  exact (fits_c (hT _ (List.getElem_mem hj))).1
/-- a builder's text as a String -/
theorem l_toStr {P : Nat → HS → HI → HR → Prop} (B : SBD sh I R b ea cap T) (hP : ∀ r sh' I' R', sh r = none → EXH (fun _ => False) sh I R sh' I' R' → STRG sh' I' R' r T → (∃ v, R' r 0 = some v ∧ sh' v = some (21, T.length)) → sh' r = some (14, 4) → P r sh' I' R') : wJ4_toString_0e30d K J fu sh I R b (qwR P) := by
  obtain ⟨s1, s2, s3, s4, s5, s6, s7, s8⟩ := B
  unfold wJ4_toString_0e30d
  refine ⟨⟨by decide, by decide⟩, fun a ha => ⟨⟨by decide, by decide⟩, ?_⟩⟩
  have e0 := EXH.new I R ha (14, 4) (fun _ => 0) (fun _ => none)
  have ka : u1 sh a (some (14, 4)) a = some (14, 4) := u1_on
  have k1 := e0.k s1
  have k3 := e0.k s3
  have g1 := e0.2 b (nnk s1) (fun z => z)
  have g3 := e0.2 ea (nnk s3) (fun z => z)
  generalize u1 sh a (some (14, 4)) = sh1 at *
  generalize u1 I a (fun _ => 0) = I1 at *
  generalize u1 R a (fun _ => none) = R1 at *
  unfold wJ0_init_81219
  refine ⟨⟨by decide, by decide⟩, ?_⟩
  unfold wJ0_init_db425
  refine ⟨⟨by decide, by decide⟩, rcv_k k1, ⟨by decide, by decide⟩, ?_⟩
  unfold wJ5_getValue_6d5f1
  refine wB_of (oR_at k1 (by rw [g1.2]; exact s2)) ?_
  refine ⟨_, rfl, isT_of k1, ⟨by decide, by decide⟩, ?_⟩
  unfold wJ4_length_8abf5
  refine ⟨isT_of k1, ?_⟩
  unfold wJ5_length_8abf5
  refine wB_of (oI_at k1) ?_
  rw [g1.1, s5]
  refine ⟨_, rfl, _, rfl, rcv_k k1, ⟨by decide, by decide⟩, l_lat1 k1 (by rw [g1.1]; exact s4) ?_⟩
  rw [if_neg (by decide)]
  have e1 : oPB sh1 I1 a 14 1 0 = some (u2 I1 a 1 (iz 0)) := by
    unfold oPB
    rw [if_pos ⟨isT_of ka, by decide⟩, il0]
  refine wB_of e1 ?_
  have hne : ¬ ea = a := ne_k k3 ka (by decide)
  refine ⟨⟨by decide, by decide⟩, ?_⟩
  rw [il0]
  refine l_cor (fr := 0) (to := T.length) k3 (fun j hj => by rw [u2_off hne, g3.1]; exact s7 j hj) (Nat.zero_le _) s6.1 s6.2 (fun w sh2 I2 hw kw e2 hj => ?_)
  refine wB_of (oQ_at (e2.k ka)) ?_
  unfold wJ0_init_db425_b97
  have e3 : EXH (fun _ => False) sh I R sh2 I2 (u2 R1 a 0 (some w)) := (((e0.tr (EXH.wI sh1 I1 R1 a 1 (iz 0)) (fun y hy z => absurd (by rw [z]; exact ha) hy)).tr e2 (fun _ _ z => z.elim)).tr (EXH.wR sh2 I2 R1 a 0 (some w)) (fun y hy z => absurd (by rw [z]; exact ha) hy) : EXH (fun _ => False) sh I R sh2 I2 (u2 R1 a 0 (some w)))
  have wa : ¬ w = a := fun z => by rw [z, ka] at hw; cases hw
  have kw' : sh2 w = some (21, T.length) := by rw [kw, Nat.sub_zero]
  refine ⟨⟨by decide, by decide⟩, rfl, ⟨by decide, by decide⟩, rfl, ⟨by decide, by decide⟩, _, rfl, hP a sh2 I2 _ ha e3 ⟨Or.inl ⟨4, e2.k ka⟩, ?_, w, u2_self, Or.inl kw', fun k x hk => ?_⟩ ⟨w, u2_self, kw'⟩ (e2.k ka)⟩
  · rw [(e2.2 a (nnk ka) (fun z => z)).1, u2_self]
  · have hk1 := (List.getElem?_eq_some_iff.mp hk).1
    rw [hj k (by omega), u2_off hne, g3.1, show 0 + k = k by omega]
    exact s8 k x hk
theorem l_lat1S {P : Int32 → HS → HI → HR → Prop} (h : STRG sh I R q T) (hP : P 1 sh I R) : wJ0_isLatin1_aae02 K J fu sh I R q (qwI P) := by
  unfold wJ0_isLatin1_aae02
  rw [if_neg (by decide)]
  refine wB_of h.i2 ?_
  rw [if_pos il0.symm]
  unfold wJ0_isLatin1_aae02_b18
  exact ⟨Or.inr rfl, _, rfl, hP⟩
/-- a part of a text whose bytes lie in an array of its own -/
theorem l_sub22 {P : Nat → HS → HI → HR → Prop} (Q : STRG sh I R q T) (hT : CHR T) (hv : R q 0 = some v) (kv : sh v = some (21, T.length)) (h3 : T.length ≤ 1290) (Z : STRG sh I R (K 0) []) {fr to : Nat} (h1 : fr ≤ to) (h2 : to ≤ T.length)
    (hP : ∀ r sh' I' R', EXH (fun _ => False) sh I R sh' I' R' → STRG sh' I' R' r ((T.drop fr).take (to - fr)) → P r sh' I' R') : wJ0_substring_37a41_b22 K J fu (qwR P) sh I R 0 0 q (iz (fr : Int)) (iz (to : Int)) := by
  unfold wJ0_substring_37a41_b22
  refine ⟨Q.rcv, ⟨by decide, by decide⟩, l_lat1S Q ?_⟩
  rw [if_neg (by decide)]
  have e1 : oR2 sh R q 14 0 = some v := by
    unfold oR2
    rw [if_pos Q.b14]
    exact hv
  refine wB_of e1 ?_
  refine ⟨⟨by decide, by decide⟩, ?_⟩
  unfold wJ1_newString_b4f7a
  rw [iz_sub, show ((to : Int) - (fr : Int)) = ((to - fr : Nat) : Int) by omega]
  have hl : ((T.drop fr).take (to - fr)).length = to - fr := by rw [List.length_take, List.length_drop]; omega
  by_cases c : to - fr = 0
  · rw [if_pos (by rw [c]; exact il0.symm)]
    refine ⟨⟨by decide, by decide⟩, _, rfl, ⟨by decide, by decide⟩, _, rfl, hP _ _ _ _ (EXH.rf _ _ _ _) ?_⟩
    rw [c, List.take_zero]
    exact Z
  · rw [if_neg (by rw [ieq rfl il0 (IRn (by omega)) ⟨by decide, by decide⟩]; omega)]
    refine ⟨⟨by decide, by decide⟩, fun a ha => ⟨⟨by decide, by decide⟩, ?_⟩⟩
    have e0 := EXH.new I R ha (14, 4) (fun _ => 0) (fun _ => none)
    have ka : u1 sh a (some (14, 4)) a = some (14, 4) := u1_on
    have k3 := e0.k kv
    have g3 := e0.2 v (nnk kv) (fun z => z)
    have Q1 := Q.ex0 e0
    have hvv : u1 R a (fun _ => none) q 0 = some v := by rw [(e0.2 q Q.nn (fun z => z)).2]; exact hv
    generalize u1 sh a (some (14, 4)) = sh1 at *
    generalize u1 I a (fun _ => 0) = I1 at *
    generalize u1 R a (fun _ => none) = R1 at *
    rw [iz_add, show ((fr : Int) + ((to - fr : Nat) : Int)) = (to : Int) by omega]
    refine l_cor k3 (Q1.fit hT hvv) h1 h2 h3 (fun w sh2 I2 hw kw e2 hj => ?_)
    have wa : ¬ w = a := fun z => by rw [z, ka] at hw; cases hw
    refine ⟨⟨by decide, by decide⟩, ?_⟩
    unfold wJ0_init_031fb
    refine ⟨⟨by decide, by decide⟩, ?_⟩
    refine wB_of (oQ_at (e2.k ka)) ?_
    have e4 : oPB sh2 I2 a 14 1 0 = some (u2 I2 a 1 (iz 0)) := by
      unfold oPB
      rw [if_pos ⟨isT_of (e2.k ka), by decide⟩, il0]
    refine wB_of e4 ?_
    have e3 : EXH (fun _ => False) sh I R sh2 (u2 I2 a 1 (iz 0)) (u2 R1 a 0 (some w)) := (((e0.tr e2 (fun _ _ z => z.elim)).tr (EXH.wR sh2 I2 R1 a 0 (some w)) (fun y hy z => absurd (by rw [z]; exact ha) hy)).tr (EXH.wI sh2 I2 _ a 1 (iz 0)) (fun y hy z => absurd (by rw [z]; exact ha) hy) : EXH (fun _ => False) sh I R sh2 (u2 I2 a 1 (iz 0)) (u2 R1 a 0 (some w)))
    refine ⟨⟨by decide, by decide⟩, rfl, ⟨by decide, by decide⟩, _, rfl, ⟨by decide, by decide⟩, _, rfl, hP a sh2 _ _ e3 ⟨Or.inl ⟨4, e2.k ka⟩, u2_self, w, u2_self, Or.inl (by rw [hl]; exact kw), fun k x hk => ?_⟩⟩
    have hk1 := (List.getElem?_eq_some_iff.mp hk).1
    rw [hl] at hk1
    rw [u2_off wa, hj k hk1, g3.1]
    obtain ⟨-, -, w2, s3, s4, s5⟩ := Q
    rw [hv] at s3
    cases s3
    refine s5 _ x ?_
    rw [List.getElem?_take_of_lt hk1, List.getElem?_drop] at hk
    exact hk
theorem l_substr {P : Nat → HS → HI → HR → Prop} (Q : STRG sh I R q T) (hT : CHR T) (hv : R q 0 = some v) (kv : sh v = some (21, T.length)) (h3 : T.length ≤ 1290) (Z : STRG sh I R (K 0) []) {fr to : Nat} (h1 : fr ≤ to) (h2 : to ≤ T.length)
    (hP : ∀ r sh' I' R', EXH (fun _ => False) sh I R sh' I' R' → STRG sh' I' R' r ((T.drop fr).take (to - fr)) → P r sh' I' R') : wJ0_substring_37a41 K J fu sh I R q (iz (fr : Int)) (iz (to : Int)) (qwR P) := by
  unfold wJ0_substring_37a41
  refine ⟨Q.rcv, ⟨by decide, by decide⟩, l_strlen Q ?_⟩
  refine ⟨⟨by decide, by decide⟩, fun w => ?_⟩
  unfold wJ3_checkFromToIndex_8c36e
  rw [if_neg (by rw [ilt rfl il0 (IRn (by omega)) ⟨by decide, by decide⟩]; omega), if_neg (by rw [ilt rfl rfl (IRn (by omega)) (IRn (by omega))]; omega), if_pos (by rw [ile rfl rfl (IRn (by omega)) (IRn (by omega))]; omega)]
  refine ⟨_, rfl, rfl, ?_⟩
  dsimp only
  by_cases c : fr = 0
  · subst c
    rw [if_pos (by decide)]
    by_cases d : to = T.length
    · subst d
      rw [if_pos rfl]
      refine ⟨⟨by decide, by decide⟩, _, rfl, hP _ _ _ _ (EXH.rf _ _ _ _) ?_⟩
      rw [List.drop_zero, Nat.sub_zero, List.take_length]
      exact Q
    · rw [if_neg (by rw [ieq rfl rfl (IRn (by omega)) (IRn (by omega))]; omega)]
      exact l_sub22 Q hT hv kv h3 Z h1 h2 hP
  · rw [if_neg (by rw [ieq rfl il0 (IRn (by omega)) ⟨by decide, by decide⟩]; omega)]
    exact l_sub22 Q hT hv kv h3 Z h1 h2 hP
end SB
