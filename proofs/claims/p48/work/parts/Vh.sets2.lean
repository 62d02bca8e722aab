/-! THE LAW, STAGE 2: setupsHold, whole -/
section SU
variable {K J : Nat → Nat} {fu : Nat} {σ : STT} {AD : Int → Nat} {A : Nat → Nat} {cap : Nat} {S : List Nat} {sh sh' : HS} {I I' : HI} {R R' : HR} {F : VF} {k q L ea cap2 X1 X2 : Nat} {S2 : List Nat} {P : Int32 → HS → HI → HR → Prop}
theorem WLD.setups (W : WLD K σ AD A cap S sh I R) (hfu : 5000 ≤ fu) : ∃ I', fX10_setups fu sh I R (AD 0) = some (cOut (.inl (mSet σ.2.1 : Int)), I') ∧ WLD K σ AD A cap S sh I' R ∧ ∀ y, FGN AD y → I' y = I y := by
  have := W.que (f := fun I => fX10_setups fu sh I R (AD 0)) (fun AD' P g O => by
    have e := cq_setups (P := P) (R := R) O W.1.V hfu
    rw [g 0 (by decide) (by decide)] at e
    exact e)
  have ea : aSetups σ = .inl (mSet σ.2.1 : Int) := by unfold aSetups; rw [if_pos W.2.1]
  rw [ea] at this
  exact this
theorem WLD.plain (W : WLD K σ AD A cap S sh I R) (hfu : 5000 ≤ fu) : ∃ I', fX10_plainCost fu sh I R (AD 0) = some (cOut (.inl (plD σ.2.1 (mSet σ.2.1))), I') ∧ WLD K σ AD A cap S sh I' R ∧ ∀ y, FGN AD y → I' y = I y := by
  have := W.que (f := fun I => fX10_plainCost fu sh I R (AD 0)) (fun AD' P g O => by
    have e := cq_plainCost (P := P) (R := R) O W.1.V hfu
    rw [g 0 (by decide) (by decide)] at e
    exact e)
  have ea : aBoard σ (plD σ.2.1 (mSet σ.2.1)) = .inl (plD σ.2.1 (mSet σ.2.1)) := by unfold aBoard; rw [if_pos W.2.1]
  rw [ea] at this
  exact this
theorem su_254 {k14 : HS → HI → HR → Nat → Nat → Nat → Nat → Nat → Int32 → Int32 → Prop} {k124 : HS → HI → HR → Nat → Nat → Prop} {k267 : HS → HI → HR → Nat → Nat → Nat → Nat → Int32 → Prop} {c1 c2 : Nat} (W : WLD K σ AD A cap S sh I R) (T : LSI sh I R K L ea cap2 S2 (qG σ.2.1 (σ.2.1 0) (σ.2.1 4).toNat)) (hm : S2.length = mSet σ.2.1) (hfu : 5000 ≤ fu) (hk : k < mSet σ.2.1) (hc : c1 ≤ 1100 ∧ c2 ≤ 6600)
    (hn : k14 sh I R c1 c2 (AD 0) (A 0) L (iz (plD σ.2.1 (k + 1))) (iz ((k + 1 : Nat) : Int))) : wL_setupsHold_b229 K J fu F k14 k124 k267 sh I R c1 c2 (AD 0) (A 0) L (iz (plD σ.2.1 k)) (iz (k : Int)) (iz (qG σ.2.1 (σ.2.1 0) (σ.2.1 4).toNat k : Int)) := by
  have B := W.2.2.1
  have n4 := W.VB.n
  have ml := mG_le σ.2.1 (σ.2.1 0) (σ.2.1 4).toNat
  have hm12 : mSet σ.2.1 ≤ 12 := by unfold mSet; omega
  have hpl : plD σ.2.1 (k + 1) = plD σ.2.1 k + prG σ.2.1 ((k : Int) - 1) k := rfl
  rw [hpl] at hn
  unfold wL_setupsHold_b229
  by_cases z : k = 0
  · rw [if_pos (by rw [z]; decide)]
    unfold wL_setupsHold_b254
    refine ⟨B.r, hc, l_change0 B W.VB hfu ?_⟩
    have hp : prG σ.2.1 ((k : Int) - 1) k = stS σ.2.1 (σ.2.1 0) k := by unfold prG; rw [if_pos (by omega)]
    rw [iz_add, il1, iz_add, ← hp]
    exact hn
  · rw [if_neg (by rw [ieq rfl il0 (IRn (by omega)) ⟨by decide, by decide⟩]; omega)]
    obtain ⟨i, rfl⟩ : ∃ i, k = i + 1 := ⟨k - 1, by omega⟩
    obtain ⟨b, hb⟩ : ∃ b, S2[i]? = some b := ⟨S2[i]'(by omega), List.getElem?_eq_getElem (by omega)⟩
    have bx := T.2 i b hb
    rw [il1, iz_sub, show ((i + 1 : Nat) : Int) - 1 = (i : Int) by omega]
    refine ⟨rcv_k T.1.1, hc, l_get T.1 hb ?_⟩
    refine wB_of bx.kt ?_
    refine ⟨bx.rcv, hc, l_int bx ?_⟩
    unfold wL_setupsHold_b254
    refine ⟨B.r, hc, l_change1 B W.VB hfu (show i < mSet σ.2.1 by omega) hk ?_⟩
    have hp : prG σ.2.1 (((i + 1 : Nat) : Int) - 1) (i + 1) = chS σ.2.1 (σ.2.1 0) i (i + 1) := by
      unfold prG
      rw [if_neg (by omega), show ((i + 1 : Nat) : Int) - 1 = (i : Int) by omega, Int.toNat_natCast]
    rw [iz_add, il1, iz_add, ← hp]
    exact hn
theorem su_14 (hfu : 5000 ≤ fu) (hm : S2.length = mSet σ.2.1) (hP : ∀ I', WLD K σ AD A cap S sh I' R → KP sh I sh I' → P 1 sh I' R) :
    ∀ (d k n c1 c2 : Nat) (I' : HI), k + d = mSet σ.2.1 → d < n → c1 ≤ 40 + 78 * k ∧ c2 ≤ 450 + 468 * k → WLD K σ AD A cap S sh I' R → LSI sh I' R K L ea cap2 S2 (qG σ.2.1 (σ.2.1 0) (σ.2.1 4).toNat) → KP sh I sh I' → wL_setupsHold_l14 K J fu (qwI P) (wL_setupsHold_b124 K J fu (qwI P)) (wL_setupsHold_b267 K J fu (qwI P)) n sh I' R c1 c2 (AD 0) (A 0) L (iz (plD σ.2.1 k)) (iz (k : Int)) := by
  intro d
  induction d with
  | zero =>
    intro k n c1 c2 I' hkd hn hcc W T kp
    have n4 := W.VB.n
    have ml := mG_le σ.2.1 (σ.2.1 0) (σ.2.1 4).toNat
    have hm12 : mSet σ.2.1 ≤ 12 := by unfold mSet; omega
    have hk : k = mSet σ.2.1 := by omega
    obtain ⟨n', rfl⟩ : ∃ n', n = n' + 1 := ⟨n - 1, by omega⟩
    show wL_setupsHold_b14 K J fu (qwI P) (wL_setupsHold_l14 K J fu (qwI P) _ _ n') _ _ sh I' R c1 c2 (AD 0) (A 0) L _ _
    unfold wL_setupsHold_b14
    refine ⟨rcv_k T.1.1, ⟨by omega, by omega⟩, l_size T.1 ?_⟩
    rw [if_pos (by rw [ile rfl rfl (IRn (by omega)) (IRn (by omega))]; omega)]
    unfold wL_setupsHold_b267
    obtain ⟨I2, e, W2, f2⟩ := W.setups (fu := fu) hfu
    have T2' := T.cls W.1.1 f2
    have kp2 : KP sh I sh I2 := kp.tr (fun b n h => ⟨h, f2 b (FGN.of W.1.1 h (by decide))⟩)
    refine ⟨⟨by omega, by omega⟩, wB_que2 e (fun r hr => ?_)⟩
    rw [hr]
    refine ⟨rcv_k T2'.1.1, ⟨by omega, by omega⟩, l_size T2'.1 ?_⟩
    rw [if_pos (by rw [hm])]
    obtain ⟨I3, e3, W3, f3⟩ := W2.plain (fu := fu) hfu
    have kp3 : KP sh I sh I3 := kp2.tr (fun b n h => ⟨h, f3 b (FGN.of W.1.1 h (by decide))⟩)
    refine ⟨⟨by omega, by omega⟩, wB_que2 e3 (fun r3 hr3 => ?_)⟩
    rw [hr3, if_pos (by rw [hk])]
    unfold wL_setupsHold_b291
    exact ⟨⟨by omega, by omega⟩, Or.inr rfl, _, rfl, hP I3 W3 kp3⟩
  | succ d ih =>
    intro k n c1 c2 I' hkd hn hcc W T kp
    have B := W.2.2.1
    have V := W.VB
    have n4 := V.n
    have hl := B.len
    have ml := mG_le σ.2.1 (σ.2.1 0) (σ.2.1 4).toNat
    have hm12 : mSet σ.2.1 ≤ 12 := by unfold mSet; omega
    have hkm : k < mSet σ.2.1 := by omega
    have hkm2 : k < mG_ σ.2.1 (σ.2.1 0) (σ.2.1 4).toNat := hkm
    have fl := fG_lt σ.2.1 (σ.2.1 0) _ _ hkm2
    obtain ⟨n', rfl⟩ : ∃ n', n = n' + 1 := ⟨n - 1, by omega⟩
    obtain ⟨b, hb⟩ : ∃ b, S2[k]? = some b := ⟨S2[k]'(by omega), List.getElem?_eq_getElem (by omega)⟩
    have bx := T.2 k b hb
    show wL_setupsHold_b14 K J fu (qwI P) (wL_setupsHold_l14 K J fu (qwI P) _ _ n') _ _ sh I' R c1 c2 (AD 0) (A 0) L _ _
    unfold wL_setupsHold_b14
    refine ⟨rcv_k T.1.1, ⟨by omega, by omega⟩, l_size T.1 ?_⟩
    rw [if_neg (by rw [ile rfl rfl (IRn (by omega)) (IRn (by omega))]; omega)]
    refine ⟨rcv_k T.1.1, ⟨by omega, by omega⟩, l_get T.1 hb ?_⟩
    refine wB_of bx.kt ?_
    refine ⟨bx.rcv, ⟨by omega, by omega⟩, l_int bx ?_⟩
    refine ⟨⟨by omega, by omega⟩, wB_of (ntz_ok (qG_lt _ _ (by omega)) (qG_ne hkm2)) ?_⟩
    rw [qG_low (by omega) hkm2]
    obtain ⟨I1, e1, W1, f1⟩ := W.setup (fu := fu) hfu (b := 0) hkm ⟨by decide, by decide⟩
    have T1' := T.cls W.1.1 f1
    have kp1 : KP sh I sh I1 := kp.tr (fun b n h => ⟨h, f1 b (FGN.of W.1.1 h (by decide))⟩)
    refine ⟨⟨by omega, by omega⟩, wB_que2 e1 (fun r1 hr1 => ?_)⟩
    rw [hr1, if_pos (show iz (setV σ.2.1 k 0) = iz (fG σ.2.1 (σ.2.1 0) (σ.2.1 4).toNat k : Int) from rfl)]
    obtain ⟨I2, e2, W2, f2⟩ := W1.setup (fu := fu) hfu (b := 1) hkm ⟨by decide, by decide⟩
    have T2' := T1'.cls W.1.1 f2
    have kp2 : KP sh I sh I2 := kp1.tr (fun b n h => ⟨h, f2 b (FGN.of W.1.1 h (by decide))⟩)
    refine ⟨⟨by omega, by omega⟩, wB_que2 e2 (fun r2 hr2 => ?_)⟩
    rw [hr2, if_pos (show iz (setV σ.2.1 k 1) = iz (qG σ.2.1 (σ.2.1 0) (σ.2.1 4).toNat k : Int) from rfl)]
    obtain ⟨I3, e3, W3, f3⟩ := W2.setup (fu := fu) hfu (b := 2) hkm ⟨by decide, by decide⟩
    have T3' := T2'.cls W.1.1 f3
    have kp3 : KP sh I sh I3 := kp2.tr (fun b n h => ⟨h, f3 b (FGN.of W.1.1 h (by decide))⟩)
    refine ⟨⟨by omega, by omega⟩, wB_que2 e3 (fun r3 hr3 => ?_)⟩
    rw [hr3]
    refine ⟨W3.2.2.1.r, ⟨by omega, by omega⟩, l_actors W3.2.2.1 V hfu ?_⟩
    rw [if_pos (show iz (setV σ.2.1 k 2) = iz (gaS σ.2.1 (σ.2.1 0) k : Int) from rfl)]
    obtain ⟨I4, e4, W4, f4⟩ := W3.setup (fu := fu) hfu (b := 3) hkm ⟨by decide, by decide⟩
    have T4' := T3'.cls W.1.1 f4
    have kp4 : KP sh I sh I4 := kp3.tr (fun b n h => ⟨h, f4 b (FGN.of W.1.1 h (by decide))⟩)
    refine ⟨⟨by omega, by omega⟩, wB_que2 e4 (fun r4 hr4 => ?_)⟩
    rw [hr4]
    refine ⟨W4.2.2.1.r, ⟨by omega, by omega⟩, l_length W4.2.2.1 V hfu ?_⟩
    rw [if_pos (show iz (setV σ.2.1 k 3) = iz (gnS σ.2.1 (σ.2.1 0) k) from rfl)]
    obtain ⟨I5, e5, W5, f5⟩ := W4.setup (fu := fu) hfu (b := 4) hkm ⟨by decide, by decide⟩
    have T5' := T4'.cls W.1.1 f5
    have kp5 : KP sh I sh I5 := kp4.tr (fun b n h => ⟨h, f5 b (FGN.of W.1.1 h (by decide))⟩)
    refine ⟨⟨by omega, by omega⟩, wB_que2 e5 (fun r5 hr5 => ?_)⟩
    rw [hr5]
    have B5 := W5.2.2.1
    obtain ⟨y, hy⟩ : ∃ y, S[fG σ.2.1 (σ.2.1 0) (σ.2.1 4).toNat k]? = some y := ⟨S[fG σ.2.1 (σ.2.1 0) (σ.2.1 4).toNat k]'(by omega), List.getElem?_eq_getElem (by omega)⟩
    refine wB_of (oR_at B5.1.1.1 B5.1.1.2.1) ?_
    refine ⟨rcv_k B5.2.1.1, ⟨by omega, by omega⟩, l_get B5.2.1 hy ?_⟩
    refine wB_of (oKt_1 (B5.kk hy).2.2) ?_
    refine wB_of (oA2_n (B5.kk hy).2.2 0 (by decide) il0) ?_
    rw [(B5.2.2.2.2.2 _ y hy).1, if_pos (show iz (setV σ.2.1 k 4) = iz (scS σ.2.1 (fG σ.2.1 (σ.2.1 0) (σ.2.1 4).toNat k)) from rfl)]
    have hgo := su_129 (K := K) (J := J) (fu := fu) (F := qwI P) (AD := AD) (A := A) (cap := cap) (S := S) (sh := sh) (I := I) (R := R) (k := k) (L := L) (ea := ea) (cap2 := cap2) (S2 := S2) (X1 := c1 + 39) (X2 := c2 + 234) (l3 := iz (plD σ.2.1 k)) (k171 := wL_setupsHold_b171 K J fu (qwI P) (wL_setupsHold_l14 K J fu (qwI P) (wL_setupsHold_b124 K J fu (qwI P)) (wL_setupsHold_b267 K J fu (qwI P)) n') (wL_setupsHold_b124 K J fu (qwI P)) (wL_setupsHold_b267 K J fu (qwI P))) hfu hkm ⟨by omega, by omega⟩ (fun I6 c1' c2' W6 T6 kp6 h6 => ?_) S.length 0 fu (c1 + 3 + 3 + 3 + 3 + 3) (c2 + 18 + 18 + 18 + 18 + 18) I5 (by omega) (by omega) ⟨by omega, by omega⟩ W5 T5' kp5
    · exact hgo
    · unfold wL_setupsHold_b171
      have hgo2 := su_174 (K := K) (J := J) (fu := fu) (F := qwI P) (AD := AD) (A := A) (cap := cap) (S := S) (sh := sh) (I := I) (R := R) (k := k) (L := L) (ea := ea) (cap2 := cap2) (S2 := S2) (X1 := c1 + 78) (X2 := c2 + 468) (l3 := iz (plD σ.2.1 k)) (k229 := wL_setupsHold_b229 K J fu (qwI P) (wL_setupsHold_l14 K J fu (qwI P) (wL_setupsHold_b124 K J fu (qwI P)) (wL_setupsHold_b267 K J fu (qwI P)) n') (wL_setupsHold_b124 K J fu (qwI P)) (wL_setupsHold_b267 K J fu (qwI P))) hfu hkm hm ⟨by omega, by omega⟩ (fun I7 c1'' c2'' W7 T7 kp7 h7 => ?_) (mSet σ.2.1 + 1) (-1) fu c1' c2' I6 (by decide) (by omega) (by omega) ⟨by omega, by omega⟩ W6 T6 kp6
      · exact hgo2
      · refine su_254 W7 T7 hm hfu hkm ⟨by omega, by omega⟩ ?_
        exact ih (k + 1) n' c1'' c2'' I7 (by omega) (by omega) ⟨by omega, by omega⟩ W7 T7 kp7
theorem l_setupsHold (W : WLD K σ AD A cap S sh I R) (hfu : 5000 ≤ fu) (hP : ∀ sh' I' R', WLD K σ AD A cap S sh' I' R' → KP sh I sh' I' → P 1 sh' I' R') : wL_setupsHold K J fu sh I R (AD 0) (A 0) (qwI P) := by
  have B := W.2.2.1
  have V := W.VB
  have n4 := V.n
  have lim := V.lim
  have ml := mG_le σ.2.1 (σ.2.1 0) (σ.2.1 4).toNat
  have hm12 : mSet σ.2.1 ≤ 12 := by unfold mSet; omega
  unfold wL_setupsHold
  refine wB_of (oI_at B.1.1.1) ?_
  rw [B.2.2.1.1]
  refine ⟨B.r, ⟨by decide, by decide⟩, l_setups B V W.2.2.2.1 lim.1 hfu (fun L sh' I' R' ea cap2 S2 e T hm => ?_)⟩
  have W' := W.ext e
  exact su_14 (J := J) hfu hm (fun I2 W2 kp2 => hP sh' I2 R' W2 (e.kp.tr kp2)) (mSet σ.2.1) 0 fu (0 + 40) (0 + 450) I' (by omega) (by omega) ⟨by decide, by decide⟩ W' T (KP.rf sh' I')
end SU
