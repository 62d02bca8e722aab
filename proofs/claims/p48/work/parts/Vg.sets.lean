/-! THE LAW, STAGE 2: setupsHold -/
theorem wB_que2 {o : Option ((Int32 ⊕ String) × HI)} {v : Int} {I' : HI} {Kc : Int32 → ((Int32 ⊕ String) × HI) → Prop} (h : o = some (cOut (.inl v), I')) (hk : ∀ r : (Int32 ⊕ String) × HI, r.2 = I' → Kc (iz v) r) : wB o fun r => wS r.1 fun x => Kc x r := by rw [h]; exact hk _ rfl
theorem LSI.cls {sh : HS} {I I' : HI} {R : HR} {K : Nat → Nat} {L ea cap : Nat} {S : List Nat} {g : Nat → Nat} {AD : Int → Nat} (T : LSI sh I R K L ea cap S g) (s : SHP sh AD) (h : ∀ b, FGN AD b → I' b = I b) : LSI sh I' R K L ea cap S g := by
  obtain ⟨t1, t2⟩ := T
  refine ⟨t1.cg rfl (by rw [h L (FGN.of s t1.1 (by decide))]) rfl rfl rfl, fun k q hk => ?_⟩
  obtain ⟨b1, b2⟩ := t2 k q hk
  have hf : FGN AD q := by
    rcases b1 with z | z
    · exact FGN.of s z (by decide)
    · exact FGN.of s z (by decide)
  exact ⟨b1, by rw [h q hf]; exact b2⟩
section SU
variable {K J : Nat → Nat} {fu : Nat} {σ : STT} {AD : Int → Nat} {A : Nat → Nat} {cap : Nat} {S : List Nat} {sh sh' : HS} {I I' : HI} {R R' : HR} {F : VF} {k q L ea cap2 X1 X2 : Nat} {S2 : List Nat} {l3 : Int32} {P : Int32 → HS → HI → HR → Prop}
theorem WLD.setup (W : WLD K σ AD A cap S sh I R) (hfu : 5000 ≤ fu) {b : Int} (hk : k < mSet σ.2.1) (hb : 0 ≤ b ∧ b ≤ 4) : ∃ I', fX10_setup fu sh I R (AD 0) (iz (k : Int)) (iz b) = some (cOut (.inl (setV σ.2.1 k b)), I') ∧ WLD K σ AD A cap S sh I' R ∧ ∀ y, FGN AD y → I' y = I y := by
  have n4 := W.VB.n
  have ml := mG_le σ.2.1 (σ.2.1 0) (σ.2.1 4).toNat
  have hm : mSet σ.2.1 ≤ 12 := by unfold mSet; omega
  have := W.que (f := fun I => fX10_setup fu sh I R (AD 0) (iz (k : Int)) (iz b)) (fun AD' P g O => by
    have e := cq_setup (P := P) (R := R) O W.1.V hfu (show IR (k : Int) from IRn (by omega)) (show IR b from ⟨by omega, by omega⟩)
    rw [g 0 (by decide) (by decide)] at e
    exact e)
  have ea : aSetup σ (k : Int) b = .inl (setV σ.2.1 k b) := by
    unfold aSetup
    rw [if_pos W.2.1, if_pos ⟨⟨by omega, by omega⟩, hb⟩, Int.toNat_natCast]
  rw [ea] at this
  exact this
theorem WLD.setupOf (W : WLD K σ AD A cap S sh I R) (hfu : 5000 ≤ fu) (hk : (k : Int) < σ.2.1 4) : ∃ I', fX10_setupOf fu sh I R (AD 0) (iz (k : Int)) = some (cOut (.inl (hG σ.2.1 (σ.2.1 0) (σ.2.1 4).toNat k : Int)), I') ∧ WLD K σ AD A cap S sh I' R ∧ ∀ y, FGN AD y → I' y = I y := by
  have n4 := W.VB.n
  have := W.que (f := fun I => fX10_setupOf fu sh I R (AD 0) (iz (k : Int))) (fun AD' P g O => by
    have e := cq_setupOf (P := P) (R := R) O W.1.V hfu (show IR (k : Int) from IRn (by omega))
    rw [g 0 (by decide) (by decide)] at e
    exact e)
  have ea : aSetupOf σ (k : Int) = .inl (hG σ.2.1 (σ.2.1 0) (σ.2.1 4).toNat k : Int) := by
    unfold aSetupOf
    rw [if_pos W.2.1, if_pos ⟨by omega, by omega⟩, Int.toNat_natCast]
  rw [ea] at this
  exact this
theorem WLD.change (W : WLD K σ AD A cap S sh I R) (hfu : 5000 ≤ fu) {i : Int} (hi : -1 ≤ i ∧ i < mSet σ.2.1) (hk : k < mSet σ.2.1) : ∃ I', fX10_change fu sh I R (AD 0) (iz i) (iz (k : Int)) = some (cOut (.inl (prG σ.2.1 i k)), I') ∧ WLD K σ AD A cap S sh I' R ∧ ∀ y, FGN AD y → I' y = I y := by
  have n4 := W.VB.n
  have ml := mG_le σ.2.1 (σ.2.1 0) (σ.2.1 4).toNat
  have hm : mSet σ.2.1 ≤ 12 := by unfold mSet; omega
  have := W.que (f := fun I => fX10_change fu sh I R (AD 0) (iz i) (iz (k : Int))) (fun AD' P g O => by
    have e := cq_change (P := P) (R := R) O W.1.V hfu (show IR i from ⟨by omega, by omega⟩) (show IR (k : Int) from IRn (by omega))
    rw [g 0 (by decide) (by decide)] at e
    exact e)
  rw [if_pos W.2.1, if_pos ⟨⟨by omega, by omega⟩, ⟨by omega, by omega⟩⟩, Int.toNat_natCast] at this
  exact this
theorem su_129 {k171 : HS → HI → HR → Nat → Nat → Nat → Nat → Nat → Int32 → Int32 → Int32 → Prop} (hfu : 5000 ≤ fu) (hk : k < mSet σ.2.1) (hX : X1 ≤ 1100 ∧ X2 ≤ 6600)
    (hc : ∀ I' c1 c2, WLD K σ AD A cap S sh I' R → LSI sh I' R K L ea cap2 S2 (qG σ.2.1 (σ.2.1 0) (σ.2.1 4).toNat) → KP sh I sh I' → c1 ≤ X1 ∧ c2 ≤ X2 → k171 sh I' R c1 c2 (AD 0) (A 0) L l3 (iz (k : Int)) (iz (qG σ.2.1 (σ.2.1 0) (σ.2.1 4).toNat k : Int))) :
    ∀ (d a n c1 c2 : Nat) (I' : HI), a + d = S.length → d < n → c1 + 2 * d ≤ X1 ∧ c2 + 12 * d ≤ X2 → WLD K σ AD A cap S sh I' R → LSI sh I' R K L ea cap2 S2 (qG σ.2.1 (σ.2.1 0) (σ.2.1 4).toNat) → KP sh I sh I' → wL_setupsHold_l129 K J fu F k171 n sh I' R c1 c2 (AD 0) (A 0) L l3 (iz (k : Int)) (iz (qG σ.2.1 (σ.2.1 0) (σ.2.1 4).toNat k : Int)) (iz (a : Int)) := by
  intro d
  induction d with
  | zero =>
    intro a n c1 c2 I' had hn hcc W T kp
    have B := W.2.2.1
    have n4 := W.VB.n
    have hl := B.len
    obtain ⟨n', rfl⟩ : ∃ n', n = n' + 1 := ⟨n - 1, by omega⟩
    show wL_setupsHold_b129 K J fu F (wL_setupsHold_l129 K J fu F k171 n') k171 sh I' R c1 c2 (AD 0) (A 0) L l3 _ _ _
    unfold wL_setupsHold_b129
    refine wB_of (oR_at B.1.1.1 B.1.1.2.1) ?_
    refine ⟨rcv_k B.2.1.1, ⟨by omega, by omega⟩, l_size B.2.1 ?_⟩
    rw [if_pos (by rw [ile rfl rfl (IRn (by omega)) (IRn (by omega))]; omega)]
    exact hc I' c1 c2 W T kp ⟨by omega, by omega⟩
  | succ d ih =>
    intro a n c1 c2 I' had hn hcc W T kp
    have B := W.2.2.1
    have n4 := W.VB.n
    have hl := B.len
    obtain ⟨n', rfl⟩ : ∃ n', n = n' + 1 := ⟨n - 1, by omega⟩
    show wL_setupsHold_b129 K J fu F (wL_setupsHold_l129 K J fu F k171 n') k171 sh I' R c1 c2 (AD 0) (A 0) L l3 _ _ _
    unfold wL_setupsHold_b129
    refine wB_of (oR_at B.1.1.1 B.1.1.2.1) ?_
    refine ⟨rcv_k B.2.1.1, ⟨by omega, by omega⟩, l_size B.2.1 ?_⟩
    rw [if_neg (by rw [ile rfl rfl (IRn (by omega)) (IRn (by omega))]; omega)]
    refine bit_if (by omega) (by omega) (fun z => ?_) (fun z => ?_)
    · obtain ⟨I2, e, W2, f2⟩ := W.setupOf (fu := fu) hfu (k := a) (by omega)
      refine ⟨⟨by omega, by omega⟩, wB_que2 e (fun r hr => ?_)⟩
      rw [hr, if_pos (show iz (hG σ.2.1 (σ.2.1 0) (σ.2.1 4).toNat a : Int) = iz (k : Int) by rw [z])]
      unfold wL_setupsHold_b165
      rw [il1, iz_add]
      exact ih (a + 1) n' (c1 + 2) (c2 + 12) I2 (by omega) (by omega) ⟨by omega, by omega⟩ W2 (T.cls W.1.1 f2) (kp.tr (fun b n h => ⟨h, f2 b (FGN.of W.1.1 h (by decide))⟩))
    · unfold wL_setupsHold_b165
      rw [il1, iz_add]
      exact ih (a + 1) n' c1 c2 I' (by omega) (by omega) ⟨by omega, by omega⟩ W T kp
theorem su_174 {k229 : HS → HI → HR → Nat → Nat → Nat → Nat → Nat → Int32 → Int32 → Int32 → Prop} (hfu : 5000 ≤ fu) (hk : k < mSet σ.2.1) (hm : S2.length = mSet σ.2.1) (hX : X1 ≤ 1100 ∧ X2 ≤ 6600)
    (hc : ∀ I' c1 c2, WLD K σ AD A cap S sh I' R → LSI sh I' R K L ea cap2 S2 (qG σ.2.1 (σ.2.1 0) (σ.2.1 4).toNat) → KP sh I sh I' → c1 ≤ X1 ∧ c2 ≤ X2 → k229 sh I' R c1 c2 (AD 0) (A 0) L l3 (iz (k : Int)) (iz (qG σ.2.1 (σ.2.1 0) (σ.2.1 4).toNat k : Int))) :
    ∀ (d : Nat) (a : Int) (n c1 c2 : Nat) (I' : HI), -1 ≤ a → a + d = mSet σ.2.1 → d < n → c1 + 3 * d ≤ X1 ∧ c2 + 18 * d ≤ X2 → WLD K σ AD A cap S sh I' R → LSI sh I' R K L ea cap2 S2 (qG σ.2.1 (σ.2.1 0) (σ.2.1 4).toNat) → KP sh I sh I' → wL_setupsHold_l174 K J fu F k229 n sh I' R c1 c2 (AD 0) (A 0) L l3 (iz (k : Int)) (iz (qG σ.2.1 (σ.2.1 0) (σ.2.1 4).toNat k : Int)) (iz a) := by
  intro d
  induction d with
  | zero =>
    intro a n c1 c2 I' ha had hn hcc W T kp
    have n4 := W.VB.n
    have ml := mG_le σ.2.1 (σ.2.1 0) (σ.2.1 4).toNat
    have hm12 : mSet σ.2.1 ≤ 12 := by unfold mSet; omega
    obtain ⟨n', rfl⟩ : ∃ n', n = n' + 1 := ⟨n - 1, by omega⟩
    show wL_setupsHold_b174 K J fu F (wL_setupsHold_l174 K J fu F k229 n') k229 sh I' R c1 c2 (AD 0) (A 0) L l3 _ _ _
    unfold wL_setupsHold_b174
    refine ⟨rcv_k T.1.1, ⟨by omega, by omega⟩, l_size T.1 ?_⟩
    rw [if_pos (by rw [ile rfl rfl (IRn (by omega)) ⟨by omega, by omega⟩]; omega)]
    exact hc I' c1 c2 W T kp ⟨by omega, by omega⟩
  | succ d ih =>
    intro a n c1 c2 I' ha had hn hcc W T kp
    have n4 := W.VB.n
    have ml := mG_le σ.2.1 (σ.2.1 0) (σ.2.1 4).toNat
    have hm12 : mSet σ.2.1 ≤ 12 := by unfold mSet; omega
    obtain ⟨n', rfl⟩ : ∃ n', n = n' + 1 := ⟨n - 1, by omega⟩
    show wL_setupsHold_b174 K J fu F (wL_setupsHold_l174 K J fu F k229 n') k229 sh I' R c1 c2 (AD 0) (A 0) L l3 _ _ _
    unfold wL_setupsHold_b174
    refine ⟨rcv_k T.1.1, ⟨by omega, by omega⟩, l_size T.1 ?_⟩
    rw [if_neg (by rw [ile rfl rfl (IRn (by omega)) ⟨by omega, by omega⟩]; omega)]
    obtain ⟨I2, e, W2, f2⟩ := W.change (fu := fu) hfu (i := a) ⟨ha, by omega⟩ hk
    have T2' := T.cls W.1.1 f2
    have kp2 : KP sh I sh I2 := kp.tr (fun b n h => ⟨h, f2 b (FGN.of W.1.1 h (by decide))⟩)
    have next := ih (a + 1) n' (c1 + 3) (c2 + 18) I2 (by omega) (by omega) (by omega) ⟨by omega, by omega⟩ W2 T2' kp2
    refine ⟨⟨by omega, by omega⟩, wB_que2 e (fun r hr => ?_)⟩
    rw [hr]
    have B2 := W2.2.2.1
    by_cases z : 0 ≤ a
    · rw [if_pos (by rw [ile il0 rfl ⟨by decide, by decide⟩ ⟨by omega, by omega⟩]; exact z)]
      obtain ⟨i, rfl⟩ : ∃ i : Nat, a = (i : Int) := ⟨a.toNat, by omega⟩
      obtain ⟨b, hb⟩ : ∃ b, S2[i]? = some b := ⟨S2[i]'(by omega), List.getElem?_eq_getElem (by omega)⟩
      have bx := T2'.2 i b hb
      refine ⟨rcv_k T2'.1.1, ⟨by omega, by omega⟩, l_get T2'.1 hb ?_⟩
      refine wB_of bx.kt ?_
      refine ⟨bx.rcv, ⟨by omega, by omega⟩, l_int bx ?_⟩
      unfold wL_setupsHold_b213
      refine ⟨B2.r, ⟨by omega, by omega⟩, l_change1 B2 W2.VB hfu (show i < mSet σ.2.1 by omega) hk ?_⟩
      rw [if_pos (show iz (prG σ.2.1 i k) = iz (chS σ.2.1 (σ.2.1 0) i k) by unfold prG; rw [if_neg (by omega), Int.toNat_natCast]), il1, iz_add]
      exact next
    · rw [if_neg (by rw [ile il0 rfl ⟨by decide, by decide⟩ ⟨by omega, by omega⟩]; exact z)]
      have ha1 : a = -1 := by omega
      unfold wL_setupsHold_b213
      refine ⟨B2.r, ⟨by omega, by omega⟩, l_change0 B2 W2.VB hfu ?_⟩
      rw [if_pos (show iz (prG σ.2.1 a k) = iz (stS σ.2.1 (σ.2.1 0) k) by unfold prG; rw [if_pos ha1]), il1, iz_add]
      exact next
end SU
