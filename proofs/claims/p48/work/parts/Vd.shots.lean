/-! THE LAW, STAGE 2: shotsHold -/
/-- old arrays of ints stay -/
def KP (sh : HS) (I : HI) (sh' : HS) (I' : HI) : Prop := ∀ (b n : Nat), sh b = some (22, n) → sh' b = some (22, n) ∧ I' b = I b
theorem KP.rf (sh : HS) (I : HI) : KP sh I sh I := fun _ _ h => ⟨h, rfl⟩
theorem KP.tr {sh sh1 sh2 : HS} {I I1 I2 : HI} (a : KP sh I sh1 I1) (b : KP sh1 I1 sh2 I2) : KP sh I sh2 I2 := fun q n h => ⟨(b q n (a q n h).1).1, (b q n (a q n h).1).2.trans (a q n h).2⟩
theorem EXH.kp {sh sh' : HS} {I I' : HI} {R R' : HR} (e : EXH (fun _ => False) sh I R sh' I' R') : KP sh I sh' I' := fun b n h => ⟨e.k h, (e.2 b (nnk h) (fun z => z)).1⟩
theorem LBD.g {sh : HS} {I : HI} {R : HR} {K A : Nat → Nat} {cap : Nat} {S : List Nat} {ρ : RHO} (B : LBD sh I R K A cap S ρ) {k q : Nat} (hk : S[k]? = some q) : ∀ a : Nat, a < 6 → I q a = iz (gS ρ k a)
  | 0, _ => (B.2.2.2.2.2 k q hk).1
  | 1, _ => (B.2.2.2.2.2 k q hk).2.1
  | 2, _ => (B.2.2.2.2.2 k q hk).2.2.1
  | 3, _ => (B.2.2.2.2.2 k q hk).2.2.2.1
  | 4, _ => (B.2.2.2.2.2 k q hk).2.2.2.2.1
  | 5, _ => (B.2.2.2.2.2 k q hk).2.2.2.2.2
theorem aShot_in {σ : STT} {k : Nat} (h : σ.1 = true) (hk : (k : Int) < σ.2.1 4) (v : Int → Int) : aShot σ k v = .inl (v k) := by
  unfold aShot
  rw [if_pos h, if_pos ⟨by omega, by omega⟩]
section SH
variable {K J : Nat → Nat} {fu : Nat} {σ : STT} {AD : Int → Nat} {A : Nat → Nat} {cap : Nat} {S : List Nat} {sh sh' : HS} {I I' : HI} {R R' : HR} {F : VF} {k q X1 X2 : Nat} {l2 : Int32} {P : Int32 → HS → HI → HR → Prop}
theorem sh_31 {k61 : HS → HI → HR → Nat → Nat → Nat → Nat → Int32 → Int32 → Nat → Prop} (W : WLD K σ AD A cap S sh I R) (hk : S[k]? = some q) (hX : X1 ≤ 900 ∧ X2 ≤ 5400) (hc : ∀ c1 c2, c1 ≤ X1 ∧ c2 ≤ X2 → k61 sh I R c1 c2 (AD 0) (A 0) l2 (iz (k : Int)) q) :
    ∀ (d a n c1 c2 : Nat), a + d = 6 → d < n → c1 + 3 * d ≤ X1 ∧ c2 + 18 * d ≤ X2 → wL_shotsHold_l31 K J fu F k61 n sh I R c1 c2 (AD 0) (A 0) l2 (iz (k : Int)) q (iz (a : Int)) := by
  have B := W.2.2.1
  obtain ⟨k0, k1, hq⟩ := B.kk hk
  have n4 := W.VB.n
  intro d
  induction d with
  | zero =>
    intro a n c1 c2 had hn hcc
    obtain ⟨n', rfl⟩ : ∃ n', n = n' + 1 := ⟨n - 1, by omega⟩
    show wL_shotsHold_b31 K J fu F (wL_shotsHold_l31 K J fu F k61 n') k61 sh I R c1 c2 (AD 0) (A 0) l2 _ q _
    unfold wL_shotsHold_b31
    rw [if_pos (by rw [ile il6 rfl ⟨by decide, by decide⟩ (IRn (by omega))]; omega)]
    exact hc _ _ ⟨by omega, by omega⟩
  | succ d ih =>
    intro a n c1 c2 had hn hcc
    obtain ⟨n', rfl⟩ : ∃ n', n = n' + 1 := ⟨n - 1, by omega⟩
    show wL_shotsHold_b31 K J fu F (wL_shotsHold_l31 K J fu F k61 n') k61 sh I R c1 c2 (AD 0) (A 0) l2 _ q _
    unfold wL_shotsHold_b31
    rw [if_neg (by rw [ile il6 rfl ⟨by decide, by decide⟩ (IRn (by omega))]; omega)]
    refine ⟨⟨by omega, by omega⟩, ?_⟩
    have e := W.ask (f := fun I => fX10_shot fu sh I R (AD 0) (iz (k : Int)) (iz (a : Int))) (fun P O => cq_shot (fu := fu) (P := P) O W.1.V (IRn (n := k) (by omega)) (IRn (n := a) (by omega)))
    have ea : aShotW σ (k : Int) (a : Int) = .inl (gS σ.2.1 k a) := by
      unfold aShotW
      rw [if_pos W.2.1, if_pos ⟨⟨by omega, by omega⟩, ⟨by omega, by omega⟩⟩]
    rw [ea] at e
    refine wB_ask e ?_
    refine wB_of (oA2_n hq a (by omega) rfl) ?_
    rw [B.g hk a (by omega), if_pos rfl, il1, iz_add]
    exact ih (a + 1) n' (c1 + 3) (c2 + 18) (by omega) (by omega) ⟨by omega, by omega⟩
theorem sh_151 {k203 : HS → HI → HR → Nat → Nat → Nat → Nat → Int32 → Int32 → Nat → Prop} (W : WLD K σ AD A cap S sh I R) (hfu : 5000 ≤ fu) (hk : S[k]? = some q) (hX : X1 ≤ 900 ∧ X2 ≤ 5400) (hc : ∀ c1 c2, c1 ≤ X1 ∧ c2 ≤ X2 → k203 sh I R c1 c2 (AD 0) (A 0) l2 (iz (k : Int)) q) :
    ∀ (d a n c1 c2 : Nat), a + d = S.length → d < n → c1 + 3 * d ≤ X1 ∧ c2 + 18 * d ≤ X2 → wL_shotsHold_l151 K J fu F k203 n sh I R c1 c2 (AD 0) (A 0) l2 (iz (k : Int)) q (iz (a : Int)) := by
  have B := W.2.2.1
  have V := W.VB
  obtain ⟨k0, k1, hq⟩ := B.kk hk
  have n4 := V.n
  have hl := B.len
  have lim := V.lim
  intro d
  induction d with
  | zero =>
    intro a n c1 c2 had hn hcc
    obtain ⟨n', rfl⟩ : ∃ n', n = n' + 1 := ⟨n - 1, by omega⟩
    show wL_shotsHold_b151 K J fu F (wL_shotsHold_l151 K J fu F k203 n') k203 sh I R c1 c2 (AD 0) (A 0) l2 _ q _
    unfold wL_shotsHold_b151
    refine wB_of (oR_at B.1.1.1 B.1.1.2.1) ?_
    refine ⟨rcv_k B.2.1.1, ⟨by omega, by omega⟩, l_size B.2.1 ?_⟩
    rw [if_pos (by rw [ile rfl rfl (IRn (by omega)) (IRn (by omega))]; omega)]
    exact hc _ _ ⟨by omega, by omega⟩
  | succ d ih =>
    intro a n c1 c2 had hn hcc
    obtain ⟨n', rfl⟩ : ∃ n', n = n' + 1 := ⟨n - 1, by omega⟩
    obtain ⟨q', hj⟩ : ∃ q', S[a]? = some q' := ⟨S[a], List.getElem?_eq_getElem (by omega)⟩
    show wL_shotsHold_b151 K J fu F (wL_shotsHold_l151 K J fu F k203 n') k203 sh I R c1 c2 (AD 0) (A 0) l2 _ q _
    unfold wL_shotsHold_b151
    refine wB_of (oR_at B.1.1.1 B.1.1.2.1) ?_
    refine ⟨rcv_k B.2.1.1, ⟨by omega, by omega⟩, l_size B.2.1 ?_⟩
    rw [if_neg (by rw [ile rfl rfl (IRn (by omega)) (IRn (by omega))]; omega)]
    refine ⟨⟨by omega, by omega⟩, ?_⟩
    have e := W.ask (f := fun I => fX10_isNear fu sh I R (AD 0) (iz (k : Int)) (iz (a : Int))) (fun P O => cq_isNear (fu := fu) (P := P) O W.1.V (IRn (n := k) (by omega)) (IRn (n := a) (by omega)))
    have ea : aNear σ (k : Int) (a : Int) = .inl (b2i (nearS σ.2.1 k a (σ.2.1 0))) := by
      unfold aNear
      rw [if_pos W.2.1, if_pos ⟨⟨by omega, by omega⟩, ⟨by omega, by omega⟩⟩]
    rw [ea] at e
    refine wB_ask e ?_
    refine wB_of (oR_at B.1.1.1 B.1.1.2.1) ?_
    refine ⟨rcv_k B.2.1.1, ⟨by omega, by omega⟩, l_get B.2.1 hj ?_⟩
    refine wB_of (oKt_1 (B.kk hj).2.2) ?_
    refine wB_of (oI_at B.1.1.1) ?_
    rw [B.2.2.1.1]
    refine ⟨B.r, ⟨by omega, by omega⟩, l_near B V hk hj lim.1.1 lim.1.2 ?_⟩
    rw [if_pos rfl, il1, iz_add]
    exact ih (a + 1) n' (c1 + 3) (c2 + 18) (by omega) (by omega) ⟨by omega, by omega⟩
theorem sh_61 {k4 : HS → HI → HR → Nat → Nat → Nat → Nat → Int32 → Int32 → Prop} {k130 : HS → HI → HR → Nat → Nat → Prop} {k216 : HS → HI → HR → Nat → Nat → Nat → Nat → Int32 → Prop} (W : WLD K σ AD A cap S sh I R) (hfu : 5000 ≤ fu) (hk : S[k]? = some q) {c1 c2 : Nat} (hX : c1 + 48 ≤ 900 ∧ c2 + 288 ≤ 5400)
    (hc : ∀ c1' c2', c1' ≤ c1 + 48 ∧ c2' ≤ c2 + 288 → k4 sh I R c1' c2' (AD 0) (A 0) (l2 + iz (lnS σ.2.1 k)) (iz ((k + 1 : Nat) : Int))) : wL_shotsHold_b61 K J fu F k4 k130 k216 sh I R c1 c2 (AD 0) (A 0) l2 (iz (k : Int)) q := by
  have B := W.2.2.1
  have V := W.VB
  obtain ⟨k0, k1, hq⟩ := B.kk hk
  have n4 := V.n
  have hl := B.len
  have ik : IR (k : Int) := IRn (by omega)
  have ash := fun v => aShot_in (σ := σ) (k := k) W.2.1 k1 v
  have e1 := W.ask (f := fun I => fX10_view fu sh I R (AD 0) (iz (k : Int))) (fun P O => cq_view (P := P) O W.1.V hfu ik)
  have e2 := W.ask (f := fun I => fX10_side fu sh I R (AD 0) (iz (k : Int))) (fun P O => cq_side (P := P) O W.1.V hfu ik)
  have e3 := W.ask (f := fun I => fX10_look fu sh I R (AD 0) (iz (k : Int))) (fun P O => cq_look (P := P) O W.1.V hfu ik)
  have e4 := W.ask (f := fun I => fX10_visible fu sh I R (AD 0) (iz (k : Int))) (fun P O => cq_visible (P := P) O W.1.V hfu ik)
  have e5 := W.ask (f := fun I => fX10_faultsOf fu sh I R (AD 0) (iz (k : Int))) (fun P O => cq_faultsOf (P := P) O W.1.V hfu ik)
  have e6 := W.ask (f := fun I => fX10_eyeline fu sh I R (AD 0) (iz (k : Int))) (fun P O => cq_eyeline (P := P) O W.1.V hfu ik)
  rw [ash] at e1 e2 e3 e4 e5 e6
  unfold wL_shotsHold_b61
  refine ⟨⟨by omega, by omega⟩, wB_ask e1 ⟨B.r, ⟨by omega, by omega⟩, l_view B V hk ?_⟩⟩
  rw [if_pos rfl]
  refine ⟨⟨by omega, by omega⟩, wB_ask e2 ⟨B.r, ⟨by omega, by omega⟩, l_side B V hk ?_⟩⟩
  rw [if_pos rfl]
  refine ⟨⟨by omega, by omega⟩, wB_ask e3 ⟨B.r, ⟨by omega, by omega⟩, l_look B V hk ?_⟩⟩
  rw [if_pos rfl]
  refine ⟨⟨by omega, by omega⟩, wB_ask e4 ⟨B.r, ⟨by omega, by omega⟩, l_visible B V hk hfu ?_⟩⟩
  rw [if_pos rfl]
  refine ⟨⟨by omega, by omega⟩, wB_ask e5 ⟨B.r, ⟨by omega, by omega⟩, l_kinds B V hk hfu ?_⟩⟩
  rw [if_pos rfl]
  refine ⟨⟨by omega, by omega⟩, wB_ask e6 ⟨⟨by omega, by omega⟩, l_eye B V hk ?_⟩⟩
  rw [if_pos rfl]
  refine sh_151 (X1 := c1 + 48) (X2 := c2 + 288) W hfu hk hX (fun c1' c2' h => ?_) S.length 0 fu _ _ (by omega) (by omega) ⟨by omega, by omega⟩
  unfold wL_shotsHold_b203
  refine wB_of (oA2_n hq 5 (by decide) il5) ?_
  rw [(B.2.2.2.2.2 k q hk).2.2.2.2.2, il1, iz_add]
  exact hc c1' c2' h
end SH
