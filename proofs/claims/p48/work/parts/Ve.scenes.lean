/-! THE LAW, STAGE 2: iterators; scenesHold -/
def ITR (sh : HS) (I : HI) (R : HR) (it L : Nat) (c : Nat) : Prop := sh it = some (11, 4) ∧ R it 3 = some L ∧ I it 0 = iz (c : Int) ∧ I it 2 = I L 0
section IT
variable {K J : Nat → Nat} {fu : Nat} {sh : HS} {I : HI} {R : HR} {L ea cap it c q : Nat} {S : List Nat}
theorem l_iter {P : Nat → HS → HI → HR → Prop} (h : LST sh I R K L ea cap S) (hP : ∀ it sh' I' R', sh it = none → EXH (fun _ => False) sh I R sh' I' R' → ITR sh' I' R' it L 0 → P it sh' I' R') : wJx4a65c_iterator_32c93 K J fu sh I R L (qwR P) := by
  unfold wJx4a65c_iterator_32c93
  refine ⟨⟨by decide, by decide⟩, fun a ha => ⟨⟨by decide, by decide⟩, ?_⟩⟩
  have la : L ≠ a := fun e => by have := h.1; rw [e, ha] at this; cases this
  unfold wJx35411_init_45d68
  refine wB_of (oQ_at (t := 11) (n := 4) u1_on) ?_
  refine wB_of (oP_at (t := 11) (n := 4) u1_on) ?_
  refine wB_of (oR_at (t := 11) (n := 4) (v := L) u1_on u2_self) ?_
  refine wB_of (oI_at (t := 10) (n := 3) (by rw [u1_off la]; exact h.1)) ?_
  rw [u2_off la, u1_off la]
  refine wB_of (oP_at (t := 11) (n := 4) u1_on) ?_
  refine ⟨rfl, ⟨by decide, by decide⟩, _, rfl, ?_⟩
  refine hP a _ _ _ ha ?_ ⟨u1_on, u2_self, ?_, ?_⟩
  · have x0 := EXH.new I R ha (11, 4) (fun _ => 0) (fun _ => none)
    have x1 := x0.tr (EXH.wR _ _ (u1 R a (fun _ => none)) a 3 (some L)) (fun y hy z => hy (by rw [z]; exact ha))
    have x2 := x1.tr (EXH.wI _ (u1 I a (fun _ => 0)) _ a 1 (-1)) (fun y hy z => hy (by rw [z]; exact ha))
    exact x2.tr (EXH.wI _ _ _ a 2 (I L 0)) (fun y hy z => hy (by rw [z]; exact ha))
  · rw [u2_k (by decide), u2_k (by decide), u1_on]
    rfl
  · rw [u2_self, u2_off la, u2_off la, u1_off la]
theorem l_hasNext {P : Int32 → HS → HI → HR → Prop} (h : LST sh I R K L ea cap S) (t : ITR sh I R it L c) (hc : c ≤ S.length) (h0 : c = S.length → P 0 sh I R) (h1 : c < S.length → P 1 sh I R) : wJx35411_hasNext_aae02 K J fu sh I R it (qwI P) := by
  obtain ⟨t1, t2, t3, t4⟩ := t
  have h5 := h.2.2.2.2.1
  have h4 := h.2.2.2.1
  unfold wJx35411_hasNext_aae02 wJx35411_hasNext_aae02_b19
  refine wB_of (oI_at t1) ?_
  refine wB_of (oR_at t1 t2) ?_
  refine wB_of (oI_at h.1) ?_
  rw [t3, h.2.2.2.2.2.1]
  by_cases z : c = S.length
  · rw [if_pos (by rw [z])]
    exact ⟨Or.inl rfl, _, rfl, h0 z⟩
  · rw [if_neg (by rw [ieq rfl rfl (IRn (by omega)) (IRn (by omega))]; omega)]
    exact ⟨Or.inr rfl, _, rfl, h1 (by omega)⟩
theorem l_next {P : Nat → HS → HI → HR → Prop} (h : LST sh I R K L ea cap S) (t : ITR sh I R it L c) (hc : S[c]? = some q) (hP : ∀ I', EXH (fun y => y = it) sh I R sh I' R → ITR sh I' R it L (c + 1) → P q sh I' R) : wJx35411_next_0502b K J fu sh I R it (qwR P) := by
  obtain ⟨t1, t2, t3, t4⟩ := t
  obtain ⟨g1, g2⟩ := h.lt hc
  have h5 := h.2.2.2.2.1
  have h4 := h.2.2.2.1
  have hne : L ≠ it := fun e => by have := h.1; rw [e, t1] at this; cases this
  unfold wJx35411_next_0502b
  refine ⟨rcv_k t1, ?_⟩
  unfold wJx35411_checkForComodification_da8c8
  refine wB_of (oR_at t1 t2) ?_
  refine wB_of (oI_at h.1) ?_
  refine wB_of (oI_at t1) ?_
  rw [if_pos t4.symm]
  refine ⟨rfl, ?_⟩
  refine wB_of (oI_at t1) ?_
  refine wB_of (oR_at t1 t2) ?_
  refine wB_of (oI_at h.1) ?_
  rw [t3, h.2.2.2.2.2.1, if_pos (by rw [ilt rfl rfl (IRn (by omega)) (IRn (by omega))]; omega)]
  refine wB_of (oR_at t1 t2) ?_
  refine wB_of (oR_at h.1 h.2.1) ?_
  refine wB_of (oLn_n g2 (by decide)) ?_
  rw [if_pos (by rw [ilt rfl rfl (IRn (by omega)) (IRn (by omega))]; omega)]
  refine wB_of (oP_at t1) ?_
  refine wB_of (oP_at t1) ?_
  refine wB_of (v := q) ((oAr_n g2 c (by omega) rfl).trans (h.2.2.2.2.2.2 c q hc)) ?_
  refine ⟨_, rfl, hP _ ?_ ⟨t1, t2, ?_, ?_⟩⟩
  · exact (EXH.wI sh I R it 0 _).tr (EXH.wI sh _ R it 1 _) (fun _ _ z => z)
  · rw [u2_k (by decide), u2_self, il1, iz_add]
    rfl
  · rw [u2_k (by decide), u2_k (by decide), u2_off hne, u2_off hne]
    exact t4
end IT
theorem mkS_in {m : Nat} (h : m < 64) : mkS (fun a => m.testBit a) 6 = m := by
  refine Nat.eq_of_testBit_eq (fun i => ?_)
  rw [mkS_bit]
  by_cases z : i < 6
  · rw [decide_eq_true z, Bool.true_and]
  · rw [decide_eq_false z, Bool.false_and]
    have h2 : 2 ^ 6 ≤ 2 ^ i := Nat.pow_le_pow_right (by decide) (by omega)
    have h3 : m < 2 ^ i := Nat.lt_of_lt_of_le h h2
    exact (Nat.testBit_lt_two_pow h3).symm
section SC
variable {K J : Nat → Nat} {fu : Nat} {σ : STT} {AD : Int → Nat} {A : Nat → Nat} {cap : Nat} {S : List Nat} {sh sh' : HS} {I I' : HI} {R R' : HR} {F : VF} {c q X1 X2 : Nat} {l3 l4 : Int32} {P : Int32 → HS → HI → HR → Prop}
theorem LBD.px (B : LBD sh I R K A cap S σ.2.1) (hc : (c : Int) < σ.2.1 3) (m : σ.2.1 3 ≤ 3) : oAr sh R (A 4) 45 (iz (c : Int)) = some (A (6 + c)) ∧ oAr sh R (A 5) 45 (iz (c : Int)) = some (A (9 + c)) ∧ sh (A (6 + c)) = some (20, 6) ∧ sh (A (9 + c)) = some (20, 6) ∧ ∀ a : Nat, a < 6 → I (A (6 + c)) a = iz (lxS σ.2.1 c a) ∧ I (A (9 + c)) a = iz (lyS σ.2.1 c a) := by
  obtain ⟨r1, r2, r3, r4⟩ := B.1.2.2.2 c hc
  exact ⟨(oAr_n B.1.2.2.1.2.1 c (by omega) rfl).trans r1, (oAr_n B.1.2.2.1.2.2 c (by omega) rfl).trans r2, r3, r4, (B.2.2.2.1 c hc).2⟩
theorem sc_19 {k88 : HS → HI → HR → Nat → Nat → Prop} {k96 : HS → HI → HR → Nat → Nat → Nat → Nat → Int32 → Int32 → Int32 → Prop} (W : WLD K σ AD A cap S sh I R) (hcc : (c : Int) < σ.2.1 3) (hX : X1 ≤ 200 ∧ X2 ≤ 1200) (hk : ∀ c1 c2, c1 ≤ X1 ∧ c2 ≤ X2 → k96 sh I R c1 c2 (AD 0) (A 0) (iz (c : Int)) (iz (csS σ.2.1 c)) l4) :
    ∀ (d a n c1 c2 : Nat), a + d = 6 → d < n → c1 + 6 * d ≤ X1 ∧ c2 + 36 * d ≤ X2 → wL_scenesHold_l19 K J fu F k88 k96 n sh I R c1 c2 (AD 0) (A 0) (iz (c : Int)) (iz (mkS (fun a => inS σ.2.1 c a) a : Int)) l4 (iz (a : Int)) := by
  have B := W.2.2.1
  have V := W.VB
  have m := V.m
  obtain ⟨p1, p2, p3, p4, p5⟩ := B.px hcc m.2
  have sc := V.scene (show (0 : Int) ≤ c by omega) hcc
  intro d
  induction d with
  | zero =>
    intro a n c1 c2 had hn hc
    obtain ⟨n', rfl⟩ : ∃ n', n = n' + 1 := ⟨n - 1, by omega⟩
    have ha : a = 6 := by omega
    subst ha
    show wL_scenesHold_b19 K J fu F (wL_scenesHold_l19 K J fu F k88 k96 n') k88 k96 sh I R c1 c2 (AD 0) (A 0) _ _ l4 _
    unfold wL_scenesHold_b19
    rw [if_pos (by rw [ile il6 rfl ⟨by decide, by decide⟩ (IRn (by omega))]; omega)]
    have e : (mkS (fun a => inS σ.2.1 c a) 6 : Int) = csS σ.2.1 c := by
      have : mkS (fun a => inS σ.2.1 c a) 6 = (csS σ.2.1 c).toNat := by
        rw [← mkS_in (m := (csS σ.2.1 c).toNat) (by omega)]
        refine mkS_cg 6 (fun t _ => ?_)
        unfold inS
        rw [Int.toNat_natCast]
      rw [this]
      omega
    rw [e]
    exact hk _ _ ⟨by omega, by omega⟩
  | succ d ih =>
    intro a n c1 c2 had hn hc
    obtain ⟨n', rfl⟩ : ∃ n', n = n' + 1 := ⟨n - 1, by omega⟩
    show wL_scenesHold_b19 K J fu F (wL_scenesHold_l19 K J fu F k88 k96 n') k88 k96 sh I R c1 c2 (AD 0) (A 0) _ _ l4 _
    have hms : mkS (fun a => inS σ.2.1 c a) (a + 1) = mkS (fun a => inS σ.2.1 c a) a ||| (if inS σ.2.1 c a = true then 2 ^ a else 0) := rfl
    unfold wL_scenesHold_b19
    rw [if_neg (by rw [ile il6 rfl ⟨by decide, by decide⟩ (IRn (by omega))]; omega)]
    refine wB_of (oR_at B.1.1.1 B.1.1.2.2.2.1) ?_
    refine wB_of p1 ?_
    refine wB_of (oA2_n p3 a (by omega) rfl) ?_
    rw [(p5 a (by omega)).1]
    by_cases hi : inS σ.2.1 c a = true
    · have s3 := sc.2.2 a (by omega) (by omega) hi
      have hx : lxS σ.2.1 c a = axS σ.2.1 c a := by unfold lxS; rw [if_pos hi]
      have hy : lyS σ.2.1 c a = ayS σ.2.1 c a := by unfold lyS; rw [if_pos hi]
      rw [hx, if_pos (by rw [ile il0 rfl ⟨by decide, by decide⟩ ⟨by omega, by omega⟩]; omega)]
      have e1 := W.ask (f := fun I => fX10_actor fu sh I R (AD 0) (iz (c : Int)) (iz (a : Int)) (bz false)) (fun P O => cq_actor (fu := fu) (P := P) O W.1.V (IRn (n := c) (by omega)) (IRn (n := a) (by omega)) false)
      have e2 := W.ask (f := fun I => fX10_actor fu sh I R (AD 0) (iz (c : Int)) (iz (a : Int)) (bz true)) (fun P O => cq_actor (fu := fu) (P := P) O W.1.V (IRn (n := c) (by omega)) (IRn (n := a) (by omega)) true)
      have a1 : aActor σ (c : Int) (a : Int) false = .inl (axS σ.2.1 c a) := by
        unfold aActor
        rw [if_pos W.2.1, if_pos ⟨⟨by omega, by omega⟩, ⟨by omega, by omega⟩, hi⟩, if_pos rfl]
      have a2 : aActor σ (c : Int) (a : Int) true = .inl (ayS σ.2.1 c a) := by
        unfold aActor
        rw [if_pos W.2.1, if_pos ⟨⟨by omega, by omega⟩, ⟨by omega, by omega⟩, hi⟩, if_neg (by decide)]
      rw [a1] at e1
      rw [a2] at e2
      refine ⟨⟨by omega, by omega⟩, wB_ask e1 ?_⟩
      refine wB_of (oR_at B.1.1.1 B.1.1.2.2.2.1) ?_
      refine wB_of p1 ?_
      refine wB_of (oA2_n p3 a (by omega) rfl) ?_
      rw [(p5 a (by omega)).1, hx, if_pos rfl]
      refine ⟨⟨by omega, by omega⟩, wB_ask e2 ?_⟩
      refine wB_of (oR_at B.1.1.1 B.1.1.2.2.2.2) ?_
      refine wB_of p2 ?_
      refine wB_of (oA2_n p4 a (by omega) rfl) ?_
      rw [(p5 a (by omega)).2, hy, if_pos rfl]
      unfold wL_scenesHold_b90
      rw [iz_shl (by omega), iz_orN, il1, iz_add]
      rw [if_pos hi] at hms
      rw [← hms]
      exact ih (a + 1) n' (c1 + 3 + 3) (c2 + 18 + 18) (by omega) (by omega) ⟨by omega, by omega⟩
    · have hx : lxS σ.2.1 c a = -1 := by unfold lxS; rw [if_neg hi]
      rw [hx, if_neg (by rw [ile il0 rfl ⟨by decide, by decide⟩ ⟨by decide, by decide⟩]; decide)]
      unfold wL_scenesHold_b90
      rw [if_neg hi, Nat.or_zero] at hms
      rw [← hms, il1, iz_add]
      exact ih (a + 1) n' c1 c2 (by omega) (by omega) ⟨by omega, by omega⟩
theorem sc_105 {k148 : HS → HI → HR → Nat → Nat → Nat → Nat → Int32 → Int32 → Int32 → Prop} {sh0 : HS} {I0 : HI} {R0 : HR} {it c1 c2 : Nat} (W0 : WLD K σ AD A cap S sh0 I0 R0) (hit : sh0 it = none) (hcc : (c : Int) < σ.2.1 3) (hc : c1 ≤ 200 ∧ c2 ≤ 1200)
    (hk : ∀ sh I R, EXH (fun _ => False) sh0 I0 R0 sh I R → k148 sh I R c1 c2 (AD 0) (A 0) (iz (c : Int)) l3 (iz (nsS σ.2.1 c (σ.2.1 4).toNat))) :
    ∀ (d s n : Nat) (sh : HS) (I : HI) (R : HR), s + d = S.length → d < n → EXH (fun _ => False) sh0 I0 R0 sh I R → ITR sh I R it (A 1) s → wL_scenesHold_l105 K J fu F k148 n sh I R c1 c2 (AD 0) (A 0) (iz (c : Int)) l3 (iz (nsS σ.2.1 c s)) it := by
  have V := W0.VB
  have n4 := V.n
  have m := V.m
  have hl := W0.2.2.1.len
  intro d
  induction d with
  | zero =>
    intro s n sh I R hsd hn e t
    obtain ⟨n', rfl⟩ : ∃ n', n = n' + 1 := ⟨n - 1, by omega⟩
    have B := W0.2.2.1.ex0 e
    show wL_scenesHold_b105 K J fu F (wL_scenesHold_l105 K J fu F k148 n') k148 sh I R c1 c2 (AD 0) (A 0) _ l3 _ it
    unfold wL_scenesHold_b105
    refine ⟨isT_of t.1, hc, l_hasNext B.2.1 t (by omega) (fun z => ?_) (fun z => by omega)⟩
    rw [if_pos rfl]
    have hs : s = (σ.2.1 4).toNat := by omega
    rw [hs]
    exact hk sh I R e
  | succ d ih =>
    intro s n sh I R hsd hn e t
    obtain ⟨n', rfl⟩ : ∃ n', n = n' + 1 := ⟨n - 1, by omega⟩
    have B := W0.2.2.1.ex0 e
    obtain ⟨q, hq⟩ : ∃ q, S[s]? = some q := ⟨S[s], List.getElem?_eq_getElem (by omega)⟩
    obtain ⟨k0, k1, hq6⟩ := B.kk hq
    have sc := (V.shot k0 k1).1
    show wL_scenesHold_b105 K J fu F (wL_scenesHold_l105 K J fu F k148 n') k148 sh I R c1 c2 (AD 0) (A 0) _ l3 _ it
    unfold wL_scenesHold_b105
    refine ⟨isT_of t.1, hc, l_hasNext B.2.1 t (by omega) (fun z => by omega) (fun z => ?_)⟩
    rw [if_neg (by decide)]
    refine ⟨isT_of t.1, hc, l_next B.2.1 t hq (fun I' e' t' => ?_)⟩
    have e2 := e.tr e' (fun y hy z => hy (by rw [z]; exact hit))
    have B2 := W0.2.2.1.ex0 e2
    refine wB_of (oKt_1 hq6) ?_
    refine wB_of (oA2_n hq6 0 (by decide) il0) ?_
    rw [(B2.2.2.2.2.2 s q hq).1]
    have hns : nsS σ.2.1 c (s + 1) = nsS σ.2.1 c s + (if scS σ.2.1 s = c then 1 else 0) := rfl
    have ih' := ih (s + 1) n' sh I' R (by omega) (by omega) e2 t'
    by_cases z2 : scS σ.2.1 s = (c : Int)
    · rw [if_pos (by rw [z2])]
      unfold wL_scenesHold_b142
      rw [il1, iz_add]
      rw [hns, if_pos z2] at ih'
      exact ih'
    · rw [if_neg (by rw [ieq rfl rfl ⟨by omega, by omega⟩ (IRn (by omega))]; exact z2)]
      unfold wL_scenesHold_b142
      rw [il0, iz_add]
      rw [hns, if_neg z2] at ih'
      exact ih'
theorem sc_2 {sh0 : HS} {I0 : HI} {R0 : HR} (W0 : WLD K σ AD A cap S sh0 I0 R0) (hfu : 5000 ≤ fu) (hP : ∀ sh' I' R', EXH (fun _ => False) sh0 I0 R0 sh' I' R' → P 1 sh' I' R') :
    ∀ (d c n c1 c2 : Nat) (sh : HS) (I : HI) (R : HR), c + d = (σ.2.1 3).toNat → d < n → c1 ≤ 46 * c ∧ c2 ≤ 280 * c → EXH (fun _ => False) sh0 I0 R0 sh I R → wL_scenesHold_l2 K J fu (qwI P) (wL_scenesHold_b88 K J fu (qwI P)) (wL_scenesHold_b184 K J fu (qwI P)) n sh I R c1 c2 (AD 0) (A 0) (iz (c : Int)) := by
  have V := W0.VB
  have m := V.m
  have n4 := V.n
  have hl := W0.2.2.1.len
  intro d
  induction d with
  | zero =>
    intro c n c1 c2 sh I R hcd hn hc e
    obtain ⟨n', rfl⟩ : ∃ n', n = n' + 1 := ⟨n - 1, by omega⟩
    have B := W0.2.2.1.ex0 e
    show wL_scenesHold_b2 K J fu (qwI P) (wL_scenesHold_l2 K J fu (qwI P) _ _ n') _ _ sh I R c1 c2 (AD 0) (A 0) _
    unfold wL_scenesHold_b2
    refine wB_of (oR_at B.1.1.1 B.1.1.2.2.1) ?_
    refine wB_of (oLn_n B.1.2.2.1.1 (by decide)) ?_
    rw [if_pos (by rw [ile rfl rfl (IRn (by omega)) (IRn (by omega))]; omega)]
    exact ⟨⟨by omega, by omega⟩, _, rfl, hP _ _ _ e⟩
  | succ d ih =>
    intro c n c1 c2 sh I R hcd hn hc e
    obtain ⟨n', rfl⟩ : ∃ n', n = n' + 1 := ⟨n - 1, by omega⟩
    have W := W0.ext e
    have B := W.2.2.1
    have hcm : (c : Int) < σ.2.1 3 := by omega
    show wL_scenesHold_b2 K J fu (qwI P) (wL_scenesHold_l2 K J fu (qwI P) _ _ n') _ _ sh I R c1 c2 (AD 0) (A 0) _
    unfold wL_scenesHold_b2
    refine wB_of (oR_at B.1.1.1 B.1.1.2.2.1) ?_
    refine wB_of (oLn_n B.1.2.2.1.1 (by decide)) ?_
    rw [if_neg (by rw [ile rfl rfl (IRn (by omega)) (IRn (by omega))]; omega)]
    have hgo := sc_19 (K := K) (J := J) (fu := fu) (F := qwI P) (X1 := c1 + 36) (X2 := c2 + 216) (l4 := iz 0) (c := c) (k88 := wL_scenesHold_b88 K J fu (qwI P)) (k96 := wL_scenesHold_b96 K J fu (qwI P) (wL_scenesHold_l2 K J fu (qwI P) (wL_scenesHold_b88 K J fu (qwI P)) (wL_scenesHold_b184 K J fu (qwI P)) n') (wL_scenesHold_b88 K J fu (qwI P)) (wL_scenesHold_b184 K J fu (qwI P))) W hcm ⟨by omega, by omega⟩ (fun c1' c2' h => ?_) 6 0 fu c1 c2 rfl (by omega) ⟨by omega, by omega⟩
    · exact hgo
    · unfold wL_scenesHold_b96
      refine wB_of (oR_at B.1.1.1 B.1.1.2.1) ?_
      refine ⟨rcv_k B.2.1.1, ⟨by omega, by omega⟩, l_iter B.2.1 (fun it sh' I' R' h1 h2 h3 => ?_)⟩
      have e2 := e.tr h2 (fun _ _ z => z)
      have W2 := W0.ext e2
      have hit : sh0 it = none := by
        cases h0 : sh0 it with
        | none => rfl
        | some z =>
          have := e.k h0
          rw [h1] at this
          cases this
      refine sc_105 (K := K) (J := J) (fu := fu) (F := qwI P) (c := c) W0 hit hcm ⟨by omega, by omega⟩ (fun sh3 I3 R3 e3 => ?_) S.length 0 fu sh' I' R' (by omega) (by omega) e2 h3
      have W3 := W0.ext e3
      have B3 := W3.2.2.1
      have q0 := W3.ask (f := fun I => fX10_scene fu sh3 I R3 (AD 0) (iz (c : Int)) (iz 0)) (fun P O => cq_scene (fu := fu) (P := P) O W3.1.V hfu (IRn (n := c) (by omega)) ⟨by decide, by decide⟩)
      have q1 := W3.ask (f := fun I => fX10_scene fu sh3 I R3 (AD 0) (iz (c : Int)) (iz 1)) (fun P O => cq_scene (fu := fu) (P := P) O W3.1.V hfu (IRn (n := c) (by omega)) ⟨by decide, by decide⟩)
      have q2 := W3.ask (f := fun I => fX10_scene fu sh3 I R3 (AD 0) (iz (c : Int)) (iz 2)) (fun P O => cq_scene (fu := fu) (P := P) O W3.1.V hfu (IRn (n := c) (by omega)) ⟨by decide, by decide⟩)
      have a0 : ∀ b : Int, 0 ≤ b → b ≤ 2 → aScene σ (c : Int) b = .inl (scnV σ.2.1 c b) := by
        intro b b0 b1
        unfold aScene
        rw [if_pos W3.2.1, if_pos ⟨⟨by omega, by omega⟩, ⟨b0, b1⟩⟩]
      rw [a0 0 (by decide) (by decide)] at q0
      rw [a0 1 (by decide) (by decide)] at q1
      rw [a0 2 (by decide) (by decide)] at q2
      unfold wL_scenesHold_b148
      refine ⟨⟨by omega, by omega⟩, wB_ask q0 ?_⟩
      refine wB_of (oR_at B3.1.1.1 B3.1.1.2.2.1) ?_
      refine wB_of (oA2_n B3.1.2.2.1.1 c (by omega) rfl) ?_
      rw [(B3.2.2.2.1 c hcm).1, if_pos (show iz (scnV σ.2.1 c 0) = iz (ltS σ.2.1 c) from rfl)]
      refine ⟨⟨by omega, by omega⟩, wB_ask q1 ?_⟩
      rw [if_pos (show iz (scnV σ.2.1 c 1) = iz (csS σ.2.1 c) from rfl)]
      refine ⟨⟨by omega, by omega⟩, wB_ask q2 ?_⟩
      rw [if_pos (show iz (scnV σ.2.1 c 2) = iz (nsS σ.2.1 c (σ.2.1 4).toNat) from rfl), il1, iz_add]
      exact ih (c + 1) n' _ _ sh3 I3 R3 (by omega) (by omega) ⟨by omega, by omega⟩ e3
theorem l_scenesHold (W : WLD K σ AD A cap S sh I R) (hfu : 5000 ≤ fu) (hP : ∀ sh' I' R', EXH (fun _ => False) sh I R sh' I' R' → P 1 sh' I' R') : wL_scenesHold K J fu sh I R (AD 0) (A 0) (qwI P) := by
  have m := W.VB.m
  unfold wL_scenesHold
  exact sc_2 W hfu hP (σ.2.1 3).toNat 0 fu 0 0 sh I R (by omega) (by omega) ⟨by decide, by decide⟩ (EXH.rf _ sh I R)
end SC
