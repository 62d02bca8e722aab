/-! THE LAW, STAGE 2: some actor of a scene; casts -/
section AC
variable {K J : Nat → Nat} {fu : Nat} {σ σ' : STT} {AD : Int → Nat} {A : Nat → Nat} {cap : Nat} {S : List Nat} {sh sh' : HS} {I I' : HI} {R R' : HR} {ρ : RHO} {P : Int32 → HS → HI → HR → Prop} {k q : Nat}
theorem some_in {ρ : RHO} {c : Int} (h : 0 < csS ρ c ∧ csS ρ c < 64) : ∃ j : Nat, j < 6 ∧ inS ρ c j = true := by
  refine Classical.byContradiction (fun hn => ?_)
  have e := mkS_in (m := (csS ρ c).toNat) (by omega)
  have e2 : mkS (fun a => (csS ρ c).toNat.testBit a) 6 = mkS (fun _ => false) 6 := mkS_cg 6 (fun t ht => by
    cases hb : (csS ρ c).toNat.testBit t with
    | false => rfl
    | true => exact absurd ⟨t, ht, by unfold inS; rw [Int.toNat_natCast]; exact hb⟩ hn)
  rw [e2] at e
  have e3 : mkS (fun _ => false) 6 = 0 := by decide
  omega
theorem l_someL {c : Nat} (B : LBD sh I R K A cap S ρ) (V : VB ρ) (hc : (c : Int) < ρ 3) (hP : ∀ b : Nat, b < 6 → inS ρ c b = true → P (iz (b : Int)) sh I R) : ∀ (d a n : Nat), a < 6 → d < n → inS ρ c (((a + d) % 6 : Nat) : Int) = true → wL_someActor_l5 K J fu (qwI P) n sh I R (A 0) (iz (c : Int)) (iz (a : Int)) := by
  have m := V.m
  obtain ⟨r1, r2, r3, r4⟩ := B.1.2.2.2 c hc
  have p1 := (oAr_n (R := R) (x := iz (c : Int)) B.1.2.2.1.2.1 c (by omega) rfl).trans r1
  have sc := V.scene (show (0 : Int) ≤ c by omega) hc
  intro d
  induction d with
  | zero =>
    intro a n ha hn hi
    obtain ⟨n', rfl⟩ : ∃ n', n = n' + 1 := ⟨n - 1, by omega⟩
    rw [Nat.add_zero, Nat.mod_eq_of_lt ha] at hi
    have s3 := sc.2.2 a (by omega) (by omega) hi
    show wL_someActor_b5 K J fu (qwI P) (wL_someActor_l5 K J fu (qwI P) n') sh I R (A 0) _ _
    unfold wL_someActor_b5
    refine wB_of (oR_at B.1.1.1 B.1.1.2.2.2.1) ?_
    refine wB_of p1 ?_
    refine wB_of (oA2_n r3 a (by omega) rfl) ?_
    rw [((B.2.2.2.1 c hc).2 a ha).1]
    have hx : lxS ρ c a = axS ρ c a := by unfold lxS; rw [if_pos hi]
    rw [hx, if_pos (by rw [ile il0 rfl ⟨by decide, by decide⟩ ⟨by omega, by omega⟩]; omega)]
    exact ⟨_, rfl, hP a ha hi⟩
  | succ d ih =>
    intro a n ha hn hi
    obtain ⟨n', rfl⟩ : ∃ n', n = n' + 1 := ⟨n - 1, by omega⟩
    show wL_someActor_b5 K J fu (qwI P) (wL_someActor_l5 K J fu (qwI P) n') sh I R (A 0) _ _
    unfold wL_someActor_b5
    refine wB_of (oR_at B.1.1.1 B.1.1.2.2.2.1) ?_
    refine wB_of p1 ?_
    refine wB_of (oA2_n r3 a (by omega) rfl) ?_
    rw [((B.2.2.2.1 c hc).2 a ha).1]
    by_cases hia : inS ρ c a = true
    · have s3 := sc.2.2 a (by omega) (by omega) hia
      have hx : lxS ρ c a = axS ρ c a := by unfold lxS; rw [if_pos hia]
      rw [hx, if_pos (by rw [ile il0 rfl ⟨by decide, by decide⟩ ⟨by omega, by omega⟩]; omega)]
      exact ⟨_, rfl, hP a ha hia⟩
    · have hx : lxS ρ c a = -1 := by unfold lxS; rw [if_neg hia]
      rw [hx, if_neg (by rw [ile il0 rfl ⟨by decide, by decide⟩ ⟨by decide, by decide⟩]; decide)]
      rw [show iz (a : Int) + 1 = iz ((a : Int) + 1) from by rw [il1, iz_add]]
      refine wB_of (oM_l il6 (by omega) (by omega) (by decide) (by decide)) ?_
      have e : ((a : Int) + 1) % 6 = (((a + 1) % 6 : Nat) : Int) := by omega
      rw [e]
      refine ih ((a + 1) % 6) n' (Nat.mod_lt _ (by decide)) (by omega) ?_
      rw [show ((a + 1) % 6 + d) % 6 = (a + (d + 1)) % 6 by omega]
      exact hi
theorem l_someActor {c : Nat} {z : Int} (B : LBD sh I R K A cap S ρ) (V : VB ρ) (hfu : 5000 ≤ fu) (hc : (c : Int) < ρ 3) (hz : 0 ≤ z ∧ z ≤ 2147483647) (hP : ∀ b : Nat, b < 6 → inS ρ c b = true → P (iz (b : Int)) sh I R) : wL_someActor K J fu sh I R (A 0) (iz (c : Int)) (iz z) (qwI P) := by
  have sc := V.scene (show (0 : Int) ≤ c by omega) hc
  obtain ⟨j, hj, hi⟩ := some_in sc.2.1
  unfold wL_someActor
  refine wB_of (oM_l il6 hz.1 hz.2 (by decide) (by decide)) ?_
  obtain ⟨a, ha⟩ : ∃ a : Nat, z % 6 = (a : Int) := ⟨(z % 6).toNat, by omega⟩
  rw [ha]
  refine l_someL B V hc hP ((j + 6 - a) % 6) a fu (by omega) (by omega) ?_
  rw [show (a + (j + 6 - a) % 6) % 6 = j by omega]
  exact hi
theorem WLX.cast (W : WLX K σ ρ AD A cap S sh I R) (hfu : 5000 ≤ fu) {u v : Int} {a : Int ⊕ Nat} (hs : (sCst σ k u v).1 = true) (V' : VST (sCst σ k u v)) (hk : k < 12) (hu : -1 ≤ u ∧ u ≤ 6) (hv : -1 ≤ v ∧ v ≤ 6) (ha : aCst σ k u v = a) : ∃ I', fX10_setCast fu sh I R (AD 0) (iz (k : Int)) (iz u) (iz v) = some (cOut a, I') ∧ WLX K (sCst σ k u v) ρ AD A cap S sh I' R ∧ ∀ b, FGN AD b → I' b = I b := by
  rw [← ha]
  refine W.act (f := fun I => fX10_setCast fu sh I R (AD 0) (iz (k : Int)) (iz u) (iz v)) V' hs (fun AD' P gg O => ?_)
  have e := ca_setCast (P := P) (R := R) O W.1.V hfu (show IR (k : Int) from IRn (by omega)) (show IR u from ⟨by omega, by omega⟩) (show IR v from ⟨by omega, by omega⟩)
  rw [gg 0 (by decide) (by decide)] at e
  exact e
theorem l_cast43 {u : Nat} {v : Int} (W : WLX K σ σ.2.1 AD A cap S sh I R) (hfu : 5000 ≤ fu) (hk : S[k]? = some q) (hu : u < 6) (hui : inS σ.2.1 (scS σ.2.1 k) u = true) (hv : v = -1 ∨ ((0 ≤ v ∧ v ≤ 5) ∧ inS σ.2.1 (scS σ.2.1 k) v = true))
    (hP : ∀ sh' I' R' σ', WLX K σ' σ'.2.1 AD A cap S sh' I' R' → KP sh I sh' I' → P 1 sh' I' R') : wL_casts_b43 K J fu (qwI P) sh I R 0 0 (AD 0) (A 0) q (iz (k : Int)) (iz (u : Int)) (iz v) := by
  have B := W.2.2.1
  have V := W.2.2.2.2.2.1
  have n4 := V.n
  have m := V.m
  have h0 : σ.1 = true := W.2.1
  obtain ⟨k0, k1, hq⟩ := B.kk hk
  obtain ⟨v1, v2, v3, v4, v5, v6, v7, v8⟩ := V.shot k0 k1
  obtain ⟨e0, e1, e2, e3, e4, e5⟩ := B.2.2.2.2.2 k q hk
  have sc := (V.scene v1.1 v1.2).2.2 u (by omega) (by omega) hui
  have g : gCst σ.2.1 k u v := ⟨⟨by omega, by omega⟩, ⟨⟨by omega, by omega⟩, hui⟩, hv⟩
  have go : ¬ (u : Int) = v → ¬ (axS σ.2.1 (scS σ.2.1 k) u = cxS σ.2.1 k ∧ ayS σ.2.1 (scS σ.2.1 k) u = cyS σ.2.1 k) → wL_casts_b118 K J fu (qwI P) sh I R 0 0 (AD 0) (A 0) q (iz (k : Int)) (iz (u : Int)) (iz v) := by
    intro h1 h2
    obtain ⟨ea, es⟩ := cst_5 h0 g h1 h2
    have Vb := csU_V V g h1 h2
    have fq := W.fs hk
    have e33 : up1 σ.2.1 (47 + 6 * k + (3 : Nat)) u 3 = σ.2.1 3 := up1_ne (by omega)
    have W1 : WLX K σ (csU σ.2.1 k u v) AD A cap S sh (u2 (u2 I q 3 (iz (u : Int))) q 4 (iz v)) R := by
      obtain ⟨w1, w2, w3, w4, w5, w6, w7⟩ := W
      have B1 := w3.shot m.2 w7 hk (j := 3) (by decide) u
      have B2 : LBD sh (u2 (u2 I q 3 (iz (u : Int))) q 4 (iz v)) R K A cap S (csU σ.2.1 k u v) := B1.shot (by rw [e33]; exact m.2) (by rw [e33]; exact w7) hk (j := 4) (by decide) v
      have e44 : csU σ.2.1 k u v 3 = σ.2.1 3 := csU_ne (by omega) (by omega)
      exact ⟨(w1.wI fq 3 (iz (u : Int))).wI fq 4 (iz v), w2, B2, (w4.wI hq (by decide) 3 (iz (u : Int))).wI hq (by decide) 4 (iz v), by rw [e44]; exact w5, Vb, by rw [e44]; exact w7⟩
    have kp1 : KP sh I sh (u2 (u2 I q 3 (iz (u : Int))) q 4 (iz v)) := (KP.wI hq (by decide) 3 (iz (u : Int))).tr (KP.wI hq (by decide) 4 (iz v))
    unfold wL_casts_b118
    refine wB_of (oS_n hq 3 (by decide) il3) ?_
    refine wB_of (oS_n hq 4 (by decide) il4) ?_
    generalize u2 (u2 I q 3 (iz (u : Int))) q 4 (iz v) = I1 at *
    obtain ⟨I2, g1, W2, f2⟩ := W1.cast (fu := fu) (k := k) (u := u) (v := v) hfu (by rw [es]; exact h0) (vst_cst W.1.V k u v) (by omega) ⟨by omega, by omega⟩ (by omega) ea
    refine ⟨⟨by decide, by decide⟩, wB_que2 g1 (fun r9 hr9 => ?_)⟩
    rw [hr9]
    refine ⟨W2.2.2.1.r, ⟨by decide, by decide⟩, l_faults W2.2.2.1 Vb hfu ?_⟩
    rw [if_pos rfl]
    unfold wL_casts_b149
    refine ⟨⟨by decide, by decide⟩, Or.inr rfl, _, rfl, ?_⟩
    have er : csU σ.2.1 k u v = (sCst σ k u v).2.1 := by rw [es]; rfl
    rw [er] at W2
    exact hP sh I2 R _ W2 (kp1.tr (KP.fg W1.1.1 f2))
  unfold wL_casts_b43
  by_cases h1 : (u : Int) = v
  · rw [if_pos (by rw [h1])]
    obtain ⟨ea, es⟩ := cst_3 h0 g h1
    obtain ⟨I2, g1, W2, f2⟩ := W.cast (fu := fu) (k := k) (u := u) (v := v) hfu (by rw [es]; exact h0) (vst_cst W.1.V k u v) (by omega) ⟨by omega, by omega⟩ (by omega) ea
    rw [es] at W2
    refine ⟨⟨by decide, by decide⟩, wB_que2 g1 (fun r9 hr9 => ?_)⟩
    rw [hr9, if_pos (show iz (-2) = -2 from rfl)]
    unfold wL_casts_b71
    exact ⟨⟨by decide, by decide⟩, Or.inr rfl, _, rfl, hP sh I2 R σ W2 (KP.fg W.1.1 f2)⟩
  · rw [if_neg (by rw [ieq rfl rfl (IRn (by omega)) ⟨by omega, by omega⟩]; exact h1)]
    refine ⟨B.r, ⟨by decide, by decide⟩, l_axS B V hk (by omega) (by omega) hui ?_⟩
    refine wB_of (oA2_n hq 1 (by decide) il1) ?_
    rw [e1]
    by_cases c1 : axS σ.2.1 (scS σ.2.1 k) u = cxS σ.2.1 k
    · rw [if_pos (by rw [c1])]
      refine ⟨B.r, ⟨by decide, by decide⟩, l_ayS B V hk (by omega) (by omega) hui ?_⟩
      refine wB_of (oA2_n hq 2 (by decide) il2) ?_
      rw [e2]
      by_cases c2 : ayS σ.2.1 (scS σ.2.1 k) u = cyS σ.2.1 k
      · rw [if_pos (by rw [c2])]
        obtain ⟨ea, es⟩ := cst_4 h0 g h1 ⟨c1, c2⟩
        obtain ⟨I2, g1, W2, f2⟩ := W.cast (fu := fu) (k := k) (u := u) (v := v) hfu (by rw [es]; exact h0) (vst_cst W.1.V k u v) (by omega) ⟨by omega, by omega⟩ (by omega) ea
        rw [es] at W2
        refine ⟨⟨by decide, by decide⟩, wB_que2 g1 (fun r9 hr9 => ?_)⟩
        rw [hr9, if_pos (show iz (-3) = -3 from rfl)]
        unfold wL_casts_b117
        exact ⟨⟨by decide, by decide⟩, Or.inr rfl, _, rfl, hP sh I2 R σ W2 (KP.fg W.1.1 f2)⟩
      · rw [if_neg (by rw [ieq rfl rfl ⟨by omega, by omega⟩ ⟨by omega, by omega⟩]; exact c2)]
        exact go h1 (fun z => c2 z.2)
    · rw [if_neg (by rw [ieq rfl rfl ⟨by omega, by omega⟩ ⟨by omega, by omega⟩]; exact c1)]
      exact go h1 (fun z => c1 z.1)
theorem l_casts {z : Int} (W : WLX K σ σ.2.1 AD A cap S sh I R) (hfu : 5000 ≤ fu) (hk : S[k]? = some q) (hz : 0 ≤ z ∧ z ≤ 2147483647)
    (hP : ∀ sh' I' R' σ', WLX K σ' σ'.2.1 AD A cap S sh' I' R' → KP sh I sh' I' → P 1 sh' I' R') : wL_casts K J fu sh I R (AD 0) (A 0) q (iz (k : Int)) (iz z) (qwI P) := by
  have B := W.2.2.1
  have V := W.2.2.2.2.2.1
  obtain ⟨k0, k1, hq⟩ := B.kk hk
  have v1 := (V.shot k0 k1).1
  have m := V.m
  obtain ⟨c, hc⟩ : ∃ c : Nat, scS σ.2.1 k = (c : Int) := ⟨(scS σ.2.1 k).toNat, by omega⟩
  have e0 : I q 0 = iz (c : Int) := by rw [(B.2.2.2.2.2 k q hk).1, hc]
  unfold wL_casts
  refine wB_of (oA2_n hq 0 (by decide) il0) ?_
  rw [e0]
  refine wB_of (oM_l il6 hz.1 hz.2 (by decide) (by decide)) ?_
  refine ⟨⟨by decide, by decide⟩, l_someActor B V hfu (by omega) ⟨by omega, by omega⟩ (fun u hu hui => ?_)⟩
  rw [← hc] at hui
  refine wB_of (oD_l il6 hz.1 hz.2 (by decide) (by decide)) ?_
  refine wB_of (oM_l il3 (by omega) (by omega) (by decide) (by decide)) ?_
  by_cases h3 : z / 6 % 3 = 0
  · rw [if_pos (by rw [h3]; decide)]
    rw [show (-1 : Int32) = iz (-1) from rfl]
    exact l_cast43 W hfu hk hu hui (Or.inl rfl) hP
  · rw [if_neg (by rw [ieq rfl il0 ⟨by omega, by omega⟩ ⟨by decide, by decide⟩]; exact h3)]
    refine wB_of (oA2_n hq 0 (by decide) il0) ?_
    rw [e0]
    refine wB_of (oD_l il18 hz.1 hz.2 (by decide) (by decide)) ?_
    refine wB_of (oM_l il6 (by omega) (by omega) (by decide) (by decide)) ?_
    refine ⟨⟨by decide, by decide⟩, l_someActor B V hfu (by omega) ⟨by omega, by omega⟩ (fun w hw hwi => ?_)⟩
    rw [← hc] at hwi
    exact l_cast43 W hfu hk hu hui (Or.inr ⟨⟨by omega, by omega⟩, hwi⟩) hP
end AC
