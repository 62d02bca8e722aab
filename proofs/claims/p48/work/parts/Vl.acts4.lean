/-! THE LAW, STAGE 2: the camera, flips -/
theorem mvS_up (ρ : RHO) (k : Nat) (x y : Int) : up1 (up1 ρ (47 + 6 * k + (1 : Nat)) x) (47 + 6 * k + (2 : Nat)) y = mvS ρ k x y := by
  funext j
  unfold up1 mvS
  by_cases a : j = 47 + 6 * k + (2 : Nat)
  · rw [if_pos a, if_neg (by omega), if_pos (by omega)]
  · rw [if_neg a]
    by_cases b : j = 47 + 6 * k + (1 : Nat)
    · rw [if_pos b, if_pos (by omega)]
    · rw [if_neg b, if_neg (by omega), if_neg (by omega)]
section AC
variable {K J : Nat → Nat} {fu : Nat} {σ σ' : STT} {AD : Int → Nat} {A : Nat → Nat} {cap : Nat} {S : List Nat} {sh sh' : HS} {I I' : HI} {R R' : HR} {ρ : RHO} {P : Int32 → HS → HI → HR → Prop} {k q : Nat}
theorem WLX.cam (W : WLX K σ ρ AD A cap S sh I R) (hk : S[k]? = some q) {x y : Int} (V' : VB (mvS ρ k x y)) : WLX K σ (mvS ρ k x y) AD A cap S sh (u2 (u2 I q 1 (iz x)) q 2 (iz y)) R ∧ KP sh I sh (u2 (u2 I q 1 (iz x)) q 2 (iz y)) := by
  have fq := W.fs hk
  have hq := (W.2.2.1.kk hk).2.2
  obtain ⟨w1, w2, w3, w4, w5, w6, w7⟩ := W
  have m := w6.m
  have e3 : up1 ρ (47 + 6 * k + (1 : Nat)) x 3 = ρ 3 := up1_ne (by omega)
  have B1 := w3.shot m.2 w7 hk (j := 1) (by decide) x
  have B2 := B1.shot (by rw [e3]; exact m.2) (by rw [e3]; exact w7) hk (j := 2) (by decide) y
  rw [mvS_up] at B2
  have e4 : mvS ρ k x y 3 = ρ 3 := by rw [← mvS_up, up1_ne (by omega), e3]
  exact ⟨⟨(w1.wI fq 1 (iz x)).wI fq 2 (iz y), w2, B2, (w4.wI hq (by decide) 1 (iz x)).wI hq (by decide) 2 (iz y), by rw [e4]; exact w5, V', by rw [e4]; exact w7⟩, (KP.wI hq (by decide) 1 (iz x)).tr (KP.wI hq (by decide) 2 (iz y))⟩
theorem ac_468 {Q : Int} {x y : Int} (W : WLX K σ σ.2.1 AD A cap S sh I R) (hfu : 5000 ≤ fu) (hQ : 0 ≤ Q ∧ Q ≤ 2147483647) (hk : S[k]? = some q) (hkk : Q % (S.length : Int) = (k : Int)) (hpos : 0 < S.length) (hx : 0 ≤ x ∧ x ≤ 199) (hy : 0 ≤ y ∧ y ≤ 199) (hne : ¬ (sxS σ.2.1 k = x ∧ syS σ.2.1 k = y))
    (hP : ∀ sh' I' R' σ', WLX K σ' σ'.2.1 AD A cap S sh' I' R' → KP sh I sh' I' → P 1 sh' I' R') : wL_acts_b468 K J fu (qwI P) sh I R 0 0 (AD 0) (A 0) (iz Q) (iz (S.length : Int)) (iz x) (iz y) (some q) := by
  have B := W.2.2.1
  have V := W.2.2.2.2.2.1
  have n4 := V.n
  have hl := B.len
  have h0 : σ.1 = true := W.2.1
  obtain ⟨k0, k1, hq⟩ := B.kk hk
  have Vb := mv_V V k0 k1 hx.1 hx.2 hy.1 hy.2 hne
  have es : sCam σ k x y = rowS (pushS σ) (mvS σ.2.1 k x y) := by unfold sCam; rw [if_pos h0, if_pos ⟨⟨by omega, by omega⟩, hx, hy⟩, if_neg hne]
  have ea : aFwith σ k x y = .inl (faultS (mvS σ.2.1 k x y)) := by unfold aFwith; rw [if_pos h0, if_pos ⟨⟨by omega, by omega⟩, hx, hy⟩, if_neg hne]
  unfold wL_acts_b468
  refine wB_of (v := q) rfl ?_
  refine wB_of (oS_n hq 1 (by decide) il1) ?_
  refine wB_of (oS_n hq 2 (by decide) il2) ?_
  obtain ⟨W1, kp1⟩ := W.cam hk Vb
  generalize u2 (u2 I q 1 (iz x)) q 2 (iz y) = I1 at *
  refine wB_of (oM_l rfl hQ.1 hQ.2 (by omega) (by omega)) ?_
  rw [hkk]
  obtain ⟨I2, e2, W2, f2⟩ := W1.act (f := fun I => fX10_moveCamera fu sh I R (AD 0) (iz (k : Int)) (iz x) (iz y)) (a := aFwith σ k x y) (vst_cam W.1.V k x y) (by rw [es]; exact h0) (fun AD' P gg O => by
    have e := ca_moveCamera (P := P) (R := R) O W.1.V hfu (show IR (k : Int) from IRn (by omega)) (show IR x from ⟨by omega, by omega⟩) (show IR y from ⟨by omega, by omega⟩)
    rw [gg 0 (by decide) (by decide)] at e
    exact e)
  rw [ea] at e2
  refine ⟨⟨by decide, by decide⟩, wB_que2 e2 (fun r9 hr9 => ?_)⟩
  rw [hr9]
  refine ⟨W2.2.2.1.r, ⟨by decide, by decide⟩, l_faults W2.2.2.1 Vb hfu ?_⟩
  rw [if_pos rfl]
  unfold wL_acts_b504
  refine ⟨⟨by decide, by decide⟩, Or.inr rfl, _, rfl, ?_⟩
  have er : mvS σ.2.1 k x y = (sCam σ k x y).2.1 := by rw [es]; rfl
  have W3 : WLX K (sCam σ k x y) (mvS σ.2.1 k x y) AD A cap S sh I2 R := W2
  rw [er] at W3
  exact hP sh I2 R _ W3 (kp1.tr (KP.fg W1.1.1 f2))
theorem ac_3 {v Q x y : Int} {c a : Int32} {s0 : Option Nat} (W : WLX K σ σ.2.1 AD A cap S sh I R) (hfu : 5000 ≤ fu) (hv : 0 ≤ v ∧ v ≤ 2147483647) (hi : v % 9 = 3) (hQ : 0 ≤ Q ∧ Q ≤ 2147483647) (hx : 0 ≤ x ∧ x ≤ 199) (hy : 0 ≤ y ∧ y ≤ 199) (hs : (S = [] ∧ s0 = none) ∨ (∃ q, S[(Q % S.length).toNat]? = some q ∧ s0 = some q ∧ 0 < S.length))
    (hP : ∀ sh' I' R' σ', WLX K σ' σ'.2.1 AD A cap S sh' I' R' → KP sh I sh' I' → P 1 sh' I' R') : wL_acts_b87 K J fu (qwI P) sh I R 0 0 (AD 0) (A 0) (iz v) (iz Q) (iz (S.length : Int)) c a (iz x) (iz y) s0 := by
  have B := W.2.2.1
  have V := W.2.2.2.2.2.1
  have m := V.m
  have n4 := V.n
  have hl := B.len
  have h0 : σ.1 = true := W.2.1
  unfold wL_acts_b87
  refine wB_of (oM_l il9 hv.1 hv.2 (by decide) (by decide)) ?_
  rw [hi, if_neg (by decide), if_neg (by decide), if_neg (by decide), if_pos il3.symm]
  rcases hs with ⟨hs, rfl⟩ | ⟨q, hk, rfl, hpos⟩
  · rw [if_pos rfl]
    have e := W.wld.ask (f := fun I => fX10_count fu sh I R (AD 0) (iz 1)) (fun P O => cq_count (P := P) O W.1.V hfu ⟨by decide, by decide⟩)
    have ea : aCount σ 1 = .inl 0 := by
      unfold aCount
      rw [if_pos h0, if_pos ⟨by decide, by decide⟩]
      have : σ.2.1 4 = 0 := by rw [hs] at hl; simp only [List.length_nil] at hl; omega
      show Sum.inl (σ.2.1 4) = _
      rw [this]
    rw [ea] at e
    refine ⟨⟨by decide, by decide⟩, wB_ask e ?_⟩
    rw [if_pos il0.symm]
    unfold wL_acts_b414
    exact ⟨⟨by decide, by decide⟩, Or.inr rfl, _, rfl, hP sh I R σ W (KP.rf sh I)⟩
  · rw [if_neg (by simp)]
    have hmod := Int.emod_lt_of_pos Q (show (0 : Int) < S.length by omega)
    have hmod0 := Int.emod_nonneg Q (show ¬ (S.length : Int) = 0 by omega)
    obtain ⟨k, hkk⟩ : ∃ k : Nat, Q % (S.length : Int) = (k : Int) := ⟨(Q % (S.length : Int)).toNat, by omega⟩
    rw [hkk, Int.toNat_natCast] at hk
    obtain ⟨k0, k1, hq⟩ := B.kk hk
    obtain ⟨v1, v2, v3, v4, v5, v6, v7, v8⟩ := V.shot k0 k1
    obtain ⟨w1, w2⟩ := V.sub k0 k1
    have z1 : (0 : Int) ≤ axS σ.2.1 (scS σ.2.1 k) (suS σ.2.1 k) ∧ axS σ.2.1 (scS σ.2.1 k) (suS σ.2.1 k) ≤ 199 := w1
    have z2 : (0 : Int) ≤ ayS σ.2.1 (scS σ.2.1 k) (suS σ.2.1 k) ∧ ayS σ.2.1 (scS σ.2.1 k) (suS σ.2.1 k) ≤ 199 := w2
    refine wB_of (v := q) rfl ?_
    refine wB_of (oA2_n hq 3 (by decide) il3) ?_
    rw [(B.2.2.2.2.2 k q hk).2.2.2.1]
    refine ⟨B.r, ⟨by decide, by decide⟩, l_axS B V hk v4.1 v4.2 v5 ?_⟩
    by_cases c1 : axS σ.2.1 (scS σ.2.1 k) (suS σ.2.1 k) = x
    · rw [if_pos (by rw [c1])]
      refine wB_of (oA2_n hq 3 (by decide) il3) ?_
      rw [(B.2.2.2.2.2 k q hk).2.2.2.1]
      refine ⟨B.r, ⟨by decide, by decide⟩, l_ayS B V hk v4.1 v4.2 v5 ?_⟩
      by_cases c2 : ayS σ.2.1 (scS σ.2.1 k) (suS σ.2.1 k) = y
      · rw [if_pos (by rw [c2])]
        refine wB_of (oM_l rfl hQ.1 hQ.2 (by omega) (by omega)) ?_
        rw [hkk]
        have es : sCam σ k x y = σ := by unfold sCam; rw [if_pos h0, if_pos ⟨⟨by omega, by omega⟩, hx, hy⟩, if_pos ⟨c1, c2⟩]
        have ea : aFwith σ k x y = .inl (-2) := by unfold aFwith; rw [if_pos h0, if_pos ⟨⟨by omega, by omega⟩, hx, hy⟩, if_pos ⟨c1, c2⟩]
        obtain ⟨I2, e2, W2, f2⟩ := W.act (f := fun I => fX10_moveCamera fu sh I R (AD 0) (iz (k : Int)) (iz x) (iz y)) (a := aFwith σ k x y) (σ' := sCam σ k x y) (vst_cam W.1.V k x y) (by rw [es]; exact h0) (fun AD' P gg O => by
          have e := ca_moveCamera (P := P) (R := R) O W.1.V hfu (show IR (k : Int) from IRn (by omega)) (show IR x from ⟨by omega, by omega⟩) (show IR y from ⟨by omega, by omega⟩)
          rw [gg 0 (by decide) (by decide)] at e
          exact e)
        rw [ea] at e2
        rw [es] at W2
        refine ⟨⟨by decide, by decide⟩, wB_que2 e2 (fun r9 hr9 => ?_)⟩
        rw [hr9, if_pos (show iz (-2) = -2 from rfl)]
        unfold wL_acts_b467
        exact ⟨⟨by decide, by decide⟩, Or.inr rfl, _, rfl, hP sh I2 R σ W2 (KP.fg W.1.1 f2)⟩
      · rw [if_neg (by rw [ieq rfl rfl ⟨by omega, by omega⟩ ⟨by omega, by omega⟩]; exact c2)]
        exact ac_468 W hfu hQ hk hkk hpos hx hy (fun z => c2 z.2) hP
    · rw [if_neg (by rw [ieq rfl rfl ⟨by omega, by omega⟩ ⟨by omega, by omega⟩]; exact c1)]
      exact ac_468 W hfu hQ hk hkk hpos hx hy (fun z => c1 z.1) hP
end AC
