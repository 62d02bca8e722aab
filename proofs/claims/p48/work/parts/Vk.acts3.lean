/-! THE LAW, STAGE 2: light, length, camera -/
section AC
variable {K J : Nat → Nat} {fu : Nat} {σ σ' : STT} {AD : Int → Nat} {A : Nat → Nat} {cap : Nat} {S : List Nat} {sh sh' : HS} {I I' : HI} {R R' : HR} {ρ : RHO} {P : Int32 → HS → HI → HR → Prop} {k q : Nat}
theorem WLX.fs (W : WLX K σ ρ AD A cap S sh I R) (hk : S[k]? = some q) : FGN AD q := W.2.2.2.2.1 _ (Or.inr (Or.inr (List.mem_of_getElem? hk)))
theorem ac_1 {v Q : Int} {c : Nat} {n a x y : Int32} {s0 : Option Nat} (W : WLX K σ σ.2.1 AD A cap S sh I R) (hfu : 5000 ≤ fu) (hv : 0 ≤ v ∧ v ≤ 2147483647) (hi : v % 9 = 1) (hQ : 0 ≤ Q ∧ Q ≤ 2147483647) (hc : (c : Int) < σ.2.1 3)
    (hP : ∀ sh' I' R' σ', WLX K σ' σ'.2.1 AD A cap S sh' I' R' → KP sh I sh' I' → P 1 sh' I' R') : wL_acts_b87 K J fu (qwI P) sh I R 0 0 (AD 0) (A 0) (iz v) (iz Q) n (iz (c : Int)) a x y s0 := by
  have B := W.2.2.1
  have V := W.2.2.2.2.2.1
  have m := V.m
  have k0 := B.1.1.1
  have k3 := B.1.2.2.1.1
  have h0 : σ.1 = true := W.2.1
  unfold wL_acts_b87
  refine wB_of (oM_l il9 hv.1 hv.2 (by decide) (by decide)) ?_
  rw [hi, if_neg (by decide), if_pos il1.symm]
  refine wB_of (oR_at k0 B.1.1.2.2.1) ?_
  refine wB_of (oA2_n k3 c (by omega) rfl) ?_
  rw [(B.2.2.2.1 c hc).1]
  refine wB_of (oR_at k0 B.1.1.2.2.1) ?_
  refine wB_of (oD_l il11 hQ.1 hQ.2 (by decide) (by decide)) ?_
  refine wB_of (oM_l il4 (by omega) (by omega) (by decide) (by decide)) ?_
  refine wB_of (oS_n k3 c (by omega) rfl) ?_
  have g : 0 ≤ Q / 11 % 4 ∧ Q / 11 % 4 ≤ 3 := by omega
  generalize Q / 11 % 4 = l at *
  have es : sLgt σ c l = rowS (pushS σ) (up1 σ.2.1 (5 + 14 * c) l) := by unfold sLgt; rw [if_pos h0, if_pos ⟨⟨by omega, by omega⟩, g⟩]
  have ea : aLgt σ c l = .inl (ltS σ.2.1 c) := by unfold aLgt; rw [if_pos h0, if_pos ⟨⟨by omega, by omega⟩, g⟩]
  have V' := vst_lgt W.1.V c l
  have Vb : VB (up1 σ.2.1 (5 + 14 * c) l) := by
    have := V'.1 (by rw [es]; exact h0)
    rw [es] at this
    exact this
  have f3 : FGN AD (A 3) := W.2.2.2.2.1 _ (Or.inl (Or.inr (Or.inr (Or.inr (Or.inl rfl)))))
  have W1 := W.wr f3 k3 (by decide) c (iz l) (B.light W.2.2.2.2.2.2 hc m.2 l) (up1_ne (by omega)) Vb
  have kp1 : KP sh I sh (u2 I (A 3) c (iz l)) := KP.wI k3 (by decide) c (iz l)
  have hval : u2 I (A 3) c (iz l) (A 3) c = iz l := u2_self
  generalize u2 I (A 3) c (iz l) = I1 at *
  refine wB_of (oR_at k0 B.1.1.2.2.1) ?_
  refine wB_of (oA2_n k3 c (by omega) rfl) ?_
  rw [hval]
  obtain ⟨I2, e2, W2, f2⟩ := W1.act (f := fun I => fX10_setLight fu sh I R (AD 0) (iz (c : Int)) (iz l)) (a := aLgt σ c l) V' (by rw [es]; exact h0) (fun AD' P gg O => by
    have e := ca_setLight (P := P) (R := R) O W.1.V hfu (show IR (c : Int) from IRn (by omega)) (show IR l from ⟨by omega, by omega⟩)
    rw [gg 0 (by decide) (by decide)] at e
    exact e)
  rw [ea] at e2
  refine ⟨⟨by decide, by decide⟩, wB_que2 e2 (fun r9 hr9 => ?_)⟩
  rw [hr9, if_pos rfl]
  unfold wL_acts_b253
  refine ⟨⟨by decide, by decide⟩, Or.inr rfl, _, rfl, ?_⟩
  have er : up1 σ.2.1 (5 + 14 * c) l = (sLgt σ c l).2.1 := by rw [es]; rfl
  rw [er] at W2
  exact hP sh I2 R _ W2 (kp1.tr (KP.fg W1.1.1 f2))
theorem ac_5 {v Q : Int} {c a x y : Int32} {s0 : Option Nat} (W : WLX K σ σ.2.1 AD A cap S sh I R) (hfu : 5000 ≤ fu) (hv : 0 ≤ v ∧ v ≤ 2147483647) (hi : v % 9 = 5) (hQ : 0 ≤ Q ∧ Q ≤ 2147483647) (hs : (S = [] ∧ s0 = none) ∨ (∃ q, S[(Q % S.length).toNat]? = some q ∧ s0 = some q ∧ 0 < S.length))
    (hP : ∀ sh' I' R' σ', WLX K σ' σ'.2.1 AD A cap S sh' I' R' → KP sh I sh' I' → P 1 sh' I' R') : wL_acts_b87 K J fu (qwI P) sh I R 0 0 (AD 0) (A 0) (iz v) (iz Q) (iz (S.length : Int)) c a x y s0 := by
  have B := W.2.2.1
  have V := W.2.2.2.2.2.1
  have m := V.m
  have n4 := V.n
  have hl := B.len
  have h0 : σ.1 = true := W.2.1
  unfold wL_acts_b87
  refine wB_of (oM_l il9 hv.1 hv.2 (by decide) (by decide)) ?_
  rw [hi, if_neg (by decide), if_neg (by decide), if_neg (by decide), if_neg (by decide), if_neg (by decide), if_pos il5.symm]
  rcases hs with ⟨hs, rfl⟩ | ⟨q, hk, rfl, hpos⟩
  · rw [if_pos rfl]
    have hz : faultS σ.2.1 = 0 := by
      have : (σ.2.1 4).toNat = 0 := by rw [hs] at hl; simp only [List.length_nil] at hl; omega
      unfold faultS
      rw [this]
      rfl
    have e := W.wld.ask (f := fun I => fX10_faults fu sh I R (AD 0)) (fun P O => cq_faults (P := P) O W.1.V hfu)
    have ea : aBoard σ (faultS σ.2.1) = .inl 0 := by unfold aBoard; rw [if_pos h0, hz]
    rw [ea] at e
    refine ⟨⟨by decide, by decide⟩, wB_ask e ?_⟩
    rw [if_pos il0.symm]
    unfold wL_acts_b551
    exact ⟨⟨by decide, by decide⟩, Or.inr rfl, _, rfl, hP sh I R σ W (KP.rf sh I)⟩
  · rw [if_neg (by simp)]
    have hmod := Int.emod_lt_of_pos Q (show (0 : Int) < S.length by omega)
    have hmod0 := Int.emod_nonneg Q (show ¬ (S.length : Int) = 0 by omega)
    obtain ⟨k, hkk⟩ : ∃ k : Nat, Q % (S.length : Int) = (k : Int) := ⟨(Q % (S.length : Int)).toNat, by omega⟩
    rw [hkk, Int.toNat_natCast] at hk
    obtain ⟨k0, k1, hq⟩ := B.kk hk
    have sv := V.shot k0 k1
    refine wB_of (v := q) rfl ?_
    refine wB_of (oA2_n hq 5 (by decide) il5) ?_
    rw [B.g hk 5 (by decide)]
    refine wB_of (oD_l il9 hQ.1 hQ.2 (by decide) (by decide)) ?_
    refine wB_of (oM_l il99 (by omega) (by omega) (by decide) (by decide)) ?_
    refine wB_of (oS_n hq 5 (by decide) il5) ?_
    rw [show (1 : Int32) + iz (Q / 9 % 99) = iz (1 + Q / 9 % 99) from by rw [il1, iz_add]]
    have g : 1 ≤ 1 + Q / 9 % 99 ∧ 1 + Q / 9 % 99 ≤ 99 := by omega
    generalize 1 + Q / 9 % 99 = l at *
    have es : sLen_ σ k l = rowS (pushS σ) (up1 σ.2.1 (47 + 6 * k + 5) l) := by unfold sLen_; rw [if_pos h0, if_pos ⟨⟨by omega, by omega⟩, g⟩]
    have ea : aLen σ k l = .inl (lnS σ.2.1 k) := by unfold aLen; rw [if_pos h0, if_pos ⟨⟨by omega, by omega⟩, g⟩]
    have V' := vst_len W.1.V k l
    have Vb : VB (up1 σ.2.1 (47 + 6 * k + 5) l) := by
      have := V'.1 (by rw [es]; exact h0)
      rw [es] at this
      exact this
    have W1 := W.wr (W.fs hk) hq (by decide) 5 (iz l) (B.shot m.2 W.2.2.2.2.2.2 hk (j := 5) (by decide) l) (up1_ne (by omega)) Vb
    have kp1 : KP sh I sh (u2 I q 5 (iz l)) := KP.wI hq (by decide) 5 (iz l)
    have hval : u2 I q 5 (iz l) q 5 = iz l := u2_self
    generalize u2 I q 5 (iz l) = I1 at *
    refine wB_of (oM_l rfl hQ.1 hQ.2 (by omega) (by omega)) ?_
    rw [hkk]
    refine wB_of (oA2_n hq 5 (by decide) il5) ?_
    rw [hval]
    obtain ⟨I2, e2, W2, f2⟩ := W1.act (f := fun I => fX10_setLength fu sh I R (AD 0) (iz (k : Int)) (iz l)) (a := aLen σ k l) V' (by rw [es]; exact h0) (fun AD' P gg O => by
      have e := ca_setLength (P := P) (R := R) O W.1.V hfu (show IR (k : Int) from IRn (by omega)) (show IR l from ⟨by omega, by omega⟩)
      rw [gg 0 (by decide) (by decide)] at e
      exact e)
    rw [ea] at e2
    refine ⟨⟨by decide, by decide⟩, wB_que2 e2 (fun r9 hr9 => ?_)⟩
    rw [hr9, if_pos (show iz (lnS σ.2.1 k) = iz (gS σ.2.1 k ((5 : Nat) : Int)) from rfl)]
    unfold wL_acts_b593
    refine ⟨⟨by decide, by decide⟩, Or.inr rfl, _, rfl, ?_⟩
    have er : up1 σ.2.1 (47 + 6 * k + 5) l = (sLen_ σ k l).2.1 := by rw [es]; rfl
    have W3 : WLX K (sLen_ σ k l) (up1 σ.2.1 (47 + 6 * k + 5) l) AD A cap S sh I2 R := W2
    rw [er] at W3
    exact hP sh I2 R _ W3 (kp1.tr (KP.fg W1.1.1 f2))
end AC
