/-! THE LAW, STAGE 2: an actor moved; the actions 4 and 8 as cases -/
section AC
variable {K J : Nat → Nat} {fu : Nat} {σ σ' : STT} {AD : Int → Nat} {A : Nat → Nat} {cap : Nat} {S : List Nat} {sh sh' : HS} {I I' : HI} {R R' : HR} {ρ : RHO} {P : Int32 → HS → HI → HR → Prop} {k q : Nat}
theorem WLX.mva (W : WLX K σ ρ AD A cap S sh I R) (hfu : 5000 ≤ fu) {c a x y : Int} {z : Int} (hs : (sMvA σ c a x y).1 = true) (hc : -1 ≤ c ∧ c ≤ 6) (ha : -1 ≤ a ∧ a ≤ 6) (hx : 0 ≤ x ∧ x ≤ 199) (hy : 0 ≤ y ∧ y ≤ 199) (hz : aMvA σ c a x y = .inl z) : ∃ I', fX10_moveActor fu sh I R (AD 0) (iz c) (iz a) (iz x) (iz y) = some (cOut (.inl z), I') ∧ WLX K (sMvA σ c a x y) ρ AD A cap S sh I' R ∧ ∀ b, FGN AD b → I' b = I b := by
  rw [← hz]
  refine W.act (f := fun I => fX10_moveActor fu sh I R (AD 0) (iz c) (iz a) (iz x) (iz y)) (vst_mva W.1.V c a x y) hs (fun AD' P gg O => ?_)
  have e := ca_moveActor (P := P) (R := R) O W.1.V hfu (show IR c from ⟨by omega, by omega⟩) (show IR a from ⟨by omega, by omega⟩) (show IR x from ⟨by omega, by omega⟩) (show IR y from ⟨by omega, by omega⟩)
  rw [gg 0 (by decide) (by decide)] at e
  exact e
theorem ac_2L {c a : Nat} {x y : Int} {sh0 : HS} {I0 : HI} {R0 : HR} {it : Nat} (W0 : WLX K σ σ.2.1 AD A cap S sh0 I0 R0) (hfu : 5000 ≤ fu) (hit : sh0 it = none) (hc : (c : Int) < σ.2.1 3) (ha : a < 6) (hin : inS σ.2.1 c a = true) (hx : 0 ≤ x ∧ x ≤ 199) (hy : 0 ≤ y ∧ y ≤ 199)
    (hP : ∀ sh' I' R' σ', WLX K σ' σ'.2.1 AD A cap S sh' I' R' → KP sh0 I0 sh' I' → P 1 sh' I' R') :
    ∀ (d s n : Nat) (sh : HS) (I : HI) (R : HR), s + d = S.length → d < n → hcS σ.2.1 c a x y = hcF (hcB σ.2.1 c a x y) d s → EXH (fun _ => False) sh0 I0 R0 sh I R → ITR sh I R it (A 1) s → wL_acts_l263 K J fu (qwI P) (wL_acts_b321 K J fu (qwI P)) (wL_acts_b347 K J fu (qwI P)) n sh I R (0 + 1) (0 + 4) (AD 0) (A 0) (iz (c : Int)) (iz (a : Int)) (iz x) (iz y) it := by
  have V := W0.2.2.2.2.2.1
  have n4 := V.n
  have m := V.m
  have hl := W0.2.2.1.len
  have h0 : σ.1 = true := W0.2.1
  have gd : ((0 ≤ (c : Int) ∧ (c : Int) ≤ σ.2.1 3 - 1) ∧ (0 ≤ (a : Int) ∧ (a : Int) ≤ 5) ∧ inS σ.2.1 c a = true) ∧ ((0 ≤ x ∧ x ≤ 199) ∧ (0 ≤ y ∧ y ≤ 199)) := ⟨⟨⟨by omega, by omega⟩, ⟨by omega, by omega⟩, hin⟩, hx, hy⟩
  intro d
  induction d with
  | zero =>
    intro s n sh I R hsd hn hh e t
    obtain ⟨n', rfl⟩ : ∃ n', n = n' + 1 := ⟨n - 1, by omega⟩
    have W := W0.ext e
    have B := W.2.2.1
    show wL_acts_b263 K J fu (qwI P) (wL_acts_l263 K J fu (qwI P) _ _ n') _ _ sh I R (0 + 1) (0 + 4) (AD 0) (A 0) _ _ _ _ it
    unfold wL_acts_b263
    refine ⟨isT_of t.1, ⟨by decide, by decide⟩, l_hasNext B.2.1 t (by omega) (fun z => ?_) (fun z => by omega)⟩
    rw [if_pos rfl]
    have hh2 : hcS σ.2.1 c a x y = false := hh
    have ea : aMvA σ c a x y = .inl (faultS (mvA σ.2.1 c a x y)) := by unfold aMvA; rw [if_pos h0, if_pos gd, hh2, if_neg (by decide)]
    have es : sMvA σ c a x y = rowS (pushS σ) (mvA σ.2.1 c a x y) := by unfold sMvA; rw [if_pos h0, if_pos gd, hh2, if_neg (by decide)]
    have V' := vst_mva W.1.V c a x y
    have Vb : VB (mvA σ.2.1 c a x y) := by
      have := V'.1 (by rw [es]; exact h0)
      rw [es] at this
      exact this
    obtain ⟨r1, r2, r3, r4, -⟩ := LBD.px (σ := σ) B hc m.2
    have e3 : mvA σ.2.1 c a x y 3 = σ.2.1 3 := by unfold mvA; rw [up1_ne (by omega), up1_ne (by omega)]
    have f6 : FGN AD (A (6 + c)) := W.2.2.2.2.1 _ (Or.inr (Or.inl ⟨c, hc, Or.inl rfl⟩))
    have f9 : FGN AD (A (9 + c)) := W.2.2.2.2.1 _ (Or.inr (Or.inl ⟨c, hc, Or.inr rfl⟩))
    have W1 : WLX K σ (mvA σ.2.1 c a x y) AD A cap S sh (u2 (u2 I (A (6 + c)) a (iz x)) (A (9 + c)) a (iz y)) R := by
      obtain ⟨w1, w2, w3, w4, w5, w6, w7⟩ := W
      exact ⟨(w1.wI f6 a (iz x)).wI f9 a (iz y), w2, w3.place w7 hc m.2 ha hin x y, (w4.wI r3 (by decide) a (iz x)).wI r4 (by decide) a (iz y), by rw [e3]; exact w5, Vb, by rw [e3]; exact w7⟩
    have kp1 : KP sh I sh (u2 (u2 I (A (6 + c)) a (iz x)) (A (9 + c)) a (iz y)) := (KP.wI r3 (by decide) a (iz x)).tr (KP.wI r4 (by decide) a (iz y))
    unfold wL_acts_b347
    refine wB_of (oR_at B.1.1.1 B.1.1.2.2.2.1) ?_
    refine wB_of r1 ?_
    refine wB_of (oS_n r3 a (by omega) rfl) ?_
    refine wB_of (oR_at B.1.1.1 B.1.1.2.2.2.2) ?_
    refine wB_of r2 ?_
    refine wB_of (oS_n r4 a (by omega) rfl) ?_
    generalize u2 (u2 I (A (6 + c)) a (iz x)) (A (9 + c)) a (iz y) = I1 at *
    obtain ⟨I2, g1, W2, f2⟩ := W1.mva (fu := fu) (c := c) (a := a) (x := x) (y := y) hfu (by rw [es]; exact h0) ⟨by omega, by omega⟩ ⟨by omega, by omega⟩ hx hy ea
    refine ⟨⟨by decide, by decide⟩, wB_que2 g1 (fun r9 hr9 => ?_)⟩
    rw [hr9]
    refine ⟨W2.2.2.1.r, ⟨by decide, by decide⟩, l_faults W2.2.2.1 Vb hfu ?_⟩
    rw [if_pos rfl]
    unfold wL_acts_b395
    refine ⟨⟨by decide, by decide⟩, Or.inr rfl, _, rfl, ?_⟩
    have er : mvA σ.2.1 c a x y = (sMvA σ c a x y).2.1 := by rw [es]; rfl
    rw [er] at W2
    exact hP sh I2 R _ W2 ((e.kp.tr kp1).tr (KP.fg W1.1.1 f2))
  | succ d ih =>
    intro s n sh I R hsd hn hh e t
    obtain ⟨n', rfl⟩ : ∃ n', n = n' + 1 := ⟨n - 1, by omega⟩
    have W := W0.ext e
    have B := W.2.2.1
    obtain ⟨q, hq⟩ : ∃ q, S[s]? = some q := ⟨S[s], List.getElem?_eq_getElem (by omega)⟩
    obtain ⟨k0, k1, hq6⟩ := B.kk hq
    obtain ⟨v1, v2, v3, v4, -⟩ := V.shot k0 k1
    have hh2 : hcS σ.2.1 c a x y = if hcB σ.2.1 c a x y s = true then true else hcF (hcB σ.2.1 c a x y) d (s + 1) := hh
    show wL_acts_b263 K J fu (qwI P) (wL_acts_l263 K J fu (qwI P) _ _ n') _ _ sh I R (0 + 1) (0 + 4) (AD 0) (A 0) _ _ _ _ it
    unfold wL_acts_b263
    refine ⟨isT_of t.1, ⟨by decide, by decide⟩, l_hasNext B.2.1 t (by omega) (fun z => by omega) (fun z => ?_)⟩
    rw [if_neg (by decide)]
    refine ⟨isT_of t.1, ⟨by decide, by decide⟩, l_next B.2.1 t hq (fun I' e' t' => ?_)⟩
    have e2 := e.tr e' (fun y hy z => hy (by rw [z]; exact hit))
    have W2 := W0.ext e2
    have B2 := W2.2.2.1
    obtain ⟨g0, g1, g2, g3, -⟩ := B2.2.2.2.2.2 s q hq
    have next : hcB σ.2.1 c a x y s = false → wL_acts_b344 K J fu (qwI P) (wL_acts_l263 K J fu (qwI P) (wL_acts_b321 K J fu (qwI P)) (wL_acts_b347 K J fu (qwI P)) n') (wL_acts_b321 K J fu (qwI P)) (wL_acts_b347 K J fu (qwI P)) sh I' R (0 + 1) (0 + 4) (AD 0) (A 0) (iz (c : Int)) (iz (a : Int)) (iz x) (iz y) it := by
      intro hb
      unfold wL_acts_b344
      rw [hb, if_neg (by decide)] at hh2
      exact ih (s + 1) n' sh I' R (by omega) (by omega) hh2 e2 t'
    refine wB_of (oKt_1 hq6) ?_
    refine wB_of (oA2_n hq6 0 (by decide) il0) ?_
    rw [g0]
    by_cases c1 : scS σ.2.1 s = (c : Int)
    · rw [if_pos (by rw [c1])]
      refine wB_of (oA2_n hq6 3 (by decide) il3) ?_
      rw [g3]
      by_cases c2 : suS σ.2.1 s = (a : Int)
      · rw [if_pos (by rw [c2])]
        refine wB_of (oA2_n hq6 1 (by decide) il1) ?_
        rw [g1]
        by_cases c3 : cxS σ.2.1 s = x
        · rw [if_pos (by rw [c3])]
          refine wB_of (oA2_n hq6 2 (by decide) il2) ?_
          rw [g2]
          by_cases c4 : cyS σ.2.1 s = y
          · rw [if_pos (by rw [c4])]
            have hb : hcB σ.2.1 c a x y s = true := by unfold hcB; exact decide_eq_true ⟨c1, c2, c3, c4⟩
            rw [hb, if_pos rfl] at hh2
            have ea : aMvA σ c a x y = .inl (-2) := by unfold aMvA; rw [if_pos h0, if_pos gd, if_pos hh2]
            have es : sMvA σ c a x y = σ := by unfold sMvA; rw [if_pos h0, if_pos gd, if_pos hh2]
            obtain ⟨I3, w1, W3, f3⟩ := W2.mva (fu := fu) (c := c) (a := a) (x := x) (y := y) hfu (by rw [es]; exact h0) ⟨by omega, by omega⟩ ⟨by omega, by omega⟩ hx hy ea
            rw [es] at W3
            unfold wL_acts_b321
            refine ⟨⟨by decide, by decide⟩, wB_que2 w1 (fun r9 hr9 => ?_)⟩
            rw [hr9, if_pos (show iz (-2) = -2 from rfl)]
            unfold wL_acts_b343
            exact ⟨⟨by decide, by decide⟩, Or.inr rfl, _, rfl, hP sh I3 R σ W3 (e2.kp.tr (KP.fg W2.1.1 f3))⟩
          · rw [if_neg (by rw [ieq rfl rfl ⟨by omega, by omega⟩ ⟨by omega, by omega⟩]; exact c4)]
            exact next (by unfold hcB; exact decide_eq_false (fun z => c4 z.2.2.2))
        · rw [if_neg (by rw [ieq rfl rfl ⟨by omega, by omega⟩ ⟨by omega, by omega⟩]; exact c3)]
          exact next (by unfold hcB; exact decide_eq_false (fun z => c3 z.2.2.1))
      · rw [if_neg (by rw [ieq rfl rfl ⟨by omega, by omega⟩ (IRn (by omega))]; exact c2)]
        exact next (by unfold hcB; exact decide_eq_false (fun z => c2 z.2.1))
    · rw [if_neg (by rw [ieq rfl rfl ⟨by omega, by omega⟩ (IRn (by omega))]; exact c1)]
      exact next (by unfold hcB; exact decide_eq_false (fun z => c1 z.1))
theorem ac_2 {v Q x y : Int} {c a : Nat} {n : Int32} {s0 : Option Nat} (W : WLX K σ σ.2.1 AD A cap S sh I R) (hfu : 5000 ≤ fu) (hv : 0 ≤ v ∧ v ≤ 2147483647) (hi : v % 9 = 2) (hc : (c : Int) < σ.2.1 3) (ha : a < 6) (hin : inS σ.2.1 c a = true) (hx : 0 ≤ x ∧ x ≤ 199) (hy : 0 ≤ y ∧ y ≤ 199)
    (hP : ∀ sh' I' R' σ', WLX K σ' σ'.2.1 AD A cap S sh' I' R' → KP sh I sh' I' → P 1 sh' I' R') : wL_acts_b87 K J fu (qwI P) sh I R 0 0 (AD 0) (A 0) (iz v) (iz Q) n (iz (c : Int)) (iz (a : Int)) (iz x) (iz y) s0 := by
  have B := W.2.2.1
  have n4 := W.2.2.2.2.2.1.n
  have hl := B.len
  unfold wL_acts_b87
  refine wB_of (oM_l il9 hv.1 hv.2 (by decide) (by decide)) ?_
  rw [hi, if_neg (by decide), if_neg (by decide), if_pos il2.symm]
  refine wB_of (oR_at B.1.1.1 B.1.1.2.1) ?_
  refine ⟨rcv_k B.2.1.1, ⟨by decide, by decide⟩, l_iter B.2.1 (fun it sh' I' R' h1 h2 h3 => ?_)⟩
  have hcs : hcS σ.2.1 c a x y = hcF (hcB σ.2.1 c a x y) S.length 0 := by unfold hcS; rw [show (σ.2.1 4).toNat = S.length by omega]
  exact ac_2L W hfu h1 hc ha hin hx hy hP S.length 0 fu sh' I' R' (by omega) (by omega) hcs h2 h3
theorem ac_4 {v Q : Int} {c a x y : Int32} {s0 : Option Nat} (W : WLX K σ σ.2.1 AD A cap S sh I R) (hfu : 5000 ≤ fu) (hv : 0 ≤ v ∧ v ≤ 2147483647) (hi : v % 9 = 4) (hQ : 0 ≤ Q ∧ Q ≤ 2147483647) (hs : (S = [] ∧ s0 = none) ∨ (∃ q, S[(Q % S.length).toNat]? = some q ∧ s0 = some q ∧ 0 < S.length))
    (hP : ∀ sh' I' R' σ', WLX K σ' σ'.2.1 AD A cap S sh' I' R' → KP sh I sh' I' → P 1 sh' I' R') : wL_acts_b87 K J fu (qwI P) sh I R 0 0 (AD 0) (A 0) (iz v) (iz Q) (iz (S.length : Int)) c a x y s0 := by
  have n4 := W.2.2.2.2.2.1.n
  have hl := W.2.2.1.len
  unfold wL_acts_b87
  refine wB_of (oM_l il9 hv.1 hv.2 (by decide) (by decide)) ?_
  rw [hi, if_neg (by decide), if_neg (by decide), if_neg (by decide), if_neg (by decide), if_pos il4.symm]
  rcases hs with ⟨hs, rfl⟩ | ⟨q, hk, rfl, hpos⟩
  · rw [if_pos rfl]
    unfold wL_acts_b528 wL_acts_b533
    exact ⟨⟨by decide, by decide⟩, Or.inr rfl, _, rfl, hP sh I R σ W (KP.rf sh I)⟩
  · rw [if_neg (by simp)]
    have hmod := Int.emod_lt_of_pos Q (show (0 : Int) < S.length by omega)
    have hmod0 := Int.emod_nonneg Q (show ¬ (S.length : Int) = 0 by omega)
    obtain ⟨k, hkk⟩ : ∃ k : Nat, Q % (S.length : Int) = (k : Int) := ⟨(Q % (S.length : Int)).toNat, by omega⟩
    rw [hkk, Int.toNat_natCast] at hk
    refine wB_of (oM_l rfl hQ.1 hQ.2 (by omega) (by omega)) ?_
    rw [hkk]
    refine wB_of (oD_l (n := 13) il13 hQ.1 hQ.2 (by decide) (by decide)) ?_
    refine wB_of (v := q) rfl ?_
    refine ⟨⟨by decide, by decide⟩, l_casts W hfu hk ⟨by omega, by omega⟩ (fun sh' I' R' σ' W' kp => ?_)⟩
    rw [if_neg (by decide)]
    unfold wL_acts_b528 wL_acts_b533
    exact ⟨⟨by decide, by decide⟩, Or.inr rfl, _, rfl, hP sh' I' R' σ' W' kp⟩
theorem ac_8 {v Q : Int} {c a x y : Int32} {s0 : Option Nat} (W : WLX K σ σ.2.1 AD A cap S sh I R) (hfu : 5000 ≤ fu) (hv : 0 ≤ v ∧ v ≤ 2147483647) (hi : v % 9 = 8) (hQ : 0 ≤ Q ∧ Q ≤ 2147483647) (hs : (S = [] ∧ s0 = none) ∨ (∃ q, S[(Q % S.length).toNat]? = some q ∧ s0 = some q ∧ 0 < S.length))
    (hP : ∀ sh' I' R' σ', WLX K σ' σ'.2.1 AD A cap S sh' I' R' → KP sh I sh' I' → P 1 sh' I' R') : wL_acts_b87 K J fu (qwI P) sh I R 0 0 (AD 0) (A 0) (iz v) (iz Q) (iz (S.length : Int)) c a x y s0 := by
  have n4 := W.2.2.2.2.2.1.n
  have hl := W.2.2.1.len
  unfold wL_acts_b87
  refine wB_of (oM_l il9 hv.1 hv.2 (by decide) (by decide)) ?_
  rw [hi, if_neg (by decide), if_neg (by decide), if_neg (by decide), if_neg (by decide), if_neg (by decide), if_neg (by decide), if_neg (by decide), if_neg (by decide)]
  rcases hs with ⟨hs, rfl⟩ | ⟨q, hk, rfl, hpos⟩
  · rw [if_pos rfl]
    unfold wL_acts_b688 wL_acts_b693
    exact ⟨⟨by decide, by decide⟩, Or.inr rfl, _, rfl, hP sh I R σ W (KP.rf sh I)⟩
  · rw [if_neg (by simp)]
    have hmod := Int.emod_lt_of_pos Q (show (0 : Int) < S.length by omega)
    have hmod0 := Int.emod_nonneg Q (show ¬ (S.length : Int) = 0 by omega)
    obtain ⟨k, hkk⟩ : ∃ k : Nat, Q % (S.length : Int) = (k : Int) := ⟨(Q % (S.length : Int)).toNat, by omega⟩
    rw [hkk, Int.toNat_natCast] at hk
    refine wB_of (oM_l rfl hQ.1 hQ.2 (by omega) (by omega)) ?_
    rw [hkk]
    refine wB_of (v := q) rfl ?_
    refine ⟨⟨by decide, by decide⟩, l_flips W hfu hk (fun sh' I' R' σ' W' kp => ?_)⟩
    rw [if_neg (by decide)]
    unfold wL_acts_b688 wL_acts_b693
    exact ⟨⟨by decide, by decide⟩, Or.inr rfl, _, rfl, hP sh' I' R' σ' W' kp⟩
end AC
