/-! THE LAW, STAGE 2: flips -/
section AC
variable {K J : Nat → Nat} {fu : Nat} {σ σ' : STT} {AD : Int → Nat} {A : Nat → Nat} {cap : Nat} {S : List Nat} {sh sh' : HS} {I I' : HI} {R R' : HR} {ρ : RHO} {P : Int32 → HS → HI → HR → Prop} {k q : Nat}
theorem WLX.flip (W : WLX K σ ρ AD A cap S sh I R) (hfu : 5000 ≤ fu) (hs : σ.1 = true) (hk : (k : Int) < σ.2.1 4) (n4 : σ.2.1 4 ≤ 12) : ∃ I', fX10_flip fu sh I R (AD 0) (iz (k : Int)) = some (cOut (.inl (if nfS σ.2.1 k = 0 then faultS (mvS σ.2.1 k (fxS σ.2.1 k) (fyS σ.2.1 k)) else nfS σ.2.1 k)), I') ∧ WLX K (sFlip σ k) ρ AD A cap S sh I' R ∧ ∀ b, FGN AD b → I' b = I b := by
  have ea : aFlip σ k = .inl (if nfS σ.2.1 k = 0 then faultS (mvS σ.2.1 k (fxS σ.2.1 k) (fyS σ.2.1 k)) else nfS σ.2.1 k) := by unfold aFlip; rw [if_pos hs, if_pos ⟨by omega, by omega⟩]
  rw [← ea]
  refine W.act (f := fun I => fX10_flip fu sh I R (AD 0) (iz (k : Int))) (vst_flip W.1.V k) ?_ (fun AD' P gg O => ?_)
  · unfold sFlip
    rw [if_pos hs]
    split
    · split
      · exact hs
      · exact hs
    · exact hs
  · have e := ca_flip (P := P) (R := R) O W.1.V hfu (show IR (k : Int) from IRn (by omega))
    rw [gg 0 (by decide) (by decide)] at e
    exact e
theorem l_flips (W : WLX K σ σ.2.1 AD A cap S sh I R) (hfu : 5000 ≤ fu) (hk : S[k]? = some q)
    (hP : ∀ sh' I' R' σ', WLX K σ' σ'.2.1 AD A cap S sh' I' R' → KP sh I sh' I' → P 1 sh' I' R') : wL_flips K J fu sh I R (AD 0) (A 0) q (iz (k : Int)) (qwI P) := by
  have B := W.2.2.1
  have V := W.2.2.2.2.2.1
  have n4 := V.n
  have h0 : σ.1 = true := W.2.1
  obtain ⟨k0, k1, hq⟩ := B.kk hk
  obtain ⟨v1, v2, v3, v4, v5, v6, v7, v8⟩ := V.shot k0 k1
  obtain ⟨w1, w2⟩ := V.sub k0 k1
  obtain ⟨e0, e1, e2, e3, e4, e5⟩ := B.2.2.2.2.2 k q hk
  have fl : ∀ {z : Int}, nfS σ.2.1 k = z → ¬ z = 0 → ∃ I2, fX10_flip fu sh I R (AD 0) (iz (k : Int)) = some (cOut (.inl z), I2) ∧ WLX K σ σ.2.1 AD A cap S sh I2 R ∧ ∀ b, FGN AD b → I2 b = I b := by
    intro z hz hz0
    obtain ⟨I2, g1, g2, g3⟩ := W.flip (fu := fu) hfu h0 k1 n4.2
    have es : sFlip σ k = σ := by unfold sFlip; rw [if_pos h0, if_pos ⟨by omega, by omega⟩, if_neg (by rw [hz]; exact hz0)]
    rw [es] at g2
    rw [hz, if_neg hz0] at g1
    exact ⟨I2, g1, g2, g3⟩
  unfold wL_flips
  refine wB_of (oA2_n hq 4 (by decide) il4) ?_
  rw [e4]
  by_cases hp : paS σ.2.1 k = -1
  · rw [hp, if_neg (by rw [ile il0 rfl ⟨by decide, by decide⟩ ⟨by decide, by decide⟩]; decide)]
    obtain ⟨I2, g1, g2, g3⟩ := fl (z := -2) (by unfold nfS; rw [if_pos hp]) (by decide)
    refine ⟨⟨by decide, by decide⟩, wB_que2 g1 (fun r9 hr9 => ?_)⟩
    rw [hr9, if_pos (show iz (-2) = -2 from rfl)]
    unfold wL_flips_b21
    exact ⟨⟨by decide, by decide⟩, Or.inr rfl, _, rfl, hP sh I2 R σ g2 (KP.fg W.1.1 g3)⟩
  · have p := V.par k0 k1 hp
    have p6 : inS σ.2.1 (scS σ.2.1 k) (paS σ.2.1 k) = true := by
      rcases v6 with h | ⟨-, h, -⟩
      · exact absurd h hp
      · exact h
    rw [if_pos (by rw [ile il0 rfl ⟨by decide, by decide⟩ ⟨by omega, by omega⟩]; exact p.1.1)]
    refine wB_of (oA2_n hq 3 (by decide) il3) ?_
    rw [e3]
    refine ⟨B.r, ⟨by decide, by decide⟩, l_axS B V hk v4.1 v4.2 v5 ?_⟩
    refine wB_of (oA2_n hq 4 (by decide) il4) ?_
    rw [e4]
    refine ⟨B.r, ⟨by decide, by decide⟩, l_axS B V hk p.1.1 p.1.2 p6 ?_⟩
    refine wB_of (oA2_n hq 1 (by decide) il1) ?_
    refine wB_of (oA2_n hq 3 (by decide) il3) ?_
    rw [e1, e3]
    refine ⟨B.r, ⟨by decide, by decide⟩, l_ayS B V hk v4.1 v4.2 v5 ?_⟩
    refine wB_of (oA2_n hq 4 (by decide) il4) ?_
    rw [e4]
    refine ⟨B.r, ⟨by decide, by decide⟩, l_ayS B V hk p.1.1 p.1.2 p6 ?_⟩
    refine wB_of (oA2_n hq 2 (by decide) il2) ?_
    rw [e2]
    simp only [iz_add, iz_sub]
    have ex : axS σ.2.1 (scS σ.2.1 k) (suS σ.2.1 k) + axS σ.2.1 (scS σ.2.1 k) (paS σ.2.1 k) - cxS σ.2.1 k = fxS σ.2.1 k := rfl
    have ey : ayS σ.2.1 (scS σ.2.1 k) (suS σ.2.1 k) + ayS σ.2.1 (scS σ.2.1 k) (paS σ.2.1 k) - cyS σ.2.1 k = fyS σ.2.1 k := rfl
    rw [ex, ey]
    have rx : -199 ≤ fxS σ.2.1 k ∧ fxS σ.2.1 k ≤ 398 := by unfold fxS; omega
    have ry : -199 ≤ fyS σ.2.1 k ∧ fyS σ.2.1 k ≤ 398 := by unfold fyS; omega
    have out : ¬ ((0 ≤ fxS σ.2.1 k ∧ fxS σ.2.1 k ≤ 199) ∧ (0 ≤ fyS σ.2.1 k ∧ fyS σ.2.1 k ≤ 199)) → wL_flips_b94 K J fu (qwI P) sh I R 0 0 (AD 0) (iz (k : Int)) := by
      intro ho
      obtain ⟨I2, g1, g2, g3⟩ := fl (z := -3) (by unfold nfS; rw [if_neg hp, if_neg ho]) (by decide)
      unfold wL_flips_b94
      refine ⟨⟨by decide, by decide⟩, wB_que2 g1 (fun r9 hr9 => ?_)⟩
      rw [hr9, if_pos (show iz (-3) = -3 from rfl)]
      unfold wL_flips_b109
      exact ⟨⟨by decide, by decide⟩, Or.inr rfl, _, rfl, hP sh I2 R σ g2 (KP.fg W.1.1 g3)⟩
    have l199 : (199 : Int32) = iz 199 := il199
    by_cases a1 : fxS σ.2.1 k < 0
    · rw [if_pos (by rw [ilt rfl il0 ⟨by omega, by omega⟩ ⟨by decide, by decide⟩]; exact a1)]
      exact out (by omega)
    · rw [if_neg (by rw [ilt rfl il0 ⟨by omega, by omega⟩ ⟨by decide, by decide⟩]; exact a1)]
      by_cases a2 : 199 < fxS σ.2.1 k
      · rw [if_pos (by rw [ilt l199 rfl ⟨by decide, by decide⟩ ⟨by omega, by omega⟩]; exact a2)]
        exact out (by omega)
      · rw [if_neg (by rw [ilt l199 rfl ⟨by decide, by decide⟩ ⟨by omega, by omega⟩]; exact a2)]
        by_cases a3 : fyS σ.2.1 k < 0
        · rw [if_pos (by rw [ilt rfl il0 ⟨by omega, by omega⟩ ⟨by decide, by decide⟩]; exact a3)]
          exact out (by omega)
        · rw [if_neg (by rw [ilt rfl il0 ⟨by omega, by omega⟩ ⟨by decide, by decide⟩]; exact a3)]
          by_cases a4 : fyS σ.2.1 k ≤ 199
          · rw [if_pos (by rw [ile rfl l199 ⟨by omega, by omega⟩ ⟨by decide, by decide⟩]; exact a4)]
            have inr : (0 ≤ fxS σ.2.1 k ∧ fxS σ.2.1 k ≤ 199) ∧ (0 ≤ fyS σ.2.1 k ∧ fyS σ.2.1 k ≤ 199) := by omega
            have z1 : (0 : Int) ≤ axS σ.2.1 (scS σ.2.1 k) (suS σ.2.1 k) ∧ axS σ.2.1 (scS σ.2.1 k) (suS σ.2.1 k) ≤ 199 := w1
            have z2 : (0 : Int) ≤ ayS σ.2.1 (scS σ.2.1 k) (suS σ.2.1 k) ∧ ayS σ.2.1 (scS σ.2.1 k) (suS σ.2.1 k) ≤ 199 := w2
            have go : ¬ (sxS σ.2.1 k = fxS σ.2.1 k ∧ syS σ.2.1 k = fyS σ.2.1 k) → wL_flips_b152 K J fu (qwI P) sh I R 0 0 (AD 0) (A 0) q (iz (k : Int)) (iz (fxS σ.2.1 k)) (iz (fyS σ.2.1 k)) := by
              intro hne
              have hnf : nfS σ.2.1 k = 0 := by unfold nfS; rw [if_neg hp, if_pos inr, if_neg hne]
              have Vb := mv_V V k0 k1 inr.1.1 inr.1.2 inr.2.1 inr.2.2 hne
              unfold wL_flips_b152
              refine wB_of (oS_n hq 1 (by decide) il1) ?_
              refine wB_of (oS_n hq 2 (by decide) il2) ?_
              obtain ⟨W1, kp1⟩ := W.cam hk Vb
              generalize u2 (u2 I q 1 (iz (fxS σ.2.1 k))) q 2 (iz (fyS σ.2.1 k)) = I1 at *
              obtain ⟨I2, g1, W2, f2⟩ := W1.flip (fu := fu) hfu h0 k1 n4.2
              rw [hnf, if_pos rfl] at g1
              refine ⟨⟨by decide, by decide⟩, wB_que2 g1 (fun r9 hr9 => ?_)⟩
              rw [hr9]
              refine ⟨W2.2.2.1.r, ⟨by decide, by decide⟩, l_faults W2.2.2.1 Vb hfu ?_⟩
              rw [if_pos rfl]
              unfold wL_flips_b179
              refine ⟨⟨by decide, by decide⟩, Or.inr rfl, _, rfl, ?_⟩
              have er : mvS σ.2.1 k (fxS σ.2.1 k) (fyS σ.2.1 k) = (sFlip σ k).2.1 := by unfold sFlip; rw [if_pos h0, if_pos ⟨by omega, by omega⟩, if_pos hnf]; rfl
              rw [er] at W2
              exact hP sh I2 R _ W2 (kp1.tr (KP.fg W1.1.1 f2))
            refine wB_of (oA2_n hq 3 (by decide) il3) ?_
            rw [e3]
            refine ⟨B.r, ⟨by decide, by decide⟩, l_axS B V hk v4.1 v4.2 v5 ?_⟩
            by_cases b1 : axS σ.2.1 (scS σ.2.1 k) (suS σ.2.1 k) = fxS σ.2.1 k
            · rw [if_pos (by rw [b1])]
              refine wB_of (oA2_n hq 3 (by decide) il3) ?_
              rw [e3]
              refine ⟨B.r, ⟨by decide, by decide⟩, l_ayS B V hk v4.1 v4.2 v5 ?_⟩
              by_cases b2 : ayS σ.2.1 (scS σ.2.1 k) (suS σ.2.1 k) = fyS σ.2.1 k
              · rw [if_pos (by rw [b2])]
                obtain ⟨I2, g1, g2, g3⟩ := fl (z := -4) (by unfold nfS; rw [if_neg hp, if_pos inr, if_pos ⟨b1, b2⟩]) (by decide)
                refine ⟨⟨by decide, by decide⟩, wB_que2 g1 (fun r9 hr9 => ?_)⟩
                rw [hr9, if_pos (show iz (-4) = -4 from rfl)]
                unfold wL_flips_b151
                exact ⟨⟨by decide, by decide⟩, Or.inr rfl, _, rfl, hP sh I2 R σ g2 (KP.fg W.1.1 g3)⟩
              · rw [if_neg (by rw [ieq rfl rfl ⟨by omega, by omega⟩ ⟨by omega, by omega⟩]; exact b2)]
                exact go (fun z => b2 z.2)
            · rw [if_neg (by rw [ieq rfl rfl ⟨by omega, by omega⟩ ⟨by omega, by omega⟩]; exact b1)]
              exact go (fun z => b1 z.1)
          · rw [if_neg (by rw [ile rfl l199 ⟨by omega, by omega⟩ ⟨by decide, by decide⟩]; exact a4)]
            exact out (by omega)
end AC
