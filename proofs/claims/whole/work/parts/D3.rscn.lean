/-! STAGE 2: the reference reads a scene with all that it holds -/
section Q65
variable {fu : Nat} {sh : HS} {I I' : HI} {R : HR} {AD : Int → Nat} {f : Nat → Int} {n : Nat} {p q : PS} {ρ : RHO}
def scE (f : Nat → Int) (n : Nat) (q : PS) : PS := semP f n (tkP f n q 0 3)
theorem r_scn26 (S : OKS sh AD) (M : MR R AD) (hfu : 5000 ≤ fu) (C : RST I AD f n p) (D : RWD I AD ρ) (V : PV ρ) (h3 : p.er = 0 → ρ 3 < 3) (hq : q = advP f n (exW f p 21)) :
    ∃ J, fX11_readScene_b26 fu sh R I (AD 316) (iz (ρ 3)) = (if (scE f n q).er = 0 then ((fX11_readActor fu sh J R (AD 316) (iz (ρ 3))).bind fun w15 => (fX11_readScene_l92 fu sh R (fX11_readScene_l109 fu sh R fu) fu) w15 (AD 316) (iz (ρ 3))) else some J) ∧ RST J AD f n (scE f n q) ∧ RWD J AD (if (scE f n q).er = 0 then scnR ρ (nmP f q) else ρ) ∧ FRM AD I J := by
  have hm := V.1
  obtain ⟨J1, a1, b1, f1⟩ := r_exW S M hfu C (w := 21) (by decide)
  rw [← hq] at b1
  obtain ⟨v, J2, a2, b2, f2, g2⟩ := r_take S M hfu b1 (lo := 0) (hi := 3) (by decide) (by decide) (by decide) (by decide)
  have b2 : RST J2 AD f n (tkP f n q 0 3) := b2
  obtain ⟨J3, a3, b3, f3⟩ := r_semi S M hfu b2
  have b3 : RST J3 AD f n (scE f n q) := b3
  have F := (f1.tr f2).tr f3
  have D3 : RWD J3 AD ρ := D.rm F
  have h13 := b3.2.2.2.2.2.2.1
  have h4 := b3.2.2.2.2.2.2.2.1
  simp only [fX11_readScene_b26, iz_lit, a1, bsome, a2, oHs, a3, r_fine (fu := fu) (R := R) S h4 h13, bz_zero, oR_at S.md M.1.2.1]
  by_cases z : (scE f n q).er = 0
  · obtain ⟨y, -⟩ := semP_ok (p := tkP f n q 0 3) (tkP_wf b1.2.1 0 3) z
    obtain ⟨s1, s2, -, s4, s5⟩ := tkP_ok b1.2.1 y
    have e0 : p.er = 0 := by
      rw [hq, adv_er (exW_wf C.2.1 21).2.1] at s2
      unfold exW at s2
      split at s2
      · exact s2
      · exact absurd s2 (fal_er (by decide))
    have m3 := h3 e0
    rw [if_neg (by rw [decide_eq_true z]; decide), if_pos z, g2 s1]
    obtain ⟨x, hx⟩ : ∃ x, x = nmP f q := ⟨_, rfl⟩
    rw [← hx]
    have k8 := S318 S
    obtain ⟨K1, h1⟩ : ∃ J, J = _root_.Jvm.Pilot.@@N@@.u2 J3 (AD 318) (5 + 14 * ρ 3).toNat (iz x) := ⟨_, rfl⟩
    obtain ⟨K2, h2⟩ : ∃ J, J = _root_.Jvm.Pilot.@@N@@.u2 K1 (AD 318) (5 + 14 * ρ 3 + 1).toNat (iz 0) := ⟨_, rfl⟩
    obtain ⟨K3, h3'⟩ : ∃ J, J = _root_.Jvm.Pilot.@@N@@.u2 K2 (AD 318) (3 : Int).toNat (iz (ρ 3 + 1)) := ⟨_, rfl⟩
    have G : FR AD J3 K3 (fun i _ => i = 318) := by rw [h3', h2, h1]; exact FR.u2 S (by decide) (by decide) rfl (FR.u2 S (by decide) (by decide) rfl (FR.u2 S (by decide) (by decide) rfl (FR.rf AD J3 _)))
    have D2 : RWD K2 AD (up1 (up1 ρ (5 + 14 * ρ 3) x) (5 + 14 * ρ 3 + 1) 0) := by
      rw [h2, h1]
      exact RWD.w1 S (RWD.w1 S D3 (by omega) _) (by omega) _
    have r3 : oA sh K2 (AD 318) (iz 3) = some (iz (ρ 3)) := by rw [D2.rd S (by decide) (by decide), up1_ne (by omega), up1_ne (by omega)]
    refine ⟨K3, ?_, b3.fr G (fun _ => by omega) (fun _ => by omega), ?_, FR.tr (F.wd fun i k w => Or.inl w) (G.wd fun i k w => Or.inr w)⟩
    · rw [if_pos z]
      simp only [iz_mul, iz_add]
      rw [oS_iz k8 (by omega) (by omega) (by omega), bsome, ← h1, oS_iz k8 (by omega) (by omega) (by omega), bsome, ← h2, r3, bsome, iz_add, oS_iz k8 (by omega) (by omega) (by omega), bsome, ← h3']
    · rw [h3']
      exact RWD.w1 S D2 (by decide) _
  · rw [if_pos (decide_eq_false z), if_neg z]
    exact ⟨J3, (if_neg z).symm, b3, D3, F.wd fun i k w => Or.inl w⟩
def OC (f : Nat → Int) (p : PS) (ρ : RHO) : Prop := canS ρ = true ∧ ¬ wdP f p 24 = true ∧ (wdP f p 12 = true → 0 < nsS ρ (ρ 3 - 1) (ρ 4).toNat)
/-- from the first actor on -/
theorem r_scnT (S : OKS sh AD) (M : MR R AD) (hfu : 5000 ≤ fu) (C : RST I AD f n p) (D : RWD I AD ρ) (V : PV ρ) {c : Int} (c0 : 0 ≤ c) (hc : c = ρ 3 - 1) (he : p.er = 0) (hk : canS ρ = false) (hb : ∀ s, 0 ≤ s → s < ρ 4 → scS ρ s < c) :
    ∃ (I' : HI) (q : PS) (τ : RHO), ((fX11_readActor fu sh I R (AD 316) (iz c)).bind fun w15 => (fX11_readScene_l92 fu sh R (fX11_readScene_l109 fu sh R fu) fu) w15 (AD 316) (iz c)) = some I' ∧ RST I' AD f n q ∧ RWD I' AD τ ∧ PV τ ∧ Rch f n (p, ρ) (q, τ) ∧ (q.er = 0 → OC f q τ ∧ p.st ≤ q.st) ∧ FRM AD I I' := by
  have W := C.2.1
  have hm := V.1
  have h8 := C.1.1
  have loops : ∀ {J : HI} {r : PS} {τ : RHO}, RST J AD f n r → RWD J AD τ → PV τ → c = τ 3 - 1 → (r.er = 0 → canS τ = true ∧ (∀ s, 0 ≤ s → s < τ 4 → scS τ s < c) ∧ p.st ≤ r.st) → Rch f n (p, ρ) (r, τ) → FRM AD I J →
      ∃ (I' : HI) (q : PS) (τ : RHO), (fX11_readScene_l92 fu sh R (fX11_readScene_l109 fu sh R fu) fu) J (AD 316) (iz c) = some I' ∧ RST I' AD f n q ∧ RWD I' AD τ ∧ PV τ ∧ Rch f n (p, ρ) (q, τ) ∧ (q.er = 0 → OC f q τ ∧ p.st ≤ q.st) ∧ FRM AD I I' := by
    intro J r τ E G U e1 e2 e3 e4
    obtain ⟨J2, r2, τ2, x1, x2, x3, x4, x5, x6, x7, x8⟩ := r_aloop S M hfu (fX11_readScene_l109 fu sh R fu) c0 (n + 1) fu (by omega) J r τ E G U e1 (fun _ => by omega) (fun w => ⟨(e2 w).1, (e2 w).2.1⟩)
    obtain ⟨J3, r3, τ3, y1, y2, y3, y4, y5, y6, y7, y8⟩ := r_sloop S M hfu c0 (n + 1) fu (by omega) J2 r2 τ2 x2 x3 x4 x5 (fun _ => by omega) (fun w => ⟨(x7 w).1, fun k => absurd k (x7 w).2.1⟩)
    refine ⟨J3, r3, τ3, x1.trans y1, y2, y3, y4, (e3.tr x6).tr y6, fun w => ?_, FR.tr (FR.tr e4 x8) y8⟩
    obtain ⟨k1, k2, k3, k4⟩ := y7 w
    have w2 : r2.er = 0 := Classical.byContradiction fun k => by
      have e9 := y6.dd k
      rw [e9] at w
      exact k w
    have w1 : r.er = 0 := Classical.byContradiction fun k => by
      have e9 := x6.dd k
      rw [e9] at w2
      exact k w2
    have m1 := (x7 w2).2.2
    have m0 := (e2 w1).2.2
    exact ⟨⟨k1, k2, by rw [← y5]; exact k3⟩, by omega⟩
  by_cases z : wdP f p 12 = true
  · have tk := wd_tk z
    obtain ⟨J, a, b, e, g⟩ := r_actW S M hfu C D V c0 (show c < ρ 3 by omega) z
    obtain ⟨v1, v2, v3, v4⟩ := act_step W V hc c0 hb
    have es : dspD f n (p, ρ) = (act5 f n p ρ c, actX f n p ρ c) := by
      rw [dsp_stm he tk]
      have e1 : stmD f n (p, ρ) = actD f n (p, ρ) := (if_neg (wd_12 z)).trans (if_pos z)
      rw [e1]
      have ns := ns_zero (ρ := ρ) (c := c) (ρ 4).toNat (fun s a b => hb s a (by omega))
      have e2 : actD f n (p, ρ) = (act5 f n p ρ (ρ 3 - 1), actX f n p ρ (ρ 3 - 1)) := if_pos ⟨show 1 ≤ ρ 3 by omega, show nsS ρ (ρ 3 - 1) (ρ 4).toNat ≤ 0 by rw [← hc, ns]; exact Int.le_refl 0⟩
      rw [e2, ← hc]
    have st : p.st ≤ (act5 f n p ρ c).st := by
      have h1 := act_st W ρ c
      have h2 : p.st ≤ (scn1 f n p).st := (adv_st W).1
      omega
    rw [a, bsome]
    have rc : Rch f n (p, ρ) (act5 f n p ρ c, actX f n p ρ c) := by rw [← es]; exact Rch.one _
    exact loops b e v1 (by omega) (fun w => ⟨v3 w, v4, st⟩) rc g
  · obtain ⟨J, a, b, e, g⟩ := r_act S M hfu C D V c0 (show c < ρ 3 by omega) (q := advP f n (exW f p 12)) rfl
    have e1 : exW f p 12 = falP p 1 := if_neg z
    have d1 : ¬ (falP p 1).er = 0 := fal_er (by decide)
    have e2 : advP f n (exW f p 12) = falP p 1 := by rw [e1, adv_ne d1]
    rw [e2, actE_ne d1] at b e
    rw [if_neg d1] at e
    have es : dspD f n (p, ρ) = (falP p 1, ρ) := by
      by_cases t : p.tk = 0
      · exact (if_pos he).trans ((if_pos t).trans (if_neg (show ¬ canS ρ = true by rw [hk]; decide)))
      · rw [dsp_stm he t]
        by_cases y : wdP f p 21 = true
        · have e3 : stmD f n (p, ρ) = (scn3 f n (scnQ p ρ), scnX f n (scnQ p ρ) ρ) := if_pos y
          have e4 : scnQ p ρ = falP p 1 := by
            have un : scnQ p ρ = if ρ 3 < 3 then (if 0 < ρ 3 ∧ canS ρ = false then falP p 1 else p) else falP (if 0 < ρ 3 ∧ canS ρ = false then falP p 1 else p) 4 := rfl
            rw [un, if_pos (show 0 < ρ 3 ∧ canS ρ = false from ⟨by omega, hk⟩), fal_ne d1]
            split <;> rfl
          have e5 : scnX f n (falP p 1) ρ = ρ := by
            unfold scnX
            rw [scn3_ne d1, if_neg d1]
          rw [e3, e4, scn3_ne d1, e5]
        · by_cases x : wdP f p 24 = true
          · have e3 : stmD f n (p, ρ) = shtD f n (p, ρ) := (if_neg y).trans ((if_neg z).trans (if_pos x))
            rw [e3]
            exact if_pos hk
          · exact (if_neg y).trans ((if_neg z).trans (if_neg x))
    rw [a, bsome]
    have rc : Rch f n (p, ρ) (falP p 1, ρ) := by rw [← es]; exact Rch.one _
    exact loops b e V hc (fun w => absurd w d1) rc g
theorem r_scene (S : OKS sh AD) (M : MR R AD) (hfu : 5000 ≤ fu) (C : RST I AD f n p) (D : RWD I AD ρ) (V : PV ρ) (oc : p.er = 0 → ρ 3 = 0 ∨ (¬ p.tk = 0 ∧ OC f p ρ)) :
    ∃ (I' : HI) (q : PS) (τ : RHO), fX11_readScene fu sh I R (AD 316) = some I' ∧ RST I' AD f n q ∧ RWD I' AD τ ∧ PV τ ∧ Rch f n (p, ρ) (q, τ) ∧ (q.er = 0 → OC f q τ ∧ p.st < q.st) ∧ FRM AD I I' := by
  have W := C.2.1
  have hm := V.1
  have can0 : ρ 3 = 0 → canS ρ = false := fun h => decide_eq_false (fun q => by omega)
  have e3 : oA sh I (AD 318) (iz 3) = some (iz (ρ 3)) := D.rd S (by decide) (by decide)
  simp only [fX11_readScene, if_pos (isT_of S.md), oR_at S.md M.1.2.1, bsome, iz_lit, e3, r_kwd S M hfu C (show 21 < 28 by decide), bz_zero]
  by_cases z : p.er = 0 ∧ wdP f p 21 = true
  · have tk := wd_tk z.2
    rw [decide_eq_true z.1, z.2, if_neg (by decide)]
    obtain ⟨Q, hQ⟩ : ∃ Q, Q = scnQ p ρ := ⟨_, rfl⟩
    have un : scnQ p ρ = if ρ 3 < 3 then p else falP p 4 := by
      have un : scnQ p ρ = if ρ 3 < 3 then (if 0 < ρ 3 ∧ canS ρ = false then falP p 1 else p) else falP (if 0 < ρ 3 ∧ canS ρ = false then falP p 1 else p) 4 := rfl
      have no : ¬ (0 < ρ 3 ∧ canS ρ = false) := by
        intro q
        rcases oc z.1 with h | ⟨-, h, -⟩
        · omega
        · rw [h] at q
          exact absurd q.2 (by decide)
      rw [un, if_neg no]
    have es : dspD f n (p, ρ) = (scn3 f n Q, scnX f n Q ρ) := by
      rw [dsp_stm z.1 tk, hQ]
      exact if_pos z.2
    have wq : wdP f Q 21 = true := by
      rw [hQ, un]
      split
      · exact z.2
      · have h := z.2
        unfold wdP at h ⊢
        unfold falP
        split
        · exact h
        · exact h
    have ex : exW f Q 21 = Q := if_pos wq
    have main : ∀ {J : HI}, RST J AD f n Q → FR AD I J RDM → ∃ (I' : HI) (q : PS) (τ : RHO), fX11_readScene_b26 fu sh R J (AD 316) (iz (ρ 3)) = some I' ∧ RST I' AD f n q ∧ RWD I' AD τ ∧ PV τ ∧ Rch f n (p, ρ) (q, τ) ∧ (q.er = 0 → OC f q τ ∧ p.st < q.st) ∧ FRM AD I I' := by
      intro J E G
      have Q3 : Q.er = 0 → ρ 3 < 3 := fun w => by rw [hQ] at w; exact (scnQ_ok w).2.1
      obtain ⟨K, a, b, e, g⟩ := r_scn26 S M hfu E (D.rm G) V Q3 (q := scn1 f n Q) (by rw [ex]; rfl)
      have eE : scE f n (scn1 f n Q) = scn3 f n Q := rfl
      rw [eE] at a b e
      have eX : (if (scn3 f n Q).er = 0 then scnR ρ (nmP f (scn1 f n Q)) else ρ) = scnX f n Q ρ := rfl
      rw [eX] at e
      rw [a]
      have rc : Rch f n (p, ρ) (scn3 f n Q, scnX f n Q ρ) := by rw [← es]; exact Rch.one _
      have F : FRM AD I K := FR.tr (G.wd fun i k w => Or.inl w) g
      by_cases y : (scn3 f n Q).er = 0
      · have WQ : WfP f n Q := E.2.1
        obtain ⟨g1, g2, g3, g4⟩ := scn_ok WQ y
        have qe : Q = p := by rw [hQ]; rw [hQ] at g1; exact (scnQ_ok g1).1
        have m3 := Q3 g1
        obtain ⟨X, hX⟩ : ∃ X, X = scnX f n Q ρ := ⟨_, rfl⟩
        have X2 : X = scnR ρ (nmP f (scn1 f n Q)) := by rw [hX]; exact if_pos y
        obtain ⟨n1, n2, n3⟩ := scn_new (ρ := ρ) (nmP f (scn1 f n Q)) hm.1
        rw [← X2] at n1 n2 n3
        have VX : PV X := by
          rw [X2]
          refine V.scn m3 (fun w => ?_) g3 g4
          rcases oc z.1 with h | ⟨-, h, -⟩
          · omega
          · exact (can_ok h).2
        have X4 : X 4 = ρ 4 := by rw [X2]; exact scn_old (by omega) (by omega) (by omega)
        have bf : ∀ s, 0 ≤ s → s < X 4 → scS X s < ρ 3 := by
          intro s s0 s1
          have g : scS X s = scS ρ s := by rw [X2]; exact scn_g _ m3 s0 (Int.le_refl 0)
          rw [g]
          exact (V.2.2.2.1 s s0 (by omega)).1.2
        have nk : canS X = false := by
          refine decide_eq_false fun w => ?_
          have w2 := w.2
          rw [n1, show ρ 3 + 1 - 1 = ρ 3 by omega, n3] at w2
          omega
        have st : p.st < (scn3 f n Q).st := by
          have h1 := scn_st WQ
          have h2 : Q.en ≤ (scn1 f n Q).st := (adv_st WQ).2 g1
          have h3 := W.2.2.2.1 tk
          rw [qe] at h1 h2 ⊢
          omega
        rw [if_pos y]
        rw [← hX] at e rc
        obtain ⟨K2, q, τ, x1, x2, x3, x4, x5, x6, x7⟩ := r_scnT S M hfu b e VX hm.1 (by omega) y nk bf
        exact ⟨K2, q, τ, x1, x2, x3, x4, rc.tr x5, fun w => ⟨(x6 w).1, by have := (x6 w).2; omega⟩, FR.tr F x7⟩
      · rw [if_neg y]
        have e0 : scnX f n Q ρ = ρ := if_neg y
        rw [e0] at e rc
        exact ⟨K, scn3 f n Q, ρ, rfl, b, e, V, rc, fun w => absurd w y, F⟩
    by_cases y : ρ 3 = 3
    · obtain ⟨J, a, b, g⟩ := r_failP (fu := fu) (R := R) S C (e := 4) (by decide) (by decide)
      have a' : fX11_fail fu sh I R (AD 316) (iz 4) = some J := a
      have qe : Q = falP p 4 := by rw [hQ, un, if_neg (by omega)]
      rw [if_pos (by rw [y]), a', bsome]
      exact main (by rw [qe]; exact b) g
    · have qe : Q = p := by rw [hQ, un, if_pos (by omega)]
      rw [if_neg (by rw [iz_eq (by omega) (by omega) (by decide) (by decide)]; exact y)]
      exact main (by rw [qe]; exact C) (FR.rf _ _ _)
  · rw [if_pos (by rw [← Bool.not_eq_true, Bool.and_eq_true, decide_eq_true_eq]; exact z)]
    have ex : advP f n (exW f p 21) = falP p 1 ∧ ¬ (falP p 1).er = 0 := by
      have d : ¬ (falP p 1).er = 0 := fal_er (by decide)
      have e : exW f p 21 = falP p 1 := by
        unfold exW
        by_cases y : wdP f p 21 = true
        · rw [if_pos y, fal_ne (fun w => z ⟨w, y⟩)]
        · rw [if_neg y]
      exact ⟨by rw [e, adv_ne d], d⟩
    have sE : scE f n (falP p 1) = falP p 1 := by
      unfold scE
      rw [tkP_ne ex.2, semP_ne ex.2]
    have go : ∃ J, fX11_readScene_b26 fu sh R I (AD 316) (iz (ρ 3)) = some J ∧ RST J AD f n (falP p 1) ∧ RWD J AD ρ ∧ FRM AD I J := by
      by_cases m : ρ 3 < 3
      · obtain ⟨K, a, b, e, g⟩ := r_scn26 S M hfu C D V (fun _ => m) (q := falP p 1) ex.1.symm
        rw [sE] at a b e
        rw [if_neg ex.2] at a e
        exact ⟨K, a, b, e, g⟩
      · have hm3 : ρ 3 = 3 := by omega
        obtain ⟨J1, a1, b1, f1⟩ := r_exW S M hfu C (w := 21) (by decide)
        rw [ex.1] at b1
        obtain ⟨v, J2, a2, b2, f2, g2⟩ := r_take S M hfu b1 (lo := 0) (hi := 3) (by decide) (by decide) (by decide) (by decide)
        rw [okN_ne ex.2, adv_ne ex.2] at b2
        obtain ⟨J3, a3, b3, f3⟩ := r_semi S M hfu b2
        rw [okS_ne ex.2, adv_ne ex.2] at b3
        have F := (f1.tr f2).tr f3
        refine ⟨J3, ?_, b3, D.rm F, F.wd fun i k w => Or.inl w⟩
        simp only [fX11_readScene_b26, iz_lit, a1, bsome, a2, oHs, a3, r_fine (fu := fu) (R := R) S b3.2.2.2.2.2.2.2.1 b3.2.2.2.2.2.2.1, bz_zero]
        rw [if_pos (decide_eq_false ex.2)]
    obtain ⟨K, a, b, e, g⟩ := go
    have rc : Rch f n (p, ρ) (falP p 1, ρ) := by
      by_cases w : p.er = 0
      · have es : dspD f n (p, ρ) = (falP p 1, ρ) := by
          have y : ¬ wdP f p 21 = true := fun q => z ⟨w, q⟩
          by_cases t : p.tk = 0
          · have k : ρ 3 = 0 := by
              rcases oc w with h | ⟨h, -⟩
              · exact h
              · exact absurd t h
            exact (if_pos w).trans ((if_pos t).trans (if_neg (show ¬ canS ρ = true by rw [can0 k]; decide)))
          · rw [dsp_stm w t]
            by_cases x : wdP f p 12 = true
            · have e1 : stmD f n (p, ρ) = actD f n (p, ρ) := (if_neg y).trans (if_pos x)
              rw [e1]
              refine if_neg fun q => ?_
              have q1 : 1 ≤ ρ 3 := q.1
              have q2 : nsS ρ (ρ 3 - 1) (ρ 4).toNat ≤ 0 := q.2
              rcases oc w with h | ⟨-, -, -, h⟩
              · omega
              · have := h x
                omega
            · by_cases x2 : wdP f p 24 = true
              · have e1 : stmD f n (p, ρ) = shtD f n (p, ρ) := (if_neg y).trans ((if_neg x).trans (if_pos x2))
                rw [e1]
                rcases oc w with h | ⟨-, -, h, -⟩
                · exact if_pos (can0 h)
                · exact absurd x2 h
              · exact (if_neg y).trans ((if_neg x).trans (if_neg x2))
        rw [← es]
        exact Rch.one _
      · rw [fal_ne w]
        exact Rch.rf _
    rw [a]
    exact ⟨K, falP p 1, ρ, rfl, b, e, V, rc, fun w => absurd w ex.2, g⟩
end Q65
