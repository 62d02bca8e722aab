/-! STAGE 2: what one actor, one shot more makes of a board half read -/
theorem tkP_ne {f : Nat → Int} {n : Nat} {p : PS} {lo hi : Int} (h : ¬ p.er = 0) : tkP f n p lo hi = p := by
  unfold tkP
  rw [okN_ne h, adv_ne h]
theorem semP_ne {f : Nat → Int} {n : Nat} {p : PS} (h : ¬ p.er = 0) : semP f n p = p := by
  unfold semP
  rw [okS_ne h, adv_ne h]
theorem actE_ne {f : Nat → Int} {n : Nat} {p : PS} {ρ : RHO} {c : Int} (h : ¬ p.er = 0) : actE f n p ρ c = p := by
  unfold actE
  rw [anP_er h, adv_ne h, tkP_ne h, tkP_ne h, semP_ne h]
theorem scn3_ne {f : Nat → Int} {n : Nat} {p : PS} (h : ¬ p.er = 0) : scn3 f n p = p := by
  unfold scn3 scn2 scn1
  rw [adv_ne h, tkP_ne h, semP_ne h]
theorem sht7_ne {f : Nat → Int} {n : Nat} {p : PS} {ρ : RHO} {c : Int} (h : ¬ p.er = 0) : sht7 f n p ρ c = p := by
  have e1 : scn1 f n p = p := adv_ne h
  have e2 : sht2 f n p = p := by unfold sht2; rw [e1, tkP_ne h]
  have e3 : sht3 f n p = p := by unfold sht3; rw [e2, tkP_ne h]
  have e4 : sht4 f n p ρ c = p := by unfold sht4; rw [e3, suP_ne h, adv_ne h]
  have e5 : sht5 f n p ρ c = p := by unfold sht5; rw [e4, prP_ne h, adv_ne h]
  have e6 : sht6 f n p ρ c = p := by unfold sht6; rw [e5, tkP_ne h]
  unfold sht7
  rw [e6, semP_ne h]
theorem Rch.dd {f : Nat → Int} {n : Nat} {p q : PS} {ρ τ : RHO} (h : Rch f n (p, ρ) (q, τ)) (y : ¬ p.er = 0) : q = p := by
  obtain ⟨k, hk⟩ := h
  have F : FIN (p, ρ) := Or.inl y
  rw [F.it k] at hk
  exact congrArg Prod.fst hk
theorem wd_K : ((cod 21).length = 5 ∧ (cod 12).length = 5 ∧ (cod 24).length = 4) ∧ ¬ (cod 21).getD 0 0 = (cod 12).getD 0 0 := by decide +kernel
theorem wd_12 {f : Nat → Int} {p : PS} (h : wdP f p 12 = true) : ¬ wdP f p 21 = true := fun q => by
  obtain ⟨-, b⟩ := wdP_two q h
  have k := wd_K
  exact k.2 (b 0 (by omega))
theorem wd_24 {f : Nat → Int} {p : PS} (h : wdP f p 24 = true) : ¬ wdP f p 21 = true ∧ ¬ wdP f p 12 = true := by
  have k := wd_K
  refine ⟨fun q => ?_, fun q => ?_⟩
  · have := (wdP_two q h).1
    omega
  · have := (wdP_two q h).1
    omega
theorem dsp_stm {f : Nat → Int} {n : Nat} {p : PS} {ρ : RHO} (h : p.er = 0) (t : ¬ p.tk = 0) : dspD f n (p, ρ) = stmD f n (p, ρ) := (if_pos h).trans (if_neg t)
theorem wd_tk {f : Nat → Int} {p : PS} {w : Nat} (h : wdP f p w = true) : ¬ p.tk = 0 := by
  rw [wdP_tk h]
  decide
theorem ns_zero {ρ : RHO} {c : Int} : ∀ k : Nat, (∀ s : Int, 0 ≤ s → s < k → scS ρ s < c) → nsS ρ c k = 0 := by
  intro k
  induction k with
  | zero => exact fun _ => rfl
  | succ k ih =>
    intro h
    have un : nsS ρ c (k + 1) = nsS ρ c k + (if scS ρ k = c then 1 else 0) := rfl
    have := h k (by omega) (by omega)
    rw [un, ih (fun s a b => h s a (by omega)), if_neg (by omega)]
    rfl
theorem act_step {f : Nat → Int} {n : Nat} {p : PS} {ρ : RHO} {c : Int} (W : WfP f n p) (V : PV ρ) (hc : c = ρ 3 - 1) (c0 : 0 ≤ c) (hb : ∀ s, 0 ≤ s → s < ρ 4 → scS ρ s < c) : PV (actX f n p ρ c) ∧ actX f n p ρ c 3 = ρ 3 ∧ ((act5 f n p ρ c).er = 0 → canS (actX f n p ρ c) = true) ∧ (∀ s, 0 ≤ s → s < actX f n p ρ c 4 → scS (actX f n p ρ c) s < c) := by
  have hm := V.1
  unfold actX
  by_cases x : (act5 f n p ρ c).er = 0
  · obtain ⟨-, g1, g2, g3⟩ := act_ok W x
    rw [if_pos x]
    obtain ⟨a, ha⟩ : ∃ a, a = nmP f (scn1 f n p) := ⟨_, rfl⟩
    obtain ⟨y, hy⟩ : ∃ a, a = nmP f (act2 f n p ρ c) := ⟨_, rfl⟩
    obtain ⟨z, hz⟩ : ∃ a, a = nmP f (act3 f n p ρ c) := ⟨_, rfl⟩
    rw [← ha, ← hy, ← hz]
    rw [← ha] at g1
    have e3 : actR ρ c a y z 3 = ρ 3 := act_old (by omega) (by omega) (by omega)
    have e4 : actR ρ c a y z 4 = ρ 4 := act_old (by omega) (by omega) (by omega)
    refine ⟨V.act hc c0 g1.2.2.1 (by omega) g1.1 (by rw [hy]; exact g2.2) (by rw [hz]; exact g3.2), e3, fun _ => ?_, fun s s0 s1 => ?_⟩
    · have n1 := (act_new (ρ := ρ) (c := c) y z g1.2.2.1 (show a < 6 by omega)).1
      refine decide_eq_true ⟨by omega, ?_⟩
      rw [e3, ← hc, n1]
      have hp : 0 < 2 ^ a.toNat := Nat.pow_pos (by decide)
      have : 2 ^ a.toNat ≤ (csS ρ c).toNat ||| 2 ^ a.toNat := Nat.right_le_or
      omega
    · have g : scS (actR ρ c a y z) s = scS ρ s := act_g y z c0 (by omega) g1.2.2.1 (by omega) s0 (Int.le_refl 0)
      rw [g]
      exact hb s s0 (by omega)
  · rw [if_neg x]
    exact ⟨V, rfl, fun h => absurd h x, hb⟩
theorem sht_step {f : Nat → Int} {n : Nat} {p : PS} {ρ : RHO} {c : Int} (W : WfP f n p) (V : PV ρ) (hc : c = ρ 3 - 1) (c0 : 0 ≤ c) (can : canS ρ = true) (hn4 : p.er = 0 → ρ 4 < 12) : PV (shtX f n p ρ c) ∧ shtX f n p ρ c 3 = ρ 3 ∧ ((sht7 f n p ρ c).er = 0 → canS (shtX f n p ρ c) = true ∧ 0 < nsS (shtX f n p ρ c) c (shtX f n p ρ c 4).toNat) := by
  have hm := V.1
  have hn := V.2.1
  unfold shtX
  by_cases x : (sht7 f n p ρ c).er = 0
  · obtain ⟨r0, r1, r2, r3, r4, r5⟩ := sht_ok W x
    have n12 := hn4 r0
    rw [if_pos x]
    have V2 := V.sht hc c0 n12 r1.2 r2.2 r3.2.1 r3.2.2.1 r3.2.2.2 r4.2 r5.2
    obtain ⟨n0, n1, -⟩ := sht_new (ρ := ρ) c (nmP f (scn1 f n p)) (nmP f (sht2 f n p)) (nmP f (sht3 f n p)) (paP f (sht4 f n p ρ c)) (nmP f (sht5 f n p ρ c)) hn.1
    have q := (sht_c (ρ := ρ) c (nmP f (scn1 f n p)) (nmP f (sht2 f n p)) (nmP f (sht3 f n p)) (paP f (sht4 f n p ρ c)) (nmP f (sht5 f n p ρ c)) hn.1 c0 (show c < 3 by omega)).2.1
    obtain ⟨T, hT⟩ : ∃ T, T = shtR ρ c (nmP f (scn1 f n p)) (nmP f (sht2 f n p)) (nmP f (sht3 f n p)) (paP f (sht4 f n p ρ c)) (nmP f (sht5 f n p ρ c)) := ⟨_, rfl⟩
    rw [← hT] at V2 n0 n1 q ⊢
    have e3 : T 3 = ρ 3 := by rw [hT]; exact sht_old (by omega) (by omega)
    refine ⟨V2, e3, fun _ => ⟨?_, ?_⟩⟩
    · refine decide_eq_true ⟨by omega, ?_⟩
      rw [e3, ← hc, q, hc]
      exact (can_ok can).2
    · have e : (T 4).toNat = (ρ 4).toNat + 1 := by omega
      have un : nsS T c ((ρ 4).toNat + 1) = nsS T c (ρ 4).toNat + (if scS T ((ρ 4).toNat : Int) = c then 1 else 0) := rfl
      have r := ns_range T c (ρ 4).toNat
      rw [e, un, if_pos (by rw [show ((ρ 4).toNat : Int) = ρ 4 by omega]; exact n1)]
      omega
  · rw [if_neg x]
    exact ⟨V, rfl, fun h => absurd h x⟩
section Q64
variable {fu : Nat} {sh : HS} {I I' : HI} {R : HR} {AD : Int → Nat} {f : Nat → Int} {n : Nat} {p q : PS} {ρ : RHO}
/-- an actor of the reference, where the word is read -/
theorem r_actW (S : OKS sh AD) (M : MR R AD) (hfu : 5000 ≤ fu) (C : RST I AD f n p) (D : RWD I AD ρ) (V : PV ρ) {c : Int} (c0 : 0 ≤ c) (c1 : c < ρ 3) (hw : wdP f p 12 = true) :
    ∃ I', fX11_readActor fu sh I R (AD 316) (iz c) = some I' ∧ RST I' AD f n (act5 f n p ρ c) ∧ RWD I' AD (actX f n p ρ c) ∧ FRM AD I I' := by
  have e : scn1 f n p = advP f n (exW f p 12) := by
    have e1 : exW f p 12 = p := if_pos hw
    rw [e1]
    rfl
  exact r_act S M hfu C D V c0 c1 e
theorem r_aloop (S : OKS sh AD) (M : MR R AD) (hfu : 5000 ≤ fu) (k109 : HI → Nat → Int32 → Option HI) {c : Int} (c0 : 0 ≤ c) : ∀ d j : Nat, d < j → ∀ (I : HI) (p : PS) (ρ : RHO), RST I AD f n p → RWD I AD ρ → PV ρ → c = ρ 3 - 1 → (p.er = 0 → n < p.st + d) → (p.er = 0 → canS ρ = true ∧ ∀ s, 0 ≤ s → s < ρ 4 → scS ρ s < c) →
    ∃ (I' : HI) (q : PS) (τ : RHO), fX11_readScene_l92 fu sh R k109 j I (AD 316) (iz c) = k109 I' (AD 316) (iz c) ∧ RST I' AD f n q ∧ RWD I' AD τ ∧ PV τ ∧ c = τ 3 - 1 ∧ Rch f n (p, ρ) (q, τ) ∧ (q.er = 0 → canS τ = true ∧ ¬ wdP f q 12 = true ∧ p.st ≤ q.st) ∧ FRM AD I I' := by
  intro d
  induction d with
  | zero =>
    intro j hj I p ρ C D V hc hs hb
    obtain ⟨j, rfl⟩ : ∃ t, j = t + 1 := ⟨j - 1, by omega⟩
    have z : ¬ p.er = 0 := fun z => by
      have := hs z
      have a := C.2.1.1
      have b := C.2.1.2.1
      omega
    refine ⟨I, p, ρ, ?_, C, D, V, hc, Rch.rf _, fun w => absurd w z, FR.rf _ _ _⟩
    show fX11_readScene_b92 fu sh R (fX11_readScene_l92 fu sh R k109 j) k109 I (AD 316) (iz c) = _
    simp only [fX11_readScene_b92, r_kwd S M hfu C (show 12 < 28 by decide), bsome, iz_lit, bz_zero]
    rw [if_pos (by rw [decide_eq_false z]; rfl)]
  | succ d ih =>
    intro j hj I p ρ C D V hc hs hb
    obtain ⟨j, rfl⟩ : ∃ t, j = t + 1 := ⟨j - 1, by omega⟩
    by_cases z : p.er = 0 ∧ wdP f p 12 = true
    · have W := C.2.1
      obtain ⟨can, bf⟩ := hb z.1
      have tk := wd_tk z.2
      obtain ⟨J, a, b, e, g⟩ := r_actW S M hfu C D V c0 (show c < ρ 3 by omega) z.2
      obtain ⟨v1, v2, v3, v4⟩ := act_step W V hc c0 bf
      have es : dspD f n (p, ρ) = (act5 f n p ρ c, actX f n p ρ c) := by
        rw [dsp_stm z.1 tk]
        have e1 : stmD f n (p, ρ) = actD f n (p, ρ) := (if_neg (wd_12 z.2)).trans (if_pos z.2)
        rw [e1]
        have ns := ns_zero (ρ := ρ) (c := c) (ρ 4).toNat (fun s a b => bf s a (by omega))
        have e2 : actD f n (p, ρ) = (act5 f n p ρ (ρ 3 - 1), actX f n p ρ (ρ 3 - 1)) := if_pos ⟨show 1 ≤ ρ 3 by omega, show nsS ρ (ρ 3 - 1) (ρ 4).toNat ≤ 0 by rw [← hc, ns]; exact Int.le_refl 0⟩
        rw [e2, ← hc]
      have st : p.st < (act5 f n p ρ c).st := by
        have h1 := act_st W ρ c
        have h2 : p.en ≤ (scn1 f n p).st := (adv_st W).2 z.1
        have h3 := W.2.2.2.1 tk
        omega
      obtain ⟨K, q, τ, x1, x2, x3, x4, x5, x6, x7, x8⟩ := ih j (by omega) J (act5 f n p ρ c) (actX f n p ρ c) b e v1 (by omega) (fun w => by have := hs z.1; omega) (fun w => ⟨v3 w, v4⟩)
      refine ⟨K, q, τ, ?_, x2, x3, x4, x5, Rch.tr (Rch.one _) (by rw [es]; exact x6), fun w => ⟨(x7 w).1, (x7 w).2.1, by have := (x7 w).2.2; omega⟩, FR.tr g x8⟩
      show fX11_readScene_b92 fu sh R (fX11_readScene_l92 fu sh R k109 j) k109 I (AD 316) (iz c) = _
      simp only [fX11_readScene_b92, r_kwd S M hfu C (show 12 < 28 by decide), bsome, iz_lit, bz_zero]
      rw [decide_eq_true z.1, z.2, if_neg (by decide), a, bsome]
      exact x1
    · refine ⟨I, p, ρ, ?_, C, D, V, hc, Rch.rf _, fun w => ⟨(hb w).1, fun y => z ⟨w, y⟩, Nat.le_refl _⟩, FR.rf _ _ _⟩
      show fX11_readScene_b92 fu sh R (fX11_readScene_l92 fu sh R k109 j) k109 I (AD 316) (iz c) = _
      simp only [fX11_readScene_b92, r_kwd S M hfu C (show 12 < 28 by decide), bsome, iz_lit, bz_zero]
      rw [if_pos (by rw [← Bool.not_eq_true, Bool.and_eq_true, decide_eq_true_eq]; exact z)]
theorem r_sloop (S : OKS sh AD) (M : MR R AD) (hfu : 5000 ≤ fu) {c : Int} (c0 : 0 ≤ c) : ∀ d j : Nat, d < j → ∀ (I : HI) (p : PS) (ρ : RHO), RST I AD f n p → RWD I AD ρ → PV ρ → c = ρ 3 - 1 → (p.er = 0 → n < p.st + d) → (p.er = 0 → canS ρ = true ∧ (wdP f p 12 = true → 0 < nsS ρ c (ρ 4).toNat)) →
    ∃ (I' : HI) (q : PS) (τ : RHO), fX11_readScene_l109 fu sh R j I (AD 316) (iz c) = some I' ∧ RST I' AD f n q ∧ RWD I' AD τ ∧ PV τ ∧ c = τ 3 - 1 ∧ Rch f n (p, ρ) (q, τ) ∧ (q.er = 0 → canS τ = true ∧ ¬ wdP f q 24 = true ∧ (wdP f q 12 = true → 0 < nsS τ c (τ 4).toNat) ∧ p.st ≤ q.st) ∧ FRM AD I I' := by
  intro d
  induction d with
  | zero =>
    intro j hj I p ρ C D V hc hs hb
    obtain ⟨j, rfl⟩ : ∃ t, j = t + 1 := ⟨j - 1, by omega⟩
    have z : ¬ p.er = 0 := fun z => by
      have := hs z
      have a := C.2.1.1
      have b := C.2.1.2.1
      omega
    refine ⟨I, p, ρ, ?_, C, D, V, hc, Rch.rf _, fun w => absurd w z, FR.rf _ _ _⟩
    show fX11_readScene_b109 fu sh R (fX11_readScene_l109 fu sh R j) I (AD 316) (iz c) = _
    simp only [fX11_readScene_b109, r_kwd S M hfu C (show 24 < 28 by decide), bsome, iz_lit, bz_zero]
    rw [if_pos (by rw [decide_eq_false z]; rfl)]
  | succ d ih =>
    intro j hj I p ρ C D V hc hs hb
    obtain ⟨j, rfl⟩ : ∃ t, j = t + 1 := ⟨j - 1, by omega⟩
    by_cases z : p.er = 0 ∧ wdP f p 24 = true
    · have W := C.2.1
      have hn := V.2.1
      obtain ⟨can, -⟩ := hb z.1
      have tk := wd_tk z.2
      obtain ⟨J, a, b, e, g⟩ := r_sht S M hfu C D V c0 (show c < ρ 3 by omega)
      obtain ⟨Q, hQ⟩ : ∃ Q, Q = (if ρ 4 = 12 then falP p 4 else p) := ⟨_, rfl⟩
      rw [← hQ] at b e
      have WQ : WfP f n Q := by
        rw [hQ]
        split
        · exact falP_wf W 4
        · exact W
      have Q4 : Q.er = 0 → ρ 4 < 12 := by
        intro w
        rw [hQ] at w
        split at w
        · exact absurd w (fal_er (by decide))
        · omega
      obtain ⟨v1, v2, v3⟩ := sht_step WQ V hc c0 can Q4
      have es : dspD f n (p, ρ) = (sht7 f n Q ρ c, shtX f n Q ρ c) := by
        rw [dsp_stm z.1 tk]
        have e1 : stmD f n (p, ρ) = shtD f n (p, ρ) := (if_neg (wd_24 z.2).1).trans ((if_neg (wd_24 z.2).2).trans (if_pos z.2))
        have nc : ¬ canS ρ = false := by rw [can]; decide
        rw [e1]
        by_cases y : ρ 4 = 12
        · have e2 : shtD f n (p, ρ) = (falP p 4, ρ) := (if_neg nc).trans (if_neg (show ¬ ρ 4 < 12 by omega))
          rw [if_pos y] at hQ
          have d4 : ¬ (falP p 4).er = 0 := fal_er (by decide)
          have e3 : sht7 f n Q ρ c = falP p 4 := by rw [hQ]; exact sht7_ne d4
          have e4 : shtX f n Q ρ c = ρ := by
            unfold shtX
            rw [e3, if_neg d4]
          rw [e2, e3, e4]
        · have e2 : shtD f n (p, ρ) = (sht7 f n p ρ (ρ 3 - 1), shtX f n p ρ (ρ 3 - 1)) := (if_neg nc).trans (if_pos (show ρ 4 < 12 by omega))
          rw [if_neg y] at hQ
          rw [e2, hQ, ← hc]
      have st : (sht7 f n Q ρ c).er = 0 → p.st < (sht7 f n Q ρ c).st := by
        intro w
        have r0 := (sht_ok WQ w).1
        have qe : Q = p := by
          rw [hQ]
          rw [hQ] at r0
          split at r0
          · exact absurd r0 (fal_er (by decide))
          · rename_i y; exact if_neg y
        have h1 := sht_st WQ ρ c
        have h2 : Q.en ≤ (scn1 f n Q).st := (adv_st WQ).2 r0
        have h3 := W.2.2.2.1 tk
        rw [qe] at h2 h1 ⊢
        omega
      obtain ⟨K, q, τ, x1, x2, x3, x4, x5, x6, x7, x8⟩ := ih j (by omega) J (sht7 f n Q ρ c) (shtX f n Q ρ c) b e v1 (by omega) (fun w => by have := hs z.1; have := st w; omega) (fun w => ⟨(v3 w).1, fun _ => (v3 w).2⟩)
      have mono : q.er = 0 → p.st ≤ q.st := by
        intro w
        have h1 := (x7 w).2.2.2
        by_cases y : (sht7 f n Q ρ c).er = 0
        · have := st y
          omega
        · have e9 := x6.dd y
          rw [e9] at w
          exact absurd w y
      refine ⟨K, q, τ, ?_, x2, x3, x4, x5, Rch.tr (Rch.one _) (by rw [es]; exact x6), fun w => ⟨(x7 w).1, (x7 w).2.1, (x7 w).2.2.1, mono w⟩, FR.tr g x8⟩
      show fX11_readScene_b109 fu sh R (fX11_readScene_l109 fu sh R j) I (AD 316) (iz c) = _
      simp only [fX11_readScene_b109, r_kwd S M hfu C (show 24 < 28 by decide), bsome, iz_lit, bz_zero]
      rw [decide_eq_true z.1, z.2, if_neg (by decide), a, bsome]
      exact x1
    · refine ⟨I, p, ρ, ?_, C, D, V, hc, Rch.rf _, fun w => ⟨(hb w).1, fun y => z ⟨w, y⟩, (hb w).2, Nat.le_refl _⟩, FR.rf _ _ _⟩
      show fX11_readScene_b109 fu sh R (fX11_readScene_l109 fu sh R j) I (AD 316) (iz c) = _
      simp only [fX11_readScene_b109, r_kwd S M hfu C (show 24 < 28 by decide), bsome, iz_lit, bz_zero]
      rw [if_pos (by rw [← Bool.not_eq_true, Bool.and_eq_true, decide_eq_true_eq]; exact z)]
end Q64
