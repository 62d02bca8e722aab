/-! THE LAW, STAGE 2: the board loaded -/
theorem LBD.row {sh : HS} {I : HI} {R : HR} {K A : Nat → Nat} {cap : Nat} {S : List Nat} {ρ r : RHO} (B : LBD sh I R K A cap S ρ) (H : HLF ρ r (ρ 3) 6 (ρ 4)) : LBD sh I R K A cap S r := by
  obtain ⟨⟨a0, a1, a2⟩, ⟨a3, a4⟩, b, c⟩ := H
  obtain ⟨s, l, v1, v2, v3, v4⟩ := B
  have hin : ∀ (d : Nat) (a : Nat), (d : Int) < ρ 3 → a < 6 → inS r d a = inS ρ d a ∧ (inS r d a = true → axS r d a = axS ρ d a ∧ ayS r d a = ayS ρ d a) := fun d a hd ha => by
    obtain ⟨g1, g2⟩ := (b d (by omega) hd).2 a (by omega) (by omega)
    refine ⟨?_, g2⟩
    rw [g1, decide_eq_true (show (a : Int) < 6 by omega), Bool.or_true, Bool.and_true]
  refine ⟨by rw [a3]; exact s, l, by rw [a0, a1, a2]; exact v1, fun d hd => ?_, by rw [a4]; exact v3, fun k q hk => ?_⟩
  · rw [a3] at hd
    obtain ⟨e1, e2⟩ := v2 d hd
    refine ⟨by rw [e1, (b d (by omega) hd).1], fun a ha => ?_⟩
    obtain ⟨g1, g2⟩ := e2 a ha
    obtain ⟨h1, h2⟩ := hin d a hd ha
    unfold lxS at g1 ⊢
    unfold lyS at g2 ⊢
    rw [h1]
    by_cases z : inS ρ d a = true
    · rw [if_pos z] at g1 g2 ⊢
      rw [if_pos z, (h2 (by rw [h1]; exact z)).1, (h2 (by rw [h1]; exact z)).2]
      exact ⟨g1, g2⟩
    · rw [if_neg z] at g1 g2 ⊢
      rw [if_neg z]
      exact ⟨g1, g2⟩
  · have hk1 := (List.getElem?_eq_some_iff.mp hk).1
    have g : ∀ j, 0 ≤ j → j < 6 → gS r k j = gS ρ k j := c k (by omega) (by omega)
    obtain ⟨d0, d1, d2, d3, d4, d5⟩ := v4 k q hk
    exact ⟨d0.trans (congrArg iz (g 0 (by decide) (by decide)).symm), d1.trans (congrArg iz (g 1 (by decide) (by decide)).symm), d2.trans (congrArg iz (g 2 (by decide) (by decide)).symm), d3.trans (congrArg iz (g 3 (by decide) (by decide)).symm), d4.trans (congrArg iz (g 4 (by decide) (by decide)).symm), d5.trans (congrArg iz (g 5 (by decide) (by decide)).symm)⟩
theorem ATL.self (T : List Int) : ATL (gTx T) 0 T := fun k x hk => by rw [Nat.zero_add]; exact gTx_in hk
section LO
variable {K J : Nat → Nat} {fu : Nat} {sh sh' : HS} {I I' : HI} {R R' : HR} {A : Nat → Nat} {cap : Nat} {S : List Nat} {ρ : RHO} {σ : STT} {AD : Int → Nat} {T : List Int}
theorem XF9.nw (fr : ∀ i, 0 ≤ i → i < 316 → sh (AD i) = none) {y : Nat} (hy : ¬ sh y = none) : ¬ XF9 AD y := fun z => z (fun i i0 i1 e => hy (by rw [e]; exact fr i i0 i1))
/-- what the planner's calls write is none of the old cells -/
theorem EXH.pl {sh1 sh2 : HS} {I1 I2 : HI} {R1 R2 : HR} (fr : ∀ i, 0 ≤ i → i < 316 → sh (AD i) = none) (e : EXH (fun _ => False) sh I R sh1 I1 R1) (e2 : EXH (XF9 AD) sh1 I1 R1 sh2 I2 R2) : EXH (fun _ => False) sh I R sh2 I2 R2 := e.tr e2 (fun y hy z => absurd z (XF9.nw fr hy))
theorem l_loaded {P : Option Nat → HS → HI → HR → Prop} (B : LBD sh I R K A cap S ρ) (V : VB ρ) (W : OLW sh I R K) (hfu : 5000 ≤ fu)
    (hP : ∀ σ AD sh' I' R', PLS sh' I' R' σ AD → σ.1 = true → HLF ρ σ.2.1 (ρ 3) 6 (ρ 4) → VB σ.2.1 → (∀ i, 0 ≤ i → i < 316 → sh (AD i) = none) → EXH (fun _ => False) sh I R sh' I' R' → P (some (AD 0)) sh' I' R') : wL_loaded K J fu sh I R (A 0) (qwN P) := by
  have m := V.m
  have e3 : (((ρ 3).toNat : Nat) : Int) = ρ 3 := by omega
  unfold wL_loaded
  refine ⟨⟨by decide, by decide⟩, fun a2 ha2 => ⟨⟨by decide, by decide⟩, u1_on, fun g b A' B' s x y h sh4 I4 R4 hPN => ?_⟩⟩
  obtain ⟨AD, ad0, S0, fr, E0⟩ := pl_new ha2 hPN
  subst ad0
  have B4 := B.ex0 E0
  refine ⟨B4.r, ⟨by decide, by decide⟩, l_said B4 V (W.ex0 E0) hfu (fun r sh7 I7 R7 e7 Q _ => ?_)⟩
  have S7 : PLS sh7 I7 R7 sig0 AD := S0.fr (fun i i0 i1 => by
    have hn := nnk (S0.1 i i0 i1)
    exact ⟨e7.1 _ hn, e7.2 _ hn (fun z => z)⟩)
  have E7 : EXH (fun _ => False) sh I R sh7 I7 R7 := E0.tr e7 (fun _ _ z => z)
  have hlen := len_all V (c := (ρ 3).toNat) (by omega)
  refine ⟨⟨by decide, by decide⟩, l_feed hfu S7 rfl Q (CHR.sc V _ (by omega)) (by omega) (fun sh9 I9 S9 e9 => ?_)⟩
  obtain ⟨I10, R10, el, SL, fl⟩ := S9.load hfu
  have e10 : EXH (XF9 AD) sh9 I9 R7 sh9 I10 R10 := ⟨fun _ _ => rfl, fun y _ hy => fl y (Classical.not_not.mp hy)⟩
  have E10 : EXH (fun _ => False) sh I R sh9 I10 R10 := EXH.pl fr (EXH.pl fr E7 e9) e10
  have B10 := B.ex0 E10
  obtain ⟨er0, HF⟩ := ld_text (f := gTx (scT ρ (ρ 3).toNat)) (n := (scT ρ (ρ 3).toNat).length) V (ATL.self _) rfl
  have hv : vLoad (setT sig0 (scT ρ (ρ 3).toNat).length (gTx (scT ρ (ρ 3).toNat))) = (S.length : Int) := by
    show (if (ldX (gTx (scT ρ (ρ 3).toNat)) (scT ρ (ρ 3).toNat).length).1.er = 0 then (ldX (gTx (scT ρ (ρ 3).toNat)) (scT ρ (ρ 3).toNat).length).2 4 else _) = _
    rw [if_pos er0, HF.2.1.2, B.2.2.2.2.1]
  have hs : sLoad (setT sig0 (scT ρ (ρ 3).toNat).length (gTx (scT ρ (ρ 3).toNat))) = (true, (ldX (gTx (scT ρ (ρ 3).toNat)) (scT ρ (ρ 3).toNat).length).2, [], 0, gTx (scT ρ (ρ 3).toNat), -1, 0, fun _ => 0) := by
    show (if (ldX (gTx (scT ρ (ρ 3).toNat)) (scT ρ (ρ 3).toNat).length).1.er = 0 then _ else _) = _
    rw [if_pos er0]
    rfl
  rw [hv] at el
  rw [hs] at SL
  refine ⟨⟨by decide, by decide⟩, wB_of el ?_⟩
  refine wB_of (oR_at B10.1.1.1 B10.1.1.2.1) ?_
  refine ⟨rcv_k B10.2.1.1, ⟨by decide, by decide⟩, l_size B10.2.1 ?_⟩
  rw [if_pos rfl]
  unfold wL_loaded_b35
  exact ⟨⟨by decide, by decide⟩, _, rfl, hP _ AD sh9 I10 R10 SL rfl HF (ldX_vb er0) fr E10⟩
end LO
