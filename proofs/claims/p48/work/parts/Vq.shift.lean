/-! THE LAW, STAGE 2: the actions 6 and 7: a shot in another place, a shot dropped -/
section AC
variable {K J : Nat → Nat} {fu : Nat} {σ σ' : STT} {AD : Int → Nat} {A : Nat → Nat} {cap : Nat} {S S' : List Nat} {sh sh' : HS} {I I' : HI} {R R' : HR} {ρ ρ' : RHO} {P : Int32 → HS → HI → HR → Prop} {k q : Nat}
theorem wB_que3 {o : Option ((Int32 ⊕ String) × (HI × HR))} {v : Int} {I' : HI} {R' : HR} {Kc : Int32 → ((Int32 ⊕ String) × (HI × HR)) → Prop} (h : o = some (cOut (.inl v), (I', R'))) (hk : ∀ r : (Int32 ⊕ String) × (HI × HR), r.2 = (I', R') → Kc (iz v) r) : wB o fun r => wS r.1 fun x => Kc x r := by rw [h]; exact hk _ rfl
theorem WLX.actR {f : HI → Option ((Int32 ⊕ String) × (HI × HR))} {a : Int ⊕ Nat} (W : WLX K σ ρ AD A cap S sh I R) (V' : VST σ') (h1 : σ'.1 = true) (H : ∀ AD' P, AGR6 AD AD' → OKS sh AD' → CXR AD' R P σ σ' f a) : ∃ I' R', f I = some (cOut a, (I', R')) ∧ WLX K σ' ρ AD A cap S sh I' R' ∧ ∀ b, FGN AD b → I' b = I b := by
  obtain ⟨w1, w2, w3, w4, w5, w6, w7⟩ := W
  obtain ⟨I', R', e1, e2, e3⟩ := w1.actR V' H
  exact ⟨I', R', e1, ⟨e2, h1, w3.gen (fun b hb => ⟨rfl, (e3 b (w5 b hb)).1, (e3 b (w5 b hb)).2⟩), w4.cls w1.1 e3, w5, w6, w7⟩, fun b hb => (e3 b hb).1⟩
theorem LBD.ok (B : LBD sh I R K A cap S ρ) : ∀ q, q ∈ S → okEb sh q = true := fun q hq => by
  unfold okEb
  simp [isT_of (B.1.2.1 q hq)]
theorem LBD.perm (B : LBD sh I R K A cap S ρ) (T : LST sh I' R' K (A 1) (A 2) cap S') (fI : ∀ b, ¬ b = A 1 → I' b = I b) (fR : ∀ b, ¬ b = A 2 → R' b = R b) (he : sh (A 2) = some (46, cap)) (hlen : (S'.length : Int) = ρ' 4) (hlow : ∀ j, j < 47 → ¬ j = 4 → ρ' j = ρ j) (p : Nat → Nat) (hp : ∀ i, i < S'.length → S'[i]? = S[p i]?) (hg : ∀ i : Nat, i < S'.length → ∀ a : Nat, a < 6 → gS ρ' i a = gS ρ (p i) a) (m : ρ 3 ≤ 3) : LBD sh I' R' K A cap S' ρ' := by
  have e3 : ρ' 3 = ρ 3 := hlow 3 (by decide) (by decide)
  obtain ⟨⟨⟨s1, s2, s3, s4, s5⟩, s6, ⟨s7, s8, s9⟩, s10⟩, l, v1, v2, v3, v4⟩ := B
  have hmem : ∀ q, q ∈ S' → q ∈ S := by
    intro q hq
    obtain ⟨i, hi, e⟩ := List.mem_iff_getElem.mp hq
    have := hp i hi
    rw [List.getElem?_eq_getElem hi, e] at this
    exact List.mem_of_getElem? this.symm
  refine ⟨⟨⟨s1, ?_, ?_, ?_, ?_⟩, fun q hq => s6 q (hmem q hq), ⟨by rw [e3]; exact s7, by rw [e3]; exact s8, by rw [e3]; exact s9⟩, fun c hc => ?_⟩, T, ?_, fun c hc => ?_, hlen, fun i q hi => ?_⟩
  · rw [fR _ (ne_k s1 he (by decide))]; exact s2
  · rw [fR _ (ne_k s1 he (by decide))]; exact s3
  · rw [fR _ (ne_k s1 he (by decide))]; exact s4
  · rw [fR _ (ne_k s1 he (by decide))]; exact s5
  · rw [e3] at hc
    rw [fR _ (ne_k s8 he (by decide)), fR _ (ne_k s9 he (by decide))]
    exact s10 c hc
  · rw [fI _ (ne_k s1 l.1 (by decide)), hlow 0 (by decide) (by decide), hlow 1 (by decide) (by decide), hlow 2 (by decide) (by decide)]
    exact v1
  · rw [e3] at hc
    obtain ⟨-, -, c3, c4⟩ := s10 c hc
    rw [fI _ (ne_k s7 l.1 (by decide)), fI _ (ne_k c3 l.1 (by decide)), fI _ (ne_k c4 l.1 (by decide))]
    obtain ⟨d1, d2⟩ := v2 c hc
    refine ⟨by rw [d1]; unfold ltS; rw [hlow _ (by omega) (by omega)], fun a ha => ?_⟩
    obtain ⟨f1, f2⟩ := d2 a ha
    refine ⟨by rw [f1]; unfold lxS inS csS axS; rw [hlow _ (by omega) (by omega), hlow _ (by omega) (by omega)], by rw [f2]; unfold lyS inS csS ayS; rw [hlow _ (by omega) (by omega), hlow _ (by omega) (by omega)]⟩
  · have hi1 := (List.getElem?_eq_some_iff.mp hi).1
    have hq : q ∈ S' := List.mem_of_getElem? hi
    rw [fI _ (ne_k (s6 q (hmem q hq)) l.1 (by decide))]
    rw [hp i hi1] at hi
    obtain ⟨d0, d1, d2, d3, d4, d5⟩ := v4 (p i) q hi
    have g := hg i hi1
    exact ⟨d0.trans (congrArg iz (g 0 (by decide)).symm), d1.trans (congrArg iz (g 1 (by decide)).symm), d2.trans (congrArg iz (g 2 (by decide)).symm), d3.trans (congrArg iz (g 3 (by decide)).symm), d4.trans (congrArg iz (g 4 (by decide)).symm), d5.trans (congrArg iz (g 5 (by decide)).symm)⟩
theorem WLX.perm (W : WLX K σ ρ AD A cap S sh I R) (T : LST sh I' R' K (A 1) (A 2) cap S') (fI : ∀ b, ¬ b = A 1 → I' b = I b) (fR : ∀ b, ¬ b = A 2 → R' b = R b) (he : sh (A 2) = some (46, cap)) (hlen : (S'.length : Int) = ρ' 4) (hlow : ∀ j, j < 47 → ¬ j = 4 → ρ' j = ρ j) (p : Nat → Nat) (hpl : ∀ i, i < S'.length → p i < S.length) (hpi : ∀ i j, i < S'.length → j < S'.length → p i = p j → i = j) (hp : ∀ i, i < S'.length → S'[i]? = S[p i]?) (hg : ∀ i : Nat, i < S'.length → ∀ a : Nat, a < 6 → gS ρ' i a = gS ρ (p i) a) (V' : VB ρ') : WLX K σ ρ' AD A cap S' sh I' R' := by
  obtain ⟨w1, w2, w3, w4, w5, w6, w7⟩ := W
  have e3 : ρ' 3 = ρ 3 := hlow 3 (by decide) (by decide)
  have hmem : ∀ q, q ∈ S' → q ∈ S := by
    intro q hq
    obtain ⟨i, hi, e⟩ := List.mem_iff_getElem.mp hq
    have := hp i hi
    rw [List.getElem?_eq_getElem hi, e] at this
    exact List.mem_of_getElem? this.symm
  have h1 : FGN AD (A 1) := w5 _ (Or.inl (Or.inr (Or.inl rfl)))
  have h2 : FGN AD (A 2) := w5 _ (Or.inl (Or.inr (Or.inr (Or.inl rfl))))
  have k1 := w3.2.1.1
  refine ⟨w1.fr (fun i h0 hi => ⟨rfl, fI _ (fun e => h1 i h0 hi e.symm), fR _ (fun e => h2 i h0 hi e.symm)⟩), w2, w3.perm T fI fR he hlen hlow p hp hg w6.m.2, ?_, ?_, V', ?_⟩
  · exact w4.ex (X := fun a => a = A 1 ∨ a = A 2) (sh' := sh) (I' := I') (R' := R') ⟨fun _ _ => rfl, fun a _ hx => ⟨fI a (fun z => hx (Or.inl z)), fR a (fun z => hx (Or.inr z))⟩⟩ (fun a z hz g1 g2 e => by
      rcases e with e | e
      · rw [e, k1] at hz; cases hz; exact absurd g1 (by decide)
      · rw [e, he] at hz; cases hz; exact absurd g2 (by omega))
  · intro a ha
    refine w5 a ?_
    rw [e3] at ha
    rcases ha with z | z | z
    · exact Or.inl z
    · exact Or.inr (Or.inl z)
    · exact Or.inr (Or.inr (hmem a z))
  · rw [e3]
    obtain ⟨n1, h, n2, n3, n4⟩ := w7
    refine ⟨?_, h, n2, n3, fun q hq => n4 q (hmem q hq)⟩
    refine List.pairwise_iff_getElem.mpr (fun i j hi hj hij e => ?_)
    have a1 := hp i hi
    have a2 := hp j hj
    rw [List.getElem?_eq_getElem hi] at a1
    rw [List.getElem?_eq_getElem hj] at a2
    rw [List.getElem?_eq_getElem (hpl i hi)] at a1
    rw [List.getElem?_eq_getElem (hpl j hj)] at a2
    have a3 := (Option.some.inj a1).symm.trans (e.trans (Option.some.inj a2))
    have := hpi i j hi hj ((List.getElem_inj n1).mp a3)
    omega
theorem KP.l1 {L t n : Nat} (h : sh L = some (t, n)) (ht : ¬ t = 22) (f : ∀ b, ¬ b = L → I' b = I b) : KP sh I sh I' := fun y m hy => ⟨hy, f y (fun e => by rw [e, h] at hy; cases hy; exact ht rfl)⟩
theorem er_mv {s : Nat} (hs : s < S.length) (i : Nat) (hi : i < S.length - 1) : (S.eraseIdx s)[i]? = S[(mvP s ((S.length : Int) - 1) i).toNat]? := by
  rw [List.getElem?_eraseIdx]
  unfold mvP
  by_cases z : i < s
  · rw [if_pos z, if_neg (by omega), if_neg (by omega), if_neg (by omega), Int.toNat_natCast]
  · rw [if_neg z, if_neg (by omega), if_pos (by omega)]
    congr 1
theorem ins_mv {s t : Nat} (hk : S[s]? = some q) (ht : t < S.length) (i : Nat) (hi : i < S.length) : ((S.eraseIdx s).insertIdx t q)[i]? = S[(mvP s t i).toNat]? := by
  have hs := (List.getElem?_eq_some_iff.mp hk).1
  have hL : (S.eraseIdx s).length = S.length - 1 := by rw [List.length_eraseIdx, if_pos hs]
  rw [List.getElem?_insertIdx, List.getElem?_eraseIdx, List.getElem?_eraseIdx, hL]
  unfold mvP
  by_cases z : i < t
  · rw [if_pos z]
    by_cases w : i < s
    · rw [if_pos w, if_neg (by omega), if_neg (by omega), if_neg (by omega), Int.toNat_natCast]
    · rw [if_neg w, if_neg (by omega), if_pos (by omega)]
      congr 1
  · rw [if_neg z]
    by_cases w : i = t
    · rw [if_pos w, if_pos (by omega), if_pos (by omega), Int.toNat_natCast, hk]
    · rw [if_neg w]
      by_cases x : i - 1 < s
      · rw [if_pos x, if_neg (by omega), if_neg (by omega), if_pos (by omega)]
        congr 1
        omega
      · rw [if_neg x, if_neg (by omega), if_neg (by omega), if_neg (by omega), Int.toNat_natCast]
        congr 1
        omega
theorem l_shifts {s t : Nat} {q2 : Nat} (W : WLX K σ σ.2.1 AD A cap S sh I R) (hfu : 5000 ≤ fu) (hk : S[s]? = some q) (hk2 : S[t]? = some q2)
    (hP : ∀ sh' I' R' σ' S', WLX K σ' σ'.2.1 AD A cap S' sh' I' R' → KP sh I sh' I' → P 1 sh' I' R') : wL_shifts K J fu sh I R (AD 0) (A 0) (iz (s : Int)) (iz (t : Int)) (qwI P) := by
  have B := W.2.2.1
  have V := W.2.2.2.2.2.1
  have n4 := V.n
  have m := V.m
  have hl := B.len
  have h0 : σ.1 = true := W.2.1
  obtain ⟨k0, k1, hq⟩ := B.kk hk
  obtain ⟨t0, t1, hq2⟩ := B.kk hk2
  have v1 := (V.shot k0 k1).1
  have w1 := (V.shot t0 t1).1
  have e0 := (B.2.2.2.2.2 s q hk).1
  have e02 := (B.2.2.2.2.2 t q2 hk2).1
  have g : (0 ≤ (s : Int) ∧ (s : Int) ≤ σ.2.1 4 - 1) ∧ (0 ≤ (t : Int) ∧ (t : Int) ≤ σ.2.1 4 - 1) := by omega
  unfold wL_shifts
  refine wB_of (oR_at B.1.1.1 B.1.1.2.1) ?_
  refine ⟨rcv_k B.2.1.1, ⟨by decide, by decide⟩, l_get B.2.1 hk ?_⟩
  refine wB_of (oKt_1 hq) ?_
  refine wB_of (oA2_n hq 0 (by decide) il0) ?_
  refine wB_of (oR_at B.1.1.1 B.1.1.2.1) ?_
  refine ⟨rcv_k B.2.1.1, ⟨by decide, by decide⟩, l_get B.2.1 hk2 ?_⟩
  refine wB_of (oKt_1 hq2) ?_
  refine wB_of (oA2_n hq2 0 (by decide) il0) ?_
  rw [e0, e02]
  by_cases c : scS σ.2.1 s = scS σ.2.1 t
  · rw [if_pos (by rw [c])]
    have es : sShift σ s t = rowS (pushS σ) (shP σ.2.1 (mvP s t)) := by unfold sShift; rw [if_pos h0, if_pos g, if_pos c]
    have ea : aShift σ s t = .inl (faultS (shP σ.2.1 (mvP s t))) := by unfold aShift; rw [if_pos h0, if_pos g, if_pos c]
    have Vb := shP_V V k0 k1 t0 t1 c
    have hs := (B.2.1.lt hk).1
    have he := (B.2.1.lt hk).2
    have ht := (B.2.1.lt hk2).1
    have hcap := B.2.1.2.2.2.1
    refine wB_of (oR_at B.1.1.1 B.1.1.2.1) ?_
    refine ⟨rcv_k B.2.1.1, ⟨by decide, by decide⟩, l_remove B.2.1 B.ok hk (fun I1 R1 T1 f1 g1 => ?_)⟩
    have hL : (S.eraseIdx s).length = S.length - 1 := by rw [List.length_eraseIdx, if_pos hs]
    refine wB_of (oKt_1 hq) ?_
    refine wB_of (oR_at B.1.1.1 (by rw [g1 _ (ne_k B.1.1.1 he (by decide))]; exact B.1.1.2.1)) ?_
    refine ⟨rcv_k B.2.1.1, ⟨by decide, by decide⟩, l_addAt T1 (fun y hy => B.ok y (List.mem_of_mem_eraseIdx hy)) (B.ok q (List.mem_of_getElem? hk)) he (by omega) (by omega) (fun I2 R2 T2 f2 g2 => ?_)⟩
    have hL2 : ((S.eraseIdx s).insertIdx t q).length = S.length := by rw [List.length_insertIdx, hL, if_pos (by omega)]; omega
    have f3 : ∀ b, ¬ b = A 1 → I2 b = I b := fun b hb => (f2 b hb).trans (f1 b hb)
    have W1 : WLX K σ (shP σ.2.1 (mvP s t)) AD A cap ((S.eraseIdx s).insertIdx t q) sh I2 R2 := by
      refine W.perm T2 f3 (fun b hb => (g2 b hb).trans (g1 b hb)) he (by rw [hL2, shP_low (by decide)]; omega) (fun j hj _ => shP_low hj) (fun i => (mvP s t i).toNat) (fun i hi => ?_) (fun i j hi hj e => ?_) (fun i hi => ?_) (fun i hi a ha => ?_) Vb
      · rw [hL2] at hi
        have r := mvP_r (n := (S.length : Int)) (s := s) (t := t) (i := i) (by omega) (by omega) (by omega) (by omega) (by omega) (by omega)
        omega
      · rw [hL2] at hi hj
        have r := mvP_r (n := (S.length : Int)) (s := s) (t := t) (i := i) (by omega) (by omega) (by omega) (by omega) (by omega) (by omega)
        have r2 := mvP_r (n := (S.length : Int)) (s := s) (t := t) (i := j) (by omega) (by omega) (by omega) (by omega) (by omega) (by omega)
        have := mvP_inj (s := (s : Int)) (t := t) (i := i) (j := j) (by omega)
        omega
      · rw [hL2] at hi
        exact ins_mv hk ht i hi
      · rw [hL2] at hi
        have r := mvP_r (n := (S.length : Int)) (s := s) (t := t) (i := i) (by omega) (by omega) (by omega) (by omega) (by omega) (by omega)
        rw [shP_g (by omega) (by omega) (by omega) (by omega), Int.toNat_of_nonneg r.1]
    have kp1 : KP sh I sh I2 := KP.l1 B.2.1.1 (by decide) f3
    obtain ⟨I3, R3, x1, W2, x2⟩ := W1.actR (f := fun I => fX10_shift fu sh I R2 (AD 0) (iz (s : Int)) (iz (t : Int))) (a := aShift σ s t) (vst_shift W.1.V s t) (by rw [es]; exact h0) (fun AD' P gg O => by
      have e := cx_shift (P := P) (R := R2) O W.1.V hfu (show IR (s : Int) from IRn (by omega)) (show IR (t : Int) from IRn (by omega))
      rw [gg 0 (by decide) (by decide)] at e
      exact e)
    rw [ea] at x1
    refine ⟨⟨by decide, by decide⟩, wB_que3 x1 (fun r9 hr9 => ?_)⟩
    rw [hr9]
    refine ⟨W2.2.2.1.r, ⟨by decide, by decide⟩, l_faults W2.2.2.1 Vb hfu ?_⟩
    rw [if_pos rfl]
    unfold wL_shifts_b87
    refine ⟨⟨by decide, by decide⟩, Or.inr rfl, _, rfl, ?_⟩
    have er : shP σ.2.1 (mvP s t) = (sShift σ s t).2.1 := by rw [es]; rfl
    rw [er] at W2
    exact hP sh I3 R3 _ _ W2 (kp1.tr (KP.fg W1.1.1 x2))
  · rw [if_neg (by rw [ieq rfl rfl ⟨by omega, by omega⟩ ⟨by omega, by omega⟩]; exact c)]
    have es : sShift σ s t = σ := by unfold sShift; rw [if_pos h0, if_pos g, if_neg c]
    have ea : aShift σ s t = .inl (-2) := by unfold aShift; rw [if_pos h0, if_pos g, if_neg c]
    obtain ⟨I3, R3, x1, W2, x2⟩ := W.actR (f := fun I => fX10_shift fu sh I R (AD 0) (iz (s : Int)) (iz (t : Int))) (a := aShift σ s t) (σ' := sShift σ s t) (vst_shift W.1.V s t) (by rw [es]; exact h0) (fun AD' P gg O => by
      have e := cx_shift (P := P) (R := R) O W.1.V hfu (show IR (s : Int) from IRn (by omega)) (show IR (t : Int) from IRn (by omega))
      rw [gg 0 (by decide) (by decide)] at e
      exact e)
    rw [ea] at x1
    rw [es] at W2
    refine ⟨⟨by decide, by decide⟩, wB_que3 x1 (fun r9 hr9 => ?_)⟩
    rw [hr9, if_pos (show iz (-2) = -2 from rfl)]
    unfold wL_shifts_b45
    exact ⟨⟨by decide, by decide⟩, Or.inr rfl, _, rfl, hP sh I3 R3 σ S W2 (KP.fg W.1.1 x2)⟩
theorem ac_6 {v Q : Int} {c a x y : Int32} {s0 : Option Nat} (W : WLX K σ σ.2.1 AD A cap S sh I R) (hfu : 5000 ≤ fu) (hv : 0 ≤ v ∧ v ≤ 2147483647) (hi : v % 9 = 6) (hQ : 0 ≤ Q ∧ Q ≤ 2147483647) (hs : (S = [] ∧ s0 = none) ∨ (∃ q, S[(Q % S.length).toNat]? = some q ∧ s0 = some q ∧ 0 < S.length))
    (hP : ∀ sh' I' R' σ' S', WLX K σ' σ'.2.1 AD A cap S' sh' I' R' → KP sh I sh' I' → P 1 sh' I' R') : wL_acts_b87 K J fu (qwI P) sh I R 0 0 (AD 0) (A 0) (iz v) (iz Q) (iz (S.length : Int)) c a x y s0 := by
  have n4 := W.2.2.2.2.2.1.n
  have hl := W.2.2.1.len
  unfold wL_acts_b87
  refine wB_of (oM_l il9 hv.1 hv.2 (by decide) (by decide)) ?_
  rw [hi, if_neg (by decide), if_neg (by decide), if_neg (by decide), if_neg (by decide), if_neg (by decide), if_neg (by decide), if_pos il6.symm]
  rcases hs with ⟨hs, rfl⟩ | ⟨q, hk, rfl, hpos⟩
  · rw [if_pos rfl]
    unfold wL_acts_b618 wL_acts_b623
    exact ⟨⟨by decide, by decide⟩, Or.inr rfl, _, rfl, hP sh I R σ S W (KP.rf sh I)⟩
  · rw [if_neg (by simp)]
    have hmod := Int.emod_lt_of_pos Q (show (0 : Int) < S.length by omega)
    have hmod0 := Int.emod_nonneg Q (show ¬ (S.length : Int) = 0 by omega)
    obtain ⟨k, hkk⟩ : ∃ k : Nat, Q % (S.length : Int) = (k : Int) := ⟨(Q % (S.length : Int)).toNat, by omega⟩
    have hmod2 := Int.emod_lt_of_pos (Q / 17) (show (0 : Int) < S.length by omega)
    have hmod3 := Int.emod_nonneg (Q / 17) (show ¬ (S.length : Int) = 0 by omega)
    obtain ⟨t, htt⟩ : ∃ t : Nat, Q / 17 % (S.length : Int) = (t : Int) := ⟨(Q / 17 % (S.length : Int)).toNat, by omega⟩
    rw [hkk, Int.toNat_natCast] at hk
    refine wB_of (oM_l rfl hQ.1 hQ.2 (by omega) (by omega)) ?_
    rw [hkk]
    refine wB_of (oD_l (n := 17) il17 hQ.1 hQ.2 (by decide) (by decide)) ?_
    refine wB_of (oM_l rfl (by omega) (by omega) (by omega) (by omega)) ?_
    rw [htt]
    refine ⟨⟨by decide, by decide⟩, l_shifts W hfu hk (List.getElem?_eq_getElem (show t < S.length by omega)) (fun sh' I' R' σ' S' W' kp => ?_)⟩
    rw [if_neg (by decide)]
    unfold wL_acts_b618 wL_acts_b623
    exact ⟨⟨by decide, by decide⟩, Or.inr rfl, _, rfl, hP sh' I' R' σ' S' W' kp⟩
theorem ac_7 {v Q : Int} {c a x y : Int32} {s0 : Option Nat} (W : WLX K σ σ.2.1 AD A cap S sh I R) (hfu : 5000 ≤ fu) (hv : 0 ≤ v ∧ v ≤ 2147483647) (hi : v % 9 = 7) (hQ : 0 ≤ Q ∧ Q ≤ 2147483647)
    (hP : ∀ sh' I' R' σ' S', WLX K σ' σ'.2.1 AD A cap S' sh' I' R' → KP sh I sh' I' → P 1 sh' I' R') : wL_acts_b87 K J fu (qwI P) sh I R 0 0 (AD 0) (A 0) (iz v) (iz Q) (iz (S.length : Int)) c a x y s0 := by
  have B := W.2.2.1
  have V := W.2.2.2.2.2.1
  have n4 := V.n
  have m := V.m
  have hl := B.len
  have h0 : σ.1 = true := W.2.1
  unfold wL_acts_b87
  refine wB_of (oM_l il9 hv.1 hv.2 (by decide) (by decide)) ?_
  rw [hi, if_neg (by decide), if_neg (by decide), if_neg (by decide), if_neg (by decide), if_neg (by decide), if_neg (by decide), if_neg (by decide), if_pos il7.symm]
  by_cases c4 : 4 ≤ S.length
  · rw [if_pos (by rw [ile il4 rfl ⟨by decide, by decide⟩ (IRn (by omega))]; omega)]
    have hmod := Int.emod_lt_of_pos Q (show (0 : Int) < S.length by omega)
    have hmod0 := Int.emod_nonneg Q (show ¬ (S.length : Int) = 0 by omega)
    obtain ⟨s, hss⟩ : ∃ k : Nat, Q % (S.length : Int) = (k : Int) := ⟨(Q % (S.length : Int)).toNat, by omega⟩
    have hs : s < S.length := by omega
    have hk := List.getElem?_eq_getElem hs
    generalize S[s] = q at hk
    obtain ⟨k0, k1, hq⟩ := B.kk hk
    have he := (B.2.1.lt hk).2
    have hL : (S.eraseIdx s).length = S.length - 1 := by rw [List.length_eraseIdx, if_pos hs]
    refine wB_of (oR_at B.1.1.1 B.1.1.2.1) ?_
    refine wB_of (oM_l rfl hQ.1 hQ.2 (by omega) (by omega)) ?_
    rw [hss]
    refine ⟨rcv_k B.2.1.1, ⟨by decide, by decide⟩, l_remove B.2.1 B.ok hk (fun I1 R1 T1 f1 g1 => ?_)⟩
    refine wB_of (oKt_1 hq) ?_
    refine wB_of (oM_l rfl hQ.1 hQ.2 (by omega) (by omega)) ?_
    rw [hss]
    have g : 0 ≤ (s : Int) ∧ (s : Int) ≤ σ.2.1 4 - 1 := by omega
    have es : sDrop σ s = rowS (pushS σ) (dpS σ.2.1 s) := by unfold sDrop; rw [if_pos h0, if_pos g]
    have ea : aDrop σ s = .inl (σ.2.1 4 - 1) := by unfold aDrop; rw [if_pos h0, if_pos g]
    have Vb := dp_V V k0 k1
    have W1 : WLX K σ (dpS σ.2.1 s) AD A cap (S.eraseIdx s) sh I1 R1 := by
      refine W.perm T1 f1 g1 he (by rw [hL, dp_4]; omega) (fun j hj hj4 => dp_low hj4 k0 hj) (fun i => (mvP s (σ.2.1 4 - 1) i).toNat) (fun i hi => ?_) (fun i j hi hj e => ?_) (fun i hi => ?_) (fun i hi a ha => ?_) Vb
      · rw [hL] at hi
        have r := mvP_r (n := (S.length : Int)) (s := s) (t := σ.2.1 4 - 1) (i := i) (by omega) (by omega) (by omega) (by omega) (by omega) (by omega)
        omega
      · rw [hL] at hi hj
        have r := mvP_r (n := (S.length : Int)) (s := s) (t := σ.2.1 4 - 1) (i := i) (by omega) (by omega) (by omega) (by omega) (by omega) (by omega)
        have r2 := mvP_r (n := (S.length : Int)) (s := s) (t := σ.2.1 4 - 1) (i := j) (by omega) (by omega) (by omega) (by omega) (by omega) (by omega)
        have := mvP_inj (s := (s : Int)) (t := σ.2.1 4 - 1) (i := i) (j := j) (by omega)
        omega
      · rw [hL] at hi
        rw [er_mv hs i hi, hl]
      · rw [hL] at hi
        have r := mvP_r (n := (S.length : Int)) (s := s) (t := σ.2.1 4 - 1) (i := i) (by omega) (by omega) (by omega) (by omega) (by omega) (by omega)
        rw [dp_g k0 k1 (by omega) (by omega) (by omega) (by omega), Int.toNat_of_nonneg r.1]
    have kp1 : KP sh I sh I1 := KP.l1 B.2.1.1 (by decide) f1
    obtain ⟨I3, R3, x1, W2, x2⟩ := W1.actR (f := fun I => fX10_drop fu sh I R1 (AD 0) (iz (s : Int))) (a := aDrop σ s) (vst_drop W.1.V s) (by rw [es]; exact h0) (fun AD' P gg O => by
      have e := cx_drop (P := P) (R := R1) O W.1.V hfu (show IR (s : Int) from IRn (by omega))
      rw [gg 0 (by decide) (by decide)] at e
      exact e)
    rw [ea] at x1
    refine ⟨⟨by decide, by decide⟩, wB_que3 x1 (fun r9 hr9 => ?_)⟩
    rw [hr9, if_pos (by rw [il1, iz_sub, hl])]
    unfold wL_acts_b668
    refine ⟨⟨by decide, by decide⟩, Or.inr rfl, _, rfl, ?_⟩
    have er : dpS σ.2.1 s = (sDrop σ s).2.1 := by rw [es]; rfl
    rw [er] at W2
    exact hP sh I3 R3 _ _ W2 (kp1.tr (KP.fg W1.1.1 x2))
  · rw [if_neg (by rw [ile il4 rfl ⟨by decide, by decide⟩ (IRn (by omega))]; omega)]
    exact ⟨⟨by decide, by decide⟩, _, rfl, hP sh I R σ S W (KP.rf sh I)⟩
end AC
