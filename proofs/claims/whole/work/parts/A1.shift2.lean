/-! STAGE 2: shift and drop of the reference -/
def swP (a b i : Int) : Int := if i = a then b else if i = b then a else i
def exK (ρ : RHO) (a b k : Int) : RHO := fun j => if (47 ≤ j ∧ j < 119) ∧ (j - 47) % 6 < k then ρ (47 + 6 * swP a b ((j - 47) / 6) + (j - 47) % 6) else ρ j
theorem swP_r {a b i : Int} (a0 : 0 ≤ a) (a1 : a < 12) (b0 : 0 ≤ b) (b1 : b < 12) (i0 : 0 ≤ i) (i1 : i < 12) : 0 ≤ swP a b i ∧ swP a b i < 12 := by
  unfold swP
  split
  · omega
  · split <;> omega
theorem sw_up {s i m : Int} (h : s ≤ i) : mvP s i (swP i (i + 1) m) = mvP s (i + 1) m := by
  unfold swP
  by_cases h1 : m = i
  · rw [if_pos h1]
    unfold mvP
    rw [if_neg (by omega), if_neg (by omega), if_neg (by omega), if_neg (by omega), if_pos (by omega)]
    omega
  · rw [if_neg h1]
    by_cases h2 : m = i + 1
    · rw [if_pos h2]
      unfold mvP
      rw [if_pos rfl, if_pos h2]
    · rw [if_neg h2]
      unfold mvP
      rw [if_neg h1, if_neg h2]
      by_cases h3 : s ≤ m ∧ m < i
      · rw [if_pos h3, if_pos (by omega)]
      · rw [if_neg h3, if_neg (show ¬ (s ≤ m ∧ m < i + 1) by omega), if_neg (by omega), if_neg (by omega)]
theorem sw_dn {s i m : Int} (h : i ≤ s) : mvP s i (swP i (i - 1) m) = mvP s (i - 1) m := by
  unfold swP
  by_cases h1 : m = i
  · rw [if_pos h1]
    unfold mvP
    rw [if_neg (by omega), if_neg (by omega), if_neg (by omega), if_neg (by omega), if_neg (by omega), if_pos (by omega)]
    omega
  · rw [if_neg h1]
    by_cases h2 : m = i - 1
    · rw [if_pos h2]
      unfold mvP
      rw [if_pos rfl, if_pos h2]
    · rw [if_neg h2]
      unfold mvP
      rw [if_neg h1, if_neg h2, if_neg (show ¬ (s ≤ m ∧ m < i) by omega), if_neg (show ¬ (s ≤ m ∧ m < i - 1) by omega)]
      by_cases h3 : i < m ∧ m ≤ s
      · rw [if_pos h3, if_pos (by omega)]
      · rw [if_neg h3, if_neg (by omega)]
theorem sh_sh {ρ : RHO} {q1 q2 q3 : Int → Int} (hr : ∀ m, 0 ≤ m → m < 12 → 0 ≤ q2 m ∧ q2 m < 12) (h : ∀ m, q1 (q2 m) = q3 m) : ∀ j, shP (shP ρ q1) q2 j = shP ρ q3 j := by
  intro j
  by_cases z : 47 ≤ j ∧ j < 119
  · have r := hr ((j - 47) / 6) (by omega) (by omega)
    have e1 : shP (shP ρ q1) q2 j = shP ρ q1 (47 + 6 * q2 ((j - 47) / 6) + (j - 47) % 6) := by unfold shP; rw [if_pos z]
    have e2 : shP ρ q3 j = ρ (47 + 6 * q3 ((j - 47) / 6) + (j - 47) % 6) := by unfold shP; rw [if_pos z]
    rw [e1, e2, ← h]
    generalize q2 ((j - 47) / 6) = m at r
    unfold shP
    rw [if_pos (by omega)]
    have e3 : (47 + 6 * m + (j - 47) % 6 - 47) / 6 = m := by omega
    have e4 : (47 + 6 * m + (j - 47) % 6 - 47) % 6 = (j - 47) % 6 := by omega
    rw [e3, e4]
  · unfold shP
    rw [if_neg z, if_neg z, if_neg z]
section Q36
variable {fu : Nat} {sh : HS} {I I' J : HI} {R R' : HR} {AD : Int → Nat} {P : Int → Int → Int} {σ σ' : STT} {ρ ρ' : RHO} {p p' : Int → Int} {s t a b : Int}
theorem RW.cg (H : RW I AD ρ) (h : ∀ j, 0 ≤ j → j < 119 → ρ' j = ρ j) : RW I AD ρ' := fun j g0 g1 => by rw [h j g0 g1]; exact H j g0 g1
theorem r_ex_loop (S : OKS sh AD) (M : MR R AD) (a0 : 0 ≤ a) (a1 : a < 12) (b0 : 0 ≤ b) (b1 : b < 12) (ne : ¬ a = b) : ∀ d j k : Nat, k + d = 6 → d < j → ∀ I : HI, RW I AD (exK ρ a b k) →
    ∃ I', fX11_exchange_l2 fu sh R j I (AD 316) (iz a) (iz b) (iz (k : Int)) = some I' ∧ RW I' AD (shP ρ (swP a b)) ∧ FR AD I I' (fun i _ => i = 317) := by
  intro d
  induction d with
  | zero =>
    intro j k hk hj I H
    obtain ⟨j, rfl⟩ : ∃ t, j = t + 1 := ⟨j - 1, by omega⟩
    have e : k = 6 := by omega
    subst e
    refine ⟨I, ?_, H.cg (fun j g0 g1 => ?_), FR.rf _ _ _⟩
    · show fX11_exchange_b2 fu sh R (fX11_exchange_l2 fu sh R j) I _ _ _ _ = _
      simp only [fX11_exchange_b2, iz_lit]
      rw [if_pos (by rw [iz_le (by decide) (by decide) (by decide) (by decide)]; decide)]
    · unfold shP exK
      by_cases z : 47 ≤ j ∧ j < 119
      · rw [if_pos z, if_pos (by omega)]
      · rw [if_neg z, if_neg (fun k => z k.1)]
  | succ d ih =>
    intro j k hk hj I H
    obtain ⟨j, rfl⟩ : ∃ t, j = t + 1 := ⟨j - 1, by omega⟩
    have ek : iz (k : Int) + iz 1 = iz ((k + 1 : Nat) : Int) := by rw [iz_add]; rfl
    have va : gS (exK ρ a b k) a k = ρ (47 + 6 * a + k) := by unfold gS exK; rw [if_neg (by omega)]
    have vb : gS (exK ρ a b k) b k = ρ (47 + 6 * b + k) := by unfold gS exK; rw [if_neg (by omega)]
    have H1 := RW.w1 S H (j := 47 + 6 * a + k) (by omega) (ρ (47 + 6 * b + k))
    have H2 := RW.w1 S H1 (j := 47 + 6 * b + k) (by omega) (ρ (47 + 6 * a + k))
    have F : FR AD I (u2 (u2 I (AD 317) (47 + 6 * a + (k : Int)).toNat (iz (ρ (47 + 6 * b + k)))) (AD 317) (47 + 6 * b + (k : Int)).toNat (iz (ρ (47 + 6 * a + k)))) (fun i _ => i = 317) := FR.u2 S (by decide) (by decide) rfl (FR.u2 S (by decide) (by decide) rfl (FR.rf AD I _))
    obtain ⟨I', e, g1, g2⟩ := ih j (k + 1) (by omega) (by omega) _ (H2.cg (fun i i0 i1 => by
      unfold up1
      by_cases z1 : i = 47 + 6 * b + k
      · rw [if_pos z1, z1]
        unfold exK
        rw [if_pos (by omega)]
        have e3 : (47 + 6 * b + (k : Int) - 47) / 6 = b := by omega
        have e4 : (47 + 6 * b + (k : Int) - 47) % 6 = k := by omega
        rw [e3, e4]
        unfold swP
        rw [if_neg (fun q => ne q.symm), if_pos rfl]
      · rw [if_neg z1]
        by_cases z2 : i = 47 + 6 * a + k
        · rw [if_pos z2, z2]
          unfold exK
          rw [if_pos (by omega)]
          have e3 : (47 + 6 * a + (k : Int) - 47) / 6 = a := by omega
          have e4 : (47 + 6 * a + (k : Int) - 47) % 6 = k := by omega
          rw [e3, e4]
          unfold swP
          rw [if_pos rfl]
        · rw [if_neg z2]
          unfold exK
          by_cases z3 : (47 ≤ i ∧ i < 119) ∧ (i - 47) % 6 < k
          · rw [if_pos z3, if_pos (by omega)]
          · rw [if_neg z3]
            by_cases z4 : (47 ≤ i ∧ i < 119) ∧ (i - 47) % 6 < ((k + 1 : Nat) : Int)
            · rw [if_pos z4]
              have ea : ¬ (i - 47) / 6 = a := by omega
              have eb : ¬ (i - 47) / 6 = b := by omega
              unfold swP
              rw [if_neg ea, if_neg eb]
              congr 1
              omega
            · rw [if_neg z4]))
    refine ⟨I', ?_, g1, F.tr g2⟩
    rw [← e]
    show fX11_exchange_b2 fu sh R (fX11_exchange_l2 fu sh R j) I _ _ _ _ = _
    simp only [fX11_exchange_b2, iz_lit, r_get S M H a0 a1 (show 0 ≤ (k : Int) by omega) (show (k : Int) < 6 by omega), r_get S M H b0 b1 (show 0 ≤ (k : Int) by omega) (show (k : Int) < 6 by omega), va, vb, bsome]
    rw [if_neg (by rw [iz_le (by decide) (by decide) (by omega) (by omega)]; omega), r_set S M a0 a1 (by omega) (by omega), bsome, r_set S M b0 b1 (by omega) (by omega), bsome, ek]
theorem r_exch (S : OKS sh AD) (M : MR R AD) (hfu : 5000 ≤ fu) (H : RW I AD ρ) (a0 : 0 ≤ a) (a1 : a < 12) (b0 : 0 ≤ b) (b1 : b < 12) (ne : ¬ a = b) : ∃ I', fX11_exchange fu sh I R (AD 316) (iz a) (iz b) = some I' ∧ RW I' AD (shP ρ (swP a b)) ∧ FR AD I I' (fun i _ => i = 317) := by
  obtain ⟨I', e, g⟩ := r_ex_loop (fu := fu) (ρ := ρ) S M a0 a1 b0 b1 ne 6 fu 0 (by decide) (by omega) I (H.cg (fun j g0 g1 => by
    unfold exK
    rw [if_neg (by omega)]))
  refine ⟨I', ?_, g⟩
  simp only [fX11_exchange, if_pos (isT_of S.md), iz_lit]
  exact e
theorem r_sh_up (S : OKS sh AD) (M : MR R AD) (V : VB ρ) (hfu : 5000 ≤ fu) (s0 : 0 ≤ s) (s1 : s < ρ 4) (t0 : 0 ≤ t) (t1 : t < ρ 4) (e : scS ρ s = scS ρ t) : ∀ d j : Nat, ∀ i : Int, s ≤ i → i ≤ t → (t - i).toNat = d → d < j → ∀ I : HI, RW I AD (shP ρ (mvP s i)) →
    ∃ I', fX11_shift_l64 fu sh R j I (AD 316) (iz t) (iz 1) (iz i) = some (iz (faultS (shP ρ (mvP s t))), I') ∧ RW I' AD (shP ρ (mvP s t)) ∧ FR AD I I' (fun i _ => i = 317) := by
  have hn := V.n
  intro d
  induction d with
  | zero =>
    intro j i i0 i1 hd hj I H
    obtain ⟨j, rfl⟩ : ∃ t, j = t + 1 := ⟨j - 1, by omega⟩
    have it : i = t := by omega
    subst it
    refine ⟨I, ?_, H, FR.rf _ _ _⟩
    show fX11_shift_b64 fu sh R (fX11_shift_l64 fu sh R j) I _ _ _ _ = _
    simp only [fX11_shift_b64]
    rw [if_pos True.intro, r_faults S M H (shP_V V s0 s1 t0 t1 e) hfu, bsome]
  | succ d ih =>
    intro j i i0 i1 hd hj I H
    obtain ⟨j, rfl⟩ : ∃ t, j = t + 1 := ⟨j - 1, by omega⟩
    obtain ⟨J, e1, H1, F1⟩ := r_exch (fu := fu) (a := i) (b := i + 1) S M hfu H (by omega) (by omega) (by omega) (by omega) (by omega)
    obtain ⟨I', e2, g1, g2⟩ := ih j (i + 1) (by omega) (by omega) (by omega) (by omega) J (H1.cg (fun m _ _ => (sh_sh (fun m m0 m1 => swP_r (by omega) (by omega) (by omega) (by omega) m0 m1) (fun m => sw_up i0) m).symm))
    refine ⟨I', ?_, g1, F1.tr g2⟩
    rw [← e2]
    show fX11_shift_b64 fu sh R (fX11_shift_l64 fu sh R j) I _ _ _ _ = _
    simp only [fX11_shift_b64, iz_add]
    rw [if_neg (by rw [iz_eq (by omega) (by omega) (by omega) (by omega)]; omega), e1, bsome]
theorem r_sh_dn (S : OKS sh AD) (M : MR R AD) (V : VB ρ) (hfu : 5000 ≤ fu) (s0 : 0 ≤ s) (s1 : s < ρ 4) (t0 : 0 ≤ t) (t1 : t < ρ 4) (e : scS ρ s = scS ρ t) : ∀ d j : Nat, ∀ i : Int, i ≤ s → t ≤ i → (i - t).toNat = d → d < j → ∀ I : HI, RW I AD (shP ρ (mvP s i)) →
    ∃ I', fX11_shift_l64 fu sh R j I (AD 316) (iz t) (iz (-1)) (iz i) = some (iz (faultS (shP ρ (mvP s t))), I') ∧ RW I' AD (shP ρ (mvP s t)) ∧ FR AD I I' (fun i _ => i = 317) := by
  have hn := V.n
  intro d
  induction d with
  | zero =>
    intro j i i0 i1 hd hj I H
    obtain ⟨j, rfl⟩ : ∃ t, j = t + 1 := ⟨j - 1, by omega⟩
    have it : i = t := by omega
    subst it
    refine ⟨I, ?_, H, FR.rf _ _ _⟩
    show fX11_shift_b64 fu sh R (fX11_shift_l64 fu sh R j) I _ _ _ _ = _
    simp only [fX11_shift_b64]
    rw [if_pos True.intro, r_faults S M H (shP_V V s0 s1 t0 t1 e) hfu, bsome]
  | succ d ih =>
    intro j i i0 i1 hd hj I H
    obtain ⟨j, rfl⟩ : ∃ t, j = t + 1 := ⟨j - 1, by omega⟩
    obtain ⟨J, e1, H1, F1⟩ := r_exch (fu := fu) (a := i) (b := i - 1) S M hfu H (by omega) (by omega) (by omega) (by omega) (by omega)
    obtain ⟨I', e2, g1, g2⟩ := ih j (i - 1) (by omega) (by omega) (by omega) (by omega) J (H1.cg (fun m _ _ => (sh_sh (fun m m0 m1 => swP_r (by omega) (by omega) (by omega) (by omega) m0 m1) (fun m => sw_dn i0) m).symm))
    refine ⟨I', ?_, g1, F1.tr g2⟩
    rw [← e2]
    have en : i + -1 = i - 1 := by omega
    show fX11_shift_b64 fu sh R (fX11_shift_l64 fu sh R j) I _ _ _ _ = _
    simp only [fX11_shift_b64, iz_add, en]
    rw [if_neg (by rw [iz_eq (by omega) (by omega) (by omega) (by omega)]; omega), e1, bsome]
theorem mvP_id {s i : Int} : mvP s s i = i := by
  unfold mvP
  by_cases z : i = s
  · rw [if_pos z, z]
  · rw [if_neg z, if_neg (by omega), if_neg (by omega)]
theorem shP_id {ρ : RHO} {j : Int} : shP ρ (mvP s s) j = ρ j := by
  unfold shP
  by_cases z : 47 ≤ j ∧ j < 119
  · rw [if_pos z, mvP_id]
    congr 1
    omega
  · rw [if_neg z]
theorem ra_shift (S : OKS sh AD) (V : VST σ) (hfu : 5000 ≤ fu) (hs : IR s) (ht : IR t) : RA AD R σ (sShift σ s t) (fun I => fX11_shift fu sh I R (AD 316) (iz s) (iz t)) (aShift σ s t) := by
  have n4 := V.n4
  have e22 : ∀ I, RIB I R AD σ → fX11_shift fu sh I R (AD 316) (iz s) (iz t) = fX11_shift_b22 fu sh R I (AD 316) (iz s) (iz t) (bz (decide ((0 ≤ s ∧ s ≤ σ.2.1 4 - 1) ∧ (0 ≤ t ∧ t ≤ σ.2.1 4 - 1)))) (AD 316) := by
    intro I H
    simp only [fX11_shift, fX11_shift_b21, if_pos (isT_of S.md), r_isShot S H V hs, r_isShot S H V ht, bsome, iz_lit, bz_zero]
    by_cases z : 0 ≤ s ∧ s ≤ σ.2.1 4 - 1
    · rw [if_neg (by rw [(bdec (p := 0 ≤ s) (q := s ≤ σ.2.1 4 - 1)).mpr z]; decide)]
      by_cases w : 0 ≤ t ∧ t ≤ σ.2.1 4 - 1
      · rw [if_neg (by rw [(bdec (p := 0 ≤ t) (q := t ≤ σ.2.1 4 - 1)).mpr w]; decide), decide_eq_true (show (0 ≤ s ∧ s ≤ σ.2.1 4 - 1) ∧ (0 ≤ t ∧ t ≤ σ.2.1 4 - 1) from ⟨z, w⟩)]
        rfl
      · rw [if_pos (fls bdec w), decide_eq_false (fun k => w k.2)]
        rfl
    · rw [if_pos (fls bdec z), decide_eq_false (fun k => z k.1)]
      rfl
  refine RA.of (fu := fu) S e22 (fun h => ?_) (fun h hg => ?_) (fun h hg J HJ e5 => ?_)
  · have : ¬ σ.1 = true := by rw [h]; decide
    unfold aShift sShift
    rw [if_neg this, if_neg this]
    exact ⟨rfl, rfl⟩
  · have := of_decide_eq_false hg
    unfold aShift sShift
    rw [if_pos h, if_pos h, if_neg this, if_neg this]
    exact ⟨rfl, rfl⟩
  · have z := of_decide_eq_true hg
    unfold aShift sShift
    rw [if_pos h, if_pos h, if_pos z, if_pos z]
    obtain ⟨z1, z2⟩ := z
    have W := V.1 h
    have hm := W.m
    have s1 : s < σ.2.1 4 := by omega
    have t1 : t < σ.2.1 4 := by omega
    obtain ⟨v1, -⟩ := W.shot z1.1 s1
    obtain ⟨v2, -⟩ := W.shot z2.1 t1
    simp only [r_sceneOf S HJ.1 HJ.2.1 z1.1 (show s < 12 by omega), r_sceneOf S HJ.1 HJ.2.1 z2.1 (show t < 12 by omega), bsome, iz_lit, iz_neg]
    by_cases e : scS σ.2.1 s = scS σ.2.1 t
    · rw [if_pos e, if_pos e, if_pos (by rw [e])]
      obtain ⟨J1, e1, H1, F1⟩ := r_begin (fu := fu) S HJ V hfu
      have W1 : RW J1 AD (shP σ.2.1 (mvP s s)) := RW.cg H1.2.1 (fun j _ _ => shP_id)
      rw [e1, bsome]
      have fin : ∀ I', RW I' AD (shP σ.2.1 (mvP s t)) → FR AD J1 I' (fun i _ => i = 317) → some (iz (faultS (shP σ.2.1 (mvP s t))), I') = some (rVal (.inl (faultS (shP σ.2.1 (mvP s t)))), I') ∧ I' (AD 316) 5 = rThr (.inl (faultS (shP σ.2.1 (mvP s t)))) ∧ RIB I' R AD (rowS (pushS σ) (shP σ.2.1 (mvP s t))) ∧ FR AD J I' (fun i _ => 316 ≤ i) := by
        intro I' W2 F2
        refine ⟨rfl, ?_, r_done H1 F2 W2, (F1.wd fun i k z => by omega).tr (F2.wd fun i k z => by omega)⟩
        rw [F2 316 (by decide) (by decide) 5 (by omega), F1 316 (by decide) (by decide) 5 (by omega), e5]
        rfl
      by_cases y : t ≤ s
      · rw [if_pos (by rw [iz_le (by omega) (by omega) (by omega) (by omega)]; exact y)]
        obtain ⟨I', e2, W2, F2⟩ := r_sh_dn (fu := fu) S HJ.1 W hfu z1.1 s1 z2.1 t1 e (s - t).toNat fu s (by omega) y rfl (by omega) J1 W1
        refine ⟨I', ?_⟩
        simp only [fX11_shift_b60]
        rw [e2]
        exact fin I' W2 F2
      · rw [if_neg (by rw [iz_le (by omega) (by omega) (by omega) (by omega)]; exact y)]
        obtain ⟨I', e2, W2, F2⟩ := r_sh_up (fu := fu) S HJ.1 W hfu z1.1 s1 z2.1 t1 e (t - s).toNat fu s (by omega) (by omega) rfl (by omega) J1 W1
        refine ⟨I', ?_⟩
        simp only [fX11_shift_b60]
        rw [e2]
        exact fin I' W2 F2
    · rw [if_neg e, if_neg e, if_neg (by rw [iz_eq (by omega) (by omega) (by omega) (by omega)]; exact e)]
      exact ⟨J, rfl, e5, HJ, FR.rf _ _ _⟩
theorem r_dp_loop (S : OKS sh AD) (M : MR R AD) (hn : 0 ≤ ρ 4 ∧ ρ 4 ≤ 12) (s0 : 0 ≤ s) (s1 : s < ρ 4) : ∀ d j : Nat, ∀ k : Int, 47 + 6 * s ≤ k → k ≤ 47 + 6 * (ρ 4 - 1) → (47 + 6 * (ρ 4 - 1) - k).toNat = d → d < j → ∀ I : HI, RW I AD (dpK ρ s k) →
    ∃ I', fX11_drop_l36 fu sh R j I (AD 316) (iz k) = some (iz (ρ 4 - 1), I') ∧ RW I' AD (dpS ρ s) ∧ FR AD I I' (fun i _ => i = 317) := by
  intro d
  induction d with
  | zero =>
    intro j k k0 k1 hd hj I H
    obtain ⟨j, rfl⟩ : ∃ t, j = t + 1 := ⟨j - 1, by omega⟩
    have e : k = 47 + 6 * (ρ 4 - 1) := by omega
    have v4 : dpK ρ s k 4 = ρ 4 - 1 := by unfold dpK; rw [if_pos rfl]
    refine ⟨I, ?_, by rw [e] at H; exact H, FR.rf _ _ _⟩
    show fX11_drop_b36 fu sh R (fX11_drop_l36 fu sh R j) I _ _ = _
    simp only [fX11_drop_b36, oR_at S.md M.1.1, bsome, iz_lit, r_row S M H (by decide : (0 : Int) ≤ 4) (by decide : (4 : Int) < 119), v4, iz_mul, iz_add]
    rw [if_pos (by rw [iz_le (by omega) (by omega) (by omega) (by omega)]; omega)]
  | succ d ih =>
    intro j k k0 k1 hd hj I H
    obtain ⟨j, rfl⟩ : ∃ t, j = t + 1 := ⟨j - 1, by omega⟩
    have v4 : dpK ρ s k 4 = ρ 4 - 1 := by unfold dpK; rw [if_pos rfl]
    have v6 : dpK ρ s k (k + 6) = ρ (k + 6) := by unfold dpK; rw [if_neg (by omega), if_neg (by omega)]
    have H1 := RW.w1 S H (j := k) (by omega) (ρ (k + 6))
    have F : FR AD I (u2 I (AD 317) k.toNat (iz (ρ (k + 6)))) (fun i _ => i = 317) := FR.u2 S (by decide) (by decide) rfl (FR.rf AD I _)
    obtain ⟨I', e, g1, g2⟩ := ih j (k + 1) (by omega) (by omega) (by omega) (by omega) _ (H1.cg (fun i i0 i1 => by
      unfold up1 dpK
      by_cases z : i = k
      · rw [if_neg (by omega), if_pos (by omega), if_pos z, z]
      · rw [if_neg z]
        by_cases z4 : i = 4
        · rw [if_pos z4, if_pos z4]
        · rw [if_neg z4, if_neg z4]
          by_cases z5 : 47 + 6 * s ≤ i ∧ i < k
          · rw [if_pos z5, if_pos (by omega)]
          · rw [if_neg z5, if_neg (by omega)]))
    refine ⟨I', ?_, g1, F.tr g2⟩
    rw [← e]
    show fX11_drop_b36 fu sh R (fX11_drop_l36 fu sh R j) I _ _ = _
    simp only [fX11_drop_b36, oR_at S.md M.1.1, bsome, iz_lit, r_row S M H (by decide : (0 : Int) ≤ 4) (by decide : (4 : Int) < 119), v4, iz_mul, iz_add, r_row S M H (show 0 ≤ k + 6 by omega) (show k + 6 < 119 by omega), v6]
    rw [if_neg (by rw [iz_le (by omega) (by omega) (by omega) (by omega)]; omega), oS_iz S.rw (by omega) (by omega) (by omega), bsome]
theorem ra_drop (S : OKS sh AD) (V : VST σ) (hfu : 5000 ≤ fu) (hs : IR s) : RA AD R σ (sDrop σ s) (fun I => fX11_drop fu sh I R (AD 316) (iz s)) (aDrop σ s) := by
  have n4 := V.n4
  have e22 : ∀ I, RIB I R AD σ → fX11_drop fu sh I R (AD 316) (iz s) = oH (fX11_isWrong fu sh I R (AD 316) (bz (decide (0 ≤ s) && decide (s ≤ σ.2.1 4 - 1)))) fun v2 w2 => if v2 = 0 then ((fX11_remember fu sh w2 R (AD 316)).bind fun w3 => (oR sh R (AD 316) 9 0).bind fun v4 => (oA sh w3 v4 4).bind fun v5 => (oS sh w3 v4 4 (v5 - 1)).bind fun v6 => (fX11_drop_l36 fu sh R fu) v6 (AD 316) (47 + (6 * (iz s)))) else some (0, w2) := by
    intro I H
    simp only [fX11_drop, if_pos (isT_of S.md), r_isShot S H V hs, bsome]
  refine RA.of (fu := fu) S e22 (fun h => ?_) (fun h hg => ?_) (fun h hg J HJ e5 => ?_)
  · have : ¬ σ.1 = true := by rw [h]; decide
    unfold aDrop sDrop
    rw [if_neg this, if_neg this]
    exact ⟨rfl, rfl⟩
  · have : ¬ (0 ≤ s ∧ s ≤ σ.2.1 4 - 1) := fun k => by
      rw [bdec.mpr k] at hg
      exact absurd hg (by decide)
    unfold aDrop sDrop
    rw [if_pos h, if_pos h, if_neg this, if_neg this]
    exact ⟨rfl, rfl⟩
  · have z := bdec.mp hg
    unfold aDrop sDrop
    rw [if_pos h, if_pos h, if_pos z, if_pos z]
    have W := V.1 h
    have s1 : s < σ.2.1 4 := by omega
    obtain ⟨J1, e1, H1, F1⟩ := r_begin (fu := fu) S HJ V hfu
    have W1 : RW J1 AD σ.2.1 := H1.2.1
    have W2 := RW.w1 S W1 (j := 4) (by decide) (σ.2.1 4 - 1)
    have F2 : FR AD J1 (u2 J1 (AD 317) (4 : Int).toNat (iz (σ.2.1 4 - 1))) (fun i _ => i = 317) := FR.u2 S (by decide) (by decide) rfl (FR.rf AD J1 _)
    obtain ⟨I', e2, W3, F3⟩ := r_dp_loop (fu := fu) S HJ.1 W.n z.1 s1 (47 + 6 * (σ.2.1 4 - 1) - (47 + 6 * s)).toNat fu (47 + 6 * s) (by omega) (by omega) rfl (by omega) _ (W2.cg (fun i i0 i1 => by
      unfold up1 dpK
      by_cases z4 : i = 4
      · rw [if_pos z4, if_pos z4]
      · rw [if_neg z4, if_neg z4, if_neg (by omega)]))
    refine ⟨I', ?_, ?_, r_done H1 (F2.tr F3) W3, (F1.wd fun i k z => by omega).tr ((F2.tr F3).wd fun i k z => by omega)⟩
    · simp only [e1, bsome, oR_at S.md HJ.1.1.1, iz_lit, r_row S HJ.1 W1 (by decide : (0 : Int) ≤ 4) (by decide : (4 : Int) < 119), iz_sub, oS_iz S.rw (show (0 : Int) ≤ 4 by decide) (show (4 : Int) < (119 : Nat) by decide) (by decide), iz_mul, iz_add]
      exact e2
    · rw [F3 316 (by decide) (by decide) 5 (by omega), F2 316 (by decide) (by decide) 5 (by omega), F1 316 (by decide) (by decide) 5 (by omega), e5]
      rfl
end Q36
