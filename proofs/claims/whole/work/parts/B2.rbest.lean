/-! STAGE 2: bestShot of the reference -/
section Q43
variable {fu : Nat} {sh : HS} {I I' J : HI} {R : HR} {AD : Int → Nat} {P : Int → Int → Int} {σ : STT} {ρ ρ' : RHO} {m f : Nat} {o : List Nat}
theorem r_fo_a (S : OKS sh AD) (M : MR R AD) (k29 : HI → Nat → Int32 → Int32 → Option HI) (x y : Int32) : ∀ d j k : Nat, k + d = 72 → d < j → ∀ I : HI, RW I AD ρ → AR I AD 323 k (fun k => ρ (47 + (k : Int))) →
    ∃ I', fX11_findOrder_l2 fu sh R k29 j I (AD 316) x y (iz (k : Int)) = k29 I' (AD 316) x y ∧ ASD I' AD ρ ∧ FR AD I I' (fun i _ => i = 323) := by
  intro d
  induction d with
  | zero =>
    intro j k hk hj I H A
    obtain ⟨j, rfl⟩ : ∃ t, j = t + 1 := ⟨j - 1, by omega⟩
    have e : k = 72 := by omega
    subst e
    refine ⟨I, ?_, A, FR.rf _ _ _⟩
    show fX11_findOrder_b2 fu sh R (fX11_findOrder_l2 fu sh R k29 j) k29 I _ _ _ _ = _
    simp only [fX11_findOrder_b2, iz_lit]
    rw [if_pos (by rw [iz_le (by decide) (by decide) (by decide) (by decide)]; decide)]
  | succ d ih =>
    intro j k hk hj I H A
    obtain ⟨j, rfl⟩ : ∃ t, j = t + 1 := ⟨j - 1, by omega⟩
    have ek : iz (k : Int) + iz 1 = iz ((k + 1 : Nat) : Int) := by rw [iz_add]; rfl
    have A2 := AR.put S (by decide) (by decide) (n' := k + 1) (j := k) A (ρ (47 + (k : Int))) (fun t ht ne => by omega)
    have F : FR AD I (u2 I (AD 323) k (iz (ρ (47 + (k : Int))))) (fun i _ => i = 323) := FR.u2 S (by decide) (by decide) rfl (FR.rf AD I _)
    obtain ⟨I', e, g1, g2⟩ := ih j (k + 1) (by omega) (by omega) _ (H.fr F (fun _ => by decide)) (fun t ht => by
      rw [A2 t ht]
      unfold up
      by_cases z : t = k
      · rw [if_pos z, z]
      · rw [if_neg z])
    refine ⟨I', ?_, g1, F.tr g2⟩
    rw [← e]
    show fX11_findOrder_b2 fu sh R (fX11_findOrder_l2 fu sh R k29 j) k29 I _ _ _ _ = _
    simp only [fX11_findOrder_b2, iz_lit, oR_at S.md M.1.2.2.2.2.2.2, oR_at S.md M.1.1, bsome, iz_add 47, r_row S M H (show 0 ≤ 47 + (k : Int) by omega) (show 47 + (k : Int) < 119 by omega), oS_nat (S.at (i := 323) (t := 20) (n := 72) rfl (by decide) (by decide)) (show k < 72 by omega) (by decide), ek]
    rw [if_neg (by rw [iz_le (by decide) (by decide) (by omega) (by omega)]; omega)]
theorem r_fo_i (S : OKS sh AD) (M : MR R AD) (hm6 : m ≤ 6) (k49 : HI → Nat → Int32 → Int32 → Option HI) (x : Int32) : ∀ d j k : Nat, k + d = m → d < j → ∀ I : HI, AR I AD 321 k (fun k => (k : Int)) →
    ∃ I', fX11_findOrder_l31 fu sh R k49 j I (AD 316) x (iz (m : Int)) (iz (k : Int)) = k49 I' (AD 316) x (iz (m : Int)) ∧ AR I' AD 321 m (fun k => (k : Int)) ∧ FR AD I I' (fun i _ => i = 321) := by
  intro d
  induction d with
  | zero =>
    intro j k hk hj I A
    obtain ⟨j, rfl⟩ : ∃ t, j = t + 1 := ⟨j - 1, by omega⟩
    have e : k = m := by omega
    subst e
    refine ⟨I, ?_, A, FR.rf _ _ _⟩
    show fX11_findOrder_b31 fu sh R (fX11_findOrder_l31 fu sh R k49 j) k49 I _ _ _ _ = _
    simp only [fX11_findOrder_b31]
    rw [if_pos (by rw [iz_le (by omega) (by omega) (by omega) (by omega)]; omega)]
  | succ d ih =>
    intro j k hk hj I A
    obtain ⟨j, rfl⟩ : ∃ t, j = t + 1 := ⟨j - 1, by omega⟩
    have ek : iz (k : Int) + iz 1 = iz ((k + 1 : Nat) : Int) := by rw [iz_add]; rfl
    have A2 := AR.put S (by decide) (by decide) (n' := k + 1) (j := k) A (k : Int) (fun t ht ne => by omega)
    have F : FR AD I (u2 I (AD 321) k (iz (k : Int))) (fun i _ => i = 321) := FR.u2 S (by decide) (by decide) rfl (FR.rf AD I _)
    obtain ⟨I', e, g1, g2⟩ := ih j (k + 1) (by omega) (by omega) (u2 I (AD 321) k (iz (k : Int))) (fun t ht => by
      rw [A2 t ht]
      unfold up
      by_cases z : t = k
      · rw [if_pos z, z]
      · rw [if_neg z])
    refine ⟨I', ?_, g1, F.tr g2⟩
    rw [← e]
    show fX11_findOrder_b31 fu sh R (fX11_findOrder_l31 fu sh R k49 j) k49 I _ _ _ _ = _
    simp only [fX11_findOrder_b31, iz_lit, oR_at S.md M.1.2.2.2.2.1, bsome, oS_nat (k321 S) (show k < 6 by omega) (by decide), ek]
    rw [if_neg (by rw [iz_le (by omega) (by omega) (by omega) (by omega)]; omega)]
theorem r_fo_r (S : OKS sh AD) (M : MR R AD) : ∀ d j k : Nat, k + d = 72 → d < j → ∀ I : HI, (∀ i : Int, 0 ≤ i → i < 47 + k → I (AD 317) i.toNat = iz (ρ i)) → ASD I AD ρ →
    ∃ I', fX11_findOrder_l141 fu sh R j I (AD 316) (iz (k : Int)) = some I' ∧ RW I' AD ρ ∧ FR AD I I' (fun i _ => i = 317) := by
  intro d
  induction d with
  | zero =>
    intro j k hk hj I H A
    obtain ⟨j, rfl⟩ : ∃ t, j = t + 1 := ⟨j - 1, by omega⟩
    have e : k = 72 := by omega
    subst e
    refine ⟨I, ?_, fun i i0 i1 => H i i0 (by omega), FR.rf _ _ _⟩
    show fX11_findOrder_b141 fu sh R (fX11_findOrder_l141 fu sh R j) I _ _ = _
    simp only [fX11_findOrder_b141, iz_lit]
    rw [if_pos (by rw [iz_le (by decide) (by decide) (by decide) (by decide)]; decide)]
  | succ d ih =>
    intro j k hk hj I H A
    obtain ⟨j, rfl⟩ : ∃ t, j = t + 1 := ⟨j - 1, by omega⟩
    have ek : iz (k : Int) + iz 1 = iz ((k + 1 : Nat) : Int) := by rw [iz_add]; rfl
    have v : I (AD 323) k = iz (ρ (47 + (k : Int))) := A k (by omega)
    have F : FR AD I (u2 I (AD 317) (47 + (k : Int)).toNat (iz (ρ (47 + (k : Int))))) (fun i _ => i = 317) := FR.u2 S (by decide) (by decide) rfl (FR.rf AD I _)
    obtain ⟨I', e, g1, g2⟩ := ih j (k + 1) (by omega) (by omega) _ (fun i i0 i1 => by
      rw [u2_ad S (by decide) (by decide) (by decide) (by decide)]
      by_cases z : i = 47 + (k : Int)
      · rw [if_pos ⟨rfl, by rw [z]⟩, z]
      · rw [if_neg (by omega)]
        exact H i i0 (by omega)) (A.fr F (by decide) (by decide) (fun _ => by decide))
    refine ⟨I', ?_, g1, F.tr g2⟩
    rw [← e]
    show fX11_findOrder_b141 fu sh R (fX11_findOrder_l141 fu sh R j) I _ _ = _
    simp only [fX11_findOrder_b141, iz_lit, oR_at S.md M.1.2.2.2.2.2.2, oR_at S.md M.1.1, bsome, iz_add 47, oA_nat (S.at (i := 323) (t := 20) (n := 72) rfl (by decide) (by decide)) (show k < 72 by omega) (by decide), v, oS_iz S.rw (show 0 ≤ 47 + (k : Int) by omega) (show 47 + (k : Int) < (119 : Nat) by omega) (by omega), ek]
    rw [if_neg (by rw [iz_le (by decide) (by decide) (by omega) (by omega)]; omega)]
/-- the order kept as the best one -/
theorem r_fo_c (S : OKS sh AD) (M : MR R AD) (hm6 : m ≤ 6) {l v : Int} (hv : 0 ≤ v ∧ v ≤ 48) (hl : l = -1 ∨ (v < l ∧ l ≤ 48)) (k111 : HI → Nat → Int32 → Int32 → Int32 → Int32 → Option HI) (x : Int32) : ∀ d j k : Nat, k + d = m → d < j → ∀ I : HI, OLR I AD m o → AR I AD 322 k (fun k => (o.getD k 0 : Int)) →
    ∃ I', fX11_findOrder_l74 fu sh R k111 j I (AD 316) x (iz (m : Int)) (iz l) (iz v) (iz (k : Int)) = k111 I' (AD 316) x (iz (m : Int)) (iz l) (iz v) ∧ AR I' AD 322 m (fun k => (o.getD k 0 : Int)) ∧ FR AD I I' (fun i _ => i = 322) := by
  intro d
  induction d with
  | zero =>
    intro j k hk hj I O A
    obtain ⟨j, rfl⟩ : ∃ t, j = t + 1 := ⟨j - 1, by omega⟩
    have e : k = m := by omega
    subst e
    refine ⟨I, ?_, A, FR.rf _ _ _⟩
    show fX11_findOrder_b74 fu sh R (fX11_findOrder_l74 fu sh R k111 j) k111 I _ _ _ _ _ _ = _
    simp only [fX11_findOrder_b74]
    rw [if_pos (by rw [iz_le (by omega) (by omega) (by omega) (by omega)]; omega)]
  | succ d ih =>
    intro j k hk hj I O A
    obtain ⟨j, rfl⟩ : ∃ t, j = t + 1 := ⟨j - 1, by omega⟩
    have ek : iz (k : Int) + iz 1 = iz ((k + 1 : Nat) : Int) := by rw [iz_add]; rfl
    have A2 := AR.put S (by decide) (by decide) (n' := k + 1) (j := k) A (o.getD k 0 : Int) (fun t ht ne => by omega)
    have F : FR AD I (u2 I (AD 322) k (iz (o.getD k 0 : Int))) (fun i _ => i = 322) := FR.u2 S (by decide) (by decide) rfl (FR.rf AD I _)
    obtain ⟨I', e, g1, g2⟩ := ih j (k + 1) (by omega) (by omega) _ (AR.fr O F (by decide) (by decide) (fun _ => by decide)) (fun t ht => by
      rw [A2 t ht]
      unfold up
      by_cases z : t = k
      · rw [if_pos z, z]
      · rw [if_neg z])
    refine ⟨I', ?_, g1, F.tr g2⟩
    rw [← e]
    show fX11_findOrder_b74 fu sh R (fX11_findOrder_l74 fu sh R k111 j) k111 I _ _ _ _ _ _ = _
    simp only [fX11_findOrder_b74, fX11_findOrder_b91, iz_lit, iz_neg, oR_at S.md M.1.2.2.2.2.1, oR_at S.md M.1.2.2.2.2.2.1, bsome, oA_nat (k321 S) (show k < 6 by omega) (by decide), O k (by omega), oS_nat (S.at (i := 322) (t := 20) (n := 6) rfl (by decide) (by decide)) (show k < 6 by omega) (by decide), ek]
    rw [if_neg (by rw [iz_le (by omega) (by omega) (by omega) (by omega)]; omega)]
    rcases hl with hl | hl
    · rw [if_pos (by rw [hl])]
    · rw [if_neg (by rw [iz_eq (by omega) (by omega) (by decide) (by decide)]; omega), if_neg (by rw [iz_le (by omega) (by omega) (by omega) (by omega)]; omega)]
theorem r_fo_main (S : OKS sh AD) (M : MR R AD) (V : VB ρ) (hfu : 5000 ≤ fu) {c : Int} (hfm : (f : Int) + m ≤ ρ 4) (hm0 : 0 < m) (hm6 : m ≤ 6) (hsc : ∀ s : Int, (f : Int) ≤ s → s < (f : Int) + m → scS ρ s = c) (k138 : HI → Nat → Option HI) : ∀ r j : Nat, ∀ (o : List Nat) (L : List (List Nat)) (l : Int) (b : List Nat) (ρ' : RHO) (I : HI), L.length = r → r + 2 ≤ j → chO m (o :: L) = true → (∀ y, y ∈ o :: L → okO m y = true) → RW I AD ρ' → BLK ρ ρ' f m → ASD I AD ρ → OLR I AD m o → (l = -1 ∨ (0 ≤ l ∧ l ≤ 48 ∧ AR I AD 322 m (fun k => (b.getD k 0 : Int)))) →
    ∃ I' ρ2, fX11_findOrder_l54 fu sh R k138 j I (AD 316) (iz (f : Int)) (iz (m : Int)) (iz l) (iz 1) = k138 I' (AD 316) ∧ AR I' AD 322 m (fun k => (((fmF (fun y => faultS (shP ρ (qB f m y))) (o :: L) l b).2).getD k 0 : Int)) ∧ RW I' AD ρ2 ∧ BLK ρ ρ2 f m ∧ ASD I' AD ρ ∧ FR AD I I' (fun i _ => i = 317 ∨ i = 321 ∨ i = 322) := by
  have hn := V.n
  intro r
  induction r with
  | zero =>
    intro j o L l b ρ' I hr hj hc hok H hb A O hl
    obtain ⟨j, rfl⟩ : ∃ t, j = t + 2 := ⟨j - 2, by omega⟩
    have hL : L = [] := List.eq_nil_of_length_eq_zero hr
    subst hL
    have ok := hok o (List.mem_cons_self ..)
    unfold okO at ok
    simp only [Bool.and_eq_true, Bool.or_eq_true, beq_iff_eq, List.all_eq_true, decide_eq_true_eq, List.mem_range] at ok
    obtain ⟨⟨ol, ok2⟩, ok3⟩ := ok
    have olt : ∀ k, k < m → o.getD k 0 < m := fun k hk => (ok2 k hk).2
    obtain ⟨J1, e1, H1, F1⟩ := r_lay (fu := fu) (o := o) S M hfu (show f + m ≤ 12 by omega) hm6 olt H hb A O
    have V2 := shQ_V V (qB_Q V hfm hsc olt)
    have fr := fault_range V2
    have O1 : OLR J1 AD m o := AR.fr O F1 (by decide) (by decide) (fun _ => by decide)
    have A1 : ASD J1 AD ρ := A.fr F1 (by decide) (by decide) (fun _ => by decide)
    have B2 : BLK ρ (shP ρ (qB f m o)) f m := by
      intro i i0 i1 ni
      unfold shP
      by_cases w : 47 ≤ i ∧ i < 119
      · rw [if_pos w, qB_out (by omega)]; congr 1; omega
      · rw [if_neg w]
    have hno : nxO m o = none := by
      have : (nxO m o == none) = true := hc
      exact (beq_iff_eq.mp this)
    have fin : ∀ (J2 : HI) (l2 : Int), OLR J2 AD m o → fX11_findOrder_b127 fu sh R (fX11_findOrder_l54 fu sh R k138 (j + 1)) k138 J2 (AD 316) (iz (f : Int)) (iz (m : Int)) (iz l2) = k138 J2 (AD 316) := by
      intro J2 l2 O2
      have nx := (r_next (fu := fu) S M hfu hm0 hm6 ol olt ok3 O2).1 hno
      simp only [fX11_findOrder_b127, nx, oHs]
      show fX11_findOrder_b54 fu sh R (fX11_findOrder_l54 fu sh R k138 j) k138 J2 _ _ _ _ _ = _
      simp only [fX11_findOrder_b54, iz_lit]
      rw [if_pos True.intro]
    have hd : fX11_findOrder_l54 fu sh R k138 (j + 2) I (AD 316) (iz (f : Int)) (iz (m : Int)) (iz l) (iz 1) = fX11_findOrder_l74 fu sh R (fX11_findOrder_b111 fu sh R (fX11_findOrder_l54 fu sh R k138 (j + 1)) k138) fu J1 (AD 316) (iz (f : Int)) (iz (m : Int)) (iz l) (iz (faultS (shP ρ (qB f m o)))) (iz ((0 : Nat) : Int)) := by
      show fX11_findOrder_b54 fu sh R (fX11_findOrder_l54 fu sh R k138 (j + 1)) k138 I _ _ _ _ _ = _
      simp only [fX11_findOrder_b54, iz_lit]
      rw [if_neg (by rw [iz_eq (by decide) (by decide) (by decide) (by decide)]; decide), e1, bsome, r_faults S M H1 V2 hfu, bsome]
      rfl
    have un : fmF (fun y => faultS (shP ρ (qB f m y))) [o] l b = if l = -1 ∨ faultS (shP ρ (qB f m o)) < l then (faultS (shP ρ (qB f m o)), o) else (l, b) := rfl
    rw [un]
    by_cases z : l = -1 ∨ faultS (shP ρ (qB f m o)) < l
    · rw [if_pos z]
      obtain ⟨J2, e2, A2, F2⟩ := r_fo_c (fu := fu) (o := o) S M hm6 fr (by rcases z with z | z; exact Or.inl z; rcases hl with hl | hl; exact Or.inl hl; exact Or.inr ⟨z, hl.2.1⟩) (fX11_findOrder_b111 fu sh R (fX11_findOrder_l54 fu sh R k138 (j + 1)) k138) (iz (f : Int)) m fu 0 (by omega) (by omega) J1 O1 (fun t ht => absurd ht (Nat.not_lt_zero t))
      have O2 : OLR J2 AD m o := AR.fr O1 F2 (by decide) (by decide) (fun _ => by decide)
      refine ⟨J2, shP ρ (qB f m o), ?_, A2, H1.fr F2 (fun _ => by decide), B2, A1.fr F2 (by decide) (by decide) (fun _ => by decide), (F1.wd fun i k w => Or.inl w).tr (F2.wd fun i k w => Or.inr (Or.inr w))⟩
      rw [hd, e2]
      simp only [fX11_findOrder_b111, iz_lit, iz_neg]
      by_cases w : l = -1
      · rw [if_pos (by rw [w]), fin J2 _ O2]
      · have hl2 : l ≤ 48 ∧ 0 ≤ l := by rcases hl with hl | hl; exact absurd hl w; exact ⟨hl.2.1, hl.1⟩
        rw [if_neg (by rw [iz_eq (by omega) (by omega) (by decide) (by decide)]; exact w), iMin_iz (by omega) (by omega) (by omega) (by omega), fin J2 _ O2]
    · rw [if_neg z]
      have hl2 : 0 ≤ l ∧ l ≤ 48 ∧ AR I AD 322 m (fun k => (b.getD k 0 : Int)) := by rcases hl with hl | hl; exact absurd (Or.inl hl) z; exact hl
      refine ⟨J1, shP ρ (qB f m o), ?_, AR.fr hl2.2.2 F1 (by decide) (by decide) (fun _ => by decide), H1, B2, A1, F1.wd fun i k w => Or.inl w⟩
      rw [hd]
      obtain ⟨g, hg⟩ : ∃ g, fu = g + 1 := ⟨fu - 1, by omega⟩
      have e3 : fX11_findOrder_l74 fu sh R (fX11_findOrder_b111 fu sh R (fX11_findOrder_l54 fu sh R k138 (j + 1)) k138) (g + 1) J1 (AD 316) (iz (f : Int)) (iz (m : Int)) (iz l) (iz (faultS (shP ρ (qB f m o)))) (iz ((0 : Nat) : Int)) = fX11_findOrder_b111 fu sh R (fX11_findOrder_l54 fu sh R k138 (j + 1)) k138 J1 (AD 316) (iz (f : Int)) (iz (m : Int)) (iz l) (iz (faultS (shP ρ (qB f m o)))) := by
        show fX11_findOrder_b74 fu sh R (fX11_findOrder_l74 fu sh R (fX11_findOrder_b111 fu sh R (fX11_findOrder_l54 fu sh R k138 (j + 1)) k138) g) (fX11_findOrder_b111 fu sh R (fX11_findOrder_l54 fu sh R k138 (j + 1)) k138) J1 _ _ _ _ _ _ = _
        simp only [fX11_findOrder_b74, iz_lit, iz_neg]
        rw [if_neg (by rw [iz_le (by omega) (by omega) (by omega) (by omega)]; omega), if_neg (by rw [iz_eq (by omega) (by omega) (by decide) (by decide)]; omega), if_pos (by rw [iz_le (by omega) (by omega) (by omega) (by omega)]; omega)]
      rw [← hg] at e3
      rw [e3]
      simp only [fX11_findOrder_b111, iz_lit, iz_neg]
      rw [if_neg (by rw [iz_eq (by omega) (by omega) (by decide) (by decide)]; omega), iMin_iz (by omega) (by omega) (by omega) (by omega), fin J1 _ O1]
  | succ r ih =>
    intro j o L l b ρ' I hr hj hc hok H hb A O hl
    obtain ⟨j, rfl⟩ : ∃ t, j = t + 2 := ⟨j - 2, by omega⟩
    obtain ⟨o', L', rfl⟩ : ∃ o' L', L = o' :: L' := by
      cases L with
      | nil => exact absurd hr (by rw [List.length_nil]; omega)
      | cons a t => exact ⟨a, t, rfl⟩
    rw [List.length_cons] at hr
    have ok := hok o (List.mem_cons_self ..)
    unfold okO at ok
    simp only [Bool.and_eq_true, Bool.or_eq_true, beq_iff_eq, List.all_eq_true, decide_eq_true_eq, List.mem_range] at ok
    obtain ⟨⟨ol, ok2⟩, ok3⟩ := ok
    have olt : ∀ k, k < m → o.getD k 0 < m := fun k hk => (ok2 k hk).2
    obtain ⟨J1, e1, H1, F1⟩ := r_lay (fu := fu) (o := o) S M hfu (show f + m ≤ 12 by omega) hm6 olt H hb A O
    have V2 := shQ_V V (qB_Q V hfm hsc olt)
    have fr := fault_range V2
    have O1 : OLR J1 AD m o := AR.fr O F1 (by decide) (by decide) (fun _ => by decide)
    have A1 : ASD J1 AD ρ := A.fr F1 (by decide) (by decide) (fun _ => by decide)
    have B2 : BLK ρ (shP ρ (qB f m o)) f m := by
      intro i i0 i1 ni
      unfold shP
      by_cases w : 47 ≤ i ∧ i < 119
      · rw [if_pos w, qB_out (by omega)]; congr 1; omega
      · rw [if_neg w]
    have hc2 : (nxO m o == some o') = true ∧ chO m (o' :: L') = true := by
      have : ((nxO m o == some o') && chO m (o' :: L')) = true := hc
      rw [Bool.and_eq_true] at this
      exact this
    have hno : nxO m o = some o' := beq_iff_eq.mp hc2.1
    have hok' : ∀ y, y ∈ o' :: L' → okO m y = true := fun y hy => hok y (List.mem_cons_of_mem _ hy)
    have hd : fX11_findOrder_l54 fu sh R k138 (j + 2) I (AD 316) (iz (f : Int)) (iz (m : Int)) (iz l) (iz 1) = fX11_findOrder_l74 fu sh R (fX11_findOrder_b111 fu sh R (fX11_findOrder_l54 fu sh R k138 (j + 1)) k138) fu J1 (AD 316) (iz (f : Int)) (iz (m : Int)) (iz l) (iz (faultS (shP ρ (qB f m o)))) (iz ((0 : Nat) : Int)) := by
      show fX11_findOrder_b54 fu sh R (fX11_findOrder_l54 fu sh R k138 (j + 1)) k138 I _ _ _ _ _ = _
      simp only [fX11_findOrder_b54, iz_lit]
      rw [if_neg (by rw [iz_eq (by decide) (by decide) (by decide) (by decide)]; decide), e1, bsome, r_faults S M H1 V2 hfu, bsome]
      rfl
    have un : fmF (fun y => faultS (shP ρ (qB f m y))) (o :: o' :: L') l b = if l = -1 ∨ faultS (shP ρ (qB f m o)) < l then fmF (fun y => faultS (shP ρ (qB f m y))) (o' :: L') (faultS (shP ρ (qB f m o))) o else fmF (fun y => faultS (shP ρ (qB f m y))) (o' :: L') l b := rfl
    rw [un]
    have go : ∀ (J2 : HI) (l2 : Int) (b2 : List Nat), OLR J2 AD m o → ASD J2 AD ρ → RW J2 AD (shP ρ (qB f m o)) → (0 ≤ l2 ∧ l2 ≤ 48 ∧ AR J2 AD 322 m (fun k => (b2.getD k 0 : Int))) →
        ∃ I' ρ2, fX11_findOrder_b127 fu sh R (fX11_findOrder_l54 fu sh R k138 (j + 1)) k138 J2 (AD 316) (iz (f : Int)) (iz (m : Int)) (iz l2) = k138 I' (AD 316) ∧ AR I' AD 322 m (fun k => (((fmF (fun y => faultS (shP ρ (qB f m y))) (o' :: L') l2 b2).2).getD k 0 : Int)) ∧ RW I' AD ρ2 ∧ BLK ρ ρ2 f m ∧ ASD I' AD ρ ∧ FR AD J2 I' (fun i _ => i = 317 ∨ i = 321 ∨ i = 322) := by
      intro J2 l2 b2 O2 A2 H2 hl2
      obtain ⟨J3, e3, O3, F3⟩ := (r_next (fu := fu) S M hfu hm0 hm6 ol olt ok3 O2).2 o' hno
      obtain ⟨I', ρ2, e4, g1, g2, g3, g4, g5⟩ := ih (j + 1) o' L' l2 b2 (shP ρ (qB f m o)) J3 (by omega) (by omega) hc2.2 hok' (H2.fr F3 (fun _ => by decide)) B2 (A2.fr F3 (by decide) (by decide) (fun _ => by decide)) O3 (Or.inr ⟨hl2.1, hl2.2.1, AR.fr hl2.2.2 F3 (by decide) (by decide) (fun _ => by decide)⟩)
      refine ⟨I', ρ2, ?_, g1, g2, g3, g4, (F3.wd fun i k w => Or.inr (Or.inl w)).tr g5⟩
      simp only [fX11_findOrder_b127, e3, oHs]
      exact e4
    by_cases z : l = -1 ∨ faultS (shP ρ (qB f m o)) < l
    · rw [if_pos z]
      obtain ⟨J2, e2, A2, F2⟩ := r_fo_c (fu := fu) (o := o) S M hm6 fr (by rcases z with z | z; exact Or.inl z; rcases hl with hl | hl; exact Or.inl hl; exact Or.inr ⟨z, hl.2.1⟩) (fX11_findOrder_b111 fu sh R (fX11_findOrder_l54 fu sh R k138 (j + 1)) k138) (iz (f : Int)) m fu 0 (by omega) (by omega) J1 O1 (fun t ht => absurd ht (Nat.not_lt_zero t))
      obtain ⟨I', ρ2, e4, g1, g2, g3, g4, g5⟩ := go J2 (faultS (shP ρ (qB f m o))) o (AR.fr O1 F2 (by decide) (by decide) (fun _ => by decide)) (A1.fr F2 (by decide) (by decide) (fun _ => by decide)) (H1.fr F2 (fun _ => by decide)) ⟨fr.1, fr.2, A2⟩
      refine ⟨I', ρ2, ?_, g1, g2, g3, g4, ((F1.wd fun i k w => Or.inl w).tr (F2.wd fun i k w => Or.inr (Or.inr w))).tr g5⟩
      rw [hd, e2]
      simp only [fX11_findOrder_b111, iz_lit, iz_neg]
      by_cases w : l = -1
      · rw [if_pos (by rw [w]), e4]
      · have hl2 : l ≤ 48 ∧ 0 ≤ l := by rcases hl with hl | hl; exact absurd hl w; exact ⟨hl.2.1, hl.1⟩
        have hlt : faultS (shP ρ (qB f m o)) < l := by rcases z with z | z; exact absurd z w; exact z
        rw [if_neg (by rw [iz_eq (by omega) (by omega) (by decide) (by decide)]; exact w), iMin_iz (by omega) (by omega) (by omega) (by omega), Int.min_eq_right (by omega), e4]
    · rw [if_neg z]
      have hl2 : 0 ≤ l ∧ l ≤ 48 ∧ AR I AD 322 m (fun k => (b.getD k 0 : Int)) := by rcases hl with hl | hl; exact absurd (Or.inl hl) z; exact hl
      obtain ⟨I', ρ2, e4, g1, g2, g3, g4, g5⟩ := go J1 l b O1 A1 H1 ⟨hl2.1, hl2.2.1, AR.fr hl2.2.2 F1 (by decide) (by decide) (fun _ => by decide)⟩
      refine ⟨I', ρ2, ?_, g1, g2, g3, g4, (F1.wd fun i k w => Or.inl w).tr g5⟩
      rw [hd]
      obtain ⟨g, hg⟩ : ∃ g, fu = g + 1 := ⟨fu - 1, by omega⟩
      have e3 : fX11_findOrder_l74 fu sh R (fX11_findOrder_b111 fu sh R (fX11_findOrder_l54 fu sh R k138 (j + 1)) k138) (g + 1) J1 (AD 316) (iz (f : Int)) (iz (m : Int)) (iz l) (iz (faultS (shP ρ (qB f m o)))) (iz ((0 : Nat) : Int)) = fX11_findOrder_b111 fu sh R (fX11_findOrder_l54 fu sh R k138 (j + 1)) k138 J1 (AD 316) (iz (f : Int)) (iz (m : Int)) (iz l) (iz (faultS (shP ρ (qB f m o)))) := by
        show fX11_findOrder_b74 fu sh R (fX11_findOrder_l74 fu sh R (fX11_findOrder_b111 fu sh R (fX11_findOrder_l54 fu sh R k138 (j + 1)) k138) g) (fX11_findOrder_b111 fu sh R (fX11_findOrder_l54 fu sh R k138 (j + 1)) k138) J1 _ _ _ _ _ _ = _
        simp only [fX11_findOrder_b74, iz_lit, iz_neg]
        rw [if_neg (by rw [iz_le (by omega) (by omega) (by omega) (by omega)]; omega), if_neg (by rw [iz_eq (by omega) (by omega) (by decide) (by decide)]; omega), if_pos (by rw [iz_le (by omega) (by omega) (by omega) (by omega)]; omega)]
      rw [← hg] at e3
      rw [e3]
      simp only [fX11_findOrder_b111, iz_lit, iz_neg]
      rw [if_neg (by rw [iz_eq (by omega) (by omega) (by decide) (by decide)]; omega), iMin_iz (by omega) (by omega) (by omega) (by omega), Int.min_eq_left (by omega), e4]
theorem r_findOrder (S : OKS sh AD) (M : MR R AD) (H : RW I AD ρ) (V : VB ρ) (hfu : 5000 ≤ fu) {c : Int} (hfm : (f : Int) + m ≤ ρ 4) (hm0 : 0 < m) (hm6 : m ≤ 6) (hsc : ∀ s : Int, (f : Int) ≤ s → s < (f : Int) + m → scS ρ s = c) (hlo : ∀ s : Int, 0 ≤ s → s < (f : Int) → scS ρ s < c) (hhi : ∀ s : Int, (f : Int) + m ≤ s → s < ρ 4 → c < scS ρ s) :
    ∃ I', fX11_findOrder fu sh I R (AD 316) (iz (f : Int)) (iz (m : Int)) = some I' ∧ AR I' AD 322 m (fun k => (orS m (prB ρ f) k : Int)) ∧ RW I' AD ρ ∧ FR AD I I' (fun i _ => i = 317 ∨ i = 321 ∨ i = 322 ∨ i = 323) := by
  have hn := V.n
  have hB := List.all_eq_true.mp ch_B m (List.mem_range.mpr (by omega))
  have hm00 : (m == 0) = false := by simpa using (show ¬ m = 0 by omega)
  rw [hm00, Bool.false_or] at hB
  simp only [Bool.and_eq_true, beq_iff_eq, List.all_eq_true, decide_eq_true_eq] at hB
  obtain ⟨⟨⟨b1, b2⟩, b3⟩, b4⟩ := hB
  obtain ⟨L, hL⟩ : ∃ L, trL m m 0 = List.range m :: L := by
    cases e : trL m m 0 with
    | nil => rw [e] at b2; exact absurd b2 (by intro w; cases w)
    | cons a t =>
      rw [e] at b2
      have : a = List.range m := Option.some.inj b2
      exact ⟨t, by rw [this]⟩
  obtain ⟨I1, e1, A1, F1⟩ := r_fo_a (fu := fu) S M (fX11_findOrder_b29 fu sh R) (iz (f : Int)) (iz (m : Int)) 72 fu 0 (by decide) (by omega) I H (fun t ht => absurd ht (Nat.not_lt_zero t))
  have H1 := H.fr F1 (fun _ => by decide)
  obtain ⟨I2, e2, O2, F2⟩ := r_fo_i (fu := fu) S M hm6 (fX11_findOrder_b49 fu sh R) (iz (f : Int)) m fu 0 (by omega) (by omega) I1 (fun t ht => absurd ht (Nat.not_lt_zero t))
  have O2' : OLR I2 AD m (List.range m) := by
    intro k hk
    rw [O2 k hk]
    show iz (k : Int) = iz ((List.range m).getD k 0 : Int)
    rw [List.getD_eq_getElem?_getD, List.getElem?_range hk]
    rfl
  rw [hL] at b1 b3 b4
  rw [List.length_cons] at b4
  obtain ⟨I3, ρ2, e3, B3, H3, K3, A3, F3⟩ := r_fo_main (fu := fu) S M V hfu hfm hm0 hm6 hsc (fX11_findOrder_b138 fu sh R) L.length fu (List.range m) L (-1) [] ρ I2 rfl (by omega) b1 b3 (H1.fr F2 (fun _ => by decide)) (fun _ _ _ _ => rfl) (A1.fr F2 (by decide) (by decide) (fun _ => by decide)) O2' (Or.inl rfl)
  obtain ⟨I4, e4, H4, F4⟩ := r_fo_r (fu := fu) (ρ := ρ) S M 72 fu 0 (by decide) (by omega) I3 (fun i i0 i1 => by
    rw [H3 i i0 (by omega), K3 i i0 (by omega) (by omega)]) A3
  have gr := fm_gr (prB_B ρ f m) (show m ≤ 12 by omega) (K := kBs ρ f m) (c := fun y => faultS (shP ρ (qB f m y))) (by
    have h0 := Nat.pow_pos (a := 2) (n := m) (by decide)
    have q := (gr_bst (prB_B ρ f m) (show m ≤ 12 by omega) m 0 (-1) h0 (by rw [pc_0]; omega) (by omega) (by omega)).2
    have k := kBs_nn (ρ := ρ) (f := f) (m := m)
    rw [q, if_neg (by omega)]
    have := cl_nn (g := nxS m (prB ρ f) 0 (-1)) (m := 0) m (fun k hk _ => (nx_range (prB_B ρ f m) (show m ≤ 12 by omega) h0 (by omega) (by omega) hk).1)
    omega) (fun y hy => fault_o V hfm hsc hlo hhi (pm_ok hm6 hy)) []
  rw [hL] at gr
  rw [gr] at B3
  refine ⟨I4, ?_, fun k hk => ?_, H4, (((F1.wd fun i k w => Or.inr (Or.inr (Or.inr w))).tr (F2.wd fun i k w => Or.inr (Or.inl w))).tr (F3.wd fun i k w => by omega)).tr (F4.wd fun i k w => Or.inl w)⟩
  · simp only [fX11_findOrder, if_pos (isT_of S.md), iz_lit]
    refine e1.trans ?_
    simp only [fX11_findOrder_b29, iz_lit]
    refine e2.trans ?_
    simp only [fX11_findOrder_b49, iz_lit, iz_neg]
    refine e3.trans ?_
    simp only [fX11_findOrder_b138, iz_lit]
    exact e4
  · rw [F4 322 (by decide) (by decide) k (show ¬ ((322 : Int) = 317) by decide), B3 k hk]
    have g := gr_or m (prB ρ f) m 0 k (by omega) hk
    have g2 : (grS m (prB ρ f) m 0 (-1)).getD k 0 = orS m (prB ρ f) (0 + k) := g
    show iz ((grS m (prB ρ f) m 0 (-1)).getD k 0 : Int) = _
    rw [g2, Nat.zero_add]
theorem r_bs_loop (S : OKS sh AD) (M : MR R AD) (H : RW I AD ρ) (V : VB ρ) (hfu : 5000 ≤ fu) {c q : Int} (hq : IR q) (h0 : 0 ≤ c) (h1 : c < 3) {n : Int32} {I' : HI} (hb : (frS ρ c : Int) < ρ 4) (hfc : scS ρ (frS ρ c : Int) = c) (hlo : ∀ s : Int, 0 ≤ s → s < (frS ρ c : Int) → scS ρ s < c) {v : Int32} (e1 : fX11_findOrder fu sh I R (AD 316) (iz (frS ρ c : Int)) n = some I') (e2 : oA sh I' (AD 322) (iz q) = some v) : ∀ d j s : Nat, s + d = frS ρ c → d < j →
    fX11_bestShot_l63 fu sh R j I (AD 316) (iz c) (iz q) n (iz (s : Int)) = some (iz (frS ρ c : Int) + v, I') := by
  have hn := V.n
  have hm := V.m
  intro d
  induction d with
  | zero =>
    intro j s hs hj
    obtain ⟨j, rfl⟩ : ∃ t, j = t + 1 := ⟨j - 1, by omega⟩
    have e : s = frS ρ c := by omega
    rw [e]
    show fX11_bestShot_b63 fu sh R (fX11_bestShot_l63 fu sh R j) I _ _ _ _ _ = _
    simp only [fX11_bestShot_b63, r_sceneOf S M H (show 0 ≤ (frS ρ c : Int) by omega) (by omega), bsome, hfc, e1, oR_at S.md M.1.2.2.2.2.2.1, e2]
    rw [if_pos trivial]
  | succ d ih =>
    intro j s hs hj
    obtain ⟨j, rfl⟩ : ∃ t, j = t + 1 := ⟨j - 1, by omega⟩
    have ek : iz (s : Int) + iz 1 = iz ((s + 1 : Nat) : Int) := by rw [iz_add]; rfl
    have hl := hlo (s : Int) (by omega) (by omega)
    obtain ⟨v1, -⟩ := V.shot (s := (s : Int)) (by omega) (by omega)
    show fX11_bestShot_b63 fu sh R (fX11_bestShot_l63 fu sh R j) I _ _ _ _ _ = _
    simp only [fX11_bestShot_b63, r_sceneOf S M H (show 0 ≤ (s : Int) by omega) (show (s : Int) < 12 by omega), bsome, iz_lit, ek]
    rw [if_neg (by rw [iz_eq (by omega) (by omega) (by omega) (by omega)]; omega)]
    exact ih j (s + 1) (by omega) (by omega)
theorem rq_bestShot (S : OKS sh AD) (V : VST σ) (hfu : 5000 ≤ fu) {c q : Int} (hc : IR c) (hq : IR q) : RQ sh AD R σ (fun I => fX11_bestShot fu sh I R (AD 316) (iz c) (iz q)) (aBst σ c q) := by
  have n3 := V.n3
  have e18 : ∀ I, RIB I R AD σ → fX11_bestShot fu sh I R (AD 316) (iz c) (iz q) = fX11_bestShot_b18 fu sh R I (AD 316) (iz c) (iz q) (bz (decide ((0 ≤ c ∧ c ≤ σ.2.1 3 - 1) ∧ 0 ≤ q))) (AD 316) := by
    intro I H
    simp only [fX11_bestShot, fX11_bestShot_b17, if_pos (isT_of S.md), r_isScene S H V hc, bsome, iz_lit, bz_zero]
    by_cases z : 0 ≤ c ∧ c ≤ σ.2.1 3 - 1
    · rw [if_neg (by rw [(bdec (p := 0 ≤ c) (q := c ≤ σ.2.1 3 - 1)).mpr z]; decide)]
      by_cases w : q < 0
      · rw [if_pos (by rw [iz_lt hq.1 hq.2 (by decide) (by decide)]; exact w), decide_eq_false (fun k => absurd k.2 (by omega))]
        rfl
      · rw [if_neg (by rw [iz_lt hq.1 hq.2 (by decide) (by decide)]; exact w), decide_eq_true (show (0 ≤ c ∧ c ≤ σ.2.1 3 - 1) ∧ 0 ≤ q from ⟨z, by omega⟩)]
        rfl
    · rw [if_pos (fls bdec z), decide_eq_false (fun k => z k.1)]
      rfl
  refine RA.of (fu := fu) (σ' := σ) S e18 (fun h => ?_) (fun h hg => ?_) (fun h hg J HJ e5 => ?_)
  · have : ¬ σ.1 = true := by rw [h]; decide
    unfold aBst
    rw [if_neg this]
    exact ⟨rfl, rfl⟩
  · unfold aBst
    rw [if_pos h, if_neg (of_decide_eq_false hg)]
    exact ⟨rfl, rfl⟩
  · have z := of_decide_eq_true hg
    unfold aBst
    rw [if_pos h, if_pos z]
    obtain ⟨zc, zq⟩ := z
    have W := V.1 h
    have hn := W.n
    have b := blk W c
    have nr := ns_range σ.2.1 c (σ.2.1 4).toNat
    simp only [r_ns S HJ.1 HJ.2.1 W hfu zc.1 (show c < 3 by omega), bsome, iz_lit, iz_neg]
    by_cases x : 6 < nsS σ.2.1 c (σ.2.1 4).toNat
    · rw [if_neg (by rw [iz_le (by omega) (by omega) (by decide) (by decide)]; omega), if_pos x]
      exact ⟨J, rfl, e5, HJ, FR.rf _ _ _⟩
    · rw [if_pos (by rw [iz_le (by omega) (by omega) (by decide) (by decide)]; omega), if_neg x]
      have lk := fun g => r_lacks (fu := fu) (R := R) (I := J) S g
      by_cases w : q < nsS σ.2.1 c (σ.2.1 4).toNat
      · rw [if_neg (by rw [iz_le (by omega) (by omega) hq.1 hq.2]; omega), if_pos w]
        obtain ⟨m, hm⟩ : ∃ m : Nat, m = (nsS σ.2.1 c (σ.2.1 4).toNat).toNat := ⟨_, rfl⟩
        have hmi : nsS σ.2.1 c (σ.2.1 4).toNat = (m : Int) := by omega
        rw [hmi] at b w x ⊢
        rw [Int.toNat_natCast]
        obtain ⟨H1, f1, q5⟩ := HJ.w5 S (iz ((0 : Nat) : Int))
        obtain ⟨I', e1, A1, W1, F1⟩ := r_findOrder (fu := fu) S HJ.1 H1.2.1 W hfu b.2.2.1 (by omega) (by omega) b.2.2.2.1 b.2.2.2.2.1 b.2.2.2.2.2
        have a22 := A1 q.toNat (by omega)
        have e2 : oA sh I' (AD 322) (iz q) = some (iz (orS m (prB σ.2.1 (frS σ.2.1 c)) q.toNat : Int)) := by
          rw [oA_iz (S.at (i := 322) (t := 20) (n := 6) rfl (by decide) (by decide)) zq (by omega) hq.2, a22]
        have lp := r_bs_loop (fu := fu) S HJ.1 H1.2.1 W hfu hq zc.1 (show c < 3 by omega) (by omega) (b.2.2.2.1 _ (Int.le_refl _) (by omega)) b.2.2.2.2.1 e1 e2 (frS σ.2.1 c) fu 0 (by omega) (by omega)
        have H2 : RIB I' R AD σ := by
          have r0 : RIB I' R AD (rowS σ σ.2.1) := H1.row (F1.wd fun i k w => by unfold RSC; omega) W1
          exact r0
        refine ⟨I', ?_, ?_, H2, (f1.wd fun i k z => by omega).tr (F1.wd fun i k z => by omega)⟩
        · simp only [fX11_bestShot_b52, iz_lit]
          rw [show (iz 1 : Int32) = bz true from rfl, lk]
          simp only [oHs, bz_zero, iz_lit]
          rw [if_pos (by decide)]
          refine lp.trans ?_
          rw [iz_add]
          rfl
        · rw [F1 316 (by decide) (by decide) 5 (by decide), q5]
          rfl
      · rw [if_pos (by rw [iz_le (by omega) (by omega) hq.1 hq.2]; omega), if_neg w]
        obtain ⟨H1, f1, q5⟩ := HJ.w5 S (iz ((3 : Nat) : Int))
        refine ⟨_, ?_, q5, H1, f1.wd fun i k z => by omega⟩
        simp only [fX11_bestShot_b52, iz_lit]
        have lkf := lk false
        have eb : (iz 0 : Int32) = bz false := rfl
        rw [eb, lkf, oHs]
        have ne : ¬ bz (!false) = bz false := by rw [show bz false = iz 0 from rfl, bz_zero]; decide
        rw [if_neg ne]
        rfl
end Q43
