/-! STAGE 2: the reference finds the best order -/
theorem rf_range {g : Nat → Int} {m n : Nat} (h : ∀ k, k < n → m.testBit k = false → 0 ≤ g k ∧ g k < 1000000) : -1 ≤ rf g m n ∧ rf g m n ≤ 1000000 := by
  have c := (cl_le g m n).1
  rcases rf_cl n h with ⟨a, -, -⟩ | ⟨a, b, -⟩ <;> omega
theorem rf_end {g : Nat → Int} {m n : Nat} (hm : m < 2 ^ n) (h : ∀ k, k < n → m.testBit k = false → 0 ≤ g k ∧ g k < 1000000) : max 0 (rf g m n) = if m = 2 ^ n - 1 then 0 else (cl g m n).2 := by
  rcases rf_cl n h with ⟨a, -, b⟩ | ⟨a, b, j, c, d⟩
  · rw [if_pos (all_of hm b), a]; rfl
  · rw [if_neg (fun z => by rw [z, all_bit, decide_eq_true c] at d; exact absurd d (by decide)), ← b, Int.max_eq_right a]
theorem SG.fr {AD : Int → Nat} {I I' : HI} {W : Int → Nat → Prop} {ρ : RHO} {r : Int} {a : Nat} (G : SG I AD ρ r a) (F : FR AD I I' W) (w0 : ¬ W 316 22) (w : ∀ i k, 324 ≤ i → i ≤ 326 → ¬ W i k) : SG I' AD ρ r a :=
  ⟨(F 316 (by decide) (by decide) 22 w0).trans G.1, G.2.1.fr F (by decide) (by decide) (fun _ => w _ _ (by decide) (by decide)), G.2.2.1.fr F (by decide) (by decide) (fun _ => w _ _ (by decide) (by decide)), G.2.2.2.fr F (by decide) (by decide) (fun _ => w _ _ (by decide) (by decide))⟩
/-- the changes laid from below t, and those from t to below f -/
def PCH (I : HI) (AD : Int → Nat) (n : Nat) (pr : Int → Nat → Int) (t : Int) (f : Nat) : Prop := ∀ (l : Int) (k : Nat), -1 ≤ l → l < n → k < n → (l < t ∨ (l = t ∧ k < f)) → I (AD 328) (12 * (l + 1) + k).toNat = iz (pr l k)
/-- the rests laid of more than c, and of c below l0 -/
def RR (I : HI) (AD : Int → Nat) (n : Nat) (pr : Int → Nat → Int) (c l0 : Nat) : Prop := ∀ m l : Nat, m < 2 ^ n → l < n → m.testBit l = true → (c < m ∨ (m = c ∧ l < l0)) → I (AD 327) (12 * m + l) = iz (RS n pr m l)
theorem PCH.fr {AD : Int → Nat} {I I' : HI} {W : Int → Nat → Prop} {n f : Nat} {t : Int} {pr : Int → Nat → Int} (X : PCH I AD n pr t f) (a : FR AD I I' W) (w : ∀ k, ¬ W 328 k) : PCH I' AD n pr t f := fun l k h1 h2 h3 h4 => (a 328 (by decide) (by decide) _ (w _)).trans (X l k h1 h2 h3 h4)
theorem RR.fr {AD : Int → Nat} {I I' : HI} {W : Int → Nat → Prop} {n c l0 : Nat} {pr : Int → Nat → Int} (X : RR I AD n pr c l0) (a : FR AD I I' W) (w : ∀ k, ¬ W 327 k) : RR I' AD n pr c l0 := fun m l h1 h2 h3 h4 => (a 327 (by decide) (by decide) _ (w _)).trans (X m l h1 h2 h3 h4)
def WBest (i : Int) (k : Nat) : Prop := Wset i k ∨ i = 327 ∨ i = 328 ∨ i = 329 ∨ (i = 316 ∧ k = 26)
section R8
variable {fu : Nat} {sh : HS} {I : HI} {R : HR} {AD : Int → Nat} {ρ : RHO}
theorem r_chg (S : OKS sh AD) (M : MR R AD) (H : RW I AD ρ) (V : VB ρ) (hfu : 5000 ≤ fu) (G : SG I AD ρ (ρ 0) (ρ 4).toNat) {l : Int} {k : Nat} (h0 : -1 ≤ l) (hl : l < mSet ρ) (hk : k < mSet ρ) : fX11_changeOf fu sh I R (AD 316) (iz l) (iz (k : Int)) = some (iz (prG ρ l k)) := by
  unfold prG
  by_cases z : l = -1
  · rw [z, if_pos rfl]
    exact r_change0 S M H V hfu G hk
  · obtain ⟨j, rfl⟩ : ∃ j : Nat, l = (j : Int) := ⟨l.toNat, by omega⟩
    rw [if_neg z, Int.toNat_natCast]
    exact r_change S M H V hfu G (show j < mG_ ρ (ρ 0) (ρ 4).toNat from (by omega : j < mSet ρ)) hk
theorem r_ch_in (S : OKS sh AD) (M : MR R AD) (V : VB ρ) (hfu : 5000 ≤ fu) {t : Int} (h0 : -1 ≤ t) (ht : t < mSet ρ) (k45 : HI → Nat → Int32 → Option HI) : ∀ d j k : Nat, k + d = mSet ρ → d < j → ∀ I : HI, RW I AD ρ → SG I AD ρ (ρ 0) (ρ 4).toNat → PCH I AD (mSet ρ) (prG ρ) t k →
    ∃ I', fX11_layChanges_l12 fu sh R k45 j I (AD 316) (iz t) (iz (k : Int)) = k45 I' (AD 316) (iz t) ∧ PCH I' AD (mSet ρ) (prG ρ) t (mSet ρ) ∧ FR AD I I' (fun i _ => i = 328) := by
  have hm := mSet_le V
  intro d
  induction d with
  | zero =>
    intro j k hk hj I H G C
    obtain ⟨j, rfl⟩ : ∃ t, j = t + 1 := ⟨j - 1, by omega⟩
    have e : k = mSet ρ := by omega
    rw [e] at C
    refine ⟨I, ?_, C, FR.rf _ _ _⟩
    show fX11_layChanges_b12 fu sh R (fX11_layChanges_l12 fu sh R k45 j) k45 _ _ _ _ = _
    simp only [fX11_layChanges_b12, oI_at S.md, G.1, bsome, show mG_ ρ (ρ 0) (ρ 4).toNat = mSet ρ from rfl]
    rw [if_pos (by rw [iz_le (by omega) (by omega) (by omega) (by omega)]; omega)]
  | succ d ih =>
    intro j k hk hj I H G C
    obtain ⟨j, rfl⟩ : ∃ t, j = t + 1 := ⟨j - 1, by omega⟩
    have ek : iz (k : Int) + iz 1 = iz ((k + 1 : Nat) : Int) := by rw [iz_add]; rfl
    have hz2 : ¬ iz (mSet ρ : Int) ≤ iz (k : Int) := by rw [iz_le (by omega) (by omega) (by omega) (by omega)]; omega
    obtain ⟨J, hJ⟩ : ∃ J, J = u2 I (AD 328) (12 * (t + 1) + k).toNat (iz (prG ρ t k)) := ⟨_, rfl⟩
    have fr : FR AD I J (fun i _ => i = 328) := by rw [hJ]; exact FR.u2 S (by decide) (by decide) rfl (FR.rf AD I _)
    have C2 : PCH J AD (mSet ρ) (prG ρ) t (k + 1) := by
      intro l q g0 g1 g2 g3
      rw [hJ, u2_ad S (by decide) (by decide) (by decide) (by decide)]
      by_cases z : (12 * (l + 1) + (q : Int)).toNat = (12 * (t + 1) + (k : Int)).toNat
      · have z1 : l = t := by omega
        have z2 : q = k := by omega
        rw [if_pos ⟨rfl, z⟩, z1, z2]
      · rw [if_neg (fun w => z w.2)]
        refine C l q g0 g1 g2 ?_
        rcases g3 with g3 | ⟨g3, g4⟩
        · exact Or.inl g3
        · refine Or.inr ⟨g3, ?_⟩
          have : ¬ q = k := fun w => z (by rw [g3, w])
          omega
    obtain ⟨I', e, C', fr'⟩ := ih j (k + 1) (by omega) (by omega) J (H.fr fr (fun _ => by decide)) (G.fr fr (by decide) (fun i k g1 g2 => by omega)) C2
    refine ⟨I', ?_, C', fr.tr fr'⟩
    rw [← e]
    have s328 := S.at (i := 328) (t := 20) (n := 156) rfl (by decide) (by decide)
    show fX11_layChanges_b12 fu sh R (fX11_layChanges_l12 fu sh R k45 j) k45 _ _ _ _ = _
    simp only [fX11_layChanges_b12, oI_at S.md, G.1, bsome, show mG_ ρ (ρ 0) (ρ 4).toNat = mSet ρ from rfl, if_neg hz2, oR_at S.md M.2.2.2.2.2.1, r_chg S M H V hfu G h0 ht (show k < mSet ρ by omega), iz_lit, iz_add, iz_mul]
    rw [oS_iz s328 (by omega) (by omega) (by omega), bsome, ← hJ]
    rfl
theorem r_ch_out (S : OKS sh AD) (M : MR R AD) (V : VB ρ) (hfu : 5000 ≤ fu) : ∀ d j : Nat, ∀ t : Int, -1 ≤ t → t + d = mSet ρ → d < j → ∀ I : HI, RW I AD ρ → SG I AD ρ (ρ 0) (ρ 4).toNat → PCH I AD (mSet ρ) (prG ρ) t 0 →
    ∃ I', fX11_layChanges_l2 fu sh R j I (AD 316) (iz t) = some I' ∧ PCH I' AD (mSet ρ) (prG ρ) (mSet ρ) 0 ∧ FR AD I I' (fun i _ => i = 328) := by
  have hm := mSet_le V
  intro d
  induction d with
  | zero =>
    intro j t h0 ht hj I H G C
    obtain ⟨j, rfl⟩ : ∃ t, j = t + 1 := ⟨j - 1, by omega⟩
    have e : t = mSet ρ := by omega
    rw [e] at C
    refine ⟨I, ?_, C, FR.rf _ _ _⟩
    show fX11_layChanges_b2 fu sh R (fX11_layChanges_l2 fu sh R j) _ _ _ = _
    simp only [fX11_layChanges_b2, oI_at S.md, G.1, bsome, show mG_ ρ (ρ 0) (ρ 4).toNat = mSet ρ from rfl]
    rw [if_pos (by rw [iz_le (by omega) (by omega) (by omega) (by omega)]; omega)]
  | succ d ih =>
    intro j t h0 ht hj I H G C
    obtain ⟨j, rfl⟩ : ∃ t, j = t + 1 := ⟨j - 1, by omega⟩
    have hz2 : ¬ iz (mSet ρ : Int) ≤ iz t := by rw [iz_le (by omega) (by omega) (by omega) (by omega)]; omega
    obtain ⟨J, e1, C1, fr⟩ := r_ch_in (fu := fu) S M V hfu h0 (show t < mSet ρ by omega) (fX11_layChanges_b45 fu sh R (fX11_layChanges_l2 fu sh R j)) (mSet ρ) fu 0 (by omega) (by omega) I H G C
    have C2 : PCH J AD (mSet ρ) (prG ρ) (t + 1) 0 := fun l k g0 g1 g2 g3 => C1 l k g0 g1 g2 (by omega)
    obtain ⟨I', e, C', fr'⟩ := ih j (t + 1) (by omega) (by omega) (by omega) J (H.fr fr (fun _ => by decide)) (G.fr fr (by decide) (fun i k g1 g2 => by omega)) C2
    refine ⟨I', ?_, C', fr.tr fr'⟩
    rw [← e]
    show fX11_layChanges_b2 fu sh R (fX11_layChanges_l2 fu sh R j) _ _ _ = _
    simp only [fX11_layChanges_b2, oI_at S.md, G.1, bsome, show mG_ ρ (ρ 0) (ρ 4).toNat = mSet ρ from rfl, if_neg hz2, iz_lit]
    refine e1.trans ?_
    simp only [fX11_layChanges_b45, iz_lit, iz_add]
theorem r_changes (S : OKS sh AD) (M : MR R AD) (H : RW I AD ρ) (V : VB ρ) (hfu : 5000 ≤ fu) (G : SG I AD ρ (ρ 0) (ρ 4).toNat) :
    ∃ I', fX11_layChanges fu sh I R (AD 316) = some I' ∧ PCH I' AD (mSet ρ) (prG ρ) (mSet ρ) 0 ∧ FR AD I I' (fun i _ => i = 328) := by
  have hm := mSet_le V
  obtain ⟨I', e, C, fr⟩ := r_ch_out (fu := fu) S M V hfu (mSet ρ + 1) fu (-1) (by omega) (by omega) (by omega) I H G (fun l k g0 g1 g2 g3 => by omega)
  refine ⟨I', ?_, C, fr⟩
  simp only [fX11_layChanges, if_pos (isT_of S.md), iz_lit, iz_neg]
  exact e
theorem r_ch_at (S : OKS sh AD) {n : Nat} {pr : Int → Nat → Int} (hn : n ≤ 12) (C : PCH I AD n pr n 0) {l : Int} {k : Nat} (h0 : -1 ≤ l) (hl : l < n) (hk : k < n) : oA sh I (AD 328) (iz (12 * (l + 1) + (k : Int))) = some (iz (pr l k)) := by
  rw [oA_iz (S.at (i := 328) (t := 20) (n := 156) rfl (by decide) (by decide)) (by omega) (by omega) (by omega), C l k h0 hl hk (Or.inl hl)]
theorem r_re_at (S : OKS sh AD) {m k : Nat} (hm : m < 4096) (hk : k < 12) : oA sh I (AD 327) (iz (12 * (m : Int) + (k : Int))) = some (I (AD 327) (12 * m + k)) := by
  rw [show 12 * (m : Int) + (k : Int) = ((12 * m + k : Nat) : Int) by omega, oA_nat (S.at (i := 327) (t := 20) (n := 49152) rfl (by decide) (by decide)) (by omega) (by omega)]
section
variable {n : Nat} {pr : Int → Nat → Int}
theorem r_cheap_loop (S : OKS sh AD) (M : MR R AD) (hn : n ≤ 12) (h22 : I (AD 316) 22 = iz (n : Int)) (P : PB n pr) (C : PCH I AD n pr n 0) {m : Nat} {l : Int} (hm : m < 2 ^ n) (h0 : -1 ≤ l) (hl : l < n) (F : RR I AD n pr m 0) : ∀ d j k : Nat, k + d = n → d < j →
    fX11_cheapest_l5 fu sh I R j (AD 316) (iz (m : Int)) (iz l) (iz (rf (nxS n pr m l) m k)) (iz (k : Int)) = some (iz (if m = 2 ^ n - 1 then 0 else (cl (nxS n pr m l) m n).2)) := by
  have p2 : 2 ^ n ≤ 4096 := pw2 (Q := 12) (by omega)
  have rr : ∀ k, k ≤ n → -1 ≤ rf (nxS n pr m l) m k ∧ rf (nxS n pr m l) m k ≤ 1000000 := fun k hk => rf_range (fun t ht _ => by have := nx_range P hn hm h0 hl (show t < n by omega); omega)
  intro d
  induction d with
  | zero =>
    intro j k hk hj
    obtain ⟨j, rfl⟩ : ∃ i, j = i + 1 := ⟨j - 1, by omega⟩
    have e : k = n := by omega
    subst e
    have q := rr k (by omega)
    show fX11_cheapest_b5 fu sh I R (fX11_cheapest_l5 fu sh I R j) _ _ _ _ _ = _
    simp only [fX11_cheapest_b5, oI_at S.md, h22, bsome, iz_lit]
    rw [if_pos (by rw [iz_le (by omega) (by omega) (by omega) (by omega)]; omega), iMax_iz (by decide) (by decide) (by omega) (by omega), rf_end hm (fun t ht _ => by have := nx_range P hn hm h0 hl ht; omega)]
  | succ d ih =>
    intro j k hk hj
    obtain ⟨j, rfl⟩ : ∃ i, j = i + 1 := ⟨j - 1, by omega⟩
    have q := ih j (k + 1) (by omega) (by omega)
    have ek : iz (k : Int) + iz 1 = iz ((k + 1 : Nat) : Int) := by rw [iz_add]; rfl
    have hz2 : ¬ iz (n : Int) ≤ iz (k : Int) := by rw [iz_le (by omega) (by omega) (by omega) (by omega)]; omega
    have ol := or_lt hm (show k < n by omega)
    have g := nx_range P hn hm h0 hl (show k < n by omega)
    have r := rr k (by omega)
    have e : rf (nxS n pr m l) m (k + 1) = if m.testBit k = true then rf (nxS n pr m l) m k else if rf (nxS n pr m l) m k = -1 then nxS n pr m l k else min (rf (nxS n pr m l) m k) (nxS n pr m l k) := rfl
    rw [e] at q
    show fX11_cheapest_b5 fu sh I R (fX11_cheapest_l5 fu sh I R j) _ _ _ _ _ = _
    simp only [fX11_cheapest_b5, fX11_cheapest_b76, fX11_cheapest_b77, oI_at S.md, h22, bsome, if_neg hz2, iz_lit, r_has (show m < 2147483648 by omega) (show k < 32 by omega), bz_zero, ek]
    cases hb : m.testBit k
    · have og := or_gt hb
      have fr := F (m ||| 2 ^ k) k ol (by omega) (by rw [or_bit, decide_eq_true rfl, Bool.or_true]) (Or.inl og)
      rw [hb, if_neg (show ¬ false = true by decide)] at q
      rw [if_pos rfl]
      simp only [oR_at S.md M.2.2.2.2.2.1, oR_at S.md M.2.2.2.2.1, bsome, iz_shlz (show k < 31 by omega), iz_orN, iz_add, iz_mul, iz_neg, r_ch_at S hn C h0 hl (show k < n by omega), r_re_at S (show m ||| 2 ^ k < 4096 by omega) (show k < 12 by omega), fr]
      rw [show pr l k + RS n pr (m ||| 2 ^ k) k = nxS n pr m l k from rfl]
      by_cases z : rf (nxS n pr m l) m k = -1
      · rw [if_pos (by rw [z])]
        rw [if_pos z] at q
        exact q
      · rw [if_neg (by rw [iz_eq (by omega) (by omega) (by omega) (by omega)]; exact z), iMin_iz (by omega) (by omega) (by omega) (by omega)]
        rw [if_neg z] at q
        exact q
    · rw [hb, if_pos rfl] at q
      rw [if_neg (show ¬ true = false by decide)]
      exact q
theorem r_cheap (S : OKS sh AD) (M : MR R AD) (hfu : 5000 ≤ fu) (hn : n ≤ 12) (h22 : I (AD 316) 22 = iz (n : Int)) (P : PB n pr) (C : PCH I AD n pr n 0) {m : Nat} {l : Int} (hm : m < 2 ^ n) (h0 : -1 ≤ l) (hl : l < n) (F : RR I AD n pr m 0) : fX11_cheapest fu sh I R (AD 316) (iz (m : Int)) (iz l) = some (iz (if m = 2 ^ n - 1 then 0 else (cl (nxS n pr m l) m n).2)) := by
  have q := r_cheap_loop (fu := fu) S M hn h22 P C hm h0 hl F n fu 0 (by omega) (by omega)
  simp only [fX11_cheapest, if_pos (isT_of S.md), iz_lit, iz_neg]
  exact q
theorem r_rest_in (S : OKS sh AD) (M : MR R AD) (hfu : 5000 ≤ fu) (hn : n ≤ 12) (P : PB n pr) {m : Nat} (hm : m < 2 ^ n) (k67 : HI → Nat → Int32 → Int32 → Option HI) : ∀ d j l : Nat, l + d = n → d < j → ∀ I : HI, I (AD 316) 22 = iz (n : Int) → PCH I AD n pr n 0 → RR I AD n pr m l →
    ∃ I', fX11_layBest_l27 fu sh R k67 j I (AD 316) (iz (n : Int)) (iz (m : Int)) (iz (l : Int)) = k67 I' (AD 316) (iz (n : Int)) (iz (m : Int)) ∧ RR I' AD n pr m n ∧ FR AD I I' (fun i _ => i = 327) := by
  have p2 : 2 ^ n ≤ 4096 := pw2 (Q := 12) (by omega)
  intro d
  induction d with
  | zero =>
    intro j l hl hj I h22 C F
    obtain ⟨j, rfl⟩ : ∃ i, j = i + 1 := ⟨j - 1, by omega⟩
    have e : l = n := by omega
    subst e
    refine ⟨I, ?_, F, FR.rf _ _ _⟩
    show fX11_layBest_b27 fu sh R (fX11_layBest_l27 fu sh R k67 j) k67 _ _ _ _ _ = _
    simp only [fX11_layBest_b27]
    rw [if_pos (by rw [iz_le (by omega) (by omega) (by omega) (by omega)]; omega)]
  | succ d ih =>
    intro j l hl hj I h22 C F
    obtain ⟨j, rfl⟩ : ∃ i, j = i + 1 := ⟨j - 1, by omega⟩
    have ek : iz (l : Int) + iz 1 = iz ((l + 1 : Nat) : Int) := by rw [iz_add]; rfl
    have hz2 : ¬ iz (n : Int) ≤ iz (l : Int) := by rw [iz_le (by omega) (by omega) (by omega) (by omega)]; omega
    have pl := Nat.pow_pos (a := 2) (n := n) (by decide)
    have F0 : RR I AD n pr m 0 := fun m' l' g1 g2 g3 g4 => F m' l' g1 g2 g3 (by rcases g4 with g4 | g4 <;> omega)
    have st := RS_st pr l hm
    have s327 := S.at (i := 327) (t := 20) (n := 49152) rfl (by decide) (by decide)
    obtain ⟨x, hx⟩ : ∃ x : Int, x = if m.testBit l = true then RS n pr m l else 0 := ⟨_, rfl⟩
    obtain ⟨J, hJ⟩ : ∃ J, J = u2 I (AD 327) (12 * m + l) (iz x) := ⟨_, rfl⟩
    have fr : FR AD I J (fun i _ => i = 327) := by rw [hJ]; exact FR.u2 S (by decide) (by decide) rfl (FR.rf AD I _)
    have FJ : RR J AD n pr m (l + 1) := by
      intro m' l' g1 g2 g3 g4
      rw [hJ, u2_ad S (by decide) (by decide) (by decide) (by decide)]
      by_cases z : 12 * m' + l' = 12 * m + l
      · have z1 : m' = m := by omega
        have z2 : l' = l := by omega
        rw [z1, z2] at g3
        rw [if_pos ⟨rfl, z⟩, hx, if_pos g3, z1, z2]
      · rw [if_neg (fun w => z w.2)]
        refine F m' l' g1 g2 g3 ?_
        rcases g4 with g4 | ⟨g4, g5⟩
        · exact Or.inl g4
        · refine Or.inr ⟨g4, ?_⟩
          have : ¬ l' = l := fun w => z (by rw [g4, w])
          omega
    obtain ⟨I', e, F', fr'⟩ := ih j (l + 1) (by omega) (by omega) J ((fr 316 (by decide) (by decide) 22 (by decide)).trans h22) (C.fr fr (fun _ => by decide)) FJ
    refine ⟨I', ?_, F', fr.tr fr'⟩
    rw [← e]
    have ix : 12 * (m : Int) + (l : Int) = ((12 * m + l : Nat) : Int) := by omega
    show fX11_layBest_b27 fu sh R (fX11_layBest_l27 fu sh R k67 j) k67 _ _ _ _ _ = _
    simp only [fX11_layBest_b27, fX11_layBest_b60, bsome, if_neg hz2, iz_lit, r_has (show m < 2147483648 by omega) (show l < 32 by omega), bz_zero, oR_at S.md M.2.2.2.2.1, r_cheap S M hfu hn h22 P C hm (show -1 ≤ (l : Int) by omega) (by omega) F0, iz_mul, iz_add, ← st, ix, oS_nat s327 (show 12 * m + l < 49152 by omega) (show 49152 ≤ 100000 by decide)]
    cases hb : m.testBit l
    · rw [hb, if_neg (show ¬ false = true by decide)] at hx
      rw [if_pos rfl, hJ, hx]
      rfl
    · rw [hb, if_pos rfl] at hx
      rw [if_neg (show ¬ true = false by decide), hJ, hx]
      rfl
theorem r_rest_out (S : OKS sh AD) (M : MR R AD) (hfu : 5000 ≤ fu) (hn : n ≤ 12) (P : PB n pr) (k73 : HI → Nat → Int32 → Option HI) : ∀ m j : Nat, m < 2 ^ n → m < j → ∀ I : HI, I (AD 316) 22 = iz (n : Int) → PCH I AD n pr n 0 → RR I AD n pr m 0 →
    ∃ I', fX11_layBest_l21 fu sh R k73 j I (AD 316) (iz (n : Int)) (iz (m : Int)) = k73 I' (AD 316) (iz (n : Int)) ∧ RR I' AD n pr 0 0 ∧ FR AD I I' (fun i _ => i = 327) := by
  have p2 : 2 ^ n ≤ 4096 := pw2 (Q := 12) (by omega)
  intro m
  induction m with
  | zero =>
    intro j hm hj I h22 C F
    obtain ⟨j, rfl⟩ : ∃ i, j = i + 1 := ⟨j - 1, by omega⟩
    refine ⟨I, ?_, F, FR.rf _ _ _⟩
    show fX11_layBest_b21 fu sh R (fX11_layBest_l21 fu sh R k73 j) k73 _ _ _ _ = _
    simp only [fX11_layBest_b21, iz_lit]
    rw [if_pos (by rw [iz_le (by decide) (by decide) (by decide) (by decide)]; decide)]
  | succ m ih =>
    intro j hm hj I h22 C F
    obtain ⟨j, rfl⟩ : ∃ i, j = i + 1 := ⟨j - 1, by omega⟩
    obtain ⟨J, e, F1, fr⟩ := r_rest_in (fu := fu) S M hfu hn P hm (fX11_layBest_b67 fu sh R (fX11_layBest_l21 fu sh R k73 j) k73) n fu 0 (by omega) (by omega) I h22 C F
    have FJ : RR J AD n pr m 0 := fun m' l' g1 g2 g3 g4 => F1 m' l' g1 g2 g3 (by rcases g4 with g4 | g4 <;> omega)
    obtain ⟨I', e2, F', fr2⟩ := ih j (by omega) (by omega) J ((fr 316 (by decide) (by decide) 22 (by decide)).trans h22) (C.fr fr (fun _ => by decide)) FJ
    refine ⟨I', ?_, F', fr.tr fr2⟩
    rw [← e2]
    show fX11_layBest_b21 fu sh R (fX11_layBest_l21 fu sh R k73 j) k73 _ _ _ _ = _
    simp only [fX11_layBest_b21, iz_lit]
    rw [if_neg (by rw [iz_le (by omega) (by omega) (by omega) (by omega)]; omega)]
    refine e.trans ?_
    simp only [fX11_layBest_b67, iz_lit, iz_neg, iz_add]
    rw [show ((m + 1 : Nat) : Int) + -1 = (m : Int) by omega]
theorem r_first (S : OKS sh AD) (M : MR R AD) (hn : n ≤ 12) (P : PB n pr) (C : PCH I AD n pr n 0) (F : RR I AD n pr 0 0) {i : Nat} (hi : i < n) (k159 : HI → Nat → Int32 → Int32 → Int32 → Int32 → Option HI) : ∀ d j k : Nat, k + d = orS n pr i → d < j →
    fX11_layBest_l107 fu sh R k159 j I (AD 316) (iz (n : Int)) (iz ((pwS n pr i).1 : Int)) (iz (pwS n pr i).2) (iz (i : Int)) (iz (cl (nxS n pr (pwS n pr i).1 (pwS n pr i).2) (pwS n pr i).1 n).2) (iz (k : Int)) = k159 I (AD 316) (iz (n : Int)) (iz ((pwS n pr i).1 : Int)) (iz (i : Int)) (iz (orS n pr i : Int)) := by
  have p2 : 2 ^ n ≤ 4096 := pw2 (Q := 12) (by omega)
  obtain ⟨a1, a2, a3, a4⟩ := pw_ok P hn i (by omega)
  obtain ⟨o1, o2, o3, o4⟩ := or_at P hn hi
  have cr := cl_le (nxS n pr (pwS n pr i).1 (pwS n pr i).2) (pwS n pr i).1 n
  have c0 := cl_nn (g := nxS n pr (pwS n pr i).1 (pwS n pr i).2) (m := (pwS n pr i).1) n (fun t ht _ => (nx_range P hn a1 a3 a4 ht).1)
  intro d
  induction d with
  | zero =>
    intro j k hk hj
    obtain ⟨j, rfl⟩ : ∃ t, j = t + 1 := ⟨j - 1, by omega⟩
    have e : k = orS n pr i := by omega
    subst e
    have og := or_gt o2
    have ol := or_lt a1 o1
    have fr := F _ _ ol o1 (by rw [or_bit, decide_eq_true rfl, Bool.or_true]) (Or.inl (by omega))
    show fX11_layBest_b107 fu sh R (fX11_layBest_l107 fu sh R k159 j) k159 _ _ _ _ _ _ _ _ = _
    simp only [fX11_layBest_b107, r_has (show (pwS n pr i).1 < 2147483648 by omega) (show orS n pr i < 32 by omega), bsome, o2, iz_lit, bz_zero, if_true, oR_at S.md M.2.2.2.2.2.1, oR_at S.md M.2.2.2.2.1, iz_shlz (show orS n pr i < 31 by omega), iz_orN, iz_add, iz_mul, r_ch_at S hn C a3 a4 o1, r_re_at S (show (pwS n pr i).1 ||| 2 ^ orS n pr i < 4096 by omega) (show orS n pr i < 12 by omega), fr]
    rw [show pr (pwS n pr i).2 (orS n pr i) + RS n pr ((pwS n pr i).1 ||| 2 ^ orS n pr i) (orS n pr i) = nxS n pr (pwS n pr i).1 (pwS n pr i).2 (orS n pr i) from rfl, o3, if_pos rfl]
  | succ d ih =>
    intro j k hk hj
    obtain ⟨j, rfl⟩ : ∃ t, j = t + 1 := ⟨j - 1, by omega⟩
    have q := ih j (k + 1) (by omega) (by omega)
    have ek : iz (k : Int) + iz 1 = iz ((k + 1 : Nat) : Int) := by rw [iz_add]; rfl
    rw [← q]
    show fX11_layBest_b107 fu sh R (fX11_layBest_l107 fu sh R k159 j) k159 _ _ _ _ _ _ _ _ = _
    simp only [fX11_layBest_b107, fX11_layBest_b153, r_has (show (pwS n pr i).1 < 2147483648 by omega) (show k < 32 by omega), bsome, iz_lit, bz_zero, ek]
    cases hb : (pwS n pr i).1.testBit k
    · have og := or_gt hb
      have ol := or_lt a1 (show k < n by omega)
      have fr := F _ _ ol (show k < n by omega) (by rw [or_bit, decide_eq_true rfl, Bool.or_true]) (Or.inl (by omega))
      have g := nx_range P hn a1 a3 a4 (show k < n by omega)
      have ne := o4 k (by omega) hb
      rw [if_pos rfl]
      simp only [oR_at S.md M.2.2.2.2.2.1, oR_at S.md M.2.2.2.2.1, bsome, iz_shlz (show k < 31 by omega), iz_orN, iz_add, iz_mul, r_ch_at S hn C a3 a4 (show k < n by omega), r_re_at S (show (pwS n pr i).1 ||| 2 ^ k < 4096 by omega) (show k < 12 by omega), fr]
      rw [show pr (pwS n pr i).2 k + RS n pr ((pwS n pr i).1 ||| 2 ^ k) k = nxS n pr (pwS n pr i).1 (pwS n pr i).2 k from rfl, if_neg (by rw [iz_eq (by omega) (by omega) (by omega) (by omega)]; omega)]
    · rw [if_neg (show ¬ true = false by decide)]
theorem r_follow (S : OKS sh AD) (M : MR R AD) (hfu : 5000 ≤ fu) (hn : n ≤ 12) (P : PB n pr) : ∀ d j i : Nat, i + d = n → d < j → ∀ I : HI, I (AD 316) 22 = iz (n : Int) → PCH I AD n pr n 0 → RR I AD n pr 0 0 → AR I AD 329 i (fun k => (orS n pr k : Int)) →
    ∃ I', fX11_layBest_l90 fu sh R j I (AD 316) (iz (n : Int)) (iz ((pwS n pr i).1 : Int)) (iz (pwS n pr i).2) (iz (i : Int)) = some I' ∧ AR I' AD 329 n (fun k => (orS n pr k : Int)) ∧ FR AD I I' (fun i _ => i = 329) := by
  have p2 : 2 ^ n ≤ 4096 := pw2 (Q := 12) (by omega)
  intro d
  induction d with
  | zero =>
    intro j i hi hj I h22 C F A
    obtain ⟨j, rfl⟩ : ∃ t, j = t + 1 := ⟨j - 1, by omega⟩
    have e : i = n := by omega
    subst e
    refine ⟨I, ?_, A, FR.rf _ _ _⟩
    show fX11_layBest_b90 fu sh R (fX11_layBest_l90 fu sh R j) _ _ _ _ _ _ = _
    simp only [fX11_layBest_b90]
    rw [if_pos (by rw [iz_le (by omega) (by omega) (by omega) (by omega)]; omega)]
  | succ d ih =>
    intro j i hi hj I h22 C F A
    obtain ⟨j, rfl⟩ : ∃ t, j = t + 1 := ⟨j - 1, by omega⟩
    obtain ⟨a1, a2, a3, a4⟩ := pw_ok P hn i (by omega)
    have o1 := (or_at P hn (show i < n by omega)).1
    have ek : iz (i : Int) + iz 1 = iz ((i + 1 : Nat) : Int) := by rw [iz_add]; rfl
    have hz2 : ¬ iz (n : Int) ≤ iz (i : Int) := by rw [iz_le (by omega) (by omega) (by omega) (by omega)]; omega
    have na : ¬ (pwS n pr i).1 = 2 ^ n - 1 := fun z => by
      have := (pc_all (m := (pwS n pr i).1) n).mpr (fun j hj => by rw [z, all_bit, decide_eq_true hj])
      omega
    have F0 : RR I AD n pr (pwS n pr i).1 0 := fun m' l' g1 g2 g3 g4 => F m' l' g1 g2 g3 (Or.inl (by omega))
    have ch := r_cheap (fu := fu) S M hfu hn h22 P C a1 a3 a4 F0
    rw [if_neg na] at ch
    obtain ⟨J, hJ⟩ : ∃ J, J = u2 I (AD 329) i (iz (orS n pr i : Int)) := ⟨_, rfl⟩
    have fr : FR AD I J (fun i _ => i = 329) := by rw [hJ]; exact FR.u2 S (by decide) (by decide) rfl (FR.rf AD I _)
    have AJ : AR J AD 329 (i + 1) (fun k => (orS n pr k : Int)) := by
      intro t ht
      rw [hJ]
      have q := AR.put S (by decide) (by decide) A (orS n pr i : Int) (n' := i + 1) (j := i) (fun t _ _ => by omega)
      rw [q t ht]
      unfold up
      by_cases z : t = i
      · rw [if_pos z, z]
      · rw [if_neg z]
    obtain ⟨I', e, h2, h3⟩ := ih j (i + 1) (by omega) (by omega) J ((fr 316 (by decide) (by decide) 22 (by decide)).trans h22) (C.fr fr (fun _ => by decide)) (F.fr fr (fun _ => by decide)) AJ
    refine ⟨I', ?_, h2, fr.tr h3⟩
    rw [← e, pw_s]
    show fX11_layBest_b90 fu sh R (fX11_layBest_l90 fu sh R j) _ _ _ _ _ _ = _
    simp only [fX11_layBest_b90, if_neg hz2, ch, bsome, iz_lit]
    refine (r_first (fu := fu) S M hn P C F (show i < n by omega) (fX11_layBest_b159 fu sh R (fX11_layBest_l90 fu sh R j)) (orS n pr i) fu 0 (by omega) (by omega)).trans ?_
    simp only [fX11_layBest_b159, oR_at S.md M.2.2.2.2.2.2.1, bsome, oS_nat (S.at (i := 329) (t := 20) (n := 12) rfl (by decide) (by decide)) (show i < 12 by omega) (show 12 ≤ 100000 by decide), iz_lit, iz_shlz (show orS n pr i < 31 by omega), iz_orN, ek]
    rw [← hJ]
end
/-- the reference's best order, laid -/
def KB (I : HI) (AD : Int → Nat) (ρ : RHO) : Prop := I (AD 316) 26 = iz (bcD (mSet ρ) (prG ρ)) ∧ AR I AD 329 (mSet ρ) (fun k => (orS (mSet ρ) (prG ρ) k : Int))
theorem r_layBest (S : OKS sh AD) (M : MR R AD) (H : RW I AD ρ) (V : VB ρ) (hfu : 5000 ≤ fu) :
    ∃ I', fX11_layBest fu sh I R (AD 316) = some I' ∧ SG I' AD ρ (ρ 0) (ρ 4).toNat ∧ KB I' AD ρ ∧ FR AD I I' WBest := by
  have hm := mSet_le V
  have vl := V.lim
  have P := prG_B V
  have p2 : 2 ^ mSet ρ ≤ 4096 := pw2 (Q := 12) (by omega)
  have p0 := Nat.pow_pos (a := 2) (n := mSet ρ) (by decide)
  obtain ⟨I1, e1, G1, f1⟩ := r_setups (fu := fu) S M H V hfu vl.1.1 vl.1.2
  have f1' : FR AD I I1 WBest := f1.wd (fun i k z => Or.inl z)
  have H1 := H.fr f1 (fun k => by unfold Wset; omega)
  obtain ⟨I2, e2, C2, f2⟩ := r_changes (fu := fu) S M H1 V hfu G1
  have f2' : FR AD I1 I2 WBest := f2.wd (fun i k z => Or.inr (Or.inr (Or.inl z)))
  have G2 := G1.fr f2 (by decide) (fun i k g1 g2 => by omega)
  obtain ⟨I3, e3, F3, f3⟩ := r_rest_out (fu := fu) S M hfu hm P (fX11_layBest_b73 fu sh R) (2 ^ mSet ρ - 1) fu (by omega) (by omega) I2 G2.1 C2 (fun m' l' g1 g2 g3 g4 => by omega)
  have f3' : FR AD I2 I3 WBest := f3.wd (fun i k z => Or.inr (Or.inl z))
  have G3 := G2.fr f3 (by decide) (fun i k g1 g2 => by omega)
  have C3 := C2.fr f3 (fun _ => by decide)
  have e5 := r_cheap (fu := fu) S M hfu hm G3.1 P C3 (m := 0) (l := -1) p0 (by decide) (by omega) F3
  have eb : (if 0 = 2 ^ mSet ρ - 1 then (0 : Int) else (cl (nxS (mSet ρ) (prG ρ) 0 (-1)) 0 (mSet ρ)).2) = bcD (mSet ρ) (prG ρ) := by
    unfold bcD
    by_cases z : mSet ρ = 0
    · rw [if_pos z, if_pos (by rw [z])]
    · have : 2 ^ 1 ≤ 2 ^ mSet ρ := Nat.pow_le_pow_right (by decide) (by omega)
      rw [if_neg z, if_neg (by omega)]
  rw [eb] at e5
  obtain ⟨I4, hI4⟩ : ∃ J, J = u2 I3 (AD 316) 26 (iz (bcD (mSet ρ) (prG ρ))) := ⟨_, rfl⟩
  have f4 : FR AD I3 I4 (fun i k => i = 316 ∧ k = 26) := by rw [hI4]; exact FR.u2 S (by decide) (by decide) ⟨rfl, rfl⟩ (FR.rf AD I3 _)
  have f4' : FR AD I3 I4 WBest := f4.wd (fun i k z => Or.inr (Or.inr (Or.inr (Or.inr z))))
  have G4 := G3.fr f4 (by decide) (fun i k g1 g2 => by omega)
  obtain ⟨I5, e6, A5, f5⟩ := r_follow (fu := fu) S M hfu hm P (mSet ρ) fu 0 (by omega) (by omega) I4 G4.1 (C3.fr f4 (fun _ => by omega)) (F3.fr f4 (fun _ => by omega)) (fun t ht => by omega)
  have f5' : FR AD I4 I5 WBest := f5.wd (fun i k z => Or.inr (Or.inr (Or.inr (Or.inl z))))
  refine ⟨I5, ?_, G4.fr f5 (by decide) (fun i k g1 g2 => by omega), ⟨(f5 316 (by decide) (by decide) 26 (by decide)).trans ?_, A5⟩, (((f1'.tr f2').tr f3').tr f4').tr f5'⟩
  · have ea : iz ((2 ^ mSet ρ : Nat) : Int) - iz 1 = iz ((2 ^ mSet ρ - 1 : Nat) : Int) := by
      rw [iz_sub]
      congr 1
      omega
    have e1' : fX11_setupsNow fu sh I R (AD 316) (iz (ρ 0)) = some (iz (mSet ρ : Int), I1) := e1
    simp only [fX11_layBest, if_pos (isT_of S.md), oR_at S.md M.1.1, bsome, iz_lit, r_row S M H (by decide : (0 : Int) ≤ 0) (by decide : (0 : Int) < 119), e1', oHs, e2, iz_shlz (show mSet ρ < 31 by omega), ea]
    rw [e3]
    simp only [fX11_layBest_b73, iz_lit, iz_neg]
    have e5' : fX11_cheapest fu sh I3 R (AD 316) (iz 0) (iz (-1)) = some (iz (bcD (mSet ρ) (prG ρ))) := e5
    rw [e5', bsome, oP_at S.md, bsome, ← hI4]
    exact e6
  · rw [hI4, u2_ad S (by decide) (by decide) (by decide) (by decide), if_pos ⟨rfl, rfl⟩]
end R8
