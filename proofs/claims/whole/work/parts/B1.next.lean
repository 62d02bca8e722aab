/-! STAGE 2: bestShot of the reference: the next order, an order laid -/
/-- the reference's order, its best order -/
def OLR (I : HI) (AD : Int → Nat) (m : Nat) (o : List Nat) : Prop := AR I AD 321 m (fun k => (o.getD k 0 : Int))
theorem swL_get {o : List Nat} {a b k : Nat} (ha : a < o.length) (hb : b < o.length) (hk : k < o.length) : (swL o a b).getD k 0 = if k = b then o.getD a 0 else if k = a then o.getD b 0 else o.getD k 0 := by
  unfold swL
  rw [List.getD_eq_getElem?_getD, List.getD_eq_getElem?_getD (l := o) (i := k), List.getElem?_set, List.getElem?_set]
  by_cases z : k = b
  · rw [if_pos z, if_pos z.symm, if_pos (by rw [List.length_set]; omega)]
    rfl
  · rw [if_neg z, if_neg (fun w => z w.symm)]
    by_cases w : k = a
    · rw [if_pos w, if_pos w.symm, if_pos (by omega)]
      rfl
    · rw [if_neg w, if_neg (fun y => w y.symm)]
theorem swL_len (o : List Nat) (a b : Nat) : (swL o a b).length = o.length := by
  unfold swL
  rw [List.length_set, List.length_set]
theorem rv_len : ∀ f (o : List Nat) a b, (rvO f o a b).length = o.length := by
  intro f
  induction f with
  | zero => intro o a b; rfl
  | succ f ih =>
    intro o a b
    unfold rvO
    split
    · rfl
    · rw [ih, swL_len]
section Q42
variable {fu : Nat} {sh : HS} {I I' J : HI} {R : HR} {AD : Int → Nat} {σ : STT} {ρ ρ' : RHO} {m : Nat} {o : List Nat}
theorem k321 (S : OKS sh AD) : sh (AD 321) = some (20, 6) := S.at rfl (by decide) (by decide)
theorem OLR.sw (S : OKS sh AD) (hl : o.length = m) (H : OLR I AD m o) {a b : Nat} (ha : a < m) (hb : b < m) : OLR (u2 (u2 I (AD 321) a (iz (o.getD b 0 : Int))) (AD 321) b (iz (o.getD a 0 : Int))) AD m (swL o a b) := by
  intro k hk
  rw [u2_ad S (by decide) (by decide) (by decide) (by decide), u2_ad S (by decide) (by decide) (by decide) (by decide)]
  show _ = iz ((swL o a b).getD k 0 : Int)
  rw [swL_get (by omega) (by omega) (by omega)]
  by_cases z : k = b
  · rw [if_pos ⟨rfl, z⟩, if_pos z]
  · rw [if_neg (fun w => z w.2), if_neg z]
    by_cases w : k = a
    · rw [if_pos ⟨rfl, w⟩, if_pos w]
    · rw [if_neg (fun y => w y.2), if_neg w]
      exact H k hk
theorem r_nx_k (S : OKS sh AD) (M : MR R AD) (hm6 : m ≤ 6) (ho : ∀ k, k < m → o.getD k 0 < m) (H : OLR I AD m o) (k31 : HI → Nat → Int32 → Int32 → Option (Int32 × HI)) : ∀ k j : Nat, k < m → k < j →
    fX11_nextOrder_l4 fu sh R k31 j I (AD 316) (iz (m : Int)) (iz ((k : Int) - 1)) = k31 I (AD 316) (iz (m : Int)) (iz ((fkO o k : Int) - 1)) := by
  intro k
  induction k with
  | zero =>
    intro j hk hj
    obtain ⟨j, rfl⟩ : ∃ t, j = t + 1 := ⟨j - 1, by omega⟩
    show fX11_nextOrder_b4 fu sh R (fX11_nextOrder_l4 fu sh R k31 j) k31 I _ _ _ = _
    simp only [fX11_nextOrder_b4, iz_lit]
    rw [if_pos (by rw [iz_lt (by omega) (by omega) (by decide) (by decide)]; omega)]
    rfl
  | succ k ih =>
    intro j hk hj
    obtain ⟨j, rfl⟩ : ∃ t, j = t + 1 := ⟨j - 1, by omega⟩
    have e1 : ((k + 1 : Nat) : Int) - 1 = (k : Int) := by omega
    have e2 : iz (k : Int) + iz 1 = iz ((k + 1 : Nat) : Int) := by rw [iz_add]; rfl
    have e3 : iz (k : Int) + -iz 1 = iz ((k : Int) - 1) := by rw [iz_neg, iz_add]; rfl
    have h0 := ho k (by omega)
    have h1 := ho (k + 1) hk
    show fX11_nextOrder_b4 fu sh R (fX11_nextOrder_l4 fu sh R k31 j) k31 I _ _ _ = _
    rw [e1]
    simp only [fX11_nextOrder_b4, iz_lit, oR_at S.md M.1.2.2.2.2.1, bsome, e2, e3, oA_nat (k321 S) (show k < 6 by omega) (by decide), oA_nat (k321 S) (show k + 1 < 6 by omega) (by decide), H k (by omega), H (k + 1) hk, ih j (by omega) (by omega)]
    rw [if_neg (by rw [iz_lt (by omega) (by omega) (by decide) (by decide)]; omega)]
    have un : fkO o (k + 1) = if o.getD (k + 1) 0 < o.getD k 0 then fkO o k else k + 1 := rfl
    rw [un]
    by_cases z : o.getD (k + 1) 0 < o.getD k 0
    · rw [if_pos z, if_neg (by rw [iz_le (by omega) (by omega) (by omega) (by omega)]; omega)]
    · rw [if_neg z, if_pos (by rw [iz_le (by omega) (by omega) (by omega) (by omega)]; omega), e1]
theorem r_nx_o (S : OKS sh AD) (M : MR R AD) (hm6 : m ≤ 6) (ho : ∀ k, k < m → o.getD k 0 < m) (H : OLR I AD m o) {k : Nat} (hk : k < m) (k62 : HI → Nat → Int32 → Int32 → Int32 → Option (Int32 × HI)) : ∀ t j : Nat, t < m → t < j → o.getD k 0 ≤ o.getD (foO o (o.getD k 0) t) 0 →
    fX11_nextOrder_l41 fu sh R k62 j I (AD 316) (iz (m : Int)) (iz (k : Int)) (iz (t : Int)) = k62 I (AD 316) (iz (m : Int)) (iz (k : Int)) (iz (foO o (o.getD k 0) t : Int)) := by
  have h0 := ho k hk
  intro t
  induction t with
  | zero =>
    intro j ht hj hx
    obtain ⟨j, rfl⟩ : ∃ t, j = t + 1 := ⟨j - 1, by omega⟩
    have h1 := ho 0 ht
    have hx2 : o.getD k 0 ≤ o.getD 0 0 := hx
    show fX11_nextOrder_b41 fu sh R (fX11_nextOrder_l41 fu sh R k62 j) k62 I _ _ _ _ = _
    simp only [fX11_nextOrder_b41, oR_at S.md M.1.2.2.2.2.1, bsome, oA_nat (k321 S) (show k < 6 by omega) (by decide), oA_nat (k321 S) (show 0 < 6 by omega) (by decide), H k hk, H 0 ht]
    rw [if_pos (by rw [iz_le (by omega) (by omega) (by omega) (by omega)]; omega)]
    rfl
  | succ t ih =>
    intro j ht hj hx
    obtain ⟨j, rfl⟩ : ∃ t, j = t + 1 := ⟨j - 1, by omega⟩
    have h1 := ho (t + 1) ht
    have e3 : iz ((t + 1 : Nat) : Int) + -iz 1 = iz (t : Int) := by rw [iz_neg, iz_add]; congr 1; omega
    have un : foO o (o.getD k 0) (t + 1) = if o.getD (t + 1) 0 < o.getD k 0 then foO o (o.getD k 0) t else t + 1 := rfl
    rw [un] at hx ⊢
    show fX11_nextOrder_b41 fu sh R (fX11_nextOrder_l41 fu sh R k62 j) k62 I _ _ _ _ = _
    simp only [fX11_nextOrder_b41, oR_at S.md M.1.2.2.2.2.1, bsome, oA_nat (k321 S) (show k < 6 by omega) (by decide), oA_nat (k321 S) (show t + 1 < 6 by omega) (by decide), H k hk, H (t + 1) ht, iz_lit, e3]
    by_cases z : o.getD (t + 1) 0 < o.getD k 0
    · rw [if_pos z] at hx ⊢
      rw [if_neg (by rw [iz_le (by omega) (by omega) (by omega) (by omega)]; omega)]
      exact ih j (by omega) (by omega) hx
    · rw [if_neg z, if_pos (by rw [iz_le (by omega) (by omega) (by omega) (by omega)]; omega)]
theorem r_nx_r (S : OKS sh AD) (M : MR R AD) (hm6 : m ≤ 6) : ∀ f j a b : Nat, ∀ o : List Nat, ∀ I : HI, o.length = m → (∀ k, k < m → o.getD k 0 < m) → a ≤ m → b < m → b < a + f → f < j → OLR I AD m o →
    ∃ I', fX11_nextOrder_l100 fu sh R j I (AD 316) (iz (a : Int)) (iz (b : Int)) = some (iz 1, I') ∧ OLR I' AD m (rvO f o a b) ∧ FR AD I I' (fun i _ => i = 321) := by
  intro f
  induction f with
  | zero =>
    intro j a b o I hl ho ha hb hf hj H
    obtain ⟨j, rfl⟩ : ∃ t, j = t + 1 := ⟨j - 1, by omega⟩
    refine ⟨I, ?_, H, FR.rf _ _ _⟩
    show fX11_nextOrder_b100 fu sh R (fX11_nextOrder_l100 fu sh R j) I _ _ _ = _
    simp only [fX11_nextOrder_b100, iz_lit]
    rw [if_pos (by rw [iz_le (by omega) (by omega) (by omega) (by omega)]; omega)]
  | succ f ih =>
    intro j a b o I hl ho ha hb hf hj H
    obtain ⟨j, rfl⟩ : ∃ t, j = t + 1 := ⟨j - 1, by omega⟩
    have un : rvO (f + 1) o a b = if b ≤ a then o else rvO f (swL o a b) (a + 1) (b - 1) := rfl
    rw [un]
    by_cases z : b ≤ a
    · rw [if_pos z]
      refine ⟨I, ?_, H, FR.rf _ _ _⟩
      show fX11_nextOrder_b100 fu sh R (fX11_nextOrder_l100 fu sh R j) I _ _ _ = _
      simp only [fX11_nextOrder_b100, iz_lit]
      rw [if_pos (by rw [iz_le (by omega) (by omega) (by omega) (by omega)]; omega)]
    · rw [if_neg z]
      have e1 : iz (a : Int) + iz 1 = iz ((a + 1 : Nat) : Int) := by rw [iz_add]; rfl
      have e2 : iz (b : Int) + -iz 1 = iz ((b - 1 : Nat) : Int) := by rw [iz_neg, iz_add]; congr 1; omega
      have H2 := H.sw S hl (show a < m by omega) hb
      have F : FR AD I (u2 (u2 I (AD 321) a (iz (o.getD b 0 : Int))) (AD 321) b (iz (o.getD a 0 : Int))) (fun i _ => i = 321) := FR.u2 S (by decide) (by decide) rfl (FR.u2 S (by decide) (by decide) rfl (FR.rf AD I _))
      obtain ⟨I', e, g1, g2⟩ := ih j (a + 1) (b - 1) (swL o a b) _ (by rw [swL_len]; exact hl) (fun k hk => by
        rw [swL_get (by omega) (by omega) (by omega)]
        split
        · exact ho a (by omega)
        · split
          · exact ho b hb
          · exact ho k hk) (by omega) (by omega) (by omega) (by omega) H2
      refine ⟨I', ?_, g1, F.tr g2⟩
      rw [← e]
      show fX11_nextOrder_b100 fu sh R (fX11_nextOrder_l100 fu sh R j) I _ _ _ = _
      simp only [fX11_nextOrder_b100, iz_lit, oR_at S.md M.1.2.2.2.2.1, bsome, oA_nat (k321 S) (show a < 6 by omega) (by decide), oA_nat (k321 S) (show b < 6 by omega) (by decide), H a (by omega), H b hb, oS_nat (k321 S) (show a < 6 by omega) (by decide), oS_nat (k321 S) (show b < 6 by omega) (by decide), e1, e2]
      rw [if_neg (by rw [iz_le (by omega) (by omega) (by omega) (by omega)]; omega)]
theorem fk_le (o : List Nat) : ∀ k, fkO o k ≤ k := by
  intro k
  induction k with
  | zero => exact Nat.le_refl 0
  | succ k ih =>
    have un : fkO o (k + 1) = if o.getD (k + 1) 0 < o.getD k 0 then fkO o k else k + 1 := rfl
    rw [un]
    split <;> omega
theorem fo_le (o : List Nat) (x : Nat) : ∀ k, foO o x k ≤ k := by
  intro k
  induction k with
  | zero => exact Nat.le_refl 0
  | succ k ih =>
    have un : foO o x (k + 1) = if o.getD (k + 1) 0 < x then foO o x k else k + 1 := rfl
    rw [un]
    split <;> omega
theorem r_next (S : OKS sh AD) (M : MR R AD) (hfu : 5000 ≤ fu) (hm0 : 0 < m) (hm6 : m ≤ 6) (hl : o.length = m) (ho : ∀ k, k < m → o.getD k 0 < m) (hx : fkO o (m - 1) = 0 ∨ o.getD (fkO o (m - 1) - 1) 0 ≤ o.getD (foO o (o.getD (fkO o (m - 1) - 1) 0) (m - 1)) 0) (H : OLR I AD m o) :
    (nxO m o = none → fX11_nextOrder fu sh I R (AD 316) (iz (m : Int)) = some (iz 0, I)) ∧ ∀ o', nxO m o = some o' → ∃ I', fX11_nextOrder fu sh I R (AD 316) (iz (m : Int)) = some (iz 1, I') ∧ OLR I' AD m o' ∧ FR AD I I' (fun i _ => i = 321) := by
  have e2 : iz (m : Int) - iz 2 = iz (((m - 1 : Nat) : Int) - 1) := by rw [iz_sub]; congr 1; omega
  have em : iz (m : Int) - iz 1 = iz ((m - 1 : Nat) : Int) := by rw [iz_sub]; congr 1; omega
  have fk := fk_le o (m - 1)
  have hd : fX11_nextOrder fu sh I R (AD 316) (iz (m : Int)) = fX11_nextOrder_b31 fu sh R I (AD 316) (iz (m : Int)) (iz ((fkO o (m - 1) : Int) - 1)) := by
    simp only [fX11_nextOrder, if_pos (isT_of S.md), iz_lit, e2]
    exact r_nx_k S M hm6 ho H (fX11_nextOrder_b31 fu sh R) (m - 1) fu (by omega) (by omega)
  simp only [fX11_nextOrder_b31, iz_lit] at hd
  unfold nxO
  by_cases z : fkO o (m - 1) = 0
  · rw [if_pos z]
    refine ⟨fun _ => ?_, fun o' h => absurd h (by intro w; cases w)⟩
    rw [hd, if_neg (by rw [iz_le (by decide) (by decide) (by omega) (by omega)]; omega)]
  · rw [if_neg z]
    refine ⟨fun h => absurd h (by intro w; cases w), fun o' h => ?_⟩
    have h2 := Option.some.inj h
    subst h2
    obtain ⟨k, hk⟩ : ∃ k, k = fkO o (m - 1) - 1 := ⟨_, rfl⟩
    have fe : fkO o (m - 1) = k + 1 := by omega
    have ki : (fkO o (m - 1) : Int) - 1 = (k : Int) := by omega
    have hx2 : o.getD k 0 ≤ o.getD (foO o (o.getD k 0) (m - 1)) 0 := by
      rcases hx with hx | hx
      · exact absurd hx z
      · rw [← hk] at hx
        exact hx
    have fl := fo_le o (o.getD k 0) (m - 1)
    rw [ki, if_pos (by rw [iz_le (by decide) (by decide) (by omega) (by omega)]; omega), em, r_nx_o S M hm6 ho H (show k < m by omega) (fX11_nextOrder_b62 fu sh R) (m - 1) fu (by omega) (by omega) hx2] at hd
    rw [← hk, fe]
    have H2 := H.sw S hl (show k < m by omega) (show foO o (o.getD k 0) (m - 1) < m by omega)
    have F : FR AD I (u2 (u2 I (AD 321) k (iz (o.getD (foO o (o.getD k 0) (m - 1)) 0 : Int))) (AD 321) (foO o (o.getD k 0) (m - 1)) (iz (o.getD k 0 : Int))) (fun i _ => i = 321) := FR.u2 S (by decide) (by decide) rfl (FR.u2 S (by decide) (by decide) rfl (FR.rf AD I _))
    obtain ⟨I', e, g1, g2⟩ := r_nx_r (fu := fu) S M hm6 7 fu (k + 1) (m - 1) _ _ (by rw [swL_len]; exact hl) (fun i hi => by
        rw [swL_get (by omega) (by omega) (by omega)]
        split
        · exact ho k (by omega)
        · split
          · exact ho _ (by omega)
          · exact ho i hi) (by omega) (by omega) (by omega) (by omega) H2
    refine ⟨I', ?_, g1, F.tr g2⟩
    rw [hd, ← e]
    have e1 : iz (k : Int) + iz 1 = iz ((k + 1 : Nat) : Int) := by rw [iz_add]; rfl
    simp only [fX11_nextOrder_b62, iz_lit, oR_at S.md M.1.2.2.2.2.1, bsome, oA_nat (k321 S) (show k < 6 by omega) (by decide), oA_nat (k321 S) (show foO o (o.getD k 0) (m - 1) < 6 by omega) (by decide), H k (by omega), H _ (show foO o (o.getD k 0) (m - 1) < m by omega), oS_nat (k321 S) (show k < 6 by omega) (by decide), oS_nat (k321 S) (show foO o (o.getD k 0) (m - 1) < 6 by omega) (by decide), e1, em]
/-- the shots laid aside; a row that is ρ but in the block -/
def ASD (I : HI) (AD : Int → Nat) (ρ : RHO) : Prop := AR I AD 323 72 (fun k => ρ (47 + (k : Int)))
def BLK (ρ ρ' : RHO) (f m : Nat) : Prop := ∀ j, 0 ≤ j → j < 119 → ¬ (47 + 6 * (f : Int) ≤ j ∧ j < 47 + 6 * ((f : Int) + m)) → ρ' j = ρ j
/-- laid as far as the place t of the block's numbers -/
def lyK (ρ ρ' : RHO) (q : Int → Int) (f t : Nat) : RHO := fun j => if 47 + 6 * (f : Int) ≤ j ∧ j < 47 + 6 * (f : Int) + t then shP ρ q j else ρ' j
theorem r_lay_in (S : OKS sh AD) (M : MR R AD) {f : Nat} (hfm : f + m ≤ 12) (hm6 : m ≤ 6) (ho : ∀ k, k < m → o.getD k 0 < m) {k : Nat} (hk : k < m) (k51 : HI → Nat → Int32 → Int32 → Int32 → Option HI) : ∀ d j n : Nat, n + d = 6 → d < j → ∀ I : HI, RW I AD (lyK ρ ρ' (qB f m o) f (6 * k + n)) → ASD I AD ρ → OLR I AD m o →
    ∃ I', fX11_layOrder_l10 fu sh R k51 j I (AD 316) (iz (f : Int)) (iz (m : Int)) (iz (k : Int)) (iz (n : Int)) = k51 I' (AD 316) (iz (f : Int)) (iz (m : Int)) (iz (k : Int)) ∧ RW I' AD (lyK ρ ρ' (qB f m o) f (6 * (k + 1))) ∧ FR AD I I' (fun i _ => i = 317) := by
  have hok := ho k hk
  intro d
  induction d with
  | zero =>
    intro j n hn hj I H A O
    obtain ⟨j, rfl⟩ : ∃ t, j = t + 1 := ⟨j - 1, by omega⟩
    have e : 6 * k + n = 6 * (k + 1) := by omega
    rw [e] at H
    refine ⟨I, ?_, H, FR.rf _ _ _⟩
    show fX11_layOrder_b10 fu sh R (fX11_layOrder_l10 fu sh R k51 j) k51 I _ _ _ _ _ = _
    simp only [fX11_layOrder_b10, iz_lit]
    rw [if_pos (by rw [iz_le (by decide) (by decide) (by omega) (by omega)]; omega)]
  | succ d ih =>
    intro j n hn hj I H A O
    obtain ⟨j, rfl⟩ : ∃ t, j = t + 1 := ⟨j - 1, by omega⟩
    have ek : iz (n : Int) + iz 1 = iz ((n + 1 : Nat) : Int) := by rw [iz_add]; rfl
    have ix : 6 * ((f : Int) + (o.getD k 0 : Int)) + (n : Int) = ((6 * (f + o.getD k 0) + n : Nat) : Int) := by omega
    have vA : I (AD 323) (6 * (f + o.getD k 0) + n) = iz (ρ (47 + ((6 * (f + o.getD k 0) + n : Nat) : Int))) := A _ (by omega)
    have vq : shP ρ (qB f m o) (47 + 6 * ((f : Int) + k) + n) = ρ (47 + ((6 * (f + o.getD k 0) + n : Nat) : Int)) := by
      unfold shP
      have e1 : (47 + 6 * ((f : Int) + k) + (n : Int) - 47) / 6 = (f : Int) + k := by omega
      have e2 : (47 + 6 * ((f : Int) + k) + (n : Int) - 47) % 6 = n := by omega
      rw [if_pos (by omega), e1, e2, qB_in hk]
      congr 1
      omega
    have H1 := RW.w1 S H (j := 47 + 6 * ((f : Int) + k) + n) (by omega) (shP ρ (qB f m o) (47 + 6 * ((f : Int) + k) + n))
    have F : FR AD I (u2 I (AD 317) (47 + 6 * ((f : Int) + k) + (n : Int)).toNat (iz (shP ρ (qB f m o) (47 + 6 * ((f : Int) + k) + n)))) (fun i _ => i = 317) := FR.u2 S (by decide) (by decide) rfl (FR.rf AD I _)
    obtain ⟨I', e, g1, g2⟩ := ih j (n + 1) (by omega) (by omega) _ (H1.cg (fun i i0 i1 => by
      unfold up1 lyK
      by_cases z : i = 47 + 6 * ((f : Int) + k) + n
      · rw [if_pos (by omega), if_pos z, z]
      · rw [if_neg z]
        by_cases w : 47 + 6 * (f : Int) ≤ i ∧ i < 47 + 6 * (f : Int) + ((6 * k + n : Nat) : Int)
        · rw [if_pos w, if_pos (by omega)]
        · rw [if_neg w, if_neg (by omega)])) (A.fr F (by decide) (by decide) (fun _ => by decide)) (AR.fr O F (by decide) (by decide) (fun _ => by decide))
    refine ⟨I', ?_, g1, F.tr g2⟩
    rw [← e]
    show fX11_layOrder_b10 fu sh R (fX11_layOrder_l10 fu sh R k51 j) k51 I _ _ _ _ _ = _
    simp only [fX11_layOrder_b10, iz_lit, oR_at S.md M.1.2.2.2.2.1, oR_at S.md M.1.2.2.2.2.2.2, bsome, oA_nat (k321 S) (show k < 6 by omega) (by decide), O k hk, iz_add (f : Int), iz_mul, iz_add (6 * ((f : Int) + (o.getD k 0 : Int))), ix, oA_nat (S.at (i := 323) (t := 20) (n := 72) rfl (by decide) (by decide)) (show 6 * (f + o.getD k 0) + n < 72 by omega) (by decide), vA, ek]
    rw [if_neg (by rw [iz_le (by decide) (by decide) (by omega) (by omega)]; omega), r_set S M (show 0 ≤ (f : Int) + k by omega) (by omega) (by omega) (by omega), bsome, ← vq]
theorem r_lay_out (S : OKS sh AD) (M : MR R AD) (hfu : 5000 ≤ fu) {f : Nat} (hfm : f + m ≤ 12) (hm6 : m ≤ 6) (ho : ∀ k, k < m → o.getD k 0 < m) : ∀ d j k : Nat, k + d = m → d < j → ∀ I : HI, RW I AD (lyK ρ ρ' (qB f m o) f (6 * k)) → ASD I AD ρ → OLR I AD m o →
    ∃ I', fX11_layOrder_l2 fu sh R j I (AD 316) (iz (f : Int)) (iz (m : Int)) (iz (k : Int)) = some I' ∧ RW I' AD (lyK ρ ρ' (qB f m o) f (6 * m)) ∧ FR AD I I' (fun i _ => i = 317) := by
  intro d
  induction d with
  | zero =>
    intro j k hk hj I H A O
    obtain ⟨j, rfl⟩ : ∃ t, j = t + 1 := ⟨j - 1, by omega⟩
    have e : k = m := by omega
    rw [e] at H
    refine ⟨I, ?_, H, FR.rf _ _ _⟩
    show fX11_layOrder_b2 fu sh R (fX11_layOrder_l2 fu sh R j) I _ _ _ _ = _
    simp only [fX11_layOrder_b2]
    rw [if_pos (by rw [iz_le (by omega) (by omega) (by omega) (by omega)]; omega)]
  | succ d ih =>
    intro j k hk hj I H A O
    obtain ⟨j, rfl⟩ : ∃ t, j = t + 1 := ⟨j - 1, by omega⟩
    have ek : iz (k : Int) + iz 1 = iz ((k + 1 : Nat) : Int) := by rw [iz_add]; rfl
    obtain ⟨J, e1, H1, F1⟩ := r_lay_in (fu := fu) (ρ := ρ) (ρ' := ρ') S M hfm hm6 ho (show k < m by omega) (fX11_layOrder_b51 fu sh R (fX11_layOrder_l2 fu sh R j)) 6 fu 0 (by decide) (by omega) I H A O
    obtain ⟨I', e, g1, g2⟩ := ih j (k + 1) (by omega) (by omega) J H1 (A.fr F1 (by decide) (by decide) (fun _ => by decide)) (AR.fr O F1 (by decide) (by decide) (fun _ => by decide))
    refine ⟨I', ?_, g1, F1.tr g2⟩
    rw [← e]
    show fX11_layOrder_b2 fu sh R (fX11_layOrder_l2 fu sh R j) I _ _ _ _ = _
    simp only [fX11_layOrder_b2, iz_lit]
    rw [if_neg (by rw [iz_le (by omega) (by omega) (by omega) (by omega)]; omega)]
    refine e1.trans ?_
    simp only [fX11_layOrder_b51, iz_lit, ek]
theorem r_lay (S : OKS sh AD) (M : MR R AD) (hfu : 5000 ≤ fu) {f : Nat} (hfm : f + m ≤ 12) (hm6 : m ≤ 6) (ho : ∀ k, k < m → o.getD k 0 < m) (H : RW I AD ρ') (hb : BLK ρ ρ' f m) (A : ASD I AD ρ) (O : OLR I AD m o) :
    ∃ I', fX11_layOrder fu sh I R (AD 316) (iz (f : Int)) (iz (m : Int)) = some I' ∧ RW I' AD (shP ρ (qB f m o)) ∧ FR AD I I' (fun i _ => i = 317) := by
  obtain ⟨I', e, g1, g2⟩ := r_lay_out (fu := fu) (ρ := ρ) (ρ' := ρ') S M hfu hfm hm6 ho m fu 0 (by omega) (by omega) I (H.cg (fun j _ _ => by
    unfold lyK
    rw [if_neg (by omega)])) A O
  refine ⟨I', ?_, g1.cg (fun j j0 j1 => ?_), g2⟩
  · simp only [fX11_layOrder, if_pos (isT_of S.md), iz_lit]
    exact e
  · unfold lyK
    by_cases z : 47 + 6 * (f : Int) ≤ j ∧ j < 47 + 6 * (f : Int) + ((6 * m : Nat) : Int)
    · rw [if_pos z]
    · rw [if_neg z, hb j j0 j1 (by omega)]
      unfold shP
      by_cases w : 47 ≤ j ∧ j < 119
      · rw [if_pos w, qB_out (by omega)]
        congr 1
        omega
      · rw [if_neg w]
end Q42
