/-! STAGE 2, the reference: the kinds of a shot's faults, their number -/
section R5
variable {fu : Nat} {sh : HS} {I : HI} {R : HR} {AD : Int → Nat} {ρ : RHO} {s t : Int}
theorem r_kb98 (S : OKS sh AD) (M : MR R AD) (H : RW I AD ρ) (V : VB ρ) (h0 : 0 < s) (h1 : s < ρ 4) (u v : Int32) : fX11_kindsOf_b98 fu sh I R (AD 316) (iz s) u v = some ((v ||| u) ||| iz (4 * b2i (decide (suS ρ s = suS ρ (s - 1)) && nearS ρ s (s - 1) (ρ 0)))) := by
  have vl := V.lim
  obtain ⟨a1, a2, a3, a4, -⟩ := V.shot (s := s) (by omega) h1
  obtain ⟨b1, b2, b3, b4, -⟩ := V.shot (s := s - 1) (by omega) (by omega)
  obtain ⟨-, -, -, g3, -⟩ := r_g (fu := fu) S M H V (s := s) (by omega) h1
  obtain ⟨-, -, -, e3, -⟩ := r_g (fu := fu) S M H V (s := s - 1) (by omega) (by omega)
  simp only [fX11_kindsOf_b98, fX11_kindsOf_b139, fX11_kindsOf_b140, iz_lit, iz_sub, g3, e3, bsome, oR_at S.md M.1.1, r_row S M H (by decide : (0 : Int) ≤ 0) (by decide : (0 : Int) < 119), r_near S M H V (show 0 ≤ s by omega) h1 (show 0 ≤ s - 1 by omega) (show s - 1 < ρ 4 by omega) vl.1.1 vl.1.2, bz_zero]
  simp (disch := omega) only [iz_eq]
  by_cases k : suS ρ s = suS ρ (s - 1)
  · rw [if_pos k, decide_eq_true k]
    cases nearS ρ s (s - 1) (ρ 0) <;> rfl
  · rw [if_neg k, decide_eq_false k]
    rfl
theorem r_kb65 (S : OKS sh AD) (M : MR R AD) (H : RW I AD ρ) (V : VB ρ) (h0 : 0 < s) (h1 : s < ρ 4) (u v : Int32) : fX11_kindsOf_b65 fu sh I R (AD 316) (iz s) u v = some (((v ||| u) ||| iz (2 * b2i (crosdS ρ s && decide (lookS ρ s * lookS ρ (s - 1) = 1)))) ||| iz (4 * b2i (decide (suS ρ s = suS ρ (s - 1)) && nearS ρ s (s - 1) (ρ 0)))) := by
  have lr1 := look_range ρ s
  have lr2 := look_range ρ (s - 1)
  have p2 := mul_le (A := 1) (B := 1) lr1.1 lr1.2 lr2.1 lr2.2
  simp only [fX11_kindsOf_b65, fX11_kindsOf_b97, iz_lit, iz_sub, bsome, r_crossed S M H V h0 h1, bz_zero, r_look S M H V (show 0 ≤ s by omega) h1, r_look S M H V (show 0 ≤ s - 1 by omega) (show s - 1 < ρ 4 by omega), iz_mul, r_kb98 S M H V h0 h1]
  simp (disch := omega) only [iz_eq]
  cases crosdS ρ s
  · rfl
  · by_cases k : lookS ρ s * lookS ρ (s - 1) = 1
    · rw [if_neg (by decide), if_pos k, decide_eq_true k]; rfl
    · rw [if_neg (by decide), if_neg k, decide_eq_false k]; rfl
theorem r_kb43 (S : OKS sh AD) (M : MR R AD) (H : RW I AD ρ) (V : VB ρ) (h0 : 0 < s) (h1 : s < ρ 4) (v : Int32) : fX11_kindsOf_b43 fu sh I R (AD 316) (iz s) v = some (((v ||| iz (b2i (decide (sideS ρ s * sideS ρ (s - 1) = -1)))) ||| iz (2 * b2i (crosdS ρ s && decide (lookS ρ s * lookS ρ (s - 1) = 1)))) ||| iz (4 * b2i (decide (suS ρ s = suS ρ (s - 1)) && nearS ρ s (s - 1) (ρ 0)))) := by
  have sr1 := side_range ρ s
  have sr2 := side_range ρ (s - 1)
  have p1 := mul_le (A := 1) (B := 1) sr1.1 sr1.2 sr2.1 sr2.2
  simp only [fX11_kindsOf_b43, fX11_kindsOf_b64, iz_lit, iz_neg, iz_sub, bsome, r_side S M H V (show 0 ≤ s by omega) h1, r_side S M H V (show 0 ≤ s - 1 by omega) (show s - 1 < ρ 4 by omega), iz_mul, r_kb65 S M H V h0 h1]
  simp (disch := omega) only [iz_eq]
  by_cases k : sideS ρ s * sideS ρ (s - 1) = -1
  · rw [if_pos k, decide_eq_true k]; rfl
  · rw [if_neg k, decide_eq_false k]; rfl
theorem r_kinds (S : OKS sh AD) (M : MR R AD) (H : RW I AD ρ) (V : VB ρ) (hfu : 5000 ≤ fu) (h0 : 0 ≤ s) (h1 : s < ρ 4) : fX11_kindsOf fu sh I R (AD 316) (iz s) = some (iz (kindS ρ s)) := by
  have br := block_range ρ s
  have hq : ∀ x : Int32, (x = iz 8 ∧ k3S ρ s = true ∨ x = iz 0 ∧ k3S ρ s = false) → fX11_kindsOf_b15 fu sh I R (AD 316) (iz s) x = some (iz (kindS ρ s)) := by
    intro x hx
    simp only [fX11_kindsOf_b15, r_before S M H V h0 h1, bsome, iz_lit, bz_zero]
    by_cases hB : befS ρ s = false
    · rw [if_pos hB]
      unfold kindS k0S k1S k2S
      rw [hB]
      rcases hx with ⟨rfl, k⟩ | ⟨rfl, k⟩ <;> rw [k] <;> rfl
    · have hB' : befS ρ s = true := by simpa using hB
      have hs : 0 < s := by
        have z := hB'
        unfold befS at z
        simp only [Bool.and_eq_true, decide_eq_true_eq] at z
        exact z.1
      rw [if_neg hB]
      simp only [r_crossed S M H V hs h1, r_same S M H V hs h1, bsome, bz_zero, fX11_kindsOf_b64, iz_lit, r_kb43 S M H V hs h1, r_kb65 S M H V hs h1]
      unfold kindS k0S k1S k2S
      rw [hB']
      generalize decide (sideS ρ s * sideS ρ (s - 1) = -1) = u1
      generalize decide (lookS ρ s * lookS ρ (s - 1) = 1) = u2
      generalize decide (suS ρ s = suS ρ (s - 1)) = u3
      generalize nearS ρ s (s - 1) (ρ 0) = u4
      generalize crosdS ρ s = u5
      generalize sameS ρ s = u6
      rcases hx with ⟨rfl, k⟩ | ⟨rfl, k⟩ <;> rw [k] <;> cases u1 <;> cases u2 <;> cases u3 <;> cases u4 <;> cases u5 <;> cases u6 <;> rfl
  simp only [fX11_kindsOf, if_pos S.i, iz_lit, iz_neg, r_block S M H V hfu h0 h1, bsome]
  simp (disch := omega) only [iz_eq]
  by_cases q : blockS ρ s = -1
  · rw [if_pos q]
    exact hq _ (Or.inr ⟨rfl, by unfold k3S; rw [decide_eq_true q]; rfl⟩)
  · rw [if_neg q]
    exact hq _ (Or.inl ⟨rfl, by unfold k3S; rw [decide_eq_false q]; rfl⟩)
theorem kind_range (ρ : RHO) (s : Int) : 0 ≤ kindS ρ s ∧ kindS ρ s ≤ 15 := by
  unfold kindS b2i
  repeat' split
  all_goals omega
theorem r_sizeN : ∀ (d n k : Nat), k + d = 12 → d < n → ∀ (m : Nat) (x : Int), m < 2147483648 → fX11_sizeOf_l4 fu sh I R n (iz (m : Int)) (iz x) (iz (k : Int)) = some (iz (x + smS (fun j => bt m (k + j.toNat)) d)) := by
  intro d
  induction d with
  | zero =>
    intro n k hk hn m x hm
    obtain ⟨n, rfl⟩ : ∃ j, n = j + 1 := ⟨n - 1, by omega⟩
    have e : k = 12 := by omega
    subst e
    show fX11_sizeOf_b4 fu sh I R (fX11_sizeOf_l4 fu sh I R n) _ _ _ = _
    unfold fX11_sizeOf_b4
    rw [iz_lit, if_pos (by rw [iz_le (by decide) (by decide) (by decide) (by decide)]; decide)]
    show some (iz x) = some (iz (x + 0))
    rw [Int.add_zero]
  | succ d ih =>
    intro n k hk hn m x hm
    obtain ⟨n, rfl⟩ : ∃ j, n = j + 1 := ⟨n - 1, by omega⟩
    have q := ih n (k + 1) (by omega) (by omega) m (x + bt m k) hm
    show fX11_sizeOf_b4 fu sh I R (fX11_sizeOf_l4 fu sh I R n) _ _ _ = _
    simp only [fX11_sizeOf_b4, iz_lit]
    rw [if_neg (by rw [iz_le (by decide) (by decide) (by omega) (by omega)]; omega), iz_bitz hm (by omega), iz_add, iz_add]
    have e1 : (k : Int) + 1 = ((k + 1 : Nat) : Int) := by omega
    rw [e1, q]
    congr 2
    have e2 : ∀ d : Nat, smS (fun j => bt m (k + j.toNat)) (d + 1) = bt m k + smS (fun j => bt m (k + 1 + j.toNat)) d := by
      intro d
      induction d with
      | zero => simp [smS]
      | succ d ih2 =>
        have h3 : smS (fun j => bt m (k + j.toNat)) (d + 1 + 1) = smS (fun j => bt m (k + j.toNat)) (d + 1) + bt m (k + ((d + 1 : Nat) : Int).toNat) := rfl
        have h4 : smS (fun j => bt m (k + 1 + j.toNat)) (d + 1) = smS (fun j => bt m (k + 1 + j.toNat)) d + bt m (k + 1 + (d : Int).toNat) := rfl
        rw [h3, ih2, h4]
        have e5 : k + ((d + 1 : Nat) : Int).toNat = k + 1 + (d : Int).toNat := by omega
        rw [e5]
        omega
    rw [e2 d]
    omega
/-- how many a set below 4096 holds -/
def szS (m : Nat) : Int := smS (fun j => bt m j.toNat) 12
theorem r_sizeOf (hfu : 5000 ≤ fu) {m : Nat} (hm : m < 2147483648) : fX11_sizeOf fu sh I R (iz (m : Int)) = some (iz (szS m)) := by
  have q := r_sizeN (fu := fu) (sh := sh) (I := I) (R := R) 12 fu 0 rfl (by omega) m 0 hm
  simp only [fX11_sizeOf, iz_lit]
  refine q.trans ?_
  congr 2
  have e : (fun j : Int => bt m (0 + j.toNat)) = fun j : Int => bt m j.toNat := by funext j; rw [Nat.zero_add]
  rw [e, Int.zero_add]
  rfl
theorem kcnt_size (ρ : RHO) (s : Int) : szS (kindS ρ s).toNat = kcntS ρ s := by
  unfold kindS kcntS
  cases k0S ρ s <;> cases k1S ρ s <;> cases k2S ρ s <;> cases k3S ρ s <;> decide
theorem smS_range {f : Int → Int} {b : Int} (hb : 0 ≤ b) (h : ∀ j, 0 ≤ j → 0 ≤ f j ∧ f j ≤ b) : ∀ n : Nat, 0 ≤ smS f n ∧ smS f n ≤ b * n
  | 0 => by simp [smS]
  | n + 1 => by
    have h1 := smS_range hb h n
    have h2 := h n (by omega)
    have e : smS f (n + 1) = smS f n + f n := rfl
    rw [e, Int.natCast_add, Int.mul_add]
    simp only [Int.natCast_one, Int.mul_one]
    omega
theorem kcnt_range (ρ : RHO) (s : Int) : 0 ≤ kcntS ρ s ∧ kcntS ρ s ≤ 4 := by
  unfold kcntS b2i
  repeat' split
  all_goals omega
theorem fault_range {ρ : RHO} (V : VB ρ) : 0 ≤ faultS ρ ∧ faultS ρ ≤ 48 := by
  have h := smS_range (f := kcntS ρ) (b := 4) (by decide) (fun j _ => kcnt_range ρ j) (ρ 4).toNat
  have hn := V.n
  unfold faultS
  omega
theorem r_fault_loop (S : OKS sh AD) (M : MR R AD) (H : RW I AD ρ) (V : VB ρ) (hfu : 5000 ≤ fu) : ∀ (d n a : Nat), a + d = (ρ 4).toNat → d < n →
    fX11_faultsNow_l4 fu sh I R n (AD 316) (iz (smS (kcntS ρ) a)) (iz (a : Int)) = some (iz (faultS ρ)) := by
  have hn := V.n
  intro d
  induction d with
  | zero =>
    intro n a ha hn2
    obtain ⟨n, rfl⟩ : ∃ k, n = k + 1 := ⟨n - 1, by omega⟩
    have e : a = (ρ 4).toNat := by omega
    show fX11_faultsNow_b4 fu sh I R (fX11_faultsNow_l4 fu sh I R n) _ _ _ = _
    simp only [fX11_faultsNow_b4, iz_lit, oR_at S.md M.1.1, bsome, r_row S M H (by decide : (0 : Int) ≤ 4) (by decide : (4 : Int) < 119)]
    rw [if_pos (by rw [iz_le (by omega) (by omega) (by omega) (by omega)]; omega), e]
    rfl
  | succ d ih =>
    intro n a ha hn2
    obtain ⟨n, rfl⟩ : ∃ k, n = k + 1 := ⟨n - 1, by omega⟩
    have k := ih n (a + 1) (by omega) (by omega)
    have ea : iz ((a + 1 : Nat) : Int) = iz (a : Int) + iz 1 := by rw [iz_add]; rfl
    have kr := kind_range ρ a
    show fX11_faultsNow_b4 fu sh I R (fX11_faultsNow_l4 fu sh I R n) _ _ _ = _
    simp only [fX11_faultsNow_b4, iz_lit, oR_at S.md M.1.1, bsome, r_row S M H (by decide : (0 : Int) ≤ 4) (by decide : (4 : Int) < 119), r_kinds S M H V hfu (show 0 ≤ (a : Int) by omega) (show (a : Int) < ρ 4 by omega)]
    rw [if_neg (by rw [iz_le (by omega) (by omega) (by omega) (by omega)]; omega), iz_tn (x := kindS ρ a) kr.1, r_sizeOf hfu (by omega), bsome, kcnt_size, ← ea, iz_add]
    exact k
theorem r_faults (S : OKS sh AD) (M : MR R AD) (H : RW I AD ρ) (V : VB ρ) (hfu : 5000 ≤ fu) : fX11_faultsNow fu sh I R (AD 316) = some (iz (faultS ρ)) := by
  have hn := V.n
  have k := r_fault_loop (fu := fu) S M H V hfu (ρ 4).toNat fu 0 (by omega) (by omega)
  simp only [fX11_faultsNow, if_pos S.i, iz_lit]
  exact k
end R5
