/-! STAGE 2, the class: faults -/
theorem ab_comm (x y : Int) : ab (x - y) = ab (y - x) := by
  unfold ab
  repeat' split
  all_goals omega
theorem turn_comm (p q : Int) : turnS p q = turnS q p := by unfold turnS; rw [ab_comm]
theorem near_comm (ρ : RHO) (s t r : Int) : nearS ρ s t r = nearS ρ t s r := by
  unfold nearS
  rw [ab_comm (cxS ρ s), ab_comm (cyS ρ s), turn_comm]
  congr 1
  exact decide_eq_decide.mpr eq_comm
def bcS (x : Int32) : Int32 := (fJ6_bitCount_0f7a4 0 (fun _ => none) (fun _ _ => 0) (fun _ _ => none) x).getD 0
theorem bc_B : ((List.range 64).all fun m => decide (bcS (iz (m : Int)) = iz (szS m))) = true := by decide +kernel
theorem c_bc {fu : Nat} {sh : HS} {I : HI} {R : HR} {m : Nat} (h : m < 64) : fJ6_bitCount_0f7a4 fu sh I R (iz (m : Int)) = some (iz (szS m)) := by
  have e := of_decide_eq_true (List.all_eq_true.mp bc_B m (List.mem_range.mpr h))
  rw [← e]
  rfl
section C3
variable {fu : Nat} {sh : HS} {I : HI} {R : HR} {B SA HA : Nat} {ca xa ya sa : Int → Nat} {ρ : RHO} {s t : Int}
theorem c_facing (D : BDV sh I R B SA HA ca xa ya sa ρ) (V : VB ρ) (h0 : 0 ≤ s) (h1 : s < ρ 4) (t0 : 0 ≤ t) (t1 : t < ρ 4) : fX2_areFacing fu sh I R (sa s) (sa t) = some (bz (decide (suS ρ s = paS ρ t) && decide (paS ρ s = suS ρ t))) := by
  obtain ⟨a1, a2, a3, a4, a5, a6, a7, a8⟩ := V.shot h0 h1
  obtain ⟨b1, b2, b3, b4, b5, b6, b7, b8⟩ := V.shot t0 t1
  obtain ⟨-, f0, f1, f2, f3, f4, -⟩ := D.2.2.2 s h0 h1
  obtain ⟨-, e0, e1, e2, e3, e4, -⟩ := D.2.2.2 t t0 t1
  simp only [fX2_areFacing, fX2_areFacing_b26, fX2_areFacing_b27, f3, f4, e3, e4, bsome, iz_lit]
  simp (disch := omega) only [iz_eq]
  by_cases k1 : suS ρ s = paS ρ t
  · by_cases k2 : paS ρ s = suS ρ t
    · rw [if_pos k1, if_pos k2, decide_eq_true k1, decide_eq_true k2]; rfl
    · rw [if_pos k1, if_neg k2, decide_eq_true k1, decide_eq_false k2]; rfl
  · rw [if_neg k1, decide_eq_false k1]; rfl
theorem c_pair27 (D : BDV sh I R B SA HA ca xa ya sa ρ) (V : VB ρ) (h0 : 0 ≤ s) (h1 : s < ρ 4) (t0 : 0 ≤ t) (t1 : t < ρ 4) (b : Bool) : fX2_areSamePair_b27 fu sh I R (sa s) (sa t) (bz b) = some (bz (!decide (paS ρ s = -1) && (b || (decide (suS ρ s = paS ρ t) && decide (paS ρ s = suS ρ t))))) := by
  obtain ⟨a1, a2, a3, a4, a5, a6, a7, a8⟩ := V.shot h0 h1
  obtain ⟨-, f0, f1, f2, f3, f4, -⟩ := D.2.2.2 s h0 h1
  simp only [fX2_areSamePair_b27, fX2_areSamePair_b48, fX2_areSamePair_b52, fX2_areSamePair_b53, f4, bsome, iz_lit, iz_neg, c_facing D V h0 h1 t0 t1, bz_zero]
  simp (disch := omega) only [iz_eq]
  by_cases k1 : paS ρ s = -1
  · rw [if_pos k1, decide_eq_true k1]; rfl
  · rw [if_neg k1, decide_eq_false k1]
    cases b
    · rw [if_pos rfl]
      cases (decide (suS ρ s = paS ρ t) && decide (paS ρ s = suS ρ t)) <;> rfl
    · rfl
theorem c_pair (D : BDV sh I R B SA HA ca xa ya sa ρ) (V : VB ρ) (h0 : 0 ≤ s) (h1 : s < ρ 4) (t0 : 0 ≤ t) (t1 : t < ρ 4) : fX2_areSamePair fu sh I R (sa s) (sa t) = some (bz (!decide (paS ρ s = -1) && ((decide (suS ρ s = suS ρ t) && decide (paS ρ s = paS ρ t)) || (decide (suS ρ s = paS ρ t) && decide (paS ρ s = suS ρ t))))) := by
  obtain ⟨a1, a2, a3, a4, a5, a6, a7, a8⟩ := V.shot h0 h1
  obtain ⟨b1, b2, b3, b4, b5, b6, b7, b8⟩ := V.shot t0 t1
  obtain ⟨-, f0, f1, f2, f3, f4, -⟩ := D.2.2.2 s h0 h1
  obtain ⟨-, e0, e1, e2, e3, e4, -⟩ := D.2.2.2 t t0 t1
  have z0 : iz 0 = bz false := rfl
  have z1 : iz 1 = bz true := rfl
  simp only [fX2_areSamePair, fX2_areSamePair_b26, f3, f4, e3, e4, bsome, iz_lit]
  simp (disch := omega) only [iz_eq]
  rw [z0, z1, c_pair27 D V h0 h1 t0 t1, c_pair27 D V h0 h1 t0 t1]
  by_cases k1 : suS ρ s = suS ρ t
  · by_cases k2 : paS ρ s = paS ρ t
    · rw [if_pos k1, if_pos k2, decide_eq_true k1, decide_eq_true k2]; rfl
    · rw [if_pos k1, if_neg k2, decide_eq_true k1, decide_eq_false k2]; rfl
  · rw [if_neg k1, decide_eq_false k1]; rfl
theorem facing_crossed (V : VB ρ) (h0 : 0 < s) (h1 : s < ρ 4) : (decide (suS ρ (s - 1) = paS ρ s) && decide (paS ρ (s - 1) = suS ρ s)) = crosdS ρ s := by
  obtain ⟨a1, a2, a3, a4, a5, a6, a7, a8⟩ := V.shot (s := s) (by omega) h1
  obtain ⟨b1, b2, b3, b4, b5, b6, b7, b8⟩ := V.shot (s := s - 1) (by omega) (by omega)
  unfold crosdS
  rw [Bool.eq_iff_iff]
  simp only [Bool.and_eq_true, decide_eq_true_eq, Bool.not_eq_true', decide_eq_false_iff_not]
  constructor
  · rintro ⟨k1, k2⟩
    exact ⟨by omega, by omega, by omega, by omega⟩
  · rintro ⟨k1, k2, k3, k4⟩
    exact ⟨by omega, by omega⟩
theorem pair_eq (V : VB ρ) (h0 : 0 < s) (h1 : s < ρ 4) : (!decide (paS ρ (s - 1) = -1) && ((decide (suS ρ (s - 1) = suS ρ s) && decide (paS ρ (s - 1) = paS ρ s)) || (decide (suS ρ (s - 1) = paS ρ s) && decide (paS ρ (s - 1) = suS ρ s)))) = (crosdS ρ s || sameS ρ s) := by
  obtain ⟨a1, a2, a3, a4, a5, a6, a7, a8⟩ := V.shot (s := s) (by omega) h1
  obtain ⟨b1, b2, b3, b4, b5, b6, b7, b8⟩ := V.shot (s := s - 1) (by omega) (by omega)
  unfold crosdS sameS
  rw [Bool.eq_iff_iff]
  simp only [Bool.and_eq_true, Bool.or_eq_true, decide_eq_true_eq, Bool.not_eq_true', decide_eq_false_iff_not]
  constructor
  · rintro ⟨k0, ⟨k1, k2⟩ | ⟨k1, k2⟩⟩
    · exact Or.inr ⟨by omega, by omega, by omega⟩
    · exact Or.inl ⟨by omega, by omega, by omega, by omega⟩
  · rintro (⟨k1, k2, k3, k4⟩ | ⟨k1, k2, k3⟩)
    · exact ⟨by omega, Or.inr ⟨by omega, by omega⟩⟩
    · exact ⟨by omega, Or.inl ⟨by omega, by omega⟩⟩
theorem c_kb67 (D : BDV sh I R B SA HA ca xa ya sa ρ) (V : VB ρ) (h0 : 0 < s) (h1 : s < ρ 4) (x : Int32) : fX2_kindsBetween_b67 fu sh I R B (sa (s - 1)) (sa s) x = some (if (decide (suS ρ s = suS ρ (s - 1)) && nearS ρ s (s - 1) (ρ 0)) = true then x ||| iz 4 else x) := by
  have vl := V.lim
  obtain ⟨a1, a2, a3, a4, -⟩ := V.shot (s := s) (by omega) h1
  obtain ⟨b1, b2, b3, b4, -⟩ := V.shot (s := s - 1) (by omega) (by omega)
  obtain ⟨-, f0, f1, f2, f3, f4, -⟩ := D.2.2.2 s (by omega) h1
  obtain ⟨-, e0, e1, e2, e3, e4, -⟩ := D.2.2.2 (s - 1) (by omega) (by omega)
  simp only [fX2_kindsBetween_b67, fX2_kindsBetween_b95, f3, e3, bsome, iz_lit, D.2.1.1, c_near D V (show 0 ≤ s - 1 by omega) (show s - 1 < ρ 4 by omega) (show 0 ≤ s by omega) h1 vl.1.1 vl.1.2, bz_zero]
  simp (disch := omega) only [iz_eq]
  rw [near_comm ρ (s - 1) s]
  by_cases k : suS ρ s = suS ρ (s - 1)
  · rw [if_pos (by omega), decide_eq_true k]
    cases nearS ρ s (s - 1) (ρ 0) <;> rfl
  · rw [if_neg (by omega), decide_eq_false k]
    rfl
theorem c_kb41 (D : BDV sh I R B SA HA ca xa ya sa ρ) (V : VB ρ) (h0 : 0 < s) (h1 : s < ρ 4) (x : Int32) : fX2_kindsBetween_b41 fu sh I R B (sa (s - 1)) (sa s) x = some (if (decide (suS ρ s = suS ρ (s - 1)) && nearS ρ s (s - 1) (ρ 0)) = true then (if (crosdS ρ s && decide (lookS ρ s * lookS ρ (s - 1) = 1)) = true then x ||| iz 2 else x) ||| iz 4 else (if (crosdS ρ s && decide (lookS ρ s * lookS ρ (s - 1) = 1)) = true then x ||| iz 2 else x)) := by
  have lr1 := look_range ρ s
  have lr2 := look_range ρ (s - 1)
  have p2 := mul_le (A := 1) (B := 1) lr1.1 lr1.2 lr2.1 lr2.2
  simp only [fX2_kindsBetween_b41, bsome, iz_lit, c_facing D V (show 0 ≤ s - 1 by omega) (show s - 1 < ρ 4 by omega) (show 0 ≤ s by omega) h1, facing_crossed V h0 h1, bz_zero, c_look D V (show 0 ≤ s by omega) h1, c_look D V (show 0 ≤ s - 1 by omega) (show s - 1 < ρ 4 by omega), iz_mul, c_kb67 D V h0 h1]
  rw [Int.mul_comm (lookS ρ (s - 1))]
  simp (disch := omega) only [iz_le]
  cases crosdS ρ s
  · rfl
  · by_cases k : lookS ρ s * lookS ρ (s - 1) = 1
    · rw [if_neg (by decide), if_neg (by omega), decide_eq_true k]; rfl
    · rw [if_neg (by decide), if_pos (by omega), decide_eq_false k]; rfl
theorem c_between (D : BDV sh I R B SA HA ca xa ya sa ρ) (V : VB ρ) (h0 : 0 < s) (h1 : s < ρ 4) : fX2_kindsBetween fu sh I R B (sa (s - 1)) (sa s) = some (iz (b2i (k0S ρ s) + 2 * b2i (k1S ρ s) + 4 * b2i (k2S ρ s))) := by
  obtain ⟨a1, a2, a3, a4, -⟩ := V.shot (s := s) (by omega) h1
  obtain ⟨b1, b2, b3, b4, -⟩ := V.shot (s := s - 1) (by omega) (by omega)
  have hm := V.m
  obtain ⟨-, f0, f1, f2, f3, f4, -⟩ := D.2.2.2 s (by omega) h1
  obtain ⟨-, e0, e1, e2, e3, e4, -⟩ := D.2.2.2 (s - 1) (by omega) (by omega)
  have sr1 := side_range ρ s
  have sr2 := side_range ρ (s - 1)
  have p1 := mul_le (A := 1) (B := 1) sr1.1 sr1.2 sr2.1 sr2.2
  simp only [fX2_kindsBetween, f0, e0, bsome, iz_lit, c_pair D V (show 0 ≤ s - 1 by omega) (show s - 1 < ρ 4 by omega) (show 0 ≤ s by omega) h1, pair_eq V h0 h1, bz_zero, c_side D V (show 0 ≤ s by omega) h1, c_side D V (show 0 ≤ s - 1 by omega) (show s - 1 < ρ 4 by omega), iz_mul, c_kb41 D V h0 h1]
  rw [Int.mul_comm (sideS ρ (s - 1))]
  simp (disch := omega) only [iz_le, iz_eq]
  by_cases k0 : scS ρ (s - 1) = scS ρ s
  · rw [if_pos k0]
    have hb : befS ρ s = true := by unfold befS; rw [decide_eq_true h0, decide_eq_true k0]; rfl
    unfold k0S k1S k2S
    rw [hb]
    by_cases k : sideS ρ s * sideS ρ (s - 1) = -1
    · rw [if_neg (show ¬ (0 : Int) ≤ sideS ρ s * sideS ρ (s - 1) by omega), decide_eq_true k]
      generalize decide (lookS ρ s * lookS ρ (s - 1) = 1) = u2
      generalize decide (suS ρ s = suS ρ (s - 1)) = u3
      generalize nearS ρ s (s - 1) (ρ 0) = u4
      generalize crosdS ρ s = u5
      generalize sameS ρ s = u6
      cases u2 <;> cases u3 <;> cases u4 <;> cases u5 <;> cases u6 <;> rfl
    · rw [if_pos (show (0 : Int) ≤ sideS ρ s * sideS ρ (s - 1) by omega), decide_eq_false k]
      generalize decide (lookS ρ s * lookS ρ (s - 1) = 1) = u2
      generalize decide (suS ρ s = suS ρ (s - 1)) = u3
      generalize nearS ρ s (s - 1) (ρ 0) = u4
      generalize crosdS ρ s = u5
      generalize sameS ρ s = u6
      cases u2 <;> cases u3 <;> cases u4 <;> cases u5 <;> cases u6 <;> rfl
  · rw [if_neg k0]
    have hb : befS ρ s = false := by unfold befS; rw [decide_eq_false k0, Bool.and_false]
    unfold k0S k1S k2S
    rw [hb]
    rfl
theorem k3_range (ρ : RHO) (s : Int) : 0 ≤ b2i (k0S ρ s) + 2 * b2i (k1S ρ s) + 4 * b2i (k2S ρ s) ∧ b2i (k0S ρ s) + 2 * b2i (k1S ρ s) + 4 * b2i (k2S ρ s) ≤ 7 := by
  unfold b2i
  repeat' split
  all_goals omega
theorem k3_size (ρ : RHO) (s : Int) : szS (b2i (k0S ρ s) + 2 * b2i (k1S ρ s) + 4 * b2i (k2S ρ s)).toNat = b2i (k0S ρ s) + b2i (k1S ρ s) + b2i (k2S ρ s) := by
  cases k0S ρ s <;> cases k1S ρ s <;> cases k2S ρ s <;> decide
theorem bef_0 (ρ : RHO) (h : s ≤ 0) : befS ρ s = false := by
  unfold befS
  rw [decide_eq_false (by omega), Bool.false_and]
theorem c_tot31 (D : BDV sh I R B SA HA ca xa ya sa ρ) (V : VB ρ) (h0 : 0 ≤ s) (h1 : s < ρ 4) (k : Nat → Int32 → Int32 → Option Int32) (x : Int) : fX2_total_b31 fu sh I R k B (iz x) (iz s) (sa s) = k B (iz (x + (b2i (k0S ρ s) + b2i (k1S ρ s) + b2i (k2S ρ s)))) (iz s + iz 1) := by
  have hn := V.n
  simp only [fX2_total_b31, fX2_total_b54, iz_lit, D.1.2.2, bsome, iz_sub]
  by_cases k0 : s ≤ 0
  · rw [if_pos (by rw [iz_le (by omega) (by omega) (by omega) (by omega)]; exact k0)]
    unfold k0S k1S k2S
    rw [bef_0 ρ k0]
    simp [b2i]
  · have kr := k3_range ρ s
    obtain ⟨⟨e, -⟩, -⟩ := D.2.2.2 (s - 1) (by omega) (by omega)
    rw [if_neg (by rw [iz_le (by omega) (by omega) (by omega) (by omega)]; exact k0), e, bsome, c_between D V (by omega) h1, bsome, iz_tn kr.1, c_bc (by omega), bsome, k3_size, iz_add]
theorem c_tot_loop (D : BDV sh I R B SA HA ca xa ya sa ρ) (V : VB ρ) (hfu : 5000 ≤ fu) : ∀ (d n a : Nat), a + d = (ρ 4).toNat → d < n →
    fX2_total_l4 fu sh I R n B (iz (smS (kcntS ρ) a)) (iz (a : Int)) = some (iz (faultS ρ)) := by
  have hn := V.n
  intro d
  induction d with
  | zero =>
    intro n a ha hn2
    obtain ⟨n, rfl⟩ : ∃ k, n = k + 1 := ⟨n - 1, by omega⟩
    have e : a = (ρ 4).toNat := by omega
    show fX2_total_b4 fu sh I R (fX2_total_l4 fu sh I R n) _ _ _ = _
    simp only [fX2_total_b4, iz_lit, D.2.1.2.2.2.2, bsome]
    rw [if_pos (by rw [iz_le (by omega) (by omega) (by omega) (by omega)]; omega), e]
    rfl
  | succ d ih =>
    intro n a ha hn2
    obtain ⟨n, rfl⟩ : ∃ k, n = k + 1 := ⟨n - 1, by omega⟩
    have k := ih n (a + 1) (by omega) (by omega)
    have ea : iz ((a + 1 : Nat) : Int) = iz (a : Int) + iz 1 := by rw [iz_add]; rfl
    obtain ⟨⟨e, -⟩, -⟩ := D.2.2.2 (a : Int) (by omega) (by omega)
    have br := block_range ρ a
    show fX2_total_b4 fu sh I R (fX2_total_l4 fu sh I R n) _ _ _ = _
    simp only [fX2_total_b4, iz_lit, D.2.1.2.2.2.2, D.1.2.2, e, bsome, c_block D V hfu (show 0 ≤ (a : Int) by omega) (show (a : Int) < ρ 4 by omega), iz_neg, iz_add, c_tot31 D V (show 0 ≤ (a : Int) by omega) (show (a : Int) < ρ 4 by omega)]
    rw [if_neg (by rw [iz_le (by omega) (by omega) (by omega) (by omega)]; omega)]
    simp (disch := omega) only [iz_eq]
    have hs : smS (kcntS ρ) (a + 1) = smS (kcntS ρ) a + kcntS ρ a := rfl
    rw [hs] at k
    have e1 : iz (a : Int) + iz 1 = iz ((a + 1 : Nat) : Int) := ea.symm
    rw [iz_add] at e1
    rw [e1]
    by_cases q : blockS ρ a = -1
    · rw [if_pos q, ← k]
      have e2 : kcntS ρ a = b2i (k0S ρ a) + b2i (k1S ρ a) + b2i (k2S ρ a) := by
        unfold kcntS k3S
        rw [decide_eq_true q]
        simp [b2i]
      rw [e2]
    · rw [if_neg q, ← k]
      have e2 : kcntS ρ a = b2i (k0S ρ a) + b2i (k1S ρ a) + b2i (k2S ρ a) + 1 := by
        unfold kcntS k3S
        rw [decide_eq_false q]
        simp [b2i]
      rw [e2]
      congr 1
      congr 1
      omega
theorem c_total (D : BDV sh I R B SA HA ca xa ya sa ρ) (V : VB ρ) (hfu : 5000 ≤ fu) : fX2_total fu sh I R B = some (iz (faultS ρ)) := by
  have hn := V.n
  have k := c_tot_loop (fu := fu) D V hfu (ρ 4).toNat fu 0 (by omega) (by omega)
  simp only [fX2_total, iz_lit]
  exact k
theorem c_kinds (D : BDV sh I R B SA HA ca xa ya sa ρ) (V : VB ρ) (hfu : 5000 ≤ fu) (h0 : 0 ≤ s) (h1 : s < ρ 4) : fX2_kindsOf fu sh I R B (iz s) = some (iz (kindS ρ s)) := by
  have hn := V.n
  have br := block_range ρ s
  obtain ⟨⟨e, -⟩, -⟩ := D.2.2.2 s h0 h1
  have h28 : ∀ y : Int, (y = b2i (k0S ρ s) + 2 * b2i (k1S ρ s) + 4 * b2i (k2S ρ s)) → fX2_kindsOf_b28 fu sh I R B (sa s) (iz y) = some (iz (kindS ρ s)) := by
    intro y hy
    simp only [fX2_kindsOf_b28, fX2_kindsOf_b46, iz_lit, iz_neg, c_block D V hfu h0 h1, bsome]
    simp (disch := omega) only [iz_eq]
    rw [hy]
    unfold kindS
    by_cases q : blockS ρ s = -1
    · rw [if_pos q]
      unfold k3S
      rw [decide_eq_true q]
      cases k0S ρ s <;> cases k1S ρ s <;> cases k2S ρ s <;> rfl
    · rw [if_neg q]
      unfold k3S
      rw [decide_eq_false q]
      cases k0S ρ s <;> cases k1S ρ s <;> cases k2S ρ s <;> rfl
  simp only [fX2_kindsOf, iz_lit, D.1.2.2, e, bsome, iz_sub]
  by_cases k0 : s ≤ 0
  · rw [if_pos (by rw [iz_le (by omega) (by omega) (by omega) (by omega)]; exact k0)]
    refine h28 0 ?_
    unfold k0S k1S k2S
    rw [bef_0 ρ k0]
    rfl
  · obtain ⟨⟨e2, -⟩, -⟩ := D.2.2.2 (s - 1) (by omega) (by omega)
    rw [if_neg (by rw [iz_le (by omega) (by omega) (by omega) (by omega)]; exact k0), e2, bsome, c_between D V (by omega) h1, bsome]
    exact h28 _ rfl
theorem c_cause (D : BDV sh I R B SA HA ca xa ya sa ρ) (V : VB ρ) (hfu : 5000 ≤ fu) (h0 : 0 ≤ s) (h1 : s < ρ 4) {k : Int} (k0 : 0 ≤ k) (k1 : k < 4) : fX2_causeOf fu sh I R B (iz s) (iz k) = some (iz (if k = 3 then blockS ρ s else s - 1)) := by
  obtain ⟨⟨e, -⟩, -⟩ := D.2.2.2 s h0 h1
  simp only [fX2_causeOf, fX2_causeOf_b21, iz_lit, D.1.2.2, e, bsome, c_block D V hfu h0 h1, iz_sub]
  simp (disch := omega) only [iz_eq]
  by_cases q : k = 3
  · rw [if_pos q, if_pos q]
  · rw [if_neg q, if_neg q]
theorem c_eye (D : BDV sh I R B SA HA ca xa ya sa ρ) (V : VB ρ) (h0 : 0 ≤ s) (h1 : s < ρ 4) : fX9_eyelineOf fu sh I R B (sa s) = some (iz (eyeS ρ s)) := by
  obtain ⟨a1, a2, a3, a4, a5, a6, a7, a8⟩ := V.shot h0 h1
  have b := V.sub h0 h1
  obtain ⟨-, f0, f1, f2, f3, f4, -⟩ := D.2.2.2 s h0 h1
  obtain ⟨q1, q2, q3, q4, q5⟩ := D.su V h0 h1
  simp only [fX9_eyelineOf, f4, bsome, iz_lit, iz_neg]
  simp (disch := omega) only [iz_eq]
  unfold eyeS
  by_cases h : paS ρ s = -1
  · rw [if_pos h, if_pos h]
  · have p := V.par h0 h1 h
    obtain ⟨w1, w2⟩ := D.pa V h0 h1 h
    have hi : inS ρ (scS ρ s) (paS ρ s) = true := by
      rcases a6 with z | z
      · exact absurd z h
      · exact z.2.1
    have d1 := dir_range (x := pxS ρ s - sxS ρ s) (y := pyS ρ s - syS ρ s) (by omega) (by omega) (by omega) (by omega)
    have d2 := dir_range (x := cxS ρ s - sxS ρ s) (y := cyS ρ s - syS ρ s) (by omega) (by omega) (by omega) (by omega)
    rw [if_neg h, if_neg h]
    simp only [D.1.2.1, f0, f1, f2, f3, f4, q1, q2, q3, q4, q5, w1, w2, bsome, iz_sub]
    rw [c_isAt D V a1.1 a1.2 p.1.1 p.1.2 hi (by omega) (by omega) (by omega) (by omega), bsome]
    simp only [bz_zero]
    rw [show axS ρ (scS ρ s) (paS ρ s) = pxS ρ s from rfl, show ayS ρ (scS ρ s) (paS ρ s) = pyS ρ s from rfl]
    by_cases g : pxS ρ s - sxS ρ s = 0 ∧ pyS ρ s - syS ρ s = 0
    · rw [if_pos g, decide_eq_true (by omega), decide_eq_true (by omega), if_neg (by decide)]
    · have e : (decide (pxS ρ s = sxS ρ s) && decide (pyS ρ s = syS ρ s)) = false := by
        by_cases j1 : pxS ρ s = sxS ρ s
        · rw [decide_eq_false (p := pyS ρ s = syS ρ s) (fun z => g ⟨by omega, by omega⟩), Bool.and_false]
        · rw [decide_eq_false j1, Bool.false_and]
      rw [if_neg g, e, if_pos rfl, c_dir (by omega) (by omega) (by omega) (by omega), if_neg g, bsome, c_dir (by omega) (by omega) (by omega) (by omega), if_neg (by omega), bsome, c_turn (by omega) d1.2 (by omega) d2.2, bsome]
end C3
