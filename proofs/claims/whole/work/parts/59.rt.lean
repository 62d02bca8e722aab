/-! STAGE 2: the class finds the best order of stops -/
/-- a Route of Q stops at most, by its number b -/
def RTS (sh : HS) (R : HR) (AD : Int → Nat) (b : Int) (Q : Nat) : Prop := (sh (AD b) = some (4, 7) ∧ sh (AD (b + 1)) = some (20, Q) ∧ sh (AD (b + 2)) = some (20, Q * Q) ∧ sh (AD (b + 3)) = some (20, 2 ^ Q * Q) ∧ sh (AD (b + 4)) = some (20, Q)) ∧
  (R (AD b) 1 = some (AD (b + 1)) ∧ R (AD b) 2 = some (AD (b + 2)) ∧ R (AD b) 3 = some (AD (b + 3)) ∧ R (AD b) 4 = some (AD (b + 4))) ∧ 0 ≤ b ∧ b + 4 < 331 ∧ Q ≤ 12
/-- its prices -/
def PX (I : HI) (AD : Int → Nat) (b : Int) (Q n : Nat) (pr : Int → Nat → Int) : Prop := I (AD b) 0 = iz (Q : Int) ∧ n ≤ Q ∧ (∀ k, k < n → I (AD (b + 1)) k = iz (pr (-1) k)) ∧ ∀ l k : Nat, l < n → k < n → I (AD (b + 2)) (l * Q + k) = iz (pr (l : Int) k)
/-- what its table of rests tells: of more than c behind, and of c with the latest below l0 -/
def RF (I : HI) (AD : Int → Nat) (b : Int) (Q n : Nat) (pr : Int → Nat → Int) (c l0 : Nat) : Prop := ∀ m l : Nat, m < 2 ^ n → l < n → m.testBit l = true → (c < m ∨ (m = c ∧ l < l0)) → I (AD (b + 3)) (m * Q + l) = iz (RS n pr m l)
theorem ix_lt {Q a l k : Nat} (h : l < a) (hk : k < Q) : l * Q + k < a * Q := by
  have := Nat.mul_le_mul_right Q (show l + 1 ≤ a from h)
  rw [Nat.succ_mul] at this
  omega
theorem ix_inj {Q m m' l l' : Nat} (h : l < Q) (h' : l' < Q) (e : m * Q + l = m' * Q + l') : m = m' ∧ l = l' := by
  have a : m = m' := by
    rcases Nat.lt_trichotomy m m' with z | z | z
    · have := Nat.mul_le_mul_right Q (show m + 1 ≤ m' from z)
      rw [Nat.succ_mul] at this
      omega
    · exact z
    · have := Nat.mul_le_mul_right Q (show m' + 1 ≤ m from z)
      rw [Nat.succ_mul] at this
      omega
  subst a
  omega
theorem ix_iz (l Q k : Nat) : iz (l : Int) * iz (Q : Int) + iz (k : Int) = iz ((l * Q + k : Nat) : Int) := by
  rw [iz_mul, iz_add, Int.natCast_add, Int.natCast_mul]
theorem PX.fr {AD : Int → Nat} {I I' : HI} {W : Int → Nat → Prop} {b : Int} {Q n : Nat} {pr : Int → Nat → Int} (X : PX I AD b Q n pr) (a : FR AD I I' W) (h0 : 0 ≤ b) (h1 : b + 4 < 331) (w0 : ¬ W b 0) (w1 : ∀ k, ¬ W (b + 1) k) (w2 : ∀ k, ¬ W (b + 2) k) : PX I' AD b Q n pr :=
  ⟨(a b (by omega) (by omega) 0 w0).trans X.1, X.2.1, fun k hk => (a (b + 1) (by omega) (by omega) k (w1 k)).trans (X.2.2.1 k hk), fun l k hl hk => (a (b + 2) (by omega) (by omega) _ (w2 _)).trans (X.2.2.2 l k hl hk)⟩
theorem RF.fr {AD : Int → Nat} {I I' : HI} {W : Int → Nat → Prop} {b : Int} {Q n c l0 : Nat} {pr : Int → Nat → Int} (X : RF I AD b Q n pr c l0) (a : FR AD I I' W) (h0 : 0 ≤ b) (h1 : b + 4 < 331) (w : ∀ k, ¬ W (b + 3) k) : RF I' AD b Q n pr c l0 :=
  fun m l h h2 h3 h4 => (a (b + 3) (by omega) (by omega) _ (w _)).trans (X m l h h2 h3 h4)
section C8
variable {fu : Nat} {sh : HS} {I : HI} {R : HR} {AD : Int → Nat} {b : Int} {Q n : Nat} {pr : Int → Nat → Int}
theorem pw2 {n Q : Nat} (h : n ≤ Q) : 2 ^ n ≤ 2 ^ Q := Nat.pow_le_pow_right (by decide) h
theorem QQ_le {Q : Nat} (h : Q ≤ 12) : Q * Q ≤ 144 := Nat.mul_le_mul h h
theorem RQ_le {Q : Nat} (h : Q ≤ 12) : 2 ^ Q * Q ≤ 49152 := by
  have := Nat.mul_le_mul (pw2 h) h
  exact this
theorem c_step_at (K : RTS sh R AD b Q) (X : PX I AD b Q n pr) {l k : Nat} (hl : l < n) (hk : k < n) : oA sh I (AD (b + 2)) (iz (l : Int) * iz (Q : Int) + iz (k : Int)) = some (iz (pr (l : Int) k)) := by
  have q := QQ_le K.2.2.2.2
  have h := X.2.1
  rw [ix_iz, oA_nat K.1.2.2.1 (ix_lt (show l < Q by omega) (show k < Q by omega)) (by omega), X.2.2.2 l k hl hk]
theorem c_rest_at (K : RTS sh R AD b Q) (hn : n ≤ Q) {m k : Nat} (hm : m < 2 ^ n) (hk : k < n) : oA sh I (AD (b + 3)) (iz (m : Int) * iz (Q : Int) + iz (k : Int)) = some (I (AD (b + 3)) (m * Q + k)) := by
  have q := RQ_le K.2.2.2.2
  have p := pw2 hn
  rw [ix_iz, oA_nat K.1.2.2.2.1 (ix_lt (show m < 2 ^ Q by omega) (show k < Q by omega)) (by omega)]
theorem c_price (K : RTS sh R AD b Q) (X : PX I AD b Q n pr) {l : Int} {k : Nat} (h0 : -1 ≤ l) (hl : l < n) (hk : k < n) : fX5_priceOf fu sh I R (AD b) (iz l) (iz (k : Int)) = some (iz (pr l k)) := by
  have h := X.2.1
  have h12 := K.2.2.2.2
  by_cases z : l = -1
  · subst z
    simp only [fX5_priceOf, fX5_priceOf_b27, if_pos (isT_of K.1.1), iz_lit, iz_neg, if_true, oR_at K.1.1 K.2.1.1, bsome, oA_nat K.1.2.1 (show k < Q by omega) (by omega), X.2.2.1 k hk]
  · obtain ⟨j, rfl⟩ : ∃ j : Nat, l = (j : Int) := ⟨l.toNat, by omega⟩
    have n1 : ¬ iz (j : Int) = iz (-1) := by rw [iz_eq (by omega) (by omega) (by decide) (by decide)]; omega
    simp only [fX5_priceOf, fX5_priceOf_b27, if_pos (isT_of K.1.1), iz_lit, iz_neg, if_neg n1, oR_at K.1.1 K.2.1.2.1, oI_at K.1.1, X.1, bsome, c_step_at K X (show j < n by omega) hk]
theorem c_least_loop (K : RTS sh R AD b Q) (X : PX I AD b Q n pr) (P : PB n pr) (hz : I (AD b) 6 = iz (n : Int)) {m l : Nat} (hm : m < 2 ^ n) (hl : l < n) (F : RF I AD b Q n pr m 0) : ∀ d j k : Nat, k + d = n → d < j →
    fX5_leastRest_l6 fu sh I R j (AD b) (iz (m : Int)) (iz (l : Int)) (iz (cl (nxS n pr m (l : Int)) m k).2) (iz (k : Int)) = some (iz (cl (nxS n pr m (l : Int)) m n).2) := by
  have hq := X.2.1
  have h12 := K.2.2.2.2
  have p2 : 2 ^ n ≤ 4096 := pw2 (Q := 12) (by omega)
  intro d
  induction d with
  | zero =>
    intro j k hk hj
    obtain ⟨j, rfl⟩ : ∃ i, j = i + 1 := ⟨j - 1, by omega⟩
    have e : k = n := by omega
    subst e
    show fX5_leastRest_b6 fu sh I R (fX5_leastRest_l6 fu sh I R j) _ _ _ _ _ = _
    simp only [fX5_leastRest_b6, oI_at K.1.1, hz, bsome]
    rw [if_pos (by rw [iz_le (by omega) (by omega) (by omega) (by omega)]; omega)]
  | succ d ih =>
    intro j k hk hj
    obtain ⟨j, rfl⟩ : ∃ i, j = i + 1 := ⟨j - 1, by omega⟩
    have q := ih j (k + 1) (by omega) (by omega)
    have ek : iz (k : Int) + iz 1 = iz ((k + 1 : Nat) : Int) := by rw [iz_add]; rfl
    have hz2 : ¬ iz (n : Int) ≤ iz (k : Int) := by rw [iz_le (by omega) (by omega) (by omega) (by omega)]; omega
    have ol := or_lt hm (show k < n by omega)
    have g := nx_range P (by omega) hm (show -1 ≤ (l : Int) by omega) (by omega) (show k < n by omega)
    have c1 := cl_le (nxS n pr m (l : Int)) m k
    have c0 := cl_nn (g := nxS n pr m (l : Int)) (m := m) k (fun t ht _ => (nx_range P (by omega) hm (show -1 ≤ (l : Int) by omega) (by omega) (show t < n by omega)).1)
    show fX5_leastRest_b6 fu sh I R (fX5_leastRest_l6 fu sh I R j) _ _ _ _ _ = _
    simp only [fX5_leastRest_b6, fX5_leastRest_b70, oI_at K.1.1, hz, bsome, if_neg hz2, iz_lit, iz_shlz (show k < 31 by omega), iz_orN]
    have e : cl (nxS n pr m (l : Int)) m (k + 1) = if m.testBit k = true then cl (nxS n pr m (l : Int)) m k else if nxS n pr m (l : Int) k < (cl (nxS n pr m (l : Int)) m k).2 then (k, nxS n pr m (l : Int) k) else cl (nxS n pr m (l : Int)) m k := rfl
    rw [e] at q
    cases hb : m.testBit k
    · have og := or_gt hb
      have n1 : ¬ iz ((m ||| 2 ^ k : Nat) : Int) = iz (m : Int) := by rw [iz_eq (by omega) (by omega) (by omega) (by omega)]; omega
      have fr := F (m ||| 2 ^ k) k ol (by omega) (by rw [or_bit, decide_eq_true rfl, Bool.or_true]) (Or.inl og)
      rw [hb, if_neg (show ¬ false = true by decide)] at q
      rw [if_neg n1]
      simp only [oR_at K.1.1 K.2.1.2.1, oR_at K.1.1 K.2.1.2.2.1, X.1, bsome, c_step_at K X hl (show k < n by omega), c_rest_at K hq ol (show k < n by omega), fr, iz_add]
      rw [show pr (l : Int) k + RS n pr (m ||| 2 ^ k) k = nxS n pr m (l : Int) k from rfl]
      by_cases z : nxS n pr m (l : Int) k < (cl (nxS n pr m (l : Int)) m k).2
      · rw [if_neg (by rw [iz_le (by omega) (by omega) (by omega) (by omega)]; omega)]
        rw [if_pos z] at q
        exact q
      · rw [if_pos (by rw [iz_le (by omega) (by omega) (by omega) (by omega)]; omega)]
        rw [if_neg z] at q
        exact q
    · rw [hb, if_pos rfl] at q
      rw [or_eq hb, if_pos rfl, ek]
      exact q
theorem c_least (K : RTS sh R AD b Q) (X : PX I AD b Q n pr) (P : PB n pr) (hz : I (AD b) 6 = iz (n : Int)) (hfu : 5000 ≤ fu) {m l : Nat} (hm : m < 2 ^ n) (hl : l < n) (F : RF I AD b Q n pr m 0) : fX5_leastRest fu sh I R (AD b) (iz (m : Int)) (iz (l : Int)) = some (iz (cl (nxS n pr m (l : Int)) m n).2) := by
  have hq := X.2.1
  have h12 := K.2.2.2.2
  have q := c_least_loop (fu := fu) K X P hz hm hl F n fu 0 (by omega) (by omega)
  simp only [fX5_leastRest, if_pos (isT_of K.1.1), iz_lit]
  exact q
theorem c_latest (S : OKS sh AD) (K : RTS sh R AD b Q) (P : PB n pr) (hfu : 5000 ≤ fu) {m : Nat} (hm : m < 2 ^ n) (k84 : HI → Nat → Int32 → Int32 → Option HI) : ∀ d j l : Nat, l + d = n → d < j → ∀ I : HI, PX I AD b Q n pr → I (AD b) 6 = iz (n : Int) → RF I AD b Q n pr m l →
    ∃ I', fX5_find_l30 fu sh R k84 j I (AD b) (iz ((2 ^ n - 1 : Nat) : Int)) (iz (m : Int)) (iz (l : Int)) = k84 I' (AD b) (iz ((2 ^ n - 1 : Nat) : Int)) (iz (m : Int)) ∧ RF I' AD b Q n pr m n ∧ FR AD I I' (fun i _ => i = b + 3) := by
  have h12 := K.2.2.2.2
  have b0 := K.2.2.1
  have b1 := K.2.2.2.1
  intro d
  induction d with
  | zero =>
    intro j l hl hj I X hz F
    obtain ⟨j, rfl⟩ : ∃ i, j = i + 1 := ⟨j - 1, by omega⟩
    have e : l = n := by omega
    subst e
    have hq := X.2.1
    refine ⟨I, ?_, F, FR.rf _ _ _⟩
    show fX5_find_b30 fu sh R (fX5_find_l30 fu sh R k84 j) k84 _ _ _ _ _ = _
    simp only [fX5_find_b30, oI_at K.1.1, hz, bsome]
    rw [if_pos (by rw [iz_le (by omega) (by omega) (by omega) (by omega)]; omega)]
  | succ d ih =>
    intro j l hl hj I X hz F
    obtain ⟨j, rfl⟩ : ∃ i, j = i + 1 := ⟨j - 1, by omega⟩
    have hq := X.2.1
    have p2 : 2 ^ n ≤ 4096 := pw2 (Q := 12) (by omega)
    have ek : iz (l : Int) + iz 1 = iz ((l + 1 : Nat) : Int) := by rw [iz_add]; rfl
    have hz2 : ¬ iz (n : Int) ≤ iz (l : Int) := by rw [iz_le (by omega) (by omega) (by omega) (by omega)]; omega
    cases hb : m.testBit l
    · have F2 : RF I AD b Q n pr m (l + 1) := fun m' l' g1 g2 g3 g4 => F m' l' g1 g2 g3 (by
        rcases g4 with g4 | ⟨g4, g5⟩
        · exact Or.inl g4
        · refine Or.inr ⟨g4, ?_⟩
          have : ¬ l' = l := fun z => by rw [g4, z, hb] at g3; exact absurd g3 (by decide)
          omega)
      obtain ⟨I', e, F', fr⟩ := ih j (l + 1) (by omega) (by omega) I X hz F2
      refine ⟨I', ?_, F', fr⟩
      rw [← e]
      show fX5_find_b30 fu sh R (fX5_find_l30 fu sh R k84 j) k84 _ _ _ _ _ = _
      simp only [fX5_find_b30, fX5_find_b78, oI_at K.1.1, hz, bsome, if_neg hz2, iz_lit, c_holds (show m < 2147483648 by omega) (show l < 32 by omega), hb, bz_zero, if_true, ek]
    · obtain ⟨J, hJ⟩ : ∃ J, J = _root_.Jvm.Pilot.@@N@@.u2 I (AD (b + 3)) (m * Q + l) (iz (RS n pr m l)) := ⟨_, rfl⟩
      have frJ : FR AD I J (fun i _ => i = b + 3) := by
        rw [hJ]
        exact FR.u2 S (by omega) (by omega) rfl (FR.rf AD I _)
      have XJ := X.fr frJ (by omega) (by omega) (by omega) (fun _ => by omega) (fun _ => by omega)
      have zJ : J (AD b) 6 = iz (n : Int) := (frJ b (by omega) (by omega) 6 (by omega)).trans hz
      have FJ : RF J AD b Q n pr m (l + 1) := by
        intro m' l' g1 g2 g3 g4
        rw [hJ, u2_ad S (by omega) (by omega) (by omega) (by omega)]
        by_cases z : m' * Q + l' = m * Q + l
        · obtain ⟨z1, z2⟩ := ix_inj (show l' < Q by omega) (show l < Q by omega) z
          rw [if_pos ⟨rfl, z⟩, z1, z2]
        · rw [if_neg (fun w => z w.2)]
          refine F m' l' g1 g2 g3 ?_
          rcases g4 with g4 | ⟨g4, g5⟩
          · exact Or.inl g4
          · refine Or.inr ⟨g4, ?_⟩
            have : ¬ l' = l := fun w => z (by rw [g4, w])
            omega
      obtain ⟨I', e, F', fr⟩ := ih j (l + 1) (by omega) (by omega) J XJ zJ FJ
      refine ⟨I', ?_, F', frJ.tr fr⟩
      rw [← e]
      have q := RQ_le h12
      have p := pw2 hq
      have pl := Nat.pow_pos (a := 2) (n := n) (by decide)
      have F0 : RF I AD b Q n pr m 0 := fun m' l' g1 g2 g3 g4 => F m' l' g1 g2 g3 (by rcases g4 with g4 | g4 <;> omega)
      have st := RS_st pr l hm
      show fX5_find_b30 fu sh R (fX5_find_l30 fu sh R k84 j) k84 _ _ _ _ _ = _
      simp only [fX5_find_b30, fX5_find_b77, fX5_find_b78, oI_at K.1.1, hz, X.1, bsome, if_neg hz2, iz_lit, c_holds (show m < 2147483648 by omega) (show l < 32 by omega), hb, bz_zero, oR_at K.1.1 K.2.1.2.2.1, ix_iz, c_least K X P hz hfu hm (show l < n by omega) F0, oS_nat K.1.2.2.2.1 (ix_lt (show m < 2 ^ Q by omega) (show l < Q by omega)) (by omega), ek]
      rw [if_neg (show ¬ true = false by decide), hJ]
      by_cases z : m = 2 ^ n - 1
      · rw [if_pos z] at st
        rw [if_pos (by rw [z]), st]
      · rw [if_neg z] at st
        rw [if_neg (by rw [iz_eq (by omega) (by omega) (by omega) (by omega)]; omega), st]
end C8
