/-! THE LAW, STAGE 2: the text of a board, and what it says when it is read -/
def txL (ρ : RHO) : List Int := cod 8 ++ 32 :: (decS (ρ 0) ++ 32 :: (decS (ρ 1) ++ 32 :: (decS (ρ 2) ++ 59 :: [10])))
def txC (ρ : RHO) (c : Nat) : List Int := cod 16 ++ 32 :: (decS (ltS ρ c) ++ [59])
def txA (ρ : RHO) (c a : Nat) : List Int := if inS ρ c a = true then cod 5 ++ 32 :: (decS a ++ 32 :: (decS (axS ρ c a) ++ 32 :: (decS (ayS ρ c a) ++ [59]))) else []
def pT (w : Int) : List Int := if w < 0 then cod 15 else decS w
def txS (ρ : RHO) (s : Nat) : List Int := cod 18 ++ 32 :: (decS (cxS ρ s) ++ 32 :: (decS (cyS ρ s) ++ 32 :: (decS (suS ρ s) ++ 32 :: (pT (paS ρ s) ++ 32 :: (decS (lnS ρ s) ++ 32 :: 59 :: [10])))))
def acT (ρ : RHO) (c : Nat) : Nat → List Int
  | 0 => []
  | a + 1 => acT ρ c a ++ txA ρ c a
def shT (ρ : RHO) (c : Nat) : Nat → List Int
  | 0 => []
  | s + 1 => shT ρ c s ++ (if scS ρ s = c then txS ρ s else [])
def scT (ρ : RHO) : Nat → List Int
  | 0 => txL ρ
  | c + 1 => scT ρ c ++ (txC ρ c ++ (acT ρ c 6 ++ shT ρ c (ρ 4).toNat))
/-- the part of a board that has been read: m scenes, of the last one the actors below a, k shots -/
def HLF (ρ r : RHO) (m a k : Int) : Prop := (r 0 = ρ 0 ∧ r 1 = ρ 1 ∧ r 2 = ρ 2) ∧ (r 3 = m ∧ r 4 = k) ∧ (∀ d, 0 ≤ d → d < m → ltS r d = ltS ρ d ∧ ∀ b, 0 ≤ b → b < 6 → inS r d b = (inS ρ d b && (decide (d < m - 1) || decide (b < a))) ∧ (inS r d b = true → axS r d b = axS ρ d b ∧ ayS r d b = ayS ρ d b)) ∧ ∀ s, 0 ≤ s → s < k → ∀ j, 0 ≤ j → j < 6 → gS r s j = gS ρ s j
section TX
variable {f : Nat → Int} {n i : Nat} {ρ r : RHO}
theorem HLF.scn {m k : Int} (H : HLF ρ r m 6 k) (h0 : 0 ≤ m) (h3 : m < 3) (hk : 0 ≤ k ∧ k ≤ 12) : HLF ρ (scnR r (ltS ρ m)) (m + 1) 0 k := by
  obtain ⟨⟨a0, a1, a2⟩, ⟨a3, a4⟩, b, c⟩ := H
  obtain ⟨n1, n2, n3⟩ := scn_new (ρ := r) (ltS ρ m) (by omega)
  refine ⟨⟨?_, ?_, ?_⟩, ⟨by rw [n1, a3], ?_⟩, fun d d0 d1 => ?_, fun s s0 s1 j j0 j1 => ?_⟩
  · rw [scn_old (by omega) (by omega) (by omega)]; exact a0
  · rw [scn_old (by omega) (by omega) (by omega)]; exact a1
  · rw [scn_old (by omega) (by omega) (by omega)]; exact a2
  · rw [scn_old (by omega) (by omega) (by omega)]; exact a4
  · by_cases z : d < m
    · obtain ⟨q1, q2, q3⟩ := scn_sc (ρ := r) (ltS ρ m) d0 (by omega) (by omega)
      obtain ⟨e1, e2⟩ := b d d0 z
      refine ⟨by rw [q1]; exact e1, fun t t0 t1 => ?_⟩
      obtain ⟨g1, g2⟩ := e2 t t0 t1
      rw [in_cg q2, (q3 t t0 t1).1, (q3 t t0 t1).2]
      refine ⟨?_, g2⟩
      rw [g1, decide_eq_true t1, Bool.or_true, decide_eq_true (show d < m + 1 - 1 by omega), Bool.true_or]
    · have hd : d = m := by omega
      subst hd
      rw [a3] at n2 n3
      refine ⟨n2, fun t t0 t1 => ?_⟩
      have hin : inS (scnR r (ltS ρ d)) d t = false := by
        unfold inS
        rw [n3]
        exact Nat.zero_testBit _
      rw [hin, decide_eq_false (show ¬ d < d + 1 - 1 by omega), decide_eq_false (show ¬ t < 0 by omega), Bool.or_false, Bool.and_false]
      exact ⟨rfl, fun z => absurd z (by decide)⟩
  · rw [scn_g (ρ := r) (ltS ρ m) (by omega) s0 j0]
    exact c s s0 s1 j j0 j1
theorem HLF.act {m a k : Int} (H : HLF ρ r m a k) (h0 : 1 ≤ m) (h3 : m ≤ 3) (ha : 0 ≤ a ∧ a < 6) (hk : 0 ≤ k ∧ k ≤ 12) (hin : inS ρ (m - 1) a = true) : HLF ρ (actR r (m - 1) a (axS ρ (m - 1) a) (ayS ρ (m - 1) a)) m (a + 1) k := by
  obtain ⟨⟨a0, a1, a2⟩, ⟨a3, a4⟩, b, c⟩ := H
  obtain ⟨n1, n2, n3⟩ := act_new (ρ := r) (c := m - 1) (axS ρ (m - 1) a) (ayS ρ (m - 1) a) ha.1 ha.2
  obtain ⟨l1, l2⟩ := act_c (ρ := r) (c := m - 1) (axS ρ (m - 1) a) (ayS ρ (m - 1) a) ha.1 ha.2
  refine ⟨⟨?_, ?_, ?_⟩, ⟨?_, ?_⟩, fun d d0 d1 => ?_, fun s s0 s1 j j0 j1 => ?_⟩
  · rw [act_old (by omega) (by omega) (by omega)]; exact a0
  · rw [act_old (by omega) (by omega) (by omega)]; exact a1
  · rw [act_old (by omega) (by omega) (by omega)]; exact a2
  · rw [act_old (by omega) (by omega) (by omega)]; exact a3
  · rw [act_old (by omega) (by omega) (by omega)]; exact a4
  · by_cases z : d = m - 1
    · subst z
      obtain ⟨e1, e2⟩ := b (m - 1) d0 d1
      refine ⟨by rw [l1]; exact e1, fun t t0 t1 => ?_⟩
      obtain ⟨g1, g2⟩ := e2 t t0 t1
      obtain ⟨m1, m2⟩ := l2 t t0 t1
      rw [m1, g1, decide_eq_false (show ¬ m - 1 < m - 1 by omega), Bool.false_or, Bool.false_or]
      by_cases y : t = a
      · subst y
        rw [hin, decide_eq_true (show t = t from rfl), decide_eq_true (show t < t + 1 by omega), n2, n3]
        exact ⟨by simp, fun _ => ⟨rfl, rfl⟩⟩
      · rw [decide_eq_false (show ¬ a = t by omega), Bool.or_false, (m2 y).1, (m2 y).2]
        refine ⟨?_, fun q => g2 (by rw [g1, decide_eq_false (show ¬ m - 1 < m - 1 by omega), Bool.false_or]; exact q)⟩
        congr 1
        by_cases w : t < a
        · rw [decide_eq_true w, decide_eq_true (by omega)]
        · rw [decide_eq_false w, decide_eq_false (by omega)]
    · obtain ⟨q1, q2, q3⟩ := act_sc (ρ := r) (c := m - 1) (axS ρ (m - 1) a) (ayS ρ (m - 1) a) ha.1 ha.2 z
      obtain ⟨e1, e2⟩ := b d d0 d1
      refine ⟨by rw [q1]; exact e1, fun t t0 t1 => ?_⟩
      obtain ⟨g1, g2⟩ := e2 t t0 t1
      rw [in_cg q2, (q3 t t0 t1).1, (q3 t t0 t1).2]
      refine ⟨?_, g2⟩
      rw [g1, decide_eq_true (show d < m - 1 by omega), Bool.true_or, Bool.true_or]
  · rw [act_g (ρ := r) (c := m - 1) (a := a) _ _ (by omega) (by omega) ha.1 ha.2 s0 j0]
    exact c s s0 s1 j j0 j1
theorem HLF.no {m a k : Int} (H : HLF ρ r m a k) (hin : inS ρ (m - 1) a = false) : HLF ρ r m (a + 1) k := by
  obtain ⟨h1, h2, b, c⟩ := H
  refine ⟨h1, h2, fun d d0 d1 => ⟨(b d d0 d1).1, fun t t0 t1 => ?_⟩, c⟩
  obtain ⟨g1, g2⟩ := (b d d0 d1).2 t t0 t1
  refine ⟨?_, g2⟩
  rw [g1]
  by_cases z : d < m - 1
  · rw [decide_eq_true z, Bool.true_or, Bool.true_or]
  · rw [decide_eq_false z, Bool.false_or, Bool.false_or]
    by_cases y : t = a
    · have hd : d = m - 1 := by omega
      rw [y, hd, hin, Bool.false_and, Bool.false_and]
    · by_cases w : t < a
      · rw [decide_eq_true w, decide_eq_true (by omega)]
      · rw [decide_eq_false w, decide_eq_false (by omega)]
theorem HLF.sht {m k : Int} (H : HLF ρ r m 6 k) (h0 : 1 ≤ m) (h3 : m ≤ 3) (hk : 0 ≤ k ∧ k < 12) (hs : scS ρ k = m - 1) : HLF ρ (shtR r (m - 1) (cxS ρ k) (cyS ρ k) (suS ρ k) (paS ρ k) (lnS ρ k)) m 6 (k + 1) := by
  obtain ⟨⟨a0, a1, a2⟩, ⟨a3, a4⟩, b, c⟩ := H
  obtain ⟨n0, n1, n2, n3, n4, n5, n6⟩ := sht_new (ρ := r) (m - 1) (cxS ρ k) (cyS ρ k) (suS ρ k) (paS ρ k) (lnS ρ k) (by omega)
  refine ⟨⟨?_, ?_, ?_⟩, ⟨?_, by rw [n0, a4]⟩, fun d d0 d1 => ?_, fun s s0 s1 j j0 j1 => ?_⟩
  · rw [sht_old (by omega) (by omega)]; exact a0
  · rw [sht_old (by omega) (by omega)]; exact a1
  · rw [sht_old (by omega) (by omega)]; exact a2
  · rw [sht_old (by omega) (by omega)]; exact a3
  · obtain ⟨q1, q2, q3⟩ := sht_c (ρ := r) (m - 1) (cxS ρ k) (cyS ρ k) (suS ρ k) (paS ρ k) (lnS ρ k) (by omega) d0 (by omega)
    obtain ⟨e1, e2⟩ := b d d0 d1
    refine ⟨by rw [q1]; exact e1, fun t t0 t1 => ?_⟩
    rw [in_cg q2, (q3 t t0 t1).1, (q3 t t0 t1).2]
    exact e2 t t0 t1
  · by_cases z : s < k
    · rw [sht_g (ρ := r) (m - 1) _ _ _ _ _ (by omega) s0 (by omega) j0 j1]
      exact c s s0 z j j0 j1
    · have hsk : s = k := by omega
      subst hsk
      rw [a4] at n1 n2 n3 n4 n5 n6
      rcases (show j = 0 ∨ j = 1 ∨ j = 2 ∨ j = 3 ∨ j = 4 ∨ j = 5 by omega) with h | h | h | h | h | h <;> subst h
      · exact n1.trans hs.symm
      · exact n2
      · exact n3
      · exact n4
      · exact n5
      · exact n6
theorem bit_B : ((List.range 64).all fun m => m == 0 || (List.range 6).any fun b => m.testBit b) = true := by decide +kernel
theorem HLF.can {m k : Int} (H : HLF ρ r m 6 k) (V : VB ρ) (h0 : 1 ≤ m) (h3 : m ≤ ρ 3) : canS r = true := by
  obtain ⟨-, ⟨a3, -⟩, b, -⟩ := H
  have sc := (V.scene (show (0 : Int) ≤ m - 1 by omega) (show m - 1 < ρ 3 by omega)).2.1
  have hb := List.all_eq_true.mp bit_B (csS ρ (m - 1)).toNat (List.mem_range.mpr (by omega))
  rw [Bool.or_eq_true, beq_iff_eq] at hb
  rcases hb with z | z
  · omega
  · obtain ⟨t, ht, hbt⟩ := List.any_eq_true.mp z
    have ht := List.mem_range.mp ht
    have hin : inS ρ (m - 1) t = true := by
      unfold inS
      rw [Int.toNat_natCast]
      exact hbt
    obtain ⟨g1, -⟩ := (b (m - 1) (by omega) (by omega)).2 t (by omega) (by omega)
    rw [hin, decide_eq_true (show (t : Int) < 6 by omega), Bool.or_true, Bool.and_true] at g1
    unfold canS
    refine decide_eq_true ⟨by omega, ?_⟩
    rw [a3]
    refine Classical.byContradiction (fun q => ?_)
    unfold inS at g1
    rw [show (csS r (m - 1)).toNat = 0 by omega, Nat.zero_testBit] at g1
    exact absurd g1 (by decide)
theorem ns_none {c : Int} : ∀ k : Nat, (∀ s : Nat, s < k → ¬ scS r s = c) → nsS r c k = 0
  | 0, _ => rfl
  | k + 1, h => by
    show nsS r c k + (if scS r k = c then 1 else 0) = 0
    rw [ns_none k (fun s hs => h s (by omega)), if_neg (h k (by omega))]
    rfl
theorem pa_act (V : VB ρ) {c : Nat} (hc : (c : Int) < ρ 3) {k : Int} (hk : 0 ≤ k ∧ k ≤ 12) (hks : ∀ s, 0 ≤ s → s < k → scS ρ s < c) : ∀ (a : Nat), a ≤ 6 → ATL f i (acT ρ c a) → i + (acT ρ c a).length ≤ n → HLF ρ r (c + 1) 0 k → ∃ r', Rch f n (nxT f n i, r) (nxT f n (i + (acT ρ c a).length), r') ∧ HLF ρ r' (c + 1) a k := by
  have m := V.m
  intro a
  induction a with
  | zero =>
    intro _ _ _ H
    exact ⟨r, Rch.rf _, H⟩
  | succ a ih =>
    intro ha hA hn H
    have e0 : acT ρ c (a + 1) = acT ρ c a ++ txA ρ c a := rfl
    rw [e0] at hA hn ⊢
    rw [List.length_append] at hn ⊢
    obtain ⟨A1, A2⟩ := hA.app
    obtain ⟨r1, R1, H1⟩ := ih (by omega) A1 (by omega) H
    by_cases z : inS ρ c a = true
    · have et : txA ρ c a = cod 5 ++ 32 :: (decS a ++ 32 :: (decS (axS ρ c a) ++ 32 :: (decS (ayS ρ c a) ++ [59]))) := by unfold txA; rw [if_pos z]
      rw [et] at A2 hn ⊢
      have hcn := cod_n
      have el : (cod 5 ++ 32 :: (decS (a : Int) ++ 32 :: (decS (axS ρ c a) ++ 32 :: (decS (ayS ρ c a) ++ [59])))).length = 5 + 1 + (decS (a : Int)).length + 1 + (decS (axS ρ c a)).length + 1 + (decS (ayS ρ c a)).length + 1 := by
        simp only [List.length_append, List.length_cons, List.length_nil, hcn.1]
        omega
      rw [el] at hn ⊢
      have sc := (V.scene (show (0 : Int) ≤ c by omega) hc).2.2 a (by omega) (by omega) z
      have H2 := H1.act (by omega) (by omega) ⟨by omega, by omega⟩ hk (by rw [show ((c : Int) + 1 - 1) = c by omega]; exact z)
      have r3 : r1 3 = (c : Int) + 1 := H1.2.1.1
      have r4 : r1 4 = k := H1.2.1.2
      have ce : r1 3 - 1 = (c : Int) := by omega
      have g := (H1.2.2.1 c (by omega) (by omega)).2 a (by omega) (by omega)
      have hin : inS r1 (r1 3 - 1) a = false := by
        rw [ce, g.1, decide_eq_false (show ¬ (c : Int) < c + 1 - 1 by omega), decide_eq_false (show ¬ (a : Int) < a by omega)]
        simp
      have hns : nsS r1 (r1 3 - 1) (r1 4).toNat ≤ 0 := by
        rw [ns_none]
        · exact Int.le_refl 0
        · intro s hs e
          have e1 : scS r1 s = scS ρ s := H1.2.2.2 s (by omega) (by omega) 0 (by decide) (by decide)
          have := hks s (by omega) (by omega)
          rw [e1] at e
          omega
      have st := st_act (f := f) (n := n) (r := r1) (a := a) (x := axS ρ c a) (y := ayS ρ c a) (M := []) ⟨by omega, by omega⟩ sc.1 sc.2 A2 (by omega) ⟨by omega, hns⟩ hin
      rw [show ((c : Int) + 1 - 1) = c by omega] at H2
      refine ⟨_, R1.tr ?_, H2⟩
      have := Rch.one (f := f) (n := n) (nxT f n (i + (acT ρ c a).length), r1)
      rw [st, ce] at this
      rw [show i + ((acT ρ c a).length + (5 + 1 + (decS (a : Int)).length + 1 + (decS (axS ρ c a)).length + 1 + (decS (ayS ρ c a)).length + 1)) = i + (acT ρ c a).length + 5 + 1 + (decS (a : Int)).length + 1 + (decS (axS ρ c a)).length + 1 + (decS (ayS ρ c a)).length + 1 by omega]
      exact this
    · have et : txA ρ c a = [] := by unfold txA; rw [if_neg z]
      rw [et]
      refine ⟨r1, R1, ?_⟩
      have H2 := H1.no (by rw [show ((c : Int) + 1 - 1) = c by omega]; simpa using z)
      exact H2
def KPR (ρ : RHO) (c : Int) (s : Int) (k : Int) : Prop := (0 ≤ k ∧ k ≤ ρ 4) ∧ ∀ t, 0 ≤ t → t < ρ 4 → (t < k ↔ (scS ρ t < c ∨ (scS ρ t = c ∧ t < s)))
theorem pa_sht (V : VB ρ) {c : Nat} (hc : (c : Int) < ρ 3) {k : Int} (hk : KPR ρ c 0 k) : ∀ (s : Nat), (s : Int) ≤ ρ 4 → ATL f i (shT ρ c s) → i + (shT ρ c s).length ≤ n → HLF ρ r (c + 1) 6 k → ∃ r' k', Rch f n (nxT f n i, r) (nxT f n (i + (shT ρ c s).length), r') ∧ HLF ρ r' (c + 1) 6 k' ∧ KPR ρ c s k' := by
  have m := V.m
  have n4 := V.n
  intro s
  induction s with
  | zero =>
    intro _ _ _ H
    exact ⟨r, k, Rch.rf _, H, hk⟩
  | succ s ih =>
    intro hs hA hn H
    have e0 : shT ρ c (s + 1) = shT ρ c s ++ (if scS ρ s = c then txS ρ s else []) := rfl
    rw [e0] at hA hn ⊢
    rw [List.length_append] at hn ⊢
    obtain ⟨A1, A2⟩ := hA.app
    obtain ⟨r1, k1, R1, H1, K1⟩ := ih (by omega) A1 (by omega) H
    obtain ⟨kb, kk⟩ := K1
    by_cases z : scS ρ s = c
    · rw [if_pos z] at A2 hn ⊢
      have ks : k1 = s := by
        have q1 := kk s (by omega) (by omega)
        have h1 : ¬ (s : Int) < k1 := fun w => by
          rcases q1.mp w with h | ⟨-, h⟩ <;> omega
        refine Classical.byContradiction (fun w => ?_)
        have q2 := kk (s - 1) (by omega) (by omega)
        have so := V.2.2.2.2.2.2.2 (s - 1) s (by omega) (by omega) (by omega)
        have : (s : Int) - 1 < k1 := q2.mpr (by omega)
        omega
      subst ks
      obtain ⟨v1, v2, v3, v4, v5, v6, v7, v8⟩ := V.shot (show (0 : Int) ≤ s by omega) (by omega)
      rw [z] at v5 v6
      have v8 : ¬ (axS ρ c (suS ρ s) = cxS ρ s ∧ ayS ρ c (suS ρ s) = cyS ρ s) := by
        have := v8
        unfold sxS syS at this
        rw [z] at this
        exact this
      have r3 : r1 3 = (c : Int) + 1 := H1.2.1.1
      have r4 : r1 4 = s := H1.2.1.2
      have ce : r1 3 - 1 = (c : Int) := by omega
      have inn : ∀ b, 0 ≤ b → b < 6 → inS ρ c b = true → inS r1 (r1 3 - 1) b = true ∧ axS r1 (r1 3 - 1) b = axS ρ c b ∧ ayS r1 (r1 3 - 1) b = ayS ρ c b := by
        intro b b0 b1 hb
        obtain ⟨g1, g2⟩ := (H1.2.2.1 c (by omega) (by omega)).2 b b0 b1
        rw [hb, decide_eq_true b1, Bool.or_true, Bool.and_true] at g1
        rw [ce]
        exact ⟨g1, g2 g1⟩
      obtain ⟨i1, i2, i3⟩ := inn (suS ρ s) v4.1 v4.2 v5
      have hPT : (paS ρ s = -1 ∧ pT (paS ρ s) = cod 15) ∨ ((0 ≤ paS ρ s ∧ paS ρ s ≤ 5) ∧ pT (paS ρ s) = decS (paS ρ s) ∧ inS r1 (r1 3 - 1) (paS ρ s) = true ∧ ¬ paS ρ s = suS ρ s) := by
        unfold pT
        rcases v6 with h | ⟨h1, h2, h3⟩
        · exact Or.inl ⟨h, by rw [if_pos (by omega)]⟩
        · exact Or.inr ⟨⟨h1.1, by omega⟩, by rw [if_neg (by omega)], (inn _ h1.1 h1.2 h2).1, h3⟩
      have hcn := cod_n
      have et : txS ρ s = cod 18 ++ 32 :: (decS (cxS ρ s) ++ 32 :: (decS (cyS ρ s) ++ 32 :: (decS (suS ρ s) ++ 32 :: (pT (paS ρ s) ++ 32 :: (decS (lnS ρ s) ++ 32 :: 59 :: 10 :: []))))) := rfl
      have el : (txS ρ s).length = 4 + 1 + (decS (cxS ρ s)).length + 1 + (decS (cyS ρ s)).length + 1 + (decS (suS ρ s)).length + 1 + (pT (paS ρ s)).length + 1 + (decS (lnS ρ s)).length + 3 := by
        rw [et]
        simp only [List.length_append, List.length_cons, List.length_nil, hcn.2.2.2.2]
        omega
      rw [el] at hn ⊢
      rw [et] at A2
      have st := st_sht (f := f) (n := n) (r := r1) hPT v2 v3 ⟨v4.1, by omega⟩ v7 A2 (by omega) (H1.can V (by omega) (by omega)) (by omega) i1 (by rw [i2, i3]; exact v8)
      have H2 := H1.sht (by omega) (by omega) ⟨by omega, by omega⟩ (by rw [z]; omega)
      rw [show ((c : Int) + 1 - 1) = c by omega] at H2
      refine ⟨_, (s : Int) + 1, R1.tr ?_, H2, ⟨by omega, by omega⟩, fun t t0 t1 => ?_⟩
      · have := Rch.one (f := f) (n := n) (nxT f n (i + (shT ρ c s).length), r1)
        rw [st, ce] at this
        rw [show i + ((shT ρ c s).length + (4 + 1 + (decS (cxS ρ s)).length + 1 + (decS (cyS ρ s)).length + 1 + (decS (suS ρ s)).length + 1 + (pT (paS ρ s)).length + 1 + (decS (lnS ρ s)).length + 3)) = i + (shT ρ c s).length + 4 + 1 + (decS (cxS ρ s)).length + 1 + (decS (cyS ρ s)).length + 1 + (decS (suS ρ s)).length + 1 + (pT (paS ρ s)).length + 1 + (decS (lnS ρ s)).length + 3 by omega]
        exact this
      · by_cases w : t = s
        · subst w
          exact ⟨fun _ => Or.inr ⟨z, by omega⟩, fun _ => by omega⟩
        · have := kk t t0 t1
          omega
    · rw [if_neg z] at hn ⊢
      refine ⟨r1, k1, R1, H1, kb, fun t t0 t1 => ?_⟩
      have := kk t t0 t1
      by_cases w : t = s
      · subst w
        omega
      · omega
theorem pa_scn (V : VB ρ) : ∀ (c : Nat), (c : Int) ≤ ρ 3 → ATL f 0 (scT ρ c) → (scT ρ c).length ≤ n → ∃ r k, Rch f n (ld0 f n) (nxT f n (scT ρ c).length, r) ∧ HLF ρ r c 6 k ∧ KPR ρ c 0 k := by
  have m := V.m
  have n4 := V.n
  have hcn := cod_n
  intro c
  induction c with
  | zero =>
    intro _ hA hn
    have e0 : scT ρ 0 = cod 8 ++ 32 :: (decS (ρ 0) ++ 32 :: (decS (ρ 1) ++ 32 :: (decS (ρ 2) ++ 59 :: 10 :: []))) := rfl
    have el : (scT ρ 0).length = 6 + 1 + (decS (ρ 0)).length + 1 + (decS (ρ 1)).length + 1 + (decS (ρ 2)).length + 2 := by
      rw [e0]
      simp only [List.length_append, List.length_cons, List.length_nil, hcn.2.1]
      omega
    rw [el] at hn ⊢
    rw [e0] at hA
    have lim := V.lim
    have st := st_lim (f := f) (n := n) lim.1 lim.2.1 lim.2.2 hA hn
    obtain ⟨l0, l1, l2, l3⟩ := limR_v (ρ 0) (ρ 1) (ρ 2)
    refine ⟨limR (ρ 0) (ρ 1) (ρ 2), 0, by rw [st]; exact Rch.rf _, ⟨⟨l0, l1, l2⟩, ⟨l3 3 (by decide), l3 4 (by decide)⟩, fun d d0 d1 => by have d1 : d < 0 := d1; omega, fun s s0 s1 => by omega⟩, ⟨by omega, by omega⟩, fun t t0 t1 => ?_⟩
    have := (V.shot t0 t1).1.1
    have z : ((0 : Nat) : Int) = 0 := rfl
    omega
  | succ c ih =>
    intro hc hA hn
    have e0 : scT ρ (c + 1) = scT ρ c ++ (txC ρ c ++ (acT ρ c 6 ++ shT ρ c (ρ 4).toNat)) := rfl
    rw [e0] at hA hn ⊢
    obtain ⟨A1, A2⟩ := hA.app
    obtain ⟨A3, A4⟩ := A2.app
    obtain ⟨A5, A6⟩ := A4.app
    simp only [List.length_append] at hn ⊢
    obtain ⟨r1, k1, R1, H1, K1⟩ := ih (by omega) A1 (by omega)
    have sc := (V.scene (show (0 : Int) ≤ c by omega) (show (c : Int) < ρ 3 by omega)).1
    have et : txC ρ c = cod 16 ++ 32 :: (decS (ltS ρ c) ++ 59 :: []) := rfl
    have el : (txC ρ c).length = 5 + 1 + (decS (ltS ρ c)).length + 1 := by
      rw [et]
      simp only [List.length_append, List.length_cons, List.length_nil, hcn.2.2.2.1]
      omega
    rw [et] at A3
    have st := st_scn (f := f) (n := n) (r := r1) sc A3 (by omega) (by rw [H1.2.1.1]; omega) (fun q => H1.can V (by rw [H1.2.1.1] at q; omega) (by omega))
    have H2 := H1.scn (by omega) (by omega) ⟨K1.1.1, by have := K1.1.2; omega⟩
    have R2 := Rch.one (f := f) (n := n) (nxT f n (0 + (scT ρ c).length), r1)
    rw [st] at R2
    rw [Nat.zero_add] at R2
    obtain ⟨r3, R3, H3⟩ := pa_act (f := f) (n := n) V (c := c) (by omega) ⟨K1.1.1, by have := K1.1.2; omega⟩ (fun s s0 s1 => by
      have := (K1.2 s s0 (by have := K1.1.2; omega)).mp s1
      omega) 6 (by omega) A5 (by omega) H2
    have n4e : (((ρ 4).toNat : Nat) : Int) = ρ 4 := by omega
    obtain ⟨r4, k4, R4, H4, K4⟩ := pa_sht (f := f) (n := n) V (c := c) (by omega) K1 (ρ 4).toNat (by omega) A6 (by omega) H3
    refine ⟨r4, k4, ?_, H4, K4.1, fun t t0 t1 => ?_⟩
    · rw [show 0 + (scT ρ c).length + (txC ρ c).length = (scT ρ c).length + 5 + 1 + (decS (ltS ρ c)).length + 1 by omega] at R3 R4
      rw [show (scT ρ c).length + ((txC ρ c).length + ((acT ρ c 6).length + (shT ρ c (ρ 4).toNat).length)) = (scT ρ c).length + 5 + 1 + (decS (ltS ρ c)).length + 1 + (acT ρ c 6).length + (shT ρ c (ρ 4).toNat).length by omega]
      exact (((R1.tr R2).tr R3).tr R4)
    · have := K4.2 t t0 t1
      rw [n4e] at this
      rw [this]
      have hz : ((c + 1 : Nat) : Int) = (c : Int) + 1 := rfl
      omega
/-- the text of a board is read as that board -/
theorem ld_text (V : VB ρ) (hA : ATL f 0 (scT ρ (ρ 3).toNat)) (hn : n = (scT ρ (ρ 3).toNat).length) : (ldX f n).1.er = 0 ∧ HLF ρ (ldX f n).2 (ρ 3) 6 (ρ 4) := by
  have m := V.m
  have n4 := V.n
  have e3 : (((ρ 3).toNat : Nat) : Int) = ρ 3 := by omega
  obtain ⟨r, k, R1, H1, K1⟩ := pa_scn (f := f) (n := n) V (ρ 3).toNat (by omega) hA (by omega)
  rw [e3] at H1 K1
  have hk : k = ρ 4 := by
    have kb := K1.1
    refine Classical.byContradiction (fun w => ?_)
    have := K1.2 k kb.1 (by omega)
    have h2 := (V.shot kb.1 (show k < ρ 4 by omega)).1.2
    omega
  subst hk
  have e0 := nx_end (f := f) (n := n) (i := (scT ρ (ρ 3).toNat).length) (by omega)
  have F : FIN (nxT f n (scT ρ (ρ 3).toNat).length, r) := Or.inr ⟨by rw [e0]; rfl, H1.can V m.1 (by omega)⟩
  have := ldX_eq R1 F
  rw [this]
  exact ⟨by rw [e0]; rfl, H1⟩
end TX
