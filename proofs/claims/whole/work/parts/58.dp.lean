/-! STAGE 2: the best order of stops, as mathematics -/
/-- the first least of g over the k stops that m lacks, and how much it is -/
def cl (g : Nat → Int) (m : Nat) : Nat → Nat × Int
  | 0 => (0, 1000000)
  | k + 1 => if m.testBit k = true then cl g m k else if g k < (cl g m k).2 then (k, g k) else cl g m k
/-- the reference's least: -1 where there is none yet -/
def rf (g : Nat → Int) (m : Nat) : Nat → Int
  | 0 => -1
  | k + 1 => if m.testBit k = true then rf g m k else if rf g m k = -1 then g k else min (rf g m k) (g k)
theorem cl_congr {g g' : Nat → Int} {m : Nat} : ∀ n, (∀ k, k < n → m.testBit k = false → g k = g' k) → cl g m n = cl g' m n
  | 0, _ => rfl
  | n + 1, h => by
    have e := cl_congr n (fun k hk => h k (by omega))
    unfold cl
    rw [e]
    cases b : m.testBit n
    · rw [h n (by omega) b]
    · rfl
theorem cl_le (g : Nat → Int) (m : Nat) : ∀ n, (cl g m n).2 ≤ 1000000 ∧ ∀ j, j < n → m.testBit j = false → (cl g m n).2 ≤ g j
  | 0 => ⟨by show (1000000 : Int) ≤ 1000000; omega, fun j hj => by omega⟩
  | n + 1 => by
    have ⟨a, b⟩ := cl_le g m n
    unfold cl
    cases e : m.testBit n
    · rw [if_neg (by decide)]
      by_cases c : g n < (cl g m n).2
      · rw [if_pos c]
        refine ⟨by show g n ≤ _; omega, fun j hj hb => ?_⟩
        show g n ≤ g j
        by_cases z : j = n
        · rw [z]; omega
        · have := b j (by omega) hb; omega
      · rw [if_neg c]
        refine ⟨a, fun j hj hb => ?_⟩
        by_cases z : j = n
        · rw [z]; omega
        · exact b j (by omega) hb
    · rw [if_pos rfl]
      refine ⟨a, fun j hj hb => ?_⟩
      by_cases z : j = n
      · rw [z, e] at hb; exact absurd hb (by decide)
      · exact b j (by omega) hb
theorem cl_nn {g : Nat → Int} {m : Nat} : ∀ n, (∀ k, k < n → m.testBit k = false → 0 ≤ g k) → 0 ≤ (cl g m n).2
  | 0, _ => by show (0 : Int) ≤ 1000000; decide
  | n + 1, h => by
    have e := cl_nn n (fun k hk => h k (by omega))
    unfold cl
    cases b : m.testBit n
    · rw [if_neg (by decide)]
      split
      · exact h n (by omega) b
      · exact e
    · exact e
/-- what was found is a least one, and the first of them -/
theorem cl_at {g : Nat → Int} {m : Nat} : ∀ n, (∀ k, k < n → m.testBit k = false → g k < 1000000) → (∃ j, j < n ∧ m.testBit j = false) →
    (cl g m n).1 < n ∧ m.testBit (cl g m n).1 = false ∧ g (cl g m n).1 = (cl g m n).2 ∧ ∀ j, j < (cl g m n).1 → m.testBit j = false → (cl g m n).2 < g j
  | 0, _, ⟨j, hj, _⟩ => by omega
  | n + 1, h, ⟨j, hj, hb⟩ => by
    have l := cl_le g m n
    cases e : m.testBit n
    · unfold cl
      rw [e, if_neg (by decide)]
      by_cases c : g n < (cl g m n).2
      · rw [if_pos c]
        refine ⟨by show n < _; omega, e, rfl, fun j hj hb => ?_⟩
        show g n < g j
        have := l.2 j hj hb
        omega
      · rw [if_neg c]
        have x : ∃ j, j < n ∧ m.testBit j = false := by
          refine Classical.byContradiction fun z => ?_
          have q : (cl g m n).2 = 1000000 := cl_none n (fun j hj => by
            cases w : m.testBit j
            · exact absurd ⟨j, hj, w⟩ z
            · rfl)
          have := h n (by omega) e
          omega
        obtain ⟨a1, a2, a3, a4⟩ := cl_at n (fun k hk => h k (by omega)) x
        exact ⟨by omega, a2, a3, a4⟩
    · have x : ∃ j, j < n ∧ m.testBit j = false := ⟨j, by
        have : ¬ j = n := fun z => by rw [z, e] at hb; exact absurd hb (by decide)
        omega, hb⟩
      obtain ⟨a1, a2, a3, a4⟩ := cl_at n (fun k hk => h k (by omega)) x
      unfold cl
      rw [e, if_pos rfl]
      exact ⟨by omega, a2, a3, a4⟩
where
  cl_none {g : Nat → Int} {m : Nat} : ∀ n, (∀ k, k < n → m.testBit k = true) → (cl g m n).2 = 1000000
  | 0, _ => rfl
  | n + 1, h => by
    unfold cl
    rw [if_pos (h n (by omega))]
    exact cl_none n (fun k hk => h k (by omega))
theorem rf_cl {g : Nat → Int} {m : Nat} : ∀ n, (∀ k, k < n → m.testBit k = false → 0 ≤ g k ∧ g k < 1000000) →
    (rf g m n = -1 ∧ (cl g m n).2 = 1000000 ∧ ∀ j, j < n → m.testBit j = true) ∨ (0 ≤ rf g m n ∧ rf g m n = (cl g m n).2 ∧ ∃ j, j < n ∧ m.testBit j = false)
  | 0, _ => Or.inl ⟨rfl, rfl, fun j hj => by omega⟩
  | n + 1, h => by
    have ih := rf_cl n (fun k hk => h k (by omega))
    cases e : m.testBit n
    · have q := h n (by omega) e
      unfold rf cl
      have ff : ¬ (false = true) := by decide
      rw [e, if_neg ff, if_neg ff]
      refine Or.inr ?_
      rcases ih with ⟨a, b, c⟩ | ⟨a, b, c⟩
      · rw [if_pos a, b, if_pos q.2]
        exact ⟨q.1, rfl, n, by omega, e⟩
      · rw [if_neg (by omega), b]
        by_cases z : g n < (cl g m n).2
        · rw [if_pos z, Int.min_eq_right (by omega)]
          exact ⟨q.1, rfl, n, by omega, e⟩
        · rw [if_neg z, Int.min_eq_left (by omega)]
          exact ⟨by omega, rfl, n, by omega, e⟩
    · unfold rf cl
      rw [e, if_pos rfl, if_pos rfl]
      rcases ih with ⟨a, b, c⟩ | ⟨a, b, j, c, d⟩
      · refine Or.inl ⟨a, b, fun j hj => ?_⟩
        by_cases z : j = n
        · rw [z]; exact e
        · exact c j (by omega)
      · exact Or.inr ⟨a, b, j, by omega, d⟩
/-- sets of stops -/
theorem or_bit (m k j : Nat) : (m ||| 2 ^ k).testBit j = (m.testBit j || decide (k = j)) := by rw [Nat.testBit_or, Nat.testBit_two_pow]
theorem or_lt {m k n : Nat} (hm : m < 2 ^ n) (hk : k < n) : m ||| 2 ^ k < 2 ^ n := Nat.or_lt_two_pow hm (Nat.pow_lt_pow_right (by decide) hk)
theorem or_gt {m k : Nat} (h : m.testBit k = false) : m < m ||| 2 ^ k := by
  have a : m ≤ m ||| 2 ^ k := Nat.left_le_or
  have b : ¬ m = m ||| 2 ^ k := fun z => by
    have q := or_bit m k k
    rw [← z, h, decide_eq_true rfl] at q
    exact absurd q (by decide)
  omega
theorem or_eq {m k : Nat} (h : m.testBit k = true) : m ||| 2 ^ k = m := by
  refine Nat.eq_of_testBit_eq fun j => ?_
  rw [or_bit]
  by_cases z : k = j
  · rw [← z, h]; rfl
  · rw [decide_eq_false z, Bool.or_false]
theorem all_bit (n j : Nat) : (2 ^ n - 1).testBit j = decide (j < n) := Nat.testBit_two_pow_sub_one n j
theorem all_of {m n : Nat} (hm : m < 2 ^ n) (h : ∀ j, j < n → m.testBit j = true) : m = 2 ^ n - 1 := by
  refine Nat.eq_of_testBit_eq fun j => ?_
  rw [all_bit]
  by_cases z : j < n
  · rw [h j z, decide_eq_true z]
  · rw [decide_eq_false z]
    exact Nat.testBit_lt_two_pow (Nat.lt_of_lt_of_le hm (Nat.pow_le_pow_right (by decide) (by omega)))
theorem free_of {m n : Nat} (hm : m < 2 ^ n) (h : ¬ m = 2 ^ n - 1) : ∃ j, j < n ∧ m.testBit j = false := by
  refine Classical.byContradiction fun z => h (all_of hm fun j hj => ?_)
  cases w : m.testBit j
  · exact absurd ⟨j, hj, w⟩ z
  · rfl
/-- how many stops m has -/
def pcN (m : Nat) : Nat → Nat
  | 0 => 0
  | k + 1 => pcN m k + (if m.testBit k = true then 1 else 0)
theorem pc_le (m : Nat) : ∀ n, pcN m n ≤ n
  | 0 => Nat.le_refl 0
  | n + 1 => by
    have := pc_le m n
    unfold pcN
    split <;> omega
theorem pc_all {m : Nat} : ∀ n, pcN m n = n ↔ ∀ j, j < n → m.testBit j = true
  | 0 => ⟨fun _ j hj => by omega, fun _ => rfl⟩
  | n + 1 => by
    have ih := pc_all (m := m) n
    have l := pc_le m n
    unfold pcN
    constructor
    · intro h j hj
      cases e : m.testBit n
      · rw [e, if_neg (by decide)] at h; omega
      · rw [e, if_pos rfl] at h
        by_cases z : j = n
        · rw [z]; exact e
        · exact ih.mp (by omega) j (by omega)
    · intro h
      rw [if_pos (h n (by omega)), ih.mpr (fun j hj => h j (by omega))]
theorem pc_or {m k : Nat} (hb : m.testBit k = false) : ∀ n, pcN (m ||| 2 ^ k) n = pcN m n + (if k < n then 1 else 0)
  | 0 => rfl
  | n + 1 => by
    have ih := pc_or hb n
    unfold pcN
    rw [ih, or_bit]
    by_cases z : k = n
    · subst z
      rw [hb, decide_eq_true rfl, if_neg (show ¬ k < k by omega), if_pos (show k < k + 1 by omega)]
      simp
    · rw [decide_eq_false z, Bool.or_false]
      by_cases w : k < n
      · rw [if_pos w, if_pos (show k < n + 1 by omega)]; omega
      · rw [if_neg w, if_neg (show ¬ k < n + 1 by omega)]; omega
theorem pc_0 : ∀ n, pcN 0 n = 0
  | 0 => rfl
  | n + 1 => by
    unfold pcN
    rw [pc_0 n, Nat.zero_testBit, if_neg (by decide)]
/-- the least price of what is left behind m, when l was the latest -/
def rs (n : Nat) (pr : Int → Nat → Int) : Nat → Nat → Nat → Int
  | 0, _, _ => 0
  | t + 1, m, l => if m = 2 ^ n - 1 then 0 else (cl (fun k => pr (l : Int) k + rs n pr t (m ||| 2 ^ k) k) m n).2
theorem rs_fuel (n : Nat) (pr : Int → Nat → Int) : ∀ t t' m l : Nat, m < 2 ^ n → 2 ^ n ≤ t + m + 1 → 2 ^ n ≤ t' + m + 1 → rs n pr t m l = rs n pr t' m l
  | 0, 0, _, _, _, _, _ => rfl
  | 0, t' + 1, m, l, h, h1, _ => by
    show 0 = rs n pr (t' + 1) m l
    unfold rs
    rw [if_pos (by omega)]
  | t + 1, 0, m, l, h, _, h1 => by
    show rs n pr (t + 1) m l = 0
    unfold rs
    rw [if_pos (by omega)]
  | t + 1, t' + 1, m, l, h, h1, h2 => by
    unfold rs
    by_cases z : m = 2 ^ n - 1
    · rw [if_pos z, if_pos z]
    · rw [if_neg z, if_neg z, cl_congr n (fun k hk hb => ?_)]
      have g := or_gt hb
      show pr (l : Int) k + rs n pr t (m ||| 2 ^ k) k = pr (l : Int) k + rs n pr t' (m ||| 2 ^ k) k
      rw [rs_fuel n pr t t' (m ||| 2 ^ k) k (or_lt h hk) (by omega) (by omega)]
def RS (n : Nat) (pr : Int → Nat → Int) (m l : Nat) : Int := rs n pr (2 ^ n) m l
/-- what a next stop costs, with all behind it -/
def nxS (n : Nat) (pr : Int → Nat → Int) (m : Nat) (l : Int) (k : Nat) : Int := pr l k + RS n pr (m ||| 2 ^ k) k
theorem RS_st {n : Nat} (pr : Int → Nat → Int) {m : Nat} (l : Nat) (hm : m < 2 ^ n) : RS n pr m l = if m = 2 ^ n - 1 then 0 else (cl (nxS n pr m (l : Int)) m n).2 := by
  unfold RS
  rw [rs_fuel n pr (2 ^ n) (2 ^ n + 1) m l hm (by omega) (by omega)]
  rfl
theorem RS_all (n : Nat) (pr : Int → Nat → Int) (l : Nat) : RS n pr (2 ^ n - 1) l = 0 := by
  have : 0 < 2 ^ n := Nat.pow_pos (by decide)
  rw [RS_st pr l (by omega), if_pos rfl]
/-- prices from 0 to 99 -/
def PB (n : Nat) (pr : Int → Nat → Int) : Prop := ∀ (l : Int) (k : Nat), -1 ≤ l → l < n → k < n → 0 ≤ pr l k ∧ pr l k ≤ 99
theorem rs_range {n : Nat} {pr : Int → Nat → Int} (P : PB n pr) : ∀ t m l : Nat, m < 2 ^ n → l < n → 0 ≤ rs n pr t m l ∧ rs n pr t m l ≤ 99 * t
  | 0, _, _, _, _ => by
    show (0 : Int) ≤ 0 ∧ (0 : Int) ≤ 99 * ((0 : Nat) : Int)
    omega
  | t + 1, m, l, hm, hl => by
    unfold rs
    by_cases z : m = 2 ^ n - 1
    · rw [if_pos z]; omega
    · rw [if_neg z]
      constructor
      · refine cl_nn n fun k hk hb => ?_
        have a := P (l : Int) k (by omega) (by omega) hk
        have b := rs_range P t (m ||| 2 ^ k) k (or_lt hm hk) hk
        show 0 ≤ pr (l : Int) k + rs n pr t (m ||| 2 ^ k) k
        omega
      · obtain ⟨j, hj, hb⟩ := free_of hm z
        have a := P (l : Int) j (by omega) (by omega) hj
        have b := rs_range P t (m ||| 2 ^ j) j (or_lt hm hj) hj
        have c : _ ≤ pr (l : Int) j + rs n pr t (m ||| 2 ^ j) j := (cl_le (fun k => pr (l : Int) k + rs n pr t (m ||| 2 ^ k) k) m n).2 j hj hb
        omega
theorem RS_range {n : Nat} {pr : Int → Nat → Int} (P : PB n pr) (hn : n ≤ 12) {m l : Nat} (hm : m < 2 ^ n) (hl : l < n) : 0 ≤ RS n pr m l ∧ RS n pr m l ≤ 405504 := by
  have a := rs_range P (2 ^ n) m l hm hl
  have e : 2 ^ n ≤ 2 ^ 12 := Nat.pow_le_pow_right (by decide) hn
  unfold RS
  omega
theorem nx_range {n : Nat} {pr : Int → Nat → Int} (P : PB n pr) (hn : n ≤ 12) {m k : Nat} {l : Int} (hm : m < 2 ^ n) (hl : -1 ≤ l) (hl2 : l < n) (hk : k < n) : 0 ≤ nxS n pr m l k ∧ nxS n pr m l k ≤ 405603 := by
  have a := P l k hl hl2 hk
  have b := RS_range P hn (or_lt hm hk) hk
  unfold nxS
  omega
/-- the way: who is behind at a place, who is the latest -/
def pwS (n : Nat) (pr : Int → Nat → Int) : Nat → Nat × Int
  | 0 => (0, -1)
  | i + 1 => ((pwS n pr i).1 ||| 2 ^ (cl (nxS n pr (pwS n pr i).1 (pwS n pr i).2) (pwS n pr i).1 n).1, ((cl (nxS n pr (pwS n pr i).1 (pwS n pr i).2) (pwS n pr i).1 n).1 : Int))
/-- the stop at a place; the price of the first i; the best price -/
def orS (n : Nat) (pr : Int → Nat → Int) (i : Nat) : Nat := (cl (nxS n pr (pwS n pr i).1 (pwS n pr i).2) (pwS n pr i).1 n).1
def paD (n : Nat) (pr : Int → Nat → Int) : Nat → Int
  | 0 => 0
  | i + 1 => paD n pr i + pr (pwS n pr i).2 (orS n pr i)
def bcD (n : Nat) (pr : Int → Nat → Int) : Int := if n = 0 then 0 else (cl (nxS n pr 0 (-1)) 0 n).2
theorem pw_s (n : Nat) (pr : Int → Nat → Int) (i : Nat) : pwS n pr (i + 1) = ((pwS n pr i).1 ||| 2 ^ orS n pr i, (orS n pr i : Int)) := rfl
theorem pw_ok {n : Nat} {pr : Int → Nat → Int} (P : PB n pr) (hn : n ≤ 12) : ∀ i, i ≤ n → (pwS n pr i).1 < 2 ^ n ∧ pcN (pwS n pr i).1 n = i ∧ -1 ≤ (pwS n pr i).2 ∧ (pwS n pr i).2 < n
  | 0, _ => ⟨Nat.pow_pos (by decide), pc_0 n, by show (-1 : Int) ≤ -1; decide, by show (-1 : Int) < n; omega⟩
  | i + 1, h => by
    obtain ⟨a1, a2, a3, a4⟩ := pw_ok P hn i (by omega)
    have f : ¬ (pwS n pr i).1 = 2 ^ n - 1 := fun z => by
      have := (pc_all (m := (pwS n pr i).1) n).mpr (fun j hj => by rw [z, all_bit, decide_eq_true hj])
      omega
    have x := cl_at (g := nxS n pr (pwS n pr i).1 (pwS n pr i).2) n (fun k hk _ => by have := nx_range P hn a1 a3 a4 hk; omega) (free_of a1 f)
    rw [pw_s]
    refine ⟨or_lt a1 x.1, ?_, ?_, ?_⟩
    · show pcN ((pwS n pr i).1 ||| 2 ^ orS n pr i) n = i + 1
      have y := pc_or x.2.1 n
      rw [if_pos x.1, a2] at y
      exact y
    · show -1 ≤ (orS n pr i : Int); omega
    · show (orS n pr i : Int) < n
      have : orS n pr i < n := x.1
      omega
theorem pw_free {n : Nat} {pr : Int → Nat → Int} (P : PB n pr) (hn : n ≤ 12) {i : Nat} (hi : i < n) : ∃ j, j < n ∧ (pwS n pr i).1.testBit j = false := by
  obtain ⟨a1, a2, a3, a4⟩ := pw_ok P hn i (by omega)
  refine free_of a1 fun z => ?_
  have := (pc_all (m := (pwS n pr i).1) n).mpr (fun j hj => by rw [z, all_bit, decide_eq_true hj])
  omega
theorem or_at {n : Nat} {pr : Int → Nat → Int} (P : PB n pr) (hn : n ≤ 12) {i : Nat} (hi : i < n) : orS n pr i < n ∧ (pwS n pr i).1.testBit (orS n pr i) = false ∧ nxS n pr (pwS n pr i).1 (pwS n pr i).2 (orS n pr i) = (cl (nxS n pr (pwS n pr i).1 (pwS n pr i).2) (pwS n pr i).1 n).2 ∧ ∀ j, j < orS n pr i → (pwS n pr i).1.testBit j = false → (cl (nxS n pr (pwS n pr i).1 (pwS n pr i).2) (pwS n pr i).1 n).2 < nxS n pr (pwS n pr i).1 (pwS n pr i).2 j := by
  obtain ⟨a1, a2, a3, a4⟩ := pw_ok P hn i (by omega)
  exact cl_at (g := nxS n pr (pwS n pr i).1 (pwS n pr i).2) n (fun k hk _ => by have := nx_range P hn a1 a3 a4 hk; omega) (pw_free P hn hi)
/-- what is paid and what is left to pay are the best price, at each place -/
theorem pa_bc {n : Nat} {pr : Int → Nat → Int} (P : PB n pr) (hn : n ≤ 12) : ∀ i, i < n → paD n pr i + (cl (nxS n pr (pwS n pr i).1 (pwS n pr i).2) (pwS n pr i).1 n).2 = bcD n pr
  | 0, h => by
    unfold bcD
    rw [if_neg (by omega)]
    show 0 + (cl (nxS n pr 0 (-1)) 0 n).2 = _
    omega
  | i + 1, h => by
    have ih := pa_bc P hn i (by omega)
    have x := (or_at P hn (i := i) (by omega)).2.2.1
    have z := pw_ok P hn (i + 1) (by omega)
    have q := RS_st pr (orS n pr i) z.1
    rw [pw_s] at q z
    rw [if_neg (fun w => ?_)] at q
    · rw [pw_s]
      unfold paD
      have e : nxS n pr (pwS n pr i).1 (pwS n pr i).2 (orS n pr i) = pr (pwS n pr i).2 (orS n pr i) + RS n pr ((pwS n pr i).1 ||| 2 ^ orS n pr i) (orS n pr i) := rfl
      have q2 : RS n pr ((pwS n pr i).1 ||| 2 ^ orS n pr i) (orS n pr i) = (cl (nxS n pr ((pwS n pr i).1 ||| 2 ^ orS n pr i) (orS n pr i : Int)) ((pwS n pr i).1 ||| 2 ^ orS n pr i) n).2 := q
      rw [q2] at e
      show paD n pr i + pr (pwS n pr i).2 (orS n pr i) + (cl (nxS n pr ((pwS n pr i).1 ||| 2 ^ orS n pr i) (orS n pr i : Int)) ((pwS n pr i).1 ||| 2 ^ orS n pr i) n).2 = _
      omega
    · have := (pc_all (m := (pwS n pr i).1 ||| 2 ^ orS n pr i) n).mpr (fun j hj => by
        have : (pwS n pr i).1 ||| 2 ^ orS n pr i = 2 ^ n - 1 := w
        rw [this, all_bit, decide_eq_true hj])
      have w2 : pcN ((pwS n pr i).1 ||| 2 ^ orS n pr i) n = i + 1 := z.2.1
      omega
theorem pa_n {n : Nat} {pr : Int → Nat → Int} (P : PB n pr) (hn : n ≤ 12) : paD n pr n = bcD n pr := by
  cases n with
  | zero => rfl
  | succ i =>
    have ih := pa_bc P hn i (by omega)
    have x := (or_at P hn (i := i) (by omega)).2.2.1
    have z := pw_ok P hn (i + 1) (by omega)
    have y := all_of z.1 ((pc_all _).mp z.2.1)
    rw [pw_s] at y
    have y2 : (pwS (i + 1) pr i).1 ||| 2 ^ orS (i + 1) pr i = 2 ^ (i + 1) - 1 := y
    have e : nxS (i + 1) pr (pwS (i + 1) pr i).1 (pwS (i + 1) pr i).2 (orS (i + 1) pr i) = pr (pwS (i + 1) pr i).2 (orS (i + 1) pr i) + RS (i + 1) pr ((pwS (i + 1) pr i).1 ||| 2 ^ orS (i + 1) pr i) (orS (i + 1) pr i) := rfl
    rw [y2, RS_all] at e
    show paD (i + 1) pr i + pr (pwS (i + 1) pr i).2 (orS (i + 1) pr i) = _
    omega
theorem pa_range {n : Nat} {pr : Int → Nat → Int} (P : PB n pr) (hn : n ≤ 12) : ∀ i, i ≤ n → 0 ≤ paD n pr i ∧ paD n pr i ≤ 99 * i
  | 0, _ => by
    show (0 : Int) ≤ 0 ∧ (0 : Int) ≤ 99 * ((0 : Nat) : Int)
    omega
  | i + 1, h => by
    have ih := pa_range P hn i (by omega)
    obtain ⟨a1, a2, a3, a4⟩ := pw_ok P hn i (by omega)
    have x := P (pwS n pr i).2 (orS n pr i) a3 a4 (or_at P hn (i := i) (by omega)).1
    unfold paD
    omega
