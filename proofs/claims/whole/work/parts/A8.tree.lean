/-! STAGE 2: bestShot: all orders as a tree; the first least of them is the class's way -/
def cstL (pr : Int → Nat → Int) : Int → List Nat → Int
  | _, [] => 0
  | l, k :: ks => pr l k + cstL pr (k : Int) ks
def catL (h : Nat → List (List Nat)) : Nat → List (List Nat)
  | 0 => []
  | k + 1 => catL h k ++ h k
def trL (n : Nat) : Nat → Nat → List (List Nat)
  | 0, _ => [[]]
  | f + 1, m => catL (fun k => if m.testBit k = true then [] else (trL n f (m ||| 2 ^ k)).map (fun x => k :: x)) n
/-- x is the first least of the list -/
def bstL (c : List Nat → Int) (L : List (List Nat)) (x : List Nat) : Prop := ∃ A B, L = A ++ x :: B ∧ (∀ y, y ∈ A → c x < c y) ∧ ∀ y, y ∈ B → c x ≤ c y
theorem bst_le {c : List Nat → Int} {L : List (List Nat)} {x : List Nat} (h : bstL c L x) : ∀ y, y ∈ L → c x ≤ c y := by
  obtain ⟨A, B, e, h1, h2⟩ := h
  intro y hy
  rw [e] at hy
  rcases List.mem_append.mp hy with hy | hy
  · have := h1 y hy; omega
  · rcases List.mem_cons.mp hy with rfl | hy
    · exact Int.le_refl _
    · exact h2 y hy
theorem bst_map {c c' : List Nat → Int} {L : List (List Nat)} {x : List Nat} (f : List Nat → List Nat) (d : Int) (hc : ∀ y, c' (f y) = d + c y) (h : bstL c L x) : bstL c' (L.map f) (f x) := by
  obtain ⟨A, B, e, h1, h2⟩ := h
  refine ⟨A.map f, B.map f, by rw [e, List.map_append, List.map_cons], fun y hy => ?_, fun y hy => ?_⟩
  · obtain ⟨z, hz, rfl⟩ := List.mem_map.mp hy
    have := h1 z hz
    rw [hc, hc]; omega
  · obtain ⟨z, hz, rfl⟩ := List.mem_map.mp hy
    have := h2 z hz
    rw [hc, hc]; omega
theorem bst_cat {c : List Nat → Int} {g : Nat → Int} {m : Nat} {h : Nat → List (List Nat)} {w : Nat → List Nat} {n : Nat} (hb : ∀ k, k < n → m.testBit k = true → h k = []) (hf : ∀ k, k < n → m.testBit k = false → bstL c (h k) (w k) ∧ c (w k) = g k ∧ g k < 1000000) : ∀ k, k ≤ n →
    ((∀ j, j < k → m.testBit j = true) ∧ (cl g m k).2 = 1000000 ∧ catL h k = []) ∨ (m.testBit (cl g m k).1 = false ∧ (cl g m k).1 < k ∧ g (cl g m k).1 = (cl g m k).2 ∧ bstL c (catL h k) (w (cl g m k).1)) := by
  intro k
  induction k with
  | zero => intro _; exact Or.inl ⟨fun j hj => absurd hj (Nat.not_lt_zero j), rfl, rfl⟩
  | succ k ih =>
    intro hk
    have ih := ih (by omega)
    have ec : catL h (k + 1) = catL h k ++ h k := rfl
    rw [ec]
    cases e : m.testBit k
    · have cc : cl g m (k + 1) = if g k < (cl g m k).2 then (k, g k) else cl g m k := by
        show (if m.testBit k = true then cl g m k else if g k < (cl g m k).2 then (k, g k) else cl g m k) = _
        rw [e, if_neg (by decide)]
      obtain ⟨b1, b2, b3⟩ := hf k (by omega) e
      rcases ih with ⟨i1, i2, i3⟩ | ⟨i1, i2, i3, i4⟩
      · rw [cc, i2, if_pos b3, i3, List.nil_append]
        exact Or.inr ⟨e, by show k < k + 1; omega, rfl, b1⟩
      · rw [cc]
        by_cases z : g k < (cl g m k).2
        · rw [if_pos z]
          refine Or.inr ⟨e, by show k < k + 1; omega, rfl, ?_⟩
          have le := bst_le i4
          have cw := (hf (cl g m k).1 (by omega) i1).2.1
          obtain ⟨A, B, e1, h1, h2⟩ := b1
          refine ⟨catL h k ++ A, B, by rw [e1, List.append_assoc], fun y hy => ?_, h2⟩
          rcases List.mem_append.mp hy with hy | hy
          · have := le y hy
            show c (w k) < c y
            omega
          · exact h1 y hy
        · rw [if_neg z]
          refine Or.inr ⟨i1, by omega, i3, ?_⟩
          have le := bst_le b1
          have cw := (hf (cl g m k).1 (by omega) i1).2.1
          obtain ⟨A, B, e1, h1, h2⟩ := i4
          refine ⟨A, B ++ h k, by rw [e1, List.append_assoc, List.cons_append], h1, fun y hy => ?_⟩
          rcases List.mem_append.mp hy with hy | hy
          · exact h2 y hy
          · have := le y hy
            omega
    · have cc : cl g m (k + 1) = cl g m k := by
        show (if m.testBit k = true then cl g m k else if g k < (cl g m k).2 then (k, g k) else cl g m k) = _
        rw [e, if_pos rfl]
      rw [cc, hb k (by omega) e, List.append_nil]
      rcases ih with ⟨i1, i2, i3⟩ | ⟨i1, i2, i3, i4⟩
      · refine Or.inl ⟨fun j hj => ?_, i2, i3⟩
        by_cases z : j = k
        · rw [z]; exact e
        · exact i1 j (by omega)
      · exact Or.inr ⟨i1, by omega, i3, i4⟩
/-- the way from a mask on -/
def grS (n : Nat) (pr : Int → Nat → Int) : Nat → Nat → Int → List Nat
  | 0, _, _ => []
  | f + 1, m, l => (cl (nxS n pr m l) m n).1 :: grS n pr f (m ||| 2 ^ (cl (nxS n pr m l) m n).1) ((cl (nxS n pr m l) m n).1 : Int)
theorem gr_or (n : Nat) (pr : Int → Nat → Int) : ∀ f i t, i + f = n → t < f → (grS n pr f (pwS n pr i).1 (pwS n pr i).2).getD t 0 = orS n pr (i + t) := by
  intro f
  induction f with
  | zero => intro i t _ h; omega
  | succ f ih =>
    intro i t hi ht
    have e : grS n pr (f + 1) (pwS n pr i).1 (pwS n pr i).2 = orS n pr i :: grS n pr f (pwS n pr (i + 1)).1 (pwS n pr (i + 1)).2 := rfl
    rw [e]
    cases t with
    | zero => rfl
    | succ t =>
      rw [List.getD_cons_succ, ih (i + 1) t (by omega) (by omega)]
      congr 1
      omega
theorem gr_len (n : Nat) (pr : Int → Nat → Int) : ∀ f m l, (grS n pr f m l).length = f := by
  intro f
  induction f with
  | zero => intro m l; rfl
  | succ f ih => intro m l; unfold grS; rw [List.length_cons, ih]
theorem gr_bst {n : Nat} {pr : Int → Nat → Int} (P : PB n pr) (hn : n ≤ 12) : ∀ f m : Nat, ∀ l : Int, m < 2 ^ n → pcN m n + f = n → -1 ≤ l → l < n → bstL (cstL pr l) (trL n f m) (grS n pr f m l) ∧ cstL pr l (grS n pr f m l) = (if f = 0 then 0 else (cl (nxS n pr m l) m n).2) := by
  intro f
  induction f with
  | zero =>
    intro m l _ _ _ _
    exact ⟨⟨[], [], rfl, fun y hy => absurd hy List.not_mem_nil, fun y hy => absurd hy List.not_mem_nil⟩, rfl⟩
  | succ f ih =>
    intro m l hm hp l0 l1
    have nf : ¬ m = 2 ^ n - 1 := by
      intro z
      have := (pc_all (m := m) n).mpr (fun j hj => by rw [z, all_bit, decide_eq_true hj])
      omega
    have free := free_of hm nf
    have gb : ∀ k, k < n → nxS n pr m l k < 1000000 := fun k hk => by have := nx_range P hn hm l0 l1 hk; omega
    obtain ⟨c1, c2, c3, c4⟩ := cl_at (g := nxS n pr m l) (m := m) n (fun k hk _ => gb k hk) free
    have sub : ∀ k, k < n → m.testBit k = false → bstL (cstL pr l) ((trL n f (m ||| 2 ^ k)).map (fun x => k :: x)) (k :: grS n pr f (m ||| 2 ^ k) (k : Int)) ∧ cstL pr l (k :: grS n pr f (m ||| 2 ^ k) (k : Int)) = nxS n pr m l k := by
      intro k hk hb
      have pc := pc_or hb n
      rw [if_pos hk] at pc
      have mk := or_lt hm hk
      obtain ⟨i1, i2⟩ := ih (m ||| 2 ^ k) (k : Int) mk (by omega) (by omega) (by omega)
      refine ⟨bst_map (fun x => k :: x) (pr l k) (fun y => rfl) i1, ?_⟩
      show pr l k + cstL pr (k : Int) (grS n pr f (m ||| 2 ^ k) (k : Int)) = pr l k + RS n pr (m ||| 2 ^ k) k
      rw [i2, RS_st pr k mk]
      by_cases z : f = 0
      · rw [if_pos z, if_pos (all_of mk ((pc_all _).mp (by omega)))]
      · rw [if_neg z, if_neg (fun w => by
          have := (pc_all (m := m ||| 2 ^ k) n).mpr (fun j hj => by rw [w, all_bit, decide_eq_true hj])
          omega)]
    have cat := bst_cat (c := cstL pr l) (g := nxS n pr m l) (m := m) (h := fun k => if m.testBit k = true then [] else (trL n f (m ||| 2 ^ k)).map (fun x => k :: x)) (w := fun k => k :: grS n pr f (m ||| 2 ^ k) (k : Int)) (n := n) (fun k hk hb => by
        show (if m.testBit k = true then [] else _) = _
        rw [if_pos hb]) (fun k hk hb => by
        obtain ⟨s1, s2⟩ := sub k hk hb
        refine ⟨?_, s2, gb k hk⟩
        show bstL _ (if m.testBit k = true then [] else _) _
        rw [hb, if_neg (by decide)]
        exact s1) n (Nat.le_refl n)
    rcases cat with ⟨i1, -, -⟩ | ⟨i1, i2, i3, i4⟩
    · obtain ⟨j, hj, hb⟩ := free
      rw [i1 j hj] at hb
      exact absurd hb (by decide)
    · refine ⟨i4, ?_⟩
      rw [if_neg (Nat.succ_ne_zero f)]
      have := (sub (cl (nxS n pr m l) m n).1 i2 i1).2
      rw [i3] at this
      exact this
/-- the reference's search: the first least, by its own steps -/
def fmF (c : List Nat → Int) : List (List Nat) → Int → List Nat → Int × List Nat
  | [], l, b => (l, b)
  | o :: r, l, b => if l = -1 ∨ c o < l then fmF c r (c o) o else fmF c r l b
theorem fm_keep {c : List Nat → Int} : ∀ (B : List (List Nat)) (l : Int) (b : List Nat), 0 ≤ l → (∀ y, y ∈ B → l ≤ c y) → fmF c B l b = (l, b) := by
  intro B
  induction B with
  | nil => intro l b _ _; rfl
  | cons o r ih =>
    intro l b h0 h
    have := h o (List.mem_cons_self ..)
    unfold fmF
    rw [if_neg (by omega)]
    exact ih l b h0 (fun y hy => h y (List.mem_cons_of_mem _ hy))
theorem fm_bst {c : List Nat → Int} {x : List Nat} {B : List (List Nat)} (x0 : 0 ≤ c x) (hB : ∀ y, y ∈ B → c x ≤ c y) : ∀ (A : List (List Nat)) (l : Int) (b : List Nat), (l = -1 ∨ c x < l) → (∀ y, y ∈ A → c x < c y) → fmF c (A ++ x :: B) l b = (c x, x) := by
  intro A
  induction A with
  | nil =>
    intro l b hl _
    show fmF c (x :: B) l b = _
    unfold fmF
    rw [if_pos hl]
    exact fm_keep B (c x) x x0 hB
  | cons o r ih =>
    intro l b hl h
    have ho := h o (List.mem_cons_self ..)
    have hr : ∀ y, y ∈ r → c x < c y := fun y hy => h y (List.mem_cons_of_mem _ hy)
    show fmF c (o :: (r ++ x :: B)) l b = _
    unfold fmF
    by_cases z : l = -1 ∨ c o < l
    · rw [if_pos z]
      exact ih (c o) o (Or.inr ho) hr
    · rw [if_neg z]
      exact ih l b hl hr
theorem fm_gr {n : Nat} {pr : Int → Nat → Int} (P : PB n pr) (hn : n ≤ 12) {K : Int} {c : List Nat → Int} (hK : 0 ≤ K + cstL pr (-1) (grS n pr n 0 (-1))) (hc : ∀ y, y ∈ trL n n 0 → c y = K + cstL pr (-1) y) (b : List Nat) : (fmF c (trL n n 0) (-1) b).2 = grS n pr n 0 (-1) := by
  have h0 := Nat.pow_pos (a := 2) (n := n) (by decide)
  obtain ⟨A, B, e, h1, h2⟩ := (gr_bst P hn n 0 (-1) h0 (by rw [pc_0]; omega) (by omega) (by omega)).1
  have hx : c (grS n pr n 0 (-1)) = K + cstL pr (-1) (grS n pr n 0 (-1)) := hc _ (by rw [e]; exact List.mem_append_right _ (List.mem_cons_self ..))
  rw [e]
  have := fm_bst (c := c) (x := grS n pr n 0 (-1)) (B := B) (by rw [hx]; exact hK) (fun y hy => by
    rw [hx, hc y (by rw [e]; exact List.mem_append_right _ (List.mem_cons_of_mem _ hy))]
    have := h2 y hy
    omega) A (-1) b (Or.inl rfl) (fun y hy => by
    rw [hx, hc y (by rw [e]; exact List.mem_append_left _ hy)]
    have := h1 y hy
    omega)
  rw [this]
/-! the next order, as the reference makes it -/
def swL (o : List Nat) (a b : Nat) : List Nat := (o.set a (o.getD b 0)).set b (o.getD a 0)
def fkO (o : List Nat) : Nat → Nat
  | 0 => 0
  | k + 1 => if o.getD (k + 1) 0 < o.getD k 0 then fkO o k else k + 1
def foO (o : List Nat) (x : Nat) : Nat → Nat
  | 0 => 0
  | t + 1 => if o.getD (t + 1) 0 < x then foO o x t else t + 1
def rvO : Nat → List Nat → Nat → Nat → List Nat
  | 0, o, _, _ => o
  | f + 1, o, a, b => if b ≤ a then o else rvO f (swL o a b) (a + 1) (b - 1)
def nxO (m : Nat) (o : List Nat) : Option (List Nat) :=
  if fkO o (m - 1) = 0 then none else some (rvO 7 (swL o (fkO o (m - 1) - 1) (foO o (o.getD (fkO o (m - 1) - 1) 0) (m - 1))) (fkO o (m - 1)) (m - 1))
/-- the list is a chain of next orders -/
def chO (m : Nat) : List (List Nat) → Bool
  | [] => false
  | o :: r => match r with
    | [] => nxO m o == none
    | o' :: _ => (nxO m o == some o') && chO m r
def okO (m : Nat) (o : List Nat) : Bool := (o.length == m) && ((List.range m).all fun k => (o.count k == 1) && decide (o.getD k 0 < m)) && (fkO o (m - 1) == 0 || decide (o.getD (fkO o (m - 1) - 1) 0 ≤ o.getD (foO o (o.getD (fkO o (m - 1) - 1) 0) (m - 1)) 0))
theorem ch_B : ((List.range 7).all fun m => (m == 0) || (chO m (trL m m 0) && ((trL m m 0).head? == some (List.range m)) && (trL m m 0).all (okO m) && decide ((trL m m 0).length ≤ 720))) = true := by decide +kernel
