/-! STAGE 3: all objects in one list, by number -/
def bAD (b A B : Nat) (s x y h : Nat → Nat) (d : Nat) : Nat := if d = 0 then b else if d = 1 then A else if d = 2 then B else if d < 12 then (if d % 3 = 0 then s ((d - 3) / 3) else if d % 3 = 1 then x ((d - 3) / 3) else y ((d - 3) / 3)) else h (d - 12)
def ADF (g g2 b A B : Nat → Nat) (s x y h : Nat → Nat → Nat) (i : Int) : Nat := if i < 28 then g i.toNat else if i < 316 then bAD (b ((i - 28) / 24).toNat) (A ((i - 28) / 24).toNat) (B ((i - 28) / 24).toNat) (s ((i - 28) / 24).toNat) (x ((i - 28) / 24).toNat) (y ((i - 28) / 24).toNat) (h ((i - 28) / 24).toNat) ((i - 28) % 24).toNat else g2 (i - 316).toNat
section Q87
variable {g g2 b A B : Nat → Nat} {s x y h : Nat → Nat → Nat}
theorem bd_map {b A B : Nat} {s x y h : Nat → Nat} : (b, 0, 7) :: bdP A B s x y h = (List.range 24).map (fun d => (bAD b A B s x y h d, kdB.getD d (0, 0))) := rfl
theorem bdL_map : ∀ n, bdL b A B s x y h n = (List.range (24 * n)).map (fun i => (bAD (b (i / 24)) (A (i / 24)) (B (i / 24)) (s (i / 24)) (x (i / 24)) (y (i / 24)) (h (i / 24)) (i % 24), kdB.getD (i % 24) (0, 0))) := by
  intro n
  induction n with
  | zero => rfl
  | succ n ih =>
    show bdL b A B s x y h n ++ ((b n, 0, 7) :: bdP (A n) (B n) (s n) (x n) (y n) (h n)) = _
    rw [ih, show 24 * (n + 1) = 24 * n + 24 by omega, List.range_add, List.map_append, List.map_map, bd_map]
    congr 1
    refine List.map_congr_left fun d hd => ?_
    have hd := List.mem_range.mp hd
    have e1 : (24 * n + d) / 24 = n := by omega
    have e2 : (24 * n + d) % 24 = d := by omega
    show _ = (bAD (b ((24 * n + d) / 24)) (A ((24 * n + d) / 24)) (B ((24 * n + d) / 24)) (s ((24 * n + d) / 24)) (x ((24 * n + d) / 24)) (y ((24 * n + d) / 24)) (h ((24 * n + d) / 24)) ((24 * n + d) % 24), kdB.getD ((24 * n + d) % 24) (0, 0))
    rw [e1, e2]
theorem app_cg {α : Type} {a b c d : List α} (h : a = c) (g : b = d) : a ++ b = c ++ d := by rw [h, g]
theorem all_map1 : (List.range 28).map (fun i => (g i, kdL.getD i (0, 0))) ++ bdL b A B s x y h 12 = (List.range 316).map (fun i : Nat => (ADF g g2 b A B s x y h (i : Int), kd (i : Int))) := by
  rw [bdL_map, show (316 : Nat) = 28 + 24 * 12 from rfl, List.range_add, List.map_append, List.map_map]
  refine app_cg ?_ ?_
  · refine List.map_congr_left fun d hd => ?_
    have hd := List.mem_range.mp hd
    unfold ADF kd
    rw [if_pos (by omega), if_pos (by omega)]
    rfl
  · refine List.map_congr_left fun d hd => ?_
    have hd := List.mem_range.mp hd
    show _ = (ADF g g2 b A B s x y h ((28 + d : Nat) : Int), kd ((28 + d : Nat) : Int))
    have e1 : ((((28 + d : Nat) : Int) - 28) / 24).toNat = d / 24 := by omega
    have e2 : ((((28 + d : Nat) : Int) - 28) % 24).toNat = d % 24 := by omega
    unfold ADF kd
    rw [if_neg (by omega), if_pos (by omega), if_neg (by omega), if_pos (by omega), e1, e2]
theorem adg (i : Int) (h1 : i < 28) : ADF g g2 b A B s x y h i = g i.toNat := if_pos h1
theorem adb (m d : Nat) (hm : m < 12) (hd : d < 24) : ADF g g2 b A B s x y h (28 + 24 * (m : Int) + (d : Int)) = bAD (b m) (A m) (B m) (s m) (x m) (y m) (h m) d := by
  have e1 : ((28 + 24 * (m : Int) + (d : Int) - 28) / 24).toNat = m := by omega
  have e2 : ((28 + 24 * (m : Int) + (d : Int) - 28) % 24).toNat = d := by omega
  unfold ADF
  rw [if_neg (by omega), if_pos (by omega), e1, e2]
theorem bAD_s {b A B : Nat} {s x y h : Nat → Nat} (c : Nat) (hc : c < 3) : bAD b A B s x y h (3 + 3 * c) = s c ∧ bAD b A B s x y h (4 + 3 * c) = x c ∧ bAD b A B s x y h (5 + 3 * c) = y c := by
  have : c = 0 ∨ c = 1 ∨ c = 2 := by omega
  rcases this with rfl | rfl | rfl <;> exact ⟨rfl, rfl, rfl⟩
theorem bAD_h {b A B : Nat} {s x y h : Nat → Nat} (k : Nat) : bAD b A B s x y h (12 + k) = h k := by
  unfold bAD
  rw [if_neg (by omega), if_neg (by omega), if_neg (by omega), if_neg (by omega), show 12 + k - 12 = k by omega]
theorem bsh_of {R : HR} (m : Nat) (hm : m < 12) (H : BDR R (b m) (A m) (B m) (s m) (x m) (y m) (h m)) : BSH R (ADF g g2 b A B s x y h) (28 + 24 * (m : Int)) (fun s => s) := by
  obtain ⟨⟨r1, r2⟩, r3, r4⟩ := H
  have a0 : ADF g g2 b A B s x y h (28 + 24 * (m : Int)) = b m := by
    have := adb (g := g) (g2 := g2) (b := b) (A := A) (B := B) (s := s) (x := x) (y := y) (h := h) m 0 hm (by decide)
    rw [show (28 + 24 * (m : Int) + ((0 : Nat) : Int)) = 28 + 24 * (m : Int) by omega] at this
    exact this
  have ad : ∀ (i : Int) (d : Nat), d < 24 → i = 28 + 24 * (m : Int) + (d : Int) → ADF g g2 b A B s x y h i = bAD (b m) (A m) (B m) (s m) (x m) (y m) (h m) d := fun i d hd e => by rw [e]; exact adb m d hm hd
  refine ⟨?_, ?_, fun c h0 h1 => ?_, fun k h0 h1 => ⟨?_, h0, h1⟩, fun _ _ _ _ _ _ e => e⟩
  · rw [a0, ad _ 1 (by decide) (by omega)]
    exact r1
  · rw [a0, ad _ 2 (by decide) (by omega)]
    exact r2
  · obtain ⟨n, rfl⟩ := Int.eq_ofNat_of_zero_le h0
    obtain ⟨q1, q2, q3⟩ := bAD_s (b := b m) (A := A m) (B := B m) (s := s m) (x := x m) (y := y m) (h := h m) n (by omega)
    obtain ⟨p1, p2, p3⟩ := r3 n (by omega)
    rw [ad (28 + 24 * (m : Int) + 1) 1 (by decide) (by omega), ad (28 + 24 * (m : Int) + 3 + 3 * (n : Int)) (3 + 3 * n) (by omega) (by omega), ad (28 + 24 * (m : Int) + 4 + 3 * (n : Int)) (4 + 3 * n) (by omega) (by omega), ad (28 + 24 * (m : Int) + 5 + 3 * (n : Int)) (5 + 3 * n) (by omega) (by omega), q1, q2, q3]
    exact ⟨p1, p2, p3⟩
  · obtain ⟨n, rfl⟩ := Int.eq_ofNat_of_zero_le h0
    rw [ad (28 + 24 * (m : Int) + 2) 2 (by decide) (by omega), ad (28 + 24 * (m : Int) + 12 + (n : Int)) (12 + n) (by omega) (by omega), bAD_h]
    exact r4 n (by omega)
end Q87
