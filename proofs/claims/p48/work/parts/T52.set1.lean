/-! STAGE 2: setups, as mathematics; the reference lays them -/
theorem oA_nat {sh : HS} {I : HI} {a m j : Nat} (h : sh a = some (20, m)) (h1 : j < m) (h2 : m ≤ 100000) : oA sh I a (iz (j : Int)) = some (I a j) := by
  rw [oA_iz h (by omega) (by omega) (by omega), Int.toNat_natCast]
theorem oS_nat {sh : HS} {I : HI} {a m j : Nat} {x : Int32} (h : sh a = some (20, m)) (h1 : j < m) (h2 : m ≤ 100000) : oS sh I a (iz (j : Int)) x = some (u2 I a j x) := by
  rw [oS_iz h (by omega) (by omega) (by omega), Int.toNat_natCast]
/-- the first n elements of the array i -/
def AR (I : HI) (AD : Int → Nat) (i : Int) (n : Nat) (f : Nat → Int) : Prop := ∀ j : Nat, j < n → I (AD i) j = iz (f j)
def up {α : Type} (f : Nat → α) (j : Nat) (x : α) : Nat → α := fun t => if t = j then x else f t
theorem AR.put {sh : HS} {I : HI} {AD : Int → Nat} (S : OKS sh AD) {i : Int} (h0 : 0 ≤ i) (h1 : i < 331) {n n' j : Nat} {f : Nat → Int} (A : AR I AD i n f) (x : Int) (hn : ∀ t, t < n' → ¬ t = j → t < n) : AR (u2 I (AD i) j (iz x)) AD i n' (up f j x) := by
  intro t ht
  rw [u2_ad S h0 h1 h0 h1]
  unfold up
  by_cases k : t = j
  · rw [if_pos ⟨rfl, k⟩, if_pos k]
  · rw [if_neg (fun z => k z.2), if_neg k]
    exact A t (hn t ht k)
theorem AR.off {sh : HS} {I : HI} {AD : Int → Nat} (S : OKS sh AD) {i i' : Int} (h0 : 0 ≤ i) (h1 : i < 331) (h2 : 0 ≤ i') (h3 : i' < 331) {n : Nat} {f : Nat → Int} (A : AR I AD i n f) (hne : ¬ i = i') (k : Nat) (x : Int32) : AR (u2 I (AD i') k x) AD i n f := by
  intro t ht
  rw [u2_ne S h2 h3 h0 h1 hne]
  exact A t ht
/-- nothing but W is written -/
def FR (AD : Int → Nat) (I I' : HI) (W : Int → Nat → Prop) : Prop := ∀ i, 0 ≤ i → i < 331 → ∀ k, ¬ W i k → I' (AD i) k = I (AD i) k
theorem FR.rf (AD : Int → Nat) (I : HI) (W : Int → Nat → Prop) : FR AD I I W := fun _ _ _ _ _ => rfl
theorem FR.tr {AD : Int → Nat} {I I1 I2 : HI} {W : Int → Nat → Prop} (a : FR AD I I1 W) (b : FR AD I1 I2 W) : FR AD I I2 W := fun i h0 h1 k h => (b i h0 h1 k h).trans (a i h0 h1 k h)
theorem FR.wd {AD : Int → Nat} {I I1 : HI} {W W' : Int → Nat → Prop} (a : FR AD I I1 W) (h : ∀ i k, W i k → W' i k) : FR AD I I1 W' := fun i h0 h1 k hk => a i h0 h1 k (fun z => hk (h i k z))
theorem FR.u2 {sh : HS} {AD : Int → Nat} (S : OKS sh AD) {I I1 : HI} {W : Int → Nat → Prop} {i : Int} (h0 : 0 ≤ i) (h1 : i < 331) {k : Nat} {x : Int32} (hw : W i k) (a : FR AD I I1 W) : FR AD I (_root_.Jvm.Pilot.@@N@@.u2 I1 (AD i) k x) W := by
  intro j g0 g1 t ht
  rw [u2_ad S h0 h1 g0 g1, if_neg (fun z => ht (by rw [z.1, z.2]; exact hw))]
  exact a j g0 g1 t ht
theorem RW.fr {AD : Int → Nat} {I I' : HI} {W : Int → Nat → Prop} {ρ : RHO} (H : RW I AD ρ) (a : FR AD I I' W) (h : ∀ k, ¬ W 317 k) : RW I' AD ρ := fun j h0 h1 => (a 317 (by decide) (by decide) _ (h _)).trans (H j h0 h1)
theorem AR.fr {AD : Int → Nat} {I I' : HI} {W : Int → Nat → Prop} {i : Int} {n : Nat} {f : Nat → Int} (H : AR I AD i n f) (a : FR AD I I' W) (h0 : 0 ≤ i) (h1 : i < 331) (h : ∀ k, ¬ W i k) : AR I' AD i n f := fun j hj => (a i h0 h1 _ (h _)).trans (H j hj)
/-- the first of a .. a + d - 1 that a test takes, a + d where there is none -/
def fsN (P : Nat → Bool) : Nat → Nat → Nat
  | a, 0 => a
  | a, d + 1 => if P a = true then a else fsN P (a + 1) d
theorem fsN_range (P : Nat → Bool) : ∀ d a, a ≤ fsN P a d ∧ fsN P a d ≤ a + d
  | 0, a => by unfold fsN; omega
  | d + 1, a => by
    have := fsN_range P d (a + 1)
    unfold fsN
    split <;> omega
/-- the setups of the first s shots: how many, the first shot of each, the setup of each shot -/
def grp (ρ : RHO) (r : Int) : Nat → Nat × (Nat → Nat) × (Nat → Nat)
  | 0 => (0, fun _ => 0, fun _ => 0)
  | s + 1 =>
    (if fsN (fun k => nearS ρ s ((grp ρ r s).2.1 k) r) 0 (grp ρ r s).1 = (grp ρ r s).1 then (grp ρ r s).1 + 1 else (grp ρ r s).1,
     if fsN (fun k => nearS ρ s ((grp ρ r s).2.1 k) r) 0 (grp ρ r s).1 = (grp ρ r s).1 then up (grp ρ r s).2.1 (grp ρ r s).1 s else (grp ρ r s).2.1,
     up (grp ρ r s).2.2 s (fsN (fun k => nearS ρ s ((grp ρ r s).2.1 k) r) 0 (grp ρ r s).1))
def mG_ (ρ : RHO) (r : Int) (s : Nat) : Nat := (grp ρ r s).1
def fG (ρ : RHO) (r : Int) (s k : Nat) : Nat := (grp ρ r s).2.1 k
def hG (ρ : RHO) (r : Int) (s t : Nat) : Nat := (grp ρ r s).2.2 t
/-- the setup that the shot s joins -/
def jG (ρ : RHO) (r : Int) (s : Nat) : Nat := fsN (fun k => nearS ρ s (fG ρ r s k) r) 0 (mG_ ρ r s)
theorem mG_s (ρ : RHO) (r : Int) (s : Nat) : mG_ ρ r (s + 1) = if jG ρ r s = mG_ ρ r s then mG_ ρ r s + 1 else mG_ ρ r s := rfl
theorem fG_s (ρ : RHO) (r : Int) (s k : Nat) : fG ρ r (s + 1) k = if jG ρ r s = mG_ ρ r s then up (fG ρ r s) (mG_ ρ r s) s k else fG ρ r s k := by
  unfold fG jG mG_
  show (grp ρ r (s + 1)).2.1 k = _
  simp only [grp]
  unfold fG
  split <;> rfl
theorem hG_s (ρ : RHO) (r : Int) (s t : Nat) : hG ρ r (s + 1) t = up (hG ρ r s) s (jG ρ r s) t := rfl
theorem jG_le (ρ : RHO) (r : Int) (s : Nat) : jG ρ r s ≤ mG_ ρ r s := by
  have := (fsN_range (fun k => nearS ρ s (fG ρ r s k) r) (mG_ ρ r s) 0).2
  unfold jG
  omega
theorem mG_le (ρ : RHO) (r : Int) : ∀ s, mG_ ρ r s ≤ s
  | 0 => Nat.le_refl 0
  | s + 1 => by
    have := mG_le ρ r s
    rw [mG_s]
    split <;> omega
theorem fG_lt (ρ : RHO) (r : Int) : ∀ s k, k < mG_ ρ r s → fG ρ r s k < s
  | 0, k, h => by have : mG_ ρ r 0 = 0 := rfl; omega
  | s + 1, k, h => by
    rw [fG_s]
    rw [mG_s] at h
    split
    · rename_i e
      rw [if_pos e] at h
      unfold up
      split
      · omega
      · have := fG_lt ρ r s k (by omega)
        omega
    · rename_i e
      rw [if_neg e] at h
      have := fG_lt ρ r s k h
      omega
theorem hG_lt (ρ : RHO) (r : Int) : ∀ s t, t < s → hG ρ r s t < mG_ ρ r s
  | 0, t, h => by omega
  | s + 1, t, h => by
    have j := jG_le ρ r s
    rw [hG_s, mG_s]
    unfold up
    by_cases k : t = s
    · rw [if_pos k]
      split <;> omega
    · rw [if_neg k]
      have := hG_lt ρ r s t (by omega)
      split <;> omega
/-- the shots, below s, of the setup k -/
def qG (ρ : RHO) (r : Int) (s k : Nat) : Nat := mkS (fun t => decide (hG ρ r s t = k)) s
theorem mkS_lt (P : Nat → Bool) : ∀ n, mkS P n < 2 ^ n
  | 0 => by show 0 < 1; decide
  | n + 1 => by
    have h := mkS_lt P n
    have e : 2 ^ n < 2 ^ (n + 1) := Nat.pow_lt_pow_right (by decide) (by omega)
    show mkS P n ||| _ < _
    refine Nat.or_lt_two_pow (by omega) ?_
    split
    · exact e
    · exact Nat.two_pow_pos _
