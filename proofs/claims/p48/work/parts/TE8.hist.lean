/-! STAGE 3: the constructor of the history -/
def bdP (A B : Nat) (s x y h : Nat → Nat) : List (Nat × Nat × Nat) := [(A, 35, 3), (B, 37, 12)] ++ scL s x y 3 ++ sotL h 12
def bdL (b A B : Nat → Nat) (s x y h : Nat → Nat → Nat) : Nat → List (Nat × Nat × Nat)
  | 0 => []
  | n + 1 => bdL b A B s x y h n ++ (b n, 0, 7) :: bdP (A n) (B n) (s n) (x n) (y n) (h n)
/-- what a board's references are -/
def BDR (R : HR) (b A B : Nat) (s x y h : Nat → Nat) : Prop := (R b 5 = some A ∧ R b 6 = some B) ∧ (∀ k, k < 3 → R A k = some (s k) ∧ R (s k) 2 = some (x k) ∧ R (s k) 3 = some (y k)) ∧ ∀ k, k < 12 → R B k = some (h k)
def BDS (sh : HS) (b A B : Nat) (s : Nat → Nat) : Prop := sh b = some (0, 7) ∧ sh A = some (35, 3) ∧ sh B = some (37, 12) ∧ ∀ k, k < 3 → sh (s k) = some (5, 4)
def HQ (sh0 sh : HS) (I0 I : HI) (R0 R : HR) (l C : Nat) (b A B : Nat → Nat) (s x y h : Nat → Nat → Nat) (n : Nat) : Prop := ALC sh0 sh I0 I R0 R l ([(C, 30, 10)] ++ bdL b A B s x y h n) ∧ R l 0 = some C ∧ ∀ m, m < n → R C m = some (b m) ∧ BDR R (b m) (A m) (B m) (s m) (x m) (y m) (h m)
section Q79
variable {K J : Nat → Nat} {sh sh0 sh2 : HS} {I I0 I2 : HI} {R R0 R2 : HR} {F : VF} {l C : Nat} {b A B : Nat → Nat} {s x y h : Nat → Nat → Nat}
theorem BDR.cg {b A B : Nat} {s x y h : Nat → Nat} {R' : HR} (H : BDR R b A B s x y h) (e1 : R' b = R b) (e2 : R' A = R A) (e3 : R' B = R B) (e4 : ∀ k, k < 3 → R' (s k) = R (s k)) : BDR R' b A B s x y h := by
  obtain ⟨⟨h1, h2⟩, h3, h4⟩ := H
  refine ⟨⟨by rw [e1]; exact h1, by rw [e1]; exact h2⟩, fun k hk => ?_, fun k hk => by rw [e3]; exact h4 k hk⟩
  rw [e2, e4 k hk]
  exact h3 k hk
theorem bdL_mem : ∀ n m, m < n → ∀ p, p ∈ (b m, 0, 7) :: bdP (A m) (B m) (s m) (x m) (y m) (h m) → p ∈ bdL b A B s x y h n := by
  intro n
  induction n with
  | zero => exact fun m hm => absurd hm (Nat.not_lt_zero m)
  | succ n ih =>
    intro m hm p hp
    show p ∈ bdL b A B s x y h n ++ (b n, 0, 7) :: bdP (A n) (B n) (s n) (x n) (y n) (h n)
    by_cases z : m = n
    · rw [z] at hp
      exact List.mem_append.mpr (Or.inr hp)
    · exact List.mem_append.mpr (Or.inl (ih m (by omega) p hp))
theorem bdL_cg {b' A' B' : Nat → Nat} {s' x' y' h' : Nat → Nat → Nat} : ∀ n, (∀ k, k < n → (b' k = b k ∧ A' k = A k ∧ B' k = B k) ∧ s' k = s k ∧ x' k = x k ∧ y' k = y k ∧ h' k = h k) → bdL b' A' B' s' x' y' h' n = bdL b A B s x y h n := by
  intro n
  induction n with
  | zero => exact fun _ => rfl
  | succ n ih =>
    intro e
    have un : ∀ (b A B : Nat → Nat) (s x y h : Nat → Nat → Nat), bdL b A B s x y h (n + 1) = bdL b A B s x y h n ++ (b n, 0, 7) :: bdP (A n) (B n) (s n) (x n) (y n) (h n) := fun _ _ _ _ _ _ _ => rfl
    obtain ⟨⟨a1, a2, a3⟩, a4, a5, a6, a7⟩ := e n (by omega)
    rw [un, un, ih (fun k hk => e k (by omega)), a1, a2, a3, a4, a5, a6, a7]
theorem HQ.shp {n : Nat} (H : HQ sh0 sh I0 I R0 R l C b A B s x y h n) : (sh0 C = none ∧ sh C = some (30, 10)) ∧ ∀ m, m < n → BDS sh (b m) (A m) (B m) (s m) := by
  have m := H.1.2.2.1
  refine ⟨m (C, 30, 10) (List.mem_append.mpr (Or.inl (List.mem_singleton.mpr rfl))), fun k hk => ?_⟩
  have g : ∀ p, p ∈ (b k, 0, 7) :: bdP (A k) (B k) (s k) (x k) (y k) (h k) → sh p.1 = some p.2 := fun p hp => (m p (List.mem_append.mpr (Or.inr (bdL_mem n k hk p hp)))).2
  have g2 : ∀ p, p ∈ bdP (A k) (B k) (s k) (x k) (y k) (h k) → sh p.1 = some p.2 := fun p hp => g p (List.mem_cons.mpr (Or.inr hp))
  refine ⟨g (b k, 0, 7) (List.mem_cons.mpr (Or.inl rfl)), g2 (A k, 35, 3) ?_, g2 (B k, 37, 12) ?_, fun t ht => g2 (s k t, 5, 4) ?_⟩
  · exact List.mem_append.mpr (Or.inl (List.mem_append.mpr (Or.inl (List.mem_cons.mpr (Or.inl rfl)))))
  · exact List.mem_append.mpr (Or.inl (List.mem_append.mpr (Or.inl (List.mem_cons.mpr (Or.inr (List.mem_singleton.mpr rfl))))))
  · exact List.mem_append.mpr (Or.inl (List.mem_append.mpr (Or.inr (scL_mem (s k) (x k) (y k) 3 t ht))))
end Q79
