/-! STAGE 3: an object made and constructed -/
section Q75
variable {K J : Nat → Nat} {mi pc : Nat} {L : VL} {st : List Value} {sh : HS} {I : HI} {R : HR} {c : Nat × Nat} {F : VF}
theorem s_mk {t q X Y X' Y' : Nat} {G : Nat → HS → HI → HR → Prop} (h1 : cNew mi pc t X Y = true) (h2 : cA mi (pc + 3) .dup (pc + 4) = true) (h3 : cQ mi (pc + 4) q 1 (pc + 7) (X + 1) (Y + fN t) X' Y' = true) (hq : ¬ mK q = 1) (hc : c.1 ≤ X ∧ c.2 ≤ Y) (hr : ∀ y, Nat.ble (catS (.ref y :: st)) 8 = true) (he : ∀ y, Nat.ble (entA [Value.ref y]).length (mL q) = true)
    (hV : ∀ y, sh y = none → V K J q 0 (ent (mL q) [.ref y]) [] (u1 sh y (some (t, fN t))) (u1 I y (fun _ => 0)) (u1 R y (fun _ => none)) (0, 0) (fun o sh' I' R' => o = .inl none ∧ G y sh' I' R'))
    (k : ∀ y sh' I' R' c', c'.1 ≤ X' ∧ c'.2 ≤ Y' → sh y = none → G y sh' I' R' → V K J mi (pc + 7) L (.ref y :: st) sh' I' R' c' F) : V K J mi pc L st sh I R c F := by
  refine s_new h1 hc (fun y hy => ?_)
  refine s_a (ins := .dup) h2 rfl ?_
  show V K J mi (pc + 4) L ([.ref y] ++ (.ref y :: st)) _ _ _ _ F
  exact s_call (as := [.ref y]) (rest := .ref y :: st) (G := fun o sh' I' R' => o = .inl none ∧ G y sh' I' R') h3 ⟨by omega, by omega⟩ rfl (hr y) (he y) (Or.inl rfl) (fun w => absurd w hq) (fun _ => ⟨y, rfl⟩) (hV y hy) (fun sh' I' R' c' hc' g => k y sh' I' R' c' hc' hy g.2) (fun v sh' I' R' c' _ g => by exact absurd g.1 (by simp)) (fun E sh' I' R' g => by exact absurd g.1 (by simp))
end Q75
/-! the parts of a board in the order in which they are made -/
def scL (s x y : Nat → Nat) : Nat → List (Nat × Nat × Nat)
  | 0 => []
  | k + 1 => scL s x y k ++ [(s k, 5, 4), (x k, 20, 6), (y k, 20, 6)]
def sotL (h : Nat → Nat) : Nat → List (Nat × Nat × Nat)
  | 0 => []
  | k + 1 => sotL h k ++ [(h k, 7, 6)]
theorem scL_cg {s x y s' x' y' : Nat → Nat} : ∀ n, (∀ k, k < n → s' k = s k ∧ x' k = x k ∧ y' k = y k) → scL s' x' y' n = scL s x y n := by
  intro n
  induction n with
  | zero => exact fun _ => rfl
  | succ n ih =>
    intro h
    have un : ∀ s x y : Nat → Nat, scL s x y (n + 1) = scL s x y n ++ [(s n, 5, 4), (x n, 20, 6), (y n, 20, 6)] := fun _ _ _ => rfl
    obtain ⟨a, b, c⟩ := h n (by omega)
    rw [un, un, ih (fun k hk => h k (by omega)), a, b, c]
theorem sotL_cg {h h' : Nat → Nat} : ∀ n, (∀ k, k < n → h' k = h k) → sotL h' n = sotL h n := by
  intro n
  induction n with
  | zero => exact fun _ => rfl
  | succ n ih =>
    intro e
    have un : ∀ h : Nat → Nat, sotL h (n + 1) = sotL h n ++ [(h n, 7, 6)] := fun _ => rfl
    rw [un, un, ih (fun k hk => e k (by omega)), e n (by omega)]
/-- a board at l with i scenes and j shots made -/
def BQ (sh0 sh : HS) (I0 I : HI) (R0 R : HR) (l A B : Nat) (s x y h : Nat → Nat) (i j : Nat) : Prop := ALC sh0 sh I0 I R0 R l ([(A, 35, 3), (B, 37, 12)] ++ scL s x y i ++ sotL h j) ∧ (R l 5 = some A ∧ R l 6 = some B) ∧ (∀ k, k < i → R A k = some (s k) ∧ R (s k) 2 = some (x k) ∧ R (s k) 3 = some (y k)) ∧ ∀ k, k < j → R B k = some (h k)
section Q76
variable {K J : Nat → Nat} {sh sh0 : HS} {I I0 : HI} {R R0 : HR} {F : VF} {l : Nat}
theorem ALC.w {as : List (Nat × Nat × Nat)} (H : ALC sh0 sh I0 I R0 R l as) {b : Nat} (hb : sh0 b = none) (j : Nat) (v : Option Nat) : ALC sh0 sh I0 I R0 (u2 R b j v) l as :=
  ⟨fun a ha => by
    obtain ⟨e1, e2, e3⟩ := H.1 a ha
    exact ⟨e1, e2, fun al => (u2_row R j v (fun q => ha (by rw [q]; exact hb))).trans (e3 al)⟩, H.2⟩
theorem scL_mem (s x y : Nat → Nat) : ∀ n k, k < n → (s k, 5, 4) ∈ scL s x y n := by
  intro n
  induction n with
  | zero => exact fun k hk => absurd hk (Nat.not_lt_zero k)
  | succ n ih =>
    intro k hk
    show (s k, 5, 4) ∈ scL s x y n ++ [(s n, 5, 4), (x n, 20, 6), (y n, 20, 6)]
    by_cases z : k = n
    · rw [z]
      exact List.mem_append.mpr (Or.inr (List.mem_cons.mpr (Or.inl rfl)))
    · exact List.mem_append.mpr (Or.inl (ih k (by omega)))
end Q76
