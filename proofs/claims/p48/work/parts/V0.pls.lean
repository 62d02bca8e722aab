/-! THE LAW, STAGE 2: a planner, told apart from all other cells -/
def AGR6 (AD AD' : Int → Nat) : Prop := ∀ i, 0 ≤ i → i < 316 → AD' i = AD i
def INJ (AD : Int → Nat) : Prop := ∀ i j, 0 ≤ i → i < 331 → 0 ≤ j → j < 331 → AD i = AD j → i = j
def SHP (sh : HS) (AD : Int → Nat) : Prop := ∀ i, 0 ≤ i → i < 316 → sh (AD i) = some (kd i)
def PLS (sh : HS) (I : HI) (R : HR) (σ : STT) (AD : Int → Nat) : Prop := SHP sh AD ∧ INJ AD ∧ VST σ ∧ ∀ AD', AGR6 AD AD' → INJ AD' → ∃ P, CIB I R AD' P σ ∧ CKN I AD' σ
def FGN (AD : Int → Nat) (b : Nat) : Prop := ∀ i, 0 ≤ i → i < 316 → ¬ b = AD i
theorem AGR6.rf (AD : Int → Nat) : AGR6 AD AD := fun _ _ _ => rfl
theorem SHP.ok {sh : HS} {AD AD' : Int → Nat} (h : SHP sh AD) (g : AGR6 AD AD') (j : INJ AD') : OKS sh AD' := ⟨fun i h0 h1 => by rw [g i h0 h1]; exact h i h0 h1, j⟩
theorem bnd6 (AD : Int → Nat) : ∀ n : Nat, ∃ M, ∀ i : Nat, i < n → AD (i : Int) < M
  | 0 => ⟨0, fun i h => absurd h (Nat.not_lt_zero i)⟩
  | n + 1 => by
    obtain ⟨M, h⟩ := bnd6 AD n
    refine ⟨M + AD (n : Int) + 1, fun i hi => ?_⟩
    by_cases e : i = n
    · subst e; omega
    · have := h i (by omega)
      omega
theorem alt6 {AD : Int → Nat} (j : INJ AD) {b : Nat} (hb : FGN AD b) : ∃ AD', AGR6 AD AD' ∧ INJ AD' ∧ AD' 316 = b := by
  obtain ⟨M, hM⟩ := bnd6 AD 316
  have hM2 : ∀ i : Int, 0 ≤ i → i < 316 → AD i < M := by
    intro i h0 h1
    have := hM i.toNat (by omega)
    rwa [show ((i.toNat : Nat) : Int) = i by omega] at this
  have key : ∀ i : Int, (fun i : Int => if i < 316 then AD i else if i = 316 then b else M + b + 1 + i.toNat) i = if i < 316 then AD i else if i = 316 then b else M + b + 1 + i.toNat := fun _ => rfl
  refine ⟨fun i => if i < 316 then AD i else if i = 316 then b else M + b + 1 + i.toNat, fun i h0 h1 => if_pos h1, fun i k i0 i1 k0 k1 e => ?_, ?_⟩
  · dsimp only at e
    by_cases a : i < 316
    · rw [if_pos a] at e
      have m1 := hM2 i i0 a
      by_cases c : k < 316
      · rw [if_pos c] at e
        exact j i k i0 i1 k0 k1 e
      · rw [if_neg c] at e
        by_cases d : k = 316
        · rw [if_pos d] at e
          exact absurd e.symm (hb i i0 a)
        · rw [if_neg d] at e
          omega
    · rw [if_neg a] at e
      by_cases c : k < 316
      · rw [if_pos c] at e
        have m1 := hM2 k k0 c
        by_cases d : i = 316
        · rw [if_pos d] at e
          exact absurd e (hb k k0 c)
        · rw [if_neg d] at e
          omega
      · rw [if_neg c] at e
        by_cases d : i = 316
        · rw [if_pos d] at e
          by_cases d2 : k = 316
          · omega
          · rw [if_neg d2] at e
            omega
        · rw [if_neg d] at e
          by_cases d2 : k = 316
          · rw [if_pos d2] at e
            omega
          · rw [if_neg d2] at e
            omega
  · dsimp only
    rw [if_neg (by decide), if_pos rfl]
section PLX
variable {sh sh' : HS} {I I' : HI} {R R' : HR} {σ σ' : STT} {AD : Int → Nat} {P : Int → Int → Int}
theorem PLS.V (S : PLS sh I R σ AD) : VST σ := S.2.2.1
/-- an action that writes ints alone -/
theorem PLS.act {f : HI → Option ((Int32 ⊕ String) × HI)} {a : Int ⊕ Nat} (S : PLS sh I R σ AD) (V' : VST σ') (H : ∀ AD' P, AGR6 AD AD' → OKS sh AD' → CA AD' R P σ σ' f a) : ∃ I', f I = some (cOut a, I') ∧ PLS sh I' R σ' AD ∧ ∀ b, FGN AD b → I' b = I b := by
  obtain ⟨s1, s2, s3, s4⟩ := S
  obtain ⟨P, C, Kn⟩ := s4 AD (AGR6.rf AD) s2
  obtain ⟨I0, e0, -, -, -⟩ := H AD P (AGR6.rf AD) (s1.ok (AGR6.rf AD) s2) I C Kn
  have key : ∀ AD', AGR6 AD AD' → INJ AD' → ∃ P, CIB I0 R AD' P σ' ∧ CKN I0 AD' σ' ∧ FR AD' I I0 (fun i _ => i < 316) := by
    intro AD' g j
    obtain ⟨P', C', K'⟩ := s4 AD' g j
    obtain ⟨I1, e1, c1, c2, c3⟩ := H AD' P' g (s1.ok g j) I C' K'
    have e2 := e0.symm.trans e1
    have e3 : I0 = I1 := (Prod.mk.inj (Option.some.inj e2)).2
    subst e3
    exact ⟨P', c1, c2, c3⟩
  refine ⟨I0, e0, ⟨s1, s2, V', fun AD' g j => ?_⟩, fun b hb => ?_⟩
  · obtain ⟨P', c1, c2, -⟩ := key AD' g j
    exact ⟨P', c1, c2⟩
  · obtain ⟨AD', g, j, e⟩ := alt6 s2 hb
    obtain ⟨P', -, -, c3⟩ := key AD' g j
    funext k
    have := c3 316 (by decide) (by decide) k (show ¬ (316 : Int) < 316 by decide)
    rwa [e] at this
/-- an action that writes references too -/
theorem PLS.actR {f : HI → Option ((Int32 ⊕ String) × (HI × HR))} {a : Int ⊕ Nat} (S : PLS sh I R σ AD) (V' : VST σ') (H : ∀ AD' P, AGR6 AD AD' → OKS sh AD' → CXR AD' R P σ σ' f a) : ∃ I' R', f I = some (cOut a, (I', R')) ∧ PLS sh I' R' σ' AD ∧ ∀ b, FGN AD b → I' b = I b ∧ R' b = R b := by
  obtain ⟨s1, s2, s3, s4⟩ := S
  obtain ⟨P, C, Kn⟩ := s4 AD (AGR6.rf AD) s2
  obtain ⟨I0, R0, P0, e0, -, -, -, -⟩ := H AD P (AGR6.rf AD) (s1.ok (AGR6.rf AD) s2) I C Kn
  have key : ∀ AD', AGR6 AD AD' → INJ AD' → ∃ P, CIB I0 R0 AD' P σ' ∧ CKN I0 AD' σ' ∧ FR AD' I I0 (fun i _ => i < 316) ∧ RFR AD' R R0 := by
    intro AD' g j
    obtain ⟨P', C', K'⟩ := s4 AD' g j
    obtain ⟨I1, R1, P1, e1, c1, c2, c3, c4⟩ := H AD' P' g (s1.ok g j) I C' K'
    have e2 := (Prod.mk.inj (Option.some.inj (e0.symm.trans e1))).2
    have e3 : I0 = I1 := (Prod.mk.inj e2).1
    have e4 : R0 = R1 := (Prod.mk.inj e2).2
    subst e3
    subst e4
    exact ⟨P1, c1, c2, c3, c4⟩
  refine ⟨I0, R0, e0, ⟨s1, s2, V', fun AD' g j => ?_⟩, fun b hb => ?_⟩
  · obtain ⟨P', c1, c2, -, -⟩ := key AD' g j
    exact ⟨P', c1, c2⟩
  · obtain ⟨AD', g, j, e⟩ := alt6 s2 hb
    obtain ⟨P', -, -, c3, c4⟩ := key AD' g j
    refine ⟨?_, ?_⟩
    · funext k
      have := c3 316 (by decide) (by decide) k (show ¬ (316 : Int) < 316 by decide)
      rwa [e] at this
    · funext k
      have := c4 316 (by decide) (by decide) (by decide) k
      rwa [e] at this
/-- a question that writes nothing -/
theorem PLS.ask {f : HI → Option (Int32 ⊕ String)} {a : Int ⊕ Nat} (S : PLS sh I R σ AD) (H : ∀ P, OKS sh AD → CP AD R P σ f a) : f I = some (cOut a) := by
  obtain ⟨s1, s2, s3, s4⟩ := S
  obtain ⟨P, C, Kn⟩ := s4 AD (AGR6.rf AD) s2
  exact H P (s1.ok (AGR6.rf AD) s2) I C
theorem PLS.que {f : HI → Option ((Int32 ⊕ String) × HI)} {a : Int ⊕ Nat} (S : PLS sh I R σ AD) (H : ∀ AD' P, AGR6 AD AD' → OKS sh AD' → CQ sh AD' R P σ f a) : ∃ I', f I = some (cOut a, I') ∧ PLS sh I' R σ AD ∧ ∀ b, FGN AD b → I' b = I b := S.act S.V H
theorem CRF.cg (h : ∀ i, 0 ≤ i → i < 316 → ∀ k, R' (AD i) k = R (AD i) k) (C : CRF R AD P) : CRF R' AD P := by
  have n : ∀ i : Int, 0 ≤ i → i < 316 → R' (AD i) = R (AD i) := fun i h0 h1 => funext (h i h0 h1)
  obtain ⟨c1, c2, c3, c4, c5, c6, c7, c8⟩ := C
  unfold PLR at c1
  unfold TR at c2
  unfold ROR at c3 c4
  refine ⟨?_, ?_, ?_, ?_, ?_, ?_, fun k hk => ?_, fun b h0 h1 => ?_⟩
  · unfold PLR; rw [n 0 (by decide) (by decide)]; exact c1
  · unfold TR; rw [n 6 (by decide) (by decide)]; exact c2
  · unfold ROR; rw [n 16 (by decide) (by decide)]; exact c3
  · unfold ROR; rw [n 21 (by decide) (by decide)]; exact c4
  · rw [n 4 (by decide) (by decide)]; exact c5
  · rw [n 26 (by decide) (by decide)]; exact c6
  · rw [n 5 (by decide) (by decide)]; exact c7 k hk
  · obtain ⟨d1, d2, d3, d4⟩ := c8 b h0 h1
    refine ⟨by rw [n _ (by omega) (by omega)]; exact d1, by rw [n _ (by omega) (by omega)]; exact d2, fun c g0 g1 => ?_, fun s g0 g1 => ?_, d4.2⟩
    · rw [n _ (by omega) (by omega), n (28 + 24 * b + 3 + 3 * c) (by omega) (by omega)]
      exact d3 c g0 g1
    · rw [n _ (by omega) (by omega)]
      exact d4.1 s g0 g1
/-- other cells are written -/
theorem PLS.fr (S : PLS sh I R σ AD) (h : ∀ i, 0 ≤ i → i < 316 → sh' (AD i) = sh (AD i) ∧ I' (AD i) = I (AD i) ∧ R' (AD i) = R (AD i)) : PLS sh' I' R' σ AD := by
  obtain ⟨s1, s2, s3, s4⟩ := S
  refine ⟨fun i h0 h1 => (h i h0 h1).1.trans (s1 i h0 h1), s2, s3, fun AD' g j => ?_⟩
  obtain ⟨P, C, Kn⟩ := s4 AD' g j
  have e : ∀ i, 0 ≤ i → i < 316 → ∀ k, I' (AD' i) k = I (AD' i) k := fun i h0 h1 k => by rw [g i h0 h1, (h i h0 h1).2.1]
  have F : FR AD' I I' (fun i _ => 316 ≤ i) := fun i h0 h1 k hk => e i h0 (by omega) k
  have C2 := C.fr s3 (fun i h0 h1 k hk => e i h0 (by unfold SCR at hk; omega) k)
  refine ⟨P, ⟨CRF.cg (fun i h0 h1 k => by rw [g i h0 h1, (h i h0 h1).2.2]) C2.1, C2.2⟩, Kn.fr F (fun i k hi => by omega)⟩
theorem PLS.wI (S : PLS sh I R σ AD) {b : Nat} (hb : FGN AD b) (k : Nat) (x : Int32) : PLS sh (u2 I b k x) R σ AD := S.fr (fun i h0 h1 => ⟨rfl, funext (fun j => u2_off (fun e => hb i h0 h1 e.symm) j), rfl⟩)
theorem PLS.wR (S : PLS sh I R σ AD) {b : Nat} (hb : FGN AD b) (k : Nat) (x : Option Nat) : PLS sh I (u2 R b k x) σ AD := S.fr (fun i h0 h1 => ⟨rfl, rfl, funext (fun j => u2_off (fun e => hb i h0 h1 e.symm) j)⟩)
end PLX
