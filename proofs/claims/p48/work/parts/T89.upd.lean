/-! STAGE 2: one number of the board changed; how actions end -/
def up1 (ρ : RHO) (j x : Int) : RHO := fun i => if i = j then x else ρ i
theorem up1_ne {ρ : RHO} {j x i : Int} (h : ¬ i = j) : up1 ρ j x i = ρ i := if_neg h
theorem up1_eq {ρ : RHO} {j x : Int} : up1 ρ j x j = x := if_pos rfl
theorem VB.upd {ρ ρ' : RHO} (V : VB ρ) (h3 : ρ' 3 = ρ 3) (h4 : ρ' 4 = ρ 4) (hl : (0 ≤ ρ' 0 ∧ ρ' 0 ≤ 99) ∧ (0 ≤ ρ' 1 ∧ ρ' 1 ≤ 2000) ∧ (0 ≤ ρ' 2 ∧ ρ' 2 ≤ 2000)) (hc : ∀ c, 0 ≤ c → c < 3 → csS ρ' c = csS ρ c) (hlt : ∀ c, 0 ≤ c → c < ρ 3 → 0 ≤ ltS ρ' c ∧ ltS ρ' c ≤ 3)
    (hxy : ∀ c a, 0 ≤ c → c < ρ 3 → 0 ≤ a → a < 6 → inS ρ c a = true → (0 ≤ axS ρ' c a ∧ axS ρ' c a ≤ 199) ∧ (0 ≤ ayS ρ' c a ∧ ayS ρ' c a ≤ 199))
    (hs : ∀ s, 0 ≤ s → s < ρ 4 → scS ρ' s = scS ρ s ∧ (0 ≤ cxS ρ' s ∧ cxS ρ' s ≤ 199) ∧ (0 ≤ cyS ρ' s ∧ cyS ρ' s ≤ 199) ∧ (0 ≤ suS ρ' s ∧ suS ρ' s < 6) ∧ inS ρ (scS ρ s) (suS ρ' s) = true ∧ (paS ρ' s = -1 ∨ ((0 ≤ paS ρ' s ∧ paS ρ' s < 6) ∧ inS ρ (scS ρ s) (paS ρ' s) = true ∧ ¬ paS ρ' s = suS ρ' s)) ∧ (1 ≤ lnS ρ' s ∧ lnS ρ' s ≤ 99) ∧ ¬ (axS ρ' (scS ρ s) (suS ρ' s) = cxS ρ' s ∧ ayS ρ' (scS ρ s) (suS ρ' s) = cyS ρ' s)) : VB ρ' := by
  have hm := V.m
  have hn := V.n
  have hi : ∀ c a, 0 ≤ c → c < 3 → inS ρ' c a = inS ρ c a := fun c a g0 g1 => by unfold inS; rw [hc c g0 g1]
  refine ⟨hl.1, hl.2.1, hl.2.2, by rw [h3]; exact hm, by rw [h4]; exact hn, fun c g0 g1 => ?_, fun s g0 g1 => ?_, fun s t g0 g1 g2 => ?_⟩
  · rw [h3] at g1
    have q := V.scene g0 g1
    refine ⟨hlt c g0 g1, by rw [hc c g0 (by omega)]; exact q.2.1, fun a a0 a1 a2 => ?_⟩
    rw [hi c a g0 (by omega)] at a2
    exact hxy c a g0 g1 a0 a1 a2
  · rw [h4] at g1
    obtain ⟨q1, -⟩ := V.shot g0 g1
    obtain ⟨e1, e2, e3, e4, e5, e6, e7, e8⟩ := hs s g0 g1
    unfold sxS syS
    rw [e1, h3, hi _ _ q1.1 (by omega), hi _ _ q1.1 (by omega)]
    exact ⟨q1, e2, e3, e4, e5, e6, e7, e8⟩
  · rw [h4] at g2
    rw [(hs s g0 (by omega)).1, (hs t (by omega) g2).1]
    exact V.2.2.2.2.2.2.2 s t g0 g1 g2
section Q24
variable {fu : Nat} {sh : HS} {I I' J : HI} {R : HR} {AD : Int → Nat} {P : Int → Int → Int} {σ σ' : STT} {ρ : RHO} {p : Int → Int} {a : Int ⊕ Nat}
theorem BVL.w1 (S : OKS sh AD) (L : BVL I AD 28 p ρ) (hm : ρ 3 ≤ 3) (hn : ρ 4 ≤ 12) (hp : ∀ s, 0 ≤ s → s < 12 → 0 ≤ p s ∧ p s < 12) {i : Int} (i0 : 0 ≤ i) (i1 : i < 331) {k : Nat} {j : Int} (x : Int) (h3 : ¬ j = 3) (h4 : ¬ j = 4) (hc : ∀ c, 0 ≤ c → c < 3 → ¬ j = 5 + 14 * c + 1)
    (e0 : ∀ q : Nat, q < 5 → ((28 = i ∧ q = k) ↔ (q : Int) = j)) (e1 : ∀ c : Int, 0 ≤ c → c < 3 → ((28 + 3 + 3 * c = i ∧ 0 = k) ↔ 5 + 14 * c = j)) (e2 : ∀ c : Int, 0 ≤ c → c < 3 → ((28 + 3 + 3 * c = i ∧ 1 = k) ↔ 5 + 14 * c + 1 = j))
    (e3 : ∀ c a : Int, 0 ≤ c → c < 3 → 0 ≤ a → a < 6 → ((28 + 4 + 3 * c = i ∧ a.toNat = k) ↔ 5 + 14 * c + 2 + a = j)) (e4 : ∀ c a : Int, 0 ≤ c → c < 3 → 0 ≤ a → a < 6 → ((28 + 5 + 3 * c = i ∧ a.toNat = k) ↔ 5 + 14 * c + 8 + a = j))
    (e5 : ∀ s : Int, 0 ≤ s → s < 12 → ∀ q : Nat, q < 6 → ((28 + 12 + p s = i ∧ q = k) ↔ 47 + 6 * s + (q : Int) = j)) : BVL (u2 I (AD i) k (iz x)) AD 28 p (up1 ρ j x) := by
  have key : ∀ (i' : Int) (k' : Nat) (j' : Int), 0 ≤ i' → i' < 331 → ((i' = i ∧ k' = k) ↔ j' = j) → I (AD i') k' = iz (ρ j') → u2 I (AD i) k (iz x) (AD i') k' = iz (up1 ρ j x j') := by
    intro i' k' j' g0 g1 e h
    rw [u2_ad S i0 i1 g0 g1]
    unfold up1
    by_cases z : j' = j
    · rw [if_pos (e.mpr z), if_pos z]
    · rw [if_neg (fun w => z (e.mp w)), if_neg z]
      exact h
  obtain ⟨⟨b0, b1, b2, b3, b4⟩, b5, b6⟩ := L
  refine ⟨⟨key 28 0 0 (by decide) (by decide) (e0 0 (by decide)) b0, key 28 1 1 (by decide) (by decide) (e0 1 (by decide)) b1, key 28 2 2 (by decide) (by decide) (e0 2 (by decide)) b2, key 28 3 3 (by decide) (by decide) (e0 3 (by decide)) b3, key 28 4 4 (by decide) (by decide) (e0 4 (by decide)) b4⟩, fun c g0 g1 => ?_, fun s g0 g1 => ?_⟩
  · rw [up1_ne (by omega)] at g1
    have c3 : c < 3 := by omega
    obtain ⟨⟨d0, d1⟩, d2⟩ := b5 c g0 g1
    refine ⟨⟨key _ _ _ (by omega) (by omega) (e1 c g0 c3) d0, key _ _ _ (by omega) (by omega) (e2 c g0 c3) d1⟩, fun a a0 a1 a2 => ?_⟩
    have a3 : inS ρ c a = true := by
      unfold inS csS at a2
      rw [up1_ne (fun z => hc c g0 c3 z.symm)] at a2
      exact a2
    obtain ⟨f0, f1⟩ := d2 a a0 a1 a3
    exact ⟨key _ _ _ (by omega) (by omega) (e3 c a g0 c3 a0 a1) f0, key _ _ _ (by omega) (by omega) (e4 c a g0 c3 a0 a1) f1⟩
  · rw [up1_ne (by omega)] at g1
    have s12 : s < 12 := by omega
    have ps := hp s g0 s12
    obtain ⟨d0, d1, d2, d3, d4, d5⟩ := b6 s g0 g1
    have e := e5 s g0 s12
    exact ⟨key _ _ _ (by omega) (by omega) (e 0 (by decide)) d0, key _ _ _ (by omega) (by omega) (e 1 (by decide)) d1, key _ _ _ (by omega) (by omega) (e 2 (by decide)) d2, key _ _ _ (by omega) (by omega) (e 3 (by decide)) d3, key _ _ _ (by omega) (by omega) (e 4 (by decide)) d4, key _ _ _ (by omega) (by omega) (e 5 (by decide)) d5⟩
theorem RW.w1 (S : OKS sh AD) (H : RW I AD ρ) {j : Int} (h0 : 0 ≤ j) (x : Int) : RW (u2 I (AD 317) j.toNat (iz x)) AD (up1 ρ j x) := by
  intro i g0 g1
  rw [u2_ad S (by decide) (by decide) (by decide) (by decide)]
  unfold up1
  by_cases z : i = j
  · rw [if_pos ⟨rfl, by rw [z]⟩, if_pos z]
  · rw [if_neg (by omega), if_neg z]
    exact H i g0 g1
/-- the class has changed the board behind its beginning -/
theorem c_done (V : VST σ) (h : σ.1 = true) (C : CIB J R AD P (pushS σ)) (z9 : J (AD 0) 9 = iz 0) (z11 : J (AD 0) 11 = iz 0) (F : FR AD J I' (fun i _ => 28 ≤ i ∧ i < 52)) (L : BVL I' AD 28 (P 0) ρ) : CIB I' R AD P (rowS (pushS σ) ρ) ∧ CKN I' AD (rowS (pushS σ) ρ) := by
  have V2 : VST (pushS σ) := V.act h (V.1 h)
  exact ⟨C.row V2 (F.wd fun i k z => Or.inl z) (fun _ => L), CKN.z ((F 0 (by decide) (by decide) 9 (by omega)).trans z9) ((F 0 (by decide) (by decide) 11 (by omega)).trans z11)⟩
end Q24
