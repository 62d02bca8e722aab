/-! STAGE 2: shift and drop of the class -/
def pmP (P : Int → Int → Int) (p' : Int → Int) : Int → Int → Int := fun b => if b = 0 then p' else P b
def dpK (ρ : RHO) (s k : Int) : RHO := fun j => if j = 4 then ρ 4 - 1 else if 47 + 6 * s ≤ j ∧ j < k then ρ (j + 6) else ρ j
def dpS (ρ : RHO) (s : Int) : RHO := dpK ρ s (47 + 6 * (ρ 4 - 1))
theorem dp_4 {ρ : RHO} {s : Int} : dpS ρ s 4 = ρ 4 - 1 := by unfold dpS dpK; rw [if_pos rfl]
theorem dp_low {ρ : RHO} {s j : Int} (h : ¬ j = 4) (s0 : 0 ≤ s) (h2 : j < 47) : dpS ρ s j = ρ j := by unfold dpS dpK; rw [if_neg h, if_neg (by omega)]
theorem dp_g {ρ : RHO} {s t k : Int} (s0 : 0 ≤ s) (s1 : s < ρ 4) (t0 : 0 ≤ t) (t1 : t < ρ 4 - 1) (k0 : 0 ≤ k) (k1 : k < 6) : gS (dpS ρ s) t k = gS ρ (mvP s (ρ 4 - 1) t) k := by
  unfold gS dpS dpK mvP
  rw [if_neg (by omega), if_neg (show ¬ t = ρ 4 - 1 by omega)]
  by_cases z : s ≤ t
  · rw [if_pos (by omega), if_pos (by omega)]
    congr 1
    omega
  · rw [if_neg (by omega), if_neg (by omega), if_neg (by omega)]
theorem dp_V {ρ : RHO} (V : VB ρ) {s : Int} (s0 : 0 ≤ s) (s1 : s < ρ 4) : VB (dpS ρ s) := by
  have hm := V.m
  have hn := V.n
  have g : ∀ t, 0 ≤ t → t < ρ 4 - 1 → ∀ k, 0 ≤ k → k < 6 → gS (dpS ρ s) t k = gS ρ (mvP s (ρ 4 - 1) t) k := fun t t0 t1 k k0 k1 => dp_g s0 s1 t0 t1 k0 k1
  have lo : ∀ j, ¬ j = 4 → j < 47 → dpS ρ s j = ρ j := fun j h h2 => dp_low h s0 h2
  have qr : ∀ t, 0 ≤ t → t < ρ 4 - 1 → 0 ≤ mvP s (ρ 4 - 1) t ∧ mvP s (ρ 4 - 1) t < ρ 4 := fun t t0 t1 => mvP_r s0 s1 (by omega) (by omega) t0 (by omega)
  refine ⟨by rw [lo 0 (by decide) (by decide)]; exact V.1, by rw [lo 1 (by decide) (by decide)]; exact V.2.1, by rw [lo 2 (by decide) (by decide)]; exact V.2.2.1, by rw [lo 3 (by decide) (by decide)]; exact hm, by rw [dp_4]; omega, ?_, ?_, ?_⟩
  · intro c g0 g1
    rw [lo 3 (by decide) (by decide)] at g1
    have e1 : ltS (dpS ρ s) c = ltS ρ c := lo _ (by omega) (by omega)
    have e2 : csS (dpS ρ s) c = csS ρ c := lo _ (by omega) (by omega)
    rw [e1, e2]
    refine ⟨(V.scene g0 g1).1, (V.scene g0 g1).2.1, fun b b0 b1 b2 => ?_⟩
    unfold inS at b2
    rw [e2] at b2
    have e3 : axS (dpS ρ s) c b = axS ρ c b := lo _ (by omega) (by omega)
    have e4 : ayS (dpS ρ s) c b = ayS ρ c b := lo _ (by omega) (by omega)
    rw [e3, e4]
    exact (V.scene g0 g1).2.2 b b0 b1 b2
  · intro t t0 t1
    rw [dp_4] at t1
    have r := qr t t0 t1
    have q := V.shot r.1 r.2
    have e0 : scS (dpS ρ s) t = scS ρ (mvP s (ρ 4 - 1) t) := g t t0 t1 0 (by decide) (by decide)
    have e1 : cxS (dpS ρ s) t = cxS ρ (mvP s (ρ 4 - 1) t) := g t t0 t1 1 (by decide) (by decide)
    have e2 : cyS (dpS ρ s) t = cyS ρ (mvP s (ρ 4 - 1) t) := g t t0 t1 2 (by decide) (by decide)
    have e3 : suS (dpS ρ s) t = suS ρ (mvP s (ρ 4 - 1) t) := g t t0 t1 3 (by decide) (by decide)
    have e4 : paS (dpS ρ s) t = paS ρ (mvP s (ρ 4 - 1) t) := g t t0 t1 4 (by decide) (by decide)
    have e5 : lnS (dpS ρ s) t = lnS ρ (mvP s (ρ 4 - 1) t) := g t t0 t1 5 (by decide) (by decide)
    have e6 : axS (dpS ρ s) (scS ρ (mvP s (ρ 4 - 1) t)) (suS ρ (mvP s (ρ 4 - 1) t)) = axS ρ (scS ρ (mvP s (ρ 4 - 1) t)) (suS ρ (mvP s (ρ 4 - 1) t)) := lo _ (by omega) (by omega)
    have e7 : ayS (dpS ρ s) (scS ρ (mvP s (ρ 4 - 1) t)) (suS ρ (mvP s (ρ 4 - 1) t)) = ayS ρ (scS ρ (mvP s (ρ 4 - 1) t)) (suS ρ (mvP s (ρ 4 - 1) t)) := lo _ (by omega) (by omega)
    have e8 : csS (dpS ρ s) (scS ρ (mvP s (ρ 4 - 1) t)) = csS ρ (scS ρ (mvP s (ρ 4 - 1) t)) := lo _ (by omega) (by omega)
    have e9 : ∀ b, inS (dpS ρ s) (scS ρ (mvP s (ρ 4 - 1) t)) b = inS ρ (scS ρ (mvP s (ρ 4 - 1) t)) b := fun b => by unfold inS; rw [e8]
    unfold sxS syS
    rw [e0, e1, e2, e3, e4, e5, e6, e7, e9, e9, lo 3 (by decide) (by decide)]
    exact q
  · intro t u t0 t1 u1
    rw [dp_4] at u1
    have e0 : scS (dpS ρ s) t = scS ρ (mvP s (ρ 4 - 1) t) := g t t0 (by omega) 0 (by decide) (by decide)
    have e1 : scS (dpS ρ s) u = scS ρ (mvP s (ρ 4 - 1) u) := g u (by omega) u1 0 (by decide) (by decide)
    rw [e0, e1]
    have r1 := qr t t0 (by omega)
    have r2 := qr u (by omega) u1
    refine V.2.2.2.2.2.2.2 _ _ r1.1 ?_ r2.2
    unfold mvP
    rw [if_neg (show ¬ t = ρ 4 - 1 by omega), if_neg (show ¬ u = ρ 4 - 1 by omega)]
    by_cases z : s ≤ t
    · rw [if_pos (by omega), if_pos (by omega)]; omega
    · rw [if_neg (by omega), if_neg (show ¬ (ρ 4 - 1 < t ∧ t ≤ s) by omega)]
      by_cases w : s ≤ u
      · rw [if_pos (by omega)]; omega
      · rw [if_neg (by omega), if_neg (by omega)]; omega
def aShift (σ : STT) (s t : Int) : Int ⊕ Nat := if σ.1 = true then (if (0 ≤ s ∧ s ≤ σ.2.1 4 - 1) ∧ (0 ≤ t ∧ t ≤ σ.2.1 4 - 1) then .inl (if scS σ.2.1 s = scS σ.2.1 t then faultS (shP σ.2.1 (mvP s t)) else -2) else .inr 2) else .inr 1
def sShift (σ : STT) (s t : Int) : STT := if σ.1 = true then (if (0 ≤ s ∧ s ≤ σ.2.1 4 - 1) ∧ (0 ≤ t ∧ t ≤ σ.2.1 4 - 1) then (if scS σ.2.1 s = scS σ.2.1 t then rowS (pushS σ) (shP σ.2.1 (mvP s t)) else σ) else σ) else σ
def aDrop (σ : STT) (s : Int) : Int ⊕ Nat := if σ.1 = true then (if 0 ≤ s ∧ s ≤ σ.2.1 4 - 1 then .inl (σ.2.1 4 - 1) else .inr 2) else .inr 1
def sDrop (σ : STT) (s : Int) : STT := if σ.1 = true then (if 0 ≤ s ∧ s ≤ σ.2.1 4 - 1 then rowS (pushS σ) (dpS σ.2.1 s) else σ) else σ
section Q35
variable {fu : Nat} {sh : HS} {I I' J : HI} {R R' : HR} {AD : Int → Nat} {P : Int → Int → Int} {σ σ' : STT} {ρ ρ' : RHO} {p p' : Int → Int} {s t : Int}
theorem CRF.pm (C : CRF R AD P) (f : RFR AD R R') (H : SHR R' AD p') (hr : ∀ n, 0 ≤ n → n < 12 → 0 ≤ p' n ∧ p' n < 12) (hi : ∀ n m, 0 ≤ n → n < 12 → 0 ≤ m → m < 12 → p' n = p' m → n = m) : CRF R' AD (pmP P p') := by
  obtain ⟨c1, c2, c3, c4, c5, c6, c7, c8⟩ := C
  have f0 := f 0 (by decide) (by decide) (by decide)
  have f6 := f 6 (by decide) (by decide) (by decide)
  have f16 := f 16 (by decide) (by decide) (by decide)
  have f21 := f 21 (by decide) (by decide) (by decide)
  refine ⟨?_, ?_, ?_, ?_, (f 4 (by decide) (by decide) (by decide) 0).trans c5, (f 26 (by decide) (by decide) (by decide) 0).trans c6, fun k hk => (f 5 (by decide) (by decide) (by decide) k).trans (c7 k hk), fun b b0 b1 => ?_⟩
  · unfold PLR at c1 ⊢
    simp only [f0]
    exact c1
  · unfold TR at c2 ⊢
    simp only [f6]
    exact c2
  · unfold ROR at c3 ⊢
    simp only [f16]
    exact c3
  · unfold ROR at c4 ⊢
    simp only [f21]
    exact c4
  · obtain ⟨d1, d2, d3, d4, d5⟩ := c8 b b0 b1
    have g : ∀ i, 28 + 24 * b ≤ i → i < 28 + 24 * b + 24 → ¬ i = 30 → ∀ k, R' (AD i) k = R (AD i) k := fun i i0 i1 ne k => f i (by omega) (by omega) ne k
    refine ⟨(g _ (by omega) (by omega) (by omega) 5).trans d1, (g _ (by omega) (by omega) (by omega) 6).trans d2, fun c c0 c1 => ?_, ?_, ?_⟩
    · obtain ⟨e1, e2, e3⟩ := d3 c c0 c1
      exact ⟨(g _ (by omega) (by omega) (by omega) _).trans e1, (g _ (by omega) (by omega) (by omega) _).trans e2, (g _ (by omega) (by omega) (by omega) _).trans e3⟩
    · intro n n0 n1
      by_cases z : b = 0
      · subst z
        exact ⟨H n n0 n1, hr n n0 n1⟩
      · have e : pmP P p' b = P b := by unfold pmP; rw [if_neg z]
        rw [e]
        exact ⟨(g _ (by omega) (by omega) (by omega) _).trans (d4 n n0 n1).1, (d4 n n0 n1).2⟩
    · by_cases z : b = 0
      · subst z
        exact hi
      · have e : pmP P p' b = P b := by unfold pmP; rw [if_neg z]
        rw [e]
        exact d5
theorem CIB.pm (C : CIB I R AD P σ) (V : VST σ) (K : CRF R' AD (pmP P p')) (F : FR AD I I' (fun i k => 28 ≤ i ∧ i < 52)) (L : BVL I' AD 28 p' ρ) : CIB I' R' AD (pmP P p') (rowS σ ρ) := by
  obtain ⟨c1, ⟨c2, c3⟩, ⟨c4, c5, c6⟩, c7, ⟨c8, c9⟩, c10, nx, c11, c12, c13, c14⟩ := C
  refine ⟨K, ⟨(F 16 (by decide) (by decide) 0 (by omega)).trans c2, (F 21 (by decide) (by decide) 0 (by omega)).trans c3⟩, ⟨(F 0 (by decide) (by decide) 1 (by omega)).trans c4, (F 0 (by decide) (by decide) 2 (by omega)).trans c5, (F 0 (by decide) (by decide) 3 (by omega)).trans c6⟩, c7.fr F (by decide) (by decide) (fun _ => by omega), ⟨(F 26 (by decide) (by decide) 1 (by omega)).trans c8, c9.fr F (by decide) (by decide) (fun _ => by omega)⟩, fun _ => L, nx, c11, (F 4 (by decide) (by decide) 1 (by omega)).trans c12, (F 4 (by decide) (by decide) 2 (by omega)).trans c13, fun t h ht => ?_⟩
  have r := hiB_r nx t
  have q := c1.2.2.2.2.2.2.2 (hiB nx t) (by omega) (by omega)
  have e : pmP P p' (hiB nx t) = P (hiB nx t) := by unfold pmP; rw [if_neg (by omega)]
  rw [e]
  exact (c14 t h ht).fr (V.2.2.1 h (List.mem_of_getElem? ht)) (by omega) (by omega) (fun s g0 g1 => (q.2.2.2.1 s g0 g1).2) F (fun i k g0 g1 => by omega)
theorem BVL.shf (V : VB ρ) (L : BVL I AD 28 p ρ) {q : Int → Int} (hq : ∀ i, 0 ≤ i → i < ρ 4 → 0 ≤ q i ∧ q i < ρ 4) : BVL I AD 28 (fun n => p (q n)) (shP ρ q) := by
  have hm := V.m
  have hn := V.n
  obtain ⟨⟨b0, b1, b2, b3, b4⟩, b5, b6⟩ := L
  have lo : ∀ j, j < 47 → shP ρ q j = ρ j := fun j h => shP_low h
  refine ⟨⟨by rw [lo 0 (by decide)]; exact b0, by rw [lo 1 (by decide)]; exact b1, by rw [lo 2 (by decide)]; exact b2, by rw [lo 3 (by decide)]; exact b3, by rw [lo 4 (by decide)]; exact b4⟩, fun c g0 g1 => ?_, fun i g0 g1 => ?_⟩
  · rw [lo 3 (by decide)] at g1
    obtain ⟨⟨d0, d1⟩, d2⟩ := b5 c g0 g1
    have e1 : ltS (shP ρ q) c = ltS ρ c := lo _ (by omega)
    have e2 : csS (shP ρ q) c = csS ρ c := lo _ (by omega)
    rw [e1, e2]
    refine ⟨⟨d0, d1⟩, fun a a0 a1 a2 => ?_⟩
    unfold inS at a2
    rw [e2] at a2
    have e3 : axS (shP ρ q) c a = axS ρ c a := lo _ (by omega)
    have e4 : ayS (shP ρ q) c a = ayS ρ c a := lo _ (by omega)
    rw [e3, e4]
    exact d2 a a0 a1 a2
  · rw [lo 4 (by decide)] at g1
    have r := hq i g0 g1
    have g : ∀ k, 0 ≤ k → k < 6 → gS (shP ρ q) i k = gS ρ (q i) k := fun k k0 k1 => shP_g g0 (by omega) k0 k1
    have e0 : scS (shP ρ q) i = scS ρ (q i) := g 0 (by decide) (by decide)
    have e1 : cxS (shP ρ q) i = cxS ρ (q i) := g 1 (by decide) (by decide)
    have e2 : cyS (shP ρ q) i = cyS ρ (q i) := g 2 (by decide) (by decide)
    have e3 : suS (shP ρ q) i = suS ρ (q i) := g 3 (by decide) (by decide)
    have e4 : paS (shP ρ q) i = paS ρ (q i) := g 4 (by decide) (by decide)
    have e5 : lnS (shP ρ q) i = lnS ρ (q i) := g 5 (by decide) (by decide)
    rw [e0, e1, e2, e3, e4, e5]
    exact b6 (q i) r.1 r.2
theorem BVL.dp (S : OKS sh AD) (V : VB ρ) (hp : ∀ n, 0 ≤ n → n < 12 → 0 ≤ p n ∧ p n < 12) (L : BVL I AD 28 p ρ) (s0 : 0 ≤ s) (s1 : s < ρ 4) : BVL (u2 I (AD 28) 4 (iz (ρ 4 - 1))) AD 28 (fun n => p (mvP s (ρ 4 - 1) n)) (dpS ρ s) := by
  have hm := V.m
  have hn := V.n
  obtain ⟨⟨b0, b1, b2, b3, b4⟩, b5, b6⟩ := L
  have lo : ∀ j, ¬ j = 4 → j < 47 → dpS ρ s j = ρ j := fun j h h2 => dp_low h s0 h2
  have off : ∀ i, 28 < i → i < 331 → ∀ k, u2 I (AD 28) 4 (iz (ρ 4 - 1)) (AD i) k = I (AD i) k := fun i i0 i1 k => u2_ne S (by decide) (by decide) (by omega) i1 (by omega) I 4 k _
  have top : ∀ k, u2 I (AD 28) 4 (iz (ρ 4 - 1)) (AD 28) k = if k = 4 then iz (ρ 4 - 1) else I (AD 28) k := by
    intro k
    rw [u2_ad S (by decide) (by decide) (by decide) (by decide)]
    by_cases z : k = 4
    · rw [if_pos ⟨rfl, z⟩, if_pos z]
    · rw [if_neg (fun w => z w.2), if_neg z]
  refine ⟨⟨by rw [lo 0 (by decide) (by decide), top, if_neg (by decide)]; exact b0, by rw [lo 1 (by decide) (by decide), top, if_neg (by decide)]; exact b1, by rw [lo 2 (by decide) (by decide), top, if_neg (by decide)]; exact b2, by rw [lo 3 (by decide) (by decide), top, if_neg (by decide)]; exact b3, by rw [dp_4, top, if_pos rfl]⟩, fun c g0 g1 => ?_, fun i g0 g1 => ?_⟩
  · rw [lo 3 (by decide) (by decide)] at g1
    obtain ⟨⟨d0, d1⟩, d2⟩ := b5 c g0 g1
    have e1 : ltS (dpS ρ s) c = ltS ρ c := lo _ (by omega) (by omega)
    have e2 : csS (dpS ρ s) c = csS ρ c := lo _ (by omega) (by omega)
    rw [e1, e2]
    refine ⟨⟨(off _ (by omega) (by omega) _).trans d0, (off _ (by omega) (by omega) _).trans d1⟩, fun a a0 a1 a2 => ?_⟩
    unfold inS at a2
    rw [e2] at a2
    have e3 : axS (dpS ρ s) c a = axS ρ c a := lo _ (by omega) (by omega)
    have e4 : ayS (dpS ρ s) c a = ayS ρ c a := lo _ (by omega) (by omega)
    rw [e3, e4]
    exact ⟨(off _ (by omega) (by omega) _).trans (d2 a a0 a1 a2).1, (off _ (by omega) (by omega) _).trans (d2 a a0 a1 a2).2⟩
  · rw [dp_4] at g1
    have r := mvP_r s0 s1 (show 0 ≤ ρ 4 - 1 by omega) (show ρ 4 - 1 < ρ 4 by omega) g0 (show i < ρ 4 by omega)
    have g : ∀ k, 0 ≤ k → k < 6 → gS (dpS ρ s) i k = gS ρ (mvP s (ρ 4 - 1) i) k := fun k k0 k1 => dp_g s0 s1 g0 g1 k0 k1
    have e0 : scS (dpS ρ s) i = scS ρ (mvP s (ρ 4 - 1) i) := g 0 (by decide) (by decide)
    have e1 : cxS (dpS ρ s) i = cxS ρ (mvP s (ρ 4 - 1) i) := g 1 (by decide) (by decide)
    have e2 : cyS (dpS ρ s) i = cyS ρ (mvP s (ρ 4 - 1) i) := g 2 (by decide) (by decide)
    have e3 : suS (dpS ρ s) i = suS ρ (mvP s (ρ 4 - 1) i) := g 3 (by decide) (by decide)
    have e4 : paS (dpS ρ s) i = paS ρ (mvP s (ρ 4 - 1) i) := g 4 (by decide) (by decide)
    have e5 : lnS (dpS ρ s) i = lnS ρ (mvP s (ρ 4 - 1) i) := g 5 (by decide) (by decide)
    have pr := hp _ r.1 (show mvP s (ρ 4 - 1) i < 12 by omega)
    obtain ⟨v0, v1, v2, v3, v4, v5⟩ := b6 _ r.1 r.2
    have of := off (28 + 12 + p (mvP s (ρ 4 - 1) i)) (by omega) (by omega)
    rw [e0, e1, e2, e3, e4, e5]
    exact ⟨(of 0).trans v0, (of 1).trans v1, (of 2).trans v2, (of 3).trans v3, (of 4).trans v4, (of 5).trans v5⟩
/-- an action of the class that moves references -/
def CXR (AD : Int → Nat) (R : HR) (P : Int → Int → Int) (σ σ' : STT) (f : HI → Option ((Int32 ⊕ String) × (HI × HR))) (a : Int ⊕ Nat) : Prop := ∀ I : HI, CIB I R AD P σ → CKN I AD σ → ∃ I' R' P', f I = some (cOut a, (I', R')) ∧ CIB I' R' AD P' σ' ∧ CKN I' AD σ' ∧ FR AD I I' (fun i _ => i < 316) ∧ RFR AD R R'
theorem cx_shift (S : OKS sh AD) (V : VST σ) (hfu : 5000 ≤ fu) (hs : IR s) (ht : IR t) : CXR AD R P σ (sShift σ s t) (fun I => fX10_shift fu sh I R (AD 0) (iz s) (iz t)) (aShift σ s t) := by
  intro I C K
  unfold aShift sShift
  by_cases h : σ.1 = true
  · have n4 := V.n4
    have W := V.1 h
    have hm := W.m
    have B := C.ba S V h
    rw [if_pos h, if_pos h]
    by_cases z : 0 ≤ s ∧ s ≤ σ.2.1 4 - 1
    · by_cases w : 0 ≤ t ∧ t ≤ σ.2.1 4 - 1
      · have zw : (0 ≤ s ∧ s ≤ σ.2.1 4 - 1) ∧ (0 ≤ t ∧ t ≤ σ.2.1 4 - 1) := ⟨z, w⟩
        rw [if_pos zw, if_pos zw]
        have s1 : s < σ.2.1 4 := by omega
        have t1 : t < σ.2.1 4 := by omega
        obtain ⟨⟨q1, q2⟩, f0, -⟩ := B.1.2.2.2 s z.1 s1
        obtain ⟨⟨q3, q4⟩, f1, -⟩ := B.1.2.2.2 t w.1 t1
        obtain ⟨v1, -⟩ := W.shot z.1 s1
        obtain ⟨v2, -⟩ := W.shot w.1 t1
        simp only [fX10_shift, if_pos (isT_of S.pl), c_needBoard S C, if_pos h, oT0l, c_needShot S C V h hs, if_pos z, c_needShot S C V h ht, if_pos w, oR_at S.pl C.1.1.1.2.1, B.1.1.2.2, q1, q3, f0, f1, bsome, iz_lit, iz_neg]
        by_cases e : scS σ.2.1 s = scS σ.2.1 t
        · rw [if_pos e, if_pos e, if_pos (by rw [e])]
          have Bs : BSH R AD 28 (P 0) := C.1.2.2.2.2.2.2.2 0 (by decide) (by decide)
          have hp : ∀ n, 0 ≤ n → n < 12 → 0 ≤ P 0 n ∧ P 0 n < 12 := fun n n0 n1 => (Bs.2.2.2.1 n n0 n1).2
          obtain ⟨J, e0, CJ, ⟨z9, z11⟩, F1⟩ := c_begin (fu := fu) S C V hfu h
          obtain ⟨R', e1, H, f⟩ := c_renum (fu := fu) (I := J) S hfu hp z.1 (show s < 12 by omega) w.1 (show t < 12 by omega) Bs.2.1 (fun n n0 n1 => (Bs.2.2.2.1 n n0 n1).1)
          have r12 : ∀ n, 0 ≤ n → n < 12 → 0 ≤ mvP s t n ∧ mvP s t n < 12 := fun n n0 n1 => mvP_r z.1 (by omega) w.1 (by omega) n0 n1
          have Kp : CRF R' AD (pmP P (fun n => P 0 (mvP s t n))) := CRF.pm C.1 f H (fun n n0 n1 => hp _ (r12 n n0 n1).1 (r12 n n0 n1).2) (fun n m n0 n1 m0 m1 hh => mvP_inj (Bs.2.2.2.2 _ _ (r12 n n0 n1).1 (r12 n n0 n1).2 (r12 m m0 m1).1 (r12 m m0 m1).2 hh))
          have V2 := shP_V W z.1 s1 w.1 t1 e
          have L2 : BVL J AD 28 (fun n => P 0 (mvP s t n)) (shP σ.2.1 (mvP s t)) := BVL.shf W (CJ.2.2.2.2.2.1 h) (fun i i0 i1 => mvP_r z.1 s1 w.1 t1 i0 i1)
          have C2 := CIB.pm CJ (V.act h W) Kp (FR.rf AD J _) L2
          have ba2 : BA sh J R' AD 28 (fun n => P 0 (mvP s t n)) (shP σ.2.1 (mvP s t)) := BA.of (b := 0) S (by decide) (by decide) (Kp.2.2.2.2.2.2.2 0 (by decide) (by decide)) L2 V2
          rw [e0, bsome, e1, bsome]
          simp only [oR_at S.pl Kp.1.1.2.1, bsome]
          rw [c_total ba2.1 V2 hfu, bsome]
          exact ⟨J, R', _, rfl, C2, CKN.z z9 z11, F1.wd fun i k z => by omega, f⟩
        · rw [if_neg e, if_neg e, if_neg (by rw [iz_eq (by omega) (by omega) (by omega) (by omega)]; exact e)]
          exact ⟨I, R, P, rfl, C, K, FR.rf _ _ _, RFR.rf⟩
      · rw [if_neg (fun k => w k.2), if_neg (fun k => w k.2)]
        refine ⟨I, R, P, ?_, C, K, FR.rf _ _ _, RFR.rf⟩
        simp only [fX10_shift, if_pos (isT_of S.pl), c_needBoard S C, if_pos h, oT0l, c_needShot S C V h hs, if_pos z, c_needShot S C V h ht, if_neg w, oT0r]
        rfl
    · rw [if_neg (fun k => z k.1), if_neg (fun k => z k.1)]
      refine ⟨I, R, P, ?_, C, K, FR.rf _ _ _, RFR.rf⟩
      simp only [fX10_shift, if_pos (isT_of S.pl), c_needBoard S C, if_pos h, oT0l, c_needShot S C V h hs, if_neg z, oT0r]
      rfl
  · rw [if_neg h, if_neg h]
    refine ⟨I, R, P, ?_, C, K, FR.rf _ _ _, RFR.rf⟩
    simp only [fX10_shift, if_pos (isT_of S.pl), c_needBoard S C, if_neg h, oT0r]
    rfl
theorem cx_drop (S : OKS sh AD) (V : VST σ) (hfu : 5000 ≤ fu) (hs : IR s) : CXR AD R P σ (sDrop σ s) (fun I => fX10_drop fu sh I R (AD 0) (iz s)) (aDrop σ s) := by
  intro I C K
  unfold aDrop sDrop
  by_cases h : σ.1 = true
  · have n4 := V.n4
    have W := V.1 h
    have hm := W.m
    rw [if_pos h, if_pos h]
    by_cases z : 0 ≤ s ∧ s ≤ σ.2.1 4 - 1
    · rw [if_pos z, if_pos z]
      have s1 : s < σ.2.1 4 := by omega
      have Bs : BSH R AD 28 (P 0) := C.1.2.2.2.2.2.2.2 0 (by decide) (by decide)
      have hp : ∀ n, 0 ≤ n → n < 12 → 0 ≤ P 0 n ∧ P 0 n < 12 := fun n n0 n1 => (Bs.2.2.2.1 n n0 n1).2
      obtain ⟨J, e0, CJ, ⟨z9, z11⟩, F1⟩ := c_begin (fu := fu) S C V hfu h
      obtain ⟨R', e1, H, f⟩ := c_renum (fu := fu) (I := J) S hfu hp z.1 (show s < 12 by omega) (show 0 ≤ σ.2.1 4 - 1 by omega) (show σ.2.1 4 - 1 < 12 by omega) Bs.2.1 (fun n n0 n1 => (Bs.2.2.2.1 n n0 n1).1)
      have r12 : ∀ n, 0 ≤ n → n < 12 → 0 ≤ mvP s (σ.2.1 4 - 1) n ∧ mvP s (σ.2.1 4 - 1) n < 12 := fun n n0 n1 => mvP_r z.1 (by omega) (by omega) (by omega) n0 n1
      have Kp : CRF R' AD (pmP P (fun n => P 0 (mvP s (σ.2.1 4 - 1) n))) := CRF.pm C.1 f H (fun n n0 n1 => hp _ (r12 n n0 n1).1 (r12 n n0 n1).2) (fun n m n0 n1 m0 m1 hh => mvP_inj (Bs.2.2.2.2 _ _ (r12 n n0 n1).1 (r12 n n0 n1).2 (r12 m m0 m1).1 (r12 m m0 m1).2 hh))
      have kc := S.at (i := 28) (t := 0) (n := 7) rfl (by decide) (by decide)
      have j4 : J (AD 28) 4 = iz (σ.2.1 4) := (CJ.2.2.2.2.2.1 h).1.2.2.2.2
      have L2 := BVL.dp (s := s) S W hp (CJ.2.2.2.2.2.1 h) z.1 s1
      have F2 : FR AD J (u2 J (AD 28) 4 (iz (σ.2.1 4 - 1))) (fun i k => 28 ≤ i ∧ i < 52) := FR.u2 S (by decide) (by decide) ⟨by decide, by decide⟩ (FR.rf AD J _)
      have C2 := CIB.pm CJ (V.act h W) Kp F2 L2
      have u4 : u2 J (AD 28) 4 (iz (σ.2.1 4 - 1)) (AD 28) 4 = iz (σ.2.1 4 - 1) := by rw [u2_ad S (by decide) (by decide) (by decide) (by decide), if_pos ⟨rfl, rfl⟩]
      refine ⟨_, R', _, ?_, C2, CKN.z ((F2 0 (by decide) (by decide) 9 (by omega)).trans z9) ((F2 0 (by decide) (by decide) 11 (by omega)).trans z11), (F1.wd fun i k z => by omega).tr (F2.wd fun i k z => by omega), f⟩
      simp only [fX10_drop, if_pos (isT_of S.pl), c_needBoard S C, if_pos h, oT0l, c_needShot S C V h hs, if_pos z, oR_at S.pl C.1.1.1.2.1, e0, bsome, oI_at kc, j4, iz_lit, iz_sub, e1, oR_at S.pl Kp.1.1.2.1, oP_at kc, u4]
      rfl
    · rw [if_neg z, if_neg z]
      refine ⟨I, R, P, ?_, C, K, FR.rf _ _ _, RFR.rf⟩
      simp only [fX10_drop, if_pos (isT_of S.pl), c_needBoard S C, if_pos h, oT0l, c_needShot S C V h hs, if_neg z, oT0r]
      rfl
  · rw [if_neg h, if_neg h]
    refine ⟨I, R, P, ?_, C, K, FR.rf _ _ _, RFR.rf⟩
    simp only [fX10_drop, if_pos (isT_of S.pl), c_needBoard S C, if_neg h, oT0r]
    rfl
end Q35
