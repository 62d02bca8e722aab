/-! STAGE 2: the state that class and reference share, and how each keeps it -/
abbrev STT : Type := Bool × RHO × List RHO × Nat × (Nat → Int) × Int × Nat × (Nat → Int)
def VST (σ : STT) : Prop := (σ.1 = true → VB σ.2.1) ∧ (σ.1 = false → σ.2.2.1 = [] ∧ ∀ j, σ.2.1 j = 0) ∧ (∀ h, h ∈ σ.2.2.1 → VB h) ∧ σ.2.2.1.length ≤ 10 ∧ σ.2.2.2.1 ≤ 800 ∧ (∀ k, k < σ.2.2.2.1 → 0 ≤ σ.2.2.2.2.1 k ∧ σ.2.2.2.2.1 k ≤ 255) ∧ (-1 ≤ σ.2.2.2.2.2.1 ∧ σ.2.2.2.2.2.1 ≤ 800) ∧ σ.2.2.2.2.2.2.1 ≤ 1056
/-- a board of the class by its number o: what lies where, the shots in the order p; and what it is worth -/
def BSH (R : HR) (AD : Int → Nat) (o : Int) (p : Int → Int) : Prop := R (AD o) 5 = some (AD (o + 1)) ∧ R (AD o) 6 = some (AD (o + 2)) ∧ (∀ c, 0 ≤ c → c < 3 → R (AD (o + 1)) c.toNat = some (AD (o + 3 + 3 * c)) ∧ R (AD (o + 3 + 3 * c)) 2 = some (AD (o + 4 + 3 * c)) ∧ R (AD (o + 3 + 3 * c)) 3 = some (AD (o + 5 + 3 * c))) ∧
  (∀ s, 0 ≤ s → s < 12 → R (AD (o + 2)) s.toNat = some (AD (o + 12 + p s)) ∧ 0 ≤ p s ∧ p s < 12) ∧ ∀ s t, 0 ≤ s → s < 12 → 0 ≤ t → t < 12 → p s = p t → s = t
def BVL (I : HI) (AD : Int → Nat) (o : Int) (p : Int → Int) (ρ : RHO) : Prop := (I (AD o) 0 = iz (ρ 0) ∧ I (AD o) 1 = iz (ρ 1) ∧ I (AD o) 2 = iz (ρ 2) ∧ I (AD o) 3 = iz (ρ 3) ∧ I (AD o) 4 = iz (ρ 4)) ∧
  (∀ c, 0 ≤ c → c < ρ 3 → (I (AD (o + 3 + 3 * c)) 0 = iz (ltS ρ c) ∧ I (AD (o + 3 + 3 * c)) 1 = iz (csS ρ c)) ∧ ∀ a, 0 ≤ a → a < 6 → inS ρ c a = true → I (AD (o + 4 + 3 * c)) a.toNat = iz (axS ρ c a) ∧ I (AD (o + 5 + 3 * c)) a.toNat = iz (ayS ρ c a)) ∧
  ∀ s, 0 ≤ s → s < ρ 4 → I (AD (o + 12 + p s)) 0 = iz (scS ρ s) ∧ I (AD (o + 12 + p s)) 1 = iz (cxS ρ s) ∧ I (AD (o + 12 + p s)) 2 = iz (cyS ρ s) ∧ I (AD (o + 12 + p s)) 3 = iz (suS ρ s) ∧ I (AD (o + 12 + p s)) 4 = iz (paS ρ s) ∧ I (AD (o + 12 + p s)) 5 = iz (lnS ρ s)
theorem BVL.fr {I I' : HI} {AD : Int → Nat} {o : Int} {p : Int → Int} {ρ : RHO} {W : Int → Nat → Prop} (B : BVL I AD o p ρ) (V : VB ρ) (h0 : 0 ≤ o) (h1 : o + 24 ≤ 331) (hp : ∀ s, 0 ≤ s → s < 12 → 0 ≤ p s ∧ p s < 12) (F : FR AD I I' W) (h : ∀ i k, o ≤ i → i < o + 24 → ¬ W i k) : BVL I' AD o p ρ := by
  have hm := V.m
  have hn := V.n
  have e : ∀ i, o ≤ i → i < o + 24 → ∀ k, I' (AD i) k = I (AD i) k := fun i h1 h2 k => F i (by omega) (by omega) k (h i k h1 h2)
  obtain ⟨⟨b0, b1, b2, b3, b4⟩, b5, b6⟩ := B
  refine ⟨⟨(e _ (by omega) (by omega) _).trans b0, (e _ (by omega) (by omega) _).trans b1, (e _ (by omega) (by omega) _).trans b2, (e _ (by omega) (by omega) _).trans b3, (e _ (by omega) (by omega) _).trans b4⟩, fun c g0 g1 => ?_, fun s g0 g1 => ?_⟩
  · obtain ⟨⟨c0, c1⟩, c2⟩ := b5 c g0 g1
    refine ⟨⟨(e _ (by omega) (by omega) _).trans c0, (e _ (by omega) (by omega) _).trans c1⟩, fun a a0 a1 a2 => ?_⟩
    obtain ⟨d0, d1⟩ := c2 a a0 a1 a2
    exact ⟨(e _ (by omega) (by omega) _).trans d0, (e _ (by omega) (by omega) _).trans d1⟩
  · obtain ⟨s0, s1, s2, s3, s4, s5⟩ := b6 s g0 g1
    have ps := hp s g0 (by omega)
    exact ⟨(e _ (by omega) (by omega) _).trans s0, (e _ (by omega) (by omega) _).trans s1, (e _ (by omega) (by omega) _).trans s2, (e _ (by omega) (by omega) _).trans s3, (e _ (by omega) (by omega) _).trans s4, (e _ (by omega) (by omega) _).trans s5⟩
theorem BA.of {sh : HS} {I : HI} {R : HR} {AD : Int → Nat} {b : Int} {p : Int → Int} {ρ : RHO} (S : OKS sh AD) (hb : 0 ≤ b) (hb2 : b < 12) (H : BSH R AD (28 + 24 * b) p) (L : BVL I AD (28 + 24 * b) p ρ) (V : VB ρ) : BA sh I R AD (28 + 24 * b) p ρ := by
  have hm := V.m
  have hn := V.n
  obtain ⟨k1, k2, k3⟩ := kd_B hb hb2
  have s1 := S.at (i := 28 + 24 * b) k1 (by omega) (by omega)
  have s2 := S.at (i := 28 + 24 * b + 1) (by rw [← k2]; congr 1; omega) (by omega) (by omega)
  have s3 := S.at (i := 28 + 24 * b + 2) (by rw [← k3]; congr 1; omega) (by omega) (by omega)
  obtain ⟨h1, h2, h3, h4, -⟩ := H
  obtain ⟨⟨b0, b1, b2, b3, b4⟩, b5, b6⟩ := L
  refine ⟨⟨⟨isT_of s1, oR_at s1 h1, oR_at s1 h2⟩, ⟨by rw [oI_at s1, b0], by rw [oI_at s1, b1], by rw [oI_at s1, b2], by rw [oI_at s1, b3], by rw [oI_at s1, b4]⟩, fun c g0 g1 => ?_, fun s g0 g1 => ?_⟩, ⟨by omega, by omega⟩, fun s g0 g1 => (h4 s g0 (by omega)).2⟩
  · obtain ⟨c0, c1, c2⟩ := h3 c g0 (by omega)
    obtain ⟨⟨d0, d1⟩, d2⟩ := b5 c g0 g1
    obtain ⟨q1, q2, q3⟩ := kd_S hb hb2 g0 (show c < 3 by omega)
    have t1 := S.at (i := 28 + 24 * b + 3 + 3 * c) (by rw [← q1]; congr 1; omega) (by omega) (by omega)
    have t2 := S.at (i := 28 + 24 * b + 4 + 3 * c) (by rw [← q2]; congr 1; omega) (by omega) (by omega)
    have t3 := S.at (i := 28 + 24 * b + 5 + 3 * c) (by rw [← q3]; congr 1; omega) (by omega) (by omega)
    refine ⟨⟨?_, isT_of t1, by rw [oI_at t1, d0], by rw [oI_at t1, d1], oR_at t1 c1, oR_at t1 c2⟩, fun a a0 a1 a2 => ?_⟩
    · rw [oB_iz (t := 5) s2 g0 (by omega) (by omega)]
      exact c0
    · obtain ⟨e0, e1⟩ := d2 a a0 a1 a2
      exact ⟨by rw [oA_iz t2 a0 (by omega) (by omega), e0], by rw [oA_iz t3 a0 (by omega) (by omega), e1]⟩
  · obtain ⟨c0, c1, c2⟩ := h4 s g0 (by omega)
    obtain ⟨d0, d1, d2, d3, d4, d5⟩ := b6 s g0 g1
    have q := kd_H hb hb2 c1 c2
    have t := S.at (i := 28 + 24 * b + 12 + p s) (by rw [← q]; congr 1; omega) (by omega) (by omega)
    refine ⟨⟨?_, isT_of t⟩, by rw [oI_at t, d0], by rw [oI_at t, d1], by rw [oI_at t, d2], by rw [oI_at t, d3], by rw [oI_at t, d4], by rw [oI_at t, d5]⟩
    rw [oB_iz (t := 7) s3 g0 (by omega) (by omega)]
    exact c0
/-- the class's references -/
def CRF (R : HR) (AD : Int → Nat) (P : Int → Int → Int) : Prop := PLR R AD ∧ TR R AD ∧ ROR R AD 16 ∧ ROR R AD 21 ∧ R (AD 4) 0 = some (AD 5) ∧ R (AD 26) 0 = some (AD 27) ∧ (∀ k : Nat, k < 10 → R (AD 5) k = some (AD (28 + 24 * (2 + k)))) ∧ ∀ b, 0 ≤ b → b < 12 → BSH R AD (28 + 24 * b) (P b)
/-- the board of the history that was laid t before the last, when nx is the next place -/
def hiB (nx t : Nat) : Int := 2 + ((nx + 9 - t) % 10 : Nat)
/-- what the class keeps, but for what it has found out -/
def CIB (I : HI) (R : HR) (AD : Int → Nat) (P : Int → Int → Int) (σ : STT) : Prop := CRF R AD P ∧ (I (AD 16) 0 = iz 12 ∧ I (AD 21) 0 = iz 6) ∧ (I (AD 0) 1 = iz (σ.2.2.2.1 : Int) ∧ I (AD 0) 2 = iz σ.2.2.2.2.2.1 ∧ I (AD 0) 3 = bz σ.1) ∧ AR I AD 1 σ.2.2.2.1 σ.2.2.2.2.1 ∧ (I (AD 26) 1 = iz (σ.2.2.2.2.2.2.1 : Int) ∧ AR I AD 27 σ.2.2.2.2.2.2.1 σ.2.2.2.2.2.2.2) ∧ (σ.1 = true → BVL I AD 28 (P 0) σ.2.1) ∧
  ∃ nx : Nat, nx < 10 ∧ I (AD 4) 1 = iz (nx : Int) ∧ I (AD 4) 2 = iz (σ.2.2.1.length : Int) ∧ ∀ (t : Nat) (h : RHO), σ.2.2.1[t]? = some h → BVL I AD (28 + 24 * hiB nx t) (P (hiB nx t)) h
/-- what it has found out -/
def CKN (I : HI) (AD : Int → Nat) (σ : STT) : Prop := (I (AD 0) 9 = iz 0 ∨ (I (AD 0) 9 = iz 1 ∧ σ.1 = true ∧ T2 I AD σ.2.1 (σ.2.1 0) (σ.2.1 4).toNat (σ.2.1 4).toNat)) ∧ (I (AD 0) 11 = iz 0 ∨ (I (AD 0) 11 = iz 1 ∧ σ.1 = true ∧ KO I AD σ.2.1))
/-- where class and reference may write without a trace -/
def SCR (i : Int) (k : Nat) : Prop := (6 ≤ i ∧ i ≤ 15) ∨ (i = 16 ∧ ¬ k = 0) ∨ (17 ≤ i ∧ i ≤ 20) ∨ (i = 21 ∧ ¬ k = 0) ∨ (22 ≤ i ∧ i ≤ 25) ∨ (i = 0 ∧ (k = 9 ∨ k = 11)) ∨ 316 ≤ i
theorem hiB_r (nx t : Nat) : 2 ≤ hiB nx t ∧ hiB nx t < 12 := by
  unfold hiB
  omega
theorem CIB.fr {I I' : HI} {R : HR} {AD : Int → Nat} {P : Int → Int → Int} {σ : STT} (C : CIB I R AD P σ) (V : VST σ) (F : FR AD I I' SCR) : CIB I' R AD P σ := by
  obtain ⟨c1, ⟨c2, c3⟩, ⟨c4, c5, c6⟩, c7, ⟨c8, c9⟩, c10, nx, c11, c12, c13, c14⟩ := C
  refine ⟨c1, ⟨(F 16 (by decide) (by decide) 0 (by unfold SCR; omega)).trans c2, (F 21 (by decide) (by decide) 0 (by unfold SCR; omega)).trans c3⟩, ⟨(F 0 (by decide) (by decide) 1 (by unfold SCR; omega)).trans c4, (F 0 (by decide) (by decide) 2 (by unfold SCR; omega)).trans c5, (F 0 (by decide) (by decide) 3 (by unfold SCR; omega)).trans c6⟩, c7.fr F (by decide) (by decide) (fun _ => by unfold SCR; omega), ⟨(F 26 (by decide) (by decide) 1 (by unfold SCR; omega)).trans c8, c9.fr F (by decide) (by decide) (fun _ => by unfold SCR; omega)⟩, fun h => ?_, nx, c11, (F 4 (by decide) (by decide) 1 (by unfold SCR; omega)).trans c12, (F 4 (by decide) (by decide) 2 (by unfold SCR; omega)).trans c13, fun t h ht => ?_⟩
  · have q := c1.2.2.2.2.2.2.2 0 (by decide) (by decide)
    exact (c10 h).fr (V.1 h) (by decide) (by decide) (fun s g0 g1 => (q.2.2.2.1 s g0 g1).2) F (fun i k g0 g1 => by unfold SCR; omega)
  · have r := hiB_r nx t
    have q := c1.2.2.2.2.2.2.2 (hiB nx t) (by omega) (by omega)
    exact (c14 t h ht).fr (V.2.2.1 h (List.mem_of_getElem? ht)) (by omega) (by omega) (fun s g0 g1 => (q.2.2.2.1 s g0 g1).2) F (fun i k g0 g1 => by unfold SCR; omega)
theorem CKN.fr {I I' : HI} {AD : Int → Nat} {σ : STT} (C : CKN I AD σ) {W : Int → Nat → Prop} (F : FR AD I I' W) (h : ∀ i k, i < 316 → ¬ W i k) : CKN I' AD σ := by
  obtain ⟨c1, c2⟩ := C
  refine ⟨?_, ?_⟩
  · rcases c1 with c | ⟨c, d, e⟩
    · exact Or.inl ((F 0 (by decide) (by decide) 9 (h _ _ (by decide))).trans c)
    · exact Or.inr ⟨(F 0 (by decide) (by decide) 9 (h _ _ (by decide))).trans c, d, e.fr F (fun i k _ g => h _ _ (by omega))⟩
  · rcases c2 with c | ⟨c, d, e1, e2⟩
    · exact Or.inl ((F 0 (by decide) (by decide) 11 (h _ _ (by decide))).trans c)
    · exact Or.inr ⟨(F 0 (by decide) (by decide) 11 (h _ _ (by decide))).trans c, d, (F 16 (by decide) (by decide) 5 (h _ _ (by decide))).trans e1, e2.fr F (by decide) (by decide) (fun _ => h _ _ (by decide))⟩
/-- an answer: a value, or 1, 2, 3 for what is thrown; how the class gives it, how the reference -/
def exN (e : Nat) : String := if e = 1 then "java/lang/IllegalStateException" else if e = 2 then "java/lang/IllegalArgumentException" else "java/util/NoSuchElementException"
def cOut : Int ⊕ Nat → Int32 ⊕ String
  | .inl v => .inl (iz v)
  | .inr e => .inr (exN e)
/-- the class's side of a question without effect; the reference's -/
def CQ (sh : HS) (AD : Int → Nat) (R : HR) (P : Int → Int → Int) (σ : STT) (f : HI → Option ((Int32 ⊕ String) × HI)) (a : Int ⊕ Nat) : Prop := ∀ I : HI, CIB I R AD P σ → CKN I AD σ → ∃ I', f I = some (cOut a, I') ∧ CIB I' R AD P σ ∧ CKN I' AD σ ∧ FR AD I I' (fun i _ => i < 316)
