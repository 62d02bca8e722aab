/-! STAGE 2: a shot's camera moved -/
def mvS (ρ : RHO) (s x y : Int) : RHO := fun j => if j = 48 + 6 * s then x else if j = 49 + 6 * s then y else ρ j
theorem mv_low (ρ : RHO) {s j : Int} (x y : Int) (h : 0 ≤ s) (hj : j < 48) : mvS ρ s x y j = ρ j := by
  unfold mvS
  rw [if_neg (by omega), if_neg (by omega)]
theorem mv_g (ρ : RHO) (s x y t : Int) {k : Int} (h0 : 0 ≤ k) (h1 : k < 6) : gS (mvS ρ s x y) t k = if t = s ∧ k = 1 then x else if t = s ∧ k = 2 then y else gS ρ t k := by
  unfold gS mvS
  by_cases z : t = s ∧ k = 1
  · rw [if_pos z, if_pos (by omega)]
  · rw [if_neg z, if_neg (by omega)]
    by_cases w : t = s ∧ k = 2
    · rw [if_pos w, if_pos (by omega)]
    · rw [if_neg w, if_neg (by omega)]
section MV
variable {ρ : RHO} {s x y : Int}
theorem mv_sc (t : Int) : scS (mvS ρ s x y) t = scS ρ t := by unfold scS; rw [mv_g ρ s x y t (by decide) (by decide), if_neg (by omega), if_neg (by omega)]
theorem mv_su (t : Int) : suS (mvS ρ s x y) t = suS ρ t := by unfold suS; rw [mv_g ρ s x y t (by decide) (by decide), if_neg (by omega), if_neg (by omega)]
theorem mv_pa (t : Int) : paS (mvS ρ s x y) t = paS ρ t := by unfold paS; rw [mv_g ρ s x y t (by decide) (by decide), if_neg (by omega), if_neg (by omega)]
theorem mv_ln (t : Int) : lnS (mvS ρ s x y) t = lnS ρ t := by unfold lnS; rw [mv_g ρ s x y t (by decide) (by decide), if_neg (by omega), if_neg (by omega)]
theorem mv_cx (t : Int) : cxS (mvS ρ s x y) t = if t = s then x else cxS ρ t := by
  unfold cxS
  rw [mv_g ρ s x y t (by decide) (by decide)]
  by_cases z : t = s
  · rw [if_pos ⟨z, rfl⟩, if_pos z]
  · rw [if_neg (fun k => z k.1), if_neg (fun k => z k.1), if_neg z]
theorem mv_cy (t : Int) : cyS (mvS ρ s x y) t = if t = s then y else cyS ρ t := by
  unfold cyS
  rw [mv_g ρ s x y t (by decide) (by decide), if_neg (fun k => absurd k.2 (by decide))]
  by_cases z : t = s
  · rw [if_pos ⟨z, rfl⟩, if_pos z]
  · rw [if_neg (fun k => z k.1), if_neg z]
theorem mv_lt (h : 0 ≤ s) {c : Int} (hc : c < 3) : ltS (mvS ρ s x y) c = ltS ρ c := mv_low ρ x y h (by omega)
theorem mv_cs (h : 0 ≤ s) {c : Int} (hc : c < 3) : csS (mvS ρ s x y) c = csS ρ c := mv_low ρ x y h (by omega)
theorem mv_ax (h : 0 ≤ s) {c a : Int} (hc : c < 3) (ha : a < 6) : axS (mvS ρ s x y) c a = axS ρ c a := mv_low ρ x y h (by omega)
theorem mv_ay (h : 0 ≤ s) {c a : Int} (hc : c < 3) (ha : a < 6) : ayS (mvS ρ s x y) c a = ayS ρ c a := mv_low ρ x y h (by omega)
theorem mv_in (h : 0 ≤ s) {c : Int} (hc : c < 3) (a : Int) : inS (mvS ρ s x y) c a = inS ρ c a := by unfold inS; rw [mv_cs h hc]
theorem mv_V (V : VB ρ) (h0 : 0 ≤ s) (h1 : s < ρ 4) (x0 : 0 ≤ x) (x1 : x ≤ 199) (y0 : 0 ≤ y) (y1 : y ≤ 199) (hne : ¬ (sxS ρ s = x ∧ syS ρ s = y)) : VB (mvS ρ s x y) := by
  have hm := V.m
  have hn := V.n
  have e0 := mv_low ρ x y h0 (show (0 : Int) < 48 by decide)
  have e1 := mv_low ρ x y h0 (show (1 : Int) < 48 by decide)
  have e2 := mv_low ρ x y h0 (show (2 : Int) < 48 by decide)
  have e3 := mv_low ρ x y h0 (show (3 : Int) < 48 by decide)
  have e4 := mv_low ρ x y h0 (show (4 : Int) < 48 by decide)
  refine ⟨by rw [e0]; exact V.1, by rw [e1]; exact V.2.1, by rw [e2]; exact V.2.2.1, by rw [e3]; exact hm, by rw [e4]; exact hn, ?_, ?_, ?_⟩
  · intro c g0 g1
    rw [e3] at g1
    have c3 : c < 3 := by omega
    obtain ⟨a1, a2, a3⟩ := V.scene g0 g1
    rw [mv_lt h0 c3, mv_cs h0 c3]
    refine ⟨a1, a2, fun a q0 q1 q2 => ?_⟩
    rw [mv_in h0 c3] at q2
    rw [mv_ax h0 c3 q1, mv_ay h0 c3 q1]
    exact a3 a q0 q1 q2
  · intro t g0 g1
    rw [e4] at g1
    obtain ⟨a1, a2, a3, a4, a5, a6, a7, a8⟩ := V.shot g0 g1
    have c3 : scS ρ t < 3 := by omega
    rw [mv_sc, mv_su, mv_pa, mv_ln, mv_cx, mv_cy, e3, mv_in h0 c3, mv_in h0 c3]
    refine ⟨a1, ?_, ?_, a4, a5, a6, a7, ?_⟩
    · split
      · exact ⟨x0, x1⟩
      · exact a2
    · split
      · exact ⟨y0, y1⟩
      · exact a3
    · unfold sxS syS
      rw [mv_sc, mv_su, mv_ax h0 c3 a4.2, mv_ay h0 c3 a4.2]
      by_cases z : t = s
      · rw [if_pos z, if_pos z, z]
        exact hne
      · rw [if_neg z, if_neg z]
        exact a8
  · intro t u g0 g1 g2
    rw [e4] at g2
    rw [mv_sc, mv_sc]
    exact V.2.2.2.2.2.2.2 t u g0 g1 g2
end MV
section MW_
variable {fu : Nat} {sh : HS} {I : HI} {R : HR} {AD : Int → Nat} {P : Int → Int → Int} {σ : STT} {ρ : RHO} {p : Int → Int} {s x y : Int}
theorem BVL.mv (S : OKS sh AD) (V : VB ρ) (B : BSH R AD 28 p) (L : BVL I AD 28 p ρ) (h0 : 0 ≤ s) (h1 : s < ρ 4) : BVL (u2 (u2 I (AD (28 + 12 + p s)) 1 (iz x)) (AD (28 + 12 + p s)) 2 (iz y)) AD 28 p (mvS ρ s x y) := by
  have hm := V.m
  have hn := V.n
  have ps := (B.2.2.2.1 s h0 (by omega)).2
  obtain ⟨⟨b0, b1, b2, b3, b4⟩, b5, b6⟩ := L
  have off : ∀ i, 0 ≤ i → i < 331 → ¬ i = 28 + 12 + p s → ∀ k, u2 (u2 I (AD (28 + 12 + p s)) 1 (iz x)) (AD (28 + 12 + p s)) 2 (iz y) (AD i) k = I (AD i) k := by
    intro i g0 g1 g2 k
    rw [u2_ne S (by omega) (by omega) g0 g1 g2, u2_ne S (by omega) (by omega) g0 g1 g2]
  refine ⟨⟨?_, ?_, ?_, ?_, ?_⟩, fun c g0 g1 => ?_, fun t g0 g1 => ?_⟩
  · rw [off 28 (by decide) (by decide) (by omega), mv_low ρ x y h0 (by decide)]; exact b0
  · rw [off 28 (by decide) (by decide) (by omega), mv_low ρ x y h0 (by decide)]; exact b1
  · rw [off 28 (by decide) (by decide) (by omega), mv_low ρ x y h0 (by decide)]; exact b2
  · rw [off 28 (by decide) (by decide) (by omega), mv_low ρ x y h0 (by decide)]; exact b3
  · rw [off 28 (by decide) (by decide) (by omega), mv_low ρ x y h0 (by decide)]; exact b4
  · rw [mv_low ρ x y h0 (by decide)] at g1
    have c3 : c < 3 := by omega
    obtain ⟨⟨d0, d1⟩, d2⟩ := b5 c g0 g1
    refine ⟨⟨?_, ?_⟩, fun a q0 q1 q2 => ?_⟩
    · rw [off _ (by omega) (by omega) (by omega), mv_lt h0 c3]; exact d0
    · rw [off _ (by omega) (by omega) (by omega), mv_cs h0 c3]; exact d1
    · rw [mv_in h0 c3] at q2
      obtain ⟨f0, f1⟩ := d2 a q0 q1 q2
      exact ⟨by rw [off _ (by omega) (by omega) (by omega), mv_ax h0 c3 q1]; exact f0, by rw [off _ (by omega) (by omega) (by omega), mv_ay h0 c3 q1]; exact f1⟩
  · rw [mv_low ρ x y h0 (by decide)] at g1
    have pt := (B.2.2.2.1 t g0 (by omega)).2
    obtain ⟨d0, d1, d2, d3, d4, d5⟩ := b6 t g0 g1
    rw [mv_sc, mv_su, mv_pa, mv_ln, mv_cx, mv_cy]
    by_cases z : t = s
    · subst z
      have w : ∀ k, u2 (u2 I (AD (28 + 12 + p t)) 1 (iz x)) (AD (28 + 12 + p t)) 2 (iz y) (AD (28 + 12 + p t)) k = if k = 2 then iz y else if k = 1 then iz x else I (AD (28 + 12 + p t)) k := by
        intro k
        rw [u2_ad S (by omega) (by omega) (by omega) (by omega), u2_ad S (by omega) (by omega) (by omega) (by omega)]
        by_cases k2 : k = 2
        · rw [if_pos ⟨rfl, k2⟩, if_pos k2]
        · rw [if_neg (fun q => k2 q.2), if_neg k2]
          by_cases k1 : k = 1
          · rw [if_pos ⟨rfl, k1⟩, if_pos k1]
          · rw [if_neg (fun q => k1 q.2), if_neg k1]
      rw [w, w, w, w, w, w]
      refine ⟨d0, ?_, ?_, d3, d4, d5⟩
      · show iz x = iz (if t = t then x else cxS ρ t)
        rw [if_pos rfl]
      · show iz y = iz (if t = t then y else cyS ρ t)
        rw [if_pos rfl]
    · have ne : ¬ (28 + 12 + p t : Int) = 28 + 12 + p s := fun q => z (B.2.2.2.2 t s g0 (by omega) h0 (by omega) (by omega))
      rw [off _ (by omega) (by omega) ne, off _ (by omega) (by omega) ne, off _ (by omega) (by omega) ne, off _ (by omega) (by omega) ne, off _ (by omega) (by omega) ne, off _ (by omega) (by omega) ne, if_neg z, if_neg z]
      exact ⟨d0, d1, d2, d3, d4, d5⟩
theorem RW.mv (S : OKS sh AD) (H : RW I AD ρ) (h0 : 0 ≤ s) (h1 : s < 12) : RW (u2 (u2 I (AD 317) (48 + 6 * s).toNat (iz x)) (AD 317) (49 + 6 * s).toNat (iz y)) AD (mvS ρ s x y) := by
  intro j g0 g1
  rw [u2_ad S (by decide) (by decide) (by decide) (by decide), u2_ad S (by decide) (by decide) (by decide) (by decide)]
  unfold mvS
  by_cases z : j = 48 + 6 * s
  · rw [if_neg (by omega), if_pos ⟨rfl, by rw [z]⟩, if_pos z]
  · rw [if_neg z]
    by_cases w : j = 49 + 6 * s
    · rw [if_pos ⟨rfl, by rw [w]⟩, if_pos w]
    · rw [if_neg (by omega), if_neg (by omega), if_neg w]
      exact H j g0 g1
end MW_
