/-! THE LAW, STAGE 2: the board drawn: an actor taken out of a scene, a shot put behind the last -/
def goneS (ρ : RHO) (c a : Nat) : RHO := up1 ρ (5 + 14 * c + 1) (mkS (fun b => inS ρ c b && !decide (b = a)) 6 : Nat)
def apS (ρ : RHO) (f : Nat → Int) : RHO := fun j => if j = 4 then ρ 4 + 1 else if 47 + 6 * ρ 4 ≤ j ∧ j < 47 + 6 * ρ 4 + 6 then f (j - 47 - 6 * ρ 4).toNat else ρ j
theorem goneS_in {ρ : RHO} {c a b : Nat} (hb : b < 6) : inS (goneS ρ c a) c b = (inS ρ c b && !decide (b = a)) := by
  have e : csS (goneS ρ c a) c = ((mkS (fun b => inS ρ c b && !decide (b = a)) 6 : Nat) : Int) := up1_eq
  have e2 : inS (goneS ρ c a) c b = (csS (goneS ρ c a) c).toNat.testBit ((b : Int)).toNat := rfl
  rw [e2, e, Int.toNat_natCast, Int.toNat_natCast, mkS_bit, decide_eq_true hb, Bool.true_and]
theorem goneS_ne {ρ : RHO} {c a : Nat} {j : Int} (h : ¬ j = 5 + 14 * c + 1) : goneS ρ c a j = ρ j := up1_ne h
theorem goneS_V {ρ : RHO} (V : VB ρ) {c a w : Nat} (hc : (c : Int) < ρ 3) (hw : w < 6) (hwa : ¬ w = a) (hwi : inS ρ c w = true) (hs : ∀ s, 0 ≤ s → s < ρ 4 → ¬ scS ρ s = c) : VB (goneS ρ c a) := by
  have hm := V.m
  have hn := V.n
  have l0 := V.lim
  have e3 : goneS ρ c a 3 = ρ 3 := goneS_ne (by omega)
  have e4 : goneS ρ c a 4 = ρ 4 := goneS_ne (by omega)
  refine ⟨by rw [goneS_ne (by omega)]; exact l0.1, by rw [goneS_ne (by omega)]; exact l0.2.1, by rw [goneS_ne (by omega)]; exact l0.2.2, by rw [e3]; exact hm, by rw [e4]; exact hn, fun d d0 d1 => ?_, fun s s0 s1 => ?_, fun s t s0 st t1 => ?_⟩
  · rw [e3] at d1
    obtain ⟨q1, q2, q3⟩ := V.scene d0 d1
    refine ⟨?_, ?_, fun b b0 b1 hb => ?_⟩
    · have : ltS (goneS ρ c a) d = ltS ρ d := goneS_ne (by omega)
      rw [this]; exact q1
    · by_cases z : d = c
      · rw [z]
        have e : csS (goneS ρ c a) c = ((mkS (fun b => inS ρ c b && !decide (b = a)) 6 : Nat) : Int) := up1_eq
        have lt := mkS_lt (fun b => inS ρ c b && !decide (b = a)) 6
        refine ⟨?_, by rw [e]; exact Int.ofNat_lt.mpr lt⟩
        rw [e]
        have hb := goneS_in (ρ := ρ) (c := c) (a := a) hw
        rw [hwi, decide_eq_false hwa] at hb
        have hb2 : (mkS (fun b => inS ρ c b && !decide (b = a)) 6).testBit w = true := by rw [mkS_bit, decide_eq_true hw, hwi, decide_eq_false hwa]; rfl
        have : mkS (fun b => inS ρ c b && !decide (b = a)) 6 ≠ 0 := fun z => by rw [z] at hb2; simp at hb2
        omega
      · have : csS (goneS ρ c a) d = csS ρ d := goneS_ne (by omega)
        rw [this]; exact q2
    · have ex : axS (goneS ρ c a) d b = axS ρ d b := goneS_ne (by omega)
      have ey : ayS (goneS ρ c a) d b = ayS ρ d b := goneS_ne (by omega)
      rw [ex, ey]
      refine q3 b b0 b1 ?_
      by_cases z : d = c
      · rw [z] at hb ⊢
        obtain ⟨b, rfl⟩ : ∃ n : Nat, b = (n : Int) := ⟨b.toNat, by omega⟩
        rw [goneS_in (by omega)] at hb
        exact (Bool.and_eq_true_iff.mp hb).1
      · have : inS (goneS ρ c a) d b = inS ρ d b := by unfold inS csS; rw [goneS_ne (by omega)]
        rw [this] at hb; exact hb
  · rw [e4] at s1
    have hsc := hs s s0 s1
    obtain ⟨q1, q2, q3, q4, q5, q6, q7, q8⟩ := V.shot s0 s1
    have eg : ∀ k : Int, 0 ≤ k → k < 6 → gS (goneS ρ c a) s k = gS ρ s k := fun k k0 k1 => goneS_ne (by omega)
    have g0 : scS (goneS ρ c a) s = scS ρ s := eg 0 (by decide) (by decide)
    have g1 : cxS (goneS ρ c a) s = cxS ρ s := eg 1 (by decide) (by decide)
    have g2 : cyS (goneS ρ c a) s = cyS ρ s := eg 2 (by decide) (by decide)
    have g3 : suS (goneS ρ c a) s = suS ρ s := eg 3 (by decide) (by decide)
    have g4 : paS (goneS ρ c a) s = paS ρ s := eg 4 (by decide) (by decide)
    have g5 : lnS (goneS ρ c a) s = lnS ρ s := eg 5 (by decide) (by decide)
    have hi : ∀ b, inS (goneS ρ c a) (scS ρ s) b = inS ρ (scS ρ s) b := fun b => by unfold inS csS; rw [goneS_ne (by omega)]
    have hx : axS (goneS ρ c a) (scS ρ s) (suS ρ s) = axS ρ (scS ρ s) (suS ρ s) := goneS_ne (by omega)
    have hy : ayS (goneS ρ c a) (scS ρ s) (suS ρ s) = ayS ρ (scS ρ s) (suS ρ s) := goneS_ne (by omega)
    unfold sxS syS
    rw [g0, g1, g2, g3, g4, g5, hi, hi, e3, hx, hy]
    exact ⟨q1, q2, q3, q4, q5, q6, q7, q8⟩
  · rw [e4] at t1
    have g0 : scS (goneS ρ c a) s = scS ρ s := goneS_ne (by omega)
    have g1 : scS (goneS ρ c a) t = scS ρ t := goneS_ne (by omega)
    rw [g0, g1]
    exact V.2.2.2.2.2.2.2 s t s0 st t1
theorem ap_ne {ρ : RHO} {f : Nat → Int} {j : Int} (h4 : ¬ j = 4) (h : ¬ (47 + 6 * ρ 4 ≤ j ∧ j < 47 + 6 * ρ 4 + 6)) : apS ρ f j = ρ j := by unfold apS; rw [if_neg h4, if_neg h]
theorem ap_g {ρ : RHO} {f : Nat → Int} (h : 0 ≤ ρ 4) {k : Nat} (hk : k < 6) : gS (apS ρ f) (ρ 4) k = f k := by
  unfold gS apS
  rw [if_neg (by omega), if_pos (by omega)]
  congr 1
  omega
theorem ap_V {ρ : RHO} (V : VB ρ) {f : Nat → Int} (hn : ρ 4 < 12) (hm : ∀ s, 0 ≤ s → s < ρ 4 → scS ρ s ≤ f 0) (q1 : 0 ≤ f 0 ∧ f 0 < ρ 3) (q2 : 0 ≤ f 1 ∧ f 1 ≤ 199) (q3 : 0 ≤ f 2 ∧ f 2 ≤ 199) (q4 : 0 ≤ f 3 ∧ f 3 < 6) (q5 : inS ρ (f 0) (f 3) = true) (q6 : f 4 = -1 ∨ ((0 ≤ f 4 ∧ f 4 < 6) ∧ inS ρ (f 0) (f 4) = true ∧ ¬ f 4 = f 3)) (q7 : 1 ≤ f 5 ∧ f 5 ≤ 99) (q8 : ¬ (axS ρ (f 0) (f 3) = f 1 ∧ ayS ρ (f 0) (f 3) = f 2)) : VB (apS ρ f) := by
  have hm3 := V.m
  have hn0 := V.n
  have l0 := V.lim
  have e3 : apS ρ f 3 = ρ 3 := ap_ne (by omega) (by omega)
  have e4 : apS ρ f 4 = ρ 4 + 1 := by unfold apS; rw [if_pos rfl]
  have low : ∀ j : Int, ¬ j = 4 → j < 47 → apS ρ f j = ρ j := fun j h1 h2 => ap_ne h1 (by omega)
  have hg : ∀ s k : Int, 0 ≤ s → s < ρ 4 → 0 ≤ k → k < 6 → gS (apS ρ f) s k = gS ρ s k := fun s k s0 s1 k0 k1 => ap_ne (by omega) (by omega)
  refine ⟨by rw [low 0 (by decide) (by decide)]; exact l0.1, by rw [low 1 (by decide) (by decide)]; exact l0.2.1, by rw [low 2 (by decide) (by decide)]; exact l0.2.2, by rw [e3]; exact hm3, by rw [e4]; omega, fun d d0 d1 => ?_, fun s s0 s1 => ?_, fun s t s0 st t1 => ?_⟩
  · rw [e3] at d1
    obtain ⟨q1, q2, q3⟩ := V.scene d0 d1
    have a1 : ltS (apS ρ f) d = ltS ρ d := low _ (by omega) (by omega)
    have a2 : csS (apS ρ f) d = csS ρ d := low _ (by omega) (by omega)
    refine ⟨by rw [a1]; exact q1, by rw [a2]; exact q2, fun b b0 b1 hb => ?_⟩
    have ex : axS (apS ρ f) d b = axS ρ d b := low _ (by omega) (by omega)
    have ey : ayS (apS ρ f) d b = ayS ρ d b := low _ (by omega) (by omega)
    rw [ex, ey]
    refine q3 b b0 b1 ?_
    unfold inS at hb ⊢
    rw [a2] at hb
    exact hb
  · rw [e4] at s1
    by_cases z : s = ρ 4
    · subst z
      have g0 : scS (apS ρ f) (ρ 4) = f 0 := ap_g hn0.1 (k := 0) (by decide)
      have g1 : cxS (apS ρ f) (ρ 4) = f 1 := ap_g hn0.1 (k := 1) (by decide)
      have g2 : cyS (apS ρ f) (ρ 4) = f 2 := ap_g hn0.1 (k := 2) (by decide)
      have g3 : suS (apS ρ f) (ρ 4) = f 3 := ap_g hn0.1 (k := 3) (by decide)
      have g4 : paS (apS ρ f) (ρ 4) = f 4 := ap_g hn0.1 (k := 4) (by decide)
      have g5 : lnS (apS ρ f) (ρ 4) = f 5 := ap_g hn0.1 (k := 5) (by decide)
      have hi : ∀ b, inS (apS ρ f) (f 0) b = inS ρ (f 0) b := fun b => by unfold inS csS; rw [low _ (by omega) (by omega)]
      have hx : axS (apS ρ f) (f 0) (f 3) = axS ρ (f 0) (f 3) := low _ (by omega) (by omega)
      have hy : ayS (apS ρ f) (f 0) (f 3) = ayS ρ (f 0) (f 3) := low _ (by omega) (by omega)
      unfold sxS syS
      rw [g0, g1, g2, g3, g4, g5, hi, hi, e3, hx, hy]
      exact ⟨q1, q2, q3, q4, q5, q6, q7, q8⟩
    · obtain ⟨r1, r2, r3, r4, r5, r6, r7, r8⟩ := V.shot s0 (show s < ρ 4 by omega)
      have g0 : scS (apS ρ f) s = scS ρ s := hg s 0 s0 (by omega) (by decide) (by decide)
      have g1 : cxS (apS ρ f) s = cxS ρ s := hg s 1 s0 (by omega) (by decide) (by decide)
      have g2 : cyS (apS ρ f) s = cyS ρ s := hg s 2 s0 (by omega) (by decide) (by decide)
      have g3 : suS (apS ρ f) s = suS ρ s := hg s 3 s0 (by omega) (by decide) (by decide)
      have g4 : paS (apS ρ f) s = paS ρ s := hg s 4 s0 (by omega) (by decide) (by decide)
      have g5 : lnS (apS ρ f) s = lnS ρ s := hg s 5 s0 (by omega) (by decide) (by decide)
      have hi : ∀ b, inS (apS ρ f) (scS ρ s) b = inS ρ (scS ρ s) b := fun b => by unfold inS csS; rw [low _ (by omega) (by omega)]
      have hx : axS (apS ρ f) (scS ρ s) (suS ρ s) = axS ρ (scS ρ s) (suS ρ s) := low _ (by omega) (by omega)
      have hy : ayS (apS ρ f) (scS ρ s) (suS ρ s) = ayS ρ (scS ρ s) (suS ρ s) := low _ (by omega) (by omega)
      unfold sxS syS
      rw [g0, g1, g2, g3, g4, g5, hi, hi, e3, hx, hy]
      exact ⟨r1, r2, r3, r4, r5, r6, r7, r8⟩
  · rw [e4] at t1
    by_cases z : t = ρ 4
    · subst z
      have g0 : scS (apS ρ f) (ρ 4) = f 0 := ap_g hn0.1 (k := 0) (by decide)
      rw [g0]
      by_cases w : s = ρ 4
      · subst w; rw [g0]; exact Int.le_refl _
      · have g1 : scS (apS ρ f) s = scS ρ s := hg s 0 s0 (by omega) (by decide) (by decide)
        rw [g1]
        exact hm s s0 (by omega)
    · have g0 : scS (apS ρ f) s = scS ρ s := hg s 0 s0 (by omega) (by decide) (by decide)
      have g1 : scS (apS ρ f) t = scS ρ t := hg t 0 (by omega) (by omega) (by decide) (by decide)
      rw [g0, g1]
      exact V.2.2.2.2.2.2.2 s t s0 st (by omega)
section DR
variable {K J : Nat → Nat} {fu : Nat} {A : Nat → Nat} {cap : Nat} {S : List Nat} {sh sh' : HS} {I I' : HI} {R R' : HR} {ρ ρ' : RHO}
/-- an actor who is not there -/
theorem LBD.gone (B : LBD sh I R K A cap S ρ) (Dt : DST A S (ρ 3)) {c a : Nat} (hc9 : (c : Int) < ρ 3) (m : ρ 3 ≤ 3) (ha9 : a < 6) (n4 : 0 ≤ ρ 4) : LBD sh (u2 (u2 I (A (6 + c)) a (iz (-1))) (A (9 + c)) a (iz (-1))) R K A cap S (goneS ρ c a) := by
  have nj : ∀ i : Int, ¬ i = 5 + 14 * c + 1 → goneS ρ c a i = ρ i := fun i h1 => goneS_ne h1
  obtain ⟨⟨⟨s1, s2, s3, s4, s5⟩, s6, ⟨s7, s8, s9⟩, s10⟩, l, v1, v2, v3, v4⟩ := B
  obtain ⟨dn, h, h0, hc0, hs0⟩ := Dt
  obtain ⟨g1, g2⟩ := hc0 c hc9
  obtain ⟨-, -, p6, p9⟩ := s10 c hc9
  have off : ∀ b, ¬ b = A (6 + c) → ¬ b = A (9 + c) → u2 (u2 I (A (6 + c)) a (iz (-1))) (A (9 + c)) a (iz (-1)) b = I b := fun b h1 h2 => funext (fun j => by rw [u2_off h2, u2_off h1])
  have n69 : ¬ A (6 + c) = A (9 + c) := fun e => by rw [e, g2] at g1; omega
  refine ⟨⟨⟨s1, s2, s3, s4, s5⟩, s6, ⟨by rw [nj 3 (by omega)]; exact s7, by rw [nj 3 (by omega)]; exact s8, by rw [nj 3 (by omega)]; exact s9⟩, fun c hc => s10 c (by rw [nj 3 (by omega)] at hc; exact hc)⟩, l.cg rfl (by rw [off _ (ne_k l.1 p6 (by decide)) (ne_k l.1 p9 (by decide))]) rfl rfl rfl, ?_, fun i hi => ?_, by rw [nj 4 (by omega)]; exact v3, fun i z hi => ?_⟩
  · rw [off _ (ne_k s1 p6 (by decide)) (ne_k s1 p9 (by decide)), nj 0 (by omega), nj 1 (by omega), nj 2 (by omega)]
    exact v1
  · rw [nj 3 (by omega)] at hi
    obtain ⟨f1, f2⟩ := hc0 i hi
    rw [off (A 3) (fun e => by rw [← e, h0] at g1; omega) (fun e => by rw [← e, h0] at g2; omega)]
    obtain ⟨d1, d2⟩ := v2 i hi
    refine ⟨by rw [d1]; unfold ltS; rw [nj _ (by omega)], fun b hb => ?_⟩
    obtain ⟨e1, e2⟩ := d2 b hb
    have ex : axS (goneS ρ c a) i b = axS ρ i b := nj _ (by omega)
    have ey : ayS (goneS ρ c a) i b = ayS ρ i b := nj _ (by omega)
    unfold lxS at e1 ⊢
    unfold lyS at e2 ⊢
    rw [ex, ey]
    by_cases z : i = c
    · subst z
      rw [u2_off n69, u2_on, u2_on, goneS_in hb]
      by_cases w : b = a
      · subst w
        rw [if_pos rfl, if_pos rfl, decide_eq_true rfl, Bool.not_true, Bool.and_false, if_neg (by decide), if_neg (by decide)]
        exact ⟨rfl, rfl⟩
      · rw [if_neg w, if_neg w, u2_off (fun e => n69 e.symm), decide_eq_false w, Bool.not_false, Bool.and_true]
        exact ⟨e1, e2⟩
    · rw [off (A (6 + i)) (fun e => by rw [e, g1] at f1; omega) (fun e => by rw [e, g2] at f1; omega), off (A (9 + i)) (fun e => by rw [e, g1] at f2; omega) (fun e => by rw [e, g2] at f2; omega)]
      have : inS (goneS ρ c a) i b = inS ρ i b := by unfold inS csS; rw [nj _ (by omega)]
      rw [this]
      exact ⟨e1, e2⟩
  · have hy := hs0 z (List.mem_of_getElem? hi)
    rw [off _ (fun e => by rw [e, g1] at hy; omega) (fun e => by rw [e, g2] at hy; omega)]
    obtain ⟨d0, d1, d2, d3, d4, d5⟩ := v4 i z hi
    refine ⟨by rw [d0]; unfold scS gS; rw [nj _ (by omega)], by rw [d1]; unfold cxS gS; rw [nj _ (by omega)], by rw [d2]; unfold cyS gS; rw [nj _ (by omega)], by rw [d3]; unfold suS gS; rw [nj _ (by omega)], by rw [d4]; unfold paS gS; rw [nj _ (by omega)], by rw [d5]; unfold lnS gS; rw [nj _ (by omega)]⟩
/-- a shot behind the last -/
theorem LBD.app {q ea' cap' : Nat} {f : Nat → Int} (B : LBD sh I R K A cap S ρ) (e : EXH (XL sh (A 1) (A 2)) sh I R sh' I' R') (T : LST sh' I' R' K (A 1) ea' cap' (S ++ [q])) (hq : sh' q = some (20, 6)) (hv : ∀ j : Nat, j < 6 → I' q j = iz (f j)) (m : ρ 3 ≤ 3) : LBD sh' I' R' K (fun i => if i = 2 then ea' else A i) cap' (S ++ [q]) (apS ρ f) := by
  obtain ⟨⟨⟨s1, s2, s3, s4, s5⟩, s6, ⟨s7, s8, s9⟩, s10⟩, l, v1, v2, v3, v4⟩ := B
  have e3 : apS ρ f 3 = ρ 3 := ap_ne (by omega) (by omega)
  have low : ∀ j : Int, ¬ j = 4 → j < 47 → apS ρ f j = ρ j := fun j h1 h2 => ap_ne h1 (by omega)
  have nx : ∀ {b t n : Nat}, sh b = some (t, n) → ¬ t = 10 → ¬ t = 46 → ¬ XL sh (A 1) (A 2) b := by
    intro b t n hb h1 h2 z
    rcases z with z | ⟨z, c, z2⟩
    · exact ne_k hb l.1 h1 z
    · exact ne_k hb z2 h2 z
  have kp : ∀ {b t n : Nat}, sh b = some (t, n) → ¬ t = 10 → ¬ t = 46 → I' b = I b ∧ R' b = R b := fun hb h1 h2 => e.2 _ (nnk hb) (nx hb h1 h2)
  have k0 := kp s1 (by decide) (by decide)
  have k3 := kp s7 (by decide) (by decide)
  have k4 := kp s8 (by decide) (by decide)
  have k5 := kp s9 (by decide) (by decide)
  refine ⟨⟨⟨e.k s1, ?_, ?_, ?_, ?_⟩, fun y hy => ?_, ⟨?_, ?_, ?_⟩, fun c hc => ?_⟩, T, ?_, fun c hc => ?_, ?_, fun i y hi => ?_⟩
  · show R' (A 0) 3 = some (A 1); rw [k0.2]; exact s2
  · show R' (A 0) 4 = some (A 3); rw [k0.2]; exact s3
  · show R' (A 0) 5 = some (A 4); rw [k0.2]; exact s4
  · show R' (A 0) 6 = some (A 5); rw [k0.2]; exact s5
  · rcases List.mem_append.mp hy with z | z
    · exact e.k (s6 y z)
    · rw [List.mem_singleton.mp z]; exact hq
  · show sh' (A 3) = _; rw [e3]; exact e.k s7
  · show sh' (A 4) = _; rw [e3]; exact e.k s8
  · show sh' (A 5) = _; rw [e3]; exact e.k s9
  · rw [e3] at hc
    obtain ⟨c1, c2, c3, c4⟩ := s10 c hc
    show R' (A 4) c = some (if 6 + c = 2 then ea' else A (6 + c)) ∧ R' (A 5) c = some (if 9 + c = 2 then ea' else A (9 + c)) ∧ sh' (if 6 + c = 2 then ea' else A (6 + c)) = _ ∧ sh' (if 9 + c = 2 then ea' else A (9 + c)) = _
    rw [if_neg (by omega), if_neg (by omega), k4.2, k5.2]
    exact ⟨c1, c2, e.k c3, e.k c4⟩
  · show I' (A 0) 0 = _ ∧ I' (A 0) 1 = _ ∧ I' (A 0) 2 = _
    rw [k0.1, low 0 (by decide) (by decide), low 1 (by decide) (by decide), low 2 (by decide) (by decide)]
    exact v1
  · rw [e3] at hc
    obtain ⟨c1, c2, c3, c4⟩ := s10 c hc
    obtain ⟨d1, d2⟩ := v2 c hc
    show I' (A 3) c = _ ∧ ∀ a : Nat, a < 6 → I' (if 6 + c = 2 then ea' else A (6 + c)) a = _ ∧ I' (if 9 + c = 2 then ea' else A (9 + c)) a = _
    rw [if_neg (by omega), if_neg (by omega), k3.1, (kp c3 (by decide) (by decide)).1, (kp c4 (by decide) (by decide)).1]
    refine ⟨by rw [d1]; unfold ltS; rw [low _ (by omega) (by omega)], fun a ha => ?_⟩
    obtain ⟨f1, f2⟩ := d2 a ha
    refine ⟨by rw [f1]; unfold lxS inS csS axS; rw [low _ (by omega) (by omega), low _ (by omega) (by omega)], by rw [f2]; unfold lyS inS csS ayS; rw [low _ (by omega) (by omega), low _ (by omega) (by omega)]⟩
  · rw [List.length_append]
    show ((S.length + 1 : Nat) : Int) = _
    unfold apS
    rw [if_pos rfl]
    omega
  · have hi1 := (List.getElem?_eq_some_iff.mp hi).1
    rw [List.length_append] at hi1
    have hl1 : [q].length = 1 := rfl
    by_cases z : i = S.length
    · rw [z, List.getElem?_append_right (Nat.le_refl _), Nat.sub_self] at hi
      have hyq : q = y := Option.some.inj hi
      subst hyq
      rw [z, v3]
      have g : ∀ k : Nat, k < 6 → I' q k = iz (gS (apS ρ f) (ρ 4) k) := fun k hk => by rw [hv k hk, ap_g (by omega) hk]
      exact ⟨g 0 (by decide), g 1 (by decide), g 2 (by decide), g 3 (by decide), g 4 (by decide), g 5 (by decide)⟩
    · rw [List.getElem?_append_left (by omega)] at hi
      obtain ⟨d0, d1, d2, d3, d4, d5⟩ := v4 i y hi
      rw [(kp (s6 y (List.mem_of_getElem? hi)) (by decide) (by decide)).1]
      have hg : ∀ k : Int, 0 ≤ k → k < 6 → gS (apS ρ f) i k = gS ρ i k := fun k k0 k1 => ap_ne (by omega) (by omega)
      refine ⟨d0.trans (congrArg iz (hg 0 (by decide) (by decide)).symm), d1.trans (congrArg iz (hg 1 (by decide) (by decide)).symm), d2.trans (congrArg iz (hg 2 (by decide) (by decide)).symm), d3.trans (congrArg iz (hg 3 (by decide) (by decide)).symm), d4.trans (congrArg iz (hg 4 (by decide) (by decide)).symm), d5.trans (congrArg iz (hg 5 (by decide) (by decide)).symm)⟩
end DR
