/-! STAGE 2: a board half read -/
def SHV (ρ : RHO) (m s : Int) : Prop := (0 ≤ scS ρ s ∧ scS ρ s < m) ∧ (0 ≤ cxS ρ s ∧ cxS ρ s ≤ 199) ∧ (0 ≤ cyS ρ s ∧ cyS ρ s ≤ 199) ∧ (0 ≤ suS ρ s ∧ suS ρ s < 6) ∧ inS ρ (scS ρ s) (suS ρ s) = true ∧ (paS ρ s = -1 ∨ ((0 ≤ paS ρ s ∧ paS ρ s < 6) ∧ inS ρ (scS ρ s) (paS ρ s) = true ∧ ¬ paS ρ s = suS ρ s)) ∧ (1 ≤ lnS ρ s ∧ lnS ρ s ≤ 99) ∧ ¬ (sxS ρ s = cxS ρ s ∧ syS ρ s = cyS ρ s)
def SCV (ρ : RHO) (c : Int) : Prop := (0 ≤ ltS ρ c ∧ ltS ρ c ≤ 3) ∧ (0 ≤ csS ρ c ∧ csS ρ c < 64) ∧ ∀ a, 0 ≤ a → a < 6 → inS ρ c a = true → (0 ≤ axS ρ c a ∧ axS ρ c a ≤ 199) ∧ (0 ≤ ayS ρ c a ∧ ayS ρ c a ≤ 199)
def PV (ρ : RHO) : Prop := (0 ≤ ρ 3 ∧ ρ 3 ≤ 3) ∧ (0 ≤ ρ 4 ∧ ρ 4 ≤ 12) ∧ (∀ c, 0 ≤ c → c < ρ 3 → SCV ρ c) ∧ (∀ s, 0 ≤ s → s < ρ 4 → SHV ρ (ρ 3) s) ∧ (∀ s t, 0 ≤ s → s ≤ t → t < ρ 4 → scS ρ s ≤ scS ρ t) ∧ ∀ c, 0 ≤ c → c + 1 < ρ 3 → 0 < csS ρ c
def LV (ρ : RHO) : Prop := (0 ≤ ρ 0 ∧ ρ 0 ≤ 99) ∧ (0 ≤ ρ 1 ∧ ρ 1 ≤ 2000) ∧ (0 ≤ ρ 2 ∧ ρ 2 ≤ 2000)
theorem PV.vb {ρ : RHO} (V : PV ρ) (L : LV ρ) (h1 : 1 ≤ ρ 3) (h2 : 0 < csS ρ (ρ 3 - 1)) : VB ρ := by
  obtain ⟨a, b, c, d, e, f⟩ := V
  refine ⟨L.1, L.2.1, L.2.2, ⟨h1, a.2⟩, b, fun k g0 g1 => ?_, d, e⟩
  obtain ⟨x, y, z⟩ := c k g0 g1
  refine ⟨x, ⟨?_, y.2⟩, z⟩
  by_cases q : k + 1 < ρ 3
  · exact f k g0 q
  · rw [show k = ρ 3 - 1 by omega]; exact h2
theorem in_cg {ρ ρ' : RHO} {c : Int} (h : csS ρ' c = csS ρ c) (a : Int) : inS ρ' c a = inS ρ c a := by unfold inS; rw [h]
theorem SHV.cg {ρ ρ' : RHO} {m m' s : Int} (H : SHV ρ m s) (hg : ∀ k, 0 ≤ k → k < 6 → gS ρ' s k = gS ρ s k) (hm : m ≤ m') (hc : ∀ c a, 0 ≤ c → c < m → 0 ≤ a → a < 6 → inS ρ c a = true → inS ρ' c a = true ∧ axS ρ' c a = axS ρ c a ∧ ayS ρ' c a = ayS ρ c a) : SHV ρ' m' s := by
  obtain ⟨a1, a2, a3, a4, a5, a6, a7, a8⟩ := H
  have e0 : scS ρ' s = scS ρ s := hg 0 (by decide) (by decide)
  have e1 : cxS ρ' s = cxS ρ s := hg 1 (by decide) (by decide)
  have e2 : cyS ρ' s = cyS ρ s := hg 2 (by decide) (by decide)
  have e3 : suS ρ' s = suS ρ s := hg 3 (by decide) (by decide)
  have e4 : paS ρ' s = paS ρ s := hg 4 (by decide) (by decide)
  have e5 : lnS ρ' s = lnS ρ s := hg 5 (by decide) (by decide)
  obtain ⟨q1, q2, q3⟩ := hc (scS ρ s) (suS ρ s) a1.1 a1.2 a4.1 a4.2 a5
  unfold SHV sxS syS
  rw [e0, e1, e2, e3, e4, e5, q2, q3]
  refine ⟨⟨a1.1, by omega⟩, a2, a3, a4, q1, ?_, a7, a8⟩
  rcases a6 with a6 | ⟨b1, b2, b3⟩
  · exact Or.inl a6
  · exact Or.inr ⟨b1, (hc (scS ρ s) (paS ρ s) a1.1 a1.2 b1.1 b1.2 b2).1, b3⟩
/-- a board with one scene more, one actor more in its last scene, one shot more of its last scene -/
def scnR (ρ : RHO) (v : Int) : RHO := up1 (up1 (up1 ρ (5 + 14 * ρ 3) v) (5 + 14 * ρ 3 + 1) 0) 3 (ρ 3 + 1)
def actR (ρ : RHO) (c a x y : Int) : RHO := up1 (up1 (up1 ρ (5 + 14 * c + 1) (((csS ρ c).toNat ||| 2 ^ a.toNat : Nat) : Int)) (5 + 14 * c + 2 + a) x) (5 + 14 * c + 8 + a) y
def shtR (ρ : RHO) (c x y u w l : Int) : RHO := up1 (up1 (up1 (up1 (up1 (up1 (up1 ρ (47 + 6 * ρ 4) c) (47 + 6 * ρ 4 + 1) x) (47 + 6 * ρ 4 + 2) y) (47 + 6 * ρ 4 + 3) u) (47 + 6 * ρ 4 + 4) w) (47 + 6 * ρ 4 + 5) l) 4 (ρ 4 + 1)
theorem scn_old {ρ : RHO} {v j : Int} (h : ¬ j = 3) (h1 : ¬ j = 5 + 14 * ρ 3) (h2 : ¬ j = 5 + 14 * ρ 3 + 1) : scnR ρ v j = ρ j := by
  unfold scnR
  rw [up1_ne h, up1_ne h2, up1_ne h1]
theorem scn_new {ρ : RHO} (v : Int) (h : 0 ≤ ρ 3) : scnR ρ v 3 = ρ 3 + 1 ∧ ltS (scnR ρ v) (ρ 3) = v ∧ csS (scnR ρ v) (ρ 3) = 0 := by
  unfold ltS csS scnR
  refine ⟨up1_eq, ?_, ?_⟩
  · rw [up1_ne (by omega), up1_ne (by omega), up1_eq]
  · rw [up1_ne (by omega), up1_eq]
theorem act_old {ρ : RHO} {c a x y j : Int} (h1 : ¬ j = 5 + 14 * c + 1) (h2 : ¬ j = 5 + 14 * c + 2 + a) (h3 : ¬ j = 5 + 14 * c + 8 + a) : actR ρ c a x y j = ρ j := by
  unfold actR
  rw [up1_ne h3, up1_ne h2, up1_ne h1]
theorem act_new {ρ : RHO} {c a : Int} (x y : Int) (ha : 0 ≤ a) (ha2 : a < 6) : csS (actR ρ c a x y) c = (((csS ρ c).toNat ||| 2 ^ a.toNat : Nat) : Int) ∧ axS (actR ρ c a x y) c a = x ∧ ayS (actR ρ c a x y) c a = y := by
  refine ⟨?_, ?_, ?_⟩
  · show actR ρ c a x y (5 + 14 * c + 1) = _
    unfold actR
    rw [up1_ne (by omega), up1_ne (by omega), up1_eq]
  · show actR ρ c a x y (5 + 14 * c + 2 + a) = _
    unfold actR
    rw [up1_ne (by omega), up1_eq]
  · show actR ρ c a x y (5 + 14 * c + 8 + a) = _
    unfold actR
    rw [up1_eq]
theorem sht_old {ρ : RHO} {c x y u w l j : Int} (h : ¬ j = 4) (h1 : j < 47 + 6 * ρ 4 ∨ 53 + 6 * ρ 4 ≤ j) : shtR ρ c x y u w l j = ρ j := by
  unfold shtR
  rw [up1_ne h, up1_ne (by omega), up1_ne (by omega), up1_ne (by omega), up1_ne (by omega), up1_ne (by omega), up1_ne (by omega)]
theorem sht_new {ρ : RHO} (c x y u w l : Int) (h : 0 ≤ ρ 4) : shtR ρ c x y u w l 4 = ρ 4 + 1 ∧ scS (shtR ρ c x y u w l) (ρ 4) = c ∧ cxS (shtR ρ c x y u w l) (ρ 4) = x ∧ cyS (shtR ρ c x y u w l) (ρ 4) = y ∧ suS (shtR ρ c x y u w l) (ρ 4) = u ∧ paS (shtR ρ c x y u w l) (ρ 4) = w ∧ lnS (shtR ρ c x y u w l) (ρ 4) = l := by
  unfold scS cxS cyS suS paS lnS gS shtR
  refine ⟨up1_eq, ?_, ?_, ?_, ?_, ?_, ?_⟩
  · rw [up1_ne (by omega), up1_ne (by omega), up1_ne (by omega), up1_ne (by omega), up1_ne (by omega), up1_ne (by omega), show 47 + 6 * ρ 4 + 0 = 47 + 6 * ρ 4 by omega, up1_eq]
  · rw [up1_ne (by omega), up1_ne (by omega), up1_ne (by omega), up1_ne (by omega), up1_ne (by omega), up1_eq]
  · rw [up1_ne (by omega), up1_ne (by omega), up1_ne (by omega), up1_ne (by omega), up1_eq]
  · rw [up1_ne (by omega), up1_ne (by omega), up1_ne (by omega), up1_eq]
  · rw [up1_ne (by omega), up1_ne (by omega), up1_eq]
  · rw [up1_ne (by omega), up1_eq]
theorem scn_sc {ρ : RHO} (v : Int) {c : Int} (h0 : 0 ≤ c) (h1 : c < ρ 3) (h3 : ρ 3 ≤ 3) : ltS (scnR ρ v) c = ltS ρ c ∧ csS (scnR ρ v) c = csS ρ c ∧ ∀ a, 0 ≤ a → a < 6 → axS (scnR ρ v) c a = axS ρ c a ∧ ayS (scnR ρ v) c a = ayS ρ c a :=
  ⟨scn_old (by omega) (by omega) (by omega), scn_old (by omega) (by omega) (by omega), fun a a0 a1 => ⟨scn_old (by omega) (by omega) (by omega), scn_old (by omega) (by omega) (by omega)⟩⟩
theorem scn_g {ρ : RHO} (v : Int) {s k : Int} (h3 : ρ 3 < 3) (h0 : 0 ≤ s) (k0 : 0 ≤ k) : gS (scnR ρ v) s k = gS ρ s k := scn_old (by omega) (by omega) (by omega)
theorem act_sc {ρ : RHO} {c a : Int} (x y : Int) (a0 : 0 ≤ a) (a1 : a < 6) {d : Int} (hd : ¬ d = c) : ltS (actR ρ c a x y) d = ltS ρ d ∧ csS (actR ρ c a x y) d = csS ρ d ∧ ∀ t, 0 ≤ t → t < 6 → axS (actR ρ c a x y) d t = axS ρ d t ∧ ayS (actR ρ c a x y) d t = ayS ρ d t :=
  ⟨act_old (by omega) (by omega) (by omega), act_old (by omega) (by omega) (by omega), fun t t0 t1 => ⟨act_old (by omega) (by omega) (by omega), act_old (by omega) (by omega) (by omega)⟩⟩
theorem act_c {ρ : RHO} {c a : Int} (x y : Int) (a0 : 0 ≤ a) (a1 : a < 6) : ltS (actR ρ c a x y) c = ltS ρ c ∧ ∀ t, 0 ≤ t → t < 6 → inS (actR ρ c a x y) c t = (inS ρ c t || decide (a = t)) ∧ (¬ t = a → axS (actR ρ c a x y) c t = axS ρ c t ∧ ayS (actR ρ c a x y) c t = ayS ρ c t) := by
  refine ⟨act_old (by omega) (by omega) (by omega), fun t t0 t1 => ⟨?_, fun z => ⟨act_old (by omega) (by omega) (by omega), act_old (by omega) (by omega) (by omega)⟩⟩⟩
  unfold inS
  rw [(act_new x y a0 a1).1, Int.toNat_natCast, or_bit]
  congr 1
  by_cases z : a = t
  · rw [decide_eq_true z, decide_eq_true (by omega)]
  · rw [decide_eq_false z, decide_eq_false (by omega)]
theorem act_g {ρ : RHO} {c a : Int} (x y : Int) (c0 : 0 ≤ c) (c1 : c < 3) (a0 : 0 ≤ a) (a1 : a < 6) {s k : Int} (h0 : 0 ≤ s) (k0 : 0 ≤ k) : gS (actR ρ c a x y) s k = gS ρ s k := act_old (by omega) (by omega) (by omega)
theorem PV.scn {ρ : RHO} (V : PV ρ) (h3 : ρ 3 < 3) (hl : 0 < ρ 3 → 0 < csS ρ (ρ 3 - 1)) {v : Int} (v0 : 0 ≤ v) (v1 : v ≤ 3) : PV (scnR ρ v) := by
  obtain ⟨a, b, c, d, e, f⟩ := V
  obtain ⟨n1, n2, n3⟩ := scn_new v a.1
  have e4 : scnR ρ v 4 = ρ 4 := scn_old (by omega) (by omega) (by omega)
  refine ⟨by omega, by omega, fun k k0 k1 => ?_, fun s s0 s1 => ?_, fun s t s0 st t1 => ?_, fun k k0 k1 => ?_⟩
  · by_cases z : k < ρ 3
    · obtain ⟨q1, q2, q3⟩ := scn_sc v k0 z a.2
      obtain ⟨r1, r2, r3⟩ := c k k0 z
      unfold SCV
      rw [q1, q2]
      refine ⟨r1, r2, fun t t0 t1 t2 => ?_⟩
      rw [(q3 t t0 t1).1, (q3 t t0 t1).2]
      exact r3 t t0 t1 (by rw [← in_cg q2 t]; exact t2)
    · have k2 : k = ρ 3 := by omega
      unfold SCV
      rw [k2, n2, n3]
      refine ⟨⟨v0, v1⟩, by omega, fun t t0 t1 t2 => ?_⟩
      unfold inS at t2
      rw [n3] at t2
      exact absurd t2 (by rw [show Int.toNat 0 = 0 from rfl, Nat.zero_testBit]; decide)
  · refine (d s s0 (by omega)).cg (fun k k0 _ => scn_g v h3 s0 k0) (by omega) fun c' a' c0 c1 a0 a1 i => ?_
    obtain ⟨-, q2, q3⟩ := scn_sc v c0 c1 a.2
    exact ⟨by rw [in_cg q2]; exact i, q3 a' a0 a1⟩
  · have g1 : scS (scnR ρ v) s = scS ρ s := scn_g v h3 s0 (Int.le_refl 0)
    have g2 : scS (scnR ρ v) t = scS ρ t := scn_g v h3 (by omega) (Int.le_refl 0)
    rw [g1, g2]
    exact e s t s0 st (by omega)
  · rw [(scn_sc v k0 (by omega) a.2).2.1]
    by_cases z : k + 1 < ρ 3
    · exact f k k0 z
    · rw [show k = ρ 3 - 1 by omega]; exact hl (by omega)
theorem PV.act {ρ : RHO} (V : PV ρ) {c a x y : Int} (hc : c = ρ 3 - 1) (c0 : 0 ≤ c) (a0 : 0 ≤ a) (a1 : a < 6) (hi : inS ρ c a = false) (hx : 0 ≤ x ∧ x ≤ 199) (hy : 0 ≤ y ∧ y ≤ 199) : PV (actR ρ c a x y) := by
  obtain ⟨h1, h2, h3, h4, h5, h6⟩ := V
  obtain ⟨n1, n2, n3⟩ := act_new (ρ := ρ) (c := c) x y a0 a1
  obtain ⟨l1, l2⟩ := act_c (ρ := ρ) (c := c) x y a0 a1
  have e3 : actR ρ c a x y 3 = ρ 3 := act_old (by omega) (by omega) (by omega)
  have e4 : actR ρ c a x y 4 = ρ 4 := act_old (by omega) (by omega) (by omega)
  refine ⟨by omega, by omega, fun k k0 k1 => ?_, fun s s0 s1 => ?_, fun s t s0 st t1 => ?_, fun k k0 k1 => ?_⟩
  · rw [e3] at k1
    by_cases z : k = c
    · subst z
      obtain ⟨r1, r2, r3⟩ := h3 k k0 k1
      unfold SCV
      rw [l1, n1]
      have lt : ((csS ρ k).toNat ||| 2 ^ a.toNat : Nat) < 2 ^ 6 := Nat.or_lt_two_pow (by omega) (Nat.pow_lt_pow_right (by decide) (by omega))
      refine ⟨r1, ⟨by omega, by omega⟩, fun t t0 t1 t2 => ?_⟩
      obtain ⟨m1, m2⟩ := l2 t t0 t1
      by_cases y2 : t = a
      · rw [y2, n2, n3]
        exact ⟨hx, hy⟩
      · rw [(m2 y2).1, (m2 y2).2]
        rw [m1, decide_eq_false (fun q => y2 q.symm), Bool.or_false] at t2
        exact r3 t t0 t1 t2
    · obtain ⟨q1, q2, q3⟩ := act_sc (ρ := ρ) x y a0 a1 z
      obtain ⟨r1, r2, r3⟩ := h3 k k0 k1
      unfold SCV
      rw [q1, q2]
      refine ⟨r1, r2, fun t t0 t1 t2 => ?_⟩
      rw [(q3 t t0 t1).1, (q3 t t0 t1).2]
      exact r3 t t0 t1 (by rw [← in_cg q2 t]; exact t2)
  · rw [e4] at s1
    refine (h4 s s0 s1).cg (fun k k0 _ => act_g x y c0 (by omega) a0 a1 s0 k0) (by omega) fun c' a' g0 g1 b0 b1 i => ?_
    by_cases z : c' = c
    · subst z
      have na : ¬ a' = a := fun q => by rw [q, hi] at i; exact absurd i (by decide)
      obtain ⟨m1, m2⟩ := l2 a' b0 b1
      exact ⟨by rw [m1, i]; rfl, m2 na⟩
    · obtain ⟨q1, q2, q3⟩ := act_sc (ρ := ρ) x y a0 a1 z
      exact ⟨by rw [in_cg q2]; exact i, q3 a' b0 b1⟩
  · have g1 : scS (actR ρ c a x y) s = scS ρ s := act_g x y c0 (by omega) a0 a1 s0 (Int.le_refl 0)
    have g2 : scS (actR ρ c a x y) t = scS ρ t := act_g x y c0 (by omega) a0 a1 (by omega) (Int.le_refl 0)
    rw [g1, g2]
    exact h5 s t s0 st (by omega)
  · rw [(act_sc (ρ := ρ) x y a0 a1 (show ¬ k = c by omega)).2.1]
    exact h6 k k0 (by omega)
theorem sht_c {ρ : RHO} (c x y u w l : Int) (n0 : 0 ≤ ρ 4) {d : Int} (d0 : 0 ≤ d) (d1 : d < 3) : ltS (shtR ρ c x y u w l) d = ltS ρ d ∧ csS (shtR ρ c x y u w l) d = csS ρ d ∧ ∀ a, 0 ≤ a → a < 6 → axS (shtR ρ c x y u w l) d a = axS ρ d a ∧ ayS (shtR ρ c x y u w l) d a = ayS ρ d a :=
  ⟨sht_old (by omega) (by omega), sht_old (by omega) (by omega), fun a a0 a1 => ⟨sht_old (by omega) (by omega), sht_old (by omega) (by omega)⟩⟩
theorem sht_g {ρ : RHO} (c x y u w l : Int) (n0 : 0 ≤ ρ 4) {s k : Int} (s0 : 0 ≤ s) (s1 : s < ρ 4) (k0 : 0 ≤ k) (k1 : k < 6) : gS (shtR ρ c x y u w l) s k = gS ρ s k := sht_old (by omega) (by omega)
theorem PV.sht {ρ : RHO} (V : PV ρ) {c x y u w l : Int} (hc : c = ρ 3 - 1) (c0 : 0 ≤ c) (hn : ρ 4 < 12) (hx : 0 ≤ x ∧ x ≤ 199) (hy : 0 ≤ y ∧ y ≤ 199) (hu : 0 ≤ u ∧ u < 6) (iu : inS ρ c u = true) (hp : ¬ (axS ρ c u = x ∧ ayS ρ c u = y)) (hw : w = -1 ∨ ((0 ≤ w ∧ w < 6) ∧ inS ρ c w = true ∧ ¬ w = u)) (hl : 1 ≤ l ∧ l ≤ 99) : PV (shtR ρ c x y u w l) := by
  obtain ⟨h1, h2, h3, h4, h5, h6⟩ := V
  obtain ⟨n0, n1, n2, n3, n4, n5, n6⟩ := sht_new (ρ := ρ) c x y u w l h2.1
  have e3 : shtR ρ c x y u w l 3 = ρ 3 := sht_old (by omega) (by omega)
  have cg : ∀ {d : Int}, 0 ≤ d → d < 3 → ltS (shtR ρ c x y u w l) d = ltS ρ d ∧ csS (shtR ρ c x y u w l) d = csS ρ d ∧ ∀ a, 0 ≤ a → a < 6 → axS (shtR ρ c x y u w l) d a = axS ρ d a ∧ ayS (shtR ρ c x y u w l) d a = ayS ρ d a := fun d0 d1 => sht_c c x y u w l h2.1 d0 d1
  refine ⟨by omega, by omega, fun k k0 k1 => ?_, fun s s0 s1 => ?_, fun s t s0 st t1 => ?_, fun k k0 k1 => ?_⟩
  · obtain ⟨q1, q2, q3⟩ := cg k0 (by omega)
    obtain ⟨r1, r2, r3⟩ := h3 k k0 (by omega)
    unfold SCV
    rw [q1, q2]
    refine ⟨r1, r2, fun t t0 t1 t2 => ?_⟩
    rw [(q3 t t0 t1).1, (q3 t t0 t1).2]
    exact r3 t t0 t1 (by rw [← in_cg q2 t]; exact t2)
  · by_cases z : s < ρ 4
    · refine (h4 s s0 z).cg (fun k k0 k1 => sht_g c x y u w l h2.1 s0 z k0 k1) (by omega) fun c' a' g0 g1 b0 b1 i => ?_
      obtain ⟨q1, q2, q3⟩ := cg g0 (show c' < 3 by omega)
      exact ⟨by rw [in_cg q2]; exact i, q3 a' b0 b1⟩
    · have s2 : s = ρ 4 := by omega
      obtain ⟨q1, q2, q3⟩ := cg c0 (show c < 3 by omega)
      unfold SHV sxS syS
      rw [s2, n1, n2, n3, n4, n5, n6, in_cg q2, in_cg q2, (q3 u hu.1 hu.2).1, (q3 u hu.1 hu.2).2]
      exact ⟨⟨c0, by omega⟩, hx, hy, hu, iu, hw, hl, hp⟩
  · have g1 : scS (shtR ρ c x y u w l) s = if s < ρ 4 then scS ρ s else c := by
      split
      · rename_i z; exact sht_g c x y u w l h2.1 s0 z (Int.le_refl 0) (by decide)
      · rw [show s = ρ 4 by omega]; exact n1
    have g2 : scS (shtR ρ c x y u w l) t = if t < ρ 4 then scS ρ t else c := by
      split
      · rename_i z; exact sht_g c x y u w l h2.1 (by omega) z (Int.le_refl 0) (by decide)
      · rw [show t = ρ 4 by omega]; exact n1
    rw [g1, g2]
    by_cases z : t < ρ 4
    · rw [if_pos z, if_pos (by omega)]; exact h5 s t s0 st z
    · rw [if_neg z]
      by_cases z2 : s < ρ 4
      · rw [if_pos z2]
        have := (h4 s s0 z2).1
        omega
      · rw [if_neg z2]
        exact Int.le_refl c
  · rw [(cg k0 (by omega)).2.1]
    exact h6 k k0 (by omega)
