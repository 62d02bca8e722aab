/-! STAGE 2: the drafts of both sides -/
section Q55
variable {fu : Nat} {sh : HS} {I I' : HI} {R : HR} {AD : Int → Nat} {ρ : RHO} {p : Int → Int} {W : Int → Nat → Prop}
theorem BVL.fq {o : Int} (B : BVL I AD o p ρ) (V : PV ρ) (h0 : 0 ≤ o) (h1 : o + 24 ≤ 331) (hp : ∀ s, 0 ≤ s → s < 12 → 0 ≤ p s ∧ p s < 12) (F : FR AD I I' W) (h : ∀ i k, o ≤ i → i < o + 24 → ¬ W i k) : BVL I' AD o p ρ := by
  have hm := V.1
  have hn := V.2.1
  have e : ∀ i, o ≤ i → i < o + 24 → ∀ k, I' (AD i) k = I (AD i) k := fun i h1 h2 k => F i (by omega) (by omega) k (h i k h1 h2)
  obtain ⟨⟨b0, b1, b2, b3, b4⟩, b5, b6⟩ := B
  refine ⟨⟨(e _ (by omega) (by omega) _).trans b0, (e _ (by omega) (by omega) _).trans b1, (e _ (by omega) (by omega) _).trans b2, (e _ (by omega) (by omega) _).trans b3, (e _ (by omega) (by omega) _).trans b4⟩, fun c g0 g1 => ?_, fun s g0 g1 => ?_⟩
  · obtain ⟨⟨c0, c1⟩, c2⟩ := b5 c g0 g1
    refine ⟨⟨(e _ (by omega) (by omega) _).trans c0, (e _ (by omega) (by omega) _).trans c1⟩, fun a a0 a1 a2 => ?_⟩
    obtain ⟨d0, d1⟩ := c2 a a0 a1 a2
    exact ⟨(e _ (by omega) (by omega) _).trans d0, (e _ (by omega) (by omega) _).trans d1⟩
  · obtain ⟨s0, s1, s2, s3, s4, s5⟩ := b6 s g0 g1
    have ps := hp s g0 (by omega)
    exact ⟨(e _ (by omega) (by omega) _).trans s0, (e _ (by omega) (by omega) _).trans s1, (e _ (by omega) (by omega) _).trans s2, (e _ (by omega) (by omega) _).trans s3, (e _ (by omega) (by omega) _).trans s4, (e _ (by omega) (by omega) _).trans s5⟩
/-- a shot beyond the last may be written -/
theorem BVL.fs (B : BVL I AD 52 p ρ) (V : PV ρ) (hn : ρ 4 < 12) (hp : ∀ s, 0 ≤ s → s < 12 → 0 ≤ p s ∧ p s < 12) (hj : ∀ s t, 0 ≤ s → s < 12 → 0 ≤ t → t < 12 → p s = p t → s = t) (F : FR AD I I' W) (h : ∀ i k, 52 ≤ i → i < 76 → W i k → i = 52 + 12 + p (ρ 4)) : BVL I' AD 52 p ρ := by
  have hm := V.1
  have hn2 := V.2.1
  have pn := hp (ρ 4) hn2.1 hn
  have e : ∀ i k, 52 ≤ i → i < 76 → ¬ i = 52 + 12 + p (ρ 4) → I' (AD i) k = I (AD i) k := fun i k h1 h2 h3 => F i (by omega) (by omega) k (fun w => h3 (h i k h1 h2 w))
  obtain ⟨⟨b0, b1, b2, b3, b4⟩, b5, b6⟩ := B
  refine ⟨⟨(e _ _ (by omega) (by omega) (by omega)).trans b0, (e _ _ (by omega) (by omega) (by omega)).trans b1, (e _ _ (by omega) (by omega) (by omega)).trans b2, (e _ _ (by omega) (by omega) (by omega)).trans b3, (e _ _ (by omega) (by omega) (by omega)).trans b4⟩, fun c g0 g1 => ?_, fun s g0 g1 => ?_⟩
  · obtain ⟨⟨c0, c1⟩, c2⟩ := b5 c g0 g1
    refine ⟨⟨(e _ _ (by omega) (by omega) (by omega)).trans c0, (e _ _ (by omega) (by omega) (by omega)).trans c1⟩, fun a a0 a1 a2 => ?_⟩
    obtain ⟨d0, d1⟩ := c2 a a0 a1 a2
    exact ⟨(e _ _ (by omega) (by omega) (by omega)).trans d0, (e _ _ (by omega) (by omega) (by omega)).trans d1⟩
  · obtain ⟨s0, s1, s2, s3, s4, s5⟩ := b6 s g0 g1
    have ps := hp s g0 (by omega)
    have ne : ¬ p s = p (ρ 4) := fun q => by have := hj s (ρ 4) g0 (by omega) hn2.1 hn q; omega
    exact ⟨(e _ _ (by omega) (by omega) (by omega)).trans s0, (e _ _ (by omega) (by omega) (by omega)).trans s1, (e _ _ (by omega) (by omega) (by omega)).trans s2, (e _ _ (by omega) (by omega) (by omega)).trans s3, (e _ _ (by omega) (by omega) (by omega)).trans s4, (e _ _ (by omega) (by omega) (by omega)).trans s5⟩
theorem BVL.scn (B : BVL I AD 52 p ρ) (V : PV ρ) (h3 : ρ 3 < 3) (hp : ∀ s, 0 ≤ s → s < 12 → 0 ≤ p s ∧ p s < 12) (F : FR AD I I' W) (hW : ∀ i k, 52 ≤ i → i < 76 → W i k → (i = 52 ∧ k = 3) ∨ (i = 52 + 3 + 3 * ρ 3 ∧ k ≤ 1)) {v : Int} (w3 : I' (AD 52) 3 = iz (ρ 3 + 1)) (w0 : I' (AD (52 + 3 + 3 * ρ 3)) 0 = iz v) (w1 : I' (AD (52 + 3 + 3 * ρ 3)) 1 = iz 0) : BVL I' AD 52 p (scnR ρ v) := by
  have hm := V.1
  have hn := V.2.1
  have e : ∀ i k, 52 ≤ i → i < 76 → ¬ ((i = 52 ∧ k = 3) ∨ (i = 52 + 3 + 3 * ρ 3 ∧ k ≤ 1)) → I' (AD i) k = I (AD i) k := fun i k h1 h2 h3 => F i (by omega) (by omega) k (fun w => h3 (hW i k h1 h2 w))
  obtain ⟨⟨b0, b1, b2, b3, b4⟩, b5, b6⟩ := B
  obtain ⟨n1, n2, n3⟩ := scn_new v hm.1
  have o : ∀ j, 0 ≤ j → j < 5 → ¬ j = 3 → scnR ρ v j = ρ j := fun j h1 h2 h3 => scn_old h3 (by omega) (by omega)
  refine ⟨⟨?_, ?_, ?_, by rw [w3, n1], ?_⟩, fun c g0 g1 => ?_, fun s g0 g1 => ?_⟩
  · rw [o 0 (by decide) (by decide) (by decide)]; exact (e _ _ (by omega) (by omega) (by omega)).trans b0
  · rw [o 1 (by decide) (by decide) (by decide)]; exact (e _ _ (by omega) (by omega) (by omega)).trans b1
  · rw [o 2 (by decide) (by decide) (by decide)]; exact (e _ _ (by omega) (by omega) (by omega)).trans b2
  · rw [o 4 (by decide) (by decide) (by decide)]; exact (e _ _ (by omega) (by omega) (by omega)).trans b4
  · rw [n1] at g1
    by_cases z : c < ρ 3
    · obtain ⟨q1, q2, q3⟩ := scn_sc v g0 z hm.2
      obtain ⟨⟨c0, c1⟩, c2⟩ := b5 c g0 z
      rw [q1, q2]
      refine ⟨⟨(e _ _ (by omega) (by omega) (by omega)).trans c0, (e _ _ (by omega) (by omega) (by omega)).trans c1⟩, fun a a0 a1 a2 => ?_⟩
      obtain ⟨d0, d1⟩ := c2 a a0 a1 (by rw [← in_cg q2 a]; exact a2)
      rw [(q3 a a0 a1).1, (q3 a a0 a1).2]
      exact ⟨(e _ _ (by omega) (by omega) (by omega)).trans d0, (e _ _ (by omega) (by omega) (by omega)).trans d1⟩
    · have k2 : c = ρ 3 := by omega
      rw [k2, n2, n3]
      refine ⟨⟨w0, w1⟩, fun a a0 a1 a2 => ?_⟩
      unfold inS at a2
      rw [n3] at a2
      exact absurd a2 (by rw [show Int.toNat 0 = 0 from rfl, Nat.zero_testBit]; decide)
  · rw [o 4 (by decide) (by decide) (by decide)] at g1
    obtain ⟨s0, s1, s2, s3, s4, s5⟩ := b6 s g0 g1
    have ps := hp s g0 (by omega)
    have gg : ∀ k, 0 ≤ k → gS (scnR ρ v) s k = gS ρ s k := fun k k0 => scn_g v h3 g0 k0
    unfold scS cxS cyS suS paS lnS
    rw [gg 0 (by decide), gg 1 (by decide), gg 2 (by decide), gg 3 (by decide), gg 4 (by decide), gg 5 (by decide)]
    exact ⟨(e _ _ (by omega) (by omega) (by omega)).trans s0, (e _ _ (by omega) (by omega) (by omega)).trans s1, (e _ _ (by omega) (by omega) (by omega)).trans s2, (e _ _ (by omega) (by omega) (by omega)).trans s3, (e _ _ (by omega) (by omega) (by omega)).trans s4, (e _ _ (by omega) (by omega) (by omega)).trans s5⟩
theorem BVL.act (B : BVL I AD 52 p ρ) (V : PV ρ) (hp : ∀ s, 0 ≤ s → s < 12 → 0 ≤ p s ∧ p s < 12) {c a x y : Int} (c0 : 0 ≤ c) (c1 : c < ρ 3) (a0 : 0 ≤ a) (a1 : a < 6) (F : FR AD I I' W) (hW : ∀ i k, 52 ≤ i → i < 76 → W i k → (i = 52 + 3 + 3 * c ∧ k = 1) ∨ (i = 52 + 4 + 3 * c ∧ k = a.toNat) ∨ (i = 52 + 5 + 3 * c ∧ k = a.toNat)) (w0 : I' (AD (52 + 3 + 3 * c)) 1 = iz (((csS ρ c).toNat ||| 2 ^ a.toNat : Nat) : Int)) (w1 : I' (AD (52 + 4 + 3 * c)) a.toNat = iz x) (w2 : I' (AD (52 + 5 + 3 * c)) a.toNat = iz y) : BVL I' AD 52 p (actR ρ c a x y) := by
  have hm := V.1
  have hn := V.2.1
  have e : ∀ i k, 52 ≤ i → i < 76 → ¬ ((i = 52 + 3 + 3 * c ∧ k = 1) ∨ (i = 52 + 4 + 3 * c ∧ k = a.toNat) ∨ (i = 52 + 5 + 3 * c ∧ k = a.toNat)) → I' (AD i) k = I (AD i) k := fun i k h1 h2 h3 => F i (by omega) (by omega) k (fun w => h3 (hW i k h1 h2 w))
  obtain ⟨⟨b0, b1, b2, b3, b4⟩, b5, b6⟩ := B
  obtain ⟨n1, n2, n3⟩ := act_new (ρ := ρ) (c := c) x y a0 a1
  obtain ⟨l1, l2⟩ := act_c (ρ := ρ) (c := c) x y a0 a1
  have o : ∀ j, 0 ≤ j → j < 5 → actR ρ c a x y j = ρ j := fun j h1 h2 => act_old (by omega) (by omega) (by omega)
  refine ⟨⟨?_, ?_, ?_, ?_, ?_⟩, fun d g0 g1 => ?_, fun s g0 g1 => ?_⟩
  · rw [o 0 (by decide) (by decide)]; exact (e _ _ (by omega) (by omega) (by omega)).trans b0
  · rw [o 1 (by decide) (by decide)]; exact (e _ _ (by omega) (by omega) (by omega)).trans b1
  · rw [o 2 (by decide) (by decide)]; exact (e _ _ (by omega) (by omega) (by omega)).trans b2
  · rw [o 3 (by decide) (by decide)]; exact (e _ _ (by omega) (by omega) (by omega)).trans b3
  · rw [o 4 (by decide) (by decide)]; exact (e _ _ (by omega) (by omega) (by omega)).trans b4
  · rw [o 3 (by decide) (by decide)] at g1
    obtain ⟨⟨v0, v1⟩, v2⟩ := b5 d g0 g1
    by_cases z : d = c
    · subst z
      rw [l1, n1]
      refine ⟨⟨(e _ _ (by omega) (by omega) (by omega)).trans v0, w0⟩, fun t t0 t1 t2 => ?_⟩
      obtain ⟨m1, m2⟩ := l2 t t0 t1
      by_cases y2 : t = a
      · rw [y2, n2, n3]
        exact ⟨w1, w2⟩
      · rw [(m2 y2).1, (m2 y2).2]
        rw [m1, decide_eq_false (fun q => y2 q.symm), Bool.or_false] at t2
        obtain ⟨d0, d1⟩ := v2 t t0 t1 t2
        exact ⟨(e _ _ (by omega) (by omega) (by omega)).trans d0, (e _ _ (by omega) (by omega) (by omega)).trans d1⟩
    · obtain ⟨q1, q2, q3⟩ := act_sc (ρ := ρ) x y a0 a1 z
      rw [q1, q2]
      refine ⟨⟨(e _ _ (by omega) (by omega) (by omega)).trans v0, (e _ _ (by omega) (by omega) (by omega)).trans v1⟩, fun t t0 t1 t2 => ?_⟩
      obtain ⟨d0, d1⟩ := v2 t t0 t1 (by rw [← in_cg q2 t]; exact t2)
      rw [(q3 t t0 t1).1, (q3 t t0 t1).2]
      exact ⟨(e _ _ (by omega) (by omega) (by omega)).trans d0, (e _ _ (by omega) (by omega) (by omega)).trans d1⟩
  · rw [o 4 (by decide) (by decide)] at g1
    obtain ⟨s0, s1, s2, s3, s4, s5⟩ := b6 s g0 g1
    have ps := hp s g0 (by omega)
    have gg : ∀ k, 0 ≤ k → gS (actR ρ c a x y) s k = gS ρ s k := fun k k0 => act_g x y c0 (by omega) a0 a1 g0 k0
    unfold scS cxS cyS suS paS lnS
    rw [gg 0 (by decide), gg 1 (by decide), gg 2 (by decide), gg 3 (by decide), gg 4 (by decide), gg 5 (by decide)]
    exact ⟨(e _ _ (by omega) (by omega) (by omega)).trans s0, (e _ _ (by omega) (by omega) (by omega)).trans s1, (e _ _ (by omega) (by omega) (by omega)).trans s2, (e _ _ (by omega) (by omega) (by omega)).trans s3, (e _ _ (by omega) (by omega) (by omega)).trans s4, (e _ _ (by omega) (by omega) (by omega)).trans s5⟩
theorem BVL.sht (B : BVL I AD 52 p ρ) (V : PV ρ) (hn4 : ρ 4 < 12) (hp : ∀ s, 0 ≤ s → s < 12 → 0 ≤ p s ∧ p s < 12) (hj : ∀ s t, 0 ≤ s → s < 12 → 0 ≤ t → t < 12 → p s = p t → s = t) {c x y u w l : Int} (F : FR AD I I' W) (hW : ∀ i k, 52 ≤ i → i < 76 → W i k → (i = 52 ∧ k = 4) ∨ i = 52 + 12 + p (ρ 4)) (w4 : I' (AD 52) 4 = iz (ρ 4 + 1)) (x0 : I' (AD (52 + 12 + p (ρ 4))) 0 = iz c) (x1 : I' (AD (52 + 12 + p (ρ 4))) 1 = iz x) (x2 : I' (AD (52 + 12 + p (ρ 4))) 2 = iz y) (x3 : I' (AD (52 + 12 + p (ρ 4))) 3 = iz u) (x4 : I' (AD (52 + 12 + p (ρ 4))) 4 = iz w) (x5 : I' (AD (52 + 12 + p (ρ 4))) 5 = iz l) : BVL I' AD 52 p (shtR ρ c x y u w l) := by
  have hm := V.1
  have hn := V.2.1
  have pn := hp (ρ 4) hn.1 hn4
  have e : ∀ i k, 52 ≤ i → i < 76 → ¬ ((i = 52 ∧ k = 4) ∨ i = 52 + 12 + p (ρ 4)) → I' (AD i) k = I (AD i) k := fun i k h1 h2 h3 => F i (by omega) (by omega) k (fun w => h3 (hW i k h1 h2 w))
  obtain ⟨⟨b0, b1, b2, b3, b4⟩, b5, b6⟩ := B
  obtain ⟨n0, n1, n2, n3, n4, n5, n6⟩ := sht_new (ρ := ρ) c x y u w l hn.1
  have o : ∀ j, 0 ≤ j → j < 5 → ¬ j = 4 → shtR ρ c x y u w l j = ρ j := fun j h1 h2 h3 => sht_old h3 (by omega)
  refine ⟨⟨?_, ?_, ?_, ?_, by rw [w4, n0]⟩, fun d g0 g1 => ?_, fun s g0 g1 => ?_⟩
  · rw [o 0 (by decide) (by decide) (by decide)]; exact (e _ _ (by omega) (by omega) (by omega)).trans b0
  · rw [o 1 (by decide) (by decide) (by decide)]; exact (e _ _ (by omega) (by omega) (by omega)).trans b1
  · rw [o 2 (by decide) (by decide) (by decide)]; exact (e _ _ (by omega) (by omega) (by omega)).trans b2
  · rw [o 3 (by decide) (by decide) (by decide)]; exact (e _ _ (by omega) (by omega) (by omega)).trans b3
  · rw [o 3 (by decide) (by decide) (by decide)] at g1
    obtain ⟨⟨c0, c1⟩, c2⟩ := b5 d g0 g1
    obtain ⟨q1, q2, q3⟩ := sht_c (ρ := ρ) c x y u w l hn.1 g0 (show d < 3 by omega)
    rw [q1, q2]
    refine ⟨⟨(e _ _ (by omega) (by omega) (by omega)).trans c0, (e _ _ (by omega) (by omega) (by omega)).trans c1⟩, fun t t0 t1 t2 => ?_⟩
    obtain ⟨d0, d1⟩ := c2 t t0 t1 (by rw [← in_cg q2 t]; exact t2)
    rw [(q3 t t0 t1).1, (q3 t t0 t1).2]
    exact ⟨(e _ _ (by omega) (by omega) (by omega)).trans d0, (e _ _ (by omega) (by omega) (by omega)).trans d1⟩
  · rw [n0] at g1
    by_cases z : s < ρ 4
    · obtain ⟨s0, s1, s2, s3, s4, s5⟩ := b6 s g0 z
      have ps := hp s g0 (by omega)
      have ne : ¬ p s = p (ρ 4) := fun q => by have := hj s (ρ 4) g0 (by omega) hn.1 hn4 q; omega
      have gg : ∀ k, 0 ≤ k → k < 6 → gS (shtR ρ c x y u w l) s k = gS ρ s k := fun k k0 k1 => sht_g c x y u w l hn.1 g0 z k0 k1
      unfold scS cxS cyS suS paS lnS
      rw [gg 0 (by decide) (by decide), gg 1 (by decide) (by decide), gg 2 (by decide) (by decide), gg 3 (by decide) (by decide), gg 4 (by decide) (by decide), gg 5 (by decide) (by decide)]
      exact ⟨(e _ _ (by omega) (by omega) (by omega)).trans s0, (e _ _ (by omega) (by omega) (by omega)).trans s1, (e _ _ (by omega) (by omega) (by omega)).trans s2, (e _ _ (by omega) (by omega) (by omega)).trans s3, (e _ _ (by omega) (by omega) (by omega)).trans s4, (e _ _ (by omega) (by omega) (by omega)).trans s5⟩
    · have k2 : s = ρ 4 := by omega
      rw [k2, n1, n2, n3, n4, n5, n6]
      exact ⟨x0, x1, x2, x3, x4, x5⟩
end Q55
