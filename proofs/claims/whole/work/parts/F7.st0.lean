/-! STAGE 3: planner and reference new: the first state -/
def sig0 : STT := (false, fun _ => 0, [], 0, fun _ => 0, -1, 0, fun _ => 0)
section Q88
variable {sh2 sh4 : HS} {I0 I2 I4 : HI} {R0 R2 R4 : HR} {l m : Nat} {g g2 b A B : Nat → Nat} {s x y h : Nat → Nat → Nat}
theorem vst0 : VST sig0 := ⟨fun e => absurd e (by decide), fun _ => ⟨rfl, fun _ => rfl⟩, fun h hh => absurd hh List.not_mem_nil, by decide, by decide, fun k hk => absurd hk (Nat.not_lt_zero k), ⟨by decide, by decide⟩, by decide⟩
theorem st0 (hP : PLN (u1 (fun _ => none) l (some (8, 14))) sh2 (u1 I0 l (fun _ => 0)) I2 (u1 R0 l (fun _ => none)) R2 l g b A B s x y h) (hm : sh2 m = none) (hM : PLQ (u1 sh2 m (some (9, 29))) sh4 (u1 I2 m (fun _ => 0)) I4 (u1 R2 m (fun _ => none)) R4 m g2) :
    ∃ AD : Int → Nat, (AD 0 = l ∧ AD 316 = m) ∧ OKS sh4 AD ∧ CIB I4 R4 AD (fun _ s => s) sig0 ∧ CKN I4 AD sig0 ∧ RIB I4 R4 AD sig0 := by
  obtain ⟨⟨as, HA, hperm⟩, g0, ⟨⟨⟨p1, p2, p3, p4, p5, p6⟩, p7, p8, p9⟩, pt, po1, po2, ph, pp⟩, pk, pb, i4, i16, i21, i26⟩ := hP
  obtain ⟨⟨bs, HB, hlist⟩, m0, mr, mi⟩ := hM
  have hl2 : sh2 l = some (8, 14) := (HA.1 l (by rw [u1_eq]; simp)).1.trans (u1_eq _ _ _)
  have hm4 : sh4 m = some (9, 29) := (HB.1 m (by rw [u1_eq]; simp)).1.trans (u1_eq _ _ _)
  have lk : ∀ p, p ∈ (l, 8, 14) :: as → sh2 p.1 = some p.2 := fun p hp => by
    rcases List.mem_cons.mp hp with q | q
    · rw [q]; exact hl2
    · exact (HA.2.2.1 p q).2
  have lnd : (((l, 8, 14) :: as).map (fun p => p.1)).Nodup := List.nodup_cons.mpr ⟨fun q => by
    obtain ⟨p, hp, e⟩ := List.mem_map.mp q
    have w := (HA.2.2.1 p hp).1
    have e : p.1 = l := e
    rw [e, u1_eq] at w
    exact absurd w (by simp), HA.2.1⟩
  rw [all_map1 (g2 := g2)] at hperm
  have k1 : ∀ p, p ∈ (List.range 316).map (fun i : Nat => (ADF g g2 b A B s x y h (i : Int), kd (i : Int))) → sh2 p.1 = some p.2 := fun p hp => lk p (hperm.mem_iff.mpr hp)
  have n1 : (((List.range 316).map (fun i : Nat => (ADF g g2 b A B s x y h (i : Int), kd (i : Int)))).map (fun p => p.1)).Nodup := (hperm.map (fun p => p.1)).nodup_iff.mp lnd
  have mk : ∀ p, p ∈ (m, 9, 29) :: bs → sh4 p.1 = some p.2 ∧ sh2 p.1 = none := fun p hp => by
    rcases List.mem_cons.mp hp with q | q
    · rw [q]; exact ⟨hm4, hm⟩
    · obtain ⟨w1, w2⟩ := HB.2.2.1 p q
      have pm : ¬ p.1 = m := fun e => by rw [e, u1_eq] at w1; exact absurd w1 (by simp)
      rw [u1_ne _ _ pm] at w1
      exact ⟨w2, w1⟩
  have mnd : (((m, 9, 29) :: bs).map (fun p => p.1)).Nodup := List.nodup_cons.mpr ⟨fun q => by
    obtain ⟨p, hp, e⟩ := List.mem_map.mp q
    have w := (HB.2.2.1 p hp).1
    have e : p.1 = m := e
    rw [e, u1_eq] at w
    exact absurd w (by simp), HB.2.1⟩
  rw [hlist] at mk mnd
  have HB2 := HB
  rw [u2_u1] at HB2
  have old : ∀ a k, sh2 a = some k → sh4 a = sh2 a ∧ I4 a = I2 a ∧ R4 a = R2 a := fun a k ha => (ALC.old hm HB2 (a := a) (by rw [ha]; simp)).2
  have OK : OKS sh4 (ADF g g2 b A B s x y h) := by
    refine oks_of ?_ (fun p hp => ?_)
    · rw [all_map2, List.map_append, List.nodup_append]
      refine ⟨n1, mnd, fun a ha c hc e => ?_⟩
      obtain ⟨p, hp, rfl⟩ := List.mem_map.mp ha
      obtain ⟨q, hq, rfl⟩ := List.mem_map.mp hc
      have w1 := k1 p hp
      have w2 := (mk q hq).2
      have e : p.1 = q.1 := e
      rw [e, w2] at w1
      exact absurd w1 (by simp)
    · rw [all_map2] at hp
      rcases List.mem_append.mp hp with q | q
      · have w := k1 p q
        rw [(old _ _ w).1]
        exact w
      · exact (mk p q).1
  have adl : ∀ i : Int, 0 ≤ i → i < 316 → sh2 (ADF g g2 b A B s x y h i) = some (kd i) := fun i h0 h1 => by
    obtain ⟨n, rfl⟩ := Int.eq_ofNat_of_zero_le h0
    exact k1 (ADF g g2 b A B s x y h (n : Int), kd (n : Int)) (List.mem_map.mpr ⟨n, List.mem_range.mpr (by omega), rfl⟩)
  have aR : ∀ i : Int, 0 ≤ i → i < 316 → R4 (ADF g g2 b A B s x y h i) = R2 (ADF g g2 b A B s x y h i) := fun i h0 h1 => (old _ _ (adl i h0 h1)).2.2
  have aI : ∀ i : Int, 0 ≤ i → i < 316 → I4 (ADF g g2 b A B s x y h i) = I2 (ADF g g2 b A B s x y h i) := fun i h0 h1 => (old _ _ (adl i h0 h1)).2.1
  have gR : ∀ k : Nat, k < 28 → R4 (g k) = R2 (g k) := fun k hk => by
    have := aR (k : Int) (by omega) (by omega)
    rw [adg _ (by omega)] at this
    exact this
  have gI : ∀ k : Nat, k < 28 → I4 (g k) = I2 (g k) := fun k hk => by
    have := aI (k : Int) (by omega) (by omega)
    rw [adg _ (by omega)] at this
    exact this
  have bR : ∀ k d : Nat, k < 12 → d < 24 → R4 (bAD (b k) (A k) (B k) (s k) (x k) (y k) (h k) d) = R2 (bAD (b k) (A k) (B k) (s k) (x k) (y k) (h k) d) := fun k d hk hd => by
    have := aR (28 + 24 * (k : Int) + (d : Int)) (by omega) (by omega)
    rw [adb k d hk hd] at this
    exact this
  have lR : R4 l = R2 l := by rw [← g0]; exact gR 0 (by decide)
  have lI : I4 l = I2 l := by rw [← g0]; exact gI 0 (by decide)
  have li : I2 l = u2 (u1 I0 l (fun _ => 0)) l 2 (-1) l := (HA.1 l (by rw [u1_eq]; simp)).2.1
  have mii : I4 m = u2 (u1 I2 m (fun _ => 0)) m 15 (-1) m := (HB.1 m (by rw [u1_eq]; simp)).2.1
  have a_m : ADF g g2 b A B s x y h 316 = m := m0
  have a_l : ADF g g2 b A B s x y h 0 = l := g0
  refine ⟨ADF g g2 b A B s x y h, ⟨g0, m0⟩, OK, ⟨⟨?_, ?_, ?_, ?_, ?_, ?_, fun k hk => ?_, fun k h0 h1 => ?_⟩, ⟨?_, ?_⟩, ⟨?_, ?_, ?_⟩, fun k hk => absurd hk (Nat.not_lt_zero k), ⟨?_, fun k hk => absurd hk (Nat.not_lt_zero k)⟩, fun e => absurd e (by decide), 0, by decide, ?_, ?_, fun t q hq => absurd hq (by simp [sig0])⟩, ⟨Or.inl ?_, Or.inl ?_⟩, ⟨?_, fun j h0 h1 => ?_, ⟨?_, ?_, ?_, ?_, ?_⟩, fun k hk => absurd hk (Nat.not_lt_zero k), fun k hk => absurd hk (Nat.not_lt_zero k), fun t q hq => absurd hq (by simp [sig0])⟩⟩
  · unfold PLR
    have b0 : ADF g g2 b A B s x y h 28 = b 0 := rfl
    have b1 : ADF g g2 b A B s x y h 52 = b 1 := rfl
    rw [a_l, b0, b1, adg 1 (by decide), adg 2 (by decide), adg 4 (by decide), adg 6 (by decide), adg 16 (by decide), adg 21 (by decide), adg 26 (by decide), lR]
    exact ⟨⟨p1, p2, p3, p4, p5, p6⟩, p7, p8, p9⟩
  · show R4 (g 6) 1 = some (g 7) ∧ R4 (g 6) 2 = some (g 8) ∧ R4 (g 6) 3 = some (g 9) ∧ R4 (g 6) 4 = some (g 10) ∧ R4 (g 6) 5 = some (g 11) ∧ R4 (g 6) 6 = some (g 12) ∧ R4 (g 6) 7 = some (g 13) ∧ R4 (g 6) 8 = some (g 14) ∧ R4 (g 6) 9 = some (g 15)
    rw [gR 6 (by decide)]
    exact pt
  · show R4 (g 16) 1 = some (g 17) ∧ R4 (g 16) 2 = some (g 18) ∧ R4 (g 16) 3 = some (g 19) ∧ R4 (g 16) 4 = some (g 20)
    rw [gR 16 (by decide)]
    exact po1
  · show R4 (g 21) 1 = some (g 22) ∧ R4 (g 21) 2 = some (g 23) ∧ R4 (g 21) 3 = some (g 24) ∧ R4 (g 21) 4 = some (g 25)
    rw [gR 21 (by decide)]
    exact po2
  · show R4 (g 4) 0 = some (g 5)
    rw [gR 4 (by decide)]
    exact ph
  · show R4 (g 26) 0 = some (g 27)
    rw [gR 26 (by decide)]
    exact pp
  · have q := adb (g := g) (g2 := g2) (b := b) (A := A) (B := B) (s := s) (x := x) (y := y) (h := h) (k + 2) 0 (by omega) (by decide)
    rw [show (28 + 24 * (((k + 2 : Nat)) : Int) + ((0 : Nat) : Int)) = 28 + 24 * (2 + (k : Int)) by omega] at q
    rw [q]
    show R4 (g 5) k = some (b (k + 2))
    rw [gR 5 (by decide)]
    exact pk k hk
  · obtain ⟨n, rfl⟩ := Int.eq_ofNat_of_zero_le h0
    have hn : n < 12 := by omega
    refine bsh_of n hn ((pb n hn).cg (bR n 0 hn (by decide)) (bR n 1 hn (by decide)) (bR n 2 hn (by decide)) (fun c hc => ?_))
    have := bR n (3 + 3 * c) hn (by omega)
    rw [(bAD_s c hc).1] at this
    exact this
  · show I4 (g 16) 0 = _
    rw [gI 16 (by decide), i16]
    rfl
  · show I4 (g 21) 0 = _
    rw [gI 21 (by decide), i21]
    rfl
  · rw [a_l, lI, li, u2_at, u1_eq]; rfl
  · rw [a_l, lI, li, u2_at]; rfl
  · rw [a_l, lI, li, u2_at, u1_eq]; rfl
  · show I4 (g 26) 1 = _
    rw [gI 26 (by decide), i26]; rfl
  · show I4 (g 4) 1 = _
    rw [gI 4 (by decide), i4]; rfl
  · show I4 (g 4) 2 = _
    rw [gI 4 (by decide), i4]; rfl
  · rw [a_l, lI, li, u2_at, u1_eq]; rfl
  · rw [a_l, lI, li, u2_at, u1_eq]; rfl
  · unfold MR
    rw [a_m]
    exact mr
  · show I4 (g2 1) j.toNat = _
    rw [mi]; rfl
  · rw [a_m, mii, u2_at, u1_eq]; rfl
  · rw [a_m, mii, u2_at, u1_eq]; rfl
  · rw [a_m, mii, u2_at, u1_eq]; rfl
  · rw [a_m, mii, u2_at]; rfl
  · rw [a_m, mii, u2_at, u1_eq]; rfl
end Q88
