/-! THE LAW, STAGE 2: a planner that has just been made -/
section NW
variable {sh sh' : HS} {I I' : HI} {R R' : HR} {l : Nat} {g b A B : Nat → Nat} {s x y h : Nat → Nat → Nat} {AD AD' : Int → Nat} {o : Int} {p : Int → Int}
theorem BSH.ad (q : AGR6 AD AD') (h0 : 0 ≤ o) (h1 : o + 24 ≤ 316) (H : BSH R AD o p) : BSH R AD' o p := by
  obtain ⟨a1, a2, a3, a4, a5⟩ := H
  refine ⟨?_, ?_, fun c c0 c1 => ?_, fun t t0 t1 => ?_, a5⟩
  · rw [q o (by omega) (by omega), q (o + 1) (by omega) (by omega)]; exact a1
  · rw [q o (by omega) (by omega), q (o + 2) (by omega) (by omega)]; exact a2
  · rw [q (o + 1) (by omega) (by omega), q (o + 3 + 3 * c) (by omega) (by omega), q (o + 4 + 3 * c) (by omega) (by omega), q (o + 5 + 3 * c) (by omega) (by omega)]
    exact a3 c c0 c1
  · obtain ⟨b1, b2, b3⟩ := a4 t t0 t1
    rw [q (o + 2) (by omega) (by omega), q (o + 12 + p t) (by omega) (by omega)]
    exact ⟨b1, b2, b3⟩
theorem pl_new (ha : sh l = none) (hP : PLN (u1 sh l (some (8, 14))) sh' (u1 I l (fun _ => 0)) I' (u1 R l (fun _ => none)) R' l g b A B s x y h) :
    ∃ AD : Int → Nat, AD 0 = l ∧ PLS sh' I' R' sig0 AD ∧ (∀ i, 0 ≤ i → i < 316 → sh (AD i) = none) ∧ EXH (fun _ => False) sh I R sh' I' R' := by
  obtain ⟨⟨as, HA, hperm⟩, g0, ⟨⟨⟨p1, p2, p3, p4, p5, p6⟩, p7, p8, p9⟩, pt, po1, po2, ph, pp⟩, pk, pb, i4, i16, i21, i26⟩ := hP
  have hl2 : sh' l = some (8, 14) := (HA.1 l (by rw [u1_eq]; simp)).1.trans (u1_eq _ _ _)
  have lk : ∀ q, q ∈ (l, 8, 14) :: as → sh' q.1 = some q.2 ∧ sh q.1 = none := fun q hq => by
    rcases List.mem_cons.mp hq with z | z
    · rw [z]; exact ⟨hl2, ha⟩
    · obtain ⟨w1, w2⟩ := HA.2.2.1 q z
      have ql : ¬ q.1 = l := fun e => by rw [e, u1_eq] at w1; exact absurd w1 (by simp)
      rw [u1_ne _ _ ql] at w1
      exact ⟨w2, w1⟩
  have lnd : (((l, 8, 14) :: as).map (fun q => q.1)).Nodup := List.nodup_cons.mpr ⟨fun q => by
    obtain ⟨z, hz, e⟩ := List.mem_map.mp q
    have w := (HA.2.2.1 z hz).1
    have e : z.1 = l := e
    rw [e, u1_eq] at w
    exact absurd w (by simp), HA.2.1⟩
  obtain ⟨M, hM⟩ := bnd6 (ADF g (fun _ => 0) b A B s x y h) 316
  have same : ∀ i : Int, i < 316 → ADF g (fun k => M + k) b A B s x y h i = ADF g (fun _ => 0) b A B s x y h i := fun i hi => by
    unfold ADF
    by_cases z : i < 28
    · rw [if_pos z, if_pos z]
    · rw [if_neg z, if_neg z, if_pos hi, if_pos hi]
  rw [all_map1 (g2 := fun k => M + k)] at hperm
  have k1 : ∀ q, q ∈ (List.range 316).map (fun i : Nat => (ADF g (fun k => M + k) b A B s x y h (i : Int), kd (i : Int))) → sh' q.1 = some q.2 ∧ sh q.1 = none := fun q hq => lk q (hperm.mem_iff.mpr hq)
  have n1 : (((List.range 316).map (fun i : Nat => (ADF g (fun k => M + k) b A B s x y h (i : Int), kd (i : Int)))).map (fun q => q.1)).Nodup := (hperm.map (fun q => q.1)).nodup_iff.mp lnd
  have adl : ∀ i : Int, 0 ≤ i → i < 316 → sh' (ADF g (fun k => M + k) b A B s x y h i) = some (kd i) ∧ sh (ADF g (fun k => M + k) b A B s x y h i) = none := fun i h0 h1 => by
    obtain ⟨n, rfl⟩ := Int.eq_ofNat_of_zero_le h0
    exact k1 (ADF g (fun k => M + k) b A B s x y h (n : Int), kd (n : Int)) (List.mem_map.mpr ⟨n, List.mem_range.mpr (by omega), rfl⟩)
  have inj6 : ∀ i j : Nat, i < 316 → j < 316 → i < j → ¬ ADF g (fun k => M + k) b A B s x y h (i : Int) = ADF g (fun k => M + k) b A B s x y h (j : Int) := by
    intro i j hi hj hij
    have n2 := n1
    rw [List.map_map] at n2
    have q := List.pairwise_iff_getElem.mp n2 i j (by rw [List.length_map, List.length_range]; exact hi) (by rw [List.length_map, List.length_range]; exact hj) hij
    rw [List.getElem_map, List.getElem_map, List.getElem_range, List.getElem_range] at q
    exact q
  have hi9 : ∀ i : Nat, 316 ≤ i → ADF g (fun k => M + k) b A B s x y h (i : Int) = M + (i - 316) := fun i hi => by
    unfold ADF
    rw [if_neg (by omega), if_neg (by omega)]
    show M + ((i : Int) - 316).toNat = _
    omega
  have lo9 : ∀ i : Nat, i < 316 → ADF g (fun k => M + k) b A B s x y h (i : Int) < M := fun i hi => by
    rw [same _ (by omega)]
    exact hM i hi
  have INJ9 : INJ (ADF g (fun k => M + k) b A B s x y h) := by
    intro i j i0 i1 j0 j1 e
    obtain ⟨i, rfl⟩ := Int.eq_ofNat_of_zero_le i0
    obtain ⟨j, rfl⟩ := Int.eq_ofNat_of_zero_le j0
    have e : ADF g (fun k => M + k) b A B s x y h (i : Int) = ADF g (fun k => M + k) b A B s x y h (j : Int) := e
    by_cases z : i < 316
    · by_cases w : j < 316
      · rcases Nat.lt_trichotomy i j with v | v | v
        · exact absurd e (inj6 i j z w v)
        · rw [v]
        · exact absurd e.symm (inj6 j i w z v)
      · have q1 := lo9 i z
        have q2 := hi9 j (by omega)
        omega
    · by_cases w : j < 316
      · have q1 := lo9 j w
        have q2 := hi9 i (by omega)
        omega
      · have q1 := hi9 i (by omega)
        have q2 := hi9 j (by omega)
        omega
  have li : I' l = u2 (u1 I l (fun _ => 0)) l 2 (-1) l := (HA.1 l (by rw [u1_eq]; simp)).2.1
  have a_l : ADF g (fun k => M + k) b A B s x y h 0 = l := g0
  have EX0 : EXH (fun _ => False) sh I R sh' I' R' := by
    have key : ∀ c, ¬ sh c = none → sh' c = sh c ∧ I' c = I c ∧ R' c = R c := fun c hc => by
      have cl : ¬ c = l := fun e => hc (by rw [e]; exact ha)
      obtain ⟨e1, e2, e3⟩ := HA.1 c (by rw [u1_ne _ _ cl]; exact hc)
      refine ⟨e1.trans (u1_ne _ _ cl), ?_, (e3 cl).trans (u1_ne _ _ cl)⟩
      rw [e2]
      funext j
      rw [u2_off cl, u1_off cl]
    exact ⟨fun c hc => (key c hc).1, fun c hc _ => (key c hc).2⟩
  refine ⟨ADF g (fun k => M + k) b A B s x y h, g0, ⟨fun i i0 i1 => (adl i i0 i1).1, INJ9, vst0, fun AD' q j => ⟨fun _ s => s, ⟨⟨?_, ?_, ?_, ?_, ?_, ?_, fun k hk => ?_, fun k h0 h1 => ?_⟩, ⟨?_, ?_⟩, ⟨?_, ?_, ?_⟩, fun k hk => absurd hk (Nat.not_lt_zero k), ⟨?_, fun k hk => absurd hk (Nat.not_lt_zero k)⟩, fun e => absurd e (by decide), 0, by decide, ?_, ?_, fun t q hq => absurd hq (by simp [sig0])⟩, ⟨Or.inl ?_, Or.inl ?_⟩⟩⟩, fun i i0 i1 => (adl i i0 i1).2, EX0⟩
  · have b0 : ADF g (fun k => M + k) b A B s x y h 28 = b 0 := rfl
    have b1 : ADF g (fun k => M + k) b A B s x y h 52 = b 1 := rfl
    unfold PLR
    rw [q 0 (by decide) (by decide), q 28 (by decide) (by decide), q 52 (by decide) (by decide), q 1 (by decide) (by decide), q 2 (by decide) (by decide), q 4 (by decide) (by decide), q 6 (by decide) (by decide), q 16 (by decide) (by decide), q 21 (by decide) (by decide), q 26 (by decide) (by decide), a_l, b0, b1, adg 1 (by decide), adg 2 (by decide), adg 4 (by decide), adg 6 (by decide), adg 16 (by decide), adg 21 (by decide), adg 26 (by decide)]
    exact ⟨⟨p1, p2, p3, p4, p5, p6⟩, p7, p8, p9⟩
  · unfold TR
    simp only [q 6 (by decide) (by decide), q 7 (by decide) (by decide), q 8 (by decide) (by decide), q 9 (by decide) (by decide), q 10 (by decide) (by decide), q 11 (by decide) (by decide), q 12 (by decide) (by decide), q 13 (by decide) (by decide), q 14 (by decide) (by decide), q 15 (by decide) (by decide)]
    exact pt
  · have e : ROR R' (ADF g (fun k => M + k) b A B s x y h) 16 := po1
    unfold ROR at e ⊢
    rw [q 16 (by decide) (by decide), q (16 + 1) (by decide) (by decide), q (16 + 2) (by decide) (by decide), q (16 + 3) (by decide) (by decide), q (16 + 4) (by decide) (by decide)]
    exact e
  · have e : ROR R' (ADF g (fun k => M + k) b A B s x y h) 21 := po2
    unfold ROR at e ⊢
    rw [q 21 (by decide) (by decide), q (21 + 1) (by decide) (by decide), q (21 + 2) (by decide) (by decide), q (21 + 3) (by decide) (by decide), q (21 + 4) (by decide) (by decide)]
    exact e
  · rw [q 4 (by decide) (by decide), q 5 (by decide) (by decide)]
    exact ph
  · rw [q 26 (by decide) (by decide), q 27 (by decide) (by decide)]
    exact pp
  · have w := adb (g := g) (g2 := fun k => M + k) (b := b) (A := A) (B := B) (s := s) (x := x) (y := y) (h := h) (k + 2) 0 (by omega) (by decide)
    rw [show (28 + 24 * (((k + 2 : Nat)) : Int) + ((0 : Nat) : Int)) = 28 + 24 * (2 + (k : Int)) by omega] at w
    rw [q 5 (by decide) (by decide), q (28 + 24 * (2 + (k : Int))) (by omega) (by omega), w]
    exact pk k hk
  · obtain ⟨n, rfl⟩ := Int.eq_ofNat_of_zero_le h0
    exact (bsh_of n (by omega) (pb n (by omega))).ad q (by omega) (by omega)
  · rw [q 16 (by decide) (by decide)]
    show I' (g 16) 0 = _
    rw [i16]
    rfl
  · rw [q 21 (by decide) (by decide)]
    show I' (g 21) 0 = _
    rw [i21]
    rfl
  · rw [q 0 (by decide) (by decide), a_l, li, u2_at, u1_eq]; rfl
  · rw [q 0 (by decide) (by decide), a_l, li, u2_at]; rfl
  · rw [q 0 (by decide) (by decide), a_l, li, u2_at, u1_eq]; rfl
  · rw [q 26 (by decide) (by decide)]
    show I' (g 26) 1 = _
    rw [i26]; rfl
  · rw [q 4 (by decide) (by decide)]
    show I' (g 4) 1 = _
    rw [i4]; rfl
  · rw [q 4 (by decide) (by decide)]
    show I' (g 4) 2 = _
    rw [i4]; rfl
  · rw [q 0 (by decide) (by decide), a_l, li, u2_at, u1_eq]; rfl
  · rw [q 0 (by decide) (by decide), a_l, li, u2_at, u1_eq]; rfl
end NW
