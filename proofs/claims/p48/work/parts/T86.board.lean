/-! STAGE 2: the class copies a board -/
section Q21
variable {fu : Nat} {sh : HS} {R : HR} {AD : Int → Nat} {b1 b2 : Int} {p1 p2 : Int → Int}
theorem c_copyShots (S : OKS sh AD) (h1 : 0 ≤ b1 ∧ b1 < 12) (h2 : 0 ≤ b2 ∧ b2 < 12) (hne : ¬ b1 = b2) (B1 : BSH R AD (28 + 24 * b1) p1) (B2 : BSH R AD (28 + 24 * b2) p2) : ∀ d j c : Nat, c + d = 12 → d < j → ∀ I : HI,
    ∃ I', fX0_copyFrom_l70 fu sh R j I (AD (28 + 24 * b1)) (AD (28 + 24 * b2)) (iz (c : Int)) = some I' ∧ (∀ s : Int, (c : Int) ≤ s → s < 12 → ∀ k : Nat, k < 6 → I' (AD (28 + 24 * b1 + 12 + p1 s)) k = I (AD (28 + 24 * b2 + 12 + p2 s)) k) ∧ FR AD I I' (fun i _ => ∃ s : Int, (c : Int) ≤ s ∧ s < 12 ∧ i = 28 + 24 * b1 + 12 + p1 s) := by
  intro d
  induction d with
  | zero =>
    intro j c hc hj I
    obtain ⟨j, rfl⟩ : ∃ t, j = t + 1 := ⟨j - 1, by omega⟩
    have e : c = 12 := by omega
    subst e
    refine ⟨I, ?_, fun s g0 g1 => ?_, FR.rf _ _ _⟩
    · show fX0_copyFrom_b70 fu sh R (fX0_copyFrom_l70 fu sh R j) I _ _ _ = _
      simp only [fX0_copyFrom_b70, iz_lit]
      rw [if_pos (by rw [iz_le (by decide) (by decide) (by decide) (by decide)]; decide)]
    · omega
  | succ d ih =>
    intro j c hc hj I
    obtain ⟨j, rfl⟩ : ∃ t, j = t + 1 := ⟨j - 1, by omega⟩
    have ek : iz (c : Int) + iz 1 = iz ((c + 1 : Nat) : Int) := by rw [iz_add]; rfl
    obtain ⟨a1, a2, a3⟩ := B1.2.2.2.1 (c : Int) (by omega) (by omega)
    obtain ⟨g1, g2, g3⟩ := B2.2.2.2.1 (c : Int) (by omega) (by omega)
    have k1 := S.at (i := 28 + 24 * b1) (kd_B h1.1 h1.2).1 (by omega) (by omega)
    have k2 := S.at (i := 28 + 24 * b2) (kd_B h2.1 h2.2).1 (by omega) (by omega)
    have m1 := S.at (i := 28 + 24 * b1 + 2) (by rw [← (kd_B h1.1 h1.2).2.2]; congr 1; omega) (by omega) (by omega)
    have m2 := S.at (i := 28 + 24 * b2 + 2) (by rw [← (kd_B h2.1 h2.2).2.2]; congr 1; omega) (by omega) (by omega)
    have t1 := S.at (i := 28 + 24 * b1 + 12 + p1 c) (by rw [← kd_H h1.1 h1.2 a2 a3]; congr 1; omega) (by omega) (by omega)
    have t2 := S.at (i := 28 + 24 * b2 + 12 + p2 c) (by rw [← kd_H h2.1 h2.2 g2 g3]; congr 1; omega) (by omega) (by omega)
    have o1 : oB sh R (AD (28 + 24 * b1 + 2)) 7 (iz (c : Int)) = some (AD (28 + 24 * b1 + 12 + p1 c)) := by
      rw [oB_iz (t := 7) m1 (by omega) (by omega) (by omega)]; exact a1
    have o2 : oB sh R (AD (28 + 24 * b2 + 2)) 7 (iz (c : Int)) = some (AD (28 + 24 * b2 + 12 + p2 c)) := by
      rw [oB_iz (t := 7) m2 (by omega) (by omega) (by omega)]; exact g1
    obtain ⟨I1, e1, f1, F1⟩ := c_copyShot (fu := fu) (I := I) (R := R) S (i1 := 28 + 24 * b1 + 12 + p1 c) (i2 := 28 + 24 * b2 + 12 + p2 c) (by omega) (by omega) (by omega) (by omega) (by omega) t1 t2
    obtain ⟨I', e2, f2, F2⟩ := ih j (c + 1) (by omega) (by omega) I1
    refine ⟨I', ?_, fun s s0 s1 k hk => ?_, ?_⟩
    · rw [← e2]
      show fX0_copyFrom_b70 fu sh R (fX0_copyFrom_l70 fu sh R j) I _ _ _ = _
      simp only [fX0_copyFrom_b70, iz_lit, oR_at k1 B1.2.1, oR_at k2 B2.2.1, bsome, o1, o2, e1, ek]
      rw [if_neg (by rw [iz_le (by decide) (by decide) (by omega) (by omega)]; omega)]
    · by_cases z : s = (c : Int)
      · subst z
        rw [F2 _ (by omega) (by omega) k (by
          rintro ⟨t, t0, t1, t2⟩
          have := B1.2.2.2.2 (c : Int) t (by omega) (by omega) (by omega) (by omega) (by omega)
          omega)]
        exact f1 k hk
      · have r2 := (B2.2.2.2.1 s (by omega) s1).2
        rw [f2 s (by omega) s1 k hk]
        exact F1 _ (by omega) (by omega) k (by omega)
    · refine (F1.wd fun i _ z => ⟨(c : Int), by omega, by omega, z⟩).tr (F2.wd ?_)
      rintro i _ ⟨t, t0, t1, t2⟩
      exact ⟨t, by omega, t1, t2⟩
theorem c_copyScenes (S : OKS sh AD) (h1 : 0 ≤ b1 ∧ b1 < 12) (h2 : 0 ≤ b2 ∧ b2 < 12) (hne : ¬ b1 = b2) (B1 : BSH R AD (28 + 24 * b1) p1) (B2 : BSH R AD (28 + 24 * b2) p2) (k68 : HI → Nat → Nat → Option HI) : ∀ d j c : Nat, c + d = 3 → d < j → ∀ I : HI,
    ∃ I', fX0_copyFrom_l42 fu sh R k68 j I (AD (28 + 24 * b1)) (AD (28 + 24 * b2)) (iz (c : Int)) = k68 I' (AD (28 + 24 * b1)) (AD (28 + 24 * b2)) ∧ (∀ s : Int, (c : Int) ≤ s → s < 3 → (I' (AD (28 + 24 * b1 + 3 + 3 * s)) 0 = I (AD (28 + 24 * b2 + 3 + 3 * s)) 0 ∧ I' (AD (28 + 24 * b1 + 3 + 3 * s)) 1 = I (AD (28 + 24 * b2 + 3 + 3 * s)) 1) ∧ ∀ k : Nat, k < 6 → I' (AD (28 + 24 * b1 + 4 + 3 * s)) k = I (AD (28 + 24 * b2 + 4 + 3 * s)) k ∧ I' (AD (28 + 24 * b1 + 5 + 3 * s)) k = I (AD (28 + 24 * b2 + 5 + 3 * s)) k) ∧
      FR AD I I' (fun i _ => 28 + 24 * b1 + 3 + 3 * c ≤ i ∧ i < 28 + 24 * b1 + 12) := by
  intro d
  induction d with
  | zero =>
    intro j c hc hj I
    obtain ⟨j, rfl⟩ : ∃ t, j = t + 1 := ⟨j - 1, by omega⟩
    have e : c = 3 := by omega
    subst e
    refine ⟨I, ?_, fun s g0 g1 => ?_, FR.rf _ _ _⟩
    · show fX0_copyFrom_b42 fu sh R (fX0_copyFrom_l42 fu sh R k68 j) k68 I _ _ _ = _
      simp only [fX0_copyFrom_b42, iz_lit]
      rw [if_pos (by rw [iz_le (by decide) (by decide) (by decide) (by decide)]; decide)]
    · omega
  | succ d ih =>
    intro j c hc hj I
    obtain ⟨j, rfl⟩ : ∃ t, j = t + 1 := ⟨j - 1, by omega⟩
    have ek : iz (c : Int) + iz 1 = iz ((c + 1 : Nat) : Int) := by rw [iz_add]; rfl
    obtain ⟨a1, a2, a3⟩ := B1.2.2.1 (c : Int) (by omega) (by omega)
    obtain ⟨g1, g2, g3⟩ := B2.2.2.1 (c : Int) (by omega) (by omega)
    have k1 := S.at (i := 28 + 24 * b1) (kd_B h1.1 h1.2).1 (by omega) (by omega)
    have k2 := S.at (i := 28 + 24 * b2) (kd_B h2.1 h2.2).1 (by omega) (by omega)
    have m1 := S.at (i := 28 + 24 * b1 + 1) (by rw [← (kd_B h1.1 h1.2).2.1]; congr 1; omega) (by omega) (by omega)
    have m2 := S.at (i := 28 + 24 * b2 + 1) (by rw [← (kd_B h2.1 h2.2).2.1]; congr 1; omega) (by omega) (by omega)
    obtain ⟨q1, q2, q3⟩ := kd_S h1.1 h1.2 (show (0 : Int) ≤ (c : Int) by omega) (show (c : Int) < 3 by omega)
    obtain ⟨q4, q5, q6⟩ := kd_S h2.1 h2.2 (show (0 : Int) ≤ (c : Int) by omega) (show (c : Int) < 3 by omega)
    have t1 := S.at (i := 28 + 24 * b1 + 3 + 3 * c) (by rw [← q1]; congr 1; omega) (by omega) (by omega)
    have t2 := S.at (i := 28 + 24 * b1 + 4 + 3 * c) (by rw [← q2]; congr 1; omega) (by omega) (by omega)
    have t3 := S.at (i := 28 + 24 * b1 + 5 + 3 * c) (by rw [← q3]; congr 1; omega) (by omega) (by omega)
    have t4 := S.at (i := 28 + 24 * b2 + 3 + 3 * c) (by rw [← q4]; congr 1; omega) (by omega) (by omega)
    have t5 := S.at (i := 28 + 24 * b2 + 4 + 3 * c) (by rw [← q5]; congr 1; omega) (by omega) (by omega)
    have t6 := S.at (i := 28 + 24 * b2 + 5 + 3 * c) (by rw [← q6]; congr 1; omega) (by omega) (by omega)
    have o1 : oB sh R (AD (28 + 24 * b1 + 1)) 5 (iz (c : Int)) = some (AD (28 + 24 * b1 + 3 + 3 * c)) := by
      rw [oB_iz (t := 5) m1 (by omega) (by omega) (by omega)]; exact a1
    have o2 : oB sh R (AD (28 + 24 * b2 + 1)) 5 (iz (c : Int)) = some (AD (28 + 24 * b2 + 3 + 3 * c)) := by
      rw [oB_iz (t := 5) m2 (by omega) (by omega) (by omega)]; exact g1
    obtain ⟨I1, e1, ⟨f0, f1⟩, f3, F1⟩ := c_copyScene (fu := fu) (I := I) (R := R) S (i1 := 28 + 24 * b1 + 3 + 3 * c) (x1 := 28 + 24 * b1 + 4 + 3 * c) (y1 := 28 + 24 * b1 + 5 + 3 * c) (i2 := 28 + 24 * b2 + 3 + 3 * c) (x2 := 28 + 24 * b2 + 4 + 3 * c) (y2 := 28 + 24 * b2 + 5 + 3 * c) (by omega) (by omega) (by omega) t1 t4 t2 t3 t5 t6 a2 a3 g2 g3
    obtain ⟨I', e2, f4, F2⟩ := ih j (c + 1) (by omega) (by omega) I1
    have n2 : ∀ i k, 28 + 24 * b1 + 3 ≤ i → i < 28 + 24 * b1 + 3 + 3 * ((c + 1 : Nat) : Int) → I' (AD i) k = I1 (AD i) k := fun i k i0 i1 => F2 i (by omega) (by omega) k (by omega)
    have n1 : ∀ i k, 28 + 24 * b2 + 3 ≤ i → i < 28 + 24 * b2 + 12 → I1 (AD i) k = I (AD i) k := fun i k i0 i1 => F1 i (by omega) (by omega) k (by omega)
    refine ⟨I', ?_, fun s s0 s1 => ?_, ?_⟩
    · rw [← e2]
      show fX0_copyFrom_b42 fu sh R (fX0_copyFrom_l42 fu sh R k68 j) k68 I _ _ _ = _
      simp only [fX0_copyFrom_b42, iz_lit, oR_at k1 B1.1, oR_at k2 B2.1, bsome, o1, o2, e1, ek]
      rw [if_neg (by rw [iz_le (by decide) (by decide) (by omega) (by omega)]; omega)]
    · by_cases z : s = (c : Int)
      · subst z
        refine ⟨⟨(n2 _ _ (by omega) (by omega)).trans f0, (n2 _ _ (by omega) (by omega)).trans f1⟩, fun k hk => ⟨(n2 _ _ (by omega) (by omega)).trans (f3 k hk).1, (n2 _ _ (by omega) (by omega)).trans (f3 k hk).2⟩⟩
      · obtain ⟨⟨u0, u1⟩, u2⟩ := f4 s (by omega) s1
        refine ⟨⟨u0.trans (n1 _ _ (by omega) (by omega)), u1.trans (n1 _ _ (by omega) (by omega))⟩, fun k hk => ⟨(u2 k hk).1.trans (n1 _ _ (by omega) (by omega)), (u2 k hk).2.trans (n1 _ _ (by omega) (by omega))⟩⟩
    · exact (F1.wd fun i _ z => by omega).tr (F2.wd fun i _ z => by omega)
theorem c_copyBoard (S : OKS sh AD) (hfu : 5000 ≤ fu) (h1 : 0 ≤ b1 ∧ b1 < 12) (h2 : 0 ≤ b2 ∧ b2 < 12) (hne : ¬ b1 = b2) (B1 : BSH R AD (28 + 24 * b1) p1) (B2 : BSH R AD (28 + 24 * b2) p2) {ρ : RHO} (V : VB ρ) {I : HI} (L : BVL I AD (28 + 24 * b2) p2 ρ) :
    ∃ I', fX0_copyFrom fu sh I R (AD (28 + 24 * b1)) (AD (28 + 24 * b2)) = some I' ∧ BVL I' AD (28 + 24 * b1) p1 ρ ∧ FR AD I I' (fun i _ => 28 + 24 * b1 ≤ i ∧ i < 28 + 24 * b1 + 24) := by
  have hm := V.m
  have hn := V.n
  have k1 := S.at (i := 28 + 24 * b1) (kd_B h1.1 h1.2).1 (by omega) (by omega)
  have k2 := S.at (i := 28 + 24 * b2) (kd_B h2.1 h2.2).1 (by omega) (by omega)
  have rd : ∀ (J : HI) (k k' : Nat) (x : Int32), u2 J (AD (28 + 24 * b1)) k x (AD (28 + 24 * b2)) k' = J (AD (28 + 24 * b2)) k' := fun J k k' x => u2_ne S (by omega) (by omega) (by omega) (by omega) (by omega) J k k' x
  obtain ⟨J, hJ⟩ : ∃ J, J = _root_.Jvm.Pilot.@@N@@.u2 (_root_.Jvm.Pilot.@@N@@.u2 (_root_.Jvm.Pilot.@@N@@.u2 (_root_.Jvm.Pilot.@@N@@.u2 (_root_.Jvm.Pilot.@@N@@.u2 I (AD (28 + 24 * b1)) 0 (I (AD (28 + 24 * b2)) 0)) (AD (28 + 24 * b1)) 1 (I (AD (28 + 24 * b2)) 1)) (AD (28 + 24 * b1)) 2 (I (AD (28 + 24 * b2)) 2)) (AD (28 + 24 * b1)) 3 (I (AD (28 + 24 * b2)) 3)) (AD (28 + 24 * b1)) 4 (I (AD (28 + 24 * b2)) 4) := ⟨_, rfl⟩
  have FJ : FR AD I J (fun i _ => i = 28 + 24 * b1) := by
    rw [hJ]
    exact FR.u2 S (by omega) (by omega) rfl (FR.u2 S (by omega) (by omega) rfl (FR.u2 S (by omega) (by omega) rfl (FR.u2 S (by omega) (by omega) rfl (FR.u2 S (by omega) (by omega) rfl (FR.rf AD I _)))))
  have wr : ∀ (J : HI) (k k' : Nat) (x : Int32), u2 J (AD (28 + 24 * b1)) k x (AD (28 + 24 * b1)) k' = if k' = k then x else J (AD (28 + 24 * b1)) k' := by
    intro J k k' x
    rw [u2_ad S (by omega) (by omega) (by omega) (by omega)]
    by_cases z : k' = k
    · rw [if_pos ⟨rfl, z⟩, if_pos z]
    · rw [if_neg (fun w => z w.2), if_neg z]
  have vJ : ∀ k : Nat, k < 5 → J (AD (28 + 24 * b1)) k = I (AD (28 + 24 * b2)) k := by
    intro k hk
    rw [hJ]
    simp only [wr]
    have q : k = 0 ∨ k = 1 ∨ k = 2 ∨ k = 3 ∨ k = 4 := by omega
    rcases q with rfl | rfl | rfl | rfl | rfl <;> rfl
  obtain ⟨J2, e1, g1, F1⟩ := c_copyScenes (fu := fu) S h1 h2 hne B1 B2 (fX0_copyFrom_b68 fu sh R) 3 fu 0 (by decide) (by omega) J
  obtain ⟨J3, e2, g2, F2⟩ := c_copyShots (fu := fu) S h1 h2 hne B1 B2 12 fu 0 (by decide) (by omega) J2
  have F2' : FR AD J2 J3 (fun i _ => 28 + 24 * b1 + 12 ≤ i ∧ i < 28 + 24 * b1 + 24) := by
    refine F2.wd ?_
    rintro i _ ⟨t, t0, t1, t2⟩
    have := (B1.2.2.2.1 t (by omega) t1).2
    omega
  obtain ⟨⟨l0, l1, l2, l3, l4⟩, l5, l6⟩ := L
  have top : ∀ k : Nat, k < 5 → J3 (AD (28 + 24 * b1)) k = I (AD (28 + 24 * b2)) k := fun k hk => (F2' _ (by omega) (by omega) k (by omega)).trans ((F1 _ (by omega) (by omega) k (by omega)).trans (vJ k hk))
  have sJ : ∀ i k, 28 + 24 * b2 ≤ i → i < 28 + 24 * b2 + 24 → J (AD i) k = I (AD i) k := fun i k i0 i1 => FJ i (by omega) (by omega) k (by omega)
  have sJ2 : ∀ i k, 28 + 24 * b2 ≤ i → i < 28 + 24 * b2 + 24 → J2 (AD i) k = I (AD i) k := fun i k i0 i1 => (F1 i (by omega) (by omega) k (by omega)).trans (sJ i k i0 i1)
  have d3 : ∀ i k, 28 + 24 * b1 ≤ i → i < 28 + 24 * b1 + 12 → J3 (AD i) k = J2 (AD i) k := fun i k i0 i1 => F2' i (by omega) (by omega) k (by omega)
  refine ⟨J3, ?_, ⟨⟨(top 0 (by decide)).trans l0, (top 1 (by decide)).trans l1, (top 2 (by decide)).trans l2, (top 3 (by decide)).trans l3, (top 4 (by decide)).trans l4⟩, fun c c0 c1 => ?_, fun s s0 s1 => ?_⟩, ?_⟩
  · simp only [fX0_copyFrom, if_pos (isT_of k1), oI_at k2, oP_at k1, bsome, rd, iz_lit]
    rw [← hJ]
    refine e1.trans ?_
    simp only [fX0_copyFrom_b68, iz_lit]
    exact e2
  · obtain ⟨⟨u0, u1⟩, u2⟩ := g1 c c0 (by omega)
    obtain ⟨⟨v0, v1⟩, v2⟩ := l5 c c0 c1
    refine ⟨⟨(d3 _ _ (by omega) (by omega)).trans (u0.trans ((sJ _ _ (by omega) (by omega)).trans v0)), (d3 _ _ (by omega) (by omega)).trans (u1.trans ((sJ _ _ (by omega) (by omega)).trans v1))⟩, fun a a0 a1 a2 => ?_⟩
    obtain ⟨w0, w1⟩ := u2 a.toNat (by omega)
    obtain ⟨x0, x1⟩ := v2 a a0 a1 a2
    exact ⟨(d3 _ _ (by omega) (by omega)).trans (w0.trans ((sJ _ _ (by omega) (by omega)).trans x0)), (d3 _ _ (by omega) (by omega)).trans (w1.trans ((sJ _ _ (by omega) (by omega)).trans x1))⟩
  · have r2 := (B2.2.2.2.1 s s0 (by omega)).2
    have g := fun k hk => g2 s s0 (by omega) k hk
    obtain ⟨v0, v1, v2, v3, v4, v5⟩ := l6 s s0 s1
    exact ⟨(g 0 (by decide)).trans ((sJ2 _ _ (by omega) (by omega)).trans v0), (g 1 (by decide)).trans ((sJ2 _ _ (by omega) (by omega)).trans v1), (g 2 (by decide)).trans ((sJ2 _ _ (by omega) (by omega)).trans v2), (g 3 (by decide)).trans ((sJ2 _ _ (by omega) (by omega)).trans v3), (g 4 (by decide)).trans ((sJ2 _ _ (by omega) (by omega)).trans v4), (g 5 (by decide)).trans ((sJ2 _ _ (by omega) (by omega)).trans v5)⟩
  · exact ((FJ.wd fun i _ z => by omega).tr (F1.wd fun i _ z => by omega)).tr (F2'.wd fun i _ z => by omega)
end Q21
