/-! STAGE 2, the reference: the blocker, the kinds of a shot's faults, their number -/
def b5S (ρ : RHO) (s : Int) (a : Int) : Bool := (!(decide (axS ρ (scS ρ s) a = cxS ρ s) && decide (ayS ρ (scS ρ s) a = cyS ρ s)) && (!(decide (axS ρ (scS ρ s) a = sxS ρ s) && decide (ayS ρ (scS ρ s) a = syS ρ s)) &&
  (decide (crossS (sxS ρ s - cxS ρ s) (syS ρ s - cyS ρ s) (axS ρ (scS ρ s) a - cxS ρ s) (ayS ρ (scS ρ s) a - cyS ρ s) = 0) && (decide (min (cxS ρ s) (sxS ρ s) ≤ axS ρ (scS ρ s) a ∧ axS ρ (scS ρ s) a ≤ max (cxS ρ s) (sxS ρ s)) && decide (min (cyS ρ s) (syS ρ s) ≤ ayS ρ (scS ρ s) a ∧ ayS ρ (scS ρ s) a ≤ max (cyS ρ s) (syS ρ s))))))
theorem betw_5 (ρ : RHO) (s : Int) (a : Nat) : betwS ρ s a = (!decide ((a : Int) = suS ρ s) && (inS ρ (scS ρ s) a && b5S ρ s a)) := rfl
section R4
variable {fu : Nat} {sh : HS} {I : HI} {R : HR} {AD : Int → Nat} {ρ : RHO} {s t : Int}
theorem r_betw (S : OKS sh AD) (M : MR R AD) (H : RW I AD ρ) (V : VB ρ) (h0 : 0 ≤ s) (h1 : s < ρ 4) {a : Int} (h2 : 0 ≤ a) (h3 : a < 6) (hi : inS ρ (scS ρ s) a = true) : fX11_isBetween fu sh I R (AD 316) (iz s) (iz a) = some (bz (b5S ρ s a)) := by
  obtain ⟨a1, a2, a3, a4, a5, a6, a7, a8⟩ := V.shot h0 h1
  have b := V.sub h0 h1
  have hn := V.n
  have hm := V.m
  have r1 := (V.scene a1.1 a1.2).2.2 a h2 h3 hi
  obtain ⟨-, g1, g2, -⟩ := r_g (fu := fu) S M H V h0 h1
  have c1 := cross_range (x := sxS ρ s - cxS ρ s) (y := syS ρ s - cyS ρ s) (u := axS ρ (scS ρ s) a - cxS ρ s) (v := ayS ρ (scS ρ s) a - cyS ρ s) (by omega) (by omega) (by omega) (by omega) (by omega) (by omega) (by omega) (by omega)
  simp only [fX11_isBetween, fX11_isBetween_b66, fX11_isBetween_b79, fX11_isBetween_b104, fX11_isBetween_b159, fX11_isBetween_b160, if_pos S.i, iz_lit, r_sceneOf S M H h0 (by omega : s < 12), r_actorX S M H a1.1 (by omega : scS ρ s < 3) h2 h3, r_actorY S M H a1.1 (by omega : scS ρ s < 3) h2 h3, g1, g2, r_subjectX S M H V h0 h1, r_subjectY S M H V h0 h1, bsome, iz_sub, r_cross]
  simp (disch := omega) only [iz_eq, iMin_iz, iMax_iz, toJ_iz]
  rw [r_isIn (by omega) (by omega) (by omega) (by omega) (by omega) (by omega), r_isIn (by omega) (by omega) (by omega) (by omega) (by omega) (by omega)]
  simp only [bsome, bz_zero]
  unfold b5S
  by_cases k1 : axS ρ (scS ρ s) a = cxS ρ s ∧ ayS ρ (scS ρ s) a = cyS ρ s
  · rw [if_pos k1.1, if_pos k1.2, decide_eq_true k1.1, decide_eq_true k1.2]
    rfl
  · have e1 : (!(decide (axS ρ (scS ρ s) a = cxS ρ s) && decide (ayS ρ (scS ρ s) a = cyS ρ s))) = true := by
      by_cases j1 : axS ρ (scS ρ s) a = cxS ρ s
      · have j2 : ¬ ayS ρ (scS ρ s) a = cyS ρ s := fun z => k1 ⟨j1, z⟩
        simp [j2]
      · simp [j1]
    have f1 : ∀ X Y : Option Int32, (if axS ρ (scS ρ s) a = cxS ρ s then if ayS ρ (scS ρ s) a = cyS ρ s then X else Y else Y) = Y := by
      intro X Y
      by_cases j1 : axS ρ (scS ρ s) a = cxS ρ s
      · rw [if_pos j1, if_neg (fun z => k1 ⟨j1, z⟩)]
      · rw [if_neg j1]
    rw [f1, e1]
    by_cases k2 : axS ρ (scS ρ s) a = sxS ρ s ∧ ayS ρ (scS ρ s) a = syS ρ s
    · rw [if_pos k2.1, if_pos k2.2, decide_eq_true k2.1, decide_eq_true k2.2]
      rfl
    · have e2 : (!(decide (axS ρ (scS ρ s) a = sxS ρ s) && decide (ayS ρ (scS ρ s) a = syS ρ s))) = true := by
        by_cases j1 : axS ρ (scS ρ s) a = sxS ρ s
        · have j2 : ¬ ayS ρ (scS ρ s) a = syS ρ s := fun z => k2 ⟨j1, z⟩
          simp [j2]
        · simp [j1]
      have f2 : ∀ X Y : Option Int32, (if axS ρ (scS ρ s) a = sxS ρ s then if ayS ρ (scS ρ s) a = syS ρ s then X else Y else Y) = Y := by
        intro X Y
        by_cases j1 : axS ρ (scS ρ s) a = sxS ρ s
        · rw [if_pos j1, if_neg (fun z => k2 ⟨j1, z⟩)]
        · rw [if_neg j1]
      rw [f2, e2]
      by_cases k3 : crossS (sxS ρ s - cxS ρ s) (syS ρ s - cyS ρ s) (axS ρ (scS ρ s) a - cxS ρ s) (ayS ρ (scS ρ s) a - cyS ρ s) = 0
      · rw [if_pos k3, decide_eq_true k3]
        by_cases k4 : min (cxS ρ s) (sxS ρ s) ≤ axS ρ (scS ρ s) a ∧ axS ρ (scS ρ s) a ≤ max (cxS ρ s) (sxS ρ s)
        · rw [decide_eq_true k4.1, decide_eq_true k4.2, decide_eq_true k4]
          by_cases k5 : min (cyS ρ s) (syS ρ s) ≤ ayS ρ (scS ρ s) a ∧ ayS ρ (scS ρ s) a ≤ max (cyS ρ s) (syS ρ s)
          · rw [decide_eq_true k5.1, decide_eq_true k5.2, decide_eq_true k5]
            rfl
          · have e5 : (decide (min (cyS ρ s) (syS ρ s) ≤ ayS ρ (scS ρ s) a) && decide (ayS ρ (scS ρ s) a ≤ max (cyS ρ s) (syS ρ s))) = false := by
              by_cases j1 : min (cyS ρ s) (syS ρ s) ≤ ayS ρ (scS ρ s) a
              · rw [decide_eq_false (fun z => k5 ⟨j1, z⟩), Bool.and_false]
              · rw [decide_eq_false j1, Bool.false_and]
            rw [e5, decide_eq_false k5]
            rfl
        · have e5 : (decide (min (cxS ρ s) (sxS ρ s) ≤ axS ρ (scS ρ s) a) && decide (axS ρ (scS ρ s) a ≤ max (cxS ρ s) (sxS ρ s))) = false := by
            by_cases j1 : min (cxS ρ s) (sxS ρ s) ≤ axS ρ (scS ρ s) a
            · rw [decide_eq_false (fun z => k4 ⟨j1, z⟩), Bool.and_false]
            · rw [decide_eq_false j1, Bool.false_and]
          rw [e5, decide_eq_false k4]
          rfl
      · rw [if_neg k3, decide_eq_false k3]
        rfl
theorem r_block_loop (S : OKS sh AD) (M : MR R AD) (H : RW I AD ρ) (V : VB ρ) (h0 : 0 ≤ s) (h1 : s < ρ 4) : ∀ (d n a : Nat), a + d = 6 → d < n →
    fX11_blocker_l2 fu sh I R n (AD 316) (iz s) (iz (a : Int)) = some (iz (fstS (betwS ρ s) a d)) := by
  obtain ⟨a1, a2, a3, a4, a5, a6, a7, a8⟩ := V.shot h0 h1
  have hm := V.m
  have hn := V.n
  obtain ⟨-, -, -, g3, -⟩ := r_g (fu := fu) S M H V h0 h1
  intro d
  induction d with
  | zero =>
    intro n a ha hn
    obtain ⟨n, rfl⟩ : ∃ k, n = k + 1 := ⟨n - 1, by omega⟩
    have e : a = 6 := by omega
    subst e
    show fX11_blocker_b2 fu sh I R (fX11_blocker_l2 fu sh I R n) _ _ _ = _
    unfold fX11_blocker_b2
    rw [iz_lit, if_pos (by rw [iz_le (by decide) (by decide) (by decide) (by decide)]; decide)]
    rfl
  | succ d ih =>
    intro n a ha hn
    obtain ⟨n, rfl⟩ : ∃ k, n = k + 1 := ⟨n - 1, by omega⟩
    have k := ih n (a + 1) (by omega) (by omega)
    have ea : iz ((a + 1 : Nat) : Int) = iz (a : Int) + iz 1 := by rw [iz_add]; rfl
    rw [ea] at k
    have ha6 : (a : Int) < 6 := by omega
    show fX11_blocker_b2 fu sh I R (fX11_blocker_l2 fu sh I R n) _ _ _ = _
    simp only [fX11_blocker_b2, fX11_blocker_b45, iz_lit, g3, bsome, r_sceneOf S M H h0 (by omega : s < 12), r_actorsOf S M H a1.1 (by omega : scS ρ s < 3), r_hasC V a1.1 a1.2 (by omega : (0 : Int) ≤ (a : Int)) ha6, bz_zero, k]
    rw [if_neg (by rw [iz_le (by decide) (by decide) (by omega) (by omega)]; omega)]
    simp (disch := omega) only [iz_eq]
    have hf : fstS (betwS ρ s) a (d + 1) = if betwS ρ s a = true then (a : Int) else fstS (betwS ρ s) (a + 1) d := rfl
    rw [hf, betw_5]
    by_cases i0 : (a : Int) = suS ρ s
    · rw [if_pos i0, decide_eq_true i0]
      simp
    · rw [if_neg i0, decide_eq_false i0]
      by_cases i1 : inS ρ (scS ρ s) a = true
      · rw [if_neg (by simp [i1]), r_betw S M H V h0 h1 (by omega) ha6 i1, bsome, i1]
        simp only [bz_zero]
        cases b5S ρ s a
        · simp
        · simp
      · have i3 : inS ρ (scS ρ s) a = false := by simpa using i1
        rw [if_pos i3, i3]
        simp
theorem r_block (S : OKS sh AD) (M : MR R AD) (H : RW I AD ρ) (V : VB ρ) (hfu : 5000 ≤ fu) (h0 : 0 ≤ s) (h1 : s < ρ 4) : fX11_blocker fu sh I R (AD 316) (iz s) = some (iz (blockS ρ s)) := by
  have k := r_block_loop (fu := fu) S M H V h0 h1 6 fu 0 rfl (by omega)
  simp only [fX11_blocker, if_pos S.i, iz_lit]
  exact k
theorem fst_range (P : Nat → Bool) : ∀ d a : Nat, -1 ≤ fstS P a d ∧ fstS P a d < (a + d : Nat)
  | 0, a => by unfold fstS; omega
  | d + 1, a => by
    have := fst_range P d (a + 1)
    unfold fstS
    split
    · omega
    · omega
theorem block_range (ρ : RHO) (s : Int) : -1 ≤ blockS ρ s ∧ blockS ρ s < 6 := by
  have := fst_range (betwS ρ s) 6 0
  unfold blockS
  omega
theorem sgn_range (v : Int) : -1 ≤ sgnS v ∧ sgnS v ≤ 1 := by
  unfold sgnS
  repeat' split
  all_goals omega
theorem side_range (ρ : RHO) (s : Int) : -1 ≤ sideS ρ s ∧ sideS ρ s ≤ 1 := by
  unfold sideS
  repeat' split
  · decide
  · exact sgn_range _
  · exact sgn_range _
theorem look_range (ρ : RHO) (s : Int) : -1 ≤ lookS ρ s ∧ lookS ρ s ≤ 1 := by
  unfold lookS
  split
  · decide
  · exact sgn_range _
theorem r_before (S : OKS sh AD) (M : MR R AD) (H : RW I AD ρ) (V : VB ρ) (h0 : 0 ≤ s) (h1 : s < ρ 4) : fX11_hasBefore fu sh I R (AD 316) (iz s) = some (bz (befS ρ s)) := by
  have hn := V.n
  have hm := V.m
  obtain ⟨a1, -⟩ := V.shot h0 h1
  unfold befS
  simp only [fX11_hasBefore, fX11_hasBefore_b23, fX11_hasBefore_b24, if_pos S.i, iz_lit, iz_sub]
  simp (disch := omega) only [iz_le]
  by_cases k : 0 < s
  · obtain ⟨c1, -⟩ := V.shot (s := s - 1) (by omega) (by omega)
    rw [if_neg (by omega), r_sceneOf S M H (by omega) (by omega), bsome, r_sceneOf S M H h0 (by omega), bsome, decide_eq_true k]
    simp (disch := omega) only [iz_eq]
    by_cases j : scS ρ (s - 1) = scS ρ s
    · rw [if_pos j, decide_eq_true j]; rfl
    · rw [if_neg j, decide_eq_false j]; rfl
  · rw [if_pos (by omega), decide_eq_false k]; rfl
theorem r_crossed (S : OKS sh AD) (M : MR R AD) (H : RW I AD ρ) (V : VB ρ) (h0 : 0 < s) (h1 : s < ρ 4) : fX11_isCrossed fu sh I R (AD 316) (iz s) = some (bz (crosdS ρ s)) := by
  obtain ⟨a1, a2, a3, a4, a5, a6, a7, a8⟩ := V.shot (s := s) (by omega) h1
  obtain ⟨b1, b2, b3, b4, b5, b6, b7, b8⟩ := V.shot (s := s - 1) (by omega) (by omega)
  obtain ⟨-, -, -, g3, g4, -⟩ := r_g (fu := fu) S M H V (s := s) (by omega) h1
  obtain ⟨-, -, -, e3, e4, -⟩ := r_g (fu := fu) S M H V (s := s - 1) (by omega) (by omega)
  simp only [fX11_isCrossed, fX11_isCrossed_b56, fX11_isCrossed_b57, if_pos S.i, iz_lit, iz_sub, r_hasP S M H V (show 0 ≤ s by omega) h1, r_hasP S M H V (show 0 ≤ s - 1 by omega) (show s - 1 < ρ 4 by omega), bsome, bz_zero, g3, g4, e3, e4]
  simp (disch := omega) only [iz_eq]
  unfold crosdS
  by_cases k1 : paS ρ s = -1
  · simp [k1, oZ_z0]
  · by_cases k2 : paS ρ (s - 1) = -1
    · simp [k1, k2, oZ_z0]
    · by_cases k3 : suS ρ s = paS ρ (s - 1)
      · by_cases k4 : paS ρ s = suS ρ (s - 1)
        · rw [if_neg (by simp [k1]), if_neg (by simp [k2]), if_pos k3, if_pos k4, decide_eq_false k1, decide_eq_false k2, decide_eq_true k3, decide_eq_true k4]; rfl
        · rw [if_neg (by simp [k1]), if_neg (by simp [k2]), if_pos k3, if_neg k4, decide_eq_false k1, decide_eq_false k2, decide_eq_true k3, decide_eq_false k4]; rfl
      · rw [if_neg (by simp [k1]), if_neg (by simp [k2]), if_neg k3, decide_eq_false k1, decide_eq_false k2, decide_eq_false k3]; rfl
theorem r_same (S : OKS sh AD) (M : MR R AD) (H : RW I AD ρ) (V : VB ρ) (h0 : 0 < s) (h1 : s < ρ 4) : fX11_isSame fu sh I R (AD 316) (iz s) = some (bz (sameS ρ s)) := by
  obtain ⟨a1, a2, a3, a4, a5, a6, a7, a8⟩ := V.shot (s := s) (by omega) h1
  obtain ⟨b1, b2, b3, b4, b5, b6, b7, b8⟩ := V.shot (s := s - 1) (by omega) (by omega)
  obtain ⟨-, -, -, g3, g4, -⟩ := r_g (fu := fu) S M H V (s := s) (by omega) h1
  obtain ⟨-, -, -, e3, e4, -⟩ := r_g (fu := fu) S M H V (s := s - 1) (by omega) (by omega)
  simp only [fX11_isSame, fX11_isSame_b46, fX11_isSame_b47, if_pos S.i, iz_lit, iz_sub, r_hasP S M H V (show 0 ≤ s by omega) h1, bsome, bz_zero, g3, g4, e3, e4]
  simp (disch := omega) only [iz_eq]
  unfold sameS
  by_cases k1 : paS ρ s = -1
  · simp [k1, oZ_z0]
  · by_cases k3 : suS ρ s = suS ρ (s - 1)
    · by_cases k4 : paS ρ s = paS ρ (s - 1)
      · rw [if_neg (by simp [k1]), if_pos k3, if_pos k4, decide_eq_false k1, decide_eq_true k3, decide_eq_true k4]; rfl
      · rw [if_neg (by simp [k1]), if_pos k3, if_neg k4, decide_eq_false k1, decide_eq_true k3, decide_eq_false k4]; rfl
    · rw [if_neg (by simp [k1]), if_neg k3, decide_eq_false k1, decide_eq_false k3]; rfl
end R4
