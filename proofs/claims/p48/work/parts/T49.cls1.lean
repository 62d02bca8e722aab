/-! STAGE 2, the class: what a camera sees; B is a board of the heap with the mathematical value ρ, told by what is read of it -/
def BDV (sh : HS) (I : HI) (R : HR) (B SA HA : Nat) (ca xa ya sa : Int → Nat) (ρ : RHO) : Prop :=
  (isT sh B 0 = true ∧ oR sh R B 0 5 = some SA ∧ oR sh R B 0 6 = some HA) ∧
  (oI sh I B 0 0 = some (iz (ρ 0)) ∧ oI sh I B 0 1 = some (iz (ρ 1)) ∧ oI sh I B 0 2 = some (iz (ρ 2)) ∧ oI sh I B 0 3 = some (iz (ρ 3)) ∧ oI sh I B 0 4 = some (iz (ρ 4))) ∧
  (∀ c, 0 ≤ c → c < ρ 3 → (oB sh R SA 5 (iz c) = some (ca c) ∧ isT sh (ca c) 5 = true ∧ oI sh I (ca c) 5 0 = some (iz (ltS ρ c)) ∧ oI sh I (ca c) 5 1 = some (iz (csS ρ c)) ∧ oR sh R (ca c) 5 2 = some (xa c) ∧ oR sh R (ca c) 5 3 = some (ya c)) ∧
    ∀ a, 0 ≤ a → a < 6 → inS ρ c a = true → oA sh I (xa c) (iz a) = some (iz (axS ρ c a)) ∧ oA sh I (ya c) (iz a) = some (iz (ayS ρ c a))) ∧
  (∀ s, 0 ≤ s → s < ρ 4 → (oB sh R HA 7 (iz s) = some (sa s) ∧ isT sh (sa s) 7 = true) ∧ oI sh I (sa s) 7 0 = some (iz (scS ρ s)) ∧ oI sh I (sa s) 7 1 = some (iz (cxS ρ s)) ∧ oI sh I (sa s) 7 2 = some (iz (cyS ρ s)) ∧ oI sh I (sa s) 7 3 = some (iz (suS ρ s)) ∧ oI sh I (sa s) 7 4 = some (iz (paS ρ s)) ∧ oI sh I (sa s) 7 5 = some (iz (lnS ρ s)))
section C1
variable {fu : Nat} {sh : HS} {I : HI} {R : HR} {B SA HA : Nat} {ca xa ya sa : Int → Nat} {ρ : RHO} {s t : Int}
theorem c_holds {m k : Nat} (hm : m < 2147483648) (hk : k < 32) : fX10_holds fu sh I R (iz (m : Int)) (iz (k : Int)) = some (bz (m.testBit k)) := by
  simp only [fX10_holds, fX10_holds_b13, iz_bit hm hk]
  unfold bt
  cases m.testBit k
  · rfl
  · rfl
theorem c_has (D : BDV sh I R B SA HA ca xa ya sa ρ) (V : VB ρ) {c : Int} (h0 : 0 ≤ c) (h1 : c < ρ 3) {a : Int} (h2 : 0 ≤ a) (h3 : a < 6) : fX6_hasActor fu sh I R (ca c) (iz a) = some (bz (inS ρ c a)) := by
  obtain ⟨-, b, -⟩ := V.scene h0 h1
  obtain ⟨⟨-, d2, -, d4, -⟩, -⟩ := D.2.2.1 c h0 h1
  have e : fX10_holds fu sh I R (iz (csS ρ c)) (iz a) = some (bz (inS ρ c a)) := by
    rw [iz_tn (x := csS ρ c) (by omega), iz_tn (x := a) h2, c_holds (by omega) (by omega)]
    rfl
  simp only [fX6_hasActor, fX6_hasActor_b25, fX6_hasActor_b26, if_pos d2, iz_lit, d4, bsome, e, bz_zero]
  rw [if_neg (by rw [iz_lt (by omega) (by omega) (by decide) (by decide)]; omega), if_neg (by rw [iz_le (by decide) (by decide) (by omega) (by omega)]; omega)]
  cases inS ρ c a <;> rfl
theorem c_hasNo (D : BDV sh I R B SA HA ca xa ya sa ρ) {c : Int} (h0 : 0 ≤ c) (h1 : c < ρ 3) {a : Int} (h2 : a < 0 ∨ 6 ≤ a) (h3 : -2147483648 ≤ a) (h4 : a ≤ 2147483647) : fX6_hasActor fu sh I R (ca c) (iz a) = some (bz false) := by
  obtain ⟨⟨-, d2, -⟩, -⟩ := D.2.2.1 c h0 h1
  simp only [fX6_hasActor, fX6_hasActor_b25, fX6_hasActor_b26, if_pos d2, iz_lit]
  by_cases k : a < 0
  · rw [if_pos (by rw [iz_lt (by omega) (by omega) (by decide) (by decide)]; omega)]; rfl
  · rw [if_neg (by rw [iz_lt (by omega) (by omega) (by decide) (by decide)]; omega), if_pos (by rw [iz_le (by decide) (by decide) (by omega) (by omega)]; omega)]; rfl
theorem c_isAt (D : BDV sh I R B SA HA ca xa ya sa ρ) (V : VB ρ) {c : Int} (h0 : 0 ≤ c) (h1 : c < ρ 3) {a : Int} (h2 : 0 ≤ a) (h3 : a < 6) (hi : inS ρ c a = true) {x y : Int} (x1 : -1000 ≤ x) (x2 : x ≤ 1000) (y1 : -1000 ≤ y) (y2 : y ≤ 1000) : fX6_isActorAt fu sh I R (ca c) (iz a) (iz x) (iz y) = some (bz (decide (axS ρ c a = x) && decide (ayS ρ c a = y))) := by
  obtain ⟨⟨-, d2, -, -, d5, d6⟩, d7⟩ := D.2.2.1 c h0 h1
  obtain ⟨d8, d9⟩ := d7 a h2 h3 hi
  have r := (V.scene h0 h1).2.2 a h2 h3 hi
  simp only [fX6_isActorAt, fX6_isActorAt_b24, fX6_isActorAt_b25, if_pos d2, d5, d6, d8, d9, bsome, iz_lit]
  simp (disch := omega) only [iz_eq]
  by_cases k1 : axS ρ c a = x
  · by_cases k2 : ayS ρ c a = y
    · rw [if_pos k1, if_pos k2, decide_eq_true k1, decide_eq_true k2]; rfl
    · rw [if_pos k1, if_neg k2, decide_eq_true k1, decide_eq_false k2]; rfl
  · rw [if_neg k1, decide_eq_false k1]; rfl
theorem c_dir {x y : Int} (h1 : -398 ≤ x) (h2 : x ≤ 398) (h3 : -398 ≤ y) (h4 : y ≤ 398) : fX10_directionNumber fu sh I R (iz x) (iz y) = some (iz (if x = 0 ∧ y = 0 then -2 else dirS x y)) := by
  have hx := ab_range h1 h2
  have hy := ab_range h3 h4
  have ht := t_range h1 h2 h3 h4
  have e1 : ∀ a : Int32, fX10_directionNumber_b10 fu sh I R (iz x) (iz y) a = fX10_directionNumber_b21 fu sh I R (iz x) (iz y) a (iz (ab y)) := by
    intro a
    simp only [fX10_directionNumber_b10, iz_lit, iz_neg]
    simp (disch := omega) only [iz_le]
    unfold ab
    by_cases k : y < 0
    · rw [if_neg (by omega), if_pos k]
    · rw [if_pos (by omega), if_neg k]
  have e2 : fX10_directionNumber fu sh I R (iz x) (iz y) = fX10_directionNumber_b21 fu sh I R (iz x) (iz y) (iz (ab x)) (iz (ab y)) := by
    simp only [fX10_directionNumber, iz_lit, iz_neg, e1]
    simp (disch := omega) only [iz_le]
    unfold ab
    by_cases k : x < 0
    · rw [if_neg (by omega), if_pos k]
    · rw [if_pos (by omega), if_neg k]
  rw [e2]
  simp only [fX10_directionNumber_b21, fX10_directionNumber_b53, fX10_directionNumber_b68, iz_lit, iz_neg, iz_add, iz_mul, iz_sub]
  by_cases h5 : x = 0 ∧ y = 0
  · have h6 : ab x + ab y = 0 := by rw [h5.1, h5.2]; decide
    rw [if_pos h5, h6, if_pos rfl]
  · have h0 : 0 < ab x + ab y := by
      unfold ab
      repeat' split <;> omega
    rw [if_neg h5, if_neg (by rw [iz_eq (by omega) (by omega) (by decide) (by decide)]; omega), oD_iz (by omega) (by omega) (by omega) (by omega), bsome]
    unfold dirS
    generalize 1000 * ab y / (ab x + ab y) = t at ht
    simp only [iz_sub, iz_add]
    simp (disch := omega) only [iz_le, iz_lt, oM_iz, bsome]
    by_cases g1 : 0 < x
    · by_cases g2 : 0 ≤ y
      · simp [g1, g2, show ¬ x ≤ 0 by omega, show ¬ y < 0 by omega]
      · simp [g1, g2, show ¬ x ≤ 0 by omega, show y < 0 by omega, show 0 ≤ x by omega, show ¬ 0 < y by omega, show ¬ x < 0 by omega]
    · by_cases g2 : 0 < y
      · simp [g1, g2, show x ≤ 0 by omega, show ¬ y ≤ 0 by omega]
      · by_cases g3 : x < 0
        · simp [g1, g2, g3, show x ≤ 0 by omega, show y ≤ 0 by omega, show ¬ 0 ≤ x by omega]
        · simp [g1, g2, g3, show x ≤ 0 by omega, show y ≤ 0 by omega, show 0 ≤ x by omega]
theorem c_turn {p q : Int} (h1 : -2 ≤ p) (h2 : p < 4000) (h3 : -2 ≤ q) (h4 : q < 4000) : fX10_turnBetween fu sh I R (iz p) (iz q) = some (iz (turnS p q)) := by
  have ha := ab_range (a := p - q) (b := 4002) (by omega) (by omega)
  simp only [fX10_turnBetween, iz_sub, iz_lit]
  rw [iAbs_iz (by omega) (by omega)]
  rw [show (if p - q < 0 then -(p - q) else p - q) = ab (p - q) from rfl, iz_sub, iMin_iz (by omega) (by omega) (by omega) (by omega)]
  rfl
theorem c_sign {v : Int} (h1 : -2147483648 ≤ v) (h2 : v ≤ 2147483647) : fX10_signOf fu sh I R (iz v) = some (iz (sgnS v)) := by
  simp only [fX10_signOf, fX10_signOf_b15, iz_lit, iz_neg]
  simp (disch := omega) only [iz_le, iz_eq]
  unfold sgnS
  by_cases g1 : 0 < v
  · simp [g1, show ¬ v ≤ 0 by omega, show ¬ v = 0 by omega]
  · by_cases g2 : v < 0
    · simp [g1, g2, show v ≤ 0 by omega, show ¬ v = 0 by omega]
    · simp [g1, g2, show v = 0 by omega]
theorem c_cross (x y u v : Int) : fX10_crossProduct fu sh I R (iz x) (iz y) (iz u) (iz v) = some (iz (crossS x y u v)) := by
  simp only [fX10_crossProduct, iz_mul, iz_sub]
  rfl
/-- what is read of a shot, of its subject's place -/
theorem BDV.su (D : BDV sh I R B SA HA ca xa ya sa ρ) (V : VB ρ) (h0 : 0 ≤ s) (h1 : s < ρ 4) : oB sh R SA 5 (iz (scS ρ s)) = some (ca (scS ρ s)) ∧ oR sh R (ca (scS ρ s)) 5 2 = some (xa (scS ρ s)) ∧ oR sh R (ca (scS ρ s)) 5 3 = some (ya (scS ρ s)) ∧ oA sh I (xa (scS ρ s)) (iz (suS ρ s)) = some (iz (sxS ρ s)) ∧ oA sh I (ya (scS ρ s)) (iz (suS ρ s)) = some (iz (syS ρ s)) := by
  obtain ⟨a1, -, -, a4, a5, -⟩ := V.shot h0 h1
  obtain ⟨⟨d1, -, -, -, d5, d6⟩, d7⟩ := D.2.2.1 _ a1.1 a1.2
  obtain ⟨d8, d9⟩ := d7 _ a4.1 a4.2 a5
  exact ⟨d1, d5, d6, d8, d9⟩
theorem BDV.pa (D : BDV sh I R B SA HA ca xa ya sa ρ) (V : VB ρ) (h0 : 0 ≤ s) (h1 : s < ρ 4) (h2 : ¬ paS ρ s = -1) : oA sh I (xa (scS ρ s)) (iz (paS ρ s)) = some (iz (pxS ρ s)) ∧ oA sh I (ya (scS ρ s)) (iz (paS ρ s)) = some (iz (pyS ρ s)) := by
  obtain ⟨a1, -, -, -, -, a6, -⟩ := V.shot h0 h1
  rcases a6 with a6 | ⟨a6, a7, -⟩
  · exact absurd a6 h2
  · exact (D.2.2.1 _ a1.1 a1.2).2 _ a6.1 a6.2 a7
theorem c_view (D : BDV sh I R B SA HA ca xa ya sa ρ) (V : VB ρ) (h0 : 0 ≤ s) (h1 : s < ρ 4) : fX9_viewOf fu sh I R B (sa s) = some (iz (viewS ρ s)) := by
  obtain ⟨a1, a2, a3, a4, a5, a6, a7, a8⟩ := V.shot h0 h1
  have b := V.sub h0 h1
  obtain ⟨-, f0, f1, f2, f3, -⟩ := D.2.2.2 s h0 h1
  obtain ⟨q1, q2, q3, q4, q5⟩ := D.su V h0 h1
  simp only [fX9_viewOf, D.1.2.1, f0, f1, f2, f3, q1, q2, q3, q4, q5, bsome, iz_sub]
  rw [c_dir (by omega) (by omega) (by omega) (by omega), bsome, if_neg (by omega)]
  rfl
theorem c_side (D : BDV sh I R B SA HA ca xa ya sa ρ) (V : VB ρ) (h0 : 0 ≤ s) (h1 : s < ρ 4) : fX9_sideOf fu sh I R B (sa s) = some (iz (sideS ρ s)) := by
  obtain ⟨a1, a2, a3, a4, a5, a6, a7, a8⟩ := V.shot h0 h1
  have b := V.sub h0 h1
  obtain ⟨-, f0, f1, f2, f3, f4, -⟩ := D.2.2.2 s h0 h1
  obtain ⟨q1, q2, q3, q4, q5⟩ := D.su V h0 h1
  simp only [fX9_sideOf, f4, bsome, iz_lit, iz_neg]
  simp (disch := omega) only [iz_eq]
  unfold sideS
  by_cases h : paS ρ s = -1
  · rw [if_pos h, if_pos h]
  · have p := V.par h0 h1 h
    obtain ⟨w1, w2⟩ := D.pa V h0 h1 h
    have c1 := cross_range (x := pxS ρ s - sxS ρ s) (y := pyS ρ s - syS ρ s) (u := cxS ρ s - sxS ρ s) (v := cyS ρ s - syS ρ s) (by omega) (by omega) (by omega) (by omega) (by omega) (by omega) (by omega) (by omega)
    have c2 := cross_range (x := sxS ρ s - pxS ρ s) (y := syS ρ s - pyS ρ s) (u := cxS ρ s - pxS ρ s) (v := cyS ρ s - pyS ρ s) (by omega) (by omega) (by omega) (by omega) (by omega) (by omega) (by omega) (by omega)
    rw [if_neg h, if_neg h]
    simp (disch := omega) only [iMax_iz, iMin_iz, D.1.2.1, f0, f1, f2, f3, f4, q1, q2, q3, bsome]
    by_cases g : suS ρ s < paS ρ s
    · rw [if_pos g, Int.max_eq_right (by omega), Int.min_eq_left (by omega)]
      simp only [q4, q5, w1, w2, bsome, iz_sub, c_cross]
      rw [c_sign (by omega) (by omega), bsome]
    · rw [if_neg g, Int.max_eq_left (by omega), Int.min_eq_right (by omega)]
      simp only [q4, q5, w1, w2, bsome, iz_sub, c_cross]
      rw [c_sign (by omega) (by omega), bsome]
theorem c_look (D : BDV sh I R B SA HA ca xa ya sa ρ) (V : VB ρ) (h0 : 0 ≤ s) (h1 : s < ρ 4) : fX9_lookOf fu sh I R B (sa s) = some (iz (lookS ρ s)) := by
  obtain ⟨a1, a2, a3, a4, a5, a6, a7, a8⟩ := V.shot h0 h1
  have b := V.sub h0 h1
  obtain ⟨-, f0, f1, f2, f3, f4, -⟩ := D.2.2.2 s h0 h1
  obtain ⟨q1, q2, q3, q4, q5⟩ := D.su V h0 h1
  simp only [fX9_lookOf, f4, bsome, iz_lit, iz_neg]
  simp (disch := omega) only [iz_eq]
  unfold lookS
  by_cases h : paS ρ s = -1
  · rw [if_pos h, if_pos h]
  · have p := V.par h0 h1 h
    obtain ⟨w1, w2⟩ := D.pa V h0 h1 h
    have c1 := cross_range (x := sxS ρ s - cxS ρ s) (y := syS ρ s - cyS ρ s) (u := pxS ρ s - sxS ρ s) (v := pyS ρ s - syS ρ s) (by omega) (by omega) (by omega) (by omega) (by omega) (by omega) (by omega) (by omega)
    rw [if_neg h, if_neg h]
    simp only [D.1.2.1, f0, f1, f2, f3, f4, q1, q2, q3, q4, q5, w1, w2, bsome, iz_sub, c_cross]
    rw [c_sign (by omega) (by omega), bsome]
theorem c_near (D : BDV sh I R B SA HA ca xa ya sa ρ) (V : VB ρ) (h0 : 0 ≤ s) (h1 : s < ρ 4) (t0 : 0 ≤ t) (t1 : t < ρ 4) {r : Int} (hr : 0 ≤ r) (hr2 : r ≤ 99) : fX9_areNear fu sh I R B (sa s) (sa t) (iz r) = some (bz (nearS ρ s t r)) := by
  obtain ⟨a1, a2, a3, a4, a5, a6, a7, a8⟩ := V.shot h0 h1
  obtain ⟨c1, c2, c3, -⟩ := V.shot t0 t1
  have hm := V.m
  have vl := V.lim
  obtain ⟨-, f0, f1, f2, -⟩ := D.2.2.2 s h0 h1
  obtain ⟨-, e0, e1, e2, -⟩ := D.2.2.2 t t0 t1
  have x1 := ab_range (a := cxS ρ s - cxS ρ t) (b := 199) (by omega) (by omega)
  have x2 := ab_range (a := cyS ρ s - cyS ρ t) (b := 199) (by omega) (by omega)
  have v1 := V.view h0 h1
  have v2 := V.view t0 t1
  have v3 := turn_range v1.1 v1.2 v2.1 v2.2
  simp only [fX9_areNear, fX9_areNear_b73, iz_lit, f0, f1, f2, e0, e1, e2, bsome, iz_sub, c_view D V h0 h1, c_view D V t0 t1, c_turn (show -2 ≤ viewS ρ s by omega) v1.2 (show -2 ≤ viewS ρ t by omega) v2.2, D.2.1.2.1]
  rw [iAbs_iz (by omega) (by omega), iAbs_iz (by omega) (by omega)]
  rw [show (if cxS ρ s - cxS ρ t < 0 then -(cxS ρ s - cxS ρ t) else cxS ρ s - cxS ρ t) = ab (cxS ρ s - cxS ρ t) from rfl, show (if cyS ρ s - cyS ρ t < 0 then -(cyS ρ s - cyS ρ t) else cyS ρ s - cyS ρ t) = ab (cyS ρ s - cyS ρ t) from rfl, iz_add]
  simp (disch := omega) only [iz_lt, iz_eq, iz_le]
  unfold nearS
  by_cases k1 : scS ρ s = scS ρ t
  · by_cases k2 : ab (cxS ρ s - cxS ρ t) + ab (cyS ρ s - cyS ρ t) ≤ r
    · by_cases k3 : ρ 1 < turnS (viewS ρ s) (viewS ρ t)
      · rw [if_pos k1, if_pos k2, if_pos k3, decide_eq_true k1, decide_eq_true k2, decide_eq_false (by omega)]; rfl
      · rw [if_pos k1, if_pos k2, if_neg k3, decide_eq_true k1, decide_eq_true k2, decide_eq_true (by omega)]; rfl
    · rw [if_pos k1, if_neg k2, decide_eq_true k1, decide_eq_false k2]; rfl
  · rw [if_neg k1, decide_eq_false k1]; rfl
end C1
