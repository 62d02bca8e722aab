/-! STAGE 2: moveActor, on both sides -/
def hcB (ρ : RHO) (c a x y s : Int) : Bool := decide (scS ρ s = c ∧ suS ρ s = a ∧ cxS ρ s = x ∧ cyS ρ s = y)
def hcF (P : Int → Bool) : Nat → Nat → Bool
  | 0, _ => false
  | f + 1, s => if P (s : Int) = true then true else hcF P f (s + 1)
def hcS (ρ : RHO) (c a x y : Int) : Bool := hcF (hcB ρ c a x y) (ρ 4).toNat 0
theorem hcF_no {P : Int → Bool} : ∀ f s : Nat, hcF P f s = false → ∀ t : Nat, s ≤ t → t < s + f → P (t : Int) = false := by
  intro f
  induction f with
  | zero => intro s _ t h1 h2; omega
  | succ f ih =>
    intro s h t h1 h2
    unfold hcF at h
    by_cases z : P (s : Int) = true
    · rw [if_pos z] at h
      exact absurd h (by decide)
    · rw [if_neg z] at h
      by_cases w : t = s
      · rw [w]; simpa using z
      · exact ih (s + 1) h t (by omega) (by omega)
def mvA (ρ : RHO) (c a x y : Int) : RHO := up1 (up1 ρ (5 + 14 * c + 2 + a) x) (5 + 14 * c + 8 + a) y
theorem mvA_ne {ρ : RHO} {c a x y j : Int} (h : ¬ j = 5 + 14 * c + 2 + a) (h2 : ¬ j = 5 + 14 * c + 8 + a) : mvA ρ c a x y j = ρ j := by
  unfold mvA
  rw [up1_ne h2, up1_ne h]
theorem mvA_x {ρ : RHO} {c a x y d b : Int} (c0 : 0 ≤ c) (c1 : c < 3) (a0 : 0 ≤ a) (a1 : a < 6) (d0 : 0 ≤ d) (d1 : d < 3) (b0 : 0 ≤ b) (b1 : b < 6) : axS (mvA ρ c a x y) d b = if d = c ∧ b = a then x else axS ρ d b := by
  unfold axS
  by_cases z : d = c ∧ b = a
  · rw [if_pos z, z.1, z.2]
    unfold mvA
    rw [up1_ne (by omega), up1_eq]
  · rw [if_neg z, mvA_ne (by omega) (by omega)]
theorem mvA_y {ρ : RHO} {c a x y d b : Int} (c0 : 0 ≤ c) (c1 : c < 3) (a0 : 0 ≤ a) (a1 : a < 6) (d0 : 0 ≤ d) (d1 : d < 3) (b0 : 0 ≤ b) (b1 : b < 6) : ayS (mvA ρ c a x y) d b = if d = c ∧ b = a then y else ayS ρ d b := by
  unfold ayS
  by_cases z : d = c ∧ b = a
  · rw [if_pos z, z.1, z.2]
    unfold mvA
    rw [up1_eq]
  · rw [if_neg z, mvA_ne (by omega) (by omega)]
theorem mvA_V {ρ : RHO} (V : VB ρ) {c a x y : Int} (c0 : 0 ≤ c) (c1 : c < ρ 3) (a0 : 0 ≤ a) (a1 : a < 6) (x0 : 0 ≤ x ∧ x ≤ 199) (y0 : 0 ≤ y ∧ y ≤ 199) (h : hcS ρ c a x y = false) : VB (mvA ρ c a x y) := by
  have hm := V.m
  have hn := V.n
  refine V.upd (mvA_ne (by omega) (by omega)) (mvA_ne (by omega) (by omega)) ?_ (fun d g0 g1 => mvA_ne (by omega) (by omega)) (fun d g0 g1 => ?_) (fun d b g0 g1 b0 b1 b2 => ?_) (fun t g0 g1 => ?_)
  · rw [mvA_ne (by omega) (by omega), mvA_ne (by omega) (by omega), mvA_ne (by omega) (by omega)]; exact V.lim
  · have e : ltS (mvA ρ c a x y) d = ltS ρ d := mvA_ne (by omega) (by omega)
    rw [e]; exact (V.scene g0 g1).1
  · rw [mvA_x c0 (by omega) a0 a1 g0 (by omega) b0 b1, mvA_y c0 (by omega) a0 a1 g0 (by omega) b0 b1]
    by_cases z : d = c ∧ b = a
    · rw [if_pos z, if_pos z]; exact ⟨x0, y0⟩
    · rw [if_neg z, if_neg z]; exact (V.scene g0 g1).2.2 b b0 b1 b2
  · have q := V.shot g0 g1
    have e0 : scS (mvA ρ c a x y) t = scS ρ t := mvA_ne (by omega) (by omega)
    have e1 : cxS (mvA ρ c a x y) t = cxS ρ t := mvA_ne (by omega) (by omega)
    have e2 : cyS (mvA ρ c a x y) t = cyS ρ t := mvA_ne (by omega) (by omega)
    have e3 : suS (mvA ρ c a x y) t = suS ρ t := mvA_ne (by omega) (by omega)
    have e4 : paS (mvA ρ c a x y) t = paS ρ t := mvA_ne (by omega) (by omega)
    have e5 : lnS (mvA ρ c a x y) t = lnS ρ t := mvA_ne (by omega) (by omega)
    rw [e0, e1, e2, e3, e4, e5]
    refine ⟨rfl, q.2.1, q.2.2.1, q.2.2.2.1, q.2.2.2.2.1, q.2.2.2.2.2.1, q.2.2.2.2.2.2.1, ?_⟩
    rw [mvA_x c0 (by omega) a0 a1 q.1.1 (by omega) q.2.2.2.1.1 q.2.2.2.1.2, mvA_y c0 (by omega) a0 a1 q.1.1 (by omega) q.2.2.2.1.1 q.2.2.2.1.2]
    by_cases z : scS ρ t = c ∧ suS ρ t = a
    · rw [if_pos z, if_pos z]
      intro w
      have k := hcF_no _ _ h t.toNat (Nat.zero_le _) (by omega)
      rw [Int.toNat_of_nonneg g0] at k
      exact absurd ⟨z.1, z.2, w.1.symm, w.2.symm⟩ (of_decide_eq_false k)
    · rw [if_neg z, if_neg z]
      exact q.2.2.2.2.2.2.2
def aMvA (σ : STT) (c a x y : Int) : Int ⊕ Nat := if σ.1 = true then (if ((0 ≤ c ∧ c ≤ σ.2.1 3 - 1) ∧ (0 ≤ a ∧ a ≤ 5) ∧ inS σ.2.1 c a = true) ∧ ((0 ≤ x ∧ x ≤ 199) ∧ (0 ≤ y ∧ y ≤ 199)) then .inl (if hcS σ.2.1 c a x y = true then -2 else faultS (mvA σ.2.1 c a x y)) else .inr 2) else .inr 1
def sMvA (σ : STT) (c a x y : Int) : STT := if σ.1 = true then (if ((0 ≤ c ∧ c ≤ σ.2.1 3 - 1) ∧ (0 ≤ a ∧ a ≤ 5) ∧ inS σ.2.1 c a = true) ∧ ((0 ≤ x ∧ x ≤ 199) ∧ (0 ≤ y ∧ y ≤ 199)) then (if hcS σ.2.1 c a x y = true then σ else rowS (pushS σ) (mvA σ.2.1 c a x y)) else σ) else σ
section Q32
variable {fu : Nat} {sh : HS} {I I' J : HI} {R : HR} {AD : Int → Nat} {P : Int → Int → Int} {σ σ' : STT} {ρ ρ' : RHO} {p : Int → Int} {c a x y : Int}
theorem c_needActor (V : VB ρ) (B : BA sh I R AD 28 p ρ) (c0 : 0 ≤ c) (c1 : c < ρ 3) (ha : IR a) : fX10_needActor fu sh I R (AD (28 + 3 + 3 * c)) (iz a) = some (if (0 ≤ a ∧ a ≤ 5) ∧ inS ρ c a = true then .inl () else .inr (exN 2)) := by
  simp only [fX10_needActor]
  by_cases y : 0 ≤ a ∧ a ≤ 5
  · rw [c_has B.1 V c0 c1 y.1 (by omega), bsome]
    simp only [iz_lit, bz_zero]
    cases e : inS ρ c a
    · rw [if_pos rfl, if_neg (fun k => absurd k.2 (by decide))]
      rfl
    · rw [if_neg (by decide), if_pos ⟨y, rfl⟩]
  · rw [c_hasNo B.1 c0 c1 (by omega) ha.1 ha.2, bsome]
    simp only [iz_lit, bz_zero]
    rw [if_pos True.intro, if_neg (fun k => y k.1)]
    rfl
theorem c_hc_loop (S : OKS sh AD) (V : VB ρ) (B : BA sh I R AD 28 p ρ) (c0 : 0 ≤ c) (c1 : c < 3) (a0 : 0 ≤ a) (a1 : a < 6) (x0 : 0 ≤ x ∧ x ≤ 199) (y0 : 0 ≤ y ∧ y ≤ 199) : ∀ f j s : Nat, s + f = (ρ 4).toNat → f < j →
    fX0_hasCameraOn_l3 fu sh I R j (AD 28) (iz c) (iz a) (iz x) (iz y) (iz (s : Int)) = some (bz (hcF (hcB ρ c a x y) f s)) := by
  have hm := V.m
  have hn := V.n
  intro f
  induction f with
  | zero =>
    intro j s hs hj
    obtain ⟨j, rfl⟩ : ∃ t, j = t + 1 := ⟨j - 1, by omega⟩
    show fX0_hasCameraOn_b3 fu sh I R (fX0_hasCameraOn_l3 fu sh I R j) _ _ _ _ _ _ = _
    simp only [fX0_hasCameraOn_b3, B.1.2.1.2.2.2.2, bsome, iz_lit]
    rw [if_pos (by rw [iz_le (by omega) (by omega) (by omega) (by omega)]; omega)]
    rfl
  | succ f ih =>
    intro j s hs hj
    obtain ⟨j, rfl⟩ : ∃ t, j = t + 1 := ⟨j - 1, by omega⟩
    have s0 : 0 ≤ (s : Int) := by omega
    have s1 : (s : Int) < ρ 4 := by omega
    have ek : iz (s : Int) + iz 1 = iz ((s + 1 : Nat) : Int) := by rw [iz_add]; rfl
    obtain ⟨⟨q1, q2⟩, f0, f1, f2, f3, f4, f5⟩ := B.1.2.2.2 s s0 s1
    obtain ⟨v1, v2, v3, v4, -⟩ := V.shot s0 s1
    have e2 := ih j (s + 1) (by omega) (by omega)
    unfold hcF
    have hd : hcB ρ c a x y s = true ↔ (scS ρ s = c ∧ suS ρ s = a ∧ cxS ρ s = x ∧ cyS ρ s = y) := decide_eq_true_iff
    show fX0_hasCameraOn_b3 fu sh I R (fX0_hasCameraOn_l3 fu sh I R j) _ _ _ _ _ _ = _
    simp only [fX0_hasCameraOn_b3, fX0_hasCameraOn_b43, fX0_hasCameraOn_b44, fX0_hasCameraOn_b72, B.1.2.1.2.2.2.2, B.1.1.2.2, q1, f0, f1, f2, f3, bsome, iz_lit, ek, e2]
    rw [if_neg (by rw [iz_le (by omega) (by omega) (by omega) (by omega)]; omega)]
    simp (disch := omega) only [iz_eq]
    by_cases z1 : scS ρ s = c
    · rw [if_pos z1]
      by_cases z2 : suS ρ s = a
      · rw [if_pos z2, if_neg (by decide)]
        by_cases z3 : cxS ρ s = x
        · rw [if_pos z3]
          by_cases z4 : cyS ρ s = y
          · rw [if_pos z4, if_pos (hd.mpr ⟨z1, z2, z3, z4⟩)]
            rfl
          · rw [if_neg z4, if_neg (fun k => z4 (hd.mp k).2.2.2)]
        · rw [if_neg z3, if_neg (fun k => z3 (hd.mp k).2.2.1)]
      · rw [if_neg z2, if_pos True.intro, if_neg (fun k => z2 (hd.mp k).2.1)]
    · rw [if_neg z1, if_pos True.intro, if_neg (fun k => z1 (hd.mp k).1)]
theorem c_hasCam (S : OKS sh AD) (V : VB ρ) (hfu : 5000 ≤ fu) (B : BA sh I R AD 28 p ρ) (c0 : 0 ≤ c) (c1 : c < 3) (a0 : 0 ≤ a) (a1 : a < 6) (x0 : 0 ≤ x ∧ x ≤ 199) (y0 : 0 ≤ y ∧ y ≤ 199) : fX0_hasCameraOn fu sh I R (AD 28) (iz c) (iz a) (iz x) (iz y) = some (bz (hcS ρ c a x y)) := by
  have hn := V.n
  simp only [fX0_hasCameraOn, if_pos B.1.1.1, iz_lit]
  exact c_hc_loop S V B c0 c1 a0 a1 x0 y0 (ρ 4).toNat fu 0 (by omega) (by omega)
theorem BVL.ac (S : OKS sh AD) (V : VB ρ) (B : BSH R AD 28 p) (L : BVL I AD 28 p ρ) (c0 : 0 ≤ c) (c1 : c < 3) (a0 : 0 ≤ a) (a1 : a < 6) : BVL (u2 (u2 I (AD (28 + 4 + 3 * c)) a.toNat (iz x)) (AD (28 + 5 + 3 * c)) a.toNat (iz y)) AD 28 p (mvA ρ c a x y) := by
  have hm := V.m
  have hn := V.n
  have hp : ∀ s, 0 ≤ s → s < 12 → 0 ≤ p s ∧ p s < 12 := fun s g0 g1 => (B.2.2.2.1 s g0 g1).2
  have l1 : BVL (u2 I (AD (28 + 4 + 3 * c)) a.toNat (iz x)) AD 28 p (up1 ρ (5 + 14 * c + 2 + a) x) := L.w1 S hm.2 hn.2 hp (by omega) (by omega) x (by omega) (by omega) (by omega) (fun q hq => by omega) (fun d d0 d1 => by omega) (fun d d0 d1 => by omega) (fun d a d0 d1 a0 a1 => by omega) (fun d a d0 d1 a0 a1 => by omega) (fun s s0 s1 q hq => by have := hp s s0 s1; omega)
  exact l1.w1 S (by rw [up1_ne (by omega)]; exact hm.2) (by rw [up1_ne (by omega)]; exact hn.2) hp (by omega) (by omega) y (by omega) (by omega) (by omega) (fun q hq => by omega) (fun d d0 d1 => by omega) (fun d d0 d1 => by omega) (fun d a d0 d1 a0 a1 => by omega) (fun d a d0 d1 a0 a1 => by omega) (fun s s0 s1 q hq => by have := hp s s0 s1; omega)
theorem ca_moveActor (S : OKS sh AD) (V : VST σ) (hfu : 5000 ≤ fu) (hc : IR c) (ha : IR a) (hx : IR x) (hy : IR y) : CA AD R P σ (sMvA σ c a x y) (fun I => fX10_moveActor fu sh I R (AD 0) (iz c) (iz a) (iz x) (iz y)) (aMvA σ c a x y) := by
  intro I C K
  unfold aMvA sMvA
  by_cases h : σ.1 = true
  · have n3 := V.n3
    have W := V.1 h
    have B := C.ba S V h
    rw [if_pos h, if_pos h]
    have bad : ∀ (g : Prop) [Decidable g], ¬ g → ∀ A, fX10_moveActor fu sh I R (AD 0) (iz c) (iz a) (iz x) (iz y) = some (.inr (exN 2), I) → ∃ I', (fun I => fX10_moveActor fu sh I R (AD 0) (iz c) (iz a) (iz x) (iz y)) I = some (cOut (if g then .inl A else .inr 2), I') ∧ CIB I' R AD P (if g then (if hcS σ.2.1 c a x y = true then σ else rowS (pushS σ) (mvA σ.2.1 c a x y)) else σ) ∧ CKN I' AD (if g then (if hcS σ.2.1 c a x y = true then σ else rowS (pushS σ) (mvA σ.2.1 c a x y)) else σ) ∧ FR AD I I' (fun i _ => i < 316) := by
      intro g _ ng A e
      rw [if_neg ng, if_neg ng]
      exact ⟨I, e, C, K, FR.rf _ _ _⟩
    by_cases z : 0 ≤ c ∧ c ≤ σ.2.1 3 - 1
    · have c1 : c < σ.2.1 3 := by omega
      obtain ⟨⟨q1, q2, q3, q4, q5, q6⟩, q7⟩ := B.1.2.2.1 c z.1 c1
      have na := c_needActor (fu := fu) (a := a) W B z.1 c1 ha
      by_cases w : (0 ≤ a ∧ a ≤ 5) ∧ inS σ.2.1 c a = true
      · rw [if_pos w] at na
        by_cases zx : 0 ≤ x ∧ x ≤ 199
        · by_cases zy : 0 ≤ y ∧ y ≤ 199
          · have zz : ((0 ≤ c ∧ c ≤ σ.2.1 3 - 1) ∧ (0 ≤ a ∧ a ≤ 5) ∧ inS σ.2.1 c a = true) ∧ ((0 ≤ x ∧ x ≤ 199) ∧ (0 ≤ y ∧ y ≤ 199)) := ⟨⟨z, w⟩, zx, zy⟩
            rw [if_pos zz, if_pos zz]
            simp only [fX10_moveActor, fX10_needPlace, if_pos (isT_of S.pl), c_needBoard S C, if_pos h, oT0l, c_needScene S C V h hc, if_pos z, oR_at S.pl C.1.1.1.2.1, B.1.1.2.1, q1, bsome, na, iz_lit, c_needRange hx.1 hx.2 (by decide : (-2147483648 : Int) ≤ 0) (by decide) (by decide : (-2147483648 : Int) ≤ 199) (by decide), if_pos zx, c_needRange hy.1 hy.2 (by decide : (-2147483648 : Int) ≤ 0) (by decide) (by decide : (-2147483648 : Int) ≤ 199) (by decide), if_pos zy, c_hasCam S W hfu B z.1 (show c < 3 by omega) w.1.1 (show a < 6 by omega) zx zy, bz_zero, iz_neg]
            cases e : hcS σ.2.1 c a x y
            · have V2 := mvA_V W z.1 c1 w.1.1 (show a < 6 by omega) zx zy e
              have Bs : BSH R AD 28 (P 0) := C.1.2.2.2.2.2.2.2 0 (by decide) (by decide)
              obtain ⟨J, e0, CJ, ⟨z9, z11⟩, F1⟩ := c_begin (fu := fu) S C V hfu h
              have kx := S.at (i := 28 + 4 + 3 * c) (by rw [← (kd_S (b := 0) (c := c) (by decide) (by decide) (by omega) (by omega)).2.1]; congr 1) (by omega) (by omega)
              have ky := S.at (i := 28 + 5 + 3 * c) (by rw [← (kd_S (b := 0) (c := c) (by decide) (by decide) (by omega) (by omega)).2.2]; congr 1) (by omega) (by omega)
              have L2 := BVL.ac (x := x) (y := y) S W Bs (CJ.2.2.2.2.2.1 h) z.1 (show c < 3 by omega) w.1.1 (show a < 6 by omega)
              have F2 : FR AD J (u2 (u2 J (AD (28 + 4 + 3 * c)) a.toNat (iz x)) (AD (28 + 5 + 3 * c)) a.toNat (iz y)) (fun i _ => 28 ≤ i ∧ i < 52) := FR.u2 S (by omega) (by omega) ⟨by omega, by omega⟩ (FR.u2 S (by omega) (by omega) ⟨by omega, by omega⟩ (FR.rf AD J _))
              obtain ⟨C2, K2⟩ := c_done V h CJ z9 z11 F2 L2
              have ba2 : BA sh _ R AD 28 (P 0) (mvA σ.2.1 c a x y) := BA.of (b := 0) S (by decide) (by decide) Bs L2 V2
              rw [if_pos rfl, if_neg (by decide), if_neg (by decide), e0, bsome, q5, bsome, oS_iz kx w.1.1 (by omega) (by omega), bsome, q6, bsome, oS_iz ky w.1.1 (by omega) (by omega), bsome, c_total ba2.1 V2 hfu, bsome]
              exact ⟨_, rfl, C2, K2, (F1.wd fun i k z => by omega).tr (F2.wd fun i k z => by omega)⟩
            · rw [if_neg (by decide), if_pos rfl, if_pos rfl]
              exact ⟨I, rfl, C, K, FR.rf _ _ _⟩
          · refine bad _ (fun k => zy k.2.2) _ ?_
            simp only [fX10_moveActor, fX10_needPlace, if_pos (isT_of S.pl), c_needBoard S C, if_pos h, oT0l, c_needScene S C V h hc, if_pos z, oR_at S.pl C.1.1.1.2.1, B.1.1.2.1, q1, bsome, na, iz_lit, c_needRange hx.1 hx.2 (by decide : (-2147483648 : Int) ≤ 0) (by decide) (by decide : (-2147483648 : Int) ≤ 199) (by decide), if_pos zx, c_needRange hy.1 hy.2 (by decide : (-2147483648 : Int) ≤ 0) (by decide) (by decide : (-2147483648 : Int) ≤ 199) (by decide), if_neg zy, oT0r]
        · refine bad _ (fun k => zx k.2.1) _ ?_
          simp only [fX10_moveActor, fX10_needPlace, if_pos (isT_of S.pl), c_needBoard S C, if_pos h, oT0l, c_needScene S C V h hc, if_pos z, oR_at S.pl C.1.1.1.2.1, B.1.1.2.1, q1, bsome, na, iz_lit, c_needRange hx.1 hx.2 (by decide : (-2147483648 : Int) ≤ 0) (by decide) (by decide : (-2147483648 : Int) ≤ 199) (by decide), if_neg zx, oT0r]
      · rw [if_neg w] at na
        refine bad _ (fun k => w k.1.2) _ ?_
        simp only [fX10_moveActor, if_pos (isT_of S.pl), c_needBoard S C, if_pos h, oT0l, c_needScene S C V h hc, if_pos z, oR_at S.pl C.1.1.1.2.1, B.1.1.2.1, q1, bsome, na, oT0r]
    · refine bad _ (fun k => z k.1.1) _ ?_
      simp only [fX10_moveActor, if_pos (isT_of S.pl), c_needBoard S C, if_pos h, oT0l, c_needScene S C V h hc, if_neg z, oT0r]
  · rw [if_neg h, if_neg h]
    simp only [fX10_moveActor, if_pos (isT_of S.pl), c_needBoard S C, if_neg h, oT0r]
    exact ⟨I, rfl, C, K, FR.rf _ _ _⟩
end Q32
