/-! THE LAW, STAGE 2: the board drawn, whole -/
theorem mn_facts {sh : HS} {I : HI} {R : HR} {a N M : Nat} : ∀ k : Nat, (∀ b, (b < a ∨ a + k < b) → mnS sh a N M k b = sh b) ∧ mnS sh a N M k a = some (45, N) ∧ (∀ i, i < k → mnS sh a N M k (a + 1 + i) = some (20, M)) ∧ (∀ b, (b ≤ a ∨ a + k < b) → mnI I a k b = I b) ∧ (∀ i, i < k → mnI I a k (a + 1 + i) = fun _ => 0) ∧ (∀ b, ¬ b = a → mnR R a k b = R b) ∧ (∀ j, j < k → mnR R a k a j = some (a + 1 + j)) := by
  intro k
  induction k with
  | zero => exact ⟨fun b hb => u1_off (by omega), mnS_a 0, fun i hi => absurd hi (Nat.not_lt_zero i), fun b _ => rfl, fun i hi => absurd hi (Nat.not_lt_zero i), fun b hb => u1_off hb, fun i hi => absurd hi (Nat.not_lt_zero i)⟩
  | succ k ih =>
    obtain ⟨h1, h2, h3, h4, h5, h6, h7⟩ := ih
    refine ⟨fun b hb => ?_, mnS_a (k + 1), fun i hi => ?_, fun b hb => ?_, fun i hi => ?_, fun b hb => ?_, fun j hj => ?_⟩
    · show u1 (mnS sh a N M k) (a + 1 + k) (some (20, M)) b = sh b
      rw [u1_off (by omega)]
      exact h1 b (by omega)
    · show u1 (mnS sh a N M k) (a + 1 + k) (some (20, M)) (a + 1 + i) = _
      by_cases z : i = k
      · rw [z, u1_on]
      · rw [u1_off (by omega)]
        exact h3 i (by omega)
    · show u1 (mnI I a k) (a + 1 + k) (fun _ => 0) b = I b
      rw [u1_off (by omega)]
      exact h4 b (by omega)
    · show u1 (mnI I a k) (a + 1 + k) (fun _ => 0) (a + 1 + i) = _
      by_cases z : i = k
      · rw [z, u1_on]
      · rw [u1_off (by omega)]
        exact h5 i (by omega)
    · show u2 (mnR R a k) a k (some (a + 1 + k)) b = R b
      funext j
      rw [u2_off hb, h6 b hb]
    · show u2 (mnR R a k) a k (some (a + 1 + k)) a j = _
      rw [u2_on]
      by_cases z : j = k
      · rw [if_pos z, z]
      · rw [if_neg z]
        exact h7 j (by omega)
theorem EXH.mna {sh : HS} (I : HI) (R : HR) {a : Nat} (N M : Nat) (h : ∀ i, sh (a + i) = none) : EXH (fun _ => False) sh I R (mnS sh a N M N) (mnI I a N) (mnR R a N) := by
  obtain ⟨h1, h2, h3, h4, h5, h6, h7⟩ := mn_facts (sh := sh) (I := I) (R := R) (a := a) (N := N) (M := M) N
  have out : ∀ b, ¬ sh b = none → b < a ∨ a + N < b := by
    intro b hb
    refine Classical.byContradiction (fun z => hb ?_)
    have := h (b - a)
    rwa [show a + (b - a) = b by omega] at this
  exact ⟨fun b hb => h1 b (out b hb), fun b hb _ => ⟨h4 b (by have := out b hb; omega), h6 b (by have := out b hb; omega)⟩⟩
theorem EXH.nw {sh sh1 : HS} {I I1 : HI} {R R1 : HR} {X : Nat → Prop} (e : EXH X sh I R sh1 I1 R1) {b : Nat} (h : sh1 b = none) : sh b = none := Classical.byContradiction (fun z => by
  rw [e.1 b z] at h
  exact z h)
section DR
variable {K J : Nat → Nat} {fu : Nat} {A : Nat → Nat} {cap : Nat} {S : List Nat} {sh0 sh sh' : HS} {I0 I I' : HI} {R0 R R' : HR} {ρ ρ' : RHO} {s N a : Nat}
theorem l_x11init {P : HS → HI → HR → Prop} (h9 : sh a = some (9, 7)) (O : OLD sh I R K)
    (hP : ∀ L sh' I' R', sh L = none → EXH (fun q => q = a) sh I R sh' I' R' → LST sh' I' R' K L (K nS) 0 [] → R' a 3 = some L → P sh' I' R') : wX11_init K J fu sh I R a (qwV P) := by
  unfold wX11_init
  refine ⟨⟨by decide, by decide⟩, ⟨by decide, by decide⟩, fun L hL => ⟨⟨by decide, by decide⟩, l_init u1_on ?_⟩⟩
  have e0 : EXH (fun _ => False) sh I R (u1 sh L (some (10, 3))) (u2 (u1 I L (fun _ => 0)) L 0 0) (u2 (u1 R L (fun _ => none)) L 1 (some (K nS))) := ((EXH.new I R hL (10, 3) (fun _ => 0) (fun _ => none)).tr (EXH.wI _ _ _ L 0 0) (fun q hq z => absurd (by rw [z]; exact hL) hq)).tr (EXH.wR _ _ _ L 1 (some (K nS))) (fun q hq z => absurd (by rw [z]; exact hL) hq)
  have T0 := LST.nil (I := I) (R := R) O.1 hL (fun _ => none)
  have nK : ¬ K nS = a := ne_k O.1 h9 (by decide)
  have nL : ¬ L = a := fun z => by rw [← z, hL] at h9; cases h9
  generalize u1 sh L (some (10, 3)) = sh1 at *
  generalize u2 (u1 I L (fun _ => 0)) L 0 0 = I1 at *
  generalize u2 (u1 R L (fun _ => none)) L 1 (some (K nS)) = R1 at *
  have g1 := e0.k h9
  refine wB_of (oQ_at g1) ?_
  have e1 : EXH (fun q => q = a) sh I R sh1 I1 (u2 R1 a 3 (some L)) := (e0.mono (Y := fun q => q = a) (fun q _ z => z.elim)).tr (EXH.wR _ _ _ a 3 (some L)) (fun q _ z => z)
  have T1 := T0.ex (EXH.wR sh1 I1 R1 a 3 (some L)) nL nK
  have r1 : u2 R1 a 3 (some L) a 3 = some L := u2_self
  generalize u2 R1 a 3 (some L) = R2 at *
  have z0 : (0 : Int32).toNatClampNeg = 0 := by decide
  rw [z0]
  refine ⟨⟨by decide, by decide⟩, ⟨by decide, by decide⟩, fun a7 h7 => ?_⟩
  have e7 := EXH.newI I1 R2 h7 (20, 0) (fun _ => 0)
  have T2 := T1.ex e7 (fun z => z) (fun z => z)
  have e2 : EXH (fun q => q = a) sh I R (u1 sh1 a7 (some (20, 0))) (u1 I1 a7 (fun _ => 0)) R2 := e1.tr e7 (fun _ _ z => z.elim)
  generalize u1 sh1 a7 (some (20, 0)) = sh2 at *
  generalize u1 I1 a7 (fun _ => 0) = I2 at *
  refine wB_of (oQ_at (e2.k h9)) ?_
  have T3 := T2.ex (EXH.wR sh2 I2 R2 a 4 (some a7)) nL nK
  have e3 : EXH (fun q => q = a) sh I R sh2 I2 (u2 R2 a 4 (some a7)) := e2.tr (EXH.wR _ _ _ a 4 (some a7)) (fun q _ z => z)
  have r2 : u2 R2 a 4 (some a7) a 3 = some L := by rw [u2_k (by decide)]; exact r1
  generalize u2 R2 a 4 (some a7) = R3 at *
  refine ⟨⟨by decide, by decide⟩, ⟨by decide, by decide⟩, fun b hb => ?_⟩
  have na : ¬ sh2 a = none := nnk (e3.k h9)
  have e8 := EXH.newR I2 R3 hb (45, 0) (fun _ => none)
  have T4 := T3.ex e8 (fun z => z) (fun z => z)
  have e4 : EXH (fun q => q = a) sh I R (u1 sh2 b (some (45, 0))) I2 (u1 R3 b (fun _ => none)) := e3.tr e8 (fun _ _ z => z.elim)
  have r3 : u1 R3 b (fun _ => none) a 3 = some L := by rw [(e8.2 a na (fun z => z)).2]; exact r2
  generalize u1 sh2 b (some (45, 0)) = sh3 at *
  generalize u1 R3 b (fun _ => none) = R4 at *
  refine wB_of (oQ_at (e4.k h9)) ?_
  have T5 := T4.ex (EXH.wR sh3 I2 R4 a 5 (some b)) nL nK
  have e5 : EXH (fun q => q = a) sh I R sh3 I2 (u2 R4 a 5 (some b)) := e4.tr (EXH.wR _ _ _ a 5 (some b)) (fun q _ z => z)
  have r4 : u2 R4 a 5 (some b) a 3 = some L := by rw [u2_k (by decide)]; exact r3
  generalize u2 R4 a 5 (some b) = R5 at *
  refine ⟨⟨by decide, by decide⟩, ⟨by decide, by decide⟩, fun d hd => ?_⟩
  have nb : ¬ sh3 a = none := nnk (e5.k h9)
  have e9 := EXH.newR I2 R5 hd (45, 0) (fun _ => none)
  have T6 := T5.ex e9 (fun z => z) (fun z => z)
  have e6 : EXH (fun q => q = a) sh I R (u1 sh3 d (some (45, 0))) I2 (u1 R5 d (fun _ => none)) := e5.tr e9 (fun _ _ z => z.elim)
  have r5 : u1 R5 d (fun _ => none) a 3 = some L := by rw [(e9.2 a nb (fun z => z)).2]; exact r4
  generalize u1 sh3 d (some (45, 0)) = sh4 at *
  generalize u1 R5 d (fun _ => none) = R6 at *
  refine wB_of (oQ_at (e6.k h9)) ?_
  have T7 := T6.ex (EXH.wR sh4 I2 R6 a 6 (some d)) nL nK
  have e7 : EXH (fun q => q = a) sh I R sh4 I2 (u2 R6 a 6 (some d)) := e6.tr (EXH.wR _ _ _ a 6 (some d)) (fun q _ z => z)
  have r6 : u2 R6 a 6 (some d) a 3 = some L := by rw [u2_k (by decide)]; exact r5
  exact ⟨⟨by decide, by decide⟩, rfl, hP L _ _ _ hL e7 T7 r6⟩
/-- the board before its scenes are drawn -/
def row0 (r t f M : Int) : RHO := fun j => if j = 0 then r else if j = 1 then t else if j = 2 then f else if j = 3 then M else if j = 6 ∨ j = 20 ∨ j = 34 then 63 else 0
theorem row0_in {r t f M : Int} {c b : Nat} (hc : c < 3) (hb : b < 6) : inS (row0 r t f M) c b = true := by
  have e : csS (row0 r t f M) c = 63 := by
    rcases (show c = 0 ∨ c = 1 ∨ c = 2 by omega) with h | h | h <;> subst h <;> rfl
  unfold inS
  rw [e]
  rcases (show b = 0 ∨ b = 1 ∨ b = 2 ∨ b = 3 ∨ b = 4 ∨ b = 5 by omega) with h | h | h | h | h | h <;> subst h <;> decide
theorem row0_o {r t f M : Int} {j : Int} (h : 4 ≤ j) (h6 : ¬ (j = 6 ∨ j = 20 ∨ j = 34)) : row0 r t f M j = 0 := by
  unfold row0
  rw [if_neg (by omega), if_neg (by omega), if_neg (by omega), if_neg (by omega), if_neg h6]
theorem row0_V {r t f M : Int} (hr : 0 ≤ r ∧ r ≤ 99) (ht : 0 ≤ t ∧ t ≤ 2000) (hf : 0 ≤ f ∧ f ≤ 2000) (hM : 1 ≤ M ∧ M ≤ 3) : VB (row0 r t f M) := by
  have e3 : row0 r t f M 3 = M := rfl
  have e4 : row0 r t f M 4 = 0 := rfl
  refine ⟨hr, ht, hf, by rw [e3]; exact hM, by rw [e4]; omega, fun c c0 c1 => ?_, fun s s0 s1 => by rw [e4] at s1; omega, fun s t s0 st t1 => by rw [e4] at t1; omega⟩
  rw [e3] at c1
  refine ⟨?_, ?_, fun a a0 a1 _ => ?_⟩
  · have : ltS (row0 r t f M) c = 0 := row0_o (by omega) (by omega)
    rw [this]; omega
  · have : csS (row0 r t f M) c = 63 := by
      rcases (show c = 0 ∨ c = 1 ∨ c = 2 by omega) with h | h | h <;> subst h <;> rfl
    rw [this]; omega
  · have x : axS (row0 r t f M) c a = 0 := row0_o (by omega) (by omega)
    have y : ayS (row0 r t f M) c a = 0 := row0_o (by omega) (by omega)
    rw [x, y]; omega
def drA (a2 L k a17 a20 a23 : Nat) : Nat → Nat := fun i => if i = 0 then a2 else if i = 1 then L else if i = 2 then k else if i = 3 then a17 else if i = 4 then a20 else if i = 5 then a23 else if i < 9 then a20 + 1 + (i - 6) else a23 + 1 + (i - 9)
theorem l_drawn {P : Nat → HS → HI → HR → Prop} (hfu : 5000 ≤ fu) (hsc : sh s = some (22, N)) (hN : N ≤ 2147483647) (O : OLD sh I R K)
    (hP : ∀ ρ A cap S sh' I' R', DRX K sh I R ρ A cap S sh' I' R' → P (A 0) sh' I' R') : wL_drawn K J fu sh I R s (qwR P) := by
  unfold wL_drawn
  refine ⟨⟨by decide, by decide⟩, fun a2 ha2 => ⟨⟨by decide, by decide⟩, ?_⟩⟩
  have e0 := EXH.new I R ha2 (9, 7) (fun _ => 0) (fun _ => none)
  have k2 : u1 sh a2 (some (9, 7)) a2 = some (9, 7) := u1_on
  generalize u1 sh a2 (some (9, 7)) = sh2 at *
  generalize u1 I a2 (fun _ => 0) = I2 at *
  generalize u1 R a2 (fun _ => none) = R2 at *
  refine l_x11init k2 (O.ex0 e0) (fun L sh4 I4 R4 hL ei TL rL => ?_)
  have e4 : EXH (fun _ => False) sh I R sh4 I4 R4 := e0.tr ei (fun q hq z => absurd (by rw [z]; exact ha2) hq)
  have L0 := e0.nw hL
  have k4 := ei.k k2
  refine ⟨⟨by decide, by decide⟩, l_cell (k := 0) (e4.k hsc) hN (by decide) (by decide) (fun q q0 qm => ?_)⟩
  refine wB_of (oM_l il3 q0 (by omega) (by decide) (by decide)) ?_
  refine wB_of (oD_l il3 q0 (by omega) (by decide) (by decide)) ?_
  refine wB_of (oM_l il60 (by omega) (by omega) (by decide) (by decide)) ?_
  refine wB_of (oP_at k4) ?_
  refine wB_of (oD_l il180 q0 (by omega) (by decide) (by decide)) ?_
  refine wB_of (oM_l il1500 (by omega) (by omega) (by decide) (by decide)) ?_
  refine wB_of (oP_at k4) ?_
  refine wB_of (oD_l il270000 q0 (by omega) (by decide) (by decide)) ?_
  refine wB_of (oM_l (show (1200 : Int32) = iz 1200 from iz_lit 1200) (by omega) (by omega) (by decide) (by decide)) ?_
  refine wB_of (oP_at k4) ?_
  have b1 : 0 ≤ q / 3 % 60 ∧ q / 3 % 60 ≤ 99 := by omega
  have b2 : 0 ≤ q / 180 % 1500 ∧ q / 180 % 1500 ≤ 2000 := by omega
  have b3 : 0 ≤ q / 270000 % 1200 ∧ q / 270000 % 1200 ≤ 2000 := by omega
  obtain ⟨m, hm, m1, m3⟩ : ∃ m : Nat, 1 + q % 3 = (m : Int) ∧ 1 ≤ m ∧ m ≤ 3 := ⟨(1 + q % 3).toNat, by omega, by omega, by omega⟩
  rw [il1, iz_add, hm]
  generalize q / 3 % 60 = r at *
  generalize q / 180 % 1500 = t at *
  generalize q / 270000 % 1200 = f at *
  have zm : (iz (m : Int)).toNatClampNeg = m := by rw [iz_nat (by omega) (by omega)]; omega
  have z6 : (6 : Int32).toNatClampNeg = 6 := by decide
  have zl : ¬ iz (m : Int) < 0 := by rw [ilt rfl il0 (IRn (by omega)) ⟨by decide, by decide⟩]; omega
  rw [zm, z6]
  have nL : ¬ L = a2 := fun z => by rw [← z, hL] at k2; cases k2
  have nK : ¬ K nS = a2 := ne_k (e4.k O.1) k4 (by decide)
  have e5 : EXH (fun q => q = a2) sh4 I4 R4 sh4 (u2 (u2 (u2 I4 a2 0 (iz r)) a2 1 (iz t)) a2 2 (iz f)) R4 := ((EXH.wI sh4 I4 R4 a2 0 (iz r)).tr (EXH.wI _ _ _ a2 1 (iz t)) (fun _ _ z => z)).tr (EXH.wI _ _ _ a2 2 (iz f)) (fun _ _ z => z)
  have v0 : u2 (u2 (u2 I4 a2 0 (iz r)) a2 1 (iz t)) a2 2 (iz f) a2 0 = iz r := by rw [u2_k (by decide), u2_k (by decide), u2_self]
  have v1 : u2 (u2 (u2 I4 a2 0 (iz r)) a2 1 (iz t)) a2 2 (iz f) a2 1 = iz t := by rw [u2_k (by decide), u2_self]
  have v2 : u2 (u2 (u2 I4 a2 0 (iz r)) a2 1 (iz t)) a2 2 (iz f) a2 2 = iz f := u2_self
  have T5 := TL.ex e5 nL nK
  have E5 : EXH (fun _ => False) sh I R sh4 (u2 (u2 (u2 I4 a2 0 (iz r)) a2 1 (iz t)) a2 2 (iz f)) R4 := e4.tr e5 (fun q hq z => absurd (by rw [z]; exact ha2) hq)
  generalize u2 (u2 (u2 I4 a2 0 (iz r)) a2 1 (iz t)) a2 2 (iz f) = I5 at *
  refine ⟨⟨zl, by omega⟩, ⟨by omega, by omega⟩, fun a17 h17 => ?_⟩
  have e6 := EXH.newI I5 R4 h17 (20, m) (fun _ => 0)
  have T6 := T5.ex e6 (fun z => z) (fun z => z)
  have E6 : EXH (fun _ => False) sh I R (u1 sh4 a17 (some (20, m))) (u1 I5 a17 (fun _ => 0)) R4 := E5.tr e6 (fun _ _ z => z.elim)
  have n17 := E5.nw h17
  have k17 : u1 sh4 a17 (some (20, m)) a17 = some (20, m) := u1_on
  have i17 : u1 I5 a17 (fun _ => 0) a17 = fun _ => 0 := u1_on
  have k6 := e6.k k4
  have v6 : u1 I5 a17 (fun _ => 0) a2 = I5 a2 := (e6.2 a2 (nnk k4) (fun z => z)).1
  generalize u1 sh4 a17 (some (20, m)) = sh6 at *
  generalize u1 I5 a17 (fun _ => 0) = I6 at *
  refine wB_of (oQ_at k6) ?_
  have e7 := EXH.wR sh6 I6 R4 a2 4 (some a17)
  have T7 := T6.ex e7 nL nK
  have E7 : EXH (fun _ => False) sh I R sh6 I6 (u2 R4 a2 4 (some a17)) := E6.tr e7 (fun q hq z => absurd (by rw [z]; exact ha2) hq)
  have r7 : u2 R4 a2 4 (some a17) a2 3 = some L ∧ u2 R4 a2 4 (some a17) a2 4 = some a17 := ⟨by rw [u2_k (by decide)]; exact rL, u2_self⟩
  generalize u2 R4 a2 4 (some a17) = R7 at *
  refine ⟨⟨⟨zl, by omega⟩, by decide, by decide⟩, ⟨by omega, by omega⟩, fun a20 h20 => ?_⟩
  have e8 := EXH.mna I6 R7 m 6 h20
  obtain ⟨x1, x2, x3, x4, x5, x6, x7⟩ := mn_facts (sh := sh6) (I := I6) (R := R7) (a := a20) (N := m) (M := 6) m
  have T8 := T7.ex e8 (fun z => z) (fun z => z)
  have E8 : EXH (fun _ => False) sh I R (mnS sh6 a20 m 6 m) (mnI I6 a20 m) (mnR R7 a20 m) := E7.tr e8 (fun _ _ z => z.elim)
  have n20 : ∀ i, sh (a20 + i) = none := fun i => E7.nw (h20 i)
  have k8 := e8.k k6
  have c8 := e8.k k17
  have d2 := e8.2 a2 (nnk k6) (fun z => z)
  have d17 := e8.2 a17 (nnk k17) (fun z => z)
  generalize mnS sh6 a20 m 6 m = sh8 at *
  generalize mnI I6 a20 m = I8 at *
  generalize mnR R7 a20 m = R8 at *
  refine wB_of (oQ_at k8) ?_
  have n2a : ¬ a20 = a2 := ne_k x2 k8 (by decide)
  have e9 := EXH.wR sh8 I8 R8 a2 5 (some a20)
  have T9 := T8.ex e9 nL nK
  have E9 : EXH (fun _ => False) sh I R sh8 I8 (u2 R8 a2 5 (some a20)) := E8.tr e9 (fun q hq z => absurd (by rw [z]; exact ha2) hq)
  have r9 : u2 R8 a2 5 (some a20) a2 3 = some L ∧ u2 R8 a2 5 (some a20) a2 4 = some a17 ∧ u2 R8 a2 5 (some a20) a2 5 = some a20 := ⟨by rw [u2_k (by decide), d2.2]; exact r7.1, by rw [u2_k (by decide), d2.2]; exact r7.2, u2_self⟩
  have x9 : ∀ j, j < m → u2 R8 a2 5 (some a20) a20 j = some (a20 + 1 + j) := fun j hj => by rw [u2_off n2a]; exact x7 j hj
  generalize u2 R8 a2 5 (some a20) = R9 at *
  refine ⟨⟨⟨zl, by omega⟩, by decide, by decide⟩, ⟨by omega, by omega⟩, fun a23 h23 => ?_⟩
  have e10 := EXH.mna I8 R9 m 6 h23
  obtain ⟨y1, y2, y3, y4, y5, y6, y7⟩ := mn_facts (sh := sh8) (I := I8) (R := R9) (a := a23) (N := m) (M := 6) m
  have T10 := T9.ex e10 (fun z => z) (fun z => z)
  have E10 : EXH (fun _ => False) sh I R (mnS sh8 a23 m 6 m) (mnI I8 a23 m) (mnR R9 a23 m) := E9.tr e10 (fun _ _ z => z.elim)
  have n23 : ∀ i, sh (a23 + i) = none := fun i => E9.nw (h23 i)
  have k10 := e10.k k8
  have c10 := e10.k c8
  have f2 := e10.2 a2 (nnk k8) (fun z => z)
  have f17 := e10.2 a17 (nnk c8) (fun z => z)
  have g20 := e10.k x2
  have f20 := e10.2 a20 (nnk x2) (fun z => z)
  have p20 : ∀ i, i < m → mnS sh8 a23 m 6 m (a20 + 1 + i) = some (20, 6) ∧ mnI I8 a23 m (a20 + 1 + i) = fun _ => 0 := fun i hi => ⟨e10.k (x3 i hi), by rw [(e10.2 _ (nnk (x3 i hi)) (fun z => z)).1]; exact x5 i hi⟩
  have ap : ∀ i j, i < m → ¬ a20 + 1 + i = a23 + j := fun i j hi z => by have := h23 j; rw [← z, x3 i hi] at this; cases this
  have ap17 : ∀ j, ¬ a17 = a23 + j := fun j z => by have := h23 j; rw [← z, c8] at this; cases this
  have aq17 : ∀ j, ¬ a17 = a20 + j := fun j z => by have := h20 j; rw [← z, k17] at this; cases this
  generalize mnS sh8 a23 m 6 m = sh10 at *
  generalize mnI I8 a23 m = I10 at *
  generalize mnR R9 a23 m = R10 at *
  refine wB_of (oQ_at k10) ?_
  have n3a : ¬ a23 = a2 := ne_k y2 k10 (by decide)
  have e11 := EXH.wR sh10 I10 R10 a2 6 (some a23)
  have T11 := T10.ex e11 nL nK
  have E11 : EXH (fun _ => False) sh I R sh10 I10 (u2 R10 a2 6 (some a23)) := E10.tr e11 (fun q hq z => absurd (by rw [z]; exact ha2) hq)
  have r11 : u2 R10 a2 6 (some a23) a2 3 = some L ∧ u2 R10 a2 6 (some a23) a2 4 = some a17 ∧ u2 R10 a2 6 (some a23) a2 5 = some a20 ∧ u2 R10 a2 6 (some a23) a2 6 = some a23 := ⟨by rw [u2_k (by decide), f2.2]; exact r9.1, by rw [u2_k (by decide), f2.2]; exact r9.2.1, by rw [u2_k (by decide), f2.2]; exact r9.2.2, u2_self⟩
  have x11 : ∀ j, j < m → u2 R10 a2 6 (some a23) a20 j = some (a20 + 1 + j) ∧ u2 R10 a2 6 (some a23) a23 j = some (a23 + 1 + j) := fun j hj => ⟨by rw [u2_off n2a, f20.2]; exact x9 j hj, by rw [u2_off n3a]; exact y7 j hj⟩
  generalize u2 R10 a2 6 (some a23) = R11 at *
  have w0 : I10 a2 0 = iz r ∧ I10 a2 1 = iz t ∧ I10 a2 2 = iz f := by rw [f2.1, d2.1, v6]; exact ⟨v0, v1, v2⟩
  have w17 : I10 a17 = fun _ => 0 := by rw [f17.1, d17.1]; exact i17
  have hA6 : ∀ c, c < m → drA a2 L (K nS) a17 a20 a23 (6 + c) = a20 + 1 + c := fun c hc => by
    unfold drA
    rw [if_neg (by omega), if_neg (by omega), if_neg (by omega), if_neg (by omega), if_neg (by omega), if_neg (by omega), if_pos (by omega), show 6 + c - 6 = c by omega]
  have hA9 : ∀ c, drA a2 L (K nS) a17 a20 a23 (9 + c) = a23 + 1 + c := fun c => by
    unfold drA
    rw [if_neg (by omega), if_neg (by omega), if_neg (by omega), if_neg (by omega), if_neg (by omega), if_neg (by omega), if_neg (by omega), show 9 + c - 9 = c by omega]
  have V0 : VB (row0 r t f m) := row0_V b1 b2 b3 ⟨by omega, by omega⟩
  have e3 : row0 r t f m 3 = m := rfl
  have e4' : row0 r t f m 4 = 0 := rfl
  have z0 : (0 : Int32) = iz 0 := il0
  refine dr_90 (sh0 := sh) (I0 := I) (R0 := R) (M := m) hfu hsc hN (fun ρ A cap S sh' I' R' hA D => by rw [← hA]; exact hP ρ A cap S sh' I' R' D) m 0 fu 1 _ _ (row0 r t f m) (drA a2 L (K nS) a17 a20 a23) 0 [] sh10 I10 R11 (by omega) (by omega) (by omega) (by omega) (by omega) (by show 0 + 4 * m ≤ 12; omega) rfl ⟨⟨⟨⟨k10, r11.1, r11.2.1, r11.2.2.1, r11.2.2.2⟩, fun y hy => absurd hy (by simp), ?_, fun c hc => ?_⟩, T11, ⟨w0, fun c hc => ?_, rfl, fun k y hk => by cases hk⟩⟩, O.ex0 E11, V0, ?_, E11, ?_⟩ rfl (fun k k0 k1 => by rw [e4'] at k1; omega) (fun d b d0 d1 hb => row0_in (by rw [e3] at d1; omega) hb)
  · rw [e3]
    exact ⟨c10, g20, y2⟩
  · rw [e3] at hc
    have hc' : c < m := by omega
    rw [hA6 c hc', hA9 c]
    exact ⟨(x11 c hc').1, (x11 c hc').2, (p20 c hc').1, y3 c hc'⟩
  · rw [e3] at hc
    have hc' : c < m := by omega
    rw [hA6 c hc', hA9 c]
    show I10 a17 c = _ ∧ _
    rw [w17, (p20 c hc').2, y5 c hc']
    have g1 : ltS (row0 r t f m) c = 0 := row0_o (by omega) (by omega)
    refine ⟨by rw [g1]; exact il0, fun a ha => ?_⟩
    have g2 : axS (row0 r t f m) c a = 0 := row0_o (by omega) (by omega)
    have g3 : ayS (row0 r t f m) c a = 0 := row0_o (by omega) (by omega)
    unfold lxS lyS
    rw [row0_in (by omega) ha, if_pos rfl, if_pos rfl, g2, g3]
    exact ⟨il0, il0⟩
  · rw [e3]
    refine ⟨List.nodup_nil, fun b => if b = a17 then 0 else if a20 < b ∧ b ≤ a20 + m then b - a20 else 9 + (b - a23), ?_, fun c hc => ?_, fun q hq => absurd hq (by simp)⟩
    · show (if a17 = a17 then 0 else _) = 0
      rw [if_pos rfl]
    · have hc' : c < m := by omega
      rw [hA6 c hc', hA9 c]
      have q1 := aq17 (1 + c)
      have q2 := ap17 (1 + c)
      refine ⟨?_, ?_⟩
      · dsimp only
        rw [if_neg (by omega), if_pos (by omega)]
        omega
      · dsimp only
        rw [if_neg (by omega), if_neg (fun z => ap (a23 + 1 + c - a20 - 1) (1 + c) (by omega) (by omega))]
        omega
  · rw [e3]
    intro b hb
    rcases hb with (hb | hb | hb | hb | hb | hb) | ⟨c, hc, hb⟩ | hb
    · exact Or.inl (by rw [hb]; exact ha2)
    · exact Or.inl (by rw [hb]; exact L0)
    · exact Or.inr hb
    · exact Or.inl (by rw [hb]; exact n17)
    · exact Or.inl (by rw [hb]; exact n20 0)
    · exact Or.inl (by rw [hb]; exact n23 0)
    · have hc' : c < m := by omega
      rw [hA6 c hc', hA9 c] at hb
      rcases hb with hb | hb
      · exact Or.inl (by rw [hb, Nat.add_assoc]; exact n20 (1 + c))
      · exact Or.inl (by rw [hb, Nat.add_assoc]; exact n23 (1 + c))
    · exact absurd hb (by simp)
end DR
