/-! THE LAW, STAGE 2: the law's board tells its text -/
theorem ITR.kp {X : Nat → Prop} {sh sh' : HS} {I I' : HI} {R R' : HR} {it L c : Nat} (t : ITR sh I R it L c) (hL : ¬ sh L = none) (e : EXH X sh I R sh' I' R') (h1 : ¬ X it) (h2 : ¬ X L) : ITR sh' I' R' it L c := by
  obtain ⟨t1, t2, t3, t4⟩ := t
  have g := e.2 it (nnk t1) h1
  exact ⟨e.k t1, by rw [g.2]; exact t2, by rw [g.1]; exact t3, by rw [g.1, (e.2 L hL h2).1]; exact t4⟩
/-- a budget: k for each of d rounds -/
def bud (k d : Nat) : Nat := k * d
theorem bud_s (k d : Nat) : bud k (d + 1) = bud k d + k := Nat.mul_succ k d
theorem bud_z (k : Nat) : bud k 0 = 0 := Nat.mul_zero k
theorem bud_le {k d m : Nat} (h : d ≤ m) : bud k d ≤ bud k m := Nat.mul_le_mul_left k h
/-- the length of a text, told so that it is not looked into -/
def LN (T : List Int) (m : Nat) : Prop := T.length = m
theorem LN.app {T U : List Int} {m k : Nat} (h : LN T m) (g : LN U k) : LN (T ++ U) (m + k) := by
  unfold LN at h g ⊢
  rw [List.length_append, h, g]
theorem LN.one (x : Int) : LN [x] 1 := rfl
theorem LN.ex (T : List Int) : ∃ m, LN T m := ⟨_, rfl⟩
theorem LN.un {T : List Int} {m k : Nat} (h : LN T m) (g : LN T k) : m = k := Eq.trans (Eq.symm h) g
theorem ln_cod : LN (cod 0) 0 ∧ LN (cod 1) 3 ∧ LN (cod 2) 2 ∧ LN (cod 6) 6 ∧ LN (cod 9) 7 ∧ LN (cod 15) 4 ∧ LN (cod 17) 6 ∧ LN (cod 19) 5 := by
  unfold LN
  decide +kernel
theorem ln_dec {x : Int} (hx : 0 ≤ x ∧ x ≤ 9999) : ∃ k, LN (decS x) k ∧ 1 ≤ k ∧ k ≤ 4 := ⟨_, rfl, decS_l hx⟩
section LNS
variable {ρ : RHO}
theorem ln_A (V : VB ρ) {c a : Nat} (hc : (c : Int) < ρ 3) (ha : a < 6) (z : inS ρ c a = true) : ∃ ka kx ky, LN (decS (a : Int)) ka ∧ LN (decS (axS ρ c a)) kx ∧ LN (decS (ayS ρ c a)) ky ∧ ∀ m m6, LN (acT ρ c a) m → LN (acT ρ c 6) m6 → m + (6 + ka + 1 + kx + 1 + ky + 1) ≤ m6 := by
  refine ⟨_, _, _, rfl, rfl, rfl, fun m m6 h1 h2 => ?_⟩
  have mono := ac_mono (ρ := ρ) (c := c) (6 - (a + 1)) (a + 1)
  rw [show a + 1 + (6 - (a + 1)) = 6 by omega] at mono
  have ea : acT ρ c (a + 1) = acT ρ c a ++ txA ρ c a := rfl
  have et : txA ρ c a = cod 6 ++ (decS a ++ ([32] ++ (decS (axS ρ c a) ++ ([32] ++ (decS (ayS ρ c a) ++ [59]))))) := by
    unfold txA
    rw [if_pos z, cod_7.1]
    simp only [List.append_assoc, List.cons_append, List.nil_append]
  have h6 : (cod 6).length = 6 := ln_cod.2.2.2.1
  rw [ea, List.length_append, et] at mono
  simp only [List.length_append, List.length_cons, List.length_nil, h6] at mono
  unfold LN at h1 h2
  rw [h1, h2] at mono
  omega
theorem ln_S (V : VB ρ) {c s n : Nat} (hs : s < n) (hn : (n : Int) = ρ 4) (z : scS ρ s = c) : ∃ kx ky ku kp kl, LN (decS (cxS ρ s)) kx ∧ LN (decS (cyS ρ s)) ky ∧ LN (decS (suS ρ s)) ku ∧ LN (pT (paS ρ s)) kp ∧ LN (decS (lnS ρ s)) kl ∧ (1 ≤ kx ∧ 1 ≤ ky ∧ 1 ≤ ku ∧ 1 ≤ kl) ∧ ∀ m m6, LN (shT ρ c s) m → LN (shT ρ c n) m6 → m + (5 + kx + 1 + ky + 1 + ku + 1 + kp + 1 + kl + 3) ≤ m6 := by
  obtain ⟨v1, v2, v3, v4, v5, v6, v7, v8⟩ := V.shot (show (0 : Int) ≤ s by omega) (show (s : Int) < ρ 4 by omega)
  refine ⟨_, _, _, _, _, rfl, rfl, rfl, rfl, rfl, ⟨(decS_l ⟨v2.1, by omega⟩).1, (decS_l ⟨v3.1, by omega⟩).1, (decS_l ⟨v4.1, by omega⟩).1, (decS_l ⟨by omega, by omega⟩).1⟩, fun m m6 h1 h2 => ?_⟩
  have mono := sh_mono (ρ := ρ) (c := c) (n - (s + 1)) (s + 1)
  rw [show s + 1 + (n - (s + 1)) = n by omega] at mono
  have es : shT ρ c (s + 1) = shT ρ c s ++ (if scS ρ s = c then txS ρ s else []) := rfl
  rw [es, if_pos z, List.length_append] at mono
  unfold txS at mono
  simp only [List.length_append, List.length_cons, List.length_nil, cod_n.2.2.2.2] at mono
  unfold LN at h1 h2
  rw [h1, h2] at mono
  omega
theorem ln_T (V : VB ρ) {c n : Nat} (hc : (c : Int) < ρ 3) (hn : (n : Int) = ρ 4) : ∃ ms kl m6 mh, LN (scT ρ c) ms ∧ LN (decS (ltS ρ c)) kl ∧ LN (acT ρ c 6) m6 ∧ LN (shT ρ c n) mh ∧ 1 ≤ kl ∧ ms + (6 + kl + 1) + m6 + mh ≤ 633 := by
  have sc := (V.scene (show (0 : Int) ≤ c by omega) hc).1
  refine ⟨_, _, _, _, rfl, rfl, rfl, rfl, (decS_l ⟨sc.1, by omega⟩).1, ?_⟩
  have la := len_all V (c := c + 1) (by omega)
  have hn2 : (ρ 4).toNat = n := by omega
  have e : scT ρ (c + 1) = scT ρ c ++ (txC ρ c ++ (acT ρ c 6 ++ shT ρ c (ρ 4).toNat)) := rfl
  rw [e, hn2] at la
  unfold txC at la
  simp only [List.length_append, List.length_cons, List.length_nil, cod_n.2.2.2.1] at la
  omega
end LNS
section SA
variable {K J : Nat → Nat} {fu : Nat} {sh0 sh sh' : HS} {I0 I I' : HI} {R0 R R' : HR} {b : Nat} {A : Nat → Nat} {cap : Nat} {S : List Nat} {ρ : RHO} {T : List Int} {F : VF}
theorem SBX.e (X : SBX sh0 I0 R0 b T sh I R) : EXH (fun _ => False) sh0 I0 R0 sh I R := by
  obtain ⟨ea, cap, -, h, -⟩ := X
  exact h
theorem SBX.rcv (X : SBX sh0 I0 R0 b T sh I R) : rcvB sh b 13 = true := by
  obtain ⟨ea, cap, h, -⟩ := X
  exact rcv_k h.1
theorem l_sbi {P : HS → HI → HR → Prop} {a : Nat} (ha : sh a = none) (hP : ∀ sh' I' R', SBX sh I R a [] sh' I' R' → P sh' I' R') : wJ4_init_da8c8 K J fu (u1 sh a (some (13, 4))) (u1 I a (fun _ => 0)) (u1 R a (fun _ => none)) a (qwV P) := by
  have e0 := EXH.new I R ha (13, 4) (fun _ => 0) (fun _ => none)
  have ka : u1 sh a (some (13, 4)) a = some (13, 4) := u1_on
  have ia : u1 I a (fun _ => 0) a = fun _ => 0 := u1_on
  generalize u1 sh a (some (13, 4)) = sh1 at *
  generalize u1 I a (fun _ => 0) = I1 at *
  generalize u1 R a (fun _ => none) = R1 at *
  unfold wJ4_init_da8c8
  refine ⟨⟨by decide, by decide⟩, ?_⟩
  unfold wJ5_init_d00df
  rw [if_neg (by decide)]
  have z16 : (16 : Int32).toNatClampNeg = 16 := by decide
  rw [z16]
  refine ⟨⟨by decide, by decide⟩, ⟨by decide, by decide⟩, ⟨by decide, by decide⟩, fun w hw => ?_⟩
  have e1 := EXH.newI I1 R1 hw (21, 16) (fun _ => 0)
  have kw : u1 sh1 w (some (21, 16)) w = some (21, 16) := u1_on
  have iw : u1 I1 w (fun _ => 0) w = fun _ => 0 := u1_on
  have ka2 := e1.k ka
  have ga := e1.2 a (nnk ka) (fun z => z)
  have w0 := e0.nw hw
  have E1 : EXH (fun _ => False) sh I R (u1 sh1 w (some (21, 16))) (u1 I1 w (fun _ => 0)) R1 := e0.tr e1 (fun _ _ z => z.elim)
  have wa : ¬ w = a := fun z => by rw [z, ka] at hw; cases hw
  generalize u1 sh1 w (some (21, 16)) = sh2 at *
  generalize u1 I1 w (fun _ => 0) = I2 at *
  refine wB_of (oQ_at ka2) ?_
  have e2 : oPB sh2 I2 a 13 1 0 = some (u2 I2 a 1 (iz 0)) := by
    unfold oPB
    rw [if_pos ⟨isT_of ka2, by decide⟩, il0]
  refine wB_of e2 ?_
  have E3 : EXH (fun _ => False) sh I R sh2 (u2 I2 a 1 (iz 0)) (u2 R1 a 0 (some w)) := (E1.tr (EXH.wI sh2 I2 R1 a 1 (iz 0)) (fun y hy z => absurd (by rw [z]; exact ha) hy) : EXH (fun _ => False) sh I R sh2 (u2 I2 a 1 (iz 0)) R1).tr (EXH.wR sh2 _ R1 a 0 (some w)) (fun y hy z => absurd (by rw [z]; exact ha) hy)
  refine ⟨⟨by decide, by decide⟩, rfl, ⟨by decide, by decide⟩, rfl, hP _ _ _ ⟨w, 16, ⟨ka2, u2_self, kw, u2_self, ?_, ⟨Nat.zero_le _, by decide⟩, fun j hj => ?_, fun k x hk => by cases hk⟩, E3, ha, w0⟩⟩
  · rw [u2_k (by decide), ga.1, ia]
    exact il0
  · rw [u2_off wa, iw]
    exact fits_0
theorem sx_S {P : Nat → HS → HI → HR → Prop} {m k : Nat} (X : SBX sh0 I0 R0 b T sh I R) (O : OLW sh0 I0 R0 K) {i : Nat} (hi : i < 22) (hT : LN T m) (hU : LN (cod i) k) (hl : m + k ≤ 640) (hP : ∀ sh' I' R', SBX sh0 I0 R0 b (T ++ cod i) sh' I' R' → EXH (XK sh) sh I R sh' I' R' → P b sh' I' R') : wJ4_append_15ec4 K J fu sh I R b (K i) (qwR P) :=
  l_appS X ((O.2 i hi).ex0 X.e) (cod_chr hi) (by unfold LN at hT hU; rw [hT, hU]; exact hl) hP
theorem sx_I {P : Nat → HS → HI → HR → Prop} {m : Nat} (X : SBX sh0 I0 R0 b T sh I R) (O : OLW sh0 I0 R0 K) (hfu : 5000 ≤ fu) {x : Int} (hx : 0 ≤ x ∧ x ≤ 9999) (hT : LN T m) (hl : m + 4 ≤ 640) (hP : ∀ sh' I' R', SBX sh0 I0 R0 b (T ++ decS x) sh' I' R' → EXH (XK sh) sh I R sh' I' R' → P b sh' I' R') : wJ4_append_bf812 K J fu sh I R b (iz x) (qwR P) :=
  l_appI X (O.1.ex X.e (fun _ _ _ z => z)) hfu hx (by unfold LN at hT; rw [hT]; exact hl) hP
theorem sx_C {P : Nat → HS → HI → HR → Prop} {m : Nat} (X : SBX sh0 I0 R0 b T sh I R) {c : Int} {cc : Int32} (hcc : cc = iz c) (hc : 0 ≤ c ∧ c ≤ 127) (hT : LN T m) (hl : m + 1 ≤ 640) (hP : ∀ sh' I' R', SBX sh0 I0 R0 b (T ++ [c]) sh' I' R' → EXH (XK sh) sh I R sh' I' R' → P b sh' I' R') : wJ4_append_cf468 K J fu sh I R b cc (qwR P) :=
  l_appC X hcc hc (by unfold LN at hT; rw [hT]; exact hl) hP
theorem XK.nx {sh : HS} {q t n : Nat} (h : sh q = some (t, n)) (h1 : ¬ t = 13) (h2 : ¬ t = 21) : ¬ XK sh q := fun z => by
  rcases z with ⟨m, z⟩ | ⟨m, z⟩ <;> rw [h] at z <;> cases z
  · exact h1 rfl
  · exact h2 rfl
/-- what the law's board holds, at any heap since -/
theorem LBD.rd (B : LBD sh I R K A cap S ρ) {c : Nat} (hc : (c : Int) < ρ 3) (m : ρ 3 ≤ 3) : (oR sh R (A 0) 9 4 = some (A 3) ∧ oR sh R (A 0) 9 5 = some (A 4) ∧ oR sh R (A 0) 9 6 = some (A 5)) ∧ oA2 sh I (A 3) (iz (c : Int)) = some (iz (ltS ρ c)) ∧ oAr sh R (A 4) 45 (iz (c : Int)) = some (A (6 + c)) ∧ oAr sh R (A 5) 45 (iz (c : Int)) = some (A (9 + c)) ∧ ∀ a : Nat, a < 6 → oA2 sh I (A (6 + c)) (iz (a : Int)) = some (iz (lxS ρ c a)) ∧ oA2 sh I (A (9 + c)) (iz (a : Int)) = some (iz (lyS ρ c a)) := by
  obtain ⟨r1, r2, r3, r4⟩ := B.1.2.2.2 c hc
  have v := B.2.2.2.1 c hc
  refine ⟨⟨oR_at B.1.1.1 B.1.1.2.2.1, oR_at B.1.1.1 B.1.1.2.2.2.1, oR_at B.1.1.1 B.1.1.2.2.2.2⟩, ?_, (oAr_n B.1.2.2.1.2.1 c (by omega) rfl).trans r1, (oAr_n B.1.2.2.1.2.2 c (by omega) rfl).trans r2, fun a ha => ⟨?_, ?_⟩⟩
  · rw [oA2_n B.1.2.2.1.1 c (by omega) rfl, v.1]
  · rw [oA2_n r3 a (by omega) rfl, (v.2 a ha).1]
  · rw [oA2_n r4 a (by omega) rfl, (v.2 a ha).2]
set_option maxRecDepth 20000 in
theorem sa_85 {k156 : HS → HI → HR → Nat → Nat → Nat → Nat → Int32 → Prop} (B0 : LBD sh0 I0 R0 K A cap S ρ) (V : VB ρ) (O : OLW sh0 I0 R0 K) (hfu : 5000 ≤ fu) {c : Nat} (hc : (c : Int) < ρ 3) {mT m6 : Nat} (hT : LN T mT) (hm6 : LN (acT ρ c 6) m6) (hlen : mT + m6 ≤ 633) {C1 C2 : Nat} (hC : C1 ≤ 1500 ∧ C2 ≤ 1200000)
    (hP : ∀ sh I R c1 c2, c1 ≤ C1 ∧ c2 ≤ C2 → SBX sh0 I0 R0 b (T ++ acT ρ c 6) sh I R → k156 sh I R c1 c2 (A 0) b (iz (c : Int))) :
    ∀ (d a n c1 c2 : Nat) (sh : HS) (I : HI) (R : HR), a + d = 6 → d < n → c1 + 7 * d ≤ C1 → c2 + bud 9100 d ≤ C2 → SBX sh0 I0 R0 b (T ++ acT ρ c a) sh I R → wX11_said_l85 K J fu F k156 n sh I R c1 c2 (A 0) b (iz (c : Int)) (iz (a : Int)) := by
  have m := V.m
  obtain ⟨-, -, -, c6, -⟩ := ln_cod
  have c67 := cod_7.1
  intro d
  induction d with
  | zero =>
    intro a n c1 c2 sh I R had hn h1 h2 X
    obtain ⟨n', rfl⟩ : ∃ n', n = n' + 1 := ⟨n - 1, by omega⟩
    rw [bud_z] at h2
    have ha : a = 6 := by omega
    subst ha
    show wX11_said_b85 K J fu F (wX11_said_l85 K J fu F k156 n') k156 sh I R c1 c2 (A 0) b _ _
    unfold wX11_said_b85
    rw [if_pos (by rw [ile il6 rfl ⟨by decide, by decide⟩ (IRn (by omega))]; omega)]
    exact hP sh I R c1 c2 ⟨by omega, by omega⟩ X
  | succ d ih =>
    intro a n c1 c2 sh I R had hn h1 h2 X
    obtain ⟨n', rfl⟩ : ∃ n', n = n' + 1 := ⟨n - 1, by omega⟩
    rw [bud_s, ← Nat.add_assoc] at h2
    have B := B0.ex0 X.e
    obtain ⟨⟨p0, p1, p2⟩, -, p3, p4, p5⟩ := B.rd hc m.2
    have hea : ((a : Int) + 1) = ((a + 1 : Nat) : Int) := rfl
    have ea : acT ρ c (a + 1) = acT ρ c a ++ txA ρ c a := rfl
    show wX11_said_b85 K J fu F (wX11_said_l85 K J fu F k156 n') k156 sh I R c1 c2 (A 0) b _ _
    unfold wX11_said_b85
    rw [if_neg (by rw [ile il6 rfl ⟨by decide, by decide⟩ (IRn (by omega))]; omega)]
    refine wB_of p1 ?_
    refine wB_of p3 ?_
    refine wB_of (p5 a (by omega)).1 ?_
    by_cases z : inS ρ c a = true
    · have hx : lxS ρ c a = axS ρ c a := by unfold lxS; rw [if_pos z]
      have hy : lyS ρ c a = ayS ρ c a := by unfold lyS; rw [if_pos z]
      have sc := (V.scene (show (0 : Int) ≤ c by omega) hc).2.2 a (by omega) (by omega) z
      have et : txA ρ c a = cod 6 ++ (decS a ++ ([32] ++ (decS (axS ρ c a) ++ ([32] ++ (decS (ayS ρ c a) ++ [59]))))) := by
        unfold txA
        rw [if_pos z, c67]
        simp only [List.append_assoc, List.cons_append, List.nil_append]
      obtain ⟨ka, kx, ky, na, nx, ny, mono⟩ := ln_A V hc (show a < 6 by omega) z
      obtain ⟨ma, hma⟩ := LN.ex (acT ρ c a)
      have mono := mono ma m6 hma hm6
      have l0 := hT.app hma
      rw [hx, if_neg (by rw [ilt rfl il0 ⟨by omega, by omega⟩ ⟨by decide, by decide⟩]; omega)]
      refine ⟨X.rcv, ⟨by omega, by omega⟩, sx_S X O (i := 6) (by decide) l0 c6 (by omega) (fun sh1 I1 R1 X1 _ => ?_)⟩
      have l1 := l0.app c6
      refine ⟨X1.rcv, ⟨by omega, by omega⟩, sx_I X1 O hfu ⟨by omega, by omega⟩ l1 (by omega) (fun sh2 I2 R2 X2 _ => ?_)⟩
      have l2 := l1.app na
      refine ⟨X2.rcv, ⟨by omega, by omega⟩, sx_C X2 il32 ⟨by decide, by decide⟩ l2 (by omega) (fun sh3 I3 R3 X3 _ => ?_)⟩
      have l3 := l2.app (LN.one 32)
      obtain ⟨⟨-, q1, -⟩, -, q3, -, q5⟩ := (B0.ex0 X3.e).rd hc m.2
      refine wB_of q1 ?_
      refine wB_of q3 ?_
      refine wB_of (q5 a (by omega)).1 ?_
      rw [hx]
      refine ⟨X3.rcv, ⟨by omega, by omega⟩, sx_I X3 O hfu ⟨by omega, by omega⟩ l3 (by omega) (fun sh4 I4 R4 X4 _ => ?_)⟩
      have l4 := l3.app nx
      refine ⟨X4.rcv, ⟨by omega, by omega⟩, sx_C X4 il32 ⟨by decide, by decide⟩ l4 (by omega) (fun sh5 I5 R5 X5 _ => ?_)⟩
      have l5 := l4.app (LN.one 32)
      obtain ⟨⟨-, -, q2⟩, -, -, q4, q5⟩ := (B0.ex0 X5.e).rd hc m.2
      refine wB_of q2 ?_
      refine wB_of q4 ?_
      refine wB_of (q5 a (by omega)).2 ?_
      rw [hy]
      refine ⟨X5.rcv, ⟨by omega, by omega⟩, sx_I X5 O hfu ⟨by omega, by omega⟩ l5 (by omega) (fun sh6 I6 R6 X6 _ => ?_)⟩
      have l6 := l5.app ny
      refine ⟨X6.rcv, ⟨by omega, by omega⟩, sx_C X6 (show (59 : Int32) = iz 59 from iz_lit 59) ⟨by decide, by decide⟩ l6 (by omega) (fun sh7 I7 R7 X7 _ => ?_)⟩
      unfold wX11_said_b150
      rw [il1, iz_add, hea]
      refine ih (a + 1) n' _ _ sh7 I7 R7 (by omega) (by omega) (by omega) (by omega) ?_
      have ef : T ++ acT ρ c (a + 1) = (((((((T ++ acT ρ c a) ++ cod 6) ++ decS (a : Int)) ++ [(32 : Int)]) ++ decS (axS ρ c a)) ++ [(32 : Int)]) ++ decS (ayS ρ c a)) ++ [(59 : Int)] := by
        rw [ea, et]
        simp only [List.append_assoc]
      rw [ef]
      exact X7
    · have hx : lxS ρ c a = -1 := by unfold lxS; rw [if_neg z]
      rw [hx, if_pos (by rw [ilt rfl il0 ⟨by decide, by decide⟩ ⟨by decide, by decide⟩]; decide)]
      unfold wX11_said_b150
      rw [il1, iz_add, hea]
      refine ih (a + 1) n' _ _ sh I R (by omega) (by omega) (by omega) (by omega) ?_
      have et : txA ρ c a = [] := by unfold txA; rw [if_neg z]
      rw [ea, et, List.append_nil]
      exact X
set_option maxRecDepth 20000 in
/-- the partner's part, the length, the end of a shot -/
theorem sa_271 {k164 : HS → HI → HR → Nat → Nat → Nat → Nat → Int32 → Nat → Prop} {k295 : HS → HI → HR → Nat → Nat → Nat → Nat → Int32 → Prop} (B0 : LBD sh0 I0 R0 K A cap S ρ) (O : OLW sh0 I0 R0 K) (hfu : 5000 ≤ fu) {c q it s c1 c2 t9 mT mU kl : Nat} {U : List Int} (hq : S[s]? = some q) (hln : 1 ≤ lnS ρ s ∧ lnS ρ s ≤ 99) (X : SBX sh0 I0 R0 b T sh I R) (Q : STRG sh I R t9 U) (hU : CHR U) (hT : LN T mT) (hmU : LN U mU) (hkl : LN (decS (lnS ρ s)) kl) (hk1 : 1 ≤ kl) (hl : mT + mU + (1 + (kl + 3)) ≤ 633) (hC : c1 + 4 ≤ 1500 ∧ c2 + 5200 ≤ 1200000) (t : ITR sh I R it (A 1) (s + 1))
    (hP : ∀ sh I R, SBX sh0 I0 R0 b (T ++ (U ++ 32 :: (decS (lnS ρ s) ++ 32 :: 59 :: [10]))) sh I R → ITR sh I R it (A 1) (s + 1) → k164 sh I R (c1 + 1 + 1 + 1 + 1) (c2 + 1300 + 1300 + 1300 + 1300) (A 0) b (iz (c : Int)) it) :
    wX11_said_b271 K J fu F k164 k295 sh I R c1 c2 (A 0) b (iz (c : Int)) it q t9 b := by
  obtain ⟨-, c1l, -⟩ := ln_cod
  have c17 := cod_7.2.2.2.2.1
  have kL := B0.2.1.1
  have nxt : ∀ {sha : HS} {Ia : HI} {Ra : HR} {shb : HS} {Ib : HI} {Rb : HR} {Ta : List Int}, SBX sh0 I0 R0 b Ta sha Ia Ra → EXH (XK sha) sha Ia Ra shb Ib Rb → ITR sha Ia Ra it (A 1) (s + 1) → ITR shb Ib Rb it (A 1) (s + 1) := fun Xa e t => t.kp (nnk (Xa.e.k kL)) e (XK.nx t.1 (by decide) (by decide)) (XK.nx (Xa.e.k kL) (by decide) (by decide))
  unfold wX11_said_b271
  refine ⟨X.rcv, ⟨by omega, by omega⟩, l_appS X Q hU (by unfold LN at hT hmU; rw [hT, hmU]; omega) (fun sh1 I1 R1 X1 e1 => ?_)⟩
  have t1 := nxt X e1 t
  have l1 := hT.app hmU
  refine ⟨X1.rcv, ⟨by omega, by omega⟩, sx_C X1 il32 ⟨by decide, by decide⟩ l1 (by omega) (fun sh2 I2 R2 X2 e2 => ?_)⟩
  have t2 := nxt X1 e2 t1
  have l2 := l1.app (LN.one 32)
  have B2 := B0.ex0 X2.e
  have hq2 := (B2.kk hq).2.2
  refine wB_of (oA2_n hq2 5 (by decide) il5) ?_
  rw [(B2.2.2.2.2.2 s q hq).2.2.2.2.2]
  refine ⟨X2.rcv, ⟨by omega, by omega⟩, sx_I X2 O hfu ⟨by omega, by omega⟩ l2 (by omega) (fun sh3 I3 R3 X3 e3 => ?_)⟩
  have t3 := nxt X2 e3 t2
  have l3 := l2.app hkl
  refine ⟨X3.rcv, ⟨by omega, by omega⟩, sx_S X3 O (i := 1) (by decide) l3 c1l (by omega) (fun sh4 I4 R4 X4 e4 => ?_)⟩
  have t4 := nxt X3 e4 t3
  have ef : T ++ (U ++ 32 :: (decS (lnS ρ s) ++ 32 :: 59 :: [10])) = (((T ++ U) ++ [(32 : Int)]) ++ decS (lnS ρ s)) ++ cod 1 := by
    rw [c17]
    simp only [List.append_assoc, List.cons_append, List.nil_append]
  have h := hP sh4 I4 R4 (by rw [ef]; exact X4) t4
  exact h
set_option maxRecDepth 20000 in
theorem sa_164 {k295 : HS → HI → HR → Nat → Nat → Nat → Nat → Int32 → Prop} (B0 : LBD sh0 I0 R0 K A cap S ρ) (V : VB ρ) (O : OLW sh0 I0 R0 K) (hfu : 5000 ≤ fu) {c it : Nat} (hc : (c : Int) < ρ 3) (hit : sh0 it = none) {mT mh : Nat} (hT : LN T mT) (hmh : LN (shT ρ c S.length) mh) (hlen : mT + mh ≤ 633) {C1 C2 : Nat} (hC : C1 ≤ 1500 ∧ C2 ≤ 1200000)
    (hP : ∀ sh I R c1 c2, c1 ≤ C1 ∧ c2 ≤ C2 → SBX sh0 I0 R0 b (T ++ shT ρ c S.length) sh I R → k295 sh I R c1 c2 (A 0) b (iz (c : Int))) :
    ∀ (d s n c1 c2 : Nat) (sh : HS) (I : HI) (R : HR), s + d = S.length → d < n → c1 + 17 * d ≤ C1 → c2 + bud 22200 d ≤ C2 → SBX sh0 I0 R0 b (T ++ shT ρ c s) sh I R → ITR sh I R it (A 1) s → wX11_said_l164 K J fu F k295 n sh I R c1 c2 (A 0) b (iz (c : Int)) it := by
  have m := V.m
  have n4 := V.n
  obtain ⟨c0l, -, -, -, -, c15, -, c19⟩ := ln_cod
  have c197 := cod_7.2.2.2.1
  have c07 := cod_7.2.2.2.2.2.2.1
  have kL := B0.2.1.1
  have hSl : (S.length : Int) = ρ 4 := B0.2.2.2.2.1
  have nxt : ∀ {sha : HS} {Ia : HI} {Ra : HR} {shb : HS} {Ib : HI} {Rb : HR} {Ta : List Int} {s : Nat}, SBX sh0 I0 R0 b Ta sha Ia Ra → EXH (XK sha) sha Ia Ra shb Ib Rb → ITR sha Ia Ra it (A 1) s → ITR shb Ib Rb it (A 1) s := fun Xa e t => t.kp (nnk (Xa.e.k kL)) e (XK.nx t.1 (by decide) (by decide)) (XK.nx (Xa.e.k kL) (by decide) (by decide))
  intro d
  induction d with
  | zero =>
    intro s n c1 c2 sh I R hsd hn h1 h2 X t
    obtain ⟨n', rfl⟩ : ∃ n', n = n' + 1 := ⟨n - 1, by omega⟩
    rw [bud_z] at h2
    have B := B0.ex0 X.e
    show wX11_said_b164 K J fu F (wX11_said_l164 K J fu F k295 n') k295 sh I R c1 c2 (A 0) b _ it
    unfold wX11_said_b164
    refine ⟨isT_of t.1, ⟨by omega, by omega⟩, l_hasNext B.2.1 t (by omega) (fun z => ?_) (fun z => by omega)⟩
    rw [if_pos rfl]
    rw [show s = S.length by omega] at X
    exact hP sh I R c1 c2 ⟨by omega, by omega⟩ X
  | succ d ih =>
    intro s n c1 c2 sh I R hsd hn h1 h2 X t
    obtain ⟨n', rfl⟩ : ∃ n', n = n' + 1 := ⟨n - 1, by omega⟩
    rw [bud_s, ← Nat.add_assoc] at h2
    have B := B0.ex0 X.e
    have hq := List.getElem?_eq_getElem (l := S) (i := s) (by omega)
    generalize S[s] = q at hq
    have es : shT ρ c (s + 1) = shT ρ c s ++ (if scS ρ s = c then txS ρ s else []) := rfl
    show wX11_said_b164 K J fu F (wX11_said_l164 K J fu F k295 n') k295 sh I R c1 c2 (A 0) b _ it
    unfold wX11_said_b164
    refine ⟨isT_of t.1, ⟨by omega, by omega⟩, l_hasNext B.2.1 t (by omega) (fun z => by omega) (fun z => ?_)⟩
    rw [if_neg (by decide)]
    refine ⟨isT_of t.1, ⟨by omega, by omega⟩, l_next B.2.1 t hq (fun I1 e1 t1 => ?_)⟩
    have X1 : SBX sh0 I0 R0 b (T ++ shT ρ c s) sh I1 R := X.oth t.1 hit (by decide) (by decide) e1
    have B1 := B0.ex0 X1.e
    have hq1 := (B1.kk hq).2.2
    refine wB_of (oKt_1 hq1) ?_
    refine wB_of (oA2_n hq1 0 (by decide) il0) ?_
    obtain ⟨g0, g1, g2, g3, g4, g5⟩ := B1.2.2.2.2.2 s q hq
    rw [g0]
    have k1 : (s : Int) < ρ 4 := by omega
    obtain ⟨v1, v2, v3, v4, v5, v6, v7, v8⟩ := V.shot (show (0 : Int) ≤ s by omega) k1
    by_cases z : scS ρ s = c
    · rw [if_pos (by rw [z])]
      rw [if_pos z] at es
      obtain ⟨kx, ky, ku, kp, kl, nx, ny, nu, np, nl, kk1, mono⟩ := ln_S V (show s < S.length by omega) hSl z
      obtain ⟨ma, hma⟩ := LN.ex (shT ρ c s)
      have mono := mono ma mh hma hmh
      have l0 := hT.app hma
      refine ⟨X1.rcv, ⟨by omega, by omega⟩, sx_S X1 O (i := 19) (by decide) l0 c19 (by omega) (fun sh2 I2 R2 X2 e2 => ?_)⟩
      have t2 := nxt X1 e2 t1
      have l1 := l0.app c19
      have B2 := B0.ex0 X2.e
      refine wB_of (oA2_n (B2.kk hq).2.2 1 (by decide) il1) ?_
      rw [(B2.2.2.2.2.2 s q hq).2.1]
      refine ⟨X2.rcv, ⟨by omega, by omega⟩, sx_I X2 O hfu ⟨v2.1, by omega⟩ l1 (by omega) (fun sh3 I3 R3 X3 e3 => ?_)⟩
      have t3 := nxt X2 e3 t2
      have l2 := l1.app nx
      refine ⟨X3.rcv, ⟨by omega, by omega⟩, sx_C X3 il32 ⟨by decide, by decide⟩ l2 (by omega) (fun sh4 I4 R4 X4 e4 => ?_)⟩
      have t4 := nxt X3 e4 t3
      have l3 := l2.app (LN.one 32)
      have B4 := B0.ex0 X4.e
      refine wB_of (oA2_n (B4.kk hq).2.2 2 (by decide) il2) ?_
      rw [(B4.2.2.2.2.2 s q hq).2.2.1]
      refine ⟨X4.rcv, ⟨by omega, by omega⟩, sx_I X4 O hfu ⟨v3.1, by omega⟩ l3 (by omega) (fun sh5 I5 R5 X5 e5 => ?_)⟩
      have t5 := nxt X4 e5 t4
      have l4 := l3.app ny
      refine ⟨X5.rcv, ⟨by omega, by omega⟩, sx_C X5 il32 ⟨by decide, by decide⟩ l4 (by omega) (fun sh6 I6 R6 X6 e6 => ?_)⟩
      have t6 := nxt X5 e6 t5
      have l5 := l4.app (LN.one 32)
      have B6 := B0.ex0 X6.e
      refine wB_of (oA2_n (B6.kk hq).2.2 3 (by decide) il3) ?_
      rw [(B6.2.2.2.2.2 s q hq).2.2.2.1]
      refine ⟨X6.rcv, ⟨by omega, by omega⟩, sx_I X6 O hfu ⟨v4.1, by omega⟩ l5 (by omega) (fun sh7 I7 R7 X7 e7 => ?_)⟩
      have t7 := nxt X6 e7 t6
      have l6 := l5.app nu
      refine ⟨X7.rcv, ⟨by omega, by omega⟩, sx_C X7 il32 ⟨by decide, by decide⟩ l6 (by omega) (fun sh8 I8 R8 X8 e8 => ?_)⟩
      have t8 := nxt X7 e8 t7
      have l7 := l6.app (LN.one 32)
      have B8 := B0.ex0 X8.e
      refine wB_of (oA2_n (B8.kk hq).2.2 4 (by decide) il4) ?_
      rw [(B8.2.2.2.2.2 s q hq).2.2.2.2.1]
      have ef : T ++ shT ρ c (s + 1) = (((((((T ++ shT ρ c s) ++ cod 19) ++ decS (cxS ρ s)) ++ [(32 : Int)]) ++ decS (cyS ρ s)) ++ [(32 : Int)]) ++ decS (suS ρ s) ++ [(32 : Int)]) ++ (pT (paS ρ s) ++ 32 :: (decS (lnS ρ s) ++ 32 :: 59 :: [10])) := by
        rw [es, c197]
        unfold txS
        simp only [List.append_assoc, List.cons_append, List.nil_append]
      rcases v6 with hp | ⟨hp, -, -⟩
      · rw [hp, if_neg (by rw [ile il0 rfl ⟨by decide, by decide⟩ ⟨by decide, by decide⟩]; decide)]
        have ep : pT (paS ρ s) = cod 15 := by unfold pT; rw [if_pos (by omega)]
        rw [ep] at ef np
        refine sa_271 B0 O hfu hq v7 X8 ((O.2 15 (by decide)).ex0 X8.e) (cod_chr (by decide)) l7 np nl kk1.2.2.2 (by omega) ⟨by omega, by omega⟩ t8 (fun sh9 I9 R9 X9 t9 => ?_)
        refine ih (s + 1) n' _ _ sh9 I9 R9 (by omega) (by omega) (by omega) (by omega) ?_ t9
        rw [ef]
        exact X9
      · rw [if_pos (by rw [ile il0 rfl ⟨by decide, by decide⟩ ⟨by omega, by omega⟩]; exact hp.1)]
        have ep : pT (paS ρ s) = decS (paS ρ s) := by unfold pT; rw [if_neg (by omega)]
        rw [ep] at ef np
        refine ⟨⟨by omega, by omega⟩, fun w hw => ⟨⟨by omega, by omega⟩, l_sbi hw (fun sh9 I9 R9 X9 => ?_)⟩⟩
        have X9o := X8.ext X9.e
        have O8 := O.ex0 X8.e
        refine ⟨X9.rcv, ⟨by omega, by omega⟩, sx_S X9 O8 (i := 0) (by decide) (show LN [] 0 from rfl) c0l (by decide) (fun sha Ia Ra Xa ea => ?_)⟩
        rw [c07, List.append_nil] at Xa
        have Ba := B0.ex0 (X8.ext Xa.e).e
        refine wB_of (oA2_n (Ba.kk hq).2.2 4 (by decide) il4) ?_
        rw [(Ba.2.2.2.2.2 s q hq).2.2.2.2.1]
        refine ⟨Xa.rcv, ⟨by omega, by omega⟩, sx_I Xa O8 hfu ⟨hp.1, by omega⟩ (show LN [] 0 from rfl) (by decide) (fun shb Ib Rb Xb eb => ?_)⟩
        rw [List.nil_append] at Xb
        obtain ⟨ea9, cap9, Sb, Eb, -, -⟩ := Xb
        refine ⟨rcv_k Sb.1, ⟨by omega, by omega⟩, l_toStr Sb (fun w2 shc Ic Rc hw2 ec Qc _ _ => ?_)⟩
        have Ec : EXH (fun _ => False) sh8 I8 R8 shc Ic Rc := Eb.tr ec (fun _ _ z => z)
        have Xc := X8.ext Ec
        have tc : ITR shc Ic Rc it (A 1) (s + 1) := t8.kp (nnk (X8.e.k kL)) Ec (fun z => z) (fun z => z)
        refine sa_271 B0 O hfu hq v7 Xc Qc (decS_chr ⟨hp.1, by omega⟩) l7 np nl kk1.2.2.2 (by omega) ⟨by omega, by omega⟩ tc (fun shd Id Rd Xd td => ?_)
        refine ih (s + 1) n' _ _ shd Id Rd (by omega) (by omega) (by omega) (by omega) ?_ td
        rw [ef]
        exact Xd
    · rw [if_neg (by rw [ieq rfl rfl ⟨by omega, by omega⟩ (IRn (by omega))]; exact z)]
      rw [if_neg z, List.append_nil] at es
      refine ih (s + 1) n' _ _ sh I1 R (by omega) (by omega) (by omega) (by omega) ?_ t1
      rw [es]
      exact X1
set_option maxRecDepth 20000 in
theorem sa_53 {P : Nat → HS → HI → HR → Prop} (B0 : LBD sh0 I0 R0 K A cap S ρ) (V : VB ρ) (O : OLW sh0 I0 R0 K) (hfu : 5000 ≤ fu)
    (hP : ∀ r sh' I' R', EXH (fun _ => False) sh0 I0 R0 sh' I' R' → STRG sh' I' R' r (scT ρ (ρ 3).toNat) → (∃ v, R' r 0 = some v ∧ sh' v = some (21, (scT ρ (ρ 3).toNat).length)) → P r sh' I' R') :
    ∀ (d c n c1 c2 : Nat) (sh : HS) (I : HI) (R : HR), (c : Int) + d = ρ 3 → d < n → c1 + bud 250 d + 2 ≤ 1500 → c2 + bud 330000 d + 1304 ≤ 1200000 → SBX sh0 I0 R0 b (scT ρ c) sh I R → wX11_said_l53 K J fu (qwR P) n sh I R c1 c2 (A 0) b (iz (c : Int)) := by
  have m := V.m
  have n4 := V.n
  obtain ⟨-, -, -, -, -, -, c17, -⟩ := ln_cod
  have c177 := cod_7.2.2.1
  have hSl : (S.length : Int) = ρ 4 := B0.2.2.2.2.1
  intro d
  induction d with
  | zero =>
    intro c n c1 c2 sh I R hcd hn h1 h2 X
    obtain ⟨n', rfl⟩ : ∃ n', n = n' + 1 := ⟨n - 1, by omega⟩
    rw [bud_z] at h1 h2
    have B := B0.ex0 X.e
    show wX11_said_b53 K J fu (qwR P) (wX11_said_l53 K J fu (qwR P) n') sh I R c1 c2 (A 0) b _
    unfold wX11_said_b53
    refine wB_of (oR_at B.1.1.1 B.1.1.2.2.1) ?_
    refine wB_of (oLn_n B.1.2.2.1.1 (by decide)) ?_
    rw [if_pos (by rw [ile rfl rfl (IRn (by omega)) (IRn (by omega))]; omega)]
    have hc : c = (ρ 3).toNat := by omega
    subst hc
    obtain ⟨ea, cap9, Sb, Eb, -, -⟩ := X
    refine ⟨rcv_k Sb.1, ⟨by omega, by omega⟩, l_toStr Sb (fun w shc Ic Rc hw ec Qc hv _ => ?_)⟩
    exact ⟨⟨by omega, by omega⟩, _, rfl, hP w shc Ic Rc (Eb.tr ec (fun _ _ z => z)) Qc hv⟩
  | succ d ih =>
    intro c n c1 c2 sh I R hcd hn h1 h2 X
    obtain ⟨n', rfl⟩ : ∃ n', n = n' + 1 := ⟨n - 1, by omega⟩
    rw [bud_s, ← Nat.add_assoc] at h1 h2
    have B := B0.ex0 X.e
    have hc : (c : Int) < ρ 3 := by omega
    obtain ⟨ms, kl, m6, mh, n1, n2, n3, n5, n6, n7⟩ := ln_T V hc hSl
    have esc : scT ρ (c + 1) = scT ρ c ++ (txC ρ c ++ (acT ρ c 6 ++ shT ρ c S.length)) := by
      have : (ρ 4).toNat = S.length := by omega
      show scT ρ c ++ (txC ρ c ++ (acT ρ c 6 ++ shT ρ c (ρ 4).toNat)) = _
      rw [this]
    have sc := (V.scene (show (0 : Int) ≤ c by omega) hc).1
    show wX11_said_b53 K J fu (qwR P) (wX11_said_l53 K J fu (qwR P) n') sh I R c1 c2 (A 0) b _
    unfold wX11_said_b53
    refine wB_of (oR_at B.1.1.1 B.1.1.2.2.1) ?_
    refine wB_of (oLn_n B.1.2.2.1.1 (by decide)) ?_
    rw [if_neg (by rw [ile rfl rfl (IRn (by omega)) (IRn (by omega))]; omega)]
    refine ⟨X.rcv, ⟨by omega, by omega⟩, sx_S X O (i := 17) (by decide) n1 c17 (by omega) (fun sh1 I1 R1 X1 e1 => ?_)⟩
    have l1 := n1.app c17
    obtain ⟨⟨p0, -, -⟩, p1, -⟩ := (B0.ex0 X1.e).rd hc m.2
    refine wB_of p0 ?_
    refine wB_of p1 ?_
    refine ⟨X1.rcv, ⟨by omega, by omega⟩, sx_I X1 O hfu ⟨sc.1, by omega⟩ l1 (by omega) (fun sh2 I2 R2 X2 e2 => ?_)⟩
    have l2 := l1.app n2
    refine ⟨X2.rcv, ⟨by omega, by omega⟩, sx_C X2 (show (59 : Int32) = iz 59 from iz_lit 59) ⟨by decide, by decide⟩ l2 (by omega) (fun sh3 I3 R3 X3 e3 => ?_)⟩
    have l3 := l2.app (LN.one 59)
    have e9 : ((scT ρ c ++ cod 17) ++ decS (ltS ρ c)) ++ [(59 : Int)] = scT ρ c ++ txC ρ c := by
      unfold txC
      rw [c177]
      simp only [List.append_assoc, List.cons_append, List.nil_append]
    rw [e9] at X3 l3
    rw [il0]
    refine sa_85 (C1 := c1 + 1 + 1 + 1 + 42) (C2 := c2 + 1300 + 1300 + 1300 + 54600) B0 V O hfu hc l3 n3 (by omega) ⟨by omega, by omega⟩ ?_ 6 0 fu _ _ sh3 I3 R3 rfl (by omega) (by omega) (by rw [show bud 9100 6 = 54600 from rfl]; omega) (by show SBX sh0 I0 R0 b (scT ρ c ++ txC ρ c ++ []) sh3 I3 R3; rw [List.append_nil]; exact X3)
    intro sh4 I4 R4 d1 d2 hd X4
    have B4 := B0.ex0 X4.e
    unfold wX11_said_b156
    refine wB_of (oR_at B4.1.1.1 B4.1.1.2.1) ?_
    refine ⟨rcv_k B4.2.1.1, ⟨by omega, by omega⟩, l_iter B4.2.1 (fun it sh5 I5 R5 hit e5 t5 => ?_)⟩
    have X5 := X4.ext e5
    have l4 := l3.app n3
    refine sa_164 (T := scT ρ c ++ txC ρ c ++ acT ρ c 6) (C1 := c1 + 250) (C2 := c2 + 330000) B0 V O hfu hc (X4.e.nw hit) l4 n5 (by omega) ⟨by omega, by omega⟩ ?_ S.length 0 fu _ _ sh5 I5 R5 (by omega) (by omega) (by omega) (by have hb := bud_le (k := 22200) (show S.length ≤ 12 by omega); rw [show bud 22200 12 = 266400 from rfl] at hb; omega) (by show SBX sh0 I0 R0 b (scT ρ c ++ txC ρ c ++ acT ρ c 6 ++ []) sh5 I5 R5; rw [List.append_nil]; exact X5) t5
    intro sh6 I6 R6 f1 f2 hf X6
    unfold wX11_said_b295
    rw [il1, iz_add, show ((c : Int) + 1) = ((c + 1 : Nat) : Int) from rfl]
    refine ih (c + 1) n' f1 f2 sh6 I6 R6 (by omega) (by omega) (by omega) (by omega) ?_
    rw [esc, ← List.append_assoc, ← List.append_assoc]
    exact X6
set_option maxRecDepth 20000 in
theorem l_said {P : Nat → HS → HI → HR → Prop} (B0 : LBD sh I R K A cap S ρ) (V : VB ρ) (O : OLW sh I R K) (hfu : 5000 ≤ fu)
    (hP : ∀ r sh' I' R', EXH (fun _ => False) sh I R sh' I' R' → STRG sh' I' R' r (scT ρ (ρ 3).toNat) → (∃ v, R' r 0 = some v ∧ sh' v = some (21, (scT ρ (ρ 3).toNat).length)) → P r sh' I' R') : wX11_said K J fu sh I R (A 0) (qwR P) := by
  have m := V.m
  have lim := V.lim
  obtain ⟨-, -, c2l, -, c9, -⟩ := ln_cod
  have c97 := cod_7.2.1
  have c27 := cod_7.2.2.2.2.2.1
  obtain ⟨k0, n0, g0⟩ := ln_dec (x := ρ 0) ⟨lim.1.1, by omega⟩
  obtain ⟨k1, n1, g1⟩ := ln_dec (x := ρ 1) ⟨lim.2.1.1, by omega⟩
  obtain ⟨k2, n2, g2⟩ := ln_dec (x := ρ 2) ⟨lim.2.2.1, by omega⟩
  have rd : ∀ {b : Nat} {T : List Int} {sh1 : HS} {I1 : HI} {R1 : HR}, SBX sh I R b T sh1 I1 R1 → oI sh1 I1 (A 0) 9 0 = some (iz (ρ 0)) ∧ oI sh1 I1 (A 0) 9 1 = some (iz (ρ 1)) ∧ oI sh1 I1 (A 0) 9 2 = some (iz (ρ 2)) := fun X => by
    have B := B0.ex0 X.e
    obtain ⟨v0, v1, v2⟩ := B.2.2.1
    rw [oI_at B.1.1.1, oI_at B.1.1.1, oI_at B.1.1.1, v0, v1, v2]
    exact ⟨rfl, rfl, rfl⟩
  unfold wX11_said
  refine ⟨⟨by decide, by decide⟩, fun b hb => ⟨⟨by decide, by decide⟩, l_sbi hb (fun sh1 I1 R1 X1 => ?_)⟩⟩
  refine ⟨X1.rcv, ⟨by decide, by decide⟩, sx_S X1 O (i := 9) (by decide) (show LN [] 0 from rfl) c9 (by decide) (fun sh2 I2 R2 X2 _ => ?_)⟩
  rw [List.nil_append] at X2
  refine wB_of (rd X2).1 ?_
  refine ⟨X2.rcv, ⟨by decide, by decide⟩, sx_I X2 O hfu ⟨lim.1.1, by omega⟩ c9 (by decide) (fun sh3 I3 R3 X3 _ => ?_)⟩
  have l3 := c9.app n0
  refine ⟨X3.rcv, ⟨by decide, by decide⟩, sx_C X3 il32 ⟨by decide, by decide⟩ l3 (by omega) (fun sh4 I4 R4 X4 _ => ?_)⟩
  have l4 := l3.app (LN.one 32)
  refine wB_of (rd X4).2.1 ?_
  refine ⟨X4.rcv, ⟨by decide, by decide⟩, sx_I X4 O hfu ⟨lim.2.1.1, by omega⟩ l4 (by omega) (fun sh5 I5 R5 X5 _ => ?_)⟩
  have l5 := l4.app n1
  refine ⟨X5.rcv, ⟨by decide, by decide⟩, sx_C X5 il32 ⟨by decide, by decide⟩ l5 (by omega) (fun sh6 I6 R6 X6 _ => ?_)⟩
  have l6 := l5.app (LN.one 32)
  refine wB_of (rd X6).2.2 ?_
  refine ⟨X6.rcv, ⟨by decide, by decide⟩, sx_I X6 O hfu ⟨lim.2.2.1, by omega⟩ l6 (by omega) (fun sh7 I7 R7 X7 _ => ?_)⟩
  have l7 := l6.app n2
  refine ⟨X7.rcv, ⟨by decide, by decide⟩, sx_S X7 O (i := 2) (by decide) l7 c2l (by omega) (fun sh8 I8 R8 X8 _ => ?_)⟩
  have ef : scT ρ 0 = (((((cod 9 ++ decS (ρ 0)) ++ [(32 : Int)]) ++ decS (ρ 1)) ++ [(32 : Int)]) ++ decS (ρ 2)) ++ cod 2 := by
    show txL ρ = _
    unfold txL
    rw [c97, c27]
    simp only [List.append_assoc, List.cons_append, List.nil_append]
  rw [← ef] at X8
  rw [il0]
  have hb1 := bud_le (k := 250) (show (ρ 3).toNat ≤ 3 by omega)
  have hb2 := bud_le (k := 330000) (show (ρ 3).toNat ≤ 3 by omega)
  rw [show bud 250 3 = 750 from rfl] at hb1
  rw [show bud 330000 3 = 990000 from rfl] at hb2
  exact sa_53 (b := b) B0 V O hfu hP (ρ 3).toNat 0 fu _ _ sh8 I8 R8 (by omega) (by omega) (by omega) (by omega) X8
end SA
