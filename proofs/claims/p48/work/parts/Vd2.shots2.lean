/-! THE LAW, STAGE 2: shotsHold, whole -/
theorem lnM_s (ρ : RHO) {n k : Nat} (h : k < n) : lnM ρ (2 ^ n - 1) (k + 1) = lnM ρ (2 ^ n - 1) k + lnS ρ k := by
  show lnM ρ (2 ^ n - 1) k + (if (2 ^ n - 1).testBit k = true then lnS ρ k else 0) = _
  rw [if_pos (by rw [Nat.testBit_two_pow_sub_one]; exact decide_eq_true h)]
section SH
variable {K J : Nat → Nat} {fu : Nat} {σ : STT} {AD : Int → Nat} {A : Nat → Nat} {cap : Nat} {S : List Nat} {sh sh' : HS} {I I' : HI} {R R' : HR} {F : VF} {k q X1 X2 : Nat} {l2 : Int32} {P : Int32 → HS → HI → HR → Prop}
theorem sh_267 {a9 : Nat} (W : WLD K σ AD A cap S sh I R) (hfu : 5000 ≤ fu) (h9 : sh a9 = some (20, 6)) (hv : ∀ j : Nat, j < 6 → I a9 j = iz (cntV σ.2.1 j)) (hP : P 1 sh I R) :
    ∀ (d a n c1 c2 : Nat), a + d = 6 → d < n → c1 + 2 * d ≤ 900 ∧ c2 + 12 * d ≤ 5400 → wL_shotsHold_l267 K J fu (qwI P) n sh I R c1 c2 (AD 0) a9 (iz (a : Int)) := by
  intro d
  induction d with
  | zero =>
    intro a n c1 c2 had hn hcc
    obtain ⟨n', rfl⟩ : ∃ n', n = n' + 1 := ⟨n - 1, by omega⟩
    show wL_shotsHold_b267 K J fu (qwI P) (wL_shotsHold_l267 K J fu (qwI P) n') sh I R c1 c2 (AD 0) a9 _
    unfold wL_shotsHold_b267
    rw [if_pos (by rw [ile il6 rfl ⟨by decide, by decide⟩ (IRn (by omega))]; omega)]
    exact ⟨⟨by omega, by omega⟩, _, rfl, hP⟩
  | succ d ih =>
    intro a n c1 c2 had hn hcc
    obtain ⟨n', rfl⟩ : ∃ n', n = n' + 1 := ⟨n - 1, by omega⟩
    show wL_shotsHold_b267 K J fu (qwI P) (wL_shotsHold_l267 K J fu (qwI P) n') sh I R c1 c2 (AD 0) a9 _
    unfold wL_shotsHold_b267
    rw [if_neg (by rw [ile il6 rfl ⟨by decide, by decide⟩ (IRn (by omega))]; omega)]
    refine ⟨⟨by omega, by omega⟩, ?_⟩
    have e := W.ask (f := fun I => fX10_count fu sh I R (AD 0) (iz (a : Int))) (fun P O => cq_count (P := P) O W.1.V hfu (IRn (n := a) (by omega)))
    have ea : aCount σ (a : Int) = .inl (cntV σ.2.1 a) := by
      unfold aCount
      rw [if_pos W.2.1, if_pos ⟨by omega, by omega⟩]
    rw [ea] at e
    refine wB_ask e ?_
    refine wB_of (oA2_n h9 a (by omega) rfl) ?_
    rw [hv a (by omega), if_pos rfl, il1, iz_add]
    exact ih (a + 1) n' (c1 + 2) (c2 + 12) (by omega) (by omega) ⟨by omega, by omega⟩
theorem sh_216 (W : WLD K σ AD A cap S sh I R) (hfu : 5000 ≤ fu) {c1 c2 : Nat} (hc : c1 ≤ 800 ∧ c2 ≤ 5000) (hP : ∀ sh' I', WLD K σ AD A cap S sh' I' R → EXH (fun _ => False) sh I R sh' I' R → P 1 sh' I' R) :
    wL_shotsHold_b216 K J fu (qwI P) sh I R c1 c2 (AD 0) (A 0) (iz (alS σ.2.1)) := by
  have B := W.2.2.1
  have V := W.VB
  have m := V.m
  have hl := B.len
  have e6 : (6 : Int32).toNatClampNeg = 6 := by decide
  unfold wL_shotsHold_b216
  rw [e6]
  refine ⟨⟨by decide, by decide⟩, ⟨by omega, by omega⟩, fun a ha => ?_⟩
  have x0 := EXH.newI I R ha (20, 6) (fun _ => 0)
  generalize hs1 : u1 sh a (some (20, 6)) = sh1
  have h9 : sh1 a = some (20, 6) := by rw [← hs1]; exact u1_on
  rw [hs1] at x0
  have B1 := B.ex0 x0
  have k0 := B1.1.1.1
  have a0 : A 0 ≠ a := fun e => by rw [e, h9] at k0; cases k0
  have a1 : A 1 ≠ a := fun e => by have := B1.2.1.1; rw [e, h9] at this; cases this
  refine wB_of (oR_at k0 B1.1.1.2.2.1) ?_
  refine wB_of (oLn_n B1.1.2.2.1.1 (by decide)) ?_
  refine wB_of (oS_n h9 0 (by decide) il0) ?_
  refine wB_of (oR_at k0 B1.1.1.2.1) ?_
  have x1 := x0.tr (EXH.wI sh1 (u1 I a (fun _ => 0)) R a 0 (iz ((σ.2.1 3).toNat : Int))) (fun y hy z => hy (by rw [z]; exact ha))
  have B2 := B.ex0 x1
  refine ⟨rcv_k B2.2.1.1, ⟨by omega, by omega⟩, l_size B2.2.1 ?_⟩
  obtain ⟨I1, hI1⟩ : ∃ I1, I1 = u2 (u1 I a (fun _ => 0)) a 0 (iz ((σ.2.1 3).toNat : Int)) := ⟨_, rfl⟩
  rw [← hI1] at x1 ⊢
  refine wB_of (oS_n h9 1 (by decide) il1) ?_
  obtain ⟨I2, hI2⟩ : ∃ I2, I2 = u2 I1 a 1 (iz (S.length : Int)) := ⟨_, rfl⟩
  have x2 := x1.tr (EXH.wI sh1 I1 R a 1 (iz (S.length : Int))) (fun y hy z => hy (by rw [z]; exact ha))
  rw [← hI2] at x2 ⊢
  refine wB_of (oI_at k0) ?_
  rw [(B.ex0 x2).2.2.1.1]
  refine wB_of (oS_n h9 2 (by decide) il2) ?_
  obtain ⟨I3, hI3⟩ : ∃ I3, I3 = u2 I2 a 2 (iz (σ.2.1 0)) := ⟨_, rfl⟩
  have x3 := x2.tr (EXH.wI sh1 I2 R a 2 (iz (σ.2.1 0))) (fun y hy z => hy (by rw [z]; exact ha))
  rw [← hI3] at x3 ⊢
  refine wB_of (oI_at k0) ?_
  rw [(B.ex0 x3).2.2.1.2.1]
  refine wB_of (oS_n h9 3 (by decide) il3) ?_
  obtain ⟨I4, hI4⟩ : ∃ I4, I4 = u2 I3 a 3 (iz (σ.2.1 1)) := ⟨_, rfl⟩
  have x4 := x3.tr (EXH.wI sh1 I3 R a 3 (iz (σ.2.1 1))) (fun y hy z => hy (by rw [z]; exact ha))
  rw [← hI4] at x4 ⊢
  refine wB_of (oI_at k0) ?_
  rw [(B.ex0 x4).2.2.1.2.2]
  refine wB_of (oS_n h9 4 (by decide) il4) ?_
  obtain ⟨I5, hI5⟩ : ∃ I5, I5 = u2 I4 a 4 (iz (σ.2.1 2)) := ⟨_, rfl⟩
  have x5 := x4.tr (EXH.wI sh1 I4 R a 4 (iz (σ.2.1 2))) (fun y hy z => hy (by rw [z]; exact ha))
  rw [← hI5] at x5 ⊢
  refine wB_of (oS_n h9 5 (by decide) il5) ?_
  obtain ⟨I6, hI6⟩ : ∃ I6, I6 = u2 I5 a 5 (iz (alS σ.2.1)) := ⟨_, rfl⟩
  have x6 := x5.tr (EXH.wI sh1 I5 R a 5 (iz (alS σ.2.1))) (fun y hy z => hy (by rw [z]; exact ha))
  rw [← hI6] at x6 ⊢
  have hv : ∀ j : Nat, j < 6 → I6 a j = iz (cntV σ.2.1 j) := by
    intro j hj
    have hj6 : j = 0 ∨ j = 1 ∨ j = 2 ∨ j = 3 ∨ j = 4 ∨ j = 5 := by omega
    rw [hI6, hI5, hI4, hI3, hI2, hI1]
    rcases hj6 with rfl | rfl | rfl | rfl | rfl | rfl
    · rw [u2_k (by decide), u2_k (by decide), u2_k (by decide), u2_k (by decide), u2_k (by decide), u2_self]
      show _ = iz (σ.2.1 3)
      congr 1
      omega
    · rw [u2_k (by decide), u2_k (by decide), u2_k (by decide), u2_k (by decide), u2_self]
      show _ = iz (σ.2.1 4)
      rw [hl]
    · rw [u2_k (by decide), u2_k (by decide), u2_k (by decide), u2_self]
      rfl
    · rw [u2_k (by decide), u2_k (by decide), u2_self]
      rfl
    · rw [u2_k (by decide), u2_self]
      rfl
    · rw [u2_self]
      rfl
  exact sh_267 (W.ext x6) hfu h9 hv (hP _ _ (W.ext x6) x6) 6 0 fu _ _ rfl (by omega) ⟨by omega, by omega⟩
theorem sh_4 (W : WLD K σ AD A cap S sh I R) (hfu : 5000 ≤ fu) (hP : ∀ sh' I', WLD K σ AD A cap S sh' I' R → EXH (fun _ => False) sh I R sh' I' R → P 1 sh' I' R) :
    ∀ (d k n c1 c2 : Nat), k + d = S.length → d < n → c1 ≤ 66 * k ∧ c2 ≤ 396 * k → wL_shotsHold_l4 K J fu (qwI P) (wL_shotsHold_b130 K J fu (qwI P)) (wL_shotsHold_b216 K J fu (qwI P)) n sh I R c1 c2 (AD 0) (A 0) (iz (lnM σ.2.1 (2 ^ (σ.2.1 4).toNat - 1) k)) (iz (k : Int)) := by
  have B := W.2.2.1
  have V := W.VB
  have n4 := V.n
  have hl := B.len
  intro d
  induction d with
  | zero =>
    intro k n c1 c2 hkd hn hcc
    obtain ⟨n', rfl⟩ : ∃ n', n = n' + 1 := ⟨n - 1, by omega⟩
    show wL_shotsHold_b4 K J fu (qwI P) (wL_shotsHold_l4 K J fu (qwI P) _ _ n') _ _ sh I R c1 c2 (AD 0) (A 0) _ _
    unfold wL_shotsHold_b4
    refine wB_of (oR_at B.1.1.1 B.1.1.2.1) ?_
    refine ⟨rcv_k B.2.1.1, ⟨by omega, by omega⟩, l_size B.2.1 ?_⟩
    rw [if_pos (by rw [ile rfl rfl (IRn (by omega)) (IRn (by omega))]; omega)]
    have hk : k = (σ.2.1 4).toNat := by omega
    rw [hk]
    exact sh_216 W hfu ⟨by omega, by omega⟩ hP
  | succ d ih =>
    intro k n c1 c2 hkd hn hcc
    obtain ⟨n', rfl⟩ : ∃ n', n = n' + 1 := ⟨n - 1, by omega⟩
    obtain ⟨q, hq⟩ : ∃ q, S[k]? = some q := ⟨S[k], List.getElem?_eq_getElem (by omega)⟩
    show wL_shotsHold_b4 K J fu (qwI P) (wL_shotsHold_l4 K J fu (qwI P) _ _ n') _ _ sh I R c1 c2 (AD 0) (A 0) _ _
    unfold wL_shotsHold_b4
    refine wB_of (oR_at B.1.1.1 B.1.1.2.1) ?_
    refine ⟨rcv_k B.2.1.1, ⟨by omega, by omega⟩, l_size B.2.1 ?_⟩
    rw [if_neg (by rw [ile rfl rfl (IRn (by omega)) (IRn (by omega))]; omega)]
    refine wB_of (oR_at B.1.1.1 B.1.1.2.1) ?_
    refine ⟨rcv_k B.2.1.1, ⟨by omega, by omega⟩, l_get B.2.1 hq ?_⟩
    refine wB_of (oKt_1 (B.kk hq).2.2) ?_
    have hgo := sh_31 (K := K) (J := J) (fu := fu) (F := qwI P) (X1 := c1 + 18) (X2 := c2 + 108) (l2 := iz (lnM σ.2.1 (2 ^ (σ.2.1 4).toNat - 1) k)) W hq ⟨by omega, by omega⟩ (k61 := wL_shotsHold_b61 K J fu (qwI P) (wL_shotsHold_l4 K J fu (qwI P) (wL_shotsHold_b130 K J fu (qwI P)) (wL_shotsHold_b216 K J fu (qwI P)) n') (wL_shotsHold_b130 K J fu (qwI P)) (wL_shotsHold_b216 K J fu (qwI P))) (fun c1' c2' h => ?_) 6 0 fu c1 c2 rfl (by omega) ⟨by omega, by omega⟩
    · exact hgo
    · refine sh_61 W hfu hq ⟨by omega, by omega⟩ (fun c1'' c2'' h2 => ?_)
      rw [iz_add, ← lnM_s σ.2.1 (show k < (σ.2.1 4).toNat by omega)]
      exact ih (k + 1) n' c1'' c2'' (by omega) (by omega) ⟨by omega, by omega⟩
theorem l_shotsHold (W : WLD K σ AD A cap S sh I R) (hfu : 5000 ≤ fu) (hP : ∀ sh' I', WLD K σ AD A cap S sh' I' R → EXH (fun _ => False) sh I R sh' I' R → P 1 sh' I' R) : wL_shotsHold K J fu sh I R (AD 0) (A 0) (qwI P) := by
  have n4 := W.VB.n
  have hl := W.2.2.1.len
  unfold wL_shotsHold
  exact sh_4 W hfu hP S.length 0 fu 0 0 (by omega) (by omega) ⟨by decide, by decide⟩
end SH
