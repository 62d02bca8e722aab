/-! THE LAW, STAGE 2: cells of the script; the loop of the law -/
theorem iz_mask (z : Int32) {m : Nat} (hm : m < 2147483648) : ∃ x : Int, (0 ≤ x ∧ x ≤ m) ∧ z &&& iz (m : Int) = iz x := by
  refine ⟨((z.toBitVec.toNat &&& m : Nat) : Int), ⟨by omega, by have := Nat.and_le_right (n := z.toBitVec.toNat) (m := m); omega⟩, ?_⟩
  have h := Nat.and_le_right (n := z.toBitVec.toNat) (m := m)
  apply Int32.toBitVec_inj.mp
  apply BitVec.eq_of_toNat_eq
  rw [Int32.toBitVec_and, BitVec.toNat_and]
  have e : ∀ n : Nat, n < 2147483648 → (iz (n : Int)).toBitVec.toNat = n := by
    intro n hn
    show (BitVec.ofInt 32 (n : Int)).toNat = n
    rw [BitVec.toNat_ofInt]
    omega
  rw [e m hm, e _ (by omega)]
section LW
variable {K J : Nat → Nat} {fu : Nat} {σ : STT} {AD : Int → Nat} {A : Nat → Nat} {cap : Nat} {S : List Nat} {sh : HS} {I : HI} {R : HR} {P : Int32 → HS → HI → HR → Prop} {a n : Nat}
theorem l_cell {k : Int} (h : sh a = some (22, n)) (hn : n ≤ 2147483647) (h0 : 0 ≤ k) (h1 : k ≤ 2147483647) (hP : ∀ x : Int, 0 ≤ x → x ≤ 1073741823 → P (iz x) sh I R) : wL_cell K J fu sh I R a (iz k) (qwI P) := by
  unfold wL_cell wL_cell_b24
  refine wB_of (oLn_n h (by decide)) ?_
  by_cases c : (n : Int) ≤ k
  · rw [if_pos (by rw [ile rfl rfl (IRn hn) ⟨by omega, by omega⟩]; exact c)]
    obtain ⟨x, x1, e⟩ := iz_mask (iz k * 7919) (m := 1023) (by decide)
    rw [show (1023 : Int32) = iz ((1023 : Nat) : Int) from by decide, e]
    exact ⟨_, rfl, hP x x1.1 (by omega)⟩
  · rw [if_neg (by rw [ile rfl rfl (IRn hn) ⟨by omega, by omega⟩]; exact c)]
    obtain ⟨k, rfl⟩ : ∃ m : Nat, k = (m : Int) := ⟨k.toNat, by omega⟩
    have e2 : oA2 sh I a (iz (k : Int)) = some (I a k) := by
      unfold oA2
      rw [inA_n h (by omega) hn, iz_nat (by omega) (by omega)]
      simp
    refine wB_of e2 ?_
    obtain ⟨x, x1, e⟩ := iz_mask (I a k) (m := 1073741823) (by decide)
    rw [show (1073741823 : Int32) = iz ((1073741823 : Nat) : Int) from by decide, e]
    exact ⟨_, rfl, hP x x1.1 (by omega)⟩
theorem wlx_of (W : WLD K σ AD A cap S sh I R) (V : VB σ.2.1) (D : DST A S (σ.2.1 3)) : WLX K σ σ.2.1 AD A cap S sh I R := ⟨W.1, W.2.1, W.2.2.1, W.2.2.2.1, W.2.2.2.2, V, D⟩
theorem l_law31 (hfu : 5000 ≤ fu) (hn : n ≤ 2147483647) (hP : ∀ sh I R, P 1 sh I R) {k87 : HS → HI → HR → Nat → Nat → Prop} : ∀ (d k N c1 c2 : Nat) (σ : STT) (S : List Nat) (sh : HS) (I : HI) (R : HR), k + d = 30 → d < N → c1 + 3000 * d ≤ 600086 ∧ c2 + 20400 * d ≤ 7301442 → WLX K σ σ.2.1 AD A cap S sh I R → sh a = some (22, n) → wL_law_l31 K J fu (qwI P) k87 N sh I R c1 c2 a (A 0) (some (AD 0)) (iz (k : Int)) := by
  intro d
  induction d with
  | zero =>
    intro k N c1 c2 σ S sh I R hk hN hc W ha
    obtain ⟨N', rfl⟩ : ∃ n', N = n' + 1 := ⟨N - 1, by omega⟩
    show wL_law_b31 K J fu (qwI P) (wL_law_l31 K J fu (qwI P) k87 N') k87 sh I R c1 c2 a (A 0) _ _
    unfold wL_law_b31
    rw [if_pos (by rw [ile il30 rfl ⟨by decide, by decide⟩ (IRn (by omega))]; omega)]
    exact ⟨⟨by omega, by omega⟩, _, rfl, hP sh I R⟩
  | succ d ih =>
    intro k N c1 c2 σ S sh I R hk hN hc W ha
    obtain ⟨N', rfl⟩ : ∃ n', N = n' + 1 := ⟨N - 1, by omega⟩
    show wL_law_b31 K J fu (qwI P) (wL_law_l31 K J fu (qwI P) k87 N') k87 sh I R c1 c2 a (A 0) _ _
    unfold wL_law_b31
    rw [if_neg (by rw [ile il30 rfl ⟨by decide, by decide⟩ (IRn (by omega))]; omega)]
    refine ⟨⟨by omega, by omega⟩, ?_⟩
    rw [il40, iz_add]
    refine l_cell ha hn (by omega) (by omega) (fun x x0 x1 => ?_)
    refine wB_of (v := AD 0) rfl ?_
    rw [iz_add]
    refine ⟨⟨by omega, by omega⟩, l_acts W hfu ⟨by omega, by omega⟩ (fun sh1 I1 R1 σ1 S1 W1 kp1 => ?_)⟩
    have V1 := W1.2.2.2.2.2.1
    have D1 := W1.2.2.2.2.2.2
    have a1 := (kp1 a n ha).1
    rw [if_neg (by decide)]
    refine ⟨⟨by omega, by omega⟩, l_shotsHold W1.wld hfu (fun sh2 I2 W2 e2 => ?_)⟩
    have a2 := e2.k a1
    rw [if_neg (by decide)]
    refine ⟨⟨by omega, by omega⟩, l_scenesHold W2 hfu (fun sh3 I3 R3 e3 => ?_)⟩
    have W3 := W2.ext e3
    have a3 := e3.k a2
    rw [if_neg (by decide)]
    refine ⟨⟨by omega, by omega⟩, l_faultsHold W3 hfu ?_⟩
    rw [if_neg (by decide)]
    refine ⟨⟨by omega, by omega⟩, l_setupsHold W3 hfu (fun sh4 I4 R4 W4 kp4 => ?_)⟩
    rw [if_neg (by decide), il1, iz_add]
    exact ih (k + 1) N' _ _ σ1 S1 sh4 I4 R4 (by omega) (by omega) ⟨by omega, by omega⟩ (wlx_of W4 V1 D1) (kp4 a n a3).1
end LW
