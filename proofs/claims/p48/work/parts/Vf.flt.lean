/-! THE LAW, STAGE 2: faultsHold -/
def cbS (ρ : RHO) (s : Int) : Nat → Int
  | 0 => 0
  | j + 1 => cbS ρ s j + (if (kindS ρ s).toNat.testBit j = true then 1 else 0)
theorem cb_rg (ρ : RHO) (s : Int) : ∀ j : Nat, 0 ≤ cbS ρ s j ∧ cbS ρ s j ≤ j
  | 0 => by unfold cbS; omega
  | j + 1 => by
    have := cb_rg ρ s j
    unfold cbS
    split <;> omega
theorem cb_4 (ρ : RHO) (s : Int) : cbS ρ s 4 = kcntS ρ s := by
  show (((0 + (if (kindS ρ s).toNat.testBit 0 = true then 1 else 0)) + (if (kindS ρ s).toNat.testBit 1 = true then 1 else 0)) + (if (kindS ρ s).toNat.testBit 2 = true then 1 else 0)) + (if (kindS ρ s).toNat.testBit 3 = true then (1 : Int) else 0) = _
  unfold kindS kcntS
  cases k0S ρ s <;> cases k1S ρ s <;> cases k2S ρ s <;> cases k3S ρ s <;> decide
theorem kind_rg (ρ : RHO) (s : Int) : 0 ≤ kindS ρ s ∧ kindS ρ s ≤ 15 := by
  unfold kindS
  cases k0S ρ s <;> cases k1S ρ s <;> cases k2S ρ s <;> cases k3S ρ s <;> decide
theorem fiK_skip (ρ : RHO) (s b : Int) : ∀ (j : Nat) (m : Int), j ≤ 4 → 0 ≤ m → fiK ρ s b 4 0 (cbS ρ s j + m) = fiK ρ s b (4 - j) j m
  | 0, m, _, _ => by unfold cbS; rw [Int.zero_add]
  | j + 1, m, hj, hm => by
    show fiK ρ s b 4 0 (cbS ρ s j + (if (kindS ρ s).toNat.testBit j = true then 1 else 0) + m) = _
    rw [Int.add_assoc, fiK_skip ρ s b j _ (by omega) (by split <;> omega)]
    obtain ⟨f, hf⟩ : ∃ f, 4 - j = f + 1 := ⟨4 - j - 1, by omega⟩
    rw [hf, show 4 - (j + 1) = f by omega]
    show (if (kindS ρ s).toNat.testBit j = true then (if (if (kindS ρ s).toNat.testBit j = true then (1 : Int) else 0) + m = 0 then Sum.inl (tolS ρ s j b) else fiK ρ s b f (j + 1) ((if (kindS ρ s).toNat.testBit j = true then (1 : Int) else 0) + m - 1)) else fiK ρ s b f (j + 1) ((if (kindS ρ s).toNat.testBit j = true then (1 : Int) else 0) + m)) = _
    by_cases z : (kindS ρ s).toNat.testBit j = true
    · rw [if_pos z, if_pos z, if_neg (by omega), show (1 : Int) + m - 1 = m by omega]
    · rw [if_neg z, if_neg z, Int.zero_add]
theorem fiS_skip (ρ : RHO) (b : Int) {n : Nat} : ∀ (k : Nat) (m : Int), k ≤ n → 0 ≤ m → fiS ρ b n 0 (smS (kcntS ρ) k + m) = fiS ρ b (n - k) k m
  | 0, m, _, _ => by unfold smS; rw [Int.zero_add]; rfl
  | k + 1, m, hk, hm => by
    have kr := kcnt_rg ρ k
    show fiS ρ b n 0 (smS (kcntS ρ) k + kcntS ρ k + m) = _
    rw [Int.add_assoc, fiS_skip ρ b k _ (by omega) (by omega)]
    obtain ⟨f, hf⟩ : ∃ f, n - k = f + 1 := ⟨n - k - 1, by omega⟩
    rw [hf, show n - (k + 1) = f by omega]
    show (match fiK ρ (k : Int) b 4 0 (kcntS ρ k + m) with | .inl v => Sum.inl v | .inr l' => fiS ρ b f (k + 1) l') = _
    rw [← cb_4, fiK_skip ρ k b 4 m (by decide) hm]
    rfl
theorem fiS_at (ρ : RHO) (b : Int) {n k j : Nat} (hk : k < n) (hj : j < 4) (hb : (kindS ρ k).toNat.testBit j = true) : fiS ρ b n 0 (smS (kcntS ρ) k + cbS ρ k j) = .inl (tolS ρ k j b) := by
  have cr := cb_rg ρ k j
  rw [fiS_skip ρ b k _ (by omega) cr.1]
  obtain ⟨f, hf⟩ : ∃ f, n - k = f + 1 := ⟨n - k - 1, by omega⟩
  rw [hf]
  show (match fiK ρ (k : Int) b 4 0 (cbS ρ k j) with | .inl v => Sum.inl v | .inr l' => fiS ρ b f (k + 1) l') = _
  have := fiK_skip ρ k b j 0 (by omega) (by decide)
  rw [Int.add_zero] at this
  rw [this]
  obtain ⟨g, hg⟩ : ∃ g, 4 - j = g + 1 := ⟨4 - j - 1, by omega⟩
  rw [hg]
  show (match (if (kindS ρ k).toNat.testBit j = true then (if (0 : Int) = 0 then Sum.inl (tolS ρ k j b) else fiK ρ k b g (j + 1) (0 - 1)) else fiK ρ k b g (j + 1) 0) with | .inl v => Sum.inl v | .inr l' => fiS ρ b f (k + 1) l') = _
  rw [if_pos hb, if_pos rfl]
theorem fiS_end (ρ : RHO) (b : Int) (n : Nat) : fiS ρ b n 0 (smS (kcntS ρ) n) = .inr 3 := by
  have := fiS_skip ρ b (n := n) n 0 (Nat.le_refl _) (by decide)
  rw [Int.add_zero, Nat.sub_self] at this
  rw [this]
  rfl
theorem tol_rg {ρ : RHO} {s k b : Int} : tolS ρ s k b = if b = 0 then s else if b = 1 then k else if k = 3 then blockS ρ s else s - 1 := rfl
section FH
variable {K J : Nat → Nat} {fu : Nat} {σ : STT} {AD : Int → Nat} {A : Nat → Nat} {cap : Nat} {S : List Nat} {sh sh' : HS} {I I' : HI} {R R' : HR} {F : VF} {k q X1 X2 : Nat} {P : Int32 → HS → HI → HR → Prop}
theorem fh_18 {k97 : HS → HI → HR → Nat → Nat → Prop} {k108 : HS → HI → HR → Nat → Nat → Nat → Nat → Int32 → Int32 → Prop} (W : WLD K σ AD A cap S sh I R) (hfu : 5000 ≤ fu) (hk : S[k]? = some q) (hX : X1 ≤ 700 ∧ X2 ≤ 4200) (hc : ∀ c1 c2, c1 ≤ X1 ∧ c2 ≤ X2 → k108 sh I R c1 c2 (AD 0) (A 0) (iz (smS (kcntS σ.2.1) (k + 1))) (iz (k : Int))) :
    ∀ (d a n c1 c2 : Nat), a + d = 4 → d < n → c1 + 12 * d ≤ X1 ∧ c2 + 72 * d ≤ X2 → wL_faultsHold_l18 K J fu F k97 k108 n sh I R c1 c2 (AD 0) (A 0) (iz (smS (kcntS σ.2.1) k + cbS σ.2.1 k a)) (iz (k : Int)) (iz (a : Int)) := by
  have B := W.2.2.1
  have V := W.VB
  obtain ⟨k0, k1, hq⟩ := B.kk hk
  have n4 := V.n
  have kr := kind_rg σ.2.1 k
  have sm := smk_rg σ.2.1 k
  intro d
  induction d with
  | zero =>
    intro a n c1 c2 had hn hcc
    obtain ⟨n', rfl⟩ : ∃ n', n = n' + 1 := ⟨n - 1, by omega⟩
    have ha : a = 4 := by omega
    subst ha
    show wL_faultsHold_b18 K J fu F (wL_faultsHold_l18 K J fu F k97 k108 n') k97 k108 sh I R c1 c2 (AD 0) (A 0) _ _ _
    unfold wL_faultsHold_b18
    rw [if_pos (by rw [ile il4 rfl ⟨by decide, by decide⟩ (IRn (by omega))]; omega), cb_4]
    exact hc _ _ ⟨by omega, by omega⟩
  | succ d ih =>
    intro a n c1 c2 had hn hcc
    obtain ⟨n', rfl⟩ : ∃ n', n = n' + 1 := ⟨n - 1, by omega⟩
    have cr := cb_rg σ.2.1 k a
    have cbs : cbS σ.2.1 k (a + 1) = cbS σ.2.1 k a + (if (kindS σ.2.1 k).toNat.testBit a = true then 1 else 0) := rfl
    show wL_faultsHold_b18 K J fu F (wL_faultsHold_l18 K J fu F k97 k108 n') k97 k108 sh I R c1 c2 (AD 0) (A 0) _ _ _
    unfold wL_faultsHold_b18
    rw [if_neg (by rw [ile il4 rfl ⟨by decide, by decide⟩ (IRn (by omega))]; omega)]
    refine ⟨B.r, ⟨by omega, by omega⟩, l_kinds B V hk hfu ?_⟩
    have hz : iz (kindS σ.2.1 k) = iz ((kindS σ.2.1 k).toNat : Int) := by congr 1; omega
    rw [hz, iz_bit (by omega) (by omega)]
    unfold bt
    by_cases z : (kindS σ.2.1 k).toNat.testBit a = true
    · rw [if_neg (show ¬ iz (if (kindS σ.2.1 k).toNat.testBit a = true then 1 else 0) = 0 by rw [if_pos z]; decide)]
      have hl : 0 ≤ smS (kcntS σ.2.1) k + cbS σ.2.1 k a := by omega
      have e := fun (b : Int) (b0 : 0 ≤ b) (b1 : b ≤ 2) => W.ask (f := fun I => fX10_fault fu sh I R (AD 0) (iz (smS (kcntS σ.2.1) k + cbS σ.2.1 k a)) (iz b)) (fun P O => cq_fault (P := P) O W.1.V hfu (show IR (smS (kcntS σ.2.1) k + cbS σ.2.1 k a) from ⟨by omega, by omega⟩) ⟨by omega, by omega⟩)
      have ea : ∀ b : Int, 0 ≤ b → b ≤ 2 → aFault σ (smS (kcntS σ.2.1) k + cbS σ.2.1 k a) b = .inl (tolS σ.2.1 k a b) := by
        intro b b0 b1
        unfold aFault
        rw [if_pos W.2.1, if_pos ⟨⟨b0, b1⟩, hl⟩]
        exact fiS_at σ.2.1 b (by omega) (by omega) z
      have e0 := e 0 (by decide) (by decide)
      have e1 := e 1 (by decide) (by decide)
      have e2 := e 2 (by decide) (by decide)
      rw [ea 0 (by decide) (by decide)] at e0
      rw [ea 1 (by decide) (by decide)] at e1
      rw [ea 2 (by decide) (by decide)] at e2
      have next : wL_faultsHold_b102 K J fu F (wL_faultsHold_l18 K J fu F k97 k108 n') k97 k108 sh I R (c1 + 4 + 4 + 4) (c2 + 24 + 24 + 24) (AD 0) (A 0) (iz (smS (kcntS σ.2.1) k + cbS σ.2.1 k a) + 1) (iz (k : Int)) (iz (a : Int)) := by
        unfold wL_faultsHold_b102
        rw [il1, iz_add, iz_add]
        have := ih (a + 1) n' (c1 + 4 + 4 + 4) (c2 + 24 + 24 + 24) (by omega) (by omega) ⟨by omega, by omega⟩
        rw [cbs, if_pos z, ← Int.add_assoc] at this
        exact this
      refine ⟨⟨by omega, by omega⟩, wB_ask e0 ?_⟩
      rw [if_pos (show iz (tolS σ.2.1 k a 0) = iz (k : Int) from rfl)]
      refine ⟨⟨by omega, by omega⟩, wB_ask e1 ?_⟩
      rw [if_pos (show iz (tolS σ.2.1 k a 1) = iz (a : Int) from rfl)]
      refine ⟨⟨by omega, by omega⟩, wB_ask e2 ?_⟩
      by_cases h3 : a = 3
      · rw [if_pos (by rw [h3]; decide)]
        refine wB_of (oR_at B.1.1.1 B.1.1.2.1) ?_
        refine ⟨rcv_k B.2.1.1, ⟨by omega, by omega⟩, l_get B.2.1 hk ?_⟩
        refine wB_of (oKt_1 hq) ?_
        refine ⟨B.r, ⟨by omega, by omega⟩, l_blocker B V hk hfu ?_⟩
        unfold wL_faultsHold_b94
        rw [if_pos (show iz (tolS σ.2.1 k a 2) = iz (blockS σ.2.1 k) by
          have : tolS σ.2.1 k a 2 = blockS σ.2.1 k := by
            rw [tol_rg, if_neg (by decide), if_neg (by decide), if_pos (by omega)]
          rw [this])]
        exact next
      · rw [if_neg (by rw [ieq rfl (show (3 : Int32) = iz 3 from il3) (IRn (by omega)) ⟨by decide, by decide⟩]; omega)]
        unfold wL_faultsHold_b94
        rw [if_pos (show iz (tolS σ.2.1 k a 2) = iz (k : Int) - 1 by
          have : tolS σ.2.1 k a 2 = (k : Int) - 1 := by
            rw [tol_rg, if_neg (by decide), if_neg (by decide), if_neg (by omega)]
          rw [this, il1, iz_sub])]
        exact next
    · rw [if_pos (show iz (if (kindS σ.2.1 k).toNat.testBit a = true then 1 else 0) = 0 by rw [if_neg z]; decide)]
      unfold wL_faultsHold_b102
      rw [il1, iz_add]
      have := ih (a + 1) n' c1 c2 (by omega) (by omega) ⟨by omega, by omega⟩
      rw [cbs, if_neg z, Int.add_zero] at this
      exact this
theorem fh_4 (W : WLD K σ AD A cap S sh I R) (hfu : 5000 ≤ fu) (hP : P 1 sh I R) :
    ∀ (d k n c1 c2 : Nat), k + d = S.length → d < n → c1 ≤ 48 * k ∧ c2 ≤ 288 * k → wL_faultsHold_l4 K J fu (qwI P) (wL_faultsHold_b97 K J fu (qwI P)) (wL_faultsHold_b114 K J fu (qwI P)) n sh I R c1 c2 (AD 0) (A 0) (iz (smS (kcntS σ.2.1) k)) (iz (k : Int)) := by
  have B := W.2.2.1
  have V := W.VB
  have n4 := V.n
  have hl := B.len
  intro d
  induction d with
  | zero =>
    intro k n c1 c2 hkd hn hcc
    obtain ⟨n', rfl⟩ : ∃ n', n = n' + 1 := ⟨n - 1, by omega⟩
    show wL_faultsHold_b4 K J fu (qwI P) (wL_faultsHold_l4 K J fu (qwI P) _ _ n') _ _ sh I R c1 c2 (AD 0) (A 0) _ _
    unfold wL_faultsHold_b4
    refine wB_of (oR_at B.1.1.1 B.1.1.2.1) ?_
    refine ⟨rcv_k B.2.1.1, ⟨by omega, by omega⟩, l_size B.2.1 ?_⟩
    rw [if_pos (by rw [ile rfl rfl (IRn (by omega)) (IRn (by omega))]; omega)]
    have hk : k = (σ.2.1 4).toNat := by omega
    have sm := smk_rg σ.2.1 k
    have e := W.ask (f := fun I => fX10_faults fu sh I R (AD 0)) (fun P O => cq_faults (P := P) O W.1.V hfu)
    have ea : aBoard σ (faultS σ.2.1) = .inl (faultS σ.2.1) := by unfold aBoard; rw [if_pos W.2.1]
    rw [ea] at e
    have g := W.ask (f := fun I => fX10_fault fu sh I R (AD 0) (iz (smS (kcntS σ.2.1) k)) (iz 0)) (fun P O => cq_fault (P := P) O W.1.V hfu ⟨by omega, by omega⟩ ⟨by decide, by decide⟩)
    have ga : aFault σ (smS (kcntS σ.2.1) k) 0 = .inr 3 := by
      unfold aFault
      rw [if_pos W.2.1, if_pos ⟨⟨by decide, by decide⟩, by omega⟩, hk]
      exact fiS_end σ.2.1 0 _
    rw [ga] at g
    unfold wL_faultsHold_b114
    refine ⟨⟨by omega, by omega⟩, wB_ask e ?_⟩
    rw [if_pos (show iz (faultS σ.2.1) = iz (smS (kcntS σ.2.1) k) by rw [hk]; rfl)]
    refine ⟨⟨by omega, by omega⟩, wB_of g ⟨rfl, ?_⟩⟩
    rw [if_neg (show ¬ hasV (cOut (.inr 3)) = 0 by decide)]
    exact ⟨⟨by omega, by omega⟩, Or.inr rfl, _, rfl, hP⟩
  | succ d ih =>
    intro k n c1 c2 hkd hn hcc
    obtain ⟨n', rfl⟩ : ∃ n', n = n' + 1 := ⟨n - 1, by omega⟩
    obtain ⟨q, hq⟩ : ∃ q, S[k]? = some q := ⟨S[k], List.getElem?_eq_getElem (by omega)⟩
    show wL_faultsHold_b4 K J fu (qwI P) (wL_faultsHold_l4 K J fu (qwI P) _ _ n') _ _ sh I R c1 c2 (AD 0) (A 0) _ _
    unfold wL_faultsHold_b4
    refine wB_of (oR_at B.1.1.1 B.1.1.2.1) ?_
    refine ⟨rcv_k B.2.1.1, ⟨by omega, by omega⟩, l_size B.2.1 ?_⟩
    rw [if_neg (by rw [ile rfl rfl (IRn (by omega)) (IRn (by omega))]; omega)]
    have hgo := fh_18 (K := K) (J := J) (fu := fu) (F := qwI P) (X1 := c1 + 48) (X2 := c2 + 288) (k97 := wL_faultsHold_b97 K J fu (qwI P)) (k108 := wL_faultsHold_b108 K J fu (qwI P) (wL_faultsHold_l4 K J fu (qwI P) (wL_faultsHold_b97 K J fu (qwI P)) (wL_faultsHold_b114 K J fu (qwI P)) n') (wL_faultsHold_b97 K J fu (qwI P)) (wL_faultsHold_b114 K J fu (qwI P))) W hfu hq ⟨by omega, by omega⟩ (fun c1' c2' h => ?_) 4 0 fu c1 c2 rfl (by omega) ⟨by omega, by omega⟩
    · have e0 : cbS σ.2.1 k 0 = 0 := rfl
      rw [e0, Int.add_zero] at hgo
      exact hgo
    · unfold wL_faultsHold_b108
      rw [il1, iz_add]
      exact ih (k + 1) n' c1' c2' (by omega) (by omega) ⟨by omega, by omega⟩
theorem l_faultsHold (W : WLD K σ AD A cap S sh I R) (hfu : 5000 ≤ fu) (hP : P 1 sh I R) : wL_faultsHold K J fu sh I R (AD 0) (A 0) (qwI P) := by
  have n4 := W.VB.n
  have hl := W.2.2.1.len
  unfold wL_faultsHold
  exact fh_4 W hfu hP S.length 0 fu 0 0 (by omega) (by omega) ⟨by decide, by decide⟩
end FH
