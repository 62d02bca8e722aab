/-! THE LAW, STAGE 2: the number of faults -/
theorem btc_k (fu : Nat) (sh : HS) (I : HI) (R : HR) (a b c d : Bool) : fJ6_bitCount_0f7a4 fu sh I R (iz (b2i a + 2 * b2i b + 4 * b2i c + 8 * b2i d)) = some (iz (b2i a + b2i b + b2i c + b2i d)) := by
  unfold fJ6_bitCount_0f7a4
  cases a <;> cases b <;> cases c <;> cases d <;> decide +kernel
theorem kcnt_rg (ρ : RHO) (s : Int) : 0 ≤ kcntS ρ s ∧ kcntS ρ s ≤ 4 := by
  unfold kcntS
  cases k0S ρ s <;> cases k1S ρ s <;> cases k2S ρ s <;> cases k3S ρ s <;> decide
theorem smk_rg (ρ : RHO) : ∀ n : Nat, 0 ≤ smS (kcntS ρ) n ∧ smS (kcntS ρ) n ≤ 4 * n
  | 0 => by unfold smS; omega
  | n + 1 => by
    have h := smk_rg ρ n
    have g := kcnt_rg ρ n
    unfold smS
    omega
section LB
variable {K J : Nat → Nat} {fu : Nat} {sh : HS} {I : HI} {R : HR} {A : Nat → Nat} {cap : Nat} {S : List Nat} {ρ : RHO} {k q j q' n : Nat} {P : Int32 → HS → HI → HR → Prop}
theorem LBD.len (B : LBD sh I R K A cap S ρ) : (S.length : Int) = ρ 4 := B.2.2.2.2.1
theorem l_fltL (B : LBD sh I R K A cap S ρ) (V : VB ρ) (hfu : 5000 ≤ fu) (hP : P (iz (faultS ρ)) sh I R) : ∀ (d a n : Nat), a + d = S.length → d < n → wX11_faults_l4 K J fu (qwI P) n sh I R (A 0) (iz (smS (kcntS ρ) a)) (iz (a : Int)) := by
  have hl := B.len
  have hn := V.n
  intro d
  induction d with
  | zero =>
    intro a n had hn0
    obtain ⟨n', rfl⟩ : ∃ n', n = n' + 1 := ⟨n - 1, by omega⟩
    show wX11_faults_b4 K J fu (qwI P) (wX11_faults_l4 K J fu (qwI P) n') sh I R (A 0) _ _
    unfold wX11_faults_b4
    refine wB_of (oR_at B.1.1.1 B.1.1.2.1) ?_
    refine ⟨rcv_k B.2.1.1, l_size B.2.1 ?_⟩
    rw [if_pos (by rw [ile rfl rfl ⟨by omega, by omega⟩ ⟨by omega, by omega⟩]; omega)]
    have ha : a = (ρ 4).toNat := by omega
    rw [ha]
    exact ⟨_, rfl, hP⟩
  | succ d ih =>
    intro a n had hn0
    obtain ⟨n', rfl⟩ : ∃ n', n = n' + 1 := ⟨n - 1, by omega⟩
    obtain ⟨q, hq⟩ : ∃ q, S[a]? = some q := ⟨S[a], List.getElem?_eq_getElem (by omega)⟩
    show wX11_faults_b4 K J fu (qwI P) (wX11_faults_l4 K J fu (qwI P) n') sh I R (A 0) _ _
    unfold wX11_faults_b4
    refine wB_of (oR_at B.1.1.1 B.1.1.2.1) ?_
    refine ⟨rcv_k B.2.1.1, l_size B.2.1 ?_⟩
    rw [if_neg (by rw [ile rfl rfl ⟨by omega, by omega⟩ ⟨by omega, by omega⟩]; omega)]
    refine ⟨B.r, l_kinds B V hq hfu ?_⟩
    refine wB_of (btc_k _ _ _ _ _ _ _ _) ?_
    rw [iz_add, il1, iz_add]
    exact ih (a + 1) n' (by omega) (by omega)
theorem l_faults (B : LBD sh I R K A cap S ρ) (V : VB ρ) (hfu : 5000 ≤ fu) (hP : P (iz (faultS ρ)) sh I R) : wX11_faults K J fu sh I R (A 0) (qwI P) := by
  have hl := B.len
  have hn := V.n
  unfold wX11_faults
  exact l_fltL B V hfu hP S.length 0 fu (by omega) (by omega)
end LB
