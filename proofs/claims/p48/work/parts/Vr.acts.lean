/-! THE LAW, STAGE 2: an action of both, whole -/
theorem il30 : (30 : Int32) = iz 30 := iz_lit 30
section AC
variable {K J : Nat → Nat} {fu : Nat} {σ σ' : STT} {AD : Int → Nat} {A : Nat → Nat} {cap : Nat} {S S' : List Nat} {sh sh' : HS} {I I' : HI} {R R' : HR} {ρ ρ' : RHO} {P : Int32 → HS → HI → HR → Prop} {k q : Nat}
theorem l_acts87 {v : Int} {c a : Nat} {x y : Int} {s0 : Option Nat} (W : WLX K σ σ.2.1 AD A cap S sh I R) (hfu : 5000 ≤ fu) (hv : 0 ≤ v ∧ v ≤ 2147483647) (hc : (c : Int) < σ.2.1 3) (hcQ : v / 9 % σ.2.1 3 = c) (ha : a < 6) (hin : inS σ.2.1 c a = true) (hx : 0 ≤ x ∧ x ≤ 199) (hy : 0 ≤ y ∧ y ≤ 199) (hs : (S = [] ∧ s0 = none) ∨ (∃ q, S[(v / 9 % S.length).toNat]? = some q ∧ s0 = some q ∧ 0 < S.length))
    (hP : ∀ sh' I' R' σ' S', WLX K σ' σ'.2.1 AD A cap S' sh' I' R' → KP sh I sh' I' → P 1 sh' I' R') : wL_acts_b87 K J fu (qwI P) sh I R 0 0 (AD 0) (A 0) (iz v) (iz (v / 9)) (iz (S.length : Int)) (iz (c : Int)) (iz (a : Int)) (iz x) (iz y) s0 := by
  have hQ : 0 ≤ v / 9 ∧ v / 9 ≤ 2147483647 := by omega
  have h1 : 0 ≤ v % 9 ∧ v % 9 < 9 := by omega
  have hP1 : ∀ sh' I' R' σ', WLX K σ' σ'.2.1 AD A cap S sh' I' R' → KP sh I sh' I' → P 1 sh' I' R' := fun sh' I' R' σ' => hP sh' I' R' σ' S
  rcases (show v % 9 = 0 ∨ v % 9 = 1 ∨ v % 9 = 2 ∨ v % 9 = 3 ∨ v % 9 = 4 ∨ v % 9 = 5 ∨ v % 9 = 6 ∨ v % 9 = 7 ∨ v % 9 = 8 by omega) with h | h | h | h | h | h | h | h | h
  · exact ac_0 W hfu hv h hQ hP1
  · exact ac_1 W hfu hv h hQ hc hP1
  · exact ac_2 W hfu hv h hc ha hin hx hy hP1
  · exact ac_3 W hfu hv h hQ hx hy hs hP1
  · exact ac_4 W hfu hv h hQ hs hP1
  · exact ac_5 W hfu hv h hQ hs hP1
  · exact ac_6 W hfu hv h hQ hs hP
  · exact ac_7 W hfu hv h hQ hP
  · exact ac_8 W hfu hv h hQ hs hP1
theorem l_acts {v : Int} (W : WLX K σ σ.2.1 AD A cap S sh I R) (hfu : 5000 ≤ fu) (hv : 0 ≤ v ∧ v ≤ 2147483647)
    (hP : ∀ sh' I' R' σ' S', WLX K σ' σ'.2.1 AD A cap S' sh' I' R' → KP sh I sh' I' → P 1 sh' I' R') : wL_acts K J fu sh I R (AD 0) (A 0) (iz v) (qwI P) := by
  have B := W.2.2.1
  have V := W.2.2.2.2.2.1
  have n4 := V.n
  have m := V.m
  have hl := B.len
  unfold wL_acts
  refine wB_of (oD_l il9 hv.1 hv.2 (by decide) (by decide)) ?_
  refine wB_of (oR_at B.1.1.1 B.1.1.2.1) ?_
  refine ⟨rcv_k B.2.1.1, ⟨by decide, by decide⟩, l_size B.2.1 ?_⟩
  refine wB_of (oR_at B.1.1.1 B.1.1.2.2.1) ?_
  refine wB_of (oLn_n B.1.2.2.1.1 (by decide)) ?_
  have e3 : ((σ.2.1 3).toNat : Int) = σ.2.1 3 := by omega
  rw [e3]
  refine wB_of (oM_l rfl (by omega) (by omega) (by omega) (by omega)) ?_
  refine wB_of (oD_l il3 (by omega) (by omega) (by decide) (by decide)) ?_
  have hmod := Int.emod_lt_of_pos (v / 9) (show (0 : Int) < σ.2.1 3 by omega)
  have hmod0 := Int.emod_nonneg (v / 9) (show ¬ σ.2.1 3 = 0 by omega)
  obtain ⟨c, hc⟩ : ∃ c : Nat, v / 9 % σ.2.1 3 = (c : Int) := ⟨(v / 9 % σ.2.1 3).toNat, by omega⟩
  rw [hc]
  refine ⟨⟨by decide, by decide⟩, l_someActor B V hfu (by omega) ⟨by omega, by omega⟩ (fun b hb hin => ?_)⟩
  refine wB_of (oD_l il7 (by omega) (by omega) (by decide) (by decide)) ?_
  refine wB_of (oM_l il12 (by omega) (by omega) (by decide) (by decide)) ?_
  refine wB_of (oD_l il91 (by omega) (by omega) (by decide) (by decide)) ?_
  refine wB_of (oM_l il12 (by omega) (by omega) (by decide) (by decide)) ?_
  rw [il30, il10, iz_mul, iz_mul, iz_add, iz_add]
  have hx : 0 ≤ 30 + 10 * (v / 9 / 7 % 12) ∧ 30 + 10 * (v / 9 / 7 % 12) ≤ 199 := by omega
  have hy : 0 ≤ 30 + 10 * (v / 9 / 91 % 12) ∧ 30 + 10 * (v / 9 / 91 % 12) ≤ 199 := by omega
  generalize 30 + 10 * (v / 9 / 7 % 12) = x at *
  generalize 30 + 10 * (v / 9 / 91 % 12) = y at *
  by_cases c0 : S.length ≤ 0
  · rw [if_pos (by rw [ile rfl il0 (IRn (by omega)) ⟨by decide, by decide⟩]; omega)]
    exact l_acts87 W hfu hv (by omega) hc hb hin hx hy (Or.inl ⟨List.length_eq_zero_iff.mp (by omega), rfl⟩) hP
  · rw [if_neg (by rw [ile rfl il0 (IRn (by omega)) ⟨by decide, by decide⟩]; omega)]
    have hmd := Int.emod_lt_of_pos (v / 9) (show (0 : Int) < S.length by omega)
    have hmd0 := Int.emod_nonneg (v / 9) (show ¬ (S.length : Int) = 0 by omega)
    have hlt : (v / 9 % (S.length : Int)).toNat < S.length := by omega
    have hk := List.getElem?_eq_getElem hlt
    generalize S[(v / 9 % (S.length : Int)).toNat] = q at hk
    obtain ⟨k0, k1, hq⟩ := B.kk hk
    refine wB_of (oR_at B.1.1.1 B.1.1.2.1) ?_
    refine wB_of (oM_l rfl (by omega) (by omega) (by omega) (by omega)) ?_
    have ez : iz (v / 9 % (S.length : Int)) = iz (((v / 9 % (S.length : Int)).toNat : Nat) : Int) := by congr 1; omega
    rw [ez]
    refine ⟨rcv_k B.2.1.1, ⟨by decide, by decide⟩, l_get B.2.1 hk ?_⟩
    refine wB_of (oKt_1 hq) ?_
    exact l_acts87 W hfu hv (by omega) hc hb hin hx hy (Or.inr ⟨q, hk, rfl, by omega⟩) hP
end AC
