/-! STAGE 2: actors, lengths and costs of setups, on both sides -/
def dfS (m n : Nat) : Nat := m &&& (63 ^^^ n)
theorem df_B : ((List.range 64).all fun m => (List.range 64).all fun n => decide (iz (m : Int) &&& (iz (n : Int) ^^^ iz (-1)) = iz (dfS m n : Int)) && decide (dfS m n < 64)) = true := by decide +kernel
theorem df_ok {m n : Nat} (hm : m < 64) (hn : n < 64) : iz (m : Int) &&& (iz (n : Int) ^^^ iz (-1)) = iz (dfS m n : Int) ∧ dfS m n < 64 := by
  have h := List.all_eq_true.mp (List.all_eq_true.mp df_B m (List.mem_range.mpr hm)) n (List.mem_range.mpr hn)
  rw [Bool.and_eq_true] at h
  exact ⟨of_decide_eq_true h.1, of_decide_eq_true h.2⟩
/-- the scene and the light of a setup; who is seen in it -/
def gsS (ρ : RHO) (r : Int) (k : Nat) : Int := scS ρ (fG ρ r (ρ 4).toNat k)
def glS (ρ : RHO) (r : Int) (k : Nat) : Int := ltS ρ (gsS ρ r k)
def gaS (ρ : RHO) (r : Int) (k : Nat) : Nat := acG ρ r (ρ 4).toNat k (ρ 4).toNat
def gnS (ρ : RHO) (r : Int) (k : Nat) : Int := snG ρ r (ρ 4).toNat k (ρ 4).toNat
def stS (ρ : RHO) (r : Int) (k : Nat) : Int := 2 * szS (gaS ρ r k)
def chS (ρ : RHO) (r : Int) (i j : Nat) : Int := (if gsS ρ r i = gsS ρ r j then 0 else 9) + 4 * ab (glS ρ r i - glS ρ r j) + 2 * szS (dfS (gaS ρ r j) (gaS ρ r i))
/-- the sum of the lengths of a set of shots -/
def lnM (ρ : RHO) (q : Nat) : Nat → Int
  | 0 => 0
  | a + 1 => lnM ρ q a + (if q.testBit a = true then lnS ρ a else 0)
section C7
variable {fu : Nat} {sh : HS} {I : HI} {R : HR} {AD : Int → Nat} {ρ : RHO}
theorem gs_range (V : VB ρ) {r : Int} {k : Nat} (hk : k < mG_ ρ r (ρ 4).toNat) : 0 ≤ gsS ρ r k ∧ gsS ρ r k < ρ 3 := by
  have hn := V.n
  have fl := fG_lt ρ r (ρ 4).toNat k hk
  exact (V.shot (s := (fG ρ r (ρ 4).toNat k : Int)) (by omega) (by omega)).1
theorem gl_range (V : VB ρ) {r : Int} {k : Nat} (hk : k < mG_ ρ r (ρ 4).toNat) : 0 ≤ glS ρ r k ∧ glS ρ r k ≤ 3 := by
  have g := gs_range V hk
  exact (V.scene g.1 g.2).1
theorem c_start (S : OKS sh AD) (T : TR R AD) (V : VB ρ) {r : Int} (G : T2 I AD ρ r (ρ 4).toNat (ρ 4).toNat) {k : Nat} (hk : k < mG_ ρ r (ρ 4).toNat) : fX7_costOfStart fu sh I R (AD 6) (iz (k : Int)) = some (iz (stS ρ r k)) := by
  have hn := V.n
  have ml := mG_le ρ r (ρ 4).toNat
  have e : I (AD 10) k = iz (gaS ρ r k : Int) := G.2.2.2.1 k hk
  have al : gaS ρ r k < 64 := ac_lt ρ r (ρ 4).toNat k (ρ 4).toNat
  simp only [fX7_costOfStart, if_pos (isT_of (k6 S)), oR_at (k6 S) T.2.2.2.1, bsome, oA_nat (k12 S (i := 10) (by decide) (by decide)) (show k < 12 by omega) (by decide), e, c_bc al, iz_lit, iz_mul]
  rfl
theorem c_change (S : OKS sh AD) (T : TR R AD) (V : VB ρ) {r : Int} (G : T2 I AD ρ r (ρ 4).toNat (ρ 4).toNat) {i j : Nat} (hi : i < mG_ ρ r (ρ 4).toNat) (hj : j < mG_ ρ r (ρ 4).toNat) : fX7_costOfChange fu sh I R (AD 6) (iz (i : Int)) (iz (j : Int)) = some (iz (chS ρ r i j)) := by
  have hn := V.n
  have hm := V.m
  have ml := mG_le ρ r (ρ 4).toNat
  have s1 := gs_range V hi
  have s2 := gs_range V hj
  have l1 := gl_range V hi
  have l2 := gl_range V hj
  have a1 : gaS ρ r i < 64 := ac_lt ρ r (ρ 4).toNat i (ρ 4).toNat
  have a2 : gaS ρ r j < 64 := ac_lt ρ r (ρ 4).toNat j (ρ 4).toNat
  have df := df_ok a2 a1
  have e1 : I (AD 12) i = iz (gsS ρ r i) := G.2.2.2.2.2.1 i hi
  have e2 : I (AD 12) j = iz (gsS ρ r j) := G.2.2.2.2.2.1 j hj
  have e3 : I (AD 13) i = iz (glS ρ r i) := G.2.2.2.2.2.2 i hi
  have e4 : I (AD 13) j = iz (glS ρ r j) := G.2.2.2.2.2.2 j hj
  have e5 : I (AD 10) i = iz (gaS ρ r i : Int) := G.2.2.2.1 i hi
  have e6 : I (AD 10) j = iz (gaS ρ r j : Int) := G.2.2.2.1 j hj
  have hx : iAbs (iz (glS ρ r i - glS ρ r j)) = iz (ab (glS ρ r i - glS ρ r j)) := by
    rw [iAbs_iz (by omega) (by omega)]
    rfl
  simp only [fX7_costOfChange, fX7_costOfChange_b21, if_pos (isT_of (k6 S)), oR_at (k6 S) T.2.2.2.1, oR_at (k6 S) T.2.2.2.2.2.1, oR_at (k6 S) T.2.2.2.2.2.2.1, bsome, oA_nat (k12 S (i := 10) (by decide) (by decide)) (show i < 12 by omega) (by decide), oA_nat (k12 S (i := 10) (by decide) (by decide)) (show j < 12 by omega) (by decide), oA_nat (k12 S (i := 12) (by decide) (by decide)) (show i < 12 by omega) (by decide), oA_nat (k12 S (i := 12) (by decide) (by decide)) (show j < 12 by omega) (by decide), oA_nat (k12 S (i := 13) (by decide) (by decide)) (show i < 12 by omega) (by decide), oA_nat (k12 S (i := 13) (by decide) (by decide)) (show j < 12 by omega) (by decide), e1, e2, e3, e4, e5, e6, iz_lit, iz_neg, df.1, c_bc df.2, iz_sub, hx, iz_mul, iz_add]
  simp (disch := omega) only [iz_eq]
  unfold chS
  by_cases z : gsS ρ r i = gsS ρ r j
  · rw [if_pos z, if_pos z]
  · rw [if_neg z, if_neg z]
end C7
