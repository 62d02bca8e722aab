/-! STAGE 2: actors, lengths and costs of setups, on both sides -/
def dfS (m n : Nat) : Nat := m &&& (63 ^^^ n)
theorem df_B : ((List.range 64).all fun m => (List.range 64).all fun n => decide (iz (m : Int) &&& (iz (n : Int) ^^^ iz (-1)) = iz (dfS m n : Int)) && decide (dfS m n < 64)) = true := by decide +kernel
theorem df_ok {m n : Nat} (hm : m < 64) (hn : n < 64) : iz (m : Int) &&& (iz (n : Int) ^^^ iz (-1)) = iz (dfS m n : Int) ∧ dfS m n < 64 := by
  have h := List.all_eq_true.mp (List.all_eq_true.mp df_B m (List.mem_range.mpr hm)) n (List.mem_range.mpr hn)
  rw [Bool.and_eq_true] at h
  exact ⟨of_decide_eq_true h.1, of_decide_eq_true h.2⟩
theorem bt_range (m k : Nat) : 0 ≤ bt m k ∧ bt m k ≤ 1 := by
  unfold bt
  split <;> omega
theorem sz_range (m : Nat) : 0 ≤ szS m ∧ szS m ≤ 12 := by
  have h := smS_range (f := fun j => bt m j.toNat) (b := 1) (by decide) (fun j _ => bt_range m j.toNat) 12
  unfold szS
  omega
/-- the scene and the light of a setup; who is seen in it -/
def gsS (ρ : RHO) (r : Int) (k : Nat) : Int := scS ρ (fG ρ r (ρ 4).toNat k)
def glS (ρ : RHO) (r : Int) (k : Nat) : Int := ltS ρ (gsS ρ r k)
def gaS (ρ : RHO) (r : Int) (k : Nat) : Nat := acG ρ r (ρ 4).toNat k (ρ 4).toNat
def gnS (ρ : RHO) (r : Int) (k : Nat) : Int := snG ρ r (ρ 4).toNat k (ρ 4).toNat
def stS (ρ : RHO) (r : Int) (k : Nat) : Int := 2 * szS (gaS ρ r k)
def chS (ρ : RHO) (r : Int) (i j : Nat) : Int := (if gsS ρ r i = gsS ρ r j then 0 else 9) + 4 * ab (glS ρ r i - glS ρ r j) + 2 * szS (dfS (gaS ρ r j) (gaS ρ r i))
/-- the sum of the lengths of a set of shots -/
def lnM (ρ : RHO) (q : Nat) : Nat → Int
  | 0 => 0
  | a + 1 => lnM ρ q a + (if q.testBit a = true then lnS ρ a else 0)
theorem lnM_range {ρ : RHO} (V : VB ρ) (q : Nat) : ∀ a : Nat, (a : Int) ≤ ρ 4 → 0 ≤ lnM ρ q a ∧ lnM ρ q a ≤ 99 * a
  | 0, _ => by simp [lnM]
  | a + 1, h => by
    have z := lnM_range V q a (by omega)
    obtain ⟨-, -, -, -, -, -, a7, -⟩ := V.shot (s := (a : Int)) (by omega) (by omega)
    unfold lnM
    split <;> omega
theorem lnM_sn (ρ : RHO) (r : Int) (n k : Nat) : ∀ a : Nat, a ≤ n → lnM ρ (qhG ρ r n k n) a = snG ρ r n k a
  | 0, _ => rfl
  | a + 1, h => by
    unfold lnM snG
    rw [lnM_sn ρ r n k a (by omega)]
    have e : (qhG ρ r n k n).testBit a = decide (hG ρ r n a = k) := by
      unfold qhG
      rw [mkS_bit, decide_eq_true (show a < n by omega), Bool.true_and]
    rw [e]
    by_cases z : hG ρ r n a = k
    · rw [decide_eq_true z, if_pos rfl, if_pos z]
    · rw [decide_eq_false z, if_neg (by decide), if_neg z, Int.add_zero]
section C7
variable {fu : Nat} {sh : HS} {I : HI} {R : HR} {AD : Int → Nat} {ρ : RHO}
theorem r_act_loop (S : OKS sh AD) (M : MR R AD) (H : RW I AD ρ) (V : VB ρ) (hfu : 5000 ≤ fu) {r : Int} (G : SG I AD ρ r (ρ 4).toNat) {k : Nat} (hk : k < mG_ ρ r (ρ 4).toNat) : ∀ d n a : Nat, a + d = (ρ 4).toNat → d < n →
    fX11_actorsIn_l4 fu sh I R n (AD 316) (iz (k : Int)) (iz (acG ρ r (ρ 4).toNat k a : Int)) (iz (a : Int)) = some (iz (gaS ρ r k : Int)) := by
  have hn := V.n
  have ml := mG_le ρ r (ρ 4).toNat
  intro d
  induction d with
  | zero =>
    intro n a ha hn2
    obtain ⟨n, rfl⟩ : ∃ j, n = j + 1 := ⟨n - 1, by omega⟩
    have e : a = (ρ 4).toNat := by omega
    subst e
    show fX11_actorsIn_b4 fu sh I R (fX11_actorsIn_l4 fu sh I R n) _ _ _ _ = _
    simp only [fX11_actorsIn_b4, oR_at S.md M.1.1, bsome, iz_lit, r_row S M H (by decide : (0 : Int) ≤ 4) (by decide : (4 : Int) < 119)]
    rw [if_pos (by rw [iz_le (by omega) (by omega) (by omega) (by omega)]; omega)]
    rfl
  | succ d ih =>
    intro n a ha hn2
    obtain ⟨n, rfl⟩ : ∃ j, n = j + 1 := ⟨n - 1, by omega⟩
    have q := ih n (a + 1) (by omega) (by omega)
    have ek : iz (a : Int) + iz 1 = iz ((a + 1 : Nat) : Int) := by rw [iz_add]; rfl
    have eq1 : I (AD 326) k = iz (qhG ρ r (ρ 4).toNat k (ρ 4).toNat : Int) := G.2.2.1 k hk
    have ql := qh_lt ρ r (ρ 4).toNat k (ρ 4).toNat (by omega)
    have eb : (qhG ρ r (ρ 4).toNat k (ρ 4).toNat).testBit a = decide (hG ρ r (ρ 4).toNat a = k) := by
      unfold qhG
      rw [mkS_bit, decide_eq_true (show a < (ρ 4).toNat by omega), Bool.true_and]
    have hz : ¬ iz (ρ 4) ≤ iz (a : Int) := by rw [iz_le (by omega) (by omega) (by omega) (by omega)]; omega
    show fX11_actorsIn_b4 fu sh I R (fX11_actorsIn_l4 fu sh I R n) _ _ _ _ = _
    simp only [fX11_actorsIn_b4, fX11_actorsIn_b37, oR_at S.md M.1.1, oR_at S.md M.2.2.2.1, bsome, iz_lit, r_row S M H (by decide : (0 : Int) ≤ 4) (by decide : (4 : Int) < 119), if_neg hz, oA_nat (S.at (i := 326) (t := 20) (n := 12) rfl (by decide) (by decide)) (show k < 12 by omega) (by decide), eq1, r_has (show qhG ρ r (ρ 4).toNat k (ρ 4).toNat < 2147483648 by omega) (show a < 32 by omega), eb, bz_zero, r_visible S M H V hfu (show 0 ≤ (a : Int) by omega) (show (a : Int) < ρ 4 by omega), iz_orN, iz_or0, ek]
    have e : acG ρ r (ρ 4).toNat k (a + 1) = if hG ρ r (ρ 4).toNat a = k then acG ρ r (ρ 4).toNat k a ||| visS ρ a else acG ρ r (ρ 4).toNat k a := rfl
    rw [e] at q
    by_cases z : hG ρ r (ρ 4).toNat a = k
    · rw [decide_eq_true z, if_neg (by decide)]
      rw [if_pos z] at q
      exact q
    · rw [decide_eq_false z, if_pos rfl]
      rw [if_neg z] at q
      exact q
theorem r_actors (S : OKS sh AD) (M : MR R AD) (H : RW I AD ρ) (V : VB ρ) (hfu : 5000 ≤ fu) {r : Int} (G : SG I AD ρ r (ρ 4).toNat) {k : Nat} (hk : k < mG_ ρ r (ρ 4).toNat) : fX11_actorsIn fu sh I R (AD 316) (iz (k : Int)) = some (iz (gaS ρ r k : Int)) := by
  have hn := V.n
  have q := r_act_loop (fu := fu) S M H V hfu G hk (ρ 4).toNat fu 0 (by omega) (by omega)
  simp only [fX11_actorsIn, if_pos S.i, iz_lit]
  exact q
theorem r_len_loop (S : OKS sh AD) (M : MR R AD) (H : RW I AD ρ) (V : VB ρ) {q : Nat} (hq : q < 2147483648) : ∀ d n a : Nat, a + d = (ρ 4).toNat → d < n →
    fX11_lengthOf_l4 fu sh I R n (AD 316) (iz (q : Int)) (iz (lnM ρ q a)) (iz (a : Int)) = some (iz (lnM ρ q (ρ 4).toNat)) := by
  have hn := V.n
  intro d
  induction d with
  | zero =>
    intro n a ha hn2
    obtain ⟨n, rfl⟩ : ∃ j, n = j + 1 := ⟨n - 1, by omega⟩
    have e : a = (ρ 4).toNat := by omega
    subst e
    show fX11_lengthOf_b4 fu sh I R (fX11_lengthOf_l4 fu sh I R n) _ _ _ _ = _
    simp only [fX11_lengthOf_b4, oR_at S.md M.1.1, bsome, iz_lit, r_row S M H (by decide : (0 : Int) ≤ 4) (by decide : (4 : Int) < 119)]
    rw [if_pos (by rw [iz_le (by omega) (by omega) (by omega) (by omega)]; omega)]
  | succ d ih =>
    intro n a ha hn2
    obtain ⟨n, rfl⟩ : ∃ j, n = j + 1 := ⟨n - 1, by omega⟩
    have k := ih n (a + 1) (by omega) (by omega)
    have ek : iz (a : Int) + iz 1 = iz ((a + 1 : Nat) : Int) := by rw [iz_add]; rfl
    have hz : ¬ iz (ρ 4) ≤ iz (a : Int) := by rw [iz_le (by omega) (by omega) (by omega) (by omega)]; omega
    obtain ⟨-, -, -, -, -, g5⟩ := r_g (fu := fu) S M H V (s := (a : Int)) (by omega) (by omega)
    show fX11_lengthOf_b4 fu sh I R (fX11_lengthOf_l4 fu sh I R n) _ _ _ _ = _
    simp only [fX11_lengthOf_b4, fX11_lengthOf_b33, oR_at S.md M.1.1, bsome, iz_lit, r_row S M H (by decide : (0 : Int) ≤ 4) (by decide : (4 : Int) < 119), if_neg hz, r_has hq (show a < 32 by omega), bz_zero, g5, ek, iz_add]
    have e : lnM ρ q (a + 1) = lnM ρ q a + (if q.testBit a = true then lnS ρ a else 0) := rfl
    rw [e] at k
    cases h : q.testBit a
    · rw [h, if_neg (by decide)] at k
      rw [if_pos rfl]
      exact k
    · rw [h, if_pos rfl] at k
      rw [if_neg (by decide)]
      exact k
theorem r_length (S : OKS sh AD) (M : MR R AD) (H : RW I AD ρ) (V : VB ρ) (hfu : 5000 ≤ fu) {q : Nat} (hq : q < 2147483648) : fX11_lengthOf fu sh I R (AD 316) (iz (q : Int)) = some (iz (lnM ρ q (ρ 4).toNat)) := by
  have hn := V.n
  have k := r_len_loop (fu := fu) S M H V hq (ρ 4).toNat fu 0 (by omega) (by omega)
  simp only [fX11_lengthOf, if_pos S.i, iz_lit]
  exact k
theorem gs_range (V : VB ρ) {r : Int} {k : Nat} (hk : k < mG_ ρ r (ρ 4).toNat) : 0 ≤ gsS ρ r k ∧ gsS ρ r k < ρ 3 := by
  have hn := V.n
  have fl := fG_lt ρ r (ρ 4).toNat k hk
  exact (V.shot (s := (fG ρ r (ρ 4).toNat k : Int)) (by omega) (by omega)).1
theorem gl_range (V : VB ρ) {r : Int} {k : Nat} (hk : k < mG_ ρ r (ρ 4).toNat) : 0 ≤ glS ρ r k ∧ glS ρ r k ≤ 3 := by
  have g := gs_range V hk
  exact (V.scene g.1 g.2).1
theorem ch_range (V : VB ρ) {r : Int} {i j : Nat} (hi : i < mG_ ρ r (ρ 4).toNat) (hj : j < mG_ ρ r (ρ 4).toNat) : 0 ≤ chS ρ r i j ∧ chS ρ r i j ≤ 45 := by
  have a := gl_range V hi
  have b := gl_range V hj
  have c := ab_range (a := glS ρ r i - glS ρ r j) (b := 3) (by omega) (by omega)
  have d := sz_range (dfS (gaS ρ r j) (gaS ρ r i))
  unfold chS
  split <;> omega
theorem st_range (ρ : RHO) (r : Int) (k : Nat) : 0 ≤ stS ρ r k ∧ stS ρ r k ≤ 24 := by
  have d := sz_range (gaS ρ r k)
  unfold stS
  omega
theorem r_change0 (S : OKS sh AD) (M : MR R AD) (H : RW I AD ρ) (V : VB ρ) (hfu : 5000 ≤ fu) {r : Int} (G : SG I AD ρ r (ρ 4).toNat) {k : Nat} (hk : k < mG_ ρ r (ρ 4).toNat) : fX11_changeOf fu sh I R (AD 316) (iz (-1)) (iz (k : Int)) = some (iz (stS ρ r k)) := by
  have al := ac_lt ρ r (ρ 4).toNat k (ρ 4).toNat
  simp only [fX11_changeOf, if_pos S.i, iz_lit, iz_neg, if_true, r_actors S M H V hfu G hk, bsome]
  rw [r_sizeOf hfu (show gaS ρ r k < 2147483648 by unfold gaS; omega), bsome, iz_mul]
  rfl
theorem r_change (S : OKS sh AD) (M : MR R AD) (H : RW I AD ρ) (V : VB ρ) (hfu : 5000 ≤ fu) {r : Int} (G : SG I AD ρ r (ρ 4).toNat) {i j : Nat} (hi : i < mG_ ρ r (ρ 4).toNat) (hj : j < mG_ ρ r (ρ 4).toNat) : fX11_changeOf fu sh I R (AD 316) (iz (i : Int)) (iz (j : Int)) = some (iz (chS ρ r i j)) := by
  have hn := V.n
  have hm := V.m
  have ml := mG_le ρ r (ρ 4).toNat
  have f1 := fG_lt ρ r (ρ 4).toNat i hi
  have f2 := fG_lt ρ r (ρ 4).toNat j hj
  have s1 := gs_range V hi
  have s2 := gs_range V hj
  have l1 := gl_range V hi
  have l2 := gl_range V hj
  have x := ab_range (a := glS ρ r i - glS ρ r j) (b := 3) (by omega) (by omega)
  have a1 : gaS ρ r i < 64 := ac_lt ρ r (ρ 4).toNat i (ρ 4).toNat
  have a2 : gaS ρ r j < 64 := ac_lt ρ r (ρ 4).toNat j (ρ 4).toNat
  have df := df_ok a2 a1
  have e1 : I (AD 325) i = iz (fG ρ r (ρ 4).toNat i : Int) := G.2.1 i hi
  have e2 : I (AD 325) j = iz (fG ρ r (ρ 4).toNat j : Int) := G.2.1 j hj
  have h76 : ∀ y z : Int, fX11_changeOf_b76 fu sh I R (AD 316) (iz (i : Int)) (iz (j : Int)) (iz y) (iz z) = some (iz (z + 4 * y + 2 * szS (dfS (gaS ρ r j) (gaS ρ r i)))) := by
    intro y z
    simp only [fX11_changeOf_b76, r_actors S M H V hfu G hi, r_actors S M H V hfu G hj, bsome, iz_lit, iz_neg, df.1]
    rw [r_sizeOf hfu (by omega), bsome, iz_mul, iz_mul, iz_add, iz_add]
  have n1 : ¬ iz (i : Int) = iz (-1) := by rw [iz_eq (by omega) (by omega) (by decide) (by decide)]; omega
  simp only [fX11_changeOf, if_pos S.i, iz_lit, iz_neg, if_neg n1, oR_at S.md M.2.2.1, oR_at S.md M.1.1, bsome, oA_nat (S.at (i := 325) (t := 20) (n := 12) rfl (by decide) (by decide)) (show i < 12 by omega) (by decide), oA_nat (S.at (i := 325) (t := 20) (n := 12) rfl (by decide) (by decide)) (show j < 12 by omega) (by decide), e1, e2, r_sceneOf S M H (show 0 ≤ (fG ρ r (ρ 4).toNat i : Int) by omega) (by omega), r_sceneOf S M H (show 0 ≤ (fG ρ r (ρ 4).toNat j : Int) by omega) (by omega), fX11_sceneAt, iz_mul, iz_add, h76]
  rw [show scS ρ (fG ρ r (ρ 4).toNat i : Int) = gsS ρ r i from rfl, show scS ρ (fG ρ r (ρ 4).toNat j : Int) = gsS ρ r j from rfl, r_row S M H (by omega) (by omega), bsome, r_row S M H (by omega) (by omega), bsome, iz_sub, r_size (by rw [show ρ (5 + 14 * gsS ρ r i) = glS ρ r i from rfl, show ρ (5 + 14 * gsS ρ r j) = glS ρ r j from rfl]; omega) (by rw [show ρ (5 + 14 * gsS ρ r i) = glS ρ r i from rfl, show ρ (5 + 14 * gsS ρ r j) = glS ρ r j from rfl]; omega), bsome, h76, h76]
  simp (disch := omega) only [iz_eq]
  unfold chS
  by_cases z : gsS ρ r i = gsS ρ r j
  · rw [if_pos z, if_pos z]; rfl
  · rw [if_neg z, if_neg z]; rfl
theorem c_start (S : OKS sh AD) (T : TR R AD) (V : VB ρ) {r : Int} (G : T2 I AD ρ r (ρ 4).toNat (ρ 4).toNat) {k : Nat} (hk : k < mG_ ρ r (ρ 4).toNat) : fX7_costOfStart fu sh I R (AD 6) (iz (k : Int)) = some (iz (stS ρ r k)) := by
  have hn := V.n
  have ml := mG_le ρ r (ρ 4).toNat
  have e : I (AD 10) k = iz (gaS ρ r k : Int) := G.2.2.2.1 k hk
  have al : gaS ρ r k < 64 := ac_lt ρ r (ρ 4).toNat k (ρ 4).toNat
  simp only [fX7_costOfStart, if_pos (isT_of (k6 S)), oR_at (k6 S) T.2.2.2.1, bsome, oA_nat (k12 S (i := 10) (by decide) (by decide)) (show k < 12 by omega) (by decide), e, c_bc al, iz_lit, iz_mul]
  rfl
theorem c_change (S : OKS sh AD) (T : TR R AD) (V : VB ρ) {r : Int} (G : T2 I AD ρ r (ρ 4).toNat (ρ 4).toNat) {i j : Nat} (hi : i < mG_ ρ r (ρ 4).toNat) (hj : j < mG_ ρ r (ρ 4).toNat) : fX7_costOfChange fu sh I R (AD 6) (iz (i : Int)) (iz (j : Int)) = some (iz (chS ρ r i j)) := by
  have hn := V.n
  have hm := V.m
  have ml := mG_le ρ r (ρ 4).toNat
  have s1 := gs_range V hi
  have s2 := gs_range V hj
  have l1 := gl_range V hi
  have l2 := gl_range V hj
  have a1 : gaS ρ r i < 64 := ac_lt ρ r (ρ 4).toNat i (ρ 4).toNat
  have a2 : gaS ρ r j < 64 := ac_lt ρ r (ρ 4).toNat j (ρ 4).toNat
  have df := df_ok a2 a1
  have e1 : I (AD 12) i = iz (gsS ρ r i) := G.2.2.2.2.2.1 i hi
  have e2 : I (AD 12) j = iz (gsS ρ r j) := G.2.2.2.2.2.1 j hj
  have e3 : I (AD 13) i = iz (glS ρ r i) := G.2.2.2.2.2.2 i hi
  have e4 : I (AD 13) j = iz (glS ρ r j) := G.2.2.2.2.2.2 j hj
  have e5 : I (AD 10) i = iz (gaS ρ r i : Int) := G.2.2.2.1 i hi
  have e6 : I (AD 10) j = iz (gaS ρ r j : Int) := G.2.2.2.1 j hj
  have hx : iAbs (iz (glS ρ r i - glS ρ r j)) = iz (ab (glS ρ r i - glS ρ r j)) := by
    rw [iAbs_iz (by omega) (by omega)]
    rfl
  simp only [fX7_costOfChange, fX7_costOfChange_b21, if_pos (isT_of (k6 S)), oR_at (k6 S) T.2.2.2.1, oR_at (k6 S) T.2.2.2.2.2.1, oR_at (k6 S) T.2.2.2.2.2.2.1, bsome, oA_nat (k12 S (i := 10) (by decide) (by decide)) (show i < 12 by omega) (by decide), oA_nat (k12 S (i := 10) (by decide) (by decide)) (show j < 12 by omega) (by decide), oA_nat (k12 S (i := 12) (by decide) (by decide)) (show i < 12 by omega) (by decide), oA_nat (k12 S (i := 12) (by decide) (by decide)) (show j < 12 by omega) (by decide), oA_nat (k12 S (i := 13) (by decide) (by decide)) (show i < 12 by omega) (by decide), oA_nat (k12 S (i := 13) (by decide) (by decide)) (show j < 12 by omega) (by decide), e1, e2, e3, e4, e5, e6, iz_lit, iz_neg, df.1, c_bc df.2, iz_sub, hx, iz_mul, iz_add]
  simp (disch := omega) only [iz_eq]
  unfold chS
  by_cases z : gsS ρ r i = gsS ρ r j
  · rw [if_pos z, if_pos z]
  · rw [if_neg z, if_neg z]
end C7
