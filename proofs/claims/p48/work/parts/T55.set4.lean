/-! STAGE 2: the class fills its table of setups -/
def TR (R : HR) (AD : Int → Nat) : Prop := R (AD 6) 1 = some (AD 7) ∧ R (AD 6) 2 = some (AD 8) ∧ R (AD 6) 3 = some (AD 9) ∧ R (AD 6) 4 = some (AD 10) ∧ R (AD 6) 5 = some (AD 11) ∧ R (AD 6) 6 = some (AD 12) ∧ R (AD 6) 7 = some (AD 13) ∧ R (AD 6) 8 = some (AD 14) ∧ R (AD 6) 9 = some (AD 15)
/-- of the first a shots, those of the setup k, who is seen in them, how long they last; the setups of n shots -/
def qhG (ρ : RHO) (r : Int) (n k a : Nat) : Nat := mkS (fun t => decide (hG ρ r n t = k)) a
def acG (ρ : RHO) (r : Int) (n k : Nat) : Nat → Nat
  | 0 => 0
  | a + 1 => if hG ρ r n a = k then acG ρ r n k a ||| visS ρ a else acG ρ r n k a
def snG (ρ : RHO) (r : Int) (n k : Nat) : Nat → Int
  | 0 => 0
  | a + 1 => if hG ρ r n a = k then snG ρ r n k a + lnS ρ a else snG ρ r n k a
def WT (i : Int) (k : Nat) : Prop := (7 ≤ i ∧ i ≤ 13) ∨ (i = 6 ∧ k = 0)
/-- the table as it stands behind the loop over the setups, k of them done -/
def T1 (I : HI) (AD : Int → Nat) (ρ : RHO) (r : Int) (n k : Nat) : Prop := I (AD 6) 0 = iz (mG_ ρ r n : Int) ∧ CG I AD 7 8 ρ r n ∧ AR I AD 9 k (fun _ => 0) ∧ AR I AD 10 k (fun _ => 0) ∧ AR I AD 11 k (fun _ => 0) ∧ AR I AD 12 k (fun j => scS ρ (fG ρ r n j)) ∧ AR I AD 13 k (fun j => ltS ρ (scS ρ (fG ρ r n j)))
/-- the table with a shots entered -/
def T2 (I : HI) (AD : Int → Nat) (ρ : RHO) (r : Int) (n a : Nat) : Prop := I (AD 6) 0 = iz (mG_ ρ r n : Int) ∧ CG I AD 7 8 ρ r n ∧ AR I AD 9 (mG_ ρ r n) (fun k => (qhG ρ r n k a : Int)) ∧ AR I AD 10 (mG_ ρ r n) (fun k => (acG ρ r n k a : Int)) ∧ AR I AD 11 (mG_ ρ r n) (fun k => snG ρ r n k a) ∧ AR I AD 12 (mG_ ρ r n) (fun j => scS ρ (fG ρ r n j)) ∧ AR I AD 13 (mG_ ρ r n) (fun j => ltS ρ (scS ρ (fG ρ r n j)))
theorem vis_lt (ρ : RHO) (s : Int) : visS ρ s < 64 := mkS_lt _ 6
theorem ac_lt (ρ : RHO) (r : Int) (n k : Nat) : ∀ a, acG ρ r n k a < 64
  | 0 => by show 0 < 64; decide
  | a + 1 => by
    have h := ac_lt ρ r n k a
    unfold acG
    split
    · exact Nat.or_lt_two_pow (n := 6) h (vis_lt ρ a)
    · exact h
section C5
variable {fu : Nat} {sh : HS} {I : HI} {R : HR} {AD : Int → Nat} {ρ : RHO} {o : Int} {p : Int → Int}
theorem k12 {sh : HS} {AD : Int → Nat} (S : OKS sh AD) {i : Int} (h : 7 ≤ i) (h2 : i ≤ 15) : sh (AD i) = some (20, 12) := by
  have e : i = 7 ∨ i = 8 ∨ i = 9 ∨ i = 10 ∨ i = 11 ∨ i = 12 ∨ i = 13 ∨ i = 14 ∨ i = 15 := by omega
  rcases e with rfl | rfl | rfl | rfl | rfl | rfl | rfl | rfl | rfl <;> exact S.at rfl (by decide) (by decide)
theorem k6 {sh : HS} {AD : Int → Nat} (S : OKS sh AD) : sh (AD 6) = some (6, 10) := S.at rfl (by decide) (by decide)
theorem c_fill1 (S : OKS sh AD) (T : TR R AD) (V : VB ρ) {r : Int} (ho : 16 ≤ o) (k97 : HI → Nat → Nat → Option HI) : ∀ d n k : Nat, k + d = mG_ ρ r (ρ 4).toNat → d < n → ∀ I : HI, BA sh I R AD o p ρ → T1 I AD ρ r (ρ 4).toNat k →
    ∃ I', fX7_fill_l22 fu sh R k97 n I (AD 6) (AD o) (iz (k : Int)) = k97 I' (AD 6) (AD o) ∧ T1 I' AD ρ r (ρ 4).toNat (mG_ ρ r (ρ 4).toNat) ∧ FR AD I I' WT := by
  have hn := V.n
  have hm := V.m
  have ml := mG_le ρ r (ρ 4).toNat
  intro d
  induction d with
  | zero =>
    intro n k hk hn2 I B G
    obtain ⟨n, rfl⟩ : ∃ j, n = j + 1 := ⟨n - 1, by omega⟩
    have e : k = mG_ ρ r (ρ 4).toNat := by omega
    refine ⟨I, ?_, by rw [← e]; exact G, FR.rf _ _ _⟩
    show fX7_fill_b22 fu sh R (fX7_fill_l22 fu sh R k97 n) k97 _ _ _ _ = _
    simp only [fX7_fill_b22, oI_at (k6 S), G.1, bsome]
    rw [if_pos (by rw [iz_le (by omega) (by omega) (by omega) (by omega)]; omega)]
  | succ d ih =>
    intro n k hk hn2 I B G
    obtain ⟨n, rfl⟩ : ∃ j, n = j + 1 := ⟨n - 1, by omega⟩
    obtain ⟨g0, ⟨g1, g2⟩, g3, g4, g5, g6, g7⟩ := G
    have ob := B.2.1
    have fl := fG_lt ρ r (ρ 4).toNat k (by omega)
    obtain ⟨a1, -⟩ := V.shot (s := (fG ρ r (ρ 4).toNat k : Int)) (by omega) (by omega)
    have ek : iz (k : Int) + iz 1 = iz ((k + 1 : Nat) : Int) := by rw [iz_add]; rfl
    -- three zeros
    obtain ⟨J3, hJ3⟩ : ∃ J, J = u2 (u2 (u2 I (AD 9) k (iz 0)) (AD 10) k (iz 0)) (AD 11) k (iz 0) := ⟨_, rfl⟩
    have F3 : FR AD I J3 (fun i _ => 9 ≤ i ∧ i ≤ 11) := by
      rw [hJ3]
      exact FR.u2 S (by decide) (by decide) (by decide) (FR.u2 S (by decide) (by decide) (by decide) (FR.u2 S (by decide) (by decide) (by decide) (FR.rf AD I _)))
    have B3 := B.fr V F3 (fun i k z1 z2 z => by omega)
    obtain ⟨⟨u1, -⟩, u2', -⟩ := B3.1.2.2.2 (fG ρ r (ρ 4).toNat k : Int) (by omega) (by omega)
    obtain ⟨J4, hJ4⟩ : ∃ J, J = _root_.Jvm.Pilot.@@N@@.u2 J3 (AD 12) k (iz (scS ρ (fG ρ r (ρ 4).toNat k))) := ⟨_, rfl⟩
    have F4 : FR AD I J4 (fun i _ => 9 ≤ i ∧ i ≤ 12) := by
      rw [hJ4]
      exact FR.u2 S (by decide) (by decide) (by decide) (F3.wd (fun i _ z => by omega))
    have B4 := B.fr V F4 (fun i k z1 z2 z => by omega)
    obtain ⟨⟨w1, w2, w3, -⟩, -⟩ := B4.1.2.2.1 (scS ρ (fG ρ r (ρ 4).toNat k)) a1.1 a1.2
    have e4 : J4 (AD 12) k = iz (scS ρ (fG ρ r (ρ 4).toNat k)) := by
      rw [hJ4, u2_ad S (by decide) (by decide) (by decide) (by decide), if_pos ⟨rfl, rfl⟩]
    have e3 : J3 (AD 8) k = iz (fG ρ r (ρ 4).toNat k : Int) := (g1.fr F3 (by decide) (by decide) (fun _ z => by omega)) k (by omega)
    obtain ⟨J5, hJ5⟩ : ∃ J, J = _root_.Jvm.Pilot.@@N@@.u2 J4 (AD 13) k (iz (ltS ρ (scS ρ (fG ρ r (ρ 4).toNat k)))) := ⟨_, rfl⟩
    have F5 : FR AD I J5 WT := by
      rw [hJ5]
      exact FR.u2 S (by decide) (by decide) (Or.inl (by decide)) (F4.wd (fun i _ z => Or.inl (by omega)))
    have B5 := B.fr V F5 (fun i k z1 z2 z => by rcases z with z | z <;> omega)
    have F5' : FR AD I J5 (fun i _ => 9 ≤ i ∧ i ≤ 13) := by
      rw [hJ5]
      exact FR.u2 S (by decide) (by decide) (by decide) (F4.wd (fun i _ z => by omega))
    have G5 : T1 J5 AD ρ r (ρ 4).toNat (k + 1) := by
      refine ⟨?_, ⟨?_, ?_⟩, ?_, ?_, ?_, ?_, ?_⟩
      · rw [F5' 6 (by decide) (by decide) 0 (by omega)]; exact g0
      · exact g1.fr F5' (by decide) (by decide) (fun _ z => by omega)
      · exact g2.fr F5' (by decide) (by decide) (fun _ z => by omega)
      · intro t ht
        rw [hJ5, hJ4, hJ3]
        have q := ((((AR.put S (by decide) (by decide) g3 0 (n' := k + 1) (j := k) (fun t _ _ => by omega)).off S (by decide) (by decide) (i' := 10) (by decide) (by decide) (by decide) k (iz 0)).off S (by decide) (by decide) (i' := 11) (by decide) (by decide) (by decide) k (iz 0)).off S (by decide) (by decide) (i' := 12) (by decide) (by decide) (by decide) k (iz (scS ρ (fG ρ r (ρ 4).toNat k)))).off S (by decide) (by decide) (i' := 13) (by decide) (by decide) (by decide) k (iz (ltS ρ (scS ρ (fG ρ r (ρ 4).toNat k))))
        rw [q t ht]
        unfold up
        split <;> rfl
      · intro t ht
        rw [hJ5, hJ4, hJ3]
        have q := (((AR.put S (by decide) (by decide) (g4.off S (by decide) (by decide) (i' := 9) (by decide) (by decide) (by decide) k (iz 0)) 0 (n' := k + 1) (j := k) (fun t _ _ => by omega)).off S (by decide) (by decide) (i' := 11) (by decide) (by decide) (by decide) k (iz 0)).off S (by decide) (by decide) (i' := 12) (by decide) (by decide) (by decide) k (iz (scS ρ (fG ρ r (ρ 4).toNat k)))).off S (by decide) (by decide) (i' := 13) (by decide) (by decide) (by decide) k (iz (ltS ρ (scS ρ (fG ρ r (ρ 4).toNat k))))
        rw [q t ht]
        unfold up
        split <;> rfl
      · intro t ht
        rw [hJ5, hJ4, hJ3]
        have q := ((AR.put S (by decide) (by decide) ((g5.off S (by decide) (by decide) (i' := 9) (by decide) (by decide) (by decide) k (iz 0)).off S (by decide) (by decide) (i' := 10) (by decide) (by decide) (by decide) k (iz 0)) 0 (n' := k + 1) (j := k) (fun t _ _ => by omega)).off S (by decide) (by decide) (i' := 12) (by decide) (by decide) (by decide) k (iz (scS ρ (fG ρ r (ρ 4).toNat k)))).off S (by decide) (by decide) (i' := 13) (by decide) (by decide) (by decide) k (iz (ltS ρ (scS ρ (fG ρ r (ρ 4).toNat k))))
        rw [q t ht]
        unfold up
        split <;> rfl
      · intro t ht
        rw [hJ5, hJ4]
        have q := (AR.put S (by decide) (by decide) (g6.fr F3 (by decide) (by decide) (fun _ z => by omega)) (scS ρ (fG ρ r (ρ 4).toNat k)) (n' := k + 1) (j := k) (fun t _ _ => by omega)).off S (by decide) (by decide) (i' := 13) (by decide) (by decide) (by decide) k (iz (ltS ρ (scS ρ (fG ρ r (ρ 4).toNat k))))
        rw [q t ht]
        unfold up
        split
        · rename_i z; rw [z]
        · rfl
      · intro t ht
        rw [hJ5]
        have q := AR.put S (by decide) (by decide) (g7.fr F4 (by decide) (by decide) (fun _ z => by omega)) (ltS ρ (scS ρ (fG ρ r (ρ 4).toNat k))) (n' := k + 1) (j := k) (fun t _ _ => by omega)
        rw [q t ht]
        unfold up
        split
        · rename_i z; rw [z]
        · rfl
    obtain ⟨I', e, G', F'⟩ := ih n (k + 1) (by omega) (by omega) J5 B5 G5
    refine ⟨I', ?_, G', F5.tr F'⟩
    rw [← e]
    show fX7_fill_b22 fu sh R (fX7_fill_l22 fu sh R k97 n) k97 _ _ _ _ = _
    have hz : ¬ iz (mG_ ρ r (ρ 4).toNat : Int) ≤ iz (k : Int) := by rw [iz_le (by omega) (by omega) (by omega) (by omega)]; omega
    simp only [fX7_fill_b22, oI_at (k6 S), g0, bsome, if_neg hz, iz_lit, oR_at (k6 S) T.2.1, oR_at (k6 S) T.2.2.1, oR_at (k6 S) T.2.2.2.1, oR_at (k6 S) T.2.2.2.2.1, oR_at (k6 S) T.2.2.2.2.2.1, oR_at (k6 S) T.2.2.2.2.2.2.1, oS_nat (k12 S (i := 9) (by decide) (by decide)) (show k < 12 by omega) (by decide), oS_nat (k12 S (i := 10) (by decide) (by decide)) (show k < 12 by omega) (by decide), oS_nat (k12 S (i := 11) (by decide) (by decide)) (show k < 12 by omega) (by decide), oS_nat (k12 S (i := 12) (by decide) (by decide)) (show k < 12 by omega) (by decide), oS_nat (k12 S (i := 13) (by decide) (by decide)) (show k < 12 by omega) (by decide), oA_nat (k12 S (i := 8) (by decide) (by decide)) (show k < 12 by omega) (by decide), oA_nat (k12 S (i := 12) (by decide) (by decide)) (show k < 12 by omega) (by decide), B.1.1.2.1, B.1.1.2.2]
    rw [← hJ3, e3, u1, bsome, u2', bsome, ← hJ4, e4, w1, bsome, w3, bsome, ← hJ5, ek]
end C5
