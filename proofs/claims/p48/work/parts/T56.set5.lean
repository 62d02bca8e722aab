/-! STAGE 2: the class fills its table of setups, the whole; the reference's actors and lengths of setups -/
section C6
variable {fu : Nat} {sh : HS} {I : HI} {R : HR} {AD : Int → Nat} {ρ : RHO} {o : Int} {p : Int → Int}
theorem c_fill2 (S : OKS sh AD) (T : TR R AD) (V : VB ρ) (hfu : 5000 ≤ fu) {r : Int} (ho : 16 ≤ o) : ∀ d n a : Nat, a + d = (ρ 4).toNat → d < n → ∀ I : HI, BA sh I R AD o p ρ → T2 I AD ρ r (ρ 4).toNat a →
    ∃ I', fX7_fill_l99 fu sh R n I (AD 6) (AD o) (iz (a : Int)) = some I' ∧ T2 I' AD ρ r (ρ 4).toNat (ρ 4).toNat ∧ FR AD I I' WT := by
  have hn := V.n
  have ml := mG_le ρ r (ρ 4).toNat
  intro d
  induction d with
  | zero =>
    intro n a ha hn2 I B G
    obtain ⟨n, rfl⟩ : ∃ j, n = j + 1 := ⟨n - 1, by omega⟩
    have e : a = (ρ 4).toNat := by omega
    refine ⟨I, ?_, by rw [← e]; rw [← e] at G; exact G, FR.rf _ _ _⟩
    show fX7_fill_b99 fu sh R (fX7_fill_l99 fu sh R n) _ _ _ _ = _
    simp only [fX7_fill_b99, B.1.2.1.2.2.2.2, bsome]
    rw [if_pos (by rw [iz_le (by omega) (by omega) (by omega) (by omega)]; omega)]
  | succ d ih =>
    intro n a ha hn2 I B G
    obtain ⟨n, rfl⟩ : ∃ j, n = j + 1 := ⟨n - 1, by omega⟩
    obtain ⟨g0, ⟨g1, g2⟩, g3, g4, g5, g6, g7⟩ := G
    have hl := hG_lt ρ r (ρ 4).toNat a (by omega)
    obtain ⟨h, hh⟩ : ∃ h, h = hG ρ r (ρ 4).toNat a := ⟨_, rfl⟩
    rw [← hh] at hl
    have ob := B.2.1
    have ek : iz (a : Int) + iz 1 = iz ((a + 1 : Nat) : Int) := by rw [iz_add]; rfl
    have e7 : I (AD 7) a = iz (h : Int) := by rw [hh]; exact g2 a (by omega)
    obtain ⟨J1, hJ1⟩ : ∃ J, J = u2 I (AD 9) h (iz ((qhG ρ r (ρ 4).toNat h a ||| 2 ^ a : Nat) : Int)) := ⟨_, rfl⟩
    have F1 : FR AD I J1 (fun i _ => 9 ≤ i ∧ i ≤ 9) := by
      rw [hJ1]
      exact FR.u2 S (by decide) (by decide) (by decide) (FR.rf AD I _)
    have B1 := B.fr V F1 (fun i k z1 z2 z => by omega)
    obtain ⟨J2, hJ2⟩ : ∃ J, J = _root_.Jvm.Pilot.@@N@@.u2 J1 (AD 10) h (iz ((acG ρ r (ρ 4).toNat h a ||| visS ρ a : Nat) : Int)) := ⟨_, rfl⟩
    have F2 : FR AD I J2 (fun i _ => 9 ≤ i ∧ i ≤ 10) := by
      rw [hJ2]
      exact FR.u2 S (by decide) (by decide) (by decide) (F1.wd (fun i _ z => by omega))
    have B2 := B.fr V F2 (fun i k z1 z2 z => by omega)
    obtain ⟨J3, hJ3⟩ : ∃ J, J = _root_.Jvm.Pilot.@@N@@.u2 J2 (AD 11) h (iz (snG ρ r (ρ 4).toNat h a + lnS ρ a)) := ⟨_, rfl⟩
    have F3 : FR AD I J3 (fun i _ => 9 ≤ i ∧ i ≤ 11) := by
      rw [hJ3]
      exact FR.u2 S (by decide) (by decide) (by decide) (F2.wd (fun i _ z => by omega))
    have F3' : FR AD I J3 WT := F3.wd (fun i _ z => Or.inl (by omega))
    have B3 := B.fr V F3 (fun i k z1 z2 z => by omega)
    obtain ⟨⟨s1, -⟩, -⟩ := B.1.2.2.2 (a : Int) (by omega) (by omega)
    obtain ⟨-, -, -, -, -, -, s6⟩ := B2.1.2.2.2 (a : Int) (by omega) (by omega)
    have G3 : T2 J3 AD ρ r (ρ 4).toNat (a + 1) := by
      refine ⟨?_, ⟨?_, ?_⟩, ?_, ?_, ?_, ?_, ?_⟩
      · rw [F3 6 (by decide) (by decide) 0 (by omega)]; exact g0
      · exact g1.fr F3 (by decide) (by decide) (fun _ z => by omega)
      · exact g2.fr F3 (by decide) (by decide) (fun _ z => by omega)
      · intro t ht
        rw [hJ3, hJ2, hJ1]
        have q := ((AR.put S (by decide) (by decide) g3 ((qhG ρ r (ρ 4).toNat h a ||| 2 ^ a : Nat) : Int) (n' := mG_ ρ r (ρ 4).toNat) (j := h) (fun t z _ => z)).off S (by decide) (by decide) (i' := 10) (by decide) (by decide) (by decide) h (iz ((acG ρ r (ρ 4).toNat h a ||| visS ρ a : Nat) : Int))).off S (by decide) (by decide) (i' := 11) (by decide) (by decide) (by decide) h (iz (snG ρ r (ρ 4).toNat h a + lnS ρ a))
        show _ = iz (qhG ρ r (ρ 4).toNat t (a + 1) : Int)
        rw [q t ht]
        unfold up
        have e : qhG ρ r (ρ 4).toNat t (a + 1) = qhG ρ r (ρ 4).toNat t a ||| (if decide (hG ρ r (ρ 4).toNat a = t) = true then 2 ^ a else 0) := rfl
        rw [e, ← hh]
        by_cases z : t = h
        · rw [if_pos z, decide_eq_true z.symm, if_pos rfl, z]
        · rw [if_neg z, decide_eq_false (fun w => z w.symm), if_neg (by decide), Nat.or_zero]
      · intro t ht
        rw [hJ3, hJ2]
        have q := (AR.put S (by decide) (by decide) (g4.fr F1 (by decide) (by decide) (fun _ z => by omega)) ((acG ρ r (ρ 4).toNat h a ||| visS ρ a : Nat) : Int) (n' := mG_ ρ r (ρ 4).toNat) (j := h) (fun t z _ => z)).off S (by decide) (by decide) (i' := 11) (by decide) (by decide) (by decide) h (iz (snG ρ r (ρ 4).toNat h a + lnS ρ a))
        show _ = iz (acG ρ r (ρ 4).toNat t (a + 1) : Int)
        rw [q t ht]
        unfold up
        have e : acG ρ r (ρ 4).toNat t (a + 1) = if hG ρ r (ρ 4).toNat a = t then acG ρ r (ρ 4).toNat t a ||| visS ρ a else acG ρ r (ρ 4).toNat t a := rfl
        rw [e, ← hh]
        by_cases z : t = h
        · rw [if_pos z, if_pos z.symm, z]
        · rw [if_neg z, if_neg (fun w => z w.symm)]
      · intro t ht
        rw [hJ3]
        have q := AR.put S (by decide) (by decide) (g5.fr F2 (by decide) (by decide) (fun _ z => by omega)) (snG ρ r (ρ 4).toNat h a + lnS ρ a) (n' := mG_ ρ r (ρ 4).toNat) (j := h) (fun t z _ => z)
        show _ = iz (snG ρ r (ρ 4).toNat t (a + 1))
        rw [q t ht]
        unfold up
        have e : snG ρ r (ρ 4).toNat t (a + 1) = if hG ρ r (ρ 4).toNat a = t then snG ρ r (ρ 4).toNat t a + lnS ρ a else snG ρ r (ρ 4).toNat t a := rfl
        rw [e, ← hh]
        by_cases z : t = h
        · rw [if_pos z, if_pos z.symm, z]
        · rw [if_neg z, if_neg (fun w => z w.symm)]
      · exact g6.fr F3 (by decide) (by decide) (fun _ z => by omega)
      · exact g7.fr F3 (by decide) (by decide) (fun _ z => by omega)
    obtain ⟨I', e, G', F'⟩ := ih n (a + 1) (by omega) (by omega) J3 B3 G3
    refine ⟨I', ?_, G', F3'.tr F'⟩
    rw [← e]
    have hz : ¬ iz (ρ 4) ≤ iz (a : Int) := by rw [iz_le (by omega) (by omega) (by omega) (by omega)]; omega
    have x9 : I (AD 9) h = iz (qhG ρ r (ρ 4).toNat h a : Int) := g3 h hl
    have x10 : J1 (AD 10) h = iz (acG ρ r (ρ 4).toNat h a : Int) := (g4.fr F1 (by decide) (by decide) (fun _ z => by omega)) h hl
    have x11 : J2 (AD 11) h = iz (snG ρ r (ρ 4).toNat h a) := (g5.fr F2 (by decide) (by decide) (fun _ z => by omega)) h hl
    show fX7_fill_b99 fu sh R (fX7_fill_l99 fu sh R n) _ _ _ _ = _
    simp only [fX7_fill_b99, B.1.2.1.2.2.2.2, bsome, if_neg hz, iz_lit, B.1.1.2.2, s1, oR_at (k6 S) T.1, oR_at (k6 S) T.2.2.1, oR_at (k6 S) T.2.2.2.1, oR_at (k6 S) T.2.2.2.2.1, oA_nat (k12 S (i := 7) (by decide) (by decide)) (show a < 12 by omega) (by decide), e7, oA_nat (k12 S (i := 9) (by decide) (by decide)) (show h < 12 by omega) (by decide), x9, iz_shlz (show a < 31 by omega), iz_orN, oS_nat (k12 S (i := 9) (by decide) (by decide)) (show h < 12 by omega) (by decide)]
    rw [← hJ1]
    simp only [oA_nat (k12 S (i := 10) (by decide) (by decide)) (show h < 12 by omega) (by decide), x10, bsome, c_seen B1.1 V hfu (show 0 ≤ (a : Int) by omega) (show (a : Int) < ρ 4 by omega), iz_orN, oS_nat (k12 S (i := 10) (by decide) (by decide)) (show h < 12 by omega) (by decide)]
    rw [← hJ2]
    simp only [oA_nat (k12 S (i := 11) (by decide) (by decide)) (show h < 12 by omega) (by decide), x11, bsome, s6, iz_add, oS_nat (k12 S (i := 11) (by decide) (by decide)) (show h < 12 by omega) (by decide)]
    rw [← hJ3]
    rw [show (a : Int) + 1 = ((a + 1 : Nat) : Int) from rfl]
/-- the class's table -/
theorem c_fill (S : OKS sh AD) (T : TR R AD) (B : BA sh I R AD o p ρ) (V : VB ρ) (hfu : 5000 ≤ fu) (ho : 16 ≤ o) :
    ∃ I', fX7_fill fu sh I R (AD 6) (AD o) = some I' ∧ T2 I' AD ρ (ρ 0) (ρ 4).toNat (ρ 4).toNat ∧ FR AD I I' WT := by
  have hn := V.n
  have vl := V.lim
  have ob := B.2.1
  obtain ⟨I1, e1, G1, F1⟩ := c_group (fu := fu) (hi := 7) (fi := 8) S B V hfu vl.1.1 vl.1.2 (by decide) (by decide) (by decide) (by decide) (by decide) (k12 S (by decide) (by decide)) (k12 S (by decide) (by decide)) ⟨by omega, by omega⟩
  have ml := mG_le ρ (ρ 0) (ρ 4).toNat
  have F2 : FR AD I (u2 I1 (AD 6) 0 (iz (mG_ ρ (ρ 0) (ρ 4).toNat : Int))) WT := FR.u2 S (by decide) (by decide) (Or.inr ⟨rfl, rfl⟩) (F1.wd (fun i _ z => by rcases z with z | z <;> exact Or.inl (by omega)))
  have B2 := B.fr V F2 (fun i k z1 z2 z => by rcases z with z | z <;> omega)
  have t1 : T1 (u2 I1 (AD 6) 0 (iz (mG_ ρ (ρ 0) (ρ 4).toNat : Int))) AD ρ (ρ 0) (ρ 4).toNat 0 := by
    refine ⟨?_, ⟨G1.1.off S (by decide) (by decide) (by decide) (by decide) (by decide) _ _, G1.2.off S (by decide) (by decide) (by decide) (by decide) (by decide) _ _⟩, fun j hj => by omega, fun j hj => by omega, fun j hj => by omega, fun j hj => by omega, fun j hj => by omega⟩
    rw [u2_ad S (by decide) (by decide) (by decide) (by decide), if_pos ⟨rfl, rfl⟩]
  obtain ⟨I3, e3, G3, F3⟩ := c_fill1 (fu := fu) (p := p) S T V ho (fX7_fill_b97 fu sh R) (mG_ ρ (ρ 0) (ρ 4).toNat) fu 0 (by omega) (by omega) _ B2 t1
  have B3 := B2.fr V F3 (fun i k z1 z2 z => by rcases z with z | z <;> omega)
  have t2 : T2 I3 AD ρ (ρ 0) (ρ 4).toNat 0 := ⟨G3.1, G3.2.1, fun j hj => G3.2.2.1 j hj, fun j hj => G3.2.2.2.1 j hj, fun j hj => G3.2.2.2.2.1 j hj, G3.2.2.2.2.2.1, G3.2.2.2.2.2.2⟩
  obtain ⟨I4, e4, G4, F4⟩ := c_fill2 (fu := fu) (p := p) S T V hfu ho (ρ 4).toNat fu 0 (by omega) (by omega) I3 B3 t2
  refine ⟨I4, ?_, G4, (F2.tr F3).tr F4⟩
  have hz : iz 0 = iz ((0 : Nat) : Int) := rfl
  simp only [fX7_fill, if_pos (isT_of (k6 S)), B.1.2.1.1, oR_at (k6 S) T.1, oR_at (k6 S) T.2.1, bsome, e1, oHs, oP_at (k6 S), iz_lit]
  rw [hz, e3]
  simp only [fX7_fill_b97, iz_lit]
  exact e4
end C6
