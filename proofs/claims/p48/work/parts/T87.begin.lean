/-! STAGE 2: an action begins, on both sides; the board changed behind it -/
/-- the board pushed on the history; another board -/
def pushS (σ : STT) : STT := (σ.1, σ.2.1, (σ.2.1 :: σ.2.2.1).take 10, σ.2.2.2)
def rowS (σ : STT) (ρ : RHO) : STT := (σ.1, ρ, σ.2.2)
section Q22
variable {fu : Nat} {sh : HS} {I I' : HI} {R : HR} {AD : Int → Nat} {P : Int → Int → Int} {σ : STT} {ρ : RHO}
theorem VST.act (V : VST σ) (h : σ.1 = true) (W : VB ρ) : VST (rowS (pushS σ) ρ) := by
  refine ⟨fun _ => W, fun h2 => ?_, fun g hg => ?_, ?_, V.2.2.2.2.1, V.2.2.2.2.2⟩
  · have h3 : σ.1 = false := h2
    rw [h] at h3
    exact absurd h3 (by decide)
  · have hg2 : g ∈ σ.2.1 :: σ.2.2.1 := List.mem_of_mem_take hg
    rcases List.mem_cons.mp hg2 with rfl | hg3
    · exact V.1 h
    · exact V.2.2.1 g hg3
  · show ((σ.2.1 :: σ.2.2.1).take 10).length ≤ 10
    rw [List.length_take]
    omega
theorem CKN.z (h1 : I (AD 0) 9 = iz 0) (h2 : I (AD 0) 11 = iz 0) : CKN I AD σ := ⟨Or.inl h1, Or.inl h2⟩
theorem c_forget (S : OKS sh AD) : ∃ I', fX10_forgetAnswers fu sh I R (AD 0) = some I' ∧ I' (AD 0) 9 = iz 0 ∧ I' (AD 0) 11 = iz 0 ∧ FR AD I I' (fun i k => i = 0 ∧ (k = 9 ∨ k = 11)) := by
  refine ⟨u2 (u2 I (AD 0) 9 (iz 0)) (AD 0) 11 (iz 0), ?_, ?_, ?_, FR.u2 S (by decide) (by decide) ⟨rfl, Or.inr rfl⟩ (FR.u2 S (by decide) (by decide) ⟨rfl, Or.inl rfl⟩ (FR.rf AD I _))⟩
  · simp only [fX10_forgetAnswers, if_pos (isT_of S.pl), oP_at S.pl, bsome, iz_lit]
  · rw [u2_ad S (by decide) (by decide) (by decide) (by decide), if_neg (by decide), u2_ad S (by decide) (by decide) (by decide) (by decide), if_pos ⟨rfl, rfl⟩]
  · rw [u2_ad S (by decide) (by decide) (by decide) (by decide), if_pos ⟨rfl, rfl⟩]
/-- the class's cells of a board and of what it found out rewritten: another board -/
theorem CIB.row (C : CIB I R AD P σ) (V : VST σ) (F : FR AD I I' (fun i k => (28 ≤ i ∧ i < 52) ∨ SCR i k)) (L : σ.1 = true → BVL I' AD 28 (P 0) ρ) : CIB I' R AD P (rowS σ ρ) := by
  obtain ⟨c1, ⟨c2, c3⟩, ⟨c4, c5, c6⟩, c7, ⟨c8, c9⟩, c10, nx, c11, c12, c13, c14⟩ := C
  refine ⟨c1, ⟨(F 16 (by decide) (by decide) 0 (by unfold SCR; omega)).trans c2, (F 21 (by decide) (by decide) 0 (by unfold SCR; omega)).trans c3⟩, ⟨(F 0 (by decide) (by decide) 1 (by unfold SCR; omega)).trans c4, (F 0 (by decide) (by decide) 2 (by unfold SCR; omega)).trans c5, (F 0 (by decide) (by decide) 3 (by unfold SCR; omega)).trans c6⟩, c7.fr F (by decide) (by decide) (fun _ => by unfold SCR; omega), ⟨(F 26 (by decide) (by decide) 1 (by unfold SCR; omega)).trans c8, c9.fr F (by decide) (by decide) (fun _ => by unfold SCR; omega)⟩, L, nx, c11, (F 4 (by decide) (by decide) 1 (by unfold SCR; omega)).trans c12, (F 4 (by decide) (by decide) 2 (by unfold SCR; omega)).trans c13, fun t h ht => ?_⟩
  have r := hiB_r nx t
  have q := c1.2.2.2.2.2.2.2 (hiB nx t) (by omega) (by omega)
  exact (c14 t h ht).fr (V.2.2.1 h (List.mem_of_getElem? ht)) (by omega) (by omega) (fun s g0 g1 => (q.2.2.2.1 s g0 g1).2) F (fun i k g0 g1 => by unfold SCR; omega)
/-- the class begins an action -/
theorem c_begin (S : OKS sh AD) (C : CIB I R AD P σ) (V : VST σ) (hfu : 5000 ≤ fu) (h : σ.1 = true) :
    ∃ I', fX10_beginAction fu sh I R (AD 0) = some I' ∧ CIB I' R AD P (pushS σ) ∧ (I' (AD 0) 9 = iz 0 ∧ I' (AD 0) 11 = iz 0) ∧ FR AD I I' (fun i k => (76 ≤ i ∧ i < 316) ∨ i = 4 ∨ (i = 0 ∧ (k = 9 ∨ k = 11))) := by
  have C0 := C
  obtain ⟨c1, ⟨c2, c3⟩, ⟨c4, c5, c6⟩, c7, ⟨c8, c9⟩, c10, nx, c11, c12, c13, c14⟩ := C
  have k4 := S.at (i := 4) (t := 2) (n := 3) rfl (by decide) (by decide)
  have k5 := S.at (i := 5) (t := 30) (n := 10) rfl (by decide) (by decide)
  have B0 := c1.2.2.2.2.2.2.2 0 (by decide) (by decide)
  have B2 := c1.2.2.2.2.2.2.2 (2 + (nx : Int)) (by omega) (by omega)
  have hl := V.2.2.2.1
  obtain ⟨I1, e1, L1, F1⟩ := c_copyBoard (fu := fu) S hfu (b1 := 2 + (nx : Int)) (b2 := 0) (by omega) (by decide) (by omega) B2 B0 (V.1 h) (c10 h)
  have o1 : oB sh R (AD 5) 0 (iz (nx : Int)) = some (AD (28 + 24 * (2 + (nx : Int)))) := by
    rw [oB_iz (t := 0) k5 (by omega) (by omega) (by omega), Int.toNat_natCast]
    exact c1.2.2.2.2.2.2.1 nx c11
  have q1 : I1 (AD 4) 1 = iz (nx : Int) := (F1 4 (by decide) (by decide) 1 (by omega)).trans c12
  have q2 : I1 (AD 4) 2 = iz (σ.2.2.1.length : Int) := (F1 4 (by decide) (by decide) 2 (by omega)).trans c13
  have en : iz (nx : Int) + iz 1 = iz ((nx : Int) + 1) := iz_add _ _
  have eh : iz (σ.2.2.1.length : Int) + iz 1 = iz ((σ.2.2.1.length : Int) + 1) := iz_add _ _
  have wr : ∀ (J : HI) (k k' : Nat) (x : Int32), u2 J (AD 4) k x (AD 4) k' = if k' = k then x else J (AD 4) k' := by
    intro J k k' x
    rw [u2_ad S (by decide) (by decide) (by decide) (by decide)]
    by_cases z : k' = k
    · rw [if_pos ⟨rfl, z⟩, if_pos z]
    · rw [if_neg (fun w => z w.2), if_neg z]
  obtain ⟨J, hJ⟩ : ∃ J, J = _root_.Jvm.Pilot.@@N@@.u2 (_root_.Jvm.Pilot.@@N@@.u2 I1 (AD 4) 1 (iz (((nx : Int) + 1) % 10))) (AD 4) 2 (iz (min ((σ.2.2.1.length : Int) + 1) 10)) := ⟨_, rfl⟩
  have FJ : FR AD I1 J (fun i _ => i = 4) := by
    rw [hJ]
    exact FR.u2 S (by decide) (by decide) rfl (FR.u2 S (by decide) (by decide) rfl (FR.rf AD I1 _))
  have r1 : J (AD 4) 1 = iz (((nx : Int) + 1) % 10) := by rw [hJ, wr, if_neg (by decide), wr, if_pos rfl]
  have r2 : J (AD 4) 2 = iz (min ((σ.2.2.1.length : Int) + 1) 10) := by rw [hJ, wr, if_pos rfl]
  obtain ⟨I', e2, z9, z11, F2⟩ := c_forget (fu := fu) (I := J) (R := R) S
  have rem : fX3_remember fu sh I R (AD 4) (AD 28) = some J := by
    simp only [fX3_remember, if_pos (isT_of k4), oR_at k4 c1.2.2.2.2.1, oI_at k4, c12, bsome, o1, show (AD 28 : Nat) = AD (28 + 24 * 0) from rfl, e1, q1, iz_lit, en, oM_iz (a := (nx : Int) + 1) (b := 10) (by omega) (by omega) (by decide) (by decide), oP_at k4]
    rw [wr, if_neg (by decide), q2, eh, iMin_iz (by omega) (by omega) (by decide) (by decide), ← hJ]
  have F : FR AD I I' (fun i k => (28 + 24 * (2 + (nx : Int)) ≤ i ∧ i < 28 + 24 * (2 + (nx : Int)) + 24) ∨ i = 4 ∨ (i = 0 ∧ (k = 9 ∨ k = 11))) := ((F1.wd fun i k z => Or.inl z).tr (FJ.wd fun i k z => Or.inr (Or.inl z))).tr (F2.wd fun i k z => Or.inr (Or.inr z))
  refine ⟨I', ?_, ?_, ⟨z9, z11⟩, F.wd fun i k z => by omega⟩
  · simp only [fX10_beginAction, if_pos (isT_of S.pl), oR_at S.pl c1.1.1.2.2.2.2.1, oR_at S.pl c1.1.1.2.1, bsome, rem, e2]
  · refine ⟨c1, ⟨(F 16 (by decide) (by decide) 0 (by omega)).trans c2, (F 21 (by decide) (by decide) 0 (by omega)).trans c3⟩, ⟨(F 0 (by decide) (by decide) 1 (by omega)).trans c4, (F 0 (by decide) (by decide) 2 (by omega)).trans c5, (F 0 (by decide) (by decide) 3 (by omega)).trans c6⟩, c7.fr F (by decide) (by decide) (fun _ => by omega), ⟨(F 26 (by decide) (by decide) 1 (by omega)).trans c8, c9.fr F (by decide) (by decide) (fun _ => by omega)⟩, fun h => ?_, (nx + 1) % 10, by omega, ?_, ?_, fun t g ht => ?_⟩
    · exact (c10 h).fr (V.1 h) (by decide) (by decide) (fun s g0 g1 => (B0.2.2.2.1 s g0 g1).2) F (fun i k g0 g1 => by omega)
    · rw [F2 4 (by decide) (by decide) 1 (by omega), r1]
      congr 1
    · rw [F2 4 (by decide) (by decide) 2 (by omega), r2]
      show iz _ = iz ((((σ.2.1 :: σ.2.2.1).take 10).length : Nat) : Int)
      rw [List.length_take, List.length_cons]
      congr 1
      omega
    · have tl : t < 10 := by
        have := (List.getElem?_eq_some_iff.mp ht).1
        have e : ((σ.2.1 :: σ.2.2.1).take 10).length ≤ 10 := by rw [List.length_take]; omega
        exact Nat.lt_of_lt_of_le this e
      have ht1 : (σ.2.1 :: σ.2.2.1)[t]? = some g := by
        have e : ((σ.2.1 :: σ.2.2.1).take 10)[t]? = some g := ht
        rw [List.getElem?_take, if_pos tl] at e
        exact e
      cases t with
      | zero =>
        have e : σ.2.1 = g := Option.some.inj ht1
        have hb : hiB ((nx + 1) % 10) 0 = 2 + (nx : Int) := by unfold hiB; omega
        rw [hb, ← e]
        have F3 : FR AD I1 I' (fun i k => i = 4 ∨ (i = 0 ∧ (k = 9 ∨ k = 11))) := (FJ.wd fun i k z => Or.inl z).tr (F2.wd fun i k z => Or.inr z)
        exact L1.fr (V.1 h) (by omega) (by omega) (fun s g0 g1 => (B2.2.2.2.1 s g0 g1).2) F3 (fun i k g0 g1 => by omega)
      | succ t =>
        have ht2 : σ.2.2.1[t]? = some g := ht1
        have hb : hiB ((nx + 1) % 10) (t + 1) = hiB nx t := by unfold hiB; omega
        have hne : ¬ hiB nx t = 2 + (nx : Int) := by unfold hiB; omega
        have r := hiB_r nx t
        have q := c1.2.2.2.2.2.2.2 (hiB nx t) (by omega) (by omega)
        rw [hb]
        exact (c14 t g ht2).fr (V.2.2.1 g (List.mem_of_getElem? ht2)) (by omega) (by omega) (fun s g0 g1 => (q.2.2.2.1 s g0 g1).2) F (fun i k g0 g1 => by omega)
end Q22
