/-! STAGE 2: undo, on both sides -/
def aUndo (σ : STT) : Int ⊕ Nat := if σ.1 = true then (match σ.2.2.1 with | [] => .inl (-2) | _ :: hs => .inl (hs.length : Int)) else .inr 1
def sUndo (σ : STT) : STT := match σ.2.2.1 with | [] => σ | g :: hs => (σ.1, g, hs, σ.2.2.2)
section Q23
variable {fu : Nat} {sh : HS} {I I' : HI} {R : HR} {AD : Int → Nat} {P : Int → Int → Int} {σ : STT} {ρ : RHO}
theorem VST.undo (V : VST σ) : VST (sUndo σ) := by
  have V0 := V
  obtain ⟨l, r, hs, rest⟩ := σ
  cases hs with
  | nil => exact V0
  | cons g hs =>
    refine ⟨fun _ => V.2.2.1 g (List.mem_cons_self ..), fun h => ?_, fun h hh => V.2.2.1 h (List.mem_cons_of_mem _ hh), ?_, V.2.2.2.2⟩
    · exact absurd (V.2.1 h).1 (by intro z; exact absurd z (List.cons_ne_nil _ _))
    · have := V.2.2.2.1
      have e : (g :: hs).length ≤ 10 := this
      rw [List.length_cons] at e
      show hs.length ≤ 10
      omega
theorem ca_undo (S : OKS sh AD) (V : VST σ) (hfu : 5000 ≤ fu) : CA AD R P σ (sUndo σ) (fun I => fX10_undo fu sh I R (AD 0)) (aUndo σ) := by
  intro I C K
  by_cases h : σ.1 = true
  · have k4 := S.at (i := 4) (t := 2) (n := 3) rfl (by decide) (by decide)
    have k5 := S.at (i := 5) (t := 30) (n := 10) rfl (by decide) (by decide)
    have nb := c_needBoard (fu := fu) S C
    rw [if_pos h] at nb
    obtain ⟨l, r, hs, rest⟩ := σ
    cases hs with
    | nil =>
      refine ⟨I, ?_, C, K, FR.rf _ _ _⟩
      have c13 := C.2.2.2.2.2.2
      obtain ⟨nx, c11, c12, c13, c14⟩ := c13
      have e13 : I (AD 4) 2 = iz 0 := c13
      have ea : aUndo (l, r, [], rest) = .inl (-2) := by unfold aUndo; rw [if_pos h]
      rw [ea]
      simp only [fX10_undo, if_pos (isT_of S.pl), nb, oT0l, oR_at S.pl C.1.1.1.2.2.2.2.1, oI_at k4, e13, bsome, iz_lit, iz_neg]
      rw [if_pos True.intro]
      rfl
    | cons g hs =>
      have hlen : (g :: hs).length ≤ 10 := V.2.2.2.1
      rw [List.length_cons] at hlen
      have Vu := V.undo
      obtain ⟨c1, ⟨c2, c3⟩, ⟨c4, c5, c6⟩, c7, ⟨c8, c9⟩, c10, nx, c11, c12, c13, c14⟩ := C
      have c13' : I (AD 4) 2 = iz ((hs.length : Int) + 1) := c13
      obtain ⟨m, hm⟩ : ∃ m : Nat, m = (nx + 9) % 10 := ⟨_, rfl⟩
      have hmi : ((nx : Int) + 10 - 1) % 10 = (m : Int) := by omega
      have B0 := c1.2.2.2.2.2.2.2 0 (by decide) (by decide)
      have Bm := c1.2.2.2.2.2.2.2 (2 + (m : Int)) (by omega) (by omega)
      have hb : hiB nx 0 = 2 + (m : Int) := by unfold hiB; omega
      have wr : ∀ (J : HI) (k k' : Nat) (x : Int32), u2 J (AD 4) k x (AD 4) k' = if k' = k then x else J (AD 4) k' := by
        intro J k k' x
        rw [u2_ad S (by decide) (by decide) (by decide) (by decide)]
        by_cases z : k' = k
        · rw [if_pos ⟨rfl, z⟩, if_pos z]
        · rw [if_neg (fun w => z w.2), if_neg z]
      obtain ⟨I1, hI1⟩ : ∃ J, J = _root_.Jvm.Pilot.@@N@@.u2 I (AD 4) 1 (iz (m : Int)) := ⟨_, rfl⟩
      have F1 : FR AD I I1 (fun i k => i = 4) := by rw [hI1]; exact FR.u2 S (by decide) (by decide) rfl (FR.rf AD I _)
      have L0 : BVL I AD (28 + 24 * (2 + (m : Int))) (P (2 + (m : Int))) g := by
        have := c14 0 g rfl
        rw [hb] at this
        exact this
      have Vg : VB g := V.2.2.1 g (List.mem_cons_self ..)
      have L1 := L0.fr Vg (by omega) (by omega) (fun s g0 g1 => (Bm.2.2.2.1 s g0 g1).2) F1 (fun i k g0 g1 => by omega)
      obtain ⟨I2, e2, L2, F2⟩ := c_copyBoard (fu := fu) S hfu (b1 := 0) (b2 := 2 + (m : Int)) (by decide) (by omega) (by omega) B0 Bm Vg L1
      have o1 : oB sh R (AD 5) 0 (iz (m : Int)) = some (AD (28 + 24 * (2 + (m : Int)))) := by
        rw [oB_iz (t := 0) k5 (by omega) (by omega) (by omega), Int.toNat_natCast]
        exact c1.2.2.2.2.2.2.1 m (by omega)
      have a1 : I1 (AD 4) 1 = iz (m : Int) := by rw [hI1, wr, if_pos rfl]
      have a2 : I2 (AD 4) 2 = iz ((hs.length : Int) + 1) := by
        rw [F2 4 (by decide) (by decide) 2 (by omega), hI1, wr, if_neg (by decide), c13']
      obtain ⟨J, hJ⟩ : ∃ J, J = _root_.Jvm.Pilot.@@N@@.u2 I2 (AD 4) 2 (iz (hs.length : Int)) := ⟨_, rfl⟩
      have FJ : FR AD I2 J (fun i k => i = 4 ∧ k = 2) := by rw [hJ]; exact FR.u2 S (by decide) (by decide) ⟨rfl, rfl⟩ (FR.rf AD I2 _)
      have aJ2 : J (AD 4) 2 = iz (hs.length : Int) := by rw [hJ, wr, if_pos rfl]
      have aJ1 : J (AD 4) 1 = iz (m : Int) := by rw [FJ 4 (by decide) (by decide) 1 (by omega), F2 4 (by decide) (by decide) 1 (by omega), a1]
      obtain ⟨I', e3, z9, z11, F3⟩ := c_forget (fu := fu) (I := J) (R := R) S
      have rcl : fX3_recall fu sh I R (AD 4) (AD 28) = some J := by
        have em : iz ((hs.length : Int) + 1) - iz 1 = iz (hs.length : Int) := by rw [iz_sub]; congr 1; omega
        have es : iz (nx : Int) + iz 10 - iz 1 = iz ((nx : Int) + 10 - 1) := by rw [iz_add, iz_sub]
        simp only [fX3_recall, if_pos (isT_of k4), oI_at k4, c12, bsome, iz_lit, es, oM_iz (a := (nx : Int) + 10 - 1) (b := 10) (by omega) (by omega) (by decide) (by decide), hmi, oP_at k4, ← hI1, oR_at k4 c1.2.2.2.2.1, a1, o1]
        rw [show (AD 28 : Nat) = AD (28 + 24 * 0) from rfl, e2]
        simp only [bsome, a2, em, ← hJ]
      have F : FR AD I I' (fun i k => (28 ≤ i ∧ i < 52) ∨ i = 4 ∨ (i = 0 ∧ (k = 9 ∨ k = 11))) := ((F1.wd fun i k z => Or.inr (Or.inl z)).tr (F2.wd fun i k z => by omega)).tr ((FJ.wd fun i k z => by omega).tr (F3.wd fun i k z => Or.inr (Or.inr z)))
      have i2 : I' (AD 4) 2 = iz (hs.length : Int) := (F3 4 (by decide) (by decide) 2 (by omega)).trans aJ2
      refine ⟨I', ?_, ?_, CKN.z z9 z11, F.wd fun i k z => by omega⟩
      · have ea : aUndo (l, r, g :: hs, rest) = .inl (hs.length : Int) := by unfold aUndo; rw [if_pos h]
        rw [ea]
        simp only [fX10_undo, if_pos (isT_of S.pl), nb, oT0l, oR_at S.pl c1.1.1.2.2.2.2.1, oR_at S.pl c1.1.1.2.1, oI_at k4, c13', bsome, iz_lit, iz_neg, rcl, e3, i2]
        rw [if_neg (by rw [iz_eq (by omega) (by omega) (by decide) (by decide)]; omega)]
        rfl
      · refine ⟨c1, ⟨(F 16 (by decide) (by decide) 0 (by omega)).trans c2, (F 21 (by decide) (by decide) 0 (by omega)).trans c3⟩, ⟨(F 0 (by decide) (by decide) 1 (by omega)).trans c4, (F 0 (by decide) (by decide) 2 (by omega)).trans c5, (F 0 (by decide) (by decide) 3 (by omega)).trans c6⟩, c7.fr F (by decide) (by decide) (fun _ => by omega), ⟨(F 26 (by decide) (by decide) 1 (by omega)).trans c8, c9.fr F (by decide) (by decide) (fun _ => by omega)⟩, fun h => ?_, m, by omega, ?_, i2, fun t f ht => ?_⟩
        · refine L2.fr Vg (by decide) (by decide) (fun s g0 g1 => (B0.2.2.2.1 s g0 g1).2) ((FJ.wd fun i k z => Or.inl z).tr (F3.wd fun i k z => Or.inr z)) (fun i k g0 g1 => ?_)
          show ¬ ((i = 4 ∧ k = 2) ∨ (i = 0 ∧ (k = 9 ∨ k = 11)))
          omega
        · exact (F3 4 (by decide) (by decide) 1 (by omega)).trans aJ1
        · have ht0 : hs[t]? = some f := ht
          have tl : t < hs.length := (List.getElem?_eq_some_iff.mp ht0).1
          have hb2 : hiB m t = hiB nx (t + 1) := by unfold hiB; omega
          have r := hiB_r nx (t + 1)
          have q := c1.2.2.2.2.2.2.2 (hiB nx (t + 1)) (by omega) (by omega)
          rw [hb2]
          exact (c14 (t + 1) f ht0).fr (V.2.2.1 f (List.mem_cons_of_mem _ (List.mem_of_getElem? ht0))) (by omega) (by omega) (fun s g0 g1 => (q.2.2.2.1 s g0 g1).2) F (fun i k g0 g1 => by omega)
  · refine ⟨I, ?_, ?_, ?_, FR.rf _ _ _⟩
    · unfold aUndo
      simp only [fX10_undo, if_pos (isT_of S.pl), c_needBoard S C, if_neg h, oT0r]
      rfl
    · have hf : σ.1 = false := by simpa using h
      have e := (V.2.1 hf).1
      have es : sUndo σ = σ := by unfold sUndo; rw [e]
      rw [es]; exact C
    · have hf : σ.1 = false := by simpa using h
      have e := (V.2.1 hf).1
      have es : sUndo σ = σ := by unfold sUndo; rw [e]
      rw [es]; exact K
theorem r_undo_loop (S : OKS sh AD) (M : MR R AD) {a : Nat} (ha : a < 10) {g : RHO} : ∀ d j k : Nat, k + d = 119 → d < j → ∀ I : HI, I (AD 316) 3 = iz (a : Int) → (∀ t : Nat, t < 119 → I (AD 319) (119 * a + t) = iz (g t)) → (∀ t : Nat, t < k → I (AD 317) t = iz (g t)) →
    ∃ I', fX11_undo_l32 fu sh R j I (AD 316) (iz (k : Int)) = some (iz (a : Int), I') ∧ RW I' AD g ∧ FR AD I I' (fun i _ => i = 317) := by
  intro d
  induction d with
  | zero =>
    intro j k hk hj I e3 A T
    obtain ⟨j, rfl⟩ : ∃ t, j = t + 1 := ⟨j - 1, by omega⟩
    have e : k = 119 := by omega
    subst e
    refine ⟨I, ?_, fun j g0 g1 => ?_, FR.rf _ _ _⟩
    · show fX11_undo_b32 fu sh R (fX11_undo_l32 fu sh R j) _ _ _ = _
      simp only [fX11_undo_b32, iz_lit, oI_at S.md, e3, bsome]
      rw [if_pos (by rw [iz_le (by decide) (by decide) (by decide) (by decide)]; decide)]
    · rw [T j.toNat (by omega), Int.toNat_of_nonneg g0]
  | succ d ih =>
    intro j k hk hj I e3 A T
    obtain ⟨j, rfl⟩ : ∃ t, j = t + 1 := ⟨j - 1, by omega⟩
    have ek : iz (k : Int) + iz 1 = iz ((k + 1 : Nat) : Int) := by rw [iz_add]; rfl
    have ix : 119 * (a : Int) + (k : Int) = ((119 * a + k : Nat) : Int) := by omega
    have s319 := S.at (i := 319) (t := 20) (n := 1190) rfl (by decide) (by decide)
    obtain ⟨J, hJ⟩ : ∃ J, J = _root_.Jvm.Pilot.@@N@@.u2 I (AD 317) k (iz (g k)) := ⟨_, rfl⟩
    have F0 : FR AD I J (fun i _ => i = 317) := by rw [hJ]; exact FR.u2 S (by decide) (by decide) rfl (FR.rf AD I _)
    obtain ⟨I', e, g1, g2⟩ := ih j (k + 1) (by omega) (by omega) J ((F0 316 (by decide) (by decide) 3 (by omega)).trans e3) (fun t ht => (F0 319 (by decide) (by decide) _ (by omega)).trans (A t ht)) (fun t ht => by
      rw [hJ, u2_ad S (by decide) (by decide) (by decide) (by decide)]
      by_cases z : t = k
      · rw [if_pos ⟨rfl, z⟩, z]
      · rw [if_neg (fun w => z w.2)]
        exact T t (by omega))
    refine ⟨I', ?_, g1, F0.tr g2⟩
    rw [← e]
    show fX11_undo_b32 fu sh R (fX11_undo_l32 fu sh R j) _ _ _ = _
    simp only [fX11_undo_b32, iz_lit, oI_at S.md, e3, bsome, oR_at S.md M.1.2.2.1, oR_at S.md M.1.1, iz_mul, iz_add (119 * (a : Int)), ix, oA_nat s319 (show 119 * a + k < 1190 by omega) (by decide), A k (by omega), oS_nat S.rw (show k < 119 by omega) (by decide), ek]
    rw [if_neg (by rw [iz_le (by decide) (by decide) (by omega) (by omega)]; omega), ← hJ]
theorem ra_undo (S : OKS sh AD) (V : VST σ) (hfu : 5000 ≤ fu) : RA AD R σ (sUndo σ) (fun I => fX11_undo fu sh I R (AD 316)) (aUndo σ) := by
  intro I H
  have w := r_isWrong (fu := fu) (R := R) (σ := σ) S H.2.2.1.2.1 true
  have o : (iz 1 : Int32) = bz true := rfl
  by_cases h : σ.1 = true
  · rw [wr0 h rfl] at w
    obtain ⟨H1, e5, f1⟩ := r_out (σ := σ) S H 0
    obtain ⟨l, r, hs, rest⟩ := σ
    cases hs with
    | nil =>
      have ea : aUndo (l, r, [], rest) = .inl (-2) := by unfold aUndo; rw [if_pos h]
      refine ⟨_, ?_, ?_, H1, f1⟩
      · have e3 : u2 I (AD 316) 5 (iz ((0 : Nat) : Int)) (AD 316) 3 = iz 0 := H1.2.2.1.1
        simp only [fX11_undo, if_pos (isT_of S.md), iz_lit]
        rw [o, w]
        simp only [oHs, bz_zero, oI_at S.md, bsome, iz_neg, e3]
        rw [if_pos (by decide), if_pos True.intro, ea]
        rfl
      · rw [e5, ea]
        rfl
    | cons g hs =>
      have hlen : (g :: hs).length ≤ 10 := V.2.2.2.1
      rw [List.length_cons] at hlen
      have ea : aUndo (l, r, g :: hs, rest) = .inl (hs.length : Int) := by unfold aUndo; rw [if_pos h]
      obtain ⟨c1, c2, ⟨c3, c4, c5, c6, c7⟩, c8, c9, c10⟩ := H1
      have c3' : u2 I (AD 316) 5 (iz ((0 : Nat) : Int)) (AD 316) 3 = iz ((hs.length : Int) + 1) := c3
      obtain ⟨I1, hI1⟩ : ∃ J, J = u2 I (AD 316) 5 (iz ((0 : Nat) : Int)) := ⟨_, rfl⟩
      rw [← hI1] at c2 c3 c3' c4 c5 c6 c7 c8 c9 c10 e5 f1
      obtain ⟨J, hJ⟩ : ∃ J, J = _root_.Jvm.Pilot.@@N@@.u2 I1 (AD 316) 3 (iz (hs.length : Int)) := ⟨_, rfl⟩
      have F0 : FR AD I1 J (fun i k => i = 316 ∧ k = 3) := by rw [hJ]; exact FR.u2 S (by decide) (by decide) ⟨rfl, rfl⟩ (FR.rf AD I1 _)
      have eJ : J (AD 316) 3 = iz (hs.length : Int) := by rw [hJ, u2_ad S (by decide) (by decide) (by decide) (by decide), if_pos ⟨rfl, rfl⟩]
      obtain ⟨I', e, g1, g2⟩ := r_undo_loop (fu := fu) S c1 (a := hs.length) (by omega) (g := g) 119 fu 0 (by decide) (by omega) J eJ (fun t ht => by
        rw [F0 319 (by decide) (by decide) _ (by omega)]
        have := c10 0 g rfl t ht
        have e : (g :: hs).length - 1 - 0 = hs.length := by rw [List.length_cons]; omega
        have e2 : I1 (AD 319) (119 * ((g :: hs).length - 1 - 0) + t) = iz (g t) := this
        rw [e] at e2
        exact e2) (fun t ht => absurd ht (Nat.not_lt_zero _))
      have F : FR AD I1 I' (fun i k => i = 317 ∨ (i = 316 ∧ k = 3)) := (F0.wd fun i k z => Or.inr z).tr (g2.wd fun i k z => Or.inl z)
      refine ⟨I', ?_, ?_, ⟨c1, g1, ⟨?_, (F 316 (by decide) (by decide) 4 (by omega)).trans c4, (F 316 (by decide) (by decide) 7 (by omega)).trans c5, (F 316 (by decide) (by decide) 15 (by omega)).trans c6, (F 316 (by decide) (by decide) 28 (by omega)).trans c7⟩, c8.fr F (by decide) (by decide) (fun _ => by omega), c9.fr F (by decide) (by decide) (fun _ => by omega), fun t f ht j hj => ?_⟩, f1.tr (F.wd fun i k z => by omega)⟩
      · have em : iz ((hs.length : Int) + 1) - bz true = iz (hs.length : Int) := by rw [show bz true = iz 1 from rfl, iz_sub]; congr 1; omega
        simp only [fX11_undo, if_pos (isT_of S.md), iz_lit]
        rw [o, w]
        simp only [oHs, bz_zero, ← hI1, oI_at S.md, bsome, iz_neg, c3', em, oP_at S.md, ← hJ]
        rw [if_pos (by decide), if_neg (by rw [iz_eq (by omega) (by omega) (by decide) (by decide)]; omega), ea]
        exact e
      · rw [F 316 (by decide) (by decide) 5 (by omega), e5, ea]
        rfl
      · rw [g2 316 (by decide) (by decide) 3 (by omega), eJ]
        rfl
      · have ht0 : hs[t]? = some f := ht
        have tl : t < hs.length := (List.getElem?_eq_some_iff.mp ht0).1
        have := c10 (t + 1) f ht0 j hj
        have e2 : I1 (AD 319) (119 * ((g :: hs).length - 1 - (t + 1)) + j) = iz (f j) := this
        have e : (g :: hs).length - 1 - (t + 1) = hs.length - 1 - t := by rw [List.length_cons]; omega
        rw [e] at e2
        rw [F 319 (by decide) (by decide) _ (by omega)]
        exact e2
  · have hf : σ.1 = false := by simpa using h
    rw [wr1 hf] at w
    obtain ⟨H1, e5, f1⟩ := r_out (σ := σ) S H 1
    have e := (V.2.1 hf).1
    have es : sUndo σ = σ := by unfold sUndo; rw [e]
    have ea : aUndo σ = .inr 1 := by unfold aUndo; rw [if_neg h]
    rw [es, ea]
    refine ⟨_, ?_, e5, H1, f1⟩
    simp only [fX11_undo, if_pos (isT_of S.md), iz_lit]
    rw [o, w]
    simp only [oHs, bz_zero]
    rw [if_neg (by decide)]
    rfl
end Q23
