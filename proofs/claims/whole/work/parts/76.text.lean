/-! STAGE 2: the text cut, the place of the error, the bytes of the plan -/
/-- a text of another length, other bytes -/
def setT (σ : STT) (n : Nat) (f : Nat → Int) : STT := (σ.1, σ.2.1, σ.2.2.1, n, f, σ.2.2.2.2.2)
section Q12
variable {fu : Nat} {sh : HS} {I I' : HI} {R : HR} {AD : Int → Nat} {P : Int → Int → Int} {σ : STT} {a : Int}
theorem VST.tx (V : VST σ) {n : Nat} {f : Nat → Int} (hn : n ≤ 800) (hf : ∀ k, k < n → 0 ≤ f k ∧ f k ≤ 255) : VST (setT σ n f) := ⟨V.1, V.2.1, V.2.2.1, V.2.2.2.1, hn, hf, V.2.2.2.2.2.2⟩
theorem CIB.tx (C : CIB I R AD P σ) (V : VST σ) {n : Nat} {f : Nat → Int} (F : FR AD I I' (fun i k => i = 1 ∨ (i = 0 ∧ k = 1))) (e1 : I' (AD 0) 1 = iz (n : Int)) (e2 : AR I' AD 1 n f) : CIB I' R AD P (setT σ n f) := by
  obtain ⟨c1, ⟨c2, c3⟩, ⟨c4, c5, c6⟩, c7, ⟨c8, c9⟩, c10, nx, c11, c12, c13, c14⟩ := C
  refine ⟨c1, ⟨(F 16 (by decide) (by decide) 0 (by omega)).trans c2, (F 21 (by decide) (by decide) 0 (by omega)).trans c3⟩, ⟨e1, (F 0 (by decide) (by decide) 2 (by omega)).trans c5, (F 0 (by decide) (by decide) 3 (by omega)).trans c6⟩, e2, ⟨(F 26 (by decide) (by decide) 1 (by omega)).trans c8, c9.fr F (by decide) (by decide) (fun _ => by omega)⟩, fun h => ?_, nx, c11, (F 4 (by decide) (by decide) 1 (by omega)).trans c12, (F 4 (by decide) (by decide) 2 (by omega)).trans c13, fun t h ht => ?_⟩
  · have q := c1.2.2.2.2.2.2.2 0 (by decide) (by decide)
    exact (c10 h).fr (V.1 h) (by decide) (by decide) (fun s g0 g1 => (q.2.2.2.1 s g0 g1).2) F (fun i k g0 g1 => by omega)
  · have r := hiB_r nx t
    have q := c1.2.2.2.2.2.2.2 (hiB nx t) (by omega) (by omega)
    exact (c14 t h ht).fr (V.2.2.1 h (List.mem_of_getElem? ht)) (by omega) (by omega) (fun s g0 g1 => (q.2.2.2.1 s g0 g1).2) F (fun i k g0 g1 => by omega)
theorem CKN.fr2 (C : CKN I AD σ) {W : Int → Nat → Prop} (F : FR AD I I' W) (w0 : ¬ W 0 9) (w1 : ¬ W 0 11) (w2 : ¬ W 16 5) (w3 : ∀ i k, 6 ≤ i → i ≤ 13 → ¬ W i k) (w4 : ∀ k, ¬ W 20 k) : CKN I' AD σ := by
  obtain ⟨c1, c2⟩ := C
  refine ⟨?_, ?_⟩
  · rcases c1 with c | ⟨c, d, e⟩
    · exact Or.inl ((F 0 (by decide) (by decide) 9 w0).trans c)
    · exact Or.inr ⟨(F 0 (by decide) (by decide) 9 w0).trans c, d, e.fr F w3⟩
  · rcases c2 with c | ⟨c, d, e1, e2⟩
    · exact Or.inl ((F 0 (by decide) (by decide) 11 w1).trans c)
    · exact Or.inr ⟨(F 0 (by decide) (by decide) 11 w1).trans c, d, (F 16 (by decide) (by decide) 5 w2).trans e1, e2.fr F (by decide) (by decide) w4⟩
theorem RIB.tx (C : RIB I R AD σ) {n : Nat} {f : Nat → Int} (F : FR AD I I' (fun i k => i = 320 ∨ (i = 316 ∧ (k = 5 ∨ k = 7)))) (e1 : I' (AD 316) 7 = iz (n : Int)) (e2 : AR I' AD 320 n f) : RIB I' R AD (setT σ n f) := by
  obtain ⟨c1, c2, ⟨c3, c4, c5, c6, c7⟩, c8, c9, c10⟩ := C
  exact ⟨c1, c2.fr F (fun _ => by omega), ⟨(F 316 (by decide) (by decide) 3 (by omega)).trans c3, (F 316 (by decide) (by decide) 4 (by omega)).trans c4, e1, (F 316 (by decide) (by decide) 15 (by omega)).trans c6, (F 316 (by decide) (by decide) 28 (by omega)).trans c7⟩, e2, c9.fr F (by decide) (by decide) (fun _ => by omega), fun t h ht j hj => (F 319 (by decide) (by decide) _ (by omega)).trans (c10 t h ht j hj)⟩
/-- an action: the class's side, the reference's -/
def CA (AD : Int → Nat) (R : HR) (P : Int → Int → Int) (σ σ' : STT) (f : HI → Option ((Int32 ⊕ String) × HI)) (a : Int ⊕ Nat) : Prop := ∀ I : HI, CIB I R AD P σ → CKN I AD σ → ∃ I', f I = some (cOut a, I') ∧ CIB I' R AD P σ' ∧ CKN I' AD σ' ∧ FR AD I I' (fun i _ => i < 316)
def RA (AD : Int → Nat) (R : HR) (σ σ' : STT) (f : HI → Option (Int32 × HI)) (a : Int ⊕ Nat) : Prop := ∀ I : HI, RIB I R AD σ → ∃ I', f I = some (rVal a, I') ∧ I' (AD 316) 5 = rThr a ∧ RIB I' R AD σ' ∧ FR AD I I' (fun i _ => 316 ≤ i)
/-- truncate: the state behind it -/
def sTrunc (σ : STT) (a : Int) : STT := if 0 ≤ a ∧ a ≤ σ.2.2.2.1 then setT σ a.toNat σ.2.2.2.2.1 else σ
theorem ca_truncate (S : OKS sh AD) (V : VST σ) (ha : IR a) : CA AD R P σ (sTrunc σ a) (fun I => fX10_truncate fu sh I R (AD 0) (iz a)) (if 0 ≤ a ∧ a ≤ σ.2.2.2.1 then .inl a else .inr 2) := by
  intro I C K
  obtain ⟨a1, a2⟩ := ha
  have tl := V.2.2.2.2.1
  have e1 : I (AD 0) 1 = iz (σ.2.2.2.1 : Int) := C.2.2.1.1
  unfold sTrunc
  by_cases z : 0 ≤ a ∧ a ≤ σ.2.2.2.1
  · have F0 : FR AD I (u2 I (AD 0) 1 (iz a)) (fun i k => i = 0 ∧ k = 1) := FR.u2 S (by decide) (by decide) ⟨rfl, rfl⟩ (FR.rf AD I _)
    have F : FR AD I (u2 I (AD 0) 1 (iz a)) (fun i k => i = 1 ∨ (i = 0 ∧ k = 1)) := F0.wd (fun i k z => Or.inr z)
    have u : u2 I (AD 0) 1 (iz a) (AD 0) 1 = iz a := by rw [u2_ad S (by decide) (by decide) (by decide) (by decide), if_pos ⟨rfl, rfl⟩]
    rw [if_pos z, if_pos z]
    refine ⟨u2 I (AD 0) 1 (iz a), ?_, C.tx V F (by rw [u, ← iz_tn z.1]) (fun k hk => (F0 1 (by decide) (by decide) k (by omega)).trans (C.2.2.2.1 k (by omega))), K.fr2 F (by omega) (by omega) (by omega) (fun _ _ _ _ => by omega) (fun _ => by omega), F.wd (fun i k z => by omega)⟩
    simp only [fX10_truncate, fX10_truncate_b12, if_pos (isT_of S.pl), oI_at S.pl, e1, bsome, oP_at S.pl, u, iz_lit]
    rw [if_neg (by rw [iz_lt a1 a2 (by decide) (by decide)]; omega), if_pos (by rw [iz_le a1 a2 (by omega) (by omega)]; omega)]
    rfl
  · rw [if_neg z, if_neg z]
    refine ⟨I, ?_, C, K, FR.rf _ _ _⟩
    simp only [fX10_truncate, fX10_truncate_b12, if_pos (isT_of S.pl), oI_at S.pl, e1, bsome, iz_lit]
    by_cases y : a < 0
    · rw [if_pos (by rw [iz_lt a1 a2 (by decide) (by decide)]; omega)]
      rfl
    · rw [if_neg (by rw [iz_lt a1 a2 (by decide) (by decide)]; omega), if_neg (by rw [iz_le a1 a2 (by omega) (by omega)]; omega)]
      rfl
/-- errorPosition -/
theorem c_errorPos (S : OKS sh AD) (C : CIB I R AD P σ) : fX10_errorPosition fu sh I R (AD 0) = some (iz σ.2.2.2.2.2.1) := by
  simp only [fX10_errorPosition, if_pos (isT_of S.pl), oI_at S.pl, C.2.2.1.2.1, bsome]
theorem rq_errorPos (S : OKS sh AD) : RQ sh AD R σ (fun I => fX11_errorPosition fu sh I R (AD 316)) (.inl σ.2.2.2.2.2.1) := by
  intro I H
  obtain ⟨H1, e5, f1⟩ := r_out (σ := σ) S H 0
  refine ⟨_, ?_, e5, H1, f1⟩
  have e15 := H1.2.2.1.2.2.2.1
  simp only [fX11_errorPosition, if_pos (isT_of S.md), oP_at S.md, bsome, iz_lit, oI_at S.md]
  rw [show (iz 0 : Int32) = iz ((0 : Nat) : Int) from rfl, e15]
  rfl
/-- planByte -/
def aPlanByte (σ : STT) (a : Int) : Int ⊕ Nat := if σ.1 = true then (if a < 0 then .inr 2 else if a < (σ.2.2.2.2.2.2.1 : Int) then .inl (σ.2.2.2.2.2.2.2 a.toNat) else .inr 3) else .inr 1
theorem cq_planByte (S : OKS sh AD) (V : VST σ) (ha : IR a) : CP AD R P σ (fun I => fX10_planByte fu sh I R (AD 0) (iz a)) (aPlanByte σ a) := by
  intro I C
  unfold aPlanByte
  obtain ⟨a1, a2⟩ := ha
  have pl := V.2.2.2.2.2.2.2
  have k26 := S.at (i := 26) (t := 3) (n := 2) rfl (by decide) (by decide)
  have k27 := S.at (i := 27) (t := 20) (n := 1056) rfl (by decide) (by decide)
  by_cases h : σ.1 = true
  · rw [if_pos h]
    simp only [fX10_planByte, if_pos (isT_of S.pl), c_needBoard S C, if_pos h, oT0l, iz_lit, oR_at S.pl C.1.1.2.2.2, oI_at k26, C.2.2.2.2.1.1, oR_at k26 C.1.2.2.2.2.2.1, bsome]
    by_cases z : a < 0
    · rw [if_neg (by rw [iz_le (by decide) (by decide) a1 a2]; omega), if_pos z]
      rfl
    · rw [if_pos (by rw [iz_le (by decide) (by decide) a1 a2]; omega), if_neg z]
      by_cases y : a < (σ.2.2.2.2.2.2.1 : Int)
      · rw [if_pos (by rw [iz_lt a1 a2 (by omega) (by omega)]; exact y), oA_iz k27 (by omega) (by omega) a2, bsome, C.2.2.2.2.1.2 a.toNat (by omega), if_pos y]
        rfl
      · rw [if_neg (by rw [iz_lt a1 a2 (by omega) (by omega)]; exact y), if_neg y]
        rfl
  · rw [if_neg h]
    simp only [fX10_planByte, if_pos (isT_of S.pl), c_needBoard S C, if_neg h, oT0r]
    rfl
end Q12
