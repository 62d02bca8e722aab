/-! STAGE 2: the text cut, the place of the error, the bytes of the plan -/
/-- a text of another length, other bytes -/
def setT (σ : STT) (n : Nat) (f : Nat → Int) : STT := (σ.1, σ.2.1, σ.2.2.1, n, f, σ.2.2.2.2.2)
section Q12
variable {fu : Nat} {sh : HS} {I I' : HI} {R : HR} {AD : Int → Nat} {P : Int → Int → Int} {σ : STT} {a : Int}
theorem VST.tx (V : VST σ) {n : Nat} {f : Nat → Int} (hn : n ≤ 800) (hf : ∀ k, k < n → 0 ≤ f k ∧ f k ≤ 255) : VST (setT σ n f) := ⟨V.1, V.2.1, V.2.2.1, V.2.2.2.1, hn, hf, V.2.2.2.2.2.2⟩
theorem CIB.tx (C : CIB I R AD P σ) (V : VST σ) {n : Nat} {f : Nat → Int} (F : FR AD I I' (fun i k => i = 1 ∨ (i = 0 ∧ k = 1))) (e1 : I' (AD 0) 1 = iz (n : Int)) (e2 : AR I' AD 1 n f) : CIB I' R AD P (setT σ n f) := by
  obtain ⟨c1, ⟨c2, c3⟩, ⟨c4, c5, c6⟩, c7, ⟨c8, c9⟩, c10, nx, c11, c12, c13, c14⟩ := C
  refine ⟨c1, ⟨(F 16 (by decide) (by decide) 0 (by omega)).trans c2, (F 21 (by decide) (by decide) 0 (by omega)).trans c3⟩, ⟨e1, (F 0 (by decide) (by decide) 2 (by omega)).trans c5, (F 0 (by decide) (by decide) 3 (by omega)).trans c6⟩, e2, ⟨(F 26 (by decide) (by decide) 1 (by omega)).trans c8, c9.fr F (by decide) (by decide) (fun _ => by omega)⟩, fun h => ?_, nx, c11, (F 4 (by decide) (by decide) 1 (by omega)).trans c12, (F 4 (by decide) (by decide) 2 (by omega)).trans c13, fun t h ht => ?_⟩
  · have q := c1.2.2.2.2.2.2.2 0 (by decide) (by decide)
    exact (c10 h).fr (V.1 h) (by decide) (by decide) (fun s g0 g1 => (q.2.2.2.1 s g0 g1).2) F (fun i k g0 g1 => by omega)
  · have r := hiB_r nx t
    have q := c1.2.2.2.2.2.2.2 (hiB nx t) (by omega) (by omega)
    exact (c14 t h ht).fr (V.2.2.1 h (List.mem_of_getElem? ht)) (by omega) (by omega) (fun s g0 g1 => (q.2.2.2.1 s g0 g1).2) F (fun i k g0 g1 => by omega)
theorem CKN.fr2 (C : CKN I AD σ) {W : Int → Nat → Prop} (F : FR AD I I' W) (w0 : ¬ W 0 9) (w1 : ¬ W 0 11) (w2 : ¬ W 16 5) (w3 : ∀ i k, 6 ≤ i → i ≤ 13 → ¬ W i k) (w4 : ∀ k, ¬ W 20 k) : CKN I' AD σ := by
  obtain ⟨c1, c2⟩ := C
  refine ⟨?_, ?_⟩
  · rcases c1 with c | ⟨c, d, e⟩
    · exact Or.inl ((F 0 (by decide) (by decide) 9 w0).trans c)
    · exact Or.inr ⟨(F 0 (by decide) (by decide) 9 w0).trans c, d, e.fr F w3⟩
  · rcases c2 with c | ⟨c, d, e1, e2⟩
    · exact Or.inl ((F 0 (by decide) (by decide) 11 w1).trans c)
    · exact Or.inr ⟨(F 0 (by decide) (by decide) 11 w1).trans c, d, (F 16 (by decide) (by decide) 5 w2).trans e1, e2.fr F (by decide) (by decide) w4⟩
/-- an action: the class's side, the reference's -/
def CA (AD : Int → Nat) (R : HR) (P : Int → Int → Int) (σ σ' : STT) (f : HI → Option ((Int32 ⊕ String) × HI)) (a : Int ⊕ Nat) : Prop := ∀ I : HI, CIB I R AD P σ → CKN I AD σ → ∃ I', f I = some (cOut a, I') ∧ CIB I' R AD P σ' ∧ CKN I' AD σ' ∧ FR AD I I' (fun i _ => i < 316)
/-- truncate: the state behind it -/
def sTrunc (σ : STT) (a : Int) : STT := if 0 ≤ a ∧ a ≤ σ.2.2.2.1 then setT σ a.toNat σ.2.2.2.2.1 else σ
theorem ca_truncate (S : OKS sh AD) (V : VST σ) (ha : IR a) : CA AD R P σ (sTrunc σ a) (fun I => fX10_truncate fu sh I R (AD 0) (iz a)) (if 0 ≤ a ∧ a ≤ σ.2.2.2.1 then .inl a else .inr 2) := by
  intro I C K
  obtain ⟨a1, a2⟩ := ha
  have tl := V.2.2.2.2.1
  have e1 : I (AD 0) 1 = iz (σ.2.2.2.1 : Int) := C.2.2.1.1
  unfold sTrunc
  by_cases z : 0 ≤ a ∧ a ≤ σ.2.2.2.1
  · have F0 : FR AD I (u2 I (AD 0) 1 (iz a)) (fun i k => i = 0 ∧ k = 1) := FR.u2 S (by decide) (by decide) ⟨rfl, rfl⟩ (FR.rf AD I _)
    have F : FR AD I (u2 I (AD 0) 1 (iz a)) (fun i k => i = 1 ∨ (i = 0 ∧ k = 1)) := F0.wd (fun i k z => Or.inr z)
    have u : u2 I (AD 0) 1 (iz a) (AD 0) 1 = iz a := by rw [u2_ad S (by decide) (by decide) (by decide) (by decide), if_pos ⟨rfl, rfl⟩]
    rw [if_pos z, if_pos z]
    refine ⟨u2 I (AD 0) 1 (iz a), ?_, C.tx V F (by rw [u, ← iz_tn z.1]) (fun k hk => (F0 1 (by decide) (by decide) k (by omega)).trans (C.2.2.2.1 k (by omega))), K.fr2 F (by omega) (by omega) (by omega) (fun _ _ _ _ => by omega) (fun _ => by omega), F.wd (fun i k z => by omega)⟩
    simp only [fX10_truncate, fX10_truncate_b12, if_pos (isT_of S.pl), oI_at S.pl, e1, bsome, oP_at S.pl, u, iz_lit]
    rw [if_neg (by rw [iz_lt a1 a2 (by decide) (by decide)]; omega), if_pos (by rw [iz_le a1 a2 (by omega) (by omega)]; omega)]
    rfl
  · rw [if_neg z, if_neg z]
    refine ⟨I, ?_, C, K, FR.rf _ _ _⟩
    simp only [fX10_truncate, fX10_truncate_b12, if_pos (isT_of S.pl), oI_at S.pl, e1, bsome, iz_lit]
    by_cases y : a < 0
    · rw [if_pos (by rw [iz_lt a1 a2 (by decide) (by decide)]; omega)]
      rfl
    · rw [if_neg (by rw [iz_lt a1 a2 (by decide) (by decide)]; omega), if_neg (by rw [iz_le a1 a2 (by omega) (by omega)]; omega)]
      rfl
end Q12
