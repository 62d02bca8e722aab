/-! the JDK's String.length, String.charAt over the texts of the tables -/
def cFs (mi pc t pc' : Nat) : Bool := cP mi pc (fun x => match x with | .getfield ix => decide ((lk2 fL (mC mi) ix).map (·.1) = some t) | _ => false) pc' && decide (pc' = pc + 3)
def cGs (mi pc q pc' : Nat) : Bool := cP mi pc (fun x => match x with | .getstatic ix => decide ((lk2 gL (mC mi) ix).map (·.1) = some q) | _ => false) pc' && decide (pc' = pc + 3)
section ST
variable {K J : Nat → Nat} {mi pc pc' : Nat} {L L' : VL} {st : List Value} {sh : HS} {I : HI} {R : HR} {c : Nat × Nat} {F : VF} {ins : Instr} {ω : Type} {o : ω}
theorem s_gS {i : Nat} (h : cFs mi pc 20 pc' = true) (hi : i < nS) (k : V K J mi pc' L (.ref (J i) :: st) sh I R c F) : V K J mi pc L (.ref (K i) :: st) sh I R c F := by
  unfold cFs at h
  rw [Bool.and_eq_true, decide_eq_true_eq] at h
  refine s_P h.1 fun y n g1 g2 g3 => ?_
  cases y <;> simp only [Bool.false_eq_true] at g1
  simp only [decide_eq_true_eq] at g1
  obtain ⟨q, hq, hq2⟩ := Option.map_eq_some_iff.mp g1
  obtain ⟨t', k', ty', p'⟩ := q
  cases hq2
  unfold Vi
  simp only [ldI, stI, cst, cstS, cstJ, ari, bra, hq]
  rw [← h.2]
  exact ⟨i, hi, rfl, k⟩
theorem s_gC {i : Nat} (h : cFs mi pc 21 pc' = true) (hi : i < nS) (k : V K J mi pc' L (.int 0 :: st) sh I R c F) : V K J mi pc L (.ref (K i) :: st) sh I R c F := by
  unfold cFs at h
  rw [Bool.and_eq_true, decide_eq_true_eq] at h
  refine s_P h.1 fun y n g1 g2 g3 => ?_
  cases y <;> simp only [Bool.false_eq_true] at g1
  simp only [decide_eq_true_eq] at g1
  obtain ⟨q, hq, hq2⟩ := Option.map_eq_some_iff.mp g1
  obtain ⟨t', k', ty', p'⟩ := q
  cases hq2
  unfold Vi
  simp only [ldI, stI, cst, cstS, cstJ, ari, bra, hq]
  rw [← h.2]
  exact ⟨i, hi, rfl, k⟩
theorem s_aln {i : Nat} (h : cI mi pc .arraylength pc' = true) (hi : i < nS) (k : V K J mi pc' L (.int (nI (sLen i)) :: st) sh I R c F) : V K J mi pc L (.ref (J i) :: st) sh I R c F := by
  refine s_P h fun y n g1 g2 g3 => ?_
  simp only [decide_eq_true_eq] at g1
  subst g1
  unfold Vi
  simp only [ldI, stI, cst, cstS, cstJ, ari, bra, g3]
  exact ⟨i, hi, rfl, k⟩
theorem s_bal {i : Nat} {x : Int32} (h : cI mi pc .baload pc' = true) (hi : i < nS) (hv : vp_in x (sLen i)) (k : V K J mi pc' L (.int (sByt i x.toNatClampNeg) :: st) sh I R c F) : V K J mi pc L (.int x :: .ref (J i) :: st) sh I R c F := by
  refine s_P h fun y n g1 g2 g3 => ?_
  simp only [decide_eq_true_eq] at g1
  subst g1
  unfold Vi
  simp only [ldI, stI, cst, cstS, cstJ, ari, bra, g3]
  exact ⟨i, hi, rfl, hv, k⟩
theorem s_gs0 (h : cGs mi pc 0 pc' = true) (k : V K J mi pc' L (.int 1 :: st) sh I R c F) : V K J mi pc L st sh I R c F := by
  unfold cGs at h
  rw [Bool.and_eq_true, decide_eq_true_eq] at h
  refine s_P h.1 fun y n g1 g2 g3 => ?_
  cases y <;> simp only [Bool.false_eq_true] at g1
  simp only [decide_eq_true_eq] at g1
  obtain ⟨q, hq, hq2⟩ := Option.map_eq_some_iff.mp g1
  obtain ⟨t', p'⟩ := q
  cases hq2
  unfold Vi
  simp only [ldI, stI, cst, cstS, cstJ, ari, bra, hq]
  rw [← h.2]
  exact k
theorem s_gs1 (h : cGs mi pc 1 pc' = true) (k : ∀ v, (v = .null ∨ ∃ a, v = .ref a) → V K J mi pc' L (v :: st) sh I R c F) : V K J mi pc L st sh I R c F := by
  unfold cGs at h
  rw [Bool.and_eq_true, decide_eq_true_eq] at h
  refine s_P h.1 fun y n g1 g2 g3 => ?_
  cases y <;> simp only [Bool.false_eq_true] at g1
  simp only [decide_eq_true_eq] at g1
  obtain ⟨q, hq, hq2⟩ := Option.map_eq_some_iff.mp g1
  obtain ⟨t', p'⟩ := q
  cases hq2
  unfold Vi
  simp only [ldI, stI, cst, cstS, cstJ, ari, bra, hq]
  rw [← h.2]
  exact k
theorem s_rn {x : Int32} {ty : FieldType} {X Y : Nat} (h : cRt mi pc .ireturn (some ty) X Y = true) (hx : narrow ty (.int x) = .int x) (hc : c.1 ≤ X ∧ c.2 ≤ Y) (hF : F (.inl (some (.int x))) sh I R) : V K J mi pc L [.int x] sh I R c F := by
  unfold cRt at h
  simp only [Bool.and_eq_true, decide_eq_true_eq] at h
  obtain ⟨h1, h2, h3, h4⟩ := h
  refine s_P h1 fun y n g1 g2 g3 => ?_
  simp only [decide_eq_true_eq] at g1
  subst g1
  unfold Vi
  simp only [ldI, stI, cst, cstS, cstJ, ari, bra]
  exact ⟨⟨_, h2, hx⟩, by omega, by omega, hF⟩
theorem v_coder {i : Nat} (hi : i < nS) (hF : F (.inl (some (.int 0))) sh I R) : V K J 170 0 [some (.ref (K i))] [] sh I R (0, 0) F := by
  refine s_gs0 (pc' := 3) (by decide +kernel) ?_
  refine s_b (ins := .ifCond .eq 10) (t := 13) (pc' := 6) (by decide +kernel) rfl rfl rfl (fun z => absurd z (by decide)) (fun _ => ?_)
  refine s_rl (i := 0) (pc' := 7) (by decide +kernel) rfl ?_
  refine s_gC (i := i) (pc' := 10) (by decide +kernel) hi ?_
  refine s_go (t := 14) (by decide +kernel) ?_
  exact s_rn (ty := .byte) (X := 0) (Y := 0) (by decide +kernel) rfl ⟨Nat.le_refl _, Nat.le_refl _⟩ hF
theorem v_latin {i : Nat} (hi : i < nS) (hF : F (.inl (some (.int 1))) sh I R) : V K J 171 0 [some (.ref (K i))] [] sh I R (0, 0) F := by
  refine s_gs0 (pc' := 3) (by decide +kernel) ?_
  refine s_b (ins := .ifCond .eq 14) (t := 17) (pc' := 6) (by decide +kernel) rfl rfl rfl (fun z => absurd z (by decide)) (fun _ => ?_)
  refine s_rl (i := 0) (pc' := 7) (by decide +kernel) rfl ?_
  refine s_gC (i := i) (pc' := 10) (by decide +kernel) hi ?_
  refine s_b (ins := .ifCond .ne 7) (t := 17) (pc' := 13) (by decide +kernel) rfl rfl rfl (fun z => absurd z (by decide)) (fun _ => ?_)
  refine s_c (v := 1) (pc' := 14) (by decide +kernel) ?_
  refine s_go (t := 18) (by decide +kernel) ?_
  exact s_rz (X := 0) (Y := 0) (by decide +kernel) (Or.inr rfl) ⟨Nat.le_refl _, Nat.le_refl _⟩ hF
theorem v_check {x m : Int32} {v : Value} (h0 : ¬ x < 0) (h1 : x < m) (hF : F (.inl (some (.int x))) sh I R) : V K J 194 0 [some (.int x), some (.int m), some v] [] sh I R (0, 0) F := by
  refine s_il (i := 0) (pc' := 1) (by decide +kernel) rfl ?_
  refine s_b (ins := .ifCond .lt 8) (t := 9) (pc' := 4) (by decide +kernel) rfl rfl rfl (fun z => absurd (of_decide_eq_true z) h0) (fun _ => ?_)
  refine s_il (i := 0) (pc' := 5) (by decide +kernel) rfl ?_
  refine s_il (i := 1) (pc' := 6) (by decide +kernel) rfl ?_
  refine s_b (ins := .if_icmp .lt 10) (t := 16) (pc' := 9) (by decide +kernel) rfl rfl rfl (fun _ => ?_) (fun z => absurd h1 (of_decide_eq_false z))
  refine s_il (i := 0) (pc' := 17) (by decide +kernel) rfl ?_
  exact s_ri (X := 0) (Y := 0) (by decide +kernel) ⟨Nat.le_refl _, Nat.le_refl _⟩ hF
theorem v_checkS {x m : Int32} (h0 : ¬ x < 0) (h1 : x < m) (hF : F (.inl none) sh I R) : V K J 172 0 [some (.int x), some (.int m)] [] sh I R (0, 0) F := by
  refine s_il (i := 0) (pc' := 1) (by decide +kernel) rfl ?_
  refine s_il (i := 1) (pc' := 2) (by decide +kernel) rfl ?_
  refine s_gs1 (pc' := 5) (by decide +kernel) (fun v hv => ?_)
  have ml : mL 194 = 3 := by decide +kernel
  have mk : mK 194 = 0 := by decide +kernel
  have hcat : (v.category == 1) = true ∧ ¬ v.category = 2 := by
    rcases hv with rfl | ⟨a, rfl⟩
    · exact ⟨rfl, by decide⟩
    · exact ⟨rfl, by show ¬ 1 = 2; decide⟩
  have he : entA [.int x, .int m, v] = [some (.int x), some (.int m), some v] := by
    show (some (Value.int x) :: some (Value.int m) :: entA [v]) = _
    unfold entA
    rw [if_neg hcat.2]
    rfl
  refine s_call (q := 194) (na := 3) (pc' := 8) (X := 0) (Y := 0) (X' := 0) (Y' := 0) (as := [v, .int m, .int x]) (rest := []) (G := fun o' sh' I' R' => o' = .inl (some (.int x)) ∧ sh' = sh ∧ I' = I ∧ R' = R) (by decide +kernel) ⟨Nat.le_refl _, Nat.le_refl _⟩ rfl rfl ?_ (Or.inl ?_) (fun z => absurd (mk.symm.trans z) (by decide)) (fun z => absurd (mk.symm.trans z) (by decide)) ?_ ?_ ?_ ?_
  · show Nat.ble (entA [.int x, .int m, v]).length _ = true
    rw [ml, he]
    rfl
  · show (v.category == 1 && true) = true
    rw [hcat.1]
    rfl
  · show V K J 194 0 (ent _ [.int x, .int m, v]) [] sh I R (0, 0) _
    rw [ml]
    unfold ent
    rw [he]
    exact v_check h0 h1 ⟨rfl, rfl, rfl, rfl⟩
  · rintro sh' I' R' c' hc' ⟨g1, rfl, rfl, rfl⟩
    cases g1
  · rintro v' sh' I' R' c' hc' ⟨g1, rfl, rfl, rfl⟩
    cases g1
    refine s_a (ins := .pop) (pc' := 9) (by decide +kernel) rfl ?_
    exact s_rv (X := 0) (Y := 0) (by decide +kernel) hc' hF
  · rintro E' sh' I' R' ⟨g1, rfl, rfl, rfl⟩
    cases g1
/-- a sign of a text, as StringLatin1.charAt makes it -/
def chr (i : Nat) (x : Int32) : Int32 := ((sByt i x.toNatClampNeg &&& 255).toUInt32 % 65536).toInt32
theorem chr_okB : ((List.range nS).all fun i => (List.range (sLen i + 1)).all fun j => decide (narrow .char (.int (((sByt i j &&& 255).toUInt32 % 65536).toInt32)) = .int (((sByt i j &&& 255).toUInt32 % 65536).toInt32))) = true := by decide +kernel
theorem chr_ok {i : Nat} {x : Int32} (hi : i < nS) (hv : vp_in x (sLen i)) : narrow .char (.int (chr i x)) = .int (chr i x) := by
  have h := List.all_eq_true.mp chr_okB i (List.mem_range.mpr hi)
  have h2 := List.all_eq_true.mp h x.toNatClampNeg (List.mem_range.mpr (by
    have : ¬ sLen i ≤ x.toNatClampNeg := fun z => hv (Or.inr z)
    omega))
  exact of_decide_eq_true h2
theorem nS_lt {x : Int32} {n : Nat} (hn : n < 1000) (h : vp_in x n) : ¬ x < 0 ∧ x < nI n := by
  have h0 : ¬ x < 0 := fun z => h (Or.inl z)
  have h1 : ¬ n ≤ x.toNatClampNeg := fun z => h (Or.inr z)
  refine ⟨h0, ?_⟩
  have h2 : (0 : Int) ≤ x.toInt := by
    have := Int32.le_iff_toInt_le.mp (Int32.not_lt.mp h0)
    simpa using this
  have h3 : x.toInt.toNat < n := Nat.not_le.mp h1
  refine Int32.lt_iff_toInt_lt.mpr ?_
  have h4 : (nI n).toInt = (n : Int) := by
    show (Int32.ofNat n).toInt = n
    exact Int32.toInt_ofNat_of_lt (by omega)
  omega
theorem sLen_small : ((List.range nS).all fun i => decide (sLen i < 1000)) = true := by decide +kernel
theorem v_sl1 {i : Nat} {x : Int32} (hi : i < nS) (hv : vp_in x (sLen i)) (hF : F (.inl (some (.int (chr i x)))) sh I R) : V K J 190 0 [some (.ref (J i)), some (.int x)] [] sh I R (0, 0) F := by
  have hs := nS_lt (of_decide_eq_true (List.all_eq_true.mp sLen_small i (List.mem_range.mpr hi))) hv
  refine s_il (i := 1) (pc' := 1) (by decide +kernel) rfl ?_
  refine s_rl (i := 0) (pc' := 2) (by decide +kernel) rfl ?_
  refine s_aln (pc' := 3) (by decide +kernel) hi ?_
  have ml : mL 172 = 2 := by decide +kernel
  have mk : mK 172 = 0 := by decide +kernel
  refine s_call (q := 172) (na := 2) (pc' := 6) (X := 0) (Y := 0) (X' := 0) (Y' := 0) (as := [.int (nI (sLen i)), .int x]) (rest := []) (G := fun o' sh' I' R' => o' = .inl none ∧ sh' = sh ∧ I' = I ∧ R' = R) (by decide +kernel) ⟨Nat.le_refl _, Nat.le_refl _⟩ rfl rfl (by rw [ml]; rfl) (Or.inl rfl) (fun z => absurd (mk.symm.trans z) (by decide)) (fun z => absurd (mk.symm.trans z) (by decide)) (by rw [ml]; exact v_checkS hs.1 hs.2 ⟨rfl, rfl, rfl, rfl⟩) ?_ ?_ ?_
  · rintro sh' I' R' c' hc' ⟨g1, rfl, rfl, rfl⟩
    refine s_rl (i := 0) (pc' := 7) (by decide +kernel) rfl ?_
    refine s_il (i := 1) (pc' := 8) (by decide +kernel) rfl ?_
    refine s_bal (pc' := 9) (by decide +kernel) hi hv ?_
    refine s_c (v := 255) (pc' := 12) (by decide +kernel) ?_
    refine s_a (ins := .iand) (pc' := 13) (by decide +kernel) rfl ?_
    refine s_a (ins := .i2c) (pc' := 14) (by decide +kernel) rfl ?_
    exact s_rn (ty := .char) (X := 0) (Y := 0) (by decide +kernel) (chr_ok hi hv) hc' hF
  · rintro v' sh' I' R' c' hc' ⟨g1, rfl, rfl, rfl⟩
    cases g1
  · rintro E' sh' I' R' ⟨g1, rfl, rfl, rfl⟩
    cases g1
theorem v_len {i : Nat} (hi : i < nS) (hF : F (.inl (some (.int (nI (sLen i))))) sh I R) : V K J 163 0 [some (.ref (K i))] [] sh I R (0, 0) F := by
  refine s_rl (i := 0) (pc' := 1) (by decide +kernel) rfl ?_
  refine s_gS (pc' := 4) (by decide +kernel) hi ?_
  refine s_aln (pc' := 5) (by decide +kernel) hi ?_
  refine s_rl (i := 0) (pc' := 6) (by decide +kernel) rfl ?_
  have ml : mL 170 = 1 := by decide +kernel
  have mk : mK 170 = 1 := by decide +kernel
  have mc : mC 170 = 14 := by decide +kernel
  refine s_call (q := 170) (na := 1) (pc' := 9) (X := 0) (Y := 0) (X' := 0) (Y' := 0) (as := [.ref (K i)]) (rest := [.int (nI (sLen i))]) (G := fun o' sh' I' R' => o' = .inl (some (.int 0)) ∧ sh' = sh ∧ I' = I ∧ R' = R) (by decide +kernel) ⟨Nat.le_refl _, Nat.le_refl _⟩ rfl rfl (by rw [ml]; rfl) (Or.inl rfl) (fun _ => Or.inl (Or.inr ⟨mc, i, hi, rfl⟩)) (fun z => absurd (mk.symm.trans z) (by decide)) (by rw [ml]; exact v_coder hi ⟨rfl, rfl, rfl, rfl⟩) ?_ ?_ ?_
  · rintro sh' I' R' c' hc' ⟨g1, rfl, rfl, rfl⟩
    cases g1
  · rintro v' sh' I' R' c' hc' ⟨g1, rfl, rfl, rfl⟩
    cases g1
    refine s_a (ins := .ishr) (pc' := 10) (by decide +kernel) rfl ?_
    have e : nI (sLen i) >>> ((0 : Int32) &&& 31) = nI (sLen i) := by
      have := List.all_eq_true.mp (show ((List.range nS).all fun i => decide (nI (sLen i) >>> ((0 : Int32) &&& 31) = nI (sLen i))) = true by decide +kernel) i (List.mem_range.mpr hi)
      exact of_decide_eq_true this
    rw [e]
    exact s_ri (X := 0) (Y := 0) (by decide +kernel) hc' hF
  · rintro E' sh' I' R' ⟨g1, rfl, rfl, rfl⟩
    cases g1
theorem v_chr {i : Nat} {x : Int32} (hi : i < nS) (hv : vp_in x (sLen i)) (hF : F (.inl (some (.int (chr i x)))) sh I R) : V K J 164 0 [some (.ref (K i)), some (.int x)] [] sh I R (0, 0) F := by
  refine s_rl (i := 0) (pc' := 1) (by decide +kernel) rfl ?_
  have ml : mL 171 = 1 := by decide +kernel
  have mk : mK 171 = 1 := by decide +kernel
  have mc : mC 171 = 14 := by decide +kernel
  have ml2 : mL 190 = 2 := by decide +kernel
  have mk2 : mK 190 = 0 := by decide +kernel
  refine s_call (q := 171) (na := 1) (pc' := 4) (X := 0) (Y := 0) (X' := 0) (Y' := 0) (as := [.ref (K i)]) (rest := []) (G := fun o' sh' I' R' => o' = .inl (some (.int 1)) ∧ sh' = sh ∧ I' = I ∧ R' = R) (by decide +kernel) ⟨Nat.le_refl _, Nat.le_refl _⟩ rfl rfl (by rw [ml]; rfl) (Or.inl rfl) (fun _ => Or.inl (Or.inr ⟨mc, i, hi, rfl⟩)) (fun z => absurd (mk.symm.trans z) (by decide)) (by rw [ml]; exact v_latin hi ⟨rfl, rfl, rfl, rfl⟩) ?_ ?_ ?_
  · rintro sh' I' R' c' hc' ⟨g1, rfl, rfl, rfl⟩
    cases g1
  · rintro v' sh' I' R' c' hc' ⟨g1, rfl, rfl, rfl⟩
    cases g1
    refine s_b (ins := .ifCond .eq 12) (t := 16) (pc' := 7) (by decide +kernel) rfl rfl rfl (fun z => absurd z (by decide)) (fun _ => ?_)
    refine s_rl (i := 0) (pc' := 8) (by decide +kernel) rfl ?_
    refine s_gS (pc' := 11) (by decide +kernel) hi ?_
    refine s_il (i := 1) (pc' := 12) (by decide +kernel) rfl ?_
    refine s_call (q := 190) (na := 2) (pc' := 15) (X := 0) (Y := 0) (X' := 0) (Y' := 0) (as := [.int x, .ref (J i)]) (rest := []) (G := fun o' s1 s2 s3 => o' = .inl (some (.int (chr i x))) ∧ s1 = sh' ∧ s2 = I' ∧ s3 = R') (by decide +kernel) hc' rfl rfl (by rw [ml2]; rfl) (Or.inl rfl) (fun z => absurd (mk2.symm.trans z) (by decide)) (fun z => absurd (mk2.symm.trans z) (by decide)) (by rw [ml2]; exact v_sl1 hi hv ⟨rfl, rfl, rfl, rfl⟩) ?_ ?_ ?_
    · rintro sh' I' R' c' hc' ⟨g1, rfl, rfl, rfl⟩
      cases g1
    · rintro v' sh' I' R' c' hc' ⟨g1, rfl, rfl, rfl⟩
      cases g1
      exact s_rn (ty := .char) (X := 0) (Y := 0) (by decide +kernel) (chr_ok hi hv) hc' hF
    · rintro E' sh' I' R' ⟨g1, rfl, rfl, rfl⟩
      cases g1
  · rintro E' sh' I' R' ⟨g1, rfl, rfl, rfl⟩
    cases g1
end ST
def fJ0_length_8abf5 (fu : Nat) (sh : HS) (I : HI) (R : HR) (l0 : Nat) : Option Int32 := if l0 < nS then some (nI (sLen l0)) else none
def fJ0_charAt_5068e (fu : Nat) (sh : HS) (I : HI) (R : HR) (l0 : Nat) (l1 : Int32) : Option Int32 := if l0 < nS ∧ ¬ (l1 < 0 ∨ sLen l0 ≤ l1.toNatClampNeg) then some (chr l0 l1) else none
theorem kJ0_length_8abf5 {K J : Nat → Nat} {fu : Nat} {sh : HS} {I : HI} {R : HR} {F : VF} {mi pc pc' X Y X' Y' : Nat} {L : VL} {rest : List Value} {c : Nat × Nat} {l0 : Nat} {ω : Type} {o : ω} {g : Int32 → Option ω} (hq : cQ mi pc 163 1 pc' X Y X' Y' = true) (hc : c.1 ≤ X ∧ c.2 ≤ Y) (hr : Nat.ble (catS rest) 8 = true) (h : (fJ0_length_8abf5 fu sh I R l0).bind g = some o) (kk : ∀ v c', (c'.1 ≤ X' ∧ c'.2 ≤ Y') → g v = some o → V K J mi pc' L ((.int v) :: rest) sh I R c' F) : V K J mi pc L (.ref (K l0) :: rest) sh I R c F := by
  obtain ⟨r, h1, h2⟩ := bnd h
  unfold fJ0_length_8abf5 at h1
  split at h1
  · rename_i hi
    cases h1
    have ml : mL 163 = 1 := by decide +kernel
    have mk : mK 163 = 1 := by decide +kernel
    have mc : mC 163 = 14 := by decide +kernel
    refine s_call (as := [.ref (K l0)]) (G := fun o' sh' I' R' => o' = .inl (some (.int (nI (sLen l0)))) ∧ sh' = sh ∧ I' = I ∧ R' = R) hq hc rfl hr (by rw [ml]; rfl) (Or.inl rfl) (fun _ => Or.inl (Or.inr ⟨mc, l0, hi, rfl⟩)) (fun z => absurd (mk.symm.trans z) (by decide)) (by rw [ml]; exact v_len hi ⟨rfl, rfl, rfl, rfl⟩) ?_ ?_ ?_
    · rintro sh' I' R' c' hc' ⟨g1, rfl, rfl, rfl⟩
      cases g1
    · rintro v' sh' I' R' c' hc' ⟨g1, rfl, rfl, rfl⟩
      cases g1
      exact kk _ _ hc' h2
    · rintro E' sh' I' R' ⟨g1, rfl, rfl, rfl⟩
      cases g1
  · cases h1
theorem kJ0_charAt_5068e {K J : Nat → Nat} {fu : Nat} {sh : HS} {I : HI} {R : HR} {F : VF} {mi pc pc' X Y X' Y' : Nat} {L : VL} {rest : List Value} {c : Nat × Nat} {l0 : Nat} {l1 : Int32} {ω : Type} {o : ω} {g : Int32 → Option ω} (hq : cQ mi pc 164 2 pc' X Y X' Y' = true) (hc : c.1 ≤ X ∧ c.2 ≤ Y) (hr : Nat.ble (catS rest) 8 = true) (h : (fJ0_charAt_5068e fu sh I R l0 l1).bind g = some o) (kk : ∀ v c', (c'.1 ≤ X' ∧ c'.2 ≤ Y') → g v = some o → V K J mi pc' L ((.int v) :: rest) sh I R c' F) : V K J mi pc L (.int l1 :: .ref (K l0) :: rest) sh I R c F := by
  obtain ⟨r, h1, h2⟩ := bnd h
  unfold fJ0_charAt_5068e at h1
  split at h1
  · rename_i hi
    obtain ⟨hi, hv⟩ := hi
    cases h1
    have ml : mL 164 = 2 := by decide +kernel
    have mk : mK 164 = 1 := by decide +kernel
    have mc : mC 164 = 14 := by decide +kernel
    refine s_call (as := [.int l1, .ref (K l0)]) (G := fun o' sh' I' R' => o' = .inl (some (.int (chr l0 l1))) ∧ sh' = sh ∧ I' = I ∧ R' = R) hq hc rfl hr (by rw [ml]; rfl) (Or.inl rfl) (fun _ => Or.inl (Or.inr ⟨mc, l0, hi, rfl⟩)) (fun z => absurd (mk.symm.trans z) (by decide)) (by rw [ml]; exact v_chr hi hv ⟨rfl, rfl, rfl, rfl⟩) ?_ ?_ ?_
    · rintro sh' I' R' c' hc' ⟨g1, rfl, rfl, rfl⟩
      cases g1
    · rintro v' sh' I' R' c' hc' ⟨g1, rfl, rfl, rfl⟩
      cases g1
      exact kk _ _ hc' h2
    · rintro E' sh' I' R' ⟨g1, rfl, rfl, rfl⟩
      cases g1
  · cases h1
