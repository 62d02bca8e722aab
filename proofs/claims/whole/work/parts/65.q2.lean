/-! STAGE 2: questions about setups and the order, on both sides -/
def IR (a : Int) : Prop := -2147483648 ≤ a ∧ a ≤ 2147483647
section Q2
variable {fu : Nat} {sh : HS} {I : HI} {R : HR} {AD : Int → Nat} {P : Int → Int → Int} {σ : STT}
theorem VST.n4 (V : VST σ) : 0 ≤ σ.2.1 4 ∧ σ.2.1 4 ≤ 12 := by
  cases h : σ.1
  · rw [(V.2.1 h).2 4]; decide
  · exact (V.1 h).n
theorem VST.n3 (V : VST σ) : 0 ≤ σ.2.1 3 ∧ σ.2.1 3 ≤ 3 := by
  cases h : σ.1
  · rw [(V.2.1 h).2 3]; decide
  · have := (V.1 h).m; omega
theorem wr1 {l g : Bool} (h : l = false) : wrT l g = 1 := by unfold wrT; rw [h, if_neg (by decide)]
theorem wr0 {l g : Bool} (h : l = true) (h2 : g = true) : wrT l g = 0 := by unfold wrT; rw [if_pos h, if_pos h2]
theorem wr2 {l g : Bool} (h : l = true) (h2 : g = false) : wrT l g = 2 := by unfold wrT; rw [if_pos h, if_neg (by rw [h2]; decide)]
theorem r_isShot (S : OKS sh AD) (H : RIB I R AD σ) (V : VST σ) {a : Int} (ha : IR a) : fX11_isShot fu sh I R (AD 316) (iz a) = some (bz (decide (0 ≤ a) && decide (a ≤ σ.2.1 4 - 1))) := by
  have n4 := V.n4
  obtain ⟨a1, a2⟩ := ha
  simp only [fX11_isShot, if_pos (isT_of S.md), oR_at S.md H.1.1.1, bsome, iz_lit, r_row S H.1 H.2.1 (by decide : (0 : Int) ≤ 4) (by decide : (4 : Int) < 119), iz_sub, toJ_iz a1 a2, jlit]
  rw [toJ_iz (by omega) (by omega), r_isIn a1 a2 (by decide) (by decide) (by omega) (by omega), bsome, oZ_bz, bsome]
theorem c_needShot (S : OKS sh AD) (C : CIB I R AD P σ) (V : VST σ) (h : σ.1 = true) {a : Int} (ha : IR a) : fX10_needShot fu sh I R (AD 0) (iz a) = some (if 0 ≤ a ∧ a ≤ σ.2.1 4 - 1 then .inl () else .inr (exN 2)) := by
  have n4 := V.n4
  obtain ⟨a1, a2⟩ := ha
  have B := C.ba S V h
  simp only [fX10_needShot, if_pos (isT_of S.pl), oR_at S.pl C.1.1.1.2.1, B.1.2.1.2.2.2.2, bsome, iz_lit, iz_sub]
  rw [c_needRange a1 a2 (by decide) (by decide) (by omega) (by omega)]
  by_cases z : 0 ≤ a ∧ a ≤ σ.2.1 4 - 1
  · rw [if_pos z, oT0l]
  · rw [if_neg z, oT0r]
/-- the reference's way out -/
theorem r_out (S : OKS sh AD) (H : RIB I R AD σ) (e : Nat) : RIB (u2 I (AD 316) 5 (iz (e : Int))) R AD σ ∧ u2 I (AD 316) 5 (iz (e : Int)) (AD 316) 5 = iz (e : Int) ∧ FR AD I (u2 I (AD 316) 5 (iz (e : Int))) (fun i _ => 316 ≤ i) := by
  obtain ⟨H1, f1, e5⟩ := H.w5 S (iz (e : Int))
  exact ⟨H1, e5, f1.wd fun i k z => by omega⟩
/-- bestCost -/
def aBest (σ : STT) : Int ⊕ Nat := if σ.1 = true then .inl (bcD (mSet σ.2.1) (prG σ.2.1)) else .inr 1
theorem cq_bestCost (S : OKS sh AD) (V : VST σ) (hfu : 5000 ≤ fu) : CQ sh AD R P σ (fun I => fX10_bestCost fu sh I R (AD 0)) (aBest σ) := by
  intro I C K
  unfold aBest
  by_cases h : σ.1 = true
  · obtain ⟨I', e, C', K', t, ko, f⟩ := c_know2 (fu := fu) S C K V hfu h
    refine ⟨I', ?_, C', K', f⟩
    simp only [fX10_bestCost, if_pos (isT_of S.pl), c_needBoard S C, if_pos h, oT0l, e, bsome, oR_at S.pl C.1.1.2.1, oI_at (rts16 S C.1.2.2.1).1.1, ko.1]
    rfl
  · refine ⟨I, ?_, C, K, FR.rf _ _ _⟩
    simp only [fX10_bestCost, if_pos (isT_of S.pl), c_needBoard S C, if_neg h, oT0r]
    rfl
theorem rq_bestCost (S : OKS sh AD) (V : VST σ) (hfu : 5000 ≤ fu) : RQ sh AD R σ (fun I => fX11_bestCost fu sh I R (AD 316)) (aBest σ) := by
  intro I H
  unfold aBest
  have w := r_isWrong (fu := fu) (R := R) (σ := σ) S H.2.2.1.2.1 true
  have o : (iz 1 : Int32) = bz true := rfl
  by_cases h : σ.1 = true
  · rw [wr0 h rfl] at w
    obtain ⟨H1, e5, f1⟩ := r_out (σ := σ) S H 0
    obtain ⟨I', e, g, kb, H2, e2, f2⟩ := r_know2 (fu := fu) S H1 V hfu h
    refine ⟨I', ?_, ?_, H2, f1.tr f2⟩
    · simp only [fX11_bestCost, if_pos (isT_of S.md), iz_lit]
      rw [o, w]
      simp only [oHs, bz_zero]
      rw [if_pos (by decide), e]
      simp only [bsome, oI_at S.md, kb.1]
      rw [if_pos h]
      rfl
    · rw [e2, e5, if_pos h]
      rfl
  · have hf : σ.1 = false := by simpa using h
    rw [wr1 hf] at w
    obtain ⟨H1, e5, f1⟩ := r_out (σ := σ) S H 1
    refine ⟨_, ?_, ?_, H1, f1⟩
    · simp only [fX11_bestCost, if_pos (isT_of S.md), iz_lit]
      rw [o, w]
      simp only [oHs, bz_zero]
      rw [if_neg (by decide), if_neg h]
      rfl
    · rw [e5, if_neg h]
      rfl
/-- ordered -/
def aOrdered (σ : STT) (a : Int) : Int ⊕ Nat := if σ.1 = true then (if a < 0 then .inr 2 else if a < mSet σ.2.1 then .inl (orS (mSet σ.2.1) (prG σ.2.1) a.toNat : Int) else .inr 3) else .inr 1
theorem cq_ordered (S : OKS sh AD) (V : VST σ) (hfu : 5000 ≤ fu) {a : Int} (ha : IR a) : CQ sh AD R P σ (fun I => fX10_ordered fu sh I R (AD 0) (iz a)) (aOrdered σ a) := by
  intro I C K
  obtain ⟨a1, a2⟩ := ha
  unfold aOrdered
  by_cases h : σ.1 = true
  · have hm := mSet_le (V.1 h)
    by_cases z : a < 0
    · refine ⟨I, ?_, C, K, FR.rf _ _ _⟩
      simp only [fX10_ordered, if_pos (isT_of S.pl), c_needBoard S C, if_pos h, oT0l, iz_lit]
      rw [if_neg (by rw [iz_le (by decide) (by decide) a1 a2]; omega), if_pos z]
      rfl
    · obtain ⟨I', e, C', K', t, ko, f⟩ := c_know2 (fu := fu) S C K V hfu h
      refine ⟨I', ?_, C', K', f⟩
      have k16 := rts16 S C.1.2.2.1
      simp only [fX10_ordered, if_pos (isT_of S.pl), c_needBoard S C, if_pos h, oT0l, iz_lit, e, bsome, oR_at S.pl C.1.1.2.1, oR_at S.pl C.1.1.1.2.2.2.2.2, oI_at (k6 S), t.1, show mG_ σ.2.1 (σ.2.1 0) (σ.2.1 4).toNat = mSet σ.2.1 from rfl, oR_at k16.1.1 k16.2.1.2.2.2]
      rw [if_pos (by rw [iz_le (by decide) (by decide) a1 a2]; omega), if_neg z]
      by_cases y : a < mSet σ.2.1
      · rw [if_pos (by rw [iz_lt a1 a2 (by omega) (by omega)]; exact y), if_pos y, oA_iz k16.1.2.2.2.2 (by omega) (by omega) a2, bsome]
        have q := ko.2 a.toNat (by omega)
        rw [show I' (AD (16 + 4)) a.toNat = I' (AD 20) a.toNat from rfl, q]
        rfl
      · rw [if_neg (by rw [iz_lt a1 a2 (by omega) (by omega)]; exact y), if_neg y]
        rfl
  · refine ⟨I, ?_, C, K, FR.rf _ _ _⟩
    simp only [fX10_ordered, if_pos (isT_of S.pl), c_needBoard S C, if_neg h, oT0r]
    rfl
theorem rq_ordered (S : OKS sh AD) (V : VST σ) (hfu : 5000 ≤ fu) {a : Int} (ha : IR a) : RQ sh AD R σ (fun I => fX11_ordered fu sh I R (AD 316) (iz a)) (aOrdered σ a) := by
  intro I H
  obtain ⟨a1, a2⟩ := ha
  unfold aOrdered
  have w := fun g => r_isWrong (fu := fu) (R := R) (σ := σ) S H.2.2.1.2.1 g
  have h10 : fX11_ordered fu sh I R (AD 316) (iz a) = fX11_ordered_b10 fu sh R I (AD 316) (iz a) (bz (decide (0 ≤ a))) (AD 316) := by
    simp only [fX11_ordered, if_pos (isT_of S.md), iz_lit]
    simp (disch := omega) only [iz_lt]
    by_cases z : a < 0
    · rw [if_pos z, decide_eq_false (by omega)]; rfl
    · rw [if_neg z, decide_eq_true (by omega)]; rfl
  by_cases h : σ.1 = true
  · have hm := mSet_le (V.1 h)
    have vl := (V.1 h).lim
    by_cases z : a < 0
    · obtain ⟨H1, e5, f1⟩ := r_out (σ := σ) S H 2
      refine ⟨_, ?_, ?_, H1, f1⟩
      · refine h10.trans ?_
        simp only [fX11_ordered_b10, fX11_ordered_b42]
        rw [decide_eq_false (show ¬ 0 ≤ a by omega), w, wr2 h rfl]
        simp only [oHs, iz_lit, bz_zero]
        rw [if_neg (by decide), if_pos h, if_pos z]
        rfl
      · rw [e5, if_pos h, if_pos z]
        rfl
    · obtain ⟨H1, e5, f1⟩ := r_out (σ := σ) S H 0
      obtain ⟨I1, e, g, H2, e2, f2⟩ := r_know1 (fu := fu) S H1 V hfu h vl.1.1 vl.1.2
      have lk := fun g => r_lacks (fu := fu) (R := R) (I := I1) S g
      by_cases y : a < mSet σ.2.1
      · obtain ⟨H3, e6, f3⟩ := r_out (σ := σ) S H2 0
        obtain ⟨I', e7, g, kb, H4, e8, f4⟩ := r_know2 (fu := fu) S H3 V hfu h
        refine ⟨I', ?_, ?_, H4, ((f1.tr f2).tr f3).tr f4⟩
        · refine h10.trans ?_
          simp only [fX11_ordered_b10, fX11_ordered_b36]
          rw [decide_eq_true (show 0 ≤ a by omega), w, wr0 h rfl]
          simp only [oHs, iz_lit, bz_zero]
          rw [if_pos (by decide)]
          simp only [oR_at S.md H.1.1.1, bsome, r_row S H1.1 H1.2.1 (by decide : (0 : Int) ≤ 0) (by decide : (0 : Int) < 119), e, oHs, show mG_ σ.2.1 (σ.2.1 0) (σ.2.1 4).toNat = mSet σ.2.1 from rfl]
          rw [if_neg (by rw [iz_le (by omega) (by omega) a1 a2]; omega), show (iz 1 : Int32) = bz true from rfl, lk]
          simp only [oHs, bz_zero]
          rw [if_pos (by decide), if_pos True.intro]
          have e7' : fX11_layBest fu sh (u2 I1 (AD 316) 5 (iz 0)) R (AD 316) = some I' := e7
          rw [e7']
          simp only [bsome, oR_at S.md H.1.2.2.2.2.2.2.1]
          rw [oA_iz (S.at (i := 329) (t := 20) (n := 12) rfl (by decide) (by decide)) (by omega) (by omega) a2, bsome, kb.2 a.toNat (by omega), if_pos h, if_neg z, if_pos y]
          rfl
        · rw [e8, e6, if_pos h, if_neg z, if_pos y]
          rfl
      · obtain ⟨H3, e6, f3⟩ := r_out (σ := σ) S H2 3
        refine ⟨_, ?_, ?_, H3, (f1.tr f2).tr f3⟩
        · refine h10.trans ?_
          simp only [fX11_ordered_b10, fX11_ordered_b36, fX11_ordered_b42]
          rw [decide_eq_true (show 0 ≤ a by omega), w, wr0 h rfl]
          simp only [oHs, iz_lit, bz_zero]
          rw [if_pos (by decide)]
          simp only [oR_at S.md H.1.1.1, bsome, r_row S H1.1 H1.2.1 (by decide : (0 : Int) ≤ 0) (by decide : (0 : Int) < 119), e, oHs, show mG_ σ.2.1 (σ.2.1 0) (σ.2.1 4).toNat = mSet σ.2.1 from rfl]
          rw [if_pos (by rw [iz_le (by omega) (by omega) a1 a2]; omega), show (iz 0 : Int32) = bz false from rfl, lk]
          simp only [oHs, bz_zero]
          rw [if_neg (by decide), if_neg (by decide), if_pos h, if_neg z, if_neg y]
          rfl
        · rw [e6, if_pos h, if_neg z, if_neg y]
          rfl
  · have hf : σ.1 = false := by simpa using h
    obtain ⟨H1, e5, f1⟩ := r_out (σ := σ) S H 1
    refine ⟨_, ?_, ?_, H1, f1⟩
    · refine h10.trans ?_
      simp only [fX11_ordered_b10, fX11_ordered_b42]
      rw [w, wr1 hf]
      simp only [oHs, iz_lit, bz_zero]
      rw [if_neg (by decide), if_neg h]
      rfl
    · rw [e5, if_neg h]
      rfl
/-- setupOf -/
def aSetupOf (σ : STT) (a : Int) : Int ⊕ Nat := if σ.1 = true then (if 0 ≤ a ∧ a ≤ σ.2.1 4 - 1 then .inl (hG σ.2.1 (σ.2.1 0) (σ.2.1 4).toNat a.toNat : Int) else .inr 2) else .inr 1
theorem cq_setupOf (S : OKS sh AD) (V : VST σ) (hfu : 5000 ≤ fu) {a : Int} (ha : IR a) : CQ sh AD R P σ (fun I => fX10_setupOf fu sh I R (AD 0) (iz a)) (aSetupOf σ a) := by
  intro I C K
  unfold aSetupOf
  by_cases h : σ.1 = true
  · have n4 := V.n4
    by_cases z : 0 ≤ a ∧ a ≤ σ.2.1 4 - 1
    · obtain ⟨I', e, C', K', t, f⟩ := c_know1 (fu := fu) S C K V hfu h
      refine ⟨I', ?_, C', K', f⟩
      simp only [fX10_setupOf, if_pos (isT_of S.pl), c_needBoard S C, if_pos h, oT0l, c_needShot S C V h ha, if_pos z, e, bsome, oR_at S.pl C.1.1.1.2.2.2.2.2, oR_at (k6 S) C.1.2.1.1]
      rw [oA_iz (k12 S (i := 7) (by decide) (by decide)) (by omega) (by omega) ha.2, bsome, t.2.1.2 a.toNat (by omega)]
      rfl
    · refine ⟨I, ?_, C, K, FR.rf _ _ _⟩
      simp only [fX10_setupOf, if_pos (isT_of S.pl), c_needBoard S C, if_pos h, oT0l, c_needShot S C V h ha, if_neg z, oT0r]
      rfl
  · refine ⟨I, ?_, C, K, FR.rf _ _ _⟩
    simp only [fX10_setupOf, if_pos (isT_of S.pl), c_needBoard S C, if_neg h, oT0r]
    rfl
theorem bdec {p q : Prop} [Decidable p] [Decidable q] : ((decide p && decide q) = true) = (p ∧ q) := by simp
theorem rq_setupOf (S : OKS sh AD) (V : VST σ) (hfu : 5000 ≤ fu) {a : Int} (ha : IR a) : RQ sh AD R σ (fun I => fX11_setupOf fu sh I R (AD 316) (iz a)) (aSetupOf σ a) := by
  intro I H
  unfold aSetupOf
  have n4 := V.n4
  obtain ⟨g, hg⟩ : ∃ g, g = (decide (0 ≤ a) && decide (a ≤ σ.2.1 4 - 1)) := ⟨_, rfl⟩
  have hs := r_isShot (fu := fu) S H V ha
  rw [← hg] at hs
  have w := r_isWrong (fu := fu) (R := R) (σ := σ) S H.2.2.1.2.1 g
  by_cases h : σ.1 = true
  · have vl := (V.1 h).lim
    by_cases z : 0 ≤ a ∧ a ≤ σ.2.1 4 - 1
    · have gt : g = true := by rw [hg, bdec]; exact z
      rw [wr0 h gt] at w
      obtain ⟨H1, e5, f1⟩ := r_out (σ := σ) S H 0
      obtain ⟨I', e, G, H2, e2, f2⟩ := r_know1 (fu := fu) S H1 V hfu h vl.1.1 vl.1.2
      refine ⟨I', ?_, ?_, H2, f1.tr f2⟩
      · simp only [fX11_setupOf, if_pos (isT_of S.md), hs, bsome, w, oHs, iz_lit, bz_zero]
        rw [if_pos (by decide)]
        simp only [oR_at S.md H.1.1.1, bsome, r_row S H1.1 H1.2.1 (by decide : (0 : Int) ≤ 0) (by decide : (0 : Int) < 119), e, oHs, oR_at S.md H.1.2.1]
        rw [oA_iz (S.at (i := 324) (t := 20) (n := 12) rfl (by decide) (by decide)) (by omega) (by omega) ha.2, bsome, G.2.2.2 a.toNat (by omega), if_pos h, if_pos z]
        rfl
      · rw [e2, e5, if_pos h, if_pos z]
        rfl
    · have gf : g = false := by
        cases g
        · rfl
        · exact absurd (by rw [← bdec]; exact hg.symm) z
      rw [wr2 h gf] at w
      obtain ⟨H1, e5, f1⟩ := r_out (σ := σ) S H 2
      refine ⟨_, ?_, ?_, H1, f1⟩
      · simp only [fX11_setupOf, if_pos (isT_of S.md), hs, bsome, w, oHs, iz_lit, bz_zero]
        rw [if_neg (by decide), if_pos h, if_neg z]
        rfl
      · rw [e5, if_pos h, if_neg z]
        rfl
  · have hf : σ.1 = false := by simpa using h
    rw [wr1 hf] at w
    obtain ⟨H1, e5, f1⟩ := r_out (σ := σ) S H 1
    refine ⟨_, ?_, ?_, H1, f1⟩
    · simp only [fX11_setupOf, if_pos (isT_of S.md), hs, bsome, w, oHs, iz_lit, bz_zero]
      rw [if_neg (by decide), if_neg h]
      rfl
    · rw [e5, if_neg h]
      rfl
end Q2
