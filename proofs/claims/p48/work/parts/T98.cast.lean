/-! STAGE 2: setCast, on both sides -/
def csU (ρ : RHO) (s u v : Int) : RHO := up1 (up1 ρ (47 + 6 * s + 3) u) (47 + 6 * s + 4) v
theorem csU_ne {ρ : RHO} {s u v j : Int} (h : ¬ j = 47 + 6 * s + 3) (h2 : ¬ j = 47 + 6 * s + 4) : csU ρ s u v j = ρ j := by
  unfold csU
  rw [up1_ne h2, up1_ne h]
theorem csU_su {ρ : RHO} {s u v t : Int} : suS (csU ρ s u v) t = if t = s then u else suS ρ t := by
  unfold suS gS
  by_cases z : t = s
  · rw [if_pos z, z]
    unfold csU
    rw [up1_ne (by omega), up1_eq]
  · rw [if_neg z, csU_ne (by omega) (by omega)]
theorem csU_pa {ρ : RHO} {s u v t : Int} : paS (csU ρ s u v) t = if t = s then v else paS ρ t := by
  unfold paS gS
  by_cases z : t = s
  · rw [if_pos z, z]
    unfold csU
    rw [up1_eq]
  · rw [if_neg z, csU_ne (by omega) (by omega)]
def gCst (ρ : RHO) (s u v : Int) : Prop := (0 ≤ s ∧ s ≤ ρ 4 - 1) ∧ ((0 ≤ u ∧ u ≤ 5) ∧ inS ρ (scS ρ s) u = true) ∧ (v = -1 ∨ ((0 ≤ v ∧ v ≤ 5) ∧ inS ρ (scS ρ s) v = true))
theorem csU_V {ρ : RHO} (V : VB ρ) {s u v : Int} (g : gCst ρ s u v) (h1 : ¬ u = v) (h2 : ¬ (axS ρ (scS ρ s) u = cxS ρ s ∧ ayS ρ (scS ρ s) u = cyS ρ s)) : VB (csU ρ s u v) := by
  have hm := V.m
  have hn := V.n
  obtain ⟨gs, gu, gv⟩ := g
  refine V.upd (csU_ne (by omega) (by omega)) (csU_ne (by omega) (by omega)) ?_ (fun d g0 g1 => csU_ne (by omega) (by omega)) (fun d g0 g1 => ?_) (fun d b g0 g1 b0 b1 b2 => ?_) (fun t g0 g1 => ?_)
  · rw [csU_ne (by omega) (by omega), csU_ne (by omega) (by omega), csU_ne (by omega) (by omega)]; exact V.lim
  · have e : ltS (csU ρ s u v) d = ltS ρ d := csU_ne (by omega) (by omega)
    rw [e]; exact (V.scene g0 g1).1
  · have e1 : axS (csU ρ s u v) d b = axS ρ d b := csU_ne (by omega) (by omega)
    have e2 : ayS (csU ρ s u v) d b = ayS ρ d b := csU_ne (by omega) (by omega)
    rw [e1, e2]; exact (V.scene g0 g1).2.2 b b0 b1 b2
  · have q := V.shot g0 g1
    have e0 : scS (csU ρ s u v) t = scS ρ t := csU_ne (by omega) (by omega)
    have e1 : cxS (csU ρ s u v) t = cxS ρ t := csU_ne (by omega) (by omega)
    have e2 : cyS (csU ρ s u v) t = cyS ρ t := csU_ne (by omega) (by omega)
    have e5 : lnS (csU ρ s u v) t = lnS ρ t := csU_ne (by omega) (by omega)
    have e6 : ∀ b, 0 ≤ b → b < 6 → axS (csU ρ s u v) (scS ρ t) b = axS ρ (scS ρ t) b := fun b _ _ => csU_ne (by omega) (by omega)
    have e7 : ∀ b, 0 ≤ b → b < 6 → ayS (csU ρ s u v) (scS ρ t) b = ayS ρ (scS ρ t) b := fun b _ _ => csU_ne (by omega) (by omega)
    rw [e0, e1, e2, e5, csU_su, csU_pa]
    by_cases z : t = s
    · subst z
      rw [if_pos rfl, if_pos rfl, e6 u gu.1.1 (by omega), e7 u gu.1.1 (by omega)]
      refine ⟨rfl, q.2.1, q.2.2.1, ⟨gu.1.1, by omega⟩, gu.2, ?_, q.2.2.2.2.2.2.1, h2⟩
      rcases gv with gv | gv
      · exact Or.inl gv
      · exact Or.inr ⟨⟨gv.1.1, by omega⟩, gv.2, fun k => h1 k.symm⟩
    · rw [if_neg z, if_neg z, e6 _ q.2.2.2.1.1 q.2.2.2.1.2, e7 _ q.2.2.2.1.1 q.2.2.2.1.2]
      exact ⟨rfl, q.2⟩
noncomputable def aCst (σ : STT) (s u v : Int) : Int ⊕ Nat := by
  classical
  exact if σ.1 = true then (if gCst σ.2.1 s u v then .inl (if u = v then -2 else if axS σ.2.1 (scS σ.2.1 s) u = cxS σ.2.1 s ∧ ayS σ.2.1 (scS σ.2.1 s) u = cyS σ.2.1 s then -3 else faultS (csU σ.2.1 s u v)) else .inr 2) else .inr 1
noncomputable def sCst (σ : STT) (s u v : Int) : STT := by
  classical
  exact if σ.1 = true then (if gCst σ.2.1 s u v then (if u = v ∨ (axS σ.2.1 (scS σ.2.1 s) u = cxS σ.2.1 s ∧ ayS σ.2.1 (scS σ.2.1 s) u = cyS σ.2.1 s) then σ else rowS (pushS σ) (csU σ.2.1 s u v)) else σ) else σ
section Q33
variable {fu : Nat} {sh : HS} {I I' J : HI} {R : HR} {AD : Int → Nat} {P : Int → Int → Int} {σ σ' : STT} {ρ ρ' : RHO} {p : Int → Int} {s u v : Int}
theorem cst_0 (h : ¬ σ.1 = true) : aCst σ s u v = .inr 1 ∧ sCst σ s u v = σ := by
  unfold aCst sCst
  rw [if_neg h, if_neg h]
  exact ⟨rfl, rfl⟩
theorem cst_2 (h : σ.1 = true) (g : ¬ gCst σ.2.1 s u v) : aCst σ s u v = .inr 2 ∧ sCst σ s u v = σ := by
  unfold aCst sCst
  rw [if_pos h, if_pos h, if_neg g, if_neg g]
  exact ⟨rfl, rfl⟩
theorem cst_3 (h : σ.1 = true) (g : gCst σ.2.1 s u v) (z : u = v) : aCst σ s u v = .inl (-2) ∧ sCst σ s u v = σ := by
  unfold aCst sCst
  rw [if_pos h, if_pos h, if_pos g, if_pos g, if_pos z, if_pos (Or.inl z)]
  exact ⟨rfl, rfl⟩
theorem cst_4 (h : σ.1 = true) (g : gCst σ.2.1 s u v) (z : ¬ u = v) (w : axS σ.2.1 (scS σ.2.1 s) u = cxS σ.2.1 s ∧ ayS σ.2.1 (scS σ.2.1 s) u = cyS σ.2.1 s) : aCst σ s u v = .inl (-3) ∧ sCst σ s u v = σ := by
  unfold aCst sCst
  rw [if_pos h, if_pos h, if_pos g, if_pos g, if_neg z, if_pos w, if_pos (Or.inr w)]
  exact ⟨rfl, rfl⟩
theorem cst_5 (h : σ.1 = true) (g : gCst σ.2.1 s u v) (z : ¬ u = v) (w : ¬ (axS σ.2.1 (scS σ.2.1 s) u = cxS σ.2.1 s ∧ ayS σ.2.1 (scS σ.2.1 s) u = cyS σ.2.1 s)) : aCst σ s u v = .inl (faultS (csU σ.2.1 s u v)) ∧ sCst σ s u v = rowS (pushS σ) (csU σ.2.1 s u v) := by
  unfold aCst sCst
  rw [if_pos h, if_pos h, if_pos g, if_pos g, if_neg z, if_neg w, if_neg (fun k => k.elim z w)]
  exact ⟨rfl, rfl⟩
theorem ca_cast52 (S : OKS sh AD) (V : VST σ) (hfu : 5000 ≤ fu) (C : CIB I R AD P σ) (K : CKN I AD σ) (h : σ.1 = true) (g : gCst σ.2.1 s u v) :
    ∃ I', fX10_setCast_b52 fu sh R I (AD 0) (iz u) (iz v) (AD (28 + 12 + P 0 s)) (AD (28 + 3 + 3 * scS σ.2.1 s)) = some (cOut (aCst σ s u v), I') ∧ CIB I' R AD P (sCst σ s u v) ∧ CKN I' AD (sCst σ s u v) ∧ FR AD I I' (fun i _ => i < 316) := by
  have W := V.1 h
  have hm := W.m
  have hn := W.n
  have B := C.ba S V h
  have gg := g
  obtain ⟨gs, gu, gv⟩ := g
  have s1 : s < σ.2.1 4 := by omega
  obtain ⟨v1, v2, v3, v4, -⟩ := W.shot gs.1 s1
  have vr : -1 ≤ v ∧ v ≤ 5 := by rcases gv with gv | gv <;> omega
  obtain ⟨⟨q1, q2⟩, f0, f1, f2, f3, f4, f5⟩ := B.1.2.2.2 s gs.1 s1
  simp only [fX10_setCast_b52, iz_lit, iz_neg, f1, f2, bsome, oR_at S.pl C.1.1.1.2.1]
  by_cases z : u = v
  · obtain ⟨ea, es⟩ := cst_3 h gg z
    rw [if_pos (by rw [z]), ea, es]
    exact ⟨I, rfl, C, K, FR.rf _ _ _⟩
  · rw [if_neg (by rw [iz_eq (by omega) (by omega) (by omega) (by omega)]; exact z)]
    have sa := c_isAt (fu := fu) (x := cxS σ.2.1 s) (y := cyS σ.2.1 s) B.1 W v1.1 v1.2 gu.1.1 (show u < 6 by omega) gu.2 (by omega) (by omega) (by omega) (by omega)
    rw [sa, bsome]
    simp only [bz_zero]
    by_cases w : axS σ.2.1 (scS σ.2.1 s) u = cxS σ.2.1 s ∧ ayS σ.2.1 (scS σ.2.1 s) u = cyS σ.2.1 s
    · obtain ⟨ea, es⟩ := cst_4 h gg z w
      rw [if_neg (by rw [bdec.mpr w]; decide), ea, es]
      exact ⟨I, rfl, C, K, FR.rf _ _ _⟩
    · obtain ⟨ea, es⟩ := cst_5 h gg z w
      have V2 := csU_V W gg z w
      have Bs : BSH R AD 28 (P 0) := C.1.2.2.2.2.2.2.2 0 (by decide) (by decide)
      obtain ⟨J, e0, CJ, ⟨z9, z11⟩, F1⟩ := c_begin (fu := fu) S C V hfu h
      have ps := (Bs.2.2.2.1 s gs.1 (by omega)).2
      have kc := S.at (i := 28 + 12 + P 0 s) (by rw [← kd_H (b := 0) (k := P 0 s) (by decide) (by decide) (by omega) (by omega)]; congr 1) (by omega) (by omega)
      have l1 := BVL.sh1 (l := u) (k := 3) S W Bs (CJ.2.2.2.2.2.1 h) rfl rfl gs.1 (show s < 12 by omega) (by decide)
      have L2 : BVL (u2 (u2 J (AD (28 + 12 + P 0 s)) 3 (iz u)) (AD (28 + 12 + P 0 s)) 4 (iz v)) AD 28 (P 0) (csU σ.2.1 s u v) := BVL.sh1 (l := v) (k := 4) S W Bs l1 (up1_ne (by omega)) (up1_ne (by omega)) gs.1 (show s < 12 by omega) (by decide)
      have F2 : FR AD J (u2 (u2 J (AD (28 + 12 + P 0 s)) 3 (iz u)) (AD (28 + 12 + P 0 s)) 4 (iz v)) (fun i _ => 28 ≤ i ∧ i < 52) := FR.u2 S (by omega) (by omega) ⟨by omega, by omega⟩ (FR.u2 S (by omega) (by omega) ⟨by omega, by omega⟩ (FR.rf AD J _))
      obtain ⟨C2, K2⟩ := c_done V h CJ z9 z11 F2 L2
      have ba2 : BA sh _ R AD 28 (P 0) (csU σ.2.1 s u v) := BA.of (b := 0) S (by decide) (by decide) Bs L2 V2
      rw [if_pos (fls bdec w), ea, es, e0, bsome, oP_at kc, bsome, oP_at kc, bsome, c_total ba2.1 V2 hfu, bsome]
      exact ⟨_, rfl, C2, K2, (F1.wd fun i k z => by omega).tr (F2.wd fun i k z => by omega)⟩
theorem ca_setCast (S : OKS sh AD) (V : VST σ) (hfu : 5000 ≤ fu) (hs : IR s) (hu : IR u) (hv : IR v) : CA AD R P σ (sCst σ s u v) (fun I => fX10_setCast fu sh I R (AD 0) (iz s) (iz u) (iz v)) (aCst σ s u v) := by
  intro I C K
  by_cases h : σ.1 = true
  · have n4 := V.n4
    have W := V.1 h
    have B := C.ba S V h
    have bad : ¬ gCst σ.2.1 s u v → fX10_setCast fu sh I R (AD 0) (iz s) (iz u) (iz v) = some (.inr (exN 2), I) → ∃ I', (fun I => fX10_setCast fu sh I R (AD 0) (iz s) (iz u) (iz v)) I = some (cOut (aCst σ s u v), I') ∧ CIB I' R AD P (sCst σ s u v) ∧ CKN I' AD (sCst σ s u v) ∧ FR AD I I' (fun i _ => i < 316) := by
      intro ng e
      obtain ⟨ea, es⟩ := cst_2 h ng
      rw [ea, es]
      exact ⟨I, e, C, K, FR.rf _ _ _⟩
    by_cases z : 0 ≤ s ∧ s ≤ σ.2.1 4 - 1
    · have s1 : s < σ.2.1 4 := by omega
      obtain ⟨v1, -⟩ := W.shot z.1 s1
      obtain ⟨⟨q1, q2⟩, f0, -⟩ := B.1.2.2.2 s z.1 s1
      obtain ⟨⟨k1, -⟩, -⟩ := B.1.2.2.1 (scS σ.2.1 s) v1.1 v1.2
      have na := c_needActor (fu := fu) (a := u) W B v1.1 v1.2 hu
      have nb := c_needActor (fu := fu) (a := v) W B v1.1 v1.2 hv
      by_cases w : (0 ≤ u ∧ u ≤ 5) ∧ inS σ.2.1 (scS σ.2.1 s) u = true
      · rw [if_pos w] at na
        by_cases y : v = -1
        · obtain ⟨I', e, r⟩ := ca_cast52 (fu := fu) S V hfu C K h ⟨z, w, Or.inl y⟩
          refine ⟨I', ?_, r⟩
          rw [← e]
          simp only [fX10_setCast, if_pos (isT_of S.pl), c_needBoard S C, if_pos h, oT0l, c_needShot S C V h hs, if_pos z, oR_at S.pl C.1.1.1.2.1, B.1.1.2.1, B.1.1.2.2, q1, f0, k1, bsome, na, iz_lit, iz_neg]
          rw [if_pos (by rw [y])]
        · have e1 : fX10_setCast fu sh I R (AD 0) (iz s) (iz u) (iz v) = oT0 (fX10_needActor fu sh I R (AD (28 + 3 + 3 * scS σ.2.1 s)) (iz v)) (fun E => some (.inr E, I)) fun _ => fX10_setCast_b52 fu sh R I (AD 0) (iz u) (iz v) (AD (28 + 12 + P 0 s)) (AD (28 + 3 + 3 * scS σ.2.1 s)) := by
            simp only [fX10_setCast, if_pos (isT_of S.pl), c_needBoard S C, if_pos h, oT0l, c_needShot S C V h hs, if_pos z, oR_at S.pl C.1.1.1.2.1, B.1.1.2.1, B.1.1.2.2, q1, f0, k1, bsome, na, iz_lit, iz_neg]
            rw [if_neg (by rw [iz_eq hv.1 hv.2 (by decide) (by decide)]; exact y)]
          by_cases x : (0 ≤ v ∧ v ≤ 5) ∧ inS σ.2.1 (scS σ.2.1 s) v = true
          · obtain ⟨I', e, r⟩ := ca_cast52 (fu := fu) S V hfu C K h ⟨z, w, Or.inr x⟩
            refine ⟨I', ?_, r⟩
            rw [← e]
            refine e1.trans ?_
            rw [nb, if_pos x, oT0l]
          · refine bad (fun k => k.2.2.elim y x) ?_
            rw [e1, nb, if_neg x, oT0r]
      · rw [if_neg w] at na
        refine bad (fun k => w k.2.1) ?_
        simp only [fX10_setCast, if_pos (isT_of S.pl), c_needBoard S C, if_pos h, oT0l, c_needShot S C V h hs, if_pos z, oR_at S.pl C.1.1.1.2.1, B.1.1.2.1, B.1.1.2.2, q1, f0, k1, bsome, na, oT0r]
    · refine bad (fun k => z k.1) ?_
      simp only [fX10_setCast, if_pos (isT_of S.pl), c_needBoard S C, if_pos h, oT0l, c_needShot S C V h hs, if_neg z, oT0r]
  · obtain ⟨ea, es⟩ := cst_0 (s := s) (u := u) (v := v) h
    rw [ea, es]
    refine ⟨I, ?_, C, K, FR.rf _ _ _⟩
    simp only [fX10_setCast, if_pos (isT_of S.pl), c_needBoard S C, if_neg h, oT0r]
    rfl
end Q33
