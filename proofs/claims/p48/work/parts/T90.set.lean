/-! STAGE 2: setLimits, setLight, setLength, on both sides -/
def limS (ρ : RHO) (r t f : Int) : RHO := up1 (up1 (up1 ρ 0 r) 1 t) 2 f
theorem lim_ge {ρ : RHO} {r t f j : Int} (h : 3 ≤ j) : limS ρ r t f j = ρ j := by
  unfold limS
  rw [up1_ne (by omega), up1_ne (by omega), up1_ne (by omega)]
theorem lim_V {ρ : RHO} (V : VB ρ) {r t f : Int} (g : (0 ≤ r ∧ r ≤ 99) ∧ (0 ≤ t ∧ t ≤ 2000) ∧ (0 ≤ f ∧ f ≤ 2000)) : VB (limS ρ r t f) := by
  have hm := V.m
  have hn := V.n
  refine V.upd (lim_ge (by decide)) (lim_ge (by decide)) ?_ (fun c g0 g1 => lim_ge (by omega)) (fun c g0 g1 => ?_) (fun c a g0 g1 a0 a1 a2 => ?_) (fun s g0 g1 => ?_)
  · unfold limS
    rw [up1_ne (by decide), up1_ne (by decide), up1_eq, up1_ne (by decide), up1_eq, up1_eq]
    exact g
  · have e : ltS (limS ρ r t f) c = ltS ρ c := lim_ge (by omega)
    rw [e]; exact (V.scene g0 g1).1
  · have e1 : axS (limS ρ r t f) c a = axS ρ c a := lim_ge (by omega)
    have e2 : ayS (limS ρ r t f) c a = ayS ρ c a := lim_ge (by omega)
    rw [e1, e2]; exact (V.scene g0 g1).2.2 a a0 a1 a2
  · have q := V.shot g0 g1
    have e0 : scS (limS ρ r t f) s = scS ρ s := lim_ge (by omega)
    have e1 : cxS (limS ρ r t f) s = cxS ρ s := lim_ge (by omega)
    have e2 : cyS (limS ρ r t f) s = cyS ρ s := lim_ge (by omega)
    have e3 : suS (limS ρ r t f) s = suS ρ s := lim_ge (by omega)
    have e4 : paS (limS ρ r t f) s = paS ρ s := lim_ge (by omega)
    have e5 : lnS (limS ρ r t f) s = lnS ρ s := lim_ge (by omega)
    have e6 : axS (limS ρ r t f) (scS ρ s) (suS ρ s) = axS ρ (scS ρ s) (suS ρ s) := lim_ge (by omega)
    have e7 : ayS (limS ρ r t f) (scS ρ s) (suS ρ s) = ayS ρ (scS ρ s) (suS ρ s) := lim_ge (by omega)
    rw [e0, e1, e2, e3, e4, e5, e6, e7]
    exact ⟨rfl, q.2⟩
def aLim (σ : STT) (r t f : Int) : Int ⊕ Nat := if σ.1 = true then (if (0 ≤ r ∧ r ≤ 99) ∧ (0 ≤ t ∧ t ≤ 2000) ∧ (0 ≤ f ∧ f ≤ 2000) then .inl (mSet (limS σ.2.1 r t f) : Int) else .inr 2) else .inr 1
def sLim (σ : STT) (r t f : Int) : STT := if σ.1 = true then (if (0 ≤ r ∧ r ≤ 99) ∧ (0 ≤ t ∧ t ≤ 2000) ∧ (0 ≤ f ∧ f ≤ 2000) then rowS (pushS σ) (limS σ.2.1 r t f) else σ) else σ
/-- the light of a scene; the length of a shot -/
theorem lgt_V {ρ : RHO} (V : VB ρ) {c l : Int} (c0 : 0 ≤ c) (c1 : c < 3) (l0 : 0 ≤ l ∧ l ≤ 3) : VB (up1 ρ (5 + 14 * c) l) := by
  have hm := V.m
  have hn := V.n
  refine V.upd (up1_ne (by omega)) (up1_ne (by omega)) ?_ (fun d g0 g1 => up1_ne (by omega)) (fun d g0 g1 => ?_) (fun d a g0 g1 a0 a1 a2 => ?_) (fun s g0 g1 => ?_)
  · rw [up1_ne (by omega), up1_ne (by omega), up1_ne (by omega)]; exact V.lim
  · by_cases z : d = c
    · have e : ltS (up1 ρ (5 + 14 * c) l) d = l := by unfold ltS; rw [z]; exact up1_eq
      rw [e]; exact l0
    · have e : ltS (up1 ρ (5 + 14 * c) l) d = ltS ρ d := up1_ne (by omega)
      rw [e]; exact (V.scene g0 g1).1
  · have e1 : axS (up1 ρ (5 + 14 * c) l) d a = axS ρ d a := up1_ne (by omega)
    have e2 : ayS (up1 ρ (5 + 14 * c) l) d a = ayS ρ d a := up1_ne (by omega)
    rw [e1, e2]; exact (V.scene g0 g1).2.2 a a0 a1 a2
  · have q := V.shot g0 g1
    have e0 : scS (up1 ρ (5 + 14 * c) l) s = scS ρ s := up1_ne (by omega)
    have e1 : cxS (up1 ρ (5 + 14 * c) l) s = cxS ρ s := up1_ne (by omega)
    have e2 : cyS (up1 ρ (5 + 14 * c) l) s = cyS ρ s := up1_ne (by omega)
    have e3 : suS (up1 ρ (5 + 14 * c) l) s = suS ρ s := up1_ne (by omega)
    have e4 : paS (up1 ρ (5 + 14 * c) l) s = paS ρ s := up1_ne (by omega)
    have e5 : lnS (up1 ρ (5 + 14 * c) l) s = lnS ρ s := up1_ne (by omega)
    have e6 : axS (up1 ρ (5 + 14 * c) l) (scS ρ s) (suS ρ s) = axS ρ (scS ρ s) (suS ρ s) := up1_ne (by omega)
    have e7 : ayS (up1 ρ (5 + 14 * c) l) (scS ρ s) (suS ρ s) = ayS ρ (scS ρ s) (suS ρ s) := up1_ne (by omega)
    rw [e0, e1, e2, e3, e4, e5, e6, e7]
    exact ⟨rfl, q.2⟩
theorem len_V {ρ : RHO} (V : VB ρ) {s l : Int} (s0 : 0 ≤ s) (s1 : s < 12) (l0 : 1 ≤ l ∧ l ≤ 99) : VB (up1 ρ (47 + 6 * s + 5) l) := by
  have hm := V.m
  have hn := V.n
  refine V.upd (up1_ne (by omega)) (up1_ne (by omega)) ?_ (fun d g0 g1 => up1_ne (by omega)) (fun d g0 g1 => ?_) (fun d a g0 g1 a0 a1 a2 => ?_) (fun t g0 g1 => ?_)
  · rw [up1_ne (by omega), up1_ne (by omega), up1_ne (by omega)]; exact V.lim
  · have e : ltS (up1 ρ (47 + 6 * s + 5) l) d = ltS ρ d := up1_ne (by omega)
    rw [e]; exact (V.scene g0 g1).1
  · have e1 : axS (up1 ρ (47 + 6 * s + 5) l) d a = axS ρ d a := up1_ne (by omega)
    have e2 : ayS (up1 ρ (47 + 6 * s + 5) l) d a = ayS ρ d a := up1_ne (by omega)
    rw [e1, e2]; exact (V.scene g0 g1).2.2 a a0 a1 a2
  · have q := V.shot g0 g1
    have e0 : scS (up1 ρ (47 + 6 * s + 5) l) t = scS ρ t := up1_ne (by omega)
    have e1 : cxS (up1 ρ (47 + 6 * s + 5) l) t = cxS ρ t := up1_ne (by omega)
    have e2 : cyS (up1 ρ (47 + 6 * s + 5) l) t = cyS ρ t := up1_ne (by omega)
    have e3 : suS (up1 ρ (47 + 6 * s + 5) l) t = suS ρ t := up1_ne (by omega)
    have e4 : paS (up1 ρ (47 + 6 * s + 5) l) t = paS ρ t := up1_ne (by omega)
    have e6 : axS (up1 ρ (47 + 6 * s + 5) l) (scS ρ t) (suS ρ t) = axS ρ (scS ρ t) (suS ρ t) := up1_ne (by omega)
    have e7 : ayS (up1 ρ (47 + 6 * s + 5) l) (scS ρ t) (suS ρ t) = ayS ρ (scS ρ t) (suS ρ t) := up1_ne (by omega)
    have e5 : 1 ≤ lnS (up1 ρ (47 + 6 * s + 5) l) t ∧ lnS (up1 ρ (47 + 6 * s + 5) l) t ≤ 99 := by
      by_cases z : t = s
      · have e : lnS (up1 ρ (47 + 6 * s + 5) l) t = l := by unfold lnS gS; rw [z]; exact up1_eq
        rw [e]; exact l0
      · have e : lnS (up1 ρ (47 + 6 * s + 5) l) t = lnS ρ t := up1_ne (by omega)
        rw [e]; exact q.2.2.2.2.2.2.1
    rw [e0, e1, e2, e3, e4, e6, e7]
    exact ⟨rfl, q.2.1, q.2.2.1, q.2.2.2.1, q.2.2.2.2.1, q.2.2.2.2.2.1, e5, q.2.2.2.2.2.2.2⟩
def aLgt (σ : STT) (c l : Int) : Int ⊕ Nat := if σ.1 = true then (if (0 ≤ c ∧ c ≤ σ.2.1 3 - 1) ∧ (0 ≤ l ∧ l ≤ 3) then .inl (ltS σ.2.1 c) else .inr 2) else .inr 1
def sLgt (σ : STT) (c l : Int) : STT := if σ.1 = true then (if (0 ≤ c ∧ c ≤ σ.2.1 3 - 1) ∧ (0 ≤ l ∧ l ≤ 3) then rowS (pushS σ) (up1 σ.2.1 (5 + 14 * c) l) else σ) else σ
def aLen (σ : STT) (s l : Int) : Int ⊕ Nat := if σ.1 = true then (if (0 ≤ s ∧ s ≤ σ.2.1 4 - 1) ∧ (1 ≤ l ∧ l ≤ 99) then .inl (lnS σ.2.1 s) else .inr 2) else .inr 1
def sLen_ (σ : STT) (s l : Int) : STT := if σ.1 = true then (if (0 ≤ s ∧ s ≤ σ.2.1 4 - 1) ∧ (1 ≤ l ∧ l ≤ 99) then rowS (pushS σ) (up1 σ.2.1 (47 + 6 * s + 5) l) else σ) else σ
section Q25
variable {fu : Nat} {sh : HS} {I I' J : HI} {R : HR} {AD : Int → Nat} {P : Int → Int → Int} {σ : STT} {ρ ρ' : RHO} {p : Int → Int} {r t f c l s : Int}
theorem BVL.lt (S : OKS sh AD) (V : VB ρ) (B : BSH R AD 28 p) (L : BVL I AD 28 p ρ) (c0 : 0 ≤ c) (c1 : c < 3) : BVL (u2 I (AD (28 + 3 + 3 * c)) 0 (iz l)) AD 28 p (up1 ρ (5 + 14 * c) l) := by
  have hm := V.m
  have hn := V.n
  have hp : ∀ s, 0 ≤ s → s < 12 → 0 ≤ p s ∧ p s < 12 := fun s g0 g1 => (B.2.2.2.1 s g0 g1).2
  exact L.w1 S hm.2 hn.2 hp (by omega) (by omega) l (by omega) (by omega) (by omega) (fun q hq => by omega) (fun d d0 d1 => by omega) (fun d d0 d1 => by omega) (fun d a d0 d1 a0 a1 => by omega) (fun d a d0 d1 a0 a1 => by omega) (fun s s0 s1 q hq => by have := hp s s0 s1; omega)
theorem BVL.sh1 (S : OKS sh AD) (V : VB ρ) (B : BSH R AD 28 p) (L : BVL I AD 28 p ρ') (e3 : ρ' 3 = ρ 3) (e4 : ρ' 4 = ρ 4) (s0 : 0 ≤ s) (s1 : s < 12) {k : Nat} (hk : k < 6) : BVL (u2 I (AD (28 + 12 + p s)) k (iz l)) AD 28 p (up1 ρ' (47 + 6 * s + (k : Int)) l) := by
  have hm := V.m
  have hn := V.n
  have hp : ∀ s, 0 ≤ s → s < 12 → 0 ≤ p s ∧ p s < 12 := fun s g0 g1 => (B.2.2.2.1 s g0 g1).2
  have ps := hp s s0 s1
  refine L.w1 S (by omega) (by omega) hp (by omega) (by omega) l (by omega) (by omega) (by omega) (fun q hq => by omega) (fun d d0 d1 => by omega) (fun d d0 d1 => by omega) (fun d a d0 d1 a0 a1 => by omega) (fun d a d0 d1 a0 a1 => by omega) (fun t t0 t1 q hq => ⟨fun z => ?_, fun z => ?_⟩)
  · have := B.2.2.2.2 t s t0 t1 s0 s1 (by omega)
    omega
  · have : t = s := by omega
    subst this
    omega
theorem BVL.lm (S : OKS sh AD) (V : VB ρ) (B : BSH R AD 28 p) (L : BVL I AD 28 p ρ) : BVL (u2 (u2 (u2 I (AD 28) 0 (iz r)) (AD 28) 1 (iz t)) (AD 28) 2 (iz f)) AD 28 p (limS ρ r t f) := by
  have hm := V.m
  have hn := V.n
  have hp : ∀ s, 0 ≤ s → s < 12 → 0 ≤ p s ∧ p s < 12 := fun s g0 g1 => (B.2.2.2.1 s g0 g1).2
  have one : ∀ (k : Nat), k < 3 → ∀ (ρ' : RHO) (J : HI) (x : Int), ρ' 3 ≤ 3 → ρ' 4 ≤ 12 → BVL J AD 28 p ρ' → BVL (u2 J (AD 28) k (iz x)) AD 28 p (up1 ρ' (k : Int) x) := by
    intro k hk ρ' J x q3 q4 L
    exact L.w1 S q3 q4 hp (by omega) (by omega) x (by omega) (by omega) (by omega) (fun q hq => by omega) (fun d d0 d1 => by omega) (fun d d0 d1 => by omega) (fun d a d0 d1 a0 a1 => by omega) (fun d a d0 d1 a0 a1 => by omega) (fun s s0 s1 q hq => by have := hp s s0 s1; omega)
  have l1 := one 0 (by decide) ρ I r hm.2 hn.2 L
  have l2 := one 1 (by decide) _ _ t (by rw [up1_ne (by decide)]; exact hm.2) (by rw [up1_ne (by decide)]; exact hn.2) l1
  exact one 2 (by decide) _ _ f (by rw [up1_ne (by decide), up1_ne (by decide)]; exact hm.2) (by rw [up1_ne (by decide), up1_ne (by decide)]; exact hn.2) l2
theorem ca_setLight (S : OKS sh AD) (V : VST σ) (hfu : 5000 ≤ fu) (hc : IR c) (hl : IR l) : CA AD R P σ (sLgt σ c l) (fun I => fX10_setLight fu sh I R (AD 0) (iz c) (iz l)) (aLgt σ c l) := by
  intro I C K
  unfold aLgt sLgt
  by_cases h : σ.1 = true
  · have n3 := V.n3
    have B := C.ba S V h
    rw [if_pos h, if_pos h]
    by_cases z : 0 ≤ c ∧ c ≤ σ.2.1 3 - 1
    · by_cases zl : 0 ≤ l ∧ l ≤ 3
      · rw [if_pos (show (0 ≤ c ∧ c ≤ σ.2.1 3 - 1) ∧ (0 ≤ l ∧ l ≤ 3) from ⟨z, zl⟩), if_pos (show (0 ≤ c ∧ c ≤ σ.2.1 3 - 1) ∧ (0 ≤ l ∧ l ≤ 3) from ⟨z, zl⟩)]
        obtain ⟨⟨q1, q2, q3, -⟩, -⟩ := B.1.2.2.1 c z.1 (by omega)
        obtain ⟨J, e, CJ, ⟨z9, z11⟩, F1⟩ := c_begin (fu := fu) S C V hfu h
        have Bs : BSH R AD 28 (P 0) := C.1.2.2.2.2.2.2.2 0 (by decide) (by decide)
        have kc := S.at (i := 28 + 3 + 3 * c) (by rw [← (kd_S (b := 0) (c := c) (by decide) (by decide) (by omega) (by omega)).1]; congr 1) (by omega) (by omega)
        have F2 : FR AD J (u2 J (AD (28 + 3 + 3 * c)) 0 (iz l)) (fun i _ => 28 ≤ i ∧ i < 52) := FR.u2 S (by omega) (by omega) ⟨by omega, by omega⟩ (FR.rf AD J _)
        obtain ⟨C2, K2⟩ := c_done V h CJ z9 z11 F2 (BVL.lt (l := l) S (V.1 h) Bs (CJ.2.2.2.2.2.1 h) z.1 (by omega))
        refine ⟨_, ?_, C2, K2, (F1.wd fun i k z => by omega).tr (F2.wd fun i k z => by omega)⟩
        simp only [fX10_setLight, if_pos (isT_of S.pl), c_needBoard S C, if_pos h, oT0l, c_needScene S C V h hc, if_pos z, iz_lit, c_needRange hl.1 hl.2 (by decide : (-2147483648 : Int) ≤ 0) (by decide) (by decide : (-2147483648 : Int) ≤ 3) (by decide), if_pos zl, oR_at S.pl C.1.1.1.2.1, B.1.1.2.1, q1, q3, e, bsome, oP_at kc]
        rfl
      · rw [if_neg (fun k => zl k.2), if_neg (fun k => zl k.2)]
        refine ⟨I, ?_, C, K, FR.rf _ _ _⟩
        simp only [fX10_setLight, if_pos (isT_of S.pl), c_needBoard S C, if_pos h, oT0l, c_needScene S C V h hc, if_pos z, iz_lit, c_needRange hl.1 hl.2 (by decide : (-2147483648 : Int) ≤ 0) (by decide) (by decide : (-2147483648 : Int) ≤ 3) (by decide), if_neg zl, oT0r]
        rfl
    · rw [if_neg (fun k => z k.1), if_neg (fun k => z k.1)]
      refine ⟨I, ?_, C, K, FR.rf _ _ _⟩
      simp only [fX10_setLight, if_pos (isT_of S.pl), c_needBoard S C, if_pos h, oT0l, c_needScene S C V h hc, if_neg z, oT0r]
      rfl
  · rw [if_neg h, if_neg h]
    refine ⟨I, ?_, C, K, FR.rf _ _ _⟩
    simp only [fX10_setLight, if_pos (isT_of S.pl), c_needBoard S C, if_neg h, oT0r]
    rfl
theorem ca_setLength (S : OKS sh AD) (V : VST σ) (hfu : 5000 ≤ fu) (hs : IR s) (hl : IR l) : CA AD R P σ (sLen_ σ s l) (fun I => fX10_setLength fu sh I R (AD 0) (iz s) (iz l)) (aLen σ s l) := by
  intro I C K
  unfold aLen sLen_
  by_cases h : σ.1 = true
  · have n4 := V.n4
    have B := C.ba S V h
    rw [if_pos h, if_pos h]
    by_cases z : 0 ≤ s ∧ s ≤ σ.2.1 4 - 1
    · by_cases zl : 1 ≤ l ∧ l ≤ 99
      · rw [if_pos (show (0 ≤ s ∧ s ≤ σ.2.1 4 - 1) ∧ (1 ≤ l ∧ l ≤ 99) from ⟨z, zl⟩), if_pos (show (0 ≤ s ∧ s ≤ σ.2.1 4 - 1) ∧ (1 ≤ l ∧ l ≤ 99) from ⟨z, zl⟩)]
        obtain ⟨⟨q1, q2⟩, -, -, -, -, -, q5⟩ := B.1.2.2.2 s z.1 (by omega)
        obtain ⟨J, e, CJ, ⟨z9, z11⟩, F1⟩ := c_begin (fu := fu) S C V hfu h
        have Bs : BSH R AD 28 (P 0) := C.1.2.2.2.2.2.2.2 0 (by decide) (by decide)
        have ps := (Bs.2.2.2.1 s z.1 (by omega)).2
        have kc := S.at (i := 28 + 12 + P 0 s) (by rw [← kd_H (b := 0) (k := P 0 s) (by decide) (by decide) (by omega) (by omega)]; congr 1) (by omega) (by omega)
        have F2 : FR AD J (u2 J (AD (28 + 12 + P 0 s)) 5 (iz l)) (fun i _ => 28 ≤ i ∧ i < 52) := FR.u2 S (by omega) (by omega) ⟨by omega, by omega⟩ (FR.rf AD J _)
        obtain ⟨C2, K2⟩ := c_done V h CJ z9 z11 F2 (BVL.sh1 (l := l) (k := 5) S (V.1 h) Bs (CJ.2.2.2.2.2.1 h) rfl rfl z.1 (by omega) (by decide))
        refine ⟨_, ?_, C2, K2, (F1.wd fun i k z => by omega).tr (F2.wd fun i k z => by omega)⟩
        simp only [fX10_setLength, if_pos (isT_of S.pl), c_needBoard S C, if_pos h, oT0l, c_needShot S C V h hs, if_pos z, iz_lit, c_needRange hl.1 hl.2 (by decide : (-2147483648 : Int) ≤ 1) (by decide) (by decide : (-2147483648 : Int) ≤ 99) (by decide), if_pos zl, oR_at S.pl C.1.1.1.2.1, B.1.1.2.2, q1, q5, e, bsome, oP_at kc]
        rfl
      · rw [if_neg (fun k => zl k.2), if_neg (fun k => zl k.2)]
        refine ⟨I, ?_, C, K, FR.rf _ _ _⟩
        simp only [fX10_setLength, if_pos (isT_of S.pl), c_needBoard S C, if_pos h, oT0l, c_needShot S C V h hs, if_pos z, iz_lit, c_needRange hl.1 hl.2 (by decide : (-2147483648 : Int) ≤ 1) (by decide) (by decide : (-2147483648 : Int) ≤ 99) (by decide), if_neg zl, oT0r]
        rfl
    · rw [if_neg (fun k => z k.1), if_neg (fun k => z k.1)]
      refine ⟨I, ?_, C, K, FR.rf _ _ _⟩
      simp only [fX10_setLength, if_pos (isT_of S.pl), c_needBoard S C, if_pos h, oT0l, c_needShot S C V h hs, if_neg z, oT0r]
      rfl
  · rw [if_neg h, if_neg h]
    refine ⟨I, ?_, C, K, FR.rf _ _ _⟩
    simp only [fX10_setLength, if_pos (isT_of S.pl), c_needBoard S C, if_neg h, oT0r]
    rfl
theorem ca_setLimits (S : OKS sh AD) (V : VST σ) (hfu : 5000 ≤ fu) (hr : IR r) (ht : IR t) (hf : IR f) : CA AD R P σ (sLim σ r t f) (fun I => fX10_setLimits fu sh I R (AD 0) (iz r) (iz t) (iz f)) (aLim σ r t f) := by
  intro I C K
  unfold aLim sLim
  by_cases h : σ.1 = true
  · have n4 := V.n4
    have B := C.ba S V h
    have d0 : (-2147483648 : Int) ≤ 0 := by decide
    have d1 : (0 : Int) ≤ 2147483647 := by decide
    have d2 : (-2147483648 : Int) ≤ 99 := by decide
    have d3 : (99 : Int) ≤ 2147483647 := by decide
    have d4 : (-2147483648 : Int) ≤ 2000 := by decide
    have d5 : (2000 : Int) ≤ 2147483647 := by decide
    rw [if_pos h, if_pos h]
    by_cases z : (0 ≤ r ∧ r ≤ 99) ∧ (0 ≤ t ∧ t ≤ 2000) ∧ (0 ≤ f ∧ f ≤ 2000)
    · rw [if_pos z, if_pos z]
      obtain ⟨zr, zt, zf⟩ := z
      obtain ⟨J, e, CJ, ⟨z9, z11⟩, F1⟩ := c_begin (fu := fu) S C V hfu h
      have Bs : BSH R AD 28 (P 0) := C.1.2.2.2.2.2.2.2 0 (by decide) (by decide)
      have kc := S.at (i := 28) (t := 0) (n := 7) rfl (by decide) (by decide)
      have F2 : FR AD J (u2 (u2 (u2 J (AD 28) 0 (iz r)) (AD 28) 1 (iz t)) (AD 28) 2 (iz f)) (fun i _ => 28 ≤ i ∧ i < 52) := FR.u2 S (by omega) (by omega) ⟨by omega, by omega⟩ (FR.u2 S (by omega) (by omega) ⟨by omega, by omega⟩ (FR.u2 S (by omega) (by omega) ⟨by omega, by omega⟩ (FR.rf AD J _)))
      have W := lim_V (V.1 h) ⟨zr, zt, zf⟩
      obtain ⟨C2, K2⟩ := c_done V h CJ z9 z11 F2 (BVL.lm (r := r) (t := t) (f := f) S (V.1 h) Bs (CJ.2.2.2.2.2.1 h))
      obtain ⟨I', e2, C3, K3, tt, F3⟩ := c_know1 (fu := fu) S C2 K2 (V.act h W) hfu h
      refine ⟨I', ?_, C3, K3, ((F1.wd fun i k z => by omega).tr (F2.wd fun i k z => by omega)).tr F3⟩
      simp only [fX10_setLimits, if_pos (isT_of S.pl), c_needBoard S C, if_pos h, oT0l, iz_lit, c_needRange hr.1 hr.2 d0 d1 d2 d3, c_needRange ht.1 ht.2 d0 d1 d4 d5, c_needRange hf.1 hf.2 d0 d1 d4 d5, if_pos zr, if_pos zt, if_pos zf, e, bsome, oR_at S.pl C.1.1.1.2.1, oP_at kc, e2, oR_at S.pl C.1.1.1.2.2.2.2.2, oI_at (k6 S), tt.1]
      rfl
    · rw [if_neg z, if_neg z]
      refine ⟨I, ?_, C, K, FR.rf _ _ _⟩
      simp only [fX10_setLimits, if_pos (isT_of S.pl), c_needBoard S C, if_pos h, oT0l, iz_lit, c_needRange hr.1 hr.2 d0 d1 d2 d3, c_needRange ht.1 ht.2 d0 d1 d4 d5, c_needRange hf.1 hf.2 d0 d1 d4 d5]
      by_cases zr : 0 ≤ r ∧ r ≤ 99
      · rw [if_pos zr, oT0l]
        by_cases zt : 0 ≤ t ∧ t ≤ 2000
        · rw [if_pos zt, oT0l, if_neg (fun k => z ⟨zr, zt, k⟩), oT0r]
          rfl
        · rw [if_neg zt, oT0r]
          rfl
      · rw [if_neg zr, oT0r]
        rfl
  · rw [if_neg h, if_neg h]
    refine ⟨I, ?_, C, K, FR.rf _ _ _⟩
    simp only [fX10_setLimits, if_pos (isT_of S.pl), c_needBoard S C, if_neg h, oT0r]
    rfl
end Q25
