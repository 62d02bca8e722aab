/-! STAGE 2: the class reads a shot -/
def sht2 (f : Nat → Int) (n : Nat) (p : PS) : PS := tkP f n (scn1 f n p) 0 199
def sht3 (f : Nat → Int) (n : Nat) (p : PS) : PS := tkP f n (sht2 f n p) 0 199
def suP (f : Nat → Int) (q : PS) (ρ : RHO) (c x y : Int) : PS := if axS ρ c (nmP f q) = x ∧ ayS ρ c (nmP f q) = y then falP (acP f q ρ c) 3 else acP f q ρ c
def prP (f : Nat → Int) (q : PS) (ρ : RHO) (c u : Int) : PS := if wdP f q 15 = true then q else if nmP f q = u then falP (acP f q ρ c) 3 else acP f q ρ c
def paP (f : Nat → Int) (q : PS) : Int := if wdP f q 15 = true then -1 else nmP f q
def sht4 (f : Nat → Int) (n : Nat) (p : PS) (ρ : RHO) (c : Int) : PS := advP f n (suP f (sht3 f n p) ρ c (nmP f (scn1 f n p)) (nmP f (sht2 f n p)))
def sht5 (f : Nat → Int) (n : Nat) (p : PS) (ρ : RHO) (c : Int) : PS := advP f n (prP f (sht4 f n p ρ c) ρ c (nmP f (sht3 f n p)))
def sht6 (f : Nat → Int) (n : Nat) (p : PS) (ρ : RHO) (c : Int) : PS := tkP f n (sht5 f n p ρ c) 1 99
def sht7 (f : Nat → Int) (n : Nat) (p : PS) (ρ : RHO) (c : Int) : PS := semP f n (sht6 f n p ρ c)
def shtX (f : Nat → Int) (n : Nat) (p : PS) (ρ : RHO) (c : Int) : RHO := if (sht7 f n p ρ c).er = 0 then shtR ρ c (nmP f (scn1 f n p)) (nmP f (sht2 f n p)) (nmP f (sht3 f n p)) (paP f (sht4 f n p ρ c)) (nmP f (sht5 f n p ρ c)) else ρ
theorem acP_ne {f : Nat → Int} {p : PS} {ρ : RHO} {c : Int} (h : ¬ (okN f p 0 5).er = 0) : acP f p ρ c = okN f p 0 5 := by
  unfold acP
  split
  · rfl
  · exact fal_ne h
theorem suP_wf {f : Nat → Int} {n : Nat} {p : PS} (W : WfP f n p) (ρ : RHO) (c x y : Int) : WfP f n (suP f p ρ c x y) := by
  unfold suP
  split
  · exact falP_wf (acP_wf W ρ c) 3
  · exact acP_wf W ρ c
theorem prP_wf {f : Nat → Int} {n : Nat} {p : PS} (W : WfP f n p) (ρ : RHO) (c u : Int) : WfP f n (prP f p ρ c u) := by
  unfold prP
  split
  · exact W
  · split
    · exact falP_wf (acP_wf W ρ c) 3
    · exact acP_wf W ρ c
theorem suP_ok {f : Nat → Int} {p : PS} {ρ : RHO} {c x y : Int} (h : (suP f p ρ c x y).er = 0) : (acP f p ρ c).er = 0 ∧ ¬ (axS ρ c (nmP f p) = x ∧ ayS ρ c (nmP f p) = y) := by
  unfold suP at h
  by_cases z : axS ρ c (nmP f p) = x ∧ ayS ρ c (nmP f p) = y
  · rw [if_pos z] at h
    exact absurd h (fal_er (by decide))
  · rw [if_neg z] at h
    exact ⟨h, z⟩
theorem prP_ok {f : Nat → Int} {p : PS} {ρ : RHO} {c u : Int} (h : (prP f p ρ c u).er = 0) : p.er = 0 ∧ (paP f p = -1 ∨ ((0 ≤ paP f p ∧ paP f p < 6) ∧ inS ρ c (paP f p) = true ∧ ¬ paP f p = u)) := by
  unfold prP at h
  unfold paP
  by_cases z : wdP f p 15 = true
  · rw [if_pos z] at h
    rw [if_pos z]
    exact ⟨h, Or.inl rfl⟩
  · rw [if_neg z] at h
    rw [if_neg z]
    by_cases y : nmP f p = u
    · rw [if_pos y] at h
      exact absurd h (fal_er (by decide))
    · rw [if_neg y] at h
      obtain ⟨a, b, c, d, e, g⟩ := acP_ok h
      exact ⟨c, Or.inr ⟨⟨e, by omega⟩, a, y⟩⟩
theorem sht_wf {f : Nat → Int} {n : Nat} {p : PS} (W : WfP f n p) (ρ : RHO) (c : Int) : WfP f n (scn1 f n p) ∧ WfP f n (sht2 f n p) ∧ WfP f n (sht3 f n p) ∧ WfP f n (sht4 f n p ρ c) ∧ WfP f n (sht5 f n p ρ c) ∧ WfP f n (sht6 f n p ρ c) ∧ WfP f n (sht7 f n p ρ c) := by
  have a1 : WfP f n (scn1 f n p) := advP_wf W
  have a2 : WfP f n (sht2 f n p) := tkP_wf a1 0 199
  have a3 : WfP f n (sht3 f n p) := tkP_wf a2 0 199
  have a4 : WfP f n (sht4 f n p ρ c) := advP_wf (suP_wf a3 ρ c _ _)
  have a5 : WfP f n (sht5 f n p ρ c) := advP_wf (prP_wf a4 ρ c _)
  have a6 : WfP f n (sht6 f n p ρ c) := tkP_wf a5 1 99
  exact ⟨a1, a2, a3, a4, a5, a6, semP_wf a6⟩
theorem sht_ok {f : Nat → Int} {n : Nat} {p : PS} (W : WfP f n p) {ρ : RHO} {c : Int} (h : (sht7 f n p ρ c).er = 0) : p.er = 0 ∧ ((okN f (scn1 f n p) 0 199).er = 0 ∧ 0 ≤ nmP f (scn1 f n p) ∧ nmP f (scn1 f n p) ≤ 199) ∧ ((okN f (sht2 f n p) 0 199).er = 0 ∧ 0 ≤ nmP f (sht2 f n p) ∧ nmP f (sht2 f n p) ≤ 199) ∧
    ((okN f (sht3 f n p) 0 5).er = 0 ∧ (0 ≤ nmP f (sht3 f n p) ∧ nmP f (sht3 f n p) < 6) ∧ inS ρ c (nmP f (sht3 f n p)) = true ∧ ¬ (axS ρ c (nmP f (sht3 f n p)) = nmP f (scn1 f n p) ∧ ayS ρ c (nmP f (sht3 f n p)) = nmP f (sht2 f n p))) ∧
    ((prP f (sht4 f n p ρ c) ρ c (nmP f (sht3 f n p))).er = 0 ∧ (paP f (sht4 f n p ρ c) = -1 ∨ ((0 ≤ paP f (sht4 f n p ρ c) ∧ paP f (sht4 f n p ρ c) < 6) ∧ inS ρ c (paP f (sht4 f n p ρ c)) = true ∧ ¬ paP f (sht4 f n p ρ c) = nmP f (sht3 f n p)))) ∧
    ((okN f (sht5 f n p ρ c) 1 99).er = 0 ∧ 1 ≤ nmP f (sht5 f n p ρ c) ∧ nmP f (sht5 f n p ρ c) ≤ 99) := by
  obtain ⟨a1, a2, a3, a4, a5, a6, -⟩ := sht_wf W ρ c
  obtain ⟨b, -⟩ := semP_ok a6 h
  obtain ⟨c1, c2, c3, c4, c5⟩ := tkP_ok a5 b
  have c6 : (advP f n (prP f (sht4 f n p ρ c) ρ c (nmP f (sht3 f n p)))).er = 0 := c2
  rw [adv_er (prP_wf a4 ρ c _).2.1] at c6
  obtain ⟨d1, d2⟩ := prP_ok c6
  have d3 : (advP f n (suP f (sht3 f n p) ρ c (nmP f (scn1 f n p)) (nmP f (sht2 f n p)))).er = 0 := d1
  rw [adv_er (suP_wf a3 ρ c _ _).2.1] at d3
  obtain ⟨e1, e2⟩ := suP_ok d3
  obtain ⟨f1, f2, f3, f4, f5, f6⟩ := acP_ok e1
  obtain ⟨g1, g2, g3, g4, g5⟩ := tkP_ok a2 f3
  obtain ⟨h1, h2, h3, h4, h5⟩ := tkP_ok a1 g2
  have h6 : (advP f n p).er = 0 := h2
  rw [adv_er W.2.1] at h6
  exact ⟨h6, ⟨h1, h4, h5⟩, ⟨g1, g4, g5⟩, ⟨f2, ⟨f5, by omega⟩, f1, e2⟩, ⟨c6, d2⟩, c1, c4, c5⟩
section Q58
variable {fu : Nat} {sh : HS} {I I' : HI} {R : HR} {AD : Int → Nat} {f : Nat → Int} {n : Nat} {p q : PS} {ρ : RHO} {pp : Int → Int} {W : Int → Nat → Prop}
theorem c_seeA (S : OKS sh AD) (C : CST I AD f n p) (L : BVL I AD 52 pp ρ) (V : PV ρ) (hp : ∀ s, 0 ≤ s → s < 12 → 0 ≤ pp s ∧ pp s < 12) {c : Int} (c0 : 0 ≤ c) (c1 : c < ρ 3) : ∃ t I', fX1_seeActorOf fu sh I R (AD 2) (AD (52 + 3 + 3 * c)) = some (iz t, I') ∧ CST I' AD f n (acP f p ρ c) ∧ FR AD I I' (fun i _ => i = 2) ∧ (0 ≤ t ∧ t < 6) ∧ ((okN f p 0 5).er = 0 → t = nmP f p) := by
  obtain ⟨J2, a2, b2, c2⟩ := c_see (fu := fu) (R := R) S C (lo := 0) (hi := 5) (by decide) (by decide) (by decide) (by decide)
  have L2 : BVL J2 AD 52 pp ρ := L.fq V (by decide) (by decide) hp c2 (fun i k g0 g1 => by omega)
  obtain ⟨t, ht⟩ : ∃ t, t = (if (okN f p 0 5).er = 0 then nmP f p else 0) := ⟨_, rfl⟩
  have tr : 0 ≤ t ∧ t < 6 := by
    rw [ht]
    split
    · rename_i w
      have := (okN_ok w).2.2.2
      omega
    · omega
  simp only [fX1_seeActorOf, if_pos (isT_of (S2 S)), iz_lit, a2, oHs]
  rw [← ht, c_hasD S L2 V c0 c1 tr.1 tr.2, bsome]
  simp only [bz_zero, fX1_seeActorOf_b20]
  by_cases x : inS ρ c t = false
  · obtain ⟨K, a, b, e⟩ := c_fail (fu := fu) (R := R) S b2 (e := 2) (by decide)
    have a' : fX1_fail fu sh J2 R (AD 2) (iz 2) = some K := a
    rw [if_pos x, a', bsome]
    refine ⟨t, K, rfl, ?_, c2.tr e, tr, fun w => by rw [ht]; exact if_pos w⟩
    have ea : acP f p ρ c = falP (okN f p 0 5) 2 := by
      by_cases w : (okN f p 0 5).er = 0
      · rw [if_pos w] at ht
        unfold acP
        rw [if_neg (by rw [← ht, x]; decide)]
      · rw [acP_ne w, fal_ne w]
    rw [ea]
    exact b
  · rw [if_neg x]
    refine ⟨t, J2, rfl, ?_, c2, tr, fun w => by rw [ht]; exact if_pos w⟩
    have ea : acP f p ρ c = okN f p 0 5 := by
      by_cases w : (okN f p 0 5).er = 0
      · rw [if_pos w] at ht
        unfold acP
        rw [if_pos (by rw [← ht]; revert x; cases inS ρ c t <;> simp)]
      · exact acP_ne w
    rw [ea]
    exact b2
theorem c_isAtD (S : OKS sh AD) (H : BSH R AD 52 pp) (L : BVL I AD 52 pp ρ) (V : PV ρ) {c : Int} (c0 : 0 ≤ c) (c1 : c < ρ 3) {t x y : Int} (t0 : 0 ≤ t) (t1 : t < 6) (x0 : 0 ≤ x ∧ x ≤ 199) (y0 : 0 ≤ y ∧ y ≤ 199) : ∃ b, fX6_isActorAt fu sh I R (AD (52 + 3 + 3 * c)) (iz t) (iz x) (iz y) = some (bz b) ∧ (inS ρ c t = true → (b = true ↔ (axS ρ c t = x ∧ ayS ρ c t = y))) := by
  have hm := V.1
  obtain ⟨k1, k2, k3⟩ := K52s S c0 (show c < 3 by omega)
  obtain ⟨-, o2, o3⟩ := H.sc S c0 (show c < 3 by omega)
  simp only [fX6_isActorAt, fX6_isActorAt_b24, fX6_isActorAt_b25, if_pos (isT_of k1), o2, o3, bsome, oA_iz k2 t0 (show t < (6 : Nat) by omega) (by omega), oA_iz k3 t0 (show t < (6 : Nat) by omega) (by omega), iz_lit]
  have val : inS ρ c t = true → I (AD (52 + 4 + 3 * c)) t.toNat = iz (axS ρ c t) ∧ I (AD (52 + 5 + 3 * c)) t.toNat = iz (ayS ρ c t) ∧ (0 ≤ axS ρ c t ∧ axS ρ c t ≤ 199) ∧ (0 ≤ ayS ρ c t ∧ ayS ρ c t ≤ 199) := fun i => by
    obtain ⟨a, b⟩ := (L.2.1 c c0 c1).2 t t0 t1 i
    exact ⟨a, b, (V.2.2.1 c c0 c1).2.2 t t0 t1 i⟩
  by_cases z : I (AD (52 + 4 + 3 * c)) t.toNat = iz x
  · rw [if_pos z]
    by_cases w : I (AD (52 + 5 + 3 * c)) t.toNat = iz y
    · rw [if_pos w]
      refine ⟨true, rfl, fun i => ⟨fun _ => ?_, fun _ => rfl⟩⟩
      obtain ⟨a, b, r1, r2⟩ := val i
      rw [a, iz_eq (by omega) (by omega) (by omega) (by omega)] at z
      rw [b, iz_eq (by omega) (by omega) (by omega) (by omega)] at w
      exact ⟨z, w⟩
    · rw [if_neg w]
      refine ⟨false, rfl, fun i => ⟨fun q => absurd q (by decide), fun q => absurd ?_ w⟩⟩
      rw [(val i).2.1, q.2]
  · rw [if_neg z]
    refine ⟨false, rfl, fun i => ⟨fun q => absurd q (by decide), fun q => absurd ?_ z⟩⟩
    rw [(val i).1, q.1]
theorem c_subj (S : OKS sh AD) (H : BSH R AD 52 pp) (hR : R (AD 2) 0 = some (AD 1)) (hfu : 5000 ≤ fu) (C : CST I AD f n p) (L : BVL I AD 52 pp ρ) (V : PV ρ) (hn4 : ρ 4 < 12) {c x y : Int} (c0 : 0 ≤ c) (c1 : c < ρ 3) (x0 : 0 ≤ x ∧ x ≤ 199) (y0 : 0 ≤ y ∧ y ≤ 199) (e1 : I (AD (52 + 12 + pp (ρ 4))) 1 = iz x) (e2 : I (AD (52 + 12 + pp (ρ 4))) 2 = iz y) :
    ∃ t I', fX1_readSubject fu sh I R (AD 2) (AD (52 + 3 + 3 * c)) (AD (52 + 12 + pp (ρ 4))) = some I' ∧ CST I' AD f n (advP f n (suP f p ρ c x y)) ∧ BVL I' AD 52 pp ρ ∧ FR AD I I' (fun i k => i = 2 ∨ (i = 52 + 12 + pp (ρ 4) ∧ k = 3)) ∧ I' (AD (52 + 12 + pp (ρ 4))) 3 = iz t ∧ (0 ≤ t ∧ t < 6) ∧ ((okN f p 0 5).er = 0 → t = nmP f p) := by
  have hp : ∀ s, 0 ≤ s → s < 12 → 0 ≤ pp s ∧ pp s < 12 := fun s g0 g1 => (H.2.2.2.1 s g0 g1).2
  have hn := V.2.1
  have pn := hp (ρ 4) hn.1 hn4
  have kh := K52h S pn.1 pn.2
  obtain ⟨t, J1, a1, b1, f1, tr, tv⟩ := c_seeA (fu := fu) (R := R) S C L V hp c0 c1
  obtain ⟨J2, h2⟩ : ∃ J, J = _root_.Jvm.Pilot.@@N@@.u2 J1 (AD (52 + 12 + pp (ρ 4))) 3 (iz t) := ⟨_, rfl⟩
  have F2 : FR AD J1 J2 (fun i k => i = 2 ∨ (i = 52 + 12 + pp (ρ 4) ∧ k = 3)) := by rw [h2]; exact FR.u2 S (by omega) (by omega) (Or.inr ⟨rfl, rfl⟩) (FR.rf AD J1 _)
  have G2 := (f1.wd fun i k z => Or.inl z : FR AD I J1 (fun i k => i = 2 ∨ (i = 52 + 12 + pp (ρ 4) ∧ k = 3))).tr F2
  have L2 : BVL J2 AD 52 pp ρ := L.fs V hn4 hp H.2.2.2.2 G2 (fun i k g0 g1 w => by omega)
  have b2 : CST J2 AD f n (acP f p ρ c) := by rw [h2]; exact b1.u S (by omega) (by omega) _ _
  have v3 : J2 (AD (52 + 12 + pp (ρ 4))) 3 = iz t := by rw [h2, u2_ad S (by omega) (by omega) (by omega) (by omega), if_pos ⟨rfl, rfl⟩]
  have v1 : J2 (AD (52 + 12 + pp (ρ 4))) 1 = iz x := (G2 _ (by omega) (by omega) 1 (by omega)).trans e1
  have v2 : J2 (AD (52 + 12 + pp (ρ 4))) 2 = iz y := (G2 _ (by omega) (by omega) 2 (by omega)).trans e2
  obtain ⟨b, hb, hv⟩ := c_isAtD (fu := fu) S H L2 V c0 c1 tr.1 tr.2 x0 y0
  have start : fX1_readSubject fu sh I R (AD 2) (AD (52 + 3 + 3 * c)) (AD (52 + 12 + pp (ρ 4))) = (if b = false then fX1_readSubject_b33 fu sh R J2 (AD 2) else (fX1_fail fu sh J2 R (AD 2) (iz 3)).bind fun w8 => fX1_readSubject_b33 fu sh R w8 (AD 2)) := by
    simp only [fX1_readSubject, if_pos (isT_of (S2 S)), a1, oHs, oP_at kh, bsome, iz_lit]
    rw [← h2]
    simp only [oI_at kh, v3, v1, v2, bsome, hb, bz_zero]
  have e : suP f p ρ c x y = if b = true then falP (acP f p ρ c) 3 else acP f p ρ c := by
    unfold suP
    by_cases w : (acP f p ρ c).er = 0
    · obtain ⟨i, o, -⟩ := acP_ok w
      have tn := tv o
      rw [← tn] at i ⊢
      by_cases z : axS ρ c t = x ∧ ayS ρ c t = y
      · rw [if_pos z, if_pos ((hv i).mpr z)]
      · rw [if_neg z, if_neg (fun k => z ((hv i).mp k))]
    · rw [fal_ne w]
      split <;> split <;> rfl
  rw [start, e]
  have fin : ∀ {K : HI} {q : PS}, CST K AD f n q → FR AD J2 K (fun i _ => i = 2) → ∃ t I', fX1_readSubject_b33 fu sh R K (AD 2) = some I' ∧ CST I' AD f n (advP f n q) ∧ BVL I' AD 52 pp ρ ∧ FR AD I I' (fun i k => i = 2 ∨ (i = 52 + 12 + pp (ρ 4) ∧ k = 3)) ∧ I' (AD (52 + 12 + pp (ρ 4))) 3 = iz t ∧ (0 ≤ t ∧ t < 6) ∧ ((okN f p 0 5).er = 0 → t = nmP f p) := by
    intro K q D F
    obtain ⟨K2, x1, x2, x3⟩ := c_adv S hR hfu D
    have G := F.tr x3
    refine ⟨t, K2, ?_, x2, L2.fq V (by decide) (by decide) hp G (fun i k g0 g1 => by omega), G2.tr (G.wd fun i k w => Or.inl w), ?_, tr, tv⟩
    · simp only [fX1_readSubject_b33, x1, bsome]
    · exact (G _ (by omega) (by omega) 3 (by omega)).trans v3
  cases b with
  | false =>
    rw [if_pos rfl, if_neg (by decide)]
    exact fin b2 (FR.rf _ _ _)
  | true =>
    obtain ⟨K, a, d, g⟩ := c_fail (fu := fu) (R := R) S b2 (e := 3) (by decide)
    have a' : fX1_fail fu sh J2 R (AD 2) (iz 3) = some K := a
    rw [if_neg (by decide), if_pos rfl, a', bsome]
    exact fin d g
theorem c_part (S : OKS sh AD) (H : BSH R AD 52 pp) (hR : R (AD 2) 0 = some (AD 1)) (hfu : 5000 ≤ fu) (C : CST I AD f n p) (L : BVL I AD 52 pp ρ) (V : PV ρ) (hn4 : ρ 4 < 12) {c u t : Int} (c0 : 0 ≤ c) (c1 : c < ρ 3) (t0 : 0 ≤ t ∧ t < 6) (e3 : I (AD (52 + 12 + pp (ρ 4))) 3 = iz t) (hu : p.er = 0 → t = u) :
    ∃ w I', fX1_readPartner fu sh I R (AD 2) (AD (52 + 3 + 3 * c)) (AD (52 + 12 + pp (ρ 4))) = some I' ∧ CST I' AD f n (advP f n (prP f p ρ c u)) ∧ BVL I' AD 52 pp ρ ∧ FR AD I I' (fun i k => i = 2 ∨ (i = 52 + 12 + pp (ρ 4) ∧ k = 4)) ∧ I' (AD (52 + 12 + pp (ρ 4))) 4 = iz w ∧ ((prP f p ρ c u).er = 0 → w = paP f p) := by
  have hp : ∀ s, 0 ≤ s → s < 12 → 0 ≤ pp s ∧ pp s < 12 := fun s g0 g1 => (H.2.2.2.1 s g0 g1).2
  have hn := V.2.1
  have pn := hp (ρ 4) hn.1 hn4
  have kh := K52h S pn.1 pn.2
  obtain ⟨J1, h1⟩ : ∃ J, J = _root_.Jvm.Pilot.@@N@@.u2 I (AD (52 + 12 + pp (ρ 4))) 4 (iz (-1)) := ⟨_, rfl⟩
  have F1 : FR AD I J1 (fun i k => i = 2 ∨ (i = 52 + 12 + pp (ρ 4) ∧ k = 4)) := by rw [h1]; exact FR.u2 S (by omega) (by omega) (Or.inr ⟨rfl, rfl⟩) (FR.rf AD I _)
  have L1 : BVL J1 AD 52 pp ρ := L.fs V hn4 hp H.2.2.2.2 F1 (fun i k g0 g1 w => by omega)
  have b1 : CST J1 AD f n p := by rw [h1]; exact C.u S (by omega) (by omega) _ _
  have v4 : J1 (AD (52 + 12 + pp (ρ 4))) 4 = iz (-1) := by rw [h1, u2_ad S (by omega) (by omega) (by omega) (by omega), if_pos ⟨rfl, rfl⟩]
  have fin : ∀ {K : HI} {q : PS} {w : Int}, CST K AD f n q → BVL K AD 52 pp ρ → FR AD I K (fun i k => i = 2 ∨ (i = 52 + 12 + pp (ρ 4) ∧ k = 4)) → K (AD (52 + 12 + pp (ρ 4))) 4 = iz w → q = prP f p ρ c u → ((prP f p ρ c u).er = 0 → w = paP f p) → ∃ w I', fX1_readPartner_b39 fu sh R K (AD 2) = some I' ∧ CST I' AD f n (advP f n (prP f p ρ c u)) ∧ BVL I' AD 52 pp ρ ∧ FR AD I I' (fun i k => i = 2 ∨ (i = 52 + 12 + pp (ρ 4) ∧ k = 4)) ∧ I' (AD (52 + 12 + pp (ρ 4))) 4 = iz w ∧ ((prP f p ρ c u).er = 0 → w = paP f p) := by
    intro K q w D LK F k4 eq hw
    subst eq
    obtain ⟨K2, x1, x2, x3⟩ := c_adv S hR hfu D
    refine ⟨w, K2, ?_, x2, LK.fq V (by decide) (by decide) hp x3 (fun i k g0 g1 => by omega), F.tr (x3.wd fun i k w => Or.inl w), (x3 _ (by omega) (by omega) 4 (by omega)).trans k4, hw⟩
    simp only [fX1_readPartner_b39, x1, bsome]
  simp only [fX1_readPartner, if_pos (isT_of (S2 S)), oP_at kh, bsome, iz_lit, iz_neg]
  rw [← h1, c_kwd S hR hfu b1 (show 15 < 22 by decide), bsome]
  simp only [bz_zero]
  by_cases z : wdP f p 15 = true
  · rw [z, if_neg (by decide)]
    exact fin b1 L1 F1 v4 (if_pos z).symm (fun _ => (if_pos z).symm)
  · rw [if_pos (by revert z; cases wdP f p 15 <;> simp)]
    obtain ⟨v, J2, a2, b2, f2, vr, vv⟩ := c_seeA (fu := fu) (R := R) S b1 L1 V hp c0 c1
    obtain ⟨J3, h3⟩ : ∃ J, J = _root_.Jvm.Pilot.@@N@@.u2 J2 (AD (52 + 12 + pp (ρ 4))) 4 (iz v) := ⟨_, rfl⟩
    have F3 : FR AD I J3 (fun i k => i = 2 ∨ (i = 52 + 12 + pp (ρ 4) ∧ k = 4)) := by rw [h3]; exact FR.u2 S (by omega) (by omega) (Or.inr ⟨rfl, rfl⟩) (F1.tr (f2.wd fun i k w => Or.inl w))
    have L3 : BVL J3 AD 52 pp ρ := L.fs V hn4 hp H.2.2.2.2 F3 (fun i k g0 g1 w => by omega)
    have b3 : CST J3 AD f n (acP f p ρ c) := by rw [h3]; exact b2.u S (by omega) (by omega) _ _
    have w4 : J3 (AD (52 + 12 + pp (ρ 4))) 4 = iz v := by rw [h3, u2_ad S (by omega) (by omega) (by omega) (by omega), if_pos ⟨rfl, rfl⟩]
    have w3 : J3 (AD (52 + 12 + pp (ρ 4))) 3 = iz t := (F3 _ (by omega) (by omega) 3 (by omega)).trans e3
    rw [a2, oHs, ← h3, oI_at kh, w4, bsome, oI_at kh, w3, bsome]
    have un : prP f p ρ c u = if nmP f p = u then falP (acP f p ρ c) 3 else acP f p ρ c := if_neg z
    have wv : (prP f p ρ c u).er = 0 → v = paP f p := by
      intro q
      rw [un] at q
      have pa : paP f p = nmP f p := if_neg z
      rw [pa]
      split at q
      · exact absurd q (fal_er (by decide))
      · exact vv (acP_ok q).2.1
    by_cases x : v = t
    · obtain ⟨K, a, d, g⟩ := c_fail (fu := fu) (R := R) S b3 (e := 3) (by decide)
      have a' : fX1_fail fu sh J3 R (AD 2) (iz 3) = some K := a
      rw [if_pos (by rw [x]), a', bsome]
      refine fin d (L3.fq V (by decide) (by decide) hp g (fun i k g0 g1 => by omega)) (F3.tr (g.wd fun i k w => Or.inl w)) ((g _ (by omega) (by omega) 4 (by omega)).trans w4) ?_ wv
      rw [un]
      by_cases w : (acP f p ρ c).er = 0
      · obtain ⟨-, o, o2, -⟩ := acP_ok w
        rw [if_pos (by rw [← vv o, x]; exact hu o2)]
      · rw [fal_ne w]
        split <;> rfl
    · rw [if_neg (by rw [iz_eq (by omega) (by omega) (by omega) (by omega)]; exact x)]
      refine fin b3 L3 F3 w4 ?_ wv
      rw [un]
      by_cases w : (acP f p ρ c).er = 0
      · obtain ⟨-, o, o2, -⟩ := acP_ok w
        rw [if_neg (by rw [← vv o, ← hu o2]; exact x)]
      · rw [fal_ne w]
        split <;> rfl
end Q58
