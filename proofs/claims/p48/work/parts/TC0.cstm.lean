/-! STAGE 2: the class reads limits and a scene -/
def tkP (f : Nat → Int) (n : Nat) (p : PS) (lo hi : Int) : PS := advP f n (okN f p lo hi)
def semP (f : Nat → Int) (n : Nat) (p : PS) : PS := advP f n (okS p)
theorem tkP_ok {f : Nat → Int} {n : Nat} {p : PS} (W : WfP f n p) {lo hi : Int} (h : (tkP f n p lo hi).er = 0) : (okN f p lo hi).er = 0 ∧ p.er = 0 ∧ p.tk = 3 ∧ lo ≤ nmP f p ∧ nmP f p ≤ hi := by
  unfold tkP at h
  rw [adv_er (okN_wf W lo hi).2.1] at h
  exact ⟨h, (okN_ok h).2⟩
theorem semP_ok {f : Nat → Int} {n : Nat} {p : PS} (W : WfP f n p) (h : (semP f n p).er = 0) : p.er = 0 ∧ p.tk = 4 := by
  unfold semP at h
  rw [adv_er (okS_wf W).2.1] at h
  exact (okS_ok h).2
theorem tkP_wf {f : Nat → Int} {n : Nat} {p : PS} (W : WfP f n p) (lo hi : Int) : WfP f n (tkP f n p lo hi) := advP_wf (okN_wf W lo hi)
theorem semP_wf {f : Nat → Int} {n : Nat} {p : PS} (W : WfP f n p) : WfP f n (semP f n p) := advP_wf (okS_wf W)
theorem exW_wf {f : Nat → Int} {n : Nat} {p : PS} (W : WfP f n p) (w : Nat) : WfP f n (exW f p w) := by
  unfold exW
  split
  · exact W
  · exact falP_wf W 1
def lim1 (f : Nat → Int) (n : Nat) (p : PS) : PS := advP f n (exW f p 8)
def lim2 (f : Nat → Int) (n : Nat) (p : PS) : PS := tkP f n (lim1 f n p) 0 99
def lim3 (f : Nat → Int) (n : Nat) (p : PS) : PS := tkP f n (lim2 f n p) 0 2000
def lim4 (f : Nat → Int) (n : Nat) (p : PS) : PS := tkP f n (lim3 f n p) 0 2000
def lim5 (f : Nat → Int) (n : Nat) (p : PS) : PS := semP f n (lim4 f n p)
theorem lim_wf {f : Nat → Int} {n : Nat} {p : PS} (W : WfP f n p) : WfP f n (lim1 f n p) ∧ WfP f n (lim2 f n p) ∧ WfP f n (lim3 f n p) ∧ WfP f n (lim4 f n p) ∧ WfP f n (lim5 f n p) := by
  have a1 : WfP f n (lim1 f n p) := advP_wf (exW_wf W 8)
  have a2 : WfP f n (lim2 f n p) := tkP_wf a1 0 99
  have a3 : WfP f n (lim3 f n p) := tkP_wf a2 0 2000
  have a4 : WfP f n (lim4 f n p) := tkP_wf a3 0 2000
  exact ⟨a1, a2, a3, a4, semP_wf a4⟩
theorem lim_ok {f : Nat → Int} {n : Nat} {p : PS} (W : WfP f n p) (h : (lim5 f n p).er = 0) : ((okN f (lim1 f n p) 0 99).er = 0 ∧ 0 ≤ nmP f (lim1 f n p) ∧ nmP f (lim1 f n p) ≤ 99) ∧ ((okN f (lim2 f n p) 0 2000).er = 0 ∧ 0 ≤ nmP f (lim2 f n p) ∧ nmP f (lim2 f n p) ≤ 2000) ∧ ((okN f (lim3 f n p) 0 2000).er = 0 ∧ 0 ≤ nmP f (lim3 f n p) ∧ nmP f (lim3 f n p) ≤ 2000) := by
  obtain ⟨a1, a2, a3, a4, -⟩ := lim_wf W
  obtain ⟨b, -⟩ := semP_ok a4 h
  obtain ⟨c1, c2, c3, c4, c5⟩ := tkP_ok a3 b
  obtain ⟨d1, d2, d3, d4, d5⟩ := tkP_ok a2 c2
  obtain ⟨e1, e2, e3, e4, e5⟩ := tkP_ok a1 d2
  exact ⟨⟨e1, e4, e5⟩, ⟨d1, d4, d5⟩, c1, c4, c5⟩
def canS (ρ : RHO) : Bool := decide (1 ≤ ρ 3 ∧ 0 < csS ρ (ρ 3 - 1))
def scnQ (p : PS) (ρ : RHO) : PS := if ρ 3 < 3 then (if 0 < ρ 3 ∧ canS ρ = false then falP p 1 else p) else falP (if 0 < ρ 3 ∧ canS ρ = false then falP p 1 else p) 4
def scn1 (f : Nat → Int) (n : Nat) (p : PS) : PS := advP f n p
def scn2 (f : Nat → Int) (n : Nat) (p : PS) : PS := tkP f n (scn1 f n p) 0 3
def scn3 (f : Nat → Int) (n : Nat) (p : PS) : PS := semP f n (scn2 f n p)
/-- what is read behind the word that opens a scene, from the state of the reader on -/
def scnX (f : Nat → Int) (n : Nat) (p : PS) (ρ : RHO) : RHO := if (scn3 f n p).er = 0 then scnR ρ (nmP f (scn1 f n p)) else ρ
section Q56
variable {fu : Nat} {sh : HS} {I I' : HI} {R : HR} {AD : Int → Nat} {f : Nat → Int} {n : Nat} {p : PS} {ρ : RHO} {pp : Int → Int} {W : Int → Nat → Prop}
theorem CST.fr (C : CST I AD f n p) (F : FR AD I I' W) (h1 : ∀ k, ¬ W 1 k) (h2 : ∀ k, ¬ W 2 k) : CST I' AD f n p := by
  obtain ⟨T, w, c1, c2, c3, c4, c5, c6, c7⟩ := C
  have e : ∀ k, I' (AD 2) k = I (AD 2) k := fun k => F 2 (by decide) (by decide) k (h2 k)
  exact ⟨T.fr F h1, w, (e _).trans c1, (e _).trans c2, (e _).trans c3, (e _).trans c4, fun t => (e _).trans (c5 t), (e _).trans c6, c7⟩
theorem CST.u (S : OKS sh AD) (C : CST I AD f n p) {i : Int} (h0 : 3 ≤ i) (h1 : i < 331) (k : Nat) (x : Int32) : CST (_root_.Jvm.Pilot.@@N@@.u2 I (AD i) k x) AD f n p :=
  C.fr (W := fun j _ => j = i) (FR.u2 S (by omega) h1 rfl (FR.rf AD I _)) (fun _ => by omega) (fun _ => by omega)
theorem K52 (S : OKS sh AD) : sh (AD 52) = some (0, 7) ∧ sh (AD (52 + 1)) = some (35, 3) ∧ sh (AD (52 + 2)) = some (37, 12) := ⟨S.at rfl (by decide) (by decide), S.at rfl (by decide) (by decide), S.at rfl (by decide) (by decide)⟩
theorem K52s (S : OKS sh AD) {c : Int} (h0 : 0 ≤ c) (h1 : c < 3) : sh (AD (52 + 3 + 3 * c)) = some (5, 4) ∧ sh (AD (52 + 4 + 3 * c)) = some (20, 6) ∧ sh (AD (52 + 5 + 3 * c)) = some (20, 6) := by
  obtain ⟨q1, q2, q3⟩ := kd_S (b := 1) (by decide) (by decide) h0 h1
  exact ⟨S.at (by rw [← q1]; congr 1) (by omega) (by omega), S.at (by rw [← q2]; congr 1) (by omega) (by omega), S.at (by rw [← q3]; congr 1) (by omega) (by omega)⟩
theorem K52h (S : OKS sh AD) {k : Int} (h0 : 0 ≤ k) (h1 : k < 12) : sh (AD (52 + 12 + k)) = some (7, 6) := by
  have q := kd_H (b := 1) (by decide) (by decide) h0 h1
  exact S.at (by rw [← q]; congr 1) (by omega) (by omega)
theorem BSH.sc (S : OKS sh AD) (H : BSH R AD 52 pp) {c : Int} (h0 : 0 ≤ c) (h1 : c < 3) : oB sh R (AD (52 + 1)) 5 (iz c) = some (AD (52 + 3 + 3 * c)) ∧ oR sh R (AD (52 + 3 + 3 * c)) 5 2 = some (AD (52 + 4 + 3 * c)) ∧ oR sh R (AD (52 + 3 + 3 * c)) 5 3 = some (AD (52 + 5 + 3 * c)) := by
  obtain ⟨-, -, h, -⟩ := H
  obtain ⟨a, b, d⟩ := h c h0 h1
  have k := (K52s S h0 h1).1
  exact ⟨by rw [oB_iz (t := 5) (K52 S).2.1 h0 (by omega) (by omega)]; exact a, oR_at k b, oR_at k d⟩
theorem BSH.sht (S : OKS sh AD) (H : BSH R AD 52 pp) {s : Int} (h0 : 0 ≤ s) (h1 : s < 12) : oB sh R (AD (52 + 2)) 7 (iz s) = some (AD (52 + 12 + pp s)) := by
  obtain ⟨-, -, -, h, -⟩ := H
  rw [oB_iz (t := 7) (K52 S).2.2 h0 (by omega) (by omega)]
  exact (h s h0 h1).1
theorem c_can (S : OKS sh AD) (H : BSH R AD 52 pp) (L : BVL I AD 52 pp ρ) (V : PV ρ) : fX1_canSceneEnd fu sh I R (AD 52) = some (bz (canS ρ)) := by
  have hm := V.1
  simp only [fX1_canSceneEnd, fX1_canSceneEnd_b27, fX1_canSceneEnd_b28, oI_at (K52 S).1, L.1.2.2.2.1, bsome, iz_lit, iz_sub]
  unfold canS
  by_cases z : 1 ≤ ρ 3
  · obtain ⟨b, -⟩ := H.sc S (c := ρ 3 - 1) (by omega) (by omega)
    have e := (L.2.1 (ρ 3 - 1) (by omega) (by omega)).1.2
    have r := (V.2.2.1 (ρ 3 - 1) (by omega) (by omega)).2.1
    rw [if_neg (by rw [iz_lt (by omega) (by omega) (by decide) (by decide)]; omega), oR_at (K52 S).1 H.1, bsome, b, bsome, oI_at (K52s S (show 0 ≤ ρ 3 - 1 by omega) (by omega)).1, e, bsome]
    by_cases y : csS ρ (ρ 3 - 1) = 0
    · rw [if_pos (by rw [y]), decide_eq_false (by omega)]; rfl
    · rw [if_neg (by rw [iz_eq (by omega) (by omega) (by decide) (by decide)]; exact y), decide_eq_true ⟨z, by omega⟩]; rfl
  · rw [if_pos (by rw [iz_lt (by omega) (by omega) (by decide) (by decide)]; omega), decide_eq_false (fun q => z q.1)]; rfl
theorem c_lim14 (S : OKS sh AD) (hR : R (AD 2) 0 = some (AD 1)) (hfu : 5000 ≤ fu) (C : CST I AD f n p) : ∃ I', fX1_readLimits_b14 fu sh R I (AD 2) (AD 52) = some I' ∧ CST I' AD f n (semP f n (tkP f n (tkP f n (tkP f n (advP f n p) 0 99) 0 2000) 0 2000)) ∧ FR AD I I' (fun i k => i = 2 ∨ (i = 52 ∧ k ≤ 2)) ∧
    ((okN f (advP f n p) 0 99).er = 0 → I' (AD 52) 0 = iz (nmP f (advP f n p))) ∧ ((okN f (tkP f n (advP f n p) 0 99) 0 2000).er = 0 → I' (AD 52) 1 = iz (nmP f (tkP f n (advP f n p) 0 99))) ∧ ((okN f (tkP f n (tkP f n (advP f n p) 0 99) 0 2000) 0 2000).er = 0 → I' (AD 52) 2 = iz (nmP f (tkP f n (tkP f n (advP f n p) 0 99) 0 2000))) := by
  obtain ⟨J1, a1, b1, c1⟩ := c_adv S hR hfu C
  obtain ⟨J2, a2, b2, c2⟩ := c_take S hR hfu b1 (lo := 0) (hi := 99) (by decide) (by decide) (by decide) (by decide)
  obtain ⟨J3, h3⟩ : ∃ J, J = _root_.Jvm.Pilot.@@N@@.u2 J2 (AD 52) 0 (iz (if (okN f (advP f n p) 0 99).er = 0 then nmP f (advP f n p) else 0)) := ⟨_, rfl⟩
  have b3 : CST J3 AD f n (tkP f n (advP f n p) 0 99) := by rw [h3]; exact b2.u S (by decide) (by decide) _ _
  obtain ⟨J4, a4, b4, c4⟩ := c_take S hR hfu b3 (lo := 0) (hi := 2000) (by decide) (by decide) (by decide) (by decide)
  obtain ⟨J5, h5⟩ : ∃ J, J = _root_.Jvm.Pilot.@@N@@.u2 J4 (AD 52) 1 (iz (if (okN f (tkP f n (advP f n p) 0 99) 0 2000).er = 0 then nmP f (tkP f n (advP f n p) 0 99) else 0)) := ⟨_, rfl⟩
  have b5 : CST J5 AD f n (tkP f n (tkP f n (advP f n p) 0 99) 0 2000) := by rw [h5]; exact b4.u S (by decide) (by decide) _ _
  obtain ⟨J6, a6, b6, c6⟩ := c_take S hR hfu b5 (lo := 0) (hi := 2000) (by decide) (by decide) (by decide) (by decide)
  obtain ⟨J7, h7⟩ : ∃ J, J = _root_.Jvm.Pilot.@@N@@.u2 J6 (AD 52) 2 (iz (if (okN f (tkP f n (tkP f n (advP f n p) 0 99) 0 2000) 0 2000).er = 0 then nmP f (tkP f n (tkP f n (advP f n p) 0 99) 0 2000) else 0)) := ⟨_, rfl⟩
  have b7 : CST J7 AD f n (tkP f n (tkP f n (tkP f n (advP f n p) 0 99) 0 2000) 0 2000) := by rw [h7]; exact b6.u S (by decide) (by decide) _ _
  obtain ⟨J8, a8, b8, c8⟩ := c_semi S hR hfu b7
  have wd : ∀ {A B : HI}, FR AD A B (fun i _ => i = 2) → FR AD A B (fun i k => i = 2 ∨ (i = 52 ∧ k ≤ 2)) := fun F => F.wd fun i k z => Or.inl z
  have F3 : FR AD J2 J3 (fun i k => i = 2 ∨ (i = 52 ∧ k ≤ 2)) := by rw [h3]; exact FR.u2 S (by decide) (by decide) (Or.inr ⟨rfl, by decide⟩) (FR.rf AD J2 _)
  have F5 : FR AD J4 J5 (fun i k => i = 2 ∨ (i = 52 ∧ k ≤ 2)) := by rw [h5]; exact FR.u2 S (by decide) (by decide) (Or.inr ⟨rfl, by decide⟩) (FR.rf AD J4 _)
  have F7 : FR AD J6 J7 (fun i k => i = 2 ∨ (i = 52 ∧ k ≤ 2)) := by rw [h7]; exact FR.u2 S (by decide) (by decide) (Or.inr ⟨rfl, by decide⟩) (FR.rf AD J6 _)
  have e52 : ∀ {A B : HI}, FR AD A B (fun i _ => i = 2) → ∀ k, B (AD 52) k = A (AD 52) k := fun F k => F 52 (by decide) (by decide) k (show ¬ (52 : Int) = 2 by decide)
  refine ⟨J8, ?_, b8, (((((((wd c1).tr (wd c2)).tr F3).tr (wd c4)).tr F5).tr (wd c6)).tr F7).tr (wd c8), fun z => ?_, fun z => ?_, fun z => ?_⟩
  · subst h3
    subst h5
    subst h7
    simp only [fX1_readLimits_b14, a1, bsome, iz_lit, a2, oHs, oP_at (K52 S).1, a4, a6, a8]
  · rw [e52 c8, h7, u2_ad S (by decide) (by decide) (by decide) (by decide), if_neg (by decide), e52 c6, h5, u2_ad S (by decide) (by decide) (by decide) (by decide), if_neg (by decide), e52 c4, h3, u2_ad S (by decide) (by decide) (by decide) (by decide), if_pos ⟨rfl, rfl⟩, if_pos z]
  · rw [e52 c8, h7, u2_ad S (by decide) (by decide) (by decide) (by decide), if_neg (by decide), e52 c6, h5, u2_ad S (by decide) (by decide) (by decide) (by decide), if_pos ⟨rfl, rfl⟩, if_pos z]
  · rw [e52 c8, h7, u2_ad S (by decide) (by decide) (by decide) (by decide), if_pos ⟨rfl, rfl⟩, if_pos z]
theorem c_lims (S : OKS sh AD) (hR : R (AD 2) 0 = some (AD 1)) (hfu : 5000 ≤ fu) (C : CST I AD f n p) : ∃ I', fX1_readLimits fu sh I R (AD 2) (AD 52) = some I' ∧ CST I' AD f n (lim5 f n p) ∧ FR AD I I' (fun i k => i = 2 ∨ (i = 52 ∧ k ≤ 2)) ∧
    ((lim5 f n p).er = 0 → I' (AD 52) 0 = iz (nmP f (lim1 f n p)) ∧ I' (AD 52) 1 = iz (nmP f (lim2 f n p)) ∧ I' (AD 52) 2 = iz (nmP f (lim3 f n p))) := by
  have W := C.2.1
  simp only [fX1_readLimits, if_pos (isT_of (S2 S)), c_kwd S hR hfu C (show 8 < 22 by decide), bsome, iz_lit, bz_zero]
  have go : ∀ {J : HI}, CST J AD f n (exW f p 8) → FR AD I J (fun i _ => i = 2) → ∃ I', fX1_readLimits_b14 fu sh R J (AD 2) (AD 52) = some I' ∧ CST I' AD f n (lim5 f n p) ∧ FR AD I I' (fun i k => i = 2 ∨ (i = 52 ∧ k ≤ 2)) ∧ ((lim5 f n p).er = 0 → I' (AD 52) 0 = iz (nmP f (lim1 f n p)) ∧ I' (AD 52) 1 = iz (nmP f (lim2 f n p)) ∧ I' (AD 52) 2 = iz (nmP f (lim3 f n p))) := by
    intro J D F
    obtain ⟨K, a, b, c, d1, d2, d3⟩ := c_lim14 S hR hfu D
    refine ⟨K, a, b, (F.wd fun i k z => Or.inl z).tr c, fun z => ?_⟩
    obtain ⟨x, y, w⟩ := lim_ok W z
    exact ⟨d1 x.1, d2 y.1, d3 w.1⟩
  by_cases z : wdP f p 8 = true
  · have e : exW f p 8 = p := if_pos z
    rw [z, if_neg (by decide)]
    exact go (by rw [e]; exact C) (FR.rf _ _ _)
  · have e : exW f p 8 = falP p 1 := if_neg z
    obtain ⟨J, a, b, c⟩ := c_fail (fu := fu) (R := R) S C (e := 1) (by decide)
    have a' : fX1_fail fu sh I R (AD 2) (iz 1) = some J := a
    rw [if_pos (by revert z; cases wdP f p 8 <;> simp), a', bsome]
    exact go (by rw [e]; exact b) c
theorem c_scn32 (S : OKS sh AD) (H : BSH R AD 52 pp) (hR : R (AD 2) 0 = some (AD 1)) (hfu : 5000 ≤ fu) (C : CST I AD f n p) (L : BVL I AD 52 pp ρ) (V : PV ρ) (h3 : p.er = 0 → ρ 3 < 3) : ∃ I', fX1_readScene_b32 fu sh R I (AD 2) (AD 52) = some I' ∧ CST I' AD f n (scn3 f n p) ∧ BVL I' AD 52 pp (scnX f n p ρ) ∧ FR AD I I' (fun i _ => i = 2 ∨ (52 ≤ i ∧ i < 76)) := by
  have W := C.2.1
  have hm := V.1
  have hp : ∀ s, 0 ≤ s → s < 12 → 0 ≤ pp s ∧ pp s < 12 := fun s g0 g1 => (H.2.2.2.1 s g0 g1).2
  obtain ⟨J1, a1, b1, c1⟩ := c_adv S hR hfu C
  obtain ⟨J2, a2, b2, c2⟩ := c_take S hR hfu b1 (lo := 0) (hi := 3) (by decide) (by decide) (by decide) (by decide)
  obtain ⟨J3, a3, b3, c3⟩ := c_semi S hR hfu b2
  have F := (c1.tr c2).tr c3
  have L3 : BVL J3 AD 52 pp ρ := L.fq V (by decide) (by decide) hp F (fun i k g0 g1 => by omega)
  have e6 := b3.2.2.2.2.2.2.2.1
  have e4 : (scn3 f n p).er ≤ 4 := b3.2.2.2.2.2.2.2.2
  have start : fX1_readScene_b32 fu sh R I (AD 2) (AD 52) = (if iz ((scn3 f n p).er : Int) = iz 0 then ((oR sh R (AD 52) 0 5).bind fun v7 => (oI sh J3 (AD 52) 0 3).bind fun v8 => (oB sh R v7 5 v8).bind fun v9 => (oP sh J3 v9 5 0 (iz (if (okN f (advP f n p) 0 3).er = 0 then nmP f (advP f n p) else 0))).bind fun v10 => (oP sh v10 v9 5 1 (iz 0)).bind fun v11 => (oI sh v11 (AD 52) 0 3).bind fun v12 => (oP sh v11 (AD 52) 0 3 (v12 + iz 1)).bind fun v13 => fX1_readScene_b84 fu sh R v13) else fX1_readScene_b84 fu sh R J3) := by
    simp only [fX1_readScene_b32, a1, bsome, iz_lit, a2, oHs, a3, oI_at (S2 S), e6]
    rfl
  rw [start]
  unfold scnX
  by_cases z : (scn3 f n p).er = 0
  · obtain ⟨y, -⟩ := semP_ok (tkP_wf (advP_wf W) 0 3) z
    obtain ⟨x1, x2, x3, x4, x5⟩ := tkP_ok (advP_wf W) y
    rw [adv_er W.2.1] at x2
    have m3 := h3 x2
    obtain ⟨q1, -⟩ := H.sc S hm.1 m3
    have k1 := (K52s S hm.1 m3).1
    obtain ⟨J4, h4⟩ : ∃ J, J = _root_.Jvm.Pilot.@@N@@.u2 J3 (AD (52 + 3 + 3 * ρ 3)) 0 (iz (nmP f (advP f n p))) := ⟨_, rfl⟩
    obtain ⟨J5, h5⟩ : ∃ J, J = _root_.Jvm.Pilot.@@N@@.u2 J4 (AD (52 + 3 + 3 * ρ 3)) 1 (iz 0) := ⟨_, rfl⟩
    obtain ⟨J6, h6⟩ : ∃ J, J = _root_.Jvm.Pilot.@@N@@.u2 J5 (AD 52) 3 (iz (ρ 3 + 1)) := ⟨_, rfl⟩
    have F4 : FR AD J3 J4 (fun i k => (i = 52 ∧ k = 3) ∨ (i = 52 + 3 + 3 * ρ 3 ∧ k ≤ 1)) := by rw [h4]; exact FR.u2 S (by omega) (by omega) (Or.inr ⟨rfl, by decide⟩) (FR.rf AD J3 _)
    have F5 : FR AD J3 J5 (fun i k => (i = 52 ∧ k = 3) ∨ (i = 52 + 3 + 3 * ρ 3 ∧ k ≤ 1)) := by rw [h5]; exact FR.u2 S (by omega) (by omega) (Or.inr ⟨rfl, by decide⟩) F4
    have F6 : FR AD J3 J6 (fun i k => (i = 52 ∧ k = 3) ∨ (i = 52 + 3 + 3 * ρ 3 ∧ k ≤ 1)) := by rw [h6]; exact FR.u2 S (by omega) (by omega) (Or.inl ⟨rfl, rfl⟩) F5
    have m5 : J5 (AD 52) 3 = iz (ρ 3) := by
      rw [h5, u2_ne S (by omega) (by omega) (by decide) (by decide) (by omega), h4, u2_ne S (by omega) (by omega) (by decide) (by decide) (by omega)]
      exact L3.1.2.2.2.1
    rw [if_pos (by rw [z]; rfl), if_pos z]
    refine ⟨J6, ?_, b3.fr F6 (fun _ => by omega) (fun _ => by omega), L3.scn V m3 hp F6 (fun i k _ _ w => w) ?_ ?_ ?_, (F.wd fun i k w => Or.inl w).tr (F6.wd fun i k w => by omega)⟩
    · rw [if_pos x1, oR_at (K52 S).1 H.1, bsome, oI_at (K52 S).1, L3.1.2.2.2.1, bsome, q1, bsome, oP_at k1, bsome, ← h4, oP_at k1, bsome, ← h5, oI_at (K52 S).1, m5, bsome, oP_at (K52 S).1, bsome, iz_add, ← h6]
      rfl
    · rw [h6, u2_ad S (by decide) (by decide) (by decide) (by decide), if_pos ⟨rfl, rfl⟩]
    · rw [h6, u2_ne S (by decide) (by decide) (by omega) (by omega) (by omega), h5, u2_ad S (by omega) (by omega) (by omega) (by omega), if_neg (fun w => absurd w.2 (by decide)), h4, u2_ad S (by omega) (by omega) (by omega) (by omega), if_pos ⟨rfl, rfl⟩]
      rfl
    · rw [h6, u2_ne S (by decide) (by decide) (by omega) (by omega) (by omega), h5, u2_ad S (by omega) (by omega) (by omega) (by omega), if_pos ⟨rfl, rfl⟩]
  · rw [if_neg (by rw [iz_eq (by omega) (by omega) (by decide) (by decide)]; omega), if_neg z]
    exact ⟨J3, rfl, b3, L3, F.wd fun i k w => Or.inl w⟩
end Q56
