/-! STAGE 2: the class reads an actor -/
def acP (f : Nat → Int) (p : PS) (ρ : RHO) (c : Int) : PS := if inS ρ c (nmP f p) = true then okN f p 0 5 else falP (okN f p 0 5) 2
def anP (f : Nat → Int) (p : PS) (ρ : RHO) (c : Int) : PS := if inS ρ c (nmP f p) = true then falP (okN f p 0 5) 3 else okN f p 0 5
def act2 (f : Nat → Int) (n : Nat) (p : PS) (ρ : RHO) (c : Int) : PS := advP f n (anP f (scn1 f n p) ρ c)
def act3 (f : Nat → Int) (n : Nat) (p : PS) (ρ : RHO) (c : Int) : PS := tkP f n (act2 f n p ρ c) 0 199
def act4 (f : Nat → Int) (n : Nat) (p : PS) (ρ : RHO) (c : Int) : PS := tkP f n (act3 f n p ρ c) 0 199
def act5 (f : Nat → Int) (n : Nat) (p : PS) (ρ : RHO) (c : Int) : PS := semP f n (act4 f n p ρ c)
def actX (f : Nat → Int) (n : Nat) (p : PS) (ρ : RHO) (c : Int) : RHO := if (act5 f n p ρ c).er = 0 then actR ρ c (nmP f (scn1 f n p)) (nmP f (act2 f n p ρ c)) (nmP f (act3 f n p ρ c)) else ρ
theorem anP_wf {f : Nat → Int} {n : Nat} {p : PS} (W : WfP f n p) (ρ : RHO) (c : Int) : WfP f n (anP f p ρ c) := by
  unfold anP
  split
  · exact falP_wf (okN_wf W 0 5) 3
  · exact okN_wf W 0 5
theorem acP_wf {f : Nat → Int} {n : Nat} {p : PS} (W : WfP f n p) (ρ : RHO) (c : Int) : WfP f n (acP f p ρ c) := by
  unfold acP
  split
  · exact okN_wf W 0 5
  · exact falP_wf (okN_wf W 0 5) 2
theorem anP_ok {f : Nat → Int} {p : PS} {ρ : RHO} {c : Int} (h : (anP f p ρ c).er = 0) : inS ρ c (nmP f p) = false ∧ (okN f p 0 5).er = 0 ∧ p.er = 0 ∧ p.tk = 3 ∧ 0 ≤ nmP f p ∧ nmP f p ≤ 5 := by
  unfold anP at h
  by_cases z : inS ρ c (nmP f p) = true
  · rw [if_pos z] at h
    exact absurd h (fal_er (by decide))
  · rw [if_neg z] at h
    exact ⟨by revert z; cases inS ρ c (nmP f p) <;> simp, h, (okN_ok h).2⟩
theorem acP_ok {f : Nat → Int} {p : PS} {ρ : RHO} {c : Int} (h : (acP f p ρ c).er = 0) : inS ρ c (nmP f p) = true ∧ (okN f p 0 5).er = 0 ∧ p.er = 0 ∧ p.tk = 3 ∧ 0 ≤ nmP f p ∧ nmP f p ≤ 5 := by
  unfold acP at h
  by_cases z : inS ρ c (nmP f p) = true
  · rw [if_pos z] at h
    exact ⟨z, h, (okN_ok h).2⟩
  · rw [if_neg z] at h
    exact absurd h (fal_er (by decide))
theorem act_wf {f : Nat → Int} {n : Nat} {p : PS} (W : WfP f n p) (ρ : RHO) (c : Int) : WfP f n (act2 f n p ρ c) ∧ WfP f n (act3 f n p ρ c) ∧ WfP f n (act4 f n p ρ c) ∧ WfP f n (act5 f n p ρ c) := by
  have a2 : WfP f n (act2 f n p ρ c) := advP_wf (anP_wf (advP_wf W) ρ c)
  have a3 : WfP f n (act3 f n p ρ c) := tkP_wf a2 0 199
  have a4 : WfP f n (act4 f n p ρ c) := tkP_wf a3 0 199
  exact ⟨a2, a3, a4, semP_wf a4⟩
theorem act_ok {f : Nat → Int} {n : Nat} {p : PS} (W : WfP f n p) {ρ : RHO} {c : Int} (h : (act5 f n p ρ c).er = 0) : p.er = 0 ∧ (inS ρ c (nmP f (scn1 f n p)) = false ∧ (okN f (scn1 f n p) 0 5).er = 0 ∧ 0 ≤ nmP f (scn1 f n p) ∧ nmP f (scn1 f n p) ≤ 5) ∧ ((okN f (act2 f n p ρ c) 0 199).er = 0 ∧ 0 ≤ nmP f (act2 f n p ρ c) ∧ nmP f (act2 f n p ρ c) ≤ 199) ∧ ((okN f (act3 f n p ρ c) 0 199).er = 0 ∧ 0 ≤ nmP f (act3 f n p ρ c) ∧ nmP f (act3 f n p ρ c) ≤ 199) := by
  obtain ⟨a2, a3, a4, -⟩ := act_wf W ρ c
  obtain ⟨b, -⟩ := semP_ok a4 h
  obtain ⟨c1, c2, c3, c4, c5⟩ := tkP_ok a3 b
  obtain ⟨d1, d2, d3, d4, d5⟩ := tkP_ok a2 c2
  have d6 : (advP f n (anP f (scn1 f n p) ρ c)).er = 0 := d2
  rw [adv_er (anP_wf (show WfP f n (scn1 f n p) from advP_wf W) ρ c).2.1] at d6
  obtain ⟨e1, e2, e3, e4, e5, e6⟩ := anP_ok d6
  have e3 : (advP f n p).er = 0 := e3
  rw [adv_er W.2.1] at e3
  exact ⟨e3, ⟨e1, e2, e5, e6⟩, ⟨d1, d4, d5⟩, c1, c4, c5⟩
section Q57
variable {fu : Nat} {sh : HS} {I I' : HI} {R : HR} {AD : Int → Nat} {f : Nat → Int} {n : Nat} {p : PS} {ρ : RHO} {pp : Int → Int} {W : Int → Nat → Prop}
def FRD (AD : Int → Nat) (I I' : HI) : Prop := FR AD I I' (fun i _ => i = 2 ∨ (52 ≤ i ∧ i < 76))
theorem c_scn19 (S : OKS sh AD) (H : BSH R AD 52 pp) (hR : R (AD 2) 0 = some (AD 1)) (hfu : 5000 ≤ fu) (C : CST I AD f n p) (L : BVL I AD 52 pp ρ) (V : PV ρ) : ∃ I', fX1_readScene_b19 fu sh R I (AD 2) (AD 52) = some I' ∧ CST I' AD f n (scn3 f n (if ρ 3 < 3 then p else falP p 4)) ∧ BVL I' AD 52 pp (scnX f n (if ρ 3 < 3 then p else falP p 4) ρ) ∧ FRD AD I I' := by
  have hm := V.1
  have hp : ∀ s, 0 ≤ s → s < 12 → 0 ≤ pp s ∧ pp s < 12 := fun s g0 g1 => (H.2.2.2.1 s g0 g1).2
  simp only [fX1_readScene_b19, oI_at (K52 S).1, L.1.2.2.2.1, bsome, iz_lit]
  by_cases z : ρ 3 < 3
  · rw [if_pos (by rw [iz_lt (by omega) (by omega) (by decide) (by decide)]; omega), if_pos z]
    exact c_scn32 S H hR hfu C L V (fun _ => z)
  · obtain ⟨J, a, b, c⟩ := c_fail (fu := fu) (R := R) S C (e := 4) (by decide)
    have a' : fX1_fail fu sh I R (AD 2) (iz 4) = some J := a
    rw [if_neg (by rw [iz_lt (by omega) (by omega) (by decide) (by decide)]; omega), if_neg z, a', bsome]
    obtain ⟨K, x, y, w, v⟩ := c_scn32 S H hR hfu b (L.fq V (by decide) (by decide) hp c (fun i k g0 g1 => by omega)) V (fun q => absurd q (fal_er (by decide)))
    exact ⟨K, x, y, w, (c.wd fun i k q => Or.inl q).tr v⟩
theorem c_scn (S : OKS sh AD) (H : BSH R AD 52 pp) (hR : R (AD 2) 0 = some (AD 1)) (hfu : 5000 ≤ fu) (C : CST I AD f n p) (L : BVL I AD 52 pp ρ) (V : PV ρ) : ∃ I', fX1_readScene fu sh I R (AD 2) (AD 52) = some I' ∧ CST I' AD f n (scn3 f n (scnQ p ρ)) ∧ BVL I' AD 52 pp (scnX f n (scnQ p ρ) ρ) ∧ FRD AD I I' := by
  have hm := V.1
  have hp : ∀ s, 0 ≤ s → s < 12 → 0 ≤ pp s ∧ pp s < 12 := fun s g0 g1 => (H.2.2.2.1 s g0 g1).2
  simp only [fX1_readScene, if_pos (isT_of (S2 S)), oI_at (K52 S).1, L.1.2.2.2.1, bsome, iz_lit, c_can S H L V, bz_zero]
  have un : scnQ p ρ = if ρ 3 < 3 then (if 0 < ρ 3 ∧ canS ρ = false then falP p 1 else p) else falP (if 0 < ρ 3 ∧ canS ρ = false then falP p 1 else p) 4 := rfl
  obtain ⟨A, hA⟩ : ∃ A, A = (if 0 < ρ 3 ∧ canS ρ = false then falP p 1 else p) := ⟨_, rfl⟩
  rw [un, ← hA]
  by_cases z : ρ 3 ≤ 0
  · rw [if_pos (by rw [iz_le (by omega) (by omega) (by decide) (by decide)]; omega)]
    rw [if_neg (fun q => absurd q.1 (by omega))] at hA
    rw [hA]
    exact c_scn19 S H hR hfu C L V
  · rw [if_neg (by rw [iz_le (by omega) (by omega) (by decide) (by decide)]; omega)]
    by_cases y : canS ρ = false
    · obtain ⟨J, a, b, c⟩ := c_fail (fu := fu) (R := R) S C (e := 1) (by decide)
      have a' : fX1_fail fu sh I R (AD 2) (iz 1) = some J := a
      rw [if_pos ⟨by omega, y⟩] at hA
      rw [if_pos y, hA, a', bsome]
      obtain ⟨K, x, y, w, v⟩ := c_scn19 S H hR hfu b (L.fq V (by decide) (by decide) hp c (fun i k g0 g1 => by omega)) V
      exact ⟨K, x, y, w, FR.tr (c.wd fun i k q => Or.inl q) v⟩
    · rw [if_neg (fun q => y q.2)] at hA
      rw [if_neg y, hA]
      exact c_scn19 S H hR hfu C L V
theorem c_nsD_loop (S : OKS sh AD) (H : BSH R AD 52 pp) (L : BVL I AD 52 pp ρ) (V : PV ρ) {c : Int} (h0 : 0 ≤ c) (h1 : c < 3) : ∀ d j k : Nat, k + d = (ρ 4).toNat → d < j →
    fX0_shotsOfScene_l4 fu sh I R j (AD 52) (iz c) (iz (nsS ρ c k)) (iz (k : Int)) = some (iz (nsS ρ c (ρ 4).toNat)) := by
  have hn := V.2.1
  have hm := V.1
  intro d
  induction d with
  | zero =>
    intro j k hk hj
    obtain ⟨j, rfl⟩ : ∃ i, j = i + 1 := ⟨j - 1, by omega⟩
    have e : k = (ρ 4).toNat := by omega
    show fX0_shotsOfScene_b4 fu sh I R (fX0_shotsOfScene_l4 fu sh I R j) _ _ _ _ = _
    simp only [fX0_shotsOfScene_b4, oI_at (K52 S).1, L.1.2.2.2.2, bsome]
    rw [if_pos (by rw [iz_le (by omega) (by omega) (by omega) (by omega)]; omega), e]
  | succ d ih =>
    intro j k hk hj
    obtain ⟨j, rfl⟩ : ∃ i, j = i + 1 := ⟨j - 1, by omega⟩
    have q := ih j (k + 1) (by omega) (by omega)
    have ek : iz (k : Int) + iz 1 = iz ((k + 1 : Nat) : Int) := by rw [iz_add]; rfl
    have s0 := (L.2.2 (k : Int) (by omega) (by omega)).1
    have pk := (H.2.2.2.1 (k : Int) (by omega) (by omega)).2
    obtain ⟨a1, -⟩ := V.2.2.2.1 (k : Int) (by omega) (by omega)
    have e : nsS ρ c (k + 1) = nsS ρ c k + (if scS ρ k = c then 1 else 0) := rfl
    rw [e] at q
    show fX0_shotsOfScene_b4 fu sh I R (fX0_shotsOfScene_l4 fu sh I R j) _ _ _ _ = _
    simp only [fX0_shotsOfScene_b4, fX0_shotsOfScene_b28, oI_at (K52 S).1, L.1.2.2.2.2, oR_at (K52 S).1 H.2.1, H.sht S (show 0 ≤ (k : Int) by omega) (by omega), oI_at (K52h S pk.1 pk.2), s0, bsome, iz_lit, ek]
    rw [if_neg (by rw [iz_le (by omega) (by omega) (by omega) (by omega)]; omega)]
    simp (disch := omega) only [iz_eq]
    by_cases z : scS ρ k = c
    · rw [if_pos z, iz_add]
      rw [if_pos z] at q
      exact q
    · rw [if_neg z]
      rw [if_neg z, Int.add_zero] at q
      exact q
theorem c_nsD (S : OKS sh AD) (H : BSH R AD 52 pp) (L : BVL I AD 52 pp ρ) (V : PV ρ) (hfu : 5000 ≤ fu) {c : Int} (h0 : 0 ≤ c) (h1 : c < 3) : fX0_shotsOfScene fu sh I R (AD 52) (iz c) = some (iz (nsS ρ c (ρ 4).toNat)) := by
  have hn := V.2.1
  have q := c_nsD_loop (fu := fu) S H L V h0 h1 (ρ 4).toNat fu 0 (by omega) (by omega)
  simp only [fX0_shotsOfScene, if_pos (isT_of (K52 S).1), iz_lit]
  exact q
theorem c_hasD (S : OKS sh AD) (L : BVL I AD 52 pp ρ) (V : PV ρ) {c : Int} (h0 : 0 ≤ c) (h1 : c < ρ 3) {a : Int} (h2 : 0 ≤ a) (h3 : a < 6) : fX6_hasActor fu sh I R (AD (52 + 3 + 3 * c)) (iz a) = some (bz (inS ρ c a)) := by
  have hm := V.1
  have b := (V.2.2.1 c h0 h1).2.1
  have k1 := (K52s S h0 (show c < 3 by omega)).1
  have e : fX10_holds fu sh I R (iz (csS ρ c)) (iz a) = some (bz (inS ρ c a)) := by
    rw [iz_tn (x := csS ρ c) (by omega), iz_tn (x := a) h2, c_holds (by omega) (by omega)]
    rfl
  simp only [fX6_hasActor, fX6_hasActor_b25, fX6_hasActor_b26, if_pos (isT_of k1), iz_lit, oI_at k1, (L.2.1 c h0 h1).1.2, bsome, e, bz_zero]
  rw [if_neg (by rw [iz_lt (by omega) (by omega) (by decide) (by decide)]; omega), if_neg (by rw [iz_le (by decide) (by decide) (by omega) (by omega)]; omega)]
  cases inS ρ c a <;> rfl
theorem c_act58 (S : OKS sh AD) (H : BSH R AD 52 pp) (hR : R (AD 2) 0 = some (AD 1)) (hfu : 5000 ≤ fu) {q : PS} {c a : Int} (hc : c = ρ 3 - 1) (c0 : 0 ≤ c) (a0 : 0 ≤ a) (a1 : a < 6) (C : CST I AD f n q) (L : BVL I AD 52 pp ρ) (V : PV ρ) :
    ∃ I', fX1_readActor_b58 fu sh R I (AD 2) (AD (52 + 3 + 3 * c)) (iz a) = some I' ∧ CST I' AD f n (semP f n (tkP f n (tkP f n (advP f n q) 0 199) 0 199)) ∧ BVL I' AD 52 pp (if (semP f n (tkP f n (tkP f n (advP f n q) 0 199) 0 199)).er = 0 then actR ρ c a (nmP f (advP f n q)) (nmP f (tkP f n (advP f n q) 0 199)) else ρ) ∧ FRD AD I I' := by
  have W := C.2.1
  have hm := V.1
  have hp : ∀ s, 0 ≤ s → s < 12 → 0 ≤ pp s ∧ pp s < 12 := fun s g0 g1 => (H.2.2.2.1 s g0 g1).2
  obtain ⟨J1, x1, b1, c1⟩ := c_adv S hR hfu C
  obtain ⟨J2, x2, b2, c2⟩ := c_take S hR hfu b1 (lo := 0) (hi := 199) (by decide) (by decide) (by decide) (by decide)
  have b2 : CST J2 AD f n (tkP f n (advP f n q) 0 199) := b2
  obtain ⟨J3, x3, b3, c3⟩ := c_take S hR hfu b2 (lo := 0) (hi := 199) (by decide) (by decide) (by decide) (by decide)
  obtain ⟨J4, x4, b4, c4⟩ := c_semi S hR hfu b3
  obtain ⟨Q, hQ⟩ : ∃ Q, Q = semP f n (tkP f n (tkP f n (advP f n q) 0 199) 0 199) := ⟨_, rfl⟩
  have F := ((c1.tr c2).tr c3).tr c4
  have LJ : BVL J4 AD 52 pp ρ := L.fq V (by decide) (by decide) hp F (fun i k g0 g1 => by omega)
  have b5 : CST J4 AD f n Q := by rw [hQ]; exact b4
  have e6 := b5.2.2.2.2.2.2.2.1
  have e4 : Q.er ≤ 4 := b5.2.2.2.2.2.2.2.2
  obtain ⟨k1, k2, k3⟩ := K52s S c0 (show c < 3 by omega)
  obtain ⟨-, o2, o3⟩ := H.sc S c0 (show c < 3 by omega)
  simp only [fX1_readActor_b58, x1, bsome, iz_lit, x2, oHs, x3, x4, oI_at (S2 S), e6]
  rw [← hQ]
  by_cases z : Q.er = 0
  · have z' := z
    rw [hQ] at z'
    obtain ⟨y, -⟩ := semP_ok (tkP_wf (tkP_wf (advP_wf W) 0 199) 0 199) z'
    obtain ⟨v1, v2, v3, v4, v5⟩ := tkP_ok (tkP_wf (advP_wf W) 0 199) y
    obtain ⟨w1, w2, w3, w4, w5⟩ := tkP_ok (advP_wf W) v2
    have lc := (LJ.2.1 c c0 (by omega)).1.2
    have rc := (V.2.2.1 c c0 (by omega)).2.1
    have eo : iz (csS ρ c) ||| iz 1 <<< (iz a &&& iz 31) = iz (((csS ρ c).toNat ||| 2 ^ a.toNat : Nat) : Int) := by
      rw [show a = (a.toNat : Int) by omega, iz_shlz (by omega), show csS ρ c = ((csS ρ c).toNat : Int) by omega, iz_orN]
      simp only [Int.toNat_natCast]
    obtain ⟨K1, h1⟩ : ∃ J, J = _root_.Jvm.Pilot.@@N@@.u2 J4 (AD (52 + 3 + 3 * c)) 1 (iz (((csS ρ c).toNat ||| 2 ^ a.toNat : Nat) : Int)) := ⟨_, rfl⟩
    obtain ⟨K2, h2⟩ : ∃ J, J = _root_.Jvm.Pilot.@@N@@.u2 K1 (AD (52 + 4 + 3 * c)) a.toNat (iz (nmP f (advP f n q))) := ⟨_, rfl⟩
    obtain ⟨K3, h3⟩ : ∃ J, J = _root_.Jvm.Pilot.@@N@@.u2 K2 (AD (52 + 5 + 3 * c)) a.toNat (iz (nmP f (tkP f n (advP f n q) 0 199))) := ⟨_, rfl⟩
    have G1 : FR AD J4 K1 (fun i k => (i = 52 + 3 + 3 * c ∧ k = 1) ∨ (i = 52 + 4 + 3 * c ∧ k = a.toNat) ∨ (i = 52 + 5 + 3 * c ∧ k = a.toNat)) := by rw [h1]; exact FR.u2 S (by omega) (by omega) (Or.inl ⟨rfl, rfl⟩) (FR.rf AD J4 _)
    have G2 : FR AD J4 K2 (fun i k => (i = 52 + 3 + 3 * c ∧ k = 1) ∨ (i = 52 + 4 + 3 * c ∧ k = a.toNat) ∨ (i = 52 + 5 + 3 * c ∧ k = a.toNat)) := by rw [h2]; exact FR.u2 S (by omega) (by omega) (Or.inr (Or.inl ⟨rfl, rfl⟩)) G1
    have G3 : FR AD J4 K3 (fun i k => (i = 52 + 3 + 3 * c ∧ k = 1) ∨ (i = 52 + 4 + 3 * c ∧ k = a.toNat) ∨ (i = 52 + 5 + 3 * c ∧ k = a.toNat)) := by rw [h3]; exact FR.u2 S (by omega) (by omega) (Or.inr (Or.inr ⟨rfl, rfl⟩)) G2
    rw [if_pos (by rw [z]; rfl), if_pos z]
    refine ⟨K3, ?_, b5.fr G3 (fun _ => by omega) (fun _ => by omega), LJ.act V hp c0 (by omega) a0 a1 G3 (fun i k _ _ w => w) ?_ ?_ ?_, FR.tr (F.wd fun i k w => Or.inl w) (G3.wd fun i k w => by omega)⟩
    · rw [if_pos w1, if_pos v1, oI_at k1, lc, bsome, eo, oP_at k1, bsome, ← h1, o2, bsome, oS_iz k2 a0 (by omega) (by omega), bsome, ← h2, o3, bsome, oS_iz k3 a0 (by omega) (by omega), bsome, ← h3]
      rfl
    · rw [h3, u2_ne S (by omega) (by omega) (by omega) (by omega) (by omega), h2, u2_ne S (by omega) (by omega) (by omega) (by omega) (by omega), h1, u2_ad S (by omega) (by omega) (by omega) (by omega), if_pos ⟨rfl, rfl⟩]
    · rw [h3, u2_ne S (by omega) (by omega) (by omega) (by omega) (by omega), h2, u2_ad S (by omega) (by omega) (by omega) (by omega), if_pos ⟨rfl, rfl⟩]
    · rw [h3, u2_ad S (by omega) (by omega) (by omega) (by omega), if_pos ⟨rfl, rfl⟩]
  · rw [if_neg (by rw [iz_eq (by omega) (by omega) (by decide) (by decide)]; omega), if_neg z]
    exact ⟨J4, rfl, b5, LJ, F.wd fun i k w => Or.inl w⟩
theorem c_actGo (S : OKS sh AD) (H : BSH R AD 52 pp) (hR : R (AD 2) 0 = some (AD 1)) (hfu : 5000 ≤ fu) (W : WfP f n p) {c t : Int} (hc : c = ρ 3 - 1) (c0 : 0 ≤ c) (t0 : 0 ≤ t) (t1 : t < 6) (ht : (okN f (scn1 f n p) 0 5).er = 0 → t = nmP f (scn1 f n p)) (D : CST I AD f n (anP f (scn1 f n p) ρ c)) (L : BVL I AD 52 pp ρ) (V : PV ρ) :
    ∃ I', fX1_readActor_b58 fu sh R I (AD 2) (AD (52 + 3 + 3 * c)) (iz t) = some I' ∧ CST I' AD f n (act5 f n p ρ c) ∧ BVL I' AD 52 pp (actX f n p ρ c) ∧ FRD AD I I' := by
  have e2 : act2 f n p ρ c = advP f n (anP f (scn1 f n p) ρ c) := rfl
  have e3 : act3 f n p ρ c = tkP f n (act2 f n p ρ c) 0 199 := rfl
  have e4 : act4 f n p ρ c = tkP f n (act3 f n p ρ c) 0 199 := rfl
  have e5 : act5 f n p ρ c = semP f n (act4 f n p ρ c) := rfl
  obtain ⟨K2, x1, x2, x3, x4⟩ := c_act58 S H hR hfu (ρ := ρ) (c := c) (a := t) hc c0 t0 t1 D L V
  rw [← e2, ← e3, ← e4, ← e5] at x2 x3
  refine ⟨K2, x1, x2, ?_, x4⟩
  have en : actX f n p ρ c = (if (act5 f n p ρ c).er = 0 then actR ρ c t (nmP f (act2 f n p ρ c)) (nmP f (act3 f n p ρ c)) else ρ) := by
    unfold actX
    by_cases w : (act5 f n p ρ c).er = 0
    · rw [if_pos w, if_pos w, ht (act_ok W w).2.1.2.1]
    · rw [if_neg w, if_neg w]
  rw [en]
  exact x3
def actD (f : Nat → Int) (n : Nat) (X : PS × RHO) : PS × RHO := if 1 ≤ X.2 3 ∧ nsS X.2 (X.2 3 - 1) (X.2 4).toNat ≤ 0 then (act5 f n X.1 X.2 (X.2 3 - 1), actX f n X.1 X.2 (X.2 3 - 1)) else (falP X.1 1, X.2)
theorem c_act (S : OKS sh AD) (H : BSH R AD 52 pp) (hR : R (AD 2) 0 = some (AD 1)) (hfu : 5000 ≤ fu) (C : CST I AD f n p) (L : BVL I AD 52 pp ρ) (V : PV ρ) : ∃ I', fX1_readActor fu sh I R (AD 2) (AD 52) = some I' ∧ CST I' AD f n (actD f n (p, ρ)).1 ∧ BVL I' AD 52 pp (actD f n (p, ρ)).2 ∧ FRD AD I I' := by
  have W := C.2.1
  have hm := V.1
  have hn := V.2.1
  have hp : ∀ s, 0 ≤ s → s < 12 → 0 ≤ pp s ∧ pp s < 12 := fun s g0 g1 => (H.2.2.2.1 s g0 g1).2
  have no : ¬ (1 ≤ ρ 3 ∧ nsS ρ (ρ 3 - 1) (ρ 4).toNat ≤ 0) → ∃ I', fX1_readActor_b19 fu sh R I (AD 2) = some I' ∧ CST I' AD f n (actD f n (p, ρ)).1 ∧ BVL I' AD 52 pp (actD f n (p, ρ)).2 ∧ FRD AD I I' := by
    intro z
    obtain ⟨J, a, b, c⟩ := c_fail (fu := fu) (R := R) S C (e := 1) (by decide)
    have a' : fX1_fail fu sh I R (AD 2) (iz 1) = some J := a
    have e : actD f n (p, ρ) = (falP p 1, ρ) := if_neg z
    rw [e]
    dsimp only
    refine ⟨J, ?_, b, L.fq V (by decide) (by decide) hp c (fun i k g0 g1 => by omega), c.wd fun i k q => Or.inl q⟩
    simp only [fX1_readActor_b19, iz_lit, a', bsome]
  simp only [fX1_readActor, if_pos (isT_of (S2 S)), oI_at (K52 S).1, L.1.2.2.2.1, bsome, iz_lit, iz_sub]
  by_cases z : 1 ≤ ρ 3
  · have r := ns_range ρ (ρ 3 - 1) (ρ 4).toNat
    rw [if_neg (by rw [iz_lt (by omega) (by omega) (by decide) (by decide)]; omega), c_nsD S H L V hfu (show 0 ≤ ρ 3 - 1 by omega) (by omega), bsome]
    by_cases y : nsS ρ (ρ 3 - 1) (ρ 4).toNat ≤ 0
    · have e : actD f n (p, ρ) = (act5 f n p ρ (ρ 3 - 1), actX f n p ρ (ρ 3 - 1)) := if_pos ⟨z, y⟩
      obtain ⟨o1, -⟩ := H.sc S (c := ρ 3 - 1) (by omega) (by omega)
      obtain ⟨J1, a1, b1, c1⟩ := c_adv S hR hfu C
      obtain ⟨J2, a2, b2, c2⟩ := c_see (fu := fu) (R := R) S b1 (lo := 0) (hi := 5) (by decide) (by decide) (by decide) (by decide)
      have F := c1.tr c2
      have L2 : BVL J2 AD 52 pp ρ := L.fq V (by decide) (by decide) hp F (fun i k g0 g1 => by omega)
      obtain ⟨t, ht⟩ : ∃ t, t = (if (okN f (advP f n p) 0 5).er = 0 then nmP f (advP f n p) else 0) := ⟨_, rfl⟩
      have tr : 0 ≤ t ∧ t < 6 := by
        rw [ht]
        split
        · rename_i w
          have := (okN_ok w).2.2.2
          omega
        · omega
      rw [if_pos (by rw [iz_le (by omega) (by omega) (by decide) (by decide)]; omega), oR_at (K52 S).1 H.1, bsome, o1, bsome, a1, bsome, a2, oHs, ← ht, c_hasD S L2 V (show 0 ≤ ρ 3 - 1 by omega) (by omega) tr.1 tr.2, bsome]
      simp only [bz_zero]
      have go : ∀ {K : HI}, CST K AD f n (anP f (scn1 f n p) ρ (ρ 3 - 1)) → FR AD J2 K (fun i _ => i = 2) → ∃ I', fX1_readActor_b58 fu sh R K (AD 2) (AD (52 + 3 + 3 * (ρ 3 - 1))) (iz t) = some I' ∧ CST I' AD f n (actD f n (p, ρ)).1 ∧ BVL I' AD 52 pp (actD f n (p, ρ)).2 ∧ FRD AD I I' := by
        intro K D G
        obtain ⟨K2, x1, x2, x3, x4⟩ := c_actGo S H hR hfu W (c := ρ 3 - 1) (t := t) rfl (by omega) tr.1 tr.2 (fun w => by rw [ht]; exact if_pos w) D (L2.fq V (by decide) (by decide) hp G (fun i k g0 g1 => by omega)) V
        rw [e]
        dsimp only
        exact ⟨K2, x1, x2, x3, FR.tr (FR.tr (F.wd fun i k q => Or.inl q) (G.wd fun i k q => Or.inl q)) x4⟩
      by_cases x : inS ρ (ρ 3 - 1) t = false
      · rw [if_pos x]
        refine go ?_ (FR.rf _ _ _)
        have ea : anP f (scn1 f n p) ρ (ρ 3 - 1) = okN f (advP f n p) 0 5 := by
          by_cases w : (okN f (advP f n p) 0 5).er = 0
          · rw [if_pos w] at ht
            unfold anP
            rw [if_neg (by show ¬ inS ρ (ρ 3 - 1) (nmP f (advP f n p)) = true; rw [← ht, x]; decide)]
            rfl
          · unfold anP
            split
            · exact fal_ne w
            · rfl
        rw [ea]
        exact b2
      · rw [if_neg x]
        obtain ⟨K, a, b, c⟩ := c_fail (fu := fu) (R := R) S b2 (e := 3) (by decide)
        have a' : fX1_fail fu sh J2 R (AD 2) (iz 3) = some K := a
        rw [a', bsome]
        refine go ?_ c
        have ea : anP f (scn1 f n p) ρ (ρ 3 - 1) = falP (okN f (advP f n p) 0 5) 3 := by
          by_cases w : (okN f (advP f n p) 0 5).er = 0
          · rw [if_pos w] at ht
            unfold anP
            rw [if_pos (by show inS ρ (ρ 3 - 1) (nmP f (advP f n p)) = true; rw [← ht]; revert x; cases inS ρ (ρ 3 - 1) t <;> simp)]
            rfl
          · unfold anP
            rw [fal_ne w]
            split
            · exact fal_ne w
            · rfl
        rw [ea]
        exact b
    · rw [if_neg (by rw [iz_le (by omega) (by omega) (by decide) (by decide)]; omega)]
      exact no (fun q => y q.2)
  · rw [if_pos (by rw [iz_lt (by omega) (by omega) (by decide) (by decide)]; omega)]
    exact no (fun q => z q.1)
end Q57
