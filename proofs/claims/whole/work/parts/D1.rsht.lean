/-! STAGE 2: the reference reads a shot -/
theorem cas1 {f : Nat → Int} {r : PS} {ρ : RHO} {c : Int} : casP f r ρ c (-1) = acP f r ρ c := by
  unfold casP
  by_cases z : nmP f r = -1
  · rw [if_pos z]
    refine fal_ne fun w => ?_
    have := (acP_ok w).2.2.2.2.1
    omega
  · rw [if_neg z]
section Q63
variable {fu : Nat} {sh : HS} {I I' : HI} {R : HR} {AD : Int → Nat} {f : Nat → Int} {n : Nat} {p q : PS} {ρ : RHO}
theorem r_sht122 (S : OKS sh AD) (M : MR R AD) (hfu : 5000 ≤ fu) {r : PS} (C : RST I AD f n r) (D : RWD I AD ρ) (V : PV ρ) (hn4 : r.er = 0 → ρ 4 < 12) {c x y u w : Int} {v3 v4 v5 v6 : Int32} (hv : (semP f n (tkP f n (advP f n r) 1 99)).er = 0 → v3 = iz x ∧ v4 = iz y ∧ v5 = iz u ∧ v6 = iz w) :
    ∃ I', fX11_readShot_b122 fu sh R I (AD 316) (iz c) v3 v4 v5 v6 = some I' ∧ RST I' AD f n (semP f n (tkP f n (advP f n r) 1 99)) ∧ RWD I' AD (if (semP f n (tkP f n (advP f n r) 1 99)).er = 0 then shtR ρ c x y u w (nmP f (advP f n r)) else ρ) ∧ FRM AD I I' := by
  have hn := V.2.1
  have W := C.2.1
  obtain ⟨J1, a1, b1, f1⟩ := r_adv S M hfu C
  obtain ⟨v, J2, a2, b2, f2, g2⟩ := r_take S M hfu b1 (lo := 1) (hi := 99) (by decide) (by decide) (by decide) (by decide)
  have b2 : RST J2 AD f n (tkP f n (advP f n r) 1 99) := b2
  obtain ⟨J3, a3, b3, f3⟩ := r_semi S M hfu b2
  obtain ⟨Q, hQ⟩ : ∃ Q, Q = semP f n (tkP f n (advP f n r) 1 99) := ⟨_, rfl⟩
  have b3 : RST J3 AD f n Q := by rw [hQ]; exact b3
  have F := (f1.tr f2).tr f3
  have D3 : RWD J3 AD ρ := D.rm F
  have h13 := b3.2.2.2.2.2.2.1
  have h4 := b3.2.2.2.2.2.2.2.1
  rw [← hQ] at hv ⊢
  simp only [fX11_readShot_b122, iz_lit, a1, a2, a3, oHs, bsome, r_fine (fu := fu) (R := R) S h4 h13, bz_zero, oR_at S.md M.1.2.1]
  by_cases z : Q.er = 0
  · have z' := z
    rw [hQ] at z'
    obtain ⟨y1, -⟩ := semP_ok (tkP_wf (advP_wf W) 1 99) z'
    obtain ⟨s1, s2, -, s4, s5⟩ := tkP_ok (advP_wf W) y1
    rw [adv_er W.2.1] at s2
    have n12 := hn4 s2
    obtain ⟨e3, e4, e5, e6⟩ := hv z
    rw [if_neg (by rw [decide_eq_true z]; decide), if_pos z, g2 s1, e3, e4, e5, e6]
    obtain ⟨l, hl⟩ : ∃ a, a = nmP f (advP f n r) := ⟨_, rfl⟩
    rw [← hl]
    have k8 := S318 S
    have e4' : oA sh J3 (AD 318) (iz 4) = some (iz (ρ 4)) := D3.rd S (by decide) (by decide)
    obtain ⟨K1, h1⟩ : ∃ J, J = _root_.Jvm.Pilot.@@N@@.u2 J3 (AD 318) (47 + 6 * ρ 4).toNat (iz c) := ⟨_, rfl⟩
    obtain ⟨K2, h2⟩ : ∃ J, J = _root_.Jvm.Pilot.@@N@@.u2 K1 (AD 318) (47 + 6 * ρ 4 + 1).toNat (iz x) := ⟨_, rfl⟩
    obtain ⟨K3, h3⟩ : ∃ J, J = _root_.Jvm.Pilot.@@N@@.u2 K2 (AD 318) (47 + 6 * ρ 4 + 2).toNat (iz y) := ⟨_, rfl⟩
    obtain ⟨K4, h4'⟩ : ∃ J, J = _root_.Jvm.Pilot.@@N@@.u2 K3 (AD 318) (47 + 6 * ρ 4 + 3).toNat (iz u) := ⟨_, rfl⟩
    obtain ⟨K5, h5⟩ : ∃ J, J = _root_.Jvm.Pilot.@@N@@.u2 K4 (AD 318) (47 + 6 * ρ 4 + 4).toNat (iz w) := ⟨_, rfl⟩
    obtain ⟨K6, h6⟩ : ∃ J, J = _root_.Jvm.Pilot.@@N@@.u2 K5 (AD 318) (47 + 6 * ρ 4 + 5).toNat (iz l) := ⟨_, rfl⟩
    obtain ⟨K7, h7⟩ : ∃ J, J = _root_.Jvm.Pilot.@@N@@.u2 K6 (AD 318) (4 : Int).toNat (iz (ρ 4 + 1)) := ⟨_, rfl⟩
    have G : FR AD J3 K7 (fun i _ => i = 318) := by
      rw [h7, h6, h5, h4', h3, h2, h1]
      exact FR.u2 S (by decide) (by decide) rfl (FR.u2 S (by decide) (by decide) rfl (FR.u2 S (by decide) (by decide) rfl (FR.u2 S (by decide) (by decide) rfl (FR.u2 S (by decide) (by decide) rfl (FR.u2 S (by decide) (by decide) rfl (FR.u2 S (by decide) (by decide) rfl (FR.rf AD J3 _)))))))
    have D6 : RWD K6 AD (up1 (up1 (up1 (up1 (up1 (up1 ρ (47 + 6 * ρ 4) c) (47 + 6 * ρ 4 + 1) x) (47 + 6 * ρ 4 + 2) y) (47 + 6 * ρ 4 + 3) u) (47 + 6 * ρ 4 + 4) w) (47 + 6 * ρ 4 + 5) l) := by
      rw [h6, h5, h4', h3, h2, h1]
      exact RWD.w1 S (RWD.w1 S (RWD.w1 S (RWD.w1 S (RWD.w1 S (RWD.w1 S D3 (by omega) _) (by omega) _) (by omega) _) (by omega) _) (by omega) _) (by omega) _
    have r6 : oA sh K6 (AD 318) (iz 4) = some (iz (ρ 4)) := by
      rw [D6.rd S (by decide) (by decide), up1_ne (by omega), up1_ne (by omega), up1_ne (by omega), up1_ne (by omega), up1_ne (by omega), up1_ne (by omega)]
    refine ⟨K7, ?_, b3.fr G (fun _ => by omega) (fun _ => by omega), ?_, FR.tr (F.wd fun i k w => Or.inl w) (G.wd fun i k w => Or.inr w)⟩
    · rw [e4', bsome]
      simp only [iz_mul, iz_add]
      rw [oS_iz k8 (by omega) (by omega) (by omega), bsome, ← h1, oS_iz k8 (by omega) (by omega) (by omega), bsome, ← h2, oS_iz k8 (by omega) (by omega) (by omega), bsome, ← h3, oS_iz k8 (by omega) (by omega) (by omega), bsome, ← h4', oS_iz k8 (by omega) (by omega) (by omega), bsome, ← h5, oS_iz k8 (by omega) (by omega) (by omega), bsome, ← h6, r6, bsome, iz_add, oS_iz k8 (by omega) (by omega) (by omega), bsome, ← h7]
    · rw [h7]
      exact RWD.w1 S D6 (by decide) _
  · rw [if_pos (decide_eq_false z), if_neg z]
    exact ⟨J3, rfl, b3, D3, F.wd fun i k w => Or.inl w⟩
theorem r_sht98 (S : OKS sh AD) (M : MR R AD) (hfu : 5000 ≤ fu) {r : PS} (C : RST I AD f n r) (D : RWD I AD ρ) (V : PV ρ) (hn4 : r.er = 0 → ρ 4 < 12) {c x y u : Int} (c0 : 0 ≤ c) (c1 : c < ρ 3) {v3 v4 v5 : Int32} (hv : r.er = 0 → v3 = iz x ∧ v4 = iz y ∧ v5 = iz u ∧ -1 ≤ u ∧ u ≤ 100) {A B : PS} (hA : A = advP f n r) (hB : B = advP f n (prP f A ρ c u)) :
    ∃ I', fX11_readShot_b98 fu sh R I (AD 316) (iz c) v3 v4 v5 = some I' ∧ RST I' AD f n (semP f n (tkP f n B 1 99)) ∧ RWD I' AD (if (semP f n (tkP f n B 1 99)).er = 0 then shtR ρ c x y u (paP f A) (nmP f B) else ρ) ∧ FRM AD I I' := by
  have W := C.2.1
  obtain ⟨J1, a1, b1, f1⟩ := r_adv S M hfu C
  rw [← hA] at b1
  have W1 := b1.2.1
  have D1 : RWD J1 AD ρ := D.rm f1
  have ae : A.er = 0 → r.er = 0 := fun e => by rw [hA, adv_er W.2.1] at e; exact e
  have pe : (prP f A ρ c u).er = 0 → A.er = 0 := fun e => (prP_ok e).1
  have be : (semP f n (tkP f n B 1 99)).er = 0 → (prP f A ρ c u).er = 0 := fun e => by
    have wb : WfP f n B := by rw [hB]; exact advP_wf (prP_wf W1 ρ c u)
    have e2 := (tkP_ok wb (semP_ok (tkP_wf wb 1 99) e).1).2.1
    rw [hB, adv_er (prP_wf W1 ρ c u).2.1] at e2
    exact e2
  have fin : ∀ {K : HI} {v : Int32}, RST K AD f n (prP f A ρ c u) → FR AD J1 K RDM → ((prP f A ρ c u).er = 0 → v = iz (paP f A)) → ∃ I', fX11_readShot_b122 fu sh R K (AD 316) (iz c) v3 v4 v5 v = some I' ∧ RST I' AD f n (semP f n (tkP f n B 1 99)) ∧ RWD I' AD (if (semP f n (tkP f n B 1 99)).er = 0 then shtR ρ c x y u (paP f A) (nmP f B) else ρ) ∧ FRM AD I I' := by
    intro K v E G hw
    obtain ⟨K2, x1, x2, x3, x4⟩ := r_sht122 (v3 := v3) (v4 := v4) (v5 := v5) (v6 := v) (x := x) (y := y) (u := u) (w := paP f A) (c := c) S M hfu E (D1.rm G) V (fun e => hn4 (ae (pe e))) (fun e => by
      rw [← hB] at e
      have e2 := be e
      obtain ⟨h1, h2, h3, -⟩ := hv (ae (pe e2))
      exact ⟨h1, h2, h3, hw e2⟩)
    rw [← hB] at x2 x3
    exact ⟨K2, x1, x2, x3, FR.tr ((f1.tr G).wd fun i k w => Or.inl w) x4⟩
  simp only [fX11_readShot_b98, a1, bsome, r_kwd S M hfu b1 (show 20 < 28 by decide), iz_lit, iz_neg, bz_zero]
  by_cases z : A.er = 0 ∧ wdP f A 20 = true
  · have e1 : prP f A ρ c u = A := if_pos z.2
    have e2 : paP f A = -1 := if_pos z.2
    rw [decide_eq_true z.1, z.2, if_neg (by decide)]
    exact fin (by rw [e1]; exact b1) (FR.rf _ _ _) (fun _ => by rw [e2])
  · obtain ⟨v, K, a2, b2, f2, g2⟩ := r_cas (fu := fu) S M b1 D1 V c0 c1 (o := v5) (u := u) (fun e => (hv (ae e)).2.2.2) (fun e => (hv (ae e)).2.2.1)
    have e1 : prP f A ρ c u = casP f A ρ c u := by
      by_cases y : wdP f A 20 = true
      · have na : ¬ A.er = 0 := fun e => z ⟨e, y⟩
        rw [prP_ne na]
        unfold casP
        rw [acP_er na, fal_ne na]
        split <;> rfl
      · exact if_neg y
    rw [if_pos (by rw [← Bool.not_eq_true, Bool.and_eq_true, decide_eq_true_eq]; exact z), a2, oHs]
    refine fin (by rw [e1]; exact b2) f2 (fun e => ?_)
    have na := pe e
    have e2 : paP f A = nmP f A := if_neg (fun y => z ⟨na, y⟩)
    rw [e2]
    exact g2 (by rw [← e1]; exact e)
theorem r_sht16 (S : OKS sh AD) (M : MR R AD) (hfu : 5000 ≤ fu) (C : RST I AD f n q) (D : RWD I AD ρ) (V : PV ρ) (hn4 : q.er = 0 → ρ 4 < 12) {c : Int} (c0 : 0 ≤ c) (c1 : c < ρ 3) :
    ∃ I', fX11_readShot_b16 fu sh R I (AD 316) (iz c) = some I' ∧ RST I' AD f n (sht7 f n q ρ c) ∧ RWD I' AD (shtX f n q ρ c) ∧ FRM AD I I' := by
  have W := C.2.1
  have hm := V.1
  obtain ⟨w1, w2, w3, w4, w5, w6, w7⟩ := sht_wf W ρ c
  obtain ⟨J1, a1, b1, f1⟩ := r_adv S M hfu C
  have b1 : RST J1 AD f n (scn1 f n q) := b1
  obtain ⟨v2, J2, a2, b2, f2, g2⟩ := r_take S M hfu b1 (lo := 0) (hi := 199) (by decide) (by decide) (by decide) (by decide)
  have b2 : RST J2 AD f n (sht2 f n q) := b2
  obtain ⟨v3, J3, a3, b3, f3, g3⟩ := r_take S M hfu b2 (lo := 0) (hi := 199) (by decide) (by decide) (by decide) (by decide)
  have b3 : RST J3 AD f n (sht3 f n q) := b3
  have D3 : RWD J3 AD ρ := D.rm ((f1.tr f2).tr f3)
  obtain ⟨v6, J6, a6, b6, f6, g6⟩ := r_cas (fu := fu) S M b3 D3 V c0 c1 (o := iz (-1)) (u := -1) (fun _ => ⟨by decide, by decide⟩) (fun _ => rfl)
  rw [cas1] at b6 g6
  have F6 := ((f1.tr f2).tr f3).tr f6
  have D6 : RWD J6 AD ρ := D.rm F6
  have h13 := b6.2.2.2.2.2.2.1
  have h4 := b6.2.2.2.2.2.2.2.1
  obtain ⟨x, hx⟩ : ∃ x, x = nmP f (scn1 f n q) := ⟨_, rfl⟩
  obtain ⟨y, hy⟩ : ∃ x, x = nmP f (sht2 f n q) := ⟨_, rfl⟩
  obtain ⟨u, hu⟩ : ∃ x, x = nmP f (sht3 f n q) := ⟨_, rfl⟩
  have ok : (acP f (sht3 f n q) ρ c).er = 0 → q.er = 0 ∧ v2 = iz x ∧ v3 = iz y ∧ v6 = iz u ∧ (0 ≤ u ∧ u ≤ 5) ∧ inS ρ c u = true ∧ (0 ≤ x ∧ x ≤ 199) ∧ (0 ≤ y ∧ y ≤ 199) := by
    intro e
    obtain ⟨i, o, e3, -, e5, e6⟩ := acP_ok e
    obtain ⟨s1, s2, -, s4, s5⟩ := tkP_ok w2 e3
    obtain ⟨t1, t2, -, t4, t5⟩ := tkP_ok w1 s2
    have t3 : (advP f n q).er = 0 := t2
    rw [adv_er W.2.1] at t3
    rw [hx, hy, hu]
    exact ⟨t3, g2 t1, g3 s1, g6 e, ⟨e5, e6⟩, i, ⟨t4, t5⟩, s4, s5⟩
  have e7 : sht7 f n q ρ c = semP f n (tkP f n (sht5 f n q ρ c) 1 99) := rfl
  have eX : shtX f n q ρ c = (if (semP f n (tkP f n (sht5 f n q ρ c) 1 99)).er = 0 then shtR ρ c x y u (paP f (sht4 f n q ρ c)) (nmP f (sht5 f n q ρ c)) else ρ) := by
    rw [hx, hy, hu]
    rfl
  have eA : sht4 f n q ρ c = advP f n (suP f (sht3 f n q) ρ c x y) := by rw [hx, hy]; rfl
  have eB : sht5 f n q ρ c = advP f n (prP f (sht4 f n q ρ c) ρ c u) := by rw [hu]; rfl
  rw [e7, eX]
  have fin : ∀ {K : HI}, RST K AD f n (suP f (sht3 f n q) ρ c x y) → FR AD J6 K RDM → ∃ I', fX11_readShot_b98 fu sh R K (AD 316) (iz c) v2 v3 v6 = some I' ∧ RST I' AD f n (semP f n (tkP f n (sht5 f n q ρ c) 1 99)) ∧ RWD I' AD (if (semP f n (tkP f n (sht5 f n q ρ c) 1 99)).er = 0 then shtR ρ c x y u (paP f (sht4 f n q ρ c)) (nmP f (sht5 f n q ρ c)) else ρ) ∧ FRM AD I I' := by
    intro K E G
    obtain ⟨K2, x1, x2, x3, x4⟩ := r_sht98 (v3 := v2) (v4 := v3) (v5 := v6) (x := x) (y := y) (u := u) (c := c) S M hfu E (D6.rm G) V (fun e => hn4 (ok (suP_ok e).1).1) c0 c1 (fun e => by
      obtain ⟨-, h1, h2, h3, h5, -⟩ := ok (suP_ok e).1
      exact ⟨h1, h2, h3, by omega, by omega⟩) eA eB
    exact ⟨K2, x1, x2, x3, FR.tr ((F6.tr G).wd fun i k w => Or.inl w) x4⟩
  simp only [fX11_readShot_b16, a1, bsome, iz_lit, iz_neg, a2, oHs, a3, a6, r_fine (fu := fu) (R := R) S h4 h13, bz_zero, oR_at S.md M.1.2.1]
  by_cases z : (acP f (sht3 f n q) ρ c).er = 0
  · obtain ⟨-, h1, h2, h3, h5, hi, h7, h8⟩ := ok z
    have r := (V.2.2.1 c c0 c1).2.2 u h5.1 (by omega) hi
    have o1 : oA sh J6 (AD 318) (iz 5 + iz 14 * iz c + iz 2 + v6) = some (iz (axS ρ c u)) := by
      rw [h3, iz_mul, iz_add, iz_add, iz_add]
      exact D6.rd S (j := 5 + 14 * c + 2 + u) (by omega) (by omega)
    have o2 : oA sh J6 (AD 318) (iz 5 + iz 14 * iz c + iz 8 + v6) = some (iz (ayS ρ c u)) := by
      rw [h3, iz_mul, iz_add, iz_add, iz_add]
      exact D6.rd S (j := 5 + 14 * c + 8 + u) (by omega) (by omega)
    rw [if_neg (by rw [decide_eq_true z]; decide), o1, bsome, o2, bsome]
    have un : suP f (sht3 f n q) ρ c x y = if axS ρ c u = x ∧ ayS ρ c u = y then falP (acP f (sht3 f n q) ρ c) 3 else acP f (sht3 f n q) ρ c := by rw [hu]; rfl
    by_cases k1 : axS ρ c u = x
    · rw [if_pos (by rw [k1, h1])]
      by_cases k2 : ayS ρ c u = y
      · obtain ⟨K, a, b, g⟩ := r_failP (fu := fu) (R := R) S b6 (e := 3) (by decide) (by decide)
        have a' : fX11_fail fu sh J6 R (AD 316) (iz 3) = some K := a
        rw [if_pos (by rw [k2, h2]), a', bsome]
        exact fin (by rw [un, if_pos ⟨k1, k2⟩]; exact b) g
      · rw [if_neg (by rw [h2, iz_eq (by omega) (by omega) (by omega) (by omega)]; exact k2)]
        exact fin (by rw [un, if_neg (fun q => k2 q.2)]; exact b6) (FR.rf _ _ _)
    · rw [if_neg (by rw [h1, iz_eq (by omega) (by omega) (by omega) (by omega)]; exact k1)]
      exact fin (by rw [un, if_neg (fun q => k1 q.1)]; exact b6) (FR.rf _ _ _)
  · rw [if_pos (decide_eq_false z)]
    refine fin ?_ (FR.rf _ _ _)
    have e : suP f (sht3 f n q) ρ c x y = acP f (sht3 f n q) ρ c := by
      unfold suP
      rw [fal_ne z]
      split <;> rfl
    rw [e]
    exact b6
theorem r_sht (S : OKS sh AD) (M : MR R AD) (hfu : 5000 ≤ fu) (C : RST I AD f n p) (D : RWD I AD ρ) (V : PV ρ) {c : Int} (c0 : 0 ≤ c) (c1 : c < ρ 3) :
    ∃ I', fX11_readShot fu sh I R (AD 316) (iz c) = some I' ∧ RST I' AD f n (sht7 f n (if ρ 4 = 12 then falP p 4 else p) ρ c) ∧ RWD I' AD (shtX f n (if ρ 4 = 12 then falP p 4 else p) ρ c) ∧ FRM AD I I' := by
  have hn := V.2.1
  have e4 : oA sh I (AD 318) (iz 4) = some (iz (ρ 4)) := D.rd S (by decide) (by decide)
  simp only [fX11_readShot, if_pos (isT_of S.md), oR_at S.md M.1.2.1, bsome, iz_lit, e4]
  by_cases z : ρ 4 = 12
  · obtain ⟨K, a, b, g⟩ := r_failP (fu := fu) (R := R) S C (e := 4) (by decide) (by decide)
    have a' : fX11_fail fu sh I R (AD 316) (iz 4) = some K := a
    rw [if_pos (by rw [z]), if_pos z, a', bsome]
    obtain ⟨K2, x1, x2, x3, x4⟩ := r_sht16 S M hfu b (D.rm g) V (fun w => absurd w (fal_er (by decide))) c0 c1
    exact ⟨K2, x1, x2, x3, FR.tr (g.wd fun i k w => Or.inl w) x4⟩
  · rw [if_neg (by rw [iz_eq (by omega) (by omega) (by decide) (by decide)]; exact z), if_neg z]
    exact r_sht16 S M hfu C D V (fun _ => by omega) c0 c1
end Q63
