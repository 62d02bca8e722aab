/-! STAGE 2: the reference reads an actor; who stands in a shot -/
def FRM (AD : Int → Nat) (I I' : HI) : Prop := FR AD I I' (fun i k => RDM i k ∨ i = 318)
def actE (f : Nat → Int) (n : Nat) (q : PS) (ρ : RHO) (c : Int) : PS := semP f n (tkP f n (tkP f n (advP f n (anP f q ρ c)) 0 199) 0 199)
section Q62
variable {fu : Nat} {sh : HS} {I I' : HI} {R : HR} {AD : Int → Nat} {f : Nat → Int} {n : Nat} {p q : PS} {ρ : RHO}
theorem RST.fr {W : Int → Nat → Prop} (C : RST I AD f n p) (F : FR AD I I' W) (h1 : ∀ k, ¬ W 320 k) (h2 : ∀ k, ¬ W 316 k) : RST I' AD f n p := by
  obtain ⟨T, w, c9, c10, c11, c12, c13, h4, c14⟩ := C
  have e : ∀ k, I' (AD 316) k = I (AD 316) k := fun k => F 316 (by decide) (by decide) k (h2 k)
  exact ⟨T.fr F h1 (h2 8), w, (e _).trans c9, (e _).trans c10, (e _).trans c11, fun t => (e _).trans (c12 t), (e _).trans c13, h4, (e _).trans c14⟩
theorem RST.u (S : OKS sh AD) (C : RST I AD f n p) (k : Nat) (x : Int32) : RST (_root_.Jvm.Pilot.@@N@@.u2 I (AD 318) k x) AD f n p :=
  C.fr (W := fun j _ => j = 318) (FR.u2 S (by decide) (by decide) rfl (FR.rf AD I _)) (fun _ => by omega) (fun _ => by omega)
theorem RWD.rm (D : RWD I AD ρ) (F : FR AD I I' RDM) : RWD I' AD ρ := D.fr F (fun k => by unfold RDM; omega)
theorem r_hasP2 (V : PV ρ) {c : Int} (h0 : 0 ≤ c) (h1 : c < ρ 3) {a : Int} (h2 : 0 ≤ a) (h3 : a < 32) : fX11_has fu sh I R (iz (csS ρ c)) (iz a) = some (bz (inS ρ c a)) := by
  have b := (V.2.2.1 c h0 h1).2.1
  rw [iz_tn (x := csS ρ c) (by omega), iz_tn (x := a) h2, r_has (by omega) (by omega)]
  rfl
theorem anP_of {f : Nat → Int} {q : PS} {ρ : RHO} {c : Int} (hq : q.er = 0) : anP f q ρ c = (if q.tk = 3 ∧ (0 ≤ nmP f q ∧ nmP f q ≤ 5) ∧ inS ρ c (nmP f q) = true then okN f (falP q 3) 0 5 else okN f q 0 5) := by
  unfold anP
  by_cases z : q.tk = 3 ∧ (0 ≤ nmP f q ∧ nmP f q ≤ 5)
  · have e : okN f q 0 5 = q := (if_pos z.1).trans (if_pos z.2)
    by_cases y : inS ρ c (nmP f q) = true
    · rw [if_pos y, if_pos ⟨z.1, z.2, y⟩, e, okN_ne (fal_er (by decide))]
    · rw [if_neg y, if_neg (fun w => y w.2.2)]
  · have n2 : ¬ (q.tk = 3 ∧ (0 ≤ nmP f q ∧ nmP f q ≤ 5) ∧ inS ρ c (nmP f q) = true) := fun w => z ⟨w.1, w.2.1⟩
    rw [if_neg n2]
    have d : ¬ (okN f q 0 5).er = 0 := fun w => by
      obtain ⟨-, -, a, b⟩ := okN_ok w
      exact z ⟨a, b⟩
    split
    · exact fal_ne d
    · rfl
theorem anP_er {f : Nat → Int} {q : PS} {ρ : RHO} {c : Int} (hq : ¬ q.er = 0) : anP f q ρ c = q := by
  have e := okN_ne (f := f) (lo := 0) (hi := 5) hq
  unfold anP
  rw [e, fal_ne hq]
  split <;> rfl
theorem r_act66 (S : OKS sh AD) (M : MR R AD) (hfu : 5000 ≤ fu) (C : RST I AD f n q) (D : RWD I AD ρ) (V : PV ρ) {c : Int} (c0 : 0 ≤ c) (c1 : c < ρ 3) :
    ∃ I', fX11_readActor_b66 fu sh R I (AD 316) (iz (5 + 14 * c)) = some I' ∧ RST I' AD f n (semP f n (tkP f n (tkP f n (tkP f n q 0 5) 0 199) 0 199)) ∧ RWD I' AD (if (semP f n (tkP f n (tkP f n (tkP f n q 0 5) 0 199) 0 199)).er = 0 then actR ρ c (nmP f q) (nmP f (tkP f n q 0 5)) (nmP f (tkP f n (tkP f n q 0 5) 0 199)) else ρ) ∧ FRM AD I I' := by
  have W := C.2.1
  have hm := V.1
  obtain ⟨v1, J1, a1, b1, f1, g1⟩ := r_take S M hfu C (lo := 0) (hi := 5) (by decide) (by decide) (by decide) (by decide)
  have b1 : RST J1 AD f n (tkP f n q 0 5) := b1
  obtain ⟨v2, J2, a2, b2, f2, g2⟩ := r_take S M hfu b1 (lo := 0) (hi := 199) (by decide) (by decide) (by decide) (by decide)
  have b2 : RST J2 AD f n (tkP f n (tkP f n q 0 5) 0 199) := b2
  obtain ⟨v3, J3, a3, b3, f3, g3⟩ := r_take S M hfu b2 (lo := 0) (hi := 199) (by decide) (by decide) (by decide) (by decide)
  have b3 : RST J3 AD f n (tkP f n (tkP f n (tkP f n q 0 5) 0 199) 0 199) := b3
  obtain ⟨J4, a4, b4, f4⟩ := r_semi S M hfu b3
  obtain ⟨Q, hQ⟩ : ∃ Q, Q = semP f n (tkP f n (tkP f n (tkP f n q 0 5) 0 199) 0 199) := ⟨_, rfl⟩
  have b4 : RST J4 AD f n Q := by rw [hQ]; exact b4
  have F := ((f1.tr f2).tr f3).tr f4
  have D4 : RWD J4 AD ρ := D.rm F
  have h13 := b4.2.2.2.2.2.2.1
  have h4 := b4.2.2.2.2.2.2.2.1
  rw [← hQ]
  simp only [fX11_readActor_b66, fX11_readActor_b143, iz_lit, a1, a2, a3, oHs, a4, bsome, r_fine (fu := fu) (R := R) S h4 h13, bz_zero, oR_at S.md M.1.2.1]
  by_cases z : Q.er = 0
  · have z' := z
    rw [hQ] at z'
    have w1 := tkP_wf W 0 5
    have w2 := tkP_wf w1 0 199
    obtain ⟨y, -⟩ := semP_ok (tkP_wf w2 0 199) z'
    obtain ⟨s1, s2, -, s4, s5⟩ := tkP_ok w2 y
    obtain ⟨t1, t2, -, t4, t5⟩ := tkP_ok w1 s2
    obtain ⟨u1, u3, -, u4, u5⟩ := tkP_ok W t2
    rw [if_neg (by rw [decide_eq_true z]; decide), if_pos z, g1 u1, g2 t1, g3 s1]
    obtain ⟨a, ha⟩ : ∃ a, a = nmP f q := ⟨_, rfl⟩
    obtain ⟨x, hx⟩ : ∃ a, a = nmP f (tkP f n q 0 5) := ⟨_, rfl⟩
    obtain ⟨y, hy⟩ : ∃ a, a = nmP f (tkP f n (tkP f n q 0 5) 0 199) := ⟨_, rfl⟩
    rw [← ha, ← hx, ← hy]
    have a0 : 0 ≤ a ∧ a ≤ 5 := by rw [ha]; exact ⟨u4, u5⟩
    have rc := (V.2.2.1 c c0 c1).2.1
    have eo : iz (csS ρ c) ||| iz 1 <<< (iz a &&& iz 31) = iz (((csS ρ c).toNat ||| 2 ^ a.toNat : Nat) : Int) := by
      rw [show a = (a.toNat : Int) by omega, iz_shlz (by omega), show csS ρ c = ((csS ρ c).toNat : Int) by omega, iz_orN]
      simp only [Int.toNat_natCast]
    have k8 := S318 S
    obtain ⟨K1, h1⟩ : ∃ J, J = _root_.Jvm.Pilot.@@N@@.u2 J4 (AD 318) (5 + 14 * c + 1).toNat (iz (((csS ρ c).toNat ||| 2 ^ a.toNat : Nat) : Int)) := ⟨_, rfl⟩
    obtain ⟨K2, h2⟩ : ∃ J, J = _root_.Jvm.Pilot.@@N@@.u2 K1 (AD 318) (5 + 14 * c + 2 + a).toNat (iz x) := ⟨_, rfl⟩
    obtain ⟨K3, h3⟩ : ∃ J, J = _root_.Jvm.Pilot.@@N@@.u2 K2 (AD 318) (5 + 14 * c + 8 + a).toNat (iz y) := ⟨_, rfl⟩
    have G : FR AD J4 K3 (fun i _ => i = 318) := by rw [h3, h2, h1]; exact FR.u2 S (by decide) (by decide) rfl (FR.u2 S (by decide) (by decide) rfl (FR.u2 S (by decide) (by decide) rfl (FR.rf AD J4 _)))
    refine ⟨K3, ?_, b4.fr G (fun _ => by omega) (fun _ => by omega), ?_, FR.tr (F.wd fun i k w => Or.inl w) (G.wd fun i k w => Or.inr w)⟩
    · have ec : oA sh J4 (AD 318) (iz (5 + 14 * c + 1)) = some (iz (csS ρ c)) := D4.rd S (by omega) (by omega)
      simp only [iz_add]
      rw [ec, bsome, eo, oS_iz k8 (by omega) (by omega) (by omega), bsome, ← h1, oS_iz k8 (by omega) (by omega) (by omega), bsome, ← h2, oS_iz k8 (by omega) (by omega) (by omega), bsome, ← h3]
    · rw [h3, h2, h1]
      exact RWD.w1 S (RWD.w1 S (RWD.w1 S D4 (by omega) _) (by omega) _) (by omega) _
  · rw [if_pos (decide_eq_false z), if_neg z]
    exact ⟨J4, rfl, b4, D4, F.wd fun i k w => Or.inl w⟩
theorem r_act (S : OKS sh AD) (M : MR R AD) (hfu : 5000 ≤ fu) (C : RST I AD f n p) (D : RWD I AD ρ) (V : PV ρ) {c : Int} (c0 : 0 ≤ c) (c1 : c < ρ 3) {q : PS} (hq : q = advP f n (exW f p 12)) :
    ∃ I', fX11_readActor fu sh I R (AD 316) (iz c) = some I' ∧ RST I' AD f n (actE f n q ρ c) ∧ RWD I' AD (if (actE f n q ρ c).er = 0 then actR ρ c (nmP f q) (nmP f (advP f n (anP f q ρ c))) (nmP f (tkP f n (advP f n (anP f q ρ c)) 0 199)) else ρ) ∧ FRM AD I I' := by
  have hm := V.1
  obtain ⟨J, a, b, F⟩ := r_exW S M hfu C (w := 12) (by decide)
  rw [← hq] at b
  have DJ : RWD J AD ρ := D.rm F
  have h13 := b.2.2.2.2.2.2.1
  have h4 := b.2.2.2.2.2.2.2.1
  have w3 := b.2.1.2.2.1
  have l2 : iz 5 + iz 14 * iz c = iz (5 + 14 * c) := by rw [iz_mul, iz_add]
  have go : ∀ {K : HI} {r : PS}, RST K AD f n r → FR AD J K RDM → anP f q ρ c = okN f r 0 5 → (r.er = 0 → r = q) → ∃ I', fX11_readActor_b66 fu sh R K (AD 316) (iz (5 + 14 * c)) = some I' ∧ RST I' AD f n (actE f n q ρ c) ∧ RWD I' AD (if (actE f n q ρ c).er = 0 then actR ρ c (nmP f q) (nmP f (advP f n (anP f q ρ c))) (nmP f (tkP f n (advP f n (anP f q ρ c)) 0 199)) else ρ) ∧ FRM AD I I' := by
    intro K r E G e1 e2
    obtain ⟨K2, x1, x2, x3, x4⟩ := r_act66 S M hfu E (DJ.rm G) V c0 c1
    have e3 : tkP f n r 0 5 = advP f n (anP f q ρ c) := by rw [e1]; rfl
    have e4 : actE f n q ρ c = semP f n (tkP f n (tkP f n (advP f n (anP f q ρ c)) 0 199) 0 199) := rfl
    rw [e3, ← e4] at x2 x3
    refine ⟨K2, x1, x2, ?_, FR.tr ((F.tr G).wd fun i k w => Or.inl w) x4⟩
    by_cases z : (actE f n q ρ c).er = 0
    · rw [if_pos z] at x3 ⊢
      have re : r.er = 0 := by
        have z2 := z
        rw [e4] at z2
        have wr := E.2.1
        have wa : WfP f n (advP f n (anP f q ρ c)) := by rw [← e3]; exact tkP_wf wr 0 5
        obtain ⟨y, -⟩ := semP_ok (tkP_wf (tkP_wf wa 0 199) 0 199) z2
        have y2 := (tkP_ok wa (tkP_ok (tkP_wf wa 0 199) y).2.1).2.1
        rw [← e3] at y2
        exact (tkP_ok wr y2).2.1
      rw [e2 re] at x3
      exact x3
    · rw [if_neg z] at x3 ⊢
      exact x3
  simp only [fX11_readActor, if_pos (isT_of S.md), a, bsome, iz_lit, r_fine (fu := fu) (R := R) S h4 h13, bz_zero, l2, oI_at S.md, b.2.2.2.2.1]
  by_cases z : q.er = 0
  · rw [if_neg (by rw [decide_eq_true z]; decide)]
    by_cases t : q.tk = 3
    · have r := nmP_r b.2.1 t
      rw [if_pos (by rw [iz_eq (by omega) (by omega) (by omega) (by omega)]; omega), b.2.2.2.2.2.1 t, jlit, jlit, r_isInC (a := nmP f q) ⟨by omega, by omega⟩ (by decide) (by decide) (by decide) (by decide), bsome]
      simp only [bz_zero]
      by_cases y : 0 ≤ nmP f q ∧ nmP f q ≤ 5
      · have ec : oA sh J (AD 318) (iz (5 + 14 * c) + iz 1) = some (iz (csS ρ c)) := by rw [iz_add]; exact DJ.rd S (by omega) (by omega)
        rw [if_neg (by rw [decide_eq_true y]; decide), oR_at S.md M.1.2.1, bsome, ec, bsome, r_hasP2 V c0 c1 y.1 (by omega), bsome]
        by_cases x : inS ρ c (nmP f q) = true
        · obtain ⟨K, a2, b2, f2⟩ := r_failP (fu := fu) (R := R) S b (e := 3) (by decide) (by decide)
          have a2' : fX11_fail fu sh J R (AD 316) (iz 3) = some K := a2
          rw [if_neg (by rw [x]; decide), a2', bsome]
          exact go b2 f2 (by rw [anP_of z, if_pos ⟨t, y, x⟩]) (fun w => absurd w (fal_er (by decide)))
        · rw [if_pos (by rw [bz_zero]; revert x; cases inS ρ c (nmP f q) <;> simp)]
          exact go b (FR.rf _ _ _) (by rw [anP_of z, if_neg (fun w => x w.2.2)]) (fun _ => rfl)
      · rw [if_pos (decide_eq_false y)]
        exact go b (FR.rf _ _ _) (by rw [anP_of z, if_neg (fun w => y w.2.1)]) (fun _ => rfl)
    · rw [if_neg (by rw [iz_eq (by omega) (by omega) (by omega) (by omega)]; omega)]
      exact go b (FR.rf _ _ _) (by rw [anP_of z, if_neg (fun w => t w.1)]) (fun _ => rfl)
  · rw [if_pos (decide_eq_false z)]
    exact go b (FR.rf _ _ _) (by rw [anP_er z, okN_ne z]) (fun _ => rfl)
def casP (f : Nat → Int) (q : PS) (ρ : RHO) (c u : Int) : PS := if nmP f q = u then falP (acP f q ρ c) 3 else acP f q ρ c
theorem r_cas (S : OKS sh AD) (M : MR R AD) (C : RST I AD f n p) (D : RWD I AD ρ) (V : PV ρ) {c : Int} (c0 : 0 ≤ c) (c1 : c < ρ 3) {o : Int32} {u : Int} (hu : p.er = 0 → -1 ≤ u ∧ u ≤ 100) (ho : p.er = 0 → o = iz u) :
    ∃ v I', fX11_readCast fu sh I R (AD 316) (iz c) o = some (v, I') ∧ RST I' AD f n (casP f p ρ c u) ∧ FR AD I I' RDM ∧ ((casP f p ρ c u).er = 0 → v = iz (nmP f p)) := by
  have hm := V.1
  have w3 := C.2.1.2.2.1
  have c12 := C.2.2.2.2.2.1
  have b75 : ∀ {K : HI} {r : PS}, RST K AD f n r → FR AD I K RDM → r = casP f p ρ c u → (r.er = 0 → r.tk = 3 ∧ nmP f r = nmP f p) → ∃ v I', fX11_readCast_b75 fu sh R K (AD 316) = some (v, I') ∧ RST I' AD f n (casP f p ρ c u) ∧ FR AD I I' RDM ∧ ((casP f p ρ c u).er = 0 → v = iz (nmP f p)) := by
    intro K r E G e1 e2
    refine ⟨K (AD 316) 12, K, ?_, by rw [← e1]; exact E, G, fun w => ?_⟩
    · simp only [fX11_readCast_b75, oI_at S.md, bsome]
    · rw [← e1] at w
      obtain ⟨x, y⟩ := e2 w
      rw [E.2.2.2.2.2.1 x, y]
  have b54 : ¬ (p.tk = 3 ∧ (0 ≤ nmP f p ∧ nmP f p ≤ 5) ∧ inS ρ c (nmP f p) = true) → p.tk = 3 → ∃ v I', fX11_readCast_b54 fu sh R I (AD 316) = some (v, I') ∧ RST I' AD f n (casP f p ρ c u) ∧ FR AD I I' RDM ∧ ((casP f p ρ c u).er = 0 → v = iz (nmP f p)) := by
    intro no t
    obtain ⟨K, a, b, g⟩ := r_failP (fu := fu) (R := R) S C (e := 2) (by decide) (by decide)
    have a' : fX11_fail fu sh I R (AD 316) (iz 2) = some K := a
    simp only [fX11_readCast_b54, iz_lit, a', bsome]
    refine b75 b g ?_ (fun w => absurd w (fal_er (by decide)))
    have e : acP f p ρ c = falP p 2 := by
      unfold acP
      by_cases y : 0 ≤ nmP f p ∧ nmP f p ≤ 5
      · rw [if_neg (fun w => no ⟨t, y, w⟩)]
        have e : okN f p 0 5 = p := (if_pos t).trans (if_pos y)
        rw [e]
      · have e : okN f p 0 5 = falP p 2 := (if_pos t).trans (if_neg y)
        rw [e, fal_ne (fal_er (by decide))]
        split <;> rfl
    unfold casP
    rw [e, fal_ne (fal_er (by decide))]
    split <;> rfl
  simp only [fX11_readCast, if_pos (isT_of S.md), iz_lit, oI_at S.md, C.2.2.2.2.1, bsome]
  by_cases t : p.tk = 3
  · have r := nmP_r C.2.1 t
    rw [if_pos (by rw [iz_eq (by omega) (by omega) (by omega) (by omega)]; omega), c12 t, jlit, jlit, r_isInC (a := nmP f p) ⟨by omega, by omega⟩ (by decide) (by decide) (by decide) (by decide), bsome]
    simp only [bz_zero]
    by_cases y : 0 ≤ nmP f p ∧ nmP f p ≤ 5
    · have ec : oA sh I (AD 318) (iz 5 + iz 14 * iz c + iz 1) = some (iz (csS ρ c)) := by rw [iz_mul, iz_add, iz_add]; exact D.rd S (by omega) (by omega)
      rw [if_neg (by rw [decide_eq_true y]; decide), oR_at S.md M.1.2.1, bsome, ec, bsome, r_hasP2 V c0 c1 y.1 (by omega), bsome]
      by_cases x : inS ρ c (nmP f p) = true
      · have ea : acP f p ρ c = p := (if_pos x).trans ((if_pos t).trans (if_pos y))
        rw [if_neg (by rw [bz_zero, x]; decide)]
        have dead : ¬ p.er = 0 → p = casP f p ρ c u := fun w => by
          unfold casP
          rw [ea, fal_ne w]
          split <;> rfl
        by_cases w : iz (nmP f p) = o
        · obtain ⟨K, a, b, g⟩ := r_failP (fu := fu) (R := R) S C (e := 3) (by decide) (by decide)
          have a' : fX11_fail fu sh I R (AD 316) (iz 3) = some K := a
          rw [if_pos w, a', bsome]
          refine b75 b g ?_ (fun w => absurd w (fal_er (by decide)))
          by_cases k : p.er = 0
          · have hu2 := hu k
            rw [ho k, iz_eq (by omega) (by omega) (by omega) (by omega)] at w
            unfold casP
            rw [if_pos w, ea]
          · rw [fal_ne k]; exact dead k
        · rw [if_neg w]
          refine b75 C (FR.rf _ _ _) ?_ (fun _ => ⟨t, rfl⟩)
          by_cases k : p.er = 0
          · rw [ho k] at w
            unfold casP
            rw [if_neg (fun q => w (by rw [q])), ea]
          · exact dead k
      · rw [if_pos (by rw [bz_zero]; revert x; cases inS ρ c (nmP f p) <;> simp)]
        exact b54 (fun w => x w.2.2) t
    · rw [if_pos (decide_eq_false y)]
      exact b54 (fun w => y w.2.1) t
  · obtain ⟨K, a, b, g⟩ := r_failP (fu := fu) (R := R) S C (e := 1) (by decide) (by decide)
    have a' : fX11_fail fu sh I R (AD 316) (iz 1) = some K := a
    rw [if_neg (by rw [iz_eq (by omega) (by omega) (by omega) (by omega)]; omega), a', bsome]
    refine b75 b g ?_ (fun w => absurd w (fal_er (by decide)))
    have e : acP f p ρ c = falP p 1 := by
      have e : okN f p 0 5 = falP p 1 := if_neg t
      unfold acP
      rw [e, fal_ne (fal_er (by decide))]
      split <;> rfl
    unfold casP
    rw [e, fal_ne (fal_er (by decide))]
    split <;> rfl
end Q62
