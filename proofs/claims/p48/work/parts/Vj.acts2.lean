/-! THE LAW, STAGE 2: the actions one by one: limits, light, length -/
theorem oM_l {a n : Int} {x : Int32} (hx : x = iz n) (h1 : 0 ≤ a) (h2 : a ≤ 2147483647) (h3 : 0 < n) (h4 : n ≤ 2147483647) : oM (iz a) x = some (iz (a % n)) := by rw [hx]; exact oM_iz h1 h2 h3 h4
theorem oD_l {a n : Int} {x : Int32} (hx : x = iz n) (h1 : 0 ≤ a) (h2 : a ≤ 2147483647) (h3 : 0 < n) (h4 : n ≤ 2147483647) : oD (iz a) x = some (iz (a / n)) := by rw [hx]; exact oD_iz h1 h2 h3 h4
theorem il37 : (37 : Int32) = iz 37 := iz_lit 37
section AC
variable {K J : Nat → Nat} {fu : Nat} {σ σ' : STT} {AD : Int → Nat} {A : Nat → Nat} {cap : Nat} {S : List Nat} {sh sh' : HS} {I I' : HI} {R R' : HR} {ρ : RHO} {P : Int32 → HS → HI → HR → Prop}
/-- the class acts; the law's board has gone before -/
theorem WLX.act {f : HI → Option ((Int32 ⊕ String) × HI)} {a : Int ⊕ Nat} (W : WLX K σ ρ AD A cap S sh I R) (V' : VST σ') (h1 : σ'.1 = true) (H : ∀ AD' P, AGR6 AD AD' → OKS sh AD' → CA AD' R P σ σ' f a) : ∃ I', f I = some (cOut a, I') ∧ WLX K σ' ρ AD A cap S sh I' R ∧ ∀ b, FGN AD b → I' b = I b := by
  obtain ⟨w1, w2, w3, w4, w5, w6, w7⟩ := W
  obtain ⟨I', e1, e2, e3⟩ := w1.act V' H
  exact ⟨I', e1, ⟨e2, h1, w3.gen (fun b hb => ⟨rfl, e3 b (w5 b hb), rfl⟩), w4.cls w1.1 (fun b hb => ⟨e3 b hb, rfl⟩), w5, w6, w7⟩, e3⟩
theorem WLX.ext (W : WLX K σ ρ AD A cap S sh I R) (e : EXH (fun _ => False) sh I R sh' I' R') : WLX K σ ρ AD A cap S sh' I' R' := by
  obtain ⟨w1, w2, w3, w4, w5, w6, w7⟩ := W
  refine ⟨w1.fr (fun i h0 h1 => ?_), w2, w3.ex0 e, w4.ex0 e, w5, w6, w7⟩
  have hn := nnk (w1.1 i h0 h1)
  exact ⟨e.1 _ hn, e.2 _ hn (fun z => z)⟩
/-- one int of a cell of the law is written -/
theorem WLX.wr {ρ' : RHO} {b t n : Nat} (W : WLX K σ ρ AD A cap S sh I R) (hb : FGN AD b) (h : sh b = some (t, n)) (ht : ¬ (22 ≤ t ∧ t < 30)) (k : Nat) (x : Int32) (B : LBD sh (u2 I b k x) R K A cap S ρ') (h3 : ρ' 3 = ρ 3) (V : VB ρ') : WLX K σ ρ' AD A cap S sh (u2 I b k x) R := by
  obtain ⟨w1, w2, w3, w4, w5, w6, w7⟩ := W
  exact ⟨w1.wI hb k x, w2, B, w4.wI h ht k x, by rw [h3]; exact w5, V, by rw [h3]; exact w7⟩
theorem KP.wI {b t n : Nat} (h : sh b = some (t, n)) (ht : ¬ t = 22) (k : Nat) (x : Int32) : KP sh I sh (u2 I b k x) := fun y m hy => ⟨hy, funext (fun j => u2_off (fun e => by rw [e, h] at hy; cases hy; exact ht rfl) j)⟩
theorem KP.fg (s : SHP sh AD) (f : ∀ b, FGN AD b → I' b = I b) : KP sh I sh I' := fun b n h => ⟨h, f b (FGN.of s h (by decide))⟩
theorem WLX.f0 (W : WLX K σ ρ AD A cap S sh I R) : FGN AD (A 0) := W.2.2.2.2.1 _ (Or.inl (Or.inl rfl))
theorem ac_0 {v Q : Int} {n c a x y : Int32} {s0 : Option Nat} (W : WLX K σ σ.2.1 AD A cap S sh I R) (hfu : 5000 ≤ fu) (hv : 0 ≤ v ∧ v ≤ 2147483647) (hi : v % 9 = 0) (hQ : 0 ≤ Q ∧ Q ≤ 2147483647)
    (hP : ∀ sh' I' R' σ', WLX K σ' σ'.2.1 AD A cap S sh' I' R' → KP sh I sh' I' → P 1 sh' I' R') : wL_acts_b87 K J fu (qwI P) sh I R 0 0 (AD 0) (A 0) (iz v) (iz Q) n c a x y s0 := by
  have B := W.2.2.1
  have k0 := B.1.1.1
  have h0 : σ.1 = true := W.2.1
  unfold wL_acts_b87
  refine wB_of (oM_l il9 hv.1 hv.2 (by decide) (by decide)) ?_
  rw [hi, if_pos il0.symm]
  refine wB_of (oM_l il90 hQ.1 hQ.2 (by decide) (by decide)) ?_
  refine wB_of (oP_at k0) ?_
  refine wB_of (oD_l il90 hQ.1 hQ.2 (by decide) (by decide)) ?_
  refine wB_of (oM_l il1800 (by omega) (by omega) (by decide) (by decide)) ?_
  refine wB_of (oP_at k0) ?_
  refine wB_of (oD_l il37 hQ.1 hQ.2 (by decide) (by decide)) ?_
  refine wB_of (oM_l il1500 (by omega) (by omega) (by decide) (by decide)) ?_
  refine wB_of (oP_at k0) ?_
  have g : (0 ≤ Q % 90 ∧ Q % 90 ≤ 99) ∧ (0 ≤ Q / 90 % 1800 ∧ Q / 90 % 1800 ≤ 2000) ∧ (0 ≤ Q / 37 % 1500 ∧ Q / 37 % 1500 ≤ 2000) := by omega
  generalize Q % 90 = r at *
  generalize Q / 90 % 1800 = t at *
  generalize Q / 37 % 1500 = f at *
  have B1 := B.lim r t f
  have fA := W.f0
  have V1 := lim_V W.2.2.2.2.2.1 g
  have W1 : WLX K σ (limS σ.2.1 r t f) AD A cap S sh (u2 (u2 (u2 I (A 0) 0 (iz r)) (A 0) 1 (iz t)) (A 0) 2 (iz f)) R := by
    obtain ⟨w1, w2, w3, w4, w5, w6, w7⟩ := W
    exact ⟨((w1.wI fA 0 (iz r)).wI fA 1 (iz t)).wI fA 2 (iz f), w2, B1, ((w4.wI k0 (by decide) 0 (iz r)).wI k0 (by decide) 1 (iz t)).wI k0 (by decide) 2 (iz f), w5, V1, w7⟩
  have kp1 : KP sh I sh (u2 (u2 (u2 I (A 0) 0 (iz r)) (A 0) 1 (iz t)) (A 0) 2 (iz f)) := ((KP.wI k0 (by decide) 0 (iz r)).tr (KP.wI k0 (by decide) 1 (iz t))).tr (KP.wI k0 (by decide) 2 (iz f))
  generalize u2 (u2 (u2 I (A 0) 0 (iz r)) (A 0) 1 (iz t)) (A 0) 2 (iz f) = I1 at *
  refine wB_of (oI_at k0) ?_
  refine wB_of (oI_at k0) ?_
  refine wB_of (oI_at k0) ?_
  obtain ⟨l1, l2, l3⟩ := B1.2.2.1
  rw [l1, l2, l3]
  have es : sLim σ r t f = rowS (pushS σ) (limS σ.2.1 r t f) := by unfold sLim; rw [if_pos h0, if_pos g]
  have ea : aLim σ r t f = .inl (mSet (limS σ.2.1 r t f) : Int) := by unfold aLim; rw [if_pos h0, if_pos g]
  obtain ⟨I2, e2, W2, f2⟩ := W1.act (f := fun I => fX10_setLimits fu sh I R (AD 0) (iz r) (iz t) (iz f)) (a := aLim σ r t f) (vst_lim W.1.V r t f) (by rw [es]; exact h0) (fun AD' P gg O => by
    have e := ca_setLimits (P := P) (R := R) O W.1.V hfu (show IR r from ⟨by omega, by omega⟩) (show IR t from ⟨by omega, by omega⟩) (show IR f from ⟨by omega, by omega⟩)
    rw [gg 0 (by decide) (by decide)] at e
    exact e)
  rw [ea] at e2
  have hl0 : limS σ.2.1 r t f 0 = r := rfl
  have hl1 : limS σ.2.1 r t f 1 = t := rfl
  have hl2 : limS σ.2.1 r t f 2 = f := rfl
  rw [hl0, hl1, hl2]
  refine ⟨⟨by decide, by decide⟩, wB_que2 e2 (fun r9 hr9 => ?_)⟩
  rw [hr9]
  have B2 := W2.2.2.1
  refine wB_of (oI_at k0) ?_
  rw [B2.2.2.1.1]
  refine ⟨B2.r, ⟨by decide, by decide⟩, l_setups B2 V1 W2.2.2.2.1 V1.lim.1 hfu (fun L sh3 I3 R3 ea3 cap3 S3 e3 T3 m3 => ?_)⟩
  refine ⟨rcv_k T3.1.1, ⟨by decide, by decide⟩, l_size T3.1 ?_⟩
  rw [if_pos (show iz (mSet (limS σ.2.1 r t f) : Int) = iz (S3.length : Int) by rw [m3]; rfl)]
  unfold wL_acts_b207
  refine ⟨⟨by decide, by decide⟩, Or.inr rfl, _, rfl, ?_⟩
  have W3 := W2.ext e3
  have er : limS σ.2.1 r t f = (sLim σ r t f).2.1 := by rw [es]; rfl
  rw [er] at W3
  exact hP sh3 I3 R3 _ W3 ((kp1.tr (KP.fg W1.1.1 f2)).tr e3.kp)
end AC
