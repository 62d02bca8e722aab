/-! STAGE 2: bestShot: kinds between any two shots of a scene; faults of a board with shots in another order -/
def crP (ρ : RHO) (t s : Int) : Bool := !decide (paS ρ s = -1) && (!decide (paS ρ t = -1) && (decide (suS ρ s = paS ρ t) && decide (paS ρ s = suS ρ t)))
def smP (ρ : RHO) (t s : Int) : Bool := !decide (paS ρ s = -1) && (decide (suS ρ s = suS ρ t) && decide (paS ρ s = paS ρ t))
def k0P (ρ : RHO) (t s : Int) : Bool := (crP ρ t s || smP ρ t s) && decide (sideS ρ s * sideS ρ t = -1)
def k1P (ρ : RHO) (t s : Int) : Bool := crP ρ t s && decide (lookS ρ s * lookS ρ t = 1)
def k2P (ρ : RHO) (t s : Int) : Bool := decide (suS ρ s = suS ρ t) && nearS ρ s t (ρ 0)
def kwP (ρ : RHO) (t s : Int) : Int := b2i (k0P ρ t s) + 2 * b2i (k1P ρ t s) + 4 * b2i (k2P ρ t s)
def kbP (ρ : RHO) (t s : Int) : Int := b2i (k0P ρ t s) + b2i (k1P ρ t s) + b2i (k2P ρ t s)
theorem kwP_range (ρ : RHO) (t s : Int) : 0 ≤ kwP ρ t s ∧ kwP ρ t s ≤ 7 := by
  unfold kwP b2i
  repeat' split
  all_goals omega
theorem kbP_range (ρ : RHO) (t s : Int) : 0 ≤ kbP ρ t s ∧ kbP ρ t s ≤ 3 := by
  unfold kbP b2i
  repeat' split
  all_goals omega
theorem kwP_size (ρ : RHO) (t s : Int) : szS (kwP ρ t s).toNat = kbP ρ t s := by
  unfold kwP kbP
  cases k0P ρ t s <;> cases k1P ρ t s <;> cases k2P ρ t s <;> decide
section C3g
variable {fu : Nat} {sh : HS} {I : HI} {R : HR} {B SA HA : Nat} {ca xa ya sa : Int → Nat} {ρ : RHO} {s t : Int}
theorem facing_cr (V : VB ρ) (h0 : 0 ≤ s) (h1 : s < ρ 4) (t0 : 0 ≤ t) (t1 : t < ρ 4) : (decide (suS ρ t = paS ρ s) && decide (paS ρ t = suS ρ s)) = crP ρ t s := by
  obtain ⟨a1, a2, a3, a4, a5, a6, a7, a8⟩ := V.shot h0 h1
  obtain ⟨b1, b2, b3, b4, b5, b6, b7, b8⟩ := V.shot t0 t1
  unfold crP
  rw [Bool.eq_iff_iff]
  simp only [Bool.and_eq_true, decide_eq_true_eq, Bool.not_eq_true', decide_eq_false_iff_not]
  constructor
  · rintro ⟨k1, k2⟩
    exact ⟨by omega, by omega, by omega, by omega⟩
  · rintro ⟨k1, k2, k3, k4⟩
    exact ⟨by omega, by omega⟩
theorem pair_cr (V : VB ρ) (h0 : 0 ≤ s) (h1 : s < ρ 4) (t0 : 0 ≤ t) (t1 : t < ρ 4) : (!decide (paS ρ t = -1) && ((decide (suS ρ t = suS ρ s) && decide (paS ρ t = paS ρ s)) || (decide (suS ρ t = paS ρ s) && decide (paS ρ t = suS ρ s)))) = (crP ρ t s || smP ρ t s) := by
  obtain ⟨a1, a2, a3, a4, a5, a6, a7, a8⟩ := V.shot h0 h1
  obtain ⟨b1, b2, b3, b4, b5, b6, b7, b8⟩ := V.shot t0 t1
  unfold crP smP
  rw [Bool.eq_iff_iff]
  simp only [Bool.and_eq_true, Bool.or_eq_true, decide_eq_true_eq, Bool.not_eq_true', decide_eq_false_iff_not]
  constructor
  · rintro ⟨k0, ⟨k1, k2⟩ | ⟨k1, k2⟩⟩
    · exact Or.inr ⟨by omega, by omega, by omega⟩
    · exact Or.inl ⟨by omega, by omega, by omega, by omega⟩
  · rintro (⟨k1, k2, k3, k4⟩ | ⟨k1, k2, k3⟩)
    · exact ⟨by omega, Or.inr ⟨by omega, by omega⟩⟩
    · exact ⟨by omega, Or.inl ⟨by omega, by omega⟩⟩
theorem c_kg67 (D : BDV sh I R B SA HA ca xa ya sa ρ) (V : VB ρ) (h0 : 0 ≤ s) (h1 : s < ρ 4) (t0 : 0 ≤ t) (t1 : t < ρ 4) (x : Int32) : fX2_kindsBetween_b67 fu sh I R B (sa t) (sa s) x = some (if k2P ρ t s = true then x ||| iz 4 else x) := by
  have vl := V.lim
  obtain ⟨a1, a2, a3, a4, -⟩ := V.shot h0 h1
  obtain ⟨b1, b2, b3, b4, -⟩ := V.shot t0 t1
  obtain ⟨-, f0, f1, f2, f3, f4, -⟩ := D.2.2.2 s h0 h1
  obtain ⟨-, e0, e1, e2, e3, e4, -⟩ := D.2.2.2 t t0 t1
  simp only [fX2_kindsBetween_b67, fX2_kindsBetween_b95, f3, e3, bsome, iz_lit, D.2.1.1, c_near D V t0 t1 h0 h1 vl.1.1 vl.1.2, bz_zero]
  simp (disch := omega) only [iz_eq]
  rw [near_comm ρ t s]
  unfold k2P
  by_cases k : suS ρ s = suS ρ t
  · rw [if_pos (by omega), decide_eq_true k]
    cases nearS ρ s t (ρ 0) <;> rfl
  · rw [if_neg (by omega), decide_eq_false k]
    rfl
theorem c_kg41 (D : BDV sh I R B SA HA ca xa ya sa ρ) (V : VB ρ) (h0 : 0 ≤ s) (h1 : s < ρ 4) (t0 : 0 ≤ t) (t1 : t < ρ 4) (x : Int32) : fX2_kindsBetween_b41 fu sh I R B (sa t) (sa s) x = some (if k2P ρ t s = true then (if k1P ρ t s = true then x ||| iz 2 else x) ||| iz 4 else (if k1P ρ t s = true then x ||| iz 2 else x)) := by
  have lr1 := look_range ρ s
  have lr2 := look_range ρ t
  have p2 := mul_le (A := 1) (B := 1) lr1.1 lr1.2 lr2.1 lr2.2
  simp only [fX2_kindsBetween_b41, bsome, iz_lit, c_facing D V t0 t1 h0 h1, facing_cr V h0 h1 t0 t1, bz_zero, c_look D V h0 h1, c_look D V t0 t1, iz_mul, c_kg67 D V h0 h1 t0 t1]
  rw [Int.mul_comm (lookS ρ t)]
  simp (disch := omega) only [iz_le]
  unfold k1P
  cases crP ρ t s
  · rfl
  · by_cases k : lookS ρ s * lookS ρ t = 1
    · rw [if_neg (by decide), if_neg (by omega), decide_eq_true k]; rfl
    · rw [if_neg (by decide), if_pos (by omega), decide_eq_false k]; rfl
theorem c_btw (D : BDV sh I R B SA HA ca xa ya sa ρ) (V : VB ρ) (h0 : 0 ≤ s) (h1 : s < ρ 4) (t0 : 0 ≤ t) (t1 : t < ρ 4) (e : scS ρ t = scS ρ s) : fX2_kindsBetween fu sh I R B (sa t) (sa s) = some (iz (kwP ρ t s)) := by
  obtain ⟨a1, a2, a3, a4, -⟩ := V.shot h0 h1
  obtain ⟨b1, b2, b3, b4, -⟩ := V.shot t0 t1
  have hm := V.m
  obtain ⟨-, f0, f1, f2, f3, f4, -⟩ := D.2.2.2 s h0 h1
  obtain ⟨-, e0, e1, e2, e3, e4, -⟩ := D.2.2.2 t t0 t1
  have sr1 := side_range ρ s
  have sr2 := side_range ρ t
  have p1 := mul_le (A := 1) (B := 1) sr1.1 sr1.2 sr2.1 sr2.2
  simp only [fX2_kindsBetween, f0, e0, bsome, iz_lit, c_pair D V t0 t1 h0 h1, pair_cr V h0 h1 t0 t1, bz_zero, c_side D V h0 h1, c_side D V t0 t1, iz_mul, c_kg41 D V h0 h1 t0 t1]
  rw [Int.mul_comm (sideS ρ t)]
  simp (disch := omega) only [iz_le, iz_eq]
  rw [if_pos e]
  unfold kwP k0P
  by_cases k : sideS ρ s * sideS ρ t = -1
  · rw [if_neg (show ¬ (0 : Int) ≤ sideS ρ s * sideS ρ t by omega), decide_eq_true k]
    generalize k1P ρ t s = u2
    generalize k2P ρ t s = u3
    generalize crP ρ t s = u5
    generalize smP ρ t s = u6
    cases u2 <;> cases u3 <;> cases u5 <;> cases u6 <;> rfl
  · rw [if_pos (show (0 : Int) ≤ sideS ρ s * sideS ρ t by omega), decide_eq_false k]
    generalize k1P ρ t s = u2
    generalize k2P ρ t s = u3
    generalize crP ρ t s = u5
    generalize smP ρ t s = u6
    cases u2 <;> cases u3 <;> cases u5 <;> cases u6 <;> rfl
end C3g
/-- shots in another order, each in its scene -/
def QP (ρ : RHO) (q : Int → Int) : Prop := ∀ i, 0 ≤ i → i < ρ 4 → (0 ≤ q i ∧ q i < ρ 4) ∧ scS ρ (q i) = scS ρ i
theorem shQ_V {ρ : RHO} (V : VB ρ) {q : Int → Int} (Q : QP ρ q) : VB (shP ρ q) := by
  have hm := V.m
  have hn := V.n
  refine V.upd (shP_low (by decide)) (shP_low (by decide)) ?_ (fun d g0 g1 => shP_low (by omega)) (fun d g0 g1 => ?_) (fun d b g0 g1 b0 b1 b2 => ?_) (fun i g0 g1 => ?_)
  · rw [shP_low (by decide), shP_low (by decide), shP_low (by decide)]; exact V.lim
  · have e : ltS (shP ρ q) d = ltS ρ d := shP_low (by omega)
    rw [e]; exact (V.scene g0 g1).1
  · have e1 : axS (shP ρ q) d b = axS ρ d b := shP_low (by omega)
    have e2 : ayS (shP ρ q) d b = ayS ρ d b := shP_low (by omega)
    rw [e1, e2]; exact (V.scene g0 g1).2.2 b b0 b1 b2
  · obtain ⟨r, sc⟩ := Q i g0 g1
    have qq := V.shot r.1 r.2
    have e0 : scS (shP ρ q) i = scS ρ (q i) := shP_g g0 (by omega) (by decide) (by decide)
    have e1 : cxS (shP ρ q) i = cxS ρ (q i) := shP_g g0 (by omega) (by decide) (by decide)
    have e2 : cyS (shP ρ q) i = cyS ρ (q i) := shP_g g0 (by omega) (by decide) (by decide)
    have e3 : suS (shP ρ q) i = suS ρ (q i) := shP_g g0 (by omega) (by decide) (by decide)
    have e4 : paS (shP ρ q) i = paS ρ (q i) := shP_g g0 (by omega) (by decide) (by decide)
    have e5 : lnS (shP ρ q) i = lnS ρ (q i) := shP_g g0 (by omega) (by decide) (by decide)
    have e6 : axS (shP ρ q) (scS ρ (q i)) (suS ρ (q i)) = axS ρ (scS ρ (q i)) (suS ρ (q i)) := shP_low (by omega)
    have e7 : ayS (shP ρ q) (scS ρ (q i)) (suS ρ (q i)) = ayS ρ (scS ρ (q i)) (suS ρ (q i)) := shP_low (by omega)
    rw [e0, e1, e2, e3, e4, e5, ← sc, e6, e7]
    exact ⟨rfl, qq.2⟩
section SHQ
variable {ρ : RHO} {q : Int → Int} {s t : Int}
theorem sh_rd (V : VB ρ) (Q : QP ρ q) (h0 : 0 ≤ s) (h1 : s < ρ 4) : scS (shP ρ q) s = scS ρ (q s) ∧ cxS (shP ρ q) s = cxS ρ (q s) ∧ cyS (shP ρ q) s = cyS ρ (q s) ∧ suS (shP ρ q) s = suS ρ (q s) ∧ paS (shP ρ q) s = paS ρ (q s) ∧ sxS (shP ρ q) s = sxS ρ (q s) ∧ syS (shP ρ q) s = syS ρ (q s) ∧ (¬ paS ρ (q s) = -1 → pxS (shP ρ q) s = pxS ρ (q s) ∧ pyS (shP ρ q) s = pyS ρ (q s)) := by
  have hm := V.m
  have hn := V.n
  obtain ⟨r, sc⟩ := Q s h0 h1
  obtain ⟨a1, a2, a3, a4, a5, a6, -⟩ := V.shot r.1 r.2
  have e0 : scS (shP ρ q) s = scS ρ (q s) := shP_g h0 (by omega) (by decide) (by decide)
  have e1 : cxS (shP ρ q) s = cxS ρ (q s) := shP_g h0 (by omega) (by decide) (by decide)
  have e2 : cyS (shP ρ q) s = cyS ρ (q s) := shP_g h0 (by omega) (by decide) (by decide)
  have e3 : suS (shP ρ q) s = suS ρ (q s) := shP_g h0 (by omega) (by decide) (by decide)
  have e4 : paS (shP ρ q) s = paS ρ (q s) := shP_g h0 (by omega) (by decide) (by decide)
  refine ⟨e0, e1, e2, e3, e4, ?_, ?_, fun hp => ?_⟩
  · unfold sxS; rw [e0, e3]; exact shP_low (by omega)
  · unfold syS; rw [e0, e3]; exact shP_low (by omega)
  · have p := V.par r.1 r.2 hp
    unfold pxS pyS
    rw [e0, e4]
    exact ⟨shP_low (by omega), shP_low (by omega)⟩
theorem sh_view (V : VB ρ) (Q : QP ρ q) (h0 : 0 ≤ s) (h1 : s < ρ 4) : viewS (shP ρ q) s = viewS ρ (q s) := by
  obtain ⟨e0, e1, e2, e3, e4, e5, e6, e7⟩ := sh_rd V Q h0 h1
  unfold viewS
  rw [e1, e2, e5, e6]
theorem sh_side (V : VB ρ) (Q : QP ρ q) (h0 : 0 ≤ s) (h1 : s < ρ 4) : sideS (shP ρ q) s = sideS ρ (q s) := by
  obtain ⟨e0, e1, e2, e3, e4, e5, e6, e7⟩ := sh_rd V Q h0 h1
  unfold sideS
  rw [e4]
  by_cases z : paS ρ (q s) = -1
  · rw [if_pos z, if_pos z]
  · obtain ⟨e8, e9⟩ := e7 z
    rw [if_neg z, if_neg z, e1, e2, e3, e5, e6, e8, e9]
theorem sh_look (V : VB ρ) (Q : QP ρ q) (h0 : 0 ≤ s) (h1 : s < ρ 4) : lookS (shP ρ q) s = lookS ρ (q s) := by
  obtain ⟨e0, e1, e2, e3, e4, e5, e6, e7⟩ := sh_rd V Q h0 h1
  unfold lookS
  rw [e4]
  by_cases z : paS ρ (q s) = -1
  · rw [if_pos z, if_pos z]
  · obtain ⟨e8, e9⟩ := e7 z
    rw [if_neg z, if_neg z, e1, e2, e5, e6, e8, e9]
theorem sh_k (V : VB ρ) (Q : QP ρ q) (h0 : 0 ≤ s) (h1 : s < ρ 4) (t0 : 0 ≤ t) (t1 : t < ρ 4) : k0P (shP ρ q) t s = k0P ρ (q t) (q s) ∧ k1P (shP ρ q) t s = k1P ρ (q t) (q s) ∧ k2P (shP ρ q) t s = k2P ρ (q t) (q s) := by
  obtain ⟨e0, e1, e2, e3, e4, -⟩ := sh_rd V Q h0 h1
  obtain ⟨f0, f1, f2, f3, f4, -⟩ := sh_rd V Q t0 t1
  refine ⟨?_, ?_, ?_⟩
  · unfold k0P crP smP
    rw [sh_side V Q h0 h1, sh_side V Q t0 t1, e3, e4, f3, f4]
  · unfold k1P crP
    rw [sh_look V Q h0 h1, sh_look V Q t0 t1, e3, e4, f3, f4]
  · unfold k2P nearS
    rw [sh_view V Q h0 h1, sh_view V Q t0 t1, e0, e1, e2, e3, f0, f1, f2, f3, shP_low (show (0 : Int) < 47 by decide), shP_low (show (1 : Int) < 47 by decide)]
theorem fst_cg {P P' : Nat → Bool} : ∀ d a, (∀ k, a ≤ k → k < a + d → P k = P' k) → fstS P a d = fstS P' a d := by
  intro d
  induction d with
  | zero => intro a _; rfl
  | succ d ih =>
    intro a h
    unfold fstS
    rw [ih (a + 1) (fun k h1 h2 => h k (by omega) (by omega)), h a (Nat.le_refl a) (by omega)]
theorem sh_k3 (V : VB ρ) (Q : QP ρ q) (h0 : 0 ≤ s) (h1 : s < ρ 4) : k3S (shP ρ q) s = k3S ρ (q s) := by
  have hm := V.m
  have hn := V.n
  obtain ⟨r, sc⟩ := Q s h0 h1
  obtain ⟨a1, -⟩ := V.shot r.1 r.2
  obtain ⟨e0, e1, e2, e3, e4, e5, e6, e7⟩ := sh_rd V Q h0 h1
  have eb : blockS (shP ρ q) s = blockS ρ (q s) := by
    unfold blockS
    refine fst_cg 6 0 (fun k _ hk => ?_)
    have c1 : csS (shP ρ q) (scS ρ (q s)) = csS ρ (scS ρ (q s)) := shP_low (by omega)
    have c2 : axS (shP ρ q) (scS ρ (q s)) (k : Int) = axS ρ (scS ρ (q s)) k := shP_low (by omega)
    have c3 : ayS (shP ρ q) (scS ρ (q s)) (k : Int) = ayS ρ (scS ρ (q s)) k := shP_low (by omega)
    unfold betwS inS
    rw [e0, e1, e2, e3, e5, e6, c1, c2, c3]
  unfold k3S
  rw [eb]
theorem kcnt_P (ρ : RHO) (s : Int) : kcntS ρ s = (if befS ρ s = true then kbP ρ (s - 1) s else 0) + b2i (k3S ρ s) := by
  have e0 : k0S ρ s = (befS ρ s && k0P ρ (s - 1) s) := rfl
  have e1 : k1S ρ s = (befS ρ s && k1P ρ (s - 1) s) := rfl
  have e2 : k2S ρ s = (befS ρ s && k2P ρ (s - 1) s) := rfl
  unfold kcntS kbP
  rw [e0, e1, e2]
  cases befS ρ s
  · rw [if_neg (by decide), Bool.false_and, Bool.false_and, Bool.false_and]
    show (0 : Int) + 0 + 0 + _ = 0 + _
    omega
  · rw [if_pos rfl, Bool.true_and, Bool.true_and, Bool.true_and]
theorem sh_kcnt (V : VB ρ) (Q : QP ρ q) (h0 : 0 ≤ s) (h1 : s < ρ 4) : kcntS (shP ρ q) s = (if befS ρ s = true then kbP ρ (q (s - 1)) (q s) else 0) + b2i (k3S ρ (q s)) := by
  have hn := V.n
  rw [kcnt_P, sh_k3 V Q h0 h1]
  by_cases z : 0 < s
  · have e0 := (sh_rd V Q h0 h1).1
    have f0 := (sh_rd V Q (show 0 ≤ s - 1 by omega) (show s - 1 < ρ 4 by omega)).1
    have eb : befS (shP ρ q) s = befS ρ s := by
      unfold befS
      rw [e0, f0, (Q s h0 h1).2, (Q (s - 1) (by omega) (by omega)).2]
    obtain ⟨g0, g1, g2⟩ := sh_k V Q h0 h1 (show 0 ≤ s - 1 by omega) (show s - 1 < ρ 4 by omega)
    unfold kbP
    rw [eb, g0, g1, g2]
  · rw [bef_0 _ (by omega), bef_0 _ (by omega)]
    rfl
end SHQ
