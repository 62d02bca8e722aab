/-! STAGE 2: shots renumbered; the mathematics and the class -/
def mvP (s t i : Int) : Int := if i = t then s else if s ≤ i ∧ i < t then i + 1 else if t < i ∧ i ≤ s then i - 1 else i
def shP (ρ : RHO) (q : Int → Int) : RHO := fun j => if 47 ≤ j ∧ j < 119 then ρ (47 + 6 * q ((j - 47) / 6) + (j - 47) % 6) else ρ j
theorem mvP_r {s t i n : Int} (s0 : 0 ≤ s) (s1 : s < n) (t0 : 0 ≤ t) (t1 : t < n) (i0 : 0 ≤ i) (i1 : i < n) : 0 ≤ mvP s t i ∧ mvP s t i < n := by
  unfold mvP
  split
  · omega
  · split
    · omega
    · split <;> omega
theorem mvP_inj {s t i j : Int} (h : mvP s t i = mvP s t j) : i = j := by
  unfold mvP at h
  split at h <;> split at h <;> (try split at h) <;> (try split at h) <;> (try split at h) <;> (try split at h) <;> omega
theorem shP_low {ρ : RHO} {q : Int → Int} {j : Int} (h : j < 47) : shP ρ q j = ρ j := by
  unfold shP
  rw [if_neg (by omega)]
theorem shP_g {ρ : RHO} {q : Int → Int} {i k : Int} (i0 : 0 ≤ i) (i1 : i < 12) (k0 : 0 ≤ k) (k1 : k < 6) : gS (shP ρ q) i k = gS ρ (q i) k := by
  unfold gS shP
  rw [if_pos (by omega)]
  have e1 : (47 + 6 * i + k - 47) / 6 = i := by omega
  have e2 : (47 + 6 * i + k - 47) % 6 = k := by omega
  rw [e1, e2]
theorem mvP_sc {ρ : RHO} (V : VB ρ) {s t i : Int} (s0 : 0 ≤ s) (s1 : s < ρ 4) (t0 : 0 ≤ t) (t1 : t < ρ 4) (e : scS ρ s = scS ρ t) (i0 : 0 ≤ i) (i1 : i < ρ 4) : scS ρ (mvP s t i) = scS ρ i := by
  have mono := V.2.2.2.2.2.2.2
  unfold mvP
  by_cases h : i = t
  · rw [if_pos h, h, e]
  · rw [if_neg h]
    by_cases h2 : s ≤ i ∧ i < t
    · rw [if_pos h2]
      have a1 := mono s i s0 h2.1 (by omega)
      have a2 := mono i t i0 (by omega) t1
      have a3 := mono s (i + 1) s0 (by omega) (by omega)
      have a4 := mono (i + 1) t (by omega) (by omega) t1
      omega
    · rw [if_neg h2]
      by_cases h3 : t < i ∧ i ≤ s
      · rw [if_pos h3]
        have a1 := mono t i t0 (by omega) (by omega)
        have a2 := mono i s i0 h3.2 s1
        have a3 := mono t (i - 1) t0 (by omega) (by omega)
        have a4 := mono (i - 1) s (by omega) (by omega) s1
        omega
      · rw [if_neg h3]
theorem shP_V {ρ : RHO} (V : VB ρ) {s t : Int} (s0 : 0 ≤ s) (s1 : s < ρ 4) (t0 : 0 ≤ t) (t1 : t < ρ 4) (e : scS ρ s = scS ρ t) : VB (shP ρ (mvP s t)) := by
  have hm := V.m
  have hn := V.n
  refine V.upd (shP_low (by decide)) (shP_low (by decide)) ?_ (fun d g0 g1 => shP_low (by omega)) (fun d g0 g1 => ?_) (fun d b g0 g1 b0 b1 b2 => ?_) (fun i g0 g1 => ?_)
  · rw [shP_low (by decide), shP_low (by decide), shP_low (by decide)]; exact V.lim
  · have e : ltS (shP ρ (mvP s t)) d = ltS ρ d := shP_low (by omega)
    rw [e]; exact (V.scene g0 g1).1
  · have e1 : axS (shP ρ (mvP s t)) d b = axS ρ d b := shP_low (by omega)
    have e2 : ayS (shP ρ (mvP s t)) d b = ayS ρ d b := shP_low (by omega)
    rw [e1, e2]; exact (V.scene g0 g1).2.2 b b0 b1 b2
  · have r := mvP_r s0 s1 t0 t1 g0 g1
    have q := V.shot r.1 r.2
    have sc := mvP_sc V s0 s1 t0 t1 e g0 g1
    have e0 : scS (shP ρ (mvP s t)) i = scS ρ (mvP s t i) := shP_g g0 (by omega) (by decide) (by decide)
    have e1 : cxS (shP ρ (mvP s t)) i = cxS ρ (mvP s t i) := shP_g g0 (by omega) (by decide) (by decide)
    have e2 : cyS (shP ρ (mvP s t)) i = cyS ρ (mvP s t i) := shP_g g0 (by omega) (by decide) (by decide)
    have e3 : suS (shP ρ (mvP s t)) i = suS ρ (mvP s t i) := shP_g g0 (by omega) (by decide) (by decide)
    have e4 : paS (shP ρ (mvP s t)) i = paS ρ (mvP s t i) := shP_g g0 (by omega) (by decide) (by decide)
    have e5 : lnS (shP ρ (mvP s t)) i = lnS ρ (mvP s t i) := shP_g g0 (by omega) (by decide) (by decide)
    have e6 : axS (shP ρ (mvP s t)) (scS ρ (mvP s t i)) (suS ρ (mvP s t i)) = axS ρ (scS ρ (mvP s t i)) (suS ρ (mvP s t i)) := shP_low (by omega)
    have e7 : ayS (shP ρ (mvP s t)) (scS ρ (mvP s t i)) (suS ρ (mvP s t i)) = ayS ρ (scS ρ (mvP s t i)) (suS ρ (mvP s t i)) := shP_low (by omega)
    rw [e0, e1, e2, e3, e4, e5, ← sc, e6, e7]
    exact ⟨rfl, q.2⟩
section Q34
variable {fu : Nat} {sh : HS} {I I' J : HI} {R R' : HR} {AD : Int → Nat} {P : Int → Int → Int} {σ σ' : STT} {ρ ρ' : RHO} {p : Int → Int} {s t : Int}
theorem oU_iz {a m k v n : Nat} {i : Int} (h : sh a = some (30 + k, m)) (hv : sh v = some (k, n)) (hk : k < 10) (h0 : 0 ≤ i) (h1 : i < m) (h2 : i ≤ 2147483647) : oU sh R a k (iz i) v = some (u2 R a i.toNat (some v)) := by
  have e := iz_nat h0 h2
  have e2 : inA sh a (30 + k) (iz i) = true := by
    rw [inA_iff]
    refine ⟨m, h, fun z => ?_⟩
    rcases z with z | z
    · rw [iz_lit, iz_lt (by omega) h2 (by decide) (by decide)] at z
      have : i < 0 := z
      omega
    · rw [e] at z; omega
  unfold oU
  rw [if_pos ⟨e2, isT_of hv, hk⟩, e]
/-- the references of the shots in a row of them -/
def SHR (R : HR) (AD : Int → Nat) (p : Int → Int) : Prop := ∀ n, 0 ≤ n → n < 12 → R (AD 30) n.toNat = some (AD (28 + 12 + p n))
def UP1 (p : Int → Int) (s t i : Int) : Int := if s ≤ i ∧ i < t then p (i + 1) else p i
def DN1 (p : Int → Int) (s t i : Int) : Int := if t < i ∧ i ≤ s then p (i - 1) else p i
def RFR (AD : Int → Nat) (R R' : HR) : Prop := ∀ i, 0 ≤ i → i < 331 → ¬ i = 30 → ∀ k, R' (AD i) k = R (AD i) k
theorem RFR.rf : RFR AD R R := fun _ _ _ _ _ => rfl
theorem RFR.tr {R2 : HR} (a : RFR AD R R') (b : RFR AD R' R2) : RFR AD R R2 := fun i h0 h1 h k => (b i h0 h1 h k).trans (a i h0 h1 h k)
theorem RFR.st (S : OKS sh AD) (k : Nat) (x : Option Nat) : RFR AD R (u2 R (AD 30) k x) := fun i h0 h1 h j => u2_ne S (by decide) (by decide) h0 h1 h R k j x
theorem SHR.st (S : OKS sh AD) {p' : Int → Int} (H : SHR R AD p) {i : Int} (i0 : 0 ≤ i) (h : ∀ n, 0 ≤ n → n < 12 → ¬ n = i → p' n = p n) : SHR (u2 R (AD 30) i.toNat (some (AD (28 + 12 + p' i)))) AD p' := by
  intro n n0 n1
  rw [u2_ad S (by decide) (by decide) (by decide) (by decide)]
  by_cases z : n = i
  · rw [if_pos ⟨rfl, by rw [z]⟩, z]
  · rw [if_neg (by omega), h n n0 n1 z]
    exact H n n0 n1
theorem SHR.cg {p' : Int → Int} (H : SHR R AD p) (h : ∀ n, 0 ≤ n → n < 12 → p' n = p n) : SHR R AD p' := fun n n0 n1 => by rw [h n n0 n1]; exact H n n0 n1
theorem c_rn_up (S : OKS sh AD) (hp : ∀ n, 0 ≤ n → n < 12 → 0 ≤ p n ∧ p n < 12) (s0 : 0 ≤ s) (s1 : s < 12) (t0 : 0 ≤ t) (t1 : t < 12) (l3 : Nat) (k38 : HI → HR → Nat → Int32 → Int32 → Nat → Option (HI × HR)) : ∀ d j : Nat, ∀ i : Int, s ≤ i → i ≤ max s t → (t - i).toNat = d → d < j → ∀ R : HR, R (AD 28) 6 = some (AD 30) → SHR R AD (UP1 p s i) →
    ∃ R', fX0_renumber_l10 fu sh k38 j I R (AD 28) (iz s) (iz t) l3 (iz i) = k38 I R' (AD 28) (iz s) (iz t) l3 ∧ SHR R' AD (UP1 p s t) ∧ RFR AD R R' := by
  have k28 := S.at (i := 28) (t := 0) (n := 7) rfl (by decide) (by decide)
  have k30 := S.at (i := 30) (t := 37) (n := 12) rfl (by decide) (by decide)
  intro d
  induction d with
  | zero =>
    intro j i i0 i1 hd hj R r6 H
    obtain ⟨j, rfl⟩ : ∃ t, j = t + 1 := ⟨j - 1, by omega⟩
    refine ⟨R, ?_, H.cg (fun n n0 n1 => ?_), RFR.rf⟩
    · show fX0_renumber_b10 fu sh (fX0_renumber_l10 fu sh k38 j) k38 I R _ _ _ _ _ = _
      simp only [fX0_renumber_b10]
      rw [if_pos (by rw [iz_le (by omega) (by omega) (by omega) (by omega)]; omega)]
    · unfold UP1
      by_cases z : s ≤ n ∧ n < t
      · rw [if_pos z, if_pos (by omega)]
      · rw [if_neg z, if_neg (by omega)]
  | succ d ih =>
    intro j i i0 i1 hd hj R r6 H
    obtain ⟨j, rfl⟩ : ∃ t, j = t + 1 := ⟨j - 1, by omega⟩
    have it : i < t := by omega
    have q1 := H (i + 1) (by omega) (by omega)
    have e1 : UP1 p s i (i + 1) = p (i + 1) := by unfold UP1; rw [if_neg (by omega)]
    rw [e1] at q1
    have pr := hp (i + 1) (by omega) (by omega)
    have ks := S.at (i := 28 + 12 + p (i + 1)) (by rw [← kd_H (b := 0) (k := p (i + 1)) (by decide) (by decide) pr.1 pr.2]; congr 1) (by omega) (by omega)
    have e2 : UP1 p s (i + 1) i = p (i + 1) := by unfold UP1; rw [if_pos (by omega)]
    have H2 : SHR (u2 R (AD 30) i.toNat (some (AD (28 + 12 + p (i + 1))))) AD (UP1 p s (i + 1)) := by
      have := SHR.st (p' := UP1 p s (i + 1)) S H (i := i) (by omega) (fun n n0 n1 ne => by
        unfold UP1
        by_cases z : s ≤ n ∧ n < i
        · rw [if_pos z, if_pos (by omega)]
        · rw [if_neg z, if_neg (by omega)])
      rw [e2] at this
      exact this
    have rf := RFR.st (R := R) S i.toNat (some (AD (28 + 12 + p (i + 1))))
    obtain ⟨R', g1, g2, g3⟩ := ih j (i + 1) (by omega) (by omega) (by omega) (by omega) _ ((rf 28 (by decide) (by decide) (by decide) 6).trans r6) H2
    refine ⟨R', ?_, g2, rf.tr g3⟩
    rw [← g1]
    show fX0_renumber_b10 fu sh (fX0_renumber_l10 fu sh k38 j) k38 I R _ _ _ _ _ = _
    simp only [fX0_renumber_b10, iz_lit, oR_at k28 r6, bsome, iz_add]
    rw [if_neg (by rw [iz_le (by omega) (by omega) (by omega) (by omega)]; omega), oB_iz (t := 7) k30 (by omega) (by omega) (by omega), q1, bsome, oU_iz (k := 7) k30 ks (by decide) (by omega) (by omega) (by omega), bsome]
theorem c_rn_dn (S : OKS sh AD) (hp : ∀ n, 0 ≤ n → n < 12 → 0 ≤ p n ∧ p n < 12) (s0 : 0 ≤ s) (s1 : s < 12) (t0 : 0 ≤ t) (t1 : t < 12) {a : Int} (a0 : 0 ≤ a) (a1 : a < 12) : ∀ d j : Nat, ∀ i : Int, i ≤ s → min s t ≤ i → (i - t).toNat = d → d < j → ∀ R : HR, R (AD 28) 6 = some (AD 30) → SHR R AD (DN1 p s i) →
    ∃ R', fX0_renumber_l41 fu sh j I R (AD 28) (iz t) (AD (28 + 12 + a)) (iz i) = some (I, R') ∧ SHR R' AD (fun n => if n = t then a else DN1 p s t n) ∧ RFR AD R R' := by
  have k28 := S.at (i := 28) (t := 0) (n := 7) rfl (by decide) (by decide)
  have k30 := S.at (i := 30) (t := 37) (n := 12) rfl (by decide) (by decide)
  intro d
  induction d with
  | zero =>
    intro j i i0 i1 hd hj R r6 H
    obtain ⟨j, rfl⟩ : ∃ t, j = t + 1 := ⟨j - 1, by omega⟩
    have ks := S.at (i := 28 + 12 + a) (by rw [← kd_H (b := 0) (k := a) (by decide) (by decide) a0 a1]; congr 1) (by omega) (by omega)
    have H2 : SHR (u2 R (AD 30) t.toNat (some (AD (28 + 12 + a)))) AD (fun n => if n = t then a else DN1 p s t n) := by
      have := SHR.st (p' := fun n => if n = t then a else DN1 p s t n) S H (i := t) t0 (fun n n0 n1 ne => by
        show (if n = t then a else DN1 p s t n) = _
        rw [if_neg ne]
        unfold DN1
        by_cases z : t < n ∧ n ≤ s
        · rw [if_pos z, if_pos (by omega)]
        · rw [if_neg z, if_neg (by omega)])
      have e : (if t = t then a else DN1 p s t t) = a := if_pos rfl
      rw [e] at this
      exact this
    refine ⟨_, ?_, H2, RFR.st S _ _⟩
    show fX0_renumber_b41 fu sh (fX0_renumber_l41 fu sh j) I R _ _ _ _ = _
    simp only [fX0_renumber_b41, oR_at k28 r6, bsome]
    rw [if_pos (by rw [iz_le (by omega) (by omega) (by omega) (by omega)]; omega), oU_iz (k := 7) k30 ks (by decide) t0 (by omega) (by omega), bsome]
  | succ d ih =>
    intro j i i0 i1 hd hj R r6 H
    obtain ⟨j, rfl⟩ : ∃ t, j = t + 1 := ⟨j - 1, by omega⟩
    have it : t < i := by omega
    have q1 := H (i - 1) (by omega) (by omega)
    have e1 : DN1 p s i (i - 1) = p (i - 1) := by unfold DN1; rw [if_neg (by omega)]
    rw [e1] at q1
    have pr := hp (i - 1) (by omega) (by omega)
    have ks := S.at (i := 28 + 12 + p (i - 1)) (by rw [← kd_H (b := 0) (k := p (i - 1)) (by decide) (by decide) pr.1 pr.2]; congr 1) (by omega) (by omega)
    have e2 : DN1 p s (i - 1) i = p (i - 1) := by unfold DN1; rw [if_pos (by omega)]
    have H2 : SHR (u2 R (AD 30) i.toNat (some (AD (28 + 12 + p (i - 1))))) AD (DN1 p s (i - 1)) := by
      have := SHR.st (p' := DN1 p s (i - 1)) S H (i := i) (by omega) (fun n n0 n1 ne => by
        unfold DN1
        by_cases z : i < n ∧ n ≤ s
        · rw [if_pos z, if_pos (by omega)]
        · rw [if_neg z, if_neg (by omega)])
      rw [e2] at this
      exact this
    have rf := RFR.st (R := R) S i.toNat (some (AD (28 + 12 + p (i - 1))))
    obtain ⟨R', g1, g2, g3⟩ := ih j (i - 1) (by omega) (by omega) (by omega) (by omega) _ ((rf 28 (by decide) (by decide) (by decide) 6).trans r6) H2
    refine ⟨R', ?_, g2, rf.tr g3⟩
    rw [← g1]
    have en : iz i + -iz 1 = iz (i - 1) := by rw [iz_neg, iz_add]; rfl
    show fX0_renumber_b41 fu sh (fX0_renumber_l41 fu sh j) I R _ _ _ _ = _
    simp only [fX0_renumber_b41, iz_lit, oR_at k28 r6, bsome, iz_sub, en]
    rw [if_neg (by rw [iz_le (by omega) (by omega) (by omega) (by omega)]; omega), oB_iz (t := 7) k30 (by omega) (by omega) (by omega), q1, bsome, oU_iz (k := 7) k30 ks (by decide) (by omega) (by omega) (by omega), bsome]
theorem c_renum (S : OKS sh AD) (hfu : 5000 ≤ fu) (hp : ∀ n, 0 ≤ n → n < 12 → 0 ≤ p n ∧ p n < 12) (s0 : 0 ≤ s) (s1 : s < 12) (t0 : 0 ≤ t) (t1 : t < 12) (r6 : R (AD 28) 6 = some (AD 30)) (H : SHR R AD p) :
    ∃ R', fX0_renumber fu sh I R (AD 28) (iz s) (iz t) = some (I, R') ∧ SHR R' AD (fun n => p (mvP s t n)) ∧ RFR AD R R' := by
  have k28 := S.at (i := 28) (t := 0) (n := 7) rfl (by decide) (by decide)
  have k30 := S.at (i := 30) (t := 37) (n := 12) rfl (by decide) (by decide)
  obtain ⟨R1, e1, g1, f1⟩ := c_rn_up (fu := fu) (I := I) (t := t) S hp s0 s1 t0 t1 (AD (28 + 12 + p s)) (fX0_renumber_b38 fu sh) (t - s).toNat fu s (by omega) (by omega) rfl (by omega) R r6 (H.cg (fun n n0 n1 => by unfold UP1; rw [if_neg (by omega)]))
  have ps := hp s s0 s1
  have hp2 : ∀ n, 0 ≤ n → n < 12 → 0 ≤ UP1 p s t n ∧ UP1 p s t n < 12 := by
    intro n n0 n1
    unfold UP1
    split
    · exact hp (n + 1) (by omega) (by omega)
    · exact hp n n0 n1
  obtain ⟨R2, e2, g2, f2⟩ := c_rn_dn (fu := fu) (I := I) (p := UP1 p s t) S hp2 s0 s1 t0 t1 ps.1 ps.2 (s - t).toNat fu s (by omega) (by omega) rfl (by omega) R1 ((f1 28 (by decide) (by decide) (by decide) 6).trans r6) (g1.cg (fun n n0 n1 => by unfold DN1; rw [if_neg (by omega)]))
  refine ⟨R2, ?_, g2.cg (fun n n0 n1 => ?_), f1.tr f2⟩
  · simp only [fX0_renumber, if_pos (isT_of k28), oR_at k28 r6, bsome]
    rw [oB_iz (t := 7) k30 s0 (by omega) (by omega), H s s0 s1, bsome, e1]
    simp only [fX0_renumber_b38]
    exact e2
  · show p (mvP s t n) = if n = t then p s else DN1 (UP1 p s t) s t n
    unfold mvP DN1 UP1
    by_cases h : n = t
    · rw [if_pos h, if_pos h]
    · rw [if_neg h, if_neg h]
      by_cases h2 : s ≤ n ∧ n < t
      · rw [if_pos h2, if_neg (by omega)]
        rw [if_pos h2]
      · rw [if_neg h2]
        by_cases h3 : t < n ∧ n ≤ s
        · rw [if_pos h3, if_pos h3, if_neg (by omega)]
        · rw [if_neg h3, if_neg h3, if_neg h2]
end Q34
