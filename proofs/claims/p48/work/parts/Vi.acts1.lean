/-! THE LAW, STAGE 2: what the law writes into its own board -/
theorem ne_k {sh : HS} {a b t t' n n' : Nat} (h1 : sh a = some (t, n)) (h2 : sh b = some (t', n')) (h : ¬ t = t') : ¬ a = b := fun e => by
  rw [e, h2] at h1
  exact h (by cases h1; rfl)
/-- the law's arrays of ints are apart -/
def DST (A : Nat → Nat) (S : List Nat) (M : Int) : Prop := S.Nodup ∧ ∃ h : Nat → Nat, h (A 3) = 0 ∧ (∀ c : Nat, (c : Int) < M → h (A (6 + c)) = 1 + c ∧ h (A (9 + c)) = 10 + c) ∧ ∀ q, q ∈ S → 20 ≤ h q
def WLX (K : Nat → Nat) (σ : STT) (ρ : RHO) (AD : Int → Nat) (A : Nat → Nat) (cap : Nat) (S : List Nat) (sh : HS) (I : HI) (R : HR) : Prop := PLS sh I R σ AD ∧ σ.1 = true ∧ LBD sh I R K A cap S ρ ∧ OLD sh I R K ∧ (∀ a, LC A S (ρ 3) a → FGN AD a) ∧ VB ρ ∧ DST A S (ρ 3)
section WR
variable {K : Nat → Nat} {σ : STT} {AD : Int → Nat} {A : Nat → Nat} {cap : Nat} {S : List Nat} {sh : HS} {I : HI} {R : HR} {ρ ρ' : RHO} {k q : Nat}
theorem WLX.wld (W : WLX K σ σ.2.1 AD A cap S sh I R) : WLD K σ AD A cap S sh I R := ⟨W.1, W.2.1, W.2.2.1, W.2.2.2.1, W.2.2.2.2.1⟩
theorem OLD.wI (O : OLD sh I R K) {b t n : Nat} (h : sh b = some (t, n)) (ht : ¬ (22 ≤ t ∧ t < 30)) (k : Nat) (x : Int32) : OLD sh (u2 I b k x) R K := by
  refine O.ex (EXH.wI sh I R b k x) (fun a z hz h1 h2 e => ?_)
  subst e
  rw [h] at hz
  cases hz
  exact ht ⟨h1, h2⟩
/-- the limits -/
theorem LBD.lim (B : LBD sh I R K A cap S ρ) (r t f : Int) : LBD sh (u2 (u2 (u2 I (A 0) 0 (iz r)) (A 0) 1 (iz t)) (A 0) 2 (iz f)) R K A cap S (limS ρ r t f) := by
  have n3 : limS ρ r t f 3 = ρ 3 := rfl
  have n4 : limS ρ r t f 4 = ρ 4 := rfl
  have nj : ∀ j : Int, 3 ≤ j → limS ρ r t f j = ρ j := by
    intro j hj
    unfold limS
    rw [up1_ne (by omega), up1_ne (by omega), up1_ne (by omega)]
  obtain ⟨⟨⟨s1, s2, s3, s4, s5⟩, s6, ⟨s7, s8, s9⟩, s10⟩, l, v1, v2, v3, v4⟩ := B
  have off : ∀ b, ¬ b = A 0 → u2 (u2 (u2 I (A 0) 0 (iz r)) (A 0) 1 (iz t)) (A 0) 2 (iz f) b = I b := fun b hb => by
    funext j
    rw [u2_off hb, u2_off hb, u2_off hb]
  refine ⟨⟨⟨s1, s2, s3, s4, s5⟩, s6, ⟨s7, s8, s9⟩, s10⟩, l.cg rfl (by rw [off _ (ne_k l.1 s1 (by decide))]) rfl rfl rfl, ⟨?_, ?_, ?_⟩, fun c hc => ?_, v3, fun k q hk => ?_⟩
  · rw [u2_k (by decide), u2_k (by decide), u2_self]; rfl
  · rw [u2_k (by decide), u2_self]; rfl
  · rw [u2_self]; rfl
  · rw [n3] at hc
    obtain ⟨c1, c2, c3, c4⟩ := s10 c hc
    rw [off _ (ne_k s7 s1 (by decide)), off _ (ne_k c3 s1 (by decide)), off _ (ne_k c4 s1 (by decide))]
    obtain ⟨d1, d2⟩ := v2 c hc
    refine ⟨by rw [d1]; unfold ltS; rw [nj _ (by omega)], fun a ha => ?_⟩
    obtain ⟨e1, e2⟩ := d2 a ha
    refine ⟨by rw [e1]; unfold lxS inS csS axS; rw [nj _ (by omega), nj _ (by omega)], by rw [e2]; unfold lyS inS csS ayS; rw [nj _ (by omega), nj _ (by omega)]⟩
  · rw [off _ (ne_k (s6 q (List.mem_of_getElem? hk)) s1 (by decide))]
    obtain ⟨d0, d1, d2, d3, d4, d5⟩ := v4 k q hk
    refine ⟨by rw [d0]; unfold scS gS; rw [nj _ (by omega)], by rw [d1]; unfold cxS gS; rw [nj _ (by omega)], by rw [d2]; unfold cyS gS; rw [nj _ (by omega)], by rw [d3]; unfold suS gS; rw [nj _ (by omega)], by rw [d4]; unfold paS gS; rw [nj _ (by omega)], by rw [d5]; unfold lnS gS; rw [nj _ (by omega)]⟩
/-- one number of a shot -/
theorem LBD.shot (B : LBD sh I R K A cap S ρ) (m : ρ 3 ≤ 3) (Dt : DST A S (ρ 3)) (hk : S[k]? = some q) {j : Nat} (hj : j < 6) (x : Int) : LBD sh (u2 I q j (iz x)) R K A cap S (up1 ρ (47 + 6 * k + j) x) := by
  have nj : ∀ i : Int, ¬ i = 47 + 6 * k + j → up1 ρ (47 + 6 * k + j) x i = ρ i := fun i hi => up1_ne hi
  obtain ⟨⟨⟨s1, s2, s3, s4, s5⟩, s6, ⟨s7, s8, s9⟩, s10⟩, l, v1, v2, v3, v4⟩ := B
  obtain ⟨dn, h, h0, hc0, hs0⟩ := Dt
  have hq20 := hs0 q (List.mem_of_getElem? hk)
  have q6 := s6 q (List.mem_of_getElem? hk)
  have off : ∀ b, ¬ b = q → u2 I q j (iz x) b = I b := fun b hb => funext (fun j => u2_off hb j)
  refine ⟨⟨⟨s1, s2, s3, s4, s5⟩, s6, ⟨by rw [nj 3 (by omega)]; exact s7, by rw [nj 3 (by omega)]; exact s8, by rw [nj 3 (by omega)]; exact s9⟩, fun c hc => s10 c (by rw [nj 3 (by omega)] at hc; exact hc)⟩, l.cg rfl (by rw [off _ (ne_k l.1 q6 (by decide))]) rfl rfl rfl, ?_, fun c hc => ?_, by rw [nj 4 (by omega)]; exact v3, fun i y hi => ?_⟩
  · rw [off _ (ne_k s1 q6 (by decide)), nj 0 (by omega), nj 1 (by omega), nj 2 (by omega)]
    exact v1
  · rw [nj 3 (by omega)] at hc
    obtain ⟨g1, g2⟩ := hc0 c hc
    rw [off _ (fun e => by rw [e] at h0; omega), off _ (fun e => by rw [e] at g1; omega), off _ (fun e => by rw [e] at g2; omega)]
    obtain ⟨d1, d2⟩ := v2 c hc
    refine ⟨by rw [d1]; unfold ltS; rw [nj _ (by omega)], fun a ha => ?_⟩
    obtain ⟨e1, e2⟩ := d2 a ha
    refine ⟨by rw [e1]; unfold lxS inS csS axS; rw [nj _ (by omega), nj _ (by omega)], by rw [e2]; unfold lyS inS csS ayS; rw [nj _ (by omega), nj _ (by omega)]⟩
  · have key : ∀ a : Nat, a < 6 → I y a = iz (gS ρ i a) → u2 I q j (iz x) y a = iz (gS (up1 ρ (47 + 6 * k + j) x) i a) := by
      intro a ha e
      unfold gS
      by_cases z : i = k
      · subst z
        have hyq : y = q := by rw [hk] at hi; exact (Option.some.inj hi).symm
        subst hyq
        rw [u2_on]
        by_cases w : a = j
        · rw [if_pos w, w, up1_eq]
        · rw [if_neg w, nj _ (by omega)]
          exact e
      · have hyq : ¬ y = q := fun e2 => by
          rw [e2] at hi
          have l1 := (List.getElem?_eq_some_iff.mp hk)
          have l2 := (List.getElem?_eq_some_iff.mp hi)
          obtain ⟨p1, p2⟩ := l1
          obtain ⟨p3, p4⟩ := l2
          exact z ((List.getElem_inj dn).mp (p4.trans p2.symm))
        rw [off y hyq, nj _ (by omega)]
        exact e
    obtain ⟨d0, d1, d2, d3, d4, d5⟩ := v4 i y hi
    exact ⟨key 0 (by decide) d0, key 1 (by decide) d1, key 2 (by decide) d2, key 3 (by decide) d3, key 4 (by decide) d4, key 5 (by decide) d5⟩
/-- the light of a scene -/
theorem LBD.light (B : LBD sh I R K A cap S ρ) (Dt : DST A S (ρ 3)) {c : Nat} (hc9 : (c : Int) < ρ 3) (m : ρ 3 ≤ 3) (x : Int) : LBD sh (u2 I (A 3) c (iz x)) R K A cap S (up1 ρ (5 + 14 * c) x) := by
  have nj : ∀ i : Int, ¬ i = 5 + 14 * c → up1 ρ (5 + 14 * c) x i = ρ i := fun i hi => up1_ne hi
  obtain ⟨⟨⟨s1, s2, s3, s4, s5⟩, s6, ⟨s7, s8, s9⟩, s10⟩, l, v1, v2, v3, v4⟩ := B
  obtain ⟨dn, h, h0, hc0, hs0⟩ := Dt
  have off : ∀ b, ¬ b = A 3 → u2 I (A 3) c (iz x) b = I b := fun b hb => funext (fun j => u2_off hb j)
  refine ⟨⟨⟨s1, s2, s3, s4, s5⟩, s6, ⟨by rw [nj 3 (by omega)]; exact s7, by rw [nj 3 (by omega)]; exact s8, by rw [nj 3 (by omega)]; exact s9⟩, fun c hc => s10 c (by rw [nj 3 (by omega)] at hc; exact hc)⟩, l.cg rfl (by rw [off _ (ne_k l.1 s7 (by decide))]) rfl rfl rfl, ?_, fun i hi => ?_, by rw [nj 4 (by omega)]; exact v3, fun i y hi => ?_⟩
  · rw [off _ (ne_k s1 s7 (by decide)), nj 0 (by omega), nj 1 (by omega), nj 2 (by omega)]
    exact v1
  · rw [nj 3 (by omega)] at hi
    obtain ⟨g1, g2⟩ := hc0 i hi
    rw [off (A (6 + i)) (fun e => by rw [e, h0] at g1; omega), off (A (9 + i)) (fun e => by rw [e, h0] at g2; omega)]
    obtain ⟨d1, d2⟩ := v2 i hi
    refine ⟨?_, fun a ha => ?_⟩
    · rw [u2_on]
      unfold ltS
      by_cases z : i = c
      · rw [if_pos z, z, up1_eq]
      · rw [if_neg z, nj _ (by omega)]
        exact d1
    · obtain ⟨e1, e2⟩ := d2 a ha
      refine ⟨by rw [e1]; unfold lxS inS csS axS; rw [nj _ (by omega), nj _ (by omega)], by rw [e2]; unfold lyS inS csS ayS; rw [nj _ (by omega), nj _ (by omega)]⟩
  · have hy := hs0 y (List.mem_of_getElem? hi)
    rw [off _ (fun e => by rw [e, h0] at hy; omega)]
    obtain ⟨d0, d1, d2, d3, d4, d5⟩ := v4 i y hi
    refine ⟨by rw [d0]; unfold scS gS; rw [nj _ (by omega)], by rw [d1]; unfold cxS gS; rw [nj _ (by omega)], by rw [d2]; unfold cyS gS; rw [nj _ (by omega)], by rw [d3]; unfold suS gS; rw [nj _ (by omega)], by rw [d4]; unfold paS gS; rw [nj _ (by omega)], by rw [d5]; unfold lnS gS; rw [nj _ (by omega)]⟩
/-- the place of an actor -/
theorem LBD.place (B : LBD sh I R K A cap S ρ) (Dt : DST A S (ρ 3)) {c a : Nat} (hc9 : (c : Int) < ρ 3) (m : ρ 3 ≤ 3) (ha9 : a < 6) (hin : inS ρ c a = true) (x y : Int) : LBD sh (u2 (u2 I (A (6 + c)) a (iz x)) (A (9 + c)) a (iz y)) R K A cap S (mvA ρ c a x y) := by
  have nj : ∀ i : Int, ¬ i = 5 + 14 * c + 2 + a → ¬ i = 5 + 14 * c + 8 + a → mvA ρ c a x y i = ρ i := fun i h1 h2 => by
    unfold mvA
    rw [up1_ne h2, up1_ne h1]
  obtain ⟨⟨⟨s1, s2, s3, s4, s5⟩, s6, ⟨s7, s8, s9⟩, s10⟩, l, v1, v2, v3, v4⟩ := B
  obtain ⟨dn, h, h0, hc0, hs0⟩ := Dt
  obtain ⟨g1, g2⟩ := hc0 c hc9
  obtain ⟨-, -, p6, p9⟩ := s10 c hc9
  have off : ∀ b, ¬ b = A (6 + c) → ¬ b = A (9 + c) → u2 (u2 I (A (6 + c)) a (iz x)) (A (9 + c)) a (iz y) b = I b := fun b h1 h2 => funext (fun j => by rw [u2_off h2, u2_off h1])
  have n69 : ¬ A (6 + c) = A (9 + c) := fun e => by rw [e, g2] at g1; omega
  refine ⟨⟨⟨s1, s2, s3, s4, s5⟩, s6, ⟨by rw [nj 3 (by omega) (by omega)]; exact s7, by rw [nj 3 (by omega) (by omega)]; exact s8, by rw [nj 3 (by omega) (by omega)]; exact s9⟩, fun c hc => s10 c (by rw [nj 3 (by omega) (by omega)] at hc; exact hc)⟩, l.cg rfl (by rw [off _ (ne_k l.1 p6 (by decide)) (ne_k l.1 p9 (by decide))]) rfl rfl rfl, ?_, fun i hi => ?_, by rw [nj 4 (by omega) (by omega)]; exact v3, fun i z hi => ?_⟩
  · rw [off _ (ne_k s1 p6 (by decide)) (ne_k s1 p9 (by decide)), nj 0 (by omega) (by omega), nj 1 (by omega) (by omega), nj 2 (by omega) (by omega)]
    exact v1
  · rw [nj 3 (by omega) (by omega)] at hi
    obtain ⟨f1, f2⟩ := hc0 i hi
    rw [off (A 3) (fun e => by rw [← e, h0] at g1; omega) (fun e => by rw [← e, h0] at g2; omega)]
    obtain ⟨d1, d2⟩ := v2 i hi
    refine ⟨by rw [d1]; unfold ltS; rw [nj _ (by omega) (by omega)], fun b hb => ?_⟩
    obtain ⟨e1, e2⟩ := d2 b hb
    have hin2 : inS (mvA ρ c a x y) i b = inS ρ i b := by unfold inS csS; rw [nj _ (by omega) (by omega)]
    by_cases z : i = c
    · subst z
      rw [u2_off n69, u2_on, u2_on]
      by_cases w : b = a
      · subst w
        rw [if_pos rfl, if_pos rfl]
        refine ⟨?_, ?_⟩
        · unfold lxS
          rw [hin2, if_pos hin]
          unfold axS mvA
          rw [up1_ne (by omega), up1_eq]
        · unfold lyS
          rw [hin2, if_pos hin]
          unfold ayS mvA
          rw [up1_eq]
      · rw [if_neg w, if_neg w, u2_off (fun e => n69 e.symm)]
        refine ⟨?_, ?_⟩
        · rw [e1]
          unfold lxS
          rw [hin2]
          unfold axS
          rw [nj _ (by omega) (by omega)]
        · rw [e2]
          unfold lyS
          rw [hin2]
          unfold ayS
          rw [nj _ (by omega) (by omega)]
    · rw [off (A (6 + i)) (fun e => by rw [e, g1] at f1; omega) (fun e => by rw [e, g2] at f1; omega), off (A (9 + i)) (fun e => by rw [e, g1] at f2; omega) (fun e => by rw [e, g2] at f2; omega)]
      refine ⟨?_, ?_⟩
      · rw [e1]
        unfold lxS
        rw [hin2]
        unfold axS
        rw [nj _ (by omega) (by omega)]
      · rw [e2]
        unfold lyS
        rw [hin2]
        unfold ayS
        rw [nj _ (by omega) (by omega)]
  · have hy := hs0 z (List.mem_of_getElem? hi)
    rw [off _ (fun e => by rw [e, g1] at hy; omega) (fun e => by rw [e, g2] at hy; omega)]
    obtain ⟨d0, d1, d2, d3, d4, d5⟩ := v4 i z hi
    refine ⟨by rw [d0]; unfold scS gS; rw [nj _ (by omega) (by omega)], by rw [d1]; unfold cxS gS; rw [nj _ (by omega) (by omega)], by rw [d2]; unfold cyS gS; rw [nj _ (by omega) (by omega)], by rw [d3]; unfold suS gS; rw [nj _ (by omega) (by omega)], by rw [d4]; unfold paS gS; rw [nj _ (by omega) (by omega)], by rw [d5]; unfold lnS gS; rw [nj _ (by omega) (by omega)]⟩
end WR
