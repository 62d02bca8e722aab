/-! STAGE 2: counts, scenes, actors, on both sides -/
/-- the shots of a scene among the first so many -/
def nsS (ρ : RHO) (c : Int) : Nat → Int
  | 0 => 0
  | s + 1 => nsS ρ c s + (if scS ρ s = c then 1 else 0)
theorem ns_range (ρ : RHO) (c : Int) : ∀ n : Nat, 0 ≤ nsS ρ c n ∧ nsS ρ c n ≤ n
  | 0 => by
    show (0 : Int) ≤ 0 ∧ (0 : Int) ≤ ((0 : Nat) : Int)
    omega
  | n + 1 => by
    have := ns_range ρ c n
    unfold nsS
    split <;> omega
def alS (ρ : RHO) : Int := lnM ρ (2 ^ (ρ 4).toNat - 1) (ρ 4).toNat
def cntV (ρ : RHO) (b : Int) : Int := if b = 0 then ρ 3 else if b = 1 then ρ 4 else if b = 2 then ρ 0 else if b = 3 then ρ 1 else if b = 4 then ρ 2 else alS ρ
def scnV (ρ : RHO) (c b : Int) : Int := if b = 0 then ltS ρ c else if b = 1 then csS ρ c else nsS ρ c (ρ 4).toNat
def aCount (σ : STT) (b : Int) : Int ⊕ Nat := if σ.1 = true then (if 0 ≤ b ∧ b ≤ 5 then .inl (cntV σ.2.1 b) else .inr 2) else .inr 1
def aScene (σ : STT) (c b : Int) : Int ⊕ Nat := if σ.1 = true then (if (0 ≤ c ∧ c ≤ σ.2.1 3 - 1) ∧ (0 ≤ b ∧ b ≤ 2) then .inl (scnV σ.2.1 c b) else .inr 2) else .inr 1
def aActor (σ : STT) (c a : Int) (t : Bool) : Int ⊕ Nat := if σ.1 = true then (if (0 ≤ c ∧ c ≤ σ.2.1 3 - 1) ∧ (0 ≤ a ∧ a ≤ 5) ∧ inS σ.2.1 c a = true then .inl (if t = false then axS σ.2.1 c a else ayS σ.2.1 c a) else .inr 2) else .inr 1
section Q5
variable {fu : Nat} {sh : HS} {I : HI} {R : HR} {AD : Int → Nat} {P : Int → Int → Int} {σ : STT} {ρ : RHO} {p : Int → Int}
theorem c_secs_loop (B : BA sh I R AD 28 p ρ) (V : VB ρ) : ∀ d j k : Nat, k + d = (ρ 4).toNat → d < j →
    fX0_secondsOfAllShots_l4 fu sh I R j (AD 28) (iz (lnM ρ (2 ^ (ρ 4).toNat - 1) k)) (iz (k : Int)) = some (iz (alS ρ)) := by
  have hn := V.n
  intro d
  induction d with
  | zero =>
    intro j k hk hj
    obtain ⟨j, rfl⟩ : ∃ i, j = i + 1 := ⟨j - 1, by omega⟩
    have e : k = (ρ 4).toNat := by omega
    show fX0_secondsOfAllShots_b4 fu sh I R (fX0_secondsOfAllShots_l4 fu sh I R j) _ _ _ = _
    simp only [fX0_secondsOfAllShots_b4, B.1.2.1.2.2.2.2, bsome]
    rw [if_pos (by rw [iz_le (by omega) (by omega) (by omega) (by omega)]; omega), e]
    rfl
  | succ d ih =>
    intro j k hk hj
    obtain ⟨j, rfl⟩ : ∃ i, j = i + 1 := ⟨j - 1, by omega⟩
    have q := ih j (k + 1) (by omega) (by omega)
    have ek : iz (k : Int) + iz 1 = iz ((k + 1 : Nat) : Int) := by rw [iz_add]; rfl
    obtain ⟨s0, -, -, -, -, -, s6⟩ := B.1.2.2.2 (k : Int) (by omega) (by omega)
    have e : lnM ρ (2 ^ (ρ 4).toNat - 1) (k + 1) = lnM ρ (2 ^ (ρ 4).toNat - 1) k + (if (2 ^ (ρ 4).toNat - 1).testBit k = true then lnS ρ k else 0) := rfl
    rw [e, all_bit, decide_eq_true (show k < (ρ 4).toNat by omega), if_pos rfl] at q
    show fX0_secondsOfAllShots_b4 fu sh I R (fX0_secondsOfAllShots_l4 fu sh I R j) _ _ _ = _
    simp only [fX0_secondsOfAllShots_b4, B.1.2.1.2.2.2.2, B.1.1.2.2, s0.1, s6, bsome, iz_lit, ek, iz_add]
    rw [if_neg (by rw [iz_le (by omega) (by omega) (by omega) (by omega)]; omega)]
    exact q
theorem c_secs (B : BA sh I R AD 28 p ρ) (V : VB ρ) (hfu : 5000 ≤ fu) : fX0_secondsOfAllShots fu sh I R (AD 28) = some (iz (alS ρ)) := by
  have hn := V.n
  have q := c_secs_loop (fu := fu) B V (ρ 4).toNat fu 0 (by omega) (by omega)
  simp only [fX0_secondsOfAllShots, if_pos B.1.1.1, iz_lit]
  exact q
theorem c_ns_loop (B : BA sh I R AD 28 p ρ) (V : VB ρ) {c : Int} (h0 : 0 ≤ c) (h1 : c < 3) : ∀ d j k : Nat, k + d = (ρ 4).toNat → d < j →
    fX0_shotsOfScene_l4 fu sh I R j (AD 28) (iz c) (iz (nsS ρ c k)) (iz (k : Int)) = some (iz (nsS ρ c (ρ 4).toNat)) := by
  have hn := V.n
  have hm := V.m
  intro d
  induction d with
  | zero =>
    intro j k hk hj
    obtain ⟨j, rfl⟩ : ∃ i, j = i + 1 := ⟨j - 1, by omega⟩
    have e : k = (ρ 4).toNat := by omega
    show fX0_shotsOfScene_b4 fu sh I R (fX0_shotsOfScene_l4 fu sh I R j) _ _ _ _ = _
    simp only [fX0_shotsOfScene_b4, B.1.2.1.2.2.2.2, bsome]
    rw [if_pos (by rw [iz_le (by omega) (by omega) (by omega) (by omega)]; omega), e]
  | succ d ih =>
    intro j k hk hj
    obtain ⟨j, rfl⟩ : ∃ i, j = i + 1 := ⟨j - 1, by omega⟩
    have q := ih j (k + 1) (by omega) (by omega)
    have ek : iz (k : Int) + iz 1 = iz ((k + 1 : Nat) : Int) := by rw [iz_add]; rfl
    obtain ⟨s0, s1, -⟩ := B.1.2.2.2 (k : Int) (by omega) (by omega)
    obtain ⟨a1, -⟩ := V.shot (s := (k : Int)) (by omega) (by omega)
    have e : nsS ρ c (k + 1) = nsS ρ c k + (if scS ρ k = c then 1 else 0) := rfl
    rw [e] at q
    show fX0_shotsOfScene_b4 fu sh I R (fX0_shotsOfScene_l4 fu sh I R j) _ _ _ _ = _
    simp only [fX0_shotsOfScene_b4, fX0_shotsOfScene_b28, B.1.2.1.2.2.2.2, B.1.1.2.2, s0.1, s1, bsome, iz_lit, ek]
    rw [if_neg (by rw [iz_le (by omega) (by omega) (by omega) (by omega)]; omega)]
    simp (disch := omega) only [iz_eq]
    by_cases z : scS ρ k = c
    · rw [if_pos z, iz_add]
      rw [if_pos z] at q
      exact q
    · rw [if_neg z]
      rw [if_neg z, Int.add_zero] at q
      exact q
theorem c_ns (B : BA sh I R AD 28 p ρ) (V : VB ρ) (hfu : 5000 ≤ fu) {c : Int} (h0 : 0 ≤ c) (h1 : c < 3) : fX0_shotsOfScene fu sh I R (AD 28) (iz c) = some (iz (nsS ρ c (ρ 4).toNat)) := by
  have hn := V.n
  have q := c_ns_loop (fu := fu) B V h0 h1 (ρ 4).toNat fu 0 (by omega) (by omega)
  simp only [fX0_shotsOfScene, if_pos B.1.1.1, iz_lit]
  exact q
theorem c_needScene (S : OKS sh AD) (C : CIB I R AD P σ) (V : VST σ) (h : σ.1 = true) {a : Int} (ha : IR a) : fX10_needScene fu sh I R (AD 0) (iz a) = some (if 0 ≤ a ∧ a ≤ σ.2.1 3 - 1 then .inl () else .inr (exN 2)) := by
  have n3 := V.n3
  obtain ⟨a1, a2⟩ := ha
  have B := C.ba S V h
  simp only [fX10_needScene, if_pos (isT_of S.pl), oR_at S.pl C.1.1.1.2.1, B.1.2.1.2.2.2.1, bsome, iz_lit, iz_sub]
  rw [c_needRange a1 a2 (by decide) (by decide) (by omega) (by omega)]
  by_cases z : 0 ≤ a ∧ a ≤ σ.2.1 3 - 1
  · rw [if_pos z, oT0l]
  · rw [if_neg z, oT0r]
theorem cq_count (S : OKS sh AD) (V : VST σ) (hfu : 5000 ≤ fu) {b : Int} (hb : IR b) : CP AD R P σ (fun I => fX10_count fu sh I R (AD 0) (iz b)) (aCount σ b) := by
  intro I C
  unfold aCount
  obtain ⟨b1, b2⟩ := hb
  by_cases h : σ.1 = true
  · have B := C.ba S V h
    obtain ⟨f0, f1, f2, f3, f4⟩ := B.1.2.1
    rw [if_pos h]
    simp only [fX10_count, if_pos (isT_of S.pl), c_needBoard S C, if_pos h, oT0l, iz_lit]
    rw [c_needRange b1 b2 (by decide) (by decide) (by decide) (by decide)]
    by_cases y : 0 ≤ b ∧ b ≤ 5
    · rw [if_pos y, oT0l, if_pos y]
      simp only [oR_at S.pl C.1.1.1.2.1, f0, f1, f2, f3, f4, c_secs B (V.1 h) hfu, bsome]
      have k : b = 0 ∨ b = 1 ∨ b = 2 ∨ b = 3 ∨ b = 4 ∨ b = 5 := by omega
      rcases k with rfl | rfl | rfl | rfl | rfl | rfl <;> rfl
    · rw [if_neg y, oT0r, if_neg y]
      rfl
  · rw [if_neg h]
    simp only [fX10_count, if_pos (isT_of S.pl), c_needBoard S C, if_neg h, oT0r]
    rfl
theorem cq_scene (S : OKS sh AD) (V : VST σ) (hfu : 5000 ≤ fu) {c b : Int} (hc : IR c) (hb : IR b) : CP AD R P σ (fun I => fX10_scene fu sh I R (AD 0) (iz c) (iz b)) (aScene σ c b) := by
  intro I C
  unfold aScene
  obtain ⟨b1, b2⟩ := hb
  by_cases h : σ.1 = true
  · have n3 := V.n3
    have B := C.ba S V h
    rw [if_pos h]
    simp only [fX10_scene, if_pos (isT_of S.pl), c_needBoard S C, if_pos h, oT0l, c_needScene S C V h hc, iz_lit]
    by_cases z : 0 ≤ c ∧ c ≤ σ.2.1 3 - 1
    · rw [if_pos z, oT0l, c_needRange b1 b2 (by decide) (by decide) (by decide) (by decide)]
      by_cases y : 0 ≤ b ∧ b ≤ 2
      · obtain ⟨⟨q1, q2, q3, q4, -⟩, -⟩ := B.1.2.2.1 c z.1 (by omega)
        rw [if_pos y, oT0l, if_pos (show (0 ≤ c ∧ c ≤ σ.2.1 3 - 1) ∧ (0 ≤ b ∧ b ≤ 2) from ⟨z, y⟩)]
        simp only [oR_at S.pl C.1.1.1.2.1, B.1.1.2.1, q1, q3, q4, c_ns B (V.1 h) hfu z.1 (show c < 3 by omega), bsome]
        have k : b = 0 ∨ b = 1 ∨ b = 2 := by omega
        rcases k with rfl | rfl | rfl <;> rfl
      · rw [if_neg y, oT0r, if_neg (fun k => y k.2)]
        rfl
    · rw [if_neg z, oT0r, if_neg (fun k => z k.1)]
      rfl
  · rw [if_neg h]
    simp only [fX10_scene, if_pos (isT_of S.pl), c_needBoard S C, if_neg h, oT0r]
    rfl
end Q5
