/-! STAGE 2: the class finds the best order of stops, the whole -/
section C9
variable {fu : Nat} {sh : HS} {I : HI} {R : HR} {AD : Int → Nat} {b : Int} {Q n : Nat} {pr : Int → Nat → Int}
theorem c_behind (S : OKS sh AD) (K : RTS sh R AD b Q) (P : PB n pr) (hfu : 5000 ≤ fu) : ∀ m j : Nat, m < 2 ^ n → m < j → ∀ I : HI, PX I AD b Q n pr → I (AD b) 6 = iz (n : Int) → RF I AD b Q n pr m 0 →
    ∃ I', fX5_find_l23 fu sh R j I (AD b) (iz ((2 ^ n - 1 : Nat) : Int)) (iz (m : Int)) = (fX5_followBest fu sh I' R (AD b)).bind (fun w => some w) ∧ RF I' AD b Q n pr 0 0 ∧ FR AD I I' (fun i _ => i = b + 3) := by
  have h12 := K.2.2.2.2
  have b0 := K.2.2.1
  have b1 := K.2.2.2.1
  intro m
  induction m with
  | zero =>
    intro j hm hj I X hz F
    obtain ⟨j, rfl⟩ : ∃ i, j = i + 1 := ⟨j - 1, by omega⟩
    refine ⟨I, ?_, F, FR.rf _ _ _⟩
    show fX5_find_b23 fu sh R (fX5_find_l23 fu sh R j) _ _ _ _ = _
    simp only [fX5_find_b23, iz_lit]
    rw [if_pos (by rw [iz_le (by decide) (by decide) (by decide) (by decide)]; decide)]
  | succ m ih =>
    intro j hm hj I X hz F
    obtain ⟨j, rfl⟩ : ∃ i, j = i + 1 := ⟨j - 1, by omega⟩
    have hq := X.2.1
    have p2 : 2 ^ n ≤ 4096 := pw2 (Q := 12) (by omega)
    obtain ⟨J, e, F1, fr⟩ := c_latest (fu := fu) S K P hfu hm (fX5_find_b84 fu sh R (fX5_find_l23 fu sh R j)) n fu 0 (by omega) (by omega) I X hz F
    have XJ := X.fr fr (by omega) (by omega) (by omega) (fun _ => by omega) (fun _ => by omega)
    have zJ : J (AD b) 6 = iz (n : Int) := (fr b (by omega) (by omega) 6 (by omega)).trans hz
    have FJ : RF J AD b Q n pr m 0 := fun m' l' g1 g2 g3 g4 => F1 m' l' g1 g2 g3 (by rcases g4 with g4 | g4 <;> omega)
    obtain ⟨I', e2, F', fr2⟩ := ih j (by omega) (by omega) J XJ zJ FJ
    refine ⟨I', ?_, F', fr.tr fr2⟩
    rw [← e2]
    show fX5_find_b23 fu sh R (fX5_find_l23 fu sh R j) _ _ _ _ = _
    simp only [fX5_find_b23, iz_lit]
    rw [if_neg (by rw [iz_le (by omega) (by omega) (by omega) (by omega)]; omega)]
    refine e.trans ?_
    simp only [fX5_find_b84, iz_lit, iz_neg, iz_add]
    rw [show ((m + 1 : Nat) : Int) + -1 = (m : Int) by omega]
theorem c_next_loop (K : RTS sh R AD b Q) (X : PX I AD b Q n pr) (P : PB n pr) (hz : I (AD b) 6 = iz (n : Int)) {m : Nat} {l : Int} (hm : m < 2 ^ n) (h0 : -1 ≤ l) (hl : l < n) (F : RF I AD b Q n pr 0 0) : ∀ d j k : Nat, k + d = n → d < j →
    fX5_bestNext_l9 fu sh I R j (AD b) (iz (m : Int)) (iz l) (iz ((cl (nxS n pr m l) m k).1 : Int)) (iz (cl (nxS n pr m l) m k).2) (iz (k : Int)) = some (iz ((cl (nxS n pr m l) m n).1 : Int)) := by
  have hq := X.2.1
  have h12 := K.2.2.2.2
  have p2 : 2 ^ n ≤ 4096 := pw2 (Q := 12) (by omega)
  intro d
  induction d with
  | zero =>
    intro j k hk hj
    obtain ⟨j, rfl⟩ : ∃ i, j = i + 1 := ⟨j - 1, by omega⟩
    have e : k = n := by omega
    subst e
    show fX5_bestNext_b9 fu sh I R (fX5_bestNext_l9 fu sh I R j) _ _ _ _ _ _ = _
    simp only [fX5_bestNext_b9, oI_at K.1.1, hz, bsome]
    rw [if_pos (by rw [iz_le (by omega) (by omega) (by omega) (by omega)]; omega)]
  | succ d ih =>
    intro j k hk hj
    obtain ⟨j, rfl⟩ : ∃ i, j = i + 1 := ⟨j - 1, by omega⟩
    have q := ih j (k + 1) (by omega) (by omega)
    have ek : iz (k : Int) + iz 1 = iz ((k + 1 : Nat) : Int) := by rw [iz_add]; rfl
    have hz2 : ¬ iz (n : Int) ≤ iz (k : Int) := by rw [iz_le (by omega) (by omega) (by omega) (by omega)]; omega
    have ol := or_lt hm (show k < n by omega)
    have g := nx_range P (by omega) hm h0 hl (show k < n by omega)
    have c1 := cl_le (nxS n pr m l) m k
    have c0 := cl_nn (g := nxS n pr m l) (m := m) k (fun t ht _ => (nx_range P (by omega) hm h0 hl (show t < n by omega)).1)
    show fX5_bestNext_b9 fu sh I R (fX5_bestNext_l9 fu sh I R j) _ _ _ _ _ _ = _
    simp only [fX5_bestNext_b9, fX5_bestNext_b73, oI_at K.1.1, hz, bsome, if_neg hz2, iz_lit, c_holds (show m < 2147483648 by omega) (show k < 32 by omega), bz_zero]
    have e : cl (nxS n pr m l) m (k + 1) = if m.testBit k = true then cl (nxS n pr m l) m k else if nxS n pr m l k < (cl (nxS n pr m l) m k).2 then (k, nxS n pr m l k) else cl (nxS n pr m l) m k := rfl
    rw [e] at q
    cases hb : m.testBit k
    · have og := or_gt hb
      have fr := F (m ||| 2 ^ k) k ol (by omega) (by rw [or_bit, decide_eq_true rfl, Bool.or_true]) (Or.inl (by omega))
      rw [hb, if_neg (show ¬ false = true by decide)] at q
      rw [if_pos rfl]
      simp only [c_price K X h0 hl (show k < n by omega), oR_at K.1.1 K.2.1.2.2.1, X.1, bsome, iz_shlz (show k < 31 by omega), iz_orN, c_rest_at K hq ol (show k < n by omega), fr]
      rw [iz_add (pr l k), show pr l k + RS n pr (m ||| 2 ^ k) k = nxS n pr m l k from rfl, ek]
      by_cases z : nxS n pr m l k < (cl (nxS n pr m l) m k).2
      · rw [if_neg (by rw [iz_le (by omega) (by omega) (by omega) (by omega)]; omega)]
        rw [if_pos z] at q
        exact q
      · rw [if_pos (by rw [iz_le (by omega) (by omega) (by omega) (by omega)]; omega)]
        rw [if_neg z] at q
        exact q
    · rw [hb, if_pos rfl] at q
      rw [if_neg (show ¬ true = false by decide), ek]
      exact q
theorem c_next (K : RTS sh R AD b Q) (X : PX I AD b Q n pr) (P : PB n pr) (hz : I (AD b) 6 = iz (n : Int)) (hfu : 5000 ≤ fu) {m : Nat} {l : Int} (hm : m < 2 ^ n) (h0 : -1 ≤ l) (hl : l < n) (F : RF I AD b Q n pr 0 0) : fX5_bestNext fu sh I R (AD b) (iz (m : Int)) (iz l) = some (iz ((cl (nxS n pr m l) m n).1 : Int)) := by
  have hq := X.2.1
  have h12 := K.2.2.2.2
  have q := c_next_loop (fu := fu) K X P hz hm h0 hl F n fu 0 (by omega) (by omega)
  simp only [fX5_bestNext, if_pos (isT_of K.1.1), iz_lit]
  exact q
/-- what the search for the best order writes -/
def WR (b : Int) (i : Int) (k : Nat) : Prop := i = b + 3 ∨ i = b + 4 ∨ (i = b ∧ (k = 5 ∨ k = 6))
theorem c_follow (S : OKS sh AD) (K : RTS sh R AD b Q) (P : PB n pr) (hfu : 5000 ≤ fu) : ∀ d j i : Nat, i + d = n → d < j → ∀ I : HI, PX I AD b Q n pr → I (AD b) 6 = iz (n : Int) → RF I AD b Q n pr 0 0 → I (AD b) 5 = iz (paD n pr i) → AR I AD (b + 4) i (fun k => (orS n pr k : Int)) →
    ∃ I', fX5_followBest_l11 fu sh R j I (AD b) (iz ((pwS n pr i).1 : Int)) (iz (pwS n pr i).2) (iz (i : Int)) = some I' ∧ I' (AD b) 5 = iz (paD n pr n) ∧ AR I' AD (b + 4) n (fun k => (orS n pr k : Int)) ∧ FR AD I I' (fun i k => i = b + 4 ∨ (i = b ∧ k = 5)) := by
  have h12 := K.2.2.2.2
  have b0 := K.2.2.1
  have b1 := K.2.2.2.1
  intro d
  induction d with
  | zero =>
    intro j i hi hj I X hz F h5 A
    obtain ⟨j, rfl⟩ : ∃ t, j = t + 1 := ⟨j - 1, by omega⟩
    have e : i = n := by omega
    subst e
    have hq := X.2.1
    refine ⟨I, ?_, h5, A, FR.rf _ _ _⟩
    show fX5_followBest_b11 fu sh R (fX5_followBest_l11 fu sh R j) _ _ _ _ _ = _
    simp only [fX5_followBest_b11, oI_at K.1.1, hz, bsome]
    rw [if_pos (by rw [iz_le (by omega) (by omega) (by omega) (by omega)]; omega)]
  | succ d ih =>
    intro j i hi hj I X hz F h5 A
    obtain ⟨j, rfl⟩ : ∃ t, j = t + 1 := ⟨j - 1, by omega⟩
    have hq := X.2.1
    have p2 : 2 ^ n ≤ 4096 := pw2 (Q := 12) (by omega)
    obtain ⟨a1, a2, a3, a4⟩ := pw_ok P (by omega) i (by omega)
    have oi := (or_at P (by omega) (show i < n by omega)).1
    have ek : iz (i : Int) + iz 1 = iz ((i + 1 : Nat) : Int) := by rw [iz_add]; rfl
    have hz2 : ¬ iz (n : Int) ≤ iz (i : Int) := by rw [iz_le (by omega) (by omega) (by omega) (by omega)]; omega
    have nx : fX5_bestNext fu sh I R (AD b) (iz ((pwS n pr i).1 : Int)) (iz (pwS n pr i).2) = some (iz (orS n pr i : Int)) := c_next K X P hz hfu a1 a3 a4 F
    obtain ⟨J1, hJ1⟩ : ∃ J, J = _root_.Jvm.Pilot.@@N@@.u2 I (AD b) 5 (iz (paD n pr (i + 1))) := ⟨_, rfl⟩
    have fr1 : FR AD I J1 (fun i k => i = b + 4 ∨ (i = b ∧ k = 5)) := by
      rw [hJ1]
      exact FR.u2 S (by omega) (by omega) (Or.inr ⟨rfl, rfl⟩) (FR.rf AD I _)
    obtain ⟨J, hJ⟩ : ∃ J, J = _root_.Jvm.Pilot.@@N@@.u2 J1 (AD (b + 4)) i (iz (orS n pr i : Int)) := ⟨_, rfl⟩
    have fr : FR AD I J (fun i k => i = b + 4 ∨ (i = b ∧ k = 5)) := by
      rw [hJ]
      exact FR.u2 S (by omega) (by omega) (Or.inl rfl) fr1
    have XJ := X.fr fr (by omega) (by omega) (by omega) (fun _ => by omega) (fun _ => by omega)
    have zJ : J (AD b) 6 = iz (n : Int) := (fr b (by omega) (by omega) 6 (by omega)).trans hz
    have FJ := F.fr fr (by omega) (by omega) (fun _ => by omega)
    have h5J : J (AD b) 5 = iz (paD n pr (i + 1)) := by
      rw [hJ, u2_ne S (by omega) (by omega) (by omega) (by omega) (by omega), hJ1, u2_ad S (by omega) (by omega) (by omega) (by omega), if_pos ⟨rfl, rfl⟩]
    have A1 : AR J1 AD (b + 4) i (fun k => (orS n pr k : Int)) := by
      rw [hJ1]
      exact A.off S (by omega) (by omega) (by omega) (by omega) (by omega) _ _
    have AJ : AR J AD (b + 4) (i + 1) (fun k => (orS n pr k : Int)) := by
      intro t ht
      rw [hJ]
      have q := AR.put S (by omega) (by omega) A1 (orS n pr i : Int) (n' := i + 1) (j := i) (fun t _ _ => by omega)
      rw [q t ht]
      unfold up
      by_cases z : t = i
      · rw [if_pos z, z]
      · rw [if_neg z]
    obtain ⟨I', e, h1, h2, h3⟩ := ih j (i + 1) (by omega) (by omega) J XJ zJ FJ h5J AJ
    refine ⟨I', ?_, h1, h2, fr.tr h3⟩
    rw [← e, pw_s]
    show fX5_followBest_b11 fu sh R (fX5_followBest_l11 fu sh R j) _ _ _ _ _ = _
    have ep : paD n pr (i + 1) = paD n pr i + pr (pwS n pr i).2 (orS n pr i) := rfl
    simp only [fX5_followBest_b11, oI_at K.1.1, hz, bsome, if_neg hz2, nx, h5, c_price K X a3 a4 oi, iz_add, oP_at K.1.1, oR_at K.1.1 K.2.1.2.2.2]
    rw [← ep, ← hJ1, oS_nat K.1.2.2.2.2 (show i < Q by omega) (by omega), bsome, ← hJ]
    simp only [iz_lit, iz_shlz (show orS n pr i < 31 by omega), iz_orN, ek]
theorem c_find (S : OKS sh AD) (K : RTS sh R AD b Q) (P : PB n pr) (hfu : 5000 ≤ fu) (X : PX I AD b Q n pr) :
    ∃ I', fX5_find fu sh I R (AD b) (iz (n : Int)) = some I' ∧ I' (AD b) 5 = iz (bcD n pr) ∧ AR I' AD (b + 4) n (fun k => (orS n pr k : Int)) ∧ FR AD I I' (WR b) := by
  have h12 := K.2.2.2.2
  have b0 := K.2.2.1
  have b1 := K.2.2.2.1
  have hq := X.2.1
  have p2 : 2 ^ n ≤ 4096 := pw2 (Q := 12) (by omega)
  have p0 := Nat.pow_pos (a := 2) (n := n) (by decide)
  obtain ⟨J, hJ⟩ : ∃ J, J = _root_.Jvm.Pilot.@@N@@.u2 I (AD b) 6 (iz (n : Int)) := ⟨_, rfl⟩
  have fr : FR AD I J (WR b) := by
    rw [hJ]
    exact FR.u2 S (by omega) (by omega) (Or.inr (Or.inr ⟨rfl, Or.inr rfl⟩)) (FR.rf AD I _)
  have XJ := X.fr fr (by omega) (by omega) (by unfold WR; omega) (fun _ => by unfold WR; omega) (fun _ => by unfold WR; omega)
  have zJ : J (AD b) 6 = iz (n : Int) := by rw [hJ, u2_ad S (by omega) (by omega) (by omega) (by omega), if_pos ⟨rfl, rfl⟩]
  have FJ : RF J AD b Q n pr (2 ^ n - 1) 0 := fun m' l' g1 g2 g3 g4 => by omega
  obtain ⟨J2, e2, F2, fr2⟩ := c_behind (fu := fu) S K P hfu (2 ^ n - 1) fu (by omega) (by omega) J XJ zJ FJ
  have fr2' : FR AD J J2 (WR b) := fr2.wd (fun i k z => Or.inl z)
  have X2 := XJ.fr fr2 (by omega) (by omega) (by omega) (fun _ => by omega) (fun _ => by omega)
  have z2 : J2 (AD b) 6 = iz (n : Int) := (fr2 b (by omega) (by omega) 6 (by omega)).trans zJ
  obtain ⟨J3, hJ3⟩ : ∃ J, J = _root_.Jvm.Pilot.@@N@@.u2 J2 (AD b) 5 (iz 0) := ⟨_, rfl⟩
  have fr3 : FR AD J2 J3 (fun i k => i = b ∧ k = 5) := by
    rw [hJ3]
    exact FR.u2 S (by omega) (by omega) ⟨rfl, rfl⟩ (FR.rf AD J2 _)
  have X3 := X2.fr fr3 (by omega) (by omega) (by omega) (fun _ => by omega) (fun _ => by omega)
  have z3 : J3 (AD b) 6 = iz (n : Int) := (fr3 b (by omega) (by omega) 6 (by omega)).trans z2
  have F3 := F2.fr fr3 (by omega) (by omega) (fun _ => by omega)
  have h5 : J3 (AD b) 5 = iz (paD n pr 0) := by rw [hJ3, u2_ad S (by omega) (by omega) (by omega) (by omega), if_pos ⟨rfl, rfl⟩]; rfl
  obtain ⟨I', e4, h4, A4, fr4⟩ := c_follow (fu := fu) S K P hfu n fu 0 (by omega) (by omega) J3 X3 z3 F3 h5 (fun j hj => by omega)
  refine ⟨I', ?_, by rw [h4, pa_n P (by omega)], A4, ((fr.tr fr2').tr (fr3.wd (fun i k z => Or.inr (Or.inr ⟨z.1, Or.inl z.2⟩)))).tr (fr4.wd (fun i k z => by rcases z with z | z; exact Or.inr (Or.inl z); exact Or.inr (Or.inr ⟨z.1, Or.inl z.2⟩)))⟩
  have em : iMin (iz (n : Int)) (iz (Q : Int)) = iz (n : Int) := by
    rw [iMin_iz (by omega) (by omega) (by omega) (by omega), Int.min_eq_left (by omega)]
  have ea : iz ((2 ^ n : Nat) : Int) - iz 1 = iz ((2 ^ n - 1 : Nat) : Int) := by
    rw [iz_sub]
    congr 1
    omega
  simp only [fX5_find, if_pos (isT_of K.1.1), oI_at K.1.1, X.1, bsome, em, oP_at K.1.1, iz_lit]
  rw [← hJ]
  simp only [zJ, bsome, iz_shlz (show n < 31 by omega), ea]
  rw [e2]
  simp only [fX5_followBest, if_pos (isT_of K.1.1), oP_at K.1.1, bsome, iz_lit, iz_neg]
  rw [← hJ3]
  have e5 : fX5_followBest_l11 fu sh R fu J3 (AD b) (iz 0) (iz (-1)) (iz 0) = some I' := e4
  rw [e5, bsome]
theorem c_setStart (K : RTS sh R AD b Q) {k : Nat} (hk : k < Q) (x : Int32) : fX5_setStart fu sh I R (AD b) (iz (k : Int)) x = some (u2 I (AD (b + 1)) k x) := by
  have h12 := K.2.2.2.2
  simp only [fX5_setStart, if_pos (isT_of K.1.1), oR_at K.1.1 K.2.1.1, bsome, oS_nat K.1.2.1 hk (show Q ≤ 100000 by omega)]
theorem c_setStep (K : RTS sh R AD b Q) (h : I (AD b) 0 = iz (Q : Int)) {l k : Nat} (hl : l < Q) (hk : k < Q) (x : Int32) : fX5_setStep fu sh I R (AD b) (iz (l : Int)) (iz (k : Int)) x = some (u2 I (AD (b + 2)) (l * Q + k) x) := by
  have q := QQ_le K.2.2.2.2
  simp only [fX5_setStep, if_pos (isT_of K.1.1), oR_at K.1.1 K.2.1.2.1, oI_at K.1.1, h, bsome, ix_iz, oS_nat K.1.2.2.1 (ix_lt hl hk) (show Q * Q ≤ 100000 by omega)]
end C9
