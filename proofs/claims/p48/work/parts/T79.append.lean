/-! STAGE 2: append, on both sides -/
def apT (f : Nat → Int) (n : Nat) (x : Int32) : Nat → Int := fun k => if n ≤ k ∧ k < n + 4 then byV x (k - n) else f k
def ap5 (f : Nat → Int) (n : Nat) (a b c d e : Int32) : Nat → Int := apT (apT (apT (apT (apT f n a) (n + 4) b) (n + 8) c) (n + 12) d) (n + 16) e
section Q14
variable {fu : Nat} {sh : HS} {I I' : HI} {R : HR} {AD : Int → Nat} {P : Int → Int → Int} {σ : STT}
theorem c_put_loop (S : OKS sh AD) (L : PLR R AD) {n : Nat} (hn : n + 4 ≤ 800) {f : Nat → Int} (x : Int32) (k49 : HI → Option HI) : ∀ d j i : Nat, i + d = 4 → d < j → ∀ I : HI, I (AD 0) 1 = iz ((n + i : Nat) : Int) → AR I AD 1 (n + i) (apT f n x) →
    ∃ I', fX10_putFourBytes_l3 fu sh R k49 j I (AD 0) x (iz (24 - 8 * (i : Int))) = k49 I' ∧ I' (AD 0) 1 = iz ((n + 4 : Nat) : Int) ∧ AR I' AD 1 (n + 4) (apT f n x) ∧ FR AD I I' (fun i k => i = 1 ∨ (i = 0 ∧ k = 1)) := by
  intro d
  induction d with
  | zero =>
    intro j i hi hj I e1 A
    obtain ⟨j, rfl⟩ : ∃ t, j = t + 1 := ⟨j - 1, by omega⟩
    have e : i = 4 := by omega
    subst e
    refine ⟨I, ?_, e1, A, FR.rf _ _ _⟩
    show fX10_putFourBytes_b3 fu sh R (fX10_putFourBytes_l3 fu sh R k49 j) k49 _ _ _ _ = _
    simp only [fX10_putFourBytes_b3, iz_lit]
    rw [if_pos (by rw [iz_lt (by omega) (by omega) (by decide) (by decide)]; omega)]
  | succ d ih =>
    intro j i hi hj I e1 A
    obtain ⟨j, rfl⟩ : ∃ t, j = t + 1 := ⟨j - 1, by omega⟩
    obtain ⟨J1, hJ1⟩ : ∃ J, J = _root_.Jvm.Pilot.@@N@@.u2 I (AD 1) (n + i) (iz (byV x i)) := ⟨_, rfl⟩
    obtain ⟨J, hJ⟩ : ∃ J, J = _root_.Jvm.Pilot.@@N@@.u2 J1 (AD 0) 1 (iz ((n + (i + 1) : Nat) : Int)) := ⟨_, rfl⟩
    have F1 : FR AD I J1 (fun i k => i = 1 ∨ (i = 0 ∧ k = 1)) := by rw [hJ1]; exact FR.u2 S (by decide) (by decide) (Or.inl rfl) (FR.rf AD I _)
    have F : FR AD I J (fun i k => i = 1 ∨ (i = 0 ∧ k = 1)) := by rw [hJ]; exact FR.u2 S (by decide) (by decide) (Or.inr ⟨rfl, rfl⟩) F1
    have e2 : J (AD 0) 1 = iz ((n + (i + 1) : Nat) : Int) := by rw [hJ, u2_ad S (by decide) (by decide) (by decide) (by decide), if_pos ⟨rfl, rfl⟩]
    have A2 : AR J AD 1 (n + (i + 1)) (apT f n x) := by
      intro t ht
      rw [hJ, u2_ne S (by decide) (by decide) (by decide) (by decide) (by decide), hJ1, u2_ad S (by decide) (by decide) (by decide) (by decide)]
      by_cases z : t = n + i
      · rw [if_pos ⟨rfl, z⟩, z]
        unfold apT
        rw [if_pos (by omega), show n + i - n = i by omega]
      · rw [if_neg (fun q => z q.2)]
        exact A t (by omega)
    obtain ⟨I', e, g1, g2, g3⟩ := ih j (i + 1) (by omega) (by omega) J e2 A2
    refine ⟨I', ?_, g1, g2, F.tr g3⟩
    rw [← e]
    have e3 : J1 (AD 0) 1 = iz ((n + i : Nat) : Int) := by rw [hJ1, u2_ne S (by decide) (by decide) (by decide) (by decide) (by decide)]; exact e1
    have b := byV_c x (show i < 4 by omega)
    have es : iz (24 - 8 * (i : Int)) + iz (-8) = iz (24 - 8 * ((i + 1 : Nat) : Int)) := by rw [iz_add]; congr 1; omega
    have en : iz ((n + i : Nat) : Int) + iz 1 = iz ((n + (i + 1) : Nat) : Int) := by rw [iz_add]; rfl
    show fX10_putFourBytes_b3 fu sh R (fX10_putFourBytes_l3 fu sh R k49 j) k49 _ _ _ _ = _
    simp only [fX10_putFourBytes_b3, iz_lit, iz_neg, oI_at S.pl, e1, bsome, oR_at S.pl L.1.1, oP_at S.pl, b]
    rw [if_neg (by rw [iz_lt (by omega) (by omega) (by decide) (by decide)]; omega), if_neg (by rw [iz_le (by decide) (by decide) (by omega) (by omega)]; omega), oS_nat (S.at (i := 1) (t := 20) (n := 800) rfl (by decide) (by decide)) (show n + i < 800 by omega) (by decide), bsome, ← hJ1, e3, en, ← hJ, es]
theorem c_put (S : OKS sh AD) (L : PLR R AD) (hfu : 5000 ≤ fu) {n : Nat} (hn : n + 4 ≤ 800) {f : Nat → Int} (x : Int32) (e1 : I (AD 0) 1 = iz (n : Int)) (A : AR I AD 1 n f) :
    ∃ I', fX10_putFourBytes fu sh I R (AD 0) x = some I' ∧ I' (AD 0) 1 = iz ((n + 4 : Nat) : Int) ∧ AR I' AD 1 (n + 4) (apT f n x) ∧ FR AD I I' (fun i k => i = 1 ∨ (i = 0 ∧ k = 1)) := by
  obtain ⟨I', e, g⟩ := c_put_loop (fu := fu) S L hn (f := f) x (fX10_putFourBytes_b49 fu sh R) 4 fu 0 (by omega) (by omega) I e1 (fun t ht => by
    rw [A t ht]
    unfold apT
    rw [if_neg (by omega)])
  refine ⟨I', ?_, g⟩
  simp only [fX10_putFourBytes, if_pos (isT_of S.pl), iz_lit]
  exact e
def sAppend (σ : STT) (a b c d e : Int32) : STT := if σ.2.2.2.1 + 20 ≤ 800 then setT σ (σ.2.2.2.1 + 20) (ap5 σ.2.2.2.2.1 σ.2.2.2.1 a b c d e) else σ
def aAppend (σ : STT) : Int ⊕ Nat := if σ.2.2.2.1 + 20 ≤ 800 then .inl ((σ.2.2.2.1 + 20 : Nat) : Int) else .inr 1
theorem ca_append (S : OKS sh AD) (V : VST σ) (hfu : 5000 ≤ fu) (a b c d e : Int32) : CA AD R P σ (sAppend σ a b c d e) (fun I => fX10_append fu sh I R (AD 0) a b c d e) (aAppend σ) := by
  intro I C K
  have tl := V.2.2.2.2.1
  have e1 : I (AD 0) 1 = iz (σ.2.2.2.1 : Int) := C.2.2.1.1
  unfold sAppend aAppend
  by_cases z : σ.2.2.2.1 + 20 ≤ 800
  · obtain ⟨I1, q1, x1, y1, f1⟩ := c_put (fu := fu) S C.1.1 hfu (by omega) a e1 C.2.2.2.1
    obtain ⟨I2, q2, x2, y2, f2⟩ := c_put (fu := fu) S C.1.1 hfu (by omega) b x1 y1
    obtain ⟨I3, q3, x3, y3, f3⟩ := c_put (fu := fu) S C.1.1 hfu (by omega) c x2 y2
    obtain ⟨I4, q4, x4, y4, f4⟩ := c_put (fu := fu) S C.1.1 hfu (by omega) d x3 y3
    obtain ⟨I5, q5, x5, y5, f5⟩ := c_put (fu := fu) S C.1.1 hfu (by omega) e x4 y4
    have F := (((f1.tr f2).tr f3).tr f4).tr f5
    rw [if_pos z, if_pos z]
    refine ⟨I5, ?_, C.tx V F x5 y5, K.fr2 F (by omega) (by omega) (by omega) (fun _ _ _ _ => by omega) (fun _ => by omega), F.wd (fun i k z => by omega)⟩
    simp only [fX10_append, if_pos (isT_of S.pl), oI_at S.pl, e1, bsome, iz_lit, iz_add]
    rw [if_pos (by rw [iz_le (by omega) (by omega) (by decide) (by decide)]; omega)]
    simp only [q1, q2, q3, q4, q5, bsome, x5]
    rfl
  · rw [if_neg z, if_neg z]
    refine ⟨I, ?_, C, K, FR.rf _ _ _⟩
    simp only [fX10_append, if_pos (isT_of S.pl), oI_at S.pl, e1, bsome, iz_lit, iz_add]
    rw [if_neg (by rw [iz_le (by omega) (by omega) (by decide) (by decide)]; omega)]
    rfl
end Q14
