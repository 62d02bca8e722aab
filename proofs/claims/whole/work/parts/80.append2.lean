/-! STAGE 2: append of the reference -/
section Q15
variable {fu : Nat} {sh : HS} {I I' : HI} {R : HR} {AD : Int → Nat} {P : Int → Int → Int} {σ : STT}
theorem r_put_loop (S : OKS sh AD) (M : MR R AD) {n : Nat} (hn : n + 4 ≤ 800) {f : Nat → Int} (x : Int32) : ∀ d j i : Nat, i + d = 4 → d < j → ∀ I : HI, I (AD 316) 7 = iz ((n + i : Nat) : Int) → AR I AD 320 (n + i) (apT f n x) →
    ∃ I', fX11_put_l3 fu sh R j I (AD 316) x (iz (24 - 8 * (i : Int))) = some I' ∧ I' (AD 316) 7 = iz ((n + 4 : Nat) : Int) ∧ AR I' AD 320 (n + 4) (apT f n x) ∧ FR AD I I' (fun i k => i = 320 ∨ (i = 316 ∧ k = 7)) := by
  intro d
  induction d with
  | zero =>
    intro j i hi hj I e1 A
    obtain ⟨j, rfl⟩ : ∃ t, j = t + 1 := ⟨j - 1, by omega⟩
    have e : i = 4 := by omega
    subst e
    refine ⟨I, ?_, e1, A, FR.rf _ _ _⟩
    show fX11_put_b3 fu sh R (fX11_put_l3 fu sh R j) _ _ _ _ = _
    simp only [fX11_put_b3, iz_lit]
    rw [if_pos (by rw [iz_lt (by omega) (by omega) (by decide) (by decide)]; omega)]
  | succ d ih =>
    intro j i hi hj I e1 A
    obtain ⟨j, rfl⟩ : ∃ t, j = t + 1 := ⟨j - 1, by omega⟩
    obtain ⟨J1, hJ1⟩ : ∃ J, J = _root_.Jvm.Pilot.@@N@@.u2 I (AD 320) (n + i) (iz (byV x i)) := ⟨_, rfl⟩
    obtain ⟨J, hJ⟩ : ∃ J, J = _root_.Jvm.Pilot.@@N@@.u2 J1 (AD 316) 7 (iz ((n + (i + 1) : Nat) : Int)) := ⟨_, rfl⟩
    have F1 : FR AD I J1 (fun i k => i = 320 ∨ (i = 316 ∧ k = 7)) := by rw [hJ1]; exact FR.u2 S (by decide) (by decide) (Or.inl rfl) (FR.rf AD I _)
    have F : FR AD I J (fun i k => i = 320 ∨ (i = 316 ∧ k = 7)) := by rw [hJ]; exact FR.u2 S (by decide) (by decide) (Or.inr ⟨rfl, rfl⟩) F1
    have e2 : J (AD 316) 7 = iz ((n + (i + 1) : Nat) : Int) := by rw [hJ, u2_ad S (by decide) (by decide) (by decide) (by decide), if_pos ⟨rfl, rfl⟩]
    have A2 : AR J AD 320 (n + (i + 1)) (apT f n x) := by
      intro t ht
      rw [hJ, u2_ne S (by decide) (by decide) (by decide) (by decide) (by decide), hJ1, u2_ad S (by decide) (by decide) (by decide) (by decide)]
      by_cases z : t = n + i
      · rw [if_pos ⟨rfl, z⟩, z]
        unfold apT
        rw [if_pos (by omega), show n + i - n = i by omega]
      · rw [if_neg (fun q => z q.2)]
        exact A t (by omega)
    obtain ⟨I', e, g1, g2, g3⟩ := ih j (i + 1) (by omega) (by omega) J e2 A2
    refine ⟨I', ?_, g1, g2, F.tr g3⟩
    rw [← e]
    have e3 : J1 (AD 316) 7 = iz ((n + i : Nat) : Int) := by rw [hJ1, u2_ne S (by decide) (by decide) (by decide) (by decide) (by decide)]; exact e1
    have b := byV_r x i
    have es : iz (24 - 8 * (i : Int)) + iz (-8) = iz (24 - 8 * ((i + 1 : Nat) : Int)) := by rw [iz_add]; congr 1; omega
    have en : iz ((n + i : Nat) : Int) + iz 1 = iz ((n + (i + 1) : Nat) : Int) := by rw [iz_add]; rfl
    show fX11_put_b3 fu sh R (fX11_put_l3 fu sh R j) _ _ _ _ = _
    simp only [fX11_put_b3, iz_lit, iz_neg, oI_at S.md, e1, bsome, oR_at S.md M.1.2.2.2.1, oP_at S.md, b]
    rw [if_neg (by rw [iz_lt (by omega) (by omega) (by decide) (by decide)]; omega), oS_nat (S.at (i := 320) (t := 20) (n := 800) rfl (by decide) (by decide)) (show n + i < 800 by omega) (by decide), bsome, ← hJ1, e3, en, ← hJ, es]
theorem r_put (S : OKS sh AD) (M : MR R AD) (hfu : 5000 ≤ fu) {n : Nat} (hn : n + 4 ≤ 800) {f : Nat → Int} (x : Int32) (e1 : I (AD 316) 7 = iz (n : Int)) (A : AR I AD 320 n f) :
    ∃ I', fX11_put fu sh I R (AD 316) x = some I' ∧ I' (AD 316) 7 = iz ((n + 4 : Nat) : Int) ∧ AR I' AD 320 (n + 4) (apT f n x) ∧ FR AD I I' (fun i k => i = 320 ∨ (i = 316 ∧ k = 7)) := by
  obtain ⟨I', e, g⟩ := r_put_loop (fu := fu) S M hn (f := f) x 4 fu 0 (by omega) (by omega) I e1 (fun t ht => by
    rw [A t ht]
    unfold apT
    rw [if_neg (by omega)])
  refine ⟨I', ?_, g⟩
  simp only [fX11_put, if_pos (isT_of S.md), iz_lit]
  exact e
theorem ra_append (S : OKS sh AD) (V : VST σ) (hfu : 5000 ≤ fu) (a b c d e : Int32) : RA AD R σ (sAppend σ a b c d e) (fun I => fX11_append fu sh I R (AD 316) a b c d e) (aAppend σ) := by
  intro I H
  have tl := V.2.2.2.2.1
  have e7 : I (AD 316) 7 = iz (σ.2.2.2.1 : Int) := H.2.2.1.2.2.1
  have u5 : ∀ (J : HI) (v : Int32), u2 J (AD 316) 5 v (AD 316) 5 = v := fun J v => by rw [u2_ad S (by decide) (by decide) (by decide) (by decide), if_pos ⟨rfl, rfl⟩]
  unfold sAppend aAppend
  by_cases z : σ.2.2.2.1 + 20 ≤ 800
  · obtain ⟨H1, f0, e5⟩ := H.w5 S (iz ((0 : Nat) : Int))
    obtain ⟨I1, q1, x1, y1, f1⟩ := r_put (fu := fu) S H.1 hfu (by omega) a H1.2.2.1.2.2.1 H1.2.2.2.1
    obtain ⟨I2, q2, x2, y2, f2⟩ := r_put (fu := fu) S H.1 hfu (by omega) b x1 y1
    obtain ⟨I3, q3, x3, y3, f3⟩ := r_put (fu := fu) S H.1 hfu (by omega) c x2 y2
    obtain ⟨I4, q4, x4, y4, f4⟩ := r_put (fu := fu) S H.1 hfu (by omega) d x3 y3
    obtain ⟨I5, q5, x5, y5, f5⟩ := r_put (fu := fu) S H.1 hfu (by omega) e x4 y4
    have F := (((f1.tr f2).tr f3).tr f4).tr f5
    have F' : FR AD I I5 (fun i k => i = 320 ∨ (i = 316 ∧ (k = 5 ∨ k = 7))) := (f0.wd (fun i k z => by omega)).tr (F.wd (fun i k z => by omega))
    rw [if_pos z, if_pos z]
    refine ⟨I5, ?_, (F 316 (by decide) (by decide) 5 (by omega)).trans e5, H.tx F' x5 y5, F'.wd (fun i k z => by omega)⟩
    simp only [fX11_append, fX11_append_b19, if_pos (isT_of S.md), oI_at S.md, e7, bsome, oP_at S.md, iz_lit, iz_add, u5]
    rw [if_pos (by rw [iz_le (by omega) (by omega) (by decide) (by decide)]; omega), if_pos (by rw [iz_le (by decide) (by decide) (by decide) (by decide)]; decide), show (iz 0 : Int32) = iz ((0 : Nat) : Int) from rfl]
    simp only [q1, q2, q3, q4, q5, bsome, x5]
    rfl
  · obtain ⟨H1, e5, f1⟩ := r_out (σ := σ) S H 1
    rw [if_neg z, if_neg z]
    refine ⟨_, ?_, e5, H1, f1⟩
    simp only [fX11_append, fX11_append_b19, if_pos (isT_of S.md), oI_at S.md, e7, bsome, oP_at S.md, iz_lit, iz_add, u5]
    rw [if_neg (by rw [iz_le (by omega) (by omega) (by decide) (by decide)]; omega), if_neg (by rw [iz_le (by decide) (by decide) (by decide) (by decide)]; decide)]
    rfl
end Q15
