/-! STAGE 2: the reference's past -/
def PHI (I : HI) (AD : Int → Nat) (hs : List RHO) : Prop := ∀ (t : Nat) (h : RHO), hs[t]? = some h → ∀ j : Nat, j < 119 → I (AD 319) (119 * (hs.length - 1 - t) + j) = iz (h j)
section Q17
variable {fu : Nat} {sh : HS} {I I' : HI} {R : HR} {AD : Int → Nat} {ρ : RHO}
theorem r_shift_loop (S : OKS sh AD) (M : MR R AD) (g : Nat → Int32) (k40 : HI → Nat → Option HI) : ∀ d j k : Nat, k + d = 1190 → 119 ≤ k → d < j → ∀ I : HI, (∀ q : Nat, q < 1190 → I (AD 319) q = if q + 119 < k then g (q + 119) else g q) →
    ∃ I', fX11_remember_l12 fu sh R k40 j I (AD 316) (iz (k : Int)) = k40 I' (AD 316) ∧ (∀ q : Nat, q < 1071 → I' (AD 319) q = g (q + 119)) ∧ FR AD I I' (fun i _ => i = 319) := by
  intro d
  induction d with
  | zero =>
    intro j k hk hk2 hj I A
    obtain ⟨j, rfl⟩ : ∃ t, j = t + 1 := ⟨j - 1, by omega⟩
    have e : k = 1190 := by omega
    subst e
    refine ⟨I, ?_, fun q hq => ?_, FR.rf _ _ _⟩
    · show fX11_remember_b12 fu sh R (fX11_remember_l12 fu sh R k40 j) k40 _ _ _ = _
      simp only [fX11_remember_b12, iz_lit]
      rw [if_pos (by rw [iz_le (by decide) (by decide) (by decide) (by decide)]; decide)]
    · rw [A q (by omega), if_pos (by omega)]
  | succ d ih =>
    intro j k hk hk2 hj I A
    obtain ⟨j, rfl⟩ : ∃ t, j = t + 1 := ⟨j - 1, by omega⟩
    have ek : iz (k : Int) + iz 1 = iz ((k + 1 : Nat) : Int) := by rw [iz_add]; rfl
    have em : iz (k : Int) - iz 119 = iz ((k - 119 : Nat) : Int) := by rw [iz_sub]; congr 1; omega
    have ak : I (AD 319) k = g k := by rw [A k (by omega), if_neg (by omega)]
    obtain ⟨J, hJ⟩ : ∃ J, J = _root_.Jvm.Pilot.@@N@@.u2 I (AD 319) (k - 119) (g k) := ⟨_, rfl⟩
    have F0 : FR AD I J (fun i _ => i = 319) := by rw [hJ]; exact FR.u2 S (by decide) (by decide) rfl (FR.rf AD I _)
    have AJ : ∀ q : Nat, q < 1190 → J (AD 319) q = if q + 119 < k + 1 then g (q + 119) else g q := by
      intro q hq
      rw [hJ, u2_ad S (by decide) (by decide) (by decide) (by decide)]
      by_cases z : q = k - 119
      · rw [if_pos ⟨rfl, z⟩, if_pos (by omega), show q + 119 = k by omega]
      · rw [if_neg (fun w => z w.2), A q hq]
        by_cases w : q + 119 < k
        · rw [if_pos w, if_pos (by omega)]
        · rw [if_neg w, if_neg (by omega)]
    obtain ⟨I', e, g2, g3⟩ := ih j (k + 1) (by omega) (by omega) (by omega) J AJ
    refine ⟨I', ?_, g2, F0.tr g3⟩
    rw [← e]
    have s319 := S.at (i := 319) (t := 20) (n := 1190) rfl (by decide) (by decide)
    show fX11_remember_b12 fu sh R (fX11_remember_l12 fu sh R k40 j) k40 _ _ _ = _
    simp only [fX11_remember_b12, iz_lit, bsome, oR_at S.md M.1.2.2.1, oA_nat s319 (show k < 1190 by omega) (by decide), ak, em, oS_nat s319 (show k - 119 < 1190 by omega) (by decide), ek]
    rw [if_neg (by rw [iz_le (by decide) (by decide) (by omega) (by omega)]; omega), ← hJ]
theorem r_remember (S : OKS sh AD) (M : MR R AD) (H : RW I AD ρ) (hfu : 5000 ≤ fu) {hs : List RHO} (hl : hs.length ≤ 10) (e3 : I (AD 316) 3 = iz (hs.length : Int)) (A : PHI I AD hs) :
    ∃ I', fX11_remember fu sh I R (AD 316) = some I' ∧ I' (AD 316) 3 = iz (((ρ :: hs).take 10).length : Int) ∧ PHI I' AD ((ρ :: hs).take 10) ∧ FR AD I I' (fun i q => i = 319 ∨ (i = 316 ∧ q = 3)) := by
  have ll : ((ρ :: hs).take 10).length = min 10 (hs.length + 1) := by rw [List.length_take, List.length_cons]
  by_cases z : hs.length = 10
  · obtain ⟨J, e1, g1, F1⟩ := r_shift_loop (fu := fu) S M (I (AD 319)) (fX11_remember_b40 fu sh R) 1071 fu 119 (by decide) (by decide) (by omega) I (fun q hq => by rw [if_neg (by omega)])
    obtain ⟨J2, hJ2⟩ : ∃ J2, J2 = _root_.Jvm.Pilot.@@N@@.u2 J (AD 316) 3 (iz ((9 : Nat) : Int)) := ⟨_, rfl⟩
    have F2 : FR AD J J2 (fun i q => i = 316 ∧ q = 3) := by rw [hJ2]; exact FR.u2 S (by decide) (by decide) ⟨rfl, rfl⟩ (FR.rf AD J _)
    have H2 := (H.fr F1 (fun _ => by omega)).fr F2 (fun _ => by omega)
    have e3J : J (AD 316) 3 = iz (hs.length : Int) := (F1 316 (by decide) (by decide) 3 (by omega)).trans e3
    have e32 : J2 (AD 316) 3 = iz ((9 : Nat) : Int) := by rw [hJ2, u2_ad S (by decide) (by decide) (by decide) (by decide), if_pos ⟨rfl, rfl⟩]
    obtain ⟨I', e4, g4, g5, F4⟩ := r_rem_loop (fu := fu) S M (a := 9) (by decide) 119 fu 0 (by decide) (by omega) J2 H2 e32 (fun t ht => by omega)
    refine ⟨I', ?_, by rw [g4, ll, z]; rfl, ?_, ((F1.wd (fun i q w => Or.inl w)).tr (F2.wd (fun i q w => Or.inr w))).tr (F4.wd (fun i q w => by omega))⟩
    · simp only [fX11_remember, if_pos (isT_of S.md), oI_at S.md, e3, bsome, iz_lit]
      rw [if_pos (by rw [z]; rfl)]
      refine e1.trans ?_
      simp only [fX11_remember_b40, fX11_remember_b50, oI_at S.md, e3J, bsome, iz_lit, iz_sub, oP_at S.md, z]
      rw [show ((10 : Nat) : Int) - 1 = ((9 : Nat) : Int) from rfl, ← hJ2]
      exact e4
    · intro t h ht j hj
      rw [ll, z]
      show I' (AD 319) (119 * (10 - 1 - t) + j) = iz (h j)
      have tl : t < 10 := by
        have := (List.getElem?_eq_some_iff.mp ht).1
        rw [ll] at this
        omega
      rw [List.getElem?_take, if_pos tl] at ht
      cases t with
      | zero =>
        have : ρ = h := Option.some.inj ht
        rw [← this]
        exact g5 j hj
      | succ t =>
        have ht2 : hs[t]? = some h := ht
        have q := A t h ht2 j hj
        rw [z] at q
        rw [F4 319 (by decide) (by decide) _ (by omega), F2 319 (by decide) (by decide) _ (by omega), g1 _ (by omega), show 119 * (10 - 1 - (t + 1)) + j + 119 = 119 * (10 - 1 - t) + j by omega]
        exact q
  · obtain ⟨I', e4, g4, g5, F4⟩ := r_rem_loop (fu := fu) S M (a := hs.length) (by omega) 119 fu 0 (by decide) (by omega) I H e3 (fun t ht => by omega)
    refine ⟨I', ?_, by rw [g4, ll, Nat.min_eq_right (by omega)], ?_, F4.wd (fun i q w => by omega)⟩
    · simp only [fX11_remember, if_pos (isT_of S.md), oI_at S.md, e3, bsome, iz_lit]
      rw [if_neg (by rw [iz_eq (by omega) (by omega) (by decide) (by decide)]; omega)]
      exact e4
    · intro t h ht j hj
      rw [ll, Nat.min_eq_right (by omega)]
      have tl : t < 10 := by
        have := (List.getElem?_eq_some_iff.mp ht).1
        rw [ll] at this
        omega
      rw [List.getElem?_take, if_pos tl] at ht
      cases t with
      | zero =>
        have : ρ = h := Option.some.inj ht
        rw [← this, show hs.length + 1 - 1 - 0 = hs.length by omega]
        exact g5 j hj
      | succ t =>
        have ht2 : hs[t]? = some h := ht
        have tlen : t < hs.length := (List.getElem?_eq_some_iff.mp ht2).1
        have q := A t h ht2 j hj
        rw [show hs.length + 1 - 1 - (t + 1) = hs.length - 1 - t by omega, F4 319 (by decide) (by decide) _ (by omega)]
        exact q
end Q17
