/-! STAGE 2: the reference remembers its row -/
section Q16
variable {fu : Nat} {sh : HS} {I I' : HI} {R : HR} {AD : Int → Nat} {ρ : RHO}
/-- the row is laid into the place a of the past -/
theorem r_rem_loop (S : OKS sh AD) (M : MR R AD) {a : Nat} (ha : a < 10) : ∀ d j k : Nat, k + d = 119 → d < j → ∀ I : HI, RW I AD ρ → I (AD 316) 3 = iz (a : Int) → (∀ t : Nat, t < k → I (AD 319) (119 * a + t) = iz (ρ t)) →
    ∃ I', fX11_remember_l52 fu sh R j I (AD 316) (iz (k : Int)) = some I' ∧ I' (AD 316) 3 = iz ((a + 1 : Nat) : Int) ∧ (∀ t : Nat, t < 119 → I' (AD 319) (119 * a + t) = iz (ρ t)) ∧ FR AD I I' (fun i q => (i = 319 ∧ 119 * a ≤ q ∧ q < 119 * a + 119) ∨ (i = 316 ∧ q = 3)) := by
  intro d
  induction d with
  | zero =>
    intro j k hk hj I H e3 A
    obtain ⟨j, rfl⟩ : ∃ t, j = t + 1 := ⟨j - 1, by omega⟩
    have e : k = 119 := by omega
    subst e
    have F : FR AD I (u2 I (AD 316) 3 (iz ((a + 1 : Nat) : Int))) (fun i q => i = 316 ∧ q = 3) := FR.u2 S (by decide) (by decide) ⟨rfl, rfl⟩ (FR.rf AD I _)
    refine ⟨u2 I (AD 316) 3 (iz ((a + 1 : Nat) : Int)), ?_, ?_, fun t ht => (F 319 (by decide) (by decide) _ (by omega)).trans (A t ht), F.wd (fun i q z => Or.inr z)⟩
    · have en : iz (a : Int) + iz 1 = iz ((a + 1 : Nat) : Int) := by rw [iz_add]; rfl
      show fX11_remember_b52 fu sh R (fX11_remember_l52 fu sh R j) _ _ _ = _
      simp only [fX11_remember_b52, iz_lit, oI_at S.md, e3, bsome, oP_at S.md, en]
      rw [if_pos (by rw [iz_le (by decide) (by decide) (by decide) (by decide)]; decide)]
    · rw [u2_ad S (by decide) (by decide) (by decide) (by decide), if_pos ⟨rfl, rfl⟩]
  | succ d ih =>
    intro j k hk hj I H e3 A
    obtain ⟨j, rfl⟩ : ∃ t, j = t + 1 := ⟨j - 1, by omega⟩
    have ek : iz (k : Int) + iz 1 = iz ((k + 1 : Nat) : Int) := by rw [iz_add]; rfl
    have ix : 119 * (a : Int) + (k : Int) = ((119 * a + k : Nat) : Int) := by omega
    obtain ⟨J, hJ⟩ : ∃ J, J = _root_.Jvm.Pilot.@@N@@.u2 I (AD 319) (119 * a + k) (iz (ρ k)) := ⟨_, rfl⟩
    have F0 : FR AD I J (fun i q => i = 319 ∧ 119 * a ≤ q ∧ q < 119 * a + 119) := by
      rw [hJ]
      exact FR.u2 S (by decide) (by decide) ⟨rfl, by omega, by omega⟩ (FR.rf AD I _)
    have HJ := H.fr F0 (fun _ => by omega)
    have e3J : J (AD 316) 3 = iz (a : Int) := (F0 316 (by decide) (by decide) 3 (by omega)).trans e3
    have AJ : ∀ t : Nat, t < k + 1 → J (AD 319) (119 * a + t) = iz (ρ t) := by
      intro t ht
      rw [hJ, u2_ad S (by decide) (by decide) (by decide) (by decide)]
      by_cases z : t = k
      · rw [if_pos ⟨rfl, by omega⟩, z]
      · rw [if_neg (by omega)]
        exact A t (by omega)
    obtain ⟨I', e, g1, g2, g3⟩ := ih j (k + 1) (by omega) (by omega) J HJ e3J AJ
    refine ⟨I', ?_, g1, g2, (F0.wd (fun i q z => Or.inl z)).tr g3⟩
    rw [← e]
    show fX11_remember_b52 fu sh R (fX11_remember_l52 fu sh R j) _ _ _ = _
    simp only [fX11_remember_b52, iz_lit, oI_at S.md, e3, bsome, oR_at S.md M.1.2.2.1, oR_at S.md M.1.1, r_row S M H (show 0 ≤ (k : Int) by omega) (show (k : Int) < 119 by omega), iz_mul, iz_add 119, ix, iz_add (119 * (a : Int)), oS_nat (S.at (i := 319) (t := 20) (n := 1190) rfl (by decide) (by decide)) (show 119 * a + k < 1190 by omega) (by decide), ek]
    rw [if_neg (by rw [iz_le (by decide) (by decide) (by omega) (by omega)]; omega), ← hJ]
end Q16
