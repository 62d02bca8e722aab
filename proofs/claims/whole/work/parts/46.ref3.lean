/-! STAGE 2, the reference: who is visible, who blocks, faults -/
theorem iz_shlz {k : Nat} (hk : k < 31) : iz 1 <<< (iz (k : Int) &&& iz 31) = iz ((2 ^ k : Nat) : Int) := by
  have h := iz_shl hk
  rw [iz_lit 1, iz_lit 31] at h
  exact h
theorem iz_bitz {m k : Nat} (hm : m < 2147483648) (hk : k < 32) : (iz (m : Int) >>> (iz (k : Int) &&& iz 31)) &&& iz 1 = iz (bt m k) := by
  have h := iz_bit hm hk
  rw [iz_lit 1, iz_lit 31] at h
  exact h
theorem iz_or0 (m : Nat) : iz (m : Int) ||| iz 0 = iz (m : Int) := by
  have h := iz_orN m 0
  rw [Nat.or_zero] at h
  exact h
theorem iz_tn {x : Int} (h : 0 ≤ x) : iz x = iz (x.toNat : Int) := by rw [Int.toNat_of_nonneg h]
section R3
variable {fu : Nat} {sh : HS} {I : HI} {R : HR} {AD : Int → Nat} {ρ : RHO} {s t : Int}
theorem r_hasC (V : VB ρ) {c : Int} (h0 : 0 ≤ c) (h1 : c < ρ 3) {a : Int} (h2 : 0 ≤ a) (h3 : a < 6) : fX11_has fu sh I R (iz (csS ρ c)) (iz a) = some (bz (inS ρ c a)) := by
  obtain ⟨-, b, -⟩ := V.scene h0 h1
  rw [iz_tn (x := csS ρ c) (by omega), iz_tn (x := a) h2, r_has (by omega) (by omega)]
  rfl
theorem r_vis_loop (S : OKS sh AD) (M : MR R AD) (H : RW I AD ρ) (V : VB ρ) (h0 : 0 ≤ s) (h1 : s < ρ 4) : ∀ (d n a : Nat), a + d = 6 → d < n →
    fX11_visibleIn_l18 fu sh I R n (AD 316) (iz s) (iz (mkS (seesS ρ s) a : Int)) (iz (scS ρ s)) (iz (viewS ρ s)) (iz (a : Int)) = some (iz (visS ρ s : Int)) := by
  obtain ⟨a1, a2, a3, a4, a5, a6, a7, a8⟩ := V.shot h0 h1
  have hm := V.m
  have hn := V.n
  have vl := V.lim
  have vv := V.view h0 h1
  obtain ⟨-, g1, g2, -⟩ := r_g (fu := fu) S M H V h0 h1
  intro d
  induction d with
  | zero =>
    intro n a ha hn
    obtain ⟨n, rfl⟩ : ∃ k, n = k + 1 := ⟨n - 1, by omega⟩
    have e : a = 6 := by omega
    subst e
    show fX11_visibleIn_b18 fu sh I R (fX11_visibleIn_l18 fu sh I R n) _ _ _ _ _ _ = _
    unfold fX11_visibleIn_b18
    rw [iz_lit, if_pos (by rw [iz_le (by decide) (by decide) (by decide) (by decide)]; decide)]
    rfl
  | succ d ih =>
    intro n a ha hn
    obtain ⟨n, rfl⟩ : ∃ k, n = k + 1 := ⟨n - 1, by omega⟩
    have k := ih n (a + 1) (by omega) (by omega)
    have ea : iz ((a + 1 : Nat) : Int) = iz (a : Int) + iz 1 := by rw [iz_add]; rfl
    rw [ea] at k
    show fX11_visibleIn_b18 fu sh I R (fX11_visibleIn_l18 fu sh I R n) _ _ _ _ _ _ = _
    have ha6 : (a : Int) < 6 := by omega
    simp only [fX11_visibleIn_b18, fX11_visibleIn_b80, fX11_visibleIn_b84, fX11_visibleIn_b85, fX11_visibleIn_b121, fX11_visibleIn_b122, iz_lit, r_actorX S M H a1.1 (by omega : scS ρ s < 3) (by omega : (0 : Int) ≤ (a : Int)) ha6, r_actorY S M H a1.1 (by omega : scS ρ s < 3) (by omega : (0 : Int) ≤ (a : Int)) ha6, g1, g2, bsome, r_actorsOf S M H a1.1 (by omega : scS ρ s < 3), r_hasC V a1.1 a1.2 (by omega : (0 : Int) ≤ (a : Int)) ha6, bz_zero, iz_sub, iz10, if_false, if_true, oR_at S.md M.1.1, r_row S M H (by decide : (0 : Int) ≤ 2) (by decide : (2 : Int) < 119), iz_shlz (show a < 31 by omega)]
    rw [if_neg (by rw [iz_le (by decide) (by decide) (by omega) (by omega)]; omega)]
    have hmk : mkS (seesS ρ s) (a + 1) = mkS (seesS ρ s) a ||| (if seesS ρ s a = true then 2 ^ a else 0) := rfl
    rw [hmk] at k
    have hs : seesS ρ s a = (inS ρ (scS ρ s) a && (!(decide (axS ρ (scS ρ s) a - cxS ρ s = 0) && decide (ayS ρ (scS ρ s) a - cyS ρ s = 0)) && decide (turnS (viewS ρ s) (dirS (axS ρ (scS ρ s) a - cxS ρ s) (ayS ρ (scS ρ s) a - cyS ρ s)) ≤ ρ 2))) := rfl
    by_cases i1 : inS ρ (scS ρ s) a = true
    · rw [if_neg (by simp [i1])]
      have r1 := (V.scene a1.1 a1.2).2.2 a (by omega) ha6 i1
      simp (disch := omega) only [iz_eq]
      by_cases i2 : axS ρ (scS ρ s) a - cxS ρ s = 0 ∧ ayS ρ (scS ρ s) a - cyS ρ s = 0
      · rw [if_pos i2.1, if_pos i2.2, iz_or0]
        rw [hs, i1, decide_eq_true i2.1, decide_eq_true i2.2] at k
        simpa using k
      · have e1 : (if axS ρ (scS ρ s) a - cxS ρ s = 0 then (if ayS ρ (scS ρ s) a - cyS ρ s = 0 then (0 : Int) else 1) else 1) = 1 := by
          by_cases j1 : axS ρ (scS ρ s) a - cxS ρ s = 0
          · rw [if_pos j1, if_neg (fun z => i2 ⟨j1, z⟩)]
          · rw [if_neg j1]
        have dr := dir_range (x := axS ρ (scS ρ s) a - cxS ρ s) (y := ayS ρ (scS ρ s) a - cyS ρ s) (by omega) (by omega) (by omega) (by omega)
        have tr := turn_range vv.1 vv.2 dr.1 dr.2
        rw [r_dir (by omega) (by omega) (by omega) (by omega) i2, bsome, r_turn vv.1 vv.2 dr.1 dr.2, bsome]
        have e2 : (!(decide (axS ρ (scS ρ s) a - cxS ρ s = 0) && decide (ayS ρ (scS ρ s) a - cyS ρ s = 0))) = true := by
          by_cases j1 : axS ρ (scS ρ s) a - cxS ρ s = 0
          · have j2 : ¬ ayS ρ (scS ρ s) a - cyS ρ s = 0 := fun z => i2 ⟨j1, z⟩
            simp [j2]
          · simp [j1]
        rw [hs, i1, e2] at k
        have fin : ∀ (Z : Option Int32), (if iz (ρ 2) < iz (turnS (viewS ρ s) (dirS (axS ρ (scS ρ s) a - cxS ρ s) (ayS ρ (scS ρ s) a - cyS ρ s))) then fX11_visibleIn_l18 fu sh I R n (AD 316) (iz s) (iz (mkS (seesS ρ s) a : Int) ||| iz 0) (iz (scS ρ s)) (iz (viewS ρ s)) (iz (a : Int) + iz 1) else fX11_visibleIn_l18 fu sh I R n (AD 316) (iz s) (iz (mkS (seesS ρ s) a : Int) ||| iz ((2 ^ a : Nat) : Int)) (iz (scS ρ s)) (iz (viewS ρ s)) (iz (a : Int) + iz 1)) = some (iz (visS ρ s : Int)) := by
          intro _
          simp (disch := omega) only [iz_lt]
          by_cases j : ρ 2 < turnS (viewS ρ s) (dirS (axS ρ (scS ρ s) a - cxS ρ s) (ayS ρ (scS ρ s) a - cyS ρ s))
          · rw [if_pos j, iz_or0]
            rw [decide_eq_false (by omega)] at k
            simpa using k
          · rw [if_neg j, iz_orN]
            rw [decide_eq_true (by omega)] at k
            simpa using k
        by_cases j1 : axS ρ (scS ρ s) a - cxS ρ s = 0
        · rw [if_pos j1, if_neg (fun z => i2 ⟨j1, z⟩)]
          exact fin none
        · rw [if_neg j1]
          exact fin none
    · have i3 : inS ρ (scS ρ s) a = false := by simpa using i1
      rw [if_pos i3, iz_or0]
      rw [hs, i3] at k
      simpa using k
theorem r_visible (S : OKS sh AD) (M : MR R AD) (H : RW I AD ρ) (V : VB ρ) (hfu : 5000 ≤ fu) (h0 : 0 ≤ s) (h1 : s < ρ 4) : fX11_visibleIn fu sh I R (AD 316) (iz s) = some (iz (visS ρ s : Int)) := by
  have hn := V.n
  have k := r_vis_loop (fu := fu) S M H V h0 h1 6 fu 0 rfl (by omega)
  simp only [fX11_visibleIn, if_pos S.i, r_sceneOf S M H h0 (by omega : s < 12), r_view S M H V h0 h1, bsome, iz_lit]
  exact k
end R3
