/-! STAGE 2: statement after statement -/
theorem fal_st (p : PS) (e : Nat) : (falP p e).st = p.st := by
  unfold falP
  split <;> rfl
theorem okN_st (f : Nat → Int) (p : PS) (lo hi : Int) : (okN f p lo hi).st = p.st := by
  unfold okN
  split
  · split
    · rfl
    · exact fal_st p 2
  · exact fal_st p 1
theorem okS_st (p : PS) : (okS p).st = p.st := by
  unfold okS
  split
  · rfl
  · exact fal_st p 1
theorem acP_st (f : Nat → Int) (p : PS) (ρ : RHO) (c : Int) : (acP f p ρ c).st = p.st := by
  unfold acP
  split
  · exact okN_st f p 0 5
  · rw [fal_st]; exact okN_st f p 0 5
theorem anP_st (f : Nat → Int) (p : PS) (ρ : RHO) (c : Int) : (anP f p ρ c).st = p.st := by
  unfold anP
  split
  · rw [fal_st]; exact okN_st f p 0 5
  · exact okN_st f p 0 5
theorem suP_st (f : Nat → Int) (p : PS) (ρ : RHO) (c x y : Int) : (suP f p ρ c x y).st = p.st := by
  unfold suP
  split
  · rw [fal_st]; exact acP_st f p ρ c
  · exact acP_st f p ρ c
theorem prP_st (f : Nat → Int) (p : PS) (ρ : RHO) (c u : Int) : (prP f p ρ c u).st = p.st := by
  unfold prP
  split
  · rfl
  · split
    · rw [fal_st]; exact acP_st f p ρ c
    · exact acP_st f p ρ c
theorem adv_st {f : Nat → Int} {n : Nat} {p : PS} (W : WfP f n p) : p.st ≤ (advP f n p).st ∧ (p.er = 0 → p.en ≤ (advP f n p).st) := by
  unfold advP
  have h := (nxT_wf (f := f) W.2.1).2.2
  have h2 := W.1
  by_cases z : p.er = 0
  · rw [if_pos z]; exact ⟨by omega, fun _ => h⟩
  · rw [if_neg z]; exact ⟨Nat.le_refl _, fun q => absurd q z⟩
theorem tkP_st {f : Nat → Int} {n : Nat} {p : PS} (W : WfP f n p) (lo hi : Int) : p.st ≤ (tkP f n p lo hi).st := by
  have h := (adv_st (okN_wf W lo hi)).1
  rw [okN_st] at h
  exact h
theorem semP_st {f : Nat → Int} {n : Nat} {p : PS} (W : WfP f n p) : p.st ≤ (semP f n p).st := by
  have h := (adv_st (okS_wf W)).1
  rw [okS_st] at h
  exact h
theorem scn_wf {f : Nat → Int} {n : Nat} {p : PS} (W : WfP f n p) : WfP f n (scn1 f n p) ∧ WfP f n (scn2 f n p) ∧ WfP f n (scn3 f n p) := by
  have a1 : WfP f n (scn1 f n p) := advP_wf W
  have a2 : WfP f n (scn2 f n p) := tkP_wf a1 0 3
  exact ⟨a1, a2, semP_wf a2⟩
theorem scn_ok {f : Nat → Int} {n : Nat} {p : PS} (W : WfP f n p) (h : (scn3 f n p).er = 0) : p.er = 0 ∧ (okN f (scn1 f n p) 0 3).er = 0 ∧ 0 ≤ nmP f (scn1 f n p) ∧ nmP f (scn1 f n p) ≤ 3 := by
  obtain ⟨a1, a2, -⟩ := scn_wf W
  obtain ⟨b, -⟩ := semP_ok a2 h
  obtain ⟨c1, c2, c3, c4, c5⟩ := tkP_ok a1 b
  have c6 : (advP f n p).er = 0 := c2
  rw [adv_er W.2.1] at c6
  exact ⟨c6, c1, c4, c5⟩
theorem scn_st {f : Nat → Int} {n : Nat} {p : PS} (W : WfP f n p) : (scn1 f n p).st ≤ (scn3 f n p).st := by
  obtain ⟨a1, a2, -⟩ := scn_wf W
  have b1 : (scn1 f n p).st ≤ (scn2 f n p).st := tkP_st a1 0 3
  have b2 : (scn2 f n p).st ≤ (scn3 f n p).st := semP_st a2
  omega
theorem act_st {f : Nat → Int} {n : Nat} {p : PS} (W : WfP f n p) (ρ : RHO) (c : Int) : (scn1 f n p).st ≤ (act5 f n p ρ c).st := by
  obtain ⟨a2, a3, a4, -⟩ := act_wf W ρ c
  have b1 : (anP f (scn1 f n p) ρ c).st ≤ (act2 f n p ρ c).st := (adv_st (anP_wf (scn_wf W).1 ρ c)).1
  rw [anP_st] at b1
  have b2 : (act2 f n p ρ c).st ≤ (act3 f n p ρ c).st := tkP_st a2 0 199
  have b3 : (act3 f n p ρ c).st ≤ (act4 f n p ρ c).st := tkP_st a3 0 199
  have b4 : (act4 f n p ρ c).st ≤ (act5 f n p ρ c).st := semP_st a4
  omega
theorem sht_st {f : Nat → Int} {n : Nat} {p : PS} (W : WfP f n p) (ρ : RHO) (c : Int) : (scn1 f n p).st ≤ (sht7 f n p ρ c).st := by
  obtain ⟨a1, a2, a3, a4, a5, a6, -⟩ := sht_wf W ρ c
  have b1 : (scn1 f n p).st ≤ (sht2 f n p).st := tkP_st a1 0 199
  have b2 : (sht2 f n p).st ≤ (sht3 f n p).st := tkP_st a2 0 199
  have b3 : (suP f (sht3 f n p) ρ c (nmP f (scn1 f n p)) (nmP f (sht2 f n p))).st ≤ (sht4 f n p ρ c).st := (adv_st (suP_wf a3 ρ c _ _)).1
  rw [suP_st] at b3
  have b4 : (prP f (sht4 f n p ρ c) ρ c (nmP f (sht3 f n p))).st ≤ (sht5 f n p ρ c).st := (adv_st (prP_wf a4 ρ c _)).1
  rw [prP_st] at b4
  have b5 : (sht5 f n p ρ c).st ≤ (sht6 f n p ρ c).st := tkP_st a5 1 99
  have b6 : (sht6 f n p ρ c).st ≤ (sht7 f n p ρ c).st := semP_st a6
  omega
theorem scnQ_ok {p : PS} {ρ : RHO} (h : (scnQ p ρ).er = 0) : scnQ p ρ = p ∧ ρ 3 < 3 ∧ (0 < ρ 3 → canS ρ = true) := by
  unfold scnQ at h ⊢
  obtain ⟨A, hA⟩ : ∃ A, A = (if 0 < ρ 3 ∧ canS ρ = false then falP p 1 else p) := ⟨_, rfl⟩
  rw [← hA] at h ⊢
  by_cases z : ρ 3 < 3
  · rw [if_pos z] at h ⊢
    by_cases y : 0 < ρ 3 ∧ canS ρ = false
    · rw [if_pos y] at hA
      rw [hA] at h
      exact absurd h (fal_er (by decide))
    · rw [if_neg y] at hA
      refine ⟨hA, z, fun q => ?_⟩
      cases e : canS ρ with
      | true => rfl
      | false => exact absurd ⟨q, e⟩ y
  · rw [if_neg z] at h
    exact absurd h (fal_er (by decide))
theorem scnQ_wf {f : Nat → Int} {n : Nat} {p : PS} (W : WfP f n p) (ρ : RHO) : WfP f n (scnQ p ρ) := by
  unfold scnQ
  split
  · split
    · exact falP_wf W 1
    · exact W
  · split
    · exact falP_wf (falP_wf W 1) 4
    · exact falP_wf W 4
theorem can_ok {ρ : RHO} (h : canS ρ = true) : 1 ≤ ρ 3 ∧ 0 < csS ρ (ρ 3 - 1) := of_decide_eq_true h
def INV (f : Nat → Int) (n : Nat) (X : PS × RHO) : Prop := WfP f n X.1 ∧ (X.1.er = 0 → PV X.2 ∧ LV X.2)
theorem lv_cg {ρ ρ' : RHO} (L : LV ρ) (h : ∀ j, 0 ≤ j → j < 3 → ρ' j = ρ j) : LV ρ' := by
  unfold LV
  rw [h 0 (by decide) (by decide), h 1 (by decide) (by decide), h 2 (by decide) (by decide)]
  exact L
theorem stm_inv {f : Nat → Int} {n : Nat} {p : PS} {ρ : RHO} (W : WfP f n p) (V : PV ρ) (L : LV ρ) : WfP f n (stmD f n (p, ρ)).1 ∧ (PV (stmD f n (p, ρ)).2 ∧ LV (stmD f n (p, ρ)).2) ∧ (p.er = 0 → ¬ p.tk = 0 → (stmD f n (p, ρ)).1.er = 0 → p.st < (stmD f n (p, ρ)).1.st) := by
  have hm := V.1
  have hn := V.2.1
  have s1 : p.er = 0 → ¬ p.tk = 0 → p.st < (scn1 f n p).st := fun a b => by
    have := (adv_st W).2 a
    have h : p.st < p.en := W.2.2.2.1 b
    show p.st < (advP f n p).st
    omega
  by_cases z1 : wdP f p 16 = true
  · have e : stmD f n (p, ρ) = (scn3 f n (scnQ p ρ), scnX f n (scnQ p ρ) ρ) := if_pos z1
    have Wq := scnQ_wf W ρ
    rw [e]
    dsimp only
    refine ⟨(scn_wf Wq).2.2, ?_, fun a b h => ?_⟩
    · unfold scnX
      by_cases y : (scn3 f n (scnQ p ρ)).er = 0
      · obtain ⟨g1, g2, g3, g4⟩ := scn_ok Wq y
        obtain ⟨h1, h2, h3⟩ := scnQ_ok g1
        rw [if_pos y]
        exact ⟨V.scn h2 (fun q => (can_ok (h3 q)).2) g3 g4, lv_cg L fun j j0 j1 => scn_old (by omega) (by omega) (by omega)⟩
      · rw [if_neg y]
        exact ⟨V, L⟩
    · obtain ⟨g1, -⟩ := scn_ok Wq h
      have q := (scnQ_ok g1).1
      rw [q]
      have := scn_st W
      have := s1 a b
      omega
  · by_cases z2 : wdP f p 5 = true
    · have e : stmD f n (p, ρ) = actD f n (p, ρ) := (if_neg z1).trans (if_pos z2)
      rw [e]
      by_cases y : 1 ≤ ρ 3 ∧ nsS ρ (ρ 3 - 1) (ρ 4).toNat ≤ 0
      · have e2 : actD f n (p, ρ) = (act5 f n p ρ (ρ 3 - 1), actX f n p ρ (ρ 3 - 1)) := if_pos y
        rw [e2]
        dsimp only
        refine ⟨(act_wf W ρ (ρ 3 - 1)).2.2.2, ?_, fun a b h => ?_⟩
        · unfold actX
          by_cases x : (act5 f n p ρ (ρ 3 - 1)).er = 0
          · obtain ⟨-, g1, g2, g3⟩ := act_ok W x
            rw [if_pos x]
            exact ⟨V.act rfl (by omega) g1.2.2.1 (by omega) g1.1 g2.2 g3.2, lv_cg L fun j j0 j1 => act_old (by omega) (by omega) (by omega)⟩
          · rw [if_neg x]
            exact ⟨V, L⟩
        · have := act_st W ρ (ρ 3 - 1)
          have := s1 a b
          omega
      · have e2 : actD f n (p, ρ) = (falP p 1, ρ) := if_neg y
        rw [e2]
        dsimp only
        exact ⟨falP_wf W 1, ⟨V, L⟩, fun a b h => absurd h (fal_er (by decide))⟩
    · by_cases z3 : wdP f p 18 = true
      · have e : stmD f n (p, ρ) = shtD f n (p, ρ) := (if_neg z1).trans ((if_neg z2).trans (if_pos z3))
        rw [e]
        by_cases y : canS ρ = false
        · have e2 : shtD f n (p, ρ) = (falP p 1, ρ) := if_pos y
          rw [e2]
          dsimp only
          exact ⟨falP_wf W 1, ⟨V, L⟩, fun a b h => absurd h (fal_er (by decide))⟩
        · by_cases x : ρ 4 < 12
          · have e2 : shtD f n (p, ρ) = (sht7 f n p ρ (ρ 3 - 1), shtX f n p ρ (ρ 3 - 1)) := (if_neg y).trans (if_pos x)
            have c1 := can_ok (show canS ρ = true by revert y; cases canS ρ <;> simp)
            rw [e2]
            dsimp only
            refine ⟨(sht_wf W ρ (ρ 3 - 1)).2.2.2.2.2.2, ?_, fun a b h => ?_⟩
            · unfold shtX
              by_cases v : (sht7 f n p ρ (ρ 3 - 1)).er = 0
              · obtain ⟨-, r1, r2, r3, r4, r5⟩ := sht_ok W v
                rw [if_pos v]
                exact ⟨V.sht rfl (by omega) x r1.2 r2.2 r3.2.1 r3.2.2.1 r3.2.2.2 r4.2 r5.2, lv_cg L fun j j0 j1 => sht_old (by omega) (by omega)⟩
              · rw [if_neg v]
                exact ⟨V, L⟩
            · have := sht_st W ρ (ρ 3 - 1)
              have := s1 a b
              omega
          · have e2 : shtD f n (p, ρ) = (falP p 4, ρ) := (if_neg y).trans (if_neg x)
            rw [e2]
            dsimp only
            exact ⟨falP_wf W 4, ⟨V, L⟩, fun a b h => absurd h (fal_er (by decide))⟩
      · have e : stmD f n (p, ρ) = (falP p 1, ρ) := (if_neg z1).trans ((if_neg z2).trans (if_neg z3))
        rw [e]
        dsimp only
        exact ⟨falP_wf W 1, ⟨V, L⟩, fun a b h => absurd h (fal_er (by decide))⟩
def iterD (f : Nat → Int) (n : Nat) : Nat → PS × RHO → PS × RHO
  | 0, X => X
  | k + 1, X => iterD f n k (dspD f n X)
def Rch (f : Nat → Int) (n : Nat) (X Y : PS × RHO) : Prop := ∃ k, Y = iterD f n k X
def FIN (X : PS × RHO) : Prop := ¬ X.1.er = 0 ∨ (X.1.tk = 0 ∧ canS X.2 = true)
theorem iterD_add (f : Nat → Int) (n : Nat) : ∀ a b X, iterD f n (a + b) X = iterD f n b (iterD f n a X) := by
  intro a
  induction a with
  | zero => exact fun b X => by rw [Nat.zero_add]; rfl
  | succ a ih =>
    intro b X
    rw [show a + 1 + b = (a + b) + 1 by omega]
    show iterD f n (a + b) (dspD f n X) = iterD f n b (iterD f n a (dspD f n X))
    exact ih b _
theorem Rch.rf {f : Nat → Int} {n : Nat} (X : PS × RHO) : Rch f n X X := ⟨0, rfl⟩
theorem Rch.tr {f : Nat → Int} {n : Nat} {X Y Z : PS × RHO} (a : Rch f n X Y) (b : Rch f n Y Z) : Rch f n X Z := by
  obtain ⟨k, rfl⟩ := a
  obtain ⟨l, rfl⟩ := b
  exact ⟨k + l, (iterD_add f n k l X).symm⟩
theorem Rch.one {f : Nat → Int} {n : Nat} (X : PS × RHO) : Rch f n X (dspD f n X) := ⟨1, rfl⟩
theorem FIN.fx {f : Nat → Int} {n : Nat} {X : PS × RHO} (h : FIN X) : dspD f n X = X := by
  unfold dspD
  rcases h with h | ⟨h1, h2⟩
  · rw [if_neg h]
  · rw [if_pos h1, if_pos h2]
    split <;> rfl
theorem FIN.it {f : Nat → Int} {n : Nat} {X : PS × RHO} (h : FIN X) : ∀ k, iterD f n k X = X := by
  intro k
  induction k with
  | zero => rfl
  | succ k ih =>
    show iterD f n k (dspD f n X) = X
    rw [h.fx]
    exact ih
theorem Rch.un {f : Nat → Int} {n : Nat} {X Y Z : PS × RHO} (a : Rch f n X Y) (b : Rch f n X Z) (hy : FIN Y) (hz : FIN Z) : Y = Z := by
  obtain ⟨k, hk⟩ := a
  obtain ⟨l, hl⟩ := b
  have e1 := iterD_add f n k l X
  have e2 := iterD_add f n l k X
  rw [← hk, hy.it] at e1
  rw [← hl, hz.it] at e2
  rw [← e1, ← e2, Nat.add_comm]
theorem dsp_inv {f : Nat → Int} {n : Nat} {X : PS × RHO} (H : INV f n X) : INV f n (dspD f n X) := by
  obtain ⟨p, ρ⟩ := X
  obtain ⟨W, h⟩ := H
  unfold dspD
  by_cases z : p.er = 0
  · rw [if_pos z]
    by_cases y : p.tk = 0
    · rw [if_pos y]
      split
      · exact ⟨W, h⟩
      · exact ⟨falP_wf W 1, fun q => absurd q (fal_er (by decide))⟩
    · rw [if_neg y]
      obtain ⟨a, b, -⟩ := stm_inv W (h z).1 (h z).2
      exact ⟨a, fun _ => b⟩
  · rw [if_neg z]
    exact ⟨W, h⟩
theorem it_inv {f : Nat → Int} {n : Nat} : ∀ k (X : PS × RHO), INV f n X → INV f n (iterD f n k X) := by
  intro k
  induction k with
  | zero => exact fun X h => h
  | succ k ih => exact fun X h => ih _ (dsp_inv h)
theorem fin_ex {f : Nat → Int} {n : Nat} : ∀ d (X : PS × RHO), INV f n X → (X.1.er = 0 → n < X.1.st + d) → ∃ Y, Rch f n X Y ∧ FIN Y := by
  intro d
  induction d with
  | zero =>
    intro X H h
    by_cases z : X.1.er = 0
    · have := h z
      have a := H.1.1
      have b := H.1.2.1
      omega
    · exact ⟨X, Rch.rf X, Or.inl z⟩
  | succ d ih =>
    intro X H h
    by_cases z : X.1.er = 0
    · by_cases y : X.1.tk = 0
      · by_cases c : canS X.2 = true
        · exact ⟨X, Rch.rf X, Or.inr ⟨y, c⟩⟩
        · have e : dspD f n X = (falP X.1 1, X.2) := (if_pos z).trans ((if_pos y).trans (if_neg c))
          refine ⟨dspD f n X, Rch.one X, Or.inl ?_⟩
          rw [e]
          exact fal_er (by decide)
      · obtain ⟨p, ρ⟩ := X
        have e : dspD f n (p, ρ) = stmD f n (p, ρ) := (if_pos z).trans (if_neg y)
        obtain ⟨-, -, g⟩ := stm_inv (p := p) (ρ := ρ) H.1 (H.2 z).1 (H.2 z).2
        have k := h z
        have k2 : n < p.st + (d + 1) := k
        obtain ⟨Y, a, b⟩ := ih (dspD f n (p, ρ)) (dsp_inv H) (fun q => by
          rw [e] at q ⊢
          have := g z y q
          omega)
        exact ⟨Y, (Rch.one _).tr a, b⟩
    · exact ⟨X, Rch.rf X, Or.inl z⟩
/-- the board of the limits alone -/
def limR (a b c : Int) : RHO := up1 (up1 (up1 (fun _ => 0) 0 a) 1 b) 2 c
def ld0 (f : Nat → Int) (n : Nat) : PS × RHO := (lim5 f n (nxT f n 0), limR (nmP f (lim1 f n (nxT f n 0))) (nmP f (lim2 f n (nxT f n 0))) (nmP f (lim3 f n (nxT f n 0))))
theorem limR_v (a b c : Int) : limR a b c 0 = a ∧ limR a b c 1 = b ∧ limR a b c 2 = c ∧ ∀ j, 3 ≤ j → limR a b c j = 0 := by
  unfold limR
  refine ⟨?_, ?_, up1_eq, fun j h => ?_⟩
  · rw [up1_ne (by decide), up1_ne (by decide), up1_eq]
  · rw [up1_ne (by decide), up1_eq]
  · rw [up1_ne (by omega), up1_ne (by omega), up1_ne (by omega)]
theorem PV.zero {ρ : RHO} (h3 : ρ 3 = 0) (h4 : ρ 4 = 0) : PV ρ := ⟨by omega, by omega, fun c a b => by omega, fun s a b => by omega, fun s t a b c => by omega, fun c a b => by omega⟩
theorem ld0_inv (f : Nat → Int) (n : Nat) : INV f n (ld0 f n) := by
  have W := (nxT_wf (f := f) (Nat.zero_le n)).1
  obtain ⟨v0, v1, v2, v3⟩ := limR_v (nmP f (lim1 f n (nxT f n 0))) (nmP f (lim2 f n (nxT f n 0))) (nmP f (lim3 f n (nxT f n 0)))
  have e : ld0 f n = (lim5 f n (nxT f n 0), limR (nmP f (lim1 f n (nxT f n 0))) (nmP f (lim2 f n (nxT f n 0))) (nmP f (lim3 f n (nxT f n 0)))) := rfl
  unfold INV
  rw [e]
  dsimp only
  refine ⟨(lim_wf W).2.2.2.2, fun z => ⟨PV.zero (v3 3 (by decide)) (v3 4 (by decide)), ?_⟩⟩
  obtain ⟨a, b, c⟩ := lim_ok W z
  unfold LV
  rw [v0, v1, v2]
  exact ⟨a.2, b.2, c.2⟩
theorem ld_ex (f : Nat → Int) (n : Nat) : ∃ Y, Rch f n (ld0 f n) Y ∧ FIN Y := fin_ex (n + 1) (ld0 f n) (ld0_inv f n) (fun _ => by omega)
/-- what a text says in the end -/
noncomputable def ldX (f : Nat → Int) (n : Nat) : PS × RHO := (ld_ex f n).choose
theorem ldX_eq {f : Nat → Int} {n : Nat} {Y : PS × RHO} (a : Rch f n (ld0 f n) Y) (b : FIN Y) : ldX f n = Y := Rch.un (ld_ex f n).choose_spec.1 a (ld_ex f n).choose_spec.2 b
theorem ldX_vb {f : Nat → Int} {n : Nat} (h : (ldX f n).1.er = 0) : VB (ldX f n).2 := by
  obtain ⟨⟨k, hk⟩, b⟩ := (ld_ex f n).choose_spec
  have hk : ldX f n = iterD f n k (ld0 f n) := hk
  have b : FIN (ldX f n) := b
  have i := it_inv k _ (ld0_inv f n)
  rw [← hk] at i
  obtain ⟨v, l⟩ := i.2 h
  rcases b with b | ⟨b1, b2⟩
  · exact absurd h b
  · exact v.vb l (can_ok b2).1 (can_ok b2).2
