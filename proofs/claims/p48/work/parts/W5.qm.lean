/-! THE LAW, STAGE 2: a text with a byte that begins no word -/
def QI (at9 : Nat) (p : PS) : Prop := p.st ≤ at9 ∧ p.er ≤ 4 ∧ ¬ p.tk = 0 ∧ (p.er = 0 → ¬ p.tk = 1 → p.en ≤ at9)
def GD (at9 : Nat) (p : PS) : Prop := QI at9 p ∧ (p.er = 0 → ¬ p.tk = 1)
section QM
variable {f : Nat → Int} {n at9 : Nat} {p : PS} {r : RHO}
theorem spn_q {q : Int → Bool} (hq : q (f at9) = false) : ∀ d i, i ≤ at9 → spn q f n d i ≤ at9 := by
  intro d
  induction d with
  | zero => exact fun i hi => hi
  | succ d ih =>
    intro i hi
    have un : spn q f n (d + 1) i = if i < n ∧ q (f i) = true then spn q f n d (i + 1) else i := rfl
    rw [un]
    split
    · rename_i z
      refine ih (i + 1) ?_
      have : ¬ i = at9 := fun e => by rw [e, hq] at z; exact absurd z.2 (by decide)
      omega
    · exact hi
theorem q_nx (hn : at9 < n) (hf : f at9 = 63) {i : Nat} (hi : i ≤ at9) : QI at9 (nxT f n i) := by
  have hw : isWc (f at9) = false := by rw [hf]; decide
  have hd : isDc (f at9) = false := by rw [hf]; decide
  have hl : isLc (f at9) = false := by rw [hf]; decide
  have hs := spn_q (f := f) (n := n) hw (n - i) i hi
  unfold nxT
  generalize spn isWc f n (n - i) i = s at hs
  unfold tokA
  rw [if_pos (by omega)]
  by_cases z : isDc (f s) = true
  · rw [if_pos z]
    refine ⟨hs, Nat.zero_le 4, ?_, fun _ _ => spn_q (f := f) (n := n) hd (n - s) s hs⟩
    show ¬ (if spn isDc f n (n - s) s - s ≤ 4 then 3 else 1) = 0
    split <;> decide
  · rw [if_neg z]
    by_cases y : isLc (f s) = true
    · rw [if_pos y]
      exact ⟨hs, Nat.zero_le 4, show ¬ (2 : Nat) = 0 by decide, fun _ _ => spn_q (f := f) (n := n) hl (n - s) s hs⟩
    · rw [if_neg y]
      refine ⟨hs, Nat.zero_le 4, ?_, fun _ h => ?_⟩
      · show ¬ (if f s = 59 then 4 else 1) = 0
        split <;> decide
      · have h : ¬ (if f s = 59 then 4 else 1) = 1 := h
        show s + 1 ≤ at9
        have : ¬ s = at9 := fun e => by rw [e, hf] at h; exact h (by decide)
        omega
theorem q_adv (hn : at9 < n) (hf : f at9 = 63) (g : GD at9 p) : QI at9 (advP f n p) := by
  unfold advP
  by_cases z : p.er = 0
  · rw [if_pos z]
    exact q_nx hn hf (g.1.2.2.2 z (g.2 z))
  · rw [if_neg z]
    exact g.1
theorem q_fal (g : QI at9 p) {e : Nat} (he : e ≤ 4) : QI at9 (falP p e) := by
  unfold falP
  by_cases z : p.er = 0
  · rw [if_pos z]
    exact ⟨g.1, he, g.2.2.1, fun _ h => g.2.2.2 z h⟩
  · rw [if_neg z]
    exact g
theorem g_fal (g : QI at9 p) {e : Nat} (he : e ≤ 4) (h0 : ¬ e = 0) : GD at9 (falP p e) := ⟨q_fal g he, fun z => absurd z (fal_er h0)⟩
theorem g_okN (g : QI at9 p) (lo hi : Int) : GD at9 (okN f p lo hi) := by
  unfold okN
  by_cases z : p.tk = 3
  · rw [if_pos z]
    by_cases y : lo ≤ nmP f p ∧ nmP f p ≤ hi
    · rw [if_pos y]
      exact ⟨g, fun _ => by omega⟩
    · rw [if_neg y]
      exact g_fal g (by decide) (by decide)
  · rw [if_neg z]
    exact g_fal g (by decide) (by decide)
theorem g_okS (g : QI at9 p) : GD at9 (okS p) := by
  unfold okS
  by_cases z : p.tk = 4
  · rw [if_pos z]
    exact ⟨g, fun _ => by omega⟩
  · rw [if_neg z]
    exact g_fal g (by decide) (by decide)
theorem wd_tk {w : Nat} (h : wdP f p w = true) : p.tk = 2 := by
  unfold wdP at h
  rw [Bool.and_eq_true] at h
  exact of_decide_eq_true h.1
theorem g_exW (g : QI at9 p) (w : Nat) : GD at9 (exW f p w) := by
  unfold exW
  by_cases z : wdP f p w = true
  · rw [if_pos z]
    exact ⟨g, fun _ => by rw [wd_tk z]; decide⟩
  · rw [if_neg z]
    exact g_fal g (by decide) (by decide)
theorem q_tkP (hn : at9 < n) (hf : f at9 = 63) (g : QI at9 p) (lo hi : Int) : QI at9 (tkP f n p lo hi) := q_adv hn hf (g_okN g lo hi)
theorem q_sem (hn : at9 < n) (hf : f at9 = 63) (g : QI at9 p) : QI at9 (semP f n p) := q_adv hn hf (g_okS g)
theorem g_acP (g : QI at9 p) (c : Int) : GD at9 (acP f p r c) := by
  unfold acP
  split
  · exact g_okN g 0 5
  · exact g_fal (g_okN g 0 5).1 (by decide) (by decide)
theorem g_anP (g : QI at9 p) (c : Int) : GD at9 (anP f p r c) := by
  unfold anP
  split
  · exact g_fal (g_okN g 0 5).1 (by decide) (by decide)
  · exact g_okN g 0 5
theorem g_suP (g : QI at9 p) (c x y : Int) : GD at9 (suP f p r c x y) := by
  unfold suP
  split
  · exact g_fal (g_acP g c).1 (by decide) (by decide)
  · exact g_acP g c
theorem g_prP (g : QI at9 p) (c u : Int) : GD at9 (prP f p r c u) := by
  unfold prP
  by_cases z : wdP f p 15 = true
  · rw [if_pos z]
    exact ⟨g, fun _ => by rw [wd_tk z]; decide⟩
  · rw [if_neg z]
    split
    · exact g_fal (g_acP g c).1 (by decide) (by decide)
    · exact g_acP g c
theorem fal_tk (e : Nat) : (falP p e).tk = p.tk := by
  unfold falP
  split <;> rfl
theorem q_scnQ (g : QI at9 p) : QI at9 (scnQ p r) ∧ (scnQ p r).tk = p.tk := by
  have h1 : QI at9 (if 0 < r 3 ∧ canS r = false then falP p 1 else p) ∧ (if 0 < r 3 ∧ canS r = false then falP p 1 else p).tk = p.tk := by
    split
    · exact ⟨q_fal g (by decide), fal_tk 1⟩
    · exact ⟨g, rfl⟩
  unfold scnQ
  split
  · exact h1
  · exact ⟨q_fal h1.1 (by decide), (fal_tk 4).trans h1.2⟩
theorem q_dsp (hn : at9 < n) (hf : f at9 = 63) (g : QI at9 p) : QI at9 (dspD f n (p, r)).1 := by
  unfold dspD
  by_cases z : p.er = 0
  · rw [if_pos z, if_neg g.2.2.1]
    unfold stmD
    by_cases w1 : wdP f p 16 = true
    · rw [if_pos w1]
      obtain ⟨q1, q2⟩ := q_scnQ (r := r) g
      have a1 : QI at9 (advP f n (scnQ p r)) := q_adv hn hf ⟨q1, fun _ => by rw [q2, wd_tk w1]; decide⟩
      dsimp only
      unfold scn3 scn2
      exact q_sem hn hf (q_tkP hn hf a1 0 3)
    · rw [if_neg w1]
      by_cases w2 : wdP f p 5 = true
      · rw [if_pos w2]
        unfold actD
        split
        · have a1 : QI at9 (advP f n p) := q_adv hn hf ⟨g, fun _ => by rw [wd_tk w2]; decide⟩
          have a2 : QI at9 (act2 f n p r (r 3 - 1)) := by
            unfold act2
            exact q_adv hn hf (g_anP a1 _)
          dsimp only
          unfold act5 act4 act3
          exact q_sem hn hf (q_tkP hn hf (q_tkP hn hf a2 0 199) 0 199)
        · exact q_fal g (e := _) (by decide)
      · rw [if_neg w2]
        by_cases w3 : wdP f p 18 = true
        · rw [if_pos w3]
          unfold shtD
          split
          · exact q_fal g (e := _) (by decide)
          · split
            · have a1 : QI at9 (advP f n p) := q_adv hn hf ⟨g, fun _ => by rw [wd_tk w3]; decide⟩
              have a3 : QI at9 (sht3 f n p) := by
                unfold sht3 sht2
                exact q_tkP hn hf (q_tkP hn hf a1 0 199) 0 199
              have a4 : QI at9 (sht4 f n p r (r 3 - 1)) := by
                unfold sht4
                exact q_adv hn hf (g_suP a3 _ _ _)
              have a5 : QI at9 (sht5 f n p r (r 3 - 1)) := by
                unfold sht5
                exact q_adv hn hf (g_prP a4 _ _)
              dsimp only
              unfold sht7 sht6
              exact q_sem hn hf (q_tkP hn hf a5 1 99)
            · exact q_fal g (e := _) (by decide)
        · rw [if_neg w3]
          exact q_fal g (e := _) (by decide)
  · rw [if_neg z]
    exact g
theorem q_it (hn : at9 < n) (hf : f at9 = 63) : ∀ k (X : PS × RHO), QI at9 X.1 → QI at9 (iterD f n k X).1 := by
  intro k
  induction k with
  | zero => exact fun X h => h
  | succ k ih => exact fun X h => ih _ (q_dsp (p := X.1) (r := X.2) hn hf h)
theorem q_ld (hn : at9 < n) (hf : f at9 = 63) : ¬ (ldX f n).1.er = 0 ∧ (ldX f n).1.er ≤ 4 ∧ (ldX f n).1.st ≤ at9 := by
  have g0 : QI at9 (ld0 f n).1 := by
    have a0 := q_nx hn hf (Nat.zero_le at9)
    have a1 : QI at9 (lim1 f n (nxT f n 0)) := by
      unfold lim1
      exact q_adv hn hf (g_exW a0 8)
    unfold ld0
    dsimp only
    unfold lim5 lim4 lim3 lim2
    exact q_sem hn hf (q_tkP hn hf (q_tkP hn hf (q_tkP hn hf a1 0 99) 0 2000) 0 2000)
  obtain ⟨⟨k, hk⟩, b⟩ := (ld_ex f n).choose_spec
  have hk : ldX f n = iterD f n k (ld0 f n) := hk
  have b : FIN (ldX f n) := b
  have g := q_it hn hf k _ g0
  rw [← hk] at g
  refine ⟨?_, g.2.1, g.1⟩
  rcases b with b | b
  · exact b
  · exact absurd b.1 g.2.2.1
end QM
/-! the two texts that the law writes down -/
def t11 : List Int := cod 11
def t10 : List Int := cod 10
theorem t11_B : (decide ((iterD (gTx t11) t11.length 3 (ld0 (gTx t11) t11.length)).1.er = 2) && decide ((iterD (gTx t11) t11.length 3 (ld0 (gTx t11) t11.length)).1.st = 19)) = true := by decide +kernel
theorem t10_B : (decide ((iterD (gTx t10) t10.length 5 (ld0 (gTx t10) t10.length)).1.er = 3) && decide ((iterD (gTx t10) t10.length 5 (ld0 (gTx t10) t10.length)).1.st = 42)) = true := by decide +kernel
theorem ld_t11 : (ldX (gTx t11) t11.length).1.er = 2 ∧ (ldX (gTx t11) t11.length).1.st = 19 := by
  have h := t11_B
  rw [Bool.and_eq_true, decide_eq_true_eq, decide_eq_true_eq] at h
  rw [ldX_eq (Y := iterD (gTx t11) t11.length 3 (ld0 (gTx t11) t11.length)) ⟨3, rfl⟩ (Or.inl (by rw [h.1]; decide))]
  exact h
theorem ld_t10 : (ldX (gTx t10) t10.length).1.er = 3 ∧ (ldX (gTx t10) t10.length).1.st = 42 := by
  have h := t10_B
  rw [Bool.and_eq_true, decide_eq_true_eq, decide_eq_true_eq] at h
  rw [ldX_eq (Y := iterD (gTx t10) t10.length 5 (ld0 (gTx t10) t10.length)) ⟨5, rfl⟩ (Or.inl (by rw [h.1]; decide))]
  exact h
