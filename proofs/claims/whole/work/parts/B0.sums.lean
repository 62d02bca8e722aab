/-! STAGE 2: bestShot: the faults of a board with the shots of a scene in another order -/
def lsS (b : Nat → Int) : List Nat → Int
  | [] => 0
  | k :: ks => b k + lsS b ks
theorem ls_perm {b : Nat → Int} {x y : List Nat} (h : x.Perm y) : lsS b x = lsS b y := by
  induction h with
  | nil => rfl
  | cons a _ ih => show b a + _ = b a + _; rw [ih]
  | swap a c l => show b c + (b a + lsS b l) = b a + (b c + lsS b l); omega
  | trans _ _ ih1 ih2 => rw [ih1, ih2]
theorem ls_nn {b : Nat → Int} (h : ∀ k, 0 ≤ b k) : ∀ x, 0 ≤ lsS b x := by
  intro x
  induction x with
  | nil => exact Int.le_refl 0
  | cons a x ih => have := h a; show 0 ≤ b a + lsS b x; omega
theorem sm_cg {f g : Int → Int} : ∀ n : Nat, (∀ k : Nat, k < n → f k = g k) → smS f n = smS g n := by
  intro n
  induction n with
  | zero => intro _; rfl
  | succ n ih =>
    intro h
    show smS f n + f n = smS g n + g n
    rw [ih (fun k hk => h k (by omega)), h n (by omega)]
theorem sm_add (f g : Int → Int) : ∀ n : Nat, smS (fun s => f s + g s) n = smS f n + smS g n := by
  intro n
  induction n with
  | zero => rfl
  | succ n ih =>
    show smS (fun s => f s + g s) n + (f n + g n) = smS f n + f n + (smS g n + g n)
    rw [ih]; omega
theorem sm_shift (g : Int → Int) : ∀ n : Nat, smS g (n + 1) = g 0 + smS (fun i => g (i + 1)) n := by
  intro n
  induction n with
  | zero => show 0 + g ((0 : Nat) : Int) = g 0 + 0; rw [Int.zero_add, Int.add_zero]; rfl
  | succ n ih =>
    show smS g (n + 1) + g ((n + 1 : Nat) : Int) = g 0 + (smS (fun i => g (i + 1)) n + g ((n : Int) + 1))
    rw [ih]
    have e : ((n + 1 : Nat) : Int) = (n : Int) + 1 := rfl
    rw [e]
    omega
theorem sm_nn {f : Int → Int} : ∀ n : Nat, (∀ k : Nat, k < n → 0 ≤ f k) → 0 ≤ smS f n := by
  intro n
  induction n with
  | zero => intro _; exact Int.le_refl 0
  | succ n ih =>
    intro h
    have h1 := ih (fun k hk => h k (by omega))
    have h2 := h n (by omega)
    show 0 ≤ smS f n + f n
    omega
theorem sm_blk (h : Int → Int) (f m : Nat) : ∀ n : Nat, smS (fun s => if (f : Int) ≤ s ∧ s < (f : Int) + m then h (s - f) else 0) n = smS h (min (n - f) m) := by
  intro n
  induction n with
  | zero =>
    have e : min (0 - f) m = 0 := by omega
    rw [e]
    rfl
  | succ n ih =>
    show smS _ n + (if (f : Int) ≤ (n : Int) ∧ (n : Int) < (f : Int) + m then h ((n : Int) - f) else 0) = _
    rw [ih]
    by_cases z : (f : Int) ≤ (n : Int) ∧ (n : Int) < (f : Int) + m
    · have e : min (n + 1 - f) m = min (n - f) m + 1 := by omega
      have e2 : (n : Int) - f = ((min (n - f) m : Nat) : Int) := by omega
      rw [if_pos z, e, e2]
      rfl
    · have e : min (n + 1 - f) m = min (n - f) m := by omega
      rw [if_neg z, e]
      omega
theorem cst_sm (pr : Int → Nat → Int) : ∀ (o : List Nat) (l : Int), cstL pr l o = smS (fun i => if i = 0 then pr l (o.getD 0 0) else pr (o.getD (i.toNat - 1) 0 : Int) (o.getD i.toNat 0)) o.length := by
  intro o
  induction o with
  | nil => intro l; rfl
  | cons k ks ih =>
    intro l
    rw [List.length_cons, sm_shift]
    show pr l k + cstL pr (k : Int) ks = _
    rw [ih (k : Int)]
    have e0 : (if (0 : Int) = 0 then pr l ((k :: ks).getD 0 0) else pr ((k :: ks).getD ((0 : Int).toNat - 1) 0 : Int) ((k :: ks).getD (0 : Int).toNat 0)) = pr l k := if_pos rfl
    rw [e0]
    congr 1
    refine sm_cg _ (fun i hi => ?_)
    have n1 : ¬ (i : Int) + 1 = 0 := by omega
    have t1 : ((i : Int) + 1).toNat = i + 1 := by omega
    show _ = if (i : Int) + 1 = 0 then _ else pr (((k :: ks).getD (((i : Int) + 1).toNat - 1) 0 : Nat) : Int) ((k :: ks).getD ((i : Int) + 1).toNat 0)
    rw [if_neg n1, t1, Nat.add_sub_cancel, List.getD_cons_succ]
    by_cases z : i = 0
    · subst z
      rfl
    · have n2 : ¬ (i : Int) = 0 := by omega
      show (if (i : Int) = 0 then _ else pr ((ks.getD ((i : Int).toNat - 1) 0 : Nat) : Int) (ks.getD (i : Int).toNat 0)) = _
      rw [if_neg n2, Int.toNat_natCast]
      obtain ⟨i, rfl⟩ : ∃ t, i = t + 1 := ⟨i - 1, by omega⟩
      rw [Nat.add_sub_cancel, List.getD_cons_succ]
theorem ls_sm (b : Nat → Int) : ∀ o : List Nat, lsS b o = smS (fun i => b (o.getD i.toNat 0)) o.length := by
  intro o
  induction o with
  | nil => rfl
  | cons k ks ih =>
    rw [List.length_cons, sm_shift]
    show b k + lsS b ks = _
    rw [ih]
    have e0 : b ((k :: ks).getD (0 : Int).toNat 0) = b k := rfl
    rw [e0]
    congr 1
    refine sm_cg _ (fun i hi => ?_)
    have t1 : ((i : Int) + 1).toNat = i + 1 := by omega
    show b (ks.getD (i : Int).toNat 0) = b ((k :: ks).getD ((i : Int) + 1).toNat 0)
    rw [t1, List.getD_cons_succ, Int.toNat_natCast]
theorem pm_B : ((List.range 7).all fun m => (trL m m 0).all fun o => o.isPerm (List.range m)) = true := by decide +kernel
theorem pm_ok {m : Nat} (hm : m ≤ 6) {o : List Nat} (h : o ∈ trL m m 0) : o.Perm (List.range m) := by
  have h1 := List.all_eq_true.mp pm_B m (List.mem_range.mpr (by omega))
  exact List.isPerm_iff.mp (List.all_eq_true.mp h1 o h)
/-- the shots of the block from f on, in the order o -/
def qB (f m : Nat) (o : List Nat) : Int → Int := fun i => if (f : Int) ≤ i ∧ i < (f : Int) + m then (f : Int) + (o.getD (i - f).toNat 0 : Int) else i
theorem qB_in {f m : Nat} {o : List Nat} {k : Nat} (h : k < m) : qB f m o ((f : Int) + k) = (f : Int) + (o.getD k 0 : Int) := by
  unfold qB
  have e : ((f : Int) + k - f).toNat = k := by omega
  rw [if_pos (by omega), e]
theorem qB_out {f m : Nat} {o : List Nat} {i : Int} (h : ¬ ((f : Int) ≤ i ∧ i < (f : Int) + m)) : qB f m o i = i := by
  unfold qB
  rw [if_neg h]
theorem perm_lt {m : Nat} {o : List Nat} (h : o.Perm (List.range m)) : o.length = m ∧ ∀ k, k < m → o.getD k 0 < m := by
  have hl : o.length = m := by rw [h.length_eq, List.length_range]
  refine ⟨hl, fun k hk => ?_⟩
  have hm : o.getD k 0 ∈ o := by
    rw [List.getD_eq_getElem?_getD, List.getElem?_eq_getElem (by omega)]
    exact List.getElem_mem (by omega)
  exact List.mem_range.mp (h.mem_iff.mp hm)
section SUM
variable {ρ : RHO} {c : Int} {f m : Nat}
theorem qB_Q (V : VB ρ) (hfm : (f : Int) + m ≤ ρ 4) (hsc : ∀ s : Int, (f : Int) ≤ s → s < (f : Int) + m → scS ρ s = c) {o : List Nat} (ho : ∀ k, k < m → o.getD k 0 < m) : QP ρ (qB f m o) := by
  intro i i0 i1
  by_cases z : (f : Int) ≤ i ∧ i < (f : Int) + m
  · have e := qB_in (f := f) (m := m) (o := o) (k := (i - f).toNat) (by omega)
    have e2 : (f : Int) + ((i - f).toNat : Int) = i := by omega
    rw [e2] at e
    have h := ho (i - f).toNat (by omega)
    rw [e]
    exact ⟨by omega, by rw [hsc _ (by omega) (by omega), hsc i z.1 z.2]⟩
  · rw [qB_out z]
    exact ⟨⟨i0, i1⟩, rfl⟩
/-- what the order doesn't touch -/
def kBs (ρ : RHO) (f m : Nat) : Int := smS (fun s => if (f : Int) ≤ s ∧ s < (f : Int) + m then 0 else kcntS ρ s) (ρ 4).toNat + lsS (fun k => b2i (k3S ρ ((f : Int) + k))) (List.range m)
theorem kBs_nn : 0 ≤ kBs ρ f m := by
  have h1 : 0 ≤ smS (fun s => if (f : Int) ≤ s ∧ s < (f : Int) + m then 0 else kcntS ρ s) (ρ 4).toNat := sm_nn _ (fun k _ => by
    show 0 ≤ if (f : Int) ≤ (k : Int) ∧ (k : Int) < (f : Int) + m then 0 else kcntS ρ k
    split
    · omega
    · exact (kcnt_range ρ k).1)
  have h2 := ls_nn (b := fun k => b2i (k3S ρ ((f : Int) + k))) (fun k => by
    show 0 ≤ b2i _
    unfold b2i
    split <;> omega) (List.range m)
  unfold kBs
  omega
theorem fault_o (V : VB ρ) (hfm : (f : Int) + m ≤ ρ 4) (hsc : ∀ s : Int, (f : Int) ≤ s → s < (f : Int) + m → scS ρ s = c) (hlo : ∀ s : Int, 0 ≤ s → s < (f : Int) → scS ρ s < c) (hhi : ∀ s : Int, (f : Int) + m ≤ s → s < ρ 4 → c < scS ρ s) {o : List Nat} (hp : o.Perm (List.range m)) : faultS (shP ρ (qB f m o)) = kBs ρ f m + cstL (prB ρ f) (-1) o := by
  have hn := V.n
  obtain ⟨hl, ho⟩ := perm_lt hp
  have Q := qB_Q V hfm hsc ho
  have e4 : shP ρ (qB f m o) 4 = ρ 4 := shP_low (by decide)
  unfold faultS
  rw [e4]
  obtain ⟨A, hA⟩ : ∃ A : Int → Int, ∀ s, A s = if (f : Int) ≤ s ∧ s < (f : Int) + m then 0 else kcntS ρ s := ⟨_, fun _ => rfl⟩
  obtain ⟨h1, hh1⟩ : ∃ h : Int → Int, ∀ i, h i = if i = 0 then prB ρ f (-1) (o.getD 0 0) else prB ρ f (o.getD (i.toNat - 1) 0 : Int) (o.getD i.toNat 0) := ⟨_, fun _ => rfl⟩
  obtain ⟨h2, hh2⟩ : ∃ h : Int → Int, ∀ i, h i = b2i (k3S ρ ((f : Int) + (o.getD i.toNat 0 : Int))) := ⟨_, fun _ => rfl⟩
  have one : ∀ s : Nat, s < (ρ 4).toNat → kcntS (shP ρ (qB f m o)) s = A s + (if (f : Int) ≤ (s : Int) ∧ (s : Int) < (f : Int) + m then h1 ((s : Int) - f) + h2 ((s : Int) - f) else 0) := by
    intro s hs
    rw [sh_kcnt V Q (by omega) (by omega)]
    rw [hA]
    by_cases z : (f : Int) ≤ (s : Int) ∧ (s : Int) < (f : Int) + m
    · rw [if_pos z, if_pos z]
      obtain ⟨i, hi⟩ : ∃ i : Nat, i = s - f := ⟨_, rfl⟩
      have si : (s : Int) = (f : Int) + i := by omega
      have im : i < m := by omega
      have q1 : qB f m o (s : Int) = (f : Int) + (o.getD i 0 : Int) := by rw [si]; exact qB_in im
      have e1 : (s : Int) - f = (i : Int) := by omega
      rw [q1, e1, hh1, hh2, Int.toNat_natCast]
      by_cases w : i = 0
      · have bf : befS ρ s = false := by
          unfold befS
          by_cases y : 0 < (s : Int)
          · have a1 := hlo ((s : Int) - 1) (by omega) (by omega)
            have a2 := hsc s z.1 z.2
            rw [decide_eq_false (show ¬ scS ρ ((s : Int) - 1) = scS ρ s by omega), Bool.and_false]
          · rw [decide_eq_false y, Bool.false_and]
        have pz : prB ρ f (-1) (o.getD 0 0) = 0 := by unfold prB; rw [if_pos rfl]
        rw [bf, if_neg (by decide), if_pos (by omega), pz]
        omega
      · have a1 := hsc ((s : Int) - 1) (by omega) (by omega)
        have a2 := hsc s z.1 z.2
        have bf : befS ρ s = true := by
          unfold befS
          rw [decide_eq_true (show 0 < (s : Int) by omega), decide_eq_true (show scS ρ ((s : Int) - 1) = scS ρ s by omega)]
          rfl
        have q0 : qB f m o ((s : Int) - 1) = (f : Int) + (o.getD (i - 1) 0 : Int) := by
          have : (s : Int) - 1 = (f : Int) + ((i - 1 : Nat) : Int) := by omega
          rw [this]
          exact qB_in (by omega)
        have pz : prB ρ f (o.getD (i - 1) 0 : Int) (o.getD i 0) = kbP ρ ((f : Int) + (o.getD (i - 1) 0 : Int)) ((f : Int) + (o.getD i 0 : Int)) := by
          unfold prB
          rw [if_neg (by omega)]
        rw [bf, if_pos rfl, if_neg (by omega), q0, pz]
        omega
    · rw [if_neg z, if_neg z, qB_out z, kcnt_P]
      by_cases w : befS ρ s = true
      · rw [if_pos w, if_pos w]
        unfold befS at w
        rw [Bool.and_eq_true, decide_eq_true_eq, decide_eq_true_eq] at w
        have nz : ¬ ((f : Int) ≤ (s : Int) - 1 ∧ (s : Int) - 1 < (f : Int) + m) := by
          intro y
          have a1 := hsc ((s : Int) - 1) y.1 y.2
          have a2 := hhi s (by omega) (by omega)
          omega
        rw [qB_out nz]
        omega
      · rw [if_neg w, if_neg w]
        omega
  have s1 : smS (kcntS (shP ρ (qB f m o))) (ρ 4).toNat = smS A (ρ 4).toNat + smS (fun s => if (f : Int) ≤ s ∧ s < (f : Int) + m then h1 (s - f) + h2 (s - f) else 0) (ρ 4).toNat := (sm_cg (g := fun s => A s + (if (f : Int) ≤ s ∧ s < (f : Int) + m then h1 (s - f) + h2 (s - f) else 0)) _ one).trans (sm_add A (fun s => if (f : Int) ≤ s ∧ s < (f : Int) + m then h1 (s - f) + h2 (s - f) else 0) _)
  have s2 : smS (fun s => if (f : Int) ≤ s ∧ s < (f : Int) + m then h1 (s - f) + h2 (s - f) else 0) (ρ 4).toNat = smS (fun i => h1 i + h2 i) (min ((ρ 4).toNat - f) m) := sm_blk (fun i => h1 i + h2 i) f m _
  have em : min ((ρ 4).toNat - f) m = o.length := by omega
  have s3 : smS (fun i => h1 i + h2 i) o.length = smS h1 o.length + smS h2 o.length := sm_add h1 h2 _
  have s4 : smS h1 o.length = cstL (prB ρ f) (-1) o := by
    rw [cst_sm]
    exact sm_cg _ (fun k _ => hh1 k)
  have s5 : smS h2 o.length = lsS (fun k => b2i (k3S ρ ((f : Int) + k))) (List.range m) := by
    rw [← ls_perm hp, ls_sm]
    exact sm_cg _ (fun k _ => hh2 k)
  have s6 : smS A (ρ 4).toNat = smS (fun s => if (f : Int) ≤ s ∧ s < (f : Int) + m then 0 else kcntS ρ s) (ρ 4).toNat := sm_cg _ (fun k _ => hA k)
  rw [s1, s2, em, s3, s4, s5, s6]
  unfold kBs
  omega
end SUM
