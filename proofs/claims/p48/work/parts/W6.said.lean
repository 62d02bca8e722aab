/-! THE LAW, STAGE 2: the text that the law's board tells of itself -/
/-- the old cells of texts and digits -/
def OLW (sh : HS) (I : HI) (R : HR) (K : Nat → Nat) : Prop := DIG sh I K ∧ ∀ i, i < 22 → STRG sh I R (K i) (cod i)
theorem OLW.ex0 {sh sh' : HS} {I I' : HI} {R R' : HR} {K : Nat → Nat} (h : OLW sh I R K) (e : EXH (fun _ => False) sh I R sh' I' R') : OLW sh' I' R' K := ⟨h.1.ex e (fun _ _ _ z => z), fun i hi => (h.2 i hi).ex0 e⟩
theorem cod_7 : cod 6 = cod 5 ++ [32] ∧ cod 9 = cod 8 ++ [32] ∧ cod 17 = cod 16 ++ [32] ∧ cod 19 = cod 18 ++ [32] ∧ cod 1 = [32, 59, 10] ∧ cod 2 = [59, 10] ∧ cod 0 = [] ∧ cod 3 = [63] := by decide +kernel
theorem cod_chr {i : Nat} (hi : i < 22) : CHR (cod i) := by
  have h : ((List.range 22).all fun i => (cod i).all fun x => decide (0 ≤ x ∧ x ≤ 127)) = true := by decide +kernel
  exact fun x hx => of_decide_eq_true (List.all_eq_true.mp (List.all_eq_true.mp h i (List.mem_range.mpr hi)) x hx)
section LEN
variable {ρ : RHO}
/-- the shots of the scenes below c among the first s -/
def clS (ρ : RHO) (c : Int) : Nat → Nat
  | 0 => 0
  | s + 1 => clS ρ c s + (if scS ρ s < c then 1 else 0)
theorem cl_le (c : Int) : ∀ s, clS ρ c s ≤ s
  | 0 => Nat.le_refl 0
  | s + 1 => by
    have := cl_le c s
    show clS ρ c s + (if scS ρ s < c then 1 else 0) ≤ s + 1
    split <;> omega
theorem dl1 {x : Int} (h : 0 ≤ x ∧ x ≤ 9) : (decS x).length = 1 := by rw [decS_len ⟨h.1, by omega⟩, if_pos (by omega)]
theorem dl2 {x : Int} (h : 0 ≤ x ∧ x ≤ 99) : (decS x).length ≤ 2 := by
  rw [decS_len ⟨h.1, by omega⟩]
  by_cases c : x < 10
  · rw [if_pos c]; omega
  · rw [if_neg c, if_pos (by omega)]; omega
theorem dl3 {x : Int} (h : 0 ≤ x ∧ x ≤ 999) : (decS x).length ≤ 3 := by
  rw [decS_len ⟨h.1, by omega⟩]
  by_cases c : x < 10
  · rw [if_pos c]; omega
  · rw [if_neg c]
    by_cases d : x < 100
    · rw [if_pos d]; omega
    · rw [if_neg d, if_pos (by omega)]; omega
theorem len_A (V : VB ρ) {c a : Nat} (hc : (c : Int) < ρ 3) (ha : a < 6) : (txA ρ c a).length ≤ 16 := by
  have hcn := cod_n
  unfold txA
  by_cases z : inS ρ c a = true
  · rw [if_pos z]
    have sc := (V.scene (show (0 : Int) ≤ c by omega) hc).2.2 a (by omega) (by omega) z
    have d1 := dl1 (x := (a : Int)) ⟨by omega, by omega⟩
    have d2 := dl3 (x := axS ρ c a) ⟨sc.1.1, by omega⟩
    have d3 := dl3 (x := ayS ρ c a) ⟨sc.2.1, by omega⟩
    simp only [List.length_append, List.length_cons, List.length_nil, hcn.1]
    omega
  · rw [if_neg z]
    exact Nat.zero_le _
theorem len_ac (V : VB ρ) {c : Nat} (hc : (c : Int) < ρ 3) : ∀ a, a ≤ 6 → (acT ρ c a).length ≤ 16 * a
  | 0, _ => Nat.le_refl 0
  | a + 1, h => by
    have h1 := len_ac V hc a (by omega)
    have h2 := len_A V hc (show a < 6 by omega)
    show (acT ρ c a ++ txA ρ c a).length ≤ _
    rw [List.length_append]
    omega
theorem len_S (V : VB ρ) {s : Nat} (hs : (s : Int) < ρ 4) : (txS ρ s).length ≤ 25 := by
  have hcn := cod_n
  obtain ⟨v1, v2, v3, v4, v5, v6, v7, v8⟩ := V.shot (show (0 : Int) ≤ s by omega) hs
  have d1 := dl3 (x := cxS ρ s) ⟨v2.1, by omega⟩
  have d2 := dl3 (x := cyS ρ s) ⟨v3.1, by omega⟩
  have d3 := dl1 (x := suS ρ s) ⟨v4.1, by omega⟩
  have d4 := dl2 (x := lnS ρ s) ⟨by omega, by omega⟩
  have d5 : (pT (paS ρ s)).length ≤ 4 := by
    unfold pT
    rcases v6 with h | ⟨h, -⟩
    · rw [if_pos (by omega), hcn.2.2.1]; exact Nat.le_refl 4
    · rw [if_neg (by omega), dl1 ⟨h.1, by omega⟩]; omega
  unfold txS
  simp only [List.length_append, List.length_cons, List.length_nil, hcn.2.2.2.2]
  omega
theorem len_sh (V : VB ρ) {c : Nat} : ∀ s : Nat, (s : Int) ≤ ρ 4 → (shT ρ c s).length + 25 * clS ρ c s ≤ 25 * clS ρ ((c : Int) + 1) s
  | 0, _ => Nat.le_refl 0
  | s + 1, h => by
    have h1 := len_sh V (c := c) s (by omega)
    have h2 := len_S V (show (s : Int) < ρ 4 by omega)
    show (shT ρ c s ++ (if scS ρ s = c then txS ρ s else [])).length + 25 * (clS ρ c s + (if scS ρ s < c then 1 else 0)) ≤ 25 * (clS ρ ((c : Int) + 1) s + (if scS ρ s < (c : Int) + 1 then 1 else 0))
    rw [List.length_append]
    by_cases z : scS ρ s = c
    · rw [if_pos z, if_neg (by omega), if_pos (by omega)]
      omega
    · rw [if_neg z]
      show (shT ρ c s).length + 0 + _ ≤ _
      by_cases w : scS ρ s < c
      · rw [if_pos w, if_pos (by omega)]; omega
      · rw [if_neg w, if_neg (by omega)]; omega
theorem len_sc (V : VB ρ) : ∀ c : Nat, (c : Int) ≤ ρ 3 → (scT ρ c).length ≤ 21 + 104 * c + 25 * clS ρ c (ρ 4).toNat
  | 0, _ => by
    have hcn := cod_n
    have lim := V.lim
    have d1 := dl2 (x := ρ 0) lim.1
    have d2 := (decS_l (x := ρ 1) ⟨lim.2.1.1, by omega⟩).2
    have d3 := (decS_l (x := ρ 2) ⟨lim.2.2.1, by omega⟩).2
    show (txL ρ).length ≤ _
    unfold txL
    simp only [List.length_append, List.length_cons, List.length_nil, hcn.2.1]
    omega
  | c + 1, h => by
    have hcn := cod_n
    have n4 := V.n
    have h1 := len_sc V c (by omega)
    have h2 := len_ac V (c := c) (by omega) 6 (by omega)
    have h3 := len_sh V (c := c) (ρ 4).toNat (by omega)
    have sc := (V.scene (show (0 : Int) ≤ c by omega) (show (c : Int) < ρ 3 by omega)).1
    have d1 := dl1 (x := ltS ρ c) ⟨sc.1, by omega⟩
    show (scT ρ c ++ (txC ρ c ++ (acT ρ c 6 ++ shT ρ c (ρ 4).toNat))).length ≤ _
    unfold txC
    simp only [List.length_append, List.length_cons, List.length_nil, hcn.2.2.2.1]
    have e : (((c + 1 : Nat) : Int)) = (c : Int) + 1 := rfl
    rw [e]
    omega
theorem len_all (V : VB ρ) {c : Nat} (hc : (c : Int) ≤ ρ 3) : (scT ρ c).length ≤ 633 := by
  have h := len_sc V c hc
  have h1 := cl_le (ρ := ρ) (c : Int) (ρ 4).toNat
  have m := V.m
  have n4 := V.n
  omega
theorem sh_mono {c : Nat} : ∀ d s : Nat, (shT ρ c s).length ≤ (shT ρ c (s + d)).length
  | 0, s => Nat.le_refl _
  | d + 1, s => by
    have := sh_mono (c := c) d s
    show _ ≤ (shT ρ c (s + d) ++ _).length
    rw [List.length_append]
    omega
theorem ac_mono {c : Nat} : ∀ d a : Nat, (acT ρ c a).length ≤ (acT ρ c (a + d)).length
  | 0, a => Nat.le_refl _
  | d + 1, a => by
    have := ac_mono (c := c) d a
    show _ ≤ (acT ρ c (a + d) ++ _).length
    rw [List.length_append]
    omega
theorem CHR.sc (V : VB ρ) : ∀ c : Nat, (c : Int) ≤ ρ 3 → CHR (scT ρ c) := by
  have c32 : CHR [32] := fun x hx => by rw [List.mem_singleton.mp hx]; decide
  have cc : ∀ {x : Int} {M : List Int}, (0 ≤ x ∧ x ≤ 127) → CHR M → CHR (x :: M) := fun {x M} h g y hy => by
    rcases List.mem_cons.mp hy with z | z
    · rw [z]; exact h
    · exact g y z
  have nil : CHR [] := fun x hx => absurd hx (by simp)
  have m := V.m
  have n4 := V.n
  have ac : ∀ c : Nat, (c : Int) < ρ 3 → ∀ a, a ≤ 6 → CHR (acT ρ c a) := by
    intro c hc a
    induction a with
    | zero => exact fun _ => nil
    | succ a ih =>
      intro ha
      refine (ih (by omega)).app ?_
      unfold txA
      by_cases z : inS ρ c a = true
      · rw [if_pos z]
        have sc := (V.scene (show (0 : Int) ≤ c by omega) hc).2.2 a (by omega) (by omega) z
        exact (cod_chr (by decide)).app (cc (by decide) ((decS_chr ⟨by omega, by omega⟩).app (cc (by decide) ((decS_chr ⟨sc.1.1, by omega⟩).app (cc (by decide) ((decS_chr ⟨sc.2.1, by omega⟩).app (cc (by decide) nil)))))))
      · rw [if_neg z]
        exact nil
  have st : ∀ c s : Nat, (s : Int) ≤ ρ 4 → CHR (shT ρ c s) := by
    intro c s
    induction s with
    | zero => exact fun _ => nil
    | succ s ih =>
      intro hs
      refine (ih (by omega)).app ?_
      by_cases z : scS ρ s = c
      · rw [if_pos z]
        obtain ⟨v1, v2, v3, v4, v5, v6, v7, v8⟩ := V.shot (show (0 : Int) ≤ s by omega) (show (s : Int) < ρ 4 by omega)
        have hp : CHR (pT (paS ρ s)) := by
          unfold pT
          rcases v6 with h | ⟨h, -⟩
          · rw [if_pos (by omega)]; exact cod_chr (by decide)
          · rw [if_neg (by omega)]; exact decS_chr ⟨h.1, by omega⟩
        have g1 : CHR (decS (lnS ρ s) ++ 32 :: 59 :: [10]) := (decS_chr ⟨by omega, by omega⟩).app (cc (by decide) (cc (by decide) (cc (by decide) nil)))
        have g2 : CHR (pT (paS ρ s) ++ 32 :: (decS (lnS ρ s) ++ 32 :: 59 :: [10])) := hp.app (cc (by decide) g1)
        have g3 := (decS_chr (x := suS ρ s) ⟨v4.1, by omega⟩).app (cc (x := 32) (by decide) g2)
        have g4 := (decS_chr (x := cyS ρ s) ⟨v3.1, by omega⟩).app (cc (x := 32) (by decide) g3)
        have g5 := (decS_chr (x := cxS ρ s) ⟨v2.1, by omega⟩).app (cc (x := 32) (by decide) g4)
        exact (cod_chr (i := 18) (by decide)).app (cc (x := 32) (by decide) g5)
      · rw [if_neg z]
        exact nil
  intro c
  induction c with
  | zero =>
    intro _
    have lim := V.lim
    exact (cod_chr (by decide)).app (cc (by decide) ((decS_chr ⟨lim.1.1, by omega⟩).app (cc (by decide) ((decS_chr ⟨lim.2.1.1, by omega⟩).app (cc (by decide) ((decS_chr ⟨lim.2.2.1, by omega⟩).app (cc (by decide) (cc (by decide) nil))))))))
  | succ c ih =>
    intro hc
    have sc := (V.scene (show (0 : Int) ≤ c by omega) (show (c : Int) < ρ 3 by omega)).1
    exact (ih (by omega)).app (((cod_chr (by decide)).app (cc (by decide) ((decS_chr ⟨sc.1, by omega⟩).app (cc (by decide) nil)))).app ((ac c (by omega) 6 (by omega)).app (st c _ (by omega))))
end LEN
