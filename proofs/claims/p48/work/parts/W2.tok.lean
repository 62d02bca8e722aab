/-! THE LAW, STAGE 2: the words of a text that is known -/
/-- from i on the text reads as the list does -/
def ATL (f : Nat → Int) (i : Nat) (L : List Int) : Prop := ∀ (k : Nat) (x : Int), L[k]? = some x → f (i + k) = x
theorem ATL.app {f : Nat → Int} {i : Nat} {L M : List Int} (h : ATL f i (L ++ M)) : ATL f i L ∧ ATL f (i + L.length) M := by
  refine ⟨fun k x hk => h k x ?_, fun k x hk => ?_⟩
  · rw [List.getElem?_append_left (List.getElem?_eq_some_iff.mp hk).1]
    exact hk
  · have := h (L.length + k) x (by rw [List.getElem?_append_right (by omega), show L.length + k - L.length = k by omega]; exact hk)
    rw [show i + L.length + k = i + (L.length + k) by omega]
    exact this
theorem ATL.hd {f : Nat → Int} {i : Nat} {x : Int} {M : List Int} (h : ATL f i (x :: M)) : f i = x ∧ ATL f (i + 1) M := by
  refine ⟨h 0 x rfl, fun k y hk => ?_⟩
  have := h (k + 1) y (by rw [List.getElem?_cons_succ]; exact hk)
  rw [show i + 1 + k = i + (k + 1) by omega]
  exact this
section TK
variable {f : Nat → Int} {n i : Nat}
/-- a run of bytes that a test takes, and one behind it that it doesn't -/
theorem spn_run {q : Int → Bool} : ∀ (m d i : Nat), (∀ k, k < m → i + k < n ∧ q (f (i + k)) = true) → ¬ (i + m < n ∧ q (f (i + m)) = true) → m < d ∨ i + d = n → m ≤ d → spn q f n d i = i + m := by
  intro m
  induction m with
  | zero =>
    intro d i h h2 _ _
    exact spn_out h2
  | succ m ih =>
    intro d i h h2 hd hm
    obtain ⟨d', rfl⟩ : ∃ d', d = d' + 1 := ⟨d - 1, by omega⟩
    have h0 := h 0 (by omega)
    rw [Nat.add_zero] at h0
    have e := ih d' (i + 1) (fun k hk => by
      have := h (k + 1) (by omega)
      rwa [show i + 1 + k = i + (k + 1) by omega]) (by rwa [show i + 1 + m = i + (m + 1) by omega]) (by omega) (by omega)
    rw [spn_in h0.1 h0.2, e]
    omega
theorem spn_at {q : Int → Bool} {m : Nat} (h : ∀ k, k < m → i + k < n ∧ q (f (i + k)) = true) (h2 : ¬ (i + m < n ∧ q (f (i + m)) = true)) (hi : i + m ≤ n) : spn q f n (n - i) i = i + m := by
  refine spn_run m (n - i) i h h2 (by omega) (by omega)
/-- a blank is passed over -/
theorem nx_w (hi : i < n) (hw : isWc (f i) = true) : nxT f n i = nxT f n (i + 1) := by
  unfold nxT
  obtain ⟨d, hd⟩ : ∃ d, n - i = d + 1 := ⟨n - i - 1, by omega⟩
  rw [hd, spn_in hi hw, show n - (i + 1) = d by omega]
theorem nx_tok (h : ¬ (i < n ∧ isWc (f i) = true)) : nxT f n i = tokA f n i := by
  unfold nxT
  rw [spn_out h]
theorem nx_end (h : n ≤ i) : nxT f n i = ⟨i, i, 0, 0⟩ := by
  rw [nx_tok (fun z => by omega)]
  unfold tokA
  rw [if_neg (by omega)]
theorem nx_sem (hi : i < n) (hs : f i = 59) : nxT f n i = ⟨i, i + 1, 4, 0⟩ := by
  rw [nx_tok (fun z => by rw [hs] at z; exact absurd z.2 (by decide))]
  unfold tokA
  rw [if_pos hi, if_neg (by rw [hs]; decide), if_neg (by rw [hs]; decide), if_pos hs]
theorem nx_num {L : List Int} (hA : ATL f i L) (hd : ∀ x, x ∈ L → 48 ≤ x ∧ x ≤ 57) (h0 : 0 < L.length) (h4 : L.length ≤ 4) (hn : i + L.length < n) (hx : isDc (f (i + L.length)) = false) : nxT f n i = ⟨i, i + L.length, 3, 0⟩ := by
  have hk : ∀ k, k < L.length → isDc (f (i + k)) = true ∧ isWc (f (i + k)) = false := fun k hk => by
    have e := List.getElem?_eq_getElem hk
    have := hd _ (List.getElem_mem hk)
    rw [hA k _ e]
    exact ⟨decide_eq_true this, decide_eq_false (by omega)⟩
  have h00 := hk 0 h0
  rw [Nat.add_zero] at h00
  rw [nx_tok (fun z => by rw [h00.2] at z; exact absurd z.2 (by decide))]
  have sp : spn isDc f n (n - i) i = i + L.length := spn_at (fun k hk2 => ⟨by omega, (hk k hk2).1⟩) (fun z => by rw [hx] at z; exact absurd z.2 (by decide)) (by omega)
  unfold tokA
  rw [if_pos (by omega), if_pos h00.1, sp, if_pos (by omega)]
theorem nx_word {L : List Int} (hA : ATL f i L) (hd : ∀ x, x ∈ L → 97 ≤ x ∧ x ≤ 122) (h0 : 0 < L.length) (hn : i + L.length < n) (hx : isLc (f (i + L.length)) = false) : nxT f n i = ⟨i, i + L.length, 2, 0⟩ := by
  have hk : ∀ k, k < L.length → isLc (f (i + k)) = true ∧ isWc (f (i + k)) = false ∧ isDc (f (i + k)) = false := fun k hk => by
    have e := List.getElem?_eq_getElem hk
    have := hd _ (List.getElem_mem hk)
    rw [hA k _ e]
    exact ⟨decide_eq_true this, decide_eq_false (by omega), decide_eq_false (by omega)⟩
  have h00 := hk 0 h0
  rw [Nat.add_zero] at h00
  rw [nx_tok (fun z => by rw [h00.2.1] at z; exact absurd z.2 (by decide))]
  have sp : spn isLc f n (n - i) i = i + L.length := spn_at (fun k hk2 => ⟨by omega, (hk k hk2).1⟩) (fun z => by rw [hx] at z; exact absurd z.2 (by decide)) (by omega)
  unfold tokA
  rw [if_pos (by omega), if_neg (by rw [h00.2.2]; decide), if_pos h00.1, sp]
theorem nm_dec {x : Int} (hx : 0 ≤ x ∧ x ≤ 9999) (hA : ATL f i (decS x)) : nmP f ⟨i, i + (decS x).length, 3, 0⟩ = x := by
  unfold nmP
  show dgv f i (i + (decS x).length - i) = x
  rw [show i + (decS x).length - i = (decS x).length by omega]
  have un : ∀ k, dgv f i (k + 1) = dgv f i k * 10 + f (i + k) - 48 := fun _ => rfl
  have u0 : dgv f i 0 = 0 := rfl
  unfold decS at hA ⊢
  by_cases c1 : x < 10
  · rw [if_pos c1] at hA ⊢
    have a0 := hA 0 _ rfl
    show dgv f i 1 = x
    rw [un, u0, a0]
    omega
  · rw [if_neg c1] at hA ⊢
    by_cases c2 : x < 100
    · rw [if_pos c2] at hA ⊢
      have a0 := hA 0 _ rfl
      have a1 := hA 1 _ rfl
      show dgv f i 2 = x
      rw [un, un, u0, a0, a1]
      omega
    · rw [if_neg c2] at hA ⊢
      by_cases c3 : x < 1000
      · rw [if_pos c3] at hA ⊢
        have a0 := hA 0 _ rfl
        have a1 := hA 1 _ rfl
        have a2 := hA 2 _ rfl
        show dgv f i 3 = x
        rw [un, un, un, u0, a0, a1, a2]
        omega
      · rw [if_neg c3] at hA ⊢
        have a0 := hA 0 _ rfl
        have a1 := hA 1 _ rfl
        have a2 := hA 2 _ rfl
        have a3 := hA 3 _ rfl
        show dgv f i 4 = x
        rw [un, un, un, un, u0, a0, a1, a2, a3]
        omega
theorem decS_l {x : Int} (hx : 0 ≤ x ∧ x ≤ 9999) : 1 ≤ (decS x).length ∧ (decS x).length ≤ 4 := by
  rw [decS_len hx]
  by_cases c1 : x < 10
  · rw [if_pos c1]; omega
  · rw [if_neg c1]
    by_cases c2 : x < 100
    · rw [if_pos c2]; omega
    · rw [if_neg c2]
      split <;> omega
theorem dec_isD {x : Int} (hx : 0 ≤ x ∧ x ≤ 9999) : ∀ c, c ∈ decS x → 48 ≤ c ∧ c ≤ 57 := decS_c hx
/-- a number with a blank or a semicolon behind it -/
theorem tk_num {x y lo hi : Int} {M : List Int} (hx : 0 ≤ x ∧ x ≤ 9999) (hA : ATL f i (decS x ++ y :: M)) (hy : isDc y = false) (hn : i + (decS x).length < n) (hlo : lo ≤ x) (hhi : x ≤ hi) :
    (nxT f n i).tk = 3 ∧ (nxT f n i).er = 0 ∧ nmP f (nxT f n i) = x ∧ okN f (nxT f n i) lo hi = nxT f n i ∧ tkP f n (nxT f n i) lo hi = nxT f n (i + (decS x).length) ∧ advP f n (nxT f n i) = nxT f n (i + (decS x).length) := by
  obtain ⟨h1, h2⟩ := hA.app
  obtain ⟨h3, h4⟩ := h2.hd
  have hl := decS_l hx
  have e := nx_num h1 (decS_c hx) (by omega) hl.2 hn (by rw [h3]; exact hy)
  have e2 := nm_dec hx h1
  have e4 : advP f n (nxT f n i) = nxT f n (i + (decS x).length) := by
    rw [e]
    unfold advP
    exact if_pos rfl
  rw [← e] at e2
  have tk3 : (nxT f n i).tk = 3 := by rw [e]; rfl
  have e3 : okN f (nxT f n i) lo hi = nxT f n i := by
    unfold okN
    rw [if_pos tk3, e2, if_pos ⟨hlo, hhi⟩]
  exact ⟨tk3, by rw [e]; rfl, e2, e3, by unfold tkP; rw [e3, e4], e4⟩
theorem tk_b {y : Int} {M : List Int} (hA : ATL f i (y :: M)) (hy : y = 32 ∨ y = 10) (hn : i < n) : nxT f n i = nxT f n (i + 1) ∧ ATL f (i + 1) M := by
  obtain ⟨h3, h4⟩ := hA.hd
  exact ⟨nx_w hn (by rw [h3]; exact decide_eq_true hy), h4⟩
theorem tk_sem {M : List Int} (hA : ATL f i (59 :: M)) (hn : i < n) : semP f n (nxT f n i) = nxT f n (i + 1) := by
  have h3 := hA.hd.1
  have e := nx_sem hn h3
  unfold semP okS
  rw [e]
  rw [if_pos (show PS.tk (i, i + 1, 4, 0) = 4 from rfl)]
  unfold advP
  exact if_pos rfl
theorem mtB_of {s : Nat} {L : List Int} (hA : ATL f s L) : ∀ d j, j + d = L.length → mtB f s L d j = true := by
  intro d
  induction d with
  | zero => exact fun _ _ => rfl
  | succ d ih =>
    intro j hj
    have e := List.getElem?_eq_getElem (l := L) (i := j) (by omega)
    show (if f (s + j) = L.getD j 0 then mtB f s L d (j + 1) else false) = true
    rw [if_pos (by rw [hA j _ e, List.getD_eq_getElem?_getD, e]; rfl)]
    exact ih (j + 1) (by omega)
theorem cod_L : ([5, 8, 15, 16, 18].all fun w => (cod w).all fun x => decide (97 ≤ x ∧ x ≤ 122)) = true := by decide +kernel
theorem cod_l {w : Nat} (hw : w ∈ [5, 8, 15, 16, 18]) : ∀ x, x ∈ cod w → 97 ≤ x ∧ x ≤ 122 := fun x hx => of_decide_eq_true (List.all_eq_true.mp (List.all_eq_true.mp cod_L w hw) x hx)
theorem cod_n : (cod 5).length = 5 ∧ (cod 8).length = 6 ∧ (cod 15).length = 4 ∧ (cod 16).length = 5 ∧ (cod 18).length = 4 := by decide +kernel
/-- a keyword with a blank behind it -/
theorem tk_word {w : Nat} (hw : w ∈ [5, 8, 15, 16, 18]) {M : List Int} (hA : ATL f i (cod w ++ 32 :: M)) (hn : i + (cod w).length < n) : nxT f n i = ⟨i, i + (cod w).length, 2, 0⟩ ∧ wdP f (nxT f n i) w = true ∧ advP f n (nxT f n i) = nxT f n (i + (cod w).length + 1) ∧ ATL f (i + (cod w).length + 1) M := by
  obtain ⟨h1, h2⟩ := hA.app
  obtain ⟨h3, h4⟩ := h2.hd
  have hc := cod_n
  have h0 : 0 < (cod w).length := by
    simp only [List.mem_cons, List.not_mem_nil, or_false] at hw
    rcases hw with z | z | z | z | z <;> subst z <;> omega
  have e := nx_word h1 (cod_l hw) h0 hn (by rw [h3]; decide)
  refine ⟨e, ?_, ?_, h4⟩
  · rw [e]
    unfold wdP
    rw [Bool.and_eq_true, Bool.and_eq_true, decide_eq_true_eq, decide_eq_true_eq]
    refine ⟨rfl, ?_, mtB_of h1 (cod w).length 0 (by omega)⟩
    show i + (cod w).length - i = (cod w).length
    omega
  · rw [e]
    unfold advP
    rw [if_pos (show PS.er (i, i + (cod w).length, 2, 0) = 0 from rfl)]
    exact nx_w hn (by show isWc (f (i + (cod w).length)) = true; rw [h3]; decide)
theorem wd_off {w v : Nat} {p : PS} {i : Nat} (hp : p = ⟨i, i + (cod w).length, 2, 0⟩) (hA : ATL f i (cod w)) (hne : (cod v).length = (cod w).length → (cod v).getD 0 0 ≠ (cod w).getD 0 0) (h0 : 0 < (cod w).length) : wdP f p v = false := by
  subst hp
  unfold wdP
  show (decide (2 = 2) && (decide (i + (cod w).length - i = (cod v).length) && mtB f i (cod v) (cod v).length 0)) = false
  by_cases z : (cod v).length = (cod w).length
  · have hx := hne z
    obtain ⟨d, hd⟩ : ∃ d, (cod v).length = d + 1 := ⟨(cod v).length - 1, by omega⟩
    have e := List.getElem?_eq_getElem (l := cod w) (i := 0) h0
    have : mtB f i (cod v) (cod v).length 0 = false := by
      rw [hd]
      show (if f (i + 0) = (cod v).getD 0 0 then _ else false) = false
      rw [if_neg (fun q => hx (by rw [← q, hA 0 _ e, List.getD_eq_getElem?_getD, e]; rfl))]
    rw [this, Bool.and_false, Bool.and_false]
  · rw [decide_eq_false (show ¬ (i + (cod w).length - i = (cod v).length) by omega), Bool.false_and, Bool.and_false]
end TK
