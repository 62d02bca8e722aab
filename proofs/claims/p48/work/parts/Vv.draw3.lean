/-! THE LAW, STAGE 2: the board drawn: lights, places, the loops -/
theorem hcF_all {P : Int → Bool} : ∀ f s : Nat, (∀ t : Nat, s ≤ t → t < s + f → P (t : Int) = false) → hcF P f s = false
  | 0, _, _ => rfl
  | f + 1, s, h => by
    show (if P (s : Int) = true then true else hcF P f (s + 1)) = false
    rw [if_neg (by rw [h s (Nat.le_refl _) (by omega)]; decide)]
    exact hcF_all f (s + 1) (fun t h1 h2 => h t (by omega) (by omega))
def ALLIN (ρ : RHO) (c : Nat) : Prop := ∀ d b : Nat, c < d → (d : Int) < ρ 3 → b < 6 → inS ρ d b = true
def SCLT (ρ : RHO) (c : Int) : Prop := ∀ k, 0 ≤ k → k < ρ 4 → scS ρ k < c
section DR
variable {K J : Nat → Nat} {fu : Nat} {A : Nat → Nat} {cap : Nat} {S : List Nat} {sh0 sh sh' : HS} {I0 I I' : HI} {R0 R R' : HR} {ρ ρ' : RHO} {s N : Nat}
theorem DRX.light (D : DRX K sh0 I0 R0 ρ A cap S sh I R) {c : Nat} (hc : (c : Int) < ρ 3) {l : Int} (hl : 0 ≤ l ∧ l ≤ 3) : DRX K sh0 I0 R0 (up1 ρ (5 + 14 * c) l) A cap S sh (u2 I (A 3) c (iz l)) R := by
  have n3 := D.n0 (Or.inl (Or.inr (Or.inr (Or.inr (Or.inl rfl))))) D.1.1.2.2.1.1 (by decide)
  obtain ⟨d1, d2, d3, d4, d5, d6⟩ := D
  have m := d3.m
  have e3 : up1 ρ (5 + 14 * c) l 3 = ρ 3 := up1_ne (by omega)
  exact ⟨d1.light d4 hc m.2 l, d2.wI d1.1.2.2.1.1 (by decide) c (iz l), lgt_V d3 (by omega) (by omega) hl, by rw [e3]; exact d4, d5.w0 n3 c (iz l), by rw [e3]; exact d6⟩
theorem DRX.place (D : DRX K sh0 I0 R0 ρ A cap S sh I R) {c a : Nat} (hc : (c : Int) < ρ 3) (ha : a < 6) (hin : inS ρ c a = true) (hs : SCLT ρ c) {x y : Int} (hx : 0 ≤ x ∧ x ≤ 199) (hy : 0 ≤ y ∧ y ≤ 199) : DRX K sh0 I0 R0 (mvA ρ c a x y) A cap S sh (u2 (u2 I (A (6 + c)) a (iz x)) (A (9 + c)) a (iz y)) R := by
  have k6 := (D.1.1.2.2.2 c hc).2.2.1
  have k9 := (D.1.1.2.2.2 c hc).2.2.2
  have n6 := D.n0 (Or.inr (Or.inl ⟨c, hc, Or.inl rfl⟩)) k6 (by decide)
  have n9 := D.n0 (Or.inr (Or.inl ⟨c, hc, Or.inr rfl⟩)) k9 (by decide)
  obtain ⟨d1, d2, d3, d4, d5, d6⟩ := D
  have m := d3.m
  have e3 : mvA ρ c a x y 3 = ρ 3 := mvA_ne (by omega) (by omega)
  refine ⟨d1.place d4 hc m.2 ha hin x y, (d2.wI k6 (by decide) a (iz x)).wI k9 (by decide) a (iz y), mvA_V d3 (by omega) hc (by omega) (by omega) hx hy ?_, by rw [e3]; exact d4, (d5.w0 n6 a (iz x)).w0 n9 a (iz y), by rw [e3]; exact d6⟩
  refine hcF_all _ _ (fun t _ ht => ?_)
  unfold hcB
  have := hs t (by omega) (by omega)
  exact decide_eq_false (fun z => by omega)
theorem DRX.gone (D : DRX K sh0 I0 R0 ρ A cap S sh I R) {c a w : Nat} (hc : (c : Int) < ρ 3) (ha : a < 6) (hw : w < 6) (hwa : ¬ w = a) (hwi : inS ρ c w = true) (hs : SCLT ρ c) : DRX K sh0 I0 R0 (goneS ρ c a) A cap S sh (u2 (u2 I (A (6 + c)) a (iz (-1))) (A (9 + c)) a (iz (-1))) R := by
  have k6 := (D.1.1.2.2.2 c hc).2.2.1
  have k9 := (D.1.1.2.2.2 c hc).2.2.2
  have n6 := D.n0 (Or.inr (Or.inl ⟨c, hc, Or.inl rfl⟩)) k6 (by decide)
  have n9 := D.n0 (Or.inr (Or.inl ⟨c, hc, Or.inr rfl⟩)) k9 (by decide)
  obtain ⟨d1, d2, d3, d4, d5, d6⟩ := D
  have m := d3.m
  have e3 : goneS ρ c a 3 = ρ 3 := goneS_ne (by omega)
  exact ⟨d1.gone d4 hc m.2 ha d3.n.1, (d2.wI k6 (by decide) a (iz (-1))).wI k9 (by decide) a (iz (-1)), goneS_V d3 hc hw hwa hwi (fun k k0 k1 => by have := hs k k0 k1; omega), by rw [e3]; exact d4, (d5.w0 n6 a (iz (-1))).w0 n9 a (iz (-1)), by rw [e3]; exact d6⟩
theorem dr_163 {F : VF} {k121 : HS → HI → HR → Nat → Nat → Nat → Nat → Int32 → Int32 → Int32 → Int32 → Int32 → Prop} {k245 : HS → HI → HR → Nat → Nat → Nat → Nat → Int32 → Int32 → Int32 → Int32 → Prop} {c a w at9 c1 c2 : Nat} {m6 v6 z0 : Int32} (D : DRX K sh0 I0 R0 ρ A cap S sh I R) (hsc : sh0 s = some (22, N)) (hN : N ≤ 2147483647) (hat : at9 ≤ 1000) (hcc : c1 ≤ 60 ∧ c2 ≤ 1000) (hc : (c : Int) < ρ 3) (ha : a < 6) (hw : w < 6) (hwi : inS ρ c w = true) (hai : inS ρ c a = true) (hs : SCLT ρ c) (hz : z0 = 1 ∨ (z0 = 0 ∧ ¬ w = a))
    (hP : ∀ ρ' I', DRX K sh0 I0 R0 ρ' A cap S sh I' R → (ρ' = goneS ρ c a ∧ ¬ w = a ∨ ∃ x y, ρ' = mvA ρ c a x y) → k121 sh I' R c1 c2 s (A 0) m6 (iz ((at9 : Int) + 1)) (iz (c : Int)) v6 (iz ((a : Int) + 1))) :
    wL_drawn_b163 K J fu F k121 k245 sh I R c1 c2 s (A 0) m6 (iz (at9 : Int)) (iz (c : Int)) v6 (iz (a : Int)) z0 := by
  have B := D.1
  have m := D.2.2.1.m
  have kS := D.2.2.2.2.1.k hsc
  obtain ⟨r1, r2, r3, r4⟩ := B.1.2.2.2 c hc
  have p1 := (oAr_n (R := R) (x := iz (c : Int)) B.1.2.2.1.2.1 c (by omega) rfl).trans r1
  have p2 := (oAr_n (R := R) (x := iz (c : Int)) B.1.2.2.1.2.2 c (by omega) rfl).trans r2
  unfold wL_drawn_b163
  refine ⟨hcc, l_cell kS hN (by omega) (by omega) (fun p p0 pm => ?_)⟩
  refine wB_of (oR_at B.1.1.1 B.1.1.2.2.2.1) ?_
  refine wB_of p1 ?_
  rcases hz with hz | ⟨hz, hwa⟩ <;> subst hz
  · rw [if_neg (by decide)]
    refine wB_of (oM_l il9 p0 (by omega) (by decide) (by decide)) ?_
    rw [il40, il10, iz_mul, iz_add]
    unfold wL_drawn_b205
    refine wB_of (oS_n r3 a (by omega) rfl) ?_
    refine wB_of (oR_at B.1.1.1 B.1.1.2.2.2.2) ?_
    refine wB_of p2 ?_
    rw [if_neg (by decide)]
    refine wB_of (oD_l il9 p0 (by omega) (by decide) (by decide)) ?_
    refine wB_of (oM_l il9 (by omega) (by omega) (by decide) (by decide)) ?_
    rw [il40, il10, iz_mul, iz_add]
    unfold wL_drawn_b238
    refine wB_of (oS_n r4 a (by omega) rfl) ?_
    rw [il1, iz_add, iz_add]
    exact hP _ _ (D.place hc ha hai hs ⟨by omega, by omega⟩ ⟨by omega, by omega⟩) (Or.inr ⟨_, _, rfl⟩)
  · rw [if_pos rfl]
    unfold wL_drawn_b205
    refine wB_of (oS_n r3 a (by omega) rfl) ?_
    refine wB_of (oR_at B.1.1.1 B.1.1.2.2.2.2) ?_
    refine wB_of p2 ?_
    rw [if_pos rfl]
    unfold wL_drawn_b238
    refine wB_of (oS_n r4 a (by omega) rfl) ?_
    rw [il1, iz_add, iz_add]
    exact hP _ _ (D.gone hc ha hw hwa hwi hs) (Or.inl ⟨rfl, hwa⟩)
theorem dr_121 {F : VF} {k245 : HS → HI → HR → Nat → Nat → Nat → Nat → Int32 → Int32 → Int32 → Int32 → Prop} {c w c1 c2 : Nat} {m6 : Int32} {v : Int} (hsc : sh0 s = some (22, N)) (hN : N ≤ 2147483647) (hcc : c1 ≤ 60 ∧ c2 ≤ 1000) (hv : 0 ≤ v ∧ v ≤ 2147483647) (hw : v / 4 % 3 = (w : Int)) {M : Int} (hcM : (c : Int) < M) {nn : Int} {at8 : Nat} (hat8 : at8 ≤ 1000)
    (hP : ∀ ρ' I', DRX K sh0 I0 R0 ρ' A cap S sh I' R → ρ' 3 = M → ρ' 4 = nn → SCLT ρ' c → ALLIN ρ' c → k245 sh I' R c1 c2 s (A 0) m6 (iz (at8 : Int)) (iz (c : Int)) (iz v)) :
    ∀ (d a n at9 : Nat) (ρ : RHO) (I : HI), a + d = 6 → d < n → at9 + d = at8 → DRX K sh0 I0 R0 ρ A cap S sh I R → ρ 3 = M → ρ 4 = nn → SCLT ρ c → ALLIN ρ c → (∀ b : Nat, b < 6 → (a ≤ b ∨ b = w) → inS ρ c b = true) → wL_drawn_l121 K J fu F k245 n sh I R c1 c2 s (A 0) m6 (iz (at9 : Int)) (iz (c : Int)) (iz v) (iz (a : Int)) := by
  intro d
  induction d with
  | zero =>
    intro a n at9 ρ I had hn hat D h3 h4 hs hall hin
    obtain ⟨n', rfl⟩ : ∃ n', n = n' + 1 := ⟨n - 1, by omega⟩
    show wL_drawn_b121 K J fu F (wL_drawn_l121 K J fu F k245 n') k245 sh I R c1 c2 s (A 0) m6 _ _ _ _
    unfold wL_drawn_b121
    rw [if_pos (by rw [ile il6 rfl ⟨by decide, by decide⟩ (IRn (by omega))]; omega)]
    have x1 : at9 = at8 := by omega
    rw [x1]
    exact hP ρ I D h3 h4 hs hall
  | succ d ih =>
    intro a n at9 ρ I had hn hat D h3 h4 hs hall hin
    obtain ⟨n', rfl⟩ : ∃ n', n = n' + 1 := ⟨n - 1, by omega⟩
    have m := D.2.2.1.m
    have n4 := D.2.2.1.n
    have go : ∀ z0 : Int32, (z0 = 1 ∨ (z0 = 0 ∧ ¬ w = a)) → wL_drawn_b163 K J fu F (wL_drawn_l121 K J fu F k245 n') k245 sh I R c1 c2 s (A 0) m6 (iz (at9 : Int)) (iz (c : Int)) (iz v) (iz (a : Int)) z0 := by
      intro z0 hz
      refine dr_163 D hsc hN (by omega) hcc (by omega) (by omega) (show w < 6 by omega) (hin w (by omega) (Or.inr rfl)) (hin a (by omega) (Or.inl (Nat.le_refl _))) hs hz (fun ρ' I' D' hρ => ?_)
      have m' := D'.2.2.1.m
      have key : ρ' 3 = ρ 3 ∧ ρ' 4 = ρ 4 ∧ (∀ k : Int, 0 ≤ k → scS ρ' k = scS ρ k) ∧ (∀ d b : Int, 0 ≤ d → d < 3 → ¬ d = c → inS ρ' d b = inS ρ d b) ∧ (∀ b : Nat, b < 6 → ¬ b = a ∨ b = w → inS ρ' c b = inS ρ c b) := by
        rcases hρ with ⟨hρ, hwa⟩ | ⟨x, y, hρ⟩ <;> subst hρ
        · refine ⟨goneS_ne (by omega), goneS_ne (by omega), fun k k0 => goneS_ne (by omega), fun d b d0 d1 hd => ?_, fun b hb hba => ?_⟩
          · unfold inS csS; rw [goneS_ne (by omega)]
          · rw [goneS_in hb, decide_eq_false (by omega)]
            simp
        · refine ⟨mvA_ne (by omega) (by omega), mvA_ne (by omega) (by omega), fun k k0 => mvA_ne (by omega) (by omega), fun d b d0 d1 hd => ?_, fun b hb hba => ?_⟩
          · unfold inS csS; rw [mvA_ne (by omega) (by omega)]
          · unfold inS csS; rw [mvA_ne (by omega) (by omega)]
      obtain ⟨e3, e4, e5, e6, e7⟩ := key
      refine ih (a + 1) n' (at9 + 1) ρ' I' (by omega) (by omega) (by omega) D' (by omega) (by omega) (fun k k0 k1 => ?_) (fun d b d0 d1 hb => ?_) (fun b hb hba => ?_)
      · rw [e5 k k0]; exact hs k k0 (by omega)
      · rw [e6 d b (by omega) (by omega) (by omega)]; exact hall d b d0 (by omega) hb
      · rw [e7 b hb (by omega)]; exact hin b hb (by omega)
    show wL_drawn_b121 K J fu F (wL_drawn_l121 K J fu F k245 n') k245 sh I R c1 c2 s (A 0) m6 _ _ _ _
    unfold wL_drawn_b121
    rw [if_neg (by rw [ile il6 rfl ⟨by decide, by decide⟩ (IRn (by omega))]; omega)]
    refine wB_of (oD_l il4 hv.1 hv.2 (by decide) (by decide)) ?_
    refine wB_of (oM_l il3 (by omega) (by omega) (by decide) (by decide)) ?_
    rw [hw]
    unfold wL_drawn_b158 wL_drawn_b162
    by_cases z1 : a = w
    · rw [if_pos (by rw [z1])]
      exact go 1 (Or.inl rfl)
    · rw [if_neg (by rw [ieq rfl rfl (IRn (by omega)) (IRn (by omega))]; omega)]
      by_cases z2 : ((iz v >>> ((5 + iz (a : Int)) &&& 31)) &&& 1) = (1 : Int32)
      · rw [if_pos z2]
        by_cases z3 : (4 : Int32) ≤ iz (a : Int)
        · rw [if_pos z3]
          exact go 0 (Or.inr ⟨rfl, fun e => z1 e.symm⟩)
        · rw [if_neg z3]
          exact go 1 (Or.inl rfl)
      · rw [if_neg z2]
        exact go 0 (Or.inr ⟨rfl, fun e => z1 e.symm⟩)
theorem dr_255 {F : VF} {k289 : HS → HI → HR → Nat → Nat → Nat → Nat → Int32 → Int32 → Int32 → Prop} {c a0 : Nat} {m6 : Int32} (hfu : 5000 ≤ fu) (hsc : sh0 s = some (22, N)) (hN : N ≤ 2147483647) {M : Int} (hcM : (c : Int) < M) {C1 C2 L9 at8 : Nat} (hC : C1 ≤ 60 ∧ C2 ≤ 1000) (hL : L9 ≤ 12) (hat8 : at8 ≤ 1000)
    (hP : ∀ ρ' A' cap' S' sh' I' R', A' 0 = a0 → DRX K sh0 I0 R0 ρ' A' cap' S' sh' I' R' → ρ' 3 = M → SCLT ρ' ((c : Int) + 1) → ALLIN ρ' c → S'.length = L9 → k289 sh' I' R' C1 C2 s a0 m6 (iz (at8 : Int)) (iz (c : Int))) :
    ∀ (k n at9 c1 c2 : Nat) (ρ : RHO) (A : Nat → Nat) (cap : Nat) (S : List Nat) (sh : HS) (I : HI) (R : HR), k < n → at9 + 2 * k = at8 → c1 + 2 * k = C1 → c2 + 38 * k = C2 → S.length + k = L9 → A 0 = a0 → DRX K sh0 I0 R0 ρ A cap S sh I R → ρ 3 = M → SCLT ρ ((c : Int) + 1) → ALLIN ρ c → wL_drawn_l255 K J fu F k289 n sh I R c1 c2 s a0 m6 (iz (at9 : Int)) (iz (c : Int)) (iz (k : Int)) := by
  intro k
  induction k with
  | zero =>
    intro n at9 c1 c2 ρ A cap S sh I R hn h1 h2 h3 h4 hA D e3 hs hall
    obtain ⟨n', rfl⟩ : ∃ n', n = n' + 1 := ⟨n - 1, by omega⟩
    show wL_drawn_b255 K J fu F (wL_drawn_l255 K J fu F k289 n') k289 sh I R c1 c2 s a0 m6 _ _ _
    unfold wL_drawn_b255
    rw [if_pos (by rw [ile rfl il0 (IRn (by omega)) ⟨by decide, by decide⟩]; decide)]
    have x1 : at9 = at8 := by omega
    have x2 : c1 = C1 := by omega
    have x3 : c2 = C2 := by omega
    subst x1; subst x2; subst x3
    exact hP ρ A cap S sh I R hA D e3 hs hall (by omega)
  | succ k ih =>
    intro n at9 c1 c2 ρ A cap S sh I R hn h1 h2 h3 h4 hA D e3 hs hall
    obtain ⟨n', rfl⟩ : ∃ n', n = n' + 1 := ⟨n - 1, by omega⟩
    have m := D.2.2.1.m
    have n4 := D.2.2.1.n
    have hl := D.1.len
    have kS := D.2.2.2.2.1.k hsc
    show wL_drawn_b255 K J fu F (wL_drawn_l255 K J fu F k289 n') k289 sh I R c1 c2 s a0 m6 _ _ _
    unfold wL_drawn_b255
    rw [if_neg (by rw [ile rfl il0 (IRn (by omega)) ⟨by decide, by decide⟩]; omega)]
    refine ⟨⟨by omega, by omega⟩, l_cell kS hN (by omega) (by omega) (fun p p0 pm => ?_)⟩
    rw [il1, il2, iz_add, iz_add, iz_neg, iz_add]
    refine ⟨⟨by omega, by omega⟩, l_cell kS hN (by omega) (by omega) (fun q q0 qm => ?_)⟩
    subst hA
    refine ⟨⟨by omega, by omega⟩, l_addShot D hfu (by omega) ⟨p0, by omega⟩ ⟨q0, by omega⟩ (by omega) (fun t t0 t1 => by have := hs t t0 t1; omega) (fun sh' I' R' ea' cap' b f D' hf => ?_)⟩
    have ek : ((k + 1 : Nat) : Int) + -1 = (k : Int) := by omega
    rw [ek]
    have g3 : apS ρ f 3 = ρ 3 := ap_ne (by omega) (by omega)
    have g4 : apS ρ f 4 = ρ 4 + 1 := by unfold apS; rw [if_pos rfl]
    refine ih n' (at9 + 2) (c1 + 2) (c2 + 38) (apS ρ f) (fun i => if i = 2 then ea' else A i) cap' (S ++ [b]) sh' I' R' (by omega) (by omega) (by omega) (by omega) ?_ rfl D' (by omega) (fun t t0 t1 => ?_) (fun d b d0 d1 hb => ?_)
    · rw [List.length_append]
      show S.length + 1 + k = L9
      omega
    · by_cases z : t = ρ 4
      · subst z
        have g0 : scS (apS ρ f) (ρ 4) = f 0 := ap_g n4.1 (k := 0) (by decide)
        rw [g0, hf]
        omega
      · have g0 : scS (apS ρ f) t = scS ρ t := ap_ne (by omega) (by omega)
        rw [g0]
        exact hs t t0 (by omega)
    · have : inS (apS ρ f) d b = inS ρ d b := by unfold inS csS; rw [ap_ne (by omega) (by omega)]
      rw [this]
      exact hall d b d0 (by omega) hb
theorem dr_90 {P : Nat → HS → HI → HR → Prop} {a0 : Nat} (hfu : 5000 ≤ fu) (hsc : sh0 s = some (22, N)) (hN : N ≤ 2147483647) {M : Nat}
    (hP : ∀ ρ A cap S sh I R, A 0 = a0 → DRX K sh0 I0 R0 ρ A cap S sh I R → P a0 sh I R) :
    ∀ (d c n at9 c1 c2 : Nat) (ρ : RHO) (A : Nat → Nat) (cap : Nat) (S : List Nat) (sh : HS) (I : HI) (R : HR), c + d = M → d < n → at9 + 15 * d ≤ 1000 → c1 + 8 * d ≤ 60 → c2 + 152 * d ≤ 1000 → S.length + 4 * d ≤ 12 → A 0 = a0 → DRX K sh0 I0 R0 ρ A cap S sh I R → ρ 3 = M → SCLT ρ c → (∀ d b : Nat, c ≤ d → (d : Int) < ρ 3 → b < 6 → inS ρ d b = true) → wL_drawn_l90 K J fu (qwR P) n sh I R c1 c2 s a0 (iz (M : Int)) (iz (at9 : Int)) (iz (c : Int)) := by
  intro d
  induction d with
  | zero =>
    intro c n at9 c1 c2 ρ A cap S sh I R hcd hn h1 h2 h3 h4 hA D e3 hs hall
    obtain ⟨n', rfl⟩ : ∃ n', n = n' + 1 := ⟨n - 1, by omega⟩
    have m := D.2.2.1.m
    show wL_drawn_b90 K J fu (qwR P) (wL_drawn_l90 K J fu (qwR P) n') sh I R c1 c2 s a0 _ _ _
    unfold wL_drawn_b90
    rw [if_pos (by rw [ile rfl rfl (IRn (by omega)) (IRn (by omega))]; omega)]
    exact ⟨⟨by omega, by omega⟩, _, rfl, hP ρ A cap S sh I R hA D⟩
  | succ d ih =>
    intro c n at9 c1 c2 ρ A cap S sh I R hcd hn h1 h2 h3 h4 hA D e3 hs hall
    obtain ⟨n', rfl⟩ : ∃ n', n = n' + 1 := ⟨n - 1, by omega⟩
    have m := D.2.2.1.m
    have n4 := D.2.2.1.n
    have kS := D.2.2.2.2.1.k hsc
    have B := D.1
    show wL_drawn_b90 K J fu (qwR P) (wL_drawn_l90 K J fu (qwR P) n') sh I R c1 c2 s a0 _ _ _
    unfold wL_drawn_b90
    rw [if_neg (by rw [ile rfl rfl (IRn (by omega)) (IRn (by omega))]; omega)]
    refine ⟨⟨by omega, by omega⟩, l_cell kS hN (by omega) (by omega) (fun v v0 vm => ?_)⟩
    subst hA
    refine wB_of (oR_at B.1.1.1 B.1.1.2.2.1) ?_
    refine wB_of (oM_l il4 v0 (by omega) (by decide) (by decide)) ?_
    refine wB_of (oS_n B.1.2.2.1.1 c (by omega) rfl) ?_
    have D1 := D.light (c := c) (by omega) (l := v % 4) ⟨by omega, by omega⟩
    have e13 : up1 ρ (5 + 14 * c) (v % 4) 3 = ρ 3 := up1_ne (by omega)
    have e14 : up1 ρ (5 + 14 * c) (v % 4) 4 = ρ 4 := up1_ne (by omega)
    have hi1 : ∀ d b : Nat, (d : Int) < ρ 3 → inS (up1 ρ (5 + 14 * c) (v % 4)) d b = inS ρ d b := fun d b hd => by unfold inS csS; rw [up1_ne (by omega)]
    obtain ⟨w, hw⟩ : ∃ w : Nat, v / 4 % 3 = (w : Int) := ⟨(v / 4 % 3).toNat, by omega⟩
    rw [il1, iz_add, show ((at9 : Int) + 1) = ((at9 + 1 : Nat) : Int) from rfl, il0]
    refine dr_121 hsc hN ⟨by omega, by omega⟩ ⟨v0, by omega⟩ hw (M := M) (by omega) (nn := ρ 4) (at8 := at9 + 7) (by omega) ?_ 6 0 fu (at9 + 1) _ _ rfl (by omega) (by omega) D1 (by omega) e14 (fun k k0 k1 => ?_) (fun d b d0 d1 hb => ?_) (fun b hb _ => ?_)
    · intro ρ' I' D' f3 f4 hs' hall'
      have hl' := D'.1.len
      unfold wL_drawn_b245
      refine wB_of (oD_l il512 v0 (by omega) (by decide) (by decide)) ?_
      refine wB_of (oM_l il5 (by omega) (by omega) (by decide) (by decide)) ?_
      have hk5 : 0 ≤ v / 512 % 5 ∧ v / 512 % 5 < 5 := by omega
      obtain ⟨nk, hnk⟩ : ∃ k : Nat, v / 512 % 5 = (k : Int) := ⟨(v / 512 % 5).toNat, by omega⟩
      rw [hnk] at hk5 ⊢
      refine dr_255 hfu hsc hN (M := M) (by omega) (C1 := c1 + 2 * nk) (C2 := c2 + 38 * nk) (L9 := S.length + nk) (at8 := at9 + 7 + 2 * nk) ⟨by omega, by omega⟩ (by omega) (by omega) ?_ nk fu (at9 + 7) c1 c2 ρ' A cap S sh I' R (by omega) rfl rfl rfl rfl rfl D' f3 (fun k k0 k1 => by have := hs' k k0 k1; omega) hall'
      intro ρ2 A2 cap2 S2 sh2 I2 R2 hA2 D2 g3 hs2 hall2 hL2
      unfold wL_drawn_b289
      rw [il1, iz_add]
      exact ih (c + 1) n' (at9 + 7 + 2 * nk) (c1 + 2 * nk) (c2 + 38 * nk) ρ2 A2 cap2 S2 sh2 I2 R2 (by omega) (by omega) (by omega) (by omega) (by omega) (by omega) hA2 D2 g3 hs2 (fun d b d0 d1 hb => hall2 d b (by omega) d1 hb)
    · have : scS (up1 ρ (5 + 14 * c) (v % 4)) k = scS ρ k := up1_ne (by omega)
      rw [this]
      exact hs k k0 (by omega)
    · rw [hi1 d b (by omega)]
      exact hall d b (by omega) (by omega) hb
    · rw [hi1 c b (by omega)]
      exact hall c b (Nat.le_refl _) (by omega) hb
end DR
