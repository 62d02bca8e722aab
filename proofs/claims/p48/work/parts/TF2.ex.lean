/-! STAGE 3: what stays while the planner's parts are made; a part with a number; the boards as one list -/
def EX (sh sh' : HS) (I I' : HI) (R R' : HR) (l : Nat) : Prop := ∀ a, ¬ sh a = none → ¬ a = l → sh' a = sh a ∧ I' a = I a ∧ R' a = R a
def cn {α : Type} (u v : α) (f : Nat → α) : Nat → α
  | 0 => u
  | 1 => v
  | k + 2 => f k
section Q83
variable {K J : Nat → Nat} {sh sh0 sh1 sh2 : HS} {I I0 I1 I2 : HI} {R R0 R1 R2 : HR} {F : VF} {l q : Nat} {as bs : List (Nat × Nat × Nat)} {k : Nat × Nat} {z : Nat → Int32} {w : Nat → Option Nat}
theorem EX.rf (sh : HS) (I : HI) (R : HR) (l : Nat) : EX sh sh I I R R l := fun _ _ _ => ⟨rfl, rfl, rfl⟩
theorem EX.tr (a : EX sh sh1 I I1 R R1 l) (b : EX sh1 sh2 I1 I2 R1 R2 l) : EX sh sh2 I I2 R R2 l := fun x hx hl => by
  obtain ⟨e1, e2, e3⟩ := a x hx hl
  obtain ⟨d1, d2, d3⟩ := b x (by rw [e1]; exact hx) hl
  exact ⟨d1.trans e1, d2.trans e2, d3.trans e3⟩
theorem EX.mk (hq : sh q = none) (G : ALC (u1 sh q (some k)) sh2 (u1 I q z) I2 (u1 R q w) R2 q bs) (j : Nat) (v : Option Nat) : EX sh sh2 I I2 R (u2 R2 l j v) l := fun a ha al => by
  obtain ⟨-, e1, e2, e3⟩ := ALC.old hq G ha
  exact ⟨e1, e2, (u2_row _ _ _ al).trans e3⟩
theorem EX.pt (j : Nat) (v : Option Nat) : EX sh sh I I R (u2 R l j v) l := fun _ _ al => ⟨rfl, rfl, u2_row _ _ _ al⟩
theorem ALC.me (hq : sh q = none) (G : ALC (u1 sh q (some k)) sh2 (u1 I q z) I2 (u1 R q w) R2 q bs) (hl : ¬ sh l = none) (j : Nat) (v : Option Nat) : I2 l = I l ∧ ∀ i, u2 R2 l j v l i = if i = j then v else R l i := by
  obtain ⟨-, e1, e2, e3⟩ := ALC.old hq G hl
  exact ⟨e2, fun i => by rw [u2_at, e3]⟩
theorem ALC.im (G : ALC (u1 sh q (some k)) sh2 (u1 I q z) I2 (u1 R q w) R2 q bs) : sh2 q = some k ∧ I2 q = z := by
  obtain ⟨e1, e2, -⟩ := G.1 q (by rw [u1_eq]; simp)
  exact ⟨e1.trans (u1_eq _ _ _), e2.trans (u1_eq _ _ _)⟩
/-- as s_fo, the constructor with a number -/
theorem s_fo1 {pc p5 p6 p8 t q j X Y X' Y' : Nat} {v : Int32} {G : Nat → HS → HI → HR → List (Nat × Nat × Nat) → Prop} {c : Nat × Nat} {zz : Nat → Int32} (h0 : cLd 61 pc 1 0 (pc + 1) = true) (h1 : cNew 61 (pc + 1) t X Y = true) (h2 : cA 61 (pc + 1 + 3) .dup (pc + 1 + 4) = true) (hv : cC 61 (pc + 1 + 4) v p5 = true) (h3 : cQ 61 p5 q 2 p6 (X + 1) (Y + fN t) X' Y' = true) (h4 : cPu 61 p6 8 j 2 p8 = true) (hq : ¬ mK q = 1) (he : ∀ y, Nat.ble (entA [Value.ref y, Value.int v]).length (mL q) = true)
    (H : ALC sh0 sh I0 I R0 R l as) (hl : sh0 l = some (8, 14)) (hc : c.1 ≤ X ∧ c.2 ≤ Y)
    (hV : ∀ y, sh y = none → V K J q 0 (ent (mL q) [.ref y, .int v]) [] (u1 sh y (some (t, fN t))) (u1 I y (fun _ => 0)) (u1 R y (fun _ => none)) (0, 0) (fun o sh' I' R' => o = .inl none ∧ ∃ bs, ALC (u1 sh y (some (t, fN t))) sh' (u1 I y zz) I' (u1 R y (fun _ => none)) R' y bs ∧ G y sh' I' R' bs))
    (k : ∀ y bs sh' I' R' (c' : Nat × Nat), c'.1 ≤ X' ∧ c'.2 ≤ Y' → sh y = none → ALC (u1 sh y (some (t, fN t))) sh' (u1 I y zz) I' (u1 R y (fun _ => none)) R' y bs → ALC sh0 sh' I0 I' R0 (u2 R' l j (some y)) l (as ++ (y, t, fN t) :: bs) → G y sh' I' R' bs → V K J 61 p8 [some (.ref l)] [] sh' I' (u2 R' l j (some y)) c' F) : V K J 61 pc [some (.ref l)] [] sh I R c F := by
  have ll : sh l = some (8, 14) := H.at hl
  have ln : ¬ sh l = none := by rw [ll]; simp
  refine s_rl (i := 0) (pc' := pc + 1) h0 rfl ?_
  refine s_mk1 (t := t) (q := q) (X := X) (Y := Y) (X' := X') (Y' := Y') (G := fun y sh' I' R' => ∃ bs, ALC (u1 sh y (some (t, fN t))) sh' (u1 I y zz) I' (u1 R y (fun _ => none)) R' y bs ∧ G y sh' I' R' bs) h1 h2 hv h3 hq hc (fun _ => rfl) he hV (fun y sh' I' R' c' hc' hy g => ?_)
  obtain ⟨bs, g1, g2⟩ := g
  have M := H.obj hy ln g1
  refine s_pR (t := 8) (j := j) (pc' := p8) (f := some) h4 (by rw [oQ_at (M.at hl)]; rfl) (fun R3 e => ?_)
  have e := (Option.some.inj e).symm
  subst e
  have M2 : ALC sh0 sh' I0 I' R0 (u2 R' l j (some y)) l (as ++ (y, t, fN t) :: bs) := ⟨fun a ha => by
    obtain ⟨e1, e2, e3⟩ := M.1 a ha
    exact ⟨e1, e2, fun al => (u2_row R' j (some y) al).trans (e3 al)⟩, M.2⟩
  exact k y bs sh' I' R' c' hc' hy g1 M2 g2
theorem bdL_two {b0 b1 A0 A1 B0 B1 : Nat} {s0 s1 x0 x1 y0 y1 h0 h1 : Nat → Nat} {b A B : Nat → Nat} {s x y h : Nat → Nat → Nat} : ∀ n, bdL (cn b0 b1 b) (cn A0 A1 A) (cn B0 B1 B) (cn s0 s1 s) (cn x0 x1 x) (cn y0 y1 y) (cn h0 h1 h) (n + 2) = ((b0, 0, 7) :: bdP A0 B0 s0 x0 y0 h0) ++ ((b1, 0, 7) :: bdP A1 B1 s1 x1 y1 h1) ++ bdL b A B s x y h n := by
  intro n
  induction n with
  | zero =>
    show ([] ++ (b0, 0, 7) :: bdP A0 B0 s0 x0 y0 h0) ++ (b1, 0, 7) :: bdP A1 B1 s1 x1 y1 h1 = ((b0, 0, 7) :: bdP A0 B0 s0 x0 y0 h0) ++ ((b1, 0, 7) :: bdP A1 B1 s1 x1 y1 h1) ++ []
    rw [List.nil_append, List.append_nil]
  | succ n ih =>
    show bdL (cn b0 b1 b) (cn A0 A1 A) (cn B0 B1 B) (cn s0 s1 s) (cn x0 x1 x) (cn y0 y1 y) (cn h0 h1 h) (n + 2) ++ (b n, 0, 7) :: bdP (A n) (B n) (s n) (x n) (y n) (h n) = _ ++ (bdL b A B s x y h n ++ (b n, 0, 7) :: bdP (A n) (B n) (s n) (x n) (y n) (h n))
    rw [ih]
    simp only [List.append_assoc]
theorem pm_blocks {α : Type} [DecidableEq α] (L T B0 B1 RD HI BL TB RO RP PL : List α) : (L ++ (((((((((T ++ B0) ++ B1) ++ RD) ++ (HI ++ BL)) ++ TB) ++ RO) ++ RP) ++ PL))).Perm ((L ++ T ++ RD ++ HI ++ TB ++ RO ++ RP ++ PL) ++ (B0 ++ B1 ++ BL)) := by
  rw [List.perm_iff_count]
  intro a
  simp only [List.count_append]
  omega
end Q83
