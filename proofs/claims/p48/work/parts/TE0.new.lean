/-! STAGE 3: the constructors: an object or an array made, the constructor of Object -/
def cNew (mi pc t X Y : Nat) : Bool := cP mi pc (fun x => match x with | .new ix => decide ((lk2 nL (mC mi) ix).map (·.1) = some t) | _ => false) (pc + 3) && (decide (X + 1 ≤ mCe mi) && decide (Y + fN t ≤ mSl mi))
def cNwa (mi pc m X Y : Nat) : Bool := cP mi pc (fun x => decide (x = .newarray .int)) (pc + 2) && (decide (m < 100000) && (decide (X + 1 ≤ mCe mi) && decide (Y + m ≤ mSl mi)))
def cAnw (mi pc t m X Y : Nat) : Bool := cP mi pc (fun x => match x with | .anewarray ix => decide ((lk2 nL (mC mi) ix).map (·.1) = some t) | _ => false) (pc + 3) && (decide (t = 0 ∨ t = 5 ∨ t = 7) && (decide (m < 100000) && (decide (X + 1 ≤ mCe mi) && decide (Y + m ≤ mSl mi))))
section Q70
variable {K J : Nat → Nat} {mi pc pc' : Nat} {L : VL} {st : List Value} {sh : HS} {I : HI} {R : HR} {c : Nat × Nat} {F : VF}
theorem s_new {t X Y : Nat} (h : cNew mi pc t X Y = true) (hc : c.1 ≤ X ∧ c.2 ≤ Y) (k : ∀ a, sh a = none → V K J mi (pc + 3) L (.ref a :: st) (u1 sh a (some (t, fN t))) (u1 I a (fun _ => 0)) (u1 R a (fun _ => none)) (c.1 + 1, c.2 + fN t) F) : V K J mi pc L st sh I R c F := by
  unfold cNew at h
  rw [Bool.and_eq_true] at h
  obtain ⟨h0, h⟩ := h
  simp only [Bool.and_eq_true, decide_eq_true_eq] at h
  refine s_P h0 fun z n g1 g2 g3 => ?_
  cases z <;> simp only [Bool.false_eq_true] at g1
  simp only [decide_eq_true_eq] at g1
  obtain ⟨r, hr1, hr2⟩ := Option.map_eq_some_iff.mp g1
  obtain ⟨r1, r2⟩ := r
  cases hr2
  unfold Vi
  simp only [ldI, stI, cst, cstS, cstJ, ari, bra, hr1]
  have h1 := h.1
  have h2 : Y + fN r1 ≤ mSl mi := h.2
  exact ⟨by omega, by omega, k⟩
theorem s_nwa {x : Int32} {m X Y : Nat} (h : cNwa mi pc m X Y = true) (hx : ¬ x < 0) (hm : x.toNatClampNeg = m) (hc : c.1 ≤ X ∧ c.2 ≤ Y) (k : ∀ a, sh a = none → V K J mi (pc + 2) L (.ref a :: st) (u1 sh a (some (20, m))) (u1 I a (fun _ => 0)) R (c.1 + 1, c.2 + m) F) : V K J mi pc L (.int x :: st) sh I R c F := by
  unfold cNwa at h
  rw [Bool.and_eq_true] at h
  obtain ⟨h0, h⟩ := h
  simp only [Bool.and_eq_true, decide_eq_true_eq] at h
  subst hm
  refine s_P h0 fun z n g1 g2 g3 => ?_
  simp only [decide_eq_true_eq] at g1
  subst g1
  unfold Vi
  simp only [ldI, stI, cst, cstS, cstJ, ari, bra]
  exact ⟨hx, h.1, by omega, by omega, k⟩
theorem s_anw {x : Int32} {t m X Y : Nat} (h : cAnw mi pc t m X Y = true) (hx : ¬ x < 0) (hm : x.toNatClampNeg = m) (hc : c.1 ≤ X ∧ c.2 ≤ Y) (k : ∀ a, sh a = none → V K J mi (pc + 3) L (.ref a :: st) (u1 sh a (some (30 + t, m))) I (u1 R a (fun _ => none)) (c.1 + 1, c.2 + m) F) : V K J mi pc L (.int x :: st) sh I R c F := by
  unfold cAnw at h
  rw [Bool.and_eq_true] at h
  obtain ⟨h0, h⟩ := h
  simp only [Bool.and_eq_true, decide_eq_true_eq] at h
  subst hm
  refine s_P h0 fun z n g1 g2 g3 => ?_
  cases z <;> simp only [Bool.false_eq_true] at g1
  simp only [decide_eq_true_eq] at g1
  obtain ⟨r, hr1, hr2⟩ := Option.map_eq_some_iff.mp g1
  obtain ⟨r1, r2⟩ := r
  cases hr2
  unfold Vi
  simp only [ldI, stI, cst, cstS, cstJ, ari, bra, hr1]
  exact ⟨⟨hx, h.1⟩, h.2.1, by omega, by omega, k⟩
theorem s_obj {a X Y : Nat} (h : cM mi pc 1004 pc' X Y = true) (hc : c.1 ≤ X ∧ c.2 ≤ Y) (hr : Nat.ble (catS st) 8 = true) (k : V K J mi pc' L st sh I R c F) : V K J mi pc L (.ref a :: st) sh I R c F := by
  unfold cM at h
  rw [Bool.and_eq_true] at h
  obtain ⟨h0, h⟩ := h
  simp only [Bool.and_eq_true, decide_eq_true_eq] at h
  obtain ⟨e1, e2, e3, e4, e5, e6⟩ := h
  subst e1
  refine s_P h0 fun z n g1 g2 g3 => ?_
  cases z <;> simp only [Bool.false_eq_true] at g1
  all_goals
    simp only [Bool.and_eq_true, decide_eq_true_eq] at g1
    obtain ⟨g1, g0⟩ := g1
    first | (exfalso; omega) | skip
  obtain ⟨r, hr1, hr2⟩ := Option.map_eq_some_iff.mp g1
  obtain ⟨r1, r2, r3⟩ := r
  cases hr2
  unfold Vi
  simp only [ldI, stI, cst, cstS, cstJ, ari, bra, hr1]
  exact ⟨fun z => absurd z e2, fun _ => ⟨by decide, ⟨Nat.le_of_ble_eq_true hr, e3, e4, by omega, by omega⟩, k⟩⟩
end Q70
