/-! THE STEPS OVER THE MACHINE'S OWN MEANING (MW), for the law and the JDK -/
section ST
variable {l : Launch} {K J : Nat → Nat} {mi pc pc' : Nat} {L L' : VL} {st : List Value} {sh : HS} {I : HI} {R : HR} {c : Nat × Nat} {F : VF} {ins : Instr} {ω : Type} {o : ω}
theorem mw_P {p : Instr → Bool} (h : cP mi pc p pc' = true) (k : ∀ i n, p i = true → n = iln i n → pc + n = pc' → Vi K J (MW l K J) i n mi pc L st sh I R c F) : MW l K J mi pc L st sh I R c F := by
  unfold cP noT dc at h
  simp only [Bool.and_eq_true] at h
  obtain ⟨h1, h2⟩ := h
  refine sim_Vs ?_
  unfold Vs
  cases e : (if pc < 1000 then tL.lookup (mi * 1000 + pc) else none) with
  | some E => rw [e] at h1; cases h1
  | none =>
    simp only
    cases e2 : decode (mB mi) pc with
    | ok q =>
      obtain ⟨i, n⟩ := q
      rw [e2] at h2
      simp only [Bool.and_eq_true, decide_eq_true_eq] at h2
      exact ⟨h2.2.1, k i n h2.1 h2.2.1 h2.2.2⟩
    | _ => rw [e2] at h2; cases h2
theorem mw_ldv {t i : Nat} {v : Value} (h : cLd mi pc t i pc' = true) (hv : L[i]? = some (some v)) (ht : isTy t v = true) (k : MW l K J mi pc' L (v :: st) sh I R c F) : MW l K J mi pc L st sh I R c F := by
  refine mw_P h fun x n g1 g2 g3 => ?_
  simp only [decide_eq_true_eq] at g1
  unfold Vi
  simp only [g1, hv, g3]
  exact ⟨ht, k⟩
theorem mw_il {i : Nat} {x : Int32} (h : cLd mi pc 0 i pc' = true) (hv : L[i]? = some (some (.int x))) (k : MW l K J mi pc' L (.int x :: st) sh I R c F) : MW l K J mi pc L st sh I R c F := mw_ldv h hv rfl k
theorem mw_rl {i : Nat} {x : Nat} (h : cLd mi pc 1 i pc' = true) (hv : L[i]? = some (some (.ref x))) (k : MW l K J mi pc' L (.ref x :: st) sh I R c F) : MW l K J mi pc L st sh I R c F := mw_ldv h hv rfl k
theorem mw_stv {t i : Nat} {v : Value} (h : cSt mi pc t i pc' = true) (ht : isTy t v = true) (hi : Nat.ble (i + 1) L.length = true) (hL : L.set i (some v) = L') (k : MW l K J mi pc' L' st sh I R c F) : MW l K J mi pc L (v :: st) sh I R c F := by
  refine mw_P h fun x n g1 g2 g3 => ?_
  simp only [Bool.and_eq_true, decide_eq_true_eq] at g1
  obtain ⟨g0, g1, g4, g5⟩ := g1
  unfold Vi
  simp only [g0, g1, g3, hL]
  exact ⟨ht, g4, by simpa using g5, Nat.le_of_ble_eq_true hi, k⟩
theorem mw_is {i : Nat} {x : Int32} (h : cSt mi pc 0 i pc' = true) (hi : Nat.ble (i + 1) L.length = true) (hL : L.set i (some (.int x)) = L') (k : MW l K J mi pc' L' st sh I R c F) : MW l K J mi pc L (.int x :: st) sh I R c F := mw_stv h rfl hi hL k
theorem mw_rs {i : Nat} {x : Nat} (h : cSt mi pc 1 i pc' = true) (hi : Nat.ble (i + 1) L.length = true) (hL : L.set i (some (.ref x)) = L') (k : MW l K J mi pc' L' st sh I R c F) : MW l K J mi pc L (.ref x :: st) sh I R c F := mw_stv h rfl hi hL k
theorem mw_c {v : Int32} (h : cC mi pc v pc' = true) (k : MW l K J mi pc' L (.int v :: st) sh I R c F) : MW l K J mi pc L st sh I R c F := by
  refine mw_P h fun x n g1 g2 g3 => ?_
  simp only [Bool.and_eq_true, decide_eq_true_eq] at g1
  obtain ⟨g0, g1, g4⟩ := g1
  unfold Vi
  simp only [g0, g1, g3, g4]
  exact k
theorem mw_cS {i : Nat} (h : cCS mi pc i pc' = true) (k : MW l K J mi pc' L (.ref (K i) :: st) sh I R c F) : MW l K J mi pc L st sh I R c F := by
  refine mw_P h fun x n g1 g2 g3 => ?_
  simp only [Bool.and_eq_true, decide_eq_true_eq] at g1
  obtain ⟨g0, g1, g4, g5, g6⟩ := g1
  unfold Vi
  simp only [g0, g1, g3, g4, g5]
  exact ⟨g6, k⟩
theorem mw_a {r : List Value} (h : cA mi pc ins pc' = true) (ha : ari ins st = some r) (k : MW l K J mi pc' L r sh I R c F) : MW l K J mi pc L st sh I R c F := by
  refine mw_P h fun x n g1 g2 g3 => ?_
  unfold cN0 at g1
  simp only [Bool.and_eq_true, decide_eq_true_eq] at g1
  obtain ⟨rfl, g0, g1, g4, g5, g6⟩ := g1
  unfold Vi
  simp only [g0, g1, g3, g4, g5, g6, ha]
  exact k
theorem mw_b {b : Bool} {f : Int} {t : Nat} {r : List Value} (h : cB mi pc ins t pc' = true) (ha : ari ins st = none) (hb : bra ins st = some (b, f, r)) (hf : off ins = some f) (k1 : b = true → MW l K J mi t L r sh I R c F) (k2 : b = false → MW l K J mi pc' L r sh I R c F) : MW l K J mi pc L st sh I R c F := by
  unfold cB at h
  rw [Bool.and_eq_true, decide_eq_true_eq] at h
  refine mw_P h.1 fun x n g1 g2 g3 => ?_
  unfold cN0 at g1
  simp only [Bool.and_eq_true, decide_eq_true_eq] at g1
  obtain ⟨rfl, ⟨g0, g1, g4, g5, g6⟩, g7⟩ := g1
  unfold Vi
  rw [hf] at g7
  cases g7
  simp only [g0, g1, g4, g5, g6, ha, hb]
  have e : (pc : Int) + ((t : Int) - (pc : Int)) = (t : Int) := by omega
  rw [e]
  refine ⟨Int.natCast_nonneg t, fun z => ?_, fun z => ?_⟩
  · simpa using k1 z
  · rw [← h.2]; exact k2 z
theorem mw_go {t : Nat} (h : cGo mi pc t = true) (k : MW l K J mi t L st sh I R c F) : MW l K J mi pc L st sh I R c F := by
  refine mw_P h fun x n g1 g2 g3 => ?_
  simp only [decide_eq_true_eq] at g1
  subst g1
  unfold Vi
  simp only [ldI, stI, cst, cstS, cstJ, ari, bra]
  have e : (pc : Int) + ((t : Int) - (pc : Int)) = (t : Int) := by omega
  rw [e]
  exact ⟨Int.natCast_nonneg t, by simpa using k⟩
theorem mw_sw {x v : Int32} {t : Nat} (hx : x = v) (h : cSw mi pc v t = true) (k : MW l K J mi t L st sh I R c F) : MW l K J mi pc L (.int x :: st) sh I R c F := by
  subst hx
  refine mw_P h fun y n g1 g2 g3 => ?_
  have e : (pc : Int) + ((t : Int) - (pc : Int)) = (t : Int) := by omega
  cases y <;> simp only [Bool.false_eq_true] at g1
  all_goals
    simp only [decide_eq_true_eq] at g1
    unfold Vi
    simp only [ldI, stI, cst, cstS, cstJ, ari, bra, g1, e]
    exact ⟨Int.natCast_nonneg t, by simpa using k⟩
theorem mw_sd {x : Int32} {n t : Nat} (hx : x.toInt < 0 ∨ (n : Int) ≤ x.toInt) (h : cSd mi pc n t = true) (k : MW l K J mi t L st sh I R c F) : MW l K J mi pc L (.int x :: st) sh I R c F := by
  refine mw_P h fun y nn g1 g2 g3 => ?_
  have e : (pc : Int) + ((t : Int) - (pc : Int)) = (t : Int) := by omega
  cases y <;> simp only [Bool.false_eq_true] at g1
  case tableswitch d lo hi offs =>
    simp only [decide_eq_true_eq] at g1
    obtain ⟨rfl, rfl, rfl⟩ := g1
    unfold Vi
    have e2 : swO (.tableswitch ((t : Int) - (pc : Int)) 0 ((n : Int) - 1) offs) x = some ((t : Int) - (pc : Int)) := by
      show (if x.toInt < 0 ∨ (n : Int) - 1 < x.toInt then some ((t : Int) - (pc : Int)) else offs[(x.toInt - 0).toNat]?) = _
      rw [if_pos (by omega)]
    simp only [ldI, stI, cst, cstS, cstJ, ari, bra, e2, e]
    exact ⟨Int.natCast_nonneg t, by simpa using k⟩
  case lookupswitch d ps =>
    simp only [decide_eq_true_eq] at g1
    obtain ⟨rfl, rfl, g4⟩ := g1
    unfold Vi
    have e2 : swO (.lookupswitch ((t : Int) - (pc : Int)) ps) x = some ((t : Int) - (pc : Int)) := by
      have e4 : ∀ q : List (Int × Int), q.map (·.1) = [0, 1] → (q.zip (q.drop 1)).all (fun (a, next) => a.1 < next.1) = true ∧ Op.lookupswitch.offset q ((t : Int) - (pc : Int)) x.toInt = (t : Int) - (pc : Int) := by
        intro q hq
        match q, hq with
        | [(a, o1), (b, o2)], hq =>
          simp only [List.map_cons, List.map_nil, List.cons.injEq, and_true] at hq
          obtain ⟨rfl, rfl⟩ := hq
          have n0 : ¬ x.toInt = 0 := by omega
          have n1 : ¬ x.toInt = 1 := by omega
          refine ⟨rfl, ?_⟩
          simp [Op.lookupswitch.offset, Ne.symm n0, Ne.symm n1, n0, n1]
      show (if (ps.toList.zip (ps.toList.drop 1)).all (fun (a, next) => a.1 < next.1) = true then some (Op.lookupswitch.offset ps.toList ((t : Int) - (pc : Int)) x.toInt) else none) = _
      rw [if_pos (e4 _ g4).1, (e4 _ g4).2]
    simp only [ldI, stI, cst, cstS, cstJ, ari, bra, e2, e]
    exact ⟨Int.natCast_nonneg t, by simpa using k⟩
theorem mw_inc {i : Nat} {x z : Int32} (h : cInc mi pc i z pc' = true) (hv : L[i]? = some (some (.int x))) (hi : Nat.ble (i + 1) L.length = true) (hL : L.set i (some (.int (x + z))) = L') (k : MW l K J mi pc' L' st sh I R c F) : MW l K J mi pc L st sh I R c F := by
  refine mw_P h fun y n g1 g2 g3 => ?_
  simp only [Bool.and_eq_true] at g1
  obtain ⟨g0, g1⟩ := g1
  cases y <;> simp only [Bool.false_eq_true] at g1
  simp only [Bool.and_eq_true, decide_eq_true_eq] at g1
  obtain ⟨rfl, rfl⟩ := g1
  unfold Vi
  simp only [ldI, stI, cst, cstS, cstJ, ari, bra, hv, g3, hL]
  exact ⟨by simpa using g0, Nat.le_of_ble_eq_true hi, k⟩
theorem mw_as {a : Nat} {i x : Int32} {f : HI → Option ω} (h : cI mi pc .iastore pc' = true) (hh : (oS sh I a i x).bind f = some o) (k : ∀ I1, f I1 = some o → MW l K J mi pc' L st sh I1 R c F) : MW l K J mi pc L (.int x :: .int i :: .ref a :: st) sh I R c F := by
  refine mw_P h fun y n g1 g2 g3 => ?_
  simp only [decide_eq_true_eq] at g1
  subst g1
  obtain ⟨v, h1, h2⟩ := bnd hh
  unfold oS at h1
  split at h1
  · rename_i hT
    cases h1
    unfold Vi
    simp only [ldI, stI, cst, cstS, cstJ, ari, bra, g3]
    exact ⟨inA_iff.mp hT, k _ h2⟩
  · cases h1
theorem mw_rv {X Y : Nat} (h : cRt mi pc .return_ none X Y = true) (hc : c.1 ≤ X ∧ c.2 ≤ Y) (hF : F (.inl none) sh I R) : MW l K J mi pc L [] sh I R c F := by
  unfold cRt at h
  simp only [Bool.and_eq_true, decide_eq_true_eq] at h
  obtain ⟨h1, h2, h3, h4⟩ := h
  refine mw_P h1 fun y n g1 g2 g3 => ?_
  simp only [decide_eq_true_eq] at g1
  subst g1
  unfold Vi
  simp only [ldI, stI, cst, cstS, cstJ, ari, bra]
  exact ⟨h2, trivial, by omega, by omega, hF⟩
theorem mw_ri {x : Int32} {X Y : Nat} (h : cRt mi pc .ireturn (some .int) X Y = true) (hc : c.1 ≤ X ∧ c.2 ≤ Y) (hF : F (.inl (some (.int x))) sh I R) : MW l K J mi pc L [.int x] sh I R c F := by
  unfold cRt at h
  simp only [Bool.and_eq_true, decide_eq_true_eq] at h
  obtain ⟨h1, h2, h3, h4⟩ := h
  refine mw_P h1 fun y n g1 g2 g3 => ?_
  simp only [decide_eq_true_eq] at g1
  subst g1
  unfold Vi
  simp only [ldI, stI, cst, cstS, cstJ, ari, bra]
  exact ⟨⟨_, h2, rfl⟩, by omega, by omega, hF⟩
theorem mw_rz {x : Int32} {X Y : Nat} (h : cRt mi pc .ireturn (some .boolean) X Y = true) (hx : x = 0 ∨ x = 1) (hc : c.1 ≤ X ∧ c.2 ≤ Y) (hF : F (.inl (some (.int x))) sh I R) : MW l K J mi pc L [.int x] sh I R c F := by
  unfold cRt at h
  simp only [Bool.and_eq_true, decide_eq_true_eq] at h
  obtain ⟨h1, h2, h3, h4⟩ := h
  refine mw_P h1 fun y n g1 g2 g3 => ?_
  simp only [decide_eq_true_eq] at g1
  subst g1
  unfold Vi
  simp only [ldI, stI, cst, cstS, cstJ, ari, bra]
  exact ⟨⟨_, h2, by rcases hx with rfl | rfl <;> rfl⟩, by omega, by omega, hF⟩
theorem mw_call {q na X Y X' Y' : Nat} {as rest : List Value} {G : VF} (h : cQ mi pc q na pc' X Y X' Y' = true) (hc : c.1 ≤ X ∧ c.2 ≤ Y) (hn : as.length = na) (hr : Nat.ble (catS rest) 8 = true) (he : Nat.ble (entA as.reverse).length (mL q) = true) (hl : as.all (fun v => v.category == 1) = true ∨ mHl q = true)
    (hv : mK q = 1 → rvOK K sh q as.getLast?) (hi : mK q = 2 → ∃ b, as.getLast? = some (.ref b)) (hV : MW l K J q 0 (ent (mL q) as.reverse) [] sh I R (0, 0) G)
    (k1 : ∀ sh' I' R' c', c'.1 ≤ X' ∧ c'.2 ≤ Y' → G (.inl none) sh' I' R' → MW l K J mi pc' L rest sh' I' R' c' F) (k2 : ∀ v sh' I' R' c', c'.1 ≤ X' ∧ c'.2 ≤ Y' → G (.inl (some v)) sh' I' R' → MW l K J mi pc' L (v :: rest) sh' I' R' c' F) (k3 : ∀ E sh' I' R', G (.inr E) sh' I' R' → F (.inr E) sh' I' R') :
    MW l K J mi pc L (as ++ rest) sh I R c F := by
  unfold cQ at h
  rw [Bool.and_eq_true] at h
  obtain ⟨h0, h⟩ := h
  simp only [Bool.and_eq_true, decide_eq_true_eq] at h
  obtain ⟨e1, e2, e3, e4, e5, e6, e7, e8, e9, e10⟩ := h
  subst e1
  have t1 : (as ++ rest).take (mN q) = as := by rw [e4, ← hn]; exact List.take_left
  have t2 : (as ++ rest).drop (mN q) = rest := by rw [e4, ← hn]; exact List.drop_left
  have hV' : ∀ kd, mK q = kd → Vc K (MW l K J) kd q mi pc L (as ++ rest) sh I R c F := by
    intro kd hkd
    refine ⟨e2, by rw [List.length_append, e4]; omega, hkd, by rw [t2]; exact Nat.le_of_ble_eq_true hr, ⟨e5, e6⟩, ⟨by omega, by omega⟩, ⟨fun z => ?_, fun z => ?_⟩, ⟨by rw [t1]; exact Nat.le_of_ble_eq_true he, by rw [t1]; exact hl⟩, G, by rw [t1]; exact hV, ?_, ?_, k3⟩
    · rw [t1]; exact hv (hkd.trans z)
    · rw [t1]; exact hi (hkd.trans z)
    · intro sh' I' R' g
      rw [t2]
      exact k1 _ _ _ _ ⟨by show c.1 + mCe q ≤ _; omega, by show c.2 + mSl q ≤ _; omega⟩ g
    · intro v sh' I' R' g
      rw [t2]
      exact k2 _ _ _ _ _ ⟨by show c.1 + mCe q ≤ _; omega, by show c.2 + mSl q ≤ _; omega⟩ g
  refine mw_P h0 fun y n g1 g2 g3 => ?_
  cases y <;> simp only [Bool.false_eq_true] at g1
  all_goals
    simp only [Bool.and_eq_true, decide_eq_true_eq] at g1
    obtain ⟨g0, g1⟩ := g1
    obtain ⟨r, hr1, hr2⟩ := Option.map_eq_some_iff.mp g1
    obtain ⟨r1, r2, r3⟩ := r
    cases hr2
    unfold Vi
    simp only [ldI, stI, cst, cstS, cstJ, ari, bra, hr1]
    first | exact ⟨fun _ => hV' _ g0, fun z => absurd e3 z⟩ | exact ⟨e3, hV' _ g0⟩
theorem mw_min {x y : Int32} {X Y : Nat} (h : cM mi pc 1000 pc' X Y = true) (hc : c.1 ≤ X ∧ c.2 ≤ Y) (hr : Nat.ble (catS st) 8 = true) (k : MW l K J mi pc' L (.int (iMin x y) :: st) sh I R c F) : MW l K J mi pc L (.int y :: .int x :: st) sh I R c F := by
  unfold cM at h
  rw [Bool.and_eq_true] at h
  obtain ⟨h0, h⟩ := h
  simp only [Bool.and_eq_true, decide_eq_true_eq] at h
  obtain ⟨e1, e2, e3, e4, e5, e6⟩ := h
  subst e1
  refine mw_P h0 fun z n g1 g2 g3 => ?_
  cases z <;> simp only [Bool.false_eq_true] at g1
  all_goals
    simp only [Bool.and_eq_true, decide_eq_true_eq] at g1
    obtain ⟨g1, g0⟩ := g1
    first | (exfalso; omega) | skip
  obtain ⟨r, hr1, hr2⟩ := Option.map_eq_some_iff.mp g1
  obtain ⟨r1, r2, r3⟩ := r
  cases hr2
  unfold Vi
  simp only [ldI, stI, cst, cstS, cstJ, ari, bra, hr1]
  exact ⟨fun z => absurd z e2, fun _ => ⟨by decide, ⟨Nat.le_of_ble_eq_true hr, e3, e4, by omega, by omega⟩, k⟩⟩
theorem mw_max {x y : Int32} {X Y : Nat} (h : cM mi pc 1001 pc' X Y = true) (hc : c.1 ≤ X ∧ c.2 ≤ Y) (hr : Nat.ble (catS st) 8 = true) (k : MW l K J mi pc' L (.int (iMax x y) :: st) sh I R c F) : MW l K J mi pc L (.int y :: .int x :: st) sh I R c F := by
  unfold cM at h
  rw [Bool.and_eq_true] at h
  obtain ⟨h0, h⟩ := h
  simp only [Bool.and_eq_true, decide_eq_true_eq] at h
  obtain ⟨e1, e2, e3, e4, e5, e6⟩ := h
  subst e1
  refine mw_P h0 fun z n g1 g2 g3 => ?_
  cases z <;> simp only [Bool.false_eq_true] at g1
  all_goals
    simp only [Bool.and_eq_true, decide_eq_true_eq] at g1
    obtain ⟨g1, g0⟩ := g1
    first | (exfalso; omega) | skip
  obtain ⟨r, hr1, hr2⟩ := Option.map_eq_some_iff.mp g1
  obtain ⟨r1, r2, r3⟩ := r
  cases hr2
  unfold Vi
  simp only [ldI, stI, cst, cstS, cstJ, ari, bra, hr1]
  exact ⟨fun z => absurd z e2, fun _ => ⟨by decide, ⟨Nat.le_of_ble_eq_true hr, e3, e4, by omega, by omega⟩, k⟩⟩
theorem mw_abs {x : Int32} {X Y : Nat} (h : cM mi pc 1002 pc' X Y = true) (hc : c.1 ≤ X ∧ c.2 ≤ Y) (hr : Nat.ble (catS st) 8 = true) (k : MW l K J mi pc' L (.int (iAbs x) :: st) sh I R c F) : MW l K J mi pc L (.int x :: st) sh I R c F := by
  unfold cM at h
  rw [Bool.and_eq_true] at h
  obtain ⟨h0, h⟩ := h
  simp only [Bool.and_eq_true, decide_eq_true_eq] at h
  obtain ⟨e1, e2, e3, e4, e5, e6⟩ := h
  subst e1
  refine mw_P h0 fun z n g1 g2 g3 => ?_
  cases z <;> simp only [Bool.false_eq_true] at g1
  all_goals
    simp only [Bool.and_eq_true, decide_eq_true_eq] at g1
    obtain ⟨g1, g0⟩ := g1
    first | (exfalso; omega) | skip
  obtain ⟨r, hr1, hr2⟩ := Option.map_eq_some_iff.mp g1
  obtain ⟨r1, r2, r3⟩ := r
  cases hr2
  unfold Vi
  simp only [ldI, stI, cst, cstS, cstJ, ari, bra, hr1]
  exact ⟨fun z => absurd z e2, fun _ => ⟨by decide, ⟨Nat.le_of_ble_eq_true hr, e3, e4, by omega, by omega⟩, k⟩⟩
theorem mw_gs0 (h : cGs mi pc 0 pc' = true) (k : MW l K J mi pc' L (.int 1 :: st) sh I R c F) : MW l K J mi pc L st sh I R c F := by
  unfold cGs at h
  rw [Bool.and_eq_true, decide_eq_true_eq] at h
  refine mw_P h.1 fun y n g1 g2 g3 => ?_
  cases y <;> simp only [Bool.false_eq_true] at g1
  simp only [decide_eq_true_eq] at g1
  obtain ⟨q, hq, hq2⟩ := Option.map_eq_some_iff.mp g1
  obtain ⟨t', p'⟩ := q
  cases hq2
  unfold Vi
  simp only [ldI, stI, cst, cstS, cstJ, ari, bra, hq]
  rw [← h.2]
  exact k
theorem mw_gs1 (h : cGs mi pc 1 pc' = true) (k : ∀ v, (v = .null ∨ ∃ a, v = .ref a) → MW l K J mi pc' L (v :: st) sh I R c F) : MW l K J mi pc L st sh I R c F := by
  unfold cGs at h
  rw [Bool.and_eq_true, decide_eq_true_eq] at h
  refine mw_P h.1 fun y n g1 g2 g3 => ?_
  cases y <;> simp only [Bool.false_eq_true] at g1
  simp only [decide_eq_true_eq] at g1
  obtain ⟨q, hq, hq2⟩ := Option.map_eq_some_iff.mp g1
  obtain ⟨t', p'⟩ := q
  cases hq2
  unfold Vi
  simp only [ldI, stI, cst, cstS, cstJ, ari, bra, hq]
  rw [← h.2]
  exact k
theorem mw_rn {x : Int32} {ty : FieldType} {X Y : Nat} (h : cRt mi pc .ireturn (some ty) X Y = true) (hx : narrow ty (.int x) = .int x) (hc : c.1 ≤ X ∧ c.2 ≤ Y) (hF : F (.inl (some (.int x))) sh I R) : MW l K J mi pc L [.int x] sh I R c F := by
  unfold cRt at h
  simp only [Bool.and_eq_true, decide_eq_true_eq] at h
  obtain ⟨h1, h2, h3, h4⟩ := h
  refine mw_P h1 fun y n g1 g2 g3 => ?_
  simp only [decide_eq_true_eq] at g1
  subst g1
  unfold Vi
  simp only [ldI, stI, cst, cstS, cstJ, ari, bra]
  exact ⟨⟨_, h2, hx⟩, by omega, by omega, hF⟩
end ST
