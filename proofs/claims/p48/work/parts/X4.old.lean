/-! THE LAW'S START: the old cells as the small machine's heap -/
theorem insS_ok : (lw_tbl.contains (.instantiable "java/lang/String" 4) && lw_tbl.contains (.instantiable "java/lang/Integer" 1)) = true := by decide +kernel
/-- what an old cell is -/
def tyO (s : State) (a : Nat) : Nat := match s.heap[a]? with
  | some ce => (match s.vm.classes[ce.cls]? with
    | some k => (match k.kind with
      | .array _ ty => if ty = .byte then 23 else if ty = .int then 22 else if ty = .object "java/lang/Object" then 24 else if ty = .object "java/lang/Integer" then 25 else 0
      | _ => if k.instanceTypes.size = 4 then 28 else if k.instanceTypes.size = 1 then 26 else 0)
    | none => 0)
  | none => 0
def szO (s : State) (a : Nat) : Nat := match s.heap[a]? with
  | some ce => ce.slots.size.toInt32.toNatClampNeg
  | none => 0
def slO (s : State) (a k : Nat) : Value := match s.heap[a]? with
  | some ce => (ce.slots[k]?).getD .null
  | none => .null
def ivO : Value → Int32
  | .int x => x
  | _ => 0
def rvO : Value → Option Nat
  | .ref x => some x
  | _ => none
noncomputable def vIO (s : State) (a : Nat) : Int32 := @dite _ (∃ x, va_OF "java/lang/Integer" "value" "I" (.int x) a (lA s) s s.heap) (Classical.propDecidable _) (fun h => h.choose) (fun _ => 0)
noncomputable def vRO (s : State) (a : Nat) : Option Nat := @dite _ (∃ r, va_OF "java/lang/String" "value" "[B" (.ref r) a (lA s) s s.heap) (Classical.propDecidable _) (fun h => some h.choose) (fun _ => none)
def mO (K J gC : Nat → Nat) (b a : Nat) : Prop := (∃ i, i < nS ∧ a = K i) ∨ (∃ j, j < 256 ∧ a = gC j) ∨ (∃ i, i < nS ∧ a = J i) ∨ a = K nS ∨ a = K (nS + 1) ∨ a = K (nS + 2) ∨ a = K (nS + 3) ∨ a = b
noncomputable def shO (s : State) (K J gC : Nat → Nat) (b : Nat) : HS := fun a => @ite _ (mO K J gC b a) (Classical.propDecidable _) (some (tyO s a, if tyO s a = 28 then 4 else if tyO s a = 26 then 1 else szO s a)) none
noncomputable def iO (s : State) : HI := fun a k => if tyO s a = 28 then 0 else if tyO s a = 26 then vIO s a else ivO (slO s a k)
noncomputable def rO (s : State) : HR := fun a k => if tyO s a = 28 then vRO s a else rvO (slO s a k)
theorem tyO_arr {s : State} {ty : FieldType} {a N : Nat} {f : Nat → Value} {A : Nat → Prop} (h : va_T ty a N f A s s.heap) : tyO s a = if ty = .byte then 23 else if ty = .int then 22 else if ty = .object "java/lang/Object" then 24 else if ty = .object "java/lang/Integer" then 25 else 0 := by
  obtain ⟨cell, h1, ⟨-, k, h2, comp, h3⟩, -⟩ := h
  unfold tyO
  rw [h1]
  dsimp only
  rw [h2]
  dsimp only
  rw [h3]
theorem tyO_obj {s : State} {C : String} {n a : Nat} {A : Nat → Prop} {args : Array Value} (h : va_O C a A s s.heap) (hi : (Cond.instantiable C n).before args s = true) : tyO s a = if n = 4 then 28 else if n = 1 then 26 else 0 := by
  obtain ⟨cell, h1, -, h2, -⟩ := h
  obtain ⟨c, k, q1, q2, q3, -, -, q6⟩ := Cond.instantiable_spec hi
  rw [h2] at q1
  cases q1
  unfold tyO
  rw [h1]
  dsimp only
  rw [q2]
  dsimp only
  rw [q3, q6]
theorem OF_eq {o n d : String} {v w : Value} {a : Nat} {A B : Nat → Prop} {s : State} {H : Heap} (h : va_OF o n d v a A s H) (g : va_OF o n d w a B s H) : v = w := by
  obtain ⟨cf, k, f, fl, cell, a1, a2, a3, a4, a5, a6⟩ := h
  obtain ⟨cf', k', f', fl', cell', b1, b2, b3, b4, b5, b6⟩ := g
  rw [a1] at b1
  cases b1
  rw [a3] at b3
  cases b3
  rw [a5] at b5
  exact Option.some.inj b5
theorem oF_of {o n d : String} {v : Value} {a : Nat} {A : Nat → Prop} {s : State} {H : Heap} {cell : Cell} (h : va_OF o n d v a A s H) (hc : H[a]? = some cell) : oF s o n d v cell := by
  obtain ⟨cf, k, f, fl, cell', a1, a2, a3, a4, a5, a6⟩ := h
  rw [hc] at a3
  cases a3
  exact ⟨cf, k, f, fl, a1, a2, a4, a5⟩
theorem oO_of {E : String} {a : Nat} {A : Nat → Prop} {s : State} {H : Heap} {cell : Cell} (h : va_O E a A s H) (hc : H[a]? = some cell) : oO s E cell := by
  obtain ⟨cell', a1, a2, a3, -⟩ := h
  rw [hc] at a1
  cases a1
  exact ⟨a2, a3⟩
theorem oT_of {ty : FieldType} {a N : Nat} {f g : Nat → Value} {A : Nat → Prop} {s : State} {H : Heap} {cell : Cell} (h : va_T ty a N f A s H) (hc : H[a]? = some cell) (hg : ∀ j, j < N → f j = g j) : oT s ty N g cell := by
  obtain ⟨cell', a1, a2, a3, a4, a5, a6, -⟩ := h
  rw [hc] at a1
  cases a1
  exact ⟨a2, a3, a4, a5, fun j hj => by rw [← hg j hj]; exact a6 j hj⟩
theorem szO_arr {s : State} {ty : FieldType} {a N : Nat} {f : Nat → Value} {A : Nat → Prop} (h : va_T ty a N f A s s.heap) (hN : N < 2 ^ 31) : szO s a = N := by
  obtain ⟨cell, h1, -, -, -, h2, -⟩ := h
  unfold szO
  rw [h1]
  dsimp only
  rw [h2]
  exact Int32.toNatClampNeg_ofNat_of_lt hN
theorem slO_arr {s : State} {ty : FieldType} {a N k : Nat} {f : Nat → Value} {A : Nat → Prop} (h : va_T ty a N f A s s.heap) (hk : k < N) : slO s a k = f k := by
  obtain ⟨cell, h1, -, -, -, -, h2, -⟩ := h
  unfold slO
  rw [h1]
  dsimp only
  rw [h2 k hk]
  rfl
theorem T_at {s : State} {ty : FieldType} {a N : Nat} {f : Nat → Value} {A : Nat → Prop} {H : Heap} (h : va_T ty a N f A s H) : ∃ cell, H[a]? = some cell := ⟨_, h.choose_spec.1⟩
theorem O_at {s : State} {E : String} {a : Nat} {A : Nat → Prop} {H : Heap} (h : va_O E a A s H) : ∃ cell, H[a]? = some cell := ⟨_, h.choose_spec.1⟩
theorem rc_old {D : va_G} {s : State} {t n a : Nat} {I : HI} {R : HR} {H : Heap} {cell : Cell} (h1 : 22 ≤ t) (h2 : t < 30) (hc : H[a]? = some cell) (h : rcO s t n a I R cell) : rc D s t n a I R H :=
  ⟨fun z => by omega, fun z => by omega, fun u z => by omega, fun z => by omega, fun _ _ => ⟨cell, hc, h⟩⟩
/-- what stands in the old cells -/
def OCL (s : State) (K J gC : Nat → Nat) (b L : Nat) (xs : Nat → Int32) : Prop :=
  (∀ i, i < nS → tyO s (K i) = 28 ∧ va_O "java/lang/String" (K i) (lA s) s s.heap ∧ va_OF "java/lang/String" "coder" "B" (.int 0) (K i) (lA s) s s.heap ∧ va_OF "java/lang/String" "value" "[B" (.ref (J i)) (K i) (lA s) s s.heap) ∧
  (∀ j, j < 256 → tyO s (gC j) = 26 ∧ va_O "java/lang/Integer" (gC j) (lA s) s s.heap ∧ va_OF "java/lang/Integer" "value" "I" (.int (iz ((j : Int) - 128))) (gC j) (lA s) s s.heap) ∧
  (∀ i, i < nS → tyO s (J i) = 23 ∧ va_T .byte (J i) (lenS.getD i 0) (fun j => .int ((bytS.getD i []).getD j 0)) (lA s) s s.heap) ∧
  (tyO s (K nS) = 24 ∧ va_T (.object "java/lang/Object") (K nS) 0 (fun _ => .null) (lA s) s s.heap) ∧
  (tyO s (K (nS + 1)) = 25 ∧ va_T (.object "java/lang/Integer") (K (nS + 1)) 256 (fun j => .ref (gC j)) (lA s) s s.heap) ∧
  (tyO s (K (nS + 2)) = 23 ∧ va_T .byte (K (nS + 2)) 100 (fun j => .int (iz (48 + (j : Int) % 10))) (lA s) s s.heap) ∧
  (tyO s (K (nS + 3)) = 23 ∧ va_T .byte (K (nS + 3)) 100 (fun j => .int (iz (48 + (j : Int) / 10))) (lA s) s s.heap) ∧
  (tyO s b = 22 ∧ va_T .int b L (fun j => .int (xs j)) (lA s) s s.heap) ∧
  (L < 2 ^ 31)
theorem OCL.t0 {s : State} {K J gC : Nat → Nat} {b L : Nat} {xs : Nat → Int32} (h : OCL s K J gC b L xs) : ∀ i, i < nS → tyO s (K i) = 28 ∧ va_O "java/lang/String" (K i) (lA s) s s.heap ∧ va_OF "java/lang/String" "coder" "B" (.int 0) (K i) (lA s) s s.heap ∧ va_OF "java/lang/String" "value" "[B" (.ref (J i)) (K i) (lA s) s s.heap := h.1
theorem OCL.t1 {s : State} {K J gC : Nat → Nat} {b L : Nat} {xs : Nat → Int32} (h : OCL s K J gC b L xs) : ∀ j, j < 256 → tyO s (gC j) = 26 ∧ va_O "java/lang/Integer" (gC j) (lA s) s s.heap ∧ va_OF "java/lang/Integer" "value" "I" (.int (iz ((j : Int) - 128))) (gC j) (lA s) s s.heap := h.2.1
theorem OCL.t2 {s : State} {K J gC : Nat → Nat} {b L : Nat} {xs : Nat → Int32} (h : OCL s K J gC b L xs) : ∀ i, i < nS → tyO s (J i) = 23 ∧ va_T .byte (J i) (lenS.getD i 0) (fun j => .int ((bytS.getD i []).getD j 0)) (lA s) s s.heap := h.2.2.1
theorem OCL.t3 {s : State} {K J gC : Nat → Nat} {b L : Nat} {xs : Nat → Int32} (h : OCL s K J gC b L xs) : tyO s (K nS) = 24 ∧ va_T (.object "java/lang/Object") (K nS) 0 (fun _ => .null) (lA s) s s.heap := h.2.2.2.1
theorem OCL.t4 {s : State} {K J gC : Nat → Nat} {b L : Nat} {xs : Nat → Int32} (h : OCL s K J gC b L xs) : tyO s (K (nS + 1)) = 25 ∧ va_T (.object "java/lang/Integer") (K (nS + 1)) 256 (fun j => .ref (gC j)) (lA s) s s.heap := h.2.2.2.2.1
theorem OCL.t5 {s : State} {K J gC : Nat → Nat} {b L : Nat} {xs : Nat → Int32} (h : OCL s K J gC b L xs) : tyO s (K (nS + 2)) = 23 ∧ va_T .byte (K (nS + 2)) 100 (fun j => .int (iz (48 + (j : Int) % 10))) (lA s) s s.heap := h.2.2.2.2.2.1
theorem OCL.t6 {s : State} {K J gC : Nat → Nat} {b L : Nat} {xs : Nat → Int32} (h : OCL s K J gC b L xs) : tyO s (K (nS + 3)) = 23 ∧ va_T .byte (K (nS + 3)) 100 (fun j => .int (iz (48 + (j : Int) / 10))) (lA s) s s.heap := h.2.2.2.2.2.2.1
theorem OCL.t7 {s : State} {K J gC : Nat → Nat} {b L : Nat} {xs : Nat → Int32} (h : OCL s K J gC b L xs) : tyO s b = 22 ∧ va_T .int b L (fun j => .int (xs j)) (lA s) s s.heap := h.2.2.2.2.2.2.2.1
theorem OCL.hL {s : State} {K J gC : Nat → Nat} {b L : Nat} {xs : Nat → Int32} (h : OCL s K J gC b L xs) : L < 2 ^ 31 := h.2.2.2.2.2.2.2.2
theorem ocl0 {s : State} {K J gC : Nat → Nat} {b L : Nat} {xs : Nat → Int32} {args : Array Value} (hts : ∀ w ∈ lw_tbl, w.before args s = true) (hB : vk_S nS lenS bytS K J (lA s) s s.heap) (hO : OLDW K J gC s) (hX : va_X b L xs s s.heap) (hL : L < 2 ^ 31) : OCL s K J gC b L xs := by
  have hi := insS_ok
  rw [Bool.and_eq_true] at hi
  have i4 := hts _ (in_tbl hi.1)
  have i1 := hts _ (in_tbl hi.2)
  obtain ⟨o1, o2, o3, o4, o5⟩ := hO
  have hb : va_T .int b L (fun j => .int (xs j)) (lA s) s s.heap := by
    obtain ⟨scr, h1, h2, h3, h4, h5⟩ := hX
    exact ⟨scr, h1, h2, h3, by omega, by rw [h4], h5, Nat.not_le.mpr (Array.getElem?_eq_some_iff.mp h1).1⟩
  exact ⟨fun i hi => ⟨tyO_obj (hB.1 i hi).1 i4, (hB.1 i hi).1, (hB.1 i hi).2.1, (hB.1 i hi).2.2.1⟩, fun j hj => ⟨tyO_obj (o3 j hj).1 i1, o3 j hj⟩, fun i hi => ⟨tyO_arr (hB.1 i hi).2.2.2, (hB.1 i hi).2.2.2⟩, ⟨tyO_arr o1, o1⟩, ⟨tyO_arr o2, o2⟩, ⟨tyO_arr o4, o4⟩, ⟨tyO_arr o5, o5⟩, ⟨tyO_arr hb, hb⟩, hL⟩
theorem shO_on {s : State} {K J gC : Nat → Nat} {b a : Nat} (h : mO K J gC b a) : shO s K J gC b a = some (tyO s a, if tyO s a = 28 then 4 else if tyO s a = 26 then 1 else szO s a) := if_pos h
theorem shO_arr {s : State} {K J gC : Nat → Nat} {b a t N : Nat} {ty : FieldType} {f : Nat → Value} (h : mO K J gC b a) (g : tyO s a = t ∧ va_T ty a N f (lA s) s s.heap) (ht : ¬ t = 28 ∧ ¬ t = 26) (hN : N < 2 ^ 31) : shO s K J gC b a = some (t, N) := by
  rw [shO_on h, g.1, if_neg ht.1, if_neg ht.2, szO_arr g.2 hN]
theorem iO_arr {s : State} {a t k N : Nat} {ty : FieldType} {f : Nat → Value} (g : tyO s a = t ∧ va_T ty a N f (lA s) s s.heap) (ht : ¬ t = 28 ∧ ¬ t = 26) (hk : k < N) : iO s a k = ivO (f k) := by
  unfold iO
  rw [g.1, if_neg ht.1, if_neg ht.2, slO_arr g.2 hk]
theorem rO_arr {s : State} {a t k N : Nat} {ty : FieldType} {f : Nat → Value} (g : tyO s a = t ∧ va_T ty a N f (lA s) s s.heap) (ht : ¬ t = 28 ∧ ¬ t = 26) (hk : k < N) : rO s a k = rvO (f k) := by
  unfold rO
  rw [g.1, if_neg ht.1, slO_arr g.2 hk]
theorem iO_int {s : State} {K J gC : Nat → Nat} {b L j : Nat} {xs : Nat → Int32} (O : OCL s K J gC b L xs) (hj : j < 256) : iO s (gC j) 0 = iz ((j : Int) - 128) := by
  obtain ⟨h1, h2, h3⟩ := O.t1 j hj
  have hex : ∃ x, va_OF "java/lang/Integer" "value" "I" (.int x) (gC j) (lA s) s s.heap := ⟨_, h3⟩
  unfold iO
  rw [h1, if_neg (by decide), if_pos rfl]
  unfold vIO
  rw [dif_pos hex]
  exact Value.int.inj (OF_eq hex.choose_spec h3)
theorem rO_str {s : State} {K J gC : Nat → Nat} {b L i : Nat} {xs : Nat → Int32} (O : OCL s K J gC b L xs) (hi : i < nS) : rO s (K i) 0 = some (J i) := by
  obtain ⟨h1, h2, h3, h4⟩ := O.t0 i hi
  have hex : ∃ r, va_OF "java/lang/String" "value" "[B" (.ref r) (K i) (lA s) s s.heap := ⟨_, h4⟩
  unfold rO
  rw [h1, if_pos rfl]
  unfold vRO
  rw [dif_pos hex]
  have := OF_eq hex.choose_spec h4
  exact congrArg some (Value.ref.inj this)
theorem len_lt : ((List.range nS).all fun i => decide (lenS.getD i 0 < 2 ^ 31)) = true := by decide +kernel
theorem rp0 {D : va_G} {s : State} {K J gC : Nat → Nat} {b L : Nat} {xs : Nat → Int32} (O : OCL s K J gC b L xs) : RP D s (lA s) (shO s K J gC b) (iO s) (rO s) s.heap := by
  intro a t n h
  by_cases hm : mO K J gC b a
  · have hm0 := hm
    have arr : ∀ {u N : Nat} {ty : FieldType} {f : Nat → Value}, tyO s a = u ∧ va_T ty a N f (lA s) s s.heap → (¬ u = 28 ∧ ¬ u = 26) → N < 2 ^ 31 → t = u ∧ n = N := by
      intro u N ty f g hu hN
      rw [shO_arr hm0 g hu hN] at h
      cases h
      exact ⟨rfl, rfl⟩
    have len : ∀ i, i < nS → lenS.getD i 0 < 2 ^ 31 := fun i hi => of_decide_eq_true (List.all_eq_true.mp len_lt i (List.mem_range.mpr hi))
    rcases hm with ⟨i, hi, e⟩ | ⟨j, hj, e⟩ | ⟨i, hi, e⟩ | e | e | e | e | e
    · subst e
      rw [shO_on hm0, (O.t0 i hi).1, if_pos rfl] at h
      cases h
      obtain ⟨g1, g2, g3, g4⟩ := O.t0 i hi
      obtain ⟨cell, hc⟩ := O_at g2
      refine ⟨fun z => by omega, (Array.getElem?_eq_some_iff.mp hc).1, rc_old (by omega) (by omega) hc ⟨fun z => by omega, fun _ => ⟨oO_of g2 hc, ?_, ?_⟩, fun z => by omega, fun z => by omega, fun z => by omega, fun z => by omega⟩⟩
      · have : iO s (K i) 1 = 0 := by unfold iO; rw [g1, if_pos rfl]
        rw [this]
        exact oF_of g3 hc
      · rw [rO_str O hi]
        exact oF_of g4 hc
    · subst e
      rw [shO_on hm0, (O.t1 j hj).1, if_neg (by decide), if_pos rfl] at h
      cases h
      obtain ⟨g1, g2, g3⟩ := O.t1 j hj
      obtain ⟨cell, hc⟩ := O_at g2
      refine ⟨fun z => by omega, (Array.getElem?_eq_some_iff.mp hc).1, rc_old (by omega) (by omega) hc ⟨fun _ => ⟨oO_of g2 hc, ?_⟩, fun z => by omega, fun z => by omega, fun z => by omega, fun z => by omega, fun z => by omega⟩⟩
      rw [iO_int O hj]
      exact oF_of g3 hc
    · subst e
      have g := O.t2 i hi
      obtain ⟨rfl, rfl⟩ := arr g (by decide) (len i hi)
      obtain ⟨cell, hc⟩ := T_at g.2
      exact ⟨fun z => by omega, (Array.getElem?_eq_some_iff.mp hc).1, rc_old (by omega) (by omega) hc ⟨fun z => by omega, fun z => by omega, fun z => by omega, fun _ => oT_of g.2 hc (fun j hj => by rw [iO_arr g (by decide) hj]; rfl), fun z => by omega, fun z => by omega⟩⟩
    · subst e
      have g := O.t3
      obtain ⟨rfl, rfl⟩ := arr g (by decide) (by decide)
      obtain ⟨cell, hc⟩ := T_at g.2
      exact ⟨fun z => by omega, (Array.getElem?_eq_some_iff.mp hc).1, rc_old (by omega) (by omega) hc ⟨fun z => by omega, fun z => by omega, fun z => by omega, fun z => by omega, fun _ => oT_of g.2 hc (fun j hj => absurd hj (Nat.not_lt_zero j)), fun z => by omega⟩⟩
    · subst e
      have g := O.t4
      obtain ⟨rfl, rfl⟩ := arr g (by decide) (by decide)
      obtain ⟨cell, hc⟩ := T_at g.2
      exact ⟨fun z => by omega, (Array.getElem?_eq_some_iff.mp hc).1, rc_old (by omega) (by omega) hc ⟨fun z => by omega, fun z => by omega, fun z => by omega, fun z => by omega, fun z => by omega, fun _ => oT_of g.2 hc (fun j hj => by rw [rO_arr g (by decide) hj]; rfl)⟩⟩
    · subst e
      have g := O.t5
      obtain ⟨rfl, rfl⟩ := arr g (by decide) (by decide)
      obtain ⟨cell, hc⟩ := T_at g.2
      exact ⟨fun z => by omega, (Array.getElem?_eq_some_iff.mp hc).1, rc_old (by omega) (by omega) hc ⟨fun z => by omega, fun z => by omega, fun z => by omega, fun _ => oT_of g.2 hc (fun j hj => by rw [iO_arr g (by decide) hj]; rfl), fun z => by omega, fun z => by omega⟩⟩
    · subst e
      have g := O.t6
      obtain ⟨rfl, rfl⟩ := arr g (by decide) (by decide)
      obtain ⟨cell, hc⟩ := T_at g.2
      exact ⟨fun z => by omega, (Array.getElem?_eq_some_iff.mp hc).1, rc_old (by omega) (by omega) hc ⟨fun z => by omega, fun z => by omega, fun z => by omega, fun _ => oT_of g.2 hc (fun j hj => by rw [iO_arr g (by decide) hj]; rfl), fun z => by omega, fun z => by omega⟩⟩
    · subst e
      have g := O.t7
      obtain ⟨rfl, rfl⟩ := arr g (by decide) O.hL
      obtain ⟨cell, hc⟩ := T_at g.2
      exact ⟨fun z => by omega, (Array.getElem?_eq_some_iff.mp hc).1, rc_old (by omega) (by omega) hc ⟨fun z => by omega, fun z => by omega, fun _ => oT_of g.2 hc (fun j hj => by rw [iO_arr g (by decide) hj]; rfl), fun z => by omega, fun z => by omega, fun z => by omega⟩⟩
  · unfold shO at h
    rw [if_neg hm] at h
    cases h
theorem cod_byt : ((List.range 22).all fun i => decide (lenS.getD i 0 = (cod i).length) && (List.range (cod i).length).all fun j => decide ((bytS.getD i []).getD j 0 = iz ((cod i).getD j 0))) = true := by decide +kernel
theorem old0 {s : State} {K J gC : Nat → Nat} {b L : Nat} {xs : Nat → Int32} (O : OCL s K J gC b L xs) : shO s K J gC b b = some (22, L) ∧ OLD (shO s K J gC b) (iO s) (rO s) K ∧ OLW (shO s K J gC b) (iO s) (rO s) K := by
  have len : ∀ i, i < nS → lenS.getD i 0 < 2 ^ 31 := fun i hi => of_decide_eq_true (List.all_eq_true.mp len_lt i (List.mem_range.mpr hi))
  have mb : mO K J gC b b := Or.inr (Or.inr (Or.inr (Or.inr (Or.inr (Or.inr (Or.inr rfl))))))
  have m3 : mO K J gC b (K nS) := Or.inr (Or.inr (Or.inr (Or.inl rfl)))
  have m4 : mO K J gC b (K (nS + 1)) := Or.inr (Or.inr (Or.inr (Or.inr (Or.inl rfl))))
  have m5 : mO K J gC b (K (nS + 2)) := Or.inr (Or.inr (Or.inr (Or.inr (Or.inr (Or.inl rfl)))))
  have m6 : mO K J gC b (K (nS + 3)) := Or.inr (Or.inr (Or.inr (Or.inr (Or.inr (Or.inr (Or.inl rfl))))))
  refine ⟨shO_arr mb O.t7 (by decide) O.hL, ⟨shO_arr m3 O.t3 (by decide) (by decide), shO_arr m4 O.t4 (by decide) (by decide), fun j hj => ⟨gC j, ?_, ?_, iO_int O hj⟩⟩, ⟨shO_arr m5 O.t5 (by decide) (by decide), shO_arr m6 O.t6 (by decide) (by decide), fun j hj => ⟨?_, ?_⟩⟩, fun i hi => ?_⟩
  · rw [rO_arr O.t4 (by decide) hj]; rfl
  · have m1 : mO K J gC b (gC j) := Or.inr (Or.inl ⟨j, hj, rfl⟩)
    rw [shO_on m1, (O.t1 j hj).1, if_neg (by decide), if_pos rfl]
  · rw [iO_arr O.t5 (by decide) hj]; rfl
  · rw [iO_arr O.t6 (by decide) hj]; rfl
  · have hn : i < nS := (cod_ok hi).1
    have c := List.all_eq_true.mp cod_byt i (List.mem_range.mpr hi)
    rw [Bool.and_eq_true, decide_eq_true_eq] at c
    obtain ⟨c1, c2⟩ := c
    have m0 : mO K J gC b (K i) := Or.inl ⟨i, hn, rfl⟩
    have m2 : mO K J gC b (J i) := Or.inr (Or.inr (Or.inl ⟨i, hn, rfl⟩))
    refine ⟨Or.inr ⟨4, by rw [shO_on m0, (O.t0 i hn).1, if_pos rfl]⟩, ?_, J i, rO_str O hn, Or.inr ?_, fun k x hk => ?_⟩
    · unfold iO
      rw [(O.t0 i hn).1, if_pos rfl]
      rfl
    · rw [← c1]
      exact shO_arr m2 (O.t2 i hn) (by decide) (len i hn)
    · have hkl : k < (cod i).length := (List.getElem?_eq_some_iff.mp hk).1
      rw [iO_arr (O.t2 i hn) (by decide) (by omega)]
      have c3 := of_decide_eq_true (List.all_eq_true.mp c2 k (List.mem_range.mpr hkl))
      show (bytS.getD i []).getD k 0 = iz x
      rw [c3]
      congr 1
      rw [List.getD_eq_getElem?_getD, hk]
      rfl
