/-! THE LAW'S START: words of the tables, an 'all' of the start, the known classes -/
def stA (g : Nat → Option Bool) (acc : Option Bool) (i : Nat) : Option Bool := match acc with
  | some true => g i
  | x => x
theorem fold_all {g : Nat → Option Bool} : ∀ (L : List Nat) (acc : Option Bool), L.foldl (stA g) acc = some true → acc = some true ∧ ∀ i ∈ L, g i = some true
  | [], acc, h => ⟨h, fun i hi => absurd hi List.not_mem_nil⟩
  | x :: L, acc, h => by
    have h2 : L.foldl (stA g) (stA g acc x) = some true := h
    obtain ⟨h3, h4⟩ := fold_all L _ h2
    clear h h2
    have ha : acc = some true := by
      cases acc with
      | none => exact absurd h3 (by simp [stA])
      | some b => cases b with
        | true => rfl
        | false => exact absurd h3 (by simp [stA])
    subst ha
    exact ⟨rfl, fun i hi => by
      rcases List.mem_cons.mp hi with z | z
      · rw [z]; exact h3
      · exact h4 i z⟩
theorem all_at {args : Array Value} {first s : State} {o : Option Outcome} {idx : List Nat} {t : Term} {c : Cond} (h : (Cond.all t c).holds args first o s idx = true) {a : Addr} {cell : Cell} (ht : t.eval args first o idx s = some (.ref a)) (hat : s.arrayAt? a = some cell) : ∀ j, j < cell.slots.size → c.holds args first o s (j :: idx) = true := by
  intro j hj
  unfold Cond.holds at h ⊢
  have h1 : (Cond.all t c).value args first o s idx = some true := by simpa using h
  simp only [Cond.value, ht, hat] at h1
  have h2 : (List.range cell.slots.size).foldl (stA fun i => c.value args first o s (i :: idx)) (some true) = some true := h1
  have := (fold_all _ _ h2).2 j (List.mem_range.mpr hj)
  simpa using this
theorem sel_up {y z : MethodName} {s : State} {args : Array Value} (hy : y.cls ≠ "java/lang/invoke/MethodHandle" ∧ y.cls ≠ "java/lang/invoke/VarHandle") (hz : z.cls = y.cls)
    (hs : (Cond.selects "java/lang/StringBuilder" z z).before args s = true) (hpriv : (Cond.privateMethod y).before args s = true) (hinst : (Cond.instanceMethod y).before args s = true) : (Cond.selects "java/lang/StringBuilder" y y).before args s = true := by
  obtain ⟨c, r, m, q1, q2, q3, q4, mk, hk, hki⟩ := Cond.selects_spec hs
  obtain ⟨mk2, meth2, hnamed, hmethM, -, -⟩ := Cond.instanceMethod_spec hinst
  have hfound : s.methodFound? y.cls y.name y.desc = some mk2 := State.methodFound?_of_named hnamed hy
  have e1 := findClass_of_methodNamed q3
  have e2 := findClass_of_methodNamed hnamed
  rw [hz, e2] at e1
  have hcls : mk2.cls = m.cls := Option.some.inj e1
  have hsel : selectMethod {} s.vm c mk2 = .method mk2 := selectMethod_private hmethM (Cond.privateMethod_at hpriv mk2 meth2 hnamed hmethM)
  simp only [Cond.before, Cond.holds, Cond.value, q1, hfound, hnamed, hsel, hcls, hk]
  simp
  exact hki
def seW : Bool := decide (lw_tbl[610]? = some (.selects "java/lang/StringBuilder" yJ5_isLatin1_aae02 yJ5_isLatin1_aae02)) && ([(588, yJ5_ensureCapacityInternal_d00df), (592, yJ5_newCapacity_0f7a4), (648, yJ5_putStringAt_47b60), (652, yJ5_inflateIfNeededFor_a7421)].all fun q => decide (lw_tbl[q.1]? = some (.privateMethod q.2)) && (decide (lw_tbl[q.1 + 1]? = some (.instanceMethod q.2)) && (decide (q.2.cls = "java/lang/AbstractStringBuilder") && (decide (q.2.cls ≠ "java/lang/invoke/MethodHandle") && decide (q.2.cls ≠ "java/lang/invoke/VarHandle")))))
theorem seW_ok : seW = true := by decide +kernel
theorem hts2 {s : State} {args : Array Value} (hts : ∀ w ∈ lw_tbl, w.before args s = true) : ∀ w ∈ lw_tb2, w.before args s = true := by
  intro w hw
  unfold lw_tb2 at hw
  rcases List.mem_append.mp hw with h | h
  · exact hts w h
  · obtain ⟨y, hy, rfl⟩ := List.mem_map.mp h
    have k := seW_ok
    unfold seW at k
    rw [Bool.and_eq_true, decide_eq_true_eq] at k
    have hs := hts _ (List.mem_of_getElem? k.1)
    have key : ∃ i, (i, y) ∈ [(588, yJ5_ensureCapacityInternal_d00df), (592, yJ5_newCapacity_0f7a4), (648, yJ5_putStringAt_47b60), (652, yJ5_inflateIfNeededFor_a7421)] := by
      unfold exSel at hy
      simp only [List.mem_cons, List.not_mem_nil, or_false] at hy
      rcases hy with h | h | h | h <;> subst h
      · exact ⟨588, by simp⟩
      · exact ⟨592, by simp⟩
      · exact ⟨648, by simp⟩
      · exact ⟨652, by simp⟩
    obtain ⟨i, hi⟩ := key
    have c := List.all_eq_true.mp k.2 _ hi
    simp only [Bool.and_eq_true, decide_eq_true_eq] at c
    obtain ⟨c1, c2, c3, c4, c5⟩ := c
    exact sel_up ⟨c4, c5⟩ (show yJ5_isLatin1_aae02.cls = y.cls by rw [c3]; decide +kernel) hs (hts _ (List.mem_of_getElem? c1)) (hts _ (List.mem_of_getElem? c2))
theorem wAll_ok {s : State} {args : Array Value} (hts : ∀ w ∈ lw_tbl, w.before args s = true) : ∀ w ∈ wAll, w.before args s = true := fun w hw => hts2 hts w (List.mem_filter.mp hw).1
def insCk : Bool := (List.range 15).all (fun t => match vwCl[t]? with
  | some r => lw_tbl.contains (Cond.instantiable r.1 r.2.2)
  | none => false)
theorem insCk_ok : insCk = true := by decide +kernel
theorem in_tbl {w : Cond} (h : lw_tbl.contains w = true) : w ∈ lw_tbl := by simpa using h
theorem known0 {s : State} {args : Array Value} (hts : ∀ w ∈ lw_tbl, w.before args s = true) : ∃ D : va_G, va_K D vwCl [] s := by
  have h0 : ∀ t : Nat, ∃ q : ClassId × (Nat → Nat), ∀ r, vwCl[t]? = some r → u_Kn s r.1 r.2.1 r.2.2 q.1 q.2 := by
    intro t
    cases hr : vwCl[t]? with
    | none => exact ⟨(default, fun _ => 0), fun r h => by cases h⟩
    | some r =>
      have ht : t < 15 := (List.getElem?_eq_some_iff.mp hr).1
      have c := List.all_eq_true.mp insCk_ok t (List.mem_range.mpr ht)
      rw [hr] at c
      obtain ⟨cC, iS, k⟩ := u_known (C := r.1) (T := r.2.1) (N := r.2.2) (n := r.2.2) (ws := wAll) (wAll_ok hts) (cls_inA hr) (hts _ (in_tbl c))
      exact ⟨(cC, iS), fun r' h => by cases h; exact k⟩
  obtain ⟨f, hf⟩ := Classical.axiomOfChoice h0
  exact ⟨(fun k => (f k).1, fun k => (f k).2), fun k r hr => hf k r hr, fun k q h => by simp at h⟩
