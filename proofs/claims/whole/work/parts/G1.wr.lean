/-! STAGE 4: what the law's own methods that catch are made of: loads, handlers -/
def ctN (k : Nat) : String := if k = 13 then "java/lang/IllegalStateException" else if k = 19 then "java/lang/IllegalArgumentException" else "java/util/NoSuchElementException"
def ctO (k : Nat) : Bool := decide (k = 13) || (decide (k = 19) || decide (k = 99))
def ncP (E T : String) : Bool := decide (E = "java/lang/IllegalArgumentException" ∧ T = "java/lang/IllegalStateException") || (decide (E = "java/util/NoSuchElementException" ∧ T = "java/lang/IllegalStateException") || decide (E = "java/util/NoSuchElementException" ∧ T = "java/lang/IllegalArgumentException"))
def NCs (U : State) : Prop := va_Nc "java/lang/IllegalArgumentException" "java/lang/IllegalStateException" U ∧ va_Nc "java/util/NoSuchElementException" "java/lang/IllegalStateException" U ∧ va_Nc "java/util/NoSuchElementException" "java/lang/IllegalArgumentException" U
def wLds (cc : ByteArray) : Nat → Nat → Nat → Nat → Bool
  | pc, _, 0, pcE => decide (pc = pcE)
  | pc, i, n + 1, pcE => wDc cc pc (fun x k => decide (ldI x = some (0, i)) && (decide (k = iln x k) && wLds cc (pc + k) (i + 1) n pcE))
def hdl (cc : ByteArray) (t nL : Nat) (k : Int) : Bool := wDc cc t (fun x n => match stI x with
  | some (1, j) => decide (n = iln x n) && (decide (j < nL) && (wIn cc (t + n) (.iconst k) 1 && wIn cc (t + n + 1) .ireturn 1))
  | _ => false)
def hOK (cc : ByteArray) (pc nL : Nat) (E : String) (k : Int) : List (Nat × Nat × Nat × Nat) → Bool
  | [] => false
  | z :: zs => ctO z.2.2.2 && (decide (z.1 ≤ pc) && (decide (pc < z.2.1) && (if ctN z.2.2.2 = E then hdl cc z.2.2.1 nL k else ncP E (ctN z.2.2.2) && hOK cc pc nL E k zs)))
theorem ctN_link {k : Nat} (h : ctO k = true) : Cond.classLink RL k (ctN k) ∈ wAll ∧ ¬ k = 0 := by
  unfold ctO at h
  simp only [Bool.or_eq_true, decide_eq_true_eq] at h
  rcases h with rfl | rfl | rfl
  · exact ⟨mem_of_contains (by decide +kernel) rfl, by decide⟩
  · exact ⟨mem_of_contains (by decide +kernel) rfl, by decide⟩
  · exact ⟨mem_of_contains (by decide +kernel) rfl, by decide⟩
theorem ncP_of {E T : String} {U : State} (h : NCs U) (g : ncP E T = true) : va_Nc E T U := by
  unfold ncP at g
  simp only [Bool.or_eq_true, decide_eq_true_eq] at g
  rcases g with ⟨rfl, rfl⟩ | ⟨rfl, rfl⟩ | ⟨rfl, rfl⟩
  · exact h.1
  · exact h.2.1
  · exact h.2.2
theorem NCs.moved {u U : State} (hvm : u.vm.Alike U.vm) (h : NCs u) : NCs U := ⟨h.1.moved hvm, h.2.1.moved hvm, h.2.2.moved hvm⟩
theorem hOK_of {cc : ByteArray} {pc nL : Nat} {E : String} {k : Int} : ∀ {hh : List (Nat × Nat × Nat × Nat)}, hOK cc pc nL E k hh = true → ∃ pre x suf, hh = pre ++ x :: suf ∧ (∀ z ∈ pre, ctO z.2.2.2 = true ∧ ncP E (ctN z.2.2.2) = true) ∧ ctO x.2.2.2 = true ∧ ctN x.2.2.2 = E ∧ (x.1 ≤ pc ∧ pc < x.2.1) ∧ hdl cc x.2.2.1 nL k = true := by
  intro hh
  induction hh with
  | nil => intro h; cases h
  | cons z zs ih =>
    intro h
    unfold hOK at h
    simp only [Bool.and_eq_true, decide_eq_true_eq] at h
    obtain ⟨h1, h2, h3, h4⟩ := h
    by_cases e : ctN z.2.2.2 = E
    · rw [if_pos e] at h4
      exact ⟨[], z, zs, rfl, fun w hw => absurd hw List.not_mem_nil, h1, e, ⟨h2, h3⟩, h4⟩
    · rw [if_neg e, Bool.and_eq_true] at h4
      obtain ⟨pre, x, suf, g1, g2, g3⟩ := ih h4.2
      refine ⟨z :: pre, x, suf, by rw [g1]; rfl, fun w hw => ?_, g3⟩
      rcases List.mem_cons.mp hw with rfl | hw
      · exact ⟨h1, h4.1⟩
      · exact g2 w hw
theorem entA_map : ∀ (vs : List Value), vs.all (fun v => v.category == 1) = true → entA vs = vs.map some
  | [], _ => rfl
  | v :: vs, h => by
    rw [List.all_cons, Bool.and_eq_true, beq_iff_eq] at h
    rw [entA, if_neg (by omega), entA_map vs h.2]
    rfl
section LAW
variable {l : Launch} {K J : Nat → Nat} {p : Program} {e : Env} {Rm : Room} {s : State} {m : MethodId} {args : Array Value} {below : List Frame} {meth : Method} {cd : Code} {A : Nat → Prop} {H : Heap} {locs : List Loc} {ls : Array Slot} {D : va_G} {sh : HS} {I : HI} {R : HR} {cells slots pc pc' q : Nat} {Q : State → Prop} {G : VF} {st rest : List Value} {cc : ByteArray}
theorem wl_lds {pcE : Nat} (hx : p.tables.exec = Jvm.exec) (hb : cd.code = cc) : ∀ (xs : List Int32) (pc i : Nat) (st : List Value), wLds cc pc i xs.length pcE = true → (∀ (j : Nat) (x : Int32), xs[j]? = some x → ls[i + j]? = some (.val (.int x))) → W p l e Rm s m args below meth cd H locs cells slots Q (F0 m pcE ls ((xs.map Value.int).reverse ++ st)) → W p l e Rm s m args below meth cd H locs cells slots Q (F0 m pc ls st) := by
  intro xs
  induction xs with
  | nil =>
    intro pc i st h _ k
    have h : decide (pc = pcE) = true := h
    rw [decide_eq_true_eq] at h
    rw [h]
    exact k
  | cons x xs ih =>
    intro pc i st h hl k
    have h : wDc cc pc (fun x k => decide (ldI x = some (0, i)) && (decide (k = iln x k) && wLds cc (pc + k) (i + 1) xs.length pcE)) = true := h
    obtain ⟨ins, n, hd, g⟩ := wDc_of h
    simp only [Bool.and_eq_true, decide_eq_true_eq] at g
    obtain ⟨g1, g2, g3⟩ := g
    refine wl_ld (t := 0) (i := i) (v := .int x) (pc' := pc + n) hx hb ?_ (hl 0 x rfl) rfl ?_
    · unfold wLd wDc
      rw [hd]
      simp only [g1, decide_true, Bool.true_and, Bool.and_true, ← g2]
    · refine ih (pc + n) (i + 1) (.int x :: st) g3 (fun j y hj => ?_) ?_
      · have := hl (j + 1) y hj
        rw [show i + (j + 1) = i + 1 + j by omega] at this
        exact this
      · rw [List.map_cons, List.reverse_cons, List.append_assoc] at k
        exact k
/-- caught: the handler gives k back -/
theorem lk_catch {nL : Nat} {E : String} {k : Int} {hh : List (Nat × Nat × Nat × Nat)} {ce : Cell} {x9 : Nat} {lv : List (Nat × Value)} {Qc : Array Value → State → Outcome → State → Prop} {free : Addr → Prop} (S : CallFix p m cd cc nL s args wAll RL) (hr : meth.sig.returnType = some .int) (hlk : meth.locks = false) (htab : cd.exceptionTable.toList = tableOf hh) (h : hOK cc pc nL E k hh = true) (hN : NCs s) (hW : ∀ w ∈ nW, va_Nw w s) (hcell : H[x9]? = some ce) (hv : ce.vm = .none) (hcl : s.vm.findClass E = some ce.cls) (hl : lv_has ls nL lv)
    (hq : ∀ t : State, t.heap = H → s.WarmedH t.vm → Qc args s (.returned (some (.int (Int32.ofInt k)))) t) (hf : ∀ q ∈ locs, free q.base) :
    vx_W p l e Rm s m args below meth cd H locs cells slots (MQ below Qc args s cells slots free) (F0 m pc ls rest) x9 := by
  obtain ⟨hx, hb, hml, hown, hts⟩ := S
  obtain ⟨pre, x, suf, g1, g2, g3, g4, ⟨g5, g6⟩, g7⟩ := hOK_of h
  have hE : Cond.castable E E ∈ nW := by
    unfold ctO at g3
    simp only [Bool.or_eq_true, decide_eq_true_eq] at g3
    rw [← g4]
    rcases g3 with q | q | q <;> rw [q] <;> simp [ctN, nW]
  obtain ⟨ins, n, hd, g8⟩ := wDc_of g7
  refine vx_catch (own := RL) (name := E) (E := E) hown (tableOf pre) ⟨x.1, x.2.1, x.2.2.1, x.2.2.2⟩ (tableOf suf) (by rw [htab, g1]; simp [tableOf]) (fun z hz => ?_) (by simp [covers, g5, g6]) (ctN_link g3).2 (by rw [← g4]; exact hts _ (ctN_link g3).1) (va_Nw.use rfl (hW _ hE)) hcell hv hcl ?_
  · unfold tableOf at hz
    obtain ⟨w, hw, rfl⟩ := List.mem_map.mp hz
    obtain ⟨a1, a2⟩ := g2 w hw
    exact Or.inr ⟨(ctN_link a1).2, ctN w.2.2.2, hts _ (ctN_link a1).1, ncP_of hN a2⟩
  · cases e1 : stI ins with
    | none => rw [e1] at g8; cases g8
    | some tj =>
      obtain ⟨t, j⟩ := tj
      rw [e1] at g8
      match t, g8 with
      | 1, g8 =>
        simp only [Bool.and_eq_true, decide_eq_true_eq] at g8
        obtain ⟨a1, a2, a3, a4⟩ := g8
        refine wl_st (t := 1) (i := j) (v := .ref x9) (pc' := x.2.2.1 + n) hx hb ?_ rfl (by decide) hl a2 rfl (fun ls' hl' => ?_)
        · unfold wSt wDc
          rw [hd]
          simp only [e1, decide_true, Bool.true_and, Bool.and_true, ← a1]
        · refine lv_iconst (v := Int32.ofInt k) hx hb (wIn_of a3) rfl ?_
          exact W.iret hx hb hr hq hf (wIn_of a4) hlk
end LAW
