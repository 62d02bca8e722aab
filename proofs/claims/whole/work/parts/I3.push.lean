/-! STAGE 4: numbers pushed, a number made a long -/
def gNr (x : Int32) : Int64 := if x = 0 then 0 else 1
theorem cv_i2l {cc : ByteArray} {pc : Nat} (h : wIn cc pc .i2l 1 = true) : ∀ x, CONV cc pc (pc + 1) (.int x) (.long x.toInt64) := fun x _ _ _ _ _ _ _ _ _ _ _ _ _ _ _ _ _ hx hb kk => lv_i2l hx hb (wIn_of h) rfl kk
theorem cv_near {cc : ByteArray} {pc : Nat} (h : (wIn cc pc (.ifCond .eq 7) 3 && (wIn cc (pc + 3) (.lconst 1) 1 && (wIn cc (pc + 4) (.goto 4) 3 && wIn cc (pc + 7) (.lconst 0) 1))) = true) : ∀ x, CONV cc pc (pc + 8) (.int x) (.long (gNr x)) := by
  intro x _ _ _ _ _ _ _ _ _ _ _ _ _ _ _ _ _ hx hb kk
  simp only [Bool.and_eq_true] at h
  obtain ⟨h1, h2, h3, h4⟩ := h
  refine lv_if_eq (tgt := pc + 7) hx hb (wIn_of h1) (by omega) (fun e => ?_) (fun e => ?_)
  · refine lv_lconst (v := 0) hx hb (wIn_of h4) rfl ?_
    unfold gNr at kk
    rw [if_pos e] at kk
    exact kk
  · refine lv_lconst (v := 1) hx hb (wIn_of h2) rfl ?_
    refine lv_goto (tgt := pc + 8) hx hb (wIn_of h3) (by omega) ?_
    unfold gNr at kk
    rw [if_neg e] at kk
    exact kk
section LAW
variable {l : Launch} {K J : Nat → Nat} {p : Program} {e : Env} {Rm : Room} {s : State} {m : MethodId} {args : Array Value} {below : List Frame} {meth : Method} {cd : Code} {D : va_G} {sh : HS} {b L i : Nat} {xs : Nat → Int32} {AD : Int → Nat} {o3 o4 : Nat}
theorem push_ag (LC : LCX l K J p s m args cd D b L xs sh AD o3 o4) (hi : i + 6 ≤ L) {n pc : Nat} (h : wArs pc 1 n = true) (hn : 1 + n ≤ 6) : PUSHL p l e Rm s m args below meth cd b i pc (pc + 6 * n) ((agL xs i 1 n).map Value.int) := by
  intro H locs ls cells slots Q st hS h0 h5 kk
  obtain ⟨⟨S, htr⟩, -, ⟨hX, hbl, hL⟩, -, -⟩ := LC
  exact lw_args S.1 S.2.1 hX hbl hL hi hS h0 h5 n 1 pc st h hn kk
theorem push_ac (LC : LCX l K J p s m args cd D b L xs sh AD o3 o4) (hi : i + 6 ≤ L) {pc : Nat} (h : (wArs pc 1 2 && (wAr (pc + 12) 3 && (wIn code (pc + 18) (.ifCond .eq 7) 3 && (wIn code (pc + 21) (.iconst 1) 1 && (wIn code (pc + 22) (.goto 4) 3 && wIn code (pc + 25) (.iconst 0) 1))))) = true) : PUSHL p l e Rm s m args below meth cd b i pc (pc + 26) ([xs (i + 1), xs (i + 2), bz (decide (¬ xs (i + 3) = 0))].map Value.int) := by
  intro H locs ls cells slots Q st hS h0 h5 kk
  obtain ⟨⟨S, htr⟩, -, ⟨hX, hbl, hL⟩, -, -⟩ := LC
  simp only [Bool.and_eq_true] at h
  obtain ⟨h1, h2, h3, h4, h6, h7⟩ := h
  have hx := S.1
  have hb := S.2.1
  refine lw_args hx hb hX hbl hL hi hS h0 h5 2 1 pc st h1 (by decide) ?_
  refine lw_arg (k := 3) hx hb hX hbl hL h2 (by omega) hS h0 h5 ?_
  refine lv_if_eq (tgt := pc + 25) hx hb (wIn_of h3) (by omega) (fun e0 => ?_) (fun e0 => ?_)
  · refine lv_iconst (v := 0) hx hb (wIn_of h7) rfl ?_
    rw [decide_eq_false (fun q => q e0)] at kk
    exact kk
  · refine lv_iconst (v := 1) hx hb (wIn_of h4) rfl ?_
    refine lv_goto (tgt := pc + 26) hx hb (wIn_of h6) (by omega) ?_
    rw [decide_eq_true e0] at kk
    exact kk
end LAW
