/-! the heap's instructions -/
theorem lkm {β : Type} : ∀ (T : List (Nat × β)) (k : Nat) (v : β), T.lookup k = some v → (k, v) ∈ T
  | [], _, _, h => by simp at h
  | (a, b) :: T, k, v, h => by
    rw [List.lookup_cons] at h
    split at h
    · rename_i e
      have e2 : k = a := by simpa using e
      cases h
      rw [e2]
      exact List.mem_cons_self
    · exact List.mem_cons_of_mem _ (lkm T k v h)
theorem lk2m {β : Type} {T : List (Nat × β)} {k ix : Nat} {v : β} (h : lk2 T k ix = some v) : (k * 10000 + ix, v) ∈ T ∧ (k * 10000 + ix) / 10000 = k ∧ (k * 10000 + ix) % 10000 = ix := by
  unfold lk2 at h
  split at h
  · exact ⟨lkm _ _ _ h, by omega, by omega⟩
  · cases h
def isD (d : String) (ty : Nat) : Bool := match ty with
  | 0 => d == "I"
  | 1 => d == "Z"
  | 3 => d == "B"
  | _ => !(d == "I" || (d == "Z" || d == "B")) && (match parseFieldDescriptor d with | some (.object _) => true | some (.array _) => true | _ => false)
def fchk (q : Nat × Nat × Nat × Nat × Nat) : Bool :=
  if q.2.1 < 15 then (match vwCl[q.2.1]? with
    | some r => decide (q.2.2.1 < r.2.2) && (decide (lw_tb2[q.2.2.2.2]? = some (.fieldLink (cN (q.1 / 10000)) (q.1 % 10000) (r.2.1 q.2.2.1).1 (r.2.1 q.2.2.1).2.1 (r.2.1 q.2.2.1).2.2.1)) && (isD (r.2.1 q.2.2.1).2.2.1 q.2.2.2.1 && (!(r.2.1 q.2.2.1).2.2.2 || decide ((r.2.1 q.2.2.1).1 = cN q.2.1))))
    | none => false)
  else if q.2.1 = 20 then decide (lw_tb2[q.2.2.2.2]? = some (.fieldLink (cN (q.1 / 10000)) (q.1 % 10000) "java/lang/String" "value" "[B"))
  else if q.2.1 = 21 then decide (lw_tb2[q.2.2.2.2]? = some (.fieldLink (cN (q.1 / 10000)) (q.1 % 10000) "java/lang/String" "coder" "B"))
  else true
theorem fL_ok : fL.all fchk = true := by decide +kernel
def gchk (q : Nat × Nat × Nat) : Bool := match q.2.1 with
  | 0 => decide (lw_tb2[q.2.2]? = some (.fieldLink (cN (q.1 / 10000)) (q.1 % 10000) "java/lang/String" "COMPACT_STRINGS" "Z"))
  | _ => decide (lw_tb2[q.2.2]? = some (.fieldLink (cN (q.1 / 10000)) (q.1 % 10000) "jdk/internal/util/Preconditions" "SIOOBE_FORMATTER" "Ljava/util/function/BiFunction;"))
theorem gL_ok : gL.all gchk = true := by decide +kernel
def nchk (q : Nat × Nat × Nat × Nat × Nat) : Bool := match vwCl[q.2.1]? with
  | some r => decide (lw_tb2[q.2.2.1]? = some (.classLink (cN (q.1 / 10000)) (q.1 % 10000) r.1)) && (decide (lw_tb2[q.2.2.2.1]? = some (.instantiable r.1 r.2.2)) && decide (lw_tb2[q.2.2.2.2]? = some (.initialized r.1)))
  | none => false
theorem nL_ok : nL.all nchk = true := by decide +kernel
theorem iL_ok : iL.all (fun q => decide (lw_tb2[q.2.2]? = some (.constant (cN (q.1 / 10000)) (q.1 % 10000) q.2.1))) = true := by decide +kernel
theorem lL_ok : lL.all (fun q => decide (lw_tb2[q.2.2]? = some (.constantLong (cN (q.1 / 10000)) (q.1 % 10000) q.2.1))) = true := by decide +kernel
def cFl (t : Nat) : List Cond := ((vwCl[t]?).map (fun r => u_ws r.1 r.2.1 r.2.2)).getD []
theorem cls_in : ((List.range 15).all fun t => (cFl t).all fun w => goodWord w && lw_tb2.contains w) = true := by decide +kernel
theorem cls_inA {t : Nat} {r : vw_C} (hr : vwCl[t]? = some r) : ∀ w ∈ u_ws r.1 r.2.1 r.2.2, w ∈ wAll := by
  intro w hw
  have ht : t < 15 := (List.getElem?_eq_some_iff.mp hr).1
  have h := List.all_eq_true.mp cls_in t (List.mem_range.mpr ht)
  have e : cFl t = u_ws r.1 r.2.1 r.2.2 := by unfold cFl; rw [hr]; rfl
  rw [e] at h
  have h2 := List.all_eq_true.mp h w hw
  simp only [Bool.and_eq_true] at h2
  exact List.mem_filter.mpr ⟨by simpa using h2.2, h2.1⟩
def tyc (t k : Nat) : FieldType := ((vwCl[t]?).bind (fun r => parseFieldDescriptor (r.2.1 k).2.2.1)).getD .int
theorem tyc_okB : ((List.range 15).all fun t => (List.range (fN t)).all fun k => ((vwCl[t]?).bind (fun r => parseFieldDescriptor (r.2.1 k).2.2.1)).isSome) = true := by decide +kernel
theorem tyc_ok {t : Nat} {r : vw_C} (hr : vwCl[t]? = some r) : ∀ k, k < r.2.2 → parseFieldDescriptor (r.2.1 k).2.2.1 = some (tyc t k) := by
  intro k hk
  have ht : t < 15 := (List.getElem?_eq_some_iff.mp hr).1
  have h := List.all_eq_true.mp tyc_okB t (List.mem_range.mpr ht)
  have e : fN t = r.2.2 := by unfold fN; rw [hr]; rfl
  rw [e] at h
  have h2 := List.all_eq_true.mp h k (List.mem_range.mpr hk)
  unfold tyc
  rw [hr] at h2 ⊢
  simp only [Option.bind_some] at h2 ⊢
  obtain ⟨z, hz⟩ := Option.isSome_iff_exists.mp h2
  rw [hz]
  rfl
theorem nmc_okB : ((List.range 15).all fun t => (List.range (fN t)).all fun a => (List.range (fN t)).all fun b => a == b || (match vwCl[t]? with | some r => !((r.2.1 a).2.1 == (r.2.1 b).2.1) | none => true)) = true := by decide +kernel
theorem nmc_ok {t : Nat} {r : vw_C} (hr : vwCl[t]? = some r) : ∀ a, a < r.2.2 → ∀ b, b < r.2.2 → a ≠ b → (r.2.1 a).2.1 ≠ (r.2.1 b).2.1 := by
  intro a ha b hb hab
  have ht : t < 15 := (List.getElem?_eq_some_iff.mp hr).1
  have h := List.all_eq_true.mp nmc_okB t (List.mem_range.mpr ht)
  have e : fN t = r.2.2 := by unfold fN; rw [hr]; rfl
  rw [e] at h
  have h2 := List.all_eq_true.mp (List.all_eq_true.mp h a (List.mem_range.mpr ha)) b (List.mem_range.mpr hb)
  rw [hr] at h2
  simpa [hab] using h2
