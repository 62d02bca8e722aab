theorem u2_off {α : Type} {f : Nat → Nat → α} {a k b : Nat} {x : α} (h : b ≠ a) (j : Nat) : u2 f a k x b j = f b j := by simp [u2, h]
theorem u2_on {α : Type} {f : Nat → Nat → α} {a k : Nat} {x : α} (j : Nat) : u2 f a k x a j = if j = k then x else f a j := by simp [u2]
theorem rc_off {D : va_G} {s : State} {t n b : Nat} {I I' : HI} {R R' : HR} {H H' : Heap} (h : rc D s t n b I R H) (hH : H'[b]? = H[b]?) (hI : ∀ j, I' b j = I b j) (hR : ∀ j, R' b j = R b j) : rc D s t n b I' R' H' := by
  obtain ⟨h1, h2, h3⟩ := h
  refine ⟨fun ht => ?_, fun ht => ?_, fun u hu => ?_⟩
  · obtain ⟨r, hr, ho⟩ := h1 ht
    exact ⟨r, hr, (ho.kept hH).to (fun k _ => by simp only [fv, hI, hR])⟩
  · obtain ⟨cA, g1, g2⟩ := h2 ht
    exact ⟨cA, by rw [hH, g1]; congr 2; funext j; rw [hI], g2⟩
  · obtain ⟨r, cA, g1, g2, g3⟩ := h3 u hu
    exact ⟨r, cA, g1, by rw [hH, g2]; congr 2; funext j; rw [hR], g3⟩
theorem rc_moved {D : va_G} {s U : State} {t n b : Nat} {I : HI} {R : HR} {H : Heap} (hvm : s.vm.Alike U.vm) (h : rc D s t n b I R H) : rc D U t n b I R H := by
  obtain ⟨h1, h2, h3⟩ := h
  refine ⟨h1, fun ht => ?_, fun u hu => ?_⟩
  · obtain ⟨cA, g1, g2, g3⟩ := h2 ht
    exact ⟨cA, g1, arrOfT_moved hvm g2, g3.moved hvm⟩
  · obtain ⟨r, cA, g1, g2, g3, g4⟩ := h3 u hu
    exact ⟨r, cA, g1, g2, arrOfT_moved hvm g3, g4.moved hvm⟩
theorem RP.moved {D : va_G} {s U : State} {A : Nat → Prop} {sh : HS} {I : HI} {R : HR} {H : Heap} (hvm : s.vm.Alike U.vm) (h : RP D s A sh I R H) : RP D U A sh I R H := fun a t n q => ⟨(h a t n q).1, (h a t n q).2.1, rc_moved hvm (h a t n q).2.2⟩
/-- one cell is written -/
theorem RP.put {D : va_G} {s : State} {A : Nat → Prop} {sh : HS} {I I' : HI} {R R' : HR} {H H' : Heap} {a t n : Nat} (h : RP D s A sh I R H) (ha : sh a = some (t, n)) (hz : H'.size = H.size) (oq : ∀ q : Nat, q ≠ a → H'[q]? = H[q]?) (hI : ∀ b j, b ≠ a → I' b j = I b j) (hR : ∀ b j, b ≠ a → R' b j = R b j) (hc : rc D s t n a I' R' H') : RP D s A sh I' R' H' := by
  intro b t' n' hb
  obtain ⟨h1, h2, h3⟩ := h b t' n' hb
  refine ⟨h1, by rw [hz]; exact h2, ?_⟩
  by_cases e : b = a
  · subst e
    cases ha.symm.trans hb
    exact hc
  · exact rc_off h3 (oq b e) (fun j => hI b j e) (fun j => hR b j e)
theorem fchk_at {c ix t k ty pos : Nat} (h : lk2 fL c ix = some (t, k, ty, pos)) : fchk (c * 10000 + ix, t, k, ty, pos) = true ∧ (c * 10000 + ix) / 10000 = c ∧ (c * 10000 + ix) % 10000 = ix := by
  obtain ⟨h1, h2, h3⟩ := lk2m h
  exact ⟨List.all_eq_true.mp fL_ok _ h1, h2, h3⟩
theorem fl_obj {c ix t k ty pos : Nat} (h : lk2 fL c ix = some (t, k, ty, pos)) (ht : t < 10) : ∃ r, vwCl[t]? = some r ∧ k < r.2.2 ∧ Cond.fieldLink (cN c) ix (r.2.1 k).1 (r.2.1 k).2.1 (r.2.1 k).2.2.1 ∈ wAll ∧ isD (r.2.1 k).2.2.1 ty = true ∧ ((r.2.1 k).2.2.2 = true → (r.2.1 k).1 = cN t) := by
  obtain ⟨h1, h2, h3⟩ := fchk_at h
  unfold fchk at h1
  rw [if_pos ht] at h1
  simp only [h2, h3] at h1
  cases hr : vwCl[t]? with
  | none => rw [hr] at h1; cases h1
  | some r =>
    rw [hr] at h1
    simp only [Bool.and_eq_true, decide_eq_true_eq] at h1
    refine ⟨r, rfl, h1.1, wAll_at h1.2.1 rfl, h1.2.2.1, fun z => ?_⟩
    have := h1.2.2.2
    simpa [z] using this
section SIM
variable {l : Launch} {K J : Nat → Nat} {mi pc n : Nat} {L : VL} {st : List Value} {sh : HS} {I : HI} {R : HR} {c : Nat × Nat} {F : VF} {ins : Instr}
theorem isD_fT {t k ty : Nat} {r : vw_C} (hr : vwCl[t]? = some r) (h : isD (r.2.1 k).2.2.1 ty = true) (a : Nat) (I : HI) (R : HR) : fv t k a I R = if 2 ≤ ty then va_rf (R a k) else .int (I a k) := by
  unfold fv fT
  rw [hr]
  simp only [Option.map_some, Option.getD_some]
  unfold isD at h
  split at h
  · have e : (r.2.1 k).2.2.1 = "I" := by simpa using h
    simp [e]
  · have e : (r.2.1 k).2.2.1 = "Z" := by simpa using h
    simp [e]
  · rename_i z0 z1
    simp only [Bool.and_eq_true] at h
    have h2 : 2 ≤ ty := by
      rcases Nat.lt_or_ge ty 2 with q | q
      · rcases (show ty = 0 ∨ ty = 1 by omega) with q | q
        · exact absurd q z0
        · exact absurd q z1
      · exact q
    rw [if_pos h.1, if_pos h2]
theorem sim_get {ix t k ty pos a : Nat} (hd : decode (mB mi) pc = .ok (.getfield ix, n)) (hn : n = iln (.getfield ix) n) (hf : lk2 fL (mC mi) ix = some (t, k, ty, pos)) (ho : ∃ m, sh a = some (t, m)) (ht : t < 10) (hty : ty < 3)
    (hk : MW l K J mi (pc + 3) L ((if ty = 2 then va_rf (R a k) else .int (I a k)) :: st) sh I R c F) : MW l K J mi pc L (.ref a :: st) sh I R c F := by
  intro D p e s m args below meth cd A H locs ls C hP hl hS
  have kk := hk D p e s m args below meth cd A H locs ls C hP hl hS
  obtain ⟨hx, hb, hml, hr, hown, hts, hlk, hin, hex, hK, hB, hA, htr, hmi⟩ := C
  simp only [iln] at hn
  subst hn
  obtain ⟨r, hr0, hk0, hlink, hD, hfin⟩ := fl_obj hf ht
  obtain ⟨m0, hm0⟩ := ho
  obtain ⟨r', hr', hO⟩ := (hP a t m0 hm0).2.2.1 ht
  cases hr0.symm.trans hr'
  have hP1 : va_P D vwCl [(a, .inr (t, (List.range r.2.2).map (fun j => fv t j a I R)))] H := by
    intro q x hx0
    rcases q with _ | q
    · cases hx0
      exact ⟨r, hr0, hO.to (fun j hj => by simp [vp_V, hj])⟩
    · cases hx0
  refine va_get (C := r.1) (T := r.2.1) (N := r.2.2) (ci := t) (ref := (r.2.1 k).1) (index := ix) hx hb hts (cls_inA hr0) hown hK hP1 0 rfl (by rw [hr0]) k hk0 (hts _ hlink) (fun _ z => z) (v := if ty = 2 then va_rf (R a k) else .int (I a k)) ?_ hd kk
  rw [List.getElem?_map, List.getElem?_range hk0]
  simp only [Option.map_some, isD_fT hr0 hD]
  rcases Nat.lt_or_ge ty 2 with q | q
  · rw [if_neg (by omega), if_neg (by omega)]
  · rw [if_pos q, if_pos (by omega)]
theorem sim_put {ix t k ty pos a : Nat} {v : Value} {I' : HI} {R' : HR} (hd : decode (mB mi) pc = .ok (.putfield ix, n)) (hn : n = iln (.putfield ix) n) (hf : lk2 fL (mC mi) ix = some (t, k, ty, pos)) (ho : ∃ m, sh a = some (t, m)) (hfi : fF t k = true → mK mi = 2 ∧ mC mi = t) (ht : t < 10)
    (hv : (∃ x, v = .int x ∧ ty < 2 ∧ (ty = 1 → x = 0 ∨ x = 1) ∧ I' = u2 I a k x ∧ R' = R) ∨ (∃ x, v = .ref x ∧ ty = 2 ∧ I' = I ∧ R' = u2 R a k (some x)))
    (hk : MW l K J mi (pc + 3) L st sh I' R' c F) : MW l K J mi pc L (v :: .ref a :: st) sh I R c F := by
  intro D p e s m args below meth cd A H locs ls C hP hl hS
  have kk := fun H1 locs1 => hk D p e s m args below meth cd A H1 locs1 ls C
  obtain ⟨hx, hb, hml, hr, hown, hts, hlk, hin, hex, hK, hB, hA, htr, hmi⟩ := C
  simp only [iln] at hn
  subst hn
  obtain ⟨r, hr0, hk0, hlink, hD, hfin⟩ := fl_obj hf ht
  obtain ⟨m0, hm0⟩ := ho
  obtain ⟨haA, hasz, hrc⟩ := hP a t m0 hm0
  obtain ⟨r', hr', cell, q1, q2, q3, q4⟩ := hrc.1 ht
  cases hr0.symm.trans hr'
  have hap := va_apart (own := cN (mC mi)) hts (cls_inA hr0) (tyc t) (tyc_ok hr0) (nmc_ok hr0) hK (by rw [hr0])
  obtain ⟨hSl, hfc, kC, hkC, hkind⟩ := hK.1 t r hr0
  obtain ⟨cf, kf, fi, f, hi, hsl⟩ := hSl k hk0
  have hpt := tyc_ok hr0 k hk0
  have hnf : narrow (tyc t k) v = v ∧ fits (tyc t k) v = true := by
    unfold isD at hD
    split at hD
    · have e : (r.2.1 k).2.2.1 = "I" := by simpa using hD
      rw [e, show parseFieldDescriptor "I" = some .int by decide +kernel] at hpt
      rw [← Option.some.inj hpt]
      rcases hv with ⟨x, rfl, -⟩ | ⟨x, rfl, h2, -⟩
      · exact ⟨rfl, rfl⟩
      · cases h2
    · have e : (r.2.1 k).2.2.1 = "Z" := by simpa using hD
      rw [e, show parseFieldDescriptor "Z" = some .boolean by decide +kernel] at hpt
      rw [← Option.some.inj hpt]
      rcases hv with ⟨x, rfl, -, h2, -⟩ | ⟨x, rfl, h2, -⟩
      · rcases h2 rfl with rfl | rfl <;> exact ⟨by decide +kernel, by decide +kernel⟩
      · cases h2
    · rename_i z0 z1
      simp only [Bool.and_eq_true, hpt] at hD
      rcases hv with ⟨x, rfl, h2, -⟩ | ⟨x, rfl, h2, -⟩
      · exfalso
        rcases (show ty = 0 ∨ ty = 1 by omega) with q | q
        · exact z0 q
        · exact z1 q
      · have h3 := hD.2
        revert h3
        generalize tyc t k = z
        intro h3
        cases z <;> first | exact ⟨rfl, rfl⟩ | cases h3
  have fin : ∀ H' : Heap, H'[a]? = some (cell.setSlot f.slot v) → H'.size = H.size → (∀ q, q ≠ a → H'[q]? = H[q]?) → W p l e (mRm mi) s m args below meth cd H' (locs ++ [⟨a, f.slot⟩]) c.1 c.2 (vx_MQ below (QF D A F) (XF D A F) args s (mCe mi) (mSl mi) A) (F0 m (pc + 3) ls st) := by
    intro H' e1 e2 e3
    rw [hsl] at e1
    refine kk H' _ (hP.put hm0 e2 e3 ?_ ?_ ⟨fun _ => ⟨r, hr0, t_OB.to (V := updV (fun j => fv t j a I R) k v) ⟨_, e1, q2, q3, t_set q4 hap hk0 v⟩ ?_⟩, fun z => by omega, fun u z => by omega⟩) hl (hS.put e2 e3 haA)
    · intro b j hb0
      rcases hv with ⟨x, -, -, -, rfl, -⟩ | ⟨x, -, -, rfl, -⟩
      · exact u2_off hb0 j
      · rfl
    · intro b j hb0
      rcases hv with ⟨x, -, -, -, -, rfl⟩ | ⟨x, -, -, -, rfl⟩
      · rfl
      · exact u2_off hb0 j
    · intro j hj
      unfold updV
      by_cases ej : j = k
      · subst ej
        rw [if_pos rfl, isD_fT hr0 hD]
        rcases hv with ⟨x, rfl, h2, -, rfl, -⟩ | ⟨x, rfl, h2, -, rfl⟩
        · rw [if_neg (by omega), u2_on, if_pos rfl]
        · rw [if_pos (by omega), u2_on, if_pos rfl]
          rfl
      · rw [if_neg ej]
        rcases hv with ⟨x, -, -, -, rfl, rfl⟩ | ⟨x, -, -, rfl, rfl⟩
        · simp only [fv, u2_on, if_neg ej]
        · simp only [fv, u2_on, if_neg ej]
  by_cases hfn : (r.2.1 k).2.2.2 = true
  · have hlay : (Cond.laysFinal r.1 (r.2.1 k).1 (r.2.1 k).2.1 (r.2.1 k).2.2.1).before args s = true := by
      have h := hts _ (cls_inA hr0 _ (u_in_lay hk0))
      unfold u_lay at h
      rwa [if_pos hfn] at h
    have hst := (u_facts hfc hkC (u_lays hts (cls_inA hr0) hk0) hi).1
    obtain ⟨hk2, hc2⟩ := hfi (by unfold fF; rw [hr0]; exact hfn)
    have hcf : m.cls = cf := by
      obtain ⟨_, _, c', _, _, _, -, -, hf', -, -, -, hown2, -⟩ := Cond.laysFinal_spec hlay
      have e1 : c' = cf := by have := hi.symm.trans hf'; simp at this; exact this.1.symm
      rw [hfin hfn, ← hc2] at hown2
      rw [← e1]; exact Option.some.inj (hown.symm.trans hown2)
    have h6 := u_fits hfc hkC hkind (Or.inr hlay) hi hpt hnf.1 hnf.2
    exact W.putFinK hx hb hown (hts _ hlink) hi hst hcf (hin hk2) (by rw [q2]; exact h6) q1 q3 (by rw [hsl]; exact k2_hasslot (q4 k hk0)) rfl rfl hd fin
  · have hlay : (Cond.lays r.1 (r.2.1 k).1 (r.2.1 k).2.1 (r.2.1 k).2.2.1).before args s = true := by
      have h := hts _ (cls_inA hr0 _ (u_in_lay hk0))
      unfold u_lay at h
      rwa [if_neg hfn] at h
    have hst := (u_facts hfc hkC (u_lays hts (cls_inA hr0) hk0) hi).1
    have h6 := u_store hfc hkC hkind hlay hi hpt hnf.1 hnf.2
    exact W.putK hx hb (f := f) ⟨hown, hts _ hlink, ⟨_, _, _, hi⟩, hst⟩ (by rw [q2]; exact h6) q1 q3 (by rw [hsl]; exact k2_hasslot (q4 k hk0)) rfl rfl hd fin
end SIM
