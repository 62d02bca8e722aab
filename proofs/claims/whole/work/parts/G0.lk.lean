/-! STAGE 4: a method of the tables called out of the law's own class -/
/-- what a call may change: what the small heap holds, and what is new -/
def NA (sh : HS) (H : Heap) : Nat → Prop := fun x => (∃ y, sh x = some y) ∨ H.size ≤ x
def wDc (cc : ByteArray) (pc : Nat) (P : Instr → Nat → Bool) : Bool := match decode cc pc with | .ok (i, n) => P i n | _ => false
def wLd (cc : ByteArray) (pc t i pc' : Nat) : Bool := wDc cc pc (fun x n => decide (ldI x = some (t, i)) && (decide (n = iln x n) && decide (pc + n = pc')))
def wSt (cc : ByteArray) (pc t i pc' : Nat) : Bool := wDc cc pc (fun x n => decide (stI x = some (t, i)) && (decide (n = iln x n) && decide (pc + n = pc')))
def wIn (cc : ByteArray) (pc : Nat) (ins : Instr) (n0 : Nat) : Bool := wDc cc pc (fun x n => decide (x = ins) && decide (n = n0))
theorem wDc_of {cc : ByteArray} {pc : Nat} {P : Instr → Nat → Bool} (h : wDc cc pc P = true) : ∃ i n, decode cc pc = .ok (i, n) ∧ P i n = true := by
  unfold wDc at h
  split at h
  · rename_i i n e
    exact ⟨i, n, e, h⟩
  · cases h
theorem wIn_of {cc : ByteArray} {pc n0 : Nat} {ins : Instr} (h : wIn cc pc ins n0 = true) : decode cc pc = .ok (ins, n0) := by
  obtain ⟨i, n, e, g⟩ := wDc_of h
  simp only [Bool.and_eq_true, decide_eq_true_eq] at g
  rw [e, g.1, g.2]
section LAW
variable {l : Launch} {K J : Nat → Nat} {p : Program} {e : Env} {Rm : Room} {s : State} {m : MethodId} {args : Array Value} {below : List Frame} {meth : Method} {cd : Code} {A : Nat → Prop} {H : Heap} {locs : List Loc} {ls : Array Slot} {D : va_G} {sh : HS} {I : HI} {R : HR} {cells slots pc pc' q : Nat} {Q : State → Prop} {G : VF} {st rest : List Value} {cc : ByteArray}
theorem wl_ld {t i : Nat} {v : Value} (hx : p.tables.exec = Jvm.exec) (hb : cd.code = cc) (h : wLd cc pc t i pc' = true) (hv : ls[i]? = some (.val v)) (ht : isTy t v = true) (k : W p l e Rm s m args below meth cd H locs cells slots Q (F0 m pc' ls (v :: st))) : W p l e Rm s m args below meth cd H locs cells slots Q (F0 m pc ls st) := by
  obtain ⟨ins, n, hd, g⟩ := wDc_of h
  simp only [Bool.and_eq_true, decide_eq_true_eq] at g
  obtain ⟨hi, hn, he⟩ := g
  subst he
  cases ins <;> simp only [ldI, Option.some.injEq, Prod.mk.injEq, reduceCtorEq] at hi <;> obtain ⟨rfl, rfl⟩ := hi <;> simp only [iln] at hn <;> subst hn <;> cases v <;> simp [isTy] at ht
  all_goals first | exact lv_iload_n hx hb hd rfl hv k | exact lv_iload hx hb hd hv k | exact lv_aload_n hx hb hd rfl hv k | exact lv_aload hx hb hd hv k | exact lv_aload_nN hx hb hd rfl hv k | exact lv_aloadN hx hb hd hv k | exact lv_lload_n hx hb hd rfl hv k | exact lv_lload hx hb hd hv k
theorem wl_st {t i nL : Nat} {v : Value} {lv lv' : List (Nat × Value)} (hx : p.tables.exec = Jvm.exec) (hb : cd.code = cc) (h : wSt cc pc t i pc' = true) (ht : isTy t v = true) (ht2 : t < 2) (hl : lv_has ls nL lv) (hlt : i < nL) (hlv : (i, v) :: lv.filter (fun q => !(q.1 == i) && !(q.1 + 1 == i && q.2.category == 2)) = lv') (k : ∀ ls', lv_has ls' nL lv' → W p l e Rm s m args below meth cd H locs cells slots Q (F0 m pc' ls' st)) : W p l e Rm s m args below meth cd H locs cells slots Q (F0 m pc ls (v :: st)) := by
  obtain ⟨ins, n, hd, g⟩ := wDc_of h
  simp only [Bool.and_eq_true, decide_eq_true_eq] at g
  obtain ⟨hi, hn, he⟩ := g
  subst he
  subst hlv
  cases ins <;> simp only [stI, Option.some.injEq, Prod.mk.injEq, reduceCtorEq] at hi <;> obtain ⟨rfl, rfl⟩ := hi <;> simp only [iln] at hn <;> subst hn <;> cases v <;> simp [isTy] at ht
  all_goals first | exact lv_istore_n hx hb hd rfl hl hlt rfl k | exact lv_istore hx hb hd hl hlt rfl k | exact lv_astore_n hx hb hd rfl hl hlt rfl k | exact lv_astore hx hb hd hl hlt rfl k | exact lv_astore_nN hx hb hd rfl hl hlt rfl k | exact lv_astoreN hx hb hd hl hlt rfl k
theorem lk_go {a : Array Value} {A' : Nat → Prop} (hS : va_S A s.heap H locs) (hA' : ∀ x, A' x → A x)
    (hr : vx_Run p l e Rm s m args below meth cd H locs cells slots (mCe q) (mSl q) (F0 m pc ls st) rest (QF D A' G a) (XF D A' G) A')
    (k1 : ∀ v sh' I' R' H1 locs1, G (.inl v) sh' I' R' → RP D s A' sh' I' R' H1 → va_S A s.heap H1 locs1 → H.size ≤ H1.size → (∀ z : Nat, z < H.size → ¬ A' z → H1[z]? = H[z]?) → W p l e Rm s m args below meth cd H1 locs1 (cells + mCe q) (slots + mSl q) Q (F0 m (pc + 3) ls (v.toList ++ rest)))
    (kx : ∀ E ce x sh' I' R' H1 locs1, G (.inr E) sh' I' R' → RP D s A' sh' I' R' H1 → va_S A s.heap H1 locs1 → H.size ≤ H1.size → (∀ z : Nat, z < H.size → ¬ A' z → H1[z]? = H[z]?) → H1[x]? = some ce → ce.vm = .none → s.vm.findClass E = some ce.cls → vx_W p l e Rm s m args below meth cd H1 locs1 (cells + mCe q) (slots + mSl q) Q (F0 m pc ls rest) x) :
    W p l e Rm s m args below meth cd H locs cells slots Q (F0 m pc ls st) := by
  intro T hT X
  have RPn : ∀ {t T' : State} {sh' : HS} {I' : HI} {R' : HR}, T'.heap = t.heap → T'.vm = t.vm → s.WarmedH T'.vm → RP D t A' sh' I' R' t.heap → RP D s A' sh' I' R' T'.heap := by
    intro t T' sh' I' R' e1 e2 hw h
    have hv : t.vm.Alike s.vm := by rw [← e2]; exact hw.alike.symm
    rw [e1]
    intro b t' n' hb
    obtain ⟨r1, r2, r3⟩ := h b t' n' hb
    exact ⟨r1, r2, rc_moved hv r3⟩
  rcases hr T hT X with ⟨v, st₀, t, T', L', h0, X', hL, e1, e2, ⟨v', sh', I', R', hv, hG, hRP, hF⟩, go⟩ | ⟨x, st₀, t, T', L', E, ce, h0, X', hL, e1, e2, ⟨sh', I', R', hG, hRP, hF⟩, hce, hcv, hcl, go⟩
  · cases hv
    obtain ⟨g1, g2, g3⟩ := vx_keep h0 e1 hS (fun z _ => hA' z) hA' hL hF
    obtain ⟨t2, a1, b1⟩ := k1 v sh' I' R' T'.heap (locs ++ L') hG (RPn e1 e2 X'.warmed hRP) g3 g1 g2 T' rfl X'
    exact ⟨t2, go t2 a1, b1⟩
  · obtain ⟨g1, g2, g3⟩ := vx_keep h0 e1 hS (fun z _ => hA' z) hA' hL hF
    obtain ⟨t2, a1, b1⟩ := kx E ce x sh' I' R' T'.heap (locs ++ L') hG (RPn e1 e2 X'.warmed hRP) g3 g1 g2 (by rw [e1]; exact hce) hcv hcl T' rfl X'
    exact ⟨t2, go.trans a1, b1⟩
theorem lk_V {br n' ix nL : Nat} {as : List Value} {Ts : List Cond} {own : String} (S : CallFix p m cd cc nL s args Ts own) (hTs : ∀ w ∈ wAll, w ∈ Ts) (htr : l.stackTraces = false) (hq : q < mT.length) (hk : mK q = 1) (hC : mC q < 10) (hK : va_K D vwCl [] s) (hB : WB K J A s s.heap) (hA : ∀ x, s.heap.size ≤ x → A x) (hP : RP D s A sh I R H) (hS : va_S A s.heap H locs) (hsh : sh br = some (mC q, n')) (hlink : Cond.methodLink own ix (mY q) ∈ wAll) (hd : decode cc pc = .ok (.invokevirtual ix, 3)) (hsz : ls.size = nL) (hn : as.length + 1 = mN q) (he : (entA (.ref br :: as)).length ≤ mL q) (hc : (Value.ref br :: as).all (fun v => v.category == 1) = true) (hroom : mFr q + 1 ≤ Rm.frames ∧ 8 + (mL q + 11) + mLo q ≤ Rm.locals) (hfit : cells + mCe q ≤ Rm.cells ∧ slots + mSl q ≤ Rm.slots) (hcat : catS rest ≤ 8) (hst : st = as.reverse ++ .ref br :: rest)
    (hv : V K J q 0 (ent (mL q) (.ref br :: as)) [] sh I R (0, 0) G)
    (k1 : ∀ v sh' I' R' H1 locs1, G (.inl v) sh' I' R' → RP D s (NA sh H) sh' I' R' H1 → va_S A s.heap H1 locs1 → H.size ≤ H1.size → (∀ z : Nat, z < H.size → ¬ NA sh H z → H1[z]? = H[z]?) → W p l e Rm s m args below meth cd H1 locs1 (cells + mCe q) (slots + mSl q) Q (F0 m (pc + 3) ls (v.toList ++ rest)))
    (kx : ∀ E ce x sh' I' R' H1 locs1, G (.inr E) sh' I' R' → RP D s (NA sh H) sh' I' R' H1 → va_S A s.heap H1 locs1 → H.size ≤ H1.size → (∀ z : Nat, z < H.size → ¬ NA sh H z → H1[z]? = H[z]?) → H1[x]? = some ce → ce.vm = .none → s.vm.findClass E = some ce.cls → vx_W p l e Rm s m args below meth cd H1 locs1 (cells + mCe q) (slots + mSl q) Q (F0 m pc ls rest) x) :
    W p l e Rm s m args below meth cd H locs cells slots Q (F0 m pc ls st) := by
  obtain ⟨f1, f2, f3, f4, f5, f6, f7, f8, f9, f10, f11, f12, f13⟩ := mt_f hq
  have hts : ∀ w ∈ wAll, w.before args s = true := fun w hw => S.2.2.2.2 w (hTs w hw)
  have h0 : ¬ mK q = 0 := by omega
  have hsub : ∀ x, NA sh H x → A x := by
    intro x hx0
    rcases hx0 with ⟨y, hy⟩ | h
    · exact (hP x y.1 y.2 hy).1
    · exact hA x (Nat.le_trans hS.1 h)
  have hM : vx_Met l (mY q) (wsM q) (mRm q) (va_Pc (.ref br :: as) (PcM K J D (NA sh H) H.size sh I R)) (QF D (NA sh H) G) (XF D (NA sh H) G) (mCe q) (mSl q) (NA sh H) :=
    met_of hq htr he (Or.inl hc) (fun x hx0 => Or.inr hx0) (V_MW hv)
  have hPc : ∀ U : State, U.heap = H → s.WarmedH U.vm → va_Pc (.ref br :: as) (PcM K J D (NA sh H) H.size sh I R) (Value.ref br :: as).toArray U := by
    intro U hU hW
    refine ⟨rfl, by rw [hU], va_K.moved hW.alike hK, ?_, ?_⟩
    · rw [hU]; exact WB.warm hW (WB.at hB hS.2.1 hsub)
    · rw [hU]
      refine RP.moved hW.alike (fun x t n' hx0 => ?_)
      obtain ⟨r1, r2, r3⟩ := hP x t n' hx0
      exact ⟨Or.inl ⟨_, hx0⟩, r2, r3⟩
  have hgood : ∀ w ∈ wsM q, ∀ (a' : Array Value) (U : State), s.WarmedH U.vm → w.before a' U = true := by
    refine pay_in hts (fun w hw => ?_)
    rcases List.mem_cons.mp hw with rfl | hw
    · exact wAll_self _ f1
    · exact wAll_self w hw
  have hpar : ∀ sig, parseMethodDescriptor (mY q).desc = some sig → as.length = sig.parameters.length := by
    intro sig hsig
    rw [hsig] at f9
    have f9' := Option.some.inj f9
    rw [if_neg h0] at f9'
    have : sig.parameters.length = mN q - 1 := f9'
    omega
  have hcell : ∃ cellB : Cell, H[br]? = some cellB ∧ cellB.vm.isStatics = false ∧ s.vm.findClass (cN (mC q)) = some cellB.cls := by
    obtain ⟨r, hr0, cell, g1, g2, g3, -⟩ := (hP br (mC q) n' hsh).2.2.1 hC
    refine ⟨cell, g1, by rw [g3]; rfl, ?_⟩
    have f12' := f12 hC
    rw [hr0] at f12'
    rw [g2, ← Option.some.inj f12']
    exact (hK.1 _ r hr0).2.1
  refine lk_go (a := (Value.ref br :: as).toArray) hS hsub ?_ k1 kx
  exact vx_runV (C := cN (mC q)) (bytes := mB q) (maxL := mL q) (ret := mRt q) (ws := wsM q) (n := as.length) S hM ⟨⟨rfl, rfl, hroom.1, hroom.2, hgood, List.mem_cons_self, hts _ f1, hts _ f5, f8, hpar, hts _ hlink⟩, hts _ (f3 h0), hts _ (f4 hk)⟩ ⟨PcM_blind, hcell, hPc⟩ rfl rfl hsz hst (lv_room hcat) hd hfit
end LAW
