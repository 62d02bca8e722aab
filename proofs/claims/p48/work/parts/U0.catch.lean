/-! methods of the law that catch: hasNone, hasNoFault -/
/-- what a call may change -/
def NA2 (sh : HS) (H : Heap) : Nat → Prop := fun x => (∃ y, sh x = some y ∧ (y.1 < 22 ∨ 30 ≤ y.1)) ∨ H.size ≤ x
section LAW
variable {l : Launch} {K J : Nat → Nat} {p : Program} {e : Env} {Rm : Room} {s : State} {m : MethodId} {args : Array Value} {below : List Frame} {meth : Method} {cd : Code} {A : Nat → Prop} {H : Heap} {locs : List Loc} {ls : Array Slot} {D : va_G} {sh : HS} {I : HI} {R : HR} {cells slots pc pc' q : Nat} {Q : State → Prop} {G : VF} {st rest : List Value} {cc : ByteArray}
theorem lk_go {a : Array Value} {A' : Nat → Prop} (hS : va_S A s.heap H locs) (hA' : ∀ x, A' x → A x)
    (hr : vx_Run p l e Rm s m args below meth cd H locs cells slots (mCe q) (mSl q) (F0 m pc ls st) rest (QF D A' G a) (XF D A' G) A')
    (k1 : ∀ v sh' I' R' H1 locs1, G (.inl v) sh' I' R' → RP D s A' sh' I' R' H1 → va_S A s.heap H1 locs1 → H.size ≤ H1.size → (∀ z : Nat, z < H.size → ¬ A' z → H1[z]? = H[z]?) → W p l e Rm s m args below meth cd H1 locs1 (cells + mCe q) (slots + mSl q) Q (F0 m (pc + 3) ls (v.toList ++ rest)))
    (kx : ∀ E ce x sh' I' R' H1 locs1, G (.inr E) sh' I' R' → RP D s A' sh' I' R' H1 → va_S A s.heap H1 locs1 → H.size ≤ H1.size → (∀ z : Nat, z < H.size → ¬ A' z → H1[z]? = H[z]?) → H1[x]? = some ce → ce.vm = .none → s.vm.findClass E = some ce.cls → vx_W p l e Rm s m args below meth cd H1 locs1 (cells + mCe q) (slots + mSl q) Q (F0 m pc ls rest) x) :
    W p l e Rm s m args below meth cd H locs cells slots Q (F0 m pc ls st) := by
  intro T hT X
  have RPn : ∀ {t T' : State} {sh' : HS} {I' : HI} {R' : HR}, T'.heap = t.heap → T'.vm = t.vm → s.WarmedH T'.vm → RP D t A' sh' I' R' t.heap → RP D s A' sh' I' R' T'.heap := by
    intro t T' sh' I' R' e1 e2 hw h
    have hv : t.vm.Alike s.vm := by rw [← e2]; exact hw.alike.symm
    rw [e1]
    intro b t' n' hb
    obtain ⟨r1, r2, r3⟩ := h b t' n' hb
    exact ⟨fun z => r1 z, r2, rc_moved hv r3⟩
  rcases hr T hT X with ⟨v, st₀, t, T', L', h0, X', hL, e1, e2, ⟨v', sh', I', R', hv, hG, hRP, hF⟩, go⟩ | ⟨x, st₀, t, T', L', E, ce, h0, X', hL, e1, e2, ⟨sh', I', R', hG, hRP, hF⟩, hce, hcv, hcl, go⟩
  · cases hv
    obtain ⟨g1, g2, g3⟩ := vx_keep h0 e1 hS (fun z _ => hA' z) hA' hL hF
    obtain ⟨t2, a1, b1⟩ := k1 v sh' I' R' T'.heap (locs ++ L') hG (RPn e1 e2 X'.warmed hRP) g3 g1 g2 T' rfl X'
    exact ⟨t2, go t2 a1, b1⟩
  · obtain ⟨g1, g2, g3⟩ := vx_keep h0 e1 hS (fun z _ => hA' z) hA' hL hF
    obtain ⟨t2, a1, b1⟩ := kx E ce x sh' I' R' T'.heap (locs ++ L') hG (RPn e1 e2 X'.warmed hRP) g3 g1 g2 (by rw [e1]; exact hce) hcv hcl T' rfl X'
    exact ⟨t2, go.trans a1, b1⟩
theorem lk_V {br n' ix nL : Nat} {as : List Value} {Ts : List Cond} {own : String} (S : CallFix p m cd cc nL s args Ts own) (hTs : ∀ w ∈ wAll, w ∈ Ts) (htr : l.stackTraces = false) (hq : q < mT.length) (hk : mK q = 1) (hC : rcN (mC q) < 15) (hK : va_K D vwCl [] s) (hB : WB K J A s s.heap) (hA : ∀ x, s.heap.size ≤ x → A x) (hP : RP D s A sh I R H) (hS : va_S A s.heap H locs) (hsh : sh br = some (rcN (mC q), n')) (hlink : Cond.methodLink own ix (mY q) ∈ wAll) (hd : decode cc pc = .ok (.invokevirtual ix, 3)) (hsz : ls.size = nL) (hn : as.length + 1 = mN q) (he : (entA (.ref br :: as)).length ≤ mL q) (hc : (Value.ref br :: as).all (fun v => v.category == 1) = true) (hroom : mFr q + 1 ≤ Rm.frames ∧ 8 + (mL q + 11) + mLo q ≤ Rm.locals) (hfit : cells + mCe q ≤ Rm.cells ∧ slots + mSl q ≤ Rm.slots) (hcat : catS rest ≤ 8) (hst : st = as.reverse ++ .ref br :: rest)
    (hv : MW l K J q 0 (ent (mL q) (.ref br :: as)) [] sh I R (0, 0) G)
    (k1 : ∀ v sh' I' R' H1 locs1, G (.inl v) sh' I' R' → RP D s (NA2 sh H) sh' I' R' H1 → va_S A s.heap H1 locs1 → H.size ≤ H1.size → (∀ z : Nat, z < H.size → ¬ NA2 sh H z → H1[z]? = H[z]?) → W p l e Rm s m args below meth cd H1 locs1 (cells + mCe q) (slots + mSl q) Q (F0 m (pc + 3) ls (v.toList ++ rest)))
    (kx : ∀ E ce x sh' I' R' H1 locs1, G (.inr E) sh' I' R' → RP D s (NA2 sh H) sh' I' R' H1 → va_S A s.heap H1 locs1 → H.size ≤ H1.size → (∀ z : Nat, z < H.size → ¬ NA2 sh H z → H1[z]? = H[z]?) → H1[x]? = some ce → ce.vm = .none → s.vm.findClass E = some ce.cls → vx_W p l e Rm s m args below meth cd H1 locs1 (cells + mCe q) (slots + mSl q) Q (F0 m pc ls rest) x) :
    W p l e Rm s m args below meth cd H locs cells slots Q (F0 m pc ls st) := by
  obtain ⟨f1, f2, f3, f4, f5, f6, f7, f8, f9, f10, f11, f12, f13⟩ := mt_f hq
  have hts : ∀ w ∈ wAll, w.before args s = true := fun w hw => S.2.2.2.2 w (hTs w hw)
  have h0 : ¬ mK q = 0 := by omega
  have hsub : ∀ x, NA2 sh H x → A x := by
    intro x hx0
    rcases hx0 with ⟨y, hy⟩ | h
    · exact (hP x y.1 y.2 hy.1).1 hy.2
    · exact hA x (Nat.le_trans hS.1 h)
  have hM : vx_Met l (mY q) (wsM q) (mRm q) (va_Pc (.ref br :: as) (PcM K J D (NA2 sh H) H.size sh I R)) (QF D (NA2 sh H) G) (XF D (NA2 sh H) G) (mCe q) (mSl q) (NA2 sh H) :=
    met_of hq htr he (Or.inl hc) (fun x hx0 => Or.inr hx0) hv
  have hPc : ∀ U : State, U.heap = H → s.WarmedH U.vm → va_Pc (.ref br :: as) (PcM K J D (NA2 sh H) H.size sh I R) (Value.ref br :: as).toArray U := by
    intro U hU hW
    refine ⟨rfl, by rw [hU], va_K.moved hW.alike hK, ?_, ?_⟩
    · rw [hU]; exact WB.warm hW (WB.at hB hS.2.1 hsub)
    · rw [hU]
      refine RP.moved hW.alike (fun x t n' hx0 => ?_)
      obtain ⟨r1, r2, r3⟩ := hP x t n' hx0
      exact ⟨fun z => Or.inl ⟨_, hx0, z⟩, r2, r3⟩
  have hgood : ∀ w ∈ wsM q, ∀ (a' : Array Value) (U : State), s.WarmedH U.vm → w.before a' U = true := by
    refine pay_in hts (fun w hw => ?_)
    rcases List.mem_cons.mp hw with rfl | hw
    · exact wAll_self _ f1
    · exact wAll_self w hw
  have hpar : ∀ sig, parseMethodDescriptor (mY q).desc = some sig → as.length = sig.parameters.length := by
    intro sig hsig
    rw [hsig] at f9
    have f9' := Option.some.inj f9
    rw [if_neg h0] at f9'
    have : sig.parameters.length = mN q - 1 := f9'
    omega
  have hcell : ∃ cellB : Cell, H[br]? = some cellB ∧ cellB.vm.isStatics = false ∧ s.vm.findClass (cN (rcN (mC q))) = some cellB.cls := by
    obtain ⟨r, hr0, cell, g1, g2, g3, -⟩ := (hP br (rcN (mC q)) n' hsh).2.2.1 hC
    refine ⟨cell, g1, by rw [g3]; rfl, ?_⟩
    have f12' := f12 hC
    rw [hr0] at f12'
    rw [g2, ← Option.some.inj f12']
    exact (hK.1 _ r hr0).2.1
  refine lk_go (a := (Value.ref br :: as).toArray) hS hsub ?_ k1 kx
  exact vx_runV (C := cN (rcN (mC q))) (bytes := mB q) (maxL := mL q) (ret := mRt q) (ws := wsM q) (n := as.length) S hM ⟨⟨rfl, rfl, hroom.1, hroom.2, hgood, List.mem_cons_self, hts _ f1, hts _ f5, f8, hpar, hts _ hlink⟩, hts _ (f3 h0), hts _ (f4 hk)⟩ ⟨PcM_blind, hcell, hPc⟩ rfl rfl hsz hst (lv_room hcat) hd hfit
def hasV (v : Int32 ⊕ String) : Int32 := match v with | .inl _ => 0 | .inr _ => 1
def hasW (E : String) (v : Int32 ⊕ String) : Prop := match v with | .inl _ => True | .inr E' => E' = E
theorem hasV_bool (v : Int32 ⊕ String) : hasV v = 0 ∨ hasV v = 1 := by
  cases v
  · exact Or.inl rfl
  · exact Or.inr rfl
def hnO (v : Int32 ⊕ String) (sh : HS) (I : HI) (R : HR) : VF := fun o' sh' I' R' => o' = .inl (some (.int (hasV v))) ∧ sh' = sh ∧ I' = I ∧ R' = R
def rmC (q : Nat) : Room := { frames := mFr q + 1, cells := mCe q, slots := mSl q, locals := 8 + (mL q + 11) + mLo q }
def cwN : Cond := Cond.codeWith yL_hasNone cL_hasNone 2 (some .boolean) [(0, 5, 8, 177)]
theorem hn_metN {hz br n' : Nat} {v : Int32 ⊕ String} (htr : l.stackTraces = false) (hA : ∀ x, hz ≤ x → A x) (hsh : sh br = some (8, n')) (hE : hasW "java/lang/IllegalStateException" v)
    (hv : MW l K J 86 0 (ent (mL 86) [.ref br]) [] sh I R (0, 0) (fun o' sh' I' R' => o' = voI v ∧ sh' = sh ∧ I' = I ∧ R' = R)) :
    vx_Met l yL_hasNone (cwN :: wAll) (rmC 86) (va_Pc [Value.ref br] (PcM K J D A hz sh I R)) (QF D A (hnO v sh I R)) (XF D A (hnO v sh I R)) (mCe 86) (mSl 86) A := by
  refine vx_ofWH (cc := cL_hasNone) (maxL := 2) (ret := some .boolean) (hh := [(0, 5, 8, 177)]) (by decide) rfl ?_
  intro p e s m args below meth cd s₁ B hml hv'
  obtain ⟨rfl, hsz, hK, hB, hP⟩ := hv'
  have hts0 := atoms_spec (ws := cwN :: wAll) B.pre
  have htab := vx_table (x := yL_hasNone) B (hts0 _ List.mem_cons_self)
  have hown : s.vm.findClass (cN 17) = some m.cls := findClass_of_methodNamed B.named
  have hts : ∀ w ∈ wAll, w.before ([Value.ref br] : List Value).toArray s = true := fun w hw => hts0 w (List.mem_cons_of_mem _ hw)
  have S : CallFix p m cd cL_hasNone 2 s ([Value.ref br] : List Value).toArray wAll (cN 17) := ⟨B.exec, B.bytes, hml, hown, hts⟩
  have hl := lv_entry [Value.ref br] (n := 2) (by rw [lg_len]; exact (by decide : 1 ≤ 2))
  rw [lg_entry_eq]
  generalize (lg_sl [Value.ref br] ++ List.replicate (2 - (lg_sl [Value.ref br]).length) Slot.unset).toArray = ls at hl ⊢
  have hml2 : mL 86 = 1 := by decide +kernel
  refine lv_aload_n (k := 0) (i := 0) (x := br) B.exec B.bytes (by decide +kernel) rfl (hl.2.2 (0, .ref br) List.mem_cons_self) ?_
  refine lk_V (ix := 147) (q := 86) (K := K) (J := J) (D := D) (A := A) (sh := sh) (I := I) (R := R) (br := br) (as := []) (rest := []) S (fun w hw => hw) htr (by decide +kernel) (by decide +kernel) (by decide +kernel) hK hB (fun x hx => hA x (by omega)) hP va_S.rf (by rw [hsh, show rcN (mC 86) = 8 from by decide +kernel]) (mem_of_contains (by decide +kernel) rfl) (by decide +kernel) hl.1 (by show 1 = mN 86; decide +kernel) (by rw [hml2]; exact (by decide : 1 ≤ 1)) rfl ⟨Nat.le_refl _, Nat.le_refl _⟩ ⟨Nat.le_of_eq (Nat.zero_add _), Nat.le_of_eq (Nat.zero_add _)⟩ (by decide) rfl hv ?_ ?_
  · rintro v1 sh' I' R' H1 locs1 ⟨g1, rfl, rfl, rfl⟩ hRP hS1 hz1 hk1
    cases v with
    | inr E => cases g1
    | inl r =>
      cases g1
      refine lv_istore_n (k := 1) (i := 1) (nL := 2) B.exec B.bytes (by decide +kernel) rfl hl (by decide) rfl (fun ls' hl' => ?_)
      refine lv_goto (off := 6) (tgt := 11) B.exec B.bytes (by decide +kernel) (by decide) ?_
      refine lv_iconst (n := 0) (v := 0) B.exec B.bytes (by decide +kernel) rfl ?_
      refine W.widen (k := mCe 86) (n := mSl 86) (by omega) (by omega) (vx_ret (W.zret (ty := .boolean) B.exec B.bytes B.returns (show narrow .boolean (.int 0) = .int 0 from by decide) (fun t ht hW => qf_of (F := hnO (.inl r) sh' I' R') (fun a t n h => ⟨fun z => (hP a t n h).1 z, (hRP a t n h).2⟩) hS1 ⟨rfl, rfl, rfl, rfl⟩ ht hW.alike) hS1.2.2 (by decide +kernel) B.notSynchronized))
  · rintro E ce x9 sh' I' R' H1 locs1 ⟨g1, rfl, rfl, rfl⟩ hRP hS1 hz1 hk1 hce hcv hcl
    cases v with
    | inl r => cases g1
    | inr E' =>
      cases g1
      have hE : E = "java/lang/IllegalStateException" := hE
      subst hE
      refine vx_widen (k := mCe 86) (n := mSl 86) (by omega) (by omega) ?_
      refine vx_catch (own := cN 17) (name := "java/lang/IllegalStateException") (E := "java/lang/IllegalStateException") hown [] ⟨0, 5, 8, 177⟩ [] (by rw [htab]; rfl) (fun z hz => by cases hz) (by decide +kernel) (by decide) (hts _ (mem_of_contains (by decide +kernel) rfl)) (va_Nw.use rfl (hB.2.2.1 _ (by decide +kernel))) hce hcv hcl ?_
      refine lv_astore_n (k := 1) (i := 1) (nL := 2) B.exec B.bytes (by decide +kernel) rfl hl (by decide) rfl (fun ls' hl' => ?_)
      refine lv_iconst (n := 1) (v := 1) B.exec B.bytes (by decide +kernel) rfl ?_
      exact vx_ret (W.zret (ty := .boolean) B.exec B.bytes B.returns (show narrow .boolean (.int 1) = .int 1 from by decide) (fun t ht hW => qf_of (F := hnO (.inr "java/lang/IllegalStateException") sh' I' R') (fun a t n h => ⟨fun z => (hP a t n h).1 z, (hRP a t n h).2⟩) hS1 ⟨rfl, rfl, rfl, rfl⟩ ht hW.alike) hS1.2.2 (by decide +kernel) B.notSynchronized)
def cwF : Cond := Cond.codeWith yL_hasNoFault cL_hasNoFault 3 (some .boolean) [(0, 7, 10, 182)]
theorem hn_metF {hz br n' : Nat} {v : Int32 ⊕ String} {i : Int32} (htr : l.stackTraces = false) (hA : ∀ x, hz ≤ x → A x) (hsh : sh br = some (8, n')) (hE : hasW "java/util/NoSuchElementException" v)
    (hv : MW l K J 87 0 (ent (mL 87) [.ref br, .int i, .int 0]) [] sh I R (0, 0) (fun o' sh' I' R' => o' = voI v ∧ sh' = sh ∧ I' = I ∧ R' = R)) :
    vx_Met l yL_hasNoFault (cwF :: wAll) (rmC 87) (va_Pc [Value.ref br, Value.int i] (PcM K J D A hz sh I R)) (QF D A (hnO v sh I R)) (XF D A (hnO v sh I R)) (mCe 87) (mSl 87) A := by
  refine vx_ofWH (cc := cL_hasNoFault) (maxL := 3) (ret := some .boolean) (hh := [(0, 7, 10, 182)]) (by decide) rfl ?_
  intro p e s m args below meth cd s₁ B hml hv'
  obtain ⟨rfl, hsz, hK, hB, hP⟩ := hv'
  have hts0 := atoms_spec (ws := cwF :: wAll) B.pre
  have htab := vx_table (x := yL_hasNoFault) B (hts0 _ List.mem_cons_self)
  have hown : s.vm.findClass (cN 17) = some m.cls := findClass_of_methodNamed B.named
  have hts : ∀ w ∈ wAll, w.before ([Value.ref br, Value.int i] : List Value).toArray s = true := fun w hw => hts0 w (List.mem_cons_of_mem _ hw)
  have S : CallFix p m cd cL_hasNoFault 3 s ([Value.ref br, Value.int i] : List Value).toArray wAll (cN 17) := ⟨B.exec, B.bytes, hml, hown, hts⟩
  have hl := lv_entry [Value.ref br, Value.int i] (n := 3) (by rw [lg_len]; exact (by decide : 2 ≤ 3))
  rw [lg_entry_eq]
  generalize (lg_sl [Value.ref br, Value.int i] ++ List.replicate (3 - (lg_sl [Value.ref br, Value.int i]).length) Slot.unset).toArray = ls at hl ⊢
  have hml2 : mL 87 = 7 := by decide +kernel
  refine lv_aload_n (k := 0) (i := 0) (x := br) B.exec B.bytes (by decide +kernel) rfl (hl.2.2 (0, .ref br) List.mem_cons_self) ?_
  refine lv_iload_n (k := 1) (i := 1) (x := i) B.exec B.bytes (by decide +kernel) rfl (hl.2.2 (1, .int i) (List.mem_cons_of_mem _ List.mem_cons_self)) ?_
  refine lv_iconst (n := 0) (v := 0) B.exec B.bytes (by decide +kernel) rfl ?_
  refine lk_V (ix := 179) (q := 87) (K := K) (J := J) (D := D) (A := A) (sh := sh) (I := I) (R := R) (br := br) (as := [.int i, .int 0]) (rest := []) S (fun w hw => hw) htr (by decide +kernel) (by decide +kernel) (by decide +kernel) hK hB (fun x hx => hA x (by omega)) hP va_S.rf (by rw [hsh, show rcN (mC 87) = 8 from by decide +kernel]) (mem_of_contains (by decide +kernel) rfl) (by decide +kernel) hl.1 (by show 3 = mN 87; decide +kernel) (by rw [hml2]; exact (by decide : 3 ≤ 7)) rfl ⟨Nat.le_refl _, Nat.le_refl _⟩ ⟨Nat.le_of_eq (Nat.zero_add _), Nat.le_of_eq (Nat.zero_add _)⟩ (by decide) rfl hv ?_ ?_
  · rintro v1 sh' I' R' H1 locs1 ⟨g1, rfl, rfl, rfl⟩ hRP hS1 hz1 hk1
    cases v with
    | inr E => cases g1
    | inl r =>
      cases g1
      refine lv_istore_n (k := 2) (i := 2) (nL := 3) B.exec B.bytes (by decide +kernel) rfl hl (by decide) rfl (fun ls' hl' => ?_)
      refine lv_goto (off := 6) (tgt := 13) B.exec B.bytes (by decide +kernel) (by decide) ?_
      refine lv_iconst (n := 0) (v := 0) B.exec B.bytes (by decide +kernel) rfl ?_
      refine W.widen (k := mCe 87) (n := mSl 87) (by omega) (by omega) (vx_ret (W.zret (ty := .boolean) B.exec B.bytes B.returns (show narrow .boolean (.int 0) = .int 0 from by decide) (fun t ht hW => qf_of (F := hnO (.inl r) sh' I' R') (fun a t n h => ⟨fun z => (hP a t n h).1 z, (hRP a t n h).2⟩) hS1 ⟨rfl, rfl, rfl, rfl⟩ ht hW.alike) hS1.2.2 (by decide +kernel) B.notSynchronized))
  · rintro E ce x9 sh' I' R' H1 locs1 ⟨g1, rfl, rfl, rfl⟩ hRP hS1 hz1 hk1 hce hcv hcl
    cases v with
    | inl r => cases g1
    | inr E' =>
      cases g1
      have hE : E = "java/util/NoSuchElementException" := hE
      subst hE
      refine vx_widen (k := mCe 87) (n := mSl 87) (by omega) (by omega) ?_
      refine vx_catch (own := cN 17) (name := "java/util/NoSuchElementException") (E := "java/util/NoSuchElementException") hown [] ⟨0, 7, 10, 182⟩ [] (by rw [htab]; rfl) (fun z hz => by cases hz) (by decide +kernel) (by decide) (hts _ (mem_of_contains (by decide +kernel) rfl)) (va_Nw.use rfl (hB.2.2.1 _ (by decide +kernel))) hce hcv hcl ?_
      refine lv_astore_n (k := 2) (i := 2) (nL := 3) B.exec B.bytes (by decide +kernel) rfl hl (by decide) rfl (fun ls' hl' => ?_)
      refine lv_iconst (n := 1) (v := 1) B.exec B.bytes (by decide +kernel) rfl ?_
      exact vx_ret (W.zret (ty := .boolean) B.exec B.bytes B.returns (show narrow .boolean (.int 1) = .int 1 from by decide) (fun t ht hW => qf_of (F := hnO (.inr "java/util/NoSuchElementException") sh' I' R') (fun a t n h => ⟨fun z => (hP a t n h).1 z, (hRP a t n h).2⟩) hS1 ⟨rfl, rfl, rfl, rfl⟩ ht hW.alike) hS1.2.2 (by decide +kernel) B.notSynchronized)
end LAW
section ST
variable {l : Launch} {K J : Nat → Nat} {mi pc pc' a : Nat} {L L' : VL} {st rest : List Value} {sh : HS} {I : HI} {R : HR} {c : Nat × Nat} {F : VF} {ins : Instr}
theorem mw_hasNone {ix X Y fu br : Nat} {P : Int32 ⊕ String → Prop} (h : (cD mi pc (.invokestatic ix) 3 && (cKl mi ix 1007 && (decide (mFr 86 + 2 ≤ mFr mi) && (decide (8 + (2 + 11) + (8 + (mL 86 + 11) + mLo 86) ≤ mLo mi) && cRm mi X Y)))) = true) (hr : Nat.ble (catS rest) 8 = true) (hc : c.1 + 1 ≤ X ∧ c.2 + 6 ≤ Y)
    (hw : wB (fX10_faults fu sh I R br) fun v => hasW "java/lang/IllegalStateException" v ∧ P v) (kk : ∀ v, P v → MW l K J mi (pc + 3) L (.int (hasV v) :: rest) sh I R (c.1 + 1, c.2 + 6) F) : MW l K J mi pc L (.ref br :: rest) sh I R c F := by
  unfold cRm at h
  simp only [Bool.and_eq_true, decide_eq_true_eq] at h
  obtain ⟨g1, g2, g3, g4, g5, g6⟩ := h
  obtain ⟨pos, e0⟩ := cKld g2
  obtain ⟨v, e1, hE, hp⟩ := wBd hw
  have hT : isT sh br 8 = true := by unfold fX10_faults at e1; exact (gd e1).1
  obtain ⟨n', hsh⟩ := isT_iff.mp hT
  have hlink := kl_sp e0 (by decide)
  have eq1 : mCe 86 = 1 := by decide +kernel
  have eq2 : mSl 86 = 6 := by decide +kernel
  have mq : mL 86 = 1 := by decide +kernel
  have hV : MW l K J 86 0 (ent (mL 86) [.ref br]) [] sh I R (0, 0) (fun o' sh' I' R' => o' = voI v ∧ sh' = sh ∧ I' = I ∧ R' = R) := V_MW (by rw [mq]; exact vX10_faults (F := fun o' sh' I' R' => o' = voI v ∧ sh' = sh ∧ I' = I ∧ R' = R) ⟨rfl, rfl, rfl, rfl⟩ e1)
  intro D p e s m args below meth cd A H locs ls C hP hl hS
  have C' := C
  obtain ⟨hx, hb, hml, hrr, hown, hts, hlk, hin, hex, hK, hB, hA, htr, hmi⟩ := C
  obtain ⟨A', hA'⟩ : ∃ A' : Nat → Prop, A' = fun x => (∃ y, sh x = some y ∧ (y.1 < 22 ∨ 30 ≤ y.1)) ∨ H.size ≤ x := ⟨_, rfl⟩
  have hsub : ∀ x, A' x → A x := by
    intro x hx0
    rw [hA'] at hx0
    rcases hx0 with ⟨y, hy, hw⟩ | h
    · exact (hP x y.1 y.2 hy).1 hw
    · exact hA x (Nat.le_trans hS.1 h)
  have hM := hn_metN (l := l) (K := K) (J := J) (D := D) (A := A') (hz := H.size) (sh := sh) (I := I) (R := R) (br := br) (n' := n') (v := v) htr (fun x hx0 => by rw [hA']; exact Or.inr hx0) hsh hE hV
  have hPc : ∀ U : State, U.heap = H → s.WarmedH U.vm → va_Pc [.ref br] (PcM K J D A' H.size sh I R) ([.ref br] : List Value).toArray U := by
    intro U hU hW
    refine ⟨rfl, by rw [hU], va_K.moved hW.alike hK, ?_, ?_⟩
    · rw [hU]; exact WB.warm hW (WB.at hB hS.2.1 hsub)
    · rw [hU]
      refine RP.moved hW.alike (fun x t n' hx0 => ?_)
      obtain ⟨r1, r2, r3⟩ := hP x t n' hx0
      exact ⟨fun z => by rw [hA']; exact Or.inl ⟨_, hx0, z⟩, r2, r3⟩
  have hcw : cwN ∈ wAll := mem_of_contains (by decide +kernel) rfl
  have hgood : ∀ w ∈ cwN :: wAll, ∀ (a' : Array Value) (U : State), s.WarmedH U.vm → w.before a' U = true := by
    refine pay_in hts (fun w hw => ?_)
    rcases List.mem_cons.mp hw with rfl | hw
    · exact wAll_self _ hcw
    · exact wAll_self w hw
  have S : CallFix p m cd (mB mi) (mL mi) s args wAll (cN (mC mi)) := ⟨hx, hb, hml, hown, hts⟩
  have k1 : ∀ sh' I' R', hnO v sh I R (.inl none) sh' I' R' → MW l K J mi (pc + 3) L rest sh' I' R' (c.1 + mCe 86, c.2 + mSl 86) F := by
    rintro sh' I' R' ⟨g, -⟩
    cases g
  have k2 : ∀ w sh' I' R', hnO v sh I R (.inl (some w)) sh' I' R' → MW l K J mi (pc + 3) L (w :: rest) sh' I' R' (c.1 + mCe 86, c.2 + mSl 86) F := by
    rintro w sh' I' R' ⟨g, rfl, rfl, rfl⟩
    cases g
    rw [eq1, eq2]
    exact kk v hp
  have k3 : ∀ E sh' I' R', hnO v sh I R (.inr E) sh' I' R' → F (.inr E) sh' I' R' := by
    rintro E sh' I' R' ⟨g, -⟩
    cases g
  refine run_go (q := 86) (G := hnO v sh I R) (a := ([.ref br] : List Value).toArray) (A' := A') C' hl hS hsub (by rw [eq1, eq2, g5, g6]; exact hc) ?_ k1 k2 k3
  exact vx_runSX (bytes := cL_hasNone) (maxL := 2) (ret := some .boolean) (hh := [(0, 5, 8, 177)]) (ws := cwN :: wAll) (n := 1) (y := yL_hasNone) (rm := rmC 86) (As := [.ref br]) S hM
    ⟨⟨rfl, rfl, g3, g4, hgood, List.mem_cons_self⟩, hts _ hcw, hts _ (mem_of_contains (by decide +kernel) rfl), ⟨by decide, by decide⟩, fun sig hs => by
      have e9 : (parseMethodDescriptor yL_hasNone.desc).map (fun d => d.parameters.length) = some 1 := by decide +kernel
      rw [hs] at e9
      exact (Option.some.inj e9).symm, hts _ hlink, hts _ (mem_of_contains (by decide +kernel) rfl)⟩ ⟨PcM_blind, hPc⟩ rfl rfl hl.1 rfl (lv_room (Nat.le_of_ble_eq_true hr)) (dcD g1) (by rw [eq1, eq2]; show c.1 + _ ≤ mCe mi ∧ c.2 + _ ≤ mSl mi; rw [g5, g6]; exact hc)
end ST
section ST
variable {l : Launch} {K J : Nat → Nat} {mi pc pc' a : Nat} {L L' : VL} {st rest : List Value} {sh : HS} {I : HI} {R : HR} {c : Nat × Nat} {F : VF} {ins : Instr}
theorem mw_hasNoFault {ix X Y fu br : Nat} {i : Int32} {P : Int32 ⊕ String → Prop} (h : (cD mi pc (.invokestatic ix) 3 && (cKl mi ix 1008 && (decide (mFr 87 + 2 ≤ mFr mi) && (decide (8 + (3 + 11) + (8 + (mL 87 + 11) + mLo 87) ≤ mLo mi) && cRm mi X Y)))) = true) (hr : Nat.ble (catS rest) 8 = true) (hc : c.1 + 4 ≤ X ∧ c.2 + 24 ≤ Y)
    (hw : wB (fX10_fault fu sh I R br i 0) fun v => hasW "java/util/NoSuchElementException" v ∧ P v) (kk : ∀ v, P v → MW l K J mi (pc + 3) L (.int (hasV v) :: rest) sh I R (c.1 + 4, c.2 + 24) F) : MW l K J mi pc L (.int i :: .ref br :: rest) sh I R c F := by
  unfold cRm at h
  simp only [Bool.and_eq_true, decide_eq_true_eq] at h
  obtain ⟨g1, g2, g3, g4, g5, g6⟩ := h
  obtain ⟨pos, e0⟩ := cKld g2
  obtain ⟨v, e1, hE, hp⟩ := wBd hw
  have hT : isT sh br 8 = true := by unfold fX10_fault at e1; exact (gd e1).1
  obtain ⟨n', hsh⟩ := isT_iff.mp hT
  have hlink := kl_sp e0 (by decide)
  have eq1 : mCe 87 = 4 := by decide +kernel
  have eq2 : mSl 87 = 24 := by decide +kernel
  have mq : mL 87 = 7 := by decide +kernel
  have hV : MW l K J 87 0 (ent (mL 87) [.ref br, .int i, .int 0]) [] sh I R (0, 0) (fun o' sh' I' R' => o' = voI v ∧ sh' = sh ∧ I' = I ∧ R' = R) := V_MW (by rw [mq]; exact vX10_fault (F := fun o' sh' I' R' => o' = voI v ∧ sh' = sh ∧ I' = I ∧ R' = R) ⟨rfl, rfl, rfl, rfl⟩ e1)
  intro D p e s m args below meth cd A H locs ls C hP hl hS
  have C' := C
  obtain ⟨hx, hb, hml, hrr, hown, hts, hlk, hin, hex, hK, hB, hA, htr, hmi⟩ := C
  obtain ⟨A', hA'⟩ : ∃ A' : Nat → Prop, A' = fun x => (∃ y, sh x = some y ∧ (y.1 < 22 ∨ 30 ≤ y.1)) ∨ H.size ≤ x := ⟨_, rfl⟩
  have hsub : ∀ x, A' x → A x := by
    intro x hx0
    rw [hA'] at hx0
    rcases hx0 with ⟨y, hy, hw⟩ | h
    · exact (hP x y.1 y.2 hy).1 hw
    · exact hA x (Nat.le_trans hS.1 h)
  have hM := hn_metF (l := l) (K := K) (J := J) (D := D) (A := A') (hz := H.size) (sh := sh) (I := I) (R := R) (br := br) (n' := n') (v := v) (i := i) htr (fun x hx0 => by rw [hA']; exact Or.inr hx0) hsh hE hV
  have hPc : ∀ U : State, U.heap = H → s.WarmedH U.vm → va_Pc [.ref br, .int i] (PcM K J D A' H.size sh I R) ([.ref br, .int i] : List Value).toArray U := by
    intro U hU hW
    refine ⟨rfl, by rw [hU], va_K.moved hW.alike hK, ?_, ?_⟩
    · rw [hU]; exact WB.warm hW (WB.at hB hS.2.1 hsub)
    · rw [hU]
      refine RP.moved hW.alike (fun x t n' hx0 => ?_)
      obtain ⟨r1, r2, r3⟩ := hP x t n' hx0
      exact ⟨fun z => by rw [hA']; exact Or.inl ⟨_, hx0, z⟩, r2, r3⟩
  have hcw : cwF ∈ wAll := mem_of_contains (by decide +kernel) rfl
  have hgood : ∀ w ∈ cwF :: wAll, ∀ (a' : Array Value) (U : State), s.WarmedH U.vm → w.before a' U = true := by
    refine pay_in hts (fun w hw => ?_)
    rcases List.mem_cons.mp hw with rfl | hw
    · exact wAll_self _ hcw
    · exact wAll_self w hw
  have S : CallFix p m cd (mB mi) (mL mi) s args wAll (cN (mC mi)) := ⟨hx, hb, hml, hown, hts⟩
  have k1 : ∀ sh' I' R', hnO v sh I R (.inl none) sh' I' R' → MW l K J mi (pc + 3) L rest sh' I' R' (c.1 + mCe 87, c.2 + mSl 87) F := by
    rintro sh' I' R' ⟨g, -⟩
    cases g
  have k2 : ∀ w sh' I' R', hnO v sh I R (.inl (some w)) sh' I' R' → MW l K J mi (pc + 3) L (w :: rest) sh' I' R' (c.1 + mCe 87, c.2 + mSl 87) F := by
    rintro w sh' I' R' ⟨g, rfl, rfl, rfl⟩
    cases g
    rw [eq1, eq2]
    exact kk v hp
  have k3 : ∀ E sh' I' R', hnO v sh I R (.inr E) sh' I' R' → F (.inr E) sh' I' R' := by
    rintro E sh' I' R' ⟨g, -⟩
    cases g
  refine run_go (q := 87) (G := hnO v sh I R) (a := ([.ref br, .int i] : List Value).toArray) (A' := A') C' hl hS hsub (by rw [eq1, eq2, g5, g6]; exact hc) ?_ k1 k2 k3
  exact vx_runSX (bytes := cL_hasNoFault) (maxL := 3) (ret := some .boolean) (hh := [(0, 7, 10, 182)]) (ws := cwF :: wAll) (n := 2) (y := yL_hasNoFault) (rm := rmC 87) (As := [.ref br, .int i]) S hM
    ⟨⟨rfl, rfl, g3, g4, hgood, List.mem_cons_self⟩, hts _ hcw, hts _ (mem_of_contains (by decide +kernel) rfl), ⟨by decide, by decide⟩, fun sig hs => by
      have e9 : (parseMethodDescriptor yL_hasNoFault.desc).map (fun d => d.parameters.length) = some 2 := by decide +kernel
      rw [hs] at e9
      exact (Option.some.inj e9).symm, hts _ hlink, hts _ (mem_of_contains (by decide +kernel) rfl)⟩ ⟨PcM_blind, hPc⟩ rfl rfl hl.1 rfl (lv_room (Nat.le_of_ble_eq_true hr)) (dcD g1) (by rw [eq1, eq2]; show c.1 + _ ≤ mCe mi ∧ c.2 + _ ≤ mSl mi; rw [g5, g6]; exact hc)
end ST
section ST
variable {l : Launch} {K J : Nat → Nat} {mi pc : Nat} {L : VL} {rest : List Value} {sh : HS} {I : HI} {R : HR} {c : Nat × Nat} {F : VF}
/-- the planner's constructor: what it makes is told by PLN -/
def wX10_init (sh : HS) (I : HI) (R : HR) (a : Nat) (k : HS → HI → HR → Prop) : Prop := sh a = some (8, 14) ∧ ∀ g b A B s x y h sh' I' R', PLN sh sh' I I' R R' a g b A B s x y h → k sh' I' R'
theorem hX10_init {X Y l0 : Nat} {P : HS → HI → HR → Prop} (hq : cQx mi pc 61 1 315 102354 X Y = true) (hc : c.1 + 315 ≤ X ∧ c.2 + 102354 ≤ Y) (hr : Nat.ble (catS rest) 8 = true) (hw : wX10_init sh I R l0 P) (kk : ∀ sh' I' R', P sh' I' R' → MW l K J mi (pc + 3) L rest sh' I' R' (c.1 + 315, c.2 + 102354) F) : MW l K J mi pc L (.ref l0 :: rest) sh I R c F := by
  obtain ⟨hl, hk⟩ := hw
  have ml : mL 61 = 1 := by decide +kernel
  refine mwx_call (as := [.ref l0]) (G := fun o' sh' I' R' => o' = .inl none ∧ P sh' I' R') hq hc rfl hr (by rw [ml]; rfl) rfl (fun z => absurd z (by decide +kernel)) (fun _ => ⟨_, rfl⟩) (V_MW (vX10_init hl (fun g b A B s x y h sh' I' R' H => ⟨rfl, hk g b A B s x y h sh' I' R' H⟩))) ?_ ?_ ?_
  · rintro sh' I' R' ⟨-, g⟩
    exact kk _ _ _ g
  · rintro v sh' I' R' ⟨g, -⟩
    cases g
  · rintro E sh' I' R' ⟨g, -⟩
    cases g
end ST
