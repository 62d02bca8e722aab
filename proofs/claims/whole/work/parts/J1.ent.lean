/-! STAGE 5: the law's entry: an object made, its constructor, an array of one long or double -/
section LAW
variable {l : Launch} {K J : Nat → Nat} {p : Program} {e : Env} {Rm : Room} {s : State} {m : MethodId} {args : Array Value} {below : List Frame} {meth : Method} {cd : Code} {H : Heap} {locs : List Loc} {ls : Array Slot} {D : va_G} {sh : HS} {I I' : HI} {R R' : HR} {cells slots pc pc' q b L i : Nat} {Q : State → Prop} {G : HS → HI → HR → Prop} {st rest : List Value} {xs : Nat → Int32}
theorem lw_new {ix t : Nat} {r : vw_C} (S : CallFix p m cd code 9 s args wAll RL) (hK : va_K D vwCl [] s) (hP : RP D s (lA s) sh I R H) (hS : va_S (lA s) s.heap H locs) (hr0 : vwCl[t]? = some r) (hw : wdCk [Cond.classLink RL ix r.1, Cond.instantiable r.1 r.2.2, Cond.initialized r.1] = true) (hd : wIn code pc (.new ix) 3 = true) (hfit : cells + 1 ≤ Rm.cells ∧ slots + fN t ≤ Rm.slots)
    (kk : ∀ H1 : Heap, sh H.size = none → RP D s (lA s) (u1 sh H.size (some (t, fN t))) (u1 I H.size (fun _ => 0)) (u1 R H.size (fun _ => none)) H1 → va_S (lA s) s.heap H1 locs → W p l e Rm s m args below meth cd H1 locs (cells + 1) (slots + fN t) Q (F0 m (pc + 3) ls (.ref H.size :: st))) :
    W p l e Rm s m args below meth cd H locs cells slots Q (F0 m pc ls st) := by
  obtain ⟨hx, hb, hml, hown, hts⟩ := S
  have hKn := hK.1 t r hr0
  have hfn : fN t = r.2.2 := by unfold fN; rw [hr0]; rfl
  have ht : t < 10 := (List.getElem?_eq_some_iff.mp hr0).1
  have m1 : Cond.classLink RL ix r.1 ∈ wAll := wdCk_of hw (by simp)
  have m2 : Cond.instantiable r.1 r.2.2 ∈ wAll := wdCk_of hw (by simp)
  have m3 : Cond.initialized r.1 ∈ wAll := wdCk_of hw (by simp)
  refine W.newcK (own := RL) (C := r.1) (index := ix) (n := r.2.2) hx hb hown (hts _ m1) (hts _ m2) (hts _ m3) rfl (wIn_of hd) hfit.1 (by rw [← hfn]; exact hfit.2) hKn.2.1 rfl fun H1 kC hkC e1 z1 o1 => ?_
  have kk := kk H1 hP.fresh
  rw [hfn] at kk
  have hsz := hS.1
  refine kk (hP.push z1 o1 (fun b j hb0 => by rw [u1_off hb0]) (fun b j hb0 => by rw [u1_off hb0]) hsz ⟨fun _ => ⟨r, hr0, (u_born (tyc t) hts (cls_inA hr0) hKn hkC e1 (tyc_ok hr0)).to fun k hk0 => ?_⟩, fun z => by omega, fun u z => by omega⟩) ⟨by omega, fun q g1 g2 => (o1 q (by omega)).trans (hS.2.1 q g1 g2), hS.2.2⟩
  have h := List.all_eq_true.mp (List.all_eq_true.mp dflt_okB t (List.mem_range.mpr ht)) k (List.mem_range.mpr (by rw [hfn]; exact hk0))
  rw [decide_eq_true_eq] at h
  rw [h]
  unfold fv
  rw [u1_on, u1_on]
  rfl
theorem lw_init {br ix : Nat} (S : CallFix p m cd code 9 s args wAll RL) (htr : l.stackTraces = false) (hq : q < mT.length) (hk : mK q = 2) (hn : mN q = 1) (hle : 1 ≤ mL q) (hK : va_K D vwCl [] s) (hB : WB K J (lA s) s s.heap) (hP : RP D s (lA s) sh I R H) (hS : va_S (lA s) s.heap H locs) (hlink : Cond.methodLink RL ix (mY q) ∈ wAll) (hd : decode code pc = .ok (.invokespecial ix, 3)) (hsz : ls.size = 9) (hroom : mFr q + 1 ≤ Rm.frames ∧ 8 + (mL q + 11) + mLo q ≤ Rm.locals) (hfit : cells + mCe q ≤ Rm.cells ∧ slots + mSl q ≤ Rm.slots) (hcat : catS rest ≤ 8)
    (hv : V K J q 0 (ent (mL q) [.ref br]) [] sh I R (0, 0) (fun o' sh' I'' R'' => o' = .inl none ∧ G sh' I'' R''))
    (kk : ∀ sh' I' R' H1 locs1, G sh' I' R' → RP D s (lA s) sh' I' R' H1 → va_S (lA s) s.heap H1 locs1 → W p l e Rm s m args below meth cd H1 locs1 (cells + mCe q) (slots + mSl q) Q (F0 m (pc + 3) ls rest)) :
    W p l e Rm s m args below meth cd H locs cells slots Q (F0 m pc ls (.ref br :: rest)) := by
  obtain ⟨f1, f2, f3, f4, f5, f6, f7, f8, f9, f10, f11, f12, f13⟩ := mt_f hq
  have hts : ∀ w ∈ wAll, w.before args s = true := S.2.2.2.2
  have h0 : ¬ mK q = 0 := by omega
  obtain ⟨hnm, hrt⟩ := f10 hk
  have hsub : ∀ x, NA sh H x → lA s x := by
    intro x hx0
    rcases hx0 with ⟨y, hy⟩ | h
    · exact (hP x y.1 y.2 hy).1
    · exact Nat.le_trans hS.1 h
  have hM : vx_Met l (mY q) (wsM q) (mRm q) (va_Pc [.ref br] (PcM K J D (NA sh H) H.size sh I R)) (QF D (NA sh H) (fun o' sh' I'' R'' => o' = .inl none ∧ G sh' I'' R'')) (XF D (NA sh H) (fun o' sh' I'' R'' => o' = .inl none ∧ G sh' I'' R'')) (mCe q) (mSl q) (NA sh H) :=
    met_of hq htr hle (Or.inl rfl) (fun x hx0 => Or.inr hx0) (V_MW hv)
  have hPc : ∀ U : State, U.heap = H → s.WarmedH U.vm → va_Pc [.ref br] (PcM K J D (NA sh H) H.size sh I R) [Value.ref br].toArray U := by
    intro U hU hW
    refine ⟨rfl, by rw [hU], va_K.moved hW.alike hK, ?_, ?_⟩
    · rw [hU]; exact WB.warm hW (WB.at hB hS.2.1 hsub)
    · rw [hU]
      refine RP.moved hW.alike (fun x t n' hx0 => ?_)
      obtain ⟨r1, r2, r3⟩ := hP x t n' hx0
      exact ⟨Or.inl ⟨_, hx0⟩, r2, r3⟩
  have hgood : ∀ w ∈ wsM q, ∀ (a' : Array Value) (U : State), s.WarmedH U.vm → w.before a' U = true := by
    refine pay_in hts (fun w hw => ?_)
    rcases List.mem_cons.mp hw with rfl | hw
    · exact wAll_self _ f1
    · exact wAll_self w hw
  have hpar : ∀ sig, parseMethodDescriptor (mY q).desc = some sig → ([] : List Value).length = sig.parameters.length := by
    intro sig hsig
    rw [hsig] at f9
    have f9' := Option.some.inj f9
    rw [if_neg h0] at f9'
    have : sig.parameters.length = mN q - 1 := f9'
    show 0 = _
    omega
  have hcode := hts _ f1
  rw [hrt] at hcode
  have hcw : Cond.code (mY q) (mB q) (mL q) none ∈ wsM q := by rw [← hrt]; exact List.mem_cons_self
  refine lk_go (A := lA s) (q := q) (D := D) (rest := rest) (G := fun o' sh' I'' R'' => o' = .inl none ∧ G sh' I'' R'') (a := [Value.ref br].toArray) hS hsub ?_ ?_ ?_
  · exact vx_runI (As := []) (rest := rest) (bytes := mB q) (maxL := mL q) (ws := wsM q) (n := 0) S hM ⟨⟨rfl, rfl, hroom.1, hroom.2, hgood, hcw, hcode, hts _ f5, f8, hpar, hts _ hlink⟩, hnm, hts _ (f3 h0)⟩ ⟨PcM_blind, hPc⟩ rfl rfl hsz rfl (lv_room hcat) hd hfit
  · intro v sh' I' R' H1 locs1 hG hRP hS1 hz hk1
    obtain ⟨g1, g2⟩ := hG
    cases g1
    exact kk sh' I' R' H1 locs1 g2 (RP.off hRP (Nat.le_refl _) (fun _ _ => rfl) (fun a _ h => hsub a h)) hS1
  · intro E ce x sh' I' R' H1 locs1 hG
    exact absurd hG.1 (by simp)
theorem lw_nwa {aty : ArrayType} {ty : FieldType} {v : Value} (S : CallFix p m cd code 9 s args wAll RL) (hP : RP D s (lA s) sh I R H) (hS : va_S (lA s) s.heap H locs) (hat : (aty = .long ∧ ty = .long ∧ v = .long 0) ∨ (aty = .double ∧ ty = .double ∧ v = .double 0)) (hw : wdCk [Cond.arrayClass ty] = true) (hd : wIn code pc (.newarray aty) 2 = true) (hfit : cells + 1 ≤ Rm.cells ∧ slots + 1 ≤ Rm.slots)
    (kk : ∀ H1 : Heap, sh H.size = none → RP D s (lA s) sh I R H1 → OUC s H1 H.size ty v → va_S (lA s) s.heap H1 locs → (∀ q : Nat, q < H.size → H1[q]? = H[q]?) → W p l e Rm s m args below meth cd H1 locs (cells + 1) (slots + 1) Q (F0 m (pc + 2) ls (.ref H.size :: st))) :
    W p l e Rm s m args below meth cd H locs cells slots Q (F0 m pc ls (.int 1 :: st)) := by
  obtain ⟨hx, hb, hml, hown, hts⟩ := S
  have hsz := hS.1
  rcases hat with ⟨rfl, rfl, rfl⟩ | ⟨rfl, rfl, rfl⟩
  · have mw : Cond.arrayClass (newarray.typeOf .long) ∈ wAll := wdCk_of hw (by simp [newarray.typeOf])
    refine va_newaK (atype := .long) (N := 1) hx hb (hts _ mw) rfl (wIn_of hd) rfl (by decide) (by decide) (by decide) hfit.1 hfit.2 rfl fun H1 cA e1 z1 o1 hAr hNm => ?_
    exact kk H1 hP.fresh (hP.off (by omega) (fun a ha => by
      cases hy : sh a with
      | none => exact absurd hy ha
      | some y => exact o1 a (hP a y.1 y.2 hy).2.1) (fun _ _ h => h)) ⟨cA, by rw [e1]; rfl, hAr, hNm⟩ ⟨by omega, fun q g1 g2 => (o1 q (by omega)).trans (hS.2.1 q g1 g2), hS.2.2⟩ o1
  · have mw : Cond.arrayClass (newarray.typeOf .double) ∈ wAll := wdCk_of hw (by simp [newarray.typeOf])
    refine va_newaK (atype := .double) (N := 1) hx hb (hts _ mw) rfl (wIn_of hd) rfl (by decide) (by decide) (by decide) hfit.1 hfit.2 rfl fun H1 cA e1 z1 o1 hAr hNm => ?_
    exact kk H1 hP.fresh (hP.off (by omega) (fun a ha => by
      cases hy : sh a with
      | none => exact absurd hy ha
      | some y => exact o1 a (hP a y.1 y.2 hy).2.1) (fun _ _ h => h)) ⟨cA, by rw [e1]; rfl, hAr, hNm⟩ ⟨by omega, fun q g1 g2 => (o1 q (by omega)).trans (hS.2.1 q g1 g2), hS.2.2⟩ o1
end LAW
def insCk : Bool := (List.range 10).all (fun t => match vwCl[t]? with
  | some r => lw_tbl.contains (.instantiable r.1 r.2.2)
  | none => false)
theorem insCk_ok : insCk = true := by decide +kernel
/-- the classes are known -/
theorem known0 {s : State} {args : Array Value} (hts : ∀ w ∈ lw_tbl, w.before args s = true) : ∃ D : va_G, va_K D vwCl [] s := by
  have h0 : ∀ t : Nat, ∃ q : ClassId × (Nat → Nat), ∀ r, vwCl[t]? = some r → u_Kn s r.1 r.2.1 r.2.2 q.1 q.2 := by
    intro t
    cases hr : vwCl[t]? with
    | none => exact ⟨(default, fun _ => 0), fun r h => by cases h⟩
    | some r =>
      have ht : t < 10 := (List.getElem?_eq_some_iff.mp hr).1
      have c := List.all_eq_true.mp insCk_ok t (List.mem_range.mpr ht)
      rw [hr] at c
      obtain ⟨cC, iS, k⟩ := u_known (C := r.1) (T := r.2.1) (N := r.2.2) (n := r.2.2) (ws := wAll) (fun w hw => hts w (List.mem_filter.mp hw).1) (cls_inA hr) (hts _ (in_tbl c))
      exact ⟨(cC, iS), fun r' h => by cases h; exact k⟩
  obtain ⟨f, hf⟩ := Classical.axiomOfChoice h0
  exact ⟨(fun k => (f k).1, fun k => (f k).2), fun k r hr => hf k r hr, fun k q h => by simp at h⟩
