/-! STAGE 4: pieces of the law's own body: numbers of the script, a call of its own method, a call on the reference -/
def wAr (pc k : Nat) : Bool := wLd code pc 1 0 (pc + 1) && (wLd code (pc + 1) 0 5 (pc + 3) && (wIn code (pc + 3) (.iconst (k : Int)) 1 && (wIn code (pc + 4) .iadd 1 && wIn code (pc + 5) .iaload 1)))
def wArs : Nat → Nat → Nat → Bool
  | _, _, 0 => true
  | pc, k, n + 1 => wAr pc k && wArs (pc + 6) (k + 1) n
def agL (xs : Nat → Int32) (i : Nat) : Nat → Nat → List Int32
  | _, 0 => []
  | k, n + 1 => xs (i + k) :: agL xs i (k + 1) n
theorem agL_len (xs : Nat → Int32) (i : Nat) : ∀ n k, (agL xs i k n).length = n := by
  intro n
  induction n with
  | zero => exact fun _ => rfl
  | succ n ih =>
    intro k
    show (agL xs i (k + 1) n).length + 1 = n + 1
    rw [ih]
def lA (s : State) : Nat → Prop := fun q => s.heap.size ≤ q
def NW (sh : HS) (oa : Nat) (H : Heap) : Nat → Prop := fun x => (∃ y, sh x = some y) ∨ x = oa ∨ H.size ≤ x
section LAW
variable {l : Launch} {K J : Nat → Nat} {p : Program} {e : Env} {Rm : Room} {s : State} {m : MethodId} {args : Array Value} {below : List Frame} {meth : Method} {cd : Code} {H : Heap} {locs : List Loc} {ls : Array Slot} {D : va_G} {sh : HS} {I I' : HI} {R R' : HR} {cells slots pc pc' q b L i : Nat} {Q : State → Prop} {G : VF} {st rest : List Value} {xs : Nat → Int32}
theorem lw_arg {k : Nat} (hx : p.tables.exec = Jvm.exec) (hb : cd.code = code) (hX : va_X b L xs s s.heap) (hbl : b < s.heap.size) (hL : L ≤ 3072) (h : wAr pc k = true) (hi : i + k < L) (hS : va_S (lA s) s.heap H locs) (h0 : ls[0]? = some (.val (.ref b))) (h5 : ls[5]? = some (.val (.int (nI i))))
    (kk : W p l e Rm s m args below meth cd H locs cells slots Q (F0 m (pc + 6) ls (.int (xs (i + k)) :: st))) : W p l e Rm s m args below meth cd H locs cells slots Q (F0 m pc ls st) := by
  unfold wAr at h
  simp only [Bool.and_eq_true] at h
  obtain ⟨h1, h2, h3, h4, h6⟩ := h
  refine wl_ld (t := 1) (i := 0) (v := .ref b) hx hb h1 h0 rfl ?_
  refine wl_ld (t := 0) (i := 5) (v := .int (nI i)) hx hb h2 h5 rfl ?_
  refine lv_iconst (v := nI k) hx hb (wIn_of h3) rfl ?_
  refine lv_iadd hx hb (wIn_of h4) ?_
  rw [nI_add]
  have hin : vp_in (nI (i + k)) L := vp_in_nI hi (by omega)
  refine va_sld (A := lA s) hx hb hX hbl (Nat.not_le.mpr hbl) hS hin (wIn_of h6) ?_
  rw [nI_clamp (by omega)]
  exact kk
theorem lw_args (hx : p.tables.exec = Jvm.exec) (hb : cd.code = code) (hX : va_X b L xs s s.heap) (hbl : b < s.heap.size) (hL : L ≤ 3072) (hi : i + 6 ≤ L) (hS : va_S (lA s) s.heap H locs) (h0 : ls[0]? = some (.val (.ref b))) (h5 : ls[5]? = some (.val (.int (nI i)))) : ∀ (n k pc : Nat) (st : List Value), wArs pc k n = true → k + n ≤ 6 →
    W p l e Rm s m args below meth cd H locs cells slots Q (F0 m (pc + 6 * n) ls (((agL xs i k n).map Value.int).reverse ++ st)) → W p l e Rm s m args below meth cd H locs cells slots Q (F0 m pc ls st) := by
  intro n
  induction n with
  | zero => exact fun k pc st _ _ kk => kk
  | succ n ih =>
    intro k pc st h hk kk
    have h : (wAr pc k && wArs (pc + 6) (k + 1) n) = true := h
    rw [Bool.and_eq_true] at h
    refine lw_arg hx hb hX hbl hL h.1 (by omega) hS h0 h5 ?_
    refine ih (k + 1) (pc + 6) _ h.2 (by omega) ?_
    rw [show pc + 6 + 6 * n = pc + 6 * (n + 1) by omega]
    have : ((agL xs i k (n + 1)).map Value.int).reverse ++ st = ((agL xs i (k + 1) n).map Value.int).reverse ++ (.int (xs (i + k)) :: st) := by
      show ((.int (xs (i + k)) :: (agL xs i (k + 1) n).map Value.int)).reverse ++ st = _
      rw [List.reverse_cons, List.append_assoc]
      rfl
    rw [← this]
    exact kk
/-- a call of a method of the law that catches -/
theorem lw_wrap {y : MethodName} {cc : ByteArray} {nL nA oa ix : Nat} {hh : List (Nat × Nat × Nat × Nat)} {hs : List (String × Int)} {o : Value ⊕ String} {f : Value → Value} {ty : FieldType} {v0 : Value} {As : List Value} (S : CallFix p m cd code 9 s args wAll RL) (hK : va_K D vwCl [] s) (hB : WB K J (lA s) s s.heap) (hN : NCs s) (hP : RP D s (lA s) sh I R H) (hO : OUC s H oa ty v0) (hoA : lA s oa) (hoz : oa < H.size) (hso : sh oa = none) (hS : va_S (lA s) s.heap H locs)
    (hM : Met l y (wWs y cc nL hh) (wRm q) (va_Pc As (PcW K J D (NW sh oa H) H.size sh I R oa ty v0)) (va_Qi (OW o hs f v0) (BW D (NW sh oa H) sh I' R' oa ty) (NW sh oa H)) (mCe q) (mSl q) (NW sh oa H))
    (hcw : Cond.codeWith y cc nL (some .int) hh ∈ wAll ∧ Cond.initialized y.cls ∈ wAll ∧ Cond.methodLink RL ix y ∈ wAll ∧ Cond.static y ∈ wAll) (hy : y.cls = RL) (hpar : (parseMethodDescriptor y.desc).map (fun d => d.parameters.length) = some nA) (hnA : As.length = nA)
    (hroom : mFr q + 2 ≤ Rm.frames ∧ 8 + (nL + 11) + (8 + (mL q + 11) + mLo q) ≤ Rm.locals) (hfit : cells + mCe q ≤ Rm.cells ∧ slots + mSl q ≤ Rm.slots) (hd : decode code pc = .ok (.invokestatic ix, 3)) (hsz : ls.size = 9) (hcat : catS rest ≤ 8) (hst : st = As.reverse ++ rest)
    (kk : ∀ (k : Int32) (w : Value) (H1 : Heap) (locs1 : List Loc), OW o hs f v0 k w → RP D s (lA s) sh I' R' H1 → OUC s H1 oa ty w → va_S (lA s) s.heap H1 locs1 → H.size ≤ H1.size → (∀ ob : Nat, ¬ ob = oa → sh ob = none → ob < H.size → H1[ob]? = H[ob]?) → W p l e Rm s m args below meth cd H1 locs1 (cells + mCe q) (slots + mSl q) Q (F0 m (pc + 3) ls (.int k :: rest))) :
    W p l e Rm s m args below meth cd H locs cells slots Q (F0 m pc ls st) := by
  have hts := S.2.2.2.2
  have hsub : ∀ x, NW sh oa H x → lA s x := by
    intro x hx0
    rcases hx0 with ⟨y', hy'⟩ | rfl | h
    · exact (hP x y'.1 y'.2 hy').1
    · exact hoA
    · exact Nat.le_trans hS.1 h
  have hgood : ∀ w ∈ wWs y cc nL hh, ∀ (a' : Array Value) (U : State), s.WarmedH U.vm → w.before a' U = true := by
    refine pay_in hts (fun w hw => ?_)
    rcases List.mem_cons.mp hw with rfl | hw
    · exact wAll_self _ hcw.1
    · exact wAll_self w hw
  have hmh : y.cls ≠ "java/lang/invoke/MethodHandle" ∧ y.cls ≠ "java/lang/invoke/VarHandle" := by rw [hy]; exact ⟨by decide, by decide⟩
  refine va_calli (vx_runSW (As := As) (rest := rest) S hM (n := nA) (index := ix) (own := RL) (bytes := cc) (maxL := nL) (ret := some .int) (hh := hh) ⟨⟨rfl, rfl, hroom.1, hroom.2, hgood, List.mem_cons_self⟩, hts _ hcw.1, hts _ hcw.2.1, hmh, fun sig hsig => ?_, hts _ hcw.2.2.1, hts _ hcw.2.2.2⟩ ⟨PcW_blind, fun U hU hW => ⟨rfl, ⟨by rw [hU], va_K.moved hW.alike hK, ?_, ?_⟩, ?_, hN.moved hW.alike⟩⟩ rfl hnA hsz hst (lv_room hcat) hd hfit) hS (fun z _ h => hsub z h) hsub (fun k w t H1 locs1 ht hvm hpost hBW hz hk hS1 => ?_)
  · rw [hsig] at hpar
    exact (Option.some.inj hpar).symm
  · rw [hU]; exact WB.warm hW (WB.at hB hS.2.1 hsub)
  · rw [hU]
    refine RP.moved hW.alike (fun x t n' hx0 => ?_)
    obtain ⟨r1, r2, r3⟩ := hP x t n' hx0
    exact ⟨Or.inl ⟨_, hx0⟩, r2, r3⟩
  · rw [hU]; exact hO.moved hW.alike
  · obtain ⟨hO1, hR1⟩ := hBW
    rw [ht] at hO1 hR1
    refine kk k w H1 locs1 hpost (RP.off (RP.moved hvm.symm hR1) (Nat.le_refl _) (fun _ _ => rfl) (fun a _ h => hsub a h)) (hO1.moved hvm.symm) hS1 hz (fun ob h1 h2 h3 => hk ob h3 (fun h => ?_))
    rcases h with ⟨y', hy'⟩ | h | h
    · rw [h2] at hy'; cases hy'
    · exact h1 h
    · omega
/-- a call on the planner or on the reference that does not throw, out of the law -/
theorem lw_call {br n' ix : Nat} {as : List Value} {r : Value} (S : CallFix p m cd code 9 s args wAll RL) (htr : l.stackTraces = false) (hq : q < mT.length) (hk : mK q = 1) (hC : mC q < 10) (hK : va_K D vwCl [] s) (hB : WB K J (lA s) s s.heap) (hP : RP D s (lA s) sh I R H) (hS : va_S (lA s) s.heap H locs) (hsh : sh br = some (mC q, n')) (hlink : Cond.methodLink RL ix (mY q) ∈ wAll) (hd : decode code pc = .ok (.invokevirtual ix, 3)) (hsz : ls.size = 9) (hn : as.length + 1 = mN q) (hle : as.length + 1 ≤ mL q) (hc : as.all (fun v => v.category == 1) = true) (hroom : mFr q + 1 ≤ Rm.frames ∧ 8 + (mL q + 11) + mLo q ≤ Rm.locals) (hfit : cells + mCe q ≤ Rm.cells ∧ slots + mSl q ≤ Rm.slots) (hcat : catS rest ≤ 8) (hst : st = as.reverse ++ .ref br :: rest)
    (hv : V K J q 0 (ent (mL q) (.ref br :: as)) [] sh I R (0, 0) (fun o' sh' I'' R'' => o' = .inl (some r) ∧ sh' = sh ∧ I'' = I' ∧ R'' = R'))
    (kk : ∀ (H1 : Heap) (locs1 : List Loc), RP D s (lA s) sh I' R' H1 → va_S (lA s) s.heap H1 locs1 → H.size ≤ H1.size → (∀ ob : Nat, sh ob = none → ob < H.size → H1[ob]? = H[ob]?) → W p l e Rm s m args below meth cd H1 locs1 (cells + mCe q) (slots + mSl q) Q (F0 m (pc + 3) ls (r :: rest))) :
    W p l e Rm s m args below meth cd H locs cells slots Q (F0 m pc ls st) := by
  have hc2 : (Value.ref br :: as).all (fun v => v.category == 1) = true := by rw [List.all_cons, hc]; rfl
  have hsub : ∀ x, NA sh H x → lA s x := by
    intro x hx0
    rcases hx0 with ⟨y, hy⟩ | h
    · exact (hP x y.1 y.2 hy).1
    · exact Nat.le_trans hS.1 h
  refine lk_V (K := K) (J := J) (A := lA s) S (fun w hw => hw) htr hq hk hC hK hB (fun x hx => hx) hP hS hsh hlink hd hsz hn (by rw [entA_map _ hc2, List.length_map]; exact hle) hc2 hroom hfit hcat hst hv ?_ ?_
  · intro v sh' I'' R'' H1 locs1 hG hRP hS1 hz1 hk1
    obtain ⟨g1, rfl, rfl, rfl⟩ := hG
    cases g1
    refine kk H1 locs1 (RP.off hRP (Nat.le_refl _) (fun _ _ => rfl) (fun a _ h => hsub a h)) hS1 hz1 (fun ob h1 h2 => hk1 ob h2 (fun h => ?_))
    rcases h with ⟨y', hy'⟩ | h
    · rw [h1] at hy'; cases hy'
    · omega
  · intro E ce x9 sh' I'' R'' H1 locs1 hG
    exact absurd hG.1 (by simp)
end LAW
