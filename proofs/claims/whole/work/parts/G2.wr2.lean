/-! STAGE 4: the contract of a method of the law that catches -/
def OUC (s : State) (H : Heap) (oa : Nat) (ty : FieldType) (v : Value) : Prop := ∃ cA, H[oa]? = some (arrV cA 1 (fun _ => v)) ∧ ArrOfT s cA ty ∧ va_RA s cA ty
def voV (o : Value ⊕ String) : VO := match o with
  | .inl v => .inl (some v)
  | .inr E => .inr E
def wRm (q : Nat) : Room := { frames := mFr q + 1, cells := mCe q, slots := mSl q, locals := 8 + (mL q + 11) + mLo q }
def wWs (y : MethodName) (cc : ByteArray) (nL : Nat) (hh : List (Nat × Nat × Nat × Nat)) : List Cond := Cond.codeWith y cc nL (some .int) hh :: wAll
def PcW (K J : Nat → Nat) (D : va_G) (A : Nat → Prop) (hz : Nat) (sh : HS) (I : HI) (R : HR) (oa : Nat) (ty : FieldType) (v : Value) : State → Prop := fun U => PcM K J D A hz sh I R U ∧ OUC U U.heap oa ty v ∧ NCs U
def OW (o : Value ⊕ String) (hs : List (String × Int)) (f : Value → Value) (v0 : Value) (k : Int32) (w : Value) : Prop := match o with
  | .inl r => k = 0 ∧ w = f r
  | .inr E => w = v0 ∧ ∃ z, (E, z) ∈ hs ∧ k = Int32.ofInt z
def BW (D : va_G) (A : Nat → Prop) (sh : HS) (I : HI) (R : HR) (oa : Nat) (ty : FieldType) (w : Value) (t : State) : Prop := OUC t t.heap oa ty w ∧ RP D t A sh I R t.heap
def CONV (cc : ByteArray) (pc pc' : Nat) (r r' : Value) : Prop := ∀ {p : Program} {l : Launch} {e : Env} {Rm : Room} {s : State} {m : MethodId} {args : Array Value} {below : List Frame} {meth : Method} {cd : Code} {H : Heap} {locs : List Loc} {ls : Array Slot} {cells slots : Nat} {Q : State → Prop} {st : List Value}, p.tables.exec = Jvm.exec → cd.code = cc → W p l e Rm s m args below meth cd H locs cells slots Q (F0 m pc' ls (r' :: st)) → W p l e Rm s m args below meth cd H locs cells slots Q (F0 m pc ls (r :: st))
def STO (cc : ByteArray) (pc : Nat) (ty : FieldType) (w : Value) : Prop := (ty = .long ∧ wIn cc pc .lastore 1 = true ∧ ∃ z, w = .long z) ∨ (ty = .double ∧ wIn cc pc .dastore 1 = true ∧ ∃ z, w = .double z)
def wGo (cc : ByteArray) (pc t : Nat) : Bool := wIn cc pc (.goto ((t : Int) - (pc : Int))) 3
theorem OUC.moved {u U : State} {H : Heap} {oa : Nat} {ty : FieldType} {v : Value} (hvm : u.vm.Alike U.vm) (h : OUC u H oa ty v) : OUC U H oa ty v := by
  obtain ⟨cA, g1, g2, g3⟩ := h
  exact ⟨cA, g1, arrOfT_moved hvm g2, g3.moved hvm⟩
theorem OUC.kept {u : State} {H H' : Heap} {oa : Nat} {ty : FieldType} {v : Value} (e : H'[oa]? = H[oa]?) (h : OUC u H oa ty v) : OUC u H' oa ty v := by
  obtain ⟨cA, g1, g2⟩ := h
  exact ⟨cA, by rw [e]; exact g1, g2⟩
theorem arrV_cg {cA : ClassId} {f g : Nat → Value} (h : f 0 = g 0) : arrV cA 1 f = arrV cA 1 g := by
  unfold arrV
  congr 2
  funext j
  have : j.val = 0 := by omega
  rw [this, h]
theorem RP.off {D : va_G} {s : State} {A B : Nat → Prop} {sh : HS} {I : HI} {R : HR} {H H' : Heap} (h : RP D s A sh I R H) (hz : H.size ≤ H'.size) (hq : ∀ a, ¬ sh a = none → H'[a]? = H[a]?) (hB : ∀ a, ¬ sh a = none → A a → B a) : RP D s B sh I R H' := fun a t n ha => by
  obtain ⟨r1, r2, r3⟩ := h a t n ha
  have hn : ¬ sh a = none := by rw [ha]; simp
  exact ⟨hB a hn r1, by omega, rc_off r3 (hq a hn) (fun _ => rfl) (fun _ => rfl)⟩
theorem PcW_blind {K J : Nat → Nat} {D : va_G} {A : Nat → Prop} {hz : Nat} {sh : HS} {I : HI} {R : HR} {oa : Nat} {ty : FieldType} {v : Value} {As : List Value} : FrameBlind (va_Pc As (PcW K J D A hz sh I R oa ty v)) := by
  intro a U g mk h
  obtain ⟨h1, h2, h3, h4⟩ := h
  have q := PcM_blind (As := As) (K := K) (J := J) (D := D) (A := A) (hz := hz) (sh := sh) (I := I) (R := R) a U g mk ⟨h1, h2⟩
  exact ⟨h1, q.2, h3.moved (u := U) (U := U.calling g mk a) (Vm.Alike.refl U.vm), h4.moved (u := U) (U := U.calling g mk a) (Vm.Alike.refl U.vm)⟩
theorem met_ofWH {l : Launch} {y : MethodName} {ws ws' : List Cond} {rm : Room} {Pc : Array Value → State → Prop} {Qc : Array Value → State → Outcome → State → Prop} {mc ms : Nat} {free : Addr → Prop} {cc : ByteArray} {maxL : Nat} {ret : Option FieldType} {hh : List (Nat × Nat × Nat × Nat)}
    (hy : plainName y.cls = true) (hw : ws = Cond.codeWith y cc maxL ret hh :: ws')
    (body : ∀ p e s m args below meth c s₁, BodyLoose p l y (headSpec ws rm) cc maxL ret e s m args below meth c s₁ → c.maxLocals = maxL → Pc args s →
      W p l e (headSpec ws rm).room s m args below meth c s.heap [] 0 0 (MQ below Qc args s mc ms free) (entryFrame m args maxL)) : Met l y ws rm Pc Qc mc ms free := by
  refine MetFree.of_bodyS (code := cc) (maxLocals := maxL) (ret := ret) hy ?_ ?_
  · intro args s m h hn
    obtain ⟨m9, meth, c, hn9, h1, h2, h3, h4, -, h5, h6, -⟩ := Cond.codeWith_spec (atoms_spec (ws := ws) h _ (by rw [hw]; exact List.mem_cons_self))
    cases hn.symm.trans hn9
    exact ⟨meth, c, h1, h2, h3, h4, h5, h6⟩
  · intro p e s m args below meth c s₁ B hml hP _
    have hh0 : s₁.heap = s.heap := by rw [B.state]; rfl
    obtain ⟨t, a1, o, b1, b2, b3⟩ := body p e s m args below meth c s₁ B hml hP s₁ hh0 (Stand.of_body B)
    exact ⟨t, o, a1, b1, b2, ⟨b3.1, b3.2⟩⟩
section LAW
variable {l : Launch} {K J : Nat → Nat} {p : Program} {e : Env} {Rm : Room} {s : State} {m : MethodId} {args : Array Value} {below : List Frame} {meth : Method} {cd : Code} {A : Nat → Prop} {H : Heap} {locs : List Loc} {ls : Array Slot} {D : va_G} {sh : HS} {I I' : HI} {R R' : HR} {cells slots pc pc' q : Nat} {Q : State → Prop} {G : VF} {st rest : List Value} {cc : ByteArray}
theorem wl_sto {oa : Nat} {ty : FieldType} {v w : Value} (hx : p.tables.exec = Jvm.exec) (hb : cd.code = cc) (h : STO cc pc ty w) (hO : OUC s H oa ty v) (kk : ∀ H' : Heap, H'.size = H.size → (∀ q : Nat, q ≠ oa → H'[q]? = H[q]?) → OUC s H' oa ty w → W p l e Rm s m args below meth cd H' (locs ++ [⟨oa, 0⟩]) cells slots Q (F0 m (pc + 1) ls st)) : W p l e Rm s m args below meth cd H locs cells slots Q (F0 m pc ls (w :: .int 0 :: .ref oa :: st)) := by
  obtain ⟨cA, g1, g2, g3⟩ := hO
  have z0 : (0 : Int32).toNatClampNeg = 0 := by decide
  have hin : ¬ ((0 : Int32) < 0 ∨ (arrV cA 1 (fun _ => v)).slots.size ≤ (0 : Int32).toNatClampNeg) := by
    rw [arrV_size, z0]
    intro q
    rcases q with q | q
    · exact absurd q (by decide)
    · omega
  rcases h with ⟨rfl, hd, z, rfl⟩ | ⟨rfl, hd, z, rfl⟩
  · refine W.last (j := 0) (x := z) hx hb g1 (g2 1 (fun _ => v)) (fun q => by cases q) hin rfl rfl (wIn_of hd) fun H' e1 e2 e3 => ?_
    rw [z0] at e1 ⊢
    refine kk H' e2 e3 ⟨cA, ?_, g2, g3⟩
    rw [e1, arrV_store]
    exact congrArg some (arrV_cg rfl)
  · refine W.dast (j := 0) (x := z) hx hb g1 (g2 1 (fun _ => v)) (fun q => by cases q) hin rfl rfl (wIn_of hd) fun H' e1 e2 e3 => ?_
    rw [z0] at e1 ⊢
    refine kk H' e2 e3 ⟨cA, ?_, g2, g3⟩
    rw [e1, arrV_store]
    exact congrArg some (arrV_cg rfl)
/-- the law's method y: it calls q on the planner br, lays what comes into oa, gives 0 back; or what its handlers say -/
theorem wr_met {y : MethodName} {nL hz oa br n' ix p1 pcS pE : Nat} {xs : List Int32} {hh : List (Nat × Nat × Nat × Nat)} {hs : List (String × Int)} {o : Value ⊕ String} {f : Value → Value} {ty : FieldType} {v0 : Value} (hy : y.cls = RL) (htr : l.stackTraces = false)
    (c1 : (wLd cc 0 1 (xs.length + 1) p1 && (wIn cc p1 (.iconst 0) 1 && (wLd cc (p1 + 1) 1 0 (p1 + 2) && (wLds cc (p1 + 2) 1 xs.length pc && (wIn cc pc (.invokevirtual ix) 3 && (wGo cc (pcS + 1) pE && (wIn cc pE (.iconst 0) 1 && wIn cc (pE + 1) .ireturn 1))))))) = true)
    (c2 : hs.all (fun z => hOK cc pc nL z.1 z.2 hh) = true) (c3 : xs.length + 2 ≤ nL)
    (hq : q < mT.length) (hk : mK q = 1) (hC : mC q < 10) (hlink : Cond.methodLink RL ix (mY q) ∈ wAll) (hn : xs.length + 1 = mN q) (hle : xs.length + 1 ≤ mL q)
    (hsh : sh br = some (mC q, n')) (hso : sh oa = none) (hoz : oa < hz) (hA : ∀ x, hz ≤ x → A x) (hoA : A oa)
    (hv : V K J q 0 (ent (mL q) (.ref br :: xs.map Value.int)) [] sh I R (0, 0) (fun o' sh' I'' R'' => o' = voV o ∧ sh' = sh ∧ I'' = I' ∧ R'' = R'))
    (hcv : ∀ r, o = .inl r → CONV cc (pc + 3) pcS r (f r) ∧ STO cc pcS ty (f r)) (hex : ∀ E, o = .inr E → ∃ z, (E, z) ∈ hs) :
    Met l y (wWs y cc nL hh) (wRm q) (va_Pc (.ref br :: xs.map Value.int ++ [Value.ref oa]) (PcW K J D A hz sh I R oa ty v0)) (va_Qi (OW o hs f v0) (BW D A sh I' R' oa ty) A) (mCe q) (mSl q) A := by
  refine met_ofWH (cc := cc) (maxL := nL) (ret := some .int) (hh := hh) (by rw [hy]; decide) rfl ?_
  intro p e s m args below meth cd s₁ B hml hv'
  obtain ⟨rfl, ⟨hsz, hK, hB, hP⟩, hO, hN⟩ := hv'
  have hts0 := atoms_spec (ws := wWs y cc nL hh) B.pre
  have htab := vx_table (x := y) B (hts0 _ List.mem_cons_self)
  have hown : s.vm.findClass RL = some m.cls := by rw [← hy]; exact findClass_of_methodNamed B.named
  have S : CallFix p m cd cc nL s (.ref br :: xs.map Value.int ++ [Value.ref oa] : List Value).toArray wAll RL := ⟨B.exec, B.bytes, hml, hown, fun w hw => hts0 w (List.mem_cons_of_mem _ hw)⟩
  simp only [Bool.and_eq_true] at c1
  obtain ⟨d1, d2, d3, d4, d5, d6, d7, d8⟩ := c1
  have hcat : (Value.ref br :: xs.map Value.int ++ [Value.ref oa]).all (fun v => v.category == 1) = true := by
    rw [List.all_append, List.all_cons, List.all_map]
    simp only [Bool.and_eq_true]
    refine ⟨⟨rfl, ?_⟩, rfl⟩
    rw [List.all_eq_true]
    intro x _
    rfl
  have hcat2 : (Value.ref br :: xs.map Value.int).all (fun v => v.category == 1) = true := by
    rw [List.all_append, Bool.and_eq_true] at hcat
    exact hcat.1
  have hlen : (entA (Value.ref br :: xs.map Value.int ++ [Value.ref oa])).length = xs.length + 2 := by
    rw [entA_map _ hcat]
    simp
  have hl := lv_entry (Value.ref br :: xs.map Value.int ++ [Value.ref oa]) (n := nL) (by rw [lg_len, hlen]; exact c3)
  rw [lg_entry_eq]
  generalize (lg_sl (Value.ref br :: xs.map Value.int ++ [Value.ref oa]) ++ List.replicate (nL - (lg_sl (Value.ref br :: xs.map Value.int ++ [Value.ref oa])).length) Slot.unset).toArray = ls at hl ⊢
  have lat : ∀ (i : Nat) (v : Value), (Value.ref br :: xs.map Value.int ++ [Value.ref oa])[i]? = some v → ls[i]? = some (.val v) := fun i v hi => by
    have := ent_args (Value.ref br :: xs.map Value.int ++ [Value.ref oa]) 0 i v (by rw [entA_map _ hcat, List.getElem?_map, hi]; rfl)
    have := hl.2.2 _ this
    rw [Nat.zero_add] at this
    exact this
  refine wl_ld (t := 1) (i := xs.length + 1) (v := .ref oa) B.exec B.bytes d1 (lat _ _ (by rw [List.getElem?_append_right (by simp)]; simp)) rfl ?_
  refine lv_iconst (v := 0) B.exec B.bytes (wIn_of d2) rfl ?_
  refine wl_ld (t := 1) (i := 0) (v := .ref br) B.exec B.bytes d3 (lat 0 _ rfl) rfl ?_
  refine wl_lds B.exec B.bytes xs (p1 + 2) 1 _ d4 (fun j x hj => lat (1 + j) _ ?_) ?_
  · rw [Nat.add_comm 1 j, List.cons_append, List.getElem?_cons_succ, List.getElem?_append_left (by rw [List.length_map]; exact (List.getElem?_eq_some_iff.mp hj).1), List.getElem?_map, hj]
    rfl
  have hS0 : va_S A s.heap s.heap [] := va_S.rf
  refine lk_V (ix := ix) (q := q) (K := K) (J := J) (D := D) (A := A) (sh := sh) (I := I) (R := R) (br := br) (as := xs.map Value.int) (rest := [.int 0, .ref oa]) S (fun w hw => hw) htr hq hk hC hK hB (fun x hx => hA x (by omega)) hP hS0 hsh hlink (wIn_of d5) hl.1 (by rw [List.length_map]; exact hn) (by rw [entA_map _ hcat2]; simp; omega) hcat2 ⟨Nat.le_refl _, Nat.le_refl _⟩ ⟨Nat.le_of_eq (Nat.zero_add _), Nat.le_of_eq (Nat.zero_add _)⟩ (Nat.le_of_ble_eq_true rfl) rfl hv ?_ ?_
  · intro v sh' I'' R'' H1 locs1 hG hRP hS1 hz1 hk1
    obtain ⟨g1, rfl, rfl, rfl⟩ := hG
    have hoN : ¬ NA sh' s.heap oa := by
      intro h
      rcases h with ⟨y', hy'⟩ | h
      · rw [hso] at hy'; cases hy'
      · omega
    have hO1 : OUC s H1 oa ty v0 := hO.kept (hk1 oa (by omega) hoN)
    cases o with
    | inr E => cases g1
    | inl r =>
      cases g1
      obtain ⟨c5, c6⟩ := hcv r rfl
      refine c5 B.exec B.bytes ?_
      refine wl_sto B.exec B.bytes c6 hO1 fun H2 z2 o2 hO2 => ?_
      have hgo := wIn_of d6
      refine lv_goto (tgt := pE) B.exec B.bytes hgo (by omega) ?_
      refine lv_iconst (v := 0) B.exec B.bytes (wIn_of d7) rfl ?_
      have hS2 := hS1.put (k := 0) z2 o2 hoA
      have hRP2 : RP D s A sh' I'' R'' H2 := hRP.off (by omega) (fun a ha => o2 a (fun q => ha (by rw [q]; exact hso))) (fun a ha _ => by
        cases hy' : sh' a with
        | none => exact absurd hy' ha
        | some y' => exact (hP a y'.1 y'.2 hy').1)
      refine W.widen (k := mCe q) (n := mSl q) (by omega) (by omega) ?_
      exact W.iret B.exec B.bytes B.returns (fun t ht hW => ⟨⟨0, f r, rfl, ⟨rfl, rfl⟩, by rw [ht]; exact hO2.moved hW.alike, by rw [ht]; exact RP.moved hW.alike hRP2⟩, hS2.F ht⟩) hS2.2.2 (wIn_of d8) B.notSynchronized
  · intro E ce x9 sh' I'' R'' H1 locs1 hG hRP hS1 hz1 hk1 hce hcv' hcl
    obtain ⟨g1, rfl, rfl, rfl⟩ := hG
    have hoN : ¬ NA sh' s.heap oa := by
      intro h
      rcases h with ⟨y', hy'⟩ | h
      · rw [hso] at hy'; cases hy'
      · omega
    have hO1 : OUC s H1 oa ty v0 := hO.kept (hk1 oa (by omega) hoN)
    cases o with
    | inl r => cases g1
    | inr E' =>
      cases g1
      obtain ⟨z, hz'⟩ := hex E rfl
      have hc := List.all_eq_true.mp c2 _ hz'
      have hRP2 : RP D s A sh' I'' R'' H1 := hRP.off (Nat.le_refl _) (fun a ha => rfl) (fun a ha _ => by
        cases hy' : sh' a with
        | none => exact absurd hy' ha
        | some y' => exact (hP a y'.1 y'.2 hy').1)
      refine vx_widen (k := mCe q) (n := mSl q) (by omega) (by omega) ?_
      exact lk_catch (k := z) S B.returns B.notSynchronized htab hc hN hB.2.2.1 hce hcv' hcl hl (fun t ht hW => ⟨⟨Int32.ofInt z, v0, rfl, ⟨rfl, z, hz', rfl⟩, by rw [ht]; exact hO1.moved hW.alike, by rw [ht]; exact RP.moved hW.alike hRP2⟩, hS1.F ht⟩) hS1.2.2
end LAW
