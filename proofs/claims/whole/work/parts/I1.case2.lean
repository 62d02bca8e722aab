/-! STAGE 4: whole cases: a number, a double, none that catches -/
section LAW
variable {l : Launch} {K J : Nat → Nat} {p : Program} {e : Env} {Rm : Room} {s : State} {m : MethodId} {args : Array Value} {below : List Frame} {meth : Method} {cd : Code} {H : Heap} {locs : List Loc} {ls : Array Slot} {D : va_G} {sh : HS} {I I1 I2 : HI} {R R1 : HR} {cells slots pc pc' b L i : Nat} {Q : State → Prop} {st rest : List Value} {xs : Nat → Int32} {AD : Int → Nat} {o3 o4 : Nat}
theorem wl_lld {oa : Nat} {w : Value} (hx : p.tables.exec = Jvm.exec) (hb : cd.code = code) (hO : OUC s H oa .long w) (hd : wIn code pc .laload 1 = true) (kk : W p l e Rm s m args below meth cd H locs cells slots Q (F0 m (pc + 1) ls (w :: st))) : W p l e Rm s m args below meth cd H locs cells slots Q (F0 m pc ls (.int 0 :: .ref oa :: st)) := by
  obtain ⟨cA, g1, g2, g3⟩ := hO
  have z0 : (0 : Int32).toNatClampNeg = 0 := by decide
  refine W.lald (j := 0) (v := w) hx hb g1 (g2 1 (fun _ => w)) (fun q => by cases q) ?_ (by rw [z0, arrV_read _ _ (by decide)]) rfl rfl (wIn_of hd) kk
  rw [arrV_size, z0]
  intro q
  rcases q with q | q
  · exact absurd q (by decide)
  · omega
theorem wl_dld {oa : Nat} {w : Value} (hx : p.tables.exec = Jvm.exec) (hb : cd.code = code) (hO : OUC s H oa .double w) (hd : wIn code pc .daload 1 = true) (kk : W p l e Rm s m args below meth cd H locs cells slots Q (F0 m (pc + 1) ls (w :: st))) : W p l e Rm s m args below meth cd H locs cells slots Q (F0 m pc ls (.int 0 :: .ref oa :: st)) := by
  obtain ⟨cA, g1, g2, g3⟩ := hO
  have z0 : (0 : Int32).toNatClampNeg = 0 := by decide
  refine W.dald (j := 0) (v := w) hx hb g1 (g2 1 (fun _ => w)) (fun q => by cases q) ?_ (by rw [z0, arrV_read _ _ (by decide)]) rfl rfl (wIn_of hd) kk
  rw [arrV_size, z0]
  intro q
  rcases q with q | q
  · exact absurd q (by decide)
  · omega
def q149 : Bool := decide (149 < mT.length) && (decide (mK 149 = 1) && (decide (mC 149 = 9) && (decide (mN 149 = 1) && (decide (1 ≤ mL 149) && (decide (mFr 149 + 1 ≤ 13) && (decide (8 + (mL 149 + 11) + mLo 149 ≤ 478) && (decide (mCe 149 = 0) && decide (mSl 149 = 0))))))))
theorem q149_ok : q149 = true := by decide +kernel
theorem w163_ok : wdCk [Cond.methodLink RL 163 (mY 149)] = true := by decide +kernel
/-- thrown() is asked -/
theorem lw_thr {LV : List (Nat × Value)} (LC : LCX l K J p s m args cd D b L xs sh AD o3 o4) (hRm : 13 ≤ Rm.frames ∧ 478 ≤ Rm.locals) (hI : SINV sh AD I R) (hP : RP D s (lA s) sh I R H) (hS : va_S (lA s) s.heap H locs) (hl : lv_has ls 9 LV) (hd : wIn code pc (.invokevirtual 163) 3 = true) (hfit : cells ≤ Rm.cells ∧ slots ≤ Rm.slots)
    (kk : ∀ (H1 : Heap) (locs1 : List Loc), RP D s (lA s) sh I R H1 → va_S (lA s) s.heap H1 locs1 → H.size ≤ H1.size → (∀ ob : Nat, sh ob = none → ob < H.size → H1[ob]? = H[ob]?) → W p l e Rm s m args below meth cd H1 locs1 cells slots Q (F0 m (pc + 3) ls [.int (I (AD 316) 5)])) :
    W p l e Rm s m args below meth cd H locs cells slots Q (F0 m pc ls [.ref (AD 316)]) := by
  obtain ⟨⟨S, htr⟩, ⟨hK, hB, hN⟩, ⟨hX, hbl, hL⟩, ⟨hs0, hsm⟩, -⟩ := LC
  have hq := q149_ok
  unfold q149 at hq
  simp only [Bool.and_eq_true, decide_eq_true_eq] at hq
  obtain ⟨f1, f2, f3, f4, f5, f6, f7, f8, f9⟩ := hq
  refine lw_call (K := K) (J := J) (D := D) (sh := sh) (I := I) (I' := I) (R := R) (R' := R) (q := 149) (br := AD 316) (n' := 29) (ix := 163) (as := []) (r := .int (I (AD 316) 5)) (rest := []) S htr f1 f2 (by omega) hK hB hP hS (by rw [f3]; exact hsm) (wdCk_of w163_ok (by simp)) (wIn_of hd) hl.1 (by rw [f4]; rfl) f5 rfl ⟨by omega, by omega⟩ ⟨by omega, by omega⟩ (Nat.le_of_ble_eq_true rfl) rfl (sx_thrown hI) ?_
  intro H1 locs1 h1 h2 h3 h4
  rw [f8, f9]
  exact kk H1 locs1 h1 h2 h3 h4
def cICk (p2 pB : Nat) : Bool := wSt code (p2 + 3) 0 7 (p2 + 5) && (wLd code (p2 + 5) 1 2 (p2 + 6) && (wIn code (p2 + 6) (.invokevirtual 163) 3 && (wLd code (p2 + 9) 0 6 (p2 + 11) && (wIn code (p2 + 11) (.if_icmp .eq 5) 3 && (wLd code (p2 + 16) 0 6 (p2 + 18) && (wIn code (p2 + 18) (.ifCond .ne ((pB : Int) + 6 - ((p2 : Int) + 18))) 3 && (wLd code (p2 + 21) 1 3 (p2 + 22) && (wIn code (p2 + 22) (.iconst 0) 1 && (wIn code (p2 + 23) .laload 1 && (wLd code (p2 + 24) 0 7 (p2 + 26) && (wIn code pB .lcmp 1 && (wIn code (pB + 1) (.ifCond .eq 5) 3 && wGo code (pB + 6) 2982))))))))))))
theorem case_I {P p1 p1' p2 pB ix1 ix2 ixw q1 q2 nL pw1 pcw pcS pE n : Nat} {y : MethodName} {cc : ByteArray} {hh : List (Nat × Nat × Nat × Nat)} {hs : List (String × Int)} {as : List Int32} {g : Int32 → Int64}
    (LC : LCX l K J p s m args cd D b L xs sh AD o3 o4) (hRm : 13 ≤ Rm.frames ∧ 478 ≤ Rm.locals) (hn : as.length = n)
    (hpc : (wLd code P 1 1 (P + 1) && (wLd code p1 1 3 p1' && (wIn code p1' (.invokestatic ix1) 3 && (wSt code (p1' + 3) 0 6 (p1' + 5) && (wLd code (p1' + 5) 1 2 (p1' + 6) && wIn code p2 (.invokevirtual ix2) 3))))) = true) (hpc2 : cICk p2 pB = true)
    (hw : wCk cc n nL hh hs ixw pw1 pcw pcS pE = true) (hst : wIn cc pcS .lastore 1 = true) (hq : qCk q1 q2 n nL = true) (hy : y.cls = RL) (hpar : (parseMethodDescriptor y.desc).map (fun d => d.parameters.length) = some (n + 2))
    (hwd : wdCk [Cond.codeWith y cc nL (some .int) hh, Cond.initialized y.cls, Cond.methodLink RL ix1 y, Cond.static y, Cond.methodLink RL ixw (mY q1), Cond.methodLink RL ix2 (mY q2)] = true)
    (hpush1 : PUSHL p l e Rm s m args below meth cd b i (P + 1) p1 (as.map Value.int)) (hpush2 : PUSHL p l e Rm s m args below meth cd b i (p1' + 6) p2 (as.map Value.int))
    (hcv : ∀ x, CONV cc (pcw + 3) pcS (.int x) (.long (g x))) (hcl : ∀ x, CONV code (p2 + 26) pB (.int x) (.long (g x)))
    (hstep : ∀ I R, SINV sh AD I R → STEP K J sh AD I R q1 q2 (as.map Value.int) hs)
    (hd : LDY s D b i sh AD o3 o4 H locs ls) (hfit : cells + 5 ≤ Rm.cells ∧ slots + 30 ≤ Rm.slots)
    (kk : ∀ (H1 : Heap) (locs1 : List Loc) (ls1 : Array Slot), LDY s D b i sh AD o3 o4 H1 locs1 ls1 → W p l e Rm s m args below meth cd H1 locs1 (cells + 5) (slots + 30) Q (F0 m 2982 ls1 [])) :
    W p l e Rm s m args below meth cd H locs cells slots Q (F0 m P ls []) := by
  obtain ⟨I, R, z3, z4, hP, hO3, hO4, hS, hI, hl⟩ := hd
  obtain ⟨o, v, I1, I2, R1, r1, r2, ag, hI2⟩ := hstep I R hI
  have LC' := LC
  obtain ⟨⟨S, htr⟩, -, -, -, ⟨n3, n4, n34, a3, a4⟩⟩ := LC'
  have hx := S.1
  have hb := S.2.1
  rw [voI_voV] at r1
  unfold cICk at hpc2
  simp only [Bool.and_eq_true] at hpc2
  obtain ⟨d1, d2, d3, d4, d5, d6, d7, d8, d9, d10, d11, d12, d13, d14⟩ := hpc2
  refine case_fr (o := toV o) (f := flg g) (ty := .long) (v0 := .long z3) (r := .int v) (jo := 3) (oa := o3) LC hRm hn hpc hw hq hy hpar hwd hpush1 hpush2 (Or.inl ⟨rfl, rfl⟩) hP hO3 hS hl r1 r2 (fun r hr => ?_) (fun E hE => ?_) hfit ?_
  · cases o with
    | inl x => cases hr; exact ⟨hcv x, Or.inl ⟨rfl, hst, g x, rfl⟩⟩
    | inr E => cases hr
  · cases o with
    | inl x => cases hE
    | inr E' => cases hE; exact ag.1
  intro k w H1 locs1 ls1 hOW hP1 hO1 hS1 hk1 hl1
  have hO41 : OUC s H1 o4 .double (.double z4) := hO4.kept (hk1 o4 (fun h => n34 h.symm) n4 hO4.lt)
  have hwl : ∃ z, w = .long z := by
    cases o with
    | inl x => exact ⟨g x, hOW.2⟩
    | inr E => exact ⟨z3, hOW.1⟩
  obtain ⟨zw, rfl⟩ := hwl
  have hkt : I2 (AD 316) 5 = k := by
    cases o with
    | inl x => exact ag.1.trans hOW.1.symm
    | inr E =>
      obtain ⟨-, z, hz, rfl⟩ := hOW
      exact ag.2.1 z hz
  have hk0 : k = 0 → ∃ x, zw = g x ∧ v = x := by
    intro h0
    cases o with
    | inl x => exact ⟨x, by have := hOW.2; simpa [flg] using this, ag.2⟩
    | inr E => exact absurd (hkt.trans h0) ag.2.2
  refine wl_st (t := 0) (i := 7) (v := .int v) (lv' := (7, .int v) :: (6, .int k) :: bas b (AD 0) (AD 316) o3 o4 i) hx hb d1 rfl (by decide) hl1 (by decide) rfl (fun ls2 hl2 => ?_)
  refine wl_ld (t := 1) (i := 2) (v := .ref (AD 316)) hx hb d2 (lv_at hl2 4 rfl) rfl ?_
  refine lw_thr LC hRm hI2 hP1 hS1 hl2 d3 hfit ?_
  intro H2 locs2 hP2 hS2 hz2 hk2
  have hO32 := hO1.kept (hk2 o3 n3 hO1.lt)
  have hO42 := hO41.kept (hk2 o4 n4 hO41.lt)
  have fin : W p l e Rm s m args below meth cd H2 locs2 (cells + 5) (slots + 30) Q (F0 m (pB + 6) ls2 []) := by
    refine lv_goto (tgt := 2982) hx hb (wIn_of d14) (by omega) ?_
    exact kk H2 locs2 ls2 ⟨I2, R1, zw, z4, hP2, hO32, hO42, hS2, hI2, lv_sub hl2 [2, 3, 4, 5, 6, 7] rfl⟩
  refine wl_ld (t := 0) (i := 6) (v := .int k) hx hb d4 (lv_at hl2 1 rfl) rfl ?_
  refine lv_icmp_eq (tgt := p2 + 16) hx hb (wIn_of d5) (by omega) (fun _ => ?_) (fun h => absurd hkt h)
  refine wl_ld (t := 0) (i := 6) (v := .int k) hx hb d6 (lv_at hl2 1 rfl) rfl ?_
  refine lv_if_ne (tgt := pB + 6) hx hb (wIn_of d7) (by omega) (fun _ => fin) (fun h => ?_)
  obtain ⟨x, rfl, rfl⟩ := hk0 (by simpa using h)
  refine wl_ld (t := 1) (i := 3) (v := .ref o3) hx hb d8 (lv_at hl2 5 rfl) rfl ?_
  refine lv_iconst (v := 0) hx hb (wIn_of d9) rfl ?_
  refine wl_lld hx hb hO32 d10 ?_
  refine wl_ld (t := 0) (i := 7) (v := .int v) hx hb d11 (lv_at hl2 0 rfl) rfl ?_
  refine hcl v hx hb ?_
  refine W.lcmp hx hb (wIn_of d12) ?_
  rw [(lg_cmp_eq (g v) (g v)).mpr rfl]
  exact lv_if_eq (tgt := pB + 6) hx hb (wIn_of d13) (by omega) (fun _ => fin) (fun h => absurd rfl h)
end LAW
