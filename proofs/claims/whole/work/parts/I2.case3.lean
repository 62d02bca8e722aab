/-! STAGE 4: the case of a double; the cases without a catch -/
section LAW
variable {l : Launch} {K J : Nat → Nat} {p : Program} {e : Env} {Rm : Room} {s : State} {m : MethodId} {args : Array Value} {below : List Frame} {meth : Method} {cd : Code} {H : Heap} {locs : List Loc} {ls : Array Slot} {D : va_G} {sh : HS} {I I1 I2 : HI} {R R1 : HR} {cells slots pc pc' b L i : Nat} {Q : State → Prop} {st rest : List Value} {xs : Nat → Int32} {AD : Int → Nat} {o3 o4 : Nat}
def cDCk (p2 : Nat) : Bool := (wIn code (p2 + 3) (.dstore 7) 2 && (wLd code (p2 + 5) 1 2 (p2 + 6) && (wIn code (p2 + 6) (.invokevirtual 163) 3 && (wLd code (p2 + 9) 0 6 (p2 + 11) && (wIn code (p2 + 11) (.if_icmp .eq 5) 3 && (wLd code (p2 + 16) 0 6 (p2 + 18) && (wIn code (p2 + 18) (.ifCond .ne 35) 3 && (wLd code (p2 + 21) 1 4 (p2 + 23) && (wIn code (p2 + 23) (.iconst 0) 1 && (wIn code (p2 + 24) .daload 1 && (wIn code (p2 + 25) (.dload 7) 2 && (wIn code (p2 + 27) (.dcmp .l) 1 && wIn code (p2 + 28) (.ifCond .eq 25) 3)))))))))))) &&
  (wLd code (p2 + 31) 1 4 (p2 + 33) && (wIn code (p2 + 33) (.iconst 0) 1 && (wIn code (p2 + 34) .daload 1 && (wLd code (p2 + 35) 1 4 (p2 + 37) && (wIn code (p2 + 37) (.iconst 0) 1 && (wIn code (p2 + 38) .daload 1 && (wIn code (p2 + 39) (.dcmp .l) 1 && (wIn code (p2 + 40) (.ifCond .eq 11) 3 && (wIn code (p2 + 43) (.dload 7) 2 && (wIn code (p2 + 45) (.dload 7) 2 && (wIn code (p2 + 47) (.dcmp .l) 1 && (wIn code (p2 + 48) (.ifCond .ne 5) 3 && wGo code (p2 + 53) 2982))))))))))))
theorem case_D {P p1 p1' p2 ix1 ix2 ixw q1 q2 nL pw1 pcw pcS pE n : Nat} {y : MethodName} {cc : ByteArray} {hh : List (Nat × Nat × Nat × Nat)} {hs : List (String × Int)} {as : List Int32}
    (LC : LCX l K J p s m args cd D b L xs sh AD o3 o4) (hRm : 13 ≤ Rm.frames ∧ 478 ≤ Rm.locals) (hn : as.length = n)
    (hpc : (wLd code P 1 1 (P + 1) && (wLd code p1 1 4 p1' && (wIn code p1' (.invokestatic ix1) 3 && (wSt code (p1' + 3) 0 6 (p1' + 5) && (wLd code (p1' + 5) 1 2 (p1' + 6) && wIn code p2 (.invokevirtual ix2) 3))))) = true) (hpc2 : cDCk p2 = true)
    (hw : wCk cc n nL hh hs ixw pw1 pcw pcS pE = true) (hst : wIn cc pcS .dastore 1 = true) (hq : qCk q1 q2 n nL = true) (hy : y.cls = RL) (hpar : (parseMethodDescriptor y.desc).map (fun d => d.parameters.length) = some (n + 2))
    (hwd : wdCk [Cond.codeWith y cc nL (some .int) hh, Cond.initialized y.cls, Cond.methodLink RL ix1 y, Cond.static y, Cond.methodLink RL ixw (mY q1), Cond.methodLink RL ix2 (mY q2)] = true)
    (hpush1 : PUSHL p l e Rm s m args below meth cd b i (P + 1) p1 (as.map Value.int)) (hpush2 : PUSHL p l e Rm s m args below meth cd b i (p1' + 6) p2 (as.map Value.int))
    (hcv : ∀ x, CONV cc (pcw + 3) pcS (.double x) (.double x))
    (hstep : ∀ I R, SINV sh AD I R → STEPD K J sh AD I R q1 q2 (as.map Value.int) hs)
    (hd : LDY s D b i sh AD o3 o4 H locs ls) (hfit : cells + 5 ≤ Rm.cells ∧ slots + 30 ≤ Rm.slots)
    (kk : ∀ (H1 : Heap) (locs1 : List Loc) (ls1 : Array Slot), LDY s D b i sh AD o3 o4 H1 locs1 ls1 → W p l e Rm s m args below meth cd H1 locs1 (cells + 5) (slots + 30) Q (F0 m 2982 ls1 [])) :
    W p l e Rm s m args below meth cd H locs cells slots Q (F0 m P ls []) := by
  obtain ⟨I, R, z3, z4, hP, hO3, hO4, hS, hI, hl⟩ := hd
  obtain ⟨o, v, I1, I2, R1, r1, r2, ag, hI2⟩ := hstep I R hI
  have LC' := LC
  obtain ⟨⟨S, htr⟩, -, -, -, ⟨n3, n4, n34, a3, a4⟩⟩ := LC'
  have hx := S.1
  have hb := S.2.1
  rw [voD_voV] at r1
  unfold cDCk at hpc2
  simp only [Bool.and_eq_true] at hpc2
  obtain ⟨⟨d1, d2, d3, d4, d5, d6, d7, d8, d9, d10, d11, d12, d13⟩, k1, k2, k3, k4, k5, k6, k7, k8, k9, k10, k11, k12, k13⟩ := hpc2
  refine case_fr (o := toVD o) (f := fun r => r) (ty := .double) (v0 := .double z4) (r := .double v) (jo := 4) (oa := o4) LC hRm hn hpc hw hq hy hpar hwd hpush1 hpush2 (Or.inr ⟨rfl, rfl⟩) hP hO4 hS hl r1 r2 (fun r hr => ?_) (fun E hE => ?_) hfit ?_
  · cases o with
    | inl x => cases hr; exact ⟨hcv x, Or.inr ⟨rfl, hst, x, rfl⟩⟩
    | inr E => cases hr
  · cases o with
    | inl x => cases hE
    | inr E' => cases hE; exact ag.1
  intro k w H1 locs1 ls1 hOW hP1 hO1 hS1 hk1 hl1
  have hO31 : OUC s H1 o3 .long (.long z3) := hO3.kept (hk1 o3 n34 n3 hO3.lt)
  have hwl : ∃ z, w = .double z := by
    cases o with
    | inl x => exact ⟨x, hOW.2⟩
    | inr E => exact ⟨z4, hOW.1⟩
  obtain ⟨zw, rfl⟩ := hwl
  have hkt : I2 (AD 316) 5 = k := by
    cases o with
    | inl x => exact ag.1.trans hOW.1.symm
    | inr E =>
      obtain ⟨-, z, hz, rfl⟩ := hOW
      exact ag.2.1 z hz
  have hk0 : k = 0 → zw = v := by
    intro h0
    cases o with
    | inl x =>
      have w1 := hOW.2
      have w2 := ag.2
      simp only [Value.double.injEq] at w1
      rw [w1, w2]
    | inr E => exact absurd (hkt.trans h0) ag.2.2
  refine lv_dstore (lv' := (7, .double v) :: (6, .int k) :: bas b (AD 0) (AD 316) o3 o4 i) hx hb (wIn_of d1) hl1 (by decide) rfl (fun ls2 hl2 => ?_)
  refine wl_ld (t := 1) (i := 2) (v := .ref (AD 316)) hx hb d2 (lv_at hl2 4 rfl) rfl ?_
  refine lw_thr LC hRm hI2 hP1 hS1 hl2 d3 hfit ?_
  intro H2 locs2 hP2 hS2 hz2 hk2
  have hO42 := hO1.kept (hk2 o4 n4 hO1.lt)
  have hO32 := hO31.kept (hk2 o3 n3 hO31.lt)
  have fin : W p l e Rm s m args below meth cd H2 locs2 (cells + 5) (slots + 30) Q (F0 m (p2 + 53) ls2 []) := by
    refine lv_goto (tgt := 2982) hx hb (wIn_of k13) (by omega) ?_
    exact kk H2 locs2 ls2 ⟨I2, R1, z3, zw, hP2, hO32, hO42, hS2, hI2, lv_sub hl2 [2, 3, 4, 5, 6, 7] rfl⟩
  refine wl_ld (t := 0) (i := 6) (v := .int k) hx hb d4 (lv_at hl2 1 rfl) rfl ?_
  refine lv_icmp_eq (tgt := p2 + 16) hx hb (wIn_of d5) (by omega) (fun _ => ?_) (fun h => absurd hkt h)
  refine wl_ld (t := 0) (i := 6) (v := .int k) hx hb d6 (lv_at hl2 1 rfl) rfl ?_
  refine lv_if_ne (tgt := p2 + 53) hx hb (wIn_of d7) (by omega) (fun _ => fin) (fun h => ?_)
  have ez := hk0 (by simpa using h)
  subst ez
  refine wl_ld (t := 1) (i := 4) (v := .ref o4) hx hb d8 (lv_at hl2 6 rfl) rfl ?_
  refine lv_iconst (v := 0) hx hb (wIn_of d9) rfl ?_
  refine wl_dld hx hb hO42 d10 ?_
  refine lv_dload hx hb (wIn_of d11) (lv_at hl2 0 rfl) ?_
  refine lv_dcmp hx hb (wIn_of d12) ?_
  refine lv_if_eq (tgt := p2 + 53) hx hb (wIn_of d13) (by omega) (fun _ => fin) (fun hne => ?_)
  refine wl_ld (t := 1) (i := 4) (v := .ref o4) hx hb k1 (lv_at hl2 6 rfl) rfl ?_
  refine lv_iconst (v := 0) hx hb (wIn_of k2) rfl ?_
  refine wl_dld hx hb hO42 k3 ?_
  refine wl_ld (t := 1) (i := 4) (v := .ref o4) hx hb k4 (lv_at hl2 6 rfl) rfl ?_
  refine lv_iconst (v := 0) hx hb (wIn_of k5) rfl ?_
  refine wl_dld hx hb hO42 k6 ?_
  refine lv_dcmp hx hb (wIn_of k7) ?_
  refine lv_if_eq (tgt := p2 + 51) hx hb (wIn_of k8) (by omega) (fun h => absurd h hne) (fun _ => ?_)
  refine lv_dload hx hb (wIn_of k9) (lv_at hl2 0 rfl) ?_
  refine lv_dload hx hb (wIn_of k10) (lv_at hl2 0 rfl) ?_
  refine lv_dcmp hx hb (wIn_of k11) ?_
  exact lv_if_ne (tgt := p2 + 53) hx hb (wIn_of k12) (by omega) (fun _ => fin) (fun h => absurd (by simpa using h) hne)
def qNk (q1 q2 : Nat) : Bool := (decide (q1 < mT.length) && (decide (mK q1 = 1) && (decide (mC q1 = 8) && (decide (mN q1 = 1) && (decide (1 ≤ mL q1) && (decide (mFr q1 + 1 ≤ 13) && (decide (8 + (mL q1 + 11) + mLo q1 ≤ 478) && (decide (mCe q1 = 0) && decide (mSl q1 = 0))))))))) &&
  (decide (q2 < mT.length) && (decide (mK q2 = 1) && (decide (mC q2 = 9) && (decide (mN q2 = 1) && (decide (1 ≤ mL q2) && (decide (mFr q2 + 1 ≤ 13) && (decide (8 + (mL q2 + 11) + mLo q2 ≤ 478) && (decide (mCe q2 = 0) && decide (mSl q2 = 0)))))))))
theorem case_N {P ix1 ix2 q1 q2 : Nat} (LC : LCX l K J p s m args cd D b L xs sh AD o3 o4) (hRm : 13 ≤ Rm.frames ∧ 478 ≤ Rm.locals)
    (hpc : (wLd code P 1 1 (P + 1) && (wIn code (P + 1) (.invokevirtual ix1) 3 && (wLd code (P + 4) 1 2 (P + 5) && (wIn code (P + 5) (.invokevirtual ix2) 3 && wIn code (P + 8) (.if_icmp .eq ((2982 : Int) - ((P : Int) + 8))) 3)))) = true)
    (hq : qNk q1 q2 = true) (hwd : wdCk [Cond.methodLink RL ix1 (mY q1), Cond.methodLink RL ix2 (mY q2)] = true)
    (hstep : ∀ I R, SINV sh AD I R → STEPN K J sh AD I R q1 q2)
    (hd : LDY s D b i sh AD o3 o4 H locs ls) (hfit : cells + 5 ≤ Rm.cells ∧ slots + 30 ≤ Rm.slots)
    (kk : ∀ (H1 : Heap) (locs1 : List Loc) (ls1 : Array Slot), LDY s D b i sh AD o3 o4 H1 locs1 ls1 → W p l e Rm s m args below meth cd H1 locs1 (cells + 5) (slots + 30) Q (F0 m 2982 ls1 [])) :
    W p l e Rm s m args below meth cd H locs cells slots Q (F0 m P ls []) := by
  obtain ⟨I, R, z3, z4, hP, hO3, hO4, hS, hI, hl⟩ := hd
  obtain ⟨v, I1, I2, R1, r1, r2, hI2⟩ := hstep I R hI
  obtain ⟨⟨S, htr⟩, ⟨hK, hB, hN⟩, ⟨hX, hbl, hL⟩, ⟨hs0, hsm⟩, ⟨n3, n4, n34, a3, a4⟩⟩ := LC
  have hx := S.1
  have hb := S.2.1
  simp only [Bool.and_eq_true] at hpc
  obtain ⟨d1, d2, d3, d4, d5⟩ := hpc
  unfold qNk at hq
  simp only [Bool.and_eq_true, decide_eq_true_eq] at hq
  obtain ⟨⟨e1, e2, e3, e4, e5, e6, e7, e8, e9⟩, f1, f2, f3, f4, f5, f6, f7, f8, f9⟩ := hq
  refine W.widen (k := cells + 5) (n := slots + 30) (by omega) (by omega) ?_
  refine wl_ld (t := 1) (i := 1) (v := .ref (AD 0)) hx hb d1 (lv_at hl 1 rfl) rfl ?_
  refine lw_call (K := K) (J := J) (D := D) (sh := sh) (I := I) (I' := I1) (R := R) (R' := R1) (q := q1) (br := AD 0) (n' := 14) (ix := ix1) (as := []) (r := .int v) (rest := []) S htr e1 e2 (by omega) hK hB hP hS (by rw [e3]; exact hs0) (wdCk_of hwd (by simp)) (wIn_of d2) hl.1 (by rw [e4]; rfl) e5 rfl ⟨by omega, by omega⟩ ⟨by omega, by omega⟩ (Nat.le_of_ble_eq_true rfl) rfl r1 ?_
  intro H1 locs1 hP1 hS1 hz1 hk1
  rw [e8, e9]
  refine wl_ld (t := 1) (i := 2) (v := .ref (AD 316)) hx hb d3 (lv_at hl 2 rfl) rfl ?_
  refine lw_call (K := K) (J := J) (D := D) (sh := sh) (I := I1) (I' := I2) (R := R1) (R' := R1) (q := q2) (br := AD 316) (n' := 29) (ix := ix2) (as := []) (r := .int v) (rest := [.int v]) S htr f1 f2 (by omega) hK hB hP1 hS1 (by rw [f3]; exact hsm) (wdCk_of hwd (by simp)) (wIn_of d4) hl.1 (by rw [f4]; rfl) f5 rfl ⟨by omega, by omega⟩ ⟨by omega, by omega⟩ (Nat.le_of_ble_eq_true rfl) rfl r2 ?_
  intro H2 locs2 hP2 hS2 hz2 hk2
  rw [f8, f9]
  refine lv_icmp_eq (tgt := 2982) hx hb (wIn_of d5) (by omega) (fun _ => ?_) (fun h => absurd rfl h)
  exact kk H2 locs2 ls ⟨I2, R1, z3, z4, hP2, (hO3.kept (hk1 o3 n3 hO3.lt)).kept (hk2 o3 n3 (by have := hO3.lt; omega)), (hO4.kept (hk1 o4 n4 hO4.lt)).kept (hk2 o4 n4 (by have := hO4.lt; omega)), hS2, hI2, hl⟩
end LAW
