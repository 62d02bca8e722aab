/-! THE LAW, STAGE 2: wrong texts -/
theorem t0_B : (decide ((ld0 (fun _ => 0) 0).1.er = 1) && decide ((ld0 (fun _ => 0) 0).1.st = 0)) = true := by decide +kernel
theorem ld_t0 : (ldX (fun _ => 0) 0).1.er = 1 ∧ (ldX (fun _ => 0) 0).1.st = 0 := by
  have h := t0_B
  rw [Bool.and_eq_true, decide_eq_true_eq, decide_eq_true_eq] at h
  rw [ldX_eq (Y := ld0 (fun _ => 0) 0) ⟨0, rfl⟩ (Or.inl (by rw [h.1]; decide))]
  exact h
section WG
variable {K J : Nat → Nat} {fu : Nat} {sh sh' : HS} {I I' : HI} {R R' : HR} {A : Nat → Nat} {cap : Nat} {S : List Nat} {ρ : RHO} {σ : STT} {AD : Int → Nat} {T : List Int}
theorem PLS.ep (S : PLS sh I R σ AD) : fX10_errorPosition fu sh I R (AD 0) = some (iz σ.2.2.2.2.2.1) := by
  obtain ⟨s1, s2, s3, s4⟩ := S
  obtain ⟨P, C, Kn⟩ := s4 AD (AGR6.rf AD) s2
  have h0 := s1 0 (by decide) (by decide)
  have hk : sh (AD 0) = some (8, 14) := h0
  unfold fX10_errorPosition
  rw [if_pos (isT_of hk), oI_at hk, C.2.2.1.2.1]
  rfl
theorem PLS.nb (S : PLS sh I R σ AD) (h : σ.1 = false) (hfu : 5000 ≤ fu) : fX10_faults fu sh I R (AD 0) = some (.inr "java/lang/IllegalStateException") := by
  have := S.ask (f := fun I => fX10_faults fu sh I R (AD 0)) (fun P O => cq_faults O S.V hfu)
  unfold aBoard at this
  rw [if_neg (by rw [h]; decide)] at this
  exact this
/-- a wrong text loaded: the code, the place, no board -/
theorem PLS.bad (S : PLS sh I R (setT σ T.length (gTx T)) AD) (h : σ.1 = false) (hfu : 5000 ≤ fu) (hn : ¬ (ldX (gTx T) T.length).1.er = 0) : ∃ I' R' σ', fX10_load fu sh I R (AD 0) = some (iz (-10 - ((ldX (gTx T) T.length).1.er : Int)), (I', R')) ∧ PLS sh I' R' σ' AD ∧ σ'.1 = false ∧ σ'.2.2.2.1 = 0 ∧ σ'.2.2.2.2.2.1 = ((ldX (gTx T) T.length).1.st : Int) ∧ ∀ b, FGN AD b → I' b = I b ∧ R' b = R b := by
  obtain ⟨I', R', e, S', f⟩ := S.load hfu
  have hv : vLoad (setT σ T.length (gTx T)) = -10 - ((ldX (gTx T) T.length).1.er : Int) := if_neg hn
  have hs : sLoad (setT σ T.length (gTx T)) = (σ.1, σ.2.1, σ.2.2.1, 0, gTx T, ((ldX (gTx T) T.length).1.st : Int), σ.2.2.2.2.2.2) := if_neg hn
  rw [hv] at e
  rw [hs] at S'
  exact ⟨I', R', _, e, S', h, rfl, rfl, f⟩
theorem l_wrong {v : Int} {P : Int32 → HS → HI → HR → Prop} (B : LBD sh I R K A cap S ρ) (V : VB ρ) (W : OLW sh I R K) (hfu : 5000 ≤ fu) (hv : 0 ≤ v ∧ v ≤ 2147483647)
    (hP : ∀ sh' I' R', EXH (fun _ => False) sh I R sh' I' R' → P 1 sh' I' R') : wL_wrongHolds K J fu sh I R (A 0) (iz v) (qwI P) := by
  have m := V.m
  have h7 := cod_7
  unfold wL_wrongHolds
  refine ⟨⟨by decide, by decide⟩, fun a2 ha2 => ⟨⟨by decide, by decide⟩, u1_on, fun g b A' B' s x y h sh4 I4 R4 hPN => ?_⟩⟩
  obtain ⟨AD, ad0, S0, fr, E0⟩ := pl_new ha2 hPN
  subst ad0
  -- nothing to load
  obtain ⟨I5, R5, el5, SL5, fl5⟩ := S0.load hfu
  have z0 := ld_t0
  have hv5 : vLoad sig0 = -11 := by
    show (if (ldX (fun _ => 0) 0).1.er = 0 then _ else -10 - ((ldX (fun _ => 0) 0).1.er : Int)) = -11
    rw [z0.1, if_neg (by decide)]
    rfl
  have hs5 : sLoad sig0 = (false, fun _ => 0, [], 0, fun _ => 0, 0, 0, fun _ => 0) := by
    show (if (ldX (fun _ => 0) 0).1.er = 0 then _ else (false, fun _ => 0, [], 0, fun _ => 0, ((ldX (fun _ => 0) 0).1.st : Int), 0, fun _ => 0)) = _
    rw [z0.1, if_neg (by decide), z0.2]
    rfl
  rw [hv5] at el5
  rw [hs5] at SL5
  have E5 : EXH (fun _ => False) sh I R sh4 I5 R5 := EXH.pl fr E0 (⟨fun _ _ => rfl, fun y _ hy => fl5 y (Classical.not_not.mp hy)⟩ : EXH (XF9 AD) sh4 I4 R4 sh4 I5 R5)
  refine ⟨⟨by decide, by decide⟩, wB_of el5 ?_⟩
  rw [if_pos (show iz (-11) = -11 by decide)]
  refine ⟨⟨by decide, by decide⟩, wB_of SL5.ep ?_⟩
  rw [if_pos (show iz 0 = 0 from il0.symm)]
  refine ⟨⟨by decide, by decide⟩, wB_of (SL5.nb rfl hfu) ⟨rfl, ?_⟩⟩
  rw [if_neg (by decide)]
  -- the text, cut in two
  have B5 := B.ex0 E5
  refine ⟨B5.r, ⟨by decide, by decide⟩, l_said B5 V (W.ex0 E5) hfu (fun t sh6 I6 R6 e6 Q hvl => ?_)⟩
  obtain ⟨vt, hvt, kvt⟩ := hvl
  have hlen := len_all V (c := (ρ 3).toNat) (by omega)
  have hchr := CHR.sc V (ρ 3).toNat (by omega)
  have hpos : 0 < (scT ρ (ρ 3).toNat).length := by
    have : ∀ c : Nat, 0 < (scT ρ c).length := by
      intro c
      induction c with
      | zero =>
        show 0 < (txL ρ).length
        unfold txL
        rw [List.length_append, cod_n.2.1]
        omega
      | succ c ih =>
        show 0 < (scT ρ c ++ _).length
        rw [List.length_append]
        omega
    exact this _
  generalize hT : scT ρ (ρ 3).toNat = T at *
  have E6 : EXH (fun _ => False) sh I R sh6 I6 R6 := E5.tr e6 (fun _ _ z => z)
  have S6 : PLS sh6 I6 R6 (false, fun _ => 0, [], 0, fun _ => 0, 0, 0, fun _ => 0) AD := SL5.fr (fun i i0 i1 => by
    have hn := nnk (SL5.1 i i0 i1)
    exact ⟨e6.1 _ hn, e6.2 _ hn (fun z => z)⟩)
  refine ⟨Q.rcv, ⟨by decide, by decide⟩, l_strlen Q ?_⟩
  refine wB_of (oM_l rfl hv.1 hv.2 (by omega) (by omega)) ?_
  have a0 := Int.emod_nonneg v (show ¬ (T.length : Int) = 0 by omega)
  have a1 := Int.emod_lt_of_pos v (show (0 : Int) < T.length by omega)
  obtain ⟨at9, hat⟩ : ∃ n : Nat, v % (T.length : Int) = (n : Int) := ⟨(v % (T.length : Int)).toNat, by omega⟩
  rw [hat] at a0 a1 ⊢
  refine ⟨⟨by decide, by decide⟩, fun w hw => ⟨⟨by decide, by decide⟩, l_sbi hw (fun sh7 I7 R7 X7 => ?_)⟩⟩
  have W6 := W.ex0 E6
  have Q7 := Q.ex0 X7.e
  have hv7 : R7 t 0 = some vt := by rw [(X7.e.2 t Q.nn (fun z => z)).2]; exact hvt
  have W7 := W6.ex0 X7.e
  have Z7 : STRG sh7 I7 R7 (K 0) [] := by
    have := W7.2 0 (by decide)
    rw [h7.2.2.2.2.2.2.1] at this
    exact this
  rw [il0]
  refine ⟨Q7.rcv, ⟨by decide, by decide⟩, l_substr (fr := 0) (to := at9) Q7 hchr hv7 (X7.e.k kvt) (by omega) Z7 (Nat.zero_le _) (by omega) (fun q8 sh8 I8 R8 e8 Q8 => ?_)⟩
  rw [List.drop_zero, Nat.sub_zero] at Q8
  have X8 := X7.ext e8
  have c8 : CHR (T.take at9) := fun x hx => hchr x (List.mem_of_mem_take hx)
  have l8 : (T.take at9).length = at9 := by rw [List.length_take]; omega
  refine ⟨X8.rcv, ⟨by decide, by decide⟩, l_appS X8 Q8 c8 (by rw [l8]; show 0 + at9 ≤ 640; omega) (fun sh9 I9 R9 X9 _ => ?_)⟩
  rw [List.nil_append] at X9
  have W9 := W6.ex0 X9.e
  refine ⟨X9.rcv, ⟨by decide, by decide⟩, l_appS X9 (W9.2 3 (by decide)) (cod_chr (by decide)) (by rw [l8, h7.2.2.2.2.2.2.2]; show at9 + 1 ≤ 640; omega) (fun sh10 I10 R10 X10 _ => ?_)⟩
  rw [h7.2.2.2.2.2.2.2] at X10
  have Q10 := Q.ex0 X10.e
  have hv10 : R10 t 0 = some vt := by rw [(X10.e.2 t Q.nn (fun z => z)).2]; exact hvt
  have Z10 : STRG sh10 I10 R10 (K 0) [] := by
    have := (W6.ex0 X10.e).2 0 (by decide)
    rw [h7.2.2.2.2.2.2.1] at this
    exact this
  refine ⟨Q10.rcv, ⟨by decide, by decide⟩, ?_⟩
  unfold wJ0_substring_b52d3
  refine ⟨Q10.rcv, ⟨by decide, by decide⟩, l_strlen Q10 ?_⟩
  refine ⟨Q10.rcv, ⟨by decide, by decide⟩, l_substr (fr := at9) (to := T.length) Q10 hchr hv10 (X10.e.k kvt) (by omega) Z10 (by omega) (Nat.le_refl _) (fun q11 sh11 I11 R11 e11 Q11 => ?_)⟩
  have ed : (T.drop at9).take (T.length - at9) = T.drop at9 := List.take_of_length_le (by rw [List.length_drop]; exact Nat.le_refl _)
  rw [ed] at Q11
  have X11 := X10.ext e11
  have c11 : CHR (T.drop at9) := fun x hx => hchr x (List.mem_of_mem_drop hx)
  have l11 : (T.drop at9).length = T.length - at9 := List.length_drop
  have l10 : (T.take at9 ++ [(63 : Int)]).length = at9 + 1 := by rw [List.length_append, l8]; rfl
  refine ⟨⟨by decide, by decide⟩, _, rfl, X11.rcv, ⟨by decide, by decide⟩, l_appS X11 Q11 c11 (by rw [l10, l11]; omega) (fun sh12 I12 R12 X12 _ => ?_)⟩
  obtain ⟨ea, cap9, Sb, Eb, -, -⟩ := X12
  refine ⟨rcv_k Sb.1, ⟨by decide, by decide⟩, l_toStr Sb (fun q13 sh13 I13 R13 _ e13 Q13 _ _ => ?_)⟩
  have lT : (T.take at9 ++ [(63 : Int)] ++ T.drop at9).length = T.length + 1 := by rw [List.length_append, l10, l11]; omega
  have cT : CHR (T.take at9 ++ [(63 : Int)] ++ T.drop at9) := (c8.app (fun x hx => by rw [List.mem_singleton.mp hx]; decide)).app c11
  have hq9 : gTx (T.take at9 ++ [(63 : Int)] ++ T.drop at9) at9 = 63 := by
    refine gTx_in ?_
    rw [List.append_assoc, List.getElem?_append_right (by rw [l8]; exact Nat.le_refl _), l8, Nat.sub_self]
    rfl
  generalize T.take at9 ++ [(63 : Int)] ++ T.drop at9 = U at *
  have E13a : EXH (fun _ => False) sh6 I6 R6 sh13 I13 R13 := Eb.tr e13 (fun _ _ z => z)
  have E13 : EXH (fun _ => False) sh I R sh13 I13 R13 := E6.tr E13a (fun _ _ z => z)
  have S13 : PLS sh13 I13 R13 (false, fun _ => 0, [], 0, fun _ => 0, 0, 0, fun _ => 0) AD := S6.fr (fun i i0 i1 => by
    have hn := nnk (S6.1 i i0 i1)
    exact ⟨E13a.1 _ hn, E13a.2 _ hn (fun z => z)⟩)
  refine ⟨⟨by decide, by decide⟩, l_feed hfu S13 rfl Q13 cT (by omega) (fun sh14 I14 S14 e14 => ?_)⟩
  obtain ⟨d1, d2, d3⟩ := q_ld (f := gTx U) (n := U.length) (at9 := at9) (by omega) hq9
  obtain ⟨I15, R15, σ15, el15, S15, b15, n15, p15, fl15⟩ := S14.bad rfl hfu d1
  have E15 : EXH (fun _ => False) sh I R sh14 I15 R15 := EXH.pl fr (EXH.pl fr E13 e14) (⟨fun _ _ => rfl, fun y _ hy => fl15 y (Classical.not_not.mp hy)⟩ : EXH (XF9 AD) sh14 I14 R13 sh14 I15 R15)
  refine ⟨⟨by decide, by decide⟩, wB_of el15 ?_⟩
  rw [if_neg (by rw [ilt (show (-11 : Int32) = iz (-11) by decide) rfl ⟨by decide, by decide⟩ ⟨by omega, by omega⟩]; omega), if_neg (by rw [ilt rfl (show (-14 : Int32) = iz (-14) by decide) ⟨by omega, by omega⟩ ⟨by decide, by decide⟩]; omega)]
  refine ⟨⟨by decide, by decide⟩, wB_of S15.ep ?_⟩
  rw [p15, if_neg (by rw [ilt rfl rfl (IRn (by omega)) (IRn (by omega))]; omega)]
  refine ⟨⟨by decide, by decide⟩, wB_of (S15.nb b15 hfu) ⟨rfl, ?_⟩⟩
  rw [if_neg (by decide)]
  -- the two texts that are written down
  have W15 := W.ex0 E15
  refine ⟨⟨by decide, by decide⟩, l_feed hfu S15 n15 (W15.2 11 (by decide)) (cod_chr (by decide)) (by decide +kernel) (fun sh16 I16 S16 e16 => ?_)⟩
  have z1 : (ldX (gTx (cod 11)) (cod 11).length).1.er = 2 ∧ (ldX (gTx (cod 11)) (cod 11).length).1.st = 19 := ld_t11
  obtain ⟨I17, R17, σ17, el17, S17, b17, n17, p17, fl17⟩ := S16.bad b15 hfu (by rw [z1.1]; decide)
  rw [z1.1] at el17
  rw [z1.2] at p17
  have E17 : EXH (fun _ => False) sh I R sh16 I17 R17 := EXH.pl fr (EXH.pl fr E15 e16) (⟨fun _ _ => rfl, fun y _ hy => fl17 y (Classical.not_not.mp hy)⟩ : EXH (XF9 AD) sh16 I16 R15 sh16 I17 R17)
  refine ⟨⟨by decide, by decide⟩, wB_of el17 ?_⟩
  rw [if_pos (show iz (-10 - ((2 : Nat) : Int)) = -12 by decide)]
  refine ⟨⟨by decide, by decide⟩, wB_of S17.ep ?_⟩
  rw [p17, if_pos (by decide)]
  have W17 := W.ex0 E17
  refine ⟨⟨by decide, by decide⟩, l_feed hfu S17 n17 (W17.2 10 (by decide)) (cod_chr (by decide)) (by decide +kernel) (fun sh18 I18 S18 e18 => ?_)⟩
  have z2 : (ldX (gTx (cod 10)) (cod 10).length).1.er = 3 ∧ (ldX (gTx (cod 10)) (cod 10).length).1.st = 42 := ld_t10
  obtain ⟨I19, R19, σ19, el19, S19, b19, n19, p19, fl19⟩ := S18.bad b17 hfu (by rw [z2.1]; decide)
  rw [z2.1] at el19
  rw [z2.2] at p19
  have E19 : EXH (fun _ => False) sh I R sh18 I19 R19 := EXH.pl fr (EXH.pl fr E17 e18) (⟨fun _ _ => rfl, fun y _ hy => fl19 y (Classical.not_not.mp hy)⟩ : EXH (XF9 AD) sh18 I18 R17 sh18 I19 R19)
  refine ⟨⟨by decide, by decide⟩, wB_of el19 ?_⟩
  rw [if_pos (show iz (-10 - ((3 : Nat) : Int)) = -13 by decide)]
  refine ⟨⟨by decide, by decide⟩, wB_of S19.ep ?_⟩
  rw [p19, if_pos (by decide)]
  unfold wL_wrongHolds_b177
  exact ⟨⟨by decide, by decide⟩, Or.inr rfl, _, rfl, hP sh18 I19 R19 E19⟩
end WG
