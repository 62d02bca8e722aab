/-! STAGE 5: the law's loop -/
def pcsL : List Nat := [240, 344, 400, 413, 426, 482, 550, 646, 714, 794, 862, 954, 1034, 1114, 1182, 1250, 1306, 1362, 1430, 1474, 1542, 1598, 1654, 1710, 1766, 1822, 1897, 1941, 2009, 2065, 2145, 2213, 2257, 2313, 2381, 2437, 2493, 2561, 2605, 2649, 2705, 2761, 2838, 2882, 2938]
def offL : Array Int := #[195, 299, 355, 368, 381, 437, 505, 601, 669, 749, 817, 909, 989, 1069, 1137, 1205, 1261, 1317, 1385, 1429, 1497, 1553, 1609, 1665, 1721, 1777, 1852, 1896, 1964, 2020, 2100, 2168, 2212, 2268, 2336, 2392, 2448, 2516, 2560, 2604, 2660, 2716, 2793, 2837, 2893]
theorem d_sw : decode code 45 = .ok (.tableswitch 2937 0 44 offL, 195) := by decide +kernel
theorem offL_ok : (List.range 45).all (fun n => decide (offL[n]? = some (((pcsL.getD n 0 : Nat) : Int) - 45))) = true := by decide +kernel
theorem d_hd : (wLd code 28 0 5 30 && (wLd code 30 1 0 31 && (wIn code 31 .arraylength 1 && (wIn code 32 (.bipush 6) 2 && (wIn code 34 .isub 1 && (wIn code 35 (.if_icmp .gt 2953) 3 && (wLd code 38 1 0 39 && (wLd code 39 0 5 41 && (wIn code 41 .iaload 1 && (wIn code 42 (.bipush 63) 2 && (wIn code 44 .iand 1 && (wIn code 2982 (.iinc 5 6) 3 && (wIn code 2985 (.goto (-2957)) 3 && (wIn code 2988 (.iconst 1) 1 && wIn code 2989 .ireturn 1)))))))))))))) = true := by decide +kernel
theorem nI_iz (n : Nat) : nI n = iz (n : Int) := by
  unfold nI iz
  exact (Int32.ofInt_eq_ofNat (n := n)).symm
section LAW
variable {l : Launch} {K J : Nat → Nat} {p : Program} {e : Env} {Rm : Room} {s : State} {m : MethodId} {args : Array Value} {below : List Frame} {meth : Method} {cd : Code} {H : Heap} {locs : List Loc} {ls : Array Slot} {D : va_G} {sh : HS} {cells slots b L i : Nat} {Q : State → Prop} {xs : Nat → Int32} {AD : Int → Nat} {o3 o4 : Nat}
theorem cs_all (LC : LCX l K J p s m args cd D b L xs sh AD o3 o4) (hRm : 13 ≤ Rm.frames ∧ 478 ≤ Rm.locals) (hi : i + 6 ≤ L) (hd : LDY s D b i sh AD o3 o4 H locs ls) (hfit : cells + 5 ≤ Rm.cells ∧ slots + 30 ≤ Rm.slots) (kk : ∀ (H1 : Heap) (locs1 : List Loc) (ls1 : Array Slot), LDY s D b i sh AD o3 o4 H1 locs1 ls1 → W p l e Rm s m args below meth cd H1 locs1 (cells + 5) (slots + 30) Q (F0 m 2982 ls1 [])) : ∀ n : Nat, n < 45 → W p l e Rm s m args below meth cd H locs cells slots Q (F0 m (pcsL.getD n 0) ls [])
  | 0, _ => cs_append LC hRm hi hd hfit kk
  | 1, _ => cs_truncate LC hRm hi hd hfit kk
  | 2, _ => cs_load LC hRm hi hd hfit kk
  | 3, _ => cs_errorPosition LC hRm hi hd hfit kk
  | 4, _ => cs_count LC hRm hi hd hfit kk
  | 5, _ => cs_scene LC hRm hi hd hfit kk
  | 6, _ => cs_actor LC hRm hi hd hfit kk
  | 7, _ => cs_shot LC hRm hi hd hfit kk
  | 8, _ => cs_setLimits LC hRm hi hd hfit kk
  | 9, _ => cs_setLight LC hRm hi hd hfit kk
  | 10, _ => cs_moveActor LC hRm hi hd hfit kk
  | 11, _ => cs_moveCamera LC hRm hi hd hfit kk
  | 12, _ => cs_setCast LC hRm hi hd hfit kk
  | 13, _ => cs_setLength LC hRm hi hd hfit kk
  | 14, _ => cs_shift LC hRm hi hd hfit kk
  | 15, _ => cs_drop LC hRm hi hd hfit kk
  | 16, _ => cs_flip LC hRm hi hd hfit kk
  | 17, _ => cs_join LC hRm hi hd hfit kk
  | 18, _ => cs_mend LC hRm hi hd hfit kk
  | 19, _ => cs_direction LC hRm hi hd hfit kk
  | 20, _ => cs_view LC hRm hi hd hfit kk
  | 21, _ => cs_side LC hRm hi hd hfit kk
  | 22, _ => cs_look LC hRm hi hd hfit kk
  | 23, _ => cs_visible LC hRm hi hd hfit kk
  | 24, _ => cs_eyeline LC hRm hi hd hfit kk
  | 25, _ => cs_isNear LC hRm hi hd hfit kk
  | 26, _ => cs_faults LC hRm hi hd hfit kk
  | 27, _ => cs_fault LC hRm hi hd hfit kk
  | 28, _ => cs_faultsOf LC hRm hi hd hfit kk
  | 29, _ => cs_faultsWith LC hRm hi hd hfit kk
  | 30, _ => cs_bestShot LC hRm hi hd hfit kk
  | 31, _ => cs_setups LC hRm hi hd hfit kk
  | 32, _ => cs_setupOf LC hRm hi hd hfit kk
  | 33, _ => cs_setup LC hRm hi hd hfit kk
  | 34, _ => cs_joinable LC hRm hi hd hfit kk
  | 35, _ => cs_leastReach LC hRm hi hd hfit kk
  | 36, _ => cs_change LC hRm hi hd hfit kk
  | 37, _ => cs_plainCost LC hRm hi hd hfit kk
  | 38, _ => cs_bestCost LC hRm hi hd hfit kk
  | 39, _ => cs_ordered LC hRm hi hd hfit kk
  | 40, _ => cs_days LC hRm hi hd hfit kk
  | 41, _ => cs_stay LC hRm hi hd hfit kk
  | 42, _ => cs_writePlan LC hRm hi hd hfit kk
  | 43, _ => cs_planByte LC hRm hi hd hfit kk
  | 44, _ => cs_undo LC hRm hi hd hfit kk
  | n + 45, h => absurd h (by omega)
theorem and63 (x : Int32) : ∃ n : Nat, n ≤ 63 ∧ x &&& 63 = nI n := by
  have h : (x &&& 63).toBitVec.toNat ≤ 63 := by
    have : (x &&& 63).toBitVec = x.toBitVec &&& 63#32 := rfl
    rw [this, BitVec.toNat_and]
    exact Nat.and_le_right
  refine ⟨(x &&& 63).toBitVec.toNat, h, ?_⟩
  unfold nI
  apply Int32.toBitVec_inj.mp
  show (x &&& 63).toBitVec = BitVec.ofNat 32 (x &&& 63).toBitVec.toNat
  simp
theorem law_loop (LC : LCX l K J p s m args cd D b L xs sh AD o3 o4) (hRm : 13 ≤ Rm.frames ∧ 478 ≤ Rm.locals ∧ 601024 ≤ Rm.cells ∧ 7293034 ≤ Rm.slots)
    (fin : ∀ (H : Heap) (locs : List Loc) (ls : Array Slot) (cells slots : Nat), va_S (lA s) s.heap H locs → cells ≤ 601024 → slots ≤ 7293034 → W p l e Rm s m args below meth cd H locs cells slots Q (F0 m 2988 ls [])) :
    ∀ (n i : Nat) (H : Heap) (locs : List Loc) (ls : Array Slot) (cells slots : Nat), L < i + n → i ≤ L → LDY s D b i sh AD o3 o4 H locs ls → cells ≤ 1000 + i → slots ≤ 300000 + 5 * i → W p l e Rm s m args below meth cd H locs cells slots Q (F0 m 28 ls []) := by
  have dh := d_hd
  simp only [Bool.and_eq_true] at dh
  obtain ⟨d1, d2, d3, d4, d5, d6, d7, d8, d9, d10, d11, d12, d13, d14, d15⟩ := dh
  have LC' := LC
  obtain ⟨⟨S, htr⟩, -, ⟨hX, hbl, hL⟩, -, -⟩ := LC'
  have hx := S.1
  have hb := S.2.1
  intro n
  induction n with
  | zero => exact fun i H locs ls cells slots h1 h2 => absurd h1 (by omega)
  | succ n ih =>
    intro i H locs ls cells slots h1 h2 hd hc hs
    have hd' := hd
    obtain ⟨I, R, z3, z4, hP, hO3, hO4, hS, hI, hl⟩ := hd'
    refine wl_ld (t := 0) (i := 5) (v := .int (nI i)) hx hb d1 (lv_at hl 5 rfl) rfl ?_
    refine wl_ld (t := 1) (i := 0) (v := .ref b) hx hb d2 (lv_at hl 0 rfl) rfl ?_
    refine va_slen (A := lA s) hx hb hX hbl (Nat.not_le.mpr hbl) hS (wIn_of d3) ?_
    refine lv_bipush (v := 6) hx hb (wIn_of d4) (by decide) ?_
    refine lv_isub hx hb (wIn_of d5) ?_
    have eL : Int32.ofNat L - 6 = iz ((L : Int) - 6) := by
      have e1 : Int32.ofNat L = iz (L : Int) := nI_iz L
      rw [e1, iz_lit, iz_sub]
    have ei : nI i = iz (i : Int) := nI_iz i
    refine lv_icmp_gt (tgt := 2988) hx hb (wIn_of d6) (by decide) (fun _ => fin H locs ls cells slots hS (by omega) (by omega)) (fun h => ?_)
    rw [eL, ei, iz_lt (by omega) (by omega) (by omega) (by omega)] at h
    have hi : i + 6 ≤ L := by omega
    refine wl_ld (t := 1) (i := 0) (v := .ref b) hx hb d7 (lv_at hl 0 rfl) rfl ?_
    refine wl_ld (t := 0) (i := 5) (v := .int (nI i)) hx hb d8 (lv_at hl 5 rfl) rfl ?_
    have hin : vp_in (nI i) L := vp_in_nI (by omega) (by omega)
    refine va_sld (A := lA s) hx hb hX hbl (Nat.not_le.mpr hbl) hS hin (wIn_of d9) ?_
    refine lv_bipush (v := 63) hx hb (wIn_of d10) (by decide) ?_
    refine lv_iand hx hb (wIn_of d11) ?_
    obtain ⟨k, k63, ek⟩ := and63 (xs (nI i).toNatClampNeg)
    rw [ek]
    have ti : (nI k).toInt = (k : Int) := nI_toInt (by omega)
    have back : ∀ (H1 : Heap) (locs1 : List Loc) (ls1 : Array Slot) (c1 s1 : Nat), LDY s D b i sh AD o3 o4 H1 locs1 ls1 → c1 ≤ cells + 5 → s1 ≤ slots + 30 → W p l e Rm s m args below meth cd H1 locs1 c1 s1 Q (F0 m 2982 ls1 []) := by
      intro H1 locs1 ls1 c1 s1 hd1 hc1 hs1
      obtain ⟨I1, R1, y3, y4, hP1, hO31, hO41, hS1, hI1, hl1⟩ := hd1
      refine lv_iinc (v := nI (i + 6)) (lv' := (5, .int (nI (i + 6))) :: [(0, .ref b), (1, .ref (AD 0)), (2, .ref (AD 316)), (3, .ref o3), (4, .ref o4)]) hx hb (wIn_of d12) hl1 (k := 5) rfl (by rw [← nI_add]; rfl) (by decide) rfl (fun ls2 hl2 => ?_)
      refine lv_goto (tgt := 28) hx hb (wIn_of d13) (by decide) ?_
      exact ih (i + 6) H1 locs1 ls2 c1 s1 (by omega) hi ⟨I1, R1, y3, y4, hP1, hO31, hO41, hS1, hI1, lv_sub hl2 [1, 2, 3, 4, 5, 0] rfl⟩ (by omega) (by omega)
    by_cases h45 : k < 45
    · have ho := List.all_eq_true.mp offL_ok k (List.mem_range.mpr h45)
      rw [decide_eq_true_eq] at ho
      refine lv_tableIn (tgt := pcsL.getD k 0) (off := ((pcsL.getD k 0 : Nat) : Int) - 45) hx hb d_sw (by omega) (by omega) ?_ (by omega) ?_
      · rw [ti, show ((k : Int) - 0).toNat = k by omega]
        exact ho
      · exact cs_all LC ⟨hRm.1, hRm.2.1⟩ hi hd ⟨by omega, by omega⟩ (fun H1 locs1 ls1 hd1 => back H1 locs1 ls1 _ _ hd1 (by omega) (by omega)) k h45
    · refine lv_tableOut (tgt := 2982) hx hb d_sw (Or.inr (by omega)) (by decide) ?_
      exact back H locs ls cells slots hd (by omega) (by omega)
end LAW
