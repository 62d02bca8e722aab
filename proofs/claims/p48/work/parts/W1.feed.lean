/-! THE LAW, STAGE 2: a text fed to a planner; a text loaded -/
def gTx (T : List Int) : Nat → Int := fun k => T.getD k 32
theorem gTx_in {T : List Int} {k : Nat} {x : Int} (h : T[k]? = some x) : gTx T k = x := by
  unfold gTx
  rw [List.getD_eq_getElem?_getD, h]
  rfl
theorem gTx_r {T : List Int} (hT : CHR T) (k : Nat) : 0 ≤ gTx T k ∧ gTx T k ≤ 127 := by
  by_cases z : k < T.length
  · rw [gTx_in (List.getElem?_eq_getElem z)]
    exact hT _ (List.getElem_mem z)
  · unfold gTx
    rw [List.getD_eq_getElem?_getD, List.getElem?_eq_none (by omega)]
    exact ⟨by decide, by decide⟩
theorem iz_shl8 {m : Nat} (hm : m < 8388608) : iz (m : Int) <<< ((8 : Int32) &&& 31) = iz ((m * 256 : Nat) : Int) := by
  rw [show (8 : Int32) &&& 31 = 8 from by decide]
  refine Int32.toBitVec_inj.1 ?_
  rw [Int32.toBitVec_shiftLeft, iz_bv, iz_bv]
  have h8 : (8 : Int32).toBitVec.smod 32 = 8#32 := by decide
  rw [h8]
  refine BitVec.eq_of_toNat_eq ?_
  show ((BitVec.ofNat 32 m) <<< 8).toNat = _
  rw [BitVec.toNat_shiftLeft, BitVec.toNat_ofNat, BitVec.toNat_ofNat, Nat.shiftLeft_eq]
  omega
theorem or_256 {m c : Nat} (hc : c < 256) : m * 256 ||| c = m * 256 + c := by
  have := Nat.shiftLeft_add_eq_or_of_lt (i := 8) (b := c) hc m
  rw [Nat.shiftLeft_eq] at this
  exact this.symm
/-- m bytes from s on as one number -/
def pn (g : Nat → Nat) (s : Nat) : Nat → Nat
  | 0 => 0
  | m + 1 => pn g s m * 256 + g (s + m)
theorem pn_lt {g : Nat → Nat} (h : ∀ k, g k ≤ 127) (s : Nat) : pn g s 1 ≤ 127 ∧ pn g s 2 ≤ 32639 ∧ pn g s 3 ≤ 8355711 ∧ pn g s 4 ≤ 2139062143 := by
  have e1 : pn g s 1 = 0 * 256 + g (s + 0) := rfl
  have e2 : pn g s 2 = pn g s 1 * 256 + g (s + 1) := rfl
  have e3 : pn g s 3 = pn g s 2 * 256 + g (s + 2) := rfl
  have e4 : pn g s 4 = pn g s 3 * 256 + g (s + 3) := rfl
  have h0 := h (s + 0)
  have h1 := h (s + 1)
  have h2 := h (s + 2)
  have h3 := h (s + 3)
  omega
theorem pn_by {g : Nat → Nat} (h : ∀ k, g k ≤ 127) (s : Nat) {i : Nat} (hi : i < 4) : byV (iz (pn g s 4 : Int)) i = (g (s + i) : Int) := by
  have b := pn_lt h s
  have e1 : pn g s 1 = 0 * 256 + g (s + 0) := rfl
  have e2 : pn g s 2 = pn g s 1 * 256 + g (s + 1) := rfl
  have e3 : pn g s 3 = pn g s 2 * 256 + g (s + 2) := rfl
  have e4 : pn g s 4 = pn g s 3 * 256 + g (s + 3) := rfl
  have h0 := h (s + 0)
  have h1 := h (s + 1)
  have h2 := h (s + 2)
  have h3 := h (s + 3)
  unfold byV
  rw [show (24 - 8 * (i : Int)) = ((24 - 8 * i : Nat) : Int) by omega, show iz 31 = (31 : Int32) from by decide, iz_shr (by omega) (by omega), show iz 255 = iz ((255 : Nat) : Int) from rfl, iz_andN]
  have e : (pn g s 4 >>> (24 - 8 * i)) &&& 255 = g (s + i) := by
    rw [show (255 : Nat) = 2 ^ 8 - 1 from rfl, Nat.and_two_pow_sub_one_eq_mod, Nat.shiftRight_eq_div_pow]
    rcases (show i = 0 ∨ i = 1 ∨ i = 2 ∨ i = 3 by omega) with z | z | z | z <;> subst z
    · show pn g s 4 / 2 ^ 24 % 2 ^ 8 = g (s + 0)
      omega
    · show pn g s 4 / 2 ^ 16 % 2 ^ 8 = g (s + 1)
      omega
    · show pn g s 4 / 2 ^ 8 % 2 ^ 8 = g (s + 2)
      omega
    · show pn g s 4 / 2 ^ 0 % 2 ^ 8 = g (s + 3)
      omega
  rw [e]
  have hg := h (s + i)
  exact iz_toInt (by omega) (by omega)
theorem chr_B : ((List.range 128).all fun m => decide (iChr (iz (m : Int) &&& 255) = iz (m : Int)) && decide (narrow .char (.int (iz (m : Int))) = .int (iz (m : Int)))) = true := by decide +kernel
theorem chr_c {x : Int} (h : 0 ≤ x ∧ x ≤ 127) : iChr (iz x &&& 255) = iz x ∧ narrow .char (.int (iz x)) = .int (iz x) := by
  obtain ⟨m, rfl⟩ : ∃ m : Nat, x = (m : Int) := ⟨x.toNat, by omega⟩
  have := List.all_eq_true.mp chr_B m (List.mem_range.mpr (by omega))
  rw [Bool.and_eq_true, decide_eq_true_eq, decide_eq_true_eq] at this
  exact this
section FE
variable {K J : Nat → Nat} {fu : Nat} {sh0 sh sh' : HS} {I0 I I' : HI} {R0 R R' : HR} {q v : Nat} {T : List Int} {σ : STT} {AD : Int → Nat}
theorem PLS.txt (S : PLS sh I R σ AD) {g : Nat → Int} (h : ∀ k, k < σ.2.2.2.1 → g k = σ.2.2.2.2.1 k) : PLS sh I R (setT σ σ.2.2.2.1 g) AD := by
  obtain ⟨s1, s2, s3, s4⟩ := S
  refine ⟨s1, s2, s3.tx s3.2.2.2.2.1 (fun k hk => by rw [h k hk]; exact s3.2.2.2.2.2.1 k hk), fun AD' g' j => ?_⟩
  obtain ⟨P, C, Kn⟩ := s4 AD' g' j
  obtain ⟨c1, c2, c3, c7, cr⟩ := C
  exact ⟨P, ⟨c1, c2, c3, fun k hk => by
    show I (AD' 1) k = iz (g k)
    rw [c7 k hk, h k hk], cr⟩, Kn⟩
theorem l_charAt {P : Int32 → HS → HI → HR → Prop} (Q : STRG sh I R q T) (hT : CHR T) (hl : T.length ≤ 2147483647) {j : Nat} {c : Int} (hj : T[j]? = some c) (hP : P (iz c) sh I R) : wJ0_charAt_5068e K J fu sh I R q (iz (j : Int)) (qwI P) := by
  have hj1 := (List.getElem?_eq_some_iff.mp hj).1
  have hc := hT c (List.mem_of_getElem? hj)
  obtain ⟨v, v1, v2, v3, v4⟩ := Q.val
  unfold wJ0_charAt_5068e
  refine ⟨Q.rcv, l_lat1S Q ?_⟩
  rw [if_neg (by decide)]
  refine wB_of v1 ?_
  unfold wJ1_charAt_3b067
  refine wB_of v2 ?_
  unfold wJ0_checkIndex_df160
  intro w
  unfold wJ3_checkIndex_8e157
  rw [if_neg (by rw [ilt rfl il0 (IRn (by omega)) ⟨by decide, by decide⟩]; omega), if_pos (by rw [ilt rfl rfl (IRn (by omega)) (IRn (by omega))]; omega)]
  refine ⟨_, rfl, rfl, ?_⟩
  refine wB_of (oBb_n v3 j hj1 rfl) ?_
  rw [v4 j c hj, (chr_c hc).1]
  exact ⟨(chr_c hc).2, _, rfl, (chr_c hc).2, _, rfl, hP⟩
theorem PLS.load (S : PLS sh I R σ AD) (hfu : 5000 ≤ fu) : ∃ I' R', fX10_load fu sh I R (AD 0) = some (iz (vLoad σ), (I', R')) ∧ PLS sh I' R' (sLoad σ) AD ∧ ∀ b, FGN AD b → I' b = I b ∧ R' b = R b := by
  have V' := S.V.load
  obtain ⟨s1, s2, s3, s4⟩ := S
  obtain ⟨P, C, Kn⟩ := s4 AD (AGR6.rf AD) s2
  obtain ⟨I0, R0, e0, -, -, -, -⟩ := cx_load (s1.ok (AGR6.rf AD) s2) s3 hfu C Kn
  have key : ∀ AD', AGR6 AD AD' → INJ AD' → ∃ P, CIB I0 R0 AD' P (sLoad σ) ∧ CKN I0 AD' (sLoad σ) ∧ FR AD' I I0 (fun i _ => i < 316) ∧ ∀ i, 0 ≤ i → i < 331 → ¬ i = 2 → ∀ k, R0 (AD' i) k = R (AD' i) k := by
    intro AD' g j
    obtain ⟨P', C', K'⟩ := s4 AD' g j
    obtain ⟨I1, R1, e1, c1, c2, c3, c4⟩ := cx_load (s1.ok g j) s3 hfu C' K'
    rw [g 0 (by decide) (by decide)] at e1
    have e2 := (Prod.mk.inj (Option.some.inj (e0.symm.trans e1))).2
    have e3 : I0 = I1 := (Prod.mk.inj e2).1
    have e4 : R0 = R1 := (Prod.mk.inj e2).2
    subst e3
    subst e4
    exact ⟨P', c1, c2, c3, c4⟩
  refine ⟨I0, R0, e0, ⟨s1, s2, V', fun AD' g j => ?_⟩, fun b hb => ?_⟩
  · obtain ⟨P', c1, c2, -, -⟩ := key AD' g j
    exact ⟨P', c1, c2⟩
  · obtain ⟨AD', g, j, e⟩ := alt6 s2 hb
    obtain ⟨P', -, -, c3, c4⟩ := key AD' g j
    refine ⟨?_, ?_⟩
    · funext k
      have := c3 316 (by decide) (by decide) k (show ¬ (316 : Int) < 316 by decide)
      rwa [e] at this
    · funext k
      have := c4 316 (by decide) (by decide) (by decide) k
      rwa [e] at this
def XF9 (AD : Int → Nat) : Nat → Prop := fun a => ¬ FGN AD a
theorem STRG.pl (Q : STRG sh I R q T) (s : SHP sh AD) (e : EXH (XF9 AD) sh I R sh' I' R') : STRG sh' I' R' q T := by
  refine Q.ex e (fun z => z ?_) (fun v hv _ z => z ?_)
  · rcases Q.1 with ⟨n, z⟩ | ⟨n, z⟩ <;> exact FGN.of s z (by decide)
  · obtain ⟨n, hv | hv⟩ := hv <;> exact FGN.of s hv (by decide)
/-- twenty bytes packed into five ints -/
theorem fe_17 {F : VF} {k70 : HS → HI → HR → Nat → Nat → Nat → Nat → Int32 → Nat → Prop} {c1 c2 l0 k : Nat} (Q : STRG sh I0 R q T) (hT : CHR T) (hl : T.length ≤ 660) (hk : k ≤ 660) (hc : c1 ≤ 200 ∧ c2 ≤ 1200) (hv : sh v = some (20, 5))
    (hP : ∀ I, (∀ y, ¬ y = v → I y = I0 y) → (∀ w : Nat, w < 5 → I v w = iz (pn (fun i => (gTx T (k + i)).toNat) (4 * w) 4 : Int)) → k70 sh I R c1 c2 l0 q (iz (k : Int)) v) :
    ∀ (d i n : Nat) (I : HI), i + d = 20 → d < n → (∀ y, ¬ y = v → I y = I0 y) → (∀ w : Nat, w < 5 → I v w = iz (pn (fun i => (gTx T (k + i)).toNat) (4 * w) (min 4 (i - 4 * w)) : Int)) → wL_feed_l17 K J fu F k70 n sh I R c1 c2 l0 q (iz (k : Int)) v (iz (i : Int)) := by
  have hg : ∀ i, (fun i => (gTx T (k + i)).toNat) i ≤ 127 := fun i => by
    have := gTx_r hT (k + i)
    show (gTx T (k + i)).toNat ≤ 127
    omega
  intro d
  induction d with
  | zero =>
    intro i n I hi hn o hw
    obtain ⟨n', rfl⟩ : ∃ n', n = n' + 1 := ⟨n - 1, by omega⟩
    show wL_feed_b17 K J fu F (wL_feed_l17 K J fu F k70 n') k70 sh I R c1 c2 l0 q _ v _
    unfold wL_feed_b17
    rw [if_pos (by rw [ile il20 rfl ⟨by decide, by decide⟩ (IRn (by omega))]; omega)]
    refine hP I o (fun w hw5 => ?_)
    rw [hw w hw5, show min 4 (i - 4 * w) = 4 by omega]
  | succ d ih =>
    intro i n I hi hn o hw
    obtain ⟨n', rfl⟩ : ∃ n', n = n' + 1 := ⟨n - 1, by omega⟩
    have qv : ¬ q = v := by rcases Q.1 with ⟨m, z⟩ | ⟨m, z⟩ <;> exact ne_k z hv (by decide)
    have Q1 : STRG sh I R q T := Q.ex (X := fun y => y = v) ⟨fun _ _ => rfl, fun y _ hy => ⟨o y hy, rfl⟩⟩ qv (fun w hw _ => by obtain ⟨m, z | z⟩ := hw <;> exact ne_k z hv (by decide))
    have b := pn_lt hg (4 * (i / 4))
    have v0 : pn (fun i => (gTx T (k + i)).toNat) (4 * (i / 4)) 0 = 0 := rfl
    have im : min 4 (i - 4 * (i / 4)) = i % 4 := by omega
    have lt : pn (fun i => (gTx T (k + i)).toNat) (4 * (i / 4)) (i % 4) < 8388608 := by
      rcases (show i % 4 = 0 ∨ i % 4 = 1 ∨ i % 4 = 2 ∨ i % 4 = 3 by omega) with z | z | z | z <;> rw [z] <;> omega
    have step : ∀ c : Int, c = gTx T (k + i) → wL_feed_b62 K J fu F (wL_feed_l17 K J fu F k70 n') k70 sh I R c1 c2 l0 q (iz (k : Int)) v (iz (i : Int)) (iz c) (iz (pn (fun i => (gTx T (k + i)).toNat) (4 * (i / 4)) (i % 4) : Int) <<< ((8 : Int32) &&& 31)) (iz ((i / 4 : Nat) : Int)) v := by
      intro c hcc
      have cr := gTx_r hT (k + i)
      obtain ⟨cn, hcn⟩ : ∃ cn : Nat, c = (cn : Int) := ⟨c.toNat, by omega⟩
      unfold wL_feed_b62
      rw [iz_shl8 lt, hcn, iz_orN, or_256 (by omega)]
      refine wB_of (oS_n hv (i / 4) (by omega) rfl) ?_
      rw [il1, iz_add]
      refine ih (i + 1) n' _ (by omega) (by omega) (fun y hy => by rw [← o y hy]; exact funext (fun j => u2_off hy j)) (fun w hw5 => ?_)
      rw [u2_on]
      by_cases z : w = i / 4
      · rw [if_pos z, z, show min 4 (i + 1 - 4 * (i / 4)) = i % 4 + 1 by omega]
        have : pn (fun i => (gTx T (k + i)).toNat) (4 * (i / 4)) (i % 4 + 1) = pn (fun i => (gTx T (k + i)).toNat) (4 * (i / 4)) (i % 4) * 256 + (gTx T (k + (4 * (i / 4) + i % 4))).toNat := rfl
        rw [this, show 4 * (i / 4) + i % 4 = i by omega, ← hcc, hcn, Int.toNat_natCast]
      · rw [if_neg z, hw w hw5, show min 4 (i + 1 - 4 * w) = min 4 (i - 4 * w) by omega]
    show wL_feed_b17 K J fu F (wL_feed_l17 K J fu F k70 n') k70 sh I R c1 c2 l0 q _ v _
    unfold wL_feed_b17
    rw [if_neg (by rw [ile il20 rfl ⟨by decide, by decide⟩ (IRn (by omega))]; omega)]
    refine wB_of (oD_l il4 (by omega) (by omega) (by decide) (by decide)) ?_
    refine wB_of (oD_l il4 (by omega) (by omega) (by decide) (by decide)) ?_
    rw [show ((i : Int) / 4) = ((i / 4 : Nat) : Int) by omega]
    refine wB_of (oA2_n hv (i / 4) (by omega) rfl) ?_
    rw [hw (i / 4) (by omega), im]
    refine ⟨Q1.rcv, hc, l_strlen Q1 ?_⟩
    rw [iz_add, show ((k : Int) + (i : Int)) = ((k + i : Nat) : Int) from rfl]
    by_cases z : T.length ≤ k + i
    · rw [if_pos (by rw [ile rfl rfl (IRn (by omega)) (IRn (by omega))]; omega), il32]
      refine step 32 ?_
      unfold gTx
      rw [List.getD_eq_getElem?_getD, List.getElem?_eq_none z]
      rfl
    · rw [if_neg (by rw [ile rfl rfl (IRn (by omega)) (IRn (by omega))]; omega)]
      have hx := List.getElem?_eq_getElem (l := T) (i := k + i) (by omega)
      refine ⟨Q1.rcv, hc, l_charAt Q1 hT (by omega) hx ?_⟩
      exact step _ (gTx_in hx).symm
theorem ap5_at {f : Nat → Int} {n : Nat} {a b c d e : Int32} {j : Nat} : ap5 f n a b c d e j = if n ≤ j ∧ j < n + 20 then (if j < n + 4 then byV a (j - n) else if j < n + 8 then byV b (j - (n + 4)) else if j < n + 12 then byV c (j - (n + 8)) else if j < n + 16 then byV d (j - (n + 12)) else byV e (j - (n + 16))) else f j := by
  unfold ap5 apT
  by_cases h : n ≤ j ∧ j < n + 20
  · rw [if_pos h]
    by_cases h1 : j < n + 4
    · rw [if_neg (by omega), if_neg (by omega), if_neg (by omega), if_neg (by omega), if_pos (by omega), if_pos h1]
    · by_cases h2 : j < n + 8
      · rw [if_neg (by omega), if_neg (by omega), if_neg (by omega), if_pos (by omega), if_neg h1, if_pos h2]
      · by_cases h3 : j < n + 12
        · rw [if_neg (by omega), if_neg (by omega), if_pos (by omega), if_neg h1, if_neg h2, if_pos h3]
        · by_cases h4 : j < n + 16
          · rw [if_neg (by omega), if_pos (by omega), if_neg h1, if_neg h2, if_neg h3, if_pos h4]
          · rw [if_pos (by omega), if_neg h1, if_neg h2, if_neg h3, if_neg h4]
  · rw [if_neg h, if_neg (by omega), if_neg (by omega), if_neg (by omega), if_neg (by omega), if_neg (by omega)]
/-- the rounds of twenty bytes -/
theorem fe_2 {P : HS → HI → HR → Prop} (hfu : 5000 ≤ fu) (Q : STRG sh0 I0 R q T) (s0 : SHP sh0 AD) (hT : CHR T) (hl : T.length ≤ 660)
    (hP : ∀ sh' I', PLS sh' I' R (setT σ T.length (gTx T)) AD → EXH (XF9 AD) sh0 I0 R sh' I' R → P sh' I' R) :
    ∀ (d r n c1 c2 : Nat) (sh : HS) (I : HI), d ≤ 33 → T.length ≤ 20 * (r + d) → 20 * r ≤ 680 → d < n → c1 + 2 * d + 1 ≤ 200 → c2 + 11 * d + 6 ≤ 1200 → PLS sh I R (setT σ (20 * r) (gTx T)) AD → EXH (XF9 AD) sh0 I0 R sh I R → wL_feed_l2 K J fu (qwV P) n sh I R c1 c2 (AD 0) q (iz ((20 * r : Nat) : Int)) := by
  intro d
  induction d with
  | zero =>
    intro r n c1 c2 sh I hd hr hr2 hn h1 h2 S e
    obtain ⟨n', rfl⟩ : ∃ n', n = n' + 1 := ⟨n - 1, by omega⟩
    have Q1 := Q.pl s0 e
    show wL_feed_b2 K J fu (qwV P) (wL_feed_l2 K J fu (qwV P) n') sh I R c1 c2 (AD 0) q _
    unfold wL_feed_b2
    refine ⟨Q1.rcv, ⟨by omega, by omega⟩, l_strlen Q1 ?_⟩
    rw [if_pos (by rw [ile rfl rfl (IRn (by omega)) (IRn (by omega))]; omega)]
    refine ⟨Q1.rcv, ⟨by omega, by omega⟩, l_strlen Q1 ?_⟩
    have et : sTrunc (setT σ (20 * r) (gTx T)) (T.length : Int) = setT σ T.length (gTx T) := by
      unfold sTrunc
      rw [if_pos ⟨by omega, by show (T.length : Int) ≤ ((20 * r : Nat) : Int); omega⟩, Int.toNat_natCast]
      rfl
    have VT : VST (sTrunc (setT σ (20 * r) (gTx T)) (T.length : Int)) := by
      rw [et]
      exact S.V.tx (n := T.length) (f := gTx T) (by omega) (fun k _ => by have := gTx_r hT k; omega)
    obtain ⟨I', e2, S2, f2⟩ := S.act (f := fun I => fX10_truncate fu sh I R (AD 0) (iz (T.length : Int))) VT (fun AD' P9 gg O => by
      have e := ca_truncate (fu := fu) (P := P9) (R := R) O S.V (show IR (T.length : Int) from IRn (by omega))
      rw [gg 0 (by decide) (by decide)] at e
      exact e)
    rw [if_pos ⟨by omega, by show (T.length : Int) ≤ ((20 * r : Nat) : Int); omega⟩] at e2
    rw [et] at S2
    refine ⟨⟨by omega, by omega⟩, wB_que e2 ?_⟩
    refine ⟨⟨by omega, by omega⟩, rfl, hP sh I' S2 (e.tr (⟨fun _ _ => rfl, fun y _ hy => ⟨f2 y (Classical.not_not.mp hy), rfl⟩⟩ : EXH (XF9 AD) sh I R sh I' R) (fun _ _ z => z))⟩
  | succ d ih =>
    intro r n c1 c2 sh I hd hr hr2 hn h1 h2 S e
    by_cases c0 : T.length ≤ 20 * r
    · obtain ⟨n', rfl⟩ : ∃ n', n = n' + 1 := ⟨n - 1, by omega⟩
      have Q1 := Q.pl s0 e
      show wL_feed_b2 K J fu (qwV P) (wL_feed_l2 K J fu (qwV P) n') sh I R c1 c2 (AD 0) q _
      unfold wL_feed_b2
      refine ⟨Q1.rcv, ⟨by omega, by omega⟩, l_strlen Q1 ?_⟩
      rw [if_pos (by rw [ile rfl rfl (IRn (by omega)) (IRn (by omega))]; omega)]
      refine ⟨Q1.rcv, ⟨by omega, by omega⟩, l_strlen Q1 ?_⟩
      have et : sTrunc (setT σ (20 * r) (gTx T)) (T.length : Int) = setT σ T.length (gTx T) := by
        unfold sTrunc
        rw [if_pos ⟨by omega, by show (T.length : Int) ≤ ((20 * r : Nat) : Int); omega⟩, Int.toNat_natCast]
        rfl
      have VT : VST (sTrunc (setT σ (20 * r) (gTx T)) (T.length : Int)) := by
        rw [et]
        exact S.V.tx (n := T.length) (f := gTx T) (by omega) (fun k _ => by have := gTx_r hT k; omega)
      obtain ⟨I', e2, S2, f2⟩ := S.act (f := fun I => fX10_truncate fu sh I R (AD 0) (iz (T.length : Int))) VT (fun AD' P9 gg O => by
        have e := ca_truncate (fu := fu) (P := P9) (R := R) O S.V (show IR (T.length : Int) from IRn (by omega))
        rw [gg 0 (by decide) (by decide)] at e
        exact e)
      rw [if_pos ⟨by omega, by show (T.length : Int) ≤ ((20 * r : Nat) : Int); omega⟩] at e2
      rw [et] at S2
      refine ⟨⟨by omega, by omega⟩, wB_que e2 ?_⟩
      refine ⟨⟨by omega, by omega⟩, rfl, hP sh I' S2 (e.tr (⟨fun _ _ => rfl, fun y _ hy => ⟨f2 y (Classical.not_not.mp hy), rfl⟩⟩ : EXH (XF9 AD) sh I R sh I' R) (fun _ _ z => z))⟩
    · obtain ⟨n', rfl⟩ : ∃ n', n = n' + 1 := ⟨n - 1, by omega⟩
      have Q1 := Q.pl s0 e
      show wL_feed_b2 K J fu (qwV P) (wL_feed_l2 K J fu (qwV P) n') sh I R c1 c2 (AD 0) q _
      unfold wL_feed_b2
      refine ⟨Q1.rcv, ⟨by omega, by omega⟩, l_strlen Q1 ?_⟩
      rw [if_neg (by rw [ile rfl rfl (IRn (by omega)) (IRn (by omega))]; omega)]
      have z5 : (5 : Int32).toNatClampNeg = 5 := by decide
      rw [z5]
      refine ⟨⟨by decide, by decide⟩, ⟨by omega, by omega⟩, fun v hv => ?_⟩
      have e1 := EXH.newI I R hv (20, 5) (fun _ => 0)
      have kv : u1 sh v (some (20, 5)) v = some (20, 5) := u1_on
      have iv : u1 I v (fun _ => 0) v = fun _ => 0 := u1_on
      have Q2 := Q1.ex0 e1
      have S1 : PLS (u1 sh v (some (20, 5))) (u1 I v (fun _ => 0)) R (setT σ (20 * r) (gTx T)) AD := S.fr (fun i i0 i1 => by
        have hn := nnk (S.1 i i0 i1)
        exact ⟨e1.1 _ hn, e1.2 _ hn (fun z => z)⟩)
      have fv : FGN AD v := fun i i0 i1 z => by
        have hk := S.1 i i0 i1
        rw [← z, hv] at hk
        cases hk
      have E1 : EXH (XF9 AD) sh0 I0 R (u1 sh v (some (20, 5))) (u1 I v (fun _ => 0)) R := e.tr e1 (fun _ _ z => z.elim)
      have v0 : sh0 v = none := e.nw hv
      generalize u1 sh v (some (20, 5)) = sh1 at *
      generalize u1 I v (fun _ => 0) = I1 at *
      rw [il0]
      refine fe_17 (K := K) (J := J) (fu := fu) (k := 20 * r) (I0 := I1) Q2 hT hl (by omega) ⟨by omega, by omega⟩ kv (fun I2 o2 w2 => ?_) 20 0 fu I1 rfl (by omega) (fun _ _ => rfl) (fun w hw5 => ?_)
      · have e3 : EXH (fun y => y = v) sh1 I1 R sh1 I2 R := ⟨fun _ _ => rfl, fun y _ hy => ⟨o2 y hy, rfl⟩⟩
        have S2 : PLS sh1 I2 R (setT σ (20 * r) (gTx T)) AD := S1.fr (fun i i0 i1 => ⟨rfl, o2 _ (fun z => fv i i0 i1 z.symm), rfl⟩)
        have E3 : EXH (XF9 AD) sh0 I0 R sh1 I2 R := E1.tr e3 (fun y hy z => absurd (by rw [z]; exact v0) hy)
        unfold wL_feed_b70
        refine wB_of (oA2_n kv 0 (by decide) il0) ?_
        refine wB_of (oA2_n kv 1 (by decide) il1) ?_
        refine wB_of (oA2_n kv 2 (by decide) il2) ?_
        refine wB_of (oA2_n kv 3 (by decide) il3) ?_
        refine wB_of (oA2_n kv 4 (by decide) il4) ?_
        rw [w2 0 (by decide), w2 1 (by decide), w2 2 (by decide), w2 3 (by decide), w2 4 (by decide)]
        have hg : ∀ i, (fun i => (gTx T (20 * r + i)).toNat) i ≤ 127 := fun i => by
          have := gTx_r hT (20 * r + i)
          show (gTx T (20 * r + i)).toNat ≤ 127
          omega
        have hby : ∀ (w i : Nat), i < 4 → byV (iz (pn (fun i => (gTx T (20 * r + i)).toNat) (4 * w) 4 : Int)) i = gTx T (20 * r + (4 * w + i)) := fun w i hi => by
          rw [pn_by hg (4 * w) hi]
          have := gTx_r hT (20 * r + (4 * w + i))
          show (((gTx T (20 * r + (4 * w + i))).toNat : Nat) : Int) = _
          omega
        generalize pn (fun i => (gTx T (20 * r + i)).toNat) = p at *
        obtain ⟨sn, hsn⟩ : ∃ s, s = sAppend (setT σ (20 * r) (gTx T)) (iz (p (4 * 0) 4 : Int)) (iz (p (4 * 1) 4 : Int)) (iz (p (4 * 2) 4 : Int)) (iz (p (4 * 3) 4 : Int)) (iz (p (4 * 4) 4 : Int)) := ⟨_, rfl⟩
        have es : sn = setT σ (20 * r + 20) (ap5 (gTx T) (20 * r) (iz (p (4 * 0) 4 : Int)) (iz (p (4 * 1) 4 : Int)) (iz (p (4 * 2) 4 : Int)) (iz (p (4 * 3) 4 : Int)) (iz (p (4 * 4) 4 : Int))) := by
          rw [hsn]
          unfold sAppend
          rw [if_pos (show (setT σ (20 * r) (gTx T)).2.2.2.1 + 20 ≤ 800 by show 20 * r + 20 ≤ 800; omega)]
          rfl
        have hap : ∀ j, j < 20 * r + 20 → ap5 (gTx T) (20 * r) (iz (p (4 * 0) 4 : Int)) (iz (p (4 * 1) 4 : Int)) (iz (p (4 * 2) 4 : Int)) (iz (p (4 * 3) 4 : Int)) (iz (p (4 * 4) 4 : Int)) j = gTx T j := by
          intro j hj
          rw [ap5_at]
          by_cases h : 20 * r ≤ j ∧ j < 20 * r + 20
          · rw [if_pos h]
            by_cases h1 : j < 20 * r + 4
            · rw [if_pos h1, hby 0 _ (by omega)]; congr 1; omega
            · by_cases h2 : j < 20 * r + 8
              · rw [if_neg h1, if_pos h2, hby 1 _ (by omega)]; congr 1; omega
              · by_cases h3 : j < 20 * r + 12
                · rw [if_neg h1, if_neg h2, if_pos h3, hby 2 _ (by omega)]; congr 1; omega
                · by_cases h4 : j < 20 * r + 16
                  · rw [if_neg h1, if_neg h2, if_neg h3, if_pos h4, hby 3 _ (by omega)]; congr 1; omega
                  · rw [if_neg h1, if_neg h2, if_neg h3, if_neg h4, hby 4 _ (by omega)]; congr 1; omega
          · rw [if_neg h]
        have VT : VST sn := by
          rw [es]
          exact S2.V.tx (by omega) (fun k hk => by rw [hap k hk]; have := gTx_r hT k; omega)
        obtain ⟨I3, e4, S3, f3⟩ := S2.act (σ' := sn) (f := fun I => fX10_append fu sh1 I R (AD 0) (iz (p (4 * 0) 4 : Int)) (iz (p (4 * 1) 4 : Int)) (iz (p (4 * 2) 4 : Int)) (iz (p (4 * 3) 4 : Int)) (iz (p (4 * 4) 4 : Int))) (a := .inl ((20 * r + 20 : Nat) : Int)) VT (fun AD' P9 gg O => by
          have e := ca_append (fu := fu) (P := P9) (R := R) O S2.V hfu (iz (p (4 * 0) 4 : Int)) (iz (p (4 * 1) 4 : Int)) (iz (p (4 * 2) 4 : Int)) (iz (p (4 * 3) 4 : Int)) (iz (p (4 * 4) 4 : Int))
          rw [gg 0 (by decide) (by decide), ← hsn] at e
          unfold aAppend at e
          rw [if_pos (show (setT σ (20 * r) (gTx T)).2.2.2.1 + 20 ≤ 800 by show 20 * r + 20 ≤ 800; omega)] at e
          exact e)
        have S4 : PLS sh1 I3 R (setT σ (20 * (r + 1)) (gTx T)) AD := by
          have h9 : sn.2.2.2.1 = 20 * r + 20 := by rw [es]; rfl
          have := S3.txt (g := gTx T) (fun k hk => by
            rw [h9] at hk
            rw [es]
            exact (hap k hk).symm)
          rw [h9, es] at this
          exact this
        refine ⟨⟨by omega, by omega⟩, wB_que e4 ?_⟩
        rw [il20, iz_add, show (((20 * r : Nat) : Int) + 20) = ((20 * (r + 1) : Nat) : Int) by omega]
        exact ih (r + 1) n' _ _ sh1 I3 (by omega) (by omega) (by omega) (by omega) (by omega) (by omega) S4 (E3.tr (⟨fun _ _ => rfl, fun y _ hy => ⟨f3 y (Classical.not_not.mp hy), rfl⟩⟩ : EXH (XF9 AD) sh1 I2 R sh1 I3 R) (fun _ _ z => z))
      · rw [iv, show min 4 (0 - 4 * w) = 0 by omega]
        exact il0
theorem l_feed {P : HS → HI → HR → Prop} (hfu : 5000 ≤ fu) (S : PLS sh I R σ AD) (h0 : σ.2.2.2.1 = 0) (Q : STRG sh I R q T) (hT : CHR T) (hl : T.length ≤ 660)
    (hP : ∀ sh' I', PLS sh' I' R (setT σ T.length (gTx T)) AD → EXH (XF9 AD) sh I R sh' I' R → P sh' I' R) : wL_feed K J fu sh I R (AD 0) q (qwV P) := by
  have S0 : PLS sh I R (setT σ (20 * 0) (gTx T)) AD := by
    have := S.txt (g := gTx T) (fun k hk => by rw [h0] at hk; exact absurd hk (Nat.not_lt_zero k))
    rw [h0] at this
    exact this
  unfold wL_feed
  have := fe_2 (K := K) (J := J) (P := P) hfu Q S.1 hT hl hP 33 0 fu 0 0 sh I (by omega) (by omega) (by omega) (by omega) (by omega) (by omega) S0 (EXH.rf _ _ _ _)
  exact this
end FE
