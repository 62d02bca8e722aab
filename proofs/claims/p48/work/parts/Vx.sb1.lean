/-! THE LAW, STAGE 2: texts and the StringBuilder -/
def CHR (T : List Int) : Prop := ∀ x, x ∈ T → 0 ≤ x ∧ x ≤ 127
/-- a text object -/
def STRG (sh : HS) (I : HI) (R : HR) (q : Nat) (T : List Int) : Prop := ((∃ n, sh q = some (14, n)) ∨ (∃ n, sh q = some (28, n))) ∧ I q 1 = iz 0 ∧ ∃ v, R q 0 = some v ∧ (sh v = some (21, T.length) ∨ sh v = some (23, T.length)) ∧ ∀ (k : Nat) (x : Int), T[k]? = some x → I v k = iz x
/-- a builder of texts: its bytes lie at ea -/
def SBD (sh : HS) (I : HI) (R : HR) (b ea cap : Nat) (T : List Int) : Prop := sh b = some (13, 4) ∧ R b 0 = some ea ∧ sh ea = some (21, cap) ∧ I b 1 = iz 0 ∧ I b 3 = iz (T.length : Int) ∧ (T.length ≤ cap ∧ cap ≤ 1290) ∧ (∀ j, j < cap → fits .byte (.int (I ea j)) = true) ∧ ∀ (k : Nat) (x : Int), T[k]? = some x → I ea k = iz x
def XK (sh : HS) : Nat → Prop := fun q => (∃ n, sh q = some (13, n)) ∨ ∃ n, sh q = some (21, n)
def SBX (sh0 : HS) (I0 : HI) (R0 : HR) (b : Nat) (T : List Int) (sh : HS) (I : HI) (R : HR) : Prop := ∃ ea cap, SBD sh I R b ea cap T ∧ EXH (fun _ => False) sh0 I0 R0 sh I R ∧ sh0 b = none ∧ sh0 ea = none
theorem shr0 (x : Int32) : x >>> (iz 0 &&& 31) = x := by
  rw [show iz 0 &&& (31 : Int32) = 0 from by decide]
  simp
theorem shl0 (x : Int32) : x <<< (iz 0 &&& 31) = x := by
  rw [show iz 0 &&& (31 : Int32) = 0 from by decide]
  simp
theorem nb0 : narrow .byte (.int (iz 0)) = .int (iz 0) := by decide
theorem fits_B : ((List.range 128).all fun m => fits .byte (.int (iz (m : Int))) && decide ((iz (m : Int)).toInt8.toInt32 = iz (m : Int))) = true := by decide +kernel
theorem fits_c {x : Int} (h : 0 ≤ x ∧ x ≤ 127) : fits .byte (.int (iz x)) = true ∧ (iz x).toInt8.toInt32 = iz x := by
  obtain ⟨m, rfl⟩ : ∃ m : Nat, x = (m : Int) := ⟨x.toNat, by omega⟩
  have := List.all_eq_true.mp fits_B m (List.mem_range.mpr (by omega))
  rw [Bool.and_eq_true, decide_eq_true_eq] at this
  exact this
theorem fits_0 : fits .byte (.int (0 : Int32)) = true := by decide
theorem CHR.app {T U : List Int} (h : CHR T) (g : CHR U) : CHR (T ++ U) := fun x hx => by
  rcases List.mem_append.mp hx with z | z
  · exact h x z
  · exact g x z
theorem get_app {α : Type} {T U : List α} {k : Nat} {x : α} (h : (T ++ U)[k]? = some x) : (k < T.length ∧ T[k]? = some x) ∨ (T.length ≤ k ∧ k < T.length + U.length ∧ U[k - T.length]? = some x) := by
  have hk := (List.getElem?_eq_some_iff.mp h).1
  rw [List.length_append] at hk
  by_cases z : k < T.length
  · rw [List.getElem?_append_left z] at h
    exact Or.inl ⟨z, h⟩
  · rw [List.getElem?_append_right (by omega)] at h
    exact Or.inr ⟨by omega, hk, h⟩
section SB
variable {K J : Nat → Nat} {fu : Nat} {sh0 sh sh' : HS} {I0 I I' : HI} {R0 R R' : HR} {b ea cap q : Nat} {T U : List Int} {X : Nat → Prop}
theorem STRG.b14 (h : STRG sh I R q T) : (isT sh q 14 || isT sh q (14 + 14)) = true := by
  rcases h.1 with ⟨n, z⟩ | ⟨n, z⟩ <;> simp [isT_of z]
theorem STRG.rcv (h : STRG sh I R q T) : rcvB sh q 14 = true := by
  unfold rcvB
  rcases h.1 with ⟨n, z⟩ | ⟨n, z⟩ <;> simp [isT_of z]
theorem STRG.i2 (h : STRG sh I R q T) : oI2 sh I q 14 1 = some (iz 0) := by
  unfold oI2
  rw [if_pos h.b14, h.2.1]
theorem STRG.nn (h : STRG sh I R q T) : ¬ sh q = none := by
  rcases h.1 with ⟨n, z⟩ | ⟨n, z⟩ <;> exact nnk z
theorem STRG.ex (h : STRG sh I R q T) (e : EXH X sh I R sh' I' R') (h1 : ¬ X q) (h2 : ∀ v, (∃ n, sh v = some (21, n) ∨ sh v = some (23, n)) → R q 0 = some v → ¬ X v) : STRG sh' I' R' q T := by
  have e1 := e.2 q h.nn h1
  obtain ⟨s1, s2, v, s3, s4, s5⟩ := h
  have nv : ¬ sh v = none := by rcases s4 with z | z <;> exact nnk z
  have xv := h2 v (by rcases s4 with z | z; exact ⟨_, Or.inl z⟩; exact ⟨_, Or.inr z⟩) s3
  have e2 := e.2 v nv xv
  refine ⟨?_, by rw [e1.1]; exact s2, v, by rw [e1.2]; exact s3, ?_, fun k x hk => by rw [e2.1]; exact s5 k x hk⟩
  · rcases s1 with ⟨n, z⟩ | ⟨n, z⟩
    · exact Or.inl ⟨n, e.k z⟩
    · exact Or.inr ⟨n, e.k z⟩
  · rcases s4 with z | z
    · exact Or.inl (e.k z)
    · exact Or.inr (e.k z)
theorem STRG.ex0 (h : STRG sh I R q T) (e : EXH (fun _ => False) sh I R sh' I' R') : STRG sh' I' R' q T := h.ex e (fun z => z) (fun _ _ _ z => z)
theorem l_coder {P : Int32 → HS → HI → HR → Prop} (h : STRG sh I R q T) (hP : P (iz 0) sh I R) : wJ0_coder_7d493 K J fu sh I R q (qwI P) := by
  unfold wJ0_coder_7d493
  rw [if_neg (by decide)]
  refine wB_of h.i2 ?_
  unfold wJ0_coder_7d493_b14
  exact ⟨nb0, _, rfl, hP⟩
theorem STRG.val (h : STRG sh I R q T) : ∃ v, oR2 sh R q 14 0 = some v ∧ oLn sh v = some (iz (T.length : Int)) ∧ (sh v = some (21, T.length) ∨ sh v = some (23, T.length)) ∧ ∀ (k : Nat) (x : Int), T[k]? = some x → I v k = iz x := by
  have hb := h.b14
  obtain ⟨s1, s2, v, s3, s4, s5⟩ := h
  refine ⟨v, by unfold oR2; rw [if_pos hb]; exact s3, ?_, s4, s5⟩
  rcases s4 with z | z <;> exact oLn_n z (by decide)
theorem l_strlen {P : Int32 → HS → HI → HR → Prop} (h : STRG sh I R q T) (hP : P (iz (T.length : Int)) sh I R) : wJ0_length_8abf5 K J fu sh I R q (qwI P) := by
  obtain ⟨v, v1, v2, v3, v4⟩ := h.val
  unfold wJ0_length_8abf5
  refine wB_of v1 ?_
  refine wB_of v2 ?_
  refine ⟨h.rcv, l_coder h ?_⟩
  rw [shr0]
  exact ⟨_, rfl, hP⟩
theorem cp2_new {h f : HI} {src a n sp : Nat} (hf : f = cp2 (u1 h a (fun _ => 0)) src sp a 0 n) (hs : ¬ src = a) : (∀ j, j < n → f a j = h src (sp + j)) ∧ (∀ j, n ≤ j → f a j = 0) ∧ ∀ b, ¬ b = a → f b = h b := by
  subst hf
  refine ⟨fun j hj => ?_, fun j hj => ?_, fun b hb => ?_⟩
  · unfold cp2
    rw [if_pos ⟨rfl, by omega, by omega⟩, u1_off hs, show j - 0 = j by omega]
  · unfold cp2
    rw [if_neg (by omega), u1_on]
  · funext j
    unfold cp2
    rw [if_neg (fun z => hb z.1), u1_off hb]
theorem SBD.ne (h : SBD sh I R b ea cap T) : ¬ b = ea := ne_k h.1 h.2.2.1 (by decide)
theorem SBD.cg (h : SBD sh I R b ea cap T) (e1 : sh' b = sh b) (e2 : sh' ea = sh ea) (e3 : I' b = I b) (e4 : I' ea = I ea) (e5 : R' b = R b) : SBD sh' I' R' b ea cap T := by
  obtain ⟨s1, s2, s3, s4, s5, s6, s7, s8⟩ := h
  exact ⟨e1.trans s1, by rw [e5]; exact s2, e2.trans s3, by rw [e3]; exact s4, by rw [e3]; exact s5, s6, by rw [e4]; exact s7, by rw [e4]; exact s8⟩
theorem SBD.ex (h : SBD sh I R b ea cap T) (e : EXH X sh I R sh' I' R') (h1 : ¬ X b) (h2 : ¬ X ea) : SBD sh' I' R' b ea cap T := by
  have n1 := nnk h.1
  have n2 := nnk h.2.2.1
  exact h.cg (e.1 b n1) (e.1 ea n2) (e.2 b n1 h1).1 (e.2 ea n2 h2).1 (e.2 b n1 h1).2
theorem SBX.ext (h : SBX sh0 I0 R0 b T sh I R) (e : EXH (fun _ => False) sh I R sh' I' R') : SBX sh0 I0 R0 b T sh' I' R' := by
  obtain ⟨ea, cap, h1, h2, h3, h4⟩ := h
  exact ⟨ea, cap, h1.ex e (fun z => z) (fun z => z), h2.tr e (fun _ _ z => z), h3, h4⟩
/-- another cell, new since then, of another kind, is written -/
theorem SBX.oth (h : SBX sh0 I0 R0 b T sh I R) {c t n : Nat} (hc : sh c = some (t, n)) (h0 : sh0 c = none) (h1 : ¬ t = 13) (h2 : ¬ t = 21) (e : EXH (fun y => y = c) sh I R sh' I' R') : SBX sh0 I0 R0 b T sh' I' R' := by
  obtain ⟨ea, cap, g1, g2, g3, g4⟩ := h
  exact ⟨ea, cap, g1.ex e (ne_k g1.1 hc (fun z => h1 z.symm)) (ne_k g1.2.2.1 hc (fun z => h2 z.symm)), g2.tr e (fun y hy z => absurd (by rw [z]; exact h0) hy), g3, g4⟩
/-- the builder has room -/
theorem l_ensure {P : HS → HI → HR → Prop} (h : SBD sh I R b ea cap T) {m : Nat} (hm : m ≤ 640)
    (hP : ∀ ea' cap' sh' I' R', SBD sh' I' R' b ea' cap' T → m ≤ cap' → EXH (fun q => q = b) sh I R sh' I' R' → (ea' = ea ∨ sh ea' = none) → P sh' I' R') : wJ5_ensureCapacityInternal_d00df K J fu sh I R b (iz (m : Int)) (qwV P) := by
  have hh := h
  have hne := h.ne
  obtain ⟨s1, s2, s3, s4, s5, s6, s7, s8⟩ := h
  unfold wJ5_ensureCapacityInternal_d00df
  refine wB_of (oR_at s1 s2) ?_
  refine wB_of (oLn_n s3 (by decide)) ?_
  refine wB_of (oI_at s1) ?_
  rw [s4, shr0, iz_sub]
  by_cases c0 : m ≤ cap
  · rw [if_pos (by rw [ile rfl il0 ⟨by omega, by omega⟩ ⟨by decide, by decide⟩]; omega)]
    unfold wJ5_ensureCapacityInternal_d00df_b38
    exact ⟨⟨by decide, by decide⟩, rfl, hP ea cap sh I R hh c0 (EXH.rf _ _ _ _) (Or.inl rfl)⟩
  · rw [if_neg (by rw [ile rfl il0 ⟨by omega, by omega⟩ ⟨by decide, by decide⟩]; omega)]
    refine wB_of (oR_at s1 s2) ?_
    refine ⟨rcv_k s1, ⟨by decide, by decide⟩, ?_⟩
    unfold wJ5_newCapacity_0f7a4
    refine wB_of (oR_at s1 s2) ?_
    refine wB_of (oLn_n s3 (by decide)) ?_
    refine wB_of (oI_at s1) ?_
    refine wB_of (oI_at s1) ?_
    rw [s4, shl0, shl0, iz_sub, il2, iz_add]
    unfold wJ8_newLength_cabcc
    rw [iMax_iz (by omega) (by omega) (by omega) (by omega), iz_add]
    obtain ⟨nc, hnc, n1, n2⟩ : ∃ nc : Nat, (cap : Int) + max ((m : Int) - cap) (cap + 2) = (nc : Int) ∧ m ≤ nc ∧ nc ≤ 1290 := ⟨((cap : Int) + max ((m : Int) - cap) (cap + 2)).toNat, by omega, by omega, by omega⟩
    rw [hnc, if_neg (by rw [ile rfl il0 (IRn (by omega)) ⟨by decide, by decide⟩]; omega), if_neg (by rw [ilt (show (2147483639 : Int32) = iz 2147483639 from iz_lit _) rfl ⟨by decide, by decide⟩ (IRn (by omega))]; omega)]
    refine ⟨_, rfl, ?_⟩
    dsimp only
    rw [if_neg (by rw [ieq rfl (show (2147483647 : Int32) = iz 2147483647 from iz_lit _) (IRn (by omega)) ⟨by decide, by decide⟩]; omega)]
    refine wB_of (oI_at s1) ?_
    rw [s4, shr0]
    refine ⟨_, rfl, ?_⟩
    refine wB_of (oI_at s1) ?_
    rw [s4, shl0]
    refine ⟨⟨by decide, by decide⟩, ?_⟩
    unfold wJ7_copyOf_9075b
    refine wB_of (oLn_n s3 (by decide)) ?_
    rw [if_neg (by rw [ieq rfl rfl (IRn (by omega)) (IRn (by omega))]; omega)]
    have zn : (iz (nc : Int)).toNatClampNeg = nc := by rw [iz_nat (by omega) (by omega)]; omega
    have zl : ¬ iz (nc : Int) < 0 := by rw [ilt rfl il0 (IRn (by omega)) ⟨by decide, by decide⟩]; omega
    rw [zn]
    refine ⟨⟨zl, by omega⟩, ⟨by omega, by omega⟩, fun a ha => ?_⟩
    have ne1 : ¬ ea = a := fun z => by rw [← z, s3] at ha; cases ha
    have nb1 : ¬ b = a := fun z => by rw [← z, s1] at ha; cases ha
    have k3 : u1 sh a (some (21, nc)) ea = some (21, cap) := by rw [u1_off ne1]; exact s3
    have k1 : u1 sh a (some (21, nc)) b = some (13, 4) := by rw [u1_off nb1]; exact s1
    have ka : u1 sh a (some (21, nc)) a = some (21, nc) := u1_on
    refine wB_of (oLn_n k3 (by decide)) ?_
    rw [iMin_iz (by omega) (by omega) (by omega) (by omega), Int.min_eq_left (by omega)]
    have zc : (iz (cap : Int)).toNatClampNeg = cap := by rw [iz_nat (by omega) (by omega)]; omega
    have z0 : (0 : Int32).toNatClampNeg = 0 := by decide
    refine ⟨⟨by omega, by omega⟩, ⟨by omega, by omega⟩, 21, cap, nc, k3, Or.inl rfl, ka, by decide, by decide, by rw [ilt rfl il0 (IRn (by omega)) ⟨by decide, by decide⟩]; omega, by rw [zc, z0]; omega, by rw [zc, z0]; omega, fun j hj => ?_, ?_⟩
    · rw [zc] at hj
      rw [z0, u1_off ne1, show 0 + j = j by omega]
      exact s7 j hj
    rw [zc, z0]
    obtain ⟨f, hf⟩ : ∃ f, f = cp2 (u1 I a (fun _ => 0)) ea 0 a 0 cap := ⟨_, rfl⟩
    obtain ⟨f1, f2, f3⟩ := cp2_new hf ne1
    rw [← hf]
    refine ⟨⟨by omega, by omega⟩, _, rfl, ?_⟩
    refine wB_of (oQ_at k1) ?_
    unfold wJ5_ensureCapacityInternal_d00df_b38
    refine ⟨⟨by decide, by decide⟩, rfl, hP a nc _ _ _ ⟨k1, u2_self, ka, by rw [f3 b nb1]; exact s4, by rw [f3 b nb1]; exact s5, ⟨by omega, n2⟩, fun j hj => ?_, fun k x hk => ?_⟩ n1 ⟨fun y hy => u1_off (fun z => hy (by rw [z]; exact ha)), fun y hy hx => ⟨f3 y (fun z => hy (by rw [z]; exact ha)), funext (fun j => u2_off hx j)⟩⟩ (Or.inr ha)⟩
    · by_cases z : j < cap
      · rw [f1 j z, show 0 + j = j by omega]
        exact s7 j z
      · rw [f2 j (by omega)]
        exact fits_0
    · have hk1 := (List.getElem?_eq_some_iff.mp hk).1
      rw [f1 k (by omega), show 0 + k = k by omega]
      exact s8 k x hk
end SB
