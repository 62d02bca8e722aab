/-! THE LAW, STAGE 2: boxed ints, elements replaced, what a heap's growth leaves of lists and boards -/
/-- the old cells that the JDK's statics name: the empty array, the small Integers -/
def OLD (sh : HS) (I : HI) (R : HR) (K : Nat → Nat) : Prop := sh (K nS) = some (24, 0) ∧ sh (K (nS + 1)) = some (25, 256) ∧ ∀ j : Nat, j < 256 → ∃ q, R (K (nS + 1)) j = some q ∧ sh q = some (26, 1) ∧ I q 0 = iz ((j : Int) - 128)
def BOX (sh : HS) (I : HI) (q : Nat) (v : Int) : Prop := (sh q = some (12, 1) ∨ sh q = some (26, 1)) ∧ I q 0 = iz v
theorem BOX.nn {sh : HS} {I : HI} {q : Nat} {v : Int} (h : BOX sh I q v) : ¬ sh q = none := by
  rcases h.1 with z | z <;> exact nnk z
theorem BOX.ex {X : Nat → Prop} {sh sh' : HS} {I I' : HI} {R R' : HR} {q : Nat} {v : Int} (h : BOX sh I q v) (e : EXH X sh I R sh' I' R') (hx : ¬ X q) : BOX sh' I' q v := by
  unfold BOX
  rw [e.1 q h.nn, (e.2 q h.nn hx).1]
  exact h
theorem BOX.ok {sh : HS} {I : HI} {q : Nat} {v : Int} (h : BOX sh I q v) : okEb sh q = true := by
  unfold okEb
  rcases h.1 with z | z <;> simp [isT_of z]
theorem OLD.ex {X : Nat → Prop} {sh sh' : HS} {I I' : HI} {R R' : HR} {K : Nat → Nat} (h : OLD sh I R K) (e : EXH X sh I R sh' I' R') (hx : ∀ (a : Nat) (z : Nat × Nat), sh a = some z → 22 ≤ z.1 → z.1 < 30 → ¬ X a) : OLD sh' I' R' K := by
  obtain ⟨h1, h2, h3⟩ := h
  refine ⟨e.k h1, e.k h2, fun j hj => ?_⟩
  obtain ⟨q, q1, q2, q3⟩ := h3 j hj
  refine ⟨q, by rw [(e.2 _ (nnk h2) (hx _ _ h2 (by decide) (by decide))).2]; exact q1, e.k q2, by rw [(e.2 _ (nnk q2) (hx _ _ q2 (by decide) (by decide))).1]; exact q3⟩
theorem OLD.ex0 {sh sh' : HS} {I I' : HI} {R R' : HR} {K : Nat → Nat} (h : OLD sh I R K) (e : EXH (fun _ => False) sh I R sh' I' R') : OLD sh' I' R' K := h.ex e (fun _ _ _ _ _ z => z)
section JD
variable {K J : Nat → Nat} {fu : Nat} {sh : HS} {I : HI} {R : HR} {L ea cap v q : Nat} {S : List Nat}
theorem l_valueOf {P : Nat → HS → HI → HR → Prop} (h : OLD sh I R K) {x : Int} (hx : IR x) (hP : ∀ q sh' I' R', EXH (fun _ => False) sh I R sh' I' R' → BOX sh' I' q x → P q sh' I' R') : wJ6_valueOf_2dffe K J fu sh I R (iz x) (qwR P) := by
  obtain ⟨h1, h2, h3⟩ := h
  have mk : wJ6_valueOf_2dffe_b23 K J fu (qwR P) sh I R 0 0 (iz x) := by
    unfold wJ6_valueOf_2dffe_b23
    refine ⟨⟨by decide, by decide⟩, fun a ha => ⟨⟨by decide, by decide⟩, ?_⟩⟩
    unfold wJ6_init_d00df wJxd2413_init_da8c8
    refine ⟨rfl, ?_⟩
    refine wB_of (oP_at (t := 12) (n := 1) u1_on) ?_
    refine ⟨rfl, ⟨by decide, by decide⟩, _, rfl, ?_⟩
    refine hP a _ _ _ ?_ ⟨Or.inl u1_on, u2_self⟩
    exact ⟨fun q hq => u1_off (fun e => hq (by rw [e]; exact ha)), fun q hq _ => by
      have hne : q ≠ a := fun e => hq (by rw [e]; exact ha)
      exact ⟨by funext j; rw [u2_off hne, u1_off hne], u1_off hne⟩⟩
  unfold wJ6_valueOf_2dffe
  by_cases c1 : x < -128
  · rw [if_pos (by rw [ilt rfl (show (-128 : Int32) = iz (-128) by decide) hx ⟨by decide, by decide⟩]; exact c1)]
    exact mk
  · rw [if_neg (by rw [ilt rfl (show (-128 : Int32) = iz (-128) by decide) hx ⟨by decide, by decide⟩]; exact c1)]
    by_cases c2 : 127 < x
    · rw [if_pos (by rw [ilt (show (127 : Int32) = iz 127 by decide) rfl ⟨by decide, by decide⟩ hx]; exact c2)]
      exact mk
    · rw [if_neg (by rw [ilt (show (127 : Int32) = iz 127 by decide) rfl ⟨by decide, by decide⟩ hx]; exact c2)]
      obtain ⟨q, q1, q2, q3⟩ := h3 (x + 128).toNat (by omega)
      refine wB_of (v := q) ((oAr_n h2 (x + 128).toNat (by omega) ?_).trans q1) ?_
      · rw [show (128 : Int32) = iz 128 by decide, iz_add]
        congr 1
        omega
      · refine ⟨⟨by decide, by decide⟩, _, rfl, ?_⟩
        refine hP q sh I R (EXH.rf _ sh I R) ⟨Or.inr q2, ?_⟩
        rw [q3]
        congr 1
        omega
theorem l_int {P : Int32 → HS → HI → HR → Prop} {x : Int} (h : BOX sh I q x) (hP : P (iz x) sh I R) : wJ6_intValue_8abf5 K J fu sh I R q (qwI P) := by
  unfold wJ6_intValue_8abf5
  have e : oI2 sh I q 12 0 = some (iz x) := by
    unfold oI2
    rw [if_pos (by rcases h.1 with z | z <;> simp [isT_of z]), h.2]
  refine wB_of e ?_
  exact ⟨_, rfl, hP⟩
theorem BOX.kt {x : Int} (h : BOX sh I q x) : oKt sh q 3 = some () := by
  unfold oKt
  rcases h.1 with z | z <;> simp [isT_of z]
theorem BOX.rcv {x : Int} (h : BOX sh I q x) : rcvB sh q 12 = true := by
  unfold rcvB
  rcases h.1 with z | z <;> simp [isT_of z]
theorem LST.set (h : LST sh I R K L ea cap S) {k : Nat} (hk : k < S.length) (v : Nat) : LST sh I (u2 R ea k (some v)) K L ea cap (S.set k v) := by
  have hne := h.ne
  obtain ⟨h1, h2, h3, h4, h5, h6, h7⟩ := h
  refine ⟨h1, by rw [u2_off hne]; exact h2, ?_, by rw [List.length_set]; exact h4, h5, by rw [List.length_set]; exact h6, fun j q hj => ?_⟩
  · rcases h3 with h3 | ⟨h3, h8, h9, h10⟩
    · exact Or.inl h3
    · rw [h9] at hk; exact absurd hk (Nat.not_lt_zero _)
  · rw [u2_on]
    by_cases z : j = k
    · rw [if_pos z]
      rw [z, List.getElem?_set_self hk] at hj
      exact hj
    · rw [if_neg z]
      rw [List.getElem?_set_ne (Ne.symm z)] at hj
      exact h7 j q hj
theorem l_set {P : Nat → HS → HI → HR → Prop} (h : LST sh I R K L ea cap S) {k q : Nat} (hk : S[k]? = some q) (hv : okEb sh v = true) (hP : P q sh I (u2 R ea k (some v))) : wJx4a65c_set_bcc79 K J fu sh I R L (iz (k : Int)) v (qwR P) := by
  have g := h.lt hk
  have hh := h
  obtain ⟨h1, h2, h3, h4, h5, h6, h7⟩ := h
  unfold wJx4a65c_set_bcc79
  refine wB_of (oI_at h1) ?_
  rw [h6]
  refine l_chk (by omega) (by omega) (by omega) ?_
  refine ⟨rcv_k h1, l_elem hh hk ?_⟩
  refine wB_of (oR_at h1 h2) ?_
  refine wB_of (oAs_n g.2 k (by omega) rfl hv (by omega)) ?_
  exact ⟨_, rfl, hP⟩
end JD
theorem LBD.ex0 {sh sh' : HS} {I I' : HI} {R R' : HR} {K A : Nat → Nat} {cap : Nat} {S : List Nat} {ρ : RHO} (B : LBD sh I R K A cap S ρ) (e : EXH (fun _ => False) sh I R sh' I' R') : LBD sh' I' R' K A cap S ρ := by
  obtain ⟨⟨⟨s1, s2, s3, s4, s5⟩, s6, ⟨s7, s8, s9⟩, s10⟩, l, v1, v2, v3, v4⟩ := B
  have f : ∀ {a : Nat} {z : Nat × Nat}, sh a = some z → sh' a = some z ∧ I' a = I a ∧ R' a = R a := fun {a z} h => ⟨e.k h, (e.2 a (nnk h) (fun w => w)).1, (e.2 a (nnk h) (fun w => w)).2⟩
  refine ⟨⟨⟨(f s1).1, by rw [(f s1).2.2]; exact s2, by rw [(f s1).2.2]; exact s3, by rw [(f s1).2.2]; exact s4, by rw [(f s1).2.2]; exact s5⟩, fun q hq => (f (s6 q hq)).1, ⟨(f s7).1, (f s8).1, (f s9).1⟩, fun c hc => ?_⟩, l.ex e (fun w => w) (fun w => w), ?_, fun c hc => ?_, v3, fun k q hk => ?_⟩
  · obtain ⟨c1, c2, c3, c4⟩ := s10 c hc
    exact ⟨by rw [(f s8).2.2]; exact c1, by rw [(f s9).2.2]; exact c2, (f c3).1, (f c4).1⟩
  · rw [(f s1).2.1]; exact v1
  · obtain ⟨c1, c2, c3, c4⟩ := s10 c hc
    rw [(f s7).2.1, (f c3).2.1, (f c4).2.1]
    exact v2 c hc
  · rw [(f (s6 q (List.mem_of_getElem? hk))).2.1]
    exact v4 k q hk
