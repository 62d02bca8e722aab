/-! THE LAW, STAGE 2: the planner and the law's board side by side -/
/-- the law's cells -/
def LC (A : Nat → Nat) (S : List Nat) (M : Int) (a : Nat) : Prop := (a = A 0 ∨ a = A 1 ∨ a = A 2 ∨ a = A 3 ∨ a = A 4 ∨ a = A 5) ∨ (∃ c : Nat, (c : Int) < M ∧ (a = A (6 + c) ∨ a = A (9 + c))) ∨ a ∈ S
theorem LBD.gen {sh sh' : HS} {I I' : HI} {R R' : HR} {K A : Nat → Nat} {cap : Nat} {S : List Nat} {ρ : RHO} (B : LBD sh I R K A cap S ρ) (e : ∀ a, LC A S (ρ 3) a → sh' a = sh a ∧ I' a = I a ∧ R' a = R a) : LBD sh' I' R' K A cap S ρ := by
  obtain ⟨⟨⟨s1, s2, s3, s4, s5⟩, s6, ⟨s7, s8, s9⟩, s10⟩, l, v1, v2, v3, v4⟩ := B
  have f0 := e (A 0) (Or.inl (Or.inl rfl))
  have f1 := e (A 1) (Or.inl (Or.inr (Or.inl rfl)))
  have f2 := e (A 2) (Or.inl (Or.inr (Or.inr (Or.inl rfl))))
  have f3 := e (A 3) (Or.inl (Or.inr (Or.inr (Or.inr (Or.inl rfl)))))
  have f4 := e (A 4) (Or.inl (Or.inr (Or.inr (Or.inr (Or.inr (Or.inl rfl))))))
  have f5 := e (A 5) (Or.inl (Or.inr (Or.inr (Or.inr (Or.inr (Or.inr rfl))))))
  have f6 := fun (c : Nat) (hc : (c : Int) < ρ 3) => e (A (6 + c)) (Or.inr (Or.inl ⟨c, hc, Or.inl rfl⟩))
  have f9 := fun (c : Nat) (hc : (c : Int) < ρ 3) => e (A (9 + c)) (Or.inr (Or.inl ⟨c, hc, Or.inr rfl⟩))
  have fs := fun (q : Nat) (hq : q ∈ S) => e q (Or.inr (Or.inr hq))
  refine ⟨⟨⟨f0.1.trans s1, by rw [f0.2.2]; exact s2, by rw [f0.2.2]; exact s3, by rw [f0.2.2]; exact s4, by rw [f0.2.2]; exact s5⟩, fun q hq => (fs q hq).1.trans (s6 q hq), ⟨f3.1.trans s7, f4.1.trans s8, f5.1.trans s9⟩, fun c hc => ?_⟩, l.cg f1.1 (by rw [f1.2.1]) (by rw [f1.2.2]) f2.1 f2.2.2, ?_, fun c hc => ?_, v3, fun k q hk => ?_⟩
  · obtain ⟨c1, c2, c3, c4⟩ := s10 c hc
    exact ⟨by rw [f4.2.2]; exact c1, by rw [f5.2.2]; exact c2, (f6 c hc).1.trans c3, (f9 c hc).1.trans c4⟩
  · rw [f0.2.1]; exact v1
  · rw [f3.2.1, (f6 c hc).2.1, (f9 c hc).2.1]
    exact v2 c hc
  · rw [(fs q (List.mem_of_getElem? hk)).2.1]
    exact v4 k q hk
theorem LBD.nn {sh : HS} {I : HI} {R : HR} {K A : Nat → Nat} {cap : Nat} {S : List Nat} {ρ : RHO} (B : LBD sh I R K A cap S ρ) {a : Nat} (h : LC A S (ρ 3) a) : ¬ sh a = none := by
  obtain ⟨⟨⟨s1, s2, s3, s4, s5⟩, s6, ⟨s7, s8, s9⟩, s10⟩, l, v1, v2, v3, v4⟩ := B
  rcases h with (rfl | rfl | rfl | rfl | rfl | rfl) | ⟨c, hc, rfl | rfl⟩ | h
  · exact nnk s1
  · exact nnk l.1
  · rcases l.2.2.1 with ⟨w, -⟩ | ⟨w, -⟩
    · exact nnk w
    · exact nnk w
  · exact nnk s7
  · exact nnk s8
  · exact nnk s9
  · exact nnk (s10 c hc).2.2.1
  · exact nnk (s10 c hc).2.2.2
  · exact nnk (s6 a h)
theorem kd_B316 : ((List.range 316).all fun i => decide ((kd (i : Int)).1 < 9 ∨ (kd (i : Int)).1 = 20 ∨ (30 ≤ (kd (i : Int)).1 ∧ (kd (i : Int)).1 < 38))) = true := by decide +kernel
theorem FGN.of {sh : HS} {AD : Int → Nat} (s : SHP sh AD) {b t n : Nat} (h : sh b = some (t, n)) (ht : ¬ (t < 9 ∨ t = 20 ∨ (30 ≤ t ∧ t < 38))) : FGN AD b := fun i h0 h1 e => by
  have k := s i h0 h1
  rw [← e, h] at k
  have hd := of_decide_eq_true (List.all_eq_true.mp kd_B316 i.toNat (List.mem_range.mpr (by omega)))
  rw [show ((i.toNat : Nat) : Int) = i by omega, ← Option.some.inj k] at hd
  exact ht hd
def WLD (K : Nat → Nat) (σ : STT) (AD : Int → Nat) (A : Nat → Nat) (cap : Nat) (S : List Nat) (sh : HS) (I : HI) (R : HR) : Prop := PLS sh I R σ AD ∧ σ.1 = true ∧ LBD sh I R K A cap S σ.2.1 ∧ OLD sh I R K ∧ ∀ a, LC A S (σ.2.1 3) a → FGN AD a
section WL
variable {K : Nat → Nat} {σ : STT} {AD : Int → Nat} {A : Nat → Nat} {cap : Nat} {S : List Nat} {sh sh' : HS} {I I' : HI} {R R' : HR}
theorem WLD.VB (W : WLD K σ AD A cap S sh I R) : VB σ.2.1 := W.1.V.1 W.2.1
theorem OLD.cls (O : OLD sh I R K) (s : SHP sh AD) (h : ∀ b, FGN AD b → I' b = I b ∧ R' b = R b) : OLD sh I' R' K := by
  obtain ⟨h1, h2, h3⟩ := O
  refine ⟨h1, h2, fun j hj => ?_⟩
  obtain ⟨q, q1, q2, q3⟩ := h3 j hj
  exact ⟨q, by rw [(h _ (FGN.of s h2 (by decide))).2]; exact q1, q2, by rw [(h _ (FGN.of s q2 (by decide))).1]; exact q3⟩
theorem WLD.ext (W : WLD K σ AD A cap S sh I R) (e : EXH (fun _ => False) sh I R sh' I' R') : WLD K σ AD A cap S sh' I' R' := by
  obtain ⟨w1, w2, w3, w4, w5⟩ := W
  refine ⟨w1.fr (fun i h0 h1 => ?_), w2, w3.ex0 e, w4.ex0 e, w5⟩
  have hn := nnk (w1.1 i h0 h1)
  exact ⟨e.1 _ hn, e.2 _ hn (fun z => z)⟩
theorem WLD.que {f : HI → Option ((Int32 ⊕ String) × HI)} {a : Int ⊕ Nat} (W : WLD K σ AD A cap S sh I R) (H : ∀ AD' P, AGR6 AD AD' → OKS sh AD' → CQ sh AD' R P σ f a) : ∃ I', f I = some (cOut a, I') ∧ WLD K σ AD A cap S sh I' R ∧ ∀ b, FGN AD b → I' b = I b := by
  obtain ⟨w1, w2, w3, w4, w5⟩ := W
  obtain ⟨I', e1, e2, e3⟩ := w1.que H
  exact ⟨I', e1, ⟨e2, w2, w3.gen (fun b hb => ⟨rfl, e3 b (w5 b hb), rfl⟩), w4.cls w1.1 (fun b hb => ⟨e3 b hb, rfl⟩), w5⟩, e3⟩
theorem WLD.ask {f : HI → Option (Int32 ⊕ String)} {a : Int ⊕ Nat} (W : WLD K σ AD A cap S sh I R) (H : ∀ P, OKS sh AD → CP AD R P σ f a) : f I = some (cOut a) := W.1.ask H
end WL
theorem wB_ask {o : Option (Int32 ⊕ String)} {v : Int} {Kc : Int32 → Prop} (h : o = some (cOut (.inl v))) (hk : Kc (iz v)) : wB o fun r => wS r Kc := by rw [h]; exact hk
theorem wB_que {o : Option ((Int32 ⊕ String) × HI)} {v : Int} {I' : HI} {Kc : Int32 → ((Int32 ⊕ String) × HI) → Prop} (h : o = some (cOut (.inl v), I')) (hk : Kc (iz v) (cOut (.inl v), I')) : wB o fun r => wS r.1 fun x => Kc x r := by rw [h]; exact hk
theorem IRn {n : Nat} (h : n ≤ 2147483647) : IR (n : Int) := ⟨by omega, by omega⟩
