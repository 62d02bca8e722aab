/-! STAGE 3: the planner's parts, each with what it refers to -/
def gB (y : Nat) (sh : HS) (I : HI) (R : HR) (bs : List (Nat × Nat × Nat)) : Prop := ∃ (A B : Nat) (s x z h : Nat → Nat), bs = bdP A B s x z h ∧ BDR R y A B s x z h ∧ BDS sh y A B s
def gR (y : Nat) (sh : HS) (I : HI) (R : HR) (bs : List (Nat × Nat × Nat)) : Prop := ∃ x : Nat, bs = [(x, 20, 0)]
def gH (y : Nat) (sh : HS) (I : HI) (R : HR) (bs : List (Nat × Nat × Nat)) : Prop := ∃ (C : Nat) (b A B : Nat → Nat) (s x z h : Nat → Nat → Nat), bs = (C, 30, 10) :: bdL b A B s x z h 10 ∧ (R y 0 = some C ∧ sh C = some (30, 10)) ∧ ∀ m, m < 10 → R C m = some (b m) ∧ BDR R (b m) (A m) (B m) (s m) (x m) (z m) (h m) ∧ BDS sh (b m) (A m) (B m) (s m)
def gT (y : Nat) (sh : HS) (I : HI) (R : HR) (bs : List (Nat × Nat × Nat)) : Prop := ∃ x1 x2 x3 x4 x5 x6 x7 x8 x9 : Nat, bs = [(x1, 20, 12), (x2, 20, 12), (x3, 20, 12), (x4, 20, 12), (x5, 20, 12), (x6, 20, 12), (x7, 20, 12), (x8, 20, 12), (x9, 20, 12)] ∧ (R y 1 = some x1 ∧ R y 2 = some x2 ∧ R y 3 = some x3 ∧ R y 4 = some x4 ∧ R y 5 = some x5 ∧ R y 6 = some x6 ∧ R y 7 = some x7 ∧ R y 8 = some x8 ∧ R y 9 = some x9)
def gO (n2 n3 n1 : Nat) (y : Nat) (sh : HS) (I : HI) (R : HR) (bs : List (Nat × Nat × Nat)) : Prop := ∃ x1 x2 x3 x4 : Nat, bs = [(x1, 20, n1), (x2, 20, n2), (x3, 20, n3), (x4, 20, n1)] ∧ (R y 1 = some x1 ∧ R y 2 = some x2 ∧ R y 3 = some x3 ∧ R y 4 = some x4)
def gP (y : Nat) (sh : HS) (I : HI) (R : HR) (bs : List (Nat × Nat × Nat)) : Prop := ∃ x : Nat, bs = [(x, 20, 1056)] ∧ R y 0 = some x
section Q84
variable {K J : Nat → Nat} {sh : HS} {I : HI} {R : HR} {y : Nat}
theorem pv_B : V K J 0 0 (ent (mL 0) [.ref y]) [] (u1 sh y (some (0, fN 0))) (u1 I y (fun _ => 0)) (u1 R y (fun _ => none)) (0, 0) (fun o sh' I' R' => o = .inl none ∧ ∃ bs, ALC (u1 sh y (some (0, fN 0))) sh' (u1 I y (fun _ => 0)) I' (u1 R y (fun _ => none)) R' y bs ∧ gB y sh' I' R' bs) := by
  refine vX0_init (u1_eq _ _ _) (fun A B s x z h sh' I' R' G => ⟨rfl, _, G.1, A, B, s, x, z, h, rfl, ⟨G.2.1, G.2.2.1, G.2.2.2⟩, ?_⟩)
  obtain ⟨⟨-, A1⟩, ⟨-, B1⟩, S1⟩ := G.arr
  exact ⟨(G.1.1 y (by rw [u1_eq]; simp)).1.trans (u1_eq _ _ _), A1, B1, S1⟩
theorem pv_R : V K J 9 0 (ent (mL 9) [.ref y]) [] (u1 sh y (some (1, fN 1))) (u1 I y (fun _ => 0)) (u1 R y (fun _ => none)) (0, 0) (fun o sh' I' R' => o = .inl none ∧ ∃ bs, ALC (u1 sh y (some (1, fN 1))) sh' (u1 I y (fun _ => 0)) I' (u1 R y (fun _ => none)) R' y bs ∧ gR y sh' I' R' bs) :=
  vX1_init (u1_eq _ _ _) (fun x sh' I' R' G _ => ⟨rfl, _, G, x, rfl⟩)
theorem pv_H : V K J 37 0 (ent (mL 37) [.ref y]) [] (u1 sh y (some (2, fN 2))) (u1 I y (fun _ => 0)) (u1 R y (fun _ => none)) (0, 0) (fun o sh' I' R' => o = .inl none ∧ ∃ bs, ALC (u1 sh y (some (2, fN 2))) sh' (u1 I y (fun _ => 0)) I' (u1 R y (fun _ => none)) R' y bs ∧ gH y sh' I' R' bs) := by
  refine vX3_init (u1_eq _ _ _) (fun C b A B s x z h sh' I' R' G => ?_)
  obtain ⟨⟨-, C1⟩, S1⟩ := G.shp
  exact ⟨rfl, _, G.1, C, b, A, B, s, x, z, h, rfl, ⟨G.2.1, C1⟩, fun m hm => ⟨(G.2.2 m hm).1, (G.2.2 m hm).2, S1 m hm⟩⟩
theorem pv_T : V K J 46 0 (ent (mL 46) [.ref y]) [] (u1 sh y (some (6, fN 6))) (u1 I y (fun _ => 0)) (u1 R y (fun _ => none)) (0, 0) (fun o sh' I' R' => o = .inl none ∧ ∃ bs, ALC (u1 sh y (some (6, fN 6))) sh' (u1 I y (fun _ => 0)) I' (u1 R y (fun _ => none)) R' y bs ∧ gT y sh' I' R' bs) :=
  vX7_init (u1_eq _ _ _) (fun x1 x2 x3 x4 x5 x6 x7 x8 x9 sh' I' R' G r _ => ⟨rfl, _, G, x1, x2, x3, x4, x5, x6, x7, x8, x9, rfl, r⟩)
theorem pv_O12 : V K J 41 0 (ent (mL 41) [.ref y, .int 12]) [] (u1 sh y (some (4, fN 4))) (u1 I y (fun _ => 0)) (u1 R y (fun _ => none)) (0, 0) (fun o sh' I' R' => o = .inl none ∧ ∃ bs, ALC (u1 sh y (some (4, fN 4))) sh' (u1 I y (fun k => if k = 0 then 12 else 0)) I' (u1 R y (fun _ => none)) R' y bs ∧ gO 144 49152 12 y sh' I' R' bs) := by
  refine vX5_init12 (u1_eq _ _ _) (fun x1 x2 x3 x4 sh' I' R' G r => ⟨rfl, _, ?_, x1, x2, x3, x4, rfl, r⟩)
  rw [u2_u1] at G
  exact G
theorem pv_O6 : V K J 41 0 (ent (mL 41) [.ref y, .int 6]) [] (u1 sh y (some (4, fN 4))) (u1 I y (fun _ => 0)) (u1 R y (fun _ => none)) (0, 0) (fun o sh' I' R' => o = .inl none ∧ ∃ bs, ALC (u1 sh y (some (4, fN 4))) sh' (u1 I y (fun k => if k = 0 then 6 else 0)) I' (u1 R y (fun _ => none)) R' y bs ∧ gO 36 384 6 y sh' I' R' bs) := by
  refine vX5_init6 (u1_eq _ _ _) (fun x1 x2 x3 x4 sh' I' R' G r => ⟨rfl, _, ?_, x1, x2, x3, x4, rfl, r⟩)
  rw [u2_u1] at G
  exact G
theorem pv_P : V K J 40 0 (ent (mL 40) [.ref y]) [] (u1 sh y (some (3, fN 3))) (u1 I y (fun _ => 0)) (u1 R y (fun _ => none)) (0, 0) (fun o sh' I' R' => o = .inl none ∧ ∃ bs, ALC (u1 sh y (some (3, fN 3))) sh' (u1 I y (fun _ => 0)) I' (u1 R y (fun _ => none)) R' y bs ∧ gP y sh' I' R' bs) :=
  vX4_init (u1_eq _ _ _) (fun x sh' I' R' G r => ⟨rfl, _, G, x, rfl, by rw [r]; rfl⟩)
end Q84
