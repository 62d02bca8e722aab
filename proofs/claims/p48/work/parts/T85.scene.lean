/-! STAGE 2: the class copies a scene -/
section Q20
variable {fu : Nat} {sh : HS} {I : HI} {R : HR} {AD : Int → Nat}
theorem cp2_ad (S : OKS sh AD) {s d j : Int} (d0 : 0 ≤ d) (d1 : d < 331) (j0 : 0 ≤ j) (j1 : j < 331) (f : HI) (k : Nat) : cp2 f (AD s) 0 (AD d) 0 6 (AD j) k = if j = d ∧ k < 6 then f (AD s) k else f (AD j) k := by
  unfold cp2
  by_cases z : j = d
  · subst z
    by_cases w : k < 6
    · rw [if_pos ⟨rfl, Nat.zero_le k, by omega⟩, if_pos ⟨rfl, w⟩, Nat.zero_add, Nat.sub_zero]
    · rw [if_neg (fun q => w (by omega)), if_neg (fun q => w q.2)]
  · rw [if_neg (fun q => z (S.2 j d j0 j1 d0 d1 q.1)), if_neg (fun q => z q.1)]
theorem c_copyScene (S : OKS sh AD) {i1 x1 y1 i2 x2 y2 : Int} (b1 : 0 ≤ i1 ∧ i1 < 331 ∧ 0 ≤ x1 ∧ x1 < 331 ∧ 0 ≤ y1 ∧ y1 < 331) (b2 : 0 ≤ i2 ∧ i2 < 331 ∧ 0 ≤ x2 ∧ x2 < 331 ∧ 0 ≤ y2 ∧ y2 < 331) (ne : ¬ i2 = i1 ∧ ¬ x2 = i1 ∧ ¬ y2 = i1 ∧ ¬ y2 = x1 ∧ ¬ i1 = x1 ∧ ¬ i1 = y1 ∧ ¬ x1 = y1) (t1 : sh (AD i1) = some (5, 4)) (t2 : sh (AD i2) = some (5, 4)) (tx1 : sh (AD x1) = some (20, 6)) (ty1 : sh (AD y1) = some (20, 6)) (tx2 : sh (AD x2) = some (20, 6)) (ty2 : sh (AD y2) = some (20, 6)) (r1 : R (AD i1) 2 = some (AD x1)) (r2 : R (AD i1) 3 = some (AD y1)) (r3 : R (AD i2) 2 = some (AD x2)) (r4 : R (AD i2) 3 = some (AD y2)) :
    ∃ I', fX6_copyFrom fu sh I R (AD i1) (AD i2) = some I' ∧ (I' (AD i1) 0 = I (AD i2) 0 ∧ I' (AD i1) 1 = I (AD i2) 1) ∧ (∀ k : Nat, k < 6 → I' (AD x1) k = I (AD x2) k ∧ I' (AD y1) k = I (AD y2) k) ∧ FR AD I I' (fun i _ => i = i1 ∨ i = x1 ∨ i = y1) := by
  obtain ⟨a0, a1, a2, a3, a4, a5⟩ := b1
  obtain ⟨c0, c1, c2, c3, c4, c5⟩ := b2
  obtain ⟨n1, n2, n3, n4, n5, n6, n7⟩ := ne
  refine ⟨cp2 (cp2 (u2 (u2 I (AD i1) 0 (I (AD i2) 0)) (AD i1) 1 (I (AD i2) 1)) (AD x2) 0 (AD x1) 0 6) (AD y2) 0 (AD y1) 0 6, ?_, ⟨?_, ?_⟩, fun k hk => ⟨?_, ?_⟩, ?_⟩
  · simp only [fX6_copyFrom, if_pos (isT_of t1), oI_at t2, oP_at t1, bsome, u2_ne S a0 a1 c0 c1 n1, oR_at t1 r1, oR_at t1 r2, oR_at t2 r3, oR_at t2 r4, iz_lit, oC_6 tx2 tx1, oC_6 ty2 ty1]
  · rw [cp2_ad S a4 a5 a0 a1, if_neg (fun q => n6 q.1), cp2_ad S a2 a3 a0 a1, if_neg (fun q => n5 q.1), u2_ad S a0 a1 a0 a1, if_neg (by omega), u2_ad S a0 a1 a0 a1, if_pos ⟨rfl, rfl⟩]
  · rw [cp2_ad S a4 a5 a0 a1, if_neg (fun q => n6 q.1), cp2_ad S a2 a3 a0 a1, if_neg (fun q => n5 q.1), u2_ad S a0 a1 a0 a1, if_pos ⟨rfl, rfl⟩]
  · rw [cp2_ad S a4 a5 a2 a3, if_neg (fun q => n7 q.1), cp2_ad S a2 a3 a2 a3, if_pos ⟨rfl, hk⟩, u2_ne S a0 a1 c2 c3 n2, u2_ne S a0 a1 c2 c3 n2]
  · rw [cp2_ad S a4 a5 a4 a5, if_pos ⟨rfl, hk⟩, cp2_ad S a2 a3 c4 c5, if_neg (fun q => n4 q.1), u2_ne S a0 a1 c4 c5 n3, u2_ne S a0 a1 c4 c5 n3]
  · intro i q0 q1 k hk
    rw [cp2_ad S a4 a5 q0 q1, if_neg (fun q => hk (Or.inr (Or.inr q.1))), cp2_ad S a2 a3 q0 q1, if_neg (fun q => hk (Or.inr (Or.inl q.1))), u2_ne S a0 a1 q0 q1 (fun q => hk (Or.inl q)), u2_ne S a0 a1 q0 q1 (fun q => hk (Or.inl q))]
end Q20
