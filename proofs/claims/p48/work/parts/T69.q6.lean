/-! STAGE 2: scenes, shots, directions, actors, on both sides -/
section Q6
variable {fu : Nat} {sh : HS} {I : HI} {R : HR} {AD : Int → Nat} {P : Int → Int → Int} {σ : STT}
theorem cq_actor (S : OKS sh AD) (V : VST σ) {c a : Int} (hc : IR c) (ha : IR a) (t : Bool) : CP AD R P σ (fun I => fX10_actor fu sh I R (AD 0) (iz c) (iz a) (bz t)) (aActor σ c a t) := by
  intro I C
  unfold aActor
  obtain ⟨a1, a2⟩ := ha
  by_cases h : σ.1 = true
  · have n3 := V.n3
    have B := C.ba S V h
    rw [if_pos h]
    simp only [fX10_actor, fX10_actor_b57, if_pos (isT_of S.pl), c_needBoard S C, if_pos h, oT0l, c_needScene S C V h hc, iz_lit, bz_zero]
    by_cases z : 0 ≤ c ∧ c ≤ σ.2.1 3 - 1
    · obtain ⟨⟨q1, q2, q3, q4, q5, q6⟩, q7⟩ := B.1.2.2.1 c z.1 (by omega)
      rw [if_pos z, oT0l]
      simp only [oR_at S.pl C.1.1.1.2.1, B.1.1.2.1, q1, q5, q6, bsome, fX10_needActor]
      by_cases y : 0 ≤ a ∧ a ≤ 5
      · rw [c_has B.1 (V.1 h) z.1 (by omega) y.1 (by omega), bsome]
        simp only [iz_lit, bz_zero]
        cases e : inS σ.2.1 c a
        · rw [if_pos rfl, oT0r, if_neg (fun k => absurd k.2.2 (by decide))]
          rfl
        · obtain ⟨r1, r2⟩ := q7 a y.1 (by omega) e
          rw [if_neg (by decide), oT0l, r1, r2, if_pos (show (0 ≤ c ∧ c ≤ σ.2.1 3 - 1) ∧ (0 ≤ a ∧ a ≤ 5) ∧ true = true from ⟨z, y, rfl⟩), bsome, bsome]
          cases t <;> rfl
      · rw [c_hasNo B.1 z.1 (by omega) (by omega) a1 a2, bsome]
        simp only [iz_lit, bz_zero]
        rw [if_pos True.intro, oT0r, if_neg (fun k => y k.2.1)]
        rfl
    · rw [if_neg z, oT0r, if_neg (fun k => z k.1)]
      rfl
  · rw [if_neg h]
    simp only [fX10_actor, if_pos (isT_of S.pl), c_needBoard S C, if_neg h, oT0r]
    rfl
end Q6
