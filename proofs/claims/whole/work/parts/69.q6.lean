/-! STAGE 2: scenes, shots, directions, actors, on both sides -/
section Q6
variable {fu : Nat} {sh : HS} {I : HI} {R : HR} {AD : Int → Nat} {P : Int → Int → Int} {σ : STT}
theorem rq_scene (S : OKS sh AD) (V : VST σ) (hfu : 5000 ≤ fu) {c b : Int} (hc : IR c) (hb : IR b) : RQ sh AD R σ (fun I => fX11_scene fu sh I R (AD 316) (iz c) (iz b)) (aScene σ c b) := by
  intro I H
  unfold aScene
  have n3 := V.n3
  obtain ⟨b1, b2⟩ := hb
  obtain ⟨g, hg⟩ : ∃ g, g = decide ((0 ≤ c ∧ c ≤ σ.2.1 3 - 1) ∧ (0 ≤ b ∧ b ≤ 2)) := ⟨_, rfl⟩
  have e22 : fX11_scene fu sh I R (AD 316) (iz c) (iz b) = fX11_scene_b26 fu sh R I (AD 316) (iz c) (iz b) (bz g) (AD 316) := by
    simp only [fX11_scene, fX11_scene_b25, if_pos (isT_of S.md), r_isScene S H V hc, bsome, iz_lit, jlit, r_isInC ⟨b1, b2⟩ (by decide : (-1000 : Int) ≤ 0) (by decide) (by decide : (-1000 : Int) ≤ 2) (by decide), bz_zero]
    by_cases z : 0 ≤ c ∧ c ≤ σ.2.1 3 - 1
    · rw [if_neg (by rw [(bdec (p := 0 ≤ c) (q := c ≤ σ.2.1 3 - 1)).mpr z]; decide)]
      by_cases y : 0 ≤ b ∧ b ≤ 2
      · rw [decide_eq_true y, if_neg (by decide), hg, decide_eq_true (show (0 ≤ c ∧ c ≤ σ.2.1 3 - 1) ∧ (0 ≤ b ∧ b ≤ 2) from ⟨z, y⟩)]
        rfl
      · rw [decide_eq_false y, if_pos rfl, hg, decide_eq_false (fun k => y k.2)]
        rfl
    · rw [if_pos (by cases q : (decide (0 ≤ c) && decide (c ≤ σ.2.1 3 - 1)); rfl; exact absurd (bdec.mp q) z), hg, decide_eq_false (fun k => z k.1)]
      rfl
  have w := r_isWrong (fu := fu) (R := R) (σ := σ) S H.2.2.1.2.1 g
  by_cases h : σ.1 = true
  · by_cases z : (0 ≤ c ∧ c ≤ σ.2.1 3 - 1) ∧ (0 ≤ b ∧ b ≤ 2)
    · rw [wr0 h (by rw [hg, decide_eq_true z])] at w
      obtain ⟨H1, e5, f1⟩ := r_out (σ := σ) S H 0
      refine ⟨_, ?_, ?_, H1, f1⟩
      · refine e22.trans ?_
        simp only [fX11_scene_b26, fX11_scene_b58, fX11_sceneAt, w, oHs, iz_lit, bz_zero]
        rw [if_pos (by decide)]
        simp only [oR_at S.md H.1.1.1, bsome, iz_mul, iz_add, r_ns S H1.1 H1.2.1 (V.1 h) hfu z.1.1 (show c < 3 by omega)]
        rw [r_row S H1.1 H1.2.1 (show (0 : Int) ≤ 5 + 14 * c + b by omega) (by omega), bsome, if_pos h, if_pos z]
        have k : b = 0 ∨ b = 1 ∨ b = 2 := by omega
        rcases k with rfl | rfl | rfl
        · rw [Int.add_zero]; rfl
        · rfl
        · rfl
      · rw [e5, if_pos h, if_pos z]
        rfl
    · rw [wr2 h (by rw [hg, decide_eq_false z])] at w
      obtain ⟨H1, e5, f1⟩ := r_out (σ := σ) S H 2
      refine ⟨_, ?_, ?_, H1, f1⟩
      · refine e22.trans ?_
        simp only [fX11_scene_b26, fX11_scene_b58, w, oHs, iz_lit, bz_zero]
        rw [if_neg (by decide), if_pos h, if_neg z]
        rfl
      · rw [e5, if_pos h, if_neg z]
        rfl
  · have hf : σ.1 = false := by simpa using h
    rw [wr1 hf] at w
    obtain ⟨H1, e5, f1⟩ := r_out (σ := σ) S H 1
    refine ⟨_, ?_, ?_, H1, f1⟩
    · refine e22.trans ?_
      simp only [fX11_scene_b26, fX11_scene_b58, w, oHs, iz_lit, bz_zero]
      rw [if_neg (by decide), if_neg h]
      rfl
    · rw [e5, if_neg h]
      rfl
theorem rq_shot (S : OKS sh AD) (V : VST σ) {a b : Int} (ha : IR a) (hb : IR b) : RQ sh AD R σ (fun I => fX11_shot fu sh I R (AD 316) (iz a) (iz b)) (aShotW σ a b) := by
  intro I H
  unfold aShotW
  have n4 := V.n4
  obtain ⟨b1, b2⟩ := hb
  obtain ⟨g, hg⟩ : ∃ g, g = decide ((0 ≤ a ∧ a ≤ σ.2.1 4 - 1) ∧ (0 ≤ b ∧ b ≤ 5)) := ⟨_, rfl⟩
  have e22 : fX11_shot fu sh I R (AD 316) (iz a) (iz b) = fX11_shot_b26 fu sh R I (AD 316) (iz a) (iz b) (bz g) (AD 316) := by
    simp only [fX11_shot, fX11_shot_b25, if_pos (isT_of S.md), r_isShot S H V ha, bsome, iz_lit, jlit, r_isInC ⟨b1, b2⟩ (by decide : (-1000 : Int) ≤ 0) (by decide) (by decide : (-1000 : Int) ≤ 5) (by decide), bz_zero]
    by_cases z : 0 ≤ a ∧ a ≤ σ.2.1 4 - 1
    · rw [if_neg (by rw [(bdec (p := 0 ≤ a) (q := a ≤ σ.2.1 4 - 1)).mpr z]; decide)]
      by_cases y : 0 ≤ b ∧ b ≤ 5
      · rw [decide_eq_true y, if_neg (by decide), hg, decide_eq_true (show (0 ≤ a ∧ a ≤ σ.2.1 4 - 1) ∧ (0 ≤ b ∧ b ≤ 5) from ⟨z, y⟩)]
        rfl
      · rw [decide_eq_false y, if_pos rfl, hg, decide_eq_false (fun k => y k.2)]
        rfl
    · rw [if_pos (by cases q : (decide (0 ≤ a) && decide (a ≤ σ.2.1 4 - 1)); rfl; exact absurd (bdec.mp q) z), hg, decide_eq_false (fun k => z k.1)]
      rfl
  have w := r_isWrong (fu := fu) (R := R) (σ := σ) S H.2.2.1.2.1 g
  by_cases h : σ.1 = true
  · by_cases z : (0 ≤ a ∧ a ≤ σ.2.1 4 - 1) ∧ (0 ≤ b ∧ b ≤ 5)
    · rw [wr0 h (by rw [hg, decide_eq_true z])] at w
      obtain ⟨H1, e5, f1⟩ := r_out (σ := σ) S H 0
      refine ⟨_, ?_, ?_, H1, f1⟩
      · refine e22.trans ?_
        simp only [fX11_shot_b26, fX11_shot_b42, w, oHs, iz_lit, bz_zero]
        rw [if_pos (by decide), r_get S H1.1 H1.2.1 z.1.1 (by omega) z.2.1 (by omega), bsome, if_pos h, if_pos z]
        rfl
      · rw [e5, if_pos h, if_pos z]
        rfl
    · rw [wr2 h (by rw [hg, decide_eq_false z])] at w
      obtain ⟨H1, e5, f1⟩ := r_out (σ := σ) S H 2
      refine ⟨_, ?_, ?_, H1, f1⟩
      · refine e22.trans ?_
        simp only [fX11_shot_b26, fX11_shot_b42, w, oHs, iz_lit, bz_zero]
        rw [if_neg (by decide), if_pos h, if_neg z]
        rfl
      · rw [e5, if_pos h, if_neg z]
        rfl
  · have hf : σ.1 = false := by simpa using h
    rw [wr1 hf] at w
    obtain ⟨H1, e5, f1⟩ := r_out (σ := σ) S H 1
    refine ⟨_, ?_, ?_, H1, f1⟩
    · refine e22.trans ?_
      simp only [fX11_shot_b26, fX11_shot_b42, w, oHs, iz_lit, bz_zero]
      rw [if_neg (by decide), if_neg h]
      rfl
    · rw [e5, if_neg h]
      rfl
theorem rq_direction (S : OKS sh AD) {a b : Int} (ha : IR a) (hb : IR b) : RQ sh AD R σ (fun I => fX11_direction fu sh I R (AD 316) (iz a) (iz b)) (aDir σ a b) := by
  intro I H
  unfold aDir
  obtain ⟨a1, a2⟩ := ha
  obtain ⟨b1, b2⟩ := hb
  obtain ⟨g, hg⟩ : ∃ g, g = decide ((-199 ≤ a ∧ a ≤ 199) ∧ (-199 ≤ b ∧ b ≤ 199)) := ⟨_, rfl⟩
  have e22 : fX11_direction fu sh I R (AD 316) (iz a) (iz b) = fX11_direction_b34 fu sh R I (iz a) (iz b) (bz g) (AD 316) := by
    simp only [fX11_direction, fX11_direction_b33, if_pos (isT_of S.md), bsome, iz_lit, jlit, jneg, r_isInC ⟨a1, a2⟩ (by decide : (-1000 : Int) ≤ -199) (by decide) (by decide : (-1000 : Int) ≤ 199) (by decide), r_isInC ⟨b1, b2⟩ (by decide : (-1000 : Int) ≤ -199) (by decide) (by decide : (-1000 : Int) ≤ 199) (by decide), bz_zero]
    by_cases z : -199 ≤ a ∧ a ≤ 199
    · rw [decide_eq_true z, if_neg (by decide)]
      by_cases y : -199 ≤ b ∧ b ≤ 199
      · rw [decide_eq_true y, if_neg (by decide), hg, decide_eq_true (show (-199 ≤ a ∧ a ≤ 199) ∧ (-199 ≤ b ∧ b ≤ 199) from ⟨z, y⟩)]
        rfl
      · rw [decide_eq_false y, if_pos rfl, hg, decide_eq_false (fun k => y k.2)]
        rfl
    · rw [decide_eq_false z, if_pos rfl, hg, decide_eq_false (fun k => z k.1)]
      rfl
  have w := r_isWrong (fu := fu) (R := R) (σ := σ) S H.2.2.1.2.1 g
  by_cases h : σ.1 = true
  · by_cases z : (-199 ≤ a ∧ a ≤ 199) ∧ (-199 ≤ b ∧ b ≤ 199)
    · rw [wr0 h (by rw [hg, decide_eq_true z])] at w
      obtain ⟨H1, e5, f1⟩ := r_out (σ := σ) S H 0
      refine ⟨_, ?_, ?_, H1, f1⟩
      · refine e22.trans ?_
        simp only [fX11_direction_b34, fX11_direction_b55, fX11_direction_b60, w, oHs, iz_lit, iz_neg, bz_zero]
        rw [if_pos (by decide), if_pos h, if_pos z]
        simp (disch := omega) only [iz_eq]
        by_cases q1 : a = 0
        · rw [if_pos q1]
          by_cases q2 : b = 0
          · rw [if_pos q2, if_pos (show a = 0 ∧ b = 0 from ⟨q1, q2⟩)]
            rfl
          · rw [if_neg q2, r_dir (by omega) (by omega) (by omega) (by omega) (fun q => q2 q.2), bsome, if_neg (show ¬ (a = 0 ∧ b = 0) from fun q => q2 q.2)]
            rfl
        · rw [if_neg q1, r_dir (by omega) (by omega) (by omega) (by omega) (fun q => q1 q.1), bsome, if_neg (show ¬ (a = 0 ∧ b = 0) from fun q => q1 q.1)]
          rfl
      · rw [e5, if_pos h, if_pos z]
        rfl
    · rw [wr2 h (by rw [hg, decide_eq_false z])] at w
      obtain ⟨H1, e5, f1⟩ := r_out (σ := σ) S H 2
      refine ⟨_, ?_, ?_, H1, f1⟩
      · refine e22.trans ?_
        simp only [fX11_direction_b34, w, oHs, iz_lit, bz_zero]
        rw [if_neg (by decide), if_pos h, if_neg z]
        rfl
      · rw [e5, if_pos h, if_neg z]
        rfl
  · have hf : σ.1 = false := by simpa using h
    rw [wr1 hf] at w
    obtain ⟨H1, e5, f1⟩ := r_out (σ := σ) S H 1
    refine ⟨_, ?_, ?_, H1, f1⟩
    · refine e22.trans ?_
      simp only [fX11_direction_b34, w, oHs, iz_lit, bz_zero]
      rw [if_neg (by decide), if_neg h]
      rfl
    · rw [e5, if_neg h]
      rfl
theorem cq_actor (S : OKS sh AD) (V : VST σ) {c a : Int} (hc : IR c) (ha : IR a) (t : Bool) : CP AD R P σ (fun I => fX10_actor fu sh I R (AD 0) (iz c) (iz a) (bz t)) (aActor σ c a t) := by
  intro I C
  unfold aActor
  obtain ⟨a1, a2⟩ := ha
  by_cases h : σ.1 = true
  · have n3 := V.n3
    have B := C.ba S V h
    rw [if_pos h]
    simp only [fX10_actor, fX10_actor_b57, if_pos (isT_of S.pl), c_needBoard S C, if_pos h, oT0l, c_needScene S C V h hc, iz_lit, bz_zero]
    by_cases z : 0 ≤ c ∧ c ≤ σ.2.1 3 - 1
    · obtain ⟨⟨q1, q2, q3, q4, q5, q6⟩, q7⟩ := B.1.2.2.1 c z.1 (by omega)
      rw [if_pos z, oT0l]
      simp only [oR_at S.pl C.1.1.1.2.1, B.1.1.2.1, q1, q5, q6, bsome, fX10_needActor]
      by_cases y : 0 ≤ a ∧ a ≤ 5
      · rw [c_has B.1 (V.1 h) z.1 (by omega) y.1 (by omega), bsome]
        simp only [iz_lit, bz_zero]
        cases e : inS σ.2.1 c a
        · rw [if_pos rfl, oT0r, if_neg (fun k => absurd k.2.2 (by decide))]
          rfl
        · obtain ⟨r1, r2⟩ := q7 a y.1 (by omega) e
          rw [if_neg (by decide), oT0l, r1, r2, if_pos (show (0 ≤ c ∧ c ≤ σ.2.1 3 - 1) ∧ (0 ≤ a ∧ a ≤ 5) ∧ true = true from ⟨z, y, rfl⟩), bsome, bsome]
          cases t <;> rfl
      · rw [c_hasNo B.1 z.1 (by omega) (by omega) a1 a2, bsome]
        simp only [iz_lit, bz_zero]
        rw [if_pos True.intro, oT0r, if_neg (fun k => y k.2.1)]
        rfl
    · rw [if_neg z, oT0r, if_neg (fun k => z k.1)]
      rfl
  · rw [if_neg h]
    simp only [fX10_actor, if_pos (isT_of S.pl), c_needBoard S C, if_neg h, oT0r]
    rfl
theorem r_isActor (S : OKS sh AD) (H : RIB I R AD σ) (V : VST σ) {c a : Int} (hc : IR c) (ha : IR a) : fX11_isActor fu sh I R (AD 316) (iz c) (iz a) = some (bz (decide ((0 ≤ c ∧ c ≤ σ.2.1 3 - 1) ∧ (0 ≤ a ∧ a ≤ 5) ∧ inS σ.2.1 c a = true))) := by
  have n3 := V.n3
  simp only [fX11_isActor, fX11_isActor_b36, fX11_isActor_b37, if_pos (isT_of S.md), r_isScene S H V hc, bsome, iz_lit, jlit, r_isInC ha (by decide : (-1000 : Int) ≤ 0) (by decide) (by decide : (-1000 : Int) ≤ 5) (by decide), bz_zero, oZ_z0, oZ_z1]
  by_cases z : 0 ≤ c ∧ c ≤ σ.2.1 3 - 1
  · rw [if_neg (by rw [(bdec (p := 0 ≤ c) (q := c ≤ σ.2.1 3 - 1)).mpr z]; decide)]
    have h : σ.1 = true := by
      cases q : σ.1
      · have := (V.2.1 q).2 3; omega
      · rfl
    by_cases y : 0 ≤ a ∧ a ≤ 5
    · rw [decide_eq_true y, if_neg (by decide), r_actorsOf S H.1 H.2.1 z.1 (by omega), bsome, r_hasC (V.1 h) z.1 (by omega) y.1 (by omega), bsome]
      simp only [bz_zero]
      cases e : inS σ.2.1 c a
      · rw [if_pos rfl, decide_eq_false (fun k => absurd k.2.2 (by decide))]
      · rw [if_neg (by decide), decide_eq_true ⟨z, y, rfl⟩]
    · rw [decide_eq_false y, if_pos rfl, decide_eq_false (fun k => y k.2.1)]
  · rw [if_pos (by cases q : (decide (0 ≤ c) && decide (c ≤ σ.2.1 3 - 1)); rfl; exact absurd (bdec.mp q) z), decide_eq_false (fun k => z k.1)]
theorem rq_actor (S : OKS sh AD) (V : VST σ) {c a : Int} (hc : IR c) (ha : IR a) (t : Bool) : RQ sh AD R σ (fun I => fX11_actor fu sh I R (AD 316) (iz c) (iz a) (bz t)) (aActor σ c a t) := by
  intro I H
  unfold aActor
  have n3 := V.n3
  have hs := r_isActor (fu := fu) S H V hc ha
  obtain ⟨g, hg⟩ : ∃ g, g = decide ((0 ≤ c ∧ c ≤ σ.2.1 3 - 1) ∧ (0 ≤ a ∧ a ≤ 5) ∧ inS σ.2.1 c a = true) := ⟨_, rfl⟩
  rw [← hg] at hs
  have w := r_isWrong (fu := fu) (R := R) (σ := σ) S H.2.2.1.2.1 g
  by_cases h : σ.1 = true
  · by_cases z : (0 ≤ c ∧ c ≤ σ.2.1 3 - 1) ∧ (0 ≤ a ∧ a ≤ 5) ∧ inS σ.2.1 c a = true
    · rw [wr0 h (by rw [hg, decide_eq_true z])] at w
      obtain ⟨H1, e5, f1⟩ := r_out (σ := σ) S H 0
      refine ⟨_, ?_, ?_, H1, f1⟩
      · simp only [fX11_actor, fX11_actor_b34, if_pos (isT_of S.md), hs, bsome, w, oHs, iz_lit, bz_zero]
        rw [if_pos (by decide), r_actorX S H1.1 H1.2.1 z.1.1 (by omega) z.2.1.1 (by omega), r_actorY S H1.1 H1.2.1 z.1.1 (by omega) z.2.1.1 (by omega), bsome, bsome, if_pos h, if_pos z]
        cases t <;> rfl
      · rw [e5, if_pos h, if_pos z]
        rfl
    · rw [wr2 h (by rw [hg, decide_eq_false z])] at w
      obtain ⟨H1, e5, f1⟩ := r_out (σ := σ) S H 2
      refine ⟨_, ?_, ?_, H1, f1⟩
      · simp only [fX11_actor, fX11_actor_b34, if_pos (isT_of S.md), hs, bsome, w, oHs, iz_lit, bz_zero]
        rw [if_neg (by decide), if_pos h, if_neg z]
        rfl
      · rw [e5, if_pos h, if_neg z]
        rfl
  · have hf : σ.1 = false := by simpa using h
    rw [wr1 hf] at w
    obtain ⟨H1, e5, f1⟩ := r_out (σ := σ) S H 1
    refine ⟨_, ?_, ?_, H1, f1⟩
    · simp only [fX11_actor, fX11_actor_b34, if_pos (isT_of S.md), hs, bsome, w, oHs, iz_lit, bz_zero]
      rw [if_neg (by decide), if_neg h]
      rfl
    · rw [e5, if_neg h]
      rfl
end Q6
