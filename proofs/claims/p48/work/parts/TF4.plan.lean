/-! STAGE 3: the constructor of the planner -/
def gl (L : List Nat) (i : Nat) : Nat := L.getD i 0
/-- the planner made at l: its parts by number, its boards, what refers to what -/
def PLR2 (R : HR) (l : Nat) (g b : Nat → Nat) : Prop := (R l 0 = some (g 1) ∧ R l 4 = some (b 0) ∧ R l 5 = some (b 1) ∧ R l 6 = some (g 2) ∧ R l 7 = some (g 4) ∧ R l 8 = some (g 6)) ∧ R l 10 = some (g 16) ∧ R l 12 = some (g 21) ∧ R l 13 = some (g 26)
def PLT2 (R : HR) (g : Nat → Nat) : Prop := R (g 6) 1 = some (g 7) ∧ R (g 6) 2 = some (g 8) ∧ R (g 6) 3 = some (g 9) ∧ R (g 6) 4 = some (g 10) ∧ R (g 6) 5 = some (g 11) ∧ R (g 6) 6 = some (g 12) ∧ R (g 6) 7 = some (g 13) ∧ R (g 6) 8 = some (g 14) ∧ R (g 6) 9 = some (g 15)
def PLO2 (R : HR) (g : Nat → Nat) (k : Nat) : Prop := R (g k) 1 = some (g (k + 1)) ∧ R (g k) 2 = some (g (k + 2)) ∧ R (g k) 3 = some (g (k + 3)) ∧ R (g k) 4 = some (g (k + 4))
def PLN (sh sh' : HS) (I I' : HI) (R R' : HR) (l : Nat) (g b A B : Nat → Nat) (s x y h : Nat → Nat → Nat) : Prop :=
  (∃ as, ALC sh sh' (u2 I l 2 (-1)) I' R R' l as ∧ ((l, 8, 14) :: as).Perm ((List.range 28).map (fun i => (g i, kdL.getD i (0, 0))) ++ bdL b A B s x y h 12)) ∧ g 0 = l ∧
  (PLR2 R' l g b ∧ PLT2 R' g ∧ PLO2 R' g 16 ∧ PLO2 R' g 21 ∧ R' (g 4) 0 = some (g 5) ∧ R' (g 26) 0 = some (g 27)) ∧ (∀ k, k < 10 → R' (g 5) k = some (b (k + 2))) ∧ (∀ m, m < 12 → BDR R' (b m) (A m) (B m) (s m) (x m) (y m) (h m)) ∧
  I' (g 4) = (fun _ => 0) ∧ I' (g 16) 0 = 12 ∧ I' (g 21) 0 = 6 ∧ I' (g 26) = (fun _ => 0)
section Q85
variable {K J : Nat → Nat} {sh sh' : HS} {I I' : HI} {R R' : HR} {F : VF} {l a : Nat} {k : Nat × Nat}
theorem ne_l (ha : sh a = some k) (hl : sh l = some (8, 14)) (hk : ¬ k = (8, 14)) : ¬ a = l := fun e => by rw [e, hl] at ha; exact hk (Option.some.inj ha).symm
theorem EX.use (X : EX sh sh' I I' R R' l) (ha : sh a = some k) (hl : sh l = some (8, 14)) (hk : ¬ k = (8, 14)) : sh' a = sh a ∧ I' a = I a ∧ R' a = R a := X a (by rw [ha]; simp) (ne_l ha hl hk)
theorem BDR.ex {b A B : Nat} {s x y h : Nat → Nat} (H : BDR R b A B s x y h) (D : BDS sh b A B s) (hl : sh l = some (8, 14)) (X : EX sh sh' I I' R R' l) : BDR R' b A B s x y h := by
  obtain ⟨d1, d2, d3, d4⟩ := D
  exact H.cg (X.use d1 hl (by decide)).2.2 (X.use d2 hl (by decide)).2.2 (X.use d3 hl (by decide)).2.2 (fun k hk => (X.use (d4 k hk) hl (by decide)).2.2)
set_option maxHeartbeats 4000000 in
theorem vX10_init (hl : sh l = some (8, 14)) (hF : ∀ g b A B s x y h sh' I' R', PLN sh sh' I I' R R' l g b A B s x y h → F (.inl none) sh' I' R') : V K J 61 0 (ent (mL 61) [.ref l]) [] sh I R (0, 0) F := by
  have hc0 : ((0 : Nat), (0 : Nat)).1 ≤ 0 ∧ ((0 : Nat), (0 : Nat)).2 ≤ 0 := ⟨Nat.le_refl _, Nat.le_refl _⟩
  have ln : ¬ sh l = none := by rw [hl]; simp
  show V K J 61 0 [some (.ref l)] [] sh I R (0, 0) F
  refine s_rl (i := 0) (pc' := 1) (by decide +kernel) rfl ?_
  refine s_obj (pc' := 4) (X := 0) (Y := 0) (by decide +kernel) hc0 (by decide) ?_
  refine s_fa (v := 800) (p2 := 8) (p3 := 13) (t := 8) (j := 0) (m := 800) (X := 0) (Y := 0) (by decide +kernel) rfl hl hc0 (fun t ht => ?_)
  have tl : ¬ t = l := fun e => by rw [e, hl] at ht; exact absurd ht (by simp)
  have M1 : ALC sh (u1 sh t (some (20, 800))) (u2 I l 2 (-1)) (u1 (u2 I l 2 (-1)) t (fun _ => 0)) R (u2 R l 0 (some t)) l ([] ++ [(t, 20, 800)]) := (ALC.nil l).arr ht ln (20, 800) (fun _ => 0) 0
  refine s_rl (i := 0) (pc' := 14) (by decide +kernel) rfl ?_
  refine s_c (v := -1) (pc' := 15) (by decide +kernel) ?_
  refine s_pI (t := 8) (j := 2) (ty := 0) (pc' := 18) (f := some) (by decide +kernel) (Or.inl rfl) (by rw [oP_at (M1.at hl)]; rfl) (fun I1 e => ?_)
  have e := (Option.some.inj e).symm
  subst e
  rw [u2_u1c I 2 (fun _ => 0) (-1) tl]
  refine s_fo (pc := 18) (p8 := 29) (t := 0) (q := 0) (j := 4) (X := 1) (Y := 800) (X' := 25) (Y' := 942) (G := gB) (by decide +kernel) (by decide +kernel) (by decide +kernel) (by decide +kernel) (by decide +kernel) (by decide +kernel) (fun _ => rfl) M1 hl ⟨Nat.le_refl _, Nat.le_refl _⟩ (fun y hy => pv_B) (fun b0 bs2 sh2 I2 R2 c2 hc2 h2 G2 M2 g2 => ?_)
  refine s_fo (pc := 29) (p8 := 40) (t := 0) (q := 0) (j := 5) (X := 25) (Y := 942) (X' := 49) (Y' := 1084) (G := gB) (by decide +kernel) (by decide +kernel) (by decide +kernel) (by decide +kernel) (by decide +kernel) (by decide +kernel) (fun _ => rfl) M2 hl hc2 (fun y hy => pv_B) (fun b1 bs3 sh3 I3 R3 c3 hc3 h3 G3 M3 g3 => ?_)
  refine s_fo (pc := 40) (p8 := 51) (t := 1) (q := 9) (j := 6) (X := 49) (Y := 1084) (X' := 51) (Y' := 1091) (G := gR) (by decide +kernel) (by decide +kernel) (by decide +kernel) (by decide +kernel) (by decide +kernel) (by decide +kernel) (fun _ => rfl) M3 hl hc3 (fun y hy => pv_R) (fun rd bs4 sh4 I4 R4 c4 hc4 h4 G4 M4 g4 => ?_)
  refine s_fo (pc := 51) (p8 := 62) (t := 2) (q := 37) (j := 7) (X := 51) (Y := 1091) (X' := 293) (Y' := 2524) (G := gH) (by decide +kernel) (by decide +kernel) (by decide +kernel) (by decide +kernel) (by decide +kernel) (by decide +kernel) (fun _ => rfl) M4 hl hc4 (fun y hy => pv_H) (fun hi bs5 sh5 I5 R5 c5 hc5 h5 G5 M5 g5 => ?_)
  refine s_fo (pc := 62) (p8 := 73) (t := 6) (q := 46) (j := 8) (X := 293) (Y := 2524) (X' := 303) (Y' := 2642) (G := gT) (by decide +kernel) (by decide +kernel) (by decide +kernel) (by decide +kernel) (by decide +kernel) (by decide +kernel) (fun _ => rfl) M5 hl hc5 (fun y hy => pv_T) (fun tb bs6 sh6 I6 R6 c6 hc6 h6 G6 M6 g6 => ?_)
  refine s_fo1 (pc := 73) (p5 := 80) (p6 := 83) (p8 := 86) (t := 4) (q := 41) (v := 12) (j := 10) (X := 303) (Y := 2642) (X' := 308) (Y' := 51969) (zz := fun k => if k = 0 then 12 else 0) (G := gO 144 49152 12) (by decide +kernel) (by decide +kernel) (by decide +kernel) (by decide +kernel) (by decide +kernel) (by decide +kernel) (by decide +kernel) (fun _ => rfl) M6 hl hc6 (fun y hy => pv_O12) (fun ro bs7 sh7 I7 R7 c7 hc7 h7 G7 M7 g7 => ?_)
  refine s_fo1 (pc := 86) (p5 := 93) (p6 := 96) (p8 := 99) (t := 4) (q := 41) (v := 6) (j := 12) (X := 308) (Y := 51969) (X' := 313) (Y' := 101296) (zz := fun k => if k = 0 then 6 else 0) (G := gO 36 384 6) (by decide +kernel) (by decide +kernel) (by decide +kernel) (by decide +kernel) (by decide +kernel) (by decide +kernel) (by decide +kernel) (fun _ => rfl) M7 hl hc7 (fun y hy => pv_O6) (fun rp bs8 sh8 I8 R8 c8 hc8 h8 G8 M8 g8 => ?_)
  refine s_fo (pc := 99) (p8 := 110) (t := 3) (q := 40) (j := 13) (X := 313) (Y := 101296) (X' := 315) (Y' := 102354) (G := gP) (by decide +kernel) (by decide +kernel) (by decide +kernel) (by decide +kernel) (by decide +kernel) (by decide +kernel) (fun _ => rfl) M8 hl hc8 (fun y hy => pv_P) (fun pl bs9 sh9 I9 R9 c9 hc9 h9 G9 M9 g9 => ?_)
  refine s_rv (X := 315) (Y := 102354) (by decide +kernel) hc9 ?_
  have P9 : EX sh9 sh9 I9 I9 (u2 R9 l 13 (some pl)) (u2 R9 l 13 (some pl)) l := EX.rf _ _ _ _
  have P8 := (EX.mk (l := l) h9 G9 13 (some pl)).tr P9
  have P7 := (EX.mk (l := l) h8 G8 12 (some rp)).tr P8
  have P6 := (EX.mk (l := l) h7 G7 10 (some ro)).tr P7
  have P5 := (EX.mk (l := l) h6 G6 8 (some tb)).tr P6
  have P4 := (EX.mk (l := l) h5 G5 7 (some hi)).tr P5
  have P3 := (EX.mk (l := l) h4 G4 6 (some rd)).tr P4
  have P2 := (EX.mk (l := l) h3 G3 5 (some b1)).tr P3
  have n1 : ¬ u1 sh t (some (20, 800)) l = none := by rw [M1.at hl]; simp
  have n2 : ¬ sh2 l = none := by rw [M2.at hl]; simp
  have n3 : ¬ sh3 l = none := by rw [M3.at hl]; simp
  have n4 : ¬ sh4 l = none := by rw [M4.at hl]; simp
  have n5 : ¬ sh5 l = none := by rw [M5.at hl]; simp
  have n6 : ¬ sh6 l = none := by rw [M6.at hl]; simp
  have n7 : ¬ sh7 l = none := by rw [M7.at hl]; simp
  have n8 : ¬ sh8 l = none := by rw [M8.at hl]; simp
  have rl : ∀ i, u2 R9 l 13 (some pl) l i = if i = 13 then some pl else if i = 12 then some rp else if i = 10 then some ro else if i = 8 then some tb else if i = 7 then some hi else if i = 6 then some rd else if i = 5 then some b1 else if i = 4 then some b0 else if i = 0 then some t else R l i := by
    intro i
    rw [(ALC.me h9 G9 n8 13 (some pl)).2, (ALC.me h8 G8 n7 12 (some rp)).2, (ALC.me h7 G7 n6 10 (some ro)).2, (ALC.me h6 G6 n5 8 (some tb)).2, (ALC.me h5 G5 n4 7 (some hi)).2, (ALC.me h4 G4 n3 6 (some rd)).2, (ALC.me h3 G3 n2 5 (some b1)).2, (ALC.me h2 G2 n1 4 (some b0)).2, u2_at]
  obtain ⟨A0, B0, s0, x0, y0, z0, rfl, q2, d2⟩ := g2
  obtain ⟨A1, B1, s1, x1, y1, z1, rfl, q3, d3⟩ := g3
  obtain ⟨r0, rfl⟩ := g4
  obtain ⟨C, b, A, B, s, x, y, h, rfl, ⟨hc1, hc2⟩, q5⟩ := g5
  obtain ⟨t1, t2, t3, t4, t5, t6, t7, t8, t9, rfl, q6⟩ := g6
  obtain ⟨o1, o2, o3, o4, rfl, q7⟩ := g7
  obtain ⟨u1', u2', u3', u4', rfl, q8⟩ := g8
  obtain ⟨pb, rfl, q9⟩ := g9
  have T2 : EX sh2 sh9 I2 I9 R2 (u2 R9 l 13 (some pl)) l := (EX.pt 4 (some b0)).tr P2
  have T3 : EX sh3 sh9 I3 I9 R3 (u2 R9 l 13 (some pl)) l := (EX.pt 5 (some b1)).tr P3
  have T5 : EX sh5 sh9 I5 I9 R5 (u2 R9 l 13 (some pl)) l := (EX.pt 7 (some hi)).tr P5
  have T6 : EX sh6 sh9 I6 I9 R6 (u2 R9 l 13 (some pl)) l := (EX.pt 8 (some tb)).tr P6
  have T7 : EX sh7 sh9 I7 I9 R7 (u2 R9 l 13 (some pl)) l := (EX.pt 10 (some ro)).tr P7
  have T8 : EX sh8 sh9 I8 I9 R8 (u2 R9 l 13 (some pl)) l := (EX.pt 12 (some rp)).tr P8
  have T9 : EX sh9 sh9 I9 I9 R9 (u2 R9 l 13 (some pl)) l := EX.pt 13 (some pl)
  have E5 := T5.use (ALC.im G5).1 (M5.at hl) (by decide)
  have E5c := T5.use hc2 (M5.at hl) (by decide)
  have E6 := T6.use (ALC.im G6).1 (M6.at hl) (by decide)
  have E7 := T7.use (ALC.im G7).1 (M7.at hl) (by decide)
  have E8 := T8.use (ALC.im G8).1 (M8.at hl) (by decide)
  have E9 := T9.use (ALC.im G9).1 (M9.at hl) (by decide)
  refine hF (gl [l, t, rd, r0, hi, C, tb, t1, t2, t3, t4, t5, t6, t7, t8, t9, ro, o1, o2, o3, o4, rp, u1', u2', u3', u4', pl, pb]) (cn b0 b1 b) (cn A0 A1 A) (cn B0 B1 B) (cn s0 s1 s) (cn x0 x1 x) (cn y0 y1 y) (cn z0 z1 h) _ _ _ ⟨⟨_, M9, ?_⟩, rfl, ⟨⟨⟨?_, ?_, ?_, ?_, ?_, ?_⟩, ?_, ?_, ?_⟩, ?_, ?_, ?_, ?_, ?_⟩, fun k hk => ?_, fun m hm => ?_, ?_, ?_, ?_, ?_⟩
  · have e1 : (List.range 28).map (fun i => (gl [l, t, rd, r0, hi, C, tb, t1, t2, t3, t4, t5, t6, t7, t8, t9, ro, o1, o2, o3, o4, rp, u1', u2', u3', u4', pl, pb] i, kdL.getD i (0, 0))) = [(l, 8, 14)] ++ [(t, 20, 800)] ++ [(rd, 1, 7), (r0, 20, 0)] ++ [(hi, 2, 3), (C, 30, 10)] ++ [(tb, 6, 10), (t1, 20, 12), (t2, 20, 12), (t3, 20, 12), (t4, 20, 12), (t5, 20, 12), (t6, 20, 12), (t7, 20, 12), (t8, 20, 12), (t9, 20, 12)] ++ [(ro, 4, 7), (o1, 20, 12), (o2, 20, 144), (o3, 20, 49152), (o4, 20, 12)] ++ [(rp, 4, 7), (u1', 20, 6), (u2', 20, 36), (u3', 20, 384), (u4', 20, 6)] ++ [(pl, 3, 2), (pb, 20, 1056)] := rfl
    have e2 : bdL (cn b0 b1 b) (cn A0 A1 A) (cn B0 B1 B) (cn s0 s1 s) (cn x0 x1 x) (cn y0 y1 y) (cn z0 z1 h) 12 = ((b0, 0, 7) :: bdP A0 B0 s0 x0 y0 z0) ++ ((b1, 0, 7) :: bdP A1 B1 s1 x1 y1 z1) ++ bdL b A B s x y h 10 := bdL_two 10
    rw [e1, e2]
    exact pm_blocks [(l, 8, 14)] [(t, 20, 800)] ((b0, 0, 7) :: bdP A0 B0 s0 x0 y0 z0) ((b1, 0, 7) :: bdP A1 B1 s1 x1 y1 z1) [(rd, 1, 7), (r0, 20, 0)] [(hi, 2, 3), (C, 30, 10)] (bdL b A B s x y h 10) [(tb, 6, 10), (t1, 20, 12), (t2, 20, 12), (t3, 20, 12), (t4, 20, 12), (t5, 20, 12), (t6, 20, 12), (t7, 20, 12), (t8, 20, 12), (t9, 20, 12)] [(ro, 4, 7), (o1, 20, 12), (o2, 20, 144), (o3, 20, 49152), (o4, 20, 12)] [(rp, 4, 7), (u1', 20, 6), (u2', 20, 36), (u3', 20, 384), (u4', 20, 6)] [(pl, 3, 2), (pb, 20, 1056)]
  · rw [rl]; rfl
  · rw [rl]; rfl
  · rw [rl]; rfl
  · rw [rl]; rfl
  · rw [rl]; rfl
  · rw [rl]; rfl
  · rw [rl]; rfl
  · rw [rl]; rfl
  · rw [rl]; rfl
  · show PLT2 _ _
    unfold PLT2
    show u2 R9 l 13 (some pl) tb 1 = some t1 ∧ u2 R9 l 13 (some pl) tb 2 = some t2 ∧ u2 R9 l 13 (some pl) tb 3 = some t3 ∧ u2 R9 l 13 (some pl) tb 4 = some t4 ∧ u2 R9 l 13 (some pl) tb 5 = some t5 ∧ u2 R9 l 13 (some pl) tb 6 = some t6 ∧ u2 R9 l 13 (some pl) tb 7 = some t7 ∧ u2 R9 l 13 (some pl) tb 8 = some t8 ∧ u2 R9 l 13 (some pl) tb 9 = some t9
    rw [E6.2.2]
    exact q6
  · show u2 R9 l 13 (some pl) ro 1 = some o1 ∧ u2 R9 l 13 (some pl) ro 2 = some o2 ∧ u2 R9 l 13 (some pl) ro 3 = some o3 ∧ u2 R9 l 13 (some pl) ro 4 = some o4
    rw [E7.2.2]
    exact q7
  · show u2 R9 l 13 (some pl) rp 1 = some u1' ∧ u2 R9 l 13 (some pl) rp 2 = some u2' ∧ u2 R9 l 13 (some pl) rp 3 = some u3' ∧ u2 R9 l 13 (some pl) rp 4 = some u4'
    rw [E8.2.2]
    exact q8
  · show u2 R9 l 13 (some pl) hi 0 = some C
    rw [E5.2.2]
    exact hc1
  · show u2 R9 l 13 (some pl) pl 0 = some pb
    rw [E9.2.2]
    exact q9
  · show u2 R9 l 13 (some pl) C k = some (b k)
    rw [E5c.2.2]
    exact (q5 k hk).1
  · rcases m with _ | _ | m
    · exact q2.ex d2 (M2.at hl) T2
    · exact q3.ex d3 (M3.at hl) T3
    · exact (q5 m (by omega)).2.1.ex (q5 m (by omega)).2.2 (M5.at hl) T5
  · show I9 hi = _
    rw [E5.2.1, (ALC.im G5).2]
  · show I9 ro 0 = _
    rw [E7.2.1, (ALC.im G7).2]
    rfl
  · show I9 rp 0 = _
    rw [E8.2.1, (ALC.im G8).2]
    rfl
  · show I9 pl = _
    rw [(ALC.im G9).2]
end Q85
