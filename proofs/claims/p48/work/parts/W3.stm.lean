/-! THE LAW, STAGE 2: a statement of a text that is known -/
section TK
variable {f : Nat → Int} {n i : Nat} {r : RHO}
theorem nx_er (i : Nat) (h : i ≤ n) : (nxT f n i).er = 0 := (nxT_wf h).2.1
theorem d32 : isDc 32 = false := by decide
theorem d59 : isDc 59 = false := by decide
theorem st_lim {a b c : Int} {M : List Int} (ha : 0 ≤ a ∧ a ≤ 99) (hb : 0 ≤ b ∧ b ≤ 2000) (hc : 0 ≤ c ∧ c ≤ 2000) (hA : ATL f 0 (cod 8 ++ 32 :: (decS a ++ 32 :: (decS b ++ 32 :: (decS c ++ 59 :: 10 :: M))))) (hn : 6 + 1 + (decS a).length + 1 + (decS b).length + 1 + (decS c).length + 2 ≤ n) :
    ld0 f n = (nxT f n (6 + 1 + (decS a).length + 1 + (decS b).length + 1 + (decS c).length + 2), limR a b c) := by
  have hcn := cod_n
  obtain ⟨w1, w2, w3, A1⟩ := tk_word (i := 0) (n := n) (w := 8) (by decide) hA (by omega)
  rw [hcn.2.1] at w3 A1
  have ew : exW f (nxT f n 0) 8 = nxT f n 0 := by
    unfold exW
    rw [if_pos w2]
  have l1 : lim1 f n (nxT f n 0) = nxT f n (0 + 6 + 1) := by unfold lim1; rw [ew, w3]
  obtain ⟨a1, a2, a3, a4, a5, -⟩ := tk_num (n := n) (lo := 0) (hi := 99) ⟨ha.1, by omega⟩ A1 d32 (by omega) ha.1 ha.2
  obtain ⟨e1, A2⟩ := tk_b A1.app.2 (Or.inl rfl) (show _ < n by omega)
  have l2 : lim2 f n (nxT f n 0) = nxT f n (0 + 6 + 1 + (decS a).length + 1) := by unfold lim2; rw [l1, a5, e1]
  obtain ⟨b1, b2, b3, b4, b5, -⟩ := tk_num (n := n) (lo := 0) (hi := 2000) ⟨hb.1, by omega⟩ A2 d32 (by omega) hb.1 hb.2
  obtain ⟨e2, A3⟩ := tk_b A2.app.2 (Or.inl rfl) (show _ < n by omega)
  have l3 : lim3 f n (nxT f n 0) = nxT f n (0 + 6 + 1 + (decS a).length + 1 + (decS b).length + 1) := by unfold lim3; rw [l2, b5, e2]
  obtain ⟨c1, c2, c3, c4, c5, -⟩ := tk_num (n := n) (lo := 0) (hi := 2000) ⟨hc.1, by omega⟩ A3 d59 (by omega) hc.1 hc.2
  have l4 : lim4 f n (nxT f n 0) = nxT f n (0 + 6 + 1 + (decS a).length + 1 + (decS b).length + 1 + (decS c).length) := by unfold lim4; rw [l3, c5]
  have A4 := A3.app.2
  have s := tk_sem A4 (show _ < n by omega)
  obtain ⟨e3, -⟩ := tk_b A4.hd.2 (Or.inr rfl) (show _ < n by omega)
  have l5 : lim5 f n (nxT f n 0) = nxT f n (0 + 6 + 1 + (decS a).length + 1 + (decS b).length + 1 + (decS c).length + 1 + 1) := by unfold lim5; rw [l4, s, e3]
  unfold ld0
  rw [l1, l2, l3, l5, a3, b3, c3, show 0 + 6 + 1 + (decS a).length + 1 + (decS b).length + 1 + (decS c).length + 1 + 1 = 6 + 1 + (decS a).length + 1 + (decS b).length + 1 + (decS c).length + 2 by omega]
theorem st_scn {l : Int} {M : List Int} (hl : 0 ≤ l ∧ l ≤ 3) (hA : ATL f i (cod 16 ++ 32 :: (decS l ++ 59 :: M))) (hn : i + 5 + 1 + (decS l).length + 1 ≤ n) (h3 : r 3 < 3) (hc : 0 < r 3 → canS r = true) :
    dspD f n (nxT f n i, r) = (nxT f n (i + 5 + 1 + (decS l).length + 1), scnR r l) := by
  have hcn := cod_n
  obtain ⟨w1, w2, w3, A1⟩ := tk_word (n := n) (w := 16) (by decide) hA (by omega)
  rw [hcn.2.2.2.1] at w3 A1
  obtain ⟨a1, a2, a3, a4, a5, -⟩ := tk_num (n := n) (lo := 0) (hi := 3) ⟨hl.1, by omega⟩ A1 d59 (by omega) hl.1 hl.2
  have s := tk_sem A1.app.2 (show _ < n by omega)
  have q : scnQ (nxT f n i) r = nxT f n i := by
    unfold scnQ
    rw [if_pos h3, if_neg (fun z => by rw [hc z.1] at z; exact absurd z.2 (by decide))]
  have l1 : scn1 f n (nxT f n i) = nxT f n (i + 5 + 1) := w3
  have l3 : scn3 f n (nxT f n i) = nxT f n (i + 5 + 1 + (decS l).length + 1) := by unfold scn3 scn2; rw [l1, a5, s]
  unfold dspD
  rw [if_pos (nx_er i (by omega)), if_neg (by rw [w1]; show ¬ (2 : Nat) = 0; decide)]
  unfold stmD
  rw [if_pos w2, q, l3]
  unfold scnX
  rw [l3, if_pos (nx_er _ (by omega)), l1, a3]
theorem ne_16_5 : (cod 16).length = (cod 5).length → (cod 16).getD 0 0 ≠ (cod 5).getD 0 0 := by decide +kernel
theorem ne_16_18 : (cod 16).length = (cod 18).length → (cod 16).getD 0 0 ≠ (cod 18).getD 0 0 := by decide +kernel
theorem ne_5_18 : (cod 5).length = (cod 18).length → (cod 5).getD 0 0 ≠ (cod 18).getD 0 0 := by decide +kernel
theorem st_act {a x y : Int} {M : List Int} (ha : 0 ≤ a ∧ a ≤ 5) (hx : 0 ≤ x ∧ x ≤ 199) (hy : 0 ≤ y ∧ y ≤ 199) (hA : ATL f i (cod 5 ++ 32 :: (decS a ++ 32 :: (decS x ++ 32 :: (decS y ++ 59 :: M))))) (hn : i + 5 + 1 + (decS a).length + 1 + (decS x).length + 1 + (decS y).length + 1 ≤ n) (h3 : 1 ≤ r 3 ∧ nsS r (r 3 - 1) (r 4).toNat ≤ 0) (hi : inS r (r 3 - 1) a = false) :
    dspD f n (nxT f n i, r) = (nxT f n (i + 5 + 1 + (decS a).length + 1 + (decS x).length + 1 + (decS y).length + 1), actR r (r 3 - 1) a x y) := by
  have hcn := cod_n
  obtain ⟨w1, w2, w3, A1⟩ := tk_word (n := n) (w := 5) (by decide) hA (by omega)
  have w4 := wd_off (v := 16) w1 hA.app.1 ne_16_5 (by omega)
  rw [hcn.1] at w3 A1
  obtain ⟨a1, a2, a3, a4, a5, a6⟩ := tk_num (n := n) (lo := 0) (hi := 5) ⟨ha.1, by omega⟩ A1 d32 (by omega) ha.1 ha.2
  obtain ⟨e1, A2⟩ := tk_b A1.app.2 (Or.inl rfl) (show _ < n by omega)
  obtain ⟨b1, b2, b3, b4, b5, -⟩ := tk_num (n := n) (lo := 0) (hi := 199) ⟨hx.1, by omega⟩ A2 d32 (by omega) hx.1 hx.2
  obtain ⟨e2, A3⟩ := tk_b A2.app.2 (Or.inl rfl) (show _ < n by omega)
  obtain ⟨c1, c2, c3, c4, c5, -⟩ := tk_num (n := n) (lo := 0) (hi := 199) ⟨hy.1, by omega⟩ A3 d59 (by omega) hy.1 hy.2
  have s := tk_sem A3.app.2 (show _ < n by omega)
  have l1 : scn1 f n (nxT f n i) = nxT f n (i + 5 + 1) := w3
  have l2 : act2 f n (nxT f n i) r (r 3 - 1) = nxT f n (i + 5 + 1 + (decS a).length + 1) := by
    unfold act2 anP
    rw [l1, a3, hi, if_neg (by decide), a4, a6, e1]
  have l3 : act3 f n (nxT f n i) r (r 3 - 1) = nxT f n (i + 5 + 1 + (decS a).length + 1 + (decS x).length + 1) := by unfold act3; rw [l2, b5, e2]
  have l5 : act5 f n (nxT f n i) r (r 3 - 1) = nxT f n (i + 5 + 1 + (decS a).length + 1 + (decS x).length + 1 + (decS y).length + 1) := by unfold act5 act4; rw [l3, c5, s]
  unfold dspD
  rw [if_pos (nx_er i (by omega)), if_neg (by rw [w1]; show ¬ (2 : Nat) = 0; decide)]
  unfold stmD
  rw [if_neg (by rw [w4]; decide), if_pos w2]
  unfold actD
  rw [if_pos h3, l5]
  unfold actX
  rw [l5, if_pos (nx_er _ (by omega)), l1, l2, l3, a3, b3, c3]
theorem st_sht {x y u w l : Int} {M PT : List Int} (hPT : (w = -1 ∧ PT = cod 15) ∨ ((0 ≤ w ∧ w ≤ 5) ∧ PT = decS w ∧ inS r (r 3 - 1) w = true ∧ ¬ w = u)) (hx : 0 ≤ x ∧ x ≤ 199) (hy : 0 ≤ y ∧ y ≤ 199) (hu : 0 ≤ u ∧ u ≤ 5) (hl : 1 ≤ l ∧ l ≤ 99)
    (hA : ATL f i (cod 18 ++ 32 :: (decS x ++ 32 :: (decS y ++ 32 :: (decS u ++ 32 :: (PT ++ 32 :: (decS l ++ 32 :: 59 :: 10 :: M))))))) (hn : i + 4 + 1 + (decS x).length + 1 + (decS y).length + 1 + (decS u).length + 1 + PT.length + 1 + (decS l).length + 3 ≤ n)
    (h3 : canS r = true) (h4 : r 4 < 12) (hi : inS r (r 3 - 1) u = true) (hne : ¬ (axS r (r 3 - 1) u = x ∧ ayS r (r 3 - 1) u = y)) :
    dspD f n (nxT f n i, r) = (nxT f n (i + 4 + 1 + (decS x).length + 1 + (decS y).length + 1 + (decS u).length + 1 + PT.length + 1 + (decS l).length + 3), shtR r (r 3 - 1) x y u w l) := by
  have hcn := cod_n
  obtain ⟨w1, w2, w3, A1⟩ := tk_word (n := n) (w := 18) (by decide) hA (by omega)
  have w4 := wd_off (v := 16) w1 hA.app.1 ne_16_18 (by omega)
  have w5 := wd_off (v := 5) w1 hA.app.1 ne_5_18 (by omega)
  rw [hcn.2.2.2.2] at w3 A1
  obtain ⟨a1, a2, a3, a4, a5, -⟩ := tk_num (n := n) (lo := 0) (hi := 199) ⟨hx.1, by omega⟩ A1 d32 (by omega) hx.1 hx.2
  obtain ⟨e1, A2⟩ := tk_b A1.app.2 (Or.inl rfl) (show _ < n by omega)
  obtain ⟨b1, b2, b3, b4, b5, -⟩ := tk_num (n := n) (lo := 0) (hi := 199) ⟨hy.1, by omega⟩ A2 d32 (by omega) hy.1 hy.2
  obtain ⟨e2, A3⟩ := tk_b A2.app.2 (Or.inl rfl) (show _ < n by omega)
  obtain ⟨c1, c2, c3, c4, c5, c6⟩ := tk_num (n := n) (lo := 0) (hi := 5) ⟨hu.1, by omega⟩ A3 d32 (by omega) hu.1 hu.2
  obtain ⟨e3, A4⟩ := tk_b A3.app.2 (Or.inl rfl) (show _ < n by omega)
  have l1 : scn1 f n (nxT f n i) = nxT f n (i + 4 + 1) := w3
  have l2 : sht2 f n (nxT f n i) = nxT f n (i + 4 + 1 + (decS x).length + 1) := by unfold sht2; rw [l1, a5, e1]
  have l3 : sht3 f n (nxT f n i) = nxT f n (i + 4 + 1 + (decS x).length + 1 + (decS y).length + 1) := by unfold sht3; rw [l2, b5, e2]
  have l4 : sht4 f n (nxT f n i) r (r 3 - 1) = nxT f n (i + 4 + 1 + (decS x).length + 1 + (decS y).length + 1 + (decS u).length + 1) := by
    unfold sht4 suP acP
    rw [l1, l2, l3, a3, b3, c3, if_neg hne, hi, if_pos rfl, c4, c6, e3]
  generalize hj : i + 4 + 1 + (decS x).length + 1 + (decS y).length + 1 + (decS u).length + 1 = j at *
  have key : paP f (nxT f n j) = w ∧ advP f n (prP f (nxT f n j) r (r 3 - 1) u) = nxT f n (j + PT.length + 1) := by
    rcases hPT with ⟨rfl, rfl⟩ | ⟨hw, rfl, hiw, hwu⟩
    · obtain ⟨g1, g2, g3, -⟩ := tk_word (n := n) (w := 15) (by decide) A4 (by omega)
      refine ⟨by unfold paP; rw [if_pos g2], ?_⟩
      unfold prP
      rw [if_pos g2, g3]
    · obtain ⟨g1, g2, g3, g4, g5, g6⟩ := tk_num (n := n) (lo := 0) (hi := 5) ⟨hw.1, by omega⟩ A4 d32 (by omega) hw.1 hw.2
      have nw : wdP f (nxT f n j) 15 = false := by
        unfold wdP
        rw [g1, decide_eq_false (by decide), Bool.false_and]
      obtain ⟨e5, -⟩ := tk_b A4.app.2 (Or.inl rfl) (show _ < n by omega)
      refine ⟨by unfold paP; rw [nw, if_neg (by decide), g3], ?_⟩
      unfold prP acP
      rw [nw, if_neg (by decide), g3, if_neg hwu, hiw, if_pos rfl, g4, g6, e5]
  have l5 : sht5 f n (nxT f n i) r (r 3 - 1) = nxT f n (j + PT.length + 1) := by
    unfold sht5
    rw [l3, l4, c3, key.2]
  have A5 := A4.app.2.hd.2
  obtain ⟨k1, k2, k3, k4, k5, -⟩ := tk_num (n := n) (lo := 1) (hi := 99) ⟨by omega, by omega⟩ A5 d32 (by omega) hl.1 hl.2
  obtain ⟨e6, A6⟩ := tk_b A5.app.2 (Or.inl rfl) (show _ < n by omega)
  have s := tk_sem A6 (show _ < n by omega)
  obtain ⟨e7, -⟩ := tk_b A6.hd.2 (Or.inr rfl) (show _ < n by omega)
  have l7 : sht7 f n (nxT f n i) r (r 3 - 1) = nxT f n (j + PT.length + 1 + (decS l).length + 3) := by
    unfold sht7 sht6
    rw [l5, k5, e6, s, e7]
  unfold dspD
  rw [if_pos (nx_er i (by omega)), if_neg (by rw [w1]; show ¬ (2 : Nat) = 0; decide)]
  unfold stmD
  rw [if_neg (by rw [w4]; decide), if_neg (by rw [w5]; decide), if_pos (show wdP f (nxT f n i) 18 = true from w2)]
  unfold shtD
  rw [if_neg (by rw [h3]; decide), if_pos h4, l7]
  unfold shtX
  rw [l7, if_pos (nx_er _ (by omega)), l1, l2, l3, l4, l5, a3, b3, c3, k3, key.1]
end TK
