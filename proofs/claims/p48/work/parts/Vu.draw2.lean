/-! THE LAW, STAGE 2: the board drawn: a shot added -/
def DRX (K : Nat → Nat) (sh0 : HS) (I0 : HI) (R0 : HR) (ρ : RHO) (A : Nat → Nat) (cap : Nat) (S : List Nat) (sh : HS) (I : HI) (R : HR) : Prop := LBD sh I R K A cap S ρ ∧ OLD sh I R K ∧ VB ρ ∧ DST A S (ρ 3) ∧ EXH (fun _ => False) sh0 I0 R0 sh I R ∧ ∀ a, LC A S (ρ 3) a → sh0 a = none ∨ a = K nS
theorem il24 : (24 : Int32) = iz 24 := iz_lit 24
theorem il144 : (144 : Int32) = iz 144 := iz_lit 144
section DR
variable {K J : Nat → Nat} {fu : Nat} {A : Nat → Nat} {cap : Nat} {S : List Nat} {sh0 sh sh' : HS} {I0 I I' : HI} {R0 R R' : HR} {ρ ρ' : RHO} {P : HS → HI → HR → Prop}
theorem DRX.n0 (D : DRX K sh0 I0 R0 ρ A cap S sh I R) {b t n : Nat} (h : LC A S (ρ 3) b) (hb : sh b = some (t, n)) (ht : ¬ t = 24) : sh0 b = none := by
  obtain ⟨-, d2, -, -, -, d6⟩ := D
  rcases d6 b h with z | z
  · exact z
  · exact absurd z (ne_k hb d2.1 ht)
theorem EXH.w0 (e : EXH (fun _ => False) sh0 I0 R0 sh I R) {b : Nat} (h : sh0 b = none) (k : Nat) (x : Int32) : EXH (fun _ => False) sh0 I0 R0 sh (u2 I b k x) R := e.tr (EXH.wI sh I R b k x) (fun q hq z => hq (by rw [z]; exact h))
theorem l_ash135 {c a : Nat} {I4 : HI} {c1 c2 : Nat} {q x y sub par : Int} (D : DRX K sh0 I0 R0 ρ A cap S sh I R) (hc1 : c1 = 0 + 1 ∧ c2 = 0 + (6 : Int32).toNatClampNeg) (ha : sh a = none) (o4 : ∀ b, ¬ b = a → I4 b = I b) (w0 : I4 a 0 = iz (c : Int)) (w1 : I4 a 1 = iz x) (w2 : I4 a 2 = iz y) (w3 : I4 a 3 = iz sub)
    (hc : (c : Int) < ρ 3) (hq : 0 ≤ q ∧ q ≤ 2147483647) (hn : S.length < 12) (hm : ∀ s, 0 ≤ s → s < ρ 4 → scS ρ s ≤ c) (q2 : 0 ≤ x ∧ x ≤ 199) (q3 : 0 ≤ y ∧ y ≤ 199) (q4 : 0 ≤ sub ∧ sub < 6) (q5 : inS ρ c sub = true) (q6 : par = -1 ∨ ((0 ≤ par ∧ par < 6) ∧ inS ρ c par = true ∧ ¬ par = sub)) (q8 : ¬ (axS ρ c sub = x ∧ ayS ρ c sub = y))
    (hP : ∀ sh' I' R' ea' cap' a f, DRX K sh0 I0 R0 (apS ρ f) (fun i => if i = 2 then ea' else A i) cap' (S ++ [a]) sh' I' R' → f 0 = c → P sh' I' R') :
    wL_addShot_b135 K J fu (qwV P) (u1 sh a (some (20, 6))) I4 R c1 c2 (iz q) (iz par) 4 a a (A 1) := by
  have D' := D
  obtain ⟨d1, d2, d3, d4, d5, d6⟩ := D
  have V := d3
  have n4 := V.n
  have m := V.m
  have hl := d1.len
  have e6 : (6 : Int32).toNatClampNeg = 6 := by decide
  have k20 : u1 sh a (some (20, 6)) a = some (20, 6) := u1_on
  obtain ⟨f, hf⟩ : ∃ f : Nat → Int, f = fun j => if j = 0 then (c : Int) else if j = 1 then x else if j = 2 then y else if j = 3 then sub else if j = 4 then par else 1 + q / 24 % 99 := ⟨_, rfl⟩
  have f0 : f 0 = c := by rw [hf]; rfl
  have f1 : f 1 = x := by rw [hf]; rfl
  have f2 : f 2 = y := by rw [hf]; rfl
  have f3 : f 3 = sub := by rw [hf]; rfl
  have f4 : f 4 = par := by rw [hf]; rfl
  have f5 : f 5 = 1 + q / 24 % 99 := by rw [hf]; rfl
  unfold wL_addShot_b135
  refine wB_of (oS_n k20 4 (by decide) il4) ?_
  refine wB_of (oD_l il24 hq.1 hq.2 (by decide) (by decide)) ?_
  refine wB_of (oM_l il99 (by omega) (by omega) (by decide) (by decide)) ?_
  rw [il1, iz_add]
  refine wB_of (oS_n k20 5 (by decide) il5) ?_
  have Vb : VB (apS ρ f) := ap_V V (by omega) (by rw [f0]; exact hm) (by rw [f0]; omega) (by rw [f1]; exact q2) (by rw [f2]; exact q3) (by rw [f3]; exact q4) (by rw [f0, f3]; exact q5) (by rw [f0, f3, f4]; exact q6) (by rw [f5]; omega) (by rw [f0, f1, f2, f3]; exact q8)
  have hv : ∀ j : Nat, j < 6 → u2 (u2 I4 a 4 (iz par)) a 5 (iz (1 + q / 24 % 99)) a j = iz (f j) := by
    intro j hj
    rw [u2_on, u2_on]
    rcases (show j = 0 ∨ j = 1 ∨ j = 2 ∨ j = 3 ∨ j = 4 ∨ j = 5 by omega) with h | h | h | h | h | h <;> subst h
    · rw [if_neg (by decide), if_neg (by decide), w0, f0]
    · rw [if_neg (by decide), if_neg (by decide), w1, f1]
    · rw [if_neg (by decide), if_neg (by decide), w2, f2]
    · rw [if_neg (by decide), if_neg (by decide), w3, f3]
    · rw [if_neg (by decide), if_pos rfl, f4]
    · rw [if_pos rfl, f5]
  have o6 : ∀ b, ¬ b = a → u2 (u2 I4 a 4 (iz par)) a 5 (iz (1 + q / 24 % 99)) b = I b := fun b hb => funext (fun j => by rw [u2_off hb, u2_off hb, o4 b hb])
  generalize u2 (u2 I4 a 4 (iz par)) a 5 (iz (1 + q / 24 % 99)) = I6 at *
  have e1 : EXH (fun _ => False) sh I R (u1 sh a (some (20, 6))) I6 R := ⟨fun b hb => u1_off (fun z => hb (by rw [z]; exact ha)), fun b hb _ => ⟨o6 b (fun z => hb (by rw [z]; exact ha)), rfl⟩⟩
  generalize hsh1 : u1 sh a (some (20, 6)) = sh1 at *
  have B1 := d1.ex0 e1
  have O1 := d2.ex0 e1
  have ok1 : okEb sh1 a = true := by unfold okEb; simp [isT_of k20]
  refine ⟨rcv_k B1.2.1.1, ⟨by omega, by omega⟩, l_add B1.2.1 hn ok1 B1.ok (fun sh' I' R' ea' cap' T e2 he => ?_)⟩
  have kA1 := d1.2.1.1
  have kA2 := B1.2.1.2.2.1
  have nXa : ¬ XL sh1 (A 1) (A 2) a := by
    intro z
    rcases z with z | ⟨z, c9, z2⟩
    · exact ne_k k20 B1.2.1.1 (by decide) z
    · exact ne_k k20 z2 (by decide) z
  have B2 := B1.app (f := f) e2 T (e2.k k20) (fun j hj => by rw [(e2.2 a (nnk k20) nXa).1]; exact hv j hj) m.2
  have O2 : OLD sh' I' R' K := O1.ex e2 (fun b z hz g1 g2 hx => by
    rcases hx with hx | ⟨hx, c9, z2⟩
    · rw [hx, B1.2.1.1] at hz; cases hz; exact absurd g1 (by decide)
    · rw [hx, z2] at hz; cases hz; exact absurd g2 (show ¬ (46 : Nat) < 30 by decide))
  have n0 : ∀ b, sh1 b = none → sh0 b = none := fun b hb => Classical.byContradiction (fun hn0 => by
    rw [(d5.tr e1 (fun _ _ z => z) : EXH (fun _ => False) sh0 I0 R0 sh1 I6 R).1 b hn0] at hb
    exact hn0 hb)
  have E2 : EXH (fun _ => False) sh0 I0 R0 sh' I' R' := (d5.tr e1 (fun _ _ z => z) : EXH (fun _ => False) sh0 I0 R0 sh1 I6 R).tr e2 (fun b hb hx => by
    rcases hx with hx | ⟨hx, c9, z2⟩
    · exact hb (by rw [hx]; exact D'.n0 (Or.inl (Or.inr (Or.inl rfl))) kA1 (by decide))
    · rw [e1.1 _ (fun z => by
        rcases d1.2.1.2.2.1 with ⟨y, -⟩ | ⟨y, -⟩
        · rw [y] at z; cases z
        · rw [y] at z; cases z)] at z2
      exact hb (by rw [hx]; exact D'.n0 (Or.inl (Or.inr (Or.inr (Or.inl rfl)))) z2 (by decide)))
  have ea3 : apS ρ f 3 = ρ 3 := ap_ne (by omega) (by omega)
  refine ⟨⟨by omega, by omega⟩, rfl, hP sh' I' R' ea' cap' a f ⟨B2, O2, Vb, ?_, E2, ?_⟩ f0⟩
  · rw [ea3]
    obtain ⟨g1, h, g2, g3, g4⟩ := d4
    have haS : a ∉ S := fun z => by rw [d1.1.2.1 a z] at ha; cases ha
    have hA3 : ¬ A 3 = a := fun z => by have := d1.1.2.2.1.1; rw [z, ha] at this; cases this
    refine ⟨?_, fun b => if b = a then 20 else h b, ?_, fun d hd => ?_, fun b hb => ?_⟩
    · refine List.nodup_append.mpr ⟨g1, by simp, fun u hu w hw => ?_⟩
      rw [List.mem_singleton.mp hw]
      exact fun z => haS (by rw [← z]; exact hu)
    · show (if (A 3) = a then 20 else h (A 3)) = 0
      rw [if_neg hA3]; exact g2
    · obtain ⟨-, -, c3, c4⟩ := d1.1.2.2.2 d hd
      show (if (if 6 + d = 2 then ea' else A (6 + d)) = a then 20 else h (if 6 + d = 2 then ea' else A (6 + d))) = 1 + d ∧ (if (if 9 + d = 2 then ea' else A (9 + d)) = a then 20 else h (if 9 + d = 2 then ea' else A (9 + d))) = 10 + d
      rw [if_neg (show ¬ 6 + d = 2 by omega), if_neg (show ¬ 9 + d = 2 by omega), if_neg (fun z => by rw [z, ha] at c3; cases c3), if_neg (fun z => by rw [z, ha] at c4; cases c4)]
      exact g3 d hd
    · show 20 ≤ if b = a then 20 else h b
      by_cases z : b = a
      · rw [if_pos z]; exact Nat.le_refl _
      · rw [if_neg z]
        refine g4 b ?_
        rcases List.mem_append.mp hb with y | y
        · exact y
        · exact absurd (List.mem_singleton.mp y) z
  · rw [ea3]
    intro b hb
    have a0 : sh0 a = none := Classical.byContradiction (fun z => by rw [d5.1 a z] at ha; exact z ha)
    rcases hb with hb | ⟨d, hd, hb⟩ | hb
    · rcases hb with hb | hb | hb | hb | hb | hb
      · exact d6 b (Or.inl (Or.inl hb))
      · exact d6 b (Or.inl (Or.inr (Or.inl hb)))
      · have hb : b = ea' := hb
        rw [hb]
        rcases he with he | he
        · rw [he]; exact d6 _ (Or.inl (Or.inr (Or.inr (Or.inl rfl))))
        · exact Or.inl (n0 _ he)
      · exact d6 b (Or.inl (Or.inr (Or.inr (Or.inr (Or.inl hb)))))
      · exact d6 b (Or.inl (Or.inr (Or.inr (Or.inr (Or.inr (Or.inl hb))))))
      · exact d6 b (Or.inl (Or.inr (Or.inr (Or.inr (Or.inr (Or.inr hb))))))
    · have hb : b = (if 6 + d = 2 then ea' else A (6 + d)) ∨ b = (if 9 + d = 2 then ea' else A (9 + d)) := hb
      rw [if_neg (by omega), if_neg (by omega)] at hb
      exact d6 b (Or.inr (Or.inl ⟨d, hd, hb⟩))
    · rcases List.mem_append.mp hb with y | y
      · exact d6 b (Or.inr (Or.inr y))
      · rw [List.mem_singleton.mp y]; exact Or.inl a0
theorem l_ash84 {c : Nat} {q x y : Int} {sub par : Nat} (D : DRX K sh0 I0 R0 ρ A cap S sh I R) 
    (hc : (c : Int) < ρ 3) (hq : 0 ≤ q ∧ q ≤ 2147483647) (hn : S.length < 12) (hm : ∀ s, 0 ≤ s → s < ρ 4 → scS ρ s ≤ c) (q2 : 0 ≤ x ∧ x ≤ 199) (q3 : 0 ≤ y ∧ y ≤ 199) (q4 : sub < 6) (q5 : inS ρ c sub = true) (q6 : par < 6) (q7 : inS ρ c par = true) (q8 : ¬ (axS ρ c sub = x ∧ ayS ρ c sub = y))
    (hP : ∀ sh' I' R' ea' cap' a f, DRX K sh0 I0 R0 (apS ρ f) (fun i => if i = 2 then ea' else A i) cap' (S ++ [a]) sh' I' R' → f 0 = c → P sh' I' R') :
    wL_addShot_b84 K J fu (qwV P) sh I R 0 0 (A 0) (iz (c : Int)) (iz q) (iz x) (iz y) (iz (sub : Int)) (iz (par : Int)) := by
  have B := D.1
  unfold wL_addShot_b84
  refine wB_of (oR_at B.1.1.1 B.1.1.2.1) ?_
  refine ⟨⟨by decide, by decide⟩, ⟨by decide, by decide⟩, fun a ha => ?_⟩
  have e6 : (6 : Int32).toNatClampNeg = 6 := by decide
  rw [e6]
  have k20 : u1 sh a (some (20, 6)) a = some (20, 6) := u1_on
  refine wB_of (oS_n k20 0 (by decide) il0) ?_
  refine wB_of (oS_n k20 1 (by decide) il1) ?_
  refine wB_of (oS_n k20 2 (by decide) il2) ?_
  refine wB_of (oS_n k20 3 (by decide) il3) ?_
  have o4 : ∀ b, ¬ b = a → u2 (u2 (u2 (u2 (u1 I a (fun _ => 0)) a 0 (iz (c : Int))) a 1 (iz x)) a 2 (iz y)) a 3 (iz (sub : Int)) b = I b := fun b hb => funext (fun j => by rw [u2_off hb, u2_off hb, u2_off hb, u2_off hb, u1_off hb])
  have w0 : u2 (u2 (u2 (u2 (u1 I a (fun _ => 0)) a 0 (iz (c : Int))) a 1 (iz x)) a 2 (iz y)) a 3 (iz (sub : Int)) a 0 = iz (c : Int) := by rw [u2_k (by decide), u2_k (by decide), u2_k (by decide), u2_self]
  have w1 : u2 (u2 (u2 (u2 (u1 I a (fun _ => 0)) a 0 (iz (c : Int))) a 1 (iz x)) a 2 (iz y)) a 3 (iz (sub : Int)) a 1 = iz x := by rw [u2_k (by decide), u2_k (by decide), u2_self]
  have w2 : u2 (u2 (u2 (u2 (u1 I a (fun _ => 0)) a 0 (iz (c : Int))) a 1 (iz x)) a 2 (iz y)) a 3 (iz (sub : Int)) a 2 = iz y := by rw [u2_k (by decide), u2_self]
  have w3 : u2 (u2 (u2 (u2 (u1 I a (fun _ => 0)) a 0 (iz (c : Int))) a 1 (iz x)) a 2 (iz y)) a 3 (iz (sub : Int)) a 3 = iz (sub : Int) := by rw [u2_self]
  generalize u2 (u2 (u2 (u2 (u1 I a (fun _ => 0)) a 0 (iz (c : Int))) a 1 (iz x)) a 2 (iz y)) a 3 (iz (sub : Int)) = I4 at *
  have none9 : wL_addShot_b129 K J fu (qwV P) (u1 sh a (some (20, 6))) I4 R (0 + 1) (0 + 6) (iz q) 4 a a (A 1) := by
    unfold wL_addShot_b129
    exact l_ash135 D ⟨rfl, rfl⟩ ha o4 w0 w1 w2 w3 hc hq hn hm q2 q3 ⟨by omega, by omega⟩ q5 (Or.inl rfl) q8 hP
  by_cases c1 : par = sub
  · rw [if_pos (by rw [c1])]
    exact none9
  · rw [if_neg (by rw [ieq rfl rfl (IRn (by omega)) (IRn (by omega))]; omega)]
    refine wB_of (oD_l il6 hq.1 hq.2 (by decide) (by decide)) ?_
    refine wB_of (oM_l il4 (by omega) (by omega) (by decide) (by decide)) ?_
    by_cases c2 : q / 6 % 4 = 0
    · rw [if_pos (by rw [c2]; rfl)]
      exact none9
    · rw [if_neg (by rw [ieq rfl il0 ⟨by omega, by omega⟩ ⟨by decide, by decide⟩]; exact c2)]
      exact l_ash135 D ⟨rfl, rfl⟩ ha o4 w0 w1 w2 w3 hc hq hn hm q2 q3 ⟨by omega, by omega⟩ q5 (Or.inr ⟨by omega, q7, by omega⟩) q8 hP
theorem l_addShot {c : Nat} {p q : Int} (D : DRX K sh0 I0 R0 ρ A cap S sh I R) (hfu : 5000 ≤ fu)
    (hc : (c : Int) < ρ 3) (hp : 0 ≤ p ∧ p ≤ 2147483647) (hq : 0 ≤ q ∧ q ≤ 2147483647) (hn : S.length < 12) (hm : ∀ s, 0 ≤ s → s < ρ 4 → scS ρ s ≤ c)
    (hP : ∀ sh' I' R' ea' cap' a f, DRX K sh0 I0 R0 (apS ρ f) (fun i => if i = 2 then ea' else A i) cap' (S ++ [a]) sh' I' R' → f 0 = c → P sh' I' R') :
    wL_addShot K J fu sh I R (A 0) (iz (c : Int)) (iz p) (iz q) (qwV P) := by
  have B := D.1
  have V := D.2.2.1
  have m := V.m
  unfold wL_addShot
  refine wB_of (oM_l il12 hp.1 hp.2 (by decide) (by decide)) ?_
  refine wB_of (oD_l il12 hp.1 hp.2 (by decide) (by decide)) ?_
  refine wB_of (oM_l il12 (by omega) (by omega) (by decide) (by decide)) ?_
  refine wB_of (oD_l il144 hp.1 hp.2 (by decide) (by decide)) ?_
  refine wB_of (oM_l il6 (by omega) (by omega) (by decide) (by decide)) ?_
  refine ⟨⟨by decide, by decide⟩, l_someActor B V hfu hc ⟨by omega, by omega⟩ (fun sub hsub hsi => ?_)⟩
  refine wB_of (oM_l il6 hq.1 hq.2 (by decide) (by decide)) ?_
  refine ⟨⟨by decide, by decide⟩, l_someActor B V hfu hc ⟨by omega, by omega⟩ (fun par hpar hpi => ?_)⟩
  rw [il30, il10, il5, iz_mul, iz_mul, iz_add, iz_add, iz_add]
  have gx : 0 ≤ 30 + 10 * (p % 12) ∧ 30 + 10 * (p % 12) ≤ 190 := by omega
  have gy : 0 ≤ 30 + 10 * (p / 12 % 12) ∧ 30 + 10 * (p / 12 % 12) ≤ 190 := by omega
  generalize 30 + 10 * (p % 12) = x at *
  generalize 30 + 10 * (p / 12 % 12) = y at *
  have sc := (V.scene (show (0 : Int) ≤ c by omega) hc).2.2 sub (by omega) (by omega) hsi
  obtain ⟨r1, r2, r3, r4⟩ := B.1.2.2.2 c hc
  have p1 := (oAr_n (R := R) (x := iz (c : Int)) B.1.2.2.1.2.1 c (by omega) rfl).trans r1
  have p2 := (oAr_n (R := R) (x := iz (c : Int)) B.1.2.2.1.2.2 c (by omega) rfl).trans r2
  have hx : lxS ρ c sub = axS ρ c sub := by unfold lxS; rw [if_pos hsi]
  have hy : lyS ρ c sub = ayS ρ c sub := by unfold lyS; rw [if_pos hsi]
  refine wB_of (oR_at B.1.1.1 B.1.1.2.2.2.1) ?_
  refine wB_of p1 ?_
  refine wB_of (oA2_n r3 sub (by omega) rfl) ?_
  rw [((B.2.2.2.1 c hc).2 sub hsub).1, hx]
  by_cases c1 : axS ρ c sub = x
  · rw [if_pos (by rw [c1])]
    refine wB_of (oR_at B.1.1.1 B.1.1.2.2.2.2) ?_
    refine wB_of p2 ?_
    refine wB_of (oA2_n r4 sub (by omega) rfl) ?_
    rw [((B.2.2.2.1 c hc).2 sub hsub).2, hy]
    by_cases c2 : ayS ρ c sub = y
    · rw [if_pos (by rw [c2])]
      exact l_ash84 D hc hq hn hm ⟨by omega, by omega⟩ ⟨by omega, by omega⟩ hsub hsi hpar hpi (by omega) hP
    · rw [if_neg (by rw [ieq rfl rfl ⟨by omega, by omega⟩ ⟨by omega, by omega⟩]; exact c2)]
      exact l_ash84 D hc hq hn hm ⟨by omega, by omega⟩ ⟨by omega, by omega⟩ hsub hsi hpar hpi (by omega) hP
  · rw [if_neg (by rw [ieq rfl rfl ⟨by omega, by omega⟩ ⟨by omega, by omega⟩]; exact c1)]
    exact l_ash84 D hc hq hn hm ⟨by omega, by omega⟩ ⟨by omega, by omega⟩ hsub hsi hpar hpi (by omega) hP
end DR
