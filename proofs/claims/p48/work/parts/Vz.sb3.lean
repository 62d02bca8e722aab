/-! THE LAW, STAGE 2: a number put behind a builder's text; the text told -/
section SB
variable {K J : Nat → Nat} {fu : Nat} {sh0 sh sh' : HS} {I0 I I' : HI} {R0 R R' : HR} {b ea cap q : Nat} {T U : List Int} {X : Nat → Prop}
theorem decS_len {x : Int} (h : 0 ≤ x ∧ x ≤ 9999) : (decS x).length = if x < 10 then 1 else if x < 100 then 2 else if x < 1000 then 3 else 4 := by
  unfold decS
  repeat' split <;> try rfl
theorem decS_c {x : Int} (h : 0 ≤ x ∧ x ≤ 9999) : ∀ c, c ∈ decS x → 48 ≤ c ∧ c ≤ 57 := by
  intro c hc
  unfold decS at hc
  split at hc
  · have : c = 48 + x := by simpa using hc
    omega
  · split at hc
    · have : c = 48 + x / 10 ∨ c = 48 + x % 10 := by simpa using hc
      omega
    · split at hc
      · have : c = 48 + x / 100 ∨ c = 48 + x / 10 % 10 ∨ c = 48 + x % 10 := by simpa using hc
        omega
      · have : c = 48 + x / 1000 ∨ c = 48 + x / 100 % 10 ∨ c = 48 + x / 10 % 10 ∨ c = 48 + x % 10 := by simpa using hc
        omega
theorem decS_chr {x : Int} (h : 0 ≤ x ∧ x ≤ 9999) : CHR (decS x) := fun c hc => by have := decS_c h c hc; omega
theorem l_ssz (hfu : 5000 ≤ fu) {x : Int} (h : 0 ≤ x ∧ x ≤ 9999) : fJ6_stringSize_0f7a4 fu sh I R (iz x) = some (iz ((decS x).length : Int)) := by
  obtain ⟨f5, rfl⟩ : ∃ f, fu = f + 5 := ⟨fu - 5, by omega⟩
  unfold fJ6_stringSize_0f7a4
  rw [if_neg (by rw [ilt rfl il0 ⟨by omega, by omega⟩ ⟨by decide, by decide⟩]; omega)]
  unfold fJ6_stringSize_0f7a4_b11
  have st : ∀ (n : Nat) (l3 : Int) (l2 : Int), 1 ≤ l3 → l3 ≤ 4 → l2 ≤ 0 → -10000 ≤ l2 → fJ6_stringSize_0f7a4_l16 (f5 + 5) sh I R (n + 1) (-iz x) 0 (iz l2) (iz l3) = if -x ≤ l2 then fJ6_stringSize_0f7a4_l16 (f5 + 5) sh I R n (-iz x) 0 (iz (10 * l2)) (iz (l3 + 1)) else some (iz l3) := by
    intro n l3 l2 h1 h2 h3 h4
    show fJ6_stringSize_0f7a4_b16 (f5 + 5) sh I R (fJ6_stringSize_0f7a4_l16 (f5 + 5) sh I R n) (-iz x) 0 (iz l2) (iz l3) = _
    unfold fJ6_stringSize_0f7a4_b16
    rw [if_neg (by rw [ile il10 rfl ⟨by decide, by decide⟩ ⟨by omega, by omega⟩]; omega), iz_neg]
    by_cases z : -x ≤ l2
    · rw [if_pos z, if_pos (by rw [ile rfl rfl ⟨by omega, by omega⟩ ⟨by omega, by omega⟩]; exact z), il10, il1, iz_mul, iz_add]
    · rw [if_neg z, if_neg (by rw [ile rfl rfl ⟨by omega, by omega⟩ ⟨by omega, by omega⟩]; exact z), il0, iz_add, Int.add_zero]
  rw [decS_len h]
  show fJ6_stringSize_0f7a4_l16 (f5 + 5) sh I R (f5 + 4 + 1) (-iz x) 0 (-10) 1 = _
  rw [show (-10 : Int32) = iz (-10) from by decide, il1, st _ _ _ (by decide) (by decide) (by decide) (by decide)]
  by_cases c1 : x < 10
  · rw [if_neg (by omega), if_pos c1]; rfl
  · rw [if_pos (by omega), if_neg c1, show f5 + 4 = f5 + 3 + 1 from rfl, st _ _ _ (by decide) (by decide) (by decide) (by decide)]
    by_cases c2 : x < 100
    · rw [if_neg (by omega), if_pos c2]; rfl
    · rw [if_pos (by omega), if_neg c2, show f5 + 3 = f5 + 2 + 1 from rfl, st _ _ _ (by decide) (by decide) (by decide) (by decide)]
      by_cases c3 : x < 1000
      · rw [if_neg (by omega), if_pos c3]; rfl
      · rw [if_pos (by omega), if_neg c3, show f5 + 2 = f5 + 1 + 1 from rfl, st _ _ _ (by decide) (by decide) (by decide) (by decide), if_neg (by omega)]; rfl
theorem oD_neg {x : Nat} (h : x ≤ 10000) : oD (iz (-(x : Int))) 100 = some (iz (-((x / 100 : Nat) : Int))) := by
  unfold oD
  rw [if_neg (by decide)]
  have e := Int32.ofInt_tdiv (a := -(x : Int)) (b := 100) (by show (-2147483648 : Int) ≤ -(x : Int); omega) (by show -(x : Int) ≤ (2147483647 : Int); omega) (by show (-2147483648 : Int) ≤ (100 : Int); omega) (by show (100 : Int) ≤ (2147483647 : Int); omega)
  have e2 : (-(x : Int)).tdiv 100 = -((x / 100 : Nat) : Int) := by
    rw [Int.neg_tdiv, Int.tdiv_eq_ediv_of_nonneg (by omega)]
    omega
  rw [e2] at e
  unfold iz
  rw [e]
  rfl
theorem l_g72 {P : Int32 → HS → HI → HR → Prop} (D : DIG sh I K) (s3 : sh ea = some (21, cap)) (hcap : cap ≤ 1290) {y p : Nat} (hy : y < 100) (hp : (if y < 10 then 1 else 2) ≤ p) (hpc : p ≤ cap)
    (h1 : y < 10 → P (iz ((p - 1 : Nat) : Int)) sh (u2 I ea (p - 1) (iz (48 + (y : Int)))) R) (h2 : ¬ y < 10 → P (iz ((p - 2 : Nat) : Int)) sh (u2 (u2 I ea (p - 1) (iz (48 + (y : Int) % 10))) ea (p - 2) (iz (48 + (y : Int) / 10))) R) :
    wJ6_getChars_ba4f3_b72 K J fu (qwI P) sh I R (iz (-(y : Int))) ea (iz (p : Int)) 0 := by
  obtain ⟨d1, d2, d3⟩ := D
  have p1 : 1 ≤ p := by split at hp <;> omega
  have n1 : ¬ K (nS + 3) = ea := ne_k d2 s3 (by decide)
  unfold wJ6_getChars_ba4f3_b72
  have em : (-1 : Int32) = iz (-1) := by decide
  rw [iz_neg, Int.neg_neg, em, iz_add, show ((p : Int) + -1) = ((p - 1 : Nat) : Int) by omega]
  refine wB_of (oBb_n (Or.inr d1) y hy rfl) ?_
  refine wB_of (oBs_n s3 (p - 1) (by omega) rfl (by omega)) ?_
  rw [(d3 y hy).1, (fits_c (x := 48 + (y : Int) % 10) (by omega)).2]
  by_cases c : y < 10
  · rw [if_pos (by rw [ile (show (-9 : Int32) = iz (-9) by decide) rfl ⟨by decide, by decide⟩ ⟨by omega, by omega⟩]; omega)]
    unfold wJ6_getChars_ba4f3_b104
    rw [if_pos rfl]
    unfold wJ6_getChars_ba4f3_b118
    have := h1 c
    rw [show (48 + (y : Int) % 10) = 48 + (y : Int) by omega]
    exact ⟨_, rfl, this⟩
  · rw [if_neg (by rw [ile (show (-9 : Int32) = iz (-9) by decide) rfl ⟨by decide, by decide⟩ ⟨by omega, by omega⟩]; omega)]
    rw [if_neg c] at hp
    refine wB_of (oBb_n (Or.inr d2) y hy rfl) ?_
    rw [iz_add, show (((p - 1 : Nat) : Int) + -1) = ((p - 2 : Nat) : Int) by omega]
    refine wB_of (oBs_n s3 (p - 2) (by omega) rfl (by omega)) ?_
    rw [u2_off n1, (d3 y hy).2, (fits_c (x := 48 + (y : Int) / 10) (by omega)).2]
    unfold wJ6_getChars_ba4f3_b104
    rw [if_pos rfl]
    unfold wJ6_getChars_ba4f3_b118
    exact ⟨_, rfl, h2 c⟩
theorem l_getc {P : Int32 → HS → HI → HR → Prop} (hfu : 5000 ≤ fu) (D : DIG sh I K) (s3 : sh ea = some (21, cap)) (hcap : cap ≤ 1290) {x : Int} (hx : 0 ≤ x ∧ x ≤ 9999) {n : Nat} (hn : n + (decS x).length ≤ cap)
    (hP : ∀ f v, (∀ y, ¬ y = ea → f y = I y) → (∀ j, ¬ (n ≤ j ∧ j < n + (decS x).length) → f ea j = I ea j) → (∀ (k : Nat) (c : Int), (decS x)[k]? = some c → f ea (n + k) = iz c) → P v sh f R) : wJ6_getChars_ba4f3 K J fu sh I R (iz x) (iz ((n + (decS x).length : Nat) : Int)) ea (qwI P) := by
  obtain ⟨x, rfl⟩ : ∃ m : Nat, x = (m : Int) := ⟨x.toNat, by omega⟩
  obtain ⟨f5, hf5⟩ : ∃ f, fu = f + 2 := ⟨fu - 2, by omega⟩
  have hL := decS_len hx
  unfold wJ6_getChars_ba4f3
  rw [if_pos (by rw [ile il0 rfl ⟨by decide, by decide⟩ ⟨by omega, by omega⟩]; exact hx.1)]
  unfold wJ6_getChars_ba4f3_b12
  rw [if_pos rfl, iz_neg]
  by_cases c1 : x < 100
  · rw [hf5]
    show wJ6_getChars_ba4f3_b22 K J (f5 + 2) (qwI P) (wJ6_getChars_ba4f3_l22 K J (f5 + 2) (qwI P) (wJ6_getChars_ba4f3_b72 K J (f5 + 2) (qwI P)) (f5 + 1)) (wJ6_getChars_ba4f3_b72 K J (f5 + 2) (qwI P)) sh I R (iz (-(x : Int))) ea _ 0
    unfold wJ6_getChars_ba4f3_b22
    rw [if_pos (by rw [ilt (show (-100 : Int32) = iz (-100) by decide) rfl ⟨by decide, by decide⟩ ⟨by omega, by omega⟩]; omega)]
    by_cases c2 : x < 10
    · have ed : decS (x : Int) = [48 + (x : Int)] := by unfold decS; rw [if_pos (by omega)]
      rw [ed] at hn hP ⊢
      have el : [48 + (x : Int)].length = 1 := rfl
      rw [el] at hn hP ⊢
      refine l_g72 D s3 hcap c1 (by rw [if_pos c2]; omega) (by omega) (fun _ => ?_) (fun z => absurd c2 z)
      refine hP _ _ (fun y hy => funext (fun j => u2_off hy j)) (fun j hj => ?_) (fun k c hk => ?_)
      · rw [u2_k (by omega)]
      · have k0 : k = 0 := by have := (List.getElem?_eq_some_iff.mp hk).1; rw [el] at this; omega
        subst k0
        have hk : 48 + (x : Int) = c := Option.some.inj hk
        rw [← hk, u2_on, if_pos (by omega)]
    · have ed : decS (x : Int) = [48 + (x : Int) / 10, 48 + (x : Int) % 10] := by unfold decS; rw [if_neg (by omega), if_pos (by omega)]
      rw [ed] at hn hP ⊢
      have el : [48 + (x : Int) / 10, 48 + (x : Int) % 10].length = 2 := rfl
      rw [el] at hn hP ⊢
      refine l_g72 D s3 hcap c1 (by rw [if_neg c2]; omega) (by omega) (fun z => absurd z c2) (fun _ => ?_)
      refine hP _ _ (fun y hy => funext (fun j => by rw [u2_off hy, u2_off hy])) (fun j hj => ?_) (fun k c hk => ?_)
      · rw [u2_k (by omega), u2_k (by omega)]
      · have k0 : k = 0 ∨ k = 1 := by have := (List.getElem?_eq_some_iff.mp hk).1; rw [el] at this; omega
        rcases k0 with k0 | k0 <;> subst k0
        · have hk : 48 + (x : Int) / 10 = c := Option.some.inj hk
          rw [← hk, u2_on, if_pos (by omega)]
        · have hk : 48 + (x : Int) % 10 = c := Option.some.inj hk
          rw [← hk, u2_on, if_neg (by omega), u2_on, if_pos (by omega)]
  · rw [hf5]
    show wJ6_getChars_ba4f3_b22 K J (f5 + 2) (qwI P) (wJ6_getChars_ba4f3_l22 K J (f5 + 2) (qwI P) (wJ6_getChars_ba4f3_b72 K J (f5 + 2) (qwI P)) (f5 + 1)) (wJ6_getChars_ba4f3_b72 K J (f5 + 2) (qwI P)) sh I R (iz (-(x : Int))) ea _ 0
    unfold wJ6_getChars_ba4f3_b22
    have hl3 : 3 ≤ (decS (x : Int)).length := by
      rw [hL, if_neg (by omega), if_neg (by omega)]
      split <;> omega
    rw [if_neg (by rw [ilt (show (-100 : Int32) = iz (-100) by decide) rfl ⟨by decide, by decide⟩ ⟨by omega, by omega⟩]; omega)]
    refine wB_of (oD_neg (by omega)) ?_
    have eidx : iz (-((x / 100 : Nat) : Int)) * 100 - iz (-(x : Int)) = iz ((x % 100 : Nat) : Int) := by
      rw [show (100 : Int32) = iz 100 from iz_lit 100, iz_mul, iz_sub]
      congr 1
      omega
    rw [eidx]
    obtain ⟨d1, d2, d3⟩ := D
    have n0 : ¬ K (nS + 2) = ea := ne_k d1 s3 (by decide)
    have n1 : ¬ K (nS + 3) = ea := ne_k d2 s3 (by decide)
    have em : (-1 : Int32) = iz (-1) := by decide
    refine wB_of (oBb_n (Or.inr d1) (x % 100) (by omega) rfl) ?_
    rw [em, iz_add, show (((n + (decS (x : Int)).length : Nat) : Int) + -1) = ((n + (decS (x : Int)).length - 1 : Nat) : Int) by omega]
    refine wB_of (oBs_n s3 (n + (decS (x : Int)).length - 1) (by omega) rfl (by omega)) ?_
    rw [(d3 (x % 100) (by omega)).1, (fits_c (x := 48 + ((x % 100 : Nat) : Int) % 10) (by omega)).2]
    refine wB_of (oBb_n (Or.inr d2) (x % 100) (by omega) rfl) ?_
    rw [iz_add, show (((n + (decS (x : Int)).length - 1 : Nat) : Int) + -1) = ((n + (decS (x : Int)).length - 2 : Nat) : Int) by omega]
    refine wB_of (oBs_n s3 (n + (decS (x : Int)).length - 2) (by omega) rfl (by omega)) ?_
    rw [u2_off n1, (d3 (x % 100) (by omega)).2, (fits_c (x := 48 + ((x % 100 : Nat) : Int) / 10) (by omega)).2]
    have D2 : DIG sh (u2 (u2 I ea (n + (decS (x : Int)).length - 1) (iz (48 + ((x % 100 : Nat) : Int) % 10))) ea (n + (decS (x : Int)).length - 2) (iz (48 + ((x % 100 : Nat) : Int) / 10))) K := ⟨d1, d2, fun j hj => by
      rw [u2_off n0, u2_off n0, u2_off n1, u2_off n1]
      exact d3 j hj⟩
    show wJ6_getChars_ba4f3_b22 K J (f5 + 2) (qwI P) (wJ6_getChars_ba4f3_l22 K J (f5 + 2) (qwI P) (wJ6_getChars_ba4f3_b72 K J (f5 + 2) (qwI P)) f5) (wJ6_getChars_ba4f3_b72 K J (f5 + 2) (qwI P)) sh _ R (iz (-((x / 100 : Nat) : Int))) ea _ 0
    unfold wJ6_getChars_ba4f3_b22
    rw [if_pos (by rw [ilt (show (-100 : Int32) = iz (-100) by decide) rfl ⟨by decide, by decide⟩ ⟨by omega, by omega⟩]; omega)]
    by_cases c2 : x < 1000
    · have ed : decS (x : Int) = [48 + (x : Int) / 100, 48 + (x : Int) / 10 % 10, 48 + (x : Int) % 10] := by unfold decS; rw [if_neg (by omega), if_neg (by omega), if_pos (by omega)]
      rw [ed] at hn hP D2 ⊢
      have el : [48 + (x : Int) / 100, 48 + (x : Int) / 10 % 10, 48 + (x : Int) % 10].length = 3 := rfl
      rw [el] at hn hP D2 ⊢
      refine l_g72 D2 s3 hcap (by omega) (by rw [if_pos (by omega)]; omega) (by omega) (fun _ => ?_) (fun z => absurd (by omega) z)
      refine hP _ _ (fun y hy => funext (fun j => by rw [u2_off hy, u2_off hy, u2_off hy])) (fun j hj => ?_) (fun k c hk => ?_)
      · rw [u2_k (by omega), u2_k (by omega), u2_k (by omega)]
      · have k0 : k = 0 ∨ k = 1 ∨ k = 2 := by have := (List.getElem?_eq_some_iff.mp hk).1; rw [el] at this; omega
        rcases k0 with k0 | k0 | k0 <;> subst k0
        · have hk : 48 + (x : Int) / 100 = c := Option.some.inj hk
          rw [← hk, u2_on, if_pos (by omega)]
          congr 1
        · have hk : 48 + (x : Int) / 10 % 10 = c := Option.some.inj hk
          rw [← hk, u2_on, if_neg (by omega), u2_on, if_pos (by omega)]
          congr 1
          omega
        · have hk : 48 + (x : Int) % 10 = c := Option.some.inj hk
          rw [← hk, u2_on, if_neg (by omega), u2_on, if_neg (by omega), u2_on, if_pos (by omega)]
          congr 1
          omega
    · have ed : decS (x : Int) = [48 + (x : Int) / 1000, 48 + (x : Int) / 100 % 10, 48 + (x : Int) / 10 % 10, 48 + (x : Int) % 10] := by unfold decS; rw [if_neg (by omega), if_neg (by omega), if_neg (by omega)]
      rw [ed] at hn hP D2 ⊢
      have el : [48 + (x : Int) / 1000, 48 + (x : Int) / 100 % 10, 48 + (x : Int) / 10 % 10, 48 + (x : Int) % 10].length = 4 := rfl
      rw [el] at hn hP D2 ⊢
      refine l_g72 D2 s3 hcap (by omega) (by rw [if_neg (by omega)]; omega) (by omega) (fun z => absurd z (by omega)) (fun _ => ?_)
      refine hP _ _ (fun y hy => funext (fun j => by rw [u2_off hy, u2_off hy, u2_off hy, u2_off hy])) (fun j hj => ?_) (fun k c hk => ?_)
      · rw [u2_k (by omega), u2_k (by omega), u2_k (by omega), u2_k (by omega)]
      · have k0 : k = 0 ∨ k = 1 ∨ k = 2 ∨ k = 3 := by have := (List.getElem?_eq_some_iff.mp hk).1; rw [el] at this; omega
        rcases k0 with k0 | k0 | k0 | k0 <;> subst k0
        · have hk : 48 + (x : Int) / 1000 = c := Option.some.inj hk
          rw [← hk, u2_on, if_pos (by omega)]
          congr 1
          omega
        · have hk : 48 + (x : Int) / 100 % 10 = c := Option.some.inj hk
          rw [← hk, u2_on, if_neg (by omega), u2_on, if_pos (by omega)]
          congr 1
        · have hk : 48 + (x : Int) / 10 % 10 = c := Option.some.inj hk
          rw [← hk, u2_on, if_neg (by omega), u2_on, if_neg (by omega), u2_on, if_pos (by omega)]
          congr 1
          omega
        · have hk : 48 + (x : Int) % 10 = c := Option.some.inj hk
          rw [← hk, u2_on, if_neg (by omega), u2_on, if_neg (by omega), u2_on, if_neg (by omega), u2_on, if_pos (by omega)]
          congr 1
          omega
theorem l_appI {P : Nat → HS → HI → HR → Prop} (B : SBX sh0 I0 R0 b T sh I R) (D : DIG sh I K) (hfu : 5000 ≤ fu) {x : Int} (hx : 0 ≤ x ∧ x ≤ 9999) (hl : T.length + 4 ≤ 640)
    (hP : ∀ sh' I' R', SBX sh0 I0 R0 b (T ++ decS x) sh' I' R' → EXH (XK sh) sh I R sh' I' R' → P b sh' I' R') : wJ4_append_bf812 K J fu sh I R b (iz x) (qwR P) := by
  obtain ⟨ea, cap, B, E, hb0, he0⟩ := B
  have s1 := B.1
  have hL := decS_len hx
  have hL4 : (decS x).length ≤ 4 := by
    rw [hL]
    by_cases c1 : x < 10
    · rw [if_pos c1]; omega
    · rw [if_neg c1]
      by_cases c2 : x < 100
      · rw [if_pos c2]; omega
      · rw [if_neg c2]
        split <;> omega
  unfold wJ4_append_bf812
  refine ⟨isT_of s1, ⟨by decide, by decide⟩, ?_⟩
  unfold wJ5_append_c97b9
  refine wB_of (oI_at s1) ?_
  refine ⟨⟨by decide, by decide⟩, ?_⟩
  refine wB_of (l_ssz hfu hx) ?_
  refine ⟨rcv_k s1, ⟨by decide, by decide⟩, ?_⟩
  rw [B.2.2.2.2.1, iz_add, show ((T.length : Int) + ((decS x).length : Int)) = ((T.length + (decS x).length : Nat) : Int) from rfl]
  refine l_ensure B (by omega) (fun ea' cap' sh1 I1 R1 B1 hcp e1 he => ?_)
  have he1 : sh0 ea' = none := by
    rcases he with he | he
    · rw [he]; exact he0
    · exact E.nw he
  have E1 : EXH (fun _ => False) sh0 I0 R0 sh1 I1 R1 := E.tr e1 (fun y hy z => absurd (by rw [z]; exact hb0) hy)
  have D1 : DIG sh1 I1 K := D.ex e1 (fun a n h => ne_k h s1 (by decide))
  have hne := B1.ne
  obtain ⟨t1, t2, t3, t4, t5, t6, t7, t8⟩ := B1
  refine ⟨rcv_k t1, ⟨by decide, by decide⟩, l_lat1 t1 t4 ?_⟩
  rw [if_neg (by decide)]
  refine wB_of (oR_at t1 t2) ?_
  refine ⟨⟨by decide, by decide⟩, l_getc hfu D1 t3 t6.2 hx (by omega) (fun f v g1 g2 g3 => ?_)⟩
  refine wB_of (oP_at t1) ?_
  have e2 : EXH (fun q => q = b ∨ q = ea') sh1 I1 R1 sh1 (u2 f b 3 (iz ((T.length + (decS x).length : Nat) : Int))) R1 := ⟨fun _ _ => rfl, fun y _ hy => ⟨by
    funext j
    rw [u2_off (fun z => hy (Or.inl z)), g1 y (fun z => hy (Or.inr z))], rfl⟩⟩
  refine ⟨⟨by decide, by decide⟩, _, rfl, ⟨by decide, by decide⟩, _, rfl, hP _ _ _ ⟨ea', cap', ⟨t1, t2, t3, by rw [u2_k (by decide), g1 b hne]; exact t4, by rw [u2_self, List.length_append], ⟨by rw [List.length_append]; omega, t6.2⟩, fun j hj => ?_, fun k y hk => ?_⟩, SBX.pair E1 hb0 he1 e2, hb0, he1⟩ ?_⟩
  · rw [u2_off (fun z => hne z.symm)]
    by_cases z : T.length ≤ j ∧ j < T.length + (decS x).length
    · have h5 := List.getElem?_eq_getElem (l := decS x) (i := j - T.length) (by omega)
      have h6 := g3 (j - T.length) _ h5
      rw [show T.length + (j - T.length) = j by omega] at h6
      rw [h6]
      exact (fits_c (decS_chr hx _ (List.getElem_mem (by omega)))).1
    · rw [g2 j z]
      exact t7 j hj
  · rw [u2_off (fun z => hne z.symm)]
    rcases get_app hk with ⟨k1, k2⟩ | ⟨k1, k2, k3⟩
    · rw [g2 k (by omega)]
      exact t8 k y k2
    · have h6 := g3 _ _ k3
      rwa [show T.length + (k - T.length) = k by omega] at h6
  · refine (e1.mono (Y := XK sh) (fun y _ z => Or.inl ⟨4, by rw [z]; exact s1⟩)).tr e2 (fun y hy z => ?_)
    rcases z with z | z
    · exact Or.inl ⟨4, by rw [z]; exact s1⟩
    · rw [z]
      rcases he with he | he
      · rw [he]; exact Or.inr ⟨cap, B.2.2.1⟩
      · exact absurd (by rw [z]; exact he) hy
end SB
