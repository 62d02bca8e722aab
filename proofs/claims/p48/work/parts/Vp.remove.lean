/-! THE LAW, STAGE 2: an element taken out of a list, and put into it -/
section JD
variable {K J : Nat → Nat} {fu : Nat} {sh : HS} {I : HI} {R : HR} {L ea cap v q k : Nat} {S : List Nat}
theorem oAsN_n {q m : Nat} {x : Int32} (h : sh q = some (46, m)) (j : Nat) (hj : j < m) (hx : x = iz (j : Int)) (hm : m ≤ 2147483647 := by omega) : oAsN sh R q x = some (u2 R q j none) := by
  subst hx
  unfold oAsN
  rw [if_pos (inA_n h hj hm), iz_nat (by omega) (by omega)]
  rfl
theorem l_frm34 {P : HS → HI → HR → Prop} (h1 : sh L = some (10, 3)) (he : sh ea = some (46, cap)) (hc : cap ≤ 32) {m : Nat} (hm : m < cap) (hP : P sh (u2 I L 2 (iz (m : Int))) (u2 R ea m none)) : wJx4a65c_fastRemove_b59b0_b34 K J fu (qwV P) sh I R L ea (iz (m : Int)) := by
  unfold wJx4a65c_fastRemove_b59b0_b34
  refine wB_of (oP_at h1) ?_
  refine wB_of (oAsN_n he m hm rfl) ?_
  exact ⟨rfl, hP⟩
theorem izc_n {n : Nat} (h : n ≤ 2147483647) : (iz (n : Int)).toNatClampNeg = n := by
  rw [iz_nat (by omega) (by omega)]
  rfl
theorem iz_nneg {n : Nat} (h : n ≤ 2147483647) : ¬ iz (n : Int) < 0 := by
  rw [ilt rfl il0 (IRn h) ⟨by decide, by decide⟩]
  omega
theorem l_remove {P : Nat → HS → HI → HR → Prop} (h : LST sh I R K L ea cap S) (hok : ∀ q, q ∈ S → okEb sh q = true) (hk : S[k]? = some q)
    (hP : ∀ I' R', LST sh I' R' K L ea cap (S.eraseIdx k) → (∀ b, ¬ b = L → I' b = I b) → (∀ b, ¬ b = ea → R' b = R b) → P q sh I' R') : wJx4a65c_remove_915e3 K J fu sh I R L (iz (k : Int)) (qwR P) := by
  obtain ⟨hkl, he⟩ := h.lt hk
  have hne := h.ne
  have hh := h
  obtain ⟨h1, h2, h3, h4, h5, h6, h7⟩ := h
  unfold wJx4a65c_remove_915e3
  refine wB_of (oI_at h1) ?_
  rw [h6]
  refine l_chk (by omega) (by omega) (by omega) ?_
  refine wB_of (oR_at h1 h2) ?_
  refine wB_of (v := q) ((oAr_n he k (by omega) rfl).trans (h7 k q hk)) ?_
  refine ⟨rcv_k h1, ?_⟩
  unfold wJx4a65c_fastRemove_b59b0
  refine wB_of (oI_at h1) ?_
  refine wB_of (oP_at h1) ?_
  refine wB_of (oI_at h1) ?_
  rw [u2_k (by decide), h6]
  rw [show iz (S.length : Int) - 1 = iz ((S.length - 1 : Nat) : Int) from by rw [il1, iz_sub]; congr 1; omega]
  have hL : (S.eraseIdx k).length = S.length - 1 := by rw [List.length_eraseIdx, if_pos hkl]
  have fin : ∀ R1 : HR, (∀ b, ¬ b = ea → R1 b = R b) → (∀ i, i < S.length - 1 → R1 ea i = if i < k then R ea i else R ea (i + 1)) → P q sh (u2 (u2 I L 0 (I L 0 + 1)) L 2 (iz ((S.length - 1 : Nat) : Int))) (u2 R1 ea (S.length - 1) none) := by
    intro R1 r1 r2
    refine hP _ _ ⟨h1, by rw [u2_off hne, r1 _ hne]; exact h2, Or.inl ⟨he, ?_⟩, by rw [hL]; omega, h5, by rw [u2_self, hL], fun i y hi => ?_⟩ (fun b hb => ?_) (fun b hb => ?_)
    · rcases h3 with z | ⟨-, -, z, -⟩
      · exact z.2
      · rw [z] at hkl; exact absurd hkl (Nat.not_lt_zero _)
    · have hi1 := (List.getElem?_eq_some_iff.mp hi).1
      rw [hL] at hi1
      rw [u2_k (by omega), r2 i hi1]
      rw [List.getElem?_eraseIdx] at hi
      by_cases z : i < k
      · rw [if_pos z] at hi ⊢
        exact h7 i y hi
      · rw [if_neg z] at hi ⊢
        exact h7 (i + 1) y hi
    · funext j
      rw [u2_off hb, u2_off hb]
    · funext j
      rw [u2_off hb, r1 b hb]
  by_cases c : S.length - 1 ≤ k
  · rw [if_pos (by rw [ile rfl rfl (IRn (by omega)) (IRn (by omega))]; omega)]
    refine l_frm34 h1 he h5 (by omega) ?_
    exact ⟨_, rfl, fin R (fun _ _ => rfl) (fun i hi => by rw [if_pos (by omega)])⟩
  · rw [if_neg (by rw [ile rfl rfl (IRn (by omega)) (IRn (by omega))]; omega)]
    rw [show iz ((S.length - 1 : Nat) : Int) - iz (k : Int) = iz ((S.length - 1 - k : Nat) : Int) from by rw [iz_sub]; congr 1; omega, show iz (k : Int) + 1 = iz ((k + 1 : Nat) : Int) from by rw [il1, iz_add]; congr 1]
    refine ⟨cap, cap, he, he, iz_nneg (by omega), iz_nneg (by omega), iz_nneg (by omega), by rw [izc_n (by omega), izc_n (by omega)]; omega, by rw [izc_n (by omega), izc_n (by omega)]; omega, fun j hj y hy => ?_, ?_⟩
    · rw [izc_n (by omega)] at hj hy
      have := h7 (k + 1 + j) _ (List.getElem?_eq_getElem (by omega))
      rw [this] at hy
      cases hy
      exact okE_of (hok _ (List.getElem_mem _))
    · refine l_frm34 h1 he h5 (by omega) ?_
      refine ⟨_, rfl, fin _ (fun b hb => funext (fun j => if_neg (fun z => hb z.1))) (fun i hi => ?_)⟩
      unfold cpR
      rw [izc_n (by omega), izc_n (by omega), izc_n (by omega)]
      by_cases z : i < k
      · rw [if_neg (by omega), if_pos z]
      · rw [if_pos ⟨rfl, by omega, by omega⟩, if_neg z]
        congr 1
        omega
theorem l_addAt {P : HS → HI → HR → Prop} (h : LST sh I R K L ea cap S) (hok : ∀ q, q ∈ S → okEb sh q = true) (hv : okEb sh v = true) (he : sh ea = some (46, cap)) (hlt : S.length < cap) (hk : k ≤ S.length)
    (hP : ∀ I' R', LST sh I' R' K L ea cap (S.insertIdx k v) → (∀ b, ¬ b = L → I' b = I b) → (∀ b, ¬ b = ea → R' b = R b) → P sh I' R') : wJx4a65c_add_7a177 K J fu sh I R L (iz (k : Int)) v (qwV P) := by
  have hne := h.ne
  obtain ⟨h1, h2, h3, h4, h5, h6, h7⟩ := h
  unfold wJx4a65c_add_7a177 wJx4a65c_rangeCheckForAdd_d00df
  refine ⟨rcv_k h1, ⟨by decide, by decide⟩, ?_⟩
  refine wB_of (oI_at h1) ?_
  rw [h6, if_neg (by rw [ilt rfl rfl (IRn (by omega)) (IRn (by omega))]; omega), if_pos (by rw [ile il0 rfl ⟨by decide, by decide⟩ (IRn (by omega))]; omega)]
  refine ⟨rfl, ?_⟩
  refine wB_of (oI_at h1) ?_
  refine wB_of (oP_at h1) ?_
  refine wB_of (oI_at h1) ?_
  refine wB_of (oR_at h1 h2) ?_
  refine wB_of (oLn_n he (by decide)) ?_
  rw [u2_k (by decide), h6, if_neg (by rw [ieq rfl rfl (IRn (by omega)) (IRn (by omega))]; omega)]
  unfold wJx4a65c_add_7a177_b38
  rw [show iz (S.length : Int) - iz (k : Int) = iz ((S.length - k : Nat) : Int) from by rw [iz_sub]; congr 1; omega, show iz (k : Int) + 1 = iz ((k + 1 : Nat) : Int) from by rw [il1, iz_add]; congr 1, show iz (S.length : Int) + 1 = iz ((S.length + 1 : Nat) : Int) from by rw [il1, iz_add]; congr 1]
  refine ⟨⟨by decide, by decide⟩, ?_⟩
  refine ⟨cap, cap, he, he, iz_nneg (by omega), iz_nneg (by omega), iz_nneg (by omega), by rw [izc_n (by omega), izc_n (by omega)]; omega, by rw [izc_n (by omega), izc_n (by omega)]; omega, fun j hj y hy => ?_, ?_⟩
  · rw [izc_n (by omega)] at hj hy
    have := h7 (k + j) _ (List.getElem?_eq_getElem (by omega))
    rw [this] at hy
    cases hy
    exact okE_of (hok _ (List.getElem_mem _))
  · refine wB_of (oAs_n he k (by omega) rfl hv) ?_
    refine wB_of (oP_at h1) ?_
    refine ⟨⟨by decide, by decide⟩, rfl, ?_⟩
    have hL : (S.insertIdx k v).length = S.length + 1 := by rw [List.length_insertIdx, if_pos hk]
    rw [izc_n (by omega), izc_n (by omega), izc_n (by omega)]
    refine hP _ _ ⟨h1, ?_, Or.inl ⟨he, ?_⟩, by rw [hL]; omega, h5, by rw [u2_self, hL], fun i y hi => ?_⟩ (fun b hb => ?_) (fun b hb => ?_)
    · rw [u2_off hne]
      unfold cpR
      rw [if_neg (fun z => hne z.1)]
      exact h2
    · rcases h3 with z | ⟨-, -, -, z⟩
      · exact z.2
      · omega
    · have hi1 := (List.getElem?_eq_some_iff.mp hi).1
      rw [hL] at hi1
      rw [List.getElem?_insertIdx] at hi
      rw [u2_on]
      by_cases z : i < k
      · rw [if_pos z] at hi
        rw [if_neg (by omega)]
        unfold cpR
        rw [if_neg (by omega)]
        exact h7 i y hi
      · rw [if_neg z] at hi
        by_cases w : i = k
        · rw [if_pos w] at hi ⊢
          rw [if_pos (by omega)] at hi
          exact hi
        · rw [if_neg w] at hi ⊢
          unfold cpR
          rw [if_pos ⟨rfl, by omega, by omega⟩, show k + (i - (k + 1)) = i - 1 by omega]
          exact h7 (i - 1) y hi
    · funext j
      rw [u2_off hb, u2_off hb]
    · funext j
      rw [u2_off hb]
      exact if_neg (fun z => hb z.1)
end JD
