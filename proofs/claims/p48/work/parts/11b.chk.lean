theorem mT_ok4 : mT4.all mchkT = true := by decide +kernel
theorem mT_ok5 : mT5.all mchkT = true := by decide +kernel
theorem mT_ok : mT.all mchkT = true := by
  unfold mT
  simp only [List.all_append, mT_ok0, mT_ok1, mT_ok2, mT_ok3, mT_ok4, mT_ok5, Bool.and_self]
theorem mG_in {k : Nat} (hk : k < mT.length) : mG k ∈ mT := by
  unfold mG
  rw [List.getD_eq_getElem?_getD, List.getElem?_eq_getElem hk]
  exact List.getElem_mem hk
theorem mt_at {k : Nat} (hk : k < mT.length) : mchkT (mG k) = true := List.all_eq_true.mp mT_ok _ (mG_in hk)
