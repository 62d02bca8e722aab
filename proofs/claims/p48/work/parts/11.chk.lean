def mchkT : MTy → Bool
  | (y, b, ml, r, (c, kd, na), _, (p1, p2, p3, p4)) =>
  [(if kd = 0 then decide (lw_tb2[p2]? = some (.static y)) else decide (lw_tb2[p2]? = some (.instanceMethod y))),
   (if kd = 1 then decide (lw_tb2[p3]? = some (.selects (cN (rcN c)) y y)) else true),
   decide (lw_tb2[p4]? = some (.initialized y.cls)), decide (y.cls = cN c), plainName y.cls,
   decide (y.cls ≠ "java/lang/invoke/MethodHandle"), decide (y.cls ≠ "java/lang/invoke/VarHandle"),
   decide ((parseMethodDescriptor y.desc).map (fun d => d.parameters.length) = some (if kd = 0 then na else na - 1)),
   (if kd = 2 then decide (y.name = "<init>") && decide (r = none) else true), (if kd = 0 then true else decide (0 < na)),
   (if rcN c < 15 then decide ((vwCl[rcN c]?).map (fun r => r.1) = some (cN (rcN c))) else true), (if c = 14 then decide (cN c = "java/lang/String") else true), decide (kd < 6)].all id
theorem mT_ok0 : mT0.all mchkT = true := by decide +kernel
theorem mT_ok1 : mT1.all mchkT = true := by decide +kernel
theorem mT_ok2 : mT2.all mchkT = true := by decide +kernel
theorem mT_ok3 : mT3.all mchkT = true := by decide +kernel
theorem mT_ok4 : mT4.all mchkT = true := by decide +kernel
theorem mT_ok5 : mT5.all mchkT = true := by decide +kernel
theorem mT_ok : mT.all mchkT = true := by
  unfold mT
  simp only [List.all_append, mT_ok0, mT_ok1, mT_ok2, mT_ok3, mT_ok4, mT_ok5, Bool.and_self]
theorem mG_in {k : Nat} (hk : k < mT.length) : mG k ∈ mT := by
  unfold mG
  rw [List.getD_eq_getElem?_getD, List.getElem?_eq_getElem hk]
  exact List.getElem_mem hk
theorem mt_at {k : Nat} (hk : k < mT.length) : mchkT (mG k) = true := List.all_eq_true.mp mT_ok _ (mG_in hk)
