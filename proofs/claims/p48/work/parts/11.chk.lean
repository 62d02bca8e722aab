def mchkT : MTy → Bool
  | (y, b, ml, r, (c, kd, na), _, (p1, p2, p3, p4)) =>
  [decide (lw_tb2[p1]? = some (.code y b ml r)), goodWord (.code y b ml r),
   (if kd = 0 then decide (lw_tb2[p2]? = some (.static y)) else decide (lw_tb2[p2]? = some (.instanceMethod y))),
   (if kd = 1 then decide (lw_tb2[p3]? = some (.selects (cN (rcN c)) y y)) else true),
   decide (lw_tb2[p4]? = some (.initialized y.cls)), decide (y.cls = cN c), plainName y.cls,
   decide (y.cls ≠ "java/lang/invoke/MethodHandle"), decide (y.cls ≠ "java/lang/invoke/VarHandle"),
   decide ((parseMethodDescriptor y.desc).map (fun d => d.parameters.length) = some (if kd = 0 then na else na - 1)),
   (if kd = 2 then decide (y.name = "<init>") && decide (r = none) else true), (if kd = 0 then true else decide (0 < na)),
   (if rcN c < 15 then decide ((vwCl[rcN c]?).map (fun r => r.1) = some (cN (rcN c))) else true), (if c = 14 then decide (cN c = "java/lang/String") else true), decide (kd < 6)].all id
theorem mT_ok0 : mT0.all mchkT = true := by decide +kernel
theorem mT_ok1 : mT1.all mchkT = true := by decide +kernel
