theorem mT_ok2 : mT2.all mchkT = true := by decide +kernel
theorem mT_ok3 : mT3.all mchkT = true := by decide +kernel
