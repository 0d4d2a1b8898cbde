theorem ck240 : ckM 240 = true := by decide +kernel
theorem ck241 : ckM 241 = true := by decide +kernel
theorem ck242 : ckM 242 = true := by decide +kernel
theorem ck243 : ckM 243 = true := by decide +kernel
theorem ck244 : ckM 244 = true := by decide +kernel
theorem ck245 : ckM 245 = true := by decide +kernel
theorem ck246 : ckM 246 = true := by decide +kernel
theorem ck247 : ckM 247 = true := by decide +kernel
