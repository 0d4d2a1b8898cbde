theorem ck248 : ckM 248 = true := by decide +kernel
theorem ck249 : ckM 249 = true := by decide +kernel
theorem ck250 : ckM 250 = true := by decide +kernel
theorem ck251 : ckM 251 = true := by decide +kernel
theorem ck252 : ckM 252 = true := by decide +kernel
theorem ck253 : ckM 253 = true := by decide +kernel
theorem ck254 : ckM 254 = true := by decide +kernel
theorem ck255 : ckM 255 = true := by decide +kernel
