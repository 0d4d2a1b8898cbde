theorem ck256 : ckM 256 = true := by decide +kernel
