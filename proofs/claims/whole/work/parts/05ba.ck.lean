theorem ckl8 : ckL 1000 125 = true := by decide +kernel
theorem ckl9 : ckL 1125 125 = true := by decide +kernel
theorem ckl10 : ckL 1250 125 = true := by decide +kernel
theorem ckl11 : ckL 1375 113 = true := by decide +kernel
