theorem ckl4 : ckL 500 125 = true := by decide +kernel
theorem ckl5 : ckL 625 125 = true := by decide +kernel
theorem ckl6 : ckL 750 125 = true := by decide +kernel
theorem ckl7 : ckL 875 125 = true := by decide +kernel
