/-! the fresh heap, run by the kernel -/
theorem fokA_0 : fokA false 0 1977 = true := by decide +kernel
theorem fokA_1 : fokA true 0 5 = true := by decide +kernel
theorem fokA_2 : fokA true 5 975 = true := by decide +kernel
theorem fokA_3 : fokA true 980 997 = true := by decide +kernel
theorem fokC_ok : fokC = true := by decide +kernel
