/-! the law against its bytes, a stretch -/
theorem qk_C384 : q_ckC 384 49 = true := by decide +kernel
theorem qk_C432 : q_ckC 432 49 = true := by decide +kernel
theorem qk_C480 : q_ckC 480 49 = true := by decide +kernel
theorem qk_C528 : q_ckC 528 35 = true := by decide +kernel
