/-! the law against its bytes, a stretch -/
theorem qk_C192 : q_ckC 192 49 = true := by decide +kernel
theorem qk_C240 : q_ckC 240 49 = true := by decide +kernel
theorem qk_C288 : q_ckC 288 49 = true := by decide +kernel
theorem qk_C336 : q_ckC 336 49 = true := by decide +kernel
