/-! the law against its bytes, a stretch -/
theorem qk_C0 : q_ckC 0 49 = true := by decide +kernel
theorem qk_C48 : q_ckC 48 49 = true := by decide +kernel
theorem qk_C96 : q_ckC 96 49 = true := by decide +kernel
theorem qk_C144 : q_ckC 144 49 = true := by decide +kernel
