/-! the law's instructions -/
theorem dw_521 : decode code 521 = .ok (.iconst 1, 1) := by decide +kernel
theorem dw_522 : decode code 522 = .ok (.ireturn, 1) := by decide +kernel
