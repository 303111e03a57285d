theorem dL_law_2007 : decode cL_law 2007 = .ok (.ireturn, 1) := by decide +kernel
