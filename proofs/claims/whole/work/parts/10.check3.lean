set_option maxRecDepth 100000 in
theorem zckY_f : zckY 295 = true := by decide +kernel
