set_option maxRecDepth 100000 in
theorem zckY_b : (List.range' 60 60).all zckY = true := by decide +kernel
set_option maxRecDepth 100000 in
theorem zckY_c : (List.range' 120 60).all zckY = true := by decide +kernel
set_option maxRecDepth 100000 in
theorem zckY_d : (List.range' 180 60).all zckY = true := by decide +kernel
set_option maxRecDepth 100000 in
theorem zckY_e : (List.range' 240 55).all zckY = true := by decide +kernel
