noncomputable def zckLaw (a n : Nat) : Bool := (List.range' a n).all (fun l => zckB 295 (zprog 295 l))
set_option maxRecDepth 100000 in
theorem zckL_0 : zckLaw 0 2 = true := by decide +kernel
set_option maxRecDepth 100000 in
theorem zckL_2 : zckLaw 2 3 = true := by decide +kernel
set_option maxRecDepth 100000 in
theorem zckL_5 : zckLaw 5 1 = true := by decide +kernel
set_option maxRecDepth 100000 in
theorem zckL_6 : zckLaw 6 4 = true := by decide +kernel
set_option maxRecDepth 100000 in
theorem zckL_10 : zckLaw 10 3 = true := by decide +kernel
set_option maxRecDepth 100000 in
theorem zckL_13 : zckLaw 13 1 = true := by decide +kernel
set_option maxRecDepth 100000 in
theorem zckL_14 : zckLaw 14 3 = true := by decide +kernel
set_option maxRecDepth 100000 in
theorem zckL_17 : zckLaw 17 5 = true := by decide +kernel
set_option maxRecDepth 100000 in
theorem zckL_22 : zckLaw 22 3 = true := by decide +kernel
set_option maxRecDepth 100000 in
theorem zckL_25 : zckLaw 25 5 = true := by decide +kernel
set_option maxRecDepth 100000 in
theorem zckL_30 : zckLaw 30 4 = true := by decide +kernel
set_option maxRecDepth 100000 in
theorem zckL_34 : zckLaw 34 4 = true := by decide +kernel
set_option maxRecDepth 100000 in
theorem zckL_38 : zckLaw 38 3 = true := by decide +kernel
set_option maxRecDepth 100000 in
theorem zckL_41 : zckLaw 41 3 = true := by decide +kernel
set_option maxRecDepth 100000 in
theorem zckL_44 : zckLaw 44 2 = true := by decide +kernel
set_option maxRecDepth 100000 in
theorem zckL_46 : zckLaw 46 2 = true := by decide +kernel
set_option maxRecDepth 100000 in
theorem zckL_48 : zckLaw 48 2 = true := by decide +kernel
set_option maxRecDepth 100000 in
theorem zckL_50 : zckLaw 50 1 = true := by decide +kernel
set_option maxRecDepth 100000 in
theorem zckL_51 : zckLaw 51 3 = true := by decide +kernel
set_option maxRecDepth 100000 in
theorem zckL_54 : zckLaw 54 3 = true := by decide +kernel
set_option maxRecDepth 100000 in
theorem zckL_57 : zckLaw 57 3 = true := by decide +kernel
set_option maxRecDepth 100000 in
theorem zckL_60 : zckLaw 60 2 = true := by decide +kernel
set_option maxRecDepth 100000 in
theorem zckL_62 : zckLaw 62 1 = true := by decide +kernel
set_option maxRecDepth 100000 in
theorem zckL_63 : zckLaw 63 4 = true := by decide +kernel
set_option maxRecDepth 100000 in
theorem zckL_67 : zckLaw 67 4 = true := by decide +kernel
set_option maxRecDepth 100000 in
theorem zckL_71 : zckLaw 71 3 = true := by decide +kernel
set_option maxRecDepth 100000 in
theorem zckL_74 : zckLaw 74 2 = true := by decide +kernel
set_option maxRecDepth 100000 in
theorem zckL_76 : zckLaw 76 2 = true := by decide +kernel
set_option maxRecDepth 100000 in
theorem zckL_78 : zckLaw 78 5 = true := by decide +kernel
set_option maxRecDepth 100000 in
theorem zckL_83 : zckLaw 83 3 = true := by decide +kernel
set_option maxRecDepth 100000 in
theorem zckL_86 : zckLaw 86 4 = true := by decide +kernel
set_option maxRecDepth 100000 in
theorem zckL_90 : zckLaw 90 4 = true := by decide +kernel
set_option maxRecDepth 100000 in
theorem zckL_94 : zckLaw 94 3 = true := by decide +kernel
set_option maxRecDepth 100000 in
theorem zckL_97 : zckLaw 97 3 = true := by decide +kernel
set_option maxRecDepth 100000 in
theorem zckL_100 : zckLaw 100 2 = true := by decide +kernel
set_option maxRecDepth 100000 in
theorem zckL_102 : zckLaw 102 2 = true := by decide +kernel
set_option maxRecDepth 100000 in
theorem zckL_104 : zckLaw 104 2 = true := by decide +kernel
set_option maxRecDepth 100000 in
theorem zckL_106 : zckLaw 106 5 = true := by decide +kernel
set_option maxRecDepth 100000 in
theorem zckL_111 : zckLaw 111 5 = true := by decide +kernel
set_option maxRecDepth 100000 in
theorem zckL_116 : zckLaw 116 2 = true := by decide +kernel
set_option maxRecDepth 100000 in
theorem zckL_118 : zckLaw 118 6 = true := by decide +kernel
set_option maxRecDepth 100000 in
theorem zckL_124 : zckLaw 124 4 = true := by decide +kernel
