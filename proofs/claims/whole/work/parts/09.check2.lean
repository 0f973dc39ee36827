set_option maxRecDepth 100000 in
theorem zckY_60 : (List.range' 60 60).all zckY = true := by decide +kernel
set_option maxRecDepth 100000 in
theorem zckY_120 : (List.range' 120 12).all zckY = true := by decide +kernel
set_option maxRecDepth 100000 in
theorem zckY_132 : (List.range' 132 11).all zckY = true := by decide +kernel
set_option maxRecDepth 100000 in
theorem zckY_143 : (List.range' 143 7).all zckY = true := by decide +kernel
set_option maxRecDepth 100000 in
theorem zckY_150 : (List.range' 150 8).all zckY = true := by decide +kernel
set_option maxRecDepth 100000 in
theorem zckY_158 : (List.range' 158 9).all zckY = true := by decide +kernel
set_option maxRecDepth 100000 in
theorem zckY_167 : (List.range' 167 5).all zckY = true := by decide +kernel
set_option maxRecDepth 100000 in
theorem zckY_172 : (List.range' 172 2).all zckY = true := by decide +kernel
set_option maxRecDepth 100000 in
theorem zckY_174 : (List.range' 174 2).all zckY = true := by decide +kernel
set_option maxRecDepth 100000 in
theorem zckY_176 : (List.range' 176 2).all zckY = true := by decide +kernel
set_option maxRecDepth 100000 in
theorem zckY_178 : (List.range' 178 6).all zckY = true := by decide +kernel
set_option maxRecDepth 100000 in
theorem zckY_184 : (List.range' 184 7).all zckY = true := by decide +kernel
set_option maxRecDepth 100000 in
theorem zckY_191 : (List.range' 191 4).all zckY = true := by decide +kernel
set_option maxRecDepth 100000 in
theorem zckY_195 : (List.range' 195 7).all zckY = true := by decide +kernel
set_option maxRecDepth 100000 in
theorem zckY_202 : (List.range' 202 5).all zckY = true := by decide +kernel
set_option maxRecDepth 100000 in
theorem zckY_207 : (List.range' 207 7).all zckY = true := by decide +kernel
set_option maxRecDepth 100000 in
theorem zckY_214 : (List.range' 214 5).all zckY = true := by decide +kernel
set_option maxRecDepth 100000 in
theorem zckY_219 : (List.range' 219 4).all zckY = true := by decide +kernel
set_option maxRecDepth 100000 in
theorem zckY_223 : (List.range' 223 8).all zckY = true := by decide +kernel
set_option maxRecDepth 100000 in
theorem zckY_231 : (List.range' 231 4).all zckY = true := by decide +kernel
set_option maxRecDepth 100000 in
theorem zckY_235 : (List.range' 235 4).all zckY = true := by decide +kernel
set_option maxRecDepth 100000 in
theorem zckY_239 : (List.range' 239 1).all zckY = true := by decide +kernel
set_option maxRecDepth 100000 in
theorem zckY_240 : (List.range' 240 55).all zckY = true := by decide +kernel
