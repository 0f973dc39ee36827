set_option maxRecDepth 100000 in
theorem zckY_60_0 : (List.range' 60 10).all zckY = true := by decide +kernel
set_option maxRecDepth 100000 in
theorem zckY_60_1 : (List.range' 70 10).all zckY = true := by decide +kernel
set_option maxRecDepth 100000 in
theorem zckY_60_2 : (List.range' 80 10).all zckY = true := by decide +kernel
set_option maxRecDepth 100000 in
theorem zckY_60_3 : (List.range' 90 10).all zckY = true := by decide +kernel
set_option maxRecDepth 100000 in
theorem zckY_60_4 : (List.range' 100 10).all zckY = true := by decide +kernel
set_option maxRecDepth 100000 in
theorem zckY_60_5 : (List.range' 110 10).all zckY = true := by decide +kernel
set_option maxRecDepth 100000 in
theorem zckY_60 : (List.range' 60 60).all zckY = true := by
  rw [show List.range' 60 60 = List.range' 60 10 ++ List.range' 70 10 ++ List.range' 80 10 ++ List.range' 90 10 ++ List.range' 100 10 ++ List.range' 110 10 from rfl]
  simp only [List.all_append, Bool.and_eq_true]
  exact ⟨⟨⟨⟨⟨zckY_60_0, zckY_60_1⟩, zckY_60_2⟩, zckY_60_3⟩, zckY_60_4⟩, zckY_60_5⟩
set_option maxRecDepth 100000 in
theorem zckY_120_0 : (List.range' 120 6).all zckY = true := by decide +kernel
set_option maxRecDepth 100000 in
theorem zckY_120_1 : (List.range' 126 6).all zckY = true := by decide +kernel
set_option maxRecDepth 100000 in
theorem zckY_120 : (List.range' 120 12).all zckY = true := by
  rw [show List.range' 120 12 = List.range' 120 6 ++ List.range' 126 6 from rfl]
  simp only [List.all_append, Bool.and_eq_true]
  exact ⟨zckY_120_0, zckY_120_1⟩
set_option maxRecDepth 100000 in
theorem zckY_132 : (List.range' 132 11).all zckY = true := by decide +kernel
set_option maxRecDepth 100000 in
theorem zckY_143 : (List.range' 143 7).all zckY = true := by decide +kernel
set_option maxRecDepth 100000 in
theorem zckY_150 : (List.range' 150 8).all zckY = true := by decide +kernel
set_option maxRecDepth 100000 in
theorem zckY_158 : (List.range' 158 9).all zckY = true := by decide +kernel
set_option maxRecDepth 100000 in
theorem zckY_167 : (List.range' 167 5).all zckY = true := by decide +kernel
set_option maxRecDepth 100000 in
theorem zckY_172 : (List.range' 172 2).all zckY = true := by decide +kernel
set_option maxRecDepth 100000 in
theorem zckY_174 : (List.range' 174 2).all zckY = true := by decide +kernel
set_option maxRecDepth 100000 in
theorem zckY_176 : (List.range' 176 2).all zckY = true := by decide +kernel
set_option maxRecDepth 100000 in
theorem zckY_178 : (List.range' 178 6).all zckY = true := by decide +kernel
set_option maxRecDepth 100000 in
theorem zckY_184 : (List.range' 184 7).all zckY = true := by decide +kernel
set_option maxRecDepth 100000 in
theorem zckY_191 : (List.range' 191 4).all zckY = true := by decide +kernel
set_option maxRecDepth 100000 in
theorem zckY_195 : (List.range' 195 7).all zckY = true := by decide +kernel
set_option maxRecDepth 100000 in
theorem zckY_202 : (List.range' 202 5).all zckY = true := by decide +kernel
set_option maxRecDepth 100000 in
theorem zckY_207 : (List.range' 207 7).all zckY = true := by decide +kernel
set_option maxRecDepth 100000 in
theorem zckY_214 : (List.range' 214 5).all zckY = true := by decide +kernel
set_option maxRecDepth 100000 in
theorem zckY_219 : (List.range' 219 4).all zckY = true := by decide +kernel
set_option maxRecDepth 100000 in
theorem zckY_223 : (List.range' 223 8).all zckY = true := by decide +kernel
set_option maxRecDepth 100000 in
theorem zckY_231 : (List.range' 231 4).all zckY = true := by decide +kernel
set_option maxRecDepth 100000 in
theorem zckY_235 : (List.range' 235 4).all zckY = true := by decide +kernel
set_option maxRecDepth 100000 in
theorem zckY_239 : (List.range' 239 1).all zckY = true := by decide +kernel
set_option maxRecDepth 100000 in
theorem zckY_240_0 : (List.range' 240 14).all zckY = true := by decide +kernel
set_option maxRecDepth 100000 in
theorem zckY_240_1 : (List.range' 254 14).all zckY = true := by decide +kernel
set_option maxRecDepth 100000 in
theorem zckY_240_2 : (List.range' 268 14).all zckY = true := by decide +kernel
set_option maxRecDepth 100000 in
theorem zckY_240_3 : (List.range' 282 13).all zckY = true := by decide +kernel
set_option maxRecDepth 100000 in
theorem zckY_240 : (List.range' 240 55).all zckY = true := by
  rw [show List.range' 240 55 = List.range' 240 14 ++ List.range' 254 14 ++ List.range' 268 14 ++ List.range' 282 13 from rfl]
  simp only [List.all_append, Bool.and_eq_true]
  exact ⟨⟨⟨zckY_240_0, zckY_240_1⟩, zckY_240_2⟩, zckY_240_3⟩
