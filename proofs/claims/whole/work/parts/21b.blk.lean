/-! every block has been checked -/
theorem zrange_all {P : Nat → Bool} {a n y : Nat} (h : (List.range' a n).all P = true) (h1 : a ≤ y) (h2 : y < a + n) : P y = true := List.all_eq_true.mp h y (List.mem_range'_1.mpr ⟨h1, h2⟩)
theorem zprog_mem (y L : Nat) : zprog y L = [] ∨ zprog y L ∈ zpg.getD y [] := by
  unfold zprog
  rw [List.getD_eq_getElem?_getD (l := zpg.getD y []) (i := L)]
  cases h : (zpg.getD y [])[L]? with
  | none => exact Or.inl rfl
  | some b => exact Or.inr (List.mem_of_getElem? h)
theorem zckY_ok {y L : Nat} (h : zckY y = true) : zckB y (zprog y L) = true := by
  rcases zprog_mem y L with h1 | h1
  · rw [h1]; rfl
  · exact List.all_eq_true.mp h _ h1
theorem zckY_lt {y : Nat} (hy : y < 295) : zckY y = true := by
  by_cases h0 : y < 60
  · exact List.all_eq_true.mp zckY_a y (List.mem_range.mpr h0)
  by_cases h60 : y < 120
  · exact zrange_all zckY_60 (by omega) (by omega)
  by_cases h120 : y < 132
  · exact zrange_all zckY_120 (by omega) (by omega)
  by_cases h132 : y < 143
  · exact zrange_all zckY_132 (by omega) (by omega)
  by_cases h143 : y < 150
  · exact zrange_all zckY_143 (by omega) (by omega)
  by_cases h150 : y < 158
  · exact zrange_all zckY_150 (by omega) (by omega)
  by_cases h158 : y < 167
  · exact zrange_all zckY_158 (by omega) (by omega)
  by_cases h167 : y < 172
  · exact zrange_all zckY_167 (by omega) (by omega)
  by_cases h172 : y < 174
  · exact zrange_all zckY_172 (by omega) (by omega)
  by_cases h174 : y < 176
  · exact zrange_all zckY_174 (by omega) (by omega)
  by_cases h176 : y < 178
  · exact zrange_all zckY_176 (by omega) (by omega)
  by_cases h178 : y < 184
  · exact zrange_all zckY_178 (by omega) (by omega)
  by_cases h184 : y < 191
  · exact zrange_all zckY_184 (by omega) (by omega)
  by_cases h191 : y < 195
  · exact zrange_all zckY_191 (by omega) (by omega)
  by_cases h195 : y < 202
  · exact zrange_all zckY_195 (by omega) (by omega)
  by_cases h202 : y < 207
  · exact zrange_all zckY_202 (by omega) (by omega)
  by_cases h207 : y < 214
  · exact zrange_all zckY_207 (by omega) (by omega)
  by_cases h214 : y < 219
  · exact zrange_all zckY_214 (by omega) (by omega)
  by_cases h219 : y < 223
  · exact zrange_all zckY_219 (by omega) (by omega)
  by_cases h223 : y < 231
  · exact zrange_all zckY_223 (by omega) (by omega)
  by_cases h231 : y < 235
  · exact zrange_all zckY_231 (by omega) (by omega)
  by_cases h235 : y < 239
  · exact zrange_all zckY_235 (by omega) (by omega)
  by_cases h239 : y < 240
  · exact zrange_all zckY_239 (by omega) (by omega)
  by_cases h240 : y < 295
  · exact zrange_all zckY_240 (by omega) (by omega)
  omega
theorem zlaw_len : (zpg.getD 295 []).length ≤ 128 := by decide +kernel
theorem zckLaw_ok (L : Nat) : zckB 295 (zprog 295 L) = true := by
  by_cases h0 : L < 2
  · exact zrange_all (P := fun l => zckB 295 (zprog 295 l)) zckL_0 (by omega) (by omega)
  by_cases h2 : L < 5
  · exact zrange_all (P := fun l => zckB 295 (zprog 295 l)) zckL_2 (by omega) (by omega)
  by_cases h5 : L < 6
  · exact zrange_all (P := fun l => zckB 295 (zprog 295 l)) zckL_5 (by omega) (by omega)
  by_cases h6 : L < 10
  · exact zrange_all (P := fun l => zckB 295 (zprog 295 l)) zckL_6 (by omega) (by omega)
  by_cases h10 : L < 13
  · exact zrange_all (P := fun l => zckB 295 (zprog 295 l)) zckL_10 (by omega) (by omega)
  by_cases h13 : L < 14
  · exact zrange_all (P := fun l => zckB 295 (zprog 295 l)) zckL_13 (by omega) (by omega)
  by_cases h14 : L < 17
  · exact zrange_all (P := fun l => zckB 295 (zprog 295 l)) zckL_14 (by omega) (by omega)
  by_cases h17 : L < 22
  · exact zrange_all (P := fun l => zckB 295 (zprog 295 l)) zckL_17 (by omega) (by omega)
  by_cases h22 : L < 25
  · exact zrange_all (P := fun l => zckB 295 (zprog 295 l)) zckL_22 (by omega) (by omega)
  by_cases h25 : L < 30
  · exact zrange_all (P := fun l => zckB 295 (zprog 295 l)) zckL_25 (by omega) (by omega)
  by_cases h30 : L < 34
  · exact zrange_all (P := fun l => zckB 295 (zprog 295 l)) zckL_30 (by omega) (by omega)
  by_cases h34 : L < 38
  · exact zrange_all (P := fun l => zckB 295 (zprog 295 l)) zckL_34 (by omega) (by omega)
  by_cases h38 : L < 41
  · exact zrange_all (P := fun l => zckB 295 (zprog 295 l)) zckL_38 (by omega) (by omega)
  by_cases h41 : L < 44
  · exact zrange_all (P := fun l => zckB 295 (zprog 295 l)) zckL_41 (by omega) (by omega)
  by_cases h44 : L < 46
  · exact zrange_all (P := fun l => zckB 295 (zprog 295 l)) zckL_44 (by omega) (by omega)
  by_cases h46 : L < 48
  · exact zrange_all (P := fun l => zckB 295 (zprog 295 l)) zckL_46 (by omega) (by omega)
  by_cases h48 : L < 50
  · exact zrange_all (P := fun l => zckB 295 (zprog 295 l)) zckL_48 (by omega) (by omega)
  by_cases h50 : L < 51
  · exact zrange_all (P := fun l => zckB 295 (zprog 295 l)) zckL_50 (by omega) (by omega)
  by_cases h51 : L < 54
  · exact zrange_all (P := fun l => zckB 295 (zprog 295 l)) zckL_51 (by omega) (by omega)
  by_cases h54 : L < 57
  · exact zrange_all (P := fun l => zckB 295 (zprog 295 l)) zckL_54 (by omega) (by omega)
  by_cases h57 : L < 60
  · exact zrange_all (P := fun l => zckB 295 (zprog 295 l)) zckL_57 (by omega) (by omega)
  by_cases h60 : L < 62
  · exact zrange_all (P := fun l => zckB 295 (zprog 295 l)) zckL_60 (by omega) (by omega)
  by_cases h62 : L < 63
  · exact zrange_all (P := fun l => zckB 295 (zprog 295 l)) zckL_62 (by omega) (by omega)
  by_cases h63 : L < 67
  · exact zrange_all (P := fun l => zckB 295 (zprog 295 l)) zckL_63 (by omega) (by omega)
  by_cases h67 : L < 71
  · exact zrange_all (P := fun l => zckB 295 (zprog 295 l)) zckL_67 (by omega) (by omega)
  by_cases h71 : L < 74
  · exact zrange_all (P := fun l => zckB 295 (zprog 295 l)) zckL_71 (by omega) (by omega)
  by_cases h74 : L < 76
  · exact zrange_all (P := fun l => zckB 295 (zprog 295 l)) zckL_74 (by omega) (by omega)
  by_cases h76 : L < 78
  · exact zrange_all (P := fun l => zckB 295 (zprog 295 l)) zckL_76 (by omega) (by omega)
  by_cases h78 : L < 83
  · exact zrange_all (P := fun l => zckB 295 (zprog 295 l)) zckL_78 (by omega) (by omega)
  by_cases h83 : L < 86
  · exact zrange_all (P := fun l => zckB 295 (zprog 295 l)) zckL_83 (by omega) (by omega)
  by_cases h86 : L < 90
  · exact zrange_all (P := fun l => zckB 295 (zprog 295 l)) zckL_86 (by omega) (by omega)
  by_cases h90 : L < 94
  · exact zrange_all (P := fun l => zckB 295 (zprog 295 l)) zckL_90 (by omega) (by omega)
  by_cases h94 : L < 97
  · exact zrange_all (P := fun l => zckB 295 (zprog 295 l)) zckL_94 (by omega) (by omega)
  by_cases h97 : L < 100
  · exact zrange_all (P := fun l => zckB 295 (zprog 295 l)) zckL_97 (by omega) (by omega)
  by_cases h100 : L < 102
  · exact zrange_all (P := fun l => zckB 295 (zprog 295 l)) zckL_100 (by omega) (by omega)
  by_cases h102 : L < 104
  · exact zrange_all (P := fun l => zckB 295 (zprog 295 l)) zckL_102 (by omega) (by omega)
  by_cases h104 : L < 106
  · exact zrange_all (P := fun l => zckB 295 (zprog 295 l)) zckL_104 (by omega) (by omega)
  by_cases h106 : L < 111
  · exact zrange_all (P := fun l => zckB 295 (zprog 295 l)) zckL_106 (by omega) (by omega)
  by_cases h111 : L < 116
  · exact zrange_all (P := fun l => zckB 295 (zprog 295 l)) zckL_111 (by omega) (by omega)
  by_cases h116 : L < 118
  · exact zrange_all (P := fun l => zckB 295 (zprog 295 l)) zckL_116 (by omega) (by omega)
  by_cases h118 : L < 124
  · exact zrange_all (P := fun l => zckB 295 (zprog 295 l)) zckL_118 (by omega) (by omega)
  by_cases h124 : L < 128
  · exact zrange_all (P := fun l => zckB 295 (zprog 295 l)) zckL_124 (by omega) (by omega)
  have h : zprog 295 L = [] := by
    unfold zprog
    rw [List.getD_eq_getElem?_getD (l := zpg.getD 295 []) (i := L), List.getElem?_eq_none (by have := zlaw_len; omega)]
    rfl
  rw [h]
  rfl
theorem zB_block {y L : Nat} (hy : y < 296) : zckB y (zprog y L) = true ∧ (zprog y L).all (zckP1 y) = true := by
  refine ⟨?_, ?_⟩
  · by_cases h : y < 295
    · exact zckY_ok (zckY_lt h)
    · have h1 : y = 295 := by omega
      subst h1
      exact zckLaw_ok L
  · rcases zprog_mem y L with h1 | h1
    · rw [h1]; rfl
    · exact List.all_eq_true.mp (List.all_eq_true.mp zckP_all y (List.mem_range.mpr hy)) _ h1
