set_option maxRecDepth 1000000 in
theorem la_sheet : lall false 103 162 [lc_1_E3, lc_2_E2, lc_3_E8] [] = true := by decide +kernel
set_option maxRecDepth 1000000 in
theorem la_write : lall false 104 163 [lc_1_E3, lc_2_A, lc_3_A] [] = true := by decide +kernel
set_option maxRecDepth 1000000 in
theorem la_count : lall false 106 182 [lc_1_E5] [] = true := by decide +kernel
set_option maxRecDepth 1000000 in
theorem la_turn : lall false 107 186 [lc_1_E0, lc_2_E0] [] = true := by decide +kernel
set_option maxRecDepth 1000000 in
theorem la_product : lall false 108 187 [lc_1_E0, lc_2_E0] [] = true := by decide +kernel
set_option maxRecDepth 1000000 in
theorem la_ofTurn : lall false 109 191 [lc_1_E0, lc_2_E3] [] = true := by decide +kernel
set_option maxRecDepth 1000000 in
theorem la_heap : lall false 110 199 [lc_1_E0, lc_2_E9] [] = true := by decide +kernel
set_option maxRecDepth 1000000 in
theorem la_has : lall false 111 200 [lc_1_E0, lc_2_E0] [] = true := by decide +kernel
set_option maxRecDepth 1000000 in
theorem la_join : lall false 112 201 [lc_1_E0, lc_2_E0, lc_3_E1] [] = true := by decide +kernel
set_option maxRecDepth 1000000 in
theorem la_ofClass : lall false 113 202 [lc_1_E0, lc_2_E2] [] = true := by decide +kernel
set_option maxRecDepth 1000000 in
theorem la_within : lall false 114 203 [lc_1_E0, lc_2_E0, lc_3_E1] [] = true := by decide +kernel
set_option maxRecDepth 1000000 in
theorem la_table : lall false 115 204 [lc_1_E0, lc_2_E0] [] = true := by decide +kernel
set_option maxRecDepth 1000000 in
theorem la_sylow : lall false 116 205 [lc_1_E7] [] = true := by decide +kernel
set_option maxRecDepth 1000000 in
theorem la_down : lall false 117 206 [lc_1_E10] [] = true := by decide +kernel
set_option maxRecDepth 1000000 in
theorem la_simple : lall false 118 207 [] [] = true := by decide +kernel
set_option maxRecDepth 1000000 in
theorem la_coset : lall true 119 214 [lc_1_E7, lc_2_E0] [] = true := by decide +kernel
set_option maxRecDepth 1000000 in
theorem la_places : lall true 120 218 [lc_1_E7, lc_2_E1, lc_3_E1] [] = true := by decide +kernel
set_option maxRecDepth 1000000 in
theorem la_heaps : lall true 121 219 [lc_1_E7] [] = true := by decide +kernel
set_option maxRecDepth 1000000 in
theorem la_both : lall true 122 221 [lc_1_I7, lc_2_E7, lc_3_A, lc_4_E1] [] = true := by decide +kernel
set_option maxRecDepth 1000000 in
theorem la_colour : lall true 123 224 [lc_1_I7, lc_2_E7, lc_3_I100] [] = true := by decide +kernel
set_option maxRecDepth 1000000 in
theorem la_many : lall true 124 225 [lc_1_I7, lc_2_E7, lc_3_IM] [] = true := by decide +kernel
set_option maxRecDepth 1000000 in
theorem la_parts : lall true 125 226 [lc_1_E7, lc_2_A] [] = true := by decide +kernel
set_option maxRecDepth 1000000 in
theorem la_mark : lall true 126 227 [lc_1_E7, lc_2_A] [] = true := by decide +kernel
set_option maxRecDepth 1000000 in
theorem la_act : lall true 127 229 [lc_1_E7, lc_2_A, lc_3_A] [] = true := by decide +kernel
set_option maxRecDepth 1000000 in
theorem la_same : lall false 128 230 [lc_1_E7, lc_2_A] [] = true := by decide +kernel
set_option maxRecDepth 1000000 in
theorem la_maps : lall true 129 231 [lc_1_E7, lc_2_A, lc_3_A] [] = true := by decide +kernel
set_option maxRecDepth 1000000 in
theorem la_row : lall false 130 232 [lc_1_L] [] = true := by decide +kernel
set_option maxRecDepth 1000000 in
theorem la_check : lall false 131 233 [lc_1_A] [] = true := by decide +kernel
set_option maxRecDepth 1000000 in
theorem la_misfit : lall false 132 234 [] [] = true := by decide +kernel
set_option maxRecDepth 1000000 in
theorem la_chance : lall true 133 237 [lc_1_E6, lc_2_E1] [] = true := by decide +kernel
set_option maxRecDepth 1000000 in
theorem la_rank : lall false 134 238 [] [] = true := by decide +kernel
set_option maxRecDepth 1000000 in
theorem la_back : lall false 136 240 [lc_1_E2] [] = true := by decide +kernel
set_option maxRecDepth 1000000 in
theorem la_status : lall false 137 241 [] [] = true := by decide +kernel
