set_option maxRecDepth 1000000 in
theorem la_group_0 : lchk false 105 181 [(1, 32)] = true := by decide +kernel
set_option maxRecDepth 1000000 in
theorem la_group_1 : lchk false 105 181 [(0, 0)] = true := by decide +kernel
set_option maxRecDepth 1000000 in
theorem la_group_2 : lchk false 105 181 [(0, 1)] = true := by decide +kernel
set_option maxRecDepth 1000000 in
theorem la_group_3 : lchk false 105 181 [(0, 2)] = true := by decide +kernel
set_option maxRecDepth 1000000 in
theorem la_group_4 : lchk false 105 181 [(0, 3)] = true := by decide +kernel
set_option maxRecDepth 1000000 in
theorem la_group_5 : lchk false 105 181 [(0, 4)] = true := by decide +kernel
set_option maxRecDepth 1000000 in
theorem la_group_6 : lchk false 105 181 [(0, 5)] = true := by decide +kernel
set_option maxRecDepth 1000000 in
theorem la_group_7 : lchk false 105 181 [(0, 6)] = true := by decide +kernel
set_option maxRecDepth 1000000 in
theorem la_group_8 : lchk false 105 181 [(0, 7)] = true := by decide +kernel
set_option maxRecDepth 1000000 in
theorem la_group_9 : lchk false 105 181 [(0, 8)] = true := by decide +kernel
set_option maxRecDepth 1000000 in
theorem la_group_10 : lchk false 105 181 [(1, 38)] = true := by decide +kernel
set_option maxRecDepth 1000000 in
theorem la_image_0 : lchk false 135 239 [(1, 32)] = true := by decide +kernel
set_option maxRecDepth 1000000 in
theorem la_image_4 : lchk false 135 239 [(1, 35)] = true := by decide +kernel
