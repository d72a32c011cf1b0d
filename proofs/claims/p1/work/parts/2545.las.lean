theorem las_sheet {ar : Nat → Int} (B : Nat) {x1 : Int32} (hx1 : ar 1 = x1.toInt) {x2 : Int32} (hx2 : ar 2 = x2.toInt) {x3 : Int32} (hx3 : ar 3 = x3.toInt) : ∃ as : List zV, lchk false 103 162 as = true ∧ as.map (zg (lnu ar) B) = [.int x1, .int x2, .int x3] := by
  obtain ⟨q1, m1, e1⟩ := lcov_I lcv_1_E3 hx1 B
  obtain ⟨q2, m2, e2⟩ := lcov_I lcv_2_E2 hx2 B
  obtain ⟨q3, m3, e3⟩ := lcov_I lcv_3_E8 hx3 B
  have h0 : lall false 103 162 [lc_1_E3, lc_2_E2, lc_3_E8] [] = true := la_sheet
  have h1 := List.all_eq_true.mp h0 q1 m1
  have h2 := List.all_eq_true.mp h1 q2 m2
  have h3 := List.all_eq_true.mp h2 q3 m3
  exact ⟨[q1.1, q2.1, q3.1], h3, by simp only [List.map_cons, List.map_nil, e1, e2, e3]⟩
theorem las_write {ar : Nat → Int} (B : Nat) {x1 : Int32} (hx1 : ar 1 = x1.toInt) {x2 : Int32} (hx2 : ar 2 = x2.toInt) {x3 : Int32} (hx3 : ar 3 = x3.toInt) : ∃ as : List zV, lchk false 104 163 as = true ∧ as.map (zg (lnu ar) B) = [.int x1, .int x2, .int x3] := by
  obtain ⟨q1, m1, e1⟩ := lcov_I lcv_1_E3 hx1 B
  obtain ⟨q2, m2, e2⟩ := lcov_I lcv_2_A hx2 B
  obtain ⟨q3, m3, e3⟩ := lcov_I lcv_3_A hx3 B
  have h0 : lall false 104 163 [lc_1_E3, lc_2_A, lc_3_A] [] = true := la_write
  have h1 := List.all_eq_true.mp h0 q1 m1
  have h2 := List.all_eq_true.mp h1 q2 m2
  have h3 := List.all_eq_true.mp h2 q3 m3
  exact ⟨[q1.1, q2.1, q3.1], h3, by simp only [List.map_cons, List.map_nil, e1, e2, e3]⟩
theorem la_group : lall false 105 181 [lc_1_E8] [] = true := List.all_eq_true.mpr (List.forall_mem_cons.mpr ⟨la_group_0, List.forall_mem_cons.mpr ⟨la_group_1, List.forall_mem_cons.mpr ⟨la_group_2, List.forall_mem_cons.mpr ⟨la_group_3, List.forall_mem_cons.mpr ⟨la_group_4, List.forall_mem_cons.mpr ⟨la_group_5, List.forall_mem_cons.mpr ⟨la_group_6, List.forall_mem_cons.mpr ⟨la_group_7, List.forall_mem_cons.mpr ⟨la_group_8, List.forall_mem_cons.mpr ⟨la_group_9, List.forall_mem_cons.mpr ⟨la_group_10, fun _ h => absurd h List.not_mem_nil⟩⟩⟩⟩⟩⟩⟩⟩⟩⟩⟩)
theorem las_group {ar : Nat → Int} (B : Nat) {x1 : Int32} (hx1 : ar 1 = x1.toInt) : ∃ as : List zV, lchk false 105 181 as = true ∧ as.map (zg (lnu ar) B) = [.int x1] := by
  obtain ⟨q1, m1, e1⟩ := lcov_I lcv_1_E8 hx1 B
  have h0 : lall false 105 181 [lc_1_E8] [] = true := la_group
  have h1 := List.all_eq_true.mp h0 q1 m1
  exact ⟨[q1.1], h1, by simp only [List.map_cons, List.map_nil, e1]⟩
theorem las_count {ar : Nat → Int} (B : Nat) {x1 : Int32} (hx1 : ar 1 = x1.toInt) : ∃ as : List zV, lchk false 106 182 as = true ∧ as.map (zg (lnu ar) B) = [.int x1] := by
  obtain ⟨q1, m1, e1⟩ := lcov_I lcv_1_E5 hx1 B
  have h0 : lall false 106 182 [lc_1_E5] [] = true := la_count
  have h1 := List.all_eq_true.mp h0 q1 m1
  exact ⟨[q1.1], h1, by simp only [List.map_cons, List.map_nil, e1]⟩
theorem las_turn {ar : Nat → Int} (B : Nat) {x1 : Int32} (hx1 : ar 1 = x1.toInt) {x2 : Int32} (hx2 : ar 2 = x2.toInt) : ∃ as : List zV, lchk false 107 186 as = true ∧ as.map (zg (lnu ar) B) = [.int x1, .int x2] := by
  obtain ⟨q1, m1, e1⟩ := lcov_I lcv_1_E0 hx1 B
  obtain ⟨q2, m2, e2⟩ := lcov_I lcv_2_E0 hx2 B
  have h0 : lall false 107 186 [lc_1_E0, lc_2_E0] [] = true := la_turn
  have h1 := List.all_eq_true.mp h0 q1 m1
  have h2 := List.all_eq_true.mp h1 q2 m2
  exact ⟨[q1.1, q2.1], h2, by simp only [List.map_cons, List.map_nil, e1, e2]⟩
theorem las_product {ar : Nat → Int} (B : Nat) {x1 : Int32} (hx1 : ar 1 = x1.toInt) {x2 : Int32} (hx2 : ar 2 = x2.toInt) : ∃ as : List zV, lchk false 108 187 as = true ∧ as.map (zg (lnu ar) B) = [.int x1, .int x2] := by
  obtain ⟨q1, m1, e1⟩ := lcov_I lcv_1_E0 hx1 B
  obtain ⟨q2, m2, e2⟩ := lcov_I lcv_2_E0 hx2 B
  have h0 : lall false 108 187 [lc_1_E0, lc_2_E0] [] = true := la_product
  have h1 := List.all_eq_true.mp h0 q1 m1
  have h2 := List.all_eq_true.mp h1 q2 m2
  exact ⟨[q1.1, q2.1], h2, by simp only [List.map_cons, List.map_nil, e1, e2]⟩
theorem las_ofTurn {ar : Nat → Int} (B : Nat) {x1 : Int32} (hx1 : ar 1 = x1.toInt) {x2 : Int32} (hx2 : ar 2 = x2.toInt) : ∃ as : List zV, lchk false 109 191 as = true ∧ as.map (zg (lnu ar) B) = [.int x1, .int x2] := by
  obtain ⟨q1, m1, e1⟩ := lcov_I lcv_1_E0 hx1 B
  obtain ⟨q2, m2, e2⟩ := lcov_I lcv_2_E3 hx2 B
  have h0 : lall false 109 191 [lc_1_E0, lc_2_E3] [] = true := la_ofTurn
  have h1 := List.all_eq_true.mp h0 q1 m1
  have h2 := List.all_eq_true.mp h1 q2 m2
  exact ⟨[q1.1, q2.1], h2, by simp only [List.map_cons, List.map_nil, e1, e2]⟩
theorem las_heap {ar : Nat → Int} (B : Nat) {x1 : Int32} (hx1 : ar 1 = x1.toInt) {x2 : Int32} (hx2 : ar 2 = x2.toInt) : ∃ as : List zV, lchk false 110 199 as = true ∧ as.map (zg (lnu ar) B) = [.int x1, .int x2] := by
  obtain ⟨q1, m1, e1⟩ := lcov_I lcv_1_E0 hx1 B
  obtain ⟨q2, m2, e2⟩ := lcov_I lcv_2_E9 hx2 B
  have h0 : lall false 110 199 [lc_1_E0, lc_2_E9] [] = true := la_heap
  have h1 := List.all_eq_true.mp h0 q1 m1
  have h2 := List.all_eq_true.mp h1 q2 m2
  exact ⟨[q1.1, q2.1], h2, by simp only [List.map_cons, List.map_nil, e1, e2]⟩
theorem las_has {ar : Nat → Int} (B : Nat) {x1 : Int32} (hx1 : ar 1 = x1.toInt) {x2 : Int32} (hx2 : ar 2 = x2.toInt) : ∃ as : List zV, lchk false 111 200 as = true ∧ as.map (zg (lnu ar) B) = [.int x1, .int x2] := by
  obtain ⟨q1, m1, e1⟩ := lcov_I lcv_1_E0 hx1 B
  obtain ⟨q2, m2, e2⟩ := lcov_I lcv_2_E0 hx2 B
  have h0 : lall false 111 200 [lc_1_E0, lc_2_E0] [] = true := la_has
  have h1 := List.all_eq_true.mp h0 q1 m1
  have h2 := List.all_eq_true.mp h1 q2 m2
  exact ⟨[q1.1, q2.1], h2, by simp only [List.map_cons, List.map_nil, e1, e2]⟩
theorem las_join {ar : Nat → Int} (B : Nat) {x1 : Int32} (hx1 : ar 1 = x1.toInt) {x2 : Int32} (hx2 : ar 2 = x2.toInt) {x3 : Int32} (hx3 : ar 3 = x3.toInt) : ∃ as : List zV, lchk false 112 201 as = true ∧ as.map (zg (lnu ar) B) = [.int x1, .int x2, .int x3] := by
  obtain ⟨q1, m1, e1⟩ := lcov_I lcv_1_E0 hx1 B
  obtain ⟨q2, m2, e2⟩ := lcov_I lcv_2_E0 hx2 B
  obtain ⟨q3, m3, e3⟩ := lcov_I lcv_3_E1 hx3 B
  have h0 : lall false 112 201 [lc_1_E0, lc_2_E0, lc_3_E1] [] = true := la_join
  have h1 := List.all_eq_true.mp h0 q1 m1
  have h2 := List.all_eq_true.mp h1 q2 m2
  have h3 := List.all_eq_true.mp h2 q3 m3
  exact ⟨[q1.1, q2.1, q3.1], h3, by simp only [List.map_cons, List.map_nil, e1, e2, e3]⟩
theorem las_ofClass {ar : Nat → Int} (B : Nat) {x1 : Int32} (hx1 : ar 1 = x1.toInt) {x2 : Int32} (hx2 : ar 2 = x2.toInt) : ∃ as : List zV, lchk false 113 202 as = true ∧ as.map (zg (lnu ar) B) = [.int x1, .int x2] := by
  obtain ⟨q1, m1, e1⟩ := lcov_I lcv_1_E0 hx1 B
  obtain ⟨q2, m2, e2⟩ := lcov_I lcv_2_E2 hx2 B
  have h0 : lall false 113 202 [lc_1_E0, lc_2_E2] [] = true := la_ofClass
  have h1 := List.all_eq_true.mp h0 q1 m1
  have h2 := List.all_eq_true.mp h1 q2 m2
  exact ⟨[q1.1, q2.1], h2, by simp only [List.map_cons, List.map_nil, e1, e2]⟩
theorem las_within {ar : Nat → Int} (B : Nat) {x1 : Int32} (hx1 : ar 1 = x1.toInt) {x2 : Int32} (hx2 : ar 2 = x2.toInt) {x3 : Int32} (hx3 : ar 3 = x3.toInt) : ∃ as : List zV, lchk false 114 203 as = true ∧ as.map (zg (lnu ar) B) = [.int x1, .int x2, .int x3] := by
  obtain ⟨q1, m1, e1⟩ := lcov_I lcv_1_E0 hx1 B
  obtain ⟨q2, m2, e2⟩ := lcov_I lcv_2_E0 hx2 B
  obtain ⟨q3, m3, e3⟩ := lcov_I lcv_3_E1 hx3 B
  have h0 : lall false 114 203 [lc_1_E0, lc_2_E0, lc_3_E1] [] = true := la_within
  have h1 := List.all_eq_true.mp h0 q1 m1
  have h2 := List.all_eq_true.mp h1 q2 m2
  have h3 := List.all_eq_true.mp h2 q3 m3
  exact ⟨[q1.1, q2.1, q3.1], h3, by simp only [List.map_cons, List.map_nil, e1, e2, e3]⟩
theorem las_table {ar : Nat → Int} (B : Nat) {x1 : Int32} (hx1 : ar 1 = x1.toInt) {x2 : Int32} (hx2 : ar 2 = x2.toInt) : ∃ as : List zV, lchk false 115 204 as = true ∧ as.map (zg (lnu ar) B) = [.int x1, .int x2] := by
  obtain ⟨q1, m1, e1⟩ := lcov_I lcv_1_E0 hx1 B
  obtain ⟨q2, m2, e2⟩ := lcov_I lcv_2_E0 hx2 B
  have h0 : lall false 115 204 [lc_1_E0, lc_2_E0] [] = true := la_table
  have h1 := List.all_eq_true.mp h0 q1 m1
  have h2 := List.all_eq_true.mp h1 q2 m2
  exact ⟨[q1.1, q2.1], h2, by simp only [List.map_cons, List.map_nil, e1, e2]⟩
theorem las_sylow {ar : Nat → Int} (B : Nat) {x1 : Int32} (hx1 : ar 1 = x1.toInt) : ∃ as : List zV, lchk false 116 205 as = true ∧ as.map (zg (lnu ar) B) = [.int x1] := by
  obtain ⟨q1, m1, e1⟩ := lcov_I lcv_1_E7 hx1 B
  have h0 : lall false 116 205 [lc_1_E7] [] = true := la_sylow
  have h1 := List.all_eq_true.mp h0 q1 m1
  exact ⟨[q1.1], h1, by simp only [List.map_cons, List.map_nil, e1]⟩
theorem las_down {ar : Nat → Int} (B : Nat) {x1 : Int32} (hx1 : ar 1 = x1.toInt) : ∃ as : List zV, lchk false 117 206 as = true ∧ as.map (zg (lnu ar) B) = [.int x1] := by
  obtain ⟨q1, m1, e1⟩ := lcov_I lcv_1_E10 hx1 B
  have h0 : lall false 117 206 [lc_1_E10] [] = true := la_down
  have h1 := List.all_eq_true.mp h0 q1 m1
  exact ⟨[q1.1], h1, by simp only [List.map_cons, List.map_nil, e1]⟩
theorem las_simple {ar : Nat → Int} (B : Nat)  : ∃ as : List zV, lchk false 118 207 as = true ∧ as.map (zg (lnu ar) B) = [] := by
  have h0 : lall false 118 207 [] [] = true := la_simple
  exact ⟨[], h0, by simp only [List.map_cons, List.map_nil]⟩
theorem las_coset {ar : Nat → Int} (B : Nat) {x1 : Int32} (hx1 : ar 1 = x1.toInt) {x2 : Int32} (hx2 : ar 2 = x2.toInt) : ∃ as : List zV, lchk true 119 214 as = true ∧ as.map (zg (lnu ar) B) = [.int x1, .int x2] := by
  obtain ⟨q1, m1, e1⟩ := lcov_I lcv_1_E7 hx1 B
  obtain ⟨q2, m2, e2⟩ := lcov_I lcv_2_E0 hx2 B
  have h0 : lall true 119 214 [lc_1_E7, lc_2_E0] [] = true := la_coset
  have h1 := List.all_eq_true.mp h0 q1 m1
  have h2 := List.all_eq_true.mp h1 q2 m2
  exact ⟨[q1.1, q2.1], h2, by simp only [List.map_cons, List.map_nil, e1, e2]⟩
theorem las_places {ar : Nat → Int} (B : Nat) {x1 : Int32} (hx1 : ar 1 = x1.toInt) {x2 : Int32} (hx2 : ar 2 = x2.toInt) {x3 : Int32} (hx3 : ar 3 = x3.toInt) : ∃ as : List zV, lchk true 120 218 as = true ∧ as.map (zg (lnu ar) B) = [.int x1, .int x2, .int x3] := by
  obtain ⟨q1, m1, e1⟩ := lcov_I lcv_1_E7 hx1 B
  obtain ⟨q2, m2, e2⟩ := lcov_I lcv_2_E1 hx2 B
  obtain ⟨q3, m3, e3⟩ := lcov_I lcv_3_E1 hx3 B
  have h0 : lall true 120 218 [lc_1_E7, lc_2_E1, lc_3_E1] [] = true := la_places
  have h1 := List.all_eq_true.mp h0 q1 m1
  have h2 := List.all_eq_true.mp h1 q2 m2
  have h3 := List.all_eq_true.mp h2 q3 m3
  exact ⟨[q1.1, q2.1, q3.1], h3, by simp only [List.map_cons, List.map_nil, e1, e2, e3]⟩
theorem las_heaps {ar : Nat → Int} (B : Nat) {x1 : Int32} (hx1 : ar 1 = x1.toInt) : ∃ as : List zV, lchk true 121 219 as = true ∧ as.map (zg (lnu ar) B) = [.int x1] := by
  obtain ⟨q1, m1, e1⟩ := lcov_I lcv_1_E7 hx1 B
  have h0 : lall true 121 219 [lc_1_E7] [] = true := la_heaps
  have h1 := List.all_eq_true.mp h0 q1 m1
  exact ⟨[q1.1], h1, by simp only [List.map_cons, List.map_nil, e1]⟩
theorem las_both {ar : Nat → Int} (B : Nat) {x1 : Int32} (hx1 : ar 1 = x1.toInt) {x2 : Int32} (hx2 : ar 2 = x2.toInt) {x3 : Int32} (hx3 : ar 3 = x3.toInt) {x4 : Int32} (hx4 : ar 4 = x4.toInt) : ∃ as : List zV, lchk true 122 221 as = true ∧ as.map (zg (lnu ar) B) = [.int x1, .int x2, .int x3, .int x4] := by
  obtain ⟨q1, m1, e1⟩ := lcov_I lcv_1_I7 hx1 B
  obtain ⟨q2, m2, e2⟩ := lcov_I lcv_2_E7 hx2 B
  obtain ⟨q3, m3, e3⟩ := lcov_I lcv_3_A hx3 B
  obtain ⟨q4, m4, e4⟩ := lcov_I lcv_4_E1 hx4 B
  have h0 : lall true 122 221 [lc_1_I7, lc_2_E7, lc_3_A, lc_4_E1] [] = true := la_both
  have h1 := List.all_eq_true.mp h0 q1 m1
  have h2 := List.all_eq_true.mp h1 q2 m2
  have h3 := List.all_eq_true.mp h2 q3 m3
  have h4 := List.all_eq_true.mp h3 q4 m4
  exact ⟨[q1.1, q2.1, q3.1, q4.1], h4, by simp only [List.map_cons, List.map_nil, e1, e2, e3, e4]⟩
theorem las_colour {ar : Nat → Int} (B : Nat) {x1 : Int32} (hx1 : ar 1 = x1.toInt) {x2 : Int32} (hx2 : ar 2 = x2.toInt) {x3 : Int32} (hx3 : ar 3 = x3.toInt) : ∃ as : List zV, lchk true 123 224 as = true ∧ as.map (zg (lnu ar) B) = [.int x1, .int x2, .int x3] := by
  obtain ⟨q1, m1, e1⟩ := lcov_I lcv_1_I7 hx1 B
  obtain ⟨q2, m2, e2⟩ := lcov_I lcv_2_E7 hx2 B
  obtain ⟨q3, m3, e3⟩ := lcov_I lcv_3_I100 hx3 B
  have h0 : lall true 123 224 [lc_1_I7, lc_2_E7, lc_3_I100] [] = true := la_colour
  have h1 := List.all_eq_true.mp h0 q1 m1
  have h2 := List.all_eq_true.mp h1 q2 m2
  have h3 := List.all_eq_true.mp h2 q3 m3
  exact ⟨[q1.1, q2.1, q3.1], h3, by simp only [List.map_cons, List.map_nil, e1, e2, e3]⟩
theorem las_many {ar : Nat → Int} (B : Nat) {x1 : Int32} (hx1 : ar 1 = x1.toInt) {x2 : Int32} (hx2 : ar 2 = x2.toInt) {x3 : Int32} (hx3 : ar 3 = x3.toInt) : ∃ as : List zV, lchk true 124 225 as = true ∧ as.map (zg (lnu ar) B) = [.int x1, .int x2, .int x3] := by
  obtain ⟨q1, m1, e1⟩ := lcov_I lcv_1_I7 hx1 B
  obtain ⟨q2, m2, e2⟩ := lcov_I lcv_2_E7 hx2 B
  obtain ⟨q3, m3, e3⟩ := lcov_I lcv_3_IM hx3 B
  have h0 : lall true 124 225 [lc_1_I7, lc_2_E7, lc_3_IM] [] = true := la_many
  have h1 := List.all_eq_true.mp h0 q1 m1
  have h2 := List.all_eq_true.mp h1 q2 m2
  have h3 := List.all_eq_true.mp h2 q3 m3
  exact ⟨[q1.1, q2.1, q3.1], h3, by simp only [List.map_cons, List.map_nil, e1, e2, e3]⟩
theorem las_parts {ar : Nat → Int} (B : Nat) {x1 : Int32} (hx1 : ar 1 = x1.toInt) {x2 : Int32} (hx2 : ar 2 = x2.toInt) : ∃ as : List zV, lchk true 125 226 as = true ∧ as.map (zg (lnu ar) B) = [.int x1, .int x2] := by
  obtain ⟨q1, m1, e1⟩ := lcov_I lcv_1_E7 hx1 B
  obtain ⟨q2, m2, e2⟩ := lcov_I lcv_2_A hx2 B
  have h0 : lall true 125 226 [lc_1_E7, lc_2_A] [] = true := la_parts
  have h1 := List.all_eq_true.mp h0 q1 m1
  have h2 := List.all_eq_true.mp h1 q2 m2
  exact ⟨[q1.1, q2.1], h2, by simp only [List.map_cons, List.map_nil, e1, e2]⟩
theorem las_mark {ar : Nat → Int} (B : Nat) {x1 : Int32} (hx1 : ar 1 = x1.toInt) {x2 : Int32} (hx2 : ar 2 = x2.toInt) : ∃ as : List zV, lchk true 126 227 as = true ∧ as.map (zg (lnu ar) B) = [.int x1, .int x2] := by
  obtain ⟨q1, m1, e1⟩ := lcov_I lcv_1_E7 hx1 B
  obtain ⟨q2, m2, e2⟩ := lcov_I lcv_2_A hx2 B
  have h0 : lall true 126 227 [lc_1_E7, lc_2_A] [] = true := la_mark
  have h1 := List.all_eq_true.mp h0 q1 m1
  have h2 := List.all_eq_true.mp h1 q2 m2
  exact ⟨[q1.1, q2.1], h2, by simp only [List.map_cons, List.map_nil, e1, e2]⟩
theorem las_act {ar : Nat → Int} (B : Nat) {x1 : Int32} (hx1 : ar 1 = x1.toInt) {x2 : Int32} (hx2 : ar 2 = x2.toInt) {x3 : Int32} (hx3 : ar 3 = x3.toInt) : ∃ as : List zV, lchk true 127 229 as = true ∧ as.map (zg (lnu ar) B) = [.int x1, .int x2, .int x3] := by
  obtain ⟨q1, m1, e1⟩ := lcov_I lcv_1_E7 hx1 B
  obtain ⟨q2, m2, e2⟩ := lcov_I lcv_2_A hx2 B
  obtain ⟨q3, m3, e3⟩ := lcov_I lcv_3_A hx3 B
  have h0 : lall true 127 229 [lc_1_E7, lc_2_A, lc_3_A] [] = true := la_act
  have h1 := List.all_eq_true.mp h0 q1 m1
  have h2 := List.all_eq_true.mp h1 q2 m2
  have h3 := List.all_eq_true.mp h2 q3 m3
  exact ⟨[q1.1, q2.1, q3.1], h3, by simp only [List.map_cons, List.map_nil, e1, e2, e3]⟩
theorem las_same {ar : Nat → Int} (B : Nat) {x1 : Int32} (hx1 : ar 1 = x1.toInt) {x2 : Int32} (hx2 : ar 2 = x2.toInt) : ∃ as : List zV, lchk false 128 230 as = true ∧ as.map (zg (lnu ar) B) = [.int x1, .int x2] := by
  obtain ⟨q1, m1, e1⟩ := lcov_I lcv_1_E7 hx1 B
  obtain ⟨q2, m2, e2⟩ := lcov_I lcv_2_A hx2 B
  have h0 : lall false 128 230 [lc_1_E7, lc_2_A] [] = true := la_same
  have h1 := List.all_eq_true.mp h0 q1 m1
  have h2 := List.all_eq_true.mp h1 q2 m2
  exact ⟨[q1.1, q2.1], h2, by simp only [List.map_cons, List.map_nil, e1, e2]⟩
theorem las_maps {ar : Nat → Int} (B : Nat) {x1 : Int32} (hx1 : ar 1 = x1.toInt) {x2 : Int32} (hx2 : ar 2 = x2.toInt) {x3 : Int32} (hx3 : ar 3 = x3.toInt) : ∃ as : List zV, lchk true 129 231 as = true ∧ as.map (zg (lnu ar) B) = [.int x1, .int x2, .int x3] := by
  obtain ⟨q1, m1, e1⟩ := lcov_I lcv_1_E7 hx1 B
  obtain ⟨q2, m2, e2⟩ := lcov_I lcv_2_A hx2 B
  obtain ⟨q3, m3, e3⟩ := lcov_I lcv_3_A hx3 B
  have h0 : lall true 129 231 [lc_1_E7, lc_2_A, lc_3_A] [] = true := la_maps
  have h1 := List.all_eq_true.mp h0 q1 m1
  have h2 := List.all_eq_true.mp h1 q2 m2
  have h3 := List.all_eq_true.mp h2 q3 m3
  exact ⟨[q1.1, q2.1, q3.1], h3, by simp only [List.map_cons, List.map_nil, e1, e2, e3]⟩
theorem las_row {ar : Nat → Int} (B : Nat) {x1 : Int64} (hx1 : ar 1 = x1.toInt) : ∃ as : List zV, lchk false 130 232 as = true ∧ as.map (zg (lnu ar) B) = [.long x1] := by
  obtain ⟨q1, m1, e1⟩ := lcov_J lcv_1_L hx1 B
  have h0 : lall false 130 232 [lc_1_L] [] = true := la_row
  have h1 := List.all_eq_true.mp h0 q1 m1
  exact ⟨[q1.1], h1, by simp only [List.map_cons, List.map_nil, e1]⟩
theorem las_check {ar : Nat → Int} (B : Nat) {x1 : Int32} (hx1 : ar 1 = x1.toInt) : ∃ as : List zV, lchk false 131 233 as = true ∧ as.map (zg (lnu ar) B) = [.int x1] := by
  obtain ⟨q1, m1, e1⟩ := lcov_I lcv_1_A hx1 B
  have h0 : lall false 131 233 [lc_1_A] [] = true := la_check
  have h1 := List.all_eq_true.mp h0 q1 m1
  exact ⟨[q1.1], h1, by simp only [List.map_cons, List.map_nil, e1]⟩
theorem las_misfit {ar : Nat → Int} (B : Nat)  : ∃ as : List zV, lchk false 132 234 as = true ∧ as.map (zg (lnu ar) B) = [] := by
  have h0 : lall false 132 234 [] [] = true := la_misfit
  exact ⟨[], h0, by simp only [List.map_cons, List.map_nil]⟩
theorem las_chance {ar : Nat → Int} (B : Nat) {x1 : Int32} (hx1 : ar 1 = x1.toInt) {x2 : Int32} (hx2 : ar 2 = x2.toInt) : ∃ as : List zV, lchk true 133 237 as = true ∧ as.map (zg (lnu ar) B) = [.int x1, .int x2] := by
  obtain ⟨q1, m1, e1⟩ := lcov_I lcv_1_E6 hx1 B
  obtain ⟨q2, m2, e2⟩ := lcov_I lcv_2_E1 hx2 B
  have h0 : lall true 133 237 [lc_1_E6, lc_2_E1] [] = true := la_chance
  have h1 := List.all_eq_true.mp h0 q1 m1
  have h2 := List.all_eq_true.mp h1 q2 m2
  exact ⟨[q1.1, q2.1], h2, by simp only [List.map_cons, List.map_nil, e1, e2]⟩
theorem las_rank {ar : Nat → Int} (B : Nat)  : ∃ as : List zV, lchk false 134 238 as = true ∧ as.map (zg (lnu ar) B) = [] := by
  have h0 : lall false 134 238 [] [] = true := la_rank
  exact ⟨[], h0, by simp only [List.map_cons, List.map_nil]⟩
theorem la_image : lall false 135 239 [lc_1_E2] [] = true := List.all_eq_true.mpr (List.forall_mem_cons.mpr ⟨la_image_0, List.forall_mem_cons.mpr ⟨la_image_1, List.forall_mem_cons.mpr ⟨la_image_2, List.forall_mem_cons.mpr ⟨la_image_3, List.forall_mem_cons.mpr ⟨la_image_4, fun _ h => absurd h List.not_mem_nil⟩⟩⟩⟩⟩)
theorem las_image {ar : Nat → Int} (B : Nat) {x1 : Int32} (hx1 : ar 1 = x1.toInt) : ∃ as : List zV, lchk false 135 239 as = true ∧ as.map (zg (lnu ar) B) = [.int x1] := by
  obtain ⟨q1, m1, e1⟩ := lcov_I lcv_1_E2 hx1 B
  have h0 : lall false 135 239 [lc_1_E2] [] = true := la_image
  have h1 := List.all_eq_true.mp h0 q1 m1
  exact ⟨[q1.1], h1, by simp only [List.map_cons, List.map_nil, e1]⟩
theorem las_back {ar : Nat → Int} (B : Nat) {x1 : Int32} (hx1 : ar 1 = x1.toInt) : ∃ as : List zV, lchk false 136 240 as = true ∧ as.map (zg (lnu ar) B) = [.int x1] := by
  obtain ⟨q1, m1, e1⟩ := lcov_I lcv_1_E2 hx1 B
  have h0 : lall false 136 240 [lc_1_E2] [] = true := la_back
  have h1 := List.all_eq_true.mp h0 q1 m1
  exact ⟨[q1.1], h1, by simp only [List.map_cons, List.map_nil, e1]⟩
theorem las_status {ar : Nat → Int} (B : Nat)  : ∃ as : List zV, lchk false 137 241 as = true ∧ as.map (zg (lnu ar) B) = [] := by
  have h0 : lall false 137 241 [] [] = true := la_status
  exact ⟨[], h0, by simp only [List.map_cons, List.map_nil]⟩
