theorem lchkG_spec {ex : zCall} {H0 : zH} {M y z : Nat} {j : Bool} {as : List zV} (h : lchkG ex H0 M j y z as = true) : ∃ (r : zV) (h1 h2 : zH) (fs : List zV), ex y ((4, 0) :: as) H0 = some (some r, h1) ∧ h1[M]? = some (.inl (8, fs)) ∧ ex z ((4, (M : Int)) :: as) h1 = some (some r, h2) ∧ (cond j (zisJ r) (zisI r)) = true ∧ h2.length ≤ 10000 ∧ zsl h2 ≤ 3000000 := by
  unfold lchkG at h
  split at h
  next r h1 e1 =>
    split at h
    next fs e2 =>
      rw [znth_eq] at e2
      split at h
      next r2 h2 e3 =>
        simp only [Bool.and_eq_true, decide_eq_true_eq] at h
        obtain ⟨⟨⟨⟨q0, q1⟩, q2⟩, q3⟩, q4⟩ := h
        have : r2 = r := Prod.ext (Nat.eq_of_beq_eq_true q1).symm q2.symm
        subst this
        exact ⟨_, h1, h2, fs, e1, e2, e3, q0, Nat.le_of_ble_eq_true q3, Nat.le_of_ble_eq_true q4⟩
      next => cases h
    next => cases h
  next => cases h
theorem lopt {o : Option (Option zV × zH)} {P : zH → Bool} (h : (match o with
  | some (none, h) => P h
  | _ => false) = true) : o = some (none, (match o with
  | some (_, h) => h
  | none => [])) ∧ P (match o with
  | some (_, h) => h
  | none => []) = true := by
  split at h
  next h0 => exact ⟨rfl, h⟩
  next => cases h
/-! which arguments are met -/
noncomputable def lcov (t j : Nat) (hi : Int) : Int → lC → Bool
  | lo, [] => decide (lo = hi + 1)
  | lo, q :: r => decide (q.2.1 = lo) && ((Nat.beq q.1.1 t && decide (q.1.2 = q.2.1) && decide (q.2.1 = q.2.2)) || (Nat.beq q.1.1 (t + 1) && decide (0 ≤ q.1.2) && Nat.beq (q.1.2.toNat / 32) j && decide ((znth lbl (q.1.2.toNat % 32)).getD (0, 0) = q.2))) && lcov t j hi (q.2.2 + 1) r
theorem lcov_spec {t j : Nat} {hi : Int} : ∀ (cs : lC) (lo x : Int), lcov t j hi lo cs = true → lo ≤ x → x ≤ hi → ∃ q ∈ cs, q.2.1 ≤ x ∧ x ≤ q.2.2 ∧ (q.1 = (t, x) ∨ (∃ id : Int, q.1 = (t + 1, id) ∧ id.toNat / 32 = j ∧ lbd id.toNat = q.2)) := by
  intro cs
  induction cs with
  | nil =>
    intro lo x h h1 h2
    simp only [lcov, decide_eq_true_eq] at h
    omega
  | cons q r ih =>
    intro lo x h h1 h2
    simp only [lcov, Bool.and_eq_true, Bool.or_eq_true, decide_eq_true_eq] at h
    obtain ⟨⟨q1, q2⟩, q3⟩ := h
    by_cases hx : x ≤ q.2.2
    · refine ⟨q, List.mem_cons_self, by omega, hx, ?_⟩
      obtain ⟨⟨vt, va⟩, vl, vh⟩ := q
      dsimp only at q1 q2 q3 hx ⊢
      rcases q2 with ⟨⟨g1, g2⟩, g3⟩ | ⟨⟨⟨g1, g2⟩, g3⟩, g4⟩
      · left
        have e1 : vt = t := Nat.eq_of_beq_eq_true g1
        have e2 : va = x := by omega
        rw [e1, e2]
      · right
        have e1 : vt = t + 1 := Nat.eq_of_beq_eq_true g1
        exact ⟨va, by rw [e1], Nat.eq_of_beq_eq_true g3, g4⟩
    · obtain ⟨q', hm, h3⟩ := ih (q.2.2 + 1) x q3 (by omega) h2
      exact ⟨q', List.mem_cons_of_mem _ hm, h3⟩
noncomputable def lnu (ar : Nat → Int) (id : Nat) : Int := if (lbd id).1 ≤ ar (id / 32) ∧ ar (id / 32) ≤ (lbd id).2 then ar (id / 32) else (lbd id).1
theorem lbd_le : (List.range 32).all (fun k => decide (((znth lbl k).getD (0, 0)).1 ≤ ((znth lbl k).getD (0, 0)).2)) = true := by decide +kernel
theorem lnu_ok (ar : Nat → Int) (i : Nat) : (lbd i).1 ≤ lnu ar i ∧ lnu ar i ≤ (lbd i).2 := by
  unfold lnu
  split
  next h => exact h
  next =>
    have h1 := List.all_eq_true.mp lbd_le (i % 32) (List.mem_range.mpr (Nat.mod_lt _ (by decide)))
    simp only [decide_eq_true_eq] at h1
    exact ⟨Int.le_refl _, h1⟩
theorem lcov_I {ar : Nat → Int} {j : Nat} {cs : lC} (h : lcov 0 j 2147483647 (-2147483648) cs = true) {x : Int32} (hx : ar j = x.toInt) (B : Nat) : ∃ q ∈ cs, zg (lnu ar) B q.1 = .int x := by
  obtain ⟨q, hq, h1, h2, h3⟩ := lcov_spec cs _ x.toInt h (by have := Int32.le_toInt x; omega) (by have := Int32.toInt_lt x; omega)
  refine ⟨q, hq, ?_⟩
  rcases h3 with h3 | ⟨id, h3, h4, h5⟩
  · rw [h3]
    exact zg0 x
  · rw [h3]
    show Value.int (Int32.ofInt (lnu ar id.toNat)) = _
    have : lnu ar id.toNat = x.toInt := by
      unfold lnu
      rw [h4, hx, h5, if_pos ⟨h1, h2⟩]
    rw [this, Int32.ofInt_toInt]
theorem lcov_J {ar : Nat → Int} {j : Nat} {cs : lC} (h : lcov 2 j 9223372036854775807 (-9223372036854775808) cs = true) {x : Int64} (hx : ar j = x.toInt) (B : Nat) : ∃ q ∈ cs, zg (lnu ar) B q.1 = .long x := by
  obtain ⟨q, hq, h1, h2, h3⟩ := lcov_spec cs _ x.toInt h (by have := Int64.le_toInt x; omega) (by have := Int64.toInt_lt x; omega)
  refine ⟨q, hq, ?_⟩
  rcases h3 with h3 | ⟨id, h3, h4, h5⟩
  · rw [h3]
    exact zg2 x
  · rw [h3]
    show Value.long (Int64.ofInt (lnu ar id.toNat)) = _
    have : lnu ar id.toNat = x.toInt := by
      unfold lnu
      rw [h4, hx, h5, if_pos ⟨h1, h2⟩]
    rw [this, Int64.ofInt_toInt]
theorem lcv_1_A : lcov 0 1 2147483647 (-2147483648) lc_1_A = true := by decide +kernel
theorem lcv_1_E0 : lcov 0 1 2147483647 (-2147483648) lc_1_E0 = true := by decide +kernel
theorem lcv_1_E10 : lcov 0 1 2147483647 (-2147483648) lc_1_E10 = true := by decide +kernel
theorem lcv_1_E2 : lcov 0 1 2147483647 (-2147483648) lc_1_E2 = true := by decide +kernel
theorem lcv_1_E3 : lcov 0 1 2147483647 (-2147483648) lc_1_E3 = true := by decide +kernel
theorem lcv_1_E5 : lcov 0 1 2147483647 (-2147483648) lc_1_E5 = true := by decide +kernel
theorem lcv_1_E6 : lcov 0 1 2147483647 (-2147483648) lc_1_E6 = true := by decide +kernel
theorem lcv_1_E7 : lcov 0 1 2147483647 (-2147483648) lc_1_E7 = true := by decide +kernel
theorem lcv_1_E8 : lcov 0 1 2147483647 (-2147483648) lc_1_E8 = true := by decide +kernel
theorem lcv_1_I7 : lcov 0 1 2147483647 (-2147483648) lc_1_I7 = true := by decide +kernel
theorem lcv_1_L : lcov 2 1 9223372036854775807 (-9223372036854775808) lc_1_L = true := by decide +kernel
theorem lcv_2_A : lcov 0 2 2147483647 (-2147483648) lc_2_A = true := by decide +kernel
theorem lcv_2_E0 : lcov 0 2 2147483647 (-2147483648) lc_2_E0 = true := by decide +kernel
theorem lcv_2_E1 : lcov 0 2 2147483647 (-2147483648) lc_2_E1 = true := by decide +kernel
theorem lcv_2_E2 : lcov 0 2 2147483647 (-2147483648) lc_2_E2 = true := by decide +kernel
theorem lcv_2_E3 : lcov 0 2 2147483647 (-2147483648) lc_2_E3 = true := by decide +kernel
theorem lcv_2_E7 : lcov 0 2 2147483647 (-2147483648) lc_2_E7 = true := by decide +kernel
theorem lcv_2_E9 : lcov 0 2 2147483647 (-2147483648) lc_2_E9 = true := by decide +kernel
theorem lcv_3_A : lcov 0 3 2147483647 (-2147483648) lc_3_A = true := by decide +kernel
theorem lcv_3_E1 : lcov 0 3 2147483647 (-2147483648) lc_3_E1 = true := by decide +kernel
theorem lcv_3_E8 : lcov 0 3 2147483647 (-2147483648) lc_3_E8 = true := by decide +kernel
theorem lcv_3_I100 : lcov 0 3 2147483647 (-2147483648) lc_3_I100 = true := by decide +kernel
theorem lcv_3_IM : lcov 0 3 2147483647 (-2147483648) lc_3_IM = true := by decide +kernel
theorem lcv_4_E1 : lcov 0 4 2147483647 (-2147483648) lc_4_E1 = true := by decide +kernel
theorem zq_X7_init : zm 102 = some (yX7_init, cX7_init, 2, none, 7, 0, 0, true, zk_X7_init) := rfl
theorem zq_X8_init : zm 179 = some (yX8_init, cX8_init, 2, none, 8, 0, 0, true, zk_X8_init) := rfl
theorem zq_X7_sheet : zm 103 = some (yX7_sheet, cX7_sheet, 4, (some (.int)), 7, 3, 1, false, zk_X7_sheet) := rfl
theorem zq_X8_sheet : zm 162 = some (yX8_sheet, cX8_sheet, 5, (some (.int)), 8, 3, 1, false, zk_X8_sheet) := rfl
theorem zq_X7_write : zm 104 = some (yX7_write, cX7_write, 4, (some (.int)), 7, 3, 1, false, zk_X7_write) := rfl
theorem zq_X8_write : zm 163 = some (yX8_write, cX8_write, 4, (some (.int)), 8, 3, 1, false, zk_X8_write) := rfl
theorem zq_X7_group : zm 105 = some (yX7_group, cX7_group, 3, (some (.int)), 7, 1, 1, false, zk_X7_group) := rfl
theorem zq_X8_group : zm 181 = some (yX8_group, cX8_group, 4, (some (.int)), 8, 1, 1, false, zk_X8_group) := rfl
theorem zq_X7_count : zm 106 = some (yX7_count, cX7_count, 2, (some (.int)), 7, 1, 1, false, zk_X7_count) := rfl
theorem zq_X8_count : zm 182 = some (yX8_count, cX8_count, 4, (some (.int)), 8, 1, 1, false, zk_X8_count) := rfl
theorem zq_X7_turn : zm 107 = some (yX7_turn, cX7_turn, 4, (some (.int)), 7, 2, 1, false, zk_X7_turn) := rfl
theorem zq_X8_turn : zm 186 = some (yX8_turn, cX8_turn, 3, (some (.int)), 8, 2, 1, false, zk_X8_turn) := rfl
theorem zq_X7_product : zm 108 = some (yX7_product, cX7_product, 4, (some (.int)), 7, 2, 1, false, zk_X7_product) := rfl
theorem zq_X8_product : zm 187 = some (yX8_product, cX8_product, 3, (some (.int)), 8, 2, 1, false, zk_X8_product) := rfl
theorem zq_X7_ofTurn : zm 109 = some (yX7_ofTurn, cX7_ofTurn, 4, (some (.int)), 7, 2, 1, false, zk_X7_ofTurn) := rfl
theorem zq_X8_ofTurn : zm 191 = some (yX8_ofTurn, cX8_ofTurn, 4, (some (.int)), 8, 2, 1, false, zk_X8_ofTurn) := rfl
theorem zq_X7_heap : zm 110 = some (yX7_heap, cX7_heap, 5, (some (.int)), 7, 2, 1, false, zk_X7_heap) := rfl
theorem zq_X8_heap : zm 199 = some (yX8_heap, cX8_heap, 5, (some (.int)), 8, 2, 1, false, zk_X8_heap) := rfl
theorem zq_X7_has : zm 111 = some (yX7_has, cX7_has, 4, (some (.int)), 7, 2, 1, false, zk_X7_has) := rfl
theorem zq_X8_has : zm 200 = some (yX8_has, cX8_has, 3, (some (.int)), 8, 2, 1, false, zk_X8_has) := rfl
theorem zq_X7_join : zm 112 = some (yX7_join, cX7_join, 5, (some (.int)), 7, 3, 1, false, zk_X7_join) := rfl
theorem zq_X8_join : zm 201 = some (yX8_join, cX8_join, 5, (some (.int)), 8, 3, 1, false, zk_X8_join) := rfl
theorem zq_X7_ofClass : zm 113 = some (yX7_ofClass, cX7_ofClass, 4, (some (.int)), 7, 2, 1, false, zk_X7_ofClass) := rfl
theorem zq_X8_ofClass : zm 202 = some (yX8_ofClass, cX8_ofClass, 3, (some (.int)), 8, 2, 1, false, zk_X8_ofClass) := rfl
theorem zq_X7_within : zm 114 = some (yX7_within, cX7_within, 5, (some (.int)), 7, 3, 1, false, zk_X7_within) := rfl
theorem zq_X8_within : zm 203 = some (yX8_within, cX8_within, 6, (some (.int)), 8, 3, 1, false, zk_X8_within) := rfl
theorem zq_X7_table : zm 115 = some (yX7_table, cX7_table, 4, (some (.int)), 7, 2, 1, false, zk_X7_table) := rfl
theorem zq_X8_table : zm 204 = some (yX8_table, cX8_table, 3, (some (.int)), 8, 2, 1, false, zk_X8_table) := rfl
theorem zq_X7_sylow : zm 116 = some (yX7_sylow, cX7_sylow, 5, (some (.int)), 7, 1, 1, false, zk_X7_sylow) := rfl
theorem zq_X8_sylow : zm 205 = some (yX8_sylow, cX8_sylow, 4, (some (.int)), 8, 1, 1, false, zk_X8_sylow) := rfl
theorem zq_X7_down : zm 117 = some (yX7_down, cX7_down, 4, (some (.int)), 7, 1, 1, false, zk_X7_down) := rfl
theorem zq_X8_down : zm 206 = some (yX8_down, cX8_down, 4, (some (.int)), 8, 1, 1, false, zk_X8_down) := rfl
theorem zq_X7_simple : zm 118 = some (yX7_simple, cX7_simple, 1, (some (.int)), 7, 0, 1, false, zk_X7_simple) := rfl
theorem zq_X8_simple : zm 207 = some (yX8_simple, cX8_simple, 3, (some (.int)), 8, 0, 1, false, zk_X8_simple) := rfl
theorem zq_X7_coset : zm 119 = some (yX7_coset, cX7_coset, 3, (some (.long)), 7, 2, 3, false, zk_X7_coset) := rfl
theorem zq_X8_coset : zm 214 = some (yX8_coset, cX8_coset, 4, (some (.long)), 8, 2, 3, false, zk_X8_coset) := rfl
theorem zq_X7_places : zm 120 = some (yX7_places, cX7_places, 4, (some (.long)), 7, 3, 3, false, zk_X7_places) := rfl
theorem zq_X8_places : zm 218 = some (yX8_places, cX8_places, 5, (some (.long)), 8, 3, 3, false, zk_X8_places) := rfl
theorem zq_X7_heaps : zm 121 = some (yX7_heaps, cX7_heaps, 2, (some (.long)), 7, 1, 3, false, zk_X7_heaps) := rfl
theorem zq_X8_heaps : zm 219 = some (yX8_heaps, cX8_heaps, 6, (some (.long)), 8, 1, 3, false, zk_X8_heaps) := rfl
theorem zq_X7_both : zm 122 = some (yX7_both, cX7_both, 5, (some (.long)), 7, 4, 3, false, zk_X7_both) := rfl
theorem zq_X8_both : zm 221 = some (yX8_both, cX8_both, 8, (some (.long)), 8, 4, 3, false, zk_X8_both) := rfl
theorem zq_X7_colour : zm 123 = some (yX7_colour, cX7_colour, 4, (some (.long)), 7, 3, 3, false, zk_X7_colour) := rfl
theorem zq_X8_colour : zm 224 = some (yX8_colour, cX8_colour, 5, (some (.long)), 8, 3, 3, false, zk_X8_colour) := rfl
theorem zq_X7_many : zm 124 = some (yX7_many, cX7_many, 4, (some (.long)), 7, 3, 3, false, zk_X7_many) := rfl
theorem zq_X8_many : zm 225 = some (yX8_many, cX8_many, 5, (some (.long)), 8, 3, 3, false, zk_X8_many) := rfl
theorem zq_X7_parts : zm 125 = some (yX7_parts, cX7_parts, 3, (some (.long)), 7, 2, 3, false, zk_X7_parts) := rfl
theorem zq_X8_parts : zm 226 = some (yX8_parts, cX8_parts, 3, (some (.long)), 8, 2, 3, false, zk_X8_parts) := rfl
theorem zq_X7_mark : zm 126 = some (yX7_mark, cX7_mark, 3, (some (.long)), 7, 2, 3, false, zk_X7_mark) := rfl
theorem zq_X8_mark : zm 227 = some (yX8_mark, cX8_mark, 3, (some (.long)), 8, 2, 3, false, zk_X8_mark) := rfl
theorem zq_X7_act : zm 127 = some (yX7_act, cX7_act, 5, (some (.long)), 7, 3, 3, false, zk_X7_act) := rfl
theorem zq_X8_act : zm 229 = some (yX8_act, cX8_act, 7, (some (.long)), 8, 3, 3, false, zk_X8_act) := rfl
theorem zq_X7_same : zm 128 = some (yX7_same, cX7_same, 3, (some (.int)), 7, 2, 1, false, zk_X7_same) := rfl
theorem zq_X8_same : zm 230 = some (yX8_same, cX8_same, 4, (some (.int)), 8, 2, 1, false, zk_X8_same) := rfl
theorem zq_X7_maps : zm 129 = some (yX7_maps, cX7_maps, 6, (some (.long)), 7, 3, 3, false, zk_X7_maps) := rfl
theorem zq_X8_maps : zm 231 = some (yX8_maps, cX8_maps, 12, (some (.long)), 8, 3, 3, false, zk_X8_maps) := rfl
theorem zq_X7_row : zm 130 = some (yX7_row, cX7_row, 3, (some (.int)), 7, 1, 1, false, zk_X7_row) := rfl
theorem zq_X8_row : zm 232 = some (yX8_row, cX8_row, 3, (some (.int)), 8, 1, 1, false, zk_X8_row) := rfl
theorem zq_X7_check : zm 131 = some (yX7_check, cX7_check, 3, (some (.int)), 7, 1, 1, false, zk_X7_check) := rfl
theorem zq_X8_check : zm 233 = some (yX8_check, cX8_check, 4, (some (.int)), 8, 1, 1, false, zk_X8_check) := rfl
theorem zq_X7_misfit : zm 132 = some (yX7_misfit, cX7_misfit, 1, (some (.int)), 7, 0, 1, false, zk_X7_misfit) := rfl
theorem zq_X8_misfit : zm 234 = some (yX8_misfit, cX8_misfit, 1, (some (.int)), 8, 0, 1, false, zk_X8_misfit) := rfl
theorem zq_X7_chance : zm 133 = some (yX7_chance, cX7_chance, 9, (some (.long)), 7, 2, 3, false, zk_X7_chance) := rfl
theorem zq_X8_chance : zm 237 = some (yX8_chance, cX8_chance, 9, (some (.long)), 8, 2, 3, false, zk_X8_chance) := rfl
theorem zq_X7_rank : zm 134 = some (yX7_rank, cX7_rank, 2, (some (.int)), 7, 0, 1, false, zk_X7_rank) := rfl
theorem zq_X8_rank : zm 238 = some (yX8_rank, cX8_rank, 2, (some (.int)), 8, 0, 1, false, zk_X8_rank) := rfl
theorem zq_X7_image : zm 135 = some (yX7_image, cX7_image, 2, (some (.int)), 7, 1, 1, false, zk_X7_image) := rfl
theorem zq_X8_image : zm 239 = some (yX8_image, cX8_image, 3, (some (.int)), 8, 1, 1, false, zk_X8_image) := rfl
theorem zq_X7_back : zm 136 = some (yX7_back, cX7_back, 2, (some (.int)), 7, 1, 1, false, zk_X7_back) := rfl
theorem zq_X8_back : zm 240 = some (yX8_back, cX8_back, 3, (some (.int)), 8, 1, 1, false, zk_X8_back) := rfl
theorem zq_X7_status : zm 137 = some (yX7_status, cX7_status, 1, (some (.int)), 7, 0, 1, false, zk_X7_status) := rfl
theorem zq_X8_status : zm 241 = some (yX8_status, cX8_status, 1, (some (.int)), 8, 0, 1, false, zk_X8_status) := rfl
