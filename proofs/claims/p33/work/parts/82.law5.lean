theorem zq_X7_init : zm 102 = some (yX7_init, cX7_init, 2, none, 7, 0, 0, true, zk_X7_init) := rfl
theorem zq_X8_init : zm 179 = some (yX8_init, cX8_init, 2, none, 8, 0, 0, true, zk_X8_init) := rfl
theorem zq_X7_sheet : zm 103 = some (yX7_sheet, cX7_sheet, 4, (some (.int)), 7, 3, 1, false, zk_X7_sheet) := rfl
theorem zq_X8_sheet : zm 162 = some (yX8_sheet, cX8_sheet, 5, (some (.int)), 8, 3, 1, false, zk_X8_sheet) := rfl
theorem zq_X7_write : zm 104 = some (yX7_write, cX7_write, 4, (some (.int)), 7, 3, 1, false, zk_X7_write) := rfl
theorem zq_X8_write : zm 163 = some (yX8_write, cX8_write, 4, (some (.int)), 8, 3, 1, false, zk_X8_write) := rfl
theorem zq_X7_group : zm 105 = some (yX7_group, cX7_group, 3, (some (.int)), 7, 1, 1, false, zk_X7_group) := rfl
theorem zq_X8_group : zm 181 = some (yX8_group, cX8_group, 4, (some (.int)), 8, 1, 1, false, zk_X8_group) := rfl
theorem zq_X7_count : zm 106 = some (yX7_count, cX7_count, 2, (some (.int)), 7, 1, 1, false, zk_X7_count) := rfl
theorem zq_X8_count : zm 182 = some (yX8_count, cX8_count, 4, (some (.int)), 8, 1, 1, false, zk_X8_count) := rfl
theorem zq_X7_turn : zm 107 = some (yX7_turn, cX7_turn, 4, (some (.int)), 7, 2, 1, false, zk_X7_turn) := rfl
theorem zq_X8_turn : zm 186 = some (yX8_turn, cX8_turn, 3, (some (.int)), 8, 2, 1, false, zk_X8_turn) := rfl
theorem zq_X7_product : zm 108 = some (yX7_product, cX7_product, 4, (some (.int)), 7, 2, 1, false, zk_X7_product) := rfl
theorem zq_X8_product : zm 187 = some (yX8_product, cX8_product, 3, (some (.int)), 8, 2, 1, false, zk_X8_product) := rfl
theorem zq_X7_ofTurn : zm 109 = some (yX7_ofTurn, cX7_ofTurn, 4, (some (.int)), 7, 2, 1, false, zk_X7_ofTurn) := rfl
theorem zq_X8_ofTurn : zm 191 = some (yX8_ofTurn, cX8_ofTurn, 4, (some (.int)), 8, 2, 1, false, zk_X8_ofTurn) := rfl
theorem zq_X7_heap : zm 110 = some (yX7_heap, cX7_heap, 5, (some (.int)), 7, 2, 1, false, zk_X7_heap) := rfl
theorem zq_X8_heap : zm 199 = some (yX8_heap, cX8_heap, 5, (some (.int)), 8, 2, 1, false, zk_X8_heap) := rfl
theorem zq_X7_has : zm 111 = some (yX7_has, cX7_has, 4, (some (.int)), 7, 2, 1, false, zk_X7_has) := rfl
theorem zq_X8_has : zm 200 = some (yX8_has, cX8_has, 3, (some (.int)), 8, 2, 1, false, zk_X8_has) := rfl
theorem zq_X7_join : zm 112 = some (yX7_join, cX7_join, 5, (some (.int)), 7, 3, 1, false, zk_X7_join) := rfl
theorem zq_X8_join : zm 201 = some (yX8_join, cX8_join, 5, (some (.int)), 8, 3, 1, false, zk_X8_join) := rfl
theorem zq_X7_ofClass : zm 113 = some (yX7_ofClass, cX7_ofClass, 4, (some (.int)), 7, 2, 1, false, zk_X7_ofClass) := rfl
theorem zq_X8_ofClass : zm 202 = some (yX8_ofClass, cX8_ofClass, 3, (some (.int)), 8, 2, 1, false, zk_X8_ofClass) := rfl
theorem zq_X7_within : zm 114 = some (yX7_within, cX7_within, 5, (some (.int)), 7, 3, 1, false, zk_X7_within) := rfl
theorem zq_X8_within : zm 203 = some (yX8_within, cX8_within, 6, (some (.int)), 8, 3, 1, false, zk_X8_within) := rfl
theorem zq_X7_table : zm 115 = some (yX7_table, cX7_table, 4, (some (.int)), 7, 2, 1, false, zk_X7_table) := rfl
theorem zq_X8_table : zm 204 = some (yX8_table, cX8_table, 3, (some (.int)), 8, 2, 1, false, zk_X8_table) := rfl
theorem zq_X7_sylow : zm 116 = some (yX7_sylow, cX7_sylow, 5, (some (.int)), 7, 1, 1, false, zk_X7_sylow) := rfl
theorem zq_X8_sylow : zm 205 = some (yX8_sylow, cX8_sylow, 4, (some (.int)), 8, 1, 1, false, zk_X8_sylow) := rfl
theorem zq_X7_down : zm 117 = some (yX7_down, cX7_down, 4, (some (.int)), 7, 1, 1, false, zk_X7_down) := rfl
theorem zq_X8_down : zm 206 = some (yX8_down, cX8_down, 4, (some (.int)), 8, 1, 1, false, zk_X8_down) := rfl
theorem zq_X7_simple : zm 118 = some (yX7_simple, cX7_simple, 1, (some (.int)), 7, 0, 1, false, zk_X7_simple) := rfl
theorem zq_X8_simple : zm 207 = some (yX8_simple, cX8_simple, 3, (some (.int)), 8, 0, 1, false, zk_X8_simple) := rfl
theorem zq_X7_coset : zm 119 = some (yX7_coset, cX7_coset, 3, (some (.long)), 7, 2, 3, false, zk_X7_coset) := rfl
theorem zq_X8_coset : zm 214 = some (yX8_coset, cX8_coset, 4, (some (.long)), 8, 2, 3, false, zk_X8_coset) := rfl
theorem zq_X7_places : zm 120 = some (yX7_places, cX7_places, 4, (some (.long)), 7, 3, 3, false, zk_X7_places) := rfl
theorem zq_X8_places : zm 218 = some (yX8_places, cX8_places, 5, (some (.long)), 8, 3, 3, false, zk_X8_places) := rfl
theorem zq_X7_heaps : zm 121 = some (yX7_heaps, cX7_heaps, 2, (some (.long)), 7, 1, 3, false, zk_X7_heaps) := rfl
theorem zq_X8_heaps : zm 219 = some (yX8_heaps, cX8_heaps, 6, (some (.long)), 8, 1, 3, false, zk_X8_heaps) := rfl
theorem zq_X7_both : zm 122 = some (yX7_both, cX7_both, 5, (some (.long)), 7, 4, 3, false, zk_X7_both) := rfl
theorem zq_X8_both : zm 221 = some (yX8_both, cX8_both, 8, (some (.long)), 8, 4, 3, false, zk_X8_both) := rfl
theorem zq_X7_colour : zm 123 = some (yX7_colour, cX7_colour, 4, (some (.long)), 7, 3, 3, false, zk_X7_colour) := rfl
theorem zq_X8_colour : zm 224 = some (yX8_colour, cX8_colour, 5, (some (.long)), 8, 3, 3, false, zk_X8_colour) := rfl
theorem zq_X7_many : zm 124 = some (yX7_many, cX7_many, 4, (some (.long)), 7, 3, 3, false, zk_X7_many) := rfl
theorem zq_X8_many : zm 225 = some (yX8_many, cX8_many, 5, (some (.long)), 8, 3, 3, false, zk_X8_many) := rfl
theorem zq_X7_parts : zm 125 = some (yX7_parts, cX7_parts, 3, (some (.long)), 7, 2, 3, false, zk_X7_parts) := rfl
theorem zq_X8_parts : zm 226 = some (yX8_parts, cX8_parts, 3, (some (.long)), 8, 2, 3, false, zk_X8_parts) := rfl
theorem zq_X7_mark : zm 126 = some (yX7_mark, cX7_mark, 3, (some (.long)), 7, 2, 3, false, zk_X7_mark) := rfl
theorem zq_X8_mark : zm 227 = some (yX8_mark, cX8_mark, 3, (some (.long)), 8, 2, 3, false, zk_X8_mark) := rfl
theorem zq_X7_act : zm 127 = some (yX7_act, cX7_act, 5, (some (.long)), 7, 3, 3, false, zk_X7_act) := rfl
theorem zq_X8_act : zm 229 = some (yX8_act, cX8_act, 7, (some (.long)), 8, 3, 3, false, zk_X8_act) := rfl
theorem zq_X7_same : zm 128 = some (yX7_same, cX7_same, 3, (some (.int)), 7, 2, 1, false, zk_X7_same) := rfl
theorem zq_X8_same : zm 230 = some (yX8_same, cX8_same, 4, (some (.int)), 8, 2, 1, false, zk_X8_same) := rfl
theorem zq_X7_maps : zm 129 = some (yX7_maps, cX7_maps, 6, (some (.long)), 7, 3, 3, false, zk_X7_maps) := rfl
theorem zq_X8_maps : zm 231 = some (yX8_maps, cX8_maps, 12, (some (.long)), 8, 3, 3, false, zk_X8_maps) := rfl
theorem zq_X7_row : zm 130 = some (yX7_row, cX7_row, 3, (some (.int)), 7, 1, 1, false, zk_X7_row) := rfl
theorem zq_X8_row : zm 232 = some (yX8_row, cX8_row, 3, (some (.int)), 8, 1, 1, false, zk_X8_row) := rfl
theorem zq_X7_check : zm 131 = some (yX7_check, cX7_check, 3, (some (.int)), 7, 1, 1, false, zk_X7_check) := rfl
theorem zq_X8_check : zm 233 = some (yX8_check, cX8_check, 4, (some (.int)), 8, 1, 1, false, zk_X8_check) := rfl
theorem zq_X7_misfit : zm 132 = some (yX7_misfit, cX7_misfit, 1, (some (.int)), 7, 0, 1, false, zk_X7_misfit) := rfl
theorem zq_X8_misfit : zm 234 = some (yX8_misfit, cX8_misfit, 1, (some (.int)), 8, 0, 1, false, zk_X8_misfit) := rfl
theorem zq_X7_chance : zm 133 = some (yX7_chance, cX7_chance, 9, (some (.long)), 7, 2, 3, false, zk_X7_chance) := rfl
theorem zq_X8_chance : zm 237 = some (yX8_chance, cX8_chance, 9, (some (.long)), 8, 2, 3, false, zk_X8_chance) := rfl
theorem zq_X7_rank : zm 134 = some (yX7_rank, cX7_rank, 2, (some (.int)), 7, 0, 1, false, zk_X7_rank) := rfl
theorem zq_X8_rank : zm 238 = some (yX8_rank, cX8_rank, 2, (some (.int)), 8, 0, 1, false, zk_X8_rank) := rfl
theorem zq_X7_image : zm 135 = some (yX7_image, cX7_image, 2, (some (.int)), 7, 1, 1, false, zk_X7_image) := rfl
theorem zq_X8_image : zm 239 = some (yX8_image, cX8_image, 3, (some (.int)), 8, 1, 1, false, zk_X8_image) := rfl
theorem zq_X7_back : zm 136 = some (yX7_back, cX7_back, 2, (some (.int)), 7, 1, 1, false, zk_X7_back) := rfl
theorem zq_X8_back : zm 240 = some (yX8_back, cX8_back, 3, (some (.int)), 8, 1, 1, false, zk_X8_back) := rfl
theorem zq_X7_status : zm 137 = some (yX7_status, cX7_status, 1, (some (.int)), 7, 0, 1, false, zk_X7_status) := rfl
theorem zq_X8_status : zm 241 = some (yX8_status, cX8_status, 1, (some (.int)), 8, 0, 1, false, zk_X8_status) := rfl
theorem i32_x (x : Int32) : i32 x.toInt := ⟨by have := Int32.le_toInt x; omega, by have := Int32.toInt_lt x; omega⟩
theorem i64_x (x : Int64) : i64 x.toInt := ⟨by have := Int64.le_toInt x; omega, by have := Int64.toInt_lt x; omega⟩
theorem lgc_self (x : Int64) : lg_cmp x x = 0 := by simp [lg_cmp]
section LC
variable {p : Program} {e : Env} {s : State} {m : MethodId} {below : List Frame} {meth : Method} {c : Code} {l : Launch} {b L : Nat} {xs : Nat → Int32} {D : va_G} {cy : Nat → ClassId} {ν : Nat → Int}
abbrev lwl (b B M : Nat) (i : Int32) : List (Nat × Value) := [(3, .int i), (2, .ref (B + M)), (1, .ref (B + 0)), (0, .ref b)]
abbrev JH (h : zH) (k : Nat) : Prop := ∃ (G : List gS) (R V : gV), HR h G R V ∧ JS G R V k
theorem lwc_sheet (C0 : lw_At p s m meth c b L xs) (hK : va_K D vwCl (zty cy) s) (hc : ∀ F : Nat, zCO l D cy ν s.heap.size 8 (zexec zb0 F 8)) {i k : Nat} (hi : i + 5 ≤ L) (hL : L ≤ 2560) (hk : k < 512) {h : zH} (jh : JH h k) {H : Heap} {locs : List Loc} (hr : lwR s D cy ν h H locs) {Ls : Array Slot} (hl : lv_has Ls 4 (lwl b s.heap.size 57 (nI i)))
    (kk : ∀ (H : Heap) (locs : List Loc) (h : zH), lwR s D cy ν h H locs → JH h (k + 1) → W p l e room_1 s m #[Value.ref b] below meth c H locs h.length (zsl h) (lw_Z below #[Value.ref b] s) (F0 m 1313 Ls [])) : W p l e room_1 s m #[Value.ref b] below meth c H locs h.length (zsl h) (lw_Z below #[Value.ref b] s) (F0 m 188 Ls []) := by
  obtain ⟨hx, hb, hr0, hml, hown, hts, hX, hbl, hlocks, hgv⟩ := id C0
  obtain ⟨G, R, V, hh, js⟩ := jh
  obtain ⟨r, h1, G1, R1, V1, hh1, ⟨q1, ⟨o1, m1⟩, w2⟩, F1, ex1⟩ := j_sheet js hk (x1 := (xs (i + 1)).toInt) (x2 := (xs (i + 2)).toInt) (x3 := (xs (i + 3)).toInt) (i32_x _) (i32_x _) (i32_x _) h hh
  obtain ⟨r2, h2, G2, R2, V2, hh2, ⟨q2, js2⟩, F2, ex2⟩ := w2 h1 hh1
  have e1 := ex1 F1 (Nat.le_refl _) 8 (Nat.le_refl _)
  have e2 := ex2 F2 (Nat.le_refl _) 8 (Nat.le_refl _)
  obtain ⟨f0, c0, -⟩ := hh.2.1 0 7 (JS_room js (by omega)).1
  obtain ⟨f1, c1, -⟩ := hh1.2.1 57 8 o1
  have m2 := (JS_room js2 (by omega)).2
  have z1 : h1.length ≤ 93552 ∧ zsl h1 ≤ 8821594 := ⟨by rw [hh1.1]; exact Nat.le_trans m1.1 (Nat.le_of_ble_eq_true rfl), by rw [zsl_HR hh1]; exact Nat.le_trans m1.2 (Nat.le_of_ble_eq_true rfl)⟩
  have z2 : h2.length ≤ 93552 ∧ zsl h2 ≤ 8821594 := ⟨by rw [hh2.1]; exact Nat.le_trans m2.1 (Nat.le_of_ble_eq_true rfl), by rw [zsl_HR hh2]; exact Nat.le_trans m2.2 (Nat.le_of_ble_eq_true rfl)⟩
  have hv : ([(0, (xs (i + 1)).toInt), (0, (xs (i + 2)).toInt), (0, (xs (i + 3)).toInt)] : List zV).map (zg ν s.heap.size) = [.int (xs (i + 1)), .int (xs (i + 2)), .int (xs (i + 3))] := by simp only [List.map_cons, List.map_nil, zg0, zg2]
  have hl2 := (⟨lv_at hl 3 rfl, lv_at hl 0 rfl⟩ : Ls[0]? = some (.val (.ref b)) ∧ Ls[3]? = some (.val (.int (nI i))))
  subst q1
  subst q2
  refine lv_aload_n hx hb dL_law_188 rfl (lv_at hl 2 rfl) ?_
  refine lw_ld C0 hr (i := i) (k := 1) (n := 1) (lv := []) hl2 rfl (by omega) (by omega) dL_law_189 dL_law_190 dL_law_191 dL_law_192 dL_law_193 ?_
  refine lw_ld C0 hr (i := i) (k := 2) (n := 2) (lv := []) hl2 rfl (by omega) (by omega) dL_law_194 dL_law_195 dL_law_196 dL_law_197 dL_law_198 ?_
  refine lw_ld C0 hr (i := i) (k := 3) (n := 3) (lv := []) hl2 rfl (by omega) (by omega) dL_law_199 dL_law_200 dL_law_201 dL_law_202 dL_law_203 ?_
  refine W.eq (g2 := F0 m 204 Ls ((([(0, (xs (i + 1)).toInt), (0, (xs (i + 2)).toInt), (0, (xs (i + 3)).toInt)] : List zV).map (zg ν s.heap.size)).reverse ++ .ref (s.heap.size + 0) :: [])) (by rw [hv]; rfl) ?_
  refine lw_callV (a := 0) (ci := 7) C0 hK hr (hc F1) zq_X7_sheet e1 (zpos_ok (ps := [419, 420, 421]) (by decide +kernel)) c0 (by decide +kernel) rfl hl.1 (Nat.le_of_ble_eq_true rfl) z1.1 z1.2 dL_law_204 (fun H locs hr => ?_)
  refine W.eq (g2 := F0 m 207 Ls [.int (Int32.ofInt (shA (xs (i + 1)).toInt (xs (i + 2)).toInt (xs (i + 3)).toInt))]) rfl ?_
  refine lv_pop hx hb dL_law_207 rfl ?_
  refine lv_aload_n hx hb dL_law_208 rfl (lv_at hl 1 rfl) ?_
  refine lw_ld C0 hr (i := i) (k := 1) (n := 1) (lv := []) hl2 rfl (by omega) (by omega) dL_law_209 dL_law_210 dL_law_211 dL_law_212 dL_law_213 ?_
  refine lw_ld C0 hr (i := i) (k := 2) (n := 2) (lv := []) hl2 rfl (by omega) (by omega) dL_law_214 dL_law_215 dL_law_216 dL_law_217 dL_law_218 ?_
  refine lw_ld C0 hr (i := i) (k := 3) (n := 3) (lv := []) hl2 rfl (by omega) (by omega) dL_law_219 dL_law_220 dL_law_221 dL_law_222 dL_law_223 ?_
  refine W.eq (g2 := F0 m 224 Ls ((([(0, (xs (i + 1)).toInt), (0, (xs (i + 2)).toInt), (0, (xs (i + 3)).toInt)] : List zV).map (zg ν s.heap.size)).reverse ++ .ref (s.heap.size + 57) :: [])) (by rw [hv]; rfl) ?_
  refine lw_callV (a := 57) (ci := 8) C0 hK hr (hc F2) zq_X8_sheet e2 (zpos_ok (ps := [1067, 1068, 1069]) (by decide +kernel)) c1 (by decide +kernel) rfl hl.1 (Nat.le_of_ble_eq_true rfl) z2.1 z2.2 dL_law_224 (fun H locs hr => ?_)
  refine W.eq (g2 := F0 m 227 Ls [.int (Int32.ofInt (shA (xs (i + 1)).toInt (xs (i + 2)).toInt (xs (i + 3)).toInt))]) rfl ?_
  refine lv_pop hx hb dL_law_227 rfl ?_
  exact lv_goto (tgt := 1313) hx hb dL_law_228 (by decide) (kk H locs h2 hr ⟨G2, R2, V2, hh2, js2⟩)
theorem lwc_write (C0 : lw_At p s m meth c b L xs) (hK : va_K D vwCl (zty cy) s) (hc : ∀ F : Nat, zCO l D cy ν s.heap.size 8 (zexec zb0 F 8)) {i k : Nat} (hi : i + 5 ≤ L) (hL : L ≤ 2560) (hk : k < 512) {h : zH} (jh : JH h k) {H : Heap} {locs : List Loc} (hr : lwR s D cy ν h H locs) {Ls : Array Slot} (hl : lv_has Ls 4 (lwl b s.heap.size 57 (nI i)))
    (kk : ∀ (H : Heap) (locs : List Loc) (h : zH), lwR s D cy ν h H locs → JH h (k + 1) → W p l e room_1 s m #[Value.ref b] below meth c H locs h.length (zsl h) (lw_Z below #[Value.ref b] s) (F0 m 1313 Ls [])) : W p l e room_1 s m #[Value.ref b] below meth c H locs h.length (zsl h) (lw_Z below #[Value.ref b] s) (F0 m 231 Ls []) := by
  obtain ⟨hx, hb, hr0, hml, hown, hts, hX, hbl, hlocks, hgv⟩ := id C0
  obtain ⟨G, R, V, hh, js⟩ := jh
  obtain ⟨r, h1, G1, R1, V1, hh1, ⟨q1, ⟨o1, m1⟩, w2⟩, F1, ex1⟩ := j_write js hk (x1 := (xs (i + 1)).toInt) (x2 := (xs (i + 2)).toInt) (x3 := (xs (i + 3)).toInt) (i32_x _) (i32_x _) (i32_x _) h hh
  obtain ⟨r2, h2, G2, R2, V2, hh2, ⟨q2, js2⟩, F2, ex2⟩ := w2 h1 hh1
  have e1 := ex1 F1 (Nat.le_refl _) 8 (Nat.le_refl _)
  have e2 := ex2 F2 (Nat.le_refl _) 8 (Nat.le_refl _)
  obtain ⟨f0, c0, -⟩ := hh.2.1 0 7 (JS_room js (by omega)).1
  obtain ⟨f1, c1, -⟩ := hh1.2.1 57 8 o1
  have m2 := (JS_room js2 (by omega)).2
  have z1 : h1.length ≤ 93552 ∧ zsl h1 ≤ 8821594 := ⟨by rw [hh1.1]; exact Nat.le_trans m1.1 (Nat.le_of_ble_eq_true rfl), by rw [zsl_HR hh1]; exact Nat.le_trans m1.2 (Nat.le_of_ble_eq_true rfl)⟩
  have z2 : h2.length ≤ 93552 ∧ zsl h2 ≤ 8821594 := ⟨by rw [hh2.1]; exact Nat.le_trans m2.1 (Nat.le_of_ble_eq_true rfl), by rw [zsl_HR hh2]; exact Nat.le_trans m2.2 (Nat.le_of_ble_eq_true rfl)⟩
  have hv : ([(0, (xs (i + 1)).toInt), (0, (xs (i + 2)).toInt), (0, (xs (i + 3)).toInt)] : List zV).map (zg ν s.heap.size) = [.int (xs (i + 1)), .int (xs (i + 2)), .int (xs (i + 3))] := by simp only [List.map_cons, List.map_nil, zg0, zg2]
  have hl2 := (⟨lv_at hl 3 rfl, lv_at hl 0 rfl⟩ : Ls[0]? = some (.val (.ref b)) ∧ Ls[3]? = some (.val (.int (nI i))))
  subst q1
  subst q2
  refine lv_aload_n hx hb dL_law_231 rfl (lv_at hl 2 rfl) ?_
  refine lw_ld C0 hr (i := i) (k := 1) (n := 1) (lv := []) hl2 rfl (by omega) (by omega) dL_law_232 dL_law_233 dL_law_234 dL_law_235 dL_law_236 ?_
  refine lw_ld C0 hr (i := i) (k := 2) (n := 2) (lv := []) hl2 rfl (by omega) (by omega) dL_law_237 dL_law_238 dL_law_239 dL_law_240 dL_law_241 ?_
  refine lw_ld C0 hr (i := i) (k := 3) (n := 3) (lv := []) hl2 rfl (by omega) (by omega) dL_law_242 dL_law_243 dL_law_244 dL_law_245 dL_law_246 ?_
  refine W.eq (g2 := F0 m 247 Ls ((([(0, (xs (i + 1)).toInt), (0, (xs (i + 2)).toInt), (0, (xs (i + 3)).toInt)] : List zV).map (zg ν s.heap.size)).reverse ++ .ref (s.heap.size + 0) :: [])) (by rw [hv]; rfl) ?_
  refine lw_callV (a := 0) (ci := 7) C0 hK hr (hc F1) zq_X7_write e1 (zpos_ok (ps := [439, 440, 441]) (by decide +kernel)) c0 (by decide +kernel) rfl hl.1 (Nat.le_of_ble_eq_true rfl) z1.1 z1.2 dL_law_247 (fun H locs hr => ?_)
  refine W.eq (g2 := F0 m 250 Ls [.int (Int32.ofInt (wrL (mL V) (xs (i + 1)).toInt (xs (i + 2)).toInt))]) rfl ?_
  refine lv_pop hx hb dL_law_250 rfl ?_
  refine lv_aload_n hx hb dL_law_251 rfl (lv_at hl 1 rfl) ?_
  refine lw_ld C0 hr (i := i) (k := 1) (n := 1) (lv := []) hl2 rfl (by omega) (by omega) dL_law_252 dL_law_253 dL_law_254 dL_law_255 dL_law_256 ?_
  refine lw_ld C0 hr (i := i) (k := 2) (n := 2) (lv := []) hl2 rfl (by omega) (by omega) dL_law_257 dL_law_258 dL_law_259 dL_law_260 dL_law_261 ?_
  refine lw_ld C0 hr (i := i) (k := 3) (n := 3) (lv := []) hl2 rfl (by omega) (by omega) dL_law_262 dL_law_263 dL_law_264 dL_law_265 dL_law_266 ?_
  refine W.eq (g2 := F0 m 267 Ls ((([(0, (xs (i + 1)).toInt), (0, (xs (i + 2)).toInt), (0, (xs (i + 3)).toInt)] : List zV).map (zg ν s.heap.size)).reverse ++ .ref (s.heap.size + 57) :: [])) (by rw [hv]; rfl) ?_
  refine lw_callV (a := 57) (ci := 8) C0 hK hr (hc F2) zq_X8_write e2 (zpos_ok (ps := [1081, 1082, 1083]) (by decide +kernel)) c1 (by decide +kernel) rfl hl.1 (Nat.le_of_ble_eq_true rfl) z2.1 z2.2 dL_law_267 (fun H locs hr => ?_)
  refine W.eq (g2 := F0 m 270 Ls [.int (Int32.ofInt (wrL (mL V) (xs (i + 1)).toInt (xs (i + 2)).toInt))]) rfl ?_
  refine lv_pop hx hb dL_law_270 rfl ?_
  exact lv_goto (tgt := 1313) hx hb dL_law_271 (by decide) (kk H locs h2 hr ⟨G2, R2, V2, hh2, js2⟩)
theorem lwc_group (C0 : lw_At p s m meth c b L xs) (hK : va_K D vwCl (zty cy) s) (hc : ∀ F : Nat, zCO l D cy ν s.heap.size 8 (zexec zb0 F 8)) {i k : Nat} (hi : i + 5 ≤ L) (hL : L ≤ 2560) (hk : k < 512) {h : zH} (jh : JH h k) {H : Heap} {locs : List Loc} (hr : lwR s D cy ν h H locs) {Ls : Array Slot} (hl : lv_has Ls 4 (lwl b s.heap.size 57 (nI i)))
    (kk : ∀ (H : Heap) (locs : List Loc) (h : zH), lwR s D cy ν h H locs → JH h (k + 1) → W p l e room_1 s m #[Value.ref b] below meth c H locs h.length (zsl h) (lw_Z below #[Value.ref b] s) (F0 m 1313 Ls [])) : W p l e room_1 s m #[Value.ref b] below meth c H locs h.length (zsl h) (lw_Z below #[Value.ref b] s) (F0 m 274 Ls []) := by
  obtain ⟨hx, hb, hr0, hml, hown, hts, hX, hbl, hlocks, hgv⟩ := id C0
  obtain ⟨G, R, V, hh, js⟩ := jh
  obtain ⟨r, h1, G1, R1, V1, hh1, ⟨q1, ⟨o1, m1⟩, w2⟩, F1, ex1⟩ := j_group js hk (x1 := (xs (i + 1)).toInt) (i32_x _) h hh
  obtain ⟨r2, h2, G2, R2, V2, hh2, ⟨q2, js2⟩, F2, ex2⟩ := w2 h1 hh1
  have e1 := ex1 F1 (Nat.le_refl _) 8 (Nat.le_refl _)
  have e2 := ex2 F2 (Nat.le_refl _) 8 (Nat.le_refl _)
  obtain ⟨f0, c0, -⟩ := hh.2.1 0 7 (JS_room js (by omega)).1
  obtain ⟨f1, c1, -⟩ := hh1.2.1 57 8 o1
  have m2 := (JS_room js2 (by omega)).2
  have z1 : h1.length ≤ 93552 ∧ zsl h1 ≤ 8821594 := ⟨by rw [hh1.1]; exact Nat.le_trans m1.1 (Nat.le_of_ble_eq_true rfl), by rw [zsl_HR hh1]; exact Nat.le_trans m1.2 (Nat.le_of_ble_eq_true rfl)⟩
  have z2 : h2.length ≤ 93552 ∧ zsl h2 ≤ 8821594 := ⟨by rw [hh2.1]; exact Nat.le_trans m2.1 (Nat.le_of_ble_eq_true rfl), by rw [zsl_HR hh2]; exact Nat.le_trans m2.2 (Nat.le_of_ble_eq_true rfl)⟩
  have hv : ([(0, (xs (i + 1)).toInt)] : List zV).map (zg ν s.heap.size) = [.int (xs (i + 1))] := by simp only [List.map_cons, List.map_nil, zg0, zg2]
  have hl2 := (⟨lv_at hl 3 rfl, lv_at hl 0 rfl⟩ : Ls[0]? = some (.val (.ref b)) ∧ Ls[3]? = some (.val (.int (nI i))))
  subst q1
  subst q2
  refine lv_aload_n hx hb dL_law_274 rfl (lv_at hl 2 rfl) ?_
  refine lw_ld C0 hr (i := i) (k := 1) (n := 1) (lv := []) hl2 rfl (by omega) (by omega) dL_law_275 dL_law_276 dL_law_277 dL_law_278 dL_law_279 ?_
  refine W.eq (g2 := F0 m 280 Ls ((([(0, (xs (i + 1)).toInt)] : List zV).map (zg ν s.heap.size)).reverse ++ .ref (s.heap.size + 0) :: [])) (by rw [hv]; rfl) ?_
  refine lw_callV (a := 0) (ci := 7) C0 hK hr (hc F1) zq_X7_group e1 (zpos_ok (ps := [451, 452, 453]) (by decide +kernel)) c0 (by decide +kernel) rfl hl.1 (Nat.le_of_ble_eq_true rfl) z1.1 z1.2 dL_law_280 (fun H locs hr => ?_)
  refine W.eq (g2 := F0 m 283 Ls [.int (Int32.ofInt (gAX (msf V 57 (xs (i + 1)).toInt) (xs (i + 1)).toInt))]) rfl ?_
  refine lv_pop hx hb dL_law_283 rfl ?_
  refine lv_aload_n hx hb dL_law_284 rfl (lv_at hl 1 rfl) ?_
  refine lw_ld C0 hr (i := i) (k := 1) (n := 1) (lv := []) hl2 rfl (by omega) (by omega) dL_law_285 dL_law_286 dL_law_287 dL_law_288 dL_law_289 ?_
  refine W.eq (g2 := F0 m 290 Ls ((([(0, (xs (i + 1)).toInt)] : List zV).map (zg ν s.heap.size)).reverse ++ .ref (s.heap.size + 57) :: [])) (by rw [hv]; rfl) ?_
  refine lw_callV (a := 57) (ci := 8) C0 hK hr (hc F2) zq_X8_group e2 (zpos_ok (ps := [1284, 1285, 1286]) (by decide +kernel)) c1 (by decide +kernel) rfl hl.1 (Nat.le_of_ble_eq_true rfl) z2.1 z2.2 dL_law_290 (fun H locs hr => ?_)
  refine W.eq (g2 := F0 m 293 Ls [.int (Int32.ofInt (gAX (msf V 57 (xs (i + 1)).toInt) (xs (i + 1)).toInt))]) rfl ?_
  refine lv_pop hx hb dL_law_293 rfl ?_
  exact lv_goto (tgt := 1313) hx hb dL_law_294 (by decide) (kk H locs h2 hr ⟨G2, R2, V2, hh2, js2⟩)
theorem lwc_count (C0 : lw_At p s m meth c b L xs) (hK : va_K D vwCl (zty cy) s) (hc : ∀ F : Nat, zCO l D cy ν s.heap.size 8 (zexec zb0 F 8)) {i k : Nat} (hi : i + 5 ≤ L) (hL : L ≤ 2560) (hk : k < 512) {h : zH} (jh : JH h k) {H : Heap} {locs : List Loc} (hr : lwR s D cy ν h H locs) {Ls : Array Slot} (hl : lv_has Ls 4 (lwl b s.heap.size 57 (nI i)))
    (kk : ∀ (H : Heap) (locs : List Loc) (h : zH), lwR s D cy ν h H locs → JH h (k + 1) → W p l e room_1 s m #[Value.ref b] below meth c H locs h.length (zsl h) (lw_Z below #[Value.ref b] s) (F0 m 1313 Ls [])) : W p l e room_1 s m #[Value.ref b] below meth c H locs h.length (zsl h) (lw_Z below #[Value.ref b] s) (F0 m 297 Ls []) := by
  obtain ⟨hx, hb, hr0, hml, hown, hts, hX, hbl, hlocks, hgv⟩ := id C0
  obtain ⟨G, R, V, hh, js⟩ := jh
  obtain ⟨r, h1, G1, R1, V1, hh1, ⟨q1, ⟨o1, m1⟩, w2⟩, F1, ex1⟩ := j_count js hk (x1 := (xs (i + 1)).toInt) (i32_x _) h hh
  obtain ⟨r2, h2, G2, R2, V2, hh2, ⟨q2, js2⟩, F2, ex2⟩ := w2 h1 hh1
  have e1 := ex1 F1 (Nat.le_refl _) 8 (Nat.le_refl _)
  have e2 := ex2 F2 (Nat.le_refl _) 8 (Nat.le_refl _)
  obtain ⟨f0, c0, -⟩ := hh.2.1 0 7 (JS_room js (by omega)).1
  obtain ⟨f1, c1, -⟩ := hh1.2.1 57 8 o1
  have m2 := (JS_room js2 (by omega)).2
  have z1 : h1.length ≤ 93552 ∧ zsl h1 ≤ 8821594 := ⟨by rw [hh1.1]; exact Nat.le_trans m1.1 (Nat.le_of_ble_eq_true rfl), by rw [zsl_HR hh1]; exact Nat.le_trans m1.2 (Nat.le_of_ble_eq_true rfl)⟩
  have z2 : h2.length ≤ 93552 ∧ zsl h2 ≤ 8821594 := ⟨by rw [hh2.1]; exact Nat.le_trans m2.1 (Nat.le_of_ble_eq_true rfl), by rw [zsl_HR hh2]; exact Nat.le_trans m2.2 (Nat.le_of_ble_eq_true rfl)⟩
  have hv : ([(0, (xs (i + 1)).toInt)] : List zV).map (zg ν s.heap.size) = [.int (xs (i + 1))] := by simp only [List.map_cons, List.map_nil, zg0, zg2]
  have hl2 := (⟨lv_at hl 3 rfl, lv_at hl 0 rfl⟩ : Ls[0]? = some (.val (.ref b)) ∧ Ls[3]? = some (.val (.int (nI i))))
  obtain ⟨v1, rfl⟩ := q1
  obtain ⟨v2, rfl⟩ := q2
  refine lv_aload_n hx hb dL_law_297 rfl (lv_at hl 2 rfl) ?_
  refine lw_ld C0 hr (i := i) (k := 1) (n := 1) (lv := []) hl2 rfl (by omega) (by omega) dL_law_298 dL_law_299 dL_law_300 dL_law_301 dL_law_302 ?_
  refine W.eq (g2 := F0 m 303 Ls ((([(0, (xs (i + 1)).toInt)] : List zV).map (zg ν s.heap.size)).reverse ++ .ref (s.heap.size + 0) :: [])) (by rw [hv]; rfl) ?_
  refine lw_callV (a := 0) (ci := 7) C0 hK hr (hc F1) zq_X7_count e1 (zpos_ok (ps := [666, 667, 668]) (by decide +kernel)) c0 (by decide +kernel) rfl hl.1 (Nat.le_of_ble_eq_true rfl) z1.1 z1.2 dL_law_303 (fun H locs hr => ?_)
  refine W.eq (g2 := F0 m 306 Ls [.int (Int32.ofInt v1)]) rfl ?_
  refine lv_pop hx hb dL_law_306 rfl ?_
  refine lv_aload_n hx hb dL_law_307 rfl (lv_at hl 1 rfl) ?_
  refine lw_ld C0 hr (i := i) (k := 1) (n := 1) (lv := []) hl2 rfl (by omega) (by omega) dL_law_308 dL_law_309 dL_law_310 dL_law_311 dL_law_312 ?_
  refine W.eq (g2 := F0 m 313 Ls ((([(0, (xs (i + 1)).toInt)] : List zV).map (zg ν s.heap.size)).reverse ++ .ref (s.heap.size + 57) :: [])) (by rw [hv]; rfl) ?_
  refine lw_callV (a := 57) (ci := 8) C0 hK hr (hc F2) zq_X8_count e2 (zpos_ok (ps := [1301, 1302, 1303]) (by decide +kernel)) c1 (by decide +kernel) rfl hl.1 (Nat.le_of_ble_eq_true rfl) z2.1 z2.2 dL_law_313 (fun H locs hr => ?_)
  refine W.eq (g2 := F0 m 316 Ls [.int (Int32.ofInt v2)]) rfl ?_
  refine lv_pop hx hb dL_law_316 rfl ?_
  exact lv_goto (tgt := 1313) hx hb dL_law_317 (by decide) (kk H locs h2 hr ⟨G2, R2, V2, hh2, js2⟩)
theorem lwc_turn (C0 : lw_At p s m meth c b L xs) (hK : va_K D vwCl (zty cy) s) (hc : ∀ F : Nat, zCO l D cy ν s.heap.size 8 (zexec zb0 F 8)) {i k : Nat} (hi : i + 5 ≤ L) (hL : L ≤ 2560) (hk : k < 512) {h : zH} (jh : JH h k) {H : Heap} {locs : List Loc} (hr : lwR s D cy ν h H locs) {Ls : Array Slot} (hl : lv_has Ls 4 (lwl b s.heap.size 57 (nI i)))
    (kk : ∀ (H : Heap) (locs : List Loc) (h : zH), lwR s D cy ν h H locs → JH h (k + 1) → W p l e room_1 s m #[Value.ref b] below meth c H locs h.length (zsl h) (lw_Z below #[Value.ref b] s) (F0 m 1313 Ls [])) : W p l e room_1 s m #[Value.ref b] below meth c H locs h.length (zsl h) (lw_Z below #[Value.ref b] s) (F0 m 320 Ls []) := by
  obtain ⟨hx, hb, hr0, hml, hown, hts, hX, hbl, hlocks, hgv⟩ := id C0
  obtain ⟨G, R, V, hh, js⟩ := jh
  obtain ⟨r, h1, G1, R1, V1, hh1, ⟨q1, ⟨o1, m1⟩, w2⟩, F1, ex1⟩ := j_turn js hk (x1 := (xs (i + 1)).toInt) (x2 := (xs (i + 2)).toInt) (i32_x _) (i32_x _) h hh
  obtain ⟨r2, h2, G2, R2, V2, hh2, ⟨q2, js2⟩, F2, ex2⟩ := w2 h1 hh1
  have e1 := ex1 F1 (Nat.le_refl _) 8 (Nat.le_refl _)
  have e2 := ex2 F2 (Nat.le_refl _) 8 (Nat.le_refl _)
  obtain ⟨f0, c0, -⟩ := hh.2.1 0 7 (JS_room js (by omega)).1
  obtain ⟨f1, c1, -⟩ := hh1.2.1 57 8 o1
  have m2 := (JS_room js2 (by omega)).2
  have z1 : h1.length ≤ 93552 ∧ zsl h1 ≤ 8821594 := ⟨by rw [hh1.1]; exact Nat.le_trans m1.1 (Nat.le_of_ble_eq_true rfl), by rw [zsl_HR hh1]; exact Nat.le_trans m1.2 (Nat.le_of_ble_eq_true rfl)⟩
  have z2 : h2.length ≤ 93552 ∧ zsl h2 ≤ 8821594 := ⟨by rw [hh2.1]; exact Nat.le_trans m2.1 (Nat.le_of_ble_eq_true rfl), by rw [zsl_HR hh2]; exact Nat.le_trans m2.2 (Nat.le_of_ble_eq_true rfl)⟩
  have hv : ([(0, (xs (i + 1)).toInt), (0, (xs (i + 2)).toInt)] : List zV).map (zg ν s.heap.size) = [.int (xs (i + 1)), .int (xs (i + 2))] := by simp only [List.map_cons, List.map_nil, zg0, zg2]
  have hl2 := (⟨lv_at hl 3 rfl, lv_at hl 0 rfl⟩ : Ls[0]? = some (.val (.ref b)) ∧ Ls[3]? = some (.val (.int (nI i))))
  subst q1
  subst q2
  refine lv_aload_n hx hb dL_law_320 rfl (lv_at hl 2 rfl) ?_
  refine lw_ld C0 hr (i := i) (k := 1) (n := 1) (lv := []) hl2 rfl (by omega) (by omega) dL_law_321 dL_law_322 dL_law_323 dL_law_324 dL_law_325 ?_
  refine lw_ld C0 hr (i := i) (k := 2) (n := 2) (lv := []) hl2 rfl (by omega) (by omega) dL_law_326 dL_law_327 dL_law_328 dL_law_329 dL_law_330 ?_
  refine W.eq (g2 := F0 m 331 Ls ((([(0, (xs (i + 1)).toInt), (0, (xs (i + 2)).toInt)] : List zV).map (zg ν s.heap.size)).reverse ++ .ref (s.heap.size + 0) :: [])) (by rw [hv]; rfl) ?_
  refine lw_callV (a := 0) (ci := 7) C0 hK hr (hc F1) zq_X7_turn e1 (zpos_ok (ps := [674, 675, 676]) (by decide +kernel)) c0 (by decide +kernel) rfl hl.1 (Nat.le_of_ble_eq_true rfl) z1.1 z1.2 dL_law_331 (fun H locs hr => ?_)
  refine W.eq (g2 := F0 m 334 Ls [.int (Int32.ofInt (rtX V 57 (xs (i + 1)).toInt (xs (i + 2)).toInt))]) rfl ?_
  refine lv_pop hx hb dL_law_334 rfl ?_
  refine lv_aload_n hx hb dL_law_335 rfl (lv_at hl 1 rfl) ?_
  refine lw_ld C0 hr (i := i) (k := 1) (n := 1) (lv := []) hl2 rfl (by omega) (by omega) dL_law_336 dL_law_337 dL_law_338 dL_law_339 dL_law_340 ?_
  refine lw_ld C0 hr (i := i) (k := 2) (n := 2) (lv := []) hl2 rfl (by omega) (by omega) dL_law_341 dL_law_342 dL_law_343 dL_law_344 dL_law_345 ?_
  refine W.eq (g2 := F0 m 346 Ls ((([(0, (xs (i + 1)).toInt), (0, (xs (i + 2)).toInt)] : List zV).map (zg ν s.heap.size)).reverse ++ .ref (s.heap.size + 57) :: [])) (by rw [hv]; rfl) ?_
  refine lw_callV (a := 57) (ci := 8) C0 hK hr (hc F2) zq_X8_turn e2 (zpos_ok (ps := [1305, 1306, 1307]) (by decide +kernel)) c1 (by decide +kernel) rfl hl.1 (Nat.le_of_ble_eq_true rfl) z2.1 z2.2 dL_law_346 (fun H locs hr => ?_)
  refine W.eq (g2 := F0 m 349 Ls [.int (Int32.ofInt (rtX V 57 (xs (i + 1)).toInt (xs (i + 2)).toInt))]) rfl ?_
  refine lv_pop hx hb dL_law_349 rfl ?_
  exact lv_goto (tgt := 1313) hx hb dL_law_350 (by decide) (kk H locs h2 hr ⟨G2, R2, V2, hh2, js2⟩)
theorem lwc_product (C0 : lw_At p s m meth c b L xs) (hK : va_K D vwCl (zty cy) s) (hc : ∀ F : Nat, zCO l D cy ν s.heap.size 8 (zexec zb0 F 8)) {i k : Nat} (hi : i + 5 ≤ L) (hL : L ≤ 2560) (hk : k < 512) {h : zH} (jh : JH h k) {H : Heap} {locs : List Loc} (hr : lwR s D cy ν h H locs) {Ls : Array Slot} (hl : lv_has Ls 4 (lwl b s.heap.size 57 (nI i)))
    (kk : ∀ (H : Heap) (locs : List Loc) (h : zH), lwR s D cy ν h H locs → JH h (k + 1) → W p l e room_1 s m #[Value.ref b] below meth c H locs h.length (zsl h) (lw_Z below #[Value.ref b] s) (F0 m 1313 Ls [])) : W p l e room_1 s m #[Value.ref b] below meth c H locs h.length (zsl h) (lw_Z below #[Value.ref b] s) (F0 m 353 Ls []) := by
  obtain ⟨hx, hb, hr0, hml, hown, hts, hX, hbl, hlocks, hgv⟩ := id C0
  obtain ⟨G, R, V, hh, js⟩ := jh
  obtain ⟨r, h1, G1, R1, V1, hh1, ⟨q1, ⟨o1, m1⟩, w2⟩, F1, ex1⟩ := j_product js hk (x1 := (xs (i + 1)).toInt) (x2 := (xs (i + 2)).toInt) (i32_x _) (i32_x _) h hh
  obtain ⟨r2, h2, G2, R2, V2, hh2, ⟨q2, js2⟩, F2, ex2⟩ := w2 h1 hh1
  have e1 := ex1 F1 (Nat.le_refl _) 8 (Nat.le_refl _)
  have e2 := ex2 F2 (Nat.le_refl _) 8 (Nat.le_refl _)
  obtain ⟨f0, c0, -⟩ := hh.2.1 0 7 (JS_room js (by omega)).1
  obtain ⟨f1, c1, -⟩ := hh1.2.1 57 8 o1
  have m2 := (JS_room js2 (by omega)).2
  have z1 : h1.length ≤ 93552 ∧ zsl h1 ≤ 8821594 := ⟨by rw [hh1.1]; exact Nat.le_trans m1.1 (Nat.le_of_ble_eq_true rfl), by rw [zsl_HR hh1]; exact Nat.le_trans m1.2 (Nat.le_of_ble_eq_true rfl)⟩
  have z2 : h2.length ≤ 93552 ∧ zsl h2 ≤ 8821594 := ⟨by rw [hh2.1]; exact Nat.le_trans m2.1 (Nat.le_of_ble_eq_true rfl), by rw [zsl_HR hh2]; exact Nat.le_trans m2.2 (Nat.le_of_ble_eq_true rfl)⟩
  have hv : ([(0, (xs (i + 1)).toInt), (0, (xs (i + 2)).toInt)] : List zV).map (zg ν s.heap.size) = [.int (xs (i + 1)), .int (xs (i + 2))] := by simp only [List.map_cons, List.map_nil, zg0, zg2]
  have hl2 := (⟨lv_at hl 3 rfl, lv_at hl 0 rfl⟩ : Ls[0]? = some (.val (.ref b)) ∧ Ls[3]? = some (.val (.int (nI i))))
  subst q1
  subst q2
  refine lv_aload_n hx hb dL_law_353 rfl (lv_at hl 2 rfl) ?_
  refine lw_ld C0 hr (i := i) (k := 1) (n := 1) (lv := []) hl2 rfl (by omega) (by omega) dL_law_354 dL_law_355 dL_law_356 dL_law_357 dL_law_358 ?_
  refine lw_ld C0 hr (i := i) (k := 2) (n := 2) (lv := []) hl2 rfl (by omega) (by omega) dL_law_359 dL_law_360 dL_law_361 dL_law_362 dL_law_363 ?_
  refine W.eq (g2 := F0 m 364 Ls ((([(0, (xs (i + 1)).toInt), (0, (xs (i + 2)).toInt)] : List zV).map (zg ν s.heap.size)).reverse ++ .ref (s.heap.size + 0) :: [])) (by rw [hv]; rfl) ?_
  refine lw_callV (a := 0) (ci := 7) C0 hK hr (hc F1) zq_X7_product e1 (zpos_ok (ps := [682, 683, 684]) (by decide +kernel)) c0 (by decide +kernel) rfl hl.1 (Nat.le_of_ble_eq_true rfl) z1.1 z1.2 dL_law_364 (fun H locs hr => ?_)
  refine W.eq (g2 := F0 m 367 Ls [.int (Int32.ofInt (rmX V 57 (xs (i + 1)).toInt (xs (i + 2)).toInt))]) rfl ?_
  refine lv_pop hx hb dL_law_367 rfl ?_
  refine lv_aload_n hx hb dL_law_368 rfl (lv_at hl 1 rfl) ?_
  refine lw_ld C0 hr (i := i) (k := 1) (n := 1) (lv := []) hl2 rfl (by omega) (by omega) dL_law_369 dL_law_370 dL_law_371 dL_law_372 dL_law_373 ?_
  refine lw_ld C0 hr (i := i) (k := 2) (n := 2) (lv := []) hl2 rfl (by omega) (by omega) dL_law_374 dL_law_375 dL_law_376 dL_law_377 dL_law_378 ?_
  refine W.eq (g2 := F0 m 379 Ls ((([(0, (xs (i + 1)).toInt), (0, (xs (i + 2)).toInt)] : List zV).map (zg ν s.heap.size)).reverse ++ .ref (s.heap.size + 57) :: [])) (by rw [hv]; rfl) ?_
  refine lw_callV (a := 57) (ci := 8) C0 hK hr (hc F2) zq_X8_product e2 (zpos_ok (ps := [1313, 1314, 1315]) (by decide +kernel)) c1 (by decide +kernel) rfl hl.1 (Nat.le_of_ble_eq_true rfl) z2.1 z2.2 dL_law_379 (fun H locs hr => ?_)
  refine W.eq (g2 := F0 m 382 Ls [.int (Int32.ofInt (rmX V 57 (xs (i + 1)).toInt (xs (i + 2)).toInt))]) rfl ?_
  refine lv_pop hx hb dL_law_382 rfl ?_
  exact lv_goto (tgt := 1313) hx hb dL_law_383 (by decide) (kk H locs h2 hr ⟨G2, R2, V2, hh2, js2⟩)
theorem lwc_ofTurn (C0 : lw_At p s m meth c b L xs) (hK : va_K D vwCl (zty cy) s) (hc : ∀ F : Nat, zCO l D cy ν s.heap.size 8 (zexec zb0 F 8)) {i k : Nat} (hi : i + 5 ≤ L) (hL : L ≤ 2560) (hk : k < 512) {h : zH} (jh : JH h k) {H : Heap} {locs : List Loc} (hr : lwR s D cy ν h H locs) {Ls : Array Slot} (hl : lv_has Ls 4 (lwl b s.heap.size 57 (nI i)))
    (kk : ∀ (H : Heap) (locs : List Loc) (h : zH), lwR s D cy ν h H locs → JH h (k + 1) → W p l e room_1 s m #[Value.ref b] below meth c H locs h.length (zsl h) (lw_Z below #[Value.ref b] s) (F0 m 1313 Ls [])) : W p l e room_1 s m #[Value.ref b] below meth c H locs h.length (zsl h) (lw_Z below #[Value.ref b] s) (F0 m 386 Ls []) := by
  obtain ⟨hx, hb, hr0, hml, hown, hts, hX, hbl, hlocks, hgv⟩ := id C0
  obtain ⟨G, R, V, hh, js⟩ := jh
  obtain ⟨r, h1, G1, R1, V1, hh1, ⟨q1, ⟨o1, m1⟩, w2⟩, F1, ex1⟩ := j_ofTurn js hk (x1 := (xs (i + 1)).toInt) (x2 := (xs (i + 2)).toInt) (i32_x _) (i32_x _) h hh
  obtain ⟨r2, h2, G2, R2, V2, hh2, ⟨q2, js2⟩, F2, ex2⟩ := w2 h1 hh1
  have e1 := ex1 F1 (Nat.le_refl _) 8 (Nat.le_refl _)
  have e2 := ex2 F2 (Nat.le_refl _) 8 (Nat.le_refl _)
  obtain ⟨f0, c0, -⟩ := hh.2.1 0 7 (JS_room js (by omega)).1
  obtain ⟨f1, c1, -⟩ := hh1.2.1 57 8 o1
  have m2 := (JS_room js2 (by omega)).2
  have z1 : h1.length ≤ 93552 ∧ zsl h1 ≤ 8821594 := ⟨by rw [hh1.1]; exact Nat.le_trans m1.1 (Nat.le_of_ble_eq_true rfl), by rw [zsl_HR hh1]; exact Nat.le_trans m1.2 (Nat.le_of_ble_eq_true rfl)⟩
  have z2 : h2.length ≤ 93552 ∧ zsl h2 ≤ 8821594 := ⟨by rw [hh2.1]; exact Nat.le_trans m2.1 (Nat.le_of_ble_eq_true rfl), by rw [zsl_HR hh2]; exact Nat.le_trans m2.2 (Nat.le_of_ble_eq_true rfl)⟩
  have hv : ([(0, (xs (i + 1)).toInt), (0, (xs (i + 2)).toInt)] : List zV).map (zg ν s.heap.size) = [.int (xs (i + 1)), .int (xs (i + 2))] := by simp only [List.map_cons, List.map_nil, zg0, zg2]
  have hl2 := (⟨lv_at hl 3 rfl, lv_at hl 0 rfl⟩ : Ls[0]? = some (.val (.ref b)) ∧ Ls[3]? = some (.val (.int (nI i))))
  subst q1
  subst q2
  refine lv_aload_n hx hb dL_law_386 rfl (lv_at hl 2 rfl) ?_
  refine lw_ld C0 hr (i := i) (k := 1) (n := 1) (lv := []) hl2 rfl (by omega) (by omega) dL_law_387 dL_law_388 dL_law_389 dL_law_390 dL_law_391 ?_
  refine lw_ld C0 hr (i := i) (k := 2) (n := 2) (lv := []) hl2 rfl (by omega) (by omega) dL_law_392 dL_law_393 dL_law_394 dL_law_395 dL_law_396 ?_
  refine W.eq (g2 := F0 m 397 Ls ((([(0, (xs (i + 1)).toInt), (0, (xs (i + 2)).toInt)] : List zV).map (zg ν s.heap.size)).reverse ++ .ref (s.heap.size + 0) :: [])) (by rw [hv]; rfl) ?_
  refine lw_callV (a := 0) (ci := 7) C0 hK hr (hc F1) zq_X7_ofTurn e1 (zpos_ok (ps := [687, 688, 689]) (by decide +kernel)) c0 (by decide +kernel) rfl hl.1 (Nat.le_of_ble_eq_true rfl) z1.1 z1.2 dL_law_397 (fun H locs hr => ?_)
  refine W.eq (g2 := F0 m 400 Ls [.int (Int32.ofInt (the (rotP V 57 (xs (i + 1)).toInt (xs (i + 2)).toInt)))]) rfl ?_
  refine lv_pop hx hb dL_law_400 rfl ?_
  refine lv_aload_n hx hb dL_law_401 rfl (lv_at hl 1 rfl) ?_
  refine lw_ld C0 hr (i := i) (k := 1) (n := 1) (lv := []) hl2 rfl (by omega) (by omega) dL_law_402 dL_law_403 dL_law_404 dL_law_405 dL_law_406 ?_
  refine lw_ld C0 hr (i := i) (k := 2) (n := 2) (lv := []) hl2 rfl (by omega) (by omega) dL_law_407 dL_law_408 dL_law_409 dL_law_410 dL_law_411 ?_
  refine W.eq (g2 := F0 m 412 Ls ((([(0, (xs (i + 1)).toInt), (0, (xs (i + 2)).toInt)] : List zV).map (zg ν s.heap.size)).reverse ++ .ref (s.heap.size + 57) :: [])) (by rw [hv]; rfl) ?_
  refine lw_callV (a := 57) (ci := 8) C0 hK hr (hc F2) zq_X8_ofTurn e2 (zpos_ok (ps := [1317, 1318, 1319]) (by decide +kernel)) c1 (by decide +kernel) rfl hl.1 (Nat.le_of_ble_eq_true rfl) z2.1 z2.2 dL_law_412 (fun H locs hr => ?_)
  refine W.eq (g2 := F0 m 415 Ls [.int (Int32.ofInt (the (rotP V 57 (xs (i + 1)).toInt (xs (i + 2)).toInt)))]) rfl ?_
  refine lv_pop hx hb dL_law_415 rfl ?_
  exact lv_goto (tgt := 1313) hx hb dL_law_416 (by decide) (kk H locs h2 hr ⟨G2, R2, V2, hh2, js2⟩)
theorem lwc_heap (C0 : lw_At p s m meth c b L xs) (hK : va_K D vwCl (zty cy) s) (hc : ∀ F : Nat, zCO l D cy ν s.heap.size 8 (zexec zb0 F 8)) {i k : Nat} (hi : i + 5 ≤ L) (hL : L ≤ 2560) (hk : k < 512) {h : zH} (jh : JH h k) {H : Heap} {locs : List Loc} (hr : lwR s D cy ν h H locs) {Ls : Array Slot} (hl : lv_has Ls 4 (lwl b s.heap.size 57 (nI i)))
    (kk : ∀ (H : Heap) (locs : List Loc) (h : zH), lwR s D cy ν h H locs → JH h (k + 1) → W p l e room_1 s m #[Value.ref b] below meth c H locs h.length (zsl h) (lw_Z below #[Value.ref b] s) (F0 m 1313 Ls [])) : W p l e room_1 s m #[Value.ref b] below meth c H locs h.length (zsl h) (lw_Z below #[Value.ref b] s) (F0 m 419 Ls []) := by
  obtain ⟨hx, hb, hr0, hml, hown, hts, hX, hbl, hlocks, hgv⟩ := id C0
  obtain ⟨G, R, V, hh, js⟩ := jh
  obtain ⟨r, h1, G1, R1, V1, hh1, ⟨q1, ⟨o1, m1⟩, w2⟩, F1, ex1⟩ := j_heap js hk (x1 := (xs (i + 1)).toInt) (x2 := (xs (i + 2)).toInt) (i32_x _) (i32_x _) h hh
  obtain ⟨r2, h2, G2, R2, V2, hh2, ⟨q2, js2⟩, F2, ex2⟩ := w2 h1 hh1
  have e1 := ex1 F1 (Nat.le_refl _) 8 (Nat.le_refl _)
  have e2 := ex2 F2 (Nat.le_refl _) 8 (Nat.le_refl _)
  obtain ⟨f0, c0, -⟩ := hh.2.1 0 7 (JS_room js (by omega)).1
  obtain ⟨f1, c1, -⟩ := hh1.2.1 57 8 o1
  have m2 := (JS_room js2 (by omega)).2
  have z1 : h1.length ≤ 93552 ∧ zsl h1 ≤ 8821594 := ⟨by rw [hh1.1]; exact Nat.le_trans m1.1 (Nat.le_of_ble_eq_true rfl), by rw [zsl_HR hh1]; exact Nat.le_trans m1.2 (Nat.le_of_ble_eq_true rfl)⟩
  have z2 : h2.length ≤ 93552 ∧ zsl h2 ≤ 8821594 := ⟨by rw [hh2.1]; exact Nat.le_trans m2.1 (Nat.le_of_ble_eq_true rfl), by rw [zsl_HR hh2]; exact Nat.le_trans m2.2 (Nat.le_of_ble_eq_true rfl)⟩
  have hv : ([(0, (xs (i + 1)).toInt), (0, (xs (i + 2)).toInt)] : List zV).map (zg ν s.heap.size) = [.int (xs (i + 1)), .int (xs (i + 2))] := by simp only [List.map_cons, List.map_nil, zg0, zg2]
  have hl2 := (⟨lv_at hl 3 rfl, lv_at hl 0 rfl⟩ : Ls[0]? = some (.val (.ref b)) ∧ Ls[3]? = some (.val (.int (nI i))))
  subst q1
  subst q2
  refine lv_aload_n hx hb dL_law_419 rfl (lv_at hl 2 rfl) ?_
  refine lw_ld C0 hr (i := i) (k := 1) (n := 1) (lv := []) hl2 rfl (by omega) (by omega) dL_law_420 dL_law_421 dL_law_422 dL_law_423 dL_law_424 ?_
  refine lw_ld C0 hr (i := i) (k := 2) (n := 2) (lv := []) hl2 rfl (by omega) (by omega) dL_law_425 dL_law_426 dL_law_427 dL_law_428 dL_law_429 ?_
  refine W.eq (g2 := F0 m 430 Ls ((([(0, (xs (i + 1)).toInt), (0, (xs (i + 2)).toInt)] : List zV).map (zg ν s.heap.size)).reverse ++ .ref (s.heap.size + 0) :: [])) (by rw [hv]; rfl) ?_
  refine lw_callV (a := 0) (ci := 7) C0 hK hr (hc F1) zq_X7_heap e1 (zpos_ok (ps := [695, 696, 697]) (by decide +kernel)) c0 (by decide +kernel) rfl hl.1 (Nat.le_of_ble_eq_true rfl) z1.1 z1.2 dL_law_430 (fun H locs hr => ?_)
  refine W.eq (g2 := F0 m 433 Ls [.int (Int32.ofInt (the (rhpP V 57 (xs (i + 1)).toInt (xs (i + 2)).toInt)))]) rfl ?_
  refine lv_pop hx hb dL_law_433 rfl ?_
  refine lv_aload_n hx hb dL_law_434 rfl (lv_at hl 1 rfl) ?_
  refine lw_ld C0 hr (i := i) (k := 1) (n := 1) (lv := []) hl2 rfl (by omega) (by omega) dL_law_435 dL_law_436 dL_law_437 dL_law_438 dL_law_439 ?_
  refine lw_ld C0 hr (i := i) (k := 2) (n := 2) (lv := []) hl2 rfl (by omega) (by omega) dL_law_440 dL_law_441 dL_law_442 dL_law_443 dL_law_444 ?_
  refine W.eq (g2 := F0 m 445 Ls ((([(0, (xs (i + 1)).toInt), (0, (xs (i + 2)).toInt)] : List zV).map (zg ν s.heap.size)).reverse ++ .ref (s.heap.size + 57) :: [])) (by rw [hv]; rfl) ?_
  refine lw_callV (a := 57) (ci := 8) C0 hK hr (hc F2) zq_X8_heap e2 (zpos_ok (ps := [1337, 1338, 1339]) (by decide +kernel)) c1 (by decide +kernel) rfl hl.1 (Nat.le_of_ble_eq_true rfl) z2.1 z2.2 dL_law_445 (fun H locs hr => ?_)
  refine W.eq (g2 := F0 m 448 Ls [.int (Int32.ofInt (the (rhpP V 57 (xs (i + 1)).toInt (xs (i + 2)).toInt)))]) rfl ?_
  refine lv_pop hx hb dL_law_448 rfl ?_
  exact lv_goto (tgt := 1313) hx hb dL_law_449 (by decide) (kk H locs h2 hr ⟨G2, R2, V2, hh2, js2⟩)
theorem lwc_has (C0 : lw_At p s m meth c b L xs) (hK : va_K D vwCl (zty cy) s) (hc : ∀ F : Nat, zCO l D cy ν s.heap.size 8 (zexec zb0 F 8)) {i k : Nat} (hi : i + 5 ≤ L) (hL : L ≤ 2560) (hk : k < 512) {h : zH} (jh : JH h k) {H : Heap} {locs : List Loc} (hr : lwR s D cy ν h H locs) {Ls : Array Slot} (hl : lv_has Ls 4 (lwl b s.heap.size 57 (nI i)))
    (kk : ∀ (H : Heap) (locs : List Loc) (h : zH), lwR s D cy ν h H locs → JH h (k + 1) → W p l e room_1 s m #[Value.ref b] below meth c H locs h.length (zsl h) (lw_Z below #[Value.ref b] s) (F0 m 1313 Ls [])) : W p l e room_1 s m #[Value.ref b] below meth c H locs h.length (zsl h) (lw_Z below #[Value.ref b] s) (F0 m 452 Ls []) := by
  obtain ⟨hx, hb, hr0, hml, hown, hts, hX, hbl, hlocks, hgv⟩ := id C0
  obtain ⟨G, R, V, hh, js⟩ := jh
  obtain ⟨r, h1, G1, R1, V1, hh1, ⟨q1, ⟨o1, m1⟩, w2⟩, F1, ex1⟩ := j_has js hk (x1 := (xs (i + 1)).toInt) (x2 := (xs (i + 2)).toInt) (i32_x _) (i32_x _) h hh
  obtain ⟨r2, h2, G2, R2, V2, hh2, ⟨q2, js2⟩, F2, ex2⟩ := w2 h1 hh1
  have e1 := ex1 F1 (Nat.le_refl _) 8 (Nat.le_refl _)
  have e2 := ex2 F2 (Nat.le_refl _) 8 (Nat.le_refl _)
  obtain ⟨f0, c0, -⟩ := hh.2.1 0 7 (JS_room js (by omega)).1
  obtain ⟨f1, c1, -⟩ := hh1.2.1 57 8 o1
  have m2 := (JS_room js2 (by omega)).2
  have z1 : h1.length ≤ 93552 ∧ zsl h1 ≤ 8821594 := ⟨by rw [hh1.1]; exact Nat.le_trans m1.1 (Nat.le_of_ble_eq_true rfl), by rw [zsl_HR hh1]; exact Nat.le_trans m1.2 (Nat.le_of_ble_eq_true rfl)⟩
  have z2 : h2.length ≤ 93552 ∧ zsl h2 ≤ 8821594 := ⟨by rw [hh2.1]; exact Nat.le_trans m2.1 (Nat.le_of_ble_eq_true rfl), by rw [zsl_HR hh2]; exact Nat.le_trans m2.2 (Nat.le_of_ble_eq_true rfl)⟩
  have hv : ([(0, (xs (i + 1)).toInt), (0, (xs (i + 2)).toInt)] : List zV).map (zg ν s.heap.size) = [.int (xs (i + 1)), .int (xs (i + 2))] := by simp only [List.map_cons, List.map_nil, zg0, zg2]
  have hl2 := (⟨lv_at hl 3 rfl, lv_at hl 0 rfl⟩ : Ls[0]? = some (.val (.ref b)) ∧ Ls[3]? = some (.val (.int (nI i))))
  subst q1
  subst q2
  refine lv_aload_n hx hb dL_law_452 rfl (lv_at hl 2 rfl) ?_
  refine lw_ld C0 hr (i := i) (k := 1) (n := 1) (lv := []) hl2 rfl (by omega) (by omega) dL_law_453 dL_law_454 dL_law_455 dL_law_456 dL_law_457 ?_
  refine lw_ld C0 hr (i := i) (k := 2) (n := 2) (lv := []) hl2 rfl (by omega) (by omega) dL_law_458 dL_law_459 dL_law_460 dL_law_461 dL_law_462 ?_
  refine W.eq (g2 := F0 m 463 Ls ((([(0, (xs (i + 1)).toInt), (0, (xs (i + 2)).toInt)] : List zV).map (zg ν s.heap.size)).reverse ++ .ref (s.heap.size + 0) :: [])) (by rw [hv]; rfl) ?_
  refine lw_callV (a := 0) (ci := 7) C0 hK hr (hc F1) zq_X7_has e1 (zpos_ok (ps := [756, 757, 758]) (by decide +kernel)) c0 (by decide +kernel) rfl hl.1 (Nat.le_of_ble_eq_true rfl) z1.1 z1.2 dL_law_463 (fun H locs hr => ?_)
  refine W.eq (g2 := F0 m 466 Ls [.int (Int32.ofInt (rhX V 57 (xs (i + 1)).toInt (xs (i + 2)).toInt))]) rfl ?_
  refine lv_pop hx hb dL_law_466 rfl ?_
  refine lv_aload_n hx hb dL_law_467 rfl (lv_at hl 1 rfl) ?_
  refine lw_ld C0 hr (i := i) (k := 1) (n := 1) (lv := []) hl2 rfl (by omega) (by omega) dL_law_468 dL_law_469 dL_law_470 dL_law_471 dL_law_472 ?_
  refine lw_ld C0 hr (i := i) (k := 2) (n := 2) (lv := []) hl2 rfl (by omega) (by omega) dL_law_473 dL_law_474 dL_law_475 dL_law_476 dL_law_477 ?_
  refine W.eq (g2 := F0 m 478 Ls ((([(0, (xs (i + 1)).toInt), (0, (xs (i + 2)).toInt)] : List zV).map (zg ν s.heap.size)).reverse ++ .ref (s.heap.size + 57) :: [])) (by rw [hv]; rfl) ?_
  refine lw_callV (a := 57) (ci := 8) C0 hK hr (hc F2) zq_X8_has e2 (zpos_ok (ps := [1370, 1371, 1372]) (by decide +kernel)) c1 (by decide +kernel) rfl hl.1 (Nat.le_of_ble_eq_true rfl) z2.1 z2.2 dL_law_478 (fun H locs hr => ?_)
  refine W.eq (g2 := F0 m 481 Ls [.int (Int32.ofInt (rhX V 57 (xs (i + 1)).toInt (xs (i + 2)).toInt))]) rfl ?_
  refine lv_pop hx hb dL_law_481 rfl ?_
  exact lv_goto (tgt := 1313) hx hb dL_law_482 (by decide) (kk H locs h2 hr ⟨G2, R2, V2, hh2, js2⟩)
theorem lwc_join (C0 : lw_At p s m meth c b L xs) (hK : va_K D vwCl (zty cy) s) (hc : ∀ F : Nat, zCO l D cy ν s.heap.size 8 (zexec zb0 F 8)) {i k : Nat} (hi : i + 5 ≤ L) (hL : L ≤ 2560) (hk : k < 512) {h : zH} (jh : JH h k) {H : Heap} {locs : List Loc} (hr : lwR s D cy ν h H locs) {Ls : Array Slot} (hl : lv_has Ls 4 (lwl b s.heap.size 57 (nI i)))
    (kk : ∀ (H : Heap) (locs : List Loc) (h : zH), lwR s D cy ν h H locs → JH h (k + 1) → W p l e room_1 s m #[Value.ref b] below meth c H locs h.length (zsl h) (lw_Z below #[Value.ref b] s) (F0 m 1313 Ls [])) : W p l e room_1 s m #[Value.ref b] below meth c H locs h.length (zsl h) (lw_Z below #[Value.ref b] s) (F0 m 485 Ls []) := by
  obtain ⟨hx, hb, hr0, hml, hown, hts, hX, hbl, hlocks, hgv⟩ := id C0
  obtain ⟨G, R, V, hh, js⟩ := jh
  obtain ⟨r, h1, G1, R1, V1, hh1, ⟨q1, ⟨o1, m1⟩, w2⟩, F1, ex1⟩ := j_join js hk (x1 := (xs (i + 1)).toInt) (x2 := (xs (i + 2)).toInt) (x3 := (xs (i + 3)).toInt) (i32_x _) (i32_x _) (i32_x _) h hh
  obtain ⟨r2, h2, G2, R2, V2, hh2, ⟨q2, js2⟩, F2, ex2⟩ := w2 h1 hh1
  have e1 := ex1 F1 (Nat.le_refl _) 8 (Nat.le_refl _)
  have e2 := ex2 F2 (Nat.le_refl _) 8 (Nat.le_refl _)
  obtain ⟨f0, c0, -⟩ := hh.2.1 0 7 (JS_room js (by omega)).1
  obtain ⟨f1, c1, -⟩ := hh1.2.1 57 8 o1
  have m2 := (JS_room js2 (by omega)).2
  have z1 : h1.length ≤ 93552 ∧ zsl h1 ≤ 8821594 := ⟨by rw [hh1.1]; exact Nat.le_trans m1.1 (Nat.le_of_ble_eq_true rfl), by rw [zsl_HR hh1]; exact Nat.le_trans m1.2 (Nat.le_of_ble_eq_true rfl)⟩
  have z2 : h2.length ≤ 93552 ∧ zsl h2 ≤ 8821594 := ⟨by rw [hh2.1]; exact Nat.le_trans m2.1 (Nat.le_of_ble_eq_true rfl), by rw [zsl_HR hh2]; exact Nat.le_trans m2.2 (Nat.le_of_ble_eq_true rfl)⟩
  have hv : ([(0, (xs (i + 1)).toInt), (0, (xs (i + 2)).toInt), (0, (xs (i + 3)).toInt)] : List zV).map (zg ν s.heap.size) = [.int (xs (i + 1)), .int (xs (i + 2)), .int (xs (i + 3))] := by simp only [List.map_cons, List.map_nil, zg0, zg2]
  have hl2 := (⟨lv_at hl 3 rfl, lv_at hl 0 rfl⟩ : Ls[0]? = some (.val (.ref b)) ∧ Ls[3]? = some (.val (.int (nI i))))
  subst q1
  subst q2
  refine lv_aload_n hx hb dL_law_485 rfl (lv_at hl 2 rfl) ?_
  refine lw_ld C0 hr (i := i) (k := 1) (n := 1) (lv := []) hl2 rfl (by omega) (by omega) dL_law_486 dL_law_487 dL_law_488 dL_law_489 dL_law_490 ?_
  refine lw_ld C0 hr (i := i) (k := 2) (n := 2) (lv := []) hl2 rfl (by omega) (by omega) dL_law_491 dL_law_492 dL_law_493 dL_law_494 dL_law_495 ?_
  refine lw_ld C0 hr (i := i) (k := 3) (n := 3) (lv := []) hl2 rfl (by omega) (by omega) dL_law_496 dL_law_497 dL_law_498 dL_law_499 dL_law_500 ?_
  refine W.eq (g2 := F0 m 501 Ls ((([(0, (xs (i + 1)).toInt), (0, (xs (i + 2)).toInt), (0, (xs (i + 3)).toInt)] : List zV).map (zg ν s.heap.size)).reverse ++ .ref (s.heap.size + 0) :: [])) (by rw [hv]; rfl) ?_
  refine lw_callV (a := 0) (ci := 7) C0 hK hr (hc F1) zq_X7_join e1 (zpos_ok (ps := [761, 762, 763]) (by decide +kernel)) c0 (by decide +kernel) rfl hl.1 (Nat.le_of_ble_eq_true rfl) z1.1 z1.2 dL_law_501 (fun H locs hr => ?_)
  refine W.eq (g2 := F0 m 504 Ls [.int (Int32.ofInt (the (jnP (V 57 5) (V 57 12) (mHas V 57) (xs (i + 1)).toInt (xs (i + 2)).toInt (xs (i + 3)).toInt)))]) rfl ?_
  refine lv_pop hx hb dL_law_504 rfl ?_
  refine lv_aload_n hx hb dL_law_505 rfl (lv_at hl 1 rfl) ?_
  refine lw_ld C0 hr (i := i) (k := 1) (n := 1) (lv := []) hl2 rfl (by omega) (by omega) dL_law_506 dL_law_507 dL_law_508 dL_law_509 dL_law_510 ?_
  refine lw_ld C0 hr (i := i) (k := 2) (n := 2) (lv := []) hl2 rfl (by omega) (by omega) dL_law_511 dL_law_512 dL_law_513 dL_law_514 dL_law_515 ?_
  refine lw_ld C0 hr (i := i) (k := 3) (n := 3) (lv := []) hl2 rfl (by omega) (by omega) dL_law_516 dL_law_517 dL_law_518 dL_law_519 dL_law_520 ?_
  refine W.eq (g2 := F0 m 521 Ls ((([(0, (xs (i + 1)).toInt), (0, (xs (i + 2)).toInt), (0, (xs (i + 3)).toInt)] : List zV).map (zg ν s.heap.size)).reverse ++ .ref (s.heap.size + 57) :: [])) (by rw [hv]; rfl) ?_
  refine lw_callV (a := 57) (ci := 8) C0 hK hr (hc F2) zq_X8_join e2 (zpos_ok (ps := [1374, 1375, 1376]) (by decide +kernel)) c1 (by decide +kernel) rfl hl.1 (Nat.le_of_ble_eq_true rfl) z2.1 z2.2 dL_law_521 (fun H locs hr => ?_)
  refine W.eq (g2 := F0 m 524 Ls [.int (Int32.ofInt (the (jnP (V 57 5) (V 57 12) (mHas V 57) (xs (i + 1)).toInt (xs (i + 2)).toInt (xs (i + 3)).toInt)))]) rfl ?_
  refine lv_pop hx hb dL_law_524 rfl ?_
  exact lv_goto (tgt := 1313) hx hb dL_law_525 (by decide) (kk H locs h2 hr ⟨G2, R2, V2, hh2, js2⟩)
theorem lwc_ofClass (C0 : lw_At p s m meth c b L xs) (hK : va_K D vwCl (zty cy) s) (hc : ∀ F : Nat, zCO l D cy ν s.heap.size 8 (zexec zb0 F 8)) {i k : Nat} (hi : i + 5 ≤ L) (hL : L ≤ 2560) (hk : k < 512) {h : zH} (jh : JH h k) {H : Heap} {locs : List Loc} (hr : lwR s D cy ν h H locs) {Ls : Array Slot} (hl : lv_has Ls 4 (lwl b s.heap.size 57 (nI i)))
    (kk : ∀ (H : Heap) (locs : List Loc) (h : zH), lwR s D cy ν h H locs → JH h (k + 1) → W p l e room_1 s m #[Value.ref b] below meth c H locs h.length (zsl h) (lw_Z below #[Value.ref b] s) (F0 m 1313 Ls [])) : W p l e room_1 s m #[Value.ref b] below meth c H locs h.length (zsl h) (lw_Z below #[Value.ref b] s) (F0 m 528 Ls []) := by
  obtain ⟨hx, hb, hr0, hml, hown, hts, hX, hbl, hlocks, hgv⟩ := id C0
  obtain ⟨G, R, V, hh, js⟩ := jh
  obtain ⟨r, h1, G1, R1, V1, hh1, ⟨q1, ⟨o1, m1⟩, w2⟩, F1, ex1⟩ := j_ofClass js hk (x1 := (xs (i + 1)).toInt) (x2 := (xs (i + 2)).toInt) (i32_x _) (i32_x _) h hh
  obtain ⟨r2, h2, G2, R2, V2, hh2, ⟨q2, js2⟩, F2, ex2⟩ := w2 h1 hh1
  have e1 := ex1 F1 (Nat.le_refl _) 8 (Nat.le_refl _)
  have e2 := ex2 F2 (Nat.le_refl _) 8 (Nat.le_refl _)
  obtain ⟨f0, c0, -⟩ := hh.2.1 0 7 (JS_room js (by omega)).1
  obtain ⟨f1, c1, -⟩ := hh1.2.1 57 8 o1
  have m2 := (JS_room js2 (by omega)).2
  have z1 : h1.length ≤ 93552 ∧ zsl h1 ≤ 8821594 := ⟨by rw [hh1.1]; exact Nat.le_trans m1.1 (Nat.le_of_ble_eq_true rfl), by rw [zsl_HR hh1]; exact Nat.le_trans m1.2 (Nat.le_of_ble_eq_true rfl)⟩
  have z2 : h2.length ≤ 93552 ∧ zsl h2 ≤ 8821594 := ⟨by rw [hh2.1]; exact Nat.le_trans m2.1 (Nat.le_of_ble_eq_true rfl), by rw [zsl_HR hh2]; exact Nat.le_trans m2.2 (Nat.le_of_ble_eq_true rfl)⟩
  have hv : ([(0, (xs (i + 1)).toInt), (0, (xs (i + 2)).toInt)] : List zV).map (zg ν s.heap.size) = [.int (xs (i + 1)), .int (xs (i + 2))] := by simp only [List.map_cons, List.map_nil, zg0, zg2]
  have hl2 := (⟨lv_at hl 3 rfl, lv_at hl 0 rfl⟩ : Ls[0]? = some (.val (.ref b)) ∧ Ls[3]? = some (.val (.int (nI i))))
  subst q1
  subst q2
  refine lv_aload_n hx hb dL_law_528 rfl (lv_at hl 2 rfl) ?_
  refine lw_ld C0 hr (i := i) (k := 1) (n := 1) (lv := []) hl2 rfl (by omega) (by omega) dL_law_529 dL_law_530 dL_law_531 dL_law_532 dL_law_533 ?_
  refine lw_ld C0 hr (i := i) (k := 2) (n := 2) (lv := []) hl2 rfl (by omega) (by omega) dL_law_534 dL_law_535 dL_law_536 dL_law_537 dL_law_538 ?_
  refine W.eq (g2 := F0 m 539 Ls ((([(0, (xs (i + 1)).toInt), (0, (xs (i + 2)).toInt)] : List zV).map (zg ν s.heap.size)).reverse ++ .ref (s.heap.size + 0) :: [])) (by rw [hv]; rfl) ?_
  refine lw_callV (a := 0) (ci := 7) C0 hK hr (hc F1) zq_X7_ofClass e1 (zpos_ok (ps := [770, 771, 772]) (by decide +kernel)) c0 (by decide +kernel) rfl hl.1 (Nat.le_of_ble_eq_true rfl) z1.1 z1.2 dL_law_539 (fun H locs hr => ?_)
  refine W.eq (g2 := F0 m 542 Ls [.int (Int32.ofInt (rocX V 57 (xs (i + 1)).toInt (xs (i + 2)).toInt))]) rfl ?_
  refine lv_pop hx hb dL_law_542 rfl ?_
  refine lv_aload_n hx hb dL_law_543 rfl (lv_at hl 1 rfl) ?_
  refine lw_ld C0 hr (i := i) (k := 1) (n := 1) (lv := []) hl2 rfl (by omega) (by omega) dL_law_544 dL_law_545 dL_law_546 dL_law_547 dL_law_548 ?_
  refine lw_ld C0 hr (i := i) (k := 2) (n := 2) (lv := []) hl2 rfl (by omega) (by omega) dL_law_549 dL_law_550 dL_law_551 dL_law_552 dL_law_553 ?_
  refine W.eq (g2 := F0 m 554 Ls ((([(0, (xs (i + 1)).toInt), (0, (xs (i + 2)).toInt)] : List zV).map (zg ν s.heap.size)).reverse ++ .ref (s.heap.size + 57) :: [])) (by rw [hv]; rfl) ?_
  refine lw_callV (a := 57) (ci := 8) C0 hK hr (hc F2) zq_X8_ofClass e2 (zpos_ok (ps := [1378, 1379, 1380]) (by decide +kernel)) c1 (by decide +kernel) rfl hl.1 (Nat.le_of_ble_eq_true rfl) z2.1 z2.2 dL_law_554 (fun H locs hr => ?_)
  refine W.eq (g2 := F0 m 557 Ls [.int (Int32.ofInt (rocX V 57 (xs (i + 1)).toInt (xs (i + 2)).toInt))]) rfl ?_
  refine lv_pop hx hb dL_law_557 rfl ?_
  exact lv_goto (tgt := 1313) hx hb dL_law_558 (by decide) (kk H locs h2 hr ⟨G2, R2, V2, hh2, js2⟩)
theorem lwc_within (C0 : lw_At p s m meth c b L xs) (hK : va_K D vwCl (zty cy) s) (hc : ∀ F : Nat, zCO l D cy ν s.heap.size 8 (zexec zb0 F 8)) {i k : Nat} (hi : i + 5 ≤ L) (hL : L ≤ 2560) (hk : k < 512) {h : zH} (jh : JH h k) {H : Heap} {locs : List Loc} (hr : lwR s D cy ν h H locs) {Ls : Array Slot} (hl : lv_has Ls 4 (lwl b s.heap.size 57 (nI i)))
    (kk : ∀ (H : Heap) (locs : List Loc) (h : zH), lwR s D cy ν h H locs → JH h (k + 1) → W p l e room_1 s m #[Value.ref b] below meth c H locs h.length (zsl h) (lw_Z below #[Value.ref b] s) (F0 m 1313 Ls [])) : W p l e room_1 s m #[Value.ref b] below meth c H locs h.length (zsl h) (lw_Z below #[Value.ref b] s) (F0 m 561 Ls []) := by
  obtain ⟨hx, hb, hr0, hml, hown, hts, hX, hbl, hlocks, hgv⟩ := id C0
  obtain ⟨G, R, V, hh, js⟩ := jh
  obtain ⟨r, h1, G1, R1, V1, hh1, ⟨q1, ⟨o1, m1⟩, w2⟩, F1, ex1⟩ := j_within js hk (x1 := (xs (i + 1)).toInt) (x2 := (xs (i + 2)).toInt) (x3 := (xs (i + 3)).toInt) (i32_x _) (i32_x _) (i32_x _) h hh
  obtain ⟨r2, h2, G2, R2, V2, hh2, ⟨q2, js2⟩, F2, ex2⟩ := w2 h1 hh1
  have e1 := ex1 F1 (Nat.le_refl _) 8 (Nat.le_refl _)
  have e2 := ex2 F2 (Nat.le_refl _) 8 (Nat.le_refl _)
  obtain ⟨f0, c0, -⟩ := hh.2.1 0 7 (JS_room js (by omega)).1
  obtain ⟨f1, c1, -⟩ := hh1.2.1 57 8 o1
  have m2 := (JS_room js2 (by omega)).2
  have z1 : h1.length ≤ 93552 ∧ zsl h1 ≤ 8821594 := ⟨by rw [hh1.1]; exact Nat.le_trans m1.1 (Nat.le_of_ble_eq_true rfl), by rw [zsl_HR hh1]; exact Nat.le_trans m1.2 (Nat.le_of_ble_eq_true rfl)⟩
  have z2 : h2.length ≤ 93552 ∧ zsl h2 ≤ 8821594 := ⟨by rw [hh2.1]; exact Nat.le_trans m2.1 (Nat.le_of_ble_eq_true rfl), by rw [zsl_HR hh2]; exact Nat.le_trans m2.2 (Nat.le_of_ble_eq_true rfl)⟩
  have hv : ([(0, (xs (i + 1)).toInt), (0, (xs (i + 2)).toInt), (0, (xs (i + 3)).toInt)] : List zV).map (zg ν s.heap.size) = [.int (xs (i + 1)), .int (xs (i + 2)), .int (xs (i + 3))] := by simp only [List.map_cons, List.map_nil, zg0, zg2]
  have hl2 := (⟨lv_at hl 3 rfl, lv_at hl 0 rfl⟩ : Ls[0]? = some (.val (.ref b)) ∧ Ls[3]? = some (.val (.int (nI i))))
  subst q1
  subst q2
  refine lv_aload_n hx hb dL_law_561 rfl (lv_at hl 2 rfl) ?_
  refine lw_ld C0 hr (i := i) (k := 1) (n := 1) (lv := []) hl2 rfl (by omega) (by omega) dL_law_562 dL_law_563 dL_law_564 dL_law_565 dL_law_566 ?_
  refine lw_ld C0 hr (i := i) (k := 2) (n := 2) (lv := []) hl2 rfl (by omega) (by omega) dL_law_567 dL_law_568 dL_law_569 dL_law_570 dL_law_571 ?_
  refine lw_ld C0 hr (i := i) (k := 3) (n := 3) (lv := []) hl2 rfl (by omega) (by omega) dL_law_572 dL_law_573 dL_law_574 dL_law_575 dL_law_576 ?_
  refine W.eq (g2 := F0 m 577 Ls ((([(0, (xs (i + 1)).toInt), (0, (xs (i + 2)).toInt), (0, (xs (i + 3)).toInt)] : List zV).map (zg ν s.heap.size)).reverse ++ .ref (s.heap.size + 0) :: [])) (by rw [hv]; rfl) ?_
  refine lw_callV (a := 0) (ci := 7) C0 hK hr (hc F1) zq_X7_within e1 (zpos_ok (ps := [779, 780, 781]) (by decide +kernel)) c0 (by decide +kernel) rfl hl.1 (Nat.le_of_ble_eq_true rfl) z1.1 z1.2 dL_law_577 (fun H locs hr => ?_)
  refine W.eq (g2 := F0 m 580 Ls [.int (Int32.ofInt (rwiX V 57 (xs (i + 1)).toInt (xs (i + 2)).toInt (xs (i + 3)).toInt))]) rfl ?_
  refine lv_pop hx hb dL_law_580 rfl ?_
  refine lv_aload_n hx hb dL_law_581 rfl (lv_at hl 1 rfl) ?_
  refine lw_ld C0 hr (i := i) (k := 1) (n := 1) (lv := []) hl2 rfl (by omega) (by omega) dL_law_582 dL_law_583 dL_law_584 dL_law_585 dL_law_586 ?_
  refine lw_ld C0 hr (i := i) (k := 2) (n := 2) (lv := []) hl2 rfl (by omega) (by omega) dL_law_587 dL_law_588 dL_law_589 dL_law_590 dL_law_591 ?_
  refine lw_ld C0 hr (i := i) (k := 3) (n := 3) (lv := []) hl2 rfl (by omega) (by omega) dL_law_592 dL_law_593 dL_law_594 dL_law_595 dL_law_596 ?_
  refine W.eq (g2 := F0 m 597 Ls ((([(0, (xs (i + 1)).toInt), (0, (xs (i + 2)).toInt), (0, (xs (i + 3)).toInt)] : List zV).map (zg ν s.heap.size)).reverse ++ .ref (s.heap.size + 57) :: [])) (by rw [hv]; rfl) ?_
  refine lw_callV (a := 57) (ci := 8) C0 hK hr (hc F2) zq_X8_within e2 (zpos_ok (ps := [1386, 1387, 1388]) (by decide +kernel)) c1 (by decide +kernel) rfl hl.1 (Nat.le_of_ble_eq_true rfl) z2.1 z2.2 dL_law_597 (fun H locs hr => ?_)
  refine W.eq (g2 := F0 m 600 Ls [.int (Int32.ofInt (rwiX V 57 (xs (i + 1)).toInt (xs (i + 2)).toInt (xs (i + 3)).toInt))]) rfl ?_
  refine lv_pop hx hb dL_law_600 rfl ?_
  exact lv_goto (tgt := 1313) hx hb dL_law_601 (by decide) (kk H locs h2 hr ⟨G2, R2, V2, hh2, js2⟩)
theorem lwc_table (C0 : lw_At p s m meth c b L xs) (hK : va_K D vwCl (zty cy) s) (hc : ∀ F : Nat, zCO l D cy ν s.heap.size 8 (zexec zb0 F 8)) {i k : Nat} (hi : i + 5 ≤ L) (hL : L ≤ 2560) (hk : k < 512) {h : zH} (jh : JH h k) {H : Heap} {locs : List Loc} (hr : lwR s D cy ν h H locs) {Ls : Array Slot} (hl : lv_has Ls 4 (lwl b s.heap.size 57 (nI i)))
    (kk : ∀ (H : Heap) (locs : List Loc) (h : zH), lwR s D cy ν h H locs → JH h (k + 1) → W p l e room_1 s m #[Value.ref b] below meth c H locs h.length (zsl h) (lw_Z below #[Value.ref b] s) (F0 m 1313 Ls [])) : W p l e room_1 s m #[Value.ref b] below meth c H locs h.length (zsl h) (lw_Z below #[Value.ref b] s) (F0 m 604 Ls []) := by
  obtain ⟨hx, hb, hr0, hml, hown, hts, hX, hbl, hlocks, hgv⟩ := id C0
  obtain ⟨G, R, V, hh, js⟩ := jh
  obtain ⟨r, h1, G1, R1, V1, hh1, ⟨q1, ⟨o1, m1⟩, w2⟩, F1, ex1⟩ := j_table js hk (x1 := (xs (i + 1)).toInt) (x2 := (xs (i + 2)).toInt) (i32_x _) (i32_x _) h hh
  obtain ⟨r2, h2, G2, R2, V2, hh2, ⟨q2, js2⟩, F2, ex2⟩ := w2 h1 hh1
  have e1 := ex1 F1 (Nat.le_refl _) 8 (Nat.le_refl _)
  have e2 := ex2 F2 (Nat.le_refl _) 8 (Nat.le_refl _)
  obtain ⟨f0, c0, -⟩ := hh.2.1 0 7 (JS_room js (by omega)).1
  obtain ⟨f1, c1, -⟩ := hh1.2.1 57 8 o1
  have m2 := (JS_room js2 (by omega)).2
  have z1 : h1.length ≤ 93552 ∧ zsl h1 ≤ 8821594 := ⟨by rw [hh1.1]; exact Nat.le_trans m1.1 (Nat.le_of_ble_eq_true rfl), by rw [zsl_HR hh1]; exact Nat.le_trans m1.2 (Nat.le_of_ble_eq_true rfl)⟩
  have z2 : h2.length ≤ 93552 ∧ zsl h2 ≤ 8821594 := ⟨by rw [hh2.1]; exact Nat.le_trans m2.1 (Nat.le_of_ble_eq_true rfl), by rw [zsl_HR hh2]; exact Nat.le_trans m2.2 (Nat.le_of_ble_eq_true rfl)⟩
  have hv : ([(0, (xs (i + 1)).toInt), (0, (xs (i + 2)).toInt)] : List zV).map (zg ν s.heap.size) = [.int (xs (i + 1)), .int (xs (i + 2))] := by simp only [List.map_cons, List.map_nil, zg0, zg2]
  have hl2 := (⟨lv_at hl 3 rfl, lv_at hl 0 rfl⟩ : Ls[0]? = some (.val (.ref b)) ∧ Ls[3]? = some (.val (.int (nI i))))
  subst q1
  subst q2
  refine lv_aload_n hx hb dL_law_604 rfl (lv_at hl 2 rfl) ?_
  refine lw_ld C0 hr (i := i) (k := 1) (n := 1) (lv := []) hl2 rfl (by omega) (by omega) dL_law_605 dL_law_606 dL_law_607 dL_law_608 dL_law_609 ?_
  refine lw_ld C0 hr (i := i) (k := 2) (n := 2) (lv := []) hl2 rfl (by omega) (by omega) dL_law_610 dL_law_611 dL_law_612 dL_law_613 dL_law_614 ?_
  refine W.eq (g2 := F0 m 615 Ls ((([(0, (xs (i + 1)).toInt), (0, (xs (i + 2)).toInt)] : List zV).map (zg ν s.heap.size)).reverse ++ .ref (s.heap.size + 0) :: [])) (by rw [hv]; rfl) ?_
  refine lw_callV (a := 0) (ci := 7) C0 hK hr (hc F1) zq_X7_table e1 (zpos_ok (ps := [788, 789, 790]) (by decide +kernel)) c0 (by decide +kernel) rfl hl.1 (Nat.le_of_ble_eq_true rfl) z1.1 z1.2 dL_law_615 (fun H locs hr => ?_)
  refine W.eq (g2 := F0 m 618 Ls [.int (Int32.ofInt (rtaX V 57 (xs (i + 1)).toInt (xs (i + 2)).toInt))]) rfl ?_
  refine lv_pop hx hb dL_law_618 rfl ?_
  refine lv_aload_n hx hb dL_law_619 rfl (lv_at hl 1 rfl) ?_
  refine lw_ld C0 hr (i := i) (k := 1) (n := 1) (lv := []) hl2 rfl (by omega) (by omega) dL_law_620 dL_law_621 dL_law_622 dL_law_623 dL_law_624 ?_
  refine lw_ld C0 hr (i := i) (k := 2) (n := 2) (lv := []) hl2 rfl (by omega) (by omega) dL_law_625 dL_law_626 dL_law_627 dL_law_628 dL_law_629 ?_
  refine W.eq (g2 := F0 m 630 Ls ((([(0, (xs (i + 1)).toInt), (0, (xs (i + 2)).toInt)] : List zV).map (zg ν s.heap.size)).reverse ++ .ref (s.heap.size + 57) :: [])) (by rw [hv]; rfl) ?_
  refine lw_callV (a := 57) (ci := 8) C0 hK hr (hc F2) zq_X8_table e2 (zpos_ok (ps := [1390, 1391, 1392]) (by decide +kernel)) c1 (by decide +kernel) rfl hl.1 (Nat.le_of_ble_eq_true rfl) z2.1 z2.2 dL_law_630 (fun H locs hr => ?_)
  refine W.eq (g2 := F0 m 633 Ls [.int (Int32.ofInt (rtaX V 57 (xs (i + 1)).toInt (xs (i + 2)).toInt))]) rfl ?_
  refine lv_pop hx hb dL_law_633 rfl ?_
  exact lv_goto (tgt := 1313) hx hb dL_law_634 (by decide) (kk H locs h2 hr ⟨G2, R2, V2, hh2, js2⟩)
theorem lwc_sylow (C0 : lw_At p s m meth c b L xs) (hK : va_K D vwCl (zty cy) s) (hc : ∀ F : Nat, zCO l D cy ν s.heap.size 8 (zexec zb0 F 8)) {i k : Nat} (hi : i + 5 ≤ L) (hL : L ≤ 2560) (hk : k < 512) {h : zH} (jh : JH h k) {H : Heap} {locs : List Loc} (hr : lwR s D cy ν h H locs) {Ls : Array Slot} (hl : lv_has Ls 4 (lwl b s.heap.size 57 (nI i)))
    (kk : ∀ (H : Heap) (locs : List Loc) (h : zH), lwR s D cy ν h H locs → JH h (k + 1) → W p l e room_1 s m #[Value.ref b] below meth c H locs h.length (zsl h) (lw_Z below #[Value.ref b] s) (F0 m 1313 Ls [])) : W p l e room_1 s m #[Value.ref b] below meth c H locs h.length (zsl h) (lw_Z below #[Value.ref b] s) (F0 m 637 Ls []) := by
  obtain ⟨hx, hb, hr0, hml, hown, hts, hX, hbl, hlocks, hgv⟩ := id C0
  obtain ⟨G, R, V, hh, js⟩ := jh
  obtain ⟨r, h1, G1, R1, V1, hh1, ⟨q1, ⟨o1, m1⟩, w2⟩, F1, ex1⟩ := j_sylow js hk (x1 := (xs (i + 1)).toInt) (i32_x _) h hh
  obtain ⟨r2, h2, G2, R2, V2, hh2, ⟨q2, js2⟩, F2, ex2⟩ := w2 h1 hh1
  have e1 := ex1 F1 (Nat.le_refl _) 8 (Nat.le_refl _)
  have e2 := ex2 F2 (Nat.le_refl _) 8 (Nat.le_refl _)
  obtain ⟨f0, c0, -⟩ := hh.2.1 0 7 (JS_room js (by omega)).1
  obtain ⟨f1, c1, -⟩ := hh1.2.1 57 8 o1
  have m2 := (JS_room js2 (by omega)).2
  have z1 : h1.length ≤ 93552 ∧ zsl h1 ≤ 8821594 := ⟨by rw [hh1.1]; exact Nat.le_trans m1.1 (Nat.le_of_ble_eq_true rfl), by rw [zsl_HR hh1]; exact Nat.le_trans m1.2 (Nat.le_of_ble_eq_true rfl)⟩
  have z2 : h2.length ≤ 93552 ∧ zsl h2 ≤ 8821594 := ⟨by rw [hh2.1]; exact Nat.le_trans m2.1 (Nat.le_of_ble_eq_true rfl), by rw [zsl_HR hh2]; exact Nat.le_trans m2.2 (Nat.le_of_ble_eq_true rfl)⟩
  have hv : ([(0, (xs (i + 1)).toInt)] : List zV).map (zg ν s.heap.size) = [.int (xs (i + 1))] := by simp only [List.map_cons, List.map_nil, zg0, zg2]
  have hl2 := (⟨lv_at hl 3 rfl, lv_at hl 0 rfl⟩ : Ls[0]? = some (.val (.ref b)) ∧ Ls[3]? = some (.val (.int (nI i))))
  subst q1
  subst q2
  refine lv_aload_n hx hb dL_law_637 rfl (lv_at hl 2 rfl) ?_
  refine lw_ld C0 hr (i := i) (k := 1) (n := 1) (lv := []) hl2 rfl (by omega) (by omega) dL_law_638 dL_law_639 dL_law_640 dL_law_641 dL_law_642 ?_
  refine W.eq (g2 := F0 m 643 Ls ((([(0, (xs (i + 1)).toInt)] : List zV).map (zg ν s.heap.size)).reverse ++ .ref (s.heap.size + 0) :: [])) (by rw [hv]; rfl) ?_
  refine lw_callV (a := 0) (ci := 7) C0 hK hr (hc F1) zq_X7_sylow e1 (zpos_ok (ps := [796, 797, 798]) (by decide +kernel)) c0 (by decide +kernel) rfl hl.1 (Nat.le_of_ble_eq_true rfl) z1.1 z1.2 dL_law_643 (fun H locs hr => ?_)
  refine W.eq (g2 := F0 m 646 Ls [.int (Int32.ofInt (the (rsyV V (xs (i + 1)).toInt)))]) rfl ?_
  refine lv_pop hx hb dL_law_646 rfl ?_
  refine lv_aload_n hx hb dL_law_647 rfl (lv_at hl 1 rfl) ?_
  refine lw_ld C0 hr (i := i) (k := 1) (n := 1) (lv := []) hl2 rfl (by omega) (by omega) dL_law_648 dL_law_649 dL_law_650 dL_law_651 dL_law_652 ?_
  refine W.eq (g2 := F0 m 653 Ls ((([(0, (xs (i + 1)).toInt)] : List zV).map (zg ν s.heap.size)).reverse ++ .ref (s.heap.size + 57) :: [])) (by rw [hv]; rfl) ?_
  refine lw_callV (a := 57) (ci := 8) C0 hK hr (hc F2) zq_X8_sylow e2 (zpos_ok (ps := [1394, 1395, 1396]) (by decide +kernel)) c1 (by decide +kernel) rfl hl.1 (Nat.le_of_ble_eq_true rfl) z2.1 z2.2 dL_law_653 (fun H locs hr => ?_)
  refine W.eq (g2 := F0 m 656 Ls [.int (Int32.ofInt (the (rsyV V (xs (i + 1)).toInt)))]) rfl ?_
  refine lv_pop hx hb dL_law_656 rfl ?_
  exact lv_goto (tgt := 1313) hx hb dL_law_657 (by decide) (kk H locs h2 hr ⟨G2, R2, V2, hh2, js2⟩)
theorem lwc_down (C0 : lw_At p s m meth c b L xs) (hK : va_K D vwCl (zty cy) s) (hc : ∀ F : Nat, zCO l D cy ν s.heap.size 8 (zexec zb0 F 8)) {i k : Nat} (hi : i + 5 ≤ L) (hL : L ≤ 2560) (hk : k < 512) {h : zH} (jh : JH h k) {H : Heap} {locs : List Loc} (hr : lwR s D cy ν h H locs) {Ls : Array Slot} (hl : lv_has Ls 4 (lwl b s.heap.size 57 (nI i)))
    (kk : ∀ (H : Heap) (locs : List Loc) (h : zH), lwR s D cy ν h H locs → JH h (k + 1) → W p l e room_1 s m #[Value.ref b] below meth c H locs h.length (zsl h) (lw_Z below #[Value.ref b] s) (F0 m 1313 Ls [])) : W p l e room_1 s m #[Value.ref b] below meth c H locs h.length (zsl h) (lw_Z below #[Value.ref b] s) (F0 m 660 Ls []) := by
  obtain ⟨hx, hb, hr0, hml, hown, hts, hX, hbl, hlocks, hgv⟩ := id C0
  obtain ⟨G, R, V, hh, js⟩ := jh
  obtain ⟨r, h1, G1, R1, V1, hh1, ⟨q1, ⟨o1, m1⟩, w2⟩, F1, ex1⟩ := j_down js hk (x1 := (xs (i + 1)).toInt) (i32_x _) h hh
  obtain ⟨r2, h2, G2, R2, V2, hh2, ⟨q2, js2⟩, F2, ex2⟩ := w2 h1 hh1
  have e1 := ex1 F1 (Nat.le_refl _) 8 (Nat.le_refl _)
  have e2 := ex2 F2 (Nat.le_refl _) 8 (Nat.le_refl _)
  obtain ⟨f0, c0, -⟩ := hh.2.1 0 7 (JS_room js (by omega)).1
  obtain ⟨f1, c1, -⟩ := hh1.2.1 57 8 o1
  have m2 := (JS_room js2 (by omega)).2
  have z1 : h1.length ≤ 93552 ∧ zsl h1 ≤ 8821594 := ⟨by rw [hh1.1]; exact Nat.le_trans m1.1 (Nat.le_of_ble_eq_true rfl), by rw [zsl_HR hh1]; exact Nat.le_trans m1.2 (Nat.le_of_ble_eq_true rfl)⟩
  have z2 : h2.length ≤ 93552 ∧ zsl h2 ≤ 8821594 := ⟨by rw [hh2.1]; exact Nat.le_trans m2.1 (Nat.le_of_ble_eq_true rfl), by rw [zsl_HR hh2]; exact Nat.le_trans m2.2 (Nat.le_of_ble_eq_true rfl)⟩
  have hv : ([(0, (xs (i + 1)).toInt)] : List zV).map (zg ν s.heap.size) = [.int (xs (i + 1))] := by simp only [List.map_cons, List.map_nil, zg0, zg2]
  have hl2 := (⟨lv_at hl 3 rfl, lv_at hl 0 rfl⟩ : Ls[0]? = some (.val (.ref b)) ∧ Ls[3]? = some (.val (.int (nI i))))
  subst q1
  subst q2
  refine lv_aload_n hx hb dL_law_660 rfl (lv_at hl 2 rfl) ?_
  refine lw_ld C0 hr (i := i) (k := 1) (n := 1) (lv := []) hl2 rfl (by omega) (by omega) dL_law_661 dL_law_662 dL_law_663 dL_law_664 dL_law_665 ?_
  refine W.eq (g2 := F0 m 666 Ls ((([(0, (xs (i + 1)).toInt)] : List zV).map (zg ν s.heap.size)).reverse ++ .ref (s.heap.size + 0) :: [])) (by rw [hv]; rfl) ?_
  refine lw_callV (a := 0) (ci := 7) C0 hK hr (hc F1) zq_X7_down e1 (zpos_ok (ps := [804, 805, 806]) (by decide +kernel)) c0 (by decide +kernel) rfl hl.1 (Nat.le_of_ble_eq_true rfl) z1.1 z1.2 dL_law_666 (fun H locs hr => ?_)
  refine W.eq (g2 := F0 m 669 Ls [.int (Int32.ofInt (rdnX V 57 (xs (i + 1)).toInt))]) rfl ?_
  refine lv_pop hx hb dL_law_669 rfl ?_
  refine lv_aload_n hx hb dL_law_670 rfl (lv_at hl 1 rfl) ?_
  refine lw_ld C0 hr (i := i) (k := 1) (n := 1) (lv := []) hl2 rfl (by omega) (by omega) dL_law_671 dL_law_672 dL_law_673 dL_law_674 dL_law_675 ?_
  refine W.eq (g2 := F0 m 676 Ls ((([(0, (xs (i + 1)).toInt)] : List zV).map (zg ν s.heap.size)).reverse ++ .ref (s.heap.size + 57) :: [])) (by rw [hv]; rfl) ?_
  refine lw_callV (a := 57) (ci := 8) C0 hK hr (hc F2) zq_X8_down e2 (zpos_ok (ps := [1398, 1399, 1400]) (by decide +kernel)) c1 (by decide +kernel) rfl hl.1 (Nat.le_of_ble_eq_true rfl) z2.1 z2.2 dL_law_676 (fun H locs hr => ?_)
  refine W.eq (g2 := F0 m 679 Ls [.int (Int32.ofInt (rdnX V 57 (xs (i + 1)).toInt))]) rfl ?_
  refine lv_pop hx hb dL_law_679 rfl ?_
  exact lv_goto (tgt := 1313) hx hb dL_law_680 (by decide) (kk H locs h2 hr ⟨G2, R2, V2, hh2, js2⟩)
theorem lwc_simple (C0 : lw_At p s m meth c b L xs) (hK : va_K D vwCl (zty cy) s) (hc : ∀ F : Nat, zCO l D cy ν s.heap.size 8 (zexec zb0 F 8)) {i k : Nat} (hi : i + 5 ≤ L) (hL : L ≤ 2560) (hk : k < 512) {h : zH} (jh : JH h k) {H : Heap} {locs : List Loc} (hr : lwR s D cy ν h H locs) {Ls : Array Slot} (hl : lv_has Ls 4 (lwl b s.heap.size 57 (nI i)))
    (kk : ∀ (H : Heap) (locs : List Loc) (h : zH), lwR s D cy ν h H locs → JH h (k + 1) → W p l e room_1 s m #[Value.ref b] below meth c H locs h.length (zsl h) (lw_Z below #[Value.ref b] s) (F0 m 1313 Ls [])) : W p l e room_1 s m #[Value.ref b] below meth c H locs h.length (zsl h) (lw_Z below #[Value.ref b] s) (F0 m 683 Ls []) := by
  obtain ⟨hx, hb, hr0, hml, hown, hts, hX, hbl, hlocks, hgv⟩ := id C0
  obtain ⟨G, R, V, hh, js⟩ := jh
  obtain ⟨r, h1, G1, R1, V1, hh1, ⟨q1, ⟨o1, m1⟩, w2⟩, F1, ex1⟩ := j_simple js hk   h hh
  obtain ⟨r2, h2, G2, R2, V2, hh2, ⟨q2, js2⟩, F2, ex2⟩ := w2 h1 hh1
  have e1 := ex1 F1 (Nat.le_refl _) 8 (Nat.le_refl _)
  have e2 := ex2 F2 (Nat.le_refl _) 8 (Nat.le_refl _)
  obtain ⟨f0, c0, -⟩ := hh.2.1 0 7 (JS_room js (by omega)).1
  obtain ⟨f1, c1, -⟩ := hh1.2.1 57 8 o1
  have m2 := (JS_room js2 (by omega)).2
  have z1 : h1.length ≤ 93552 ∧ zsl h1 ≤ 8821594 := ⟨by rw [hh1.1]; exact Nat.le_trans m1.1 (Nat.le_of_ble_eq_true rfl), by rw [zsl_HR hh1]; exact Nat.le_trans m1.2 (Nat.le_of_ble_eq_true rfl)⟩
  have z2 : h2.length ≤ 93552 ∧ zsl h2 ≤ 8821594 := ⟨by rw [hh2.1]; exact Nat.le_trans m2.1 (Nat.le_of_ble_eq_true rfl), by rw [zsl_HR hh2]; exact Nat.le_trans m2.2 (Nat.le_of_ble_eq_true rfl)⟩
  have hv : ([] : List zV).map (zg ν s.heap.size) = [] := by simp only [List.map_cons, List.map_nil, zg0, zg2]
  have hl2 := (⟨lv_at hl 3 rfl, lv_at hl 0 rfl⟩ : Ls[0]? = some (.val (.ref b)) ∧ Ls[3]? = some (.val (.int (nI i))))
  subst q1
  subst q2
  refine lv_aload_n hx hb dL_law_683 rfl (lv_at hl 2 rfl) ?_
  refine W.eq (g2 := F0 m 684 Ls ((([] : List zV).map (zg ν s.heap.size)).reverse ++ .ref (s.heap.size + 0) :: [])) (by rw [hv]; rfl) ?_
  refine lw_callV (a := 0) (ci := 7) C0 hK hr (hc F1) zq_X7_simple e1 (zpos_ok (ps := [808, 809, 810]) (by decide +kernel)) c0 (by decide +kernel) rfl hl.1 (Nat.le_of_ble_eq_true rfl) z1.1 z1.2 dL_law_684 (fun H locs hr => ?_)
  refine W.eq (g2 := F0 m 687 Ls [.int (Int32.ofInt (rsiX V 57))]) rfl ?_
  refine lv_pop hx hb dL_law_687 rfl ?_
  refine lv_aload_n hx hb dL_law_688 rfl (lv_at hl 1 rfl) ?_
  refine W.eq (g2 := F0 m 689 Ls ((([] : List zV).map (zg ν s.heap.size)).reverse ++ .ref (s.heap.size + 57) :: [])) (by rw [hv]; rfl) ?_
  refine lw_callV (a := 57) (ci := 8) C0 hK hr (hc F2) zq_X8_simple e2 (zpos_ok (ps := [1403, 1404, 1405]) (by decide +kernel)) c1 (by decide +kernel) rfl hl.1 (Nat.le_of_ble_eq_true rfl) z2.1 z2.2 dL_law_689 (fun H locs hr => ?_)
  refine W.eq (g2 := F0 m 692 Ls [.int (Int32.ofInt (rsiX V 57))]) rfl ?_
  refine lv_pop hx hb dL_law_692 rfl ?_
  exact lv_goto (tgt := 1313) hx hb dL_law_693 (by decide) (kk H locs h2 hr ⟨G2, R2, V2, hh2, js2⟩)
theorem lwc_coset (C0 : lw_At p s m meth c b L xs) (hK : va_K D vwCl (zty cy) s) (hc : ∀ F : Nat, zCO l D cy ν s.heap.size 8 (zexec zb0 F 8)) {i k : Nat} (hi : i + 5 ≤ L) (hL : L ≤ 2560) (hk : k < 512) {h : zH} (jh : JH h k) {H : Heap} {locs : List Loc} (hr : lwR s D cy ν h H locs) {Ls : Array Slot} (hl : lv_has Ls 4 (lwl b s.heap.size 57 (nI i)))
    (kk : ∀ (H : Heap) (locs : List Loc) (h : zH), lwR s D cy ν h H locs → JH h (k + 1) → W p l e room_1 s m #[Value.ref b] below meth c H locs h.length (zsl h) (lw_Z below #[Value.ref b] s) (F0 m 1313 Ls [])) : W p l e room_1 s m #[Value.ref b] below meth c H locs h.length (zsl h) (lw_Z below #[Value.ref b] s) (F0 m 696 Ls []) := by
  obtain ⟨hx, hb, hr0, hml, hown, hts, hX, hbl, hlocks, hgv⟩ := id C0
  obtain ⟨G, R, V, hh, js⟩ := jh
  obtain ⟨r, h1, G1, R1, V1, hh1, ⟨q1, ⟨o1, m1⟩, w2⟩, F1, ex1⟩ := j_coset js hk (x1 := (xs (i + 1)).toInt) (x2 := (xs (i + 2)).toInt) (i32_x _) (i32_x _) h hh
  obtain ⟨r2, h2, G2, R2, V2, hh2, ⟨q2, js2⟩, F2, ex2⟩ := w2 h1 hh1
  have e1 := ex1 F1 (Nat.le_refl _) 8 (Nat.le_refl _)
  have e2 := ex2 F2 (Nat.le_refl _) 8 (Nat.le_refl _)
  obtain ⟨f0, c0, -⟩ := hh.2.1 0 7 (JS_room js (by omega)).1
  obtain ⟨f1, c1, -⟩ := hh1.2.1 57 8 o1
  have m2 := (JS_room js2 (by omega)).2
  have z1 : h1.length ≤ 93552 ∧ zsl h1 ≤ 8821594 := ⟨by rw [hh1.1]; exact Nat.le_trans m1.1 (Nat.le_of_ble_eq_true rfl), by rw [zsl_HR hh1]; exact Nat.le_trans m1.2 (Nat.le_of_ble_eq_true rfl)⟩
  have z2 : h2.length ≤ 93552 ∧ zsl h2 ≤ 8821594 := ⟨by rw [hh2.1]; exact Nat.le_trans m2.1 (Nat.le_of_ble_eq_true rfl), by rw [zsl_HR hh2]; exact Nat.le_trans m2.2 (Nat.le_of_ble_eq_true rfl)⟩
  have hv : ([(0, (xs (i + 1)).toInt), (0, (xs (i + 2)).toInt)] : List zV).map (zg ν s.heap.size) = [.int (xs (i + 1)), .int (xs (i + 2))] := by simp only [List.map_cons, List.map_nil, zg0, zg2]
  have hl2 := (⟨lv_at hl 3 rfl, lv_at hl 0 rfl⟩ : Ls[0]? = some (.val (.ref b)) ∧ Ls[3]? = some (.val (.int (nI i))))
  subst q1
  subst q2
  refine lv_aload_n hx hb dL_law_696 rfl (lv_at hl 2 rfl) ?_
  refine lw_ld C0 hr (i := i) (k := 1) (n := 1) (lv := []) hl2 rfl (by omega) (by omega) dL_law_697 dL_law_698 dL_law_699 dL_law_700 dL_law_701 ?_
  refine lw_ld C0 hr (i := i) (k := 2) (n := 2) (lv := []) hl2 rfl (by omega) (by omega) dL_law_702 dL_law_703 dL_law_704 dL_law_705 dL_law_706 ?_
  refine W.eq (g2 := F0 m 707 Ls ((([(0, (xs (i + 1)).toInt), (0, (xs (i + 2)).toInt)] : List zV).map (zg ν s.heap.size)).reverse ++ .ref (s.heap.size + 0) :: [])) (by rw [hv]; rfl) ?_
  refine lw_callV (a := 0) (ci := 7) C0 hK hr (hc F1) zq_X7_coset e1 (zpos_ok (ps := [816, 817, 818]) (by decide +kernel)) c0 (by decide +kernel) rfl hl.1 (Nat.le_of_ble_eq_true rfl) z1.1 z1.2 dL_law_707 (fun H locs hr => ?_)
  refine W.eq (g2 := F0 m 710 Ls [.long (Int64.ofInt (rcsX V 57 (xs (i + 1)).toInt (xs (i + 2)).toInt))]) rfl ?_
  refine lv_pop2_2 hx hb dL_law_710 rfl ?_
  refine lv_aload_n hx hb dL_law_711 rfl (lv_at hl 1 rfl) ?_
  refine lw_ld C0 hr (i := i) (k := 1) (n := 1) (lv := []) hl2 rfl (by omega) (by omega) dL_law_712 dL_law_713 dL_law_714 dL_law_715 dL_law_716 ?_
  refine lw_ld C0 hr (i := i) (k := 2) (n := 2) (lv := []) hl2 rfl (by omega) (by omega) dL_law_717 dL_law_718 dL_law_719 dL_law_720 dL_law_721 ?_
  refine W.eq (g2 := F0 m 722 Ls ((([(0, (xs (i + 1)).toInt), (0, (xs (i + 2)).toInt)] : List zV).map (zg ν s.heap.size)).reverse ++ .ref (s.heap.size + 57) :: [])) (by rw [hv]; rfl) ?_
  refine lw_callV (a := 57) (ci := 8) C0 hK hr (hc F2) zq_X8_coset e2 (zpos_ok (ps := [1407, 1408, 1409]) (by decide +kernel)) c1 (by decide +kernel) rfl hl.1 (Nat.le_of_ble_eq_true rfl) z2.1 z2.2 dL_law_722 (fun H locs hr => ?_)
  refine W.eq (g2 := F0 m 725 Ls [.long (Int64.ofInt (rcsX V 57 (xs (i + 1)).toInt (xs (i + 2)).toInt))]) rfl ?_
  refine lv_pop2_2 hx hb dL_law_725 rfl ?_
  exact lv_goto (tgt := 1313) hx hb dL_law_726 (by decide) (kk H locs h2 hr ⟨G2, R2, V2, hh2, js2⟩)
theorem lwc_places (C0 : lw_At p s m meth c b L xs) (hK : va_K D vwCl (zty cy) s) (hc : ∀ F : Nat, zCO l D cy ν s.heap.size 8 (zexec zb0 F 8)) {i k : Nat} (hi : i + 5 ≤ L) (hL : L ≤ 2560) (hk : k < 512) {h : zH} (jh : JH h k) {H : Heap} {locs : List Loc} (hr : lwR s D cy ν h H locs) {Ls : Array Slot} (hl : lv_has Ls 4 (lwl b s.heap.size 57 (nI i)))
    (kk : ∀ (H : Heap) (locs : List Loc) (h : zH), lwR s D cy ν h H locs → JH h (k + 1) → W p l e room_1 s m #[Value.ref b] below meth c H locs h.length (zsl h) (lw_Z below #[Value.ref b] s) (F0 m 1313 Ls [])) : W p l e room_1 s m #[Value.ref b] below meth c H locs h.length (zsl h) (lw_Z below #[Value.ref b] s) (F0 m 729 Ls []) := by
  obtain ⟨hx, hb, hr0, hml, hown, hts, hX, hbl, hlocks, hgv⟩ := id C0
  obtain ⟨G, R, V, hh, js⟩ := jh
  obtain ⟨r, h1, G1, R1, V1, hh1, ⟨q1, ⟨o1, m1⟩, w2⟩, F1, ex1⟩ := j_places js hk (x1 := (xs (i + 1)).toInt) (x2 := (xs (i + 2)).toInt) (x3 := (xs (i + 3)).toInt) (i32_x _) (i32_x _) (i32_x _) h hh
  obtain ⟨r2, h2, G2, R2, V2, hh2, ⟨q2, js2⟩, F2, ex2⟩ := w2 h1 hh1
  have e1 := ex1 F1 (Nat.le_refl _) 8 (Nat.le_refl _)
  have e2 := ex2 F2 (Nat.le_refl _) 8 (Nat.le_refl _)
  obtain ⟨f0, c0, -⟩ := hh.2.1 0 7 (JS_room js (by omega)).1
  obtain ⟨f1, c1, -⟩ := hh1.2.1 57 8 o1
  have m2 := (JS_room js2 (by omega)).2
  have z1 : h1.length ≤ 93552 ∧ zsl h1 ≤ 8821594 := ⟨by rw [hh1.1]; exact Nat.le_trans m1.1 (Nat.le_of_ble_eq_true rfl), by rw [zsl_HR hh1]; exact Nat.le_trans m1.2 (Nat.le_of_ble_eq_true rfl)⟩
  have z2 : h2.length ≤ 93552 ∧ zsl h2 ≤ 8821594 := ⟨by rw [hh2.1]; exact Nat.le_trans m2.1 (Nat.le_of_ble_eq_true rfl), by rw [zsl_HR hh2]; exact Nat.le_trans m2.2 (Nat.le_of_ble_eq_true rfl)⟩
  have hv : ([(0, (xs (i + 1)).toInt), (0, (xs (i + 2)).toInt), (0, (xs (i + 3)).toInt)] : List zV).map (zg ν s.heap.size) = [.int (xs (i + 1)), .int (xs (i + 2)), .int (xs (i + 3))] := by simp only [List.map_cons, List.map_nil, zg0, zg2]
  have hl2 := (⟨lv_at hl 3 rfl, lv_at hl 0 rfl⟩ : Ls[0]? = some (.val (.ref b)) ∧ Ls[3]? = some (.val (.int (nI i))))
  obtain ⟨v1, rfl⟩ := q1
  obtain ⟨v2, rfl⟩ := q2
  refine lv_aload_n hx hb dL_law_729 rfl (lv_at hl 2 rfl) ?_
  refine lw_ld C0 hr (i := i) (k := 1) (n := 1) (lv := []) hl2 rfl (by omega) (by omega) dL_law_730 dL_law_731 dL_law_732 dL_law_733 dL_law_734 ?_
  refine lw_ld C0 hr (i := i) (k := 2) (n := 2) (lv := []) hl2 rfl (by omega) (by omega) dL_law_735 dL_law_736 dL_law_737 dL_law_738 dL_law_739 ?_
  refine lw_ld C0 hr (i := i) (k := 3) (n := 3) (lv := []) hl2 rfl (by omega) (by omega) dL_law_740 dL_law_741 dL_law_742 dL_law_743 dL_law_744 ?_
  refine W.eq (g2 := F0 m 745 Ls ((([(0, (xs (i + 1)).toInt), (0, (xs (i + 2)).toInt), (0, (xs (i + 3)).toInt)] : List zV).map (zg ν s.heap.size)).reverse ++ .ref (s.heap.size + 0) :: [])) (by rw [hv]; rfl) ?_
  refine lw_callV (a := 0) (ci := 7) C0 hK hr (hc F1) zq_X7_places e1 (zpos_ok (ps := [847, 848, 849]) (by decide +kernel)) c0 (by decide +kernel) rfl hl.1 (Nat.le_of_ble_eq_true rfl) z1.1 z1.2 dL_law_745 (fun H locs hr => ?_)
  refine W.eq (g2 := F0 m 748 Ls [.long (Int64.ofInt v1)]) rfl ?_
  refine lv_pop2_2 hx hb dL_law_748 rfl ?_
  refine lv_aload_n hx hb dL_law_749 rfl (lv_at hl 1 rfl) ?_
  refine lw_ld C0 hr (i := i) (k := 1) (n := 1) (lv := []) hl2 rfl (by omega) (by omega) dL_law_750 dL_law_751 dL_law_752 dL_law_753 dL_law_754 ?_
  refine lw_ld C0 hr (i := i) (k := 2) (n := 2) (lv := []) hl2 rfl (by omega) (by omega) dL_law_755 dL_law_756 dL_law_757 dL_law_758 dL_law_759 ?_
  refine lw_ld C0 hr (i := i) (k := 3) (n := 3) (lv := []) hl2 rfl (by omega) (by omega) dL_law_760 dL_law_761 dL_law_762 dL_law_763 dL_law_764 ?_
  refine W.eq (g2 := F0 m 765 Ls ((([(0, (xs (i + 1)).toInt), (0, (xs (i + 2)).toInt), (0, (xs (i + 3)).toInt)] : List zV).map (zg ν s.heap.size)).reverse ++ .ref (s.heap.size + 57) :: [])) (by rw [hv]; rfl) ?_
  refine lw_callV (a := 57) (ci := 8) C0 hK hr (hc F2) zq_X8_places e2 (zpos_ok (ps := [1429, 1430, 1431]) (by decide +kernel)) c1 (by decide +kernel) rfl hl.1 (Nat.le_of_ble_eq_true rfl) z2.1 z2.2 dL_law_765 (fun H locs hr => ?_)
  refine W.eq (g2 := F0 m 768 Ls [.long (Int64.ofInt v2)]) rfl ?_
  refine lv_pop2_2 hx hb dL_law_768 rfl ?_
  exact lv_goto (tgt := 1313) hx hb dL_law_769 (by decide) (kk H locs h2 hr ⟨G2, R2, V2, hh2, js2⟩)
theorem lwc_heaps (C0 : lw_At p s m meth c b L xs) (hK : va_K D vwCl (zty cy) s) (hc : ∀ F : Nat, zCO l D cy ν s.heap.size 8 (zexec zb0 F 8)) {i k : Nat} (hi : i + 5 ≤ L) (hL : L ≤ 2560) (hk : k < 512) {h : zH} (jh : JH h k) {H : Heap} {locs : List Loc} (hr : lwR s D cy ν h H locs) {Ls : Array Slot} (hl : lv_has Ls 4 (lwl b s.heap.size 57 (nI i)))
    (kk : ∀ (H : Heap) (locs : List Loc) (h : zH), lwR s D cy ν h H locs → JH h (k + 1) → W p l e room_1 s m #[Value.ref b] below meth c H locs h.length (zsl h) (lw_Z below #[Value.ref b] s) (F0 m 1313 Ls [])) : W p l e room_1 s m #[Value.ref b] below meth c H locs h.length (zsl h) (lw_Z below #[Value.ref b] s) (F0 m 772 Ls []) := by
  obtain ⟨hx, hb, hr0, hml, hown, hts, hX, hbl, hlocks, hgv⟩ := id C0
  obtain ⟨G, R, V, hh, js⟩ := jh
  obtain ⟨r, h1, G1, R1, V1, hh1, ⟨q1, ⟨o1, m1⟩, w2⟩, F1, ex1⟩ := j_heaps js hk (x1 := (xs (i + 1)).toInt) (i32_x _) h hh
  obtain ⟨r2, h2, G2, R2, V2, hh2, ⟨q2, js2⟩, F2, ex2⟩ := w2 h1 hh1
  have e1 := ex1 F1 (Nat.le_refl _) 8 (Nat.le_refl _)
  have e2 := ex2 F2 (Nat.le_refl _) 8 (Nat.le_refl _)
  obtain ⟨f0, c0, -⟩ := hh.2.1 0 7 (JS_room js (by omega)).1
  obtain ⟨f1, c1, -⟩ := hh1.2.1 57 8 o1
  have m2 := (JS_room js2 (by omega)).2
  have z1 : h1.length ≤ 93552 ∧ zsl h1 ≤ 8821594 := ⟨by rw [hh1.1]; exact Nat.le_trans m1.1 (Nat.le_of_ble_eq_true rfl), by rw [zsl_HR hh1]; exact Nat.le_trans m1.2 (Nat.le_of_ble_eq_true rfl)⟩
  have z2 : h2.length ≤ 93552 ∧ zsl h2 ≤ 8821594 := ⟨by rw [hh2.1]; exact Nat.le_trans m2.1 (Nat.le_of_ble_eq_true rfl), by rw [zsl_HR hh2]; exact Nat.le_trans m2.2 (Nat.le_of_ble_eq_true rfl)⟩
  have hv : ([(0, (xs (i + 1)).toInt)] : List zV).map (zg ν s.heap.size) = [.int (xs (i + 1))] := by simp only [List.map_cons, List.map_nil, zg0, zg2]
  have hl2 := (⟨lv_at hl 3 rfl, lv_at hl 0 rfl⟩ : Ls[0]? = some (.val (.ref b)) ∧ Ls[3]? = some (.val (.int (nI i))))
  obtain ⟨v1, rfl⟩ := q1
  obtain ⟨v2, rfl⟩ := q2
  refine lv_aload_n hx hb dL_law_772 rfl (lv_at hl 2 rfl) ?_
  refine lw_ld C0 hr (i := i) (k := 1) (n := 1) (lv := []) hl2 rfl (by omega) (by omega) dL_law_773 dL_law_774 dL_law_775 dL_law_776 dL_law_777 ?_
  refine W.eq (g2 := F0 m 778 Ls ((([(0, (xs (i + 1)).toInt)] : List zV).map (zg ν s.heap.size)).reverse ++ .ref (s.heap.size + 0) :: [])) (by rw [hv]; rfl) ?_
  refine lw_callV (a := 0) (ci := 7) C0 hK hr (hc F1) zq_X7_heaps e1 (zpos_ok (ps := [884, 885, 886]) (by decide +kernel)) c0 (by decide +kernel) rfl hl.1 (Nat.le_of_ble_eq_true rfl) z1.1 z1.2 dL_law_778 (fun H locs hr => ?_)
  refine W.eq (g2 := F0 m 781 Ls [.long (Int64.ofInt v1)]) rfl ?_
  refine lv_pop2_2 hx hb dL_law_781 rfl ?_
  refine lv_aload_n hx hb dL_law_782 rfl (lv_at hl 1 rfl) ?_
  refine lw_ld C0 hr (i := i) (k := 1) (n := 1) (lv := []) hl2 rfl (by omega) (by omega) dL_law_783 dL_law_784 dL_law_785 dL_law_786 dL_law_787 ?_
  refine W.eq (g2 := F0 m 788 Ls ((([(0, (xs (i + 1)).toInt)] : List zV).map (zg ν s.heap.size)).reverse ++ .ref (s.heap.size + 57) :: [])) (by rw [hv]; rfl) ?_
  refine lw_callV (a := 57) (ci := 8) C0 hK hr (hc F2) zq_X8_heaps e2 (zpos_ok (ps := [1453, 1454, 1455]) (by decide +kernel)) c1 (by decide +kernel) rfl hl.1 (Nat.le_of_ble_eq_true rfl) z2.1 z2.2 dL_law_788 (fun H locs hr => ?_)
  refine W.eq (g2 := F0 m 791 Ls [.long (Int64.ofInt v2)]) rfl ?_
  refine lv_pop2_2 hx hb dL_law_791 rfl ?_
  exact lv_goto (tgt := 1313) hx hb dL_law_792 (by decide) (kk H locs h2 hr ⟨G2, R2, V2, hh2, js2⟩)
theorem lwc_both (C0 : lw_At p s m meth c b L xs) (hK : va_K D vwCl (zty cy) s) (hc : ∀ F : Nat, zCO l D cy ν s.heap.size 8 (zexec zb0 F 8)) {i k : Nat} (hi : i + 5 ≤ L) (hL : L ≤ 2560) (hk : k < 512) {h : zH} (jh : JH h k) {H : Heap} {locs : List Loc} (hr : lwR s D cy ν h H locs) {Ls : Array Slot} (hl : lv_has Ls 4 (lwl b s.heap.size 57 (nI i)))
    (kk : ∀ (H : Heap) (locs : List Loc) (h : zH), lwR s D cy ν h H locs → JH h (k + 1) → W p l e room_1 s m #[Value.ref b] below meth c H locs h.length (zsl h) (lw_Z below #[Value.ref b] s) (F0 m 1313 Ls [])) : W p l e room_1 s m #[Value.ref b] below meth c H locs h.length (zsl h) (lw_Z below #[Value.ref b] s) (F0 m 795 Ls []) := by
  obtain ⟨hx, hb, hr0, hml, hown, hts, hX, hbl, hlocks, hgv⟩ := id C0
  obtain ⟨G, R, V, hh, js⟩ := jh
  obtain ⟨r, h1, G1, R1, V1, hh1, ⟨q1, ⟨o1, m1⟩, w2⟩, F1, ex1⟩ := j_both js hk (x1 := (xs (i + 1)).toInt) (x2 := (xs (i + 2)).toInt) (x3 := (xs (i + 3)).toInt) (x4 := (xs (i + 4)).toInt) (i32_x _) (i32_x _) (i32_x _) (i32_x _) h hh
  obtain ⟨r2, h2, G2, R2, V2, hh2, ⟨q2, js2⟩, F2, ex2⟩ := w2 h1 hh1
  have e1 := ex1 F1 (Nat.le_refl _) 8 (Nat.le_refl _)
  have e2 := ex2 F2 (Nat.le_refl _) 8 (Nat.le_refl _)
  obtain ⟨f0, c0, -⟩ := hh.2.1 0 7 (JS_room js (by omega)).1
  obtain ⟨f1, c1, -⟩ := hh1.2.1 57 8 o1
  have m2 := (JS_room js2 (by omega)).2
  have z1 : h1.length ≤ 93552 ∧ zsl h1 ≤ 8821594 := ⟨by rw [hh1.1]; exact Nat.le_trans m1.1 (Nat.le_of_ble_eq_true rfl), by rw [zsl_HR hh1]; exact Nat.le_trans m1.2 (Nat.le_of_ble_eq_true rfl)⟩
  have z2 : h2.length ≤ 93552 ∧ zsl h2 ≤ 8821594 := ⟨by rw [hh2.1]; exact Nat.le_trans m2.1 (Nat.le_of_ble_eq_true rfl), by rw [zsl_HR hh2]; exact Nat.le_trans m2.2 (Nat.le_of_ble_eq_true rfl)⟩
  have hv : ([(0, (xs (i + 1)).toInt), (0, (xs (i + 2)).toInt), (0, (xs (i + 3)).toInt), (0, (xs (i + 4)).toInt)] : List zV).map (zg ν s.heap.size) = [.int (xs (i + 1)), .int (xs (i + 2)), .int (xs (i + 3)), .int (xs (i + 4))] := by simp only [List.map_cons, List.map_nil, zg0, zg2]
  have hl2 := (⟨lv_at hl 3 rfl, lv_at hl 0 rfl⟩ : Ls[0]? = some (.val (.ref b)) ∧ Ls[3]? = some (.val (.int (nI i))))
  obtain ⟨v1, rfl⟩ := q1
  obtain ⟨v2, rfl⟩ := q2
  refine lv_aload_n hx hb dL_law_795 rfl (lv_at hl 2 rfl) ?_
  refine lw_ld C0 hr (i := i) (k := 1) (n := 1) (lv := []) hl2 rfl (by omega) (by omega) dL_law_796 dL_law_797 dL_law_798 dL_law_799 dL_law_800 ?_
  refine lw_ld C0 hr (i := i) (k := 2) (n := 2) (lv := []) hl2 rfl (by omega) (by omega) dL_law_801 dL_law_802 dL_law_803 dL_law_804 dL_law_805 ?_
  refine lw_ld C0 hr (i := i) (k := 3) (n := 3) (lv := []) hl2 rfl (by omega) (by omega) dL_law_806 dL_law_807 dL_law_808 dL_law_809 dL_law_810 ?_
  refine lw_ld C0 hr (i := i) (k := 4) (n := 4) (lv := []) hl2 rfl (by omega) (by omega) dL_law_811 dL_law_812 dL_law_813 dL_law_814 dL_law_815 ?_
  refine W.eq (g2 := F0 m 816 Ls ((([(0, (xs (i + 1)).toInt), (0, (xs (i + 2)).toInt), (0, (xs (i + 3)).toInt), (0, (xs (i + 4)).toInt)] : List zV).map (zg ν s.heap.size)).reverse ++ .ref (s.heap.size + 0) :: [])) (by rw [hv]; rfl) ?_
  refine lw_callV (a := 0) (ci := 7) C0 hK hr (hc F1) zq_X7_both e1 (zpos_ok (ps := [898, 899, 900]) (by decide +kernel)) c0 (by decide +kernel) rfl hl.1 (Nat.le_of_ble_eq_true rfl) z1.1 z1.2 dL_law_816 (fun H locs hr => ?_)
  refine W.eq (g2 := F0 m 819 Ls [.long (Int64.ofInt v1)]) rfl ?_
  refine lv_pop2_2 hx hb dL_law_819 rfl ?_
  refine lv_aload_n hx hb dL_law_820 rfl (lv_at hl 1 rfl) ?_
  refine lw_ld C0 hr (i := i) (k := 1) (n := 1) (lv := []) hl2 rfl (by omega) (by omega) dL_law_821 dL_law_822 dL_law_823 dL_law_824 dL_law_825 ?_
  refine lw_ld C0 hr (i := i) (k := 2) (n := 2) (lv := []) hl2 rfl (by omega) (by omega) dL_law_826 dL_law_827 dL_law_828 dL_law_829 dL_law_830 ?_
  refine lw_ld C0 hr (i := i) (k := 3) (n := 3) (lv := []) hl2 rfl (by omega) (by omega) dL_law_831 dL_law_832 dL_law_833 dL_law_834 dL_law_835 ?_
  refine lw_ld C0 hr (i := i) (k := 4) (n := 4) (lv := []) hl2 rfl (by omega) (by omega) dL_law_836 dL_law_837 dL_law_838 dL_law_839 dL_law_840 ?_
  refine W.eq (g2 := F0 m 841 Ls ((([(0, (xs (i + 1)).toInt), (0, (xs (i + 2)).toInt), (0, (xs (i + 3)).toInt), (0, (xs (i + 4)).toInt)] : List zV).map (zg ν s.heap.size)).reverse ++ .ref (s.heap.size + 57) :: [])) (by rw [hv]; rfl) ?_
  refine lw_callV (a := 57) (ci := 8) C0 hK hr (hc F2) zq_X8_both e2 (zpos_ok (ps := [1457, 1458, 1459]) (by decide +kernel)) c1 (by decide +kernel) rfl hl.1 (Nat.le_of_ble_eq_true rfl) z2.1 z2.2 dL_law_841 (fun H locs hr => ?_)
  refine W.eq (g2 := F0 m 844 Ls [.long (Int64.ofInt v2)]) rfl ?_
  refine lv_pop2_2 hx hb dL_law_844 rfl ?_
  exact lv_goto (tgt := 1313) hx hb dL_law_845 (by decide) (kk H locs h2 hr ⟨G2, R2, V2, hh2, js2⟩)
theorem lwc_colour (C0 : lw_At p s m meth c b L xs) (hK : va_K D vwCl (zty cy) s) (hc : ∀ F : Nat, zCO l D cy ν s.heap.size 8 (zexec zb0 F 8)) {i k : Nat} (hi : i + 5 ≤ L) (hL : L ≤ 2560) (hk : k < 512) {h : zH} (jh : JH h k) {H : Heap} {locs : List Loc} (hr : lwR s D cy ν h H locs) {Ls : Array Slot} (hl : lv_has Ls 4 (lwl b s.heap.size 57 (nI i)))
    (kk : ∀ (H : Heap) (locs : List Loc) (h : zH), lwR s D cy ν h H locs → JH h (k + 1) → W p l e room_1 s m #[Value.ref b] below meth c H locs h.length (zsl h) (lw_Z below #[Value.ref b] s) (F0 m 1313 Ls [])) : W p l e room_1 s m #[Value.ref b] below meth c H locs h.length (zsl h) (lw_Z below #[Value.ref b] s) (F0 m 848 Ls []) := by
  obtain ⟨hx, hb, hr0, hml, hown, hts, hX, hbl, hlocks, hgv⟩ := id C0
  obtain ⟨G, R, V, hh, js⟩ := jh
  obtain ⟨r, h1, G1, R1, V1, hh1, ⟨q1, ⟨o1, m1⟩, w2⟩, F1, ex1⟩ := j_colour js hk (x1 := (xs (i + 1)).toInt) (x2 := (xs (i + 2)).toInt) (x3 := (xs (i + 3)).toInt) (i32_x _) (i32_x _) (i32_x _) h hh
  obtain ⟨r2, h2, G2, R2, V2, hh2, ⟨q2, js2⟩, F2, ex2⟩ := w2 h1 hh1
  have e1 := ex1 F1 (Nat.le_refl _) 8 (Nat.le_refl _)
  have e2 := ex2 F2 (Nat.le_refl _) 8 (Nat.le_refl _)
  obtain ⟨f0, c0, -⟩ := hh.2.1 0 7 (JS_room js (by omega)).1
  obtain ⟨f1, c1, -⟩ := hh1.2.1 57 8 o1
  have m2 := (JS_room js2 (by omega)).2
  have z1 : h1.length ≤ 93552 ∧ zsl h1 ≤ 8821594 := ⟨by rw [hh1.1]; exact Nat.le_trans m1.1 (Nat.le_of_ble_eq_true rfl), by rw [zsl_HR hh1]; exact Nat.le_trans m1.2 (Nat.le_of_ble_eq_true rfl)⟩
  have z2 : h2.length ≤ 93552 ∧ zsl h2 ≤ 8821594 := ⟨by rw [hh2.1]; exact Nat.le_trans m2.1 (Nat.le_of_ble_eq_true rfl), by rw [zsl_HR hh2]; exact Nat.le_trans m2.2 (Nat.le_of_ble_eq_true rfl)⟩
  have hv : ([(0, (xs (i + 1)).toInt), (0, (xs (i + 2)).toInt), (0, (xs (i + 3)).toInt)] : List zV).map (zg ν s.heap.size) = [.int (xs (i + 1)), .int (xs (i + 2)), .int (xs (i + 3))] := by simp only [List.map_cons, List.map_nil, zg0, zg2]
  have hl2 := (⟨lv_at hl 3 rfl, lv_at hl 0 rfl⟩ : Ls[0]? = some (.val (.ref b)) ∧ Ls[3]? = some (.val (.int (nI i))))
  obtain ⟨v1, rfl⟩ := q1
  obtain ⟨v2, rfl⟩ := q2
  refine lv_aload_n hx hb dL_law_848 rfl (lv_at hl 2 rfl) ?_
  refine lw_ld C0 hr (i := i) (k := 1) (n := 1) (lv := []) hl2 rfl (by omega) (by omega) dL_law_849 dL_law_850 dL_law_851 dL_law_852 dL_law_853 ?_
  refine lw_ld C0 hr (i := i) (k := 2) (n := 2) (lv := []) hl2 rfl (by omega) (by omega) dL_law_854 dL_law_855 dL_law_856 dL_law_857 dL_law_858 ?_
  refine lw_ld C0 hr (i := i) (k := 3) (n := 3) (lv := []) hl2 rfl (by omega) (by omega) dL_law_859 dL_law_860 dL_law_861 dL_law_862 dL_law_863 ?_
  refine W.eq (g2 := F0 m 864 Ls ((([(0, (xs (i + 1)).toInt), (0, (xs (i + 2)).toInt), (0, (xs (i + 3)).toInt)] : List zV).map (zg ν s.heap.size)).reverse ++ .ref (s.heap.size + 0) :: [])) (by rw [hv]; rfl) ?_
  refine lw_callV (a := 0) (ci := 7) C0 hK hr (hc F1) zq_X7_colour e1 (zpos_ok (ps := [924, 925, 926]) (by decide +kernel)) c0 (by decide +kernel) rfl hl.1 (Nat.le_of_ble_eq_true rfl) z1.1 z1.2 dL_law_864 (fun H locs hr => ?_)
  refine W.eq (g2 := F0 m 867 Ls [.long (Int64.ofInt v1)]) rfl ?_
  refine lv_pop2_2 hx hb dL_law_867 rfl ?_
  refine lv_aload_n hx hb dL_law_868 rfl (lv_at hl 1 rfl) ?_
  refine lw_ld C0 hr (i := i) (k := 1) (n := 1) (lv := []) hl2 rfl (by omega) (by omega) dL_law_869 dL_law_870 dL_law_871 dL_law_872 dL_law_873 ?_
  refine lw_ld C0 hr (i := i) (k := 2) (n := 2) (lv := []) hl2 rfl (by omega) (by omega) dL_law_874 dL_law_875 dL_law_876 dL_law_877 dL_law_878 ?_
  refine lw_ld C0 hr (i := i) (k := 3) (n := 3) (lv := []) hl2 rfl (by omega) (by omega) dL_law_879 dL_law_880 dL_law_881 dL_law_882 dL_law_883 ?_
  refine W.eq (g2 := F0 m 884 Ls ((([(0, (xs (i + 1)).toInt), (0, (xs (i + 2)).toInt), (0, (xs (i + 3)).toInt)] : List zV).map (zg ν s.heap.size)).reverse ++ .ref (s.heap.size + 57) :: [])) (by rw [hv]; rfl) ?_
  refine lw_callV (a := 57) (ci := 8) C0 hK hr (hc F2) zq_X8_colour e2 (zpos_ok (ps := [1471, 1472, 1473]) (by decide +kernel)) c1 (by decide +kernel) rfl hl.1 (Nat.le_of_ble_eq_true rfl) z2.1 z2.2 dL_law_884 (fun H locs hr => ?_)
  refine W.eq (g2 := F0 m 887 Ls [.long (Int64.ofInt v2)]) rfl ?_
  refine lv_pop2_2 hx hb dL_law_887 rfl ?_
  exact lv_goto (tgt := 1313) hx hb dL_law_888 (by decide) (kk H locs h2 hr ⟨G2, R2, V2, hh2, js2⟩)
theorem lwc_many (C0 : lw_At p s m meth c b L xs) (hK : va_K D vwCl (zty cy) s) (hc : ∀ F : Nat, zCO l D cy ν s.heap.size 8 (zexec zb0 F 8)) {i k : Nat} (hi : i + 5 ≤ L) (hL : L ≤ 2560) (hk : k < 512) {h : zH} (jh : JH h k) {H : Heap} {locs : List Loc} (hr : lwR s D cy ν h H locs) {Ls : Array Slot} (hl : lv_has Ls 4 (lwl b s.heap.size 57 (nI i)))
    (kk : ∀ (H : Heap) (locs : List Loc) (h : zH), lwR s D cy ν h H locs → JH h (k + 1) → W p l e room_1 s m #[Value.ref b] below meth c H locs h.length (zsl h) (lw_Z below #[Value.ref b] s) (F0 m 1313 Ls [])) : W p l e room_1 s m #[Value.ref b] below meth c H locs h.length (zsl h) (lw_Z below #[Value.ref b] s) (F0 m 891 Ls []) := by
  obtain ⟨hx, hb, hr0, hml, hown, hts, hX, hbl, hlocks, hgv⟩ := id C0
  obtain ⟨G, R, V, hh, js⟩ := jh
  obtain ⟨r, h1, G1, R1, V1, hh1, ⟨q1, ⟨o1, m1⟩, w2⟩, F1, ex1⟩ := j_many js hk (x1 := (xs (i + 1)).toInt) (x2 := (xs (i + 2)).toInt) (x3 := (xs (i + 3)).toInt) (i32_x _) (i32_x _) (i32_x _) h hh
  obtain ⟨r2, h2, G2, R2, V2, hh2, ⟨q2, js2⟩, F2, ex2⟩ := w2 h1 hh1
  have e1 := ex1 F1 (Nat.le_refl _) 8 (Nat.le_refl _)
  have e2 := ex2 F2 (Nat.le_refl _) 8 (Nat.le_refl _)
  obtain ⟨f0, c0, -⟩ := hh.2.1 0 7 (JS_room js (by omega)).1
  obtain ⟨f1, c1, -⟩ := hh1.2.1 57 8 o1
  have m2 := (JS_room js2 (by omega)).2
  have z1 : h1.length ≤ 93552 ∧ zsl h1 ≤ 8821594 := ⟨by rw [hh1.1]; exact Nat.le_trans m1.1 (Nat.le_of_ble_eq_true rfl), by rw [zsl_HR hh1]; exact Nat.le_trans m1.2 (Nat.le_of_ble_eq_true rfl)⟩
  have z2 : h2.length ≤ 93552 ∧ zsl h2 ≤ 8821594 := ⟨by rw [hh2.1]; exact Nat.le_trans m2.1 (Nat.le_of_ble_eq_true rfl), by rw [zsl_HR hh2]; exact Nat.le_trans m2.2 (Nat.le_of_ble_eq_true rfl)⟩
  have hv : ([(0, (xs (i + 1)).toInt), (0, (xs (i + 2)).toInt), (0, (xs (i + 3)).toInt)] : List zV).map (zg ν s.heap.size) = [.int (xs (i + 1)), .int (xs (i + 2)), .int (xs (i + 3))] := by simp only [List.map_cons, List.map_nil, zg0, zg2]
  have hl2 := (⟨lv_at hl 3 rfl, lv_at hl 0 rfl⟩ : Ls[0]? = some (.val (.ref b)) ∧ Ls[3]? = some (.val (.int (nI i))))
  obtain ⟨v1, rfl⟩ := q1
  obtain ⟨v2, rfl⟩ := q2
  refine lv_aload_n hx hb dL_law_891 rfl (lv_at hl 2 rfl) ?_
  refine lw_ld C0 hr (i := i) (k := 1) (n := 1) (lv := []) hl2 rfl (by omega) (by omega) dL_law_892 dL_law_893 dL_law_894 dL_law_895 dL_law_896 ?_
  refine lw_ld C0 hr (i := i) (k := 2) (n := 2) (lv := []) hl2 rfl (by omega) (by omega) dL_law_897 dL_law_898 dL_law_899 dL_law_900 dL_law_901 ?_
  refine lw_ld C0 hr (i := i) (k := 3) (n := 3) (lv := []) hl2 rfl (by omega) (by omega) dL_law_902 dL_law_903 dL_law_904 dL_law_905 dL_law_906 ?_
  refine W.eq (g2 := F0 m 907 Ls ((([(0, (xs (i + 1)).toInt), (0, (xs (i + 2)).toInt), (0, (xs (i + 3)).toInt)] : List zV).map (zg ν s.heap.size)).reverse ++ .ref (s.heap.size + 0) :: [])) (by rw [hv]; rfl) ?_
  refine lw_callV (a := 0) (ci := 7) C0 hK hr (hc F1) zq_X7_many e1 (zpos_ok (ps := [945, 946, 947]) (by decide +kernel)) c0 (by decide +kernel) rfl hl.1 (Nat.le_of_ble_eq_true rfl) z1.1 z1.2 dL_law_907 (fun H locs hr => ?_)
  refine W.eq (g2 := F0 m 910 Ls [.long (Int64.ofInt v1)]) rfl ?_
  refine lv_pop2_2 hx hb dL_law_910 rfl ?_
  refine lv_aload_n hx hb dL_law_911 rfl (lv_at hl 1 rfl) ?_
  refine lw_ld C0 hr (i := i) (k := 1) (n := 1) (lv := []) hl2 rfl (by omega) (by omega) dL_law_912 dL_law_913 dL_law_914 dL_law_915 dL_law_916 ?_
  refine lw_ld C0 hr (i := i) (k := 2) (n := 2) (lv := []) hl2 rfl (by omega) (by omega) dL_law_917 dL_law_918 dL_law_919 dL_law_920 dL_law_921 ?_
  refine lw_ld C0 hr (i := i) (k := 3) (n := 3) (lv := []) hl2 rfl (by omega) (by omega) dL_law_922 dL_law_923 dL_law_924 dL_law_925 dL_law_926 ?_
  refine W.eq (g2 := F0 m 927 Ls ((([(0, (xs (i + 1)).toInt), (0, (xs (i + 2)).toInt), (0, (xs (i + 3)).toInt)] : List zV).map (zg ν s.heap.size)).reverse ++ .ref (s.heap.size + 57) :: [])) (by rw [hv]; rfl) ?_
  refine lw_callV (a := 57) (ci := 8) C0 hK hr (hc F2) zq_X8_many e2 (zpos_ok (ps := [1483, 1484, 1485]) (by decide +kernel)) c1 (by decide +kernel) rfl hl.1 (Nat.le_of_ble_eq_true rfl) z2.1 z2.2 dL_law_927 (fun H locs hr => ?_)
  refine W.eq (g2 := F0 m 930 Ls [.long (Int64.ofInt v2)]) rfl ?_
  refine lv_pop2_2 hx hb dL_law_930 rfl ?_
  exact lv_goto (tgt := 1313) hx hb dL_law_931 (by decide) (kk H locs h2 hr ⟨G2, R2, V2, hh2, js2⟩)
theorem lwc_parts (C0 : lw_At p s m meth c b L xs) (hK : va_K D vwCl (zty cy) s) (hc : ∀ F : Nat, zCO l D cy ν s.heap.size 8 (zexec zb0 F 8)) {i k : Nat} (hi : i + 5 ≤ L) (hL : L ≤ 2560) (hk : k < 512) {h : zH} (jh : JH h k) {H : Heap} {locs : List Loc} (hr : lwR s D cy ν h H locs) {Ls : Array Slot} (hl : lv_has Ls 4 (lwl b s.heap.size 57 (nI i)))
    (kk : ∀ (H : Heap) (locs : List Loc) (h : zH), lwR s D cy ν h H locs → JH h (k + 1) → W p l e room_1 s m #[Value.ref b] below meth c H locs h.length (zsl h) (lw_Z below #[Value.ref b] s) (F0 m 1313 Ls [])) : W p l e room_1 s m #[Value.ref b] below meth c H locs h.length (zsl h) (lw_Z below #[Value.ref b] s) (F0 m 934 Ls []) := by
  obtain ⟨hx, hb, hr0, hml, hown, hts, hX, hbl, hlocks, hgv⟩ := id C0
  obtain ⟨G, R, V, hh, js⟩ := jh
  obtain ⟨r, h1, G1, R1, V1, hh1, ⟨q1, ⟨o1, m1⟩, w2⟩, F1, ex1⟩ := j_parts js hk (x1 := (xs (i + 1)).toInt) (x2 := (xs (i + 2)).toInt) (i32_x _) (i32_x _) h hh
  obtain ⟨r2, h2, G2, R2, V2, hh2, ⟨q2, js2⟩, F2, ex2⟩ := w2 h1 hh1
  have e1 := ex1 F1 (Nat.le_refl _) 8 (Nat.le_refl _)
  have e2 := ex2 F2 (Nat.le_refl _) 8 (Nat.le_refl _)
  obtain ⟨f0, c0, -⟩ := hh.2.1 0 7 (JS_room js (by omega)).1
  obtain ⟨f1, c1, -⟩ := hh1.2.1 57 8 o1
  have m2 := (JS_room js2 (by omega)).2
  have z1 : h1.length ≤ 93552 ∧ zsl h1 ≤ 8821594 := ⟨by rw [hh1.1]; exact Nat.le_trans m1.1 (Nat.le_of_ble_eq_true rfl), by rw [zsl_HR hh1]; exact Nat.le_trans m1.2 (Nat.le_of_ble_eq_true rfl)⟩
  have z2 : h2.length ≤ 93552 ∧ zsl h2 ≤ 8821594 := ⟨by rw [hh2.1]; exact Nat.le_trans m2.1 (Nat.le_of_ble_eq_true rfl), by rw [zsl_HR hh2]; exact Nat.le_trans m2.2 (Nat.le_of_ble_eq_true rfl)⟩
  have hv : ([(0, (xs (i + 1)).toInt), (0, (xs (i + 2)).toInt)] : List zV).map (zg ν s.heap.size) = [.int (xs (i + 1)), .int (xs (i + 2))] := by simp only [List.map_cons, List.map_nil, zg0, zg2]
  have hl2 := (⟨lv_at hl 3 rfl, lv_at hl 0 rfl⟩ : Ls[0]? = some (.val (.ref b)) ∧ Ls[3]? = some (.val (.int (nI i))))
  obtain ⟨v1, rfl⟩ := q1
  obtain ⟨v2, rfl⟩ := q2
  refine lv_aload_n hx hb dL_law_934 rfl (lv_at hl 2 rfl) ?_
  refine lw_ld C0 hr (i := i) (k := 1) (n := 1) (lv := []) hl2 rfl (by omega) (by omega) dL_law_935 dL_law_936 dL_law_937 dL_law_938 dL_law_939 ?_
  refine lw_ld C0 hr (i := i) (k := 2) (n := 2) (lv := []) hl2 rfl (by omega) (by omega) dL_law_940 dL_law_941 dL_law_942 dL_law_943 dL_law_944 ?_
  refine W.eq (g2 := F0 m 945 Ls ((([(0, (xs (i + 1)).toInt), (0, (xs (i + 2)).toInt)] : List zV).map (zg ν s.heap.size)).reverse ++ .ref (s.heap.size + 0) :: [])) (by rw [hv]; rfl) ?_
  refine lw_callV (a := 0) (ci := 7) C0 hK hr (hc F1) zq_X7_parts e1 (zpos_ok (ps := [954, 955, 956]) (by decide +kernel)) c0 (by decide +kernel) rfl hl.1 (Nat.le_of_ble_eq_true rfl) z1.1 z1.2 dL_law_945 (fun H locs hr => ?_)
  refine W.eq (g2 := F0 m 948 Ls [.long (Int64.ofInt v1)]) rfl ?_
  refine lv_pop2_2 hx hb dL_law_948 rfl ?_
  refine lv_aload_n hx hb dL_law_949 rfl (lv_at hl 1 rfl) ?_
  refine lw_ld C0 hr (i := i) (k := 1) (n := 1) (lv := []) hl2 rfl (by omega) (by omega) dL_law_950 dL_law_951 dL_law_952 dL_law_953 dL_law_954 ?_
  refine lw_ld C0 hr (i := i) (k := 2) (n := 2) (lv := []) hl2 rfl (by omega) (by omega) dL_law_955 dL_law_956 dL_law_957 dL_law_958 dL_law_959 ?_
  refine W.eq (g2 := F0 m 960 Ls ((([(0, (xs (i + 1)).toInt), (0, (xs (i + 2)).toInt)] : List zV).map (zg ν s.heap.size)).reverse ++ .ref (s.heap.size + 57) :: [])) (by rw [hv]; rfl) ?_
  refine lw_callV (a := 57) (ci := 8) C0 hK hr (hc F2) zq_X8_parts e2 (zpos_ok (ps := [1488, 1489, 1490]) (by decide +kernel)) c1 (by decide +kernel) rfl hl.1 (Nat.le_of_ble_eq_true rfl) z2.1 z2.2 dL_law_960 (fun H locs hr => ?_)
  refine W.eq (g2 := F0 m 963 Ls [.long (Int64.ofInt v2)]) rfl ?_
  refine lv_pop2_2 hx hb dL_law_963 rfl ?_
  exact lv_goto (tgt := 1313) hx hb dL_law_964 (by decide) (kk H locs h2 hr ⟨G2, R2, V2, hh2, js2⟩)
theorem lwc_mark (C0 : lw_At p s m meth c b L xs) (hK : va_K D vwCl (zty cy) s) (hc : ∀ F : Nat, zCO l D cy ν s.heap.size 8 (zexec zb0 F 8)) {i k : Nat} (hi : i + 5 ≤ L) (hL : L ≤ 2560) (hk : k < 512) {h : zH} (jh : JH h k) {H : Heap} {locs : List Loc} (hr : lwR s D cy ν h H locs) {Ls : Array Slot} (hl : lv_has Ls 4 (lwl b s.heap.size 57 (nI i)))
    (kk : ∀ (H : Heap) (locs : List Loc) (h : zH), lwR s D cy ν h H locs → JH h (k + 1) → W p l e room_1 s m #[Value.ref b] below meth c H locs h.length (zsl h) (lw_Z below #[Value.ref b] s) (F0 m 1313 Ls [])) : W p l e room_1 s m #[Value.ref b] below meth c H locs h.length (zsl h) (lw_Z below #[Value.ref b] s) (F0 m 967 Ls []) := by
  obtain ⟨hx, hb, hr0, hml, hown, hts, hX, hbl, hlocks, hgv⟩ := id C0
  obtain ⟨G, R, V, hh, js⟩ := jh
  obtain ⟨r, h1, G1, R1, V1, hh1, ⟨q1, ⟨o1, m1⟩, w2⟩, F1, ex1⟩ := j_mark js hk (x1 := (xs (i + 1)).toInt) (x2 := (xs (i + 2)).toInt) (i32_x _) (i32_x _) h hh
  obtain ⟨r2, h2, G2, R2, V2, hh2, ⟨q2, js2⟩, F2, ex2⟩ := w2 h1 hh1
  have e1 := ex1 F1 (Nat.le_refl _) 8 (Nat.le_refl _)
  have e2 := ex2 F2 (Nat.le_refl _) 8 (Nat.le_refl _)
  obtain ⟨f0, c0, -⟩ := hh.2.1 0 7 (JS_room js (by omega)).1
  obtain ⟨f1, c1, -⟩ := hh1.2.1 57 8 o1
  have m2 := (JS_room js2 (by omega)).2
  have z1 : h1.length ≤ 93552 ∧ zsl h1 ≤ 8821594 := ⟨by rw [hh1.1]; exact Nat.le_trans m1.1 (Nat.le_of_ble_eq_true rfl), by rw [zsl_HR hh1]; exact Nat.le_trans m1.2 (Nat.le_of_ble_eq_true rfl)⟩
  have z2 : h2.length ≤ 93552 ∧ zsl h2 ≤ 8821594 := ⟨by rw [hh2.1]; exact Nat.le_trans m2.1 (Nat.le_of_ble_eq_true rfl), by rw [zsl_HR hh2]; exact Nat.le_trans m2.2 (Nat.le_of_ble_eq_true rfl)⟩
  have hv : ([(0, (xs (i + 1)).toInt), (0, (xs (i + 2)).toInt)] : List zV).map (zg ν s.heap.size) = [.int (xs (i + 1)), .int (xs (i + 2))] := by simp only [List.map_cons, List.map_nil, zg0, zg2]
  have hl2 := (⟨lv_at hl 3 rfl, lv_at hl 0 rfl⟩ : Ls[0]? = some (.val (.ref b)) ∧ Ls[3]? = some (.val (.int (nI i))))
  obtain ⟨v1, rfl⟩ := q1
  obtain ⟨v2, rfl⟩ := q2
  refine lv_aload_n hx hb dL_law_967 rfl (lv_at hl 2 rfl) ?_
  refine lw_ld C0 hr (i := i) (k := 1) (n := 1) (lv := []) hl2 rfl (by omega) (by omega) dL_law_968 dL_law_969 dL_law_970 dL_law_971 dL_law_972 ?_
  refine lw_ld C0 hr (i := i) (k := 2) (n := 2) (lv := []) hl2 rfl (by omega) (by omega) dL_law_973 dL_law_974 dL_law_975 dL_law_976 dL_law_977 ?_
  refine W.eq (g2 := F0 m 978 Ls ((([(0, (xs (i + 1)).toInt), (0, (xs (i + 2)).toInt)] : List zV).map (zg ν s.heap.size)).reverse ++ .ref (s.heap.size + 0) :: [])) (by rw [hv]; rfl) ?_
  refine lw_callV (a := 0) (ci := 7) C0 hK hr (hc F1) zq_X7_mark e1 (zpos_ok (ps := [960, 961, 962]) (by decide +kernel)) c0 (by decide +kernel) rfl hl.1 (Nat.le_of_ble_eq_true rfl) z1.1 z1.2 dL_law_978 (fun H locs hr => ?_)
  refine W.eq (g2 := F0 m 981 Ls [.long (Int64.ofInt v1)]) rfl ?_
  refine lv_pop2_2 hx hb dL_law_981 rfl ?_
  refine lv_aload_n hx hb dL_law_982 rfl (lv_at hl 1 rfl) ?_
  refine lw_ld C0 hr (i := i) (k := 1) (n := 1) (lv := []) hl2 rfl (by omega) (by omega) dL_law_983 dL_law_984 dL_law_985 dL_law_986 dL_law_987 ?_
  refine lw_ld C0 hr (i := i) (k := 2) (n := 2) (lv := []) hl2 rfl (by omega) (by omega) dL_law_988 dL_law_989 dL_law_990 dL_law_991 dL_law_992 ?_
  refine W.eq (g2 := F0 m 993 Ls ((([(0, (xs (i + 1)).toInt), (0, (xs (i + 2)).toInt)] : List zV).map (zg ν s.heap.size)).reverse ++ .ref (s.heap.size + 57) :: [])) (by rw [hv]; rfl) ?_
  refine lw_callV (a := 57) (ci := 8) C0 hK hr (hc F2) zq_X8_mark e2 (zpos_ok (ps := [1492, 1493, 1494]) (by decide +kernel)) c1 (by decide +kernel) rfl hl.1 (Nat.le_of_ble_eq_true rfl) z2.1 z2.2 dL_law_993 (fun H locs hr => ?_)
  refine W.eq (g2 := F0 m 996 Ls [.long (Int64.ofInt v2)]) rfl ?_
  refine lv_pop2_2 hx hb dL_law_996 rfl ?_
  exact lv_goto (tgt := 1313) hx hb dL_law_997 (by decide) (kk H locs h2 hr ⟨G2, R2, V2, hh2, js2⟩)
theorem lwc_act (C0 : lw_At p s m meth c b L xs) (hK : va_K D vwCl (zty cy) s) (hc : ∀ F : Nat, zCO l D cy ν s.heap.size 8 (zexec zb0 F 8)) {i k : Nat} (hi : i + 5 ≤ L) (hL : L ≤ 2560) (hk : k < 512) {h : zH} (jh : JH h k) {H : Heap} {locs : List Loc} (hr : lwR s D cy ν h H locs) {Ls : Array Slot} (hl : lv_has Ls 4 (lwl b s.heap.size 57 (nI i)))
    (kk : ∀ (H : Heap) (locs : List Loc) (h : zH), lwR s D cy ν h H locs → JH h (k + 1) → W p l e room_1 s m #[Value.ref b] below meth c H locs h.length (zsl h) (lw_Z below #[Value.ref b] s) (F0 m 1313 Ls [])) : W p l e room_1 s m #[Value.ref b] below meth c H locs h.length (zsl h) (lw_Z below #[Value.ref b] s) (F0 m 1000 Ls []) := by
  obtain ⟨hx, hb, hr0, hml, hown, hts, hX, hbl, hlocks, hgv⟩ := id C0
  obtain ⟨G, R, V, hh, js⟩ := jh
  obtain ⟨r, h1, G1, R1, V1, hh1, ⟨q1, ⟨o1, m1⟩, w2⟩, F1, ex1⟩ := j_act js hk (x1 := (xs (i + 1)).toInt) (x2 := (xs (i + 2)).toInt) (x3 := (xs (i + 3)).toInt) (i32_x _) (i32_x _) (i32_x _) h hh
  obtain ⟨r2, h2, G2, R2, V2, hh2, ⟨q2, js2⟩, F2, ex2⟩ := w2 h1 hh1
  have e1 := ex1 F1 (Nat.le_refl _) 8 (Nat.le_refl _)
  have e2 := ex2 F2 (Nat.le_refl _) 8 (Nat.le_refl _)
  obtain ⟨f0, c0, -⟩ := hh.2.1 0 7 (JS_room js (by omega)).1
  obtain ⟨f1, c1, -⟩ := hh1.2.1 57 8 o1
  have m2 := (JS_room js2 (by omega)).2
  have z1 : h1.length ≤ 93552 ∧ zsl h1 ≤ 8821594 := ⟨by rw [hh1.1]; exact Nat.le_trans m1.1 (Nat.le_of_ble_eq_true rfl), by rw [zsl_HR hh1]; exact Nat.le_trans m1.2 (Nat.le_of_ble_eq_true rfl)⟩
  have z2 : h2.length ≤ 93552 ∧ zsl h2 ≤ 8821594 := ⟨by rw [hh2.1]; exact Nat.le_trans m2.1 (Nat.le_of_ble_eq_true rfl), by rw [zsl_HR hh2]; exact Nat.le_trans m2.2 (Nat.le_of_ble_eq_true rfl)⟩
  have hv : ([(0, (xs (i + 1)).toInt), (0, (xs (i + 2)).toInt), (0, (xs (i + 3)).toInt)] : List zV).map (zg ν s.heap.size) = [.int (xs (i + 1)), .int (xs (i + 2)), .int (xs (i + 3))] := by simp only [List.map_cons, List.map_nil, zg0, zg2]
  have hl2 := (⟨lv_at hl 3 rfl, lv_at hl 0 rfl⟩ : Ls[0]? = some (.val (.ref b)) ∧ Ls[3]? = some (.val (.int (nI i))))
  obtain ⟨v1, rfl⟩ := q1
  obtain ⟨v2, rfl⟩ := q2
  refine lv_aload_n hx hb dL_law_1000 rfl (lv_at hl 2 rfl) ?_
  refine lw_ld C0 hr (i := i) (k := 1) (n := 1) (lv := []) hl2 rfl (by omega) (by omega) dL_law_1001 dL_law_1002 dL_law_1003 dL_law_1004 dL_law_1005 ?_
  refine lw_ld C0 hr (i := i) (k := 2) (n := 2) (lv := []) hl2 rfl (by omega) (by omega) dL_law_1006 dL_law_1007 dL_law_1008 dL_law_1009 dL_law_1010 ?_
  refine lw_ld C0 hr (i := i) (k := 3) (n := 3) (lv := []) hl2 rfl (by omega) (by omega) dL_law_1011 dL_law_1012 dL_law_1013 dL_law_1014 dL_law_1015 ?_
  refine W.eq (g2 := F0 m 1016 Ls ((([(0, (xs (i + 1)).toInt), (0, (xs (i + 2)).toInt), (0, (xs (i + 3)).toInt)] : List zV).map (zg ν s.heap.size)).reverse ++ .ref (s.heap.size + 0) :: [])) (by rw [hv]; rfl) ?_
  refine lw_callV (a := 0) (ci := 7) C0 hK hr (hc F1) zq_X7_act e1 (zpos_ok (ps := [965, 966, 967]) (by decide +kernel)) c0 (by decide +kernel) rfl hl.1 (Nat.le_of_ble_eq_true rfl) z1.1 z1.2 dL_law_1016 (fun H locs hr => ?_)
  refine W.eq (g2 := F0 m 1019 Ls [.long (Int64.ofInt v1)]) rfl ?_
  refine lv_pop2_2 hx hb dL_law_1019 rfl ?_
  refine lv_aload_n hx hb dL_law_1020 rfl (lv_at hl 1 rfl) ?_
  refine lw_ld C0 hr (i := i) (k := 1) (n := 1) (lv := []) hl2 rfl (by omega) (by omega) dL_law_1021 dL_law_1022 dL_law_1023 dL_law_1024 dL_law_1025 ?_
  refine lw_ld C0 hr (i := i) (k := 2) (n := 2) (lv := []) hl2 rfl (by omega) (by omega) dL_law_1026 dL_law_1027 dL_law_1028 dL_law_1029 dL_law_1030 ?_
  refine lw_ld C0 hr (i := i) (k := 3) (n := 3) (lv := []) hl2 rfl (by omega) (by omega) dL_law_1031 dL_law_1032 dL_law_1033 dL_law_1034 dL_law_1035 ?_
  refine W.eq (g2 := F0 m 1036 Ls ((([(0, (xs (i + 1)).toInt), (0, (xs (i + 2)).toInt), (0, (xs (i + 3)).toInt)] : List zV).map (zg ν s.heap.size)).reverse ++ .ref (s.heap.size + 57) :: [])) (by rw [hv]; rfl) ?_
  refine lw_callV (a := 57) (ci := 8) C0 hK hr (hc F2) zq_X8_act e2 (zpos_ok (ps := [1496, 1497, 1498]) (by decide +kernel)) c1 (by decide +kernel) rfl hl.1 (Nat.le_of_ble_eq_true rfl) z2.1 z2.2 dL_law_1036 (fun H locs hr => ?_)
  refine W.eq (g2 := F0 m 1039 Ls [.long (Int64.ofInt v2)]) rfl ?_
  refine lv_pop2_2 hx hb dL_law_1039 rfl ?_
  exact lv_goto (tgt := 1313) hx hb dL_law_1040 (by decide) (kk H locs h2 hr ⟨G2, R2, V2, hh2, js2⟩)
theorem lwc_same (C0 : lw_At p s m meth c b L xs) (hK : va_K D vwCl (zty cy) s) (hc : ∀ F : Nat, zCO l D cy ν s.heap.size 8 (zexec zb0 F 8)) {i k : Nat} (hi : i + 5 ≤ L) (hL : L ≤ 2560) (hk : k < 512) {h : zH} (jh : JH h k) {H : Heap} {locs : List Loc} (hr : lwR s D cy ν h H locs) {Ls : Array Slot} (hl : lv_has Ls 4 (lwl b s.heap.size 57 (nI i)))
    (kk : ∀ (H : Heap) (locs : List Loc) (h : zH), lwR s D cy ν h H locs → JH h (k + 1) → W p l e room_1 s m #[Value.ref b] below meth c H locs h.length (zsl h) (lw_Z below #[Value.ref b] s) (F0 m 1313 Ls [])) : W p l e room_1 s m #[Value.ref b] below meth c H locs h.length (zsl h) (lw_Z below #[Value.ref b] s) (F0 m 1043 Ls []) := by
  obtain ⟨hx, hb, hr0, hml, hown, hts, hX, hbl, hlocks, hgv⟩ := id C0
  obtain ⟨G, R, V, hh, js⟩ := jh
  obtain ⟨r, h1, G1, R1, V1, hh1, ⟨q1, ⟨o1, m1⟩, w2⟩, F1, ex1⟩ := j_same js hk (x1 := (xs (i + 1)).toInt) (x2 := (xs (i + 2)).toInt) (i32_x _) (i32_x _) h hh
  obtain ⟨r2, h2, G2, R2, V2, hh2, ⟨q2, js2⟩, F2, ex2⟩ := w2 h1 hh1
  have e1 := ex1 F1 (Nat.le_refl _) 8 (Nat.le_refl _)
  have e2 := ex2 F2 (Nat.le_refl _) 8 (Nat.le_refl _)
  obtain ⟨f0, c0, -⟩ := hh.2.1 0 7 (JS_room js (by omega)).1
  obtain ⟨f1, c1, -⟩ := hh1.2.1 57 8 o1
  have m2 := (JS_room js2 (by omega)).2
  have z1 : h1.length ≤ 93552 ∧ zsl h1 ≤ 8821594 := ⟨by rw [hh1.1]; exact Nat.le_trans m1.1 (Nat.le_of_ble_eq_true rfl), by rw [zsl_HR hh1]; exact Nat.le_trans m1.2 (Nat.le_of_ble_eq_true rfl)⟩
  have z2 : h2.length ≤ 93552 ∧ zsl h2 ≤ 8821594 := ⟨by rw [hh2.1]; exact Nat.le_trans m2.1 (Nat.le_of_ble_eq_true rfl), by rw [zsl_HR hh2]; exact Nat.le_trans m2.2 (Nat.le_of_ble_eq_true rfl)⟩
  have hv : ([(0, (xs (i + 1)).toInt), (0, (xs (i + 2)).toInt)] : List zV).map (zg ν s.heap.size) = [.int (xs (i + 1)), .int (xs (i + 2))] := by simp only [List.map_cons, List.map_nil, zg0, zg2]
  have hl2 := (⟨lv_at hl 3 rfl, lv_at hl 0 rfl⟩ : Ls[0]? = some (.val (.ref b)) ∧ Ls[3]? = some (.val (.int (nI i))))
  obtain ⟨v1, rfl⟩ := q1
  obtain ⟨v2, rfl⟩ := q2
  refine lv_aload_n hx hb dL_law_1043 rfl (lv_at hl 2 rfl) ?_
  refine lw_ld C0 hr (i := i) (k := 1) (n := 1) (lv := []) hl2 rfl (by omega) (by omega) dL_law_1044 dL_law_1045 dL_law_1046 dL_law_1047 dL_law_1048 ?_
  refine lw_ld C0 hr (i := i) (k := 2) (n := 2) (lv := []) hl2 rfl (by omega) (by omega) dL_law_1049 dL_law_1050 dL_law_1051 dL_law_1052 dL_law_1053 ?_
  refine W.eq (g2 := F0 m 1054 Ls ((([(0, (xs (i + 1)).toInt), (0, (xs (i + 2)).toInt)] : List zV).map (zg ν s.heap.size)).reverse ++ .ref (s.heap.size + 0) :: [])) (by rw [hv]; rfl) ?_
  refine lw_callV (a := 0) (ci := 7) C0 hK hr (hc F1) zq_X7_same e1 (zpos_ok (ps := [981, 982, 983]) (by decide +kernel)) c0 (by decide +kernel) rfl hl.1 (Nat.le_of_ble_eq_true rfl) z1.1 z1.2 dL_law_1054 (fun H locs hr => ?_)
  refine W.eq (g2 := F0 m 1057 Ls [.int (Int32.ofInt v1)]) rfl ?_
  refine lv_pop hx hb dL_law_1057 rfl ?_
  refine lv_aload_n hx hb dL_law_1058 rfl (lv_at hl 1 rfl) ?_
  refine lw_ld C0 hr (i := i) (k := 1) (n := 1) (lv := []) hl2 rfl (by omega) (by omega) dL_law_1059 dL_law_1060 dL_law_1061 dL_law_1062 dL_law_1063 ?_
  refine lw_ld C0 hr (i := i) (k := 2) (n := 2) (lv := []) hl2 rfl (by omega) (by omega) dL_law_1064 dL_law_1065 dL_law_1066 dL_law_1067 dL_law_1068 ?_
  refine W.eq (g2 := F0 m 1069 Ls ((([(0, (xs (i + 1)).toInt), (0, (xs (i + 2)).toInt)] : List zV).map (zg ν s.heap.size)).reverse ++ .ref (s.heap.size + 57) :: [])) (by rw [hv]; rfl) ?_
  refine lw_callV (a := 57) (ci := 8) C0 hK hr (hc F2) zq_X8_same e2 (zpos_ok (ps := [1505, 1506, 1507]) (by decide +kernel)) c1 (by decide +kernel) rfl hl.1 (Nat.le_of_ble_eq_true rfl) z2.1 z2.2 dL_law_1069 (fun H locs hr => ?_)
  refine W.eq (g2 := F0 m 1072 Ls [.int (Int32.ofInt v2)]) rfl ?_
  refine lv_pop hx hb dL_law_1072 rfl ?_
  exact lv_goto (tgt := 1313) hx hb dL_law_1073 (by decide) (kk H locs h2 hr ⟨G2, R2, V2, hh2, js2⟩)
theorem lwc_maps (C0 : lw_At p s m meth c b L xs) (hK : va_K D vwCl (zty cy) s) (hc : ∀ F : Nat, zCO l D cy ν s.heap.size 8 (zexec zb0 F 8)) {i k : Nat} (hi : i + 5 ≤ L) (hL : L ≤ 2560) (hk : k < 512) {h : zH} (jh : JH h k) {H : Heap} {locs : List Loc} (hr : lwR s D cy ν h H locs) {Ls : Array Slot} (hl : lv_has Ls 4 (lwl b s.heap.size 57 (nI i)))
    (kk : ∀ (H : Heap) (locs : List Loc) (h : zH), lwR s D cy ν h H locs → JH h (k + 1) → W p l e room_1 s m #[Value.ref b] below meth c H locs h.length (zsl h) (lw_Z below #[Value.ref b] s) (F0 m 1313 Ls [])) : W p l e room_1 s m #[Value.ref b] below meth c H locs h.length (zsl h) (lw_Z below #[Value.ref b] s) (F0 m 1076 Ls []) := by
  obtain ⟨hx, hb, hr0, hml, hown, hts, hX, hbl, hlocks, hgv⟩ := id C0
  obtain ⟨G, R, V, hh, js⟩ := jh
  obtain ⟨r, h1, G1, R1, V1, hh1, ⟨q1, ⟨o1, m1⟩, w2⟩, F1, ex1⟩ := j_maps js hk (x1 := (xs (i + 1)).toInt) (x2 := (xs (i + 2)).toInt) (x3 := (xs (i + 3)).toInt) (i32_x _) (i32_x _) (i32_x _) h hh
  obtain ⟨r2, h2, G2, R2, V2, hh2, ⟨q2, js2⟩, F2, ex2⟩ := w2 h1 hh1
  have e1 := ex1 F1 (Nat.le_refl _) 8 (Nat.le_refl _)
  have e2 := ex2 F2 (Nat.le_refl _) 8 (Nat.le_refl _)
  obtain ⟨f0, c0, -⟩ := hh.2.1 0 7 (JS_room js (by omega)).1
  obtain ⟨f1, c1, -⟩ := hh1.2.1 57 8 o1
  have m2 := (JS_room js2 (by omega)).2
  have z1 : h1.length ≤ 93552 ∧ zsl h1 ≤ 8821594 := ⟨by rw [hh1.1]; exact Nat.le_trans m1.1 (Nat.le_of_ble_eq_true rfl), by rw [zsl_HR hh1]; exact Nat.le_trans m1.2 (Nat.le_of_ble_eq_true rfl)⟩
  have z2 : h2.length ≤ 93552 ∧ zsl h2 ≤ 8821594 := ⟨by rw [hh2.1]; exact Nat.le_trans m2.1 (Nat.le_of_ble_eq_true rfl), by rw [zsl_HR hh2]; exact Nat.le_trans m2.2 (Nat.le_of_ble_eq_true rfl)⟩
  have hv : ([(0, (xs (i + 1)).toInt), (0, (xs (i + 2)).toInt), (0, (xs (i + 3)).toInt)] : List zV).map (zg ν s.heap.size) = [.int (xs (i + 1)), .int (xs (i + 2)), .int (xs (i + 3))] := by simp only [List.map_cons, List.map_nil, zg0, zg2]
  have hl2 := (⟨lv_at hl 3 rfl, lv_at hl 0 rfl⟩ : Ls[0]? = some (.val (.ref b)) ∧ Ls[3]? = some (.val (.int (nI i))))
  obtain ⟨v1, rfl⟩ := q1
  obtain ⟨v2, rfl⟩ := q2
  refine lv_aload_n hx hb dL_law_1076 rfl (lv_at hl 2 rfl) ?_
  refine lw_ld C0 hr (i := i) (k := 1) (n := 1) (lv := []) hl2 rfl (by omega) (by omega) dL_law_1077 dL_law_1078 dL_law_1079 dL_law_1080 dL_law_1081 ?_
  refine lw_ld C0 hr (i := i) (k := 2) (n := 2) (lv := []) hl2 rfl (by omega) (by omega) dL_law_1082 dL_law_1083 dL_law_1084 dL_law_1085 dL_law_1086 ?_
  refine lw_ld C0 hr (i := i) (k := 3) (n := 3) (lv := []) hl2 rfl (by omega) (by omega) dL_law_1087 dL_law_1088 dL_law_1089 dL_law_1090 dL_law_1091 ?_
  refine W.eq (g2 := F0 m 1092 Ls ((([(0, (xs (i + 1)).toInt), (0, (xs (i + 2)).toInt), (0, (xs (i + 3)).toInt)] : List zV).map (zg ν s.heap.size)).reverse ++ .ref (s.heap.size + 0) :: [])) (by rw [hv]; rfl) ?_
  refine lw_callV (a := 0) (ci := 7) C0 hK hr (hc F1) zq_X7_maps e1 (zpos_ok (ps := [989, 990, 991]) (by decide +kernel)) c0 (by decide +kernel) rfl hl.1 (Nat.le_of_ble_eq_true rfl) z1.1 z1.2 dL_law_1092 (fun H locs hr => ?_)
  refine W.eq (g2 := F0 m 1095 Ls [.long (Int64.ofInt v1)]) rfl ?_
  refine lv_pop2_2 hx hb dL_law_1095 rfl ?_
  refine lv_aload_n hx hb dL_law_1096 rfl (lv_at hl 1 rfl) ?_
  refine lw_ld C0 hr (i := i) (k := 1) (n := 1) (lv := []) hl2 rfl (by omega) (by omega) dL_law_1097 dL_law_1098 dL_law_1099 dL_law_1100 dL_law_1101 ?_
  refine lw_ld C0 hr (i := i) (k := 2) (n := 2) (lv := []) hl2 rfl (by omega) (by omega) dL_law_1102 dL_law_1103 dL_law_1104 dL_law_1105 dL_law_1106 ?_
  refine lw_ld C0 hr (i := i) (k := 3) (n := 3) (lv := []) hl2 rfl (by omega) (by omega) dL_law_1107 dL_law_1108 dL_law_1109 dL_law_1110 dL_law_1111 ?_
  refine W.eq (g2 := F0 m 1112 Ls ((([(0, (xs (i + 1)).toInt), (0, (xs (i + 2)).toInt), (0, (xs (i + 3)).toInt)] : List zV).map (zg ν s.heap.size)).reverse ++ .ref (s.heap.size + 57) :: [])) (by rw [hv]; rfl) ?_
  refine lw_callV (a := 57) (ci := 8) C0 hK hr (hc F2) zq_X8_maps e2 (zpos_ok (ps := [1509, 1510, 1511]) (by decide +kernel)) c1 (by decide +kernel) rfl hl.1 (Nat.le_of_ble_eq_true rfl) z2.1 z2.2 dL_law_1112 (fun H locs hr => ?_)
  refine W.eq (g2 := F0 m 1115 Ls [.long (Int64.ofInt v2)]) rfl ?_
  refine lv_pop2_2 hx hb dL_law_1115 rfl ?_
  exact lv_goto (tgt := 1313) hx hb dL_law_1116 (by decide) (kk H locs h2 hr ⟨G2, R2, V2, hh2, js2⟩)
theorem lwc_row (C0 : lw_At p s m meth c b L xs) (hK : va_K D vwCl (zty cy) s) (hc : ∀ F : Nat, zCO l D cy ν s.heap.size 8 (zexec zb0 F 8)) {i k : Nat} (hi : i + 5 ≤ L) (hL : L ≤ 2560) (hk : k < 512) {h : zH} (jh : JH h k) {H : Heap} {locs : List Loc} (hr : lwR s D cy ν h H locs) {Ls : Array Slot} (hl : lv_has Ls 4 (lwl b s.heap.size 57 (nI i)))
    (kk : ∀ (H : Heap) (locs : List Loc) (h : zH), lwR s D cy ν h H locs → JH h (k + 1) → W p l e room_1 s m #[Value.ref b] below meth c H locs h.length (zsl h) (lw_Z below #[Value.ref b] s) (F0 m 1313 Ls [])) : W p l e room_1 s m #[Value.ref b] below meth c H locs h.length (zsl h) (lw_Z below #[Value.ref b] s) (F0 m 1119 Ls []) := by
  obtain ⟨hx, hb, hr0, hml, hown, hts, hX, hbl, hlocks, hgv⟩ := id C0
  obtain ⟨G, R, V, hh, js⟩ := jh
  obtain ⟨r, h1, G1, R1, V1, hh1, ⟨q1, ⟨o1, m1⟩, w2⟩, F1, ex1⟩ := j_row js hk (x1 := (((xs (i + 1)).toInt64 <<< ((32 : Int32).toInt64 &&& 63)) ||| ((xs (i + 2)).toInt64 &&& 4294967295)).toInt) (i64_x _) h hh
  obtain ⟨r2, h2, G2, R2, V2, hh2, ⟨q2, js2⟩, F2, ex2⟩ := w2 h1 hh1
  have e1 := ex1 F1 (Nat.le_refl _) 8 (Nat.le_refl _)
  have e2 := ex2 F2 (Nat.le_refl _) 8 (Nat.le_refl _)
  obtain ⟨f0, c0, -⟩ := hh.2.1 0 7 (JS_room js (by omega)).1
  obtain ⟨f1, c1, -⟩ := hh1.2.1 57 8 o1
  have m2 := (JS_room js2 (by omega)).2
  have z1 : h1.length ≤ 93552 ∧ zsl h1 ≤ 8821594 := ⟨by rw [hh1.1]; exact Nat.le_trans m1.1 (Nat.le_of_ble_eq_true rfl), by rw [zsl_HR hh1]; exact Nat.le_trans m1.2 (Nat.le_of_ble_eq_true rfl)⟩
  have z2 : h2.length ≤ 93552 ∧ zsl h2 ≤ 8821594 := ⟨by rw [hh2.1]; exact Nat.le_trans m2.1 (Nat.le_of_ble_eq_true rfl), by rw [zsl_HR hh2]; exact Nat.le_trans m2.2 (Nat.le_of_ble_eq_true rfl)⟩
  have hv : ([(2, (((xs (i + 1)).toInt64 <<< ((32 : Int32).toInt64 &&& 63)) ||| ((xs (i + 2)).toInt64 &&& 4294967295)).toInt)] : List zV).map (zg ν s.heap.size) = [.long (((xs (i + 1)).toInt64 <<< ((32 : Int32).toInt64 &&& 63)) ||| ((xs (i + 2)).toInt64 &&& 4294967295))] := by simp only [List.map_cons, List.map_nil, zg0, zg2]
  have hl2 := (⟨lv_at hl 3 rfl, lv_at hl 0 rfl⟩ : Ls[0]? = some (.val (.ref b)) ∧ Ls[3]? = some (.val (.int (nI i))))
  subst q1
  subst q2
  refine lv_aload_n hx hb dL_law_1119 rfl (lv_at hl 2 rfl) ?_
  refine lw_ld C0 hr (i := i) (k := 1) (n := 1) (lv := []) hl2 rfl (by omega) (by omega) dL_law_1120 dL_law_1121 dL_law_1122 dL_law_1123 dL_law_1124 ?_
  refine lv_i2l hx hb dL_law_1125 rfl ?_
  refine lv_bipush (v := 32) hx hb dL_law_1126 (by decide) ?_
  refine lv_lshl hx hb dL_law_1128 rfl ?_
  refine lw_ld C0 hr (i := i) (k := 2) (n := 2) (lv := []) hl2 rfl (by omega) (by omega) dL_law_1129 dL_law_1130 dL_law_1131 dL_law_1132 dL_law_1133 ?_
  refine lv_i2l hx hb dL_law_1134 rfl ?_
  refine lv_ldc2 (v := 4294967295) hx hb hown (hts _ (List.mem_of_getElem? (i := 1555) (by decide +kernel))) dL_law_1135 ?_
  refine lv_land hx hb dL_law_1138 ?_
  refine lv_lor hx hb dL_law_1139 ?_
  refine W.eq (g2 := F0 m 1140 Ls ((([(2, (((xs (i + 1)).toInt64 <<< ((32 : Int32).toInt64 &&& 63)) ||| ((xs (i + 2)).toInt64 &&& 4294967295)).toInt)] : List zV).map (zg ν s.heap.size)).reverse ++ .ref (s.heap.size + 0) :: [])) (by rw [hv]; rfl) ?_
  refine lw_callV (a := 0) (ci := 7) C0 hK hr (hc F1) zq_X7_row e1 (zpos_ok (ps := [1009, 1010, 1011]) (by decide +kernel)) c0 (by decide +kernel) rfl hl.1 (Nat.le_of_ble_eq_true rfl) z1.1 z1.2 dL_law_1140 (fun H locs hr => ?_)
  refine W.eq (g2 := F0 m 1143 Ls [.int (Int32.ofInt (rwA (V 57 13) (V 57 35) (((xs (i + 1)).toInt64 <<< ((32 : Int32).toInt64 &&& 63)) ||| ((xs (i + 2)).toInt64 &&& 4294967295)).toInt))]) rfl ?_
  refine lv_pop hx hb dL_law_1143 rfl ?_
  refine lv_aload_n hx hb dL_law_1144 rfl (lv_at hl 1 rfl) ?_
  refine lw_ld C0 hr (i := i) (k := 1) (n := 1) (lv := []) hl2 rfl (by omega) (by omega) dL_law_1145 dL_law_1146 dL_law_1147 dL_law_1148 dL_law_1149 ?_
  refine lv_i2l hx hb dL_law_1150 rfl ?_
  refine lv_bipush (v := 32) hx hb dL_law_1151 (by decide) ?_
  refine lv_lshl hx hb dL_law_1153 rfl ?_
  refine lw_ld C0 hr (i := i) (k := 2) (n := 2) (lv := []) hl2 rfl (by omega) (by omega) dL_law_1154 dL_law_1155 dL_law_1156 dL_law_1157 dL_law_1158 ?_
  refine lv_i2l hx hb dL_law_1159 rfl ?_
  refine lv_ldc2 (v := 4294967295) hx hb hown (hts _ (List.mem_of_getElem? (i := 1555) (by decide +kernel))) dL_law_1160 ?_
  refine lv_land hx hb dL_law_1163 ?_
  refine lv_lor hx hb dL_law_1164 ?_
  refine W.eq (g2 := F0 m 1165 Ls ((([(2, (((xs (i + 1)).toInt64 <<< ((32 : Int32).toInt64 &&& 63)) ||| ((xs (i + 2)).toInt64 &&& 4294967295)).toInt)] : List zV).map (zg ν s.heap.size)).reverse ++ .ref (s.heap.size + 57) :: [])) (by rw [hv]; rfl) ?_
  refine lw_callV (a := 57) (ci := 8) C0 hK hr (hc F2) zq_X8_row e2 (zpos_ok (ps := [1513, 1514, 1515]) (by decide +kernel)) c1 (by decide +kernel) rfl hl.1 (Nat.le_of_ble_eq_true rfl) z2.1 z2.2 dL_law_1165 (fun H locs hr => ?_)
  refine W.eq (g2 := F0 m 1168 Ls [.int (Int32.ofInt (rwA (V 57 13) (V 57 35) (((xs (i + 1)).toInt64 <<< ((32 : Int32).toInt64 &&& 63)) ||| ((xs (i + 2)).toInt64 &&& 4294967295)).toInt))]) rfl ?_
  refine lv_pop hx hb dL_law_1168 rfl ?_
  exact lv_goto (tgt := 1313) hx hb dL_law_1169 (by decide) (kk H locs h2 hr ⟨G2, R2, V2, hh2, js2⟩)
theorem lwc_check (C0 : lw_At p s m meth c b L xs) (hK : va_K D vwCl (zty cy) s) (hc : ∀ F : Nat, zCO l D cy ν s.heap.size 8 (zexec zb0 F 8)) {i k : Nat} (hi : i + 5 ≤ L) (hL : L ≤ 2560) (hk : k < 512) {h : zH} (jh : JH h k) {H : Heap} {locs : List Loc} (hr : lwR s D cy ν h H locs) {Ls : Array Slot} (hl : lv_has Ls 4 (lwl b s.heap.size 57 (nI i)))
    (kk : ∀ (H : Heap) (locs : List Loc) (h : zH), lwR s D cy ν h H locs → JH h (k + 1) → W p l e room_1 s m #[Value.ref b] below meth c H locs h.length (zsl h) (lw_Z below #[Value.ref b] s) (F0 m 1313 Ls [])) : W p l e room_1 s m #[Value.ref b] below meth c H locs h.length (zsl h) (lw_Z below #[Value.ref b] s) (F0 m 1172 Ls []) := by
  obtain ⟨hx, hb, hr0, hml, hown, hts, hX, hbl, hlocks, hgv⟩ := id C0
  obtain ⟨G, R, V, hh, js⟩ := jh
  obtain ⟨r, h1, G1, R1, V1, hh1, ⟨q1, ⟨o1, m1⟩, w2⟩, F1, ex1⟩ := j_check js hk (x1 := (xs (i + 1)).toInt) (i32_x _) h hh
  obtain ⟨r2, h2, G2, R2, V2, hh2, ⟨q2, js2⟩, F2, ex2⟩ := w2 h1 hh1
  have e1 := ex1 F1 (Nat.le_refl _) 8 (Nat.le_refl _)
  have e2 := ex2 F2 (Nat.le_refl _) 8 (Nat.le_refl _)
  obtain ⟨f0, c0, -⟩ := hh.2.1 0 7 (JS_room js (by omega)).1
  obtain ⟨f1, c1, -⟩ := hh1.2.1 57 8 o1
  have m2 := (JS_room js2 (by omega)).2
  have z1 : h1.length ≤ 93552 ∧ zsl h1 ≤ 8821594 := ⟨by rw [hh1.1]; exact Nat.le_trans m1.1 (Nat.le_of_ble_eq_true rfl), by rw [zsl_HR hh1]; exact Nat.le_trans m1.2 (Nat.le_of_ble_eq_true rfl)⟩
  have z2 : h2.length ≤ 93552 ∧ zsl h2 ≤ 8821594 := ⟨by rw [hh2.1]; exact Nat.le_trans m2.1 (Nat.le_of_ble_eq_true rfl), by rw [zsl_HR hh2]; exact Nat.le_trans m2.2 (Nat.le_of_ble_eq_true rfl)⟩
  have hv : ([(0, (xs (i + 1)).toInt)] : List zV).map (zg ν s.heap.size) = [.int (xs (i + 1))] := by simp only [List.map_cons, List.map_nil, zg0, zg2]
  have hl2 := (⟨lv_at hl 3 rfl, lv_at hl 0 rfl⟩ : Ls[0]? = some (.val (.ref b)) ∧ Ls[3]? = some (.val (.int (nI i))))
  subst q1
  subst q2
  refine lv_aload_n hx hb dL_law_1172 rfl (lv_at hl 2 rfl) ?_
  refine lw_ld C0 hr (i := i) (k := 1) (n := 1) (lv := []) hl2 rfl (by omega) (by omega) dL_law_1173 dL_law_1174 dL_law_1175 dL_law_1176 dL_law_1177 ?_
  refine W.eq (g2 := F0 m 1178 Ls ((([(0, (xs (i + 1)).toInt)] : List zV).map (zg ν s.heap.size)).reverse ++ .ref (s.heap.size + 0) :: [])) (by rw [hv]; rfl) ?_
  refine lw_callV (a := 0) (ci := 7) C0 hK hr (hc F1) zq_X7_check e1 (zpos_ok (ps := [1015, 1016, 1017]) (by decide +kernel)) c0 (by decide +kernel) rfl hl.1 (Nat.le_of_ble_eq_true rfl) z1.1 z1.2 dL_law_1178 (fun H locs hr => ?_)
  refine W.eq (g2 := F0 m 1181 Ls [.int (Int32.ofInt (ckV V))]) rfl ?_
  refine lv_pop hx hb dL_law_1181 rfl ?_
  refine lv_aload_n hx hb dL_law_1182 rfl (lv_at hl 1 rfl) ?_
  refine lw_ld C0 hr (i := i) (k := 1) (n := 1) (lv := []) hl2 rfl (by omega) (by omega) dL_law_1183 dL_law_1184 dL_law_1185 dL_law_1186 dL_law_1187 ?_
  refine W.eq (g2 := F0 m 1188 Ls ((([(0, (xs (i + 1)).toInt)] : List zV).map (zg ν s.heap.size)).reverse ++ .ref (s.heap.size + 57) :: [])) (by rw [hv]; rfl) ?_
  refine lw_callV (a := 57) (ci := 8) C0 hK hr (hc F2) zq_X8_check e2 (zpos_ok (ps := [1519, 1520, 1521]) (by decide +kernel)) c1 (by decide +kernel) rfl hl.1 (Nat.le_of_ble_eq_true rfl) z2.1 z2.2 dL_law_1188 (fun H locs hr => ?_)
  refine W.eq (g2 := F0 m 1191 Ls [.int (Int32.ofInt (ckV V))]) rfl ?_
  refine lv_pop hx hb dL_law_1191 rfl ?_
  exact lv_goto (tgt := 1313) hx hb dL_law_1192 (by decide) (kk H locs h2 hr ⟨G2, R2, V2, hh2, js2⟩)
theorem lwc_misfit (C0 : lw_At p s m meth c b L xs) (hK : va_K D vwCl (zty cy) s) (hc : ∀ F : Nat, zCO l D cy ν s.heap.size 8 (zexec zb0 F 8)) {i k : Nat} (hi : i + 5 ≤ L) (hL : L ≤ 2560) (hk : k < 512) {h : zH} (jh : JH h k) {H : Heap} {locs : List Loc} (hr : lwR s D cy ν h H locs) {Ls : Array Slot} (hl : lv_has Ls 4 (lwl b s.heap.size 57 (nI i)))
    (kk : ∀ (H : Heap) (locs : List Loc) (h : zH), lwR s D cy ν h H locs → JH h (k + 1) → W p l e room_1 s m #[Value.ref b] below meth c H locs h.length (zsl h) (lw_Z below #[Value.ref b] s) (F0 m 1313 Ls [])) : W p l e room_1 s m #[Value.ref b] below meth c H locs h.length (zsl h) (lw_Z below #[Value.ref b] s) (F0 m 1195 Ls []) := by
  obtain ⟨hx, hb, hr0, hml, hown, hts, hX, hbl, hlocks, hgv⟩ := id C0
  obtain ⟨G, R, V, hh, js⟩ := jh
  obtain ⟨r, h1, G1, R1, V1, hh1, ⟨q1, ⟨o1, m1⟩, w2⟩, F1, ex1⟩ := j_misfit js hk   h hh
  obtain ⟨r2, h2, G2, R2, V2, hh2, ⟨q2, js2⟩, F2, ex2⟩ := w2 h1 hh1
  have e1 := ex1 F1 (Nat.le_refl _) 8 (Nat.le_refl _)
  have e2 := ex2 F2 (Nat.le_refl _) 8 (Nat.le_refl _)
  obtain ⟨f0, c0, -⟩ := hh.2.1 0 7 (JS_room js (by omega)).1
  obtain ⟨f1, c1, -⟩ := hh1.2.1 57 8 o1
  have m2 := (JS_room js2 (by omega)).2
  have z1 : h1.length ≤ 93552 ∧ zsl h1 ≤ 8821594 := ⟨by rw [hh1.1]; exact Nat.le_trans m1.1 (Nat.le_of_ble_eq_true rfl), by rw [zsl_HR hh1]; exact Nat.le_trans m1.2 (Nat.le_of_ble_eq_true rfl)⟩
  have z2 : h2.length ≤ 93552 ∧ zsl h2 ≤ 8821594 := ⟨by rw [hh2.1]; exact Nat.le_trans m2.1 (Nat.le_of_ble_eq_true rfl), by rw [zsl_HR hh2]; exact Nat.le_trans m2.2 (Nat.le_of_ble_eq_true rfl)⟩
  have hv : ([] : List zV).map (zg ν s.heap.size) = [] := by simp only [List.map_cons, List.map_nil, zg0, zg2]
  have hl2 := (⟨lv_at hl 3 rfl, lv_at hl 0 rfl⟩ : Ls[0]? = some (.val (.ref b)) ∧ Ls[3]? = some (.val (.int (nI i))))
  subst q1
  subst q2
  refine lv_aload_n hx hb dL_law_1195 rfl (lv_at hl 2 rfl) ?_
  refine W.eq (g2 := F0 m 1196 Ls ((([] : List zV).map (zg ν s.heap.size)).reverse ++ .ref (s.heap.size + 0) :: [])) (by rw [hv]; rfl) ?_
  refine lw_callV (a := 0) (ci := 7) C0 hK hr (hc F1) zq_X7_misfit e1 (zpos_ok (ps := [1028, 1029, 1030]) (by decide +kernel)) c0 (by decide +kernel) rfl hl.1 (Nat.le_of_ble_eq_true rfl) z1.1 z1.2 dL_law_1196 (fun H locs hr => ?_)
  refine W.eq (g2 := F0 m 1199 Ls [.int (Int32.ofInt (V 57 37))]) rfl ?_
  refine lv_pop hx hb dL_law_1199 rfl ?_
  refine lv_aload_n hx hb dL_law_1200 rfl (lv_at hl 1 rfl) ?_
  refine W.eq (g2 := F0 m 1201 Ls ((([] : List zV).map (zg ν s.heap.size)).reverse ++ .ref (s.heap.size + 57) :: [])) (by rw [hv]; rfl) ?_
  refine lw_callV (a := 57) (ci := 8) C0 hK hr (hc F2) zq_X8_misfit e2 (zpos_ok (ps := [1523, 1524, 1525]) (by decide +kernel)) c1 (by decide +kernel) rfl hl.1 (Nat.le_of_ble_eq_true rfl) z2.1 z2.2 dL_law_1201 (fun H locs hr => ?_)
  refine W.eq (g2 := F0 m 1204 Ls [.int (Int32.ofInt (V 57 37))]) rfl ?_
  refine lv_pop hx hb dL_law_1204 rfl ?_
  exact lv_goto (tgt := 1313) hx hb dL_law_1205 (by decide) (kk H locs h2 hr ⟨G2, R2, V2, hh2, js2⟩)
theorem lwc_chance (C0 : lw_At p s m meth c b L xs) (hK : va_K D vwCl (zty cy) s) (hc : ∀ F : Nat, zCO l D cy ν s.heap.size 8 (zexec zb0 F 8)) {i k : Nat} (hi : i + 5 ≤ L) (hL : L ≤ 2560) (hk : k < 512) {h : zH} (jh : JH h k) {H : Heap} {locs : List Loc} (hr : lwR s D cy ν h H locs) {Ls : Array Slot} (hl : lv_has Ls 4 (lwl b s.heap.size 57 (nI i)))
    (kk : ∀ (H : Heap) (locs : List Loc) (h : zH), lwR s D cy ν h H locs → JH h (k + 1) → W p l e room_1 s m #[Value.ref b] below meth c H locs h.length (zsl h) (lw_Z below #[Value.ref b] s) (F0 m 1313 Ls [])) : W p l e room_1 s m #[Value.ref b] below meth c H locs h.length (zsl h) (lw_Z below #[Value.ref b] s) (F0 m 1208 Ls []) := by
  obtain ⟨hx, hb, hr0, hml, hown, hts, hX, hbl, hlocks, hgv⟩ := id C0
  obtain ⟨G, R, V, hh, js⟩ := jh
  obtain ⟨r, h1, G1, R1, V1, hh1, ⟨q1, ⟨o1, m1⟩, w2⟩, F1, ex1⟩ := j_chance js hk (x1 := (xs (i + 1)).toInt) (x2 := (xs (i + 2)).toInt) (i32_x _) (i32_x _) h hh
  obtain ⟨r2, h2, G2, R2, V2, hh2, ⟨q2, js2⟩, F2, ex2⟩ := w2 h1 hh1
  have e1 := ex1 F1 (Nat.le_refl _) 8 (Nat.le_refl _)
  have e2 := ex2 F2 (Nat.le_refl _) 8 (Nat.le_refl _)
  obtain ⟨f0, c0, -⟩ := hh.2.1 0 7 (JS_room js (by omega)).1
  obtain ⟨f1, c1, -⟩ := hh1.2.1 57 8 o1
  have m2 := (JS_room js2 (by omega)).2
  have z1 : h1.length ≤ 93552 ∧ zsl h1 ≤ 8821594 := ⟨by rw [hh1.1]; exact Nat.le_trans m1.1 (Nat.le_of_ble_eq_true rfl), by rw [zsl_HR hh1]; exact Nat.le_trans m1.2 (Nat.le_of_ble_eq_true rfl)⟩
  have z2 : h2.length ≤ 93552 ∧ zsl h2 ≤ 8821594 := ⟨by rw [hh2.1]; exact Nat.le_trans m2.1 (Nat.le_of_ble_eq_true rfl), by rw [zsl_HR hh2]; exact Nat.le_trans m2.2 (Nat.le_of_ble_eq_true rfl)⟩
  have hv : ([(0, (xs (i + 1)).toInt), (0, (xs (i + 2)).toInt)] : List zV).map (zg ν s.heap.size) = [.int (xs (i + 1)), .int (xs (i + 2))] := by simp only [List.map_cons, List.map_nil, zg0, zg2]
  have hl2 := (⟨lv_at hl 3 rfl, lv_at hl 0 rfl⟩ : Ls[0]? = some (.val (.ref b)) ∧ Ls[3]? = some (.val (.int (nI i))))
  subst q1
  subst q2
  refine lv_aload_n hx hb dL_law_1208 rfl (lv_at hl 2 rfl) ?_
  refine lw_ld C0 hr (i := i) (k := 1) (n := 1) (lv := []) hl2 rfl (by omega) (by omega) dL_law_1209 dL_law_1210 dL_law_1211 dL_law_1212 dL_law_1213 ?_
  refine lw_ld C0 hr (i := i) (k := 2) (n := 2) (lv := []) hl2 rfl (by omega) (by omega) dL_law_1214 dL_law_1215 dL_law_1216 dL_law_1217 dL_law_1218 ?_
  refine W.eq (g2 := F0 m 1219 Ls ((([(0, (xs (i + 1)).toInt), (0, (xs (i + 2)).toInt)] : List zV).map (zg ν s.heap.size)).reverse ++ .ref (s.heap.size + 0) :: [])) (by rw [hv]; rfl) ?_
  refine lw_callV (a := 0) (ci := 7) C0 hK hr (hc F1) zq_X7_chance e1 (zpos_ok (ps := [1032, 1033, 1034]) (by decide +kernel)) c0 (by decide +kernel) rfl hl.1 (Nat.le_of_ble_eq_true rfl) z1.1 z1.2 dL_law_1219 (fun H locs hr => ?_)
  refine W.eq (g2 := F0 m 1222 Ls [.long (Int64.ofInt (rchX V 57 (xs (i + 1)).toInt (xs (i + 2)).toInt))]) rfl ?_
  refine lv_pop2_2 hx hb dL_law_1222 rfl ?_
  refine lv_aload_n hx hb dL_law_1223 rfl (lv_at hl 1 rfl) ?_
  refine lw_ld C0 hr (i := i) (k := 1) (n := 1) (lv := []) hl2 rfl (by omega) (by omega) dL_law_1224 dL_law_1225 dL_law_1226 dL_law_1227 dL_law_1228 ?_
  refine lw_ld C0 hr (i := i) (k := 2) (n := 2) (lv := []) hl2 rfl (by omega) (by omega) dL_law_1229 dL_law_1230 dL_law_1231 dL_law_1232 dL_law_1233 ?_
  refine W.eq (g2 := F0 m 1234 Ls ((([(0, (xs (i + 1)).toInt), (0, (xs (i + 2)).toInt)] : List zV).map (zg ν s.heap.size)).reverse ++ .ref (s.heap.size + 57) :: [])) (by rw [hv]; rfl) ?_
  refine lw_callV (a := 57) (ci := 8) C0 hK hr (hc F2) zq_X8_chance e2 (zpos_ok (ps := [1527, 1528, 1529]) (by decide +kernel)) c1 (by decide +kernel) rfl hl.1 (Nat.le_of_ble_eq_true rfl) z2.1 z2.2 dL_law_1234 (fun H locs hr => ?_)
  refine W.eq (g2 := F0 m 1237 Ls [.long (Int64.ofInt (rchX V 57 (xs (i + 1)).toInt (xs (i + 2)).toInt))]) rfl ?_
  refine lv_pop2_2 hx hb dL_law_1237 rfl ?_
  exact lv_goto (tgt := 1313) hx hb dL_law_1238 (by decide) (kk H locs h2 hr ⟨G2, R2, V2, hh2, js2⟩)
theorem lwc_rank (C0 : lw_At p s m meth c b L xs) (hK : va_K D vwCl (zty cy) s) (hc : ∀ F : Nat, zCO l D cy ν s.heap.size 8 (zexec zb0 F 8)) {i k : Nat} (hi : i + 5 ≤ L) (hL : L ≤ 2560) (hk : k < 512) {h : zH} (jh : JH h k) {H : Heap} {locs : List Loc} (hr : lwR s D cy ν h H locs) {Ls : Array Slot} (hl : lv_has Ls 4 (lwl b s.heap.size 57 (nI i)))
    (kk : ∀ (H : Heap) (locs : List Loc) (h : zH), lwR s D cy ν h H locs → JH h (k + 1) → W p l e room_1 s m #[Value.ref b] below meth c H locs h.length (zsl h) (lw_Z below #[Value.ref b] s) (F0 m 1313 Ls [])) : W p l e room_1 s m #[Value.ref b] below meth c H locs h.length (zsl h) (lw_Z below #[Value.ref b] s) (F0 m 1241 Ls []) := by
  obtain ⟨hx, hb, hr0, hml, hown, hts, hX, hbl, hlocks, hgv⟩ := id C0
  obtain ⟨G, R, V, hh, js⟩ := jh
  obtain ⟨r, h1, G1, R1, V1, hh1, ⟨q1, ⟨o1, m1⟩, w2⟩, F1, ex1⟩ := j_rank js hk   h hh
  obtain ⟨r2, h2, G2, R2, V2, hh2, ⟨q2, js2⟩, F2, ex2⟩ := w2 h1 hh1
  have e1 := ex1 F1 (Nat.le_refl _) 8 (Nat.le_refl _)
  have e2 := ex2 F2 (Nat.le_refl _) 8 (Nat.le_refl _)
  obtain ⟨f0, c0, -⟩ := hh.2.1 0 7 (JS_room js (by omega)).1
  obtain ⟨f1, c1, -⟩ := hh1.2.1 57 8 o1
  have m2 := (JS_room js2 (by omega)).2
  have z1 : h1.length ≤ 93552 ∧ zsl h1 ≤ 8821594 := ⟨by rw [hh1.1]; exact Nat.le_trans m1.1 (Nat.le_of_ble_eq_true rfl), by rw [zsl_HR hh1]; exact Nat.le_trans m1.2 (Nat.le_of_ble_eq_true rfl)⟩
  have z2 : h2.length ≤ 93552 ∧ zsl h2 ≤ 8821594 := ⟨by rw [hh2.1]; exact Nat.le_trans m2.1 (Nat.le_of_ble_eq_true rfl), by rw [zsl_HR hh2]; exact Nat.le_trans m2.2 (Nat.le_of_ble_eq_true rfl)⟩
  have hv : ([] : List zV).map (zg ν s.heap.size) = [] := by simp only [List.map_cons, List.map_nil, zg0, zg2]
  have hl2 := (⟨lv_at hl 3 rfl, lv_at hl 0 rfl⟩ : Ls[0]? = some (.val (.ref b)) ∧ Ls[3]? = some (.val (.int (nI i))))
  subst q1
  subst q2
  refine lv_aload_n hx hb dL_law_1241 rfl (lv_at hl 2 rfl) ?_
  refine W.eq (g2 := F0 m 1242 Ls ((([] : List zV).map (zg ν s.heap.size)).reverse ++ .ref (s.heap.size + 0) :: [])) (by rw [hv]; rfl) ?_
  refine lw_callV (a := 0) (ci := 7) C0 hK hr (hc F1) zq_X7_rank e1 (zpos_ok (ps := [1047, 1048, 1049]) (by decide +kernel)) c0 (by decide +kernel) rfl hl.1 (Nat.le_of_ble_eq_true rfl) z1.1 z1.2 dL_law_1242 (fun H locs hr => ?_)
  refine lv_aload_n hx hb dL_law_1245 rfl (lv_at hl 1 rfl) ?_
  refine W.eq (g2 := F0 m 1246 Ls ((([] : List zV).map (zg ν s.heap.size)).reverse ++ .ref (s.heap.size + 57) :: [.int (Int32.ofInt (the (rkP (rgn V 57))))])) (by rw [hv]; rfl) ?_
  refine lw_callV (a := 57) (ci := 8) C0 hK hr (hc F2) zq_X8_rank e2 (zpos_ok (ps := [1539, 1540, 1541]) (by decide +kernel)) c1 (by decide +kernel) rfl hl.1 (Nat.le_of_ble_eq_true rfl) z2.1 z2.2 dL_law_1246 (fun H locs hr => ?_)
  refine W.eq (g2 := F0 m 1249 Ls [.int (Int32.ofInt (the (rkP (rgn V 57)))), .int (Int32.ofInt (the (rkP (rgn V 57))))]) rfl ?_
  exact lv_icmp_eq (tgt := 1313) hx hb dL_law_1249 (by decide) (fun _ => kk H locs h2 hr ⟨G2, R2, V2, hh2, js2⟩) (fun hne => absurd rfl hne)
theorem lwc_image (C0 : lw_At p s m meth c b L xs) (hK : va_K D vwCl (zty cy) s) (hc : ∀ F : Nat, zCO l D cy ν s.heap.size 8 (zexec zb0 F 8)) {i k : Nat} (hi : i + 5 ≤ L) (hL : L ≤ 2560) (hk : k < 512) {h : zH} (jh : JH h k) {H : Heap} {locs : List Loc} (hr : lwR s D cy ν h H locs) {Ls : Array Slot} (hl : lv_has Ls 4 (lwl b s.heap.size 57 (nI i)))
    (kk : ∀ (H : Heap) (locs : List Loc) (h : zH), lwR s D cy ν h H locs → JH h (k + 1) → W p l e room_1 s m #[Value.ref b] below meth c H locs h.length (zsl h) (lw_Z below #[Value.ref b] s) (F0 m 1313 Ls [])) : W p l e room_1 s m #[Value.ref b] below meth c H locs h.length (zsl h) (lw_Z below #[Value.ref b] s) (F0 m 1254 Ls []) := by
  obtain ⟨hx, hb, hr0, hml, hown, hts, hX, hbl, hlocks, hgv⟩ := id C0
  obtain ⟨G, R, V, hh, js⟩ := jh
  obtain ⟨r, h1, G1, R1, V1, hh1, ⟨q1, ⟨o1, m1⟩, w2⟩, F1, ex1⟩ := j_image js hk (x1 := (xs (i + 1)).toInt) (i32_x _) h hh
  obtain ⟨r2, h2, G2, R2, V2, hh2, ⟨q2, js2⟩, F2, ex2⟩ := w2 h1 hh1
  have e1 := ex1 F1 (Nat.le_refl _) 8 (Nat.le_refl _)
  have e2 := ex2 F2 (Nat.le_refl _) 8 (Nat.le_refl _)
  obtain ⟨f0, c0, -⟩ := hh.2.1 0 7 (JS_room js (by omega)).1
  obtain ⟨f1, c1, -⟩ := hh1.2.1 57 8 o1
  have m2 := (JS_room js2 (by omega)).2
  have z1 : h1.length ≤ 93552 ∧ zsl h1 ≤ 8821594 := ⟨by rw [hh1.1]; exact Nat.le_trans m1.1 (Nat.le_of_ble_eq_true rfl), by rw [zsl_HR hh1]; exact Nat.le_trans m1.2 (Nat.le_of_ble_eq_true rfl)⟩
  have z2 : h2.length ≤ 93552 ∧ zsl h2 ≤ 8821594 := ⟨by rw [hh2.1]; exact Nat.le_trans m2.1 (Nat.le_of_ble_eq_true rfl), by rw [zsl_HR hh2]; exact Nat.le_trans m2.2 (Nat.le_of_ble_eq_true rfl)⟩
  have hv : ([(0, (xs (i + 1)).toInt)] : List zV).map (zg ν s.heap.size) = [.int (xs (i + 1))] := by simp only [List.map_cons, List.map_nil, zg0, zg2]
  have hl2 := (⟨lv_at hl 3 rfl, lv_at hl 0 rfl⟩ : Ls[0]? = some (.val (.ref b)) ∧ Ls[3]? = some (.val (.int (nI i))))
  subst q1
  subst q2
  refine lv_aload_n hx hb dL_law_1254 rfl (lv_at hl 2 rfl) ?_
  refine lw_ld C0 hr (i := i) (k := 1) (n := 1) (lv := []) hl2 rfl (by omega) (by omega) dL_law_1255 dL_law_1256 dL_law_1257 dL_law_1258 dL_law_1259 ?_
  refine W.eq (g2 := F0 m 1260 Ls ((([(0, (xs (i + 1)).toInt)] : List zV).map (zg ν s.heap.size)).reverse ++ .ref (s.heap.size + 0) :: [])) (by rw [hv]; rfl) ?_
  refine lw_callV (a := 0) (ci := 7) C0 hK hr (hc F1) zq_X7_image e1 (zpos_ok (ps := [1051, 1052, 1053]) (by decide +kernel)) c0 (by decide +kernel) rfl hl.1 (Nat.le_of_ble_eq_true rfl) z1.1 z1.2 dL_law_1260 (fun H locs hr => ?_)
  refine W.eq (g2 := F0 m 1263 Ls [.int (Int32.ofInt (imA (xs (i + 1)).toInt))]) rfl ?_
  refine lv_pop hx hb dL_law_1263 rfl ?_
  refine lv_aload_n hx hb dL_law_1264 rfl (lv_at hl 1 rfl) ?_
  refine lw_ld C0 hr (i := i) (k := 1) (n := 1) (lv := []) hl2 rfl (by omega) (by omega) dL_law_1265 dL_law_1266 dL_law_1267 dL_law_1268 dL_law_1269 ?_
  refine W.eq (g2 := F0 m 1270 Ls ((([(0, (xs (i + 1)).toInt)] : List zV).map (zg ν s.heap.size)).reverse ++ .ref (s.heap.size + 57) :: [])) (by rw [hv]; rfl) ?_
  refine lw_callV (a := 57) (ci := 8) C0 hK hr (hc F2) zq_X8_image e2 (zpos_ok (ps := [1543, 1544, 1545]) (by decide +kernel)) c1 (by decide +kernel) rfl hl.1 (Nat.le_of_ble_eq_true rfl) z2.1 z2.2 dL_law_1270 (fun H locs hr => ?_)
  refine W.eq (g2 := F0 m 1273 Ls [.int (Int32.ofInt (imA (xs (i + 1)).toInt))]) rfl ?_
  refine lv_pop hx hb dL_law_1273 rfl ?_
  exact lv_goto (tgt := 1313) hx hb dL_law_1274 (by decide) (kk H locs h2 hr ⟨G2, R2, V2, hh2, js2⟩)
theorem lwc_back (C0 : lw_At p s m meth c b L xs) (hK : va_K D vwCl (zty cy) s) (hc : ∀ F : Nat, zCO l D cy ν s.heap.size 8 (zexec zb0 F 8)) {i k : Nat} (hi : i + 5 ≤ L) (hL : L ≤ 2560) (hk : k < 512) {h : zH} (jh : JH h k) {H : Heap} {locs : List Loc} (hr : lwR s D cy ν h H locs) {Ls : Array Slot} (hl : lv_has Ls 4 (lwl b s.heap.size 57 (nI i)))
    (kk : ∀ (H : Heap) (locs : List Loc) (h : zH), lwR s D cy ν h H locs → JH h (k + 1) → W p l e room_1 s m #[Value.ref b] below meth c H locs h.length (zsl h) (lw_Z below #[Value.ref b] s) (F0 m 1313 Ls [])) : W p l e room_1 s m #[Value.ref b] below meth c H locs h.length (zsl h) (lw_Z below #[Value.ref b] s) (F0 m 1277 Ls []) := by
  obtain ⟨hx, hb, hr0, hml, hown, hts, hX, hbl, hlocks, hgv⟩ := id C0
  obtain ⟨G, R, V, hh, js⟩ := jh
  obtain ⟨r, h1, G1, R1, V1, hh1, ⟨q1, ⟨o1, m1⟩, w2⟩, F1, ex1⟩ := j_back js hk (x1 := (xs (i + 1)).toInt) (i32_x _) h hh
  obtain ⟨r2, h2, G2, R2, V2, hh2, ⟨q2, js2⟩, F2, ex2⟩ := w2 h1 hh1
  have e1 := ex1 F1 (Nat.le_refl _) 8 (Nat.le_refl _)
  have e2 := ex2 F2 (Nat.le_refl _) 8 (Nat.le_refl _)
  obtain ⟨f0, c0, -⟩ := hh.2.1 0 7 (JS_room js (by omega)).1
  obtain ⟨f1, c1, -⟩ := hh1.2.1 57 8 o1
  have m2 := (JS_room js2 (by omega)).2
  have z1 : h1.length ≤ 93552 ∧ zsl h1 ≤ 8821594 := ⟨by rw [hh1.1]; exact Nat.le_trans m1.1 (Nat.le_of_ble_eq_true rfl), by rw [zsl_HR hh1]; exact Nat.le_trans m1.2 (Nat.le_of_ble_eq_true rfl)⟩
  have z2 : h2.length ≤ 93552 ∧ zsl h2 ≤ 8821594 := ⟨by rw [hh2.1]; exact Nat.le_trans m2.1 (Nat.le_of_ble_eq_true rfl), by rw [zsl_HR hh2]; exact Nat.le_trans m2.2 (Nat.le_of_ble_eq_true rfl)⟩
  have hv : ([(0, (xs (i + 1)).toInt)] : List zV).map (zg ν s.heap.size) = [.int (xs (i + 1))] := by simp only [List.map_cons, List.map_nil, zg0, zg2]
  have hl2 := (⟨lv_at hl 3 rfl, lv_at hl 0 rfl⟩ : Ls[0]? = some (.val (.ref b)) ∧ Ls[3]? = some (.val (.int (nI i))))
  subst q1
  subst q2
  refine lv_aload_n hx hb dL_law_1277 rfl (lv_at hl 2 rfl) ?_
  refine lw_ld C0 hr (i := i) (k := 1) (n := 1) (lv := []) hl2 rfl (by omega) (by omega) dL_law_1278 dL_law_1279 dL_law_1280 dL_law_1281 dL_law_1282 ?_
  refine W.eq (g2 := F0 m 1283 Ls ((([(0, (xs (i + 1)).toInt)] : List zV).map (zg ν s.heap.size)).reverse ++ .ref (s.heap.size + 0) :: [])) (by rw [hv]; rfl) ?_
  refine lw_callV (a := 0) (ci := 7) C0 hK hr (hc F1) zq_X7_back e1 (zpos_ok (ps := [1059, 1060, 1061]) (by decide +kernel)) c0 (by decide +kernel) rfl hl.1 (Nat.le_of_ble_eq_true rfl) z1.1 z1.2 dL_law_1283 (fun H locs hr => ?_)
  refine W.eq (g2 := F0 m 1286 Ls [.int (Int32.ofInt (bkA V 57 (xs (i + 1)).toInt))]) rfl ?_
  refine lv_pop hx hb dL_law_1286 rfl ?_
  refine lv_aload_n hx hb dL_law_1287 rfl (lv_at hl 1 rfl) ?_
  refine lw_ld C0 hr (i := i) (k := 1) (n := 1) (lv := []) hl2 rfl (by omega) (by omega) dL_law_1288 dL_law_1289 dL_law_1290 dL_law_1291 dL_law_1292 ?_
  refine W.eq (g2 := F0 m 1293 Ls ((([(0, (xs (i + 1)).toInt)] : List zV).map (zg ν s.heap.size)).reverse ++ .ref (s.heap.size + 57) :: [])) (by rw [hv]; rfl) ?_
  refine lw_callV (a := 57) (ci := 8) C0 hK hr (hc F2) zq_X8_back e2 (zpos_ok (ps := [1547, 1548, 1549]) (by decide +kernel)) c1 (by decide +kernel) rfl hl.1 (Nat.le_of_ble_eq_true rfl) z2.1 z2.2 dL_law_1293 (fun H locs hr => ?_)
  refine W.eq (g2 := F0 m 1296 Ls [.int (Int32.ofInt (bkA V 57 (xs (i + 1)).toInt))]) rfl ?_
  refine lv_pop hx hb dL_law_1296 rfl ?_
  exact lv_goto (tgt := 1313) hx hb dL_law_1297 (by decide) (kk H locs h2 hr ⟨G2, R2, V2, hh2, js2⟩)
theorem lwc_status (C0 : lw_At p s m meth c b L xs) (hK : va_K D vwCl (zty cy) s) (hc : ∀ F : Nat, zCO l D cy ν s.heap.size 8 (zexec zb0 F 8)) {i k : Nat} (hi : i + 5 ≤ L) (hL : L ≤ 2560) (hk : k < 512) {h : zH} (jh : JH h k) {H : Heap} {locs : List Loc} (hr : lwR s D cy ν h H locs) {Ls : Array Slot} (hl : lv_has Ls 4 (lwl b s.heap.size 57 (nI i)))
    (kk : ∀ (H : Heap) (locs : List Loc) (h : zH), lwR s D cy ν h H locs → JH h (k + 1) → W p l e room_1 s m #[Value.ref b] below meth c H locs h.length (zsl h) (lw_Z below #[Value.ref b] s) (F0 m 1313 Ls [])) : W p l e room_1 s m #[Value.ref b] below meth c H locs h.length (zsl h) (lw_Z below #[Value.ref b] s) (F0 m 1300 Ls []) := by
  obtain ⟨hx, hb, hr0, hml, hown, hts, hX, hbl, hlocks, hgv⟩ := id C0
  obtain ⟨G, R, V, hh, js⟩ := jh
  obtain ⟨r, h1, G1, R1, V1, hh1, ⟨q1, ⟨o1, m1⟩, w2⟩, F1, ex1⟩ := j_status js hk   h hh
  obtain ⟨r2, h2, G2, R2, V2, hh2, ⟨q2, js2⟩, F2, ex2⟩ := w2 h1 hh1
  have e1 := ex1 F1 (Nat.le_refl _) 8 (Nat.le_refl _)
  have e2 := ex2 F2 (Nat.le_refl _) 8 (Nat.le_refl _)
  obtain ⟨f0, c0, -⟩ := hh.2.1 0 7 (JS_room js (by omega)).1
  obtain ⟨f1, c1, -⟩ := hh1.2.1 57 8 o1
  have m2 := (JS_room js2 (by omega)).2
  have z1 : h1.length ≤ 93552 ∧ zsl h1 ≤ 8821594 := ⟨by rw [hh1.1]; exact Nat.le_trans m1.1 (Nat.le_of_ble_eq_true rfl), by rw [zsl_HR hh1]; exact Nat.le_trans m1.2 (Nat.le_of_ble_eq_true rfl)⟩
  have z2 : h2.length ≤ 93552 ∧ zsl h2 ≤ 8821594 := ⟨by rw [hh2.1]; exact Nat.le_trans m2.1 (Nat.le_of_ble_eq_true rfl), by rw [zsl_HR hh2]; exact Nat.le_trans m2.2 (Nat.le_of_ble_eq_true rfl)⟩
  have hv : ([] : List zV).map (zg ν s.heap.size) = [] := by simp only [List.map_cons, List.map_nil, zg0, zg2]
  have hl2 := (⟨lv_at hl 3 rfl, lv_at hl 0 rfl⟩ : Ls[0]? = some (.val (.ref b)) ∧ Ls[3]? = some (.val (.int (nI i))))
  obtain ⟨v1, rfl⟩ := q1
  obtain ⟨v2, rfl⟩ := q2
  refine lv_aload_n hx hb dL_law_1300 rfl (lv_at hl 2 rfl) ?_
  refine W.eq (g2 := F0 m 1301 Ls ((([] : List zV).map (zg ν s.heap.size)).reverse ++ .ref (s.heap.size + 0) :: [])) (by rw [hv]; rfl) ?_
  refine lw_callV (a := 0) (ci := 7) C0 hK hr (hc F1) zq_X7_status e1 (zpos_ok (ps := [1063, 1064, 1065]) (by decide +kernel)) c0 (by decide +kernel) rfl hl.1 (Nat.le_of_ble_eq_true rfl) z1.1 z1.2 dL_law_1301 (fun H locs hr => ?_)
  refine W.eq (g2 := F0 m 1304 Ls [.int (Int32.ofInt v1)]) rfl ?_
  refine lv_pop hx hb dL_law_1304 rfl ?_
  refine lv_aload_n hx hb dL_law_1305 rfl (lv_at hl 1 rfl) ?_
  refine W.eq (g2 := F0 m 1306 Ls ((([] : List zV).map (zg ν s.heap.size)).reverse ++ .ref (s.heap.size + 57) :: [])) (by rw [hv]; rfl) ?_
  refine lw_callV (a := 57) (ci := 8) C0 hK hr (hc F2) zq_X8_status e2 (zpos_ok (ps := [1551, 1552, 1553]) (by decide +kernel)) c1 (by decide +kernel) rfl hl.1 (Nat.le_of_ble_eq_true rfl) z2.1 z2.2 dL_law_1306 (fun H locs hr => ?_)
  refine W.eq (g2 := F0 m 1309 Ls [.int (Int32.ofInt v2)]) rfl ?_
  refine lv_pop hx hb dL_law_1309 rfl ?_
  exact lv_goto (tgt := 1313) hx hb dL_law_1310 (by decide) (kk H locs h2 hr ⟨G2, R2, V2, hh2, js2⟩)
end LC
