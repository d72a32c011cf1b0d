section
variable {d : Nat} {G : List gS} {R V : gV} {M : Nat}
/-- a call of the model that keeps to its own -/
abbrev aI (d : Nat) (V : gV) (M : Nat) (y : Nat) (as : List zV) (G : List gS) (R : gV) : Prop := cwv d (fun r V' => ∃ v, r = some (0, v) ∧ mQ V V' M) y as G R V
abbrev aJ (d : Nat) (V : gV) (M : Nat) (y : Nat) (as : List zV) (G : List gS) (R : gV) : Prop := cwv d (fun r V' => ∃ v, r = some (2, v) ∧ mQ V V' M) y as G R V
theorem mQ_r (hM : MI V M) : mQ V V M := mQ_q hM qF_refl
theorem turn_c (ly : lay8 G R M) (hM : MI V M) {t p : Int} (h1 : i32 t) (h2 : i32 p) : aI 3 V M 186 [(4, (M : Int)), (0, t), (0, p)] G R := by
  have n := MI_N hM
  refine c_X8_turn (t_X8_turn_0 ly (cpI_u (Nat.le_refl _) (isTurn_c ly hM h1) ⟨bi32 _, fun _ => ⟨_, rfl, mQ_r hM⟩, fun z => ⟨h2, fun _ => ⟨by omega, cpI_u (by omega) (in_c (i32_64 h2) ⟨by omega, by omega⟩ ⟨by omega, by omega⟩) ⟨bi32 _, fun _ => ⟨_, rfl, mQ_r hM⟩, fun z2 => ?_⟩⟩⟩⟩))
  have a := bi_n0 z
  have b := bi_n0 z2
  exact ⟨by omega, by omega, by omega, fun _ => ⟨_, rfl, mQ_r hM⟩⟩
theorem product_c (ly : lay8 G R M) (hM : MI V M) {s t : Int} (h1 : i32 s) (h2 : i32 t) : aI 3 V M 187 [(4, (M : Int)), (0, s), (0, t)] G R := by
  have n := MI_N hM
  refine c_X8_product (t_X8_product_0 ly (cpI_u (Nat.le_refl _) (isTurn_c ly hM h1) ⟨bi32 _, fun _ => ⟨_, rfl, mQ_r hM⟩, fun z => cpI_u (Nat.le_refl _) (isTurn_c ly hM h2) ⟨bi32 _, fun _ => ⟨_, rfl, mQ_r hM⟩, fun z2 => ?_⟩⟩))
  have a := bi_n0 z
  have b := bi_n0 z2
  exact ⟨by omega, by omega, by omega, fun _ => ⟨_, rfl, mQ_r hM⟩⟩
theorem ofTurn_c (ly : lay8 G R M) (hM : MI V M) {t w : Int} (h1 : i32 t) (h2 : i32 w) : aI 4 V M 191 [(4, (M : Int)), (0, t), (0, w)] G R := by
  have n := MI_N hM
  refine c_X8_ofTurn (t_X8_ofTurn_0 ly (cpI_u (by omega) (isTurn_c ly hM h1) ⟨bi32 _, fun z => ?_, fun _ => ⟨_, rfl, mQ_r hM⟩⟩))
  have a := bi_n0 z
  refine ⟨h2, fun _ => ⟨_, rfl, mQ_r hM⟩, fun _ => ⟨by omega, fun _ => ⟨_, rfl, mQ_r hM⟩⟩, fun _ => cwI_u (Nat.le_refl _) (madeBy_c ly hM (by omega)) (fun v V' h => ⟨by omega, fun _ => ⟨_, rfl, mQ_q hM h.1⟩⟩), fun _ => cwI_u (Nat.le_refl _) (madeBy_c ly hM (by omega)) (fun v V' h => ⟨_, rfl, mQ_q hM h.1⟩), fun _ => cw0_u (by omega) (clears_c ly hM) (fun V1 q => ?_)⟩
  refine loop1 (f := fun x => [some (4, (M : Int)), some (0, t), none, some (0, x)]) (fun x V' => 0 ≤ x ∧ x ≤ V M 5 ∧ qF V V' M) (fun x _ => (V M 5 - x).toNat) (fun x V' hx ih => ?_) 0 V1 ⟨by omega, by omega, q⟩
  clear q
  obtain ⟨x0, x1, q⟩ := hx
  have e5 : V' M 5 = V M 5 := q.1 _ _ (by omega)
  have m := MI_q q hM
  refine t_X8_ofTurn_70 ly (fun _ => ⟨by omega, fun _ => cwI_u (by omega) (marked_c ly m) (fun v V'' h => ⟨_, rfl, by rw [h.1]; exact mQ_q hM q⟩), fun c => ?_⟩)
  have i1 := MI_iv m (s := x) (by omega)
  have p1 := MI_pr m i1 (t := t) (by omega)
  have p2 := MI_pr m p1 (t := x) (by omega)
  exact ⟨by omega, fun _ => ⟨by omega, by omega, by omega, fun _ => ⟨by omega, by omega, by omega, fun _ => ⟨by omega, by omega, by omega, ih (x + 1) _ ⟨by omega, by omega, qF_wr q (by omega) (by omega) (by omega) (by omega)⟩ (by omega)⟩⟩⟩⟩
theorem heap_c (ly : lay8 G R M) (hM : MI V M) {h w : Int} (h1 : i32 h) (h2 : i32 w) : aI 5 V M 199 [(4, (M : Int)), (0, h), (0, w)] G R := by
  have n := MI_N hM
  refine c_X8_heap (t_X8_heap_0 ly (cpI_u (by omega) (isHeap_c ly hM h1) ⟨bi32 _, fun z => ?_, fun _ => ⟨_, rfl, mQ_r hM⟩⟩))
  have a := bi_n0 z
  refine ⟨h2, fun _ => ⟨_, rfl, mQ_r hM⟩, fun _ => ⟨by omega, fun _ => ⟨_, rfl, mQ_r hM⟩⟩, fun _ => ⟨by omega, fun _ => ⟨_, rfl, mQ_r hM⟩⟩, fun _ => cwI_u (by omega) (isNormal_c ly hM (by omega)) (fun v V' q => ⟨by omega, fun _ => ⟨_, rfl, by rw [q.1]; exact mQ_r hM⟩, fun _ => ⟨_, rfl, by rw [q.1]; exact mQ_r hM⟩⟩), fun _ => cwI_u (by omega) (normalizer_c ly hM (by omega)) (fun v V' q => ⟨_, rfl, mQ_q hM q.1⟩), fun _ => cwI_u (by omega) (core_c ly hM (by omega)) (fun v V' q => ⟨_, rfl, mQ_q hM q.1⟩), fun _ => cwI_u (by omega) (derived_c ly hM (by omega)) (fun v V' q => ⟨_, rfl, mQ_q hM q.1⟩), fun _ => ⟨by omega, fun _ => ⟨_, rfl, mQ_r hM⟩⟩, fun _ => cwI_u (by omega) (isQuiet_c ly hM (by omega)) (fun v V' q => ⟨by omega, fun _ => ⟨_, rfl, by rw [q.1]; exact mQ_r hM⟩, fun _ => ⟨_, rfl, by rw [q.1]; exact mQ_r hM⟩⟩), fun _ => ?_, fun _ => ?_⟩
  · refine pool2 (f := fun x y => [some (4, (M : Int)), some (0, h), none, some (0, x), some (0, y)]) (fun x y => 0 ≤ y ∧ y ≤ V M 12 ∧ 0 ≤ x ∧ x ≤ y) (fun _ y => (V M 12 - y).toNat) (fun x y hx ih => ?_) 0 0 (by omega)
    exact t_X8_heap_139 ly (fun _ => ⟨by omega, fun _ => ⟨_, rfl, mQ_r hM⟩, fun c => cpI_u (by omega) (lies_c ly (by omega) (by omega) (by omega)) ⟨bi32 _, fun _ => ⟨by omega, by omega, ih _ _ (by omega) (by omega)⟩, fun _ => ⟨by omega, by omega, ih _ _ (by omega) (by omega)⟩⟩⟩)
  · refine pool2 (f := fun x y => [some (4, (M : Int)), some (0, h), none, some (0, x), some (0, y)]) (fun x y => 0 ≤ y ∧ y ≤ V M 12 ∧ 0 ≤ x ∧ x ≤ y) (fun _ y => (V M 12 - y).toNat) (fun x y hx ih => ?_) 0 0 (by omega)
    exact t_X8_heap_177 ly (fun _ => ⟨by omega, fun _ => ⟨_, rfl, mQ_r hM⟩, fun c => cpI_u (by omega) (lies_c ly (by omega) (by omega) (by omega)) ⟨bi32 _, fun _ => ⟨by omega, by omega, ih _ _ (by omega) (by omega)⟩, fun _ => ⟨by omega, by omega, ih _ _ (by omega) (by omega)⟩⟩⟩)
theorem has_c (ly : lay8 G R M) (hM : MI V M) {h t : Int} (h1 : i32 h) (h2 : i32 t) : aI 3 V M 200 [(4, (M : Int)), (0, h), (0, t)] G R := by
  have n := MI_N hM
  refine c_X8_has (t_X8_has_0 ly (cpI_u (Nat.le_refl _) (isHeap_c ly hM h1) ⟨bi32 _, fun _ => ⟨_, rfl, mQ_r hM⟩, fun z => cpI_u (Nat.le_refl _) (isTurn_c ly hM h2) ⟨bi32 _, fun z2 => ?_, fun _ => ⟨_, rfl, mQ_r hM⟩⟩⟩))
  have a := bi_n0 z
  have b := bi_n0 z2
  exact ⟨by omega, by omega, by omega, fun _ => ⟨fun _ => ⟨_, rfl, mQ_r hM⟩, fun _ => ⟨_, rfl, mQ_r hM⟩⟩⟩
/-- join, also as kernel asks it -/
theorem join_q (ly : lay8 G R M) (hM : MI V M) {h k w : Int} (h1 : i32 h) (h2 : i32 k) (h3 : i32 w) : qC 4 V M (-1) 299 201 [(4, (M : Int)), (0, h), (0, k), (0, w)] G R := by
  have n := MI_N hM
  refine c_X8_join (t_X8_join_0 ly (cpI_u (by omega) (isHeap_c ly hM h1) ⟨bi32 _, fun _ => ⟨_, rfl, qF_refl, by omega, by omega⟩, fun z => cpI_u (by omega) (isHeap_c ly hM h2) ⟨bi32 _, fun _ => ⟨_, rfl, qF_refl, by omega, by omega⟩, fun z2 => ⟨h3, cpI_u (by omega) (in_c (i32_64 h3) ⟨by omega, by omega⟩ ⟨by omega, by omega⟩) ⟨bi32 _, fun z3 => ?_, fun _ => ⟨_, rfl, qF_refl, by omega, by omega⟩⟩⟩⟩⟩))
  have a := bi_n0 z
  have b := bi_n0 z2
  refine loop1 (f := fun x => [some (4, (M : Int)), some (0, h), some (0, k), some (0, w), some (0, x)]) (fun x V' => 0 ≤ x ∧ x ≤ V M 5 ∧ qF V V' M) (fun x _ => (V M 5 - x).toNat) (fun x V' hx ih => ?_) 0 V ⟨by omega, by omega, qF_refl⟩
  obtain ⟨x0, x1, q⟩ := hx
  have e5 : V' M 5 = V M 5 := q.1 _ _ (by omega)
  have e12 : V' M 12 = V M 12 := q.1 _ _ (by omega)
  have m := MI_q q hM
  have nx : ∀ v, x < V M 5 → wpv K_X8_join 3 (fun r V' => ∃ v, r = some (0, v) ∧ (qF V V' M ∧ -1 ≤ v ∧ v ≤ 299)) 31 [some (4, (M : Int)), some (0, h), some (0, k), some (0, w), some (0, x + 1)] [] G R (wr V' (M + 9) (36000 + x) v) := fun v c => ih (x + 1) _ ⟨by omega, by omega, qF_wr q (by omega) (by omega) (by omega) (by omega)⟩ (by omega)
  exact t_X8_join_31 ly (fun _ => ⟨by omega, fun _ => ⟨h3, fun _ => cwI_u (by omega) (least_c ly m) (fun v V'' h => ⟨v, rfl, by rw [h.1]; exact q, by omega, by omega⟩), fun _ => cwI_u (by omega) (exact_c ly m) (fun v V'' h => ⟨v, rfl, qF_trans q h.1, h.2⟩)⟩, fun c => ⟨by omega, h3, fun _ => ⟨by omega, by omega, by omega, fun _ => ⟨fun _ => ⟨by omega, by omega, nx _ (by omega)⟩, fun _ => ⟨by omega, by omega, by omega, fun _ => ⟨fun _ => ⟨by omega, by omega, nx _ (by omega)⟩, fun _ => ⟨by omega, by omega, nx _ (by omega)⟩⟩⟩⟩⟩, fun _ => ⟨by omega, by omega, by omega, fun _ => ⟨fun _ => ⟨by omega, by omega, nx _ (by omega)⟩, fun _ => ⟨by omega, by omega, by omega, fun _ => ⟨fun _ => ⟨by omega, by omega, nx _ (by omega)⟩, fun _ => ⟨by omega, by omega, nx _ (by omega)⟩⟩⟩⟩⟩⟩⟩)
theorem join_c (ly : lay8 G R M) (hM : MI V M) {h k w : Int} (h1 : i32 h) (h2 : i32 k) (h3 : i32 w) : aI 4 V M 201 [(4, (M : Int)), (0, h), (0, k), (0, w)] G R := cwI_u (Nat.le_refl _) (join_q ly hM h1 h2 h3) (fun v V' q => mQ_q hM q.1)
theorem ofClass_c (ly : lay8 G R M) (hM : MI V M) {c w : Int} (h1 : i32 c) (h2 : i32 w) : aI 3 V M 202 [(4, (M : Int)), (0, c), (0, w)] G R := by
  have n := MI_N hM
  refine c_X8_ofClass (t_X8_ofClass_0 ly (cpI_u (Nat.le_refl _) (isClass_c ly hM h1) ⟨bi32 _, fun z => ?_, fun _ => ⟨_, rfl, mQ_r hM⟩⟩))
  have a := bi_n0 z
  have f := MI_fo hM (c := c) (by omega)
  exact ⟨h2, fun _ => ⟨fun _ => ⟨fun _ => ⟨_, rfl, mQ_r hM⟩, fun _ => ⟨by omega, fun _ => ⟨_, rfl, mQ_r hM⟩⟩⟩, fun _ => ⟨by omega, fun _ => ⟨_, rfl, mQ_r hM⟩⟩⟩, fun _ => ⟨by omega, fun _ => ⟨by omega, fun _ => ⟨_, rfl, mQ_r hM⟩⟩⟩⟩
theorem within_c (ly : lay8 G R M) (hM : MI V M) {c e w : Int} (h1 : i32 c) (h2 : i32 e) (h3 : i32 w) : aI 3 V M 203 [(4, (M : Int)), (0, c), (0, e), (0, w)] G R := by
  have n := MI_N hM
  refine c_X8_within (t_X8_within_0 ly (cpI_u (Nat.le_refl _) (isClass_c ly hM h1) ⟨bi32 _, fun _ => ⟨_, rfl, mQ_r hM⟩, fun z => cpI_u (Nat.le_refl _) (isClass_c ly hM h2) ⟨bi32 _, fun _ => ⟨_, rfl, mQ_r hM⟩, fun z2 => ⟨h3, cpI_u (by omega) (in_c (i32_64 h3) ⟨by omega, by omega⟩ ⟨by omega, by omega⟩) ⟨bi32 _, fun z3 => ?_, fun _ => ⟨_, rfl, mQ_r hM⟩⟩⟩⟩⟩))
  have a := bi_n0 z
  have f := MI_fo hM (c := c) (by omega)
  refine pool2 (f := fun x y => [some (4, (M : Int)), some (0, c), some (0, e), some (0, w), some (0, x), some (0, y)]) (fun x y => 0 ≤ y ∧ y ≤ V M 12 ∧ 0 ≤ x ∧ x ≤ y) (fun _ y => (V M 12 - y).toNat) (fun x y hx ih => ?_) 0 0 (by omega)
  exact t_X8_within_34 ly (fun _ => ⟨by omega, fun _ => ⟨_, rfl, mQ_r hM⟩, fun _ => ⟨by omega, fun _ => ⟨h2, fun _ => ⟨h3, fun _ => ⟨by omega, fun _ => cpI_u (by omega) (lies_c ly (by omega) (by omega) (by omega)) ⟨bi32 _, fun _ => ⟨by omega, by omega, ih _ _ (by omega) (by omega)⟩, fun _ => ⟨by omega, by omega, ih _ _ (by omega) (by omega)⟩⟩⟩, fun _ => ⟨by omega, fun _ => cpI_u (by omega) (lies_c ly (by omega) (by omega) (by omega)) ⟨bi32 _, fun _ => ⟨by omega, by omega, ih _ _ (by omega) (by omega)⟩, fun _ => ⟨by omega, by omega, ih _ _ (by omega) (by omega)⟩⟩⟩⟩, fun _ => ⟨by omega, ih _ _ (by omega) (by omega)⟩⟩⟩⟩)
theorem table_c (ly : lay8 G R M) (hM : MI V M) {s t : Int} (h1 : i32 s) (h2 : i32 t) : aI 3 V M 204 [(4, (M : Int)), (0, s), (0, t)] G R := by
  have n := MI_N hM
  refine c_X8_table (t_X8_table_0 ly (cpI_u (Nat.le_refl _) (isClass_c ly hM h1) ⟨bi32 _, fun _ => ⟨_, rfl, mQ_r hM⟩, fun z => cpI_u (Nat.le_refl _) (isClass_c ly hM h2) ⟨bi32 _, fun _ => ⟨_, rfl, mQ_r hM⟩, fun z2 => ?_⟩⟩))
  have a := bi_n0 z
  have b := bi_n0 z2
  exact ⟨by omega, by omega, by omega, fun _ => ⟨_, rfl, mQ_r hM⟩⟩
theorem sylow_c (ly : lay8 G R M) (hM : MI V M) {p : Int} (h1 : i32 p) : aI 1 V M 205 [(4, (M : Int)), (0, p)] G R := by
  have n := MI_N hM
  have main : 2 ≤ p → p ≤ 7 → wpv K_X8_sylow 0 (fun r V' => ∃ v, r = some (0, v) ∧ mQ V V' M) 25 [some (4, (M : Int)), some (0, p), some (0, 1)] [] G R V := by
    intro p2 p7
    refine pool1 (f := fun x => [some (4, (M : Int)), some (0, p), some (0, x)]) (fun x => 1 ≤ x ∧ x ≤ V M 5) (fun x => (121 - x).toNat) (fun x hx ih => ?_) 1 (by omega)
    have xp : 2 * x ≤ x * p := by
      have := Int.mul_le_mul_of_nonneg_left p2 (show 0 ≤ x by omega)
      omega
    have xp2 : x * p ≤ x * 7 := Int.mul_le_mul_of_nonneg_left p7 (show 0 ≤ x by omega)
    have m0 := Int.emod_nonneg (V M 5) (show x * p ≠ 0 by omega)
    have m1 := Int.emod_lt_of_pos (V M 5) (show 0 < x * p by omega)
    refine t_X8_sylow_25 ly (fun _ => ⟨by omega, ⟨by omega, by omega⟩, by omega, fun _ => ?_, fun z => ih _ ⟨by omega, ?_⟩ ?_⟩)
    · refine pool1 (f := fun y => [some (4, (M : Int)), none, some (0, x), some (0, y)]) (fun y => 0 ≤ y ∧ y ≤ V M 13) (fun y => (V M 13 - y).toNat) (fun y hy ih2 => ?_) 0 (by omega)
      refine t_X8_sylow_45 ly (fun _ => ⟨by omega, fun _ => ⟨_, rfl, mQ_r hM⟩, fun _ => ⟨by omega, fun _ => ?_⟩⟩)
      have f := MI_fo hM (c := y) (by omega)
      exact ⟨by omega, fun _ => ⟨by omega, fun _ => ⟨by omega, ih2 _ (by omega) (by omega)⟩, fun _ => ⟨_, rfl, mQ_r hM⟩⟩⟩
    · exact Int.le_of_dvd (by omega) (Int.dvd_of_emod_eq_zero z)
    · have : x * p ≤ V M 5 := Int.le_of_dvd (by omega) (Int.dvd_of_emod_eq_zero z)
      omega
  exact c_X8_sylow (t_X8_sylow_0 ly ⟨h1, fun _ => main (by omega) (by omega), fun _ => ⟨fun _ => main (by omega) (by omega), fun _ => ⟨fun _ => main (by omega) (by omega), fun _ => ⟨fun _ => main (by omega) (by omega), fun _ => ⟨_, rfl, mQ_r hM⟩⟩⟩⟩⟩)
theorem down_c (ly : lay8 G R M) (hM : MI V M) {k : Int} (h1 : i32 k) : aI 4 V M 206 [(4, (M : Int)), (0, k)] G R := by
  have n := MI_N hM
  refine c_X8_down (t_X8_down_0 ly ⟨h1, cpI_u (by omega) (in_c (i32_64 h1) ⟨by omega, by omega⟩ ⟨by omega, by omega⟩) ⟨bi32 _, fun z => fun _ => ⟨by omega, ?_⟩, fun _ => ⟨_, rfl, mQ_r hM⟩⟩⟩)
  have a := bi_n0 z
  refine loop2 (f := fun x y => [some (4, (M : Int)), some (0, k), some (0, x), some (0, y)]) (fun x y V' => 0 ≤ x ∧ x < V M 12 ∧ 0 ≤ y ∧ y ≤ k ∧ qF V V' M) (fun _ y _ => (k - y).toNat) (fun x y V' hx ih => ?_) _ 0 V ⟨by omega, by omega, by omega, by omega, qF_refl⟩
  obtain ⟨x0, x1, y0, y1, q⟩ := hx
  have e12 : V' M 12 = V M 12 := q.1 _ _ (by omega)
  exact t_X8_down_23 ly ⟨by omega, by omega, fun _ => ⟨_, rfl, mQ_q hM q⟩, fun c => cwI_u (Nat.le_refl _) (derived_c ly (MI_q q hM) (by omega)) (fun v V'' h => ⟨by omega, ih v (y + 1) V'' ⟨h.2.1, by omega, by omega, by omega, qF_trans q h.1⟩ (by omega)⟩)⟩
theorem simple_c (ly : lay8 G R M) (hM : MI V M) : aI 2 V M 207 [(4, (M : Int))] G R := by
  have n := MI_N hM
  refine c_X8_simple (t_X8_simple_0 ly ?_)
  refine pool2 (f := fun x y => [some (4, (M : Int)), some (0, x), some (0, y)]) (fun x y => 0 ≤ y ∧ y ≤ V M 12 ∧ 0 ≤ x ∧ x ≤ y) (fun _ y => (V M 12 - y).toNat) (fun x y hx ih => ?_) 0 0 (by omega)
  refine t_X8_simple_4 ly (fun _ => ⟨by omega, fun _ => ⟨by omega, fun _ => ⟨_, rfl, mQ_r hM⟩, fun _ => ⟨_, rfl, mQ_r hM⟩⟩, fun c => cwI_u (Nat.le_refl _) (isNormal_c ly hM (by omega)) (fun v V' h => ?_)⟩)
  rw [h.1]
  exact ⟨by omega, fun _ => ⟨by omega, by omega, ih _ _ (by omega) (by omega)⟩, fun _ => ⟨by omega, by omega, ih _ _ (by omega) (by omega)⟩⟩
theorem status_c (ly : lay8 G R M) (hM : MI V M) : aI 1 V M 241 [(4, (M : Int))] G R := c_X8_status (t_X8_status_0 ly (fun _ => ⟨_, rfl, mQ_r hM⟩))
end
