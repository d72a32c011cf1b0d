section
variable {d : Nat} {G : List gS} {R V : gV} {M : Nat}
theorem places_c (ly : lay8 G R M) (hM : MI V M) {a k w : Int} (h1 : i32 a) (h2 : i32 k) (h3 : i32 w) : aJ 4 V M 218 [(4, (M : Int)), (0, a), (0, k), (0, w)] G R := by
  have n := MI_N hM
  have no : ∀ c, i64 c → cwv 3 (fun r V' => ∃ v5 : Int, r = some (2, v5) ∧ ∃ v, some ((2 : Nat), v5) = some (2, v) ∧ mQ V V' M) 161 [(4, (M : Int)), (2, c)] G R V := fun c hc => endsL_q ly hc (by omega) (fun V' q => ⟨_, rfl, mQ_q hM q⟩)
  refine c_X8_places (t_X8_places_0 ly (cpI_u (by omega) (isNumber_c h1) ⟨bi32 _, fun _ => no _ ⟨by omega, by omega⟩, fun z => ⟨h2, fun _ => cpI_u (by omega) (in_c (i32_64 h2) ⟨by omega, by omega⟩ ⟨by omega, by omega⟩) ⟨bi32 _, fun _ => no _ ⟨by omega, by omega⟩, fun z2 => ⟨h3, cpI_u (by omega) (in_c (i32_64 h3) ⟨by omega, by omega⟩ ⟨by omega, by omega⟩) ⟨bi32 _, fun z3 => ?_, fun _ => no _ ⟨by omega, by omega⟩⟩⟩⟩⟩⟩))
  have a0 := bi_n0 z
  have k0 := bi_n0 z2
  refine loop1 (f := fun x => [some (4, (M : Int)), some (0, a), some (0, k), some (0, w), some (0, x)]) (fun x V' => 0 ≤ x ∧ x ≤ V M 13 ∧ qF V V' M) (fun x _ => (V M 13 - x).toNat) (fun x V' hx ih => ?_) 0 V ⟨by omega, by omega, qF_refl⟩
  obtain ⟨x0, x1, q⟩ := hx
  have e13 : V' M 13 = V M 13 := q.1 _ _ (by omega)
  have m := MI_q q hM
  refine t_X8_places_42 ly (fun _ => ⟨by omega, fun _ => cwJ_u (by omega) (becomes_c ly m a0) (fun v V2 h => ⟨v, rfl, mQ_q hM (qF_trans q h.1)⟩), fun c => ?_⟩)
  have f := MI_fo m (c := x) (by omega)
  exact ⟨h3, fun _ => ⟨by omega, fun _ => cwJ_u (by omega) (rowsLeft_c ly m f (by omega)) (fun v V2 h => ⟨h.2, by omega, ih (x + 1) _ ⟨by omega, by omega, qF_wr (qF_trans q h.1) (by omega) (by omega) (by omega) (by omega)⟩ (by omega)⟩)⟩, fun _ => ⟨by omega, fun _ => cwJ_u (by omega) (setsLeft_c ly m f h2) (fun v V2 h => ⟨h.2, by omega, ih (x + 1) _ ⟨by omega, by omega, qF_wr (qF_trans q h.1) (by omega) (by omega) (by omega) (by omega)⟩ (by omega)⟩)⟩⟩
theorem mheaps_c (ly : lay8 G R M) (hM : MI V M) {a : Int} (h1 : i32 a) : aJ 4 V M 219 [(4, (M : Int)), (0, a)] G R := by
  have n := MI_N hM
  refine c_X8_heaps (t_X8_heaps_0 ly (cpI_u (by omega) (isNumber_c h1) ⟨bi32 _, fun z => ?_, fun _ => endsL_q ly ⟨by omega, by omega⟩ (by omega) (fun V' q => ⟨_, rfl, mQ_q hM q⟩)⟩))
  have a0 := bi_n0 z
  refine loop1 (f := fun x => [some (4, (M : Int)), some (0, a), some (0, x)]) (fun x V' => 0 ≤ x ∧ x ≤ V M 13 ∧ qF V V' M) (fun x _ => (V M 13 - x).toNat) (fun x V' hx ih => ?_) 0 V ⟨by omega, by omega, qF_refl⟩
  obtain ⟨x0, x1, q⟩ := hx
  have e13 : V' M 13 = V M 13 := q.1 _ _ (by omega)
  refine t_X8_heaps_17 ly (fun _ => ⟨by omega, fun _ => cwJ_u (by omega) (becomes_c ly (MI_q q hM) a0) (fun v V2 h => ⟨v, rfl, mQ_q hM (qF_trans q h.1)⟩), fun c => ⟨by omega, ?_⟩⟩)
  rw [e13] at c
  refine loop1 (f := fun y => [some (4, (M : Int)), some (0, a), some (0, x), some (0, y)]) (fun y V' => 0 ≤ y ∧ y ≤ V M 12 ∧ qF V V' M) (fun y _ => (V M 12 - y).toNat) (fun y V' hx ih2 => ?_) 0 _ ⟨by omega, by omega, qF_wr q (by omega) (by omega) (by omega) (by omega)⟩
  clear q e13
  obtain ⟨y0, y1, q⟩ := hx
  have e12 : V' M 12 = V M 12 := q.1 _ _ (by omega)
  have e13 : V' M 13 = V M 13 := q.1 _ _ (by omega)
  have e5 : V' M 5 = V M 5 := q.1 _ _ (by omega)
  have m := MI_q q hM
  refine t_X8_heaps_34 ly (fun _ => ⟨by omega, fun _ => ⟨by omega, ih (x + 1) V' ⟨by omega, by omega, q⟩ (by omega)⟩, fun c2 => ?_⟩)
  have f := MI_fo m (c := x) (by omega)
  refine pool2 (f := fun b t => [some (4, (M : Int)), some (0, a), some (0, x), some (0, y), some (0, b), some (0, t)]) (fun b t => 0 ≤ t ∧ t ≤ V M 5 ∧ (b = 0 ∨ b = 1)) (fun _ t => (V M 5 - t).toNat) (fun b t hx ih3 => ?_) 1 0 (by omega)
  exact t_X8_heaps_48 ly (fun _ => ⟨by omega, fun _ => ⟨by omega, fun _ => ⟨by omega, fun _ => ⟨by omega, ih2 (y + 1) _ ⟨by omega, by omega, qF_wr q (by omega) (by omega) (by omega) (by omega)⟩ (by omega)⟩, fun _ => ⟨by omega, ih2 (y + 1) _ ⟨by omega, by omega, qF_wr q (by omega) (by omega) (by omega) (by omega)⟩ (by omega)⟩⟩⟩, fun c3 => ⟨by omega, fun _ => ⟨by omega, ih3 _ _ (by omega) (by omega)⟩, fun _ => ⟨by omega, fun _ => ⟨by omega, by omega, by omega, fun _ => ⟨fun _ => ⟨by omega, ih3 _ _ (by omega) (by omega)⟩, fun _ => ⟨by omega, by omega, by omega, fun _ => ⟨by omega, fun _ => ⟨by omega, ih3 _ _ (by omega) (by omega)⟩, fun _ => ⟨by omega, ih3 _ _ (by omega) (by omega)⟩⟩⟩⟩⟩⟩⟩⟩)
/-- products that stop above the most -/
theorem times_c {x y : Int} (h1 : i64 x) (h2 : i64 y) : cwv 1 (fun r V' => ∃ v, r = some (2, v) ∧ (V' = V ∧ i64 v ∧ (1 ≤ x → x ≤ 1000000000000000 → 1 ≤ y → 1 ≤ v ∧ v ≤ 1000000000000001 ∧ (1000000000000000 < y → v = 1000000000000001)))) 220 [(2, x), (2, y)] G R V := by
  refine c_X8_times (t_X8_times_0 ⟨h1, fun z => ⟨_, rfl, rfl, t64 _, by omega⟩, fun z => ⟨by omega, h2, fun z2 => ⟨_, rfl, rfl, t64 _, fun a b c => ?_⟩, fun z2 => ⟨_, rfl, rfl, ⟨by omega, by omega⟩, fun a b c => by omega⟩⟩⟩)
  rw [jdiv_e ⟨by omega, by omega⟩ h1 (by omega) z] at z2
  have le : y * x ≤ 1000000000000000 := (Int.le_ediv_iff_mul_le (by omega)).mp (by omega)
  have e : y * x = x * y := Int.mul_comm _ _
  have ge : 1 * 1 ≤ x * y := Int.mul_le_mul a c (by omega) (by omega)
  have yl : y * 1 ≤ y * x := Int.mul_le_mul_of_nonneg_left a (by omega)
  rw [jmul_e ⟨by omega, by omega⟩]
  refine ⟨by omega, by omega, by omega⟩
theorem toThe_c {x y : Int} (h1 : i64 x) (h2 : i64 y) : cwv 2 (fun r V' => ∃ v, r = some (2, v) ∧ (V' = V ∧ i64 v ∧ (1 ≤ x → 1 ≤ v))) 222 [(2, x), (2, y)] G R V := by
  refine c_X8_toThe (t_X8_toThe_0 ⟨h2, fun _ => ⟨_, rfl, rfl, ⟨by omega, by omega⟩, by omega⟩, fun _ => ⟨h1, fun _ => ⟨fun _ => ?_, fun _ => ⟨_, rfl, rfl, ⟨by omega, by omega⟩, by omega⟩⟩, fun _ => ⟨_, rfl, rfl, ⟨by omega, by omega⟩, by omega⟩⟩⟩)
  refine pool2 (f := fun v i => [some (2, x), none, some (2, y), none, some (2, v), none, some (2, i)]) (fun v i => i64 v ∧ 0 ≤ i ∧ i64 i ∧ (1 ≤ x → 1 ≤ v)) (fun _ i => (y - i).toNat) (fun v i hx ih => ?_) 1 0 ⟨⟨by omega, by omega⟩, by omega, ⟨by omega, by omega⟩, by omega⟩
  obtain ⟨v0, i0, i1, v1⟩ := hx
  refine t_X8_toThe_28 ⟨i1, h2, fun _ => ⟨v, rfl, rfl, v0, v1⟩, fun c => ⟨v0, fun _ => ⟨v, rfl, rfl, v0, v1⟩, fun c2 => cwJ_u (Nat.le_refl _) (times_c v0 h1) (fun u V' h => ?_)⟩⟩
  rw [h.1, jadd_e ⟨by omega, by have := h2.2; omega⟩]
  exact ih u (i + 1) ⟨h.2.1, by omega, ⟨by omega, by have := h2.2; omega⟩, fun w => (h.2.2 (v1 w) (by omega) w).1⟩ (by omega)
theorem both_c (ly : lay8 G R M) (hM : MI V M) {a b c w : Int} (h1 : i32 a) (h2 : i32 b) (h3 : i32 c) (h4 : i32 w) : aJ 4 V M 221 [(4, (M : Int)), (0, a), (0, b), (0, c), (0, w)] G R := by
  have n := MI_N hM
  have no : ∀ c, i64 c → cwv 3 (fun r V' => ∃ v5 : Int, r = some (2, v5) ∧ ∃ v, some ((2 : Nat), v5) = some (2, v) ∧ mQ V V' M) 161 [(4, (M : Int)), (2, c)] G R V := fun c hc => endsL_q ly hc (by omega) (fun V' q => ⟨_, rfl, mQ_q hM q⟩)
  refine c_X8_both (t_X8_both_0 ly (cpI_u (by omega) (isNumber_c h1) ⟨bi32 _, fun _ => no _ ⟨by omega, by omega⟩, fun z => ⟨h4, cpI_u (by omega) (in_c (i32_64 h4) ⟨by omega, by omega⟩ ⟨by omega, by omega⟩) ⟨bi32 _, fun _ => cwI_u (by omega) (isAct_c ly h2) (fun v V1 hb => ?_), fun _ => no _ ⟨by omega, by omega⟩⟩⟩⟩))
  have a0 := bi_n0 z
  obtain ⟨e, v01, hb⟩ := hb
  subst e
  refine ⟨by omega, fun _ => no _ ⟨by omega, by omega⟩, fun zb => cwI_u (by omega) (isAct_c ly h3) (fun v V2 hc => ?_)⟩
  have b0 := hb zb
  obtain ⟨e, v02, hc⟩ := hc
  subst e
  have main : ¬ v = 0 → wpv K_X8_both 3 (fun r V' => ∃ v, r = some (2, v) ∧ mQ V2 V' M) 104 [some (4, (M : Int)), some (0, a), some (0, b), some (0, c), some (0, w), none, none, some (0, 0)] [] G R V2 := by
    intro zc
    have c0 := hc zc
    refine loop1 (f := fun x => [some (4, (M : Int)), some (0, a), some (0, b), some (0, c), some (0, w), none, none, some (0, x)]) (fun x V' => 0 ≤ x ∧ x ≤ V2 M 13 ∧ qF V2 V' M) (fun x _ => (V2 M 13 - x).toNat) (fun x V' hx ih => ?_) 0 V2 ⟨by omega, by omega, qF_refl⟩
    obtain ⟨x0, x1, q⟩ := hx
    have e13 : V' M 13 = V2 M 13 := q.1 _ _ (by omega)
    have m := MI_q q hM
    refine t_X8_both_104 ly (fun _ => ⟨by omega, fun _ => cwJ_u (by omega) (becomes_c ly m a0) (fun v V2 h => ⟨v, rfl, mQ_q hM (qF_trans q h.1)⟩), fun c2 => ⟨h4, fun _ => cwJ_u (by omega) (markOf_c ly m b0 (by omega)) (fun u V3 hu => ?_), fun _ => cwJ_u (by omega) (markOf_c ly m b0 (by omega)) (fun u V3 hu => ?_)⟩⟩)
    · rw [hu.1]
      refine cwJ_u (by omega) (markOf_c ly m c0 (by omega)) (fun u2 V4 hu2 => ?_)
      rw [hu2.1]
      exact ⟨by omega, by omega, ih (x + 1) _ ⟨by omega, by omega, qF_wr q (by omega) (by omega) (by omega) (by omega)⟩ (by omega)⟩
    · rw [hu.1]
      refine cwJ_u (by omega) (markOf_c ly m c0 (by omega)) (fun u2 V4 hu2 => ?_)
      rw [hu2.1]
      exact ⟨by omega, by omega, ih (x + 1) _ ⟨by omega, by omega, qF_wr q (by omega) (by omega) (by omega) (by omega)⟩ (by omega)⟩
  refine ⟨by omega, fun zc => ⟨fun _ => cwJ_u (by omega) (sizeOf_c ly hM b0) (fun u V3 hu => ?_), fun _ => cwJ_u (by omega) (sizeOf_c ly hM b0) (fun u V3 hu => ?_)⟩, fun _ => no _ ⟨by omega, by omega⟩⟩
  · rw [hu.1]
    refine cwJ_u (by omega) (sizeOf_c ly hM (hc zc)) (fun u2 V4 hu2 => ?_)
    rw [hu2.1]
    refine cwJ_u (by omega) (times_c hu.2 hu2.2) (fun u3 V5 hu3 => ?_)
    rw [hu3.1]
    exact ⟨hu3.2.1, fun _ => main zc, fun _ => no _ ⟨by omega, by omega⟩⟩
  · rw [hu.1]
    refine cwJ_u (by omega) (sizeOf_c ly hM (hc zc)) (fun u2 V4 hu2 => ?_)
    rw [hu2.1]
    exact ⟨fun _ => main zc, fun _ => no _ ⟨by omega, by omega⟩⟩
theorem sets_c (ly : lay8 G R M) (hM : MI V M) {a h : Int} (a0 : 0 ≤ a ∧ a ≤ 7) (h0 : 0 ≤ h ∧ h < V M 12) : qJ 4 V M 223 [(4, (M : Int)), (0, a), (0, h)] G R := by
  have n := MI_N hM
  refine c_X8_sets (t_X8_sets_0 ly ?_)
  refine loop2 (f := fun x y => [some (4, (M : Int)), some (0, a), some (0, h), some (2, x), none, some (0, y)]) (fun x y V' => 0 ≤ y ∧ y ≤ V M 5 ∧ qF V V' M) (fun _ y _ => (V M 5 - y).toNat) (fun x y V' hx ih => ?_) 0 0 V ⟨by omega, by omega, qF_refl⟩
  obtain ⟨y0, y1, q⟩ := hx
  have e5 : V' M 5 = V M 5 := q.1 _ _ (by omega)
  have e12 : V' M 12 = V M 12 := q.1 _ _ (by omega)
  have m := MI_q q hM
  have sz := MI_sz m (k := h) (by omega)
  refine t_X8_sets_5 ly (fun _ => ⟨by omega, fun _ => ⟨by omega, fun _ => ⟨by omega, _, rfl, q, t64 _⟩⟩, fun c => ⟨by omega, by omega, by omega, fun _ => ⟨fun _ => ⟨by omega, ih x (y + 1) V' ⟨by omega, by omega, q⟩ (by omega)⟩, fun _ => cwI_u (Nat.le_refl _) (madeBy_c ly m (by omega)) (fun v V2 hv => ⟨by omega, fun _ => ?_⟩)⟩⟩⟩)
  have m2 := MI_q hv.1 m
  have e2 : V2 M 12 = V' M 12 := hv.1.1 _ _ (by omega)
  have co := MI_co m2 (k := v) (by omega)
  refine cwJ_u (by omega) (markOf_c ly m2 a0 co) (fun u V3 hu => ?_)
  rw [hu.1]
  exact ⟨by omega, ih _ (y + 1) V2 ⟨by omega, by omega, qF_trans q hv.1⟩ (by omega)⟩
theorem colour_c (ly : lay8 G R M) (hM : MI V M) {a b k : Int} (h1 : i32 a) (h2 : i32 b) (h3 : i32 k) : aJ 5 V M 224 [(4, (M : Int)), (0, a), (0, b), (0, k)] G R := by
  have n := MI_N hM
  have no : ∀ c, i64 c → cwv 4 (fun r V' => ∃ v5 : Int, r = some (2, v5) ∧ ∃ v, some ((2 : Nat), v5) = some (2, v) ∧ mQ V V' M) 161 [(4, (M : Int)), (2, c)] G R V := fun c hc => endsL_q ly hc (by omega) (fun V' q => ⟨_, rfl, mQ_q hM q⟩)
  refine c_X8_colour (t_X8_colour_0 ly (cpI_u (by omega) (isNumber_c h1) ⟨bi32 _, fun _ => no _ ⟨by omega, by omega⟩, fun z => ⟨h3, cpI_u (by omega) (in_c (i32_64 h3) ⟨by omega, by omega⟩ ⟨by omega, by omega⟩) ⟨bi32 _, fun _ => cwI_u (by omega) (isAct_c ly h2) (fun v V1 hb => ?_), fun _ => no _ ⟨by omega, by omega⟩⟩⟩⟩))
  have a0 := bi_n0 z
  obtain ⟨e, v01, hb⟩ := hb
  subst e
  refine ⟨by omega, fun zb => cwJ_u (by omega) (sizeOf_c ly hM (hb zb)) (fun u V3 hu => ?_), fun _ => no _ ⟨by omega, by omega⟩⟩
  rw [hu.1]
  refine cwJ_u (by omega) (toThe_c (i32_64 h3) hu.2) (fun u3 V5 hu3 => ?_)
  rw [hu3.1]
  refine ⟨hu3.2.1, fun _ => ?_, fun _ => no _ ⟨by omega, by omega⟩⟩
  refine loop1 (f := fun x => [some (4, (M : Int)), some (0, a), some (0, b), some (0, k), some (0, x)]) (fun x V' => 0 ≤ x ∧ x ≤ V1 M 13 ∧ qF V1 V' M) (fun x _ => (V1 M 13 - x).toNat) (fun x V' hx ih => ?_) 0 V1 ⟨by omega, by omega, qF_refl⟩
  obtain ⟨x0, x1, q⟩ := hx
  have e13 : V' M 13 = V1 M 13 := q.1 _ _ (by omega)
  have m := MI_q q hM
  refine t_X8_colour_71 ly (fun _ => ⟨by omega, fun _ => cwJ_u (by omega) (becomes_c ly m a0) (fun v V2 h => ⟨v, rfl, mQ_q hM (qF_trans q h.1)⟩), fun c2 => ⟨h3, by omega, fun _ => cwJ_u (by omega) (sets_c ly m (hb zb) (MI_fo m (by omega))) (fun u V3 hu => ?_)⟩⟩)
  refine cwJ_u (by omega) (toThe_c (i32_64 h3) hu.2) (fun u2 V4 hu2 => ?_)
  rw [hu2.1]
  exact ⟨hu2.2.1, by omega, ih (x + 1) _ ⟨by omega, by omega, qF_wr (qF_trans q hu.1) (by omega) (by omega) (by omega) (by omega)⟩ (by omega)⟩
theorem many_c (ly : lay8 G R M) (hM : MI V M) {a b k : Int} (h1 : i32 a) (h2 : i32 b) (h3 : i32 k) : aJ 4 V M 225 [(4, (M : Int)), (0, a), (0, b), (0, k)] G R := by
  have n := MI_N hM
  have no : ∀ c, i64 c → cwv 3 (fun r V' => ∃ v5 : Int, r = some (2, v5) ∧ ∃ v, some ((2 : Nat), v5) = some (2, v) ∧ mQ V V' M) 161 [(4, (M : Int)), (2, c)] G R V := fun c hc => endsL_q ly hc (by omega) (fun V' q => ⟨_, rfl, mQ_q hM q⟩)
  refine c_X8_many (t_X8_many_0 ly (cpI_u (by omega) (isNumber_c h1) ⟨bi32 _, fun _ => no _ ⟨by omega, by omega⟩, fun z => ⟨h3, cpI_u (by omega) (in_c (i32_64 h3) ⟨by omega, by omega⟩ ⟨by omega, by omega⟩) ⟨bi32 _, fun _ => cwI_u (by omega) (isAct_c ly h2) (fun v V1 hb => ?_), fun _ => no _ ⟨by omega, by omega⟩⟩⟩⟩))
  have a0 := bi_n0 z
  obtain ⟨e, v01, hb⟩ := hb
  subst e
  refine ⟨by omega, fun zb => cwJ_u (by omega) (sizeOf_c ly hM (hb zb)) (fun u V3 hu => ?_), fun _ => no _ ⟨by omega, by omega⟩⟩
  rw [hu.1]
  refine cwJ_u (by omega) (times_c hu.2 (i32_64 h3)) (fun u3 V5 hu3 => ?_)
  rw [hu3.1]
  refine ⟨hu3.2.1, fun _ => ?_, fun _ => no _ ⟨by omega, by omega⟩⟩
  refine loop1 (f := fun x => [some (4, (M : Int)), some (0, a), some (0, b), some (0, k), some (0, x)]) (fun x V' => 0 ≤ x ∧ x ≤ V1 M 13 ∧ qF V1 V' M) (fun x _ => (V1 M 13 - x).toNat) (fun x V' hx ih => ?_) 0 V1 ⟨by omega, by omega, qF_refl⟩
  obtain ⟨x0, x1, q⟩ := hx
  have e13 : V' M 13 = V1 M 13 := q.1 _ _ (by omega)
  have m := MI_q q hM
  refine t_X8_many_71 ly (fun _ => ⟨by omega, fun _ => cwJ_u (by omega) (becomes_c ly m a0) (fun v V2 h => ⟨v, rfl, mQ_q hM (qF_trans q h.1)⟩), fun c2 => cwJ_u (by omega) (markOf_c ly m (hb zb) (by omega)) (fun u V3 hu => ?_)⟩)
  rw [hu.1]
  exact ⟨h3, by omega, by omega, ih (x + 1) _ ⟨by omega, by omega, qF_wr q (by omega) (by omega) (by omega) (by omega)⟩ (by omega)⟩
theorem parts_c (ly : lay8 G R M) (hM : MI V M) {a c : Int} (h1 : i32 a) (h2 : i32 c) : aJ 3 V M 226 [(4, (M : Int)), (0, a), (0, c)] G R := by
  have n := MI_N hM
  refine c_X8_parts (t_X8_parts_0 ly (cwI_u (by omega) (isAct_c ly h1) (fun v V1 hb => ?_)))
  obtain ⟨e, v01, hb⟩ := hb
  subst e
  refine ⟨by omega, fun _ => ⟨_, rfl, mQ_r hM⟩, fun zb => cpI_u (Nat.le_refl _) (isClass_c ly hM h2) ⟨bi32 _, fun _ => ⟨_, rfl, mQ_r hM⟩, fun z => ?_⟩⟩
  have a0 := hb zb
  have c0 := bi_n0 z
  exact ⟨by omega, by omega, by omega, fun _ => ⟨_, rfl, mQ_r hM⟩⟩
theorem mark_c (ly : lay8 G R M) (hM : MI V M) {a c : Int} (h1 : i32 a) (h2 : i32 c) : aJ 3 V M 227 [(4, (M : Int)), (0, a), (0, c)] G R := by
  have n := MI_N hM
  refine c_X8_mark (t_X8_mark_0 ly (cwI_u (by omega) (isAct_c ly h1) (fun v V1 hb => ?_)))
  obtain ⟨e, v01, hb⟩ := hb
  subst e
  refine ⟨by omega, fun _ => ⟨_, rfl, mQ_r hM⟩, fun zb => cpI_u (Nat.le_refl _) (isClass_c ly hM h2) ⟨bi32 _, fun _ => ⟨_, rfl, mQ_r hM⟩, fun z => ?_⟩⟩
  have c0 := bi_n0 z
  exact cwJ_u (by omega) (markOf_c ly hM (hb zb) (by omega)) (fun u V3 hu => ⟨_, rfl, by rw [hu.1]; exact mQ_r hM⟩)
theorem kernel_c (ly : lay8 G R M) (hM : MI V M) {a : Int} (a0 : 0 ≤ a ∧ a ≤ 7) : qC 5 V M (-1) 299 228 [(4, (M : Int)), (0, a)] G R := by
  have n := MI_N hM
  refine c_X8_kernel (t_X8_kernel_0 ly (fun _ => ⟨by omega, ?_⟩))
  refine loop2 (f := fun x y => [some (4, (M : Int)), some (0, a), some (0, x), some (0, y)]) (fun x y V' => 0 ≤ y ∧ y ≤ V M 13 ∧ -1 ≤ x ∧ x ≤ 299 ∧ qF V V' M) (fun _ y _ => (V M 13 - y).toNat) (fun x y V' hx ih => ?_) _ 0 V ⟨by omega, by omega, by omega, by omega, qF_refl⟩
  obtain ⟨y0, y1, x0, x1, q⟩ := hx
  have e13 : V' M 13 = V M 13 := q.1 _ _ (by omega)
  have m := MI_q q hM
  refine t_X8_kernel_9 ly (fun _ => ⟨by omega, fun _ => ⟨x, rfl, q, by omega, by omega⟩, fun c => ⟨by omega, by omega, by omega, fun _ => ⟨fun _ => ⟨by omega, ih x (y + 1) V' ⟨by omega, by omega, by omega, by omega, q⟩ (by omega)⟩, fun _ => ⟨by omega, fun _ => cwI_u (Nat.le_refl _) (core_c ly m (MI_fo m (by omega))) (fun v V2 hv => ?_)⟩⟩⟩⟩)
  refine cwI_u (Nat.le_refl _) (join_q ly (MI_q hv.1 m) ⟨by omega, by omega⟩ ⟨by omega, by omega⟩ ⟨by omega, by omega⟩) (fun u V3 hu => ⟨by omega, ih u (y + 1) V3 ⟨by omega, by omega, hu.2.1, hu.2.2, qF_trans (qF_trans q hv.1) hu.1⟩ (by omega)⟩)
theorem act_c (ly : lay8 G R M) (hM : MI V M) {a w t : Int} (h1 : i32 a) (h2 : i32 w) (h3 : i32 t) : aJ 6 V M 229 [(4, (M : Int)), (0, a), (0, w), (0, t)] G R := by
  have n := MI_N hM
  refine c_X8_act (t_X8_act_0 ly (cwI_u (by omega) (isAct_c ly h1) (fun v V1 hb => ?_)))
  obtain ⟨e, v01, hb⟩ := hb
  subst e
  refine ⟨by omega, fun zb => ?_, fun _ => ⟨_, rfl, mQ_r hM⟩⟩
  have a0 := hb zb
  refine ⟨h2, fun _ => ⟨_, rfl, mQ_r hM⟩, fun _ => cwJ_u (by omega) (sizeOf_c ly hM a0) (fun u V3 hu => ⟨_, rfl, by rw [hu.1]; exact mQ_r hM⟩), fun _ => ?_, fun _ => cwI_u (by omega) (kernel_c ly hM a0) (fun u V3 hu => ⟨by omega, _, rfl, mQ_q hM hu.1⟩), fun _ => cpI_u (by omega) (isTurn_c ly hM h3) ⟨bi32 _, fun _ => ⟨_, rfl, mQ_r hM⟩, fun z => ?_⟩, fun _ => cpI_u (by omega) (isTurn_c ly hM h3) ⟨bi32 _, fun _ => ⟨_, rfl, mQ_r hM⟩, fun z => ?_⟩, fun _ => cpI_u (by omega) (isHeap_c ly hM h3) ⟨bi32 _, fun _ => ⟨_, rfl, mQ_r hM⟩, fun z => ?_⟩⟩
  · refine pool2 (f := fun x y => [some (4, (M : Int)), some (0, a), none, none, some (2, x), none, some (0, y)]) (fun x y => 0 ≤ y ∧ y ≤ V1 M 13) (fun _ y => (V1 M 13 - y).toNat) (fun x y hx ih => ?_) 0 0 (by omega)
    exact t_X8_act_64 ly (fun _ => ⟨by omega, fun _ => ⟨_, rfl, mQ_r hM⟩, fun _ => ⟨by omega, by omega, by omega, fun _ => ⟨by omega, ih _ _ (by omega) (by omega)⟩⟩⟩)
  · have t0 := bi_n0 z
    refine cwI_u (by omega) (madeBy_c ly hM (by omega)) (fun u V2 hu => ⟨by omega, fun _ => ?_⟩)
    have m2 := MI_q hu.1 hM
    have e2 : V2 M 12 = V1 M 12 := hu.1.1 _ _ (by omega)
    exact cwJ_u (by omega) (markOf_c ly m2 a0 (MI_co m2 (by omega))) (fun u3 V3 hu3 => ⟨_, rfl, by rw [hu3.1]; exact mQ_q hM hu.1⟩)
  · have t0 := bi_n0 z
    refine cwI_u (by omega) (madeBy_c ly hM (by omega)) (fun u V2 hu => ?_)
    have m2 := MI_q hu.1 hM
    have e2 : V2 M 12 = V1 M 12 := hu.1.1 _ _ (by omega)
    exact cwJ_u (by omega) (sets_c ly m2 a0 (by omega)) (fun u3 V3 hu3 => ⟨_, rfl, mQ_q hM (qF_trans hu.1 hu3.1)⟩)
  · have t0 := bi_n0 z
    exact cwJ_u (by omega) (sets_c ly hM a0 (by omega)) (fun u3 V3 hu3 => ⟨_, rfl, mQ_q hM hu3.1⟩)
theorem same_c (ly : lay8 G R M) (hM : MI V M) {a b : Int} (h1 : i32 a) (h2 : i32 b) : aI 3 V M 230 [(4, (M : Int)), (0, a), (0, b)] G R := by
  have n := MI_N hM
  refine c_X8_same (t_X8_same_0 ly (cwI_u (by omega) (isAct_c ly h1) (fun v V1 ha => ?_)))
  obtain ⟨e, v01, ha⟩ := ha
  subst e
  refine ⟨by omega, fun _ => ⟨_, rfl, mQ_r hM⟩, fun za => cwI_u (by omega) (isAct_c ly h2) (fun v V2 hb => ?_)⟩
  obtain ⟨e, v02, hb⟩ := hb
  subst e
  refine ⟨by omega, fun zb => ?_, fun _ => ⟨_, rfl, mQ_r hM⟩⟩
  refine pool1 (f := fun y => [some (4, (M : Int)), some (0, a), some (0, b), some (0, y)]) (fun y => 0 ≤ y ∧ y ≤ V2 M 13) (fun y => (V2 M 13 - y).toNat) (fun y hx ih => ?_) 0 (by omega)
  refine t_X8_same_21 ly (fun _ => ⟨by omega, fun _ => ⟨_, rfl, mQ_r hM⟩, fun _ => cwJ_u (by omega) (markOf_c ly hM (ha za) (by omega)) (fun u V3 hu => ?_)⟩)
  rw [hu.1]
  refine cwJ_u (by omega) (markOf_c ly hM (hb zb) (by omega)) (fun u2 V4 hu2 => ?_)
  rw [hu2.1]
  exact ⟨hu.2, hu2.2, fun _ => ⟨by omega, ih _ (by omega) (by omega)⟩, fun _ => ⟨_, rfl, mQ_r hM⟩⟩
theorem gcd_c {x y : Int} (h1 : i64 x) (h2 : i64 y) (y0 : 0 < y) : cwv 1 (fun r V' => ∃ v, r = some (2, v) ∧ (V' = V ∧ i64 v ∧ 0 < v)) 235 [(2, x), (2, y)] G R V := by
  refine c_X8_gcd (t_X8_gcd_0 ?_)
  refine pool2 (f := fun x y => [none, none, none, none, some (2, x), none, some (2, y)]) (fun x y => i64 x ∧ i64 y ∧ (0 < y ∨ 0 < x)) (fun _ y => y.toNat) (fun x y hx ih => ?_) x y ⟨h1, h2, Or.inl y0⟩
  obtain ⟨a, b, c⟩ := hx
  refine t_X8_gcd_6 ⟨b, fun _ => ⟨x, rfl, rfl, a, by omega⟩, fun z => ⟨by omega, ih _ _ ⟨b, t64 _, Or.inr z⟩ ?_⟩⟩
  have := jrem_lt a b z
  omega
theorem making_c (ly : lay8 G R M) (hM : MI V M) {k : Int} (k0 : 0 ≤ k ∧ k ≤ 8) : cwv 1 (fun r V' => ∃ v, r = some (2, v) ∧ (V' = V ∧ i64 v)) 236 [(4, (M : Int)), (0, k)] G R V := by
  have n := MI_N hM
  refine c_X8_making (t_X8_making_0 ly ?_)
  refine pool2 (f := fun x y => [some (4, (M : Int)), some (0, k), some (2, x), none, some (0, y)]) (fun x y => 0 ≤ y ∧ y ≤ V M 12 ∧ i64 x) (fun _ y => (V M 12 - y).toNat) (fun x y hx ih => ?_) 0 0 ⟨by omega, by omega, by omega, by omega⟩
  refine t_X8_making_5 ly (fun _ => ⟨by omega, fun _ => ⟨x, rfl, rfl, hx.2.2⟩, fun c => ⟨by omega, fun _ => ?_⟩⟩)
  refine pool2 (f := fun z i => [some (4, (M : Int)), some (0, k), some (2, x), none, some (0, y), some (2, z), none, some (0, i)]) (fun z i => 0 ≤ i ∧ i ≤ k) (fun _ i => (k - i).toNat) (fun z i hz ih2 => ?_) _ 0 (by omega)
  exact t_X8_making_26 ly ⟨by omega, by omega, fun _ => ⟨by omega, ih _ _ ⟨by omega, by omega, t64 _⟩ (by omega)⟩, fun _ => ⟨by omega, fun _ => ⟨by omega, ih2 _ _ (by omega) (by omega)⟩⟩⟩
theorem chance_c (ly : lay8 G R M) (hM : MI V M) {k w : Int} (h1 : i32 k) (h2 : i32 w) : aJ 2 V M 237 [(4, (M : Int)), (0, k), (0, w)] G R := by
  have n := MI_N hM
  refine c_X8_chance (t_X8_chance_0 ly ⟨h1, cpI_u (by omega) (in_c (i32_64 h1) ⟨by omega, by omega⟩ ⟨by omega, by omega⟩) ⟨bi32 _, fun _ => ⟨_, rfl, mQ_r hM⟩, fun z => ⟨h2, cpI_u (by omega) (in_c (i32_64 h2) ⟨by omega, by omega⟩ ⟨by omega, by omega⟩) ⟨bi32 _, fun z2 => cwJ_u (by omega) (making_c ly hM (by have := bi_n0 z; omega)) (fun u V1 hu => ?_), fun _ => ⟨_, rfl, mQ_r hM⟩⟩⟩⟩⟩)
  have k0 := bi_n0 z
  rw [hu.1]
  refine pool2 (f := fun x y => [some (4, (M : Int)), some (0, k), some (0, w), some (2, u), none, some (2, x), none, some (0, y)]) (fun x y => 0 ≤ y ∧ y ≤ k ∧ 1 ≤ x ∧ x ≤ 120 ^ y.toNat) (fun _ y => (k - y).toNat) (fun x y hx ih => ?_) 1 0 ⟨by omega, by omega, by omega, by decide⟩
  obtain ⟨y0, y1, x0, x1⟩ := hx
  have pb : (120 : Int) ^ y.toNat ≤ 120 ^ 6 := by
    have : (120 : Nat) ^ y.toNat ≤ 120 ^ 6 := Nat.pow_le_pow_right (by omega) (by omega)
    exact_mod_cast this
  have p6 : (120 : Int) ^ 6 = 2985984000000 := by decide
  refine t_X8_chance_38 ly ⟨by omega, by omega, fun _ => cwJ_u (by omega) (gcd_c hu.2 ⟨by omega, by omega⟩ (by omega)) (fun v V2 hv => ⟨h2, fun _ => ⟨hv.2.1, by omega, _, rfl, by rw [hv.1]; exact mQ_r hM⟩, fun _ => ⟨hv.2.1, by omega, _, rfl, by rw [hv.1]; exact mQ_r hM⟩⟩), fun c => fun _ => ⟨by omega, ?_⟩⟩
  have l1 : 1 * 1 ≤ x * V M 5 := Int.mul_le_mul x0 (by omega) (by omega) (by omega)
  have l2 : x * V M 5 ≤ 120 ^ y.toNat * 120 := Int.mul_le_mul x1 (by omega) (by omega) (by omega)
  have e1 : (120 : Int) ^ (y + 1).toNat = 120 ^ y.toNat * 120 := by rw [show (y + 1).toNat = y.toNat + 1 by omega, Int.pow_succ]
  rw [jmul_e ⟨by omega, by omega⟩]
  exact ih _ _ ⟨by omega, by omega, by omega, by omega⟩ (by omega)
theorem rank_c (ly : lay8 G R M) (hM : MI V M) : aI 2 V M 238 [(4, (M : Int))] G R := by
  refine c_X8_rank (t_X8_rank_0 ly ?_)
  refine pool1 (f := fun x => [some (4, (M : Int)), some (0, x)]) (fun x => 0 ≤ x ∧ x ≤ 8) (fun x => (8 - x).toNat) (fun x hx ih => ?_) 0 (by omega)
  refine t_X8_rank_2 ly ⟨by omega, fun _ => ⟨_, rfl, mQ_r hM⟩, fun _ => cwJ_u (by omega) (making_c ly hM (by omega)) (fun u V1 hu => ?_)⟩
  rw [hu.1]
  exact ⟨hu.2, fun _ => ⟨_, rfl, mQ_r hM⟩, fun _ => ⟨by omega, ih _ (by omega) (by omega)⟩⟩
end
