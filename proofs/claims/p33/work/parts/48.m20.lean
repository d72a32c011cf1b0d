theorem jmul_e {a b : Int} (h : i64 (a * b)) : jmul a b = a * b := by
  unfold jmul
  rw [← Int64.ofInt_mul, Int64.toInt_ofInt_of_le (by have := h.1; omega) (by have := h.2; omega)]
theorem jadd_e {a b : Int} (h : i64 (a + b)) : jadd a b = a + b := by
  unfold jadd
  rw [← Int64.ofInt_add, Int64.toInt_ofInt_of_le (by have := h.1; omega) (by have := h.2; omega)]
theorem jdiv_e {a b : Int} (ha : i64 a) (hb : i64 b) (a0 : 0 ≤ a) (b0 : 0 < b) : jdiv a b = a / b := by
  unfold jdiv
  rw [Int64.toInt_div, Int64.toInt_ofInt_of_le (by have := ha.1; omega) (by have := ha.2; omega), Int64.toInt_ofInt_of_le (by have := hb.1; omega) (by have := hb.2; omega), Int.tdiv_eq_ediv_of_nonneg a0]
  have h3 : 0 ≤ a / b := Int.ediv_nonneg a0 (by omega)
  have h4 : a / b ≤ a := Int.ediv_le_self b a0
  have h5 := ha.2
  rw [Int.bmod_eq_of_le]
  · omega
  · omega
theorem jrem_lt {a b : Int} (ha : i64 a) (hb : i64 b) (b0 : 0 < b) : jrem a b < b := by
  unfold jrem
  have e1 : (Int64.ofInt a).toInt = a := Int64.toInt_ofInt_of_le (by have := ha.1; omega) (by have := ha.2; omega)
  have e2 : (Int64.ofInt b).toInt = b := Int64.toInt_ofInt_of_le (by have := hb.1; omega) (by have := hb.2; omega)
  have e3 : (Int64.ofInt a / Int64.ofInt b).toInt = (a.tdiv b).bmod (2 ^ 64) := by rw [Int64.toInt_div, e1, e2]
  have le : a.tdiv b * b = a - a.tmod b := by
    have := Int.mul_tdiv_add_tmod a b
    have h4 : b * a.tdiv b = a.tdiv b * b := Int.mul_comm _ _
    omega
  have m1 : a.tmod b < b := Int.tmod_lt_of_pos a b0
  have m0 : -b < a.tmod b := by
    have := Int.neg_tmod a b
    have h := Int.tmod_lt_of_pos (-a) b0
    omega
  have q : i64 (a.tdiv b) := by
    rcases Int.le_total 0 a with z | z
    · have h1 : 0 ≤ a.tdiv b := Int.tdiv_nonneg z (by omega)
      have h2 : a.tdiv b ≤ a := by rw [Int.tdiv_eq_ediv_of_nonneg z]; exact Int.ediv_le_self b z
      have := ha.2
      exact ⟨by omega, by omega⟩
    · have h1 : 0 ≤ (-a).tdiv b := Int.tdiv_nonneg (by omega) (by omega)
      have h2 : (-a).tdiv b ≤ -a := by rw [Int.tdiv_eq_ediv_of_nonneg (by omega)]; exact Int.ediv_le_self b (by omega)
      rw [Int.neg_tdiv] at h1 h2
      have := ha.1
      exact ⟨by omega, by omega⟩
  have e4 : Int64.ofInt a / Int64.ofInt b = Int64.ofInt (a.tdiv b) := by
    have : (Int64.ofInt a / Int64.ofInt b).toInt = a.tdiv b := by
      rw [e3, Int.bmod_eq_of_le (by have := q.1; omega) (by have := q.2; omega)]
    rw [← this, Int64.ofInt_toInt]
  rw [e4, ← Int64.ofInt_mul, ← Int64.ofInt_sub, le, show a - (a - a.tmod b) = a.tmod b by omega, Int64.toInt_ofInt_of_le (by have := hb.2; omega) (by have := hb.2; omega)]
  exact m1
theorem kand1 (a : Int) : kand a 1 = 0 ∨ kand a 1 = 1 := by
  have key : ∀ b : BitVec 32, (b &&& 1#32) = 0#32 ∨ (b &&& 1#32) = 1#32 := by
    intro b
    rw [BitVec.and_one_eq_setWidth_ofBool_getLsbD]
    cases b.getLsbD 0
    · left; rfl
    · right; rfl
  have h := key (Int32.ofInt a).toBitVec
  have e : (Int32.ofInt a &&& Int32.ofInt 1).toBitVec = (Int32.ofInt a).toBitVec &&& 1#32 := rfl
  unfold kand
  rcases h with h | h
  · left
    show (Int32.ofInt a &&& Int32.ofInt 1).toBitVec.toInt = 0
    rw [e, h]; rfl
  · right
    show (Int32.ofInt a &&& Int32.ofInt 1).toBitVec.toInt = 1
    rw [e, h]; rfl
section
variable {d : Nat} {G : List gS} {R V : gV} {M : Nat}
abbrev qJ (d : Nat) (V : gV) (M : Nat) (y : Nat) (as : List zV) (G : List gS) (R : gV) : Prop := cwv d (fun r V' => ∃ v, r = some (2, v) ∧ (qF V V' M ∧ i64 v)) y as G R V
theorem isNumber_c {a : Int} (h : i32 a) : cpI 2 (bi (0 ≤ a ∧ a ≤ 7)) 208 [(0, a)] G R V := c_X8_isNumber (t_X8_isNumber_0 ⟨h, cpI_u (Nat.le_refl _) (in_c (i32_64 h) ⟨by omega, by omega⟩ ⟨by omega, by omega⟩) ⟨bi_01 _, rfl, rfl⟩⟩)
theorem isAct_c (ly : lay8 G R M) {a : Int} (h : i32 a) : cwv 2 (fun r V' => ∃ v, r = some (0, v) ∧ (V' = V ∧ (v = 0 ∨ v = 1) ∧ (¬ v = 0 → 0 ≤ a ∧ a ≤ 7))) 209 [(4, (M : Int)), (0, a)] G R V := by
  refine c_X8_isAct (t_X8_isAct_0 ly ⟨h, cpI_u (Nat.le_refl _) (in_c (i32_64 h) ⟨by omega, by omega⟩ ⟨by omega, by omega⟩) ⟨bi32 _, fun _ => ⟨0, rfl, rfl, by omega, by omega⟩, fun z => ?_⟩⟩)
  have a0 := bi_n0 z
  exact ⟨by omega, fun _ => ⟨fun _ => ⟨0, rfl, rfl, by omega, by omega⟩, fun _ => ⟨1, rfl, rfl, by omega, fun _ => a0⟩⟩⟩
theorem markOf_c (ly : lay8 G R M) (hM : MI V M) {a e : Int} (a0 : 0 ≤ a ∧ a ≤ 7) (e0 : 0 ≤ e ∧ e < V M 13) : cwv 1 (fun r V' => ∃ v, r = some (2, v) ∧ (V' = V ∧ i64 v)) 210 [(4, (M : Int)), (0, a), (0, e)] G R V := by
  have n := MI_N hM
  refine c_X8_markOf (t_X8_markOf_0 ly ?_)
  refine pool2 (f := fun x y => [some (4, (M : Int)), some (0, a), some (0, e), some (2, x), none, some (0, y)]) (fun x y => 0 ≤ y ∧ y ≤ V M 13 ∧ i64 x) (fun _ y => (V M 13 - y).toNat) (fun x y hx ih => ?_) 0 0 ⟨by omega, by omega, by omega, by omega⟩
  exact t_X8_markOf_5 ly (fun _ => ⟨by omega, fun _ => ⟨x, rfl, rfl, hx.2.2⟩, fun c => ⟨by omega, by omega, by omega, fun _ => ⟨by omega, by omega, by omega, fun _ => ⟨by omega, ih _ _ ⟨by omega, by omega, t64 _⟩ (by omega)⟩⟩⟩⟩)
theorem sizeOf_c (ly : lay8 G R M) (hM : MI V M) {a : Int} (a0 : 0 ≤ a ∧ a ≤ 7) : cwv 2 (fun r V' => ∃ v, r = some (2, v) ∧ (V' = V ∧ i64 v)) 211 [(4, (M : Int)), (0, a)] G R V := by
  have n := MI_N hM
  exact c_X8_sizeOf (t_X8_sizeOf_0 ly (cwJ_u (Nat.le_refl _) (markOf_c ly hM a0 (by omega)) (fun v V' h => ⟨v, rfl, h⟩)))
theorem solves_c (ly : lay8 G R M) (hM : MI V M) : cwv 1 (fun r V' => ∃ v, r = some (0, v) ∧ (qF V V' M ∧ 0 ≤ v ∧ v ≤ 2)) 213 [(4, (M : Int))] G R V := by
  have n := MI_N hM
  refine c_X8_solves (t_X8_solves_0 ly (fun _ => ⟨by omega, ?_⟩))
  refine loop2 (f := fun x y => [some (4, (M : Int)), some (0, x), some (0, y)]) (fun x y V' => -1 ≤ y ∧ y < V M 13 ∧ 1 ≤ x ∧ x ≤ 2 ∧ qF V V' M) (fun _ y _ => (y + 1).toNat) (fun x y V' hx ih => ?_) 2 _ _ ⟨by omega, by omega, by omega, by omega, qF_wr qF_refl (by omega) (by omega) (by omega) (by omega)⟩
  obtain ⟨y0, y1, x0, x1, q⟩ := hx
  have e13 : V' M 13 = V M 13 := q.1 _ _ (by omega)
  have m := MI_q q hM
  refine t_X8_solves_14 ly ⟨by omega, fun _ => ⟨x, rfl, q, by omega, by omega⟩, fun c => ⟨by omega, fun _ => ⟨by omega, ?_⟩⟩⟩
  refine pool2 (f := fun l z => [some (4, (M : Int)), some (0, x), some (0, y), some (2, l), none, some (0, z)]) (fun l z => 0 ≤ z ∧ z ≤ V M 13) (fun _ z => (V M 13 - z).toNat) (fun l z hz ih2 => ?_) _ (y + 1) (by omega)
  have tb := MI_tb m (c := y) (e := y) (by omega) (by omega)
  have t1 := tb.2.2 rfl
  refine t_X8_solves_30 ly (fun _ => ⟨by omega, fun _ => ⟨by omega, by omega, by omega, fun _ => ⟨by omega, fun _ => ⟨by omega, by omega, fun _ => ⟨by omega, ih x (y - 1) _ ⟨by omega, by omega, by omega, by omega, qF_wr q (by omega) (by omega) (by omega) (by omega)⟩ (by omega)⟩, fun _ => ⟨by omega, fun _ => ⟨by omega, ih x (y - 1) _ ⟨by omega, by omega, by omega, by omega, qF_wr q (by omega) (by omega) (by omega) (by omega)⟩ (by omega)⟩, fun _ => ⟨by omega, by omega, ih 1 (y - 1) _ ⟨by omega, by omega, by omega, by omega, qF_wr (qF_wr q (by omega) (by omega) (by omega) (by omega)) (by omega) (by omega) (by omega) (by omega)⟩ (by omega)⟩⟩⟩, fun _ => ⟨by omega, 0, rfl, qF_wr q (by omega) (by omega) (by omega) (by omega), by omega, by omega⟩⟩⟩, fun c2 => ⟨by omega, fun _ => ⟨by omega, by omega, by omega, fun _ => ⟨by omega, ih2 _ _ (by omega) (by omega)⟩⟩⟩⟩)
theorem endsL_q (ly : lay8 G R M) {c : Int} (hc : i64 c) {d : Nat} (hd : 1 ≤ d) {X : Int → gV → Prop} (x : ∀ V', qF V V' M → X c V') : cwv d (fun r V' => ∃ v, r = some (2, v) ∧ X v V') 161 [(4, (M : Int)), (2, c)] G R V := cwJ_u hd (endsLong_c ly hc) (fun v V' h => by rw [h.1]; exact x V' (q_0 h.2))
theorem becomes_c (ly : lay8 G R M) (hM : MI V M) {a : Int} (a0 : 0 ≤ a ∧ a ≤ 7) : qJ 3 V M 212 [(4, (M : Int)), (0, a)] G R := by
  have n := MI_N hM
  refine c_X8_becomes (t_X8_becomes_0 ly (cwI_u (by omega) (solves_c ly hM) (fun v V1 h => ⟨by omega, ?_⟩)))
  refine loop1 (f := fun x => [some (4, (M : Int)), some (0, a), some (0, x)]) (fun x V' => 0 ≤ x ∧ x ≤ V M 13 ∧ qF V V' M) (fun x _ => (V M 13 - x).toNat) (fun x V' hx ih => ?_) 0 _ ⟨by omega, by omega, qF_wr h.1 (by omega) (by omega) (by omega) (by omega)⟩
  obtain ⟨x0, x1, q⟩ := hx
  have e13 : V' M 13 = V M 13 := q.1 _ _ (by omega)
  refine t_X8_becomes_14 ly (fun _ => ⟨by omega, fun _ => cwJ_u (by omega) (sizeOf_c ly (MI_q q hM) a0) (fun v V2 h => ?_), fun c => ⟨by omega, by omega, by omega, fun _ => ⟨by omega, by omega, ih (x + 1) _ ⟨by omega, by omega, qF_wr q (by omega) (by omega) (by omega) (by omega)⟩ (by omega)⟩⟩⟩)
  rw [h.1]
  exact endsL_q ly h.2 (by omega) (fun V3 q2 => ⟨v, rfl, qF_trans q q2, h.2⟩)
theorem coset_c (ly : lay8 G R M) (hM : MI V M) {a c : Int} (h1 : i32 a) (h2 : i32 c) : aJ 3 V M 214 [(4, (M : Int)), (0, a), (0, c)] G R := by
  have n := MI_N hM
  refine c_X8_coset (t_X8_coset_0 ly (cpI_u (by omega) (isNumber_c h1) ⟨bi32 _, fun z => cpI_u (by omega) (isClass_c ly hM h2) ⟨bi32 _, fun z2 => ?_, fun _ => endsL_q ly ⟨by omega, by omega⟩ (by omega) (fun V' q => ⟨_, rfl, mQ_q hM q⟩)⟩, fun _ => endsL_q ly ⟨by omega, by omega⟩ (by omega) (fun V' q => ⟨_, rfl, mQ_q hM q⟩)⟩))
  have a0 := bi_n0 z
  refine ⟨by omega, ?_⟩
  refine loop1 (f := fun x => [some (4, (M : Int)), some (0, a), some (0, c), some (0, x)]) (fun x V' => 0 ≤ x ∧ x ≤ V M 13 ∧ qF V V' M) (fun x _ => (V M 13 - x).toNat) (fun x V' hx ih => ?_) 0 _ ⟨by omega, by omega, qF_wr qF_refl (by omega) (by omega) (by omega) (by omega)⟩
  obtain ⟨x0, x1, q⟩ := hx
  have e13 : V' M 13 = V M 13 := q.1 _ _ (by omega)
  refine t_X8_coset_40 ly (fun _ => ⟨by omega, fun _ => cwJ_u (by omega) (sizeOf_c ly (MI_q q hM) a0) (fun v V2 h => ?_), fun _ => ⟨by omega, by omega, h2, fun _ => ⟨by omega, by omega, ih (x + 1) _ ⟨by omega, by omega, qF_wr q (by omega) (by omega) (by omega) (by omega)⟩ (by omega)⟩, fun _ => ⟨by omega, by omega, ih (x + 1) _ ⟨by omega, by omega, qF_wr q (by omega) (by omega) (by omega) (by omega)⟩ (by omega)⟩⟩⟩)
  rw [h.1]
  exact endsL_q ly h.2 (by omega) (fun V3 q2 => ⟨v, rfl, mQ_q hM (qF_trans q q2)⟩)
theorem rounds_c (ly : lay8 G R M) (hM : MI V M) {h : Int} (h0 : 0 ≤ h ∧ h < V M 12) : cwv 1 (fun r V' => ∃ v, r = some (0, v) ∧ (qF V V' M ∧ 0 ≤ v ∧ v ≤ 8 ∧ ∀ i, 0 ≤ i → i < v → 0 ≤ V' (M + 26) i ∧ V' (M + 26) i ≤ 120)) 215 [(4, (M : Int)), (0, h)] G R V := by
  have n := MI_N hM
  refine c_X8_rounds (t_X8_rounds_0 ly ?_)
  refine loop1 (f := fun x => [some (4, (M : Int)), some (0, h), some (0, 0), some (0, x)]) (fun x V' => 0 ≤ x ∧ x ≤ 8 ∧ qF V V' M) (fun x _ => (8 - x).toNat) (fun x V' hx ih => ?_) 0 V ⟨by omega, by omega, qF_refl⟩
  obtain ⟨x0, x1, q⟩ := hx
  refine t_X8_rounds_4 ly ⟨by omega, fun _ => ?_, fun c => ⟨by omega, by omega, ih (x + 1) _ ⟨by omega, by omega, qF_wr q (by omega) (by omega) (by omega) (by omega)⟩ (by omega)⟩⟩
  refine loop2 (f := fun x y => [some (4, (M : Int)), some (0, h), some (0, x), some (0, y)]) (fun x y V' => 0 ≤ y ∧ y ≤ V M 4 ∧ 0 ≤ x ∧ x ≤ y ∧ qF V V' M ∧ ∀ i, 0 ≤ i → i < x → 0 ≤ V' (M + 26) i ∧ V' (M + 26) i ≤ 120) (fun _ y _ => (V M 4 - y).toNat) (fun x y V' hx ih2 => ?_) 0 0 V' ⟨by omega, by omega, by omega, by omega, q, fun i a b => by omega⟩
  clear q
  obtain ⟨y0, y1, z0, z1, q, hs⟩ := hx
  have e4 : V' M 4 = V M 4 := q.1 _ _ (by omega)
  refine t_X8_rounds_25 ly (fun _ => ⟨by omega, fun _ => ⟨x, rfl, q, by omega, by omega, hs⟩, fun c => ⟨by omega, fun _ => ⟨fun _ => ?_, fun _ => ⟨by omega, ih2 x (y + 1) V' ⟨by omega, by omega, by omega, by omega, q, hs⟩ (by omega)⟩⟩⟩⟩)
  refine loop2 (f := fun m t => [some (4, (M : Int)), some (0, h), some (0, x), some (0, y), some (0, m), some (0, t)]) (fun m t V' => 0 ≤ t ∧ t ≤ V M 5 ∧ 0 ≤ m ∧ m ≤ t ∧ qF V V' M ∧ ∀ i, 0 ≤ i → i < x → 0 ≤ V' (M + 26) i ∧ V' (M + 26) i ≤ 120) (fun _ t _ => (V M 5 - t).toNat) (fun m t V' hx ih3 => ?_) 0 0 V' ⟨by omega, by omega, by omega, by omega, q, hs⟩
  rw [e4] at c
  clear q hs e4
  obtain ⟨t0, t1, m0, m1, q, hs⟩ := hx
  have e5 : V' M 5 = V M 5 := q.1 _ _ (by omega)
  have e4 : V' M 4 = V M 4 := q.1 _ _ (by omega)
  refine t_X8_rounds_51 ly (fun _ => ⟨by omega, fun _ => ⟨by omega, by omega, by omega, by omega, ih2 (x + 1) (y + 1) _ ⟨by omega, by omega, by omega, by omega, qF_wr q (by omega) (by omega) (by omega) (by omega), fun i i0 i1 => ?_⟩ (by omega)⟩, fun c2 => ?_⟩)
  · by_cases w : i = x
    · rw [w, wr_same]; omega
    · rw [wr_i w]; exact hs i i0 (by omega)
  · have im := MI_im (MI_q q hM) (k := t) (p := y) (by omega) (by omega)
    exact ⟨by omega, by omega, by omega, fun _ => ⟨by omega, by omega, by omega, fun _ => ⟨fun _ => ⟨by omega, ih3 m (t + 1) V' ⟨by omega, by omega, by omega, by omega, q, hs⟩ (by omega)⟩, fun _ => ⟨by omega, fun _ => ⟨fun _ => ⟨by omega, by omega, ih3 (m + 1) (t + 1) _ ⟨by omega, by omega, by omega, by omega, qF_wr q (by omega) (by omega) (by omega) (by omega), fun i i0 i1 => by rw [wr_a (by omega)]; exact hs i i0 i1⟩ (by omega)⟩, fun _ => ⟨by omega, ih3 m (t + 1) V' ⟨by omega, by omega, by omega, by omega, q, hs⟩ (by omega)⟩⟩⟩⟩⟩⟩
theorem setsLeft_c (ly : lay8 G R M) (hM : MI V M) {h k : Int} (h0 : 0 ≤ h ∧ h < V M 12) (h1 : i32 k) : qJ 2 V M 216 [(4, (M : Int)), (0, h), (0, k)] G R := by
  refine c_X8_setsLeft (t_X8_setsLeft_0 ly (cwI_u (Nat.le_refl _) (rounds_c ly hM h0) (fun v V1 hr => ?_)))
  obtain ⟨q, v0, v1, hs⟩ := hr
  have kb := t32 (Int32.ofInt 1 <<< (Int32.ofInt v &&& 31))
  have kb : i32 (kshl 1 v) := kb
  refine pool2 (f := fun x y => [some (4, (M : Int)), none, some (0, k), some (0, v), some (2, x), none, some (0, y)]) (fun x y => i64 x ∧ 0 ≤ y ∧ i32 y) (fun _ y => (2147483647 - y).toNat) (fun x y hx ih => ?_) 0 0 ⟨⟨by omega, by omega⟩, by omega, by omega, by omega⟩
  obtain ⟨x0, y0, y1⟩ := hx
  refine t_X8_setsLeft_12 ly ⟨y1, fun _ => ⟨x, rfl, q, x0⟩, fun c => ?_⟩
  refine pool2 (f := fun m i => [some (4, (M : Int)), none, some (0, k), some (0, v), some (2, x), none, some (0, y), some (0, m), some (0, i)]) (fun m i => 0 ≤ i ∧ i ≤ v ∧ 0 ≤ m ∧ m ≤ 120 * i) (fun _ i => (v - i).toNat) (fun m i hx ih2 => ?_) 0 0 (by omega)
  refine t_X8_setsLeft_26 ly ⟨by omega, by omega, fun _ => ⟨by omega, h1, fun _ => ⟨by omega, ih _ (y + 1) ⟨t64 _, by omega, by omega, by omega⟩ (by omega)⟩, fun _ => ⟨by omega, ih _ (y + 1) ⟨t64 _, by omega, by omega, by omega⟩ (by omega)⟩⟩, fun c2 => ⟨by omega, fun _ => ?_⟩⟩
  have b := hs i (by omega) c2
  have e : 0 ≤ kand (kshr y i) 1 * V1 (M + 26) i ∧ kand (kshr y i) 1 * V1 (M + 26) i ≤ 120 := by
    rcases kand1 (kshr y i) with w | w <;> rw [w] <;> omega
  exact ⟨by omega, by omega, by omega, ih2 _ _ (by omega) (by omega)⟩
theorem rowsLeft_c (ly : lay8 G R M) (hM : MI V M) {h k : Int} (h0 : 0 ≤ h ∧ h < V M 12) (h1 : 0 ≤ k ∧ k ≤ 8) : qJ 2 V M 217 [(4, (M : Int)), (0, h), (0, k)] G R := by
  refine c_X8_rowsLeft (t_X8_rowsLeft_0 ly (cwI_u (Nat.le_refl _) (rounds_c ly hM h0) (fun v V1 hr => ?_)))
  obtain ⟨q, v0, v1, hs⟩ := hr
  refine pool2 (f := fun x y => [some (4, (M : Int)), none, some (0, k), some (0, v), some (0, x), some (0, y)]) (fun x y => 0 ≤ y ∧ y ≤ v ∧ 0 ≤ x ∧ x ≤ y) (fun _ y => (v - y).toNat) (fun x y hx ih => ?_) 0 0 (by omega)
  refine t_X8_rowsLeft_12 ly ⟨by omega, by omega, fun _ => ?_, fun c => ⟨by omega, fun _ => ⟨fun _ => ⟨by omega, by omega, ih _ _ (by omega) (by omega)⟩, fun _ => ⟨by omega, by omega, ih _ _ (by omega) (by omega)⟩⟩⟩⟩
  refine pool2 (f := fun z i => [none, none, some (0, k), none, some (0, x), some (2, z), none, some (0, i)]) (fun z i => i64 z ∧ 0 ≤ i ∧ i ≤ k) (fun _ i => (k - i).toNat) (fun z i hz ih2 => ?_) 1 0 ⟨⟨by omega, by omega⟩, by omega, by omega⟩
  exact t_X8_rowsLeft_51 ⟨by omega, by omega, fun _ => ⟨z, rfl, q, hz.1⟩, fun c => ⟨by omega, fun _ => ⟨by omega, ih2 _ _ ⟨t64 _, by omega, by omega⟩ (by omega)⟩, fun _ => ⟨by omega, by omega, ih2 _ _ ⟨t64 _, by omega, by omega⟩ (by omega)⟩⟩⟩
end
