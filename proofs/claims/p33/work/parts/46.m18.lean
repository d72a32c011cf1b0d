section
variable {d : Nat} {G : List gS} {R V : gV} {M : Nat}
/-! what the model's numbers keep to -/
theorem MI_N (h : MI V M) : (1 ≤ V M 5 ∧ V M 5 ≤ 120) ∧ (1 ≤ V M 4 ∧ V M 4 ≤ 8) ∧ (1 ≤ V M 12 ∧ V M 12 ≤ 300) ∧ (1 ≤ V M 13 ∧ V M 13 ≤ V M 12) ∧ (0 ≤ V M 35 ∧ V M 35 ≤ V M 13) := ⟨⟨h.2.1.1.1.2.2.1, h.2.1.1.1.2.2.2.1⟩, ⟨h.2.1.1.1.1, h.2.1.1.1.2.1⟩, ⟨h.2.1.2.1.2.1.1, h.2.1.2.1.2.1.2.1⟩, ⟨h.2.1.2.1.2.2.2.1, h.2.1.2.1.2.2.2.2.1⟩, h.2.2.1⟩
theorem MI_pr (h : MI V M) {s t : Int} (s0 : 0 ≤ s ∧ s < V M 5) (t0 : 0 ≤ t ∧ t < V M 5) : 0 ≤ V (M + 5) (120 * s + t) ∧ V (M + 5) (120 * s + t) < V M 5 := ⟨(h.2.1.1.2.2.1 s t s0.1 s0.2 t0.1 t0.2).1, (h.2.1.1.2.2.1 s t s0.1 s0.2 t0.1 t0.2).2.1⟩
theorem MI_iv (h : MI V M) {s : Int} (s0 : 0 ≤ s ∧ s < V M 5) : 0 ≤ V (M + 6) s ∧ V (M + 6) s < V M 5 := ⟨(h.2.1.1.2.2.2.1 s s0.1 s0.2).1, (h.2.1.1.2.2.2.1 s s0.1 s0.2).2.1⟩
theorem MI_im (h : MI V M) {k p : Int} (k0 : 0 ≤ k ∧ k < V M 5) (p0 : 0 ≤ p ∧ p < V M 4) : 0 ≤ V (M + 4) (8 * k + p) ∧ V (M + 4) (8 * k + p) < V M 4 := h.2.1.1.1.2.2.2.2.1 k p k0.1 k0.2 p0.1 p0.2
theorem MI_ld (h : MI V M) {k g : Int} (k0 : 0 ≤ k ∧ k < V M 12) (g0 : 0 ≤ g ∧ g < V M 5) : 0 ≤ V (M + 13) (120 * k + g) ∧ V (M + 13) (120 * k + g) < V M 12 := ⟨(h.2.1.2.1.2.2.1 k g k0.1 k0.2 g0.1 g0.2).1, (h.2.1.2.1.2.2.1 k g k0.1 k0.2 g0.1 g0.2).2.1⟩
theorem MI_co (h : MI V M) {k : Int} (k0 : 0 ≤ k ∧ k < V M 12) : 0 ≤ V (M + 14) k ∧ V (M + 14) k < V M 13 := h.2.1.2.1.2.2.2.2.2.1 k k0.1 k0.2
theorem MI_fo (h : MI V M) {c : Int} (c0 : 0 ≤ c ∧ c < V M 13) : 0 ≤ V (M + 15) c ∧ V (M + 15) c < V M 12 := h.2.1.2.1.2.2.2.2.2.2.1 c c0.1 c0.2
theorem MI_tb (h : MI V M) {c e : Int} (c0 : 0 ≤ c ∧ c < V M 13) (e0 : 0 ≤ e ∧ e < V M 13) : 0 ≤ V (M + 18) (300 * c + e) ∧ V (M + 18) (300 * c + e) ≤ 120 ∧ (c = e → 1 ≤ V (M + 18) (300 * c + e)) := by
  have w := h.2.1.2.2.1 c e c0.1 c0.2 e0.1 e0.2
  exact ⟨w.1, w.2.1, w.2.2.1⟩
theorem MI_sz (h : MI V M) {k : Int} (k0 : 0 ≤ k ∧ k < V M 12) : 1 ≤ V (M + 10) k ∧ V (M + 10) k ≤ 120 := by
  have hk := h.2.1.2.1.2.1.2.2.1 k k0.1 k0.2
  have N1 := (MI_N h).1
  have en : (((V M 5).toNat : Nat) : Int) = V M 5 := Int.toNat_of_nonneg (by omega)
  have e : V (M + 10) k = sm (mHas V M k) (V M 5).toNat := hk.2
  have b := sm_b (f := mHas V M k) (n := (V M 5).toNat) (fun i i0 i1 => by rcases hk.1.1 i i0 (by omega) with q | q <;> omega)
  have : sm (fun _ => 0) (V M 5).toNat < sm (mHas V M k) (V M 5).toNat := by
    refine sm_lt (j := 0) (fun i i0 i1 => ?_) (by omega) (by omega) ?_
    · rcases hk.1.1 i i0 (by omega) with z | z <;> omega
    · have := hk.1.2.1
      omega
  have z := (sm_b (f := fun _ => 0) (n := (V M 5).toNat) (fun i _ _ => ⟨by omega, by omega⟩)).1
  omega
/-- calls that only ask -/
abbrev qC (d : Nat) (V : gV) (M : Nat) (lo hi : Int) (y : Nat) (as : List zV) (G : List gS) (R : gV) : Prop := cwv d (fun r V' => ∃ v, r = some (0, v) ∧ (qF V V' M ∧ lo ≤ v ∧ v ≤ hi)) y as G R V
theorem isTurn_c (ly : lay8 G R M) (hM : MI V M) {t : Int} (h : i32 t) : cpI 2 (bi (0 ≤ t ∧ t ≤ V M 5 - 1)) 183 [(4, (M : Int)), (0, t)] G R V := by
  have n := MI_N hM
  exact c_X8_isTurn (t_X8_isTurn_0 ly ⟨h, fun _ => ⟨by omega, cpI_u (Nat.le_refl _) (in_c (i32_64 h) ⟨by omega, by omega⟩ ⟨by omega, by omega⟩) ⟨bi_01 _, rfl, rfl⟩⟩⟩)
theorem isHeap_c (ly : lay8 G R M) (hM : MI V M) {t : Int} (h : i32 t) : cpI 2 (bi (0 ≤ t ∧ t ≤ V M 12 - 1)) 184 [(4, (M : Int)), (0, t)] G R V := by
  have n := MI_N hM
  exact c_X8_isHeap (t_X8_isHeap_0 ly ⟨h, fun _ => ⟨by omega, cpI_u (Nat.le_refl _) (in_c (i32_64 h) ⟨by omega, by omega⟩ ⟨by omega, by omega⟩) ⟨bi_01 _, rfl, rfl⟩⟩⟩)
theorem isClass_c (ly : lay8 G R M) (hM : MI V M) {t : Int} (h : i32 t) : cpI 2 (bi (0 ≤ t ∧ t ≤ V M 13 - 1)) 185 [(4, (M : Int)), (0, t)] G R V := by
  have n := MI_N hM
  exact c_X8_isClass (t_X8_isClass_0 ly ⟨h, fun _ => ⟨by omega, cpI_u (Nat.le_refl _) (in_c (i32_64 h) ⟨by omega, by omega⟩ ⟨by omega, by omega⟩) ⟨bi_01 _, rfl, rfl⟩⟩⟩)
theorem bi_n0 {p : Prop} (h : ¬ bi p = 0) : p := by
  rcases bi_01 p with q | q
  · exact absurd q h
  · exact bi_1.mp q
theorem clears_c (ly : lay8 G R M) (hM : MI V M) : cwv 1 (fun r V' => r = none ∧ qF V V' M) 189 [(4, (M : Int))] G R V := by
  have n := MI_N hM
  refine c_X8_clears (t_X8_clears_0 ly ?_)
  generalize hV0 : V = V0 at hM n ⊢
  refine loop1 (f := fun x => [some (4, (M : Int)), some (0, x)]) (fun x V => 0 ≤ x ∧ x ≤ V0 M 5 ∧ qF V0 V M) (fun x _ => (V0 M 5 - x).toNat) (fun x V hx ih => ?_) 0 V0 ⟨by omega, by omega, qF_refl⟩
  obtain ⟨x0, x1, q⟩ := hx
  have e5 : V M 5 = V0 M 5 := q.1 _ _ (by omega)
  exact t_X8_clears_2 ly (fun _ => ⟨by omega, fun _ => ⟨rfl, q⟩, fun c => ⟨by omega, by omega, by omega, ih (x + 1) _ ⟨by omega, by omega, qF_wr q (by omega) (by omega) (by omega) (by omega)⟩ (by omega)⟩⟩)
theorem least_c (ly : lay8 G R M) (hM : MI V M) : cwv 2 (fun r V' => ∃ v, r = some (0, v) ∧ (V' = V ∧ 0 ≤ v ∧ v < V M 12)) 188 [(4, (M : Int))] G R V := by
  have n := MI_N hM
  have gt := (GC_N hM.2.1).1
  -- the heap of all turns
  obtain ⟨w, w0, w1, w2⟩ := hM.2.1.2.1.2.1.2.2.2.1 (fun _ => 1) ⟨fun _ _ _ => Or.inr rfl, rfl, fun _ _ _ _ _ _ _ _ => rfl⟩
  refine c_X8_least (t_X8_least_0 ly ?_)
  refine pool2 (f := fun x y => [some (4, (M : Int)), some (0, x), some (0, y)]) (fun x y => 0 ≤ y ∧ y ≤ V M 12 ∧ ((x = -1 ∧ y ≤ w) ∨ (0 ≤ x ∧ x < V M 12))) (fun _ y => (V M 12 - y).toNat) (fun x y hx ih => ?_) (-1) 0 ⟨by omega, by omega, by omega⟩
  obtain ⟨y0, y1, hx⟩ := hx
  refine t_X8_least_4 ly (fun _ => ⟨by omega, fun c => ⟨x, rfl, rfl, by omega, by omega⟩, fun c => ⟨by omega, fun z => ⟨x, rfl, rfl, by omega, by omega⟩, fun z => ?_⟩⟩)
  refine cpI_u (Nat.le_refl _) (lies_c ly (by omega) (by omega) (by omega)) ⟨bi32 _, fun z2 => ⟨by omega, ih x (y + 1) ⟨by omega, by omega, ?_⟩ (by omega)⟩, fun z2 => ⟨by omega, ih y (y + 1) ⟨by omega, by omega, by omega⟩ (by omega)⟩⟩
  have : y ≠ w := by
    intro e
    rw [e] at z2
    exact bi_0.mp z2 (fun t t0 t1 _ => w2 t t0 t1)
  omega
theorem madeBy_c (ly : lay8 G R M) (hM : MI V M) {t : Int} (t0 : 0 ≤ t ∧ t < V M 5) : cwv 3 (fun r V' => ∃ v, r = some (0, v) ∧ (qF V V' M ∧ 0 ≤ v ∧ v < V M 12)) 190 [(4, (M : Int)), (0, t)] G R V := by
  have n := MI_N hM
  refine c_X8_madeBy (t_X8_madeBy_0 ly (cw0_u (Nat.le_add_right 1 1) (clears_c ly hM) (fun V1 q => ⟨by omega, by omega, ?_⟩)))
  have q2 : qF V (wr V1 (M + 9) (36000 + t) 1) M := qF_wr q (by omega) (by omega) (by omega) (by omega)
  have e12 : wr V1 (M + 9) (36000 + t) 1 M 12 = V M 12 := q2.1 _ _ (by omega)
  refine cwI_u (Nat.le_refl _) (least_c ly (MI_q q2 hM)) (fun v V' h => ⟨v, rfl, by rw [h.1]; exact q2, h.2.1, by rw [← e12]; exact h.2.2⟩)
theorem marked_c (ly : lay8 G R M) (hM : MI V M) : cwv 1 (fun r V' => ∃ v, r = some (0, v) ∧ (V' = V ∧ 0 ≤ v ∧ v ≤ 120)) 192 [(4, (M : Int))] G R V := by
  have n := MI_N hM
  refine c_X8_marked (t_X8_marked_0 ly ?_)
  refine pool2 (f := fun x y => [some (4, (M : Int)), some (0, x), some (0, y)]) (fun x y => 0 ≤ y ∧ y ≤ V M 5 ∧ 0 ≤ x ∧ x ≤ y) (fun _ y => (V M 5 - y).toNat) (fun x y hx ih => ?_) 0 0 (by omega)
  exact t_X8_marked_4 ly (fun _ => ⟨by omega, fun c => ⟨x, rfl, rfl, by omega, by omega⟩, fun c => ⟨by omega, by omega, fun _ => ⟨fun _ => ⟨by omega, by omega, ih _ _ (by omega) (by omega)⟩, fun _ => ⟨by omega, by omega, ih _ _ (by omega) (by omega)⟩⟩⟩⟩)
theorem exact_c (ly : lay8 G R M) (hM : MI V M) : qC 3 V M (-1) 299 193 [(4, (M : Int))] G R := by
  have n := MI_N hM
  refine c_X8_exact (t_X8_exact_0 ly (cwI_u (Nat.le_add_right 1 1) (marked_c ly hM) (fun v V1 h => ⟨by omega, fun _ => ?_⟩)))
  rw [h.1]
  have q2 : qF V (wr V (M + 10) 300 v) M := qF_wr qF_refl (by omega) (by omega) (by omega) (by omega)
  have e5 : wr V (M + 10) 300 v M 5 = V M 5 := q2.1 _ _ (by omega)
  refine cwI_u (Nat.le_refl _) (among_c (V := wr V (M + 10) 300 v) ly (h := 300) (n := V M 12) (by omega) (by omega) (by omega)) (fun w V' h2 => ⟨w, rfl, by rw [h2.1]; exact q2, ?_, ?_⟩)
  · rcases h2.2 with z | z <;> omega
  · rcases h2.2 with z | z <;> omega
theorem normalizer_c (ly : lay8 G R M) (hM : MI V M) {h : Int} (h0 : 0 ≤ h ∧ h < V M 12) : qC 4 V M (-1) 299 194 [(4, (M : Int)), (0, h)] G R := by
  have n := MI_N hM
  refine c_X8_normalizer (t_X8_normalizer_0 ly (cw0_u (Nat.le_add_right 1 2) (clears_c ly hM) (fun V1 q => ?_)))
  refine loop1 (f := fun x => [some (4, (M : Int)), some (0, h), some (0, x)]) (fun x V' => 0 ≤ x ∧ x ≤ V M 5 ∧ qF V V' M) (fun x _ => (V M 5 - x).toNat) (fun x V' hx ih => ?_) 0 V1 ⟨by omega, by omega, q⟩
  clear q
  obtain ⟨x0, x1, q⟩ := hx
  have e5 : V' M 5 = V M 5 := q.1 _ _ (by omega)
  have e12 : V' M 12 = V M 12 := q.1 _ _ (by omega)
  refine t_X8_normalizer_6 ly (fun _ => ⟨by omega, fun c => ?_, fun c => ⟨by omega, by omega, by omega, by omega, fun _ => ⟨by omega, fun _ => ⟨by omega, by omega, ih (x + 1) _ ⟨by omega, by omega, qF_wr q (by omega) (by omega) (by omega) (by omega)⟩ (by omega)⟩, fun _ => ⟨by omega, by omega, ih (x + 1) _ ⟨by omega, by omega, qF_wr q (by omega) (by omega) (by omega) (by omega)⟩ (by omega)⟩⟩⟩⟩)
  exact cwI_u (Nat.le_refl _) (exact_c ly (MI_q q hM)) (fun v V'' h => ⟨v, rfl, qF_trans q h.1, h.2⟩)
theorem core_c (ly : lay8 G R M) (hM : MI V M) {h : Int} (h0 : 0 ≤ h ∧ h < V M 12) : qC 4 V M (-1) 299 195 [(4, (M : Int)), (0, h)] G R := by
  have n := MI_N hM
  refine c_X8_core (t_X8_core_0 ly (cw0_u (Nat.le_add_right 1 2) (clears_c ly hM) (fun V1 q => ?_)))
  refine loop1 (f := fun x => [some (4, (M : Int)), some (0, h), some (0, x)]) (fun x V' => 0 ≤ x ∧ x ≤ V M 5 ∧ qF V V' M) (fun x _ => (V M 5 - x).toNat) (fun x V' hx ih => ?_) 0 V1 ⟨by omega, by omega, q⟩
  clear q
  obtain ⟨x0, x1, q⟩ := hx
  have e5 : V' M 5 = V M 5 := q.1 _ _ (by omega)
  have e12 : V' M 12 = V M 12 := q.1 _ _ (by omega)
  have m := MI_q q hM
  refine t_X8_core_6 ly (fun _ => ⟨by omega, fun c => ?_, fun c => ?_⟩)
  · exact cwI_u (Nat.le_refl _) (exact_c ly m) (fun v V'' h => ⟨v, rfl, qF_trans q h.1, h.2⟩)
  · refine pool2 (f := fun y z => [some (4, (M : Int)), some (0, h), some (0, x), some (0, y), some (0, z)]) (fun y z => 0 ≤ z ∧ z ≤ V M 5 ∧ (y = 0 ∨ y = 1)) (fun _ z => (V M 5 - z).toNat) (fun y z hx ih2 => ?_) 1 0 ⟨by omega, by omega, by omega⟩
    obtain ⟨z0, z1, y0⟩ := hx
    refine t_X8_core_19 ly (fun _ => ⟨by omega, fun c => ⟨by omega, by omega, by omega, by omega, ih (x + 1) _ ⟨by omega, by omega, qF_wr q (by omega) (by omega) (by omega) (by omega)⟩ (by omega)⟩, fun c => ⟨by omega, fun _ => ⟨by omega, ih2 _ _ ⟨by omega, by omega, by omega⟩ (by omega)⟩, fun _ => ?_⟩⟩)
    have l := MI_ld m (k := h) (g := z) (by omega) (by omega)
    exact ⟨by omega, by omega, by omega, fun _ => ⟨by omega, by omega, by omega, fun _ => ⟨fun _ => ⟨by omega, ih2 _ _ ⟨by omega, by omega, by omega⟩ (by omega)⟩, fun _ => ⟨by omega, ih2 _ _ ⟨by omega, by omega, by omega⟩ (by omega)⟩⟩⟩⟩
theorem derived_c (ly : lay8 G R M) (hM : MI V M) {h : Int} (h0 : 0 ≤ h ∧ h < V M 12) : cwv 3 (fun r V' => ∃ v, r = some (0, v) ∧ (qF V V' M ∧ 0 ≤ v ∧ v < V M 12)) 196 [(4, (M : Int)), (0, h)] G R V := by
  have n := MI_N hM
  refine c_X8_derived (t_X8_derived_0 ly (cw0_u (Nat.le_add_right 1 1) (clears_c ly hM) (fun V1 q => ?_)))
  refine loop1 (f := fun x => [some (4, (M : Int)), some (0, h), some (0, x)]) (fun x V' => 0 ≤ x ∧ x ≤ V M 5 ∧ qF V V' M) (fun x _ => (V M 5 - x).toNat) (fun x V' hx ih => ?_) 0 V1 ⟨by omega, by omega, q⟩
  clear q
  obtain ⟨x0, x1, q⟩ := hx
  have e5 : V' M 5 = V M 5 := q.1 _ _ (by omega)
  have e12 : V' M 12 = V M 12 := q.1 _ _ (by omega)
  refine t_X8_derived_6 ly (fun _ => ⟨by omega, fun c => ?_, fun c => ?_⟩)
  · exact cwI_u (Nat.le_refl _) (least_c ly (MI_q q hM)) (fun v V'' h => ⟨v, rfl, by rw [h.1]; exact q, h.2.1, by rw [← e12]; exact h.2.2⟩)
  · rw [e5] at c
    refine loop1 (f := fun y => [some (4, (M : Int)), some (0, h), some (0, x), some (0, y)]) (fun y V' => 0 ≤ y ∧ y ≤ V M 5 ∧ qF V V' M) (fun y _ => (V M 5 - y).toNat) (fun y V' hx ih2 => ?_) 0 V' ⟨by omega, by omega, q⟩
    clear q e5 e12
    obtain ⟨y0, y1, q⟩ := hx
    have e5 : V' M 5 = V M 5 := q.1 _ _ (by omega)
    have m := MI_q q hM
    refine t_X8_derived_16 ly (fun _ => ⟨by omega, fun _ => ⟨by omega, ih (x + 1) V' ⟨by omega, by omega, q⟩ (by omega)⟩, fun c2 => ⟨by omega, by omega, by omega, fun _ => ⟨fun _ => ⟨by omega, ih2 (y + 1) V' ⟨by omega, by omega, q⟩ (by omega)⟩, fun _ => ⟨by omega, by omega, fun _ => ⟨fun _ => ?_, fun _ => ⟨by omega, ih2 (y + 1) V' ⟨by omega, by omega, q⟩ (by omega)⟩⟩⟩⟩⟩⟩)
    have p1 := MI_pr m (s := x) (t := y) (by omega) (by omega)
    have i1 := MI_iv m (s := x) (by omega)
    have i2 := MI_iv m (s := y) (by omega)
    have p2 := MI_pr m p1 i1
    have p3 := MI_pr m p2 i2
    exact ⟨by omega, by omega, by omega, fun _ => ⟨by omega, by omega, fun _ => ⟨by omega, by omega, fun _ => ⟨by omega, by omega, fun _ => ⟨by omega, by omega, fun _ => ⟨by omega, by omega, by omega, ih2 (y + 1) _ ⟨by omega, by omega, qF_wr q (by omega) (by omega) (by omega) (by omega)⟩ (by omega)⟩⟩⟩⟩⟩⟩
theorem isQuiet_c (ly : lay8 G R M) (hM : MI V M) {h : Int} (h0 : 0 ≤ h ∧ h < V M 12) : cwv 1 (fun r V' => ∃ v, r = some (0, v) ∧ (V' = V ∧ (v = 0 ∨ v = 1))) 197 [(4, (M : Int)), (0, h)] G R V := by
  have n := MI_N hM
  refine c_X8_isQuiet (t_X8_isQuiet_0 ly ?_)
  refine pool2 (f := fun x y => [some (4, (M : Int)), some (0, h), some (0, x), some (0, y)]) (fun x y => 0 ≤ y ∧ y ≤ V M 5 ∧ (x = 0 ∨ x = 1)) (fun _ y => (V M 5 - y).toNat) (fun x y hx ih => ?_) 1 0 (by omega)
  refine t_X8_isQuiet_4 ly (fun _ => ⟨by omega, fun c => ⟨by omega, x, rfl, rfl, by omega⟩, fun c => ?_⟩)
  refine pool2 (f := fun x z => [some (4, (M : Int)), some (0, h), some (0, x), some (0, y), some (0, z)]) (fun x z => 0 ≤ z ∧ z ≤ V M 5 ∧ (x = 0 ∨ x = 1)) (fun _ z => (V M 5 - z).toNat) (fun x z hx2 ih2 => ?_) x 0 (by omega)
  exact t_X8_isQuiet_15 ly (fun _ => ⟨by omega, fun _ => ⟨by omega, ih x (y + 1) (by omega) (by omega)⟩, fun c2 => ⟨by omega, fun _ => ⟨by omega, ih2 _ _ (by omega) (by omega)⟩, fun _ => ⟨by omega, by omega, by omega, fun _ => ⟨fun _ => ⟨by omega, ih2 _ _ (by omega) (by omega)⟩, fun _ => ⟨by omega, by omega, fun _ => ⟨fun _ => ⟨by omega, ih2 _ _ (by omega) (by omega)⟩, fun _ => ⟨by omega, by omega, by omega, fun _ => ⟨by omega, by omega, by omega, fun _ => ⟨fun _ => ⟨by omega, ih2 _ _ (by omega) (by omega)⟩, fun _ => ⟨by omega, ih2 _ _ (by omega) (by omega)⟩⟩⟩⟩⟩⟩⟩⟩⟩⟩)
theorem isNormal_c (ly : lay8 G R M) (hM : MI V M) {h : Int} (h0 : 0 ≤ h ∧ h < V M 12) : cwv 1 (fun r V' => ∃ v, r = some (0, v) ∧ (V' = V ∧ (v = 0 ∨ v = 1))) 198 [(4, (M : Int)), (0, h)] G R V := by
  have n := MI_N hM
  have c := MI_co hM h0
  exact c_X8_isNormal (t_X8_isNormal_0 ly ⟨by omega, fun _ => ⟨by omega, fun _ => ⟨fun _ => ⟨0, rfl, rfl, by omega⟩, fun _ => ⟨1, rfl, rfl, by omega⟩⟩⟩⟩)
end
