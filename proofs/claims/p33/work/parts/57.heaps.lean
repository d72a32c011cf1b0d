/-! heaps of a group -/
def hA (G : List gS) (R : gV) (T : gT) (y : Nat) : Prop := (lay4 G R y) ∧ (∀ v, T y 0 v → 1 ≤ v ∧ v ≤ 300) ∧ (∀ v, T y 1 v → 0 ≤ v ∧ v ≤ 300) ∧ (∀ i v, Imp (T (y + 3) i v) (0 ≤ v ∧ v ≤ 14400)) ∧ (∀ i v, T (y + 4) i v → 0 ≤ v ∧ v < 300) ∧ (∀ i v, Imp (T (y + 5) i v) (0 ≤ v ∧ v < 300)) ∧ (∀ i v, Imp (T (y + 6) i v) (-1 ≤ v ∧ v < 300)) ∧ (∀ i v, Imp (T (y + 7) i v) (0 ≤ v ∧ v < 300)) ∧ (∀ i v, Imp (T (y + 8) i v) (0 ≤ v ∧ v ≤ 300)) ∧ (∀ i v, Imp (T (y + 10) i v) (0 ≤ v ∧ v ≤ 120)) ∧ (∀ i v, Imp (T (y + 11) i v) (0 ≤ v ∧ v < 300))
theorem hA.ly {G : List gS} {R : gV} {T : gT} {y : Nat} (h : hA G R T y) : lay4 G R y := h.1
theorem hA.cn {G : List gS} {R : gV} {T : gT} {y : Nat} (h : hA G R T y) : ∀ v, T y 0 v → 1 ≤ v ∧ v ≤ 300 := h.2.1
theorem hA.cl {G : List gS} {R : gV} {T : gT} {y : Nat} (h : hA G R T y) : ∀ v, T y 1 v → 0 ≤ v ∧ v ≤ 300 := h.2.2.1
theorem hA.sz {G : List gS} {R : gV} {T : gT} {y : Nat} (h : hA G R T y) : ∀ i v, Imp (T (y + 3) i v) (0 ≤ v ∧ v ≤ 14400) := h.2.2.2.1
theorem hA.co {G : List gS} {R : gV} {T : gT} {y : Nat} (h : hA G R T y) : ∀ i v, T (y + 4) i v → 0 ≤ v ∧ v < 300 := h.2.2.2.2.1
theorem hA.mb {G : List gS} {R : gV} {T : gT} {y : Nat} (h : hA G R T y) : ∀ i v, Imp (T (y + 5) i v) (0 ≤ v ∧ v < 300) := h.2.2.2.2.2.1
theorem hA.de {G : List gS} {R : gV} {T : gT} {y : Nat} (h : hA G R T y) : ∀ i v, Imp (T (y + 6) i v) (-1 ≤ v ∧ v < 300) := h.2.2.2.2.2.2.1
theorem hA.fi {G : List gS} {R : gV} {T : gT} {y : Nat} (h : hA G R T y) : ∀ i v, Imp (T (y + 7) i v) (0 ≤ v ∧ v < 300) := h.2.2.2.2.2.2.2.1
theorem hA.nu {G : List gS} {R : gV} {T : gT} {y : Nat} (h : hA G R T y) : ∀ i v, Imp (T (y + 8) i v) (0 ≤ v ∧ v ≤ 300) := h.2.2.2.2.2.2.2.2.1
theorem hA.sp {G : List gS} {R : gV} {T : gT} {y : Nat} (h : hA G R T y) : ∀ i v, Imp (T (y + 10) i v) (0 ≤ v ∧ v ≤ 120) := h.2.2.2.2.2.2.2.2.2.1
theorem hA.so {G : List gS} {R : gV} {T : gT} {y : Nat} (h : hA G R T y) : ∀ i v, Imp (T (y + 11) i v) (0 ≤ v ∧ v < 300) := h.2.2.2.2.2.2.2.2.2.2
theorem hA.mk {G : List gS} {R : gV} {T : gT} {y : Nat} (h_ly : lay4 G R y) (h_cn : ∀ v, T y 0 v → 1 ≤ v ∧ v ≤ 300) (h_cl : ∀ v, T y 1 v → 0 ≤ v ∧ v ≤ 300) (h_sz : ∀ i v, Imp (T (y + 3) i v) (0 ≤ v ∧ v ≤ 14400)) (h_co : ∀ i v, T (y + 4) i v → 0 ≤ v ∧ v < 300) (h_mb : ∀ i v, Imp (T (y + 5) i v) (0 ≤ v ∧ v < 300)) (h_de : ∀ i v, Imp (T (y + 6) i v) (-1 ≤ v ∧ v < 300)) (h_fi : ∀ i v, Imp (T (y + 7) i v) (0 ≤ v ∧ v < 300)) (h_nu : ∀ i v, Imp (T (y + 8) i v) (0 ≤ v ∧ v ≤ 300)) (h_sp : ∀ i v, Imp (T (y + 10) i v) (0 ≤ v ∧ v ≤ 120)) (h_so : ∀ i v, Imp (T (y + 11) i v) (0 ≤ v ∧ v < 300)) : hA G R T y := ⟨h_ly, h_cn, h_cl, h_sz, h_co, h_mb, h_de, h_fi, h_nu, h_sp, h_so⟩
def hT (G : List gS) (R : gV) (T : gT) (y o m : Nat) (E : Int) : Prop := (hA G R T y) ∧ (R y 13 = (o : Int)) ∧ (G[o]? = some (.inr (0, m))) ∧ (0 ≤ E ∧ E ≤ 300) ∧ (E * E ≤ m) ∧ (∀ v, T y 1 v → v ≤ E) ∧ (∀ i v, Imp (T o i v) (0 ≤ v ∧ v ≤ 90000))
theorem hT.a {G : List gS} {R : gV} {T : gT} {y o m : Nat} {E : Int} (h : hT G R T y o m E) : hA G R T y := h.1
theorem hT.ro {G : List gS} {R : gV} {T : gT} {y o m : Nat} {E : Int} (h : hT G R T y o m E) : R y 13 = (o : Int) := h.2.1
theorem hT.go {G : List gS} {R : gV} {T : gT} {y o m : Nat} {E : Int} (h : hT G R T y o m E) : G[o]? = some (.inr (0, m)) := h.2.2.1
theorem hT.e0 {G : List gS} {R : gV} {T : gT} {y o m : Nat} {E : Int} (h : hT G R T y o m E) : 0 ≤ E ∧ E ≤ 300 := h.2.2.2.1
theorem hT.em {G : List gS} {R : gV} {T : gT} {y o m : Nat} {E : Int} (h : hT G R T y o m E) : E * E ≤ m := h.2.2.2.2.1
theorem hT.cE {G : List gS} {R : gV} {T : gT} {y o m : Nat} {E : Int} (h : hT G R T y o m E) : ∀ v, T y 1 v → v ≤ E := h.2.2.2.2.2.1
theorem hT.ov {G : List gS} {R : gV} {T : gT} {y o m : Nat} {E : Int} (h : hT G R T y o m E) : ∀ i v, Imp (T o i v) (0 ≤ v ∧ v ≤ 90000) := h.2.2.2.2.2.2
theorem hT.mk {G : List gS} {R : gV} {T : gT} {y o m : Nat} {E : Int} (h_a : hA G R T y) (h_ro : R y 13 = (o : Int)) (h_go : G[o]? = some (.inr (0, m))) (h_e0 : 0 ≤ E ∧ E ≤ 300) (h_em : E * E ≤ m) (h_cE : ∀ v, T y 1 v → v ≤ E) (h_ov : ∀ i v, Imp (T o i v) (0 ≤ v ∧ v ≤ 90000)) : hT G R T y o m E := ⟨h_a, h_ro, h_go, h_e0, h_em, h_cE, h_ov⟩
/-- while a group is built, its heaps' cells may hold all that they ever hold -/
def hB (T : gT) (y o : Nat) : Prop := (∀ v, T y 0 v ↔ 1 ≤ v ∧ v ≤ 300) ∧ (∀ i v, T (y + 1) i v) ∧ (∀ i v, T (y + 2) i v) ∧ (∀ i v, T (y + 3) i v ↔ 0 ≤ v ∧ v ≤ 14400) ∧ (∀ i v, T (y + 4) i v ↔ 0 ≤ v ∧ v < 300) ∧ (∀ i v, T (y + 5) i v ↔ 0 ≤ v ∧ v < 300) ∧ (∀ i v, T (y + 7) i v ↔ 0 ≤ v ∧ v < 300) ∧ (∀ i v, T (y + 8) i v ↔ 0 ≤ v ∧ v ≤ 300) ∧ (∀ i v, T (y + 9) i v) ∧ (∀ i v, T (y + 10) i v ↔ 0 ≤ v ∧ v ≤ 120) ∧ (∀ i v, T (y + 11) i v ↔ 0 ≤ v ∧ v < 300) ∧ (∀ i v, T o i v ↔ 0 ≤ v ∧ v ≤ 90000) ∧ (∀ i v, T (y + 6) i v ↔ -1 ≤ v ∧ v < 300)
theorem hB.cn {T : gT} {y o : Nat} (h : hB T y o) : ∀ v, T y 0 v ↔ 1 ≤ v ∧ v ≤ 300 := h.1
theorem hB.lo {T : gT} {y o : Nat} (h : hB T y o) : ∀ i v, T (y + 1) i v := h.2.1
theorem hB.hi {T : gT} {y o : Nat} (h : hB T y o) : ∀ i v, T (y + 2) i v := h.2.2.1
theorem hB.sz {T : gT} {y o : Nat} (h : hB T y o) : ∀ i v, T (y + 3) i v ↔ 0 ≤ v ∧ v ≤ 14400 := h.2.2.2.1
theorem hB.co {T : gT} {y o : Nat} (h : hB T y o) : ∀ i v, T (y + 4) i v ↔ 0 ≤ v ∧ v < 300 := h.2.2.2.2.1
theorem hB.mb {T : gT} {y o : Nat} (h : hB T y o) : ∀ i v, T (y + 5) i v ↔ 0 ≤ v ∧ v < 300 := h.2.2.2.2.2.1
theorem hB.fi {T : gT} {y o : Nat} (h : hB T y o) : ∀ i v, T (y + 7) i v ↔ 0 ≤ v ∧ v < 300 := h.2.2.2.2.2.2.1
theorem hB.nu {T : gT} {y o : Nat} (h : hB T y o) : ∀ i v, T (y + 8) i v ↔ 0 ≤ v ∧ v ≤ 300 := h.2.2.2.2.2.2.2.1
theorem hB.si {T : gT} {y o : Nat} (h : hB T y o) : ∀ i v, T (y + 9) i v := h.2.2.2.2.2.2.2.2.1
theorem hB.sp {T : gT} {y o : Nat} (h : hB T y o) : ∀ i v, T (y + 10) i v ↔ 0 ≤ v ∧ v ≤ 120 := h.2.2.2.2.2.2.2.2.2.1
theorem hB.so {T : gT} {y o : Nat} (h : hB T y o) : ∀ i v, T (y + 11) i v ↔ 0 ≤ v ∧ v < 300 := h.2.2.2.2.2.2.2.2.2.2.1
theorem hB.ov {T : gT} {y o : Nat} (h : hB T y o) : ∀ i v, T o i v ↔ 0 ≤ v ∧ v ≤ 90000 := h.2.2.2.2.2.2.2.2.2.2.2.1
theorem hB.de {T : gT} {y o : Nat} (h : hB T y o) : ∀ i v, T (y + 6) i v ↔ -1 ≤ v ∧ v < 300 := h.2.2.2.2.2.2.2.2.2.2.2.2
theorem hB.mk {T : gT} {y o : Nat} (h_cn : ∀ v, T y 0 v ↔ 1 ≤ v ∧ v ≤ 300) (h_lo : ∀ i v, T (y + 1) i v) (h_hi : ∀ i v, T (y + 2) i v) (h_sz : ∀ i v, T (y + 3) i v ↔ 0 ≤ v ∧ v ≤ 14400) (h_co : ∀ i v, T (y + 4) i v ↔ 0 ≤ v ∧ v < 300) (h_mb : ∀ i v, T (y + 5) i v ↔ 0 ≤ v ∧ v < 300) (h_fi : ∀ i v, T (y + 7) i v ↔ 0 ≤ v ∧ v < 300) (h_nu : ∀ i v, T (y + 8) i v ↔ 0 ≤ v ∧ v ≤ 300) (h_si : ∀ i v, T (y + 9) i v) (h_sp : ∀ i v, T (y + 10) i v ↔ 0 ≤ v ∧ v ≤ 120) (h_so : ∀ i v, T (y + 11) i v ↔ 0 ≤ v ∧ v < 300) (h_ov : ∀ i v, T o i v ↔ 0 ≤ v ∧ v ≤ 90000) (h_de : ∀ i v, T (y + 6) i v ↔ -1 ≤ v ∧ v < 300) : hB T y o := ⟨h_cn, h_lo, h_hi, h_sz, h_co, h_mb, h_fi, h_nu, h_si, h_sp, h_so, h_ov, h_de⟩
theorem idxo {a N C b : Int} {n : Nat} (ha : 0 ≤ a ∧ a < C) (hN : 0 ≤ N ∧ N ≤ C) (hb : 0 ≤ b ∧ b < C) (hC : C ≤ 300) (hn : C * C ≤ n) : 0 ≤ a * N ∧ a * N ≤ 90000 ∧ a * N + b < n := by
  have h1 : 0 ≤ a * N := Int.mul_nonneg ha.1 (by omega)
  have h2 : a * N ≤ (C - 1) * C := Int.mul_le_mul (by omega) hN.2 hN.1 (by omega)
  have h3 : (C - 1) * C = C * C - C := by rw [Int.sub_mul, Int.one_mul]
  have h4 : C * C ≤ 300 * 300 := Int.mul_le_mul hC hC (by omega) (by omega)
  omega
section
variable {G : List gS} {R V : gV} {T : gT} {x p n f y o m : Nat} {C D E : Int}
theorem isHeap_k (ly : lay4 G R y) {a : Int} (ha : i32 a) : cpI 1 (bi (0 ≤ a ∧ a < V y 0)) 56 [(4, (y : Int)), (0, a)] G R V :=
  c_X4_isHeap (t_X4_isHeap_0 ly ⟨ha, fun h => ⟨by rw [bi_f (by omega)], rfl⟩, fun h _ => ⟨fun h2 => ⟨by rw [bi_f (by omega)], rfl⟩, fun h2 => ⟨by rw [bi_t (by omega)], rfl⟩⟩⟩)
theorem isClass_k (ly : lay4 G R y) {a : Int} (ha : i32 a) : cpI 1 (bi (0 ≤ a ∧ a < V y 1)) 57 [(4, (y : Int)), (0, a)] G R V :=
  c_X4_isClass (t_X4_isClass_0 ly ⟨ha, fun h => ⟨by rw [bi_f (by omega)], rfl⟩, fun h _ => ⟨fun h2 => ⟨by rw [bi_f (by omega)], rfl⟩, fun h2 => ⟨by rw [bi_t (by omega)], rfl⟩⟩⟩)
theorem isNormal_k (h : hA G R T y) (th : TH T V) {a : Int} (ha : 0 ≤ a ∧ a < 300) : pI 1 0 1 58 [(4, (y : Int)), (0, a)] G R V := by
  have c := h.co _ _ (th (y + 4) a)
  exact c_X4_isNormal (t_X4_isNormal_0 h.ly ⟨ha, fun _ => ⟨c, fun _ => ⟨fun _ => ⟨0, rfl, by omega, rfl⟩, fun _ => ⟨1, rfl, by omega, rfl⟩⟩⟩⟩)
theorem holdsTurn_k (h : hA G R T y) {a t : Int} (ha : 0 ≤ a ∧ a < 300) (ht : i32 t) : pI 2 0 1 59 [(4, (y : Int)), (0, a), (0, t)] G R V :=
  c_X4_holdsTurn (t_X4_holdsTurn_0 h.ly ⟨ha, fun _ _ => pI_u (holds_c ht) (fun v hv => ⟨by omega, v, rfl, hv, rfl⟩)⟩)
theorem sizeInClass_k (h : hA G R T y) (th : TH T V) {a : Int} (ha : 0 ≤ a ∧ a < 300) : pI 1 0 14400 60 [(4, (y : Int)), (0, a)] G R V := by
  have c := (h.fi _ _).mp (th (y + 7) a)
  exact c_X4_sizeInClass (t_X4_sizeInClass_0 h.ly ⟨ha, fun _ => ⟨c, fun _ => ⟨_, rfl, (h.sz _ _).mp (th (y + 3) _), rfl⟩⟩⟩)
theorem liesIn_k (h : hA G R T y) {a b : Int} (ha : 0 ≤ a ∧ a < 300) (hb : 0 ≤ b ∧ b < 300) : pI 1 0 1 61 [(4, (y : Int)), (0, a), (0, b)] G R V :=
  c_X4_liesIn (t_X4_liesIn_0 h.ly ⟨ha, fun _ => ⟨hb, fun _ => ⟨fun _ => ⟨0, rfl, by omega, rfl⟩, fun _ _ _ => ⟨fun _ => ⟨0, rfl, by omega, rfl⟩, fun _ => ⟨1, rfl, by omega, rfl⟩⟩⟩⟩⟩)
theorem indexOf_k (h : hA G R T y) (th : TH T V) {a b : Int} (ha : i64 a) (hb : i64 b) : pI 1 (-1) 299 62 [(4, (y : Int)), (2, a), (2, b)] G R V := by
  have c := h.cn _ (th y 0)
  refine c_X4_indexOf (t_X4_indexOf_0 h.ly ?_)
  refine pool1 (f := fun i => [some (4, (y : Int)), some (2, a), none, some (2, b), none, some (0, i)]) (Inv := fun i => 0 ≤ i ∧ i ≤ 300) (μ := fun i => (300 - i).toNat) (fun i hi ih => ?_) 0 (by omega)
  exact t_X4_indexOf_3 h.ly (fun _ => ⟨by omega, fun _ => ⟨-1, rfl, by omega, rfl⟩, fun _ => ⟨by omega, fun _ => ⟨ha, fun _ => ⟨by omega, ih _ (by omega) (by omega)⟩, fun _ _ => ⟨hb, fun _ => ⟨by omega, ih _ (by omega) (by omega)⟩, fun _ => ⟨i, rfl, by omega, rfl⟩⟩⟩⟩⟩)
theorem leastOver_k (h : hA G R T y) (th : TH T V) {a b : Int} : pI 1 0 299 63 [(4, (y : Int)), (2, a), (2, b)] G R V := by
  have c := h.cn _ (th y 0)
  refine c_X4_leastOver (t_X4_leastOver_0 h.ly (fun _ => ⟨by omega, ?_⟩))
  refine pool1 (f := fun i => [some (4, (y : Int)), some (2, a), none, some (2, b), none, some (0, V y 0 - 1), some (0, i)]) (Inv := fun i => 0 ≤ i ∧ i ≤ 300) (μ := fun i => (300 - i).toNat) (fun i hi ih => ?_) 0 (by omega)
  exact t_X4_leastOver_11 h.ly ⟨by omega, by omega, fun _ => ⟨_, rfl, by omega, rfl⟩, fun _ => ⟨by omega, fun _ => ⟨fun _ => ⟨by omega, ih _ (by omega) (by omega)⟩, fun _ _ => ⟨fun _ => ⟨by omega, ih _ (by omega) (by omega)⟩, fun _ => ⟨i, rfl, by omega, rfl⟩⟩⟩⟩⟩
theorem normalWithin_k (h : hA G R T y) (th : TH T V) {a : Int} (ha : 0 ≤ a ∧ a < 300) : pI 2 0 299 64 [(4, (y : Int)), (0, a)] G R V := by
  refine c_X4_normalWithin (t_X4_normalWithin_0 h.ly ?_)
  refine pool1 (f := fun i => [some (4, (y : Int)), some (0, a), some (0, i)]) (Inv := fun i => 0 ≤ i ∧ i < 300) (μ := fun i => i.toNat) (fun i hi ih => ?_) a ha
  exact t_X4_normalWithin_2 h.ly ⟨by omega, fun _ => ⟨0, rfl, by omega, rfl⟩, fun _ => pI_u (isNormal_k h th hi) (fun v hv => ⟨by omega, fun _ => ⟨by omega, ih _ (by omega) (by omega)⟩, fun _ => pI_u (liesIn_k h hi ha) (fun w hw => ⟨by omega, fun _ => ⟨by omega, ih _ (by omega) (by omega)⟩, fun _ => ⟨i, rfl, by omega, rfl⟩⟩)⟩)⟩
theorem countWithin_k (h : hA G R T y) {a : Int} (ha : 0 ≤ a ∧ a < 300) : pI 2 0 300 65 [(4, (y : Int)), (0, a)] G R V := by
  refine c_X4_countWithin (t_X4_countWithin_0 h.ly ?_)
  refine pool2 (f := fun q i => [some (4, (y : Int)), some (0, a), some (0, q), some (0, i)]) (Inv := fun q i => 0 ≤ q ∧ q ≤ i ∧ i ≤ a + 1) (μ := fun _ i => (a + 1 - i).toNat) (fun q i hi ih => ?_) 0 0 (by omega)
  exact t_X4_countWithin_4 h.ly ⟨by omega, by omega, fun _ => ⟨q, rfl, by omega, rfl⟩, fun _ => pI_u (liesIn_k h (by omega) ha) (fun v hv => ⟨by omega, fun _ => ⟨by omega, ih _ _ (by omega) (by omega)⟩, fun _ => ⟨by omega, by omega, ih _ _ (by omega) (by omega)⟩⟩)⟩
theorem countOver_k (h : hA G R T y) (th : TH T V) {a : Int} (ha : 0 ≤ a ∧ a < 300) : pI 2 0 300 66 [(4, (y : Int)), (0, a)] G R V := by
  have c := h.cn _ (th y 0)
  refine c_X4_countOver (t_X4_countOver_0 h.ly ?_)
  refine pool2 (f := fun q i => [some (4, (y : Int)), some (0, a), some (0, q), some (0, i)]) (Inv := fun q i => 0 ≤ q ∧ q ≤ i ∧ i ≤ 300) (μ := fun _ i => (300 - i).toNat) (fun q i hi ih => ?_) 0 a (by omega)
  exact t_X4_countOver_4 h.ly (fun _ => ⟨by omega, fun _ => ⟨q, rfl, by omega, rfl⟩, fun _ => pI_u (liesIn_k h ha (by omega)) (fun v hv => ⟨by omega, fun _ => ⟨by omega, ih _ _ (by omega) (by omega)⟩, fun _ => ⟨by omega, by omega, ih _ _ (by omega) (by omega)⟩⟩)⟩)
theorem countNormal_k (h : hA G R T y) (th : TH T V) : pI 1 0 300 67 [(4, (y : Int))] G R V := by
  have c := h.cl _ (th y 1)
  refine c_X4_countNormal (t_X4_countNormal_0 h.ly ?_)
  refine pool2 (f := fun q i => [some (4, (y : Int)), some (0, q), some (0, i)]) (Inv := fun q i => 0 ≤ q ∧ q ≤ i ∧ i ≤ 300) (μ := fun _ i => (300 - i).toNat) (fun q i hi ih => ?_) 0 0 (by omega)
  exact t_X4_countNormal_4 h.ly (fun _ => ⟨by omega, fun _ => ⟨q, rfl, by omega, rfl⟩, fun _ => ⟨by omega, fun _ => ⟨fun _ => ⟨by omega, ih _ _ (by omega) (by omega)⟩, fun _ => ⟨by omega, by omega, ih _ _ (by omega) (by omega)⟩⟩⟩⟩)
theorem firstClassOfSize_k (h : hA G R T y) (th : TH T V) {a : Int} (ha : i32 a) : pI 2 (-1) 300 68 [(4, (y : Int)), (0, a)] G R V := by
  have c := h.cl _ (th y 1)
  refine c_X4_firstClassOfSize (t_X4_firstClassOfSize_0 h.ly ?_)
  refine pool1 (f := fun i => [some (4, (y : Int)), some (0, a), some (0, i)]) (Inv := fun i => 0 ≤ i ∧ i ≤ 300) (μ := fun i => (300 - i).toNat) (fun i hi ih => ?_) 0 (by omega)
  exact t_X4_firstClassOfSize_2 h.ly (fun _ => ⟨by omega, fun _ => ⟨-1, rfl, by omega, rfl⟩, fun _ => pI_u (sizeInClass_k h th (by omega)) (fun v hv => ⟨by omega, ha, fun _ => ⟨by omega, ih _ (by omega) (by omega)⟩, fun _ => ⟨i, rfl, by omega, rfl⟩⟩)⟩)
theorem above_k (h : hT G R T y o m E) (th : TH T V) {a b : Int} (ha : 0 ≤ a ∧ a < E) (hb : 0 ≤ b ∧ b < E) : pI 1 0 90000 69 [(4, (y : Int)), (0, a), (0, b)] G R V := by
  have c := h.a.cl _ (th y 1)
  have e0 := h.e0
  have q := idxo (n := m) ha ⟨c.1, h.cE _ (th y 1)⟩ hb h.e0.2 h.em
  exact c_X4_above (t_X4_above_0 h.a.ly ⟨o, m, ⟨h.ro, h.go⟩, fun _ => ⟨by omega, by omega, by omega, fun _ => ⟨_, rfl, (h.ov _ _).mp (th o _), rfl⟩⟩⟩)
theorem below_k (h : hT G R T y o m E) (th : TH T V) {a b : Int} (ha : 0 ≤ a ∧ a < E) (hb : 0 ≤ b ∧ b < E) : pI 2 (-2147483648) 2147483647 70 [(4, (y : Int)), (0, a), (0, b)] G R V := by
  have c := h.e0
  have n1 := (h.a.nu _ _).mp (th (y + 8) a)
  have n2 := (h.a.nu _ _).mp (th (y + 8) b)
  refine c_X4_below (t_X4_below_0 h.a.ly ⟨by omega, fun _ => ⟨fun _ => ⟨0, rfl, by omega, rfl⟩, fun h0 => pI_u (above_k h th hb ha) (fun v hv => ?_)⟩⟩)
  have z0 : 0 ≤ v * V (y + 8) b := Int.mul_nonneg hv.1 n2.1
  have z1 : v * V (y + 8) b ≤ 90000 * 300 := Int.mul_le_mul hv.2 n2.2 n2.1 (by omega)
  have m5 := Int.ediv_nonneg z0 (show 0 ≤ V (y + 8) a by omega)
  have m6 := Int.ediv_le_self (V (y + 8) a) z0
  exact ⟨by omega, fun _ => ⟨by omega, fun _ => ⟨by omega, _, rfl, by omega, rfl⟩⟩⟩
theorem markOn_k (h : hT G R T y o m E) (th : TH T V) {a b : Int} (ha : 0 ≤ a ∧ a < E) (hb : 0 ≤ b ∧ b < E) : pI 2 0 10800000 71 [(4, (y : Int)), (0, a), (0, b)] G R V := by
  have c := h.e0
  have s := (h.a.sp _ _).mp (th (y + 10) a)
  refine c_X4_markOn (t_X4_markOn_0 h.a.ly ⟨by omega, fun _ => pI_u (above_k h th hb ha) (fun v hv => ?_)⟩)
  have z0 : 0 ≤ V (y + 10) a * v := Int.mul_nonneg s.1 hv.1
  have z1 : V (y + 10) a * v ≤ 120 * 90000 := Int.mul_le_mul s.2 hv.2 hv.1 (by omega)
  exact ⟨by omega, _, rfl, by omega, rfl⟩
theorem draws_k (h : hA G R T y) (th : TH T V) {a : Int} (ha : 0 ≤ a ∧ a ≤ 1000) : pJ 2 72 [(4, (y : Int)), (0, a)] G R V := by
  have c := h.cl _ (th y 1)
  refine c_X4_drawsThatMakeAll (t_X4_drawsThatMakeAll_0 h.ly ?_)
  refine pool2 (f := fun q i => [some (4, (y : Int)), some (0, a), some (2, q), none, some (0, i)]) (Inv := fun q i => i64 q ∧ 0 ≤ i ∧ i ≤ 300) (μ := fun _ i => (300 - i).toNat) (fun q i hi ih => ?_) 0 0 (by omega)
  exact t_X4_drawsThatMakeAll_5 h.ly (fun _ => ⟨by omega, fun _ => ⟨q, rfl, hi.1, rfl⟩, fun _ => ⟨by omega, fun _ _ => pI_u (sizeInClass_k h th (by omega)) (fun v hv => ⟨by omega, pJ_u (powerOf_c ha) (fun w hw => ⟨by omega, ih _ _ ⟨t64 _, by omega, by omega⟩ (by omega)⟩)⟩)⟩⟩)
theorem classOfKind_k (h : hA G R T y) (u : fT G R T f) (th : TH T V) {a : Int} (ha : i32 a) : pI 1 0 (V y 1) 76 [(4, (y : Int)), (4, (f : Int)), (0, a)] G R V := by
  have c := h.cl _ (th y 1)
  refine c_X4_classOfKind (t_X4_classOfKind_0 h.ly u.ly ?_)
  refine pool1 (f := fun i => [some (4, (y : Int)), some (4, (f : Int)), some (0, a), some (0, i)]) (Inv := fun i => 0 ≤ i ∧ i ≤ 300) (μ := fun i => (300 - i).toNat) (fun i hi ih => ?_) 0 (by omega)
  have s := (h.fi _ _).mp (th (y + 7) i)
  have s2 := (h.so _ _).mp (th (y + 11) (V (y + 7) i))
  exact t_X4_classOfKind_2 h.ly u.ly (fun _ => ⟨by omega, fun _ => ⟨_, rfl, by omega, rfl⟩, fun _ => ⟨by omega, fun _ => ⟨s, fun _ => ⟨s2, fun _ => ⟨ha, fun _ => ⟨by omega, ih _ (by omega) (by omega)⟩, fun _ => ⟨i, rfl, by omega, rfl⟩⟩⟩⟩⟩⟩)
theorem numberClasses_k (h : hA G R T y) (u : fT G R T f) (th : TH T V) (cw_ : ∀ v, 0 ≤ v → v ≤ 300 → T y 1 v) (cx : ∀ i v, 0 ≤ v → v < 300 → T (y + 4) i v) (fi : ∀ i v, T (y + 7) i v ↔ 0 ≤ v ∧ v < 300) (nu : ∀ i v, T (y + 8) i v ↔ 0 ≤ v ∧ v ≤ 300) : cwv 2 (fun r V' => r = none ∧ TH T V' ∧ ∀ i, 0 ≤ i → i < V' y 0 → V' (y + 4) i < V' y 1) 75 [(4, (y : Int)), (4, (f : Int))] G R V := by
  refine c_X4_numberClasses (t_X4_numberClasses_0 h.ly u.ly ?_)
  refine loop1 (f := fun i => [some (4, (y : Int)), some (4, (f : Int)), some (0, i)]) (Inv := fun i V => TH T V ∧ 0 ≤ i ∧ i ≤ 300 ∧ V y 1 ≤ i ∧ (∀ c, 0 ≤ c → c < V y 1 → V (y + 8) c ≤ i) ∧ ∀ j, 0 ≤ j → j < i → V (y + 4) j < V y 1) (μ := fun i _ => (300 - i).toNat) (fun i V hi ih => ?_) 0 _ ⟨TH_wr th (cw_ _ (by omega) (by omega)), by omega, by omega, by rw [wr_same]; omega, fun c c0 c1 => by rw [wr_same] at c1; omega, fun j j0 j1 => by omega⟩
  obtain ⟨th, h0, h1, h2, h3, h4⟩ := hi
  have c := h.cn _ (th y 0)
  have cc := h.cl _ (th y 1)
  have s := (h.so _ _).mp (th (y + 11) i)
  refine t_X4_numberClasses_7 h.ly u.ly (fun _ => ⟨by omega, fun _ => ⟨rfl, th, fun j j0 j1 => h4 j j0 (by omega)⟩, fun _ => ⟨by omega, fun _ => ⟨s, fun e => pI_u (classOfKind_k h u th e) (fun v hv _ => ⟨by omega, fun hn => ?_, fun hn => ?_⟩)⟩⟩⟩)
  · have n0 := h3 v (by omega) (by omega)
    have n1 := (h.nu _ _).mp (th (y + 8) v)
    refine ⟨by omega, fun _ => ⟨by omega, by omega, ih _ _ ⟨TH_wr (TH_wr th (cx _ _ (by omega) (by omega))) ((nu _ _).mpr (by omega)), by omega, by omega, by rw [wr_a (by omega), wr_a (by omega)]; omega, ?_, ?_⟩ (by omega)⟩⟩
    · intro q q0 q1
      rw [wr_a (by omega), wr_a (by omega)] at q1
      by_cases e : q = v
      · rw [e, wr_same]; omega
      · rw [wr_i e, wr_a (by omega)]; have := h3 q q0 q1; omega
    · intro j j0 j1
      refine Int.lt_of_lt_of_le (b := V y 1) ?_ (Int.le_of_eq ?_)
      · rw [wr_a (by omega)]
        by_cases e : j = i
        · rw [e, wr_same]; omega
        · rw [wr_i e]; exact h4 j j0 (by omega)
      · rw [wr_a (by omega), wr_a (by omega)]
  · refine ⟨by omega, by omega, by omega, ih _ _ ⟨TH_wr (TH_wr (TH_wr (TH_wr (TH_wr th ((fi _ _).mpr (by omega))) ((nu _ _).mpr (by omega))) (cw_ _ (by omega) (by omega))) (cx _ _ (by omega) (by omega))) ((nu _ _).mpr (by omega)), by omega, by omega, by rw [wr_a (by omega), wr_a (by omega), wr_same]; omega, ?_, ?_⟩ (by omega)⟩
    · intro q q0 q1
      rw [wr_a (by omega), wr_a (by omega), wr_same] at q1
      by_cases e : q = v
      · rw [e, wr_same]; omega
      · rw [wr_i e, wr_a (by omega), wr_a (by omega), wr_i e, wr_a (by omega)]; have := h3 q q0 (by omega); omega
    · intro j j0 j1
      refine Int.lt_of_lt_of_le (b := V y 1 + 1) ?_ (Int.le_of_eq ?_)
      · rw [wr_a (by omega)]
        by_cases e : j = i
        · rw [e, wr_same]; omega
        · rw [wr_i e, wr_a (by omega), wr_a (by omega), wr_a (by omega)]; have := h4 j j0 (by omega); omega
      · rw [wr_a (by omega), wr_a (by omega), wr_same]
theorem fillMadeBy_k (h : hA G R T y) (t : tT G R T x p n C D) (hD : D ≤ C) (th : TH T V) (mb : ∀ i v, T (y + 5) i v ↔ 0 ≤ v ∧ v < 300) : w0 T 2 77 [(4, (y : Int)), (4, (x : Int))] G R V := by
  have hd := t.d0
  have hc := t.c0
  refine c_X4_fillMadeBy (t_X4_fillMadeBy_0 h.ly t.ly ?_)
  refine loop1 (f := fun i => [some (4, (y : Int)), some (4, (x : Int)), some (0, i)]) (Inv := fun i V => TH T V ∧ 0 ≤ i ∧ i ≤ 120) (μ := fun i _ => (120 - i).toNat) (fun i V hi ih => ?_) 0 _ ⟨th, by omega, by omega⟩
  obtain ⟨th, h0, h1⟩ := hi
  have c := t.ct _ (th x 1)
  have o := (t.od _ _).mp (th (x + 3) i)
  refine t_X4_fillMadeBy_2 h.ly t.ly (fun _ => ⟨by omega, fun _ => ⟨rfl, th⟩, fun _ => ?_⟩)
  refine loopI (f := fun q : Int × Int × Int × Int => [some (4, (y : Int)), some (4, (x : Int)), some (0, i), some (2, q.1), none, some (2, q.2.1), none, some (0, q.2.2.1), some (0, q.2.2.2)]) (g := fun _ => V) (Inv := fun q => i64 q.1 ∧ i64 q.2.1 ∧ (0 ≤ q.2.2.1 ∧ q.2.2.1 < C) ∧ 1 ≤ q.2.2.2 ∧ q.2.2.2 ≤ 122) (μ := fun q => (122 - q.2.2.2).toNat) (fun q hq ih2 => ?_) (1, 0, i, 1) (by dsimp only; omega)
  obtain ⟨a, b, w, k⟩ := q
  dsimp only at hq ih2 ⊢
  obtain ⟨q1, q2, q3, q4⟩ := hq
  refine t_X4_fillMadeBy_21 h.ly t.ly ⟨by omega, fun _ => ⟨by omega, fun _ => pI_u (indexOf_k h th q1 q2) (fun v hv => ⟨by omega, by omega, ih _ _ ⟨TH_wr th ((mb _ _).mpr ?_), by omega, by omega⟩ (by omega)⟩), fun _ => pJ_u (lowBit_c (by omega)) (fun v hv => pJ_u (highBit_c (by omega)) (fun v2 hv2 => pI_u (times_k t hD th q3 (by omega)) (fun v3 hv3 => ⟨by omega, ih2 (_, _, _, _) ⟨t64 _, t64 _, by dsimp only; omega, by dsimp only; omega⟩ (by dsimp only; omega)⟩)))⟩⟩
  split <;> omega
theorem fillSpare_k (h : hA G R T y) (th : TH T V) {a : Int} (ha : 0 ≤ a ∧ a ≤ 120) (sp : ∀ i v, T (y + 10) i v ↔ 0 ≤ v ∧ v ≤ 120) : w0 T 2 79 [(4, (y : Int)), (0, a)] G R V := by
  refine c_X4_fillSpare (t_X4_fillSpare_0 h.ly ?_)
  refine loop1 (f := fun i => [some (4, (y : Int)), some (0, a), some (0, i)]) (Inv := fun i V => TH T V ∧ 0 ≤ i ∧ i ≤ 300) (μ := fun i _ => (300 - i).toNat) (fun i V hi ih => ?_) 0 _ ⟨th, by omega, by omega⟩
  obtain ⟨th, h0, h1⟩ := hi
  have c := h.cl _ (th y 1)
  have n1 := (h.nu _ _).mp (th (y + 8) i)
  refine t_X4_fillSpare_2 h.ly (fun _ => ⟨by omega, fun _ => ⟨rfl, th⟩, fun _ => ⟨by omega, fun _ => pI_u (sizeInClass_k h th (by omega)) (fun v hv => ?_)⟩⟩)
  have z0 : 0 ≤ V (y + 8) i * v := Int.mul_nonneg n1.1 hv.1
  have z1 : V (y + 8) i * v ≤ 300 * 14400 := Int.mul_le_mul n1.2 hv.2 hv.1 (by omega)
  have m5 := Int.ediv_nonneg ha.1 z0
  have m6 := Int.ediv_le_self (V (y + 8) i * v) ha.1
  exact ⟨by omega, fun _ => ⟨by omega, ih _ _ ⟨TH_wr th ((sp _ _).mpr (by omega)), by omega, by omega⟩ (by omega)⟩, fun _ => ⟨by omega, by omega, by omega, by omega, ih _ _ ⟨TH_wr th ((sp _ _).mpr (by omega)), by omega, by omega⟩ (by omega)⟩⟩
end
theorem tw_X4_fillSigns_17 {d : Nat} {P : gP} {p0 : Nat} {x1 : Int} {x2 : Int} {x3 : Int} {G : List gS} {R V : gV} (l0 : lay4 G R p0) (w : ((i32 (V p0 1)) → ((i32 x3) ∧ (((¬ x3 < (V p0 1)) → ((i32 ((V p0 1) - 1)) ∧ ((i32 x1) ∧ (((¬ x1 = ((V p0 1) - 1)) → ((0 ≤ x1 ∧ x1 < 300) ∧ ((i32 (x1 - 1)) ∧ wpv K_X4_fillSigns d P 7 [some (4, (p0 : Int)), some (0, (x1 - 1))] [] G R (wr V (p0 + 9) x1 ((kneg x2)))))) ∧ ((x1 = ((V p0 1) - 1)) → ((0 ≤ x1 ∧ x1 < 300) ∧ ((i32 (x1 - 1)) ∧ wpv K_X4_fillSigns d P 7 [some (4, (p0 : Int)), some (0, (x1 - 1))] [] G R (wr V (p0 + 9) x1 1)))))))) ∧ ((x3 < (V p0 1)) → cwv d (fun r V10 => ∃ v11 : Int, r = some (0, v11) ∧ ((0 ≤ x3 ∧ x3 < 300) ∧ ((i32 (V10 (p0 + 9) x3)) → ((i32 (x3 + 1)) ∧ wpv K_X4_fillSigns d P 17 [some (4, (p0 : Int)), some (0, x1), some (0, (kadd x2 ((kmul v11 ((V10 (p0 + 9) x3)))))), some (0, (x3 + 1))] [] G R V10)))) 69 [(4, (p0 : Int)), (0, x1), (0, x3)] G R V))))) : wpv K_X4_fillSigns d P 17 [some (4, (p0 : Int)), some (0, x1), some (0, x2), some (0, x3)] [] G R V := by
  refine wp_ld (i := (.iload_n 3)) (0, x3) rfl rfl (fun _ => rfl) rfl rfl (?_ : wpv K_X4_fillSigns d P 18 [some (4, (p0 : Int)), some (0, x1), some (0, x2), some (0, x3)] [(0, x3)] G R V)
  refine wp_ld (i := (.aload_n 0)) (4, (p0 : Int)) rfl rfl (fun _ => rfl) rfl rfl (?_ : wpv K_X4_fillSigns d P 19 [some (4, (p0 : Int)), some (0, x1), some (0, x2), some (0, x3)] [(4, (p0 : Int)), (0, x3)] G R V)
  refine wp_rng (fun vr1 => ?_)
  have f2 : i32 (V p0 1) := vr_f0 vr1 (ly4_o l0) rfl rfl
  replace w := w f2
  refine wp_getI (k := 1) rfl rfl rfl (ly4_o l0) rfl rfl (?_ : wpv K_X4_fillSigns d P 22 [some (4, (p0 : Int)), some (0, x1), some (0, x2), some (0, x3)] [(0, (V p0 1)), (0, x3)] G R V)
  obtain ⟨s3, w⟩ := w
  refine wp_icmp (c := .ge) 47 rfl rfl rfl s3 f2 (fun q => ?_) (fun q => ?_)
  · have q : ¬ x3 < (V p0 1) := q
    replace w := w.1 q
    show wpv K_X4_fillSigns d P 47 [some (4, (p0 : Int)), some (0, x1), some (0, x2), some (0, x3)] [] G R V
    refine wp_ld (i := (.aload_n 0)) (4, (p0 : Int)) rfl rfl (fun _ => rfl) rfl rfl (?_ : wpv K_X4_fillSigns d P 48 [some (4, (p0 : Int)), some (0, x1), some (0, x2), some (0, x3)] [(4, (p0 : Int))] G R V)
    refine wp_getA (k := 10) rfl rfl rfl (ly4_o l0) rfl rfl (ly4_10 l0).1 (?_ : wpv K_X4_fillSigns d P 51 [some (4, (p0 : Int)), some (0, x1), some (0, x2), some (0, x3)] [(4, ((p0 + 9 : Nat) : Int))] G R V)
    refine wp_ld (i := (.iload_n 1)) (0, x1) rfl rfl (fun _ => rfl) rfl rfl (?_ : wpv K_X4_fillSigns d P 52 [some (4, (p0 : Int)), some (0, x1), some (0, x2), some (0, x3)] [(0, x1), (4, ((p0 + 9 : Nat) : Int))] G R V)
    refine wp_ld (i := (.iload_n 1)) (0, x1) rfl rfl (fun _ => rfl) rfl rfl (?_ : wpv K_X4_fillSigns d P 53 [some (4, (p0 : Int)), some (0, x1), some (0, x2), some (0, x3)] [(0, x1), (0, x1), (4, ((p0 + 9 : Nat) : Int))] G R V)
    refine wp_ld (i := (.aload_n 0)) (4, (p0 : Int)) rfl rfl (fun _ => rfl) rfl rfl (?_ : wpv K_X4_fillSigns d P 54 [some (4, (p0 : Int)), some (0, x1), some (0, x2), some (0, x3)] [(4, (p0 : Int)), (0, x1), (0, x1), (4, ((p0 + 9 : Nat) : Int))] G R V)
    refine wp_getI (k := 1) rfl rfl rfl (ly4_o l0) rfl rfl (?_ : wpv K_X4_fillSigns d P 57 [some (4, (p0 : Int)), some (0, x1), some (0, x2), some (0, x3)] [(0, (V p0 1)), (0, x1), (0, x1), (4, ((p0 + 9 : Nat) : Int))] G R V)
    refine wp_p (i := (.iconst 1)) rfl rfl (fun _ _ _ => rfl) (?_ : wpv K_X4_fillSigns d P 58 [some (4, (p0 : Int)), some (0, x1), some (0, x2), some (0, x3)] [(0, 1), (0, (V p0 1)), (0, x1), (0, x1), (4, ((p0 + 9 : Nat) : Int))] G R V)
    obtain ⟨s4, w⟩ := w
    refine wp_xsub rfl rfl s4 (?_ : wpv K_X4_fillSigns d P 59 [some (4, (p0 : Int)), some (0, x1), some (0, x2), some (0, x3)] [(0, ((V p0 1) - 1)), (0, x1), (0, x1), (4, ((p0 + 9 : Nat) : Int))] G R V)
    obtain ⟨s5, w⟩ := w
    refine wp_icmp (c := .ne) 66 rfl rfl rfl s5 s4 (fun q => ?_) (fun q => ?_)
    · have q : ¬ x1 = ((V p0 1) - 1) := q
      replace w := w.1 q
      show wpv K_X4_fillSigns d P 66 [some (4, (p0 : Int)), some (0, x1), some (0, x2), some (0, x3)] [(0, x1), (4, ((p0 + 9 : Nat) : Int))] G R V
      refine wp_ld (i := (.iload_n 2)) (0, x2) rfl rfl (fun _ => rfl) rfl rfl (?_ : wpv K_X4_fillSigns d P 67 [some (4, (p0 : Int)), some (0, x1), some (0, x2), some (0, x3)] [(0, x2), (0, x1), (4, ((p0 + 9 : Nat) : Int))] G R V)
      refine wp_kneg rfl rfl (?_ : wpv K_X4_fillSigns d P 68 [some (4, (p0 : Int)), some (0, x1), some (0, x2), some (0, x3)] [(0, (kneg x2)), (0, x1), (4, ((p0 + 9 : Nat) : Int))] G R V)
      obtain ⟨s6, w⟩ := w
      refine wp_sI rfl rfl (ly4_10 l0).2 s6 (t32 _) (?_ : wpv K_X4_fillSigns d P 69 [some (4, (p0 : Int)), some (0, x1), some (0, x2), some (0, x3)] [] G R (wr V (p0 + 9) x1 ((kneg x2))))
      obtain ⟨s7, w⟩ := w
      refine wp_inc (x := 1) (k := -1) (a := x1) (c := (x1 - 1)) _ rfl rfl rfl rfl (by have := s7; unfold i32 at *; omega) (by omega) rfl ?_
      show wpv K_X4_fillSigns d P 72 [some (4, (p0 : Int)), some (0, (x1 - 1)), some (0, x2), some (0, x3)] [] G R (wr V (p0 + 9) x1 ((kneg x2)))
      refine wp_go 7 rfl rfl rfl (?_ : wpv K_X4_fillSigns d P 7 [some (4, (p0 : Int)), some (0, (x1 - 1)), some (0, x2), some (0, x3)] [] G R (wr V (p0 + 9) x1 ((kneg x2))))
      exact wp_wk (wk_s (wk_s wk_0)) w
    · have q : x1 = ((V p0 1) - 1) := Decidable.not_not.mp q
      replace w := w.2 q
      show wpv K_X4_fillSigns d P 62 [some (4, (p0 : Int)), some (0, x1), some (0, x2), some (0, x3)] [(0, x1), (4, ((p0 + 9 : Nat) : Int))] G R V
      refine wp_p (i := (.iconst 1)) rfl rfl (fun _ _ _ => rfl) (?_ : wpv K_X4_fillSigns d P 63 [some (4, (p0 : Int)), some (0, x1), some (0, x2), some (0, x3)] [(0, 1), (0, x1), (4, ((p0 + 9 : Nat) : Int))] G R V)
      refine wp_go 68 rfl rfl rfl (?_ : wpv K_X4_fillSigns d P 68 [some (4, (p0 : Int)), some (0, x1), some (0, x2), some (0, x3)] [(0, 1), (0, x1), (4, ((p0 + 9 : Nat) : Int))] G R V)
      obtain ⟨s8, w⟩ := w
      refine wp_sI rfl rfl (ly4_10 l0).2 s8 ⟨by omega, by omega⟩ (?_ : wpv K_X4_fillSigns d P 69 [some (4, (p0 : Int)), some (0, x1), some (0, x2), some (0, x3)] [] G R (wr V (p0 + 9) x1 1))
      obtain ⟨s9, w⟩ := w
      refine wp_inc (x := 1) (k := -1) (a := x1) (c := (x1 - 1)) _ rfl rfl rfl rfl (by have := s9; unfold i32 at *; omega) (by omega) rfl ?_
      show wpv K_X4_fillSigns d P 72 [some (4, (p0 : Int)), some (0, (x1 - 1)), some (0, x2), some (0, x3)] [] G R (wr V (p0 + 9) x1 1)
      refine wp_go 7 rfl rfl rfl (?_ : wpv K_X4_fillSigns d P 7 [some (4, (p0 : Int)), some (0, (x1 - 1)), some (0, x2), some (0, x3)] [] G R (wr V (p0 + 9) x1 1))
      exact wp_wk (wk_s (wk_s wk_0)) w
  · have q : x3 < (V p0 1) := Decidable.not_not.mp q
    replace w := w.2 q
    show wpv K_X4_fillSigns d P 25 [some (4, (p0 : Int)), some (0, x1), some (0, x2), some (0, x3)] [] G R V
    refine wp_ld (i := (.iload_n 2)) (0, x2) rfl rfl (fun _ => rfl) rfl rfl (?_ : wpv K_X4_fillSigns d P 26 [some (4, (p0 : Int)), some (0, x1), some (0, x2), some (0, x3)] [(0, x2)] G R V)
    refine wp_ld (i := (.aload_n 0)) (4, (p0 : Int)) rfl rfl (fun _ => rfl) rfl rfl (?_ : wpv K_X4_fillSigns d P 27 [some (4, (p0 : Int)), some (0, x1), some (0, x2), some (0, x3)] [(4, (p0 : Int)), (0, x2)] G R V)
    refine wp_ld (i := (.iload_n 1)) (0, x1) rfl rfl (fun _ => rfl) rfl rfl (?_ : wpv K_X4_fillSigns d P 28 [some (4, (p0 : Int)), some (0, x1), some (0, x2), some (0, x3)] [(0, x1), (4, (p0 : Int)), (0, x2)] G R V)
    refine wp_ld (i := (.iload_n 3)) (0, x3) rfl rfl (fun _ => rfl) rfl rfl (?_ : wpv K_X4_fillSigns d P 29 [some (4, (p0 : Int)), some (0, x1), some (0, x2), some (0, x3)] [(0, x3), (0, x1), (4, (p0 : Int)), (0, x2)] G R V)
    refine wp_virt (as := [(0, x1), (0, x3)]) (a := p0) (st := [(0, x2)]) _ rfl rfl rfl rfl rfl rfl (ly4_o l0) (Nat.le_of_ble_eq_true rfl) (cwv_kI w (fun v11 V10 w => ?_))
    show wpv K_X4_fillSigns d P 32 [some (4, (p0 : Int)), some (0, x1), some (0, x2), some (0, x3)] [(0, v11), (0, x2)] G R V10
    refine wp_ld (i := (.aload_n 0)) (4, (p0 : Int)) rfl rfl (fun _ => rfl) rfl rfl (?_ : wpv K_X4_fillSigns d P 33 [some (4, (p0 : Int)), some (0, x1), some (0, x2), some (0, x3)] [(4, (p0 : Int)), (0, v11), (0, x2)] G R V10)
    refine wp_getA (k := 10) rfl rfl rfl (ly4_o l0) rfl rfl (ly4_10 l0).1 (?_ : wpv K_X4_fillSigns d P 36 [some (4, (p0 : Int)), some (0, x1), some (0, x2), some (0, x3)] [(4, ((p0 + 9 : Nat) : Int)), (0, v11), (0, x2)] G R V10)
    refine wp_ld (i := (.iload_n 3)) (0, x3) rfl rfl (fun _ => rfl) rfl rfl (?_ : wpv K_X4_fillSigns d P 37 [some (4, (p0 : Int)), some (0, x1), some (0, x2), some (0, x3)] [(0, x3), (4, ((p0 + 9 : Nat) : Int)), (0, v11), (0, x2)] G R V10)
    obtain ⟨s12, w⟩ := w
    refine wp_rng (fun vr13 => ?_)
    have f14 : i32 (V10 (p0 + 9) x3) := vr_a0 vr13 (ly4_10 l0).2 s12
    replace w := w f14
    refine wp_aI rfl rfl (ly4_10 l0).2 s12 (?_ : wpv K_X4_fillSigns d P 38 [some (4, (p0 : Int)), some (0, x1), some (0, x2), some (0, x3)] [(0, (V10 (p0 + 9) x3)), (0, v11), (0, x2)] G R V10)
    refine wp_kmul rfl rfl (?_ : wpv K_X4_fillSigns d P 39 [some (4, (p0 : Int)), some (0, x1), some (0, x2), some (0, x3)] [(0, (kmul v11 ((V10 (p0 + 9) x3)))), (0, x2)] G R V10)
    refine wp_kadd rfl rfl (?_ : wpv K_X4_fillSigns d P 40 [some (4, (p0 : Int)), some (0, x1), some (0, x2), some (0, x3)] [(0, (kadd x2 ((kmul v11 ((V10 (p0 + 9) x3))))))] G R V10)
    refine wp_sto (i := (.istore_n 2)) _ rfl rfl (fun _ => rfl) rfl rfl rfl ?_
    refine wp_wk (L' := [some (4, (p0 : Int)), some (0, x1), some (0, (kadd x2 ((kmul v11 ((V10 (p0 + 9) x3)))))), some (0, x3)]) (wk_s (wk_s (wk_s (wk_s wk_0)))) ?_
    show wpv K_X4_fillSigns d P 41 [some (4, (p0 : Int)), some (0, x1), some (0, (kadd x2 ((kmul v11 ((V10 (p0 + 9) x3)))))), some (0, x3)] [] G R V10
    obtain ⟨s15, w⟩ := w
    refine wp_inc (x := 3) (k := 1) (a := x3) (c := (x3 + 1)) _ rfl rfl rfl rfl s15 (by omega) rfl ?_
    show wpv K_X4_fillSigns d P 44 [some (4, (p0 : Int)), some (0, x1), some (0, (kadd x2 ((kmul v11 ((V10 (p0 + 9) x3)))))), some (0, (x3 + 1))] [] G R V10
    refine wp_go 17 rfl rfl rfl (?_ : wpv K_X4_fillSigns d P 17 [some (4, (p0 : Int)), some (0, x1), some (0, (kadd x2 ((kmul v11 ((V10 (p0 + 9) x3)))))), some (0, (x3 + 1))] [] G R V10)
    exact wp_wk (wk_s (wk_s (wk_s (wk_s wk_0)))) w

section
variable {G : List gS} {R V : gV} {T : gT} {x p n f y o m : Nat} {C D E : Int}
theorem fillSigns_k (h : hT G R T y o m E) (th : TH T V) (si : ∀ i v, T (y + 9) i v) : w0 T 2 80 [(4, (y : Int))] G R V := by
  have c := h.a.cl _ (th y 1)
  have ce := h.cE _ (th y 1)
  refine c_X4_fillSigns (t_X4_fillSigns_0 h.a.ly (fun _ => ⟨by omega, ?_⟩))
  refine loop1 (f := fun i => [some (4, (y : Int)), some (0, i)]) (Inv := fun i V' => (TH T V' ∧ V' y 1 = V y 1) ∧ -1 ≤ i ∧ i < V y 1) (μ := fun i _ => (i + 1).toNat) (fun i V1 hi ih => ?_) _ _ ⟨⟨th, rfl⟩, by omega, by omega⟩
  obtain ⟨⟨th, e1⟩, h0, h1⟩ := hi
  refine t_X4_fillSigns_7 h.a.ly ⟨by omega, fun _ => ⟨rfl, th⟩, fun _ => ⟨by omega, ?_⟩⟩
  refine pool2 (f := fun q j => [some (4, (y : Int)), some (0, i), some (0, q), some (0, j)]) (Inv := fun q j => i32 q ∧ 0 ≤ j ∧ j ≤ 300) (μ := fun _ j => (300 - j).toNat) (fun q j hj ih2 => ?_) 0 (i + 1) (by omega)
  have wr1 : ∀ v, TH T (wr V1 (y + 9) i v) ∧ (wr V1 (y + 9) i v) y 1 = V y 1 := fun v => ⟨TH_wr th (si _ _), by rw [wr_a (by omega)]; exact e1⟩
  exact tw_X4_fillSigns_17 h.a.ly (fun _ => ⟨by omega, fun _ => ⟨by omega, by omega, fun _ => ⟨by omega, by omega, ih _ _ ⟨wr1 _, by omega, by omega⟩ (by omega)⟩, fun _ => ⟨by omega, by omega, ih _ _ ⟨wr1 _, by omega, by omega⟩ (by omega)⟩⟩, fun _ => pI_u (above_k h th (by omega) (by omega)) (fun v hv => ⟨by omega, fun _ => ⟨by omega, ih2 _ _ ⟨t32 _, by omega, by omega⟩ (by omega)⟩⟩)⟩)
end
