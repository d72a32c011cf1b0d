/-! heaps are looked up, exactly -/
section
variable {G : List gS} {R V V0 : gV} {T : gT} {f x p n y o m : Nat} {C D E K N : Int} {mul : Int → Int → Int} {U : Int → Int}
theorem indexOf_x (ly : lay4 G R y) (h3 : V y 0 ≤ 300) {a c : Int} (ha : i64 a) (hc : i64 c) : cwv 1 (fun r V' => ∃ v : Int, r = some (0, v) ∧ (V' = V ∧ ((v = -1 ∧ ∀ k, 0 ≤ k → k < V y 0 → ¬ (V (y + 1) k = a ∧ V (y + 2) k = c)) ∨ (0 ≤ v ∧ v < V y 0 ∧ V (y + 1) v = a ∧ V (y + 2) v = c)))) 62 [(4, (y : Int)), (2, a), (2, c)] G R V := by
  refine c_X4_indexOf (t_X4_indexOf_0 ly ?_)
  refine pool1 (f := fun i => [some (4, (y : Int)), some (2, a), none, some (2, c), none, some (0, i)]) (Inv := fun i => 0 ≤ i ∧ i ≤ 300 ∧ ∀ k, 0 ≤ k → k < i → ¬ (V (y + 1) k = a ∧ V (y + 2) k = c)) (μ := fun i => (300 - i).toNat) (fun i hi ih => ?_) 0 ⟨by omega, by omega, fun k k0 k1 => by omega⟩
  obtain ⟨i0, i1, hk⟩ := hi
  have nx : ¬ (V (y + 1) i = a ∧ V (y + 2) i = c) → ∀ k, 0 ≤ k → k < i + 1 → ¬ (V (y + 1) k = a ∧ V (y + 2) k = c) := by
    intro w k k0 k1
    by_cases q : k = i
    · rw [q]; exact w
    · exact hk k k0 (by omega)
  exact t_X4_indexOf_3 ly (fun _ => ⟨by omega, fun z => ⟨-1, rfl, rfl, Or.inl ⟨rfl, fun k k0 k1 => hk k k0 (by omega)⟩⟩, fun z => ⟨by omega, fun _ => ⟨ha, fun z1 => ⟨by omega, ih _ ⟨by omega, by omega, nx (fun w => z1 w.1)⟩ (by omega)⟩, fun z1 _ => ⟨hc, fun z2 => ⟨by omega, ih _ ⟨by omega, by omega, nx (fun w => z2 w.2)⟩ (by omega)⟩, fun z2 => ⟨i, rfl, rfl, Or.inr ⟨i0, z, z1, z2⟩⟩⟩⟩⟩⟩)
theorem indexOf_y (ly : lay4 G R y) (hx : hfX K mul V y) (hK : K ≤ 128) {a c : Int} (ha : i64 a) (hc : i64 c) (zU : ∀ t, K ≤ t → t < 128 → bt a c t = 0) (sU : SM K mul (bt a c)) : cwv 1 (fun r V' => ∃ v : Int, r = some (0, v) ∧ (V' = V ∧ inP K (V y 0) (hR V y) (bt a c) v)) 62 [(4, (y : Int)), (2, a), (2, c)] G R V := by
  have h3 := hx.1.2.1
  refine cw_vr (fun vr => cwI_u (Nat.le_refl _) (indexOf_x ly h3 ha hc) (fun v V' hv => ?_))
  obtain ⟨eV, hv⟩ := hv
  refine ⟨eV, ?_⟩
  rcases hv with ⟨v1, no⟩ | ⟨v0, v1, v2, v3⟩
  · exfalso
    obtain ⟨k, k0, k1, k2⟩ := hx.1.2.2.2.1 _ sU
    refine no k k0 k1 (bt_ext (vr_a1 vr (ly4_2 ly).2 ⟨by omega, by omega⟩) (vr_a1 vr (ly4_3 ly).2 ⟨by omega, by omega⟩) ha hc (fun t t0 t1 => ?_))
    by_cases q : t < K
    · exact k2 t t0 q
    · have w1 : bt (V (y + 1) k) (V (y + 2) k) t = 0 := hx.2.2 k k0 k1 t (by omega) t1
      rw [w1, zU t (by omega) t1]
  · refine ⟨⟨v0, v1⟩, fun t _ _ => ?_⟩
    show bt (V (y + 1) v) (V (y + 2) v) t = bt a c t
    rw [v2, v3]
theorem leastOver_y (ly : lay4 G R y) (hx : hfX K mul V y) (hK : 1 ≤ K ∧ K ≤ 128) {a c : Int} (zU : ∀ t, K ≤ t → t < 128 → bt a c t = 0) : cwv 1 (fun r V' => ∃ v : Int, r = some (0, v) ∧ (V' = V ∧ loP K (V y 0) (hR V y) (bt a c) v)) 63 [(4, (y : Int)), (2, a), (2, c)] G R V := by
  have h1 := hx.1.1
  have h3 := hx.1.2.1
  have top := top_all hx.1 hx.2.1 hK.1
  have iff : ∀ k, 0 ≤ k → k < V y 0 → ((jand a (jxor (V (y + 1) k) (-1)) = 0 ∧ jand c (jxor (V (y + 2) k) (-1)) = 0) ↔ sub1 K (bt a c) (hR V y k)) := fun k k0 k1 => by
    rw [bt_sub]
    constructor
    · exact fun h t t0 t1 q => h t t0 (by omega) q
    · intro h t t0 t1 q
      by_cases w : t < K
      · exact h t t0 w q
      · have := zU t (by omega) t1
        omega
  refine c_X4_leastOver (t_X4_leastOver_0 ly (fun _ => ⟨by omega, ?_⟩))
  refine pool1 (f := fun i => [some (4, (y : Int)), some (2, a), none, some (2, c), none, some (0, V y 0 - 1), some (0, i)]) (Inv := fun i => 0 ≤ i ∧ i ≤ V y 0 - 1 ∧ ∀ k, 0 ≤ k → k < i → ¬ sub1 K (bt a c) (hR V y k)) (μ := fun i => (300 - i).toNat) (fun i hi ih => ?_) 0 ⟨by omega, by omega, fun k k0 k1 => by omega⟩
  obtain ⟨i0, i1, hk⟩ := hi
  have nx : i < V y 0 - 1 → ¬ sub1 K (bt a c) (hR V y i) → ∀ k, 0 ≤ k → k < i + 1 → ¬ sub1 K (bt a c) (hR V y k) := by
    intro z w k k0 k1
    by_cases q : k = i
    · rw [q]; exact w
    · exact hk k k0 (by omega)
  refine t_X4_leastOver_11 ly ⟨by omega, by omega, fun z => ⟨_, rfl, rfl, by omega, fun t t0 t1 _ => top t t0 t1, fun k k0 k1 => hk k k0 (by omega)⟩, fun z => ⟨by omega, fun _ => ⟨fun z1 => ⟨by omega, ih _ ⟨by omega, by omega, nx z (fun w => z1 ((iff i i0 (by omega)).mpr w).1)⟩ (by omega)⟩, fun z1 _ => ⟨fun z2 => ⟨by omega, ih _ ⟨by omega, by omega, nx z (fun w => z2 ((iff i i0 (by omega)).mpr w).2)⟩ (by omega)⟩, fun z2 => ⟨i, rfl, rfl, by omega, (iff i i0 (by omega)).mp ⟨z1, z2⟩, hk⟩⟩⟩⟩⟩
theorem liesIn_e (ly : lay4 G R y) (hN : N ≤ 128) {a b : Int} (ha : 0 ≤ a ∧ a < 300) (hb : 0 ≤ b ∧ b < 300) (za : ∀ t, N ≤ t → t < 128 → hR V y a t = 0) : cpI 1 (Lq N (hR V y) a b) 61 [(4, (y : Int)), (0, a), (0, b)] G R V := by
  have iff : (jand (V (y + 1) a) (jxor (V (y + 1) b) (-1)) = 0 ∧ jand (V (y + 2) a) (jxor (V (y + 2) b) (-1)) = 0) ↔ sub1 N (hR V y a) (hR V y b) := by
    rw [bt_sub]
    constructor
    · exact fun h t t0 t1 q => h t t0 (by omega) q
    · intro h t t0 t1 q
      by_cases w : t < N
      · exact h t t0 w q
      · have : bt (V (y + 1) a) (V (y + 2) a) t = 0 := za t (by omega) t1
        omega
  refine c_X4_liesIn (t_X4_liesIn_0 ly ⟨ha, fun _ => ⟨hb, fun _ => ⟨fun z => ⟨?_, rfl⟩, fun z _ _ => ⟨fun z2 => ⟨?_, rfl⟩, fun z2 => ⟨?_, rfl⟩⟩⟩⟩⟩)
  · rw [show Lq N (hR V y) a b = 0 from bi_f (fun w => z (iff.mpr w).1)]
  · rw [show Lq N (hR V y) a b = 0 from bi_f (fun w => z2 (iff.mpr w).2)]
  · rw [show Lq N (hR V y) a b = 1 from bi_t (iff.mp ⟨z, z2⟩)]
theorem sizeInClass_e (h : hA G R T y) (th : TH T V) {a : Int} (ha : 0 ≤ a ∧ a < 300) : cpI 1 (V (y + 3) (V (y + 7) a)) 60 [(4, (y : Int)), (0, a)] G R V := by
  have c := (h.fi _ _).mp (th (y + 7) a)
  exact c_X4_sizeInClass (t_X4_sizeInClass_0 h.ly ⟨ha, fun _ => ⟨c, fun _ => ⟨rfl, rfl⟩⟩⟩)
theorem above_e (h : hT G R T y o m E) (th : TH T V) {a b : Int} (ha : 0 ≤ a ∧ a < E) (hb : 0 ≤ b ∧ b < E) : cpI 1 (V o (a * V y 1 + b)) 69 [(4, (y : Int)), (0, a), (0, b)] G R V := by
  have c := h.a.cl _ (th y 1)
  have e0 := h.e0
  have q := idxo (n := m) ha ⟨c.1, h.cE _ (th y 1)⟩ hb h.e0.2 h.em
  exact c_X4_above (t_X4_above_0 h.a.ly ⟨o, m, ⟨h.ro, h.go⟩, fun _ => ⟨by omega, by omega, by omega, fun _ => ⟨rfl, rfl⟩⟩⟩)
end
/-! classes are numbered, exactly -/
abbrev Snc (y : Nat) : Nat → Int → Prop := fun c i => (c = y ∧ i = 1) ∨ c = y + 4 ∨ c = y + 7 ∨ c = y + 8
section
variable {G : List gS} {R V V0 : gV} {T : gT} {f x p n y o m : Nat} {C D E N : Int}
theorem classOfKind_x (a : hA G R T y) (u : fT G R T f) (th : TH T V) {k : Int} (hk : i32 k) : cwv 1 (fun r V' => ∃ v : Int, r = some (0, v) ∧ (V' = V ∧ ((v = V y 1 ∧ ∀ c, 0 ≤ c → c < V y 1 → V (f + 4) (V (y + 11) (V (y + 7) c)) ≠ k) ∨ (0 ≤ v ∧ v < V y 1 ∧ V (f + 4) (V (y + 11) (V (y + 7) v)) = k)))) 76 [(4, (y : Int)), (4, (f : Int)), (0, k)] G R V := by
  have c := a.cl _ (th y 1)
  refine c_X4_classOfKind (t_X4_classOfKind_0 a.ly u.ly ?_)
  refine pool1 (f := fun i => [some (4, (y : Int)), some (4, (f : Int)), some (0, k), some (0, i)]) (Inv := fun i => 0 ≤ i ∧ i ≤ V y 1 ∧ ∀ c, 0 ≤ c → c < i → V (f + 4) (V (y + 11) (V (y + 7) c)) ≠ k) (μ := fun i => (300 - i).toNat) (fun i hi ih => ?_) 0 ⟨by omega, by omega, fun c c0 c1 => by omega⟩
  obtain ⟨i0, i1, hh⟩ := hi
  have s := (a.fi _ _).mp (th (y + 7) i)
  have s2 := (a.so _ _).mp (th (y + 11) (V (y + 7) i))
  refine t_X4_classOfKind_2 a.ly u.ly (fun _ => ⟨by omega, fun z => ⟨_, rfl, rfl, Or.inl ⟨rfl, fun c c0 c1 => hh c c0 (by omega)⟩⟩, fun z => ⟨by omega, fun _ => ⟨s, fun _ => ⟨s2, fun _ => ⟨hk, fun z1 => ⟨by omega, ih _ ⟨by omega, by omega, fun c c0 c1 => ?_⟩ (by omega)⟩, fun z1 => ⟨i, rfl, rfl, Or.inr ⟨i0, z, z1⟩⟩⟩⟩⟩⟩⟩)
  by_cases q : c = i
  · rw [q]; exact z1
  · exact hh c c0 (by omega)
theorem numberClasses_x (a : hA G R T y) (u : fT G R T f) (th : TH T V) (cw_ : ∀ v, 0 ≤ v → v ≤ 300 → T y 1 v) (cx : ∀ i v, 0 ≤ v → v < 300 → T (y + 4) i v) (fi : ∀ i v, T (y + 7) i v ↔ 0 ≤ v ∧ v < 300) (nu : ∀ i v, T (y + 8) i v ↔ 0 ≤ v ∧ v ≤ 300) (hfy : f + 11 < y) : cwv 2 (fun r V' => r = none ∧ (TH T V' ∧ Fr (Snc y) V V' ∧ ncP (fun a b => V (f + 4) (V (y + 11) a) = V (f + 4) (V (y + 11) b)) (V y 0) (V' y 1) (fun j => V' (y + 4) j) (fun c => V' (y + 7) c) (fun c => V' (y + 8) c))) 75 [(4, (y : Int)), (4, (f : Int))] G R V := by
  refine c_X4_numberClasses (t_X4_numberClasses_0 a.ly u.ly ?_)
  refine loop1 (f := fun i => [some (4, (y : Int)), some (4, (f : Int)), some (0, i)]) (Inv := fun i V1 => TH T V1 ∧ Fr (Snc y) V V1 ∧ (0 ≤ i ∧ i ≤ V y 0) ∧ ncP (fun a b => V (f + 4) (V (y + 11) a) = V (f + 4) (V (y + 11) b)) i (V1 y 1) (fun j => V1 (y + 4) j) (fun c => V1 (y + 7) c) (fun c => V1 (y + 8) c)) (μ := fun i _ => (300 - i).toNat) (fun i V1 hi ih => ?_) 0 _ ⟨TH_wr th (cw_ _ (by omega) (by omega)), Fr_w Fr_0 (by omega), by have := a.cn _ (th y 0); omega, by rw [wr_same]; exact nc_nil⟩
  obtain ⟨th1, fr, i0, nc⟩ := hi
  have cn := a.cn _ (th1 y 0)
  have cc := a.cl _ (th1 y 1)
  have e0 : V1 y 0 = V y 0 := fr _ _ (by omega)
  have e11 : ∀ j, V1 (y + 11) j = V (y + 11) j := fun j => fr _ _ (by omega)
  have e4 : ∀ j, V1 (f + 4) j = V (f + 4) j := fun j => fr _ _ (by omega)
  have s := (a.so _ _).mp (th1 (y + 11) i)
  have K1 := nc.1
  refine t_X4_numberClasses_7 a.ly u.ly (fun _ => ⟨by omega, fun z => ⟨rfl, th1, fr, by rw [show i = V y 0 by omega] at nc; exact nc⟩, fun z => ⟨by omega, fun _ => ⟨s, fun ek => ?_⟩⟩⟩)
  refine cwI_u (by omega) (classOfKind_x a u th1 ek) (fun v V2 hv _ => ?_)
  obtain ⟨eV, hv⟩ := hv
  subst eV
  have vr : 0 ≤ v ∧ v ≤ V2 y 1 := by
    rcases hv with q | q
    · have := q.1; omega
    · omega
  refine ⟨by omega, fun hn => ?_, fun hn => ?_⟩
  · obtain ⟨v0, v1, v2⟩ : 0 ≤ v ∧ v < V2 y 1 ∧ V2 (f + 4) (V2 (y + 11) (V2 (y + 7) v)) = V2 (f + 4) (V2 (y + 11) i) := by
      rcases hv with q | q
      · exact absurd q.1 hn
      · exact q
    rw [e4, e4, e11, e11] at v2
    have n1 := (a.nu _ _).mp (th1 (y + 8) v)
    have nv := nc.2.2.2.2.2 v v0 v1
    have nb := (sm_b (f := fun j => bi (V2 (y + 4) j = v)) (n := i.toNat) (fun j _ _ => by rcases bi_01 (V2 (y + 4) j = v) with q | q <;> · (try dsimp only); omega)).2
    have nv' : V2 (y + 8) v = sm (fun j => bi (V2 (y + 4) j = v)) i.toNat := nv
    refine ⟨by omega, fun _ => ⟨by omega, by omega, ih _ _ ⟨TH_wr (TH_wr th1 (cx _ _ (by omega) (by omega))) ((nu _ _).mpr (by omega)), Fr_w (Fr_w fr (by omega)) (by omega), by omega, ?_⟩ (by omega)⟩⟩
    have ey : wr (wr V2 (y + 4) i v) (y + 8) v (V2 (y + 8) v + 1) y 1 = V2 y 1 := by rw [wr_a (by omega), wr_a (by omega)]
    rw [ey]
    refine nc_old nc i0.1 ⟨v0, v1⟩ v2 (fun j hj => ?_) ?_ (fun c => ?_) (fun c hc => ?_) ?_
    · (try dsimp only)
      rw [wr_a (by omega), wr_i hj]
    · (try dsimp only)
      rw [wr_a (by omega), wr_same]
    · (try dsimp only)
      rw [wr_a (by omega), wr_a (by omega)]
    · (try dsimp only)
      rw [wr_i hc, wr_a (by omega)]
    · (try dsimp only)
      rw [wr_same]
  · have no : ∀ c, 0 ≤ c → c < V2 y 1 → V2 (f + 4) (V2 (y + 11) (V2 (y + 7) c)) ≠ V2 (f + 4) (V2 (y + 11) i) := by
      rcases hv with q | q
      · exact q.2
      · omega
    refine ⟨by omega, by omega, by omega, ih _ _ ⟨TH_wr (TH_wr (TH_wr (TH_wr (TH_wr th1 ((fi _ _).mpr (by omega))) ((nu _ _).mpr (by omega))) (cw_ _ (by omega) (by omega))) (cx _ _ (by omega) (by omega))) ((nu _ _).mpr (by omega)), Fr_w (Fr_w (Fr_w (Fr_w (Fr_w fr (by omega)) (by omega)) (by omega)) (by omega)) (by omega), by omega, ?_⟩ (by omega)⟩
    have ey : wr (wr (wr (wr (wr V2 (y + 7) v i) (y + 8) v 0) y 1 (V2 y 1 + 1)) (y + 4) i v) (y + 8) v 1 y 1 = V2 y 1 + 1 := by rw [wr_a (by omega), wr_a (by omega), wr_same]
    rw [ey]
    refine nc_new nc i0.1 rfl (fun c c0 c1 => ?_) (fun j hj => ?_) ?_ (fun c hc => ?_) ?_ (fun c hc => ?_) ?_
    · have := no c c0 c1
      rw [e4, e4, e11, e11] at this
      exact this
    · (try dsimp only)
      rw [wr_a (by omega), wr_i hj, wr_a (by omega), wr_a (by omega), wr_a (by omega)]
    · (try dsimp only)
      rw [wr_a (by omega), wr_same]; exact hn
    · (try dsimp only)
      rw [wr_a (by omega), wr_a (by omega), wr_a (by omega), wr_a (by omega), wr_i (by omega)]
    · (try dsimp only)
      rw [← hn, wr_a (by omega), wr_a (by omega), wr_a (by omega), wr_a (by omega), wr_same]
    · (try dsimp only)
      rw [wr_i (by omega), wr_a (by omega), wr_a (by omega), wr_i (by omega), wr_a (by omega)]
    · (try dsimp only)
      rw [← hn, wr_same]
theorem fillMadeBy_x (h : hA G R T y) (t : tT G R T x p n C D) (hD : D ≤ C) (th : TH T V) (mb : ∀ i v, T (y + 5) i v ↔ 0 ≤ v ∧ v < 300) (tx : tX V0 x p) (pt : ∀ c, ((x ≤ c ∧ c ≤ x + 7) ∨ c = p) → ∀ i v, T c i v → v = V0 c i) (hf : hfX (V0 x 1) (pMul V0 x p) V y) : cwv 2 (fun r V' => r = none ∧ (TH T V' ∧ Fr (fun c _ => c = y + 5) V V' ∧ ∀ t, 0 ≤ t → t < V0 x 1 → inP (V0 x 1) (V y 0) (hR V y) (cyc (pMul V0 x p) t) (V' (y + 5) t))) 77 [(4, (y : Int)), (4, (x : Int))] G R V := by
  have hd := t.d0
  have hc := t.c0
  have N1 := tx.1
  have gt := tx.2.2.1
  refine c_X4_fillMadeBy (t_X4_fillMadeBy_0 h.ly t.ly ?_)
  refine loop1 (f := fun i => [some (4, (y : Int)), some (4, (x : Int)), some (0, i)]) (Inv := fun i V1 => TH T V1 ∧ Fr (fun c _ => c = y + 5) V V1 ∧ (0 ≤ i ∧ i ≤ V0 x 1) ∧ ∀ t, 0 ≤ t → t < i → inP (V0 x 1) (V y 0) (hR V y) (cyc (pMul V0 x p) t) (V1 (y + 5) t)) (μ := fun i _ => (120 - i).toNat) (fun i V1 hi ih => ?_) 0 _ ⟨th, Fr_0, by omega, fun t t0 t1 => by omega⟩
  obtain ⟨th1, fr, i0, don⟩ := hi
  have c := t.ct _ (th1 x 1)
  have v1 : V1 x 1 = V0 x 1 := pt x (by omega) _ _ (th1 x 1)
  have vp : ∀ i, V1 p i = V0 p i := fun i => pt p (Or.inr rfl) _ _ (th1 p i)
  refine t_X4_fillMadeBy_2 h.ly t.ly (fun _ => ⟨by omega, fun z => ⟨rfl, th1, fr, fun t t0 t1 => don t t0 (by omega)⟩, fun z => ?_⟩)
  have i1 : i < V0 x 1 := by omega
  have od := tx.2.2.2.1 i i0.1 i1
  have vo : V1 (x + 3) i = V0 (x + 3) i := pt (x + 3) (by omega) _ _ (th1 (x + 3) i)
  have ol := (t.od _ _).mp (th1 (x + 3) i)
  refine loopI (f := fun q : Int × Int × Int × Int => [some (4, (y : Int)), some (4, (x : Int)), some (0, i), some (2, q.1), none, some (2, q.2.1), none, some (0, q.2.2.1), some (0, q.2.2.2)]) (g := fun _ => V1) (Inv := fun q => i64 q.1 ∧ i64 q.2.1 ∧ (1 ≤ q.2.2.2 ∧ q.2.2.2 ≤ V0 (x + 3) i) ∧ q.2.2.1 = pw (pMul V0 x p) i q.2.2.2.toNat ∧ ∀ u, 0 ≤ u → u < 128 → bt q.1 q.2.1 u = bi (∃ j : Nat, (j : Int) < q.2.2.2 ∧ pw (pMul V0 x p) i j = u)) (μ := fun q => (122 - q.2.2.2).toNat) (fun q hq ih2 => ?_) (1, 0, i, 1) ⟨by (try dsimp only); omega, by (try dsimp only); omega, ⟨by (try dsimp only); omega, od.1⟩, (pw_1 gt ⟨i0.1, i1⟩).symm, fun u u0 u1 => ?_⟩
  · obtain ⟨a, b, w, k⟩ := q
    (try dsimp only at hq ih2 ⊢)
    obtain ⟨q1, q2, q3, q4, q5⟩ := hq
    have wr_ := pw_r gt (x := i) ⟨i0.1, i1⟩ k.toNat
    rw [← q4] at wr_
    refine t_X4_fillMadeBy_21 h.ly t.ly ⟨by omega, fun _ => ⟨by omega, fun z2 => ?_, fun z2 => cpJ_u (by omega) (lowBit_e (by omega)) (cpJ_u (by omega) (highBit_e (by omega)) (cpI_u (by omega) (times_e t hD th1 (by omega) (by omega)) ⟨by omega, ih2 (_, _, _, _) ⟨t64 _, t64 _, ⟨by (try dsimp only); omega, by (try dsimp only); omega⟩, ?_, fun u u0 u1 => ?_⟩ (by (try dsimp only); omega)⟩))⟩⟩
    · have ek : k = V0 (x + 3) i := by omega
      have eb : ∀ u, 0 ≤ u → u < 128 → bt a b u = cyc (pMul V0 x p) i u := fun u u0 u1 => by
        rw [q5 u u0 u1, cyc_o gt ⟨i0.1, i1⟩ od.2]
        exact bi_c ⟨fun ⟨j, j1, e⟩ => ⟨j, by omega, e⟩, fun ⟨j, j1, e⟩ => ⟨j, by omega, e⟩⟩
      have hf1 : hfX (V0 x 1) (pMul V0 x p) V1 y := hfX_e (fr _ _ (by omega)) (fun i => fr _ _ (by omega)) (fun i => fr _ _ (by omega)) (fun i => fr _ _ (by omega)) hf
      have cs := cyc_SM gt (t := i) ⟨i0.1, i1⟩
      refine cwI_u (by omega) (indexOf_y (K := V0 x 1) h.ly hf1 (by omega) q1 q2 (fun u u0 u1 => ?_) (SM_congr gt (fun u u0 u1 => (eb u u0 (by omega)).symm) cs)) (fun v V2 hv => ?_)
      · rw [eb u (by omega) u1]
        refine bi_f ?_
        rintro ⟨j, e⟩
        have := pw_r gt (x := i) ⟨i0.1, i1⟩ j
        omega
      · obtain ⟨eV, hv⟩ := hv
        subst eV
        have eh : hR V2 y = hR V y := funext (fun k => hR_c (fr _ _ (by omega)) (fr _ _ (by omega)))
        have e0 : V2 y 0 = V y 0 := fr _ _ (by omega)
        rw [eh, e0] at hv
        have hv3 := hf.1.2.1
        have hv1 := hv.1
        have ev : (if 0 < v then v else 0) = v := by
          by_cases q : 0 < v
          · rw [if_pos q]
          · rw [if_neg q]; omega
        rw [ev]
        refine ⟨by omega, by omega, ih _ _ ⟨TH_wr th1 ((mb _ _).mpr (by omega)), Fr_w fr rfl, by omega, fun t t0 t1 => ?_⟩ (by omega)⟩
        by_cases q : t = i
        · rw [q, wr_same]
          exact inP_c (fun _ _ _ _ _ _ => rfl) (fun u u0 u1 => eb u u0 (by omega)) hv
        · rw [wr_i q]; exact don t t0 (by omega)
    · (try dsimp only)
      rw [show (k + 1).toNat = k.toNat + 1 by omega]
      show V1 p (w * V1 x 1 + i) = pMul V0 x p (pw (pMul V0 x p) i k.toNat) i
      rw [← q4, v1, vp]
    · show bt (jor a (loB w)) (jor b (hiB w)) u = bi (∃ j : Nat, (j : Int) < k + 1 ∧ pw (pMul V0 x p) i j = u)
      rw [bt_set (by omega) ⟨u0, u1⟩, q5 u u0 u1]
      by_cases q : u = w
      · rw [if_pos q]
        exact (bi_t ⟨k.toNat, by omega, by rw [← q4, q]⟩).symm
      · rw [if_neg q]
        refine bi_c ⟨fun ⟨j, j1, e⟩ => ⟨j, by omega, e⟩, fun ⟨j, j1, e⟩ => ⟨j, ?_, e⟩⟩
        by_cases r : (j : Int) = k
        · exfalso
          refine q ?_
          rw [← e, q4, show k.toNat = j by omega]
        · omega
  · (try dsimp only)
    rw [bt_1 ⟨u0, u1⟩]
    unfold tr0
    by_cases q : u = 0
    · rw [if_pos q]
      exact (bi_t ⟨0, by omega, q.symm⟩).symm
    · rw [if_neg q]
      refine (bi_f ?_).symm
      rintro ⟨j, j1, e⟩
      have : j = 0 := by omega
      rw [this] at e
      exact q e.symm
theorem fillSpare_x (h : hA G R T y) (th : TH T V) {a : Int} (ha : 0 ≤ a ∧ a ≤ 120) (sp : ∀ i v, T (y + 10) i v ↔ 0 ≤ v ∧ v ≤ 120) (ps : ∀ c, 0 ≤ c → c < V y 1 → 1 ≤ V (y + 8) c ∧ 1 ≤ V (y + 3) (V (y + 7) c)) : cwv 2 (fun r V' => r = none ∧ (TH T V' ∧ Fr (fun c _ => c = y + 10) V V' ∧ ∀ c, 0 ≤ c → c < V y 1 → V' (y + 10) c = a / (V (y + 8) c * V (y + 3) (V (y + 7) c)))) 79 [(4, (y : Int)), (0, a)] G R V := by
  refine c_X4_fillSpare (t_X4_fillSpare_0 h.ly ?_)
  refine loop1 (f := fun i => [some (4, (y : Int)), some (0, a), some (0, i)]) (Inv := fun i V1 => TH T V1 ∧ Fr (fun c _ => c = y + 10) V V1 ∧ (0 ≤ i ∧ i ≤ 300) ∧ ∀ c, 0 ≤ c → c < i → c < V y 1 → V1 (y + 10) c = a / (V (y + 8) c * V (y + 3) (V (y + 7) c))) (μ := fun i _ => (300 - i).toNat) (fun i V1 hi ih => ?_) 0 _ ⟨th, Fr_0, by omega, fun c c0 c1 => by omega⟩
  obtain ⟨th1, fr, i0, don⟩ := hi
  have c := h.cl _ (th1 y 1)
  have n1 := (h.nu _ _).mp (th1 (y + 8) i)
  have e1 : V1 y 1 = V y 1 := fr _ _ (by omega)
  have e8 : V1 (y + 8) i = V (y + 8) i := fr _ _ (by omega)
  have e7 : V1 (y + 7) i = V (y + 7) i := fr _ _ (by omega)
  have e3 : ∀ j, V1 (y + 3) j = V (y + 3) j := fun j => fr _ _ (by omega)
  have s3 := (h.sz _ _).mp (th1 (y + 3) (V (y + 7) i))
  refine t_X4_fillSpare_2 h.ly (fun _ => ⟨by omega, fun z => ⟨rfl, th1, fr, fun c c0 c1 => don c c0 (by omega) c1⟩, fun z => ⟨by omega, fun _ => cpI_u (by omega) (sizeInClass_e h th1 (by omega)) ?_⟩⟩)
  rw [e7]
  have p1 := ps i i0.1 (by omega)
  rw [← e8, ← e3] at p1
  have z1 : V1 (y + 8) i * V1 (y + 3) (V (y + 7) i) ≤ 300 * 14400 := Int.mul_le_mul n1.2 s3.2 s3.1 (by omega)
  have z0 : 0 < V1 (y + 8) i * V1 (y + 3) (V (y + 7) i) := Int.mul_pos (by omega) (by omega)
  have m5 := Int.ediv_nonneg ha.1 (Int.le_of_lt z0)
  have m6 := Int.ediv_le_self (V1 (y + 8) i * V1 (y + 3) (V (y + 7) i)) ha.1
  refine ⟨by omega, fun q => absurd z0 q, fun _ => ⟨by omega, by omega, by omega, by omega, ih _ _ ⟨TH_wr th1 ((sp _ _).mpr (by omega)), Fr_w fr rfl, by omega, fun c c0 c1 c2 => ?_⟩ (by omega)⟩⟩
  by_cases q : c = i
  · rw [q, wr_same, e8, e3]
  · rw [wr_i q]; exact don c c0 (by omega) c2
theorem fillSigns_x (h : hT G R T y o m E) (th : TH T V) (si : ∀ i v, T (y + 9) i v) (hoy : o ≠ y + 9) {O : Int → Int → Int} {F : Int → Int} (hO : ∀ c e, 0 ≤ c → c < V y 1 → 0 ≤ e → e < V y 1 → V o (c * V y 1 + e) = O c e) (hF : ∀ c, 0 ≤ c → c < V y 1 → F c = (if c = V y 1 - 1 then 1 else 0) - sm (fun e => if c < e then O c e * F e else 0) (V y 1).toNat) : cwv 2 (fun r V' => r = none ∧ (TH T V' ∧ Fr (fun c _ => c = y + 9) V V' ∧ ∀ c, 0 ≤ c → c < V y 1 → V' (y + 9) c = kw (F c))) 80 [(4, (y : Int))] G R V := by
  have c := h.a.cl _ (th y 1)
  have ce := h.cE _ (th y 1)
  refine c_X4_fillSigns (t_X4_fillSigns_0 h.a.ly (fun _ => ⟨by omega, ?_⟩))
  refine loop1 (f := fun i => [some (4, (y : Int)), some (0, i)]) (Inv := fun i V1 => TH T V1 ∧ Fr (fun c _ => c = y + 9) V V1 ∧ (-1 ≤ i ∧ i < V y 1) ∧ ∀ c, i < c → c < V y 1 → V1 (y + 9) c = kw (F c)) (μ := fun i _ => (i + 1).toNat) (fun i V1 hi ih => ?_) _ _ ⟨th, Fr_0, by omega, fun c c0 c1 => by omega⟩
  obtain ⟨th1, fr, i0, don⟩ := hi
  have e1 : V1 y 1 = V y 1 := fr _ _ (by omega)
  have eo : ∀ j, V1 o j = V o j := fun j => fr _ _ hoy
  refine t_X4_fillSigns_7 h.a.ly ⟨by omega, fun z => ⟨rfl, th1, fr, fun c c0 c1 => don c (by omega) c1⟩, fun z => ⟨by omega, ?_⟩⟩
  have fi := hF i (by omega) (by omega)
  refine pool2 (f := fun q j => [some (4, (y : Int)), some (0, i), some (0, q), some (0, j)]) (Inv := fun q j => q = kw (sm (fun e => if i < e then O i e * F e else 0) j.toNat) ∧ i < j ∧ j ≤ V y 1) (μ := fun _ j => (300 - j).toNat) (fun q j hj ih2 => ?_) 0 (i + 1) ⟨?_, by omega, by omega⟩
  · obtain ⟨eq, j0, j1⟩ := hj
    have put : ∀ v, v = kw (F i) → TH T (wr V1 (y + 9) i v) ∧ Fr (fun c _ => c = y + 9) V (wr V1 (y + 9) i v) ∧ (-1 ≤ i - 1 ∧ i - 1 < V y 1) ∧ ∀ c, i - 1 < c → c < V y 1 → wr V1 (y + 9) i v (y + 9) c = kw (F c) := fun v ev => ⟨TH_wr th1 (si _ _), Fr_w fr rfl, by omega, fun c c0 c1 => by
      by_cases q : c = i
      · rw [q, wr_same, ev]
      · rw [wr_i q]; exact don c (by omega) c1⟩
    have q32 : i32 q := by rw [eq]; exact kw_r _
    have st := sm_s (fun e => if i < e then O i e * F e else 0) (show 0 ≤ j by omega)
    refine tw_X4_fillSigns_17 h.a.ly (fun _ => ⟨by omega, fun w => ⟨by omega, by omega, fun w2 => ⟨by omega, by omega, ih _ _ (put _ ?_) (by omega)⟩, fun w2 => ⟨by omega, by omega, ih _ _ (put _ ?_) (by omega)⟩⟩, fun w => cpI_u (by omega) (above_e h th1 (by omega) (by omega)) ⟨by omega, fun _ => ⟨by omega, ih2 _ _ ⟨?_, by omega, by omega⟩ (by omega)⟩⟩⟩)
    · rw [eq, kneg_w, kw_n, show j = V y 1 by omega]
      rw [if_neg (by omega)] at fi
      congr 1
      omega
    · have z0 : sm (fun e => if i < e then O i e * F e else 0) (V y 1).toNat = 0 := sm_zz (fun e _ e1 => if_neg (by omega))
      rw [if_pos (by omega), z0] at fi
      rw [fi]
      exact (kw_e ⟨by omega, by omega⟩).symm
    · have dj := don j j0 (by omega)
      rw [st]
      (try dsimp only)
      rw [if_pos j0, dj, e1, eo, hO i j (by omega) (by omega) (by omega) (by omega), kadd_w, kmul_w, eq, kw_mr, kw_a, kw_b]
  · have z0 : sm (fun e => if i < e then O i e * F e else 0) (i + 1).toNat = 0 := sm_zz (fun e _ e1 => if_neg (by omega))
    rw [z0]
    exact (kw_e ⟨by omega, by omega⟩).symm
end
