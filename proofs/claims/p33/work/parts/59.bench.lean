/-! the bench and the maker of acts -/
def bT (G : List gS) (R : gV) (T : gT) (b : Nat) : Prop := (lay1 G R b) ∧ (∀ v, Imp (T b 3 v) (0 ≤ v ∧ v ≤ 300)) ∧ (∀ i v, T (b + 1) i v) ∧ (∀ i v, T (b + 3) i v) ∧ (∀ i v, T (b + 4) i v)
theorem bT.ly {G : List gS} {R : gV} {T : gT} {b : Nat} (h : bT G R T b) : lay1 G R b := h.1
theorem bT.rl {G : List gS} {R : gV} {T : gT} {b : Nat} (h : bT G R T b) : ∀ v, Imp (T b 3 v) (0 ≤ v ∧ v ≤ 300) := h.2.1
theorem bT.th {G : List gS} {R : gV} {T : gT} {b : Nat} (h : bT G R T b) : ∀ i v, T (b + 1) i v := h.2.2.1
theorem bT.mk' {G : List gS} {R : gV} {T : gT} {b : Nat} (h : bT G R T b) : ∀ i v, T (b + 3) i v := h.2.2.2.1
theorem bT.pt {G : List gS} {R : gV} {T : gT} {b : Nat} (h : bT G R T b) : ∀ i v, T (b + 4) i v := h.2.2.2.2
theorem bT.mk {G : List gS} {R : gV} {T : gT} {b : Nat} (h_ly : lay1 G R b) (h_rl : ∀ v, Imp (T b 3 v) (0 ≤ v ∧ v ≤ 300)) (h_th : ∀ i v, T (b + 1) i v) (h_mk' : ∀ i v, T (b + 3) i v) (h_pt : ∀ i v, T (b + 4) i v) : bT G R T b := ⟨h_ly, h_rl, h_th, h_mk', h_pt⟩
/-- the row of numbers may be written -/
def bW (T : gT) (b : Nat) : Prop := (∀ v, 0 ≤ v → v ≤ 300 → T b 3 v) ∧ ∀ i v, T (b + 2) i v
/-- the row of numbers is e -/
def rwT (T : gT) (b : Nat) (e : Int → Int → Int) : Prop := (∀ v, T b 3 v → v = e 0 0) ∧ ∀ i v, 0 ≤ i → i < e 0 0 → T (b + 2) i v → v = e 1 i
theorem rwT_m {T T' : gT} {b : Nat} {e : Int → Int → Int} (h : rwT T b e) (h0 : T' b = T b) (h2 : T' (b + 2) = T (b + 2)) : rwT T' b e := ⟨by rw [h0]; exact h.1, by rw [h2]; exact h.2⟩
/-- free for writing -/
def rlB (T : gT) (b : Nat) : gT := fun c i v => if c = b ∧ i = 3 then 0 ≤ v ∧ v ≤ 300 else if c = b + 2 then True else T c i v
/-- pinned to e -/
def pnB (T : gT) (b : Nat) (e : Int → Int → Int) : gT := fun c i v => if c = b ∧ i = 3 then v = e 0 0 else if c = b + 2 then (0 ≤ i → i < e 0 0 → v = e 1 i) else T c i v
def bG (G : List gS) (R : gV) (T : gT) (b g p n : Nat) (C D : Int) (o m : Nat) (E : Int) : Prop := (bT G R T b) ∧ (R b 0 = (g : Int)) ∧ (gT2 G R T g p n C D o m E) ∧ (D ≤ C)
theorem bG.b {G : List gS} {R : gV} {T : gT} {b g p n : Nat} {C D : Int} {o m : Nat} {E : Int} (h : bG G R T b g p n C D o m E) : bT G R T b := h.1
theorem bG.rg {G : List gS} {R : gV} {T : gT} {b g p n : Nat} {C D : Int} {o m : Nat} {E : Int} (h : bG G R T b g p n C D o m E) : R b 0 = (g : Int) := h.2.1
theorem bG.g {G : List gS} {R : gV} {T : gT} {b g p n : Nat} {C D : Int} {o m : Nat} {E : Int} (h : bG G R T b g p n C D o m E) : gT2 G R T g p n C D o m E := h.2.2.1
theorem bG.hD {G : List gS} {R : gV} {T : gT} {b g p n : Nat} {C D : Int} {o m : Nat} {E : Int} (h : bG G R T b g p n C D o m E) : D ≤ C := h.2.2.2
theorem bG.mk {G : List gS} {R : gV} {T : gT} {b g p n : Nat} {C D : Int} {o m : Nat} {E : Int} (h_b : bT G R T b) (h_rg : R b 0 = (g : Int)) (h_g : gT2 G R T g p n C D o m E) (h_hD : D ≤ C) : bG G R T b g p n C D o m E := ⟨h_b, h_rg, h_g, h_hD⟩
def kT (G : List gS) (R : gV) (T : gT) (k : Nat) : Prop := (lay0 G R k) ∧ (∀ i v, T (k + 1) i v) ∧ (∀ i v, T (k + 2) i v) ∧ (∀ i v, T (k + 3) i v)
theorem kT.ly {G : List gS} {R : gV} {T : gT} {k : Nat} (h : kT G R T k) : lay0 G R k := h.1
theorem kT.ma {G : List gS} {R : gV} {T : gT} {k : Nat} (h : kT G R T k) : ∀ i v, T (k + 1) i v := h.2.1
theorem kT.pa {G : List gS} {R : gV} {T : gT} {k : Nat} (h : kT G R T k) : ∀ i v, T (k + 2) i v := h.2.2.1
theorem kT.se {G : List gS} {R : gV} {T : gT} {k : Nat} (h : kT G R T k) : ∀ i v, T (k + 3) i v := h.2.2.2
theorem kT.mk {G : List gS} {R : gV} {T : gT} {k : Nat} (h_ly : lay0 G R k) (h_ma : ∀ i v, T (k + 1) i v) (h_pa : ∀ i v, T (k + 2) i v) (h_se : ∀ i v, T (k + 3) i v) : kT G R T k := ⟨h_ly, h_ma, h_pa, h_se⟩
section
variable {G : List gS} {R V : gV} {T : gT} {b g p n o m k : Nat} {C D E : Int}
theorem rlB_n {c : Nat} (h : c ≠ b) (h2 : c ≠ b + 2) : rlB T b c = T c := by
  funext i v
  unfold rlB
  rw [if_neg (fun q => h q.1), if_neg h2]
theorem rlB_i {i v : Int} (h : i ≠ 3) : rlB T b b i v = T b i v := by
  unfold rlB
  rw [if_neg (fun q => h q.2), if_neg (by omega)]
theorem pnB_n {e : Int → Int → Int} {c : Nat} (h : c ≠ b) (h2 : c ≠ b + 2) : pnB T b e c = T c := by
  funext i v
  unfold pnB
  rw [if_neg (fun q => h q.1), if_neg h2]
theorem rlB_bW : bW (rlB T b) b := by
  refine ⟨fun v v0 v1 => ?_, fun i v => ?_⟩
  · unfold rlB; rw [if_pos ⟨rfl, rfl⟩]; exact ⟨v0, v1⟩
  · unfold rlB; rw [if_neg (by omega), if_pos rfl]; trivial
theorem rlB_3 {v : Int} : rlB T b b 3 v ↔ 0 ≤ v ∧ v ≤ 300 := by unfold rlB; rw [if_pos ⟨rfl, rfl⟩]
theorem pnB_3 {e : Int → Int → Int} {v : Int} : pnB T b e b 3 v ↔ v = e 0 0 := by unfold pnB; rw [if_pos ⟨rfl, rfl⟩]
theorem rlB_bT (h : bT G R T b) : bT G R (rlB T b) b := by
  refine bT.mk h.ly (fun v => rlB_3.mp) ?_ ?_ ?_
  · rw [rlB_n (by omega) (by omega)]; exact h.th
  · rw [rlB_n (by omega) (by omega)]; exact h.mk'
  · rw [rlB_n (by omega) (by omega)]; exact h.pt
theorem pnB_bT {e : Int → Int → Int} (h : bT G R T b) (he : 0 ≤ e 0 0 ∧ e 0 0 ≤ 300) : bT G R (pnB T b e) b := by
  refine bT.mk h.ly (fun v q => by rw [pnB_3.mp q]; exact he) ?_ ?_ ?_
  · rw [pnB_n (by omega) (by omega)]; exact h.th
  · rw [pnB_n (by omega) (by omega)]; exact h.mk'
  · rw [pnB_n (by omega) (by omega)]; exact h.pt
theorem rlB_th (h : bT G R T b) (th : TH T V) : TH (rlB T b) V := by
  intro c i
  unfold rlB
  by_cases q : c = b ∧ i = 3
  · rw [if_pos q, q.1, q.2]; exact (h.rl _).mp (th b 3)
  · rw [if_neg q]
    by_cases q2 : c = b + 2
    · rw [if_pos q2]; trivial
    · rw [if_neg q2]; exact th c i
theorem pnB_th {e : Int → Int → Int} (th : TH (rlB T b) V) (e0 : V b 3 = e 0 0) (e1 : ∀ i, 0 ≤ i → i < e 0 0 → V (b + 2) i = e 1 i) : TH (pnB T b e) V := by
  intro c i
  have t := th c i
  unfold rlB at t
  unfold pnB
  by_cases q : c = b ∧ i = 3
  · rw [if_pos q, q.1, q.2]; exact e0
  · rw [if_neg q] at t ⊢
    by_cases q2 : c = b + 2
    · rw [if_pos q2, q2]; exact fun i0 i1 => e1 i i0 i1
    · rw [if_neg q2] at t ⊢; exact t
theorem pnB_rw {e : Int → Int → Int} : rwT (pnB T b e) b e := by
  refine ⟨fun v q => pnB_3.mp q, fun i v i0 i1 q => ?_⟩
  unfold pnB at q
  rw [if_neg (by omega), if_pos rfl] at q
  exact q i0 i1
theorem keep_k (u : bG G R T b g p n C D o m E) (w : kT G R T k) (th : TH T V) {a : Int} (ha : 0 ≤ a ∧ a < 8) : w0 T 1 19 [(4, (b : Int)), (0, a), (4, (k : Int))] G R V := by
  have t1 : TH T (wr V (b + 1) a 1) := TH_wr th (u.b.th _ _)
  have c1 := u.g.h.a.cl _ (t1 (g + 10) 1)
  have t2 : TH T (cpy (wr V (b + 1) a 1) (k + 1) 0 (b + 3) (a * 300) ((wr V (b + 1) a 1) (g + 10) 1)) := TH_cpy t1 (u.b.mk')
  have c2 := u.g.h.a.cl _ (t2 (g + 10) 1)
  exact c_X1_keep (t_X1_keep_0 u.b.ly w.ly ⟨ha, by omega, g, ⟨u.rg, u.g.ly⟩, fun _ => ⟨by omega, fun _ => ⟨by omega, rfl, TH_cpy t2 u.b.pt⟩⟩⟩)
theorem actsThere_k (ly : lay1 G R b) : pI 1 0 8 20 [(4, (b : Int))] G R V := by
  refine c_X1_actsThere (t_X1_actsThere_0 ly ?_)
  refine pool2 (f := fun q i => [some (4, (b : Int)), some (0, q), some (0, i)]) (Inv := fun q i => 0 ≤ q ∧ q ≤ i ∧ i ≤ 8) (μ := fun _ i => (8 - i).toNat) (fun q i hi ih => ?_) 0 0 (by omega)
  exact t_X1_actsThere_4 ly ⟨by omega, fun _ => ⟨q, rfl, by omega, rfl⟩, fun _ => ⟨by omega, fun _ => ⟨fun _ => ⟨by omega, ih _ _ (by omega) (by omega)⟩, fun _ => ⟨by omega, by omega, ih _ _ (by omega) (by omega)⟩⟩⟩⟩
theorem markOf_k (ly : lay1 G R b) {a c : Int} (ha : 0 ≤ a ∧ a < 8) (hc : 0 ≤ c ∧ c < 300) : pJ 1 21 [(4, (b : Int)), (0, a), (0, c)] G R V :=
  c_X1_markOf (t_X1_markOf_0 ly ⟨by omega, by omega, by omega, fun e => ⟨_, rfl, e, rfl⟩⟩)
theorem partOf_k (ly : lay1 G R b) {a c : Int} (ha : 0 ≤ a ∧ a < 8) (hc : 0 ≤ c ∧ c < 300) : pJ 1 22 [(4, (b : Int)), (0, a), (0, c)] G R V :=
  c_X1_partOf (t_X1_partOf_0 ly ⟨by omega, by omega, by omega, fun e => ⟨_, rfl, e, rfl⟩⟩)
theorem placesOf_k (ly : lay1 G R b) {a : Int} (ha : 0 ≤ a ∧ a < 8) : pJ 2 23 [(4, (b : Int)), (0, a)] G R V :=
  c_X1_placesOf (t_X1_placesOf_0 ly (pJ_u (markOf_k ly ha (by omega)) (fun v hv => ⟨v, rfl, hv, rfl⟩)))
theorem allParts_k (u : bG G R T b g p n C D o m E) (th : TH T V) {a : Int} (ha : 0 ≤ a ∧ a < 8) : pJ 2 24 [(4, (b : Int)), (0, a)] G R V := by
  have c := u.g.h.a.cl _ (th (g + 10) 1)
  refine c_X1_allParts (t_X1_allParts_0 u.b.ly ?_)
  refine pool2 (f := fun q i => [some (4, (b : Int)), some (0, a), some (2, q), none, some (0, i)]) (Inv := fun q i => i64 q ∧ 0 ≤ i ∧ i ≤ 300) (μ := fun _ i => (300 - i).toNat) (fun q i hi ih => ?_) 0 0 (by omega)
  exact t_X1_allParts_5 u.b.ly ⟨g, ⟨u.rg, u.g.ly⟩, fun _ => ⟨by omega, fun _ => ⟨q, rfl, hi.1, rfl⟩, fun _ => pJ_u (partOf_k u.b.ly ha (by omega)) (fun v hv => ⟨by omega, ih _ _ ⟨t64 _, by omega, by omega⟩ (by omega)⟩)⟩⟩
theorem idleHeap_k (u : bG G R T b g p n C D o m E) (th : TH T V) {a : Int} (ha : 0 ≤ a ∧ a < 8) : pI 3 0 299 25 [(4, (b : Int)), (0, a)] G R V := by
  have c := u.g.h.a.cl _ (th (g + 10) 1)
  refine c_X1_idleHeap (t_X1_idleHeap_0 u.b.ly ⟨g, ⟨u.rg, u.g.ly⟩, fun _ => ⟨by omega, ?_⟩⟩)
  refine pool1 (f := fun i => [some (4, (b : Int)), some (0, a), some (0, i)]) (Inv := fun i => -1 ≤ i ∧ i < 300) (μ := fun i => i.toNat) (fun i hi ih => ?_) _ (by omega)
  have fi : 0 ≤ V (g + 17) i ∧ V (g + 17) i < 300 := (u.g.h.a.fi _ _).mp (th (g + 10 + 7) i)
  exact t_X1_idleHeap_13 u.b.ly ⟨by omega, fun _ => ⟨0, rfl, by omega, rfl⟩, fun _ => pJ_u (markOf_k u.b.ly ha (by omega)) (fun v hv => pJ_u (placesOf_k u.b.ly ha) (fun w hw => ⟨hv, hw, fun _ => ⟨by omega, ih _ (by omega) (by omega)⟩, fun _ => ⟨g, ⟨u.rg, u.g.ly⟩, by omega, fun _ => ⟨_, rfl, by omega, rfl⟩⟩⟩))⟩
theorem leftByTurn_k (u : bG G R T b g p n C D o m E) (th : TH T V) {a t : Int} (ha : 0 ≤ a ∧ a < 8) (ht : 0 ≤ t ∧ t < 120) : pJ 2 26 [(4, (b : Int)), (0, a), (0, t)] G R V := by
  have m1 : 0 ≤ V (g + 15) t ∧ V (g + 15) t < 300 := (u.g.h.a.mb _ _).mp (th (g + 10 + 5) t)
  have m2 : 0 ≤ V (g + 14) (V (g + 15) t) ∧ V (g + 14) (V (g + 15) t) < 300 := u.g.h.a.co _ _ (th (g + 10 + 4) _)
  exact c_X1_leftByTurn (t_X1_leftByTurn_0 u.b.ly ⟨g, ⟨u.rg, u.g.ly⟩, ht, fun _ => ⟨m1, fun _ => pJ_u (markOf_k u.b.ly ha m2) (fun v hv => ⟨v, rfl, hv, rfl⟩)⟩⟩)
theorem roundsOf_k (u : bG G R T b g p n C D o m E) (th : TH T V) {a h : Int} (ha : 0 ≤ a ∧ a < 8) (hh : 0 ≤ h ∧ h < 300) : pJ 3 27 [(4, (b : Int)), (0, a), (0, h)] G R V := by
  have hc := u.g.t.c0
  have hd := u.hD
  have c := u.g.t.ct _ (th (g + 1) 1)
  refine c_X1_roundsOf (t_X1_roundsOf_0 u.b.ly ?_)
  refine pool2 (f := fun q i => [some (4, (b : Int)), some (0, a), some (0, h), some (2, q), none, some (0, i)]) (Inv := fun q i => i64 q ∧ 0 ≤ i ∧ i ≤ 120) (μ := fun _ i => (120 - i).toNat) (fun q i hi ih => ?_) 0 0 (by omega)
  exact t_X1_roundsOf_5 u.b.ly ⟨g, ⟨u.rg, u.g.ly⟩, fun _ => ⟨by omega, fun _ => ⟨hh, fun _ => ⟨fun _ => ⟨0, rfl, by omega, rfl⟩, fun _ => ⟨by omega, _, rfl, t64 _, rfl⟩⟩⟩, fun _ => pI_u (holdsTurn_k u.g.h.a hh (by omega)) (fun v hv => ⟨by omega, fun _ => ⟨by omega, ih _ _ ⟨hi.1, by omega, by omega⟩ (by omega)⟩, fun _ => pJ_u (leftByTurn_k u th ha (by omega)) (fun w hw => ⟨by omega, ih _ _ ⟨t64 _, by omega, by omega⟩ (by omega)⟩)⟩)⟩⟩
theorem firstDifference_k (u : bG G R T b g p n C D o m E) (th : TH T V) {a c : Int} (ha : 0 ≤ a ∧ a < 8) (hc : 0 ≤ c ∧ c < 8) : pI 2 (-1) 300 28 [(4, (b : Int)), (0, a), (0, c)] G R V := by
  have cl := u.g.h.a.cl _ (th (g + 10) 1)
  refine c_X1_firstDifference (t_X1_firstDifference_0 u.b.ly ?_)
  refine pool1 (f := fun i => [some (4, (b : Int)), some (0, a), some (0, c), some (0, i)]) (Inv := fun i => 0 ≤ i ∧ i ≤ 300) (μ := fun i => (300 - i).toNat) (fun i hi ih => ?_) 0 (by omega)
  exact t_X1_firstDifference_2 u.b.ly ⟨g, ⟨u.rg, u.g.ly⟩, fun _ => ⟨by omega, fun _ => ⟨-1, rfl, by omega, rfl⟩, fun _ => pJ_u (markOf_k u.b.ly ha (by omega)) (fun v hv => pJ_u (markOf_k u.b.ly hc (by omega)) (fun w hw => ⟨hv, hw, fun _ => ⟨by omega, ih _ (by omega) (by omega)⟩, fun _ => ⟨i, rfl, by omega, rfl⟩⟩))⟩⟩
theorem mapsAlong_k (u : bG G R T b g p n C D o m E) (th : TH T V) {a c : Int} (ha : 0 ≤ a ∧ a < 8) (hc : 0 ≤ c ∧ c < 8) : pJ 3 29 [(4, (b : Int)), (0, a), (0, c)] G R V := by
  have cl := u.g.h.a.cl _ (th (g + 10) 1)
  refine c_X1_mapsAlong (t_X1_mapsAlong_0 u.b.ly ?_)
  refine pool2 (f := fun q i => [some (4, (b : Int)), some (0, a), some (0, c), some (2, q), none, some (0, i)]) (Inv := fun q i => i64 q ∧ 0 ≤ i ∧ i ≤ 300) (μ := fun _ i => (300 - i).toNat) (fun q i hi ih => ?_) 1 0 (by omega)
  exact t_X1_mapsAlong_5 u.b.ly ⟨g, ⟨u.rg, u.g.ly⟩, fun _ => ⟨by omega, fun _ => ⟨q, rfl, hi.1, rfl⟩, fun _ => pJ_u (markOf_k u.b.ly hc (by omega)) (fun v hv => pJ_u (partOf_k u.b.ly ha (by omega)) (fun w hw => pJ_u (powerUpTo_c hv hw) (fun z hz => pJ_u (timesUpTo_c hi.1 hz) (fun y hy => ⟨by omega, ih _ _ ⟨hy, by omega, by omega⟩ (by omega)⟩))))⟩⟩
theorem mapsOnToAll_k (u : bG G R T b g p n C D o m E) (th : TH T V) {a c : Int} (ha : 0 ≤ a ∧ a < 8) (hc : 0 ≤ c ∧ c < 8) : pJ 3 30 [(4, (b : Int)), (0, a), (0, c)] G R V := by
  have cl := u.g.h.a.cl _ (th (g + 10) 1)
  refine c_X1_mapsOnToAll (t_X1_mapsOnToAll_0 u.b.ly (pI_u (firstDifference_k u th ha hc) (fun v hv => ⟨by omega, fun _ => ?_, fun _ => ⟨0, rfl, by omega, rfl⟩⟩)))
  refine pool2 (f := fun q i => [some (4, (b : Int)), some (0, a), none, some (2, q), none, some (0, i)]) (Inv := fun q i => i64 q ∧ 0 ≤ i ∧ i ≤ 300) (μ := fun _ i => (300 - i).toNat) (fun q i hi ih => ?_) 1 0 (by omega)
  have s : 0 ≤ V (g + 20) i ∧ V (g + 20) i ≤ 120 := (u.g.h.a.sp _ _).mp (th (g + 10 + 10) i)
  exact t_X1_mapsOnToAll_17 u.b.ly ⟨g, ⟨u.rg, u.g.ly⟩, fun _ => ⟨by omega, fun _ => ⟨q, rfl, hi.1, rfl⟩, fun _ => pJ_u (partOf_k u.b.ly ha (by omega)) (fun v hv => pJ_u (factorialUpTo_c hv) (fun w hw => pJ_u (timesUpTo_c hi.1 hw) (fun z hz => ⟨by omega, fun _ => pJ_u (powerUpTo_c (by omega) hv) (fun y hy => pJ_u (timesUpTo_c hz hy) (fun x hx => ⟨by omega, ih _ _ ⟨hx, by omega, by omega⟩ (by omega)⟩))⟩)))⟩⟩
/-! acts in making -/
theorem takeCoset_k (w : kT G R T k) (h : hT G R T b o m E) (th : TH T V) {a : Int} (ha : 0 ≤ a ∧ a < E) : w0 T 3 1 [(4, (k : Int)), (4, (b : Int)), (0, a)] G R V := by
  have e0 := h.e0
  refine c_X0_takeCoset (t_X0_takeCoset_0 w.ly h.a.ly ?_)
  refine loop1 (f := fun i => [some (4, (k : Int)), some (4, (b : Int)), some (0, a), some (0, i)]) (Inv := fun i V' => TH T V' ∧ 0 ≤ i ∧ i ≤ 300) (μ := fun i _ => (300 - i).toNat) (fun i V1 hi ih => ?_) 0 V ⟨th, by omega, by omega⟩
  obtain ⟨th, h0, h1⟩ := hi
  have c := h.cE _ (th b 1)
  exact t_X0_takeCoset_2 w.ly h.a.ly (fun _ => ⟨by omega, fun _ => ⟨rfl, th⟩, fun _ => ⟨by omega, fun _ => ⟨by omega, pI_u (markOn_k h (TH_wr th (w.pa _ _)) ha (by omega)) (fun v hv => ⟨by omega, by omega, ih _ _ ⟨TH_wr (TH_wr th (w.pa _ _)) (w.ma _ _), by omega, by omega⟩ (by omega)⟩)⟩, fun _ => ⟨by omega, pI_u (markOn_k h (TH_wr th (w.pa _ _)) ha (by omega)) (fun v hv => ⟨by omega, by omega, ih _ _ ⟨TH_wr (TH_wr th (w.pa _ _)) (w.ma _ _), by omega, by omega⟩ (by omega)⟩)⟩⟩⟩)
theorem fillParts_k (w : kT G R T k) (h : hT G R T b o m E) (th : TH T V) : wI T 3 (-1) 300 15 [(4, (k : Int)), (4, (b : Int))] G R V := by
  have e0 := h.e0
  have c0 := h.a.cl _ (th b 1)
  have c1 := h.cE _ (th b 1)
  refine c_X0_fillParts (t_X0_fillParts_0 w.ly h.a.ly (fun _ => ⟨by omega, ?_⟩))
  refine loop1 (f := fun i => [some (4, (k : Int)), some (4, (b : Int)), some (0, i)]) (Inv := fun i V' => TH T V' ∧ -1 ≤ i ∧ i < E) (μ := fun i _ => (i + 1).toNat) (fun i V1 hi ih => ?_) _ V ⟨th, by omega, by omega⟩
  obtain ⟨th, h0, h1⟩ := hi
  refine t_X0_fillParts_7 w.ly h.a.ly ⟨by omega, fun _ => ⟨-1, rfl, by omega, th⟩, fun _ => ⟨by omega, fun _ => ⟨by omega, ?_⟩⟩⟩
  refine pool2 (f := fun q j => [some (4, (k : Int)), some (4, (b : Int)), some (0, i), some (2, q), none, some (0, j)]) (Inv := fun _ j => 0 ≤ j ∧ j ≤ 300) (μ := fun _ j => (300 - j).toNat) (fun q j hj ih2 => ?_) _ (i + 1) (by omega)
  have c := h.cE _ (th b 1)
  exact t_X0_fillParts_23 w.ly h.a.ly (fun _ => ⟨by omega, fun _ => pI_u (markOn_k h th (by omega) (by omega)) (fun v hv => ⟨by omega, fun _ => ⟨i, rfl, by omega, th⟩, fun hn => ⟨hn, fun _ => ⟨hn, by omega, by omega, ih _ _ ⟨TH_wr th (w.pa _ _), by omega, by omega⟩ (by omega)⟩, fun _ => ⟨i, rfl, by omega, th⟩⟩⟩), fun _ => ⟨by omega, fun _ => ⟨fun _ => ⟨by omega, ih2 _ _ (by omega) (by omega)⟩, fun _ => pI_u (markOn_k h th (by omega) (by omega)) (fun v hv => ⟨by omega, by omega, ih2 _ _ (by omega) (by omega)⟩)⟩⟩⟩)
theorem fillMarks_k (w : kT G R T k) (h : hT G R T b o m E) (th : TH T V) : w0 T 3 14 [(4, (k : Int)), (4, (b : Int))] G R V := by
  have e0 := h.e0
  refine c_X0_fillMarks (t_X0_fillMarks_0 w.ly h.a.ly ?_)
  refine loop1 (f := fun i => [some (4, (k : Int)), some (4, (b : Int)), some (0, i)]) (Inv := fun i V' => TH T V' ∧ 0 ≤ i ∧ i ≤ 300) (μ := fun i _ => (300 - i).toNat) (fun i V1 hi ih => ?_) 0 V ⟨th, by omega, by omega⟩
  obtain ⟨th, h0, h1⟩ := hi
  have c := h.cE _ (th b 1)
  refine t_X0_fillMarks_2 w.ly h.a.ly (fun _ => ⟨by omega, fun _ => ⟨rfl, th⟩, fun _ => ?_⟩)
  refine pool2 (f := fun q j => [some (4, (k : Int)), some (4, (b : Int)), some (0, i), some (2, q), none, some (0, j)]) (Inv := fun q j => i64 q ∧ 0 ≤ j ∧ j ≤ 300) (μ := fun _ j => (300 - j).toNat) (fun q j hj ih2 => ?_) 0 i (by omega)
  exact t_X0_fillMarks_15 w.ly h.a.ly (fun _ => ⟨by omega, fun _ => ⟨by omega, hj.1, by omega, ih _ _ ⟨TH_wr th (w.ma _ _), by omega, by omega⟩ (by omega)⟩, fun _ => ⟨by omega, fun _ => pI_u (markOn_k h th (by omega) (by omega)) (fun v hv => ⟨by omega, by omega, ih2 _ _ ⟨t64 _, by omega, by omega⟩ (by omega)⟩)⟩⟩)
theorem lastBelowNone_k (ly : lay0 G R k) {a : Int} (ha : 0 ≤ a ∧ a ≤ 300) : pI 1 (-1) 300 13 [(4, (k : Int)), (0, a)] G R V := by
  refine c_X0_lastBelowNone (t_X0_lastBelowNone_0 ly ⟨by omega, ?_⟩)
  refine pool1 (f := fun i => [some (4, (k : Int)), none, some (0, i)]) (Inv := fun i => -1 ≤ i ∧ i < 300) (μ := fun i => (i + 1).toNat) (fun i hi ih => ?_) _ (by omega)
  exact t_X0_lastBelowNone_4 ly ⟨by omega, fun _ => ⟨-1, rfl, by omega, rfl⟩, fun _ => ⟨by omega, fun _ => ⟨fun _ => ⟨by omega, ih _ (by omega) (by omega)⟩, fun _ => ⟨i, rfl, by omega, rfl⟩⟩⟩⟩
theorem takeMarks_k (w : kT G R T k) (h : hT G R T b o m E) (th : TH T V) {q r : Nat} (hq : G[q]? = some (.inr (1, r))) (hr : 300 ≤ r) : wI T 4 (-1) 300 12 [(4, (k : Int)), (4, (b : Int)), (4, (q : Int))] G R V := by
  have c0 := h.a.cl _ (th b 1)
  exact c_X0_takeMarks (t_X0_takeMarks_0 w.ly h.a.ly hq (fun _ => ⟨by omega, wI_u (fillParts_k w h (TH_cpy th w.ma)) (fun v V' hv hV => ⟨v, rfl, hv, hV⟩)⟩))
theorem roundOf_k (ly : lay0 G R k) (u : gT2 G R T g p n C D o m E) (th : TH T V) {a c : Int} (ha : 0 ≤ a ∧ a < 300) (hc : 0 ≤ c ∧ c ≤ 7) : pI 3 0 255 5 [(4, (k : Int)), (4, (g : Int)), (0, a), (0, c)] G R V := by
  have hd := u.t.d0
  have ct := u.t.ct _ (th (g + 1) 1)
  refine c_X0_roundOf (t_X0_roundOf_0 ly u.ly ?_)
  refine pool2 (f := fun q i => [none, some (4, (g : Int)), some (0, a), some (0, c), some (0, q), some (0, i)]) (Inv := fun q i => (0 ≤ q ∧ q ≤ 255) ∧ 0 ≤ i ∧ i ≤ 120) (μ := fun _ i => (120 - i).toNat) (fun q i hi ih => ?_) 0 0 (by omega)
  exact t_X0_roundOf_6 u.ly (fun _ => ⟨by omega, fun _ => ⟨q, rfl, hi.1, rfl⟩, fun _ => pI_u (holdsTurn_k u.h.a ha (by omega)) (fun v hv => ⟨by omega, fun _ => ⟨by omega, ih _ _ ⟨hi.1, by omega, by omega⟩ (by omega)⟩, fun _ => ⟨by omega, fun _ => pI_u (whereTo_c hc) (fun w hw => ⟨by omega, ih _ _ ⟨by have := (bits (x := q) (t := w) (q := 0) (by omega) (by omega) (by omega)).2; omega, by omega, by omega⟩ (by omega)⟩)⟩⟩)⟩)
theorem addRound_k (w : kT G R T k) (th : TH T V) {a : Int} (ha : 0 ≤ a ∧ a ≤ 8) : w0 T 1 4 [(4, (k : Int)), (0, a)] G R V := by
  refine c_X0_addRound (t_X0_addRound_0 w.ly ?_)
  refine loop1 (f := fun i => [some (4, (k : Int)), some (0, a), some (0, i)]) (Inv := fun i V' => TH T V' ∧ -1 ≤ i ∧ i ≤ 8) (μ := fun i _ => (i + 1).toNat) (fun i V1 hi ih => ?_) 8 V ⟨th, by omega, by omega⟩
  exact t_X0_addRound_3 w.ly ⟨by omega, by omega, fun _ => ⟨rfl, hi.1⟩, fun _ => ⟨by omega, fun _ => ⟨by omega, by omega, fun _ => ⟨by omega, ih _ _ ⟨TH_wr hi.1 (w.se _ _), by omega, by omega⟩ (by omega)⟩⟩⟩⟩
theorem setsLeft_k (w : kT G R T k) (u : gT2 G R T g p n C D o m E) (th : TH T V) {a c : Int} (ha : 0 ≤ a ∧ a < 300) (hc : 0 ≤ c ∧ c ≤ 8) : wJ T 4 3 [(4, (k : Int)), (4, (g : Int)), (0, a), (0, c)] G R V := by
  refine c_X0_setsLeft (t_X0_setsLeft_0 w.ly u.ly ?_)
  refine loop1 (f := fun i => [some (4, (k : Int)), some (4, (g : Int)), some (0, a), some (0, c), some (0, i)]) (Inv := fun i V' => TH T V' ∧ 0 ≤ i ∧ i ≤ 9) (μ := fun i _ => (9 - i).toNat) (fun i V1 hi ih => ?_) 0 V ⟨th, by omega, by omega⟩
  obtain ⟨th, h0, h1⟩ := hi
  refine t_X0_setsLeft_3 w.ly u.ly ⟨by omega, fun _ => ?_, fun _ => ⟨fun _ => ⟨by omega, by omega, ih _ _ ⟨TH_wr th (w.se _ _), by omega, by omega⟩ (by omega)⟩, fun _ => ⟨by omega, by omega, ih _ _ ⟨TH_wr th (w.se _ _), by omega, by omega⟩ (by omega)⟩⟩⟩
  refine loop2 (f := fun q i => [some (4, (k : Int)), some (4, (g : Int)), some (0, a), some (0, c), some (0, q), some (0, i)]) (Inv := fun _ i V' => TH T V' ∧ 0 ≤ i ∧ i ≤ 8) (μ := fun _ i _ => (8 - i).toNat) (fun q i V2 hi ih2 => ?_) 0 0 V1 ⟨th, by omega, by omega⟩
  obtain ⟨th, h2, h3⟩ := hi
  have pl := (u.t.pl _).mp (th (g + 1) 0)
  exact t_X0_setsLeft_39 w.ly u.ly (fun _ => ⟨by omega, fun _ => ⟨by omega, fun e => ⟨_, rfl, e, th⟩⟩, fun _ => ⟨fun _ => ⟨by omega, ih2 _ _ _ ⟨th, by omega, by omega⟩ (by omega)⟩, fun _ => pI_u (roundOf_k w.ly u th ha (by omega)) (fun v hv => pI_u (bitCount_c hv) (fun z hz => w0_u (addRound_k w th (by omega)) (fun V3 h5 => ⟨by omega, ih2 _ _ _ ⟨h5, by omega, by omega⟩ (by omega)⟩)))⟩⟩)
theorem rowsLeft_k (w : kT G R T k) (u : gT2 G R T g p n C D o m E) (th : TH T V) {a c : Int} (ha : 0 ≤ a ∧ a < 300) (hc : 0 ≤ c ∧ c ≤ 8) : pJ 4 6 [(4, (k : Int)), (4, (g : Int)), (0, a), (0, c)] G R V := by
  have pl := (u.t.pl _).mp (th (g + 1) 0)
  refine c_X0_rowsLeft (t_X0_rowsLeft_0 w.ly u.ly ?_)
  refine pool2 (f := fun q i => [some (4, (k : Int)), some (4, (g : Int)), some (0, a), some (0, c), some (0, q), some (0, i)]) (Inv := fun q i => 0 ≤ q ∧ q ≤ i ∧ i ≤ 8) (μ := fun _ i => (8 - i).toNat) (fun q i hi ih => ?_) 0 0 (by omega)
  refine t_X0_rowsLeft_6 w.ly u.ly (fun _ => ⟨by omega, fun _ => ?_, fun _ => pI_u (roundOf_k w.ly u th ha (by omega)) (fun v hv => pI_u (bitCount_c hv) (fun z hz => ⟨by omega, fun _ => ⟨by omega, ih _ _ (by omega) (by omega)⟩, fun _ => ⟨by omega, by omega, ih _ _ (by omega) (by omega)⟩⟩))⟩)
  refine pool2 (f := fun r j => [none, none, none, some (0, c), some (0, q), some (2, r), none, some (0, j)]) (Inv := fun r j => i64 r ∧ 0 ≤ j ∧ j ≤ 8) (μ := fun _ j => (8 - j).toNat) (fun r j hj ih2 => ?_) 1 0 (by omega)
  exact t_X0_rowsLeft_48 ⟨by omega, by omega, fun _ => ⟨r, rfl, hj.1, rfl⟩, fun _ => ⟨by omega, by omega, ih2 _ _ ⟨t64 _, by omega, by omega⟩ (by omega)⟩⟩
theorem takePlaces_k (w : kT G R T k) (u : gT2 G R T g p n C D o m E) (th : TH T V) {a c : Int} (ha : 0 ≤ a ∧ a ≤ 8) (hc : i32 c) : w0 T 5 2 [(4, (k : Int)), (4, (g : Int)), (0, a), (0, c)] G R V := by
  refine c_X0_takePlaces (t_X0_takePlaces_0 w.ly u.ly ?_)
  refine loop1 (f := fun i => [some (4, (k : Int)), some (4, (g : Int)), some (0, a), some (0, c), some (0, i)]) (Inv := fun i V' => TH T V' ∧ 0 ≤ i ∧ i ≤ 300) (μ := fun i _ => (300 - i).toNat) (fun i V1 hi ih => ?_) 0 V ⟨th, by omega, by omega⟩
  obtain ⟨th, h0, h1⟩ := hi
  have cl := u.h.a.cl _ (th (g + 10) 1)
  have fi : 0 ≤ V1 (g + 17) i ∧ V1 (g + 17) i < 300 := (u.h.a.fi _ _).mp (th (g + 10 + 7) i)
  exact t_X0_takePlaces_3 w.ly u.ly (fun _ => ⟨by omega, fun _ => wI_u (fillParts_k w u.h th) (fun v V2 hv h2 => ⟨rfl, h2⟩), fun _ => ⟨by omega, fun _ => ⟨hc, fun _ => pJ_u (rowsLeft_k w u th fi ha) (fun v hv => ⟨hv, by omega, ih _ _ ⟨TH_wr th (w.ma _ _), by omega, by omega⟩ (by omega)⟩), fun _ => wJ_u (setsLeft_k w u th fi ha) (fun v V2 hv h2 => ⟨hv, by omega, ih _ _ ⟨TH_wr h2 (w.ma _ _), by omega, by omega⟩ (by omega)⟩)⟩⟩⟩)
theorem takeHeaps_k (w : kT G R T k) (u : gT2 G R T g p n C D o m E) (hD : D ≤ C) (th : TH T V) : w0 T 5 7 [(4, (k : Int)), (4, (g : Int))] G R V := by
  refine c_X0_takeHeaps (t_X0_takeHeaps_0 w.ly u.ly ?_)
  refine loop1 (f := fun i => [some (4, (k : Int)), some (4, (g : Int)), some (4, ((g + 10 : Nat) : Int)), some (0, i)]) (Inv := fun i V' => TH T V' ∧ 0 ≤ i ∧ i ≤ 300) (μ := fun i _ => (300 - i).toNat) (fun i V1 hi ih => ?_) 0 V ⟨th, by omega, by omega⟩
  obtain ⟨th, h0, h1⟩ := hi
  have cl := u.h.a.cl _ (th (g + 10) 1)
  refine t_X0_takeHeaps_7 w.ly u.ly u.h.a.ly (fun _ => ⟨by omega, fun _ => ?_, fun _ => ⟨by omega, by omega, ih _ _ ⟨TH_wr th (w.pa _ _), by omega, by omega⟩ (by omega)⟩⟩)
  refine loop1 (f := fun i => [some (4, (k : Int)), some (4, (g : Int)), some (4, ((g + 10 : Nat) : Int)), some (0, i)]) (Inv := fun i V' => TH T V' ∧ 0 ≤ i ∧ i ≤ 300) (μ := fun i _ => (300 - i).toNat) (fun j V2 hj ih2 => ?_) 0 V1 ⟨th, by omega, by omega⟩
  obtain ⟨th, h2, h3⟩ := hj
  have cl := u.h.a.cl _ (th (g + 10) 1)
  have cn := u.h.a.cn _ (th (g + 10) 0)
  have fi := (u.h.a.fi _ _).mp (th (g + 10 + 7) j)
  refine t_X0_takeHeaps_30 w.ly u.ly u.h.a.ly (fun _ => ⟨by omega, fun _ => w0_u (fillMarks_k w u.h th) (fun V3 h5 => ⟨rfl, h5⟩), fun _ => ⟨by omega, fun _ => pI_u (normaliser_k u hD th fi) (fun v hv => bI_u (isHeap_k u.h.a.ly (by omega)) ⟨bi32 _, fun _ => ⟨by omega, ih2 _ _ ⟨th, by omega, by omega⟩ (by omega)⟩, fun hb => ?_⟩)⟩⟩)
  have hb2 : 0 ≤ v ∧ v < V2 (g + 10) 0 := by
    rcases bi_01 (0 ≤ v ∧ v < V2 (g + 10) 0) with z | z
    · exact absurd z hb
    · exact bi_1.mp z
  have co := u.h.a.co _ _ (th (g + 10 + 4) v)
  exact ⟨by omega, fun _ => ⟨co, fun _ => ⟨by omega, ih2 _ _ ⟨TH_wr th (w.pa _ _), by omega, by omega⟩ (by omega)⟩⟩⟩
theorem takeSum_k (w : kT G R T k) (u : bG G R T b g p n C D o m E) (th : TH T V) {a c : Int} (ha : 0 ≤ a ∧ a < 8) (hc : 0 ≤ c ∧ c < 8) : w0 T 3 8 [(4, (k : Int)), (4, (b : Int)), (0, a), (0, c)] G R V := by
  refine c_X0_takeSum (t_X0_takeSum_0 w.ly u.b.ly ?_)
  refine loop1 (f := fun i => [some (4, (k : Int)), some (4, (b : Int)), some (0, a), some (0, c), some (0, i)]) (Inv := fun i V' => TH T V' ∧ 0 ≤ i ∧ i ≤ 300) (μ := fun i _ => (300 - i).toNat) (fun i V1 hi ih => ?_) 0 V ⟨th, by omega, by omega⟩
  obtain ⟨th, h0, h1⟩ := hi
  have cl := u.g.h.a.cl _ (th (g + 10) 1)
  exact t_X0_takeSum_3 w.ly u.b.ly ⟨g, ⟨u.rg, u.g.ly⟩, fun _ => ⟨by omega, fun _ => ⟨rfl, th⟩, fun _ => pJ_u (markOf_k u.b.ly ha (by omega)) (fun v hv => pJ_u (markOf_k u.b.ly hc (by omega)) (fun v2 hv2 => ⟨by omega, pJ_u (partOf_k u.b.ly ha (by omega)) (fun v3 hv3 => pJ_u (partOf_k u.b.ly hc (by omega)) (fun v4 hv4 => ⟨by omega, ih _ _ ⟨TH_wr (TH_wr th (w.ma _ _)) (w.pa _ _), by omega, by omega⟩ (by omega)⟩))⟩))⟩⟩
theorem takePairs_k (w : kT G R T k) (u : bG G R T b g p n C D o m E) (th : TH T V) {a c : Int} (ha : 0 ≤ a ∧ a < 8) (hc : 0 ≤ c ∧ c < 8) : w0 T 4 9 [(4, (k : Int)), (4, (b : Int)), (0, a), (0, c)] G R V := by
  refine c_X0_takePairs (t_X0_takePairs_0 w.ly u.b.ly ?_)
  refine loop1 (f := fun i => [some (4, (k : Int)), some (4, (b : Int)), some (0, a), some (0, c), some (0, i)]) (Inv := fun i V' => TH T V' ∧ 0 ≤ i ∧ i ≤ 300) (μ := fun i _ => (300 - i).toNat) (fun i V1 hi ih => ?_) 0 V ⟨th, by omega, by omega⟩
  obtain ⟨th, h0, h1⟩ := hi
  have cl := u.g.h.a.cl _ (th (g + 10) 1)
  exact t_X0_takePairs_3 w.ly u.b.ly ⟨g, ⟨u.rg, u.g.ly⟩, fun _ => ⟨by omega, fun _ => wI_u (fillParts_k w u.g.h th) (fun v V2 hv h2 => ⟨rfl, h2⟩), fun _ => pJ_u (markOf_k u.b.ly ha (by omega)) (fun v hv => pJ_u (markOf_k u.b.ly hc (by omega)) (fun v2 hv2 => ⟨by omega, by omega, ih _ _ ⟨TH_wr th (w.ma _ _), by omega, by omega⟩ (by omega)⟩))⟩⟩
theorem takeColourings_k (w : kT G R T k) (u : bG G R T b g p n C D o m E) (th : TH T V) {a c : Int} (ha : 0 ≤ a ∧ a < 8) (hc : i32 c) : w0 T 4 10 [(4, (k : Int)), (4, (b : Int)), (0, a), (0, c)] G R V := by
  refine c_X0_takeColourings (t_X0_takeColourings_0 w.ly u.b.ly ⟨g, ⟨u.rg, u.g.ly⟩, ?_⟩)
  refine loop1 (f := fun i => [some (4, (k : Int)), some (4, (b : Int)), some (0, a), some (0, c), some (4, ((g + 10 : Nat) : Int)), some (0, i)]) (Inv := fun i V' => TH T V' ∧ 0 ≤ i ∧ i ≤ 300) (μ := fun i _ => (300 - i).toNat) (fun i V1 hi ih => ?_) 0 V ⟨th, by omega, by omega⟩
  obtain ⟨th, h0, h1⟩ := hi
  have cl := u.g.h.a.cl _ (th (g + 10) 1)
  have fi := (u.g.h.a.fi _ _).mp (th (g + 10 + 7) i)
  exact t_X0_takeColourings_12 w.ly u.b.ly u.g.h.a.ly (fun _ => ⟨by omega, fun _ => wI_u (fillParts_k w u.g.h th) (fun v V2 hv h2 => ⟨rfl, h2⟩), fun _ => ⟨hc, by omega, fun _ => pJ_u (roundsOf_k u th ha fi) (fun v hv => pJ_u (powerUpTo_c (by omega) hv) (fun v2 hv2 => ⟨hv2, by omega, ih _ _ ⟨TH_wr th (w.ma _ _), by omega, by omega⟩ (by omega)⟩))⟩⟩)
theorem takeMultiple_k (w : kT G R T k) (u : bG G R T b g p n C D o m E) (th : TH T V) {a c : Int} (ha : 0 ≤ a ∧ a < 8) (hc : i32 c) : w0 T 3 11 [(4, (k : Int)), (4, (b : Int)), (0, a), (0, c)] G R V := by
  refine c_X0_takeMultiple (t_X0_takeMultiple_0 w.ly u.b.ly ?_)
  refine loop1 (f := fun i => [some (4, (k : Int)), some (4, (b : Int)), some (0, a), some (0, c), some (0, i)]) (Inv := fun i V' => TH T V' ∧ 0 ≤ i ∧ i ≤ 300) (μ := fun i _ => (300 - i).toNat) (fun i V1 hi ih => ?_) 0 V ⟨th, by omega, by omega⟩
  obtain ⟨th, h0, h1⟩ := hi
  have cl := u.g.h.a.cl _ (th (g + 10) 1)
  exact t_X0_takeMultiple_3 w.ly u.b.ly ⟨g, ⟨u.rg, u.g.ly⟩, fun _ => ⟨by omega, fun _ => ⟨rfl, th⟩, fun _ => pJ_u (markOf_k u.b.ly ha (by omega)) (fun v hv => ⟨hc, by omega, pJ_u (partOf_k u.b.ly ha (by omega)) (fun v3 hv3 => ⟨by omega, ih _ _ ⟨TH_wr (TH_wr th (w.ma _ _)) (w.pa _ _), by omega, by omega⟩ (by omega)⟩)⟩)⟩⟩
end
