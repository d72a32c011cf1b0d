/-! sheets -/
section
variable {G : List gS} {R V : gV} {T : gT} {b : Nat}
theorem lay_k (ly : lay5 G R b) {s n : Int} (hs : i32 s) (hn : i32 n) (th : TH T V) (w1 : ∀ i v, T b i v) (w3 : ∀ i v, T (b + 1) i v) : cwv 1 (fun r V' => r = none ∧ TH T V' ∧ V' b 1 = s ∧ V' b 2 = n ∧ ∀ i, 0 ≤ i → i < 8 → V' (b + 1) i = 0) 82 [(4, (b : Int)), (0, s), (0, n)] G R V := by
  refine c_X5_lay (t_X5_lay_0 ly ⟨hs, hn, ?_⟩)
  refine loop1 (f := fun x => [some (4, (b : Int)), none, none, some (0, x)]) (Inv := fun x V => (TH T V ∧ V b 1 = s ∧ V b 2 = n ∧ ∀ i, 0 ≤ i → i < x → V (b + 1) i = 0) ∧ 0 ≤ x ∧ x ≤ 8) (μ := fun x _ => (8 - x).toNat) (fun x V h ih => ?_) 0 _ ⟨⟨TH_wr (TH_wr th (w1 _ _)) (w1 _ _), by rw [wr_i (by omega), wr_same], wr_same _ _ _ _, fun i i0 i1 => by omega⟩, by omega, by omega⟩
  obtain ⟨⟨h1, h2, h3, h4⟩, h5⟩ := h
  refine t_X5_lay_12 ly ⟨by omega, fun c => ⟨rfl, h1, h2, h3, fun i i0 i1 => h4 i i0 (by omega)⟩, fun _ => ⟨by omega, by omega, ih _ _ ⟨⟨TH_wr h1 (w3 _ _), by rw [wr_a (by omega)]; exact h2, by rw [wr_a (by omega)]; exact h3, fun i i0 i1 => ?_⟩, by omega, by omega⟩ (by omega)⟩⟩
  by_cases q : i = x
  · rw [q, wr_same]
  · rw [wr_i q]; exact h4 i i0 (by omega)
theorem takeAway_k (ly : lay5 G R b) : cwv 1 (fun r V' => r = none ∧ V' = wr V b 2 (-1)) 83 [(4, (b : Int))] G R V := c_X5_takeAway (t_X5_takeAway_0 ly ⟨rfl, rfl⟩)
theorem isMissing_k (ly : lay5 G R b) : cpI 1 (bi (V b 2 = -1)) 84 [(4, (b : Int))] G R V := c_X5_isMissing (t_X5_isMissing_0 ly (fun _ => ⟨fun h => ⟨by rw [bi_f h], rfl⟩, fun h => ⟨by rw [bi_t h], rfl⟩⟩))
theorem put_k (ly : lay5 G R b) {i v : Int} (hi : i32 i) (hv : i32 v) (th : TH T V) (w3 : ∀ i v, T (b + 1) i v) : cwv 1 (fun r V' => ∃ q : Int, r = some (0, q) ∧ q = bi (0 ≤ i ∧ i < V b 2 ∧ i < 8) ∧ TH T V' ∧ (∀ j, V' b j = V b j) ∧ ∀ j, V' (b + 1) j = if (0 ≤ i ∧ i < V b 2 ∧ i < 8) ∧ j = i then wrV (V b 1) v else V (b + 1) j) 85 [(4, (b : Int)), (0, i), (0, v)] G R V := by
  have no : ¬ (0 ≤ i ∧ i < V b 2 ∧ i < 8) → (∃ q : Int, some ((0 : Nat), (0 : Int)) = some (0, q) ∧ q = bi (0 ≤ i ∧ i < V b 2 ∧ i < 8) ∧ TH T V ∧ (∀ j, V b j = V b j) ∧ ∀ j, V (b + 1) j = if (0 ≤ i ∧ i < V b 2 ∧ i < 8) ∧ j = i then wrV (V b 1) v else V (b + 1) j) := fun z => ⟨0, rfl, by rw [bi_f z], th, fun _ => rfl, fun j => by rw [if_neg (fun q => z q.1)]⟩
  have yes : (0 ≤ i ∧ i < V b 2 ∧ i < 8) → ∀ x, x = wrV (V b 1) v → (∃ q : Int, some ((0 : Nat), (1 : Int)) = some (0, q) ∧ q = bi (0 ≤ i ∧ i < V b 2 ∧ i < 8) ∧ TH T (wr V (b + 1) i x) ∧ (∀ j, wr V (b + 1) i x b j = V b j) ∧ ∀ j, wr V (b + 1) i x (b + 1) j = if (0 ≤ i ∧ i < V b 2 ∧ i < 8) ∧ j = i then wrV (V b 1) v else V (b + 1) j) := by
    intro z x hx
    refine ⟨1, rfl, by rw [bi_t z], TH_wr th (w3 _ _), fun j => wr_a (by omega), fun j => ?_⟩
    by_cases q : j = i
    · rw [q, wr_same, if_pos ⟨z, rfl⟩]; exact hx
    · rw [wr_i q, if_neg (fun w => q w.2)]
  exact c_X5_put (t_X5_put_0 ly ⟨hi, fun h => no (by omega), fun h _ => ⟨fun h2 => no (by omega), fun h2 => ⟨fun h3 _ => ⟨fun h4 => ⟨fun h5 => ⟨by omega, hv, yes (by omega) _ (by unfold wrV; rw [if_neg h4, if_neg h5])⟩, fun h5 => ⟨by omega, yes (by omega) _ (by unfold wrV; rw [if_neg h4, if_pos h5])⟩⟩, fun h4 => ⟨by omega, yes (by omega) _ (by unfold wrV; rw [if_pos h4])⟩⟩, fun h3 => no (by omega)⟩⟩⟩)
theorem codeFor_k (ly : lay5 G R b) {n : Int} (hn : i32 n) : pI 1 (-2147483648) 2147483647 86 [(4, (b : Int)), (0, n)] G R V := by
  refine c_X5_codeFor (t_X5_codeFor_0 ly ?_)
  refine pool3 (f := fun x y z => [some (4, (b : Int)), some (0, n), some (0, x), some (0, y), some (0, z)]) (Inv := fun x _ z => i32 x ∧ 0 ≤ z ∧ z ≤ 8) (μ := fun _ _ z => (8 - z).toNat) (fun x y z h ih => ?_) 0 0 0 (by omega)
  refine t_X5_codeFor_7 ly ?_
  repeat' first
    | exact ⟨-1, rfl, by omega, rfl⟩
    | exact ⟨x, rfl, by omega, rfl⟩
    | exact ih _ _ _ ⟨t32 _, by omega, by omega⟩ (by omega)
    | omega
    | intro _
    | apply And.intro
end
/-! turns: what their cells may hold -/
def Imp (a b : Prop) : Prop := a → b
theorem Imp.mp {a b : Prop} (h : Imp a b) : a → b := h
def tA (G : List gS) (R : gV) (T : gT) (x : Nat) (C D : Int) : Prop := (lay6 G R x) ∧ (1 ≤ C ∧ C ≤ 120) ∧ (D ≤ 120) ∧ (∀ v, Imp (T x 0 v) (1 ≤ v ∧ v ≤ 8)) ∧ (∀ v, T x 1 v → 1 ≤ v ∧ v ≤ D) ∧ (∀ v, Imp (T x 2 v) (0 ≤ v ∧ v ≤ 4)) ∧ (∀ i v, Imp (T (x + 2) i v) (0 ≤ v ∧ v < C)) ∧ (∀ i v, Imp (T (x + 3) i v) (0 ≤ v ∧ v ≤ 121)) ∧ (∀ i v, Imp (T (x + 4) i v) (0 ≤ v ∧ v < C)) ∧ (∀ i v, Imp (T (x + 6) i v) (0 ≤ v ∧ v < C))
theorem tA.ly {G : List gS} {R : gV} {T : gT} {x : Nat} {C D : Int} (h : tA G R T x C D) : lay6 G R x := h.1
theorem tA.c0 {G : List gS} {R : gV} {T : gT} {x : Nat} {C D : Int} (h : tA G R T x C D) : 1 ≤ C ∧ C ≤ 120 := h.2.1
theorem tA.d0 {G : List gS} {R : gV} {T : gT} {x : Nat} {C D : Int} (h : tA G R T x C D) : D ≤ 120 := h.2.2.1
theorem tA.pl {G : List gS} {R : gV} {T : gT} {x : Nat} {C D : Int} (h : tA G R T x C D) : ∀ v, Imp (T x 0 v) (1 ≤ v ∧ v ≤ 8) := h.2.2.2.1
theorem tA.ct {G : List gS} {R : gV} {T : gT} {x : Nat} {C D : Int} (h : tA G R T x C D) : ∀ v, T x 1 v → 1 ≤ v ∧ v ≤ D := h.2.2.2.2.1
theorem tA.mm {G : List gS} {R : gV} {T : gT} {x : Nat} {C D : Int} (h : tA G R T x C D) : ∀ v, Imp (T x 2 v) (0 ≤ v ∧ v ≤ 4) := h.2.2.2.2.2.1
theorem tA.iv {G : List gS} {R : gV} {T : gT} {x : Nat} {C D : Int} (h : tA G R T x C D) : ∀ i v, Imp (T (x + 2) i v) (0 ≤ v ∧ v < C) := h.2.2.2.2.2.2.1
theorem tA.od {G : List gS} {R : gV} {T : gT} {x : Nat} {C D : Int} (h : tA G R T x C D) : ∀ i v, Imp (T (x + 3) i v) (0 ≤ v ∧ v ≤ 121) := h.2.2.2.2.2.2.2.1
theorem tA.st {G : List gS} {R : gV} {T : gT} {x : Nat} {C D : Int} (h : tA G R T x C D) : ∀ i v, Imp (T (x + 4) i v) (0 ≤ v ∧ v < C) := h.2.2.2.2.2.2.2.2.1
theorem tA.re {G : List gS} {R : gV} {T : gT} {x : Nat} {C D : Int} (h : tA G R T x C D) : ∀ i v, Imp (T (x + 6) i v) (0 ≤ v ∧ v < C) := h.2.2.2.2.2.2.2.2.2
theorem tA.mk {G : List gS} {R : gV} {T : gT} {x : Nat} {C D : Int} (h_ly : lay6 G R x) (h_c0 : 1 ≤ C ∧ C ≤ 120) (h_d0 : D ≤ 120) (h_pl : ∀ v, Imp (T x 0 v) (1 ≤ v ∧ v ≤ 8)) (h_ct : ∀ v, T x 1 v → 1 ≤ v ∧ v ≤ D) (h_mm : ∀ v, Imp (T x 2 v) (0 ≤ v ∧ v ≤ 4)) (h_iv : ∀ i v, Imp (T (x + 2) i v) (0 ≤ v ∧ v < C)) (h_od : ∀ i v, Imp (T (x + 3) i v) (0 ≤ v ∧ v ≤ 121)) (h_st : ∀ i v, Imp (T (x + 4) i v) (0 ≤ v ∧ v < C)) (h_re : ∀ i v, Imp (T (x + 6) i v) (0 ≤ v ∧ v < C)) : tA G R T x C D := ⟨h_ly, h_c0, h_d0, h_pl, h_ct, h_mm, h_iv, h_od, h_st, h_re⟩
def tT (G : List gS) (R : gV) (T : gT) (x p n : Nat) (C D : Int) : Prop := (tA G R T x C D) ∧ (R x 10 = (p : Int)) ∧ (G[p]? = some (.inr (0, n))) ∧ (C * C ≤ n) ∧ (∀ i v, Imp (T p i v) (0 ≤ v ∧ v < C))
theorem tT.a {G : List gS} {R : gV} {T : gT} {x p n : Nat} {C D : Int} (h : tT G R T x p n C D) : tA G R T x C D := h.1
theorem tT.rp {G : List gS} {R : gV} {T : gT} {x p n : Nat} {C D : Int} (h : tT G R T x p n C D) : R x 10 = (p : Int) := h.2.1
theorem tT.gp {G : List gS} {R : gV} {T : gT} {x p n : Nat} {C D : Int} (h : tT G R T x p n C D) : G[p]? = some (.inr (0, n)) := h.2.2.1
theorem tT.cn {G : List gS} {R : gV} {T : gT} {x p n : Nat} {C D : Int} (h : tT G R T x p n C D) : C * C ≤ n := h.2.2.2.1
theorem tT.pr {G : List gS} {R : gV} {T : gT} {x p n : Nat} {C D : Int} (h : tT G R T x p n C D) : ∀ i v, Imp (T p i v) (0 ≤ v ∧ v < C) := h.2.2.2.2
theorem tT.mk {G : List gS} {R : gV} {T : gT} {x p n : Nat} {C D : Int} (h_a : tA G R T x C D) (h_rp : R x 10 = (p : Int)) (h_gp : G[p]? = some (.inr (0, n))) (h_cn : C * C ≤ n) (h_pr : ∀ i v, Imp (T p i v) (0 ≤ v ∧ v < C)) : tT G R T x p n C D := ⟨h_a, h_rp, h_gp, h_cn, h_pr⟩
theorem tT.ly {G : List gS} {R : gV} {T : gT} {x p n : Nat} {C D : Int} (h : tT G R T x p n C D) : lay6 G R x := h.a.ly
theorem tT.c0 {G : List gS} {R : gV} {T : gT} {x p n : Nat} {C D : Int} (h : tT G R T x p n C D) : 1 ≤ C ∧ C ≤ 120 := h.a.c0
theorem tT.d0 {G : List gS} {R : gV} {T : gT} {x p n : Nat} {C D : Int} (h : tT G R T x p n C D) : D ≤ 120 := h.a.d0
theorem tT.pl {G : List gS} {R : gV} {T : gT} {x p n : Nat} {C D : Int} (h : tT G R T x p n C D) : ∀ v, Imp (T x 0 v) (1 ≤ v ∧ v ≤ 8) := h.a.pl
theorem tT.ct {G : List gS} {R : gV} {T : gT} {x p n : Nat} {C D : Int} (h : tT G R T x p n C D) : ∀ v, T x 1 v → 1 ≤ v ∧ v ≤ D := h.a.ct
theorem tT.mm {G : List gS} {R : gV} {T : gT} {x p n : Nat} {C D : Int} (h : tT G R T x p n C D) : ∀ v, Imp (T x 2 v) (0 ≤ v ∧ v ≤ 4) := h.a.mm
theorem tT.iv {G : List gS} {R : gV} {T : gT} {x p n : Nat} {C D : Int} (h : tT G R T x p n C D) : ∀ i v, Imp (T (x + 2) i v) (0 ≤ v ∧ v < C) := h.a.iv
theorem tT.od {G : List gS} {R : gV} {T : gT} {x p n : Nat} {C D : Int} (h : tT G R T x p n C D) : ∀ i v, Imp (T (x + 3) i v) (0 ≤ v ∧ v ≤ 121) := h.a.od
theorem tT.st {G : List gS} {R : gV} {T : gT} {x p n : Nat} {C D : Int} (h : tT G R T x p n C D) : ∀ i v, Imp (T (x + 4) i v) (0 ≤ v ∧ v < C) := h.a.st
theorem tT.re {G : List gS} {R : gV} {T : gT} {x p n : Nat} {C D : Int} (h : tT G R T x p n C D) : ∀ i v, Imp (T (x + 6) i v) (0 ≤ v ∧ v < C) := h.a.re
def tAB (G : List gS) (R : gV) (T : gT) (x : Nat) (C D : Int) : Prop := (lay6 G R x) ∧ (1 ≤ C ∧ C ≤ 120) ∧ (D ≤ 120) ∧ (∀ v, T x 0 v ↔ 1 ≤ v ∧ v ≤ 8) ∧ (∀ v, T x 1 v → 1 ≤ v ∧ v ≤ D) ∧ (∀ v, T x 2 v ↔ 0 ≤ v ∧ v ≤ 4) ∧ (∀ i v, T (x + 1) i v) ∧ (∀ i v, T (x + 2) i v ↔ 0 ≤ v ∧ v < C) ∧ (∀ i v, T (x + 3) i v ↔ 0 ≤ v ∧ v ≤ 121) ∧ (∀ i v, T (x + 4) i v ↔ 0 ≤ v ∧ v < C) ∧ (∀ i v, T (x + 5) i v) ∧ (∀ i v, T (x + 6) i v ↔ 0 ≤ v ∧ v < C) ∧ (∀ i v, T (x + 7) i v)
theorem tAB.ly {G : List gS} {R : gV} {T : gT} {x : Nat} {C D : Int} (h : tAB G R T x C D) : lay6 G R x := h.1
theorem tAB.c0 {G : List gS} {R : gV} {T : gT} {x : Nat} {C D : Int} (h : tAB G R T x C D) : 1 ≤ C ∧ C ≤ 120 := h.2.1
theorem tAB.d0 {G : List gS} {R : gV} {T : gT} {x : Nat} {C D : Int} (h : tAB G R T x C D) : D ≤ 120 := h.2.2.1
theorem tAB.pl {G : List gS} {R : gV} {T : gT} {x : Nat} {C D : Int} (h : tAB G R T x C D) : ∀ v, T x 0 v ↔ 1 ≤ v ∧ v ≤ 8 := h.2.2.2.1
theorem tAB.ct {G : List gS} {R : gV} {T : gT} {x : Nat} {C D : Int} (h : tAB G R T x C D) : ∀ v, T x 1 v → 1 ≤ v ∧ v ≤ D := h.2.2.2.2.1
theorem tAB.mm {G : List gS} {R : gV} {T : gT} {x : Nat} {C D : Int} (h : tAB G R T x C D) : ∀ v, T x 2 v ↔ 0 ≤ v ∧ v ≤ 4 := h.2.2.2.2.2.1
theorem tAB.co {G : List gS} {R : gV} {T : gT} {x : Nat} {C D : Int} (h : tAB G R T x C D) : ∀ i v, T (x + 1) i v := h.2.2.2.2.2.2.1
theorem tAB.iv {G : List gS} {R : gV} {T : gT} {x : Nat} {C D : Int} (h : tAB G R T x C D) : ∀ i v, T (x + 2) i v ↔ 0 ≤ v ∧ v < C := h.2.2.2.2.2.2.2.1
theorem tAB.od {G : List gS} {R : gV} {T : gT} {x : Nat} {C D : Int} (h : tAB G R T x C D) : ∀ i v, T (x + 3) i v ↔ 0 ≤ v ∧ v ≤ 121 := h.2.2.2.2.2.2.2.2.1
theorem tAB.st {G : List gS} {R : gV} {T : gT} {x : Nat} {C D : Int} (h : tAB G R T x C D) : ∀ i v, T (x + 4) i v ↔ 0 ≤ v ∧ v < C := h.2.2.2.2.2.2.2.2.2.1
theorem tAB.mc {G : List gS} {R : gV} {T : gT} {x : Nat} {C D : Int} (h : tAB G R T x C D) : ∀ i v, T (x + 5) i v := h.2.2.2.2.2.2.2.2.2.2.1
theorem tAB.re {G : List gS} {R : gV} {T : gT} {x : Nat} {C D : Int} (h : tAB G R T x C D) : ∀ i v, T (x + 6) i v ↔ 0 ≤ v ∧ v < C := h.2.2.2.2.2.2.2.2.2.2.2.1
theorem tAB.ir {G : List gS} {R : gV} {T : gT} {x : Nat} {C D : Int} (h : tAB G R T x C D) : ∀ i v, T (x + 7) i v := h.2.2.2.2.2.2.2.2.2.2.2.2
theorem tAB.mk {G : List gS} {R : gV} {T : gT} {x : Nat} {C D : Int} (h_ly : lay6 G R x) (h_c0 : 1 ≤ C ∧ C ≤ 120) (h_d0 : D ≤ 120) (h_pl : ∀ v, T x 0 v ↔ 1 ≤ v ∧ v ≤ 8) (h_ct : ∀ v, T x 1 v → 1 ≤ v ∧ v ≤ D) (h_mm : ∀ v, T x 2 v ↔ 0 ≤ v ∧ v ≤ 4) (h_co : ∀ i v, T (x + 1) i v) (h_iv : ∀ i v, T (x + 2) i v ↔ 0 ≤ v ∧ v < C) (h_od : ∀ i v, T (x + 3) i v ↔ 0 ≤ v ∧ v ≤ 121) (h_st : ∀ i v, T (x + 4) i v ↔ 0 ≤ v ∧ v < C) (h_mc : ∀ i v, T (x + 5) i v) (h_re : ∀ i v, T (x + 6) i v ↔ 0 ≤ v ∧ v < C) (h_ir : ∀ i v, T (x + 7) i v) : tAB G R T x C D := ⟨h_ly, h_c0, h_d0, h_pl, h_ct, h_mm, h_co, h_iv, h_od, h_st, h_mc, h_re, h_ir⟩
def tTB (G : List gS) (R : gV) (T : gT) (x p n : Nat) (C D : Int) : Prop := (tAB G R T x C D) ∧ (R x 10 = (p : Int)) ∧ (G[p]? = some (.inr (0, n))) ∧ (C * C ≤ n) ∧ (∀ i v, T p i v ↔ 0 ≤ v ∧ v < C)
theorem tTB.a {G : List gS} {R : gV} {T : gT} {x p n : Nat} {C D : Int} (h : tTB G R T x p n C D) : tAB G R T x C D := h.1
theorem tTB.rp {G : List gS} {R : gV} {T : gT} {x p n : Nat} {C D : Int} (h : tTB G R T x p n C D) : R x 10 = (p : Int) := h.2.1
theorem tTB.gp {G : List gS} {R : gV} {T : gT} {x p n : Nat} {C D : Int} (h : tTB G R T x p n C D) : G[p]? = some (.inr (0, n)) := h.2.2.1
theorem tTB.cn {G : List gS} {R : gV} {T : gT} {x p n : Nat} {C D : Int} (h : tTB G R T x p n C D) : C * C ≤ n := h.2.2.2.1
theorem tTB.pr {G : List gS} {R : gV} {T : gT} {x p n : Nat} {C D : Int} (h : tTB G R T x p n C D) : ∀ i v, T p i v ↔ 0 ≤ v ∧ v < C := h.2.2.2.2
theorem tTB.mk {G : List gS} {R : gV} {T : gT} {x p n : Nat} {C D : Int} (h_a : tAB G R T x C D) (h_rp : R x 10 = (p : Int)) (h_gp : G[p]? = some (.inr (0, n))) (h_cn : C * C ≤ n) (h_pr : ∀ i v, T p i v ↔ 0 ≤ v ∧ v < C) : tTB G R T x p n C D := ⟨h_a, h_rp, h_gp, h_cn, h_pr⟩
theorem tTB.ly {G : List gS} {R : gV} {T : gT} {x p n : Nat} {C D : Int} (h : tTB G R T x p n C D) : lay6 G R x := h.a.ly
theorem tTB.c0 {G : List gS} {R : gV} {T : gT} {x p n : Nat} {C D : Int} (h : tTB G R T x p n C D) : 1 ≤ C ∧ C ≤ 120 := h.a.c0
theorem tTB.d0 {G : List gS} {R : gV} {T : gT} {x p n : Nat} {C D : Int} (h : tTB G R T x p n C D) : D ≤ 120 := h.a.d0
theorem tTB.pl {G : List gS} {R : gV} {T : gT} {x p n : Nat} {C D : Int} (h : tTB G R T x p n C D) : ∀ v, T x 0 v ↔ 1 ≤ v ∧ v ≤ 8 := h.a.pl
theorem tTB.ct {G : List gS} {R : gV} {T : gT} {x p n : Nat} {C D : Int} (h : tTB G R T x p n C D) : ∀ v, T x 1 v → 1 ≤ v ∧ v ≤ D := h.a.ct
theorem tTB.mm {G : List gS} {R : gV} {T : gT} {x p n : Nat} {C D : Int} (h : tTB G R T x p n C D) : ∀ v, T x 2 v ↔ 0 ≤ v ∧ v ≤ 4 := h.a.mm
theorem tTB.co {G : List gS} {R : gV} {T : gT} {x p n : Nat} {C D : Int} (h : tTB G R T x p n C D) : ∀ i v, T (x + 1) i v := h.a.co
theorem tTB.iv {G : List gS} {R : gV} {T : gT} {x p n : Nat} {C D : Int} (h : tTB G R T x p n C D) : ∀ i v, T (x + 2) i v ↔ 0 ≤ v ∧ v < C := h.a.iv
theorem tTB.od {G : List gS} {R : gV} {T : gT} {x p n : Nat} {C D : Int} (h : tTB G R T x p n C D) : ∀ i v, T (x + 3) i v ↔ 0 ≤ v ∧ v ≤ 121 := h.a.od
theorem tTB.st {G : List gS} {R : gV} {T : gT} {x p n : Nat} {C D : Int} (h : tTB G R T x p n C D) : ∀ i v, T (x + 4) i v ↔ 0 ≤ v ∧ v < C := h.a.st
theorem tTB.mc {G : List gS} {R : gV} {T : gT} {x p n : Nat} {C D : Int} (h : tTB G R T x p n C D) : ∀ i v, T (x + 5) i v := h.a.mc
theorem tTB.re {G : List gS} {R : gV} {T : gT} {x p n : Nat} {C D : Int} (h : tTB G R T x p n C D) : ∀ i v, T (x + 6) i v ↔ 0 ≤ v ∧ v < C := h.a.re
theorem tTB.ir {G : List gS} {R : gV} {T : gT} {x p n : Nat} {C D : Int} (h : tTB G R T x p n C D) : ∀ i v, T (x + 7) i v := h.a.ir
theorem tAB.r {G : List gS} {R : gV} {T : gT} {x : Nat} {C D : Int} (h : tAB G R T x C D) : tA G R T x C D := tA.mk h.ly h.c0 h.d0 (fun v => (h.pl v).mp) h.ct (fun v => (h.mm v).mp) (fun i v => (h.iv i v).mp) (fun i v => (h.od i v).mp) (fun i v => (h.st i v).mp) (fun i v => (h.re i v).mp)
theorem tTB.r {G : List gS} {R : gV} {T : gT} {x p n : Nat} {C D : Int} (h : tTB G R T x p n C D) : tT G R T x p n C D := tT.mk h.a.r h.rp h.gp h.cn (fun i v => (h.pr i v).mp)
theorem idxp {a N C b : Int} {n : Nat} (ha : 0 ≤ a ∧ a < C) (hN : 0 ≤ N ∧ N ≤ C) (hb : 0 ≤ b ∧ b < C) (hC : C ≤ 120) (hn : C * C ≤ n) : 0 ≤ a * N ∧ a * N ≤ 14400 ∧ a * N + b < n := by
  have h1 : 0 ≤ a * N := Int.mul_nonneg ha.1 hN.1
  have h2 : a * N ≤ (C - 1) * C := Int.mul_le_mul (by omega) hN.2 hN.1 (by omega)
  have h3 : (C - 1) * C = C * C - C := by rw [Int.sub_mul, Int.one_mul]
  have h4 : C * C ≤ 120 * 120 := Int.mul_le_mul hC hC (by omega) (by omega)
  omega
section
variable {G : List gS} {R V : gV} {T : gT} {x p n : Nat} {C D : Int}
theorem isTurn_k (ly : lay6 G R x) {a : Int} (ha : i32 a) : cpI 1 (bi (0 ≤ a ∧ a < V x 1)) 88 [(4, (x : Int)), (0, a)] G R V :=
  c_X6_isTurn (t_X6_isTurn_0 ly ⟨ha, fun h => ⟨by rw [bi_f (by omega)], rfl⟩, fun h _ => ⟨fun h2 => ⟨by rw [bi_f (by omega)], rfl⟩, fun h2 => ⟨by rw [bi_t (by omega)], rfl⟩⟩⟩)
theorem times_k (t : tT G R T x p n C D) (hD : D ≤ C) (th : TH T V) {a b : Int} (ha : 0 ≤ a ∧ a < C) (hb : 0 ≤ b ∧ b < C) : pI 1 0 (C - 1) 89 [(4, (x : Int)), (0, a), (0, b)] G R V := by
  have c := t.ct _ (th x 1)
  have hc := t.c0
  have q := idxp (n := n) ha (N := V x 1) (by omega) hb hc.2 t.cn
  refine c_X6_times (t_X6_times_0 t.ly ⟨p, n, ⟨t.rp, t.gp⟩, fun _ => ⟨by omega, by omega, by omega, fun _ => ⟨_, rfl, ?_, rfl⟩⟩⟩)
  have := (t.pr _ _).mp (th p (a * V x 1 + b))
  omega
theorem ledBy_k (t : tT G R T x p n C D) (hD : D ≤ C) (th : TH T V) {a b : Int} (ha : 0 ≤ a ∧ a < C) (hb : 0 ≤ b ∧ b < C) : pI 2 0 (C - 1) 90 [(4, (x : Int)), (0, a), (0, b)] G R V := by
  have hc := t.c0
  have q := (t.iv _ _).mp (th (x + 2) a)
  exact c_X6_ledBy (t_X6_ledBy_0 t.ly ⟨by omega, fun _ => pI_u (times_k t hD th q hb) (fun v hv => pI_u (times_k t hD th (by omega) ha) (fun w hw => ⟨w, rfl, hw, rfl⟩))⟩)
theorem kinOf_k (t : tT G R T x p n C D) (hD : D ≤ C) (th : TH T V) {a : Int} (ha : 0 ≤ a ∧ a < C) : pI 2 (-1) 120 91 [(4, (x : Int)), (0, a)] G R V := by
  have hc := t.c0
  have c := t.ct _ (th x 1)
  refine c_X6_kinOf (t_X6_kinOf_0 t.ly ?_)
  refine pool2 (f := fun k g => [some (4, (x : Int)), some (0, a), some (0, k), some (0, g)]) (Inv := fun k g => 0 ≤ k ∧ k ≤ g ∧ g ≤ V x 1) (μ := fun _ g => (V x 1 - g).toNat) (fun k g h ih => ?_) 0 0 (by omega)
  refine t_X6_kinOf_4 t.ly (fun _ => ⟨by omega, fun _ => ⟨by omega, fun _ => ⟨-1, rfl, by omega, rfl⟩, fun _ => ⟨by omega, _, rfl, ?_, rfl⟩⟩, fun _ => ?_⟩)
  · have m5 := Int.ediv_nonneg (show 0 ≤ V x 1 by omega) (show 0 ≤ k by omega)
    have m6 := Int.ediv_le_self k (show 0 ≤ V x 1 by omega)
    omega
  · exact pI_u (times_k t hD th (by omega) ha) (fun v hv => pI_u (times_k t hD th ha (by omega)) (fun w hw => ⟨by omega, by omega, fun _ => ⟨by omega, ih _ _ (by omega) (by omega)⟩, fun _ => ⟨by omega, by omega, ih _ _ (by omega) (by omega)⟩⟩))
theorem indexIn_k {q m : Nat} (hq : G[q]? = some (.inr (0, m))) {l v : Int} (hl : i32 l) (hv : i32 v) : pI 1 (-1) 2147483647 94 [(4, (q : Int)), (0, l), (0, v)] G R V := by
  refine c_X6_indexIn (t_X6_indexIn_0 hq ?_)
  refine pool1 (f := fun i => [some (4, (q : Int)), some (0, l), some (0, v), some (0, i)]) (Inv := fun i => 0 ≤ i ∧ (i ≤ l ∨ i = 0)) (μ := fun i => (l - i).toNat) (fun i h ih => ?_) 0 (by omega)
  exact t_X6_indexIn_2 hq ⟨by omega, hl, fun _ => ⟨-1, rfl, by omega, rfl⟩, fun _ => ⟨fun _ => ⟨-1, rfl, by omega, rfl⟩, fun _ => ⟨by omega, fun _ => ⟨hv, fun _ => ⟨by omega, ih _ (by omega) (by omega)⟩, fun _ => ⟨i, rfl, by omega, rfl⟩⟩⟩⟩⟩
end
