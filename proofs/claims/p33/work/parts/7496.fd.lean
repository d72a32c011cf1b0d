/-! all heaps are found, or there are too many -/
abbrev gk (V0 : gV) (x : Nat) (m : Int) : Int := V0 (x + 4) (m * 120)
abbrev iI (V0 : gV) (x : Nat) : Int → Int := fun t => V0 (x + 2) t
section
variable {G : List gS} {R V V0 : gV} {T : gT} {f x p n : Nat} {C D : Int}
theorem leadToNew_x (c : fc G R T f x p n C D V0) (h : fv T f V0 V) (hl : leX V0 V f x p) {k m : Int} (hk : 0 ≤ k ∧ k < 300) (hm : 0 ≤ m ∧ m < V0 x 2) : cwv 2 (fun r V' => r = none ∧ (TH T V' ∧ Fr (S15 f) V V' ∧ ∀ t, 0 ≤ t → t < 128 → (nS V' f t = 1 ↔ ∃ s, 0 ≤ s ∧ s < V0 x 1 ∧ hS V f k s = 1 ∧ pMul V0 x p (pMul V0 x p (iI V0 x (gk V0 x m)) s) (gk V0 x m) = t))) 54 [(4, (f : Int)), (0, k), (0, m), (4, (x : Int))] G R V := by
  have u := c.1
  have tx := c.2.2.2.2.2
  have N1 := tx.1
  have K1 := tx.2.1
  have g := tx.2.2.1
  have gm := tx.2.2.2.2.1 m hm.1 hm.2
  refine c_X3_leadToNew (t_X3_leadToNew_0 u.ly c.2.1.ly ?_)
  refine loop1 (f := fun b => [some (4, (f : Int)), some (0, k), some (0, m), some (4, (x : Int)), some (0, b)]) (Inv := fun b V1 => TH T V1 ∧ Fr (S15 f) V V1 ∧ (0 ≤ b ∧ b ≤ V0 x 1) ∧ ∀ t, 0 ≤ t → t < 128 → (nS V1 f t = 1 ↔ ∃ s, 0 ≤ s ∧ s < b ∧ hS V f k s = 1 ∧ pMul V0 x p (pMul V0 x p (iI V0 x (gk V0 x m)) s) (gk V0 x m) = t)) (μ := fun b _ => (120 - b).toNat) (fun b V1 hh ih => ?_) 0 _ ⟨TH_wr (TH_wr h.1 (u.nl _)) (u.nh _), Fr_w (Fr_w Fr_0 (by omega)) (by omega), by omega, fun t t0 t1 => ?_⟩
  · obtain ⟨th1, fr, b0, hs⟩ := hh
    have h1 : fv T f V0 V1 := fv_m h th1 fr (by omega)
    obtain ⟨e1, _, _, _, _, hC⟩ := fv_x c h1
    have s1 : V1 (f + 1) k = V (f + 1) k := fr _ _ (by omega)
    have s2 : V1 (f + 2) k = V (f + 2) k := fr _ _ (by omega)
    have s9 : ∀ i, V1 (f + 9) i = V (f + 9) i := fun i => fr _ _ (by omega)
    refine t_X3_leadToNew_13 u.ly c.2.1.ly (fun _ => ⟨by omega, fun z => ⟨rfl, th1, fr, fun t t0 t1 => ?_⟩, fun z => ⟨by omega, fun _ _ => ?_⟩⟩)
    · rw [hs t t0 t1, show b = V0 x 1 by omega]
    rw [e1] at z
    rw [s1, s2]
    have iv := g.2.2.2.2 _ gm.1 gm.2
    have m1 := g.2.1 _ b iv.1 iv.2.1 b0.1 z
    have m2 := g.2.1 _ _ m1.1 m1.2 gm.1 gm.2
    refine cpI_u (by omega) (holds_e (by omega)) ⟨by rcases bt_01 (V (f + 1) k) (V (f + 2) k) b with w | w <;> omega, fun z1 => ⟨by omega, ih _ _ ⟨th1, fr, by omega, fun t t0 t1 => ?_⟩ (by omega)⟩, fun z1 => ⟨by omega, by omega, by omega, fun _ => ?_⟩⟩
    · rw [hs t t0 t1]
      constructor
      · rintro ⟨s, w1, w2, w3, w4⟩
        exact ⟨s, w1, by omega, w3, w4⟩
      · rintro ⟨s, w1, w2, w3, w4⟩
        by_cases y : s = b
        · rw [y] at w3
          have w5 : bt (V (f + 1) k) (V (f + 2) k) b = 1 := w3
          omega
        · exact ⟨s, w1, by omega, w3, w4⟩
    · rw [s9, hl m b hm.1 hm.2 b0.1 z]
      (try dsimp only at m2)
      refine cw0_u (by omega) (addToNew_x u th1 (by omega)) (fun V2 h2 => ⟨by omega, ih _ _ ⟨h2.1, Fr_t fr h2.2.1, by omega, fun t t0 t1 => ?_⟩ (by omega)⟩)
      rw [h2.2.2 t t0 t1]
      have hb1 : hS V f k b = 1 := by
        rcases bt_01 (V (f + 1) k) (V (f + 2) k) b with w | w
        · exact absurd w z1
        · exact w
      constructor
      · intro w
        by_cases y : t = pMul V0 x p (pMul V0 x p (V0 (x + 2) (V0 (x + 4) (m * 120))) b) (V0 (x + 4) (m * 120))
        · exact ⟨b, b0.1, by omega, hb1, y.symm⟩
        · rw [if_neg y] at w
          obtain ⟨s, w1, w2, w3, w4⟩ := (hs t t0 t1).mp w
          exact ⟨s, w1, by omega, w3, w4⟩
      · rintro ⟨s, w1, w2, w3, w4⟩
        by_cases y : t = pMul V0 x p (pMul V0 x p (V0 (x + 2) (V0 (x + 4) (m * 120))) b) (V0 (x + 4) (m * 120))
        · rw [if_pos y]
        · rw [if_neg y]
          refine (hs t t0 t1).mpr ⟨s, w1, ?_, w3, w4⟩
          by_cases y2 : s = b
          · rw [y2] at w4; exact absurd w4.symm y
          · omega
  · have e : nS (wr (wr V f 15 0) f 16 0) f t = 0 := by
      show bt (wr (wr V f 15 0) f 16 0 f 15) (wr (wr V f 15 0) f 16 0 f 16) t = 0
      rw [wr_i (by omega), wr_same, wr_same]; exact bt_0 ⟨t0, t1⟩
    rw [e]
    exact ⟨fun w => absurd w (by omega), fun w => by obtain ⟨s, w1, w2, _⟩ := w; omega⟩
abbrev Skm (f : Nat) : Nat → Int → Prop := fun c _ => c = f + 6 ∨ c = f + 7
theorem keepMakersF_x (u : fT G R T f) (th : TH T V) {k a : Int} (hk : 0 ≤ k ∧ k < V f 5) (h3 : V f 5 < 300) (hm : 0 ≤ V (f + 6) k ∧ V (f + 6) k ≤ 6) (ha : i32 a) : cwv 1 (fun r V' => r = none ∧ (TH T V' ∧ Fr (Skm f) V V' ∧ V' (f + 6) (V f 5) = V (f + 6) k + 1 ∧ (∀ m, 0 ≤ m → m < V (f + 6) k + 1 → V' (f + 7) (V f 5 * 8 + m) = mrX V f k a m) ∧ (∀ k', k' ≠ V f 5 → V' (f + 6) k' = V (f + 6) k') ∧ (∀ k' m, k' ≠ V f 5 → 0 ≤ m → m < 8 → V' (f + 7) (k' * 8 + m) = V (f + 7) (k' * 8 + m)))) 53 [(4, (f : Int)), (0, k), (0, a)] G R V := by
  have kd := (u.kd _).mp (th f 5)
  refine c_X3_keepMakers (t_X3_keepMakers_0 u.ly ?_)
  refine loop1 (f := fun b => [some (4, (f : Int)), some (0, k), some (0, a), some (0, b)]) (Inv := fun b V1 => TH T V1 ∧ Fr (fun c _ => c = f + 7) V V1 ∧ (0 ≤ b ∧ b ≤ V (f + 6) k) ∧ (∀ m, 0 ≤ m → m < b → V1 (f + 7) (V f 5 * 8 + m) = V (f + 7) (k * 8 + m)) ∧ (∀ k' m, k' ≠ V f 5 → 0 ≤ m → m < 8 → V1 (f + 7) (k' * 8 + m) = V (f + 7) (k' * 8 + m))) (μ := fun b _ => (7 - b).toNat) (fun b V1 h ih => ?_) 0 _ ⟨th, Fr_0, by omega, fun m m0 m1 => by omega, fun _ _ _ _ _ => rfl⟩
  obtain ⟨th1, hf, b0, h1, h2⟩ := h
  have e5 : V1 f 5 = V f 5 := hf _ _ (by omega)
  have e6 : ∀ i, V1 (f + 6) i = V (f + 6) i := fun i => hf _ _ (by omega)
  have fin : b = V (f + 6) k → TH T (wr (wr V1 (f + 7) (V1 f 5 * 8 + b) a) (f + 6) (V1 f 5) (b + 1)) ∧ Fr (Skm f) V (wr (wr V1 (f + 7) (V1 f 5 * 8 + b) a) (f + 6) (V1 f 5) (b + 1)) ∧ wr (wr V1 (f + 7) (V1 f 5 * 8 + b) a) (f + 6) (V1 f 5) (b + 1) (f + 6) (V f 5) = V (f + 6) k + 1 ∧ (∀ m, 0 ≤ m → m < V (f + 6) k + 1 → wr (wr V1 (f + 7) (V1 f 5 * 8 + b) a) (f + 6) (V1 f 5) (b + 1) (f + 7) (V f 5 * 8 + m) = mrX V f k a m) ∧ (∀ k', k' ≠ V f 5 → wr (wr V1 (f + 7) (V1 f 5 * 8 + b) a) (f + 6) (V1 f 5) (b + 1) (f + 6) k' = V (f + 6) k') ∧ (∀ k' m, k' ≠ V f 5 → 0 ≤ m → m < 8 → wr (wr V1 (f + 7) (V1 f 5 * 8 + b) a) (f + 6) (V1 f 5) (b + 1) (f + 7) (k' * 8 + m) = V (f + 7) (k' * 8 + m)) := by
    intro eb
    rw [e5]
    refine ⟨TH_wr (TH_wr th1 (u.ma _ _)) ((u.km _ _).mpr (by omega)), Fr_w (Fr_w (Fr_m hf (by omega)) (by omega)) (by omega), by rw [wr_same, eb], fun m m0 m1 => ?_, fun k' hk' => by rw [wr_i hk', wr_a (by omega)]; exact e6 k', fun k' m hk' m0 m1 => by rw [wr_a (by omega), wr_i (by omega)]; exact h2 k' m hk' m0 m1⟩
    rw [wr_a (by omega)]
    (try dsimp only)
    by_cases y : m = V (f + 6) k
    · rw [mrX_t y, y, ← eb, wr_same]
    · rw [mrX_f y, wr_i (by omega)]; exact h1 m m0 (by omega)
  have e7 : ∀ m, 0 ≤ m → m < 8 → V1 (f + 7) (k * 8 + m) = V (f + 7) (k * 8 + m) := fun m m0 m1 => h2 k m (by omega) m0 m1
  refine t_X3_keepMakers_2 u.ly ⟨by omega, fun _ => ⟨by omega, fun z _ => ⟨by omega, by omega, by omega, ha, by omega, by omega, rfl, fin (by rw [e6] at z; omega)⟩, fun z => ⟨fun z1 => absurd z1 (by rw [e6] at z; omega), fun _ _ => ⟨by omega, by omega, by omega, by omega, by omega, fun _ => ⟨by omega, by omega, ih _ _ ⟨TH_wr th1 (u.ma _ _), Fr_w hf rfl, by rw [e6] at z; omega, fun m m0 m1 => ?_, fun k' m hk' m0 m1 => ?_⟩ (by rw [e6] at z; omega)⟩⟩⟩⟩⟩
  · rw [e5]
    by_cases y : m = b
    · rw [y, wr_same]; exact e7 b b0.1 (by omega)
    · rw [wr_i (by omega)]; exact h1 m m0 (by omega)
  · rw [e5, wr_i (by omega)]; exact h2 k' m hk' m0 m1
/-- bits above the turns are not set -/
abbrev zb (V0 : gV) (x : Nat) (S : Int → Int) : Prop := ∀ t, V0 x 1 ≤ t → t < 128 → S t = 0
theorem indexFrom_y (u : fT G R T f) (th : TH T V) (vr : VR G V) {s : Int} (hs : 0 ≤ s ∧ s ≤ V f 0) (hh : ∀ k, s ≤ k → k < V f 0 → zb V0 x (hS V f k)) (hn : zb V0 x (nS V f)) (i1 : i64 (V f 15)) (i2 : i64 (V f 16)) : cwv 1 (fun r V' => ∃ v : Int, r = some (0, v) ∧ (V' = V ∧ ((v = -1 ∧ ∀ k, s ≤ k → k < V f 0 → ¬ req (V0 x 1) (hS V f k) (nS V f)) ∨ (s ≤ v ∧ v < V f 0 ∧ req (V0 x 1) (hS V f v) (nS V f))))) 50 [(4, (f : Int)), (0, s), (2, V f 15), (2, V f 16)] G R V := by
  have cn := (u.cn _).mp (th f 0)
  refine cwI_u (Nat.le_refl _) (indexFrom_x u th hs i1 i2) (fun v V' hv => ?_)
  obtain ⟨eV, hv⟩ := hv
  refine ⟨eV, ?_⟩
  rcases hv with ⟨w1, w2⟩ | ⟨w1, w2, w3, w4⟩
  · refine Or.inl ⟨w1, fun k k0 k1 e => w2 k k0 k1 ?_⟩
    refine bt_ext (vr_a1 vr (ly3_1 u.ly).2 ⟨by omega, by omega⟩) (vr_a1 vr (ly3_2 u.ly).2 ⟨by omega, by omega⟩) i1 i2 (fun t t0 t1 => ?_)
    by_cases y : t < V0 x 1
    · exact e t t0 y
    · have a : bt (V (f + 1) k) (V (f + 2) k) t = 0 := hh k k0 k1 t (by omega) t1
      have b : bt (V f 15) (V f 16) t = 0 := hn t (by omega) t1
      rw [a, b]
  · refine Or.inr ⟨w1, w2, fun t _ _ => ?_⟩
    show bt (V (f + 1) v) (V (f + 2) v) t = bt (V f 15) (V f 16) t
    rw [w3, w4]
end
/-! what stands between kinds -/
def hpX (V0 V : gV) (f x p : Nat) : Prop := (1 ≤ V f 0 ∧ V f 0 ≤ 300) ∧ (∀ k, 0 ≤ k → k < V f 0 → SM (V0 x 1) (pMul V0 x p) (hS V f k) ∧ zb V0 x (hS V f k)) ∧ (∀ i j, 0 ≤ i → i < j → j < V f 0 → ¬ req (V0 x 1) (hS V f i) (hS V f j))
abbrev kdX (V0 V : gV) (f x p : Nat) (κ : Int) : Prop := (0 ≤ V (f + 5) κ ∧ V (f + 5) κ < V f 0) ∧ hpI (V0 x 1) (pMul V0 x p) (hS V f (V (f + 5) κ)) (sm (hS V f (V (f + 5) κ)) (V0 x 1).toNat) (V (f + 6) κ) (fun m => V (f + 7) (κ * 8 + m))
def cjX (V0 V : gV) (f x p : Nat) (H : Int) : Prop := ∀ k m, 0 ≤ k → k < H → 0 ≤ m → m < V0 x 2 → ∃ j, 0 ≤ j ∧ j < H ∧ req (V0 x 1) (hS V f j) (cj (V0 x 1) (pMul V0 x p) (iI V0 x) (hS V f k) (gk V0 x m))
def rpX (V0 V : gV) (f x p : Nat) : Prop := ∀ k, 0 ≤ k → k < V f 0 → ∃ κ a, 0 ≤ κ ∧ κ < V f 5 ∧ 0 ≤ a ∧ a < V0 x 1 ∧ req (V0 x 1) (hS V f (V (f + 5) κ)) (cj (V0 x 1) (pMul V0 x p) (iI V0 x) (hS V f k) a)
def stX (V0 V : gV) (f x p : Nat) : Prop := hpX V0 V f x p ∧ (1 ≤ V f 5 ∧ V f 5 ≤ V f 0) ∧ (∀ κ, 0 ≤ κ → κ < V f 5 → kdX V0 V f x p κ) ∧ cjX V0 V f x p (V f 0) ∧ rpX V0 V f x p ∧ req (V0 x 1) (hS V f 0) tr0
/-- sizes and kinds -/
def szX (V0 V : gV) (f x p : Nat) : Prop := (∀ k, 0 ≤ k → k < V f 0 → V (f + 3) k = sm (hS V f k) (V0 x 1).toNat) ∧ (∀ k, 0 ≤ k → k < V f 0 → 0 ≤ V (f + 4) k ∧ V (f + 4) k < V f 5) ∧ (∀ i j, 0 ≤ i → i < V f 0 → 0 ≤ j → j < V f 0 → (V (f + 4) i = V (f + 4) j ↔ CJ (V0 x 1) (pMul V0 x p) (iI V0 x) (hS V f i) (hS V f j)))
def oz (V V' : gV) (f : Nat) : Prop := (∀ j, 0 ≤ j → j < V f 0 → V' (f + 3) j = V (f + 3) j ∧ V' (f + 4) j = V (f + 4) j) ∧ (∀ j, V f 0 ≤ j → j < V' f 0 → V' (f + 3) j = V f 17 ∧ V' (f + 4) j = V f 5)
theorem many_add {N : Int} {mul : Int → Int → Int} {S : Int → Int → Int} {U : Int → Int} (h1 : ∀ k, 0 ≤ k → k < 300 → SM N mul (S k)) (h2 : ∀ i j, 0 ≤ i → i < j → j < 300 → ¬ req N (S i) (S j)) (hU : SM N mul U) (h3 : ∀ k, 0 ≤ k → k < 300 → ¬ req N (S k) U) : tooMany N mul := by
  refine ⟨fun i => if i < 300 then S i else U, fun i i0 i1 => ?_, fun i j i0 ij j1 => ?_⟩
  · (try dsimp only)
    split
    · exact h1 i i0 (by omega)
    · exact hU
  · (try dsimp only)
    rw [if_pos (by omega)]
    split
    · exact h2 i j i0 ij (by omega)
    · exact h3 i i0 (by omega)
/-- led by each turn, not by the makers alone -/
theorem cj_all {V0 V : gV} {f x p : Nat} {H : Int} (tx : tX V0 x p) (hS0 : ∀ k, 0 ≤ k → k < H → SM (V0 x 1) (pMul V0 x p) (hS V f k)) (h : cjX V0 V f x p H) : ∀ a, 0 ≤ a → a < V0 x 1 → ∀ k, 0 ≤ k → k < H → ∃ j, 0 ≤ j ∧ j < H ∧ req (V0 x 1) (hS V f j) (cj (V0 x 1) (pMul V0 x p) (iI V0 x) (hS V f k) a) := by
  have g := tx.2.2.1
  refine tx.2.2.2.2.2 (fun a => ∀ k, 0 ≤ k → k < H → ∃ j, 0 ≤ j ∧ j < H ∧ req (V0 x 1) (hS V f j) (cj (V0 x 1) (pMul V0 x p) (iI V0 x) (hS V f k) a)) (fun k k0 k1 => ⟨k, k0, k1, req_s (cj_0 g (hS0 k k0 k1).1)⟩) (fun t m t0 t1 m0 m1 ih k k0 k1 => ?_)
  obtain ⟨j, j0, j1, j2⟩ := ih k k0 k1
  obtain ⟨j', l0, l1, l2⟩ := h j m j0 j1 m0 m1
  have gm := tx.2.2.2.2.1 m m0 m1
  refine ⟨j', l0, l1, req_t l2 (req_t (cj_congr g (hS0 j j0 j1).1 j2 _) ?_)⟩
  exact cj_cj g ⟨t0, t1⟩ gm
