/-! codes in their order; steps, products, powers -/
abbrev S1 (x : Nat) : Nat → Int → Prop := fun c _ => c = x + 1
abbrev S4 (x : Nat) : Nat → Int → Prop := fun c _ => c = x + 4
def srP (f g : Int → Int) (a : Int) : Prop := ris g a ∧ (∀ i, a ≤ i → g i = f i) ∧ (∀ j, 0 ≤ j → j < a → ∃ i, 0 ≤ i ∧ i < a ∧ g j = f i) ∧ (∀ i, 0 ≤ i → i < a → ∃ j, 0 ≤ j ∧ j < a ∧ g j = f i)
theorem sr_ins {f g g' : Int → Int} {a b c : Int} (h : srP f g a) (b0 : 0 ≤ b ∧ b ≤ a) (ds : ∀ i, 0 ≤ i → i < a → f i ≠ f a) (hc : c = f a) (e1 : ∀ i, i < b → g' i = g i) (e2 : g' b = c) (e3 : ∀ i, b < i → i ≤ a → g' i = g (i - 1)) (e4 : ∀ i, a < i → g' i = g i) (lo : b = 0 ∨ g (b - 1) ≤ c) (hi : ∀ i, b ≤ i → i < a → c < g i) : srP f g' (a + 1) := by
  obtain ⟨h1, h2, h3, h4⟩ := h
  have ne : ∀ i, 0 ≤ i → i < a → g i ≠ c := fun i i0 i1 => by
    obtain ⟨k, k0, k1, k2⟩ := h3 i i0 i1
    rw [k2, hc]; exact ds k k0 k1
  have lt : ∀ i, 0 ≤ i → i < b → g i < c := fun i i0 i1 => by
    rcases lo with q | q
    · omega
    · have := ne i i0 (by omega)
      by_cases z : i = b - 1
      · rw [← z] at q; omega
      · have := h1 i (b - 1) i0 (by omega) (by omega)
        omega
  refine ⟨fun i j i0 ij j1 => ?_, fun i i0 => by rw [e4 i (by omega)]; exact h2 i (by omega), fun j j0 j1 => ?_, fun i i0 i1 => ?_⟩
  · by_cases j2 : j < b
    · rw [e1 j j2, e1 i (by omega)]; exact h1 i j i0 ij (by omega)
    · by_cases j3 : j = b
      · rw [j3, e2, e1 i (by omega)]; exact lt i i0 (by omega)
      · rw [e3 j (by omega) (by omega)]
        by_cases i2 : i < b
        · rw [e1 i i2]; exact h1 i (j - 1) i0 (by omega) (by omega)
        · by_cases i3 : i = b
          · rw [i3, e2]; exact hi (j - 1) (by omega) (by omega)
          · rw [e3 i (by omega) (by omega)]; exact h1 (i - 1) (j - 1) (by omega) (by omega) (by omega)
  · by_cases j2 : j < b
    · obtain ⟨k, k0, k1, k2⟩ := h3 j j0 (by omega)
      exact ⟨k, k0, by omega, by rw [e1 j j2]; exact k2⟩
    · by_cases j3 : j = b
      · exact ⟨a, by omega, by omega, by rw [j3, e2]; exact hc⟩
      · obtain ⟨k, k0, k1, k2⟩ := h3 (j - 1) (by omega) (by omega)
        exact ⟨k, k0, by omega, by rw [e3 j (by omega) (by omega)]; exact k2⟩
  · by_cases i2 : i = a
    · exact ⟨b, b0.1, by omega, by rw [e2, i2]; exact hc⟩
    · obtain ⟨k, k0, k1, k2⟩ := h4 i i0 (by omega)
      by_cases j2 : k < b
      · exact ⟨k, k0, by omega, by rw [e1 k j2]; exact k2⟩
      · exact ⟨k + 1, by omega, by omega, by rw [e3 (k + 1) (by omega) (by omega), show k + 1 - 1 = k by omega]; exact k2⟩
theorem idx_inj {s t s' t' N : Int} (h0 : 0 ≤ t ∧ t < N) (h1 : 0 ≤ t' ∧ t' < N) (e : s * N + t = s' * N + t') : s = s' ∧ t = t' := by
  have key : ∀ a b : Int, a < b → a * N + N ≤ b * N := fun a b h => by
    have := Int.mul_le_mul_of_nonneg_right (show a + 1 ≤ b by omega) (show 0 ≤ N by omega)
    rw [Int.add_mul, Int.one_mul] at this
    exact this
  rcases Int.lt_trichotomy s s' with q | q | q
  · have := key s s' q; omega
  · subst q; exact ⟨rfl, by omega⟩
  · have := key s' s q; omega
section
variable {G : List gS} {R V : gV} {T : gT} {x p n : Nat} {C D : Int}
theorem sortCodes_x (t : tAB G R T x C D) (th : TH T V) (ds : ∀ i j, 0 ≤ i → i < j → j < V x 1 → V (x + 1) i ≠ V (x + 1) j) : cwv 1 (fun r V' => r = none ∧ (TH T V' ∧ Fr (S1 x) V V' ∧ srP (fun j => V (x + 1) j) (fun j => V' (x + 1) j) (V x 1))) 96 [(4, (x : Int))] G R V := by
  have hd := t.d0
  have ct := t.ct _ (th x 1)
  refine c_X6_sortCodes (t_X6_sortCodes_0 t.ly ?_)
  refine loop1 (f := fun a => [some (4, (x : Int)), some (0, a)]) (Inv := fun a V1 => TH T V1 ∧ Fr (S1 x) V V1 ∧ (1 ≤ a ∧ a ≤ V x 1) ∧ srP (fun j => V (x + 1) j) (fun j => V1 (x + 1) j) a) (μ := fun a _ => (120 - a).toNat) (fun a V1 h ih => ?_) 1 _ ⟨th, Fr_0, by omega, fun i j i0 ij j1 => by omega, fun _ _ => rfl, fun j j0 j1 => ⟨j, j0, j1, rfl⟩, fun j j0 j1 => ⟨j, j0, j1, rfl⟩⟩
  obtain ⟨th1, fr, h0, sr⟩ := h
  have v1 : V1 x 1 = V x 1 := fr _ _ (by omega)
  refine t_X6_sortCodes_2 t.ly (fun _ => ⟨by omega, fun z => ⟨rfl, th1, fr, by rw [show V x 1 = a by omega]; exact sr⟩, fun z => ⟨by omega, fun e => ?_⟩⟩)
  have ec : V1 (x + 1) a = V (x + 1) a := sr.2.1 a (by omega)
  have fin : ∀ (b : Int) (V2 : gV), TH T V2 → Fr (S1 x) V V2 → (0 ≤ b ∧ b ≤ a) → (∀ i, i < b → V2 (x + 1) i = V1 (x + 1) i) → (∀ i, b < i → i ≤ a → V2 (x + 1) i = V1 (x + 1) (i - 1)) → (∀ i, a < i → V2 (x + 1) i = V1 (x + 1) i) → (∀ i, b ≤ i → i < a → V1 (x + 1) a < V1 (x + 1) i) → (b = 0 ∨ V1 (x + 1) (b - 1) ≤ V1 (x + 1) a) → TH T (wr V2 (x + 1) b (V1 (x + 1) a)) ∧ Fr (S1 x) V (wr V2 (x + 1) b (V1 (x + 1) a)) ∧ (1 ≤ a + 1 ∧ a + 1 ≤ V x 1) ∧ srP (fun j => V (x + 1) j) (fun j => wr V2 (x + 1) b (V1 (x + 1) a) (x + 1) j) (a + 1) := by
    intro b V2 th2 fr2 b0 e1 e3 e4 hi lo
    refine ⟨TH_wr th2 (t.co _ _), Fr_w fr2 rfl, by omega, ?_⟩
    refine sr_ins sr b0 (fun i i0 i1 => ds i a i0 i1 (by omega)) ec (fun i i1 => ?_) (wr_same _ _ _ _) (fun i i0 i1 => ?_) (fun i i0 => ?_) lo hi
    · rw [wr_i (by omega)]; exact e1 i i1
    · rw [wr_i (by omega)]; exact e3 i i0 i1
    · rw [wr_i (by omega)]; exact e4 i i0
  refine loop1 (f := fun b => [some (4, (x : Int)), some (0, a), some (0, V1 (x + 1) a), some (0, b)]) (Inv := fun b V2 => TH T V2 ∧ Fr (S1 x) V V2 ∧ (0 ≤ b ∧ b ≤ a) ∧ (∀ i, i < b → V2 (x + 1) i = V1 (x + 1) i) ∧ (∀ i, b < i → i ≤ a → V2 (x + 1) i = V1 (x + 1) (i - 1)) ∧ (∀ i, a < i → V2 (x + 1) i = V1 (x + 1) i) ∧ (∀ i, b ≤ i → i < a → V1 (x + 1) a < V1 (x + 1) i)) (μ := fun b _ => b.toNat) (fun b V2 h2 ih2 => ?_) a V1 ⟨th1, fr, by omega, fun _ _ => rfl, fun i i0 i1 => by omega, fun _ _ => rfl, fun i i0 i1 => by omega⟩
  obtain ⟨th2, fr2, b0, e1, e3, e4, hi⟩ := h2
  refine t_X6_sortCodes_19 t.ly ⟨by omega, fun z1 => ⟨by omega, e, by omega, ih _ _ (fin b V2 th2 fr2 b0 e1 e3 e4 hi (Or.inl (by omega))) (by omega)⟩, fun z1 => ⟨by omega, by omega, fun _ => ⟨e, fun z2 => ⟨by omega, by omega, ih _ _ (fin b V2 th2 fr2 b0 e1 e3 e4 hi (Or.inr ?_)) (by omega)⟩, fun z2 => ⟨by omega, by omega, ih2 _ _ ⟨TH_wr th2 (t.co _ _), Fr_w fr2 rfl, by omega, fun i i1 => ?_, fun i i0 i1 => ?_, fun i i0 => ?_, fun i i0 i1 => ?_⟩ (by omega)⟩⟩⟩⟩
  · rw [e1 (b - 1) (by omega)] at z2; omega
  · rw [wr_i (by omega)]; exact e1 i (by omega)
  · by_cases q : i = b
    · rw [q, wr_same]; exact e1 (b - 1) (by omega)
    · rw [wr_i q]; exact e3 i (by omega) i1
  · rw [wr_i (by omega)]; exact e4 i i0
  · by_cases q : i = b - 1
    · rw [q]; rw [e1 (b - 1) (by omega)] at z2; exact z2
    · exact hi i (by omega) i1
theorem numberOf_e (ly : lay6 G R x) (hN : 1 ≤ V x 1 ∧ V x 1 ≤ 120) (hr : ris (fun j => V (x + 1) j) (V x 1)) {k c : Int} (hk : 0 ≤ k ∧ k < V x 1) (hc : V (x + 1) k = c) (h32 : i32 c) : cpI 1 k 98 [(4, (x : Int)), (0, c)] G R V := by
  refine c_X6_numberOf (t_X6_numberOf_0 ly (fun _ => ⟨by omega, ?_⟩))
  refine pool3 (f := fun u v i => [some (4, (x : Int)), some (0, c), some (0, u), some (0, v), some (0, i)]) (Inv := fun u v i => 0 ≤ u ∧ u ≤ k ∧ k ≤ v ∧ v ≤ V x 1 - 1 ∧ 0 ≤ i ∧ v - u ≤ 119 - i) (μ := fun _ _ i => (120 - i).toNat) (fun u v i h ih => ?_) 0 _ 0 (by omega)
  have m0 : u < v → u ≤ (u + v) / 2 ∧ (u + v) / 2 < v := by omega
  refine t_X6_numberOf_12 ly ⟨by omega, fun z => ⟨by rw [show u = k by omega], rfl⟩, fun z => ⟨by omega, by omega, fun z1 => ⟨by rw [show u = k by omega], rfl⟩, fun z1 => ⟨by omega, by omega, by omega, fun _ => ⟨h32, fun z2 => ⟨by omega, ih _ _ _ ?_ (by omega)⟩, fun z2 => ⟨by omega, by omega, ih _ _ _ ?_ (by omega)⟩⟩⟩⟩⟩
  · have := m0 z1
    have : k ≤ (u + v) / 2 := by
      apply Classical.byContradiction
      intro q
      have w := hr ((u + v) / 2) k (by omega) (by omega) hk.2
      dsimp only at w
      omega
    omega
  · have := m0 z1
    have : (u + v) / 2 < k := by
      apply Classical.byContradiction
      intro q
      by_cases q2 : k = (u + v) / 2
      · rw [← q2] at z2; omega
      · have w := hr k ((u + v) / 2) hk.1 (by omega) (by omega)
        dsimp only at w
        omega
    omega
/-- steps: where a turn comes to with a maker behind it -/
def stP2 (V : gV) (x : Nat) : Prop := ∀ m s, 0 ≤ m → m < V x 2 → 0 ≤ s → s < V x 1 → 0 ≤ V (x + 4) (m * 120 + s) ∧ V (x + 4) (m * 120 + s) < V x 1 ∧ V (x + 1) (V (x + 4) (m * 120 + s)) = cmp (V (x + 1) s) (V (x + 5) m)
theorem fillSteps_x (t : tAB G R T x C D) (hD : D ≤ C) (th : TH T V) (hr : ris (fun j => V (x + 1) j) (V x 1)) (hc : ∀ j, 0 ≤ j → j < V x 1 → cO (V (x + 1) j)) (hmk : V x 2 ≤ 4) (hmc : ∀ m, 0 ≤ m → m < V x 2 → cO (V (x + 5) m)) (cl : ∀ s m, 0 ≤ s → s < V x 1 → 0 ≤ m → m < V x 2 → ∃ k, 0 ≤ k ∧ k < V x 1 ∧ V (x + 1) k = cmp (V (x + 1) s) (V (x + 5) m)) : cwv 3 (fun r V' => r = none ∧ (TH T V' ∧ Fr (S4 x) V V' ∧ stP2 V' x)) 97 [(4, (x : Int))] G R V := by
  have hd := t.d0
  have ct := t.ct _ (th x 1)
  have fe : ∀ V1, Fr (S4 x) V V1 → V1 x 1 = V x 1 ∧ V1 x 2 = V x 2 ∧ (∀ i, V1 (x + 1) i = V (x + 1) i) ∧ ∀ i, V1 (x + 5) i = V (x + 5) i := fun V1 fr => ⟨fr _ _ (by omega), fr _ _ (by omega), fun i => fr _ _ (by omega), fun i => fr _ _ (by omega)⟩
  refine c_X6_fillSteps (t_X6_fillSteps_0 t.ly ?_)
  refine loop1 (f := fun a => [some (4, (x : Int)), some (0, a)]) (Inv := fun a V1 => TH T V1 ∧ Fr (S4 x) V V1 ∧ (0 ≤ a ∧ a ≤ 4) ∧ ∀ m s, 0 ≤ m → m < V x 2 → 0 ≤ s → s < V x 1 → m < a → 0 ≤ V1 (x + 4) (m * 120 + s) ∧ V1 (x + 4) (m * 120 + s) < V x 1 ∧ V (x + 1) (V1 (x + 4) (m * 120 + s)) = cmp (V (x + 1) s) (V (x + 5) m)) (μ := fun a _ => (4 - a).toNat) (fun a V1 h ih => ?_) 0 _ ⟨th, Fr_0, by omega, fun m s _ _ _ _ q => by omega⟩
  obtain ⟨th1, fr, a0, hs⟩ := h
  obtain ⟨f1, f2, f3, f5⟩ := fe V1 fr
  refine t_X6_fillSteps_2 t.ly (fun _ => ⟨by omega, fun z => ⟨rfl, th1, fr, ?_⟩, fun z => ?_⟩)
  · intro m s m0 m1 s0 s1
    rw [f1] at s1 ⊢
    rw [f2] at m1
    rw [f3, f3, f5]
    exact hs m s m0 m1 s0 s1 (by omega)
  refine loop1 (f := fun b => [some (4, (x : Int)), some (0, a), some (0, b)]) (Inv := fun b V1 => TH T V1 ∧ Fr (S4 x) V V1 ∧ (0 ≤ b ∧ b ≤ 120) ∧ ∀ m s, 0 ≤ m → m < V x 2 → 0 ≤ s → s < V x 1 → (m < a ∨ (m = a ∧ s < b)) → 0 ≤ V1 (x + 4) (m * 120 + s) ∧ V1 (x + 4) (m * 120 + s) < V x 1 ∧ V (x + 1) (V1 (x + 4) (m * 120 + s)) = cmp (V (x + 1) s) (V (x + 5) m)) (μ := fun b _ => (120 - b).toNat) (fun b V1 h2 ih2 => ?_) 0 V1 ⟨th1, fr, by omega, fun m s m0 m1 s0 s1 q => hs m s m0 m1 s0 s1 (by omega)⟩
  clear th1 fr hs
  rw [f2] at z
  clear f1 f2 f3 f5
  obtain ⟨th1, fr, b0, hs⟩ := h2
  obtain ⟨f1, f2, f3, f5⟩ := fe V1 fr
  refine t_X6_fillSteps_12 t.ly (fun _ => ⟨by omega, fun z1 => ⟨by omega, ih _ _ ⟨th1, fr, by omega, fun m s m0 m1 s0 s1 q => hs m s m0 m1 s0 s1 (by omega)⟩ (by omega)⟩, fun z1 => ⟨by omega, by omega, by omega, fun _ => ⟨by omega, fun _ => ?_⟩⟩⟩)
  rw [f1] at z1
  rw [f3, f5]
  obtain ⟨k, k0, k1, k2⟩ := cl b a b0.1 z1 a0.1 z
  refine cpI_u (by omega) (behind_c (hc b b0.1 z1) (hmc a a0.1 z)) ?_
  have cr := cmp_r (V (x + 1) b) (V (x + 5) a)
  refine cpI_u (by omega) (numberOf_e t.ly (by omega) (by rw [f1, show (fun j => V1 (x + 1) j) = fun j => V (x + 1) j from funext f3]; exact hr) (k := k) (by omega) (by rw [f3]; exact k2) (by omega)) ⟨by omega, by omega, by omega, ih2 _ _ ⟨TH_wr th1 ((t.st _ _).mpr (by omega)), Fr_w fr rfl, by omega, fun m s m0 m1 s0 s1 q => ?_⟩ (by omega)⟩
  by_cases y : m = a ∧ s = b
  · rw [y.1, y.2, wr_same]; exact ⟨k0, k1, k2⟩
  · rw [wr_i (by omega)]; exact hs m s m0 m1 s0 s1 (by omega)
theorem fillProductsBy_x (t : tTB G R T x p n C D) (hD : D ≤ C) (hp : p < x ∨ x + 7 < p) (th : TH T V) {a b m : Int} (ha : 0 ≤ a ∧ a < V x 1) (hb : 0 ≤ b ∧ b < V x 1) (hab : a ≠ b) (hm : 0 ≤ m ∧ m < 4) : cwv 1 (fun r V' => r = none ∧ (TH T V' ∧ Fr (fun c _ => c = p) V V' ∧ (∀ s, 0 ≤ s → s < V x 1 → V' p (s * V x 1 + a) = V (x + 4) (m * 120 + V p (s * V x 1 + b))) ∧ ∀ s u, 0 ≤ s → s < V x 1 → 0 ≤ u → u < V x 1 → u ≠ a → V' p (s * V x 1 + u) = V p (s * V x 1 + u))) 100 [(4, (x : Int)), (0, a), (0, b), (0, m)] G R V := by
  have hd := t.d0
  have hc := t.c0
  have ct := t.ct _ (th x 1)
  refine c_X6_fillProductsBy (t_X6_fillProductsBy_0 t.ly ?_)
  refine loop1 (f := fun s => [some (4, (x : Int)), some (0, a), some (0, b), some (0, m), some (0, s)]) (Inv := fun s V1 => TH T V1 ∧ Fr (fun c _ => c = p) V V1 ∧ (0 ≤ s ∧ s ≤ 120) ∧ (∀ s', 0 ≤ s' → s' < V x 1 → s' < s → V1 p (s' * V x 1 + a) = V (x + 4) (m * 120 + V p (s' * V x 1 + b))) ∧ ∀ s' u, 0 ≤ s' → s' < V x 1 → 0 ≤ u → u < V x 1 → u ≠ a → V1 p (s' * V x 1 + u) = V p (s' * V x 1 + u)) (μ := fun s _ => (120 - s).toNat) (fun s V1 h ih => ?_) 0 _ ⟨th, Fr_0, by omega, fun s' _ _ q => by omega, fun _ _ _ _ _ _ _ => rfl⟩
  obtain ⟨th1, fr, s0, e1, e2⟩ := h
  have v1 : V1 x 1 = V x 1 := fr _ _ (by omega)
  have v4 : ∀ i, V1 (x + 4) i = V (x + 4) i := fun i => fr _ _ (by omega)
  refine t_X6_fillProductsBy_3 t.ly (fun _ => ⟨by omega, fun z => ⟨rfl, th1, fr, fun s' q0 q1 => e1 s' q0 q1 (by omega), e2⟩, fun z => ⟨p, n, ⟨t.rp, t.gp⟩, ?_⟩⟩)
  rw [v1] at z ⊢
  have q1 := idxp (n := n) (a := s) (C := C) (N := V x 1) (by omega) (by omega) (b := a) (by omega) hc.2 t.cn
  have q2 := idxp (n := n) (a := s) (C := C) (N := V x 1) (by omega) (by omega) (b := b) (by omega) hc.2 t.cn
  have q3 := (t.pr _ _).mp (th1 p (s * V x 1 + b))
  refine ⟨by omega, by omega, by omega, by omega, by omega, fun _ => ⟨by omega, by omega, fun _ => ⟨by omega, by omega, ih _ _ ⟨TH_wr th1 ((t.pr _ _).mpr ((t.st _ _).mp (th1 (x + 4) _))), Fr_w fr rfl, by omega, fun s' w0 w1 w2 => ?_, fun s' u w0 w1 w2 w3 w4 => ?_⟩ (by omega)⟩⟩⟩
  · by_cases y : s' = s
    · rw [y, wr_same, v4, e2 s b s0.1 z hb.1 hb.2 (fun q => hab q.symm)]
    · rw [wr_i (fun q => y (idx_inj ha ha q).1)]; exact e1 s' w0 w1 (by omega)
  · rw [wr_i (fun q => w4 (idx_inj ⟨w2, w3⟩ ha q).2)]; exact e2 s' u w0 w1 w2 w3 w4
theorem times_e (t : tT G R T x p n C D) (hD : D ≤ C) (th : TH T V) {a b : Int} (ha : 0 ≤ a ∧ a < C) (hb : 0 ≤ b ∧ b < C) : cpI 1 (V p (a * V x 1 + b)) 89 [(4, (x : Int)), (0, a), (0, b)] G R V := by
  have c := t.ct _ (th x 1)
  have hc := t.c0
  have q := idxp (n := n) ha (N := V x 1) (by omega) hb hc.2 t.cn
  exact c_X6_times (t_X6_times_0 t.ly ⟨p, n, ⟨t.rp, t.gp⟩, fun _ => ⟨by omega, by omega, by omega, fun _ => ⟨rfl, rfl⟩⟩⟩)
abbrev pMul (V : gV) (x p : Nat) : Int → Int → Int := fun s t => V p (s * V x 1 + t)
abbrev S23 (x : Nat) : Nat → Int → Prop := fun c _ => c = x + 2 ∨ c = x + 3
def powP (V : gV) (x p : Nat) (a : Int) : Prop := 1 ≤ V (x + 3) a ∧ isOr (pMul V x p) a (V (x + 3) a).toNat ∧ V (x + 2) a = pw (pMul V x p) a ((V (x + 3) a).toNat - 1)
theorem fillPowers_x (t : tTB G R T x p n C D) (hD : D ≤ C) (hp : p < x ∨ x + 7 < p) (th : TH T V) {inv : Int → Int} (g : GT (V x 1) (pMul V x p) inv) : cwv 2 (fun r V' => r = none ∧ (TH T V' ∧ Fr (S23 x) V V' ∧ ∀ a, 0 ≤ a → a < V x 1 → powP V' x p a)) 101 [(4, (x : Int))] G R V := by
  have hd := t.d0
  have hc := t.c0
  have ct := t.ct _ (th x 1)
  have mu : ∀ V1, Fr (S23 x) V V1 → pMul V1 x p = pMul V x p := fun V1 fr => by
    funext s u
    show V1 p (s * V1 x 1 + u) = V p (s * V x 1 + u)
    rw [fr x 1 (by omega), fr p _ (by omega)]
  refine c_X6_fillPowers (t_X6_fillPowers_0 t.ly ?_)
  refine loop1 (f := fun a => [some (4, (x : Int)), some (0, a)]) (Inv := fun a V1 => TH T V1 ∧ Fr (S23 x) V V1 ∧ (0 ≤ a ∧ a ≤ 120) ∧ ∀ b, 0 ≤ b → b < V x 1 → b < a → 1 ≤ V1 (x + 3) b ∧ isOr (pMul V x p) b (V1 (x + 3) b).toNat ∧ V1 (x + 2) b = pw (pMul V x p) b ((V1 (x + 3) b).toNat - 1)) (μ := fun a _ => (120 - a).toNat) (fun a V1 h ih => ?_) 0 _ ⟨th, Fr_0, by omega, fun b _ _ q => by omega⟩
  obtain ⟨th1, fr, a0, hb⟩ := h
  have v1 : V1 x 1 = V x 1 := fr _ _ (by omega)
  refine t_X6_fillPowers_2 t.ly (fun _ => ⟨by omega, fun z => ⟨rfl, th1, fr, fun b b0 b1 => ?_⟩, fun z => ?_⟩)
  · unfold powP
    rw [mu V1 fr]
    exact hb b b0 b1 (by omega)
  rw [v1] at z
  refine pool3 (f := fun l q k => [some (4, (x : Int)), some (0, a), some (0, l), some (0, q), some (0, k)]) (Inv := fun l q k => (1 ≤ k ∧ k ≤ 121) ∧ q = pw (pMul V x p) a k.toNat ∧ l = pw (pMul V x p) a (k.toNat - 1) ∧ ∀ j : Nat, 1 ≤ j → (j : Int) < k → pw (pMul V x p) a j ≠ 0) (μ := fun _ _ k => (121 - k).toNat) (fun l q k h2 ih2 => ?_) 0 a 1 ⟨by omega, (pw_1 g ⟨a0.1, z⟩).symm, rfl, fun j j1 j2 => by omega⟩
  obtain ⟨k0, eq, el, nz⟩ := h2
  have rq := pw_r g (x := a) ⟨a0.1, z⟩ k.toNat
  have rl := pw_r g (x := a) ⟨a0.1, z⟩ (k.toNat - 1)
  rw [← eq] at rq
  rw [← el] at rl
  have w : TH T (wr (wr V1 (x + 3) a k) (x + 2) a l) := TH_wr (TH_wr th1 ((t.od _ _).mpr (by omega))) ((t.iv _ _).mpr (by omega))
  have fw : Fr (S23 x) V (wr (wr V1 (x + 3) a k) (x + 2) a l) := Fr_w (Fr_w fr (Or.inr rfl)) (Or.inl rfl)
  have nx : q = 0 → ∀ b, 0 ≤ b → b < V x 1 → b < a + 1 → 1 ≤ wr (wr V1 (x + 3) a k) (x + 2) a l (x + 3) b ∧ isOr (pMul V x p) b (wr (wr V1 (x + 3) a k) (x + 2) a l (x + 3) b).toNat ∧ wr (wr V1 (x + 3) a k) (x + 2) a l (x + 2) b = pw (pMul V x p) b ((wr (wr V1 (x + 3) a k) (x + 2) a l (x + 3) b).toNat - 1) := by
    intro q0 b b0 b1 b2
    rw [wr_a (show x + 3 ≠ x + 2 by omega)]
    by_cases y : b = a
    · rw [y, wr_same, wr_same]
      exact ⟨k0.1, ⟨by omega, by rw [← eq]; exact q0, fun j j1 j2 => nz j j1 (by omega)⟩, el⟩
    · rw [wr_i y, wr_i y, wr_a (show x + 2 ≠ x + 3 by omega)]
      exact hb b b0 b1 (by omega)
  refine t_X6_fillPowers_17 t.ly ⟨by omega, fun z1 => ⟨by omega, by omega, by omega, by omega, ih _ _ ⟨w, fw, by omega, nx z1⟩ (by omega)⟩, fun z1 => ⟨by omega, fun z2 => ?_, fun z2 => ?_⟩⟩
  · exfalso
    obtain ⟨o, o1, o2⟩ := or_ex g (x := a) ⟨a0.1, z⟩
    exact nz o o1.1 (by omega) o1.2.1
  · have te := times_e (V := V1) t.r hD th1 (a := q) (b := a) (by omega) (by omega)
    rw [v1, fr p _ (by omega)] at te
    refine cpI_u (by omega) te ⟨by omega, ih2 _ _ _ ⟨by omega, ?_, ?_, fun j j1 j2 => ?_⟩ (by omega)⟩
    · rw [show (k + 1).toNat = k.toNat + 1 by omega]
      show _ = V p (pw (pMul V x p) a k.toNat * V x 1 + a)
      rw [← eq]
    · rw [show (k + 1).toNat - 1 = k.toNat by omega]; exact eq
    · by_cases y : j = k.toNat
      · rw [y, ← eq]; exact z1
      · exact nz j j1 (by omega)
end
