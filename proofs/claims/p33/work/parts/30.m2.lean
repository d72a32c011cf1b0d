section
variable {d : Nat} {G : List gS} {R V : gV} {M : Nat}
/-- rows of new images that are a group of orders of n places, N of them -/
def GR (f : Int → Int) (n N : Int) : Prop := 1 ≤ n ∧ n ≤ 8 ∧ 1 ≤ N ∧ N ≤ 120 ∧ (∀ k p, 0 ≤ k → k < N → 0 ≤ p → p < n → 0 ≤ f (8 * k + p) ∧ f (8 * k + p) < n) ∧ (∀ k p q, 0 ≤ k → k < N → 0 ≤ p → p < n → 0 ≤ q → q < n → f (8 * k + p) = f (8 * k + q) → p = q) ∧ (∀ i j, 0 ≤ i → i < N → 0 ≤ j → j < N → (∀ p, 0 ≤ p → p < n → f (8 * i + p) = f (8 * j + p)) → i = j) ∧ (∃ e, 0 ≤ e ∧ e < N ∧ ∀ p, 0 ≤ p → p < n → f (8 * e + p) = p) ∧ (∀ s t, 0 ≤ s → s < N → 0 ≤ t → t < N → ∃ k, 0 ≤ k ∧ k < N ∧ ∀ p, 0 ≤ p → p < n → f (8 * k + p) = f (8 * t + f (8 * s + p)))
def gaF (V V' : gV) (M : Nat) : Prop := ∀ a i, a ≠ M + 7 → ¬ (a = M ∧ i = 10) → V' a i = V a i
def pOK (V : gV) (M : Nat) (n s : Int) : Prop := (∀ q, 0 ≤ q → q < n → 0 ≤ shp V M s q ∧ shp V M s q < n) ∧ (∀ p q, 0 ≤ p → p < n → 0 ≤ q → q < n → shp V M s p = shp V M s q → p = q)
def rowIs (V0 V : gV) (M : Nat) (n j k s : Int) : Prop := ∀ p, 0 ≤ p → p < n → V (M + 7) (8 * j + p) = shp V0 M s (V (M + 7) (8 * k + p))
def gJ (V0 V : gV) (M : Nat) (n : Int) : Prop := gaF V0 V M ∧ 1 ≤ V M 10 ∧ V M 10 ≤ 120 ∧ (∀ j p, 0 ≤ j → j < V M 10 → 0 ≤ p → p < n → 0 ≤ V (M + 7) (8 * j + p) ∧ V (M + 7) (8 * j + p) < n) ∧ (∀ p, 0 ≤ p → p < n → V (M + 7) p = p) ∧ (∀ i j, 0 ≤ i → i < j → j < V M 10 → ¬ rowEq V M n i j) ∧ (∀ j, 0 < j → j < V M 10 → ∃ k s, 0 ≤ k ∧ k < j ∧ 0 ≤ s ∧ s < 4 ∧ rowIs V0 V M n j k s)
def gC (V0 V : gV) (M : Nat) (n k s : Int) : Prop := ∀ k' s', 0 ≤ k' → 0 ≤ s' → s' < 4 → (k' < k ∨ (k' = k ∧ s' < s)) → ∃ j, 0 ≤ j ∧ j < V M 10 ∧ rowIs V0 V M n j k' s'
theorem gJ_GR {V0 : gV} {n : Int} (hn : 1 ≤ n ∧ n ≤ 8) (hp : ∀ s, 0 ≤ s → s < 4 → pOK V0 M n s) (j0 : gJ V0 V M n) (c : gC V0 V M n (V M 10) 0) : GR (fun i => V (M + 7) i) n (V M 10) := by
  obtain ⟨_, h1, h2, h3, h4, h5, h6⟩ := j0
  have inj : ∀ (m : Nat) (j : Int), 0 ≤ j → j < V M 10 → j.toNat = m → ∀ p q, 0 ≤ p → p < n → 0 ≤ q → q < n → V (M + 7) (8 * j + p) = V (M + 7) (8 * j + q) → p = q := by
    intro m
    induction m using Nat.strongRecOn with
    | _ m ih =>
      intro j q0 q1 q2 p q p0 p1 r0 r1 e
      by_cases z : j = 0
      · subst z
        rw [show 8 * (0 : Int) + p = p by omega, show 8 * (0 : Int) + q = q by omega, h4 p p0 p1, h4 q r0 r1] at e
        exact e
      · obtain ⟨k, s, k0, k1, s0, s1, w⟩ := h6 j (by omega) q1
        rw [w p p0 p1, w q r0 r1] at e
        have a1 := h3 k p k0 (by omega) p0 p1
        have a2 := h3 k q k0 (by omega) r0 r1
        have := (hp s s0 s1).2 _ _ a1.1 a1.2 a2.1 a2.2 e
        exact ih k.toNat (by omega) k k0 (by omega) rfl p q p0 p1 r0 r1 this
  have comp : ∀ (m : Nat) (t : Int), 0 ≤ t → t < V M 10 → t.toNat = m → ∀ s, 0 ≤ s → s < V M 10 → ∃ k, 0 ≤ k ∧ k < V M 10 ∧ ∀ p, 0 ≤ p → p < n → V (M + 7) (8 * k + p) = V (M + 7) (8 * t + V (M + 7) (8 * s + p)) := by
    intro m
    induction m using Nat.strongRecOn with
    | _ m ih =>
      intro t t0 t1 t2 s s0 s1
      by_cases z : t = 0
      · subst z
        refine ⟨s, s0, s1, fun p p0 p1 => ?_⟩
        have a := h3 s p s0 s1 p0 p1
        rw [show 8 * (0 : Int) + V (M + 7) (8 * s + p) = V (M + 7) (8 * s + p) by omega, h4 _ a.1 a.2]
      · obtain ⟨k, u, k0, k1, u0, u1, w⟩ := h6 t (by omega) t1
        obtain ⟨k2, c0, c1, c2⟩ := ih k.toNat (by omega) k k0 (by omega) rfl s s0 s1
        obtain ⟨j, d0, d1, d2⟩ := c k2 u c0 u0 u1 (Or.inl c1)
        refine ⟨j, d0, d1, fun p p0 p1 => ?_⟩
        have a := h3 s p s0 s1 p0 p1
        rw [d2 p p0 p1, c2 p p0 p1, w _ a.1 a.2]
  refine ⟨hn.1, hn.2, h1, h2, h3, fun k p q k0 k1 p0 p1 q0 q1 e => inj _ k k0 k1 rfl p q p0 p1 q0 q1 e, fun i j i0 i1 j0 j1 e => ?_, ⟨0, by omega, by omega, fun p p0 p1 => ?_⟩, fun s t s0 s1 t0 t1 => comp _ t t0 t1 rfl s s0 s1⟩
  · rcases Int.lt_trichotomy i j with z | z | z
    · exact absurd e (h5 i j i0 z j1)
    · exact z
    · exact absurd (fun p p0 p1 => (e p p0 p1).symm) (h5 j i j0 z i1)
  · show V (M + 7) (8 * 0 + p) = p
    rw [show 8 * (0 : Int) + p = p by omega]; exact h4 p p0 p1
/-- just when it ends so -/
def gaX (V0 V : gV) (M : Nat) (n v : Int) : Prop := (v = -6 ∧ ¬ ∀ s, 0 ≤ s → s < 4 → pOK V0 M n s) ∨ (v = -5 ∧ (∀ s, 0 ≤ s → s < 4 → pOK V0 M n s) ∧ gJ V0 V M n ∧ V M 10 = 120 ∧ (∃ k s, 0 ≤ k ∧ k < 120 ∧ 0 ≤ s ∧ s < 4 ∧ rowIs V0 V M n 120 k s) ∧ ∀ i, 0 ≤ i → i < 120 → ¬ rowEq V M n i 120) ∨ (v = 0 ∧ (∀ s, 0 ≤ s → s < 4 → pOK V0 M n s) ∧ gJ V0 V M n ∧ gC V0 V M n (V M 10) 0)
def gaP (V V' : gV) (M : Nat) (n v : Int) : Prop := gaF V V' M ∧ (v = -5 ∨ v = -6 ∨ (v = 0 ∧ GR (fun i => V' (M + 7) i) n (V' M 10))) ∧ gaX V V' M n v
theorem gaF_shp {V' : gV} (h : gaF V V' M) (s q : Int) : shp V' M s q = shp V M s q := by
  unfold shp
  rw [h (M + 2) s (by omega) (by omega), h (M + 3) (8 * s + q) (by omega) (by omega)]
/-- the last loops of gathers -/
theorem gathers_3 (ly : lay8 G R M) {V0 : gV} {n : Int} (hn : 1 ≤ n ∧ n ≤ 8) (hs : shOK V0 M) (hp : ∀ s, 0 ≤ s → s < 4 → pOK V0 M n s) : ∀ x : Int × gV, (0 ≤ x.1 ∧ x.1 ≤ x.2 M 10 ∧ gJ V0 x.2 M n ∧ gC V0 x.2 M n x.1 0) → wpv K_X8_gathers 2 (fun r V' => ∃ v, r = some (0, v) ∧ gaP V0 V' M n v) 122 [some (4, (M : Int)), some (0, n), some (0, x.1)] [] G R x.2 := by
  refine loopI (f := fun x : Int × gV => [some (4, (M : Int)), some (0, n), some (0, x.1)]) (g := fun x => x.2) _ (μ := fun x => (121 - x.1).toNat) (fun x hx ih => ?_)
  obtain ⟨k, V⟩ := x
  dsimp only at hx ih ⊢
  obtain ⟨k0, k1, jj, cc⟩ := hx
  refine t_X8_gathers_122 ly (fun _ => ⟨by have := jj.2.2.1; omega, fun c => ?_, fun c => ?_⟩)
  · have e : k = V M 10 := by omega
    have cc2 : gC V0 V M n (V M 10) 0 := by rw [← e]; exact cc
    exact ⟨0, rfl, jj.1, Or.inr (Or.inr ⟨rfl, gJ_GR hn hp jj cc2⟩), Or.inr (Or.inr ⟨rfl, hp, jj, cc2⟩)⟩
  -- the sheets
  refine loopI (f := fun y : Int × gV => [some (4, (M : Int)), some (0, n), some (0, k), some (0, y.1)]) (g := fun y => y.2) (Inv := fun y => 0 ≤ y.1 ∧ y.1 ≤ 4 ∧ k < y.2 M 10 ∧ gJ V0 y.2 M n ∧ gC V0 y.2 M n k y.1) (μ := fun y => (4 - y.1).toNat) (fun y hy ih2 => ?_) (0, V) ⟨by omega, by omega, c, jj, cc⟩
  clear jj cc c k1
  obtain ⟨s, V⟩ := y
  dsimp only at hy ih2 ⊢
  obtain ⟨s0, s1, c, jj, cc⟩ := hy
  refine t_X8_gathers_132 ly ⟨by omega, fun c2 => ⟨by have := jj.2.2.1; omega, ih (k + 1, V) ⟨by omega, by dsimp only; omega, jj, fun k' s' q0 q1 q2 q3 => cc k' s' q0 q1 q2 (by omega)⟩ (by dsimp only; have := jj.2.2.1; omega)⟩, fun c2 => ?_⟩
  -- the places
  refine loopI (f := fun z : Int × gV => [some (4, (M : Int)), some (0, n), some (0, k), some (0, s), some (0, z.1)]) (g := fun z => z.2) (Inv := fun z => 0 ≤ z.1 ∧ z.1 ≤ n ∧ k < z.2 M 10 ∧ gJ V0 z.2 M n ∧ gC V0 z.2 M n k s ∧ ∀ p, 0 ≤ p → p < z.1 → z.2 (M + 7) (8 * z.2 M 10 + p) = shp V0 M s (z.2 (M + 7) (8 * k + p))) (μ := fun z => (n - z.1).toNat) (fun z hz ih3 => ?_) (0, V) ⟨by omega, by omega, c, jj, cc, fun p q0 q1 => by dsimp only at q1; omega⟩
  clear jj cc c
  obtain ⟨p, V⟩ := z
  dsimp only at hz ih3 ⊢
  obtain ⟨p0, p1, c, jj, cc, hr⟩ := hz
  refine wp_rng (fun vr => ?_)
  have v32 : ∀ x, 0 ≤ x → x < 1000 → i32 (V (M + 7) x) := fun x h1 h2 => vr_a0 vr (ly8_9 ly).2 ⟨h1, by omega⟩
  obtain ⟨fr, n1, n2, rg, idr, dst, par⟩ := jj
  refine t_X8_gathers_140 ly ⟨by omega, by omega, fun c3 => ?_, fun c3 => ?_⟩
  · have pn : p = n := by omega
    subst pn
    refine cpI_u (Nat.le_refl _) (isNews_c ly (by omega) (by omega) vr) ⟨bi32 _, fun c4 => fun _ => ⟨fun c5 => ⟨by omega, by omega, ?_⟩, fun c5 => ⟨-5, rfl, fr, Or.inl rfl, Or.inr (Or.inl ⟨rfl, hp, ⟨fr, n1, n2, rg, idr, dst, par⟩, c5, ⟨k, s, k0, by omega, s0, by omega, fun q q0 q1 => by have := hr q q0 q1; rw [c5] at this; exact this⟩, fun i i0 i1 => ?_⟩)⟩⟩, fun c4 => ⟨by omega, ?_⟩⟩
    · have c4 : ∀ k', 0 ≤ k' → k' < V M 10 → ¬ rowEq V M p k' (V M 10) := by
        have : bi (∀ k', 0 ≤ k' → k' < V M 10 → ¬ rowEq V M p k' (V M 10)) = 1 := by
          rcases bi_01 (∀ k', 0 ≤ k' → k' < V M 10 → ¬ rowEq V M p k' (V M 10)) with z | z
          · exact absurd z c4
          · exact z
        exact bi_1.mp this
      have w7 : ∀ i, wr V M 10 (V M 10 + 1) (M + 7) i = V (M + 7) i := fun i => wr_a (by omega)
      have wN : wr V M 10 (V M 10 + 1) M 10 = V M 10 + 1 := wr_same V M 10 (V M 10 + 1)
      refine ih2 (s + 1, wr V M 10 (V M 10 + 1)) ⟨by omega, by omega, by dsimp only; rw [wN]; omega, ⟨?_, ?_, ?_, ?_, ?_, ?_, ?_⟩, ?_⟩ (by dsimp only; omega)
      · intro a i e1 e2
        show wr V M 10 (V M 10 + 1) a i = _
        rw [wr_ne e2]; exact fr a i e1 e2
      · dsimp only; rw [wN]; omega
      · dsimp only; rw [wN]; omega
      · dsimp only
        intro j q a1 a2 a3 a4
        rw [wN] at a2
        rw [w7]
        by_cases e : j = V M 10
        · rw [e, hr q a3 a4]
          have := rg k q k0 c a3 a4
          exact (hp s s0 (by omega)).1 _ this.1 this.2
        · exact rg j q a1 (by omega) a3 a4
      · dsimp only
        intro q a3 a4
        rw [w7]; exact idr q a3 a4
      · dsimp only
        intro i j a1 a2 a3
        rw [wN] at a3
        unfold rowEq
        simp only [w7]
        by_cases e : j = V M 10
        · rw [e]; exact c4 i a1 (by omega)
        · exact dst i j a1 a2 (by omega)
      · dsimp only
        intro j a1 a2
        rw [wN] at a2
        unfold rowIs
        simp only [w7]
        by_cases e : j = V M 10
        · exact ⟨k, s, k0, by omega, s0, by omega, fun q b0 b1 => by rw [e]; exact hr q b0 b1⟩
        · exact par j a1 (by omega)
      · dsimp only
        intro k' s' b0 b1 b2 b3
        unfold rowIs
        simp only [w7, wN]
        by_cases e : k' = k ∧ s' = s
        · exact ⟨V M 10, by omega, by omega, fun q q0 q1 => by rw [e.1, e.2]; exact hr q q0 q1⟩
        · obtain ⟨j, d0, d1, d2⟩ := cc k' s' b0 b1 b2 (by omega)
          exact ⟨j, d0, by omega, d2⟩
    · rcases bi_01 (∀ k', 0 ≤ k' → k' < V M 10 → ¬ rowEq V M p k' (V M 10)) with z | z
      · exact absurd z c4
      · have := bi_1.mp z i i0 (by omega)
        rw [c5] at this
        exact this
    · rw [bi_0] at c4
      have c4 : ∃ k', 0 ≤ k' ∧ k' < V M 10 ∧ rowEq V M p k' (V M 10) := Classical.byContradiction (fun z => c4 (fun k' a b e => z ⟨k', a, b, e⟩))
      obtain ⟨k3, e0, e1, e2⟩ := c4
      refine ih2 (s + 1, V) ⟨by omega, by omega, c, ⟨fr, n1, n2, rg, idr, dst, par⟩, ?_⟩ (by dsimp only; omega)
      dsimp only
      intro k' s' b0 b1 b2 b3
      by_cases e : k' = k ∧ s' = s
      · exact ⟨k3, e0, e1, fun q q0 q1 => by rw [e2 q q0 q1, e.1, e.2]; exact hr q q0 q1⟩
      · exact cc k' s' b0 b1 b2 (by omega)
  · have a := rg k p k0 c p0 c3
    have sz := hs s s0 (by omega)
    have f2 : V (M + 2) s = V0 (M + 2) s := fr _ _ (by omega) (by omega)
    have f3 : ∀ i, V (M + 3) i = V0 (M + 3) i := fun i => fr _ _ (by omega) (by omega)
    have sp := (hp s s0 (by omega)).1 _ a.1 a.2
    have nx : ∀ v, v = shp V0 M s (V (M + 7) (8 * k + p)) → wpv K_X8_gathers 2 (fun r V' => ∃ v, r = some (0, v) ∧ gaP V0 V' M n v) 140 [some (4, (M : Int)), some (0, n), some (0, k), some (0, s), some (0, p + 1)] [] G R (wr V (M + 7) (8 * V M 10 + p) v) := by
      intro v hv
      have wM : ∀ i, wr V (M + 7) (8 * V M 10 + p) v M i = V M i := fun i => wr_a (by omega)
      have w7 : ∀ j q, 0 ≤ j → j < V M 10 → 0 ≤ q → q < n → wr V (M + 7) (8 * V M 10 + p) v (M + 7) (8 * j + q) = V (M + 7) (8 * j + q) := fun j q b0 b1 b2 b3 => wr_i (by omega)
      refine ih3 (p + 1, wr V (M + 7) (8 * V M 10 + p) v) ⟨by omega, by omega, by dsimp only; rw [wM]; exact c, ⟨?_, ?_, ?_, ?_, ?_, ?_, ?_⟩, ?_, ?_⟩ (by dsimp only; omega)
      · intro a' i e1 e2
        show wr V (M + 7) (8 * V M 10 + p) v a' i = _
        rw [wr_a e1]; exact fr a' i e1 e2
      · dsimp only; rw [wM]; exact n1
      · dsimp only; rw [wM]; exact n2
      · dsimp only
        intro j q a1 a2 a3 a4
        rw [wM] at a2
        rw [w7 j q a1 a2 a3 a4]; exact rg j q a1 a2 a3 a4
      · dsimp only
        intro q a3 a4
        have := w7 0 q (by omega) (by omega) a3 a4
        rw [show 8 * (0 : Int) + q = q by omega] at this
        rw [this]; exact idr q a3 a4
      · dsimp only
        intro i j a1 a2 a3 e
        rw [wM] at a3
        refine dst i j a1 a2 a3 (fun q q0 q1 => ?_)
        have := e q q0 q1
        rw [w7 i q a1 (by omega) q0 q1, w7 j q (by omega) a3 q0 q1] at this
        exact this
      · dsimp only
        intro j a1 a2
        rw [wM] at a2
        obtain ⟨k2, s2, b0, b1, b2, b3, b4⟩ := par j a1 a2
        refine ⟨k2, s2, b0, b1, b2, b3, fun q q0 q1 => ?_⟩
        rw [w7 j q (by omega) a2 q0 q1, w7 k2 q b0 (by omega) q0 q1]; exact b4 q q0 q1
      · dsimp only
        intro k' s' b0 b1 b2 b3
        obtain ⟨j, d0, d1, d2⟩ := cc k' s' b0 b1 b2 b3
        refine ⟨j, d0, by rw [wM]; exact d1, fun q q0 q1 => ?_⟩
        rw [w7 j q d0 d1 q0 q1, w7 k' q b0 (by omega) q0 q1]; exact d2 q q0 q1
      · dsimp only
        intro q q0 q1
        rw [wM, w7 k q k0 c q0 (by omega)]
        by_cases e : q = p
        · rw [e, wr_same, hv]
        · rw [wr_i (by omega)]; exact hr q q0 (by omega)
    refine cpI_u (Nat.le_add_right 1 1) (newPlace_c ly (by omega) (by omega)) (fun _ => ⟨by omega, by omega, ⟨s0, by omega⟩, fun _ => ⟨by omega, fun c4 => ⟨by omega, by omega, nx _ ?_⟩, fun c4 => ⟨by omega, by omega, by omega, fun _ => ⟨by omega, by omega, nx _ ?_⟩⟩⟩⟩)
    · unfold shp
      rw [f2] at c4
      rw [if_neg c4]
    · unfold shp
      rw [f2] at c4
      rw [if_pos c4, f3]
end
