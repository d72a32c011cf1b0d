/-! the reference is made -/
def st8 (G0 : List gS) (R0 : gV) (A : Nat) (ks : List (Int × gS)) (G : List gS) (R : gV) : Prop := G = G0 ++ ks.map Prod.snd ∧ (∀ c i, c ≠ A → R c i = R0 c i) ∧ ∀ (j : Nat) (k : Int) (s : gS), ks[j]? = some (k, s) → R A k = ((A + (j + 1) : Nat) : Int)
theorem st8_s {G0 : List gS} {R0 : gV} {A : Nat} {ks : List (Int × gS)} {G : List gS} {R : gV} (h : st8 G0 R0 A ks G R) (hL : G0.length = A + 1) (k : Int) (s : gS) (hk : ∀ q ∈ ks, q.1 ≠ k) : st8 G0 R0 A (ks ++ [(k, s)]) (G ++ [s]) (wr R A k ((G.length : Nat) : Int)) := by
  obtain ⟨h1, h2, h3⟩ := h
  refine ⟨by rw [h1]; simp, fun c i z => by rw [wr_a z]; exact h2 c i z, fun j k' s' e => ?_⟩
  by_cases q : j < ks.length
  · rw [List.getElem?_append_left q] at e
    rw [wr_i (hk _ (List.mem_of_getElem? e))]
    exact h3 j k' s' e
  · rw [List.getElem?_append_right (by omega)] at e
    have e0 : j - ks.length = 0 := by
      cases hj : j - ks.length with
      | zero => rfl
      | succ n => rw [hj] at e; simp at e
    rw [e0] at e
    simp at e
    rw [← e.1, wr_same, h1]
    simp
    omega
theorem st8_o {G0 : List gS} {R0 : gV} {A : Nat} {ks : List (Int × gS)} {G : List gS} {R : gV} (h : st8 G0 R0 A ks G R) {s : gS} (hO : G0[A]? = some s) : G[A]? = some s := by
  rw [h.1]; exact gX2_app _ _ hO
theorem st8_l {G0 : List gS} {R0 : gV} {A : Nat} {ks : List (Int × gS)} {G : List gS} {R : gV} (h : st8 G0 R0 A ks G R) (hL : G0.length = A + 1) : G.length = A + 1 + ks.length := by
  rw [h.1, List.length_append, hL, List.length_map]
theorem few1 {N : Int} {mul : Int → Int → Int} (h : N = 1) : ¬ tooMany N mul := by
  rintro ⟨F, h1, h2⟩
  refine h2 0 1 (by omega) (by omega) (by omega) (fun t t0 t1 => ?_)
  have e : t = 0 := by omega
  rw [e, (h1 0 (by omega) (by omega)).2.1, (h1 1 (by omega) (by omega)).2.1]
abbrev k8 : List (Int × gS) := [(1, gA 0 4), (2, gA 0 4), (3, gA 0 32), (6, gA 0 960), (7, gA 0 14400), (8, gA 0 120), (9, gA 0 1000), (11, gA 0 120), (14, gA 2 36120), (15, gA 0 301), (16, gA 0 2107), (17, gA 0 301), (18, gA 0 36000), (19, gA 0 300), (20, gA 0 300), (21, gA 0 300), (22, gA 1 300), (23, gA 0 90000), (24, gA 0 120), (25, gA 0 960), (28, gA 2 8), (29, gA 1 2400), (30, gA 1 300), (31, gA 1 300), (33, gA 2 8), (34, gA 0 8), (36, gA 1 300), (38, gA 2 3), (39, gA 0 3), (40, gA 0 3), (41, gA 0 2880), (42, gA 2 24), (43, gA 1 7200), (44, gA 0 3), (45, gA 1 900)]
abbrev l8 : List gS := [gA 0 4, gA 0 4, gA 0 32, gA 0 960, gA 0 14400, gA 0 120, gA 0 1000, gA 0 120, gA 2 36120, gA 0 301, gA 0 2107, gA 0 301, gA 0 36000, gA 0 300, gA 0 300, gA 0 300, gA 1 300, gA 0 90000, gA 0 120, gA 0 960, gA 2 8, gA 1 2400, gA 1 300, gA 1 300, gA 2 8, gA 0 8, gA 1 300, gA 2 3, gA 0 3, gA 0 3, gA 0 2880, gA 2 24, gA 1 7200, gA 0 3, gA 1 900]
theorem st8_lay {G0 : List gS} {R0 : gV} {A : Nat} {G : List gS} {R : gV} (h : st8 G0 R0 A k8 G R) (hL : G0.length = A + 1) (hO : G0[A]? = some (gO 8)) : lay8 G R A := by
  have e : G = G0 ++ l8 := h.1
  have r := h.2.2
  have g : ∀ j, G[A + (j + 1)]? = l8[j]? := fun j => by rw [e]; exact gap hL j
  exact ⟨st8_o h hO, ⟨r 0 1 _ rfl, (g 0).trans rfl⟩, ⟨r 1 2 _ rfl, (g 1).trans rfl⟩, ⟨r 2 3 _ rfl, (g 2).trans rfl⟩, ⟨r 3 6 _ rfl, (g 3).trans rfl⟩, ⟨r 4 7 _ rfl, (g 4).trans rfl⟩, ⟨r 5 8 _ rfl, (g 5).trans rfl⟩, ⟨r 6 9 _ rfl, (g 6).trans rfl⟩, ⟨r 7 11 _ rfl, (g 7).trans rfl⟩, ⟨r 8 14 _ rfl, (g 8).trans rfl⟩, ⟨r 9 15 _ rfl, (g 9).trans rfl⟩, ⟨r 10 16 _ rfl, (g 10).trans rfl⟩, ⟨r 11 17 _ rfl, (g 11).trans rfl⟩, ⟨r 12 18 _ rfl, (g 12).trans rfl⟩, ⟨r 13 19 _ rfl, (g 13).trans rfl⟩, ⟨r 14 20 _ rfl, (g 14).trans rfl⟩, ⟨r 15 21 _ rfl, (g 15).trans rfl⟩, ⟨r 16 22 _ rfl, (g 16).trans rfl⟩, ⟨r 17 23 _ rfl, (g 17).trans rfl⟩, ⟨r 18 24 _ rfl, (g 18).trans rfl⟩, ⟨r 19 25 _ rfl, (g 19).trans rfl⟩, ⟨r 20 28 _ rfl, (g 20).trans rfl⟩, ⟨r 21 29 _ rfl, (g 21).trans rfl⟩, ⟨r 22 30 _ rfl, (g 22).trans rfl⟩, ⟨r 23 31 _ rfl, (g 23).trans rfl⟩, ⟨r 24 33 _ rfl, (g 24).trans rfl⟩, ⟨r 25 34 _ rfl, (g 25).trans rfl⟩, ⟨r 26 36 _ rfl, (g 26).trans rfl⟩, ⟨r 27 38 _ rfl, (g 27).trans rfl⟩, ⟨r 28 39 _ rfl, (g 28).trans rfl⟩, ⟨r 29 40 _ rfl, (g 29).trans rfl⟩, ⟨r 30 41 _ rfl, (g 30).trans rfl⟩, ⟨r 31 42 _ rfl, (g 31).trans rfl⟩, ⟨r 32 43 _ rfl, (g 32).trans rfl⟩, ⟨r 33 44 _ rfl, (g 33).trans rfl⟩, ⟨r 34 45 _ rfl, (g 34).trans rfl⟩⟩
section
variable {G : List gS} {R V : gV} {A : Nat}
theorem minit_k (hO : G[A]? = some (gO 8)) (hL : G.length = A + 1) (hz : ∀ i, V A i = 0) : cw 5 (fun r G' R' V' => r = none ∧ G' = G ++ l8 ∧ (∀ c i, c ≠ A → R' c i = R c i) ∧ lay8 G' R' A ∧ MI V' A ∧ (∀ c i, c < A → V' c i = V c i) ∧ (∀ s, 0 ≤ s → s < 4 → V' (A + 2) s = -1) ∧ (∀ k, 0 ≤ k → k < 3 → V' (A + 28) k = 0) ∧ (∀ i, V' (A + 1) i = 0 ∧ V' (A + 3) i = 0) ∧ V' A 4 = 1 ∧ V' A 5 = 1 ∧ V' A 35 = 0 ∧ V' A 37 = -1) 179 [(4, (A : Int))] G R V := by
  refine cw_fr (fun _ fr => c_X8_init ?_)
  have h : st8 G R A [] G R := ⟨by simp, fun _ _ _ => rfl, fun j k s e => by simp at e⟩
  have h2 := st8_s h hL 1 (gA 0 4) (by decide)
  refine t_X8_init_0 ⟨st8_o h2 hO, ?_⟩
  replace h := h2; clear h2
  have h2 := st8_s h hL 2 (gA 0 4) (by decide)
  have e2 : G.length + 1 = A + 2 := by omega
  refine t_X8_init_11 ⟨4, by rw [List.getElem?_append_right (Nat.le_refl _), Nat.sub_self]; rfl, by omega, by omega, by omega, by omega, st8_o h2 hO, ?_⟩
  replace h := h2; clear h2
  have h2 := st8_s h hL 3 (gA 0 32) (by decide)
  refine t_X8_init_34 ⟨st8_o h2 hO, ?_⟩
  replace h := h2; clear h2
  refine t_X8_init_42 ⟨st8_o h hO, ?_⟩
  refine t_X8_init_47 ⟨st8_o h hO, ?_⟩
  have h2 := st8_s h hL 6 (gA 0 960) (by decide)
  refine t_X8_init_52 ⟨st8_o h2 hO, ?_⟩
  replace h := h2; clear h2
  have h2 := st8_s h hL 7 (gA 0 14400) (by decide)
  refine t_X8_init_61 ⟨st8_o h2 hO, ?_⟩
  replace h := h2; clear h2
  have h2 := st8_s h hL 8 (gA 0 120) (by decide)
  refine t_X8_init_70 ⟨st8_o h2 hO, ?_⟩
  replace h := h2; clear h2
  have h2 := st8_s h hL 9 (gA 0 1000) (by decide)
  refine t_X8_init_78 ⟨st8_o h2 hO, ?_⟩
  replace h := h2; clear h2
  have h2 := st8_s h hL 11 (gA 0 120) (by decide)
  refine t_X8_init_87 ⟨st8_o h2 hO, ?_⟩
  replace h := h2; clear h2
  refine t_X8_init_95 ⟨st8_o h hO, ?_⟩
  refine t_X8_init_100 ⟨st8_o h hO, ?_⟩
  have h2 := st8_s h hL 14 (gA 2 36120) (by decide)
  refine t_X8_init_105 ⟨st8_o h2 hO, ?_⟩
  replace h := h2; clear h2
  have h2 := st8_s h hL 15 (gA 0 301) (by decide)
  refine t_X8_init_113 ⟨st8_o h2 hO, ?_⟩
  replace h := h2; clear h2
  have h2 := st8_s h hL 16 (gA 0 2107) (by decide)
  refine t_X8_init_122 ⟨st8_o h2 hO, ?_⟩
  replace h := h2; clear h2
  have h2 := st8_s h hL 17 (gA 0 301) (by decide)
  refine t_X8_init_131 ⟨st8_o h2 hO, ?_⟩
  replace h := h2; clear h2
  have h2 := st8_s h hL 18 (gA 0 36000) (by decide)
  refine t_X8_init_140 ⟨st8_o h2 hO, ?_⟩
  replace h := h2; clear h2
  have h2 := st8_s h hL 19 (gA 0 300) (by decide)
  refine t_X8_init_148 ⟨st8_o h2 hO, ?_⟩
  replace h := h2; clear h2
  have h2 := st8_s h hL 20 (gA 0 300) (by decide)
  refine t_X8_init_157 ⟨st8_o h2 hO, ?_⟩
  replace h := h2; clear h2
  have h2 := st8_s h hL 21 (gA 0 300) (by decide)
  refine t_X8_init_166 ⟨st8_o h2 hO, ?_⟩
  replace h := h2; clear h2
  have h2 := st8_s h hL 22 (gA 1 300) (by decide)
  refine t_X8_init_175 ⟨st8_o h2 hO, ?_⟩
  replace h := h2; clear h2
  have h2 := st8_s h hL 23 (gA 0 90000) (by decide)
  refine t_X8_init_184 ⟨st8_o h2 hO, ?_⟩
  replace h := h2; clear h2
  have h2 := st8_s h hL 24 (gA 0 120) (by decide)
  refine t_X8_init_192 ⟨st8_o h2 hO, ?_⟩
  replace h := h2; clear h2
  have h2 := st8_s h hL 25 (gA 0 960) (by decide)
  refine t_X8_init_200 ⟨st8_o h2 hO, ?_⟩
  replace h := h2; clear h2
  have h2 := st8_s h hL 28 (gA 2 8) (by decide)
  refine t_X8_init_209 ⟨st8_o h2 hO, ?_⟩
  replace h := h2; clear h2
  have h2 := st8_s h hL 29 (gA 1 2400) (by decide)
  refine t_X8_init_217 ⟨st8_o h2 hO, ?_⟩
  replace h := h2; clear h2
  have h2 := st8_s h hL 30 (gA 1 300) (by decide)
  refine t_X8_init_226 ⟨st8_o h2 hO, ?_⟩
  replace h := h2; clear h2
  have h2 := st8_s h hL 31 (gA 1 300) (by decide)
  refine t_X8_init_235 ⟨st8_o h2 hO, ?_⟩
  replace h := h2; clear h2
  refine t_X8_init_244 ⟨st8_o h hO, ?_⟩
  have h2 := st8_s h hL 33 (gA 2 8) (by decide)
  refine t_X8_init_249 ⟨st8_o h2 hO, ?_⟩
  replace h := h2; clear h2
  have h2 := st8_s h hL 34 (gA 0 8) (by decide)
  refine t_X8_init_257 ⟨st8_o h2 hO, ?_⟩
  replace h := h2; clear h2
  have h2 := st8_s h hL 36 (gA 1 300) (by decide)
  refine t_X8_init_265 ⟨st8_o h2 hO, ?_⟩
  replace h := h2; clear h2
  refine t_X8_init_274 ⟨st8_o h hO, ?_⟩
  have h2 := st8_s h hL 38 (gA 2 3) (by decide)
  refine t_X8_init_279 ⟨st8_o h2 hO, ?_⟩
  replace h := h2; clear h2
  have h2 := st8_s h hL 39 (gA 0 3) (by decide)
  refine t_X8_init_286 ⟨st8_o h2 hO, ?_⟩
  replace h := h2; clear h2
  have h2 := st8_s h hL 40 (gA 0 3) (by decide)
  refine t_X8_init_293 ⟨st8_o h2 hO, ?_⟩
  replace h := h2; clear h2
  have h2 := st8_s h hL 41 (gA 0 2880) (by decide)
  refine t_X8_init_300 ⟨st8_o h2 hO, ?_⟩
  replace h := h2; clear h2
  have h2 := st8_s h hL 42 (gA 2 24) (by decide)
  refine t_X8_init_309 ⟨st8_o h2 hO, ?_⟩
  replace h := h2; clear h2
  have h2 := st8_s h hL 43 (gA 1 7200) (by decide)
  refine t_X8_init_317 ⟨st8_o h2 hO, ?_⟩
  replace h := h2; clear h2
  have h2 := st8_s h hL 44 (gA 0 3) (by decide)
  refine t_X8_init_326 ⟨st8_o h2 hO, ?_⟩
  replace h := h2; clear h2
  have h2 := st8_s h hL 45 (gA 1 900) (by decide)
  refine t_X8_init_333 ⟨st8_o h2 hO, ?_⟩
  replace h := h2; clear h2
  have eL : (G ++ [gA 0 4]).length = A + 2 := by rw [List.length_append, hL]; rfl
  have ly := st8_lay h hL hO
  have eG : _ = G ++ l8 := h.1
  have fR := h.2.1
  revert ly eG fR
  clear h
  generalize hR : (wr _ A 45 _ : gV) = R1
  generalize hV : (wr _ A 37 _ : gV) = V1
  generalize hG : (_ ++ [gA 1 900] : List gS) = G1
  intro ly eG fR
  simp only [eL] at hV
  have f1 : ∀ a i, a ≠ A → a ≠ A + 2 → V1 a i = V a i := fun a i q1 q2 => by subst hV; simp [wr, q1, q2]
  have f2 : ∀ s, 0 ≤ s → s < 4 → V1 (A + 2) s = -1 := fun s s0 s1 => by
    have : s = 0 ∨ s = 1 ∨ s = 2 ∨ s = 3 := by omega
    subst hV
    rcases this with q | q | q | q <;> subst q <;> simp [wr]
  have f35 : V1 A 35 = 0 := by subst hV; simp [wr, hz]
  have f37 : V1 A 37 = -1 := by subst hV; simp [wr]
  clear hV hR hG
  refine t_X8_init_342 ?_
  refine loop1g (f := fun x => [some (4, (A : Int)), some (0, x)]) (Inv := fun x Va => 0 ≤ x ∧ x ≤ 8 ∧ (∀ a i, a ≠ A + 7 → Va a i = V1 a i) ∧ ∀ i, 0 ≤ i → i < x → Va (A + 7) i = i) (μ := fun x _ => (8 - x).toNat) (fun x Va hx ih => ?_) 0 V1 ⟨by omega, by omega, fun _ _ _ => rfl, fun i a b => by omega⟩
  obtain ⟨x0, x1, fa, cp⟩ := hx
  refine t_X8_init_344 ⟨by omega, fun c => ⟨ly8_o ly, ?_⟩, fun c => ⟨ly8_o ly, A + 7, (ly8_9 ly).1, 1000, (ly8_9 ly).2, by omega, by omega, ih _ _ ⟨by omega, by omega, fun a i q => by rw [wr_a q]; exact fa a i q, fun i i0 i1 => ?_⟩ (by omega)⟩⟩
  · obtain ⟨Vb, eb⟩ : ∃ Vb, Vb = wr Va A 10 1 := ⟨_, rfl⟩
    rw [← eb]
    have b10 : Vb A 10 = 1 := by rw [eb, wr_same]
    have fb : ∀ a i, a ≠ A + 7 → ¬ (a = A ∧ i = 10) → Vb a i = V1 a i := fun a i q1 q2 => by rw [eb, wr_ne q2]; exact fa a i q1
    have b7 : ∀ i, 0 ≤ i → i < 8 → Vb (A + 7) i = i := fun i i0 i1 => by rw [eb, wr_a (by omega)]; exact cp i i0 (by omega)
    have g0 : GR (fun i => Vb (A + 7) i) 1 (Vb A 10) := by
      rw [b10]
      have z : Vb (A + 7) 0 = 0 := b7 0 (by omega) (by omega)
      have zz : ∀ k p, 0 ≤ k → k < 1 → 0 ≤ p → p < 1 → (fun i => Vb (A + 7) i) (8 * k + p) = 0 := fun k p k0 k1 p0 p1 => by
        have e : 8 * k + p = 0 := by omega
        dsimp only
        rw [e]; exact z
      refine ⟨by omega, by omega, by omega, by omega, fun k p k0 k1 p0 p1 => ?_, fun k p q k0 k1 p0 p1 q0 q1 _ => by omega, fun i j i0 i1 j0 j1 _ => by omega, ⟨0, by omega, by omega, fun p p0 p1 => ?_⟩, fun s t s0 s1 t0 t1 => ⟨0, by omega, by omega, fun p p0 p1 => ?_⟩⟩
      · rw [zz k p k0 k1 p0 p1]; omega
      · rw [zz 0 p (by omega) (by omega) p0 p1]; omega
      · rw [zz 0 p (by omega) (by omega) p0 p1, zz s p s0 s1 p0 p1, zz t 0 t0 t1 (by omega) (by omega)]
    refine t_X8_init_368 ⟨ly8_o ly, cw0_u (Nat.le_add_right 3 1) (takes_c (V := Vb) ly g0) (fun Vc hc => ⟨ly8_o ly, ?_⟩)⟩
    have gc := tkP_GT hc
    have c5 : Vc A 5 = Vb A 10 := hc.2.1.2.1
    rw [← c5] at gc
    refine cwI_u (Nat.le_add_right 3 1) (finds_c ly gc (by omega)) (fun v Vd hd => ⟨ly8_o ly, ?_⟩)
    have d5 : Vd A 5 = Vc A 5 := hd.1 _ _ (by omega) (by omega) (by omega) (by omega) (by omega) (by omega)
    have dm : mMul Vd A = mMul Vc A := funext (fun s => funext (fun t => hd.1 _ _ (by omega) (by omega) (by omega) (by omega) (by omega) (by omega)))
    have di : mInv Vd A = mInv Vc A := funext (fun s => hd.1 _ _ (by omega) (by omega) (by omega) (by omega) (by omega) (by omega))
    have hv : v = 1 ∧ hpsP (Vc A 5) (Vd A 12) (mMul Vc A) (mHas Vd A) (fun k => Vd (A + 10) k) := by
      rcases hd.2 with q | q
      · exact ⟨q.1, q.2.1⟩
      · exact absurd q.2 (few1 (by omega))
    refine cw0_u (Nat.le_refl 4) (settles_c (V := Vd) ly (by rw [d5, dm, di]; exact gc) (by omega) (by rw [d5, dm]; exact hv.2)) (fun Ve he => ?_)
    obtain ⟨r1, r2, r3, r4, r5⟩ := build_ok hc hd hv.1 he
    have e2 : ∀ s, 0 ≤ s → s < 4 → Ve (A + 2) s = -1 := fun s s0 s1 => by rw [r2 _ _ (by omega) (by omega), fb _ _ (by omega) (by omega)]; exact f2 s s0 s1
    have e28 : ∀ i, Ve (A + 28) i = 0 := fun i => by rw [r2 _ _ (by omega) (by omega), fb _ _ (by omega) (by omega), f1 _ _ (by omega) (by omega)]; exact (fr _ i (by omega)).1
    have e35 : Ve A 35 = 0 := by rw [r2 _ _ (by omega) (by omega), fb _ _ (by omega) (by omega)]; exact f35
    have n13 : 1 ≤ Ve A 13 := r1.2.1.2.2.2.1
    refine ⟨rfl, eG, fR, ly, ⟨fun s s0 s1 => by rw [e2 s s0 s1]; omega, r1, by omega, fun k k0 k1 k2 => by rw [e28] at k2; omega⟩, fun c i q => ?_, e2, fun k _ _ => e28 k, fun i => ⟨by rw [r2 _ _ (by omega) (by omega), fb _ _ (by omega) (by omega), f1 _ _ (by omega) (by omega)]; exact (fr _ i (by omega)).1, by rw [r2 _ _ (by omega) (by omega), fb _ _ (by omega) (by omega), f1 _ _ (by omega) (by omega)]; exact (fr _ i (by omega)).1⟩, r3, by rw [r4]; exact b10, e35, by rw [r2 _ _ (by omega) (by omega), fb _ _ (by omega) (by omega)]; exact f37⟩
    rw [r2 _ _ (by omega) (by omega), fb _ _ (by omega) (by omega)]
    exact f1 _ _ (by omega) (by omega)
  · by_cases e : i = x
    · rw [e, wr_same]
    · rw [wr_i e]; exact cp i i0 (by omega)
end
