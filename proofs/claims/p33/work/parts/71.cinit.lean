/-! the class is made -/
def P5 : Nat → Int → Int → Prop
  | 0, i, v => (i = 1 → v = 0) ∧ (i = 2 → v = -1)
  | _, i, v => (0 ≤ i → i < 8 → v = 0)
def c1 (G : List gS) (R : gV) (T : gT) (B s : Nat) : Prop := (lay7 G R B) ∧ (fT G R T (B + 3)) ∧ (kT G R T (B + 15)) ∧ (∀ i v, T (B + 2) i v) ∧ (∀ i v, T B i v ↔ (i = 8 → v = -1)) ∧ (∀ j : Nat, j < s → R (B + 1) (j : Int) = ((B + 21 + 2 * j : Nat) : Int) ∧ lay5 G R (B + 21 + 2 * j) ∧ (∀ v, T (B + 21 + 2 * j) 1 v ↔ v = 0) ∧ (∀ v, T (B + 21 + 2 * j) 2 v ↔ v = -1) ∧ (∀ i v, T (B + 21 + 2 * j + 1) i v ↔ (0 ≤ i → i < 8 → v = 0))) ∧ (∀ i, R (B + 20) i = -1)
theorem c1.ly {G : List gS} {R : gV} {T : gT} {B s : Nat} (h : c1 G R T B s) : lay7 G R B := h.1
theorem c1.fi {G : List gS} {R : gV} {T : gT} {B s : Nat} (h : c1 G R T B s) : fT G R T (B + 3) := h.2.1
theorem c1.mk' {G : List gS} {R : gV} {T : gT} {B s : Nat} (h : c1 G R T B s) : kT G R T (B + 15) := h.2.2.1
theorem c1.sc {G : List gS} {R : gV} {T : gT} {B s : Nat} (h : c1 G R T B s) : ∀ i v, T (B + 2) i v := h.2.2.2.1
theorem c1.re {G : List gS} {R : gV} {T : gT} {B s : Nat} (h : c1 G R T B s) : ∀ i v, T B i v ↔ (i = 8 → v = -1) := h.2.2.2.2.1
theorem c1.sh {G : List gS} {R : gV} {T : gT} {B s : Nat} (h : c1 G R T B s) : ∀ j : Nat, j < s → R (B + 1) (j : Int) = ((B + 21 + 2 * j : Nat) : Int) ∧ lay5 G R (B + 21 + 2 * j) ∧ (∀ v, T (B + 21 + 2 * j) 1 v ↔ v = 0) ∧ (∀ v, T (B + 21 + 2 * j) 2 v ↔ v = -1) ∧ (∀ i v, T (B + 21 + 2 * j + 1) i v ↔ (0 ≤ i → i < 8 → v = 0)) := h.2.2.2.2.2.1
theorem c1.n5 {G : List gS} {R : gV} {T : gT} {B s : Nat} (h : c1 G R T B s) : ∀ i, R (B + 20) i = -1 := h.2.2.2.2.2.2
theorem c1.mk {G : List gS} {R : gV} {T : gT} {B s : Nat} (h_ly : lay7 G R B) (h_fi : fT G R T (B + 3)) (h_mk' : kT G R T (B + 15)) (h_sc : ∀ i v, T (B + 2) i v) (h_re : ∀ i v, T B i v ↔ (i = 8 → v = -1)) (h_sh : ∀ j : Nat, j < s → R (B + 1) (j : Int) = ((B + 21 + 2 * j : Nat) : Int) ∧ lay5 G R (B + 21 + 2 * j) ∧ (∀ v, T (B + 21 + 2 * j) 1 v ↔ v = 0) ∧ (∀ v, T (B + 21 + 2 * j) 2 v ↔ v = -1) ∧ (∀ i v, T (B + 21 + 2 * j + 1) i v ↔ (0 ≤ i → i < 8 → v = 0))) (h_n5 : ∀ i, R (B + 20) i = -1) : c1 G R T B s := ⟨h_ly, h_fi, h_mk', h_sc, h_re, h_sh, h_n5⟩
def c2 (G : List gS) (R : gV) (T : gT) (B : Nat) : Prop := (c1 G R T B 4) ∧ (gT2 G R T (B + 29) (B + 38) 1 1 1 (B + 51) 1 1) ∧ (bT G R T (B + 52)) ∧ (R B 6 = ((B + 52 : Nat) : Int)) ∧ (R (B + 52) 0 = ((B + 29 : Nat) : Int)) ∧ (R (B + 19) 0 = ((B + 29 : Nat) : Int)) ∧ (∀ i, i ≠ 0 → R (B + 19) i = -1) ∧ (lkT T R (B + 29) dT0) ∧ (∀ v, T (B + 52) 3 v → v = 0)
theorem c2.c {G : List gS} {R : gV} {T : gT} {B : Nat} (h : c2 G R T B) : c1 G R T B 4 := h.1
theorem c2.g {G : List gS} {R : gV} {T : gT} {B : Nat} (h : c2 G R T B) : gT2 G R T (B + 29) (B + 38) 1 1 1 (B + 51) 1 1 := h.2.1
theorem c2.b {G : List gS} {R : gV} {T : gT} {B : Nat} (h : c2 G R T B) : bT G R T (B + 52) := h.2.2.1
theorem c2.rb {G : List gS} {R : gV} {T : gT} {B : Nat} (h : c2 G R T B) : R B 6 = ((B + 52 : Nat) : Int) := h.2.2.2.1
theorem c2.rg {G : List gS} {R : gV} {T : gT} {B : Nat} (h : c2 G R T B) : R (B + 52) 0 = ((B + 29 : Nat) : Int) := h.2.2.2.2.1
theorem c2.r0 {G : List gS} {R : gV} {T : gT} {B : Nat} (h : c2 G R T B) : R (B + 19) 0 = ((B + 29 : Nat) : Int) := h.2.2.2.2.2.1
theorem c2.rn {G : List gS} {R : gV} {T : gT} {B : Nat} (h : c2 G R T B) : ∀ i, i ≠ 0 → R (B + 19) i = -1 := h.2.2.2.2.2.2.1
theorem c2.lk {G : List gS} {R : gV} {T : gT} {B : Nat} (h : c2 G R T B) : lkT T R (B + 29) dT0 := h.2.2.2.2.2.2.2.1
theorem c2.r3 {G : List gS} {R : gV} {T : gT} {B : Nat} (h : c2 G R T B) : ∀ v, T (B + 52) 3 v → v = 0 := h.2.2.2.2.2.2.2.2
theorem c2.mk {G : List gS} {R : gV} {T : gT} {B : Nat} (h_c : c1 G R T B 4) (h_g : gT2 G R T (B + 29) (B + 38) 1 1 1 (B + 51) 1 1) (h_b : bT G R T (B + 52)) (h_rb : R B 6 = ((B + 52 : Nat) : Int)) (h_rg : R (B + 52) 0 = ((B + 29 : Nat) : Int)) (h_r0 : R (B + 19) 0 = ((B + 29 : Nat) : Int)) (h_rn : ∀ i, i ≠ 0 → R (B + 19) i = -1) (h_lk : lkT T R (B + 29) dT0) (h_r3 : ∀ v, T (B + 52) 3 v → v = 0) : c2 G R T B := ⟨h_c, h_g, h_b, h_rb, h_rg, h_r0, h_rn, h_lk, h_r3⟩
section
variable {G G' : List gS} {R R' V V' : gV} {T T' : gT} {A B s : Nat}
theorem c1_m (h : c1 G R T B s) (hG : gX2 G G') (hR : ∀ c i, c < B + 21 + 2 * s → R' c i = R c i ∨ c = B + 19 ∨ (c = B ∧ i = 6)) (hT : ∀ c, c < B + 21 + 2 * s → T' c = T c) : c1 G' R' T' B s := by
  have r : ∀ c i, c < B + 21 + 2 * s → c ≠ B + 19 → ¬ (c = B ∧ i = 6) → R' c i = R c i := fun c i z1 z2 z3 => by
    rcases hR c i z1 with q | q | q
    · exact q
    · exact absurd q z2
    · exact absurd q z3
  have f := fT_m (T' := T') h.fi hG (fun i => r _ i (by omega) (by omega) (by omega)) (fun c z1 z2 => hT c (by omega))
  have k := kT_m (T' := T') h.mk' hG (fun i => r _ i (by omega) (by omega) (by omega)) (fun c z1 z2 => hT c (by omega))
  refine c1.mk (lay7_m h.ly hG ⟨r _ _ (by omega) (by omega) (by omega), r _ _ (by omega) (by omega) (by omega), r _ _ (by omega) (by omega) (by omega), r _ _ (by omega) (by omega) (by omega), r _ _ (by omega) (by omega) (by omega), r _ _ (by omega) (by omega) (by omega)⟩ f.ly k.ly) f k (by rw [hT _ (by omega)]; exact h.sc) (by rw [hT _ (by omega)]; exact h.re) (fun j hj => ?_) (fun i => by rw [r _ _ (by omega) (by omega) (by omega)]; exact h.n5 i)
  obtain ⟨q1, q2, q3, q4, q5⟩ := h.sh j hj
  exact ⟨by rw [r _ _ (by omega) (by omega) (by omega)]; exact q1, lay5_m q2 hG (r _ _ (by omega) (by omega) (by omega)), by rw [hT _ (by omega)]; exact q3, by rw [hT _ (by omega)]; exact q4, by rw [hT _ (by omega)]; exact q5⟩
theorem sheetInit_k (hO : G[A]? = some (gO 5)) (hL : G.length = A + 1) (th : TH T V) : cw 1 (fun r G' R' V' => r = none ∧ G' = G ++ [gA 0 8] ∧ (∀ c i, c ≠ A → R' c i = R c i) ∧ TH (nT T A 1 P5) V' ∧ lay5 G' R' A) 81 [(4, (A : Int))] G R V := by
  refine cw_fr (fun _ fr => c_X5_init (t_X5_init_0 ⟨gX2_app _ _ hO, rfl, rfl, fun c i h => wr_a h, ?_, gX2_app _ _ hO, ?_, ?_⟩))
  · refine TH_nT th (fun c i h => by rw [wr_a (by omega), wr_a (by omega)]) (fun j hj i => ?_)
    match j, hj with
    | 0, _ => exact ⟨fun h => by subst h; simp [wr], fun h => by subst h; simp [wr]⟩
    | n + 1, h => exact fun _ _ => by rw [wr_a (by omega), wr_a (by omega)]; exact (fr _ i (by omega)).1
  · rw [wr_same, hL]
  · rw [show A + 1 = A + (0 + 1) from rfl, gap hL]; rfl
theorem szs : szG ([gA 3 4] ++ [gA 0 4] ++ [gO 3] ++ l3 ++ [gO 0] ++ l0 ++ [gA 4 5] ++ [gA 5 3]) ≤ 10000 := by decide +kernel
theorem szs5 : szG ([gO 5] ++ [gA 0 8]) ≤ 20 := by decide +kernel
theorem cinit_k (hO : G[B]? = some (gO 7)) (hL : G.length = B + 1) : cw 4 (fun r G' R' V' => r = none ∧ G'.length = B + 57 ∧ gX2 G G' ∧ szG G' ≤ szG G + 25000 ∧ ∃ T, TH T V' ∧ c2 G' R' T B) 102 [(4, (B : Int))] G R V := by
  have th0 : TH (fun _ _ _ => True) V := fun _ _ => trivial
  have x1 : gX2 G (G ++ [gA 3 4]) := gX2_app
  have x2 : gX2 G (G ++ [gA 3 4] ++ [gA 0 4]) := gX2_t x1 gX2_app
  have l2 : (G ++ [gA 3 4] ++ [gA 0 4]).length = B + 3 := by rw [List.length_append, List.length_append, hL]; rfl
  have l1' : (G ++ [gA 3 4]).length = B + 2 := by rw [List.length_append, hL]; rfl
  refine c_X7_init (t_X7_init_0 ⟨x1 _ _ hO, x2 _ _ hO, ?_⟩)
  rw [l2, l1', hL]
  have h3 : (G ++ [gA 3 4] ++ [gA 0 4] ++ [gO 3])[B + 3]? = some (gO 3) := by rw [List.getElem?_append_right (by omega), l2, Nat.sub_self]; rfl
  refine cw_mono (by omega) (finderInit_k h3 (by rw [List.length_append, l2]; rfl) th0) (fun r G3 R3 V3 h => ?_)
  obtain ⟨e1, eG3, hR3, th3, hV3, f3⟩ := h
  have x3 : gX2 (G ++ [gA 3 4] ++ [gA 0 4]) G3 := by rw [eG3]; exact gX2_t gX2_app gX2_app
  have l3' : G3.length = B + 15 := by rw [eG3, List.length_append, List.length_append, l2]; rfl
  refine ⟨e1, x3 _ _ (x2 _ _ hO), ?_⟩
  rw [l3']
  have h4 : (G3 ++ [gO 0])[B + 15]? = some (gO 0) := by rw [List.getElem?_append_right (by omega), l3', Nat.sub_self]; rfl
  refine cw_mono (by omega) (cw_po (makerInit_k h4 (by rw [List.length_append, l3']; rfl) th3)) (fun r G5 R5 V5 h => ?_)
  obtain ⟨⟨e2, eG5, hR5, th5, hV5, k5⟩, -, fr5⟩ := h
  have x5 : gX2 G3 G5 := by rw [eG5]; exact gX2_t gX2_app gX2_app
  have l5' : G5.length = B + 19 := by rw [eG5, List.length_append, List.length_append, l3']; rfl
  have l6' : (G5 ++ [gA 4 5]).length = B + 20 := by rw [List.length_append, l5']; rfl
  have l7' : (G5 ++ [gA 4 5] ++ [gA 5 3]).length = B + 21 := by rw [List.length_append, l6']; rfl
  have x7 : gX2 G5 (G5 ++ [gA 4 5] ++ [gA 5 3]) := gX2_t gX2_app gX2_app
  have o5 := x5 _ _ (x3 _ _ (x2 _ _ hO))
  refine ⟨e2, o5, gX2_app _ _ o5, x7 _ _ o5, ?_⟩
  rw [l5', l6']
  have sz7 : szG (G5 ++ [gA 4 5] ++ [gA 5 3]) ≤ szG G + 10000 := by
    have := szs
    rw [eG5, eG3]
    simp only [szG_app] at this ⊢
    omega
  have xx : gX2 G (G5 ++ [gA 4 5] ++ [gA 5 3]) := gX2_t x2 (gX2_t x3 (gX2_t x5 x7))
  obtain ⟨R7, eR7⟩ : ∃ R7, R7 = wr (wr (wr R5 B 3 ((B + 15 : Nat) : Int)) B 4 ((B + 19 : Nat) : Int)) B 5 ((B + 20 : Nat) : Int) := ⟨_, rfl⟩
  rw [← eR7]
  have r7 : ∀ c i, c ≠ B → R7 c i = R5 c i := fun c i z => by rw [eR7, wr_a z, wr_a z, wr_a z]
  have f7 : fT (G5 ++ [gA 4 5] ++ [gA 5 3]) R7 (miU (nT (nT (fun _ _ _ => True) (B + 3) 11 P3) (B + 15) 3 P0) B (-1)) (B + 3) := fT_m f3 (gX2_t x5 x7) (fun i => by rw [r7 _ _ (by omega), hR5 _ _ (by omega), wr_a (by omega)]) (fun c z1 z2 => by rw [miU_n (by omega)]; exact nT_o (by omega))
  have k7 : kT (G5 ++ [gA 4 5] ++ [gA 5 3]) R7 (miU (nT (nT (fun _ _ _ => True) (B + 3) 11 P3) (B + 15) 3 P0) B (-1)) (B + 15) := kT_m k5 x7 (fun i => r7 _ _ (by omega)) (fun c z1 z2 => miU_n (by omega))
  have g1 : (G ++ [gA 3 4])[B + 1]? = some (gA 3 4) := by rw [show B + 1 = B + (0 + 1) from rfl, gap hL]; rfl
  have g2 : (G ++ [gA 3 4] ++ [gA 0 4])[B + 2]? = some (gA 0 4) := by rw [List.getElem?_append_right (by omega), l1', Nat.sub_self]; rfl
  have g19 : (G5 ++ [gA 4 5])[B + 19]? = some (gA 4 5) := by rw [List.getElem?_append_right (by omega), l5', Nat.sub_self]; rfl
  have g20 : (G5 ++ [gA 4 5] ++ [gA 5 3])[B + 20]? = some (gA 5 3) := by rw [List.getElem?_append_right (by omega), l6', Nat.sub_self]; rfl
  have q5 : ∀ i, R5 B i = wr R3 B 2 ((B + 3 : Nat) : Int) B i := fun i => hR5 _ _ (by omega)
  have q3 : ∀ i, R3 B i = wr (wr R B 0 ((B + 1 : Nat) : Int)) B 1 ((B + 2 : Nat) : Int) B i := fun i => hR3 _ _ (by omega)
  have c7 : c1 (G5 ++ [gA 4 5] ++ [gA 5 3]) R7 (miU (nT (nT (fun _ _ _ => True) (B + 3) 11 P3) (B + 15) 3 P0) B (-1)) B 0 := by
    refine c1.mk ⟨xx _ _ hO, ⟨?_, gX2_t gX2_app (gX2_t x3 (gX2_t x5 x7)) _ _ g1⟩, ⟨?_, gX2_t x3 (gX2_t x5 x7) _ _ g2⟩, ⟨?_, f7.ly⟩, ⟨?_, k7.ly⟩, ⟨?_, gX2_app _ _ g19⟩, ?_, g20⟩ f7 k7 ?_ ?_ (fun j hj => by omega) (fun i => ?_)
    · rw [eR7, wr_i (by omega), wr_i (by omega), wr_i (by omega), q5, wr_i (by omega), q3, wr_i (by omega), wr_same]
    · rw [eR7, wr_i (by omega), wr_i (by omega), wr_i (by omega), q5, wr_i (by omega), q3, wr_same]
    · rw [eR7, wr_i (by omega), wr_i (by omega), wr_i (by omega), q5, wr_same]
    · rw [eR7, wr_i (by omega), wr_i (by omega), wr_same]
    · rw [eR7, wr_i (by omega), wr_same]
    · rw [eR7, wr_same]
    · rw [miU_n (by omega), nT_o (by omega), nT_o (by omega)]; exact fun _ _ => trivial
    · intro i v
      by_cases q : i = 8
      · rw [q]; exact Iff.trans miU_8 ⟨fun z _ => z, fun z => z rfl⟩
      · rw [miU_i q, nT_o (by omega), nT_o (by omega)]; exact ⟨fun _ z => absurd z q, fun _ => trivial⟩
    · rw [r7 _ _ (by omega)]; exact (fr5 _ _ (by omega)).2
  have n19 : ∀ i, R7 (B + 19) i = -1 := fun i => by rw [r7 _ _ (by omega)]; exact (fr5 _ _ (by omega)).2
  have th7 : TH (miU (nT (nT (fun _ _ _ => True) (B + 3) 11 P3) (B + 15) 3 P0) B (-1)) (wr (wr V5 B 7 0) B 8 (-1)) := miU_th (TH_wr (TH_wr (miT_th th5) (by rw [miT_i (by omega), nT_o (by omega), nT_o (by omega)]; trivial)) miT_8) (wr_same _ _ _ _)
  refine loopG (f := fun x => [some (4, (B : Int)), some (0, x)]) (Inv := fun x G1 R1 V1 => ∃ s : Nat, x = (s : Int) ∧ s ≤ 4 ∧ G1.length = B + 21 + 2 * s ∧ gX2 G G1 ∧ szG G1 ≤ szG G + 10000 + 20 * s ∧ (∀ i, R1 (B + 19) i = -1) ∧ ∃ T, TH T V1 ∧ c1 G1 R1 T B s) (μ := fun x => (4 - x).toNat) (fun x G1 R1 V1 hv ih => ?_) 0 _ _ _ ⟨0, rfl, by omega, by omega, xx, by omega, n19, _, th7, c7⟩
  clear th7 c7 n19 eR7 r7 f7 k7 q5 q3 g1 g2 g19 g20 xx sz7 x7 x5 x3 fr5 k5 th5 hV5 hR5 eG5 e2 th3 hV3 hR3 eG3 e1 f3 h3 h4 l5' l6' l7' l3' o5
  obtain ⟨s, es, hs, hl, hx, hz, n19, T, th, c⟩ := hv
  subst es
  have l := c.ly
  refine t_X7_init_69 ⟨by omega, fun z => ⟨ly7_o l, B + 19, (ly7_4 l).1, ?_⟩, fun z => ⟨ly7_o l, B + 1, (ly7_0 l).1, ?_⟩⟩
  · have s4 : s = 4 := by omega
    subst s4
    have hA : G1.length = B + 29 := by omega
    rw [hA]
    have hO2 : (G1 ++ [gO 2])[B + 29]? = some (gO 2) := by rw [List.getElem?_append_right (by omega), hA, Nat.sub_self]; rfl
    refine cw_mono (by omega) (groupInit_k hO2 (by rw [List.length_append, hA]; rfl) th) (fun r G2 R2 V2 h => ?_)
    obtain ⟨e1, eG, hR, th1, hV, gt, lk⟩ := h
    have hG : gX2 G1 G2 := by rw [eG]; exact gX2_t gX2_app gX2_app
    have lG2 : G2.length = B + 52 := by rw [eG, List.length_append, List.length_append, hA]; rfl
    refine ⟨e1, 5, hG _ _ (ly7_4 l).2, by omega, ly2_o gt.ly, gX2_app _ _ (hG _ _ (ly7_o l)), B + 19, ?_, 5, gX2_app _ _ (hG _ _ (ly7_4 l).2), by omega, B + 29, wr_same _ _ _ _, ?_⟩
    · rw [wr_a (by omega), hR _ _ (by omega)]; exact (ly7_4 l).1
    · rw [lG2]
      have hO3 : (G2 ++ [gO 1])[B + 52]? = some (gO 1) := by rw [List.getElem?_append_right (by omega), lG2, Nat.sub_self]; rfl
      refine cw_mono (by omega) (benchInit_k (g := B + 29) hO3 (by rw [List.length_append, lG2]; rfl) th1) (fun r2 G3 R3 V3 h => ?_)
      obtain ⟨e2, eG3, hR3, rA, th3, hV3, bt⟩ := h
      have hG3 : gX2 G2 G3 := by rw [eG3]; exact gX2_t gX2_app gX2_app
      have lG3 : G3.length = B + 57 := by rw [eG3, List.length_append, List.length_append, lG2]; rfl
      have rr : ∀ c i, c < B + 52 → c ≠ B + 19 → ¬ (c = B ∧ i = 6) → wr R3 B 6 ((B + 52 : Nat) : Int) c i = R2 c i := fun c i z1 z2 z3 => by rw [wr_ne z3, hR3 _ _ (by omega), wr_a z2]
      have r19 : ∀ i, wr R3 B 6 ((B + 52 : Nat) : Int) (B + 19) i = wr R2 (B + 19) 0 ((B + 29 : Nat) : Int) (B + 19) i := fun i => by rw [wr_a (by omega), hR3 _ _ (by omega)]
      refine ⟨e2, hG3 _ _ (hG _ _ (ly7_o l)), rfl, lG3, gX2_t hx (gX2_t hG hG3), ?_, _, th3, c2.mk (c1_m c (gX2_t hG hG3) (fun c' i z1 => ?_) (fun c' z1 => ?_)) (gT2_m gt hG3 (fun c' i z1 z2 => rr c' i (by omega) (by omega) (by omega)) (fun c' z1 z2 => nT_o (by omega)) (nT_o (by omega)) (nT_o (by omega))) (bT_m bt gX2_refl (fun i _ => wr_a (by omega)) (fun _ _ _ => rfl)) (wr_same _ _ _ _) (by rw [wr_a (by omega)]; exact rA) (by rw [r19, wr_same]) (fun i hi => by rw [r19, wr_i hi, hR _ _ (by omega)]; exact n19 i) (lkT_m lk (fun c _ _ => nT_o (by omega)) (rr _ _ (by omega) (by omega) (by omega)) (rr _ _ (by omega) (by omega) (by omega)) (fun p' q => nT_o (by have := gt.t.rp; have := gt.h.ro; omega))) (by rw [nT_0]; exact fun v y => y rfl)⟩
      · have a1 := lgsz1
        have a2 := lgsz2
        have a3 := l1sz1
        have a4 := l1sz2
        rw [eG3, eG]
        simp only [szG_app] at *
        omega
      · by_cases w1 : c' = B + 19
        · exact Or.inr (Or.inl w1)
        · by_cases w2 : c' = B ∧ i = 6
          · exact Or.inr (Or.inr w2)
          · exact Or.inl (by rw [rr c' i (by omega) w1 w2, hR _ _ (by omega)])
      · rw [nT_o (by omega), nT_o (by omega), nT_o (by omega)]
  · have hO2 : (G1 ++ [gO 5])[G1.length]? = some (gO 5) := by rw [List.getElem?_append_right (Nat.le_refl _), Nat.sub_self]; rfl
    refine cw_mono (by omega) (sheetInit_k hO2 (by rw [List.length_append]; rfl) th) (fun r G2 R2 V2 h => ?_)
    obtain ⟨e1, eG, hR, th1, ls⟩ := h
    have hG : gX2 G1 G2 := by rw [eG]; exact gX2_t gX2_app gX2_app
    have lG2 : G2.length = B + 21 + 2 * (s + 1) := by rw [eG, List.length_append, List.length_append, hl]; show _ + 1 + 1 = _; omega
    refine ⟨e1, 4, hG _ _ (ly7_0 l).2, by omega, ls.1, by omega, ih _ _ _ _ ⟨s + 1, by omega, by omega, lG2, gX2_t hx hG, ?_, fun i => ?_, _, th1, ?_⟩ (by omega)⟩
    · have a1 := szs5
      rw [eG]
      simp only [szG_app] at *
      omega
    · rw [wr_a (by omega), hR _ _ (by omega)]; exact n19 i
    · have f := fT_m (T' := nT T G1.length 1 P5) (R' := wr R2 (B + 1) (s : Int) (G1.length : Int)) c.fi hG (fun i => by rw [wr_a (by omega), hR _ _ (by omega)]) (fun c z1 z2 => nT_o (by omega))
      have k := kT_m (T' := nT T G1.length 1 P5) (R' := wr R2 (B + 1) (s : Int) (G1.length : Int)) c.mk' hG (fun i => by rw [wr_a (by omega), hR _ _ (by omega)]) (fun c z1 z2 => nT_o (by omega))
      have r0 : ∀ i, wr R2 (B + 1) (s : Int) (G1.length : Int) B i = R1 B i := fun i => by rw [wr_a (by omega), hR _ _ (by omega)]
      refine c1.mk (lay7_m l hG ⟨r0 _, r0 _, r0 _, r0 _, r0 _, r0 _⟩ f.ly k.ly) f k (by rw [nT_o (by omega)]; exact c.sc) (by rw [nT_o (by omega)]; exact c.re) (fun j hj => ?_) (fun i => by rw [wr_a (by omega), hR _ _ (by omega)]; exact c.n5 i)
      by_cases q : j = s
      · subst q
        have eA : B + 21 + 2 * j = G1.length := by omega
        rw [eA]
        refine ⟨wr_same _ _ _ _, lay5_m ls gX2_refl (wr_a (by omega)), ?_, ?_, ?_⟩
        · rw [nT_0]; intro v; exact ⟨fun z => z.1 rfl, fun z => ⟨fun _ => z, fun y => absurd y (by omega)⟩⟩
        · rw [nT_0]; intro v; exact ⟨fun z => z.2 rfl, fun z => ⟨fun y => absurd y (by omega), fun _ => z⟩⟩
        · rw [nT_in 1 (by omega)]; intro i v; exact Iff.rfl
      · obtain ⟨q1, q2, q3, q4, q5⟩ := c.sh j (by omega)
        refine ⟨by rw [wr_i (by omega), hR _ _ (by omega)]; exact q1, lay5_m q2 hG (by rw [wr_a (by omega), hR _ _ (by omega)]), ?_, ?_, ?_⟩
        · rw [nT_o (by omega)]; exact q3
        · rw [nT_o (by omega)]; exact q4
        · rw [nT_o (by omega)]; exact q5
end
