/-! rows and checks between calls -/
section
variable {G : List gS} {R V V' : gV} {T T' : gT} {ow : Nat → Nat} {us : Nat → Prop} {w : Nat → Nat} {W : gV} {L : Int → Int} {I : Int → gD} {B M S N g b k p n o m : Nat} {C D E : Int} {dd : gD}
theorem cI_cTg (c : cI G R V B M S T ow us w W L I) (hT : ∀ c', c' ≠ B + 52 → c' ≠ B + 52 + 2 → c' ≠ B → T' c' = T c') (bt : bT G R T' (B + 52)) (re : ∀ v, T' B 7 v) : ∃ g p n C D o m E, cT G R T' B (B + 52) g p n C D o m E ∧ lkT T' R g (I 3) := by
  have be := c.be
  obtain ⟨q1, g, i, q2, q3, q4, q5⟩ := be
  obtain ⟨j, ej, hj⟩ := nat_i (n := 5) q2
  rw [ej] at q4
  obtain ⟨-, gu⟩ := cI_g c hj q4
  have n1 : g ≠ B + 52 := ob (gU_o gu).1 (ly1_o q1.1.ly) (by omega)
  have n2 : g ≠ B := ob (gU_o gu).1 (ly7_o c.c.ly) (by omega)
  obtain ⟨p, n, C, D, o, m, E, a, bD, cc, d, e, f⟩ := gu
  have oB := c.c.bo B (by omega) (by omega)
  have o1 := q1.2 (B + 52) (by omega) (by omega)
  have o2 := q1.2 (B + 52 + 2) (by omega) (by omega)
  have nT : ∀ c', ow c' = g → T' c' = T c' := fun c' y => hT c' (fun z => by rw [z] at y; omega) (fun z => by rw [z] at y; omega) (fun z => by rw [z] at y; omega)
  have g2 := gT2_m (T' := T') a.u gX2_refl (fun _ _ _ _ => rfl) (fun c' z1 z2 => nT c' (cc c' z1 z2)) (nT p d) (nT o e)
  have lk : lkT T' R g (I 3) := lkT_m q5.2 (fun c' w1 w2 => nT _ (cc _ (by omega) (by omega))) rfl rfl (fun p' q => by
    have r1 := a.u.t.rp
    have r2 := a.u.h.ro
    rcases q with q | q
    · have ep : p' = p := by omega
      rw [ep]; exact nT p d
    · have ep : p' = o := by omega
      rw [ep]; exact nT o e)
  exact ⟨g, p, n, C, D, o, m, E, cT.mk c.c.ly c.c.rb (bG.mk bt q3 g2 (bD q5.1)) (kT_m c.c.mk' gX2_refl (fun _ => rfl) (fun c' z1 z2 => hT c' (by omega) (by omega) (by omega))) re, lk⟩
def rwI (I : Int → gD) (x : Int) : Int → gD := fun j => if 0 ≤ rwA (I 3 0 3) (I 23 0 0) x ∧ j = 23 then (fun a i => if a = 0 then I 23 0 0 + 1 else if i = I 23 0 0 then x else I 23 a i) else I j
theorem row_K (h : CI G R V B M S N W L I) (hl : I 23 0 0 ≤ I 3 0 3) {x : Int} (hx : i64 x) : cw 8 (fun r G' R' V' => r = some (0, rwA (I 3 0 3) (I 23 0 0) x) ∧ CI G' R' V' B M S N W L (rwI I x)) 130 [(4, (B : Int)), (2, x)] G R V := by
  obtain ⟨T, ow, us, w, c, hN⟩ := h
  have v3 : V (B + 52) 3 = I 23 0 0 := c.kr.1 _ (c.th _ _)
  have rl := (c.be.1.1.rl _).mp (c.th (B + 52) 3)
  by_cases no : ¬ (-1000000000000 ≤ x ∧ x ≤ 1000000000000) ∨ I 23 0 0 = I 3 0 3
  · obtain ⟨g, p, n, C, D, o, m, E, u, lk⟩ := cI_cTl c
    have e3 : V (g + 10) 1 = I 3 0 3 := lk_3 lk c.th
    refine cw_mono (Nat.le_refl _) (row_R u c.th hx (by rw [v3, e3]; exact no)) (fun r G' R' V' q => ?_)
    obtain ⟨e1, e2, v, q1, q2, q3⟩ := q
    rw [v3, e3] at q2
    have eI : rwI I x = I := by
      funext j
      unfold rwI
      refine if_neg (fun y => ?_)
      have := y.1
      unfold rwA at this
      rcases no with z | z
      · rw [if_pos z] at this; omega
      · by_cases z2 : ¬ (-1000000000000 ≤ x ∧ x ≤ 1000000000000)
        · rw [if_pos z2] at this; omega
        · rw [if_neg z2, if_pos z] at this; omega
    rw [e1, e2, q1, q2, eI]
    exact ⟨rfl, T, ow, us, w, cI_v c q3, hN⟩
  · have ok : -1000000000000 ≤ x ∧ x ≤ 1000000000000 := by omega
    have ne : ¬ I 23 0 0 = I 3 0 3 := fun z => no (Or.inr z)
    have eA : rwA (I 3 0 3) (I 23 0 0) x = I 23 0 0 + 1 := by unfold rwA; rw [if_neg (fun q => q ok), if_neg ne]
    have lB := cC_lt c.c
    obtain ⟨g, p, n, C, D, o, m, E, u, lk⟩ := cI_cTg (T' := rlB T (B + 52)) c (fun c' z1 z2 _ => rlB_n z1 z2) (rlB_bT c.be.1.1) (fun v => by rw [rlB_n (by omega) (by omega)]; exact c.c.re v)
    have thr := rlB_th c.be.1.1 c.th
    have e3 : V (g + 10) 1 = I 3 0 3 := lk_3 lk thr
    refine cw_mono (Nat.le_refl _) (row_A u rlB_bW thr hx ok (by rw [v3, e3]; omega)) (fun r G' R' V' q => ?_)
    obtain ⟨e1, e2, q1, th1, f3, f2⟩ := q
    rw [v3] at q1 f3 f2
    have cl := u.u.g.h.a.cl _ (thr (g + 10) 1)
    rw [e1, e2, q1, eA]
    have eN : rwI I x 23 = (fun a i => if a = 0 then I 23 0 0 + 1 else if i = I 23 0 0 then x else I 23 a i) := if_pos ⟨by rw [eA]; omega, rfl⟩
    have eO : ∀ j, j ≠ 23 → rwI I x j = I j := fun j hj => if_neg (fun q => hj q.2)
    refine ⟨rfl, pnB T (B + 52) (rwI I x 23), ow, us, w, ?_, hN⟩
    refine cI_rows (I' := rwI I x) (e := rwI I x 23) c (Or.inl rfl) ?_ th1 ?_ (fun i i0 i1 => ?_) (fun j hj => eO j (by omega)) (fun _ => rfl) (fun y => absurd rfl y) (fun k' hk' y => absurd rfl (c.iy k' _ hk' y)) (fun k' hk' _ => eO _ (by omega))
    · rw [eN]
      (try dsimp only)
      rw [if_pos rfl]; omega
    · rw [f3, eN]
      (try dsimp only)
      rw [if_pos rfl]
    · rw [eN] at i1 ⊢
      (try dsimp only at i1)
      (try dsimp only)
      rw [if_pos rfl] at i1
      rw [f2 i, if_neg (show ¬ (1 : Int) = 0 by omega)]
      by_cases y : i = I 23 0 0
      · rw [if_pos y, if_pos y]
      · rw [if_neg y, if_neg y]
        exact c.kr.2 i _ i0 (by omega) (c.th _ _)
def miL (L : Int → Int) (f : Int) : Int → Int := fun j => if j = 200 then f else L j
theorem check_K (h : CI G R V B M S N W L I) (tp : ∀ c, 0 ≤ c → c < I 3 0 3 → 1 ≤ tbD (I 3) c c) {a : Int} (ha : i32 a) : cw 8 (fun r G' R' V' => ∃ v f : Int, r = some (0, v) ∧ ((I 23 0 0 ≠ I 3 0 3 ∧ v = -1 ∧ CI G' R' V' B M S N W L I) ∨ (I 23 0 0 = I 3 0 3 ∧ ckP (I 3 0 3) (tbD (I 3)) (fun i => I 23 1 i) v f ∧ CI G' R' V' B M S N W (miL L f) (rwI0 I)))) 131 [(4, (B : Int)), (0, a)] G R V := by
  obtain ⟨T, ow, us, w, c, hN⟩ := h
  have v3 : V (B + 52) 3 = I 23 0 0 := c.kr.1 _ (c.th _ _)
  have lB := cC_lt c.c
  by_cases no : I 23 0 0 = I 3 0 3
  · obtain ⟨T1, eT⟩ : ∃ T1 : gT, T1 = miT (rlB T (B + 52)) B := ⟨_, rfl⟩
    have m0 : miT (rlB T (B + 52)) B (B + 52) = rlB T (B + 52) (B + 52) := miT_n (by omega)
    have bt : bT G R T1 (B + 52) := by rw [eT]; exact bT_m (rlB_bT c.be.1.1) gX2_refl (fun _ _ => rfl) (fun c' z1 z2 => miT_n (by omega))
    have bw : bW T1 (B + 52) := by
      rw [eT]
      refine ⟨fun v v0 v1 => ?_, fun i v => ?_⟩
      · rw [m0]; exact rlB_bW.1 v v0 v1
      · rw [miT_n (by omega)]; exact rlB_bW.2 i v
    have thr : TH T1 V := by rw [eT]; exact miT_th (rlB_th c.be.1.1 c.th)
    obtain ⟨g, p, n, C, D, o, m, E, u, lk⟩ := cI_cTg (T' := T1) c (fun c' z1 z2 z3 => by rw [eT, miT_n z3]; exact rlB_n z1 z2) bt (fun v => by rw [eT, miT_i (by omega), rlB_n (by omega) (by omega)]; exact c.c.re v)
    have e3 : V (g + 10) 1 = I 3 0 3 := lk_3 lk thr
    refine cw_mono (Nat.le_refl _) (check_A u bw (fun v => by rw [eT]; exact miT_8) lk thr ha (by rw [v3, e3]; exact no) tp) (fun r G' R' V' q => ?_)
    obtain ⟨e1, e2, v, f, q1, ck, th1, f3, f8⟩ := q
    refine ⟨v, f, q1, Or.inr ⟨no, ckP_c (fun _ _ _ _ _ _ => rfl) (fun d d0 d1 => ?_) ck, ?_⟩⟩
    · exact c.kr.2 d _ d0 (by omega) (c.th _ _)
    · rw [e1, e2]
      -- the row first, with what was checked last as it was
      have r00 : rw0 (I 23) 0 0 = 0 := if_pos rfl
      obtain ⟨V2, eV⟩ : ∃ V2 : gV, V2 = wr V' B 8 (V B 8) := ⟨_, rfl⟩
      have th2 : TH (rlB T (B + 52)) V2 := by
        intro c' i
        rw [eV]
        by_cases y : c' = B ∧ i = 8
        · rw [y.1, y.2, wr_same]; exact rlB_th c.be.1.1 c.th B 8
        · rw [wr_ne y]
          have t := th1 c' i
          rw [eT] at t
          unfold miT at t
          rw [if_neg y] at t
          exact t
      have c1 := cI_rows (I' := rwI0 I) (e := rw0 (I 23)) c (Or.inl rfl) (by rw [r00]; omega) th2 (by rw [r00, eV, wr_a (by omega)]; exact f3) (fun i i0 i1 => by rw [r00] at i1; omega) (fun j hj => by unfold rwI0; rw [if_neg (by omega)]) (fun _ => if_pos rfl) (fun y => absurd rfl y) (fun k' hk' y => absurd rfl (c.iy k' _ hk' y)) (fun k' hk' _ => by unfold rwI0; rw [if_neg (by omega)])
      have th3 : TH (miT (pnB T (B + 52) (rw0 (I 23))) B) V' := by
        intro c' i
        unfold miT
        by_cases y : c' = B ∧ i = 8
        · rw [if_pos y]; trivial
        · rw [if_neg y]
          have t := c1.th c' i
          rw [eV, wr_ne y] at t
          exact t
      obtain ⟨T4, c4⟩ := cI_mis (L' := miL L f) c1 th3 (by rw [f8]; exact (if_pos rfl).symm) (fun j hj => by unfold miL; rw [if_neg (by omega)])
      exact ⟨T4, ow, us, w, c4, hN⟩
  · obtain ⟨g, p, n, C, D, o, m, E, u, lk⟩ := cI_cTl c
    have e3 : V (g + 10) 1 = I 3 0 3 := lk_3 lk c.th
    refine cw_mono (Nat.le_refl _) (check_R u c.th (by rw [v3, e3]; exact no)) (fun r G' R' V' q => ?_)
    obtain ⟨e1, e2, v, q1, q2, q3⟩ := q
    rw [e1, e2]
    exact ⟨v, 0, q1, Or.inl ⟨no, q2, T, ow, us, w, cI_v c q3, hN⟩⟩
theorem misfit_K (h : CI G R V B M S N W L I) : cw 8 (fun r G' R' V' => r = some (0, L 200) ∧ CI G' R' V' B M S N W L I) 132 [(4, (B : Int))] G R V := by
  obtain ⟨T, ow, us, w, c, hN⟩ := h
  have e : V B 8 = L 200 := (c.c.mi _).mp (c.th B 8)
  have q : cpI 1 (V B 8) 132 [(4, (B : Int))] G R V := c_X7_misfit (t_X7_misfit_0 c.c.ly (fun _ => ⟨rfl, rfl⟩))
  refine cw_mono (by omega) q (fun r G' R' V' y => ?_)
  obtain ⟨e1, e2, y1, y2⟩ := y
  rw [e1, e2, y1, y2, e]
  exact ⟨rfl, T, ow, us, w, c, hN⟩
end
/-! the reference's -/
section
variable {G : List gS} {R V : gV} {M : Nat}
theorem mrow_C (ly : lay8 G R M) (hM : MI V M) {x : Int} (h1 : i64 x) : cwv 2 (fun r V' => ∃ v, r = some (0, v) ∧ (v = rwA (V M 13) (V M 35) x ∧ mP V V' M ∧ mK V V' M ∧ ∀ a i, rwC M a i → V' a i = if 0 ≤ rwA (V M 13) (V M 35) x ∧ a = M ∧ i = 35 then V M 35 + 1 else if 0 ≤ rwA (V M 13) (V M 35) x ∧ a = M + 27 ∧ i = V M 35 then x else V a i)) 232 [(4, (M : Int)), (2, x)] G R V := by
  have n := MI_N hM
  have rs := hM.2.2.1
  have keep : ∀ V', ¬ 0 ≤ rwA (V M 13) (V M 35) x → qF V V' M → ∀ a i, rwC M a i → V' a i = if 0 ≤ rwA (V M 13) (V M 35) x ∧ a = M ∧ i = 35 then V M 35 + 1 else if 0 ≤ rwA (V M 13) (V M 35) x ∧ a = M + 27 ∧ i = V M 35 then x else V a i := fun V' z q a i y => by
    rw [if_neg (fun w => z w.1), if_neg (fun w => z w.1)]
    exact mR_q q a i y
  refine c_X8_row (t_X8_row_0 ly (cpI_u (by omega) (in_c h1 ⟨by omega, by omega⟩ ⟨by omega, by omega⟩) ⟨bi32 _, fun z => fun _ _ => ⟨fun z2 => ⟨by omega, h1, by omega, cwI_u (by omega) (ends_c ly ⟨by omega, by omega⟩) (fun u V' h => ⟨_, rfl, ?_⟩)⟩, fun z2 => ends_q ly ⟨by omega, by omega⟩ (by omega) (fun V' q => ⟨_, rfl, ?_⟩)⟩, fun z => ends_q ly ⟨by omega, by omega⟩ (by omega) (fun V' q => ⟨_, rfl, ?_⟩)⟩))
  · have ok := bi_n0 z
    have eA : rwA (V M 13) (V M 35) x = V M 35 + 1 := by unfold rwA; rw [if_neg (fun q => q ok), if_neg z2]
    have e : ∀ a i, ¬ (a = M + 27 ∧ i = V M 35) → ¬ (a = M ∧ (i = 0 ∨ i = 35)) → V' a i = V a i := fun a i q1 q2 => by rw [h.2 a i (by omega), wr_ne (by omega), wr_ne q1]
    refine ⟨by rw [h.1, eA], mP_w hM (GC_q (fun a i q => e a i (by omega) (by omega)) hM.2.1) ?_ (fun a i q1 q2 => e a i (by omega) (by omega)), ⟨e _ _ (by omega) (by omega), e _ _ (by omega) (by omega), fun i => e _ _ (by omega) (by omega), fun a i a0 a1 => e a i (by omega) (by omega)⟩, fun a i y => ?_⟩
    · rw [h.2 _ _ (by omega), wr_same, e M 13 (by omega) (by omega)]
      omega
    · rw [eA]
      by_cases y1 : a = M ∧ i = 35
      · rw [if_pos ⟨by omega, y1⟩, y1.1, y1.2, h.2 _ _ (by omega), wr_same]
      · rw [if_neg (fun q => y1 q.2)]
        by_cases y2 : a = M + 27 ∧ i = V M 35
        · rw [if_pos ⟨by omega, y2⟩, y2.1, y2.2, h.2 _ _ (by omega), wr_a (by omega), wr_same]
        · rw [if_neg (fun q => y2 q.2)]
          exact e a i y2 (by omega)
  · have ok := bi_n0 z
    have eA : rwA (V M 13) (V M 35) x = -5 := by unfold rwA; rw [if_neg (fun q => q ok), if_pos z2]
    exact ⟨eA.symm, mP_q hM q, mK_q q, keep V' (by omega) q⟩
  · have eA : rwA (V M 13) (V M 35) x = -1 := by unfold rwA; rw [if_pos (bi_0.mp z)]
    exact ⟨eA.symm, mP_q hM q, mK_q q, keep V' (by omega) q⟩
abbrev mtb (V : gV) (M : Nat) : Int → Int → Int := fun c d => V (M + 18) (300 * c + d)
theorem solves_x (ly : lay8 G R M) (hM : MI V M) : cwv 1 (fun r V' => ∃ v, r = some (0, v) ∧ (qF V V' M ∧ ckP (V M 13) (mtb V M) (fun i => V (M + 23) i) v (V' M 32))) 213 [(4, (M : Int))] G R V := by
  have n := MI_N hM
  refine c_X8_solves (t_X8_solves_0 ly (fun _ => ⟨by omega, ?_⟩))
  refine loop2 (f := fun x y => [some (4, (M : Int)), some (0, x), some (0, y)]) (fun x y V' => (-1 ≤ y ∧ y < V M 13) ∧ qF V V' M ∧ (∀ i, V' (M + 23) i = V (M + 23) i) ∧ slP (V M 13) (mtb V M) (fun i => V (M + 23) i) (fun c => V' (M + 24) c) (y + 1) ∧ ((x = 2 ∧ V' M 32 = -1 ∧ ∀ d, y < d → d < V M 13 → 0 ≤ V' (M + 24) d) ∨ (x = 1 ∧ (y < V' M 32 ∧ V' M 32 < V M 13) ∧ V' (M + 24) (V' M 32) < 0 ∧ ∀ d, V' M 32 < d → d < V M 13 → 0 ≤ V' (M + 24) d))) (fun _ y _ => (y + 1).toNat) (fun x y V' hx ih => ?_) 2 _ _ ⟨by omega, qF_wr qF_refl (by omega) (by omega) (by omega) (by omega), fun i => wr_a (by omega), fun d d0 d1 => by omega, Or.inl ⟨rfl, wr_same _ _ _ _, fun d d0 d1 => by omega⟩⟩
  obtain ⟨y0, q, e23, sl, st⟩ := hx
  have e13 : V' M 13 = V M 13 := q.1 _ _ (by omega)
  have x12 : x = 1 ∨ x = 2 := by rcases st with s | s; exact Or.inr s.1; exact Or.inl s.1
  have et : ∀ i, V' (M + 18) i = V (M + 18) i := fun i => q.1 _ _ (by omega)
  refine t_X8_solves_14 ly ⟨by omega, fun z => ⟨x, rfl, q, ?_⟩, fun c => ⟨by omega, fun i6 => ⟨by omega, ?_⟩⟩⟩
  · have s0 : slP (V M 13) (mtb V M) (fun i => V (M + 23) i) (fun c => V' (M + 24) c) 0 := by have e0 : y + 1 = 0 := (by omega); rw [e0] at sl; exact sl
    rcases st with s | s
    · exact Or.inr (Or.inr ⟨s.1, s.2.1, _, s0, fun d d0 d1 => s.2.2 d (by omega) d1⟩)
    · exact Or.inr (Or.inl ⟨s.1, by omega, _, s0, s.2.2.1, s.2.2.2⟩)
  have em : V' (M + 23) y = (fun i => V (M + 23) i) y := e23 y
  rw [em] at i6 ⊢
  refine pool2 (f := fun l z => [some (4, (M : Int)), some (0, x), some (0, y), some (2, l), none, some (0, z)]) (fun l z => (y + 1 ≤ z ∧ z ≤ V M 13) ∧ l = jw ((fun i => V (M + 23) i) y - sm (fun c => if y < c then (fun c => V' (M + 24) c) c * mtb V M c y else 0) z.toNat)) (fun _ z => (V M 13 - z).toNat) (fun l z hz ih2 => ?_) _ (y + 1) ⟨by omega, lf_0 (by omega) i6⟩
  obtain ⟨z0, el0⟩ := hz
  have tb := MI_tb hM (c := y) (e := y) (by omega) (by omega)
  have t1 := tb.2.2 rfl
  refine t_X8_solves_30 ly (fun _ => ⟨by omega, fun zz => ?_, fun c2 => ⟨by omega, fun _ => ⟨by omega, by omega, by omega, fun _ => ⟨by omega, ih2 _ _ ⟨by omega, ?_⟩ (by omega)⟩⟩⟩⟩)
  · have el := lf_e (made := fun c => V' (M + 24) c) (tb := mtb V M) (m := fun i => V (M + 23) i) (d := y) (K := V M 13) (by omega) el0
    rw [et]
    -- one more class
    have nx : ∀ (b : Int) (W : gV), (∀ i, W (M + 24) i = if i = y then jdiv l (V (M + 18) (300 * y + y)) else V' (M + 24) i) → jrem l (V (M + 18) (300 * y + y)) = 0 → slP (V M 13) (mtb V M) (fun i => V (M + 23) i) (fun c => W (M + 24) c) (y - 1 + 1) := fun b W hW r0 => by
      rw [show y - 1 + 1 = y by omega]
      refine sl_s (made := fun c => V' (M + 24) c) (by omega) sl (by rw [← el]; exact r0) (fun c c0 c1 => ?_) ?_
      · (try dsimp only)
        rw [hW, if_neg (by omega)]
      · (try dsimp only)
        rw [hW, if_pos rfl, ← el]
    refine ⟨by omega, by omega, by omega, fun _ => ⟨by omega, fun r0 => ⟨by omega, by omega, fun p0 => ⟨by omega, ih x (y - 1) _ ⟨by omega, qF_wr q (by omega) (by omega) (by omega) (by omega), fun i => by rw [wr_a (by omega)]; exact e23 i, nx 0 _ (fun i => ?_) r0, ?_⟩ (by omega)⟩, fun p0 => ⟨by omega, fun x2 => ⟨by omega, ih x (y - 1) _ ⟨by omega, qF_wr q (by omega) (by omega) (by omega) (by omega), fun i => by rw [wr_a (by omega)]; exact e23 i, nx 0 _ (fun i => ?_) r0, ?_⟩ (by omega)⟩, fun x2 => ⟨by omega, by omega, ih 1 (y - 1) _ ⟨by omega, qF_wr (qF_wr q (by omega) (by omega) (by omega) (by omega)) (by omega) (by omega) (by omega) (by omega), fun i => by rw [wr_a (by omega), wr_a (by omega)]; exact e23 i, nx 0 _ (fun i => ?_) r0, ?_⟩ (by omega)⟩⟩⟩, fun r0 => ⟨by omega, 0, rfl, qF_wr q (by omega) (by omega) (by omega) (by omega), Or.inl ⟨rfl, ?_, fun c => V' (M + 24) c, ?_, ?_⟩⟩⟩⟩
    · by_cases w : i = y
      · rw [w, wr_same, if_pos rfl]
      · rw [wr_i w, if_neg w]
    · rcases st with s | s
      · refine Or.inl ⟨s.1, by rw [wr_a (by omega)]; exact s.2.1, fun d d0 d1 => ?_⟩
        by_cases w : d = y
        · rw [w, wr_same]; omega
        · rw [wr_i w]; exact s.2.2 d (by omega) d1
      · have e32 : wr V' (M + 24) y (jdiv l (V (M + 18) (300 * y + y))) M 32 = V' M 32 := wr_a (by omega)
        rw [e32]
        refine Or.inr ⟨s.1, by omega, by rw [wr_i (by omega)]; exact s.2.2.1, fun d d0 d1 => by rw [wr_i (by omega)]; exact s.2.2.2 d d0 d1⟩
    · by_cases w : i = y
      · rw [w, wr_same, if_pos rfl]
      · rw [wr_i w, if_neg w]
    · rcases st with s | s
      · exact absurd s.1 x2
      · have e32 : wr V' (M + 24) y (jdiv l (V (M + 18) (300 * y + y))) M 32 = V' M 32 := wr_a (by omega)
        rw [e32]
        refine Or.inr ⟨s.1, by omega, by rw [wr_i (by omega)]; exact s.2.2.1, fun d d0 d1 => by rw [wr_i (by omega)]; exact s.2.2.2 d d0 d1⟩
    · rw [wr_a (by omega)]
      by_cases w : i = y
      · rw [w, wr_same, if_pos rfl]
      · rw [wr_i w, if_neg w]
    · rw [wr_same]
      rcases st with s | s
      · refine Or.inr ⟨rfl, by omega, by rw [wr_a (by omega), wr_same]; exact p0, fun d d0 d1 => by rw [wr_a (by omega), wr_i (by omega)]; exact s.2.2 d d0 d1⟩
      · omega
    · rw [wr_same]; omega
    · rw [wr_same]; exact sl
    · rw [wr_same, ← el]; exact r0
  · rw [et]
    exact lf_s (made := fun c => V' (M + 24) c) (tb := mtb V M) (m := fun i => V (M + 23) i) (d := y) (by omega) (by omega) el0
theorem mcheck_C (ly : lay8 G R M) (hM : MI V M) {a : Int} (h1 : i32 a) : cwv 3 (fun r V' => ∃ v, r = some (0, v) ∧ ∃ f, ((V M 35 ≠ V M 13 ∧ v = -1 ∧ mQ V V' M) ∨ (V M 35 = V M 13 ∧ ckP (V M 13) (mtb V M) (fun i => V (M + 27) i) v f ∧ mP V V' M ∧ mK V V' M ∧ ∀ a i, rwC M a i → V' a i = if a = M ∧ i = 35 then 0 else if a = M ∧ i = 37 then f else V a i))) 233 [(4, (M : Int)), (0, a)] G R V := by
  have n := MI_N hM
  refine c_X8_check (t_X8_check_0 ly (fun _ _ => ⟨fun z => ?_, fun z => ends_q ly ⟨by omega, by omega⟩ (by omega) (fun V' q => ⟨_, rfl, 0, Or.inl ⟨z, rfl, mQ_q hM q⟩⟩)⟩))
  refine loop1 (f := fun x => [some (4, (M : Int)), some (0, a), some (0, x)]) (fun x V' => 0 ≤ x ∧ x ≤ V M 13 ∧ qF V V' M ∧ ∀ i, 0 ≤ i → i < x → V' (M + 23) i = V (M + 27) i) (fun x _ => (V M 13 - x).toNat) (fun x V' hx ih => ?_) 0 V ⟨by omega, by omega, qF_refl, fun i i0 i1 => by omega⟩
  obtain ⟨x0, x1, q, cp⟩ := hx
  have e13 : V' M 13 = V M 13 := q.1 _ _ (by omega)
  refine t_X8_check_19 ly (fun _ => ⟨by omega, fun c => ?_, fun c => ⟨by omega, fun _ => ⟨by omega, ih (x + 1) _ ⟨by omega, by omega, qF_wr q (by omega) (by omega) (by omega) (by omega), fun i i0 i1 => ?_⟩ (by omega)⟩⟩⟩)
  rotate_left
  · by_cases y : i = x
    · rw [y, wr_same]; exact q.2.2.2 _ _ (by omega) (by omega)
    · rw [wr_i y]; exact cp i i0 (by omega)
  -- the row is empty now
  have m : MI (wr V' M 35 0) M := by
    have e : ∀ a i, ¬ (a = M ∧ i = 35) → wr V' M 35 0 a i = V' a i := fun a i q => wr_ne q
    have m' := MI_q q hM
    exact ⟨fun s s0 s1 => by rw [e _ _ (by omega)]; exact m'.1 s s0 s1, GC_q (fun a i q => e a i (by omega)) m'.2.1, by rw [wr_same, e _ _ (by omega)]; omega, kpI_congr (fun a i a0 a1 => e a i (by omega)) m'.2.2.2⟩
  have e0 : ∀ a i, ¬ (a = M ∧ i = 35) → wr V' M 35 0 a i = V' a i := fun a i y => wr_ne y
  -- from cells where what was checked last is put back
  have out : ∀ (W W2 : gV) (f : Int), qF (wr V' M 35 0) W2 M → (∀ a i, ¬ (a = M ∧ i = 37) → W2 a i = W a i) → W M 37 = f → (mP V W M ∧ mK V W M ∧ ∀ a i, rwC M a i → W a i = if a = M ∧ i = 35 then 0 else if a = M ∧ i = 37 then f else V a i) := fun W W2 f qw ew e37 => by
    have m2 := MI_q qw m
    have qe : ∀ a i, ¬ (a = M ∧ i = 37) → W a i = W2 a i := fun a i y => (ew a i y).symm
    have mw : MI W M := ⟨fun s s0 s1 => by rw [qe _ _ (by omega)]; exact m2.1 s s0 s1, GC_q (fun a i q => qe a i (by omega)) m2.2.1, by rw [qe _ _ (by omega), qe _ _ (by omega)]; exact m2.2.2.1, kpI_congr (fun a i a0 a1 => qe a i (by omega)) m2.2.2.2⟩
    have k1 := mK_q qw
    have k2 := mK_q q
    refine ⟨⟨mw, fun a i w => ?_, fun a i a0 a1 => ?_, fun i => ?_⟩, ⟨?_, ?_, fun i => ?_, fun a i a0 a1 => ?_⟩, fun a i y => ?_⟩
    · rw [qe a i (by omega), qw.1 a i (by omega), wr_ne (by omega)]; exact q.1 a i (by omega)
    · rw [qe a i (by omega), qw.2.1 a i a0 a1, wr_ne (by omega)]; exact q.2.1 a i a0 a1
    · rw [qe _ _ (by omega), qw.2.2.2 _ _ (by omega) (by omega), wr_ne (by omega)]; exact q.2.2.2 _ _ (by omega) (by omega)
    · rw [qe _ _ (by omega), k1.1, e0 _ _ (by omega)]; exact k2.1
    · rw [qe _ _ (by omega), k1.2.1, e0 _ _ (by omega)]; exact k2.2.1
    · rw [qe _ _ (by omega), k1.2.2.1, e0 _ _ (by omega)]; exact k2.2.2.1 i
    · rw [qe _ _ (by omega), k1.2.2.2 a i a0 a1, e0 _ _ (by omega)]; exact k2.2.2.2 a i a0 a1
    · by_cases y1 : a = M ∧ i = 35
      · rw [if_pos y1, y1.1, y1.2, qe _ _ (by omega), mR_q qw _ _ (Or.inl ⟨rfl, Or.inl rfl⟩), wr_same]
      · rw [if_neg y1]
        by_cases y2 : a = M ∧ i = 37
        · rw [if_pos y2, y2.1, y2.2]; exact e37
        · rw [if_neg y2, qe a i y2, mR_q qw a i y, e0 a i y1]
          exact mR_q q a i y
  have e27 : ∀ i, 0 ≤ i → i < V M 13 → wr V' M 35 0 (M + 23) i = V (M + 27) i := fun i i0 i1 => by rw [e0 _ _ (by omega)]; exact cp i i0 (by omega)
  refine cwI_u (by omega) (solves_x ly m) (fun v V4 hv => fun _ => ?_)
  obtain ⟨q4, ck0⟩ := hv
  have w13 : wr V' M 35 0 M 13 = V M 13 := by rw [wr_ne (by omega)]; exact e13
  have ck : ckP (V M 13) (mtb V M) (fun i => V (M + 27) i) v (V4 M 32) := by
    rw [w13] at ck0
    refine ckP_c (fun c d c0 c1 d0 d1 => ?_) (fun d d0 d1 => e27 d d0 d1) ck0
    show wr V' M 35 0 (M + 18) _ = V (M + 18) _
    rw [e0 _ _ (by omega)]; exact q.1 _ _ (by omega)
  have v02 : 0 ≤ v ∧ v ≤ 2 := by rcases ck with y | y | y <;> omega
  have p37 : ∀ a i, ¬ (a = M ∧ i = 37) → V4 a i = wr V4 M 37 (V4 M 32) a i := fun a i y => (wr_ne y).symm
  -- an end at cells W2 with 37 changed
  have fin : ∀ (W W2 : gV), qF (wr V' M 35 0) W2 M → (∀ a i, ¬ (a = M ∧ i = 37) → W2 a i = W a i) → W M 37 = V4 M 32 → cwv 2 (fun r V' => ∃ u, r = some (0, u) ∧ ∃ v', some ((0 : Nat), u) = some (0, v') ∧ ∃ f, ((V M 35 ≠ V M 13 ∧ v' = -1 ∧ mQ V V' M) ∨ (V M 35 = V M 13 ∧ ckP (V M 13) (mtb V M) (fun i => V (M + 27) i) v' f ∧ mP V V' M ∧ mK V V' M ∧ ∀ a i, rwC M a i → V' a i = if a = M ∧ i = 35 then 0 else if a = M ∧ i = 37 then f else V a i))) 160 [(4, (M : Int)), (0, v)] G R W := fun W W2 qw ew e37 => by
    refine cwI_u (by omega) (ends_c ly ⟨by omega, by omega⟩) (fun u V5 h => ⟨u, rfl, V4 M 32, Or.inr ⟨z, by rw [h.1]; exact ck, ?_⟩⟩)
    obtain ⟨W3, eW3⟩ : ∃ W3 : gV, W3 = wr V5 M 37 (W2 M 37) := ⟨_, rfl⟩
    refine out V5 W3 (V4 M 32) (qF_trans qw ⟨fun a i y => ?_, fun a i a0 a1 => ?_, ?_, fun a i a0 a1 => ?_⟩) (fun a i y => by rw [eW3, wr_ne y]) (by rw [h.2 _ _ (by omega)]; exact e37)
    · rw [eW3, wr_ne (by omega), h.2 a i (by omega), ew a i (by omega)]
    · rw [eW3, wr_ne (by omega), h.2 a i (by omega), ew a i (by omega)]
    · rw [eW3, wr_ne (by omega), h.2 _ _ (by omega), ew _ _ (by omega)]
    · by_cases y : a = M ∧ i = 37
      · rw [eW3, y.1, y.2, wr_same]
      · rw [eW3, wr_ne y, h.2 a i (by omega), ew a i y]
  refine ⟨by omega, fun _ => fin _ V4 q4 p37 (wr_same _ _ _ _), fun _ => cpI_u (by omega) (isNumber_c h1) ⟨bi32 _, fun _ => fin _ V4 q4 p37 (wr_same _ _ _ _), fun z2 => ?_⟩⟩
  have a0 := bi_n0 z2
  refine ⟨by omega, ?_⟩
  refine loop1 (f := fun x => [some (4, (M : Int)), some (0, a), some (0, v), some (0, x)]) (fun x W => 0 ≤ x ∧ x ≤ V M 13 ∧ W M 37 = V4 M 32 ∧ ∃ W2, qF (wr V' M 35 0) W2 M ∧ ∀ a i, ¬ (a = M ∧ i = 37) → W2 a i = W a i) (fun x _ => (V M 13 - x).toNat) (fun x W hx ih2 => ?_) 0 _ ⟨by omega, by omega, by rw [wr_a (by omega), wr_same], wr V4 (M + 21) a 1, qF_wr q4 (by omega) (by omega) (by omega) (by omega), fun b i y => by
    by_cases y2 : b = M + 21 ∧ i = a
    · rw [y2.1, y2.2, wr_same, wr_same]
    · rw [wr_ne y2, wr_ne y2, wr_ne y]⟩
  obtain ⟨y0, y1, e37, W2, qw, ew⟩ := hx
  have w2 : W2 M 13 = V M 13 := by rw [qw.1 _ _ (by omega)]; exact w13
  have ewm : W M 13 = V M 13 := by rw [← ew _ _ (by omega)]; exact w2
  exact t_X8_check_84 ly (fun _ => ⟨by omega, fun _ => fin W W2 qw ew e37, fun _ => ⟨by omega, by omega, by omega, fun _ => ⟨by omega, by omega, ih2 (x + 1) _ ⟨by omega, by omega, by rw [wr_a (by omega)]; exact e37, wr W2 (M + 22) (300 * a + x) (W (M + 24) x), qF_wr qw (by omega) (by omega) (by omega) (by omega), fun b i y => by
    by_cases y2 : b = M + 22 ∧ i = 300 * a + x
    · rw [y2.1, y2.2, wr_same, wr_same]
    · rw [wr_ne y2, wr_ne y2]; exact ew b i y⟩ (by omega)⟩⟩⟩)
theorem misfit_C (ly : lay8 G R M) : cwv 1 (fun r V' => r = some (0, V M 37) ∧ V' = V) 234 [(4, (M : Int))] G R V := c_X8_misfit (t_X8_misfit_0 ly (fun _ => ⟨rfl, rfl⟩))
end
