/-! closing a heap with a turn more, as sets of the heap times a turn -/
def cuI (N : Int) (mul : Int → Int → Int) (S mr U ed : Int → Int) (mk e i m : Int) : Prop := 1 ≤ e ∧ (∀ j, 0 ≤ j → j < e → 0 ≤ ed j ∧ ed j < N) ∧ ed 0 = 0 ∧ (∀ i j, 0 ≤ i → i < j → j < e → ed i ≠ ed j) ∧ (∀ t, 0 ≤ t → t < 128 → (U t = 1 ↔ ∃ s j, 0 ≤ s ∧ s < N ∧ S s = 1 ∧ 0 ≤ j ∧ j < e ∧ t = mul s (ed j))) ∧ (∀ j, 0 < j → j < e → ∃ i' m', 0 ≤ i' ∧ i' < j ∧ 0 ≤ m' ∧ m' < mk ∧ ed j = mul (ed i') (mr m')) ∧ (∀ i' m', 0 ≤ i' → i' < e → 0 ≤ m' → m' < mk → (i' < i ∨ (i' = i ∧ m' < m)) → U (mul (ed i') (mr m')) = 1)
section
variable {N : Int} {mul : Int → Int → Int} {inv : Int → Int} {S mr U ed U' ed' : Int → Int} {mk e i m : Int}
theorem cu_le (h : cuI N mul S mr U ed mk e i m) (hN : 0 ≤ N) : e ≤ N := inj_le hN (fun j j0 j1 => h.2.1 j j0 j1) h.2.2.2.1
theorem cu_in (g : GT N mul inv) (hN : N ≤ 120) (hS : SM N mul S) (h : cuI N mul S mr U ed mk e i m) {j : Int} (j0 : 0 ≤ j ∧ j < e) : U (ed j) = 1 := by
  have r := h.2.1 j j0.1 j0.2
  have g1 := g.1
  exact (h.2.2.2.2.1 _ r.1 (by omega)).mpr ⟨0, j, by omega, by omega, hS.2.1, j0.1, j0.2, (g.2.2.1 _ r.1 r.2).1.symm⟩
theorem cu_add (g : GT N mul inv) (hN : N ≤ 120) (hS : SM N mul S) (h : cuI N mul S mr U ed mk e i m) (i0 : 0 ≤ i ∧ i < e) (m0 : 0 ≤ m ∧ m < mk) (hmr : ∀ m, 0 ≤ m → m < mk → 0 ≤ mr m ∧ mr m < N) (nu : ¬ U (mul (ed i) (mr m)) = 1) (hU : ∀ t, 0 ≤ t → t < 128 → (U' t = 1 ↔ (U t = 1 ∨ ∃ s, 0 ≤ s ∧ s < N ∧ S s = 1 ∧ t = mul s (mul (ed i) (mr m))))) (he : ∀ j, j ≠ e → ed' j = ed j) (he2 : ed' e = mul (ed i) (mr m)) : cuI N mul S mr U' ed' mk (e + 1) i (m + 1) := by
  have hin := fun (j : Int) (q : 0 ≤ j ∧ j < e) => cu_in g hN hS h q
  obtain ⟨h1, h2, h3, h4, h5, h6, h7⟩ := h
  have g1 := g.1
  have ri := h2 i i0.1 i0.2
  have mrr := hmr m m0.1 m0.2
  have nr := g.2.1 _ _ ri.1 ri.2 mrr.1 mrr.2
  refine ⟨by omega, fun j j0 j1 => ?_, by rw [he 0 (by omega)]; exact h3, fun a b a0 ab b1 => ?_, fun t t0 t1 => ?_, fun j j0 j1 => ?_, fun i' m' p0 p1 p2 p3 p4 => ?_⟩
  · by_cases y : j = e
    · rw [y, he2]; exact nr
    · rw [he j y]; exact h2 j j0 (by omega)
  · rw [he a (by omega)]
    by_cases y : b = e
    · rw [y, he2]
      intro q
      exact nu (by rw [← q]; exact hin a ⟨a0, by omega⟩)
    · rw [he b y]; exact h4 a b a0 ab (by omega)
  · rw [hU t t0 t1, h5 t t0 t1]
    constructor
    · intro w
      rcases w with ⟨s, j, w1, w2, w3, w4, w5, w6⟩ | ⟨s, w1, w2, w3, w4⟩
      · exact ⟨s, j, w1, w2, w3, w4, by omega, by rw [he j (by omega)]; exact w6⟩
      · exact ⟨s, e, w1, w2, w3, by omega, by omega, by rw [he2]; exact w4⟩
    · rintro ⟨s, j, w1, w2, w3, w4, w5, w6⟩
      by_cases y : j = e
      · rw [y, he2] at w6; exact Or.inr ⟨s, w1, w2, w3, w6⟩
      · rw [he j y] at w6; exact Or.inl ⟨s, j, w1, w2, w3, w4, by omega, w6⟩
  · by_cases y : j = e
    · exact ⟨i, m, i0.1, by omega, m0.1, m0.2, by rw [y, he2, he i (by omega)]⟩
    · obtain ⟨i', m', w1, w2, w3, w4, w5⟩ := h6 j j0 (by omega)
      exact ⟨i', m', w1, w2, w3, w4, by rw [he j y, he i' (by omega)]; exact w5⟩
  · have i1 : i' < e := by omega
    have old : ∀ t, 0 ≤ t → t < 128 → U t = 1 → U' t = 1 := fun t t0 t1 w => (hU t t0 t1).mpr (Or.inl w)
    rw [he i' (by omega)]
    by_cases y : i' = i ∧ m' = m
    · rw [y.1, y.2]
      refine (hU _ nr.1 (by omega)).mpr (Or.inr ⟨0, by omega, by omega, hS.2.1, ?_⟩)
      exact (g.2.2.1 _ nr.1 nr.2).1.symm
    · have w := h7 i' m' p0 i1 p2 p3 (by omega)
      have ri' := h2 i' p0 i1
      have mr' := hmr m' p2 p3
      have this := g.2.1 _ _ ri'.1 ri'.2 mr'.1 mr'.2
      exact old _ this.1 (by omega) w
theorem cu_sm (g : GT N mul inv) (hN : N ≤ 120) (hS : SM N mul S) (h : cuI N mul S mr U ed mk e i m) (i0 : 0 ≤ i ∧ i < e) (mr0 : 0 ≤ mr m ∧ mr m < N) (nu : ¬ U (mul (ed i) (mr m)) = 1) (hU : ∀ t, 0 ≤ t → t < 128 → (U' t = 1 ↔ (U t = 1 ∨ ∃ s, 0 ≤ s ∧ s < N ∧ S s = 1 ∧ t = mul s (mul (ed i) (mr m))))) (u01 : ∀ t, U t = 0 ∨ U t = 1) (u01' : ∀ t, U' t = 0 ∨ U' t = 1) : sm U' N.toNat = sm U N.toNat + sm S N.toNat := by
  have g1 := g.1
  have en : ((N.toNat : Nat) : Int) = N := Int.toNat_of_nonneg (by omega)
  have ri := h.2.1 i i0.1 i0.2
  have yr := g.2.1 _ _ ri.1 ri.2 mr0.1 mr0.2
  obtain ⟨y, hy⟩ : ∃ y, y = mul (ed i) (mr m) := ⟨_, rfl⟩
  rw [← hy] at nu yr
  have hU' : ∀ t, 0 ≤ t → t < 128 → (U' t = 1 ↔ (U t = 1 ∨ ∃ s, 0 ≤ s ∧ s < N ∧ S s = 1 ∧ t = mul s y)) := fun t t0 t1 => by rw [hy]; exact hU t t0 t1
  have im := imf_sm (a := S) (φ := fun s => mul s y) (n := N.toNat) N.toNat (fun s s0 s1 => hS.1 s s0 (by omega)) (fun s s0 s1 _ => by
    have := g.2.1 s y s0 (by omega) yr.1 yr.2
    (try dsimp only)
    omega) (fun s t s0 s1 t0 t1 _ _ e => GT_cr g yr ⟨s0, by omega⟩ ⟨t0, by omega⟩ e)
  rw [← im, ← sm_add]
  refine sm_congr (fun t t0 t1 => ?_)
  have sp := imf_spec S (fun s => mul s y) N.toNat t
  have hu := hU' t t0 (by omega)
  rcases u01 t with w | w
  · rcases sp.1 with q | q
    · rcases u01' t with z | z
      · (try dsimp only)
        omega
      · exfalso
        rcases hu.mp z with z2 | ⟨s, s0, s1, s2, s3⟩
        · omega
        · have := sp.2.mpr ⟨s, s0, by omega, s2, s3.symm⟩
          omega
    · have z : U' t = 1 := hu.mpr (Or.inr (by
        obtain ⟨s, s0, s1, s2, s3⟩ := sp.2.mp q
        exact ⟨s, s0, by omega, s2, s3.symm⟩))
      (try dsimp only)
      omega
  · have z : U' t = 1 := hu.mpr (Or.inl w)
    rcases sp.1 with q | q
    · (try dsimp only)
      omega
    · exfalso
      obtain ⟨s, s0, s1, s2, s3⟩ := sp.2.mp q
      have s4 : mul s y = t := s3
      obtain ⟨s', j, w1, w2, w3, w4, w5, w6⟩ := (h.2.2.2.2.1 t t0 (by omega)).mp w
      apply nu
      have iv := g.2.2.2.2 s s0 (by omega)
      have rj := h.2.1 j w4 w5
      have sinv := SM_inv g hS ⟨s0, by omega⟩ s2
      have p1 := g.2.1 _ _ iv.1 iv.2.1 w1 w2
      have e2 : y = mul (mul (inv s) s') (ed j) := by
        rw [g.2.2.2.1 _ _ _ iv.1 iv.2.1 w1 w2 rj.1 rj.2, ← w6, ← s4, ← g.2.2.2.1 _ _ _ iv.1 iv.2.1 s0 (by omega) yr.1 yr.2, iv.2.2.2, (g.2.2.1 y yr.1 yr.2).1]
      have r5 := g.2.1 _ _ p1.1 p1.2 rj.1 rj.2
      rw [e2]
      exact (h.2.2.2.2.1 _ r5.1 (by omega)).mpr ⟨_, j, p1.1, p1.2, hS.2.2 _ _ iv.1 iv.2.1 w1 w2 sinv w3, w4, w5, rfl⟩
theorem cu_skip (h : cuI N mul S mr U ed mk e i m) (hu : U (mul (ed i) (mr m)) = 1) : cuI N mul S mr U ed mk e i (m + 1) := by
  obtain ⟨h1, h2, h3, h4, h5, h6, h7⟩ := h
  refine ⟨h1, h2, h3, h4, h5, h6, fun i' m' p0 p1 p2 p3 p4 => ?_⟩
  by_cases y : i' = i ∧ m' = m
  · rw [y.1, y.2]; exact hu
  · exact h7 i' m' p0 p1 p2 p3 (by omega)
theorem cu_next (h : cuI N mul S mr U ed mk e i m) (hm : mk ≤ m) : cuI N mul S mr U ed mk e (i + 1) 0 := by
  obtain ⟨h1, h2, h3, h4, h5, h6, h7⟩ := h
  exact ⟨h1, h2, h3, h4, h5, h6, fun i' m' p0 p1 p2 p3 p4 => h7 i' m' p0 p1 p2 p3 (by omega)⟩
theorem cu_fin (g : GT N mul inv) (hN : N ≤ 120) (hS : SM N mul S) (hmin : ∀ W, SM N mul W → (∀ m, 0 ≤ m → m < mk → W (mr m) = 1) → sub1 N S W) (hmr : ∀ m, 0 ≤ m → m < mk → 0 ≤ mr m ∧ mr m < N) (u01 : ∀ t, U t = 0 ∨ U t = 1) (h : cuI N mul S mr U ed mk e e 0) : clS N mk U mr mul ∧ ∀ t, N ≤ t → t < 128 → U t = 0 := by
  have g1 := g.1
  have hin := fun (j : Int) (q : 0 ≤ j ∧ j < e) => cu_in g hN hS h q
  obtain ⟨h1, h2, h3, h4, h5, h6, h7⟩ := h
  have edW : ∀ W : Int → Int, SM N mul W → (∀ m, 0 ≤ m → m < mk → W (mr m) = 1) → ∀ (w : Nat) (j : Int), 0 ≤ j → j < e → j.toNat = w → W (ed j) = 1 := by
    intro W hW hm w
    induction w using Nat.strongRecOn with
    | ind w ih =>
      intro j j0 j1 jw
      by_cases z : j = 0
      · rw [z, h3]; exact hW.2.1
      · obtain ⟨i', m', p1, p2, p3, p4, p5⟩ := h6 j (by omega) j1
        have r1 := h2 i' p1 (by omega)
        have r2 := hmr m' p3 p4
        rw [p5]
        exact hW.2.2 _ _ r1.1 r1.2 r2.1 r2.2 (ih i'.toNat (by omega) i' p1 (by omega) rfl) (hm m' p3 p4)
  have subW : ∀ W : Int → Int, SM N mul W → (∀ m, 0 ≤ m → m < mk → W (mr m) = 1) → ∀ t, 0 ≤ t → t < N → U t = 1 → W t = 1 := by
    intro W hW hm t t0 t1 ht
    obtain ⟨s, j, w1, w2, w3, w4, w5, w6⟩ := (h5 t t0 (by omega)).mp ht
    have r := h2 j w4 w5
    rw [w6]
    exact hW.2.2 _ _ w1 w2 r.1 r.2 (hmin W hW hm s w1 w2 w3) (edW W hW hm _ j w4 w5 rfl)
  have um : ∀ v, 0 ≤ v → v < N → U v = 1 → ∀ m, 0 ≤ m → m < mk → U (mul v (mr m)) = 1 := by
    intro v v0 v1 hv m m0 m1
    obtain ⟨s, j, w1, w2, w3, w4, w5, w6⟩ := (h5 v v0 (by omega)).mp hv
    have r := h2 j w4 w5
    have q := hmr m m0 m1
    have r2 := g.2.1 _ _ r.1 r.2 q.1 q.2
    obtain ⟨s', j', x1, x2, x3, x4, x5, x6⟩ := (h5 _ r2.1 (by omega)).mp (h7 j m w4 w5 m0 m1 (Or.inl w5))
    have r3 := h2 j' x4 x5
    have r4 := g.2.1 _ _ w1 w2 x1 x2
    have r5 := g.2.1 _ _ r4.1 r4.2 r3.1 r3.2
    have e1 : mul v (mr m) = mul (mul s s') (ed j') := by
      rw [w6, g.2.2.2.1 _ _ _ w1 w2 r.1 r.2 q.1 q.2, x6, g.2.2.2.1 _ _ _ w1 w2 x1 x2 r3.1 r3.2]
    rw [e1]
    exact (h5 _ r5.1 (by omega)).mpr ⟨mul s s', j', r4.1, r4.2, hS.2.2 _ _ w1 w2 x1 x2 w3 x3, x4, x5, rfl⟩
  have P : SM N mul (fun w => bi (∀ v, 0 ≤ v → v < N → U v = 1 → U (mul v w) = 1)) := by
    refine ⟨fun t _ _ => bi_01 _, bi_t (fun v v0 v1 hv => by rw [(g.2.2.1 v v0 v1).2]; exact hv), fun s t s0 s1 t0 t1 hs ht => bi_t (fun v v0 v1 hv => ?_)⟩
    have a := bi_1.mp hs v v0 v1 hv
    have r := g.2.1 v s v0 v1 s0 s1
    rw [← g.2.2.2.1 _ _ _ v0 v1 s0 s1 t0 t1]
    exact bi_1.mp ht _ r.1 r.2 a
  have Pm : ∀ m, 0 ≤ m → m < mk → (fun w => bi (∀ v, 0 ≤ v → v < N → U v = 1 → U (mul v w) = 1)) (mr m) = 1 := fun m m0 m1 => bi_t (fun v v0 v1 hv => um v v0 v1 hv m m0 m1)
  have sU : SM N mul U := by
    refine ⟨fun t _ _ => u01 t, ?_, fun s t s0 s1 t0 t1 hs ht => bi_1.mp (subW _ P Pm t t0 t1 ht) s s0 s1 hs⟩
    have := hin 0 ⟨by omega, by omega⟩
    rw [h3] at this
    exact this
  refine ⟨⟨sU, fun m m0 m1 => ?_, subW⟩, fun t t0 t1 => ?_⟩
  · have q := hmr m m0 m1
    have := um 0 (by omega) (by omega) sU.2.1 m m0 m1
    rw [(g.2.2.1 _ q.1 q.2).1] at this
    exact this
  · rcases u01 t with w | w
    · exact w
    · exfalso
      obtain ⟨s, j, w1, w2, w3, w4, w5, w6⟩ := (h5 t (by omega) t1).mp w
      have r := h2 j w4 w5
      have r4 := g.2.1 _ _ w1 w2 r.1 r.2
      omega
end
section
variable {G : List gS} {R V V0 : gV} {T : gT} {f x p n : Nat} {C D : Int}
abbrev mrX (V : gV) (f : Nat) (k a : Int) : Int → Int := fun m => if m = V (f + 6) k then a else V (f + 7) (k * 8 + m)
theorem mrX_t {k a m : Int} (h : m = V (f + 6) k) : mrX V f k a m = a := if_pos h
theorem mrX_f {k a m : Int} (h : ¬ m = V (f + 6) k) : mrX V f k a m = V (f + 7) (k * 8 + m) := if_neg h
theorem close_x (c : fc G R T f x p n C D V0) (h : fv T f V0 V) {k a : Int} (k0 : 0 ≤ k ∧ k < 300) (kh : 0 ≤ V (f + 5) k ∧ V (f + 5) k < 300) (hm : meX V0 V f x (hS V f (V (f + 5) k))) (hp : hpI (V0 x 1) (pMul V0 x p) (hS V f (V (f + 5) k)) (sm (hS V f (V (f + 5) k)) (V0 x 1).toNat) (V (f + 6) k) (fun m => V (f + 7) (k * 8 + m))) (hz : ∀ t, V0 x 1 ≤ t → t < 128 → hS V f (V (f + 5) k) t = 0) (ha : 0 ≤ a ∧ a < V0 x 1) (hc : V f 12 = sm (hS V f (V (f + 5) k)) (V0 x 1).toNat) : cwv 3 (fun r V' => r = none ∧ (TH T V' ∧ Fr (Scl f) V V' ∧ clS (V0 x 1) (V (f + 6) k + 1) (nS V' f) (mrX V f k a) (pMul V0 x p) ∧ (∀ t, V0 x 1 ≤ t → t < 128 → nS V' f t = 0) ∧ V' f 17 = sm (nS V' f) (V0 x 1).toNat)) 47 [(4, (f : Int)), (0, k), (0, a), (4, (x : Int))] G R V := by
  have u := c.1
  have tx := c.2.2.2.2.2
  have N1 := tx.1
  have g := tx.2.2.1
  obtain ⟨p1, p2, p3, ⟨p4, p5, p6⟩, p7, p8⟩ := hp
  have hmr : ∀ m, 0 ≤ m → m < V (f + 6) k + 1 → 0 ≤ mrX V f k a m ∧ mrX V f k a m < V0 x 1 := by
    intro m m0 m1
    (try dsimp only)
    by_cases y : m = V (f + 6) k
    · rw [mrX_t y]; exact ha
    · rw [mrX_f y]; exact p3 m m0 (by omega)
  have hmin : ∀ W, SM (V0 x 1) (pMul V0 x p) W → (∀ m, 0 ≤ m → m < V (f + 6) k + 1 → W (mrX V f k a m) = 1) → sub1 (V0 x 1) (hS V f (V (f + 5) k)) W := by
    intro W hW hw
    refine p6 W hW (fun m m0 m1 => ?_)
    have := hw m m0 (by omega)
    (try dsimp only at this)
    rw [mrX_f (by omega)] at this
    exact this
  have fin : ∀ (e : Int) (V1 : gV), TH T V1 → Fr (Scl f) V V1 → cuI (V0 x 1) (pMul V0 x p) (hS V f (V (f + 5) k)) (mrX V f k a) (nS V1 f) (fun j => V1 (f + 11) j) (V (f + 6) k + 1) e e 0 → sm (nS V1 f) (V0 x 1).toNat = e * sm (hS V f (V (f + 5) k)) (V0 x 1).toNat → e ≤ 120 → (TH T (wr V1 f 17 (V1 f 12 * e)) ∧ Fr (Scl f) V (wr V1 f 17 (V1 f 12 * e)) ∧ clS (V0 x 1) (V (f + 6) k + 1) (nS (wr V1 f 17 (V1 f 12 * e)) f) (mrX V f k a) (pMul V0 x p) ∧ (∀ t, V0 x 1 ≤ t → t < 128 → nS (wr V1 f 17 (V1 f 12 * e)) f t = 0) ∧ wr V1 f 17 (V1 f 12 * e) f 17 = sm (nS (wr V1 f 17 (V1 f 12 * e)) f) (V0 x 1).toNat) ∧ i32 (V1 f 12 * e) := by
    intro e V1 th1 fr cu sq e1
    have m12 : V1 f 12 = V f 12 := fr _ _ (by omega)
    have e0 := cu.1
    have z0 : 0 ≤ V1 f 12 * e := Int.mul_nonneg (by rw [m12]; exact hm.1.1) (by omega)
    have z1 : V1 f 12 * e ≤ 120 * 120 := Int.mul_le_mul (by rw [m12]; exact hm.1.2) e1 (by omega) (by omega)
    have en : nS (wr V1 f 17 (V1 f 12 * e)) f = nS V1 f := by
      funext t
      show bt (wr V1 f 17 (V1 f 12 * e) f 15) (wr V1 f 17 (V1 f 12 * e) f 16) t = _
      rw [wr_i (by omega), wr_i (by omega)]
    have cf := cu_fin g (by omega) p4 hmin hmr (fun t => bt_01 _ _ _) cu
    rw [en]
    exact ⟨⟨TH_wr th1 ((u.ns _).mpr (by omega)), Fr_w fr (by omega), cf.1, cf.2, by rw [wr_same, m12, hc, sq, Int.mul_comm]⟩, by omega⟩
  refine c_X3_close (t_X3_close_0 u.ly c.2.1.ly ⟨by omega, fun _ => ⟨by omega, fun _ _ => ?_⟩⟩)
  refine loop2 (f := fun e i => [some (4, (f : Int)), some (0, k), some (0, a), some (4, (x : Int)), some (0, e), some (0, i)]) (Inv := fun e i V1 => TH T V1 ∧ Fr (Scl f) V V1 ∧ (0 ≤ i ∧ i ≤ e) ∧ cuI (V0 x 1) (pMul V0 x p) (hS V f (V (f + 5) k)) (mrX V f k a) (nS V1 f) (fun j => V1 (f + 11) j) (V (f + 6) k + 1) e i 0 ∧ sm (nS V1 f) (V0 x 1).toNat = e * sm (hS V f (V (f + 5) k)) (V0 x 1).toNat) (μ := fun _ i _ => (121 - i).toNat) (fun e i V1 hh ih => ?_) 1 0 _ ⟨TH_wr (TH_wr (TH_wr h.1 (u.nl _)) (u.nh _)) (u.ed _ _), Fr_w (Fr_w (Fr_w Fr_0 (by omega)) (by omega)) (by omega), by omega, ?_⟩
  · obtain ⟨th1, fr, i0, cu, sq⟩ := hh
    have eN := cu_le cu (by omega)
    have e1 := cu.1
    refine t_X3_close_43 u.ly c.2.1.ly ⟨by omega, by omega, fun z _ => ?_, fun z => ⟨fun z1 => absurd z1 (by omega), fun _ => ?_⟩⟩
    · have ei : i = e := by omega
      rw [ei] at cu
      have w := fin e V1 th1 fr cu sq (by omega)
      exact ⟨w.2, rfl, w.1⟩
    refine loop2 (f := fun e j => [some (4, (f : Int)), some (0, k), some (0, a), some (4, (x : Int)), some (0, e), some (0, i), some (0, j)]) (Inv := fun e j V1 => TH T V1 ∧ Fr (Scl f) V V1 ∧ (0 ≤ j ∧ j ≤ 8) ∧ i < e ∧ cuI (V0 x 1) (pMul V0 x p) (hS V f (V (f + 5) k)) (mrX V f k a) (nS V1 f) (fun j => V1 (f + 11) j) (V (f + 6) k + 1) e i j ∧ sm (nS V1 f) (V0 x 1).toNat = e * sm (hS V f (V (f + 5) k)) (V0 x 1).toNat) (μ := fun _ j _ => (9 - j).toNat) (fun e j V2 h4 ih2 => ?_) e 0 V1 ⟨th1, fr, by omega, z, cu, sq⟩
    clear th1 fr cu eN e1 z sq
    obtain ⟨th2, fr, j0, z, cu, sq⟩ := h4
    have eN := cu_le cu (by omega)
    have h2 : fv T f V0 V2 := fv_m h th2 fr (by omega)
    have s6 : V2 (f + 6) k = V (f + 6) k := fr _ _ (by omega)
    have s7 : ∀ i, V2 (f + 7) i = V (f + 7) i := fun i => fr _ _ (by omega)
    have hm2 : meX V0 V2 f x (hS V f (V (f + 5) k)) := by
      have s12 : V2 f 12 = V f 12 := fr _ _ (by omega)
      have s10 : ∀ i, V2 (f + 10) i = V (f + 10) i := fun i => fr _ _ (by omega)
      unfold meX
      simp only [s12, s10]
      exact hm
    have ei := cu.2.1 i i0.1 z
    (try dsimp only at ei)
    have go : ∀ b : Int, j < V (f + 6) k + 1 → b = mrX V f k a j → (0 ≤ b ∧ b < V0 x 1) → ∀ (P1 : Prop) (_ : P1), cwv 2 (fun r V8 => ∃ v9 : Int, r = some (0, v9) ∧ ((i64 (V8 f 15)) → ((i64 (V8 f 16)) → cwv 2 (fun r V13 => ∃ v14 : Int, r = some (0, v14) ∧ ((i32 v14) ∧ (((¬ v14 = 0) → ((i32 (j + 1)) ∧ wpv K_X3_close 2 (fun r V' => r = none ∧ (TH T V' ∧ Fr (Scl f) V V' ∧ clS (V0 x 1) (V (f + 6) k + 1) (nS V' f) (mrX V f k a) (pMul V0 x p) ∧ (∀ t, V0 x 1 ≤ t → t < 128 → nS V' f t = 0) ∧ V' f 17 = sm (nS V' f) (V0 x 1).toNat)) 60 [some (4, (f : Int)), some (0, k), some (0, a), some (4, (x : Int)), some (0, e), some (0, i), some (0, (j + 1))] [] G R V13)) ∧ ((v14 = 0) → ((i32 e) ∧ (((¬ e < 120) → ((i32 (j + 1)) ∧ wpv K_X3_close 2 (fun r V' => r = none ∧ (TH T V' ∧ Fr (Scl f) V V' ∧ clS (V0 x 1) (V (f + 6) k + 1) (nS V' f) (mrX V f k a) (pMul V0 x p) ∧ (∀ t, V0 x 1 ≤ t → t < 128 → nS V' f t = 0) ∧ V' f 17 = sm (nS V' f) (V0 x 1).toNat)) 60 [some (4, (f : Int)), some (0, k), some (0, a), some (4, (x : Int)), some (0, e), some (0, i), some (0, (j + 1))] [] G R V13)) ∧ ((e < 120) → cwv 2 (fun r V19 => r = none ∧ ((0 ≤ e ∧ e < 120) ∧ ((i32 v9) ∧ ((i32 (e + 1)) ∧ ((i32 (j + 1)) ∧ wpv K_X3_close 2 (fun r V' => r = none ∧ (TH T V' ∧ Fr (Scl f) V V' ∧ clS (V0 x 1) (V (f + 6) k + 1) (nS V' f) (mrX V f k a) (pMul V0 x p) ∧ (∀ t, V0 x 1 ≤ t → t < 128 → nS V' f t = 0) ∧ V' f 17 = sm (nS V' f) (V0 x 1).toNat)) 60 [some (4, (f : Int)), some (0, k), some (0, a), some (4, (x : Int)), some (0, (e + 1)), some (0, i), some (0, (j + 1))] [] G R (wr V19 (f + 11) e v9)))))) 48 [(4, (f : Int)), (0, v9), (4, (x : Int))] G R V13))))))) 149 [(2, (V8 f 15)), (2, (V8 f 16)), (0, v9)] G R V8))) 89 [(4, (x : Int)), (0, (V2 (f + 11) i)), (0, b)] G R V2 := by
      intro b jm eb hb _ _
      have nr := g.2.1 _ _ ei.1 ei.2 hb.1 hb.2
      (try dsimp only at nr)
      refine cpI_u (by omega) (times_z c h2 ei hb) (fun _ _ => cpI_u (by omega) (holds_e (by omega)) ⟨by rcases bt_01 (V2 f 15) (V2 f 16) (pMul V0 x p (V2 (f + 11) i) b) with w | w <;> omega, fun z1 => ⟨by omega, ih2 _ _ _ ⟨th2, fr, by omega, z, cu_skip cu ?_, sq⟩ (by omega)⟩, fun z1 => ⟨by omega, fun z2 => ?_, fun z2 => ?_⟩⟩)
      · rw [← eb]
        rcases bt_01 (V2 f 15) (V2 f 16) (pMul V0 x p (V2 (f + 11) i) b) with w | w
        · exact absurd w z1
        · exact w
      · exfalso
        have nw : ∀ j, 0 ≤ j → j < e → V2 (f + 11) j ≠ pMul V0 x p (V2 (f + 11) i) b := fun j j0 j1 q => by
          have this : bt (V2 f 15) (V2 f 16) (V2 (f + 11) j) = 1 := cu_in g (by omega) p4 cu ⟨j0, j1⟩
          rw [q] at this
          omega
        have := inj_le (φ := fun m => if m < e then V2 (f + 11) m else pMul V0 x p (V2 (f + 11) i) b) (n := e + 1) (N := V0 x 1) (by omega) (fun m m0 m1 => by
          (try dsimp only)
          split
          · rename_i y; exact cu.2.1 m m0 y
          · exact nr) (fun y1 y2 u0 uv v1 => by
          (try dsimp only)
          rw [if_pos (by omega)]
          split
          · rename_i y; exact cu.2.2.2.1 y1 y2 u0 uv y
          · exact nw y1 u0 (by omega))
        omega
      · refine cw0_u (by omega) (addMembersTimes_x c h2 hm2 nr) (fun V3 h3 => ?_)
        obtain ⟨th3, fr3, h3⟩ := h3
        have e1 := cu.1
        refine ⟨by omega, by omega, by omega, by omega, ih2 _ _ _ ⟨TH_wr th3 (u.ed _ _), Fr_w (Fr_t fr (Fr_m fr3 (by omega))) (by omega), by omega, by omega, ?_, ?_⟩ (by omega)⟩
        rotate_left
        · have en : nS (wr V3 (f + 11) e (pMul V0 x p (V2 (f + 11) i) b)) f = nS V3 f := by
            funext t
            show bt (wr V3 (f + 11) e _ f 15) (wr V3 (f + 11) e _ f 16) t = _
            rw [wr_a (by omega), wr_a (by omega)]
          rw [en]
          rw [eb] at h3 z1
          have cs := cu_sm g (by omega) p4 cu ⟨i0.1, z⟩ (hmr j j0.1 jm) (fun q => by have q2 : bt (V2 f 15) (V2 f 16) (pMul V0 x p (V2 (f + 11) i) (mrX V f k a j)) = 1 := q; omega) h3 (fun t => bt_01 _ _ _) (fun t => bt_01 _ _ _)
          rw [cs, sq, Int.add_mul, Int.one_mul]
        have en : nS (wr V3 (f + 11) e (pMul V0 x p (V2 (f + 11) i) b)) f = nS V3 f := by
          funext t
          show bt (wr V3 (f + 11) e _ f 15) (wr V3 (f + 11) e _ f 16) t = _
          rw [wr_a (by omega), wr_a (by omega)]
        rw [en]
        rw [eb] at h3 z1 ⊢
        refine cu_add g (by omega) p4 cu ⟨i0.1, z⟩ ⟨j0.1, jm⟩ hmr (fun q => by have q2 : bt (V2 f 15) (V2 f 16) (pMul V0 x p (V2 (f + 11) i) (mrX V f k a j)) = 1 := q; omega) h3 (fun q hq => ?_) (wr_same _ _ _ _)
        show wr V3 (f + 11) e _ (f + 11) q = V2 (f + 11) q
        rw [wr_i hq]; exact fr3 _ _ (by omega)
    refine t_X3_close_60 u.ly c.2.1.ly ⟨by omega, fun _ => ⟨by omega, fun z1 => ⟨by omega, ih _ _ _ ⟨th2, fr, by omega, cu_next cu (by omega), sq⟩ (by omega)⟩, fun z1 => ⟨fun z2 => ⟨by omega, fun _ => ?_⟩, fun z2 => ⟨by omega, by omega, by omega, fun _ => ⟨by omega, fun _ => ?_⟩⟩⟩⟩⟩
    · exact go a (by omega) (mrX_t (by omega)).symm ha True trivial
    · rw [s7]
      exact go _ (by omega) (mrX_f (by omega)).symm (p3 j j0.1 (by omega)) True trivial
  · have n15 : nS (wr (wr (wr V f 15 (V (f + 1) (V (f + 5) k))) f 16 (V (f + 2) (V (f + 5) k))) (f + 11) 0 0) f = hS V f (V (f + 5) k) := by
      funext t
      show bt (wr (wr (wr V f 15 (V (f + 1) (V (f + 5) k))) f 16 (V (f + 2) (V (f + 5) k))) (f + 11) 0 0 f 15) (wr (wr (wr V f 15 (V (f + 1) (V (f + 5) k))) f 16 (V (f + 2) (V (f + 5) k))) (f + 11) 0 0 f 16) t = _
      have w15 : wr (wr (wr V f 15 (V (f + 1) (V (f + 5) k))) f 16 (V (f + 2) (V (f + 5) k))) (f + 11) 0 0 f 15 = V (f + 1) (V (f + 5) k) := by rw [wr_a (by omega), wr_i (by omega), wr_same]
      have w16 : wr (wr (wr V f 15 (V (f + 1) (V (f + 5) k))) f 16 (V (f + 2) (V (f + 5) k))) (f + 11) 0 0 f 16 = V (f + 2) (V (f + 5) k) := by rw [wr_a (by omega), wr_same]
      rw [w15, w16]
    rw [n15]
    refine ⟨?_, by rw [Int.one_mul]⟩
    refine ⟨by omega, fun j j0 j1 => ?_, wr_same _ _ _ _, fun a b a0 ab b1 => by omega, fun t t0 t1 => ?_, fun j j0 j1 => by omega, fun i' m' q0 q1 q2 q3 q4 => by omega⟩
    · (try dsimp only)
      rw [show j = 0 by omega, wr_same]; omega
    · constructor
      · intro w
        have tN : t < V0 x 1 := by
          apply Classical.byContradiction
          intro q
          have := hz t (by omega) t1
          omega
        refine ⟨t, 0, t0, tN, w, by omega, by omega, ?_⟩
        (try dsimp only)
        rw [wr_same, (g.2.2.1 t t0 tN).2]
      · rintro ⟨s, j, w1, w2, w3, w4, w5, w6⟩
        (try dsimp only at w6)
        rw [show j = 0 by omega, wr_same, (g.2.2.1 s w1 w2).2] at w6
        rw [w6]; exact w3
end
