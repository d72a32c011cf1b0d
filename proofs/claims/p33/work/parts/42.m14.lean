/-! a group is known by its rows -/
def mulE (N : Int) (mul mul' : Int → Int → Int) : Prop := ∀ s t, 0 ≤ s → s < N → 0 ≤ t → t < N → mul s t = mul' s t
theorem mulE_symm {N : Int} {mul mul' : Int → Int → Int} (h : mulE N mul mul') : mulE N mul' mul := fun s t a b c e => (h s t a b c e).symm
theorem isPr_E {f : Int → Int} {n N : Int} {mul mul' : Int → Int → Int} (g : GR f n N) (h : isPr f n N mul) (h' : isPr f n N mul') : mulE N mul mul' := fun s t a b c e => pr_eq g h ⟨a, b⟩ ⟨c, e⟩ ⟨(h' s t a b c e).1, (h' s t a b c e).2.1⟩ (h' s t a b c e).2.2
theorem SM_E {N : Int} {mul mul' : Int → Int → Int} (e : mulE N mul mul') {S : Int → Int} (h : SM N mul S) : SM N mul' S := ⟨h.1, h.2.1, fun s t a0 a1 b0 b1 h1 h2 => by rw [← e s t a0 a1 b0 b1]; exact h.2.2 s t a0 a1 b0 b1 h1 h2⟩
theorem many_E {N : Int} {mul mul' : Int → Int → Int} (e : mulE N mul mul') (h : tooMany N mul) : tooMany N mul' := by
  obtain ⟨F, f1, f2⟩ := h
  exact ⟨F, fun i a b => SM_E e (f1 i a b), f2⟩
theorem inv_E {N : Int} {mul mul' : Int → Int → Int} {inv inv' : Int → Int} (g : GT N mul inv) (g' : GT N mul' inv') (e : mulE N mul mul') {a : Int} (a0 : 0 ≤ a ∧ a < N) : inv a = inv' a := by
  have i := g.2.2.2.2 a a0.1 a0.2
  have i' := g'.2.2.2.2 a a0.1 a0.2
  refine GT_cl g a0 ⟨i.1, i.2.1⟩ ⟨i'.1, i'.2.1⟩ ?_
  rw [i.2.2.1, e a _ a0.1 a0.2 i'.1 i'.2.1, i'.2.2.1]
theorem cj_E {N : Int} {mul mul' : Int → Int → Int} {inv inv' : Int → Int} (g : GT N mul inv) (g' : GT N mul' inv') (e : mulE N mul mul') (S : Int → Int) {a : Int} (a0 : 0 ≤ a ∧ a < N) : req N (cj N mul inv S a) (cj N mul' inv' S a) := by
  refine bit_req (fun t _ _ => (imf_spec _ _ _ t).1) (fun t _ _ => (imf_spec _ _ _ t).1) (fun t t0 t1 => ?_)
  have i := g.2.2.2.2 a a0.1 a0.2
  have key : ∀ u, 0 ≤ u → u < N → mul (mul (inv a) u) a = mul' (mul' (inv' a) u) a := fun u u0 u1 => by
    have m := g.2.1 _ _ i.1 i.2.1 u0 u1
    rw [← inv_E g g' e a0, ← e _ u i.1 i.2.1 u0 u1, e _ a m.1 m.2 a0.1 a0.2]
  rw [cj_in g, cj_in g']
  constructor
  · rintro ⟨u, u0, u1, u2, u3⟩
    exact ⟨u, u0, u1, u2, by rw [← key u u0 u1]; exact u3⟩
  · rintro ⟨u, u0, u1, u2, u3⟩
    exact ⟨u, u0, u1, u2, by rw [key u u0 u1]; exact u3⟩
theorem CJ_E {N : Int} {mul mul' : Int → Int → Int} {inv inv' : Int → Int} (g : GT N mul inv) (g' : GT N mul' inv') (e : mulE N mul mul') {S T : Int → Int} (h : CJ N mul inv S T) : CJ N mul' inv' S T := by
  obtain ⟨a, a0, a1, w⟩ := h
  exact ⟨a, a0, a1, fun t t0 t1 => by rw [w t t0 t1]; exact cj_E g g' e S ⟨a0, a1⟩ t t0 t1⟩
theorem isCls_E {N c : Int} {mul mul' : Int → Int → Int} {inv inv' : Int → Int} (g : GT N mul inv) (g' : GT N mul' inv') (e : mulE N mul mul') (h : isCls N mul inv c) : isCls N mul' inv' c := by
  obtain ⟨F, f1, f2, f3⟩ := h
  refine ⟨F, fun i a b => SM_E e (f1 i a b), fun i j a b c d w => f2 i j a b c d (CJ_E g' g (mulE_symm e) w), fun T hT => ?_⟩
  obtain ⟨i, i0, i1, w⟩ := f3 T (SM_E (mulE_symm e) hT)
  exact ⟨i, i0, i1, CJ_E g g' e w⟩
def few (f : Int → Int) (n N : Int) : Prop := ∀ mul, isPr f n N mul → ¬ tooMany N mul
def clsB (f : Int → Int) (n N r : Int) : Prop := ∀ mul inv c, isPr f n N mul → GT N mul inv → isCls N mul inv c → 0 ≤ c → r ≤ c
/-- rows that stand in order stay -/
theorem plc_srt {f : Int → Int} {n N k : Int} (st : srt f n N) (k0 : 0 ≤ k) (k1 : k < N) : plc f n N k = k := by
  have e : plc f n N k = sm (fun j => if j < k then 1 else 0) N.toNat := by
    refine sm_congr (fun j j0 j1 => ?_)
    by_cases q : j < k
    · rw [bi_t (st j k j0 q k1), if_pos q]
    · rw [if_neg q, bi_f]
      intro w
      by_cases z : j = k
      · rw [z] at w; exact lx_irr w
      · exact lx_irr (lx_tr w (st k j k0 (by omega) (by omega)))
  have key : ∀ m : Nat, sm (fun j => if j < k then 1 else 0) m = if (m : Int) ≤ k then (m : Int) else k := by
    intro m
    induction m with
    | zero => rw [if_pos (by omega)]; rfl
    | succ m ih =>
      show sm (fun j => if j < k then 1 else 0) m + (if (m : Int) < k then 1 else 0) = _
      rw [ih]
      by_cases a : (m : Int) < k
      · rw [if_pos (by omega), if_pos a, if_pos (by omega)]; omega
      · rw [if_neg a]
        by_cases b : (m : Int) ≤ k
        · rw [if_pos b, if_neg (by omega)]; omega
        · rw [if_neg b, if_neg (by omega)]; omega
  rw [e, key, if_neg (by omega)]
section
variable {d : Nat} {G : List gS} {R V : gV} {M : Nat}
abbrev mIm (V : gV) (M : Nat) : Int → Int := fun i => V (M + 4) i
def imI (V : gV) (M : Nat) : Prop := GR (mIm V M) (V M 4) (V M 5) ∧ srt (mIm V M) (V M 4) (V M 5) ∧ (∀ s t, 0 ≤ s → s < V M 5 → 0 ≤ t → t < V M 5 → prP V M (V M 4) (V M 5) s t) ∧ (∀ s, 0 ≤ s → s < V M 5 → ivP V M (V M 5) s) ∧ ¬ tooMany (V M 5) (mMul V M)
theorem imI_GT (h : imI V M) : GT (V M 5) (mMul V M) (mInv V M) := pr_GT h.1 h.2.1 (fun s t a0 a1 b0 b1 => h.2.2.1 s t a0 a1 b0 b1) (fun s s0 s1 => h.2.2.2.1 s s0 s1)
theorem imI_pr (h : imI V M) : isPr (mIm V M) (V M 4) (V M 5) (mMul V M) := fun s t a0 a1 b0 b1 => h.2.2.1 s t a0 a1 b0 b1
theorem imI_congr {V' : gV} (e4 : V' M 4 = V M 4) (e5 : V' M 5 = V M 5) (c4 : ∀ i, V' (M + 4) i = V (M + 4) i) (c5 : ∀ i, V' (M + 5) i = V (M + 5) i) (c6 : ∀ i, V' (M + 6) i = V (M + 6) i) (h : imI V M) : imI V' M := by
  have a : mIm V' M = mIm V M := funext c4
  have b : mMul V' M = mMul V M := funext (fun s => funext (fun t => c5 _))
  unfold imI
  rw [e4, e5, a, b]
  refine ⟨h.1, h.2.1, fun s t x0 x1 y0 y1 => ?_, fun s x0 x1 => ?_, h.2.2.2.2⟩
  · unfold prP
    simp only [c4, c5]
    exact h.2.2.1 s t x0 x1 y0 y1
  · unfold ivP
    simp only [c5, c6]
    exact h.2.2.2.1 s x0 x1
theorem stP_self {V0 : gV} (h : stP V0 V M) : stP V V M := by
  have e := s1_GT (V0 := V0) (V := V) (M := M) ⟨h.1.1, h.1.2.1⟩
  obtain ⟨⟨h1, h2, h3, h4, h5, h6, h7, h8⟩, h9, h10⟩ := h
  refine ⟨⟨fun _ _ _ _ _ _ _ _ _ _ _ => rfl, ?_, ?_, h4, ?_, ?_, ?_, ?_⟩, h9, ?_⟩
  · rw [e.1, e.2.1, e.2.2.1]; exact h2
  · rw [e.1, e.2.1]
    intro a b a0 a1 b0 b1
    unfold ldP
    rw [e.1, e.2.1, e.2.2.1, e.2.2.2]
    exact h3 a b a0 a1 b0 b1
  · rw [e.2.1]; exact h5
  · rw [e.2.1]; exact h6
  · rw [e.2.1]; exact h7
  · rw [e.1, e.2.1, e.2.2.1, e.2.2.2]; exact h8
  · unfold sgX
    rw [e.1, e.2.1]; exact h10
/-- a group with its heaps -/
def GC (V : gV) (M : Nat) : Prop := imI V M ∧ stP V V M
theorem GC_few (h : GC V M) : few (mIm V M) (V M 4) (V M 5) := fun mul hm z => h.1.2.2.2.2 (many_E (isPr_E h.1.1 hm (imI_pr h.1)) z)
theorem GC_cls (h : GC V M) {r : Int} (hr : r ≤ V M 13) : clsB (mIm V M) (V M 4) (V M 5) r := by
  intro mul inv c hm g hc c0
  have := isCls_le (imI_GT h.1) h.2.1.2.2.2.2.2.2.2.1 (isCls_E g (imI_GT h.1) (isPr_E h.1.1 hm (imI_pr h.1)) hc) (by have := h.2.1.2.2.2.1; omega) c0
  omega
/-- what making a group leaves -/
def puF (V V' : gV) (M : Nat) : Prop := ∀ a i, ¬ (M + 4 ≤ a ∧ a ≤ M + 19) → ¬ (a = M ∧ (i = 4 ∨ i = 5 ∨ i = 10 ∨ i = 12 ∨ i = 13)) → V' a i = V a i
theorem build_ok {Va Vb Vc Vd : gV} {n v : Int} (h1 : tkP Va Vb M n) (h2 : fhP Vb Vc M v) (hv : v = 1) (h3 : stP Vc Vd M) : GC Vd M ∧ puF Va Vd M ∧ Vd M 4 = n ∧ Vd M 5 = Va M 10 ∧ (∀ k p, 0 ≤ k → k < Va M 10 → 0 ≤ p → p < n → Vd (M + 4) (8 * plc (fun i => Va (M + 7) i) n (Va M 10) k + p) = Va (M + 7) (8 * k + p)) := by
  obtain ⟨f2, h2⟩ := h2
  rcases h2 with ⟨_, hp, nm⟩ | ⟨z, _⟩
  · have c : ∀ a i, (a = M + 4 ∨ a = M + 5 ∨ a = M + 6 ∨ (a = M ∧ (i = 4 ∨ i = 5))) → Vd a i = Vb a i := fun a i q => by
      rw [h3.1.1 a i (by omega) (by omega) (by omega) (by omega) (by omega) (by omega) (by omega) (by omega) (by omega)]
      exact f2 a i (by omega) (by omega) (by omega) (by omega) (by omega) (by omega)
    obtain ⟨f1, im, pr, iv⟩ := h1
    have ib : imI Vb M := by
      unfold imI
      rw [im.1, im.2.1]
      refine ⟨im.2.2.1, im.2.2.2.1, pr, iv, ?_⟩
      have := nm
      rw [im.2.1] at this
      exact this
    refine ⟨⟨imI_congr (c _ _ (by omega)) (c _ _ (by omega)) (fun i => c _ _ (by omega)) (fun i => c _ _ (by omega)) (fun i => c _ _ (by omega)) ib, stP_self h3⟩, fun a i q1 q2 => ?_, ?_, ?_, fun k p k0 k1 p0 p1 => ?_⟩
    · rw [h3.1.1 a i (by omega) (by omega) (by omega) (by omega) (by omega) (by omega) (by omega) (by omega) (by omega), f2 a i (by omega) (by omega) (by omega) (by omega) (by omega) (by omega)]
      exact f1 a i (by omega) (by omega) (by omega) (by omega) (by omega)
    · rw [c _ _ (by omega)]; exact im.1
    · rw [c _ _ (by omega)]; exact im.2.1
    · rw [c _ _ (by omega)]; exact im.2.2.2.2.1 k p k0 k1 p0 p1
  · omega
theorem GR_congr {f f' : Int → Int} {n N : Int} (e : ∀ k p, 0 ≤ k → k < N → 0 ≤ p → p < n → f' (8 * k + p) = f (8 * k + p)) (h : GR f n N) : GR f' n N := by
  obtain ⟨g1, g2, g3, g4, g5, g6, g7, ⟨i, i0, i1, i2⟩, g9⟩ := h
  refine ⟨g1, g2, g3, g4, fun k p k0 k1 p0 p1 => by rw [e k p k0 k1 p0 p1]; exact g5 k p k0 k1 p0 p1, fun k p q k0 k1 p0 p1 q0 q1 w => ?_, fun i j i0 i1 j0 j1 w => ?_, ⟨i, i0, i1, fun p p0 p1 => by rw [e i p i0 i1 p0 p1]; exact i2 p p0 p1⟩, fun s t s0 s1 t0 t1 => ?_⟩
  · rw [e k p k0 k1 p0 p1, e k q k0 k1 q0 q1] at w
    exact g6 k p q k0 k1 p0 p1 q0 q1 w
  · exact g7 i j i0 i1 j0 j1 (fun p p0 p1 => by rw [← e i p i0 i1 p0 p1, ← e j p j0 j1 p0 p1]; exact w p p0 p1)
  · obtain ⟨k, k0, k1, k2⟩ := g9 s t s0 s1 t0 t1
    refine ⟨k, k0, k1, fun p p0 p1 => ?_⟩
    have a := g5 s p s0 s1 p0 p1
    rw [e k p k0 k1 p0 p1, e s p s0 s1 p0 p1, e t _ t0 t1 a.1 a.2]; exact k2 p p0 p1
theorem isPr_congr {f f' : Int → Int} {n N : Int} {mul : Int → Int → Int} (g : GR f n N) (e : ∀ k p, 0 ≤ k → k < N → 0 ≤ p → p < n → f' (8 * k + p) = f (8 * k + p)) (h : isPr f' n N mul) : isPr f n N mul := fun s t s0 s1 t0 t1 => by
  have m := h s t s0 s1 t0 t1
  refine ⟨m.1, m.2.1, fun p p0 p1 => ?_⟩
  have a := g.2.2.2.2.1 s p s0 s1 p0 p1
  have w := m.2.2 p p0 p1
  rw [e _ p m.1 m.2.1 p0 p1, e s p s0 s1 p0 p1, e t _ t0 t1 a.1 a.2] at w
  exact w
def puP (V V' : gV) (M : Nat) (f : Int → Int) (n N : Int) : Prop := GC V' M ∧ puF V V' M ∧ V' M 4 = n ∧ V' M 5 = N ∧ (∀ k p, 0 ≤ k → k < N → 0 ≤ p → p < n → V' (M + 4) (8 * k + p) = f (8 * k + p))
theorem puts_c (ly : lay8 G R M) {n N : Int} (g0 : GR (fun i => V (M + 20) i) n N) (st : srt (fun i => V (M + 20) i) n N) (fw : few (fun i => V (M + 20) i) n N) : cwv 5 (fun r V' => r = none ∧ puP V V' M (fun i => V (M + 20) i) n N) 180 [(4, (M : Int)), (4, ((M + 20 : Nat) : Int)), (0, n), (0, N)] G R V := by
  have N1 : 1 ≤ N ∧ N ≤ 120 := ⟨g0.2.2.1, g0.2.2.2.1⟩
  have n8 : 1 ≤ n ∧ n ≤ 8 := ⟨g0.1, g0.2.1⟩
  refine c_X8_puts (t_X8_puts_0 ly (ly8_25 ly).2 ⟨by omega, ?_⟩)
  generalize hV0 : V = V0 at g0 st fw ⊢
  refine loop1 (f := fun x => [some (4, (M : Int)), some (4, ((M + 20 : Nat) : Int)), some (0, n), some (0, N), some (0, x)]) (fun x V => 0 ≤ x ∧ x ≤ 8 * N ∧ V M 10 = N ∧ (∀ a i, a ≠ M + 7 → ¬ (a = M ∧ i = 10) → V a i = V0 a i) ∧ ∀ i, 0 ≤ i → i < x → V (M + 7) i = V0 (M + 20) i) (fun x _ => (8 * N - x).toNat) (fun x V hx ih => ?_) 0 _ ⟨by omega, by omega, wr_same _ _ _ _, fun a i q1 q2 => wr_ne q2, fun i a b => by omega⟩
  obtain ⟨x0, x1, eN, fr, cp⟩ := hx
  refine t_X8_puts_8 ly (ly8_25 ly).2 ⟨by omega, by omega, fun c => ?_, fun c => ⟨by omega, fun _ => ⟨by omega, by omega, ih (x + 1) _ ⟨by omega, by omega, ?_, fun a i q1 q2 => ?_, fun i a b => ?_⟩ (by omega)⟩⟩⟩
  · have cp' : ∀ k p, 0 ≤ k → k < N → 0 ≤ p → p < n → V (M + 7) (8 * k + p) = V0 (M + 20) (8 * k + p) := fun k p k0 k1 p0 p1 => cp _ (by omega) (by omega)
    have ga : GR (fun i => V (M + 7) i) n (V M 10) := by rw [eN]; exact GR_congr cp' g0
    have sa : srt (fun i => V (M + 7) i) n N := by
      intro i j i0 ij j1
      obtain ⟨p, p0, p1, p2, p3⟩ := st i j i0 ij j1
      exact ⟨p, p0, p1, by dsimp only; rw [cp' i p i0 (by omega) p0 p1, cp' j p (by omega) j1 p0 p1]; exact p2, fun q q0 q1 => by dsimp only; rw [cp' i q i0 (by omega) q0 (by omega), cp' j q (by omega) j1 q0 (by omega)]; exact p3 q q0 q1⟩
    refine cw0_u (Nat.le_add_right 3 1) (takes_c ly ga) (fun Vb hb => ?_)
    have gb := tkP_GT hb
    have b5 : Vb M 5 = N := by rw [hb.2.1.2.1]; exact eN
    rw [eN, ← b5] at gb
    refine cwI_u (Nat.le_add_right 3 1) (finds_c ly gb (by omega)) (fun v Vc hc => ?_)
    -- there is room for all
    have prb : isPr (fun i => Vb (M + 4) i) n N (mMul Vb M) := by
      have := hb.2.2.1
      rw [eN] at this
      exact fun s t s0 s1 t0 t1 => this s t s0 s1 t0 t1
    have rows : ∀ k p, 0 ≤ k → k < N → 0 ≤ p → p < n → Vb (M + 4) (8 * k + p) = V0 (M + 20) (8 * k + p) := by
      intro k p k0 k1 p0 p1
      have := hb.2.1.2.2.2.2.1 k p k0 (by omega) p0 p1
      rw [eN, plc_srt sa k0 k1] at this
      rw [this]; exact cp' k p k0 k1 p0 p1
    have pr0 : isPr (fun i => V0 (M + 20) i) n N (mMul Vb M) := isPr_congr g0 rows prb
    have v1 : v = 1 := by
      rcases hc.2 with ⟨a, _⟩ | ⟨_, b⟩
      · exact a
      · rw [b5] at b
        exact absurd b (fw _ pr0)
    have hps : hpsP (Vb M 5) (Vc M 12) (mMul Vb M) (mHas Vc M) (fun k => Vc (M + 10) k) := by
      rcases hc.2 with ⟨_, a, _⟩ | ⟨a, _⟩
      · exact a
      · omega
    have c5 : Vc M 5 = Vb M 5 := hc.1 _ _ (by omega) (by omega) (by omega) (by omega) (by omega) (by omega)
    have cm : mMul Vc M = mMul Vb M := funext (fun s => funext (fun t => hc.1 _ _ (by omega) (by omega) (by omega) (by omega) (by omega) (by omega)))
    have ci : mInv Vc M = mInv Vb M := funext (fun s => hc.1 _ _ (by omega) (by omega) (by omega) (by omega) (by omega) (by omega))
    refine cw0_u (Nat.le_refl _) (settles_c (V := Vc) ly (by rw [c5, cm, ci]; exact gb) (by omega) (by rw [c5, cm]; exact hps)) (fun Vd hd => ⟨rfl, ?_⟩)
    obtain ⟨r1, r2, r3, r4, r5⟩ := build_ok hb hc v1 hd
    refine ⟨r1, fun a i q1 q2 => ?_, r3, by rw [r4]; exact eN, fun k p k0 k1 p0 p1 => ?_⟩
    · rw [r2 a i q1 q2]; exact fr a i (by omega) (by omega)
    · have := r5 k p k0 (by omega) p0 p1
      rw [eN, plc_srt sa k0 k1] at this
      rw [this]; exact cp' k p k0 k1 p0 p1
  · rw [wr_a (by omega)]; exact eN
  · rw [wr_a q1]; exact fr a i q1 q2
  · by_cases q : i = x
    · rw [q, wr_same]; exact fr _ _ (by omega) (by omega)
    · rw [wr_i q]; exact cp i a (by omega)
end
