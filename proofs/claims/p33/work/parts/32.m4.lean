/-! rows in their order, and what they give -/
/-- row a of f stands before row b of g -/
def lx (f : Int → Int) (n a b : Int) : Prop := ∃ p, 0 ≤ p ∧ p < n ∧ f (8 * a + p) < f (8 * b + p) ∧ ∀ q, 0 ≤ q → q < p → f (8 * a + q) = f (8 * b + q)
def srt (f : Int → Int) (n N : Int) : Prop := ∀ i j, 0 ≤ i → i < j → j < N → lx f n i j
theorem lx_irr {f : Int → Int} {n a : Int} : ¬ lx f n a a := by
  rintro ⟨p, _, _, h, _⟩
  omega
theorem lx_tr {f : Int → Int} {n a b c : Int} (h1 : lx f n a b) (h2 : lx f n b c) : lx f n a c := by
  obtain ⟨p, p0, p1, p2, p3⟩ := h1
  obtain ⟨q, q0, q1, q2, q3⟩ := h2
  rcases Int.lt_trichotomy p q with z | z | z
  · refine ⟨p, p0, p1, by have := q3 p p0 z; omega, fun r r0 r1 => ?_⟩
    rw [p3 r r0 r1, q3 r r0 (by omega)]
  · subst z
    exact ⟨p, p0, p1, by omega, fun r r0 r1 => by rw [p3 r r0 r1, q3 r r0 r1]⟩
  · refine ⟨q, q0, q1, by have := p3 q q0 z; omega, fun r r0 r1 => ?_⟩
    rw [p3 r r0 (by omega), q3 r r0 r1]
theorem lx_tri {f : Int → Int} {n a b : Int} (h : ¬ ∀ p, 0 ≤ p → p < n → f (8 * a + p) = f (8 * b + p)) : lx f n a b ∨ lx f n b a := by
  have key : ∀ m : Nat, (∀ p : Int, 0 ≤ p → p < m → p < n → f (8 * a + p) = f (8 * b + p)) ∨ lx f n a b ∨ lx f n b a := by
    intro m
    induction m with
    | zero => left; intro p h0 h1; omega
    | succ m ih =>
      rcases ih with ih | ih
      · by_cases e : (m : Int) < n
        · rcases Int.lt_trichotomy (f (8 * a + m)) (f (8 * b + m)) with z | z | z
          · right; left; exact ⟨m, by omega, e, z, fun q q0 q1 => ih q q0 q1 (by omega)⟩
          · left
            intro p h0 h1 h2
            by_cases q : p = m
            · rw [q]; exact z
            · exact ih p h0 (by omega) h2
          · right; right; exact ⟨m, by omega, e, z, fun q q0 q1 => (ih q q0 q1 (by omega)).symm⟩
        · left; intro p h0 h1 h2; exact ih p h0 (by omega) h2
      · right; exact ih
  rcases key n.toNat with k | k
  · exact absurd (fun p h0 h1 => k p h0 (by omega) h1) h
  · exact k
/-- which place a row comes to -/
noncomputable def plc (f : Int → Int) (n N k : Int) : Int := sm (fun j => bi (lx f n j k)) N.toNat
theorem plc_r {f : Int → Int} {n N k : Int} (k0 : 0 ≤ k) (k1 : k < N) : 0 ≤ plc f n N k ∧ plc f n N k < N := by
  have b := sm_b (f := fun j => bi (lx f n j k)) (n := N.toNat) (fun i _ _ => by rcases bi_01 (lx f n i k) with z | z <;> omega)
  refine ⟨b.1, ?_⟩
  have : sm (fun j => bi (lx f n j k)) N.toNat < sm (fun _ => 1) N.toNat := by
    refine sm_lt (j := k) (fun i _ _ => by rcases bi_01 (lx f n i k) with z | z <;> omega) k0 (by omega) ?_
    show bi (lx f n k k) < 1
    rw [bi_f lx_irr]; omega
  have e := (sm_b (f := fun _ => 1) (n := N.toNat) (fun i _ _ => ⟨by omega, by omega⟩)).2
  show sm _ _ < N
  omega
theorem plc_lt {f : Int → Int} {n N i j : Int} (i0 : 0 ≤ i) (i1 : i < N) (h : lx f n i j) : plc f n N i < plc f n N j := by
  refine sm_lt (j := i) (fun l _ _ => ?_) i0 (by omega) ?_
  · by_cases z : lx f n l i
    · rw [bi_t z, bi_t (lx_tr z h)]; exact Int.le_refl _
    · rw [bi_f z]; rcases bi_01 (lx f n l j) with w | w <;> omega
  · rw [bi_f lx_irr, bi_t h]; omega
theorem plc_inj {f : Int → Int} {n N i j : Int} (g : GR f n N) (i0 : 0 ≤ i) (i1 : i < N) (j0 : 0 ≤ j) (j1 : j < N) (e : plc f n N i = plc f n N j) : i = j := by
  apply Classical.byContradiction
  intro z
  have : ¬ ∀ p, 0 ≤ p → p < n → f (8 * i + p) = f (8 * j + p) := fun w => z (g.2.2.2.2.2.2.1 i j i0 i1 j0 j1 w)
  rcases lx_tri this with w | w
  · have := plc_lt i0 i1 w; omega
  · have := plc_lt j0 j1 w; omega
theorem plc_sur {f : Int → Int} {n N a : Int} (g : GR f n N) (a0 : 0 ≤ a) (a1 : a < N) : ∃ k, 0 ≤ k ∧ k < N ∧ plc f n N k = a := pig (φ := plc f n N) (by have := g.2.2.1; omega) (fun i h0 h1 => plc_r h0 h1) (fun i j h0 h1 h2 h3 e => plc_inj g h0 h1 h2 h3 e) a0 a1
/-- rows laid in their order -/
theorem GR_srt {f f2 o : Int → Int} {n N : Int} (g : GR f n N) (ho : ∀ k, 0 ≤ k → k < N → o (plc f n N k) = k) (hf : ∀ k p, 0 ≤ k → k < N → 0 ≤ p → p < n → f2 (8 * k + p) = f (8 * o k + p)) : GR f2 n N ∧ srt f2 n N := by
  have oo : ∀ a, 0 ≤ a → a < N → 0 ≤ o a ∧ o a < N ∧ plc f n N (o a) = a := by
    intro a a0 a1
    obtain ⟨k, k0, k1, k2⟩ := plc_sur g a0 a1
    have := ho k k0 k1
    rw [k2] at this
    rw [this]; exact ⟨k0, k1, k2⟩
  have st : srt f2 n N := by
    intro i j i0 ij j1
    obtain ⟨a0, a1, a2⟩ := oo i i0 (by omega)
    obtain ⟨b0, b1, b2⟩ := oo j (by omega) j1
    have : ¬ ∀ p, 0 ≤ p → p < n → f (8 * o i + p) = f (8 * o j + p) := by
      intro w
      have := g.2.2.2.2.2.2.1 _ _ a0 a1 b0 b1 w
      rw [this] at a2
      omega
    rcases lx_tri this with w | w
    · obtain ⟨p, p0, p1, p2, p3⟩ := w
      refine ⟨p, p0, p1, ?_, fun q q0 q1 => ?_⟩
      · rw [hf i p i0 (by omega) p0 p1, hf j p (by omega) j1 p0 p1]; exact p2
      · rw [hf i q i0 (by omega) q0 (by omega), hf j q (by omega) j1 q0 (by omega)]; exact p3 q q0 q1
    · have := plc_lt b0 b1 w
      omega
  refine ⟨?_, st⟩
  obtain ⟨g1, g2, g3, g4, g5, g6, g7, ⟨e, e0, e1, e2⟩, g9⟩ := g
  refine ⟨g1, g2, g3, g4, fun k p k0 k1 p0 p1 => ?_, fun k p q k0 k1 p0 p1 q0 q1 w => ?_, fun i j i0 i1 j0 j1 w => ?_, ?_, fun s t s0 s1 t0 t1 => ?_⟩
  · obtain ⟨a0, a1, a2⟩ := oo k k0 k1
    rw [hf k p k0 k1 p0 p1]; exact g5 _ p a0 a1 p0 p1
  · obtain ⟨a0, a1, a2⟩ := oo k k0 k1
    rw [hf k p k0 k1 p0 p1, hf k q k0 k1 q0 q1] at w
    exact g6 _ p q a0 a1 p0 p1 q0 q1 w
  · obtain ⟨a0, a1, a2⟩ := oo i i0 i1
    obtain ⟨b0, b1, b2⟩ := oo j j0 j1
    have := g7 _ _ a0 a1 b0 b1 (fun p p0 p1 => by rw [← hf i p i0 i1 p0 p1, ← hf j p j0 j1 p0 p1]; exact w p p0 p1)
    rw [← a2, ← b2, this]
  · have r := plc_r (f := f) (n := n) e0 e1
    refine ⟨plc f n N e, r.1, r.2, fun p p0 p1 => ?_⟩
    rw [hf _ p r.1 r.2 p0 p1, ho e e0 e1]; exact e2 p p0 p1
  · obtain ⟨a0, a1, a2⟩ := oo s s0 s1
    obtain ⟨b0, b1, b2⟩ := oo t t0 t1
    obtain ⟨k, k0, k1, k2⟩ := g9 _ _ a0 a1 b0 b1
    have r := plc_r (f := f) (n := n) k0 k1
    refine ⟨plc f n N k, r.1, r.2, fun p p0 p1 => ?_⟩
    have c := g5 _ p a0 a1 p0 p1
    rw [hf _ p r.1 r.2 p0 p1, ho k k0 k1, k2 p p0 p1, hf s p s0 s1 p0 p1, hf t _ t0 t1 c.1 c.2]
/-- the products of rows -/
def isPr (f : Int → Int) (n N : Int) (mul : Int → Int → Int) : Prop := ∀ s t, 0 ≤ s → s < N → 0 ≤ t → t < N → 0 ≤ mul s t ∧ mul s t < N ∧ ∀ p, 0 ≤ p → p < n → f (8 * mul s t + p) = f (8 * t + f (8 * s + p))
theorem id_0 {f : Int → Int} {n N : Int} (g : GR f n N) (st : srt f n N) : ∀ p, 0 ≤ p → p < n → f p = p := by
  obtain ⟨g1, g2, g3, g4, g5, g6, g7, ⟨e, e0, e1, e2⟩, g9⟩ := g
  have : e = 0 := by
    apply Classical.byContradiction
    intro z
    obtain ⟨p, p0, p1, p2, p3⟩ := st 0 e (by omega) (by omega) e1
    rw [e2 p p0 p1] at p2
    have a := g5 0 p (by omega) (by omega) p0 p1
    have b := p3 (f (8 * 0 + p)) a.1 p2
    rw [e2 _ a.1 a.2] at b
    have := g6 0 _ p (by omega) (by omega) a.1 a.2 p0 p1 b
    omega
  subst this
  intro p p0 p1
  have := e2 p p0 p1
  rw [show 8 * (0 : Int) + p = p by omega] at this
  exact this
theorem pr_inj {f : Int → Int} {n N : Int} {mul : Int → Int → Int} (g : GR f n N) (hm : isPr f n N mul) {s t u : Int} (s0 : 0 ≤ s ∧ s < N) (t0 : 0 ≤ t ∧ t < N) (u0 : 0 ≤ u ∧ u < N) (e : mul s t = mul s u) : t = u := by
  obtain ⟨g1, g2, g3, g4, g5, g6, g7, g8, g9⟩ := g
  refine g7 t u t0.1 t0.2 u0.1 u0.2 (fun q q0 q1 => ?_)
  obtain ⟨p, p0, p1, p2⟩ := pig (φ := fun p => f (8 * s + p)) (n := n) (by omega) (fun i h0 h1 => g5 s i s0.1 s0.2 h0 h1) (fun i j h0 h1 h2 h3 w => g6 s i j s0.1 s0.2 h0 h1 h2 h3 w) q0 q1
  have a := (hm s t s0.1 s0.2 t0.1 t0.2).2.2 p p0 p1
  have b := (hm s u s0.1 s0.2 u0.1 u0.2).2.2 p p0 p1
  rw [p2] at a b
  rw [← a, ← b, e]
theorem pr_eq {f : Int → Int} {n N : Int} {mul : Int → Int → Int} (g : GR f n N) (hm : isPr f n N mul) {s t k : Int} (s0 : 0 ≤ s ∧ s < N) (t0 : 0 ≤ t ∧ t < N) (k0 : 0 ≤ k ∧ k < N) (e : ∀ p, 0 ≤ p → p < n → f (8 * k + p) = f (8 * t + f (8 * s + p))) : mul s t = k := by
  have m := hm s t s0.1 s0.2 t0.1 t0.2
  exact g.2.2.2.2.2.2.1 _ _ m.1 m.2.1 k0.1 k0.2 (fun p p0 p1 => by rw [m.2.2 p p0 p1, e p p0 p1])
theorem pr_GT {f : Int → Int} {n N : Int} {mul : Int → Int → Int} {inv : Int → Int} (g : GR f n N) (st : srt f n N) (hm : isPr f n N mul) (hi : ∀ s, 0 ≤ s → s < N → 0 ≤ inv s ∧ inv s < N ∧ mul s (inv s) = 0) : GT N mul inv := by
  have i0 := id_0 g st
  have g5 := g.2.2.2.2.1
  have N1 := g.2.2.1
  have idl : ∀ t, 0 ≤ t → t < N → mul 0 t = t := fun t t0 t1 => pr_eq g hm ⟨by omega, by omega⟩ ⟨t0, t1⟩ ⟨t0, t1⟩ (fun p p0 p1 => by rw [show 8 * (0 : Int) + p = p by omega, i0 p p0 p1])
  have idr : ∀ t, 0 ≤ t → t < N → mul t 0 = t := fun t t0 t1 => pr_eq g hm ⟨t0, t1⟩ ⟨by omega, by omega⟩ ⟨t0, t1⟩ (fun p p0 p1 => by
    have a := g5 t p t0 t1 p0 p1
    rw [show 8 * (0 : Int) + f (8 * t + p) = f (8 * t + p) by omega, i0 _ a.1 a.2])
  have asc : ∀ r s t, 0 ≤ r → r < N → 0 ≤ s → s < N → 0 ≤ t → t < N → mul (mul r s) t = mul r (mul s t) := by
    intro r s t r0 r1 s0 s1 t0 t1
    have m1 := hm r s r0 r1 s0 s1
    have m2 := hm s t s0 s1 t0 t1
    have m3 := hm r (mul s t) r0 r1 m2.1 m2.2.1
    refine pr_eq g hm ⟨m1.1, m1.2.1⟩ ⟨t0, t1⟩ ⟨m3.1, m3.2.1⟩ (fun p p0 p1 => ?_)
    have a := g5 r p r0 r1 p0 p1
    rw [m3.2.2 p p0 p1, m2.2.2 _ a.1 a.2, m1.2.2 p p0 p1]
  refine ⟨N1, fun s t s0 s1 t0 t1 => ⟨(hm s t s0 s1 t0 t1).1, (hm s t s0 s1 t0 t1).2.1⟩, fun t t0 t1 => ⟨idl t t0 t1, idr t t0 t1⟩, asc, fun s s0 s1 => ?_⟩
  obtain ⟨a0, a1, a2⟩ := hi s s0 s1
  obtain ⟨b0, b1, b2⟩ := hi (inv s) a0 a1
  refine ⟨a0, a1, a2, ?_⟩
  have h := asc s (inv s) (inv (inv s)) s0 s1 a0 a1 b0 b1
  rw [a2, b2, idl _ b0 b1, idr s s0 s1] at h
  rw [h] at b2
  exact b2
