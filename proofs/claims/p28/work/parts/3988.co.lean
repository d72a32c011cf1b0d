/-! the cosets of a heap as points: what heaps leave of them is the table's row -/
section
variable {n N H C : Int} {mul act : Int → Int → Int} {inv : Int → Int} {S : Int → Int → Int} {sz co fo nu : Int → Int} {A : Int → Int} {a b c d h u : Int}
/-- the same coset -/
def cE (N : Int) (mul : Int → Int → Int) (inv : Int → Int) (A : Int → Int) (a b : Int) : Prop := (0 ≤ a ∧ a < N) → (0 ≤ b ∧ b < N) → A (mul a (inv b)) = 1
theorem cE_rf (gt : GT N mul inv) (hA : SM N mul A) (a : Int) : cE N mul inv A a a := fun a0 _ => by
  rw [(gt.2.2.2.2 a a0.1 a0.2).2.2.1]; exact hA.2.1
theorem cE_sy (gt : GT N mul inv) (hA : SM N mul A) (a0 : 0 ≤ a ∧ a < N) (b0 : 0 ≤ b ∧ b < N) (e : cE N mul inv A a b) : cE N mul inv A b a := fun _ _ => by
  have q := SM_inv gt hA (GT_m gt a0 (GT_i gt b0)) (e a0 b0)
  rw [inv_mul gt a0 (GT_i gt b0), inv_inv' gt b0] at q
  exact q
theorem cE_tr (gt : GT N mul inv) (hA : SM N mul A) (a0 : 0 ≤ a ∧ a < N) (b0 : 0 ≤ b ∧ b < N) (c0 : 0 ≤ c ∧ c < N) (e : cE N mul inv A a b) (f : cE N mul inv A b c) : cE N mul inv A a c := fun _ _ => by
  have ib := GT_i gt b0
  have ic := GT_i gt c0
  have x0 := GT_m gt a0 ib
  have y0 := GT_m gt b0 ic
  have q := hA.2.2 _ _ x0.1 x0.2 y0.1 y0.2 (e a0 b0) (f b0 c0)
  rw [← GT_a gt x0 b0 ic, GT_rj gt a0 b0] at q
  exact q
theorem cE_m (gt : GT N mul inv) (a0 : 0 ≤ a ∧ a < N) (b0 : 0 ≤ b ∧ b < N) (c0 : 0 ≤ c ∧ c < N) (e : cE N mul inv A a b) : cE N mul inv A (mul a c) (mul b c) := fun _ _ => by
  have ib := GT_i gt b0
  have ic := GT_i gt c0
  have ac := GT_m gt a0 c0
  rw [inv_mul gt b0 c0, ← GT_a gt ac ic ib, GT_ri gt a0 c0]
  exact e a0 b0
theorem RZ_cos (gt : GT N mul inv) (hp : hpsP N H mul S sz) (cl : clX N H C mul inv S co fo nu) (c0 : 0 ≤ c ∧ c < C) : RZ N C mul S fo (fun d => tbx N mul inv S fo c d) := by
  have fc := (cl.2.2.1 c c0.1 c0.2).1
  have hA := (hp.2.2.1 (fo c) fc.1 fc.2).1
  have en := GT_n gt
  obtain ⟨K, cn, rp, nn, nc⟩ := nc_ex (E := cE N mul inv (S (fo c))) (cE_rf gt hA) N.toNat
  rw [en] at nc
  have eK : ((K.toNat : Nat) : Int) = K := by have := nc.1; omega
  have rr : ∀ i, 0 ≤ i → i < K → 0 ≤ rp i ∧ rp i < N := fun i i0 i1 => (nc.2.2.1 i i0 i1).1
  have cr : ∀ j, (0 ≤ j ∧ j < N) → 0 ≤ cn j ∧ cn j < K := fun j j0 => (nc.2.1 j j0.1 j0.2).1
  have ce : ∀ j, (0 ≤ j ∧ j < N) → cE N mul inv (S (fo c)) (rp (cn j)) j := fun j j0 => (nc.2.1 j j0.1 j0.2).2.2
  -- the same number just for the same coset
  have eq : ∀ a b, (0 ≤ a ∧ a < N) → (0 ≤ b ∧ b < N) → (cn a = cn b ↔ cE N mul inv (S (fo c)) a b) := fun a b a0 b0 => by
    have ra := rr _ (cr a a0).1 (cr a a0).2
    have rb := rr _ (cr b b0).1 (cr b b0).2
    constructor
    · intro e
      have q := ce b b0
      rw [← e] at q
      exact cE_tr gt hA a0 ra b0 (cE_sy gt hA ra a0 (ce a a0)) q
    · intro e
      have q : cE N mul inv (S (fo c)) (rp (cn a)) (rp (cn b)) := cE_tr gt hA ra b0 rb (cE_tr gt hA ra a0 b0 (ce a a0) e) (cE_sy gt hA rb b0 (ce b b0))
      rcases Int.lt_trichotomy (cn a) (cn b) with w | w | w
      · exact absurd q (nc.2.2.2.2.1 _ _ (cr a a0).1 w (cr b b0).2)
      · exact w
      · exact absurd (cE_sy gt hA ra rb q) (nc.2.2.2.2.1 _ _ (cr b b0).1 w (cr a a0).2)
  refine ⟨K, fun i g => cn (mul (rp i) g), ⟨by omega, fun i g i0 i1 g0 g1 => cr _ (GT_m gt (rr i i0 i1) ⟨g0, g1⟩), fun i i0 i1 => ?_, fun i a b i0 i1 a0 a1 b0 b1 => ?_⟩, fun d d0 d1 => ?_⟩
  · (try dsimp only)
    have r := rr i i0 i1
    rw [(gt.2.2.1 (rp i) r.1 r.2).2]
    exact (nc.2.2.1 i i0 i1).2
  · (try dsimp only)
    have r := rr i i0 i1
    have y0 := GT_m gt r ⟨a0, a1⟩
    have z0 := rr _ (cr _ y0).1 (cr _ y0).2
    rw [← GT_a gt r ⟨a0, a1⟩ ⟨b0, b1⟩]
    refine ((eq _ _ (GT_m gt z0 ⟨b0, b1⟩) (GT_m gt y0 ⟨b0, b1⟩)).mpr ?_).symm
    exact cE_m gt z0 y0 ⟨b0, b1⟩ (ce _ y0)
  · have fd := (cl.2.2.1 d d0 d1).1
    -- what it is for heap d to leave the coset of a
    obtain ⟨W, hW⟩ : ∃ W : Int → Prop, W = fun a => ∀ t, 0 ≤ t → t < N → S (fo d) t = 1 → S (fo c) (mul (mul a t) (inv a)) = 1 := ⟨_, rfl⟩
    have w1 : ∀ i, 0 ≤ i → i < K → ((True ∧ ∀ t, 0 ≤ t → t < N → S (fo d) t = 1 → cn (mul (rp i) t) = i) ↔ W (rp i)) := fun i i0 i1 => by
      have r := rr i i0 i1
      rw [hW]
      constructor
      · intro q t t0 t1 s
        have k := q.2 t t0 t1 s
        have y0 := GT_m gt r ⟨t0, t1⟩
        have k2 : cn (mul (rp i) t) = cn (rp i) := by rw [k]; exact (nc.2.2.1 i i0 i1).2.symm
        exact (eq _ _ y0 r).mp k2 y0 r
      · intro q
        refine ⟨trivial, fun t t0 t1 s => ?_⟩
        have y0 := GT_m gt r ⟨t0, t1⟩
        have k := (eq _ _ y0 r).mpr (fun _ _ => q t t0 t1 s)
        rw [k]
        exact (nc.2.2.1 i i0 i1).2
    have w2 : ∀ a, (0 ≤ a ∧ a < N) → (sub1 N (cj N mul inv (S (fo d)) (inv a)) (S (fo c)) ↔ W a) := fun a a0 => by
      have ia := GT_i gt a0
      rw [hW]
      constructor
      · intro q t t0 t1 s
        have y0 := GT_m gt (GT_m gt a0 ⟨t0, t1⟩) ia
        refine q _ y0.1 y0.2 ((cj_in gt).mpr ⟨t, t0, t1, s, ?_⟩)
        rw [inv_inv' gt a0]
      · intro q x x0 x1 s
        obtain ⟨t, t0, t1, s2, e⟩ := (cj_in gt).mp s
        rw [inv_inv' gt a0] at e
        rw [← e]
        exact q t t0 t1 s2
    have w3 : ∀ a b, (0 ≤ a ∧ a < N) → (0 ≤ b ∧ b < N) → cE N mul inv (S (fo c)) a b → W b → W a := fun a b a0 b0 e q => by
      rw [hW] at q ⊢
      intro t t0 t1 s
      have ia := GT_i gt a0
      have ib := GT_i gt b0
      have s0 := GT_m gt a0 ib
      have s1 := e a0 b0
      have y0 := GT_m gt (GT_m gt b0 ⟨t0, t1⟩) ib
      have z0 := GT_m gt s0 y0
      have k := hA.2.2 _ _ z0.1 z0.2 (GT_i gt s0).1 (GT_i gt s0).2 (hA.2.2 _ _ s0.1 s0.2 y0.1 y0.2 s1 (q t t0 t1 s)) (SM_inv gt hA s0 s1)
      have bt := GT_m gt b0 ⟨t0, t1⟩
      have e1 : mul (mul a (inv b)) (mul (mul b t) (inv b)) = mul (mul a t) (inv b) := by
        rw [← GT_a gt s0 bt ib, ← GT_a gt s0 b0 ⟨t0, t1⟩, GT_rj gt a0 b0]
      have e2 : inv (mul a (inv b)) = mul b (inv a) := by rw [inv_mul gt a0 ib, inv_inv' gt b0]
      have at0 := GT_m gt a0 ⟨t0, t1⟩
      rw [e1, e2, ← GT_a gt (GT_m gt at0 ib) b0 ia, GT_rj gt at0 b0] at k
      exact k
    have num : sm (fun g => bi (sub1 N (cj N mul inv (S (fo d)) g) (S (fo c)))) N.toNat = fx K N S (fun i g => cn (mul (rp i) g)) (fun _ => True) (fo d) * sm (S (fo c)) N.toNat := by
      rw [← sm_iv gt (fun g => bi (sub1 N (cj N mul inv (S (fo d)) g) (S (fo c)))), sm_fib (c := cn) (m := K.toNat) (fun a a0 a1 => by have := cr a ⟨a0, by omega⟩; omega)]
      unfold fx
      rw [← sm_mc]
      refine sm_congr (fun i i0 i1 => ?_)
      have r := rr i i0 (by omega)
      (try dsimp only)
      rw [bi_c (w1 i i0 (by omega)), ← sm_mr gt (GT_i gt r) (S (fo c)), ← sm_cm]
      refine sm_congr (fun a a0 a1 => ?_)
      have a0' : 0 ≤ a ∧ a < N := ⟨a0, by omega⟩
      have x0 := GT_m gt a0' (GT_i gt r)
      (try dsimp only)
      by_cases q : cn a = i
      · have e : cE N mul inv (S (fo c)) a (rp i) := (eq _ _ a0' r).mp (by rw [q]; exact (nc.2.2.1 i i0 (by omega)).2.symm)
        rw [bi_t q, Int.one_mul, e a0' r, Int.mul_one]
        exact bi_c ⟨fun k => w3 _ _ r a0' (cE_sy gt hA a0' r e) ((w2 a a0').mp k), fun k => (w2 a a0').mpr (w3 _ _ a0' r e k)⟩
      · have z : S (fo c) (mul a (inv (rp i))) = 0 := by
          rcases hA.1 _ x0.1 x0.2 with y | y
          · exact y
          · exact absurd ((eq _ _ a0' r).mpr (fun _ _ => y)) (by rw [(nc.2.2.1 i i0 (by omega)).2]; exact q)
        rw [bi_f q, z, Int.zero_mul, Int.mul_zero]
    (try dsimp only)
    unfold tbx
    have p1 := (sz_p gt hp fc).1
    rw [(hp.2.2.1 (fo c) fc.1 fc.2).2] at p1
    rw [num, Int.mul_ediv_cancel _ (by omega)]
end
