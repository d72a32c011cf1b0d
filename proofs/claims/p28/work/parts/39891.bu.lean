/-! rounds: how many there are, and the words that are the same all over each -/
section
variable {n N : Int} {mul act : Int → Int → Int} {inv : Int → Int} {A : Int → Int} {x y g : Int} {k : Int}
theorem sm_ml (gt : GT N mul inv) (g0 : 0 ≤ g ∧ g < N) (f : Int → Int) : sm (fun t => f (mul g t)) N.toNat = sm f N.toNat := by
  have en := GT_n gt
  refine sm_perm (σ := fun t => mul g t) (fun t t0 t1 => by have := GT_m gt g0 (b := t) ⟨t0, by omega⟩; (try dsimp only); omega) (fun s t s0 s1 t0 t1 e => GT_cl gt g0 ⟨s0, by omega⟩ ⟨t0, by omega⟩ e)
/-- one turn of A leads x to y -/
def rE (N : Int) (A : Int → Int) (act : Int → Int → Int) (x y : Int) : Prop := x = y ∨ ∃ t, (0 ≤ t ∧ t < N) ∧ A t = 1 ∧ act x t = y
theorem rE_sy (gt : GT N mul inv) (as : AS n N mul act) (hA : SM N mul A) (x0 : 0 ≤ x ∧ x < n) (e : rE N A act x y) : rE N A act y x := by
  rcases e with e | ⟨t, t0, a, e⟩
  · exact Or.inl e.symm
  · exact Or.inr ⟨inv t, GT_i gt t0, SM_inv gt hA t0 a, by rw [← e, AS_i gt as x0 t0]⟩
theorem rE_tr (gt : GT N mul inv) (as : AS n N mul act) (hA : SM N mul A) (x0 : 0 ≤ x ∧ x < n) {z : Int} (e : rE N A act x y) (f : rE N A act y z) : rE N A act x z := by
  rcases e with e | ⟨t, t0, a, e⟩
  · rw [e]; exact f
  · rcases f with f | ⟨s, s0, b, f⟩
    · rw [← f]; exact Or.inr ⟨t, t0, a, e⟩
    · exact Or.inr ⟨mul t s, GT_m gt t0 s0, hA.2.2 t s t0.1 t0.2 s0.1 s0.2 a b, by rw [AS_m as x0 t0 s0, e, f]⟩
/-- a numbering of the rounds -/
def rnP (n N K : Int) (A : Int → Int) (act : Int → Int → Int) (cn rp : Int → Int) : Prop := 0 ≤ K ∧ (∀ x, 0 ≤ x → x < n → 0 ≤ cn x ∧ cn x < K) ∧ (∀ i, 0 ≤ i → i < K → (0 ≤ rp i ∧ rp i < n) ∧ cn (rp i) = i) ∧ ∀ x y, (0 ≤ x ∧ x < n) → (0 ≤ y ∧ y < n) → (cn x = cn y ↔ rE N A act x y)
theorem rn_ex (gt : GT N mul inv) (as : AS n N mul act) (hA : SM N mul A) : ∃ K cn rp, rnP n N K A act cn rp := by
  have en := AS_n as
  obtain ⟨K, cn, rp, nn, nc⟩ := nc_ex (E := rE N A act) (fun x => Or.inl rfl) n.toNat
  rw [en] at nc
  have cr : ∀ x, (0 ≤ x ∧ x < n) → 0 ≤ cn x ∧ cn x < K := fun x x0 => (nc.2.1 x x0.1 x0.2).1
  have ce : ∀ x, (0 ≤ x ∧ x < n) → rE N A act (rp (cn x)) x := fun x x0 => (nc.2.1 x x0.1 x0.2).2.2
  have rr : ∀ i, 0 ≤ i → i < K → 0 ≤ rp i ∧ rp i < n := fun i i0 i1 => (nc.2.2.1 i i0 i1).1
  refine ⟨K, cn, rp, nc.1.1, fun x x0 x1 => cr x ⟨x0, x1⟩, fun i i0 i1 => nc.2.2.1 i i0 i1, fun x y x0 y0 => ?_⟩
  have rx := rr _ (cr x x0).1 (cr x x0).2
  have ry := rr _ (cr y y0).1 (cr y y0).2
  constructor
  · intro e
    have q := ce y y0
    rw [← e] at q
    exact rE_tr gt as hA x0 (rE_sy gt as hA rx (ce x x0)) q
  · intro e
    have q : rE N A act (rp (cn x)) (rp (cn y)) := rE_tr gt as hA rx (rE_tr gt as hA rx (ce x x0) e) (rE_sy gt as hA ry (ce y y0))
    rcases Int.lt_trichotomy (cn x) (cn y) with w | w | w
    · exact absurd q (nc.2.2.2.2.1 _ _ (cr x x0).1 w (cr y y0).2)
    · exact w
    · exact absurd (rE_sy gt as hA rx q) (nc.2.2.2.2.1 _ _ (cr y y0).1 w (cr x x0).2)
/-- what the turns of A leave, all together, is the rounds times A's size -/
theorem rn_b {K : Int} {cn rp : Int → Int} (gt : GT N mul inv) (as : AS n N mul act) (hA : SM N mul A) (rn : rnP n N K A act cn rp) : sm (fun t => A t * sm (fun x => bi (act x t = x)) n.toNat) N.toNat = K * sm A N.toNat := by
  have en := AS_n as
  have eN := GT_n gt
  have eK : ((K.toNat : Nat) : Int) = K := Int.toNat_of_nonneg rn.1
  have a1 : sm (fun t => A t * sm (fun x => bi (act x t = x)) n.toNat) N.toNat = sm (fun x => sm (fun t => A t * bi (act x t = x)) N.toNat) n.toNat := by
    rw [← sm_swap (fun t x => A t * bi (act x t = x)) n.toNat N.toNat]
    exact sm_congr (fun t t0 t1 => (sm_cm _ _ _).symm)
  rw [a1, sm_fib (c := cn) (m := K.toNat) (fun x x0 x1 => by have := rn.2.1 x x0 (by omega); omega)]
  have a2 : sm (fun _ => sm A N.toNat) K.toNat = K * sm A N.toNat := by rw [sm_k, eK]
  rw [← a2]
  refine sm_congr (fun i i0 i1 => ?_)
  have r := rn.2.2.1 i i0 (by omega)
  have f : sm A N.toNat = sm (fun x => sm (fun t => bi (act (rp i) t = x) * A t) N.toNat) n.toNat := sm_fib (c := fun t => act (rp i) t) (fun t t0 t1 => by have := AS_r as r.1 (g := t) ⟨t0, by omega⟩; (try dsimp only); omega)
  (try dsimp only)
  rw [f]
  refine sm_congr (fun x x0 x1 => ?_)
  have x0' : 0 ≤ x ∧ x < n := ⟨x0, by omega⟩
  (try dsimp only)
  by_cases q : cn x = i
  · have e : rE N A act (rp i) x := (rn.2.2.2 _ _ r.1 x0').mp (by rw [r.2, q])
    have e' : ∃ u, (0 ≤ u ∧ u < N) ∧ A u = 1 ∧ act (rp i) u = x := by
      rcases e with e | e
      · exact ⟨0, ⟨by omega, by have := gt.1; omega⟩, hA.2.1, by rw [as.2.2.1 _ r.1.1 r.1.2]; exact e⟩
      · exact e
    obtain ⟨u, u0, au, eu⟩ := e'
    have iu := GT_i gt u0
    have aiu := SM_inv gt hA u0 au
    rw [bi_t q, Int.one_mul, ← sm_ml gt iu (fun t => A t * bi (act x t = x))]
    refine sm_congr (fun t t0 t1 => ?_)
    have t0' : 0 ≤ t ∧ t < N := ⟨t0, by omega⟩
    have m0 := GT_m gt iu t0'
    (try dsimp only)
    have h1 : A (mul (inv u) t) = A t := by
      rcases hA.1 t t0 t0'.2 with w | w
      · rcases hA.1 _ m0.1 m0.2 with v | v
        · rw [v, w]
        · have z := hA.2.2 u _ u0.1 u0.2 m0.1 m0.2 au v
          rw [← GT_a gt u0 iu t0', (gt.2.2.2.2 u u0.1 u0.2).2.2.1, (gt.2.2.1 t t0 t0'.2).1] at z
          omega
      · rw [w]; exact hA.2.2 _ t iu.1 iu.2 t0 t0'.2 aiu w
    rw [h1, AS_m as x0' iu t0', ← eu, AS_i gt as r.1 u0, Int.mul_comm]
  · rw [bi_f q, Int.zero_mul]
    refine (sm_zz (fun t t0 t1 => ?_)).symm
    (try dsimp only)
    by_cases w : act (rp i) t = x ∧ A t = 1
    · exact absurd ((rn.2.2.2 _ _ r.1 x0').mpr (Or.inr ⟨t, ⟨t0, by omega⟩, w.2, w.1⟩)) (by rw [r.2]; exact fun z => q z.symm)
    · by_cases v : act (rp i) t = x
      · have : A t = 0 := by
          rcases hA.1 t t0 (by omega) with z | z
          · exact z
          · exact absurd ⟨v, z⟩ w
        rw [this, Int.mul_zero]
      · rw [bi_f v, Int.zero_mul]
/-- the words that A leaves, each with a weight: one for each word of the rounds -/
theorem wd_f {K : Int} {cn rp : Int → Int} (gt : GT N mul inv) (as : AS n N mul act) (hA : SM N mul A) (rn : rnP n N K A act cn rp) (k0 : 0 < k) (f : Int → Int) : sm (fun w => f w * bi (True ∧ ∀ t, 0 ≤ t → t < N → A t = 1 → wact k n act inv w t = w)) (k ^ n.toNat).toNat = sm (fun v => f (wdk k n.toNat (fun i => dgk k (cn (i : Int)).toNat v))) (k ^ K.toNat).toNat := by
  have en := AS_n as
  have eK : ((K.toNat : Nat) : Int) = K := Int.toNat_of_nonneg rn.1
  have pn : 0 < k ^ n.toNat := Int.pow_pos k0
  have pK : 0 < k ^ K.toNat := Int.pow_pos k0
  have ep : (((k ^ n.toNat).toNat : Nat) : Int) = k ^ n.toNat := by omega
  have eq' : (((k ^ K.toNat).toNat : Nat) : Int) = k ^ K.toNat := by omega
  -- left by A: the same all over each round
  have cs : ∀ w, 0 ≤ w → w < k ^ n.toNat → ((True ∧ ∀ t, 0 ≤ t → t < N → A t = 1 → wact k n act inv w t = w) ↔ ∀ x, (0 ≤ x ∧ x < n) → dgk k x.toNat w = dgk k (rp (cn x)).toNat w) := fun w w0 w1 => by
    constructor
    · intro q x x0
      have c := rn.2.1 x x0.1 x0.2
      have r := rn.2.2.1 _ c.1 c.2
      have e : rE N A act (rp (cn x)) x := (rn.2.2.2 _ _ r.1 x0).mp r.2
      rcases e with e | ⟨t, t0, a, e⟩
      · rw [e]
      · have z := q.2 t t0.1 t0.2 a
        have ex : ((x.toNat : Nat) : Int) = x := Int.toNat_of_nonneg x0.1
        have d := wact_d gt as k0 t0 w (i := x.toNat) (by omega)
        rw [z, ex, ← e, AS_i gt as r.1 t0] at d
        rw [e] at d
        exact d
    · intro q
      refine ⟨trivial, fun t t0 t1 a => ?_⟩
      have rg := wdk_r k0 n.toNat (fun i => dgk k (act (i : Int) (inv t)).toNat w) (fun j hj => dgk_r k0 _ _)
      refine dgk_u k0 n.toNat _ _ rg.1 rg.2 w0 w1 (fun i hi => ?_)
      have i0 : 0 ≤ (i : Int) ∧ (i : Int) < n := ⟨by omega, by omega⟩
      have it := GT_i gt (a := t) ⟨t0, t1⟩
      have y0 := AS_r as i0 it
      rw [wact_d gt as k0 ⟨t0, t1⟩ w i0.2, q _ y0]
      have e : cn (act (i : Int) (inv t)) = cn (i : Int) := ((rn.2.2.2 _ _ i0 y0).mpr (Or.inr ⟨inv t, it, SM_inv gt hA ⟨t0, t1⟩ a, rfl⟩)).symm
      rw [e]
      have := q _ i0
      rw [show ((i : Int)).toNat = i by omega] at this
      exact this.symm
  obtain ⟨cw, hcw⟩ : ∃ cw : Int → Int, cw = fun w => wdk k K.toNat (fun o => dgk k (rp (o : Int)).toNat w) := ⟨_, rfl⟩
  obtain ⟨vw, hvw⟩ : ∃ vw : Int → Int, vw = fun v => wdk k n.toNat (fun i => dgk k (cn (i : Int)).toNat v) := ⟨_, rfl⟩
  have cwr : ∀ w, 0 ≤ cw w ∧ cw w < k ^ K.toNat := fun w => by rw [hcw]; exact wdk_r k0 _ _ (fun j hj => dgk_r k0 _ _)
  have vwr : ∀ v, 0 ≤ vw v ∧ vw v < k ^ n.toNat := fun v => by rw [hvw]; exact wdk_r k0 _ _ (fun j hj => dgk_r k0 _ _)
  have vwd : ∀ v x, (0 ≤ x ∧ x < n) → dgk k x.toNat (vw v) = dgk k (cn x).toNat v := fun v x x0 => by
    rw [hvw]
    have := dgk_w k0 n.toNat (fun i => dgk k (cn (i : Int)).toNat v) x.toNat (fun j hj => dgk_r k0 _ _) (by omega)
    rw [this, Int.toNat_of_nonneg x0.1]
  have cwd : ∀ w o, (0 ≤ o ∧ o < K) → dgk k o.toNat (cw w) = dgk k (rp o).toNat w := fun w o o0 => by
    rw [hcw]
    have := dgk_w k0 K.toNat (fun o => dgk k (rp (o : Int)).toNat w) o.toNat (fun j hj => dgk_r k0 _ _) (by omega)
    rw [this, Int.toNat_of_nonneg o0.1]
  rw [sm_fib (c := cw) (m := (k ^ K.toNat).toNat) (fun w w0 w1 => by have := cwr w; omega)]
  refine sm_congr (fun v v0 v1 => ?_)
  (try dsimp only)
  have s1 := sm_dl (g := f) (e := vw v) (m := (k ^ n.toNat).toNat) (vwr v).1 (by have := vwr v; omega)
  have ev : wdk k n.toNat (fun i => dgk k (cn (i : Int)).toNat v) = vw v := by rw [hvw]
  rw [ev, ← s1]
  refine sm_congr (fun w w0 w1 => ?_)
  have w1' : w < k ^ n.toNat := by omega
  (try dsimp only)
  rw [bi_c (cs w w0 w1'), Int.mul_comm (f w), ← Int.mul_assoc, ← bi_and]
  refine congrArg (fun z => z * f w) (bi_c ⟨fun q => ?_, fun q => ?_⟩)
  · refine dgk_u k0 n.toNat _ _ (vwr v).1 (vwr v).2 w0 w1' (fun i hi => ?_)
    have i0 : 0 ≤ (i : Int) ∧ (i : Int) < n := ⟨by omega, by omega⟩
    have c := rn.2.1 _ i0.1 i0.2
    have a := vwd v _ i0
    have b := q.2 _ i0
    rw [show ((i : Int)).toNat = i by omega] at a b
    rw [a, b, ← q.1, cwd w _ c]
  · rw [← q]
    refine ⟨dgk_u k0 K.toNat _ _ (cwr _).1 (cwr _).2 v0 (by omega) (fun o ho => ?_), fun x x0 => ?_⟩
    · have o0 : 0 ≤ (o : Int) ∧ (o : Int) < K := ⟨by omega, by omega⟩
      have r := rn.2.2.1 _ o0.1 o0.2
      have a := cwd (vw v) _ o0
      rw [show ((o : Int)).toNat = o by omega] at a
      rw [a, vwd v _ r.1, r.2]
      rfl
    · have c := rn.2.1 x x0.1 x0.2
      have r := rn.2.2.1 _ c.1 c.2
      rw [vwd v x x0, vwd v _ r.1, r.2]
theorem wd_n {K : Int} {cn rp : Int → Int} (gt : GT N mul inv) (as : AS n N mul act) (hA : SM N mul A) (rn : rnP n N K A act cn rp) (k0 : 0 < k) : sm (fun w => bi (True ∧ ∀ t, 0 ≤ t → t < N → A t = 1 → wact k n act inv w t = w)) (k ^ n.toNat).toNat = k ^ K.toNat := by
  have pK : 0 < k ^ K.toNat := Int.pow_pos k0
  have a := wd_f gt as hA rn k0 (fun _ => 1)
  have b : sm (fun w => 1 * bi (True ∧ ∀ t, 0 ≤ t → t < N → A t = 1 → wact k n act inv w t = w)) (k ^ n.toNat).toNat = sm (fun w => bi (True ∧ ∀ t, 0 ≤ t → t < N → A t = 1 → wact k n act inv w t = w)) (k ^ n.toNat).toNat := sm_congr (fun w _ _ => Int.one_mul _)
  have c : (((k ^ K.toNat).toNat : Nat) : Int) = k ^ K.toNat := by omega
  rw [← b]
  refine a.trans ?_
  (try dsimp only)
  rw [sm_k, c, Int.mul_one]
end
