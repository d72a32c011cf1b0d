/-! twists of turns, heaps that lead to themselves, what all that are led to have -/
def cmt (mul : Int → Int → Int) (inv : Int → Int) (s t : Int) : Int := mul (mul (mul s t) (inv s)) (inv t)
noncomputable def cmU (N : Int) (mul : Int → Int → Int) (inv : Int → Int) (A : Int → Int) : Int → Int := fun u => bi (∃ s t, (0 ≤ s ∧ s < N) ∧ (0 ≤ t ∧ t < N) ∧ A s = 1 ∧ A t = 1 ∧ cmt mul inv s t = u)
noncomputable def cmV (N : Int) (mul : Int → Int → Int) (inv : Int → Int) (A : Int → Int) : Int → Int := fun u => bi (u = 0 ∨ ∃ s t, (1 ≤ t ∧ t < s ∧ s < N) ∧ A s = 1 ∧ A t = 1 ∧ cmt mul inv s t = u)
noncomputable def nzU (N H : Int) (mul : Int → Int → Int) (inv : Int → Int) (S : Int → Int → Int) (h : Int) : Int → Int := fun g => bi (ld N H mul inv S h g = h)
noncomputable def coU (N H : Int) (mul : Int → Int → Int) (inv : Int → Int) (S : Int → Int → Int) (h : Int) : Int → Int := fun t => bi (∀ g, 0 ≤ g → g < N → S (ld N H mul inv S h g) t = 1)
section
variable {N H C : Int} {mul mul' : Int → Int → Int} {inv inv' : Int → Int} {S S' : Int → Int → Int} {sz co fo nu A A' U U' : Int → Int} {g h k s t v x : Int}
theorem cmt_ab (gt : GT N mul inv) (s0 : 0 ≤ s ∧ s < N) (t0 : 0 ≤ t ∧ t < N) : cmt mul inv s t = mul (mul s t) (inv (mul t s)) := by
  unfold cmt
  rw [inv_mul gt t0 s0, GT_a gt (GT_m gt s0 t0) (GT_i gt s0) (GT_i gt t0)]
theorem cmt_tw (gt : GT N mul inv) (s0 : 0 ≤ s ∧ s < N) (t0 : 0 ≤ t ∧ t < N) : mul (mul s t) (mul (inv s) (inv t)) = cmt mul inv s t := by
  unfold cmt
  rw [GT_a gt (GT_m gt s0 t0) (GT_i gt s0) (GT_i gt t0)]
theorem cmt_r (gt : GT N mul inv) (s0 : 0 ≤ s ∧ s < N) (t0 : 0 ≤ t ∧ t < N) : 0 ≤ cmt mul inv s t ∧ cmt mul inv s t < N := by
  unfold cmt
  exact GT_m gt (GT_m gt (GT_m gt s0 t0) (GT_i gt s0)) (GT_i gt t0)
theorem cmt_i (gt : GT N mul inv) (s0 : 0 ≤ s ∧ s < N) (t0 : 0 ≤ t ∧ t < N) : inv (cmt mul inv s t) = cmt mul inv t s := by
  have a := GT_m gt s0 t0
  have b := GT_m gt t0 s0
  rw [cmt_ab gt s0 t0, cmt_ab gt t0 s0, inv_mul gt a (GT_i gt b), inv_inv' gt b]
theorem cmt_0 (gt : GT N mul inv) (s0 : 0 ≤ s ∧ s < N) (t0 : 0 ≤ t ∧ t < N) : cmt mul inv s t = 0 ↔ mul s t = mul t s := by
  have a := GT_m gt s0 t0
  have b := GT_m gt t0 s0
  have ib := gt.2.2.2.2 _ b.1 b.2
  rw [cmt_ab gt s0 t0]
  constructor
  · intro e
    exact GT_cr gt ⟨ib.1, ib.2.1⟩ a b (by rw [e, ib.2.2.1])
  · intro e
    rw [e, ib.2.2.1]
theorem cm_sub (gt : GT N mul inv) {W : Int → Int} (hW : SM N mul W) : sub1 N (cmV N mul inv A) W ↔ sub1 N (cmU N mul inv A) W := by
  have N1 := gt.1
  constructor
  · intro h u u0 u1 q
    obtain ⟨s, t, s0, t0, a1, a2, e⟩ := bi_1.mp q
    by_cases c : mul s t = mul t s
    · rw [← e, (cmt_0 gt s0 t0).mpr c]; exact hW.2.1
    · have ns : s ≠ 0 := fun z => c (by rw [z, (gt.2.2.1 t t0.1 t0.2).1, (gt.2.2.1 t t0.1 t0.2).2])
      have nt : t ≠ 0 := fun z => c (by rw [z, (gt.2.2.1 s s0.1 s0.2).1, (gt.2.2.1 s s0.1 s0.2).2])
      have ne : s ≠ t := fun z => c (by rw [z])
      by_cases l : t < s
      · exact h u u0 u1 (bi_t (Or.inr ⟨s, t, by omega, a1, a2, e⟩))
      · have r := cmt_r gt t0 s0
        have w := h _ r.1 r.2 (bi_t (Or.inr ⟨t, s, by omega, a2, a1, rfl⟩))
        rw [← e, ← cmt_i gt t0 s0]
        exact SM_inv gt hW r w
  · intro h u u0 u1 q
    rcases bi_1.mp q with e | ⟨s, t, l, a1, a2, e⟩
    · rw [e]; exact hW.2.1
    · exact h u u0 u1 (bi_t ⟨s, t, by omega, by omega, a1, a2, e⟩)
theorem loP_i (e : ∀ k, 0 ≤ k → k < H → (sub1 N U (S k) ↔ sub1 N U' (S k))) (h : loP N H S U v) : loP N H S U' v := ⟨h.1, (e v h.1.1 h.1.2).mp h.2.1, fun k k0 k1 q => h.2.2 k k0 k1 ((e k k0 (by have := h.1.2; omega)).mpr q)⟩
theorem cm_lo (gt : GT N mul inv) (hp : hpsP N H mul S sz) (h : loP N H S (cmV N mul inv A) v) : loP N H S (cmU N mul inv A) v := loP_i (fun k k0 k1 => cm_sub gt (hp.2.2.1 k k0 k1).1) h
/-- some heap is the first over a set -/
theorem lo_ex (hp : hpsP N H mul S sz) (so : srtS N H S) (gt : GT N mul inv) (U : Int → Int) : ∃ v, loP N H S U v := by
  have h1 := hp.1
  have top := top_r gt hp so
  have key : ∀ (w : Nat) (v : Int), v.toNat = w → 0 ≤ v → v < H → sub1 N U (S v) → ∃ v, loP N H S U v := by
    intro w
    induction w using Nat.strongRecOn with
    | ind w ih =>
      intro v vw v0 v1 hv
      by_cases q : ∀ k, 0 ≤ k → k < v → ¬ sub1 N U (S k)
      · exact ⟨v, ⟨v0, v1⟩, hv, q⟩
      · obtain ⟨k, z⟩ := Classical.not_forall.mp q
        have k0 : 0 ≤ k := Classical.byContradiction (fun r => z (fun a => absurd a r))
        have k1 : k < v := Classical.byContradiction (fun r => z (fun _ a => absurd a r))
        have k2 : sub1 N U (S k) := Classical.byContradiction (fun r => z (fun _ _ => r))
        exact ih k.toNat (by omega) k rfl k0 (by omega) k2
  exact key _ (H - 1) rfl (by omega) (by omega) (fun t t0 t1 _ => top t t0 t1)
theorem bot_0 (gt : GT N mul inv) (hp : hpsP N H mul S sz) (so : srtS N H S) (t0 : 0 ≤ t ∧ t < N) (q : S 0 t = 1) : t = 0 := by
  have N1 := gt.1
  have h1 := hp.1
  obtain ⟨k, k0, k1, k2⟩ := hp.2.2.2.1 (fun t => bi (t = 0)) ⟨fun _ _ _ => bi_01 _, bi_t rfl, fun s t s0 s1 t0 t1 a b => by
    rw [bi_1.mp a, bi_1.mp b, (gt.2.2.1 0 (by omega) (by omega)).1]; exact bi_t rfl⟩
  have le : sub1 N (S k) (S 0) := fun u u0 u1 w => by
    rw [k2 u u0 u1] at w
    rw [bi_1.mp w]; exact (hp.2.2.1 0 (by omega) (by omega)).1.2.1
  have e : k = 0 := by
    apply Classical.byContradiction
    intro ne
    have a := sub_szl hp (by omega) (h := k) (k := 0) ⟨k0, k1⟩ (by omega) le ne
    have b := srt_sz hp so (a := 0) (b := k) (by omega) k0 k1
    omega
  rw [e] at k2
  rw [k2 t t0.1 t0.2] at q
  exact bi_1.mp q
theorem quiet_e (gt : GT N mul inv) (hp : hpsP N H mul S sz) (so : srtS N H S) (h : loP N H S (cmU N mul inv A) v) : v = 0 ↔ ∀ s t, (0 ≤ s ∧ s < N) → (0 ≤ t ∧ t < N) → A s = 1 → A t = 1 → mul s t = mul t s := by
  constructor
  · intro e s t s0 t0 a1 a2
    have r := cmt_r gt s0 t0
    have w := h.2.1 _ r.1 r.2 (bi_t ⟨s, t, s0, t0, a1, a2, rfl⟩)
    rw [e] at w
    exact (cmt_0 gt s0 t0).mp (bot_0 gt hp so r w)
  · intro c
    apply Classical.byContradiction
    intro ne
    have hv := h.1
    refine h.2.2 0 (by omega) (by omega) (fun u u0 u1 q => ?_)
    obtain ⟨s, t, s0, t0, a1, a2, e⟩ := bi_1.mp q
    rw [← e, (cmt_0 gt s0 t0).mpr (c s t s0 t0 a1 a2)]
    exact (hp.2.2.1 0 (by omega) (by omega)).1.2.1
/-- a turn leads a heap to itself -/
theorem leads_e (gt : GT N mul inv) (hp : hpsP N H mul S sz) (h0 : 0 ≤ h ∧ h < H) (g0 : 0 ≤ g ∧ g < N) : ld N H mul inv S h g = h ↔ ∀ t, 0 ≤ t → t < N → S h t = 1 → S h (mul (mul (inv g) t) g) = 1 := by
  have l := ld_s gt hp h0 g0
  constructor
  · intro e t t0 t1 q
    have r := cj_r gt g0 (t := t) ⟨t0, t1⟩
    rw [e] at l
    rw [l.2 _ r.1 r.2]
    exact (cj_in gt).mpr ⟨t, t0, t1, q, rfl⟩
  · intro w
    apply Classical.byContradiction
    intro ne
    have sb : sub1 N (S (ld N H mul inv S h g)) (S h) := fun u u0 u1 q => by
      rw [l.2 u u0 u1] at q
      obtain ⟨t, t0, t1, t2, t3⟩ := (cj_in gt).mp q
      rw [← t3]; exact w t t0 t1 t2
    have := sub_szl hp (by have := gt.1; omega) l.1 h0 sb ne
    rw [ld_sz gt hp h0 g0] at this
    omega
/-- a heap is like none but itself just if all turns lead it to itself -/
theorem norm_e (gt : GT N mul inv) (hp : hpsP N H mul S sz) (cl : clX N H C mul inv S co fo nu) (h0 : 0 ≤ h ∧ h < H) : nu (co h) = 1 ↔ ∀ g, 0 ≤ g → g < N → ld N H mul inv S h g = h := by
  have en := GT_n gt
  have N1 := gt.1
  have e := nz_N gt hp cl h0
  constructor
  · intro q
    rw [q, Int.mul_one] at e
    intro g g0 g1
    apply Classical.byContradiction
    intro ne
    have l := sm_lt (f := fun g => bi (ld N H mul inv S h g = h)) (g := fun _ => 1) (j := g) (n := N.toNat) (fun i _ _ => by rcases bi_01 (ld N H mul inv S h i = h) with z | z <;> · (try dsimp only); omega) g0 (by omega) (by (try dsimp only); rw [bi_f ne]; omega)
    rw [sm_k, en, Int.mul_one] at l
    have : nz N H mul inv S h < N := l
    omega
  · intro w
    have z : nz N H mul inv S h = N := by
      unfold nz
      rw [sm_congr (g := fun _ => 1) (fun g g0 g1 => bi_t (w g g0 (by omega))), sm_k, en, Int.mul_one]
    rw [z] at e
    have : N * (nu (co h) - 1) = 0 := by rw [Int.mul_sub, Int.mul_one]; omega
    rcases Int.mul_eq_zero.mp this with q | q <;> omega
theorem nz_top (gt : GT N mul inv) (hp : hpsP N H mul S sz) (so : srtS N H S) (cl : clX N H C mul inv S co fo nu) (h0 : 0 ≤ h ∧ h < H) (q : nu (co h) = 1) : inP N H S (nzU N H mul inv S h) (H - 1) := by
  have h1 := hp.1
  have w := (norm_e gt hp cl h0).mp q
  exact ⟨by omega, fun t t0 t1 => by rw [top_r gt hp so t t0 t1]; exact (bi_t (w t t0 t1)).symm⟩
theorem co_SM (gt : GT N mul inv) (hp : hpsP N H mul S sz) (h0 : 0 ≤ h ∧ h < H) : SM N mul (coU N H mul inv S h) := by
  refine ⟨fun _ _ _ => bi_01 _, bi_t (fun g g0 g1 => ?_), fun s t s0 s1 t0 t1 a b => bi_t (fun g g0 g1 => ?_)⟩
  · have l := (ld_s gt hp h0 (g := g) ⟨g0, g1⟩).1
    exact (hp.2.2.1 _ l.1 l.2).1.2.1
  · have l := (ld_s gt hp h0 (g := g) ⟨g0, g1⟩).1
    exact (hp.2.2.1 _ l.1 l.2).1.2.2 s t s0 s1 t0 t1 (bi_1.mp a g g0 g1) (bi_1.mp b g g0 g1)
/-- what all have is like none but itself, within the heap, and the greatest such -/
theorem co_norm (gt : GT N mul inv) (hp : hpsP N H mul S sz) (cl : clX N H C mul inv S co fo nu) (h0 : 0 ≤ h ∧ h < H) (hk : inP N H S (coU N H mul inv S h) k) : nu (co k) = 1 ∧ sub1 N (S k) (S h) := by
  have N1 := gt.1
  refine ⟨(norm_e gt hp cl hk.1).mpr (fun g g0 g1 => (leads_e gt hp hk.1 ⟨g0, g1⟩).mpr (fun t t0 t1 q => ?_)), fun t t0 t1 q => ?_⟩
  · have r := cj_r gt (g := g) ⟨g0, g1⟩ (t := t) ⟨t0, t1⟩
    rw [hk.2 t t0 t1] at q
    rw [hk.2 _ r.1 r.2]
    have q := bi_1.mp q
    refine bi_t (fun x x0 x1 => ?_)
    -- x = (x g^-1) g
    have xi := GT_m gt (a := x) ⟨x0, x1⟩ (GT_i gt (a := g) ⟨g0, g1⟩)
    have l1 := ld_s gt hp h0 xi
    have e : ld N H mul inv S h x = ld N H mul inv S (ld N H mul inv S h (mul x (inv g))) g := by rw [← ld_m gt hp h0 xi ⟨g0, g1⟩, GT_rj gt ⟨x0, x1⟩ ⟨g0, g1⟩]
    have l2 := ld_s gt hp l1.1 (g := g) ⟨g0, g1⟩
    rw [e, l2.2 _ r.1 r.2]
    exact (cj_in gt).mpr ⟨t, t0, t1, q _ xi.1 xi.2, rfl⟩
  · rw [hk.2 t t0 t1] at q
    have := bi_1.mp q 0 (by omega) (by omega)
    rw [ld_0 gt hp h0] at this
    exact this
theorem co_max (gt : GT N mul inv) (hp : hpsP N H mul S sz) (so : srtS N H S) (cl : clX N H C mul inv S co fo nu) (h0 : 0 ≤ h ∧ h < H) (hk : inP N H S (coU N H mul inv S h) k) (x0 : 0 ≤ x ∧ x < H) (nx : nu (co x) = 1) (sx : sub1 N (S x) (S h)) : x ≤ k := by
  have N1 := gt.1
  have w := (norm_e gt hp cl x0).mp nx
  have sb : sub1 N (S x) (S k) := fun t t0 t1 q => by
    rw [hk.2 t t0 t1]
    refine bi_t (fun g g0 g1 => ?_)
    have l := ld_s gt hp h0 (g := g) ⟨g0, g1⟩
    have lx := ld_s gt hp x0 (g := g) ⟨g0, g1⟩
    rw [w g g0 g1] at lx
    rw [lx.2 t t0 t1] at q
    rw [l.2 t t0 t1]
    exact cj_mono gt sx g t t0 t1 q
  apply Classical.byContradiction
  intro l
  have a := sub_szl hp (by omega) x0 hk.1 sb (by omega)
  have b := srt_sz hp so hk.1.1 (show k ≤ x by omega) x0.2
  omega
/-! one group, told twice -/
theorem cmU_c (gt : GT N mul inv) (gt' : GT N mul' inv') (e : ∀ s t, 0 ≤ s → s < N → 0 ≤ t → t < N → mul s t = mul' s t) (ei : ∀ t, 0 ≤ t → t < N → inv t = inv' t) (ea : req N A A') : cmU N mul inv A = cmU N mul' inv' A' := by
  funext u
  have key : ∀ s t, (0 ≤ s ∧ s < N) → (0 ≤ t ∧ t < N) → cmt mul inv s t = cmt mul' inv' s t := fun s t s0 t0 => by
    have m1 := GT_m gt s0 t0
    have m2 := GT_m gt m1 (GT_i gt s0)
    unfold cmt
    rw [← e s t s0.1 s0.2 t0.1 t0.2, ← ei s s0.1 s0.2, ← ei t t0.1 t0.2, ← e _ _ m1.1 m1.2 (GT_i gt s0).1 (GT_i gt s0).2, ← e _ _ m2.1 m2.2 (GT_i gt t0).1 (GT_i gt t0).2]
  exact bi_c ⟨fun ⟨s, t, s0, t0, a1, a2, q⟩ => ⟨s, t, s0, t0, by rw [← ea s s0.1 s0.2]; exact a1, by rw [← ea t t0.1 t0.2]; exact a2, by rw [← key s t s0 t0]; exact q⟩, fun ⟨s, t, s0, t0, a1, a2, q⟩ => ⟨s, t, s0, t0, by rw [ea s s0.1 s0.2]; exact a1, by rw [ea t t0.1 t0.2]; exact a2, by rw [key s t s0 t0]; exact q⟩⟩
end
