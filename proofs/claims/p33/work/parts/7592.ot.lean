/-! ofTurn, exactly -/
def cnj (mul : Int → Int → Int) (inv : Int → Int) (g t : Int) : Int := mul (mul (inv g) t) g
/-- how many turns one is led to -/
noncomputable def cjn (N : Int) (mul : Int → Int → Int) (inv : Int → Int) (t : Int) : Int := sm (fun u => bi (∃ g, (0 ≤ g ∧ g < N) ∧ cnj mul inv g t = u)) N.toNat
noncomputable def kps (N : Int) (mul : Int → Int → Int) (t : Int) : Int := sm (fun g => bi (mul g t = mul t g)) N.toNat
section
variable {N : Int} {mul mul' : Int → Int → Int} {inv : Int → Int} {a b t g u : Int}
theorem cnj_r (gt : GT N mul inv) (g0 : 0 ≤ g ∧ g < N) (t0 : 0 ≤ t ∧ t < N) : 0 ≤ cnj mul inv g t ∧ cnj mul inv g t < N := cj_r gt g0 t0
theorem cnj_m (gt : GT N mul inv) (a0 : 0 ≤ a ∧ a < N) (b0 : 0 ≤ b ∧ b < N) (t0 : 0 ≤ t ∧ t < N) : cnj mul inv (mul a b) t = cnj mul inv b (cnj mul inv a t) := by
  have ia := GT_i gt a0
  have ib := GT_i gt b0
  have iat := GT_m gt ia t0
  unfold cnj
  rw [inv_mul gt a0 b0, GT_a gt ib ia t0, ← GT_a gt (GT_m gt ib iat) a0 b0, ← GT_a gt ib iat a0]
theorem cnj_0 (gt : GT N mul inv) (t0 : 0 ≤ t ∧ t < N) : cnj mul inv 0 t = t := by
  unfold cnj
  rw [inv_0 gt, (gt.2.2.1 t t0.1 t0.2).1, (gt.2.2.1 t t0.1 t0.2).2]
theorem cnj_fix (gt : GT N mul inv) (g0 : 0 ≤ g ∧ g < N) (t0 : 0 ≤ t ∧ t < N) : cnj mul inv g t = t ↔ mul g t = mul t g := by
  have ig := GT_i gt g0
  have it := GT_m gt ig t0
  constructor
  · intro e
    unfold cnj at e
    have : mul g (mul (mul (inv g) t) g) = mul g t := by rw [e]
    rw [← GT_a gt g0 it g0, ← GT_a gt g0 ig t0, (gt.2.2.2.2 g g0.1 g0.2).2.2.1, (gt.2.2.1 t t0.1 t0.2).1] at this
    exact this.symm
  · intro e
    unfold cnj
    rw [GT_a gt ig t0 g0, ← e, ← GT_a gt ig g0 t0, (gt.2.2.2.2 g g0.1 g0.2).2.2.2, (gt.2.2.1 t t0.1 t0.2).1]
theorem kin_N (gt : GT N mul inv) (t0 : 0 ≤ t ∧ t < N) : N = kps N mul t * cjn N mul inv t := by
  have en := GT_n gt
  have z : sm (fun _ => 1) N.toNat = N := by rw [sm_k, en, Int.mul_one]
  rw [sm_fib (c := fun g => cnj mul inv g t) (m := N.toNat) (fun g g0 g1 => by have := cnj_r gt (g := g) ⟨g0, by omega⟩ t0; (try dsimp only); omega)] at z
  refine z.symm.trans ?_
  unfold cjn
  rw [← sm_cm]
  refine sm_congr (fun u u0 u1 => ?_)
  (try dsimp only)
  by_cases q : ∃ g, (0 ≤ g ∧ g < N) ∧ cnj mul inv g t = u
  · obtain ⟨x, x0, ex⟩ := q
    rw [bi_t ⟨x, x0, ex⟩, Int.mul_one]
    unfold kps
    rw [← sm_mr gt (GT_i gt x0) (fun g => bi (mul g t = mul t g))]
    refine sm_congr (fun g g0 g1 => ?_)
    have g0' : 0 ≤ g ∧ g < N := ⟨g0, by omega⟩
    have gx := GT_m gt g0' (GT_i gt x0)
    (try dsimp only)
    rw [Int.mul_one]
    refine bi_c ?_
    rw [← cnj_fix gt gx t0, cnj_m gt g0' (GT_i gt x0) t0]
    have ct := cnj_r gt g0' t0
    constructor
    · intro e
      rw [e, ← ex, ← cnj_m gt x0 (GT_i gt x0) t0, (gt.2.2.2.2 x x0.1 x0.2).2.2.1, cnj_0 gt t0]
    · intro e
      have w : cnj mul inv x (cnj mul inv (inv x) (cnj mul inv g t)) = cnj mul inv x t := by rw [e]
      rw [← cnj_m gt (GT_i gt x0) x0 ct, (gt.2.2.2.2 x x0.1 x0.2).2.2.2, cnj_0 gt ct] at w
      rw [w]
      exact ex
  · rw [bi_f q, Int.mul_zero]
    exact sm_zz (fun g g0 g1 => by (try dsimp only); rw [bi_f (fun e => q ⟨g, ⟨g0, by omega⟩, e⟩), Int.zero_mul])
theorem kin_e (gt : GT N mul inv) (t0 : 0 ≤ t ∧ t < N) : 0 < kps N mul t ∧ N / kps N mul t = cjn N mul inv t := by
  have en := GT_n gt
  have N1 := gt.1
  have k : 0 < kps N mul t := by
    unfold kps
    have l : sm (fun _ => 0) N.toNat < sm (fun g => bi (mul g t = mul t g)) N.toNat := sm_lt (j := 0) (fun _ _ _ => bi_nn _) (by omega) (by omega) (by rw [bi_t (by rw [(gt.2.2.1 t t0.1 t0.2).1, (gt.2.2.1 t t0.1 t0.2).2])]; omega)
    rw [sm_zz (fun _ _ _ => rfl)] at l
    exact l
  refine ⟨k, ?_⟩
  have e := kin_N gt t0
  rw [congrArg (fun x => x / kps N mul t) e]
  exact Int.mul_ediv_cancel_left _ (by omega)
end
noncomputable def otX (d : gD) (t w : Int) : Int := if 0 ≤ t ∧ t < d 0 1 then (if w = 0 then d 230 t else if w = 1 then d 231 t else if w = 2 then d 205 t else if w = 3 then d 0 1 / kps (d 0 1) (mlD d) t else -1) else -1
def otP (N H : Int) (mul : Int → Int → Int) (inv : Int → Int) (S : Int → Int → Int) (sz : Int → Int) (t w v : Int) : Prop := (¬ (0 ≤ t ∧ t < N) ∧ v = -1) ∨ ((0 ≤ t ∧ t < N) ∧ ((w = 0 ∧ v = inv t) ∨ (w = 1 ∧ ∃ k, loP N H S (one t) k ∧ v = sz k) ∨ (w = 2 ∧ loP N H S (one t) v) ∨ (w = 3 ∧ v = cjn N mul inv t) ∨ ((w < 0 ∨ 3 < w) ∧ v = -1)))
theorem otP_u {N H : Int} {mul : Int → Int → Int} {inv : Int → Int} {S : Int → Int → Int} {sz : Int → Int} {t w : Int} (v v' : Int) (h : otP N H mul inv S sz t w v) (h' : otP N H mul inv S sz t w v') : v = v' := by
  rcases h with ⟨a, b⟩ | ⟨a, b⟩
  · rcases h' with ⟨a', b'⟩ | ⟨a', b'⟩
    · rw [b, b']
    · exact absurd a' a
  · rcases h' with ⟨a', b'⟩ | ⟨a', b'⟩
    · exact absurd a a'
    · rcases b with ⟨c, e⟩ | ⟨c, k, e, f⟩ | ⟨c, e⟩ | ⟨c, e⟩ | ⟨c, e⟩ <;> rcases b' with ⟨c', e'⟩ | ⟨c', k', e', f'⟩ | ⟨c', e'⟩ | ⟨c', e'⟩ | ⟨c', e'⟩ <;> first | (exfalso; omega) | (rw [e, e']; done) | (rw [f, f', loP_u e e']; done) | exact loP_u e e'
section
variable {V : gV} {M : Nat} {d : gD} {t w : Int}
abbrev rotP (V : gV) (M : Nat) : Int → Int → Int → Prop := otP (V M 5) (V M 12) (mMul V M) (mInv V M) (mHas V M) (fun k => V (M + 10) k)
theorem mb_eq (hM : MI V M) (h : dQ d V M) (t0 : 0 ≤ t ∧ t < V M 5) : loP (V M 5) (V M 12) (mHas V M) (one t) (d 205 t) ∧ d 231 t = V (M + 10) (d 205 t) := by
  obtain ⟨K, rq, sz⟩ := hp_eq hM h
  have e1 := h.2.1
  have hg := dQ_hg h
  have hp := h.2.2.2.2.1
  have so := h.2.2.2.2.2.1
  have q := hg.2.2.2.2.2.1 t t0.1 (by omega)
  have gd := hg.1
  rw [e1, K] at hp so
  rw [e1] at gd
  rw [e1, K] at q
  have lo := cyc_lo gd hp so t0 q.1
  refine ⟨loP_c rq (fun _ _ _ => rfl) lo, ?_⟩
  have s1 := cyc_in hp q.1
  rw [cyc_sz gd t0 q.2.1] at s1
  (try dsimp only at s1)
  rw [← sz _ lo.1.1 lo.1.2, s1]
  exact (Int.toNat_of_nonneg (by omega)).symm
theorem ot_eq (hM : MI V M) (h : dQ d V M) : rotP V M t w (otX d t w) := by
  have e1 := h.2.1
  unfold otX
  by_cases q : 0 ≤ t ∧ t < V M 5
  · rw [if_pos (by omega)]
    refine Or.inr ⟨q, ?_⟩
    have mb := mb_eq hM h q
    by_cases w0 : w = 0
    · rw [if_pos w0]; exact Or.inl ⟨w0, iv_eq hM h q⟩
    · rw [if_neg w0]
      by_cases w1 : w = 1
      · rw [if_pos w1]; exact Or.inr (Or.inl ⟨w1, _, mb.1, mb.2⟩)
      · rw [if_neg w1]
        by_cases w2 : w = 2
        · rw [if_pos w2]; exact Or.inr (Or.inr (Or.inl ⟨w2, mb.1⟩))
        · rw [if_neg w2]
          by_cases w3 : w = 3
          · rw [if_pos w3]
            refine Or.inr (Or.inr (Or.inr (Or.inl ⟨w3, ?_⟩)))
            rw [← (kin_e (MI_gt hM) q).2, e1]
            have k : kps (V M 5) (mlD d) t = kps (V M 5) (mMul V M) t := sm_congr (fun g g0 g1 => by
              have n := MI_N hM
              have a := mul_eq hM h g t g0 (by omega) q.1 q.2
              have b := mul_eq hM h t g q.1 q.2 g0 (by omega)
              exact bi_c (by rw [show mlD d g t = mMul V M g t from a, show mlD d t g = mMul V M t g from b]))
            rw [k]
          · rw [if_neg w3]; exact Or.inr (Or.inr (Or.inr (Or.inr ⟨by omega, rfl⟩)))
  · rw [if_neg (by omega)]; exact Or.inl ⟨q, rfl⟩
end
section
variable {G : List gS} {R V : gV} {T : gT} {W : gV} {L : Int → Int} {I : Int → gD} {B M S N g b x p n o m y : Nat} {C D E : Int} {dd : gD}
theorem kinOf_x (t : tT G R T x p n C D) (hD : D ≤ C) (th : TH T V) {mul : Int → Int → Int} {N : Int} (eN : V x 1 = N) (em : ∀ s u, 0 ≤ s → s < N → 0 ≤ u → u < N → V p (s * N + u) = mul s u) {a : Int} (ha : 0 ≤ a ∧ a < N) (hk : 0 < kps N mul a) : cpI 2 (N / kps N mul a) 91 [(4, (x : Int)), (0, a)] G R V := by
  have hc := t.c0
  have c := t.ct _ (th x 1)
  refine c_X6_kinOf (t_X6_kinOf_0 t.ly ?_)
  refine pool2 (f := fun k g => [some (4, (x : Int)), some (0, a), some (0, k), some (0, g)]) (Inv := fun k g => (0 ≤ k ∧ k ≤ g) ∧ g ≤ N ∧ k = sm (fun g => bi (mul g a = mul a g)) g.toNat) (μ := fun _ g => (N - g).toNat) (fun k g h ih => ?_) 0 0 ⟨by omega, by omega, rfl⟩
  obtain ⟨k0, g1, ek⟩ := h
  have st := sm_s (fun g => bi (mul g a = mul a g)) (show 0 ≤ g by omega)
  refine t_X6_kinOf_4 t.ly (fun _ => ⟨by omega, fun z => ?_, fun z => ?_⟩)
  · have e : k = kps N mul a := by rw [ek, show g = N by omega]; rfl
    refine ⟨by omega, fun q => absurd (by omega) q, fun _ => ⟨by omega, ?_, rfl⟩⟩
    rw [e, eN]
  · have l1 := em g a (by omega) (by omega) ha.1 ha.2
    have l2 := em a g ha.1 ha.2 (by omega) (by omega)
    have r1 := (t.pr _ _).mp (th p (g * V x 1 + a))
    have r2 := (t.pr _ _).mp (th p (a * V x 1 + g))
    refine cpI_u (by omega) (times_e t hD th (by omega) (by omega)) (cpI_u (by omega) (times_e t hD th (by omega) (by omega)) ⟨by omega, by omega, fun q => ⟨by omega, ih _ _ ⟨by omega, by omega, ?_⟩ (by omega)⟩, fun q => ⟨by omega, by omega, ih _ _ ⟨by omega, by omega, ?_⟩ (by omega)⟩⟩)
    · rw [eN, l1, l2] at q
      rw [st, ek]
      (try dsimp only)
      rw [bi_f q, Int.add_zero]
    · rw [eN, l1, l2] at q
      rw [st, ek]
      (try dsimp only)
      rw [bi_t q]
theorem ofTurn_X (u : cT G R T B b g p n C D o m E) (lk : lkT T R g dd) (hg : hgD dd) (th : TH T V) {a c : Int} (ha : i32 a) (hc : i32 c) : wE T 8 (otX dd a c) 109 [(4, (B : Int)), (0, a), (0, c)] G R V := by
  have c0 := u.u.g.t.c0
  have hD := u.u.hD
  have ct := u.u.g.t.ct _ (th (g + 1) 1)
  have e1 : V (g + 1) 1 = dd 0 1 := lk.2.1 _ (th (g + 1) 1)
  refine c_X7_ofTurn (t_X7_ofTurn_0 u.ly ⟨b, ⟨u.rb, u.u.b.ly⟩, g, ⟨u.u.rg, u.u.g.ly⟩, bI_u (isTurn_k u.u.g.t.ly ha) ⟨bi32 _, fun h => ?_, fun h => ⟨_, rfl, ?_, th⟩⟩⟩)
  · have hb := bi_nz h
    have a0 : 0 ≤ a ∧ a < dd 0 1 := by omega
    have v : otX dd a c = (if c = 0 then dd 230 a else if c = 1 then dd 231 a else if c = 2 then dd 205 a else if c = 3 then dd 0 1 / kps (dd 0 1) (mlD dd) a else -1) := by unfold otX; rw [if_pos a0]
    have v3 : V (g + 3) a = dd 230 a := lk.2.2.2.2.1 a _ a0.1 a0.2 (th (g + 3) a)
    have v4 : V (g + 4) a = dd 231 a := lk.2.2.2.2.2.1 a _ a0.1 a0.2 (th (g + 4) a)
    have v5 : V (g + 15) a = dd 205 a := lk_j lk th 5 (by omega) (by omega) (by omega) a
    rw [v]
    refine ⟨hc, fun z => ⟨_, rfl, ?_, th⟩, fun z => ⟨by omega, fun _ => ⟨_, rfl, ?_, th⟩⟩, fun z => ⟨by omega, fun _ => ⟨_, rfl, ?_, th⟩⟩, fun z => ⟨by omega, fun _ => ⟨_, rfl, ?_, th⟩⟩, fun z => bI_u (kinOf_x u.u.g.t hD th e1 (mul := mlD dd) (fun s t s0 s1 t0 t1 => lk.2.2.2.1 p u.u.g.t.rp s t _ s0 s1 t0 t1 (th p _)) a0 (kin_e hg.1 a0).1) ⟨_, rfl, ?_, th⟩⟩
    · rw [if_neg (by omega), if_neg (by omega), if_neg (by omega), if_neg (by omega)]
    · rw [if_pos z, v3]
    · rw [if_neg (by omega), if_pos z, v4]
    · rw [if_neg (by omega), if_neg (by omega), if_pos z, v5]
    · rw [if_neg (by omega), if_neg (by omega), if_neg (by omega), if_pos z]
  · have := bi_0.mp h
    unfold otX
    rw [if_neg (by omega)]
theorem clears_e (ly : lay8 G R M) (hM : MI V M) : cwv 1 (fun r V' => r = none ∧ (qF V V' M ∧ ∀ t, 0 ≤ t → t < V M 5 → V' (M + 9) (36000 + t) = 0)) 189 [(4, (M : Int))] G R V := by
  have n := MI_N hM
  refine c_X8_clears (t_X8_clears_0 ly ?_)
  refine loop1 (f := fun x => [some (4, (M : Int)), some (0, x)]) (fun x V' => 0 ≤ x ∧ x ≤ V M 5 ∧ qF V V' M ∧ ∀ t, 0 ≤ t → t < x → V' (M + 9) (36000 + t) = 0) (fun x _ => (V M 5 - x).toNat) (fun x V' hx ih => ?_) 0 V ⟨by omega, by omega, qF_refl, fun t t0 t1 => by omega⟩
  obtain ⟨x0, x1, q, z⟩ := hx
  have e5 : V' M 5 = V M 5 := q.1 _ _ (by omega)
  refine t_X8_clears_2 ly (fun _ => ⟨by omega, fun c => ⟨rfl, q, fun t t0 t1 => z t t0 (by omega)⟩, fun c => ⟨by omega, by omega, by omega, ih (x + 1) _ ⟨by omega, by omega, qF_wr q (by omega) (by omega) (by omega) (by omega), fun t t0 t1 => ?_⟩ (by omega)⟩⟩)
  by_cases y : t = x
  · rw [y, wr_same]
  · rw [wr_i (by omega)]; exact z t t0 (by omega)
theorem qF_rows {V' : gV} (hM : MI V M) (q : qF V V' M) : ∀ k, 0 ≤ k → k < V M 12 → req (V M 5) (mHas V' M k) (mHas V M k) := fun k k0 k1 t t0 t1 => by
  have n := MI_N hM
  exact q.1 _ _ (by omega)
theorem least_x {V' : gV} (ly : lay8 G R M) (hM : MI V M) (q : qF V V' M) {U : Int → Int} (hU : ∀ t, 0 ≤ t → t < V M 5 → V' (M + 9) (36000 + t) = U t) : cwv 2 (fun r V'' => ∃ v, r = some (0, v) ∧ (V'' = V' ∧ loP (V M 5) (V M 12) (mHas V M) U v)) 188 [(4, (M : Int))] G R V' := by
  have m := MI_q q hM
  have e5 : V' M 5 = V M 5 := q.1 _ _ (by omega)
  have e12 : V' M 12 = V M 12 := q.1 _ _ (by omega)
  refine cwI_u (Nat.le_refl _) (least_e ly m) (fun v V2 h => ⟨h.1, ?_⟩)
  have w := h.2
  rw [e5, e12] at w
  refine loP_c (qF_rows hM q) (fun t t0 t1 => ?_) w
  rw [h300]; exact hU t t0 t1
theorem madeBy_e (ly : lay8 G R M) (hM : MI V M) {t : Int} (t0 : 0 ≤ t ∧ t < V M 5) : cwv 3 (fun r V' => ∃ v, r = some (0, v) ∧ (qF V V' M ∧ loP (V M 5) (V M 12) (mHas V M) (one t) v)) 190 [(4, (M : Int)), (0, t)] G R V := by
  have n := MI_N hM
  refine c_X8_madeBy (t_X8_madeBy_0 ly (cw0_u (Nat.le_add_right 1 1) (clears_e ly hM) (fun V1 h => ⟨by omega, by omega, ?_⟩)))
  obtain ⟨q, z⟩ := h
  have q2 : qF V (wr V1 (M + 9) (36000 + t) 1) M := qF_wr q (by omega) (by omega) (by omega) (by omega)
  refine cwI_u (Nat.le_refl _) (least_x ly hM q2 (U := one t) (fun u u0 u1 => ?_)) (fun v V' h => ⟨v, rfl, by rw [h.1]; exact q2, h.2⟩)
  by_cases y : u = t
  · rw [y, wr_same]; exact (bi_t rfl).symm
  · rw [wr_i (by omega), z u u0 u1]; exact (bi_f y).symm
theorem ofTurn_C (ly : lay8 G R M) (hM : MI V M) {t w : Int} (h1 : i32 t) (h2 : i32 w) : cwv 4 (fun r V' => ∃ v, r = some (0, v) ∧ (qF V V' M ∧ rotP V M t w v)) 191 [(4, (M : Int)), (0, t), (0, w)] G R V := by
  have n := MI_N hM
  have gt := MI_gt hM
  refine c_X8_ofTurn (t_X8_ofTurn_0 ly (cpI_u (by omega) (isTurn_c ly hM h1) ⟨bi32 _, fun z => ?_, fun z => ⟨_, rfl, qF_refl, Or.inl ⟨by have := bi_0.mp z; omega, rfl⟩⟩⟩))
  have a := bi_n0 z
  have t0 : 0 ≤ t ∧ t < V M 5 := by omega
  refine ⟨h2, fun q => ⟨_, rfl, qF_refl, Or.inr ⟨t0, Or.inr (Or.inr (Or.inr (Or.inr ⟨q, rfl⟩)))⟩⟩, fun q => ⟨by omega, fun _ => ⟨_, rfl, qF_refl, Or.inr ⟨t0, Or.inl ⟨q, rfl⟩⟩⟩⟩, fun q => cwI_u (Nat.le_refl _) (madeBy_e ly hM t0) (fun v V' h => ?_), fun q => cwI_u (Nat.le_refl _) (madeBy_e ly hM t0) (fun v V' h => ⟨_, rfl, h.1, Or.inr ⟨t0, Or.inr (Or.inr (Or.inl ⟨q, h.2⟩))⟩⟩), fun q => cw0_u (by omega) (clears_e ly hM) (fun V1 hq => ?_)⟩
  · have v0 := h.2.1
    refine ⟨by omega, fun _ => ⟨_, rfl, h.1, Or.inr ⟨t0, Or.inr (Or.inl ⟨q, v, h.2, ?_⟩)⟩⟩⟩
    exact h.1.1 _ _ (by omega)
  obtain ⟨q1, zr⟩ := hq
  refine loop1 (f := fun x => [some (4, (M : Int)), some (0, t), none, some (0, x)]) (fun x V' => 0 ≤ x ∧ x ≤ V M 5 ∧ qF V V' M ∧ ∀ u, 0 ≤ u → u < V M 5 → V' (M + 9) (36000 + u) = bi (∃ g, (0 ≤ g ∧ g < x) ∧ cnj (mMul V M) (mInv V M) g t = u)) (fun x _ => (V M 5 - x).toNat) (fun x V' hx ih => ?_) 0 V1 ⟨by omega, by omega, q1, fun u u0 u1 => by rw [zr u u0 u1]; exact (bi_f (by rintro ⟨g, g0, _⟩; omega)).symm⟩
  clear zr q1
  obtain ⟨x0, x1, qq, row⟩ := hx
  have e5 : V' M 5 = V M 5 := qq.1 _ _ (by omega)
  have mm := MI_q qq hM
  have eI : ∀ i, V' (M + 6) i = V (M + 6) i := fun i => qq.1 _ _ (by omega)
  have eM : ∀ i, V' (M + 5) i = V (M + 5) i := fun i => qq.1 _ _ (by omega)
  refine t_X8_ofTurn_70 ly (fun _ => ⟨by omega, fun c => cpI_u (by omega) (marked_e ly mm) ⟨_, rfl, qq, Or.inr ⟨t0, Or.inr (Or.inr (Or.inr (Or.inl ⟨q, ?_⟩)))⟩⟩, fun c => ?_⟩)
  · rw [e5]
    refine sm_congr (fun u u0 u1 => ?_)
    rw [h300]
    (try dsimp only)
    rw [row u u0 (by omega), show x = V M 5 by omega]
  have xx : 0 ≤ x ∧ x < V M 5 := by omega
  have i1 := MI_iv mm (s := x) (by omega)
  have p1 := MI_pr mm i1 (t := t) (by omega)
  have p2 := MI_pr mm p1 (t := x) (by omega)
  have cv : V' (M + 5) (120 * V' (M + 5) (120 * V' (M + 6) x + t) + x) = cnj (mMul V M) (mInv V M) x t := by
    unfold cnj
    rw [eM, eM, eI]
  rw [cv] at p2 ⊢
  refine ⟨by omega, fun _ => ⟨by omega, by omega, by omega, fun _ => ⟨by omega, by omega, by omega, fun _ => ⟨by omega, by omega, by omega, ih (x + 1) _ ⟨by omega, by omega, qF_wr qq (by omega) (by omega) (by omega) (by omega), fun u u0 u1 => ?_⟩ (by omega)⟩⟩⟩⟩
  by_cases y : u = cnj (mMul V M) (mInv V M) x t
  · rw [y, wr_same]
    exact (bi_t ⟨x, by omega, rfl⟩).symm
  · rw [wr_i (by omega), row u u0 u1]
    refine bi_c ⟨fun ⟨g, g0, e⟩ => ⟨g, by omega, e⟩, fun ⟨g, g0, e⟩ => ⟨g, ?_, e⟩⟩
    have : g ≠ x := fun r => y (by rw [← e, r])
    omega
end
