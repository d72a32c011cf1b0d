/-! points that turns lead: what heaps leave of them comes from the table -/
def AS (n N : Int) (mul act : Int → Int → Int) : Prop := 0 ≤ n ∧ (∀ x g, 0 ≤ x → x < n → 0 ≤ g → g < N → 0 ≤ act x g ∧ act x g < n) ∧ (∀ x, 0 ≤ x → x < n → act x 0 = x) ∧ ∀ x a b, 0 ≤ x → x < n → 0 ≤ a → a < N → 0 ≤ b → b < N → act x (mul a b) = act (act x a) b
/-- U says which points count; turns lead them among themselves -/
def US (n N : Int) (act : Int → Int → Int) (U : Int → Prop) : Prop := ∀ x g, 0 ≤ x → x < n → 0 ≤ g → g < N → (U (act x g) ↔ U x)
noncomputable def stb (act : Int → Int → Int) (x : Int) : Int → Int := fun g => bi (act x g = x)
noncomputable def sx (N H : Int) (S act : Int → Int → Int) (x : Int) : Int := the (fun k => (0 ≤ k ∧ k < H) ∧ req N (S k) (stb act x))
theorem least_i {P : Int → Prop} {n : Int} (h : ∃ r, (0 ≤ r ∧ r < n) ∧ P r) : ∃ r, (0 ≤ r ∧ r < n) ∧ P r ∧ ∀ s, 0 ≤ s → s < r → ¬ P s := by
  have key : ∀ (m : Nat) (r : Int), r.toNat = m → (0 ≤ r ∧ r < n) → P r → ∃ r, (0 ≤ r ∧ r < n) ∧ P r ∧ ∀ s, 0 ≤ s → s < r → ¬ P s := by
    intro m
    induction m using Nat.strongRecOn with
    | ind m ih =>
      intro r em r0 pr
      by_cases q : ∃ s, (0 ≤ s ∧ s < r) ∧ P s
      · obtain ⟨s, s0, ps⟩ := q
        exact ih s.toNat (by omega) s rfl (by omega) ps
      · exact ⟨r, r0, pr, fun s s0 s1 ps => q ⟨s, ⟨s0, s1⟩, ps⟩⟩
  obtain ⟨r, r0, pr⟩ := h
  exact key _ r rfl r0 pr
section
variable {n N H C : Int} {mul act : Int → Int → Int} {inv : Int → Int} {S : Int → Int → Int} {sz co fo nu : Int → Int} {x y g h k c d : Int} {U : Int → Prop}
theorem AS_n (as : AS n N mul act) : ((n.toNat : Nat) : Int) = n := Int.toNat_of_nonneg as.1
theorem AS_r (as : AS n N mul act) (x0 : 0 ≤ x ∧ x < n) (g0 : 0 ≤ g ∧ g < N) : 0 ≤ act x g ∧ act x g < n := as.2.1 x g x0.1 x0.2 g0.1 g0.2
theorem AS_m (as : AS n N mul act) (x0 : 0 ≤ x ∧ x < n) (g0 : 0 ≤ g ∧ g < N) (h0 : 0 ≤ h ∧ h < N) : act x (mul g h) = act (act x g) h := as.2.2.2 x g h x0.1 x0.2 g0.1 g0.2 h0.1 h0.2
theorem AS_i (gt : GT N mul inv) (as : AS n N mul act) (x0 : 0 ≤ x ∧ x < n) (g0 : 0 ≤ g ∧ g < N) : act (act x g) (inv g) = x := by
  rw [← AS_m as x0 g0 (GT_i gt g0), (gt.2.2.2.2 g g0.1 g0.2).2.2.1, as.2.2.1 x x0.1 x0.2]
theorem AS_j (gt : GT N mul inv) (as : AS n N mul act) (x0 : 0 ≤ x ∧ x < n) (g0 : 0 ≤ g ∧ g < N) : act (act x (inv g)) g = x := by
  rw [← AS_m as x0 (GT_i gt g0) g0, (gt.2.2.2.2 g g0.1 g0.2).2.2.2, as.2.2.1 x x0.1 x0.2]
theorem AS_in (gt : GT N mul inv) (as : AS n N mul act) (x0 : 0 ≤ x ∧ x < n) (y0 : 0 ≤ y ∧ y < n) (g0 : 0 ≤ g ∧ g < N) (e : act x g = act y g) : x = y := by
  rw [← AS_i gt as x0 g0, e, AS_i gt as y0 g0]
theorem stb_SM (gt : GT N mul inv) (as : AS n N mul act) (x0 : 0 ≤ x ∧ x < n) : SM N mul (stb act x) := by
  refine ⟨fun t _ _ => bi_01 _, bi_t (as.2.2.1 x x0.1 x0.2), fun s t s0 s1 t0 t1 a b => ?_⟩
  have a' := bi_1.mp a
  have b' := bi_1.mp b
  refine bi_t ?_
  rw [AS_m as x0 ⟨s0, s1⟩ ⟨t0, t1⟩, a', b']
theorem sx_s (gt : GT N mul inv) (hp : hpsP N H mul S sz) (as : AS n N mul act) (x0 : 0 ≤ x ∧ x < n) : (0 ≤ sx N H S act x ∧ sx N H S act x < H) ∧ req N (S (sx N H S act x)) (stb act x) := by
  obtain ⟨k, k0, k1, e⟩ := hp.2.2.2.1 _ (stb_SM gt as x0)
  exact the_s (P := fun k => (0 ≤ k ∧ k < H) ∧ req N (S k) (stb act x)) ⟨k, ⟨k0, k1⟩, e⟩
theorem sx_act (gt : GT N mul inv) (hp : hpsP N H mul S sz) (as : AS n N mul act) (x0 : 0 ≤ x ∧ x < n) (g0 : 0 ≤ g ∧ g < N) : sx N H S act (act x g) = ld N H mul inv S (sx N H S act x) g := by
  have s1 := sx_s gt hp as x0
  have y0 := AS_r as x0 g0
  have s2 := sx_s gt hp as y0
  refine (ld_e gt hp s1.1 g0 s2.1 (rqt s2.2 (rqt ?_ (rqs (cj_congr gt (hp.2.2.1 _ s1.1.1 s1.1.2).1.1 s1.2 g))))).symm
  have sm1 := stb_SM gt as x0
  refine bit_req (stb_SM gt as y0).1 (cj_SM gt sm1 g0).1.1 (fun t t0 t1 => ?_)
  have ig := GT_i gt g0
  rw [cj_in gt]
  constructor
  · intro e
    have e' := bi_1.mp e
    have gm := GT_m gt g0 ⟨t0, t1⟩
    refine ⟨mul (mul g t) (inv g), (GT_m gt gm ig).1, (GT_m gt gm ig).2, bi_t ?_, ?_⟩
    · rw [AS_m as x0 gm ig, AS_m as x0 g0 ⟨t0, t1⟩, e', AS_i gt as x0 g0]
    · rw [← GT_a gt ig gm ig, ← GT_a gt ig g0 ⟨t0, t1⟩, (gt.2.2.2.2 g g0.1 g0.2).2.2.2, (gt.2.2.1 t t0 t1).1, GT_rj gt ⟨t0, t1⟩ g0]
  · intro ⟨u, u0, u1, su, e⟩
    have e' := bi_1.mp su
    refine bi_t ?_
    have iu := GT_m gt ig ⟨u0, u1⟩
    rw [← e, AS_m as y0 iu g0, AS_m as y0 ig ⟨u0, u1⟩, AS_i gt as x0 g0, e']
/-- how many points a heap alone keeps -/
noncomputable def mk_ (n N H : Int) (S act : Int → Int → Int) (U : Int → Prop) (k : Int) : Int := sm (fun x => bi (U x ∧ sx N H S act x = k)) n.toNat
theorem mk_ld (gt : GT N mul inv) (hp : hpsP N H mul S sz) (as : AS n N mul act) (us : US n N act U) (k0 : 0 ≤ k ∧ k < H) (g0 : 0 ≤ g ∧ g < N) : mk_ n N H S act U (ld N H mul inv S k g) = mk_ n N H S act U k := by
  have en := AS_n as
  unfold mk_
  rw [← sm_perm (f := fun x => bi (U x ∧ sx N H S act x = ld N H mul inv S k g)) (σ := fun x => act x g) (fun x x0 x1 => by have := AS_r as (x := x) ⟨x0, by omega⟩ g0; (try dsimp only); omega) (fun x y x0 x1 y0 y1 e => AS_in gt as ⟨x0, by omega⟩ ⟨y0, by omega⟩ g0 e)]
  refine sm_congr (fun x x0 x1 => ?_)
  have x0' : 0 ≤ x ∧ x < n := ⟨x0, by omega⟩
  (try dsimp only)
  rw [sx_act gt hp as x0' g0]
  have uu := us x g x0'.1 x0'.2 g0.1 g0.2
  exact bi_c ⟨fun e => ⟨uu.mp e.1, ld_in gt hp (sx_s gt hp as x0').1 k0 g0 e.2⟩, fun e => ⟨uu.mpr e.1, by rw [e.2]⟩⟩
/-- what a heap leaves -/
noncomputable def fx (n N : Int) (S act : Int → Int → Int) (U : Int → Prop) (h : Int) : Int := sm (fun x => bi (U x ∧ ∀ t, 0 ≤ t → t < N → S h t = 1 → act x t = x)) n.toNat
theorem fx_e (gt : GT N mul inv) (hp : hpsP N H mul S sz) (as : AS n N mul act) (h0 : 0 ≤ h ∧ h < H) : fx n N S act U h = sm (fun k => mk_ n N H S act U k * Lq N S h k) H.toNat := by
  have en := AS_n as
  have eh := hp_n hp
  have a : fx n N S act U h = sm (fun x => bi (U x) * Lq N S h (sx N H S act x)) n.toNat := sm_congr (fun x x0 x1 => by
    have s := sx_s gt hp as (x := x) ⟨x0, by omega⟩
    rw [bi_and]
    refine congrArg (fun z => bi (U x) * z) (bi_c ⟨fun e t t0 t1 q => ?_, fun e t t0 t1 q => ?_⟩)
    · rw [s.2 t t0 t1]; exact bi_t (e t t0 t1 q)
    · have := e t t0 t1 q
      rw [s.2 t t0 t1] at this
      exact bi_1.mp this)
  rw [a, sm_fib (c := fun x => sx N H S act x) (m := H.toNat) (fun x x0 x1 => by have := (sx_s gt hp as (x := x) ⟨x0, by omega⟩).1; (try dsimp only); omega)]
  refine sm_congr (fun k k0 k1 => ?_)
  (try dsimp only)
  unfold mk_
  rw [← sm_mc]
  refine sm_congr (fun x x0 x1 => ?_)
  (try dsimp only)
  rw [bi_and]
  by_cases q : sx N H S act x = k
  · rw [q, bi_t rfl, Int.one_mul, Int.mul_one]
  · rw [bi_f q, Int.zero_mul, Int.mul_zero, Int.zero_mul]
theorem fx_cl (gt : GT N mul inv) (hp : hpsP N H mul S sz) (cl : clX N H C mul inv S co fo nu) (as : AS n N mul act) (us : US n N act U) (d0 : 0 ≤ d ∧ d < C) : fx n N S act U (fo d) = sm (fun c => mk_ n N H S act U (fo c) * ov N H S co fo d c) C.toNat := by
  have eh := hp_n hp
  have eC : ((C.toNat : Nat) : Int) = C := Int.toNat_of_nonneg (by have := cl.1; omega)
  have fd := (cl.2.2.1 d d0.1 d0.2).1
  rw [fx_e gt hp as fd, sm_fib (c := co) (m := C.toNat) (fun k k0 k1 => by have := (cl.2.1 k k0 (by omega)).1; omega)]
  refine sm_congr (fun c c0 c1 => ?_)
  (try dsimp only)
  unfold ov
  rw [← sm_cm]
  refine sm_congr (fun k k0 k1 => ?_)
  (try dsimp only)
  by_cases q : co k = c
  · have fc := cl.2.2.1 c c0 (by omega)
    obtain ⟨g, g0, e⟩ := cl_ex gt hp cl (h := fo c) (k := k) fc.1 ⟨k0, by omega⟩ (by rw [q]; exact fc.2)
    have m := mk_ld gt hp as us fc.1 g0
    rw [e] at m
    rw [bi_t q, m, Int.one_mul, Int.one_mul]
  · rw [bi_f q, Int.zero_mul, Int.zero_mul, Int.mul_zero]
/-- y is met from x, and heap k alone keeps it -/
def om (n N H : Int) (S act : Int → Int → Int) (k x y : Int) : Prop := sx N H S act y = k ∧ ∃ g, (0 ≤ g ∧ g < N) ∧ act x g = y
theorem om_n (gt : GT N mul inv) (hp : hpsP N H mul S sz) (as : AS n N mul act) (x0 : 0 ≤ x ∧ x < n) (k0 : 0 ≤ k ∧ k < H) (e : sx N H S act x = k) : sm (fun y => bi (om n N H S act k x y)) n.toNat * sz k = nz N H mul inv S k := by
  have en := AS_n as
  have eN := GT_n gt
  have sx1 := sx_s gt hp as x0
  rw [e] at sx1
  have szk : sz k = sm (stb act x) N.toNat := by rw [(hp.2.2.1 k k0.1 k0.2).2]; exact sm_congr (fun t t0 t1 => sx1.2 t t0 (by omega))
  unfold nz
  rw [sm_fib (f := fun g => bi (ld N H mul inv S k g = k)) (c := fun g => act x g) (m := n.toNat) (fun g g0 g1 => by have := AS_r as x0 (g := g) ⟨g0, by omega⟩; (try dsimp only); omega), ← sm_mc]
  refine sm_congr (fun y y0 y1 => ?_)
  have y0' : 0 ≤ y ∧ y < n := ⟨y0, by omega⟩
  (try dsimp only)
  by_cases q : om n N H S act k x y
  · rw [bi_t q, Int.one_mul, szk]
    obtain ⟨ey, a, a0, ea⟩ := q
    have ia := GT_i gt a0
    rw [← sm_mr gt ia (stb act x)]
    refine sm_congr (fun g g0 g1 => ?_)
    have g0' : 0 ≤ g ∧ g < N := ⟨g0, by omega⟩
    (try dsimp only)
    show bi (act x (mul g (inv a)) = x) = _
    rw [AS_m as x0 g0' ia]
    by_cases w : act x g = y
    · have lk : ld N H mul inv S k g = k := by rw [← e, ← sx_act gt hp as x0 g0', w, ey, e]
      rw [bi_t w, bi_t lk, Int.one_mul, w, ← ea, AS_i gt as x0 a0]
      exact bi_t rfl
    · rw [bi_f w, Int.zero_mul]
      refine bi_f (fun r => w ?_)
      rw [← ea, ← AS_j gt as (AS_r as x0 g0') a0, r]
  · rw [bi_f q, Int.zero_mul]
    refine (sm_zz (fun g g0 g1 => ?_)).symm
    have g0' : 0 ≤ g ∧ g < N := ⟨g0, by omega⟩
    (try dsimp only)
    by_cases w : act x g = y
    · have : ¬ ld N H mul inv S k g = k := fun lk => q ⟨by rw [← w, sx_act gt hp as x0 g0', e, lk], g, g0', w⟩
      rw [bi_f this, Int.mul_zero]
    · rw [bi_f w, Int.zero_mul]
/-- the least point of those -/
noncomputable def rpt (n N H : Int) (S act : Int → Int → Int) (k x : Int) : Int := the (fun r => (0 ≤ r ∧ r < n) ∧ om n N H S act k x r ∧ ∀ s, 0 ≤ s → s < r → ¬ om n N H S act k x s)
theorem om_rf (gt : GT N mul inv) (as : AS n N mul act) (x0 : 0 ≤ x ∧ x < n) (e : sx N H S act x = k) : om n N H S act k x x := ⟨e, 0, ⟨by omega, by have := gt.1; omega⟩, as.2.2.1 x x0.1 x0.2⟩
theorem om_tr (gt : GT N mul inv) (as : AS n N mul act) (x0 : 0 ≤ x ∧ x < n) (a : om n N H S act k x y) : ∀ z, om n N H S act k x z ↔ om n N H S act k y z := by
  obtain ⟨e, g, g0, eg⟩ := a
  intro z
  constructor
  · intro ⟨ez, b, b0, eb⟩
    refine ⟨ez, mul (inv g) b, GT_m gt (GT_i gt g0) b0, ?_⟩
    rw [← eg, AS_m as (AS_r as x0 g0) (GT_i gt g0) b0, AS_i gt as x0 g0, eb]
  · intro ⟨ez, b, b0, eb⟩
    refine ⟨ez, mul g b, GT_m gt g0 b0, ?_⟩
    rw [AS_m as x0 g0 b0, eg, eb]
theorem rpt_s (gt : GT N mul inv) (as : AS n N mul act) (x0 : 0 ≤ x ∧ x < n) (e : sx N H S act x = k) : (0 ≤ rpt n N H S act k x ∧ rpt n N H S act k x < n) ∧ om n N H S act k x (rpt n N H S act k x) ∧ ∀ s, 0 ≤ s → s < rpt n N H S act k x → ¬ om n N H S act k x s :=
  the_s (P := fun r => (0 ≤ r ∧ r < n) ∧ om n N H S act k x r ∧ ∀ s, 0 ≤ s → s < r → ¬ om n N H S act k x s) (least_i ⟨x, x0, om_rf gt as x0 e⟩)
theorem rpt_e (gt : GT N mul inv) (as : AS n N mul act) (x0 : 0 ≤ x ∧ x < n) (a : om n N H S act k x y) : rpt n N H S act k x = rpt n N H S act k y := by
  have t := om_tr gt as x0 a
  unfold rpt
  congr 1
  funext r
  simp only [t]
theorem om_U (us : US n N act U) (x0 : 0 ≤ x ∧ x < n) (a : om n N H S act k x y) : U y ↔ U x := by
  obtain ⟨e, g, g0, eg⟩ := a
  rw [← eg]
  exact us x g x0.1 x0.2 g0.1 g0.2
theorem mk_dv (gt : GT N mul inv) (hp : hpsP N H mul S sz) (as : AS n N mul act) (us : US n N act U) (k0 : 0 ≤ k ∧ k < H) : ∃ q : Int, 0 ≤ q ∧ mk_ n N H S act U k * sz k = q * nz N H mul inv S k := by
  have en := AS_n as
  refine ⟨sm (fun r => bi ((U r ∧ sx N H S act r = k) ∧ rpt n N H S act k r = r)) n.toNat, sm_nn (fun _ _ _ => bi_nn _), ?_⟩
  have a : mk_ n N H S act U k = sm (fun r => sm (fun x => bi ((if sx N H S act x = k then rpt n N H S act k x else 0) = r) * bi (U x ∧ sx N H S act x = k)) n.toNat) n.toNat := by
    unfold mk_
    refine sm_fib (c := fun x => if sx N H S act x = k then rpt n N H S act k x else 0) (fun x x0 x1 => ?_)
    (try dsimp only)
    by_cases q : sx N H S act x = k
    · rw [if_pos q]
      have := (rpt_s gt as (x := x) ⟨x0, by omega⟩ q).1
      omega
    · rw [if_neg q]; omega
  rw [a, ← sm_mc, ← sm_mc]
  refine sm_congr (fun r r0 r1 => ?_)
  have r0' : 0 ≤ r ∧ r < n := ⟨r0, by omega⟩
  (try dsimp only)
  by_cases q : (U r ∧ sx N H S act r = k) ∧ rpt n N H S act k r = r
  · rw [bi_t q, Int.one_mul, ← om_n gt hp as r0' k0 q.1.2]
    refine congrArg (fun z => z * sz k) (sm_congr (fun x x0 x1 => ?_))
    have x0' : 0 ≤ x ∧ x < n := ⟨x0, by omega⟩
    (try dsimp only)
    by_cases w : sx N H S act x = k
    · rw [if_pos w, bi_and, bi_t w, Int.mul_one]
      by_cases v : om n N H S act k r x
      · have ux := (om_U us r0' v).mpr q.1.1
        rw [bi_t v, bi_t ux, Int.mul_one]
        exact bi_t (by rw [← rpt_e gt as r0' v, q.2])
      · rw [bi_f v]
        have : ¬ rpt n N H S act k x = r := fun e => v (by
          have s := (rpt_s gt as x0' w).2.1
          rw [e] at s
          exact ((om_tr gt as x0' s) x).mp (om_rf gt as x0' w))
        rw [bi_f this, Int.zero_mul]
    · rw [bi_f (show ¬ (U x ∧ sx N H S act x = k) from fun e => w e.2), Int.mul_zero]
      exact (bi_f (fun e => w e.1)).symm
  · rw [bi_f q, Int.zero_mul]
    have z : sm (fun x => bi ((if sx N H S act x = k then rpt n N H S act k x else 0) = r) * bi (U x ∧ sx N H S act x = k)) n.toNat = 0 := sm_zz (fun x x0 x1 => by
      (try dsimp only)
      have x0' : 0 ≤ x ∧ x < n := ⟨x0, by omega⟩
      by_cases w : U x ∧ sx N H S act x = k
      · rw [if_pos w.2, bi_t w, Int.mul_one]
        refine bi_f (fun e => q ?_)
        have s := rpt_s gt as x0' w.2
        rw [e] at s
        refine ⟨⟨(om_U us x0' s.2.1).mpr w.1, s.2.1.1⟩, ?_⟩
        rw [← rpt_e gt as x0' s.2.1, e]
      · rw [bi_f w, Int.mul_zero])
    rw [z, Int.zero_mul]
/-- the parts of such points -/
theorem gs_parts (gt : GT N mul inv) (hp : hpsP N H mul S sz) (cl : clX N H C mul inv S co fo nu) (as : AS n N mul act) (us : US n N act U) : ∃ p : Int → Int, (∀ c, 0 ≤ c → c < C → 0 ≤ p c) ∧ ∀ d, 0 ≤ d → d < C → fx n N S act U (fo d) = sm (fun c => p c * tbx N mul inv S fo c d) C.toNat := by
  have eC : ((C.toNat : Nat) : Int) = C := Int.toNat_of_nonneg (by have := cl.1; omega)
  have key : ∀ c, 0 ≤ c → c < C → ∃ q, 0 ≤ q ∧ mk_ n N H S act U (fo c) = q * (N / (nu c * sz (fo c))) := fun c c0 c1 => by
    have f := (cl.2.2.1 c c0 c1).1
    obtain ⟨q, q0, e⟩ := mk_dv gt hp as us f
    refine ⟨q, q0, ?_⟩
    have s := spare_e gt hp cl (c := c) ⟨c0, c1⟩
    have p1 := (sz_p gt hp f).1
    rw [← s, ← Int.mul_assoc] at e
    exact Int.eq_of_mul_eq_mul_right (by omega) e
  refine ⟨fun c => the (fun q => 0 ≤ q ∧ mk_ n N H S act U (fo c) = q * (N / (nu c * sz (fo c)))), fun c c0 c1 => (the_s (P := fun q => 0 ≤ q ∧ mk_ n N H S act U (fo c) = q * (N / (nu c * sz (fo c)))) (key c c0 c1)).1, fun d d0 d1 => ?_⟩
  rw [fx_cl gt hp cl as us ⟨d0, d1⟩]
  refine sm_congr (fun c c0 c1 => ?_)
  have t := (the_s (P := fun q => 0 ≤ q ∧ mk_ n N H S act U (fo c) = q * (N / (nu c * sz (fo c)))) (key c c0 (by omega))).2
  (try dsimp only)
  rw [tb_e gt hp cl (c := c) (e := d) ⟨c0, by omega⟩ ⟨d0, d1⟩, ← Int.mul_assoc, ← t]
end
