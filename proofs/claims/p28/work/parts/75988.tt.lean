/-! what the makers make: rounds, kernels, heaps -/
section
variable {n N H C K : Int} {mul act : Int → Int → Int} {inv A : Int → Int} {S : Int → Int → Int} {sz co fo nu mk mb p cn rp : Int → Int} {c d e g h k t x : Int} {U : Int → Prop}
theorem sm_ones : ∀ m : Nat, sm (fun _ => (1 : Int)) m = m := by
  intro m
  induction m with
  | zero => rfl
  | succ m ih =>
    show sm (fun _ => (1 : Int)) m + 1 = ((m + 1 : Nat) : Int)
    rw [ih]; omega
theorem bi_l1 (q : Prop) : bi q ≤ 1 := by rcases bi_01 q with h | h <;> omega
theorem fo_0 (hp : hpsP N H mul S sz) (cl : clX N H C mul inv S co fo nu) : fo 0 = 0 := by
  have C1 := cl.1
  have h0 := cl.2.1 0 (by omega) (by have := hp.1; omega)
  have f0 := (cl.2.2.1 0 (by omega) (by omega)).1
  have h1 := h0.1
  have h2 := h0.2.1
  by_cases q : co 0 = 0
  · rw [q] at h2; omega
  · have := cl.2.2.2.1 0 (co 0) (by omega) (by omega) h1.2
    omega
theorem fx_le (as : AS n N mul act) : fx n N S act (fun _ => True) h ≤ n := by
  have en := AS_n as
  have q : fx n N S act (fun _ => True) h ≤ sm (fun _ => (1 : Int)) n.toNat := sm_le (fun x _ _ => bi_l1 _)
  rw [sm_ones, en] at q
  exact q
theorem fx_0 (gt : GT N mul inv) (hp : hpsP N H mul S sz) (so : srtS N H S) (as : AS n N mul act) : fx n N S act (fun _ => True) 0 = n := by
  have en := AS_n as
  have q : fx n N S act (fun _ => True) 0 = sm (fun _ => (1 : Int)) n.toNat := sm_congr (fun x x0 x1 => bi_t ⟨trivial, fun t t0 t1 z => by rw [bot_0 gt hp so ⟨t0, t1⟩ z]; exact as.2.2.1 x x0 (by omega)⟩)
  rw [q, sm_ones, en]
theorem tbx_0 (gt : GT N mul inv) (hp : hpsP N H mul S sz) (so : srtS N H S) (cl : clX N H C mul inv S co fo nu) (c0 : 0 ≤ c ∧ c < C) (d0 : 0 ≤ d ∧ d < C) : tbx N mul inv S fo c d ≤ tbx N mul inv S fo c 0 := by
  obtain ⟨n, act, as, e⟩ := RZ_cos gt hp cl c0
  have a := e d d0.1 d0.2
  have b := e 0 (by omega) (by omega)
  (try dsimp only at a b)
  rw [a, b, fo_0 hp cl, fx_0 gt hp so as]
  exact fx_le as
theorem lo_cyc (gt : GT N mul inv) (hp : hpsP N H mul S sz) (so : srtS N H S) (t0 : 0 ≤ t ∧ t < N) (lo : loP N H S (one t) k) : inP N H S (cyc mul t) k := by
  obtain ⟨v, v0, v1, e⟩ := hp.2.2.2.1 _ (cyc_SM gt t0)
  have i : inP N H S (cyc mul t) v := ⟨⟨v0, v1⟩, e⟩
  rw [loP_u lo (cyc_lo gt hp so t0 i)]
  exact i
theorem rd_n (gt : GT N mul inv) (hp : hpsP N H mul S sz) (so : srtS N H S) (cl : clX N H C mul inv S co fo nu) (as : AS n N mul act) (hm : ∀ d, 0 ≤ d → d < C → mk d = fx n N S act (fun _ => True) (fo d)) (hmb : ∀ t, 0 ≤ t → t < N → loP N H S (one t) (mb t)) (h0 : 0 ≤ h ∧ h < H) : ∃ cn rp, rnP n N (sm (fun t => S h t * mk (co (mb t))) N.toNat / sz h) (S h) act cn rp := by
  have eN := GT_n gt
  have s := hp.2.2.1 h h0.1 h0.2
  have s1 := (sz_p gt hp h0).1
  obtain ⟨K, cn, rp, rn⟩ := rn_ex gt as s.1
  have b := rn_b gt as s.1 rn
  rw [← s.2] at b
  have key : sm (fun t => S h t * mk (co (mb t))) N.toNat = K * sz h := by
    rw [← b]
    refine sm_congr (fun t t0 t1 => ?_)
    have t0' : 0 ≤ t ∧ t < N := ⟨t0, by omega⟩
    have ip := lo_cyc gt hp so t0' (hmb t t0 t0'.2)
    have cb := (cl.2.1 (mb t) ip.1.1 ip.1.2).1
    have f := cl.2.2.1 (co (mb t)) cb.1 cb.2
    have us : US n N act (fun _ => True) := fun _ _ _ _ _ _ => Iff.rfl
    have e1 := fx_co gt hp cl as us f.1 ip.1 f.2
    have e2 := fx_t gt hp as t0' ip.1 (by rw [ip.2 t t0 t0'.2]; exact cyc_t gt t0') (fun k k0 k1 q u u0 u1 z => by
      rw [ip.2 u u0 u1] at z
      exact cyc_le gt t0' (hp.2.2.1 k k0 k1).1 q u u0 u1 z)
    (try dsimp only)
    rw [hm _ cb.1 cb.2, e1, e2]
  refine ⟨cn, rp, ?_⟩
  rw [key, Int.mul_ediv_cancel K (by omega)]
  exact rn
theorem SM_nn (hA : SM N mul A) (t0 : 0 ≤ t) (t1 : t < N) : 0 ≤ A t := by rcases hA.1 t t0 t1 with q | q <;> omega
theorem rn_le (gt : GT N mul inv) (as : AS n N mul act) (hA : SM N mul A) (rn : rnP n N K A act cn rp) : 0 ≤ K ∧ K ≤ n := by
  have en := AS_n as
  have eN := GT_n gt
  have N1 := gt.1
  have b := rn_b gt as hA rn
  have a1 : 1 ≤ sm A N.toNat := by
    have q := sm_one (f := A) (n := N.toNat) (j := 0) (fun i i0 i1 => SM_nn hA i0 (by omega)) (by omega) (by omega)
    rw [hA.2.1] at q; exact q
  have le : sm (fun t => A t * sm (fun x => bi (act x t = x)) n.toNat) N.toNat ≤ sm (fun t => A t * n) N.toNat := sm_le (fun t t0 t1 => by
    have q := sm_le (f := fun x => bi (act x t = x)) (g := fun _ => (1 : Int)) (n := n.toNat) (fun x _ _ => bi_l1 _)
    rw [sm_ones, en] at q
    exact Int.mul_le_mul_of_nonneg_left q (SM_nn hA t0 (by omega)))
  rw [sm_mc, b, Int.mul_comm (sm A N.toNat) n] at le
  exact ⟨rn.1, Int.le_of_mul_le_mul_right le (by omega)⟩
theorem rn_one (gt : GT N mul inv) (as : AS n N mul act) (hA : SM N mul A) (rn : rnP n N K A act cn rp) (o : ∀ t, 0 ≤ t → t < N → A t = 1 → t = 0) : K = n := by
  have en := AS_n as
  have eN := GT_n gt
  have N1 := gt.1
  have b := rn_b gt as hA rn
  have eA : ∀ t, 0 ≤ t → t < N → A t = bi (0 = t) := fun t t0 t1 => by
    by_cases q : t = 0
    · rw [q, hA.2.1]; exact (bi_t rfl).symm
    · rw [bi_f (fun z => q z.symm)]
      rcases hA.1 t t0 t1 with z | z
      · exact z
      · exact absurd (o t t0 t1 z) q
  have s1 : sm A N.toNat = 1 := (sm_congr (fun t t0 t1 => by (try dsimp only); rw [eA t t0 (by omega), Int.mul_one])).trans (sm_dl (g := fun _ => (1 : Int)) (e := 0) (m := N.toNat) (by omega) (by omega))
  have s2 : sm (fun t => A t * sm (fun x => bi (act x t = x)) n.toNat) N.toNat = n := by
    refine (sm_congr (fun t t0 t1 => by (try dsimp only); rw [eA t t0 (by omega)])).trans ((sm_dl (g := fun t => sm (fun x => bi (act x t = x)) n.toNat) (e := 0) (m := N.toNat) (by omega) (by omega)).trans ?_)
    (try dsimp only)
    rw [sm_congr (g := fun _ => (1 : Int)) (fun x x0 x1 => bi_t (as.2.2.1 x x0 (by omega))), sm_ones, en]
  rw [s1, s2] at b
  omega
theorem RZ_one : RZ N C mul S fo (fun _ => 1) := ⟨1, fun x _ => x, ⟨by omega, fun x g x0 x1 _ _ => ⟨x0, x1⟩, fun _ _ _ => rfl, fun _ _ _ _ _ _ _ _ _ => rfl⟩, fun d _ _ => by
  unfold fx
  rw [sm_congr (g := fun _ => (1 : Int)) (fun x _ _ => bi_t ⟨trivial, fun _ _ _ _ => rfl⟩), sm_ones]
  rfl⟩
theorem RZ_cl (gt : GT N mul inv) (hp : hpsP N H mul S sz) (so : srtS N H S) (cl : clX N H C mul inv S co fo nu) (as : AS n N mul act) (hm : ∀ d, 0 ≤ d → d < C → mk d = fx n N S act (fun _ => True) (fo d)) (hmb : ∀ t, 0 ≤ t → t < N → loP N H S (one t) (mb t)) (k0 : 0 ≤ k) : RZ N C mul S fo (fun d => k ^ (sm (fun t => S (fo d) t * mk (co (mb t))) N.toNat / sz (fo d)).toNat) := by
  have rnd : ∀ d, 0 ≤ d → d < C → ∃ cn rp, rnP n N (sm (fun t => S (fo d) t * mk (co (mb t))) N.toNat / sz (fo d)) (S (fo d)) act cn rp := fun d d0 d1 => rd_n gt hp so cl as hm hmb (cl.2.2.1 d d0 d1).1
  have n0 := as.1
  by_cases q : k = 0
  · by_cases nz : n = 0
    · refine RZ_c RZ_one (fun d d0 d1 => ?_)
      obtain ⟨cn, rp, rn⟩ := rnd d d0 d1
      have f := (cl.2.2.1 d d0 d1).1
      have r := rn_le gt as (hp.2.2.1 _ f.1 f.2).1 rn
      (try dsimp only)
      rw [show (sm (fun t => S (fo d) t * mk (co (mb t))) N.toNat / sz (fo d)).toNat = 0 by omega, Int.pow_zero]
    · refine RZ_c RZ_0 (fun d d0 d1 => ?_)
      obtain ⟨cn, rp, rn⟩ := rnd d d0 d1
      have r := rn.2.1 0 (by omega) (by omega)
      (try dsimp only)
      rw [q, Int.zero_pow (by omega)]
  · exact RZ_col gt hp cl as (by omega) rnd
/-- what leaves the places is the last class that does -/
theorem ker_id (gt : GT N mul inv) (hp : hpsP N H mul S sz) (so : srtS N H S) (cl : clX N H C mul inv S co fo nu) (p0 : ∀ c, 0 ≤ c → c < C → 0 ≤ p c) {m : Int → Int} (hm : ∀ d, 0 ≤ d → d < C → m d = sm (fun c => p c * tbx N mul inv S fo c d) C.toNat) {v : Int} (ip : inP N H S (fun t => bi (∀ c, 0 ≤ c → c < C → 0 < p c → coU N H mul inv S (fo c) t = 1)) v) : idP C m fo v := by
  have N1 := gt.1
  have C1 := cl.1
  have eC : ((C.toNat : Nat) : Int) = C := Int.toNat_of_nonneg (by omega)
  have eH := hp_n hp
  have v0 := ip.1
  have fc : ∀ c, 0 ≤ c → c < C → 0 ≤ fo c ∧ fo c < H := fun c c0 c1 => (cl.2.2.1 c c0 c1).1
  have sp : ∀ c, 0 ≤ c → c < C → 1 ≤ N / (nu c * sz (fo c)) := fun c c0 c1 => by
    have s := spare_e gt hp cl (c := c) ⟨c0, c1⟩
    have z1 := (sz_p gt hp (fc c c0 c1)).1
    have n1 : 1 ≤ nz N H mul inv S (fo c) := by
      have q := sm_one (f := fun g => bi (ld N H mul inv S (fo c) g = fo c)) (n := N.toNat) (j := 0) (fun _ _ _ => bi_nn _) (by omega) (by omega)
      (try dsimp only at q)
      rw [bi_t (ld_0 gt hp (fc c c0 c1))] at q
      exact q
    apply Classical.byContradiction
    intro q
    have := Int.mul_nonneg (show 0 ≤ - (N / (nu c * sz (fo c))) by omega) (show 0 ≤ sz (fo c) by omega)
    rw [Int.neg_mul] at this
    omega
  -- what is in v is in all that class c has
  have inn : ∀ c, 0 ≤ c → c < C → 0 < p c → ∀ k, 0 ≤ k → k < H → co k = c → sub1 N (S v) (S k) := fun c c0 c1 pc k k0 k1 ek t t0 t1 q => by
    rw [ip.2 t t0 t1] at q
    have w := bi_1.mp (bi_1.mp q c c0 c1 pc)
    obtain ⟨g, g0, eg⟩ := cl_ex gt hp cl (fc c c0 c1) (k := k) ⟨k0, k1⟩ (by rw [(cl.2.2.1 c c0 c1).2, ek])
    have z := w g g0.1 g0.2
    rw [eg] at z
    exact z
  -- normal
  have nm : ∀ g, 0 ≤ g → g < N → ld N H mul inv S v g = v := fun g g0 g1 => by
    refine (leads_e gt hp v0 ⟨g0, g1⟩).mpr (fun t t0 t1 q => ?_)
    have r := cj_r gt (g := g) (t := t) ⟨g0, g1⟩ ⟨t0, t1⟩
    rw [ip.2 _ r.1 r.2]
    rw [ip.2 t t0 t1] at q
    refine bi_t (fun c c0 c1 pc => ?_)
    have w := bi_1.mp q c c0 c1 pc
    obtain ⟨k, k0, k1, ek⟩ := hp.2.2.2.1 _ (co_SM gt hp (fc c c0 c1))
    have kn := co_norm gt hp cl (fc c c0 c1) (k := k) ⟨⟨k0, k1⟩, ek⟩
    have lk := (norm_e gt hp cl ⟨k0, k1⟩).mp kn.1 g g0 g1
    have z := (leads_e gt hp ⟨k0, k1⟩ ⟨g0, g1⟩).mp lk t t0 t1 (by rw [ek t t0 t1]; exact w)
    rw [ek _ r.1 r.2] at z
    exact z
  have cv := (cl.2.1 v v0.1 v0.2).1
  have fv : fo (co v) = v := by
    have f := cl.2.2.1 (co v) cv.1 cv.2
    obtain ⟨g, g0, eg⟩ := cl_ex gt hp cl v0 f.1 f.2.symm
    rw [nm g g0.1 g0.2] at eg
    exact eg.symm
  have ovs : ∀ d c, 0 ≤ d → d < C → 0 ≤ c → c < C → (tbx N mul inv S fo c d = tbx N mul inv S fo c 0 ↔ ∀ k, 0 ≤ k → k < H → co k = c → sub1 N (S (fo d)) (S k)) := fun d c d0 d1 c0 c1 => by
    have s1 := sp c c0 c1
    rw [tb_e gt hp cl ⟨c0, c1⟩ ⟨d0, d1⟩, tb_e gt hp cl (c := c) (e := 0) ⟨c0, c1⟩ ⟨by omega, by omega⟩]
    have o0 : ov N H S co fo 0 c = sm (fun k => bi (co k = c)) H.toNat := sm_congr (fun k k0 k1 => by
      (try dsimp only)
      rw [fo_0 hp cl, bot_L gt hp so (j := k) ⟨k0, by omega⟩, Int.mul_one])
    constructor
    · intro e
      have e' : ov N H S co fo d c = ov N H S co fo 0 c := Int.eq_of_mul_eq_mul_left (by omega) e
      rw [o0] at e'
      intro k k0 k1 ek
      apply Classical.byContradiction
      intro no
      have lt : sm (fun k => bi (co k = c) * Lq N S (fo d) k) H.toNat < sm (fun k => bi (co k = c)) H.toNat := by
        have z : sm (fun j => bi (co j = c) * Lq N S (fo d) j + bi (k = j) * (fun _ => (1 : Int)) j) H.toNat ≤ sm (fun k => bi (co k = c)) H.toNat := sm_le (fun j j0 j1 => by
          (try dsimp only)
          by_cases q : k = j
          · have l0 : Lq N S (fo d) j = 0 := by rw [← q]; exact bi_f no
            rw [l0, bi_t q, Int.mul_zero, ← q, bi_t ek]; omega
          · rw [bi_f q]
            have l1 : Lq N S (fo d) j ≤ 1 := bi_l1 _
            have l2 := Int.mul_le_mul_of_nonneg_left l1 (bi_nn (co j = c))
            omega)
        rw [sm_add, sm_dl k0 (by omega)] at z
        omega
      have e2 : sm (fun k => bi (co k = c) * Lq N S (fo d) k) H.toNat = sm (fun k => bi (co k = c)) H.toNat := e'
      omega
    · intro al
      rw [o0]
      have e' : ov N H S co fo d c = sm (fun k => bi (co k = c)) H.toNat := sm_congr (fun k k0 k1 => by
        (try dsimp only)
        by_cases q : co k = c
        · have l1 : Lq N S (fo d) k = 1 := bi_t (al k k0 (by omega) q)
          rw [l1, Int.mul_one]
        · rw [bi_f q, Int.zero_mul])
      rw [e']
  have mv : m (co v) = m 0 := by
    rw [hm _ cv.1 cv.2, hm 0 (by omega) (by omega)]
    refine sm_congr (fun c c0 c1 => ?_)
    (try dsimp only)
    by_cases q : 0 < p c
    · rw [(ovs (co v) c cv.1 cv.2 c0 (by omega)).mpr (fun k k0 k1 ek => by rw [fv]; exact inn c c0 (by omega) q k k0 k1 ek)]
    · have := p0 c c0 (by omega)
      rw [show p c = 0 by omega, Int.zero_mul, Int.zero_mul]
  have last : ∀ d, 0 ≤ d → d < C → m d = m 0 → d ≤ co v := fun d d0 d1 e => by
    rw [hm d d0 d1, hm 0 (by omega) (by omega)] at e
    have each : ∀ c, 0 ≤ c → c < C → 0 < p c → tbx N mul inv S fo c d = tbx N mul inv S fo c 0 := fun c c0 c1 pc => by
      have z : sm (fun j => p j * tbx N mul inv S fo j d + bi (c = j) * (fun j => tbx N mul inv S fo j 0 - tbx N mul inv S fo j d) j) C.toNat ≤ sm (fun j => p j * tbx N mul inv S fo j 0) C.toNat := sm_le (fun j j0 j1 => by
        (try dsimp only)
        have t1 := tbx_0 gt hp so cl (c := j) (d := d) ⟨j0, by omega⟩ ⟨d0, d1⟩
        have pj := p0 j j0 (by omega)
        have t2 := Int.mul_le_mul_of_nonneg_left t1 pj
        by_cases q : c = j
        · rw [bi_t q, Int.one_mul]
          have p1 : 1 ≤ p j := by rw [← q]; omega
          have t3 := mul_ge (x := tbx N mul inv S fo j 0 - tbx N mul inv S fo j d) (by omega) p1
          rw [Int.mul_comm, Int.mul_sub] at t3
          omega
        · rw [bi_f q, Int.zero_mul]; omega)
      rw [sm_add, sm_dl c0 (by omega)] at z
      (try dsimp only at z)
      have t1 := tbx_0 gt hp so cl (c := c) (d := d) ⟨c0, c1⟩ ⟨d0, d1⟩
      omega
    have sb : sub1 N (S (fo d)) (S v) := fun t t0 t1 q => by
      rw [ip.2 t t0 t1]
      refine bi_t (fun c c0 c1 pc => bi_t (fun g g0 g1 => ?_))
      have l := (ld_s gt hp (fc c c0 c1) (g := g) ⟨g0, g1⟩).1
      exact (ovs d c d0 d1 c0 c1).mp (each c c0 c1 pc) _ l.1 l.2 (by rw [cl_ld gt hp cl (fc c c0 c1) ⟨g0, g1⟩]; exact (cl.2.2.1 c c0 c1).2) t t0 t1 q
    apply Classical.byContradiction
    intro l
    have f1 := fc d d0 d1
    have f2 := cl.2.2.2.1 (co v) d cv.1 (by omega) d1
    rw [fv] at f2
    have a := sub_szl hp (by omega) f1 v0 sb (by omega)
    have b := srt_sz hp so v0.1 (show v ≤ fo d by omega) f1.2
    omega
  by_cases q : 0 < co v
  · exact Or.inl ⟨co v, ⟨q, cv.2⟩, mv, fun e e0 e1 ee => by have := last e (by omega) e1 ee; omega, fv.symm⟩
  · have z : co v = 0 := by omega
    refine Or.inr ⟨fun c c0 c1 ee => by have := last c (by omega) c1 ee; omega, ?_⟩
    rw [← fv, z]; exact fo_0 hp cl
/-- heaps are led as points are: their parts are the classes of what keeps them -/
theorem hp_parts (gt : GT N mul inv) (hp : hpsP N H mul S sz) (cl : clX N H C mul inv S co fo nu) {q : Int → Int} (hq : ∀ c, 0 ≤ c → c < C → (0 ≤ q c ∧ q c < H) ∧ req N (S (q c)) (fun g => bi (ld N H mul inv S (fo c) g = fo c))) (d0 : 0 ≤ d ∧ d < C) : fx H N S (fun k g => ld N H mul inv S k g) (fun _ => True) (fo d) = sm (fun e => sm (fun c => bi (co (q c) = e)) C.toNat * tbx N mul inv S fo e d) C.toNat := by
  have as := AS_ld gt hp
  have us : US H N (fun k g => ld N H mul inv S k g) (fun _ => True) := fun _ _ _ _ _ _ => Iff.rfl
  have C1 := cl.1
  have eC : ((C.toNat : Nat) : Int) = C := Int.toNat_of_nonneg (by omega)
  have eH := hp_n hp
  have eN := GT_n gt
  have fc : ∀ c, 0 ≤ c → c < C → 0 ≤ fo c ∧ fo c < H := fun c c0 c1 => (cl.2.2.1 c c0 c1).1
  have sxr : ∀ k, 0 ≤ k → k < H → (0 ≤ sx N H S (fun k g => ld N H mul inv S k g) k ∧ sx N H S (fun k g => ld N H mul inv S k g) k < H) ∧ req N (S (sx N H S (fun k g => ld N H mul inv S k g) k)) (stb (fun k g => ld N H mul inv S k g) k) := fun k k0 k1 => sx_s gt hp as ⟨k0, k1⟩
  have sq : ∀ c, 0 ≤ c → c < C → sx N H S (fun k g => ld N H mul inv S k g) (fo c) = q c := fun c c0 c1 => by
    have f := fc c c0 c1
    have s := sxr _ f.1 f.2
    have h := hq c c0 c1
    exact hp.2.2.2.2 _ _ s.1.1 s.1.2 h.1.1 h.1.2 (rqt s.2 (rqs h.2))
  have key : ∀ e, 0 ≤ e → e < C → mk_ H N H S (fun k g => ld N H mul inv S k g) (fun _ => True) (fo e) = sm (fun c => bi (co (q c) = e)) C.toNat * (N / (nu e * sz (fo e))) := fun e e0 e1 => by
    have fe := fc e e0 e1
    have n1 := nu_p cl (c := e) ⟨e0, e1⟩
    -- all that heaps of class e keep alone
    have s1 : sm (fun k => bi (co (sx N H S (fun k g => ld N H mul inv S k g) k) = e)) H.toNat = nu e * mk_ H N H S (fun k g => ld N H mul inv S k g) (fun _ => True) (fo e) := by
      rw [sm_fib (c := fun k => sx N H S (fun k g => ld N H mul inv S k g) k) (m := H.toNat) (fun k k0 k1 => by have := (sxr k k0 (by omega)).1; (try dsimp only); omega), cl.2.2.2.2.2 e e0 e1, ← sm_mc]
      refine sm_congr (fun h h0 h1 => ?_)
      (try dsimp only)
      by_cases w : co h = e
      · have fh := cl_ex gt hp cl fe (k := h) ⟨h0, by omega⟩ (by rw [w]; exact (cl.2.2.1 e e0 e1).2)
        obtain ⟨g, g0, eg⟩ := fh
        have m := mk_ld gt hp as us fe g0
        rw [eg] at m
        rw [bi_t w, Int.one_mul, ← m]
        refine sm_congr (fun k k0 k1 => ?_)
        (try dsimp only)
        by_cases z : sx N H S (fun k g => ld N H mul inv S k g) k = h
        · rw [bi_t z, bi_t (show True ∧ _ from ⟨trivial, z⟩), z, bi_t w, Int.mul_one]
        · rw [bi_f z, Int.zero_mul]
          exact (bi_f (fun y => z y.2)).symm
      · rw [bi_f w, Int.zero_mul]
        refine sm_zz (fun k k0 k1 => ?_)
        (try dsimp only)
        by_cases z : sx N H S (fun k g => ld N H mul inv S k g) k = h
        · rw [z, bi_f w, Int.mul_zero]
        · rw [bi_f z, Int.zero_mul]
    have s2 : sm (fun k => bi (co (sx N H S (fun k g => ld N H mul inv S k g) k) = e)) H.toNat = sm (fun c => nu c * bi (co (q c) = e)) C.toNat := by
      rw [sm_fib (c := co) (m := C.toNat) (fun k k0 k1 => by have := (cl.2.1 k k0 (by omega)).1; omega)]
      refine sm_congr (fun c c0 c1 => ?_)
      (try dsimp only)
      rw [cl.2.2.2.2.2 c c0 (by omega), ← sm_mc]
      refine sm_congr (fun k k0 k1 => ?_)
      (try dsimp only)
      by_cases w : co k = c
      · have f := fc c c0 (by omega)
        obtain ⟨g, g0, eg⟩ := cl_ex gt hp cl f (k := k) ⟨k0, by omega⟩ (by rw [w]; exact (cl.2.2.1 c c0 (by omega)).2)
        have a := sx_act gt hp as f g0
        (try dsimp only at a)
        rw [eg] at a
        have qr := (hq c c0 (by omega)).1
        rw [a, sq c c0 (by omega), cl_ld gt hp cl qr g0]
      · rw [bi_f w, Int.zero_mul, Int.zero_mul]
    have s3 : ∀ c, 0 ≤ c → c < C → nu c * bi (co (q c) = e) = bi (co (q c) = e) * (N / (nu e * sz (fo e)) * nu e) := fun c c0 c1 => by
      by_cases w : co (q c) = e
      · rw [bi_t w, Int.mul_one, Int.one_mul]
        have h := hq c c0 c1
        have f := fc c c0 c1
        have a1 := nz_N gt hp cl f
        rw [(cl.2.2.1 c c0 c1).2] at a1
        have a2 := nz_N gt hp cl fe
        rw [(cl.2.2.1 e e0 e1).2, ← spare_e gt hp cl (c := e) ⟨e0, e1⟩] at a2
        have a3 : nz N H mul inv S (fo c) = sz (fo e) := by
          obtain ⟨g, g0, eg⟩ := cl_ex gt hp cl fe (k := q c) h.1 (by rw [w]; exact (cl.2.2.1 e e0 e1).2)
          rw [← ld_sz gt hp fe g0, eg, (hp.2.2.1 _ h.1.1 h.1.2).2]
          exact (sm_congr (fun t t0 t1 => h.2 t t0 (by omega))).symm
        rw [a3] at a1
        have z1 := (sz_p gt hp fe).1
        have : sz (fo e) * nu c = sz (fo e) * (N / (nu e * sz (fo e)) * nu e) := by
          rw [← a1, ← Int.mul_assoc, Int.mul_comm (sz (fo e))]
          exact a2
        exact Int.eq_of_mul_eq_mul_left (by omega) this
      · rw [bi_f w, Int.mul_zero, Int.zero_mul]
    have s4 : nu e * mk_ H N H S (fun k g => ld N H mul inv S k g) (fun _ => True) (fo e) = nu e * (sm (fun c => bi (co (q c) = e)) C.toNat * (N / (nu e * sz (fo e)))) := by
      rw [← s1, s2, sm_congr (g := fun c => bi (co (q c) = e) * (N / (nu e * sz (fo e)) * nu e)) (fun c c0 c1 => s3 c c0 (by omega)), sm_mc, ← Int.mul_assoc, Int.mul_comm _ (nu e)]
    exact Int.eq_of_mul_eq_mul_left (by omega) s4
  rw [fx_cl gt hp cl as us d0]
  refine sm_congr (fun e e0 e1 => ?_)
  (try dsimp only)
  rw [key e e0 (by omega), tb_e gt hp cl (c := e) (e := d) ⟨e0, by omega⟩ d0, Int.mul_assoc]
end
