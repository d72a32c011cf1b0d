/-! sets and rows of places: the reference -/
noncomputable def plF (V : gV) (M : Nat) (w k d : Int) : Int := if w = 0 then fx ((2 : Int) ^ (V M 4).toNat) (V M 5) (mHas V M) (wact 2 (V M 4) (pac V M) (mInv V M)) (fun x => dsm (V M 4) x = k) (V (M + 15) d) else fx ((V M 4) ^ k.toNat) (V M 5) (mHas V M) (lact (V M 4) k.toNat (pac V M)) (ldf (V M 4) k.toNat) (V (M + 15) d)
abbrev f23 (V V' : gV) (M : Nat) : Prop := qF V V' M ∧ ∀ i, V' (M + 23) i = V (M + 23) i
theorem rE_rq {N : Int} {A A' : Int → Int} {act : Int → Int → Int} (h : req N A A') : rE N A act = rE N A' act := by
  funext x y
  refine propext ⟨fun z => ?_, fun z => ?_⟩
  · rcases z with z | ⟨t, t0, a, e⟩
    · exact Or.inl z
    · exact Or.inr ⟨t, t0, by rw [← h t t0.1 t0.2]; exact a, e⟩
  · rcases z with z | ⟨t, t0, a, e⟩
    · exact Or.inl z
    · exact Or.inr ⟨t, t0, by rw [h t t0.1 t0.2]; exact a, e⟩
theorem nc_cE {E E' : Int → Int → Prop} {n K : Int} {co fo nu : Int → Int} (h : ∀ x y, 0 ≤ x → x < n → 0 ≤ y → y < n → (E x y ↔ E' x y)) (nc : ncP E n K co fo nu) : ncP E' n K co fo nu := by
  have fr : ∀ c, 0 ≤ c → c < K → 0 ≤ fo c ∧ fo c < n := fun c c0 c1 => (nc.2.2.1 c c0 c1).1
  refine ⟨nc.1, fun j j0 j1 => ?_, nc.2.2.1, nc.2.2.2.1, fun c e c0 ce e1 z => ?_, nc.2.2.2.2.2⟩
  · have q := nc.2.1 j j0 j1
    have f := fr _ q.1.1 q.1.2
    exact ⟨q.1, q.2.1, (h _ _ f.1 f.2 j0 j1).mp q.2.2⟩
  · have f := fr c c0 (by omega)
    have g := fr e (by omega) e1
    exact nc.2.2.2.2.1 c e c0 ce e1 ((h _ _ f.1 f.2 g.1 g.2).mpr z)
section
variable {G : List gS} {R V V' : gV} {M : Nat} {dd : gD} {a h k w d K : Int} {cn rp nu p : Int → Int}
theorem AS_p (hM : MI V M) : AS (V M 4) (V M 5) (mMul V M) (pac V M) := by
  have n := MI_N hM
  refine ⟨by omega, fun x g x0 x1 g0 g1 => MI_im hM ⟨g0, g1⟩ ⟨x0, x1⟩, fun x x0 x1 => ?_, fun x a b x0 x1 a0 a1 b0 b1 => (hM.2.1.1.2.2.1 a b a0 a1 b0 b1).2.2 x x0 x1⟩
  show V (M + 4) (8 * 0 + x) = x
  rw [show 8 * 0 + x = x by omega]
  exact id_0 hM.2.1.1.1 hM.2.1.1.2.1 x x0 x1
theorem nc_p (hM : MI V M) (h : Int) : ∃ K cn rp nu, ncP (rE (V M 5) (mHas V M h) (pac V M)) (V M 4) K cn rp nu := by
  have n := MI_N hM
  obtain ⟨K, cn, rp, nu, nc⟩ := nc_ex (E := rE (V M 5) (mHas V M h) (pac V M)) (fun x => Or.inl rfl) (V M 4).toNat
  rw [Int.toNat_of_nonneg (by omega)] at nc
  exact ⟨K, cn, rp, nu, nc⟩
theorem plF_v (hM : MI V M) (d0 : 0 ≤ d ∧ d < V M 13) (k0 : 0 ≤ k) (nc : ncP (rE (V M 5) (mHas V M (V (M + 15) d)) (pac V M)) (V M 4) K cn rp nu) : plF V M w k d = plV K nu w k := by
  have n := MI_N hM
  have gt := MI_gt hM
  have f := MI_fo hM d0
  have hA := ((MI_hp hM).2.2.1 _ f.1 f.2).1
  unfold plF plV
  by_cases q : w = 0
  · rw [if_pos q, if_pos q]
    exact set_n gt (AS_p hM) hA nc
  · rw [if_neg q, if_neg q]
    have r := row_n gt (AS_p hM) (by omega) hA nc k.toNat
    rw [Int.toNat_of_nonneg k0] at r
    exact r
theorem plV_r (K0 : 0 ≤ K ∧ K ≤ 8) (k0 : 0 ≤ k ∧ k ≤ 8) : 0 ≤ plV K nu w k ∧ plV K nu w k ≤ 16777216 := by
  unfold plV
  by_cases q : w = 0
  · rw [if_pos q]
    have := st_r (nu := nu) (q := k) K0
    omega
  · rw [if_neg q]
    have s := sm_b01 (f := fun c => nu c = 1) K K0.1
    have r := rwP_r (f := sm (fun c => bi (nu c = 1)) K.toNat) (k := k) (by omega)
    have p8 := pow_mono (b := 8) (by omega) (show k.toNat ≤ 8 by omega)
    have e8 : (8 : Int) ^ 8 = 16777216 := by decide
    omega
theorem pl_R (hM : MI V M) (w : Int) (k0 : 0 ≤ k ∧ k ≤ V M 4) : ∃ p, prtP (V M 13) (mtb V M) (fun d => plF V M w k d) p := by
  have n := MI_N hM
  have gt := MI_gt hM
  have hp := MI_hp hM
  have cl := MI_cl hM
  have as := AS_p hM
  have le : plF V M w k 0 ≤ 1000000000000000 := by
    obtain ⟨K, cn, rp, nu, nc⟩ := nc_p hM (V (M + 15) 0)
    have K8 := nc.1
    rw [plF_v hM (by omega) k0.1 nc]
    have := plV_r (nu := nu) (w := w) (K := K) (k := k) (by omega) (by omega)
    omega
  have ex : ∃ p : Int → Int, (∀ c, 0 ≤ c → c < V M 13 → 0 ≤ p c) ∧ ∀ d, 0 ≤ d → d < V M 13 → plF V M w k d = sm (fun c => p c * tbx (V M 5) (mMul V M) (mInv V M) (mHas V M) (fun c => V (M + 15) c) c d) (V M 13).toNat := by
    by_cases q : w = 0
    · obtain ⟨p, p0, e⟩ := gs_parts gt hp cl (AS_w gt as (k := 2) (by omega)) (US_w gt as k)
      exact ⟨p, p0, fun d d0 d1 => by unfold plF; rw [if_pos q]; exact e d d0 d1⟩
    · obtain ⟨p, p0, e⟩ := gs_parts gt hp cl (AS_l (k := k.toNat) as (by omega) gt.2.1 gt.1) (US_l gt as (by omega))
      exact ⟨p, p0, fun d d0 d1 => by unfold plF; rw [if_neg q]; exact e d d0 d1⟩
  obtain ⟨p, p0, e⟩ := ex
  exact ⟨p, p0, fun d d0 d1 => (e d d0 d1).trans (sm_congr (fun c c0 c1 => congrArg (fun z => p c * z) (MI_tx hM ⟨c0, by omega⟩ ⟨d0, d1⟩).symm)), le⟩
theorem rounds_C (ly : lay8 G R M) (hM : MI V M) (h0 : 0 ≤ h ∧ h < V M 12) (nc : ncP (rE (V M 5) (mHas V M h) (pac V M)) (V M 4) K cn rp nu) : cwv 1 (fun r V' => ∃ v, r = some (0, v) ∧ (v = K ∧ f23 V V' M ∧ ∀ c, 0 ≤ c → c < K → V' (M + 26) c = nu c)) 215 [(4, (M : Int)), (0, h)] G R V := by
  have n := MI_N hM
  have gt := MI_gt hM
  have as := AS_p hM
  have hA := ((MI_hp hM).2.2.1 h h0.1 h0.2).1
  have K8 := nc.1
  refine c_X8_rounds (t_X8_rounds_0 ly ?_)
  refine loop1 (f := fun x => [some (4, (M : Int)), some (0, h), some (0, 0), some (0, x)]) (fun x V' => (0 ≤ x ∧ x ≤ 8) ∧ f23 V V' M ∧ ∀ y, 0 ≤ y → y < x → V' (M + 25) y = 0) (fun x _ => (8 - x).toNat) (fun x V1 hx ih => ?_) 0 V ⟨by omega, ⟨qF_refl, fun _ => rfl⟩, fun y y0 y1 => by omega⟩
  obtain ⟨x0, q1, z1⟩ := hx
  refine t_X8_rounds_4 ly ⟨by omega, fun z => ?_, fun z => ⟨by omega, by omega, ih _ _ ⟨by omega, ⟨qF_wr q1.1 (by omega) (by omega) (by omega) (by omega), fun i => by rw [wr_a (by omega)]; exact q1.2 i⟩, fun y y0 y1 => ?_⟩ (by omega)⟩⟩
  rotate_left
  · by_cases e : y = x
    · rw [e, wr_same]
    · rw [wr_i e]; exact z1 y y0 (by omega)
  refine loop2 (f := fun r x => [some (4, (M : Int)), some (0, h), some (0, r), some (0, x)]) (fun r x V2 => (0 ≤ x ∧ x ≤ V M 4) ∧ f23 V V2 M ∧ rbl K rp x r ∧ r ≤ x ∧ (∀ y, 0 ≤ y → y < V M 4 → V2 (M + 25) y = bi (cn y < r)) ∧ ∀ c, 0 ≤ c → c < r → V2 (M + 26) c = nu c) (fun _ x _ => (V M 4 - x).toNat) (fun r x V2 hx ih2 => ?_) 0 0 V1 ⟨by omega, q1, rb_0 nc, by omega, fun y y0 y1 => ?_, fun c c0 c1 => by omega⟩
  rotate_left
  · rw [z1 y y0 (by omega)]
    exact (bi_f (by have := (nc.2.1 y y0 y1).1; omega)).symm
  obtain ⟨x0, q2, rb, rx, fl2, ns⟩ := hx
  have r1 := rb.1
  have e4 : V2 M 4 = V M 4 := q2.1.1 _ _ (by omega)
  refine t_X8_rounds_25 ly (fun _ => ⟨by omega, fun z => ⟨_, rfl, rb_e nc rb (by omega), q2, fun c c0 c1 => ns c c0 (by rw [rb_e nc rb (by omega)]; exact c1)⟩, fun z => ⟨by omega, fun b01 => ⟨fun y => ?_, fun y => ⟨by omega, ih2 _ _ _ ⟨by omega, q2, rb_m nc rb (by omega) ?_, by omega, fl2, ns⟩ (by omega)⟩⟩⟩⟩)
  rotate_left
  · rw [fl2 x x0.1 (by omega)] at y
    exact bi_n0 y
  rw [fl2 x x0.1 (by omega)] at y
  have nm := bi_0.mp y
  have xr : 0 ≤ x ∧ x < V M 4 := by omega
  obtain ⟨ec, rK, rb2⟩ := rb_n nc rb xr nm
  refine loop2 (f := fun c t => [some (4, (M : Int)), some (0, h), some (0, r), some (0, x), some (0, c), some (0, t)]) (fun c t V3 => (0 ≤ t ∧ t ≤ V M 5) ∧ f23 V V3 M ∧ (∀ c, 0 ≤ c → c < r → V3 (M + 26) c = nu c) ∧ (∀ y, 0 ≤ y → y < V M 4 → V3 (M + 25) y = bi (cn y < r ∨ ∃ u, (0 ≤ u ∧ u < t) ∧ mHas V M h u = 1 ∧ pac V M x u = y)) ∧ c = sm (fun y => bi (∃ u, (0 ≤ u ∧ u < t) ∧ mHas V M h u = 1 ∧ pac V M x u = y)) (V M 4).toNat) (fun _ t _ => (V M 5 - t).toNat) (fun c t V3 ht ih3 => ?_) 0 0 V2 ⟨by omega, q2, ns, fun y y0 y1 => ?_, ?_⟩
  rotate_left
  · rw [fl2 y y0 y1]
    exact bi_c ⟨Or.inl, fun z => z.elim id (fun ⟨u, u0, _⟩ => by omega)⟩
  · exact (sm_zz (fun y _ _ => bi_f (fun ⟨u, u0, _⟩ => by omega))).symm
  obtain ⟨t0, q3, ns3, fl3, ec3⟩ := ht
  have e5 : V3 M 5 = V M 5 := q3.1.1 _ _ (by omega)
  have cr := sm_b01 (f := fun y => ∃ u, (0 ≤ u ∧ u < t) ∧ mHas V M h u = 1 ∧ pac V M x u = y) (V M 4) (by omega)
  rw [← ec3] at cr
  refine t_X8_rounds_51 ly (fun _ => ⟨by omega, fun z2 => ⟨by omega, by omega, by omega, by omega, ih2 _ _ _ ⟨by omega, ⟨qF_wr q3.1 (by omega) (by omega) (by omega) (by omega), fun i => by rw [wr_a (by omega)]; exact q3.2 i⟩, rb2, by omega, fun y y0 y1 => ?_, fun c' c0 c1 => ?_⟩ (by omega)⟩, fun z2 => ⟨by omega, by omega, by omega, fun _ => ⟨by omega, by omega, by omega, fun b01' => ?_⟩⟩⟩)
  · rw [wr_a (by omega), fl3 y y0 y1]
    have rx' := rd_x gt as hA nc xr (y := y) ⟨y0, y1⟩
    refine bi_c ⟨fun q => ?_, fun q => ?_⟩
    · rcases q with q | ⟨u, u0, q⟩
      · omega
      · have := rx'.mp ⟨u, by omega, q⟩
        omega
    · by_cases e : cn y < r
      · exact Or.inl e
      · obtain ⟨u, u0, q⟩ := rx'.mpr (by omega)
        exact Or.inr ⟨u, by omega, q⟩
  · by_cases e : c' = r
    · rw [e, wr_same, ec3, show t = V M 5 by omega, ← ec]
      exact rd_s gt as hA nc xr
    · rw [wr_i e]; exact ns3 c' c0 (by omega)
  · have ei : V3 (M + 4) (8 * t + x) = pac V M x t := q3.1.1 _ _ (by omega)
    have eh : V3 (M + 9) (120 * h + t) = mHas V M h t := q3.1.1 _ _ (by omega)
    rw [ei, eh]
    rw [eh] at b01'
    have ir : 0 ≤ pac V M x t ∧ pac V M x t < V M 4 := AS_r as xr (g := t) ⟨t0.1, by omega⟩
    refine ⟨fun y2 => ⟨by omega, ih3 _ _ _ ⟨by omega, q3, ns3, fun y' y0 y1 => ?_, ?_⟩ (by omega)⟩, fun y2 => ⟨by omega, fun b02 => ?_⟩⟩
    · rw [fl3 y' y0 y1]
      refine bi_c (or_congr Iff.rfl ⟨fun ⟨u, u0, q⟩ => ⟨u, by omega, q⟩, fun ⟨u, u0, q⟩ => ⟨u, ?_, q⟩⟩)
      have : u ≠ t := fun e => by rw [e] at q; omega
      omega
    · rw [ec3]
      refine sm_congr (fun y' y0 y1 => bi_c ⟨fun ⟨u, u0, q⟩ => ⟨u, by omega, q⟩, fun ⟨u, u0, q⟩ => ⟨u, ?_, q⟩⟩)
      have : u ≠ t := fun e => by rw [e] at q; omega
      omega
    · have h1 : mHas V M h t = 1 := by omega
      have cimg : cn (pac V M x t) = cn x := (rd_x gt as hA nc xr ir).mp ⟨t, ⟨t0.1, by omega⟩, h1, rfl⟩
      have st : ∀ y', (∃ u, (0 ≤ u ∧ u < t + 1) ∧ mHas V M h u = 1 ∧ pac V M x u = y') ↔ ((∃ u, (0 ≤ u ∧ u < t) ∧ mHas V M h u = 1 ∧ pac V M x u = y') ∨ pac V M x t = y') := fun y' => by
        constructor
        · intro ⟨u, u0, q⟩
          by_cases e : u = t
          · rw [e] at q; exact Or.inr q.2
          · exact Or.inl ⟨u, by omega, q⟩
        · intro q
          rcases q with ⟨u, u0, q⟩ | q
          · exact ⟨u, by omega, q⟩
          · exact ⟨t, by omega, h1, q⟩
      have ff := fl3 _ ir.1 ir.2
      refine ⟨fun y3 => ⟨by omega, by omega, ih3 _ _ _ ⟨by omega, ⟨qF_wr q3.1 (by omega) (by omega) (by omega) (by omega), fun i => by rw [wr_a (by omega)]; exact q3.2 i⟩, fun c' c0 c1 => by rw [wr_a (by omega)]; exact ns3 c' c0 c1, fun y' y0 y1 => ?_, ?_⟩ (by omega)⟩, fun y3 => ⟨by omega, ih3 _ _ _ ⟨by omega, q3, ns3, fun y' y0 y1 => ?_, ?_⟩ (by omega)⟩⟩
      · by_cases e : y' = pac V M x t
        · rw [e, wr_same]
          exact (bi_t (Or.inr ((st _).mpr (Or.inr rfl)))).symm
        · rw [wr_i e, fl3 y' y0 y1]
          exact bi_c (or_congr Iff.rfl ⟨fun q => (st y').mpr (Or.inl q), fun q => ((st y').mp q).elim id (fun z => absurd z.symm e)⟩)
      · rw [ff] at y3
        have no := bi_0.mp y3
        rw [ec3]
        have e1 : sm (fun y => bi (∃ u, (0 ≤ u ∧ u < t + 1) ∧ mHas V M h u = 1 ∧ pac V M x u = y)) (V M 4).toNat = sm (fun y => bi (∃ u, (0 ≤ u ∧ u < t) ∧ mHas V M h u = 1 ∧ pac V M x u = y) + bi (pac V M x t = y) * (fun _ => (1 : Int)) y) (V M 4).toNat := sm_congr (fun y' y0 y1 => by
          (try dsimp only)
          rw [Int.mul_one, bi_c (st y')]
          by_cases e : pac V M x t = y'
          · have nq : ¬ ∃ u, (0 ≤ u ∧ u < t) ∧ mHas V M h u = 1 ∧ pac V M x u = y' := fun q => no (Or.inr (by rw [e]; exact q))
            rw [bi_t (Or.inr e), bi_f nq, bi_t e]; omega
          · rw [bi_f e, Int.add_zero]
            exact bi_c ⟨fun q => q.elim id (fun z => absurd z e), Or.inl⟩)
        rw [e1, sm_add, sm_dl ir.1 (by omega)]
      · rw [ff] at y3
        have yes := bi_n0 y3
        have qt : ∃ u, (0 ≤ u ∧ u < t) ∧ mHas V M h u = 1 ∧ pac V M x u = pac V M x t := yes.elim (fun q => by omega) id
        rw [fl3 y' y0 y1]
        exact bi_c (or_congr Iff.rfl ⟨fun q => (st y').mpr (Or.inl q), fun q => ((st y').mp q).elim id (fun z => by rw [← z]; exact qt)⟩)
      · rw [ff] at y3
        have yes := bi_n0 y3
        have qt : ∃ u, (0 ≤ u ∧ u < t) ∧ mHas V M h u = 1 ∧ pac V M x u = pac V M x t := yes.elim (fun q => by omega) id
        rw [ec3]
        exact sm_congr (fun y' y0 y1 => bi_c ⟨fun q => (st y').mpr (Or.inl q), fun q => ((st y').mp q).elim id (fun z => by rw [← z]; exact qt)⟩)
theorem setsLeft_C {q : Int} (ly : lay8 G R M) (hM : MI V M) (h0 : 0 ≤ h ∧ h < V M 12) (hq : 0 ≤ q ∧ q ≤ 8) (nc : ncP (rE (V M 5) (mHas V M h) (pac V M)) (V M 4) K cn rp nu) : cwv 2 (fun r V' => ∃ v, r = some (2, v) ∧ (v = stC K nu q ∧ f23 V V' M)) 216 [(4, (M : Int)), (0, h), (0, q)] G R V := by
  have n := MI_N hM
  have K8 := nc.1
  have p1 := p2_p K.toNat
  have p8 := pow_mono (b := 2) (by omega) (show K.toNat ≤ 8 by omega)
  have e8 : (2 : Int) ^ 8 = 256 := by decide
  refine c_X8_setsLeft (t_X8_setsLeft_0 ly (cwI_u (by omega) (rounds_C ly hM h0 nc) (fun v V1 hv => ?_)))
  obtain ⟨ev, fr, ns⟩ := hv
  rw [ev]
  refine pool2 (f := fun x y => [some (4, (M : Int)), none, some (0, q), some (0, K), some (2, x), none, some (0, y)]) (fun x y => (0 ≤ y ∧ y ≤ (2 : Int) ^ K.toNat) ∧ x = sm (fun v => bi (sm (fun j => dgk 2 j.toNat v * nu j) K.toNat = q)) y.toNat) (fun _ y => ((2 : Int) ^ K.toNat - y).toNat) (fun x y hx ih => ?_) 0 0 ⟨by omega, rfl⟩
  obtain ⟨y0, ex⟩ := hx
  have xr := sm_b01 (f := fun v => sm (fun j => dgk 2 j.toNat v * nu j) K.toNat = q) y y0.1
  have xs := sm_s (fun v => bi (sm (fun j => dgk 2 j.toNat v * nu j) K.toNat = q)) (x := y) y0.1
  (try dsimp only at xs)
  refine t_X8_setsLeft_12 ly ?_
  rw [k2_e (q := K) (by omega)]
  refine ⟨by omega, fun z => ⟨_, rfl, ?_, fr⟩, fun z => ?_⟩
  · rw [ex, show y = (2 : Int) ^ K.toNat by omega]; rfl
  · refine pool2 (f := fun s j => [some (4, (M : Int)), none, some (0, q), some (0, K), some (2, x), none, some (0, y), some (0, s), some (0, j)]) (fun s j => (0 ≤ j ∧ j ≤ K) ∧ s = sm (fun j => dgk 2 j.toNat y * nu j) j.toNat ∧ (0 ≤ s ∧ s ≤ 8 * j)) (fun _ j => (K - j).toNat) (fun s j hs ih2 => ?_) 0 0 ⟨by omega, rfl, by omega⟩
    obtain ⟨j0, es, sr⟩ := hs
    refine t_X8_setsLeft_26 ly ⟨by omega, by omega, fun z2 => ⟨by omega, by omega, fun z3 => ⟨by omega, ih _ _ ⟨by omega, ?_⟩ (by omega)⟩, fun z3 => ⟨by omega, ih _ _ ⟨by omega, ?_⟩ (by omega)⟩⟩, fun z2 => ⟨by omega, fun _ => ?_⟩⟩
    · rw [es, show j = K by omega] at z3
      rw [jadd_e ⟨by omega, by omega⟩, xs, bi_f z3, ex]
    · rw [es, show j = K by omega] at z3
      rw [jadd_e ⟨by omega, by omega⟩, xs, bi_t z3, ex]
    · have nj := nc_nu nc (by omega) (c := j) (by omega)
      have dj := dgk_r (k := 2) (by omega) j.toNat y
      have ej : dgk 2 j.toNat y = 0 ∨ dgk 2 j.toNat y = 1 := by omega
      rw [kb_e (by omega) (by omega), ns j j0.1 (by omega)]
      have ss := sm_s (fun j => dgk 2 j.toNat y * nu j) (x := j) j0.1
      (try dsimp only at ss)
      rcases ej with e | e
      · rw [e, Int.zero_mul] at ss
        rw [e, Int.zero_mul]
        exact ⟨⟨by omega, by omega⟩, ⟨by omega, by omega⟩, by omega, ih2 _ _ ⟨by omega, by rw [ss, es], by omega⟩ (by omega)⟩
      · rw [e, Int.one_mul] at ss
        rw [e, Int.one_mul]
        exact ⟨⟨by omega, by omega⟩, ⟨by omega, by omega⟩, by omega, ih2 _ _ ⟨by omega, by rw [ss, es], by omega⟩ (by omega)⟩
theorem rowsLeft_C {q : Int} (ly : lay8 G R M) (hM : MI V M) (h0 : 0 ≤ h ∧ h < V M 12) (hq : 0 ≤ q ∧ q ≤ 8) (nc : ncP (rE (V M 5) (mHas V M h) (pac V M)) (V M 4) K cn rp nu) : cwv 2 (fun r V' => ∃ v, r = some (2, v) ∧ (v = rwP (sm (fun c => bi (nu c = 1)) K.toNat) q ∧ f23 V V' M)) 217 [(4, (M : Int)), (0, h), (0, q)] G R V := by
  have n := MI_N hM
  have K8 := nc.1
  refine c_X8_rowsLeft (t_X8_rowsLeft_0 ly (cwI_u (by omega) (rounds_C ly hM h0 nc) (fun v V1 hv => ?_)))
  obtain ⟨ev, fr, ns⟩ := hv
  rw [ev]
  refine pool2 (f := fun x y => [some (4, (M : Int)), none, some (0, q), some (0, K), some (0, x), some (0, y)]) (fun x y => (0 ≤ y ∧ y ≤ K) ∧ x = sm (fun c => bi (nu c = 1)) y.toNat) (fun _ y => (K - y).toNat) (fun x y hx ih => ?_) 0 0 ⟨by omega, rfl⟩
  obtain ⟨y0, ex⟩ := hx
  have xr := sm_b01 (f := fun c => nu c = 1) y y0.1
  have xs := sm_s (fun c => bi (nu c = 1)) (x := y) y0.1
  (try dsimp only at xs)
  refine t_X8_rowsLeft_12 ly ⟨by omega, by omega, fun z => ?_, fun z => ⟨by omega, fun _ => ?_⟩⟩
  · rw [show y = K by omega] at ex xr
    rw [← ex] at xr ⊢
    refine pool2 (f := fun v i => [none, none, some (0, q), none, some (0, x), some (2, v), none, some (0, i)]) (fun v i => (0 ≤ i ∧ i ≤ q) ∧ v = rwP x i) (fun _ i => (q - i).toNat) (fun v i hi ih2 => ?_) 1 0 ⟨by omega, rfl⟩
    obtain ⟨i0, ev⟩ := hi
    have e1 : rwP x (i + 1) = rwP x i * (if i < x then x - i else 0) := by
      unfold rwP
      rw [pr_s _ i0.1]
    refine t_X8_rowsLeft_51 ⟨by omega, by omega, fun z2 => ⟨_, rfl, by rw [ev, show i = q by omega], fr⟩, fun z2 => ⟨by omega, fun z3 => ⟨by omega, ih2 _ _ ⟨by omega, ?_⟩ (by omega)⟩, fun z3 => ⟨by omega, by omega, ih2 _ _ ⟨by omega, ?_⟩ (by omega)⟩⟩⟩
    all_goals (
      have b := rwP_r (f := x) (k := i + 1) (by omega)
      have p8 := pow_mono (b := 8) (by omega) (show (i + 1).toNat ≤ 8 by omega)
      have e8 : (8 : Int) ^ 8 = 16777216 := by decide
      rw [e1] at b ⊢)
    · rw [if_neg z3] at b ⊢
      rw [ev, jmul_e ⟨by omega, by omega⟩]
    · rw [if_pos z3] at b ⊢
      rw [ev, jmul_e ⟨by omega, by omega⟩]
  · rw [ns y y0.1 (by omega)]
    refine ⟨fun z2 => ⟨by omega, by omega, ih _ _ ⟨by omega, ?_⟩ (by omega)⟩, fun z2 => ⟨by omega, by omega, ih _ _ ⟨by omega, ?_⟩ (by omega)⟩⟩
    · rw [xs, bi_f z2, ex]
    · rw [xs, bi_t z2, ex]
theorem places_C (ly : lay8 G R M) (hM : MI V M) (h1 : i32 a) (h2 : i32 k) (h3 : i32 w) (tg : tbG (V M 13) (mtb V M)) (pg : plO a k w (V M 4) → prtP (V M 13) (mtb V M) (fun d => plF V M w k d) p) : cwv 5 (rqM V M a (plX a k w (V M 4) (plF V M w k 0)) (plO a k w (V M 4)) p) 218 [(4, (M : Int)), (0, a), (0, k), (0, w)] G R V := by
  have n := MI_N hM
  have X1 : ¬ plO a k w (V M 4) → (-1 : Int) = plX a k w (V M 4) (plF V M w k 0) := fun z => by unfold plX; exact (if_neg z).symm
  refine c_X8_places (t_X8_places_0 ly (cpI_u (by omega) (isNumber_c h1) ⟨bi32 _, fun z => rqM_r ly hM qF_refl (fun y => bi_0.mp z (by have := y.1.1; omega)) ⟨by omega, by omega⟩ (X1 (fun y => bi_0.mp z (by have := y.1.1; omega))), fun z => ⟨h2, fun _ => cpI_u (by omega) (in_c (i32_64 h2) ⟨by omega, by omega⟩ ⟨by omega, by omega⟩) ⟨bi32 _, fun z2 => rqM_r ly hM qF_refl (fun y => bi_0.mp z2 y.1.2) ⟨by omega, by omega⟩ (X1 (fun y => bi_0.mp z2 y.1.2)), fun z2 => ⟨h3, cpI_u (by omega) (in_c (i32_64 h3) ⟨by omega, by omega⟩ ⟨by omega, by omega⟩) ⟨bi32 _, fun z3 => ?_, fun z3 => rqM_r ly hM qF_refl (fun y => bi_0.mp z3 (by have := y.2; omega)) ⟨by omega, by omega⟩ (X1 (fun y => bi_0.mp z3 (by have := y.2; omega)))⟩⟩⟩⟩⟩))
  have a0 := bi_n0 z
  have k0 := bi_n0 z2
  have w0 := bi_n0 z3
  have ok : plO a k w (V M 4) := ⟨⟨by omega, k0⟩, by omega⟩
  have pg' := pg ok
  have bd := prt_b tg pg'
  have m0 := pg'.2.2
  (try dsimp only at bd m0)
  refine loop1 (f := fun x => [some (4, (M : Int)), some (0, a), some (0, k), some (0, w), some (0, x)]) (fun x V' => (0 ≤ x ∧ x ≤ V M 13) ∧ mkq V V' M x (fun d => plF V M w k d)) (fun x _ => (V M 13 - x).toNat) (fun x V' hx ih => ?_) 0 V ⟨by omega, mkq_0⟩
  obtain ⟨x0, mq⟩ := hx
  have e13 : V' M 13 = V M 13 := mq.1.1 _ _ (by omega)
  have e12 : V' M 12 = V M 12 := mq.1.1 _ _ (by omega)
  have e5 : V' M 5 = V M 5 := mq.1.1 _ _ (by omega)
  have e4 : V' M 4 = V M 4 := mq.1.1 _ _ (by omega)
  have e15 : V' (M + 15) x = V (M + 15) x := mq.1.1 _ _ (by omega)
  have ep : pac V' M = pac V M := funext (fun x => funext (fun t => mq.1.1 _ _ (by omega)))
  have m' := MI_q mq.1 hM
  obtain ⟨K, cn, rp, nu, nc⟩ := nc_p hM (V (M + 15) x)
  have go : x < V M 13 → (0 ≤ V (M + 15) x ∧ V (M + 15) x < V' M 12) ∧ ncP (rE (V' M 5) (mHas V' M (V (M + 15) x)) (pac V' M)) (V' M 4) K cn rp nu ∧ plV K nu w k = plF V M w k x ∧ (0 ≤ plF V M w k x ∧ plF V M w k x ≤ 1000000000000000) := fun xl => by
    have f := MI_fo hM (c := x) (by omega)
    have b := bd x x0.1 xl
    refine ⟨by omega, ?_, (plF_v hM (by omega) k0.1 nc).symm, by omega⟩
    rw [e5, e4, ep, rE_rq (qF_rows hM mq.1 _ f.1 f.2)]
    exact nc
  refine t_X8_places_42 ly (fun _ => ⟨by omega, fun y => becomes_q ly hM mq (by omega) a0 tg pg' (by unfold plX; exact (if_pos ok).symm) ok, fun y => ⟨h3, fun y2 => ⟨by omega, fun _ => ?_⟩, fun y2 => ⟨by omega, fun _ => ?_⟩⟩⟩)
  · rw [e15]
    obtain ⟨g1, g2, g3, g4⟩ := go (by omega)
    have g3' : rwP (sm (fun c => bi (nu c = 1)) K.toNat) k = plF V M w k x := by rw [← g3]; unfold plV; rw [if_neg y2]
    refine cwJ_u (by omega) (rowsLeft_C ly m' g1 (by omega) g2) (fun v V2 h2 => ?_)
    obtain ⟨ev, q2⟩ := h2
    rw [ev, g3']
    exact ⟨⟨by omega, by omega⟩, by omega, ih _ _ ⟨by omega, mkq_s mq q2.1 q2.2 rfl⟩ (by omega)⟩
  · rw [e15]
    obtain ⟨g1, g2, g3, g4⟩ := go (by omega)
    have g3' : stC K nu k = plF V M w k x := by rw [← g3]; unfold plV; rw [if_pos y2]
    refine cwJ_u (by omega) (setsLeft_C ly m' g1 (by omega) g2) (fun v V2 h2 => ?_)
    obtain ⟨ev, q2⟩ := h2
    rw [ev, g3']
    exact ⟨⟨by omega, by omega⟩, by omega, ih _ _ ⟨by omega, mkq_s mq q2.1 q2.2 rfl⟩ (by omega)⟩
/-! the class's places are the reference's -/
theorem pl_d (hM : MI V M) (h : dQ dd V M) : (∀ t x, 0 ≤ t → t < V M 5 → 0 ≤ x → x < V M 4 → dac dd x t = pac V M x t) ∧ plD dd := by
  have n := MI_N hM
  have as := AS_p hM
  have e0 := h.1
  have e1 := h.2.1
  have me := mul_eq hM h
  have ed : ∀ t x, 0 ≤ t → t < V M 5 → 0 ≤ x → x < V M 4 → dac dd x t = pac V M x t := fun t x t0 t1 x0 x1 => by
    show dg (dd 1 t) x = _
    rw [h.2.2.1 t t0 t1, rc_dg (by omega) (fun p p0 p1 => MI_im hM ⟨t0, t1⟩ ⟨p0, p1⟩) (by omega), if_pos x1]
  refine ⟨ed, by omega, ?_, fun t t0 t1 => ?_⟩
  · rw [e0, e1]
    refine ⟨by omega, fun x g x0 x1 g0 g1 => by rw [ed g x g0 g1 x0 x1]; exact AS_r as ⟨x0, x1⟩ ⟨g0, g1⟩, fun x x0 x1 => by rw [ed 0 x (by omega) (by omega) x0 x1]; exact as.2.2.1 x x0 x1, fun x a b x0 x1 a0 a1 b0 b1 => ?_⟩
    have r := AS_r as (x := x) (g := a) ⟨x0, x1⟩ ⟨a0, a1⟩
    have mr := (MI_gt hM).2.1 a b a0 a1 b0 b1
    have em : mlD dd a b = mMul V M a b := me a b a0 a1 b0 b1
    rw [em, ed _ x mr.1 mr.2 x0 x1, ed a x a0 a1 x0 x1, ed b _ b0 b1 r.1 r.2]
    exact as.2.2.2 x a b x0 x1 a0 a1 b0 b1
  · rw [e1] at t1
    rw [h.2.2.1 t t0 t1]
    unfold rc
    exact cd_r (fun p p0 p1 => by
      (try dsimp only)
      by_cases y : p < V M 4
      · rw [if_pos y]
        have := MI_im hM (k := t) (p := p) ⟨t0, t1⟩ ⟨p0, y⟩
        omega
      · rw [if_neg y]; omega)
theorem nc_d (hM : MI V M) (h : dQ dd V M) {x : Int} (x0 : 0 ≤ x ∧ x < V M 12) (nc : ncP (rE (V M 5) (mHas V M x) (pac V M)) (V M 4) K cn rp nu) : ncP (rE (dd 0 1) (hsD dd x) (dac dd)) (dd 0 0) K cn rp nu := by
  obtain ⟨KK, rq, _⟩ := hp_eq hM h
  have ed := (pl_d hM h).1
  rw [h.1, h.2.1, rE_rq (rq x x0.1 x0.2)]
  refine nc_cE (fun x y x0 x1 y0 y1 => or_congr Iff.rfl ⟨fun ⟨t, t0, q1, q2⟩ => ⟨t, t0, q1, by rw [ed t x t0.1 t0.2 x0 x1]; exact q2⟩, fun ⟨t, t0, q1, q2⟩ => ⟨t, t0, q1, by rw [ed t x t0.1 t0.2 x0 x1] at q2; exact q2⟩⟩) nc
end
