/-! heaps as places; what stands at the reference's data -/
noncomputable def nqD (d : gD) (c : Int) : Int := the (inP (d 0 1) (d 0 2) (hsD d) (nzU (d 0 1) (d 0 2) (mlD d) (d 230) (hsD d) (d 207 c)))
noncomputable def hpQ (d : gD) (e : Int) : Int := sm (fun c => bi (d 204 (nqD d c) = e)) (d 0 3).toNat
def heX (a H : Int) : Int := if 0 ≤ a ∧ a < 8 then H else -1
noncomputable def hfx (V : gV) (M : Nat) (d : Int) : Int := fx (V M 12) (V M 5) (mHas V M) (fun k g => ld (V M 5) (V M 12) (mMul V M) (mInv V M) (mHas V M) k g) (fun _ => True) (V (M + 15) d)
theorem sm_b01 {f : Int → Prop} : ∀ x : Int, 0 ≤ x → 0 ≤ sm (fun c => bi (f c)) x.toNat ∧ sm (fun c => bi (f c)) x.toNat ≤ x := fun x x0 => by
  refine ⟨sm_nn (fun _ _ _ => bi_nn _), ?_⟩
  have q := sm_le (f := fun c => bi (f c)) (g := fun _ => (1 : Int)) (n := x.toNat) (fun _ _ _ => bi_l1 _)
  rw [sm_ones] at q
  omega
section
variable {G : List gS} {R V V' : gV} {T : gT} {B M g k p n o m b S N : Nat} {C D E : Int} {dd : gD} {ow : Nat → Nat} {us : Nat → Prop} {w : Nat → Nat} {W : gV} {L : Int → Int} {I : Int → gD} {mm pp : Int → Int}
theorem takeHeaps_x (w : kT G R T k) (u : gT2 G R T g p n C D o m E) (hD : D ≤ C) (lk : lkT T R g dd) (hs : hsX dd) (hN : 1 ≤ dd 0 1 ∧ dd 0 1 ≤ 120) (th : TH T V) (tg : tbG (dd 0 3) (tbD dd)) (pg : prtP (dd 0 3) (tbD dd) mm (hpQ dd)) : cwv 5 (fun r V' => r = none ∧ mkrP V V' k (dd 0 3) mm (hpQ dd)) 7 [(4, (k : Int)), (4, (g : Int))] G R V := by
  have e3 := lk_3 lk th
  have c0 := u.h.a.cl _ (th (g + 10) 1)
  have H3 : dd 0 2 ≤ 300 := hs.1.2.1
  have cl := hs.2.2.2.2.1
  refine c_X0_takeHeaps (t_X0_takeHeaps_0 w.ly u.ly ?_)
  refine loop1 (f := fun i => [some (4, (k : Int)), some (4, (g : Int)), some (4, ((g + 10 : Nat) : Int)), some (0, i)]) (Inv := fun i V' => (0 ≤ i ∧ i ≤ dd 0 3) ∧ (∀ c j, ¬ (k + 1 ≤ c ∧ c ≤ k + 3) → V' c j = V c j) ∧ ∀ d, 0 ≤ d → d < i → V' (k + 2) d = 0) (μ := fun i _ => (300 - i).toNat) (fun i V1 hi ih => ?_) 0 V ⟨by omega, fun _ _ _ => rfl, fun d d0 d1 => by omega⟩
  obtain ⟨i0, fr, z0⟩ := hi
  have e31 := lk_3 lk (TH_k w th fr)
  refine t_X0_takeHeaps_7 w.ly u.ly u.h.a.ly (fun _ => ⟨by omega, fun z => ?_, fun z => ⟨by omega, by omega, ih _ _ ⟨by omega, fun c j y => by rw [wr_a (by omega)]; exact fr c j y, fun d d0 d1 => ?_⟩ (by omega)⟩⟩)
  rotate_left
  · by_cases y : d = i
    · rw [y, wr_same]
    · rw [wr_i y]; exact z0 d d0 (by omega)
  refine loop1 (f := fun i => [some (4, (k : Int)), some (4, (g : Int)), some (4, ((g + 10 : Nat) : Int)), some (0, i)]) (Inv := fun i V' => (0 ≤ i ∧ i ≤ dd 0 3) ∧ (∀ c j, ¬ (k + 1 ≤ c ∧ c ≤ k + 3) → V' c j = V c j) ∧ ∀ d, 0 ≤ d → d < dd 0 3 → V' (k + 2) d = sm (fun c => bi (dd 204 (nqD dd c) = d)) i.toNat) (μ := fun i _ => (300 - i).toNat) (fun x V2 hx ih2 => ?_) 0 V1 ⟨by omega, fr, fun d d0 d1 => z0 d d0 (by omega)⟩
  obtain ⟨x0, fr2, ps⟩ := hx
  have th2 := TH_k w th fr2
  have e32 := lk_3 lk th2
  refine t_X0_takeHeaps_30 w.ly u.ly u.h.a.ly (fun _ => ⟨by omega, fun y => ?_, fun y => ⟨by omega, fun _ => ?_⟩⟩)
  · refine cwv_mono (show 3 ≤ 4 by omega) (fillMarks_x w u.h lk th2 (fun c q0 q1 => by rw [ps c q0 q1, show x = dd 0 3 by omega]; rfl) tg pg) (fun r V3 h3 => ⟨h3.1, rfl, fun c i q => by rw [h3.2.1 c i q]; exact fr2 c i q, h3.2.2.1, h3.2.2.2⟩)
  · have l7 : V2 (g + 10 + 7) x = dd 207 x := lk_j lk th2 7 (by omega) (by omega) (by omega) x
    rw [l7]
    have f := (cl.2.2.1 x x0.1 (by omega)).1
    refine cwI_u (by omega) (normaliser_g ⟨u, hD, th2, lk, hs, hN⟩ f) (fun v V3 h3 => ?_)
    obtain ⟨ev, ip⟩ := h3
    rw [ev]
    have e2 : V2 (g + 10) 0 = dd 0 2 := lk_2 lk th2
    have v0 := ip.1
    have i32v : i32 v := ⟨by omega, by omega⟩
    have l4 : V2 (g + 10 + 4) v = dd 204 v := lk_j lk th2 4 (by omega) (by omega) (by omega) v
    have cv := (cl.2.1 v v0.1 v0.2).1
    have enq : nqD dd x = v := (the_e (fun v w a b => inP_u hs.1 a b) ip).symm
    refine bI_u (isHeap_k u.h.a.ly i32v) ⟨bi32 _, fun q => absurd (by omega) (bi_0.mp q), fun q => ⟨by omega, fun _ => ?_⟩⟩
    rw [l4]
    refine ⟨by omega, fun _ => ⟨by omega, ih2 _ _ ⟨by omega, fun c j y2 => by rw [wr_a (by omega)]; exact fr2 c j y2, fun d d0 d1 => ?_⟩ (by omega)⟩⟩
    have s := sm_s (fun c => bi (dd 204 (nqD dd c) = d)) (x := x) x0.1
    have rg := sm_b01 (f := fun c => dd 204 (nqD dd c) = d) x x0.1
    (try dsimp only at s)
    rw [enq] at s
    by_cases y2 : d = dd 204 v
    · rw [y2, wr_same, ps _ cv.1 cv.2, ← y2, jadd_e ⟨by omega, by omega⟩, s, bi_t y2.symm]
    · rw [wr_i y2, ps d d0 d1, s, bi_f (fun z => y2 z.symm), Int.add_zero]
theorem heaps_K (h : CI G R V B M S N W L I) (k5 : I 23 5 0 = I 3 0 3) (K1 : 1 ≤ I 3 0 3) (tg : tbG (I 3 0 3) (tbD (I 3))) (hs : hsX (I 3)) (hN1 : 1 ≤ I 3 0 1 ∧ I 3 0 1 ≤ 120) {a : Int} (ha : i32 a) (pg : prtP (I 3 0 3) (tbD (I 3)) mm (hpQ (I 3))) (m0 : mm 0 = I 3 0 2) : cw 8 (fun r G' R' V' => qM B M S N W L I (kpJ I a mm (hpQ (I 3))) (heX a (I 3 0 2)) (0 ≤ a ∧ a < 8) G' R' r V') 121 [(4, (B : Int)), (0, a)] G R V := by
  obtain ⟨T, ow, us, w, c0, hN⟩ := h
  obtain ⟨g, p, n, C, D, o, m, E, u, lk⟩ := cI_cTl c0
  refine cwv_cw (P := fun G R => qM B M S N W L I (kpJ I a mm (hpQ (I 3))) (heX a (I 3 0 2)) (0 ≤ a ∧ a < 8) G R) ?_
  refine c_X7_heaps (t_X7_heaps_0 u.ly (bI_u (isActNumber_c ha) ⟨bi32 _, fun z => ⟨B + 52, ⟨u.rb, u.u.b.ly⟩, g, ⟨u.u.rg, u.u.g.ly⟩, ?_⟩, fun z => qM_r c0 hN (bi_0.mp z) (by omega) (by unfold heX; rw [if_neg (bi_0.mp z)])⟩))
  have a0 := bi_nz z
  exact cwv_mono (show 5 ≤ 7 by omega) (takeHeaps_x u.k u.u.g u.u.hD lk hs hN1 c0.th tg pg) (fun r V1 h1 => ⟨h1.1, qM_k c0 hN k5 K1 a0 a0 (by unfold heX; rw [if_pos a0]; exact m0) h1.2⟩)
theorem heaps_C {q : Int → Int} (ly : lay8 G R M) (hM : MI V M) {a : Int} (h1 : i32 a) (tg : tbG (V M 13) (mtb V M)) (pg : prtP (V M 13) (mtb V M) (fun d => hfx V M d) q) (m0 : hfx V M 0 = V M 12) : cwv 5 (rqM V M a (heX a (V M 12)) (0 ≤ a ∧ a < 8) q) 219 [(4, (M : Int)), (0, a)] G R V := by
  have n := MI_N hM
  refine c_X8_heaps (t_X8_heaps_0 ly (cpI_u (by omega) (isNumber_c h1) ⟨bi32 _, fun z => ?_, fun z => rqM_r ly hM qF_refl (fun y => bi_0.mp z (by omega)) ⟨by omega, by omega⟩ (by unfold heX; rw [if_neg (fun y => bi_0.mp z (by omega))])⟩))
  have a0 := bi_n0 z
  refine loop1 (f := fun x => [some (4, (M : Int)), some (0, a), some (0, x)]) (fun x V' => (0 ≤ x ∧ x ≤ V M 13) ∧ mkq V V' M x (fun d => hfx V M d)) (fun x _ => (V M 13 - x).toNat) (fun x V' hx ih => ?_) 0 V ⟨by omega, mkq_0⟩
  obtain ⟨x0, mq⟩ := hx
  have e13 : V' M 13 = V M 13 := mq.1.1 _ _ (by omega)
  refine t_X8_heaps_17 ly (fun _ => ⟨by omega, fun y => becomes_q ly hM mq (by omega) a0 tg pg (by unfold heX; rw [if_pos (by omega)]; exact m0) (by omega), fun y => ⟨by omega, ?_⟩⟩)
  have f0 := MI_fo hM (c := x) (by omega)
  refine loop1 (f := fun y => [some (4, (M : Int)), some (0, a), some (0, x), some (0, y)]) (fun y V2 => (0 ≤ y ∧ y ≤ V M 12) ∧ mkq V V2 M x (fun d => hfx V M d) ∧ V2 (M + 23) x = sm (fun k => bi (True ∧ ∀ t, 0 ≤ t → t < V M 5 → mHas V M (V (M + 15) x) t = 1 → ld (V M 5) (V M 12) (mMul V M) (mInv V M) (mHas V M) k t = k)) y.toNat) (fun y _ => (V M 12 - y).toNat) (fun y V2 hy ih2 => ?_) 0 _ ⟨by omega, ⟨qF_wr mq.1 (by omega) (by omega) (by omega) (by omega), fun d d0 d1 => by rw [wr_i (by omega)]; exact mq.2 d d0 d1⟩, by rw [wr_same]; rfl⟩
  obtain ⟨y0, mq2, s23⟩ := hy
  have e12 : V2 M 12 = V M 12 := mq2.1.1 _ _ (by omega)
  have e5 : V2 M 5 = V M 5 := mq2.1.1 _ _ (by omega)
  refine t_X8_heaps_34 ly (fun _ => ⟨by omega, fun y2 => ⟨by omega, ih (x + 1) V2 ⟨by omega, mq2.1, fun d d0 d1 => ?_⟩ (by omega)⟩, fun y2 => ?_⟩)
  · by_cases e : d = x
    · rw [e, s23, show y = V M 12 by omega]; rfl
    · exact mq2.2 d d0 (by omega)
  have s := sm_s (fun k => bi (True ∧ ∀ t, 0 ≤ t → t < V M 5 → mHas V M (V (M + 15) x) t = 1 → ld (V M 5) (V M 12) (mMul V M) (mInv V M) (mHas V M) k t = k)) (x := y) y0.1
  have rg := sm_b01 (f := fun k => True ∧ ∀ t, 0 ≤ t → t < V M 5 → mHas V M (V (M + 15) x) t = 1 → ld (V M 5) (V M 12) (mMul V M) (mInv V M) (mHas V M) k t = k) y y0.1
  (try dsimp only at s)
  have nx : ∀ v : Int, v = sm (fun k => bi (True ∧ ∀ t, 0 ≤ t → t < V M 5 → mHas V M (V (M + 15) x) t = 1 → ld (V M 5) (V M 12) (mMul V M) (mInv V M) (mHas V M) k t = k)) (y + 1).toNat → (0 ≤ y + 1 ∧ y + 1 ≤ V M 12) ∧ mkq V (wr V2 (M + 23) x v) M x (fun d => hfx V M d) ∧ wr V2 (M + 23) x v (M + 23) x = sm (fun k => bi (True ∧ ∀ t, 0 ≤ t → t < V M 5 → mHas V M (V (M + 15) x) t = 1 → ld (V M 5) (V M 12) (mMul V M) (mInv V M) (mHas V M) k t = k)) (y + 1).toNat := fun v ev => ⟨by omega, ⟨qF_wr mq2.1 (by omega) (by omega) (by omega) (by omega), fun d d0 d1 => by rw [wr_i (by omega)]; exact mq2.2 d d0 d1⟩, by rw [wr_same]; exact ev⟩
  refine pool2 (f := fun z t => [some (4, (M : Int)), some (0, a), some (0, x), some (0, y), some (0, z), some (0, t)]) (fun z t => (0 ≤ t ∧ t ≤ V M 5) ∧ z = bi (∀ u, 0 ≤ u → u < t → mHas V M (V (M + 15) x) u = 1 → ld (V M 5) (V M 12) (mMul V M) (mInv V M) (mHas V M) y u = y)) (fun _ t => (V M 5 - t).toNat) (fun v t hv ih3 => ?_) 1 0 ⟨by omega, (bi_t (fun u u0 u1 => by omega)).symm⟩
  obtain ⟨t0, ev⟩ := hv
  have v01 : v = 0 ∨ v = 1 := by rw [ev]; exact bi_01 _
  have e15 : V2 (M + 15) x = V (M + 15) x := mq2.1.1 _ _ (by omega)
  refine t_X8_heaps_48 ly (fun _ => ⟨by omega, fun y3 => ⟨by omega, fun _ => ⟨by omega, fun y4 => ⟨by omega, ih2 _ _ (nx _ ?_) (by omega)⟩, fun y4 => ⟨by omega, ih2 _ _ (nx _ ?_) (by omega)⟩⟩⟩, fun y3 => ⟨by omega, fun y4 => ⟨by omega, ih3 _ _ ⟨by omega, ?_⟩ (by omega)⟩, fun y4 => ⟨by omega, fun _ => ?_⟩⟩⟩)
  · rw [s23, jadd_e ⟨by omega, by omega⟩, s]
    rw [y4] at ev
    have no := bi_0.mp ev.symm
    rw [bi_f (fun q => no (fun u u0 u1 h => q.2 u u0 (by omega) h))]
  · rw [s23, jadd_e ⟨by omega, by omega⟩, s]
    rw [show v = 1 by omega] at ev
    have al := bi_1.mp ev.symm
    rw [bi_t ⟨trivial, fun u u0 u1 h => al u u0 (by omega) h⟩]
  · rw [y4] at ev
    have no := bi_0.mp ev.symm
    exact (bi_f (fun q => no (fun u u0 u1 h => q u u0 (by omega) h))).symm
  · rw [show v = 1 by omega] at ev
    have al := bi_1.mp ev.symm
    rw [e15]
    have eh : V2 (M + 9) (120 * V (M + 15) x + t) = mHas V M (V (M + 15) x) t := mq2.1.1 _ _ (by omega)
    have el : V2 (M + 13) (120 * y + t) = ld (V M 5) (V M 12) (mMul V M) (mInv V M) (mHas V M) y t := by rw [mq2.1.1 _ _ (by omega)]; exact ld_V hM (by omega) (by omega)
    refine ⟨by omega, by omega, by omega, fun b01 => ?_⟩
    rw [eh, el]
    rw [eh] at b01
    have up : ∀ X : Prop, X → (∀ u, u = t → mHas V M (V (M + 15) x) u = 1 → ld (V M 5) (V M 12) (mMul V M) (mInv V M) (mHas V M) y u = y) → ∀ u, 0 ≤ u → u < t + 1 → mHas V M (V (M + 15) x) u = 1 → ld (V M 5) (V M 12) (mMul V M) (mInv V M) (mHas V M) y u = y := fun _ _ ht u u0 u1 hu => by
      by_cases e : u = t
      · exact ht u e hu
      · exact al u u0 (by omega) hu
    refine ⟨fun y5 => ⟨by omega, ih3 _ _ ⟨by omega, (bi_t (up True trivial (fun u e hu => by rw [e, y5] at hu; omega))).symm⟩ (by omega)⟩, fun y5 => ⟨by omega, by omega, by omega, fun _ => ⟨by omega, fun y6 => ⟨by omega, ih3 _ _ ⟨by omega, (bi_f (fun q => y6 (q t t0.1 (by omega) (by omega)))).symm⟩ (by omega)⟩, fun y6 => ⟨by omega, ih3 _ _ ⟨by omega, (bi_t (up True trivial (fun u e _ => by rw [e]; exact y6))).symm⟩ (by omega)⟩⟩⟩⟩
/-! at the reference's data -/
theorem mtg (hM : MI V M) : tbG (V M 13) (mtb V M) := by
  refine ⟨fun c d c0 cd d1 => ?_, fun c d c0 c1 d0 d1 => ⟨(MI_tb hM ⟨c0, c1⟩ ⟨d0, d1⟩).1, (MI_tb hM ⟨c0, c1⟩ ⟨d0, d1⟩).2.1⟩, fun d d0 d1 => (MI_tb hM ⟨d0, d1⟩ ⟨d0, d1⟩).2.2 rfl, fun c d c0 c1 d0 d1 => ?_⟩
  · show V (M + 18) (300 * c + d) = 0
    rw [MI_tx hM ⟨c0, by omega⟩ ⟨by omega, d1⟩]
    exact tb_tri (MI_gt hM) (MI_hp hM) (MI_so hM) (MI_cl hM) c0 cd d1
  · show V (M + 18) (300 * c + d) ≤ V (M + 18) (300 * c + 0)
    rw [MI_tx hM ⟨c0, c1⟩ ⟨d0, d1⟩, MI_tx hM ⟨c0, c1⟩ ⟨by omega, by omega⟩]
    exact tbx_0 (MI_gt hM) (MI_hp hM) (MI_so hM) (MI_cl hM) ⟨c0, c1⟩ ⟨d0, d1⟩
theorem RZ_a (hM : MI V M) {a : Int} (ha : aR V M a) : RZ (V M 5) (V M 13) (mMul V M) (mHas V M) (fun c => V (M + 15) c) (fun d => mmk V M a d) := RZ_c (RZ_parts (MI_gt hM) (MI_hp hM) (MI_cl hM) (p := mpt V M a) ha.1) (fun d d0 d1 => sm_congr (fun c c0 c1 => by (try dsimp only); rw [MI_tx hM ⟨c0, by omega⟩ ⟨d0, d1⟩]))
theorem RZ_pr (hM : MI V M) {m : Int → Int} (rz : RZ (V M 5) (V M 13) (mMul V M) (mHas V M) (fun c => V (M + 15) c) m) (le : m 0 ≤ 1000000000000000) : ∃ p, prtP (V M 13) (mtb V M) m p := by
  obtain ⟨p, p0, e⟩ := RZ_p (MI_gt hM) (MI_hp hM) (MI_cl hM) rz
  exact ⟨p, p0, fun d d0 d1 => (e d d0 d1).trans (sm_congr (fun c c0 c1 => congrArg (fun z => p c * z) (MI_tx hM ⟨c0, by omega⟩ ⟨d0, d1⟩).symm)), le⟩
theorem bo_R (hM : MI V M) {b c w : Int} (hb : aR V M b) (hc : aR V M c) (le : boS (mmk V M b 0) (mmk V M c 0) w ≤ 1000000000000000) : ∃ p, prtP (V M 13) (mtb V M) (fun d => boS (mmk V M b d) (mmk V M c d) w) p := by
  refine RZ_pr hM ?_ le
  have gt := MI_gt hM
  by_cases q : w = 0
  · exact RZ_c (RZ_add (RZ_a hM hb) (RZ_a hM hc) gt.2.1) (fun d _ _ => if_pos q)
  · exact RZ_c (RZ_mul (RZ_a hM hb) (RZ_a hM hc)) (fun d _ _ => if_neg q)
theorem rmb_s (hM : MI V M) (t : Int) : loP (V M 5) (V M 12) (mHas V M) (one t) (rmb V M t) := the_s (P := loP (V M 5) (V M 12) (mHas V M) (one t)) (lo_ex (MI_hp hM) (MI_so hM) (MI_gt hM) (one t))
/-- the rounds of an act -/
theorem co_R (hM : MI V M) {b k : Int} (hb : aR V M b) (k0 : 0 ≤ k) : (∀ h, 0 ≤ h → h < V M 12 → 0 ≤ rdR V M (fun d => mmk V M b d) h ∧ rdR V M (fun d => mmk V M b d) h ≤ mmk V M b 0) ∧ rdR V M (fun d => mmk V M b d) (V (M + 15) 0) = mmk V M b 0 ∧ (k ^ (mmk V M b 0).toNat ≤ 1000000000000000 → ∃ p, prtP (V M 13) (mtb V M) (fun d => k ^ (rdR V M (fun d => mmk V M b d) (V (M + 15) d)).toNat) p) := by
  have gt := MI_gt hM
  have hp := MI_hp hM
  have so := MI_so hM
  have cl := MI_cl hM
  have n := MI_N hM
  obtain ⟨m, act, as, e⟩ := RZ_a hM hb
  have f0 : V (M + 15) 0 = 0 := fo_0 hp cl
  have em : mmk V M b 0 = m := by
    have q := e 0 (by omega) (by omega)
    (try dsimp only at q)
    rw [q, f0, fx_0 gt hp so as]
  have rn : ∀ h, 0 ≤ h → h < V M 12 → ∃ cn rp, rnP m (V M 5) (rdR V M (fun d => mmk V M b d) h) (mHas V M h) act cn rp := fun h h0 h1 => rd_n gt hp so cl as (mk := fun d => mmk V M b d) (mb := rmb V M) e (fun t _ _ => rmb_s hM t) ⟨h0, h1⟩
  have r0 : rdR V M (fun d => mmk V M b d) (V (M + 15) 0) = mmk V M b 0 := by
    rw [f0, em]
    obtain ⟨cn, rp, r⟩ := rn 0 (by omega) (by omega)
    exact rn_one gt as (hp.2.2.1 0 (by omega) (by omega)).1 r (fun t t0 t1 q => bot_0 gt hp so ⟨t0, t1⟩ q)
  refine ⟨fun h h0 h1 => ?_, r0, fun le => RZ_pr hM (RZ_cl gt hp so cl as (mk := fun d => mmk V M b d) (mb := rmb V M) e (fun t _ _ => rmb_s hM t) k0) ?_⟩
  · obtain ⟨cn, rp, r⟩ := rn h h0 h1
    rw [em]
    exact rn_le gt as (hp.2.2.1 h h0 h1).1 r
  · show k ^ (rdR V M (fun d => mmk V M b d) (V (M + 15) 0)).toNat ≤ _
    rw [r0]; exact le
theorem ki_R (hM : MI V M) {a v : Int} (ha : aR V M a) (ip : inP (V M 5) (V M 12) (mHas V M) (kU V M a (V M 13)) v) : idP (V M 13) (fun d => mmk V M a d) (fun c => V (M + 15) c) v :=
  ker_id (MI_gt hM) (MI_hp hM) (MI_so hM) (MI_cl hM) (p := mpt V M a) ha.1 (m := fun d => mmk V M a d) (fun d d0 d1 => sm_congr (fun c c0 c1 => by (try dsimp only); rw [MI_tx hM ⟨c0, by omega⟩ ⟨d0, d1⟩])) ip
theorem rd_eq (hM : MI V M) (h : dQ dd V M) {mk mk' : Int → Int} {x : Int} (x0 : 0 ≤ x ∧ x < V M 12) (em : ∀ c, 0 ≤ c → c < V M 13 → mk c = mk' c) : rdM dd mk x = rdR V M mk' x := by
  obtain ⟨K, rq, sz⟩ := hp_eq hM h
  obtain ⟨_, g4, _, _⟩ := gp_eq hM h
  have n := MI_N hM
  have e1 := h.2.1
  unfold rdM rdR
  rw [e1, sz x x0.1 x0.2]
  refine congrArg (fun z => z / V (M + 10) x) (sm_congr (fun t t0 t1 => ?_))
  (try dsimp only)
  have lo := (mb_eq hM h (t := t) ⟨t0, by omega⟩).1
  have eb : dd 205 t = rmb V M t := loP_u lo (rmb_s hM t)
  have lr := (rmb_s hM t).1
  have co := MI_co hM lr
  rw [rq x x0.1 x0.2 t t0 (by omega), eb, g4 _ lr.1 lr.2, em _ co.1 co.2]
theorem hp_R (hM : MI V M) (h : dQ dd V M) : prtP (V M 13) (mtb V M) (fun d => hfx V M d) (hpQ dd) ∧ hfx V M 0 = V M 12 := by
  have gt := MI_gt hM
  have hp := MI_hp hM
  have so := MI_so hM
  have cl := MI_cl hM
  have n := MI_N hM
  obtain ⟨K, rq, sz⟩ := hp_eq hM h
  obtain ⟨g3, g4, g7, _⟩ := gp_eq hM h
  have e1 := h.2.1
  have hs := h.2.2.2.2
  have gd := hs.2.2.2.1
  have hpd := hs.1
  have f0 : V (M + 15) 0 = 0 := fo_0 hp cl
  have z0 : hfx V M 0 = V M 12 := by
    unfold hfx
    rw [f0]
    exact fx_0 gt hp so (AS_ld gt hp)
  have nq : ∀ c, 0 ≤ c → c < V M 13 → (0 ≤ nqD dd c ∧ nqD dd c < V M 12) ∧ req (V M 5) (mHas V M (nqD dd c)) (fun g => bi (ld (V M 5) (V M 12) (mMul V M) (mInv V M) (mHas V M) (V (M + 15) c) g = V (M + 15) c)) := fun c c0 c1 => by
    have fc := MI_fo hM (c := c) ⟨c0, c1⟩
    have sm1 := nz_SM gd hpd (h := dd 207 c) (by rw [g7 c c0 c1, K]; exact fc)
    obtain ⟨k, k0, k1, ek⟩ := hpd.2.2.2.1 _ sm1
    have ip : inP (dd 0 1) (dd 0 2) (hsD dd) (nzU (dd 0 1) (dd 0 2) (mlD dd) (dd 230) (hsD dd) (dd 207 c)) (nqD dd c) := the_s (P := inP (dd 0 1) (dd 0 2) (hsD dd) (nzU (dd 0 1) (dd 0 2) (mlD dd) (dd 230) (hsD dd) (dd 207 c))) ⟨k, ⟨k0, k1⟩, ek⟩
    have v0 := ip.1
    rw [K] at v0
    refine ⟨v0, fun t t0 t1 => ?_⟩
    rw [← rq _ v0.1 v0.2 t t0 t1, ip.2 t t0 (by omega)]
    have gd' := gd
    have hpd' := hpd
    rw [e1] at gd' hpd'
    rw [K] at hpd'
    have l := ld_c gd' gt hpd' hp (mul_eq hM h) rq (h := dd 207 c) (g := t) (by rw [g7 c c0 c1]; exact fc) ⟨t0, t1⟩
    unfold nzU
    rw [e1, K, l, g7 c c0 c1]
  refine ⟨⟨fun c c0 c1 => sm_nn (fun _ _ _ => bi_nn _), fun d d0 d1 => ?_, by show hfx V M 0 ≤ _; omega⟩, z0⟩
  have q := hp_parts gt hp cl (q := nqD dd) nq (d := d) ⟨d0, d1⟩
  refine Eq.trans q (sm_congr (fun e e0 e1' => ?_))
  show _ = hpQ dd e * V (M + 18) (300 * e + d)
  rw [MI_tx hM ⟨e0, by omega⟩ ⟨d0, d1⟩]
  refine congrArg (fun z => z * tbx (V M 5) (mMul V M) (mInv V M) (mHas V M) (fun c => V (M + 15) c) e d) ?_
  unfold hpQ
  rw [g3]
  refine sm_congr (fun c c0 c1 => ?_)
  have v := (nq c c0 (by omega)).1
  (try dsimp only)
  rw [g4 _ v.1 v.2]
end
