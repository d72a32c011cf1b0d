/-! the reference: colourings, and what is read of acts -/
noncomputable def kU (V : gV) (M : Nat) (a x : Int) : Int → Int := fun t => bi (∀ c, 0 ≤ c → c < x → 0 < V (M + 22) (300 * a + c) → coU (V M 5) (V M 12) (mMul V M) (mInv V M) (mHas V M) (V (M + 15) c) t = 1)
/-- class c stops no map -/
def mgd (w : Int) (p1 p2 m2 : Int → Int) (c : Int) : Prop := (w = 0 → 0 < p1 c → m2 c ≠ 0) ∧ (w ≠ 0 → p1 c = p2 c)
def mfc (w : Int) (p1 m2 sp : Int → Int) (c : Int) : Int := if w = 0 then m2 c ^ (p1 c).toNat else fac (p1 c).toNat * sp c ^ (p1 c).toNat
section
variable {G : List gS} {R V V' : gV} {M : Nat} {a b c d k h : Int} {mm p : Int → Int}
theorem coU_q (hM : MI V M) (q : qF V V' M) (h0 : 0 ≤ h ∧ h < V M 12) : req (V M 5) (coU (V' M 5) (V' M 12) (mMul V' M) (mInv V' M) (mHas V' M) h) (coU (V M 5) (V M 12) (mMul V M) (mInv V M) (mHas V M) h) := by
  have n := MI_N hM
  have e5 : V' M 5 = V M 5 := q.1 _ _ (by omega)
  have e12 : V' M 12 = V M 12 := q.1 _ _ (by omega)
  have m' := MI_q q hM
  have gt' := MI_gt m'
  have hp' := MI_hp m'
  rw [e5] at gt' hp'
  rw [e12] at hp'
  rw [e5, e12]
  have rq := qF_rows hM q
  intro t t0 t1
  refine bi_c ⟨fun z g g0 g1 => ?_, fun z g g0 g1 => ?_⟩
  · have l := ld_c gt' (MI_gt hM) hp' (MI_hp hM) (fun s t s0 s1 t0 t1 => q.1 _ _ (by omega)) rq h0 ⟨g0, g1⟩
    have y := z g g0 g1
    have ll := (ld_s (MI_gt hM) (MI_hp hM) h0 (g := g) ⟨g0, g1⟩).1
    rw [l, rq _ ll.1 ll.2 t t0 t1] at y
    exact y
  · have l := ld_c gt' (MI_gt hM) hp' (MI_hp hM) (fun s t s0 s1 t0 t1 => q.1 _ _ (by omega)) rq h0 ⟨g0, g1⟩
    have ll := (ld_s (MI_gt hM) (MI_hp hM) h0 (g := g) ⟨g0, g1⟩).1
    rw [l, rq _ ll.1 ll.2 t t0 t1]
    exact z g g0 g1
theorem kernel_C (ly : lay8 G R M) (hM : MI V M) (a0 : 0 ≤ a ∧ a ≤ 7) : cwv 5 (fun r V' => ∃ v, r = some (0, v) ∧ (qF V V' M ∧ inP (V M 5) (V M 12) (mHas V M) (kU V M a (V M 13)) v)) 228 [(4, (M : Int)), (0, a)] G R V := by
  have n := MI_N hM
  refine c_X8_kernel (t_X8_kernel_0 ly (fun _ => ⟨by omega, ?_⟩))
  refine loop2 (f := fun x y => [some (4, (M : Int)), some (0, a), some (0, x), some (0, y)]) (fun x y V' => (0 ≤ y ∧ y ≤ V M 13) ∧ qF V V' M ∧ inP (V M 5) (V M 12) (mHas V M) (kU V M a y) x) (fun _ y _ => (V M 13 - y).toNat) (fun x y V' hx ih => ?_) (V M 12 - 1) 0 V ⟨by omega, qF_refl, ⟨by omega, by omega⟩, fun t t0 t1 => by rw [top_r (MI_gt hM) (MI_hp hM) (MI_so hM) t t0 t1]; exact (bi_t (fun c c0 c1 => by omega)).symm⟩
  obtain ⟨y0, q, ip⟩ := hx
  have e13 : V' M 13 = V M 13 := q.1 _ _ (by omega)
  have e5 : V' M 5 = V M 5 := q.1 _ _ (by omega)
  have e12 : V' M 12 = V M 12 := q.1 _ _ (by omega)
  have m' := MI_q q hM
  refine t_X8_kernel_9 ly (fun _ => ⟨by omega, fun z => ⟨_, rfl, q, by rw [show V M 13 = y by omega]; exact ip⟩, fun z => ⟨by omega, by omega, by omega, fun _ => ?_⟩⟩)
  have e22 : V' (M + 22) (300 * a + y) = V (M + 22) (300 * a + y) := q.2.2.2 _ _ (by omega) (by omega)
  have e15 : V' (M + 15) y = V (M + 15) y := q.1 _ _ (by omega)
  rw [e22]
  refine ⟨fun z2 => ⟨by omega, ih _ _ _ ⟨by omega, q, ip.1, rqt ip.2 (fun t t0 t1 => ?_)⟩ (by omega)⟩, fun z2 => ⟨by omega, fun _ => ?_⟩⟩
  · refine bi_c ⟨fun w c c0 c1 pc => ?_, fun w c c0 c1 pc => w c c0 (by omega) pc⟩
    by_cases e : c = y
    · rw [e] at pc; omega
    · exact w c c0 (by omega) pc
  · rw [e15]
    have f0 := MI_fo hM (c := y) (by omega)
    refine cwI_u (by omega) (core_e ly m' (h := V (M + 15) y) (by omega)) (fun v V1 h1 => ?_)
    obtain ⟨q1, ip1⟩ := h1
    have q2 := qF_trans q q1
    have m1 := MI_q q2 hM
    rw [e5, e12] at ip1
    have cv : inP (V M 5) (V M 12) (mHas V M) (coU (V M 5) (V M 12) (mMul V M) (mInv V M) (mHas V M) (V (M + 15) y)) v := inP_c (qF_rows hM q) (by have := coU_q hM q f0; rw [e5, e12] at this; exact this) ip1
    have x0 := ip.1
    have v0 := cv.1
    have f5 : V1 M 5 = V M 5 := q2.1 _ _ (by omega)
    have f12 : V1 M 12 = V M 12 := q2.1 _ _ (by omega)
    refine cwI_u (by omega) (join_C ly m1 (h := x) (k := v) (w := 0) ⟨by omega, by omega⟩ ⟨by omega, by omega⟩ ⟨by omega, by omega⟩) (fun v2 V2 h2 => ?_)
    obtain ⟨q3, jn⟩ := h2
    rw [f5, f12] at jn
    have jn' := jnP_c (qF_rows hM q2) jn
    have q4 := qF_trans q2 q3
    have ip2 : inP (V M 5) (V M 12) (mHas V M) (jU (mHas V M x) (mHas V M v) 0) v2 := by
      rcases jn' with ⟨j1, _⟩ | ⟨_, j2⟩
      · exact absurd ⟨x0, v0, Or.inl rfl⟩ j1
      · rcases j2 with ⟨_, j⟩ | ⟨j, _⟩
        · exact j
        · omega
    refine ⟨by omega, ih _ _ _ ⟨by omega, q4, ip2.1, rqt ip2.2 (fun t t0 t1 => ?_)⟩ (by omega)⟩
    have e1 := ip.2 t t0 t1
    have e2 := cv.2 t t0 t1
    unfold jU
    rw [if_pos rfl]
    by_cases w : mHas V M x t = 1 ∧ mHas V M v t = 1
    · rw [if_pos w]
      refine (bi_t (fun c c0 c1 pc => ?_)).symm
      by_cases e : c = y
      · rw [e, ← e2]; exact w.2
      · rw [e1] at w
        exact bi_1.mp w.1 c c0 (by omega) pc
    · rw [if_neg w]
      refine (bi_f (fun z3 => w ⟨?_, ?_⟩)).symm
      · rw [e1]; exact bi_t (fun c c0 c1 pc => z3 c c0 (by omega) pc)
      · rw [e2]; exact z3 y y0.1 (by omega) z2
theorem rdR_q (hM : MI V M) (q : qF V V' M) (h0 : 0 ≤ h ∧ h < V M 12) : rdR V' M (fun d => mmk V' M b d) h = rdR V M (fun d => mmk V M b d) h := by
  have n := MI_N hM
  unfold rdR
  have e5 : V' M 5 = V M 5 := q.1 _ _ (by omega)
  have e10 : V' (M + 10) h = V (M + 10) h := q.1 _ _ (by omega)
  rw [e5, e10]
  refine congrArg (fun z => z / V (M + 10) h) (sm_congr (fun t t0 t1 => ?_))
  (try dsimp only)
  have t1' : t < V M 5 := by omega
  have lo : 0 ≤ rmb V M t ∧ rmb V M t < V M 12 := (the_s (P := loP (V M 5) (V M 12) (mHas V M) (one t)) (lo_ex (MI_hp hM) (MI_so hM) (MI_gt hM) (one t))).1
  have er := qF_rows hM q h h0.1 h0.2 t t0 t1'
  have e14 : V' (M + 14) (rmb V M t) = V (M + 14) (rmb V M t) := q.1 _ _ (by omega)
  rw [rmb_q q hM, mmk_q q, er, e14]
theorem colour_C (ly : lay8 G R M) (hM : MI V M) (h1 : i32 a) (h2 : i32 b) (h3 : i32 k) (tg : tbG (V M 13) (mtb V M)) (hb : fl (fun i => V (M + 21) i) b = 1 → aR V M b) (rd : fl (fun i => V (M + 21) i) b = 1 → ∀ d, 0 ≤ d → d < V M 13 → 0 ≤ rdR V M (fun d => mmk V M b d) (V (M + 15) d) ∧ rdR V M (fun d => mmk V M b d) (V (M + 15) d) ≤ 1000000000000000) (r0 : fl (fun i => V (M + 21) i) b = 1 → rdR V M (fun d => mmk V M b d) (V (M + 15) 0) = mmk V M b 0) (pg : cuO (fl (fun i => V (M + 21) i) b) (mmk V M b 0) a k → prtP (V M 13) (mtb V M) (fun d => k ^ (rdR V M (fun d => mmk V M b d) (V (M + 15) d)).toNat) p) : cwv 5 (rqM V M a (cuX (fl (fun i => V (M + 21) i) b) (mmk V M b 0) a k) (cuO (fl (fun i => V (M + 21) i) b) (mmk V M b 0) a k) p) 224 [(4, (M : Int)), (0, a), (0, b), (0, k)] G R V := by
  have n := MI_N hM
  have X1 : ¬ ((0 ≤ a ∧ a < 8) ∧ (0 ≤ k ∧ k ≤ 100)) → (-1 : Int) = cuX (fl (fun i => V (M + 21) i) b) (mmk V M b 0) a k := fun z => by unfold cuX; rw [if_pos z]
  refine c_X8_colour (t_X8_colour_0 ly (cpI_u (by omega) (isNumber_c h1) ⟨bi32 _, fun z => rqM_r ly hM qF_refl (fun y => bi_0.mp z (by have := y.1; omega)) ⟨by omega, by omega⟩ (X1 (by have := bi_0.mp z; omega)), fun z => ⟨h3, cpI_u (by omega) (in_c (i32_64 h3) ⟨by omega, by omega⟩ ⟨by omega, by omega⟩) ⟨bi32 _, fun z2 => cpI_u (by omega) (isAct_e ly h2) ⟨bi32 _, fun z3 => ?_, fun z3 => ?_⟩, fun z2 => rqM_r ly hM qF_refl (fun y => bi_0.mp z2 y.1.2) ⟨by omega, by omega⟩ (X1 (by have := bi_0.mp z2; omega))⟩⟩⟩))
  · have a0 := bi_n0 z
    have k0 := bi_n0 z2
    have f1 := bi_n0 z3
    have b0 := fl_1 f1
    have ab := hb f1
    have bb := prt_b tg (aR_p ab)
    have b2 := ab.2
    have s0 := bb 0 (by omega) (by omega)
    (try dsimp only at s0)
    have X2 : cuX (fl (fun i => V (M + 21) i) b) (mmk V M b 0) a k = if 1000000000000000 < k ^ (mmk V M b 0).toNat then -5 else k ^ (mmk V M b 0).toNat := by unfold cuX; rw [if_neg (fun q => q ⟨by omega, k0⟩), if_neg (fun q => q f1)]
    have st := stp_r (pow_nn (b := k) k0.1 (mmk V M b 0).toNat)
    refine cpJ_u (by omega) (sizeOf_r ly hM tg ab (by omega)) (cpJ_u (by omega) (toThe_e (by omega) (by omega)) ⟨⟨by omega, by omega⟩, fun z4 => ?_, fun z4 => rqM_r ly hM qF_refl (fun y => ?_) ⟨by omega, by omega⟩ ?_⟩)
    · have le : k ^ (mmk V M b 0).toNat ≤ 1000000000000000 := stp_le.mp (by omega)
      have ok : cuO (fl (fun i => V (M + 21) i) b) (mmk V M b 0) a k := ⟨⟨by omega, k0⟩, f1, le⟩
      have pg' := pg ok
      have pb2 := prt_b tg pg'
      have pm := pg'.2.2
      (try dsimp only at pb2 pm)
      refine loop1 (f := fun x => [some (4, (M : Int)), some (0, a), some (0, b), some (0, k), some (0, x)]) (fun x V' => (0 ≤ x ∧ x ≤ V M 13) ∧ mkq V V' M x (fun d => k ^ (rdR V M (fun d => mmk V M b d) (V (M + 15) d)).toNat)) (fun x _ => (V M 13 - x).toNat) (fun x V' hx ih => ?_) 0 V ⟨by omega, mkq_0⟩
      obtain ⟨x0, mq⟩ := hx
      have e13 : V' M 13 = V M 13 := mq.1.1 _ _ (by omega)
      have e12 : V' M 12 = V M 12 := mq.1.1 _ _ (by omega)
      have e15 : V' (M + 15) x = V (M + 15) x := mq.1.1 _ _ (by omega)
      refine t_X8_colour_71 ly (fun _ => ⟨by omega, fun y => becomes_q ly hM mq (by omega) a0 tg pg' (by (try dsimp only); rw [X2, if_neg (by omega), r0 f1]) ok, fun y => ⟨h3, by omega, fun _ => ?_⟩⟩)
      rw [e15]
      have f0 := MI_fo hM (c := x) (by omega)
      refine cwJ_u (by omega) (sets_r ly (MI_q mq.1 hM) (by rw [e13, mtb_q mq.1]; exact tg) (aR_q mq.1 ab) (by omega) (h := V (M + 15) x) (by omega)) (fun v V1 h1 => ?_)
      obtain ⟨q1, g23, ev⟩ := h1
      have er : v = rdR V M (fun d => mmk V M b d) (V (M + 15) x) := by rw [ev, rdR_q hM mq.1 f0]
      have q := rd f1 x x0.1 (by omega)
      have q2 := pb2 x x0.1 (by omega)
      have sl : stp (k ^ (rdR V M (fun d => mmk V M b d) (V (M + 15) x)).toNat) = k ^ (rdR V M (fun d => mmk V M b d) (V (M + 15) x)).toNat := stp_l (by omega)
      rw [er]
      refine cpJ_u (by omega) (toThe_e (by omega) (by omega)) ?_
      rw [sl]
      exact ⟨⟨by omega, by omega⟩, by omega, ih (x + 1) _ ⟨by omega, mkq_s mq q1 g23 rfl⟩ (by omega)⟩
    · have := y.2.2
      have : 1000000000000000 < k ^ (mmk V M b 0).toNat := stp_lt.mp z4
      omega
    · have : 1000000000000000 < k ^ (mmk V M b 0).toNat := stp_lt.mp z4
      rw [X2, if_pos this]
  · have a0 := bi_n0 z
    have k0 := bi_n0 z2
    have f1 := bi_0.mp z3
    exact rqM_r ly hM qF_refl (fun y => f1 y.2.1) ⟨by omega, by omega⟩ (by unfold cuX; rw [if_neg (fun q => q ⟨by omega, k0⟩), if_pos f1])
theorem parts_C (ly : lay8 G R M) (hM : MI V M) (h1 : i32 a) (h2 : i32 c) : cpJ 3 (rdX (fl (fun i => V (M + 21) i) a) (V M 13) c (V (M + 22) (300 * a + c))) 226 [(4, (M : Int)), (0, a), (0, c)] G R V := by
  have n := MI_N hM
  refine c_X8_parts (t_X8_parts_0 ly (cpI_u (by omega) (isAct_e ly h1) ⟨bi32 _, fun z => ⟨ss2 ?_, rfl⟩, fun z => cpI_u (by omega) (isClass_c ly hM h2) ⟨bi32 _, fun z2 => ⟨ss2 ?_, rfl⟩, fun z2 => ?_⟩⟩))
  · unfold rdX; rw [if_neg (fun q => bi_0.mp z q.1)]
  · unfold rdX; rw [if_neg (fun q => bi_0.mp z2 (by have := q.2; omega))]
  · have f1 := bi_n0 z
    have a0 := (fl_1 f1).1
    have c0 := bi_n0 z2
    exact ⟨by omega, by omega, by omega, fun _ => ⟨ss2 (by unfold rdX; rw [if_pos ⟨f1, by omega⟩]), rfl⟩⟩
theorem mark_C (ly : lay8 G R M) (hM : MI V M) (h1 : i32 a) (h2 : i32 c) (tg : tbG (V M 13) (mtb V M)) (ha : fl (fun i => V (M + 21) i) a = 1 → aR V M a) : cpJ 3 (rdX (fl (fun i => V (M + 21) i) a) (V M 13) c (mmk V M a c)) 227 [(4, (M : Int)), (0, a), (0, c)] G R V := by
  have n := MI_N hM
  refine c_X8_mark (t_X8_mark_0 ly (cpI_u (by omega) (isAct_e ly h1) ⟨bi32 _, fun z => ⟨ss2 ?_, rfl⟩, fun z => cpI_u (by omega) (isClass_c ly hM h2) ⟨bi32 _, fun z2 => ⟨ss2 ?_, rfl⟩, fun z2 => ?_⟩⟩))
  · unfold rdX; rw [if_neg (fun q => bi_0.mp z q.1)]
  · unfold rdX; rw [if_neg (fun q => bi_0.mp z2 (by have := q.2; omega))]
  · have f1 := bi_n0 z
    have a0 := (fl_1 f1).1
    have c0 := bi_n0 z2
    exact cpJ_u (by omega) (markOf_r ly hM tg (ha f1) (by omega) (by omega)) ⟨ss2 (by unfold rdX; rw [if_pos ⟨f1, by omega⟩]), rfl⟩
theorem same_C (ly : lay8 G R M) (hM : MI V M) (h1 : i32 a) (h2 : i32 b) (tg : tbG (V M 13) (mtb V M)) (ha : fl (fun i => V (M + 21) i) a = 1 → aR V M a) (hb : fl (fun i => V (M + 21) i) b = 1 → aR V M b) : cpI 3 (saX (fl (fun i => V (M + 21) i) a) (fl (fun i => V (M + 21) i) b) (V M 13) (fun d => mmk V M a d) (fun d => mmk V M b d)) 230 [(4, (M : Int)), (0, a), (0, b)] G R V := by
  have n := MI_N hM
  refine c_X8_same (t_X8_same_0 ly (cpI_u (by omega) (isAct_e ly h1) ⟨bi32 _, fun z => ⟨ss0 ?_, rfl⟩, fun z => cpI_u (by omega) (isAct_e ly h2) ⟨bi32 _, fun z2 => ?_, fun z2 => ⟨ss0 ?_, rfl⟩⟩⟩))
  · unfold saX; rw [if_neg (fun q => bi_0.mp z q.1)]
  · have f1 := bi_n0 z
    have f2 := bi_n0 z2
    have a0 := (fl_1 f1).1
    have b0 := (fl_1 f2).1
    have aa := ha f1
    have ab := hb f2
    have ba := prt_b tg (aR_p aa)
    have bb := prt_b tg (aR_p ab)
    (try dsimp only at ba bb)
    have a2 := aa.2
    have b2 := ab.2
    have eX : saX (fl (fun i => V (M + 21) i) a) (fl (fun i => V (M + 21) i) b) (V M 13) (fun d => mmk V M a d) (fun d => mmk V M b d) = the (sdP (V M 13) (fun d => mmk V M a d) (fun d => mmk V M b d)) := by unfold saX; rw [if_pos ⟨f1, f2⟩]
    rw [eX]
    refine pool1 (f := fun i => [some (4, (M : Int)), some (0, a), some (0, b), some (0, i)]) (fun i => (0 ≤ i ∧ i ≤ V M 13) ∧ ∀ d, 0 ≤ d → d < i → mmk V M a d = mmk V M b d) (fun i => (V M 13 - i).toNat) (fun i hi ih => ?_) 0 ⟨by omega, fun d d0 d1 => by omega⟩
    obtain ⟨i0, eq⟩ := hi
    refine t_X8_same_21 ly (fun _ => ⟨by omega, fun z3 => ⟨ss0 (the_e sdP_u (Or.inl ⟨rfl, fun d d0 d1 => eq d d0 (by omega)⟩)), rfl⟩, fun z3 => cpJ_u (by omega) (markOf_r ly hM tg aa (by omega) (by omega)) (cpJ_u (by omega) (markOf_r ly hM tg ab (by omega) (by omega)) ?_)⟩)
    have q1 := ba i i0.1 (by omega)
    have q2 := bb i i0.1 (by omega)
    refine ⟨⟨by omega, by omega⟩, ⟨by omega, by omega⟩, fun y => ⟨by omega, ih _ ⟨by omega, fun d d0 d1 => ?_⟩ (by omega)⟩, fun y => ⟨ss0 (the_e sdP_u (Or.inr ⟨⟨i0.1, by omega⟩, y, eq⟩)), rfl⟩⟩
    by_cases y2 : d = i
    · rw [y2]; exact y
    · exact eq d d0 (by omega)
  · unfold saX; rw [if_neg (fun q => bi_0.mp z2 q.2)]
theorem count_C (ly : lay8 G R M) (hM : MI V M) {x : Int} (h1 : i32 x) : cpI 1 (cnX x (V M 4) (V M 5) (V M 12) (V M 13) (sm (fun i => V (M + 21) i) (8 : Int).toNat) (V M 35)) 182 [(4, (M : Int)), (0, x)] G R V := by
  refine c_X8_count (t_X8_count_0 ly ⟨h1, fun y => ⟨ss0 ?_, rfl⟩, fun y _ => ⟨ss0 ?_, rfl⟩, fun y _ => ⟨ss0 ?_, rfl⟩, fun y _ => ⟨ss0 ?_, rfl⟩, fun y _ => ⟨ss0 ?_, rfl⟩, fun y => ?_, fun y _ => ⟨ss0 ?_, rfl⟩⟩)
  · unfold cnX
    rw [if_neg (by omega), if_neg (by omega), if_neg (by omega), if_neg (by omega), if_neg (by omega), if_neg (by omega)]
  all_goals subst y
  · unfold cnX
    rw [if_pos rfl]
  · unfold cnX
    rw [if_neg (by omega), if_pos rfl]
  · unfold cnX
    rw [if_neg (by omega), if_neg (by omega), if_pos rfl]
  · unfold cnX
    rw [if_neg (by omega), if_neg (by omega), if_neg (by omega), if_pos rfl]
  · have eX : cnX 4 (V M 4) (V M 5) (V M 12) (V M 13) (sm (fun i => V (M + 21) i) (8 : Int).toNat) (V M 35) = sm (fun i => V (M + 21) i) (8 : Int).toNat := by
      unfold cnX
      rw [if_neg (by omega), if_neg (by omega), if_neg (by omega), if_neg (by omega), if_pos rfl]
    rw [eX]
    refine pool2 (f := fun x i => [some (4, (M : Int)), none, some (0, x), some (0, i)]) (fun x i => (0 ≤ i ∧ i ≤ 8) ∧ x = sm (fun i => V (M + 21) i) i.toNat ∧ (0 ≤ x ∧ x ≤ i)) (fun _ i => (8 - i).toNat) (fun x i hi ih => ?_) 0 0 ⟨by omega, rfl, by omega⟩
    obtain ⟨i0, ex, xr⟩ := hi
    have s := sm_s (fun i => V (M + 21) i) (x := i) i0.1
    (try dsimp only at s)
    refine t_X8_count_64 ly ⟨by omega, fun z => ⟨by rw [ex, show i = 8 by omega], rfl⟩, fun z => ⟨by omega, fun b01 => ⟨fun y => ⟨by omega, by omega, ih _ _ ⟨by omega, by omega, by omega⟩ (by omega)⟩, fun y => ⟨by omega, by omega, ih _ _ ⟨by omega, by omega, by omega⟩ (by omega)⟩⟩⟩⟩
  · unfold cnX
    rw [if_neg (by omega), if_neg (by omega), if_neg (by omega), if_neg (by omega), if_neg (by omega), if_pos rfl]
theorem maps_C (ly : lay8 G R M) (hM : MI V M) {w : Int} (h1 : i32 a) (h2 : i32 b) (h3 : i32 w) (tg : tbG (V M 13) (mtb V M)) (ha : fl (fun i => V (M + 21) i) a = 1 → aR V M a) (hb : fl (fun i => V (M + 21) i) b = 1 → aR V M b) : cpJ 4 (moX (fl (fun i => V (M + 21) i) a) (fl (fun i => V (M + 21) i) b) w (V M 13) (fun d => mmk V M a d) (fun d => mmk V M b d) (mpt V M a) (fun c => mtb V M c c)) 231 [(4, (M : Int)), (0, a), (0, b), (0, w)] G R V := by
  have n := MI_N hM
  refine c_X8_maps (t_X8_maps_0 ly (cpI_u (by omega) (isAct_e ly h1) ⟨bi32 _, fun z => ⟨ss2 ?_, rfl⟩, fun z => cpI_u (by omega) (isAct_e ly h2) ⟨bi32 _, fun z2 => ⟨ss2 ?_, rfl⟩, fun z2 => ⟨h3, cpI_u (by omega) (in_c (i32_64 h3) ⟨by omega, by omega⟩ ⟨by omega, by omega⟩) ⟨bi32 _, fun z3 => ?_, fun z3 => ⟨ss2 ?_, rfl⟩⟩⟩⟩⟩))
  · unfold moX; rw [if_neg (fun q => bi_0.mp z q.1)]
  · unfold moX; rw [if_neg (fun q => bi_0.mp z2 q.2.1)]
  · have f1 := bi_n0 z
    have f2 := bi_n0 z2
    have w0 := bi_n0 z3
    have a0 := (fl_1 f1).1
    have b0 := (fl_1 f2).1
    have aa := ha f1
    have ab := hb f2
    have pa := aR_p aa
    have pb := aR_p ab
    have bb := prt_b tg pb
    have ba := prt_b tg pa
    have qa := prt_p tg pa
    have b2 := ab.2
    have a2 := aa.2
    (try dsimp only at bb ba qa)
    have pr1 : ∀ c, 0 ≤ c → c < V M 13 → 0 ≤ V (M + 22) (300 * a + c) ∧ V (M + 22) (300 * a + c) ≤ 1000000000000000 := fun c c0 c1 => by
      have q1 := aa.1 c c0 c1
      have q2 : V (M + 22) (300 * a + c) ≤ mmk V M a c := qa c c0 c1
      have q3 := ba c c0 c1
      omega
    have dg : ∀ c, 0 ≤ c → c < V M 13 → 1 ≤ V (M + 18) (300 * c + c) ∧ V (M + 18) (300 * c + c) ≤ 120 := fun c c0 c1 => ⟨tg.2.2.1 c c0 c1, (tg.2.1 c c c0 c1 c0 c1).2⟩
    have eX : moX (fl (fun i => V (M + 21) i) a) (fl (fun i => V (M + 21) i) b) w (V M 13) (fun d => mmk V M a d) (fun d => mmk V M b d) (mpt V M a) (fun c => mtb V M c c) = if w = 0 then mpX (pr (fun c => mmk V M b c ^ (V (M + 22) (300 * a + c)).toNat) (V M 13).toNat) else bi (∀ c, 0 ≤ c → c < V M 13 → mmk V M a c = mmk V M b c) * mpX (pr (fun c => fac (V (M + 22) (300 * a + c)).toNat * V (M + 18) (300 * c + c) ^ (V (M + 22) (300 * a + c)).toNat) (V M 13).toNat) := by unfold moX; rw [if_pos ⟨f1, f2, by omega⟩]; rfl
    rw [eX]
    refine pool2 (f := fun x i => [some (4, (M : Int)), some (0, a), some (0, b), some (0, w), some (0, x), some (0, i)]) (fun x i => (0 ≤ i ∧ i ≤ V M 13) ∧ ((x = 0 ∧ ∀ c, 0 ≤ c → c < i → mgd w (mpt V M a) (mpt V M b) (fun d => mmk V M b d) c) ∨ (x = 1 ∧ ∃ c, (0 ≤ c ∧ c < i) ∧ ¬ mgd w (mpt V M a) (mpt V M b) (fun d => mmk V M b d) c))) (fun _ i => (V M 13 - i).toNat) (fun x i hi ih => ?_) 0 0 ⟨by omega, Or.inl ⟨rfl, fun c c0 c1 => by omega⟩⟩
    obtain ⟨i0, hx⟩ := hi
    have x01 : x = 0 ∨ x = 1 := by
      rcases hx with q | q
      · exact Or.inl q.1
      · exact Or.inr q.1
    have go0 : i < V M 13 → x = 0 → mgd w (mpt V M a) (mpt V M b) (fun d => mmk V M b d) i → (0 ≤ i + 1 ∧ i + 1 ≤ V M 13) ∧ (((0 : Int) = 0 ∧ ∀ c, 0 ≤ c → c < i + 1 → mgd w (mpt V M a) (mpt V M b) (fun d => mmk V M b d) c) ∨ ((0 : Int) = 1 ∧ ∃ c, (0 ≤ c ∧ c < i + 1) ∧ ¬ mgd w (mpt V M a) (mpt V M b) (fun d => mmk V M b d) c)) := fun il ex gd => by
      refine ⟨by omega, Or.inl ⟨rfl, fun c c0 c1 => ?_⟩⟩
      by_cases e : c = i
      · rw [e]; exact gd
      · rcases hx with q | q
        · exact q.2 c c0 (by omega)
        · omega
    have go1 : i < V M 13 → (∃ c, (0 ≤ c ∧ c < i + 1) ∧ ¬ mgd w (mpt V M a) (mpt V M b) (fun d => mmk V M b d) c) → (0 ≤ i + 1 ∧ i + 1 ≤ V M 13) ∧ (((1 : Int) = 0 ∧ ∀ c, 0 ≤ c → c < i + 1 → mgd w (mpt V M a) (mpt V M b) (fun d => mmk V M b d) c) ∨ ((1 : Int) = 1 ∧ ∃ c, (0 ≤ c ∧ c < i + 1) ∧ ¬ mgd w (mpt V M a) (mpt V M b) (fun d => mmk V M b d) c)) := fun il ex => ⟨by omega, Or.inr ⟨rfl, ex⟩⟩
    refine t_X8_maps_36 ly (fun _ => ⟨by omega, fun y => ⟨by omega, fun y2 => ?_, fun y2 => ⟨ss2 ?_, rfl⟩⟩, fun y => ⟨by omega, by omega, by omega, fun _ => ⟨by omega, fun y2 => ⟨by omega, ih _ _ (go1 (by omega) ?_) (by omega)⟩, fun y2 => ⟨h3, fun y3 => ⟨by omega, by omega, by omega, fun _ => ⟨fun y4 => ⟨by omega, ih _ _ (go0 (by omega) y2 ⟨fun q => absurd q y3, fun _ => y4⟩) (by omega)⟩, fun y4 => ⟨by omega, ih _ _ (go1 (by omega) ⟨i, by omega, fun q => y4 (q.2 y3)⟩) (by omega)⟩⟩⟩, fun y3 => ⟨fun y4 => ⟨by omega, ih _ _ (go0 (by omega) y2 ⟨fun _ q => absurd q y4, fun q => absurd y3 q⟩) (by omega)⟩, fun y4 => cpJ_u (by omega) (markOf_r ly hM tg ab (by omega) (by omega)) ⟨?_, fun y5 => ⟨by omega, ih _ _ (go0 (by omega) y2 ⟨fun _ _ => y5, fun q => absurd y3 q⟩) (by omega)⟩, fun y5 => ⟨by omega, ih _ _ (go1 (by omega) ⟨i, by omega, fun q => q.1 y3 y4 y5⟩) (by omega)⟩⟩⟩⟩⟩⟩⟩)
    · have al : ∀ c, 0 ≤ c → c < V M 13 → mgd w (mpt V M a) (mpt V M b) (fun d => mmk V M b d) c := by
        rcases hx with q | q
        · exact fun c c0 c1 => q.2 c c0 (by omega)
        · omega
      have f1' : ∀ c, 0 ≤ c → c < V M 13 → 1 ≤ mfc w (mpt V M a) (fun d => mmk V M b d) (fun c => mtb V M c c) c := fun c c0 c1 => by
        unfold mfc
        have p0 := pr1 c c0 c1
        by_cases wz : w = 0
        · rw [if_pos wz]
          (try dsimp only)
          by_cases pz : V (M + 22) (300 * a + c) = 0
          · show 1 ≤ mmk V M b c ^ (V (M + 22) (300 * a + c)).toNat
            rw [pz]
            show 1 ≤ mmk V M b c ^ 0
            rw [Int.pow_zero]; omega
          · have q := (al c c0 c1).1 wz (by show 0 < V (M + 22) (300 * a + c); omega)
            (try dsimp only at q)
            have q2 := bb c c0 c1
            exact pow_1 (by omega) _
        · rw [if_neg wz]
          have q1 := fac_1 (V (M + 22) (300 * a + c)).toNat
          have q2 := pow_1 (b := V (M + 18) (300 * c + c)) (dg c c0 c1).1 (V (M + 22) (300 * a + c)).toNat
          have := mul_ge (x := fac (V (M + 22) (300 * a + c)).toNat) (by omega) q2
          show 1 ≤ fac (V (M + 22) (300 * a + c)).toNat * V (M + 18) (300 * c + c) ^ (V (M + 22) (300 * a + c)).toNat
          omega
      have eY : (if w = 0 then mpX (pr (fun c => mmk V M b c ^ (V (M + 22) (300 * a + c)).toNat) (V M 13).toNat) else bi (∀ c, 0 ≤ c → c < V M 13 → mmk V M a c = mmk V M b c) * mpX (pr (fun c => fac (V (M + 22) (300 * a + c)).toNat * V (M + 18) (300 * c + c) ^ (V (M + 22) (300 * a + c)).toNat) (V M 13).toNat)) = mpX (pr (mfc w (mpt V M a) (fun d => mmk V M b d) (fun c => mtb V M c c)) (V M 13).toNat) := by
        by_cases wz : w = 0
        · rw [if_pos wz]
          refine congrArg mpX (pr_congr (fun c c0 c1 => ?_))
          unfold mfc
          rw [if_pos wz]
        · rw [if_neg wz]
          have me : ∀ c, 0 ≤ c → c < V M 13 → mmk V M a c = mmk V M b c := fun c c0 c1 => by
            unfold mmk
            refine sm_congr (fun y y0 y1 => ?_)
            have q : V (M + 22) (300 * a + y) = V (M + 22) (300 * b + y) := (al y y0 (by omega)).2 wz
            (try dsimp only)
            rw [q]
          rw [bi_t me, Int.one_mul]
          refine congrArg mpX (pr_congr (fun c c0 c1 => ?_))
          unfold mfc
          rw [if_neg wz]
      rw [eY]
      have mono : ∀ i : Int, 0 ≤ i → i ≤ V M 13 → pr (mfc w (mpt V M a) (fun d => mmk V M b d) (fun c => mtb V M c c)) i.toNat ≤ pr (mfc w (mpt V M a) (fun d => mmk V M b d) (fun c => mtb V M c c)) (V M 13).toNat := fun i i0 i1 => pr_mono (fun j j0 j1 => f1' j j0 (by omega)) (by omega)
      have ge1 : ∀ i : Int, 0 ≤ i → i ≤ V M 13 → 1 ≤ pr (mfc w (mpt V M a) (fun d => mmk V M b d) (fun c => mtb V M c c)) i.toNat := fun i i0 i1 => pr_1 (fun j j0 j1 => f1' j j0 (by omega))
      refine pool2 (f := fun x j => [some (4, (M : Int)), some (0, a), some (0, b), some (0, w), none, some (2, x), none, some (0, j)]) (fun x j => (0 ≤ j ∧ j ≤ V M 13) ∧ x = stp (pr (mfc w (mpt V M a) (fun d => mmk V M b d) (fun c => mtb V M c c)) j.toNat)) (fun _ j => (V M 13 - j).toNat) (fun x j hj ih2 => ?_) 1 0 ⟨by omega, rfl⟩
      obtain ⟨j0, ex⟩ := hj
      have g1 := ge1 j j0.1 j0.2
      have mj := mono j j0.1 j0.2
      have r := stp_r (x := pr (mfc w (mpt V M a) (fun d => mmk V M b d) (fun c => mtb V M c c)) j.toNat) (by omega)
      rw [← ex] at r
      have big : 1000000000000000 < x → (-5 : Int) = mpX (pr (mfc w (mpt V M a) (fun d => mmk V M b d) (fun c => mtb V M c c)) (V M 13).toNat) := fun q => by
        rw [ex] at q
        have := stp_lt.mp q
        unfold mpX
        rw [if_pos (by omega)]
      refine t_X8_maps_136 ly (fun _ => ⟨by omega, fun y3 => ⟨⟨by omega, by omega⟩, fun y4 => ⟨ss2 ?_, rfl⟩, fun y4 => ⟨ss2 (big y4), rfl⟩⟩, fun y3 => ⟨⟨by omega, by omega⟩, fun y4 => ⟨fun y5 => absurd y4 y5, fun y5 => ⟨ss2 (big y5), rfl⟩⟩, fun y4 => ⟨by omega, by omega, by omega, fun _ => ⟨h3, fun y5 => ⟨by omega, by omega, by omega, fun _ => ?_⟩, fun y5 => ?_⟩⟩⟩⟩)
      · rw [ex] at y4 ⊢
        rw [show j = V M 13 by omega] at y4 ⊢
        exact mpX_s.1 y4
      · have p0 := pr1 j j0.1 (by omega)
        have d0 := dg j j0.1 (by omega)
        obtain ⟨P, eP⟩ : ∃ P, P = V (M + 22) (300 * a + j) := ⟨_, rfl⟩
        obtain ⟨D, eD⟩ : ∃ D, D = V (M + 18) (300 * j + j) := ⟨_, rfl⟩
        rw [← eP] at p0 ⊢
        rw [← eD] at d0 ⊢
        have dp := pow_1 (b := D) d0.1 P.toNat
        have rd := stp_r (x := D ^ P.toNat) (by omega)
        obtain ⟨A, eA⟩ : ∃ A, A = pr (mfc w (mpt V M a) (fun d => mmk V M b d) (fun c => mtb V M c c)) j.toNat * D ^ P.toNat := ⟨_, rfl⟩
        have A1 : 1 ≤ A := by rw [eA]; have := mul_ge (x := pr (mfc w (mpt V M a) (fun d => mmk V M b d) (fun c => mtb V M c c)) j.toNat) (by omega) dp; omega
        have nx : A * fac P.toNat = pr (mfc w (mpt V M a) (fun d => mmk V M b d) (fun c => mtb V M c c)) (j + 1).toNat := by
          have e : mfc w (mpt V M a) (fun d => mmk V M b d) (fun c => mtb V M c c) j = fac P.toNat * D ^ P.toNat := by
            unfold mfc
            rw [if_neg y5, eP, eD]
          rw [pr_s _ j0.1, e, eA, Int.mul_assoc, Int.mul_comm (D ^ P.toNat)]
        refine cpJ_u (by omega) (toThe_e (by omega) (by omega)) (cpJ_u (by omega) (times_e2 (by omega) rd) ?_)
        refine pool2 (f := fun x z => [some (4, (M : Int)), some (0, a), some (0, b), some (0, w), none, some (2, x), none, some (0, j), some (2, P), none, some (2, z)]) (fun x z => (2 ≤ z ∧ (z ≤ P + 1 ∨ z = 2)) ∧ x = stp (A * fac (z - 1).toNat)) (fun _ z => (P + 2 - z).toNat) (fun x2 z hz ih3 => ?_) _ 2 ⟨by omega, ?_⟩
        · obtain ⟨zr, ex2⟩ := hz
          have fz := fac_1 (z - 1).toNat
          have mz := mul_ge (x := A) (by omega) fz
          have r2 := stp_r (x := A * fac (z - 1).toNat) (by omega)
          rw [← ex2] at r2
          refine t_X8_maps_227 ly ⟨⟨by omega, by omega⟩, ⟨by omega, by omega⟩, fun y6 => ⟨by omega, ih2 _ _ ⟨by omega, ?_⟩ (by omega)⟩, fun y6 => ⟨⟨by omega, by omega⟩, fun y7 => ⟨by omega, ih2 _ _ ⟨by omega, ?_⟩ (by omega)⟩, fun y7 => cpJ_u (by omega) (times_e2 (by omega) (by omega)) ?_⟩⟩
          · rw [ex2, ← nx]
            by_cases q : z = P + 1
            · rw [q, show P + 1 - 1 = P by omega]
            · have z2' : z = 2 := by omega
              have p01 : P = 0 ∨ P = 1 := by omega
              rw [z2']
              rcases p01 with q | q <;> rw [q] <;> rfl
          · have lt : 1000000000000000 < A * fac (z - 1).toNat := by rw [ex2] at y7; exact stp_lt.mp y7
            have fm := fac_mono (m := (z - 1).toNat) (n := P.toNat) (by omega)
            have le := Int.mul_le_mul_of_nonneg_left fm (show 0 ≤ A by omega)
            rw [ex2, ← nx, stp_g lt, stp_g (by omega)]
          · rw [jadd_e ⟨by omega, by omega⟩]
            refine ih3 _ _ ⟨by omega, ?_⟩ (by omega)
            rw [ex2, stp_m (by omega) (by omega), Int.mul_assoc, show (z + 1 - 1).toNat = (z - 1).toNat + 1 by omega]
            show _ = stp (A * (fac (z - 1).toNat * (((z - 1).toNat : Int) + 1)))
            rw [show (((z - 1).toNat : Nat) : Int) + 1 = z by omega]
        · rw [ex, stp_m (by omega) rd.1, stp_mr (by omega) (by omega), ← eA]
          show stp A = stp (A * fac 1)
          rw [show fac 1 = 1 from rfl, Int.mul_one]
      · have p0 := pr1 j j0.1 (by omega)
        have bj := bb j j0.1 (by omega)
        have pn := pow_nn (b := mmk V M b j) bj.1 (V (M + 22) (300 * a + j)).toNat
        have rd := stp_r pn
        refine cpJ_u (by omega) (markOf_r ly hM tg ab (by omega) (by omega)) (cpJ_u (by omega) (toThe_e (by omega) (by omega)) (cpJ_u (by omega) (times_e2 (by omega) rd) ⟨by omega, ih2 _ _ ⟨by omega, ?_⟩ (by omega)⟩))
        have e : mfc w (mpt V M a) (fun d => mmk V M b d) (fun c => mtb V M c c) j = mmk V M b j ^ (V (M + 22) (300 * a + j)).toNat := by
          unfold mfc
          rw [if_pos y5]
        rw [ex, stp_m (by omega) rd.1, stp_mr (by omega) pn, pr_s _ j0.1, e]
    · rcases hx with q | ⟨_, c, c0, bad⟩
      · omega
      · by_cases wz : w = 0
        · rw [if_pos wz]
          have q : 0 < V (M + 22) (300 * a + c) ∧ mmk V M b c = 0 := by
            apply Classical.byContradiction
            intro q
            exact bad ⟨fun _ p0 e => q ⟨p0, e⟩, fun q2 => absurd wz q2⟩
          have e : pr (fun c => mmk V M b c ^ (V (M + 22) (300 * a + c)).toNat) (V M 13).toNat = 0 := pr_0 (j := c) c0.1 (by omega) (by (try dsimp only); rw [q.2, Int.zero_pow (by omega)])
          rw [e]; rfl
        · rw [if_neg wz]
          have q : ¬ ∀ c, 0 ≤ c → c < V M 13 → mmk V M a c = mmk V M b c := fun q => bad ⟨fun q2 => absurd q2 wz, fun _ => prt_u tg pa pb q c c0.1 (by omega)⟩
          rw [bi_f q, Int.zero_mul]
    · rcases hx with q | ⟨_, c, c0, bad⟩
      · omega
      · exact ⟨c, by omega, bad⟩
    · have := bb i i0.1 (by omega)
      exact ⟨by omega, by omega⟩
  · unfold moX; rw [if_neg (fun q => bi_0.mp z3 (by have := q.2.2; omega))]
theorem act_C (ly : lay8 G R M) (hM : MI V M) {wh x : Int} (h1 : i32 a) (h2 : i32 wh) (h3 : i32 x) (tg : tbG (V M 13) (mtb V M)) (ha : fl (fun i => V (M + 21) i) a = 1 → aR V M a) (ki : ∀ v, fl (fun i => V (M + 21) i) a = 1 → inP (V M 5) (V M 12) (mHas V M) (kU V M a (V M 13)) v → idP (V M 13) (fun d => mmk V M a d) (fun c => V (M + 15) c) v) : cwv 6 (fun r V' => ∃ v, r = some (2, v) ∧ (qF V V' M ∧ v = acX (fl (fun i => V (M + 21) i) a) wh x (V M 13) (V M 5) (V M 12) (fun d => mmk V M a d) (mpt V M a) (fun c => V (M + 15) c) (fun h => V (M + 14) h) (rmb V M) (rdR V M (fun d => mmk V M a d)))) 229 [(4, (M : Int)), (0, a), (0, wh), (0, x)] G R V := by
  have n := MI_N hM
  refine c_X8_act (t_X8_act_0 ly (cpI_u (by omega) (isAct_e ly h1) ⟨bi32 _, fun z => ⟨h2, fun y => ⟨_, rfl, qF_refl, ?_⟩, fun y => ?_, fun y => ?_, fun y => ?_, fun y => ?_, fun y => ?_, fun y => ?_⟩, fun z => ⟨_, rfl, qF_refl, ?_⟩⟩))
  · unfold acX
    rw [if_pos (bi_n0 z), if_neg (by omega), if_neg (by omega), if_neg (by omega), if_neg (by omega), if_neg (by omega), if_neg (by omega)]
  · have f1 := bi_n0 z
    have a0 := (fl_1 f1).1
    refine cpJ_u (by omega) (sizeOf_r ly hM tg (ha f1) (by omega)) ⟨_, rfl, qF_refl, ?_⟩
    unfold acX
    rw [if_pos f1, if_pos y]
  · have f1 := bi_n0 z
    have a0 := (fl_1 f1).1
    have aa := ha f1
    have a2 := aa.2
    have sl : sm (mpt V M a) (V M 13).toNat ≤ 1000000000000000 := by
      refine Int.le_trans (sm_le (fun c q0 q1 => ?_)) a2
      have t1 : 1 ≤ V (M + 18) (300 * c + c) := tg.2.2.1 c q0 (by omega)
      have t2 : V (M + 18) (300 * c + c) ≤ V (M + 18) (300 * c + 0) := tg.2.2.2 c c q0 (by omega) q0 (by omega)
      exact mul_ge (aa.1 c q0 (by omega)) (by omega)
    refine pool2 (f := fun x i => [some (4, (M : Int)), some (0, a), none, none, some (2, x), none, some (0, i)]) (fun x i => (0 ≤ i ∧ i ≤ V M 13) ∧ x = sm (mpt V M a) i.toNat) (fun _ i => (V M 13 - i).toNat) (fun x i hi ih => ?_) 0 0 ⟨by omega, rfl⟩
    obtain ⟨i0, ex⟩ := hi
    refine t_X8_act_64 ly (fun _ => ⟨by omega, fun z => ⟨_, rfl, qF_refl, ?_⟩, fun z => ⟨by omega, by omega, by omega, fun _ => ⟨by omega, ih _ _ ⟨by omega, ?_⟩ (by omega)⟩⟩⟩)
    · unfold acX
      rw [if_pos f1, if_neg (by omega), if_pos y, ex, show i = V M 13 by omega]
    · have s : sm (mpt V M a) (i + 1).toNat = sm (mpt V M a) i.toNat + V (M + 22) (300 * a + i) := sm_s (mpt V M a) (x := i) i0.1
      have p0 := aa.1 i i0.1 (by omega)
      have lo : 0 ≤ sm (mpt V M a) i.toNat := sm_nn (fun j j0 j1 => aa.1 j j0 (by omega))
      have hi : sm (mpt V M a) (i + 1).toNat ≤ sm (mpt V M a) (V M 13).toNat := by
        rw [show (V M 13).toNat = (i + 1).toNat + (V M 13 - (i + 1)).toNat by omega, sm_app]
        have := sm_nn (f := fun x => mpt V M a ((((i + 1).toNat : Nat) : Int) + x)) (n := (V M 13 - (i + 1)).toNat) (fun j j0 j1 => aa.1 _ (by omega) (by omega))
        omega
      rw [ex, jadd_e ⟨by omega, by omega⟩, s]
  · have f1 := bi_n0 z
    have a0 := (fl_1 f1).1
    refine cwI_u (by omega) (kernel_C ly hM (by omega)) (fun v V1 h1 => ?_)
    obtain ⟨q, ip⟩ := h1
    have v0 := ip.1
    refine ⟨⟨by omega, by omega⟩, _, rfl, q, ?_⟩
    unfold acX
    rw [if_pos f1, if_neg (by omega), if_neg (by omega), if_pos y]
    exact the_e idP_u (ki v f1 ip)
  · have f1 := bi_n0 z
    have a0 := (fl_1 f1).1
    refine cpI_u (by omega) (isTurn_c ly hM h3) ⟨bi32 _, fun z2 => ⟨_, rfl, qF_refl, ?_⟩, fun z2 => ?_⟩
    · have q := bi_0.mp z2
      unfold acX
      rw [if_pos f1, if_neg (by omega), if_neg (by omega), if_neg (by omega), if_pos y, if_neg (by omega)]
    · have q := bi_n0 z2
      refine cwI_u (by omega) (madeBy_rx ly hM (t := x) (by omega)) (fun v V1 h1 => ?_)
      obtain ⟨q1, _, ev, v0⟩ := h1
      have e13 : V1 M 13 = V M 13 := q1.1 _ _ (by omega)
      have e14 : V1 (M + 14) v = V (M + 14) v := q1.1 _ _ (by omega)
      have co := MI_co hM v0
      refine ⟨by omega, fun _ => ?_⟩
      rw [e14]
      refine cpJ_u (by omega) (markOf_r ly (MI_q q1 hM) (by rw [e13, mtb_q q1]; exact tg) (aR_q q1 (ha f1)) (by omega) (by omega)) ⟨_, rfl, q1, ?_⟩
      unfold acX
      rw [if_pos f1, if_neg (by omega), if_neg (by omega), if_neg (by omega), if_pos y, if_pos (by omega), mmk_q q1, ev]
  · have f1 := bi_n0 z
    have a0 := (fl_1 f1).1
    refine cpI_u (by omega) (isTurn_c ly hM h3) ⟨bi32 _, fun z2 => ⟨_, rfl, qF_refl, ?_⟩, fun z2 => ?_⟩
    · have q := bi_0.mp z2
      unfold acX
      rw [if_pos f1, if_neg (by omega), if_neg (by omega), if_neg (by omega), if_neg (by omega), if_pos y, if_neg (by omega)]
    · have q := bi_n0 z2
      refine cwI_u (by omega) (madeBy_rx ly hM (t := x) (by omega)) (fun v V1 h1 => ?_)
      obtain ⟨q1, _, ev, v0⟩ := h1
      have e13 : V1 M 13 = V M 13 := q1.1 _ _ (by omega)
      have e12 : V1 M 12 = V M 12 := q1.1 _ _ (by omega)
      refine cwJ_u (by omega) (sets_r ly (MI_q q1 hM) (by rw [e13, mtb_q q1]; exact tg) (aR_q q1 (ha f1)) (by omega) (h := v) (by omega)) (fun v2 V2 h2 => ?_)
      obtain ⟨q2, _, ev2⟩ := h2
      refine ⟨_, rfl, qF_trans q1 q2, ?_⟩
      unfold acX
      rw [if_pos f1, if_neg (by omega), if_neg (by omega), if_neg (by omega), if_neg (by omega), if_pos y, if_pos (by omega), ev2, rdR_q hM q1 v0, ev]
  · have f1 := bi_n0 z
    have a0 := (fl_1 f1).1
    refine cpI_u (by omega) (isHeap_c ly hM h3) ⟨bi32 _, fun z2 => ⟨_, rfl, qF_refl, ?_⟩, fun z2 => ?_⟩
    · have q := bi_0.mp z2
      unfold acX
      rw [if_pos f1, if_neg (by omega), if_neg (by omega), if_neg (by omega), if_neg (by omega), if_neg (by omega), if_pos y, if_neg (by omega)]
    · have q := bi_n0 z2
      refine cwJ_u (by omega) (sets_r ly hM tg (ha f1) (by omega) (h := x) (by omega)) (fun v2 V2 h2 => ?_)
      obtain ⟨q2, _, ev2⟩ := h2
      refine ⟨_, rfl, q2, ?_⟩
      unfold acX
      rw [if_pos f1, if_neg (by omega), if_neg (by omega), if_neg (by omega), if_neg (by omega), if_neg (by omega), if_pos y, if_pos (by omega), ev2]
  · unfold acX
    rw [if_neg (bi_0.mp z)]
end
