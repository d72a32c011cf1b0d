/-! the reference's acts, exactly -/
def fl (th : Int → Int) (b : Int) : Int := if 0 ≤ b ∧ b < 8 then th b else 0
def mnX (f s a k : Int) : Int := if ¬ ((0 ≤ a ∧ a < 8) ∧ (0 ≤ k ∧ k ≤ 1000000)) then -1 else if f ≠ 1 then -2 else if 1000000000000000 < s * k then -5 else s * k
def mnO (f s a k : Int) : Prop := ((0 ≤ a ∧ a < 8) ∧ (0 ≤ k ∧ k ≤ 1000000)) ∧ f = 1 ∧ s * k ≤ 1000000000000000
def boS (s t w : Int) : Int := if w = 0 then s + t else s * t
def boX (f g s t a w : Int) : Int := if ¬ ((0 ≤ a ∧ a < 8) ∧ (w = 0 ∨ w = 1)) then -1 else if ¬ (f = 1 ∧ g = 1) then -2 else if 1000000000000000 < boS s t w then -5 else boS s t w
def boO (f g s t a w : Int) : Prop := ((0 ≤ a ∧ a < 8) ∧ (w = 0 ∨ w = 1)) ∧ (f = 1 ∧ g = 1) ∧ boS s t w ≤ 1000000000000000
def cuX (f s a k : Int) : Int := if ¬ ((0 ≤ a ∧ a < 8) ∧ (0 ≤ k ∧ k ≤ 100)) then -1 else if f ≠ 1 then -2 else if 1000000000000000 < k ^ s.toNat then -5 else k ^ s.toNat
def cuO (f s a k : Int) : Prop := ((0 ≤ a ∧ a < 8) ∧ (0 ≤ k ∧ k ≤ 100)) ∧ f = 1 ∧ k ^ s.toNat ≤ 1000000000000000
def mmk (V : gV) (M : Nat) (a d : Int) : Int := sm (fun y => V (M + 22) (300 * a + y) * V (M + 18) (300 * y + d)) (V M 13).toNat
abbrev mpt (V : gV) (M : Nat) (a : Int) : Int → Int := fun c => V (M + 22) (300 * a + c)
/-- act a has parts, none below nothing, and not too many places -/
def aR (V : gV) (M : Nat) (a : Int) : Prop := (∀ c, 0 ≤ c → c < V M 13 → 0 ≤ V (M + 22) (300 * a + c)) ∧ mmk V M a 0 ≤ 1000000000000000
noncomputable def rmb (V : gV) (M : Nat) (t : Int) : Int := the (loP (V M 5) (V M 12) (mHas V M) (one t))
noncomputable def rdR (V : gV) (M : Nat) (mk : Int → Int) (h : Int) : Int := sm (fun t => mHas V M h t * mk (V (M + 14) (rmb V M t))) (V M 5).toNat / V (M + 10) h
section
variable {G : List gS} {R V V' : gV} {M : Nat} {a b c d k h : Int} {mm p : Int → Int}
theorem fl_1 {th : Int → Int} (h : fl th b = 1) : (0 ≤ b ∧ b < 8) ∧ th b = 1 := by
  unfold fl at h
  by_cases q : 0 ≤ b ∧ b < 8
  · rw [if_pos q] at h; exact ⟨q, h⟩
  · rw [if_neg q] at h; omega
theorem aR_p (h : aR V M a) : prtP (V M 13) (mtb V M) (fun d => mmk V M a d) (mpt V M a) := ⟨h.1, fun d _ _ => rfl, h.2⟩
theorem mmk_q (q : qF V V' M) : mmk V' M a d = mmk V M a d := by
  unfold mmk
  rw [q.1 M 13 (by omega)]
  refine sm_congr (fun y _ _ => ?_)
  (try dsimp only)
  rw [q.2.2.2 (M + 22) _ (by omega) (by omega), q.1 (M + 18) _ (by omega)]
theorem aR_q (q : qF V V' M) (h : aR V M a) : aR V' M a := ⟨fun c c0 c1 => by
  rw [q.1 M 13 (by omega)] at c1
  rw [q.2.2.2 (M + 22) _ (by omega) (by omega)]; exact h.1 c c0 c1, by rw [mmk_q q]; exact h.2⟩
theorem mtb_q (q : qF V V' M) : mtb V' M = mtb V M := funext (fun c => funext (fun d => q.1 _ _ (by omega)))
theorem isAct_e (ly : lay8 G R M) (h : i32 a) : cpI 2 (bi (fl (fun i => V (M + 21) i) a = 1)) 209 [(4, (M : Int)), (0, a)] G R V := by
  refine c_X8_isAct (t_X8_isAct_0 ly ⟨h, cpI_u (Nat.le_refl _) (in_c (i32_64 h) ⟨by omega, by omega⟩ ⟨by omega, by omega⟩) ⟨bi32 _, fun z => ⟨?_, rfl⟩, fun z => ?_⟩⟩)
  · rw [bi_f (fun q => bi_0.mp z (by have := (fl_1 q).1; omega))]
  · have a0 := bi_n0 z
    have e : fl (fun i => V (M + 21) i) a = V (M + 21) a := if_pos (by omega)
    exact ⟨by omega, fun b01 => ⟨fun y => ⟨by rw [bi_f (by omega)], rfl⟩, fun y => ⟨by rw [bi_t (by omega)], rfl⟩⟩⟩
theorem markOf_r (ly : lay8 G R M) (hM : MI V M) (tg : tbG (V M 13) (mtb V M)) (h : aR V M a) (a0 : 0 ≤ a ∧ a ≤ 7) (d0 : 0 ≤ d ∧ d < V M 13) : cpJ 1 (mmk V M a d) 210 [(4, (M : Int)), (0, a), (0, d)] G R V := by
  have x := markOf_x ly hM a0 d0
  have b := prt_b tg (aR_p h) d d0.1 d0.2
  have b2 := h.2
  (try dsimp only at b)
  have e : jw (sm (fun y => V (M + 22) (300 * a + y) * V (M + 18) (300 * y + d)) (V M 13).toNat) = mmk V M a d := by
    show jw (mmk V M a d) = mmk V M a d
    exact jw_e ⟨by omega, by omega⟩
  rw [e] at x
  exact x
theorem sizeOf_r (ly : lay8 G R M) (hM : MI V M) (tg : tbG (V M 13) (mtb V M)) (h : aR V M a) (a0 : 0 ≤ a ∧ a ≤ 7) : cpJ 2 (mmk V M a 0) 211 [(4, (M : Int)), (0, a)] G R V := by
  have n := MI_N hM
  exact c_X8_sizeOf (t_X8_sizeOf_0 ly (cpJ_u (by omega) (markOf_r ly hM tg h a0 (by omega)) ⟨rfl, rfl⟩))
theorem rpV_0 {V1 : gV} (q : qF V V1 M) (a0 : 0 ≤ a ∧ a ≤ 7) : rpV V (wr V1 (M + 21) a 1) M a 0 p := by
  refine ⟨qO_wr (qO_F q) (by omega) (by omega) (by omega) (by omega), fun i => ?_, fun i => ?_⟩
  · by_cases y : i = a
    · rw [y, wr_same, if_pos rfl]
    · rw [wr_i y, if_neg y]; exact q.2.2.2 _ _ (by omega) (by omega)
  · rw [wr_a (by omega), if_neg (by omega)]; exact q.2.2.2 _ _ (by omega) (by omega)
theorem rpV_n {x v : Int} (h : rpV V V' M a x p) (x0 : 0 ≤ x) (e : v = p x) : rpV V (wr V' (M + 22) (300 * a + x) v) M a (x + 1) p := by
  refine ⟨qO_wr h.1 (by omega) (by omega) (by omega) (by omega), fun i => by rw [wr_a (by omega)]; exact h.2.1 i, fun i => ?_⟩
  by_cases y : i = 300 * a + x
  · rw [y, wr_same, if_pos (by omega), show 300 * a + x - 300 * a = x by omega]; exact e
  · rw [wr_i y, h.2.2 i]
    by_cases y2 : 300 * a ≤ i ∧ i < 300 * a + x
    · rw [if_pos y2, if_pos (by omega)]
    · rw [if_neg y2, if_neg (by omega)]
theorem becomes_x (ly : lay8 G R M) (hM : MI V M) (a0 : 0 ≤ a ∧ a ≤ 7) (hm : ∀ d, 0 ≤ d → d < V M 13 → V (M + 23) d = mm d) (tg : tbG (V M 13) (mtb V M)) (pg : prtP (V M 13) (mtb V M) mm p) : cwv 3 (fun r V' => ∃ v, r = some (2, v) ∧ (v = mm 0 ∧ rpV V V' M a (V M 13) p)) 212 [(4, (M : Int)), (0, a)] G R V := by
  have n := MI_N hM
  have sp := prt_s tg pg
  have b0 := prt_b tg pg 0 (by omega) (by omega)
  have m0 := pg.2.2
  refine c_X8_becomes (t_X8_becomes_0 ly (cwI_u (by omega) (solves_x ly hM) (fun v V1 h => ⟨by omega, ?_⟩)))
  obtain ⟨q, ck, mk⟩ := h
  have ck' : ckP (V M 13) (mtb V M) mm v (V1 M 32) := ckP_c (fun _ _ _ _ _ _ => rfl) hm ck
  have v2 : v = 2 := by
    rcases ck' with ⟨_, f0, made, s1, s2⟩ | ⟨_, f0, made, s1, s2, _⟩ | ⟨e, _⟩
    · exact (sl_no s1 s2 f0 ⟨by omega, f0.1⟩ sp).elim
    · have e1 := sl_u (by omega) s1 sp _ f0.1 f0.2
      have e2 := pg.1 _ f0.1 f0.2
      omega
    · exact e
  obtain ⟨s1, s2⟩ := mk v2
  have em : ∀ c, 0 ≤ c → c < V M 13 → V1 (M + 24) c = p c := sl_u (by omega) (sl_c (by omega) (fun _ _ _ _ _ _ => rfl) hm s1) sp
  refine loop1 (f := fun x => [some (4, (M : Int)), some (0, a), some (0, x)]) (fun x V' => (0 ≤ x ∧ x ≤ V M 13) ∧ rpV V V' M a x p ∧ ∀ i, V' (M + 24) i = V1 (M + 24) i) (fun x _ => (V M 13 - x).toNat) (fun x V' hx ih => ?_) 0 _ ⟨by omega, rpV_0 q a0, fun i => wr_a (by omega)⟩
  obtain ⟨x0, rp, e24⟩ := hx
  have e13 : V' M 13 = V M 13 := rp.1.1 _ _ (by omega)
  refine t_X8_becomes_14 ly (fun _ => ⟨by omega, fun z => ?_, fun z => ⟨by omega, by omega, by omega, fun _ => ⟨by omega, by omega, ih (x + 1) _ ⟨by omega, rpV_n rp x0.1 (by rw [e24]; exact em x x0.1 (by omega)), fun i => by rw [wr_a (by omega)]; exact e24 i⟩ (by omega)⟩⟩⟩)
  have ex : x = V M 13 := by omega
  rw [ex] at rp
  have m := MI_o rp.1 hM
  have vv : jw (sm (fun y => V' (M + 22) (300 * a + y) * V' (M + 18) (300 * y + 0)) (V' M 13).toNat) = mm 0 := by
    rw [e13, sm_congr (g := fun c => p c * mtb V M c 0) (fun y y0 y1 => by (try dsimp only); rw [rp.2.2, if_pos (by omega), rp.1.1 (M + 18) _ (by omega), show 300 * a + y - 300 * a = y by omega]), ← pg.2.1 0 (by omega) (by omega)]
    exact jw_e ⟨by omega, by omega⟩
  refine cpJ_u (by omega) (c_X8_sizeOf (t_X8_sizeOf_0 ly (cpJ_u (Nat.le_refl _) (markOf_x ly m a0 (by omega)) ⟨rfl, rfl⟩))) ?_
  rw [vv]
  exact endsL_q ly ⟨by omega, by omega⟩ (by omega) (fun V3 q3 => ⟨_, rfl, rfl, rpV_s rp q3⟩)
/-- marks below x are written -/
def mkq (V V' : gV) (M : Nat) (x : Int) (mm : Int → Int) : Prop := qF V V' M ∧ ∀ d, 0 ≤ d → d < x → V' (M + 23) d = mm d
theorem mkq_0 : mkq V V M 0 mm := ⟨qF_refl, fun d d0 d1 => by omega⟩
theorem mkq_s {V2 : gV} {x v : Int} (h : mkq V V' M x mm) (q : qF V' V2 M) (fr : ∀ d, V2 (M + 23) d = V' (M + 23) d) (e : v = mm x) : mkq V (wr V2 (M + 23) x v) M (x + 1) mm := by
  refine ⟨qF_wr (qF_trans h.1 q) (by omega) (by omega) (by omega) (by omega), fun d d0 d1 => ?_⟩
  by_cases y : d = x
  · rw [y, wr_same]; exact e
  · rw [wr_i y, fr]; exact h.2 d d0 (by omega)
theorem becomes_q (ly : lay8 G R M) (hM : MI V M) {x X : Int} {ok : Prop} (h : mkq V V' M x mm) (hx : V M 13 ≤ x) (a0 : 0 ≤ a ∧ a ≤ 7) (tg : tbG (V M 13) (mtb V M)) (pg : prtP (V M 13) (mtb V M) mm p) (eX : mm 0 = X) (yes : ok) {d : Nat} (hd : 3 ≤ d := by omega) : cwv d (fun r V2 => ∃ v, r = some (2, v) ∧ rqM V M a X ok p (some (2, v)) V2) 212 [(4, (M : Int)), (0, a)] G R V' := by
  have e13 : V' M 13 = V M 13 := h.1.1 _ _ (by omega)
  have et := mtb_q h.1
  refine cwJ_u hd (becomes_x ly (MI_q h.1 hM) a0 (mm := mm) (p := p) (fun d d0 d1 => h.2 d d0 (by omega)) (by rw [e13, et]; exact tg) (by rw [e13, et]; exact pg)) (fun v V2 q => ?_)
  rw [e13] at q
  exact ⟨v, rfl, by rw [q.1]; exact eX, fun y => absurd yes y, fun _ => rpV_q h.1 q.2⟩
theorem many_C (ly : lay8 G R M) (hM : MI V M) (h1 : i32 a) (h2 : i32 b) (h3 : i32 k) (tg : tbG (V M 13) (mtb V M)) (hb : fl (fun i => V (M + 21) i) b = 1 → aR V M b) : cwv 4 (rqM V M a (mnX (fl (fun i => V (M + 21) i) b) (mmk V M b 0) a k) (mnO (fl (fun i => V (M + 21) i) b) (mmk V M b 0) a k) (fun c => mpt V M b c * k)) 225 [(4, (M : Int)), (0, a), (0, b), (0, k)] G R V := by
  have n := MI_N hM
  have X1 : ¬ ((0 ≤ a ∧ a < 8) ∧ (0 ≤ k ∧ k ≤ 1000000)) → (-1 : Int) = mnX (fl (fun i => V (M + 21) i) b) (mmk V M b 0) a k := fun z => by unfold mnX; rw [if_pos z]
  refine c_X8_many (t_X8_many_0 ly (cpI_u (by omega) (isNumber_c h1) ⟨bi32 _, fun z => rqM_r ly hM qF_refl (fun y => bi_0.mp z (by have := y.1; omega)) ⟨by omega, by omega⟩ (X1 (by have := bi_0.mp z; omega)), fun z => ⟨h3, cpI_u (by omega) (in_c (i32_64 h3) ⟨by omega, by omega⟩ ⟨by omega, by omega⟩) ⟨bi32 _, fun z2 => cpI_u (by omega) (isAct_e ly h2) ⟨bi32 _, fun z3 => ?_, fun z3 => ?_⟩, fun z2 => rqM_r ly hM qF_refl (fun y => bi_0.mp z2 y.1.2) ⟨by omega, by omega⟩ (X1 (by have := bi_0.mp z2; omega))⟩⟩⟩))
  · have a0 := bi_n0 z
    have k0 := bi_n0 z2
    have f1 := bi_n0 z3
    have b0 := fl_1 f1
    have ab := hb f1
    have bb := prt_b tg (aR_p ab)
    have b2 := ab.2
    have s0 := bb 0 (by omega) (by omega)
    (try dsimp only at s0)
    have X2 : mnX (fl (fun i => V (M + 21) i) b) (mmk V M b 0) a k = if 1000000000000000 < mmk V M b 0 * k then -5 else mmk V M b 0 * k := by unfold mnX; rw [if_neg (fun q => q ⟨by omega, k0⟩), if_neg (fun q => q f1)]
    refine cpJ_u (by omega) (sizeOf_r ly hM tg ab (by omega)) (cpJ_u (by omega) (times_e2 (by omega) (by omega)) ⟨?_, fun z4 => ?_, fun z4 => rqM_r ly hM qF_refl (fun y => ?_) ⟨by omega, by omega⟩ ?_⟩)
    · have := stp_r (x := mmk V M b 0 * k) (Int.mul_nonneg s0.1 k0.1)
      exact ⟨by omega, by omega⟩
    · have le : mmk V M b 0 * k ≤ 1000000000000000 := stp_le.mp (by omega)
      have mb : ∀ d, 0 ≤ d → d < V M 13 → 0 ≤ mmk V M b d * k ∧ mmk V M b d * k ≤ 1000000000000000 := fun d d0 d1 => by
        have q := bb d d0 d1
        (try dsimp only at q)
        have q1 : mmk V M b d * k ≤ mmk V M b 0 * k := Int.mul_le_mul_of_nonneg_right q.2 k0.1
        exact ⟨Int.mul_nonneg q.1 k0.1, by omega⟩
      have pg : prtP (V M 13) (mtb V M) (fun d => mmk V M b d * k) (fun c => mpt V M b c * k) := by
        refine ⟨fun c c0 c1 => Int.mul_nonneg (ab.1 c c0 c1) k0.1, fun d d0 d1 => ?_, le⟩
        show sm (fun y => V (M + 22) (300 * b + y) * V (M + 18) (300 * y + d)) (V M 13).toNat * k = _
        rw [← sm_mc]
        refine sm_congr (fun y _ _ => ?_)
        (try dsimp only)
        rw [Int.mul_assoc, Int.mul_comm (V (M + 18) _) k, ← Int.mul_assoc]
      refine loop1 (f := fun x => [some (4, (M : Int)), some (0, a), some (0, b), some (0, k), some (0, x)]) (fun x V' => (0 ≤ x ∧ x ≤ V M 13) ∧ mkq V V' M x (fun d => mmk V M b d * k)) (fun x _ => (V M 13 - x).toNat) (fun x V' hx ih => ?_) 0 V ⟨by omega, mkq_0⟩
      obtain ⟨x0, mq⟩ := hx
      have e13 : V' M 13 = V M 13 := mq.1.1 _ _ (by omega)
      refine t_X8_many_71 ly (fun _ => ⟨by omega, fun y => becomes_q ly hM mq (by omega) a0 tg pg (by rw [X2, if_neg (by omega)]) ⟨⟨by omega, k0⟩, f1, le⟩, fun y => cpJ_u (by omega) (markOf_r ly (MI_q mq.1 hM) (by rw [e13, mtb_q mq.1]; exact tg) (aR_q mq.1 ab) (by omega) (by omega)) ⟨h3, by omega, by omega, ih (x + 1) _ ⟨by omega, mkq_s mq qF_refl (fun _ => rfl) ?_⟩ (by omega)⟩⟩)
      rw [mmk_q mq.1]
      have := mb x x0.1 (by omega)
      exact jmul_e ⟨by omega, by omega⟩
    · have := y.2.2
      have : 1000000000000000 < mmk V M b 0 * k := stp_lt.mp z4
      omega
    · have : 1000000000000000 < mmk V M b 0 * k := stp_lt.mp z4
      rw [X2, if_pos this]
  · have a0 := bi_n0 z
    have k0 := bi_n0 z2
    have f1 := bi_0.mp z3
    exact rqM_r ly hM qF_refl (fun y => f1 y.2.1) ⟨by omega, by omega⟩ (by unfold mnX; rw [if_neg (fun q => q ⟨by omega, k0⟩), if_pos f1])
theorem both_C (ly : lay8 G R M) (hM : MI V M) {w : Int} (h1 : i32 a) (h2 : i32 b) (h3 : i32 c) (h4 : i32 w) (tg : tbG (V M 13) (mtb V M)) (hb : fl (fun i => V (M + 21) i) b = 1 → aR V M b) (hc : fl (fun i => V (M + 21) i) c = 1 → aR V M c) (pg : boO (fl (fun i => V (M + 21) i) b) (fl (fun i => V (M + 21) i) c) (mmk V M b 0) (mmk V M c 0) a w → prtP (V M 13) (mtb V M) (fun d => boS (mmk V M b d) (mmk V M c d) w) p) : cwv 4 (rqM V M a (boX (fl (fun i => V (M + 21) i) b) (fl (fun i => V (M + 21) i) c) (mmk V M b 0) (mmk V M c 0) a w) (boO (fl (fun i => V (M + 21) i) b) (fl (fun i => V (M + 21) i) c) (mmk V M b 0) (mmk V M c 0) a w) p) 221 [(4, (M : Int)), (0, a), (0, b), (0, c), (0, w)] G R V := by
  have n := MI_N hM
  obtain ⟨fb, efb⟩ : ∃ f, f = fl (fun i => V (M + 21) i) b := ⟨_, rfl⟩
  obtain ⟨fc, efc⟩ : ∃ f, f = fl (fun i => V (M + 21) i) c := ⟨_, rfl⟩
  rw [← efb] at hb pg ⊢
  rw [← efc] at hc pg ⊢
  have X1 : ¬ ((0 ≤ a ∧ a < 8) ∧ (w = 0 ∨ w = 1)) → (-1 : Int) = boX fb fc (mmk V M b 0) (mmk V M c 0) a w := fun z => by unfold boX; rw [if_pos z]
  have X2 : ((0 ≤ a ∧ a < 8) ∧ (w = 0 ∨ w = 1)) → ¬ (fb = 1 ∧ fc = 1) → (-2 : Int) = boX fb fc (mmk V M b 0) (mmk V M c 0) a w := fun z z2 => by unfold boX; rw [if_neg (fun q => q z), if_pos z2]
  refine c_X8_both (t_X8_both_0 ly (cpI_u (by omega) (isNumber_c h1) ⟨bi32 _, fun z => rqM_r ly hM qF_refl (fun y => bi_0.mp z (by have := y.1.1; omega)) ⟨by omega, by omega⟩ (X1 (fun y => bi_0.mp z (by have := y.1; omega))), fun z => ⟨h4, cpI_u (by omega) (in_c (i32_64 h4) ⟨by omega, by omega⟩ ⟨by omega, by omega⟩) ⟨bi32 _, fun z2 => ?_, fun z2 => rqM_r ly hM qF_refl (fun y => bi_0.mp z2 (by have := y.1.2; omega)) ⟨by omega, by omega⟩ (X1 (fun y => bi_0.mp z2 (by have := y.2; omega)))⟩⟩⟩))
  have a0 := bi_n0 z
  have w0 := bi_n0 z2
  have aw : (0 ≤ a ∧ a < 8) ∧ (w = 0 ∨ w = 1) := ⟨by omega, by omega⟩
  refine cpI_u (by omega) (isAct_e ly h2) ⟨bi32 _, fun z3 => ?_, fun z3 => cpI_u (by omega) (isAct_e ly h3) ⟨bi32 _, fun z4 => ?_, fun z4 => ?_⟩⟩
  · rw [← efb] at z3
    have f := bi_0.mp z3
    exact rqM_r ly hM qF_refl (fun y => f y.2.1.1) ⟨by omega, by omega⟩ (X2 aw (fun q => f q.1))
  · rw [← efb] at z3
    rw [← efc] at z4
    have f1 := bi_n0 z3
    have f2 := bi_n0 z4
    have b0 := (fl_1 (efb.symm.trans f1)).1
    have c0 := (fl_1 (efc.symm.trans f2)).1
    have ab := hb f1
    have ac := hc f2
    have bb := prt_b tg (aR_p ab)
    have bc := prt_b tg (aR_p ac)
    (try dsimp only at bb bc)
    have b2 := ab.2
    have c2 := ac.2
    have sb := bb 0 (by omega) (by omega)
    have sc := bc 0 (by omega) (by omega)
    have X3 : boX fb fc (mmk V M b 0) (mmk V M c 0) a w = if 1000000000000000 < boS (mmk V M b 0) (mmk V M c 0) w then -5 else boS (mmk V M b 0) (mmk V M c 0) w := by unfold boX; rw [if_neg (fun q => q aw), if_neg (fun q => q ⟨f1, f2⟩)]
    have no : 1000000000000000 < boS (mmk V M b 0) (mmk V M c 0) w → ¬ boO fb fc (mmk V M b 0) (mmk V M c 0) a w := fun y q => by have := q.2.2; omega
    have main : boS (mmk V M b 0) (mmk V M c 0) w ≤ 1000000000000000 → wpv K_X8_both 3 (rqM V M a (boX fb fc (mmk V M b 0) (mmk V M c 0) a w) (boO fb fc (mmk V M b 0) (mmk V M c 0) a w) p) 104 [some (4, (M : Int)), some (0, a), some (0, b), some (0, c), some (0, w), none, none, some (0, 0)] [] G R V := by
      intro le
      have ok : boO fb fc (mmk V M b 0) (mmk V M c 0) a w := ⟨aw, ⟨f1, f2⟩, le⟩
      have pg' := pg ok
      have pb := prt_b tg pg'
      (try dsimp only at pb)
      refine loop1 (f := fun x => [some (4, (M : Int)), some (0, a), some (0, b), some (0, c), some (0, w), none, none, some (0, x)]) (fun x V' => (0 ≤ x ∧ x ≤ V M 13) ∧ mkq V V' M x (fun d => boS (mmk V M b d) (mmk V M c d) w)) (fun x _ => (V M 13 - x).toNat) (fun x V' hx ih => ?_) 0 V ⟨by omega, mkq_0⟩
      obtain ⟨x0, mq⟩ := hx
      have e13 : V' M 13 = V M 13 := mq.1.1 _ _ (by omega)
      have tg' : tbG (V' M 13) (mtb V' M) := by rw [e13, mtb_q mq.1]; exact tg
      have m' := MI_q mq.1 hM
      refine t_X8_both_104 ly (fun _ => ⟨by omega, fun y => becomes_q ly hM mq (by omega) a0 tg pg' (by rw [X3, if_neg (by omega)]) ok, fun y => ⟨h4, fun y2 => cpJ_u (by omega) (markOf_r ly m' tg' (aR_q mq.1 ab) (by omega) (by omega)) (cpJ_u (by omega) (markOf_r ly m' tg' (aR_q mq.1 ac) (by omega) (by omega)) ⟨by omega, by omega, ih (x + 1) _ ⟨by omega, mkq_s mq qF_refl (fun _ => rfl) ?_⟩ (by omega)⟩), fun y2 => cpJ_u (by omega) (markOf_r ly m' tg' (aR_q mq.1 ab) (by omega) (by omega)) (cpJ_u (by omega) (markOf_r ly m' tg' (aR_q mq.1 ac) (by omega) (by omega)) ⟨by omega, by omega, ih (x + 1) _ ⟨by omega, mkq_s mq qF_refl (fun _ => rfl) ?_⟩ (by omega)⟩)⟩⟩)
      · have q := pb x x0.1 (by omega)
        have e : boS (mmk V M b x) (mmk V M c x) w = mmk V M b x * mmk V M c x := if_neg y2
        (try dsimp only)
        rw [mmk_q mq.1, mmk_q mq.1, e]
        rw [e] at q
        exact jmul_e ⟨by omega, by omega⟩
      · have q := pb x x0.1 (by omega)
        have e : boS (mmk V M b x) (mmk V M c x) w = mmk V M b x + mmk V M c x := if_pos y2
        (try dsimp only)
        rw [mmk_q mq.1, mmk_q mq.1, e]
        rw [e] at q
        exact jadd_e ⟨by omega, by omega⟩
    refine ⟨fun y => cpJ_u (by omega) (sizeOf_r ly hM tg ab (by omega)) (cpJ_u (by omega) (sizeOf_r ly hM tg ac (by omega)) (cpJ_u (by omega) (times_e2 (by omega) (by omega)) ?_)), fun y => cpJ_u (by omega) (sizeOf_r ly hM tg ab (by omega)) (cpJ_u (by omega) (sizeOf_r ly hM tg ac (by omega)) ?_)⟩
    · have e : boS (mmk V M b 0) (mmk V M c 0) w = mmk V M b 0 * mmk V M c 0 := if_neg y
      have r := stp_r (x := mmk V M b 0 * mmk V M c 0) (Int.mul_nonneg sb.1 sc.1)
      refine ⟨⟨by omega, by omega⟩, fun q => main (by rw [e]; exact stp_le.mp (by omega)), fun q => ?_⟩
      have lt : 1000000000000000 < boS (mmk V M b 0) (mmk V M c 0) w := by rw [e]; exact stp_lt.mp q
      exact rqM_r ly hM qF_refl (no lt) ⟨by omega, by omega⟩ (by rw [X3, if_pos lt])
    · have e : boS (mmk V M b 0) (mmk V M c 0) w = mmk V M b 0 + mmk V M c 0 := if_pos y
      rw [jadd_e ⟨by omega, by omega⟩]
      refine ⟨fun q => main (by omega), fun q => ?_⟩
      exact rqM_r ly hM qF_refl (no (by omega)) ⟨by omega, by omega⟩ (by rw [X3, if_pos (by omega)])
  · rw [← efb] at z3
    rw [← efc] at z4
    have f := bi_0.mp z4
    exact rqM_r ly hM qF_refl (fun y => f y.2.1.2) ⟨by omega, by omega⟩ (X2 aw (fun q => f q.2))
/-- only the row of the heap in making is written -/
def cfr (V V' : gV) (M : Nat) : Prop := ∀ a i, ¬ (a = M + 9 ∧ 36000 ≤ i) → V' a i = V a i
theorem cfr_q (h : cfr V V' M) : qF V V' M := ⟨fun a i q => h a i (by omega), fun a i a0 a1 => h a i (by omega), h _ _ (by omega), fun a i a0 a1 => h a i (by omega)⟩
theorem madeBy_rx (ly : lay8 G R M) (hM : MI V M) {t : Int} (t0 : 0 ≤ t ∧ t < V M 5) : cwv 3 (fun r V' => ∃ v, r = some (0, v) ∧ (qF V V' M ∧ (∀ i, V' (M + 23) i = V (M + 23) i) ∧ v = rmb V M t ∧ (0 ≤ v ∧ v < V M 12))) 190 [(4, (M : Int)), (0, t)] G R V := by
  have n := MI_N hM
  have cl : cwv 1 (fun r V' => r = none ∧ (cfr V V' M ∧ ∀ t, 0 ≤ t → t < V M 5 → V' (M + 9) (36000 + t) = 0)) 189 [(4, (M : Int))] G R V := by
    refine c_X8_clears (t_X8_clears_0 ly ?_)
    refine loop1 (f := fun x => [some (4, (M : Int)), some (0, x)]) (fun x V' => 0 ≤ x ∧ x ≤ V M 5 ∧ cfr V V' M ∧ ∀ t, 0 ≤ t → t < x → V' (M + 9) (36000 + t) = 0) (fun x _ => (V M 5 - x).toNat) (fun x V' hx ih => ?_) 0 V ⟨by omega, by omega, fun _ _ _ => rfl, fun t t0 t1 => by omega⟩
    obtain ⟨x0, x1, q, z⟩ := hx
    have e5 : V' M 5 = V M 5 := q _ _ (by omega)
    refine t_X8_clears_2 ly (fun _ => ⟨by omega, fun c => ⟨rfl, q, fun t t0 t1 => z t t0 (by omega)⟩, fun c => ⟨by omega, by omega, by omega, ih (x + 1) _ ⟨by omega, by omega, fun a i y => by rw [wr_ne (by omega)]; exact q a i y, fun t t0 t1 => ?_⟩ (by omega)⟩⟩)
    by_cases y : t = x
    · rw [y, wr_same]
    · rw [wr_i (by omega)]; exact z t t0 (by omega)
  refine c_X8_madeBy (t_X8_madeBy_0 ly (cw0_u (Nat.le_add_right 1 1) cl (fun V1 h => ⟨by omega, by omega, ?_⟩)))
  obtain ⟨q, z⟩ := h
  have q2 : cfr V (wr V1 (M + 9) (36000 + t) 1) M := fun a i y => by rw [wr_ne (by omega)]; exact q a i y
  refine cwI_u (Nat.le_refl _) (least_x ly hM (cfr_q q2) (U := one t) (fun u u0 u1 => ?_)) (fun v V' h => ⟨v, rfl, by rw [h.1]; exact cfr_q q2, fun i => by rw [h.1]; exact q2 _ _ (by omega), the_e (fun v w a b => loP_u a b) h.2, h.2.1⟩)
  by_cases y : u = t
  · rw [y, wr_same]; exact (bi_t rfl).symm
  · rw [wr_i (by omega), z u u0 u1]; exact (bi_f y).symm
theorem rmb_q (q : qF V V' M) (hM : MI V M) {t : Int} : rmb V' M t = rmb V M t := by
  unfold rmb
  rw [q.1 M 5 (by omega), q.1 M 12 (by omega)]
  congr 1
  funext v
  have rq := qF_rows hM q
  exact propext ⟨fun z => loP_c rq (fun _ _ _ => rfl) z, fun z => loP_c (fun k k0 k1 t t0 t1 => (rq k k0 k1 t t0 t1).symm) (fun _ _ _ => rfl) z⟩
theorem sets_r (ly : lay8 G R M) (hM : MI V M) (tg : tbG (V M 13) (mtb V M)) (ha : aR V M a) (a0 : 0 ≤ a ∧ a ≤ 7) (h0 : 0 ≤ h ∧ h < V M 12) : cwv 4 (fun r V' => ∃ v, r = some (2, v) ∧ (qF V V' M ∧ (∀ i, V' (M + 23) i = V (M + 23) i) ∧ v = rdR V M (fun d => mmk V M a d) h)) 223 [(4, (M : Int)), (0, a), (0, h)] G R V := by
  have n := MI_N hM
  have bd := prt_b tg (aR_p ha)
  have b2 := ha.2
  (try dsimp only at bd)
  have sz := MI_sz hM h0
  refine c_X8_sets (t_X8_sets_0 ly ?_)
  refine loop2 (f := fun q i => [some (4, (M : Int)), some (0, a), some (0, h), some (2, q), none, some (0, i)]) (fun q i V' => (0 ≤ i ∧ i ≤ V M 5) ∧ (qF V V' M ∧ ∀ i, V' (M + 23) i = V (M + 23) i) ∧ q = sm (fun t => mHas V M h t * mmk V M a (V (M + 14) (rmb V M t))) i.toNat ∧ (0 ≤ q ∧ q ≤ 1000000000000000 * i)) (fun _ i _ => (V M 5 - i).toNat) (fun q i V' hx ih => ?_) 0 0 V ⟨by omega, ⟨qF_refl, fun _ => rfl⟩, rfl, by omega⟩
  obtain ⟨i0, ⟨qf, f23⟩, eq, qb⟩ := hx
  have e5 : V' M 5 = V M 5 := qf.1 _ _ (by omega)
  have e10 : V' (M + 10) h = V (M + 10) h := qf.1 _ _ (by omega)
  refine t_X8_sets_5 ly (fun _ => ⟨by omega, fun z => ⟨by omega, fun _ => ⟨by omega, _, rfl, qf, f23, ?_⟩⟩, fun z => ⟨by omega, by omega, by omega, fun b01 => ?_⟩⟩)
  · rw [e10, jdiv_e ⟨by omega, by omega⟩ ⟨by omega, by omega⟩ qb.1 (by omega), eq, show i = V M 5 by omega]
    rfl
  · have m' := MI_q qf hM
    have eh : V' (M + 9) (120 * h + i) = mHas V M h i := qf.1 _ _ (by omega)
    have s1 := sm_s (fun t => mHas V M h t * mmk V M a (V (M + 14) (rmb V M t))) (x := i) i0.1
    (try dsimp only at s1)
    rw [eh]
    refine ⟨fun y => ⟨by omega, ih _ _ _ ⟨by omega, ⟨qf, f23⟩, ?_, by omega⟩ (by omega)⟩, fun y => cwI_u (by omega) (madeBy_rx ly m' (by omega)) (fun v V2 hv => ?_)⟩
    · rw [s1, eq, y, Int.zero_mul, Int.add_zero]
    · obtain ⟨q2, g23, ev, v0⟩ := hv
      have e12 : V' M 12 = V M 12 := qf.1 _ _ (by omega)
      rw [rmb_q qf hM] at ev
      have q3 := qF_trans qf q2
      have m2 := MI_q q3 hM
      have e14 : V2 (M + 14) v = V (M + 14) v := q3.1 _ _ (by omega)
      have e13 : V2 M 13 = V M 13 := q3.1 _ _ (by omega)
      have co := MI_co hM (k := v) (by omega)
      have bv := bd _ co.1 co.2
      have hb : mHas V M h i = 1 := by
        have b01' : V' (M + 9) (120 * h + i) = 0 ∨ V' (M + 9) (120 * h + i) = 1 := b01
        rw [eh] at b01'
        omega
      refine ⟨by omega, fun _ => ?_⟩
      rw [e14]
      refine cpJ_u (by omega) (markOf_r ly m2 (by rw [e13, mtb_q q3]; exact tg) (aR_q q3 ha) a0 (by omega)) ⟨by omega, ih _ _ _ ⟨by omega, ⟨q3, fun i => (g23 i).trans (f23 i)⟩, ?_, ?_⟩ (by omega)⟩
      · rw [mmk_q q3, jadd_e ⟨by omega, by omega⟩, s1, eq, hb, Int.one_mul, ev]
      · rw [mmk_q q3, jadd_e ⟨by omega, by omega⟩]; omega
end
