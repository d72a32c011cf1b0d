/-! coset: one part of one class -/
def csX (dd : gD) (a c : Int) : Int := if 0 ≤ a ∧ a < 8 then (if 0 ≤ c ∧ c < dd 0 3 then tbD dd c 0 else -2) else -1
def rcsX (V : gV) (M : Nat) (a c : Int) : Int := if 0 ≤ a ∧ a < 8 then (if 0 ≤ c ∧ c < V M 13 then V (M + 18) (300 * c + 0) else -2) else -1
def csO (dd : gD) (a c : Int) : Prop := (0 ≤ a ∧ a < 8) ∧ (0 ≤ c ∧ c < dd 0 3)
/-- the maker's marks and parts; nothing else is written -/
def mkrP (V V' : gV) (k : Nat) (K : Int) (mk pt : Int → Int) : Prop := (∀ c i, ¬ (k + 1 ≤ c ∧ c ≤ k + 3) → V' c i = V c i) ∧ (∀ d, 0 ≤ d → d < K → V' (k + 1) d = mk d) ∧ ∀ d, 0 ≤ d → d < K → V' (k + 2) d = pt d
section
variable {G : List gS} {R V V' : gV} {T : gT} {B M g k p n o m b S N : Nat} {C D E : Int} {dd : gD} {ow : Nat → Nat} {us : Nat → Prop} {w : Nat → Nat} {W : gV} {L : Int → Int} {I : Int → gD}
theorem tbD_r (h : hT G R T (g + 10) o m E) (lk : lkT T R g dd) (th : TH T V) (a c : Int) : 0 ≤ tbD dd a c ∧ tbD dd a c ≤ 10800000 := by
  have e3 := lk_3 lk th
  have s := (h.a.sp _ _).mp (th (g + 10 + 10) a)
  have ov := (h.ov _ _).mp (th o (c * V (g + 10) 1 + a))
  rw [lk_o lk th h.ro, e3] at ov
  rw [show V (g + 10 + 10) a = dd 210 a from lk_j lk th 10 (by omega) (by omega) (by omega) a] at s
  have z0 : 0 ≤ tbD dd a c := Int.mul_nonneg s.1 ov.1
  have z1 : tbD dd a c ≤ 120 * 90000 := Int.mul_le_mul s.2 ov.2 ov.1 (by omega)
  omega
theorem TH_k (w : kT G R T k) (th : TH T V) (fr : ∀ c i, ¬ (k + 1 ≤ c ∧ c ≤ k + 3) → V' c i = V c i) : TH T V' := by
  intro c i
  by_cases q : k + 1 ≤ c ∧ c ≤ k + 3
  · have : c = k + 1 ∨ c = k + 2 ∨ c = k + 3 := by omega
    rcases this with y | y | y
    · rw [y]; exact w.ma _ _
    · rw [y]; exact w.pa _ _
    · rw [y]; exact w.se _ _
  · rw [fr c i q]; exact th c i
theorem takeCoset_x (w : kT G R T k) (h : hT G R T (g + 10) o m E) (lk : lkT T R g dd) (th : TH T V) {a : Int} (ha : 0 ≤ a ∧ a < dd 0 3) : cwv 3 (fun r V' => r = none ∧ mkrP V V' k (dd 0 3) (fun d => tbD dd a d) (fun d => bi (a = d))) 1 [(4, (k : Int)), (4, ((g + 10 : Nat) : Int)), (0, a)] G R V := by
  have c0 := h.a.cl _ (th (g + 10) 1)
  have e3 := lk_3 lk th
  refine c_X0_takeCoset (t_X0_takeCoset_0 w.ly h.a.ly ?_)
  refine loop1 (f := fun i => [some (4, (k : Int)), some (4, ((g + 10 : Nat) : Int)), some (0, a), some (0, i)]) (Inv := fun i V' => (0 ≤ i ∧ i ≤ dd 0 3) ∧ mkrP V V' k i (fun d => tbD dd a d) (fun d => bi (a = d))) (μ := fun i _ => (300 - i).toNat) (fun i V1 hi ih => ?_) 0 V ⟨by omega, fun _ _ _ => rfl, fun d d0 d1 => by omega, fun d d0 d1 => by omega⟩
  obtain ⟨i0, fr, m1, m2⟩ := hi
  have th1 := TH_k w th fr
  have e31 := lk_3 lk th1
  have go : ∀ x, x = bi (a = i) → i < dd 0 3 → cwv 2 (fun r V6 => ∃ v7 : Int, r = some (0, v7) ∧ ((i32 v7) ∧ ((i32 (i + 1)) ∧ wpv K_X0_takeCoset 2 (fun r V' => r = none ∧ mkrP V V' k (dd 0 3) (fun d => tbD dd a d) (fun d => bi (a = d))) 2 [some (4, (k : Int)), some (4, ((g + 10 : Nat) : Int)), some (0, a), some (0, (i + 1))] [] G R (wr V6 (k + 1) i v7)))) 71 [(4, ((g + 10 : Nat) : Int)), (0, a), (0, i)] G R (wr V1 (k + 2) i x) := fun x ex z => by
    have t2 : TH T (wr V1 (k + 2) i x) := TH_wr th1 (w.pa _ _)
    have r := tbD_r h lk th1 a i
    refine cpI_u (by omega) (mk_d h lk t2 ha (by omega)) ⟨⟨by omega, by omega⟩, by omega, ih _ _ ⟨by omega, fun c j y => ?_, fun d d0 d1 => ?_, fun d d0 d1 => ?_⟩ (by omega)⟩
    · rw [wr_a (by omega), wr_a (by omega)]; exact fr c j y
    · by_cases y : d = i
      · rw [y, wr_same]
      · rw [wr_i y, wr_a (by omega)]; exact m1 d d0 (by omega)
    · rw [wr_a (by omega)]
      by_cases y : d = i
      · rw [y, wr_same]; exact ex
      · rw [wr_i y]; exact m2 d d0 (by omega)
  refine t_X0_takeCoset_2 w.ly h.a.ly (fun _ => ⟨by omega, fun z => ⟨rfl, fr, fun d d0 d1 => m1 d d0 (by omega), fun d d0 d1 => m2 d d0 (by omega)⟩, fun z => ⟨by omega, fun y => ⟨by omega, go 0 (bi_f (fun q => y q.symm)).symm (by omega)⟩, fun y => ⟨by omega, go 1 (bi_t y.symm).symm (by omega)⟩⟩⟩)
theorem keepMade_K (c : cI G R V B M S T ow us w W L I) (hN : G.length ≤ N) (k5 : I 23 5 0 = I 3 0 3) (K1 : 1 ≤ I 3 0 3) {a : Int} (ha : 0 ≤ a ∧ a < 8) {mk pt : Int → Int} (e1 : ∀ d, 0 ≤ d → d < I 3 0 3 → V (B + 15 + 1) d = mk d) (e2 : ∀ d, 0 ≤ d → d < I 3 0 3 → V (B + 15 + 2) d = pt d) : cwv 3 (fun r V' => ∃ v : Int, r = some (2, v) ∧ (v = mk 0 ∧ CI G R V' B M S N W L (kpJ I a mk pt))) 143 [(4, (B : Int)), (0, a)] G R V := by
  have lB := cC_lt c.c
  obtain ⟨g, p, n, C, D, o, m, E, u, lk, hg⟩ := cI_cTg (T' := rlB T (B + 52)) c (fun c' z1 _ => rlB_n (by omega)) (rlB_bT c.be.1.1) (fun v => by rw [rlB_n (by omega)]; exact c.c.re v)
  have thr := rlB_th c.be.1.1 c.th
  have e3 : V (g + 10) 1 = I 3 0 3 := lk_3 lk thr
  have cl := u.u.g.h.a.cl _ (thr (g + 10) 1)
  have v3 : V (B + 52) 3 = I 23 0 0 := c.kr.1 _ (c.th _ _)
  have rl := (c.be.1.1.rl _).mp (c.th (B + 52) 3)
  refine c_X7_keepMade (t_X7_keepMade_0 u.ly ⟨B + 52, ⟨u.rb, u.u.b.ly⟩, cw0_u (by omega) (keep_x u.u u.k rlB_bW thr ha hg e3) (fun V2 h2 => ?_)⟩)
  obtain ⟨th2, kv, fr⟩ := h2
  have t3 : TH (rlB T (B + 52)) (wr V2 B 7 0) := TH_wr th2 (u.re _)
  have kv2 : kpV V (wr V2 B 7 0) (B + 52) a (I 3 0 3) mk pt := kpV_c e1 e2 (kpV_v (fun c i y => wr_a (by omega)) kv)
  have fr2 : ∀ c i, c ≠ B + 52 + 1 → c ≠ B + 52 + 3 → c ≠ B + 52 + 4 → c ≠ B → wr V2 B 7 0 c i = V c i := fun c i y1 y2 y3 y4 => by rw [wr_a y4]; exact fr c i y1 y2 y3
  refine cwv_mono (show 2 ≤ 2 by omega) (c_X1_placesOf (t_X1_placesOf_0 u.u.b.ly (c_X1_markOf (t_X1_markOf_0 u.u.b.ly ⟨by omega, by omega, by omega, fun _ => ⟨_, rfl, _, rfl, _, rfl, ?_, ?_⟩⟩)))) (fun r V' q => q)
  · rw [kv2.2.1, if_pos (by omega), show a * 300 + 0 - 300 * a = 0 by omega]
  · refine ⟨pnB T (B + 52) (kp (I 23) a mk pt), ow, us, w, ?_, hN⟩
    have k0 : ∀ i, kp (I 23) a mk pt 0 i = I 23 0 i := fun i => kp_o (by omega) (by omega) (by omega)
    have k1 : ∀ i, kp (I 23) a mk pt 1 i = I 23 1 i := fun i => kp_o (by omega) (by omega) (by omega)
    refine cI_rows (I' := kpJ I a mk pt) (e := kp (I 23) a mk pt) c (Or.inl rfl) (by rw [k0]; omega) t3 (by rw [k0, fr2 _ _ (by omega) (by omega) (by omega) (by omega)]; exact v3) (fun i i0 i1 => ?_) (kp_av (K := I 3 0 3) (by omega) k5 (acT_v c.kr.2.2 c.th) kv2) (fun j hj => if_neg (by omega)) (fun _ => if_pos rfl) (fun y => absurd rfl y) (fun k' hk' y => absurd rfl (c.iy k' _ hk' y)) (fun k' hk' _ => if_neg (by omega))
    rw [k0] at i1
    rw [k1, fr2 _ _ (by omega) (by omega) (by omega) (by omega)]
    exact c.kr.2.1 i _ i0 i1 (c.th _ _)
/-- calls that make an act -/
abbrev qM (B M S N : Nat) (W : gV) (L : Int → Int) (I I' : Int → gD) (X : Int) (ok : Prop) (G : List gS) (R : gV) : gP := fun r V' => r = some (2, X) ∧ (¬ ok → CI G R V' B M S N W L I) ∧ (ok → CI G R V' B M S N W L I')
theorem qM_r {I' : Int → gD} {ok : Prop} {X a : Int} (c : cI G R V B M S T ow us w W L I) (hN : G.length ≤ N) (no : ¬ ok) (ha : i32 a) (e : a = X) {d : Nat} (hd : 1 ≤ d := by omega) : cwv d (fun r V' => ∃ v : Int, r = some (0, v) ∧ (i32 v ∧ qM B M S N W L I I' X ok G R (some (2, v)) V')) 138 [(4, (B : Int)), (0, a)] G R V :=
  cwv_mono hd (refuse_k c.c.ly c.c.re c.th ha) (fun r V' q => by obtain ⟨v, q1, q2, q3⟩ := q; exact ⟨v, q1, by rw [q2]; exact ha, by rw [q2, e], fun _ => ⟨T, ow, us, w, cI_v c q3, hN⟩, fun y => absurd y no⟩)
theorem qM_k {ok : Prop} {X a : Int} {mk pt : Int → Int} (c : cI G R V B M S T ow us w W L I) (hN : G.length ≤ N) (k5 : I 23 5 0 = I 3 0 3) (K1 : 1 ≤ I 3 0 3) (ha : 0 ≤ a ∧ a < 8) (yes : ok) (eX : mk 0 = X) {V1 : gV} (mp : mkrP V V1 (B + 15) (I 3 0 3) mk pt) {d : Nat} (hd : 3 ≤ d := by omega) : cwv d (fun r V' => ∃ v : Int, r = some (2, v) ∧ qM B M S N W L I (kpJ I a mk pt) X ok G R (some (2, v)) V') 143 [(4, (B : Int)), (0, a)] G R V1 :=
  cwv_mono hd (keepMade_K (cI_v c (TH_k c.c.mk' c.th mp.1)) hN k5 K1 ha mp.2.1 mp.2.2) (fun r V' q => by obtain ⟨v, q1, q2, q3⟩ := q; exact ⟨v, q1, by rw [q2, eX], fun y => absurd yes y, fun _ => q3⟩)
theorem cwv_cw {d : Nat} {y : Nat} {as : List zV} {P : List gS → gV → gP} (h : cwv d (P G R) y as G R V) : cw d (fun r G' R' V' => P G' R' r V') y as G R V := cw_mono (Nat.le_refl _) h (fun r G' R' V' q => by obtain ⟨e1, e2, q⟩ := q; rw [e1, e2]; exact q)
theorem coset_K (h : CI G R V B M S N W L I) (k5 : I 23 5 0 = I 3 0 3) (K1 : 1 ≤ I 3 0 3) {a c : Int} (ha : i32 a) (hc : i32 c) : cw 8 (fun r G' R' V' => qM B M S N W L I (kpJ I a (fun d => tbD (I 3) c d) (fun d => bi (c = d))) (csX (I 3) a c) (csO (I 3) a c) G' R' r V') 119 [(4, (B : Int)), (0, a), (0, c)] G R V := by
  obtain ⟨T, ow, us, w, c0, hN⟩ := h
  obtain ⟨g, p, n, C, D, o, m, E, u, lk⟩ := cI_cTl c0
  have e3 : V (g + 10) 1 = I 3 0 3 := lk_3 lk c0.th
  refine cwv_cw (P := fun G R => qM B M S N W L I (kpJ I a (fun d => tbD (I 3) c d) (fun d => bi (c = d))) (csX (I 3) a c) (csO (I 3) a c) G R) ?_
  refine c_X7_coset (t_X7_coset_0 u.ly (bI_u (isActNumber_c ha) ⟨bi32 _, fun h => ⟨B + 52, ⟨u.rb, u.u.b.ly⟩, g, ⟨u.u.rg, u.u.g.ly⟩, bI_u (isClass_k u.u.g.h.a.ly hc) ⟨bi32 _, fun h2 => ?_, fun h2 => ?_⟩⟩, fun h => qM_r c0 hN (fun q => bi_0.mp h q.1) (by omega) (by unfold csX; rw [if_neg (bi_0.mp h)])⟩))
  · have hb := bi_nz h
    have hb2 := bi_nz h2
    rw [e3] at hb2
    exact cwv_mono (show 3 ≤ 7 by omega) (takeCoset_x u.k u.u.g.h lk c0.th hb2) (fun r V1 h1 => ⟨h1.1, qM_k c0 hN k5 K1 hb ⟨hb, hb2⟩ (by unfold csX; rw [if_pos hb, if_pos hb2]) h1.2⟩)
  · have hb := bi_nz h
    have hb2 := bi_0.mp h2
    rw [e3] at hb2
    exact qM_r c0 hN (fun q => hb2 q.2) (by omega) (by unfold csX; rw [if_pos hb, if_neg hb2])
theorem cs_eq (hM : MI V M) (h : dQ dd V M) (a c : Int) : csX dd a c = rcsX V M a c := by
  obtain ⟨CC, _, _, _⟩ := gp_eq hM h
  have n := MI_N hM
  unfold csX rcsX tbD
  rw [CC]
  by_cases q : 0 ≤ c ∧ c < V M 13
  · rw [if_pos q, if_pos q, tb_eq hM h q (by omega)]
  · rw [if_neg q, if_neg q]
theorem markOf_x (ly : lay8 G R M) (hM : MI V M) {a e : Int} (a0 : 0 ≤ a ∧ a ≤ 7) (e0 : 0 ≤ e ∧ e < V M 13) : cpJ 1 (jw (sm (fun y => V (M + 22) (300 * a + y) * V (M + 18) (300 * y + e)) (V M 13).toNat)) 210 [(4, (M : Int)), (0, a), (0, e)] G R V := by
  have n := MI_N hM
  refine c_X8_markOf (t_X8_markOf_0 ly ?_)
  refine pool2 (f := fun x y => [some (4, (M : Int)), some (0, a), some (0, e), some (2, x), none, some (0, y)]) (fun x y => (0 ≤ y ∧ y ≤ V M 13) ∧ x = jw (sm (fun y => V (M + 22) (300 * a + y) * V (M + 18) (300 * y + e)) y.toNat)) (fun _ y => (V M 13 - y).toNat) (fun x y hx ih => ?_) 0 0 ⟨by omega, (jw_e ⟨by show (-9223372036854775808 : Int) ≤ 0; omega, by show (0 : Int) ≤ 9223372036854775807; omega⟩).symm⟩
  obtain ⟨y0, ex⟩ := hx
  refine t_X8_markOf_5 ly (fun _ => ⟨by omega, fun z => ⟨by rw [ex, show y = V M 13 by omega], rfl⟩, fun c => ⟨by omega, by omega, by omega, fun _ => ⟨by omega, by omega, by omega, fun _ => ⟨by omega, ih _ _ ⟨by omega, ?_⟩ (by omega)⟩⟩⟩⟩)
  rw [ex, jmul_w, jadd_j, sm_s _ y0.1]
/-- the reference puts an act in -/
abbrev rqM (V : gV) (M : Nat) (a : Int) (X : Int) (ok : Prop) (p : Int → Int) : gP := fun r V' => ∃ v, r = some (2, v) ∧ (v = X ∧ (¬ ok → mQ V V' M) ∧ (ok → rpV V V' M a (V M 13) p))
theorem rqM_r {V0 : gV} {a X c : Int} {ok : Prop} {q : Int → Int} (ly : lay8 G R M) (hM : MI V M) (q0 : qF V V0 M) (no : ¬ ok) (hc : i64 c) (e : c = X) {d : Nat} (hd : 1 ≤ d := by omega) : cwv d (fun r V' => ∃ v : Int, r = some (2, v) ∧ rqM V M a X ok q (some (2, v)) V') 161 [(4, (M : Int)), (2, c)] G R V0 := endsL_q ly hc hd (fun V' q2 => ⟨_, rfl, e, fun _ => mQ_q hM (qF_trans q0 q2), fun y => absurd y no⟩)
theorem coset_C (ly : lay8 G R M) (hM : MI V M) {a c : Int} (h1 : i32 a) (h2 : i32 c) : cwv 3 (rqM V M a (rcsX V M a c) ((0 ≤ a ∧ a < 8) ∧ (0 ≤ c ∧ c < V M 13)) (fun d => bi (c = d))) 214 [(4, (M : Int)), (0, a), (0, c)] G R V := by
  have n := MI_N hM
  refine c_X8_coset (t_X8_coset_0 ly (cpI_u (by omega) (isNumber_c h1) ⟨bi32 _, fun z => cpI_u (by omega) (isClass_c ly hM h2) ⟨bi32 _, fun z2 => ?_, fun z2 => rqM_r ly hM qF_refl (fun y => bi_0.mp z2 (by omega)) ⟨by omega, by omega⟩ ?_⟩, fun z => rqM_r ly hM qF_refl (fun y => bi_0.mp z (by omega)) ⟨by omega, by omega⟩ ?_⟩))
  · have a0 := bi_n0 z
    have c0 := bi_n0 z2
    have X : rcsX V M a c = V (M + 18) (300 * c + 0) := by unfold rcsX; rw [if_pos (by omega), if_pos (by omega)]
    refine ⟨by omega, ?_⟩
    refine loop1 (f := fun x => [some (4, (M : Int)), some (0, a), some (0, c), some (0, x)]) (fun x V' => (0 ≤ x ∧ x ≤ V M 13) ∧ rpV V V' M a x (fun d => bi (c = d))) (fun x _ => (V M 13 - x).toNat) (fun x V' hx ih => ?_) 0 _ ⟨by omega, qO_wr (qO_F qF_refl) (by omega) (by omega) (by omega) (by omega), fun i => ?_, fun i => ?_⟩
    rotate_left
    · by_cases y : i = a
      · rw [y, wr_same, if_pos rfl]
      · rw [wr_i y, if_neg y]
    · rw [wr_a (by omega), if_neg (by omega)]
    obtain ⟨x0, q, q1, q2⟩ := hx
    have e13 : V' M 13 = V M 13 := q.1 _ _ (by omega)
    have nx : ∀ v, v = bi (c = x) → x < V M 13 → rpV V (wr V' (M + 22) (300 * a + x) v) M a (x + 1) (fun d => bi (c = d)) := fun v ev xl => by
      refine ⟨qO_wr q (by omega) (by omega) (by omega) (by omega), fun i => by rw [wr_a (by omega)]; exact q1 i, fun i => ?_⟩
      by_cases y : i = 300 * a + x
      · rw [y, wr_same, if_pos (by omega), show 300 * a + x - 300 * a = x by omega]; exact ev
      · rw [wr_i y, q2 i]
        by_cases y2 : 300 * a ≤ i ∧ i < 300 * a + x
        · rw [if_pos y2, if_pos (by omega)]
        · rw [if_neg y2, if_neg (by omega)]
    refine t_X8_coset_40 ly (fun _ => ⟨by omega, fun zx => ?_, fun zx => ⟨by omega, by omega, h2, fun y => ⟨by omega, by omega, ih (x + 1) _ ⟨by omega, nx 0 (bi_f (fun r => y r.symm)).symm (by omega)⟩ (by omega)⟩, fun y => ⟨by omega, by omega, ih (x + 1) _ ⟨by omega, nx 1 (bi_t y.symm).symm (by omega)⟩ (by omega)⟩⟩⟩)
    have ex : x = V M 13 := by omega
    rw [ex] at q2
    have m := MI_o q hM
    have vv : jw (sm (fun y => V' (M + 22) (300 * a + y) * V' (M + 18) (300 * y + 0)) (V' M 13).toNat) = rcsX V M a c := by
      have tb := MI_tb hM (c := c) (e := 0) (by omega) (by omega)
      rw [X, e13, sm_congr (g := fun d => bi (c = d) * V (M + 18) (300 * d + 0)) (fun d d0 d1 => by (try dsimp only); rw [q2, if_pos (by omega), q.1 (M + 18) _ (by omega), show 300 * a + d - 300 * a = d by omega]), sm_dl (by omega) (by omega)]
      exact jw_e ⟨by omega, by omega⟩
    refine cpJ_u (by omega) (c_X8_sizeOf (t_X8_sizeOf_0 ly (cpJ_u (Nat.le_refl _) (markOf_x ly m a0 (by omega)) ⟨rfl, rfl⟩))) ?_
    rw [vv]
    have tb := MI_tb hM (c := c) (e := 0) (by omega) (by omega)
    exact endsL_q ly (by rw [X]; exact ⟨by omega, by omega⟩) (by omega) (fun V3 q3 => ⟨_, rfl, rfl, fun y => absurd ⟨by omega, by omega⟩ y, fun _ => rpV_s ⟨q, q1, q2⟩ q3⟩)
  · have a0 := bi_n0 z
    have c0 := bi_0.mp z2
    unfold rcsX
    rw [if_pos (by omega), if_neg (by omega)]
  · have a0 := bi_0.mp z
    unfold rcsX
    rw [if_neg (by omega)]
end
