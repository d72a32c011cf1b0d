/-! coset: one part of one class -/
def csX (dd : gD) (a c : Int) : Int := if 0 ≤ a ∧ a < 8 then (if 0 ≤ c ∧ c < dd 0 3 then tbD dd c 0 else -2) else -1
def rcsX (V : gV) (M : Nat) (a c : Int) : Int := if 0 ≤ a ∧ a < 8 then (if 0 ≤ c ∧ c < V M 13 then V (M + 18) (300 * c + 0) else -2) else -1
section
variable {G : List gS} {R V : gV} {T : gT} {B M g k p n o m : Nat} {C D E : Int} {dd : gD}
theorem tbD_r (h : hT G R T (g + 10) o m E) (lk : lkT T R g dd) (th : TH T V) (a c : Int) : 0 ≤ tbD dd a c ∧ tbD dd a c ≤ 10800000 := by
  have e3 := lk_3 lk th
  have s := (h.a.sp _ _).mp (th (g + 10 + 10) a)
  have ov := (h.ov _ _).mp (th o (c * V (g + 10) 1 + a))
  rw [lk_o lk th h.ro, e3] at ov
  rw [show V (g + 10 + 10) a = dd 210 a from lk_j lk th 10 (by omega) (by omega) (by omega) a] at s
  have z0 : 0 ≤ tbD dd a c := Int.mul_nonneg s.1 ov.1
  have z1 : tbD dd a c ≤ 120 * 90000 := Int.mul_le_mul s.2 ov.2 ov.1 (by omega)
  omega
theorem takeCoset_x (w : kT G R T k) (h : hT G R T (g + 10) o m E) (lk : lkT T R g dd) (th : TH T V) {a : Int} (ha : 0 ≤ a ∧ a < dd 0 3) : cwv 3 (fun r V' => r = none ∧ (TH T V' ∧ V' (k + 1) 0 = tbD dd a 0)) 1 [(4, (k : Int)), (4, ((g + 10 : Nat) : Int)), (0, a)] G R V := by
  have c0 := h.a.cl _ (th (g + 10) 1)
  have e3 := lk_3 lk th
  refine c_X0_takeCoset (t_X0_takeCoset_0 w.ly h.a.ly ?_)
  refine loop1 (f := fun i => [some (4, (k : Int)), some (4, ((g + 10 : Nat) : Int)), some (0, a), some (0, i)]) (Inv := fun i V' => TH T V' ∧ (0 ≤ i ∧ i ≤ dd 0 3) ∧ (0 < i → V' (k + 1) 0 = tbD dd a 0)) (μ := fun i _ => (300 - i).toNat) (fun i V1 hi ih => ?_) 0 V ⟨th, by omega, fun q => by omega⟩
  obtain ⟨th1, i0, v0⟩ := hi
  have e31 := lk_3 lk th1
  have go : ∀ x, i < dd 0 3 → cwv 2 (fun r V6 => ∃ v7 : Int, r = some (0, v7) ∧ ((i32 v7) ∧ ((i32 (i + 1)) ∧ wpv K_X0_takeCoset 2 (fun r V' => r = none ∧ (TH T V' ∧ V' (k + 1) 0 = tbD dd a 0)) 2 [some (4, (k : Int)), some (4, ((g + 10 : Nat) : Int)), some (0, a), some (0, (i + 1))] [] G R (wr V6 (k + 1) i v7)))) 71 [(4, ((g + 10 : Nat) : Int)), (0, a), (0, i)] G R (wr V1 (k + 2) i x) := fun x z => by
    have t2 : TH T (wr V1 (k + 2) i x) := TH_wr th1 (w.pa _ _)
    have r := tbD_r h lk th1 a i
    refine cpI_u (by omega) (mk_d h lk t2 ha (by omega)) ⟨⟨by omega, by omega⟩, by omega, ih _ _ ⟨TH_wr t2 (w.ma _ _), by omega, fun _ => ?_⟩ (by omega)⟩
    by_cases q : i = 0
    · rw [q, wr_same]
    · rw [wr_i (by omega), wr_a (by omega)]
      exact v0 (by omega)
  refine t_X0_takeCoset_2 w.ly h.a.ly (fun _ => ⟨by omega, fun z => ⟨rfl, th1, v0 (by omega)⟩, fun z => ⟨by omega, fun _ => ⟨by omega, go 0 (by omega)⟩, fun _ => ⟨by omega, go 1 (by omega)⟩⟩⟩)
theorem keep_0 {b : Nat} (u : bG G R T b g p n C D o m E) (w : kT G R T k) (th : TH T V) (hk : k ≠ b) {a : Int} (ha : 0 ≤ a ∧ a < 8) (h1 : 1 ≤ V (g + 10) 1) (gb : g + 10 ≠ b + 1) : cwv 1 (fun r V' => r = none ∧ (TH T V' ∧ V' (b + 3) (a * 300 + 0) = V (k + 1) 0)) 19 [(4, (b : Int)), (0, a), (4, (k : Int))] G R V := by
  have t1 : TH T (wr V (b + 1) a 1) := TH_wr th (u.b.th _ _)
  have c1 := u.g.h.a.cl _ (t1 (g + 10) 1)
  have t2 : TH T (cpy (wr V (b + 1) a 1) (k + 1) 0 (b + 3) (a * 300) ((wr V (b + 1) a 1) (g + 10) 1)) := TH_cpy t1 (u.b.mk')
  have c2 := u.g.h.a.cl _ (t2 (g + 10) 1)
  have e1 : wr V (b + 1) a 1 (g + 10) 1 = V (g + 10) 1 := wr_a gb
  refine c_X1_keep (t_X1_keep_0 u.b.ly w.ly ⟨ha, by omega, g, ⟨u.rg, u.g.ly⟩, fun _ => ⟨by omega, fun _ => ⟨by omega, rfl, TH_cpy t2 u.b.pt, ?_⟩⟩⟩)
  unfold cpy
  rw [if_neg (by omega), if_pos ⟨rfl, by omega, by omega⟩, wr_a (by omega), show 0 + (a * 300 + 0 - a * 300) = 0 by omega]
theorem coset_X (u : cT G R T B (B + 52) g p n C D o m E) (lk : lkT T R g dd) (th : TH T V) {a c : Int} (ha : i32 a) (hc : i32 c) : wJE T 8 (csX dd a c) 119 [(4, (B : Int)), (0, a), (0, c)] G R V := by
  have e3 := lk_3 lk th
  have n1 : ¬ (0 ≤ a ∧ a < 8) → csX dd a c = -1 := fun z => by unfold csX; rw [if_neg z]
  refine c_X7_coset (t_X7_coset_0 u.ly (bI_u (isActNumber_c ha) ⟨bi32 _, fun h => ⟨B + 52, ⟨u.rb, u.u.b.ly⟩, g, ⟨u.u.rg, u.u.g.ly⟩, bI_u (isClass_k u.u.g.h.a.ly hc) ⟨bi32 _, fun h2 => ?_, fun h2 => eI_u (refuse_k u.ly u.re th (by omega)) (fun V' q => ⟨by omega, _, rfl, ?_, q⟩)⟩⟩, fun h => eI_u (refuse_k u.ly u.re th (by omega)) (fun V' q => ⟨by omega, _, rfl, (n1 (bi_0.mp h)).symm, q⟩)⟩))
  · have hb := bi_nz h
    have hb2 := bi_nz h2
    rw [e3] at hb2
    have X : csX dd a c = tbD dd c 0 := by unfold csX; rw [if_pos hb, if_pos hb2]
    have gb : g + 10 ≠ B + 52 + 1 := by
      intro q
      have y1 := ly4_o u.u.g.h.a.ly
      have y2 := (ly1_1 u.u.b.ly).2
      rw [q, y2] at y1
      cases y1
    refine cw0_u (by omega) (takeCoset_x u.k u.u.g.h lk th hb2) (fun V1 h1 => ?_)
    have e31 := lk_3 lk h1.1
    refine cwv_mono (Nat.le_refl 7) (P := fun r V' => ∃ v : Int, r = some (2, v) ∧ (v = csX dd a c ∧ TH T V')) ?_ (fun r V' q => by obtain ⟨v, q1, q2, q3⟩ := q; exact ⟨v, q1, v, rfl, q2, q3⟩)
    refine c_X7_keepMade (t_X7_keepMade_0 u.ly ⟨B + 52, ⟨u.rb, u.u.b.ly⟩, cw0_u (by omega) (keep_0 u.u u.k h1.1 (by omega) hb (by omega) gb) (fun V2 h2 => ?_)⟩)
    have t3 : TH T (wr V2 B 7 0) := TH_wr h2.1 (u.re _)
    refine cwv_mono (show 2 ≤ 6 by omega) (c_X1_placesOf (t_X1_placesOf_0 u.u.b.ly (c_X1_markOf (t_X1_markOf_0 u.u.b.ly ⟨by omega, by omega, by omega, fun _ => ⟨_, rfl, _, rfl, _, rfl, ?_, t3⟩⟩)))) (fun r V' q => q)
    rw [wr_a (by omega), h2.2, h1.2, X]
  · have hb := bi_nz h
    have hb2 := bi_0.mp h2
    rw [e3] at hb2
    unfold csX
    rw [if_pos hb, if_neg hb2]
theorem cs_eq (hM : MI V M) (h : dQ dd V M) (a c : Int) : csX dd a c = rcsX V M a c := by
  obtain ⟨CC, _, _, _⟩ := gp_eq hM h
  have n := MI_N hM
  unfold csX rcsX tbD
  rw [CC]
  by_cases q : 0 ≤ c ∧ c < V M 13
  · rw [if_pos q, if_pos q, tb_eq hM h q (by omega)]
  · rw [if_neg q, if_neg q]
theorem markOf_x (ly : lay8 G R M) (hM : MI V M) {a e : Int} (a0 : 0 ≤ a ∧ a ≤ 7) (e0 : 0 ≤ e ∧ e < V M 13) : cpJ 1 (jw (sm (fun y => V (M + 22) (300 * a + y) * V (M + 18) (300 * y + e)) (V M 13).toNat)) 210 [(4, (M : Int)), (0, a), (0, e)] G R V := by
  have n := MI_N hM
  refine c_X8_markOf (t_X8_markOf_0 ly ?_)
  refine pool2 (f := fun x y => [some (4, (M : Int)), some (0, a), some (0, e), some (2, x), none, some (0, y)]) (fun x y => (0 ≤ y ∧ y ≤ V M 13) ∧ x = jw (sm (fun y => V (M + 22) (300 * a + y) * V (M + 18) (300 * y + e)) y.toNat)) (fun _ y => (V M 13 - y).toNat) (fun x y hx ih => ?_) 0 0 ⟨by omega, (jw_e ⟨by show (-9223372036854775808 : Int) ≤ 0; omega, by show (0 : Int) ≤ 9223372036854775807; omega⟩).symm⟩
  obtain ⟨y0, ex⟩ := hx
  refine t_X8_markOf_5 ly (fun _ => ⟨by omega, fun z => ⟨by rw [ex, show y = V M 13 by omega], rfl⟩, fun c => ⟨by omega, by omega, by omega, fun _ => ⟨by omega, by omega, by omega, fun _ => ⟨by omega, ih _ _ ⟨by omega, ?_⟩ (by omega)⟩⟩⟩⟩)
  rw [ex, jmul_w, jadd_j, sm_s _ y0.1]
theorem coset_C (ly : lay8 G R M) (hM : MI V M) {a c : Int} (h1 : i32 a) (h2 : i32 c) : cwv 3 (fun r V' => ∃ v, r = some (2, v) ∧ (v = rcsX V M a c ∧ mQ V V' M)) 214 [(4, (M : Int)), (0, a), (0, c)] G R V := by
  have n := MI_N hM
  have no : ¬ (0 ≤ a ∧ a < 8) → rcsX V M a c = -1 := fun z => by unfold rcsX; rw [if_neg z]
  refine c_X8_coset (t_X8_coset_0 ly (cpI_u (by omega) (isNumber_c h1) ⟨bi32 _, fun z => cpI_u (by omega) (isClass_c ly hM h2) ⟨bi32 _, fun z2 => ?_, fun z2 => endsL_q ly ⟨by omega, by omega⟩ (by omega) (fun V' q => ⟨_, rfl, ?_, mQ_q hM q⟩)⟩, fun z => endsL_q ly ⟨by omega, by omega⟩ (by omega) (fun V' q => ⟨_, rfl, (no (by have := bi_0.mp z; omega)).symm, mQ_q hM q⟩)⟩))
  · have a0 := bi_n0 z
    have c0 := bi_n0 z2
    have X : rcsX V M a c = V (M + 18) (300 * c + 0) := by unfold rcsX; rw [if_pos (by omega), if_pos (by omega)]
    refine ⟨by omega, ?_⟩
    refine loop1 (f := fun x => [some (4, (M : Int)), some (0, a), some (0, c), some (0, x)]) (fun x V' => (0 ≤ x ∧ x ≤ V M 13) ∧ qF V V' M ∧ ∀ d, 0 ≤ d → d < x → V' (M + 22) (300 * a + d) = bi (c = d)) (fun x _ => (V M 13 - x).toNat) (fun x V' hx ih => ?_) 0 _ ⟨by omega, qF_wr qF_refl (by omega) (by omega) (by omega) (by omega), fun d d0 d1 => by omega⟩
    obtain ⟨x0, q, cp⟩ := hx
    have e13 : V' M 13 = V M 13 := q.1 _ _ (by omega)
    have nx : ∀ v, v = bi (c = x) → ∀ d, 0 ≤ d → d < x + 1 → wr V' (M + 22) (300 * a + x) v (M + 22) (300 * a + d) = bi (c = d) := fun v ev d d0 d1 => by
      by_cases y : d = x
      · rw [y, wr_same, ev]
      · rw [wr_i (by omega)]; exact cp d d0 (by omega)
    refine t_X8_coset_40 ly (fun _ => ⟨by omega, fun zx => ?_, fun zx => ⟨by omega, by omega, h2, fun y => ⟨by omega, by omega, ih (x + 1) _ ⟨by omega, qF_wr q (by omega) (by omega) (by omega) (by omega), nx 0 (bi_f (fun r => y r.symm)).symm⟩ (by omega)⟩, fun y => ⟨by omega, by omega, ih (x + 1) _ ⟨by omega, qF_wr q (by omega) (by omega) (by omega) (by omega), nx 1 (bi_t y.symm).symm⟩ (by omega)⟩⟩⟩)
    have m := MI_q q hM
    have vv : jw (sm (fun y => V' (M + 22) (300 * a + y) * V' (M + 18) (300 * y + 0)) (V' M 13).toNat) = rcsX V M a c := by
      have tb := MI_tb hM (c := c) (e := 0) (by omega) (by omega)
      rw [X, e13, sm_congr (g := fun d => bi (c = d) * V (M + 18) (300 * d + 0)) (fun d d0 d1 => by (try dsimp only); rw [cp d d0 (by omega), q.1 (M + 18) _ (by omega)]), sm_dl (by omega) (by omega)]
      exact jw_e ⟨by omega, by omega⟩
    refine cpJ_u (by omega) (c_X8_sizeOf (t_X8_sizeOf_0 ly (cpJ_u (Nat.le_refl _) (markOf_x ly m a0 (by omega)) ⟨rfl, rfl⟩))) ?_
    rw [vv]
    have tb := MI_tb hM (c := c) (e := 0) (by omega) (by omega)
    exact endsL_q ly (by rw [X]; exact ⟨by omega, by omega⟩) (by omega) (fun V3 q2 => ⟨_, rfl, rfl, mQ_q hM (qF_trans q q2)⟩)
  · have a0 := bi_n0 z
    have c0 := bi_0.mp z2
    unfold rcsX
    rw [if_pos (by omega), if_neg (by omega)]
end
