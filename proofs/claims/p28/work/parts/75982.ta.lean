/-! makers of acts, exactly -/
def mk1P (V V' : gV) (k : Nat) (K : Int) (mk : Int → Int) : Prop := (∀ c i, ¬ (k + 1 ≤ c ∧ c ≤ k + 3) → V' c i = V c i) ∧ ∀ d, 0 ≤ d → d < K → V' (k + 1) d = mk d
section
variable {G : List gS} {R V V' : gV} {T : gT} {B M g k p n o m b S N : Nat} {C D E : Int} {dd : gD} {ow : Nat → Nat} {us : Nat → Prop} {w : Nat → Nat} {W : gV} {L : Int → Int} {I : Int → gD} {mm pp : Int → Int}
theorem fillParts_y (w : kT G R T k) (h : hT G R T (g + 10) o m E) (lk : lkT T R g dd) (th : TH T V) (hm : ∀ c, 0 ≤ c → c < dd 0 3 → V (k + 1) c = mm c) (tg : tbG (dd 0 3) (tbD dd)) (pg : prtP (dd 0 3) (tbD dd) mm pp) : cwv 3 (fun r V' => ∃ v : Int, r = some (0, v) ∧ mkrP V V' k (dd 0 3) mm pp) 15 [(4, (k : Int)), (4, ((g + 10 : Nat) : Int))] G R V := by
  have sp := prt_s tg pg
  refine cwI_u (by omega) (fillParts_x w h lk th (by omega) hm tg.2.2.1) (fun v V' q => ?_)
  obtain ⟨_, fr, q⟩ := q
  rcases q with ⟨_, q⟩ | ⟨v0, q1, q2⟩
  · exact ⟨fun c i y => fr c i (by omega), fun d d0 d1 => by rw [fr _ _ (by omega)]; exact hm d d0 d1, sl_u (by omega) q sp⟩
  · exact (sl_no q1 q2 v0 ⟨by omega, v0.1⟩ sp).elim
theorem mkr_s {V1 : gV} {mk pt : Int → Int} {i v1 v2 : Int} (h : mkrP V V1 k i mk pt) (e1 : v1 = mk i) (e2 : v2 = pt i) : mkrP V (wr (wr V1 (k + 1) i v1) (k + 2) i v2) k (i + 1) mk pt := by
  refine ⟨fun c j y => by rw [wr_a (by omega), wr_a (by omega)]; exact h.1 c j y, fun d d0 d1 => ?_, fun d d0 d1 => ?_⟩
  · rw [wr_a (by omega)]
    by_cases y : d = i
    · rw [y, wr_same]; exact e1
    · rw [wr_i y]; exact h.2.1 d d0 (by omega)
  · by_cases y : d = i
    · rw [y, wr_same]; exact e2
    · rw [wr_i y, wr_a (by omega)]; exact h.2.2 d d0 (by omega)
theorem mkr_e {V1 : gV} {mk pt : Int → Int} {i j : Int} (h : mkrP V V1 k i mk pt) (e : j ≤ i) : mkrP V V1 k j mk pt := ⟨h.1, fun d d0 d1 => h.2.1 d d0 (by omega), fun d d0 d1 => h.2.2 d d0 (by omega)⟩
theorem mk1_s {V1 V2 : gV} {mk : Int → Int} {i v1 : Int} (h : mk1P V V1 k i mk) (h2 : ∀ c j, c ≠ k + 3 → V2 c j = V1 c j) (e1 : v1 = mk i) : mk1P V (wr V2 (k + 1) i v1) k (i + 1) mk := by
  refine ⟨fun c j y => by rw [wr_a (by omega), h2 _ _ (by omega)]; exact h.1 c j y, fun d d0 d1 => ?_⟩
  by_cases y : d = i
  · rw [y, wr_same]; exact e1
  · rw [wr_i y, h2 _ _ (by omega)]; exact h.2 d d0 (by omega)
theorem mk1_f {V1 V2 : gV} {mk pt : Int → Int} {i K : Int} (h : mk1P V V1 k i mk) (e : K ≤ i) (h2 : mkrP V1 V2 k K mk pt) : mkrP V V2 k K mk pt := ⟨fun c j y => by rw [h2.1 c j y]; exact h.1 c j y, h2.2.1, h2.2.2⟩
theorem markOf_e (ly : lay1 G R b) {a c : Int} (ha : 0 ≤ a ∧ a < 8) (hc : 0 ≤ c ∧ c < 300) : cpJ 1 (V (b + 3) (a * 300 + c)) 21 [(4, (b : Int)), (0, a), (0, c)] G R V := c_X1_markOf (t_X1_markOf_0 ly ⟨by omega, by omega, by omega, fun _ => ⟨rfl, rfl⟩⟩)
theorem partOf_e (ly : lay1 G R b) {a c : Int} (ha : 0 ≤ a ∧ a < 8) (hc : 0 ≤ c ∧ c < 300) : cpJ 1 (V (b + 4) (a * 300 + c)) 22 [(4, (b : Int)), (0, a), (0, c)] G R V := c_X1_partOf (t_X1_partOf_0 ly ⟨by omega, by omega, by omega, fun _ => ⟨rfl, rfl⟩⟩)
theorem placesOf_e (ly : lay1 G R b) {a : Int} (ha : 0 ≤ a ∧ a < 8) : cpJ 2 (V (b + 3) (a * 300 + 0)) 23 [(4, (b : Int)), (0, a)] G R V := c_X1_placesOf (t_X1_placesOf_0 ly (cpJ_u (by omega) (markOf_e ly ha (by omega)) ⟨rfl, rfl⟩))
theorem takeSum_x (w : kT G R T k) (u : bG G R T b g p n C D o m E) (lk : lkT T R g dd) (th : TH T V) {a c : Int} (ha : 0 ≤ a ∧ a < 8) (hc : 0 ≤ c ∧ c < 8) (dis : k + 3 < b ∨ b + 4 < k) (h1 : ∀ d, 0 ≤ d → d < dd 0 3 → i64 (V (b + 3) (a * 300 + d) + V (b + 3) (c * 300 + d))) (h2 : ∀ d, 0 ≤ d → d < dd 0 3 → i64 (V (b + 4) (a * 300 + d) + V (b + 4) (c * 300 + d))) : cwv 3 (fun r V' => r = none ∧ mkrP V V' k (dd 0 3) (fun d => V (b + 3) (a * 300 + d) + V (b + 3) (c * 300 + d)) (fun d => V (b + 4) (a * 300 + d) + V (b + 4) (c * 300 + d))) 8 [(4, (k : Int)), (4, (b : Int)), (0, a), (0, c)] G R V := by
  have e3 := lk_3 lk th
  have c0 := u.g.h.a.cl _ (th (g + 10) 1)
  refine c_X0_takeSum (t_X0_takeSum_0 w.ly u.b.ly ?_)
  refine loop1 (f := fun i => [some (4, (k : Int)), some (4, (b : Int)), some (0, a), some (0, c), some (0, i)]) (Inv := fun i V' => (0 ≤ i ∧ i ≤ dd 0 3) ∧ mkrP V V' k i (fun d => V (b + 3) (a * 300 + d) + V (b + 3) (c * 300 + d)) (fun d => V (b + 4) (a * 300 + d) + V (b + 4) (c * 300 + d))) (μ := fun i _ => (300 - i).toNat) (fun i V1 hi ih => ?_) 0 V ⟨by omega, fun _ _ _ => rfl, fun d d0 d1 => by omega, fun d d0 d1 => by omega⟩
  obtain ⟨i0, mp⟩ := hi
  have e31 := lk_3 lk (TH_k w th mp.1)
  refine t_X0_takeSum_3 w.ly u.b.ly ⟨g, ⟨u.rg, u.g.ly⟩, fun _ => ⟨by omega, fun z => ⟨rfl, mkr_e mp (by omega)⟩, fun z => cpJ_u (by omega) (markOf_e u.b.ly ha (by omega)) (cpJ_u (by omega) (markOf_e u.b.ly hc (by omega)) ⟨by omega, cpJ_u (by omega) (partOf_e u.b.ly ha (by omega)) (cpJ_u (by omega) (partOf_e u.b.ly hc (by omega)) ⟨by omega, ih _ _ ⟨by omega, mkr_s mp ?_ ?_⟩ (by omega)⟩)⟩)⟩⟩
  · rw [mp.1 _ _ (by omega), mp.1 _ _ (by omega)]
    exact jadd_e (h1 i (by omega) (by omega))
  · rw [wr_a (by omega), wr_a (by omega), mp.1 _ _ (by omega), mp.1 _ _ (by omega)]
    exact jadd_e (h2 i (by omega) (by omega))
theorem takeMultiple_x (w : kT G R T k) (u : bG G R T b g p n C D o m E) (lk : lkT T R g dd) (th : TH T V) {a c : Int} (ha : 0 ≤ a ∧ a < 8) (hc : i32 c) (dis : k + 3 < b ∨ b + 4 < k) (h1 : ∀ d, 0 ≤ d → d < dd 0 3 → i64 (V (b + 3) (a * 300 + d) * c)) (h2 : ∀ d, 0 ≤ d → d < dd 0 3 → i64 (V (b + 4) (a * 300 + d) * c)) : cwv 3 (fun r V' => r = none ∧ mkrP V V' k (dd 0 3) (fun d => V (b + 3) (a * 300 + d) * c) (fun d => V (b + 4) (a * 300 + d) * c)) 11 [(4, (k : Int)), (4, (b : Int)), (0, a), (0, c)] G R V := by
  have e3 := lk_3 lk th
  have c0 := u.g.h.a.cl _ (th (g + 10) 1)
  refine c_X0_takeMultiple (t_X0_takeMultiple_0 w.ly u.b.ly ?_)
  refine loop1 (f := fun i => [some (4, (k : Int)), some (4, (b : Int)), some (0, a), some (0, c), some (0, i)]) (Inv := fun i V' => (0 ≤ i ∧ i ≤ dd 0 3) ∧ mkrP V V' k i (fun d => V (b + 3) (a * 300 + d) * c) (fun d => V (b + 4) (a * 300 + d) * c)) (μ := fun i _ => (300 - i).toNat) (fun i V1 hi ih => ?_) 0 V ⟨by omega, fun _ _ _ => rfl, fun d d0 d1 => by omega, fun d d0 d1 => by omega⟩
  obtain ⟨i0, mp⟩ := hi
  have e31 := lk_3 lk (TH_k w th mp.1)
  refine t_X0_takeMultiple_3 w.ly u.b.ly ⟨g, ⟨u.rg, u.g.ly⟩, fun _ => ⟨by omega, fun z => ⟨rfl, mkr_e mp (by omega)⟩, fun z => cpJ_u (by omega) (markOf_e u.b.ly ha (by omega)) ⟨hc, by omega, cpJ_u (by omega) (partOf_e u.b.ly ha (by omega)) ⟨by omega, ih _ _ ⟨by omega, mkr_s mp ?_ ?_⟩ (by omega)⟩⟩⟩⟩
  · rw [mp.1 _ _ (by omega)]
    exact jmul_e (h1 i (by omega) (by omega))
  · rw [wr_a (by omega), mp.1 _ _ (by omega)]
    exact jmul_e (h2 i (by omega) (by omega))
theorem takePairs_x (w : kT G R T k) (u : bG G R T b g p n C D o m E) (lk : lkT T R g dd) (th : TH T V) {a c : Int} (ha : 0 ≤ a ∧ a < 8) (hc : 0 ≤ c ∧ c < 8) (dis : k + 3 < b ∨ b + 4 < k) (tg : tbG (dd 0 3) (tbD dd)) (h1 : ∀ d, 0 ≤ d → d < dd 0 3 → V (b + 3) (a * 300 + d) * V (b + 3) (c * 300 + d) = mm d) (pg : prtP (dd 0 3) (tbD dd) mm pp) : cwv 4 (fun r V' => r = none ∧ mkrP V V' k (dd 0 3) mm pp) 9 [(4, (k : Int)), (4, (b : Int)), (0, a), (0, c)] G R V := by
  have e3 := lk_3 lk th
  have c0 := u.g.h.a.cl _ (th (g + 10) 1)
  have bd := prt_b tg pg
  have m0 := pg.2.2
  refine c_X0_takePairs (t_X0_takePairs_0 w.ly u.b.ly ?_)
  refine loop1 (f := fun i => [some (4, (k : Int)), some (4, (b : Int)), some (0, a), some (0, c), some (0, i)]) (Inv := fun i V' => (0 ≤ i ∧ i ≤ dd 0 3) ∧ mk1P V V' k i mm) (μ := fun i _ => (300 - i).toNat) (fun i V1 hi ih => ?_) 0 V ⟨by omega, fun _ _ _ => rfl, fun d d0 d1 => by omega⟩
  obtain ⟨i0, mp⟩ := hi
  have th1 := TH_k w th mp.1
  have e31 := lk_3 lk th1
  refine t_X0_takePairs_3 w.ly u.b.ly ⟨g, ⟨u.rg, u.g.ly⟩, fun _ => ⟨by omega, fun z => cwI_u (by omega) (fillParts_y w u.g.h lk th1 (fun d d0 d1 => mp.2 d d0 (by omega)) tg pg) (fun v V2 h2 => ⟨rfl, mk1_f mp (by omega) h2⟩), fun z => cpJ_u (by omega) (markOf_e u.b.ly ha (by omega)) (cpJ_u (by omega) (markOf_e u.b.ly hc (by omega)) ⟨by omega, by omega, ih _ _ ⟨by omega, mk1_s mp (fun _ _ _ => rfl) ?_⟩ (by omega)⟩)⟩⟩
  rw [mp.1 _ _ (by omega), mp.1 _ _ (by omega), jmul_e, h1 i (by omega) (by omega)]
  rw [h1 i (by omega) (by omega)]
  have := bd i (by omega) (by omega)
  exact ⟨by omega, by omega⟩
/-! rounds -/
/-- in how many rounds heap h leads what has the marks mk -/
noncomputable def rdM (dd : gD) (mk : Int → Int) (h : Int) : Int := sm (fun t => hsD dd h t * mk (dd 204 (dd 205 t))) (dd 0 1).toNat / dd 203 h
theorem hg_mb (hs : hsX dd) {t : Int} (t0 : 0 ≤ t ∧ t < dd 0 1) : (0 ≤ dd 205 t ∧ dd 205 t < dd 0 2) ∧ (0 ≤ dd 204 (dd 205 t) ∧ dd 204 (dd 205 t) < dd 0 3) := by
  have hg := hs.2.2.2
  have a := (hg.2.2.2.2.2.1 t t0.1 t0.2).1.1
  exact ⟨a, (hg.2.1.2.1 _ a.1 a.2).1⟩
theorem leftByTurn_e (u : bG G R T b g p n C D o m E) (lk : lkT T R g dd) (hs : hsX dd) (th : TH T V) {a t : Int} (ha : 0 ≤ a ∧ a < 8) (ht : 0 ≤ t ∧ t < dd 0 1) : cpJ 2 (V (b + 3) (a * 300 + dd 204 (dd 205 t))) 26 [(4, (b : Int)), (0, a), (0, t)] G R V := by
  have e3 := lk_3 lk th
  have e1 := lk.2.1 _ (th (g + 1) 1)
  have ct := u.g.t.ct _ (th (g + 1) 1)
  have cl := u.g.h.a.cl _ (th (g + 10) 1)
  have hd := u.g.t.d0
  have mb := hg_mb hs ht
  have m1 : V (g + 15) t = dd 205 t := lk_j lk th 5 (by omega) (by omega) (by omega) t
  have m2 : V (g + 14) (dd 205 t) = dd 204 (dd 205 t) := lk_j lk th 4 (by omega) (by omega) (by omega) _
  have H3 := hs.1.2.1
  refine c_X1_leftByTurn (t_X1_leftByTurn_0 u.b.ly ⟨g, ⟨u.rg, u.g.ly⟩, by omega, fun _ => ?_⟩)
  rw [m1, m2]
  exact ⟨by omega, fun _ => cpJ_u (by omega) (markOf_e u.b.ly ha (by omega)) ⟨rfl, rfl⟩⟩
theorem roundsOf_e (u : bG G R T b g p n C D o m E) (lk : lkT T R g dd) (hs : hsX dd) (th : TH T V) {a h : Int} (ha : 0 ≤ a ∧ a < 8) (hh : 0 ≤ h ∧ h < dd 0 2) {mk : Int → Int} (hm : ∀ d, 0 ≤ d → d < dd 0 3 → V (b + 3) (a * 300 + d) = mk d) (mb : ∀ d, 0 ≤ d → d < dd 0 3 → 0 ≤ mk d ∧ mk d ≤ 1000000000000000) : cpJ 3 (rdM dd mk h) 27 [(4, (b : Int)), (0, a), (0, h)] G R V := by
  have e1 := lk.2.1 _ (th (g + 1) 1)
  have ct := u.g.t.ct _ (th (g + 1) 1)
  have hd := u.g.t.d0
  have hp := hs.1
  have H3 : dd 0 2 ≤ 300 := hp.2.1
  have l1 : V (g + 11) h = dd 201 h := lk_j lk th 1 (by omega) (by omega) (by omega) h
  have l2 : V (g + 12) h = dd 202 h := lk_j lk th 2 (by omega) (by omega) (by omega) h
  have l3 : V (g + 13) h = dd 203 h := lk_j lk th 3 (by omega) (by omega) (by omega) h
  have N1 : 1 ≤ dd 0 1 := hs.2.2.2.1.1
  have sz : 1 ≤ dd 203 h ∧ dd 203 h ≤ dd 0 1 := sz_p (sz := fun k => dd 203 k) hs.2.2.2.1 hp hh
  refine c_X1_roundsOf (t_X1_roundsOf_0 u.b.ly ?_)
  refine pool2 (f := fun q i => [some (4, (b : Int)), some (0, a), some (0, h), some (2, q), none, some (0, i)]) (Inv := fun q i => (0 ≤ i ∧ i ≤ dd 0 1) ∧ q = sm (fun t => hsD dd h t * mk (dd 204 (dd 205 t))) i.toNat ∧ (0 ≤ q ∧ q ≤ 1000000000000000 * i)) (μ := fun _ i => (120 - i).toNat) (fun q i hi ih => ?_) 0 0 ⟨by omega, rfl, by omega⟩
  obtain ⟨i0, eq, qb⟩ := hi
  refine t_X1_roundsOf_5 u.b.ly ⟨g, ⟨u.rg, u.g.ly⟩, fun _ => ⟨by omega, fun z => ⟨by omega, fun _ => ?_⟩, fun z => ?_⟩⟩
  · rw [l3]
    refine ⟨fun y => by omega, fun y => ⟨by omega, ?_, rfl⟩⟩
    rw [jdiv_e ⟨by omega, by omega⟩ ⟨by omega, by omega⟩ qb.1 (by omega), eq, show i = dd 0 1 by omega]
    rfl
  · have md := hg_mb hs (t := i) (by omega)
    have mq := mb _ md.2.1 md.2.2
    refine cpI_u (by omega) (holdsTurn_e u.g.h.a.ly (by omega) (by omega)) ?_
    have eb : bt (V (g + 10 + 1) h) (V (g + 10 + 2) h) i = hsD dd h i := by
      show bt (V (g + 11) h) (V (g + 12) h) i = bt (dd 201 h) (dd 202 h) i
      rw [l1, l2]
    rw [eb]
    have s1 := sm_s (fun t => hsD dd h t * mk (dd 204 (dd 205 t))) (x := i) i0.1
    rcases bt_01 (dd 201 h) (dd 202 h) i with y | y
    · have y' : hsD dd h i = 0 := y
      rw [y'] at s1 ⊢
      refine ⟨by omega, fun _ => ⟨by omega, ih _ _ ⟨by omega, ?_, by omega⟩ (by omega)⟩, fun y2 => absurd rfl y2⟩
      rw [s1, eq, Int.zero_mul, Int.add_zero]
    · have y' : hsD dd h i = 1 := y
      rw [y'] at s1 ⊢
      refine ⟨by omega, fun y2 => by omega, fun _ => cpJ_u (by omega) (leftByTurn_e u lk hs th ha (by omega)) ?_⟩
      rw [hm _ md.2.1 md.2.2, jadd_e ⟨by omega, by omega⟩]
      refine ⟨by omega, ih _ _ ⟨by omega, ?_, by omega⟩ (by omega)⟩
      rw [s1, eq, Int.one_mul]
theorem takeColourings_x (w : kT G R T k) (u : bG G R T b g p n C D o m E) (lk : lkT T R g dd) (hs : hsX dd) (th : TH T V) {a c : Int} (ha : 0 ≤ a ∧ a < 8) (hc : 0 ≤ c ∧ c ≤ 100) (dis : k + 3 < b ∨ b + 4 < k) (tg : tbG (dd 0 3) (tbD dd)) {mk : Int → Int} (hm : ∀ d, 0 ≤ d → d < dd 0 3 → V (b + 3) (a * 300 + d) = mk d) (mb : ∀ d, 0 ≤ d → d < dd 0 3 → 0 ≤ mk d ∧ mk d ≤ 1000000000000000) (h1 : ∀ d, 0 ≤ d → d < dd 0 3 → (0 ≤ rdM dd mk (dd 207 d) ∧ rdM dd mk (dd 207 d) ≤ 4000000000000000000) ∧ stp (c ^ (rdM dd mk (dd 207 d)).toNat) = mm d) (pg : prtP (dd 0 3) (tbD dd) mm pp) : cwv 4 (fun r V' => r = none ∧ mkrP V V' k (dd 0 3) mm pp) 10 [(4, (k : Int)), (4, (b : Int)), (0, a), (0, c)] G R V := by
  have e3 := lk_3 lk th
  have c0 := u.g.h.a.cl _ (th (g + 10) 1)
  have bd := prt_b tg pg
  have m0 := pg.2.2
  have cl := hs.2.2.2.2.1
  refine c_X0_takeColourings (t_X0_takeColourings_0 w.ly u.b.ly ⟨g, ⟨u.rg, u.g.ly⟩, ?_⟩)
  refine loop1 (f := fun i => [some (4, (k : Int)), some (4, (b : Int)), some (0, a), some (0, c), some (4, ((g + 10 : Nat) : Int)), some (0, i)]) (Inv := fun i V' => (0 ≤ i ∧ i ≤ dd 0 3) ∧ mk1P V V' k i mm) (μ := fun i _ => (300 - i).toNat) (fun i V1 hi ih => ?_) 0 V ⟨by omega, fun _ _ _ => rfl, fun d d0 d1 => by omega⟩
  obtain ⟨i0, mp⟩ := hi
  have th1 := TH_k w th mp.1
  have e31 := lk_3 lk th1
  refine t_X0_takeColourings_12 w.ly u.b.ly u.g.h.a.ly (fun _ => ⟨by omega, fun z => cwI_u (by omega) (fillParts_y w u.g.h lk th1 (fun d d0 d1 => mp.2 d d0 (by omega)) tg pg) (fun v V2 h2 => ⟨rfl, mk1_f mp (by omega) h2⟩), fun z => ⟨by omega, by omega, fun _ => ?_⟩⟩)
  have l7 : V1 (g + 10 + 7) i = dd 207 i := lk_j lk th1 7 (by omega) (by omega) (by omega) i
  rw [l7]
  have q := h1 i (by omega) (by omega)
  have mi := bd i (by omega) (by omega)
  refine cpJ_u (by omega) (roundsOf_e u lk hs th1 ha (cl.2.2.1 i (by omega) (by omega)).1 (mk := mk) (fun d d0 d1 => by rw [mp.1 _ _ (by omega)]; exact hm d d0 d1) mb) (cpJ_u (by omega) (powerUpTo_e (by omega) q.1) ⟨?_, by omega, ih _ _ ⟨by omega, mk1_s mp (fun _ _ _ => rfl) q.2⟩ (by omega)⟩)
  rw [q.2]
  exact ⟨by omega, by omega⟩
theorem fillMarks_x (w : kT G R T k) (h : hT G R T (g + 10) o m E) (lk : lkT T R g dd) (th : TH T V) (hp : ∀ c, 0 ≤ c → c < dd 0 3 → V (k + 2) c = pp c) (tg : tbG (dd 0 3) (tbD dd)) (pg : prtP (dd 0 3) (tbD dd) mm pp) : cwv 3 (fun r V' => r = none ∧ mkrP V V' k (dd 0 3) mm pp) 14 [(4, (k : Int)), (4, ((g + 10 : Nat) : Int))] G R V := by
  have e3 := lk_3 lk th
  have c0 := h.a.cl _ (th (g + 10) 1)
  have bd := prt_b tg pg
  have pb := prt_p tg pg
  have m0 := pg.2.2
  have eK : (((dd 0 3).toNat : Nat) : Int) = dd 0 3 := by omega
  refine c_X0_fillMarks (t_X0_fillMarks_0 w.ly h.a.ly ?_)
  refine loop1 (f := fun i => [some (4, (k : Int)), some (4, ((g + 10 : Nat) : Int)), some (0, i)]) (Inv := fun i V' => (0 ≤ i ∧ i ≤ dd 0 3) ∧ (∀ c i, c ≠ k + 1 → V' c i = V c i) ∧ ∀ d, 0 ≤ d → d < i → V' (k + 1) d = mm d) (μ := fun i _ => (300 - i).toNat) (fun i V1 hi ih => ?_) 0 V ⟨by omega, fun _ _ _ => rfl, fun d d0 d1 => by omega⟩
  obtain ⟨i0, fr, m1⟩ := hi
  have th1 := TH_k w th (fun c i y => fr c i (by omega))
  have e31 := lk_3 lk th1
  refine t_X0_fillMarks_2 w.ly h.a.ly (fun _ => ⟨by omega, fun z => ⟨rfl, fun c i y => fr c i (by omega), fun d d0 d1 => m1 d d0 (by omega), fun d d0 d1 => by rw [fr _ _ (by omega)]; exact hp d d0 d1⟩, fun z => ?_⟩)
  have z1 : i < dd 0 3 := by omega
  -- the sum so far, below the whole mark
  have le : ∀ j : Int, 0 ≤ j → j ≤ dd 0 3 → 0 ≤ sm (fun c => if i ≤ c then pp c * tbD dd c i else 0) j.toNat ∧ sm (fun c => if i ≤ c then pp c * tbD dd c i else 0) j.toNat ≤ 36000000000000000000 := fun j j0 j1 => by
    refine ⟨sm_nn (fun c c0 c1 => ?_), ?_⟩
    · (try dsimp only)
      split
      · exact Int.mul_nonneg (pg.1 c c0 (by omega)) (tg.2.1 c i c0 (by omega) i0.1 z1).1
      · omega
    · have a := sm_le (f := fun c => if i ≤ c then pp c * tbD dd c i else 0) (g := fun _ => 120000000000000000) (n := j.toNat) (fun c c0 c1 => by
        (try dsimp only)
        split
        · have q1 := pb c c0 (by omega)
          have q4 := (bd c c0 (by omega)).2
          have q2 := tg.2.1 c i c0 (by omega) i0.1 z1
          have q3 : pp c * tbD dd c i ≤ 1000000000000000 * 120 := Int.mul_le_mul (by omega) q2.2 q2.1 (by omega)
          omega
        · omega)
      rw [sm_k] at a
      omega
  have whole : sm (fun c => if i ≤ c then pp c * tbD dd c i else 0) (dd 0 3).toNat = mm i := by
    rw [pg.2.1 i i0.1 z1]
    refine sm_congr (fun c c0 c1 => ?_)
    (try dsimp only)
    by_cases y : i ≤ c
    · rw [if_pos y]
    · rw [if_neg y, tg.1 c i c0 (by omega) z1, Int.mul_zero]
  have mono : ∀ j : Int, 0 ≤ j → j ≤ dd 0 3 → sm (fun c => if i ≤ c then pp c * tbD dd c i else 0) j.toNat ≤ mm i := fun j j0 j1 => by
    rw [← whole, show (dd 0 3).toNat = j.toNat + (dd 0 3 - j).toNat by omega, sm_app]
    have := sm_nn (f := fun x => (fun c => if i ≤ c then pp c * tbD dd c i else 0) (((j.toNat : Nat) : Int) + x)) (n := (dd 0 3 - j).toNat) (fun c c0 c1 => by
      (try dsimp only)
      split
      · exact Int.mul_nonneg (pg.1 _ (by omega) (by omega)) (tg.2.1 _ i (by omega) (by omega) i0.1 z1).1
      · omega)
    (try dsimp only at this)
    omega
  have mi := bd i i0.1 z1
  refine pool2 (f := fun q j => [some (4, (k : Int)), some (4, ((g + 10 : Nat) : Int)), some (0, i), some (2, q), none, some (0, j)]) (Inv := fun q j => (i ≤ j ∧ j ≤ dd 0 3) ∧ q = sm (fun c => if i ≤ c then pp c * tbD dd c i else 0) j.toNat) (μ := fun _ j => (300 - j).toNat) (fun q j hj ih2 => ?_) 0 i ⟨by omega, (sm_zz (fun c c0 c1 => if_neg (by omega))).symm⟩
  obtain ⟨j0, eq⟩ := hj
  have q0 := (le j (by omega) j0.2).1
  have q1 := mono j (by omega) j0.2
  refine t_X0_fillMarks_15 w.ly h.a.ly (fun _ => ⟨by omega, fun y => ⟨by omega, ⟨by omega, by omega⟩, by omega, ih _ _ ⟨by omega, fun c i2 y2 => by rw [wr_a y2]; exact fr c i2 y2, fun d d0 d1 => ?_⟩ (by omega)⟩, fun y => ⟨by omega, fun _ => ?_⟩⟩)
  · by_cases y2 : d = i
    · rw [y2, wr_same, eq, show j = dd 0 3 by omega]; exact whole
    · rw [wr_i y2]; exact m1 d d0 (by omega)
  · have r := tbD_r h lk th1 j i
    have s1 := sm_s (fun c => if i ≤ c then pp c * tbD dd c i else 0) (x := j) (by omega)
    (try dsimp only at s1)
    rw [if_pos (by omega)] at s1
    have q2 := mono (j + 1) (by omega) (by omega)
    have nn : 0 ≤ pp j * tbD dd j i := Int.mul_nonneg (pg.1 j (by omega) (by omega)) r.1
    refine cpI_u (by omega) (mk_d h lk th1 (by omega) (by omega)) ⟨⟨by omega, by omega⟩, by omega, ih2 _ _ ⟨by omega, ?_⟩ (by omega)⟩
    rw [fr _ _ (by omega), hp j (by omega) (by omega), jmul_e ⟨by omega, by omega⟩, jadd_e ⟨by omega, by omega⟩, s1, eq]
end
