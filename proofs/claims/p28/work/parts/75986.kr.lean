/-! the class: colourings, and what is read of acts -/
theorem ss0 {x y : Int} (h : x = y) : (some ((0 : Nat), x) : Option zV) = some (0, y) := by rw [h]
theorem ss2 {x y : Int} (h : x = y) : (some ((2 : Nat), x) : Option zV) = some (2, y) := by rw [h]
def rdX (f C c v : Int) : Int := if f = 1 ∧ (0 ≤ c ∧ c < C) then v else -1
noncomputable def saX (f g K : Int) (m1 m2 : Int → Int) : Int := if f = 1 ∧ g = 1 then the (sdP K m1 m2) else -2
noncomputable def moX (f g w K : Int) (m1 m2 p1 sp : Int → Int) : Int := if f = 1 ∧ g = 1 ∧ (w = 0 ∨ w = 1) then (if w = 0 then mpA K m2 p1 else bi (∀ c, 0 ≤ c → c < K → m1 c = m2 c) * mpB K sp p1) else -1
noncomputable def acX (f wh x K N H : Int) (mk p fo co mb rd : Int → Int) : Int := if f = 1 then (if wh = 0 then mk 0 else if wh = 1 then sm p K.toNat else if wh = 2 then the (idP K mk fo) else if wh = 3 then (if 0 ≤ x ∧ x < N then mk (co (mb x)) else -1) else if wh = 4 then (if 0 ≤ x ∧ x < N then rd (mb x) else -1) else if wh = 5 then (if 0 ≤ x ∧ x < H then rd x else -1) else -1) else -1
def cnX (w a0 a1 a2 a3 a4 a5 : Int) : Int := if w = 0 then a0 else if w = 1 then a1 else if w = 2 then a2 else if w = 3 then a3 else if w = 4 then a4 else if w = 5 then a5 else -1
theorem idP_u {K : Int} {mk fo : Int → Int} (v w : Int) (a : idP K mk fo v) (b : idP K mk fo w) : v = w := by
  rcases a with ⟨c, c0, c1, c2, c3⟩ | ⟨a1, a2⟩ <;> rcases b with ⟨d, d0, d1, d2, d3⟩ | ⟨b1, b2⟩
  · rcases Int.lt_trichotomy c d with q | q | q
    · exact absurd d1 (c2 d q d0.2)
    · rw [c3, d3, q]
    · exact absurd c1 (d2 c q c0.2)
  · exact absurd c1 (b1 c c0.1 c0.2)
  · exact absurd d1 (a1 d d0.1 d0.2)
  · omega
section
variable {G : List gS} {R V V' : gV} {T : gT} {B M g k p n o m b S N : Nat} {C D E : Int} {dd : gD} {ow : Nat → Nat} {us : Nat → Prop} {w : Nat → Nat} {W : gV} {L : Int → Int} {I : Int → gD} {mm pp : Int → Int}
theorem firstDifference_x (u : bG G R T b g p n C D o m E) (lk : lkT T R g dd) (th : TH T V) {a c : Int} (ha : 0 ≤ a ∧ a < 8) (hc : 0 ≤ c ∧ c < 8) {m1 m2 : Int → Int} (h1 : ∀ d, 0 ≤ d → d < dd 0 3 → V (b + 3) (a * 300 + d) = m1 d ∧ i64 (m1 d)) (h2 : ∀ d, 0 ≤ d → d < dd 0 3 → V (b + 3) (c * 300 + d) = m2 d ∧ i64 (m2 d)) : cwv 2 (fun r V' => ∃ v : Int, r = some (0, v) ∧ (sdP (dd 0 3) m1 m2 v ∧ V' = V)) 28 [(4, (b : Int)), (0, a), (0, c)] G R V := by
  have e3 := lk_3 lk th
  have c0 := u.g.h.a.cl _ (th (g + 10) 1)
  refine c_X1_firstDifference (t_X1_firstDifference_0 u.b.ly ?_)
  refine pool1 (f := fun i => [some (4, (b : Int)), some (0, a), some (0, c), some (0, i)]) (fun i => (0 ≤ i ∧ i ≤ dd 0 3) ∧ ∀ d, 0 ≤ d → d < i → m1 d = m2 d) (fun i => (300 - i).toNat) (fun i hi ih => ?_) 0 ⟨by omega, fun d d0 d1 => by omega⟩
  obtain ⟨i0, eq⟩ := hi
  refine t_X1_firstDifference_2 u.b.ly ⟨g, ⟨u.rg, u.g.ly⟩, fun _ => ⟨by omega, fun z => ⟨_, rfl, Or.inl ⟨rfl, fun d d0 d1 => eq d d0 (by omega)⟩, rfl⟩, fun z => cpJ_u (by omega) (markOf_e u.b.ly ha (by omega)) (cpJ_u (by omega) (markOf_e u.b.ly hc (by omega)) ?_)⟩⟩
  have q1 := h1 i i0.1 (by omega)
  have q2 := h2 i i0.1 (by omega)
  rw [q1.1, q2.1]
  refine ⟨q1.2, q2.2, fun y => ⟨by omega, ih _ ⟨by omega, fun d d0 d1 => ?_⟩ (by omega)⟩, fun y => ⟨_, rfl, Or.inr ⟨⟨i0.1, by omega⟩, y, eq⟩, rfl⟩⟩
  by_cases y2 : d = i
  · rw [y2]; exact y
  · exact eq d d0 (by omega)
theorem mapsAlong_x (u : bG G R T b g p n C D o m E) (lk : lkT T R g dd) (th : TH T V) {a c : Int} (ha : 0 ≤ a ∧ a < 8) (hc : 0 ≤ c ∧ c < 8) {mk pt : Int → Int} (h1 : ∀ d, 0 ≤ d → d < dd 0 3 → V (b + 3) (c * 300 + d) = mk d ∧ (0 ≤ mk d ∧ mk d ≤ 1000000000000000)) (h2 : ∀ d, 0 ≤ d → d < dd 0 3 → V (b + 4) (a * 300 + d) = pt d ∧ (0 ≤ pt d ∧ pt d ≤ 1000000000000000)) : cpJ 3 (stp (pr (fun c => mk c ^ (pt c).toNat) (dd 0 3).toNat)) 29 [(4, (b : Int)), (0, a), (0, c)] G R V := by
  have e3 := lk_3 lk th
  have c0 := u.g.h.a.cl _ (th (g + 10) 1)
  refine c_X1_mapsAlong (t_X1_mapsAlong_0 u.b.ly ?_)
  refine pool2 (f := fun x i => [some (4, (b : Int)), some (0, a), some (0, c), some (2, x), none, some (0, i)]) (fun x i => (0 ≤ i ∧ i ≤ dd 0 3) ∧ x = stp (pr (fun c => mk c ^ (pt c).toNat) i.toNat)) (fun _ i => (300 - i).toNat) (fun x i hi ih => ?_) 1 0 ⟨by omega, rfl⟩
  obtain ⟨i0, ex⟩ := hi
  have pn : 0 ≤ pr (fun c => mk c ^ (pt c).toNat) i.toNat := pr_nn (fun j j0 j1 => pow_nn (h1 j j0 (by omega)).2.1 _)
  refine t_X1_mapsAlong_5 u.b.ly ⟨g, ⟨u.rg, u.g.ly⟩, fun _ => ⟨by omega, fun z => ⟨by rw [ex, show i = dd 0 3 by omega], rfl⟩, fun z => cpJ_u (by omega) (markOf_e u.b.ly hc (by omega)) (cpJ_u (by omega) (partOf_e u.b.ly ha (by omega)) ?_)⟩⟩
  have q1 := h1 i i0.1 (by omega)
  have q2 := h2 i i0.1 (by omega)
  rw [q1.1, q2.1]
  have fn := pow_nn (b := mk i) q1.2.1 (pt i).toNat
  have r1 := stp_r fn
  have r2 := stp_r pn
  refine cpJ_u (by omega) (powerUpTo_e (by omega) (by omega)) (cpJ_u (by omega) (timesUpTo_e (by rw [ex]; exact r2) r1) ⟨by omega, ih _ _ ⟨by omega, ?_⟩ (by omega)⟩)
  rw [ex, stp_m pn r1.1, stp_mr pn fn, pr_s _ i0.1]
theorem mapsOnToAll_x (u : bG G R T b g p n C D o m E) (lk : lkT T R g dd) (th : TH T V) {a c : Int} (ha : 0 ≤ a ∧ a < 8) (hc : 0 ≤ c ∧ c < 8) {m1 m2 pt : Int → Int} (h1 : ∀ d, 0 ≤ d → d < dd 0 3 → V (b + 3) (a * 300 + d) = m1 d ∧ i64 (m1 d)) (h2 : ∀ d, 0 ≤ d → d < dd 0 3 → V (b + 3) (c * 300 + d) = m2 d ∧ i64 (m2 d)) (h3 : ∀ d, 0 ≤ d → d < dd 0 3 → V (b + 4) (a * 300 + d) = pt d ∧ (0 ≤ pt d ∧ pt d ≤ 1000000000000000)) (hs : ∀ d, 0 ≤ d → d < dd 0 3 → 0 ≤ dd 210 d ∧ dd 210 d ≤ 120) : cpJ 3 (bi (∀ c, 0 ≤ c → c < dd 0 3 → m1 c = m2 c) * stp (pr (fun c => fac (pt c).toNat * dd 210 c ^ (pt c).toNat) (dd 0 3).toNat)) 30 [(4, (b : Int)), (0, a), (0, c)] G R V := by
  have e3 := lk_3 lk th
  have c0 := u.g.h.a.cl _ (th (g + 10) 1)
  refine c_X1_mapsOnToAll (t_X1_mapsOnToAll_0 u.b.ly (cwI_u (by omega) (firstDifference_x u lk th ha hc h1 h2) (fun v V1 hv => ?_)))
  obtain ⟨sd, e1⟩ := hv
  rw [e1]
  have vr : i32 v := by
    rcases sd with ⟨q, _⟩ | ⟨q, _⟩ <;> exact ⟨by omega, by omega⟩
  refine ⟨vr, fun z => ?_, fun z => ⟨?_, rfl⟩⟩
  · have al : ∀ c, 0 ≤ c → c < dd 0 3 → m1 c = m2 c := by
      rcases sd with ⟨_, q⟩ | ⟨q, _⟩
      · exact q
      · omega
    rw [bi_t al, Int.one_mul]
    refine pool2 (f := fun x i => [some (4, (b : Int)), some (0, a), none, some (2, x), none, some (0, i)]) (fun x i => (0 ≤ i ∧ i ≤ dd 0 3) ∧ x = stp (pr (fun c => fac (pt c).toNat * dd 210 c ^ (pt c).toNat) i.toNat)) (fun _ i => (300 - i).toNat) (fun x i hi ih => ?_) 1 0 ⟨by omega, rfl⟩
    obtain ⟨i0, ex⟩ := hi
    have fn : ∀ j, 0 ≤ j → j < dd 0 3 → 0 ≤ fac (pt j).toNat ∧ 0 ≤ dd 210 j ^ (pt j).toNat := fun j j0 j1 => ⟨by have := fac_1 (pt j).toNat; omega, pow_nn (hs j j0 j1).1 _⟩
    have pn : 0 ≤ pr (fun c => fac (pt c).toNat * dd 210 c ^ (pt c).toNat) i.toNat := pr_nn (fun j j0 j1 => Int.mul_nonneg (fn j j0 (by omega)).1 (fn j j0 (by omega)).2)
    refine t_X1_mapsOnToAll_17 u.b.ly ⟨g, ⟨u.rg, u.g.ly⟩, fun _ => ⟨by omega, fun z => ⟨by rw [ex, show i = dd 0 3 by omega], rfl⟩, fun z => cpJ_u (by omega) (partOf_e u.b.ly ha (by omega)) ?_⟩⟩
    have q := h3 i i0.1 (by omega)
    have fi := fn i i0.1 (by omega)
    have si := hs i i0.1 (by omega)
    have l10 : V (g + 20) i = dd 210 i := lk_j lk th 10 (by omega) (by omega) (by omega) i
    rw [q.1]
    have r1 := stp_r fi.1
    have r2 := stp_r fi.2
    have r3 := stp_r pn
    have r4 := stp_r (x := x * stp (fac (pt i).toNat)) (Int.mul_nonneg (by rw [ex]; exact r3.1) r1.1)
    refine cpJ_u (by omega) (factorialUpTo_e (by omega)) (cpJ_u (by omega) (timesUpTo_e (by rw [ex]; exact r3) r1) ⟨by omega, fun _ => ?_⟩)
    rw [l10]
    refine cpJ_u (by omega) (powerUpTo_e (by omega) (by omega)) (cpJ_u (by omega) (timesUpTo_e r4 r2) ⟨by omega, ih _ _ ⟨by omega, ?_⟩ (by omega)⟩)
    rw [stp_m (Int.mul_nonneg (by rw [ex]; exact r3.1) r1.1) r2.1, ex, Int.mul_assoc, stp_m pn (Int.mul_nonneg r1.1 r2.1), ← Int.mul_assoc, stp_mr (Int.mul_nonneg pn r1.1) fi.2, Int.mul_assoc, Int.mul_comm (stp (fac (pt i).toNat)), ← Int.mul_assoc, stp_mr (Int.mul_nonneg pn fi.2) fi.1, Int.mul_assoc, Int.mul_comm (dd 210 i ^ (pt i).toNat), pr_s _ i0.1]
  · have : ¬ ∀ c, 0 ≤ c → c < dd 0 3 → m1 c = m2 c := fun q => by
      rcases sd with ⟨q1, _⟩ | ⟨q1, q2, _⟩
      · exact z q1
      · exact q2 (q v q1.1 q1.2)
    rw [bi_f this, Int.zero_mul]
theorem idleHeap_x (u : bG G R T b g p n C D o m E) (lk : lkT T R g dd) (th : TH T V) {a : Int} (ha : 0 ≤ a ∧ a < 8) (K1 : 1 ≤ dd 0 3) {mk : Int → Int} (h1 : ∀ d, 0 ≤ d → d < dd 0 3 → V (b + 3) (a * 300 + d) = mk d ∧ i64 (mk d)) : cwv 3 (fun r V' => ∃ v : Int, r = some (0, v) ∧ (idP (dd 0 3) mk (dd 207) v ∧ V' = V)) 25 [(4, (b : Int)), (0, a)] G R V := by
  have e3 := lk_3 lk th
  have c0 := u.g.h.a.cl _ (th (g + 10) 1)
  refine c_X1_idleHeap (t_X1_idleHeap_0 u.b.ly ⟨g, ⟨u.rg, u.g.ly⟩, fun _ => ⟨by omega, ?_⟩⟩)
  rw [e3]
  refine pool1 (f := fun i => [some (4, (b : Int)), some (0, a), some (0, i)]) (fun i => (0 ≤ i ∧ i < dd 0 3) ∧ ∀ e, i < e → e < dd 0 3 → mk e ≠ mk 0) (fun i => i.toNat) (fun i hi ih => ?_) (dd 0 3 - 1) ⟨by omega, fun e e0 e1 => by omega⟩
  obtain ⟨i0, no⟩ := hi
  have q0 := h1 0 (by omega) (by omega)
  have q1 := h1 i i0.1 (by omega)
  have l7 : V (g + 17) i = dd 207 i := lk_j lk th 7 (by omega) (by omega) (by omega) i
  refine t_X1_idleHeap_13 u.b.ly ⟨by omega, fun z => ⟨_, rfl, Or.inr ⟨fun c d0 d1 => no c (by omega) d1, rfl⟩, rfl⟩, fun z => cpJ_u (by omega) (markOf_e u.b.ly ha (by omega)) (cpJ_u (by omega) (placesOf_e u.b.ly ha) ?_)⟩
  rw [q0.1, q1.1]
  refine ⟨q1.2, q0.2, fun y => ⟨by omega, ih _ ⟨by omega, fun e e0 e1 => ?_⟩ (by omega)⟩, fun y => ⟨g, ⟨u.rg, u.g.ly⟩, by omega, fun _ => ⟨_, rfl, Or.inl ⟨i, ⟨z, i0.2⟩, y, no, l7⟩, rfl⟩⟩⟩
  by_cases y2 : e = i
  · rw [y2]; exact y
  · exact no e (by omega) e1
theorem allParts_x (u : bG G R T b g p n C D o m E) (lk : lkT T R g dd) (th : TH T V) {a : Int} (ha : 0 ≤ a ∧ a < 8) {pt : Int → Int} (h1 : ∀ d, 0 ≤ d → d < dd 0 3 → V (b + 4) (a * 300 + d) = pt d ∧ 0 ≤ pt d) (h2 : sm pt (dd 0 3).toNat ≤ 1000000000000000) : cpJ 2 (sm pt (dd 0 3).toNat) 24 [(4, (b : Int)), (0, a)] G R V := by
  have e3 := lk_3 lk th
  have c0 := u.g.h.a.cl _ (th (g + 10) 1)
  refine c_X1_allParts (t_X1_allParts_0 u.b.ly ?_)
  refine pool2 (f := fun x i => [some (4, (b : Int)), some (0, a), some (2, x), none, some (0, i)]) (fun x i => (0 ≤ i ∧ i ≤ dd 0 3) ∧ x = sm pt i.toNat) (fun _ i => (300 - i).toNat) (fun x i hi ih => ?_) 0 0 ⟨by omega, rfl⟩
  obtain ⟨i0, ex⟩ := hi
  refine t_X1_allParts_5 u.b.ly ⟨g, ⟨u.rg, u.g.ly⟩, fun _ => ⟨by omega, fun z => ⟨by rw [ex, show i = dd 0 3 by omega], rfl⟩, fun z => cpJ_u (by omega) (partOf_e u.b.ly ha (by omega)) ⟨by omega, ih _ _ ⟨by omega, ?_⟩ (by omega)⟩⟩⟩
  have q := h1 i i0.1 (by omega)
  have s := sm_s pt (x := i) i0.1
  have lo : 0 ≤ sm pt i.toNat := sm_nn (fun j j0 j1 => (h1 j j0 (by omega)).2)
  have hi : sm pt (i + 1).toNat ≤ sm pt (dd 0 3).toNat := by
    rw [show (dd 0 3).toNat = (i + 1).toNat + (dd 0 3 - (i + 1)).toNat by omega, sm_app]
    have := sm_nn (f := fun x => pt ((((i + 1).toNat : Nat) : Int) + x)) (n := (dd 0 3 - (i + 1)).toNat) (fun j j0 j1 => (h1 _ (by omega) (by omega)).2)
    omega
  rw [q.1, ex, jadd_e ⟨by omega, by omega⟩, s]
theorem actsThere_x (ly : lay1 G R b) {f : Int → Int} (h : ∀ i, 0 ≤ i → i < 8 → V (b + 1) i = f i) : cpI 1 (sm f (8 : Int).toNat) 20 [(4, (b : Int))] G R V := by
  refine c_X1_actsThere (t_X1_actsThere_0 ly ?_)
  refine pool2 (f := fun x i => [some (4, (b : Int)), some (0, x), some (0, i)]) (fun x i => (0 ≤ i ∧ i ≤ 8) ∧ x = sm f i.toNat ∧ (0 ≤ x ∧ x ≤ i)) (fun _ i => (8 - i).toNat) (fun x i hi ih => ?_) 0 0 ⟨by omega, rfl, by omega⟩
  obtain ⟨i0, ex, xr⟩ := hi
  have s := sm_s f (x := i) i0.1
  refine t_X1_actsThere_4 ly ⟨by omega, fun z => ⟨by rw [ex, show i = 8 by omega], rfl⟩, fun z => ⟨by omega, fun b01 => ⟨fun y => ⟨by omega, ih _ _ ⟨by omega, ?_, by omega⟩ (by omega)⟩, fun y => ⟨by omega, by omega, ih _ _ ⟨by omega, ?_, by omega⟩ (by omega)⟩⟩⟩⟩
  · rw [h i i0.1 (by omega)] at y; omega
  · rw [h i i0.1 (by omega)] at y b01; omega
theorem colour_K (h : CI G R V B M S N W L I) (k5 : I 23 5 0 = I 3 0 3) (K1 : 1 ≤ I 3 0 3) (tg : tbG (I 3 0 3) (tbD (I 3))) (hs : hsX (I 3)) {a b k : Int} (ha : i32 a) (hb : i32 b) (hk : i32 k) (ab : fl (I 23 2) b = 1 → aC I b) (rd : fl (I 23 2) b = 1 → ∀ d, 0 ≤ d → d < I 3 0 3 → 0 ≤ rdM (I 3) (fun d => I 23 3 (300 * b + d)) (I 3 207 d) ∧ rdM (I 3) (fun d => I 23 3 (300 * b + d)) (I 3 207 d) ≤ 1000000000000000) (r0 : fl (I 23 2) b = 1 → rdM (I 3) (fun d => I 23 3 (300 * b + d)) (I 3 207 0) = I 23 3 (300 * b + 0)) (pg : cuO (fl (I 23 2) b) (I 23 3 (300 * b + 0)) a k → prtP (I 3 0 3) (tbD (I 3)) (fun d => k ^ (rdM (I 3) (fun d => I 23 3 (300 * b + d)) (I 3 207 d)).toNat) pp) : cw 8 (fun r G' R' V' => qM B M S N W L I (kpJ I a (fun d => k ^ (rdM (I 3) (fun d => I 23 3 (300 * b + d)) (I 3 207 d)).toNat) pp) (cuX (fl (I 23 2) b) (I 23 3 (300 * b + 0)) a k) (cuO (fl (I 23 2) b) (I 23 3 (300 * b + 0)) a k) G' R' r V') 123 [(4, (B : Int)), (0, a), (0, b), (0, k)] G R V := by
  obtain ⟨T, ow, us, w, c0, hN⟩ := h
  obtain ⟨g, p, n, C, D, o, m, E, u, lk⟩ := cI_cTl c0
  refine cwv_cw (P := fun G R => qM B M S N W L I (kpJ I a (fun d => k ^ (rdM (I 3) (fun d => I 23 3 (300 * b + d)) (I 3 207 d)).toNat) pp) (cuX (fl (I 23 2) b) (I 23 3 (300 * b + 0)) a k) (cuO (fl (I 23 2) b) (I 23 3 (300 * b + 0)) a k) G R) ?_
  have X1 : ¬ ((0 ≤ a ∧ a < 8) ∧ (0 ≤ k ∧ k ≤ 100)) → (-1 : Int) = cuX (fl (I 23 2) b) (I 23 3 (300 * b + 0)) a k := fun z => by unfold cuX; rw [if_pos z]
  have rf : ¬ ((0 ≤ a ∧ a < 8) ∧ (0 ≤ k ∧ k ≤ 100)) → cwv 7 (fun r V' => ∃ v : Int, r = some (0, v) ∧ (i32 v ∧ qM B M S N W L I (kpJ I a (fun d => k ^ (rdM (I 3) (fun d => I 23 3 (300 * b + d)) (I 3 207 d)).toNat) pp) (cuX (fl (I 23 2) b) (I 23 3 (300 * b + 0)) a k) (cuO (fl (I 23 2) b) (I 23 3 (300 * b + 0)) a k) G R (some (2, v)) V')) 138 [(4, (B : Int)), (0, (-1))] G R V := fun z => qM_r c0 hN (fun q => z q.1) (by omega) (X1 z)
  refine c_X7_colour (t_X7_colour_0 u.ly (bI_u (isActNumber_c ha) ⟨bi32 _, fun z => rf (fun q => bi_0.mp z q.1), fun z => ⟨hk, fun z2 => rf (by omega), fun z2 => ⟨fun z3 => bI_u (isAct_x c0 hb) ⟨bi32 _, fun z4 => ⟨B + 52, ⟨u.rb, u.u.b.ly⟩, ?_⟩, fun z4 => ?_⟩, fun z3 => rf (by omega)⟩⟩⟩))
  · have a0 := bi_nz z
    have f1 := bi_nz z4
    have b0 := (fl_1 f1).1
    have av := aV c0 k5 f1
    have pb := ab f1
    have bd := prt_b tg pb
    have m0 := pb.2.2
    (try dsimp only at bd m0)
    have ak : (0 ≤ a ∧ a < 8) ∧ (0 ≤ k ∧ k ≤ 100) := ⟨a0, by omega⟩
    have s0 := bd 0 (by omega) (by omega)
    have e0 := (av 0 (by omega) (by omega)).1
    have X2 : cuX (fl (I 23 2) b) (I 23 3 (300 * b + 0)) a k = if 1000000000000000 < k ^ (I 23 3 (300 * b + 0)).toNat then -5 else k ^ (I 23 3 (300 * b + 0)).toNat := by unfold cuX; rw [if_neg (fun q => q ak), if_neg (fun q => q f1)]
    refine cpJ_u (by omega) (placesOf_e u.u.b.ly b0) ?_
    rw [e0]
    have r := stp_r (pow_nn (b := k) (by omega) (I 23 3 (300 * b + 0)).toNat)
    refine cpJ_u (by omega) (powerUpTo_e (by omega) (by omega)) ⟨⟨by omega, by omega⟩, fun z5 => ?_, fun z5 => ?_⟩
    · have le : k ^ (I 23 3 (300 * b + 0)).toNat ≤ 1000000000000000 := stp_le.mp (by omega)
      have ok : cuO (fl (I 23 2) b) (I 23 3 (300 * b + 0)) a k := ⟨ak, f1, le⟩
      have pg' := pg ok
      have pb2 := prt_b tg pg'
      have pm := pg'.2.2
      (try dsimp only at pb2 pm)
      refine cwv_mono (show 4 ≤ 7 by omega) (takeColourings_x u.k u.u lk hs c0.th b0 (by omega) (by omega) tg (mk := fun d => I 23 3 (300 * b + d)) (fun d d0 d1 => (av d d0 d1).1) (fun d d0 d1 => ?_) (fun d d0 d1 => ?_) pg') (fun r V1 h1 => ⟨h1.1, qM_k c0 hN k5 K1 a0 ok ?_ h1.2⟩)
      · have := bd d d0 d1
        (try dsimp only)
        omega
      · have q := rd f1 d d0 d1
        have q2 := pb2 d d0 d1
        exact ⟨by omega, stp_l (by omega)⟩
      · (try dsimp only)
        rw [X2, if_neg (by omega), r0 f1]
    · have gt : 1000000000000000 < k ^ (I 23 3 (300 * b + 0)).toNat := stp_lt.mp z5
      exact qM_r c0 hN (fun q => by have := q.2.2; omega) (by omega) (by rw [X2, if_pos gt])
  · have a0 := bi_nz z
    have f1 := bi_0.mp z4
    exact qM_r c0 hN (fun q => f1 q.2.1) (by omega) (by unfold cuX; rw [if_neg (fun q => q ⟨a0, by omega⟩), if_pos f1])
theorem parts_K (h : CI G R V B M S N W L I) (k5 : I 23 5 0 = I 3 0 3) {a c : Int} (ha : i32 a) (hc : i32 c) : cw 8 (fun r G' R' V' => r = some (2, rdX (fl (I 23 2) a) (I 3 0 3) c (I 23 4 (300 * a + c))) ∧ CI G' R' V' B M S N W L I) 125 [(4, (B : Int)), (0, a), (0, c)] G R V := opB h (fun T ow us w c0 => by
  obtain ⟨g, p, n, C, D, o, m, E, u, lk⟩ := cI_cTl c0
  have e3 : V (g + 10) 1 = I 3 0 3 := lk_3 lk c0.th
  have cl := u.u.g.h.a.cl _ (c0.th (g + 10) 1)
  refine c_X7_parts (t_X7_parts_0 u.ly (bI_u (isAct_x c0 ha) ⟨bi32 _, fun z => ⟨_, rfl, ?_, c0.th⟩, fun z => ⟨B + 52, ⟨u.rb, u.u.b.ly⟩, g, ⟨u.u.rg, u.u.g.ly⟩, bI_u (isClass_k u.u.g.h.a.ly hc) ⟨bi32 _, fun z2 => ⟨_, rfl, ?_, c0.th⟩, fun z2 => ?_⟩⟩⟩))
  · unfold rdX; rw [if_neg (fun q => bi_0.mp z q.1)]
  · have q := bi_0.mp z2
    rw [e3] at q
    unfold rdX; rw [if_neg (fun y => q y.2)]
  · have f1 := bi_nz z
    have c1 := bi_nz z2
    rw [e3] at c1
    refine cpJ_u (by omega) (partOf_e u.u.b.ly (fl_1 f1).1 (by omega)) ⟨_, rfl, ?_, c0.th⟩
    unfold rdX; rw [if_pos ⟨f1, c1⟩]; exact (aV c0 k5 f1 c c1.1 c1.2).2)
theorem mark_K (h : CI G R V B M S N W L I) (k5 : I 23 5 0 = I 3 0 3) {a c : Int} (ha : i32 a) (hc : i32 c) : cw 8 (fun r G' R' V' => r = some (2, rdX (fl (I 23 2) a) (I 3 0 3) c (I 23 3 (300 * a + c))) ∧ CI G' R' V' B M S N W L I) 126 [(4, (B : Int)), (0, a), (0, c)] G R V := opB h (fun T ow us w c0 => by
  obtain ⟨g, p, n, C, D, o, m, E, u, lk⟩ := cI_cTl c0
  have e3 : V (g + 10) 1 = I 3 0 3 := lk_3 lk c0.th
  have cl := u.u.g.h.a.cl _ (c0.th (g + 10) 1)
  refine c_X7_mark (t_X7_mark_0 u.ly (bI_u (isAct_x c0 ha) ⟨bi32 _, fun z => ⟨_, rfl, ?_, c0.th⟩, fun z => ⟨B + 52, ⟨u.rb, u.u.b.ly⟩, g, ⟨u.u.rg, u.u.g.ly⟩, bI_u (isClass_k u.u.g.h.a.ly hc) ⟨bi32 _, fun z2 => ⟨_, rfl, ?_, c0.th⟩, fun z2 => ?_⟩⟩⟩))
  · unfold rdX; rw [if_neg (fun q => bi_0.mp z q.1)]
  · have q := bi_0.mp z2
    rw [e3] at q
    unfold rdX; rw [if_neg (fun y => q y.2)]
  · have f1 := bi_nz z
    have c1 := bi_nz z2
    rw [e3] at c1
    refine cpJ_u (by omega) (markOf_e u.u.b.ly (fl_1 f1).1 (by omega)) ⟨_, rfl, ?_, c0.th⟩
    unfold rdX; rw [if_pos ⟨f1, c1⟩]; exact (aV c0 k5 f1 c c1.1 c1.2).1)
/-- what the bench's cells are, with bounds -/
theorem aV2 (c : cI G R V B M S T ow us w W L I) (k5 : I 23 5 0 = I 3 0 3) (tg : tbG (I 3 0 3) (tbD (I 3))) {a : Int} (h : fl (I 23 2) a = 1) (ab : aC I a) : ∀ d, 0 ≤ d → d < I 3 0 3 → (V (B + 52 + 3) (a * 300 + d) = I 23 3 (300 * a + d) ∧ V (B + 52 + 4) (a * 300 + d) = I 23 4 (300 * a + d)) ∧ (0 ≤ I 23 3 (300 * a + d) ∧ I 23 3 (300 * a + d) ≤ 1000000000000000) ∧ (0 ≤ I 23 4 (300 * a + d) ∧ I 23 4 (300 * a + d) ≤ 1000000000000000) := fun d d0 d1 => by
  have bd := prt_b tg ab d d0 d1
  have bp := prt_p tg ab d d0 d1
  have m0 := ab.2.2
  have p0 := ab.1 d d0 d1
  (try dsimp only at bd bp m0 p0)
  exact ⟨aV c k5 h d d0 d1, by omega, by omega⟩
theorem same_K (h : CI G R V B M S N W L I) (k5 : I 23 5 0 = I 3 0 3) (tg : tbG (I 3 0 3) (tbD (I 3))) {a b : Int} (ha : i32 a) (hb : i32 b) (aa : fl (I 23 2) a = 1 → aC I a) (ab : fl (I 23 2) b = 1 → aC I b) : cw 8 (fun r G' R' V' => r = some (0, saX (fl (I 23 2) a) (fl (I 23 2) b) (I 3 0 3) (fun d => I 23 3 (300 * a + d)) (fun d => I 23 3 (300 * b + d))) ∧ CI G' R' V' B M S N W L I) 128 [(4, (B : Int)), (0, a), (0, b)] G R V := opA h (fun T ow us w c0 => by
  obtain ⟨g, p, n, C, D, o, m, E, u, lk⟩ := cI_cTl c0
  have rf : ∀ {X : Int}, (-2 : Int) = X → cwv 7 (fun r V' => ∃ v : Int, r = some (0, v) ∧ ∃ v2 : Int, some ((0 : Nat), v) = some (0, v2) ∧ v2 = X ∧ TH T V') 138 [(4, (B : Int)), (0, (-2))] G R V := fun e => cwv_mono (by omega) (refuse_k c0.c.ly c0.c.re c0.th ⟨by omega, by omega⟩) (fun r V' q => by obtain ⟨v, q1, q2, q3⟩ := q; exact ⟨v, q1, v, rfl, by rw [q2]; exact e, q3⟩)
  refine c_X7_same (t_X7_same_0 u.ly (bI_u (isAct_x c0 ha) ⟨bi32 _, fun z => rf (by unfold saX; rw [if_neg (fun q => bi_0.mp z q.1)]), fun z => bI_u (isAct_x c0 hb) ⟨bi32 _, fun z2 => ⟨B + 52, ⟨u.rb, u.u.b.ly⟩, ?_⟩, fun z2 => rf (by unfold saX; rw [if_neg (fun q => bi_0.mp z2 q.2)])⟩⟩))
  have f1 := bi_nz z
  have f2 := bi_nz z2
  have v1 := aV2 c0 k5 tg f1 (aa f1)
  have v2 := aV2 c0 k5 tg f2 (ab f2)
  refine cwI_u (by omega) (firstDifference_x u.u lk c0.th (fl_1 f1).1 (fl_1 f2).1 (m1 := fun d => I 23 3 (300 * a + d)) (m2 := fun d => I 23 3 (300 * b + d)) (fun d d0 d1 => ⟨(v1 d d0 d1).1.1, by have := (v1 d d0 d1).2.1; exact ⟨by omega, by omega⟩⟩) (fun d d0 d1 => ⟨(v2 d d0 d1).1.1, by have := (v2 d d0 d1).2.1; exact ⟨by omega, by omega⟩⟩)) (fun v V1 hv => ?_)
  obtain ⟨sd, e1⟩ := hv
  rw [e1]
  refine cwv_mono (by omega) (accept_k c0.c.ly c0.c.re c0.th) (fun r V' q => by obtain ⟨v, q1, q2, q3⟩ := q; exact ⟨v, q1, v, rfl, by rw [q2]; unfold saX; rw [if_pos ⟨f1, f2⟩]; exact the_e sdP_u sd, q3⟩))
theorem mpX_s {x : Int} : (¬ 1000000000000000 < stp x → stp x = mpX x) ∧ (1000000000000000 < stp x → (-5 : Int) = mpX x) := by
  unfold mpX
  refine ⟨fun z => ?_, fun z => ?_⟩
  · have := stp_le.mp (show stp x ≤ 1000000000000000 by omega)
    rw [if_neg (by omega), stp_l this]
  · rw [if_pos (stp_lt.mp z)]
theorem maps_K (h : CI G R V B M S N W L I) (k5 : I 23 5 0 = I 3 0 3) (tg : tbG (I 3 0 3) (tbD (I 3))) (sp : ∀ d, 0 ≤ d → d < I 3 0 3 → 0 ≤ I 3 210 d ∧ I 3 210 d ≤ 120) {a b e : Int} (ha : i32 a) (hb : i32 b) (he : i32 e) (aa : fl (I 23 2) a = 1 → aC I a) (ab : fl (I 23 2) b = 1 → aC I b) : cw 8 (fun r G' R' V' => r = some (2, moX (fl (I 23 2) a) (fl (I 23 2) b) e (I 3 0 3) (fun d => I 23 3 (300 * a + d)) (fun d => I 23 3 (300 * b + d)) (fun d => I 23 4 (300 * a + d)) (I 3 210)) ∧ CI G' R' V' B M S N W L I) 129 [(4, (B : Int)), (0, a), (0, b), (0, e)] G R V := opB h (fun T ow us w c0 => by
  obtain ⟨g, p, n, C, D, o, m, E, u, lk⟩ := cI_cTl c0
  refine c_X7_maps (t_X7_maps_0 u.ly (bI_u (isAct_x c0 ha) ⟨bi32 _, fun z => ⟨_, rfl, ?_, c0.th⟩, fun z => bI_u (isAct_x c0 hb) ⟨bi32 _, fun z2 => ⟨_, rfl, ?_, c0.th⟩, fun z2 => bI_u (isWay_e he) ⟨bi32 _, fun z3 => ⟨he, fun z4 => ⟨B + 52, ⟨u.rb, u.u.b.ly⟩, ?_⟩, fun z4 => ⟨B + 52, ⟨u.rb, u.u.b.ly⟩, ?_⟩⟩, fun z3 => ⟨_, rfl, ?_, c0.th⟩⟩⟩⟩))
  · unfold moX; rw [if_neg (fun q => bi_0.mp z q.1)]
  · unfold moX; rw [if_neg (fun q => bi_0.mp z2 q.2.1)]
  · have f1 := bi_nz z
    have f2 := bi_nz z2
    have w0 := bi_nz z3
    have v1 := aV2 c0 k5 tg f1 (aa f1)
    have v2 := aV2 c0 k5 tg f2 (ab f2)
    refine cpJ_u (by omega) (mapsOnToAll_x u.u lk c0.th (fl_1 f1).1 (fl_1 f2).1 (m1 := fun d => I 23 3 (300 * a + d)) (m2 := fun d => I 23 3 (300 * b + d)) (pt := fun d => I 23 4 (300 * a + d)) (fun d d0 d1 => ⟨(v1 d d0 d1).1.1, by have := (v1 d d0 d1).2.1; exact ⟨by omega, by omega⟩⟩) (fun d d0 d1 => ⟨(v2 d d0 d1).1.1, by have := (v2 d d0 d1).2.1; exact ⟨by omega, by omega⟩⟩) (fun d d0 d1 => ⟨(v1 d d0 d1).1.2, (v1 d d0 d1).2.2⟩) sp) ?_
    have eX : moX (fl (I 23 2) a) (fl (I 23 2) b) e (I 3 0 3) (fun d => I 23 3 (300 * a + d)) (fun d => I 23 3 (300 * b + d)) (fun d => I 23 4 (300 * a + d)) (I 3 210) = bi (∀ c, 0 ≤ c → c < I 3 0 3 → I 23 3 (300 * a + c) = I 23 3 (300 * b + c)) * mpX (pr (fun c => fac (I 23 4 (300 * a + c)).toNat * I 3 210 c ^ (I 23 4 (300 * a + c)).toNat) (I 3 0 3).toNat) := by unfold moX; rw [if_pos ⟨f1, f2, w0⟩, if_neg z4]; rfl
    have pn : 0 ≤ pr (fun c => fac (I 23 4 (300 * a + c)).toNat * I 3 210 c ^ (I 23 4 (300 * a + c)).toNat) (I 3 0 3).toNat := pr_nn (fun j j0 j1 => Int.mul_nonneg (by have := fac_1 (I 23 4 (300 * a + j)).toNat; omega) (pow_nn (sp j j0 (by omega)).1 _))
    have r := stp_r pn
    rw [eX]
    (try dsimp only)
    rcases bi_01 (∀ c, 0 ≤ c → c < I 3 0 3 → I 23 3 (300 * a + c) = I 23 3 (300 * b + c)) with y | y
    · rw [y, Int.zero_mul, Int.zero_mul]
      exact ⟨⟨by omega, by omega⟩, fun _ => ⟨_, rfl, rfl, c0.th⟩, fun q => by omega⟩
    · rw [y, Int.one_mul, Int.one_mul]
      exact ⟨⟨by omega, by omega⟩, fun q => ⟨_, rfl, mpX_s.1 q, c0.th⟩, fun q => ⟨_, rfl, mpX_s.2 q, c0.th⟩⟩
  · have f1 := bi_nz z
    have f2 := bi_nz z2
    have w0 := bi_nz z3
    have v1 := aV2 c0 k5 tg f1 (aa f1)
    have v2 := aV2 c0 k5 tg f2 (ab f2)
    refine cpJ_u (by omega) (mapsAlong_x u.u lk c0.th (fl_1 f1).1 (fl_1 f2).1 (mk := fun d => I 23 3 (300 * b + d)) (pt := fun d => I 23 4 (300 * a + d)) (fun d d0 d1 => ⟨(v2 d d0 d1).1.1, (v2 d d0 d1).2.1⟩) (fun d d0 d1 => ⟨(v1 d d0 d1).1.2, (v1 d d0 d1).2.2⟩)) ?_
    have eX : moX (fl (I 23 2) a) (fl (I 23 2) b) e (I 3 0 3) (fun d => I 23 3 (300 * a + d)) (fun d => I 23 3 (300 * b + d)) (fun d => I 23 4 (300 * a + d)) (I 3 210) = mpX (pr (fun c => I 23 3 (300 * b + c) ^ (I 23 4 (300 * a + c)).toNat) (I 3 0 3).toNat) := by unfold moX; rw [if_pos ⟨f1, f2, w0⟩, if_pos z4]; rfl
    have r := stp_r (x := pr (fun c => I 23 3 (300 * b + c) ^ (I 23 4 (300 * a + c)).toNat) (I 3 0 3).toNat) (pr_nn (fun j j0 j1 => pow_nn (v2 j j0 (by omega)).2.1.1 _))
    rw [eX]
    (try dsimp only)
    exact ⟨⟨by omega, by omega⟩, fun q => ⟨_, rfl, mpX_s.1 q, c0.th⟩, fun q => ⟨_, rfl, mpX_s.2 q, c0.th⟩⟩
  · unfold moX; rw [if_neg (fun q => bi_0.mp z3 q.2.2)])
theorem act_K (h : CI G R V B M S N W L I) (k5 : I 23 5 0 = I 3 0 3) (K1 : 1 ≤ I 3 0 3) (tg : tbG (I 3 0 3) (tbD (I 3))) (hs : hsX (I 3)) {a wh x : Int} (ha : i32 a) (hw : i32 wh) (hx : i32 x) (ab : fl (I 23 2) a = 1 → aC I a) : cw 8 (fun r G' R' V' => r = some (2, acX (fl (I 23 2) a) wh x (I 3 0 3) (I 3 0 1) (I 3 0 2) (fun d => I 23 3 (300 * a + d)) (fun d => I 23 4 (300 * a + d)) (I 3 207) (I 3 204) (I 3 205) (rdM (I 3) (fun d => I 23 3 (300 * a + d)))) ∧ CI G' R' V' B M S N W L I) 127 [(4, (B : Int)), (0, a), (0, wh), (0, x)] G R V := opB h (fun T ow us w c0 => by
  obtain ⟨g, p, n, C, D, o, m, E, u, lk⟩ := cI_cTl c0
  have e1 : V (g + 1) 1 = I 3 0 1 := lk.2.1 _ (c0.th _ _)
  have e2 : V (g + 10) 0 = I 3 0 2 := lk.2.2.2.2.2.2.1 _ (c0.th _ _)
  have e3 : V (g + 10) 1 = I 3 0 3 := lk_3 lk c0.th
  have ct := u.u.g.t.ct _ (c0.th (g + 1) 1)
  have cl := u.u.g.h.a.cl _ (c0.th (g + 10) 1)
  have H3 : I 3 0 2 ≤ 300 := hs.1.2.1
  have hd := u.u.g.t.d0
  refine c_X7_act (t_X7_act_0 u.ly (bI_u (isAct_x c0 ha) ⟨bi32 _, fun z => ⟨B + 52, ⟨u.rb, u.u.b.ly⟩, g, ⟨u.u.rg, u.u.g.ly⟩, hw, fun y => ⟨_, rfl, ?_, c0.th⟩, fun y => ?_, fun y => ?_, fun y => ?_, fun y => ?_, fun y => ?_, fun y => ?_⟩, fun z => ⟨_, rfl, ?_, c0.th⟩⟩))
  · unfold acX
    rw [if_pos (bi_nz z), if_neg (by omega), if_neg (by omega), if_neg (by omega), if_neg (by omega), if_neg (by omega), if_neg (by omega)]
  · have f1 := bi_nz z
    have v1 := aV2 c0 k5 tg f1 (ab f1)
    refine cpJ_u (by omega) (placesOf_e u.u.b.ly (fl_1 f1).1) ⟨_, rfl, ?_, c0.th⟩
    unfold acX
    rw [if_pos f1, if_pos y]
    exact (v1 0 (by omega) (by omega)).1.1
  · have f1 := bi_nz z
    have pb := ab f1
    have v1 := aV2 c0 k5 tg f1 pb
    have sl : sm (fun d => I 23 4 (300 * a + d)) (I 3 0 3).toNat ≤ 1000000000000000 := by
      have m0 := pb.2.2
      rw [pb.2.1 0 (by omega) (by omega)] at m0
      refine Int.le_trans (sm_le (fun c q0 q1 => ?_)) m0
      have t1 := tg.2.2.1 c q0 (by omega)
      have t2 := tg.2.2.2 c c q0 (by omega) q0 (by omega)
      exact mul_ge (v1 c q0 (by omega)).2.2.1 (by omega)
    refine cpJ_u (by omega) (allParts_x u.u lk c0.th (fl_1 f1).1 (pt := fun d => I 23 4 (300 * a + d)) (fun d d0 d1 => ⟨(v1 d d0 d1).1.2, (v1 d d0 d1).2.2.1⟩) sl) ⟨_, rfl, ?_, c0.th⟩
    unfold acX
    rw [if_pos f1, if_neg (by omega), if_pos y]
  · have f1 := bi_nz z
    have v1 := aV2 c0 k5 tg f1 (ab f1)
    refine cwI_u (by omega) (idleHeap_x u.u lk c0.th (fl_1 f1).1 K1 (mk := fun d => I 23 3 (300 * a + d)) (fun d d0 d1 => ⟨(v1 d d0 d1).1.1, by have := (v1 d d0 d1).2.1; exact ⟨by omega, by omega⟩⟩)) (fun v V1 hv => ?_)
    obtain ⟨id, ee⟩ := hv
    rw [ee]
    refine ⟨?_, _, rfl, ?_, c0.th⟩
    · rcases id with ⟨c, c1, _, _, ev⟩ | ⟨_, ev⟩
      · have := (hs.2.2.2.2.1.2.2.1 c (by omega) c1.2).1
        rw [ev]
        exact ⟨by omega, by omega⟩
      · exact ⟨by omega, by omega⟩
    · unfold acX
      rw [if_pos f1, if_neg (by omega), if_neg (by omega), if_pos y]
      exact the_e idP_u id
  · have f1 := bi_nz z
    have v1 := aV2 c0 k5 tg f1 (ab f1)
    refine bI_u (isTurn_k u.u.g.t.ly hx) ⟨bi32 _, fun z2 => ⟨_, rfl, ?_, c0.th⟩, fun z2 => ?_⟩
    · have q := bi_0.mp z2
      rw [e1] at q
      unfold acX
      rw [if_pos f1, if_neg (by omega), if_neg (by omega), if_neg (by omega), if_pos y, if_neg q]
    · have q := bi_nz z2
      rw [e1] at q
      refine cpJ_u (by omega) (leftByTurn_e u.u lk hs c0.th (fl_1 f1).1 q) ⟨_, rfl, ?_, c0.th⟩
      have mb := (hg_mb hs q).2
      unfold acX
      rw [if_pos f1, if_neg (by omega), if_neg (by omega), if_neg (by omega), if_pos y, if_pos q]
      exact (v1 _ mb.1 mb.2).1.1
  · have f1 := bi_nz z
    have v1 := aV2 c0 k5 tg f1 (ab f1)
    refine bI_u (isTurn_k u.u.g.t.ly hx) ⟨bi32 _, fun z2 => ⟨_, rfl, ?_, c0.th⟩, fun z2 => ?_⟩
    · have q := bi_0.mp z2
      rw [e1] at q
      unfold acX
      rw [if_pos f1, if_neg (by omega), if_neg (by omega), if_neg (by omega), if_neg (by omega), if_pos y, if_neg q]
    · have q := bi_nz z2
      rw [e1] at q
      have l5 : V (g + 15) x = I 3 205 x := lk_j lk c0.th 5 (by omega) (by omega) (by omega) x
      refine ⟨by omega, fun _ => ?_⟩
      rw [l5]
      refine cpJ_u (by omega) (roundsOf_e u.u lk hs c0.th (fl_1 f1).1 (hg_mb hs q).1 (mk := fun d => I 23 3 (300 * a + d)) (fun d d0 d1 => (v1 d d0 d1).1.1) (fun d d0 d1 => (v1 d d0 d1).2.1)) ⟨_, rfl, ?_, c0.th⟩
      unfold acX
      rw [if_pos f1, if_neg (by omega), if_neg (by omega), if_neg (by omega), if_neg (by omega), if_pos y, if_pos q]
  · have f1 := bi_nz z
    have v1 := aV2 c0 k5 tg f1 (ab f1)
    refine bI_u (isHeap_k u.u.g.h.a.ly hx) ⟨bi32 _, fun z2 => ⟨_, rfl, ?_, c0.th⟩, fun z2 => ?_⟩
    · have q := bi_0.mp z2
      rw [e2] at q
      unfold acX
      rw [if_pos f1, if_neg (by omega), if_neg (by omega), if_neg (by omega), if_neg (by omega), if_neg (by omega), if_pos y, if_neg q]
    · have q := bi_nz z2
      rw [e2] at q
      refine cpJ_u (by omega) (roundsOf_e u.u lk hs c0.th (fl_1 f1).1 q (mk := fun d => I 23 3 (300 * a + d)) (fun d d0 d1 => (v1 d d0 d1).1.1) (fun d d0 d1 => (v1 d d0 d1).2.1)) ⟨_, rfl, ?_, c0.th⟩
      unfold acX
      rw [if_pos f1, if_neg (by omega), if_neg (by omega), if_neg (by omega), if_neg (by omega), if_neg (by omega), if_pos y, if_pos q]
  · unfold acX
    rw [if_neg (bi_0.mp z)])
theorem count_K (h : CI G R V B M S N W L I) {x : Int} (hx : i32 x) : cw 8 (fun r G' R' V' => r = some (0, cnX x (I 3 0 0) (I 3 0 1) (I 3 0 2) (I 3 0 3) (sm (I 23 2) (8 : Int).toNat) (I 23 0 0)) ∧ CI G' R' V' B M S N W L I) 106 [(4, (B : Int)), (0, x)] G R V := opA h (fun T ow us w c0 => by
  obtain ⟨g, p, n, C, D, o, m, E, u, lk⟩ := cI_cTl c0
  have av := acT_v c0.kr.2.2 c0.th
  have e0 : V (g + 1) 0 = I 3 0 0 := lk.1 _ (c0.th _ _)
  have e1 : V (g + 1) 1 = I 3 0 1 := lk.2.1 _ (c0.th _ _)
  have e2 : V (g + 10) 0 = I 3 0 2 := lk.2.2.2.2.2.2.1 _ (c0.th _ _)
  have e3 : V (g + 10) 1 = I 3 0 3 := lk_3 lk c0.th
  have e5 : V (B + 52) 3 = I 23 0 0 := c0.kr.1 _ (c0.th _ _)
  refine c_X7_count (t_X7_count_0 u.ly ⟨hx, fun y => ⟨_, rfl, ?_, c0.th⟩, fun y => ⟨B + 52, ⟨u.rb, u.u.b.ly⟩, g, ⟨u.u.rg, u.u.g.ly⟩, fun _ => ⟨_, rfl, ?_, c0.th⟩⟩, fun y => ⟨B + 52, ⟨u.rb, u.u.b.ly⟩, g, ⟨u.u.rg, u.u.g.ly⟩, fun _ => ⟨_, rfl, ?_, c0.th⟩⟩, fun y => ⟨B + 52, ⟨u.rb, u.u.b.ly⟩, g, ⟨u.u.rg, u.u.g.ly⟩, fun _ => ⟨_, rfl, ?_, c0.th⟩⟩, fun y => ⟨B + 52, ⟨u.rb, u.u.b.ly⟩, g, ⟨u.u.rg, u.u.g.ly⟩, fun _ => ⟨_, rfl, ?_, c0.th⟩⟩, fun y => ⟨B + 52, ⟨u.rb, u.u.b.ly⟩, cpI_u (by omega) (actsThere_x u.u.b.ly (f := I 23 2) av.1) ⟨_, rfl, ?_, c0.th⟩⟩, fun y => ⟨B + 52, ⟨u.rb, u.u.b.ly⟩, fun _ => ⟨_, rfl, ?_, c0.th⟩⟩⟩)
  · unfold cnX
    rw [if_neg (by omega), if_neg (by omega), if_neg (by omega), if_neg (by omega), if_neg (by omega), if_neg (by omega)]
  all_goals (unfold cnX; subst y)
  · rw [if_pos rfl]; exact e0
  · rw [if_neg (by omega), if_pos rfl]; exact e1
  · rw [if_neg (by omega), if_neg (by omega), if_pos rfl]; exact e2
  · rw [if_neg (by omega), if_neg (by omega), if_neg (by omega), if_pos rfl]; exact e3
  · rw [if_neg (by omega), if_neg (by omega), if_neg (by omega), if_neg (by omega), if_pos rfl]
  · rw [if_neg (by omega), if_neg (by omega), if_neg (by omega), if_neg (by omega), if_neg (by omega), if_pos rfl]; exact e5)
end
