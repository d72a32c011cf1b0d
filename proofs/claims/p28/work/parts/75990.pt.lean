/-! sets and rows of places, by rounds -/
noncomputable def stC (K : Int) (nu : Int → Int) (q : Int) : Int := sm (fun v => bi (sm (fun j => dgk 2 j.toNat v * nu j) K.toNat = q)) ((2 : Int) ^ K.toNat).toNat
def rwP (f k : Int) : Int := pr (fun i => if i < f then f - i else 0) k.toNat
noncomputable def dsm (n w : Int) : Int := sm (fun i => dgk 2 i.toNat w) n.toNat
theorem p2_p (r : Nat) : 1 ≤ (2 : Int) ^ r := pow_1 (by omega) r
theorem p2_s (r : Nat) : (2 : Int) ^ (r + 1) = 2 ^ r * 2 := Int.pow_succ 2 r
theorem dg_lo : ∀ (j : Nat) (v : Int), 0 ≤ v → v < (2 : Int) ^ j → dgk 2 j v = 0 := by
  intro j
  induction j with
  | zero =>
    intro v v0 v1
    rw [Int.pow_zero] at v1
    show v % 2 = 0
    omega
  | succ j ih =>
    intro v v0 v1
    rw [p2_s] at v1
    exact ih (v / 2) (by omega) (by omega)
theorem dg_hi : ∀ (r : Nat) (v : Int), 0 ≤ v → v < (2 : Int) ^ r → dgk 2 r ((2 : Int) ^ r + v) = 1 := by
  intro r
  induction r with
  | zero =>
    intro v v0 v1
    rw [Int.pow_zero] at v1 ⊢
    show (1 + v) % 2 = 1
    omega
  | succ r ih =>
    intro v v0 v1
    rw [p2_s] at v1 ⊢
    have q := ih (v / 2) (by omega) (by omega)
    show dgk 2 r (((2 : Int) ^ r * 2 + v) / 2) = 1
    rw [show ((2 : Int) ^ r * 2 + v) / 2 = 2 ^ r + v / 2 by omega]
    exact q
theorem dg_eq : ∀ (r j : Nat) (v : Int), j < r → dgk 2 j ((2 : Int) ^ r + v) = dgk 2 j v := by
  intro r
  induction r with
  | zero => intro j v h; omega
  | succ r ih =>
    intro j v h
    rw [p2_s]
    cases j with
    | zero =>
      show ((2 : Int) ^ r * 2 + v) % 2 = v % 2
      omega
    | succ j =>
      show dgk 2 j (((2 : Int) ^ r * 2 + v) / 2) = dgk 2 j (v / 2)
      rw [show ((2 : Int) ^ r * 2 + v) / 2 = 2 ^ r + v / 2 by omega]
      exact ih j (v / 2) (by omega)
theorem st_0 {nu : Int → Int} {q : Int} : stC 0 nu q = bi (0 = q) := by
  unfold stC
  show (0 : Int) + bi ((0 : Int) = q) = _
  omega
theorem st_s {nu : Int → Int} {q r : Int} (r0 : 0 ≤ r) : stC (r + 1) nu q = stC r nu q + stC r nu (q - nu r) := by
  have p1 := p2_p r.toNat
  have e1 : (r + 1).toNat = r.toNat + 1 := by omega
  have e2 : ((2 : Int) ^ (r + 1).toNat).toNat = ((2 : Int) ^ r.toNat).toNat + ((2 : Int) ^ r.toNat).toNat := by rw [e1, p2_s]; omega
  unfold stC
  rw [e2, sm_app]
  have a : sm (fun v => bi (sm (fun j => dgk 2 j.toNat v * nu j) (r + 1).toNat = q)) ((2 : Int) ^ r.toNat).toNat = sm (fun v => bi (sm (fun j => dgk 2 j.toNat v * nu j) r.toNat = q)) ((2 : Int) ^ r.toNat).toNat := sm_congr (fun v v0 v1 => by
    (try dsimp only)
    rw [sm_s _ r0]
    (try dsimp only)
    rw [dg_lo r.toNat v v0 (by omega), Int.zero_mul, Int.add_zero])
  have b : sm (fun i => (fun v => bi (sm (fun j => dgk 2 j.toNat v * nu j) (r + 1).toNat = q)) ((((2 : Int) ^ r.toNat).toNat : Int) + i)) ((2 : Int) ^ r.toNat).toNat = sm (fun v => bi (sm (fun j => dgk 2 j.toNat v * nu j) r.toNat = q - nu r)) ((2 : Int) ^ r.toNat).toNat := sm_congr (fun v v0 v1 => by
    (try dsimp only)
    rw [Int.toNat_of_nonneg (show 0 ≤ (2 : Int) ^ r.toNat by omega), sm_s _ r0]
    (try dsimp only)
    rw [dg_hi r.toNat v v0 (by omega), Int.one_mul, sm_congr (g := fun j => dgk 2 j.toNat v * nu j) (fun j j0 j1 => by (try dsimp only); rw [dg_eq r.toNat j.toNat v (by omega)])]
    exact bi_c (by omega))
  rw [a]
  rw [b]
theorem st_n {nu : Int → Int} {q r : Int} (hn : ∀ j, 0 ≤ j → j < r → 0 ≤ nu j) (q0 : q < 0) : stC r nu q = 0 := sm_zz (fun v v0 v1 => bi_f (fun e => by
  have := sm_nn (f := fun j => dgk 2 j.toNat v * nu j) (n := r.toNat) (fun j j0 j1 => Int.mul_nonneg (dgk_r (by omega) _ _).1 (hn j j0 (by omega)))
  omega))
theorem st_r {nu : Int → Int} {q r : Int} (r0 : 0 ≤ r ∧ r ≤ 8) : 0 ≤ stC r nu q ∧ stC r nu q ≤ 256 := by
  have p1 := p2_p r.toNat
  have p8 := pow_mono (b := 2) (by omega) (show r.toNat ≤ 8 by omega)
  have e8 : (2 : Int) ^ 8 = 256 := by decide
  have s := sm_b01 (f := fun v => sm (fun j => dgk 2 j.toNat v * nu j) r.toNat = q) ((2 : Int) ^ r.toNat) (by omega)
  have s' : 0 ≤ stC r nu q ∧ stC r nu q ≤ (2 : Int) ^ r.toNat := s
  omega
theorem rwP_r {f k : Int} (f0 : 0 ≤ f ∧ f ≤ 8) : 0 ≤ rwP f k ∧ rwP f k ≤ (8 : Int) ^ k.toNat := by
  unfold rwP
  refine ⟨pr_nn (fun i i0 i1 => by (try dsimp only); split <;> omega), ?_⟩
  generalize k.toNat = n
  induction n with
  | zero => show (1 : Int) ≤ 8 ^ 0; rw [Int.pow_zero]; omega
  | succ n ih =>
    rw [Int.pow_succ]
    show pr (fun i => if i < f then f - i else 0) n * (if ((n : Nat) : Int) < f then f - ((n : Nat) : Int) else 0) ≤ _
    refine Int.mul_le_mul ih (by split <;> omega) (by split <;> omega) (pow_nn (by omega) n)
section
variable {n N H C K : Int} {mul act : Int → Int → Int} {inv A : Int → Int} {S : Int → Int → Int} {sz co fo nu cn rp : Int → Int} {c d e g h k t x q : Int}
theorem rn_nc (gt : GT N mul inv) (as : AS n N mul act) (hA : SM N mul A) (nc : ncP (rE N A act) n K cn rp nu) : rnP n N K A act cn rp := by
  have cr : ∀ x, (0 ≤ x ∧ x < n) → 0 ≤ cn x ∧ cn x < K := fun x x0 => (nc.2.1 x x0.1 x0.2).1
  have ce : ∀ x, (0 ≤ x ∧ x < n) → rE N A act (rp (cn x)) x := fun x x0 => (nc.2.1 x x0.1 x0.2).2.2
  have rr : ∀ i, 0 ≤ i → i < K → 0 ≤ rp i ∧ rp i < n := fun i i0 i1 => (nc.2.2.1 i i0 i1).1
  refine ⟨nc.1.1, fun x x0 x1 => cr x ⟨x0, x1⟩, fun i i0 i1 => nc.2.2.1 i i0 i1, fun x y x0 y0 => ?_⟩
  have rx := rr _ (cr x x0).1 (cr x x0).2
  have ry := rr _ (cr y y0).1 (cr y y0).2
  constructor
  · intro e
    have q := ce y y0
    rw [← e] at q
    exact rE_tr gt as hA x0 (rE_sy gt as hA rx (ce x x0)) q
  · intro e
    have q : rE N A act (rp (cn x)) (rp (cn y)) := rE_tr gt as hA rx (rE_tr gt as hA rx (ce x x0) e) (rE_sy gt as hA ry (ce y y0))
    rcases Int.lt_trichotomy (cn x) (cn y) with w | w | w
    · exact absurd q (nc.2.2.2.2.1 _ _ (cr x x0).1 w (cr y y0).2)
    · exact w
    · exact absurd (rE_sy gt as hA rx q) (nc.2.2.2.2.1 _ _ (cr y y0).1 w (cr x x0).2)
/-- the round of x -/
theorem rd_x (gt : GT N mul inv) (as : AS n N mul act) (hA : SM N mul A) (nc : ncP (rE N A act) n K cn rp nu) {x y : Int} (x0 : 0 ≤ x ∧ x < n) (y0 : 0 ≤ y ∧ y < n) : (∃ t, (0 ≤ t ∧ t < N) ∧ A t = 1 ∧ act x t = y) ↔ cn y = cn x := by
  have rn := rn_nc gt as hA nc
  have N1 := gt.1
  constructor
  · intro z
    exact ((rn.2.2.2 x y x0 y0).mpr (Or.inr z)).symm
  · intro z
    rcases (rn.2.2.2 x y x0 y0).mp z.symm with w | w
    · exact ⟨0, by omega, hA.2.1, by rw [← w]; exact as.2.2.1 x x0.1 x0.2⟩
    · exact w
theorem rd_s (gt : GT N mul inv) (as : AS n N mul act) (hA : SM N mul A) (nc : ncP (rE N A act) n K cn rp nu) (x0 : 0 ≤ x ∧ x < n) : sm (fun y => bi (∃ t, (0 ≤ t ∧ t < N) ∧ A t = 1 ∧ act x t = y)) n.toNat = nu (cn x) := by
  have en := AS_n as
  have c0 := (nc.2.1 x x0.1 x0.2).1
  rw [nc.2.2.2.2.2 _ c0.1 c0.2]
  exact sm_congr (fun y y0 y1 => bi_c (rd_x gt as hA nc x0 ⟨y0, by omega⟩))
theorem nc_nu (nc : ncP (rE N A act) n K cn rp nu) (n0 : 0 ≤ n) (c0 : 0 ≤ c ∧ c < K) : 1 ≤ nu c ∧ nu c ≤ n := by
  have r := nc.2.2.1 c c0.1 c0.2
  rw [nc.2.2.2.2.2 c c0.1 c0.2]
  have s := sm_b01 (f := fun j => cn j = c) n n0
  have o := sm_one (f := fun j => bi (cn j = c)) (n := n.toNat) (j := rp c) (fun _ _ _ => bi_nn _) r.1.1 (by omega)
  (try dsimp only at o)
  rw [bi_t r.2] at o
  omega
/-- a round of one place is a place that is left -/
theorem nu_Z (gt : GT N mul inv) (as : AS n N mul act) (hA : SM N mul A) (nc : ncP (rE N A act) n K cn rp nu) (x0 : 0 ≤ x ∧ x < n) : nu (cn x) = 1 ↔ ∀ t, 0 ≤ t → t < N → A t = 1 → act x t = x := by
  have en := AS_n as
  have s := rd_s gt as hA nc x0
  have N1 := gt.1
  have ex : ∃ t, (0 ≤ t ∧ t < N) ∧ A t = 1 ∧ act x t = x := ⟨0, by omega, hA.2.1, as.2.2.1 x x0.1 x0.2⟩
  constructor
  · intro e t t0 t1 at1
    apply Classical.byContradiction
    intro no
    have y0 := AS_r as x0 (g := t) ⟨t0, t1⟩
    have z : sm (fun y => bi (x = y) * (fun _ => (1 : Int)) y + bi (act x t = y) * (fun _ => (1 : Int)) y) n.toNat ≤ sm (fun y => bi (∃ t, (0 ≤ t ∧ t < N) ∧ A t = 1 ∧ act x t = y)) n.toNat := sm_le (fun y _ _ => by
      (try dsimp only)
      by_cases a : x = y
      · have b : ¬ act x t = y := fun b => no (by rw [b, ← a])
        rw [bi_f b, bi_t a, ← a, bi_t ex]; omega
      · rw [bi_f a]
        by_cases b : act x t = y
        · rw [bi_t b, bi_t ⟨t, ⟨t0, t1⟩, at1, b⟩]; omega
        · rw [bi_f b]
          have := bi_nn (∃ t, (0 ≤ t ∧ t < N) ∧ A t = 1 ∧ act x t = y)
          omega)
    rw [sm_add, sm_dl x0.1 (by omega), sm_dl y0.1 (by omega), s] at z
    omega
  · intro al
    rw [← s]
    refine (sm_congr (g := fun y => bi (x = y) * (fun _ => (1 : Int)) y) (fun y _ _ => ?_)).trans (sm_dl x0.1 (by omega))
    (try dsimp only)
    rw [Int.mul_one]
    refine bi_c ⟨fun ⟨t, t0, at1, e⟩ => ?_, fun e => ?_⟩
    · rw [al t t0.1 t0.2 at1] at e; exact e
    · rw [← e]; exact ex
theorem one_n (gt : GT N mul inv) (as : AS n N mul act) (hA : SM N mul A) (nc : ncP (rE N A act) n K cn rp nu) : sm (fun x => bi (∀ t, 0 ≤ t → t < N → A t = 1 → act x t = x)) n.toNat = sm (fun c => bi (nu c = 1)) K.toNat ∧ sm (fun x => bi (nu (cn x) = 1)) n.toNat = sm (fun c => bi (nu c = 1)) K.toNat := by
  have en := AS_n as
  have eK : ((K.toNat : Nat) : Int) = K := Int.toNat_of_nonneg nc.1.1
  have b : sm (fun x => bi (nu (cn x) = 1)) n.toNat = sm (fun c => bi (nu c = 1)) K.toNat := by
    rw [sm_fib (c := cn) (m := K.toNat) (fun i i0 i1 => by have := (nc.2.1 i i0 (by omega)).1; omega)]
    refine sm_congr (fun c c0 c1 => ?_)
    (try dsimp only)
    have e : sm (fun i => bi (cn i = c) * bi (nu (cn i) = 1)) n.toNat = nu c * bi (nu c = 1) := by
      rw [nc.2.2.2.2.2 c c0 (by omega), ← sm_mc]
      refine sm_congr (fun i i0 i1 => ?_)
      (try dsimp only)
      by_cases z : cn i = c
      · rw [z, ← nc.2.2.2.2.2 c c0 (by omega)]
      · rw [bi_f z, Int.zero_mul, Int.zero_mul]
    rw [e]
    by_cases z : nu c = 1
    · rw [bi_t z, Int.mul_one, z]
    · rw [bi_f z, Int.mul_zero]
  exact ⟨(sm_congr (fun x x0 x1 => bi_c (nu_Z gt as hA nc ⟨x0, by omega⟩).symm)).trans b, b⟩
theorem US_w (gt : GT N mul inv) (as : AS n N mul act) (q : Int) : US ((2 : Int) ^ n.toNat) N (wact 2 n act inv) (fun w => dsm n w = q) := fun w g _ _ g0 g1 => by
  have en := AS_n as
  have ig := GT_i gt (a := g) ⟨g0, g1⟩
  have e : dsm n (wact 2 n act inv w g) = dsm n w := by
    unfold dsm
    rw [← sm_perm (f := fun i => dgk 2 i.toNat w) (n := n.toNat) (σ := fun i => act i (inv g)) (fun i i0 i1 => by have := AS_r as (x := i) ⟨i0, by omega⟩ ig; (try dsimp only); omega) (fun i j i0 i1 j0 j1 e => AS_in gt as ⟨i0, by omega⟩ ⟨j0, by omega⟩ ig e)]
    refine sm_congr (fun i i0 i1 => ?_)
    (try dsimp only)
    rw [wact_d gt as (by omega) ⟨g0, g1⟩ w (i := i.toNat) (by omega), Int.toNat_of_nonneg i0]
  show dsm n (wact 2 n act inv w g) = q ↔ dsm n w = q
  rw [e]
/-- sets of q places that A leaves -/
theorem set_n (gt : GT N mul inv) (as : AS n N mul act) (hA : SM N mul A) (nc : ncP (rE N A act) n K cn rp nu) : sm (fun w => bi (dsm n w = q ∧ ∀ t, 0 ≤ t → t < N → A t = 1 → wact 2 n act inv w t = w)) ((2 : Int) ^ n.toNat).toNat = stC K nu q := by
  have en := AS_n as
  have eK : ((K.toNat : Nat) : Int) = K := Int.toNat_of_nonneg nc.1.1
  have rn := rn_nc gt as hA nc
  have w := wd_f gt as hA rn (k := 2) (by omega) (fun w => bi (dsm n w = q))
  rw [sm_congr (g := fun w => bi (dsm n w = q) * bi (True ∧ ∀ t, 0 ≤ t → t < N → A t = 1 → wact 2 n act inv w t = w)) (fun w _ _ => by (try dsimp only); rw [bi_and]; exact congrArg (fun z => bi (dsm n w = q) * z) (bi_c ⟨fun z => ⟨trivial, z⟩, fun z => z.2⟩)), w]
  unfold stC
  refine sm_congr (fun v v0 v1 => ?_)
  (try dsimp only)
  have e : dsm n (wdk 2 n.toNat (fun i => dgk 2 (cn (i : Int)).toNat v)) = sm (fun j => dgk 2 j.toNat v * nu j) K.toNat := by
    unfold dsm
    rw [sm_congr (g := fun i => dgk 2 (cn i).toNat v) (fun i i0 i1 => by
      have z := dgk_w (k := 2) (by omega) n.toNat (fun i => dgk 2 (cn (i : Int)).toNat v) i.toNat (fun i _ => dgk_r (by omega) _ _) (by omega)
      (try dsimp only at z)
      (try dsimp only)
      rw [z, Int.toNat_of_nonneg i0])]
    rw [sm_fib (c := cn) (m := K.toNat) (fun i i0 i1 => by have := (nc.2.1 i i0 (by omega)).1; omega)]
    refine sm_congr (fun j j0 j1 => ?_)
    (try dsimp only)
    rw [nc.2.2.2.2.2 j j0 (by omega), ← sm_cm]
    refine sm_congr (fun i i0 i1 => ?_)
    (try dsimp only)
    by_cases z : cn i = j
    · rw [z, Int.mul_comm]
    · rw [bi_f z, Int.zero_mul, Int.mul_zero]
  rw [e]
theorem rwP_e {f : Int} (f0 : 0 ≤ f) (m : Nat) : pr (fun i => f - i) m = rwP f m := by
  have en : ((m : Nat) : Int).toNat = m := by omega
  unfold rwP
  rw [en]
  by_cases q : (m : Int) ≤ f + 1
  · refine pr_congr (fun i i0 i1 => ?_)
    (try dsimp only)
    split <;> omega
  · rw [pr_0 (f := fun i => f - i) (j := f) f0 (by omega) (by (try dsimp only); omega), pr_0 (j := f) f0 (by omega) (by (try dsimp only); rw [if_neg (by omega)])]
/-- rows of q places, none twice, that A leaves -/
theorem row_n (gt : GT N mul inv) (as : AS n N mul act) (n1 : 0 < n) (hA : SM N mul A) (nc : ncP (rE N A act) n K cn rp nu) (m : Nat) : sm (fun w => bi (ldf n m w ∧ ∀ t, 0 ≤ t → t < N → A t = 1 → lact n m act w t = w)) (n ^ m).toNat = rwP (sm (fun c => bi (nu c = 1)) K.toNat) m := by
  have en := AS_n as
  have al := AS_l (k := m) as n1 gt.2.1 gt.1
  have pn : 0 ≤ n ^ m := pow_nn (by omega) m
  have F0 : 0 ≤ sm (fun c => bi (nu c = 1)) K.toNat := sm_nn (fun _ _ _ => bi_nn _)
  rw [sm_congr (g := fun w => bi (ldf n m w ∧ ∀ i, i < m → ∀ t, 0 ≤ t → t < N → A t = 1 → act (dgk n i w) t = dgk n i w)) (fun w w0 w1 => bi_c (by
    have w0' : 0 ≤ w ∧ w < n ^ m := ⟨w0, by omega⟩
    refine ⟨fun z => ⟨z.1, fun i hi t t0 t1 a => ?_⟩, fun z => ⟨z.1, fun t t0 t1 a => ?_⟩⟩
    · have l := lact_d (k := m) as n1 (g := t) ⟨t0, t1⟩ w hi
      rw [z.2 t t0 t1 a] at l
      exact l.symm
    · have r := AS_r al w0' (g := t) ⟨t0, t1⟩
      refine dgk_u n1 m _ _ r.1 r.2 w0'.1 w0'.2 (fun i hi => ?_)
      rw [lact_d as n1 ⟨t0, t1⟩ w hi]
      exact z.2 i hi t t0 t1 a))]
  have key : ∀ m : Nat, sm (fun w => bi (ldf n m w ∧ ∀ i, i < m → ∀ t, 0 ≤ t → t < N → A t = 1 → act (dgk n i w) t = dgk n i w)) (n ^ m).toNat = pr (fun i => sm (fun c => bi (nu c = 1)) K.toNat - i) m := by
    intro m
    induction m with
    | zero =>
      rw [Int.pow_zero]
      show (0 : Int) + bi _ = 1
      rw [bi_t ⟨fun i j a b => by omega, fun i hi => by omega⟩]
      rfl
    | succ m ih =>
      have l := lt_n (Z := fun x => ∀ t, 0 ≤ t → t < N → A t = 1 → act x t = x) n1 m
      rw [ih, (one_n gt as hA nc).1] at l
      exact l
  rw [key m, rwP_e F0]
end
