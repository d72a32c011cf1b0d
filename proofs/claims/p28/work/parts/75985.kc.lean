/-! the class's acts between calls -/
def pr (f : Int → Int) : Nat → Int
  | 0 => 1
  | n + 1 => pr f n * f n
theorem pr_s (f : Int → Int) {x : Int} (h : 0 ≤ x) : pr f (x + 1).toNat = pr f x.toNat * f x := by
  have e : (x + 1).toNat = x.toNat + 1 := by omega
  rw [e]
  show pr f x.toNat * f ((x.toNat : Nat) : Int) = _
  rw [Int.toNat_of_nonneg h]
theorem pr_nn {f : Int → Int} : ∀ {n : Nat}, (∀ i : Int, 0 ≤ i → i < n → 0 ≤ f i) → 0 ≤ pr f n := by
  intro n
  induction n with
  | zero => intro _; show (0 : Int) ≤ 1; omega
  | succ n ih => intro h; exact Int.mul_nonneg (ih (fun i i0 i1 => h i i0 (by omega))) (h n (by omega) (by omega))
theorem pr_1 {f : Int → Int} : ∀ {n : Nat}, (∀ i : Int, 0 ≤ i → i < n → 1 ≤ f i) → 1 ≤ pr f n := by
  intro n
  induction n with
  | zero => intro _; show (1 : Int) ≤ 1; omega
  | succ n ih =>
    intro h
    have a := ih (fun i i0 i1 => h i i0 (by omega))
    have b := mul_ge (x := pr f n) (y := f n) (by omega) (h n (by omega) (by omega))
    show 1 ≤ pr f n * f n
    omega
theorem pr_0 {f : Int → Int} {j : Int} : ∀ {n : Nat}, 0 ≤ j → j < n → f j = 0 → pr f n = 0 := by
  intro n
  induction n with
  | zero => intro a b; omega
  | succ n ih =>
    intro a b e
    show pr f n * f n = 0
    by_cases q : j = n
    · rw [← q, e, Int.mul_zero]
    · rw [ih a (by omega) e, Int.zero_mul]
theorem pr_mono {f : Int → Int} {m n : Nat} (h : ∀ i : Int, 0 ≤ i → i < n → 1 ≤ f i) (hm : m ≤ n) : pr f m ≤ pr f n := by
  obtain ⟨k, rfl⟩ : ∃ k, n = m + k := ⟨n - m, by omega⟩
  clear hm
  induction k with
  | zero => exact Int.le_refl _
  | succ k ih =>
    have a := ih (fun i i0 i1 => h i i0 (by omega))
    have c := pr_1 (f := f) (n := m + k) (fun i i0 i1 => h i i0 (by omega))
    have b := mul_ge (x := pr f (m + k)) (y := f ((m + k : Nat) : Int)) (by omega) (h _ (by omega) (by omega))
    have e : pr f (m + (k + 1)) = pr f (m + k) * f ((m + k : Nat) : Int) := rfl
    omega
theorem pr_congr {f g : Int → Int} : ∀ {n : Nat}, (∀ i : Int, 0 ≤ i → i < n → f i = g i) → pr f n = pr g n := by
  intro n
  induction n with
  | zero => intro _; rfl
  | succ n ih =>
    intro h
    show pr f n * f n = pr g n * g n
    rw [ih (fun i i0 i1 => h i i0 (by omega)), h n (by omega) (by omega)]
/-- act a of the class has parts -/
abbrev aC (I : Int → gD) (a : Int) : Prop := prtP (I 3 0 3) (tbD (I 3)) (fun d => I 23 3 (300 * a + d)) (fun c => I 23 4 (300 * a + c))
def mpX (x : Int) : Int := if 1000000000000000 < x then -5 else x
def mpA (K : Int) (mk p : Int → Int) : Int := mpX (pr (fun c => mk c ^ (p c).toNat) K.toNat)
def mpB (K : Int) (sp p : Int → Int) : Int := mpX (pr (fun c => fac (p c).toNat * sp c ^ (p c).toNat) K.toNat)
/-- the first class where two have other marks -/
def sdP (K : Int) (m1 m2 : Int → Int) (v : Int) : Prop := (v = -1 ∧ ∀ d, 0 ≤ d → d < K → m1 d = m2 d) ∨ ((0 ≤ v ∧ v < K) ∧ m1 v ≠ m2 v ∧ ∀ d, 0 ≤ d → d < v → m1 d = m2 d)
theorem sdP_u {K : Int} {m1 m2 : Int → Int} (v w : Int) (a : sdP K m1 m2 v) (b : sdP K m1 m2 w) : v = w := by
  rcases a with ⟨a1, a2⟩ | ⟨a1, a2, a3⟩ <;> rcases b with ⟨b1, b2⟩ | ⟨b1, b2, b3⟩
  · omega
  · exact absurd (a2 w b1.1 b1.2) b2
  · exact absurd (b2 v a1.1 a1.2) a2
  · rcases Int.lt_trichotomy v w with q | q | q
    · exact absurd (b3 v a1.1 q) a2
    · exact q
    · exact absurd (a3 w b1.1 q) b2
/-- the first heap of the last class that leaves all -/
def idP (K : Int) (mk fo : Int → Int) (v : Int) : Prop := (∃ c, (0 < c ∧ c < K) ∧ mk c = mk 0 ∧ (∀ e, c < e → e < K → mk e ≠ mk 0) ∧ v = fo c) ∨ ((∀ c, 0 < c → c < K → mk c ≠ mk 0) ∧ v = 0)
section
variable {G : List gS} {R V V' : gV} {T : gT} {B M g k p n o m b S N : Nat} {C D E : Int} {dd : gD} {ow : Nat → Nat} {us : Nat → Prop} {w : Nat → Nat} {W : gV} {L : Int → Int} {I : Int → gD} {mm pp : Int → Int}
theorem mkr_c {mk mk' pt pt' : Int → Int} {K : Int} {V1 : gV} (h : mkrP V V1 k K mk pt) (e1 : ∀ d, 0 ≤ d → d < K → mk d = mk' d) (e2 : ∀ d, 0 ≤ d → d < K → pt d = pt' d) : mkrP V V1 k K mk' pt' := ⟨h.1, fun d d0 d1 => (h.2.1 d d0 d1).trans (e1 d d0 d1), fun d d0 d1 => (h.2.2 d d0 d1).trans (e2 d d0 d1)⟩
theorem opA {y : Nat} {as : List zV} {X : Int} (h : CI G R V B M S N W L I) (k : ∀ (T : gT) (ow : Nat → Nat) (us : Nat → Prop) (w : Nat → Nat), cI G R V B M S T ow us w W L I → wE T 8 X y as G R V) : cw 8 (fun r G' R' V' => r = some (0, X) ∧ CI G' R' V' B M S N W L I) y as G R V := by
  obtain ⟨T, ow, us, w, c, hN⟩ := h
  refine cw_mono (by omega) (k T ow us w c) (fun r G' R' V' q => ?_)
  obtain ⟨e1, e2, v, q1, q2, q3⟩ := q
  rw [e1, e2, q1, q2]
  exact ⟨rfl, T, ow, us, w, cI_v c q3, hN⟩
theorem opB {y : Nat} {as : List zV} {X : Int} (h : CI G R V B M S N W L I) (k : ∀ (T : gT) (ow : Nat → Nat) (us : Nat → Prop) (w : Nat → Nat), cI G R V B M S T ow us w W L I → wJE T 8 X y as G R V) : cw 8 (fun r G' R' V' => r = some (2, X) ∧ CI G' R' V' B M S N W L I) y as G R V := by
  obtain ⟨T, ow, us, w, c, hN⟩ := h
  refine cw_mono (by omega) (k T ow us w c) (fun r G' R' V' q => ?_)
  obtain ⟨e1, e2, v, q1, q2, q3⟩ := q
  rw [e1, e2, q1, q2]
  exact ⟨rfl, T, ow, us, w, cI_v c q3, hN⟩
/-- what the bench's cells are -/
theorem aV (c : cI G R V B M S T ow us w W L I) (k5 : I 23 5 0 = I 3 0 3) {a : Int} (h : fl (I 23 2) a = 1) : ∀ d, 0 ≤ d → d < I 3 0 3 → V (B + 52 + 3) (a * 300 + d) = I 23 3 (300 * a + d) ∧ V (B + 52 + 4) (a * 300 + d) = I 23 4 (300 * a + d) := fun d d0 d1 => by
  have av := acT_v c.kr.2.2 c.th
  obtain ⟨a0, t⟩ := fl_1 h
  have q : apn (I 23) (300 * a + d) := ⟨a, d, a0, t, by rw [k5]; exact ⟨d0, d1⟩, rfl⟩
  rw [show a * 300 + d = 300 * a + d by omega]
  exact ⟨av.2.1 _ q, av.2.2 _ q⟩
theorem isAct_x (c : cI G R V B M S T ow us w W L I) {a : Int} (ha : i32 a) : cpI 2 (bi (fl (I 23 2) a = 1)) 142 [(4, (B : Int)), (0, a)] G R V := by
  have av := acT_v c.kr.2.2 c.th
  refine c_X7_isAct (t_X7_isAct_0 c.c.ly (bI_u (isActNumber_c ha) ⟨bi32 _, fun h => ⟨by rw [bi_f (fun q => bi_0.mp h (fl_1 q).1)], rfl⟩, fun h => ?_⟩))
  have hb := bi_nz h
  have e : V (B + 52 + 1) a = I 23 2 a := av.1 a hb.1 hb.2
  have ef : fl (I 23 2) a = I 23 2 a := if_pos hb
  refine ⟨B + 52, ⟨c.c.rb, c.be.1.1.ly⟩, hb, fun b01 => ?_⟩
  rw [e] at b01 ⊢
  exact ⟨fun y => ⟨by rw [bi_f (by omega)], rfl⟩, fun y => ⟨by rw [bi_t (by omega)], rfl⟩⟩
theorem many_K (h : CI G R V B M S N W L I) (k5 : I 23 5 0 = I 3 0 3) (K1 : 1 ≤ I 3 0 3) (tg : tbG (I 3 0 3) (tbD (I 3))) {a b k : Int} (ha : i32 a) (hb : i32 b) (hk : i32 k) (ab : fl (I 23 2) b = 1 → aC I b) : cw 8 (fun r G' R' V' => qM B M S N W L I (kpJ I a (fun d => I 23 3 (300 * b + d) * k) (fun c => I 23 4 (300 * b + c) * k)) (mnX (fl (I 23 2) b) (I 23 3 (300 * b + 0)) a k) (mnO (fl (I 23 2) b) (I 23 3 (300 * b + 0)) a k) G' R' r V') 124 [(4, (B : Int)), (0, a), (0, b), (0, k)] G R V := by
  obtain ⟨T, ow, us, w, c0, hN⟩ := h
  obtain ⟨g, p, n, C, D, o, m, E, u, lk⟩ := cI_cTl c0
  refine cwv_cw (P := fun G R => qM B M S N W L I (kpJ I a (fun d => I 23 3 (300 * b + d) * k) (fun c => I 23 4 (300 * b + c) * k)) (mnX (fl (I 23 2) b) (I 23 3 (300 * b + 0)) a k) (mnO (fl (I 23 2) b) (I 23 3 (300 * b + 0)) a k) G R) ?_
  have X1 : ¬ ((0 ≤ a ∧ a < 8) ∧ (0 ≤ k ∧ k ≤ 1000000)) → (-1 : Int) = mnX (fl (I 23 2) b) (I 23 3 (300 * b + 0)) a k := fun z => by unfold mnX; rw [if_pos z]
  have rf : ¬ ((0 ≤ a ∧ a < 8) ∧ (0 ≤ k ∧ k ≤ 1000000)) → cwv 7 (fun r V' => ∃ v : Int, r = some (0, v) ∧ (i32 v ∧ qM B M S N W L I (kpJ I a (fun d => I 23 3 (300 * b + d) * k) (fun c => I 23 4 (300 * b + c) * k)) (mnX (fl (I 23 2) b) (I 23 3 (300 * b + 0)) a k) (mnO (fl (I 23 2) b) (I 23 3 (300 * b + 0)) a k) G R (some (2, v)) V')) 138 [(4, (B : Int)), (0, (-1))] G R V := fun z => qM_r c0 hN (fun q => z q.1) (by omega) (X1 z)
  refine c_X7_many (t_X7_many_0 u.ly (bI_u (isActNumber_c ha) ⟨bi32 _, fun z => rf (fun q => bi_0.mp z q.1), fun z => ⟨hk, fun z2 => rf (by omega), fun z2 => ⟨fun z3 => bI_u (isAct_x c0 hb) ⟨bi32 _, fun z4 => ⟨B + 52, ⟨u.rb, u.u.b.ly⟩, ?_⟩, fun z4 => ?_⟩, fun z3 => rf (by omega)⟩⟩⟩))
  · have a0 := bi_nz z
    have f1 := bi_nz z4
    have b0 := (fl_1 f1).1
    have av := aV c0 k5 f1
    have pb := ab f1
    have bd := prt_b tg pb
    have bp := prt_p tg pb
    have m0 := pb.2.2
    (try dsimp only at bd bp m0)
    have ak : (0 ≤ a ∧ a < 8) ∧ (0 ≤ k ∧ k ≤ 1000000) := ⟨a0, by omega⟩
    have s0 := bd 0 (by omega) (by omega)
    have e0 := (av 0 (by omega) (by omega)).1
    have X2 : mnX (fl (I 23 2) b) (I 23 3 (300 * b + 0)) a k = if 1000000000000000 < I 23 3 (300 * b + 0) * k then -5 else I 23 3 (300 * b + 0) * k := by unfold mnX; rw [if_neg (fun q => q ak), if_neg (fun q => q f1)]
    refine cpJ_u (by omega) (placesOf_e u.u.b.ly b0) ?_
    rw [e0]
    have r := stp_r (x := I 23 3 (300 * b + 0) * k) (Int.mul_nonneg s0.1 (by omega))
    refine cpJ_u (by omega) (timesUpTo_e (by omega) (by omega)) ⟨⟨by omega, by omega⟩, fun z5 => ?_, fun z5 => ?_⟩
    · have le : I 23 3 (300 * b + 0) * k ≤ 1000000000000000 := stp_le.mp (by omega)
      have mb : ∀ d, 0 ≤ d → d < I 3 0 3 → i64 (I 23 3 (300 * b + d) * k) ∧ i64 (I 23 4 (300 * b + d) * k) := fun d d0 d1 => by
        have q := bd d d0 d1
        have q2 := bp d d0 d1
        have q3 := pb.1 d d0 d1
        (try dsimp only at q3)
        have q1 : I 23 3 (300 * b + d) * k ≤ I 23 3 (300 * b + 0) * k := Int.mul_le_mul_of_nonneg_right q.2 (by omega)
        have q4 : I 23 4 (300 * b + d) * k ≤ I 23 3 (300 * b + d) * k := Int.mul_le_mul_of_nonneg_right q2 (by omega)
        have q5 : 0 ≤ I 23 3 (300 * b + d) * k := Int.mul_nonneg q.1 (by omega)
        have q6 : 0 ≤ I 23 4 (300 * b + d) * k := Int.mul_nonneg q3 (by omega)
        exact ⟨⟨by omega, by omega⟩, ⟨by omega, by omega⟩⟩
      refine cwv_mono (show 3 ≤ 7 by omega) (takeMultiple_x u.k u.u lk c0.th b0 hk (by omega) (fun d d0 d1 => by rw [(av d d0 d1).1]; exact (mb d d0 d1).1) (fun d d0 d1 => by rw [(av d d0 d1).2]; exact (mb d d0 d1).2)) (fun r V1 h1 => ⟨h1.1, qM_k c0 hN k5 K1 a0 ⟨ak, f1, le⟩ ?_ (mkr_c h1.2 (fun d d0 d1 => ?_) (fun d d0 d1 => ?_))⟩)
      · (try dsimp only)
        rw [X2, if_neg (by omega)]
      · (try dsimp only)
        rw [(av d d0 d1).1]
      · (try dsimp only)
        rw [(av d d0 d1).2]
    · have gt : 1000000000000000 < I 23 3 (300 * b + 0) * k := stp_lt.mp z5
      exact qM_r c0 hN (fun q => by have := q.2.2; omega) (by omega) (by rw [X2, if_pos gt])
  · have a0 := bi_nz z
    have f1 := bi_0.mp z4
    exact qM_r c0 hN (fun q => f1 q.2.1) (by omega) (by unfold mnX; rw [if_neg (fun q => q ⟨a0, by omega⟩), if_pos f1])
theorem both_K (h : CI G R V B M S N W L I) (k5 : I 23 5 0 = I 3 0 3) (K1 : 1 ≤ I 3 0 3) (tg : tbG (I 3 0 3) (tbD (I 3))) {a b c w : Int} (ha : i32 a) (hb : i32 b) (hc : i32 c) (hw : i32 w) (ab : fl (I 23 2) b = 1 → aC I b) (ac : fl (I 23 2) c = 1 → aC I c) (pg : boO (fl (I 23 2) b) (fl (I 23 2) c) (I 23 3 (300 * b + 0)) (I 23 3 (300 * c + 0)) a w → prtP (I 3 0 3) (tbD (I 3)) (fun d => boS (I 23 3 (300 * b + d)) (I 23 3 (300 * c + d)) w) pp) : cw 8 (fun r G' R' V' => qM B M S N W L I (kpJ I a (fun d => boS (I 23 3 (300 * b + d)) (I 23 3 (300 * c + d)) w) pp) (boX (fl (I 23 2) b) (fl (I 23 2) c) (I 23 3 (300 * b + 0)) (I 23 3 (300 * c + 0)) a w) (boO (fl (I 23 2) b) (fl (I 23 2) c) (I 23 3 (300 * b + 0)) (I 23 3 (300 * c + 0)) a w) G' R' r V') 122 [(4, (B : Int)), (0, a), (0, b), (0, c), (0, w)] G R V := by
  obtain ⟨T, ow, us, ww, c0, hN⟩ := h
  obtain ⟨g, p, n, C, D, o, m, E, u, lk⟩ := cI_cTl c0
  refine cwv_cw (P := fun G R => qM B M S N W L I (kpJ I a (fun d => boS (I 23 3 (300 * b + d)) (I 23 3 (300 * c + d)) w) pp) (boX (fl (I 23 2) b) (fl (I 23 2) c) (I 23 3 (300 * b + 0)) (I 23 3 (300 * c + 0)) a w) (boO (fl (I 23 2) b) (fl (I 23 2) c) (I 23 3 (300 * b + 0)) (I 23 3 (300 * c + 0)) a w) G R) ?_
  have X1 : ¬ ((0 ≤ a ∧ a < 8) ∧ (w = 0 ∨ w = 1)) → (-1 : Int) = boX (fl (I 23 2) b) (fl (I 23 2) c) (I 23 3 (300 * b + 0)) (I 23 3 (300 * c + 0)) a w := fun z => by unfold boX; rw [if_pos z]
  have X2 : ((0 ≤ a ∧ a < 8) ∧ (w = 0 ∨ w = 1)) → ¬ (fl (I 23 2) b = 1 ∧ fl (I 23 2) c = 1) → (-2 : Int) = boX (fl (I 23 2) b) (fl (I 23 2) c) (I 23 3 (300 * b + 0)) (I 23 3 (300 * c + 0)) a w := fun z z2 => by unfold boX; rw [if_neg (fun q => q z), if_pos z2]
  refine c_X7_both (t_X7_both_0 u.ly (bI_u (isActNumber_c ha) ⟨bi32 _, fun z => qM_r c0 hN (fun q => bi_0.mp z q.1.1) (by omega) (X1 (fun q => bi_0.mp z q.1)), fun z => bI_u (isWay_e hw) ⟨bi32 _, fun z2 => bI_u (isAct_x c0 hb) ⟨bi32 _, fun z3 => ?_, fun z3 => bI_u (isAct_x c0 hc) ⟨bi32 _, fun z4 => ⟨hw, fun z5 => ⟨B + 52, ⟨u.rb, u.u.b.ly⟩, ?_⟩, fun z5 => ⟨B + 52, ⟨u.rb, u.u.b.ly⟩, ?_⟩⟩, fun z4 => ?_⟩⟩, fun z2 => qM_r c0 hN (fun q => bi_0.mp z2 q.1.2) (by omega) (X1 (fun q => bi_0.mp z2 q.2))⟩⟩))
  · have aw : (0 ≤ a ∧ a < 8) ∧ (w = 0 ∨ w = 1) := ⟨bi_nz z, bi_nz z2⟩
    have f := bi_0.mp z3
    exact qM_r c0 hN (fun q => f q.2.1.1) (by omega) (X2 aw (fun q => f q.1))
  all_goals try (
    have aw : (0 ≤ a ∧ a < 8) ∧ (w = 0 ∨ w = 1) := ⟨bi_nz z, bi_nz z2⟩
    have f1 := bi_nz z3
    have f2 := bi_nz z4
    have b0 := (fl_1 f1).1
    have cc0 := (fl_1 f2).1
    have vb := aV c0 k5 f1
    have vc := aV c0 k5 f2
    have pb := ab f1
    have pc := ac f2
    have bb := prt_b tg pb
    have bc := prt_b tg pc
    have mb0 := pb.2.2
    have mc0 := pc.2.2
    try dsimp only at bb bc mb0 mc0
    have sb := bb 0 (by omega) (by omega)
    have sc := bc 0 (by omega) (by omega)
    have X3 : boX (fl (I 23 2) b) (fl (I 23 2) c) (I 23 3 (300 * b + 0)) (I 23 3 (300 * c + 0)) a w = if 1000000000000000 < boS (I 23 3 (300 * b + 0)) (I 23 3 (300 * c + 0)) w then -5 else boS (I 23 3 (300 * b + 0)) (I 23 3 (300 * c + 0)) w := by unfold boX; rw [if_neg (fun q => q aw), if_neg (fun q => q ⟨f1, f2⟩)])
  · have eS : ∀ s t, boS s t w = s * t := fun s t => if_neg z5
    refine cpJ_u (by omega) (placesOf_e u.u.b.ly b0) (cpJ_u (by omega) (placesOf_e u.u.b.ly cc0) ?_)
    rw [(vb 0 (by omega) (by omega)).1, (vc 0 (by omega) (by omega)).1]
    have r := stp_r (x := I 23 3 (300 * b + 0) * I 23 3 (300 * c + 0)) (Int.mul_nonneg sb.1 sc.1)
    refine cpJ_u (by omega) (timesUpTo_e (by omega) (by omega)) ⟨⟨by omega, by omega⟩, fun z6 => ?_, fun z6 => ?_⟩
    · have le : boS (I 23 3 (300 * b + 0)) (I 23 3 (300 * c + 0)) w ≤ 1000000000000000 := by rw [eS]; exact stp_le.mp (by omega)
      have ok : boO (fl (I 23 2) b) (fl (I 23 2) c) (I 23 3 (300 * b + 0)) (I 23 3 (300 * c + 0)) a w := ⟨aw, ⟨f1, f2⟩, le⟩
      refine cwv_mono (show 4 ≤ 7 by omega) (takePairs_x u.k u.u lk c0.th b0 cc0 (by omega) tg (fun d d0 d1 => ?_) (pg ok)) (fun r V1 h1 => ⟨h1.1, qM_k c0 hN k5 K1 aw.1 ok ?_ h1.2⟩)
      · (try dsimp only)
        rw [(vb d d0 d1).1, (vc d d0 d1).1, eS]
      · (try dsimp only)
        rw [X3, if_neg (by omega)]
    · have gt : 1000000000000000 < boS (I 23 3 (300 * b + 0)) (I 23 3 (300 * c + 0)) w := by rw [eS]; exact stp_lt.mp z6
      exact qM_r c0 hN (fun q => by have := q.2.2; omega) (by omega) (by rw [X3, if_pos gt])
  · have eS : ∀ s t, boS s t w = s + t := fun s t => if_pos z5
    refine cpJ_u (by omega) (placesOf_e u.u.b.ly b0) (cpJ_u (by omega) (placesOf_e u.u.b.ly cc0) ?_)
    rw [(vb 0 (by omega) (by omega)).1, (vc 0 (by omega) (by omega)).1, jadd_e ⟨by omega, by omega⟩]
    refine ⟨fun z6 => ?_, fun z6 => ?_⟩
    · have le : boS (I 23 3 (300 * b + 0)) (I 23 3 (300 * c + 0)) w ≤ 1000000000000000 := by rw [eS]; omega
      have ok : boO (fl (I 23 2) b) (fl (I 23 2) c) (I 23 3 (300 * b + 0)) (I 23 3 (300 * c + 0)) a w := ⟨aw, ⟨f1, f2⟩, le⟩
      have ps : prtP (I 3 0 3) (tbD (I 3)) (fun d => boS (I 23 3 (300 * b + d)) (I 23 3 (300 * c + d)) w) (fun c' => I 23 4 (300 * b + c') + I 23 4 (300 * c + c')) := by
        refine ⟨fun x x0 x1 => ?_, fun d d0 d1 => ?_, le⟩
        · have q1 := pb.1 x x0 x1
          have q2 := pc.1 x x0 x1
          (try dsimp only at q1 q2)
          (try dsimp only)
          omega
        · have q1 := pb.2.1 d d0 d1
          have q2 := pc.2.1 d d0 d1
          (try dsimp only at q1 q2)
          (try dsimp only)
          rw [eS, q1, q2, ← sm_add]
          exact sm_congr (fun y _ _ => (Int.add_mul _ _ _).symm)
      have eP := prt_u tg ps (pg ok) (fun _ _ _ => rfl)
      have i1 : ∀ d, 0 ≤ d → d < I 3 0 3 → i64 (I 23 3 (300 * b + d) + I 23 3 (300 * c + d)) ∧ i64 (I 23 4 (300 * b + d) + I 23 4 (300 * c + d)) := fun d d0 d1 => by
        have q1 := bb d d0 d1
        have q2 := bc d d0 d1
        have q3 := prt_p tg pb d d0 d1
        have q4 := prt_p tg pc d d0 d1
        have q5 := pb.1 d d0 d1
        have q6 := pc.1 d d0 d1
        (try dsimp only at q3 q4 q5 q6)
        exact ⟨⟨by omega, by omega⟩, ⟨by omega, by omega⟩⟩
      refine cwv_mono (show 3 ≤ 7 by omega) (takeSum_x u.k u.u lk c0.th b0 cc0 (by omega) (fun d d0 d1 => by rw [(vb d d0 d1).1, (vc d d0 d1).1]; exact (i1 d d0 d1).1) (fun d d0 d1 => by rw [(vb d d0 d1).2, (vc d d0 d1).2]; exact (i1 d d0 d1).2)) (fun r V1 h1 => ⟨h1.1, qM_k c0 hN k5 K1 aw.1 ok ?_ (mkr_c h1.2 (fun d d0 d1 => ?_) (fun d d0 d1 => ?_))⟩)
      · (try dsimp only)
        rw [X3, if_neg (by omega)]
      · (try dsimp only)
        rw [(vb d d0 d1).1, (vc d d0 d1).1, eS]
      · (try dsimp only)
        rw [(vb d d0 d1).2, (vc d d0 d1).2]
        exact eP d d0 d1
    · have gt : 1000000000000000 < boS (I 23 3 (300 * b + 0)) (I 23 3 (300 * c + 0)) w := by rw [eS]; omega
      exact qM_r c0 hN (fun q => by have := q.2.2; omega) (by omega) (by rw [X3, if_pos gt])
  · have aw : (0 ≤ a ∧ a < 8) ∧ (w = 0 ∨ w = 1) := ⟨bi_nz z, bi_nz z2⟩
    have f := bi_0.mp z4
    exact qM_r c0 hN (fun q => f q.2.1.2) (by omega) (X2 aw (fun q => f q.2))
end
