/-! rows of numbers, and what a check makes of them -/
noncomputable def lfs (tb : Int → Int → Int) (m made : Int → Int) (K d : Int) : Int := jw (m d - sm (fun c => if d < c then made c * tb c d else 0) K.toNat)
def slP (K : Int) (tb : Int → Int → Int) (m made : Int → Int) (d0 : Int) : Prop := ∀ d, d0 ≤ d → d < K → jrem (lfs tb m made K d) (tb d d) = 0 ∧ made d = jdiv (lfs tb m made K d) (tb d d)
def ckP (K : Int) (tb : Int → Int → Int) (m : Int → Int) (v f : Int) : Prop := (v = 0 ∧ (0 ≤ f ∧ f < K) ∧ ∃ made, slP K tb m made (f + 1) ∧ jrem (lfs tb m made K f) (tb f f) ≠ 0) ∨ (v = 1 ∧ (0 ≤ f ∧ f < K) ∧ ∃ made, slP K tb m made 0 ∧ made f < 0 ∧ ∀ d, f < d → d < K → 0 ≤ made d) ∨ (v = 2 ∧ f = -1 ∧ ∃ made, slP K tb m made 0 ∧ ∀ d, 0 ≤ d → d < K → 0 ≤ made d)
section
variable {K : Int} {tb tb' : Int → Int → Int} {m m' made made' : Int → Int} {v v' f f' d0 : Int}
theorem lfs_c {d : Int} (h0 : 0 ≤ d) (e : ∀ c, d < c → c < K → made c = made' c) (et : ∀ c, d < c → c < K → tb c d = tb' c d) (em : m d = m' d) : lfs tb m made K d = lfs tb' m' made' K d := by
  unfold lfs
  rw [em]
  refine congrArg jw (congrArg (fun x => m' d - x) (sm_congr (fun c c0 c1 => ?_)))
  by_cases q : d < c
  · rw [if_pos q, if_pos q, e c q (by omega), et c q (by omega)]
  · rw [if_neg q, if_neg q]
theorem sl_u (h0 : 0 ≤ d0) (a : slP K tb m made d0) (b : slP K tb m made' d0) : ∀ d, d0 ≤ d → d < K → made d = made' d := by
  have key : ∀ (n : Nat) (d : Int), (K - d).toNat = n → d0 ≤ d → d < K → made d = made' d := by
    intro n
    induction n using Nat.strongRecOn with
    | ind n ih =>
      intro d en d1 d2
      rw [(a d d1 d2).2, (b d d1 d2).2, lfs_c (made' := made') (by omega) (fun c c0 c1 => ih (K - c).toNat (by omega) c rfl (by omega) c1) (fun _ _ _ => rfl) rfl]
  exact fun d => key _ d rfl
theorem sl_m {d1 : Int} (a : slP K tb m made d0) (h : d0 ≤ d1) : slP K tb m made d1 := fun d e1 e2 => a d (by omega) e2
theorem sl_no (a : slP K tb m made (f + 1)) (n : jrem (lfs tb m made K f) (tb f f) ≠ 0) (f0 : 0 ≤ f ∧ f < K) (h0 : 0 ≤ d0 ∧ d0 ≤ f) (b : slP K tb m made' d0) : False := by
  have e := sl_u (by omega) a (sl_m b (by omega))
  refine n ?_
  rw [lfs_c (made' := made') f0.1 (fun c c0 c1 => e c (by omega) c1) (fun _ _ _ => rfl) rfl]
  exact (b f (by omega) f0.2).1
theorem ckP_u (a : ckP K tb m v f) (b : ckP K tb m v' f') : v = v' ∧ f = f' := by
  rcases a with ⟨a1, a2, x, a3, a4⟩ | ⟨a1, a2, x, a3, a4, a5⟩ | ⟨a1, a2, x, a3, a4⟩ <;> rcases b with ⟨b1, b2, y, b3, b4⟩ | ⟨b1, b2, y, b3, b4, b5⟩ | ⟨b1, b2, y, b3, b4⟩
  · refine ⟨by omega, ?_⟩
    rcases Int.lt_trichotomy f f' with q | q | q
    · exact (sl_no b3 b4 b2 ⟨by omega, by omega⟩ a3).elim
    · exact q
    · exact (sl_no a3 a4 a2 ⟨by omega, by omega⟩ b3).elim
  · exact (sl_no a3 a4 a2 ⟨by omega, by omega⟩ b3).elim
  · exact (sl_no a3 a4 a2 ⟨by omega, by omega⟩ b3).elim
  · exact (sl_no b3 b4 b2 ⟨by omega, by omega⟩ a3).elim
  · have e := sl_u (by omega) a3 b3
    refine ⟨by omega, ?_⟩
    rcases Int.lt_trichotomy f f' with q | q | q
    · have := a5 f' q b2.2; have := e f' b2.1 b2.2; omega
    · exact q
    · have := b5 f q a2.2; have := e f a2.1 a2.2; omega
  · have e := sl_u (by omega) a3 b3
    have := b4 f a2.1 a2.2; have := e f a2.1 a2.2; omega
  · exact (sl_no b3 b4 b2 ⟨by omega, by omega⟩ a3).elim
  · have e := sl_u (by omega) a3 b3
    have := a4 f' b2.1 b2.2; have := e f' b2.1 b2.2; omega
  · exact ⟨by omega, by omega⟩
theorem sl_c (h0 : 0 ≤ d0) (et : ∀ c d, 0 ≤ c → c < K → 0 ≤ d → d < K → tb c d = tb' c d) (em : ∀ d, 0 ≤ d → d < K → m d = m' d) (a : slP K tb m made d0) : slP K tb' m' made d0 := fun d e1 e2 => by
  have q := a d e1 e2
  rw [lfs_c (tb' := tb') (m' := m') (made' := made) (by omega) (fun _ _ _ => rfl) (fun c c0 c1 => et c d (by omega) c1 (by omega) e2) (em d (by omega) e2), et d d (by omega) e2 (by omega) e2] at q
  exact q
theorem ckP_c (et : ∀ c d, 0 ≤ c → c < K → 0 ≤ d → d < K → tb c d = tb' c d) (em : ∀ d, 0 ≤ d → d < K → m d = m' d) (a : ckP K tb m v f) : ckP K tb' m' v f := by
  rcases a with ⟨a1, a2, x, a3, a4⟩ | ⟨a1, a2, x, a3, a4⟩ | ⟨a1, a2, x, a3, a4⟩
  · refine Or.inl ⟨a1, a2, x, sl_c (by omega) et em a3, ?_⟩
    rw [lfs_c (tb' := tb') (m' := m') (made' := x) a2.1 (fun _ _ _ => rfl) (fun c c0 c1 => et c f (by omega) c1 a2.1 a2.2) (em f a2.1 a2.2), et f f a2.1 a2.2 a2.1 a2.2] at a4
    exact a4
  · exact Or.inr (Or.inl ⟨a1, a2, x, sl_c (by omega) et em a3, a4⟩)
  · exact Or.inr (Or.inr ⟨a1, a2, x, sl_c (by omega) et em a3, a4⟩)
/-- one step of what is left -/
theorem lf_0 {d : Int} (d0 : 0 ≤ d) (h : i64 (m d)) : m d = jw (m d - sm (fun c => if d < c then made c * tb c d else 0) (d + 1).toNat) := by
  rw [sm_zz (fun c c0 c1 => if_neg (by omega)), Int.sub_zero]
  exact (jw_e h).symm
theorem lf_s {d z x : Int} (z0 : 0 ≤ z) (dz : d < z) (e : x = jw (m d - sm (fun c => if d < c then made c * tb c d else 0) z.toNat)) : jsub x (jmul (made z) (tb z d)) = jw (m d - sm (fun c => if d < c then made c * tb c d else 0) (z + 1).toNat) := by
  rw [e, jmul_w, jsub_j, sm_s _ z0]
  (try dsimp only)
  rw [if_pos dz]
  exact congrArg jw (by omega)
theorem lf_n {d z x : Int} (z0 : 0 ≤ z) (n : made z = 0) (e : x = jw (m d - sm (fun c => if d < c then made c * tb c d else 0) z.toNat)) : x = jw (m d - sm (fun c => if d < c then made c * tb c d else 0) (z + 1).toNat) := by
  rw [e, sm_s _ z0]
  (try dsimp only)
  rw [n, Int.zero_mul]
  refine congrArg jw ?_
  split <;> omega
theorem lf_e {d z x : Int} (zK : z = K) (e : x = jw (m d - sm (fun c => if d < c then made c * tb c d else 0) z.toNat)) : x = lfs tb m made K d := by rw [e, zK]; rfl
/-- one more class is solved -/
theorem sl_s {d : Int} (h0 : 0 ≤ d) (a : slP K tb m made (d + 1)) (r : jrem (lfs tb m made K d) (tb d d) = 0) (e1 : ∀ c, d < c → c < K → made' c = made c) (e2 : made' d = jdiv (lfs tb m made K d) (tb d d)) : slP K tb m made' d := by
  intro c c0 c1
  have e : lfs tb m made' K c = lfs tb m made K c := lfs_c (by omega) (fun x x0 x1 => e1 x (by omega) x1) (fun _ _ _ => rfl) rfl
  rw [e]
  by_cases q : c = d
  · rw [q]; exact ⟨r, e2⟩
  · rw [e1 c (by omega) c1]; exact a c (by omega) c1
end
def tbD (d : gD) (a c : Int) : Int := d 210 a * d 220 (c * d 0 3 + a)
def rwA (K l x : Int) : Int := if ¬ (-1000000000000 ≤ x ∧ x ≤ 1000000000000) then -1 else if l = K then -5 else l + 1
section
variable {G : List gS} {R V : gV} {T : gT} {W : gV} {L : Int → Int} {I : Int → gD} {B M S N g b k p n o m : Nat} {C D E : Int} {dd : gD}
theorem accept_e (ly : lay7 G R B) {a : Int} : cwv 1 (fun r V' => ∃ q : Int, r = some (0, q) ∧ (q = a ∧ ∀ c i, ¬ (c = B ∧ i = 7) → V' c i = V c i)) 139 [(4, (B : Int)), (0, a)] G R V :=
  cwv_mono (Nat.le_refl _) (accept_k (T := fun c i v => (c = B ∧ i = 7) ∨ v = V c i) ly (fun v => Or.inl ⟨rfl, rfl⟩) (fun c i => Or.inr rfl)) (fun r V' h => by
    obtain ⟨q, q1, q2, q3⟩ := h
    exact ⟨q, q1, q2, fun c i z => by rcases q3 c i with y | y; exact absurd y z; exact y⟩)
theorem mk_d (h : hT G R T (g + 10) o m E) (lk : lkT T R g dd) (th : TH T V) {a c : Int} (ha : 0 ≤ a ∧ a < dd 0 3) (hc : 0 ≤ c ∧ c < dd 0 3) : cpI 2 (tbD dd a c) 71 [(4, ((g + 10 : Nat) : Int)), (0, a), (0, c)] G R V := by
  have e3 := lk_3 lk th
  have cl := h.cE _ (th (g + 10) 1)
  have q := markOn_e h th (a := a) (b := c) (by omega) (by omega)
  rw [lk_o lk th h.ro, e3, show V (g + 10 + 10) a = dd 210 a from lk_j lk th 10 (by omega) (by omega) (by omega) a] at q
  exact q
theorem fillParts_x (w : kT G R T k) (h : hT G R T (g + 10) o m E) (lk : lkT T R g dd) (th : TH T V) (nk : k + 2 ≠ k + 1) {mm : Int → Int} (hm : ∀ c, 0 ≤ c → c < dd 0 3 → V (k + 1) c = mm c) (tp : ∀ c, 0 ≤ c → c < dd 0 3 → 1 ≤ tbD dd c c) : cwv 3 (fun r V' => ∃ v : Int, r = some (0, v) ∧ (TH T V' ∧ (∀ c i, c ≠ k + 2 → V' c i = V c i) ∧ ((v = -1 ∧ slP (dd 0 3) (tbD dd) mm (fun c => V' (k + 2) c) 0) ∨ ((0 ≤ v ∧ v < dd 0 3) ∧ slP (dd 0 3) (tbD dd) mm (fun c => V' (k + 2) c) (v + 1) ∧ jrem (lfs (tbD dd) mm (fun c => V' (k + 2) c) (dd 0 3) v) (tbD dd v v) ≠ 0)))) 15 [(4, (k : Int)), (4, ((g + 10 : Nat) : Int))] G R V := by
  have e3 := lk_3 lk th
  have c0 := h.a.cl _ (th (g + 10) 1)
  refine c_X0_fillParts (t_X0_fillParts_0 w.ly h.a.ly (fun _ => ⟨by omega, ?_⟩))
  rw [e3]
  refine loop1 (f := fun i => [some (4, (k : Int)), some (4, ((g + 10 : Nat) : Int)), some (0, i)]) (Inv := fun i V' => (-1 ≤ i ∧ i < dd 0 3) ∧ TH T V' ∧ (∀ c i, c ≠ k + 2 → V' c i = V c i) ∧ slP (dd 0 3) (tbD dd) mm (fun c => V' (k + 2) c) (i + 1)) (μ := fun i _ => (i + 1).toNat) (fun i V1 hi ih => ?_) _ V ⟨by omega, th, fun _ _ _ => rfl, fun d d0 d1 => by omega⟩
  obtain ⟨i0, th1, fr, sl⟩ := hi
  have e31 := lk_3 lk th1
  refine t_X0_fillParts_7 w.ly h.a.ly ⟨by omega, fun z => ⟨_, rfl, th1, fr, Or.inl ⟨rfl, (by have e0 : i + 1 = 0 := (by omega); rw [e0] at sl; exact sl)⟩⟩, fun z => ⟨by omega, fun i6 => ⟨by omega, ?_⟩⟩⟩
  have em : V1 (k + 1) i = mm i := by rw [fr _ _ (by omega)]; exact hm i (by omega) i0.2
  rw [em] at i6 ⊢
  refine pool2 (f := fun q j => [some (4, (k : Int)), some (4, ((g + 10 : Nat) : Int)), some (0, i), some (2, q), none, some (0, j)]) (Inv := fun q j => (i + 1 ≤ j ∧ j ≤ dd 0 3) ∧ q = jw (mm i - sm (fun c => if i < c then (fun c => V1 (k + 2) c) c * tbD dd c i else 0) j.toNat)) (μ := fun _ j => (300 - j).toNat) (fun q j hj ih2 => ?_) _ (i + 1) ⟨by omega, lf_0 (by omega) i6⟩
  obtain ⟨j0, ej⟩ := hj
  refine t_X0_fillParts_23 w.ly h.a.ly (fun _ => ⟨by omega, fun z2 => ?_, fun z2 => ?_⟩)
  · have el := lf_e (made := fun c => V1 (k + 2) c) (tb := tbD dd) (m := mm) (d := i) (K := dd 0 3) (by omega) ej
    have t1 := tp i (by omega) i0.2
    refine cpI_u (by omega) (mk_d h lk th1 (by omega) (by omega)) ⟨?_, fun y => by omega, fun y => ⟨y, fun y2 => ⟨y, by omega, by omega, ih _ _ ⟨by omega, TH_wr th1 (w.pa _ _), fun c i2 q2 => by rw [wr_a q2]; exact fr c i2 q2, ?_⟩ (by omega)⟩, fun y2 => ⟨_, rfl, th1, fr, Or.inr ⟨by omega, sl, by rw [← el]; exact y2⟩⟩⟩⟩
    · have s := (h.a.sp _ _).mp (th1 (g + 10 + 10) i)
      have ov := (h.ov _ _).mp (th1 o (i * V1 (g + 10) 1 + i))
      rw [lk_o lk th1 h.ro, e31] at ov
      rw [show V1 (g + 10 + 10) i = dd 210 i from lk_j lk th1 10 (by omega) (by omega) (by omega) i] at s
      have z1 : tbD dd i i ≤ 120 * 90000 := Int.mul_le_mul s.2 ov.2 ov.1 (by omega)
      exact ⟨by omega, by omega⟩
    · rw [show i - 1 + 1 = i by omega]
      rw [el] at y2 ⊢
      exact sl_s (by omega) sl y2 (fun c c0 c1 => wr_i (by omega)) (wr_same _ _ _ _)
  · refine ⟨by omega, fun _ => ⟨fun y => ⟨by omega, ih2 _ _ ⟨by omega, lf_n (by omega) y ej⟩ (by omega)⟩, fun y => ?_⟩⟩
    refine cpI_u (by omega) (mk_d h lk th1 (by omega) (by omega)) ⟨?_, by omega, ih2 _ _ ⟨by omega, lf_s (by omega) (by omega) ej⟩ (by omega)⟩
    have s := (h.a.sp _ _).mp (th1 (g + 10 + 10) j)
    have ov := (h.ov _ _).mp (th1 o (i * V1 (g + 10) 1 + j))
    rw [lk_o lk th1 h.ro, e31] at ov
    rw [show V1 (g + 10 + 10) j = dd 210 j from lk_j lk th1 10 (by omega) (by omega) (by omega) j] at s
    have z0 : 0 ≤ tbD dd j i := Int.mul_nonneg s.1 ov.1
    have z1 : tbD dd j i ≤ 120 * 90000 := Int.mul_le_mul s.2 ov.2 ov.1 (by omega)
    exact ⟨by omega, by omega⟩
theorem lastBelow_e (ly : lay0 G R k) {a : Int} (ha : 0 ≤ a ∧ a ≤ 300) : cwv 1 (fun r V' => ∃ v : Int, r = some (0, v) ∧ (V' = V ∧ ((v = -1 ∧ ∀ d, 0 ≤ d → d < a → 0 ≤ V (k + 2) d) ∨ ((0 ≤ v ∧ v < a) ∧ V (k + 2) v < 0 ∧ ∀ d, v < d → d < a → 0 ≤ V (k + 2) d)))) 13 [(4, (k : Int)), (0, a)] G R V := by
  refine c_X0_lastBelowNone (t_X0_lastBelowNone_0 ly ⟨by omega, ?_⟩)
  refine pool1 (f := fun i => [some (4, (k : Int)), none, some (0, i)]) (Inv := fun i => (-1 ≤ i ∧ i < a) ∧ ∀ d, i < d → d < a → 0 ≤ V (k + 2) d) (μ := fun i => (i + 1).toNat) (fun i hi ih => ?_) _ ⟨by omega, fun d d0 d1 => by omega⟩
  obtain ⟨i0, al⟩ := hi
  refine t_X0_lastBelowNone_4 ly ⟨by omega, fun z => ⟨_, rfl, rfl, Or.inl ⟨rfl, fun d d0 d1 => al d (by omega) d1⟩⟩, fun z => ⟨by omega, fun _ => ⟨fun y => ⟨by omega, ih _ ⟨by omega, fun d d0 d1 => ?_⟩ (by omega)⟩, fun y => ⟨_, rfl, rfl, Or.inr ⟨by omega, y, al⟩⟩⟩⟩⟩
  by_cases q : d = i
  · rw [q]; omega
  · exact al d (by omega) d1
theorem keep_f (u : bG G R T b g p n C D o m E) (w : kT G R T k) (th : TH T V) {a : Int} (ha : 0 ≤ a ∧ a < 8) : cwv 1 (fun r V' => r = none ∧ (TH T V' ∧ ∀ c i, c ≠ b + 1 → c ≠ b + 3 → c ≠ b + 4 → V' c i = V c i)) 19 [(4, (b : Int)), (0, a), (4, (k : Int))] G R V := by
  have t1 : TH T (wr V (b + 1) a 1) := TH_wr th (u.b.th _ _)
  have c1 := u.g.h.a.cl _ (t1 (g + 10) 1)
  have t2 : TH T (cpy (wr V (b + 1) a 1) (k + 1) 0 (b + 3) (a * 300) ((wr V (b + 1) a 1) (g + 10) 1)) := TH_cpy t1 (u.b.mk')
  have c2 := u.g.h.a.cl _ (t2 (g + 10) 1)
  exact c_X1_keep (t_X1_keep_0 u.b.ly w.ly ⟨ha, by omega, g, ⟨u.rg, u.g.ly⟩, fun _ => ⟨by omega, fun _ => ⟨by omega, rfl, TH_cpy t2 u.b.pt, fun c i q1 q2 q3 => by unfold cpy; rw [if_neg (fun q => q3 q.1), if_neg (fun q => q2 q.1), wr_a q1]⟩⟩⟩)
theorem row_R (u : cT G R T B b g p n C D o m E) (th : TH T V) {a : Int} (ha : i64 a) (no : ¬ (-1000000000000 ≤ a ∧ a ≤ 1000000000000) ∨ V b 3 = V (g + 10) 1) : wE T 8 (rwA (V (g + 10) 1) (V b 3) a) 130 [(4, (B : Int)), (2, a)] G R V := by
  have r1 : ¬ (-1000000000000 ≤ a ∧ a ≤ 1000000000000) → rwA (V (g + 10) 1) (V b 3) a = -1 := fun z => by unfold rwA; rw [if_pos z]
  have rf : ∀ c, i32 c → c = rwA (V (g + 10) 1) (V b 3) a → cwv 7 (fun r V' => ∃ v : Int, r = some (0, v) ∧ ∃ q : Int, some (0, v) = some ((0 : Nat), q) ∧ q = rwA (V (g + 10) 1) (V b 3) a ∧ TH T V') 138 [(4, (B : Int)), (0, c)] G R V := fun c hc e => eI_u (refuse_k u.ly u.re th hc) (fun V' h => ⟨_, rfl, e, h⟩)
  refine c_X7_row (t_X7_row_0 u.ly ⟨ha, fun z => rf _ (by omega) (r1 (by omega)).symm, fun z => ⟨fun z2 => ⟨b, ⟨u.rb, u.u.b.ly⟩, fun _ => ⟨g, ⟨u.u.rg, u.u.g.ly⟩, fun _ => ⟨fun z3 => by omega, fun z3 => rf _ (by omega) ?_⟩⟩⟩, fun z2 => rf _ (by omega) (r1 (by omega)).symm⟩⟩)
  unfold rwA
  rw [if_neg (by omega), if_pos (by omega)]
theorem row_A (u : cT G R T B (B + 52) g p n C D o m E) (uw : bW T (B + 52)) (th : TH T V) {a : Int} (ha : i64 a) (ok : -1000000000000 ≤ a ∧ a ≤ 1000000000000) (lt : V (B + 52) 3 < V (g + 10) 1) : cwv 8 (fun r V' => r = some (0, V (B + 52) 3 + 1) ∧ (TH T V' ∧ V' (B + 52) 3 = V (B + 52) 3 + 1 ∧ ∀ i, V' (B + 52 + 2) i = if i = V (B + 52) 3 then a else V (B + 52 + 2) i)) 130 [(4, (B : Int)), (2, a)] G R V := by
  have rl := (u.u.b.rl _).mp (th (B + 52) 3)
  have cl := u.u.g.h.a.cl _ (th (g + 10) 1)
  refine c_X7_row (t_X7_row_0 u.ly ⟨ha, fun z => by omega, fun z => ⟨fun z2 => ⟨B + 52, ⟨u.rb, u.u.b.ly⟩, fun _ => ⟨g, ⟨u.u.rg, u.u.g.ly⟩, fun _ => ⟨fun z3 => ⟨by omega, by omega, ?_⟩, fun z3 => by omega⟩⟩⟩, fun z2 => by omega⟩⟩)
  have t2 : TH T (wr (wr V (B + 52 + 2) (V (B + 52) 3) a) (B + 52) 3 (V (B + 52) 3 + 1)) := TH_wr (TH_wr th (uw.2 _ _)) (uw.1 _ (by omega) (by omega))
  refine cwv_mono (by omega) (accept_e u.ly) (fun r V' q => ?_)
  obtain ⟨v, q1, q2, q3⟩ := q
  refine ⟨v, q1, by rw [q2], ?_, ?_, fun i => ?_⟩
  · intro c i
    by_cases y : c = B ∧ i = 7
    · rw [y.1, y.2]; exact u.re _
    · rw [q3 c i y]; exact t2 c i
  · rw [q3 _ _ (by omega), wr_same]
  · rw [q3 _ _ (by omega), wr_a (by omega)]
    by_cases y : i = V (B + 52) 3
    · rw [y, wr_same, if_pos rfl]
    · rw [wr_i y, if_neg y]
theorem check_R (u : cT G R T B b g p n C D o m E) (th : TH T V) {a : Int} (no : V b 3 ≠ V (g + 10) 1) : wE T 8 (-1) 131 [(4, (B : Int)), (0, a)] G R V :=
  c_X7_check (t_X7_check_0 u.ly ⟨b, ⟨u.rb, u.u.b.ly⟩, g, ⟨u.u.rg, u.u.g.ly⟩, fun _ _ => ⟨fun z => absurd z no, fun _ => eI_u (refuse_k u.ly u.re th (by omega)) (fun V' h => ⟨_, rfl, rfl, h⟩)⟩⟩)
theorem check_A (u : cT G R T B (B + 52) g p n C D o m E) (uw : bW T (B + 52)) (mi : ∀ v, T B 8 v) (lk : lkT T R g dd) (th : TH T V) {a : Int} (ha : i32 a) (eq : V (B + 52) 3 = V (g + 10) 1) (tp : ∀ c, 0 ≤ c → c < dd 0 3 → 1 ≤ tbD dd c c) : cwv 8 (fun r V' => ∃ v f : Int, r = some (0, v) ∧ (ckP (dd 0 3) (tbD dd) (fun i => V (B + 52 + 2) i) v f ∧ TH T V' ∧ V' (B + 52) 3 = 0 ∧ V' B 8 = f)) 131 [(4, (B : Int)), (0, a)] G R V := by
  have e3 := lk_3 lk th
  have cl := u.u.g.h.a.cl _ (th (g + 10) 1)
  have gb : g + 10 ≠ B + 52 := ob (ly4_o u.u.g.h.a.ly) (ly1_o u.u.b.ly) (by omega)
  -- the end, at cells V2
  have fin : ∀ (x : Int) (f : Int) (V2 : gV), TH T V2 → V2 (B + 52) 3 = 0 → V2 B 8 = f → ckP (dd 0 3) (tbD dd) (fun i => V (B + 52 + 2) i) x f → cwv 7 (fun r V' => ∃ v : Int, r = some (0, v) ∧ ∃ v' f : Int, some ((0 : Nat), v) = some (0, v') ∧ (ckP (dd 0 3) (tbD dd) (fun i => V (B + 52 + 2) i) v' f ∧ TH T V' ∧ V' (B + 52) 3 = 0 ∧ V' B 8 = f)) 139 [(4, (B : Int)), (0, x)] G R V2 := fun x f V2 t2 b3 b8 ck => by
    refine cwv_mono (by omega) (accept_e u.ly) (fun r V' q => ?_)
    obtain ⟨v, q1, q2, q3⟩ := q
    refine ⟨v, q1, v, f, rfl, by rw [q2]; exact ck, ?_, by rw [q3 _ _ (by omega)]; exact b3, by rw [q3 _ _ (by omega)]; exact b8⟩
    intro c i
    by_cases y : c = B ∧ i = 7
    · rw [y.1, y.2]; exact u.re _
    · rw [q3 c i y]; exact t2 c i
  refine c_X7_check (t_X7_check_0 u.ly ⟨B + 52, ⟨u.rb, u.u.b.ly⟩, g, ⟨u.u.rg, u.u.g.ly⟩, fun _ _ => ⟨fun _ => ?_, fun z => absurd eq z⟩⟩)
  have t0 : TH T (wr V (B + 52) 3 0) := TH_wr th (uw.1 _ (by omega) (by omega))
  have v1 : wr V (B + 52) 3 0 (g + 10) 1 = dd 0 3 := lk_3 lk t0
  have tm : cwv 4 (fun r V' => ∃ v : Int, r = some (0, v) ∧ (TH T V' ∧ (∀ c i, c ≠ B + 15 + 2 → c ≠ B + 15 + 1 → V' c i = wr V (B + 52) 3 0 c i) ∧ ((v = -1 ∧ slP (dd 0 3) (tbD dd) (fun i => V (B + 52 + 2) i) (fun c => V' (B + 15 + 2) c) 0) ∨ ((0 ≤ v ∧ v < dd 0 3) ∧ slP (dd 0 3) (tbD dd) (fun i => V (B + 52 + 2) i) (fun c => V' (B + 15 + 2) c) (v + 1) ∧ jrem (lfs (tbD dd) (fun i => V (B + 52 + 2) i) (fun c => V' (B + 15 + 2) c) (dd 0 3) v) (tbD dd v v) ≠ 0)))) 12 [(4, ((B + 15 : Nat) : Int)), (4, ((g + 10 : Nat) : Int)), (4, ((B + 52 + 2 : Nat) : Int))] G R (wr V (B + 52) 3 0) := by
    refine c_X0_takeMarks (t_X0_takeMarks_0 u.k.ly u.u.g.h.a.ly (ly1_2 u.u.b.ly).2 (fun _ => ⟨by omega, ?_⟩))
    refine cwI_u (by omega) (fillParts_x (mm := fun i => V (B + 52 + 2) i) u.k u.u.g.h lk (TH_cpy t0 u.k.ma) (by omega) (fun c c0 c1 => ?_) tp) (fun v V' h => ⟨v, rfl, h.1, fun c i q1 q2 => ?_, h.2.2⟩)
    · unfold cpy
      rw [if_pos ⟨rfl, by omega, by rw [v1]; omega⟩, wr_a (by omega), show 0 + (c - 0) = c by omega]
    · rw [h.2.1 c i q1]
      unfold cpy
      rw [if_neg (fun q => q2 q.1)]
  refine cwI_u (by omega) tm (fun v V1 h => ?_)
  obtain ⟨th1, fr, sl⟩ := h
  have t1 : TH T (wr V1 B 8 v) := TH_wr th1 (mi _)
  have b31 : V1 (B + 52) 3 = 0 := by rw [fr _ _ (by omega) (by omega), wr_same]
  have c1 := u.u.g.h.a.cl _ (t1 (g + 10) 1)
  have e31 : wr V1 B 8 v (g + 10) 1 = dd 0 3 := lk_3 lk t1
  refine ⟨?_, fun z => fun _ => ?_, fun z => ?_⟩
  · rcases sl with y | y
    · rw [y.1]; exact ⟨by omega, by omega⟩
    · have := y.1; exact ⟨by omega, by omega⟩
  · have s0 : slP (dd 0 3) (tbD dd) (fun i => V (B + 52 + 2) i) (fun c => V1 (B + 15 + 2) c) 0 := by
      rcases sl with y | y
      · exact y.2
      · have := y.1; omega
    refine cwI_u (by omega) (lastBelow_e u.k.ly c1) (fun f V2 hf => ?_)
    obtain ⟨eV, hf⟩ := hf
    rw [e31] at hf
    have g2 : ∀ d, wr V1 B 8 v (B + 15 + 2) d = V1 (B + 15 + 2) d := fun d => wr_a (by omega)
    have t2 : TH T (wr V2 B 8 f) := TH_wr (by rw [eV]; exact t1) (mi _)
    have b32 : wr V2 B 8 f (B + 52) 3 = 0 := by rw [wr_a (by omega), eV, wr_a (by omega)]; exact b31
    refine ⟨?_, fun z2 => ?_, fun z2 => ?_⟩
    · rcases hf with y | y
      · rw [y.1]; exact ⟨by omega, by omega⟩
      · have := y.1; exact ⟨by omega, by omega⟩
    · have al : ∀ d, 0 ≤ d → d < dd 0 3 → 0 ≤ V1 (B + 15 + 2) d := by
        rcases hf with y | y
        · exact fun d d0 d1 => by rw [← g2]; exact y.2 d d0 d1
        · have := y.1; omega
      have ck : ckP (dd 0 3) (tbD dd) (fun i => V (B + 52 + 2) i) 2 f := Or.inr (Or.inr ⟨rfl, z2, _, s0, al⟩)
      refine bI_u (isActNumber_c ha) ⟨bi32 _, fun _ => fin 2 f _ t2 b32 (wr_same _ _ _ _) ck, fun y => ?_⟩
      refine cw0_u (by omega) (keep_f u.u u.k t2 (bi_nz y)) (fun V3 h3 => fin 2 f _ h3.1 (by rw [h3.2 _ _ (by omega) (by omega) (by omega)]; exact b32) (by rw [h3.2 _ _ (by omega) (by omega) (by omega), wr_same]) ck)
    · refine fin 1 f _ t2 b32 (wr_same _ _ _ _) (Or.inr (Or.inl ?_))
      rcases hf with y | y
      · exact absurd y.1 z2
      · exact ⟨rfl, y.1, _, s0, by have := y.2.1; rw [g2] at this; exact this, fun d d0 d1 => by have := y.2.2 d d0 d1; rw [g2] at this; exact this⟩
  · refine fin 0 v _ t1 (by rw [wr_a (by omega)]; exact b31) (wr_same _ _ _ _) (Or.inl ?_)
    rcases sl with y | y
    · exact absurd y.1 z
    · exact ⟨rfl, y.1, _, y.2.1, y.2.2⟩
end
