/-! how many rows of turns make all -/
section
variable {N H : Int} {mul : Int → Int → Int} {inv : Int → Int} {S : Int → Int → Int} {sz : Int → Int} {h k x j : Int}
/-- a heap with a turn more -/
noncomputable def jn (N H : Int) (S : Int → Int → Int) (h x : Int) : Int := the (fun v => (0 ≤ v ∧ v < H) ∧ (sub1 N (S h) (S v) ∧ S v x = 1) ∧ ∀ j, 0 ≤ j → j < H → sub1 N (S h) (S j) → S j x = 1 → sub1 N (S v) (S j))
/-- what is in all heaps over two sets -/
theorem jn_s (gt : GT N mul inv) (hp : hpsP N H mul S sz) (h0 : 0 ≤ h ∧ h < H) (x0 : 0 ≤ x ∧ x < N) : (0 ≤ jn N H S h x ∧ jn N H S h x < H) ∧ (sub1 N (S h) (S (jn N H S h x)) ∧ S (jn N H S h x) x = 1) ∧ ∀ j, 0 ≤ j → j < H → sub1 N (S h) (S j) → S j x = 1 → sub1 N (S (jn N H S h x)) (S j) := by
  refine the_s (P := fun v => (0 ≤ v ∧ v < H) ∧ (sub1 N (S h) (S v) ∧ S v x = 1) ∧ ∀ j, 0 ≤ j → j < H → sub1 N (S h) (S j) → S j x = 1 → sub1 N (S v) (S j)) ?_
  obtain ⟨W, hW⟩ : ∃ W : Int → Int, W = fun t => bi (∀ j, 0 ≤ j → j < H → sub1 N (S h) (S j) → S j x = 1 → S j t = 1) := ⟨_, rfl⟩
  have sW : SM N mul W := by
    rw [hW]
    refine ⟨fun _ _ _ => bi_01 _, bi_t (fun j j0 j1 _ _ => (hp.2.2.1 j j0 j1).1.2.1), fun s t s0 s1 t0 t1 a b => ?_⟩
    have a := bi_1.mp a
    have b := bi_1.mp b
    exact bi_t (fun j j0 j1 q1 q2 => (hp.2.2.1 j j0 j1).1.2.2 s t s0 s1 t0 t1 (a j j0 j1 q1 q2) (b j j0 j1 q1 q2))
  obtain ⟨v, v0, v1, v2⟩ := hp.2.2.2.1 W sW
  refine ⟨v, ⟨v0, v1⟩, ⟨fun t t0 t1 q => ?_, ?_⟩, fun j j0 j1 q1 q2 t t0 t1 q => ?_⟩
  · rw [v2 t t0 t1, hW]
    exact bi_t (fun j _ _ q1 _ => q1 t t0 t1 q)
  · rw [v2 x x0.1 x0.2, hW]
    exact bi_t (fun j _ _ _ q2 => q2)
  · rw [v2 t t0 t1, hW] at q
    exact bi_1.mp q j j0 j1 q1 q2
theorem jn_L (gt : GT N mul inv) (hp : hpsP N H mul S sz) (h0 : 0 ≤ h ∧ h < H) (x0 : 0 ≤ x ∧ x < N) (j0 : 0 ≤ j ∧ j < H) : Lq N S (jn N H S h x) j = Lq N S h j * S j x := by
  obtain ⟨a, ⟨b, c⟩, d⟩ := jn_s gt hp h0 x0
  have s01 := (hp.2.2.1 j j0.1 j0.2).1.1 x x0.1 x0.2
  by_cases q : sub1 N (S h) (S j)
  · rw [show Lq N S h j = 1 from bi_t q, Int.one_mul]
    rcases s01 with z | z
    · rw [z]
      refine bi_f (fun w => ?_)
      have := w x x0.1 x0.2 c
      omega
    · rw [z]
      exact bi_t (d j j0.1 j0.2 q z)
  · rw [show Lq N S h j = 0 from bi_f q, Int.zero_mul]
    exact bi_f (fun w => q (fun t t0 t1 r => w t t0 t1 (b t t0 t1 r)))
noncomputable def gn (N H : Int) (S : Int → Int → Int) : Nat → Int → Int
  | 0, h => if h = H - 1 then 1 else 0
  | k + 1, h => sm (fun x => gn N H S k (jn N H S h x)) N.toNat
theorem gn_mu (gt : GT N mul inv) (hp : hpsP N H mul S sz) (so : srtS N H S) : ∀ (k : Nat) (h : Int), 0 ≤ h → h < H → gn N H S k h = sm (fun j => Lq N S h j * (mu H (Lq N S) j * sz j ^ k)) H.toNat := by
  have en := GT_n gt
  have eh := hp_n hp
  have N1 := gt.1
  intro k
  induction k with
  | zero =>
    intro h h0 h1
    show (if h = H - 1 then 1 else 0) = _
    rw [← mu_all hp so (by omega) ⟨h0, h1⟩]
    refine sm_congr (fun j _ _ => ?_)
    (try dsimp only)
    rw [Int.pow_zero, Int.mul_one]
  | succ k ih =>
    intro h h0 h1
    show sm (fun x => gn N H S k (jn N H S h x)) N.toNat = _
    rw [sm_congr (g := fun x => sm (fun j => (Lq N S h j * (mu H (Lq N S) j * sz j ^ k)) * S j x) H.toNat) (fun x x0 x1 => ?_), sm_swap (fun x j => (Lq N S h j * (mu H (Lq N S) j * sz j ^ k)) * S j x)]
    · refine sm_congr (fun j j0 j1 => ?_)
      (try dsimp only)
      rw [sm_cm, ← (hp.2.2.1 j j0 (by omega)).2, Int.pow_succ, Int.mul_assoc, Int.mul_assoc]
    · have x0' : 0 ≤ x ∧ x < N := ⟨x0, by omega⟩
      have a := (jn_s gt hp ⟨h0, h1⟩ x0').1
      rw [ih _ a.1 a.2]
      refine sm_congr (fun j j0 j1 => ?_)
      (try dsimp only)
      rw [jn_L gt hp ⟨h0, h1⟩ x0' ⟨j0, by omega⟩, Int.mul_assoc, Int.mul_comm (S j x), ← Int.mul_assoc]
theorem gn_b (gt : GT N mul inv) (hp : hpsP N H mul S sz) : ∀ (k : Nat) (h : Int), 0 ≤ h → h < H → 0 ≤ gn N H S k h ∧ gn N H S k h ≤ N ^ k := by
  have en := GT_n gt
  have N1 := gt.1
  intro k
  induction k with
  | zero =>
    intro h h0 h1
    show 0 ≤ (if h = H - 1 then (1 : Int) else 0) ∧ (if h = H - 1 then (1 : Int) else 0) ≤ N ^ 0
    rw [Int.pow_zero]
    split <;> omega
  | succ k ih =>
    intro h h0 h1
    show 0 ≤ sm (fun x => gn N H S k (jn N H S h x)) N.toNat ∧ sm (fun x => gn N H S k (jn N H S h x)) N.toNat ≤ N ^ (k + 1)
    have r : ∀ x : Int, 0 ≤ x → x < N.toNat → 0 ≤ gn N H S k (jn N H S h x) ∧ gn N H S k (jn N H S h x) ≤ N ^ k := fun x x0 x1 => by
      have a := (jn_s gt hp ⟨h0, h1⟩ (x := x) ⟨x0, by omega⟩).1
      exact ih _ a.1 a.2
    refine ⟨sm_nn (fun x x0 x1 => (r x x0 x1).1), ?_⟩
    have := sm_le (f := fun x => gn N H S k (jn N H S h x)) (g := fun _ => N ^ k) (n := N.toNat) (fun x x0 x1 => (r x x0 x1).2)
    rw [sm_k, en] at this
    rw [Int.pow_succ, Int.mul_comm]
    exact this
/-- few turns make all: each new one doubles -/
theorem gn_p (gt : GT N mul inv) (hp : hpsP N H mul S sz) (so : srtS N H S) : ∀ (k : Nat) (h : Int), 0 ≤ h → h < H → N < sz h * 2 ^ (k + 1) → 0 < gn N H S k h := by
  have en := GT_n gt
  have N1 := gt.1
  have top := top_r gt hp so
  have full : ∀ h, 0 ≤ h → h < H → (¬ ∃ x, (0 ≤ x ∧ x < N) ∧ S h x = 0) → h = H - 1 := fun h h0 h1 no => by
    have a := (hp.2.2.1 h h0 h1).1
    refine hp.2.2.2.2 h (H - 1) h0 h1 (by have := hp.1; omega) (by omega) (fun t t0 t1 => ?_)
    rw [top t t0 t1]
    rcases a.1 t t0 t1 with z | z
    · exact absurd ⟨t, ⟨t0, t1⟩, z⟩ no
    · exact z
  have dbl : ∀ h x, (0 ≤ h ∧ h < H) → (0 ≤ x ∧ x < N) → S h x = 0 → 2 * sz h ≤ sz (jn N H S h x) := fun h x h0 x0 z => by
    obtain ⟨a, ⟨b, c⟩, d⟩ := jn_s gt hp h0 x0
    rw [(hp.2.2.1 h h0.1 h0.2).2, (hp.2.2.1 _ a.1 a.2).2]
    exact SM_two gt (hp.2.2.1 h h0.1 h0.2).1 (hp.2.2.1 _ a.1 a.2).1 b x0 z c
  intro k
  induction k with
  | zero =>
    intro h h0 h1 lt
    show 0 < (if h = H - 1 then (1 : Int) else 0)
    by_cases q : ∃ x, (0 ≤ x ∧ x < N) ∧ S h x = 0
    · exfalso
      obtain ⟨x, x0, z⟩ := q
      have a := dbl h x ⟨h0, h1⟩ x0 z
      have b := (sz_p gt hp (jn_s gt hp ⟨h0, h1⟩ x0).1).2
      have e : (2 : Int) ^ (0 + 1) = 2 := rfl
      rw [e] at lt
      omega
    · rw [if_pos (full h h0 h1 q)]; omega
  | succ k ih =>
    intro h h0 h1 lt
    show 0 < sm (fun x => gn N H S k (jn N H S h x)) N.toNat
    have nn : ∀ x : Int, 0 ≤ x → x < N.toNat → 0 ≤ gn N H S k (jn N H S h x) := fun x x0 x1 => by
      have a := (jn_s gt hp ⟨h0, h1⟩ (x := x) ⟨x0, by omega⟩).1
      exact (gn_b gt hp k _ a.1 a.2).1
    have key : ∃ x, (0 ≤ x ∧ x < N) ∧ 0 < gn N H S k (jn N H S h x) := by
      have e2 : (2 : Int) ^ (k + 1 + 1) = 2 * 2 ^ (k + 1) := by rw [Int.pow_succ, Int.mul_comm]
      have pp : (1 : Int) ≤ 2 ^ (k + 1) := by
        have : (0 : Int) < 2 ^ (k + 1) := Int.pow_pos (by omega)
        omega
      by_cases q : ∃ x, (0 ≤ x ∧ x < N) ∧ S h x = 0
      · obtain ⟨x, x0, z⟩ := q
        have a := dbl h x ⟨h0, h1⟩ x0 z
        have r := (jn_s gt hp ⟨h0, h1⟩ x0).1
        refine ⟨x, x0, ih _ r.1 r.2 ?_⟩
        have l : 2 * sz h * 2 ^ (k + 1) ≤ sz (jn N H S h x) * 2 ^ (k + 1) := Int.mul_le_mul_of_nonneg_right a (by omega)
        rw [e2, ← Int.mul_assoc, Int.mul_comm (sz h)] at lt
        omega
      · have r := jn_s gt hp ⟨h0, h1⟩ (x := 0) ⟨by omega, by omega⟩
        refine ⟨0, ⟨by omega, by omega⟩, ih _ r.1.1 r.1.2 ?_⟩
        have sj : sz (jn N H S h 0) = N := by
          rw [(hp.2.2.1 _ r.1.1 r.1.2).2]
          have z : sm (S (jn N H S h 0)) N.toNat = sm (fun _ => 1) N.toNat := sm_congr (fun t t0 t1 => by
            rcases (hp.2.2.1 h h0 h1).1.1 t t0 (by omega) with w | w
            · exact absurd ⟨t, ⟨t0, by omega⟩, w⟩ q
            · exact r.2.1.1 t t0 (by omega) w)
          rw [z, sm_k, en, Int.mul_one]
        rw [sj]
        have l : N * 2 ≤ N * 2 ^ (k + 1) := Int.mul_le_mul_of_nonneg_left (by
          rw [Int.pow_succ]
          have : (0 : Int) < 2 ^ k := Int.pow_pos (by omega)
          omega) (by omega)
        omega
    obtain ⟨x, x0, xp⟩ := key
    have l := sm_lt (f := fun _ => 0) (g := fun x => gn N H S k (jn N H S h x)) (j := x) (n := N.toNat) nn x0.1 (by omega) xp
    rw [sm_zz (fun _ _ _ => rfl)] at l
    exact l
end
