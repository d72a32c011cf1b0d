/-! signs are small: heaps within each other double in size -/
def ab (x : Int) : Int := if x < 0 then -x else x
theorem ab_nn (x : Int) : 0 ≤ ab x := by unfold ab; split <;> omega
theorem ab_add (x y : Int) : ab (x + y) ≤ ab x + ab y := by unfold ab; repeat' split <;> omega
theorem ab_neg (x : Int) : ab (-x) = ab x := by unfold ab; repeat' split <;> omega
theorem ab_lt {x B : Int} (h : ab x ≤ B) : -B ≤ x ∧ x ≤ B := by unfold ab at h; split at h <;> omega
theorem ab_bm (p : Prop) (x : Int) : ab (bi p * x) = bi p * ab x := by
  rcases bi_01 p with h | h
  · rw [h, Int.zero_mul, Int.zero_mul]; rfl
  · rw [h, Int.one_mul, Int.one_mul]
theorem ab_sm (f : Int → Int) : ∀ n : Nat, ab (sm f n) ≤ sm (fun i => ab (f i)) n := by
  intro n
  induction n with
  | zero => exact Int.le_refl _
  | succ n ih =>
    show ab (sm f n + f n) ≤ sm (fun i => ab (f i)) n + ab (f n)
    have := ab_add (sm f n) (f n)
    omega
theorem sm_one {f : Int → Int} {n : Nat} {j : Int} (h : ∀ i : Int, 0 ≤ i → i < n → 0 ≤ f i) (j0 : 0 ≤ j) (j1 : j < n) : f j ≤ sm f n := by
  rw [← sm_dl (g := f) (m := n) j0 j1]
  refine sm_le (fun i i0 i1 => ?_)
  have := h i i0 i1
  (try dsimp only)
  rcases bi_01 (j = i) with q | q
  · rw [q, Int.zero_mul]; exact this
  · rw [q, Int.one_mul]; omega
/-- the step of a size -/
def lv (s : Int) : Int := if s < 2 then 0 else if s < 4 then 1 else if s < 8 then 2 else if s < 16 then 3 else if s < 32 then 4 else if s < 64 then 5 else 6
theorem lv_r (s : Int) : 0 ≤ lv s ∧ lv s ≤ 6 := by unfold lv; repeat' split <;> omega
theorem lv_2 {a b : Int} (h1 : 1 ≤ a) (h : 2 * a ≤ b) (hb : b < 128) : lv a + 1 ≤ lv b := by
  unfold lv
  split
  · repeat' split <;> omega
  · split
    · repeat' split <;> omega
    · split
      · repeat' split <;> omega
      · split
        · repeat' split <;> omega
        · split
          · repeat' split <;> omega
          · split
            · repeat' split <;> omega
            · omega
theorem pr5 : ∀ s : Fin 306, (s.val * s.val * (s.val * s.val)) * (305 - s.val) ≤ 256 * 2147483647 := by decide +kernel
theorem sq4 (a b : Int) : 4 * (a * b) ≤ (a + b) * (a + b) := by
  have h : 0 ≤ (a - b) * (a - b) := by
    rcases Int.le_total 0 (a - b) with q | q
    · exact Int.mul_nonneg q q
    · have := Int.mul_nonneg (show 0 ≤ -(a - b) by omega) (show 0 ≤ -(a - b) by omega)
      rw [Int.neg_mul_neg] at this
      exact this
  have e1 : (a - b) * (a - b) = a * a - a * b - a * b + b * b := by
    rw [Int.sub_mul, Int.mul_sub, Int.mul_sub, Int.mul_comm b a]
    omega
  have e2 : (a + b) * (a + b) = a * a + a * b + a * b + b * b := by
    rw [Int.add_mul, Int.mul_add, Int.mul_add, Int.mul_comm b a]
    omega
  omega
theorem prod5 {a b c d e : Int} (a1 : 1 ≤ a) (b1 : 1 ≤ b) (c1 : 1 ≤ c) (d1 : 1 ≤ d) (e1 : 1 ≤ e) (h : a + b + c + d + e ≤ 305) : (a * b) * (c * d) * e ≤ 2147483647 := by
  have h1 := sq4 a b
  have h2 := sq4 c d
  have ab0 : 0 ≤ a * b := Int.mul_nonneg (by omega) (by omega)
  have cd0 : 0 ≤ c * d := Int.mul_nonneg (by omega) (by omega)
  obtain ⟨s, es⟩ : ∃ s, s = a + b := ⟨_, rfl⟩
  obtain ⟨t, et⟩ : ∃ t, t = c + d := ⟨_, rfl⟩
  rw [← es] at h1
  rw [← et] at h2
  have s0 : 0 ≤ s := by omega
  have t0 : 0 ≤ t := by omega
  have h3 : (4 * (a * b)) * (4 * (c * d)) ≤ (s * s) * (t * t) := Int.mul_le_mul h1 h2 (by omega) (Int.mul_nonneg s0 s0)
  have h4 := sq4 s t
  have st0 : 0 ≤ s * t := Int.mul_nonneg s0 t0
  have h5 : (4 * (s * t)) * (4 * (s * t)) ≤ ((s + t) * (s + t)) * ((s + t) * (s + t)) := Int.mul_le_mul h4 h4 (by omega) (Int.mul_nonneg (by omega) (by omega))
  have e6 : (s * s) * (t * t) = (s * t) * (s * t) := by
    rw [Int.mul_assoc, Int.mul_assoc, ← Int.mul_assoc s t t, ← Int.mul_assoc t s t, Int.mul_comm s t]
  have e7 : (4 * (s * t)) * (4 * (s * t)) = 16 * ((s * t) * (s * t)) := by
    rw [Int.mul_assoc, ← Int.mul_assoc (s * t) 4, Int.mul_comm (s * t) 4, Int.mul_assoc 4 (s * t), ← Int.mul_assoc 4 4]
    rfl
  have e8 : (4 * (a * b)) * (4 * (c * d)) = 16 * ((a * b) * (c * d)) := by
    rw [Int.mul_assoc, ← Int.mul_assoc (a * b) 4, Int.mul_comm (a * b) 4, Int.mul_assoc 4 (a * b), ← Int.mul_assoc 4 4]
    rfl
  obtain ⟨u, eu⟩ : ∃ u, u = s + t := ⟨_, rfl⟩
  rw [← eu] at h5
  have q1 : 256 * ((a * b) * (c * d)) ≤ (u * u) * (u * u) := by omega
  have u0 : 0 ≤ u := by omega
  have q0 : 0 ≤ (a * b) * (c * d) := Int.mul_nonneg ab0 cd0
  have q2 : 256 * ((a * b) * (c * d)) * e ≤ (u * u) * (u * u) * (305 - u) := Int.mul_le_mul q1 (by omega) (by omega) (Int.mul_nonneg (Int.mul_nonneg u0 u0) (Int.mul_nonneg u0 u0))
  obtain ⟨k, ek⟩ := Int.eq_ofNat_of_zero_le u0
  have q3 := pr5 ⟨k, by omega⟩
  have q4 : (u * u) * (u * u) * (305 - u) = (((k * k) * (k * k)) * (305 - k) : Nat) := by
    rw [ek]
    have : ((305 - k : Nat) : Int) = 305 - (k : Int) := by omega
    rw [Int.natCast_mul, Int.natCast_mul, Int.natCast_mul, this]
  have q5 : 256 * ((a * b) * (c * d)) * e = 256 * ((a * b) * (c * d) * e) := by rw [Int.mul_assoc]
  dsimp only at q3
  omega
section
variable {N H C : Int} {mul : Int → Int → Int} {inv : Int → Int} {S : Int → Int → Int} {sz co fo nu : Int → Int} {h k : Int}
/-- all signs of heaps at a step or more -/
noncomputable def aA (H : Int) (L : Int → Int → Int) (sz : Int → Int) (l : Int) : Int := sm (fun k => bi (l ≤ lv (sz k)) * ab (mu H L k)) H.toNat
noncomputable def cA (H : Int) (sz : Int → Int) (l : Int) : Int := sm (fun k => bi (lv (sz k) = l)) H.toNat
theorem lvl_sub (gt : GT N mul inv) (hp : hpsP N H mul S sz) (hN : N ≤ 120) (h0 : 0 ≤ h ∧ h < H) (k0 : 0 ≤ k ∧ k < H) (w : sub1 N (S h) (S k)) (ne : h ≠ k) : lv (sz h) + 1 ≤ lv (sz k) := by
  have a := sz_p gt hp h0
  have b := sz_p gt hp k0
  have lt := sub_szl hp (by omega) h0 k0 w ne
  have ha := hp.2.2.1 h h0.1 h0.2
  have hb := hp.2.2.1 k k0.1 k0.2
  refine lv_2 a.1 ?_ (by omega)
  -- some turn of k is not in h
  have ex : ∃ t, (0 ≤ t ∧ t < N) ∧ S h t = 0 ∧ S k t = 1 := by
    apply Classical.byContradiction
    intro no
    have : sub1 N (S k) (S h) := fun t t0 t1 q => by
      rcases ha.1.1 t t0 t1 with z | z
      · exact absurd ⟨t, ⟨t0, t1⟩, z, q⟩ no
      · exact z
    have := sub_szl hp (by omega) k0 h0 this (fun e => ne e.symm)
    omega
  obtain ⟨t, t0, t1, t2⟩ := ex
  rw [ha.2, hb.2]
  exact SM_two gt ha.1 hb.1 w t0 t1 t2
theorem mu_ab (gt : GT N mul inv) (hp : hpsP N H mul S sz) (hN : N ≤ 120) (h0 : 0 ≤ h ∧ h < H) (ne : h ≠ H - 1) : ab (mu H (Lq N S) h) ≤ aA H (Lq N S) sz (lv (sz h) + 1) := by
  have eh := hp_n hp
  rw [mu_eq h0.1 h0.2, if_neg ne, Int.zero_sub, ab_neg]
  refine Int.le_trans (ab_sm _ _) (sm_le (fun k k0 k1 => ?_))
  (try dsimp only)
  by_cases q : h < k
  · rw [if_pos q]
    show ab (bi (sub1 N (S h) (S k)) * mu H (Lq N S) k) ≤ _
    rw [ab_bm]
    by_cases r : sub1 N (S h) (S k)
    · rw [bi_t r, bi_t (lvl_sub gt hp hN h0 ⟨k0, by omega⟩ r (by omega))]
      exact Int.le_refl _
    · rw [bi_f r, Int.zero_mul]
      exact Int.mul_nonneg (bi_nn _) (ab_nn _)
  · rw [if_neg q]
    exact Int.mul_nonneg (bi_nn _) (ab_nn _)
theorem lv_top (gt : GT N mul inv) (hp : hpsP N H mul S sz) (so : srtS N H S) (hN : N ≤ 120) (k0 : 0 ≤ k ∧ k < H) (ne : k ≠ H - 1) : lv (sz k) + 1 ≤ lv (sz (H - 1)) :=
  lvl_sub gt hp hN k0 (by have := hp.1; omega) (fun t t0 t1 _ => top_r gt hp so t t0 t1) ne
theorem aA_nn (L : Int → Int → Int) (l : Int) : 0 ≤ aA H L sz l := sm_nn (fun k _ _ => Int.mul_nonneg (bi_nn _) (ab_nn _))
theorem mu_top (hp : hpsP N H mul S sz) : mu H (Lq N S) (H - 1) = 1 := by
  have h1 := hp.1
  rw [mu_eq (by omega) (by omega), if_pos rfl, sm_zz (fun k k0 k1 => if_neg (by omega))]
  rfl
theorem aA_top (gt : GT N mul inv) (hp : hpsP N H mul S sz) (so : srtS N H S) (hN : N ≤ 120) : aA H (Lq N S) sz (lv (sz (H - 1))) = 1 := by
  have eh := hp_n hp
  have h1 := hp.1
  unfold aA
  rw [sm_congr (g := fun k => bi (H - 1 = k) * 1) (fun k k0 k1 => ?_)]
  · exact sm_dl (g := fun _ => 1) (by omega) (by omega)
  · (try dsimp only)
    by_cases q : k = H - 1
    · rw [q, mu_top hp, bi_t (Int.le_refl _), bi_t rfl]; rfl
    · have := lv_top gt hp so hN (k := k) ⟨k0, by omega⟩ q
      rw [bi_f (by omega), bi_f (fun e => q e.symm), Int.zero_mul, Int.zero_mul]
theorem aA_st (gt : GT N mul inv) (hp : hpsP N H mul S sz) (so : srtS N H S) (hN : N ≤ 120) {l : Int} (hl : l < lv (sz (H - 1))) : aA H (Lq N S) sz l ≤ (1 + cA H sz l) * aA H (Lq N S) sz (l + 1) := by
  have eh := hp_n hp
  have e : (1 + cA H sz l) * aA H (Lq N S) sz (l + 1) = sm (fun k => bi (l + 1 ≤ lv (sz k)) * ab (mu H (Lq N S) k) + bi (lv (sz k) = l) * aA H (Lq N S) sz (l + 1)) H.toNat := by
    rw [sm_add (fun k => bi (l + 1 ≤ lv (sz k)) * ab (mu H (Lq N S) k)), sm_mc, Int.add_mul, Int.one_mul]
    rfl
  rw [e]
  refine sm_le (fun k k0 k1 => ?_)
  (try dsimp only)
  have nn := aA_nn (H := H) (sz := sz) (Lq N S) (l + 1)
  rcases Int.lt_trichotomy (lv (sz k)) l with q | q | q
  · rw [bi_f (by omega), bi_f (by omega), bi_f (by omega)]; omega
  · rw [bi_t (by omega), bi_f (by omega), bi_t q, Int.one_mul, Int.zero_mul, Int.one_mul, Int.zero_add]
    have ne : k ≠ H - 1 := fun z => by rw [z] at q; omega
    have := mu_ab gt hp hN (h := k) ⟨k0, by omega⟩ ne
    rw [q] at this
    exact this
  · rw [bi_t (by omega), bi_t (by omega), bi_f (by omega)]; omega
theorem cA_sum (hp : hpsP N H mul S sz) : (0 ≤ cA H sz 1 ∧ 0 ≤ cA H sz 2 ∧ 0 ≤ cA H sz 3 ∧ 0 ≤ cA H sz 4 ∧ 0 ≤ cA H sz 5) ∧ cA H sz 1 + cA H sz 2 + cA H sz 3 + cA H sz 4 + cA H sz 5 ≤ 300 := by
  have eh := hp_n hp
  have nn : ∀ l, 0 ≤ cA H sz l := fun l => sm_nn (fun k _ _ => bi_nn _)
  refine ⟨⟨nn 1, nn 2, nn 3, nn 4, nn 5⟩, ?_⟩
  have e : cA H sz 1 + cA H sz 2 + cA H sz 3 + cA H sz 4 + cA H sz 5 = sm (fun k => bi (lv (sz k) = 1) + bi (lv (sz k) = 2) + bi (lv (sz k) = 3) + bi (lv (sz k) = 4) + bi (lv (sz k) = 5)) H.toNat := by
    rw [sm_add (fun k => bi (lv (sz k) = 1) + bi (lv (sz k) = 2) + bi (lv (sz k) = 3) + bi (lv (sz k) = 4)), sm_add (fun k => bi (lv (sz k) = 1) + bi (lv (sz k) = 2) + bi (lv (sz k) = 3)), sm_add (fun k => bi (lv (sz k) = 1) + bi (lv (sz k) = 2)), sm_add (fun k => bi (lv (sz k) = 1))]
    rfl
  rw [e]
  have := sm_le (f := fun k => bi (lv (sz k) = 1) + bi (lv (sz k) = 2) + bi (lv (sz k) = 3) + bi (lv (sz k) = 4) + bi (lv (sz k) = 5)) (g := fun _ => 1) (n := H.toNat) (fun k k0 k1 => ?_)
  · rw [sm_k, eh, Int.mul_one] at this
    have := hp.2.1
    omega
  · (try dsimp only)
    generalize lv (sz k) = l
    by_cases q1 : l = 1
    · rw [bi_t q1, bi_f (show ¬ l = 2 by omega), bi_f (show ¬ l = 3 by omega), bi_f (show ¬ l = 4 by omega), bi_f (show ¬ l = 5 by omega)]; omega
    · rw [bi_f q1]
      by_cases q2 : l = 2
      · rw [bi_t q2, bi_f (show ¬ l = 3 by omega), bi_f (show ¬ l = 4 by omega), bi_f (show ¬ l = 5 by omega)]; omega
      · rw [bi_f q2]
        by_cases q3 : l = 3
        · rw [bi_t q3, bi_f (show ¬ l = 4 by omega), bi_f (show ¬ l = 5 by omega)]; omega
        · rw [bi_f q3]
          by_cases q4 : l = 4
          · rw [bi_t q4, bi_f (show ¬ l = 5 by omega)]; omega
          · rw [bi_f q4]
            rcases bi_01 (l = 5) with q | q <;> omega
theorem mu_32 (gt : GT N mul inv) (hp : hpsP N H mul S sz) (so : srtS N H S) (hN : N ≤ 120) (h0 : 0 ≤ h ∧ h < H) : i32 (mu H (Lq N S) h) := by
  have eh := hp_n hp
  have h1 := hp.1
  have cs := cA_sum hp
  obtain ⟨⟨c1, c2, c3, c4, c5⟩, cs⟩ := cs
  have P := prod5 (a := 1 + cA H sz 1) (b := 1 + cA H sz 2) (c := 1 + cA H sz 3) (d := 1 + cA H sz 4) (e := 1 + cA H sz 5) (by omega) (by omega) (by omega) (by omega) (by omega) (by omega)
  obtain ⟨x1, e1⟩ : ∃ x, x = 1 + cA H sz 1 := ⟨_, rfl⟩
  obtain ⟨x2, e2⟩ : ∃ x, x = 1 + cA H sz 2 := ⟨_, rfl⟩
  obtain ⟨x3, e3⟩ : ∃ x, x = 1 + cA H sz 3 := ⟨_, rfl⟩
  obtain ⟨x4, e4⟩ : ∃ x, x = 1 + cA H sz 4 := ⟨_, rfl⟩
  obtain ⟨x5, e5⟩ : ∃ x, x = 1 + cA H sz 5 := ⟨_, rfl⟩
  have s := fun l => aA_st gt hp so hN (l := l)
  have tp := aA_top gt hp so hN
  have s1 := s 1
  have s2 := s 2
  have s3 := s 3
  have s4 := s 4
  have s5 := s 5
  rw [← e1] at s1
  rw [← e2] at s2
  rw [← e3] at s3
  rw [← e4] at s4
  rw [← e5] at s5
  rw [← e1, ← e2, ← e3, ← e4, ← e5] at P
  have up : ∀ {x y z w : Int}, 1 ≤ x → y ≤ x * z → z ≤ w → y ≤ x * w := fun hx hy hz => Int.le_trans hy (Int.mul_le_mul_of_nonneg_left hz (by omega))
  have gr : ∀ {x y : Int}, 1 ≤ x → 0 ≤ y → y ≤ x * y := fun {x y} hx hy => by
    have := Int.mul_le_mul_of_nonneg_right hx hy
    rw [Int.one_mul] at this
    exact this
  have p5 : 1 ≤ x5 := by omega
  have p4 : 1 ≤ x4 := by omega
  have p3 : 1 ≤ x3 := by omega
  have p2 : 1 ≤ x2 := by omega
  have p1 : 1 ≤ x1 := by omega
  have q45 : 1 ≤ x4 * x5 := Int.le_trans p5 (gr p4 (by omega))
  have q345 : 1 ≤ x3 * (x4 * x5) := Int.le_trans q45 (gr p3 (by omega))
  have q2345 : 1 ≤ x2 * (x3 * (x4 * x5)) := Int.le_trans q345 (gr p2 (by omega))
  have q12345 : 1 ≤ x1 * (x2 * (x3 * (x4 * x5))) := Int.le_trans q2345 (gr p1 (by omega))
  have eP : x1 * (x2 * (x3 * (x4 * x5))) = (x1 * x2) * (x3 * x4) * x5 := by
    rw [Int.mul_assoc (x1 * x2), Int.mul_assoc x1 x2, Int.mul_assoc x3 x4]
  have lt := lv_r (sz (H - 1))
  have A1 : 1 ≤ lv (sz (H - 1)) → aA H (Lq N S) sz 1 ≤ x1 * (x2 * (x3 * (x4 * x5))) := by
    intro l1
    generalize lv (sz (H - 1)) = L at *
    have cases6 : L = 1 ∨ L = 2 ∨ L = 3 ∨ L = 4 ∨ L = 5 ∨ L = 6 := by omega
    have b6 : L = 6 → aA H (Lq N S) sz 5 ≤ x5 := fun q => by
      have := s5 (by omega)
      rw [q] at tp
      rw [show (5 : Int) + 1 = 6 from rfl, tp, Int.mul_one] at this
      exact this
    have b5 : 5 ≤ L → aA H (Lq N S) sz 5 ≤ x5 := fun q => by
      by_cases r : L = 5
      · rw [r] at tp; omega
      · exact b6 (by omega)
    have b4 : 4 ≤ L → aA H (Lq N S) sz 4 ≤ x4 * x5 := fun q => by
      by_cases r : L = 4
      · rw [r] at tp; omega
      · exact up p4 (s4 (by omega)) (b5 (by omega))
    have b3 : 3 ≤ L → aA H (Lq N S) sz 3 ≤ x3 * (x4 * x5) := fun q => by
      by_cases r : L = 3
      · rw [r] at tp; omega
      · exact up p3 (s3 (by omega)) (b4 (by omega))
    have b2 : 2 ≤ L → aA H (Lq N S) sz 2 ≤ x2 * (x3 * (x4 * x5)) := fun q => by
      by_cases r : L = 2
      · rw [r] at tp; omega
      · exact up p2 (s2 (by omega)) (b3 (by omega))
    by_cases r : L = 1
    · rw [r] at tp; omega
    · exact up p1 (s1 (by omega)) (b2 (by omega))
  have fin : ab (mu H (Lq N S) h) ≤ 2147483647 := by
    by_cases q : h = H - 1
    · rw [q, mu_top hp]
      show (1 : Int) ≤ 2147483647
      omega
    · have lh := lv_r (sz h)
      have lt2 := lv_top gt hp so hN h0 q
      have a1 := A1 (by omega)
      by_cases z : lv (sz h) = 0
      · have := mu_ab gt hp hN h0 q
        rw [z] at this
        have e : (0 : Int) + 1 = 1 := rfl
        rw [e] at this
        omega
      · have o := sm_one (f := fun k => bi (1 ≤ lv (sz k)) * ab (mu H (Lq N S) k)) (n := H.toNat) (j := h) (fun k _ _ => Int.mul_nonneg (bi_nn _) (ab_nn _)) h0.1 (by omega)
        (try dsimp only at o)
        rw [bi_t (show 1 ≤ lv (sz h) by omega), Int.one_mul] at o
        have o' : ab (mu H (Lq N S) h) ≤ aA H (Lq N S) sz 1 := o
        omega
  have r := ab_lt fin
  omega
end
