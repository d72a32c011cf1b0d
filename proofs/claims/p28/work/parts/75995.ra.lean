/-! the acts of both sides -/
theorem jrem_z {a b : Int} (ha : i64 a) (hb : i64 b) (b0 : 0 < b) (h : jrem a b = 0) : jdiv a b * b = a := by
  have e1 : (Int64.ofInt a).toInt = a := Int64.toInt_ofInt_of_le (by have := ha.1; omega) (by have := ha.2; omega)
  have e2 : (Int64.ofInt b).toInt = b := Int64.toInt_ofInt_of_le (by have := hb.1; omega) (by have := hb.2; omega)
  have le : a.tdiv b * b = a - a.tmod b := by
    have := Int.mul_tdiv_add_tmod a b
    have h4 : b * a.tdiv b = a.tdiv b * b := Int.mul_comm _ _
    omega
  have m1 : a.tmod b < b := Int.tmod_lt_of_pos a b0
  have m0 : -b < a.tmod b := by
    have := Int.neg_tmod a b
    have h := Int.tmod_lt_of_pos (-a) b0
    omega
  have q : i64 (a.tdiv b) := by
    rcases Int.le_total 0 a with z | z
    · have h1 : 0 ≤ a.tdiv b := Int.tdiv_nonneg z (by omega)
      have h2 : a.tdiv b ≤ a := by rw [Int.tdiv_eq_ediv_of_nonneg z]; exact Int.ediv_le_self b z
      have := ha.2
      exact ⟨by omega, by omega⟩
    · have h1 : 0 ≤ (-a).tdiv b := Int.tdiv_nonneg (by omega) (by omega)
      have h2 : (-a).tdiv b ≤ -a := by rw [Int.tdiv_eq_ediv_of_nonneg (by omega)]; exact Int.ediv_le_self b (by omega)
      rw [Int.neg_tdiv] at h1 h2
      have := ha.1
      exact ⟨by omega, by omega⟩
  have e3 : (Int64.ofInt a / Int64.ofInt b).toInt = a.tdiv b := by rw [Int64.toInt_div, e1, e2, Int.bmod_eq_of_le (by have := q.1; omega) (by have := q.2; omega)]
  have e4 : Int64.ofInt a / Int64.ofInt b = Int64.ofInt (a.tdiv b) := by rw [← e3, Int64.ofInt_toInt]
  have ed : jdiv a b = a.tdiv b := by unfold jdiv; exact e3
  have er : jrem a b = a.tmod b := by
    unfold jrem
    rw [e4, ← Int64.ofInt_mul, ← Int64.ofInt_sub, le, show a - (a - a.tmod b) = a.tmod b by omega, Int64.toInt_ofInt_of_le (by have := hb.2; omega) (by have := hb.2; omega)]
  rw [er] at h
  rw [ed, le, h]
  omega
section
variable {K : Int} {tb : Int → Int → Int} {m made : Int → Int}
/-- a row that has parts, none of them below nothing, is the sum of its parts -/
theorem sl_ex (K3 : K ≤ 300) (tri : ∀ c d, 0 ≤ c → c < d → d < K → tb c d = 0) (t0 : ∀ c d, 0 ≤ c → c < K → 0 ≤ d → d < K → 0 ≤ tb c d ∧ tb c d ≤ 120) (t1 : ∀ d, 0 ≤ d → d < K → 1 ≤ tb d d) (hb : ∀ d, 0 ≤ d → d < K → -1000000000000 ≤ m d ∧ m d ≤ 1000000000000) (s : slP K tb m made 0) (p0 : ∀ d, 0 ≤ d → d < K → 0 ≤ made d) : ∀ d, 0 ≤ d → d < K → made d ≤ 1000000000000 ∧ m d = sm (fun c => made c * tb c d) K.toNat := by
  have key : ∀ (n : Nat) (d : Int), (K - d).toNat = n → 0 ≤ d → d < K → made d ≤ 1000000000000 ∧ m d = sm (fun c => made c * tb c d) K.toNat := by
    intro n
    induction n using Nat.strongRecOn with
    | ind n ih =>
      intro d en d0 d1
      have eK : ((K.toNat : Nat) : Int) = K := by omega
      have nn : 0 ≤ sm (fun c => if d < c then made c * tb c d else 0) K.toNat := sm_nn (fun c c0 c1 => by
        (try dsimp only)
        split
        · exact Int.mul_nonneg (p0 c c0 (by omega)) (t0 c d c0 (by omega) d0 d1).1
        · omega)
      have ub : sm (fun c => if d < c then made c * tb c d else 0) K.toNat ≤ 120000000000000 * K := by
        have a := sm_le (f := fun c => if d < c then made c * tb c d else 0) (g := fun _ => 120000000000000) (n := K.toNat) (fun c c0 c1 => by
          (try dsimp only)
          split
          · rename_i y
            have q1 := (ih (K - c).toNat (by omega) c rfl c0 (by omega)).1
            have q2 := (t0 c d c0 (by omega) d0 d1)
            have q3 : made c * tb c d ≤ 1000000000000 * 120 := Int.mul_le_mul q1 q2.2 q2.1 (by omega)
            omega
          · omega)
        rw [sm_k, eK] at a
        omega
      have b := hb d d0 d1
      have l6 : lfs tb m made K d = m d - sm (fun c => if d < c then made c * tb c d else 0) K.toNat := by
        unfold lfs
        exact jw_e ⟨by omega, by omega⟩
      have tp := t1 d d0 d1
      have tq := (t0 d d d0 d1 d0 d1).2
      have sd := s d d0 d1
      rw [l6] at sd
      have z := jrem_z (a := m d - sm (fun c => if d < c then made c * tb c d else 0) K.toNat) (b := tb d d) ⟨by omega, by omega⟩ ⟨by omega, by omega⟩ (by omega) sd.1
      rw [← sd.2] at z
      have pd := p0 d d0 d1
      have e : sm (fun c => made c * tb c d) K.toNat = sm (fun c => (if d < c then made c * tb c d else 0) + bi (d = c) * (made c * tb c d)) K.toNat := sm_congr (fun c c0 c1 => by
        (try dsimp only)
        rcases Int.lt_trichotomy d c with q | q | q
        · rw [if_pos q, bi_f (by omega), Int.zero_mul]; omega
        · rw [if_neg (by omega), bi_t q, Int.one_mul]; omega
        · rw [if_neg (by omega), bi_f (by omega), tri c d c0 q d1, Int.mul_zero, Int.zero_mul]; omega)
      rw [e, sm_add, sm_dl d0 (by omega)]
      have le : made d * 1 ≤ made d * tb d d := Int.mul_le_mul_of_nonneg_left tp pd
      exact ⟨by omega, by omega⟩
  exact fun d => key _ d rfl
end
/-- class's acts e over a group d are those with the flags th and the parts pt -/
def rA (e d : gD) (th pt : Int → Int) : Prop := (e 5 0 = d 0 3 ∧ d 0 3 ≤ 300) ∧ ∀ a, 0 ≤ a → a < 8 → e 2 a = th a ∧ (th a = 1 → (∀ c, 0 ≤ c → c < d 0 3 → 0 ≤ pt (300 * a + c) ∧ e 4 (300 * a + c) = pt (300 * a + c) ∧ e 3 (300 * a + c) = sm (fun y => pt (300 * a + y) * tbD d y c) (d 0 3).toNat) ∧ e 3 (300 * a + 0) ≤ 1000000000000000)
theorem rA_c {e d : gD} {th pt th' pt' : Int → Int} (h1 : ∀ a, 0 ≤ a → a < 8 → th' a = th a) (h2 : ∀ i, 0 ≤ i → i < 2400 → pt' i = pt i) (h : rA e d th pt) : rA e d th' pt' := by
  have K3 := h.1.2
  refine ⟨h.1, fun a a0 a1 => ?_⟩
  obtain ⟨q1, q2⟩ := h.2 a a0 a1
  rw [h1 a a0 a1]
  refine ⟨q1, fun t => ?_⟩
  obtain ⟨r1, r2⟩ := q2 t
  refine ⟨fun c c0 c1 => ?_, r2⟩
  obtain ⟨s1, s2, s3⟩ := r1 c c0 c1
  rw [h2 _ (by omega) (by omega)]
  refine ⟨s1, s2, s3.trans (sm_congr (fun y y0 y1 => ?_))⟩
  (try dsimp only)
  rw [h2 _ (by omega) (by omega)]
theorem rA_put {e d : gD} {th pt th' pt' mk p : Int → Int} {a : Int} (a0 : 0 ≤ a ∧ a < 8) (h : rA e d th pt) (p0 : ∀ c, 0 ≤ c → c < d 0 3 → 0 ≤ p c) (hm : ∀ c, 0 ≤ c → c < d 0 3 → mk c = sm (fun y => p y * tbD d y c) (d 0 3).toNat) (mb : mk 0 ≤ 1000000000000000) (h1 : ∀ i, th' i = if i = a then 1 else th i) (h2 : ∀ i, pt' i = if 300 * a ≤ i ∧ i < 300 * a + d 0 3 then p (i - 300 * a) else pt i) : rA (kp e a mk p) d th' pt' := by
  have K3 := h.1.2
  refine ⟨⟨by rw [kp_o (by omega) (by omega) (by omega)]; exact h.1.1, K3⟩, fun x x0 x1 => ?_⟩
  rw [kp_2, h1 x]
  by_cases y : x = a
  · rw [if_pos y, if_pos y]
    refine ⟨rfl, fun _ => ⟨fun c c0 c1 => ?_, ?_⟩⟩
    · rw [kp_4, kp_3, if_pos (by omega), if_pos (by omega), h2, if_pos (by omega), show 300 * x + c - 300 * a = c by omega]
      refine ⟨p0 c c0 c1, rfl, (hm c c0 c1).trans (sm_congr (fun z z0 z1 => ?_))⟩
      (try dsimp only)
      rw [h2, if_pos (by omega), show 300 * x + z - 300 * a = z by omega]
    · rw [kp_3, if_pos (by omega), show 300 * x + 0 - 300 * a = 0 by omega]; exact mb
  · rw [if_neg y, if_neg y]
    obtain ⟨q1, q2⟩ := h.2 x x0 x1
    refine ⟨q1, fun t => ?_⟩
    obtain ⟨r1, r2⟩ := q2 t
    refine ⟨fun c c0 c1 => ?_, by rw [kp_3, if_neg (by omega)]; exact r2⟩
    obtain ⟨s1, s2, s3⟩ := r1 c c0 c1
    rw [kp_4, kp_3, if_neg (by omega), if_neg (by omega), h2, if_neg (by omega)]
    refine ⟨s1, s2, s3.trans (sm_congr (fun z z0 z1 => ?_))⟩
    (try dsimp only)
    rw [h2, if_neg (by omega)]
theorem kp_g {e e' : gD} {a x i : Int} {mk pt : Int → Int} (h : e x i = e' x i) : kp e a mk pt x i = kp e' a mk pt x i := by
  unfold kp
  rw [h]
