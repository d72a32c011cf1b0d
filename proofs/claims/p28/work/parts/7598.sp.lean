/-! marks that come from parts give them back -/
section
variable {K : Int} {tb : Int → Int → Int} {m p made : Int → Int}
theorem sl_p (tri : ∀ c d, 0 ≤ c → c < d → d < K → tb c d = 0) (t0 : ∀ c d, 0 ≤ c → c < K → 0 ≤ d → d < K → 0 ≤ tb c d) (t1 : ∀ d, 0 ≤ d → d < K → 1 ≤ tb d d ∧ tb d d ≤ 10800000) (p0 : ∀ c, 0 ≤ c → c < K → 0 ≤ p c) (hm : ∀ d, 0 ≤ d → d < K → m d = sm (fun c => p c * tb c d) K.toNat) (mb : ∀ d, 0 ≤ d → d < K → m d ≤ 4000000000000000000) : slP K tb m p 0 := by
  intro d d0 d1
  have eK : ((K.toNat : Nat) : Int) = K := by omega
  have e : m d - sm (fun c => if d < c then p c * tb c d else 0) K.toNat = p d * tb d d := by
    have s : sm (fun c => p c * tb c d) K.toNat = sm (fun c => (if d < c then p c * tb c d else 0) + bi (d = c) * (p c * tb c d)) K.toNat := sm_congr (fun c c0 c1 => by
      (try dsimp only)
      rcases Int.lt_trichotomy d c with q | q | q
      · rw [if_pos q, bi_f (by omega), Int.zero_mul]; omega
      · rw [if_neg (by omega), bi_t q, Int.one_mul]; omega
      · rw [if_neg (by omega), bi_f (by omega), tri c d c0 q d1, Int.mul_zero, Int.zero_mul]; omega)
    rw [hm d d0 d1, s, sm_add, sm_dl d0 (by omega)]
    omega
  have nn : 0 ≤ p d * tb d d := Int.mul_nonneg (p0 d d0 d1) (by have := (t1 d d0 d1).1; omega)
  have le : p d * tb d d ≤ m d := by
    have := sm_nn (f := fun c => if d < c then p c * tb c d else 0) (n := K.toNat) (fun c c0 c1 => by
      (try dsimp only)
      split
      · exact Int.mul_nonneg (p0 c c0 (by omega)) (t0 c d c0 (by omega) d0 d1)
      · omega)
    omega
  have mb' := mb d d0 d1
  have v : lfs tb m p K d = p d * tb d d := by
    unfold lfs
    rw [e]
    exact jw_e ⟨by omega, by omega⟩
  have tp := t1 d d0 d1
  rw [v]
  have i6 : i64 (p d * tb d d) := ⟨by omega, by omega⟩
  have i7 : i64 (tb d d) := ⟨by omega, by omega⟩
  refine ⟨?_, ?_⟩
  · rw [jrem_e i6 i7 nn (by omega), Int.mul_emod_left]
  · rw [jdiv_e i6 i7 nn (by omega), Int.mul_ediv_cancel _ (by omega)]
theorem sl_pu (tri : ∀ c d, 0 ≤ c → c < d → d < K → tb c d = 0) (t0 : ∀ c d, 0 ≤ c → c < K → 0 ≤ d → d < K → 0 ≤ tb c d) (t1 : ∀ d, 0 ≤ d → d < K → 1 ≤ tb d d ∧ tb d d ≤ 10800000) (p0 : ∀ c, 0 ≤ c → c < K → 0 ≤ p c) (hm : ∀ d, 0 ≤ d → d < K → m d = sm (fun c => p c * tb c d) K.toNat) (mb : ∀ d, 0 ≤ d → d < K → m d ≤ 4000000000000000000) (s : slP K tb m made 0) : ∀ c, 0 ≤ c → c < K → made c = p c := sl_u (by omega) s (sl_p tri t0 t1 p0 hm mb)
end
