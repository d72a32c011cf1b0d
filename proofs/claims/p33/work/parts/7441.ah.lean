/-! the least bit in which two sets differ -/
theorem lb_and (x y : Int) (k : Nat) : lb (jand x y) k = (lb x k && lb y k) := by
  unfold lb jand
  rw [Int64.ofInt_toInt, Int64.toBitVec_and, BitVec.getLsbD_and]
theorem lb_xor (x y : Int) (k : Nat) : lb (jxor x y) k = (lb x k ^^ lb y k) := by
  unfold lb jxor
  rw [Int64.ofInt_toInt, Int64.toBitVec_xor, BitVec.getLsbD_xor]
theorem lb_neg (x : Int) (k : Nat) (h : k < 64) : lb (jneg x) k = (lb x k ^^ decide (∃ j < k, lb x j = true)) := by
  unfold lb jneg
  rw [Int64.ofInt_toInt, Int64.toBitVec_neg, BitVec.getLsbD_neg, decide_eq_true h, Bool.true_and]
theorem jx0 {x y : Int} : jxor x y = 0 ↔ ∀ k, k < 64 → lb x k = lb y k := by
  constructor
  · intro z k hk
    have q := lb_xor x y k
    rw [z, (lb_c ⟨k, hk⟩).1] at q
    cases e1 : lb x k <;> cases e2 : lb y k <;> rw [e1, e2] at q <;> first | rfl | exact absurd q (by decide)
  · intro h
    refine l_ext (t64 _) (by omega) (fun k hk => ?_)
    rw [lb_xor, h k hk, (lb_c ⟨k, hk⟩).1]
    cases lb y k <;> rfl
theorem lowest (a b : Int) : jand (jand a (jxor a b)) (jneg (jxor a b)) = 0 ↔ ¬ ∃ k, k < 64 ∧ lb a k = true ∧ lb b k = false ∧ ∀ j, j < k → lb a j = lb b j := by
  have bit : ∀ k, k < 64 → lb (jand (jand a (jxor a b)) (jneg (jxor a b))) k = ((lb a k && (lb a k ^^ lb b k)) && ((lb a k ^^ lb b k) ^^ decide (∃ j < k, lb (jxor a b) j = true))) := fun k hk => by
    rw [lb_and, lb_and, lb_neg _ _ hk, lb_xor]
  constructor
  · rintro z ⟨k, hk, h1, h2, h3⟩
    have q := bit k hk
    have ne : ¬ ∃ j < k, lb (jxor a b) j = true := by
      rintro ⟨j, j1, j2⟩
      rw [lb_xor, h3 j j1] at j2
      cases e : lb b j <;> rw [e] at j2 <;> exact absurd j2 (by decide)
    rw [z, (lb_c ⟨k, hk⟩).1, h1, h2, decide_eq_false ne] at q
    exact absurd q (by decide)
  · intro ne
    refine l_ext (t64 _) (by omega) (fun k hk => ?_)
    rw [bit k hk, (lb_c ⟨k, hk⟩).1]
    cases h1 : lb a k with
    | false => rfl
    | true =>
      cases h2 : lb b k with
      | true => rfl
      | false =>
        have ex : ∃ j < k, lb (jxor a b) j = true := by
          apply Classical.byContradiction
          intro q
          refine ne ⟨k, hk, h1, h2, fun j hj => ?_⟩
          cases e1 : lb a j <;> cases e2 : lb b j <;> first | rfl | exact absurd ⟨j, hj, by rw [lb_xor, e1, e2]; rfl⟩ q
        rw [decide_eq_true ex]
        rfl
theorem bt_lo {lo hi : Int} {k : Nat} (h : k < 64) : bt lo hi (k : Int) = if lb lo k then 1 else 0 := by
  unfold bt
  rw [if_pos (by omega), Int.toNat_natCast]
theorem bt_hi {lo hi : Int} {k : Nat} : bt lo hi (64 + (k : Int)) = if lb hi k then 1 else 0 := by
  unfold bt
  rw [if_neg (by omega), show (64 + (k : Int) - 64).toNat = k by omega]
section
variable {lo hi lo' hi' N : Int}
theorem lb_1 {x : Bool} (h : (if x = true then (1 : Int) else 0) = 1) : x = true := by
  cases x
  · exact absurd h (by decide)
  · rfl
theorem lb_0 {x : Bool} (h : (if x = true then (1 : Int) else 0) = 0) : x = false := by
  cases x
  · rfl
  · exact absurd h (by decide)
theorem ah_low (z : ¬ jxor lo lo' = 0) (za : ∀ t, N ≤ t → t < 128 → bt lo hi t = 0) : (¬ jand (jand lo (jxor lo lo')) (jneg (jxor lo lo')) = 0) ↔ ahL N (bt lo hi) (bt lo' hi') := by
  rw [lowest, Classical.not_not]
  constructor
  · rintro ⟨k, hk, h1, h2, h3⟩
    have e1 : bt lo hi (k : Int) = 1 := by rw [bt_lo hk, h1]; rfl
    have e2 : bt lo' hi' (k : Int) = 0 := by rw [bt_lo hk, h2]; rfl
    refine ⟨k, by omega, ?_, e1, e2, fun u u0 u1 => ?_⟩
    · apply Classical.byContradiction
      intro q
      have := za k (by omega) (by omega)
      omega
    · obtain ⟨j, ej⟩ : ∃ j : Nat, u = j := ⟨u.toNat, by omega⟩
      rw [ej, bt_lo (by omega), bt_lo (by omega), h3 j (by omega)]
  · rintro ⟨t, t0, t1, h1, h2, h3⟩
    have t6 : t < 64 := by
      apply Classical.byContradiction
      intro q
      refine z (jx0.mpr (fun k hk => ?_))
      have := h3 k (by omega) (by omega)
      rw [bt_lo hk, bt_lo hk] at this
      exact b_ext this
    obtain ⟨k, ek⟩ : ∃ k : Nat, t = k := ⟨t.toNat, by omega⟩
    rw [ek, bt_lo (by omega)] at h1 h2
    refine ⟨k, by omega, lb_1 h1, lb_0 h2, fun j hj => ?_⟩
    have := h3 j (by omega) (by omega)
    rw [bt_lo (by omega), bt_lo (by omega)] at this
    exact b_ext this
theorem ah_high (z : jxor lo lo' = 0) (za : ∀ t, N ≤ t → t < 128 → bt lo hi t = 0) (hN : N ≤ 128) : (¬ jand (jand hi (jxor hi hi')) (jneg (jxor hi hi')) = 0) ↔ ahL N (bt lo hi) (bt lo' hi') := by
  rw [lowest, Classical.not_not]
  have el : ∀ u, 0 ≤ u → u < 64 → bt lo hi u = bt lo' hi' u := fun u u0 u1 => by
    obtain ⟨j, ej⟩ : ∃ j : Nat, u = j := ⟨u.toNat, by omega⟩
    rw [ej, bt_lo (by omega), bt_lo (by omega), jx0.mp z j (by omega)]
  constructor
  · rintro ⟨k, hk, h1, h2, h3⟩
    have e1 : bt lo hi (64 + (k : Int)) = 1 := by rw [bt_hi, h1]; rfl
    have e2 : bt lo' hi' (64 + (k : Int)) = 0 := by rw [bt_hi, h2]; rfl
    refine ⟨64 + k, by omega, ?_, e1, e2, fun u u0 u1 => ?_⟩
    · apply Classical.byContradiction
      intro q
      have := za (64 + k) (by omega) (by omega)
      omega
    · by_cases y : u < 64
      · exact el u u0 y
      · obtain ⟨j, ej⟩ : ∃ j : Nat, u = 64 + j := ⟨(u - 64).toNat, by omega⟩
        rw [ej, bt_hi, bt_hi, h3 j (by omega)]
  · rintro ⟨t, t0, t1, h1, h2, h3⟩
    have t6 : ¬ t < 64 := fun q => by
      have := el t t0 q
      omega
    obtain ⟨k, ek⟩ : ∃ k : Nat, t = 64 + k := ⟨(t - 64).toNat, by omega⟩
    rw [ek, bt_hi] at h1 h2
    refine ⟨k, by omega, lb_1 h1, lb_0 h2, fun j hj => ?_⟩
    have := h3 (64 + j) (by omega) (by omega)
    rw [bt_hi, bt_hi] at this
    exact b_ext this
end
