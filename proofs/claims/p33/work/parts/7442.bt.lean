/-! bits of a set within another -/
theorem lb_m1 : ∀ k : Fin 64, lb (-1) k.val = true := by decide +kernel
theorem sub0 (a b : Int) : jand a (jxor b (-1)) = 0 ↔ ∀ k, k < 64 → lb a k = true → lb b k = true := by
  constructor
  · intro z k hk h
    have q := lb_and a (jxor b (-1)) k
    rw [z, (lb_c ⟨k, hk⟩).1, lb_xor, lb_m1 ⟨k, hk⟩, h] at q
    cases e : lb b k with
    | true => rfl
    | false => rw [e] at q; exact absurd q (by decide)
  · intro h
    refine l_ext (t64 _) (by omega) (fun k hk => ?_)
    rw [lb_and, lb_xor, lb_m1 ⟨k, hk⟩, (lb_c ⟨k, hk⟩).1]
    cases e : lb a k with
    | false => rfl
    | true => rw [h k hk e]; rfl
theorem bt_sub {lo hi lo' hi' : Int} : (jand lo (jxor lo' (-1)) = 0 ∧ jand hi (jxor hi' (-1)) = 0) ↔ ∀ t, 0 ≤ t → t < 128 → bt lo hi t = 1 → bt lo' hi' t = 1 := by
  rw [sub0, sub0]
  constructor
  · rintro ⟨h1, h2⟩ t t0 t1 q
    by_cases y : t < 64
    · obtain ⟨k, ek⟩ : ∃ k : Nat, t = k := ⟨t.toNat, by omega⟩
      rw [ek, bt_lo (by omega)] at q ⊢
      rw [h1 k (by omega) (lb_1 q)]; rfl
    · obtain ⟨k, ek⟩ : ∃ k : Nat, t = 64 + k := ⟨(t - 64).toNat, by omega⟩
      rw [ek, bt_hi] at q ⊢
      rw [h2 k (by omega) (lb_1 q)]; rfl
  · intro h
    refine ⟨fun k hk q => ?_, fun k hk q => ?_⟩
    · have := h k (by omega) (by omega) (by rw [bt_lo hk, q]; rfl)
      rw [bt_lo hk] at this
      exact lb_1 this
    · have := h (64 + k) (by omega) (by omega) (by rw [bt_hi, q]; rfl)
      rw [bt_hi] at this
      exact lb_1 this
theorem bt_and {lo hi lo' hi' t : Int} (h : 0 ≤ t ∧ t < 128) : bt (jand lo lo') (jand hi hi') t = if bt lo hi t = 1 ∧ bt lo' hi' t = 1 then 1 else 0 := by
  by_cases y : t < 64
  · obtain ⟨k, ek⟩ : ∃ k : Nat, t = k := ⟨t.toNat, by omega⟩
    rw [ek, bt_lo (by omega), bt_lo (by omega), bt_lo (by omega), lb_and]
    cases lb lo k <;> cases lb lo' k <;> rfl
  · obtain ⟨k, ek⟩ : ∃ k : Nat, t = 64 + k := ⟨(t - 64).toNat, by omega⟩
    rw [ek, bt_hi, bt_hi, bt_hi, lb_and]
    cases lb hi k <;> cases lb hi' k <;> rfl
theorem bt_or {lo hi lo' hi' t : Int} (h : 0 ≤ t ∧ t < 128) : bt (jor lo lo') (jor hi hi') t = if bt lo hi t = 1 ∨ bt lo' hi' t = 1 then 1 else 0 := by
  by_cases y : t < 64
  · obtain ⟨k, ek⟩ : ∃ k : Nat, t = k := ⟨t.toNat, by omega⟩
    rw [ek, bt_lo (by omega), bt_lo (by omega), bt_lo (by omega), lb_or]
    cases lb lo k <;> cases lb lo' k <;> rfl
  · obtain ⟨k, ek⟩ : ∃ k : Nat, t = 64 + k := ⟨(t - 64).toNat, by omega⟩
    rw [ek, bt_hi, bt_hi, bt_hi, lb_or]
    cases lb hi k <;> cases lb hi' k <;> rfl
/-! one bit of two longs -/
def loB (t : Int) : Int := if t < 64 then jshl 1 (kand t 63) else 0
def hiB (t : Int) : Int := if t < 64 then 0 else jshl 1 (kand t 63)
theorem bt_lh {t u : Int} (ht : 0 ≤ t ∧ t < 128) (hu : 0 ≤ u ∧ u < 128) : bt (loB t) (hiB t) u = if u = t then 1 else 0 := by
  unfold bt loB hiB
  rw [k63' ht]
  by_cases t1 : t < 64
  · rw [if_pos t1, if_pos t1]
    by_cases u1 : u < 64
    · rw [if_pos u1, lb_shl (by omega) (by omega)]
      by_cases q : u = t
      · rw [if_pos q, decide_eq_true (show ((u.toNat : Nat) : Int) = ((t.toNat % 64 : Nat) : Int) by omega), if_pos rfl]
      · rw [if_neg q, decide_eq_false (show ¬ ((u.toNat : Nat) : Int) = ((t.toNat % 64 : Nat) : Int) by omega)]; rfl
    · rw [if_neg u1, (lb_c ⟨(u - 64).toNat, by omega⟩).1, if_neg (show ¬ u = t by omega)]; rfl
  · rw [if_neg t1, if_neg t1]
    by_cases u1 : u < 64
    · rw [if_pos u1, (lb_c ⟨u.toNat, by omega⟩).1, if_neg (show ¬ u = t by omega)]; rfl
    · rw [if_neg u1, lb_shl (by omega) (by omega)]
      by_cases q : u = t
      · rw [if_pos q, decide_eq_true (show (((u - 64).toNat : Nat) : Int) = ((t.toNat % 64 : Nat) : Int) by omega), if_pos rfl]
      · rw [if_neg q, decide_eq_false (show ¬ (((u - 64).toNat : Nat) : Int) = ((t.toNat % 64 : Nat) : Int) by omega)]; rfl
theorem bt_set {a b t u : Int} (ht : 0 ≤ t ∧ t < 128) (hu : 0 ≤ u ∧ u < 128) : bt (jor a (loB t)) (jor b (hiB t)) u = if u = t then 1 else bt a b u := by
  rw [bt_or hu, bt_lh ht hu]
  by_cases q : u = t
  · rw [if_pos q, if_pos q, if_pos (Or.inr rfl)]
  · rw [if_neg q, if_neg q]
    rcases bt_01 a b u with z | z
    · rw [z, if_neg (by omega)]
    · rw [z, if_pos (Or.inl rfl)]
section
variable {G : List gS} {R V : gV}
theorem lowBit_e {t : Int} (ht : i32 t) : cpJ 1 (loB t) 150 [(0, t)] G R V :=
  c_X7_lowBit (t_X7_lowBit_0 ⟨ht, fun z => ⟨by unfold loB; rw [if_neg z], rfl⟩, fun z => ⟨by unfold loB; rw [if_pos z], rfl⟩⟩)
theorem highBit_e {t : Int} (ht : i32 t) : cpJ 1 (hiB t) 151 [(0, t)] G R V :=
  c_X7_highBit (t_X7_highBit_0 ⟨ht, fun z => ⟨by unfold hiB; rw [if_neg z], rfl⟩, fun z => ⟨by unfold hiB; rw [if_pos z], rfl⟩⟩)
end
