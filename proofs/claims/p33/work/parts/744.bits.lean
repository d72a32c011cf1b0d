/-! sets of turns as two longs -/
def lb (x : Int) (k : Nat) : Bool := (Int64.ofInt x).toBitVec.getLsbD k
theorem lb_or (x y : Int) (k : Nat) : lb (jor x y) k = (lb x k || lb y k) := by
  unfold lb jor
  rw [Int64.ofInt_toInt, Int64.toBitVec_or, BitVec.getLsbD_or]
theorem lb_shl1 : ∀ t k : Fin 64, lb (jshl 1 ((t.val : Nat) : Int)) k.val = decide (k = t) := by decide +kernel
theorem lb_shl {t : Int} (h : 0 ≤ t ∧ t < 64) {k : Nat} (hk : k < 64) : lb (jshl 1 t) k = decide ((k : Int) = t) := by
  have e := lb_shl1 ⟨t.toNat, by omega⟩ ⟨k, hk⟩
  simp only [Int.toNat_of_nonneg h.1] at e
  rw [e, decide_eq_decide]
  constructor
  · intro q
    have := congrArg Fin.val q
    dsimp only at this
    omega
  · intro q
    apply Fin.ext
    show k = t.toNat
    omega
theorem k63 : ∀ t : Fin 128, kand ((t.val : Nat) : Int) 63 = ((t.val % 64 : Nat) : Int) := by decide +kernel
theorem k63' {t : Int} (h : 0 ≤ t ∧ t < 128) : kand t 63 = ((t.toNat % 64 : Nat) : Int) := by
  have e := k63 ⟨t.toNat, by omega⟩
  simp only [Int.toNat_of_nonneg h.1] at e
  exact e
theorem ju_n : ∀ b : Fin 64, (((Int32.ofInt ((b.val : Nat) : Int)).toInt64.toUInt64 &&& Int64.toUInt64 63).toBitVec % 64).toNat = b.val := by decide +kernel
theorem ju_bv (x : Int) (b : Fin 64) : (Int64.ofInt (jusr x ((b.val : Nat) : Int))).toBitVec = (Int64.ofInt x).toBitVec >>> b.val := by
  unfold jusr
  rw [Int64.ofInt_toInt, UInt64.toBitVec_toInt64, UInt64.toBitVec_shiftRight, Int64.toBitVec_toUInt64, BitVec.ushiftRight_eq', ju_n b]
theorem hold_t (x : Int) (b : Fin 64) : (jand (jusr x ((b.val : Nat) : Int)) 1 = 0) ↔ lb x b.val = false := by
  have e : (Int64.ofInt (jusr x ((b.val : Nat) : Int)) &&& Int64.ofInt 1).toBitVec = BitVec.setWidth 64 (BitVec.ofBool (lb x b.val)) := by
    rw [Int64.toBitVec_and, ju_bv, show (Int64.ofInt 1).toBitVec = 1#64 from rfl, BitVec.and_one_eq_setWidth_ofBool_getLsbD, BitVec.getLsbD_ushiftRight, Nat.add_zero]
    rfl
  show ((Int64.ofInt (jusr x ((b.val : Nat) : Int)) &&& Int64.ofInt 1).toBitVec).toInt = 0 ↔ _
  rw [e]
  cases lb x b.val <;> decide
def bt (lo hi t : Int) : Int := if t < 64 then (if lb lo t.toNat then 1 else 0) else (if lb hi (t - 64).toNat then 1 else 0)
theorem bt_01 (lo hi t : Int) : bt lo hi t = 0 ∨ bt lo hi t = 1 := by
  unfold bt
  split <;> split <;> omega
def adL (lo t : Int) : Int := if t < 64 then jor lo (jshl 1 t) else lo
def adH (hi t : Int) : Int := if t < 64 then hi else jor hi (jshl 1 (kand t 63))
theorem lb_if {a : Bool} {x y : Int} (h : (if a = true then (1 : Int) else 0) = x) : a = true ∧ x = 1 ∨ a = false ∧ x = 0 := by
  cases a
  · right; exact ⟨rfl, by simpa using h.symm⟩
  · left; exact ⟨rfl, by simpa using h.symm⟩
theorem bt_ad {lo hi t u : Int} (ht : 0 ≤ t ∧ t < 128) (hu : 0 ≤ u ∧ u < 128) : bt (adL lo t) (adH hi t) u = if u = t then 1 else bt lo hi u := by
  unfold bt adL adH
  by_cases t1 : t < 64
  · rw [if_pos t1, if_pos t1]
    by_cases u1 : u < 64
    · rw [if_pos u1, if_pos u1, lb_or, lb_shl (by omega) (by omega)]
      by_cases q : u = t
      · rw [if_pos q, decide_eq_true (show ((u.toNat : Nat) : Int) = t by omega), Bool.or_true, if_pos rfl]
      · rw [if_neg q, decide_eq_false (show ¬ ((u.toNat : Nat) : Int) = t by omega), Bool.or_false]
    · rw [if_neg u1, if_neg u1, if_neg (show ¬ u = t by omega)]
  · rw [if_neg t1, if_neg t1]
    by_cases u1 : u < 64
    · rw [if_pos u1, if_pos u1, if_neg (show ¬ u = t by omega)]
    · rw [if_neg u1, if_neg u1, k63' ht, lb_or, lb_shl (by omega) (by omega)]
      by_cases q : u = t
      · rw [if_pos q, decide_eq_true (show (((u - 64).toNat : Nat) : Int) = ((t.toNat % 64 : Nat) : Int) by omega), Bool.or_true, if_pos rfl]
      · rw [if_neg q, decide_eq_false (show ¬ (((u - 64).toNat : Nat) : Int) = ((t.toNat % 64 : Nat) : Int) by omega), Bool.or_false]
theorem b_ext {a b : Bool} (h : (if a = true then (1 : Int) else 0) = (if b = true then 1 else 0)) : a = b := by
  cases a <;> cases b <;> simp at h ⊢
theorem l_ext {x y : Int} (hx : i64 x) (hy : i64 y) (h : ∀ k, k < 64 → lb x k = lb y k) : x = y := by
  have e : (Int64.ofInt x).toBitVec = (Int64.ofInt y).toBitVec := BitVec.eq_of_getLsbD_eq (fun i hi => h i hi)
  have e2 : Int64.ofInt x = Int64.ofInt y := Int64.toBitVec.inj e
  have e3 := congrArg Int64.toInt e2
  rw [Int64.toInt_ofInt_of_le (by omega) (by omega), Int64.toInt_ofInt_of_le (by omega) (by omega)] at e3
  exact e3
theorem bt_ext {lo hi lo' hi' : Int} (h1 : i64 lo) (h2 : i64 hi) (h3 : i64 lo') (h4 : i64 hi') (h : ∀ t, 0 ≤ t → t < 128 → bt lo hi t = bt lo' hi' t) : lo = lo' ∧ hi = hi' := by
  refine ⟨l_ext h1 h3 (fun k hk => ?_), l_ext h2 h4 (fun k hk => ?_)⟩
  · have q := h k (by omega) (by omega)
    unfold bt at q
    rw [if_pos (show (k : Int) < 64 by omega), if_pos (show (k : Int) < 64 by omega), Int.toNat_natCast] at q
    exact b_ext q
  · have q := h (k + 64) (by omega) (by omega)
    unfold bt at q
    rw [if_neg (show ¬ (k : Int) + 64 < 64 by omega), if_neg (show ¬ (k : Int) + 64 < 64 by omega), show ((k : Int) + 64 - 64).toNat = k by omega] at q
    exact b_ext q
theorem lb_c : ∀ k : Fin 64, lb 0 k.val = false ∧ lb 1 k.val = decide (k.val = 0) := by decide +kernel
theorem bt_0 {t : Int} (h : 0 ≤ t ∧ t < 128) : bt 0 0 t = 0 := by
  unfold bt
  by_cases t1 : t < 64
  · rw [if_pos t1, (lb_c ⟨t.toNat, by omega⟩).1]; rfl
  · rw [if_neg t1, (lb_c ⟨(t - 64).toNat, by omega⟩).1]; rfl
theorem bt_1 {t : Int} (h : 0 ≤ t ∧ t < 128) : bt 1 0 t = tr0 t := by
  unfold bt tr0
  by_cases t1 : t < 64
  · rw [if_pos t1, (lb_c ⟨t.toNat, by omega⟩).2]
    by_cases q : t = 0
    · rw [if_pos q, decide_eq_true (show t.toNat = 0 by omega)]; rfl
    · rw [if_neg q, decide_eq_false (show ¬ t.toNat = 0 by omega)]; rfl
  · rw [if_neg t1, (lb_c ⟨(t - 64).toNat, by omega⟩).1, if_neg (show ¬ t = 0 by omega)]; rfl
section
variable {G : List gS} {R V : gV}
theorem holds_e {lo hi t : Int} (h : 0 ≤ t ∧ t < 128) : cpI 1 (bt lo hi t) 149 [(2, lo), (2, hi), (0, t)] G R V := by
  have main : ∀ x, (jand (jusr x (kand t 63)) 1 = 0) ↔ lb x (t.toNat % 64) = false := by
    intro x
    rw [k63' h]
    exact hold_t x ⟨t.toNat % 64, Nat.mod_lt _ (by decide)⟩
  have tru : ∀ x, ¬ (jand (jusr x (kand t 63)) 1 = 0) → lb x (t.toNat % 64) = true := by
    intro x z
    cases q : lb x (t.toNat % 64) with
    | true => rfl
    | false => exact absurd ((main x).mpr q) z
  refine c_X7_holds (t_X7_holds_0 ⟨by omega, fun c => ⟨fun z => ⟨?_, rfl⟩, fun z => ⟨?_, rfl⟩⟩, fun c => ⟨fun z => ⟨?_, rfl⟩, fun z => ⟨?_, rfl⟩⟩⟩)
  · unfold bt
    rw [if_neg c, show (t - 64).toNat = t.toNat % 64 by omega, (main hi).mp z]; rfl
  · unfold bt
    rw [if_neg c, show (t - 64).toNat = t.toNat % 64 by omega, tru hi z]; rfl
  · unfold bt
    rw [if_pos c, show t.toNat = t.toNat % 64 by omega, (main lo).mp z]; rfl
  · unfold bt
    rw [if_pos c, show t.toNat = t.toNat % 64 by omega, tru lo z]; rfl
end
