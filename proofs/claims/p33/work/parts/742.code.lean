/-! codes: eight digits of three bits, that of place 0 in front -/
theorem ob_n {x : Int} (h : 0 ≤ x ∧ x < 2147483648) : (Int32.ofInt x).toBitVec.toNat = x.toNat := by
  rw [Int32.toBitVec_ofInt, BitVec.toNat_ofInt, Int.emod_eq_of_lt h.1 (by show x < (4294967296 : Int); omega)]
theorem ti_n {v : Int32} (h : v.toBitVec.toNat < 2147483648) : v.toInt = (v.toBitVec.toNat : Int) := BitVec.toInt_eq_toNat_of_lt (by show 2 * v.toBitVec.toNat < 4294967296; omega)
theorem kand7 {x : Int} (h : 0 ≤ x ∧ x < 2147483648) : kand x 7 = x % 8 := by
  have e : (Int32.ofInt x &&& Int32.ofInt 7).toBitVec.toNat = x.toNat % 8 := by
    rw [Int32.toBitVec_and, BitVec.toNat_and, ob_n h]
    exact Nat.and_two_pow_sub_one_eq_mod x.toNat 3
  unfold kand
  rw [ti_n (by rw [e]; omega), e]
  omega
theorem kor8 {x v : Int} (h : 0 ≤ x ∧ x < 134217728) (hv : 0 ≤ v ∧ v < 8) : kor (8 * x) v = 8 * x + v := by
  have e : (Int32.ofInt (8 * x) ||| Int32.ofInt v).toBitVec.toNat = 8 * x.toNat + v.toNat := by
    rw [Int32.toBitVec_or, BitVec.toNat_or, ob_n (by omega), ob_n (by omega), show (8 * x).toNat = 2 ^ 3 * x.toNat by omega]
    exact (Nat.two_pow_add_eq_or_of_lt (i := 3) (by omega) x.toNat).symm
  unfold kor
  rw [ti_n (by rw [e]; omega), e]
  omega
theorem kshl3 {x : Int} (h : 0 ≤ x ∧ x < 134217728) : kshl x 3 = 8 * x := by
  have e : (Int32.ofInt x <<< (Int32.ofInt 3 &&& 31)).toBitVec.toNat = 8 * x.toNat := by
    rw [Int32.toBitVec_shiftLeft, BitVec.shiftLeft_eq', show ((Int32.ofInt 3 &&& 31).toBitVec.smod 32).toNat = 3 by decide, BitVec.toNat_shiftLeft, ob_n (by omega), Nat.shiftLeft_eq, Nat.mod_eq_of_lt (by show x.toNat * 2 ^ 3 < 4294967296; omega)]
    omega
  unfold kshl
  rw [ti_n (by rw [e]; omega), e]
  omega
theorem kshr_n {x k : Int} {n : Nat} (h : 0 ≤ x ∧ x < 2147483648) (e : ((Int32.ofInt k &&& 31).toBitVec.smod 32).toNat = n) : kshr x k = x / ((2 ^ n : Nat) : Int) := by
  unfold kshr
  show (Int32.ofInt x >>> (Int32.ofInt k &&& 31)).toBitVec.toInt = _
  rw [Int32.toBitVec_shiftRight, BitVec.toInt_sshiftRight', e]
  show (Int32.ofInt x).toInt >>> n = _
  rw [Int32.toInt_ofInt_of_le (by omega) (by omega), Int.shiftRight_eq_div_pow]
def e8 (p : Int) : Int := if p = 0 then 2097152 else if p = 1 then 262144 else if p = 2 then 32768 else if p = 3 then 4096 else if p = 4 then 512 else if p = 5 then 64 else if p = 6 then 8 else 1
/-- the digit of place p -/
def dg (c p : Int) : Int := (c / e8 p) % 8
theorem wt_e {c p : Int} (h : 0 ≤ c ∧ c < 16777216) (hp : 0 ≤ p ∧ p ≤ 7) : kand (kshr c (3 * (7 - p))) 7 = dg c p := by
  have hh : 0 ≤ c ∧ c < 2147483648 := by omega
  have : p = 0 ∨ p = 1 ∨ p = 2 ∨ p = 3 ∨ p = 4 ∨ p = 5 ∨ p = 6 ∨ p = 7 := by omega
  unfold dg
  rcases this with q | q | q | q | q | q | q | q <;> subst q
  · rw [kshr_n (n := 21) hh (by decide), kand7 (by omega)]; rfl
  · rw [kshr_n (n := 18) hh (by decide), kand7 (by omega)]; rfl
  · rw [kshr_n (n := 15) hh (by decide), kand7 (by omega)]; rfl
  · rw [kshr_n (n := 12) hh (by decide), kand7 (by omega)]; rfl
  · rw [kshr_n (n := 9) hh (by decide), kand7 (by omega)]; rfl
  · rw [kshr_n (n := 6) hh (by decide), kand7 (by omega)]; rfl
  · rw [kshr_n (n := 3) hh (by decide), kand7 (by omega)]; rfl
  · rw [kshr_n (n := 0) hh (by decide), kand7 (by omega)]; rfl
/-- the code of a row -/
def cd (r : Int → Int) : Int := 2097152 * r 0 + 262144 * r 1 + 32768 * r 2 + 4096 * r 3 + 512 * r 4 + 64 * r 5 + 8 * r 6 + r 7
theorem cd_r {r : Int → Int} (h : ∀ p, 0 ≤ p → p ≤ 7 → 0 ≤ r p ∧ r p ≤ 7) : 0 ≤ cd r ∧ cd r < 16777216 := by
  have h0 := h 0 (by omega) (by omega)
  have h1 := h 1 (by omega) (by omega)
  have h2 := h 2 (by omega) (by omega)
  have h3 := h 3 (by omega) (by omega)
  have h4 := h 4 (by omega) (by omega)
  have h5 := h 5 (by omega) (by omega)
  have h6 := h 6 (by omega) (by omega)
  have h7 := h 7 (by omega) (by omega)
  unfold cd
  omega
theorem dg_cd {r : Int → Int} (h : ∀ p, 0 ≤ p → p ≤ 7 → 0 ≤ r p ∧ r p ≤ 7) {p : Int} (hp : 0 ≤ p ∧ p ≤ 7) : dg (cd r) p = r p := by
  have h0 := h 0 (by omega) (by omega)
  have h1 := h 1 (by omega) (by omega)
  have h2 := h 2 (by omega) (by omega)
  have h3 := h 3 (by omega) (by omega)
  have h4 := h 4 (by omega) (by omega)
  have h5 := h 5 (by omega) (by omega)
  have h6 := h 6 (by omega) (by omega)
  have h7 := h 7 (by omega) (by omega)
  have : p = 0 ∨ p = 1 ∨ p = 2 ∨ p = 3 ∨ p = 4 ∨ p = 5 ∨ p = 6 ∨ p = 7 := by omega
  rcases this with q | q | q | q | q | q | q | q <;> subst q <;> simp only [dg, e8, cd] <;> simp <;> omega
theorem cd_dg {c : Int} (h : 0 ≤ c ∧ c < 16777216) : cd (dg c) = c := by
  simp only [cd, dg, e8]
  simp
  omega
theorem dg_r (c p : Int) : 0 ≤ dg c p ∧ dg c p ≤ 7 := by unfold dg; omega
/-- codes stand as their rows do -/
theorem cd_lt {r s : Int → Int} (hr : ∀ p, 0 ≤ p → p ≤ 7 → 0 ≤ r p ∧ r p ≤ 7) (hs : ∀ p, 0 ≤ p → p ≤ 7 → 0 ≤ s p ∧ s p ≤ 7) {p : Int} (hp : 0 ≤ p ∧ p ≤ 7) (e : ∀ q, 0 ≤ q → q < p → r q = s q) (l : r p < s p) : cd r < cd s := by
  have a0 := hr 0 (by omega) (by omega)
  have a1 := hr 1 (by omega) (by omega)
  have a2 := hr 2 (by omega) (by omega)
  have a3 := hr 3 (by omega) (by omega)
  have a4 := hr 4 (by omega) (by omega)
  have a5 := hr 5 (by omega) (by omega)
  have a6 := hr 6 (by omega) (by omega)
  have a7 := hr 7 (by omega) (by omega)
  have b0 := hs 0 (by omega) (by omega)
  have b1 := hs 1 (by omega) (by omega)
  have b2 := hs 2 (by omega) (by omega)
  have b3 := hs 3 (by omega) (by omega)
  have b4 := hs 4 (by omega) (by omega)
  have b5 := hs 5 (by omega) (by omega)
  have b6 := hs 6 (by omega) (by omega)
  have b7 := hs 7 (by omega) (by omega)
  have e0 := e 0
  have e1 := e 1
  have e2 := e 2
  have e3 := e 3
  have e4 := e 4
  have e5 := e 5
  have e6 := e 6
  have : p = 0 ∨ p = 1 ∨ p = 2 ∨ p = 3 ∨ p = 4 ∨ p = 5 ∨ p = 6 ∨ p = 7 := by omega
  unfold cd
  rcases this with q | q | q | q | q | q | q | q <;> subst q <;> omega
