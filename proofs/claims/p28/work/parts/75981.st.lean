/-! numbers up to the most; all that is more is one more than it -/
def stp (x : Int) : Int := if x ≤ 1000000000000000 then x else 1000000000000001
def fac : Nat → Int
  | 0 => 1
  | n + 1 => fac n * ((n : Int) + 1)
theorem stp_l {x : Int} (h : x ≤ 1000000000000000) : stp x = x := if_pos h
theorem stp_g {x : Int} (h : 1000000000000000 < x) : stp x = 1000000000000001 := if_neg (by omega)
theorem stp_r {x : Int} (h : 0 ≤ x) : 0 ≤ stp x ∧ stp x ≤ 1000000000000001 := by unfold stp; split <;> omega
theorem stp_1 {x : Int} (h : 1 ≤ x) : 1 ≤ stp x := by unfold stp; split <;> omega
theorem stp_le {x : Int} : stp x ≤ 1000000000000000 ↔ x ≤ 1000000000000000 := by unfold stp; split <;> omega
theorem stp_lt {x : Int} : 1000000000000000 < stp x ↔ 1000000000000000 < x := by unfold stp; split <;> omega
theorem stp_i {x : Int} : stp (stp x) = stp x := by
  by_cases h : x ≤ 1000000000000000
  · rw [stp_l h, stp_l h]
  · rw [stp_g (x := x) (by omega), stp_g (by omega)]
theorem mul_ge {x y : Int} (h : 0 ≤ x) (hy : 1 ≤ y) : x ≤ x * y := by
  have := Int.mul_le_mul_of_nonneg_left hy h
  omega
theorem stp_m {x y : Int} (h : 0 ≤ x) (hy : 0 ≤ y) : stp (stp x * y) = stp (x * y) := by
  by_cases q : x ≤ 1000000000000000
  · rw [stp_l q]
  · rw [stp_g (x := x) (by omega)]
    by_cases y0 : y = 0
    · rw [y0, Int.mul_zero, Int.mul_zero]
    · have a := mul_ge (x := 1000000000000001) (y := y) (by omega) (by omega)
      have b := mul_ge (x := x) (y := y) h (by omega)
      rw [stp_g (by omega), stp_g (by omega)]
theorem stp_mr {x y : Int} (h : 0 ≤ x) (hy : 0 ≤ y) : stp (x * stp y) = stp (x * y) := by
  rw [Int.mul_comm, stp_m hy h, Int.mul_comm]
theorem pow_nn {b : Int} (h : 0 ≤ b) (n : Nat) : 0 ≤ b ^ n := Int.pow_nonneg h
theorem pow_1 {b : Int} (h : 1 ≤ b) (n : Nat) : 1 ≤ b ^ n := by
  have := Int.pow_pos (n := b) (m := n) (by omega)
  omega
theorem pow_mono {b : Int} (h : 1 ≤ b) {m n : Nat} (hm : m ≤ n) : b ^ m ≤ b ^ n := by
  obtain ⟨k, rfl⟩ : ∃ k, n = m + k := ⟨n - m, by omega⟩
  rw [Int.pow_add]
  have a := pow_1 h k
  exact mul_ge (pow_nn (by omega) m) a
theorem pow_bs {a b : Int} (h : 0 ≤ a) (hb : a ≤ b) : ∀ n : Nat, a ^ n ≤ b ^ n := by
  intro n
  induction n with
  | zero => rw [Int.pow_zero, Int.pow_zero]; omega
  | succ n ih =>
    rw [Int.pow_succ, Int.pow_succ]
    exact Int.mul_le_mul ih hb h (pow_nn (by omega) n)
theorem pow50 {b : Int} (h : 2 ≤ b) {n : Nat} (hn : 50 ≤ n) : 1000000000000000 < b ^ n := by
  have a := pow_mono (b := b) (by omega) hn
  have c := pow_bs (a := 2) (b := b) (by omega) h 50
  have d : (2 : Int) ^ 50 = 1125899906842624 := by decide
  omega
theorem stp_p0 {x : Int} : stp (x ^ (0 : Int).toNat) = 1 := by rw [show (0 : Int).toNat = 0 from rfl, Int.pow_zero]; rfl
theorem fac_1 : ∀ n : Nat, 1 ≤ fac n := by
  intro n
  induction n with
  | zero => show (1 : Int) ≤ 1; omega
  | succ n ih =>
    show 1 ≤ fac n * ((n : Int) + 1)
    have := mul_ge (x := fac n) (y := (n : Int) + 1) (by omega) (by omega)
    omega
theorem fac_mono {m n : Nat} (h : m ≤ n) : fac m ≤ fac n := by
  obtain ⟨k, rfl⟩ : ∃ k, n = m + k := ⟨n - m, by omega⟩
  clear h
  induction k with
  | zero => exact Int.le_refl _
  | succ k ih =>
    have : fac (m + (k + 1)) = fac (m + k) * (((m + k : Nat) : Int) + 1) := rfl
    have a := fac_1 (m + k)
    have b := mul_ge (x := fac (m + k)) (y := ((m + k : Nat) : Int) + 1) (by omega) (by omega)
    omega
theorem fac_18 : fac 18 = 6402373705728000 := by decide
theorem fac_17 : fac 17 = 355687428096000 := by decide
section
variable {G : List gS} {R V : gV}
theorem dv_lt {x y : Int} (y0 : 0 < y) : 1000000000000000 / y < x ↔ 1000000000000000 < x * y := by
  have := Int.le_ediv_iff_mul_le (a := x) (b := 1000000000000000) (c := y) y0
  omega
theorem timesUpTo_e {x y : Int} (hx : 0 ≤ x ∧ x ≤ 1000000000000001) (hy : 0 ≤ y ∧ y ≤ 1000000000000001) : cpJ 1 (stp (x * y)) 152 [(2, x), (2, y)] G R V := by
  have dv : y ≠ 0 → jdiv 1000000000000000 y = 1000000000000000 / y := fun q => jdiv_e ⟨by omega, by omega⟩ ⟨by omega, by omega⟩ (by omega) (by omega)
  refine c_X7_timesUpTo (t_X7_timesUpTo_0 ⟨⟨by omega, by omega⟩, fun z => ⟨by rw [z, Int.zero_mul]; rfl, rfl⟩, fun z => ⟨⟨by omega, by omega⟩, fun z2 => ⟨z2, fun q => ⟨?_, rfl⟩, fun q => ⟨?_, rfl⟩⟩, fun z2 => ⟨by rw [z2, Int.mul_zero]; rfl, rfl⟩⟩⟩)
  · rw [dv z2, dv_lt (by omega)] at q
    have nn : 0 ≤ x * y := Int.mul_nonneg hx.1 hy.1
    rw [jmul_e ⟨by omega, by omega⟩, stp_l (by omega)]
  · rw [dv z2, dv_lt (by omega)] at q
    rw [stp_g q]
theorem powerUpTo_e {x y : Int} (hx : 0 ≤ x ∧ x ≤ 1000000000000001) (hy : 0 ≤ y ∧ y ≤ 4000000000000000000) : cpJ 2 (stp (x ^ y.toNat)) 153 [(2, x), (2, y)] G R V := by
  refine c_X7_powerUpTo (t_X7_powerUpTo_0 ⟨⟨by omega, by omega⟩, fun z => ⟨by rw [z, stp_p0], rfl⟩, fun z => ⟨⟨by omega, by omega⟩, fun z2 => ⟨fun z3 => ?_, fun z3 => ⟨?_, rfl⟩⟩, fun z2 => ⟨by rw [z2, Int.one_pow]; rfl, rfl⟩⟩⟩)
  · refine pool2 (f := fun v i => [some (2, x), none, some (2, y), none, some (2, v), none, some (0, i)]) (Inv := fun v i => (0 ≤ i ∧ i ≤ 50 ∧ i ≤ y) ∧ v = stp (x ^ i.toNat)) (μ := fun _ i => (50 - i).toNat) (fun v i h ih => ?_) 1 0 ⟨by omega, stp_p0.symm⟩
    obtain ⟨i0, ev⟩ := h
    refine t_X7_powerUpTo_28 ⟨by omega, fun q => ⟨?_, rfl⟩, fun q => ⟨⟨by omega, by omega⟩, fun q2 => ⟨?_, rfl⟩, fun q2 => ?_⟩⟩
    · rw [ev, stp_g (pow50 (b := x) (n := i.toNat) (by omega) (by omega)), stp_g (pow50 (b := x) (n := y.toNat) (by omega) (by omega))]
    · rw [ev, show i = y by omega]
    · have r := stp_r (pow_nn (b := x) hx.1 i.toNat)
      refine cpJ_u (by omega) (timesUpTo_e (by rw [ev]; exact r) hx) ⟨by omega, ih _ _ ⟨by omega, ?_⟩ (by omega)⟩
      rw [ev, stp_m (pow_nn hx.1 _) hx.1, show (i + 1).toNat = i.toNat + 1 by omega, Int.pow_succ]
  · rw [z3, Int.zero_pow (by omega)]; rfl
theorem factorialUpTo_e {x : Int} (hx : 0 ≤ x ∧ x ≤ 4000000000000000000) : cpJ 1 (stp (fac x.toNat)) 154 [(2, x)] G R V := by
  refine c_X7_factorialUpTo (t_X7_factorialUpTo_0 ⟨⟨by omega, by omega⟩, fun z => ?_, fun z => ⟨?_, rfl⟩⟩)
  · have f17 := fac_mono (m := x.toNat) (n := 17) (by omega)
    rw [fac_17] at f17
    refine pool2 (f := fun v i => [some (2, x), none, some (2, v), none, some (0, i)]) (Inv := fun v i => (2 ≤ i ∧ i ≤ 18 ∧ (i ≤ x + 1 ∨ i = 2)) ∧ v = fac (i - 1).toNat) (μ := fun _ i => (18 - i).toNat) (fun v i h ih => ?_) 1 2 ⟨by omega, rfl⟩
    obtain ⟨i0, ev⟩ := h
    have e01 : x = 0 ∨ x = 1 → fac x.toNat = 1 := fun q => by rcases q with q | q <;> rw [q] <;> rfl
    have fin : x < i → v = stp (fac x.toNat) := fun q => by
      rw [stp_l (by omega), ev]
      by_cases y : i = x + 1
      · rw [y, show x + 1 - 1 = x by omega]
      · have i2 : i = 2 := by omega
        rw [e01 (by omega), i2]; rfl
    refine t_X7_factorialUpTo_17 ⟨by omega, fun q => ⟨by rw [fin (by omega)], rfl⟩, fun q => ⟨⟨by omega, by omega⟩, fun q2 => ⟨by rw [fin q2], rfl⟩, fun q2 => ⟨by omega, ih _ _ ⟨by omega, ?_⟩ (by omega)⟩⟩⟩
    have fi := fac_mono (m := (i - 1).toNat) (n := 17) (by omega)
    have f1 := fac_1 (i - 1).toNat
    rw [fac_17] at fi
    have ub : fac (i - 1).toNat * i ≤ 355687428096000 * 17 := Int.mul_le_mul fi (by omega) (by omega) (by omega)
    have lb : 0 ≤ fac (i - 1).toNat * i := Int.mul_nonneg (by omega) (by omega)
    rw [ev, jmul_e ⟨by omega, by omega⟩, show (i + 1 - 1).toNat = (i - 1).toNat + 1 by omega]
    show _ = fac (i - 1).toNat * (((i - 1).toNat : Int) + 1)
    rw [show (((i - 1).toNat : Nat) : Int) + 1 = i by omega]
  · have := fac_mono (m := 18) (n := x.toNat) (by omega)
    rw [fac_18] at this
    rw [stp_g (by omega)]
/-- the reference's -/
theorem times_e2 {x y : Int} (hx : 0 ≤ x ∧ x ≤ 1000000000000001) (hy : 0 ≤ y ∧ y ≤ 1000000000000001) : cpJ 1 (stp (x * y)) 220 [(2, x), (2, y)] G R V := by
  have nn : 0 ≤ x * y := Int.mul_nonneg hx.1 hy.1
  refine c_X8_times (t_X8_times_0 ⟨⟨by omega, by omega⟩, fun z => ⟨?_, rfl⟩, fun z => ⟨by omega, ⟨by omega, by omega⟩, fun z2 => ⟨?_, rfl⟩, fun z2 => ⟨?_, rfl⟩⟩⟩)
  · have e : x = 0 := by omega
    rw [e, Int.zero_mul, jmul_e ⟨by omega, by omega⟩, Int.zero_mul]; rfl
  · rw [jdiv_e ⟨by omega, by omega⟩ ⟨by omega, by omega⟩ (by omega) z, dv_lt z, Int.mul_comm] at z2
    rw [jmul_e ⟨by omega, by omega⟩, stp_l (by omega)]
  · rw [jdiv_e ⟨by omega, by omega⟩ ⟨by omega, by omega⟩ (by omega) z, dv_lt z, Int.mul_comm] at z2
    rw [stp_g z2]
theorem toThe_e {x y : Int} (hx : 0 ≤ x ∧ x ≤ 1000000000000001) (hy : 0 ≤ y ∧ y ≤ 4000000000000000000) : cpJ 2 (stp (x ^ y.toNat)) 222 [(2, x), (2, y)] G R V := by
  refine c_X8_toThe (t_X8_toThe_0 ⟨⟨by omega, by omega⟩, fun z => ⟨by rw [z, stp_p0], rfl⟩, fun z => ⟨⟨by omega, by omega⟩, fun z2 => ⟨fun z3 => ?_, fun z3 => ⟨?_, rfl⟩⟩, fun z2 => ⟨by rw [z2, Int.one_pow]; rfl, rfl⟩⟩⟩)
  · refine pool2 (f := fun v i => [some (2, x), none, some (2, y), none, some (2, v), none, some (2, i)]) (Inv := fun v i => (0 ≤ i ∧ i ≤ y) ∧ v = stp (x ^ i.toNat)) (μ := fun _ i => (y - i).toNat) (fun v i h ih => ?_) 1 0 ⟨by omega, stp_p0.symm⟩
    obtain ⟨i0, ev⟩ := h
    have r := stp_r (pow_nn (b := x) hx.1 i.toNat)
    refine t_X8_toThe_28 ⟨⟨by omega, by omega⟩, ⟨by omega, by omega⟩, fun q => ⟨?_, rfl⟩, fun q => ⟨⟨by omega, by omega⟩, fun q2 => ⟨?_, rfl⟩, fun q2 => ?_⟩⟩
    · rw [ev, show i = y by omega]
    · have a : 1000000000000000 < x ^ i.toNat := stp_lt.mp (by omega)
      have b := pow_mono (b := x) (by omega) (m := i.toNat) (n := y.toNat) (by omega)
      rw [ev, stp_g a, stp_g (by omega)]
    · refine cpJ_u (by omega) (times_e2 (by rw [ev]; exact r) hx) ?_
      rw [jadd_e ⟨by omega, by omega⟩]
      refine ih _ _ ⟨by omega, ?_⟩ (by omega)
      rw [ev, stp_m (pow_nn hx.1 _) hx.1, show (i + 1).toNat = i.toNat + 1 by omega, Int.pow_succ]
  · rw [z3, Int.zero_pow (by omega)]; rfl
end
/-- what is known of a table -/
def tbG (K : Int) (tb : Int → Int → Int) : Prop := (∀ c d, 0 ≤ c → c < d → d < K → tb c d = 0) ∧ (∀ c d, 0 ≤ c → c < K → 0 ≤ d → d < K → 0 ≤ tb c d ∧ tb c d ≤ 120) ∧ (∀ d, 0 ≤ d → d < K → 1 ≤ tb d d) ∧ ∀ c d, 0 ≤ c → c < K → 0 ≤ d → d < K → tb c d ≤ tb c 0
/-- marks mm have the parts p -/
def prtP (K : Int) (tb : Int → Int → Int) (mm p : Int → Int) : Prop := (∀ c, 0 ≤ c → c < K → 0 ≤ p c) ∧ (∀ d, 0 ≤ d → d < K → mm d = sm (fun c => p c * tb c d) K.toNat) ∧ mm 0 ≤ 1000000000000000
section
variable {K : Int} {tb tb' : Int → Int → Int} {mm pp : Int → Int}
theorem tbG_c (e : ∀ c d, 0 ≤ c → c < K → 0 ≤ d → d < K → tb c d = tb' c d) (h : tbG K tb) : tbG K tb' := ⟨fun c d c0 cd d1 => by rw [← e c d c0 (by omega) (by omega) d1]; exact h.1 c d c0 cd d1, fun c d c0 c1 d0 d1 => by rw [← e c d c0 c1 d0 d1]; exact h.2.1 c d c0 c1 d0 d1, fun d d0 d1 => by rw [← e d d d0 d1 d0 d1]; exact h.2.2.1 d d0 d1, fun c d c0 c1 d0 d1 => by rw [← e c d c0 c1 d0 d1, ← e c 0 c0 c1 (by omega) (by omega)]; exact h.2.2.2 c d c0 c1 d0 d1⟩
theorem prt_c (e : ∀ c d, 0 ≤ c → c < K → 0 ≤ d → d < K → tb c d = tb' c d) (h : prtP K tb mm pp) : prtP K tb' mm pp := ⟨h.1, fun d d0 d1 => (h.2.1 d d0 d1).trans (sm_congr (fun c c0 c1 => by (try dsimp only); rw [e c d c0 (by omega) d0 d1])), h.2.2⟩
theorem prt_b (tg : tbG K tb) (h : prtP K tb mm pp) : ∀ d, 0 ≤ d → d < K → 0 ≤ mm d ∧ mm d ≤ mm 0 := fun d d0 d1 => by
  rw [h.2.1 d d0 d1, h.2.1 0 (by omega) (by omega)]
  refine ⟨sm_nn (fun c c0 c1 => Int.mul_nonneg (h.1 c c0 (by omega)) (tg.2.1 c d c0 (by omega) d0 d1).1), sm_le (fun c c0 c1 => ?_)⟩
  exact Int.mul_le_mul_of_nonneg_left (tg.2.2.2 c d c0 (by omega) d0 d1) (h.1 c c0 (by omega))
theorem prt_p (tg : tbG K tb) (h : prtP K tb mm pp) : ∀ c, 0 ≤ c → c < K → pp c ≤ mm c := fun c c0 c1 => by
  have eK : ((K.toNat : Nat) : Int) = K := by omega
  have a := h.1 c c0 c1
  have t := tg.2.2.1 c c0 c1
  have b := mul_ge a t
  have q : pp c * tb c c ≤ sm (fun e => pp e * tb e c) K.toNat := sm_one (f := fun e => pp e * tb e c) (fun e e0 e1 => Int.mul_nonneg (h.1 e e0 (by omega)) (tg.2.1 e c e0 (by omega) c0 c1).1) c0 (by omega)
  rw [← h.2.1 c c0 c1] at q
  omega
theorem prt_s (tg : tbG K tb) (h : prtP K tb mm pp) : slP K tb mm pp 0 := by
  have b := prt_b tg h
  have m0 := h.2.2
  exact sl_p (K := K) (tb := tb) (m := mm) (p := pp) tg.1 (fun c d c0 c1 d0 d1 => (tg.2.1 c d c0 c1 d0 d1).1) (fun d d0 d1 => ⟨tg.2.2.1 d d0 d1, by have := (tg.2.1 d d d0 d1 d0 d1).2; omega⟩) h.1 h.2.1 (fun d d0 d1 => by have := (b d d0 d1).2; omega)
/-- parts are told by marks -/
theorem prt_u {p1 p2 m1 m2 : Int → Int} (tg : tbG K tb) (h1 : prtP K tb m1 p1) (h2 : prtP K tb m2 p2) (e : ∀ d, 0 ≤ d → d < K → m1 d = m2 d) : ∀ c, 0 ≤ c → c < K → p1 c = p2 c :=
  sl_u (by omega) (sl_c (by omega) (fun _ _ _ _ _ _ => rfl) e (prt_s tg h1)) (prt_s tg h2)
end
