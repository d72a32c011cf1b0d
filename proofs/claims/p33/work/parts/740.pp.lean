/-! powers; turns of prime power order make all -/
def pw (mul : Int → Int → Int) (x : Int) : Nat → Int
  | 0 => 0
  | k + 1 => mul (pw mul x k) x
def isOr (mul : Int → Int → Int) (x : Int) (o : Nat) : Prop := 1 ≤ o ∧ pw mul x o = 0 ∧ ∀ k, 1 ≤ k → k < o → pw mul x k ≠ 0
def ppd (p : Nat) : Nat → Nat → Nat
  | 0, r => r
  | f + 1, r => if r % p = 0 then ppd p f (r / p) else r
def ppl (n : Nat) : Nat → Nat → Bool
  | 0, _ => false
  | f + 1, p => if n < p then false else if n % p = 0 then Nat.beq (ppd p 120 n) 1 else ppl n f (p + 1)
def ppf (n : Nat) : Bool := ppl n (n + 1) 2
def cpw (m a u : Nat) : Nat := a - ((u * a - 1) / (m / a)) % a
def cpt (m : Nat) : Bool := (List.range m).any (fun a => Nat.blt 1 a && (Nat.beq (m % a) 0 && (List.range m).any (fun u => Nat.beq ((u * a + cpw m a u * (m / a)) % m) 1)))
theorem cpt_all : (List.range 121).all (fun m => Nat.ble m 1 || (ppf m || cpt m)) = true := by decide +kernel
theorem cpt_ex {m : Nat} (h1 : 1 < m) (h2 : m ≤ 120) (h3 : ppf m = false) : ∃ a u w : Nat, 1 < a ∧ a < m ∧ a * (m / a) = m ∧ (u * a + w * (m / a)) % m = 1 := by
  have h := List.all_eq_true.mp cpt_all m (List.mem_range.mpr (by omega))
  rw [h3] at h
  have b1 : Nat.ble m 1 = false := by
    cases hb : Nat.ble m 1 with
    | false => rfl
    | true => have := Nat.le_of_ble_eq_true hb; omega
  rw [b1] at h
  simp only [Bool.false_or] at h
  unfold cpt at h
  obtain ⟨a, ha, h⟩ := List.any_eq_true.mp h
  simp only [Bool.and_eq_true] at h
  obtain ⟨q1, q2, q3⟩ := h
  obtain ⟨u, hu, q4⟩ := List.any_eq_true.mp q3
  have a1 : 1 < a := Nat.le_of_ble_eq_true q1
  have a2 := List.mem_range.mp ha
  refine ⟨a, u, cpw m a u, a1, a2, ?_, Nat.eq_of_beq_eq_true q4⟩
  have := Nat.eq_of_beq_eq_true q2
  exact Nat.mul_div_cancel' (Nat.dvd_of_mod_eq_zero this)
section
variable {N : Int} {mul : Int → Int → Int} {inv : Int → Int} {x : Int} {S : Int → Int}
theorem pw_r (g : GT N mul inv) (x0 : 0 ≤ x ∧ x < N) : ∀ k, 0 ≤ pw mul x k ∧ pw mul x k < N := by
  intro k
  induction k with
  | zero => exact ⟨Int.le_refl _, by show (0 : Int) < N; have := g.1; omega⟩
  | succ k ih => exact g.2.1 _ _ ih.1 ih.2 x0.1 x0.2
theorem pw_1 (g : GT N mul inv) (x0 : 0 ≤ x ∧ x < N) : pw mul x 1 = x := (g.2.2.1 x x0.1 x0.2).1
theorem pw_0 (g : GT N mul inv) : ∀ k, pw mul 0 k = 0 := by
  intro k
  induction k with
  | zero => rfl
  | succ k ih =>
    show mul (pw mul 0 k) 0 = 0
    rw [ih]
    exact (g.2.2.1 0 (Int.le_refl _) (by have := g.1; omega)).1
theorem pw_add (g : GT N mul inv) (x0 : 0 ≤ x ∧ x < N) (j : Nat) : ∀ k, pw mul x (j + k) = mul (pw mul x j) (pw mul x k) := by
  intro k
  have a := pw_r g x0 j
  induction k with
  | zero => exact ((g.2.2.1 _ a.1 a.2).2).symm
  | succ k ih =>
    have b := pw_r g x0 k
    show mul (pw mul x (j + k)) x = mul (pw mul x j) (mul (pw mul x k) x)
    rw [ih, g.2.2.2.1 _ _ _ a.1 a.2 b.1 b.2 x0.1 x0.2]
theorem pw_mul (g : GT N mul inv) (x0 : 0 ≤ x ∧ x < N) (j : Nat) : ∀ k, pw mul (pw mul x j) k = pw mul x (j * k) := by
  intro k
  induction k with
  | zero => rfl
  | succ k ih =>
    show mul (pw mul (pw mul x j) k) (pw mul x j) = _
    rw [ih, ← pw_add g x0, Nat.mul_succ]
theorem pw_S (g : GT N mul inv) (x0 : 0 ≤ x ∧ x < N) (hS : SM N mul S) (hx : S x = 1) : ∀ k, S (pw mul x k) = 1 := by
  intro k
  induction k with
  | zero => exact hS.2.1
  | succ k ih =>
    have b := pw_r g x0 k
    exact hS.2.2 _ _ b.1 b.2 x0.1 x0.2 ih hx
theorem or_mod (g : GT N mul inv) (x0 : 0 ≤ x ∧ x < N) {o : Nat} (h : isOr mul x o) (n : Nat) : pw mul x n = pw mul x (n % o) := by
  have e : n = o * (n / o) + n % o := (Nat.div_add_mod n o).symm
  have r := pw_r g x0 (n % o)
  rw [e, pw_add g x0, ← pw_mul g x0 o, h.2.1, pw_0 g, (g.2.2.1 _ r.1 r.2).1, ← e]
theorem or_dvd (g : GT N mul inv) (x0 : 0 ≤ x ∧ x < N) {o : Nat} (h : isOr mul x o) (n : Nat) (z : pw mul x n = 0) : n % o = 0 := by
  rw [or_mod g x0 h] at z
  by_cases q : n % o = 0
  · exact q
  · exact absurd z (h.2.2 _ (by omega) (Nat.mod_lt _ (by have := h.1; omega)))
theorem or_sub (g : GT N mul inv) (x0 : 0 ≤ x ∧ x < N) {a b : Nat} (h : isOr mul x (a * b)) (ha : 1 ≤ a) (hb : 1 ≤ b) : isOr mul (pw mul x a) b := by
  refine ⟨hb, by rw [pw_mul g x0]; exact h.2.1, fun k k0 k1 => ?_⟩
  rw [pw_mul g x0]
  exact h.2.2 _ (Nat.mul_pos ha k0) (Nat.mul_lt_mul_of_pos_left k1 ha)
theorem or_ex (g : GT N mul inv) (x0 : 0 ≤ x ∧ x < N) : ∃ o : Nat, isOr mul x o ∧ (o : Int) ≤ N := by
  have least : ∀ n : Nat, (∃ k, 1 ≤ k ∧ k ≤ n ∧ pw mul x k = 0) → ∃ o, isOr mul x o ∧ o ≤ n := by
    intro n
    induction n with
    | zero => rintro ⟨k, k1, k2, _⟩; omega
    | succ n ih =>
      rintro ⟨k, k1, k2, k3⟩
      by_cases q : ∃ k, 1 ≤ k ∧ k ≤ n ∧ pw mul x k = 0
      · obtain ⟨o, o1, o2⟩ := ih q
        exact ⟨o, o1, by omega⟩
      · have e : k = n + 1 := by
          by_cases z : k ≤ n
          · exact absurd ⟨k, k1, z, k3⟩ q
          · omega
        subst e
        exact ⟨n + 1, ⟨k1, k3, fun j j1 j2 z => q ⟨j, j1, by omega, z⟩⟩, by omega⟩
  by_cases q : ∃ k : Nat, 1 ≤ k ∧ k ≤ N.toNat ∧ pw mul x k = 0
  · obtain ⟨o, o1, o2⟩ := least _ q
    exact ⟨o, o1, by have := g.1; omega⟩
  · exfalso
    have g1 := g.1
    have main : ∀ a b : Nat, a < b → b ≤ N.toNat → pw mul x a = pw mul x b → False := by
      intro a b ab bN e
      obtain ⟨c, rfl⟩ : ∃ c, b = a + c := ⟨b - a, by omega⟩
      rw [pw_add g x0] at e
      have ra := pw_r g x0 a
      have rc := pw_r g x0 c
      have z : (0 : Int) = pw mul x c := GT_cl g ra ⟨Int.le_refl _, by omega⟩ rc (by rw [(g.2.2.1 _ ra.1 ra.2).2]; exact e)
      exact q ⟨c, by omega, by omega, z.symm⟩
    have inj : ∀ i j : Int, 0 ≤ i → i < N → 0 ≤ j → j < N → pw mul x (i.toNat + 1) = pw mul x (j.toNat + 1) → i = j := by
      intro i j i0 i1 j0 j1 e
      by_cases l : i < j
      · exact (main (i.toNat + 1) (j.toNat + 1) (by omega) (by omega) e).elim
      · by_cases l2 : j < i
        · exact (main (j.toNat + 1) (i.toNat + 1) (by omega) (by omega) e.symm).elim
        · omega
    obtain ⟨i, i0, i1, i2⟩ := pig (φ := fun i => pw mul x (i.toNat + 1)) (n := N) (by omega) (fun i _ _ => pw_r g x0 _) inj (y := 0) (by omega) (by omega)
    exact q ⟨i.toNat + 1, by omega, by omega, i2⟩
theorem pp_gen (g : GT N mul inv) (hS : SM N mul S) : ∀ (o : Nat), o ≤ 120 → ∀ x, 0 ≤ x ∧ x < N → isOr mul x o → (∀ k oy : Nat, isOr mul (pw mul x k) oy → ppf oy = true → S (pw mul x k) = 1) → S x = 1 := by
  intro o
  induction o using Nat.strongRecOn with
  | ind o ih =>
    intro ho x x0 h hy
    by_cases o1 : o = 1
    · have e := h.2.1
      rw [o1, pw_1 g x0] at e
      rw [e]; exact hS.2.1
    · cases hp : ppf o with
      | true =>
        have := hy 1 o (by rw [pw_1 g x0]; exact h) hp
        rw [pw_1 g x0] at this
        exact this
      | false =>
        obtain ⟨a, u, w, a1, a2, ab, e⟩ := cpt_ex (by have := h.1; omega) ho hp
        have b1 : 1 < o / a := by
          rcases Nat.lt_or_ge 1 (o / a) with q | q
          · exact q
          · have : a * (o / a) ≤ a * 1 := Nat.mul_le_mul_left a q
            omega
        have b2 : o / a < o := Nat.div_lt_self (by omega) a1
        have xa := pw_r g x0 a
        have xb := pw_r g x0 (o / a)
        have ha : isOr mul (pw mul x a) (o / a) := or_sub g x0 (by rw [ab]; exact h) (by omega) (by omega)
        have hb : isOr mul (pw mul x (o / a)) a := or_sub g x0 (by rw [Nat.mul_comm, ab]; exact h) (by omega) (by omega)
        have sa : S (pw mul x a) = 1 := ih _ b2 (by omega) _ xa ha (fun k oy q1 q2 => by rw [pw_mul g x0] at q1 ⊢; exact hy _ oy q1 q2)
        have sb : S (pw mul x (o / a)) = 1 := ih _ a2 (by omega) _ xb hb (fun k oy q1 q2 => by rw [pw_mul g x0] at q1 ⊢; exact hy _ oy q1 q2)
        have ex : x = mul (pw mul (pw mul x a) u) (pw mul (pw mul x (o / a)) w) := by
          rw [pw_mul g x0, pw_mul g x0, ← pw_add g x0, or_mod g x0 h, Nat.mul_comm a u, Nat.mul_comm (o / a) w, e, pw_1 g x0]
        have ra := pw_r g xa u
        have rb := pw_r g xb w
        rw [ex]
        exact hS.2.2 _ _ ra.1 ra.2 rb.1 rb.2 (pw_S g xa hS sa u) (pw_S g xb hS sb w)
end
