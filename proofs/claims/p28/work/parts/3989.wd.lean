/-! words of n letters out of k, and those that are the same all over each round -/
def dgk (k : Int) : Nat → Int → Int
  | 0, w => w % k
  | i + 1, w => dgk k i (w / k)
def wdk (k : Int) : Nat → (Nat → Int) → Int
  | 0, _ => 0
  | n + 1, f => f 0 + k * wdk k n (fun i => f (i + 1))
section
variable {k : Int}
theorem dgk_r (k0 : 0 < k) : ∀ (i : Nat) (w : Int), 0 ≤ dgk k i w ∧ dgk k i w < k := by
  intro i
  induction i with
  | zero => intro w; exact ⟨Int.emod_nonneg w (by omega), Int.emod_lt_of_pos w k0⟩
  | succ i ih => intro w; exact ih (w / k)
theorem wdk_r (k0 : 0 < k) : ∀ (n : Nat) (f : Nat → Int), (∀ i, i < n → 0 ≤ f i ∧ f i < k) → 0 ≤ wdk k n f ∧ wdk k n f < k ^ n := by
  intro n
  induction n with
  | zero => intro f _; show 0 ≤ (0 : Int) ∧ (0 : Int) < k ^ 0; rw [Int.pow_zero]; omega
  | succ n ih =>
    intro f hf
    have a := ih (fun i => f (i + 1)) (fun i hi => hf (i + 1) (by omega))
    have b := hf 0 (by omega)
    show 0 ≤ f 0 + k * wdk k n (fun i => f (i + 1)) ∧ f 0 + k * wdk k n (fun i => f (i + 1)) < k ^ (n + 1)
    have c : 0 ≤ k * wdk k n (fun i => f (i + 1)) := Int.mul_nonneg (by omega) a.1
    have d : k * wdk k n (fun i => f (i + 1)) ≤ k * (k ^ n - 1) := Int.mul_le_mul_of_nonneg_left (by omega) (by omega)
    have e : k * (k ^ n - 1) = k ^ (n + 1) - k := by rw [Int.mul_sub, Int.mul_one, Int.pow_succ, Int.mul_comm]
    omega
theorem dgk_w (k0 : 0 < k) : ∀ (n : Nat) (f : Nat → Int) (i : Nat), (∀ i, i < n → 0 ≤ f i ∧ f i < k) → i < n → dgk k i (wdk k n f) = f i := by
  intro n
  induction n with
  | zero => intro f i _ h; omega
  | succ n ih =>
    intro f i hf hi
    have b := hf 0 (by omega)
    cases i with
    | zero =>
      show (f 0 + k * wdk k n (fun i => f (i + 1))) % k = f 0
      rw [Int.add_mul_emod_self_left, Int.emod_eq_of_lt b.1 b.2]
    | succ i =>
      show dgk k i ((f 0 + k * wdk k n (fun i => f (i + 1))) / k) = f (i + 1)
      rw [Int.add_mul_ediv_left _ _ (by omega), Int.ediv_eq_zero_of_lt b.1 b.2, Int.zero_add]
      exact ih (fun i => f (i + 1)) i (fun j hj => hf (j + 1) (by omega)) (by omega)
theorem dgk_u (k0 : 0 < k) : ∀ (n : Nat) (v w : Int), 0 ≤ v → v < k ^ n → 0 ≤ w → w < k ^ n → (∀ i, i < n → dgk k i v = dgk k i w) → v = w := by
  intro n
  induction n with
  | zero => intro v w v0 v1 w0 w1 _; rw [Int.pow_zero] at v1 w1; omega
  | succ n ih =>
    intro v w v0 v1 w0 w1 h
    have e0 : v % k = w % k := h 0 (by omega)
    have lt : ∀ x, 0 ≤ x → x < k ^ (n + 1) → 0 ≤ x / k ∧ x / k < k ^ n := fun x x0 x1 => ⟨Int.ediv_nonneg x0 (by omega), Int.ediv_lt_of_lt_mul k0 (by rw [← Int.pow_succ]; exact x1)⟩
    have e1 := ih (v / k) (w / k) (lt v v0 v1).1 (lt v v0 v1).2 (lt w w0 w1).1 (lt w w0 w1).2 (fun i hi => h (i + 1) (by omega))
    have a := Int.mul_ediv_add_emod v k
    have b := Int.mul_ediv_add_emod w k
    rw [← a, ← b, e0, e1]
end
section
variable {n N H C : Int} {mul act : Int → Int → Int} {inv : Int → Int} {S : Int → Int → Int} {x g : Int} {k : Int}
/-- words are led as their letters' places are -/
noncomputable def wact (k n : Int) (act : Int → Int → Int) (inv : Int → Int) (w g : Int) : Int := wdk k n.toNat (fun i => dgk k (act (i : Int) (inv g)).toNat w)
theorem wact_d (gt : GT N mul inv) (as : AS n N mul act) (k0 : 0 < k) (g0 : 0 ≤ g ∧ g < N) (w : Int) {i : Nat} (hi : (i : Int) < n) : dgk k i (wact k n act inv w g) = dgk k (act (i : Int) (inv g)).toNat w :=
  dgk_w k0 n.toNat _ i (fun j hj => dgk_r k0 _ _) (by omega)
theorem AS_w (gt : GT N mul inv) (as : AS n N mul act) (k0 : 0 < k) : AS (k ^ n.toNat) N mul (wact k n act inv) := by
  have n0 := as.1
  have pw : 0 ≤ k ^ n.toNat := Int.le_of_lt (Int.pow_pos k0)
  have rg : ∀ w g, 0 ≤ wact k n act inv w g ∧ wact k n act inv w g < k ^ n.toNat := fun w g => wdk_r k0 n.toNat _ (fun j hj => dgk_r k0 _ _)
  refine ⟨pw, fun w g _ _ _ _ => rg w g, fun w w0 w1 => ?_, fun w a b w0 w1 a0 a1 b0 b1 => ?_⟩
  · refine dgk_u k0 n.toNat _ _ (rg w 0).1 (rg w 0).2 w0 w1 (fun i hi => ?_)
    have i0 : 0 ≤ (i : Int) ∧ (i : Int) < n := ⟨by omega, by omega⟩
    rw [wact_d gt as k0 ⟨by omega, by have := gt.1; omega⟩ w i0.2, inv_0 gt, as.2.2.1 _ i0.1 i0.2]
    rfl
  · refine dgk_u k0 n.toNat _ _ (rg _ _).1 (rg _ _).2 (rg _ _).1 (rg _ _).2 (fun i hi => ?_)
    have i0 : 0 ≤ (i : Int) ∧ (i : Int) < n := ⟨by omega, by omega⟩
    have ia := GT_i gt (a := a) ⟨a0, a1⟩
    have ib := GT_i gt (a := b) ⟨b0, b1⟩
    have y0 := AS_r as i0 ib
    have et : (((act (i : Int) (inv b)).toNat : Nat) : Int) = act (i : Int) (inv b) := Int.toNat_of_nonneg y0.1
    rw [wact_d gt as k0 (GT_m gt ⟨a0, a1⟩ ⟨b0, b1⟩) w i0.2, wact_d gt as k0 ⟨b0, b1⟩ _ i0.2, wact_d gt as k0 ⟨a0, a1⟩ w (by rw [et]; exact y0.2), et, inv_mul gt ⟨a0, a1⟩ ⟨b0, b1⟩, AS_m as i0 ib ia]
end
