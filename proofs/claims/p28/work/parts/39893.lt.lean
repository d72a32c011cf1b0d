/-! rows of k letters out of P, each letter led; those whose letters differ -/
section
variable {P N : Int} {mul act : Int → Int → Int} {inv : Int → Int} {k : Nat} {x g : Int} {Z : Int → Prop}
noncomputable def lact (P : Int) (k : Nat) (act : Int → Int → Int) (w g : Int) : Int := wdk P k (fun i => act (dgk P i w) g)
def ldf (P : Int) (k : Nat) (w : Int) : Prop := ∀ i j : Nat, i < j → j < k → dgk P i w ≠ dgk P j w
theorem lact_d (as : AS P N mul act) (P0 : 0 < P) (g0 : 0 ≤ g ∧ g < N) (w : Int) {i : Nat} (hi : i < k) : dgk P i (lact P k act w g) = act (dgk P i w) g :=
  dgk_w P0 k _ i (fun j hj => AS_r as (dgk_r P0 j w) g0) hi
theorem AS_l (as : AS P N mul act) (P0 : 0 < P) (gm : ∀ a b, 0 ≤ a → a < N → 0 ≤ b → b < N → 0 ≤ mul a b ∧ mul a b < N) (N1 : 1 ≤ N) : AS (P ^ k) N mul (lact P k act) := by
  have pw : 0 ≤ P ^ k := Int.le_of_lt (Int.pow_pos P0)
  have rg : ∀ w g, (0 ≤ g ∧ g < N) → 0 ≤ lact P k act w g ∧ lact P k act w g < P ^ k := fun w g g0 => wdk_r P0 k _ (fun j hj => AS_r as (dgk_r P0 j w) g0)
  refine ⟨pw, fun w g _ _ g0 g1 => rg w g ⟨g0, g1⟩, fun w w0 w1 => ?_, fun w a b w0 w1 a0 a1 b0 b1 => ?_⟩
  · have z : 0 ≤ (0 : Int) ∧ 0 < N := ⟨by omega, by omega⟩
    refine dgk_u P0 k _ _ (rg w 0 z).1 (rg w 0 z).2 w0 w1 (fun i hi => ?_)
    have r := dgk_r P0 i w
    rw [lact_d as P0 z w hi, as.2.2.1 _ r.1 r.2]
  · have m0 := gm a b a0 a1 b0 b1
    refine dgk_u P0 k _ _ (rg _ _ m0).1 (rg _ _ m0).2 (rg _ _ ⟨b0, b1⟩).1 (rg _ _ ⟨b0, b1⟩).2 (fun i hi => ?_)
    have r := dgk_r P0 i w
    rw [lact_d as P0 m0 w hi, lact_d as P0 ⟨b0, b1⟩ _ hi, lact_d as P0 ⟨a0, a1⟩ w hi, AS_m as r ⟨a0, a1⟩ ⟨b0, b1⟩]
theorem US_l (gt : GT N mul inv) (as : AS P N mul act) (P0 : 0 < P) : US (P ^ k) N (lact P k act) (ldf P k) := fun w g w0 w1 g0 g1 => by
  have e : ∀ i, i < k → dgk P i (lact P k act w g) = act (dgk P i w) g := fun i hi => lact_d as P0 ⟨g0, g1⟩ w hi
  constructor
  · intro h i j ij jk q
    exact h i j ij jk (by rw [e i (by omega), e j jk, q])
  · intro h i j ij jk q
    rw [e i (by omega), e j jk] at q
    exact h i j ij jk (AS_in gt as (dgk_r P0 i w) (dgk_r P0 j w) ⟨g0, g1⟩ q)
/-- letters of Z that w has not yet -/
theorem lt_l (P0 : 0 < P) : ∀ (k : Nat) (w : Int), ldf P k w → (∀ i, i < k → Z (dgk P i w)) → sm (fun d => bi (Z d ∧ ∀ i, i < k → dgk P i w ≠ d)) P.toNat = sm (fun d => bi (Z d)) P.toNat - k := by
  intro k
  induction k with
  | zero =>
    intro w _ _
    have : sm (fun d => bi (Z d ∧ ∀ i, i < 0 → dgk P i w ≠ d)) P.toNat = sm (fun d => bi (Z d)) P.toNat := sm_congr (fun d _ _ => bi_c ⟨fun q => q.1, fun q => ⟨q, fun i hi => by omega⟩⟩)
    rw [this]; omega
  | succ k ih =>
    intro w hd hz
    have a := ih w (fun i j ij jk => hd i j ij (by omega)) (fun i hi => hz i (by omega))
    have r := dgk_r P0 k w
    have one := sm_dl (g := fun _ => (1 : Int)) (e := dgk P k w) (m := P.toNat) r.1 (by omega)
    have s : sm (fun d => bi (Z d ∧ ∀ i, i < k → dgk P i w ≠ d)) P.toNat = sm (fun d => bi (Z d ∧ ∀ i, i < k + 1 → dgk P i w ≠ d) + bi (dgk P k w = d) * 1) P.toNat := sm_congr (fun d d0 d1 => by
      (try dsimp only)
      by_cases q : dgk P k w = d
      · rw [bi_t q, bi_t (show Z d ∧ ∀ i, i < k → dgk P i w ≠ d from ⟨by rw [← q]; exact hz k (by omega), fun i hi => by rw [← q]; exact hd i k hi (by omega)⟩), bi_f (fun y => y.2 k (by omega) q)]
        rfl
      · rw [bi_f q, Int.zero_mul, Int.add_zero]
        refine bi_c ⟨fun y => ⟨y.1, fun i hi => ?_⟩, fun y => ⟨y.1, fun i hi => y.2 i (by omega)⟩⟩
        by_cases e : i = k
        · rw [e]; exact q
        · exact y.2 i (by omega))
    rw [sm_add, one] at s
    have c : ((k + 1 : Nat) : Int) = (k : Int) + 1 := by omega
    rw [c]
    omega
/-- how many rows have letters of Z alone, all of them different -/
theorem lt_n (P0 : 0 < P) : ∀ k : Nat, sm (fun w => bi (ldf P (k + 1) w ∧ ∀ i, i < k + 1 → Z (dgk P i w))) (P ^ (k + 1)).toNat = sm (fun w => bi (ldf P k w ∧ ∀ i, i < k → Z (dgk P i w))) (P ^ k).toNat * (sm (fun d => bi (Z d)) P.toNat - k) := by
  intro k
  have pk : 0 < P ^ k := Int.pow_pos P0
  have et : (P ^ (k + 1)).toNat = (P ^ k).toNat * P.toNat := by
    obtain ⟨a, ea⟩ := Int.eq_ofNat_of_zero_le (Int.le_of_lt pk)
    obtain ⟨b, eb⟩ := Int.eq_ofNat_of_zero_le (Int.le_of_lt P0)
    rw [Int.pow_succ, ea, eb]
    rfl
  have eP : ((P.toNat : Nat) : Int) = P := by omega
  have pr := sm_pr (fun i j => bi (ldf P k i ∧ ∀ l, l < k → Z (dgk P l i)) * bi (Z j ∧ ∀ l, l < k → dgk P l i ≠ j)) (m := P.toNat) (by omega) (P ^ k).toNat
  rw [eP] at pr
  rw [et, ← sm_mc]
  have s1 : sm (fun i => sm (fun j => bi (ldf P k i ∧ ∀ l, l < k → Z (dgk P l i)) * bi (Z j ∧ ∀ l, l < k → dgk P l i ≠ j)) P.toNat) (P ^ k).toNat = sm (fun w => bi (ldf P k w ∧ ∀ i, i < k → Z (dgk P i w)) * (sm (fun d => bi (Z d)) P.toNat - k)) (P ^ k).toNat := sm_congr (fun i i0 i1 => by
    (try dsimp only)
    rw [sm_cm]
    by_cases q : ldf P k i ∧ ∀ l, l < k → Z (dgk P l i)
    · rw [lt_l P0 k i q.1 q.2]
    · rw [bi_f q, Int.zero_mul, Int.zero_mul])
  rw [← s1, ← pr]
  refine sm_congr (fun w w0 w1 => ?_)
  (try dsimp only)
  rw [← bi_and]
  refine bi_c ⟨fun q => ⟨⟨fun i j ij jk => q.1 (i + 1) (j + 1) (by omega) (by omega), fun l hl => q.2 (l + 1) (by omega)⟩, q.2 0 (by omega), fun l hl e => q.1 0 (l + 1) (by omega) (by omega) e.symm⟩, fun q => ⟨fun i j ij jk e => ?_, fun i hi => ?_⟩⟩
  · cases i with
    | zero =>
      cases j with
      | zero => omega
      | succ j => exact q.2.2 j (by omega) e.symm
    | succ i =>
      cases j with
      | zero => omega
      | succ j => exact q.1.1 i j (by omega) (by omega) e
  · cases i with
    | zero => exact q.2.1
    | succ i => exact q.1.2 i (by omega)
end
