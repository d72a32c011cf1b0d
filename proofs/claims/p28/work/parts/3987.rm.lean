/-! pairs, heaps and cosets as points -/
section
variable {n N H C : Int} {mul act : Int → Int → Int} {inv : Int → Int} {S : Int → Int → Int} {sz co fo nu m m1 m2 : Int → Int} {c d h : Int}
theorem RZ_mul (h1 : RZ N C mul S fo m1) (h2 : RZ N C mul S fo m2) : RZ N C mul S fo (fun d => m1 d * m2 d) := by
  obtain ⟨n1, a1, as1, f1⟩ := h1
  obtain ⟨n2, a2, as2, f2⟩ := h2
  have p1 := as1.1
  have p2 := as2.1
  by_cases z : n2 = 0
  · refine RZ_c RZ_0 (fun d d0 d1 => ?_)
    (try dsimp only)
    have e : m2 d = 0 := by
      rw [f2 d d0 d1, z]
      rfl
    rw [e, Int.mul_zero]
  have n20 : 0 < n2 := by omega
  have dv : ∀ u v, 0 ≤ v → v < n2 → (n2 * u + v) / n2 = u ∧ (n2 * u + v) % n2 = v := fun u v v0 v1 => ⟨by rw [Int.mul_add_ediv_left _ _ (by omega), Int.ediv_eq_zero_of_lt v0 v1]; omega, by rw [Int.mul_add_emod_self_left, Int.emod_eq_of_lt v0 v1]⟩
  have hr : ∀ x, 0 ≤ x → x < n1 * n2 → (0 ≤ x / n2 ∧ x / n2 < n1) ∧ (0 ≤ x % n2 ∧ x % n2 < n2) ∧ n2 * (x / n2) + x % n2 = x := fun x x0 x1 => ⟨⟨Int.ediv_nonneg x0 (by omega), Int.ediv_lt_of_lt_mul n20 x1⟩, ⟨Int.emod_nonneg x (by omega), Int.emod_lt_of_pos x n20⟩, Int.mul_ediv_add_emod x n2⟩
  have up : ∀ u v, 0 ≤ u → u < n1 → 0 ≤ v → v < n2 → 0 ≤ n2 * u + v ∧ n2 * u + v < n1 * n2 := fun u v u0 u1 v0 v1 => by
    have a : n2 * u ≤ n2 * (n1 - 1) := Int.mul_le_mul_of_nonneg_left (by omega) (by omega)
    have b : n2 * (n1 - 1) = n1 * n2 - n2 := by rw [Int.mul_sub, Int.mul_one, Int.mul_comm]
    have c : 0 ≤ n2 * u := Int.mul_nonneg (by omega) u0
    omega
  refine ⟨n1 * n2, fun x g => n2 * a1 (x / n2) g + a2 (x % n2) g, ⟨Int.mul_nonneg p1 p2, fun x g x0 x1 g0 g1 => ?_, fun x x0 x1 => ?_, fun x a b x0 x1 q0 q1 b0 b1 => ?_⟩, fun d d0 d1 => ?_⟩
  · obtain ⟨u, v, e⟩ := hr x x0 x1
    have y1 := as1.2.1 _ g u.1 u.2 g0 g1
    have y2 := as2.2.1 _ g v.1 v.2 g0 g1
    exact up _ _ y1.1 y1.2 y2.1 y2.2
  · obtain ⟨u, v, e⟩ := hr x x0 x1
    (try dsimp only)
    rw [as1.2.2.1 _ u.1 u.2, as2.2.2.1 _ v.1 v.2]
    exact e
  · obtain ⟨u, v, e⟩ := hr x x0 x1
    have y1 := as1.2.1 _ a u.1 u.2 q0 q1
    have y2 := as2.2.1 _ a v.1 v.2 q0 q1
    have q := dv (a1 (x / n2) a) (a2 (x % n2) a) y2.1 y2.2
    (try dsimp only)
    rw [q.1, q.2, as1.2.2.2 _ a b u.1 u.2 q0 q1 b0 b1, as2.2.2.2 _ a b v.1 v.2 q0 q1 b0 b1]
  · (try dsimp only)
    rw [f1 d d0 d1, f2 d d0 d1]
    unfold fx
    obtain ⟨k2, e2⟩ := Int.eq_ofNat_of_zero_le p2
    obtain ⟨k1, e1⟩ := Int.eq_ofNat_of_zero_le p1
    have et : (n1 * n2).toNat = n1.toNat * n2.toNat := by rw [e1, e2]; rfl
    have en : ((n2.toNat : Nat) : Int) = n2 := by omega
    have pr := sm_pr (fun i j => bi (True ∧ ∀ t, 0 ≤ t → t < N → S (fo d) t = 1 → a1 i t = i) * bi (True ∧ ∀ t, 0 ≤ t → t < N → S (fo d) t = 1 → a2 j t = j)) (m := n2.toNat) (by omega) n1.toNat
    rw [en] at pr
    have s1 : sm (fun i => sm (fun j => bi (True ∧ ∀ t, 0 ≤ t → t < N → S (fo d) t = 1 → a1 i t = i) * bi (True ∧ ∀ t, 0 ≤ t → t < N → S (fo d) t = 1 → a2 j t = j)) n2.toNat) n1.toNat = sm (fun x => bi (True ∧ ∀ t, 0 ≤ t → t < N → S (fo d) t = 1 → a1 x t = x)) n1.toNat * sm (fun x => bi (True ∧ ∀ t, 0 ≤ t → t < N → S (fo d) t = 1 → a2 x t = x)) n2.toNat := by
      rw [← sm_mc]
      exact sm_congr (fun i i0 i1 => sm_cm _ _ _)
    rw [← s1, ← pr, et]
    refine sm_congr (fun x x0 x1 => ?_)
    have x1' : x < n1 * n2 := by
      have : ((n1.toNat * n2.toNat : Nat) : Int) = n1 * n2 := by rw [e1, e2]; rfl
      omega
    obtain ⟨u, v, e⟩ := hr x x0 x1'
    (try dsimp only)
    rw [← bi_and]
    refine (bi_c ⟨fun w => ⟨⟨trivial, fun t t0 t1 q => ?_⟩, trivial, fun t t0 t1 q => ?_⟩, fun w => ⟨trivial, fun t t0 t1 q => ?_⟩⟩).symm
    · have y2 := as2.2.1 _ t v.1 v.2 t0 t1
      have k := w.2 t t0 t1 q
      have g := (dv (a1 (x / n2) t) (a2 (x % n2) t) y2.1 y2.2).1
      rw [k] at g
      exact g.symm
    · have y2 := as2.2.1 _ t v.1 v.2 t0 t1
      have k := w.2 t t0 t1 q
      have g := (dv (a1 (x / n2) t) (a2 (x % n2) t) y2.1 y2.2).2
      rw [k] at g
      exact g.symm
    · rw [w.1.2 t t0 t1 q, w.2.2 t t0 t1 q]
      exact e
theorem AS_ld (gt : GT N mul inv) (hp : hpsP N H mul S sz) : AS H N mul (fun k g => ld N H mul inv S k g) := ⟨by have := hp.1; omega, fun k g k0 k1 g0 g1 => (ld_s gt hp ⟨k0, k1⟩ ⟨g0, g1⟩).1, fun k k0 k1 => ld_0 gt hp ⟨k0, k1⟩, fun k a b k0 k1 a0 a1 b0 b1 => ld_m gt hp ⟨k0, k1⟩ ⟨a0, a1⟩ ⟨b0, b1⟩⟩
theorem nc_ex {E : Int → Int → Prop} (re : ∀ i, E i i) : ∀ n : Nat, ∃ (K : Int) (co fo nu : Int → Int), ncP E (n : Int) K co fo nu := by
  intro n
  induction n with
  | zero => exact ⟨0, fun _ => 0, fun _ => 0, fun _ => 0, nc_nil⟩
  | succ n ih =>
    obtain ⟨K, co, fo, nu, h⟩ := ih
    rw [show ((n + 1 : Nat) : Int) = (n : Int) + 1 by omega]
    by_cases q : ∃ v, (0 ≤ v ∧ v < K) ∧ E (fo v) n
    · obtain ⟨v, v0, e⟩ := q
      exact ⟨K, fun j => if j = n then v else co j, fo, fun c => if c = v then nu v + 1 else nu c, nc_old h (by omega) v0 e (fun j hj => if_neg hj) (if_pos rfl) (fun _ => rfl) (fun c hc => if_neg hc) (if_pos rfl)⟩
    · exact ⟨K + 1, fun j => if j = n then K else co j, fun c => if c = K then n else fo c, fun c => if c = K then 1 else nu c, nc_new h (by omega) (re _) (fun c c0 c1 e => q ⟨c, ⟨c0, c1⟩, e⟩) (fun j hj => if_neg hj) (if_pos rfl) (fun c hc => if_neg hc) (if_pos rfl) (fun c hc => if_neg hc) (if_pos rfl)⟩
end
