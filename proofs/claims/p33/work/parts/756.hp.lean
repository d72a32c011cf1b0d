/-! the class's heaps are the reference's -/
section
variable {G G' : List gS} {R R' V V' : gV} {T T' : gT} {W : gV} {L : Int → Int} {I : Int → gD} {B M S N g b x p n o m y : Nat} {C D E : Int} {d : gD}
theorem mul_eq (hM : MI V M) (h : dEq d (V M 4) (V M 5) (fun i => V (M + 4) i)) : ∀ s t, 0 ≤ s → s < V M 5 → 0 ≤ t → t < V M 5 → d (2 + s) t = mMul V M s t := by
  intro s t s0 s1 t0 t1
  have q := pr_rp hM h (s := s) (t := t)
  have e := h.2.1
  unfold prX rmX at q
  rw [if_pos (by omega), if_pos (by omega)] at q
  exact q
theorem hp_eq (hM : MI V M) (h : dEq d (V M 4) (V M 5) (fun i => V (M + 4) i)) : d 0 2 = V M 12 ∧ (∀ k, 0 ≤ k → k < V M 12 → req (V M 5) (hsD d k) (mHas V M k)) ∧ ∀ k, 0 ≤ k → k < V M 12 → d 203 k = V (M + 10) k := by
  have e1 := h.2.1
  have hx := h.2.2.2.2
  have st := hM.2.1.2.1
  have rp := st.2.1
  have rs : srtH V M (V M 5) (V M 12) := st.2.2.2.2.2.2.2.2.1
  obtain ⟨cp, cs, cz⟩ := hx
  rw [e1] at cp cs
  have cp' := hps_mul (mul_eq hM h) cp
  have eq := ah_uni cs (fun a b a0 ab b1 => rs a b a0 ab b1) (fun i i0 i1 => rp.2.2.2.1 _ (cp'.2.2.1 i i0 i1).1) (fun j j0 j1 => cp'.2.2.2.1 _ (rp.2.2.1 j j0 j1).1)
  have K : d 0 2 = V M 12 := by
    have a := (eq (d 0 2).toNat).2
    have b := (eq (V M 12).toNat).1
    have c1 := cp.1
    have c2 := rp.1
    rw [Int.toNat_of_nonneg (by omega)] at a b
    apply Classical.byContradiction
    intro q
    by_cases l : d 0 2 < V M 12
    · have := (a l).1; omega
    · have := (b (by omega)).1; omega
  have rq : ∀ k, 0 ≤ k → k < V M 12 → req (V M 5) (hsD d k) (mHas V M k) := fun k k0 k1 => by
    have := ((eq k.toNat).2 (by omega)).2
    rw [Int.toNat_of_nonneg k0] at this
    exact this
  refine ⟨K, rq, fun k k0 k1 => ?_⟩
  have a := (cp.2.2.1 k k0 (by omega)).2
  have b := (rp.2.2.1 k k0 k1).2
  have a' : d 203 k = sm (hsD d k) (V M 5).toNat := a
  have b' : V (M + 10) k = sm (mHas V M k) (V M 5).toNat := b
  rw [a', b']
  exact rqm (rq k k0 k1)
def haX (d : gD) (h t : Int) : Int := if (0 ≤ h ∧ h < d 0 2) ∧ (0 ≤ t ∧ t < d 0 1) then hsD d h t else -1
def rhX (V : gV) (M : Nat) (h t : Int) : Int := if (0 ≤ h ∧ h < V M 12) ∧ (0 ≤ t ∧ t < V M 5) then V (M + 9) (120 * h + t) else -1
theorem ha_rh (hM : MI V M) (h : dEq d (V M 4) (V M 5) (fun i => V (M + 4) i)) {a t : Int} : haX d a t = rhX V M a t := by
  obtain ⟨K, rq, _⟩ := hp_eq hM h
  unfold haX rhX
  rw [K, h.2.1]
  by_cases z : (0 ≤ a ∧ a < V M 12) ∧ (0 ≤ t ∧ t < V M 5)
  · rw [if_pos z, if_pos z]; exact rq a z.1.1 z.1.2 t z.2.1 z.2.2
  · rw [if_neg z, if_neg z]
theorem holdsTurn_e (ly : lay4 G R y) {a t : Int} (ha : 0 ≤ a ∧ a < 300) (ht : 0 ≤ t ∧ t < 128) : cpI 2 (bt (V (y + 1) a) (V (y + 2) a) t) 59 [(4, (y : Int)), (0, a), (0, t)] G R V :=
  c_X4_holdsTurn (t_X4_holdsTurn_0 ly ⟨ha, fun _ _ => cpI_u (by omega) (holds_e ht) ⟨bt_01 _ _ _, rfl, rfl⟩⟩)
theorem has_X {dd : gD} (u : cT G R T B b g p n C D o m E) (lk : lkT T R g dd) (h300 : dd 0 2 ≤ 300) (h120 : dd 0 1 ≤ 120) (th : TH T V) {a c : Int} (ha : i32 a) (hc : i32 c) : wE T 8 (haX dd a c) 111 [(4, (B : Int)), (0, a), (0, c)] G R V := by
  have e1 := lk.2.1 _ (th (g + 1) 1)
  have e2 := lk.2.2.2.2.2.2.1 _ (th (g + 10) 0)
  have l1 : V (g + 10 + 1) a = dd 201 a := lk.2.2.2.2.2.2.2.2.1 1 (by omega) (by omega) (by omega) a _ (th (g + 10 + 1) a)
  have l2 : V (g + 10 + 2) a = dd 202 a := lk.2.2.2.2.2.2.2.2.1 2 (by omega) (by omega) (by omega) a _ (th (g + 10 + 2) a)
  have no : ¬ ((0 ≤ a ∧ a < dd 0 2) ∧ (0 ≤ c ∧ c < dd 0 1)) → (-1 : Int) = haX dd a c := fun z => by unfold haX; rw [if_neg z]
  refine c_X7_has (t_X7_has_0 u.ly ⟨b, ⟨u.rb, u.u.b.ly⟩, g, ⟨u.u.rg, u.u.g.ly⟩, bI_u (isHeap_k u.u.g.h.a.ly ha) ⟨bi32 _, fun z => ⟨_, rfl, no (by have := bi_0.mp z; omega), th⟩, fun z => bI_u (isTurn_k u.u.g.t.ly hc) ⟨bi32 _, fun z2 => ?_, fun z2 => ⟨_, rfl, no (by have := bi_0.mp z2; omega), th⟩⟩⟩⟩)
  have hz := bi_nz z
  have hz2 := bi_nz z2
  have v : haX dd a c = bt (V (g + 10 + 1) a) (V (g + 10 + 2) a) c := by
    unfold haX
    rw [if_pos (by omega), l1, l2]
  refine bI_u (holdsTurn_e u.u.g.h.a.ly (by omega) (by omega)) ⟨by rcases bt_01 (V (g + 10 + 1) a) (V (g + 10 + 2) a) c with w | w <;> omega, fun w => ⟨0, rfl, ?_, th⟩, fun w => ⟨1, rfl, ?_, th⟩⟩
  · rw [v, w]
  · rw [v]
    rcases bt_01 (V (g + 10 + 1) a) (V (g + 10 + 2) a) c with w2 | w2
    · exact absurd w2 w
    · exact w2.symm
theorem has_C (ly : lay8 G R M) (hM : MI V M) {h t : Int} (h1 : i32 h) (h2 : i32 t) : cwv 3 (fun r V' => r = some (0, rhX V M h t) ∧ V' = V) 200 [(4, (M : Int)), (0, h), (0, t)] G R V := by
  have n := MI_N hM
  have no : ¬ ((0 ≤ h ∧ h < V M 12) ∧ (0 ≤ t ∧ t < V M 5)) → rhX V M h t = -1 := fun z => by unfold rhX; rw [if_neg z]
  refine c_X8_has (t_X8_has_0 ly (cpI_u (Nat.le_refl _) (isHeap_c ly hM h1) ⟨bi32 _, fun z => ⟨by rw [no (by have := bi_0.mp z; omega)], rfl⟩, fun z => cpI_u (Nat.le_refl _) (isTurn_c ly hM h2) ⟨bi32 _, fun z2 => ?_, fun z2 => ⟨by rw [no (by have := bi_0.mp z2; omega)], rfl⟩⟩⟩))
  have a := bi_n0 z
  have b := bi_n0 z2
  have v : rhX V M h t = V (M + 9) (120 * h + t) := by unfold rhX; rw [if_pos (by omega)]
  refine ⟨by omega, by omega, by omega, fun q => ⟨fun w => ⟨by rw [v, w], rfl⟩, fun w => ⟨?_, rfl⟩⟩⟩
  rw [v]
  rcases q with q | q
  · exact absurd q w
  · rw [q]
theorem dEq_b (hM : MI V M) (h : dEq d (V M 4) (V M 5) (fun i => V (M + 4) i)) : d 0 2 ≤ 300 ∧ d 0 1 ≤ 120 := by
  have a := (hp_eq hM h).1
  have b := hM.2.1.2.1.2.1.2.1
  have c := (GC_N hM.2.1).2
  have e := h.2.1
  omega
end
