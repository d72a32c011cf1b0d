/-! turn and product, exactly -/
abbrev wE (T : gT) (d : Nat) (X : Int) (y : Nat) (as : List zV) (G : List gS) (R V : gV) : Prop := cwv d (fun r V' => ∃ v : Int, r = some (0, v) ∧ v = X ∧ TH T V') y as G R V
def tnX (d : gD) (t p : Int) : Int := if (0 ≤ t ∧ t < d 0 1) ∧ (0 ≤ p ∧ p < d 0 0) then dg (d 1 t) p else -1
def prX (d : gD) (s t : Int) : Int := if (0 ≤ s ∧ s < d 0 1) ∧ (0 ≤ t ∧ t < d 0 1) then d (2 + s) t else -1
section
variable {G G' : List gS} {R R' V V' : gV} {T T' : gT} {ow ow' : Nat → Nat} {us us' : Nat → Prop} {w w' : Nat → Nat} {W : gV} {L : Int → Int} {I : Int → gD} {B M S N g b x p n o m : Nat} {C D E : Int}
theorem turn_X {dd : gD} (u : cT G R T B b g p n C D o m E) (lk : lkT T R g dd) (hd : ∀ k, 0 ≤ k → k < dd 0 1 → 0 ≤ dd 1 k ∧ dd 1 k < 16777216) (th : TH T V) {a c : Int} (ha : i32 a) (hc : i32 c) : wE T 8 (tnX dd a c) 107 [(4, (B : Int)), (0, a), (0, c)] G R V := by
  have d0 := u.u.g.t.d0
  have ct := u.u.g.t.ct _ (th (g + 1) 1)
  have pl := (u.u.g.t.pl _).mp (th (g + 1) 0)
  have e0 := lk.1 _ (th (g + 1) 0)
  have e1 := lk.2.1 _ (th (g + 1) 1)
  refine c_X7_turn (t_X7_turn_0 u.ly ⟨b, ⟨u.rb, u.u.b.ly⟩, g, ⟨u.u.rg, u.u.g.ly⟩, bI_u (isTurn_k u.u.g.t.ly ha) ⟨bi32 _, fun h => ⟨_, rfl, ?_, th⟩, fun h => ?_⟩⟩)
  · have hb := bi_0.mp h
    unfold tnX
    rw [if_neg (by omega)]
  have hb := bi_nz h
  have no : ¬ (0 ≤ c ∧ c < dd 0 0) → (-1 : Int) = tnX dd a c := fun z => by unfold tnX; rw [if_neg (fun q => z q.2)]
  refine ⟨hc, fun z => ⟨_, rfl, no (by omega), th⟩, fun z _ => ⟨fun z1 => ⟨by omega, fun _ => ?_⟩, fun z1 => ⟨_, rfl, no (by omega), th⟩⟩⟩
  have e2 := lk.2.2.1 a _ (by omega) (by omega) (th (g + 2) a)
  refine bI_u (whereTo_e (by rw [e2]; exact hd a (by omega) (by omega)) (by omega)) ⟨_, rfl, ?_, th⟩
  unfold tnX
  rw [if_pos (by omega), e2]
theorem product_X {dd : gD} (u : cT G R T B b g p n C D o m E) (lk : lkT T R g dd) (th : TH T V) {a c : Int} (ha : i32 a) (hc : i32 c) : wE T 8 (prX dd a c) 108 [(4, (B : Int)), (0, a), (0, c)] G R V := by
  have c0 := u.u.g.t.c0
  have hD := u.u.hD
  have ct := u.u.g.t.ct _ (th (g + 1) 1)
  have e1 := lk.2.1 _ (th (g + 1) 1)
  have no : ¬ ((0 ≤ a ∧ a < dd 0 1) ∧ (0 ≤ c ∧ c < dd 0 1)) → (-1 : Int) = prX dd a c := fun z => by unfold prX; rw [if_neg z]
  refine c_X7_product (t_X7_product_0 u.ly ⟨b, ⟨u.rb, u.u.b.ly⟩, g, ⟨u.u.rg, u.u.g.ly⟩, bI_u (isTurn_k u.u.g.t.ly ha) ⟨bi32 _, fun h => ⟨_, rfl, no (by have := bi_0.mp h; omega), th⟩, fun h => bI_u (isTurn_k u.u.g.t.ly hc) ⟨bi32 _, fun h2 => ⟨_, rfl, no (by have := bi_0.mp h2; omega), th⟩, fun h2 => ?_⟩⟩⟩)
  have hb := bi_nz h
  have hb2 := bi_nz h2
  have e2 := lk.2.2.2.1 p u.u.g.t.rp a c _ (by omega) (by omega) (by omega) (by omega) (th p (a * dd 0 1 + c))
  refine bI_u (times_e u.u.g.t hD th (by omega) (by omega)) ⟨_, rfl, ?_, th⟩
  rw [e1, e2]
  unfold prX
  rw [if_pos (by omega)]
theorem cI_cTl (h : cI G R V B M S T ow us w W L I) : ∃ g p n C D o m E, cT G R T B (B + 52) g p n C D o m E ∧ lkT T R g (I 3) := by
  obtain ⟨q1, g, i, q2, q3, q4, q5⟩ := h.be
  obtain ⟨j, ej, hj⟩ := nat_i (n := 5) q2
  rw [ej] at q4
  obtain ⟨-, p, n, C, D, o, m, E, a, b, c, d, e, f⟩ := cI_g h hj q4
  exact ⟨g, p, n, C, D, o, m, E, cT.mk h.c.ly h.c.rb (bG.mk q1.1 q3 a.u (b q5.1)) h.c.mk' h.c.re, q5.2⟩
theorem opX {y : Nat} {as : List zV} {X : Int} (h : CI G R V B M S N W L I) (k : ∀ (T : gT) (g p n : Nat) (C D : Int) (o m : Nat) (E : Int), cT G R T B (B + 52) g p n C D o m E → lkT T R g (I 3) → TH T V → wE T 8 X y as G R V) : cw 8 (fun r G' R' V' => r = some (0, X) ∧ CI G' R' V' B M S N W L I) y as G R V := by
  obtain ⟨T, ow, us, w, h, hN⟩ := h
  obtain ⟨g, p, n, C, D, o, m, E, u, lk⟩ := cI_cTl h
  refine cw_mono (by omega) (k T g p n C D o m E u lk h.th) (fun r G' R' V' q => ?_)
  obtain ⟨e1, e2, v, q1, q2, q3⟩ := q
  rw [e1, e2, q1, q2]
  exact ⟨rfl, T, ow, us, w, cI_v h q3, hN⟩
/-! the reference's -/
def rtX (V : gV) (M : Nat) (t p : Int) : Int := if (0 ≤ t ∧ t < V M 5) ∧ (0 ≤ p ∧ p < V M 4) then V (M + 4) (8 * t + p) else -1
def rmX (V : gV) (M : Nat) (s t : Int) : Int := if (0 ≤ s ∧ s < V M 5) ∧ (0 ≤ t ∧ t < V M 5) then V (M + 5) (120 * s + t) else -1
theorem turn_C (ly : lay8 G R M) (hM : MI V M) {t q : Int} (h1 : i32 t) (h2 : i32 q) : cwv 3 (fun r V' => r = some (0, rtX V M t q) ∧ V' = V) 186 [(4, (M : Int)), (0, t), (0, q)] G R V := by
  have n := MI_N hM
  have no : ¬ ((0 ≤ t ∧ t < V M 5) ∧ (0 ≤ q ∧ q < V M 4)) → rtX V M t q = -1 := fun z => by unfold rtX; rw [if_neg z]
  refine c_X8_turn (t_X8_turn_0 ly (cpI_u (Nat.le_refl _) (isTurn_c ly hM h1) ⟨bi32 _, fun z => ⟨by rw [no (by have := bi_0.mp z; omega)], rfl⟩, fun z => ⟨h2, fun _ => ⟨by omega, cpI_u (by omega) (in_c (i32_64 h2) ⟨by omega, by omega⟩ ⟨by omega, by omega⟩) ⟨bi32 _, fun z2 => ⟨by rw [no (by have := bi_0.mp z2; omega)], rfl⟩, fun z2 => ?_⟩⟩⟩⟩))
  have a := bi_n0 z
  have b := bi_n0 z2
  exact ⟨by omega, by omega, by omega, fun _ => ⟨by unfold rtX; rw [if_pos (by omega)], rfl⟩⟩
theorem product_C (ly : lay8 G R M) (hM : MI V M) {s t : Int} (h1 : i32 s) (h2 : i32 t) : cwv 3 (fun r V' => r = some (0, rmX V M s t) ∧ V' = V) 187 [(4, (M : Int)), (0, s), (0, t)] G R V := by
  have n := MI_N hM
  have no : ¬ ((0 ≤ s ∧ s < V M 5) ∧ (0 ≤ t ∧ t < V M 5)) → rmX V M s t = -1 := fun z => by unfold rmX; rw [if_neg z]
  refine c_X8_product (t_X8_product_0 ly (cpI_u (Nat.le_refl _) (isTurn_c ly hM h1) ⟨bi32 _, fun z => ⟨by rw [no (by have := bi_0.mp z; omega)], rfl⟩, fun z => cpI_u (Nat.le_refl _) (isTurn_c ly hM h2) ⟨bi32 _, fun z2 => ⟨by rw [no (by have := bi_0.mp z2; omega)], rfl⟩, fun z2 => ?_⟩⟩))
  have a := bi_n0 z
  have b := bi_n0 z2
  exact ⟨by omega, by omega, by omega, fun _ => ⟨by unfold rmX; rw [if_pos (by omega)], rfl⟩⟩
theorem tn_rt {d : gD} (hM : MI V M) (h : dEq d (V M 4) (V M 5) (fun i => V (M + 4) i)) {t q : Int} : tnX d t q = rtX V M t q := by
  obtain ⟨a, b, c, e, _⟩ := h
  have g := hM.2.1.1.1
  unfold tnX rtX
  rw [a, b]
  by_cases z : (0 ≤ t ∧ t < V M 5) ∧ (0 ≤ q ∧ q < V M 4)
  · have n8 := g.2.1
    rw [if_pos z, if_pos z, c t z.1.1 z.1.2, rc_dg (f := fun i => V (M + 4) i) ⟨g.1, g.2.1⟩ (fun p p0 p1 => g.2.2.2.2.1 t p z.1.1 z.1.2 p0 p1) (by omega), if_pos z.2.2]
  · rw [if_neg z, if_neg z]
theorem pr_rp {d : gD} (hM : MI V M) (h : dEq d (V M 4) (V M 5) (fun i => V (M + 4) i)) {s t : Int} : prX d s t = rmX V M s t := by
  obtain ⟨a, b, c, e, _⟩ := h
  have ri := rc_ris hM.2.1.1.1 hM.2.1.1.2.1
  have mm := MI_M hM
  unfold prX rmX
  rw [b]
  by_cases z : (0 ≤ s ∧ s < V M 5) ∧ (0 ≤ t ∧ t < V M 5)
  · rw [if_pos z, if_pos z]
    have m1 := e s t z.1.1 z.1.2 z.2.1 z.2.2
    have m2 := mm s t z.1.1 z.1.2 z.2.1 z.2.2
    refine ris_inj ri ⟨m1.1, m1.2.1⟩ ⟨m2.1, m2.2.1⟩ ?_
    have m3 := m2.2.2
    rw [← c _ m1.1 m1.2.1]
    refine Eq.trans m1.2.2 ?_
    rw [c s z.1.1 z.1.2, c t z.2.1 z.2.2]
    exact m3.symm
  · rw [if_neg z, if_neg z]
theorem dEq_c0 {d : gD} (hM : MI V M) (h : dEq d (V M 4) (V M 5) (fun i => V (M + 4) i)) : ∀ k, 0 ≤ k → k < d 0 1 → 0 ≤ d 1 k ∧ d 1 k < 16777216 := by
  intro k k0 k1
  rw [h.2.1] at k1
  rw [h.2.2.1 k k0 k1]
  exact rc_c0 hM.2.1.1.1 ⟨k0, k1⟩
end
