def CI (G : List gS) (R V : gV) (B M S N : Nat) (W : gV) (L : Int → Int) (I : Int → gD) : Prop := ∃ T ow us w, cI G R V B M S T ow us w W L I ∧ G.length ≤ N
abbrev isB (R : gV) (B b : Nat) : Prop := b = B + 52 ∨ ∃ k : Nat, k < 3 ∧ R (B + 20) (k : Int) = (b : Int)
theorem pig4 : ∀ a b c d e : Fin 4, a = b ∨ a = c ∨ a = d ∨ a = e ∨ b = c ∨ b = d ∨ b = e ∨ c = d ∨ c = e ∨ d = e := by decide +kernel
section
variable {G G' : List gS} {R R' V V' : gV} {T T' : gT} {ow ow' : Nat → Nat} {us us' : Nat → Prop} {w w' : Nat → Nat} {W : gV} {L : Int → Int} {I : Int → gD} {B M S N g b x A : Nat}
theorem cI_cT (h : cI G R V B M S T ow us w W L I) : ∃ g p n C D o m E, cT G R T B (B + 52) g p n C D o m E := by
  obtain ⟨q1, g, i, q2, q3, q4, q5⟩ := h.be
  obtain ⟨j, ej, hj⟩ := nat_i (n := 5) q2
  rw [ej] at q4
  obtain ⟨-, p, n, C, D, o, m, E, a, b, c, d, e, f⟩ := cI_g h hj q4
  exact ⟨g, p, n, C, D, o, m, E, cT.mk h.c.ly h.c.rb (bG.mk q1.1 q3 a.u (b q5.1)) h.c.mk' h.c.re⟩
theorem opI {y : Nat} {as : List zV} (h : CI G R V B M S N W L I) (k : ∀ (T : gT) (g p n : Nat) (C D : Int) (o m : Nat) (E : Int), cT G R T B (B + 52) g p n C D o m E → TH T V → oI T y as G R V) : cw 8 (fun r G' R' V' => ∃ v : Int, r = some (0, v) ∧ i32 v ∧ CI G' R' V' B M S N W L I) y as G R V := by
  obtain ⟨T, ow, us, w, h, hN⟩ := h
  obtain ⟨g, p, n, C, D, o, m, E, u⟩ := cI_cT h
  refine cw_mono (by omega) (k T g p n C D o m E u h.th) (fun r G' R' V' q => ?_)
  obtain ⟨e1, e2, v, q1, q2, q3⟩ := q
  rw [e1, e2]
  exact ⟨v, q1, q2, T, ow, us, w, cI_v h q3, hN⟩
theorem opJ {y : Nat} {as : List zV} (h : CI G R V B M S N W L I) (k : ∀ (T : gT) (g p n : Nat) (C D : Int) (o m : Nat) (E : Int), cT G R T B (B + 52) g p n C D o m E → TH T V → oJ T y as G R V) : cw 8 (fun r G' R' V' => ∃ v : Int, r = some (2, v) ∧ i64 v ∧ CI G' R' V' B M S N W L I) y as G R V := by
  obtain ⟨T, ow, us, w, h, hN⟩ := h
  obtain ⟨g, p, n, C, D, o, m, E, u⟩ := cI_cT h
  refine cw_mono (by omega) (k T g p n C D o m E u h.th) (fun r G' R' V' q => ?_)
  obtain ⟨e1, e2, v, q1, q2, q3⟩ := q
  rw [e1, e2]
  exact ⟨v, q1, q2, T, ow, us, w, cI_v h q3, hN⟩
abbrev aX (G : List gS) (R : gV) (B M S N : Nat) (W : gV) (L : Int → Int) (I : Int → gD) (X : Int) : gP := fun r V' => ∃ q : Int, r = some (0, q) ∧ q = X ∧ CI G R V' B M S N W L I
theorem rf_K (h : cI G R V B M S T ow us w W L I) (hN : G.length ≤ N) {a X : Int} (ha : i32 a) (e : a = X) {d : Nat} (hd : 1 ≤ d := by omega) : cwv d (fun r V' => ∃ v : Int, r = some (0, v) ∧ aX G R B M S N W L I X (some (0, v)) V') 138 [(4, (B : Int)), (0, a)] G R V :=
  cwv_mono hd (refuse_k h.c.ly h.c.re h.th ha) (fun r V' q => by obtain ⟨v, q1, q2, q3⟩ := q; exact ⟨v, q1, v, rfl, q2.trans e, T, ow, us, w, cI_v h q3, hN⟩)
theorem ac_K (h : cI G R V B M S T ow us w W L I) (hN : G.length ≤ N) {a X : Int} (e : a = X) {d : Nat} (hd : 1 ≤ d := by omega) : cwv d (fun r V' => ∃ v : Int, r = some (0, v) ∧ aX G R B M S N W L I X (some (0, v)) V') 139 [(4, (B : Int)), (0, a)] G R V :=
  cwv_mono hd (accept_k h.c.ly h.c.re h.th) (fun r V' q => by obtain ⟨v, q1, q2, q3⟩ := q; exact ⟨v, q1, v, rfl, q2.trans e, T, ow, us, w, cI_v h q3, hN⟩)
/-- what the pins of the sheets become -/
def shL (L : Int → Int) (s sort n : Int) : Int → Int := fun j =>
  if ¬ ((0 ≤ s ∧ s ≤ 3) ∧ (0 ≤ sort ∧ sort ≤ 2) ∧ n ≤ 8) then L j
  else if j = s then (if n < 0 then -1 else n)
  else if n < 0 then L j
  else if j = 10 + s then sort
  else if 100 + 8 * s ≤ j ∧ j < 108 + 8 * s then 0
  else L j
theorem sheet_K (h : CI G R V B M S N W L I) {s sort n : Int} (h1 : i32 s) (h2 : i32 sort) (h3 : i32 n) : cwv 2 (aX G R B M S N W (shL L s sort n) I (shA s sort n)) 103 [(4, (B : Int)), (0, s), (0, sort), (0, n)] G R V := by
  obtain ⟨T, ow, us, w, h, hN⟩ := h
  have no : (¬ (0 ≤ s ∧ s ≤ 3) ∨ ¬ (0 ≤ sort ∧ sort ≤ 2) ∨ 8 < n) → cwv 1 (fun r V' => ∃ v : Int, r = some (0, v) ∧ aX G R B M S N W (shL L s sort n) I (shA s sort n) (some (0, v)) V') 138 [(4, (B : Int)), (0, -1)] G R V := by
    intro z
    have e : shL L s sort n = L := by
      funext i
      unfold shL
      rw [if_pos (by omega)]
    rw [e]
    exact rf_K h hN (by omega) (by unfold shA; rw [if_pos z])
  refine c_X7_sheet (t_X7_sheet_0 h.c.ly ⟨h1, fun z => no (by omega), fun z => ⟨fun z => no (by omega), fun z1 => ⟨h2, fun z => no (by omega), fun z2 => ⟨fun z => no (by omega), fun z3 => ⟨h3, fun z4 => ?_, fun z => no (by omega)⟩⟩⟩⟩⟩)
  obtain ⟨k, ek, hk⟩ := nat_i (i := s) (n := 4) (by omega)
  obtain ⟨q1, q2, q3, q4, q5⟩ := h.c.sh k hk
  have th0 : TH (shT T (B + 21 + 2 * k)) V := shT_th h.th
  have eA : shA s sort n = if n < 0 then -4 else n := by unfold shA; rw [if_neg (by omega)]
  have ok : ¬ ¬ ((0 ≤ s ∧ s ≤ 3) ∧ (0 ≤ sort ∧ sort ≤ 2) ∧ n ≤ 8) := by omega
  have v1 : V (B + 21 + 2 * k) 1 = L (10 + k) := (q3 _).mp (h.th _ _)
  have v3 : ∀ i, 0 ≤ i → i < 8 → V (B + 21 + 2 * k + 1) i = L (100 + 8 * k + i) := fun i i0 i1 => (q5 i _).mp (h.th _ _) i0 i1
  have oth : ∀ j : Nat, j < 4 → j ≠ k → shL L s sort n j = L j ∧ shL L s sort n (10 + j) = L (10 + j) ∧ ∀ i, 0 ≤ i → i < 8 → shL L s sort n (100 + 8 * j + i) = L (100 + 8 * j + i) := by
    intro j hj nj
    have u : ∀ y : Int, y ≠ s → y ≠ 10 + s → ¬ (100 + 8 * s ≤ y ∧ y < 108 + 8 * s) → shL L s sort n y = L y := by
      intro y y1 y2 y3
      unfold shL
      rw [if_neg ok, if_neg y1, if_neg y2, if_neg y3]
      split <;> rfl
    exact ⟨u _ (by omega) (by omega) (by omega), u _ (by omega) (by omega) (by omega), fun i i0 i1 => u _ (by omega) (by omega) (by omega)⟩
  have o2 : shL L s sort n 200 = L 200 := by
    unfold shL
    rw [if_neg ok, if_neg (by omega), if_neg (show ¬ (200 : Int) = 10 + s by omega), if_neg (show ¬ (100 + 8 * s ≤ 200 ∧ (200 : Int) < 108 + 8 * s) by omega)]
    split <;> rfl
  rw [eA]
  refine ⟨fun z5 => ⟨by omega, B + 21 + 2 * k, ⟨by rw [ek]; exact q1, q2⟩, ?_⟩, fun z5 => ⟨by omega, B + 21 + 2 * k, ⟨by rw [ek]; exact q1, q2⟩, ?_⟩⟩
  · rw [if_neg z5]
    refine cwv_mono (Nat.le_refl _) (lay_k q2 h2 h3 th0 (fun i v => shT_s (Or.inl rfl)) (fun i v => shT_s (Or.inr rfl))) (fun r V1 hr => ?_)
    obtain ⟨er, th1, a1, a2, a3⟩ := hr
    obtain ⟨T2, c2⟩ := cI_sheet (L' := shL L s sort n) h hk th1 (by rw [a1]; unfold shL; rw [if_neg ok, if_neg (by omega), if_neg z5, if_pos (by omega)]) (by rw [a2]; unfold shL; rw [if_neg ok, if_pos (by omega), if_neg z5]) (fun i i0 i1 => by rw [a3 i i0 i1]; unfold shL; rw [if_neg ok, if_neg (by omega), if_neg z5, if_neg (by omega), if_pos (by omega)]) oth o2
    exact ⟨er, ac_K c2 hN rfl⟩
  · rw [if_pos z5]
    refine cwv_mono (Nat.le_refl _) (takeAway_k q2) (fun r V1 hr => ?_)
    obtain ⟨T2, c2⟩ := cI_sheet (V' := V1) (L' := shL L s sort n) h hk (by rw [hr.2]; exact TH_wr th0 (shT_s (Or.inl rfl))) (by rw [hr.2, wr_i (by omega), v1]; unfold shL; rw [if_neg ok, if_neg (by omega), if_pos z5]) (by rw [hr.2, wr_same]; unfold shL; rw [if_neg ok, if_pos (by omega), if_pos z5]) (fun i i0 i1 => by rw [hr.2, wr_a (by omega), v3 i i0 i1]; unfold shL; rw [if_neg ok, if_neg (by omega), if_pos z5]) oth o2
    exact ⟨hr.1, rf_K c2 hN (by omega) rfl⟩
def wrL (L : Int → Int) (s i : Int) : Int := if ¬ (0 ≤ s ∧ s ≤ 3) then -1 else if L s = -1 then -2 else if ¬ (0 ≤ i ∧ i ≤ L s - 1) then -3 else 0
def wnL (L : Int → Int) (s i v : Int) : Int → Int := fun j => if wrL L s i = 0 ∧ j = 100 + 8 * s + i then wrV (L (10 + s)) v else L j
theorem write_K (h : CI G R V B M S N W L I) (hL : ∀ s, 0 ≤ s → s ≤ 3 → L s ≤ 8) {s i v : Int} (h1 : i32 s) (h2 : i32 i) (h3 : i32 v) : cwv 2 (aX G R B M S N W (wnL L s i v) I (wrL L s i)) 104 [(4, (B : Int)), (0, s), (0, i), (0, v)] G R V := by
  obtain ⟨T, ow, us, w, h, hN⟩ := h
  have nn : ¬ wrL L s i = 0 → wnL L s i v = L := fun z => by funext j; unfold wnL; rw [if_neg (fun q => z q.1)]
  have no : ∀ c, i32 c → c = wrL L s i → ¬ c = 0 → cwv 1 (fun r V' => ∃ x : Int, r = some (0, x) ∧ aX G R B M S N W (wnL L s i v) I (wrL L s i) (some (0, x)) V') 138 [(4, (B : Int)), (0, c)] G R V := fun c hc e z => by rw [nn (by omega)]; exact rf_K h hN hc e
  refine c_X7_write (t_X7_write_0 h.c.ly ⟨h1, fun z => no (-1) (by omega) (by unfold wrL; rw [if_pos (by omega)]) (by omega), fun z => ⟨fun z1 => ?_, fun z => no (-1) (by omega) (by unfold wrL; rw [if_pos (by omega)]) (by omega)⟩⟩)
  obtain ⟨k, ek, hk⟩ := nat_i (i := s) (n := 4) (by omega)
  obtain ⟨q1, q2, q3, q4, q5⟩ := h.c.sh k hk
  have eV : V (B + 21 + 2 * k) 2 = L s := by rw [ek]; exact (q4 _).mp (h.th _ _)
  have v1 : V (B + 21 + 2 * k) 1 = L (10 + s) := by rw [ek]; exact (q3 _).mp (h.th _ _)
  have v3 : ∀ i, 0 ≤ i → i < 8 → V (B + 21 + 2 * k + 1) i = L (100 + 8 * s + i) := fun i i0 i1 => by rw [ek]; exact (q5 i _).mp (h.th _ _) i0 i1
  have l8 := hL s (by omega) (by omega)
  have n1 : ¬ ¬ (0 ≤ s ∧ s ≤ 3) := by omega
  refine ⟨by omega, B + 21 + 2 * k, ⟨by rw [ek]; exact q1, q2⟩, bI_u (isMissing_k q2) ⟨bi32 _, fun z2 => ?_, fun z2 => no (-2) (by omega) ?_ (by omega)⟩⟩
  · have z2 := bi_0.mp z2
    rw [eV] at z2
    refine cwv_mono (Nat.le_refl _) (put_k q2 h2 h3 (shT_th h.th) (fun i v => shT_s (Or.inr rfl))) (fun r V1 hr => ?_)
    obtain ⟨q, e1, e2, th1, e3, e4⟩ := hr
    have c2 : ∃ T2, cI G R V1 B M S T2 ow us w W (wnL L s i v) I := by
      refine cI_sheet (L' := wnL L s i v) h hk th1 ?_ ?_ (fun j j0 j1 => ?_) (fun j hj nj => ?_) (by
        unfold wnL
        rw [if_neg]
        rintro ⟨w1, w2⟩
        have y0 : 0 ≤ i ∧ i ≤ L s - 1 := by
          apply Classical.byContradiction
          intro y
          unfold wrL at w1
          rw [if_neg n1, if_neg z2, if_pos y] at w1
          omega
        omega)
      · rw [e3, v1]
        unfold wnL
        rw [if_neg, ek]
        rintro ⟨w1, w2⟩
        have : ¬ (i < 0) := fun y => by unfold wrL at w1; rw [if_neg n1, if_neg z2, if_pos (by omega)] at w1; omega
        omega
      · rw [e3, eV]
        unfold wnL
        rw [if_neg, ek]
        rintro ⟨w1, w2⟩
        have : ¬ (i < 0) := fun y => by unfold wrL at w1; rw [if_neg n1, if_neg z2, if_pos (by omega)] at w1; omega
        omega
      · rw [e4, eV, v1, v3 j j0 j1, ← ek]
        unfold wnL
        by_cases y : wrL L s i = 0 ∧ 100 + 8 * s + j = 100 + 8 * s + i
        · have : 0 ≤ i ∧ i ≤ L s - 1 := by
            apply Classical.byContradiction
            intro y2
            have w1 := y.1
            unfold wrL at w1
            rw [if_neg n1, if_neg z2, if_pos y2] at w1
            omega
          rw [if_pos (by omega), if_pos y]
        · rw [if_neg y, if_neg]
          rintro ⟨y1, y2⟩
          refine y ⟨?_, by omega⟩
          unfold wrL
          rw [if_neg n1, if_neg z2, if_neg (by omega)]
      · have u : ∀ y : Int, ¬ (wrL L s i = 0 ∧ y = 100 + 8 * s + i) → wnL L s i v y = L y := fun y z => by unfold wnL; rw [if_neg z]
        have ir : wrL L s i = 0 → 0 ≤ i ∧ i < 8 := by
          intro w1
          apply Classical.byContradiction
          intro y2
          unfold wrL at w1
          rw [if_neg n1, if_neg z2] at w1
          by_cases y3 : 0 ≤ i ∧ i ≤ L s - 1
          · omega
          · rw [if_pos y3] at w1; omega
        exact ⟨u _ (fun y => by have := ir y.1; omega), u _ (fun y => by have := ir y.1; omega), fun m m0 m1 => u _ (fun y => by have := ir y.1; omega)⟩
    obtain ⟨T2, c2⟩ := c2
    refine ⟨q, e1, by rw [e2]; exact bi32 _, fun z3 => ac_K c2 hN ?_, fun z3 => rf_K c2 hN (by omega) ?_⟩
    · rw [e2] at z3
      have z3 := bi_nz z3
      rw [eV] at z3
      unfold wrL
      rw [if_neg n1, if_neg z2, if_neg (by omega)]
    · rw [e2] at z3
      have z3 := bi_0.mp z3
      rw [eV] at z3
      unfold wrL
      rw [if_neg n1, if_neg z2, if_pos (by omega)]
  · have z2 := bi_nz z2
    rw [eV] at z2
    unfold wrL
    rw [if_neg n1, if_pos z2]
theorem bN_g {d : gD} (h : cI G R V B M S T ow us w W L I) (q : bN G R T ow us B b d) : ∃ g : Nat, R b 0 = (g : Int) ∧ lay2 G R g := by
  obtain ⟨q1, g2, j, q2, q3, q4, q5⟩ := q
  obtain ⟨j, rfl, hj⟩ := nat_i (n := 5) q2
  obtain ⟨-, p, n, C, D, o, m, E, a, _⟩ := cI_g h hj q4
  exact ⟨g2, q3, a.u.ly⟩
theorem isInUse_k (h : cI G R V B M S T ow us w W L I) (lg : lay2 G R g) : cwv 1 (fun r V' => ∃ v : Int, r = some (0, v) ∧ (v = 0 ∨ v = 1) ∧ (v = 0 → ∀ b, isB R B b → R b 0 ≠ (g : Int)) ∧ (¬ v = 0 → ∃ b, isB R B b ∧ R b 0 = (g : Int)) ∧ V' = V) 146 [(4, (B : Int)), (4, (g : Int))] G R V := by
  obtain ⟨g0, e0, l0⟩ := bN_g h h.be
  refine c_X7_isInUse (t_X7_isInUse_0 h.c.ly lg ⟨B + 52, ⟨h.c.rb, h.be.1.1.ly⟩, g0, ⟨e0, l0⟩, fun z => ?_, fun z => ⟨1, rfl, by omega, by omega, fun _ => ⟨B + 52, Or.inl rfl, by rw [e0, z]⟩, rfl⟩⟩)
  refine pool1 (f := fun a => [some (4, (B : Int)), some (4, (g : Int)), some (0, a)]) (Inv := fun a => 0 ≤ a ∧ a ≤ 3 ∧ ∀ (k b : Nat), (k : Int) < a → R (B + 20) (k : Int) = (b : Int) → R b 0 ≠ (g : Int)) (μ := fun a => (3 - a).toNat) (fun a ha ih => ?_) 0 ⟨by omega, by omega, fun k b q => by omega⟩
  obtain ⟨a0, a1, a2⟩ := ha
  refine t_X7_isInUse_15 h.c.ly lg ⟨by omega, fun z1 => ⟨0, rfl, by omega, fun _ b hb => ?_, fun q => absurd rfl q, rfl⟩, fun z1 => ⟨by omega, fun z2 => ⟨by omega, ih _ ⟨by omega, by omega, ?_⟩ (by omega)⟩, fun z2 => ?_⟩⟩
  · rcases hb with hb | ⟨k, hk, e⟩
    · rw [hb, e0]; omega
    · exact a2 k b (by omega) e
  · intro k b q e
    by_cases ek : (k : Int) = a
    · rw [ek] at e; omega
    · exact a2 k b (by omega) e
  · obtain ⟨k, ek, hk⟩ := nat_i (i := a) (n := 3) (by omega)
    rcases h.im k hk with q | ⟨b2, q, _, _, q2⟩
    · rw [ek] at z2; omega
    · obtain ⟨g1, e1, l1⟩ := bN_g h q2
      refine ⟨b2, ⟨by rw [ek]; exact q, q2.1.1.ly⟩, g1, ⟨e1, l1⟩, fun z3 => ⟨by omega, ih _ ⟨by omega, by omega, ?_⟩ (by omega)⟩, fun z3 => ⟨1, rfl, by omega, by omega, fun _ => ⟨b2, Or.inr ⟨k, hk, q⟩, by rw [e1, z3]⟩, rfl⟩⟩
      intro k' b' q' e'
      by_cases ek' : (k' : Int) = a
      · rw [ek', ek, q] at e'
        have : b2 = b' := by omega
        rw [← this, e1]; omega
      · exact a2 k' b' (by omega) e'
end
