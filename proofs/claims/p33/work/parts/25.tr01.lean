theorem t_X8_isAhead_0 {d : Nat} {P : gP} {p0 : Nat} {x1 : Int} {x2 : Int} {G : List gS} {R V : gV} (l0 : lay8 G R p0) (w : ((0 ≤ x1 ∧ x1 < 301) ∧ ((i32 (V (p0 + 10) x1)) → ((0 ≤ x2 ∧ x2 < 301) ∧ ((i32 (V (p0 + 10) x2)) → ((((V (p0 + 10) x1) = (V (p0 + 10) x2)) → wpv K_X8_isAhead d P 38 [some (4, (p0 : Int)), some (0, x1), some (0, x2), some (0, 0)] [] G R V) ∧ ((¬ (V (p0 + 10) x1) = (V (p0 + 10) x2)) → (((¬ (V (p0 + 10) x1) < (V (p0 + 10) x2)) → P (some (0, 0)) V) ∧ (((V (p0 + 10) x1) < (V (p0 + 10) x2)) → P (some (0, 1)) V))))))))) : wpv K_X8_isAhead d P 0 [some (4, (p0 : Int)), some (0, x1), some (0, x2)] [] G R V := by
  refine wp_ld (i := (.aload_n 0)) (4, (p0 : Int)) rfl rfl (fun _ => rfl) rfl rfl (?_ : wpv K_X8_isAhead d P 1 [some (4, (p0 : Int)), some (0, x1), some (0, x2)] [(4, (p0 : Int))] G R V)
  refine wp_getA (k := 15) rfl rfl rfl (ly8_o l0) rfl rfl (ly8_15 l0).1 (?_ : wpv K_X8_isAhead d P 4 [some (4, (p0 : Int)), some (0, x1), some (0, x2)] [(4, ((p0 + 10 : Nat) : Int))] G R V)
  refine wp_ld (i := (.iload_n 1)) (0, x1) rfl rfl (fun _ => rfl) rfl rfl (?_ : wpv K_X8_isAhead d P 5 [some (4, (p0 : Int)), some (0, x1), some (0, x2)] [(0, x1), (4, ((p0 + 10 : Nat) : Int))] G R V)
  obtain ⟨s1, w⟩ := w
  refine wp_rng (fun vr2 => ?_)
  have f3 : i32 (V (p0 + 10) x1) := vr_a0 vr2 (ly8_15 l0).2 s1
  replace w := w f3
  refine wp_aI rfl rfl (ly8_15 l0).2 s1 (?_ : wpv K_X8_isAhead d P 6 [some (4, (p0 : Int)), some (0, x1), some (0, x2)] [(0, (V (p0 + 10) x1))] G R V)
  refine wp_ld (i := (.aload_n 0)) (4, (p0 : Int)) rfl rfl (fun _ => rfl) rfl rfl (?_ : wpv K_X8_isAhead d P 7 [some (4, (p0 : Int)), some (0, x1), some (0, x2)] [(4, (p0 : Int)), (0, (V (p0 + 10) x1))] G R V)
  refine wp_getA (k := 15) rfl rfl rfl (ly8_o l0) rfl rfl (ly8_15 l0).1 (?_ : wpv K_X8_isAhead d P 10 [some (4, (p0 : Int)), some (0, x1), some (0, x2)] [(4, ((p0 + 10 : Nat) : Int)), (0, (V (p0 + 10) x1))] G R V)
  refine wp_ld (i := (.iload_n 2)) (0, x2) rfl rfl (fun _ => rfl) rfl rfl (?_ : wpv K_X8_isAhead d P 11 [some (4, (p0 : Int)), some (0, x1), some (0, x2)] [(0, x2), (4, ((p0 + 10 : Nat) : Int)), (0, (V (p0 + 10) x1))] G R V)
  obtain ⟨s4, w⟩ := w
  have f5 : i32 (V (p0 + 10) x2) := vr_a0 vr2 (ly8_15 l0).2 s4
  replace w := w f5
  refine wp_aI rfl rfl (ly8_15 l0).2 s4 (?_ : wpv K_X8_isAhead d P 12 [some (4, (p0 : Int)), some (0, x1), some (0, x2)] [(0, (V (p0 + 10) x2)), (0, (V (p0 + 10) x1))] G R V)
  refine wp_icmp (c := .eq) 36 rfl rfl rfl f3 f5 (fun q => ?_) (fun q => ?_)
  · have q : (V (p0 + 10) x1) = (V (p0 + 10) x2) := q
    replace w := w.1 q
    show wpv K_X8_isAhead d P 36 [some (4, (p0 : Int)), some (0, x1), some (0, x2)] [] G R V
    refine wp_p (i := (.iconst 0)) rfl rfl (fun _ _ _ => rfl) (?_ : wpv K_X8_isAhead d P 37 [some (4, (p0 : Int)), some (0, x1), some (0, x2)] [(0, 0)] G R V)
    refine wp_sto (i := (.istore_n 3)) _ rfl rfl (fun _ => rfl) rfl rfl rfl ?_
    refine wp_wk (L' := [some (4, (p0 : Int)), some (0, x1), some (0, x2), some (0, 0)]) (wk_s (wk_s (wk_s (wk_s wk_0)))) ?_
    show wpv K_X8_isAhead d P 38 [some (4, (p0 : Int)), some (0, x1), some (0, x2), some (0, 0)] [] G R V
    exact wp_wk (wk_s (wk_s (wk_s (wk_s wk_0)))) w
  · have q : ¬ (V (p0 + 10) x1) = (V (p0 + 10) x2) := q
    replace w := w.2 q
    show wpv K_X8_isAhead d P 15 [some (4, (p0 : Int)), some (0, x1), some (0, x2)] [] G R V
    refine wp_ld (i := (.aload_n 0)) (4, (p0 : Int)) rfl rfl (fun _ => rfl) rfl rfl (?_ : wpv K_X8_isAhead d P 16 [some (4, (p0 : Int)), some (0, x1), some (0, x2)] [(4, (p0 : Int))] G R V)
    refine wp_getA (k := 15) rfl rfl rfl (ly8_o l0) rfl rfl (ly8_15 l0).1 (?_ : wpv K_X8_isAhead d P 19 [some (4, (p0 : Int)), some (0, x1), some (0, x2)] [(4, ((p0 + 10 : Nat) : Int))] G R V)
    refine wp_ld (i := (.iload_n 1)) (0, x1) rfl rfl (fun _ => rfl) rfl rfl (?_ : wpv K_X8_isAhead d P 20 [some (4, (p0 : Int)), some (0, x1), some (0, x2)] [(0, x1), (4, ((p0 + 10 : Nat) : Int))] G R V)
    refine wp_aI rfl rfl (ly8_15 l0).2 s1 (?_ : wpv K_X8_isAhead d P 21 [some (4, (p0 : Int)), some (0, x1), some (0, x2)] [(0, (V (p0 + 10) x1))] G R V)
    refine wp_ld (i := (.aload_n 0)) (4, (p0 : Int)) rfl rfl (fun _ => rfl) rfl rfl (?_ : wpv K_X8_isAhead d P 22 [some (4, (p0 : Int)), some (0, x1), some (0, x2)] [(4, (p0 : Int)), (0, (V (p0 + 10) x1))] G R V)
    refine wp_getA (k := 15) rfl rfl rfl (ly8_o l0) rfl rfl (ly8_15 l0).1 (?_ : wpv K_X8_isAhead d P 25 [some (4, (p0 : Int)), some (0, x1), some (0, x2)] [(4, ((p0 + 10 : Nat) : Int)), (0, (V (p0 + 10) x1))] G R V)
    refine wp_ld (i := (.iload_n 2)) (0, x2) rfl rfl (fun _ => rfl) rfl rfl (?_ : wpv K_X8_isAhead d P 26 [some (4, (p0 : Int)), some (0, x1), some (0, x2)] [(0, x2), (4, ((p0 + 10 : Nat) : Int)), (0, (V (p0 + 10) x1))] G R V)
    refine wp_aI rfl rfl (ly8_15 l0).2 s4 (?_ : wpv K_X8_isAhead d P 27 [some (4, (p0 : Int)), some (0, x1), some (0, x2)] [(0, (V (p0 + 10) x2)), (0, (V (p0 + 10) x1))] G R V)
    refine wp_icmp (c := .ge) 34 rfl rfl rfl f3 f5 (fun q => ?_) (fun q => ?_)
    · have q : ¬ (V (p0 + 10) x1) < (V (p0 + 10) x2) := q
      replace w := w.1 q
      show wpv K_X8_isAhead d P 34 [some (4, (p0 : Int)), some (0, x1), some (0, x2)] [] G R V
      refine wp_p (i := (.iconst 0)) rfl rfl (fun _ _ _ => rfl) (?_ : wpv K_X8_isAhead d P 35 [some (4, (p0 : Int)), some (0, x1), some (0, x2)] [(0, 0)] G R V)
      exact wp_rB rfl rfl rfl (by omega) w
    · have q : (V (p0 + 10) x1) < (V (p0 + 10) x2) := Decidable.not_not.mp q
      replace w := w.2 q
      show wpv K_X8_isAhead d P 30 [some (4, (p0 : Int)), some (0, x1), some (0, x2)] [] G R V
      refine wp_p (i := (.iconst 1)) rfl rfl (fun _ _ _ => rfl) (?_ : wpv K_X8_isAhead d P 31 [some (4, (p0 : Int)), some (0, x1), some (0, x2)] [(0, 1)] G R V)
      refine wp_go 35 rfl rfl rfl (?_ : wpv K_X8_isAhead d P 35 [some (4, (p0 : Int)), some (0, x1), some (0, x2)] [(0, 1)] G R V)
      exact wp_rB rfl rfl rfl (by omega) w

theorem t_X8_isAhead_38 {d : Nat} {P : gP} {p0 : Nat} {x1 : Int} {x2 : Int} {x3 : Int} {G : List gS} {R V : gV} (l0 : lay8 G R p0) (w : ((i32 (V p0 5)) → ((i32 x3) ∧ (((¬ x3 < (V p0 5)) → P (some (0, 0)) V) ∧ ((x3 < (V p0 5)) → ((i32 (120 * x1)) ∧ ((i32 ((120 * x1) + x3)) ∧ ((0 ≤ ((120 * x1) + x3) ∧ ((120 * x1) + x3) < 36120) ∧ (((V (p0 + 9) (((120 * x1) + x3))) = 0 ∨ (V (p0 + 9) (((120 * x1) + x3))) = 1) → ((i32 (120 * x2)) ∧ ((i32 ((120 * x2) + x3)) ∧ ((0 ≤ ((120 * x2) + x3) ∧ ((120 * x2) + x3) < 36120) ∧ (((V (p0 + 9) (((120 * x2) + x3))) = 0 ∨ (V (p0 + 9) (((120 * x2) + x3))) = 1) → ((((V (p0 + 9) (((120 * x1) + x3))) = (V (p0 + 9) (((120 * x2) + x3)))) → ((i32 (x3 + 1)) ∧ wpv K_X8_isAhead d P 38 [some (4, (p0 : Int)), some (0, x1), some (0, x2), some (0, (x3 + 1))] [] G R V)) ∧ ((¬ (V (p0 + 9) (((120 * x1) + x3))) = (V (p0 + 9) (((120 * x2) + x3)))) → P (some (0, (V (p0 + 9) (((120 * x1) + x3))))) V))))))))))))))) : wpv K_X8_isAhead d P 38 [some (4, (p0 : Int)), some (0, x1), some (0, x2), some (0, x3)] [] G R V := by
  refine wp_ld (i := (.iload_n 3)) (0, x3) rfl rfl (fun _ => rfl) rfl rfl (?_ : wpv K_X8_isAhead d P 39 [some (4, (p0 : Int)), some (0, x1), some (0, x2), some (0, x3)] [(0, x3)] G R V)
  refine wp_ld (i := (.aload_n 0)) (4, (p0 : Int)) rfl rfl (fun _ => rfl) rfl rfl (?_ : wpv K_X8_isAhead d P 40 [some (4, (p0 : Int)), some (0, x1), some (0, x2), some (0, x3)] [(4, (p0 : Int)), (0, x3)] G R V)
  refine wp_rng (fun vr1 => ?_)
  have f2 : i32 (V p0 5) := vr_f0 vr1 (ly8_o l0) rfl rfl
  replace w := w f2
  refine wp_getI (k := 5) rfl rfl rfl (ly8_o l0) rfl rfl (?_ : wpv K_X8_isAhead d P 43 [some (4, (p0 : Int)), some (0, x1), some (0, x2), some (0, x3)] [(0, (V p0 5)), (0, x3)] G R V)
  obtain ⟨s3, w⟩ := w
  refine wp_icmp (c := .ge) 89 rfl rfl rfl s3 f2 (fun q => ?_) (fun q => ?_)
  · have q : ¬ x3 < (V p0 5) := q
    replace w := w.1 q
    show wpv K_X8_isAhead d P 89 [some (4, (p0 : Int)), some (0, x1), some (0, x2), some (0, x3)] [] G R V
    refine wp_p (i := (.iconst 0)) rfl rfl (fun _ _ _ => rfl) (?_ : wpv K_X8_isAhead d P 90 [some (4, (p0 : Int)), some (0, x1), some (0, x2), some (0, x3)] [(0, 0)] G R V)
    exact wp_rB rfl rfl rfl (by omega) w
  · have q : x3 < (V p0 5) := Decidable.not_not.mp q
    replace w := w.2 q
    show wpv K_X8_isAhead d P 46 [some (4, (p0 : Int)), some (0, x1), some (0, x2), some (0, x3)] [] G R V
    refine wp_ld (i := (.aload_n 0)) (4, (p0 : Int)) rfl rfl (fun _ => rfl) rfl rfl (?_ : wpv K_X8_isAhead d P 47 [some (4, (p0 : Int)), some (0, x1), some (0, x2), some (0, x3)] [(4, (p0 : Int))] G R V)
    refine wp_getA (k := 14) rfl rfl rfl (ly8_o l0) rfl rfl (ly8_14 l0).1 (?_ : wpv K_X8_isAhead d P 50 [some (4, (p0 : Int)), some (0, x1), some (0, x2), some (0, x3)] [(4, ((p0 + 9 : Nat) : Int))] G R V)
    refine wp_p (i := (.bipush 120)) rfl rfl (fun _ _ _ => rfl) (?_ : wpv K_X8_isAhead d P 52 [some (4, (p0 : Int)), some (0, x1), some (0, x2), some (0, x3)] [(0, 120), (4, ((p0 + 9 : Nat) : Int))] G R V)
    refine wp_ld (i := (.iload_n 1)) (0, x1) rfl rfl (fun _ => rfl) rfl rfl (?_ : wpv K_X8_isAhead d P 53 [some (4, (p0 : Int)), some (0, x1), some (0, x2), some (0, x3)] [(0, x1), (0, 120), (4, ((p0 + 9 : Nat) : Int))] G R V)
    obtain ⟨s4, w⟩ := w
    refine wp_xmul rfl rfl s4 (?_ : wpv K_X8_isAhead d P 54 [some (4, (p0 : Int)), some (0, x1), some (0, x2), some (0, x3)] [(0, (120 * x1)), (4, ((p0 + 9 : Nat) : Int))] G R V)
    refine wp_ld (i := (.iload_n 3)) (0, x3) rfl rfl (fun _ => rfl) rfl rfl (?_ : wpv K_X8_isAhead d P 55 [some (4, (p0 : Int)), some (0, x1), some (0, x2), some (0, x3)] [(0, x3), (0, (120 * x1)), (4, ((p0 + 9 : Nat) : Int))] G R V)
    obtain ⟨s5, w⟩ := w
    refine wp_xadd rfl rfl s5 (?_ : wpv K_X8_isAhead d P 56 [some (4, (p0 : Int)), some (0, x1), some (0, x2), some (0, x3)] [(0, ((120 * x1) + x3)), (4, ((p0 + 9 : Nat) : Int))] G R V)
    obtain ⟨s6, w⟩ := w
    have f7 : (V (p0 + 9) (((120 * x1) + x3))) = 0 ∨ (V (p0 + 9) (((120 * x1) + x3))) = 1 := vr_a2 vr1 (ly8_14 l0).2 s6
    replace w := w f7
    have f8 : i32 (V (p0 + 9) (((120 * x1) + x3))) := by unfold i32; omega
    refine wp_aB rfl rfl (ly8_14 l0).2 s6 (?_ : wpv K_X8_isAhead d P 57 [some (4, (p0 : Int)), some (0, x1), some (0, x2), some (0, x3)] [(0, (V (p0 + 9) (((120 * x1) + x3))))] G R V)
    refine wp_ld (i := (.aload_n 0)) (4, (p0 : Int)) rfl rfl (fun _ => rfl) rfl rfl (?_ : wpv K_X8_isAhead d P 58 [some (4, (p0 : Int)), some (0, x1), some (0, x2), some (0, x3)] [(4, (p0 : Int)), (0, (V (p0 + 9) (((120 * x1) + x3))))] G R V)
    refine wp_getA (k := 14) rfl rfl rfl (ly8_o l0) rfl rfl (ly8_14 l0).1 (?_ : wpv K_X8_isAhead d P 61 [some (4, (p0 : Int)), some (0, x1), some (0, x2), some (0, x3)] [(4, ((p0 + 9 : Nat) : Int)), (0, (V (p0 + 9) (((120 * x1) + x3))))] G R V)
    refine wp_p (i := (.bipush 120)) rfl rfl (fun _ _ _ => rfl) (?_ : wpv K_X8_isAhead d P 63 [some (4, (p0 : Int)), some (0, x1), some (0, x2), some (0, x3)] [(0, 120), (4, ((p0 + 9 : Nat) : Int)), (0, (V (p0 + 9) (((120 * x1) + x3))))] G R V)
    refine wp_ld (i := (.iload_n 2)) (0, x2) rfl rfl (fun _ => rfl) rfl rfl (?_ : wpv K_X8_isAhead d P 64 [some (4, (p0 : Int)), some (0, x1), some (0, x2), some (0, x3)] [(0, x2), (0, 120), (4, ((p0 + 9 : Nat) : Int)), (0, (V (p0 + 9) (((120 * x1) + x3))))] G R V)
    obtain ⟨s9, w⟩ := w
    refine wp_xmul rfl rfl s9 (?_ : wpv K_X8_isAhead d P 65 [some (4, (p0 : Int)), some (0, x1), some (0, x2), some (0, x3)] [(0, (120 * x2)), (4, ((p0 + 9 : Nat) : Int)), (0, (V (p0 + 9) (((120 * x1) + x3))))] G R V)
    refine wp_ld (i := (.iload_n 3)) (0, x3) rfl rfl (fun _ => rfl) rfl rfl (?_ : wpv K_X8_isAhead d P 66 [some (4, (p0 : Int)), some (0, x1), some (0, x2), some (0, x3)] [(0, x3), (0, (120 * x2)), (4, ((p0 + 9 : Nat) : Int)), (0, (V (p0 + 9) (((120 * x1) + x3))))] G R V)
    obtain ⟨s10, w⟩ := w
    refine wp_xadd rfl rfl s10 (?_ : wpv K_X8_isAhead d P 67 [some (4, (p0 : Int)), some (0, x1), some (0, x2), some (0, x3)] [(0, ((120 * x2) + x3)), (4, ((p0 + 9 : Nat) : Int)), (0, (V (p0 + 9) (((120 * x1) + x3))))] G R V)
    obtain ⟨s11, w⟩ := w
    have f12 : (V (p0 + 9) (((120 * x2) + x3))) = 0 ∨ (V (p0 + 9) (((120 * x2) + x3))) = 1 := vr_a2 vr1 (ly8_14 l0).2 s11
    replace w := w f12
    have f13 : i32 (V (p0 + 9) (((120 * x2) + x3))) := by unfold i32; omega
    refine wp_aB rfl rfl (ly8_14 l0).2 s11 (?_ : wpv K_X8_isAhead d P 68 [some (4, (p0 : Int)), some (0, x1), some (0, x2), some (0, x3)] [(0, (V (p0 + 9) (((120 * x2) + x3)))), (0, (V (p0 + 9) (((120 * x1) + x3))))] G R V)
    refine wp_icmp (c := .eq) 83 rfl rfl rfl f8 f13 (fun q => ?_) (fun q => ?_)
    · have q : (V (p0 + 9) (((120 * x1) + x3))) = (V (p0 + 9) (((120 * x2) + x3))) := q
      replace w := w.1 q
      show wpv K_X8_isAhead d P 83 [some (4, (p0 : Int)), some (0, x1), some (0, x2), some (0, x3)] [] G R V
      obtain ⟨s14, w⟩ := w
      refine wp_inc (x := 3) (k := 1) (a := x3) (c := (x3 + 1)) _ rfl rfl rfl rfl s14 (by omega) rfl ?_
      show wpv K_X8_isAhead d P 86 [some (4, (p0 : Int)), some (0, x1), some (0, x2), some (0, (x3 + 1))] [] G R V
      refine wp_go 38 rfl rfl rfl (?_ : wpv K_X8_isAhead d P 38 [some (4, (p0 : Int)), some (0, x1), some (0, x2), some (0, (x3 + 1))] [] G R V)
      exact wp_wk (wk_s (wk_s (wk_s (wk_s wk_0)))) w
    · have q : ¬ (V (p0 + 9) (((120 * x1) + x3))) = (V (p0 + 9) (((120 * x2) + x3))) := q
      replace w := w.2 q
      show wpv K_X8_isAhead d P 71 [some (4, (p0 : Int)), some (0, x1), some (0, x2), some (0, x3)] [] G R V
      refine wp_ld (i := (.aload_n 0)) (4, (p0 : Int)) rfl rfl (fun _ => rfl) rfl rfl (?_ : wpv K_X8_isAhead d P 72 [some (4, (p0 : Int)), some (0, x1), some (0, x2), some (0, x3)] [(4, (p0 : Int))] G R V)
      refine wp_getA (k := 14) rfl rfl rfl (ly8_o l0) rfl rfl (ly8_14 l0).1 (?_ : wpv K_X8_isAhead d P 75 [some (4, (p0 : Int)), some (0, x1), some (0, x2), some (0, x3)] [(4, ((p0 + 9 : Nat) : Int))] G R V)
      refine wp_p (i := (.bipush 120)) rfl rfl (fun _ _ _ => rfl) (?_ : wpv K_X8_isAhead d P 77 [some (4, (p0 : Int)), some (0, x1), some (0, x2), some (0, x3)] [(0, 120), (4, ((p0 + 9 : Nat) : Int))] G R V)
      refine wp_ld (i := (.iload_n 1)) (0, x1) rfl rfl (fun _ => rfl) rfl rfl (?_ : wpv K_X8_isAhead d P 78 [some (4, (p0 : Int)), some (0, x1), some (0, x2), some (0, x3)] [(0, x1), (0, 120), (4, ((p0 + 9 : Nat) : Int))] G R V)
      refine wp_xmul rfl rfl s4 (?_ : wpv K_X8_isAhead d P 79 [some (4, (p0 : Int)), some (0, x1), some (0, x2), some (0, x3)] [(0, (120 * x1)), (4, ((p0 + 9 : Nat) : Int))] G R V)
      refine wp_ld (i := (.iload_n 3)) (0, x3) rfl rfl (fun _ => rfl) rfl rfl (?_ : wpv K_X8_isAhead d P 80 [some (4, (p0 : Int)), some (0, x1), some (0, x2), some (0, x3)] [(0, x3), (0, (120 * x1)), (4, ((p0 + 9 : Nat) : Int))] G R V)
      refine wp_xadd rfl rfl s5 (?_ : wpv K_X8_isAhead d P 81 [some (4, (p0 : Int)), some (0, x1), some (0, x2), some (0, x3)] [(0, ((120 * x1) + x3)), (4, ((p0 + 9 : Nat) : Int))] G R V)
      refine wp_aB rfl rfl (ly8_14 l0).2 s6 (?_ : wpv K_X8_isAhead d P 82 [some (4, (p0 : Int)), some (0, x1), some (0, x2), some (0, x3)] [(0, (V (p0 + 9) (((120 * x1) + x3))))] G R V)
      exact wp_rB rfl rfl rfl f7 w
theorem t_X8_changes_0 {d : Nat} {P : gP} {p0 : Nat} {x1 : Int} {x2 : Int} {G : List gS} {R V : gV} (l0 : lay8 G R p0) (w : wpv K_X8_changes d P 2 [some (4, (p0 : Int)), some (0, x1), some (0, x2), some (0, 0)] [] G R V) : wpv K_X8_changes d P 0 [some (4, (p0 : Int)), some (0, x1), some (0, x2)] [] G R V := by
  refine wp_p (i := (.iconst 0)) rfl rfl (fun _ _ _ => rfl) (?_ : wpv K_X8_changes d P 1 [some (4, (p0 : Int)), some (0, x1), some (0, x2)] [(0, 0)] G R V)
  refine wp_sto (i := (.istore_n 3)) _ rfl rfl (fun _ => rfl) rfl rfl rfl ?_
  refine wp_wk (L' := [some (4, (p0 : Int)), some (0, x1), some (0, x2), some (0, 0)]) (wk_s (wk_s (wk_s (wk_s wk_0)))) ?_
  show wpv K_X8_changes d P 2 [some (4, (p0 : Int)), some (0, x1), some (0, x2), some (0, 0)] [] G R V
  exact wp_wk (wk_s (wk_s (wk_s (wk_s wk_0)))) w

theorem t_X8_changes_2 {d : Nat} {P : gP} {p0 : Nat} {x1 : Int} {x2 : Int} {x3 : Int} {G : List gS} {R V : gV} (l0 : lay8 G R p0) (w : ((i32 (V p0 5)) → ((i32 x3) ∧ (((¬ x3 < (V p0 5)) → ((0 ≤ x1 ∧ x1 < 301) ∧ ((i32 (V (p0 + 10) x1)) → ((0 ≤ x2 ∧ x2 < 301) ∧ ((i32 (V (p0 + 10) x2)) → P none (wr (wr V (p0 + 10) x1 ((V (p0 + 10) x2))) (p0 + 10) x2 ((V (p0 + 10) x1)))))))) ∧ ((x3 < (V p0 5)) → ((i32 (120 * x1)) ∧ ((i32 ((120 * x1) + x3)) ∧ ((0 ≤ ((120 * x1) + x3) ∧ ((120 * x1) + x3) < 36120) ∧ (((V (p0 + 9) (((120 * x1) + x3))) = 0 ∨ (V (p0 + 9) (((120 * x1) + x3))) = 1) → ((i32 (120 * x2)) ∧ ((i32 ((120 * x2) + x3)) ∧ ((0 ≤ ((120 * x2) + x3) ∧ ((120 * x2) + x3) < 36120) ∧ (((V (p0 + 9) (((120 * x2) + x3))) = 0 ∨ (V (p0 + 9) (((120 * x2) + x3))) = 1) → ((i32 (x3 + 1)) ∧ wpv K_X8_changes d P 2 [some (4, (p0 : Int)), some (0, x1), some (0, x2), some (0, (x3 + 1))] [] G R (wr (wr V (p0 + 9) (((120 * x1) + x3)) ((V (p0 + 9) (((120 * x2) + x3))))) (p0 + 9) (((120 * x2) + x3)) ((V (p0 + 9) (((120 * x1) + x3))))))))))))))))))) : wpv K_X8_changes d P 2 [some (4, (p0 : Int)), some (0, x1), some (0, x2), some (0, x3)] [] G R V := by
  refine wp_ld (i := (.iload_n 3)) (0, x3) rfl rfl (fun _ => rfl) rfl rfl (?_ : wpv K_X8_changes d P 3 [some (4, (p0 : Int)), some (0, x1), some (0, x2), some (0, x3)] [(0, x3)] G R V)
  refine wp_ld (i := (.aload_n 0)) (4, (p0 : Int)) rfl rfl (fun _ => rfl) rfl rfl (?_ : wpv K_X8_changes d P 4 [some (4, (p0 : Int)), some (0, x1), some (0, x2), some (0, x3)] [(4, (p0 : Int)), (0, x3)] G R V)
  refine wp_rng (fun vr1 => ?_)
  have f2 : i32 (V p0 5) := vr_f0 vr1 (ly8_o l0) rfl rfl
  replace w := w f2
  refine wp_getI (k := 5) rfl rfl rfl (ly8_o l0) rfl rfl (?_ : wpv K_X8_changes d P 7 [some (4, (p0 : Int)), some (0, x1), some (0, x2), some (0, x3)] [(0, (V p0 5)), (0, x3)] G R V)
  obtain ⟨s3, w⟩ := w
  refine wp_icmp (c := .ge) 64 rfl rfl rfl s3 f2 (fun q => ?_) (fun q => ?_)
  · have q : ¬ x3 < (V p0 5) := q
    replace w := w.1 q
    show wpv K_X8_changes d P 64 [some (4, (p0 : Int)), some (0, x1), some (0, x2), some (0, x3)] [] G R V
    refine wp_ld (i := (.aload_n 0)) (4, (p0 : Int)) rfl rfl (fun _ => rfl) rfl rfl (?_ : wpv K_X8_changes d P 65 [some (4, (p0 : Int)), some (0, x1), some (0, x2), some (0, x3)] [(4, (p0 : Int))] G R V)
    refine wp_getA (k := 15) rfl rfl rfl (ly8_o l0) rfl rfl (ly8_15 l0).1 (?_ : wpv K_X8_changes d P 68 [some (4, (p0 : Int)), some (0, x1), some (0, x2), some (0, x3)] [(4, ((p0 + 10 : Nat) : Int))] G R V)
    refine wp_ld (i := (.iload_n 1)) (0, x1) rfl rfl (fun _ => rfl) rfl rfl (?_ : wpv K_X8_changes d P 69 [some (4, (p0 : Int)), some (0, x1), some (0, x2), some (0, x3)] [(0, x1), (4, ((p0 + 10 : Nat) : Int))] G R V)
    obtain ⟨s4, w⟩ := w
    have f5 : i32 (V (p0 + 10) x1) := vr_a0 vr1 (ly8_15 l0).2 s4
    replace w := w f5
    refine wp_aI rfl rfl (ly8_15 l0).2 s4 (?_ : wpv K_X8_changes d P 70 [some (4, (p0 : Int)), some (0, x1), some (0, x2), some (0, x3)] [(0, (V (p0 + 10) x1))] G R V)
    refine wp_sto (i := (.istore_n 3)) _ rfl rfl (fun _ => rfl) rfl rfl rfl ?_
    refine wp_wk (L' := [some (4, (p0 : Int)), some (0, x1), some (0, x2), some (0, (V (p0 + 10) x1))]) (wk_s (wk_s (wk_s (wk_s wk_0)))) ?_
    show wpv K_X8_changes d P 71 [some (4, (p0 : Int)), some (0, x1), some (0, x2), some (0, (V (p0 + 10) x1))] [] G R V
    refine wp_ld (i := (.aload_n 0)) (4, (p0 : Int)) rfl rfl (fun _ => rfl) rfl rfl (?_ : wpv K_X8_changes d P 72 [some (4, (p0 : Int)), some (0, x1), some (0, x2), some (0, (V (p0 + 10) x1))] [(4, (p0 : Int))] G R V)
    refine wp_getA (k := 15) rfl rfl rfl (ly8_o l0) rfl rfl (ly8_15 l0).1 (?_ : wpv K_X8_changes d P 75 [some (4, (p0 : Int)), some (0, x1), some (0, x2), some (0, (V (p0 + 10) x1))] [(4, ((p0 + 10 : Nat) : Int))] G R V)
    refine wp_ld (i := (.iload_n 1)) (0, x1) rfl rfl (fun _ => rfl) rfl rfl (?_ : wpv K_X8_changes d P 76 [some (4, (p0 : Int)), some (0, x1), some (0, x2), some (0, (V (p0 + 10) x1))] [(0, x1), (4, ((p0 + 10 : Nat) : Int))] G R V)
    refine wp_ld (i := (.aload_n 0)) (4, (p0 : Int)) rfl rfl (fun _ => rfl) rfl rfl (?_ : wpv K_X8_changes d P 77 [some (4, (p0 : Int)), some (0, x1), some (0, x2), some (0, (V (p0 + 10) x1))] [(4, (p0 : Int)), (0, x1), (4, ((p0 + 10 : Nat) : Int))] G R V)
    refine wp_getA (k := 15) rfl rfl rfl (ly8_o l0) rfl rfl (ly8_15 l0).1 (?_ : wpv K_X8_changes d P 80 [some (4, (p0 : Int)), some (0, x1), some (0, x2), some (0, (V (p0 + 10) x1))] [(4, ((p0 + 10 : Nat) : Int)), (0, x1), (4, ((p0 + 10 : Nat) : Int))] G R V)
    refine wp_ld (i := (.iload_n 2)) (0, x2) rfl rfl (fun _ => rfl) rfl rfl (?_ : wpv K_X8_changes d P 81 [some (4, (p0 : Int)), some (0, x1), some (0, x2), some (0, (V (p0 + 10) x1))] [(0, x2), (4, ((p0 + 10 : Nat) : Int)), (0, x1), (4, ((p0 + 10 : Nat) : Int))] G R V)
    obtain ⟨s6, w⟩ := w
    have f7 : i32 (V (p0 + 10) x2) := vr_a0 vr1 (ly8_15 l0).2 s6
    replace w := w f7
    refine wp_aI rfl rfl (ly8_15 l0).2 s6 (?_ : wpv K_X8_changes d P 82 [some (4, (p0 : Int)), some (0, x1), some (0, x2), some (0, (V (p0 + 10) x1))] [(0, (V (p0 + 10) x2)), (0, x1), (4, ((p0 + 10 : Nat) : Int))] G R V)
    refine wp_sI rfl rfl (ly8_15 l0).2 s4 f7 (?_ : wpv K_X8_changes d P 83 [some (4, (p0 : Int)), some (0, x1), some (0, x2), some (0, (V (p0 + 10) x1))] [] G R (wr V (p0 + 10) x1 ((V (p0 + 10) x2))))
    refine wp_ld (i := (.aload_n 0)) (4, (p0 : Int)) rfl rfl (fun _ => rfl) rfl rfl (?_ : wpv K_X8_changes d P 84 [some (4, (p0 : Int)), some (0, x1), some (0, x2), some (0, (V (p0 + 10) x1))] [(4, (p0 : Int))] G R (wr V (p0 + 10) x1 ((V (p0 + 10) x2))))
    refine wp_getA (k := 15) rfl rfl rfl (ly8_o l0) rfl rfl (ly8_15 l0).1 (?_ : wpv K_X8_changes d P 87 [some (4, (p0 : Int)), some (0, x1), some (0, x2), some (0, (V (p0 + 10) x1))] [(4, ((p0 + 10 : Nat) : Int))] G R (wr V (p0 + 10) x1 ((V (p0 + 10) x2))))
    refine wp_ld (i := (.iload_n 2)) (0, x2) rfl rfl (fun _ => rfl) rfl rfl (?_ : wpv K_X8_changes d P 88 [some (4, (p0 : Int)), some (0, x1), some (0, x2), some (0, (V (p0 + 10) x1))] [(0, x2), (4, ((p0 + 10 : Nat) : Int))] G R (wr V (p0 + 10) x1 ((V (p0 + 10) x2))))
    refine wp_ld (i := (.iload_n 3)) (0, (V (p0 + 10) x1)) rfl rfl (fun _ => rfl) rfl rfl (?_ : wpv K_X8_changes d P 89 [some (4, (p0 : Int)), some (0, x1), some (0, x2), some (0, (V (p0 + 10) x1))] [(0, (V (p0 + 10) x1)), (0, x2), (4, ((p0 + 10 : Nat) : Int))] G R (wr V (p0 + 10) x1 ((V (p0 + 10) x2))))
    refine wp_sI rfl rfl (ly8_15 l0).2 s6 f5 (?_ : wpv K_X8_changes d P 90 [some (4, (p0 : Int)), some (0, x1), some (0, x2), some (0, (V (p0 + 10) x1))] [] G R (wr (wr V (p0 + 10) x1 ((V (p0 + 10) x2))) (p0 + 10) x2 ((V (p0 + 10) x1))))
    exact wp_r0 rfl rfl rfl w
  · have q : x3 < (V p0 5) := Decidable.not_not.mp q
    replace w := w.2 q
    show wpv K_X8_changes d P 10 [some (4, (p0 : Int)), some (0, x1), some (0, x2), some (0, x3)] [] G R V
    refine wp_ld (i := (.aload_n 0)) (4, (p0 : Int)) rfl rfl (fun _ => rfl) rfl rfl (?_ : wpv K_X8_changes d P 11 [some (4, (p0 : Int)), some (0, x1), some (0, x2), some (0, x3)] [(4, (p0 : Int))] G R V)
    refine wp_getA (k := 14) rfl rfl rfl (ly8_o l0) rfl rfl (ly8_14 l0).1 (?_ : wpv K_X8_changes d P 14 [some (4, (p0 : Int)), some (0, x1), some (0, x2), some (0, x3)] [(4, ((p0 + 9 : Nat) : Int))] G R V)
    refine wp_p (i := (.bipush 120)) rfl rfl (fun _ _ _ => rfl) (?_ : wpv K_X8_changes d P 16 [some (4, (p0 : Int)), some (0, x1), some (0, x2), some (0, x3)] [(0, 120), (4, ((p0 + 9 : Nat) : Int))] G R V)
    refine wp_ld (i := (.iload_n 1)) (0, x1) rfl rfl (fun _ => rfl) rfl rfl (?_ : wpv K_X8_changes d P 17 [some (4, (p0 : Int)), some (0, x1), some (0, x2), some (0, x3)] [(0, x1), (0, 120), (4, ((p0 + 9 : Nat) : Int))] G R V)
    obtain ⟨s8, w⟩ := w
    refine wp_xmul rfl rfl s8 (?_ : wpv K_X8_changes d P 18 [some (4, (p0 : Int)), some (0, x1), some (0, x2), some (0, x3)] [(0, (120 * x1)), (4, ((p0 + 9 : Nat) : Int))] G R V)
    refine wp_ld (i := (.iload_n 3)) (0, x3) rfl rfl (fun _ => rfl) rfl rfl (?_ : wpv K_X8_changes d P 19 [some (4, (p0 : Int)), some (0, x1), some (0, x2), some (0, x3)] [(0, x3), (0, (120 * x1)), (4, ((p0 + 9 : Nat) : Int))] G R V)
    obtain ⟨s9, w⟩ := w
    refine wp_xadd rfl rfl s9 (?_ : wpv K_X8_changes d P 20 [some (4, (p0 : Int)), some (0, x1), some (0, x2), some (0, x3)] [(0, ((120 * x1) + x3)), (4, ((p0 + 9 : Nat) : Int))] G R V)
    obtain ⟨s10, w⟩ := w
    have f11 : (V (p0 + 9) (((120 * x1) + x3))) = 0 ∨ (V (p0 + 9) (((120 * x1) + x3))) = 1 := vr_a2 vr1 (ly8_14 l0).2 s10
    replace w := w f11
    have f12 : i32 (V (p0 + 9) (((120 * x1) + x3))) := by unfold i32; omega
    refine wp_aB rfl rfl (ly8_14 l0).2 s10 (?_ : wpv K_X8_changes d P 21 [some (4, (p0 : Int)), some (0, x1), some (0, x2), some (0, x3)] [(0, (V (p0 + 9) (((120 * x1) + x3))))] G R V)
    refine wp_sto (i := (.istore 4)) _ rfl rfl (fun _ => rfl) rfl rfl rfl ?_
    refine wp_wk (L' := [some (4, (p0 : Int)), some (0, x1), some (0, x2), some (0, x3), some (0, (V (p0 + 9) (((120 * x1) + x3))))]) (wk_s (wk_s (wk_s (wk_s (wk_s wk_0))))) ?_
    show wpv K_X8_changes d P 23 [some (4, (p0 : Int)), some (0, x1), some (0, x2), some (0, x3), some (0, (V (p0 + 9) (((120 * x1) + x3))))] [] G R V
    refine wp_ld (i := (.aload_n 0)) (4, (p0 : Int)) rfl rfl (fun _ => rfl) rfl rfl (?_ : wpv K_X8_changes d P 24 [some (4, (p0 : Int)), some (0, x1), some (0, x2), some (0, x3), some (0, (V (p0 + 9) (((120 * x1) + x3))))] [(4, (p0 : Int))] G R V)
    refine wp_getA (k := 14) rfl rfl rfl (ly8_o l0) rfl rfl (ly8_14 l0).1 (?_ : wpv K_X8_changes d P 27 [some (4, (p0 : Int)), some (0, x1), some (0, x2), some (0, x3), some (0, (V (p0 + 9) (((120 * x1) + x3))))] [(4, ((p0 + 9 : Nat) : Int))] G R V)
    refine wp_p (i := (.bipush 120)) rfl rfl (fun _ _ _ => rfl) (?_ : wpv K_X8_changes d P 29 [some (4, (p0 : Int)), some (0, x1), some (0, x2), some (0, x3), some (0, (V (p0 + 9) (((120 * x1) + x3))))] [(0, 120), (4, ((p0 + 9 : Nat) : Int))] G R V)
    refine wp_ld (i := (.iload_n 1)) (0, x1) rfl rfl (fun _ => rfl) rfl rfl (?_ : wpv K_X8_changes d P 30 [some (4, (p0 : Int)), some (0, x1), some (0, x2), some (0, x3), some (0, (V (p0 + 9) (((120 * x1) + x3))))] [(0, x1), (0, 120), (4, ((p0 + 9 : Nat) : Int))] G R V)
    refine wp_xmul rfl rfl s8 (?_ : wpv K_X8_changes d P 31 [some (4, (p0 : Int)), some (0, x1), some (0, x2), some (0, x3), some (0, (V (p0 + 9) (((120 * x1) + x3))))] [(0, (120 * x1)), (4, ((p0 + 9 : Nat) : Int))] G R V)
    refine wp_ld (i := (.iload_n 3)) (0, x3) rfl rfl (fun _ => rfl) rfl rfl (?_ : wpv K_X8_changes d P 32 [some (4, (p0 : Int)), some (0, x1), some (0, x2), some (0, x3), some (0, (V (p0 + 9) (((120 * x1) + x3))))] [(0, x3), (0, (120 * x1)), (4, ((p0 + 9 : Nat) : Int))] G R V)
    refine wp_xadd rfl rfl s9 (?_ : wpv K_X8_changes d P 33 [some (4, (p0 : Int)), some (0, x1), some (0, x2), some (0, x3), some (0, (V (p0 + 9) (((120 * x1) + x3))))] [(0, ((120 * x1) + x3)), (4, ((p0 + 9 : Nat) : Int))] G R V)
    refine wp_ld (i := (.aload_n 0)) (4, (p0 : Int)) rfl rfl (fun _ => rfl) rfl rfl (?_ : wpv K_X8_changes d P 34 [some (4, (p0 : Int)), some (0, x1), some (0, x2), some (0, x3), some (0, (V (p0 + 9) (((120 * x1) + x3))))] [(4, (p0 : Int)), (0, ((120 * x1) + x3)), (4, ((p0 + 9 : Nat) : Int))] G R V)
    refine wp_getA (k := 14) rfl rfl rfl (ly8_o l0) rfl rfl (ly8_14 l0).1 (?_ : wpv K_X8_changes d P 37 [some (4, (p0 : Int)), some (0, x1), some (0, x2), some (0, x3), some (0, (V (p0 + 9) (((120 * x1) + x3))))] [(4, ((p0 + 9 : Nat) : Int)), (0, ((120 * x1) + x3)), (4, ((p0 + 9 : Nat) : Int))] G R V)
    refine wp_p (i := (.bipush 120)) rfl rfl (fun _ _ _ => rfl) (?_ : wpv K_X8_changes d P 39 [some (4, (p0 : Int)), some (0, x1), some (0, x2), some (0, x3), some (0, (V (p0 + 9) (((120 * x1) + x3))))] [(0, 120), (4, ((p0 + 9 : Nat) : Int)), (0, ((120 * x1) + x3)), (4, ((p0 + 9 : Nat) : Int))] G R V)
    refine wp_ld (i := (.iload_n 2)) (0, x2) rfl rfl (fun _ => rfl) rfl rfl (?_ : wpv K_X8_changes d P 40 [some (4, (p0 : Int)), some (0, x1), some (0, x2), some (0, x3), some (0, (V (p0 + 9) (((120 * x1) + x3))))] [(0, x2), (0, 120), (4, ((p0 + 9 : Nat) : Int)), (0, ((120 * x1) + x3)), (4, ((p0 + 9 : Nat) : Int))] G R V)
    obtain ⟨s13, w⟩ := w
    refine wp_xmul rfl rfl s13 (?_ : wpv K_X8_changes d P 41 [some (4, (p0 : Int)), some (0, x1), some (0, x2), some (0, x3), some (0, (V (p0 + 9) (((120 * x1) + x3))))] [(0, (120 * x2)), (4, ((p0 + 9 : Nat) : Int)), (0, ((120 * x1) + x3)), (4, ((p0 + 9 : Nat) : Int))] G R V)
    refine wp_ld (i := (.iload_n 3)) (0, x3) rfl rfl (fun _ => rfl) rfl rfl (?_ : wpv K_X8_changes d P 42 [some (4, (p0 : Int)), some (0, x1), some (0, x2), some (0, x3), some (0, (V (p0 + 9) (((120 * x1) + x3))))] [(0, x3), (0, (120 * x2)), (4, ((p0 + 9 : Nat) : Int)), (0, ((120 * x1) + x3)), (4, ((p0 + 9 : Nat) : Int))] G R V)
    obtain ⟨s14, w⟩ := w
    refine wp_xadd rfl rfl s14 (?_ : wpv K_X8_changes d P 43 [some (4, (p0 : Int)), some (0, x1), some (0, x2), some (0, x3), some (0, (V (p0 + 9) (((120 * x1) + x3))))] [(0, ((120 * x2) + x3)), (4, ((p0 + 9 : Nat) : Int)), (0, ((120 * x1) + x3)), (4, ((p0 + 9 : Nat) : Int))] G R V)
    obtain ⟨s15, w⟩ := w
    have f16 : (V (p0 + 9) (((120 * x2) + x3))) = 0 ∨ (V (p0 + 9) (((120 * x2) + x3))) = 1 := vr_a2 vr1 (ly8_14 l0).2 s15
    replace w := w f16
    have f17 : i32 (V (p0 + 9) (((120 * x2) + x3))) := by unfold i32; omega
    refine wp_aB rfl rfl (ly8_14 l0).2 s15 (?_ : wpv K_X8_changes d P 44 [some (4, (p0 : Int)), some (0, x1), some (0, x2), some (0, x3), some (0, (V (p0 + 9) (((120 * x1) + x3))))] [(0, (V (p0 + 9) (((120 * x2) + x3)))), (0, ((120 * x1) + x3)), (4, ((p0 + 9 : Nat) : Int))] G R V)
    refine wp_sB rfl rfl (ly8_14 l0).2 s10 f16 (?_ : wpv K_X8_changes d P 45 [some (4, (p0 : Int)), some (0, x1), some (0, x2), some (0, x3), some (0, (V (p0 + 9) (((120 * x1) + x3))))] [] G R (wr V (p0 + 9) (((120 * x1) + x3)) ((V (p0 + 9) (((120 * x2) + x3))))))
    refine wp_ld (i := (.aload_n 0)) (4, (p0 : Int)) rfl rfl (fun _ => rfl) rfl rfl (?_ : wpv K_X8_changes d P 46 [some (4, (p0 : Int)), some (0, x1), some (0, x2), some (0, x3), some (0, (V (p0 + 9) (((120 * x1) + x3))))] [(4, (p0 : Int))] G R (wr V (p0 + 9) (((120 * x1) + x3)) ((V (p0 + 9) (((120 * x2) + x3))))))
    refine wp_getA (k := 14) rfl rfl rfl (ly8_o l0) rfl rfl (ly8_14 l0).1 (?_ : wpv K_X8_changes d P 49 [some (4, (p0 : Int)), some (0, x1), some (0, x2), some (0, x3), some (0, (V (p0 + 9) (((120 * x1) + x3))))] [(4, ((p0 + 9 : Nat) : Int))] G R (wr V (p0 + 9) (((120 * x1) + x3)) ((V (p0 + 9) (((120 * x2) + x3))))))
    refine wp_p (i := (.bipush 120)) rfl rfl (fun _ _ _ => rfl) (?_ : wpv K_X8_changes d P 51 [some (4, (p0 : Int)), some (0, x1), some (0, x2), some (0, x3), some (0, (V (p0 + 9) (((120 * x1) + x3))))] [(0, 120), (4, ((p0 + 9 : Nat) : Int))] G R (wr V (p0 + 9) (((120 * x1) + x3)) ((V (p0 + 9) (((120 * x2) + x3))))))
    refine wp_ld (i := (.iload_n 2)) (0, x2) rfl rfl (fun _ => rfl) rfl rfl (?_ : wpv K_X8_changes d P 52 [some (4, (p0 : Int)), some (0, x1), some (0, x2), some (0, x3), some (0, (V (p0 + 9) (((120 * x1) + x3))))] [(0, x2), (0, 120), (4, ((p0 + 9 : Nat) : Int))] G R (wr V (p0 + 9) (((120 * x1) + x3)) ((V (p0 + 9) (((120 * x2) + x3))))))
    refine wp_xmul rfl rfl s13 (?_ : wpv K_X8_changes d P 53 [some (4, (p0 : Int)), some (0, x1), some (0, x2), some (0, x3), some (0, (V (p0 + 9) (((120 * x1) + x3))))] [(0, (120 * x2)), (4, ((p0 + 9 : Nat) : Int))] G R (wr V (p0 + 9) (((120 * x1) + x3)) ((V (p0 + 9) (((120 * x2) + x3))))))
    refine wp_ld (i := (.iload_n 3)) (0, x3) rfl rfl (fun _ => rfl) rfl rfl (?_ : wpv K_X8_changes d P 54 [some (4, (p0 : Int)), some (0, x1), some (0, x2), some (0, x3), some (0, (V (p0 + 9) (((120 * x1) + x3))))] [(0, x3), (0, (120 * x2)), (4, ((p0 + 9 : Nat) : Int))] G R (wr V (p0 + 9) (((120 * x1) + x3)) ((V (p0 + 9) (((120 * x2) + x3))))))
    refine wp_xadd rfl rfl s14 (?_ : wpv K_X8_changes d P 55 [some (4, (p0 : Int)), some (0, x1), some (0, x2), some (0, x3), some (0, (V (p0 + 9) (((120 * x1) + x3))))] [(0, ((120 * x2) + x3)), (4, ((p0 + 9 : Nat) : Int))] G R (wr V (p0 + 9) (((120 * x1) + x3)) ((V (p0 + 9) (((120 * x2) + x3))))))
    refine wp_ld (i := (.iload 4)) (0, (V (p0 + 9) (((120 * x1) + x3)))) rfl rfl (fun _ => rfl) rfl rfl (?_ : wpv K_X8_changes d P 57 [some (4, (p0 : Int)), some (0, x1), some (0, x2), some (0, x3), some (0, (V (p0 + 9) (((120 * x1) + x3))))] [(0, (V (p0 + 9) (((120 * x1) + x3)))), (0, ((120 * x2) + x3)), (4, ((p0 + 9 : Nat) : Int))] G R (wr V (p0 + 9) (((120 * x1) + x3)) ((V (p0 + 9) (((120 * x2) + x3))))))
    refine wp_sB rfl rfl (ly8_14 l0).2 s15 f11 (?_ : wpv K_X8_changes d P 58 [some (4, (p0 : Int)), some (0, x1), some (0, x2), some (0, x3), some (0, (V (p0 + 9) (((120 * x1) + x3))))] [] G R (wr (wr V (p0 + 9) (((120 * x1) + x3)) ((V (p0 + 9) (((120 * x2) + x3))))) (p0 + 9) (((120 * x2) + x3)) ((V (p0 + 9) (((120 * x1) + x3))))))
    obtain ⟨s18, w⟩ := w
    refine wp_inc (x := 3) (k := 1) (a := x3) (c := (x3 + 1)) _ rfl rfl rfl rfl s18 (by omega) rfl ?_
    show wpv K_X8_changes d P 61 [some (4, (p0 : Int)), some (0, x1), some (0, x2), some (0, (x3 + 1)), some (0, (V (p0 + 9) (((120 * x1) + x3))))] [] G R (wr (wr V (p0 + 9) (((120 * x1) + x3)) ((V (p0 + 9) (((120 * x2) + x3))))) (p0 + 9) (((120 * x2) + x3)) ((V (p0 + 9) (((120 * x1) + x3)))))
    refine wp_go 2 rfl rfl rfl (?_ : wpv K_X8_changes d P 2 [some (4, (p0 : Int)), some (0, x1), some (0, x2), some (0, (x3 + 1)), some (0, (V (p0 + 9) (((120 * x1) + x3))))] [] G R (wr (wr V (p0 + 9) (((120 * x1) + x3)) ((V (p0 + 9) (((120 * x2) + x3))))) (p0 + 9) (((120 * x2) + x3)) ((V (p0 + 9) (((120 * x1) + x3))))))
    exact wp_wk (wk_s (wk_s (wk_s (wk_s wk_0)))) w
theorem t_X8_lies_0 {d : Nat} {P : gP} {p0 : Nat} {x1 : Int} {x2 : Int} {G : List gS} {R V : gV} (l0 : lay8 G R p0) (w : wpv K_X8_lies d P 2 [some (4, (p0 : Int)), some (0, x1), some (0, x2), some (0, 0)] [] G R V) : wpv K_X8_lies d P 0 [some (4, (p0 : Int)), some (0, x1), some (0, x2)] [] G R V := by
  refine wp_p (i := (.iconst 0)) rfl rfl (fun _ _ _ => rfl) (?_ : wpv K_X8_lies d P 1 [some (4, (p0 : Int)), some (0, x1), some (0, x2)] [(0, 0)] G R V)
  refine wp_sto (i := (.istore_n 3)) _ rfl rfl (fun _ => rfl) rfl rfl rfl ?_
  refine wp_wk (L' := [some (4, (p0 : Int)), some (0, x1), some (0, x2), some (0, 0)]) (wk_s (wk_s (wk_s (wk_s wk_0)))) ?_
  show wpv K_X8_lies d P 2 [some (4, (p0 : Int)), some (0, x1), some (0, x2), some (0, 0)] [] G R V
  exact wp_wk (wk_s (wk_s (wk_s (wk_s wk_0)))) w

theorem t_X8_lies_2 {d : Nat} {P : gP} {p0 : Nat} {x1 : Int} {x2 : Int} {x3 : Int} {G : List gS} {R V : gV} (l0 : lay8 G R p0) (w : ((i32 (V p0 5)) → ((i32 x3) ∧ (((¬ x3 < (V p0 5)) → P (some (0, 1)) V) ∧ ((x3 < (V p0 5)) → ((i32 (120 * x1)) ∧ ((i32 ((120 * x1) + x3)) ∧ ((0 ≤ ((120 * x1) + x3) ∧ ((120 * x1) + x3) < 36120) ∧ (((V (p0 + 9) (((120 * x1) + x3))) = 0 ∨ (V (p0 + 9) (((120 * x1) + x3))) = 1) → ((((V (p0 + 9) (((120 * x1) + x3))) = 0) → ((i32 (x3 + 1)) ∧ wpv K_X8_lies d P 2 [some (4, (p0 : Int)), some (0, x1), some (0, x2), some (0, (x3 + 1))] [] G R V)) ∧ ((¬ (V (p0 + 9) (((120 * x1) + x3))) = 0) → ((i32 (120 * x2)) ∧ ((i32 ((120 * x2) + x3)) ∧ ((0 ≤ ((120 * x2) + x3) ∧ ((120 * x2) + x3) < 36120) ∧ (((V (p0 + 9) (((120 * x2) + x3))) = 0 ∨ (V (p0 + 9) (((120 * x2) + x3))) = 1) → (((¬ (V (p0 + 9) (((120 * x2) + x3))) = 0) → ((i32 (x3 + 1)) ∧ wpv K_X8_lies d P 2 [some (4, (p0 : Int)), some (0, x1), some (0, x2), some (0, (x3 + 1))] [] G R V)) ∧ (((V (p0 + 9) (((120 * x2) + x3))) = 0) → P (some (0, 0)) V))))))))))))))))) : wpv K_X8_lies d P 2 [some (4, (p0 : Int)), some (0, x1), some (0, x2), some (0, x3)] [] G R V := by
  refine wp_ld (i := (.iload_n 3)) (0, x3) rfl rfl (fun _ => rfl) rfl rfl (?_ : wpv K_X8_lies d P 3 [some (4, (p0 : Int)), some (0, x1), some (0, x2), some (0, x3)] [(0, x3)] G R V)
  refine wp_ld (i := (.aload_n 0)) (4, (p0 : Int)) rfl rfl (fun _ => rfl) rfl rfl (?_ : wpv K_X8_lies d P 4 [some (4, (p0 : Int)), some (0, x1), some (0, x2), some (0, x3)] [(4, (p0 : Int)), (0, x3)] G R V)
  refine wp_rng (fun vr1 => ?_)
  have f2 : i32 (V p0 5) := vr_f0 vr1 (ly8_o l0) rfl rfl
  replace w := w f2
  refine wp_getI (k := 5) rfl rfl rfl (ly8_o l0) rfl rfl (?_ : wpv K_X8_lies d P 7 [some (4, (p0 : Int)), some (0, x1), some (0, x2), some (0, x3)] [(0, (V p0 5)), (0, x3)] G R V)
  obtain ⟨s3, w⟩ := w
  refine wp_icmp (c := .ge) 46 rfl rfl rfl s3 f2 (fun q => ?_) (fun q => ?_)
  · have q : ¬ x3 < (V p0 5) := q
    replace w := w.1 q
    show wpv K_X8_lies d P 46 [some (4, (p0 : Int)), some (0, x1), some (0, x2), some (0, x3)] [] G R V
    refine wp_p (i := (.iconst 1)) rfl rfl (fun _ _ _ => rfl) (?_ : wpv K_X8_lies d P 47 [some (4, (p0 : Int)), some (0, x1), some (0, x2), some (0, x3)] [(0, 1)] G R V)
    exact wp_rB rfl rfl rfl (by omega) w
  · have q : x3 < (V p0 5) := Decidable.not_not.mp q
    replace w := w.2 q
    show wpv K_X8_lies d P 10 [some (4, (p0 : Int)), some (0, x1), some (0, x2), some (0, x3)] [] G R V
    refine wp_ld (i := (.aload_n 0)) (4, (p0 : Int)) rfl rfl (fun _ => rfl) rfl rfl (?_ : wpv K_X8_lies d P 11 [some (4, (p0 : Int)), some (0, x1), some (0, x2), some (0, x3)] [(4, (p0 : Int))] G R V)
    refine wp_getA (k := 14) rfl rfl rfl (ly8_o l0) rfl rfl (ly8_14 l0).1 (?_ : wpv K_X8_lies d P 14 [some (4, (p0 : Int)), some (0, x1), some (0, x2), some (0, x3)] [(4, ((p0 + 9 : Nat) : Int))] G R V)
    refine wp_p (i := (.bipush 120)) rfl rfl (fun _ _ _ => rfl) (?_ : wpv K_X8_lies d P 16 [some (4, (p0 : Int)), some (0, x1), some (0, x2), some (0, x3)] [(0, 120), (4, ((p0 + 9 : Nat) : Int))] G R V)
    refine wp_ld (i := (.iload_n 1)) (0, x1) rfl rfl (fun _ => rfl) rfl rfl (?_ : wpv K_X8_lies d P 17 [some (4, (p0 : Int)), some (0, x1), some (0, x2), some (0, x3)] [(0, x1), (0, 120), (4, ((p0 + 9 : Nat) : Int))] G R V)
    obtain ⟨s4, w⟩ := w
    refine wp_xmul rfl rfl s4 (?_ : wpv K_X8_lies d P 18 [some (4, (p0 : Int)), some (0, x1), some (0, x2), some (0, x3)] [(0, (120 * x1)), (4, ((p0 + 9 : Nat) : Int))] G R V)
    refine wp_ld (i := (.iload_n 3)) (0, x3) rfl rfl (fun _ => rfl) rfl rfl (?_ : wpv K_X8_lies d P 19 [some (4, (p0 : Int)), some (0, x1), some (0, x2), some (0, x3)] [(0, x3), (0, (120 * x1)), (4, ((p0 + 9 : Nat) : Int))] G R V)
    obtain ⟨s5, w⟩ := w
    refine wp_xadd rfl rfl s5 (?_ : wpv K_X8_lies d P 20 [some (4, (p0 : Int)), some (0, x1), some (0, x2), some (0, x3)] [(0, ((120 * x1) + x3)), (4, ((p0 + 9 : Nat) : Int))] G R V)
    obtain ⟨s6, w⟩ := w
    have f7 : (V (p0 + 9) (((120 * x1) + x3))) = 0 ∨ (V (p0 + 9) (((120 * x1) + x3))) = 1 := vr_a2 vr1 (ly8_14 l0).2 s6
    replace w := w f7
    have f8 : i32 (V (p0 + 9) (((120 * x1) + x3))) := by unfold i32; omega
    refine wp_aB rfl rfl (ly8_14 l0).2 s6 (?_ : wpv K_X8_lies d P 21 [some (4, (p0 : Int)), some (0, x1), some (0, x2), some (0, x3)] [(0, (V (p0 + 9) (((120 * x1) + x3))))] G R V)
    refine wp_if (c := .eq) 40 rfl rfl rfl f8 (fun q => ?_) (fun q => ?_)
    · have q : (V (p0 + 9) (((120 * x1) + x3))) = 0 := q
      replace w := w.1 q
      show wpv K_X8_lies d P 40 [some (4, (p0 : Int)), some (0, x1), some (0, x2), some (0, x3)] [] G R V
      obtain ⟨s9, w⟩ := w
      refine wp_inc (x := 3) (k := 1) (a := x3) (c := (x3 + 1)) _ rfl rfl rfl rfl s9 (by omega) rfl ?_
      show wpv K_X8_lies d P 43 [some (4, (p0 : Int)), some (0, x1), some (0, x2), some (0, (x3 + 1))] [] G R V
      refine wp_go 2 rfl rfl rfl (?_ : wpv K_X8_lies d P 2 [some (4, (p0 : Int)), some (0, x1), some (0, x2), some (0, (x3 + 1))] [] G R V)
      exact wp_wk (wk_s (wk_s (wk_s (wk_s wk_0)))) w
    · have q : ¬ (V (p0 + 9) (((120 * x1) + x3))) = 0 := q
      replace w := w.2 q
      show wpv K_X8_lies d P 24 [some (4, (p0 : Int)), some (0, x1), some (0, x2), some (0, x3)] [] G R V
      refine wp_ld (i := (.aload_n 0)) (4, (p0 : Int)) rfl rfl (fun _ => rfl) rfl rfl (?_ : wpv K_X8_lies d P 25 [some (4, (p0 : Int)), some (0, x1), some (0, x2), some (0, x3)] [(4, (p0 : Int))] G R V)
      refine wp_getA (k := 14) rfl rfl rfl (ly8_o l0) rfl rfl (ly8_14 l0).1 (?_ : wpv K_X8_lies d P 28 [some (4, (p0 : Int)), some (0, x1), some (0, x2), some (0, x3)] [(4, ((p0 + 9 : Nat) : Int))] G R V)
      refine wp_p (i := (.bipush 120)) rfl rfl (fun _ _ _ => rfl) (?_ : wpv K_X8_lies d P 30 [some (4, (p0 : Int)), some (0, x1), some (0, x2), some (0, x3)] [(0, 120), (4, ((p0 + 9 : Nat) : Int))] G R V)
      refine wp_ld (i := (.iload_n 2)) (0, x2) rfl rfl (fun _ => rfl) rfl rfl (?_ : wpv K_X8_lies d P 31 [some (4, (p0 : Int)), some (0, x1), some (0, x2), some (0, x3)] [(0, x2), (0, 120), (4, ((p0 + 9 : Nat) : Int))] G R V)
      obtain ⟨s10, w⟩ := w
      refine wp_xmul rfl rfl s10 (?_ : wpv K_X8_lies d P 32 [some (4, (p0 : Int)), some (0, x1), some (0, x2), some (0, x3)] [(0, (120 * x2)), (4, ((p0 + 9 : Nat) : Int))] G R V)
      refine wp_ld (i := (.iload_n 3)) (0, x3) rfl rfl (fun _ => rfl) rfl rfl (?_ : wpv K_X8_lies d P 33 [some (4, (p0 : Int)), some (0, x1), some (0, x2), some (0, x3)] [(0, x3), (0, (120 * x2)), (4, ((p0 + 9 : Nat) : Int))] G R V)
      obtain ⟨s11, w⟩ := w
      refine wp_xadd rfl rfl s11 (?_ : wpv K_X8_lies d P 34 [some (4, (p0 : Int)), some (0, x1), some (0, x2), some (0, x3)] [(0, ((120 * x2) + x3)), (4, ((p0 + 9 : Nat) : Int))] G R V)
      obtain ⟨s12, w⟩ := w
      have f13 : (V (p0 + 9) (((120 * x2) + x3))) = 0 ∨ (V (p0 + 9) (((120 * x2) + x3))) = 1 := vr_a2 vr1 (ly8_14 l0).2 s12
      replace w := w f13
      have f14 : i32 (V (p0 + 9) (((120 * x2) + x3))) := by unfold i32; omega
      refine wp_aB rfl rfl (ly8_14 l0).2 s12 (?_ : wpv K_X8_lies d P 35 [some (4, (p0 : Int)), some (0, x1), some (0, x2), some (0, x3)] [(0, (V (p0 + 9) (((120 * x2) + x3))))] G R V)
      refine wp_if (c := .ne) 40 rfl rfl rfl f14 (fun q => ?_) (fun q => ?_)
      · have q : ¬ (V (p0 + 9) (((120 * x2) + x3))) = 0 := q
        replace w := w.1 q
        show wpv K_X8_lies d P 40 [some (4, (p0 : Int)), some (0, x1), some (0, x2), some (0, x3)] [] G R V
        obtain ⟨s15, w⟩ := w
        refine wp_inc (x := 3) (k := 1) (a := x3) (c := (x3 + 1)) _ rfl rfl rfl rfl s15 (by omega) rfl ?_
        show wpv K_X8_lies d P 43 [some (4, (p0 : Int)), some (0, x1), some (0, x2), some (0, (x3 + 1))] [] G R V
        refine wp_go 2 rfl rfl rfl (?_ : wpv K_X8_lies d P 2 [some (4, (p0 : Int)), some (0, x1), some (0, x2), some (0, (x3 + 1))] [] G R V)
        exact wp_wk (wk_s (wk_s (wk_s (wk_s wk_0)))) w
      · have q : (V (p0 + 9) (((120 * x2) + x3))) = 0 := Decidable.not_not.mp q
        replace w := w.2 q
        show wpv K_X8_lies d P 38 [some (4, (p0 : Int)), some (0, x1), some (0, x2), some (0, x3)] [] G R V
        refine wp_p (i := (.iconst 0)) rfl rfl (fun _ _ _ => rfl) (?_ : wpv K_X8_lies d P 39 [some (4, (p0 : Int)), some (0, x1), some (0, x2), some (0, x3)] [(0, 0)] G R V)
        exact wp_rB rfl rfl rfl (by omega) w
theorem t_X8_settles_0 {d : Nat} {P : gP} {p0 : Nat} {G : List gS} {R V : gV} (l0 : lay8 G R p0) (w : wpv K_X8_settles d P 2 [some (4, (p0 : Int)), some (0, 0)] [] G R V) : wpv K_X8_settles d P 0 [some (4, (p0 : Int))] [] G R V := by
  refine wp_p (i := (.iconst 0)) rfl rfl (fun _ _ _ => rfl) (?_ : wpv K_X8_settles d P 1 [some (4, (p0 : Int))] [(0, 0)] G R V)
  refine wp_sto (i := (.istore_n 1)) _ rfl rfl (fun _ => rfl) rfl rfl rfl ?_
  refine wp_wk (L' := [some (4, (p0 : Int)), some (0, 0)]) (wk_s (wk_s wk_0)) ?_
  show wpv K_X8_settles d P 2 [some (4, (p0 : Int)), some (0, 0)] [] G R V
  exact wp_wk (wk_s (wk_s wk_0)) w

theorem t_X8_settles_2 {d : Nat} {P : gP} {p0 : Nat} {x1 : Int} {G : List gS} {R V : gV} (l0 : lay8 G R p0) (w : ((i32 (V p0 12)) → ((i32 x1) ∧ (((¬ x1 < (V p0 12)) → wpv K_X8_settles d P 64 [some (4, (p0 : Int)), some (0, 0)] [] G R V) ∧ ((x1 < (V p0 12)) → ((i32 (x1 + 1)) ∧ wpv K_X8_settles d P 16 [some (4, (p0 : Int)), some (0, x1), some (0, x1), some (0, (x1 + 1))] [] G R V)))))) : wpv K_X8_settles d P 2 [some (4, (p0 : Int)), some (0, x1)] [] G R V := by
  refine wp_ld (i := (.iload_n 1)) (0, x1) rfl rfl (fun _ => rfl) rfl rfl (?_ : wpv K_X8_settles d P 3 [some (4, (p0 : Int)), some (0, x1)] [(0, x1)] G R V)
  refine wp_ld (i := (.aload_n 0)) (4, (p0 : Int)) rfl rfl (fun _ => rfl) rfl rfl (?_ : wpv K_X8_settles d P 4 [some (4, (p0 : Int)), some (0, x1)] [(4, (p0 : Int)), (0, x1)] G R V)
  refine wp_rng (fun vr1 => ?_)
  have f2 : i32 (V p0 12) := vr_f0 vr1 (ly8_o l0) rfl rfl
  replace w := w f2
  refine wp_getI (k := 12) rfl rfl rfl (ly8_o l0) rfl rfl (?_ : wpv K_X8_settles d P 7 [some (4, (p0 : Int)), some (0, x1)] [(0, (V p0 12)), (0, x1)] G R V)
  obtain ⟨s3, w⟩ := w
  refine wp_icmp (c := .ge) 62 rfl rfl rfl s3 f2 (fun q => ?_) (fun q => ?_)
  · have q : ¬ x1 < (V p0 12) := q
    replace w := w.1 q
    show wpv K_X8_settles d P 62 [some (4, (p0 : Int)), some (0, x1)] [] G R V
    refine wp_p (i := (.iconst 0)) rfl rfl (fun _ _ _ => rfl) (?_ : wpv K_X8_settles d P 63 [some (4, (p0 : Int)), some (0, x1)] [(0, 0)] G R V)
    refine wp_sto (i := (.istore_n 1)) _ rfl rfl (fun _ => rfl) rfl rfl rfl ?_
    refine wp_wk (L' := [some (4, (p0 : Int)), some (0, 0)]) (wk_s (wk_s wk_0)) ?_
    show wpv K_X8_settles d P 64 [some (4, (p0 : Int)), some (0, 0)] [] G R V
    exact wp_wk (wk_s (wk_s wk_0)) w
  · have q : x1 < (V p0 12) := Decidable.not_not.mp q
    replace w := w.2 q
    show wpv K_X8_settles d P 10 [some (4, (p0 : Int)), some (0, x1)] [] G R V
    refine wp_ld (i := (.iload_n 1)) (0, x1) rfl rfl (fun _ => rfl) rfl rfl (?_ : wpv K_X8_settles d P 11 [some (4, (p0 : Int)), some (0, x1)] [(0, x1)] G R V)
    refine wp_sto (i := (.istore_n 2)) _ rfl rfl (fun _ => rfl) rfl rfl rfl ?_
    refine wp_wk (L' := [some (4, (p0 : Int)), some (0, x1), some (0, x1)]) (wk_s (wk_s (wk_s wk_0))) ?_
    show wpv K_X8_settles d P 12 [some (4, (p0 : Int)), some (0, x1), some (0, x1)] [] G R V
    refine wp_ld (i := (.iload_n 1)) (0, x1) rfl rfl (fun _ => rfl) rfl rfl (?_ : wpv K_X8_settles d P 13 [some (4, (p0 : Int)), some (0, x1), some (0, x1)] [(0, x1)] G R V)
    refine wp_p (i := (.iconst 1)) rfl rfl (fun _ _ _ => rfl) (?_ : wpv K_X8_settles d P 14 [some (4, (p0 : Int)), some (0, x1), some (0, x1)] [(0, 1), (0, x1)] G R V)
    obtain ⟨s4, w⟩ := w
    refine wp_xadd rfl rfl s4 (?_ : wpv K_X8_settles d P 15 [some (4, (p0 : Int)), some (0, x1), some (0, x1)] [(0, (x1 + 1))] G R V)
    refine wp_sto (i := (.istore_n 3)) _ rfl rfl (fun _ => rfl) rfl rfl rfl ?_
    refine wp_wk (L' := [some (4, (p0 : Int)), some (0, x1), some (0, x1), some (0, (x1 + 1))]) (wk_s (wk_s (wk_s (wk_s wk_0)))) ?_
    show wpv K_X8_settles d P 16 [some (4, (p0 : Int)), some (0, x1), some (0, x1), some (0, (x1 + 1))] [] G R V
    exact wp_wk (wk_s (wk_s (wk_s (wk_s wk_0)))) w

theorem t_X8_settles_16 {d : Nat} {P : gP} {p0 : Nat} {x1 : Int} {x2 : Int} {x3 : Int} {G : List gS} {R V : gV} (l0 : lay8 G R p0) (w : ((i32 (V p0 12)) → ((i32 x3) ∧ (((¬ x3 < (V p0 12)) → ((i32 x2) ∧ ((i32 x1) ∧ (((x2 = x1) → ((i32 (x1 + 1)) ∧ wpv K_X8_settles d P 2 [some (4, (p0 : Int)), some (0, (x1 + 1))] [] G R V)) ∧ ((¬ x2 = x1) → cwv d (fun r V7 => r = none ∧ ((i32 (x1 + 1)) ∧ wpv K_X8_settles d P 2 [some (4, (p0 : Int)), some (0, (x1 + 1))] [] G R V7)) 175 [(4, (p0 : Int)), (0, x1), (0, x2)] G R V))))) ∧ ((x3 < (V p0 12)) → cwv d (fun r V9 => ∃ v10 : Int, r = some (0, v10) ∧ ((i32 v10) ∧ (((v10 = 0) → ((i32 (x3 + 1)) ∧ wpv K_X8_settles d P 16 [some (4, (p0 : Int)), some (0, x1), some (0, x2), some (0, (x3 + 1))] [] G R V9)) ∧ ((¬ v10 = 0) → ((i32 (x3 + 1)) ∧ wpv K_X8_settles d P 16 [some (4, (p0 : Int)), some (0, x1), some (0, x3), some (0, (x3 + 1))] [] G R V9))))) 174 [(4, (p0 : Int)), (0, x3), (0, x2)] G R V))))) : wpv K_X8_settles d P 16 [some (4, (p0 : Int)), some (0, x1), some (0, x2), some (0, x3)] [] G R V := by
  refine wp_ld (i := (.iload_n 3)) (0, x3) rfl rfl (fun _ => rfl) rfl rfl (?_ : wpv K_X8_settles d P 17 [some (4, (p0 : Int)), some (0, x1), some (0, x2), some (0, x3)] [(0, x3)] G R V)
  refine wp_ld (i := (.aload_n 0)) (4, (p0 : Int)) rfl rfl (fun _ => rfl) rfl rfl (?_ : wpv K_X8_settles d P 18 [some (4, (p0 : Int)), some (0, x1), some (0, x2), some (0, x3)] [(4, (p0 : Int)), (0, x3)] G R V)
  refine wp_rng (fun vr1 => ?_)
  have f2 : i32 (V p0 12) := vr_f0 vr1 (ly8_o l0) rfl rfl
  replace w := w f2
  refine wp_getI (k := 12) rfl rfl rfl (ly8_o l0) rfl rfl (?_ : wpv K_X8_settles d P 21 [some (4, (p0 : Int)), some (0, x1), some (0, x2), some (0, x3)] [(0, (V p0 12)), (0, x3)] G R V)
  obtain ⟨s3, w⟩ := w
  refine wp_icmp (c := .ge) 45 rfl rfl rfl s3 f2 (fun q => ?_) (fun q => ?_)
  · have q : ¬ x3 < (V p0 12) := q
    replace w := w.1 q
    show wpv K_X8_settles d P 45 [some (4, (p0 : Int)), some (0, x1), some (0, x2), some (0, x3)] [] G R V
    refine wp_ld (i := (.iload_n 2)) (0, x2) rfl rfl (fun _ => rfl) rfl rfl (?_ : wpv K_X8_settles d P 46 [some (4, (p0 : Int)), some (0, x1), some (0, x2), some (0, x3)] [(0, x2)] G R V)
    refine wp_ld (i := (.iload_n 1)) (0, x1) rfl rfl (fun _ => rfl) rfl rfl (?_ : wpv K_X8_settles d P 47 [some (4, (p0 : Int)), some (0, x1), some (0, x2), some (0, x3)] [(0, x1), (0, x2)] G R V)
    obtain ⟨s4, w⟩ := w
    obtain ⟨s5, w⟩ := w
    refine wp_icmp (c := .eq) 56 rfl rfl rfl s4 s5 (fun q => ?_) (fun q => ?_)
    · have q : x2 = x1 := q
      replace w := w.1 q
      show wpv K_X8_settles d P 56 [some (4, (p0 : Int)), some (0, x1), some (0, x2), some (0, x3)] [] G R V
      obtain ⟨s6, w⟩ := w
      refine wp_inc (x := 1) (k := 1) (a := x1) (c := (x1 + 1)) _ rfl rfl rfl rfl s6 (by omega) rfl ?_
      show wpv K_X8_settles d P 59 [some (4, (p0 : Int)), some (0, (x1 + 1)), some (0, x2), some (0, x3)] [] G R V
      refine wp_go 2 rfl rfl rfl (?_ : wpv K_X8_settles d P 2 [some (4, (p0 : Int)), some (0, (x1 + 1)), some (0, x2), some (0, x3)] [] G R V)
      exact wp_wk (wk_s (wk_s wk_0)) w
    · have q : ¬ x2 = x1 := q
      replace w := w.2 q
      show wpv K_X8_settles d P 50 [some (4, (p0 : Int)), some (0, x1), some (0, x2), some (0, x3)] [] G R V
      refine wp_ld (i := (.aload_n 0)) (4, (p0 : Int)) rfl rfl (fun _ => rfl) rfl rfl (?_ : wpv K_X8_settles d P 51 [some (4, (p0 : Int)), some (0, x1), some (0, x2), some (0, x3)] [(4, (p0 : Int))] G R V)
      refine wp_ld (i := (.iload_n 1)) (0, x1) rfl rfl (fun _ => rfl) rfl rfl (?_ : wpv K_X8_settles d P 52 [some (4, (p0 : Int)), some (0, x1), some (0, x2), some (0, x3)] [(0, x1), (4, (p0 : Int))] G R V)
      refine wp_ld (i := (.iload_n 2)) (0, x2) rfl rfl (fun _ => rfl) rfl rfl (?_ : wpv K_X8_settles d P 53 [some (4, (p0 : Int)), some (0, x1), some (0, x2), some (0, x3)] [(0, x2), (0, x1), (4, (p0 : Int))] G R V)
      refine wp_virt (as := [(0, x1), (0, x2)]) (a := p0) (st := []) _ rfl rfl rfl rfl rfl rfl (ly8_o l0) (Nat.le_of_ble_eq_true rfl) (cwv_k0 w (fun V7 w => ?_))
      show wpv K_X8_settles d P 56 [some (4, (p0 : Int)), some (0, x1), some (0, x2), some (0, x3)] [] G R V7
      obtain ⟨s8, w⟩ := w
      refine wp_inc (x := 1) (k := 1) (a := x1) (c := (x1 + 1)) _ rfl rfl rfl rfl s8 (by omega) rfl ?_
      show wpv K_X8_settles d P 59 [some (4, (p0 : Int)), some (0, (x1 + 1)), some (0, x2), some (0, x3)] [] G R V7
      refine wp_go 2 rfl rfl rfl (?_ : wpv K_X8_settles d P 2 [some (4, (p0 : Int)), some (0, (x1 + 1)), some (0, x2), some (0, x3)] [] G R V7)
      exact wp_wk (wk_s (wk_s wk_0)) w
  · have q : x3 < (V p0 12) := Decidable.not_not.mp q
    replace w := w.2 q
    show wpv K_X8_settles d P 24 [some (4, (p0 : Int)), some (0, x1), some (0, x2), some (0, x3)] [] G R V
    refine wp_ld (i := (.aload_n 0)) (4, (p0 : Int)) rfl rfl (fun _ => rfl) rfl rfl (?_ : wpv K_X8_settles d P 25 [some (4, (p0 : Int)), some (0, x1), some (0, x2), some (0, x3)] [(4, (p0 : Int))] G R V)
    refine wp_ld (i := (.iload_n 3)) (0, x3) rfl rfl (fun _ => rfl) rfl rfl (?_ : wpv K_X8_settles d P 26 [some (4, (p0 : Int)), some (0, x1), some (0, x2), some (0, x3)] [(0, x3), (4, (p0 : Int))] G R V)
    refine wp_ld (i := (.iload_n 2)) (0, x2) rfl rfl (fun _ => rfl) rfl rfl (?_ : wpv K_X8_settles d P 27 [some (4, (p0 : Int)), some (0, x1), some (0, x2), some (0, x3)] [(0, x2), (0, x3), (4, (p0 : Int))] G R V)
    refine wp_virt (as := [(0, x3), (0, x2)]) (a := p0) (st := []) _ rfl rfl rfl rfl rfl rfl (ly8_o l0) (Nat.le_of_ble_eq_true rfl) (cwv_kI w (fun v10 V9 w => ?_))
    show wpv K_X8_settles d P 30 [some (4, (p0 : Int)), some (0, x1), some (0, x2), some (0, x3)] [(0, v10)] G R V9
    obtain ⟨s11, w⟩ := w
    refine wp_if (c := .eq) 37 rfl rfl rfl s11 (fun q => ?_) (fun q => ?_)
    · have q : v10 = 0 := q
      replace w := w.1 q
      show wpv K_X8_settles d P 37 [some (4, (p0 : Int)), some (0, x1), some (0, x2), some (0, x3)] [] G R V9
      refine wp_ld (i := (.iload_n 2)) (0, x2) rfl rfl (fun _ => rfl) rfl rfl (?_ : wpv K_X8_settles d P 38 [some (4, (p0 : Int)), some (0, x1), some (0, x2), some (0, x3)] [(0, x2)] G R V9)
      refine wp_sto (i := (.istore_n 2)) _ rfl rfl (fun _ => rfl) rfl rfl rfl ?_
      refine wp_wk (L' := [some (4, (p0 : Int)), some (0, x1), some (0, x2), some (0, x3)]) (wk_s (wk_s (wk_s (wk_s wk_0)))) ?_
      show wpv K_X8_settles d P 39 [some (4, (p0 : Int)), some (0, x1), some (0, x2), some (0, x3)] [] G R V9
      obtain ⟨s12, w⟩ := w
      refine wp_inc (x := 3) (k := 1) (a := x3) (c := (x3 + 1)) _ rfl rfl rfl rfl s12 (by omega) rfl ?_
      show wpv K_X8_settles d P 42 [some (4, (p0 : Int)), some (0, x1), some (0, x2), some (0, (x3 + 1))] [] G R V9
      refine wp_go 16 rfl rfl rfl (?_ : wpv K_X8_settles d P 16 [some (4, (p0 : Int)), some (0, x1), some (0, x2), some (0, (x3 + 1))] [] G R V9)
      exact wp_wk (wk_s (wk_s (wk_s (wk_s wk_0)))) w
    · have q : ¬ v10 = 0 := q
      replace w := w.2 q
      show wpv K_X8_settles d P 33 [some (4, (p0 : Int)), some (0, x1), some (0, x2), some (0, x3)] [] G R V9
      refine wp_ld (i := (.iload_n 3)) (0, x3) rfl rfl (fun _ => rfl) rfl rfl (?_ : wpv K_X8_settles d P 34 [some (4, (p0 : Int)), some (0, x1), some (0, x2), some (0, x3)] [(0, x3)] G R V9)
      refine wp_go 38 rfl rfl rfl (?_ : wpv K_X8_settles d P 38 [some (4, (p0 : Int)), some (0, x1), some (0, x2), some (0, x3)] [(0, x3)] G R V9)
      refine wp_sto (i := (.istore_n 2)) _ rfl rfl (fun _ => rfl) rfl rfl rfl ?_
      refine wp_wk (L' := [some (4, (p0 : Int)), some (0, x1), some (0, x3), some (0, x3)]) (wk_s (wk_s (wk_s (wk_s wk_0)))) ?_
      show wpv K_X8_settles d P 39 [some (4, (p0 : Int)), some (0, x1), some (0, x3), some (0, x3)] [] G R V9
      obtain ⟨s13, w⟩ := w
      refine wp_inc (x := 3) (k := 1) (a := x3) (c := (x3 + 1)) _ rfl rfl rfl rfl s13 (by omega) rfl ?_
      show wpv K_X8_settles d P 42 [some (4, (p0 : Int)), some (0, x1), some (0, x3), some (0, (x3 + 1))] [] G R V9
      refine wp_go 16 rfl rfl rfl (?_ : wpv K_X8_settles d P 16 [some (4, (p0 : Int)), some (0, x1), some (0, x3), some (0, (x3 + 1))] [] G R V9)
      exact wp_wk (wk_s (wk_s (wk_s (wk_s wk_0)))) w

theorem t_X8_settles_64 {d : Nat} {P : gP} {p0 : Nat} {x1 : Int} {G : List gS} {R V : gV} (l0 : lay8 G R p0) (w : ((i32 (V p0 12)) → ((i32 x1) ∧ (((¬ x1 < (V p0 12)) → wpv K_X8_settles d P 118 [some (4, (p0 : Int)), some (0, 0)] [] G R (wr V p0 13 0)) ∧ ((x1 < (V p0 12)) → wpv K_X8_settles d P 74 [some (4, (p0 : Int)), some (0, x1), some (0, 0)] [] G R V))))) : wpv K_X8_settles d P 64 [some (4, (p0 : Int)), some (0, x1)] [] G R V := by
  refine wp_ld (i := (.iload_n 1)) (0, x1) rfl rfl (fun _ => rfl) rfl rfl (?_ : wpv K_X8_settles d P 65 [some (4, (p0 : Int)), some (0, x1)] [(0, x1)] G R V)
  refine wp_ld (i := (.aload_n 0)) (4, (p0 : Int)) rfl rfl (fun _ => rfl) rfl rfl (?_ : wpv K_X8_settles d P 66 [some (4, (p0 : Int)), some (0, x1)] [(4, (p0 : Int)), (0, x1)] G R V)
  refine wp_rng (fun vr1 => ?_)
  have f2 : i32 (V p0 12) := vr_f0 vr1 (ly8_o l0) rfl rfl
  replace w := w f2
  refine wp_getI (k := 12) rfl rfl rfl (ly8_o l0) rfl rfl (?_ : wpv K_X8_settles d P 69 [some (4, (p0 : Int)), some (0, x1)] [(0, (V p0 12)), (0, x1)] G R V)
  obtain ⟨s3, w⟩ := w
  refine wp_icmp (c := .ge) 111 rfl rfl rfl s3 f2 (fun q => ?_) (fun q => ?_)
  · have q : ¬ x1 < (V p0 12) := q
    replace w := w.1 q
    show wpv K_X8_settles d P 111 [some (4, (p0 : Int)), some (0, x1)] [] G R V
    refine wp_ld (i := (.aload_n 0)) (4, (p0 : Int)) rfl rfl (fun _ => rfl) rfl rfl (?_ : wpv K_X8_settles d P 112 [some (4, (p0 : Int)), some (0, x1)] [(4, (p0 : Int))] G R V)
    refine wp_p (i := (.iconst 0)) rfl rfl (fun _ _ _ => rfl) (?_ : wpv K_X8_settles d P 113 [some (4, (p0 : Int)), some (0, x1)] [(0, 0), (4, (p0 : Int))] G R V)
    refine wp_putI (k := 13) rfl rfl rfl (ly8_o l0) rfl rfl rfl ⟨by omega, by omega⟩ (?_ : wpv K_X8_settles d P 116 [some (4, (p0 : Int)), some (0, x1)] [] G R (wr V p0 13 0))
    refine wp_p (i := (.iconst 0)) rfl rfl (fun _ _ _ => rfl) (?_ : wpv K_X8_settles d P 117 [some (4, (p0 : Int)), some (0, x1)] [(0, 0)] G R (wr V p0 13 0))
    refine wp_sto (i := (.istore_n 1)) _ rfl rfl (fun _ => rfl) rfl rfl rfl ?_
    refine wp_wk (L' := [some (4, (p0 : Int)), some (0, 0)]) (wk_s (wk_s wk_0)) ?_
    show wpv K_X8_settles d P 118 [some (4, (p0 : Int)), some (0, 0)] [] G R (wr V p0 13 0)
    exact wp_wk (wk_s (wk_s wk_0)) w
  · have q : x1 < (V p0 12) := Decidable.not_not.mp q
    replace w := w.2 q
    show wpv K_X8_settles d P 72 [some (4, (p0 : Int)), some (0, x1)] [] G R V
    refine wp_p (i := (.iconst 0)) rfl rfl (fun _ _ _ => rfl) (?_ : wpv K_X8_settles d P 73 [some (4, (p0 : Int)), some (0, x1)] [(0, 0)] G R V)
    refine wp_sto (i := (.istore_n 2)) _ rfl rfl (fun _ => rfl) rfl rfl rfl ?_
    refine wp_wk (L' := [some (4, (p0 : Int)), some (0, x1), some (0, 0)]) (wk_s (wk_s (wk_s wk_0))) ?_
    show wpv K_X8_settles d P 74 [some (4, (p0 : Int)), some (0, x1), some (0, 0)] [] G R V
    exact wp_wk (wk_s (wk_s (wk_s wk_0))) w

theorem t_X8_settles_74 {d : Nat} {P : gP} {p0 : Nat} {x1 : Int} {x2 : Int} {G : List gS} {R V : gV} (l0 : lay8 G R p0) (w : ((i32 (V p0 5)) → ((i32 x2) ∧ (((¬ x2 < (V p0 5)) → ((i32 (x1 + 1)) ∧ wpv K_X8_settles d P 64 [some (4, (p0 : Int)), some (0, (x1 + 1))] [] G R V)) ∧ ((x2 < (V p0 5)) → ((i32 (120 * x1)) ∧ ((i32 ((120 * x1) + x2)) ∧ cwv d (fun r V7 => ∃ v8 : Int, r = some (0, v8) ∧ ((0 ≤ ((120 * x1) + x2) ∧ ((120 * x1) + x2) < 36000) ∧ ((i32 v8) ∧ ((i32 (x2 + 1)) ∧ wpv K_X8_settles d P 74 [some (4, (p0 : Int)), some (0, x1), some (0, (x2 + 1))] [] G R (wr V7 (p0 + 13) (((120 * x1) + x2)) v8))))) 178 [(4, (p0 : Int)), (0, x1), (0, x2)] G R V))))))) : wpv K_X8_settles d P 74 [some (4, (p0 : Int)), some (0, x1), some (0, x2)] [] G R V := by
  refine wp_ld (i := (.iload_n 2)) (0, x2) rfl rfl (fun _ => rfl) rfl rfl (?_ : wpv K_X8_settles d P 75 [some (4, (p0 : Int)), some (0, x1), some (0, x2)] [(0, x2)] G R V)
  refine wp_ld (i := (.aload_n 0)) (4, (p0 : Int)) rfl rfl (fun _ => rfl) rfl rfl (?_ : wpv K_X8_settles d P 76 [some (4, (p0 : Int)), some (0, x1), some (0, x2)] [(4, (p0 : Int)), (0, x2)] G R V)
  refine wp_rng (fun vr1 => ?_)
  have f2 : i32 (V p0 5) := vr_f0 vr1 (ly8_o l0) rfl rfl
  replace w := w f2
  refine wp_getI (k := 5) rfl rfl rfl (ly8_o l0) rfl rfl (?_ : wpv K_X8_settles d P 79 [some (4, (p0 : Int)), some (0, x1), some (0, x2)] [(0, (V p0 5)), (0, x2)] G R V)
  obtain ⟨s3, w⟩ := w
  refine wp_icmp (c := .ge) 105 rfl rfl rfl s3 f2 (fun q => ?_) (fun q => ?_)
  · have q : ¬ x2 < (V p0 5) := q
    replace w := w.1 q
    show wpv K_X8_settles d P 105 [some (4, (p0 : Int)), some (0, x1), some (0, x2)] [] G R V
    obtain ⟨s4, w⟩ := w
    refine wp_inc (x := 1) (k := 1) (a := x1) (c := (x1 + 1)) _ rfl rfl rfl rfl s4 (by omega) rfl ?_
    show wpv K_X8_settles d P 108 [some (4, (p0 : Int)), some (0, (x1 + 1)), some (0, x2)] [] G R V
    refine wp_go 64 rfl rfl rfl (?_ : wpv K_X8_settles d P 64 [some (4, (p0 : Int)), some (0, (x1 + 1)), some (0, x2)] [] G R V)
    exact wp_wk (wk_s (wk_s wk_0)) w
  · have q : x2 < (V p0 5) := Decidable.not_not.mp q
    replace w := w.2 q
    show wpv K_X8_settles d P 82 [some (4, (p0 : Int)), some (0, x1), some (0, x2)] [] G R V
    refine wp_ld (i := (.aload_n 0)) (4, (p0 : Int)) rfl rfl (fun _ => rfl) rfl rfl (?_ : wpv K_X8_settles d P 83 [some (4, (p0 : Int)), some (0, x1), some (0, x2)] [(4, (p0 : Int))] G R V)
    refine wp_getA (k := 18) rfl rfl rfl (ly8_o l0) rfl rfl (ly8_18 l0).1 (?_ : wpv K_X8_settles d P 86 [some (4, (p0 : Int)), some (0, x1), some (0, x2)] [(4, ((p0 + 13 : Nat) : Int))] G R V)
    refine wp_p (i := (.bipush 120)) rfl rfl (fun _ _ _ => rfl) (?_ : wpv K_X8_settles d P 88 [some (4, (p0 : Int)), some (0, x1), some (0, x2)] [(0, 120), (4, ((p0 + 13 : Nat) : Int))] G R V)
    refine wp_ld (i := (.iload_n 1)) (0, x1) rfl rfl (fun _ => rfl) rfl rfl (?_ : wpv K_X8_settles d P 89 [some (4, (p0 : Int)), some (0, x1), some (0, x2)] [(0, x1), (0, 120), (4, ((p0 + 13 : Nat) : Int))] G R V)
    obtain ⟨s5, w⟩ := w
    refine wp_xmul rfl rfl s5 (?_ : wpv K_X8_settles d P 90 [some (4, (p0 : Int)), some (0, x1), some (0, x2)] [(0, (120 * x1)), (4, ((p0 + 13 : Nat) : Int))] G R V)
    refine wp_ld (i := (.iload_n 2)) (0, x2) rfl rfl (fun _ => rfl) rfl rfl (?_ : wpv K_X8_settles d P 91 [some (4, (p0 : Int)), some (0, x1), some (0, x2)] [(0, x2), (0, (120 * x1)), (4, ((p0 + 13 : Nat) : Int))] G R V)
    obtain ⟨s6, w⟩ := w
    refine wp_xadd rfl rfl s6 (?_ : wpv K_X8_settles d P 92 [some (4, (p0 : Int)), some (0, x1), some (0, x2)] [(0, ((120 * x1) + x2)), (4, ((p0 + 13 : Nat) : Int))] G R V)
    refine wp_ld (i := (.aload_n 0)) (4, (p0 : Int)) rfl rfl (fun _ => rfl) rfl rfl (?_ : wpv K_X8_settles d P 93 [some (4, (p0 : Int)), some (0, x1), some (0, x2)] [(4, (p0 : Int)), (0, ((120 * x1) + x2)), (4, ((p0 + 13 : Nat) : Int))] G R V)
    refine wp_ld (i := (.iload_n 1)) (0, x1) rfl rfl (fun _ => rfl) rfl rfl (?_ : wpv K_X8_settles d P 94 [some (4, (p0 : Int)), some (0, x1), some (0, x2)] [(0, x1), (4, (p0 : Int)), (0, ((120 * x1) + x2)), (4, ((p0 + 13 : Nat) : Int))] G R V)
    refine wp_ld (i := (.iload_n 2)) (0, x2) rfl rfl (fun _ => rfl) rfl rfl (?_ : wpv K_X8_settles d P 95 [some (4, (p0 : Int)), some (0, x1), some (0, x2)] [(0, x2), (0, x1), (4, (p0 : Int)), (0, ((120 * x1) + x2)), (4, ((p0 + 13 : Nat) : Int))] G R V)
    refine wp_virt (as := [(0, x1), (0, x2)]) (a := p0) (st := [(0, ((120 * x1) + x2)), (4, ((p0 + 13 : Nat) : Int))]) _ rfl rfl rfl rfl rfl rfl (ly8_o l0) (Nat.le_of_ble_eq_true rfl) (cwv_kI w (fun v8 V7 w => ?_))
    show wpv K_X8_settles d P 98 [some (4, (p0 : Int)), some (0, x1), some (0, x2)] [(0, v8), (0, ((120 * x1) + x2)), (4, ((p0 + 13 : Nat) : Int))] G R V7
    obtain ⟨s9, w⟩ := w
    obtain ⟨s10, w⟩ := w
    refine wp_sI rfl rfl (ly8_18 l0).2 s9 s10 (?_ : wpv K_X8_settles d P 99 [some (4, (p0 : Int)), some (0, x1), some (0, x2)] [] G R (wr V7 (p0 + 13) (((120 * x1) + x2)) v8))
    obtain ⟨s11, w⟩ := w
    refine wp_inc (x := 2) (k := 1) (a := x2) (c := (x2 + 1)) _ rfl rfl rfl rfl s11 (by omega) rfl ?_
    show wpv K_X8_settles d P 102 [some (4, (p0 : Int)), some (0, x1), some (0, (x2 + 1))] [] G R (wr V7 (p0 + 13) (((120 * x1) + x2)) v8)
    refine wp_go 74 rfl rfl rfl (?_ : wpv K_X8_settles d P 74 [some (4, (p0 : Int)), some (0, x1), some (0, (x2 + 1))] [] G R (wr V7 (p0 + 13) (((120 * x1) + x2)) v8))
    exact wp_wk (wk_s (wk_s (wk_s wk_0))) w

theorem t_X8_settles_118 {d : Nat} {P : gP} {p0 : Nat} {x1 : Int} {G : List gS} {R V : gV} (l0 : lay8 G R p0) (w : ((i32 (V p0 12)) → ((i32 x1) ∧ (((¬ x1 < (V p0 12)) → ((i32 ((V p0 12) - 1)) ∧ wpv K_X8_settles d P 263 [some (4, (p0 : Int)), some (0, ((V p0 12) - 1))] [] G R V)) ∧ ((x1 < (V p0 12)) → wpv K_X8_settles d P 130 [some (4, (p0 : Int)), some (0, x1), some (0, x1), some (0, 0)] [] G R V))))) : wpv K_X8_settles d P 118 [some (4, (p0 : Int)), some (0, x1)] [] G R V := by
  refine wp_ld (i := (.iload_n 1)) (0, x1) rfl rfl (fun _ => rfl) rfl rfl (?_ : wpv K_X8_settles d P 119 [some (4, (p0 : Int)), some (0, x1)] [(0, x1)] G R V)
  refine wp_ld (i := (.aload_n 0)) (4, (p0 : Int)) rfl rfl (fun _ => rfl) rfl rfl (?_ : wpv K_X8_settles d P 120 [some (4, (p0 : Int)), some (0, x1)] [(4, (p0 : Int)), (0, x1)] G R V)
  refine wp_rng (fun vr1 => ?_)
  have f2 : i32 (V p0 12) := vr_f0 vr1 (ly8_o l0) rfl rfl
  replace w := w f2
  refine wp_getI (k := 12) rfl rfl rfl (ly8_o l0) rfl rfl (?_ : wpv K_X8_settles d P 123 [some (4, (p0 : Int)), some (0, x1)] [(0, (V p0 12)), (0, x1)] G R V)
  obtain ⟨s3, w⟩ := w
  refine wp_icmp (c := .ge) 256 rfl rfl rfl s3 f2 (fun q => ?_) (fun q => ?_)
  · have q : ¬ x1 < (V p0 12) := q
    replace w := w.1 q
    show wpv K_X8_settles d P 256 [some (4, (p0 : Int)), some (0, x1)] [] G R V
    refine wp_ld (i := (.aload_n 0)) (4, (p0 : Int)) rfl rfl (fun _ => rfl) rfl rfl (?_ : wpv K_X8_settles d P 257 [some (4, (p0 : Int)), some (0, x1)] [(4, (p0 : Int))] G R V)
    refine wp_getI (k := 12) rfl rfl rfl (ly8_o l0) rfl rfl (?_ : wpv K_X8_settles d P 260 [some (4, (p0 : Int)), some (0, x1)] [(0, (V p0 12))] G R V)
    refine wp_p (i := (.iconst 1)) rfl rfl (fun _ _ _ => rfl) (?_ : wpv K_X8_settles d P 261 [some (4, (p0 : Int)), some (0, x1)] [(0, 1), (0, (V p0 12))] G R V)
    obtain ⟨s4, w⟩ := w
    refine wp_xsub rfl rfl s4 (?_ : wpv K_X8_settles d P 262 [some (4, (p0 : Int)), some (0, x1)] [(0, ((V p0 12) - 1))] G R V)
    refine wp_sto (i := (.istore_n 1)) _ rfl rfl (fun _ => rfl) rfl rfl rfl ?_
    refine wp_wk (L' := [some (4, (p0 : Int)), some (0, ((V p0 12) - 1))]) (wk_s (wk_s wk_0)) ?_
    show wpv K_X8_settles d P 263 [some (4, (p0 : Int)), some (0, ((V p0 12) - 1))] [] G R V
    exact wp_wk (wk_s (wk_s wk_0)) w
  · have q : x1 < (V p0 12) := Decidable.not_not.mp q
    replace w := w.2 q
    show wpv K_X8_settles d P 126 [some (4, (p0 : Int)), some (0, x1)] [] G R V
    refine wp_ld (i := (.iload_n 1)) (0, x1) rfl rfl (fun _ => rfl) rfl rfl (?_ : wpv K_X8_settles d P 127 [some (4, (p0 : Int)), some (0, x1)] [(0, x1)] G R V)
    refine wp_sto (i := (.istore_n 2)) _ rfl rfl (fun _ => rfl) rfl rfl rfl ?_
    refine wp_wk (L' := [some (4, (p0 : Int)), some (0, x1), some (0, x1)]) (wk_s (wk_s (wk_s wk_0))) ?_
    show wpv K_X8_settles d P 128 [some (4, (p0 : Int)), some (0, x1), some (0, x1)] [] G R V
    refine wp_p (i := (.iconst 0)) rfl rfl (fun _ _ _ => rfl) (?_ : wpv K_X8_settles d P 129 [some (4, (p0 : Int)), some (0, x1), some (0, x1)] [(0, 0)] G R V)
    refine wp_sto (i := (.istore_n 3)) _ rfl rfl (fun _ => rfl) rfl rfl rfl ?_
    refine wp_wk (L' := [some (4, (p0 : Int)), some (0, x1), some (0, x1), some (0, 0)]) (wk_s (wk_s (wk_s (wk_s wk_0)))) ?_
    show wpv K_X8_settles d P 130 [some (4, (p0 : Int)), some (0, x1), some (0, x1), some (0, 0)] [] G R V
    exact wp_wk (wk_s (wk_s (wk_s (wk_s wk_0)))) w

theorem t_X8_settles_130 {d : Nat} {P : gP} {p0 : Nat} {x1 : Int} {x2 : Int} {x3 : Int} {G : List gS} {R V : gV} (l0 : lay8 G R p0) (w : ((i32 (V p0 5)) → ((i32 x3) ∧ (((¬ x3 < (V p0 5)) → ((i32 x2) ∧ ((i32 x1) ∧ (((¬ x2 = x1) → ((0 ≤ x2 ∧ x2 < 300) ∧ ((i32 (V (p0 + 14) x2)) → ((0 ≤ x1 ∧ x1 < 300) ∧ ((0 ≤ (V (p0 + 14) x2) ∧ (V (p0 + 14) x2) < 300) ∧ ((i32 (V (p0 + 16) ((V (p0 + 14) x2)))) → ((i32 ((V (p0 + 16) ((V (p0 + 14) x2))) + 1)) ∧ ((i32 (x1 + 1)) ∧ wpv K_X8_settles d P 118 [some (4, (p0 : Int)), some (0, (x1 + 1))] [] G R (wr (wr V (p0 + 14) x1 ((V (p0 + 14) x2))) (p0 + 16) ((V (p0 + 14) x2)) (((V (p0 + 16) ((V (p0 + 14) x2))) + 1))))))))))) ∧ ((x2 = x1) → ((i32 (V p0 13)) → ((0 ≤ (V p0 13) ∧ (V p0 13) < 300) ∧ ((0 ≤ x1 ∧ x1 < 300) ∧ ((i32 ((V p0 13) + 1)) ∧ ((i32 (x1 + 1)) ∧ wpv K_X8_settles d P 118 [some (4, (p0 : Int)), some (0, (x1 + 1))] [] G R (wr (wr (wr (wr (wr V (p0 + 15) ((V p0 13)) x1) (p0 + 16) ((V p0 13)) 0) (p0 + 14) x1 ((V p0 13))) p0 13 (((V p0 13) + 1))) (p0 + 16) ((V p0 13)) 1))))))))))) ∧ ((x3 < (V p0 5)) → ((i32 (120 * x1)) ∧ ((i32 ((120 * x1) + x3)) ∧ ((0 ≤ ((120 * x1) + x3) ∧ ((120 * x1) + x3) < 36000) ∧ ((i32 (V (p0 + 13) (((120 * x1) + x3)))) → ((i32 x2) ∧ (((¬ (V (p0 + 13) (((120 * x1) + x3))) < x2) → ((i32 (x3 + 1)) ∧ wpv K_X8_settles d P 130 [some (4, (p0 : Int)), some (0, x1), some (0, x2), some (0, (x3 + 1))] [] G R V)) ∧ (((V (p0 + 13) (((120 * x1) + x3))) < x2) → ((i32 (x3 + 1)) ∧ wpv K_X8_settles d P 130 [some (4, (p0 : Int)), some (0, x1), some (0, (V (p0 + 13) (((120 * x1) + x3)))), some (0, (x3 + 1))] [] G R V))))))))))))) : wpv K_X8_settles d P 130 [some (4, (p0 : Int)), some (0, x1), some (0, x2), some (0, x3)] [] G R V := by
  refine wp_ld (i := (.iload_n 3)) (0, x3) rfl rfl (fun _ => rfl) rfl rfl (?_ : wpv K_X8_settles d P 131 [some (4, (p0 : Int)), some (0, x1), some (0, x2), some (0, x3)] [(0, x3)] G R V)
  refine wp_ld (i := (.aload_n 0)) (4, (p0 : Int)) rfl rfl (fun _ => rfl) rfl rfl (?_ : wpv K_X8_settles d P 132 [some (4, (p0 : Int)), some (0, x1), some (0, x2), some (0, x3)] [(4, (p0 : Int)), (0, x3)] G R V)
  refine wp_rng (fun vr1 => ?_)
  have f2 : i32 (V p0 5) := vr_f0 vr1 (ly8_o l0) rfl rfl
  replace w := w f2
  refine wp_getI (k := 5) rfl rfl rfl (ly8_o l0) rfl rfl (?_ : wpv K_X8_settles d P 135 [some (4, (p0 : Int)), some (0, x1), some (0, x2), some (0, x3)] [(0, (V p0 5)), (0, x3)] G R V)
  obtain ⟨s3, w⟩ := w
  refine wp_icmp (c := .ge) 175 rfl rfl rfl s3 f2 (fun q => ?_) (fun q => ?_)
  · have q : ¬ x3 < (V p0 5) := q
    replace w := w.1 q
    show wpv K_X8_settles d P 175 [some (4, (p0 : Int)), some (0, x1), some (0, x2), some (0, x3)] [] G R V
    refine wp_ld (i := (.iload_n 2)) (0, x2) rfl rfl (fun _ => rfl) rfl rfl (?_ : wpv K_X8_settles d P 176 [some (4, (p0 : Int)), some (0, x1), some (0, x2), some (0, x3)] [(0, x2)] G R V)
    refine wp_ld (i := (.iload_n 1)) (0, x1) rfl rfl (fun _ => rfl) rfl rfl (?_ : wpv K_X8_settles d P 177 [some (4, (p0 : Int)), some (0, x1), some (0, x2), some (0, x3)] [(0, x1), (0, x2)] G R V)
    obtain ⟨s4, w⟩ := w
    obtain ⟨s5, w⟩ := w
    refine wp_icmp (c := .ne) 223 rfl rfl rfl s4 s5 (fun q => ?_) (fun q => ?_)
    · have q : ¬ x2 = x1 := q
      replace w := w.1 q
      show wpv K_X8_settles d P 223 [some (4, (p0 : Int)), some (0, x1), some (0, x2), some (0, x3)] [] G R V
      refine wp_ld (i := (.aload_n 0)) (4, (p0 : Int)) rfl rfl (fun _ => rfl) rfl rfl (?_ : wpv K_X8_settles d P 224 [some (4, (p0 : Int)), some (0, x1), some (0, x2), some (0, x3)] [(4, (p0 : Int))] G R V)
      refine wp_getA (k := 19) rfl rfl rfl (ly8_o l0) rfl rfl (ly8_19 l0).1 (?_ : wpv K_X8_settles d P 227 [some (4, (p0 : Int)), some (0, x1), some (0, x2), some (0, x3)] [(4, ((p0 + 14 : Nat) : Int))] G R V)
      refine wp_ld (i := (.iload_n 1)) (0, x1) rfl rfl (fun _ => rfl) rfl rfl (?_ : wpv K_X8_settles d P 228 [some (4, (p0 : Int)), some (0, x1), some (0, x2), some (0, x3)] [(0, x1), (4, ((p0 + 14 : Nat) : Int))] G R V)
      refine wp_ld (i := (.aload_n 0)) (4, (p0 : Int)) rfl rfl (fun _ => rfl) rfl rfl (?_ : wpv K_X8_settles d P 229 [some (4, (p0 : Int)), some (0, x1), some (0, x2), some (0, x3)] [(4, (p0 : Int)), (0, x1), (4, ((p0 + 14 : Nat) : Int))] G R V)
      refine wp_getA (k := 19) rfl rfl rfl (ly8_o l0) rfl rfl (ly8_19 l0).1 (?_ : wpv K_X8_settles d P 232 [some (4, (p0 : Int)), some (0, x1), some (0, x2), some (0, x3)] [(4, ((p0 + 14 : Nat) : Int)), (0, x1), (4, ((p0 + 14 : Nat) : Int))] G R V)
      refine wp_ld (i := (.iload_n 2)) (0, x2) rfl rfl (fun _ => rfl) rfl rfl (?_ : wpv K_X8_settles d P 233 [some (4, (p0 : Int)), some (0, x1), some (0, x2), some (0, x3)] [(0, x2), (4, ((p0 + 14 : Nat) : Int)), (0, x1), (4, ((p0 + 14 : Nat) : Int))] G R V)
      obtain ⟨s6, w⟩ := w
      have f7 : i32 (V (p0 + 14) x2) := vr_a0 vr1 (ly8_19 l0).2 s6
      replace w := w f7
      refine wp_aI rfl rfl (ly8_19 l0).2 s6 (?_ : wpv K_X8_settles d P 234 [some (4, (p0 : Int)), some (0, x1), some (0, x2), some (0, x3)] [(0, (V (p0 + 14) x2)), (0, x1), (4, ((p0 + 14 : Nat) : Int))] G R V)
      obtain ⟨s8, w⟩ := w
      refine wp_sI rfl rfl (ly8_19 l0).2 s8 f7 (?_ : wpv K_X8_settles d P 235 [some (4, (p0 : Int)), some (0, x1), some (0, x2), some (0, x3)] [] G R (wr V (p0 + 14) x1 ((V (p0 + 14) x2))))
      refine wp_ld (i := (.aload_n 0)) (4, (p0 : Int)) rfl rfl (fun _ => rfl) rfl rfl (?_ : wpv K_X8_settles d P 236 [some (4, (p0 : Int)), some (0, x1), some (0, x2), some (0, x3)] [(4, (p0 : Int))] G R (wr V (p0 + 14) x1 ((V (p0 + 14) x2))))
      refine wp_getA (k := 21) rfl rfl rfl (ly8_o l0) rfl rfl (ly8_21 l0).1 (?_ : wpv K_X8_settles d P 239 [some (4, (p0 : Int)), some (0, x1), some (0, x2), some (0, x3)] [(4, ((p0 + 16 : Nat) : Int))] G R (wr V (p0 + 14) x1 ((V (p0 + 14) x2))))
      refine wp_ld (i := (.aload_n 0)) (4, (p0 : Int)) rfl rfl (fun _ => rfl) rfl rfl (?_ : wpv K_X8_settles d P 240 [some (4, (p0 : Int)), some (0, x1), some (0, x2), some (0, x3)] [(4, (p0 : Int)), (4, ((p0 + 16 : Nat) : Int))] G R (wr V (p0 + 14) x1 ((V (p0 + 14) x2))))
      refine wp_getA (k := 19) rfl rfl rfl (ly8_o l0) rfl rfl (ly8_19 l0).1 (?_ : wpv K_X8_settles d P 243 [some (4, (p0 : Int)), some (0, x1), some (0, x2), some (0, x3)] [(4, ((p0 + 14 : Nat) : Int)), (4, ((p0 + 16 : Nat) : Int))] G R (wr V (p0 + 14) x1 ((V (p0 + 14) x2))))
      refine wp_ld (i := (.iload_n 1)) (0, x1) rfl rfl (fun _ => rfl) rfl rfl (?_ : wpv K_X8_settles d P 244 [some (4, (p0 : Int)), some (0, x1), some (0, x2), some (0, x3)] [(0, x1), (4, ((p0 + 14 : Nat) : Int)), (4, ((p0 + 16 : Nat) : Int))] G R (wr V (p0 + 14) x1 ((V (p0 + 14) x2))))
      refine wp_rng (fun vr9 => ?_)
      have r10 : ((wr V (p0 + 14) x1 ((V (p0 + 14) x2))) (p0 + 14) x1) = (V (p0 + 14) x2) := (wr_same _ _ _ _)
      refine wp_aIe rfl rfl (ly8_19 l0).2 s8 r10 (?_ : wpv K_X8_settles d P 245 [some (4, (p0 : Int)), some (0, x1), some (0, x2), some (0, x3)] [(0, (V (p0 + 14) x2)), (4, ((p0 + 16 : Nat) : Int))] G R (wr V (p0 + 14) x1 ((V (p0 + 14) x2))))
      refine wp_p (i := .dup2) rfl rfl (fun _ _ _ => rfl) (?_ : wpv K_X8_settles d P 246 [some (4, (p0 : Int)), some (0, x1), some (0, x2), some (0, x3)] [(0, (V (p0 + 14) x2)), (4, ((p0 + 16 : Nat) : Int)), (0, (V (p0 + 14) x2)), (4, ((p0 + 16 : Nat) : Int))] G R (wr V (p0 + 14) x1 ((V (p0 + 14) x2))))
      obtain ⟨s11, w⟩ := w
      have r12 : ((wr V (p0 + 14) x1 ((V (p0 + 14) x2))) (p0 + 16) ((V (p0 + 14) x2))) = (V (p0 + 16) ((V (p0 + 14) x2))) := (wr_a (by omega))
      have f13 : i32 (V (p0 + 16) ((V (p0 + 14) x2))) := (by have h := vr_a0 vr9 (ly8_21 l0).2 s11; rw [r12] at h; exact h)
      replace w := w f13
      refine wp_aIe rfl rfl (ly8_21 l0).2 s11 r12 (?_ : wpv K_X8_settles d P 247 [some (4, (p0 : Int)), some (0, x1), some (0, x2), some (0, x3)] [(0, (V (p0 + 16) ((V (p0 + 14) x2)))), (0, (V (p0 + 14) x2)), (4, ((p0 + 16 : Nat) : Int))] G R (wr V (p0 + 14) x1 ((V (p0 + 14) x2))))
      refine wp_p (i := (.iconst 1)) rfl rfl (fun _ _ _ => rfl) (?_ : wpv K_X8_settles d P 248 [some (4, (p0 : Int)), some (0, x1), some (0, x2), some (0, x3)] [(0, 1), (0, (V (p0 + 16) ((V (p0 + 14) x2)))), (0, (V (p0 + 14) x2)), (4, ((p0 + 16 : Nat) : Int))] G R (wr V (p0 + 14) x1 ((V (p0 + 14) x2))))
      obtain ⟨s14, w⟩ := w
      refine wp_xadd rfl rfl s14 (?_ : wpv K_X8_settles d P 249 [some (4, (p0 : Int)), some (0, x1), some (0, x2), some (0, x3)] [(0, ((V (p0 + 16) ((V (p0 + 14) x2))) + 1)), (0, (V (p0 + 14) x2)), (4, ((p0 + 16 : Nat) : Int))] G R (wr V (p0 + 14) x1 ((V (p0 + 14) x2))))
      refine wp_sI rfl rfl (ly8_21 l0).2 s11 s14 (?_ : wpv K_X8_settles d P 250 [some (4, (p0 : Int)), some (0, x1), some (0, x2), some (0, x3)] [] G R (wr (wr V (p0 + 14) x1 ((V (p0 + 14) x2))) (p0 + 16) ((V (p0 + 14) x2)) (((V (p0 + 16) ((V (p0 + 14) x2))) + 1))))
      obtain ⟨s15, w⟩ := w
      refine wp_inc (x := 1) (k := 1) (a := x1) (c := (x1 + 1)) _ rfl rfl rfl rfl s15 (by omega) rfl ?_
      show wpv K_X8_settles d P 253 [some (4, (p0 : Int)), some (0, (x1 + 1)), some (0, x2), some (0, x3)] [] G R (wr (wr V (p0 + 14) x1 ((V (p0 + 14) x2))) (p0 + 16) ((V (p0 + 14) x2)) (((V (p0 + 16) ((V (p0 + 14) x2))) + 1)))
      refine wp_go 118 rfl rfl rfl (?_ : wpv K_X8_settles d P 118 [some (4, (p0 : Int)), some (0, (x1 + 1)), some (0, x2), some (0, x3)] [] G R (wr (wr V (p0 + 14) x1 ((V (p0 + 14) x2))) (p0 + 16) ((V (p0 + 14) x2)) (((V (p0 + 16) ((V (p0 + 14) x2))) + 1))))
      exact wp_wk (wk_s (wk_s wk_0)) w
    · have q : x2 = x1 := Decidable.not_not.mp q
      replace w := w.2 q
      show wpv K_X8_settles d P 180 [some (4, (p0 : Int)), some (0, x1), some (0, x2), some (0, x3)] [] G R V
      refine wp_ld (i := (.aload_n 0)) (4, (p0 : Int)) rfl rfl (fun _ => rfl) rfl rfl (?_ : wpv K_X8_settles d P 181 [some (4, (p0 : Int)), some (0, x1), some (0, x2), some (0, x3)] [(4, (p0 : Int))] G R V)
      refine wp_getA (k := 20) rfl rfl rfl (ly8_o l0) rfl rfl (ly8_20 l0).1 (?_ : wpv K_X8_settles d P 184 [some (4, (p0 : Int)), some (0, x1), some (0, x2), some (0, x3)] [(4, ((p0 + 15 : Nat) : Int))] G R V)
      refine wp_ld (i := (.aload_n 0)) (4, (p0 : Int)) rfl rfl (fun _ => rfl) rfl rfl (?_ : wpv K_X8_settles d P 185 [some (4, (p0 : Int)), some (0, x1), some (0, x2), some (0, x3)] [(4, (p0 : Int)), (4, ((p0 + 15 : Nat) : Int))] G R V)
      have f16 : i32 (V p0 13) := vr_f0 vr1 (ly8_o l0) rfl rfl
      replace w := w f16
      refine wp_getI (k := 13) rfl rfl rfl (ly8_o l0) rfl rfl (?_ : wpv K_X8_settles d P 188 [some (4, (p0 : Int)), some (0, x1), some (0, x2), some (0, x3)] [(0, (V p0 13)), (4, ((p0 + 15 : Nat) : Int))] G R V)
      refine wp_ld (i := (.iload_n 1)) (0, x1) rfl rfl (fun _ => rfl) rfl rfl (?_ : wpv K_X8_settles d P 189 [some (4, (p0 : Int)), some (0, x1), some (0, x2), some (0, x3)] [(0, x1), (0, (V p0 13)), (4, ((p0 + 15 : Nat) : Int))] G R V)
      obtain ⟨s17, w⟩ := w
      refine wp_sI rfl rfl (ly8_20 l0).2 s17 s5 (?_ : wpv K_X8_settles d P 190 [some (4, (p0 : Int)), some (0, x1), some (0, x2), some (0, x3)] [] G R (wr V (p0 + 15) ((V p0 13)) x1))
      refine wp_ld (i := (.aload_n 0)) (4, (p0 : Int)) rfl rfl (fun _ => rfl) rfl rfl (?_ : wpv K_X8_settles d P 191 [some (4, (p0 : Int)), some (0, x1), some (0, x2), some (0, x3)] [(4, (p0 : Int))] G R (wr V (p0 + 15) ((V p0 13)) x1))
      refine wp_getA (k := 21) rfl rfl rfl (ly8_o l0) rfl rfl (ly8_21 l0).1 (?_ : wpv K_X8_settles d P 194 [some (4, (p0 : Int)), some (0, x1), some (0, x2), some (0, x3)] [(4, ((p0 + 16 : Nat) : Int))] G R (wr V (p0 + 15) ((V p0 13)) x1))
      refine wp_ld (i := (.aload_n 0)) (4, (p0 : Int)) rfl rfl (fun _ => rfl) rfl rfl (?_ : wpv K_X8_settles d P 195 [some (4, (p0 : Int)), some (0, x1), some (0, x2), some (0, x3)] [(4, (p0 : Int)), (4, ((p0 + 16 : Nat) : Int))] G R (wr V (p0 + 15) ((V p0 13)) x1))
      refine wp_rng (fun vr18 => ?_)
      have r19 : ((wr V (p0 + 15) ((V p0 13)) x1) p0 13) = (V p0 13) := (wr_a (by omega))
      refine wp_getIe (k := 13) rfl rfl rfl (ly8_o l0) rfl rfl r19 (?_ : wpv K_X8_settles d P 198 [some (4, (p0 : Int)), some (0, x1), some (0, x2), some (0, x3)] [(0, (V p0 13)), (4, ((p0 + 16 : Nat) : Int))] G R (wr V (p0 + 15) ((V p0 13)) x1))
      refine wp_p (i := (.iconst 0)) rfl rfl (fun _ _ _ => rfl) (?_ : wpv K_X8_settles d P 199 [some (4, (p0 : Int)), some (0, x1), some (0, x2), some (0, x3)] [(0, 0), (0, (V p0 13)), (4, ((p0 + 16 : Nat) : Int))] G R (wr V (p0 + 15) ((V p0 13)) x1))
      refine wp_sI rfl rfl (ly8_21 l0).2 s17 ⟨by omega, by omega⟩ (?_ : wpv K_X8_settles d P 200 [some (4, (p0 : Int)), some (0, x1), some (0, x2), some (0, x3)] [] G R (wr (wr V (p0 + 15) ((V p0 13)) x1) (p0 + 16) ((V p0 13)) 0))
      refine wp_ld (i := (.aload_n 0)) (4, (p0 : Int)) rfl rfl (fun _ => rfl) rfl rfl (?_ : wpv K_X8_settles d P 201 [some (4, (p0 : Int)), some (0, x1), some (0, x2), some (0, x3)] [(4, (p0 : Int))] G R (wr (wr V (p0 + 15) ((V p0 13)) x1) (p0 + 16) ((V p0 13)) 0))
      refine wp_getA (k := 19) rfl rfl rfl (ly8_o l0) rfl rfl (ly8_19 l0).1 (?_ : wpv K_X8_settles d P 204 [some (4, (p0 : Int)), some (0, x1), some (0, x2), some (0, x3)] [(4, ((p0 + 14 : Nat) : Int))] G R (wr (wr V (p0 + 15) ((V p0 13)) x1) (p0 + 16) ((V p0 13)) 0))
      refine wp_ld (i := (.iload_n 1)) (0, x1) rfl rfl (fun _ => rfl) rfl rfl (?_ : wpv K_X8_settles d P 205 [some (4, (p0 : Int)), some (0, x1), some (0, x2), some (0, x3)] [(0, x1), (4, ((p0 + 14 : Nat) : Int))] G R (wr (wr V (p0 + 15) ((V p0 13)) x1) (p0 + 16) ((V p0 13)) 0))
      refine wp_ld (i := (.aload_n 0)) (4, (p0 : Int)) rfl rfl (fun _ => rfl) rfl rfl (?_ : wpv K_X8_settles d P 206 [some (4, (p0 : Int)), some (0, x1), some (0, x2), some (0, x3)] [(4, (p0 : Int)), (0, x1), (4, ((p0 + 14 : Nat) : Int))] G R (wr (wr V (p0 + 15) ((V p0 13)) x1) (p0 + 16) ((V p0 13)) 0))
      refine wp_rng (fun vr20 => ?_)
      have r21 : ((wr (wr V (p0 + 15) ((V p0 13)) x1) (p0 + 16) ((V p0 13)) 0) p0 13) = (V p0 13) := ((wr_a (by omega)).trans (wr_a (by omega)))
      refine wp_getIe (k := 13) rfl rfl rfl (ly8_o l0) rfl rfl r21 (?_ : wpv K_X8_settles d P 209 [some (4, (p0 : Int)), some (0, x1), some (0, x2), some (0, x3)] [(0, (V p0 13)), (0, x1), (4, ((p0 + 14 : Nat) : Int))] G R (wr (wr V (p0 + 15) ((V p0 13)) x1) (p0 + 16) ((V p0 13)) 0))
      obtain ⟨s22, w⟩ := w
      refine wp_sI rfl rfl (ly8_19 l0).2 s22 f16 (?_ : wpv K_X8_settles d P 210 [some (4, (p0 : Int)), some (0, x1), some (0, x2), some (0, x3)] [] G R (wr (wr (wr V (p0 + 15) ((V p0 13)) x1) (p0 + 16) ((V p0 13)) 0) (p0 + 14) x1 ((V p0 13))))
      refine wp_ld (i := (.aload_n 0)) (4, (p0 : Int)) rfl rfl (fun _ => rfl) rfl rfl (?_ : wpv K_X8_settles d P 211 [some (4, (p0 : Int)), some (0, x1), some (0, x2), some (0, x3)] [(4, (p0 : Int))] G R (wr (wr (wr V (p0 + 15) ((V p0 13)) x1) (p0 + 16) ((V p0 13)) 0) (p0 + 14) x1 ((V p0 13))))
      refine wp_p (i := .dup) rfl rfl (fun _ _ _ => rfl) (?_ : wpv K_X8_settles d P 212 [some (4, (p0 : Int)), some (0, x1), some (0, x2), some (0, x3)] [(4, (p0 : Int)), (4, (p0 : Int))] G R (wr (wr (wr V (p0 + 15) ((V p0 13)) x1) (p0 + 16) ((V p0 13)) 0) (p0 + 14) x1 ((V p0 13))))
      refine wp_rng (fun vr23 => ?_)
      have r24 : ((wr (wr (wr V (p0 + 15) ((V p0 13)) x1) (p0 + 16) ((V p0 13)) 0) (p0 + 14) x1 ((V p0 13))) p0 13) = (V p0 13) := ((wr_a (by omega)).trans ((wr_a (by omega)).trans (wr_a (by omega))))
      refine wp_getIe (k := 13) rfl rfl rfl (ly8_o l0) rfl rfl r24 (?_ : wpv K_X8_settles d P 215 [some (4, (p0 : Int)), some (0, x1), some (0, x2), some (0, x3)] [(0, (V p0 13)), (4, (p0 : Int))] G R (wr (wr (wr V (p0 + 15) ((V p0 13)) x1) (p0 + 16) ((V p0 13)) 0) (p0 + 14) x1 ((V p0 13))))
      refine wp_p (i := (.iconst 1)) rfl rfl (fun _ _ _ => rfl) (?_ : wpv K_X8_settles d P 216 [some (4, (p0 : Int)), some (0, x1), some (0, x2), some (0, x3)] [(0, 1), (0, (V p0 13)), (4, (p0 : Int))] G R (wr (wr (wr V (p0 + 15) ((V p0 13)) x1) (p0 + 16) ((V p0 13)) 0) (p0 + 14) x1 ((V p0 13))))
      obtain ⟨s25, w⟩ := w
      refine wp_xadd rfl rfl s25 (?_ : wpv K_X8_settles d P 217 [some (4, (p0 : Int)), some (0, x1), some (0, x2), some (0, x3)] [(0, ((V p0 13) + 1)), (4, (p0 : Int))] G R (wr (wr (wr V (p0 + 15) ((V p0 13)) x1) (p0 + 16) ((V p0 13)) 0) (p0 + 14) x1 ((V p0 13))))
      refine wp_putI (k := 13) rfl rfl rfl (ly8_o l0) rfl rfl rfl s25 (?_ : wpv K_X8_settles d P 220 [some (4, (p0 : Int)), some (0, x1), some (0, x2), some (0, x3)] [] G R (wr (wr (wr (wr V (p0 + 15) ((V p0 13)) x1) (p0 + 16) ((V p0 13)) 0) (p0 + 14) x1 ((V p0 13))) p0 13 (((V p0 13) + 1))))
      refine wp_go 235 rfl rfl rfl (?_ : wpv K_X8_settles d P 235 [some (4, (p0 : Int)), some (0, x1), some (0, x2), some (0, x3)] [] G R (wr (wr (wr (wr V (p0 + 15) ((V p0 13)) x1) (p0 + 16) ((V p0 13)) 0) (p0 + 14) x1 ((V p0 13))) p0 13 (((V p0 13) + 1))))
      refine wp_ld (i := (.aload_n 0)) (4, (p0 : Int)) rfl rfl (fun _ => rfl) rfl rfl (?_ : wpv K_X8_settles d P 236 [some (4, (p0 : Int)), some (0, x1), some (0, x2), some (0, x3)] [(4, (p0 : Int))] G R (wr (wr (wr (wr V (p0 + 15) ((V p0 13)) x1) (p0 + 16) ((V p0 13)) 0) (p0 + 14) x1 ((V p0 13))) p0 13 (((V p0 13) + 1))))
      refine wp_getA (k := 21) rfl rfl rfl (ly8_o l0) rfl rfl (ly8_21 l0).1 (?_ : wpv K_X8_settles d P 239 [some (4, (p0 : Int)), some (0, x1), some (0, x2), some (0, x3)] [(4, ((p0 + 16 : Nat) : Int))] G R (wr (wr (wr (wr V (p0 + 15) ((V p0 13)) x1) (p0 + 16) ((V p0 13)) 0) (p0 + 14) x1 ((V p0 13))) p0 13 (((V p0 13) + 1))))
      refine wp_ld (i := (.aload_n 0)) (4, (p0 : Int)) rfl rfl (fun _ => rfl) rfl rfl (?_ : wpv K_X8_settles d P 240 [some (4, (p0 : Int)), some (0, x1), some (0, x2), some (0, x3)] [(4, (p0 : Int)), (4, ((p0 + 16 : Nat) : Int))] G R (wr (wr (wr (wr V (p0 + 15) ((V p0 13)) x1) (p0 + 16) ((V p0 13)) 0) (p0 + 14) x1 ((V p0 13))) p0 13 (((V p0 13) + 1))))
      refine wp_getA (k := 19) rfl rfl rfl (ly8_o l0) rfl rfl (ly8_19 l0).1 (?_ : wpv K_X8_settles d P 243 [some (4, (p0 : Int)), some (0, x1), some (0, x2), some (0, x3)] [(4, ((p0 + 14 : Nat) : Int)), (4, ((p0 + 16 : Nat) : Int))] G R (wr (wr (wr (wr V (p0 + 15) ((V p0 13)) x1) (p0 + 16) ((V p0 13)) 0) (p0 + 14) x1 ((V p0 13))) p0 13 (((V p0 13) + 1))))
      refine wp_ld (i := (.iload_n 1)) (0, x1) rfl rfl (fun _ => rfl) rfl rfl (?_ : wpv K_X8_settles d P 244 [some (4, (p0 : Int)), some (0, x1), some (0, x2), some (0, x3)] [(0, x1), (4, ((p0 + 14 : Nat) : Int)), (4, ((p0 + 16 : Nat) : Int))] G R (wr (wr (wr (wr V (p0 + 15) ((V p0 13)) x1) (p0 + 16) ((V p0 13)) 0) (p0 + 14) x1 ((V p0 13))) p0 13 (((V p0 13) + 1))))
      refine wp_rng (fun vr26 => ?_)
      have r27 : ((wr (wr (wr (wr V (p0 + 15) ((V p0 13)) x1) (p0 + 16) ((V p0 13)) 0) (p0 + 14) x1 ((V p0 13))) p0 13 (((V p0 13) + 1))) (p0 + 14) x1) = (V p0 13) := ((wr_a (by omega)).trans (wr_same _ _ _ _))
      refine wp_aIe rfl rfl (ly8_19 l0).2 s22 r27 (?_ : wpv K_X8_settles d P 245 [some (4, (p0 : Int)), some (0, x1), some (0, x2), some (0, x3)] [(0, (V p0 13)), (4, ((p0 + 16 : Nat) : Int))] G R (wr (wr (wr (wr V (p0 + 15) ((V p0 13)) x1) (p0 + 16) ((V p0 13)) 0) (p0 + 14) x1 ((V p0 13))) p0 13 (((V p0 13) + 1))))
      refine wp_p (i := .dup2) rfl rfl (fun _ _ _ => rfl) (?_ : wpv K_X8_settles d P 246 [some (4, (p0 : Int)), some (0, x1), some (0, x2), some (0, x3)] [(0, (V p0 13)), (4, ((p0 + 16 : Nat) : Int)), (0, (V p0 13)), (4, ((p0 + 16 : Nat) : Int))] G R (wr (wr (wr (wr V (p0 + 15) ((V p0 13)) x1) (p0 + 16) ((V p0 13)) 0) (p0 + 14) x1 ((V p0 13))) p0 13 (((V p0 13) + 1))))
      have r28 : ((wr (wr (wr (wr V (p0 + 15) ((V p0 13)) x1) (p0 + 16) ((V p0 13)) 0) (p0 + 14) x1 ((V p0 13))) p0 13 (((V p0 13) + 1))) (p0 + 16) ((V p0 13))) = 0 := ((wr_a (by omega)).trans ((wr_a (by omega)).trans (wr_same _ _ _ _)))
      refine wp_aIe rfl rfl (ly8_21 l0).2 s17 r28 (?_ : wpv K_X8_settles d P 247 [some (4, (p0 : Int)), some (0, x1), some (0, x2), some (0, x3)] [(0, 0), (0, (V p0 13)), (4, ((p0 + 16 : Nat) : Int))] G R (wr (wr (wr (wr V (p0 + 15) ((V p0 13)) x1) (p0 + 16) ((V p0 13)) 0) (p0 + 14) x1 ((V p0 13))) p0 13 (((V p0 13) + 1))))
      refine wp_p (i := (.iconst 1)) rfl rfl (fun _ _ _ => rfl) (?_ : wpv K_X8_settles d P 248 [some (4, (p0 : Int)), some (0, x1), some (0, x2), some (0, x3)] [(0, 1), (0, 0), (0, (V p0 13)), (4, ((p0 + 16 : Nat) : Int))] G R (wr (wr (wr (wr V (p0 + 15) ((V p0 13)) x1) (p0 + 16) ((V p0 13)) 0) (p0 + 14) x1 ((V p0 13))) p0 13 (((V p0 13) + 1))))
      refine wp_bin (i := .iadd) rfl rfl (fun _ => rfl) rfl (?_ : wpv K_X8_settles d P 249 [some (4, (p0 : Int)), some (0, x1), some (0, x2), some (0, x3)] [(0, 1), (0, (V p0 13)), (4, ((p0 + 16 : Nat) : Int))] G R (wr (wr (wr (wr V (p0 + 15) ((V p0 13)) x1) (p0 + 16) ((V p0 13)) 0) (p0 + 14) x1 ((V p0 13))) p0 13 (((V p0 13) + 1))))
      refine wp_sI rfl rfl (ly8_21 l0).2 s17 ⟨by omega, by omega⟩ (?_ : wpv K_X8_settles d P 250 [some (4, (p0 : Int)), some (0, x1), some (0, x2), some (0, x3)] [] G R (wr (wr (wr (wr (wr V (p0 + 15) ((V p0 13)) x1) (p0 + 16) ((V p0 13)) 0) (p0 + 14) x1 ((V p0 13))) p0 13 (((V p0 13) + 1))) (p0 + 16) ((V p0 13)) 1))
      obtain ⟨s29, w⟩ := w
      refine wp_inc (x := 1) (k := 1) (a := x1) (c := (x1 + 1)) _ rfl rfl rfl rfl s29 (by omega) rfl ?_
      show wpv K_X8_settles d P 253 [some (4, (p0 : Int)), some (0, (x1 + 1)), some (0, x2), some (0, x3)] [] G R (wr (wr (wr (wr (wr V (p0 + 15) ((V p0 13)) x1) (p0 + 16) ((V p0 13)) 0) (p0 + 14) x1 ((V p0 13))) p0 13 (((V p0 13) + 1))) (p0 + 16) ((V p0 13)) 1)
      refine wp_go 118 rfl rfl rfl (?_ : wpv K_X8_settles d P 118 [some (4, (p0 : Int)), some (0, (x1 + 1)), some (0, x2), some (0, x3)] [] G R (wr (wr (wr (wr (wr V (p0 + 15) ((V p0 13)) x1) (p0 + 16) ((V p0 13)) 0) (p0 + 14) x1 ((V p0 13))) p0 13 (((V p0 13) + 1))) (p0 + 16) ((V p0 13)) 1))
      exact wp_wk (wk_s (wk_s wk_0)) w
  · have q : x3 < (V p0 5) := Decidable.not_not.mp q
    replace w := w.2 q
    show wpv K_X8_settles d P 138 [some (4, (p0 : Int)), some (0, x1), some (0, x2), some (0, x3)] [] G R V
    refine wp_ld (i := (.aload_n 0)) (4, (p0 : Int)) rfl rfl (fun _ => rfl) rfl rfl (?_ : wpv K_X8_settles d P 139 [some (4, (p0 : Int)), some (0, x1), some (0, x2), some (0, x3)] [(4, (p0 : Int))] G R V)
    refine wp_getA (k := 18) rfl rfl rfl (ly8_o l0) rfl rfl (ly8_18 l0).1 (?_ : wpv K_X8_settles d P 142 [some (4, (p0 : Int)), some (0, x1), some (0, x2), some (0, x3)] [(4, ((p0 + 13 : Nat) : Int))] G R V)
    refine wp_p (i := (.bipush 120)) rfl rfl (fun _ _ _ => rfl) (?_ : wpv K_X8_settles d P 144 [some (4, (p0 : Int)), some (0, x1), some (0, x2), some (0, x3)] [(0, 120), (4, ((p0 + 13 : Nat) : Int))] G R V)
    refine wp_ld (i := (.iload_n 1)) (0, x1) rfl rfl (fun _ => rfl) rfl rfl (?_ : wpv K_X8_settles d P 145 [some (4, (p0 : Int)), some (0, x1), some (0, x2), some (0, x3)] [(0, x1), (0, 120), (4, ((p0 + 13 : Nat) : Int))] G R V)
    obtain ⟨s30, w⟩ := w
    refine wp_xmul rfl rfl s30 (?_ : wpv K_X8_settles d P 146 [some (4, (p0 : Int)), some (0, x1), some (0, x2), some (0, x3)] [(0, (120 * x1)), (4, ((p0 + 13 : Nat) : Int))] G R V)
    refine wp_ld (i := (.iload_n 3)) (0, x3) rfl rfl (fun _ => rfl) rfl rfl (?_ : wpv K_X8_settles d P 147 [some (4, (p0 : Int)), some (0, x1), some (0, x2), some (0, x3)] [(0, x3), (0, (120 * x1)), (4, ((p0 + 13 : Nat) : Int))] G R V)
    obtain ⟨s31, w⟩ := w
    refine wp_xadd rfl rfl s31 (?_ : wpv K_X8_settles d P 148 [some (4, (p0 : Int)), some (0, x1), some (0, x2), some (0, x3)] [(0, ((120 * x1) + x3)), (4, ((p0 + 13 : Nat) : Int))] G R V)
    obtain ⟨s32, w⟩ := w
    have f33 : i32 (V (p0 + 13) (((120 * x1) + x3))) := vr_a0 vr1 (ly8_18 l0).2 s32
    replace w := w f33
    refine wp_aI rfl rfl (ly8_18 l0).2 s32 (?_ : wpv K_X8_settles d P 149 [some (4, (p0 : Int)), some (0, x1), some (0, x2), some (0, x3)] [(0, (V (p0 + 13) (((120 * x1) + x3))))] G R V)
    refine wp_ld (i := (.iload_n 2)) (0, x2) rfl rfl (fun _ => rfl) rfl rfl (?_ : wpv K_X8_settles d P 150 [some (4, (p0 : Int)), some (0, x1), some (0, x2), some (0, x3)] [(0, x2), (0, (V (p0 + 13) (((120 * x1) + x3))))] G R V)
    obtain ⟨s34, w⟩ := w
    refine wp_icmp (c := .ge) 167 rfl rfl rfl f33 s34 (fun q => ?_) (fun q => ?_)
    · have q : ¬ (V (p0 + 13) (((120 * x1) + x3))) < x2 := q
      replace w := w.1 q
      show wpv K_X8_settles d P 167 [some (4, (p0 : Int)), some (0, x1), some (0, x2), some (0, x3)] [] G R V
      refine wp_ld (i := (.iload_n 2)) (0, x2) rfl rfl (fun _ => rfl) rfl rfl (?_ : wpv K_X8_settles d P 168 [some (4, (p0 : Int)), some (0, x1), some (0, x2), some (0, x3)] [(0, x2)] G R V)
      refine wp_sto (i := (.istore_n 2)) _ rfl rfl (fun _ => rfl) rfl rfl rfl ?_
      refine wp_wk (L' := [some (4, (p0 : Int)), some (0, x1), some (0, x2), some (0, x3)]) (wk_s (wk_s (wk_s (wk_s wk_0)))) ?_
      show wpv K_X8_settles d P 169 [some (4, (p0 : Int)), some (0, x1), some (0, x2), some (0, x3)] [] G R V
      obtain ⟨s35, w⟩ := w
      refine wp_inc (x := 3) (k := 1) (a := x3) (c := (x3 + 1)) _ rfl rfl rfl rfl s35 (by omega) rfl ?_
      show wpv K_X8_settles d P 172 [some (4, (p0 : Int)), some (0, x1), some (0, x2), some (0, (x3 + 1))] [] G R V
      refine wp_go 130 rfl rfl rfl (?_ : wpv K_X8_settles d P 130 [some (4, (p0 : Int)), some (0, x1), some (0, x2), some (0, (x3 + 1))] [] G R V)
      exact wp_wk (wk_s (wk_s (wk_s (wk_s wk_0)))) w
    · have q : (V (p0 + 13) (((120 * x1) + x3))) < x2 := Decidable.not_not.mp q
      replace w := w.2 q
      show wpv K_X8_settles d P 153 [some (4, (p0 : Int)), some (0, x1), some (0, x2), some (0, x3)] [] G R V
      refine wp_ld (i := (.aload_n 0)) (4, (p0 : Int)) rfl rfl (fun _ => rfl) rfl rfl (?_ : wpv K_X8_settles d P 154 [some (4, (p0 : Int)), some (0, x1), some (0, x2), some (0, x3)] [(4, (p0 : Int))] G R V)
      refine wp_getA (k := 18) rfl rfl rfl (ly8_o l0) rfl rfl (ly8_18 l0).1 (?_ : wpv K_X8_settles d P 157 [some (4, (p0 : Int)), some (0, x1), some (0, x2), some (0, x3)] [(4, ((p0 + 13 : Nat) : Int))] G R V)
      refine wp_p (i := (.bipush 120)) rfl rfl (fun _ _ _ => rfl) (?_ : wpv K_X8_settles d P 159 [some (4, (p0 : Int)), some (0, x1), some (0, x2), some (0, x3)] [(0, 120), (4, ((p0 + 13 : Nat) : Int))] G R V)
      refine wp_ld (i := (.iload_n 1)) (0, x1) rfl rfl (fun _ => rfl) rfl rfl (?_ : wpv K_X8_settles d P 160 [some (4, (p0 : Int)), some (0, x1), some (0, x2), some (0, x3)] [(0, x1), (0, 120), (4, ((p0 + 13 : Nat) : Int))] G R V)
      refine wp_xmul rfl rfl s30 (?_ : wpv K_X8_settles d P 161 [some (4, (p0 : Int)), some (0, x1), some (0, x2), some (0, x3)] [(0, (120 * x1)), (4, ((p0 + 13 : Nat) : Int))] G R V)
      refine wp_ld (i := (.iload_n 3)) (0, x3) rfl rfl (fun _ => rfl) rfl rfl (?_ : wpv K_X8_settles d P 162 [some (4, (p0 : Int)), some (0, x1), some (0, x2), some (0, x3)] [(0, x3), (0, (120 * x1)), (4, ((p0 + 13 : Nat) : Int))] G R V)
      refine wp_xadd rfl rfl s31 (?_ : wpv K_X8_settles d P 163 [some (4, (p0 : Int)), some (0, x1), some (0, x2), some (0, x3)] [(0, ((120 * x1) + x3)), (4, ((p0 + 13 : Nat) : Int))] G R V)
      refine wp_aI rfl rfl (ly8_18 l0).2 s32 (?_ : wpv K_X8_settles d P 164 [some (4, (p0 : Int)), some (0, x1), some (0, x2), some (0, x3)] [(0, (V (p0 + 13) (((120 * x1) + x3))))] G R V)
      refine wp_go 168 rfl rfl rfl (?_ : wpv K_X8_settles d P 168 [some (4, (p0 : Int)), some (0, x1), some (0, x2), some (0, x3)] [(0, (V (p0 + 13) (((120 * x1) + x3))))] G R V)
      refine wp_sto (i := (.istore_n 2)) _ rfl rfl (fun _ => rfl) rfl rfl rfl ?_
      refine wp_wk (L' := [some (4, (p0 : Int)), some (0, x1), some (0, (V (p0 + 13) (((120 * x1) + x3)))), some (0, x3)]) (wk_s (wk_s (wk_s (wk_s wk_0)))) ?_
      show wpv K_X8_settles d P 169 [some (4, (p0 : Int)), some (0, x1), some (0, (V (p0 + 13) (((120 * x1) + x3)))), some (0, x3)] [] G R V
      obtain ⟨s36, w⟩ := w
      refine wp_inc (x := 3) (k := 1) (a := x3) (c := (x3 + 1)) _ rfl rfl rfl rfl s36 (by omega) rfl ?_
      show wpv K_X8_settles d P 172 [some (4, (p0 : Int)), some (0, x1), some (0, (V (p0 + 13) (((120 * x1) + x3)))), some (0, (x3 + 1))] [] G R V
      refine wp_go 130 rfl rfl rfl (?_ : wpv K_X8_settles d P 130 [some (4, (p0 : Int)), some (0, x1), some (0, (V (p0 + 13) (((120 * x1) + x3)))), some (0, (x3 + 1))] [] G R V)
      exact wp_wk (wk_s (wk_s (wk_s (wk_s wk_0)))) w

theorem t_X8_settles_263 {d : Nat} {P : gP} {p0 : Nat} {x1 : Int} {G : List gS} {R V : gV} (l0 : lay8 G R p0) (w : ((i32 x1) ∧ (((x1 < 0) → wpv K_X8_settles d P 353 [some (4, (p0 : Int)), some (0, 0)] [] G R V) ∧ ((¬ x1 < 0) → ((i32 (V p0 12)) → ((i32 ((V p0 12) - 1)) ∧ (((¬ x1 = ((V p0 12) - 1)) → ((0 ≤ x1 ∧ x1 < 300) ∧ ((i32 (x1 + 1)) ∧ wpv K_X8_settles d P 292 [some (4, (p0 : Int)), some (0, x1), some (0, (x1 + 1))] [] G R (wr V (p0 + 17) x1 0)))) ∧ ((x1 = ((V p0 12) - 1)) → ((0 ≤ x1 ∧ x1 < 300) ∧ ((i32 (x1 + 1)) ∧ wpv K_X8_settles d P 292 [some (4, (p0 : Int)), some (0, x1), some (0, (x1 + 1))] [] G R (wr V (p0 + 17) x1 1))))))))))) : wpv K_X8_settles d P 263 [some (4, (p0 : Int)), some (0, x1)] [] G R V := by
  refine wp_ld (i := (.iload_n 1)) (0, x1) rfl rfl (fun _ => rfl) rfl rfl (?_ : wpv K_X8_settles d P 264 [some (4, (p0 : Int)), some (0, x1)] [(0, x1)] G R V)
  obtain ⟨s1, w⟩ := w
  refine wp_if (c := .lt) 351 rfl rfl rfl s1 (fun q => ?_) (fun q => ?_)
  · have q : x1 < 0 := q
    replace w := w.1 q
    show wpv K_X8_settles d P 351 [some (4, (p0 : Int)), some (0, x1)] [] G R V
    refine wp_p (i := (.iconst 0)) rfl rfl (fun _ _ _ => rfl) (?_ : wpv K_X8_settles d P 352 [some (4, (p0 : Int)), some (0, x1)] [(0, 0)] G R V)
    refine wp_sto (i := (.istore_n 1)) _ rfl rfl (fun _ => rfl) rfl rfl rfl ?_
    refine wp_wk (L' := [some (4, (p0 : Int)), some (0, 0)]) (wk_s (wk_s wk_0)) ?_
    show wpv K_X8_settles d P 353 [some (4, (p0 : Int)), some (0, 0)] [] G R V
    exact wp_wk (wk_s (wk_s wk_0)) w
  · have q : ¬ x1 < 0 := q
    replace w := w.2 q
    show wpv K_X8_settles d P 267 [some (4, (p0 : Int)), some (0, x1)] [] G R V
    refine wp_ld (i := (.aload_n 0)) (4, (p0 : Int)) rfl rfl (fun _ => rfl) rfl rfl (?_ : wpv K_X8_settles d P 268 [some (4, (p0 : Int)), some (0, x1)] [(4, (p0 : Int))] G R V)
    refine wp_getA (k := 22) rfl rfl rfl (ly8_o l0) rfl rfl (ly8_22 l0).1 (?_ : wpv K_X8_settles d P 271 [some (4, (p0 : Int)), some (0, x1)] [(4, ((p0 + 17 : Nat) : Int))] G R V)
    refine wp_ld (i := (.iload_n 1)) (0, x1) rfl rfl (fun _ => rfl) rfl rfl (?_ : wpv K_X8_settles d P 272 [some (4, (p0 : Int)), some (0, x1)] [(0, x1), (4, ((p0 + 17 : Nat) : Int))] G R V)
    refine wp_ld (i := (.iload_n 1)) (0, x1) rfl rfl (fun _ => rfl) rfl rfl (?_ : wpv K_X8_settles d P 273 [some (4, (p0 : Int)), some (0, x1)] [(0, x1), (0, x1), (4, ((p0 + 17 : Nat) : Int))] G R V)
    refine wp_ld (i := (.aload_n 0)) (4, (p0 : Int)) rfl rfl (fun _ => rfl) rfl rfl (?_ : wpv K_X8_settles d P 274 [some (4, (p0 : Int)), some (0, x1)] [(4, (p0 : Int)), (0, x1), (0, x1), (4, ((p0 + 17 : Nat) : Int))] G R V)
    refine wp_rng (fun vr2 => ?_)
    have f3 : i32 (V p0 12) := vr_f0 vr2 (ly8_o l0) rfl rfl
    replace w := w f3
    refine wp_getI (k := 12) rfl rfl rfl (ly8_o l0) rfl rfl (?_ : wpv K_X8_settles d P 277 [some (4, (p0 : Int)), some (0, x1)] [(0, (V p0 12)), (0, x1), (0, x1), (4, ((p0 + 17 : Nat) : Int))] G R V)
    refine wp_p (i := (.iconst 1)) rfl rfl (fun _ _ _ => rfl) (?_ : wpv K_X8_settles d P 278 [some (4, (p0 : Int)), some (0, x1)] [(0, 1), (0, (V p0 12)), (0, x1), (0, x1), (4, ((p0 + 17 : Nat) : Int))] G R V)
    obtain ⟨s4, w⟩ := w
    refine wp_xsub rfl rfl s4 (?_ : wpv K_X8_settles d P 279 [some (4, (p0 : Int)), some (0, x1)] [(0, ((V p0 12) - 1)), (0, x1), (0, x1), (4, ((p0 + 17 : Nat) : Int))] G R V)
    refine wp_icmp (c := .ne) 286 rfl rfl rfl s1 s4 (fun q => ?_) (fun q => ?_)
    · have q : ¬ x1 = ((V p0 12) - 1) := q
      replace w := w.1 q
      show wpv K_X8_settles d P 286 [some (4, (p0 : Int)), some (0, x1)] [(0, x1), (4, ((p0 + 17 : Nat) : Int))] G R V
      refine wp_p (i := (.lconst 0)) rfl rfl (fun _ _ _ => rfl) (?_ : wpv K_X8_settles d P 287 [some (4, (p0 : Int)), some (0, x1)] [(2, 0), (0, x1), (4, ((p0 + 17 : Nat) : Int))] G R V)
      obtain ⟨s5, w⟩ := w
      refine wp_sJ rfl rfl (ly8_22 l0).2 s5 ⟨by omega, by omega⟩ (?_ : wpv K_X8_settles d P 288 [some (4, (p0 : Int)), some (0, x1)] [] G R (wr V (p0 + 17) x1 0))
      refine wp_ld (i := (.iload_n 1)) (0, x1) rfl rfl (fun _ => rfl) rfl rfl (?_ : wpv K_X8_settles d P 289 [some (4, (p0 : Int)), some (0, x1)] [(0, x1)] G R (wr V (p0 + 17) x1 0))
      refine wp_p (i := (.iconst 1)) rfl rfl (fun _ _ _ => rfl) (?_ : wpv K_X8_settles d P 290 [some (4, (p0 : Int)), some (0, x1)] [(0, 1), (0, x1)] G R (wr V (p0 + 17) x1 0))
      obtain ⟨s6, w⟩ := w
      refine wp_xadd rfl rfl s6 (?_ : wpv K_X8_settles d P 291 [some (4, (p0 : Int)), some (0, x1)] [(0, (x1 + 1))] G R (wr V (p0 + 17) x1 0))
      refine wp_sto (i := (.istore_n 2)) _ rfl rfl (fun _ => rfl) rfl rfl rfl ?_
      refine wp_wk (L' := [some (4, (p0 : Int)), some (0, x1), some (0, (x1 + 1))]) (wk_s (wk_s (wk_s wk_0))) ?_
      show wpv K_X8_settles d P 292 [some (4, (p0 : Int)), some (0, x1), some (0, (x1 + 1))] [] G R (wr V (p0 + 17) x1 0)
      exact wp_wk (wk_s (wk_s (wk_s wk_0))) w
    · have q : x1 = ((V p0 12) - 1) := Decidable.not_not.mp q
      replace w := w.2 q
      show wpv K_X8_settles d P 282 [some (4, (p0 : Int)), some (0, x1)] [(0, x1), (4, ((p0 + 17 : Nat) : Int))] G R V
      refine wp_p (i := (.lconst 1)) rfl rfl (fun _ _ _ => rfl) (?_ : wpv K_X8_settles d P 283 [some (4, (p0 : Int)), some (0, x1)] [(2, 1), (0, x1), (4, ((p0 + 17 : Nat) : Int))] G R V)
      refine wp_go 287 rfl rfl rfl (?_ : wpv K_X8_settles d P 287 [some (4, (p0 : Int)), some (0, x1)] [(2, 1), (0, x1), (4, ((p0 + 17 : Nat) : Int))] G R V)
      obtain ⟨s7, w⟩ := w
      refine wp_sJ rfl rfl (ly8_22 l0).2 s7 ⟨by omega, by omega⟩ (?_ : wpv K_X8_settles d P 288 [some (4, (p0 : Int)), some (0, x1)] [] G R (wr V (p0 + 17) x1 1))
      refine wp_ld (i := (.iload_n 1)) (0, x1) rfl rfl (fun _ => rfl) rfl rfl (?_ : wpv K_X8_settles d P 289 [some (4, (p0 : Int)), some (0, x1)] [(0, x1)] G R (wr V (p0 + 17) x1 1))
      refine wp_p (i := (.iconst 1)) rfl rfl (fun _ _ _ => rfl) (?_ : wpv K_X8_settles d P 290 [some (4, (p0 : Int)), some (0, x1)] [(0, 1), (0, x1)] G R (wr V (p0 + 17) x1 1))
      obtain ⟨s8, w⟩ := w
      refine wp_xadd rfl rfl s8 (?_ : wpv K_X8_settles d P 291 [some (4, (p0 : Int)), some (0, x1)] [(0, (x1 + 1))] G R (wr V (p0 + 17) x1 1))
      refine wp_sto (i := (.istore_n 2)) _ rfl rfl (fun _ => rfl) rfl rfl rfl ?_
      refine wp_wk (L' := [some (4, (p0 : Int)), some (0, x1), some (0, (x1 + 1))]) (wk_s (wk_s (wk_s wk_0))) ?_
      show wpv K_X8_settles d P 292 [some (4, (p0 : Int)), some (0, x1), some (0, (x1 + 1))] [] G R (wr V (p0 + 17) x1 1)
      exact wp_wk (wk_s (wk_s (wk_s wk_0))) w

theorem t_X8_settles_292 {d : Nat} {P : gP} {p0 : Nat} {x1 : Int} {x2 : Int} {G : List gS} {R V : gV} (l0 : lay8 G R p0) (w : ((i32 (V p0 12)) → ((i32 x2) ∧ (((¬ x2 < (V p0 12)) → ((i32 (x1 - 1)) ∧ wpv K_X8_settles d P 263 [some (4, (p0 : Int)), some (0, (x1 - 1))] [] G R V)) ∧ ((x2 < (V p0 12)) → ((0 ≤ x2 ∧ x2 < 301) ∧ ((i32 (V (p0 + 10) x2)) → ((0 ≤ x1 ∧ x1 < 301) ∧ ((i32 (V (p0 + 10) x1)) → (((¬ (V (p0 + 10) x1) < (V (p0 + 10) x2)) → ((i32 (x2 + 1)) ∧ wpv K_X8_settles d P 292 [some (4, (p0 : Int)), some (0, x1), some (0, (x2 + 1))] [] G R V)) ∧ (((V (p0 + 10) x1) < (V (p0 + 10) x2)) → cwv d (fun r V10 => ∃ v11 : Int, r = some (0, v11) ∧ ((i32 v11) ∧ (((v11 = 0) → ((i32 (x2 + 1)) ∧ wpv K_X8_settles d P 292 [some (4, (p0 : Int)), some (0, x1), some (0, (x2 + 1))] [] G R V10)) ∧ ((¬ v11 = 0) → ((0 ≤ x1 ∧ x1 < 300) ∧ ((i64 (V10 (p0 + 17) x1)) → ((0 ≤ x2 ∧ x2 < 300) ∧ ((i64 (V10 (p0 + 17) x2)) → ((i32 (x2 + 1)) ∧ wpv K_X8_settles d P 292 [some (4, (p0 : Int)), some (0, x1), some (0, (x2 + 1))] [] G R (wr V10 (p0 + 17) x1 ((jsub ((V10 (p0 + 17) x1)) ((V10 (p0 + 17) x2)))))))))))))) 176 [(4, (p0 : Int)), (0, x1), (0, x2)] G R V))))))))))) : wpv K_X8_settles d P 292 [some (4, (p0 : Int)), some (0, x1), some (0, x2)] [] G R V := by
  refine wp_ld (i := (.iload_n 2)) (0, x2) rfl rfl (fun _ => rfl) rfl rfl (?_ : wpv K_X8_settles d P 293 [some (4, (p0 : Int)), some (0, x1), some (0, x2)] [(0, x2)] G R V)
  refine wp_ld (i := (.aload_n 0)) (4, (p0 : Int)) rfl rfl (fun _ => rfl) rfl rfl (?_ : wpv K_X8_settles d P 294 [some (4, (p0 : Int)), some (0, x1), some (0, x2)] [(4, (p0 : Int)), (0, x2)] G R V)
  refine wp_rng (fun vr1 => ?_)
  have f2 : i32 (V p0 12) := vr_f0 vr1 (ly8_o l0) rfl rfl
  replace w := w f2
  refine wp_getI (k := 12) rfl rfl rfl (ly8_o l0) rfl rfl (?_ : wpv K_X8_settles d P 297 [some (4, (p0 : Int)), some (0, x1), some (0, x2)] [(0, (V p0 12)), (0, x2)] G R V)
  obtain ⟨s3, w⟩ := w
  refine wp_icmp (c := .ge) 345 rfl rfl rfl s3 f2 (fun q => ?_) (fun q => ?_)
  · have q : ¬ x2 < (V p0 12) := q
    replace w := w.1 q
    show wpv K_X8_settles d P 345 [some (4, (p0 : Int)), some (0, x1), some (0, x2)] [] G R V
    obtain ⟨s4, w⟩ := w
    refine wp_inc (x := 1) (k := -1) (a := x1) (c := (x1 - 1)) _ rfl rfl rfl rfl (by have := s4; unfold i32 at *; omega) (by omega) rfl ?_
    show wpv K_X8_settles d P 348 [some (4, (p0 : Int)), some (0, (x1 - 1)), some (0, x2)] [] G R V
    refine wp_go 263 rfl rfl rfl (?_ : wpv K_X8_settles d P 263 [some (4, (p0 : Int)), some (0, (x1 - 1)), some (0, x2)] [] G R V)
    exact wp_wk (wk_s (wk_s wk_0)) w
  · have q : x2 < (V p0 12) := Decidable.not_not.mp q
    replace w := w.2 q
    show wpv K_X8_settles d P 300 [some (4, (p0 : Int)), some (0, x1), some (0, x2)] [] G R V
    refine wp_ld (i := (.aload_n 0)) (4, (p0 : Int)) rfl rfl (fun _ => rfl) rfl rfl (?_ : wpv K_X8_settles d P 301 [some (4, (p0 : Int)), some (0, x1), some (0, x2)] [(4, (p0 : Int))] G R V)
    refine wp_getA (k := 15) rfl rfl rfl (ly8_o l0) rfl rfl (ly8_15 l0).1 (?_ : wpv K_X8_settles d P 304 [some (4, (p0 : Int)), some (0, x1), some (0, x2)] [(4, ((p0 + 10 : Nat) : Int))] G R V)
    refine wp_ld (i := (.iload_n 2)) (0, x2) rfl rfl (fun _ => rfl) rfl rfl (?_ : wpv K_X8_settles d P 305 [some (4, (p0 : Int)), some (0, x1), some (0, x2)] [(0, x2), (4, ((p0 + 10 : Nat) : Int))] G R V)
    obtain ⟨s5, w⟩ := w
    have f6 : i32 (V (p0 + 10) x2) := vr_a0 vr1 (ly8_15 l0).2 s5
    replace w := w f6
    refine wp_aI rfl rfl (ly8_15 l0).2 s5 (?_ : wpv K_X8_settles d P 306 [some (4, (p0 : Int)), some (0, x1), some (0, x2)] [(0, (V (p0 + 10) x2))] G R V)
    refine wp_ld (i := (.aload_n 0)) (4, (p0 : Int)) rfl rfl (fun _ => rfl) rfl rfl (?_ : wpv K_X8_settles d P 307 [some (4, (p0 : Int)), some (0, x1), some (0, x2)] [(4, (p0 : Int)), (0, (V (p0 + 10) x2))] G R V)
    refine wp_getA (k := 15) rfl rfl rfl (ly8_o l0) rfl rfl (ly8_15 l0).1 (?_ : wpv K_X8_settles d P 310 [some (4, (p0 : Int)), some (0, x1), some (0, x2)] [(4, ((p0 + 10 : Nat) : Int)), (0, (V (p0 + 10) x2))] G R V)
    refine wp_ld (i := (.iload_n 1)) (0, x1) rfl rfl (fun _ => rfl) rfl rfl (?_ : wpv K_X8_settles d P 311 [some (4, (p0 : Int)), some (0, x1), some (0, x2)] [(0, x1), (4, ((p0 + 10 : Nat) : Int)), (0, (V (p0 + 10) x2))] G R V)
    obtain ⟨s7, w⟩ := w
    have f8 : i32 (V (p0 + 10) x1) := vr_a0 vr1 (ly8_15 l0).2 s7
    replace w := w f8
    refine wp_aI rfl rfl (ly8_15 l0).2 s7 (?_ : wpv K_X8_settles d P 312 [some (4, (p0 : Int)), some (0, x1), some (0, x2)] [(0, (V (p0 + 10) x1)), (0, (V (p0 + 10) x2))] G R V)
    refine wp_icmp (c := .le) 339 rfl rfl rfl f6 f8 (fun q => ?_) (fun q => ?_)
    · have q : ¬ (V (p0 + 10) x1) < (V (p0 + 10) x2) := q
      replace w := w.1 q
      show wpv K_X8_settles d P 339 [some (4, (p0 : Int)), some (0, x1), some (0, x2)] [] G R V
      obtain ⟨s9, w⟩ := w
      refine wp_inc (x := 2) (k := 1) (a := x2) (c := (x2 + 1)) _ rfl rfl rfl rfl s9 (by omega) rfl ?_
      show wpv K_X8_settles d P 342 [some (4, (p0 : Int)), some (0, x1), some (0, (x2 + 1))] [] G R V
      refine wp_go 292 rfl rfl rfl (?_ : wpv K_X8_settles d P 292 [some (4, (p0 : Int)), some (0, x1), some (0, (x2 + 1))] [] G R V)
      exact wp_wk (wk_s (wk_s (wk_s wk_0))) w
    · have q : (V (p0 + 10) x1) < (V (p0 + 10) x2) := Decidable.not_not.mp q
      replace w := w.2 q
      show wpv K_X8_settles d P 315 [some (4, (p0 : Int)), some (0, x1), some (0, x2)] [] G R V
      refine wp_ld (i := (.aload_n 0)) (4, (p0 : Int)) rfl rfl (fun _ => rfl) rfl rfl (?_ : wpv K_X8_settles d P 316 [some (4, (p0 : Int)), some (0, x1), some (0, x2)] [(4, (p0 : Int))] G R V)
      refine wp_ld (i := (.iload_n 1)) (0, x1) rfl rfl (fun _ => rfl) rfl rfl (?_ : wpv K_X8_settles d P 317 [some (4, (p0 : Int)), some (0, x1), some (0, x2)] [(0, x1), (4, (p0 : Int))] G R V)
      refine wp_ld (i := (.iload_n 2)) (0, x2) rfl rfl (fun _ => rfl) rfl rfl (?_ : wpv K_X8_settles d P 318 [some (4, (p0 : Int)), some (0, x1), some (0, x2)] [(0, x2), (0, x1), (4, (p0 : Int))] G R V)
      refine wp_virt (as := [(0, x1), (0, x2)]) (a := p0) (st := []) _ rfl rfl rfl rfl rfl rfl (ly8_o l0) (Nat.le_of_ble_eq_true rfl) (cwv_kI w (fun v11 V10 w => ?_))
      show wpv K_X8_settles d P 321 [some (4, (p0 : Int)), some (0, x1), some (0, x2)] [(0, v11)] G R V10
      obtain ⟨s12, w⟩ := w
      refine wp_if (c := .eq) 339 rfl rfl rfl s12 (fun q => ?_) (fun q => ?_)
      · have q : v11 = 0 := q
        replace w := w.1 q
        show wpv K_X8_settles d P 339 [some (4, (p0 : Int)), some (0, x1), some (0, x2)] [] G R V10
        obtain ⟨s13, w⟩ := w
        refine wp_inc (x := 2) (k := 1) (a := x2) (c := (x2 + 1)) _ rfl rfl rfl rfl s13 (by omega) rfl ?_
        show wpv K_X8_settles d P 342 [some (4, (p0 : Int)), some (0, x1), some (0, (x2 + 1))] [] G R V10
        refine wp_go 292 rfl rfl rfl (?_ : wpv K_X8_settles d P 292 [some (4, (p0 : Int)), some (0, x1), some (0, (x2 + 1))] [] G R V10)
        exact wp_wk (wk_s (wk_s (wk_s wk_0))) w
      · have q : ¬ v11 = 0 := q
        replace w := w.2 q
        show wpv K_X8_settles d P 324 [some (4, (p0 : Int)), some (0, x1), some (0, x2)] [] G R V10
        refine wp_ld (i := (.aload_n 0)) (4, (p0 : Int)) rfl rfl (fun _ => rfl) rfl rfl (?_ : wpv K_X8_settles d P 325 [some (4, (p0 : Int)), some (0, x1), some (0, x2)] [(4, (p0 : Int))] G R V10)
        refine wp_getA (k := 22) rfl rfl rfl (ly8_o l0) rfl rfl (ly8_22 l0).1 (?_ : wpv K_X8_settles d P 328 [some (4, (p0 : Int)), some (0, x1), some (0, x2)] [(4, ((p0 + 17 : Nat) : Int))] G R V10)
        refine wp_ld (i := (.iload_n 1)) (0, x1) rfl rfl (fun _ => rfl) rfl rfl (?_ : wpv K_X8_settles d P 329 [some (4, (p0 : Int)), some (0, x1), some (0, x2)] [(0, x1), (4, ((p0 + 17 : Nat) : Int))] G R V10)
        refine wp_p (i := .dup2) rfl rfl (fun _ _ _ => rfl) (?_ : wpv K_X8_settles d P 330 [some (4, (p0 : Int)), some (0, x1), some (0, x2)] [(0, x1), (4, ((p0 + 17 : Nat) : Int)), (0, x1), (4, ((p0 + 17 : Nat) : Int))] G R V10)
        obtain ⟨s14, w⟩ := w
        refine wp_rng (fun vr15 => ?_)
        have f16 : i64 (V10 (p0 + 17) x1) := vr_a1 vr15 (ly8_22 l0).2 s14
        replace w := w f16
        refine wp_aJ rfl rfl (ly8_22 l0).2 s14 (?_ : wpv K_X8_settles d P 331 [some (4, (p0 : Int)), some (0, x1), some (0, x2)] [(2, (V10 (p0 + 17) x1)), (0, x1), (4, ((p0 + 17 : Nat) : Int))] G R V10)
        refine wp_ld (i := (.aload_n 0)) (4, (p0 : Int)) rfl rfl (fun _ => rfl) rfl rfl (?_ : wpv K_X8_settles d P 332 [some (4, (p0 : Int)), some (0, x1), some (0, x2)] [(4, (p0 : Int)), (2, (V10 (p0 + 17) x1)), (0, x1), (4, ((p0 + 17 : Nat) : Int))] G R V10)
        refine wp_getA (k := 22) rfl rfl rfl (ly8_o l0) rfl rfl (ly8_22 l0).1 (?_ : wpv K_X8_settles d P 335 [some (4, (p0 : Int)), some (0, x1), some (0, x2)] [(4, ((p0 + 17 : Nat) : Int)), (2, (V10 (p0 + 17) x1)), (0, x1), (4, ((p0 + 17 : Nat) : Int))] G R V10)
        refine wp_ld (i := (.iload_n 2)) (0, x2) rfl rfl (fun _ => rfl) rfl rfl (?_ : wpv K_X8_settles d P 336 [some (4, (p0 : Int)), some (0, x1), some (0, x2)] [(0, x2), (4, ((p0 + 17 : Nat) : Int)), (2, (V10 (p0 + 17) x1)), (0, x1), (4, ((p0 + 17 : Nat) : Int))] G R V10)
        obtain ⟨s17, w⟩ := w
        have f18 : i64 (V10 (p0 + 17) x2) := vr_a1 vr15 (ly8_22 l0).2 s17
        replace w := w f18
        refine wp_aJ rfl rfl (ly8_22 l0).2 s17 (?_ : wpv K_X8_settles d P 337 [some (4, (p0 : Int)), some (0, x1), some (0, x2)] [(2, (V10 (p0 + 17) x2)), (2, (V10 (p0 + 17) x1)), (0, x1), (4, ((p0 + 17 : Nat) : Int))] G R V10)
        refine wp_jsub rfl rfl (?_ : wpv K_X8_settles d P 338 [some (4, (p0 : Int)), some (0, x1), some (0, x2)] [(2, (jsub ((V10 (p0 + 17) x1)) ((V10 (p0 + 17) x2)))), (0, x1), (4, ((p0 + 17 : Nat) : Int))] G R V10)
        refine wp_sJ rfl rfl (ly8_22 l0).2 s14 (t64 _) (?_ : wpv K_X8_settles d P 339 [some (4, (p0 : Int)), some (0, x1), some (0, x2)] [] G R (wr V10 (p0 + 17) x1 ((jsub ((V10 (p0 + 17) x1)) ((V10 (p0 + 17) x2))))))
        obtain ⟨s19, w⟩ := w
        refine wp_inc (x := 2) (k := 1) (a := x2) (c := (x2 + 1)) _ rfl rfl rfl rfl s19 (by omega) rfl ?_
        show wpv K_X8_settles d P 342 [some (4, (p0 : Int)), some (0, x1), some (0, (x2 + 1))] [] G R (wr V10 (p0 + 17) x1 ((jsub ((V10 (p0 + 17) x1)) ((V10 (p0 + 17) x2)))))
        refine wp_go 292 rfl rfl rfl (?_ : wpv K_X8_settles d P 292 [some (4, (p0 : Int)), some (0, x1), some (0, (x2 + 1))] [] G R (wr V10 (p0 + 17) x1 ((jsub ((V10 (p0 + 17) x1)) ((V10 (p0 + 17) x2))))))
        exact wp_wk (wk_s (wk_s (wk_s wk_0))) w

theorem t_X8_settles_353 {d : Nat} {P : gP} {p0 : Nat} {x1 : Int} {G : List gS} {R V : gV} (l0 : lay8 G R p0) (w : ((i32 (V p0 13)) → ((i32 x1) ∧ (((¬ x1 < (V p0 13)) → P none V) ∧ ((x1 < (V p0 13)) → wpv K_X8_settles d P 363 [some (4, (p0 : Int)), some (0, x1), some (0, 0)] [] G R V))))) : wpv K_X8_settles d P 353 [some (4, (p0 : Int)), some (0, x1)] [] G R V := by
  refine wp_ld (i := (.iload_n 1)) (0, x1) rfl rfl (fun _ => rfl) rfl rfl (?_ : wpv K_X8_settles d P 354 [some (4, (p0 : Int)), some (0, x1)] [(0, x1)] G R V)
  refine wp_ld (i := (.aload_n 0)) (4, (p0 : Int)) rfl rfl (fun _ => rfl) rfl rfl (?_ : wpv K_X8_settles d P 355 [some (4, (p0 : Int)), some (0, x1)] [(4, (p0 : Int)), (0, x1)] G R V)
  refine wp_rng (fun vr1 => ?_)
  have f2 : i32 (V p0 13) := vr_f0 vr1 (ly8_o l0) rfl rfl
  replace w := w f2
  refine wp_getI (k := 13) rfl rfl rfl (ly8_o l0) rfl rfl (?_ : wpv K_X8_settles d P 358 [some (4, (p0 : Int)), some (0, x1)] [(0, (V p0 13)), (0, x1)] G R V)
  obtain ⟨s3, w⟩ := w
  refine wp_icmp (c := .ge) 466 rfl rfl rfl s3 f2 (fun q => ?_) (fun q => ?_)
  · have q : ¬ x1 < (V p0 13) := q
    replace w := w.1 q
    show wpv K_X8_settles d P 466 [some (4, (p0 : Int)), some (0, x1)] [] G R V
    exact wp_r0 rfl rfl rfl w
  · have q : x1 < (V p0 13) := Decidable.not_not.mp q
    replace w := w.2 q
    show wpv K_X8_settles d P 361 [some (4, (p0 : Int)), some (0, x1)] [] G R V
    refine wp_p (i := (.iconst 0)) rfl rfl (fun _ _ _ => rfl) (?_ : wpv K_X8_settles d P 362 [some (4, (p0 : Int)), some (0, x1)] [(0, 0)] G R V)
    refine wp_sto (i := (.istore_n 2)) _ rfl rfl (fun _ => rfl) rfl rfl rfl ?_
    refine wp_wk (L' := [some (4, (p0 : Int)), some (0, x1), some (0, 0)]) (wk_s (wk_s (wk_s wk_0))) ?_
    show wpv K_X8_settles d P 363 [some (4, (p0 : Int)), some (0, x1), some (0, 0)] [] G R V
    exact wp_wk (wk_s (wk_s (wk_s wk_0))) w

theorem t_X8_settles_363 {d : Nat} {P : gP} {p0 : Nat} {x1 : Int} {x2 : Int} {G : List gS} {R V : gV} (l0 : lay8 G R p0) (w : ((i32 (V p0 13)) → ((i32 x2) ∧ (((¬ x2 < (V p0 13)) → ((i32 (x1 + 1)) ∧ wpv K_X8_settles d P 353 [some (4, (p0 : Int)), some (0, (x1 + 1))] [] G R V)) ∧ ((x2 < (V p0 13)) → wpv K_X8_settles d P 376 [some (4, (p0 : Int)), some (0, x1), some (0, x2), some (0, 0), some (0, 0)] [] G R V))))) : wpv K_X8_settles d P 363 [some (4, (p0 : Int)), some (0, x1), some (0, x2)] [] G R V := by
  refine wp_ld (i := (.iload_n 2)) (0, x2) rfl rfl (fun _ => rfl) rfl rfl (?_ : wpv K_X8_settles d P 364 [some (4, (p0 : Int)), some (0, x1), some (0, x2)] [(0, x2)] G R V)
  refine wp_ld (i := (.aload_n 0)) (4, (p0 : Int)) rfl rfl (fun _ => rfl) rfl rfl (?_ : wpv K_X8_settles d P 365 [some (4, (p0 : Int)), some (0, x1), some (0, x2)] [(4, (p0 : Int)), (0, x2)] G R V)
  refine wp_rng (fun vr1 => ?_)
  have f2 : i32 (V p0 13) := vr_f0 vr1 (ly8_o l0) rfl rfl
  replace w := w f2
  refine wp_getI (k := 13) rfl rfl rfl (ly8_o l0) rfl rfl (?_ : wpv K_X8_settles d P 368 [some (4, (p0 : Int)), some (0, x1), some (0, x2)] [(0, (V p0 13)), (0, x2)] G R V)
  obtain ⟨s3, w⟩ := w
  refine wp_icmp (c := .ge) 460 rfl rfl rfl s3 f2 (fun q => ?_) (fun q => ?_)
  · have q : ¬ x2 < (V p0 13) := q
    replace w := w.1 q
    show wpv K_X8_settles d P 460 [some (4, (p0 : Int)), some (0, x1), some (0, x2)] [] G R V
    obtain ⟨s4, w⟩ := w
    refine wp_inc (x := 1) (k := 1) (a := x1) (c := (x1 + 1)) _ rfl rfl rfl rfl s4 (by omega) rfl ?_
    show wpv K_X8_settles d P 463 [some (4, (p0 : Int)), some (0, (x1 + 1)), some (0, x2)] [] G R V
    refine wp_go 353 rfl rfl rfl (?_ : wpv K_X8_settles d P 353 [some (4, (p0 : Int)), some (0, (x1 + 1)), some (0, x2)] [] G R V)
    exact wp_wk (wk_s (wk_s wk_0)) w
  · have q : x2 < (V p0 13) := Decidable.not_not.mp q
    replace w := w.2 q
    show wpv K_X8_settles d P 371 [some (4, (p0 : Int)), some (0, x1), some (0, x2)] [] G R V
    refine wp_p (i := (.iconst 0)) rfl rfl (fun _ _ _ => rfl) (?_ : wpv K_X8_settles d P 372 [some (4, (p0 : Int)), some (0, x1), some (0, x2)] [(0, 0)] G R V)
    refine wp_sto (i := (.istore_n 3)) _ rfl rfl (fun _ => rfl) rfl rfl rfl ?_
    refine wp_wk (L' := [some (4, (p0 : Int)), some (0, x1), some (0, x2), some (0, 0)]) (wk_s (wk_s (wk_s (wk_s wk_0)))) ?_
    show wpv K_X8_settles d P 373 [some (4, (p0 : Int)), some (0, x1), some (0, x2), some (0, 0)] [] G R V
    refine wp_p (i := (.iconst 0)) rfl rfl (fun _ _ _ => rfl) (?_ : wpv K_X8_settles d P 374 [some (4, (p0 : Int)), some (0, x1), some (0, x2), some (0, 0)] [(0, 0)] G R V)
    refine wp_sto (i := (.istore 4)) _ rfl rfl (fun _ => rfl) rfl rfl rfl ?_
    refine wp_wk (L' := [some (4, (p0 : Int)), some (0, x1), some (0, x2), some (0, 0), some (0, 0)]) (wk_s (wk_s (wk_s (wk_s (wk_s wk_0))))) ?_
    show wpv K_X8_settles d P 376 [some (4, (p0 : Int)), some (0, x1), some (0, x2), some (0, 0), some (0, 0)] [] G R V
    exact wp_wk (wk_s (wk_s (wk_s (wk_s (wk_s wk_0))))) w

theorem t_X8_settles_376 {d : Nat} {P : gP} {p0 : Nat} {x1 : Int} {x2 : Int} {x3 : Int} {x4 : Int} {G : List gS} {R V : gV} (l0 : lay8 G R p0) (w : ((i32 (V p0 5)) → ((i32 x4) ∧ (((¬ x4 < (V p0 5)) → ((i32 (300 * x1)) ∧ ((i32 ((300 * x1) + x2)) ∧ ((0 ≤ x1 ∧ x1 < 300) ∧ ((i32 (V (p0 + 15) x1)) → ((0 ≤ (V (p0 + 15) x1) ∧ (V (p0 + 15) x1) < 301) ∧ ((i32 (V (p0 + 10) ((V (p0 + 15) x1)))) → ((i32 x3) ∧ ((0 ≤ x3 ∧ 0 < (V (p0 + 10) ((V (p0 + 15) x1)))) ∧ ((0 ≤ ((300 * x1) + x2) ∧ ((300 * x1) + x2) < 90000) ∧ ((i32 ((x3 / (V (p0 + 10) ((V (p0 + 15) x1)))))) ∧ ((i32 (x2 + 1)) ∧ wpv K_X8_settles d P 363 [some (4, (p0 : Int)), some (0, x1), some (0, (x2 + 1))] [] G R (wr V (p0 + 18) (((300 * x1) + x2)) ((x3 / (V (p0 + 10) ((V (p0 + 15) x1)))))))))))))))))) ∧ ((x4 < (V p0 5)) → ((0 ≤ x2 ∧ x2 < 300) ∧ ((i32 (V (p0 + 15) x2)) → ((i32 (120 * (V (p0 + 15) x2))) ∧ ((i32 ((120 * (V (p0 + 15) x2)) + x4)) ∧ ((0 ≤ ((120 * (V (p0 + 15) x2)) + x4) ∧ ((120 * (V (p0 + 15) x2)) + x4) < 36000) ∧ ((i32 (V (p0 + 13) (((120 * (V (p0 + 15) x2)) + x4)))) → ((0 ≤ x1 ∧ x1 < 300) ∧ ((i32 (V (p0 + 15) x1)) → cwv d (fun r V23 => ∃ v24 : Int, r = some (0, v24) ∧ ((i32 v24) ∧ (((v24 = 0) → ((i32 (x3 + 0)) ∧ ((i32 (x4 + 1)) ∧ wpv K_X8_settles d P 376 [some (4, (p0 : Int)), some (0, x1), some (0, x2), some (0, (x3 + 0)), some (0, (x4 + 1))] [] G R V23))) ∧ ((¬ v24 = 0) → ((i32 (x3 + 1)) ∧ ((i32 (x4 + 1)) ∧ wpv K_X8_settles d P 376 [some (4, (p0 : Int)), some (0, x1), some (0, x2), some (0, (x3 + 1)), some (0, (x4 + 1))] [] G R V23)))))) 176 [(4, (p0 : Int)), (0, (V (p0 + 13) (((120 * (V (p0 + 15) x2)) + x4)))), (0, (V (p0 + 15) x1))] G R V))))))))))))) : wpv K_X8_settles d P 376 [some (4, (p0 : Int)), some (0, x1), some (0, x2), some (0, x3), some (0, x4)] [] G R V := by
  refine wp_ld (i := (.iload 4)) (0, x4) rfl rfl (fun _ => rfl) rfl rfl (?_ : wpv K_X8_settles d P 378 [some (4, (p0 : Int)), some (0, x1), some (0, x2), some (0, x3), some (0, x4)] [(0, x4)] G R V)
  refine wp_ld (i := (.aload_n 0)) (4, (p0 : Int)) rfl rfl (fun _ => rfl) rfl rfl (?_ : wpv K_X8_settles d P 379 [some (4, (p0 : Int)), some (0, x1), some (0, x2), some (0, x3), some (0, x4)] [(4, (p0 : Int)), (0, x4)] G R V)
  refine wp_rng (fun vr1 => ?_)
  have f2 : i32 (V p0 5) := vr_f0 vr1 (ly8_o l0) rfl rfl
  replace w := w f2
  refine wp_getI (k := 5) rfl rfl rfl (ly8_o l0) rfl rfl (?_ : wpv K_X8_settles d P 382 [some (4, (p0 : Int)), some (0, x1), some (0, x2), some (0, x3), some (0, x4)] [(0, (V p0 5)), (0, x4)] G R V)
  obtain ⟨s3, w⟩ := w
  refine wp_icmp (c := .ge) 429 rfl rfl rfl s3 f2 (fun q => ?_) (fun q => ?_)
  · have q : ¬ x4 < (V p0 5) := q
    replace w := w.1 q
    show wpv K_X8_settles d P 429 [some (4, (p0 : Int)), some (0, x1), some (0, x2), some (0, x3), some (0, x4)] [] G R V
    refine wp_ld (i := (.aload_n 0)) (4, (p0 : Int)) rfl rfl (fun _ => rfl) rfl rfl (?_ : wpv K_X8_settles d P 430 [some (4, (p0 : Int)), some (0, x1), some (0, x2), some (0, x3), some (0, x4)] [(4, (p0 : Int))] G R V)
    refine wp_getA (k := 23) rfl rfl rfl (ly8_o l0) rfl rfl (ly8_23 l0).1 (?_ : wpv K_X8_settles d P 433 [some (4, (p0 : Int)), some (0, x1), some (0, x2), some (0, x3), some (0, x4)] [(4, ((p0 + 18 : Nat) : Int))] G R V)
    refine wp_p (i := (.sipush 300)) rfl rfl (fun _ _ _ => rfl) (?_ : wpv K_X8_settles d P 436 [some (4, (p0 : Int)), some (0, x1), some (0, x2), some (0, x3), some (0, x4)] [(0, 300), (4, ((p0 + 18 : Nat) : Int))] G R V)
    refine wp_ld (i := (.iload_n 1)) (0, x1) rfl rfl (fun _ => rfl) rfl rfl (?_ : wpv K_X8_settles d P 437 [some (4, (p0 : Int)), some (0, x1), some (0, x2), some (0, x3), some (0, x4)] [(0, x1), (0, 300), (4, ((p0 + 18 : Nat) : Int))] G R V)
    obtain ⟨s4, w⟩ := w
    refine wp_xmul rfl rfl s4 (?_ : wpv K_X8_settles d P 438 [some (4, (p0 : Int)), some (0, x1), some (0, x2), some (0, x3), some (0, x4)] [(0, (300 * x1)), (4, ((p0 + 18 : Nat) : Int))] G R V)
    refine wp_ld (i := (.iload_n 2)) (0, x2) rfl rfl (fun _ => rfl) rfl rfl (?_ : wpv K_X8_settles d P 439 [some (4, (p0 : Int)), some (0, x1), some (0, x2), some (0, x3), some (0, x4)] [(0, x2), (0, (300 * x1)), (4, ((p0 + 18 : Nat) : Int))] G R V)
    obtain ⟨s5, w⟩ := w
    refine wp_xadd rfl rfl s5 (?_ : wpv K_X8_settles d P 440 [some (4, (p0 : Int)), some (0, x1), some (0, x2), some (0, x3), some (0, x4)] [(0, ((300 * x1) + x2)), (4, ((p0 + 18 : Nat) : Int))] G R V)
    refine wp_ld (i := (.iload_n 3)) (0, x3) rfl rfl (fun _ => rfl) rfl rfl (?_ : wpv K_X8_settles d P 441 [some (4, (p0 : Int)), some (0, x1), some (0, x2), some (0, x3), some (0, x4)] [(0, x3), (0, ((300 * x1) + x2)), (4, ((p0 + 18 : Nat) : Int))] G R V)
    refine wp_ld (i := (.aload_n 0)) (4, (p0 : Int)) rfl rfl (fun _ => rfl) rfl rfl (?_ : wpv K_X8_settles d P 442 [some (4, (p0 : Int)), some (0, x1), some (0, x2), some (0, x3), some (0, x4)] [(4, (p0 : Int)), (0, x3), (0, ((300 * x1) + x2)), (4, ((p0 + 18 : Nat) : Int))] G R V)
    refine wp_getA (k := 15) rfl rfl rfl (ly8_o l0) rfl rfl (ly8_15 l0).1 (?_ : wpv K_X8_settles d P 445 [some (4, (p0 : Int)), some (0, x1), some (0, x2), some (0, x3), some (0, x4)] [(4, ((p0 + 10 : Nat) : Int)), (0, x3), (0, ((300 * x1) + x2)), (4, ((p0 + 18 : Nat) : Int))] G R V)
    refine wp_ld (i := (.aload_n 0)) (4, (p0 : Int)) rfl rfl (fun _ => rfl) rfl rfl (?_ : wpv K_X8_settles d P 446 [some (4, (p0 : Int)), some (0, x1), some (0, x2), some (0, x3), some (0, x4)] [(4, (p0 : Int)), (4, ((p0 + 10 : Nat) : Int)), (0, x3), (0, ((300 * x1) + x2)), (4, ((p0 + 18 : Nat) : Int))] G R V)
    refine wp_getA (k := 20) rfl rfl rfl (ly8_o l0) rfl rfl (ly8_20 l0).1 (?_ : wpv K_X8_settles d P 449 [some (4, (p0 : Int)), some (0, x1), some (0, x2), some (0, x3), some (0, x4)] [(4, ((p0 + 15 : Nat) : Int)), (4, ((p0 + 10 : Nat) : Int)), (0, x3), (0, ((300 * x1) + x2)), (4, ((p0 + 18 : Nat) : Int))] G R V)
    refine wp_ld (i := (.iload_n 1)) (0, x1) rfl rfl (fun _ => rfl) rfl rfl (?_ : wpv K_X8_settles d P 450 [some (4, (p0 : Int)), some (0, x1), some (0, x2), some (0, x3), some (0, x4)] [(0, x1), (4, ((p0 + 15 : Nat) : Int)), (4, ((p0 + 10 : Nat) : Int)), (0, x3), (0, ((300 * x1) + x2)), (4, ((p0 + 18 : Nat) : Int))] G R V)
    obtain ⟨s6, w⟩ := w
    have f7 : i32 (V (p0 + 15) x1) := vr_a0 vr1 (ly8_20 l0).2 s6
    replace w := w f7
    refine wp_aI rfl rfl (ly8_20 l0).2 s6 (?_ : wpv K_X8_settles d P 451 [some (4, (p0 : Int)), some (0, x1), some (0, x2), some (0, x3), some (0, x4)] [(0, (V (p0 + 15) x1)), (4, ((p0 + 10 : Nat) : Int)), (0, x3), (0, ((300 * x1) + x2)), (4, ((p0 + 18 : Nat) : Int))] G R V)
    obtain ⟨s8, w⟩ := w
    have f9 : i32 (V (p0 + 10) ((V (p0 + 15) x1))) := vr_a0 vr1 (ly8_15 l0).2 s8
    replace w := w f9
    refine wp_aI rfl rfl (ly8_15 l0).2 s8 (?_ : wpv K_X8_settles d P 452 [some (4, (p0 : Int)), some (0, x1), some (0, x2), some (0, x3), some (0, x4)] [(0, (V (p0 + 10) ((V (p0 + 15) x1)))), (0, x3), (0, ((300 * x1) + x2)), (4, ((p0 + 18 : Nat) : Int))] G R V)
    obtain ⟨s10, w⟩ := w
    obtain ⟨s11, w⟩ := w
    refine wp_xdiv rfl rfl s11.1 s11.2 s10 f9 (?_ : wpv K_X8_settles d P 453 [some (4, (p0 : Int)), some (0, x1), some (0, x2), some (0, x3), some (0, x4)] [(0, (x3 / (V (p0 + 10) ((V (p0 + 15) x1))))), (0, ((300 * x1) + x2)), (4, ((p0 + 18 : Nat) : Int))] G R V)
    obtain ⟨s12, w⟩ := w
    obtain ⟨s13, w⟩ := w
    refine wp_sI rfl rfl (ly8_23 l0).2 s12 s13 (?_ : wpv K_X8_settles d P 454 [some (4, (p0 : Int)), some (0, x1), some (0, x2), some (0, x3), some (0, x4)] [] G R (wr V (p0 + 18) (((300 * x1) + x2)) ((x3 / (V (p0 + 10) ((V (p0 + 15) x1)))))))
    obtain ⟨s14, w⟩ := w
    refine wp_inc (x := 2) (k := 1) (a := x2) (c := (x2 + 1)) _ rfl rfl rfl rfl s14 (by omega) rfl ?_
    show wpv K_X8_settles d P 457 [some (4, (p0 : Int)), some (0, x1), some (0, (x2 + 1)), some (0, x3), some (0, x4)] [] G R (wr V (p0 + 18) (((300 * x1) + x2)) ((x3 / (V (p0 + 10) ((V (p0 + 15) x1))))))
    refine wp_go 363 rfl rfl rfl (?_ : wpv K_X8_settles d P 363 [some (4, (p0 : Int)), some (0, x1), some (0, (x2 + 1)), some (0, x3), some (0, x4)] [] G R (wr V (p0 + 18) (((300 * x1) + x2)) ((x3 / (V (p0 + 10) ((V (p0 + 15) x1)))))))
    exact wp_wk (wk_s (wk_s (wk_s wk_0))) w
  · have q : x4 < (V p0 5) := Decidable.not_not.mp q
    replace w := w.2 q
    show wpv K_X8_settles d P 385 [some (4, (p0 : Int)), some (0, x1), some (0, x2), some (0, x3), some (0, x4)] [] G R V
    refine wp_ld (i := (.iload_n 3)) (0, x3) rfl rfl (fun _ => rfl) rfl rfl (?_ : wpv K_X8_settles d P 386 [some (4, (p0 : Int)), some (0, x1), some (0, x2), some (0, x3), some (0, x4)] [(0, x3)] G R V)
    refine wp_ld (i := (.aload_n 0)) (4, (p0 : Int)) rfl rfl (fun _ => rfl) rfl rfl (?_ : wpv K_X8_settles d P 387 [some (4, (p0 : Int)), some (0, x1), some (0, x2), some (0, x3), some (0, x4)] [(4, (p0 : Int)), (0, x3)] G R V)
    refine wp_ld (i := (.aload_n 0)) (4, (p0 : Int)) rfl rfl (fun _ => rfl) rfl rfl (?_ : wpv K_X8_settles d P 388 [some (4, (p0 : Int)), some (0, x1), some (0, x2), some (0, x3), some (0, x4)] [(4, (p0 : Int)), (4, (p0 : Int)), (0, x3)] G R V)
    refine wp_getA (k := 18) rfl rfl rfl (ly8_o l0) rfl rfl (ly8_18 l0).1 (?_ : wpv K_X8_settles d P 391 [some (4, (p0 : Int)), some (0, x1), some (0, x2), some (0, x3), some (0, x4)] [(4, ((p0 + 13 : Nat) : Int)), (4, (p0 : Int)), (0, x3)] G R V)
    refine wp_p (i := (.bipush 120)) rfl rfl (fun _ _ _ => rfl) (?_ : wpv K_X8_settles d P 393 [some (4, (p0 : Int)), some (0, x1), some (0, x2), some (0, x3), some (0, x4)] [(0, 120), (4, ((p0 + 13 : Nat) : Int)), (4, (p0 : Int)), (0, x3)] G R V)
    refine wp_ld (i := (.aload_n 0)) (4, (p0 : Int)) rfl rfl (fun _ => rfl) rfl rfl (?_ : wpv K_X8_settles d P 394 [some (4, (p0 : Int)), some (0, x1), some (0, x2), some (0, x3), some (0, x4)] [(4, (p0 : Int)), (0, 120), (4, ((p0 + 13 : Nat) : Int)), (4, (p0 : Int)), (0, x3)] G R V)
    refine wp_getA (k := 20) rfl rfl rfl (ly8_o l0) rfl rfl (ly8_20 l0).1 (?_ : wpv K_X8_settles d P 397 [some (4, (p0 : Int)), some (0, x1), some (0, x2), some (0, x3), some (0, x4)] [(4, ((p0 + 15 : Nat) : Int)), (0, 120), (4, ((p0 + 13 : Nat) : Int)), (4, (p0 : Int)), (0, x3)] G R V)
    refine wp_ld (i := (.iload_n 2)) (0, x2) rfl rfl (fun _ => rfl) rfl rfl (?_ : wpv K_X8_settles d P 398 [some (4, (p0 : Int)), some (0, x1), some (0, x2), some (0, x3), some (0, x4)] [(0, x2), (4, ((p0 + 15 : Nat) : Int)), (0, 120), (4, ((p0 + 13 : Nat) : Int)), (4, (p0 : Int)), (0, x3)] G R V)
    obtain ⟨s15, w⟩ := w
    have f16 : i32 (V (p0 + 15) x2) := vr_a0 vr1 (ly8_20 l0).2 s15
    replace w := w f16
    refine wp_aI rfl rfl (ly8_20 l0).2 s15 (?_ : wpv K_X8_settles d P 399 [some (4, (p0 : Int)), some (0, x1), some (0, x2), some (0, x3), some (0, x4)] [(0, (V (p0 + 15) x2)), (0, 120), (4, ((p0 + 13 : Nat) : Int)), (4, (p0 : Int)), (0, x3)] G R V)
    obtain ⟨s17, w⟩ := w
    refine wp_xmul rfl rfl s17 (?_ : wpv K_X8_settles d P 400 [some (4, (p0 : Int)), some (0, x1), some (0, x2), some (0, x3), some (0, x4)] [(0, (120 * (V (p0 + 15) x2))), (4, ((p0 + 13 : Nat) : Int)), (4, (p0 : Int)), (0, x3)] G R V)
    refine wp_ld (i := (.iload 4)) (0, x4) rfl rfl (fun _ => rfl) rfl rfl (?_ : wpv K_X8_settles d P 402 [some (4, (p0 : Int)), some (0, x1), some (0, x2), some (0, x3), some (0, x4)] [(0, x4), (0, (120 * (V (p0 + 15) x2))), (4, ((p0 + 13 : Nat) : Int)), (4, (p0 : Int)), (0, x3)] G R V)
    obtain ⟨s18, w⟩ := w
    refine wp_xadd rfl rfl s18 (?_ : wpv K_X8_settles d P 403 [some (4, (p0 : Int)), some (0, x1), some (0, x2), some (0, x3), some (0, x4)] [(0, ((120 * (V (p0 + 15) x2)) + x4)), (4, ((p0 + 13 : Nat) : Int)), (4, (p0 : Int)), (0, x3)] G R V)
    obtain ⟨s19, w⟩ := w
    have f20 : i32 (V (p0 + 13) (((120 * (V (p0 + 15) x2)) + x4))) := vr_a0 vr1 (ly8_18 l0).2 s19
    replace w := w f20
    refine wp_aI rfl rfl (ly8_18 l0).2 s19 (?_ : wpv K_X8_settles d P 404 [some (4, (p0 : Int)), some (0, x1), some (0, x2), some (0, x3), some (0, x4)] [(0, (V (p0 + 13) (((120 * (V (p0 + 15) x2)) + x4)))), (4, (p0 : Int)), (0, x3)] G R V)
    refine wp_ld (i := (.aload_n 0)) (4, (p0 : Int)) rfl rfl (fun _ => rfl) rfl rfl (?_ : wpv K_X8_settles d P 405 [some (4, (p0 : Int)), some (0, x1), some (0, x2), some (0, x3), some (0, x4)] [(4, (p0 : Int)), (0, (V (p0 + 13) (((120 * (V (p0 + 15) x2)) + x4)))), (4, (p0 : Int)), (0, x3)] G R V)
    refine wp_getA (k := 20) rfl rfl rfl (ly8_o l0) rfl rfl (ly8_20 l0).1 (?_ : wpv K_X8_settles d P 408 [some (4, (p0 : Int)), some (0, x1), some (0, x2), some (0, x3), some (0, x4)] [(4, ((p0 + 15 : Nat) : Int)), (0, (V (p0 + 13) (((120 * (V (p0 + 15) x2)) + x4)))), (4, (p0 : Int)), (0, x3)] G R V)
    refine wp_ld (i := (.iload_n 1)) (0, x1) rfl rfl (fun _ => rfl) rfl rfl (?_ : wpv K_X8_settles d P 409 [some (4, (p0 : Int)), some (0, x1), some (0, x2), some (0, x3), some (0, x4)] [(0, x1), (4, ((p0 + 15 : Nat) : Int)), (0, (V (p0 + 13) (((120 * (V (p0 + 15) x2)) + x4)))), (4, (p0 : Int)), (0, x3)] G R V)
    obtain ⟨s21, w⟩ := w
    have f22 : i32 (V (p0 + 15) x1) := vr_a0 vr1 (ly8_20 l0).2 s21
    replace w := w f22
    refine wp_aI rfl rfl (ly8_20 l0).2 s21 (?_ : wpv K_X8_settles d P 410 [some (4, (p0 : Int)), some (0, x1), some (0, x2), some (0, x3), some (0, x4)] [(0, (V (p0 + 15) x1)), (0, (V (p0 + 13) (((120 * (V (p0 + 15) x2)) + x4)))), (4, (p0 : Int)), (0, x3)] G R V)
    refine wp_virt (as := [(0, (V (p0 + 13) (((120 * (V (p0 + 15) x2)) + x4)))), (0, (V (p0 + 15) x1))]) (a := p0) (st := [(0, x3)]) _ rfl rfl rfl rfl rfl rfl (ly8_o l0) (Nat.le_of_ble_eq_true rfl) (cwv_kI w (fun v24 V23 w => ?_))
    show wpv K_X8_settles d P 413 [some (4, (p0 : Int)), some (0, x1), some (0, x2), some (0, x3), some (0, x4)] [(0, v24), (0, x3)] G R V23
    obtain ⟨s25, w⟩ := w
    refine wp_if (c := .eq) 420 rfl rfl rfl s25 (fun q => ?_) (fun q => ?_)
    · have q : v24 = 0 := q
      replace w := w.1 q
      show wpv K_X8_settles d P 420 [some (4, (p0 : Int)), some (0, x1), some (0, x2), some (0, x3), some (0, x4)] [(0, x3)] G R V23
      refine wp_p (i := (.iconst 0)) rfl rfl (fun _ _ _ => rfl) (?_ : wpv K_X8_settles d P 421 [some (4, (p0 : Int)), some (0, x1), some (0, x2), some (0, x3), some (0, x4)] [(0, 0), (0, x3)] G R V23)
      obtain ⟨s26, w⟩ := w
      refine wp_xadd rfl rfl s26 (?_ : wpv K_X8_settles d P 422 [some (4, (p0 : Int)), some (0, x1), some (0, x2), some (0, x3), some (0, x4)] [(0, (x3 + 0))] G R V23)
      refine wp_sto (i := (.istore_n 3)) _ rfl rfl (fun _ => rfl) rfl rfl rfl ?_
      refine wp_wk (L' := [some (4, (p0 : Int)), some (0, x1), some (0, x2), some (0, (x3 + 0)), some (0, x4)]) (wk_s (wk_s (wk_s (wk_s (wk_s wk_0))))) ?_
      show wpv K_X8_settles d P 423 [some (4, (p0 : Int)), some (0, x1), some (0, x2), some (0, (x3 + 0)), some (0, x4)] [] G R V23
      obtain ⟨s27, w⟩ := w
      refine wp_inc (x := 4) (k := 1) (a := x4) (c := (x4 + 1)) _ rfl rfl rfl rfl s27 (by omega) rfl ?_
      show wpv K_X8_settles d P 426 [some (4, (p0 : Int)), some (0, x1), some (0, x2), some (0, (x3 + 0)), some (0, (x4 + 1))] [] G R V23
      refine wp_go 376 rfl rfl rfl (?_ : wpv K_X8_settles d P 376 [some (4, (p0 : Int)), some (0, x1), some (0, x2), some (0, (x3 + 0)), some (0, (x4 + 1))] [] G R V23)
      exact wp_wk (wk_s (wk_s (wk_s (wk_s (wk_s wk_0))))) w
    · have q : ¬ v24 = 0 := q
      replace w := w.2 q
      show wpv K_X8_settles d P 416 [some (4, (p0 : Int)), some (0, x1), some (0, x2), some (0, x3), some (0, x4)] [(0, x3)] G R V23
      refine wp_p (i := (.iconst 1)) rfl rfl (fun _ _ _ => rfl) (?_ : wpv K_X8_settles d P 417 [some (4, (p0 : Int)), some (0, x1), some (0, x2), some (0, x3), some (0, x4)] [(0, 1), (0, x3)] G R V23)
      refine wp_go 421 rfl rfl rfl (?_ : wpv K_X8_settles d P 421 [some (4, (p0 : Int)), some (0, x1), some (0, x2), some (0, x3), some (0, x4)] [(0, 1), (0, x3)] G R V23)
      obtain ⟨s28, w⟩ := w
      refine wp_xadd rfl rfl s28 (?_ : wpv K_X8_settles d P 422 [some (4, (p0 : Int)), some (0, x1), some (0, x2), some (0, x3), some (0, x4)] [(0, (x3 + 1))] G R V23)
      refine wp_sto (i := (.istore_n 3)) _ rfl rfl (fun _ => rfl) rfl rfl rfl ?_
      refine wp_wk (L' := [some (4, (p0 : Int)), some (0, x1), some (0, x2), some (0, (x3 + 1)), some (0, x4)]) (wk_s (wk_s (wk_s (wk_s (wk_s wk_0))))) ?_
      show wpv K_X8_settles d P 423 [some (4, (p0 : Int)), some (0, x1), some (0, x2), some (0, (x3 + 1)), some (0, x4)] [] G R V23
      obtain ⟨s29, w⟩ := w
      refine wp_inc (x := 4) (k := 1) (a := x4) (c := (x4 + 1)) _ rfl rfl rfl rfl s29 (by omega) rfl ?_
      show wpv K_X8_settles d P 426 [some (4, (p0 : Int)), some (0, x1), some (0, x2), some (0, (x3 + 1)), some (0, (x4 + 1))] [] G R V23
      refine wp_go 376 rfl rfl rfl (?_ : wpv K_X8_settles d P 376 [some (4, (p0 : Int)), some (0, x1), some (0, x2), some (0, (x3 + 1)), some (0, (x4 + 1))] [] G R V23)
      exact wp_wk (wk_s (wk_s (wk_s (wk_s (wk_s wk_0))))) w
theorem t_X8_ledTo_0 {d : Nat} {P : gP} {p0 : Nat} {x1 : Int} {x2 : Int} {G : List gS} {R V : gV} (l0 : lay8 G R p0) (w : wpv K_X8_ledTo d P 2 [some (4, (p0 : Int)), some (0, x1), some (0, x2), some (0, 0)] [] G R V) : wpv K_X8_ledTo d P 0 [some (4, (p0 : Int)), some (0, x1), some (0, x2)] [] G R V := by
  refine wp_p (i := (.iconst 0)) rfl rfl (fun _ _ _ => rfl) (?_ : wpv K_X8_ledTo d P 1 [some (4, (p0 : Int)), some (0, x1), some (0, x2)] [(0, 0)] G R V)
  refine wp_sto (i := (.istore_n 3)) _ rfl rfl (fun _ => rfl) rfl rfl rfl ?_
  refine wp_wk (L' := [some (4, (p0 : Int)), some (0, x1), some (0, x2), some (0, 0)]) (wk_s (wk_s (wk_s (wk_s wk_0)))) ?_
  show wpv K_X8_ledTo d P 2 [some (4, (p0 : Int)), some (0, x1), some (0, x2), some (0, 0)] [] G R V
  exact wp_wk (wk_s (wk_s (wk_s (wk_s wk_0)))) w

theorem t_X8_ledTo_2 {d : Nat} {P : gP} {p0 : Nat} {x1 : Int} {x2 : Int} {x3 : Int} {G : List gS} {R V : gV} (l0 : lay8 G R p0) (w : ((i32 (V p0 5)) → ((i32 x3) ∧ (((¬ x3 < (V p0 5)) → wpv K_X8_ledTo d P 28 [some (4, (p0 : Int)), some (0, x1), some (0, x2), some (0, 0)] [] G R V) ∧ ((x3 < (V p0 5)) → ((i32 (36000 + x3)) ∧ ((0 ≤ (36000 + x3) ∧ (36000 + x3) < 36120) ∧ ((i32 (x3 + 1)) ∧ wpv K_X8_ledTo d P 2 [some (4, (p0 : Int)), some (0, x1), some (0, x2), some (0, (x3 + 1))] [] G R (wr V (p0 + 9) ((36000 + x3)) 0))))))))) : wpv K_X8_ledTo d P 2 [some (4, (p0 : Int)), some (0, x1), some (0, x2), some (0, x3)] [] G R V := by
  refine wp_ld (i := (.iload_n 3)) (0, x3) rfl rfl (fun _ => rfl) rfl rfl (?_ : wpv K_X8_ledTo d P 3 [some (4, (p0 : Int)), some (0, x1), some (0, x2), some (0, x3)] [(0, x3)] G R V)
  refine wp_ld (i := (.aload_n 0)) (4, (p0 : Int)) rfl rfl (fun _ => rfl) rfl rfl (?_ : wpv K_X8_ledTo d P 4 [some (4, (p0 : Int)), some (0, x1), some (0, x2), some (0, x3)] [(4, (p0 : Int)), (0, x3)] G R V)
  refine wp_rng (fun vr1 => ?_)
  have f2 : i32 (V p0 5) := vr_f0 vr1 (ly8_o l0) rfl rfl
  replace w := w f2
  refine wp_getI (k := 5) rfl rfl rfl (ly8_o l0) rfl rfl (?_ : wpv K_X8_ledTo d P 7 [some (4, (p0 : Int)), some (0, x1), some (0, x2), some (0, x3)] [(0, (V p0 5)), (0, x3)] G R V)
  obtain ⟨s3, w⟩ := w
  refine wp_icmp (c := .ge) 26 rfl rfl rfl s3 f2 (fun q => ?_) (fun q => ?_)
  · have q : ¬ x3 < (V p0 5) := q
    replace w := w.1 q
    show wpv K_X8_ledTo d P 26 [some (4, (p0 : Int)), some (0, x1), some (0, x2), some (0, x3)] [] G R V
    refine wp_p (i := (.iconst 0)) rfl rfl (fun _ _ _ => rfl) (?_ : wpv K_X8_ledTo d P 27 [some (4, (p0 : Int)), some (0, x1), some (0, x2), some (0, x3)] [(0, 0)] G R V)
    refine wp_sto (i := (.istore_n 3)) _ rfl rfl (fun _ => rfl) rfl rfl rfl ?_
    refine wp_wk (L' := [some (4, (p0 : Int)), some (0, x1), some (0, x2), some (0, 0)]) (wk_s (wk_s (wk_s (wk_s wk_0)))) ?_
    show wpv K_X8_ledTo d P 28 [some (4, (p0 : Int)), some (0, x1), some (0, x2), some (0, 0)] [] G R V
    exact wp_wk (wk_s (wk_s (wk_s (wk_s wk_0)))) w
  · have q : x3 < (V p0 5) := Decidable.not_not.mp q
    replace w := w.2 q
    show wpv K_X8_ledTo d P 10 [some (4, (p0 : Int)), some (0, x1), some (0, x2), some (0, x3)] [] G R V
    refine wp_ld (i := (.aload_n 0)) (4, (p0 : Int)) rfl rfl (fun _ => rfl) rfl rfl (?_ : wpv K_X8_ledTo d P 11 [some (4, (p0 : Int)), some (0, x1), some (0, x2), some (0, x3)] [(4, (p0 : Int))] G R V)
    refine wp_getA (k := 14) rfl rfl rfl (ly8_o l0) rfl rfl (ly8_14 l0).1 (?_ : wpv K_X8_ledTo d P 14 [some (4, (p0 : Int)), some (0, x1), some (0, x2), some (0, x3)] [(4, ((p0 + 9 : Nat) : Int))] G R V)
    refine wp_p (i := (.ldc 133)) rfl rfl (fun _ _ _ => rfl) (?_ : wpv K_X8_ledTo d P 16 [some (4, (p0 : Int)), some (0, x1), some (0, x2), some (0, x3)] [(0, 36000), (4, ((p0 + 9 : Nat) : Int))] G R V)
    refine wp_ld (i := (.iload_n 3)) (0, x3) rfl rfl (fun _ => rfl) rfl rfl (?_ : wpv K_X8_ledTo d P 17 [some (4, (p0 : Int)), some (0, x1), some (0, x2), some (0, x3)] [(0, x3), (0, 36000), (4, ((p0 + 9 : Nat) : Int))] G R V)
    obtain ⟨s4, w⟩ := w
    refine wp_xadd rfl rfl s4 (?_ : wpv K_X8_ledTo d P 18 [some (4, (p0 : Int)), some (0, x1), some (0, x2), some (0, x3)] [(0, (36000 + x3)), (4, ((p0 + 9 : Nat) : Int))] G R V)
    refine wp_p (i := (.iconst 0)) rfl rfl (fun _ _ _ => rfl) (?_ : wpv K_X8_ledTo d P 19 [some (4, (p0 : Int)), some (0, x1), some (0, x2), some (0, x3)] [(0, 0), (0, (36000 + x3)), (4, ((p0 + 9 : Nat) : Int))] G R V)
    obtain ⟨s5, w⟩ := w
    refine wp_sB rfl rfl (ly8_14 l0).2 s5 (by omega) (?_ : wpv K_X8_ledTo d P 20 [some (4, (p0 : Int)), some (0, x1), some (0, x2), some (0, x3)] [] G R (wr V (p0 + 9) ((36000 + x3)) 0))
    obtain ⟨s6, w⟩ := w
    refine wp_inc (x := 3) (k := 1) (a := x3) (c := (x3 + 1)) _ rfl rfl rfl rfl s6 (by omega) rfl ?_
    show wpv K_X8_ledTo d P 23 [some (4, (p0 : Int)), some (0, x1), some (0, x2), some (0, (x3 + 1))] [] G R (wr V (p0 + 9) ((36000 + x3)) 0)
    refine wp_go 2 rfl rfl rfl (?_ : wpv K_X8_ledTo d P 2 [some (4, (p0 : Int)), some (0, x1), some (0, x2), some (0, (x3 + 1))] [] G R (wr V (p0 + 9) ((36000 + x3)) 0))
    exact wp_wk (wk_s (wk_s (wk_s (wk_s wk_0)))) w

theorem t_X8_ledTo_28 {d : Nat} {P : gP} {p0 : Nat} {x1 : Int} {x2 : Int} {x3 : Int} {G : List gS} {R V : gV} (l0 : lay8 G R p0) (w : ((i32 (V p0 5)) → ((i32 x3) ∧ (((¬ x3 < (V p0 5)) → ((0 ≤ x1 ∧ x1 < 301) ∧ ((i32 (V (p0 + 10) x1)) → ((i32 (V p0 12)) → cwv d (fun r V9 => ∃ v10 : Int, r = some (0, v10) ∧ P (some (0, v10)) V9) 172 [(4, (p0 : Int)), (0, 300), (0, (V p0 12))] G R (wr V (p0 + 10) 300 ((V (p0 + 10) x1))))))) ∧ ((x3 < (V p0 5)) → ((i32 (120 * x1)) ∧ ((i32 ((120 * x1) + x3)) ∧ ((0 ≤ ((120 * x1) + x3) ∧ ((120 * x1) + x3) < 36120) ∧ (((V (p0 + 9) (((120 * x1) + x3))) = 0 ∨ (V (p0 + 9) (((120 * x1) + x3))) = 1) → ((((V (p0 + 9) (((120 * x1) + x3))) = 0) → ((i32 (x3 + 1)) ∧ wpv K_X8_ledTo d P 28 [some (4, (p0 : Int)), some (0, x1), some (0, x2), some (0, (x3 + 1))] [] G R V)) ∧ ((¬ (V (p0 + 9) (((120 * x1) + x3))) = 0) → ((0 ≤ x2 ∧ x2 < 120) ∧ ((i32 (V (p0 + 6) x2)) → ((i32 (120 * (V (p0 + 6) x2))) ∧ ((i32 ((120 * (V (p0 + 6) x2)) + x3)) ∧ ((0 ≤ ((120 * (V (p0 + 6) x2)) + x3) ∧ ((120 * (V (p0 + 6) x2)) + x3) < 14400) ∧ ((i32 (V (p0 + 5) (((120 * (V (p0 + 6) x2)) + x3)))) → ((i32 (120 * (V (p0 + 5) (((120 * (V (p0 + 6) x2)) + x3))))) ∧ ((i32 ((120 * (V (p0 + 5) (((120 * (V (p0 + 6) x2)) + x3)))) + x2)) ∧ ((0 ≤ ((120 * (V (p0 + 5) (((120 * (V (p0 + 6) x2)) + x3)))) + x2) ∧ ((120 * (V (p0 + 5) (((120 * (V (p0 + 6) x2)) + x3)))) + x2) < 14400) ∧ ((i32 (V (p0 + 5) (((120 * (V (p0 + 5) (((120 * (V (p0 + 6) x2)) + x3)))) + x2)))) → ((i32 (36000 + (V (p0 + 5) (((120 * (V (p0 + 5) (((120 * (V (p0 + 6) x2)) + x3)))) + x2))))) ∧ ((0 ≤ (36000 + (V (p0 + 5) (((120 * (V (p0 + 5) (((120 * (V (p0 + 6) x2)) + x3)))) + x2)))) ∧ (36000 + (V (p0 + 5) (((120 * (V (p0 + 5) (((120 * (V (p0 + 6) x2)) + x3)))) + x2)))) < 36120) ∧ ((i32 (x3 + 1)) ∧ wpv K_X8_ledTo d P 28 [some (4, (p0 : Int)), some (0, x1), some (0, x2), some (0, (x3 + 1))] [] G R (wr V (p0 + 9) ((36000 + (V (p0 + 5) (((120 * (V (p0 + 5) (((120 * (V (p0 + 6) x2)) + x3)))) + x2))))) 1))))))))))))))))))))))))) : wpv K_X8_ledTo d P 28 [some (4, (p0 : Int)), some (0, x1), some (0, x2), some (0, x3)] [] G R V := by
  refine wp_ld (i := (.iload_n 3)) (0, x3) rfl rfl (fun _ => rfl) rfl rfl (?_ : wpv K_X8_ledTo d P 29 [some (4, (p0 : Int)), some (0, x1), some (0, x2), some (0, x3)] [(0, x3)] G R V)
  refine wp_ld (i := (.aload_n 0)) (4, (p0 : Int)) rfl rfl (fun _ => rfl) rfl rfl (?_ : wpv K_X8_ledTo d P 30 [some (4, (p0 : Int)), some (0, x1), some (0, x2), some (0, x3)] [(4, (p0 : Int)), (0, x3)] G R V)
  refine wp_rng (fun vr1 => ?_)
  have f2 : i32 (V p0 5) := vr_f0 vr1 (ly8_o l0) rfl rfl
  replace w := w f2
  refine wp_getI (k := 5) rfl rfl rfl (ly8_o l0) rfl rfl (?_ : wpv K_X8_ledTo d P 33 [some (4, (p0 : Int)), some (0, x1), some (0, x2), some (0, x3)] [(0, (V p0 5)), (0, x3)] G R V)
  obtain ⟨s3, w⟩ := w
  refine wp_icmp (c := .ge) 91 rfl rfl rfl s3 f2 (fun q => ?_) (fun q => ?_)
  · have q : ¬ x3 < (V p0 5) := q
    replace w := w.1 q
    show wpv K_X8_ledTo d P 91 [some (4, (p0 : Int)), some (0, x1), some (0, x2), some (0, x3)] [] G R V
    refine wp_ld (i := (.aload_n 0)) (4, (p0 : Int)) rfl rfl (fun _ => rfl) rfl rfl (?_ : wpv K_X8_ledTo d P 92 [some (4, (p0 : Int)), some (0, x1), some (0, x2), some (0, x3)] [(4, (p0 : Int))] G R V)
    refine wp_getA (k := 15) rfl rfl rfl (ly8_o l0) rfl rfl (ly8_15 l0).1 (?_ : wpv K_X8_ledTo d P 95 [some (4, (p0 : Int)), some (0, x1), some (0, x2), some (0, x3)] [(4, ((p0 + 10 : Nat) : Int))] G R V)
    refine wp_p (i := (.sipush 300)) rfl rfl (fun _ _ _ => rfl) (?_ : wpv K_X8_ledTo d P 98 [some (4, (p0 : Int)), some (0, x1), some (0, x2), some (0, x3)] [(0, 300), (4, ((p0 + 10 : Nat) : Int))] G R V)
    refine wp_ld (i := (.aload_n 0)) (4, (p0 : Int)) rfl rfl (fun _ => rfl) rfl rfl (?_ : wpv K_X8_ledTo d P 99 [some (4, (p0 : Int)), some (0, x1), some (0, x2), some (0, x3)] [(4, (p0 : Int)), (0, 300), (4, ((p0 + 10 : Nat) : Int))] G R V)
    refine wp_getA (k := 15) rfl rfl rfl (ly8_o l0) rfl rfl (ly8_15 l0).1 (?_ : wpv K_X8_ledTo d P 102 [some (4, (p0 : Int)), some (0, x1), some (0, x2), some (0, x3)] [(4, ((p0 + 10 : Nat) : Int)), (0, 300), (4, ((p0 + 10 : Nat) : Int))] G R V)
    refine wp_ld (i := (.iload_n 1)) (0, x1) rfl rfl (fun _ => rfl) rfl rfl (?_ : wpv K_X8_ledTo d P 103 [some (4, (p0 : Int)), some (0, x1), some (0, x2), some (0, x3)] [(0, x1), (4, ((p0 + 10 : Nat) : Int)), (0, 300), (4, ((p0 + 10 : Nat) : Int))] G R V)
    obtain ⟨s4, w⟩ := w
    have f5 : i32 (V (p0 + 10) x1) := vr_a0 vr1 (ly8_15 l0).2 s4
    replace w := w f5
    refine wp_aI rfl rfl (ly8_15 l0).2 s4 (?_ : wpv K_X8_ledTo d P 104 [some (4, (p0 : Int)), some (0, x1), some (0, x2), some (0, x3)] [(0, (V (p0 + 10) x1)), (0, 300), (4, ((p0 + 10 : Nat) : Int))] G R V)
    refine wp_sI rfl rfl (ly8_15 l0).2 ⟨by omega, by omega⟩ f5 (?_ : wpv K_X8_ledTo d P 105 [some (4, (p0 : Int)), some (0, x1), some (0, x2), some (0, x3)] [] G R (wr V (p0 + 10) 300 ((V (p0 + 10) x1))))
    refine wp_ld (i := (.aload_n 0)) (4, (p0 : Int)) rfl rfl (fun _ => rfl) rfl rfl (?_ : wpv K_X8_ledTo d P 106 [some (4, (p0 : Int)), some (0, x1), some (0, x2), some (0, x3)] [(4, (p0 : Int))] G R (wr V (p0 + 10) 300 ((V (p0 + 10) x1))))
    refine wp_p (i := (.sipush 300)) rfl rfl (fun _ _ _ => rfl) (?_ : wpv K_X8_ledTo d P 109 [some (4, (p0 : Int)), some (0, x1), some (0, x2), some (0, x3)] [(0, 300), (4, (p0 : Int))] G R (wr V (p0 + 10) 300 ((V (p0 + 10) x1))))
    refine wp_ld (i := (.aload_n 0)) (4, (p0 : Int)) rfl rfl (fun _ => rfl) rfl rfl (?_ : wpv K_X8_ledTo d P 110 [some (4, (p0 : Int)), some (0, x1), some (0, x2), some (0, x3)] [(4, (p0 : Int)), (0, 300), (4, (p0 : Int))] G R (wr V (p0 + 10) 300 ((V (p0 + 10) x1))))
    refine wp_rng (fun vr6 => ?_)
    have r7 : ((wr V (p0 + 10) 300 ((V (p0 + 10) x1))) p0 12) = (V p0 12) := (wr_a (by omega))
    have f8 : i32 (V p0 12) := (by have h := vr_f0 vr6 (ly8_o l0) rfl (k := 12) (k' := 12) rfl; rw [r7] at h; exact h)
    replace w := w f8
    refine wp_getIe (k := 12) rfl rfl rfl (ly8_o l0) rfl rfl r7 (?_ : wpv K_X8_ledTo d P 113 [some (4, (p0 : Int)), some (0, x1), some (0, x2), some (0, x3)] [(0, (V p0 12)), (0, 300), (4, (p0 : Int))] G R (wr V (p0 + 10) 300 ((V (p0 + 10) x1))))
    refine wp_virt (as := [(0, 300), (0, (V p0 12))]) (a := p0) (st := []) _ rfl rfl rfl rfl rfl rfl (ly8_o l0) (Nat.le_of_ble_eq_true rfl) (cwv_kI w (fun v10 V9 w => ?_))
    show wpv K_X8_ledTo d P 116 [some (4, (p0 : Int)), some (0, x1), some (0, x2), some (0, x3)] [(0, v10)] G R V9
    exact wp_rI rfl rfl rfl w
  · have q : x3 < (V p0 5) := Decidable.not_not.mp q
    replace w := w.2 q
    show wpv K_X8_ledTo d P 36 [some (4, (p0 : Int)), some (0, x1), some (0, x2), some (0, x3)] [] G R V
    refine wp_ld (i := (.aload_n 0)) (4, (p0 : Int)) rfl rfl (fun _ => rfl) rfl rfl (?_ : wpv K_X8_ledTo d P 37 [some (4, (p0 : Int)), some (0, x1), some (0, x2), some (0, x3)] [(4, (p0 : Int))] G R V)
    refine wp_getA (k := 14) rfl rfl rfl (ly8_o l0) rfl rfl (ly8_14 l0).1 (?_ : wpv K_X8_ledTo d P 40 [some (4, (p0 : Int)), some (0, x1), some (0, x2), some (0, x3)] [(4, ((p0 + 9 : Nat) : Int))] G R V)
    refine wp_p (i := (.bipush 120)) rfl rfl (fun _ _ _ => rfl) (?_ : wpv K_X8_ledTo d P 42 [some (4, (p0 : Int)), some (0, x1), some (0, x2), some (0, x3)] [(0, 120), (4, ((p0 + 9 : Nat) : Int))] G R V)
    refine wp_ld (i := (.iload_n 1)) (0, x1) rfl rfl (fun _ => rfl) rfl rfl (?_ : wpv K_X8_ledTo d P 43 [some (4, (p0 : Int)), some (0, x1), some (0, x2), some (0, x3)] [(0, x1), (0, 120), (4, ((p0 + 9 : Nat) : Int))] G R V)
    obtain ⟨s11, w⟩ := w
    refine wp_xmul rfl rfl s11 (?_ : wpv K_X8_ledTo d P 44 [some (4, (p0 : Int)), some (0, x1), some (0, x2), some (0, x3)] [(0, (120 * x1)), (4, ((p0 + 9 : Nat) : Int))] G R V)
    refine wp_ld (i := (.iload_n 3)) (0, x3) rfl rfl (fun _ => rfl) rfl rfl (?_ : wpv K_X8_ledTo d P 45 [some (4, (p0 : Int)), some (0, x1), some (0, x2), some (0, x3)] [(0, x3), (0, (120 * x1)), (4, ((p0 + 9 : Nat) : Int))] G R V)
    obtain ⟨s12, w⟩ := w
    refine wp_xadd rfl rfl s12 (?_ : wpv K_X8_ledTo d P 46 [some (4, (p0 : Int)), some (0, x1), some (0, x2), some (0, x3)] [(0, ((120 * x1) + x3)), (4, ((p0 + 9 : Nat) : Int))] G R V)
    obtain ⟨s13, w⟩ := w
    have f14 : (V (p0 + 9) (((120 * x1) + x3))) = 0 ∨ (V (p0 + 9) (((120 * x1) + x3))) = 1 := vr_a2 vr1 (ly8_14 l0).2 s13
    replace w := w f14
    have f15 : i32 (V (p0 + 9) (((120 * x1) + x3))) := by unfold i32; omega
    refine wp_aB rfl rfl (ly8_14 l0).2 s13 (?_ : wpv K_X8_ledTo d P 47 [some (4, (p0 : Int)), some (0, x1), some (0, x2), some (0, x3)] [(0, (V (p0 + 9) (((120 * x1) + x3))))] G R V)
    refine wp_if (c := .eq) 85 rfl rfl rfl f15 (fun q => ?_) (fun q => ?_)
    · have q : (V (p0 + 9) (((120 * x1) + x3))) = 0 := q
      replace w := w.1 q
      show wpv K_X8_ledTo d P 85 [some (4, (p0 : Int)), some (0, x1), some (0, x2), some (0, x3)] [] G R V
      obtain ⟨s16, w⟩ := w
      refine wp_inc (x := 3) (k := 1) (a := x3) (c := (x3 + 1)) _ rfl rfl rfl rfl s16 (by omega) rfl ?_
      show wpv K_X8_ledTo d P 88 [some (4, (p0 : Int)), some (0, x1), some (0, x2), some (0, (x3 + 1))] [] G R V
      refine wp_go 28 rfl rfl rfl (?_ : wpv K_X8_ledTo d P 28 [some (4, (p0 : Int)), some (0, x1), some (0, x2), some (0, (x3 + 1))] [] G R V)
      exact wp_wk (wk_s (wk_s (wk_s (wk_s wk_0)))) w
    · have q : ¬ (V (p0 + 9) (((120 * x1) + x3))) = 0 := q
      replace w := w.2 q
      show wpv K_X8_ledTo d P 50 [some (4, (p0 : Int)), some (0, x1), some (0, x2), some (0, x3)] [] G R V
      refine wp_ld (i := (.aload_n 0)) (4, (p0 : Int)) rfl rfl (fun _ => rfl) rfl rfl (?_ : wpv K_X8_ledTo d P 51 [some (4, (p0 : Int)), some (0, x1), some (0, x2), some (0, x3)] [(4, (p0 : Int))] G R V)
      refine wp_getA (k := 14) rfl rfl rfl (ly8_o l0) rfl rfl (ly8_14 l0).1 (?_ : wpv K_X8_ledTo d P 54 [some (4, (p0 : Int)), some (0, x1), some (0, x2), some (0, x3)] [(4, ((p0 + 9 : Nat) : Int))] G R V)
      refine wp_p (i := (.ldc 133)) rfl rfl (fun _ _ _ => rfl) (?_ : wpv K_X8_ledTo d P 56 [some (4, (p0 : Int)), some (0, x1), some (0, x2), some (0, x3)] [(0, 36000), (4, ((p0 + 9 : Nat) : Int))] G R V)
      refine wp_ld (i := (.aload_n 0)) (4, (p0 : Int)) rfl rfl (fun _ => rfl) rfl rfl (?_ : wpv K_X8_ledTo d P 57 [some (4, (p0 : Int)), some (0, x1), some (0, x2), some (0, x3)] [(4, (p0 : Int)), (0, 36000), (4, ((p0 + 9 : Nat) : Int))] G R V)
      refine wp_getA (k := 7) rfl rfl rfl (ly8_o l0) rfl rfl (ly8_7 l0).1 (?_ : wpv K_X8_ledTo d P 60 [some (4, (p0 : Int)), some (0, x1), some (0, x2), some (0, x3)] [(4, ((p0 + 5 : Nat) : Int)), (0, 36000), (4, ((p0 + 9 : Nat) : Int))] G R V)
      refine wp_p (i := (.bipush 120)) rfl rfl (fun _ _ _ => rfl) (?_ : wpv K_X8_ledTo d P 62 [some (4, (p0 : Int)), some (0, x1), some (0, x2), some (0, x3)] [(0, 120), (4, ((p0 + 5 : Nat) : Int)), (0, 36000), (4, ((p0 + 9 : Nat) : Int))] G R V)
      refine wp_ld (i := (.aload_n 0)) (4, (p0 : Int)) rfl rfl (fun _ => rfl) rfl rfl (?_ : wpv K_X8_ledTo d P 63 [some (4, (p0 : Int)), some (0, x1), some (0, x2), some (0, x3)] [(4, (p0 : Int)), (0, 120), (4, ((p0 + 5 : Nat) : Int)), (0, 36000), (4, ((p0 + 9 : Nat) : Int))] G R V)
      refine wp_getA (k := 7) rfl rfl rfl (ly8_o l0) rfl rfl (ly8_7 l0).1 (?_ : wpv K_X8_ledTo d P 66 [some (4, (p0 : Int)), some (0, x1), some (0, x2), some (0, x3)] [(4, ((p0 + 5 : Nat) : Int)), (0, 120), (4, ((p0 + 5 : Nat) : Int)), (0, 36000), (4, ((p0 + 9 : Nat) : Int))] G R V)
      refine wp_p (i := (.bipush 120)) rfl rfl (fun _ _ _ => rfl) (?_ : wpv K_X8_ledTo d P 68 [some (4, (p0 : Int)), some (0, x1), some (0, x2), some (0, x3)] [(0, 120), (4, ((p0 + 5 : Nat) : Int)), (0, 120), (4, ((p0 + 5 : Nat) : Int)), (0, 36000), (4, ((p0 + 9 : Nat) : Int))] G R V)
      refine wp_ld (i := (.aload_n 0)) (4, (p0 : Int)) rfl rfl (fun _ => rfl) rfl rfl (?_ : wpv K_X8_ledTo d P 69 [some (4, (p0 : Int)), some (0, x1), some (0, x2), some (0, x3)] [(4, (p0 : Int)), (0, 120), (4, ((p0 + 5 : Nat) : Int)), (0, 120), (4, ((p0 + 5 : Nat) : Int)), (0, 36000), (4, ((p0 + 9 : Nat) : Int))] G R V)
      refine wp_getA (k := 8) rfl rfl rfl (ly8_o l0) rfl rfl (ly8_8 l0).1 (?_ : wpv K_X8_ledTo d P 72 [some (4, (p0 : Int)), some (0, x1), some (0, x2), some (0, x3)] [(4, ((p0 + 6 : Nat) : Int)), (0, 120), (4, ((p0 + 5 : Nat) : Int)), (0, 120), (4, ((p0 + 5 : Nat) : Int)), (0, 36000), (4, ((p0 + 9 : Nat) : Int))] G R V)
      refine wp_ld (i := (.iload_n 2)) (0, x2) rfl rfl (fun _ => rfl) rfl rfl (?_ : wpv K_X8_ledTo d P 73 [some (4, (p0 : Int)), some (0, x1), some (0, x2), some (0, x3)] [(0, x2), (4, ((p0 + 6 : Nat) : Int)), (0, 120), (4, ((p0 + 5 : Nat) : Int)), (0, 120), (4, ((p0 + 5 : Nat) : Int)), (0, 36000), (4, ((p0 + 9 : Nat) : Int))] G R V)
      obtain ⟨s17, w⟩ := w
      have f18 : i32 (V (p0 + 6) x2) := vr_a0 vr1 (ly8_8 l0).2 s17
      replace w := w f18
      refine wp_aI rfl rfl (ly8_8 l0).2 s17 (?_ : wpv K_X8_ledTo d P 74 [some (4, (p0 : Int)), some (0, x1), some (0, x2), some (0, x3)] [(0, (V (p0 + 6) x2)), (0, 120), (4, ((p0 + 5 : Nat) : Int)), (0, 120), (4, ((p0 + 5 : Nat) : Int)), (0, 36000), (4, ((p0 + 9 : Nat) : Int))] G R V)
      obtain ⟨s19, w⟩ := w
      refine wp_xmul rfl rfl s19 (?_ : wpv K_X8_ledTo d P 75 [some (4, (p0 : Int)), some (0, x1), some (0, x2), some (0, x3)] [(0, (120 * (V (p0 + 6) x2))), (4, ((p0 + 5 : Nat) : Int)), (0, 120), (4, ((p0 + 5 : Nat) : Int)), (0, 36000), (4, ((p0 + 9 : Nat) : Int))] G R V)
      refine wp_ld (i := (.iload_n 3)) (0, x3) rfl rfl (fun _ => rfl) rfl rfl (?_ : wpv K_X8_ledTo d P 76 [some (4, (p0 : Int)), some (0, x1), some (0, x2), some (0, x3)] [(0, x3), (0, (120 * (V (p0 + 6) x2))), (4, ((p0 + 5 : Nat) : Int)), (0, 120), (4, ((p0 + 5 : Nat) : Int)), (0, 36000), (4, ((p0 + 9 : Nat) : Int))] G R V)
      obtain ⟨s20, w⟩ := w
      refine wp_xadd rfl rfl s20 (?_ : wpv K_X8_ledTo d P 77 [some (4, (p0 : Int)), some (0, x1), some (0, x2), some (0, x3)] [(0, ((120 * (V (p0 + 6) x2)) + x3)), (4, ((p0 + 5 : Nat) : Int)), (0, 120), (4, ((p0 + 5 : Nat) : Int)), (0, 36000), (4, ((p0 + 9 : Nat) : Int))] G R V)
      obtain ⟨s21, w⟩ := w
      have f22 : i32 (V (p0 + 5) (((120 * (V (p0 + 6) x2)) + x3))) := vr_a0 vr1 (ly8_7 l0).2 s21
      replace w := w f22
      refine wp_aI rfl rfl (ly8_7 l0).2 s21 (?_ : wpv K_X8_ledTo d P 78 [some (4, (p0 : Int)), some (0, x1), some (0, x2), some (0, x3)] [(0, (V (p0 + 5) (((120 * (V (p0 + 6) x2)) + x3)))), (0, 120), (4, ((p0 + 5 : Nat) : Int)), (0, 36000), (4, ((p0 + 9 : Nat) : Int))] G R V)
      obtain ⟨s23, w⟩ := w
      refine wp_xmul rfl rfl s23 (?_ : wpv K_X8_ledTo d P 79 [some (4, (p0 : Int)), some (0, x1), some (0, x2), some (0, x3)] [(0, (120 * (V (p0 + 5) (((120 * (V (p0 + 6) x2)) + x3))))), (4, ((p0 + 5 : Nat) : Int)), (0, 36000), (4, ((p0 + 9 : Nat) : Int))] G R V)
      refine wp_ld (i := (.iload_n 2)) (0, x2) rfl rfl (fun _ => rfl) rfl rfl (?_ : wpv K_X8_ledTo d P 80 [some (4, (p0 : Int)), some (0, x1), some (0, x2), some (0, x3)] [(0, x2), (0, (120 * (V (p0 + 5) (((120 * (V (p0 + 6) x2)) + x3))))), (4, ((p0 + 5 : Nat) : Int)), (0, 36000), (4, ((p0 + 9 : Nat) : Int))] G R V)
      obtain ⟨s24, w⟩ := w
      refine wp_xadd rfl rfl s24 (?_ : wpv K_X8_ledTo d P 81 [some (4, (p0 : Int)), some (0, x1), some (0, x2), some (0, x3)] [(0, ((120 * (V (p0 + 5) (((120 * (V (p0 + 6) x2)) + x3)))) + x2)), (4, ((p0 + 5 : Nat) : Int)), (0, 36000), (4, ((p0 + 9 : Nat) : Int))] G R V)
      obtain ⟨s25, w⟩ := w
      have f26 : i32 (V (p0 + 5) (((120 * (V (p0 + 5) (((120 * (V (p0 + 6) x2)) + x3)))) + x2))) := vr_a0 vr1 (ly8_7 l0).2 s25
      replace w := w f26
      refine wp_aI rfl rfl (ly8_7 l0).2 s25 (?_ : wpv K_X8_ledTo d P 82 [some (4, (p0 : Int)), some (0, x1), some (0, x2), some (0, x3)] [(0, (V (p0 + 5) (((120 * (V (p0 + 5) (((120 * (V (p0 + 6) x2)) + x3)))) + x2)))), (0, 36000), (4, ((p0 + 9 : Nat) : Int))] G R V)
      obtain ⟨s27, w⟩ := w
      refine wp_xadd rfl rfl s27 (?_ : wpv K_X8_ledTo d P 83 [some (4, (p0 : Int)), some (0, x1), some (0, x2), some (0, x3)] [(0, (36000 + (V (p0 + 5) (((120 * (V (p0 + 5) (((120 * (V (p0 + 6) x2)) + x3)))) + x2))))), (4, ((p0 + 9 : Nat) : Int))] G R V)
      refine wp_p (i := (.iconst 1)) rfl rfl (fun _ _ _ => rfl) (?_ : wpv K_X8_ledTo d P 84 [some (4, (p0 : Int)), some (0, x1), some (0, x2), some (0, x3)] [(0, 1), (0, (36000 + (V (p0 + 5) (((120 * (V (p0 + 5) (((120 * (V (p0 + 6) x2)) + x3)))) + x2))))), (4, ((p0 + 9 : Nat) : Int))] G R V)
      obtain ⟨s28, w⟩ := w
      refine wp_sB rfl rfl (ly8_14 l0).2 s28 (by omega) (?_ : wpv K_X8_ledTo d P 85 [some (4, (p0 : Int)), some (0, x1), some (0, x2), some (0, x3)] [] G R (wr V (p0 + 9) ((36000 + (V (p0 + 5) (((120 * (V (p0 + 5) (((120 * (V (p0 + 6) x2)) + x3)))) + x2))))) 1))
      obtain ⟨s29, w⟩ := w
      refine wp_inc (x := 3) (k := 1) (a := x3) (c := (x3 + 1)) _ rfl rfl rfl rfl s29 (by omega) rfl ?_
      show wpv K_X8_ledTo d P 88 [some (4, (p0 : Int)), some (0, x1), some (0, x2), some (0, (x3 + 1))] [] G R (wr V (p0 + 9) ((36000 + (V (p0 + 5) (((120 * (V (p0 + 5) (((120 * (V (p0 + 6) x2)) + x3)))) + x2))))) 1)
      refine wp_go 28 rfl rfl rfl (?_ : wpv K_X8_ledTo d P 28 [some (4, (p0 : Int)), some (0, x1), some (0, x2), some (0, (x3 + 1))] [] G R (wr V (p0 + 9) ((36000 + (V (p0 + 5) (((120 * (V (p0 + 5) (((120 * (V (p0 + 6) x2)) + x3)))) + x2))))) 1))
      exact wp_wk (wk_s (wk_s (wk_s (wk_s wk_0)))) w
theorem t_X8_puts_0 {d : Nat} {P : gP} {p0 : Nat} {p1 : Nat} {n1 : Nat} {x2 : Int} {x3 : Int} {G : List gS} {R V : gV} (l0 : lay8 G R p0) (g1 : G[p1]? = some (.inr (0, n1))) (w : ((i32 x3) ∧ wpv K_X8_puts d P 8 [some (4, (p0 : Int)), some (4, (p1 : Int)), some (0, x2), some (0, x3), some (0, 0)] [] G R (wr V p0 10 x3))) : wpv K_X8_puts d P 0 [some (4, (p0 : Int)), some (4, (p1 : Int)), some (0, x2), some (0, x3)] [] G R V := by
  refine wp_ld (i := (.aload_n 0)) (4, (p0 : Int)) rfl rfl (fun _ => rfl) rfl rfl (?_ : wpv K_X8_puts d P 1 [some (4, (p0 : Int)), some (4, (p1 : Int)), some (0, x2), some (0, x3)] [(4, (p0 : Int))] G R V)
  refine wp_ld (i := (.iload_n 3)) (0, x3) rfl rfl (fun _ => rfl) rfl rfl (?_ : wpv K_X8_puts d P 2 [some (4, (p0 : Int)), some (4, (p1 : Int)), some (0, x2), some (0, x3)] [(0, x3), (4, (p0 : Int))] G R V)
  obtain ⟨s1, w⟩ := w
  refine wp_putI (k := 10) rfl rfl rfl (ly8_o l0) rfl rfl rfl s1 (?_ : wpv K_X8_puts d P 5 [some (4, (p0 : Int)), some (4, (p1 : Int)), some (0, x2), some (0, x3)] [] G R (wr V p0 10 x3))
  refine wp_p (i := (.iconst 0)) rfl rfl (fun _ _ _ => rfl) (?_ : wpv K_X8_puts d P 6 [some (4, (p0 : Int)), some (4, (p1 : Int)), some (0, x2), some (0, x3)] [(0, 0)] G R (wr V p0 10 x3))
  refine wp_sto (i := (.istore 4)) _ rfl rfl (fun _ => rfl) rfl rfl rfl ?_
  refine wp_wk (L' := [some (4, (p0 : Int)), some (4, (p1 : Int)), some (0, x2), some (0, x3), some (0, 0)]) (wk_s (wk_s (wk_s (wk_s (wk_s wk_0))))) ?_
  show wpv K_X8_puts d P 8 [some (4, (p0 : Int)), some (4, (p1 : Int)), some (0, x2), some (0, x3), some (0, 0)] [] G R (wr V p0 10 x3)
  exact wp_wk (wk_s (wk_s (wk_s (wk_s (wk_s wk_0))))) w

theorem t_X8_puts_8 {d : Nat} {P : gP} {p0 : Nat} {p1 : Nat} {n1 : Nat} {x2 : Int} {x3 : Int} {x4 : Int} {G : List gS} {R V : gV} (l0 : lay8 G R p0) (g1 : G[p1]? = some (.inr (0, n1))) (w : ((i32 (8 * x3)) ∧ ((i32 x4) ∧ (((¬ x4 < (8 * x3)) → cwv d (fun r V3 => r = none ∧ cwv d (fun r V4 => ∃ v5 : Int, r = some (0, v5) ∧ cwv d (fun r V6 => r = none ∧ P none V6) 177 [(4, (p0 : Int))] G R V4) 173 [(4, (p0 : Int))] G R V3) 168 [(4, (p0 : Int)), (0, x2)] G R V) ∧ ((x4 < (8 * x3)) → ((0 ≤ x4 ∧ x4 < (n1 : Int)) ∧ ((i32 (V p1 x4)) → ((0 ≤ x4 ∧ x4 < 1000) ∧ ((i32 (x4 + 1)) ∧ wpv K_X8_puts d P 8 [some (4, (p0 : Int)), some (4, (p1 : Int)), some (0, x2), some (0, x3), some (0, (x4 + 1))] [] G R (wr V (p0 + 7) x4 ((V p1 x4)))))))))))) : wpv K_X8_puts d P 8 [some (4, (p0 : Int)), some (4, (p1 : Int)), some (0, x2), some (0, x3), some (0, x4)] [] G R V := by
  refine wp_ld (i := (.iload 4)) (0, x4) rfl rfl (fun _ => rfl) rfl rfl (?_ : wpv K_X8_puts d P 10 [some (4, (p0 : Int)), some (4, (p1 : Int)), some (0, x2), some (0, x3), some (0, x4)] [(0, x4)] G R V)
  refine wp_p (i := (.bipush 8)) rfl rfl (fun _ _ _ => rfl) (?_ : wpv K_X8_puts d P 12 [some (4, (p0 : Int)), some (4, (p1 : Int)), some (0, x2), some (0, x3), some (0, x4)] [(0, 8), (0, x4)] G R V)
  refine wp_ld (i := (.iload_n 3)) (0, x3) rfl rfl (fun _ => rfl) rfl rfl (?_ : wpv K_X8_puts d P 13 [some (4, (p0 : Int)), some (4, (p1 : Int)), some (0, x2), some (0, x3), some (0, x4)] [(0, x3), (0, 8), (0, x4)] G R V)
  obtain ⟨s1, w⟩ := w
  refine wp_xmul rfl rfl s1 (?_ : wpv K_X8_puts d P 14 [some (4, (p0 : Int)), some (4, (p1 : Int)), some (0, x2), some (0, x3), some (0, x4)] [(0, (8 * x3)), (0, x4)] G R V)
  obtain ⟨s2, w⟩ := w
  refine wp_icmp (c := .ge) 34 rfl rfl rfl s2 s1 (fun q => ?_) (fun q => ?_)
  · have q : ¬ x4 < (8 * x3) := q
    replace w := w.1 q
    show wpv K_X8_puts d P 34 [some (4, (p0 : Int)), some (4, (p1 : Int)), some (0, x2), some (0, x3), some (0, x4)] [] G R V
    refine wp_ld (i := (.aload_n 0)) (4, (p0 : Int)) rfl rfl (fun _ => rfl) rfl rfl (?_ : wpv K_X8_puts d P 35 [some (4, (p0 : Int)), some (4, (p1 : Int)), some (0, x2), some (0, x3), some (0, x4)] [(4, (p0 : Int))] G R V)
    refine wp_ld (i := (.iload_n 2)) (0, x2) rfl rfl (fun _ => rfl) rfl rfl (?_ : wpv K_X8_puts d P 36 [some (4, (p0 : Int)), some (4, (p1 : Int)), some (0, x2), some (0, x3), some (0, x4)] [(0, x2), (4, (p0 : Int))] G R V)
    refine wp_virt (as := [(0, x2)]) (a := p0) (st := []) _ rfl rfl rfl rfl rfl rfl (ly8_o l0) (Nat.le_of_ble_eq_true rfl) (cwv_k0 w (fun V3 w => ?_))
    show wpv K_X8_puts d P 39 [some (4, (p0 : Int)), some (4, (p1 : Int)), some (0, x2), some (0, x3), some (0, x4)] [] G R V3
    refine wp_ld (i := (.aload_n 0)) (4, (p0 : Int)) rfl rfl (fun _ => rfl) rfl rfl (?_ : wpv K_X8_puts d P 40 [some (4, (p0 : Int)), some (4, (p1 : Int)), some (0, x2), some (0, x3), some (0, x4)] [(4, (p0 : Int))] G R V3)
    refine wp_virt (as := []) (a := p0) (st := []) _ rfl rfl rfl rfl rfl rfl (ly8_o l0) (Nat.le_of_ble_eq_true rfl) (cwv_kI w (fun v5 V4 w => ?_))
    show wpv K_X8_puts d P 43 [some (4, (p0 : Int)), some (4, (p1 : Int)), some (0, x2), some (0, x3), some (0, x4)] [(0, v5)] G R V4
    refine wp_p (i := .pop) rfl rfl (fun _ _ _ => rfl) (?_ : wpv K_X8_puts d P 44 [some (4, (p0 : Int)), some (4, (p1 : Int)), some (0, x2), some (0, x3), some (0, x4)] [] G R V4)
    refine wp_ld (i := (.aload_n 0)) (4, (p0 : Int)) rfl rfl (fun _ => rfl) rfl rfl (?_ : wpv K_X8_puts d P 45 [some (4, (p0 : Int)), some (4, (p1 : Int)), some (0, x2), some (0, x3), some (0, x4)] [(4, (p0 : Int))] G R V4)
    refine wp_virt (as := []) (a := p0) (st := []) _ rfl rfl rfl rfl rfl rfl (ly8_o l0) (Nat.le_of_ble_eq_true rfl) (cwv_k0 w (fun V6 w => ?_))
    show wpv K_X8_puts d P 48 [some (4, (p0 : Int)), some (4, (p1 : Int)), some (0, x2), some (0, x3), some (0, x4)] [] G R V6
    exact wp_r0 rfl rfl rfl w
  · have q : x4 < (8 * x3) := Decidable.not_not.mp q
    replace w := w.2 q
    show wpv K_X8_puts d P 17 [some (4, (p0 : Int)), some (4, (p1 : Int)), some (0, x2), some (0, x3), some (0, x4)] [] G R V
    refine wp_ld (i := (.aload_n 0)) (4, (p0 : Int)) rfl rfl (fun _ => rfl) rfl rfl (?_ : wpv K_X8_puts d P 18 [some (4, (p0 : Int)), some (4, (p1 : Int)), some (0, x2), some (0, x3), some (0, x4)] [(4, (p0 : Int))] G R V)
    refine wp_getA (k := 9) rfl rfl rfl (ly8_o l0) rfl rfl (ly8_9 l0).1 (?_ : wpv K_X8_puts d P 21 [some (4, (p0 : Int)), some (4, (p1 : Int)), some (0, x2), some (0, x3), some (0, x4)] [(4, ((p0 + 7 : Nat) : Int))] G R V)
    refine wp_ld (i := (.iload 4)) (0, x4) rfl rfl (fun _ => rfl) rfl rfl (?_ : wpv K_X8_puts d P 23 [some (4, (p0 : Int)), some (4, (p1 : Int)), some (0, x2), some (0, x3), some (0, x4)] [(0, x4), (4, ((p0 + 7 : Nat) : Int))] G R V)
    refine wp_ld (i := (.aload_n 1)) (4, (p1 : Int)) rfl rfl (fun _ => rfl) rfl rfl (?_ : wpv K_X8_puts d P 24 [some (4, (p0 : Int)), some (4, (p1 : Int)), some (0, x2), some (0, x3), some (0, x4)] [(4, (p1 : Int)), (0, x4), (4, ((p0 + 7 : Nat) : Int))] G R V)
    refine wp_ld (i := (.iload 4)) (0, x4) rfl rfl (fun _ => rfl) rfl rfl (?_ : wpv K_X8_puts d P 26 [some (4, (p0 : Int)), some (4, (p1 : Int)), some (0, x2), some (0, x3), some (0, x4)] [(0, x4), (4, (p1 : Int)), (0, x4), (4, ((p0 + 7 : Nat) : Int))] G R V)
    obtain ⟨s7, w⟩ := w
    refine wp_rng (fun vr8 => ?_)
    have f9 : i32 (V p1 x4) := vr_a0 vr8 g1 s7
    replace w := w f9
    refine wp_aI rfl rfl g1 s7 (?_ : wpv K_X8_puts d P 27 [some (4, (p0 : Int)), some (4, (p1 : Int)), some (0, x2), some (0, x3), some (0, x4)] [(0, (V p1 x4)), (0, x4), (4, ((p0 + 7 : Nat) : Int))] G R V)
    obtain ⟨s10, w⟩ := w
    refine wp_sI rfl rfl (ly8_9 l0).2 s10 f9 (?_ : wpv K_X8_puts d P 28 [some (4, (p0 : Int)), some (4, (p1 : Int)), some (0, x2), some (0, x3), some (0, x4)] [] G R (wr V (p0 + 7) x4 ((V p1 x4))))
    obtain ⟨s11, w⟩ := w
    refine wp_inc (x := 4) (k := 1) (a := x4) (c := (x4 + 1)) _ rfl rfl rfl rfl s11 (by omega) rfl ?_
    show wpv K_X8_puts d P 31 [some (4, (p0 : Int)), some (4, (p1 : Int)), some (0, x2), some (0, x3), some (0, (x4 + 1))] [] G R (wr V (p0 + 7) x4 ((V p1 x4)))
    refine wp_go 8 rfl rfl rfl (?_ : wpv K_X8_puts d P 8 [some (4, (p0 : Int)), some (4, (p1 : Int)), some (0, x2), some (0, x3), some (0, (x4 + 1))] [] G R (wr V (p0 + 7) x4 ((V p1 x4))))
    exact wp_wk (wk_s (wk_s (wk_s (wk_s (wk_s wk_0))))) w
theorem t_X8_group_0 {d : Nat} {P : gP} {p0 : Nat} {x1 : Int} {G : List gS} {R V : gV} (l0 : lay8 G R p0) (w : ((i32 x1) ∧ cwv d (fun r V2 => ∃ v3 : Int, r = some (0, v3) ∧ ((i32 v3) ∧ (((¬ v3 = 0) → cwv d (fun r V5 => ∃ v6 : Int, r = some (0, v6) ∧ ((i32 v6) ∧ (((¬ v6 < 0) → wpv K_X8_group d P 36 [some (4, (p0 : Int)), some (0, x1), none, some (0, 0)] [] G R V5) ∧ ((v6 < 0) → cwv d (fun r V8 => ∃ v9 : Int, r = some (0, v9) ∧ P (some (0, v9)) V8) 160 [(4, (p0 : Int)), (0, v6)] G R V5)))) 166 [(4, (p0 : Int)), (0, x1)] G R V2) ∧ ((v3 = 0) → cwv d (fun r V10 => ∃ v11 : Int, r = some (0, v11) ∧ P (some (0, v11)) V10) 160 [(4, (p0 : Int)), (0, (-1))] G R V2)))) 159 [(2, x1), (2, 1), (2, 8)] G R V)) : wpv K_X8_group d P 0 [some (4, (p0 : Int)), some (0, x1)] [] G R V := by
  refine wp_ld (i := (.iload_n 1)) (0, x1) rfl rfl (fun _ => rfl) rfl rfl (?_ : wpv K_X8_group d P 1 [some (4, (p0 : Int)), some (0, x1)] [(0, x1)] G R V)
  obtain ⟨s1, w⟩ := w
  refine wp_i2l rfl rfl s1 (?_ : wpv K_X8_group d P 2 [some (4, (p0 : Int)), some (0, x1)] [(2, x1)] G R V)
  refine wp_p (i := (.lconst 1)) rfl rfl (fun _ _ _ => rfl) (?_ : wpv K_X8_group d P 3 [some (4, (p0 : Int)), some (0, x1)] [(2, 1), (2, x1)] G R V)
  refine wp_p (i := (.ldc2_w 206)) rfl rfl (fun _ _ _ => rfl) (?_ : wpv K_X8_group d P 6 [some (4, (p0 : Int)), some (0, x1)] [(2, 8), (2, 1), (2, x1)] G R V)
  refine wp_stat (as := [(2, x1), (2, 1), (2, 8)]) (st := []) _ rfl rfl rfl (by omega) rfl rfl (Nat.le_of_ble_eq_true rfl) (cwv_kI w (fun v3 V2 w => ?_))
  show wpv K_X8_group d P 9 [some (4, (p0 : Int)), some (0, x1)] [(0, v3)] G R V2
  obtain ⟨s4, w⟩ := w
  refine wp_if (c := .ne) 18 rfl rfl rfl s4 (fun q => ?_) (fun q => ?_)
  · have q : ¬ v3 = 0 := q
    replace w := w.1 q
    show wpv K_X8_group d P 18 [some (4, (p0 : Int)), some (0, x1)] [] G R V2
    refine wp_ld (i := (.aload_n 0)) (4, (p0 : Int)) rfl rfl (fun _ => rfl) rfl rfl (?_ : wpv K_X8_group d P 19 [some (4, (p0 : Int)), some (0, x1)] [(4, (p0 : Int))] G R V2)
    refine wp_ld (i := (.iload_n 1)) (0, x1) rfl rfl (fun _ => rfl) rfl rfl (?_ : wpv K_X8_group d P 20 [some (4, (p0 : Int)), some (0, x1)] [(0, x1), (4, (p0 : Int))] G R V2)
    refine wp_virt (as := [(0, x1)]) (a := p0) (st := []) _ rfl rfl rfl rfl rfl rfl (ly8_o l0) (Nat.le_of_ble_eq_true rfl) (cwv_kI w (fun v6 V5 w => ?_))
    show wpv K_X8_group d P 23 [some (4, (p0 : Int)), some (0, x1)] [(0, v6)] G R V5
    refine wp_sto (i := (.istore_n 2)) _ rfl rfl (fun _ => rfl) rfl rfl rfl ?_
    refine wp_wk (L' := [some (4, (p0 : Int)), some (0, x1), some (0, v6)]) (wk_s (wk_s (wk_s wk_0))) ?_
    show wpv K_X8_group d P 24 [some (4, (p0 : Int)), some (0, x1), some (0, v6)] [] G R V5
    refine wp_ld (i := (.iload_n 2)) (0, v6) rfl rfl (fun _ => rfl) rfl rfl (?_ : wpv K_X8_group d P 25 [some (4, (p0 : Int)), some (0, x1), some (0, v6)] [(0, v6)] G R V5)
    obtain ⟨s7, w⟩ := w
    refine wp_if (c := .ge) 34 rfl rfl rfl s7 (fun q => ?_) (fun q => ?_)
    · have q : ¬ v6 < 0 := q
      replace w := w.1 q
      show wpv K_X8_group d P 34 [some (4, (p0 : Int)), some (0, x1), some (0, v6)] [] G R V5
      refine wp_p (i := (.iconst 0)) rfl rfl (fun _ _ _ => rfl) (?_ : wpv K_X8_group d P 35 [some (4, (p0 : Int)), some (0, x1), some (0, v6)] [(0, 0)] G R V5)
      refine wp_sto (i := (.istore_n 3)) _ rfl rfl (fun _ => rfl) rfl rfl rfl ?_
      refine wp_wk (L' := [some (4, (p0 : Int)), some (0, x1), some (0, v6), some (0, 0)]) (wk_s (wk_s (wk_s (wk_s wk_0)))) ?_
      show wpv K_X8_group d P 36 [some (4, (p0 : Int)), some (0, x1), some (0, v6), some (0, 0)] [] G R V5
      exact wp_wk (wk_s (wk_s (wk_n (wk_s wk_0)))) w
    · have q : v6 < 0 := Decidable.not_not.mp q
      replace w := w.2 q
      show wpv K_X8_group d P 28 [some (4, (p0 : Int)), some (0, x1), some (0, v6)] [] G R V5
      refine wp_ld (i := (.aload_n 0)) (4, (p0 : Int)) rfl rfl (fun _ => rfl) rfl rfl (?_ : wpv K_X8_group d P 29 [some (4, (p0 : Int)), some (0, x1), some (0, v6)] [(4, (p0 : Int))] G R V5)
      refine wp_ld (i := (.iload_n 2)) (0, v6) rfl rfl (fun _ => rfl) rfl rfl (?_ : wpv K_X8_group d P 30 [some (4, (p0 : Int)), some (0, x1), some (0, v6)] [(0, v6), (4, (p0 : Int))] G R V5)
      refine wp_virt (as := [(0, v6)]) (a := p0) (st := []) _ rfl rfl rfl rfl rfl rfl (ly8_o l0) (Nat.le_of_ble_eq_true rfl) (cwv_kI w (fun v9 V8 w => ?_))
      show wpv K_X8_group d P 33 [some (4, (p0 : Int)), some (0, x1), some (0, v6)] [(0, v9)] G R V8
      exact wp_rI rfl rfl rfl w
  · have q : v3 = 0 := Decidable.not_not.mp q
    replace w := w.2 q
    show wpv K_X8_group d P 12 [some (4, (p0 : Int)), some (0, x1)] [] G R V2
    refine wp_ld (i := (.aload_n 0)) (4, (p0 : Int)) rfl rfl (fun _ => rfl) rfl rfl (?_ : wpv K_X8_group d P 13 [some (4, (p0 : Int)), some (0, x1)] [(4, (p0 : Int))] G R V2)
    refine wp_p (i := (.iconst (-1))) rfl rfl (fun _ _ _ => rfl) (?_ : wpv K_X8_group d P 14 [some (4, (p0 : Int)), some (0, x1)] [(0, (-1)), (4, (p0 : Int))] G R V2)
    refine wp_virt (as := [(0, (-1))]) (a := p0) (st := []) _ rfl rfl rfl rfl rfl rfl (ly8_o l0) (Nat.le_of_ble_eq_true rfl) (cwv_kI w (fun v11 V10 w => ?_))
    show wpv K_X8_group d P 17 [some (4, (p0 : Int)), some (0, x1)] [(0, v11)] G R V10
    exact wp_rI rfl rfl rfl w

theorem t_X8_group_36 {d : Nat} {P : gP} {p0 : Nat} {x1 : Int} {x3 : Int} {G : List gS} {R V : gV} (l0 : lay8 G R p0) (w : ((i32 x3) ∧ (((¬ x3 < 960) → ((i32 (V p0 4)) → ((i32 (V p0 5)) → cwv d (fun r V7 => r = none ∧ cwv d (fun r V8 => ∃ v9 : Int, r = some (0, v9) ∧ ((i32 v9) ∧ (((¬ v9 = 0) → cwv d (fun r V11 => r = none ∧ wpv K_X8_group d P 118 [some (4, (p0 : Int)), none, none, some (0, 0)] [] G R V11) 177 [(4, (p0 : Int))] G R V8) ∧ ((v9 = 0) → ((i32 (V8 p0 26)) → ((i32 (V8 p0 27)) → cwv d (fun r V15 => r = none ∧ cwv d (fun r V16 => ∃ v17 : Int, r = some (0, v17) ∧ P (some (0, v17)) V16) 160 [(4, (p0 : Int)), (0, (-5))] G R V15) 180 [(4, (p0 : Int)), (4, ((p0 + 20 : Nat) : Int)), (0, (V8 p0 26)), (0, (V8 p0 27))] G R V8)))))) 173 [(4, (p0 : Int))] G R V7) 168 [(4, (p0 : Int)), (0, x1)] G R (wr (wr V p0 26 ((V p0 4))) p0 27 ((V p0 5)))))) ∧ ((x3 < 960) → ((0 ≤ x3 ∧ x3 < 960) ∧ ((i32 (V (p0 + 4) x3)) → ((i32 (x3 + 1)) ∧ wpv K_X8_group d P 36 [some (4, (p0 : Int)), some (0, x1), none, some (0, (x3 + 1))] [] G R (wr V (p0 + 20) x3 ((V (p0 + 4) x3)))))))))) : wpv K_X8_group d P 36 [some (4, (p0 : Int)), some (0, x1), none, some (0, x3)] [] G R V := by
  refine wp_ld (i := (.iload_n 3)) (0, x3) rfl rfl (fun _ => rfl) rfl rfl (?_ : wpv K_X8_group d P 37 [some (4, (p0 : Int)), some (0, x1), none, some (0, x3)] [(0, x3)] G R V)
  refine wp_p (i := (.sipush 960)) rfl rfl (fun _ _ _ => rfl) (?_ : wpv K_X8_group d P 40 [some (4, (p0 : Int)), some (0, x1), none, some (0, x3)] [(0, 960), (0, x3)] G R V)
  obtain ⟨s1, w⟩ := w
  refine wp_icmp (c := .ge) 61 rfl rfl rfl s1 ⟨by omega, by omega⟩ (fun q => ?_) (fun q => ?_)
  · have q : ¬ x3 < 960 := q
    replace w := w.1 q
    show wpv K_X8_group d P 61 [some (4, (p0 : Int)), some (0, x1), none, some (0, x3)] [] G R V
    refine wp_ld (i := (.aload_n 0)) (4, (p0 : Int)) rfl rfl (fun _ => rfl) rfl rfl (?_ : wpv K_X8_group d P 62 [some (4, (p0 : Int)), some (0, x1), none, some (0, x3)] [(4, (p0 : Int))] G R V)
    refine wp_ld (i := (.aload_n 0)) (4, (p0 : Int)) rfl rfl (fun _ => rfl) rfl rfl (?_ : wpv K_X8_group d P 63 [some (4, (p0 : Int)), some (0, x1), none, some (0, x3)] [(4, (p0 : Int)), (4, (p0 : Int))] G R V)
    refine wp_rng (fun vr2 => ?_)
    have f3 : i32 (V p0 4) := vr_f0 vr2 (ly8_o l0) rfl rfl
    replace w := w f3
    refine wp_getI (k := 4) rfl rfl rfl (ly8_o l0) rfl rfl (?_ : wpv K_X8_group d P 66 [some (4, (p0 : Int)), some (0, x1), none, some (0, x3)] [(0, (V p0 4)), (4, (p0 : Int))] G R V)
    refine wp_putI (k := 26) rfl rfl rfl (ly8_o l0) rfl rfl rfl f3 (?_ : wpv K_X8_group d P 69 [some (4, (p0 : Int)), some (0, x1), none, some (0, x3)] [] G R (wr V p0 26 ((V p0 4))))
    refine wp_ld (i := (.aload_n 0)) (4, (p0 : Int)) rfl rfl (fun _ => rfl) rfl rfl (?_ : wpv K_X8_group d P 70 [some (4, (p0 : Int)), some (0, x1), none, some (0, x3)] [(4, (p0 : Int))] G R (wr V p0 26 ((V p0 4))))
    refine wp_ld (i := (.aload_n 0)) (4, (p0 : Int)) rfl rfl (fun _ => rfl) rfl rfl (?_ : wpv K_X8_group d P 71 [some (4, (p0 : Int)), some (0, x1), none, some (0, x3)] [(4, (p0 : Int)), (4, (p0 : Int))] G R (wr V p0 26 ((V p0 4))))
    refine wp_rng (fun vr4 => ?_)
    have r5 : ((wr V p0 26 ((V p0 4))) p0 5) = (V p0 5) := (wr_i (by omega))
    have f6 : i32 (V p0 5) := (by have h := vr_f0 vr4 (ly8_o l0) rfl (k := 5) (k' := 5) rfl; rw [r5] at h; exact h)
    replace w := w f6
    refine wp_getIe (k := 5) rfl rfl rfl (ly8_o l0) rfl rfl r5 (?_ : wpv K_X8_group d P 74 [some (4, (p0 : Int)), some (0, x1), none, some (0, x3)] [(0, (V p0 5)), (4, (p0 : Int))] G R (wr V p0 26 ((V p0 4))))
    refine wp_putI (k := 27) rfl rfl rfl (ly8_o l0) rfl rfl rfl f6 (?_ : wpv K_X8_group d P 77 [some (4, (p0 : Int)), some (0, x1), none, some (0, x3)] [] G R (wr (wr V p0 26 ((V p0 4))) p0 27 ((V p0 5))))
    refine wp_ld (i := (.aload_n 0)) (4, (p0 : Int)) rfl rfl (fun _ => rfl) rfl rfl (?_ : wpv K_X8_group d P 78 [some (4, (p0 : Int)), some (0, x1), none, some (0, x3)] [(4, (p0 : Int))] G R (wr (wr V p0 26 ((V p0 4))) p0 27 ((V p0 5))))
    refine wp_ld (i := (.iload_n 1)) (0, x1) rfl rfl (fun _ => rfl) rfl rfl (?_ : wpv K_X8_group d P 79 [some (4, (p0 : Int)), some (0, x1), none, some (0, x3)] [(0, x1), (4, (p0 : Int))] G R (wr (wr V p0 26 ((V p0 4))) p0 27 ((V p0 5))))
    refine wp_virt (as := [(0, x1)]) (a := p0) (st := []) _ rfl rfl rfl rfl rfl rfl (ly8_o l0) (Nat.le_of_ble_eq_true rfl) (cwv_k0 w (fun V7 w => ?_))
    show wpv K_X8_group d P 82 [some (4, (p0 : Int)), some (0, x1), none, some (0, x3)] [] G R V7
    refine wp_ld (i := (.aload_n 0)) (4, (p0 : Int)) rfl rfl (fun _ => rfl) rfl rfl (?_ : wpv K_X8_group d P 83 [some (4, (p0 : Int)), some (0, x1), none, some (0, x3)] [(4, (p0 : Int))] G R V7)
    refine wp_virt (as := []) (a := p0) (st := []) _ rfl rfl rfl rfl rfl rfl (ly8_o l0) (Nat.le_of_ble_eq_true rfl) (cwv_kI w (fun v9 V8 w => ?_))
    show wpv K_X8_group d P 86 [some (4, (p0 : Int)), some (0, x1), none, some (0, x3)] [(0, v9)] G R V8
    obtain ⟨s10, w⟩ := w
    refine wp_if (c := .ne) 112 rfl rfl rfl s10 (fun q => ?_) (fun q => ?_)
    · have q : ¬ v9 = 0 := q
      replace w := w.1 q
      show wpv K_X8_group d P 112 [some (4, (p0 : Int)), some (0, x1), none, some (0, x3)] [] G R V8
      refine wp_ld (i := (.aload_n 0)) (4, (p0 : Int)) rfl rfl (fun _ => rfl) rfl rfl (?_ : wpv K_X8_group d P 113 [some (4, (p0 : Int)), some (0, x1), none, some (0, x3)] [(4, (p0 : Int))] G R V8)
      refine wp_virt (as := []) (a := p0) (st := []) _ rfl rfl rfl rfl rfl rfl (ly8_o l0) (Nat.le_of_ble_eq_true rfl) (cwv_k0 w (fun V11 w => ?_))
      show wpv K_X8_group d P 116 [some (4, (p0 : Int)), some (0, x1), none, some (0, x3)] [] G R V11
      refine wp_p (i := (.iconst 0)) rfl rfl (fun _ _ _ => rfl) (?_ : wpv K_X8_group d P 117 [some (4, (p0 : Int)), some (0, x1), none, some (0, x3)] [(0, 0)] G R V11)
      refine wp_sto (i := (.istore_n 3)) _ rfl rfl (fun _ => rfl) rfl rfl rfl ?_
      refine wp_wk (L' := [some (4, (p0 : Int)), some (0, x1), none, some (0, 0)]) (wk_s (wk_s (wk_n (wk_s wk_0)))) ?_
      show wpv K_X8_group d P 118 [some (4, (p0 : Int)), some (0, x1), none, some (0, 0)] [] G R V11
      exact wp_wk (wk_s (wk_n (wk_n (wk_s wk_0)))) w
    · have q : v9 = 0 := Decidable.not_not.mp q
      replace w := w.2 q
      show wpv K_X8_group d P 89 [some (4, (p0 : Int)), some (0, x1), none, some (0, x3)] [] G R V8
      refine wp_ld (i := (.aload_n 0)) (4, (p0 : Int)) rfl rfl (fun _ => rfl) rfl rfl (?_ : wpv K_X8_group d P 90 [some (4, (p0 : Int)), some (0, x1), none, some (0, x3)] [(4, (p0 : Int))] G R V8)
      refine wp_ld (i := (.aload_n 0)) (4, (p0 : Int)) rfl rfl (fun _ => rfl) rfl rfl (?_ : wpv K_X8_group d P 91 [some (4, (p0 : Int)), some (0, x1), none, some (0, x3)] [(4, (p0 : Int)), (4, (p0 : Int))] G R V8)
      refine wp_getA (k := 25) rfl rfl rfl (ly8_o l0) rfl rfl (ly8_25 l0).1 (?_ : wpv K_X8_group d P 94 [some (4, (p0 : Int)), some (0, x1), none, some (0, x3)] [(4, ((p0 + 20 : Nat) : Int)), (4, (p0 : Int))] G R V8)
      refine wp_ld (i := (.aload_n 0)) (4, (p0 : Int)) rfl rfl (fun _ => rfl) rfl rfl (?_ : wpv K_X8_group d P 95 [some (4, (p0 : Int)), some (0, x1), none, some (0, x3)] [(4, (p0 : Int)), (4, ((p0 + 20 : Nat) : Int)), (4, (p0 : Int))] G R V8)
      refine wp_rng (fun vr12 => ?_)
      have f13 : i32 (V8 p0 26) := vr_f0 vr12 (ly8_o l0) rfl rfl
      replace w := w f13
      refine wp_getI (k := 26) rfl rfl rfl (ly8_o l0) rfl rfl (?_ : wpv K_X8_group d P 98 [some (4, (p0 : Int)), some (0, x1), none, some (0, x3)] [(0, (V8 p0 26)), (4, ((p0 + 20 : Nat) : Int)), (4, (p0 : Int))] G R V8)
      refine wp_ld (i := (.aload_n 0)) (4, (p0 : Int)) rfl rfl (fun _ => rfl) rfl rfl (?_ : wpv K_X8_group d P 99 [some (4, (p0 : Int)), some (0, x1), none, some (0, x3)] [(4, (p0 : Int)), (0, (V8 p0 26)), (4, ((p0 + 20 : Nat) : Int)), (4, (p0 : Int))] G R V8)
      have f14 : i32 (V8 p0 27) := vr_f0 vr12 (ly8_o l0) rfl rfl
      replace w := w f14
      refine wp_getI (k := 27) rfl rfl rfl (ly8_o l0) rfl rfl (?_ : wpv K_X8_group d P 102 [some (4, (p0 : Int)), some (0, x1), none, some (0, x3)] [(0, (V8 p0 27)), (0, (V8 p0 26)), (4, ((p0 + 20 : Nat) : Int)), (4, (p0 : Int))] G R V8)
      refine wp_virt (as := [(4, ((p0 + 20 : Nat) : Int)), (0, (V8 p0 26)), (0, (V8 p0 27))]) (a := p0) (st := []) _ rfl rfl rfl rfl rfl rfl (ly8_o l0) (Nat.le_of_ble_eq_true rfl) (cwv_k0 w (fun V15 w => ?_))
      show wpv K_X8_group d P 105 [some (4, (p0 : Int)), some (0, x1), none, some (0, x3)] [] G R V15
      refine wp_ld (i := (.aload_n 0)) (4, (p0 : Int)) rfl rfl (fun _ => rfl) rfl rfl (?_ : wpv K_X8_group d P 106 [some (4, (p0 : Int)), some (0, x1), none, some (0, x3)] [(4, (p0 : Int))] G R V15)
      refine wp_p (i := (.bipush (-5))) rfl rfl (fun _ _ _ => rfl) (?_ : wpv K_X8_group d P 108 [some (4, (p0 : Int)), some (0, x1), none, some (0, x3)] [(0, (-5)), (4, (p0 : Int))] G R V15)
      refine wp_virt (as := [(0, (-5))]) (a := p0) (st := []) _ rfl rfl rfl rfl rfl rfl (ly8_o l0) (Nat.le_of_ble_eq_true rfl) (cwv_kI w (fun v17 V16 w => ?_))
      show wpv K_X8_group d P 111 [some (4, (p0 : Int)), some (0, x1), none, some (0, x3)] [(0, v17)] G R V16
      exact wp_rI rfl rfl rfl w
  · have q : x3 < 960 := Decidable.not_not.mp q
    replace w := w.2 q
    show wpv K_X8_group d P 43 [some (4, (p0 : Int)), some (0, x1), none, some (0, x3)] [] G R V
    refine wp_ld (i := (.aload_n 0)) (4, (p0 : Int)) rfl rfl (fun _ => rfl) rfl rfl (?_ : wpv K_X8_group d P 44 [some (4, (p0 : Int)), some (0, x1), none, some (0, x3)] [(4, (p0 : Int))] G R V)
    refine wp_getA (k := 25) rfl rfl rfl (ly8_o l0) rfl rfl (ly8_25 l0).1 (?_ : wpv K_X8_group d P 47 [some (4, (p0 : Int)), some (0, x1), none, some (0, x3)] [(4, ((p0 + 20 : Nat) : Int))] G R V)
    refine wp_ld (i := (.iload_n 3)) (0, x3) rfl rfl (fun _ => rfl) rfl rfl (?_ : wpv K_X8_group d P 48 [some (4, (p0 : Int)), some (0, x1), none, some (0, x3)] [(0, x3), (4, ((p0 + 20 : Nat) : Int))] G R V)
    refine wp_ld (i := (.aload_n 0)) (4, (p0 : Int)) rfl rfl (fun _ => rfl) rfl rfl (?_ : wpv K_X8_group d P 49 [some (4, (p0 : Int)), some (0, x1), none, some (0, x3)] [(4, (p0 : Int)), (0, x3), (4, ((p0 + 20 : Nat) : Int))] G R V)
    refine wp_getA (k := 6) rfl rfl rfl (ly8_o l0) rfl rfl (ly8_6 l0).1 (?_ : wpv K_X8_group d P 52 [some (4, (p0 : Int)), some (0, x1), none, some (0, x3)] [(4, ((p0 + 4 : Nat) : Int)), (0, x3), (4, ((p0 + 20 : Nat) : Int))] G R V)
    refine wp_ld (i := (.iload_n 3)) (0, x3) rfl rfl (fun _ => rfl) rfl rfl (?_ : wpv K_X8_group d P 53 [some (4, (p0 : Int)), some (0, x1), none, some (0, x3)] [(0, x3), (4, ((p0 + 4 : Nat) : Int)), (0, x3), (4, ((p0 + 20 : Nat) : Int))] G R V)
    obtain ⟨s18, w⟩ := w
    refine wp_rng (fun vr19 => ?_)
    have f20 : i32 (V (p0 + 4) x3) := vr_a0 vr19 (ly8_6 l0).2 s18
    replace w := w f20
    refine wp_aI rfl rfl (ly8_6 l0).2 s18 (?_ : wpv K_X8_group d P 54 [some (4, (p0 : Int)), some (0, x1), none, some (0, x3)] [(0, (V (p0 + 4) x3)), (0, x3), (4, ((p0 + 20 : Nat) : Int))] G R V)
    refine wp_sI rfl rfl (ly8_25 l0).2 s18 f20 (?_ : wpv K_X8_group d P 55 [some (4, (p0 : Int)), some (0, x1), none, some (0, x3)] [] G R (wr V (p0 + 20) x3 ((V (p0 + 4) x3))))
    obtain ⟨s21, w⟩ := w
    refine wp_inc (x := 3) (k := 1) (a := x3) (c := (x3 + 1)) _ rfl rfl rfl rfl s21 (by omega) rfl ?_
    show wpv K_X8_group d P 58 [some (4, (p0 : Int)), some (0, x1), none, some (0, (x3 + 1))] [] G R (wr V (p0 + 20) x3 ((V (p0 + 4) x3)))
    refine wp_go 36 rfl rfl rfl (?_ : wpv K_X8_group d P 36 [some (4, (p0 : Int)), some (0, x1), none, some (0, (x3 + 1))] [] G R (wr V (p0 + 20) x3 ((V (p0 + 4) x3))))
    exact wp_wk (wk_s (wk_s (wk_n (wk_s wk_0)))) w

theorem t_X8_group_118 {d : Nat} {P : gP} {p0 : Nat} {x3 : Int} {G : List gS} {R V : gV} (l0 : lay8 G R p0) (w : ((i32 x3) ∧ (((¬ x3 < 8) → ((i32 (V p0 5)) → cwv d (fun r V5 => ∃ v6 : Int, r = some (0, v6) ∧ P (some (0, v6)) V5) 160 [(4, (p0 : Int)), (0, (V p0 5))] G R (wr V p0 35 0))) ∧ ((x3 < 8) → ((0 ≤ x3 ∧ x3 < 8) ∧ ((i32 (x3 + 1)) ∧ wpv K_X8_group d P 118 [some (4, (p0 : Int)), none, none, some (0, (x3 + 1))] [] G R (wr V (p0 + 21) x3 0))))))) : wpv K_X8_group d P 118 [some (4, (p0 : Int)), none, none, some (0, x3)] [] G R V := by
  refine wp_ld (i := (.iload_n 3)) (0, x3) rfl rfl (fun _ => rfl) rfl rfl (?_ : wpv K_X8_group d P 119 [some (4, (p0 : Int)), none, none, some (0, x3)] [(0, x3)] G R V)
  refine wp_p (i := (.bipush 8)) rfl rfl (fun _ _ _ => rfl) (?_ : wpv K_X8_group d P 121 [some (4, (p0 : Int)), none, none, some (0, x3)] [(0, 8), (0, x3)] G R V)
  obtain ⟨s1, w⟩ := w
  refine wp_icmp (c := .ge) 137 rfl rfl rfl s1 ⟨by omega, by omega⟩ (fun q => ?_) (fun q => ?_)
  · have q : ¬ x3 < 8 := q
    replace w := w.1 q
    show wpv K_X8_group d P 137 [some (4, (p0 : Int)), none, none, some (0, x3)] [] G R V
    refine wp_ld (i := (.aload_n 0)) (4, (p0 : Int)) rfl rfl (fun _ => rfl) rfl rfl (?_ : wpv K_X8_group d P 138 [some (4, (p0 : Int)), none, none, some (0, x3)] [(4, (p0 : Int))] G R V)
    refine wp_p (i := (.iconst 0)) rfl rfl (fun _ _ _ => rfl) (?_ : wpv K_X8_group d P 139 [some (4, (p0 : Int)), none, none, some (0, x3)] [(0, 0), (4, (p0 : Int))] G R V)
    refine wp_putI (k := 35) rfl rfl rfl (ly8_o l0) rfl rfl rfl ⟨by omega, by omega⟩ (?_ : wpv K_X8_group d P 142 [some (4, (p0 : Int)), none, none, some (0, x3)] [] G R (wr V p0 35 0))
    refine wp_ld (i := (.aload_n 0)) (4, (p0 : Int)) rfl rfl (fun _ => rfl) rfl rfl (?_ : wpv K_X8_group d P 143 [some (4, (p0 : Int)), none, none, some (0, x3)] [(4, (p0 : Int))] G R (wr V p0 35 0))
    refine wp_ld (i := (.aload_n 0)) (4, (p0 : Int)) rfl rfl (fun _ => rfl) rfl rfl (?_ : wpv K_X8_group d P 144 [some (4, (p0 : Int)), none, none, some (0, x3)] [(4, (p0 : Int)), (4, (p0 : Int))] G R (wr V p0 35 0))
    refine wp_rng (fun vr2 => ?_)
    have r3 : ((wr V p0 35 0) p0 5) = (V p0 5) := (wr_i (by omega))
    have f4 : i32 (V p0 5) := (by have h := vr_f0 vr2 (ly8_o l0) rfl (k := 5) (k' := 5) rfl; rw [r3] at h; exact h)
    replace w := w f4
    refine wp_getIe (k := 5) rfl rfl rfl (ly8_o l0) rfl rfl r3 (?_ : wpv K_X8_group d P 147 [some (4, (p0 : Int)), none, none, some (0, x3)] [(0, (V p0 5)), (4, (p0 : Int))] G R (wr V p0 35 0))
    refine wp_virt (as := [(0, (V p0 5))]) (a := p0) (st := []) _ rfl rfl rfl rfl rfl rfl (ly8_o l0) (Nat.le_of_ble_eq_true rfl) (cwv_kI w (fun v6 V5 w => ?_))
    show wpv K_X8_group d P 150 [some (4, (p0 : Int)), none, none, some (0, x3)] [(0, v6)] G R V5
    exact wp_rI rfl rfl rfl w
  · have q : x3 < 8 := Decidable.not_not.mp q
    replace w := w.2 q
    show wpv K_X8_group d P 124 [some (4, (p0 : Int)), none, none, some (0, x3)] [] G R V
    refine wp_ld (i := (.aload_n 0)) (4, (p0 : Int)) rfl rfl (fun _ => rfl) rfl rfl (?_ : wpv K_X8_group d P 125 [some (4, (p0 : Int)), none, none, some (0, x3)] [(4, (p0 : Int))] G R V)
    refine wp_getA (k := 28) rfl rfl rfl (ly8_o l0) rfl rfl (ly8_28 l0).1 (?_ : wpv K_X8_group d P 128 [some (4, (p0 : Int)), none, none, some (0, x3)] [(4, ((p0 + 21 : Nat) : Int))] G R V)
    refine wp_ld (i := (.iload_n 3)) (0, x3) rfl rfl (fun _ => rfl) rfl rfl (?_ : wpv K_X8_group d P 129 [some (4, (p0 : Int)), none, none, some (0, x3)] [(0, x3), (4, ((p0 + 21 : Nat) : Int))] G R V)
    refine wp_p (i := (.iconst 0)) rfl rfl (fun _ _ _ => rfl) (?_ : wpv K_X8_group d P 130 [some (4, (p0 : Int)), none, none, some (0, x3)] [(0, 0), (0, x3), (4, ((p0 + 21 : Nat) : Int))] G R V)
    obtain ⟨s7, w⟩ := w
    refine wp_sB rfl rfl (ly8_28 l0).2 s7 (by omega) (?_ : wpv K_X8_group d P 131 [some (4, (p0 : Int)), none, none, some (0, x3)] [] G R (wr V (p0 + 21) x3 0))
    obtain ⟨s8, w⟩ := w
    refine wp_inc (x := 3) (k := 1) (a := x3) (c := (x3 + 1)) _ rfl rfl rfl rfl s8 (by omega) rfl ?_
    show wpv K_X8_group d P 134 [some (4, (p0 : Int)), none, none, some (0, (x3 + 1))] [] G R (wr V (p0 + 21) x3 0)
    refine wp_go 118 rfl rfl rfl (?_ : wpv K_X8_group d P 118 [some (4, (p0 : Int)), none, none, some (0, (x3 + 1))] [] G R (wr V (p0 + 21) x3 0))
    exact wp_wk (wk_s (wk_n (wk_n (wk_s wk_0)))) w
theorem t_X8_count_0 {d : Nat} {P : gP} {p0 : Nat} {x1 : Int} {G : List gS} {R V : gV} (l0 : lay8 G R p0) (w : ((i32 x1) ∧ (((x1 < 0 ∨ 5 < x1) → P (some (0, (-1))) V) ∧ ((x1 = 0) → ((i32 (V p0 4)) → P (some (0, (V p0 4))) V)) ∧ ((x1 = 1) → ((i32 (V p0 5)) → P (some (0, (V p0 5))) V)) ∧ ((x1 = 2) → ((i32 (V p0 12)) → P (some (0, (V p0 12))) V)) ∧ ((x1 = 3) → ((i32 (V p0 13)) → P (some (0, (V p0 13))) V)) ∧ ((x1 = 4) → wpv K_X8_count d P 64 [some (4, (p0 : Int)), none, some (0, 0), some (0, 0)] [] G R V) ∧ ((x1 = 5) → ((i32 (V p0 35)) → P (some (0, (V p0 35))) V))))) : wpv K_X8_count d P 0 [some (4, (p0 : Int)), some (0, x1)] [] G R V := by
  refine wp_ld (i := (.iload_n 1)) (0, x1) rfl rfl (fun _ => rfl) rfl rfl (?_ : wpv K_X8_count d P 1 [some (4, (p0 : Int)), some (0, x1)] [(0, x1)] G R V)
  obtain ⟨s1, w⟩ := w
  by_cases qd : x1 < 0 ∨ 5 < x1
  · replace w := w.1 qd
    refine wp_tsd 100 rfl rfl s1 qd rfl (?_ : wpv K_X8_count d P 100 [some (4, (p0 : Int)), some (0, x1)] [] G R V)
    refine wp_p (i := (.iconst (-1))) rfl rfl (fun _ _ _ => rfl) (?_ : wpv K_X8_count d P 101 [some (4, (p0 : Int)), some (0, x1)] [(0, (-1))] G R V)
    exact wp_rI rfl rfl rfl w
  replace w := w.2
  by_cases q0 : x1 = 0
  · replace w := w.1 q0
    refine wp_tsw 0 40 rfl rfl s1 (by omega) (by omega) rfl rfl (?_ : wpv K_X8_count d P 40 [some (4, (p0 : Int)), some (0, x1)] [] G R V)
    refine wp_ld (i := (.aload_n 0)) (4, (p0 : Int)) rfl rfl (fun _ => rfl) rfl rfl (?_ : wpv K_X8_count d P 41 [some (4, (p0 : Int)), some (0, x1)] [(4, (p0 : Int))] G R V)
    refine wp_rng (fun vr2 => ?_)
    have f3 : i32 (V p0 4) := vr_f0 vr2 (ly8_o l0) rfl rfl
    replace w := w f3
    refine wp_getI (k := 4) rfl rfl rfl (ly8_o l0) rfl rfl (?_ : wpv K_X8_count d P 44 [some (4, (p0 : Int)), some (0, x1)] [(0, (V p0 4))] G R V)
    exact wp_rI rfl rfl rfl w
  replace w := w.2
  by_cases q1 : x1 = 1
  · replace w := w.1 q1
    refine wp_tsw 1 45 rfl rfl s1 (by omega) (by omega) rfl rfl (?_ : wpv K_X8_count d P 45 [some (4, (p0 : Int)), some (0, x1)] [] G R V)
    refine wp_ld (i := (.aload_n 0)) (4, (p0 : Int)) rfl rfl (fun _ => rfl) rfl rfl (?_ : wpv K_X8_count d P 46 [some (4, (p0 : Int)), some (0, x1)] [(4, (p0 : Int))] G R V)
    refine wp_rng (fun vr4 => ?_)
    have f5 : i32 (V p0 5) := vr_f0 vr4 (ly8_o l0) rfl rfl
    replace w := w f5
    refine wp_getI (k := 5) rfl rfl rfl (ly8_o l0) rfl rfl (?_ : wpv K_X8_count d P 49 [some (4, (p0 : Int)), some (0, x1)] [(0, (V p0 5))] G R V)
    exact wp_rI rfl rfl rfl w
  replace w := w.2
  by_cases q2 : x1 = 2
  · replace w := w.1 q2
    refine wp_tsw 2 50 rfl rfl s1 (by omega) (by omega) rfl rfl (?_ : wpv K_X8_count d P 50 [some (4, (p0 : Int)), some (0, x1)] [] G R V)
    refine wp_ld (i := (.aload_n 0)) (4, (p0 : Int)) rfl rfl (fun _ => rfl) rfl rfl (?_ : wpv K_X8_count d P 51 [some (4, (p0 : Int)), some (0, x1)] [(4, (p0 : Int))] G R V)
    refine wp_rng (fun vr6 => ?_)
    have f7 : i32 (V p0 12) := vr_f0 vr6 (ly8_o l0) rfl rfl
    replace w := w f7
    refine wp_getI (k := 12) rfl rfl rfl (ly8_o l0) rfl rfl (?_ : wpv K_X8_count d P 54 [some (4, (p0 : Int)), some (0, x1)] [(0, (V p0 12))] G R V)
    exact wp_rI rfl rfl rfl w
  replace w := w.2
  by_cases q3 : x1 = 3
  · replace w := w.1 q3
    refine wp_tsw 3 55 rfl rfl s1 (by omega) (by omega) rfl rfl (?_ : wpv K_X8_count d P 55 [some (4, (p0 : Int)), some (0, x1)] [] G R V)
    refine wp_ld (i := (.aload_n 0)) (4, (p0 : Int)) rfl rfl (fun _ => rfl) rfl rfl (?_ : wpv K_X8_count d P 56 [some (4, (p0 : Int)), some (0, x1)] [(4, (p0 : Int))] G R V)
    refine wp_rng (fun vr8 => ?_)
    have f9 : i32 (V p0 13) := vr_f0 vr8 (ly8_o l0) rfl rfl
    replace w := w f9
    refine wp_getI (k := 13) rfl rfl rfl (ly8_o l0) rfl rfl (?_ : wpv K_X8_count d P 59 [some (4, (p0 : Int)), some (0, x1)] [(0, (V p0 13))] G R V)
    exact wp_rI rfl rfl rfl w
  replace w := w.2
  by_cases q4 : x1 = 4
  · replace w := w.1 q4
    refine wp_tsw 4 60 rfl rfl s1 (by omega) (by omega) rfl rfl (?_ : wpv K_X8_count d P 60 [some (4, (p0 : Int)), some (0, x1)] [] G R V)
    refine wp_p (i := (.iconst 0)) rfl rfl (fun _ _ _ => rfl) (?_ : wpv K_X8_count d P 61 [some (4, (p0 : Int)), some (0, x1)] [(0, 0)] G R V)
    refine wp_sto (i := (.istore_n 2)) _ rfl rfl (fun _ => rfl) rfl rfl rfl ?_
    refine wp_wk (L' := [some (4, (p0 : Int)), some (0, x1), some (0, 0)]) (wk_s (wk_s (wk_s wk_0))) ?_
    show wpv K_X8_count d P 62 [some (4, (p0 : Int)), some (0, x1), some (0, 0)] [] G R V
    refine wp_p (i := (.iconst 0)) rfl rfl (fun _ _ _ => rfl) (?_ : wpv K_X8_count d P 63 [some (4, (p0 : Int)), some (0, x1), some (0, 0)] [(0, 0)] G R V)
    refine wp_sto (i := (.istore_n 3)) _ rfl rfl (fun _ => rfl) rfl rfl rfl ?_
    refine wp_wk (L' := [some (4, (p0 : Int)), some (0, x1), some (0, 0), some (0, 0)]) (wk_s (wk_s (wk_s (wk_s wk_0)))) ?_
    show wpv K_X8_count d P 64 [some (4, (p0 : Int)), some (0, x1), some (0, 0), some (0, 0)] [] G R V
    exact wp_wk (wk_s (wk_n (wk_s (wk_s wk_0)))) w
  replace w := w.2
  have q5 : x1 = 5 := by omega
  replace w := w q5
  refine wp_tsw 5 95 rfl rfl s1 (by omega) (by omega) rfl rfl (?_ : wpv K_X8_count d P 95 [some (4, (p0 : Int)), some (0, x1)] [] G R V)
  refine wp_ld (i := (.aload_n 0)) (4, (p0 : Int)) rfl rfl (fun _ => rfl) rfl rfl (?_ : wpv K_X8_count d P 96 [some (4, (p0 : Int)), some (0, x1)] [(4, (p0 : Int))] G R V)
  refine wp_rng (fun vr10 => ?_)
  have f11 : i32 (V p0 35) := vr_f0 vr10 (ly8_o l0) rfl rfl
  replace w := w f11
  refine wp_getI (k := 35) rfl rfl rfl (ly8_o l0) rfl rfl (?_ : wpv K_X8_count d P 99 [some (4, (p0 : Int)), some (0, x1)] [(0, (V p0 35))] G R V)
  exact wp_rI rfl rfl rfl w

theorem t_X8_count_64 {d : Nat} {P : gP} {p0 : Nat} {x2 : Int} {x3 : Int} {G : List gS} {R V : gV} (l0 : lay8 G R p0) (w : ((i32 x3) ∧ (((¬ x3 < 8) → P (some (0, x2)) V) ∧ ((x3 < 8) → ((0 ≤ x3 ∧ x3 < 8) ∧ (((V (p0 + 21) x3) = 0 ∨ (V (p0 + 21) x3) = 1) → ((((V (p0 + 21) x3) = 0) → ((i32 (x2 + 0)) ∧ ((i32 (x3 + 1)) ∧ wpv K_X8_count d P 64 [some (4, (p0 : Int)), none, some (0, (x2 + 0)), some (0, (x3 + 1))] [] G R V))) ∧ ((¬ (V (p0 + 21) x3) = 0) → ((i32 (x2 + 1)) ∧ ((i32 (x3 + 1)) ∧ wpv K_X8_count d P 64 [some (4, (p0 : Int)), none, some (0, (x2 + 1)), some (0, (x3 + 1))] [] G R V)))))))))) : wpv K_X8_count d P 64 [some (4, (p0 : Int)), none, some (0, x2), some (0, x3)] [] G R V := by
  refine wp_ld (i := (.iload_n 3)) (0, x3) rfl rfl (fun _ => rfl) rfl rfl (?_ : wpv K_X8_count d P 65 [some (4, (p0 : Int)), none, some (0, x2), some (0, x3)] [(0, x3)] G R V)
  refine wp_p (i := (.bipush 8)) rfl rfl (fun _ _ _ => rfl) (?_ : wpv K_X8_count d P 67 [some (4, (p0 : Int)), none, some (0, x2), some (0, x3)] [(0, 8), (0, x3)] G R V)
  obtain ⟨s1, w⟩ := w
  refine wp_icmp (c := .ge) 93 rfl rfl rfl s1 ⟨by omega, by omega⟩ (fun q => ?_) (fun q => ?_)
  · have q : ¬ x3 < 8 := q
    replace w := w.1 q
    show wpv K_X8_count d P 93 [some (4, (p0 : Int)), none, some (0, x2), some (0, x3)] [] G R V
    refine wp_ld (i := (.iload_n 2)) (0, x2) rfl rfl (fun _ => rfl) rfl rfl (?_ : wpv K_X8_count d P 94 [some (4, (p0 : Int)), none, some (0, x2), some (0, x3)] [(0, x2)] G R V)
    exact wp_rI rfl rfl rfl w
  · have q : x3 < 8 := Decidable.not_not.mp q
    replace w := w.2 q
    show wpv K_X8_count d P 70 [some (4, (p0 : Int)), none, some (0, x2), some (0, x3)] [] G R V
    refine wp_ld (i := (.iload_n 2)) (0, x2) rfl rfl (fun _ => rfl) rfl rfl (?_ : wpv K_X8_count d P 71 [some (4, (p0 : Int)), none, some (0, x2), some (0, x3)] [(0, x2)] G R V)
    refine wp_ld (i := (.aload_n 0)) (4, (p0 : Int)) rfl rfl (fun _ => rfl) rfl rfl (?_ : wpv K_X8_count d P 72 [some (4, (p0 : Int)), none, some (0, x2), some (0, x3)] [(4, (p0 : Int)), (0, x2)] G R V)
    refine wp_getA (k := 28) rfl rfl rfl (ly8_o l0) rfl rfl (ly8_28 l0).1 (?_ : wpv K_X8_count d P 75 [some (4, (p0 : Int)), none, some (0, x2), some (0, x3)] [(4, ((p0 + 21 : Nat) : Int)), (0, x2)] G R V)
    refine wp_ld (i := (.iload_n 3)) (0, x3) rfl rfl (fun _ => rfl) rfl rfl (?_ : wpv K_X8_count d P 76 [some (4, (p0 : Int)), none, some (0, x2), some (0, x3)] [(0, x3), (4, ((p0 + 21 : Nat) : Int)), (0, x2)] G R V)
    obtain ⟨s2, w⟩ := w
    refine wp_rng (fun vr3 => ?_)
    have f4 : (V (p0 + 21) x3) = 0 ∨ (V (p0 + 21) x3) = 1 := vr_a2 vr3 (ly8_28 l0).2 s2
    replace w := w f4
    have f5 : i32 (V (p0 + 21) x3) := by unfold i32; omega
    refine wp_aB rfl rfl (ly8_28 l0).2 s2 (?_ : wpv K_X8_count d P 77 [some (4, (p0 : Int)), none, some (0, x2), some (0, x3)] [(0, (V (p0 + 21) x3)), (0, x2)] G R V)
    refine wp_if (c := .eq) 84 rfl rfl rfl f5 (fun q => ?_) (fun q => ?_)
    · have q : (V (p0 + 21) x3) = 0 := q
      replace w := w.1 q
      show wpv K_X8_count d P 84 [some (4, (p0 : Int)), none, some (0, x2), some (0, x3)] [(0, x2)] G R V
      refine wp_p (i := (.iconst 0)) rfl rfl (fun _ _ _ => rfl) (?_ : wpv K_X8_count d P 85 [some (4, (p0 : Int)), none, some (0, x2), some (0, x3)] [(0, 0), (0, x2)] G R V)
      obtain ⟨s6, w⟩ := w
      refine wp_xadd rfl rfl s6 (?_ : wpv K_X8_count d P 86 [some (4, (p0 : Int)), none, some (0, x2), some (0, x3)] [(0, (x2 + 0))] G R V)
      refine wp_sto (i := (.istore_n 2)) _ rfl rfl (fun _ => rfl) rfl rfl rfl ?_
      refine wp_wk (L' := [some (4, (p0 : Int)), none, some (0, (x2 + 0)), some (0, x3)]) (wk_s (wk_n (wk_s (wk_s wk_0)))) ?_
      show wpv K_X8_count d P 87 [some (4, (p0 : Int)), none, some (0, (x2 + 0)), some (0, x3)] [] G R V
      obtain ⟨s7, w⟩ := w
      refine wp_inc (x := 3) (k := 1) (a := x3) (c := (x3 + 1)) _ rfl rfl rfl rfl s7 (by omega) rfl ?_
      show wpv K_X8_count d P 90 [some (4, (p0 : Int)), none, some (0, (x2 + 0)), some (0, (x3 + 1))] [] G R V
      refine wp_go 64 rfl rfl rfl (?_ : wpv K_X8_count d P 64 [some (4, (p0 : Int)), none, some (0, (x2 + 0)), some (0, (x3 + 1))] [] G R V)
      exact wp_wk (wk_s (wk_n (wk_s (wk_s wk_0)))) w
    · have q : ¬ (V (p0 + 21) x3) = 0 := q
      replace w := w.2 q
      show wpv K_X8_count d P 80 [some (4, (p0 : Int)), none, some (0, x2), some (0, x3)] [(0, x2)] G R V
      refine wp_p (i := (.iconst 1)) rfl rfl (fun _ _ _ => rfl) (?_ : wpv K_X8_count d P 81 [some (4, (p0 : Int)), none, some (0, x2), some (0, x3)] [(0, 1), (0, x2)] G R V)
      refine wp_go 85 rfl rfl rfl (?_ : wpv K_X8_count d P 85 [some (4, (p0 : Int)), none, some (0, x2), some (0, x3)] [(0, 1), (0, x2)] G R V)
      obtain ⟨s8, w⟩ := w
      refine wp_xadd rfl rfl s8 (?_ : wpv K_X8_count d P 86 [some (4, (p0 : Int)), none, some (0, x2), some (0, x3)] [(0, (x2 + 1))] G R V)
      refine wp_sto (i := (.istore_n 2)) _ rfl rfl (fun _ => rfl) rfl rfl rfl ?_
      refine wp_wk (L' := [some (4, (p0 : Int)), none, some (0, (x2 + 1)), some (0, x3)]) (wk_s (wk_n (wk_s (wk_s wk_0)))) ?_
      show wpv K_X8_count d P 87 [some (4, (p0 : Int)), none, some (0, (x2 + 1)), some (0, x3)] [] G R V
      obtain ⟨s9, w⟩ := w
      refine wp_inc (x := 3) (k := 1) (a := x3) (c := (x3 + 1)) _ rfl rfl rfl rfl s9 (by omega) rfl ?_
      show wpv K_X8_count d P 90 [some (4, (p0 : Int)), none, some (0, (x2 + 1)), some (0, (x3 + 1))] [] G R V
      refine wp_go 64 rfl rfl rfl (?_ : wpv K_X8_count d P 64 [some (4, (p0 : Int)), none, some (0, (x2 + 1)), some (0, (x3 + 1))] [] G R V)
      exact wp_wk (wk_s (wk_n (wk_s (wk_s wk_0)))) w
theorem t_X8_isTurn_0 {d : Nat} {P : gP} {p0 : Nat} {x1 : Int} {G : List gS} {R V : gV} (l0 : lay8 G R p0) (w : ((i32 x1) ∧ ((i32 (V p0 5)) → ((i32 ((V p0 5) - 1)) ∧ cwv d (fun r V5 => ∃ v6 : Int, r = some (0, v6) ∧ ((v6 = 0 ∨ v6 = 1) ∧ P (some (0, v6)) V5)) 159 [(2, x1), (2, 0), (2, ((V p0 5) - 1))] G R V)))) : wpv K_X8_isTurn d P 0 [some (4, (p0 : Int)), some (0, x1)] [] G R V := by
  refine wp_ld (i := (.iload_n 1)) (0, x1) rfl rfl (fun _ => rfl) rfl rfl (?_ : wpv K_X8_isTurn d P 1 [some (4, (p0 : Int)), some (0, x1)] [(0, x1)] G R V)
  obtain ⟨s1, w⟩ := w
  refine wp_i2l rfl rfl s1 (?_ : wpv K_X8_isTurn d P 2 [some (4, (p0 : Int)), some (0, x1)] [(2, x1)] G R V)
  refine wp_p (i := (.lconst 0)) rfl rfl (fun _ _ _ => rfl) (?_ : wpv K_X8_isTurn d P 3 [some (4, (p0 : Int)), some (0, x1)] [(2, 0), (2, x1)] G R V)
  refine wp_ld (i := (.aload_n 0)) (4, (p0 : Int)) rfl rfl (fun _ => rfl) rfl rfl (?_ : wpv K_X8_isTurn d P 4 [some (4, (p0 : Int)), some (0, x1)] [(4, (p0 : Int)), (2, 0), (2, x1)] G R V)
  refine wp_rng (fun vr2 => ?_)
  have f3 : i32 (V p0 5) := vr_f0 vr2 (ly8_o l0) rfl rfl
  replace w := w f3
  refine wp_getI (k := 5) rfl rfl rfl (ly8_o l0) rfl rfl (?_ : wpv K_X8_isTurn d P 7 [some (4, (p0 : Int)), some (0, x1)] [(0, (V p0 5)), (2, 0), (2, x1)] G R V)
  refine wp_p (i := (.iconst 1)) rfl rfl (fun _ _ _ => rfl) (?_ : wpv K_X8_isTurn d P 8 [some (4, (p0 : Int)), some (0, x1)] [(0, 1), (0, (V p0 5)), (2, 0), (2, x1)] G R V)
  obtain ⟨s4, w⟩ := w
  refine wp_xsub rfl rfl s4 (?_ : wpv K_X8_isTurn d P 9 [some (4, (p0 : Int)), some (0, x1)] [(0, ((V p0 5) - 1)), (2, 0), (2, x1)] G R V)
  refine wp_i2l rfl rfl s4 (?_ : wpv K_X8_isTurn d P 10 [some (4, (p0 : Int)), some (0, x1)] [(2, ((V p0 5) - 1)), (2, 0), (2, x1)] G R V)
  refine wp_stat (as := [(2, x1), (2, 0), (2, ((V p0 5) - 1))]) (st := []) _ rfl rfl rfl (by omega) rfl rfl (Nat.le_of_ble_eq_true rfl) (cwv_kI w (fun v6 V5 w => ?_))
  show wpv K_X8_isTurn d P 13 [some (4, (p0 : Int)), some (0, x1)] [(0, v6)] G R V5
  obtain ⟨s7, w⟩ := w
  exact wp_rB rfl rfl rfl s7 w
theorem t_X8_isHeap_0 {d : Nat} {P : gP} {p0 : Nat} {x1 : Int} {G : List gS} {R V : gV} (l0 : lay8 G R p0) (w : ((i32 x1) ∧ ((i32 (V p0 12)) → ((i32 ((V p0 12) - 1)) ∧ cwv d (fun r V5 => ∃ v6 : Int, r = some (0, v6) ∧ ((v6 = 0 ∨ v6 = 1) ∧ P (some (0, v6)) V5)) 159 [(2, x1), (2, 0), (2, ((V p0 12) - 1))] G R V)))) : wpv K_X8_isHeap d P 0 [some (4, (p0 : Int)), some (0, x1)] [] G R V := by
  refine wp_ld (i := (.iload_n 1)) (0, x1) rfl rfl (fun _ => rfl) rfl rfl (?_ : wpv K_X8_isHeap d P 1 [some (4, (p0 : Int)), some (0, x1)] [(0, x1)] G R V)
  obtain ⟨s1, w⟩ := w
  refine wp_i2l rfl rfl s1 (?_ : wpv K_X8_isHeap d P 2 [some (4, (p0 : Int)), some (0, x1)] [(2, x1)] G R V)
  refine wp_p (i := (.lconst 0)) rfl rfl (fun _ _ _ => rfl) (?_ : wpv K_X8_isHeap d P 3 [some (4, (p0 : Int)), some (0, x1)] [(2, 0), (2, x1)] G R V)
  refine wp_ld (i := (.aload_n 0)) (4, (p0 : Int)) rfl rfl (fun _ => rfl) rfl rfl (?_ : wpv K_X8_isHeap d P 4 [some (4, (p0 : Int)), some (0, x1)] [(4, (p0 : Int)), (2, 0), (2, x1)] G R V)
  refine wp_rng (fun vr2 => ?_)
  have f3 : i32 (V p0 12) := vr_f0 vr2 (ly8_o l0) rfl rfl
  replace w := w f3
  refine wp_getI (k := 12) rfl rfl rfl (ly8_o l0) rfl rfl (?_ : wpv K_X8_isHeap d P 7 [some (4, (p0 : Int)), some (0, x1)] [(0, (V p0 12)), (2, 0), (2, x1)] G R V)
  refine wp_p (i := (.iconst 1)) rfl rfl (fun _ _ _ => rfl) (?_ : wpv K_X8_isHeap d P 8 [some (4, (p0 : Int)), some (0, x1)] [(0, 1), (0, (V p0 12)), (2, 0), (2, x1)] G R V)
  obtain ⟨s4, w⟩ := w
  refine wp_xsub rfl rfl s4 (?_ : wpv K_X8_isHeap d P 9 [some (4, (p0 : Int)), some (0, x1)] [(0, ((V p0 12) - 1)), (2, 0), (2, x1)] G R V)
  refine wp_i2l rfl rfl s4 (?_ : wpv K_X8_isHeap d P 10 [some (4, (p0 : Int)), some (0, x1)] [(2, ((V p0 12) - 1)), (2, 0), (2, x1)] G R V)
  refine wp_stat (as := [(2, x1), (2, 0), (2, ((V p0 12) - 1))]) (st := []) _ rfl rfl rfl (by omega) rfl rfl (Nat.le_of_ble_eq_true rfl) (cwv_kI w (fun v6 V5 w => ?_))
  show wpv K_X8_isHeap d P 13 [some (4, (p0 : Int)), some (0, x1)] [(0, v6)] G R V5
  obtain ⟨s7, w⟩ := w
  exact wp_rB rfl rfl rfl s7 w
theorem t_X8_isClass_0 {d : Nat} {P : gP} {p0 : Nat} {x1 : Int} {G : List gS} {R V : gV} (l0 : lay8 G R p0) (w : ((i32 x1) ∧ ((i32 (V p0 13)) → ((i32 ((V p0 13) - 1)) ∧ cwv d (fun r V5 => ∃ v6 : Int, r = some (0, v6) ∧ ((v6 = 0 ∨ v6 = 1) ∧ P (some (0, v6)) V5)) 159 [(2, x1), (2, 0), (2, ((V p0 13) - 1))] G R V)))) : wpv K_X8_isClass d P 0 [some (4, (p0 : Int)), some (0, x1)] [] G R V := by
  refine wp_ld (i := (.iload_n 1)) (0, x1) rfl rfl (fun _ => rfl) rfl rfl (?_ : wpv K_X8_isClass d P 1 [some (4, (p0 : Int)), some (0, x1)] [(0, x1)] G R V)
  obtain ⟨s1, w⟩ := w
  refine wp_i2l rfl rfl s1 (?_ : wpv K_X8_isClass d P 2 [some (4, (p0 : Int)), some (0, x1)] [(2, x1)] G R V)
  refine wp_p (i := (.lconst 0)) rfl rfl (fun _ _ _ => rfl) (?_ : wpv K_X8_isClass d P 3 [some (4, (p0 : Int)), some (0, x1)] [(2, 0), (2, x1)] G R V)
  refine wp_ld (i := (.aload_n 0)) (4, (p0 : Int)) rfl rfl (fun _ => rfl) rfl rfl (?_ : wpv K_X8_isClass d P 4 [some (4, (p0 : Int)), some (0, x1)] [(4, (p0 : Int)), (2, 0), (2, x1)] G R V)
  refine wp_rng (fun vr2 => ?_)
  have f3 : i32 (V p0 13) := vr_f0 vr2 (ly8_o l0) rfl rfl
  replace w := w f3
  refine wp_getI (k := 13) rfl rfl rfl (ly8_o l0) rfl rfl (?_ : wpv K_X8_isClass d P 7 [some (4, (p0 : Int)), some (0, x1)] [(0, (V p0 13)), (2, 0), (2, x1)] G R V)
  refine wp_p (i := (.iconst 1)) rfl rfl (fun _ _ _ => rfl) (?_ : wpv K_X8_isClass d P 8 [some (4, (p0 : Int)), some (0, x1)] [(0, 1), (0, (V p0 13)), (2, 0), (2, x1)] G R V)
  obtain ⟨s4, w⟩ := w
  refine wp_xsub rfl rfl s4 (?_ : wpv K_X8_isClass d P 9 [some (4, (p0 : Int)), some (0, x1)] [(0, ((V p0 13) - 1)), (2, 0), (2, x1)] G R V)
  refine wp_i2l rfl rfl s4 (?_ : wpv K_X8_isClass d P 10 [some (4, (p0 : Int)), some (0, x1)] [(2, ((V p0 13) - 1)), (2, 0), (2, x1)] G R V)
  refine wp_stat (as := [(2, x1), (2, 0), (2, ((V p0 13) - 1))]) (st := []) _ rfl rfl rfl (by omega) rfl rfl (Nat.le_of_ble_eq_true rfl) (cwv_kI w (fun v6 V5 w => ?_))
  show wpv K_X8_isClass d P 13 [some (4, (p0 : Int)), some (0, x1)] [(0, v6)] G R V5
  obtain ⟨s7, w⟩ := w
  exact wp_rB rfl rfl rfl s7 w
theorem t_X8_turn_0 {d : Nat} {P : gP} {p0 : Nat} {x1 : Int} {x2 : Int} {G : List gS} {R V : gV} (l0 : lay8 G R p0) (w : cwv d (fun r V1 => ∃ v2 : Int, r = some (0, v2) ∧ ((i32 v2) ∧ (((v2 = 0) → P (some (0, (-1))) V1) ∧ ((¬ v2 = 0) → ((i32 x2) ∧ ((i32 (V1 p0 4)) → ((i32 ((V1 p0 4) - 1)) ∧ cwv d (fun r V8 => ∃ v9 : Int, r = some (0, v9) ∧ ((i32 v9) ∧ (((v9 = 0) → P (some (0, (-1))) V8) ∧ ((¬ v9 = 0) → ((i32 (8 * x1)) ∧ ((i32 ((8 * x1) + x2)) ∧ ((0 ≤ ((8 * x1) + x2) ∧ ((8 * x1) + x2) < 960) ∧ ((i32 (V8 (p0 + 4) (((8 * x1) + x2)))) → P (some (0, (V8 (p0 + 4) (((8 * x1) + x2))))) V8)))))))) 159 [(2, x2), (2, 0), (2, ((V1 p0 4) - 1))] G R V1))))))) 183 [(4, (p0 : Int)), (0, x1)] G R V) : wpv K_X8_turn d P 0 [some (4, (p0 : Int)), some (0, x1), some (0, x2)] [] G R V := by
  refine wp_ld (i := (.aload_n 0)) (4, (p0 : Int)) rfl rfl (fun _ => rfl) rfl rfl (?_ : wpv K_X8_turn d P 1 [some (4, (p0 : Int)), some (0, x1), some (0, x2)] [(4, (p0 : Int))] G R V)
  refine wp_ld (i := (.iload_n 1)) (0, x1) rfl rfl (fun _ => rfl) rfl rfl (?_ : wpv K_X8_turn d P 2 [some (4, (p0 : Int)), some (0, x1), some (0, x2)] [(0, x1), (4, (p0 : Int))] G R V)
  refine wp_virt (as := [(0, x1)]) (a := p0) (st := []) _ rfl rfl rfl rfl rfl rfl (ly8_o l0) (Nat.le_of_ble_eq_true rfl) (cwv_kI w (fun v2 V1 w => ?_))
  show wpv K_X8_turn d P 5 [some (4, (p0 : Int)), some (0, x1), some (0, x2)] [(0, v2)] G R V1
  obtain ⟨s3, w⟩ := w
  refine wp_if (c := .eq) 38 rfl rfl rfl s3 (fun q => ?_) (fun q => ?_)
  · have q : v2 = 0 := q
    replace w := w.1 q
    show wpv K_X8_turn d P 38 [some (4, (p0 : Int)), some (0, x1), some (0, x2)] [] G R V1
    refine wp_p (i := (.iconst (-1))) rfl rfl (fun _ _ _ => rfl) (?_ : wpv K_X8_turn d P 39 [some (4, (p0 : Int)), some (0, x1), some (0, x2)] [(0, (-1))] G R V1)
    exact wp_rI rfl rfl rfl w
  · have q : ¬ v2 = 0 := q
    replace w := w.2 q
    show wpv K_X8_turn d P 8 [some (4, (p0 : Int)), some (0, x1), some (0, x2)] [] G R V1
    refine wp_ld (i := (.iload_n 2)) (0, x2) rfl rfl (fun _ => rfl) rfl rfl (?_ : wpv K_X8_turn d P 9 [some (4, (p0 : Int)), some (0, x1), some (0, x2)] [(0, x2)] G R V1)
    obtain ⟨s4, w⟩ := w
    refine wp_i2l rfl rfl s4 (?_ : wpv K_X8_turn d P 10 [some (4, (p0 : Int)), some (0, x1), some (0, x2)] [(2, x2)] G R V1)
    refine wp_p (i := (.lconst 0)) rfl rfl (fun _ _ _ => rfl) (?_ : wpv K_X8_turn d P 11 [some (4, (p0 : Int)), some (0, x1), some (0, x2)] [(2, 0), (2, x2)] G R V1)
    refine wp_ld (i := (.aload_n 0)) (4, (p0 : Int)) rfl rfl (fun _ => rfl) rfl rfl (?_ : wpv K_X8_turn d P 12 [some (4, (p0 : Int)), some (0, x1), some (0, x2)] [(4, (p0 : Int)), (2, 0), (2, x2)] G R V1)
    refine wp_rng (fun vr5 => ?_)
    have f6 : i32 (V1 p0 4) := vr_f0 vr5 (ly8_o l0) rfl rfl
    replace w := w f6
    refine wp_getI (k := 4) rfl rfl rfl (ly8_o l0) rfl rfl (?_ : wpv K_X8_turn d P 15 [some (4, (p0 : Int)), some (0, x1), some (0, x2)] [(0, (V1 p0 4)), (2, 0), (2, x2)] G R V1)
    refine wp_p (i := (.iconst 1)) rfl rfl (fun _ _ _ => rfl) (?_ : wpv K_X8_turn d P 16 [some (4, (p0 : Int)), some (0, x1), some (0, x2)] [(0, 1), (0, (V1 p0 4)), (2, 0), (2, x2)] G R V1)
    obtain ⟨s7, w⟩ := w
    refine wp_xsub rfl rfl s7 (?_ : wpv K_X8_turn d P 17 [some (4, (p0 : Int)), some (0, x1), some (0, x2)] [(0, ((V1 p0 4) - 1)), (2, 0), (2, x2)] G R V1)
    refine wp_i2l rfl rfl s7 (?_ : wpv K_X8_turn d P 18 [some (4, (p0 : Int)), some (0, x1), some (0, x2)] [(2, ((V1 p0 4) - 1)), (2, 0), (2, x2)] G R V1)
    refine wp_stat (as := [(2, x2), (2, 0), (2, ((V1 p0 4) - 1))]) (st := []) _ rfl rfl rfl (by omega) rfl rfl (Nat.le_of_ble_eq_true rfl) (cwv_kI w (fun v9 V8 w => ?_))
    show wpv K_X8_turn d P 21 [some (4, (p0 : Int)), some (0, x1), some (0, x2)] [(0, v9)] G R V8
    obtain ⟨s10, w⟩ := w
    refine wp_if (c := .eq) 38 rfl rfl rfl s10 (fun q => ?_) (fun q => ?_)
    · have q : v9 = 0 := q
      replace w := w.1 q
      show wpv K_X8_turn d P 38 [some (4, (p0 : Int)), some (0, x1), some (0, x2)] [] G R V8
      refine wp_p (i := (.iconst (-1))) rfl rfl (fun _ _ _ => rfl) (?_ : wpv K_X8_turn d P 39 [some (4, (p0 : Int)), some (0, x1), some (0, x2)] [(0, (-1))] G R V8)
      exact wp_rI rfl rfl rfl w
    · have q : ¬ v9 = 0 := q
      replace w := w.2 q
      show wpv K_X8_turn d P 24 [some (4, (p0 : Int)), some (0, x1), some (0, x2)] [] G R V8
      refine wp_ld (i := (.aload_n 0)) (4, (p0 : Int)) rfl rfl (fun _ => rfl) rfl rfl (?_ : wpv K_X8_turn d P 25 [some (4, (p0 : Int)), some (0, x1), some (0, x2)] [(4, (p0 : Int))] G R V8)
      refine wp_getA (k := 6) rfl rfl rfl (ly8_o l0) rfl rfl (ly8_6 l0).1 (?_ : wpv K_X8_turn d P 28 [some (4, (p0 : Int)), some (0, x1), some (0, x2)] [(4, ((p0 + 4 : Nat) : Int))] G R V8)
      refine wp_p (i := (.bipush 8)) rfl rfl (fun _ _ _ => rfl) (?_ : wpv K_X8_turn d P 30 [some (4, (p0 : Int)), some (0, x1), some (0, x2)] [(0, 8), (4, ((p0 + 4 : Nat) : Int))] G R V8)
      refine wp_ld (i := (.iload_n 1)) (0, x1) rfl rfl (fun _ => rfl) rfl rfl (?_ : wpv K_X8_turn d P 31 [some (4, (p0 : Int)), some (0, x1), some (0, x2)] [(0, x1), (0, 8), (4, ((p0 + 4 : Nat) : Int))] G R V8)
      obtain ⟨s11, w⟩ := w
      refine wp_xmul rfl rfl s11 (?_ : wpv K_X8_turn d P 32 [some (4, (p0 : Int)), some (0, x1), some (0, x2)] [(0, (8 * x1)), (4, ((p0 + 4 : Nat) : Int))] G R V8)
      refine wp_ld (i := (.iload_n 2)) (0, x2) rfl rfl (fun _ => rfl) rfl rfl (?_ : wpv K_X8_turn d P 33 [some (4, (p0 : Int)), some (0, x1), some (0, x2)] [(0, x2), (0, (8 * x1)), (4, ((p0 + 4 : Nat) : Int))] G R V8)
      obtain ⟨s12, w⟩ := w
      refine wp_xadd rfl rfl s12 (?_ : wpv K_X8_turn d P 34 [some (4, (p0 : Int)), some (0, x1), some (0, x2)] [(0, ((8 * x1) + x2)), (4, ((p0 + 4 : Nat) : Int))] G R V8)
      obtain ⟨s13, w⟩ := w
      refine wp_rng (fun vr14 => ?_)
      have f15 : i32 (V8 (p0 + 4) (((8 * x1) + x2))) := vr_a0 vr14 (ly8_6 l0).2 s13
      replace w := w f15
      refine wp_aI rfl rfl (ly8_6 l0).2 s13 (?_ : wpv K_X8_turn d P 35 [some (4, (p0 : Int)), some (0, x1), some (0, x2)] [(0, (V8 (p0 + 4) (((8 * x1) + x2))))] G R V8)
      refine wp_go 39 rfl rfl rfl (?_ : wpv K_X8_turn d P 39 [some (4, (p0 : Int)), some (0, x1), some (0, x2)] [(0, (V8 (p0 + 4) (((8 * x1) + x2))))] G R V8)
      exact wp_rI rfl rfl rfl w
theorem t_X8_product_0 {d : Nat} {P : gP} {p0 : Nat} {x1 : Int} {x2 : Int} {G : List gS} {R V : gV} (l0 : lay8 G R p0) (w : cwv d (fun r V1 => ∃ v2 : Int, r = some (0, v2) ∧ ((i32 v2) ∧ (((v2 = 0) → P (some (0, (-1))) V1) ∧ ((¬ v2 = 0) → cwv d (fun r V4 => ∃ v5 : Int, r = some (0, v5) ∧ ((i32 v5) ∧ (((v5 = 0) → P (some (0, (-1))) V4) ∧ ((¬ v5 = 0) → ((i32 (120 * x1)) ∧ ((i32 ((120 * x1) + x2)) ∧ ((0 ≤ ((120 * x1) + x2) ∧ ((120 * x1) + x2) < 14400) ∧ ((i32 (V4 (p0 + 5) (((120 * x1) + x2)))) → P (some (0, (V4 (p0 + 5) (((120 * x1) + x2))))) V4)))))))) 183 [(4, (p0 : Int)), (0, x2)] G R V1)))) 183 [(4, (p0 : Int)), (0, x1)] G R V) : wpv K_X8_product d P 0 [some (4, (p0 : Int)), some (0, x1), some (0, x2)] [] G R V := by
  refine wp_ld (i := (.aload_n 0)) (4, (p0 : Int)) rfl rfl (fun _ => rfl) rfl rfl (?_ : wpv K_X8_product d P 1 [some (4, (p0 : Int)), some (0, x1), some (0, x2)] [(4, (p0 : Int))] G R V)
  refine wp_ld (i := (.iload_n 1)) (0, x1) rfl rfl (fun _ => rfl) rfl rfl (?_ : wpv K_X8_product d P 2 [some (4, (p0 : Int)), some (0, x1), some (0, x2)] [(0, x1), (4, (p0 : Int))] G R V)
  refine wp_virt (as := [(0, x1)]) (a := p0) (st := []) _ rfl rfl rfl rfl rfl rfl (ly8_o l0) (Nat.le_of_ble_eq_true rfl) (cwv_kI w (fun v2 V1 w => ?_))
  show wpv K_X8_product d P 5 [some (4, (p0 : Int)), some (0, x1), some (0, x2)] [(0, v2)] G R V1
  obtain ⟨s3, w⟩ := w
  refine wp_if (c := .eq) 30 rfl rfl rfl s3 (fun q => ?_) (fun q => ?_)
  · have q : v2 = 0 := q
    replace w := w.1 q
    show wpv K_X8_product d P 30 [some (4, (p0 : Int)), some (0, x1), some (0, x2)] [] G R V1
    refine wp_p (i := (.iconst (-1))) rfl rfl (fun _ _ _ => rfl) (?_ : wpv K_X8_product d P 31 [some (4, (p0 : Int)), some (0, x1), some (0, x2)] [(0, (-1))] G R V1)
    exact wp_rI rfl rfl rfl w
  · have q : ¬ v2 = 0 := q
    replace w := w.2 q
    show wpv K_X8_product d P 8 [some (4, (p0 : Int)), some (0, x1), some (0, x2)] [] G R V1
    refine wp_ld (i := (.aload_n 0)) (4, (p0 : Int)) rfl rfl (fun _ => rfl) rfl rfl (?_ : wpv K_X8_product d P 9 [some (4, (p0 : Int)), some (0, x1), some (0, x2)] [(4, (p0 : Int))] G R V1)
    refine wp_ld (i := (.iload_n 2)) (0, x2) rfl rfl (fun _ => rfl) rfl rfl (?_ : wpv K_X8_product d P 10 [some (4, (p0 : Int)), some (0, x1), some (0, x2)] [(0, x2), (4, (p0 : Int))] G R V1)
    refine wp_virt (as := [(0, x2)]) (a := p0) (st := []) _ rfl rfl rfl rfl rfl rfl (ly8_o l0) (Nat.le_of_ble_eq_true rfl) (cwv_kI w (fun v5 V4 w => ?_))
    show wpv K_X8_product d P 13 [some (4, (p0 : Int)), some (0, x1), some (0, x2)] [(0, v5)] G R V4
    obtain ⟨s6, w⟩ := w
    refine wp_if (c := .eq) 30 rfl rfl rfl s6 (fun q => ?_) (fun q => ?_)
    · have q : v5 = 0 := q
      replace w := w.1 q
      show wpv K_X8_product d P 30 [some (4, (p0 : Int)), some (0, x1), some (0, x2)] [] G R V4
      refine wp_p (i := (.iconst (-1))) rfl rfl (fun _ _ _ => rfl) (?_ : wpv K_X8_product d P 31 [some (4, (p0 : Int)), some (0, x1), some (0, x2)] [(0, (-1))] G R V4)
      exact wp_rI rfl rfl rfl w
    · have q : ¬ v5 = 0 := q
      replace w := w.2 q
      show wpv K_X8_product d P 16 [some (4, (p0 : Int)), some (0, x1), some (0, x2)] [] G R V4
      refine wp_ld (i := (.aload_n 0)) (4, (p0 : Int)) rfl rfl (fun _ => rfl) rfl rfl (?_ : wpv K_X8_product d P 17 [some (4, (p0 : Int)), some (0, x1), some (0, x2)] [(4, (p0 : Int))] G R V4)
      refine wp_getA (k := 7) rfl rfl rfl (ly8_o l0) rfl rfl (ly8_7 l0).1 (?_ : wpv K_X8_product d P 20 [some (4, (p0 : Int)), some (0, x1), some (0, x2)] [(4, ((p0 + 5 : Nat) : Int))] G R V4)
      refine wp_p (i := (.bipush 120)) rfl rfl (fun _ _ _ => rfl) (?_ : wpv K_X8_product d P 22 [some (4, (p0 : Int)), some (0, x1), some (0, x2)] [(0, 120), (4, ((p0 + 5 : Nat) : Int))] G R V4)
      refine wp_ld (i := (.iload_n 1)) (0, x1) rfl rfl (fun _ => rfl) rfl rfl (?_ : wpv K_X8_product d P 23 [some (4, (p0 : Int)), some (0, x1), some (0, x2)] [(0, x1), (0, 120), (4, ((p0 + 5 : Nat) : Int))] G R V4)
      obtain ⟨s7, w⟩ := w
      refine wp_xmul rfl rfl s7 (?_ : wpv K_X8_product d P 24 [some (4, (p0 : Int)), some (0, x1), some (0, x2)] [(0, (120 * x1)), (4, ((p0 + 5 : Nat) : Int))] G R V4)
      refine wp_ld (i := (.iload_n 2)) (0, x2) rfl rfl (fun _ => rfl) rfl rfl (?_ : wpv K_X8_product d P 25 [some (4, (p0 : Int)), some (0, x1), some (0, x2)] [(0, x2), (0, (120 * x1)), (4, ((p0 + 5 : Nat) : Int))] G R V4)
      obtain ⟨s8, w⟩ := w
      refine wp_xadd rfl rfl s8 (?_ : wpv K_X8_product d P 26 [some (4, (p0 : Int)), some (0, x1), some (0, x2)] [(0, ((120 * x1) + x2)), (4, ((p0 + 5 : Nat) : Int))] G R V4)
      obtain ⟨s9, w⟩ := w
      refine wp_rng (fun vr10 => ?_)
      have f11 : i32 (V4 (p0 + 5) (((120 * x1) + x2))) := vr_a0 vr10 (ly8_7 l0).2 s9
      replace w := w f11
      refine wp_aI rfl rfl (ly8_7 l0).2 s9 (?_ : wpv K_X8_product d P 27 [some (4, (p0 : Int)), some (0, x1), some (0, x2)] [(0, (V4 (p0 + 5) (((120 * x1) + x2))))] G R V4)
      refine wp_go 31 rfl rfl rfl (?_ : wpv K_X8_product d P 31 [some (4, (p0 : Int)), some (0, x1), some (0, x2)] [(0, (V4 (p0 + 5) (((120 * x1) + x2))))] G R V4)
      exact wp_rI rfl rfl rfl w
theorem t_X8_least_0 {d : Nat} {P : gP} {p0 : Nat} {G : List gS} {R V : gV} (l0 : lay8 G R p0) (w : wpv K_X8_least d P 4 [some (4, (p0 : Int)), some (0, (-1)), some (0, 0)] [] G R V) : wpv K_X8_least d P 0 [some (4, (p0 : Int))] [] G R V := by
  refine wp_p (i := (.iconst (-1))) rfl rfl (fun _ _ _ => rfl) (?_ : wpv K_X8_least d P 1 [some (4, (p0 : Int))] [(0, (-1))] G R V)
  refine wp_sto (i := (.istore_n 1)) _ rfl rfl (fun _ => rfl) rfl rfl rfl ?_
  refine wp_wk (L' := [some (4, (p0 : Int)), some (0, (-1))]) (wk_s (wk_s wk_0)) ?_
  show wpv K_X8_least d P 2 [some (4, (p0 : Int)), some (0, (-1))] [] G R V
  refine wp_p (i := (.iconst 0)) rfl rfl (fun _ _ _ => rfl) (?_ : wpv K_X8_least d P 3 [some (4, (p0 : Int)), some (0, (-1))] [(0, 0)] G R V)
  refine wp_sto (i := (.istore_n 2)) _ rfl rfl (fun _ => rfl) rfl rfl rfl ?_
  refine wp_wk (L' := [some (4, (p0 : Int)), some (0, (-1)), some (0, 0)]) (wk_s (wk_s (wk_s wk_0))) ?_
  show wpv K_X8_least d P 4 [some (4, (p0 : Int)), some (0, (-1)), some (0, 0)] [] G R V
  exact wp_wk (wk_s (wk_s (wk_s wk_0))) w

theorem t_X8_least_4 {d : Nat} {P : gP} {p0 : Nat} {x1 : Int} {x2 : Int} {G : List gS} {R V : gV} (l0 : lay8 G R p0) (w : ((i32 (V p0 12)) → ((i32 x2) ∧ (((¬ x2 < (V p0 12)) → P (some (0, x1)) V) ∧ ((x2 < (V p0 12)) → ((i32 x1) ∧ (((¬ x1 = (-1)) → P (some (0, x1)) V) ∧ ((x1 = (-1)) → cwv d (fun r V5 => ∃ v6 : Int, r = some (0, v6) ∧ ((i32 v6) ∧ (((v6 = 0) → ((i32 (x2 + 1)) ∧ wpv K_X8_least d P 4 [some (4, (p0 : Int)), some (0, x1), some (0, (x2 + 1))] [] G R V5)) ∧ ((¬ v6 = 0) → ((i32 (x2 + 1)) ∧ wpv K_X8_least d P 4 [some (4, (p0 : Int)), some (0, x2), some (0, (x2 + 1))] [] G R V5))))) 176 [(4, (p0 : Int)), (0, 300), (0, x2)] G R V)))))))) : wpv K_X8_least d P 4 [some (4, (p0 : Int)), some (0, x1), some (0, x2)] [] G R V := by
  refine wp_ld (i := (.iload_n 2)) (0, x2) rfl rfl (fun _ => rfl) rfl rfl (?_ : wpv K_X8_least d P 5 [some (4, (p0 : Int)), some (0, x1), some (0, x2)] [(0, x2)] G R V)
  refine wp_ld (i := (.aload_n 0)) (4, (p0 : Int)) rfl rfl (fun _ => rfl) rfl rfl (?_ : wpv K_X8_least d P 6 [some (4, (p0 : Int)), some (0, x1), some (0, x2)] [(4, (p0 : Int)), (0, x2)] G R V)
  refine wp_rng (fun vr1 => ?_)
  have f2 : i32 (V p0 12) := vr_f0 vr1 (ly8_o l0) rfl rfl
  replace w := w f2
  refine wp_getI (k := 12) rfl rfl rfl (ly8_o l0) rfl rfl (?_ : wpv K_X8_least d P 9 [some (4, (p0 : Int)), some (0, x1), some (0, x2)] [(0, (V p0 12)), (0, x2)] G R V)
  obtain ⟨s3, w⟩ := w
  refine wp_icmp (c := .ge) 36 rfl rfl rfl s3 f2 (fun q => ?_) (fun q => ?_)
  · have q : ¬ x2 < (V p0 12) := q
    replace w := w.1 q
    show wpv K_X8_least d P 36 [some (4, (p0 : Int)), some (0, x1), some (0, x2)] [] G R V
    refine wp_ld (i := (.iload_n 1)) (0, x1) rfl rfl (fun _ => rfl) rfl rfl (?_ : wpv K_X8_least d P 37 [some (4, (p0 : Int)), some (0, x1), some (0, x2)] [(0, x1)] G R V)
    exact wp_rI rfl rfl rfl w
  · have q : x2 < (V p0 12) := Decidable.not_not.mp q
    replace w := w.2 q
    show wpv K_X8_least d P 12 [some (4, (p0 : Int)), some (0, x1), some (0, x2)] [] G R V
    refine wp_ld (i := (.iload_n 1)) (0, x1) rfl rfl (fun _ => rfl) rfl rfl (?_ : wpv K_X8_least d P 13 [some (4, (p0 : Int)), some (0, x1), some (0, x2)] [(0, x1)] G R V)
    refine wp_p (i := (.iconst (-1))) rfl rfl (fun _ _ _ => rfl) (?_ : wpv K_X8_least d P 14 [some (4, (p0 : Int)), some (0, x1), some (0, x2)] [(0, (-1)), (0, x1)] G R V)
    obtain ⟨s4, w⟩ := w
    refine wp_icmp (c := .ne) 36 rfl rfl rfl s4 ⟨by omega, by omega⟩ (fun q => ?_) (fun q => ?_)
    · have q : ¬ x1 = (-1) := q
      replace w := w.1 q
      show wpv K_X8_least d P 36 [some (4, (p0 : Int)), some (0, x1), some (0, x2)] [] G R V
      refine wp_ld (i := (.iload_n 1)) (0, x1) rfl rfl (fun _ => rfl) rfl rfl (?_ : wpv K_X8_least d P 37 [some (4, (p0 : Int)), some (0, x1), some (0, x2)] [(0, x1)] G R V)
      exact wp_rI rfl rfl rfl w
    · have q : x1 = (-1) := Decidable.not_not.mp q
      replace w := w.2 q
      show wpv K_X8_least d P 17 [some (4, (p0 : Int)), some (0, x1), some (0, x2)] [] G R V
      refine wp_ld (i := (.aload_n 0)) (4, (p0 : Int)) rfl rfl (fun _ => rfl) rfl rfl (?_ : wpv K_X8_least d P 18 [some (4, (p0 : Int)), some (0, x1), some (0, x2)] [(4, (p0 : Int))] G R V)
      refine wp_p (i := (.sipush 300)) rfl rfl (fun _ _ _ => rfl) (?_ : wpv K_X8_least d P 21 [some (4, (p0 : Int)), some (0, x1), some (0, x2)] [(0, 300), (4, (p0 : Int))] G R V)
      refine wp_ld (i := (.iload_n 2)) (0, x2) rfl rfl (fun _ => rfl) rfl rfl (?_ : wpv K_X8_least d P 22 [some (4, (p0 : Int)), some (0, x1), some (0, x2)] [(0, x2), (0, 300), (4, (p0 : Int))] G R V)
      refine wp_virt (as := [(0, 300), (0, x2)]) (a := p0) (st := []) _ rfl rfl rfl rfl rfl rfl (ly8_o l0) (Nat.le_of_ble_eq_true rfl) (cwv_kI w (fun v6 V5 w => ?_))
      show wpv K_X8_least d P 25 [some (4, (p0 : Int)), some (0, x1), some (0, x2)] [(0, v6)] G R V5
      obtain ⟨s7, w⟩ := w
      refine wp_if (c := .eq) 30 rfl rfl rfl s7 (fun q => ?_) (fun q => ?_)
      · have q : v6 = 0 := q
        replace w := w.1 q
        show wpv K_X8_least d P 30 [some (4, (p0 : Int)), some (0, x1), some (0, x2)] [] G R V5
        obtain ⟨s8, w⟩ := w
        refine wp_inc (x := 2) (k := 1) (a := x2) (c := (x2 + 1)) _ rfl rfl rfl rfl s8 (by omega) rfl ?_
        show wpv K_X8_least d P 33 [some (4, (p0 : Int)), some (0, x1), some (0, (x2 + 1))] [] G R V5
        refine wp_go 4 rfl rfl rfl (?_ : wpv K_X8_least d P 4 [some (4, (p0 : Int)), some (0, x1), some (0, (x2 + 1))] [] G R V5)
        exact wp_wk (wk_s (wk_s (wk_s wk_0))) w
      · have q : ¬ v6 = 0 := q
        replace w := w.2 q
        show wpv K_X8_least d P 28 [some (4, (p0 : Int)), some (0, x1), some (0, x2)] [] G R V5
        refine wp_ld (i := (.iload_n 2)) (0, x2) rfl rfl (fun _ => rfl) rfl rfl (?_ : wpv K_X8_least d P 29 [some (4, (p0 : Int)), some (0, x1), some (0, x2)] [(0, x2)] G R V5)
        refine wp_sto (i := (.istore_n 1)) _ rfl rfl (fun _ => rfl) rfl rfl rfl ?_
        refine wp_wk (L' := [some (4, (p0 : Int)), some (0, x2), some (0, x2)]) (wk_s (wk_s (wk_s wk_0))) ?_
        show wpv K_X8_least d P 30 [some (4, (p0 : Int)), some (0, x2), some (0, x2)] [] G R V5
        obtain ⟨s9, w⟩ := w
        refine wp_inc (x := 2) (k := 1) (a := x2) (c := (x2 + 1)) _ rfl rfl rfl rfl s9 (by omega) rfl ?_
        show wpv K_X8_least d P 33 [some (4, (p0 : Int)), some (0, x2), some (0, (x2 + 1))] [] G R V5
        refine wp_go 4 rfl rfl rfl (?_ : wpv K_X8_least d P 4 [some (4, (p0 : Int)), some (0, x2), some (0, (x2 + 1))] [] G R V5)
        exact wp_wk (wk_s (wk_s (wk_s wk_0))) w
theorem t_X8_clears_0 {d : Nat} {P : gP} {p0 : Nat} {G : List gS} {R V : gV} (l0 : lay8 G R p0) (w : wpv K_X8_clears d P 2 [some (4, (p0 : Int)), some (0, 0)] [] G R V) : wpv K_X8_clears d P 0 [some (4, (p0 : Int))] [] G R V := by
  refine wp_p (i := (.iconst 0)) rfl rfl (fun _ _ _ => rfl) (?_ : wpv K_X8_clears d P 1 [some (4, (p0 : Int))] [(0, 0)] G R V)
  refine wp_sto (i := (.istore_n 1)) _ rfl rfl (fun _ => rfl) rfl rfl rfl ?_
  refine wp_wk (L' := [some (4, (p0 : Int)), some (0, 0)]) (wk_s (wk_s wk_0)) ?_
  show wpv K_X8_clears d P 2 [some (4, (p0 : Int)), some (0, 0)] [] G R V
  exact wp_wk (wk_s (wk_s wk_0)) w

theorem t_X8_clears_2 {d : Nat} {P : gP} {p0 : Nat} {x1 : Int} {G : List gS} {R V : gV} (l0 : lay8 G R p0) (w : ((i32 (V p0 5)) → ((i32 x1) ∧ (((¬ x1 < (V p0 5)) → P none V) ∧ ((x1 < (V p0 5)) → ((i32 (36000 + x1)) ∧ ((0 ≤ (36000 + x1) ∧ (36000 + x1) < 36120) ∧ ((i32 (x1 + 1)) ∧ wpv K_X8_clears d P 2 [some (4, (p0 : Int)), some (0, (x1 + 1))] [] G R (wr V (p0 + 9) ((36000 + x1)) 0))))))))) : wpv K_X8_clears d P 2 [some (4, (p0 : Int)), some (0, x1)] [] G R V := by
  refine wp_ld (i := (.iload_n 1)) (0, x1) rfl rfl (fun _ => rfl) rfl rfl (?_ : wpv K_X8_clears d P 3 [some (4, (p0 : Int)), some (0, x1)] [(0, x1)] G R V)
  refine wp_ld (i := (.aload_n 0)) (4, (p0 : Int)) rfl rfl (fun _ => rfl) rfl rfl (?_ : wpv K_X8_clears d P 4 [some (4, (p0 : Int)), some (0, x1)] [(4, (p0 : Int)), (0, x1)] G R V)
  refine wp_rng (fun vr1 => ?_)
  have f2 : i32 (V p0 5) := vr_f0 vr1 (ly8_o l0) rfl rfl
  replace w := w f2
  refine wp_getI (k := 5) rfl rfl rfl (ly8_o l0) rfl rfl (?_ : wpv K_X8_clears d P 7 [some (4, (p0 : Int)), some (0, x1)] [(0, (V p0 5)), (0, x1)] G R V)
  obtain ⟨s3, w⟩ := w
  refine wp_icmp (c := .ge) 26 rfl rfl rfl s3 f2 (fun q => ?_) (fun q => ?_)
  · have q : ¬ x1 < (V p0 5) := q
    replace w := w.1 q
    show wpv K_X8_clears d P 26 [some (4, (p0 : Int)), some (0, x1)] [] G R V
    exact wp_r0 rfl rfl rfl w
  · have q : x1 < (V p0 5) := Decidable.not_not.mp q
    replace w := w.2 q
    show wpv K_X8_clears d P 10 [some (4, (p0 : Int)), some (0, x1)] [] G R V
    refine wp_ld (i := (.aload_n 0)) (4, (p0 : Int)) rfl rfl (fun _ => rfl) rfl rfl (?_ : wpv K_X8_clears d P 11 [some (4, (p0 : Int)), some (0, x1)] [(4, (p0 : Int))] G R V)
    refine wp_getA (k := 14) rfl rfl rfl (ly8_o l0) rfl rfl (ly8_14 l0).1 (?_ : wpv K_X8_clears d P 14 [some (4, (p0 : Int)), some (0, x1)] [(4, ((p0 + 9 : Nat) : Int))] G R V)
    refine wp_p (i := (.ldc 133)) rfl rfl (fun _ _ _ => rfl) (?_ : wpv K_X8_clears d P 16 [some (4, (p0 : Int)), some (0, x1)] [(0, 36000), (4, ((p0 + 9 : Nat) : Int))] G R V)
    refine wp_ld (i := (.iload_n 1)) (0, x1) rfl rfl (fun _ => rfl) rfl rfl (?_ : wpv K_X8_clears d P 17 [some (4, (p0 : Int)), some (0, x1)] [(0, x1), (0, 36000), (4, ((p0 + 9 : Nat) : Int))] G R V)
    obtain ⟨s4, w⟩ := w
    refine wp_xadd rfl rfl s4 (?_ : wpv K_X8_clears d P 18 [some (4, (p0 : Int)), some (0, x1)] [(0, (36000 + x1)), (4, ((p0 + 9 : Nat) : Int))] G R V)
    refine wp_p (i := (.iconst 0)) rfl rfl (fun _ _ _ => rfl) (?_ : wpv K_X8_clears d P 19 [some (4, (p0 : Int)), some (0, x1)] [(0, 0), (0, (36000 + x1)), (4, ((p0 + 9 : Nat) : Int))] G R V)
    obtain ⟨s5, w⟩ := w
    refine wp_sB rfl rfl (ly8_14 l0).2 s5 (by omega) (?_ : wpv K_X8_clears d P 20 [some (4, (p0 : Int)), some (0, x1)] [] G R (wr V (p0 + 9) ((36000 + x1)) 0))
    obtain ⟨s6, w⟩ := w
    refine wp_inc (x := 1) (k := 1) (a := x1) (c := (x1 + 1)) _ rfl rfl rfl rfl s6 (by omega) rfl ?_
    show wpv K_X8_clears d P 23 [some (4, (p0 : Int)), some (0, (x1 + 1))] [] G R (wr V (p0 + 9) ((36000 + x1)) 0)
    refine wp_go 2 rfl rfl rfl (?_ : wpv K_X8_clears d P 2 [some (4, (p0 : Int)), some (0, (x1 + 1))] [] G R (wr V (p0 + 9) ((36000 + x1)) 0))
    exact wp_wk (wk_s (wk_s wk_0)) w
theorem t_X8_madeBy_0 {d : Nat} {P : gP} {p0 : Nat} {x1 : Int} {G : List gS} {R V : gV} (l0 : lay8 G R p0) (w : cwv d (fun r V1 => r = none ∧ ((i32 (36000 + x1)) ∧ ((0 ≤ (36000 + x1) ∧ (36000 + x1) < 36120) ∧ cwv d (fun r V4 => ∃ v5 : Int, r = some (0, v5) ∧ P (some (0, v5)) V4) 188 [(4, (p0 : Int))] G R (wr V1 (p0 + 9) ((36000 + x1)) 1)))) 189 [(4, (p0 : Int))] G R V) : wpv K_X8_madeBy d P 0 [some (4, (p0 : Int)), some (0, x1)] [] G R V := by
  refine wp_ld (i := (.aload_n 0)) (4, (p0 : Int)) rfl rfl (fun _ => rfl) rfl rfl (?_ : wpv K_X8_madeBy d P 1 [some (4, (p0 : Int)), some (0, x1)] [(4, (p0 : Int))] G R V)
  refine wp_virt (as := []) (a := p0) (st := []) _ rfl rfl rfl rfl rfl rfl (ly8_o l0) (Nat.le_of_ble_eq_true rfl) (cwv_k0 w (fun V1 w => ?_))
  show wpv K_X8_madeBy d P 4 [some (4, (p0 : Int)), some (0, x1)] [] G R V1
  refine wp_ld (i := (.aload_n 0)) (4, (p0 : Int)) rfl rfl (fun _ => rfl) rfl rfl (?_ : wpv K_X8_madeBy d P 5 [some (4, (p0 : Int)), some (0, x1)] [(4, (p0 : Int))] G R V1)
  refine wp_getA (k := 14) rfl rfl rfl (ly8_o l0) rfl rfl (ly8_14 l0).1 (?_ : wpv K_X8_madeBy d P 8 [some (4, (p0 : Int)), some (0, x1)] [(4, ((p0 + 9 : Nat) : Int))] G R V1)
  refine wp_p (i := (.ldc 133)) rfl rfl (fun _ _ _ => rfl) (?_ : wpv K_X8_madeBy d P 10 [some (4, (p0 : Int)), some (0, x1)] [(0, 36000), (4, ((p0 + 9 : Nat) : Int))] G R V1)
  refine wp_ld (i := (.iload_n 1)) (0, x1) rfl rfl (fun _ => rfl) rfl rfl (?_ : wpv K_X8_madeBy d P 11 [some (4, (p0 : Int)), some (0, x1)] [(0, x1), (0, 36000), (4, ((p0 + 9 : Nat) : Int))] G R V1)
  obtain ⟨s2, w⟩ := w
  refine wp_xadd rfl rfl s2 (?_ : wpv K_X8_madeBy d P 12 [some (4, (p0 : Int)), some (0, x1)] [(0, (36000 + x1)), (4, ((p0 + 9 : Nat) : Int))] G R V1)
  refine wp_p (i := (.iconst 1)) rfl rfl (fun _ _ _ => rfl) (?_ : wpv K_X8_madeBy d P 13 [some (4, (p0 : Int)), some (0, x1)] [(0, 1), (0, (36000 + x1)), (4, ((p0 + 9 : Nat) : Int))] G R V1)
  obtain ⟨s3, w⟩ := w
  refine wp_sB rfl rfl (ly8_14 l0).2 s3 (by omega) (?_ : wpv K_X8_madeBy d P 14 [some (4, (p0 : Int)), some (0, x1)] [] G R (wr V1 (p0 + 9) ((36000 + x1)) 1))
  refine wp_ld (i := (.aload_n 0)) (4, (p0 : Int)) rfl rfl (fun _ => rfl) rfl rfl (?_ : wpv K_X8_madeBy d P 15 [some (4, (p0 : Int)), some (0, x1)] [(4, (p0 : Int))] G R (wr V1 (p0 + 9) ((36000 + x1)) 1))
  refine wp_virt (as := []) (a := p0) (st := []) _ rfl rfl rfl rfl rfl rfl (ly8_o l0) (Nat.le_of_ble_eq_true rfl) (cwv_kI w (fun v5 V4 w => ?_))
  show wpv K_X8_madeBy d P 18 [some (4, (p0 : Int)), some (0, x1)] [(0, v5)] G R V4
  exact wp_rI rfl rfl rfl w
theorem t_X8_ofTurn_0 {d : Nat} {P : gP} {p0 : Nat} {x1 : Int} {x2 : Int} {G : List gS} {R V : gV} (l0 : lay8 G R p0) (w : cwv d (fun r V1 => ∃ v2 : Int, r = some (0, v2) ∧ ((i32 v2) ∧ (((¬ v2 = 0) → ((i32 x2) ∧ (((x2 < 0 ∨ 3 < x2) → P (some (0, (-1))) V1) ∧ ((x2 = 0) → ((0 ≤ x1 ∧ x1 < 120) ∧ ((i32 (V1 (p0 + 6) x1)) → P (some (0, (V1 (p0 + 6) x1))) V1))) ∧ ((x2 = 1) → cwv d (fun r V8 => ∃ v9 : Int, r = some (0, v9) ∧ ((0 ≤ v9 ∧ v9 < 301) ∧ ((i32 (V8 (p0 + 10) v9)) → P (some (0, (V8 (p0 + 10) v9))) V8))) 190 [(4, (p0 : Int)), (0, x1)] G R V1) ∧ ((x2 = 2) → cwv d (fun r V13 => ∃ v14 : Int, r = some (0, v14) ∧ P (some (0, v14)) V13) 190 [(4, (p0 : Int)), (0, x1)] G R V1) ∧ ((x2 = 3) → cwv d (fun r V15 => r = none ∧ wpv K_X8_ofTurn d P 70 [some (4, (p0 : Int)), some (0, x1), none, some (0, 0)] [] G R V15) 189 [(4, (p0 : Int))] G R V1)))) ∧ ((v2 = 0) → P (some (0, (-1))) V1)))) 183 [(4, (p0 : Int)), (0, x1)] G R V) : wpv K_X8_ofTurn d P 0 [some (4, (p0 : Int)), some (0, x1), some (0, x2)] [] G R V := by
  refine wp_ld (i := (.aload_n 0)) (4, (p0 : Int)) rfl rfl (fun _ => rfl) rfl rfl (?_ : wpv K_X8_ofTurn d P 1 [some (4, (p0 : Int)), some (0, x1), some (0, x2)] [(4, (p0 : Int))] G R V)
  refine wp_ld (i := (.iload_n 1)) (0, x1) rfl rfl (fun _ => rfl) rfl rfl (?_ : wpv K_X8_ofTurn d P 2 [some (4, (p0 : Int)), some (0, x1), some (0, x2)] [(0, x1), (4, (p0 : Int))] G R V)
  refine wp_virt (as := [(0, x1)]) (a := p0) (st := []) _ rfl rfl rfl rfl rfl rfl (ly8_o l0) (Nat.le_of_ble_eq_true rfl) (cwv_kI w (fun v2 V1 w => ?_))
  show wpv K_X8_ofTurn d P 5 [some (4, (p0 : Int)), some (0, x1), some (0, x2)] [(0, v2)] G R V1
  obtain ⟨s3, w⟩ := w
  refine wp_if (c := .ne) 10 rfl rfl rfl s3 (fun q => ?_) (fun q => ?_)
  · have q : ¬ v2 = 0 := q
    replace w := w.1 q
    show wpv K_X8_ofTurn d P 10 [some (4, (p0 : Int)), some (0, x1), some (0, x2)] [] G R V1
    refine wp_ld (i := (.iload_n 2)) (0, x2) rfl rfl (fun _ => rfl) rfl rfl (?_ : wpv K_X8_ofTurn d P 11 [some (4, (p0 : Int)), some (0, x1), some (0, x2)] [(0, x2)] G R V1)
    obtain ⟨s4, w⟩ := w
    by_cases qd : x2 < 0 ∨ 3 < x2
    · replace w := w.1 qd
      refine wp_tsd 124 rfl rfl s4 qd rfl (?_ : wpv K_X8_ofTurn d P 124 [some (4, (p0 : Int)), some (0, x1), some (0, x2)] [] G R V1)
      refine wp_p (i := (.iconst (-1))) rfl rfl (fun _ _ _ => rfl) (?_ : wpv K_X8_ofTurn d P 125 [some (4, (p0 : Int)), some (0, x1), some (0, x2)] [(0, (-1))] G R V1)
      exact wp_rI rfl rfl rfl w
    replace w := w.2
    by_cases q0 : x2 = 0
    · replace w := w.1 q0
      refine wp_tsw 0 40 rfl rfl s4 (by omega) (by omega) rfl rfl (?_ : wpv K_X8_ofTurn d P 40 [some (4, (p0 : Int)), some (0, x1), some (0, x2)] [] G R V1)
      refine wp_ld (i := (.aload_n 0)) (4, (p0 : Int)) rfl rfl (fun _ => rfl) rfl rfl (?_ : wpv K_X8_ofTurn d P 41 [some (4, (p0 : Int)), some (0, x1), some (0, x2)] [(4, (p0 : Int))] G R V1)
      refine wp_getA (k := 8) rfl rfl rfl (ly8_o l0) rfl rfl (ly8_8 l0).1 (?_ : wpv K_X8_ofTurn d P 44 [some (4, (p0 : Int)), some (0, x1), some (0, x2)] [(4, ((p0 + 6 : Nat) : Int))] G R V1)
      refine wp_ld (i := (.iload_n 1)) (0, x1) rfl rfl (fun _ => rfl) rfl rfl (?_ : wpv K_X8_ofTurn d P 45 [some (4, (p0 : Int)), some (0, x1), some (0, x2)] [(0, x1), (4, ((p0 + 6 : Nat) : Int))] G R V1)
      obtain ⟨s5, w⟩ := w
      refine wp_rng (fun vr6 => ?_)
      have f7 : i32 (V1 (p0 + 6) x1) := vr_a0 vr6 (ly8_8 l0).2 s5
      replace w := w f7
      refine wp_aI rfl rfl (ly8_8 l0).2 s5 (?_ : wpv K_X8_ofTurn d P 46 [some (4, (p0 : Int)), some (0, x1), some (0, x2)] [(0, (V1 (p0 + 6) x1))] G R V1)
      exact wp_rI rfl rfl rfl w
    replace w := w.2
    by_cases q1 : x2 = 1
    · replace w := w.1 q1
      refine wp_tsw 1 47 rfl rfl s4 (by omega) (by omega) rfl rfl (?_ : wpv K_X8_ofTurn d P 47 [some (4, (p0 : Int)), some (0, x1), some (0, x2)] [] G R V1)
      refine wp_ld (i := (.aload_n 0)) (4, (p0 : Int)) rfl rfl (fun _ => rfl) rfl rfl (?_ : wpv K_X8_ofTurn d P 48 [some (4, (p0 : Int)), some (0, x1), some (0, x2)] [(4, (p0 : Int))] G R V1)
      refine wp_getA (k := 15) rfl rfl rfl (ly8_o l0) rfl rfl (ly8_15 l0).1 (?_ : wpv K_X8_ofTurn d P 51 [some (4, (p0 : Int)), some (0, x1), some (0, x2)] [(4, ((p0 + 10 : Nat) : Int))] G R V1)
      refine wp_ld (i := (.aload_n 0)) (4, (p0 : Int)) rfl rfl (fun _ => rfl) rfl rfl (?_ : wpv K_X8_ofTurn d P 52 [some (4, (p0 : Int)), some (0, x1), some (0, x2)] [(4, (p0 : Int)), (4, ((p0 + 10 : Nat) : Int))] G R V1)
      refine wp_ld (i := (.iload_n 1)) (0, x1) rfl rfl (fun _ => rfl) rfl rfl (?_ : wpv K_X8_ofTurn d P 53 [some (4, (p0 : Int)), some (0, x1), some (0, x2)] [(0, x1), (4, (p0 : Int)), (4, ((p0 + 10 : Nat) : Int))] G R V1)
      refine wp_virt (as := [(0, x1)]) (a := p0) (st := [(4, ((p0 + 10 : Nat) : Int))]) _ rfl rfl rfl rfl rfl rfl (ly8_o l0) (Nat.le_of_ble_eq_true rfl) (cwv_kI w (fun v9 V8 w => ?_))
      show wpv K_X8_ofTurn d P 56 [some (4, (p0 : Int)), some (0, x1), some (0, x2)] [(0, v9), (4, ((p0 + 10 : Nat) : Int))] G R V8
      obtain ⟨s10, w⟩ := w
      refine wp_rng (fun vr11 => ?_)
      have f12 : i32 (V8 (p0 + 10) v9) := vr_a0 vr11 (ly8_15 l0).2 s10
      replace w := w f12
      refine wp_aI rfl rfl (ly8_15 l0).2 s10 (?_ : wpv K_X8_ofTurn d P 57 [some (4, (p0 : Int)), some (0, x1), some (0, x2)] [(0, (V8 (p0 + 10) v9))] G R V8)
      exact wp_rI rfl rfl rfl w
    replace w := w.2
    by_cases q2 : x2 = 2
    · replace w := w.1 q2
      refine wp_tsw 2 58 rfl rfl s4 (by omega) (by omega) rfl rfl (?_ : wpv K_X8_ofTurn d P 58 [some (4, (p0 : Int)), some (0, x1), some (0, x2)] [] G R V1)
      refine wp_ld (i := (.aload_n 0)) (4, (p0 : Int)) rfl rfl (fun _ => rfl) rfl rfl (?_ : wpv K_X8_ofTurn d P 59 [some (4, (p0 : Int)), some (0, x1), some (0, x2)] [(4, (p0 : Int))] G R V1)
      refine wp_ld (i := (.iload_n 1)) (0, x1) rfl rfl (fun _ => rfl) rfl rfl (?_ : wpv K_X8_ofTurn d P 60 [some (4, (p0 : Int)), some (0, x1), some (0, x2)] [(0, x1), (4, (p0 : Int))] G R V1)
      refine wp_virt (as := [(0, x1)]) (a := p0) (st := []) _ rfl rfl rfl rfl rfl rfl (ly8_o l0) (Nat.le_of_ble_eq_true rfl) (cwv_kI w (fun v14 V13 w => ?_))
      show wpv K_X8_ofTurn d P 63 [some (4, (p0 : Int)), some (0, x1), some (0, x2)] [(0, v14)] G R V13
      exact wp_rI rfl rfl rfl w
    replace w := w.2
    have q3 : x2 = 3 := by omega
    replace w := w q3
    refine wp_tsw 3 64 rfl rfl s4 (by omega) (by omega) rfl rfl (?_ : wpv K_X8_ofTurn d P 64 [some (4, (p0 : Int)), some (0, x1), some (0, x2)] [] G R V1)
    refine wp_ld (i := (.aload_n 0)) (4, (p0 : Int)) rfl rfl (fun _ => rfl) rfl rfl (?_ : wpv K_X8_ofTurn d P 65 [some (4, (p0 : Int)), some (0, x1), some (0, x2)] [(4, (p0 : Int))] G R V1)
    refine wp_virt (as := []) (a := p0) (st := []) _ rfl rfl rfl rfl rfl rfl (ly8_o l0) (Nat.le_of_ble_eq_true rfl) (cwv_k0 w (fun V15 w => ?_))
    show wpv K_X8_ofTurn d P 68 [some (4, (p0 : Int)), some (0, x1), some (0, x2)] [] G R V15
    refine wp_p (i := (.iconst 0)) rfl rfl (fun _ _ _ => rfl) (?_ : wpv K_X8_ofTurn d P 69 [some (4, (p0 : Int)), some (0, x1), some (0, x2)] [(0, 0)] G R V15)
    refine wp_sto (i := (.istore_n 3)) _ rfl rfl (fun _ => rfl) rfl rfl rfl ?_
    refine wp_wk (L' := [some (4, (p0 : Int)), some (0, x1), some (0, x2), some (0, 0)]) (wk_s (wk_s (wk_s (wk_s wk_0)))) ?_
    show wpv K_X8_ofTurn d P 70 [some (4, (p0 : Int)), some (0, x1), some (0, x2), some (0, 0)] [] G R V15
    exact wp_wk (wk_s (wk_s (wk_n (wk_s wk_0)))) w
  · have q : v2 = 0 := Decidable.not_not.mp q
    replace w := w.2 q
    show wpv K_X8_ofTurn d P 8 [some (4, (p0 : Int)), some (0, x1), some (0, x2)] [] G R V1
    refine wp_p (i := (.iconst (-1))) rfl rfl (fun _ _ _ => rfl) (?_ : wpv K_X8_ofTurn d P 9 [some (4, (p0 : Int)), some (0, x1), some (0, x2)] [(0, (-1))] G R V1)
    exact wp_rI rfl rfl rfl w

theorem t_X8_ofTurn_70 {d : Nat} {P : gP} {p0 : Nat} {x1 : Int} {x3 : Int} {G : List gS} {R V : gV} (l0 : lay8 G R p0) (w : ((i32 (V p0 5)) → ((i32 x3) ∧ (((¬ x3 < (V p0 5)) → cwv d (fun r V4 => ∃ v5 : Int, r = some (0, v5) ∧ P (some (0, v5)) V4) 192 [(4, (p0 : Int))] G R V) ∧ ((x3 < (V p0 5)) → ((0 ≤ x3 ∧ x3 < 120) ∧ ((i32 (V (p0 + 6) x3)) → ((i32 (120 * (V (p0 + 6) x3))) ∧ ((i32 ((120 * (V (p0 + 6) x3)) + x1)) ∧ ((0 ≤ ((120 * (V (p0 + 6) x3)) + x1) ∧ ((120 * (V (p0 + 6) x3)) + x1) < 14400) ∧ ((i32 (V (p0 + 5) (((120 * (V (p0 + 6) x3)) + x1)))) → ((i32 (120 * (V (p0 + 5) (((120 * (V (p0 + 6) x3)) + x1))))) ∧ ((i32 ((120 * (V (p0 + 5) (((120 * (V (p0 + 6) x3)) + x1)))) + x3)) ∧ ((0 ≤ ((120 * (V (p0 + 5) (((120 * (V (p0 + 6) x3)) + x1)))) + x3) ∧ ((120 * (V (p0 + 5) (((120 * (V (p0 + 6) x3)) + x1)))) + x3) < 14400) ∧ ((i32 (V (p0 + 5) (((120 * (V (p0 + 5) (((120 * (V (p0 + 6) x3)) + x1)))) + x3)))) → ((i32 (36000 + (V (p0 + 5) (((120 * (V (p0 + 5) (((120 * (V (p0 + 6) x3)) + x1)))) + x3))))) ∧ ((0 ≤ (36000 + (V (p0 + 5) (((120 * (V (p0 + 5) (((120 * (V (p0 + 6) x3)) + x1)))) + x3)))) ∧ (36000 + (V (p0 + 5) (((120 * (V (p0 + 5) (((120 * (V (p0 + 6) x3)) + x1)))) + x3)))) < 36120) ∧ ((i32 (x3 + 1)) ∧ wpv K_X8_ofTurn d P 70 [some (4, (p0 : Int)), some (0, x1), none, some (0, (x3 + 1))] [] G R (wr V (p0 + 9) ((36000 + (V (p0 + 5) (((120 * (V (p0 + 5) (((120 * (V (p0 + 6) x3)) + x1)))) + x3))))) 1))))))))))))))))))) : wpv K_X8_ofTurn d P 70 [some (4, (p0 : Int)), some (0, x1), none, some (0, x3)] [] G R V := by
  refine wp_ld (i := (.iload_n 3)) (0, x3) rfl rfl (fun _ => rfl) rfl rfl (?_ : wpv K_X8_ofTurn d P 71 [some (4, (p0 : Int)), some (0, x1), none, some (0, x3)] [(0, x3)] G R V)
  refine wp_ld (i := (.aload_n 0)) (4, (p0 : Int)) rfl rfl (fun _ => rfl) rfl rfl (?_ : wpv K_X8_ofTurn d P 72 [some (4, (p0 : Int)), some (0, x1), none, some (0, x3)] [(4, (p0 : Int)), (0, x3)] G R V)
  refine wp_rng (fun vr1 => ?_)
  have f2 : i32 (V p0 5) := vr_f0 vr1 (ly8_o l0) rfl rfl
  replace w := w f2
  refine wp_getI (k := 5) rfl rfl rfl (ly8_o l0) rfl rfl (?_ : wpv K_X8_ofTurn d P 75 [some (4, (p0 : Int)), some (0, x1), none, some (0, x3)] [(0, (V p0 5)), (0, x3)] G R V)
  obtain ⟨s3, w⟩ := w
  refine wp_icmp (c := .ge) 119 rfl rfl rfl s3 f2 (fun q => ?_) (fun q => ?_)
  · have q : ¬ x3 < (V p0 5) := q
    replace w := w.1 q
    show wpv K_X8_ofTurn d P 119 [some (4, (p0 : Int)), some (0, x1), none, some (0, x3)] [] G R V
    refine wp_ld (i := (.aload_n 0)) (4, (p0 : Int)) rfl rfl (fun _ => rfl) rfl rfl (?_ : wpv K_X8_ofTurn d P 120 [some (4, (p0 : Int)), some (0, x1), none, some (0, x3)] [(4, (p0 : Int))] G R V)
    refine wp_virt (as := []) (a := p0) (st := []) _ rfl rfl rfl rfl rfl rfl (ly8_o l0) (Nat.le_of_ble_eq_true rfl) (cwv_kI w (fun v5 V4 w => ?_))
    show wpv K_X8_ofTurn d P 123 [some (4, (p0 : Int)), some (0, x1), none, some (0, x3)] [(0, v5)] G R V4
    exact wp_rI rfl rfl rfl w
  · have q : x3 < (V p0 5) := Decidable.not_not.mp q
    replace w := w.2 q
    show wpv K_X8_ofTurn d P 78 [some (4, (p0 : Int)), some (0, x1), none, some (0, x3)] [] G R V
    refine wp_ld (i := (.aload_n 0)) (4, (p0 : Int)) rfl rfl (fun _ => rfl) rfl rfl (?_ : wpv K_X8_ofTurn d P 79 [some (4, (p0 : Int)), some (0, x1), none, some (0, x3)] [(4, (p0 : Int))] G R V)
    refine wp_getA (k := 14) rfl rfl rfl (ly8_o l0) rfl rfl (ly8_14 l0).1 (?_ : wpv K_X8_ofTurn d P 82 [some (4, (p0 : Int)), some (0, x1), none, some (0, x3)] [(4, ((p0 + 9 : Nat) : Int))] G R V)
    refine wp_p (i := (.ldc 133)) rfl rfl (fun _ _ _ => rfl) (?_ : wpv K_X8_ofTurn d P 84 [some (4, (p0 : Int)), some (0, x1), none, some (0, x3)] [(0, 36000), (4, ((p0 + 9 : Nat) : Int))] G R V)
    refine wp_ld (i := (.aload_n 0)) (4, (p0 : Int)) rfl rfl (fun _ => rfl) rfl rfl (?_ : wpv K_X8_ofTurn d P 85 [some (4, (p0 : Int)), some (0, x1), none, some (0, x3)] [(4, (p0 : Int)), (0, 36000), (4, ((p0 + 9 : Nat) : Int))] G R V)
    refine wp_getA (k := 7) rfl rfl rfl (ly8_o l0) rfl rfl (ly8_7 l0).1 (?_ : wpv K_X8_ofTurn d P 88 [some (4, (p0 : Int)), some (0, x1), none, some (0, x3)] [(4, ((p0 + 5 : Nat) : Int)), (0, 36000), (4, ((p0 + 9 : Nat) : Int))] G R V)
    refine wp_p (i := (.bipush 120)) rfl rfl (fun _ _ _ => rfl) (?_ : wpv K_X8_ofTurn d P 90 [some (4, (p0 : Int)), some (0, x1), none, some (0, x3)] [(0, 120), (4, ((p0 + 5 : Nat) : Int)), (0, 36000), (4, ((p0 + 9 : Nat) : Int))] G R V)
    refine wp_ld (i := (.aload_n 0)) (4, (p0 : Int)) rfl rfl (fun _ => rfl) rfl rfl (?_ : wpv K_X8_ofTurn d P 91 [some (4, (p0 : Int)), some (0, x1), none, some (0, x3)] [(4, (p0 : Int)), (0, 120), (4, ((p0 + 5 : Nat) : Int)), (0, 36000), (4, ((p0 + 9 : Nat) : Int))] G R V)
    refine wp_getA (k := 7) rfl rfl rfl (ly8_o l0) rfl rfl (ly8_7 l0).1 (?_ : wpv K_X8_ofTurn d P 94 [some (4, (p0 : Int)), some (0, x1), none, some (0, x3)] [(4, ((p0 + 5 : Nat) : Int)), (0, 120), (4, ((p0 + 5 : Nat) : Int)), (0, 36000), (4, ((p0 + 9 : Nat) : Int))] G R V)
    refine wp_p (i := (.bipush 120)) rfl rfl (fun _ _ _ => rfl) (?_ : wpv K_X8_ofTurn d P 96 [some (4, (p0 : Int)), some (0, x1), none, some (0, x3)] [(0, 120), (4, ((p0 + 5 : Nat) : Int)), (0, 120), (4, ((p0 + 5 : Nat) : Int)), (0, 36000), (4, ((p0 + 9 : Nat) : Int))] G R V)
    refine wp_ld (i := (.aload_n 0)) (4, (p0 : Int)) rfl rfl (fun _ => rfl) rfl rfl (?_ : wpv K_X8_ofTurn d P 97 [some (4, (p0 : Int)), some (0, x1), none, some (0, x3)] [(4, (p0 : Int)), (0, 120), (4, ((p0 + 5 : Nat) : Int)), (0, 120), (4, ((p0 + 5 : Nat) : Int)), (0, 36000), (4, ((p0 + 9 : Nat) : Int))] G R V)
    refine wp_getA (k := 8) rfl rfl rfl (ly8_o l0) rfl rfl (ly8_8 l0).1 (?_ : wpv K_X8_ofTurn d P 100 [some (4, (p0 : Int)), some (0, x1), none, some (0, x3)] [(4, ((p0 + 6 : Nat) : Int)), (0, 120), (4, ((p0 + 5 : Nat) : Int)), (0, 120), (4, ((p0 + 5 : Nat) : Int)), (0, 36000), (4, ((p0 + 9 : Nat) : Int))] G R V)
    refine wp_ld (i := (.iload_n 3)) (0, x3) rfl rfl (fun _ => rfl) rfl rfl (?_ : wpv K_X8_ofTurn d P 101 [some (4, (p0 : Int)), some (0, x1), none, some (0, x3)] [(0, x3), (4, ((p0 + 6 : Nat) : Int)), (0, 120), (4, ((p0 + 5 : Nat) : Int)), (0, 120), (4, ((p0 + 5 : Nat) : Int)), (0, 36000), (4, ((p0 + 9 : Nat) : Int))] G R V)
    obtain ⟨s6, w⟩ := w
    have f7 : i32 (V (p0 + 6) x3) := vr_a0 vr1 (ly8_8 l0).2 s6
    replace w := w f7
    refine wp_aI rfl rfl (ly8_8 l0).2 s6 (?_ : wpv K_X8_ofTurn d P 102 [some (4, (p0 : Int)), some (0, x1), none, some (0, x3)] [(0, (V (p0 + 6) x3)), (0, 120), (4, ((p0 + 5 : Nat) : Int)), (0, 120), (4, ((p0 + 5 : Nat) : Int)), (0, 36000), (4, ((p0 + 9 : Nat) : Int))] G R V)
    obtain ⟨s8, w⟩ := w
    refine wp_xmul rfl rfl s8 (?_ : wpv K_X8_ofTurn d P 103 [some (4, (p0 : Int)), some (0, x1), none, some (0, x3)] [(0, (120 * (V (p0 + 6) x3))), (4, ((p0 + 5 : Nat) : Int)), (0, 120), (4, ((p0 + 5 : Nat) : Int)), (0, 36000), (4, ((p0 + 9 : Nat) : Int))] G R V)
    refine wp_ld (i := (.iload_n 1)) (0, x1) rfl rfl (fun _ => rfl) rfl rfl (?_ : wpv K_X8_ofTurn d P 104 [some (4, (p0 : Int)), some (0, x1), none, some (0, x3)] [(0, x1), (0, (120 * (V (p0 + 6) x3))), (4, ((p0 + 5 : Nat) : Int)), (0, 120), (4, ((p0 + 5 : Nat) : Int)), (0, 36000), (4, ((p0 + 9 : Nat) : Int))] G R V)
    obtain ⟨s9, w⟩ := w
    refine wp_xadd rfl rfl s9 (?_ : wpv K_X8_ofTurn d P 105 [some (4, (p0 : Int)), some (0, x1), none, some (0, x3)] [(0, ((120 * (V (p0 + 6) x3)) + x1)), (4, ((p0 + 5 : Nat) : Int)), (0, 120), (4, ((p0 + 5 : Nat) : Int)), (0, 36000), (4, ((p0 + 9 : Nat) : Int))] G R V)
    obtain ⟨s10, w⟩ := w
    have f11 : i32 (V (p0 + 5) (((120 * (V (p0 + 6) x3)) + x1))) := vr_a0 vr1 (ly8_7 l0).2 s10
    replace w := w f11
    refine wp_aI rfl rfl (ly8_7 l0).2 s10 (?_ : wpv K_X8_ofTurn d P 106 [some (4, (p0 : Int)), some (0, x1), none, some (0, x3)] [(0, (V (p0 + 5) (((120 * (V (p0 + 6) x3)) + x1)))), (0, 120), (4, ((p0 + 5 : Nat) : Int)), (0, 36000), (4, ((p0 + 9 : Nat) : Int))] G R V)
    obtain ⟨s12, w⟩ := w
    refine wp_xmul rfl rfl s12 (?_ : wpv K_X8_ofTurn d P 107 [some (4, (p0 : Int)), some (0, x1), none, some (0, x3)] [(0, (120 * (V (p0 + 5) (((120 * (V (p0 + 6) x3)) + x1))))), (4, ((p0 + 5 : Nat) : Int)), (0, 36000), (4, ((p0 + 9 : Nat) : Int))] G R V)
    refine wp_ld (i := (.iload_n 3)) (0, x3) rfl rfl (fun _ => rfl) rfl rfl (?_ : wpv K_X8_ofTurn d P 108 [some (4, (p0 : Int)), some (0, x1), none, some (0, x3)] [(0, x3), (0, (120 * (V (p0 + 5) (((120 * (V (p0 + 6) x3)) + x1))))), (4, ((p0 + 5 : Nat) : Int)), (0, 36000), (4, ((p0 + 9 : Nat) : Int))] G R V)
    obtain ⟨s13, w⟩ := w
    refine wp_xadd rfl rfl s13 (?_ : wpv K_X8_ofTurn d P 109 [some (4, (p0 : Int)), some (0, x1), none, some (0, x3)] [(0, ((120 * (V (p0 + 5) (((120 * (V (p0 + 6) x3)) + x1)))) + x3)), (4, ((p0 + 5 : Nat) : Int)), (0, 36000), (4, ((p0 + 9 : Nat) : Int))] G R V)
    obtain ⟨s14, w⟩ := w
    have f15 : i32 (V (p0 + 5) (((120 * (V (p0 + 5) (((120 * (V (p0 + 6) x3)) + x1)))) + x3))) := vr_a0 vr1 (ly8_7 l0).2 s14
    replace w := w f15
    refine wp_aI rfl rfl (ly8_7 l0).2 s14 (?_ : wpv K_X8_ofTurn d P 110 [some (4, (p0 : Int)), some (0, x1), none, some (0, x3)] [(0, (V (p0 + 5) (((120 * (V (p0 + 5) (((120 * (V (p0 + 6) x3)) + x1)))) + x3)))), (0, 36000), (4, ((p0 + 9 : Nat) : Int))] G R V)
    obtain ⟨s16, w⟩ := w
    refine wp_xadd rfl rfl s16 (?_ : wpv K_X8_ofTurn d P 111 [some (4, (p0 : Int)), some (0, x1), none, some (0, x3)] [(0, (36000 + (V (p0 + 5) (((120 * (V (p0 + 5) (((120 * (V (p0 + 6) x3)) + x1)))) + x3))))), (4, ((p0 + 9 : Nat) : Int))] G R V)
    refine wp_p (i := (.iconst 1)) rfl rfl (fun _ _ _ => rfl) (?_ : wpv K_X8_ofTurn d P 112 [some (4, (p0 : Int)), some (0, x1), none, some (0, x3)] [(0, 1), (0, (36000 + (V (p0 + 5) (((120 * (V (p0 + 5) (((120 * (V (p0 + 6) x3)) + x1)))) + x3))))), (4, ((p0 + 9 : Nat) : Int))] G R V)
    obtain ⟨s17, w⟩ := w
    refine wp_sB rfl rfl (ly8_14 l0).2 s17 (by omega) (?_ : wpv K_X8_ofTurn d P 113 [some (4, (p0 : Int)), some (0, x1), none, some (0, x3)] [] G R (wr V (p0 + 9) ((36000 + (V (p0 + 5) (((120 * (V (p0 + 5) (((120 * (V (p0 + 6) x3)) + x1)))) + x3))))) 1))
    obtain ⟨s18, w⟩ := w
    refine wp_inc (x := 3) (k := 1) (a := x3) (c := (x3 + 1)) _ rfl rfl rfl rfl s18 (by omega) rfl ?_
    show wpv K_X8_ofTurn d P 116 [some (4, (p0 : Int)), some (0, x1), none, some (0, (x3 + 1))] [] G R (wr V (p0 + 9) ((36000 + (V (p0 + 5) (((120 * (V (p0 + 5) (((120 * (V (p0 + 6) x3)) + x1)))) + x3))))) 1)
    refine wp_go 70 rfl rfl rfl (?_ : wpv K_X8_ofTurn d P 70 [some (4, (p0 : Int)), some (0, x1), none, some (0, (x3 + 1))] [] G R (wr V (p0 + 9) ((36000 + (V (p0 + 5) (((120 * (V (p0 + 5) (((120 * (V (p0 + 6) x3)) + x1)))) + x3))))) 1))
    exact wp_wk (wk_s (wk_s (wk_n (wk_s wk_0)))) w
theorem t_X8_marked_0 {d : Nat} {P : gP} {p0 : Nat} {G : List gS} {R V : gV} (l0 : lay8 G R p0) (w : wpv K_X8_marked d P 4 [some (4, (p0 : Int)), some (0, 0), some (0, 0)] [] G R V) : wpv K_X8_marked d P 0 [some (4, (p0 : Int))] [] G R V := by
  refine wp_p (i := (.iconst 0)) rfl rfl (fun _ _ _ => rfl) (?_ : wpv K_X8_marked d P 1 [some (4, (p0 : Int))] [(0, 0)] G R V)
  refine wp_sto (i := (.istore_n 1)) _ rfl rfl (fun _ => rfl) rfl rfl rfl ?_
  refine wp_wk (L' := [some (4, (p0 : Int)), some (0, 0)]) (wk_s (wk_s wk_0)) ?_
  show wpv K_X8_marked d P 2 [some (4, (p0 : Int)), some (0, 0)] [] G R V
  refine wp_p (i := (.iconst 0)) rfl rfl (fun _ _ _ => rfl) (?_ : wpv K_X8_marked d P 3 [some (4, (p0 : Int)), some (0, 0)] [(0, 0)] G R V)
  refine wp_sto (i := (.istore_n 2)) _ rfl rfl (fun _ => rfl) rfl rfl rfl ?_
  refine wp_wk (L' := [some (4, (p0 : Int)), some (0, 0), some (0, 0)]) (wk_s (wk_s (wk_s wk_0))) ?_
  show wpv K_X8_marked d P 4 [some (4, (p0 : Int)), some (0, 0), some (0, 0)] [] G R V
  exact wp_wk (wk_s (wk_s (wk_s wk_0))) w

theorem t_X8_marked_4 {d : Nat} {P : gP} {p0 : Nat} {x1 : Int} {x2 : Int} {G : List gS} {R V : gV} (l0 : lay8 G R p0) (w : ((i32 (V p0 5)) → ((i32 x2) ∧ (((¬ x2 < (V p0 5)) → P (some (0, x1)) V) ∧ ((x2 < (V p0 5)) → ((i32 (36000 + x2)) ∧ ((0 ≤ (36000 + x2) ∧ (36000 + x2) < 36120) ∧ (((V (p0 + 9) ((36000 + x2))) = 0 ∨ (V (p0 + 9) ((36000 + x2))) = 1) → ((((V (p0 + 9) ((36000 + x2))) = 0) → ((i32 (x1 + 0)) ∧ ((i32 (x2 + 1)) ∧ wpv K_X8_marked d P 4 [some (4, (p0 : Int)), some (0, (x1 + 0)), some (0, (x2 + 1))] [] G R V))) ∧ ((¬ (V (p0 + 9) ((36000 + x2))) = 0) → ((i32 (x1 + 1)) ∧ ((i32 (x2 + 1)) ∧ wpv K_X8_marked d P 4 [some (4, (p0 : Int)), some (0, (x1 + 1)), some (0, (x2 + 1))] [] G R V)))))))))))) : wpv K_X8_marked d P 4 [some (4, (p0 : Int)), some (0, x1), some (0, x2)] [] G R V := by
  refine wp_ld (i := (.iload_n 2)) (0, x2) rfl rfl (fun _ => rfl) rfl rfl (?_ : wpv K_X8_marked d P 5 [some (4, (p0 : Int)), some (0, x1), some (0, x2)] [(0, x2)] G R V)
  refine wp_ld (i := (.aload_n 0)) (4, (p0 : Int)) rfl rfl (fun _ => rfl) rfl rfl (?_ : wpv K_X8_marked d P 6 [some (4, (p0 : Int)), some (0, x1), some (0, x2)] [(4, (p0 : Int)), (0, x2)] G R V)
  refine wp_rng (fun vr1 => ?_)
  have f2 : i32 (V p0 5) := vr_f0 vr1 (ly8_o l0) rfl rfl
  replace w := w f2
  refine wp_getI (k := 5) rfl rfl rfl (ly8_o l0) rfl rfl (?_ : wpv K_X8_marked d P 9 [some (4, (p0 : Int)), some (0, x1), some (0, x2)] [(0, (V p0 5)), (0, x2)] G R V)
  obtain ⟨s3, w⟩ := w
  refine wp_icmp (c := .ge) 38 rfl rfl rfl s3 f2 (fun q => ?_) (fun q => ?_)
  · have q : ¬ x2 < (V p0 5) := q
    replace w := w.1 q
    show wpv K_X8_marked d P 38 [some (4, (p0 : Int)), some (0, x1), some (0, x2)] [] G R V
    refine wp_ld (i := (.iload_n 1)) (0, x1) rfl rfl (fun _ => rfl) rfl rfl (?_ : wpv K_X8_marked d P 39 [some (4, (p0 : Int)), some (0, x1), some (0, x2)] [(0, x1)] G R V)
    exact wp_rI rfl rfl rfl w
  · have q : x2 < (V p0 5) := Decidable.not_not.mp q
    replace w := w.2 q
    show wpv K_X8_marked d P 12 [some (4, (p0 : Int)), some (0, x1), some (0, x2)] [] G R V
    refine wp_ld (i := (.iload_n 1)) (0, x1) rfl rfl (fun _ => rfl) rfl rfl (?_ : wpv K_X8_marked d P 13 [some (4, (p0 : Int)), some (0, x1), some (0, x2)] [(0, x1)] G R V)
    refine wp_ld (i := (.aload_n 0)) (4, (p0 : Int)) rfl rfl (fun _ => rfl) rfl rfl (?_ : wpv K_X8_marked d P 14 [some (4, (p0 : Int)), some (0, x1), some (0, x2)] [(4, (p0 : Int)), (0, x1)] G R V)
    refine wp_getA (k := 14) rfl rfl rfl (ly8_o l0) rfl rfl (ly8_14 l0).1 (?_ : wpv K_X8_marked d P 17 [some (4, (p0 : Int)), some (0, x1), some (0, x2)] [(4, ((p0 + 9 : Nat) : Int)), (0, x1)] G R V)
    refine wp_p (i := (.ldc 133)) rfl rfl (fun _ _ _ => rfl) (?_ : wpv K_X8_marked d P 19 [some (4, (p0 : Int)), some (0, x1), some (0, x2)] [(0, 36000), (4, ((p0 + 9 : Nat) : Int)), (0, x1)] G R V)
    refine wp_ld (i := (.iload_n 2)) (0, x2) rfl rfl (fun _ => rfl) rfl rfl (?_ : wpv K_X8_marked d P 20 [some (4, (p0 : Int)), some (0, x1), some (0, x2)] [(0, x2), (0, 36000), (4, ((p0 + 9 : Nat) : Int)), (0, x1)] G R V)
    obtain ⟨s4, w⟩ := w
    refine wp_xadd rfl rfl s4 (?_ : wpv K_X8_marked d P 21 [some (4, (p0 : Int)), some (0, x1), some (0, x2)] [(0, (36000 + x2)), (4, ((p0 + 9 : Nat) : Int)), (0, x1)] G R V)
    obtain ⟨s5, w⟩ := w
    have f6 : (V (p0 + 9) ((36000 + x2))) = 0 ∨ (V (p0 + 9) ((36000 + x2))) = 1 := vr_a2 vr1 (ly8_14 l0).2 s5
    replace w := w f6
    have f7 : i32 (V (p0 + 9) ((36000 + x2))) := by unfold i32; omega
    refine wp_aB rfl rfl (ly8_14 l0).2 s5 (?_ : wpv K_X8_marked d P 22 [some (4, (p0 : Int)), some (0, x1), some (0, x2)] [(0, (V (p0 + 9) ((36000 + x2)))), (0, x1)] G R V)
    refine wp_if (c := .eq) 29 rfl rfl rfl f7 (fun q => ?_) (fun q => ?_)
    · have q : (V (p0 + 9) ((36000 + x2))) = 0 := q
      replace w := w.1 q
      show wpv K_X8_marked d P 29 [some (4, (p0 : Int)), some (0, x1), some (0, x2)] [(0, x1)] G R V
      refine wp_p (i := (.iconst 0)) rfl rfl (fun _ _ _ => rfl) (?_ : wpv K_X8_marked d P 30 [some (4, (p0 : Int)), some (0, x1), some (0, x2)] [(0, 0), (0, x1)] G R V)
      obtain ⟨s8, w⟩ := w
      refine wp_xadd rfl rfl s8 (?_ : wpv K_X8_marked d P 31 [some (4, (p0 : Int)), some (0, x1), some (0, x2)] [(0, (x1 + 0))] G R V)
      refine wp_sto (i := (.istore_n 1)) _ rfl rfl (fun _ => rfl) rfl rfl rfl ?_
      refine wp_wk (L' := [some (4, (p0 : Int)), some (0, (x1 + 0)), some (0, x2)]) (wk_s (wk_s (wk_s wk_0))) ?_
      show wpv K_X8_marked d P 32 [some (4, (p0 : Int)), some (0, (x1 + 0)), some (0, x2)] [] G R V
      obtain ⟨s9, w⟩ := w
      refine wp_inc (x := 2) (k := 1) (a := x2) (c := (x2 + 1)) _ rfl rfl rfl rfl s9 (by omega) rfl ?_
      show wpv K_X8_marked d P 35 [some (4, (p0 : Int)), some (0, (x1 + 0)), some (0, (x2 + 1))] [] G R V
      refine wp_go 4 rfl rfl rfl (?_ : wpv K_X8_marked d P 4 [some (4, (p0 : Int)), some (0, (x1 + 0)), some (0, (x2 + 1))] [] G R V)
      exact wp_wk (wk_s (wk_s (wk_s wk_0))) w
    · have q : ¬ (V (p0 + 9) ((36000 + x2))) = 0 := q
      replace w := w.2 q
      show wpv K_X8_marked d P 25 [some (4, (p0 : Int)), some (0, x1), some (0, x2)] [(0, x1)] G R V
      refine wp_p (i := (.iconst 1)) rfl rfl (fun _ _ _ => rfl) (?_ : wpv K_X8_marked d P 26 [some (4, (p0 : Int)), some (0, x1), some (0, x2)] [(0, 1), (0, x1)] G R V)
      refine wp_go 30 rfl rfl rfl (?_ : wpv K_X8_marked d P 30 [some (4, (p0 : Int)), some (0, x1), some (0, x2)] [(0, 1), (0, x1)] G R V)
      obtain ⟨s10, w⟩ := w
      refine wp_xadd rfl rfl s10 (?_ : wpv K_X8_marked d P 31 [some (4, (p0 : Int)), some (0, x1), some (0, x2)] [(0, (x1 + 1))] G R V)
      refine wp_sto (i := (.istore_n 1)) _ rfl rfl (fun _ => rfl) rfl rfl rfl ?_
      refine wp_wk (L' := [some (4, (p0 : Int)), some (0, (x1 + 1)), some (0, x2)]) (wk_s (wk_s (wk_s wk_0))) ?_
      show wpv K_X8_marked d P 32 [some (4, (p0 : Int)), some (0, (x1 + 1)), some (0, x2)] [] G R V
      obtain ⟨s11, w⟩ := w
      refine wp_inc (x := 2) (k := 1) (a := x2) (c := (x2 + 1)) _ rfl rfl rfl rfl s11 (by omega) rfl ?_
      show wpv K_X8_marked d P 35 [some (4, (p0 : Int)), some (0, (x1 + 1)), some (0, (x2 + 1))] [] G R V
      refine wp_go 4 rfl rfl rfl (?_ : wpv K_X8_marked d P 4 [some (4, (p0 : Int)), some (0, (x1 + 1)), some (0, (x2 + 1))] [] G R V)
      exact wp_wk (wk_s (wk_s (wk_s wk_0))) w
