theorem t_X8_exact_0 {d : Nat} {P : gP} {p0 : Nat} {G : List gS} {R V : gV} (l0 : lay8 G R p0) (w : cwv d (fun r V1 => ∃ v2 : Int, r = some (0, v2) ∧ ((i32 v2) ∧ ((i32 (V1 p0 12)) → cwv d (fun r V7 => ∃ v8 : Int, r = some (0, v8) ∧ P (some (0, v8)) V7) 172 [(4, (p0 : Int)), (0, 300), (0, (V1 p0 12))] G R (wr V1 (p0 + 10) 300 v2)))) 192 [(4, (p0 : Int))] G R V) : wpv K_X8_exact d P 0 [some (4, (p0 : Int))] [] G R V := by
  refine wp_ld (i := (.aload_n 0)) (4, (p0 : Int)) rfl rfl (fun _ => rfl) rfl rfl (?_ : wpv K_X8_exact d P 1 [some (4, (p0 : Int))] [(4, (p0 : Int))] G R V)
  refine wp_getA (k := 15) rfl rfl rfl (ly8_o l0) rfl rfl (ly8_15 l0).1 (?_ : wpv K_X8_exact d P 4 [some (4, (p0 : Int))] [(4, ((p0 + 10 : Nat) : Int))] G R V)
  refine wp_p (i := (.sipush 300)) rfl rfl (fun _ _ _ => rfl) (?_ : wpv K_X8_exact d P 7 [some (4, (p0 : Int))] [(0, 300), (4, ((p0 + 10 : Nat) : Int))] G R V)
  refine wp_ld (i := (.aload_n 0)) (4, (p0 : Int)) rfl rfl (fun _ => rfl) rfl rfl (?_ : wpv K_X8_exact d P 8 [some (4, (p0 : Int))] [(4, (p0 : Int)), (0, 300), (4, ((p0 + 10 : Nat) : Int))] G R V)
  refine wp_virt (as := []) (a := p0) (st := [(0, 300), (4, ((p0 + 10 : Nat) : Int))]) _ rfl rfl rfl rfl rfl rfl (ly8_o l0) (Nat.le_of_ble_eq_true rfl) (cwv_kI w (fun v2 V1 w => ?_))
  show wpv K_X8_exact d P 11 [some (4, (p0 : Int))] [(0, v2), (0, 300), (4, ((p0 + 10 : Nat) : Int))] G R V1
  obtain ⟨s3, w⟩ := w
  refine wp_sI rfl rfl (ly8_15 l0).2 ⟨by omega, by omega⟩ s3 (?_ : wpv K_X8_exact d P 12 [some (4, (p0 : Int))] [] G R (wr V1 (p0 + 10) 300 v2))
  refine wp_ld (i := (.aload_n 0)) (4, (p0 : Int)) rfl rfl (fun _ => rfl) rfl rfl (?_ : wpv K_X8_exact d P 13 [some (4, (p0 : Int))] [(4, (p0 : Int))] G R (wr V1 (p0 + 10) 300 v2))
  refine wp_p (i := (.sipush 300)) rfl rfl (fun _ _ _ => rfl) (?_ : wpv K_X8_exact d P 16 [some (4, (p0 : Int))] [(0, 300), (4, (p0 : Int))] G R (wr V1 (p0 + 10) 300 v2))
  refine wp_ld (i := (.aload_n 0)) (4, (p0 : Int)) rfl rfl (fun _ => rfl) rfl rfl (?_ : wpv K_X8_exact d P 17 [some (4, (p0 : Int))] [(4, (p0 : Int)), (0, 300), (4, (p0 : Int))] G R (wr V1 (p0 + 10) 300 v2))
  refine wp_rng (fun vr4 => ?_)
  have r5 : ((wr V1 (p0 + 10) 300 v2) p0 12) = (V1 p0 12) := (wr_a (by omega))
  have f6 : i32 (V1 p0 12) := (by have h := vr_f0 vr4 (ly8_o l0) rfl (k := 12) (k' := 12) rfl; rw [r5] at h; exact h)
  replace w := w f6
  refine wp_getIe (k := 12) rfl rfl rfl (ly8_o l0) rfl rfl r5 (?_ : wpv K_X8_exact d P 20 [some (4, (p0 : Int))] [(0, (V1 p0 12)), (0, 300), (4, (p0 : Int))] G R (wr V1 (p0 + 10) 300 v2))
  refine wp_virt (as := [(0, 300), (0, (V1 p0 12))]) (a := p0) (st := []) _ rfl rfl rfl rfl rfl rfl (ly8_o l0) (Nat.le_of_ble_eq_true rfl) (cwv_kI w (fun v8 V7 w => ?_))
  show wpv K_X8_exact d P 23 [some (4, (p0 : Int))] [(0, v8)] G R V7
  exact wp_rI rfl rfl rfl w
theorem t_X8_normalizer_0 {d : Nat} {P : gP} {p0 : Nat} {x1 : Int} {G : List gS} {R V : gV} (l0 : lay8 G R p0) (w : cwv d (fun r V1 => r = none ∧ wpv K_X8_normalizer d P 6 [some (4, (p0 : Int)), some (0, x1), some (0, 0)] [] G R V1) 189 [(4, (p0 : Int))] G R V) : wpv K_X8_normalizer d P 0 [some (4, (p0 : Int)), some (0, x1)] [] G R V := by
  refine wp_ld (i := (.aload_n 0)) (4, (p0 : Int)) rfl rfl (fun _ => rfl) rfl rfl (?_ : wpv K_X8_normalizer d P 1 [some (4, (p0 : Int)), some (0, x1)] [(4, (p0 : Int))] G R V)
  refine wp_virt (as := []) (a := p0) (st := []) _ rfl rfl rfl rfl rfl rfl (ly8_o l0) (Nat.le_of_ble_eq_true rfl) (cwv_k0 w (fun V1 w => ?_))
  show wpv K_X8_normalizer d P 4 [some (4, (p0 : Int)), some (0, x1)] [] G R V1
  refine wp_p (i := (.iconst 0)) rfl rfl (fun _ _ _ => rfl) (?_ : wpv K_X8_normalizer d P 5 [some (4, (p0 : Int)), some (0, x1)] [(0, 0)] G R V1)
  refine wp_sto (i := (.istore_n 2)) _ rfl rfl (fun _ => rfl) rfl rfl rfl ?_
  refine wp_wk (L' := [some (4, (p0 : Int)), some (0, x1), some (0, 0)]) (wk_s (wk_s (wk_s wk_0))) ?_
  show wpv K_X8_normalizer d P 6 [some (4, (p0 : Int)), some (0, x1), some (0, 0)] [] G R V1
  exact wp_wk (wk_s (wk_s (wk_s wk_0))) w

theorem t_X8_normalizer_6 {d : Nat} {P : gP} {p0 : Nat} {x1 : Int} {x2 : Int} {G : List gS} {R V : gV} (l0 : lay8 G R p0) (w : ((i32 (V p0 5)) → ((i32 x2) ∧ (((¬ x2 < (V p0 5)) → cwv d (fun r V4 => ∃ v5 : Int, r = some (0, v5) ∧ P (some (0, v5)) V4) 193 [(4, (p0 : Int))] G R V) ∧ ((x2 < (V p0 5)) → ((i32 (36000 + x2)) ∧ ((i32 (120 * x1)) ∧ ((i32 ((120 * x1) + x2)) ∧ ((0 ≤ ((120 * x1) + x2) ∧ ((120 * x1) + x2) < 36000) ∧ ((i32 (V (p0 + 13) (((120 * x1) + x2)))) → ((i32 x1) ∧ (((¬ (V (p0 + 13) (((120 * x1) + x2))) = x1) → ((0 ≤ (36000 + x2) ∧ (36000 + x2) < 36120) ∧ ((i32 (x2 + 1)) ∧ wpv K_X8_normalizer d P 6 [some (4, (p0 : Int)), some (0, x1), some (0, (x2 + 1))] [] G R (wr V (p0 + 9) ((36000 + x2)) 0)))) ∧ (((V (p0 + 13) (((120 * x1) + x2))) = x1) → ((0 ≤ (36000 + x2) ∧ (36000 + x2) < 36120) ∧ ((i32 (x2 + 1)) ∧ wpv K_X8_normalizer d P 6 [some (4, (p0 : Int)), some (0, x1), some (0, (x2 + 1))] [] G R (wr V (p0 + 9) ((36000 + x2)) 1)))))))))))))))) : wpv K_X8_normalizer d P 6 [some (4, (p0 : Int)), some (0, x1), some (0, x2)] [] G R V := by
  refine wp_ld (i := (.iload_n 2)) (0, x2) rfl rfl (fun _ => rfl) rfl rfl (?_ : wpv K_X8_normalizer d P 7 [some (4, (p0 : Int)), some (0, x1), some (0, x2)] [(0, x2)] G R V)
  refine wp_ld (i := (.aload_n 0)) (4, (p0 : Int)) rfl rfl (fun _ => rfl) rfl rfl (?_ : wpv K_X8_normalizer d P 8 [some (4, (p0 : Int)), some (0, x1), some (0, x2)] [(4, (p0 : Int)), (0, x2)] G R V)
  refine wp_rng (fun vr1 => ?_)
  have f2 : i32 (V p0 5) := vr_f0 vr1 (ly8_o l0) rfl rfl
  replace w := w f2
  refine wp_getI (k := 5) rfl rfl rfl (ly8_o l0) rfl rfl (?_ : wpv K_X8_normalizer d P 11 [some (4, (p0 : Int)), some (0, x1), some (0, x2)] [(0, (V p0 5)), (0, x2)] G R V)
  obtain ⟨s3, w⟩ := w
  refine wp_icmp (c := .ge) 49 rfl rfl rfl s3 f2 (fun q => ?_) (fun q => ?_)
  · have q : ¬ x2 < (V p0 5) := q
    replace w := w.1 q
    show wpv K_X8_normalizer d P 49 [some (4, (p0 : Int)), some (0, x1), some (0, x2)] [] G R V
    refine wp_ld (i := (.aload_n 0)) (4, (p0 : Int)) rfl rfl (fun _ => rfl) rfl rfl (?_ : wpv K_X8_normalizer d P 50 [some (4, (p0 : Int)), some (0, x1), some (0, x2)] [(4, (p0 : Int))] G R V)
    refine wp_virt (as := []) (a := p0) (st := []) _ rfl rfl rfl rfl rfl rfl (ly8_o l0) (Nat.le_of_ble_eq_true rfl) (cwv_kI w (fun v5 V4 w => ?_))
    show wpv K_X8_normalizer d P 53 [some (4, (p0 : Int)), some (0, x1), some (0, x2)] [(0, v5)] G R V4
    exact wp_rI rfl rfl rfl w
  · have q : x2 < (V p0 5) := Decidable.not_not.mp q
    replace w := w.2 q
    show wpv K_X8_normalizer d P 14 [some (4, (p0 : Int)), some (0, x1), some (0, x2)] [] G R V
    refine wp_ld (i := (.aload_n 0)) (4, (p0 : Int)) rfl rfl (fun _ => rfl) rfl rfl (?_ : wpv K_X8_normalizer d P 15 [some (4, (p0 : Int)), some (0, x1), some (0, x2)] [(4, (p0 : Int))] G R V)
    refine wp_getA (k := 14) rfl rfl rfl (ly8_o l0) rfl rfl (ly8_14 l0).1 (?_ : wpv K_X8_normalizer d P 18 [some (4, (p0 : Int)), some (0, x1), some (0, x2)] [(4, ((p0 + 9 : Nat) : Int))] G R V)
    refine wp_p (i := (.ldc 133)) rfl rfl (fun _ _ _ => rfl) (?_ : wpv K_X8_normalizer d P 20 [some (4, (p0 : Int)), some (0, x1), some (0, x2)] [(0, 36000), (4, ((p0 + 9 : Nat) : Int))] G R V)
    refine wp_ld (i := (.iload_n 2)) (0, x2) rfl rfl (fun _ => rfl) rfl rfl (?_ : wpv K_X8_normalizer d P 21 [some (4, (p0 : Int)), some (0, x1), some (0, x2)] [(0, x2), (0, 36000), (4, ((p0 + 9 : Nat) : Int))] G R V)
    obtain ⟨s6, w⟩ := w
    refine wp_xadd rfl rfl s6 (?_ : wpv K_X8_normalizer d P 22 [some (4, (p0 : Int)), some (0, x1), some (0, x2)] [(0, (36000 + x2)), (4, ((p0 + 9 : Nat) : Int))] G R V)
    refine wp_ld (i := (.aload_n 0)) (4, (p0 : Int)) rfl rfl (fun _ => rfl) rfl rfl (?_ : wpv K_X8_normalizer d P 23 [some (4, (p0 : Int)), some (0, x1), some (0, x2)] [(4, (p0 : Int)), (0, (36000 + x2)), (4, ((p0 + 9 : Nat) : Int))] G R V)
    refine wp_getA (k := 18) rfl rfl rfl (ly8_o l0) rfl rfl (ly8_18 l0).1 (?_ : wpv K_X8_normalizer d P 26 [some (4, (p0 : Int)), some (0, x1), some (0, x2)] [(4, ((p0 + 13 : Nat) : Int)), (0, (36000 + x2)), (4, ((p0 + 9 : Nat) : Int))] G R V)
    refine wp_p (i := (.bipush 120)) rfl rfl (fun _ _ _ => rfl) (?_ : wpv K_X8_normalizer d P 28 [some (4, (p0 : Int)), some (0, x1), some (0, x2)] [(0, 120), (4, ((p0 + 13 : Nat) : Int)), (0, (36000 + x2)), (4, ((p0 + 9 : Nat) : Int))] G R V)
    refine wp_ld (i := (.iload_n 1)) (0, x1) rfl rfl (fun _ => rfl) rfl rfl (?_ : wpv K_X8_normalizer d P 29 [some (4, (p0 : Int)), some (0, x1), some (0, x2)] [(0, x1), (0, 120), (4, ((p0 + 13 : Nat) : Int)), (0, (36000 + x2)), (4, ((p0 + 9 : Nat) : Int))] G R V)
    obtain ⟨s7, w⟩ := w
    refine wp_xmul rfl rfl s7 (?_ : wpv K_X8_normalizer d P 30 [some (4, (p0 : Int)), some (0, x1), some (0, x2)] [(0, (120 * x1)), (4, ((p0 + 13 : Nat) : Int)), (0, (36000 + x2)), (4, ((p0 + 9 : Nat) : Int))] G R V)
    refine wp_ld (i := (.iload_n 2)) (0, x2) rfl rfl (fun _ => rfl) rfl rfl (?_ : wpv K_X8_normalizer d P 31 [some (4, (p0 : Int)), some (0, x1), some (0, x2)] [(0, x2), (0, (120 * x1)), (4, ((p0 + 13 : Nat) : Int)), (0, (36000 + x2)), (4, ((p0 + 9 : Nat) : Int))] G R V)
    obtain ⟨s8, w⟩ := w
    refine wp_xadd rfl rfl s8 (?_ : wpv K_X8_normalizer d P 32 [some (4, (p0 : Int)), some (0, x1), some (0, x2)] [(0, ((120 * x1) + x2)), (4, ((p0 + 13 : Nat) : Int)), (0, (36000 + x2)), (4, ((p0 + 9 : Nat) : Int))] G R V)
    obtain ⟨s9, w⟩ := w
    have f10 : i32 (V (p0 + 13) (((120 * x1) + x2))) := vr_a0 vr1 (ly8_18 l0).2 s9
    replace w := w f10
    refine wp_aI rfl rfl (ly8_18 l0).2 s9 (?_ : wpv K_X8_normalizer d P 33 [some (4, (p0 : Int)), some (0, x1), some (0, x2)] [(0, (V (p0 + 13) (((120 * x1) + x2)))), (0, (36000 + x2)), (4, ((p0 + 9 : Nat) : Int))] G R V)
    refine wp_ld (i := (.iload_n 1)) (0, x1) rfl rfl (fun _ => rfl) rfl rfl (?_ : wpv K_X8_normalizer d P 34 [some (4, (p0 : Int)), some (0, x1), some (0, x2)] [(0, x1), (0, (V (p0 + 13) (((120 * x1) + x2)))), (0, (36000 + x2)), (4, ((p0 + 9 : Nat) : Int))] G R V)
    obtain ⟨s11, w⟩ := w
    refine wp_icmp (c := .ne) 41 rfl rfl rfl f10 s11 (fun q => ?_) (fun q => ?_)
    · have q : ¬ (V (p0 + 13) (((120 * x1) + x2))) = x1 := q
      replace w := w.1 q
      show wpv K_X8_normalizer d P 41 [some (4, (p0 : Int)), some (0, x1), some (0, x2)] [(0, (36000 + x2)), (4, ((p0 + 9 : Nat) : Int))] G R V
      refine wp_p (i := (.iconst 0)) rfl rfl (fun _ _ _ => rfl) (?_ : wpv K_X8_normalizer d P 42 [some (4, (p0 : Int)), some (0, x1), some (0, x2)] [(0, 0), (0, (36000 + x2)), (4, ((p0 + 9 : Nat) : Int))] G R V)
      obtain ⟨s12, w⟩ := w
      refine wp_sB rfl rfl (ly8_14 l0).2 s12 (by omega) (?_ : wpv K_X8_normalizer d P 43 [some (4, (p0 : Int)), some (0, x1), some (0, x2)] [] G R (wr V (p0 + 9) ((36000 + x2)) 0))
      obtain ⟨s13, w⟩ := w
      refine wp_inc (x := 2) (k := 1) (a := x2) (c := (x2 + 1)) _ rfl rfl rfl rfl s13 (by omega) rfl ?_
      show wpv K_X8_normalizer d P 46 [some (4, (p0 : Int)), some (0, x1), some (0, (x2 + 1))] [] G R (wr V (p0 + 9) ((36000 + x2)) 0)
      refine wp_go 6 rfl rfl rfl (?_ : wpv K_X8_normalizer d P 6 [some (4, (p0 : Int)), some (0, x1), some (0, (x2 + 1))] [] G R (wr V (p0 + 9) ((36000 + x2)) 0))
      exact wp_wk (wk_s (wk_s (wk_s wk_0))) w
    · have q : (V (p0 + 13) (((120 * x1) + x2))) = x1 := Decidable.not_not.mp q
      replace w := w.2 q
      show wpv K_X8_normalizer d P 37 [some (4, (p0 : Int)), some (0, x1), some (0, x2)] [(0, (36000 + x2)), (4, ((p0 + 9 : Nat) : Int))] G R V
      refine wp_p (i := (.iconst 1)) rfl rfl (fun _ _ _ => rfl) (?_ : wpv K_X8_normalizer d P 38 [some (4, (p0 : Int)), some (0, x1), some (0, x2)] [(0, 1), (0, (36000 + x2)), (4, ((p0 + 9 : Nat) : Int))] G R V)
      refine wp_go 42 rfl rfl rfl (?_ : wpv K_X8_normalizer d P 42 [some (4, (p0 : Int)), some (0, x1), some (0, x2)] [(0, 1), (0, (36000 + x2)), (4, ((p0 + 9 : Nat) : Int))] G R V)
      obtain ⟨s14, w⟩ := w
      refine wp_sB rfl rfl (ly8_14 l0).2 s14 (by omega) (?_ : wpv K_X8_normalizer d P 43 [some (4, (p0 : Int)), some (0, x1), some (0, x2)] [] G R (wr V (p0 + 9) ((36000 + x2)) 1))
      obtain ⟨s15, w⟩ := w
      refine wp_inc (x := 2) (k := 1) (a := x2) (c := (x2 + 1)) _ rfl rfl rfl rfl s15 (by omega) rfl ?_
      show wpv K_X8_normalizer d P 46 [some (4, (p0 : Int)), some (0, x1), some (0, (x2 + 1))] [] G R (wr V (p0 + 9) ((36000 + x2)) 1)
      refine wp_go 6 rfl rfl rfl (?_ : wpv K_X8_normalizer d P 6 [some (4, (p0 : Int)), some (0, x1), some (0, (x2 + 1))] [] G R (wr V (p0 + 9) ((36000 + x2)) 1))
      exact wp_wk (wk_s (wk_s (wk_s wk_0))) w
theorem t_X8_core_0 {d : Nat} {P : gP} {p0 : Nat} {x1 : Int} {G : List gS} {R V : gV} (l0 : lay8 G R p0) (w : cwv d (fun r V1 => r = none ∧ wpv K_X8_core d P 6 [some (4, (p0 : Int)), some (0, x1), some (0, 0)] [] G R V1) 189 [(4, (p0 : Int))] G R V) : wpv K_X8_core d P 0 [some (4, (p0 : Int)), some (0, x1)] [] G R V := by
  refine wp_ld (i := (.aload_n 0)) (4, (p0 : Int)) rfl rfl (fun _ => rfl) rfl rfl (?_ : wpv K_X8_core d P 1 [some (4, (p0 : Int)), some (0, x1)] [(4, (p0 : Int))] G R V)
  refine wp_virt (as := []) (a := p0) (st := []) _ rfl rfl rfl rfl rfl rfl (ly8_o l0) (Nat.le_of_ble_eq_true rfl) (cwv_k0 w (fun V1 w => ?_))
  show wpv K_X8_core d P 4 [some (4, (p0 : Int)), some (0, x1)] [] G R V1
  refine wp_p (i := (.iconst 0)) rfl rfl (fun _ _ _ => rfl) (?_ : wpv K_X8_core d P 5 [some (4, (p0 : Int)), some (0, x1)] [(0, 0)] G R V1)
  refine wp_sto (i := (.istore_n 2)) _ rfl rfl (fun _ => rfl) rfl rfl rfl ?_
  refine wp_wk (L' := [some (4, (p0 : Int)), some (0, x1), some (0, 0)]) (wk_s (wk_s (wk_s wk_0))) ?_
  show wpv K_X8_core d P 6 [some (4, (p0 : Int)), some (0, x1), some (0, 0)] [] G R V1
  exact wp_wk (wk_s (wk_s (wk_s wk_0))) w

theorem t_X8_core_6 {d : Nat} {P : gP} {p0 : Nat} {x1 : Int} {x2 : Int} {G : List gS} {R V : gV} (l0 : lay8 G R p0) (w : ((i32 (V p0 5)) → ((i32 x2) ∧ (((¬ x2 < (V p0 5)) → cwv d (fun r V4 => ∃ v5 : Int, r = some (0, v5) ∧ P (some (0, v5)) V4) 193 [(4, (p0 : Int))] G R V) ∧ ((x2 < (V p0 5)) → wpv K_X8_core d P 19 [some (4, (p0 : Int)), some (0, x1), some (0, x2), some (0, 1), some (0, 0)] [] G R V))))) : wpv K_X8_core d P 6 [some (4, (p0 : Int)), some (0, x1), some (0, x2)] [] G R V := by
  refine wp_ld (i := (.iload_n 2)) (0, x2) rfl rfl (fun _ => rfl) rfl rfl (?_ : wpv K_X8_core d P 7 [some (4, (p0 : Int)), some (0, x1), some (0, x2)] [(0, x2)] G R V)
  refine wp_ld (i := (.aload_n 0)) (4, (p0 : Int)) rfl rfl (fun _ => rfl) rfl rfl (?_ : wpv K_X8_core d P 8 [some (4, (p0 : Int)), some (0, x1), some (0, x2)] [(4, (p0 : Int)), (0, x2)] G R V)
  refine wp_rng (fun vr1 => ?_)
  have f2 : i32 (V p0 5) := vr_f0 vr1 (ly8_o l0) rfl rfl
  replace w := w f2
  refine wp_getI (k := 5) rfl rfl rfl (ly8_o l0) rfl rfl (?_ : wpv K_X8_core d P 11 [some (4, (p0 : Int)), some (0, x1), some (0, x2)] [(0, (V p0 5)), (0, x2)] G R V)
  obtain ⟨s3, w⟩ := w
  refine wp_icmp (c := .ge) 85 rfl rfl rfl s3 f2 (fun q => ?_) (fun q => ?_)
  · have q : ¬ x2 < (V p0 5) := q
    replace w := w.1 q
    show wpv K_X8_core d P 85 [some (4, (p0 : Int)), some (0, x1), some (0, x2)] [] G R V
    refine wp_ld (i := (.aload_n 0)) (4, (p0 : Int)) rfl rfl (fun _ => rfl) rfl rfl (?_ : wpv K_X8_core d P 86 [some (4, (p0 : Int)), some (0, x1), some (0, x2)] [(4, (p0 : Int))] G R V)
    refine wp_virt (as := []) (a := p0) (st := []) _ rfl rfl rfl rfl rfl rfl (ly8_o l0) (Nat.le_of_ble_eq_true rfl) (cwv_kI w (fun v5 V4 w => ?_))
    show wpv K_X8_core d P 89 [some (4, (p0 : Int)), some (0, x1), some (0, x2)] [(0, v5)] G R V4
    exact wp_rI rfl rfl rfl w
  · have q : x2 < (V p0 5) := Decidable.not_not.mp q
    replace w := w.2 q
    show wpv K_X8_core d P 14 [some (4, (p0 : Int)), some (0, x1), some (0, x2)] [] G R V
    refine wp_p (i := (.iconst 1)) rfl rfl (fun _ _ _ => rfl) (?_ : wpv K_X8_core d P 15 [some (4, (p0 : Int)), some (0, x1), some (0, x2)] [(0, 1)] G R V)
    refine wp_sto (i := (.istore_n 3)) _ rfl rfl (fun _ => rfl) rfl rfl rfl ?_
    refine wp_wk (L' := [some (4, (p0 : Int)), some (0, x1), some (0, x2), some (0, 1)]) (wk_s (wk_s (wk_s (wk_s wk_0)))) ?_
    show wpv K_X8_core d P 16 [some (4, (p0 : Int)), some (0, x1), some (0, x2), some (0, 1)] [] G R V
    refine wp_p (i := (.iconst 0)) rfl rfl (fun _ _ _ => rfl) (?_ : wpv K_X8_core d P 17 [some (4, (p0 : Int)), some (0, x1), some (0, x2), some (0, 1)] [(0, 0)] G R V)
    refine wp_sto (i := (.istore 4)) _ rfl rfl (fun _ => rfl) rfl rfl rfl ?_
    refine wp_wk (L' := [some (4, (p0 : Int)), some (0, x1), some (0, x2), some (0, 1), some (0, 0)]) (wk_s (wk_s (wk_s (wk_s (wk_s wk_0))))) ?_
    show wpv K_X8_core d P 19 [some (4, (p0 : Int)), some (0, x1), some (0, x2), some (0, 1), some (0, 0)] [] G R V
    exact wp_wk (wk_s (wk_s (wk_s (wk_s (wk_s wk_0))))) w

theorem t_X8_core_19 {d : Nat} {P : gP} {p0 : Nat} {x1 : Int} {x2 : Int} {x3 : Int} {x4 : Int} {G : List gS} {R V : gV} (l0 : lay8 G R p0) (w : ((i32 (V p0 5)) → ((i32 x4) ∧ (((¬ x4 < (V p0 5)) → ((i32 (36000 + x2)) ∧ ((0 ≤ (36000 + x2) ∧ (36000 + x2) < 36120) ∧ ((x3 = 0 ∨ x3 = 1) ∧ ((i32 (x2 + 1)) ∧ wpv K_X8_core d P 6 [some (4, (p0 : Int)), some (0, x1), some (0, (x2 + 1))] [] G R (wr V (p0 + 9) ((36000 + x2)) x3)))))) ∧ ((x4 < (V p0 5)) → ((i32 x3) ∧ (((x3 = 0) → ((i32 (x4 + 1)) ∧ wpv K_X8_core d P 19 [some (4, (p0 : Int)), some (0, x1), some (0, x2), some (0, 0), some (0, (x4 + 1))] [] G R V)) ∧ ((¬ x3 = 0) → ((i32 (120 * x1)) ∧ ((i32 ((120 * x1) + x4)) ∧ ((0 ≤ ((120 * x1) + x4) ∧ ((120 * x1) + x4) < 36000) ∧ ((i32 (V (p0 + 13) (((120 * x1) + x4)))) → ((i32 (120 * (V (p0 + 13) (((120 * x1) + x4))))) ∧ ((i32 ((120 * (V (p0 + 13) (((120 * x1) + x4)))) + x2)) ∧ ((0 ≤ ((120 * (V (p0 + 13) (((120 * x1) + x4)))) + x2) ∧ ((120 * (V (p0 + 13) (((120 * x1) + x4)))) + x2) < 36120) ∧ (((V (p0 + 9) (((120 * (V (p0 + 13) (((120 * x1) + x4)))) + x2))) = 0 ∨ (V (p0 + 9) (((120 * (V (p0 + 13) (((120 * x1) + x4)))) + x2))) = 1) → ((((V (p0 + 9) (((120 * (V (p0 + 13) (((120 * x1) + x4)))) + x2))) = 0) → ((i32 (x4 + 1)) ∧ wpv K_X8_core d P 19 [some (4, (p0 : Int)), some (0, x1), some (0, x2), some (0, 0), some (0, (x4 + 1))] [] G R V)) ∧ ((¬ (V (p0 + 9) (((120 * (V (p0 + 13) (((120 * x1) + x4)))) + x2))) = 0) → ((i32 (x4 + 1)) ∧ wpv K_X8_core d P 19 [some (4, (p0 : Int)), some (0, x1), some (0, x2), some (0, 1), some (0, (x4 + 1))] [] G R V))))))))))))))))))) : wpv K_X8_core d P 19 [some (4, (p0 : Int)), some (0, x1), some (0, x2), some (0, x3), some (0, x4)] [] G R V := by
  refine wp_ld (i := (.iload 4)) (0, x4) rfl rfl (fun _ => rfl) rfl rfl (?_ : wpv K_X8_core d P 21 [some (4, (p0 : Int)), some (0, x1), some (0, x2), some (0, x3), some (0, x4)] [(0, x4)] G R V)
  refine wp_ld (i := (.aload_n 0)) (4, (p0 : Int)) rfl rfl (fun _ => rfl) rfl rfl (?_ : wpv K_X8_core d P 22 [some (4, (p0 : Int)), some (0, x1), some (0, x2), some (0, x3), some (0, x4)] [(4, (p0 : Int)), (0, x4)] G R V)
  refine wp_rng (fun vr1 => ?_)
  have f2 : i32 (V p0 5) := vr_f0 vr1 (ly8_o l0) rfl rfl
  replace w := w f2
  refine wp_getI (k := 5) rfl rfl rfl (ly8_o l0) rfl rfl (?_ : wpv K_X8_core d P 25 [some (4, (p0 : Int)), some (0, x1), some (0, x2), some (0, x3), some (0, x4)] [(0, (V p0 5)), (0, x4)] G R V)
  obtain ⟨s3, w⟩ := w
  refine wp_icmp (c := .ge) 69 rfl rfl rfl s3 f2 (fun q => ?_) (fun q => ?_)
  · have q : ¬ x4 < (V p0 5) := q
    replace w := w.1 q
    show wpv K_X8_core d P 69 [some (4, (p0 : Int)), some (0, x1), some (0, x2), some (0, x3), some (0, x4)] [] G R V
    refine wp_ld (i := (.aload_n 0)) (4, (p0 : Int)) rfl rfl (fun _ => rfl) rfl rfl (?_ : wpv K_X8_core d P 70 [some (4, (p0 : Int)), some (0, x1), some (0, x2), some (0, x3), some (0, x4)] [(4, (p0 : Int))] G R V)
    refine wp_getA (k := 14) rfl rfl rfl (ly8_o l0) rfl rfl (ly8_14 l0).1 (?_ : wpv K_X8_core d P 73 [some (4, (p0 : Int)), some (0, x1), some (0, x2), some (0, x3), some (0, x4)] [(4, ((p0 + 9 : Nat) : Int))] G R V)
    refine wp_p (i := (.ldc 133)) rfl rfl (fun _ _ _ => rfl) (?_ : wpv K_X8_core d P 75 [some (4, (p0 : Int)), some (0, x1), some (0, x2), some (0, x3), some (0, x4)] [(0, 36000), (4, ((p0 + 9 : Nat) : Int))] G R V)
    refine wp_ld (i := (.iload_n 2)) (0, x2) rfl rfl (fun _ => rfl) rfl rfl (?_ : wpv K_X8_core d P 76 [some (4, (p0 : Int)), some (0, x1), some (0, x2), some (0, x3), some (0, x4)] [(0, x2), (0, 36000), (4, ((p0 + 9 : Nat) : Int))] G R V)
    obtain ⟨s4, w⟩ := w
    refine wp_xadd rfl rfl s4 (?_ : wpv K_X8_core d P 77 [some (4, (p0 : Int)), some (0, x1), some (0, x2), some (0, x3), some (0, x4)] [(0, (36000 + x2)), (4, ((p0 + 9 : Nat) : Int))] G R V)
    refine wp_ld (i := (.iload_n 3)) (0, x3) rfl rfl (fun _ => rfl) rfl rfl (?_ : wpv K_X8_core d P 78 [some (4, (p0 : Int)), some (0, x1), some (0, x2), some (0, x3), some (0, x4)] [(0, x3), (0, (36000 + x2)), (4, ((p0 + 9 : Nat) : Int))] G R V)
    obtain ⟨s5, w⟩ := w
    obtain ⟨s6, w⟩ := w
    refine wp_sB rfl rfl (ly8_14 l0).2 s5 s6 (?_ : wpv K_X8_core d P 79 [some (4, (p0 : Int)), some (0, x1), some (0, x2), some (0, x3), some (0, x4)] [] G R (wr V (p0 + 9) ((36000 + x2)) x3))
    obtain ⟨s7, w⟩ := w
    refine wp_inc (x := 2) (k := 1) (a := x2) (c := (x2 + 1)) _ rfl rfl rfl rfl s7 (by omega) rfl ?_
    show wpv K_X8_core d P 82 [some (4, (p0 : Int)), some (0, x1), some (0, (x2 + 1)), some (0, x3), some (0, x4)] [] G R (wr V (p0 + 9) ((36000 + x2)) x3)
    refine wp_go 6 rfl rfl rfl (?_ : wpv K_X8_core d P 6 [some (4, (p0 : Int)), some (0, x1), some (0, (x2 + 1)), some (0, x3), some (0, x4)] [] G R (wr V (p0 + 9) ((36000 + x2)) x3))
    exact wp_wk (wk_s (wk_s (wk_s wk_0))) w
  · have q : x4 < (V p0 5) := Decidable.not_not.mp q
    replace w := w.2 q
    show wpv K_X8_core d P 28 [some (4, (p0 : Int)), some (0, x1), some (0, x2), some (0, x3), some (0, x4)] [] G R V
    refine wp_ld (i := (.iload_n 3)) (0, x3) rfl rfl (fun _ => rfl) rfl rfl (?_ : wpv K_X8_core d P 29 [some (4, (p0 : Int)), some (0, x1), some (0, x2), some (0, x3), some (0, x4)] [(0, x3)] G R V)
    obtain ⟨s8, w⟩ := w
    refine wp_if (c := .eq) 61 rfl rfl rfl s8 (fun q => ?_) (fun q => ?_)
    · have q : x3 = 0 := q
      replace w := w.1 q
      show wpv K_X8_core d P 61 [some (4, (p0 : Int)), some (0, x1), some (0, x2), some (0, x3), some (0, x4)] [] G R V
      refine wp_p (i := (.iconst 0)) rfl rfl (fun _ _ _ => rfl) (?_ : wpv K_X8_core d P 62 [some (4, (p0 : Int)), some (0, x1), some (0, x2), some (0, x3), some (0, x4)] [(0, 0)] G R V)
      refine wp_sto (i := (.istore_n 3)) _ rfl rfl (fun _ => rfl) rfl rfl rfl ?_
      refine wp_wk (L' := [some (4, (p0 : Int)), some (0, x1), some (0, x2), some (0, 0), some (0, x4)]) (wk_s (wk_s (wk_s (wk_s (wk_s wk_0))))) ?_
      show wpv K_X8_core d P 63 [some (4, (p0 : Int)), some (0, x1), some (0, x2), some (0, 0), some (0, x4)] [] G R V
      obtain ⟨s9, w⟩ := w
      refine wp_inc (x := 4) (k := 1) (a := x4) (c := (x4 + 1)) _ rfl rfl rfl rfl s9 (by omega) rfl ?_
      show wpv K_X8_core d P 66 [some (4, (p0 : Int)), some (0, x1), some (0, x2), some (0, 0), some (0, (x4 + 1))] [] G R V
      refine wp_go 19 rfl rfl rfl (?_ : wpv K_X8_core d P 19 [some (4, (p0 : Int)), some (0, x1), some (0, x2), some (0, 0), some (0, (x4 + 1))] [] G R V)
      exact wp_wk (wk_s (wk_s (wk_s (wk_s (wk_s wk_0))))) w
    · have q : ¬ x3 = 0 := q
      replace w := w.2 q
      show wpv K_X8_core d P 32 [some (4, (p0 : Int)), some (0, x1), some (0, x2), some (0, x3), some (0, x4)] [] G R V
      refine wp_ld (i := (.aload_n 0)) (4, (p0 : Int)) rfl rfl (fun _ => rfl) rfl rfl (?_ : wpv K_X8_core d P 33 [some (4, (p0 : Int)), some (0, x1), some (0, x2), some (0, x3), some (0, x4)] [(4, (p0 : Int))] G R V)
      refine wp_getA (k := 14) rfl rfl rfl (ly8_o l0) rfl rfl (ly8_14 l0).1 (?_ : wpv K_X8_core d P 36 [some (4, (p0 : Int)), some (0, x1), some (0, x2), some (0, x3), some (0, x4)] [(4, ((p0 + 9 : Nat) : Int))] G R V)
      refine wp_p (i := (.bipush 120)) rfl rfl (fun _ _ _ => rfl) (?_ : wpv K_X8_core d P 38 [some (4, (p0 : Int)), some (0, x1), some (0, x2), some (0, x3), some (0, x4)] [(0, 120), (4, ((p0 + 9 : Nat) : Int))] G R V)
      refine wp_ld (i := (.aload_n 0)) (4, (p0 : Int)) rfl rfl (fun _ => rfl) rfl rfl (?_ : wpv K_X8_core d P 39 [some (4, (p0 : Int)), some (0, x1), some (0, x2), some (0, x3), some (0, x4)] [(4, (p0 : Int)), (0, 120), (4, ((p0 + 9 : Nat) : Int))] G R V)
      refine wp_getA (k := 18) rfl rfl rfl (ly8_o l0) rfl rfl (ly8_18 l0).1 (?_ : wpv K_X8_core d P 42 [some (4, (p0 : Int)), some (0, x1), some (0, x2), some (0, x3), some (0, x4)] [(4, ((p0 + 13 : Nat) : Int)), (0, 120), (4, ((p0 + 9 : Nat) : Int))] G R V)
      refine wp_p (i := (.bipush 120)) rfl rfl (fun _ _ _ => rfl) (?_ : wpv K_X8_core d P 44 [some (4, (p0 : Int)), some (0, x1), some (0, x2), some (0, x3), some (0, x4)] [(0, 120), (4, ((p0 + 13 : Nat) : Int)), (0, 120), (4, ((p0 + 9 : Nat) : Int))] G R V)
      refine wp_ld (i := (.iload_n 1)) (0, x1) rfl rfl (fun _ => rfl) rfl rfl (?_ : wpv K_X8_core d P 45 [some (4, (p0 : Int)), some (0, x1), some (0, x2), some (0, x3), some (0, x4)] [(0, x1), (0, 120), (4, ((p0 + 13 : Nat) : Int)), (0, 120), (4, ((p0 + 9 : Nat) : Int))] G R V)
      obtain ⟨s10, w⟩ := w
      refine wp_xmul rfl rfl s10 (?_ : wpv K_X8_core d P 46 [some (4, (p0 : Int)), some (0, x1), some (0, x2), some (0, x3), some (0, x4)] [(0, (120 * x1)), (4, ((p0 + 13 : Nat) : Int)), (0, 120), (4, ((p0 + 9 : Nat) : Int))] G R V)
      refine wp_ld (i := (.iload 4)) (0, x4) rfl rfl (fun _ => rfl) rfl rfl (?_ : wpv K_X8_core d P 48 [some (4, (p0 : Int)), some (0, x1), some (0, x2), some (0, x3), some (0, x4)] [(0, x4), (0, (120 * x1)), (4, ((p0 + 13 : Nat) : Int)), (0, 120), (4, ((p0 + 9 : Nat) : Int))] G R V)
      obtain ⟨s11, w⟩ := w
      refine wp_xadd rfl rfl s11 (?_ : wpv K_X8_core d P 49 [some (4, (p0 : Int)), some (0, x1), some (0, x2), some (0, x3), some (0, x4)] [(0, ((120 * x1) + x4)), (4, ((p0 + 13 : Nat) : Int)), (0, 120), (4, ((p0 + 9 : Nat) : Int))] G R V)
      obtain ⟨s12, w⟩ := w
      have f13 : i32 (V (p0 + 13) (((120 * x1) + x4))) := vr_a0 vr1 (ly8_18 l0).2 s12
      replace w := w f13
      refine wp_aI rfl rfl (ly8_18 l0).2 s12 (?_ : wpv K_X8_core d P 50 [some (4, (p0 : Int)), some (0, x1), some (0, x2), some (0, x3), some (0, x4)] [(0, (V (p0 + 13) (((120 * x1) + x4)))), (0, 120), (4, ((p0 + 9 : Nat) : Int))] G R V)
      obtain ⟨s14, w⟩ := w
      refine wp_xmul rfl rfl s14 (?_ : wpv K_X8_core d P 51 [some (4, (p0 : Int)), some (0, x1), some (0, x2), some (0, x3), some (0, x4)] [(0, (120 * (V (p0 + 13) (((120 * x1) + x4))))), (4, ((p0 + 9 : Nat) : Int))] G R V)
      refine wp_ld (i := (.iload_n 2)) (0, x2) rfl rfl (fun _ => rfl) rfl rfl (?_ : wpv K_X8_core d P 52 [some (4, (p0 : Int)), some (0, x1), some (0, x2), some (0, x3), some (0, x4)] [(0, x2), (0, (120 * (V (p0 + 13) (((120 * x1) + x4))))), (4, ((p0 + 9 : Nat) : Int))] G R V)
      obtain ⟨s15, w⟩ := w
      refine wp_xadd rfl rfl s15 (?_ : wpv K_X8_core d P 53 [some (4, (p0 : Int)), some (0, x1), some (0, x2), some (0, x3), some (0, x4)] [(0, ((120 * (V (p0 + 13) (((120 * x1) + x4)))) + x2)), (4, ((p0 + 9 : Nat) : Int))] G R V)
      obtain ⟨s16, w⟩ := w
      have f17 : (V (p0 + 9) (((120 * (V (p0 + 13) (((120 * x1) + x4)))) + x2))) = 0 ∨ (V (p0 + 9) (((120 * (V (p0 + 13) (((120 * x1) + x4)))) + x2))) = 1 := vr_a2 vr1 (ly8_14 l0).2 s16
      replace w := w f17
      have f18 : i32 (V (p0 + 9) (((120 * (V (p0 + 13) (((120 * x1) + x4)))) + x2))) := by unfold i32; omega
      refine wp_aB rfl rfl (ly8_14 l0).2 s16 (?_ : wpv K_X8_core d P 54 [some (4, (p0 : Int)), some (0, x1), some (0, x2), some (0, x3), some (0, x4)] [(0, (V (p0 + 9) (((120 * (V (p0 + 13) (((120 * x1) + x4)))) + x2))))] G R V)
      refine wp_if (c := .eq) 61 rfl rfl rfl f18 (fun q => ?_) (fun q => ?_)
      · have q : (V (p0 + 9) (((120 * (V (p0 + 13) (((120 * x1) + x4)))) + x2))) = 0 := q
        replace w := w.1 q
        show wpv K_X8_core d P 61 [some (4, (p0 : Int)), some (0, x1), some (0, x2), some (0, x3), some (0, x4)] [] G R V
        refine wp_p (i := (.iconst 0)) rfl rfl (fun _ _ _ => rfl) (?_ : wpv K_X8_core d P 62 [some (4, (p0 : Int)), some (0, x1), some (0, x2), some (0, x3), some (0, x4)] [(0, 0)] G R V)
        refine wp_sto (i := (.istore_n 3)) _ rfl rfl (fun _ => rfl) rfl rfl rfl ?_
        refine wp_wk (L' := [some (4, (p0 : Int)), some (0, x1), some (0, x2), some (0, 0), some (0, x4)]) (wk_s (wk_s (wk_s (wk_s (wk_s wk_0))))) ?_
        show wpv K_X8_core d P 63 [some (4, (p0 : Int)), some (0, x1), some (0, x2), some (0, 0), some (0, x4)] [] G R V
        obtain ⟨s19, w⟩ := w
        refine wp_inc (x := 4) (k := 1) (a := x4) (c := (x4 + 1)) _ rfl rfl rfl rfl s19 (by omega) rfl ?_
        show wpv K_X8_core d P 66 [some (4, (p0 : Int)), some (0, x1), some (0, x2), some (0, 0), some (0, (x4 + 1))] [] G R V
        refine wp_go 19 rfl rfl rfl (?_ : wpv K_X8_core d P 19 [some (4, (p0 : Int)), some (0, x1), some (0, x2), some (0, 0), some (0, (x4 + 1))] [] G R V)
        exact wp_wk (wk_s (wk_s (wk_s (wk_s (wk_s wk_0))))) w
      · have q : ¬ (V (p0 + 9) (((120 * (V (p0 + 13) (((120 * x1) + x4)))) + x2))) = 0 := q
        replace w := w.2 q
        show wpv K_X8_core d P 57 [some (4, (p0 : Int)), some (0, x1), some (0, x2), some (0, x3), some (0, x4)] [] G R V
        refine wp_p (i := (.iconst 1)) rfl rfl (fun _ _ _ => rfl) (?_ : wpv K_X8_core d P 58 [some (4, (p0 : Int)), some (0, x1), some (0, x2), some (0, x3), some (0, x4)] [(0, 1)] G R V)
        refine wp_go 62 rfl rfl rfl (?_ : wpv K_X8_core d P 62 [some (4, (p0 : Int)), some (0, x1), some (0, x2), some (0, x3), some (0, x4)] [(0, 1)] G R V)
        refine wp_sto (i := (.istore_n 3)) _ rfl rfl (fun _ => rfl) rfl rfl rfl ?_
        refine wp_wk (L' := [some (4, (p0 : Int)), some (0, x1), some (0, x2), some (0, 1), some (0, x4)]) (wk_s (wk_s (wk_s (wk_s (wk_s wk_0))))) ?_
        show wpv K_X8_core d P 63 [some (4, (p0 : Int)), some (0, x1), some (0, x2), some (0, 1), some (0, x4)] [] G R V
        obtain ⟨s20, w⟩ := w
        refine wp_inc (x := 4) (k := 1) (a := x4) (c := (x4 + 1)) _ rfl rfl rfl rfl s20 (by omega) rfl ?_
        show wpv K_X8_core d P 66 [some (4, (p0 : Int)), some (0, x1), some (0, x2), some (0, 1), some (0, (x4 + 1))] [] G R V
        refine wp_go 19 rfl rfl rfl (?_ : wpv K_X8_core d P 19 [some (4, (p0 : Int)), some (0, x1), some (0, x2), some (0, 1), some (0, (x4 + 1))] [] G R V)
        exact wp_wk (wk_s (wk_s (wk_s (wk_s (wk_s wk_0))))) w
theorem t_X8_derived_0 {d : Nat} {P : gP} {p0 : Nat} {x1 : Int} {G : List gS} {R V : gV} (l0 : lay8 G R p0) (w : cwv d (fun r V1 => r = none ∧ wpv K_X8_derived d P 6 [some (4, (p0 : Int)), some (0, x1), some (0, 0)] [] G R V1) 189 [(4, (p0 : Int))] G R V) : wpv K_X8_derived d P 0 [some (4, (p0 : Int)), some (0, x1)] [] G R V := by
  refine wp_ld (i := (.aload_n 0)) (4, (p0 : Int)) rfl rfl (fun _ => rfl) rfl rfl (?_ : wpv K_X8_derived d P 1 [some (4, (p0 : Int)), some (0, x1)] [(4, (p0 : Int))] G R V)
  refine wp_virt (as := []) (a := p0) (st := []) _ rfl rfl rfl rfl rfl rfl (ly8_o l0) (Nat.le_of_ble_eq_true rfl) (cwv_k0 w (fun V1 w => ?_))
  show wpv K_X8_derived d P 4 [some (4, (p0 : Int)), some (0, x1)] [] G R V1
  refine wp_p (i := (.iconst 0)) rfl rfl (fun _ _ _ => rfl) (?_ : wpv K_X8_derived d P 5 [some (4, (p0 : Int)), some (0, x1)] [(0, 0)] G R V1)
  refine wp_sto (i := (.istore_n 2)) _ rfl rfl (fun _ => rfl) rfl rfl rfl ?_
  refine wp_wk (L' := [some (4, (p0 : Int)), some (0, x1), some (0, 0)]) (wk_s (wk_s (wk_s wk_0))) ?_
  show wpv K_X8_derived d P 6 [some (4, (p0 : Int)), some (0, x1), some (0, 0)] [] G R V1
  exact wp_wk (wk_s (wk_s (wk_s wk_0))) w

theorem t_X8_derived_6 {d : Nat} {P : gP} {p0 : Nat} {x1 : Int} {x2 : Int} {G : List gS} {R V : gV} (l0 : lay8 G R p0) (w : ((i32 (V p0 5)) → ((i32 x2) ∧ (((¬ x2 < (V p0 5)) → cwv d (fun r V4 => ∃ v5 : Int, r = some (0, v5) ∧ P (some (0, v5)) V4) 188 [(4, (p0 : Int))] G R V) ∧ ((x2 < (V p0 5)) → wpv K_X8_derived d P 16 [some (4, (p0 : Int)), some (0, x1), some (0, x2), some (0, 0)] [] G R V))))) : wpv K_X8_derived d P 6 [some (4, (p0 : Int)), some (0, x1), some (0, x2)] [] G R V := by
  refine wp_ld (i := (.iload_n 2)) (0, x2) rfl rfl (fun _ => rfl) rfl rfl (?_ : wpv K_X8_derived d P 7 [some (4, (p0 : Int)), some (0, x1), some (0, x2)] [(0, x2)] G R V)
  refine wp_ld (i := (.aload_n 0)) (4, (p0 : Int)) rfl rfl (fun _ => rfl) rfl rfl (?_ : wpv K_X8_derived d P 8 [some (4, (p0 : Int)), some (0, x1), some (0, x2)] [(4, (p0 : Int)), (0, x2)] G R V)
  refine wp_rng (fun vr1 => ?_)
  have f2 : i32 (V p0 5) := vr_f0 vr1 (ly8_o l0) rfl rfl
  replace w := w f2
  refine wp_getI (k := 5) rfl rfl rfl (ly8_o l0) rfl rfl (?_ : wpv K_X8_derived d P 11 [some (4, (p0 : Int)), some (0, x1), some (0, x2)] [(0, (V p0 5)), (0, x2)] G R V)
  obtain ⟨s3, w⟩ := w
  refine wp_icmp (c := .ge) 121 rfl rfl rfl s3 f2 (fun q => ?_) (fun q => ?_)
  · have q : ¬ x2 < (V p0 5) := q
    replace w := w.1 q
    show wpv K_X8_derived d P 121 [some (4, (p0 : Int)), some (0, x1), some (0, x2)] [] G R V
    refine wp_ld (i := (.aload_n 0)) (4, (p0 : Int)) rfl rfl (fun _ => rfl) rfl rfl (?_ : wpv K_X8_derived d P 122 [some (4, (p0 : Int)), some (0, x1), some (0, x2)] [(4, (p0 : Int))] G R V)
    refine wp_virt (as := []) (a := p0) (st := []) _ rfl rfl rfl rfl rfl rfl (ly8_o l0) (Nat.le_of_ble_eq_true rfl) (cwv_kI w (fun v5 V4 w => ?_))
    show wpv K_X8_derived d P 125 [some (4, (p0 : Int)), some (0, x1), some (0, x2)] [(0, v5)] G R V4
    exact wp_rI rfl rfl rfl w
  · have q : x2 < (V p0 5) := Decidable.not_not.mp q
    replace w := w.2 q
    show wpv K_X8_derived d P 14 [some (4, (p0 : Int)), some (0, x1), some (0, x2)] [] G R V
    refine wp_p (i := (.iconst 0)) rfl rfl (fun _ _ _ => rfl) (?_ : wpv K_X8_derived d P 15 [some (4, (p0 : Int)), some (0, x1), some (0, x2)] [(0, 0)] G R V)
    refine wp_sto (i := (.istore_n 3)) _ rfl rfl (fun _ => rfl) rfl rfl rfl ?_
    refine wp_wk (L' := [some (4, (p0 : Int)), some (0, x1), some (0, x2), some (0, 0)]) (wk_s (wk_s (wk_s (wk_s wk_0)))) ?_
    show wpv K_X8_derived d P 16 [some (4, (p0 : Int)), some (0, x1), some (0, x2), some (0, 0)] [] G R V
    exact wp_wk (wk_s (wk_s (wk_s (wk_s wk_0)))) w

theorem t_X8_derived_16 {d : Nat} {P : gP} {p0 : Nat} {x1 : Int} {x2 : Int} {x3 : Int} {G : List gS} {R V : gV} (l0 : lay8 G R p0) (w : ((i32 (V p0 5)) → ((i32 x3) ∧ (((¬ x3 < (V p0 5)) → ((i32 (x2 + 1)) ∧ wpv K_X8_derived d P 6 [some (4, (p0 : Int)), some (0, x1), some (0, (x2 + 1))] [] G R V)) ∧ ((x3 < (V p0 5)) → ((i32 (120 * x1)) ∧ ((i32 ((120 * x1) + x2)) ∧ ((0 ≤ ((120 * x1) + x2) ∧ ((120 * x1) + x2) < 36120) ∧ (((V (p0 + 9) (((120 * x1) + x2))) = 0 ∨ (V (p0 + 9) (((120 * x1) + x2))) = 1) → ((((V (p0 + 9) (((120 * x1) + x2))) = 0) → ((i32 (x3 + 1)) ∧ wpv K_X8_derived d P 16 [some (4, (p0 : Int)), some (0, x1), some (0, x2), some (0, (x3 + 1))] [] G R V)) ∧ ((¬ (V (p0 + 9) (((120 * x1) + x2))) = 0) → ((i32 ((120 * x1) + x3)) ∧ ((0 ≤ ((120 * x1) + x3) ∧ ((120 * x1) + x3) < 36120) ∧ (((V (p0 + 9) (((120 * x1) + x3))) = 0 ∨ (V (p0 + 9) (((120 * x1) + x3))) = 1) → (((¬ (V (p0 + 9) (((120 * x1) + x3))) = 0) → ((i32 (120 * x2)) ∧ ((i32 ((120 * x2) + x3)) ∧ ((0 ≤ ((120 * x2) + x3) ∧ ((120 * x2) + x3) < 14400) ∧ ((i32 (V (p0 + 5) (((120 * x2) + x3)))) → ((i32 (120 * (V (p0 + 5) (((120 * x2) + x3))))) ∧ ((0 ≤ x2 ∧ x2 < 120) ∧ ((i32 (V (p0 + 6) x2)) → ((i32 ((120 * (V (p0 + 5) (((120 * x2) + x3)))) + (V (p0 + 6) x2))) ∧ ((0 ≤ ((120 * (V (p0 + 5) (((120 * x2) + x3)))) + (V (p0 + 6) x2)) ∧ ((120 * (V (p0 + 5) (((120 * x2) + x3)))) + (V (p0 + 6) x2)) < 14400) ∧ ((i32 (V (p0 + 5) (((120 * (V (p0 + 5) (((120 * x2) + x3)))) + (V (p0 + 6) x2))))) → ((i32 (120 * (V (p0 + 5) (((120 * (V (p0 + 5) (((120 * x2) + x3)))) + (V (p0 + 6) x2)))))) ∧ ((0 ≤ x3 ∧ x3 < 120) ∧ ((i32 (V (p0 + 6) x3)) → ((i32 ((120 * (V (p0 + 5) (((120 * (V (p0 + 5) (((120 * x2) + x3)))) + (V (p0 + 6) x2))))) + (V (p0 + 6) x3))) ∧ ((0 ≤ ((120 * (V (p0 + 5) (((120 * (V (p0 + 5) (((120 * x2) + x3)))) + (V (p0 + 6) x2))))) + (V (p0 + 6) x3)) ∧ ((120 * (V (p0 + 5) (((120 * (V (p0 + 5) (((120 * x2) + x3)))) + (V (p0 + 6) x2))))) + (V (p0 + 6) x3)) < 14400) ∧ ((i32 (V (p0 + 5) (((120 * (V (p0 + 5) (((120 * (V (p0 + 5) (((120 * x2) + x3)))) + (V (p0 + 6) x2))))) + (V (p0 + 6) x3))))) → ((i32 (36000 + (V (p0 + 5) (((120 * (V (p0 + 5) (((120 * (V (p0 + 5) (((120 * x2) + x3)))) + (V (p0 + 6) x2))))) + (V (p0 + 6) x3)))))) ∧ ((0 ≤ (36000 + (V (p0 + 5) (((120 * (V (p0 + 5) (((120 * (V (p0 + 5) (((120 * x2) + x3)))) + (V (p0 + 6) x2))))) + (V (p0 + 6) x3))))) ∧ (36000 + (V (p0 + 5) (((120 * (V (p0 + 5) (((120 * (V (p0 + 5) (((120 * x2) + x3)))) + (V (p0 + 6) x2))))) + (V (p0 + 6) x3))))) < 36120) ∧ ((i32 (x3 + 1)) ∧ wpv K_X8_derived d P 16 [some (4, (p0 : Int)), some (0, x1), some (0, x2), some (0, (x3 + 1))] [] G R (wr V (p0 + 9) ((36000 + (V (p0 + 5) (((120 * (V (p0 + 5) (((120 * (V (p0 + 5) (((120 * x2) + x3)))) + (V (p0 + 6) x2))))) + (V (p0 + 6) x3)))))) 1))))))))))))))))))))) ∧ (((V (p0 + 9) (((120 * x1) + x3))) = 0) → ((i32 (x3 + 1)) ∧ wpv K_X8_derived d P 16 [some (4, (p0 : Int)), some (0, x1), some (0, x2), some (0, (x3 + 1))] [] G R V))))))))))))))))) : wpv K_X8_derived d P 16 [some (4, (p0 : Int)), some (0, x1), some (0, x2), some (0, x3)] [] G R V := by
  refine wp_ld (i := (.iload_n 3)) (0, x3) rfl rfl (fun _ => rfl) rfl rfl (?_ : wpv K_X8_derived d P 17 [some (4, (p0 : Int)), some (0, x1), some (0, x2), some (0, x3)] [(0, x3)] G R V)
  refine wp_ld (i := (.aload_n 0)) (4, (p0 : Int)) rfl rfl (fun _ => rfl) rfl rfl (?_ : wpv K_X8_derived d P 18 [some (4, (p0 : Int)), some (0, x1), some (0, x2), some (0, x3)] [(4, (p0 : Int)), (0, x3)] G R V)
  refine wp_rng (fun vr1 => ?_)
  have f2 : i32 (V p0 5) := vr_f0 vr1 (ly8_o l0) rfl rfl
  replace w := w f2
  refine wp_getI (k := 5) rfl rfl rfl (ly8_o l0) rfl rfl (?_ : wpv K_X8_derived d P 21 [some (4, (p0 : Int)), some (0, x1), some (0, x2), some (0, x3)] [(0, (V p0 5)), (0, x3)] G R V)
  obtain ⟨s3, w⟩ := w
  refine wp_icmp (c := .ge) 115 rfl rfl rfl s3 f2 (fun q => ?_) (fun q => ?_)
  · have q : ¬ x3 < (V p0 5) := q
    replace w := w.1 q
    show wpv K_X8_derived d P 115 [some (4, (p0 : Int)), some (0, x1), some (0, x2), some (0, x3)] [] G R V
    obtain ⟨s4, w⟩ := w
    refine wp_inc (x := 2) (k := 1) (a := x2) (c := (x2 + 1)) _ rfl rfl rfl rfl s4 (by omega) rfl ?_
    show wpv K_X8_derived d P 118 [some (4, (p0 : Int)), some (0, x1), some (0, (x2 + 1)), some (0, x3)] [] G R V
    refine wp_go 6 rfl rfl rfl (?_ : wpv K_X8_derived d P 6 [some (4, (p0 : Int)), some (0, x1), some (0, (x2 + 1)), some (0, x3)] [] G R V)
    exact wp_wk (wk_s (wk_s (wk_s wk_0))) w
  · have q : x3 < (V p0 5) := Decidable.not_not.mp q
    replace w := w.2 q
    show wpv K_X8_derived d P 24 [some (4, (p0 : Int)), some (0, x1), some (0, x2), some (0, x3)] [] G R V
    refine wp_ld (i := (.aload_n 0)) (4, (p0 : Int)) rfl rfl (fun _ => rfl) rfl rfl (?_ : wpv K_X8_derived d P 25 [some (4, (p0 : Int)), some (0, x1), some (0, x2), some (0, x3)] [(4, (p0 : Int))] G R V)
    refine wp_getA (k := 14) rfl rfl rfl (ly8_o l0) rfl rfl (ly8_14 l0).1 (?_ : wpv K_X8_derived d P 28 [some (4, (p0 : Int)), some (0, x1), some (0, x2), some (0, x3)] [(4, ((p0 + 9 : Nat) : Int))] G R V)
    refine wp_p (i := (.bipush 120)) rfl rfl (fun _ _ _ => rfl) (?_ : wpv K_X8_derived d P 30 [some (4, (p0 : Int)), some (0, x1), some (0, x2), some (0, x3)] [(0, 120), (4, ((p0 + 9 : Nat) : Int))] G R V)
    refine wp_ld (i := (.iload_n 1)) (0, x1) rfl rfl (fun _ => rfl) rfl rfl (?_ : wpv K_X8_derived d P 31 [some (4, (p0 : Int)), some (0, x1), some (0, x2), some (0, x3)] [(0, x1), (0, 120), (4, ((p0 + 9 : Nat) : Int))] G R V)
    obtain ⟨s5, w⟩ := w
    refine wp_xmul rfl rfl s5 (?_ : wpv K_X8_derived d P 32 [some (4, (p0 : Int)), some (0, x1), some (0, x2), some (0, x3)] [(0, (120 * x1)), (4, ((p0 + 9 : Nat) : Int))] G R V)
    refine wp_ld (i := (.iload_n 2)) (0, x2) rfl rfl (fun _ => rfl) rfl rfl (?_ : wpv K_X8_derived d P 33 [some (4, (p0 : Int)), some (0, x1), some (0, x2), some (0, x3)] [(0, x2), (0, (120 * x1)), (4, ((p0 + 9 : Nat) : Int))] G R V)
    obtain ⟨s6, w⟩ := w
    refine wp_xadd rfl rfl s6 (?_ : wpv K_X8_derived d P 34 [some (4, (p0 : Int)), some (0, x1), some (0, x2), some (0, x3)] [(0, ((120 * x1) + x2)), (4, ((p0 + 9 : Nat) : Int))] G R V)
    obtain ⟨s7, w⟩ := w
    have f8 : (V (p0 + 9) (((120 * x1) + x2))) = 0 ∨ (V (p0 + 9) (((120 * x1) + x2))) = 1 := vr_a2 vr1 (ly8_14 l0).2 s7
    replace w := w f8
    have f9 : i32 (V (p0 + 9) (((120 * x1) + x2))) := by unfold i32; omega
    refine wp_aB rfl rfl (ly8_14 l0).2 s7 (?_ : wpv K_X8_derived d P 35 [some (4, (p0 : Int)), some (0, x1), some (0, x2), some (0, x3)] [(0, (V (p0 + 9) (((120 * x1) + x2))))] G R V)
    refine wp_if (c := .eq) 109 rfl rfl rfl f9 (fun q => ?_) (fun q => ?_)
    · have q : (V (p0 + 9) (((120 * x1) + x2))) = 0 := q
      replace w := w.1 q
      show wpv K_X8_derived d P 109 [some (4, (p0 : Int)), some (0, x1), some (0, x2), some (0, x3)] [] G R V
      obtain ⟨s10, w⟩ := w
      refine wp_inc (x := 3) (k := 1) (a := x3) (c := (x3 + 1)) _ rfl rfl rfl rfl s10 (by omega) rfl ?_
      show wpv K_X8_derived d P 112 [some (4, (p0 : Int)), some (0, x1), some (0, x2), some (0, (x3 + 1))] [] G R V
      refine wp_go 16 rfl rfl rfl (?_ : wpv K_X8_derived d P 16 [some (4, (p0 : Int)), some (0, x1), some (0, x2), some (0, (x3 + 1))] [] G R V)
      exact wp_wk (wk_s (wk_s (wk_s (wk_s wk_0)))) w
    · have q : ¬ (V (p0 + 9) (((120 * x1) + x2))) = 0 := q
      replace w := w.2 q
      show wpv K_X8_derived d P 38 [some (4, (p0 : Int)), some (0, x1), some (0, x2), some (0, x3)] [] G R V
      refine wp_ld (i := (.aload_n 0)) (4, (p0 : Int)) rfl rfl (fun _ => rfl) rfl rfl (?_ : wpv K_X8_derived d P 39 [some (4, (p0 : Int)), some (0, x1), some (0, x2), some (0, x3)] [(4, (p0 : Int))] G R V)
      refine wp_getA (k := 14) rfl rfl rfl (ly8_o l0) rfl rfl (ly8_14 l0).1 (?_ : wpv K_X8_derived d P 42 [some (4, (p0 : Int)), some (0, x1), some (0, x2), some (0, x3)] [(4, ((p0 + 9 : Nat) : Int))] G R V)
      refine wp_p (i := (.bipush 120)) rfl rfl (fun _ _ _ => rfl) (?_ : wpv K_X8_derived d P 44 [some (4, (p0 : Int)), some (0, x1), some (0, x2), some (0, x3)] [(0, 120), (4, ((p0 + 9 : Nat) : Int))] G R V)
      refine wp_ld (i := (.iload_n 1)) (0, x1) rfl rfl (fun _ => rfl) rfl rfl (?_ : wpv K_X8_derived d P 45 [some (4, (p0 : Int)), some (0, x1), some (0, x2), some (0, x3)] [(0, x1), (0, 120), (4, ((p0 + 9 : Nat) : Int))] G R V)
      refine wp_xmul rfl rfl s5 (?_ : wpv K_X8_derived d P 46 [some (4, (p0 : Int)), some (0, x1), some (0, x2), some (0, x3)] [(0, (120 * x1)), (4, ((p0 + 9 : Nat) : Int))] G R V)
      refine wp_ld (i := (.iload_n 3)) (0, x3) rfl rfl (fun _ => rfl) rfl rfl (?_ : wpv K_X8_derived d P 47 [some (4, (p0 : Int)), some (0, x1), some (0, x2), some (0, x3)] [(0, x3), (0, (120 * x1)), (4, ((p0 + 9 : Nat) : Int))] G R V)
      obtain ⟨s11, w⟩ := w
      refine wp_xadd rfl rfl s11 (?_ : wpv K_X8_derived d P 48 [some (4, (p0 : Int)), some (0, x1), some (0, x2), some (0, x3)] [(0, ((120 * x1) + x3)), (4, ((p0 + 9 : Nat) : Int))] G R V)
      obtain ⟨s12, w⟩ := w
      have f13 : (V (p0 + 9) (((120 * x1) + x3))) = 0 ∨ (V (p0 + 9) (((120 * x1) + x3))) = 1 := vr_a2 vr1 (ly8_14 l0).2 s12
      replace w := w f13
      have f14 : i32 (V (p0 + 9) (((120 * x1) + x3))) := by unfold i32; omega
      refine wp_aB rfl rfl (ly8_14 l0).2 s12 (?_ : wpv K_X8_derived d P 49 [some (4, (p0 : Int)), some (0, x1), some (0, x2), some (0, x3)] [(0, (V (p0 + 9) (((120 * x1) + x3))))] G R V)
      refine wp_if (c := .ne) 55 rfl rfl rfl f14 (fun q => ?_) (fun q => ?_)
      · have q : ¬ (V (p0 + 9) (((120 * x1) + x3))) = 0 := q
        replace w := w.1 q
        show wpv K_X8_derived d P 55 [some (4, (p0 : Int)), some (0, x1), some (0, x2), some (0, x3)] [] G R V
        refine wp_ld (i := (.aload_n 0)) (4, (p0 : Int)) rfl rfl (fun _ => rfl) rfl rfl (?_ : wpv K_X8_derived d P 56 [some (4, (p0 : Int)), some (0, x1), some (0, x2), some (0, x3)] [(4, (p0 : Int))] G R V)
        refine wp_getA (k := 7) rfl rfl rfl (ly8_o l0) rfl rfl (ly8_7 l0).1 (?_ : wpv K_X8_derived d P 59 [some (4, (p0 : Int)), some (0, x1), some (0, x2), some (0, x3)] [(4, ((p0 + 5 : Nat) : Int))] G R V)
        refine wp_p (i := (.bipush 120)) rfl rfl (fun _ _ _ => rfl) (?_ : wpv K_X8_derived d P 61 [some (4, (p0 : Int)), some (0, x1), some (0, x2), some (0, x3)] [(0, 120), (4, ((p0 + 5 : Nat) : Int))] G R V)
        refine wp_ld (i := (.iload_n 2)) (0, x2) rfl rfl (fun _ => rfl) rfl rfl (?_ : wpv K_X8_derived d P 62 [some (4, (p0 : Int)), some (0, x1), some (0, x2), some (0, x3)] [(0, x2), (0, 120), (4, ((p0 + 5 : Nat) : Int))] G R V)
        obtain ⟨s15, w⟩ := w
        refine wp_xmul rfl rfl s15 (?_ : wpv K_X8_derived d P 63 [some (4, (p0 : Int)), some (0, x1), some (0, x2), some (0, x3)] [(0, (120 * x2)), (4, ((p0 + 5 : Nat) : Int))] G R V)
        refine wp_ld (i := (.iload_n 3)) (0, x3) rfl rfl (fun _ => rfl) rfl rfl (?_ : wpv K_X8_derived d P 64 [some (4, (p0 : Int)), some (0, x1), some (0, x2), some (0, x3)] [(0, x3), (0, (120 * x2)), (4, ((p0 + 5 : Nat) : Int))] G R V)
        obtain ⟨s16, w⟩ := w
        refine wp_xadd rfl rfl s16 (?_ : wpv K_X8_derived d P 65 [some (4, (p0 : Int)), some (0, x1), some (0, x2), some (0, x3)] [(0, ((120 * x2) + x3)), (4, ((p0 + 5 : Nat) : Int))] G R V)
        obtain ⟨s17, w⟩ := w
        have f18 : i32 (V (p0 + 5) (((120 * x2) + x3))) := vr_a0 vr1 (ly8_7 l0).2 s17
        replace w := w f18
        refine wp_aI rfl rfl (ly8_7 l0).2 s17 (?_ : wpv K_X8_derived d P 66 [some (4, (p0 : Int)), some (0, x1), some (0, x2), some (0, x3)] [(0, (V (p0 + 5) (((120 * x2) + x3))))] G R V)
        refine wp_sto (i := (.istore 4)) _ rfl rfl (fun _ => rfl) rfl rfl rfl ?_
        refine wp_wk (L' := [some (4, (p0 : Int)), some (0, x1), some (0, x2), some (0, x3), some (0, (V (p0 + 5) (((120 * x2) + x3))))]) (wk_s (wk_s (wk_s (wk_s (wk_s wk_0))))) ?_
        show wpv K_X8_derived d P 68 [some (4, (p0 : Int)), some (0, x1), some (0, x2), some (0, x3), some (0, (V (p0 + 5) (((120 * x2) + x3))))] [] G R V
        refine wp_ld (i := (.aload_n 0)) (4, (p0 : Int)) rfl rfl (fun _ => rfl) rfl rfl (?_ : wpv K_X8_derived d P 69 [some (4, (p0 : Int)), some (0, x1), some (0, x2), some (0, x3), some (0, (V (p0 + 5) (((120 * x2) + x3))))] [(4, (p0 : Int))] G R V)
        refine wp_getA (k := 14) rfl rfl rfl (ly8_o l0) rfl rfl (ly8_14 l0).1 (?_ : wpv K_X8_derived d P 72 [some (4, (p0 : Int)), some (0, x1), some (0, x2), some (0, x3), some (0, (V (p0 + 5) (((120 * x2) + x3))))] [(4, ((p0 + 9 : Nat) : Int))] G R V)
        refine wp_p (i := (.ldc 133)) rfl rfl (fun _ _ _ => rfl) (?_ : wpv K_X8_derived d P 74 [some (4, (p0 : Int)), some (0, x1), some (0, x2), some (0, x3), some (0, (V (p0 + 5) (((120 * x2) + x3))))] [(0, 36000), (4, ((p0 + 9 : Nat) : Int))] G R V)
        refine wp_ld (i := (.aload_n 0)) (4, (p0 : Int)) rfl rfl (fun _ => rfl) rfl rfl (?_ : wpv K_X8_derived d P 75 [some (4, (p0 : Int)), some (0, x1), some (0, x2), some (0, x3), some (0, (V (p0 + 5) (((120 * x2) + x3))))] [(4, (p0 : Int)), (0, 36000), (4, ((p0 + 9 : Nat) : Int))] G R V)
        refine wp_getA (k := 7) rfl rfl rfl (ly8_o l0) rfl rfl (ly8_7 l0).1 (?_ : wpv K_X8_derived d P 78 [some (4, (p0 : Int)), some (0, x1), some (0, x2), some (0, x3), some (0, (V (p0 + 5) (((120 * x2) + x3))))] [(4, ((p0 + 5 : Nat) : Int)), (0, 36000), (4, ((p0 + 9 : Nat) : Int))] G R V)
        refine wp_p (i := (.bipush 120)) rfl rfl (fun _ _ _ => rfl) (?_ : wpv K_X8_derived d P 80 [some (4, (p0 : Int)), some (0, x1), some (0, x2), some (0, x3), some (0, (V (p0 + 5) (((120 * x2) + x3))))] [(0, 120), (4, ((p0 + 5 : Nat) : Int)), (0, 36000), (4, ((p0 + 9 : Nat) : Int))] G R V)
        refine wp_ld (i := (.aload_n 0)) (4, (p0 : Int)) rfl rfl (fun _ => rfl) rfl rfl (?_ : wpv K_X8_derived d P 81 [some (4, (p0 : Int)), some (0, x1), some (0, x2), some (0, x3), some (0, (V (p0 + 5) (((120 * x2) + x3))))] [(4, (p0 : Int)), (0, 120), (4, ((p0 + 5 : Nat) : Int)), (0, 36000), (4, ((p0 + 9 : Nat) : Int))] G R V)
        refine wp_getA (k := 7) rfl rfl rfl (ly8_o l0) rfl rfl (ly8_7 l0).1 (?_ : wpv K_X8_derived d P 84 [some (4, (p0 : Int)), some (0, x1), some (0, x2), some (0, x3), some (0, (V (p0 + 5) (((120 * x2) + x3))))] [(4, ((p0 + 5 : Nat) : Int)), (0, 120), (4, ((p0 + 5 : Nat) : Int)), (0, 36000), (4, ((p0 + 9 : Nat) : Int))] G R V)
        refine wp_p (i := (.bipush 120)) rfl rfl (fun _ _ _ => rfl) (?_ : wpv K_X8_derived d P 86 [some (4, (p0 : Int)), some (0, x1), some (0, x2), some (0, x3), some (0, (V (p0 + 5) (((120 * x2) + x3))))] [(0, 120), (4, ((p0 + 5 : Nat) : Int)), (0, 120), (4, ((p0 + 5 : Nat) : Int)), (0, 36000), (4, ((p0 + 9 : Nat) : Int))] G R V)
        refine wp_ld (i := (.iload 4)) (0, (V (p0 + 5) (((120 * x2) + x3)))) rfl rfl (fun _ => rfl) rfl rfl (?_ : wpv K_X8_derived d P 88 [some (4, (p0 : Int)), some (0, x1), some (0, x2), some (0, x3), some (0, (V (p0 + 5) (((120 * x2) + x3))))] [(0, (V (p0 + 5) (((120 * x2) + x3)))), (0, 120), (4, ((p0 + 5 : Nat) : Int)), (0, 120), (4, ((p0 + 5 : Nat) : Int)), (0, 36000), (4, ((p0 + 9 : Nat) : Int))] G R V)
        obtain ⟨s19, w⟩ := w
        refine wp_xmul rfl rfl s19 (?_ : wpv K_X8_derived d P 89 [some (4, (p0 : Int)), some (0, x1), some (0, x2), some (0, x3), some (0, (V (p0 + 5) (((120 * x2) + x3))))] [(0, (120 * (V (p0 + 5) (((120 * x2) + x3))))), (4, ((p0 + 5 : Nat) : Int)), (0, 120), (4, ((p0 + 5 : Nat) : Int)), (0, 36000), (4, ((p0 + 9 : Nat) : Int))] G R V)
        refine wp_ld (i := (.aload_n 0)) (4, (p0 : Int)) rfl rfl (fun _ => rfl) rfl rfl (?_ : wpv K_X8_derived d P 90 [some (4, (p0 : Int)), some (0, x1), some (0, x2), some (0, x3), some (0, (V (p0 + 5) (((120 * x2) + x3))))] [(4, (p0 : Int)), (0, (120 * (V (p0 + 5) (((120 * x2) + x3))))), (4, ((p0 + 5 : Nat) : Int)), (0, 120), (4, ((p0 + 5 : Nat) : Int)), (0, 36000), (4, ((p0 + 9 : Nat) : Int))] G R V)
        refine wp_getA (k := 8) rfl rfl rfl (ly8_o l0) rfl rfl (ly8_8 l0).1 (?_ : wpv K_X8_derived d P 93 [some (4, (p0 : Int)), some (0, x1), some (0, x2), some (0, x3), some (0, (V (p0 + 5) (((120 * x2) + x3))))] [(4, ((p0 + 6 : Nat) : Int)), (0, (120 * (V (p0 + 5) (((120 * x2) + x3))))), (4, ((p0 + 5 : Nat) : Int)), (0, 120), (4, ((p0 + 5 : Nat) : Int)), (0, 36000), (4, ((p0 + 9 : Nat) : Int))] G R V)
        refine wp_ld (i := (.iload_n 2)) (0, x2) rfl rfl (fun _ => rfl) rfl rfl (?_ : wpv K_X8_derived d P 94 [some (4, (p0 : Int)), some (0, x1), some (0, x2), some (0, x3), some (0, (V (p0 + 5) (((120 * x2) + x3))))] [(0, x2), (4, ((p0 + 6 : Nat) : Int)), (0, (120 * (V (p0 + 5) (((120 * x2) + x3))))), (4, ((p0 + 5 : Nat) : Int)), (0, 120), (4, ((p0 + 5 : Nat) : Int)), (0, 36000), (4, ((p0 + 9 : Nat) : Int))] G R V)
        obtain ⟨s20, w⟩ := w
        have f21 : i32 (V (p0 + 6) x2) := vr_a0 vr1 (ly8_8 l0).2 s20
        replace w := w f21
        refine wp_aI rfl rfl (ly8_8 l0).2 s20 (?_ : wpv K_X8_derived d P 95 [some (4, (p0 : Int)), some (0, x1), some (0, x2), some (0, x3), some (0, (V (p0 + 5) (((120 * x2) + x3))))] [(0, (V (p0 + 6) x2)), (0, (120 * (V (p0 + 5) (((120 * x2) + x3))))), (4, ((p0 + 5 : Nat) : Int)), (0, 120), (4, ((p0 + 5 : Nat) : Int)), (0, 36000), (4, ((p0 + 9 : Nat) : Int))] G R V)
        obtain ⟨s22, w⟩ := w
        refine wp_xadd rfl rfl s22 (?_ : wpv K_X8_derived d P 96 [some (4, (p0 : Int)), some (0, x1), some (0, x2), some (0, x3), some (0, (V (p0 + 5) (((120 * x2) + x3))))] [(0, ((120 * (V (p0 + 5) (((120 * x2) + x3)))) + (V (p0 + 6) x2))), (4, ((p0 + 5 : Nat) : Int)), (0, 120), (4, ((p0 + 5 : Nat) : Int)), (0, 36000), (4, ((p0 + 9 : Nat) : Int))] G R V)
        obtain ⟨s23, w⟩ := w
        have f24 : i32 (V (p0 + 5) (((120 * (V (p0 + 5) (((120 * x2) + x3)))) + (V (p0 + 6) x2)))) := vr_a0 vr1 (ly8_7 l0).2 s23
        replace w := w f24
        refine wp_aI rfl rfl (ly8_7 l0).2 s23 (?_ : wpv K_X8_derived d P 97 [some (4, (p0 : Int)), some (0, x1), some (0, x2), some (0, x3), some (0, (V (p0 + 5) (((120 * x2) + x3))))] [(0, (V (p0 + 5) (((120 * (V (p0 + 5) (((120 * x2) + x3)))) + (V (p0 + 6) x2))))), (0, 120), (4, ((p0 + 5 : Nat) : Int)), (0, 36000), (4, ((p0 + 9 : Nat) : Int))] G R V)
        obtain ⟨s25, w⟩ := w
        refine wp_xmul rfl rfl s25 (?_ : wpv K_X8_derived d P 98 [some (4, (p0 : Int)), some (0, x1), some (0, x2), some (0, x3), some (0, (V (p0 + 5) (((120 * x2) + x3))))] [(0, (120 * (V (p0 + 5) (((120 * (V (p0 + 5) (((120 * x2) + x3)))) + (V (p0 + 6) x2)))))), (4, ((p0 + 5 : Nat) : Int)), (0, 36000), (4, ((p0 + 9 : Nat) : Int))] G R V)
        refine wp_ld (i := (.aload_n 0)) (4, (p0 : Int)) rfl rfl (fun _ => rfl) rfl rfl (?_ : wpv K_X8_derived d P 99 [some (4, (p0 : Int)), some (0, x1), some (0, x2), some (0, x3), some (0, (V (p0 + 5) (((120 * x2) + x3))))] [(4, (p0 : Int)), (0, (120 * (V (p0 + 5) (((120 * (V (p0 + 5) (((120 * x2) + x3)))) + (V (p0 + 6) x2)))))), (4, ((p0 + 5 : Nat) : Int)), (0, 36000), (4, ((p0 + 9 : Nat) : Int))] G R V)
        refine wp_getA (k := 8) rfl rfl rfl (ly8_o l0) rfl rfl (ly8_8 l0).1 (?_ : wpv K_X8_derived d P 102 [some (4, (p0 : Int)), some (0, x1), some (0, x2), some (0, x3), some (0, (V (p0 + 5) (((120 * x2) + x3))))] [(4, ((p0 + 6 : Nat) : Int)), (0, (120 * (V (p0 + 5) (((120 * (V (p0 + 5) (((120 * x2) + x3)))) + (V (p0 + 6) x2)))))), (4, ((p0 + 5 : Nat) : Int)), (0, 36000), (4, ((p0 + 9 : Nat) : Int))] G R V)
        refine wp_ld (i := (.iload_n 3)) (0, x3) rfl rfl (fun _ => rfl) rfl rfl (?_ : wpv K_X8_derived d P 103 [some (4, (p0 : Int)), some (0, x1), some (0, x2), some (0, x3), some (0, (V (p0 + 5) (((120 * x2) + x3))))] [(0, x3), (4, ((p0 + 6 : Nat) : Int)), (0, (120 * (V (p0 + 5) (((120 * (V (p0 + 5) (((120 * x2) + x3)))) + (V (p0 + 6) x2)))))), (4, ((p0 + 5 : Nat) : Int)), (0, 36000), (4, ((p0 + 9 : Nat) : Int))] G R V)
        obtain ⟨s26, w⟩ := w
        have f27 : i32 (V (p0 + 6) x3) := vr_a0 vr1 (ly8_8 l0).2 s26
        replace w := w f27
        refine wp_aI rfl rfl (ly8_8 l0).2 s26 (?_ : wpv K_X8_derived d P 104 [some (4, (p0 : Int)), some (0, x1), some (0, x2), some (0, x3), some (0, (V (p0 + 5) (((120 * x2) + x3))))] [(0, (V (p0 + 6) x3)), (0, (120 * (V (p0 + 5) (((120 * (V (p0 + 5) (((120 * x2) + x3)))) + (V (p0 + 6) x2)))))), (4, ((p0 + 5 : Nat) : Int)), (0, 36000), (4, ((p0 + 9 : Nat) : Int))] G R V)
        obtain ⟨s28, w⟩ := w
        refine wp_xadd rfl rfl s28 (?_ : wpv K_X8_derived d P 105 [some (4, (p0 : Int)), some (0, x1), some (0, x2), some (0, x3), some (0, (V (p0 + 5) (((120 * x2) + x3))))] [(0, ((120 * (V (p0 + 5) (((120 * (V (p0 + 5) (((120 * x2) + x3)))) + (V (p0 + 6) x2))))) + (V (p0 + 6) x3))), (4, ((p0 + 5 : Nat) : Int)), (0, 36000), (4, ((p0 + 9 : Nat) : Int))] G R V)
        obtain ⟨s29, w⟩ := w
        have f30 : i32 (V (p0 + 5) (((120 * (V (p0 + 5) (((120 * (V (p0 + 5) (((120 * x2) + x3)))) + (V (p0 + 6) x2))))) + (V (p0 + 6) x3)))) := vr_a0 vr1 (ly8_7 l0).2 s29
        replace w := w f30
        refine wp_aI rfl rfl (ly8_7 l0).2 s29 (?_ : wpv K_X8_derived d P 106 [some (4, (p0 : Int)), some (0, x1), some (0, x2), some (0, x3), some (0, (V (p0 + 5) (((120 * x2) + x3))))] [(0, (V (p0 + 5) (((120 * (V (p0 + 5) (((120 * (V (p0 + 5) (((120 * x2) + x3)))) + (V (p0 + 6) x2))))) + (V (p0 + 6) x3))))), (0, 36000), (4, ((p0 + 9 : Nat) : Int))] G R V)
        obtain ⟨s31, w⟩ := w
        refine wp_xadd rfl rfl s31 (?_ : wpv K_X8_derived d P 107 [some (4, (p0 : Int)), some (0, x1), some (0, x2), some (0, x3), some (0, (V (p0 + 5) (((120 * x2) + x3))))] [(0, (36000 + (V (p0 + 5) (((120 * (V (p0 + 5) (((120 * (V (p0 + 5) (((120 * x2) + x3)))) + (V (p0 + 6) x2))))) + (V (p0 + 6) x3)))))), (4, ((p0 + 9 : Nat) : Int))] G R V)
        refine wp_p (i := (.iconst 1)) rfl rfl (fun _ _ _ => rfl) (?_ : wpv K_X8_derived d P 108 [some (4, (p0 : Int)), some (0, x1), some (0, x2), some (0, x3), some (0, (V (p0 + 5) (((120 * x2) + x3))))] [(0, 1), (0, (36000 + (V (p0 + 5) (((120 * (V (p0 + 5) (((120 * (V (p0 + 5) (((120 * x2) + x3)))) + (V (p0 + 6) x2))))) + (V (p0 + 6) x3)))))), (4, ((p0 + 9 : Nat) : Int))] G R V)
        obtain ⟨s32, w⟩ := w
        refine wp_sB rfl rfl (ly8_14 l0).2 s32 (by omega) (?_ : wpv K_X8_derived d P 109 [some (4, (p0 : Int)), some (0, x1), some (0, x2), some (0, x3), some (0, (V (p0 + 5) (((120 * x2) + x3))))] [] G R (wr V (p0 + 9) ((36000 + (V (p0 + 5) (((120 * (V (p0 + 5) (((120 * (V (p0 + 5) (((120 * x2) + x3)))) + (V (p0 + 6) x2))))) + (V (p0 + 6) x3)))))) 1))
        obtain ⟨s33, w⟩ := w
        refine wp_inc (x := 3) (k := 1) (a := x3) (c := (x3 + 1)) _ rfl rfl rfl rfl s33 (by omega) rfl ?_
        show wpv K_X8_derived d P 112 [some (4, (p0 : Int)), some (0, x1), some (0, x2), some (0, (x3 + 1)), some (0, (V (p0 + 5) (((120 * x2) + x3))))] [] G R (wr V (p0 + 9) ((36000 + (V (p0 + 5) (((120 * (V (p0 + 5) (((120 * (V (p0 + 5) (((120 * x2) + x3)))) + (V (p0 + 6) x2))))) + (V (p0 + 6) x3)))))) 1)
        refine wp_go 16 rfl rfl rfl (?_ : wpv K_X8_derived d P 16 [some (4, (p0 : Int)), some (0, x1), some (0, x2), some (0, (x3 + 1)), some (0, (V (p0 + 5) (((120 * x2) + x3))))] [] G R (wr V (p0 + 9) ((36000 + (V (p0 + 5) (((120 * (V (p0 + 5) (((120 * (V (p0 + 5) (((120 * x2) + x3)))) + (V (p0 + 6) x2))))) + (V (p0 + 6) x3)))))) 1))
        exact wp_wk (wk_s (wk_s (wk_s (wk_s wk_0)))) w
      · have q : (V (p0 + 9) (((120 * x1) + x3))) = 0 := Decidable.not_not.mp q
        replace w := w.2 q
        show wpv K_X8_derived d P 52 [some (4, (p0 : Int)), some (0, x1), some (0, x2), some (0, x3)] [] G R V
        refine wp_go 109 rfl rfl rfl (?_ : wpv K_X8_derived d P 109 [some (4, (p0 : Int)), some (0, x1), some (0, x2), some (0, x3)] [] G R V)
        obtain ⟨s34, w⟩ := w
        refine wp_inc (x := 3) (k := 1) (a := x3) (c := (x3 + 1)) _ rfl rfl rfl rfl s34 (by omega) rfl ?_
        show wpv K_X8_derived d P 112 [some (4, (p0 : Int)), some (0, x1), some (0, x2), some (0, (x3 + 1))] [] G R V
        refine wp_go 16 rfl rfl rfl (?_ : wpv K_X8_derived d P 16 [some (4, (p0 : Int)), some (0, x1), some (0, x2), some (0, (x3 + 1))] [] G R V)
        exact wp_wk (wk_s (wk_s (wk_s (wk_s wk_0)))) w
theorem t_X8_isQuiet_0 {d : Nat} {P : gP} {p0 : Nat} {x1 : Int} {G : List gS} {R V : gV} (l0 : lay8 G R p0) (w : wpv K_X8_isQuiet d P 4 [some (4, (p0 : Int)), some (0, x1), some (0, 1), some (0, 0)] [] G R V) : wpv K_X8_isQuiet d P 0 [some (4, (p0 : Int)), some (0, x1)] [] G R V := by
  refine wp_p (i := (.iconst 1)) rfl rfl (fun _ _ _ => rfl) (?_ : wpv K_X8_isQuiet d P 1 [some (4, (p0 : Int)), some (0, x1)] [(0, 1)] G R V)
  refine wp_sto (i := (.istore_n 2)) _ rfl rfl (fun _ => rfl) rfl rfl rfl ?_
  refine wp_wk (L' := [some (4, (p0 : Int)), some (0, x1), some (0, 1)]) (wk_s (wk_s (wk_s wk_0))) ?_
  show wpv K_X8_isQuiet d P 2 [some (4, (p0 : Int)), some (0, x1), some (0, 1)] [] G R V
  refine wp_p (i := (.iconst 0)) rfl rfl (fun _ _ _ => rfl) (?_ : wpv K_X8_isQuiet d P 3 [some (4, (p0 : Int)), some (0, x1), some (0, 1)] [(0, 0)] G R V)
  refine wp_sto (i := (.istore_n 3)) _ rfl rfl (fun _ => rfl) rfl rfl rfl ?_
  refine wp_wk (L' := [some (4, (p0 : Int)), some (0, x1), some (0, 1), some (0, 0)]) (wk_s (wk_s (wk_s (wk_s wk_0)))) ?_
  show wpv K_X8_isQuiet d P 4 [some (4, (p0 : Int)), some (0, x1), some (0, 1), some (0, 0)] [] G R V
  exact wp_wk (wk_s (wk_s (wk_s (wk_s wk_0)))) w

theorem t_X8_isQuiet_4 {d : Nat} {P : gP} {p0 : Nat} {x1 : Int} {x2 : Int} {x3 : Int} {G : List gS} {R V : gV} (l0 : lay8 G R p0) (w : ((i32 (V p0 5)) → ((i32 x3) ∧ (((¬ x3 < (V p0 5)) → ((x2 = 0 ∨ x2 = 1) ∧ P (some (0, x2)) V)) ∧ ((x3 < (V p0 5)) → wpv K_X8_isQuiet d P 15 [some (4, (p0 : Int)), some (0, x1), some (0, x2), some (0, x3), some (0, 0)] [] G R V))))) : wpv K_X8_isQuiet d P 4 [some (4, (p0 : Int)), some (0, x1), some (0, x2), some (0, x3)] [] G R V := by
  refine wp_ld (i := (.iload_n 3)) (0, x3) rfl rfl (fun _ => rfl) rfl rfl (?_ : wpv K_X8_isQuiet d P 5 [some (4, (p0 : Int)), some (0, x1), some (0, x2), some (0, x3)] [(0, x3)] G R V)
  refine wp_ld (i := (.aload_n 0)) (4, (p0 : Int)) rfl rfl (fun _ => rfl) rfl rfl (?_ : wpv K_X8_isQuiet d P 6 [some (4, (p0 : Int)), some (0, x1), some (0, x2), some (0, x3)] [(4, (p0 : Int)), (0, x3)] G R V)
  refine wp_rng (fun vr1 => ?_)
  have f2 : i32 (V p0 5) := vr_f0 vr1 (ly8_o l0) rfl rfl
  replace w := w f2
  refine wp_getI (k := 5) rfl rfl rfl (ly8_o l0) rfl rfl (?_ : wpv K_X8_isQuiet d P 9 [some (4, (p0 : Int)), some (0, x1), some (0, x2), some (0, x3)] [(0, (V p0 5)), (0, x3)] G R V)
  obtain ⟨s3, w⟩ := w
  refine wp_icmp (c := .ge) 102 rfl rfl rfl s3 f2 (fun q => ?_) (fun q => ?_)
  · have q : ¬ x3 < (V p0 5) := q
    replace w := w.1 q
    show wpv K_X8_isQuiet d P 102 [some (4, (p0 : Int)), some (0, x1), some (0, x2), some (0, x3)] [] G R V
    refine wp_ld (i := (.iload_n 2)) (0, x2) rfl rfl (fun _ => rfl) rfl rfl (?_ : wpv K_X8_isQuiet d P 103 [some (4, (p0 : Int)), some (0, x1), some (0, x2), some (0, x3)] [(0, x2)] G R V)
    obtain ⟨s4, w⟩ := w
    exact wp_rB rfl rfl rfl s4 w
  · have q : x3 < (V p0 5) := Decidable.not_not.mp q
    replace w := w.2 q
    show wpv K_X8_isQuiet d P 12 [some (4, (p0 : Int)), some (0, x1), some (0, x2), some (0, x3)] [] G R V
    refine wp_p (i := (.iconst 0)) rfl rfl (fun _ _ _ => rfl) (?_ : wpv K_X8_isQuiet d P 13 [some (4, (p0 : Int)), some (0, x1), some (0, x2), some (0, x3)] [(0, 0)] G R V)
    refine wp_sto (i := (.istore 4)) _ rfl rfl (fun _ => rfl) rfl rfl rfl ?_
    refine wp_wk (L' := [some (4, (p0 : Int)), some (0, x1), some (0, x2), some (0, x3), some (0, 0)]) (wk_s (wk_s (wk_s (wk_s (wk_s wk_0))))) ?_
    show wpv K_X8_isQuiet d P 15 [some (4, (p0 : Int)), some (0, x1), some (0, x2), some (0, x3), some (0, 0)] [] G R V
    exact wp_wk (wk_s (wk_s (wk_s (wk_s (wk_s wk_0))))) w

theorem t_X8_isQuiet_15 {d : Nat} {P : gP} {p0 : Nat} {x1 : Int} {x2 : Int} {x3 : Int} {x4 : Int} {G : List gS} {R V : gV} (l0 : lay8 G R p0) (w : ((i32 (V p0 5)) → ((i32 x4) ∧ (((¬ x4 < (V p0 5)) → ((i32 (x3 + 1)) ∧ wpv K_X8_isQuiet d P 4 [some (4, (p0 : Int)), some (0, x1), some (0, x2), some (0, (x3 + 1))] [] G R V)) ∧ ((x4 < (V p0 5)) → ((i32 x2) ∧ (((x2 = 0) → ((i32 (x4 + 1)) ∧ wpv K_X8_isQuiet d P 15 [some (4, (p0 : Int)), some (0, x1), some (0, 0), some (0, x3), some (0, (x4 + 1))] [] G R V)) ∧ ((¬ x2 = 0) → ((i32 (120 * x1)) ∧ ((i32 ((120 * x1) + x3)) ∧ ((0 ≤ ((120 * x1) + x3) ∧ ((120 * x1) + x3) < 36120) ∧ (((V (p0 + 9) (((120 * x1) + x3))) = 0 ∨ (V (p0 + 9) (((120 * x1) + x3))) = 1) → ((((V (p0 + 9) (((120 * x1) + x3))) = 0) → ((i32 (x4 + 1)) ∧ wpv K_X8_isQuiet d P 15 [some (4, (p0 : Int)), some (0, x1), some (0, 1), some (0, x3), some (0, (x4 + 1))] [] G R V)) ∧ ((¬ (V (p0 + 9) (((120 * x1) + x3))) = 0) → ((i32 ((120 * x1) + x4)) ∧ ((0 ≤ ((120 * x1) + x4) ∧ ((120 * x1) + x4) < 36120) ∧ (((V (p0 + 9) (((120 * x1) + x4))) = 0 ∨ (V (p0 + 9) (((120 * x1) + x4))) = 1) → ((((V (p0 + 9) (((120 * x1) + x4))) = 0) → ((i32 (x4 + 1)) ∧ wpv K_X8_isQuiet d P 15 [some (4, (p0 : Int)), some (0, x1), some (0, 1), some (0, x3), some (0, (x4 + 1))] [] G R V)) ∧ ((¬ (V (p0 + 9) (((120 * x1) + x4))) = 0) → ((i32 (120 * x3)) ∧ ((i32 ((120 * x3) + x4)) ∧ ((0 ≤ ((120 * x3) + x4) ∧ ((120 * x3) + x4) < 14400) ∧ ((i32 (V (p0 + 5) (((120 * x3) + x4)))) → ((i32 (120 * x4)) ∧ ((i32 ((120 * x4) + x3)) ∧ ((0 ≤ ((120 * x4) + x3) ∧ ((120 * x4) + x3) < 14400) ∧ ((i32 (V (p0 + 5) (((120 * x4) + x3)))) → (((¬ (V (p0 + 5) (((120 * x3) + x4))) = (V (p0 + 5) (((120 * x4) + x3)))) → ((i32 (x4 + 1)) ∧ wpv K_X8_isQuiet d P 15 [some (4, (p0 : Int)), some (0, x1), some (0, 0), some (0, x3), some (0, (x4 + 1))] [] G R V)) ∧ (((V (p0 + 5) (((120 * x3) + x4))) = (V (p0 + 5) (((120 * x4) + x3)))) → ((i32 (x4 + 1)) ∧ wpv K_X8_isQuiet d P 15 [some (4, (p0 : Int)), some (0, x1), some (0, 1), some (0, x3), some (0, (x4 + 1))] [] G R V)))))))))))))))))))))))))))))) : wpv K_X8_isQuiet d P 15 [some (4, (p0 : Int)), some (0, x1), some (0, x2), some (0, x3), some (0, x4)] [] G R V := by
  refine wp_ld (i := (.iload 4)) (0, x4) rfl rfl (fun _ => rfl) rfl rfl (?_ : wpv K_X8_isQuiet d P 17 [some (4, (p0 : Int)), some (0, x1), some (0, x2), some (0, x3), some (0, x4)] [(0, x4)] G R V)
  refine wp_ld (i := (.aload_n 0)) (4, (p0 : Int)) rfl rfl (fun _ => rfl) rfl rfl (?_ : wpv K_X8_isQuiet d P 18 [some (4, (p0 : Int)), some (0, x1), some (0, x2), some (0, x3), some (0, x4)] [(4, (p0 : Int)), (0, x4)] G R V)
  refine wp_rng (fun vr1 => ?_)
  have f2 : i32 (V p0 5) := vr_f0 vr1 (ly8_o l0) rfl rfl
  replace w := w f2
  refine wp_getI (k := 5) rfl rfl rfl (ly8_o l0) rfl rfl (?_ : wpv K_X8_isQuiet d P 21 [some (4, (p0 : Int)), some (0, x1), some (0, x2), some (0, x3), some (0, x4)] [(0, (V p0 5)), (0, x4)] G R V)
  obtain ⟨s3, w⟩ := w
  refine wp_icmp (c := .ge) 96 rfl rfl rfl s3 f2 (fun q => ?_) (fun q => ?_)
  · have q : ¬ x4 < (V p0 5) := q
    replace w := w.1 q
    show wpv K_X8_isQuiet d P 96 [some (4, (p0 : Int)), some (0, x1), some (0, x2), some (0, x3), some (0, x4)] [] G R V
    obtain ⟨s4, w⟩ := w
    refine wp_inc (x := 3) (k := 1) (a := x3) (c := (x3 + 1)) _ rfl rfl rfl rfl s4 (by omega) rfl ?_
    show wpv K_X8_isQuiet d P 99 [some (4, (p0 : Int)), some (0, x1), some (0, x2), some (0, (x3 + 1)), some (0, x4)] [] G R V
    refine wp_go 4 rfl rfl rfl (?_ : wpv K_X8_isQuiet d P 4 [some (4, (p0 : Int)), some (0, x1), some (0, x2), some (0, (x3 + 1)), some (0, x4)] [] G R V)
    exact wp_wk (wk_s (wk_s (wk_s (wk_s wk_0)))) w
  · have q : x4 < (V p0 5) := Decidable.not_not.mp q
    replace w := w.2 q
    show wpv K_X8_isQuiet d P 24 [some (4, (p0 : Int)), some (0, x1), some (0, x2), some (0, x3), some (0, x4)] [] G R V
    refine wp_ld (i := (.iload_n 2)) (0, x2) rfl rfl (fun _ => rfl) rfl rfl (?_ : wpv K_X8_isQuiet d P 25 [some (4, (p0 : Int)), some (0, x1), some (0, x2), some (0, x3), some (0, x4)] [(0, x2)] G R V)
    obtain ⟨s5, w⟩ := w
    refine wp_if (c := .eq) 88 rfl rfl rfl s5 (fun q => ?_) (fun q => ?_)
    · have q : x2 = 0 := q
      replace w := w.1 q
      show wpv K_X8_isQuiet d P 88 [some (4, (p0 : Int)), some (0, x1), some (0, x2), some (0, x3), some (0, x4)] [] G R V
      refine wp_p (i := (.iconst 0)) rfl rfl (fun _ _ _ => rfl) (?_ : wpv K_X8_isQuiet d P 89 [some (4, (p0 : Int)), some (0, x1), some (0, x2), some (0, x3), some (0, x4)] [(0, 0)] G R V)
      refine wp_sto (i := (.istore_n 2)) _ rfl rfl (fun _ => rfl) rfl rfl rfl ?_
      refine wp_wk (L' := [some (4, (p0 : Int)), some (0, x1), some (0, 0), some (0, x3), some (0, x4)]) (wk_s (wk_s (wk_s (wk_s (wk_s wk_0))))) ?_
      show wpv K_X8_isQuiet d P 90 [some (4, (p0 : Int)), some (0, x1), some (0, 0), some (0, x3), some (0, x4)] [] G R V
      obtain ⟨s6, w⟩ := w
      refine wp_inc (x := 4) (k := 1) (a := x4) (c := (x4 + 1)) _ rfl rfl rfl rfl s6 (by omega) rfl ?_
      show wpv K_X8_isQuiet d P 93 [some (4, (p0 : Int)), some (0, x1), some (0, 0), some (0, x3), some (0, (x4 + 1))] [] G R V
      refine wp_go 15 rfl rfl rfl (?_ : wpv K_X8_isQuiet d P 15 [some (4, (p0 : Int)), some (0, x1), some (0, 0), some (0, x3), some (0, (x4 + 1))] [] G R V)
      exact wp_wk (wk_s (wk_s (wk_s (wk_s (wk_s wk_0))))) w
    · have q : ¬ x2 = 0 := q
      replace w := w.2 q
      show wpv K_X8_isQuiet d P 28 [some (4, (p0 : Int)), some (0, x1), some (0, x2), some (0, x3), some (0, x4)] [] G R V
      refine wp_ld (i := (.aload_n 0)) (4, (p0 : Int)) rfl rfl (fun _ => rfl) rfl rfl (?_ : wpv K_X8_isQuiet d P 29 [some (4, (p0 : Int)), some (0, x1), some (0, x2), some (0, x3), some (0, x4)] [(4, (p0 : Int))] G R V)
      refine wp_getA (k := 14) rfl rfl rfl (ly8_o l0) rfl rfl (ly8_14 l0).1 (?_ : wpv K_X8_isQuiet d P 32 [some (4, (p0 : Int)), some (0, x1), some (0, x2), some (0, x3), some (0, x4)] [(4, ((p0 + 9 : Nat) : Int))] G R V)
      refine wp_p (i := (.bipush 120)) rfl rfl (fun _ _ _ => rfl) (?_ : wpv K_X8_isQuiet d P 34 [some (4, (p0 : Int)), some (0, x1), some (0, x2), some (0, x3), some (0, x4)] [(0, 120), (4, ((p0 + 9 : Nat) : Int))] G R V)
      refine wp_ld (i := (.iload_n 1)) (0, x1) rfl rfl (fun _ => rfl) rfl rfl (?_ : wpv K_X8_isQuiet d P 35 [some (4, (p0 : Int)), some (0, x1), some (0, x2), some (0, x3), some (0, x4)] [(0, x1), (0, 120), (4, ((p0 + 9 : Nat) : Int))] G R V)
      obtain ⟨s7, w⟩ := w
      refine wp_xmul rfl rfl s7 (?_ : wpv K_X8_isQuiet d P 36 [some (4, (p0 : Int)), some (0, x1), some (0, x2), some (0, x3), some (0, x4)] [(0, (120 * x1)), (4, ((p0 + 9 : Nat) : Int))] G R V)
      refine wp_ld (i := (.iload_n 3)) (0, x3) rfl rfl (fun _ => rfl) rfl rfl (?_ : wpv K_X8_isQuiet d P 37 [some (4, (p0 : Int)), some (0, x1), some (0, x2), some (0, x3), some (0, x4)] [(0, x3), (0, (120 * x1)), (4, ((p0 + 9 : Nat) : Int))] G R V)
      obtain ⟨s8, w⟩ := w
      refine wp_xadd rfl rfl s8 (?_ : wpv K_X8_isQuiet d P 38 [some (4, (p0 : Int)), some (0, x1), some (0, x2), some (0, x3), some (0, x4)] [(0, ((120 * x1) + x3)), (4, ((p0 + 9 : Nat) : Int))] G R V)
      obtain ⟨s9, w⟩ := w
      have f10 : (V (p0 + 9) (((120 * x1) + x3))) = 0 ∨ (V (p0 + 9) (((120 * x1) + x3))) = 1 := vr_a2 vr1 (ly8_14 l0).2 s9
      replace w := w f10
      have f11 : i32 (V (p0 + 9) (((120 * x1) + x3))) := by unfold i32; omega
      refine wp_aB rfl rfl (ly8_14 l0).2 s9 (?_ : wpv K_X8_isQuiet d P 39 [some (4, (p0 : Int)), some (0, x1), some (0, x2), some (0, x3), some (0, x4)] [(0, (V (p0 + 9) (((120 * x1) + x3))))] G R V)
      refine wp_if (c := .eq) 84 rfl rfl rfl f11 (fun q => ?_) (fun q => ?_)
      · have q : (V (p0 + 9) (((120 * x1) + x3))) = 0 := q
        replace w := w.1 q
        show wpv K_X8_isQuiet d P 84 [some (4, (p0 : Int)), some (0, x1), some (0, x2), some (0, x3), some (0, x4)] [] G R V
        refine wp_p (i := (.iconst 1)) rfl rfl (fun _ _ _ => rfl) (?_ : wpv K_X8_isQuiet d P 85 [some (4, (p0 : Int)), some (0, x1), some (0, x2), some (0, x3), some (0, x4)] [(0, 1)] G R V)
        refine wp_go 89 rfl rfl rfl (?_ : wpv K_X8_isQuiet d P 89 [some (4, (p0 : Int)), some (0, x1), some (0, x2), some (0, x3), some (0, x4)] [(0, 1)] G R V)
        refine wp_sto (i := (.istore_n 2)) _ rfl rfl (fun _ => rfl) rfl rfl rfl ?_
        refine wp_wk (L' := [some (4, (p0 : Int)), some (0, x1), some (0, 1), some (0, x3), some (0, x4)]) (wk_s (wk_s (wk_s (wk_s (wk_s wk_0))))) ?_
        show wpv K_X8_isQuiet d P 90 [some (4, (p0 : Int)), some (0, x1), some (0, 1), some (0, x3), some (0, x4)] [] G R V
        obtain ⟨s12, w⟩ := w
        refine wp_inc (x := 4) (k := 1) (a := x4) (c := (x4 + 1)) _ rfl rfl rfl rfl s12 (by omega) rfl ?_
        show wpv K_X8_isQuiet d P 93 [some (4, (p0 : Int)), some (0, x1), some (0, 1), some (0, x3), some (0, (x4 + 1))] [] G R V
        refine wp_go 15 rfl rfl rfl (?_ : wpv K_X8_isQuiet d P 15 [some (4, (p0 : Int)), some (0, x1), some (0, 1), some (0, x3), some (0, (x4 + 1))] [] G R V)
        exact wp_wk (wk_s (wk_s (wk_s (wk_s (wk_s wk_0))))) w
      · have q : ¬ (V (p0 + 9) (((120 * x1) + x3))) = 0 := q
        replace w := w.2 q
        show wpv K_X8_isQuiet d P 42 [some (4, (p0 : Int)), some (0, x1), some (0, x2), some (0, x3), some (0, x4)] [] G R V
        refine wp_ld (i := (.aload_n 0)) (4, (p0 : Int)) rfl rfl (fun _ => rfl) rfl rfl (?_ : wpv K_X8_isQuiet d P 43 [some (4, (p0 : Int)), some (0, x1), some (0, x2), some (0, x3), some (0, x4)] [(4, (p0 : Int))] G R V)
        refine wp_getA (k := 14) rfl rfl rfl (ly8_o l0) rfl rfl (ly8_14 l0).1 (?_ : wpv K_X8_isQuiet d P 46 [some (4, (p0 : Int)), some (0, x1), some (0, x2), some (0, x3), some (0, x4)] [(4, ((p0 + 9 : Nat) : Int))] G R V)
        refine wp_p (i := (.bipush 120)) rfl rfl (fun _ _ _ => rfl) (?_ : wpv K_X8_isQuiet d P 48 [some (4, (p0 : Int)), some (0, x1), some (0, x2), some (0, x3), some (0, x4)] [(0, 120), (4, ((p0 + 9 : Nat) : Int))] G R V)
        refine wp_ld (i := (.iload_n 1)) (0, x1) rfl rfl (fun _ => rfl) rfl rfl (?_ : wpv K_X8_isQuiet d P 49 [some (4, (p0 : Int)), some (0, x1), some (0, x2), some (0, x3), some (0, x4)] [(0, x1), (0, 120), (4, ((p0 + 9 : Nat) : Int))] G R V)
        refine wp_xmul rfl rfl s7 (?_ : wpv K_X8_isQuiet d P 50 [some (4, (p0 : Int)), some (0, x1), some (0, x2), some (0, x3), some (0, x4)] [(0, (120 * x1)), (4, ((p0 + 9 : Nat) : Int))] G R V)
        refine wp_ld (i := (.iload 4)) (0, x4) rfl rfl (fun _ => rfl) rfl rfl (?_ : wpv K_X8_isQuiet d P 52 [some (4, (p0 : Int)), some (0, x1), some (0, x2), some (0, x3), some (0, x4)] [(0, x4), (0, (120 * x1)), (4, ((p0 + 9 : Nat) : Int))] G R V)
        obtain ⟨s13, w⟩ := w
        refine wp_xadd rfl rfl s13 (?_ : wpv K_X8_isQuiet d P 53 [some (4, (p0 : Int)), some (0, x1), some (0, x2), some (0, x3), some (0, x4)] [(0, ((120 * x1) + x4)), (4, ((p0 + 9 : Nat) : Int))] G R V)
        obtain ⟨s14, w⟩ := w
        have f15 : (V (p0 + 9) (((120 * x1) + x4))) = 0 ∨ (V (p0 + 9) (((120 * x1) + x4))) = 1 := vr_a2 vr1 (ly8_14 l0).2 s14
        replace w := w f15
        have f16 : i32 (V (p0 + 9) (((120 * x1) + x4))) := by unfold i32; omega
        refine wp_aB rfl rfl (ly8_14 l0).2 s14 (?_ : wpv K_X8_isQuiet d P 54 [some (4, (p0 : Int)), some (0, x1), some (0, x2), some (0, x3), some (0, x4)] [(0, (V (p0 + 9) (((120 * x1) + x4))))] G R V)
        refine wp_if (c := .eq) 84 rfl rfl rfl f16 (fun q => ?_) (fun q => ?_)
        · have q : (V (p0 + 9) (((120 * x1) + x4))) = 0 := q
          replace w := w.1 q
          show wpv K_X8_isQuiet d P 84 [some (4, (p0 : Int)), some (0, x1), some (0, x2), some (0, x3), some (0, x4)] [] G R V
          refine wp_p (i := (.iconst 1)) rfl rfl (fun _ _ _ => rfl) (?_ : wpv K_X8_isQuiet d P 85 [some (4, (p0 : Int)), some (0, x1), some (0, x2), some (0, x3), some (0, x4)] [(0, 1)] G R V)
          refine wp_go 89 rfl rfl rfl (?_ : wpv K_X8_isQuiet d P 89 [some (4, (p0 : Int)), some (0, x1), some (0, x2), some (0, x3), some (0, x4)] [(0, 1)] G R V)
          refine wp_sto (i := (.istore_n 2)) _ rfl rfl (fun _ => rfl) rfl rfl rfl ?_
          refine wp_wk (L' := [some (4, (p0 : Int)), some (0, x1), some (0, 1), some (0, x3), some (0, x4)]) (wk_s (wk_s (wk_s (wk_s (wk_s wk_0))))) ?_
          show wpv K_X8_isQuiet d P 90 [some (4, (p0 : Int)), some (0, x1), some (0, 1), some (0, x3), some (0, x4)] [] G R V
          obtain ⟨s17, w⟩ := w
          refine wp_inc (x := 4) (k := 1) (a := x4) (c := (x4 + 1)) _ rfl rfl rfl rfl s17 (by omega) rfl ?_
          show wpv K_X8_isQuiet d P 93 [some (4, (p0 : Int)), some (0, x1), some (0, 1), some (0, x3), some (0, (x4 + 1))] [] G R V
          refine wp_go 15 rfl rfl rfl (?_ : wpv K_X8_isQuiet d P 15 [some (4, (p0 : Int)), some (0, x1), some (0, 1), some (0, x3), some (0, (x4 + 1))] [] G R V)
          exact wp_wk (wk_s (wk_s (wk_s (wk_s (wk_s wk_0))))) w
        · have q : ¬ (V (p0 + 9) (((120 * x1) + x4))) = 0 := q
          replace w := w.2 q
          show wpv K_X8_isQuiet d P 57 [some (4, (p0 : Int)), some (0, x1), some (0, x2), some (0, x3), some (0, x4)] [] G R V
          refine wp_ld (i := (.aload_n 0)) (4, (p0 : Int)) rfl rfl (fun _ => rfl) rfl rfl (?_ : wpv K_X8_isQuiet d P 58 [some (4, (p0 : Int)), some (0, x1), some (0, x2), some (0, x3), some (0, x4)] [(4, (p0 : Int))] G R V)
          refine wp_getA (k := 7) rfl rfl rfl (ly8_o l0) rfl rfl (ly8_7 l0).1 (?_ : wpv K_X8_isQuiet d P 61 [some (4, (p0 : Int)), some (0, x1), some (0, x2), some (0, x3), some (0, x4)] [(4, ((p0 + 5 : Nat) : Int))] G R V)
          refine wp_p (i := (.bipush 120)) rfl rfl (fun _ _ _ => rfl) (?_ : wpv K_X8_isQuiet d P 63 [some (4, (p0 : Int)), some (0, x1), some (0, x2), some (0, x3), some (0, x4)] [(0, 120), (4, ((p0 + 5 : Nat) : Int))] G R V)
          refine wp_ld (i := (.iload_n 3)) (0, x3) rfl rfl (fun _ => rfl) rfl rfl (?_ : wpv K_X8_isQuiet d P 64 [some (4, (p0 : Int)), some (0, x1), some (0, x2), some (0, x3), some (0, x4)] [(0, x3), (0, 120), (4, ((p0 + 5 : Nat) : Int))] G R V)
          obtain ⟨s18, w⟩ := w
          refine wp_xmul rfl rfl s18 (?_ : wpv K_X8_isQuiet d P 65 [some (4, (p0 : Int)), some (0, x1), some (0, x2), some (0, x3), some (0, x4)] [(0, (120 * x3)), (4, ((p0 + 5 : Nat) : Int))] G R V)
          refine wp_ld (i := (.iload 4)) (0, x4) rfl rfl (fun _ => rfl) rfl rfl (?_ : wpv K_X8_isQuiet d P 67 [some (4, (p0 : Int)), some (0, x1), some (0, x2), some (0, x3), some (0, x4)] [(0, x4), (0, (120 * x3)), (4, ((p0 + 5 : Nat) : Int))] G R V)
          obtain ⟨s19, w⟩ := w
          refine wp_xadd rfl rfl s19 (?_ : wpv K_X8_isQuiet d P 68 [some (4, (p0 : Int)), some (0, x1), some (0, x2), some (0, x3), some (0, x4)] [(0, ((120 * x3) + x4)), (4, ((p0 + 5 : Nat) : Int))] G R V)
          obtain ⟨s20, w⟩ := w
          have f21 : i32 (V (p0 + 5) (((120 * x3) + x4))) := vr_a0 vr1 (ly8_7 l0).2 s20
          replace w := w f21
          refine wp_aI rfl rfl (ly8_7 l0).2 s20 (?_ : wpv K_X8_isQuiet d P 69 [some (4, (p0 : Int)), some (0, x1), some (0, x2), some (0, x3), some (0, x4)] [(0, (V (p0 + 5) (((120 * x3) + x4))))] G R V)
          refine wp_ld (i := (.aload_n 0)) (4, (p0 : Int)) rfl rfl (fun _ => rfl) rfl rfl (?_ : wpv K_X8_isQuiet d P 70 [some (4, (p0 : Int)), some (0, x1), some (0, x2), some (0, x3), some (0, x4)] [(4, (p0 : Int)), (0, (V (p0 + 5) (((120 * x3) + x4))))] G R V)
          refine wp_getA (k := 7) rfl rfl rfl (ly8_o l0) rfl rfl (ly8_7 l0).1 (?_ : wpv K_X8_isQuiet d P 73 [some (4, (p0 : Int)), some (0, x1), some (0, x2), some (0, x3), some (0, x4)] [(4, ((p0 + 5 : Nat) : Int)), (0, (V (p0 + 5) (((120 * x3) + x4))))] G R V)
          refine wp_p (i := (.bipush 120)) rfl rfl (fun _ _ _ => rfl) (?_ : wpv K_X8_isQuiet d P 75 [some (4, (p0 : Int)), some (0, x1), some (0, x2), some (0, x3), some (0, x4)] [(0, 120), (4, ((p0 + 5 : Nat) : Int)), (0, (V (p0 + 5) (((120 * x3) + x4))))] G R V)
          refine wp_ld (i := (.iload 4)) (0, x4) rfl rfl (fun _ => rfl) rfl rfl (?_ : wpv K_X8_isQuiet d P 77 [some (4, (p0 : Int)), some (0, x1), some (0, x2), some (0, x3), some (0, x4)] [(0, x4), (0, 120), (4, ((p0 + 5 : Nat) : Int)), (0, (V (p0 + 5) (((120 * x3) + x4))))] G R V)
          obtain ⟨s22, w⟩ := w
          refine wp_xmul rfl rfl s22 (?_ : wpv K_X8_isQuiet d P 78 [some (4, (p0 : Int)), some (0, x1), some (0, x2), some (0, x3), some (0, x4)] [(0, (120 * x4)), (4, ((p0 + 5 : Nat) : Int)), (0, (V (p0 + 5) (((120 * x3) + x4))))] G R V)
          refine wp_ld (i := (.iload_n 3)) (0, x3) rfl rfl (fun _ => rfl) rfl rfl (?_ : wpv K_X8_isQuiet d P 79 [some (4, (p0 : Int)), some (0, x1), some (0, x2), some (0, x3), some (0, x4)] [(0, x3), (0, (120 * x4)), (4, ((p0 + 5 : Nat) : Int)), (0, (V (p0 + 5) (((120 * x3) + x4))))] G R V)
          obtain ⟨s23, w⟩ := w
          refine wp_xadd rfl rfl s23 (?_ : wpv K_X8_isQuiet d P 80 [some (4, (p0 : Int)), some (0, x1), some (0, x2), some (0, x3), some (0, x4)] [(0, ((120 * x4) + x3)), (4, ((p0 + 5 : Nat) : Int)), (0, (V (p0 + 5) (((120 * x3) + x4))))] G R V)
          obtain ⟨s24, w⟩ := w
          have f25 : i32 (V (p0 + 5) (((120 * x4) + x3))) := vr_a0 vr1 (ly8_7 l0).2 s24
          replace w := w f25
          refine wp_aI rfl rfl (ly8_7 l0).2 s24 (?_ : wpv K_X8_isQuiet d P 81 [some (4, (p0 : Int)), some (0, x1), some (0, x2), some (0, x3), some (0, x4)] [(0, (V (p0 + 5) (((120 * x4) + x3)))), (0, (V (p0 + 5) (((120 * x3) + x4))))] G R V)
          refine wp_icmp (c := .ne) 88 rfl rfl rfl f21 f25 (fun q => ?_) (fun q => ?_)
          · have q : ¬ (V (p0 + 5) (((120 * x3) + x4))) = (V (p0 + 5) (((120 * x4) + x3))) := q
            replace w := w.1 q
            show wpv K_X8_isQuiet d P 88 [some (4, (p0 : Int)), some (0, x1), some (0, x2), some (0, x3), some (0, x4)] [] G R V
            refine wp_p (i := (.iconst 0)) rfl rfl (fun _ _ _ => rfl) (?_ : wpv K_X8_isQuiet d P 89 [some (4, (p0 : Int)), some (0, x1), some (0, x2), some (0, x3), some (0, x4)] [(0, 0)] G R V)
            refine wp_sto (i := (.istore_n 2)) _ rfl rfl (fun _ => rfl) rfl rfl rfl ?_
            refine wp_wk (L' := [some (4, (p0 : Int)), some (0, x1), some (0, 0), some (0, x3), some (0, x4)]) (wk_s (wk_s (wk_s (wk_s (wk_s wk_0))))) ?_
            show wpv K_X8_isQuiet d P 90 [some (4, (p0 : Int)), some (0, x1), some (0, 0), some (0, x3), some (0, x4)] [] G R V
            obtain ⟨s26, w⟩ := w
            refine wp_inc (x := 4) (k := 1) (a := x4) (c := (x4 + 1)) _ rfl rfl rfl rfl s26 (by omega) rfl ?_
            show wpv K_X8_isQuiet d P 93 [some (4, (p0 : Int)), some (0, x1), some (0, 0), some (0, x3), some (0, (x4 + 1))] [] G R V
            refine wp_go 15 rfl rfl rfl (?_ : wpv K_X8_isQuiet d P 15 [some (4, (p0 : Int)), some (0, x1), some (0, 0), some (0, x3), some (0, (x4 + 1))] [] G R V)
            exact wp_wk (wk_s (wk_s (wk_s (wk_s (wk_s wk_0))))) w
          · have q : (V (p0 + 5) (((120 * x3) + x4))) = (V (p0 + 5) (((120 * x4) + x3))) := Decidable.not_not.mp q
            replace w := w.2 q
            show wpv K_X8_isQuiet d P 84 [some (4, (p0 : Int)), some (0, x1), some (0, x2), some (0, x3), some (0, x4)] [] G R V
            refine wp_p (i := (.iconst 1)) rfl rfl (fun _ _ _ => rfl) (?_ : wpv K_X8_isQuiet d P 85 [some (4, (p0 : Int)), some (0, x1), some (0, x2), some (0, x3), some (0, x4)] [(0, 1)] G R V)
            refine wp_go 89 rfl rfl rfl (?_ : wpv K_X8_isQuiet d P 89 [some (4, (p0 : Int)), some (0, x1), some (0, x2), some (0, x3), some (0, x4)] [(0, 1)] G R V)
            refine wp_sto (i := (.istore_n 2)) _ rfl rfl (fun _ => rfl) rfl rfl rfl ?_
            refine wp_wk (L' := [some (4, (p0 : Int)), some (0, x1), some (0, 1), some (0, x3), some (0, x4)]) (wk_s (wk_s (wk_s (wk_s (wk_s wk_0))))) ?_
            show wpv K_X8_isQuiet d P 90 [some (4, (p0 : Int)), some (0, x1), some (0, 1), some (0, x3), some (0, x4)] [] G R V
            obtain ⟨s27, w⟩ := w
            refine wp_inc (x := 4) (k := 1) (a := x4) (c := (x4 + 1)) _ rfl rfl rfl rfl s27 (by omega) rfl ?_
            show wpv K_X8_isQuiet d P 93 [some (4, (p0 : Int)), some (0, x1), some (0, 1), some (0, x3), some (0, (x4 + 1))] [] G R V
            refine wp_go 15 rfl rfl rfl (?_ : wpv K_X8_isQuiet d P 15 [some (4, (p0 : Int)), some (0, x1), some (0, 1), some (0, x3), some (0, (x4 + 1))] [] G R V)
            exact wp_wk (wk_s (wk_s (wk_s (wk_s (wk_s wk_0))))) w
theorem t_X8_isNormal_0 {d : Nat} {P : gP} {p0 : Nat} {x1 : Int} {G : List gS} {R V : gV} (l0 : lay8 G R p0) (w : ((0 ≤ x1 ∧ x1 < 300) ∧ ((i32 (V (p0 + 14) x1)) → ((0 ≤ (V (p0 + 14) x1) ∧ (V (p0 + 14) x1) < 300) ∧ ((i32 (V (p0 + 16) ((V (p0 + 14) x1)))) → (((¬ (V (p0 + 16) ((V (p0 + 14) x1))) = 1) → P (some (0, 0)) V) ∧ (((V (p0 + 16) ((V (p0 + 14) x1))) = 1) → P (some (0, 1)) V))))))) : wpv K_X8_isNormal d P 0 [some (4, (p0 : Int)), some (0, x1)] [] G R V := by
  refine wp_ld (i := (.aload_n 0)) (4, (p0 : Int)) rfl rfl (fun _ => rfl) rfl rfl (?_ : wpv K_X8_isNormal d P 1 [some (4, (p0 : Int)), some (0, x1)] [(4, (p0 : Int))] G R V)
  refine wp_getA (k := 21) rfl rfl rfl (ly8_o l0) rfl rfl (ly8_21 l0).1 (?_ : wpv K_X8_isNormal d P 4 [some (4, (p0 : Int)), some (0, x1)] [(4, ((p0 + 16 : Nat) : Int))] G R V)
  refine wp_ld (i := (.aload_n 0)) (4, (p0 : Int)) rfl rfl (fun _ => rfl) rfl rfl (?_ : wpv K_X8_isNormal d P 5 [some (4, (p0 : Int)), some (0, x1)] [(4, (p0 : Int)), (4, ((p0 + 16 : Nat) : Int))] G R V)
  refine wp_getA (k := 19) rfl rfl rfl (ly8_o l0) rfl rfl (ly8_19 l0).1 (?_ : wpv K_X8_isNormal d P 8 [some (4, (p0 : Int)), some (0, x1)] [(4, ((p0 + 14 : Nat) : Int)), (4, ((p0 + 16 : Nat) : Int))] G R V)
  refine wp_ld (i := (.iload_n 1)) (0, x1) rfl rfl (fun _ => rfl) rfl rfl (?_ : wpv K_X8_isNormal d P 9 [some (4, (p0 : Int)), some (0, x1)] [(0, x1), (4, ((p0 + 14 : Nat) : Int)), (4, ((p0 + 16 : Nat) : Int))] G R V)
  obtain ⟨s1, w⟩ := w
  refine wp_rng (fun vr2 => ?_)
  have f3 : i32 (V (p0 + 14) x1) := vr_a0 vr2 (ly8_19 l0).2 s1
  replace w := w f3
  refine wp_aI rfl rfl (ly8_19 l0).2 s1 (?_ : wpv K_X8_isNormal d P 10 [some (4, (p0 : Int)), some (0, x1)] [(0, (V (p0 + 14) x1)), (4, ((p0 + 16 : Nat) : Int))] G R V)
  obtain ⟨s4, w⟩ := w
  have f5 : i32 (V (p0 + 16) ((V (p0 + 14) x1))) := vr_a0 vr2 (ly8_21 l0).2 s4
  replace w := w f5
  refine wp_aI rfl rfl (ly8_21 l0).2 s4 (?_ : wpv K_X8_isNormal d P 11 [some (4, (p0 : Int)), some (0, x1)] [(0, (V (p0 + 16) ((V (p0 + 14) x1))))] G R V)
  refine wp_p (i := (.iconst 1)) rfl rfl (fun _ _ _ => rfl) (?_ : wpv K_X8_isNormal d P 12 [some (4, (p0 : Int)), some (0, x1)] [(0, 1), (0, (V (p0 + 16) ((V (p0 + 14) x1))))] G R V)
  refine wp_icmp (c := .ne) 19 rfl rfl rfl f5 ⟨by omega, by omega⟩ (fun q => ?_) (fun q => ?_)
  · have q : ¬ (V (p0 + 16) ((V (p0 + 14) x1))) = 1 := q
    replace w := w.1 q
    show wpv K_X8_isNormal d P 19 [some (4, (p0 : Int)), some (0, x1)] [] G R V
    refine wp_p (i := (.iconst 0)) rfl rfl (fun _ _ _ => rfl) (?_ : wpv K_X8_isNormal d P 20 [some (4, (p0 : Int)), some (0, x1)] [(0, 0)] G R V)
    exact wp_rB rfl rfl rfl (by omega) w
  · have q : (V (p0 + 16) ((V (p0 + 14) x1))) = 1 := Decidable.not_not.mp q
    replace w := w.2 q
    show wpv K_X8_isNormal d P 15 [some (4, (p0 : Int)), some (0, x1)] [] G R V
    refine wp_p (i := (.iconst 1)) rfl rfl (fun _ _ _ => rfl) (?_ : wpv K_X8_isNormal d P 16 [some (4, (p0 : Int)), some (0, x1)] [(0, 1)] G R V)
    refine wp_go 20 rfl rfl rfl (?_ : wpv K_X8_isNormal d P 20 [some (4, (p0 : Int)), some (0, x1)] [(0, 1)] G R V)
    exact wp_rB rfl rfl rfl (by omega) w
theorem t_X8_heap_0 {d : Nat} {P : gP} {p0 : Nat} {x1 : Int} {x2 : Int} {G : List gS} {R V : gV} (l0 : lay8 G R p0) (w : cwv d (fun r V1 => ∃ v2 : Int, r = some (0, v2) ∧ ((i32 v2) ∧ (((¬ v2 = 0) → ((i32 x2) ∧ (((x2 < 0 ∨ 9 < x2) → P (some (0, (-1000000))) V1) ∧ ((x2 = 0) → ((0 ≤ x1 ∧ x1 < 301) ∧ ((i32 (V1 (p0 + 10) x1)) → P (some (0, (V1 (p0 + 10) x1))) V1))) ∧ ((x2 = 1) → ((0 ≤ x1 ∧ x1 < 300) ∧ ((i32 (V1 (p0 + 14) x1)) → P (some (0, (V1 (p0 + 14) x1))) V1))) ∧ ((x2 = 2) → cwv d (fun r V11 => ∃ v12 : Int, r = some (0, v12) ∧ ((i32 v12) ∧ (((v12 = 0) → P (some (0, 0)) V11) ∧ ((¬ v12 = 0) → P (some (0, 1)) V11)))) 198 [(4, (p0 : Int)), (0, x1)] G R V1) ∧ ((x2 = 3) → cwv d (fun r V14 => ∃ v15 : Int, r = some (0, v15) ∧ P (some (0, v15)) V14) 194 [(4, (p0 : Int)), (0, x1)] G R V1) ∧ ((x2 = 4) → cwv d (fun r V16 => ∃ v17 : Int, r = some (0, v17) ∧ P (some (0, v17)) V16) 195 [(4, (p0 : Int)), (0, x1)] G R V1) ∧ ((x2 = 5) → cwv d (fun r V18 => ∃ v19 : Int, r = some (0, v19) ∧ P (some (0, v19)) V18) 196 [(4, (p0 : Int)), (0, x1)] G R V1) ∧ ((x2 = 6) → ((0 ≤ x1 ∧ x1 < 300) ∧ ((i64 (V1 (p0 + 17) x1)) → P (some (0, (kl2i ((V1 (p0 + 17) x1))))) V1))) ∧ ((x2 = 7) → cwv d (fun r V23 => ∃ v24 : Int, r = some (0, v24) ∧ ((i32 v24) ∧ (((v24 = 0) → P (some (0, 0)) V23) ∧ ((¬ v24 = 0) → P (some (0, 1)) V23)))) 197 [(4, (p0 : Int)), (0, x1)] G R V1) ∧ ((x2 = 8) → wpv K_X8_heap d P 139 [some (4, (p0 : Int)), some (0, x1), none, some (0, 0), some (0, 0)] [] G R V1) ∧ ((x2 = 9) → wpv K_X8_heap d P 177 [some (4, (p0 : Int)), some (0, x1), none, some (0, 0), some (0, 0)] [] G R V1)))) ∧ ((v2 = 0) → P (some (0, (-1000000))) V1)))) 184 [(4, (p0 : Int)), (0, x1)] G R V) : wpv K_X8_heap d P 0 [some (4, (p0 : Int)), some (0, x1), some (0, x2)] [] G R V := by
  refine wp_ld (i := (.aload_n 0)) (4, (p0 : Int)) rfl rfl (fun _ => rfl) rfl rfl (?_ : wpv K_X8_heap d P 1 [some (4, (p0 : Int)), some (0, x1), some (0, x2)] [(4, (p0 : Int))] G R V)
  refine wp_ld (i := (.iload_n 1)) (0, x1) rfl rfl (fun _ => rfl) rfl rfl (?_ : wpv K_X8_heap d P 2 [some (4, (p0 : Int)), some (0, x1), some (0, x2)] [(0, x1), (4, (p0 : Int))] G R V)
  refine wp_virt (as := [(0, x1)]) (a := p0) (st := []) _ rfl rfl rfl rfl rfl rfl (ly8_o l0) (Nat.le_of_ble_eq_true rfl) (cwv_kI w (fun v2 V1 w => ?_))
  show wpv K_X8_heap d P 5 [some (4, (p0 : Int)), some (0, x1), some (0, x2)] [(0, v2)] G R V1
  obtain ⟨s3, w⟩ := w
  refine wp_if (c := .ne) 11 rfl rfl rfl s3 (fun q => ?_) (fun q => ?_)
  · have q : ¬ v2 = 0 := q
    replace w := w.1 q
    show wpv K_X8_heap d P 11 [some (4, (p0 : Int)), some (0, x1), some (0, x2)] [] G R V1
    refine wp_p (i := (.iconst 0)) rfl rfl (fun _ _ _ => rfl) (?_ : wpv K_X8_heap d P 12 [some (4, (p0 : Int)), some (0, x1), some (0, x2)] [(0, 0)] G R V1)
    refine wp_sto (i := (.istore_n 3)) _ rfl rfl (fun _ => rfl) rfl rfl rfl ?_
    refine wp_wk (L' := [some (4, (p0 : Int)), some (0, x1), some (0, x2), some (0, 0)]) (wk_s (wk_s (wk_s (wk_s wk_0)))) ?_
    show wpv K_X8_heap d P 13 [some (4, (p0 : Int)), some (0, x1), some (0, x2), some (0, 0)] [] G R V1
    refine wp_ld (i := (.iload_n 2)) (0, x2) rfl rfl (fun _ => rfl) rfl rfl (?_ : wpv K_X8_heap d P 14 [some (4, (p0 : Int)), some (0, x1), some (0, x2), some (0, 0)] [(0, x2)] G R V1)
    obtain ⟨s4, w⟩ := w
    by_cases qd : x2 < 0 ∨ 9 < x2
    · replace w := w.1 qd
      refine wp_tsd 212 rfl rfl s4 qd rfl (?_ : wpv K_X8_heap d P 212 [some (4, (p0 : Int)), some (0, x1), some (0, x2), some (0, 0)] [] G R V1)
      refine wp_p (i := (.ldc 246)) rfl rfl (fun _ _ _ => rfl) (?_ : wpv K_X8_heap d P 214 [some (4, (p0 : Int)), some (0, x1), some (0, x2), some (0, 0)] [(0, (-1000000))] G R V1)
      exact wp_rI rfl rfl rfl w
    replace w := w.2
    by_cases q0 : x2 = 0
    · replace w := w.1 q0
      refine wp_tsw 0 68 rfl rfl s4 (by omega) (by omega) rfl rfl (?_ : wpv K_X8_heap d P 68 [some (4, (p0 : Int)), some (0, x1), some (0, x2), some (0, 0)] [] G R V1)
      refine wp_ld (i := (.aload_n 0)) (4, (p0 : Int)) rfl rfl (fun _ => rfl) rfl rfl (?_ : wpv K_X8_heap d P 69 [some (4, (p0 : Int)), some (0, x1), some (0, x2), some (0, 0)] [(4, (p0 : Int))] G R V1)
      refine wp_getA (k := 15) rfl rfl rfl (ly8_o l0) rfl rfl (ly8_15 l0).1 (?_ : wpv K_X8_heap d P 72 [some (4, (p0 : Int)), some (0, x1), some (0, x2), some (0, 0)] [(4, ((p0 + 10 : Nat) : Int))] G R V1)
      refine wp_ld (i := (.iload_n 1)) (0, x1) rfl rfl (fun _ => rfl) rfl rfl (?_ : wpv K_X8_heap d P 73 [some (4, (p0 : Int)), some (0, x1), some (0, x2), some (0, 0)] [(0, x1), (4, ((p0 + 10 : Nat) : Int))] G R V1)
      obtain ⟨s5, w⟩ := w
      refine wp_rng (fun vr6 => ?_)
      have f7 : i32 (V1 (p0 + 10) x1) := vr_a0 vr6 (ly8_15 l0).2 s5
      replace w := w f7
      refine wp_aI rfl rfl (ly8_15 l0).2 s5 (?_ : wpv K_X8_heap d P 74 [some (4, (p0 : Int)), some (0, x1), some (0, x2), some (0, 0)] [(0, (V1 (p0 + 10) x1))] G R V1)
      exact wp_rI rfl rfl rfl w
    replace w := w.2
    by_cases q1 : x2 = 1
    · replace w := w.1 q1
      refine wp_tsw 1 75 rfl rfl s4 (by omega) (by omega) rfl rfl (?_ : wpv K_X8_heap d P 75 [some (4, (p0 : Int)), some (0, x1), some (0, x2), some (0, 0)] [] G R V1)
      refine wp_ld (i := (.aload_n 0)) (4, (p0 : Int)) rfl rfl (fun _ => rfl) rfl rfl (?_ : wpv K_X8_heap d P 76 [some (4, (p0 : Int)), some (0, x1), some (0, x2), some (0, 0)] [(4, (p0 : Int))] G R V1)
      refine wp_getA (k := 19) rfl rfl rfl (ly8_o l0) rfl rfl (ly8_19 l0).1 (?_ : wpv K_X8_heap d P 79 [some (4, (p0 : Int)), some (0, x1), some (0, x2), some (0, 0)] [(4, ((p0 + 14 : Nat) : Int))] G R V1)
      refine wp_ld (i := (.iload_n 1)) (0, x1) rfl rfl (fun _ => rfl) rfl rfl (?_ : wpv K_X8_heap d P 80 [some (4, (p0 : Int)), some (0, x1), some (0, x2), some (0, 0)] [(0, x1), (4, ((p0 + 14 : Nat) : Int))] G R V1)
      obtain ⟨s8, w⟩ := w
      refine wp_rng (fun vr9 => ?_)
      have f10 : i32 (V1 (p0 + 14) x1) := vr_a0 vr9 (ly8_19 l0).2 s8
      replace w := w f10
      refine wp_aI rfl rfl (ly8_19 l0).2 s8 (?_ : wpv K_X8_heap d P 81 [some (4, (p0 : Int)), some (0, x1), some (0, x2), some (0, 0)] [(0, (V1 (p0 + 14) x1))] G R V1)
      exact wp_rI rfl rfl rfl w
    replace w := w.2
    by_cases q2 : x2 = 2
    · replace w := w.1 q2
      refine wp_tsw 2 82 rfl rfl s4 (by omega) (by omega) rfl rfl (?_ : wpv K_X8_heap d P 82 [some (4, (p0 : Int)), some (0, x1), some (0, x2), some (0, 0)] [] G R V1)
      refine wp_ld (i := (.aload_n 0)) (4, (p0 : Int)) rfl rfl (fun _ => rfl) rfl rfl (?_ : wpv K_X8_heap d P 83 [some (4, (p0 : Int)), some (0, x1), some (0, x2), some (0, 0)] [(4, (p0 : Int))] G R V1)
      refine wp_ld (i := (.iload_n 1)) (0, x1) rfl rfl (fun _ => rfl) rfl rfl (?_ : wpv K_X8_heap d P 84 [some (4, (p0 : Int)), some (0, x1), some (0, x2), some (0, 0)] [(0, x1), (4, (p0 : Int))] G R V1)
      refine wp_virt (as := [(0, x1)]) (a := p0) (st := []) _ rfl rfl rfl rfl rfl rfl (ly8_o l0) (Nat.le_of_ble_eq_true rfl) (cwv_kI w (fun v12 V11 w => ?_))
      show wpv K_X8_heap d P 87 [some (4, (p0 : Int)), some (0, x1), some (0, x2), some (0, 0)] [(0, v12)] G R V11
      obtain ⟨s13, w⟩ := w
      refine wp_if (c := .eq) 94 rfl rfl rfl s13 (fun q => ?_) (fun q => ?_)
      · have q : v12 = 0 := q
        replace w := w.1 q
        show wpv K_X8_heap d P 94 [some (4, (p0 : Int)), some (0, x1), some (0, x2), some (0, 0)] [] G R V11
        refine wp_p (i := (.iconst 0)) rfl rfl (fun _ _ _ => rfl) (?_ : wpv K_X8_heap d P 95 [some (4, (p0 : Int)), some (0, x1), some (0, x2), some (0, 0)] [(0, 0)] G R V11)
        exact wp_rI rfl rfl rfl w
      · have q : ¬ v12 = 0 := q
        replace w := w.2 q
        show wpv K_X8_heap d P 90 [some (4, (p0 : Int)), some (0, x1), some (0, x2), some (0, 0)] [] G R V11
        refine wp_p (i := (.iconst 1)) rfl rfl (fun _ _ _ => rfl) (?_ : wpv K_X8_heap d P 91 [some (4, (p0 : Int)), some (0, x1), some (0, x2), some (0, 0)] [(0, 1)] G R V11)
        refine wp_go 95 rfl rfl rfl (?_ : wpv K_X8_heap d P 95 [some (4, (p0 : Int)), some (0, x1), some (0, x2), some (0, 0)] [(0, 1)] G R V11)
        exact wp_rI rfl rfl rfl w
    replace w := w.2
    by_cases q3 : x2 = 3
    · replace w := w.1 q3
      refine wp_tsw 3 96 rfl rfl s4 (by omega) (by omega) rfl rfl (?_ : wpv K_X8_heap d P 96 [some (4, (p0 : Int)), some (0, x1), some (0, x2), some (0, 0)] [] G R V1)
      refine wp_ld (i := (.aload_n 0)) (4, (p0 : Int)) rfl rfl (fun _ => rfl) rfl rfl (?_ : wpv K_X8_heap d P 97 [some (4, (p0 : Int)), some (0, x1), some (0, x2), some (0, 0)] [(4, (p0 : Int))] G R V1)
      refine wp_ld (i := (.iload_n 1)) (0, x1) rfl rfl (fun _ => rfl) rfl rfl (?_ : wpv K_X8_heap d P 98 [some (4, (p0 : Int)), some (0, x1), some (0, x2), some (0, 0)] [(0, x1), (4, (p0 : Int))] G R V1)
      refine wp_virt (as := [(0, x1)]) (a := p0) (st := []) _ rfl rfl rfl rfl rfl rfl (ly8_o l0) (Nat.le_of_ble_eq_true rfl) (cwv_kI w (fun v15 V14 w => ?_))
      show wpv K_X8_heap d P 101 [some (4, (p0 : Int)), some (0, x1), some (0, x2), some (0, 0)] [(0, v15)] G R V14
      exact wp_rI rfl rfl rfl w
    replace w := w.2
    by_cases q4 : x2 = 4
    · replace w := w.1 q4
      refine wp_tsw 4 102 rfl rfl s4 (by omega) (by omega) rfl rfl (?_ : wpv K_X8_heap d P 102 [some (4, (p0 : Int)), some (0, x1), some (0, x2), some (0, 0)] [] G R V1)
      refine wp_ld (i := (.aload_n 0)) (4, (p0 : Int)) rfl rfl (fun _ => rfl) rfl rfl (?_ : wpv K_X8_heap d P 103 [some (4, (p0 : Int)), some (0, x1), some (0, x2), some (0, 0)] [(4, (p0 : Int))] G R V1)
      refine wp_ld (i := (.iload_n 1)) (0, x1) rfl rfl (fun _ => rfl) rfl rfl (?_ : wpv K_X8_heap d P 104 [some (4, (p0 : Int)), some (0, x1), some (0, x2), some (0, 0)] [(0, x1), (4, (p0 : Int))] G R V1)
      refine wp_virt (as := [(0, x1)]) (a := p0) (st := []) _ rfl rfl rfl rfl rfl rfl (ly8_o l0) (Nat.le_of_ble_eq_true rfl) (cwv_kI w (fun v17 V16 w => ?_))
      show wpv K_X8_heap d P 107 [some (4, (p0 : Int)), some (0, x1), some (0, x2), some (0, 0)] [(0, v17)] G R V16
      exact wp_rI rfl rfl rfl w
    replace w := w.2
    by_cases q5 : x2 = 5
    · replace w := w.1 q5
      refine wp_tsw 5 108 rfl rfl s4 (by omega) (by omega) rfl rfl (?_ : wpv K_X8_heap d P 108 [some (4, (p0 : Int)), some (0, x1), some (0, x2), some (0, 0)] [] G R V1)
      refine wp_ld (i := (.aload_n 0)) (4, (p0 : Int)) rfl rfl (fun _ => rfl) rfl rfl (?_ : wpv K_X8_heap d P 109 [some (4, (p0 : Int)), some (0, x1), some (0, x2), some (0, 0)] [(4, (p0 : Int))] G R V1)
      refine wp_ld (i := (.iload_n 1)) (0, x1) rfl rfl (fun _ => rfl) rfl rfl (?_ : wpv K_X8_heap d P 110 [some (4, (p0 : Int)), some (0, x1), some (0, x2), some (0, 0)] [(0, x1), (4, (p0 : Int))] G R V1)
      refine wp_virt (as := [(0, x1)]) (a := p0) (st := []) _ rfl rfl rfl rfl rfl rfl (ly8_o l0) (Nat.le_of_ble_eq_true rfl) (cwv_kI w (fun v19 V18 w => ?_))
      show wpv K_X8_heap d P 113 [some (4, (p0 : Int)), some (0, x1), some (0, x2), some (0, 0)] [(0, v19)] G R V18
      exact wp_rI rfl rfl rfl w
    replace w := w.2
    by_cases q6 : x2 = 6
    · replace w := w.1 q6
      refine wp_tsw 6 114 rfl rfl s4 (by omega) (by omega) rfl rfl (?_ : wpv K_X8_heap d P 114 [some (4, (p0 : Int)), some (0, x1), some (0, x2), some (0, 0)] [] G R V1)
      refine wp_ld (i := (.aload_n 0)) (4, (p0 : Int)) rfl rfl (fun _ => rfl) rfl rfl (?_ : wpv K_X8_heap d P 115 [some (4, (p0 : Int)), some (0, x1), some (0, x2), some (0, 0)] [(4, (p0 : Int))] G R V1)
      refine wp_getA (k := 22) rfl rfl rfl (ly8_o l0) rfl rfl (ly8_22 l0).1 (?_ : wpv K_X8_heap d P 118 [some (4, (p0 : Int)), some (0, x1), some (0, x2), some (0, 0)] [(4, ((p0 + 17 : Nat) : Int))] G R V1)
      refine wp_ld (i := (.iload_n 1)) (0, x1) rfl rfl (fun _ => rfl) rfl rfl (?_ : wpv K_X8_heap d P 119 [some (4, (p0 : Int)), some (0, x1), some (0, x2), some (0, 0)] [(0, x1), (4, ((p0 + 17 : Nat) : Int))] G R V1)
      obtain ⟨s20, w⟩ := w
      refine wp_rng (fun vr21 => ?_)
      have f22 : i64 (V1 (p0 + 17) x1) := vr_a1 vr21 (ly8_22 l0).2 s20
      replace w := w f22
      refine wp_aJ rfl rfl (ly8_22 l0).2 s20 (?_ : wpv K_X8_heap d P 120 [some (4, (p0 : Int)), some (0, x1), some (0, x2), some (0, 0)] [(2, (V1 (p0 + 17) x1))] G R V1)
      refine wp_kl2i rfl rfl (?_ : wpv K_X8_heap d P 121 [some (4, (p0 : Int)), some (0, x1), some (0, x2), some (0, 0)] [(0, (kl2i ((V1 (p0 + 17) x1))))] G R V1)
      exact wp_rI rfl rfl rfl w
    replace w := w.2
    by_cases q7 : x2 = 7
    · replace w := w.1 q7
      refine wp_tsw 7 122 rfl rfl s4 (by omega) (by omega) rfl rfl (?_ : wpv K_X8_heap d P 122 [some (4, (p0 : Int)), some (0, x1), some (0, x2), some (0, 0)] [] G R V1)
      refine wp_ld (i := (.aload_n 0)) (4, (p0 : Int)) rfl rfl (fun _ => rfl) rfl rfl (?_ : wpv K_X8_heap d P 123 [some (4, (p0 : Int)), some (0, x1), some (0, x2), some (0, 0)] [(4, (p0 : Int))] G R V1)
      refine wp_ld (i := (.iload_n 1)) (0, x1) rfl rfl (fun _ => rfl) rfl rfl (?_ : wpv K_X8_heap d P 124 [some (4, (p0 : Int)), some (0, x1), some (0, x2), some (0, 0)] [(0, x1), (4, (p0 : Int))] G R V1)
      refine wp_virt (as := [(0, x1)]) (a := p0) (st := []) _ rfl rfl rfl rfl rfl rfl (ly8_o l0) (Nat.le_of_ble_eq_true rfl) (cwv_kI w (fun v24 V23 w => ?_))
      show wpv K_X8_heap d P 127 [some (4, (p0 : Int)), some (0, x1), some (0, x2), some (0, 0)] [(0, v24)] G R V23
      obtain ⟨s25, w⟩ := w
      refine wp_if (c := .eq) 134 rfl rfl rfl s25 (fun q => ?_) (fun q => ?_)
      · have q : v24 = 0 := q
        replace w := w.1 q
        show wpv K_X8_heap d P 134 [some (4, (p0 : Int)), some (0, x1), some (0, x2), some (0, 0)] [] G R V23
        refine wp_p (i := (.iconst 0)) rfl rfl (fun _ _ _ => rfl) (?_ : wpv K_X8_heap d P 135 [some (4, (p0 : Int)), some (0, x1), some (0, x2), some (0, 0)] [(0, 0)] G R V23)
        exact wp_rI rfl rfl rfl w
      · have q : ¬ v24 = 0 := q
        replace w := w.2 q
        show wpv K_X8_heap d P 130 [some (4, (p0 : Int)), some (0, x1), some (0, x2), some (0, 0)] [] G R V23
        refine wp_p (i := (.iconst 1)) rfl rfl (fun _ _ _ => rfl) (?_ : wpv K_X8_heap d P 131 [some (4, (p0 : Int)), some (0, x1), some (0, x2), some (0, 0)] [(0, 1)] G R V23)
        refine wp_go 135 rfl rfl rfl (?_ : wpv K_X8_heap d P 135 [some (4, (p0 : Int)), some (0, x1), some (0, x2), some (0, 0)] [(0, 1)] G R V23)
        exact wp_rI rfl rfl rfl w
    replace w := w.2
    by_cases q8 : x2 = 8
    · replace w := w.1 q8
      refine wp_tsw 8 136 rfl rfl s4 (by omega) (by omega) rfl rfl (?_ : wpv K_X8_heap d P 136 [some (4, (p0 : Int)), some (0, x1), some (0, x2), some (0, 0)] [] G R V1)
      refine wp_p (i := (.iconst 0)) rfl rfl (fun _ _ _ => rfl) (?_ : wpv K_X8_heap d P 137 [some (4, (p0 : Int)), some (0, x1), some (0, x2), some (0, 0)] [(0, 0)] G R V1)
      refine wp_sto (i := (.istore 4)) _ rfl rfl (fun _ => rfl) rfl rfl rfl ?_
      refine wp_wk (L' := [some (4, (p0 : Int)), some (0, x1), some (0, x2), some (0, 0), some (0, 0)]) (wk_s (wk_s (wk_s (wk_s (wk_s wk_0))))) ?_
      show wpv K_X8_heap d P 139 [some (4, (p0 : Int)), some (0, x1), some (0, x2), some (0, 0), some (0, 0)] [] G R V1
      exact wp_wk (wk_s (wk_s (wk_n (wk_s (wk_s wk_0))))) w
    replace w := w.2
    have q9 : x2 = 9 := by omega
    replace w := w q9
    refine wp_tsw 9 174 rfl rfl s4 (by omega) (by omega) rfl rfl (?_ : wpv K_X8_heap d P 174 [some (4, (p0 : Int)), some (0, x1), some (0, x2), some (0, 0)] [] G R V1)
    refine wp_p (i := (.iconst 0)) rfl rfl (fun _ _ _ => rfl) (?_ : wpv K_X8_heap d P 175 [some (4, (p0 : Int)), some (0, x1), some (0, x2), some (0, 0)] [(0, 0)] G R V1)
    refine wp_sto (i := (.istore 4)) _ rfl rfl (fun _ => rfl) rfl rfl rfl ?_
    refine wp_wk (L' := [some (4, (p0 : Int)), some (0, x1), some (0, x2), some (0, 0), some (0, 0)]) (wk_s (wk_s (wk_s (wk_s (wk_s wk_0))))) ?_
    show wpv K_X8_heap d P 177 [some (4, (p0 : Int)), some (0, x1), some (0, x2), some (0, 0), some (0, 0)] [] G R V1
    exact wp_wk (wk_s (wk_s (wk_n (wk_s (wk_s wk_0))))) w
  · have q : v2 = 0 := Decidable.not_not.mp q
    replace w := w.2 q
    show wpv K_X8_heap d P 8 [some (4, (p0 : Int)), some (0, x1), some (0, x2)] [] G R V1
    refine wp_p (i := (.ldc 246)) rfl rfl (fun _ _ _ => rfl) (?_ : wpv K_X8_heap d P 10 [some (4, (p0 : Int)), some (0, x1), some (0, x2)] [(0, (-1000000))] G R V1)
    exact wp_rI rfl rfl rfl w

theorem t_X8_heap_139 {d : Nat} {P : gP} {p0 : Nat} {x1 : Int} {x3 : Int} {x4 : Int} {G : List gS} {R V : gV} (l0 : lay8 G R p0) (w : ((i32 (V p0 12)) → ((i32 x4) ∧ (((¬ x4 < (V p0 12)) → P (some (0, x3)) V) ∧ ((x4 < (V p0 12)) → cwv d (fun r V4 => ∃ v5 : Int, r = some (0, v5) ∧ ((i32 v5) ∧ (((v5 = 0) → ((i32 (x3 + 0)) ∧ ((i32 (x4 + 1)) ∧ wpv K_X8_heap d P 139 [some (4, (p0 : Int)), some (0, x1), none, some (0, (x3 + 0)), some (0, (x4 + 1))] [] G R V4))) ∧ ((¬ v5 = 0) → ((i32 (x3 + 1)) ∧ ((i32 (x4 + 1)) ∧ wpv K_X8_heap d P 139 [some (4, (p0 : Int)), some (0, x1), none, some (0, (x3 + 1)), some (0, (x4 + 1))] [] G R V4)))))) 176 [(4, (p0 : Int)), (0, x4), (0, x1)] G R V))))) : wpv K_X8_heap d P 139 [some (4, (p0 : Int)), some (0, x1), none, some (0, x3), some (0, x4)] [] G R V := by
  refine wp_ld (i := (.iload 4)) (0, x4) rfl rfl (fun _ => rfl) rfl rfl (?_ : wpv K_X8_heap d P 141 [some (4, (p0 : Int)), some (0, x1), none, some (0, x3), some (0, x4)] [(0, x4)] G R V)
  refine wp_ld (i := (.aload_n 0)) (4, (p0 : Int)) rfl rfl (fun _ => rfl) rfl rfl (?_ : wpv K_X8_heap d P 142 [some (4, (p0 : Int)), some (0, x1), none, some (0, x3), some (0, x4)] [(4, (p0 : Int)), (0, x4)] G R V)
  refine wp_rng (fun vr1 => ?_)
  have f2 : i32 (V p0 12) := vr_f0 vr1 (ly8_o l0) rfl rfl
  replace w := w f2
  refine wp_getI (k := 12) rfl rfl rfl (ly8_o l0) rfl rfl (?_ : wpv K_X8_heap d P 145 [some (4, (p0 : Int)), some (0, x1), none, some (0, x3), some (0, x4)] [(0, (V p0 12)), (0, x4)] G R V)
  obtain ⟨s3, w⟩ := w
  refine wp_icmp (c := .ge) 172 rfl rfl rfl s3 f2 (fun q => ?_) (fun q => ?_)
  · have q : ¬ x4 < (V p0 12) := q
    replace w := w.1 q
    show wpv K_X8_heap d P 172 [some (4, (p0 : Int)), some (0, x1), none, some (0, x3), some (0, x4)] [] G R V
    refine wp_ld (i := (.iload_n 3)) (0, x3) rfl rfl (fun _ => rfl) rfl rfl (?_ : wpv K_X8_heap d P 173 [some (4, (p0 : Int)), some (0, x1), none, some (0, x3), some (0, x4)] [(0, x3)] G R V)
    exact wp_rI rfl rfl rfl w
  · have q : x4 < (V p0 12) := Decidable.not_not.mp q
    replace w := w.2 q
    show wpv K_X8_heap d P 148 [some (4, (p0 : Int)), some (0, x1), none, some (0, x3), some (0, x4)] [] G R V
    refine wp_ld (i := (.iload_n 3)) (0, x3) rfl rfl (fun _ => rfl) rfl rfl (?_ : wpv K_X8_heap d P 149 [some (4, (p0 : Int)), some (0, x1), none, some (0, x3), some (0, x4)] [(0, x3)] G R V)
    refine wp_ld (i := (.aload_n 0)) (4, (p0 : Int)) rfl rfl (fun _ => rfl) rfl rfl (?_ : wpv K_X8_heap d P 150 [some (4, (p0 : Int)), some (0, x1), none, some (0, x3), some (0, x4)] [(4, (p0 : Int)), (0, x3)] G R V)
    refine wp_ld (i := (.iload 4)) (0, x4) rfl rfl (fun _ => rfl) rfl rfl (?_ : wpv K_X8_heap d P 152 [some (4, (p0 : Int)), some (0, x1), none, some (0, x3), some (0, x4)] [(0, x4), (4, (p0 : Int)), (0, x3)] G R V)
    refine wp_ld (i := (.iload_n 1)) (0, x1) rfl rfl (fun _ => rfl) rfl rfl (?_ : wpv K_X8_heap d P 153 [some (4, (p0 : Int)), some (0, x1), none, some (0, x3), some (0, x4)] [(0, x1), (0, x4), (4, (p0 : Int)), (0, x3)] G R V)
    refine wp_virt (as := [(0, x4), (0, x1)]) (a := p0) (st := [(0, x3)]) _ rfl rfl rfl rfl rfl rfl (ly8_o l0) (Nat.le_of_ble_eq_true rfl) (cwv_kI w (fun v5 V4 w => ?_))
    show wpv K_X8_heap d P 156 [some (4, (p0 : Int)), some (0, x1), none, some (0, x3), some (0, x4)] [(0, v5), (0, x3)] G R V4
    obtain ⟨s6, w⟩ := w
    refine wp_if (c := .eq) 163 rfl rfl rfl s6 (fun q => ?_) (fun q => ?_)
    · have q : v5 = 0 := q
      replace w := w.1 q
      show wpv K_X8_heap d P 163 [some (4, (p0 : Int)), some (0, x1), none, some (0, x3), some (0, x4)] [(0, x3)] G R V4
      refine wp_p (i := (.iconst 0)) rfl rfl (fun _ _ _ => rfl) (?_ : wpv K_X8_heap d P 164 [some (4, (p0 : Int)), some (0, x1), none, some (0, x3), some (0, x4)] [(0, 0), (0, x3)] G R V4)
      obtain ⟨s7, w⟩ := w
      refine wp_xadd rfl rfl s7 (?_ : wpv K_X8_heap d P 165 [some (4, (p0 : Int)), some (0, x1), none, some (0, x3), some (0, x4)] [(0, (x3 + 0))] G R V4)
      refine wp_sto (i := (.istore_n 3)) _ rfl rfl (fun _ => rfl) rfl rfl rfl ?_
      refine wp_wk (L' := [some (4, (p0 : Int)), some (0, x1), none, some (0, (x3 + 0)), some (0, x4)]) (wk_s (wk_s (wk_n (wk_s (wk_s wk_0))))) ?_
      show wpv K_X8_heap d P 166 [some (4, (p0 : Int)), some (0, x1), none, some (0, (x3 + 0)), some (0, x4)] [] G R V4
      obtain ⟨s8, w⟩ := w
      refine wp_inc (x := 4) (k := 1) (a := x4) (c := (x4 + 1)) _ rfl rfl rfl rfl s8 (by omega) rfl ?_
      show wpv K_X8_heap d P 169 [some (4, (p0 : Int)), some (0, x1), none, some (0, (x3 + 0)), some (0, (x4 + 1))] [] G R V4
      refine wp_go 139 rfl rfl rfl (?_ : wpv K_X8_heap d P 139 [some (4, (p0 : Int)), some (0, x1), none, some (0, (x3 + 0)), some (0, (x4 + 1))] [] G R V4)
      exact wp_wk (wk_s (wk_s (wk_n (wk_s (wk_s wk_0))))) w
    · have q : ¬ v5 = 0 := q
      replace w := w.2 q
      show wpv K_X8_heap d P 159 [some (4, (p0 : Int)), some (0, x1), none, some (0, x3), some (0, x4)] [(0, x3)] G R V4
      refine wp_p (i := (.iconst 1)) rfl rfl (fun _ _ _ => rfl) (?_ : wpv K_X8_heap d P 160 [some (4, (p0 : Int)), some (0, x1), none, some (0, x3), some (0, x4)] [(0, 1), (0, x3)] G R V4)
      refine wp_go 164 rfl rfl rfl (?_ : wpv K_X8_heap d P 164 [some (4, (p0 : Int)), some (0, x1), none, some (0, x3), some (0, x4)] [(0, 1), (0, x3)] G R V4)
      obtain ⟨s9, w⟩ := w
      refine wp_xadd rfl rfl s9 (?_ : wpv K_X8_heap d P 165 [some (4, (p0 : Int)), some (0, x1), none, some (0, x3), some (0, x4)] [(0, (x3 + 1))] G R V4)
      refine wp_sto (i := (.istore_n 3)) _ rfl rfl (fun _ => rfl) rfl rfl rfl ?_
      refine wp_wk (L' := [some (4, (p0 : Int)), some (0, x1), none, some (0, (x3 + 1)), some (0, x4)]) (wk_s (wk_s (wk_n (wk_s (wk_s wk_0))))) ?_
      show wpv K_X8_heap d P 166 [some (4, (p0 : Int)), some (0, x1), none, some (0, (x3 + 1)), some (0, x4)] [] G R V4
      obtain ⟨s10, w⟩ := w
      refine wp_inc (x := 4) (k := 1) (a := x4) (c := (x4 + 1)) _ rfl rfl rfl rfl s10 (by omega) rfl ?_
      show wpv K_X8_heap d P 169 [some (4, (p0 : Int)), some (0, x1), none, some (0, (x3 + 1)), some (0, (x4 + 1))] [] G R V4
      refine wp_go 139 rfl rfl rfl (?_ : wpv K_X8_heap d P 139 [some (4, (p0 : Int)), some (0, x1), none, some (0, (x3 + 1)), some (0, (x4 + 1))] [] G R V4)
      exact wp_wk (wk_s (wk_s (wk_n (wk_s (wk_s wk_0))))) w

theorem t_X8_heap_177 {d : Nat} {P : gP} {p0 : Nat} {x1 : Int} {x3 : Int} {x4 : Int} {G : List gS} {R V : gV} (l0 : lay8 G R p0) (w : ((i32 (V p0 12)) → ((i32 x4) ∧ (((¬ x4 < (V p0 12)) → P (some (0, x3)) V) ∧ ((x4 < (V p0 12)) → cwv d (fun r V4 => ∃ v5 : Int, r = some (0, v5) ∧ ((i32 v5) ∧ (((v5 = 0) → ((i32 (x3 + 0)) ∧ ((i32 (x4 + 1)) ∧ wpv K_X8_heap d P 177 [some (4, (p0 : Int)), some (0, x1), none, some (0, (x3 + 0)), some (0, (x4 + 1))] [] G R V4))) ∧ ((¬ v5 = 0) → ((i32 (x3 + 1)) ∧ ((i32 (x4 + 1)) ∧ wpv K_X8_heap d P 177 [some (4, (p0 : Int)), some (0, x1), none, some (0, (x3 + 1)), some (0, (x4 + 1))] [] G R V4)))))) 176 [(4, (p0 : Int)), (0, x1), (0, x4)] G R V))))) : wpv K_X8_heap d P 177 [some (4, (p0 : Int)), some (0, x1), none, some (0, x3), some (0, x4)] [] G R V := by
  refine wp_ld (i := (.iload 4)) (0, x4) rfl rfl (fun _ => rfl) rfl rfl (?_ : wpv K_X8_heap d P 179 [some (4, (p0 : Int)), some (0, x1), none, some (0, x3), some (0, x4)] [(0, x4)] G R V)
  refine wp_ld (i := (.aload_n 0)) (4, (p0 : Int)) rfl rfl (fun _ => rfl) rfl rfl (?_ : wpv K_X8_heap d P 180 [some (4, (p0 : Int)), some (0, x1), none, some (0, x3), some (0, x4)] [(4, (p0 : Int)), (0, x4)] G R V)
  refine wp_rng (fun vr1 => ?_)
  have f2 : i32 (V p0 12) := vr_f0 vr1 (ly8_o l0) rfl rfl
  replace w := w f2
  refine wp_getI (k := 12) rfl rfl rfl (ly8_o l0) rfl rfl (?_ : wpv K_X8_heap d P 183 [some (4, (p0 : Int)), some (0, x1), none, some (0, x3), some (0, x4)] [(0, (V p0 12)), (0, x4)] G R V)
  obtain ⟨s3, w⟩ := w
  refine wp_icmp (c := .ge) 210 rfl rfl rfl s3 f2 (fun q => ?_) (fun q => ?_)
  · have q : ¬ x4 < (V p0 12) := q
    replace w := w.1 q
    show wpv K_X8_heap d P 210 [some (4, (p0 : Int)), some (0, x1), none, some (0, x3), some (0, x4)] [] G R V
    refine wp_ld (i := (.iload_n 3)) (0, x3) rfl rfl (fun _ => rfl) rfl rfl (?_ : wpv K_X8_heap d P 211 [some (4, (p0 : Int)), some (0, x1), none, some (0, x3), some (0, x4)] [(0, x3)] G R V)
    exact wp_rI rfl rfl rfl w
  · have q : x4 < (V p0 12) := Decidable.not_not.mp q
    replace w := w.2 q
    show wpv K_X8_heap d P 186 [some (4, (p0 : Int)), some (0, x1), none, some (0, x3), some (0, x4)] [] G R V
    refine wp_ld (i := (.iload_n 3)) (0, x3) rfl rfl (fun _ => rfl) rfl rfl (?_ : wpv K_X8_heap d P 187 [some (4, (p0 : Int)), some (0, x1), none, some (0, x3), some (0, x4)] [(0, x3)] G R V)
    refine wp_ld (i := (.aload_n 0)) (4, (p0 : Int)) rfl rfl (fun _ => rfl) rfl rfl (?_ : wpv K_X8_heap d P 188 [some (4, (p0 : Int)), some (0, x1), none, some (0, x3), some (0, x4)] [(4, (p0 : Int)), (0, x3)] G R V)
    refine wp_ld (i := (.iload_n 1)) (0, x1) rfl rfl (fun _ => rfl) rfl rfl (?_ : wpv K_X8_heap d P 189 [some (4, (p0 : Int)), some (0, x1), none, some (0, x3), some (0, x4)] [(0, x1), (4, (p0 : Int)), (0, x3)] G R V)
    refine wp_ld (i := (.iload 4)) (0, x4) rfl rfl (fun _ => rfl) rfl rfl (?_ : wpv K_X8_heap d P 191 [some (4, (p0 : Int)), some (0, x1), none, some (0, x3), some (0, x4)] [(0, x4), (0, x1), (4, (p0 : Int)), (0, x3)] G R V)
    refine wp_virt (as := [(0, x1), (0, x4)]) (a := p0) (st := [(0, x3)]) _ rfl rfl rfl rfl rfl rfl (ly8_o l0) (Nat.le_of_ble_eq_true rfl) (cwv_kI w (fun v5 V4 w => ?_))
    show wpv K_X8_heap d P 194 [some (4, (p0 : Int)), some (0, x1), none, some (0, x3), some (0, x4)] [(0, v5), (0, x3)] G R V4
    obtain ⟨s6, w⟩ := w
    refine wp_if (c := .eq) 201 rfl rfl rfl s6 (fun q => ?_) (fun q => ?_)
    · have q : v5 = 0 := q
      replace w := w.1 q
      show wpv K_X8_heap d P 201 [some (4, (p0 : Int)), some (0, x1), none, some (0, x3), some (0, x4)] [(0, x3)] G R V4
      refine wp_p (i := (.iconst 0)) rfl rfl (fun _ _ _ => rfl) (?_ : wpv K_X8_heap d P 202 [some (4, (p0 : Int)), some (0, x1), none, some (0, x3), some (0, x4)] [(0, 0), (0, x3)] G R V4)
      obtain ⟨s7, w⟩ := w
      refine wp_xadd rfl rfl s7 (?_ : wpv K_X8_heap d P 203 [some (4, (p0 : Int)), some (0, x1), none, some (0, x3), some (0, x4)] [(0, (x3 + 0))] G R V4)
      refine wp_sto (i := (.istore_n 3)) _ rfl rfl (fun _ => rfl) rfl rfl rfl ?_
      refine wp_wk (L' := [some (4, (p0 : Int)), some (0, x1), none, some (0, (x3 + 0)), some (0, x4)]) (wk_s (wk_s (wk_n (wk_s (wk_s wk_0))))) ?_
      show wpv K_X8_heap d P 204 [some (4, (p0 : Int)), some (0, x1), none, some (0, (x3 + 0)), some (0, x4)] [] G R V4
      obtain ⟨s8, w⟩ := w
      refine wp_inc (x := 4) (k := 1) (a := x4) (c := (x4 + 1)) _ rfl rfl rfl rfl s8 (by omega) rfl ?_
      show wpv K_X8_heap d P 207 [some (4, (p0 : Int)), some (0, x1), none, some (0, (x3 + 0)), some (0, (x4 + 1))] [] G R V4
      refine wp_go 177 rfl rfl rfl (?_ : wpv K_X8_heap d P 177 [some (4, (p0 : Int)), some (0, x1), none, some (0, (x3 + 0)), some (0, (x4 + 1))] [] G R V4)
      exact wp_wk (wk_s (wk_s (wk_n (wk_s (wk_s wk_0))))) w
    · have q : ¬ v5 = 0 := q
      replace w := w.2 q
      show wpv K_X8_heap d P 197 [some (4, (p0 : Int)), some (0, x1), none, some (0, x3), some (0, x4)] [(0, x3)] G R V4
      refine wp_p (i := (.iconst 1)) rfl rfl (fun _ _ _ => rfl) (?_ : wpv K_X8_heap d P 198 [some (4, (p0 : Int)), some (0, x1), none, some (0, x3), some (0, x4)] [(0, 1), (0, x3)] G R V4)
      refine wp_go 202 rfl rfl rfl (?_ : wpv K_X8_heap d P 202 [some (4, (p0 : Int)), some (0, x1), none, some (0, x3), some (0, x4)] [(0, 1), (0, x3)] G R V4)
      obtain ⟨s9, w⟩ := w
      refine wp_xadd rfl rfl s9 (?_ : wpv K_X8_heap d P 203 [some (4, (p0 : Int)), some (0, x1), none, some (0, x3), some (0, x4)] [(0, (x3 + 1))] G R V4)
      refine wp_sto (i := (.istore_n 3)) _ rfl rfl (fun _ => rfl) rfl rfl rfl ?_
      refine wp_wk (L' := [some (4, (p0 : Int)), some (0, x1), none, some (0, (x3 + 1)), some (0, x4)]) (wk_s (wk_s (wk_n (wk_s (wk_s wk_0))))) ?_
      show wpv K_X8_heap d P 204 [some (4, (p0 : Int)), some (0, x1), none, some (0, (x3 + 1)), some (0, x4)] [] G R V4
      obtain ⟨s10, w⟩ := w
      refine wp_inc (x := 4) (k := 1) (a := x4) (c := (x4 + 1)) _ rfl rfl rfl rfl s10 (by omega) rfl ?_
      show wpv K_X8_heap d P 207 [some (4, (p0 : Int)), some (0, x1), none, some (0, (x3 + 1)), some (0, (x4 + 1))] [] G R V4
      refine wp_go 177 rfl rfl rfl (?_ : wpv K_X8_heap d P 177 [some (4, (p0 : Int)), some (0, x1), none, some (0, (x3 + 1)), some (0, (x4 + 1))] [] G R V4)
      exact wp_wk (wk_s (wk_s (wk_n (wk_s (wk_s wk_0))))) w
theorem t_X8_has_0 {d : Nat} {P : gP} {p0 : Nat} {x1 : Int} {x2 : Int} {G : List gS} {R V : gV} (l0 : lay8 G R p0) (w : cwv d (fun r V1 => ∃ v2 : Int, r = some (0, v2) ∧ ((i32 v2) ∧ (((v2 = 0) → P (some (0, (-1))) V1) ∧ ((¬ v2 = 0) → cwv d (fun r V4 => ∃ v5 : Int, r = some (0, v5) ∧ ((i32 v5) ∧ (((¬ v5 = 0) → ((i32 (120 * x1)) ∧ ((i32 ((120 * x1) + x2)) ∧ ((0 ≤ ((120 * x1) + x2) ∧ ((120 * x1) + x2) < 36120) ∧ (((V4 (p0 + 9) (((120 * x1) + x2))) = 0 ∨ (V4 (p0 + 9) (((120 * x1) + x2))) = 1) → ((((V4 (p0 + 9) (((120 * x1) + x2))) = 0) → P (some (0, 0)) V4) ∧ ((¬ (V4 (p0 + 9) (((120 * x1) + x2))) = 0) → P (some (0, 1)) V4))))))) ∧ ((v5 = 0) → P (some (0, (-1))) V4)))) 183 [(4, (p0 : Int)), (0, x2)] G R V1)))) 184 [(4, (p0 : Int)), (0, x1)] G R V) : wpv K_X8_has d P 0 [some (4, (p0 : Int)), some (0, x1), some (0, x2)] [] G R V := by
  refine wp_ld (i := (.aload_n 0)) (4, (p0 : Int)) rfl rfl (fun _ => rfl) rfl rfl (?_ : wpv K_X8_has d P 1 [some (4, (p0 : Int)), some (0, x1), some (0, x2)] [(4, (p0 : Int))] G R V)
  refine wp_ld (i := (.iload_n 1)) (0, x1) rfl rfl (fun _ => rfl) rfl rfl (?_ : wpv K_X8_has d P 2 [some (4, (p0 : Int)), some (0, x1), some (0, x2)] [(0, x1), (4, (p0 : Int))] G R V)
  refine wp_virt (as := [(0, x1)]) (a := p0) (st := []) _ rfl rfl rfl rfl rfl rfl (ly8_o l0) (Nat.le_of_ble_eq_true rfl) (cwv_kI w (fun v2 V1 w => ?_))
  show wpv K_X8_has d P 5 [some (4, (p0 : Int)), some (0, x1), some (0, x2)] [(0, v2)] G R V1
  obtain ⟨s3, w⟩ := w
  refine wp_if (c := .eq) 16 rfl rfl rfl s3 (fun q => ?_) (fun q => ?_)
  · have q : v2 = 0 := q
    replace w := w.1 q
    show wpv K_X8_has d P 16 [some (4, (p0 : Int)), some (0, x1), some (0, x2)] [] G R V1
    refine wp_p (i := (.iconst (-1))) rfl rfl (fun _ _ _ => rfl) (?_ : wpv K_X8_has d P 17 [some (4, (p0 : Int)), some (0, x1), some (0, x2)] [(0, (-1))] G R V1)
    refine wp_go 39 rfl rfl rfl (?_ : wpv K_X8_has d P 39 [some (4, (p0 : Int)), some (0, x1), some (0, x2)] [(0, (-1))] G R V1)
    exact wp_rI rfl rfl rfl w
  · have q : ¬ v2 = 0 := q
    replace w := w.2 q
    show wpv K_X8_has d P 8 [some (4, (p0 : Int)), some (0, x1), some (0, x2)] [] G R V1
    refine wp_ld (i := (.aload_n 0)) (4, (p0 : Int)) rfl rfl (fun _ => rfl) rfl rfl (?_ : wpv K_X8_has d P 9 [some (4, (p0 : Int)), some (0, x1), some (0, x2)] [(4, (p0 : Int))] G R V1)
    refine wp_ld (i := (.iload_n 2)) (0, x2) rfl rfl (fun _ => rfl) rfl rfl (?_ : wpv K_X8_has d P 10 [some (4, (p0 : Int)), some (0, x1), some (0, x2)] [(0, x2), (4, (p0 : Int))] G R V1)
    refine wp_virt (as := [(0, x2)]) (a := p0) (st := []) _ rfl rfl rfl rfl rfl rfl (ly8_o l0) (Nat.le_of_ble_eq_true rfl) (cwv_kI w (fun v5 V4 w => ?_))
    show wpv K_X8_has d P 13 [some (4, (p0 : Int)), some (0, x1), some (0, x2)] [(0, v5)] G R V4
    obtain ⟨s6, w⟩ := w
    refine wp_if (c := .ne) 20 rfl rfl rfl s6 (fun q => ?_) (fun q => ?_)
    · have q : ¬ v5 = 0 := q
      replace w := w.1 q
      show wpv K_X8_has d P 20 [some (4, (p0 : Int)), some (0, x1), some (0, x2)] [] G R V4
      refine wp_ld (i := (.aload_n 0)) (4, (p0 : Int)) rfl rfl (fun _ => rfl) rfl rfl (?_ : wpv K_X8_has d P 21 [some (4, (p0 : Int)), some (0, x1), some (0, x2)] [(4, (p0 : Int))] G R V4)
      refine wp_getA (k := 14) rfl rfl rfl (ly8_o l0) rfl rfl (ly8_14 l0).1 (?_ : wpv K_X8_has d P 24 [some (4, (p0 : Int)), some (0, x1), some (0, x2)] [(4, ((p0 + 9 : Nat) : Int))] G R V4)
      refine wp_p (i := (.bipush 120)) rfl rfl (fun _ _ _ => rfl) (?_ : wpv K_X8_has d P 26 [some (4, (p0 : Int)), some (0, x1), some (0, x2)] [(0, 120), (4, ((p0 + 9 : Nat) : Int))] G R V4)
      refine wp_ld (i := (.iload_n 1)) (0, x1) rfl rfl (fun _ => rfl) rfl rfl (?_ : wpv K_X8_has d P 27 [some (4, (p0 : Int)), some (0, x1), some (0, x2)] [(0, x1), (0, 120), (4, ((p0 + 9 : Nat) : Int))] G R V4)
      obtain ⟨s7, w⟩ := w
      refine wp_xmul rfl rfl s7 (?_ : wpv K_X8_has d P 28 [some (4, (p0 : Int)), some (0, x1), some (0, x2)] [(0, (120 * x1)), (4, ((p0 + 9 : Nat) : Int))] G R V4)
      refine wp_ld (i := (.iload_n 2)) (0, x2) rfl rfl (fun _ => rfl) rfl rfl (?_ : wpv K_X8_has d P 29 [some (4, (p0 : Int)), some (0, x1), some (0, x2)] [(0, x2), (0, (120 * x1)), (4, ((p0 + 9 : Nat) : Int))] G R V4)
      obtain ⟨s8, w⟩ := w
      refine wp_xadd rfl rfl s8 (?_ : wpv K_X8_has d P 30 [some (4, (p0 : Int)), some (0, x1), some (0, x2)] [(0, ((120 * x1) + x2)), (4, ((p0 + 9 : Nat) : Int))] G R V4)
      obtain ⟨s9, w⟩ := w
      refine wp_rng (fun vr10 => ?_)
      have f11 : (V4 (p0 + 9) (((120 * x1) + x2))) = 0 ∨ (V4 (p0 + 9) (((120 * x1) + x2))) = 1 := vr_a2 vr10 (ly8_14 l0).2 s9
      replace w := w f11
      have f12 : i32 (V4 (p0 + 9) (((120 * x1) + x2))) := by unfold i32; omega
      refine wp_aB rfl rfl (ly8_14 l0).2 s9 (?_ : wpv K_X8_has d P 31 [some (4, (p0 : Int)), some (0, x1), some (0, x2)] [(0, (V4 (p0 + 9) (((120 * x1) + x2))))] G R V4)
      refine wp_if (c := .eq) 38 rfl rfl rfl f12 (fun q => ?_) (fun q => ?_)
      · have q : (V4 (p0 + 9) (((120 * x1) + x2))) = 0 := q
        replace w := w.1 q
        show wpv K_X8_has d P 38 [some (4, (p0 : Int)), some (0, x1), some (0, x2)] [] G R V4
        refine wp_p (i := (.iconst 0)) rfl rfl (fun _ _ _ => rfl) (?_ : wpv K_X8_has d P 39 [some (4, (p0 : Int)), some (0, x1), some (0, x2)] [(0, 0)] G R V4)
        exact wp_rI rfl rfl rfl w
      · have q : ¬ (V4 (p0 + 9) (((120 * x1) + x2))) = 0 := q
        replace w := w.2 q
        show wpv K_X8_has d P 34 [some (4, (p0 : Int)), some (0, x1), some (0, x2)] [] G R V4
        refine wp_p (i := (.iconst 1)) rfl rfl (fun _ _ _ => rfl) (?_ : wpv K_X8_has d P 35 [some (4, (p0 : Int)), some (0, x1), some (0, x2)] [(0, 1)] G R V4)
        refine wp_go 39 rfl rfl rfl (?_ : wpv K_X8_has d P 39 [some (4, (p0 : Int)), some (0, x1), some (0, x2)] [(0, 1)] G R V4)
        exact wp_rI rfl rfl rfl w
    · have q : v5 = 0 := Decidable.not_not.mp q
      replace w := w.2 q
      show wpv K_X8_has d P 16 [some (4, (p0 : Int)), some (0, x1), some (0, x2)] [] G R V4
      refine wp_p (i := (.iconst (-1))) rfl rfl (fun _ _ _ => rfl) (?_ : wpv K_X8_has d P 17 [some (4, (p0 : Int)), some (0, x1), some (0, x2)] [(0, (-1))] G R V4)
      refine wp_go 39 rfl rfl rfl (?_ : wpv K_X8_has d P 39 [some (4, (p0 : Int)), some (0, x1), some (0, x2)] [(0, (-1))] G R V4)
      exact wp_rI rfl rfl rfl w
theorem t_X8_join_0 {d : Nat} {P : gP} {p0 : Nat} {x1 : Int} {x2 : Int} {x3 : Int} {G : List gS} {R V : gV} (l0 : lay8 G R p0) (w : cwv d (fun r V1 => ∃ v2 : Int, r = some (0, v2) ∧ ((i32 v2) ∧ (((v2 = 0) → P (some (0, (-1))) V1) ∧ ((¬ v2 = 0) → cwv d (fun r V4 => ∃ v5 : Int, r = some (0, v5) ∧ ((i32 v5) ∧ (((v5 = 0) → P (some (0, (-1))) V4) ∧ ((¬ v5 = 0) → ((i32 x3) ∧ cwv d (fun r V8 => ∃ v9 : Int, r = some (0, v9) ∧ ((i32 v9) ∧ (((¬ v9 = 0) → wpv K_X8_join d P 31 [some (4, (p0 : Int)), some (0, x1), some (0, x2), some (0, x3), some (0, 0)] [] G R V8) ∧ ((v9 = 0) → P (some (0, (-1))) V8)))) 159 [(2, x3), (2, 0), (2, 1)] G R V4))))) 184 [(4, (p0 : Int)), (0, x2)] G R V1)))) 184 [(4, (p0 : Int)), (0, x1)] G R V) : wpv K_X8_join d P 0 [some (4, (p0 : Int)), some (0, x1), some (0, x2), some (0, x3)] [] G R V := by
  refine wp_ld (i := (.aload_n 0)) (4, (p0 : Int)) rfl rfl (fun _ => rfl) rfl rfl (?_ : wpv K_X8_join d P 1 [some (4, (p0 : Int)), some (0, x1), some (0, x2), some (0, x3)] [(4, (p0 : Int))] G R V)
  refine wp_ld (i := (.iload_n 1)) (0, x1) rfl rfl (fun _ => rfl) rfl rfl (?_ : wpv K_X8_join d P 2 [some (4, (p0 : Int)), some (0, x1), some (0, x2), some (0, x3)] [(0, x1), (4, (p0 : Int))] G R V)
  refine wp_virt (as := [(0, x1)]) (a := p0) (st := []) _ rfl rfl rfl rfl rfl rfl (ly8_o l0) (Nat.le_of_ble_eq_true rfl) (cwv_kI w (fun v2 V1 w => ?_))
  show wpv K_X8_join d P 5 [some (4, (p0 : Int)), some (0, x1), some (0, x2), some (0, x3)] [(0, v2)] G R V1
  obtain ⟨s3, w⟩ := w
  refine wp_if (c := .eq) 26 rfl rfl rfl s3 (fun q => ?_) (fun q => ?_)
  · have q : v2 = 0 := q
    replace w := w.1 q
    show wpv K_X8_join d P 26 [some (4, (p0 : Int)), some (0, x1), some (0, x2), some (0, x3)] [] G R V1
    refine wp_p (i := (.iconst (-1))) rfl rfl (fun _ _ _ => rfl) (?_ : wpv K_X8_join d P 27 [some (4, (p0 : Int)), some (0, x1), some (0, x2), some (0, x3)] [(0, (-1))] G R V1)
    exact wp_rI rfl rfl rfl w
  · have q : ¬ v2 = 0 := q
    replace w := w.2 q
    show wpv K_X8_join d P 8 [some (4, (p0 : Int)), some (0, x1), some (0, x2), some (0, x3)] [] G R V1
    refine wp_ld (i := (.aload_n 0)) (4, (p0 : Int)) rfl rfl (fun _ => rfl) rfl rfl (?_ : wpv K_X8_join d P 9 [some (4, (p0 : Int)), some (0, x1), some (0, x2), some (0, x3)] [(4, (p0 : Int))] G R V1)
    refine wp_ld (i := (.iload_n 2)) (0, x2) rfl rfl (fun _ => rfl) rfl rfl (?_ : wpv K_X8_join d P 10 [some (4, (p0 : Int)), some (0, x1), some (0, x2), some (0, x3)] [(0, x2), (4, (p0 : Int))] G R V1)
    refine wp_virt (as := [(0, x2)]) (a := p0) (st := []) _ rfl rfl rfl rfl rfl rfl (ly8_o l0) (Nat.le_of_ble_eq_true rfl) (cwv_kI w (fun v5 V4 w => ?_))
    show wpv K_X8_join d P 13 [some (4, (p0 : Int)), some (0, x1), some (0, x2), some (0, x3)] [(0, v5)] G R V4
    obtain ⟨s6, w⟩ := w
    refine wp_if (c := .eq) 26 rfl rfl rfl s6 (fun q => ?_) (fun q => ?_)
    · have q : v5 = 0 := q
      replace w := w.1 q
      show wpv K_X8_join d P 26 [some (4, (p0 : Int)), some (0, x1), some (0, x2), some (0, x3)] [] G R V4
      refine wp_p (i := (.iconst (-1))) rfl rfl (fun _ _ _ => rfl) (?_ : wpv K_X8_join d P 27 [some (4, (p0 : Int)), some (0, x1), some (0, x2), some (0, x3)] [(0, (-1))] G R V4)
      exact wp_rI rfl rfl rfl w
    · have q : ¬ v5 = 0 := q
      replace w := w.2 q
      show wpv K_X8_join d P 16 [some (4, (p0 : Int)), some (0, x1), some (0, x2), some (0, x3)] [] G R V4
      refine wp_ld (i := (.iload_n 3)) (0, x3) rfl rfl (fun _ => rfl) rfl rfl (?_ : wpv K_X8_join d P 17 [some (4, (p0 : Int)), some (0, x1), some (0, x2), some (0, x3)] [(0, x3)] G R V4)
      obtain ⟨s7, w⟩ := w
      refine wp_i2l rfl rfl s7 (?_ : wpv K_X8_join d P 18 [some (4, (p0 : Int)), some (0, x1), some (0, x2), some (0, x3)] [(2, x3)] G R V4)
      refine wp_p (i := (.lconst 0)) rfl rfl (fun _ _ _ => rfl) (?_ : wpv K_X8_join d P 19 [some (4, (p0 : Int)), some (0, x1), some (0, x2), some (0, x3)] [(2, 0), (2, x3)] G R V4)
      refine wp_p (i := (.lconst 1)) rfl rfl (fun _ _ _ => rfl) (?_ : wpv K_X8_join d P 20 [some (4, (p0 : Int)), some (0, x1), some (0, x2), some (0, x3)] [(2, 1), (2, 0), (2, x3)] G R V4)
      refine wp_stat (as := [(2, x3), (2, 0), (2, 1)]) (st := []) _ rfl rfl rfl (by omega) rfl rfl (Nat.le_of_ble_eq_true rfl) (cwv_kI w (fun v9 V8 w => ?_))
      show wpv K_X8_join d P 23 [some (4, (p0 : Int)), some (0, x1), some (0, x2), some (0, x3)] [(0, v9)] G R V8
      obtain ⟨s10, w⟩ := w
      refine wp_if (c := .ne) 28 rfl rfl rfl s10 (fun q => ?_) (fun q => ?_)
      · have q : ¬ v9 = 0 := q
        replace w := w.1 q
        show wpv K_X8_join d P 28 [some (4, (p0 : Int)), some (0, x1), some (0, x2), some (0, x3)] [] G R V8
        refine wp_p (i := (.iconst 0)) rfl rfl (fun _ _ _ => rfl) (?_ : wpv K_X8_join d P 29 [some (4, (p0 : Int)), some (0, x1), some (0, x2), some (0, x3)] [(0, 0)] G R V8)
        refine wp_sto (i := (.istore 4)) _ rfl rfl (fun _ => rfl) rfl rfl rfl ?_
        refine wp_wk (L' := [some (4, (p0 : Int)), some (0, x1), some (0, x2), some (0, x3), some (0, 0)]) (wk_s (wk_s (wk_s (wk_s (wk_s wk_0))))) ?_
        show wpv K_X8_join d P 31 [some (4, (p0 : Int)), some (0, x1), some (0, x2), some (0, x3), some (0, 0)] [] G R V8
        exact wp_wk (wk_s (wk_s (wk_s (wk_s (wk_s wk_0))))) w
      · have q : v9 = 0 := Decidable.not_not.mp q
        replace w := w.2 q
        show wpv K_X8_join d P 26 [some (4, (p0 : Int)), some (0, x1), some (0, x2), some (0, x3)] [] G R V8
        refine wp_p (i := (.iconst (-1))) rfl rfl (fun _ _ _ => rfl) (?_ : wpv K_X8_join d P 27 [some (4, (p0 : Int)), some (0, x1), some (0, x2), some (0, x3)] [(0, (-1))] G R V8)
        exact wp_rI rfl rfl rfl w

theorem t_X8_join_31 {d : Nat} {P : gP} {p0 : Nat} {x1 : Int} {x2 : Int} {x3 : Int} {x4 : Int} {G : List gS} {R V : gV} (l0 : lay8 G R p0) (w : ((i32 (V p0 5)) → ((i32 x4) ∧ (((¬ x4 < (V p0 5)) → ((i32 x3) ∧ (((¬ x3 = 0) → cwv d (fun r V5 => ∃ v6 : Int, r = some (0, v6) ∧ P (some (0, v6)) V5) 188 [(4, (p0 : Int))] G R V) ∧ ((x3 = 0) → cwv d (fun r V7 => ∃ v8 : Int, r = some (0, v8) ∧ P (some (0, v8)) V7) 193 [(4, (p0 : Int))] G R V)))) ∧ ((x4 < (V p0 5)) → ((i32 (36000 + x4)) ∧ ((i32 x3) ∧ (((¬ x3 = 0) → ((i32 (120 * x1)) ∧ ((i32 ((120 * x1) + x4)) ∧ ((0 ≤ ((120 * x1) + x4) ∧ ((120 * x1) + x4) < 36120) ∧ (((V (p0 + 9) (((120 * x1) + x4))) = 0 ∨ (V (p0 + 9) (((120 * x1) + x4))) = 1) → (((¬ (V (p0 + 9) (((120 * x1) + x4))) = 0) → ((0 ≤ (36000 + x4) ∧ (36000 + x4) < 36120) ∧ ((i32 (x4 + 1)) ∧ wpv K_X8_join d P 31 [some (4, (p0 : Int)), some (0, x1), some (0, x2), some (0, x3), some (0, (x4 + 1))] [] G R (wr V (p0 + 9) ((36000 + x4)) 1)))) ∧ (((V (p0 + 9) (((120 * x1) + x4))) = 0) → ((i32 (120 * x2)) ∧ ((i32 ((120 * x2) + x4)) ∧ ((0 ≤ ((120 * x2) + x4) ∧ ((120 * x2) + x4) < 36120) ∧ (((V (p0 + 9) (((120 * x2) + x4))) = 0 ∨ (V (p0 + 9) (((120 * x2) + x4))) = 1) → ((((V (p0 + 9) (((120 * x2) + x4))) = 0) → ((0 ≤ (36000 + x4) ∧ (36000 + x4) < 36120) ∧ ((i32 (x4 + 1)) ∧ wpv K_X8_join d P 31 [some (4, (p0 : Int)), some (0, x1), some (0, x2), some (0, x3), some (0, (x4 + 1))] [] G R (wr V (p0 + 9) ((36000 + x4)) 0)))) ∧ ((¬ (V (p0 + 9) (((120 * x2) + x4))) = 0) → ((0 ≤ (36000 + x4) ∧ (36000 + x4) < 36120) ∧ ((i32 (x4 + 1)) ∧ wpv K_X8_join d P 31 [some (4, (p0 : Int)), some (0, x1), some (0, x2), some (0, x3), some (0, (x4 + 1))] [] G R (wr V (p0 + 9) ((36000 + x4)) 1)))))))))))))))) ∧ ((x3 = 0) → ((i32 (120 * x1)) ∧ ((i32 ((120 * x1) + x4)) ∧ ((0 ≤ ((120 * x1) + x4) ∧ ((120 * x1) + x4) < 36120) ∧ (((V (p0 + 9) (((120 * x1) + x4))) = 0 ∨ (V (p0 + 9) (((120 * x1) + x4))) = 1) → ((((V (p0 + 9) (((120 * x1) + x4))) = 0) → ((0 ≤ (36000 + x4) ∧ (36000 + x4) < 36120) ∧ ((i32 (x4 + 1)) ∧ wpv K_X8_join d P 31 [some (4, (p0 : Int)), some (0, x1), some (0, x2), some (0, x3), some (0, (x4 + 1))] [] G R (wr V (p0 + 9) ((36000 + x4)) 0)))) ∧ ((¬ (V (p0 + 9) (((120 * x1) + x4))) = 0) → ((i32 (120 * x2)) ∧ ((i32 ((120 * x2) + x4)) ∧ ((0 ≤ ((120 * x2) + x4) ∧ ((120 * x2) + x4) < 36120) ∧ (((V (p0 + 9) (((120 * x2) + x4))) = 0 ∨ (V (p0 + 9) (((120 * x2) + x4))) = 1) → ((((V (p0 + 9) (((120 * x2) + x4))) = 0) → ((0 ≤ (36000 + x4) ∧ (36000 + x4) < 36120) ∧ ((i32 (x4 + 1)) ∧ wpv K_X8_join d P 31 [some (4, (p0 : Int)), some (0, x1), some (0, x2), some (0, x3), some (0, (x4 + 1))] [] G R (wr V (p0 + 9) ((36000 + x4)) 0)))) ∧ ((¬ (V (p0 + 9) (((120 * x2) + x4))) = 0) → ((0 ≤ (36000 + x4) ∧ (36000 + x4) < 36120) ∧ ((i32 (x4 + 1)) ∧ wpv K_X8_join d P 31 [some (4, (p0 : Int)), some (0, x1), some (0, x2), some (0, x3), some (0, (x4 + 1))] [] G R (wr V (p0 + 9) ((36000 + x4)) 1)))))))))))))))))))))))) : wpv K_X8_join d P 31 [some (4, (p0 : Int)), some (0, x1), some (0, x2), some (0, x3), some (0, x4)] [] G R V := by
  refine wp_ld (i := (.iload 4)) (0, x4) rfl rfl (fun _ => rfl) rfl rfl (?_ : wpv K_X8_join d P 33 [some (4, (p0 : Int)), some (0, x1), some (0, x2), some (0, x3), some (0, x4)] [(0, x4)] G R V)
  refine wp_ld (i := (.aload_n 0)) (4, (p0 : Int)) rfl rfl (fun _ => rfl) rfl rfl (?_ : wpv K_X8_join d P 34 [some (4, (p0 : Int)), some (0, x1), some (0, x2), some (0, x3), some (0, x4)] [(4, (p0 : Int)), (0, x4)] G R V)
  refine wp_rng (fun vr1 => ?_)
  have f2 : i32 (V p0 5) := vr_f0 vr1 (ly8_o l0) rfl rfl
  replace w := w f2
  refine wp_getI (k := 5) rfl rfl rfl (ly8_o l0) rfl rfl (?_ : wpv K_X8_join d P 37 [some (4, (p0 : Int)), some (0, x1), some (0, x2), some (0, x3), some (0, x4)] [(0, (V p0 5)), (0, x4)] G R V)
  obtain ⟨s3, w⟩ := w
  refine wp_icmp (c := .ge) 133 rfl rfl rfl s3 f2 (fun q => ?_) (fun q => ?_)
  · have q : ¬ x4 < (V p0 5) := q
    replace w := w.1 q
    show wpv K_X8_join d P 133 [some (4, (p0 : Int)), some (0, x1), some (0, x2), some (0, x3), some (0, x4)] [] G R V
    refine wp_ld (i := (.iload_n 3)) (0, x3) rfl rfl (fun _ => rfl) rfl rfl (?_ : wpv K_X8_join d P 134 [some (4, (p0 : Int)), some (0, x1), some (0, x2), some (0, x3), some (0, x4)] [(0, x3)] G R V)
    obtain ⟨s4, w⟩ := w
    refine wp_if (c := .ne) 144 rfl rfl rfl s4 (fun q => ?_) (fun q => ?_)
    · have q : ¬ x3 = 0 := q
      replace w := w.1 q
      show wpv K_X8_join d P 144 [some (4, (p0 : Int)), some (0, x1), some (0, x2), some (0, x3), some (0, x4)] [] G R V
      refine wp_ld (i := (.aload_n 0)) (4, (p0 : Int)) rfl rfl (fun _ => rfl) rfl rfl (?_ : wpv K_X8_join d P 145 [some (4, (p0 : Int)), some (0, x1), some (0, x2), some (0, x3), some (0, x4)] [(4, (p0 : Int))] G R V)
      refine wp_virt (as := []) (a := p0) (st := []) _ rfl rfl rfl rfl rfl rfl (ly8_o l0) (Nat.le_of_ble_eq_true rfl) (cwv_kI w (fun v6 V5 w => ?_))
      show wpv K_X8_join d P 148 [some (4, (p0 : Int)), some (0, x1), some (0, x2), some (0, x3), some (0, x4)] [(0, v6)] G R V5
      exact wp_rI rfl rfl rfl w
    · have q : x3 = 0 := Decidable.not_not.mp q
      replace w := w.2 q
      show wpv K_X8_join d P 137 [some (4, (p0 : Int)), some (0, x1), some (0, x2), some (0, x3), some (0, x4)] [] G R V
      refine wp_ld (i := (.aload_n 0)) (4, (p0 : Int)) rfl rfl (fun _ => rfl) rfl rfl (?_ : wpv K_X8_join d P 138 [some (4, (p0 : Int)), some (0, x1), some (0, x2), some (0, x3), some (0, x4)] [(4, (p0 : Int))] G R V)
      refine wp_virt (as := []) (a := p0) (st := []) _ rfl rfl rfl rfl rfl rfl (ly8_o l0) (Nat.le_of_ble_eq_true rfl) (cwv_kI w (fun v8 V7 w => ?_))
      show wpv K_X8_join d P 141 [some (4, (p0 : Int)), some (0, x1), some (0, x2), some (0, x3), some (0, x4)] [(0, v8)] G R V7
      refine wp_go 148 rfl rfl rfl (?_ : wpv K_X8_join d P 148 [some (4, (p0 : Int)), some (0, x1), some (0, x2), some (0, x3), some (0, x4)] [(0, v8)] G R V7)
      exact wp_rI rfl rfl rfl w
  · have q : x4 < (V p0 5) := Decidable.not_not.mp q
    replace w := w.2 q
    show wpv K_X8_join d P 40 [some (4, (p0 : Int)), some (0, x1), some (0, x2), some (0, x3), some (0, x4)] [] G R V
    refine wp_ld (i := (.aload_n 0)) (4, (p0 : Int)) rfl rfl (fun _ => rfl) rfl rfl (?_ : wpv K_X8_join d P 41 [some (4, (p0 : Int)), some (0, x1), some (0, x2), some (0, x3), some (0, x4)] [(4, (p0 : Int))] G R V)
    refine wp_getA (k := 14) rfl rfl rfl (ly8_o l0) rfl rfl (ly8_14 l0).1 (?_ : wpv K_X8_join d P 44 [some (4, (p0 : Int)), some (0, x1), some (0, x2), some (0, x3), some (0, x4)] [(4, ((p0 + 9 : Nat) : Int))] G R V)
    refine wp_p (i := (.ldc 133)) rfl rfl (fun _ _ _ => rfl) (?_ : wpv K_X8_join d P 46 [some (4, (p0 : Int)), some (0, x1), some (0, x2), some (0, x3), some (0, x4)] [(0, 36000), (4, ((p0 + 9 : Nat) : Int))] G R V)
    refine wp_ld (i := (.iload 4)) (0, x4) rfl rfl (fun _ => rfl) rfl rfl (?_ : wpv K_X8_join d P 48 [some (4, (p0 : Int)), some (0, x1), some (0, x2), some (0, x3), some (0, x4)] [(0, x4), (0, 36000), (4, ((p0 + 9 : Nat) : Int))] G R V)
    obtain ⟨s9, w⟩ := w
    refine wp_xadd rfl rfl s9 (?_ : wpv K_X8_join d P 49 [some (4, (p0 : Int)), some (0, x1), some (0, x2), some (0, x3), some (0, x4)] [(0, (36000 + x4)), (4, ((p0 + 9 : Nat) : Int))] G R V)
    refine wp_ld (i := (.iload_n 3)) (0, x3) rfl rfl (fun _ => rfl) rfl rfl (?_ : wpv K_X8_join d P 50 [some (4, (p0 : Int)), some (0, x1), some (0, x2), some (0, x3), some (0, x4)] [(0, x3), (0, (36000 + x4)), (4, ((p0 + 9 : Nat) : Int))] G R V)
    obtain ⟨s10, w⟩ := w
    refine wp_if (c := .ne) 91 rfl rfl rfl s10 (fun q => ?_) (fun q => ?_)
    · have q : ¬ x3 = 0 := q
      replace w := w.1 q
      show wpv K_X8_join d P 91 [some (4, (p0 : Int)), some (0, x1), some (0, x2), some (0, x3), some (0, x4)] [(0, (36000 + x4)), (4, ((p0 + 9 : Nat) : Int))] G R V
      refine wp_ld (i := (.aload_n 0)) (4, (p0 : Int)) rfl rfl (fun _ => rfl) rfl rfl (?_ : wpv K_X8_join d P 92 [some (4, (p0 : Int)), some (0, x1), some (0, x2), some (0, x3), some (0, x4)] [(4, (p0 : Int)), (0, (36000 + x4)), (4, ((p0 + 9 : Nat) : Int))] G R V)
      refine wp_getA (k := 14) rfl rfl rfl (ly8_o l0) rfl rfl (ly8_14 l0).1 (?_ : wpv K_X8_join d P 95 [some (4, (p0 : Int)), some (0, x1), some (0, x2), some (0, x3), some (0, x4)] [(4, ((p0 + 9 : Nat) : Int)), (0, (36000 + x4)), (4, ((p0 + 9 : Nat) : Int))] G R V)
      refine wp_p (i := (.bipush 120)) rfl rfl (fun _ _ _ => rfl) (?_ : wpv K_X8_join d P 97 [some (4, (p0 : Int)), some (0, x1), some (0, x2), some (0, x3), some (0, x4)] [(0, 120), (4, ((p0 + 9 : Nat) : Int)), (0, (36000 + x4)), (4, ((p0 + 9 : Nat) : Int))] G R V)
      refine wp_ld (i := (.iload_n 1)) (0, x1) rfl rfl (fun _ => rfl) rfl rfl (?_ : wpv K_X8_join d P 98 [some (4, (p0 : Int)), some (0, x1), some (0, x2), some (0, x3), some (0, x4)] [(0, x1), (0, 120), (4, ((p0 + 9 : Nat) : Int)), (0, (36000 + x4)), (4, ((p0 + 9 : Nat) : Int))] G R V)
      obtain ⟨s11, w⟩ := w
      refine wp_xmul rfl rfl s11 (?_ : wpv K_X8_join d P 99 [some (4, (p0 : Int)), some (0, x1), some (0, x2), some (0, x3), some (0, x4)] [(0, (120 * x1)), (4, ((p0 + 9 : Nat) : Int)), (0, (36000 + x4)), (4, ((p0 + 9 : Nat) : Int))] G R V)
      refine wp_ld (i := (.iload 4)) (0, x4) rfl rfl (fun _ => rfl) rfl rfl (?_ : wpv K_X8_join d P 101 [some (4, (p0 : Int)), some (0, x1), some (0, x2), some (0, x3), some (0, x4)] [(0, x4), (0, (120 * x1)), (4, ((p0 + 9 : Nat) : Int)), (0, (36000 + x4)), (4, ((p0 + 9 : Nat) : Int))] G R V)
      obtain ⟨s12, w⟩ := w
      refine wp_xadd rfl rfl s12 (?_ : wpv K_X8_join d P 102 [some (4, (p0 : Int)), some (0, x1), some (0, x2), some (0, x3), some (0, x4)] [(0, ((120 * x1) + x4)), (4, ((p0 + 9 : Nat) : Int)), (0, (36000 + x4)), (4, ((p0 + 9 : Nat) : Int))] G R V)
      obtain ⟨s13, w⟩ := w
      have f14 : (V (p0 + 9) (((120 * x1) + x4))) = 0 ∨ (V (p0 + 9) (((120 * x1) + x4))) = 1 := vr_a2 vr1 (ly8_14 l0).2 s13
      replace w := w f14
      have f15 : i32 (V (p0 + 9) (((120 * x1) + x4))) := by unfold i32; omega
      refine wp_aB rfl rfl (ly8_14 l0).2 s13 (?_ : wpv K_X8_join d P 103 [some (4, (p0 : Int)), some (0, x1), some (0, x2), some (0, x3), some (0, x4)] [(0, (V (p0 + 9) (((120 * x1) + x4)))), (0, (36000 + x4)), (4, ((p0 + 9 : Nat) : Int))] G R V)
      refine wp_if (c := .ne) 121 rfl rfl rfl f15 (fun q => ?_) (fun q => ?_)
      · have q : ¬ (V (p0 + 9) (((120 * x1) + x4))) = 0 := q
        replace w := w.1 q
        show wpv K_X8_join d P 121 [some (4, (p0 : Int)), some (0, x1), some (0, x2), some (0, x3), some (0, x4)] [(0, (36000 + x4)), (4, ((p0 + 9 : Nat) : Int))] G R V
        refine wp_p (i := (.iconst 1)) rfl rfl (fun _ _ _ => rfl) (?_ : wpv K_X8_join d P 122 [some (4, (p0 : Int)), some (0, x1), some (0, x2), some (0, x3), some (0, x4)] [(0, 1), (0, (36000 + x4)), (4, ((p0 + 9 : Nat) : Int))] G R V)
        refine wp_go 126 rfl rfl rfl (?_ : wpv K_X8_join d P 126 [some (4, (p0 : Int)), some (0, x1), some (0, x2), some (0, x3), some (0, x4)] [(0, 1), (0, (36000 + x4)), (4, ((p0 + 9 : Nat) : Int))] G R V)
        obtain ⟨s16, w⟩ := w
        refine wp_sB rfl rfl (ly8_14 l0).2 s16 (by omega) (?_ : wpv K_X8_join d P 127 [some (4, (p0 : Int)), some (0, x1), some (0, x2), some (0, x3), some (0, x4)] [] G R (wr V (p0 + 9) ((36000 + x4)) 1))
        obtain ⟨s17, w⟩ := w
        refine wp_inc (x := 4) (k := 1) (a := x4) (c := (x4 + 1)) _ rfl rfl rfl rfl s17 (by omega) rfl ?_
        show wpv K_X8_join d P 130 [some (4, (p0 : Int)), some (0, x1), some (0, x2), some (0, x3), some (0, (x4 + 1))] [] G R (wr V (p0 + 9) ((36000 + x4)) 1)
        refine wp_go 31 rfl rfl rfl (?_ : wpv K_X8_join d P 31 [some (4, (p0 : Int)), some (0, x1), some (0, x2), some (0, x3), some (0, (x4 + 1))] [] G R (wr V (p0 + 9) ((36000 + x4)) 1))
        exact wp_wk (wk_s (wk_s (wk_s (wk_s (wk_s wk_0))))) w
      · have q : (V (p0 + 9) (((120 * x1) + x4))) = 0 := Decidable.not_not.mp q
        replace w := w.2 q
        show wpv K_X8_join d P 106 [some (4, (p0 : Int)), some (0, x1), some (0, x2), some (0, x3), some (0, x4)] [(0, (36000 + x4)), (4, ((p0 + 9 : Nat) : Int))] G R V
        refine wp_ld (i := (.aload_n 0)) (4, (p0 : Int)) rfl rfl (fun _ => rfl) rfl rfl (?_ : wpv K_X8_join d P 107 [some (4, (p0 : Int)), some (0, x1), some (0, x2), some (0, x3), some (0, x4)] [(4, (p0 : Int)), (0, (36000 + x4)), (4, ((p0 + 9 : Nat) : Int))] G R V)
        refine wp_getA (k := 14) rfl rfl rfl (ly8_o l0) rfl rfl (ly8_14 l0).1 (?_ : wpv K_X8_join d P 110 [some (4, (p0 : Int)), some (0, x1), some (0, x2), some (0, x3), some (0, x4)] [(4, ((p0 + 9 : Nat) : Int)), (0, (36000 + x4)), (4, ((p0 + 9 : Nat) : Int))] G R V)
        refine wp_p (i := (.bipush 120)) rfl rfl (fun _ _ _ => rfl) (?_ : wpv K_X8_join d P 112 [some (4, (p0 : Int)), some (0, x1), some (0, x2), some (0, x3), some (0, x4)] [(0, 120), (4, ((p0 + 9 : Nat) : Int)), (0, (36000 + x4)), (4, ((p0 + 9 : Nat) : Int))] G R V)
        refine wp_ld (i := (.iload_n 2)) (0, x2) rfl rfl (fun _ => rfl) rfl rfl (?_ : wpv K_X8_join d P 113 [some (4, (p0 : Int)), some (0, x1), some (0, x2), some (0, x3), some (0, x4)] [(0, x2), (0, 120), (4, ((p0 + 9 : Nat) : Int)), (0, (36000 + x4)), (4, ((p0 + 9 : Nat) : Int))] G R V)
        obtain ⟨s18, w⟩ := w
        refine wp_xmul rfl rfl s18 (?_ : wpv K_X8_join d P 114 [some (4, (p0 : Int)), some (0, x1), some (0, x2), some (0, x3), some (0, x4)] [(0, (120 * x2)), (4, ((p0 + 9 : Nat) : Int)), (0, (36000 + x4)), (4, ((p0 + 9 : Nat) : Int))] G R V)
        refine wp_ld (i := (.iload 4)) (0, x4) rfl rfl (fun _ => rfl) rfl rfl (?_ : wpv K_X8_join d P 116 [some (4, (p0 : Int)), some (0, x1), some (0, x2), some (0, x3), some (0, x4)] [(0, x4), (0, (120 * x2)), (4, ((p0 + 9 : Nat) : Int)), (0, (36000 + x4)), (4, ((p0 + 9 : Nat) : Int))] G R V)
        obtain ⟨s19, w⟩ := w
        refine wp_xadd rfl rfl s19 (?_ : wpv K_X8_join d P 117 [some (4, (p0 : Int)), some (0, x1), some (0, x2), some (0, x3), some (0, x4)] [(0, ((120 * x2) + x4)), (4, ((p0 + 9 : Nat) : Int)), (0, (36000 + x4)), (4, ((p0 + 9 : Nat) : Int))] G R V)
        obtain ⟨s20, w⟩ := w
        have f21 : (V (p0 + 9) (((120 * x2) + x4))) = 0 ∨ (V (p0 + 9) (((120 * x2) + x4))) = 1 := vr_a2 vr1 (ly8_14 l0).2 s20
        replace w := w f21
        have f22 : i32 (V (p0 + 9) (((120 * x2) + x4))) := by unfold i32; omega
        refine wp_aB rfl rfl (ly8_14 l0).2 s20 (?_ : wpv K_X8_join d P 118 [some (4, (p0 : Int)), some (0, x1), some (0, x2), some (0, x3), some (0, x4)] [(0, (V (p0 + 9) (((120 * x2) + x4)))), (0, (36000 + x4)), (4, ((p0 + 9 : Nat) : Int))] G R V)
        refine wp_if (c := .eq) 125 rfl rfl rfl f22 (fun q => ?_) (fun q => ?_)
        · have q : (V (p0 + 9) (((120 * x2) + x4))) = 0 := q
          replace w := w.1 q
          show wpv K_X8_join d P 125 [some (4, (p0 : Int)), some (0, x1), some (0, x2), some (0, x3), some (0, x4)] [(0, (36000 + x4)), (4, ((p0 + 9 : Nat) : Int))] G R V
          refine wp_p (i := (.iconst 0)) rfl rfl (fun _ _ _ => rfl) (?_ : wpv K_X8_join d P 126 [some (4, (p0 : Int)), some (0, x1), some (0, x2), some (0, x3), some (0, x4)] [(0, 0), (0, (36000 + x4)), (4, ((p0 + 9 : Nat) : Int))] G R V)
          obtain ⟨s23, w⟩ := w
          refine wp_sB rfl rfl (ly8_14 l0).2 s23 (by omega) (?_ : wpv K_X8_join d P 127 [some (4, (p0 : Int)), some (0, x1), some (0, x2), some (0, x3), some (0, x4)] [] G R (wr V (p0 + 9) ((36000 + x4)) 0))
          obtain ⟨s24, w⟩ := w
          refine wp_inc (x := 4) (k := 1) (a := x4) (c := (x4 + 1)) _ rfl rfl rfl rfl s24 (by omega) rfl ?_
          show wpv K_X8_join d P 130 [some (4, (p0 : Int)), some (0, x1), some (0, x2), some (0, x3), some (0, (x4 + 1))] [] G R (wr V (p0 + 9) ((36000 + x4)) 0)
          refine wp_go 31 rfl rfl rfl (?_ : wpv K_X8_join d P 31 [some (4, (p0 : Int)), some (0, x1), some (0, x2), some (0, x3), some (0, (x4 + 1))] [] G R (wr V (p0 + 9) ((36000 + x4)) 0))
          exact wp_wk (wk_s (wk_s (wk_s (wk_s (wk_s wk_0))))) w
        · have q : ¬ (V (p0 + 9) (((120 * x2) + x4))) = 0 := q
          replace w := w.2 q
          show wpv K_X8_join d P 121 [some (4, (p0 : Int)), some (0, x1), some (0, x2), some (0, x3), some (0, x4)] [(0, (36000 + x4)), (4, ((p0 + 9 : Nat) : Int))] G R V
          refine wp_p (i := (.iconst 1)) rfl rfl (fun _ _ _ => rfl) (?_ : wpv K_X8_join d P 122 [some (4, (p0 : Int)), some (0, x1), some (0, x2), some (0, x3), some (0, x4)] [(0, 1), (0, (36000 + x4)), (4, ((p0 + 9 : Nat) : Int))] G R V)
          refine wp_go 126 rfl rfl rfl (?_ : wpv K_X8_join d P 126 [some (4, (p0 : Int)), some (0, x1), some (0, x2), some (0, x3), some (0, x4)] [(0, 1), (0, (36000 + x4)), (4, ((p0 + 9 : Nat) : Int))] G R V)
          obtain ⟨s25, w⟩ := w
          refine wp_sB rfl rfl (ly8_14 l0).2 s25 (by omega) (?_ : wpv K_X8_join d P 127 [some (4, (p0 : Int)), some (0, x1), some (0, x2), some (0, x3), some (0, x4)] [] G R (wr V (p0 + 9) ((36000 + x4)) 1))
          obtain ⟨s26, w⟩ := w
          refine wp_inc (x := 4) (k := 1) (a := x4) (c := (x4 + 1)) _ rfl rfl rfl rfl s26 (by omega) rfl ?_
          show wpv K_X8_join d P 130 [some (4, (p0 : Int)), some (0, x1), some (0, x2), some (0, x3), some (0, (x4 + 1))] [] G R (wr V (p0 + 9) ((36000 + x4)) 1)
          refine wp_go 31 rfl rfl rfl (?_ : wpv K_X8_join d P 31 [some (4, (p0 : Int)), some (0, x1), some (0, x2), some (0, x3), some (0, (x4 + 1))] [] G R (wr V (p0 + 9) ((36000 + x4)) 1))
          exact wp_wk (wk_s (wk_s (wk_s (wk_s (wk_s wk_0))))) w
    · have q : x3 = 0 := Decidable.not_not.mp q
      replace w := w.2 q
      show wpv K_X8_join d P 53 [some (4, (p0 : Int)), some (0, x1), some (0, x2), some (0, x3), some (0, x4)] [(0, (36000 + x4)), (4, ((p0 + 9 : Nat) : Int))] G R V
      refine wp_ld (i := (.aload_n 0)) (4, (p0 : Int)) rfl rfl (fun _ => rfl) rfl rfl (?_ : wpv K_X8_join d P 54 [some (4, (p0 : Int)), some (0, x1), some (0, x2), some (0, x3), some (0, x4)] [(4, (p0 : Int)), (0, (36000 + x4)), (4, ((p0 + 9 : Nat) : Int))] G R V)
      refine wp_getA (k := 14) rfl rfl rfl (ly8_o l0) rfl rfl (ly8_14 l0).1 (?_ : wpv K_X8_join d P 57 [some (4, (p0 : Int)), some (0, x1), some (0, x2), some (0, x3), some (0, x4)] [(4, ((p0 + 9 : Nat) : Int)), (0, (36000 + x4)), (4, ((p0 + 9 : Nat) : Int))] G R V)
      refine wp_p (i := (.bipush 120)) rfl rfl (fun _ _ _ => rfl) (?_ : wpv K_X8_join d P 59 [some (4, (p0 : Int)), some (0, x1), some (0, x2), some (0, x3), some (0, x4)] [(0, 120), (4, ((p0 + 9 : Nat) : Int)), (0, (36000 + x4)), (4, ((p0 + 9 : Nat) : Int))] G R V)
      refine wp_ld (i := (.iload_n 1)) (0, x1) rfl rfl (fun _ => rfl) rfl rfl (?_ : wpv K_X8_join d P 60 [some (4, (p0 : Int)), some (0, x1), some (0, x2), some (0, x3), some (0, x4)] [(0, x1), (0, 120), (4, ((p0 + 9 : Nat) : Int)), (0, (36000 + x4)), (4, ((p0 + 9 : Nat) : Int))] G R V)
      obtain ⟨s27, w⟩ := w
      refine wp_xmul rfl rfl s27 (?_ : wpv K_X8_join d P 61 [some (4, (p0 : Int)), some (0, x1), some (0, x2), some (0, x3), some (0, x4)] [(0, (120 * x1)), (4, ((p0 + 9 : Nat) : Int)), (0, (36000 + x4)), (4, ((p0 + 9 : Nat) : Int))] G R V)
      refine wp_ld (i := (.iload 4)) (0, x4) rfl rfl (fun _ => rfl) rfl rfl (?_ : wpv K_X8_join d P 63 [some (4, (p0 : Int)), some (0, x1), some (0, x2), some (0, x3), some (0, x4)] [(0, x4), (0, (120 * x1)), (4, ((p0 + 9 : Nat) : Int)), (0, (36000 + x4)), (4, ((p0 + 9 : Nat) : Int))] G R V)
      obtain ⟨s28, w⟩ := w
      refine wp_xadd rfl rfl s28 (?_ : wpv K_X8_join d P 64 [some (4, (p0 : Int)), some (0, x1), some (0, x2), some (0, x3), some (0, x4)] [(0, ((120 * x1) + x4)), (4, ((p0 + 9 : Nat) : Int)), (0, (36000 + x4)), (4, ((p0 + 9 : Nat) : Int))] G R V)
      obtain ⟨s29, w⟩ := w
      have f30 : (V (p0 + 9) (((120 * x1) + x4))) = 0 ∨ (V (p0 + 9) (((120 * x1) + x4))) = 1 := vr_a2 vr1 (ly8_14 l0).2 s29
      replace w := w f30
      have f31 : i32 (V (p0 + 9) (((120 * x1) + x4))) := by unfold i32; omega
      refine wp_aB rfl rfl (ly8_14 l0).2 s29 (?_ : wpv K_X8_join d P 65 [some (4, (p0 : Int)), some (0, x1), some (0, x2), some (0, x3), some (0, x4)] [(0, (V (p0 + 9) (((120 * x1) + x4)))), (0, (36000 + x4)), (4, ((p0 + 9 : Nat) : Int))] G R V)
      refine wp_if (c := .eq) 87 rfl rfl rfl f31 (fun q => ?_) (fun q => ?_)
      · have q : (V (p0 + 9) (((120 * x1) + x4))) = 0 := q
        replace w := w.1 q
        show wpv K_X8_join d P 87 [some (4, (p0 : Int)), some (0, x1), some (0, x2), some (0, x3), some (0, x4)] [(0, (36000 + x4)), (4, ((p0 + 9 : Nat) : Int))] G R V
        refine wp_p (i := (.iconst 0)) rfl rfl (fun _ _ _ => rfl) (?_ : wpv K_X8_join d P 88 [some (4, (p0 : Int)), some (0, x1), some (0, x2), some (0, x3), some (0, x4)] [(0, 0), (0, (36000 + x4)), (4, ((p0 + 9 : Nat) : Int))] G R V)
        refine wp_go 126 rfl rfl rfl (?_ : wpv K_X8_join d P 126 [some (4, (p0 : Int)), some (0, x1), some (0, x2), some (0, x3), some (0, x4)] [(0, 0), (0, (36000 + x4)), (4, ((p0 + 9 : Nat) : Int))] G R V)
        obtain ⟨s32, w⟩ := w
        refine wp_sB rfl rfl (ly8_14 l0).2 s32 (by omega) (?_ : wpv K_X8_join d P 127 [some (4, (p0 : Int)), some (0, x1), some (0, x2), some (0, x3), some (0, x4)] [] G R (wr V (p0 + 9) ((36000 + x4)) 0))
        obtain ⟨s33, w⟩ := w
        refine wp_inc (x := 4) (k := 1) (a := x4) (c := (x4 + 1)) _ rfl rfl rfl rfl s33 (by omega) rfl ?_
        show wpv K_X8_join d P 130 [some (4, (p0 : Int)), some (0, x1), some (0, x2), some (0, x3), some (0, (x4 + 1))] [] G R (wr V (p0 + 9) ((36000 + x4)) 0)
        refine wp_go 31 rfl rfl rfl (?_ : wpv K_X8_join d P 31 [some (4, (p0 : Int)), some (0, x1), some (0, x2), some (0, x3), some (0, (x4 + 1))] [] G R (wr V (p0 + 9) ((36000 + x4)) 0))
        exact wp_wk (wk_s (wk_s (wk_s (wk_s (wk_s wk_0))))) w
      · have q : ¬ (V (p0 + 9) (((120 * x1) + x4))) = 0 := q
        replace w := w.2 q
        show wpv K_X8_join d P 68 [some (4, (p0 : Int)), some (0, x1), some (0, x2), some (0, x3), some (0, x4)] [(0, (36000 + x4)), (4, ((p0 + 9 : Nat) : Int))] G R V
        refine wp_ld (i := (.aload_n 0)) (4, (p0 : Int)) rfl rfl (fun _ => rfl) rfl rfl (?_ : wpv K_X8_join d P 69 [some (4, (p0 : Int)), some (0, x1), some (0, x2), some (0, x3), some (0, x4)] [(4, (p0 : Int)), (0, (36000 + x4)), (4, ((p0 + 9 : Nat) : Int))] G R V)
        refine wp_getA (k := 14) rfl rfl rfl (ly8_o l0) rfl rfl (ly8_14 l0).1 (?_ : wpv K_X8_join d P 72 [some (4, (p0 : Int)), some (0, x1), some (0, x2), some (0, x3), some (0, x4)] [(4, ((p0 + 9 : Nat) : Int)), (0, (36000 + x4)), (4, ((p0 + 9 : Nat) : Int))] G R V)
        refine wp_p (i := (.bipush 120)) rfl rfl (fun _ _ _ => rfl) (?_ : wpv K_X8_join d P 74 [some (4, (p0 : Int)), some (0, x1), some (0, x2), some (0, x3), some (0, x4)] [(0, 120), (4, ((p0 + 9 : Nat) : Int)), (0, (36000 + x4)), (4, ((p0 + 9 : Nat) : Int))] G R V)
        refine wp_ld (i := (.iload_n 2)) (0, x2) rfl rfl (fun _ => rfl) rfl rfl (?_ : wpv K_X8_join d P 75 [some (4, (p0 : Int)), some (0, x1), some (0, x2), some (0, x3), some (0, x4)] [(0, x2), (0, 120), (4, ((p0 + 9 : Nat) : Int)), (0, (36000 + x4)), (4, ((p0 + 9 : Nat) : Int))] G R V)
        obtain ⟨s34, w⟩ := w
        refine wp_xmul rfl rfl s34 (?_ : wpv K_X8_join d P 76 [some (4, (p0 : Int)), some (0, x1), some (0, x2), some (0, x3), some (0, x4)] [(0, (120 * x2)), (4, ((p0 + 9 : Nat) : Int)), (0, (36000 + x4)), (4, ((p0 + 9 : Nat) : Int))] G R V)
        refine wp_ld (i := (.iload 4)) (0, x4) rfl rfl (fun _ => rfl) rfl rfl (?_ : wpv K_X8_join d P 78 [some (4, (p0 : Int)), some (0, x1), some (0, x2), some (0, x3), some (0, x4)] [(0, x4), (0, (120 * x2)), (4, ((p0 + 9 : Nat) : Int)), (0, (36000 + x4)), (4, ((p0 + 9 : Nat) : Int))] G R V)
        obtain ⟨s35, w⟩ := w
        refine wp_xadd rfl rfl s35 (?_ : wpv K_X8_join d P 79 [some (4, (p0 : Int)), some (0, x1), some (0, x2), some (0, x3), some (0, x4)] [(0, ((120 * x2) + x4)), (4, ((p0 + 9 : Nat) : Int)), (0, (36000 + x4)), (4, ((p0 + 9 : Nat) : Int))] G R V)
        obtain ⟨s36, w⟩ := w
        have f37 : (V (p0 + 9) (((120 * x2) + x4))) = 0 ∨ (V (p0 + 9) (((120 * x2) + x4))) = 1 := vr_a2 vr1 (ly8_14 l0).2 s36
        replace w := w f37
        have f38 : i32 (V (p0 + 9) (((120 * x2) + x4))) := by unfold i32; omega
        refine wp_aB rfl rfl (ly8_14 l0).2 s36 (?_ : wpv K_X8_join d P 80 [some (4, (p0 : Int)), some (0, x1), some (0, x2), some (0, x3), some (0, x4)] [(0, (V (p0 + 9) (((120 * x2) + x4)))), (0, (36000 + x4)), (4, ((p0 + 9 : Nat) : Int))] G R V)
        refine wp_if (c := .eq) 87 rfl rfl rfl f38 (fun q => ?_) (fun q => ?_)
        · have q : (V (p0 + 9) (((120 * x2) + x4))) = 0 := q
          replace w := w.1 q
          show wpv K_X8_join d P 87 [some (4, (p0 : Int)), some (0, x1), some (0, x2), some (0, x3), some (0, x4)] [(0, (36000 + x4)), (4, ((p0 + 9 : Nat) : Int))] G R V
          refine wp_p (i := (.iconst 0)) rfl rfl (fun _ _ _ => rfl) (?_ : wpv K_X8_join d P 88 [some (4, (p0 : Int)), some (0, x1), some (0, x2), some (0, x3), some (0, x4)] [(0, 0), (0, (36000 + x4)), (4, ((p0 + 9 : Nat) : Int))] G R V)
          refine wp_go 126 rfl rfl rfl (?_ : wpv K_X8_join d P 126 [some (4, (p0 : Int)), some (0, x1), some (0, x2), some (0, x3), some (0, x4)] [(0, 0), (0, (36000 + x4)), (4, ((p0 + 9 : Nat) : Int))] G R V)
          obtain ⟨s39, w⟩ := w
          refine wp_sB rfl rfl (ly8_14 l0).2 s39 (by omega) (?_ : wpv K_X8_join d P 127 [some (4, (p0 : Int)), some (0, x1), some (0, x2), some (0, x3), some (0, x4)] [] G R (wr V (p0 + 9) ((36000 + x4)) 0))
          obtain ⟨s40, w⟩ := w
          refine wp_inc (x := 4) (k := 1) (a := x4) (c := (x4 + 1)) _ rfl rfl rfl rfl s40 (by omega) rfl ?_
          show wpv K_X8_join d P 130 [some (4, (p0 : Int)), some (0, x1), some (0, x2), some (0, x3), some (0, (x4 + 1))] [] G R (wr V (p0 + 9) ((36000 + x4)) 0)
          refine wp_go 31 rfl rfl rfl (?_ : wpv K_X8_join d P 31 [some (4, (p0 : Int)), some (0, x1), some (0, x2), some (0, x3), some (0, (x4 + 1))] [] G R (wr V (p0 + 9) ((36000 + x4)) 0))
          exact wp_wk (wk_s (wk_s (wk_s (wk_s (wk_s wk_0))))) w
        · have q : ¬ (V (p0 + 9) (((120 * x2) + x4))) = 0 := q
          replace w := w.2 q
          show wpv K_X8_join d P 83 [some (4, (p0 : Int)), some (0, x1), some (0, x2), some (0, x3), some (0, x4)] [(0, (36000 + x4)), (4, ((p0 + 9 : Nat) : Int))] G R V
          refine wp_p (i := (.iconst 1)) rfl rfl (fun _ _ _ => rfl) (?_ : wpv K_X8_join d P 84 [some (4, (p0 : Int)), some (0, x1), some (0, x2), some (0, x3), some (0, x4)] [(0, 1), (0, (36000 + x4)), (4, ((p0 + 9 : Nat) : Int))] G R V)
          refine wp_go 126 rfl rfl rfl (?_ : wpv K_X8_join d P 126 [some (4, (p0 : Int)), some (0, x1), some (0, x2), some (0, x3), some (0, x4)] [(0, 1), (0, (36000 + x4)), (4, ((p0 + 9 : Nat) : Int))] G R V)
          obtain ⟨s41, w⟩ := w
          refine wp_sB rfl rfl (ly8_14 l0).2 s41 (by omega) (?_ : wpv K_X8_join d P 127 [some (4, (p0 : Int)), some (0, x1), some (0, x2), some (0, x3), some (0, x4)] [] G R (wr V (p0 + 9) ((36000 + x4)) 1))
          obtain ⟨s42, w⟩ := w
          refine wp_inc (x := 4) (k := 1) (a := x4) (c := (x4 + 1)) _ rfl rfl rfl rfl s42 (by omega) rfl ?_
          show wpv K_X8_join d P 130 [some (4, (p0 : Int)), some (0, x1), some (0, x2), some (0, x3), some (0, (x4 + 1))] [] G R (wr V (p0 + 9) ((36000 + x4)) 1)
          refine wp_go 31 rfl rfl rfl (?_ : wpv K_X8_join d P 31 [some (4, (p0 : Int)), some (0, x1), some (0, x2), some (0, x3), some (0, (x4 + 1))] [] G R (wr V (p0 + 9) ((36000 + x4)) 1))
          exact wp_wk (wk_s (wk_s (wk_s (wk_s (wk_s wk_0))))) w
theorem t_X8_ofClass_0 {d : Nat} {P : gP} {p0 : Nat} {x1 : Int} {x2 : Int} {G : List gS} {R V : gV} (l0 : lay8 G R p0) (w : cwv d (fun r V1 => ∃ v2 : Int, r = some (0, v2) ∧ ((i32 v2) ∧ (((¬ v2 = 0) → ((i32 x2) ∧ (((¬ x2 = 0) → (((¬ x2 = 1) → (((¬ x2 = 2) → P (some (0, (-1))) V1) ∧ ((x2 = 2) → ((0 ≤ x1 ∧ x1 < 300) ∧ ((i32 (V1 (p0 + 15) x1)) → P (some (0, (V1 (p0 + 15) x1))) V1))))) ∧ ((x2 = 1) → ((0 ≤ x1 ∧ x1 < 300) ∧ ((i32 (V1 (p0 + 16) x1)) → P (some (0, (V1 (p0 + 16) x1))) V1))))) ∧ ((x2 = 0) → ((0 ≤ x1 ∧ x1 < 300) ∧ ((i32 (V1 (p0 + 15) x1)) → ((0 ≤ (V1 (p0 + 15) x1) ∧ (V1 (p0 + 15) x1) < 301) ∧ ((i32 (V1 (p0 + 10) ((V1 (p0 + 15) x1)))) → P (some (0, (V1 (p0 + 10) ((V1 (p0 + 15) x1))))) V1)))))))) ∧ ((v2 = 0) → P (some (0, (-1))) V1)))) 185 [(4, (p0 : Int)), (0, x1)] G R V) : wpv K_X8_ofClass d P 0 [some (4, (p0 : Int)), some (0, x1), some (0, x2)] [] G R V := by
  refine wp_ld (i := (.aload_n 0)) (4, (p0 : Int)) rfl rfl (fun _ => rfl) rfl rfl (?_ : wpv K_X8_ofClass d P 1 [some (4, (p0 : Int)), some (0, x1), some (0, x2)] [(4, (p0 : Int))] G R V)
  refine wp_ld (i := (.iload_n 1)) (0, x1) rfl rfl (fun _ => rfl) rfl rfl (?_ : wpv K_X8_ofClass d P 2 [some (4, (p0 : Int)), some (0, x1), some (0, x2)] [(0, x1), (4, (p0 : Int))] G R V)
  refine wp_virt (as := [(0, x1)]) (a := p0) (st := []) _ rfl rfl rfl rfl rfl rfl (ly8_o l0) (Nat.le_of_ble_eq_true rfl) (cwv_kI w (fun v2 V1 w => ?_))
  show wpv K_X8_ofClass d P 5 [some (4, (p0 : Int)), some (0, x1), some (0, x2)] [(0, v2)] G R V1
  obtain ⟨s3, w⟩ := w
  refine wp_if (c := .ne) 10 rfl rfl rfl s3 (fun q => ?_) (fun q => ?_)
  · have q : ¬ v2 = 0 := q
    replace w := w.1 q
    show wpv K_X8_ofClass d P 10 [some (4, (p0 : Int)), some (0, x1), some (0, x2)] [] G R V1
    refine wp_ld (i := (.iload_n 2)) (0, x2) rfl rfl (fun _ => rfl) rfl rfl (?_ : wpv K_X8_ofClass d P 11 [some (4, (p0 : Int)), some (0, x1), some (0, x2)] [(0, x2)] G R V1)
    obtain ⟨s4, w⟩ := w
    refine wp_if (c := .ne) 28 rfl rfl rfl s4 (fun q => ?_) (fun q => ?_)
    · have q : ¬ x2 = 0 := q
      replace w := w.1 q
      show wpv K_X8_ofClass d P 28 [some (4, (p0 : Int)), some (0, x1), some (0, x2)] [] G R V1
      refine wp_ld (i := (.iload_n 2)) (0, x2) rfl rfl (fun _ => rfl) rfl rfl (?_ : wpv K_X8_ofClass d P 29 [some (4, (p0 : Int)), some (0, x1), some (0, x2)] [(0, x2)] G R V1)
      refine wp_p (i := (.iconst 1)) rfl rfl (fun _ _ _ => rfl) (?_ : wpv K_X8_ofClass d P 30 [some (4, (p0 : Int)), some (0, x1), some (0, x2)] [(0, 1), (0, x2)] G R V1)
      refine wp_icmp (c := .ne) 42 rfl rfl rfl s4 ⟨by omega, by omega⟩ (fun q => ?_) (fun q => ?_)
      · have q : ¬ x2 = 1 := q
        replace w := w.1 q
        show wpv K_X8_ofClass d P 42 [some (4, (p0 : Int)), some (0, x1), some (0, x2)] [] G R V1
        refine wp_ld (i := (.iload_n 2)) (0, x2) rfl rfl (fun _ => rfl) rfl rfl (?_ : wpv K_X8_ofClass d P 43 [some (4, (p0 : Int)), some (0, x1), some (0, x2)] [(0, x2)] G R V1)
        refine wp_p (i := (.iconst 2)) rfl rfl (fun _ _ _ => rfl) (?_ : wpv K_X8_ofClass d P 44 [some (4, (p0 : Int)), some (0, x1), some (0, x2)] [(0, 2), (0, x2)] G R V1)
        refine wp_icmp (c := .ne) 56 rfl rfl rfl s4 ⟨by omega, by omega⟩ (fun q => ?_) (fun q => ?_)
        · have q : ¬ x2 = 2 := q
          replace w := w.1 q
          show wpv K_X8_ofClass d P 56 [some (4, (p0 : Int)), some (0, x1), some (0, x2)] [] G R V1
          refine wp_p (i := (.iconst (-1))) rfl rfl (fun _ _ _ => rfl) (?_ : wpv K_X8_ofClass d P 57 [some (4, (p0 : Int)), some (0, x1), some (0, x2)] [(0, (-1))] G R V1)
          exact wp_rI rfl rfl rfl w
        · have q : x2 = 2 := Decidable.not_not.mp q
          replace w := w.2 q
          show wpv K_X8_ofClass d P 47 [some (4, (p0 : Int)), some (0, x1), some (0, x2)] [] G R V1
          refine wp_ld (i := (.aload_n 0)) (4, (p0 : Int)) rfl rfl (fun _ => rfl) rfl rfl (?_ : wpv K_X8_ofClass d P 48 [some (4, (p0 : Int)), some (0, x1), some (0, x2)] [(4, (p0 : Int))] G R V1)
          refine wp_getA (k := 20) rfl rfl rfl (ly8_o l0) rfl rfl (ly8_20 l0).1 (?_ : wpv K_X8_ofClass d P 51 [some (4, (p0 : Int)), some (0, x1), some (0, x2)] [(4, ((p0 + 15 : Nat) : Int))] G R V1)
          refine wp_ld (i := (.iload_n 1)) (0, x1) rfl rfl (fun _ => rfl) rfl rfl (?_ : wpv K_X8_ofClass d P 52 [some (4, (p0 : Int)), some (0, x1), some (0, x2)] [(0, x1), (4, ((p0 + 15 : Nat) : Int))] G R V1)
          obtain ⟨s5, w⟩ := w
          refine wp_rng (fun vr6 => ?_)
          have f7 : i32 (V1 (p0 + 15) x1) := vr_a0 vr6 (ly8_20 l0).2 s5
          replace w := w f7
          refine wp_aI rfl rfl (ly8_20 l0).2 s5 (?_ : wpv K_X8_ofClass d P 53 [some (4, (p0 : Int)), some (0, x1), some (0, x2)] [(0, (V1 (p0 + 15) x1))] G R V1)
          refine wp_go 57 rfl rfl rfl (?_ : wpv K_X8_ofClass d P 57 [some (4, (p0 : Int)), some (0, x1), some (0, x2)] [(0, (V1 (p0 + 15) x1))] G R V1)
          exact wp_rI rfl rfl rfl w
      · have q : x2 = 1 := Decidable.not_not.mp q
        replace w := w.2 q
        show wpv K_X8_ofClass d P 33 [some (4, (p0 : Int)), some (0, x1), some (0, x2)] [] G R V1
        refine wp_ld (i := (.aload_n 0)) (4, (p0 : Int)) rfl rfl (fun _ => rfl) rfl rfl (?_ : wpv K_X8_ofClass d P 34 [some (4, (p0 : Int)), some (0, x1), some (0, x2)] [(4, (p0 : Int))] G R V1)
        refine wp_getA (k := 21) rfl rfl rfl (ly8_o l0) rfl rfl (ly8_21 l0).1 (?_ : wpv K_X8_ofClass d P 37 [some (4, (p0 : Int)), some (0, x1), some (0, x2)] [(4, ((p0 + 16 : Nat) : Int))] G R V1)
        refine wp_ld (i := (.iload_n 1)) (0, x1) rfl rfl (fun _ => rfl) rfl rfl (?_ : wpv K_X8_ofClass d P 38 [some (4, (p0 : Int)), some (0, x1), some (0, x2)] [(0, x1), (4, ((p0 + 16 : Nat) : Int))] G R V1)
        obtain ⟨s8, w⟩ := w
        refine wp_rng (fun vr9 => ?_)
        have f10 : i32 (V1 (p0 + 16) x1) := vr_a0 vr9 (ly8_21 l0).2 s8
        replace w := w f10
        refine wp_aI rfl rfl (ly8_21 l0).2 s8 (?_ : wpv K_X8_ofClass d P 39 [some (4, (p0 : Int)), some (0, x1), some (0, x2)] [(0, (V1 (p0 + 16) x1))] G R V1)
        refine wp_go 57 rfl rfl rfl (?_ : wpv K_X8_ofClass d P 57 [some (4, (p0 : Int)), some (0, x1), some (0, x2)] [(0, (V1 (p0 + 16) x1))] G R V1)
        exact wp_rI rfl rfl rfl w
    · have q : x2 = 0 := Decidable.not_not.mp q
      replace w := w.2 q
      show wpv K_X8_ofClass d P 14 [some (4, (p0 : Int)), some (0, x1), some (0, x2)] [] G R V1
      refine wp_ld (i := (.aload_n 0)) (4, (p0 : Int)) rfl rfl (fun _ => rfl) rfl rfl (?_ : wpv K_X8_ofClass d P 15 [some (4, (p0 : Int)), some (0, x1), some (0, x2)] [(4, (p0 : Int))] G R V1)
      refine wp_getA (k := 15) rfl rfl rfl (ly8_o l0) rfl rfl (ly8_15 l0).1 (?_ : wpv K_X8_ofClass d P 18 [some (4, (p0 : Int)), some (0, x1), some (0, x2)] [(4, ((p0 + 10 : Nat) : Int))] G R V1)
      refine wp_ld (i := (.aload_n 0)) (4, (p0 : Int)) rfl rfl (fun _ => rfl) rfl rfl (?_ : wpv K_X8_ofClass d P 19 [some (4, (p0 : Int)), some (0, x1), some (0, x2)] [(4, (p0 : Int)), (4, ((p0 + 10 : Nat) : Int))] G R V1)
      refine wp_getA (k := 20) rfl rfl rfl (ly8_o l0) rfl rfl (ly8_20 l0).1 (?_ : wpv K_X8_ofClass d P 22 [some (4, (p0 : Int)), some (0, x1), some (0, x2)] [(4, ((p0 + 15 : Nat) : Int)), (4, ((p0 + 10 : Nat) : Int))] G R V1)
      refine wp_ld (i := (.iload_n 1)) (0, x1) rfl rfl (fun _ => rfl) rfl rfl (?_ : wpv K_X8_ofClass d P 23 [some (4, (p0 : Int)), some (0, x1), some (0, x2)] [(0, x1), (4, ((p0 + 15 : Nat) : Int)), (4, ((p0 + 10 : Nat) : Int))] G R V1)
      obtain ⟨s11, w⟩ := w
      refine wp_rng (fun vr12 => ?_)
      have f13 : i32 (V1 (p0 + 15) x1) := vr_a0 vr12 (ly8_20 l0).2 s11
      replace w := w f13
      refine wp_aI rfl rfl (ly8_20 l0).2 s11 (?_ : wpv K_X8_ofClass d P 24 [some (4, (p0 : Int)), some (0, x1), some (0, x2)] [(0, (V1 (p0 + 15) x1)), (4, ((p0 + 10 : Nat) : Int))] G R V1)
      obtain ⟨s14, w⟩ := w
      have f15 : i32 (V1 (p0 + 10) ((V1 (p0 + 15) x1))) := vr_a0 vr12 (ly8_15 l0).2 s14
      replace w := w f15
      refine wp_aI rfl rfl (ly8_15 l0).2 s14 (?_ : wpv K_X8_ofClass d P 25 [some (4, (p0 : Int)), some (0, x1), some (0, x2)] [(0, (V1 (p0 + 10) ((V1 (p0 + 15) x1))))] G R V1)
      refine wp_go 57 rfl rfl rfl (?_ : wpv K_X8_ofClass d P 57 [some (4, (p0 : Int)), some (0, x1), some (0, x2)] [(0, (V1 (p0 + 10) ((V1 (p0 + 15) x1))))] G R V1)
      exact wp_rI rfl rfl rfl w
  · have q : v2 = 0 := Decidable.not_not.mp q
    replace w := w.2 q
    show wpv K_X8_ofClass d P 8 [some (4, (p0 : Int)), some (0, x1), some (0, x2)] [] G R V1
    refine wp_p (i := (.iconst (-1))) rfl rfl (fun _ _ _ => rfl) (?_ : wpv K_X8_ofClass d P 9 [some (4, (p0 : Int)), some (0, x1), some (0, x2)] [(0, (-1))] G R V1)
    exact wp_rI rfl rfl rfl w
theorem t_X8_within_0 {d : Nat} {P : gP} {p0 : Nat} {x1 : Int} {x2 : Int} {x3 : Int} {G : List gS} {R V : gV} (l0 : lay8 G R p0) (w : cwv d (fun r V1 => ∃ v2 : Int, r = some (0, v2) ∧ ((i32 v2) ∧ (((v2 = 0) → P (some (0, (-1))) V1) ∧ ((¬ v2 = 0) → cwv d (fun r V4 => ∃ v5 : Int, r = some (0, v5) ∧ ((i32 v5) ∧ (((v5 = 0) → P (some (0, (-1))) V4) ∧ ((¬ v5 = 0) → ((i32 x3) ∧ cwv d (fun r V8 => ∃ v9 : Int, r = some (0, v9) ∧ ((i32 v9) ∧ (((¬ v9 = 0) → wpv K_X8_within d P 34 [some (4, (p0 : Int)), some (0, x1), some (0, x2), some (0, x3), some (0, 0), some (0, 0)] [] G R V8) ∧ ((v9 = 0) → P (some (0, (-1))) V8)))) 159 [(2, x3), (2, 0), (2, 1)] G R V4))))) 185 [(4, (p0 : Int)), (0, x2)] G R V1)))) 185 [(4, (p0 : Int)), (0, x1)] G R V) : wpv K_X8_within d P 0 [some (4, (p0 : Int)), some (0, x1), some (0, x2), some (0, x3)] [] G R V := by
  refine wp_ld (i := (.aload_n 0)) (4, (p0 : Int)) rfl rfl (fun _ => rfl) rfl rfl (?_ : wpv K_X8_within d P 1 [some (4, (p0 : Int)), some (0, x1), some (0, x2), some (0, x3)] [(4, (p0 : Int))] G R V)
  refine wp_ld (i := (.iload_n 1)) (0, x1) rfl rfl (fun _ => rfl) rfl rfl (?_ : wpv K_X8_within d P 2 [some (4, (p0 : Int)), some (0, x1), some (0, x2), some (0, x3)] [(0, x1), (4, (p0 : Int))] G R V)
  refine wp_virt (as := [(0, x1)]) (a := p0) (st := []) _ rfl rfl rfl rfl rfl rfl (ly8_o l0) (Nat.le_of_ble_eq_true rfl) (cwv_kI w (fun v2 V1 w => ?_))
  show wpv K_X8_within d P 5 [some (4, (p0 : Int)), some (0, x1), some (0, x2), some (0, x3)] [(0, v2)] G R V1
  obtain ⟨s3, w⟩ := w
  refine wp_if (c := .eq) 26 rfl rfl rfl s3 (fun q => ?_) (fun q => ?_)
  · have q : v2 = 0 := q
    replace w := w.1 q
    show wpv K_X8_within d P 26 [some (4, (p0 : Int)), some (0, x1), some (0, x2), some (0, x3)] [] G R V1
    refine wp_p (i := (.iconst (-1))) rfl rfl (fun _ _ _ => rfl) (?_ : wpv K_X8_within d P 27 [some (4, (p0 : Int)), some (0, x1), some (0, x2), some (0, x3)] [(0, (-1))] G R V1)
    exact wp_rI rfl rfl rfl w
  · have q : ¬ v2 = 0 := q
    replace w := w.2 q
    show wpv K_X8_within d P 8 [some (4, (p0 : Int)), some (0, x1), some (0, x2), some (0, x3)] [] G R V1
    refine wp_ld (i := (.aload_n 0)) (4, (p0 : Int)) rfl rfl (fun _ => rfl) rfl rfl (?_ : wpv K_X8_within d P 9 [some (4, (p0 : Int)), some (0, x1), some (0, x2), some (0, x3)] [(4, (p0 : Int))] G R V1)
    refine wp_ld (i := (.iload_n 2)) (0, x2) rfl rfl (fun _ => rfl) rfl rfl (?_ : wpv K_X8_within d P 10 [some (4, (p0 : Int)), some (0, x1), some (0, x2), some (0, x3)] [(0, x2), (4, (p0 : Int))] G R V1)
    refine wp_virt (as := [(0, x2)]) (a := p0) (st := []) _ rfl rfl rfl rfl rfl rfl (ly8_o l0) (Nat.le_of_ble_eq_true rfl) (cwv_kI w (fun v5 V4 w => ?_))
    show wpv K_X8_within d P 13 [some (4, (p0 : Int)), some (0, x1), some (0, x2), some (0, x3)] [(0, v5)] G R V4
    obtain ⟨s6, w⟩ := w
    refine wp_if (c := .eq) 26 rfl rfl rfl s6 (fun q => ?_) (fun q => ?_)
    · have q : v5 = 0 := q
      replace w := w.1 q
      show wpv K_X8_within d P 26 [some (4, (p0 : Int)), some (0, x1), some (0, x2), some (0, x3)] [] G R V4
      refine wp_p (i := (.iconst (-1))) rfl rfl (fun _ _ _ => rfl) (?_ : wpv K_X8_within d P 27 [some (4, (p0 : Int)), some (0, x1), some (0, x2), some (0, x3)] [(0, (-1))] G R V4)
      exact wp_rI rfl rfl rfl w
    · have q : ¬ v5 = 0 := q
      replace w := w.2 q
      show wpv K_X8_within d P 16 [some (4, (p0 : Int)), some (0, x1), some (0, x2), some (0, x3)] [] G R V4
      refine wp_ld (i := (.iload_n 3)) (0, x3) rfl rfl (fun _ => rfl) rfl rfl (?_ : wpv K_X8_within d P 17 [some (4, (p0 : Int)), some (0, x1), some (0, x2), some (0, x3)] [(0, x3)] G R V4)
      obtain ⟨s7, w⟩ := w
      refine wp_i2l rfl rfl s7 (?_ : wpv K_X8_within d P 18 [some (4, (p0 : Int)), some (0, x1), some (0, x2), some (0, x3)] [(2, x3)] G R V4)
      refine wp_p (i := (.lconst 0)) rfl rfl (fun _ _ _ => rfl) (?_ : wpv K_X8_within d P 19 [some (4, (p0 : Int)), some (0, x1), some (0, x2), some (0, x3)] [(2, 0), (2, x3)] G R V4)
      refine wp_p (i := (.lconst 1)) rfl rfl (fun _ _ _ => rfl) (?_ : wpv K_X8_within d P 20 [some (4, (p0 : Int)), some (0, x1), some (0, x2), some (0, x3)] [(2, 1), (2, 0), (2, x3)] G R V4)
      refine wp_stat (as := [(2, x3), (2, 0), (2, 1)]) (st := []) _ rfl rfl rfl (by omega) rfl rfl (Nat.le_of_ble_eq_true rfl) (cwv_kI w (fun v9 V8 w => ?_))
      show wpv K_X8_within d P 23 [some (4, (p0 : Int)), some (0, x1), some (0, x2), some (0, x3)] [(0, v9)] G R V8
      obtain ⟨s10, w⟩ := w
      refine wp_if (c := .ne) 28 rfl rfl rfl s10 (fun q => ?_) (fun q => ?_)
      · have q : ¬ v9 = 0 := q
        replace w := w.1 q
        show wpv K_X8_within d P 28 [some (4, (p0 : Int)), some (0, x1), some (0, x2), some (0, x3)] [] G R V8
        refine wp_p (i := (.iconst 0)) rfl rfl (fun _ _ _ => rfl) (?_ : wpv K_X8_within d P 29 [some (4, (p0 : Int)), some (0, x1), some (0, x2), some (0, x3)] [(0, 0)] G R V8)
        refine wp_sto (i := (.istore 4)) _ rfl rfl (fun _ => rfl) rfl rfl rfl ?_
        refine wp_wk (L' := [some (4, (p0 : Int)), some (0, x1), some (0, x2), some (0, x3), some (0, 0)]) (wk_s (wk_s (wk_s (wk_s (wk_s wk_0))))) ?_
        show wpv K_X8_within d P 31 [some (4, (p0 : Int)), some (0, x1), some (0, x2), some (0, x3), some (0, 0)] [] G R V8
        refine wp_p (i := (.iconst 0)) rfl rfl (fun _ _ _ => rfl) (?_ : wpv K_X8_within d P 32 [some (4, (p0 : Int)), some (0, x1), some (0, x2), some (0, x3), some (0, 0)] [(0, 0)] G R V8)
        refine wp_sto (i := (.istore 5)) _ rfl rfl (fun _ => rfl) rfl rfl rfl ?_
        refine wp_wk (L' := [some (4, (p0 : Int)), some (0, x1), some (0, x2), some (0, x3), some (0, 0), some (0, 0)]) (wk_s (wk_s (wk_s (wk_s (wk_s (wk_s wk_0)))))) ?_
        show wpv K_X8_within d P 34 [some (4, (p0 : Int)), some (0, x1), some (0, x2), some (0, x3), some (0, 0), some (0, 0)] [] G R V8
        exact wp_wk (wk_s (wk_s (wk_s (wk_s (wk_s (wk_s wk_0)))))) w
      · have q : v9 = 0 := Decidable.not_not.mp q
        replace w := w.2 q
        show wpv K_X8_within d P 26 [some (4, (p0 : Int)), some (0, x1), some (0, x2), some (0, x3)] [] G R V8
        refine wp_p (i := (.iconst (-1))) rfl rfl (fun _ _ _ => rfl) (?_ : wpv K_X8_within d P 27 [some (4, (p0 : Int)), some (0, x1), some (0, x2), some (0, x3)] [(0, (-1))] G R V8)
        exact wp_rI rfl rfl rfl w

theorem t_X8_within_34 {d : Nat} {P : gP} {p0 : Nat} {x1 : Int} {x2 : Int} {x3 : Int} {x4 : Int} {x5 : Int} {G : List gS} {R V : gV} (l0 : lay8 G R p0) (w : ((i32 (V p0 12)) → ((i32 x5) ∧ (((¬ x5 < (V p0 12)) → P (some (0, x4)) V) ∧ ((x5 < (V p0 12)) → ((0 ≤ x5 ∧ x5 < 300) ∧ ((i32 (V (p0 + 14) x5)) → ((i32 x2) ∧ ((((V (p0 + 14) x5) = x2) → ((i32 x3) ∧ (((¬ x3 = 0) → ((0 ≤ x1 ∧ x1 < 300) ∧ ((i32 (V (p0 + 15) x1)) → cwv d (fun r V10 => ∃ v11 : Int, r = some (0, v11) ∧ ((i32 v11) ∧ (((v11 = 0) → ((i32 (x4 + 0)) ∧ ((i32 (x5 + 1)) ∧ wpv K_X8_within d P 34 [some (4, (p0 : Int)), some (0, x1), some (0, x2), some (0, x3), some (0, (x4 + 0)), some (0, (x5 + 1))] [] G R V10))) ∧ ((¬ v11 = 0) → ((i32 (x4 + 1)) ∧ ((i32 (x5 + 1)) ∧ wpv K_X8_within d P 34 [some (4, (p0 : Int)), some (0, x1), some (0, x2), some (0, x3), some (0, (x4 + 1)), some (0, (x5 + 1))] [] G R V10)))))) 176 [(4, (p0 : Int)), (0, (V (p0 + 15) x1)), (0, x5)] G R V))) ∧ ((x3 = 0) → ((0 ≤ x1 ∧ x1 < 300) ∧ ((i32 (V (p0 + 15) x1)) → cwv d (fun r V19 => ∃ v20 : Int, r = some (0, v20) ∧ ((i32 v20) ∧ (((v20 = 0) → ((i32 (x4 + 0)) ∧ ((i32 (x5 + 1)) ∧ wpv K_X8_within d P 34 [some (4, (p0 : Int)), some (0, x1), some (0, x2), some (0, x3), some (0, (x4 + 0)), some (0, (x5 + 1))] [] G R V19))) ∧ ((¬ v20 = 0) → ((i32 (x4 + 1)) ∧ ((i32 (x5 + 1)) ∧ wpv K_X8_within d P 34 [some (4, (p0 : Int)), some (0, x1), some (0, x2), some (0, x3), some (0, (x4 + 1)), some (0, (x5 + 1))] [] G R V19)))))) 176 [(4, (p0 : Int)), (0, x5), (0, (V (p0 + 15) x1))] G R V)))))) ∧ ((¬ (V (p0 + 14) x5) = x2) → ((i32 (x5 + 1)) ∧ wpv K_X8_within d P 34 [some (4, (p0 : Int)), some (0, x1), some (0, x2), some (0, x3), some (0, x4), some (0, (x5 + 1))] [] G R V))))))))))) : wpv K_X8_within d P 34 [some (4, (p0 : Int)), some (0, x1), some (0, x2), some (0, x3), some (0, x4), some (0, x5)] [] G R V := by
  refine wp_ld (i := (.iload 5)) (0, x5) rfl rfl (fun _ => rfl) rfl rfl (?_ : wpv K_X8_within d P 36 [some (4, (p0 : Int)), some (0, x1), some (0, x2), some (0, x3), some (0, x4), some (0, x5)] [(0, x5)] G R V)
  refine wp_ld (i := (.aload_n 0)) (4, (p0 : Int)) rfl rfl (fun _ => rfl) rfl rfl (?_ : wpv K_X8_within d P 37 [some (4, (p0 : Int)), some (0, x1), some (0, x2), some (0, x3), some (0, x4), some (0, x5)] [(4, (p0 : Int)), (0, x5)] G R V)
  refine wp_rng (fun vr1 => ?_)
  have f2 : i32 (V p0 12) := vr_f0 vr1 (ly8_o l0) rfl rfl
  replace w := w f2
  refine wp_getI (k := 12) rfl rfl rfl (ly8_o l0) rfl rfl (?_ : wpv K_X8_within d P 40 [some (4, (p0 : Int)), some (0, x1), some (0, x2), some (0, x3), some (0, x4), some (0, x5)] [(0, (V p0 12)), (0, x5)] G R V)
  obtain ⟨s3, w⟩ := w
  refine wp_icmp (c := .ge) 110 rfl rfl rfl s3 f2 (fun q => ?_) (fun q => ?_)
  · have q : ¬ x5 < (V p0 12) := q
    replace w := w.1 q
    show wpv K_X8_within d P 110 [some (4, (p0 : Int)), some (0, x1), some (0, x2), some (0, x3), some (0, x4), some (0, x5)] [] G R V
    refine wp_ld (i := (.iload 4)) (0, x4) rfl rfl (fun _ => rfl) rfl rfl (?_ : wpv K_X8_within d P 112 [some (4, (p0 : Int)), some (0, x1), some (0, x2), some (0, x3), some (0, x4), some (0, x5)] [(0, x4)] G R V)
    exact wp_rI rfl rfl rfl w
  · have q : x5 < (V p0 12) := Decidable.not_not.mp q
    replace w := w.2 q
    show wpv K_X8_within d P 43 [some (4, (p0 : Int)), some (0, x1), some (0, x2), some (0, x3), some (0, x4), some (0, x5)] [] G R V
    refine wp_ld (i := (.aload_n 0)) (4, (p0 : Int)) rfl rfl (fun _ => rfl) rfl rfl (?_ : wpv K_X8_within d P 44 [some (4, (p0 : Int)), some (0, x1), some (0, x2), some (0, x3), some (0, x4), some (0, x5)] [(4, (p0 : Int))] G R V)
    refine wp_getA (k := 19) rfl rfl rfl (ly8_o l0) rfl rfl (ly8_19 l0).1 (?_ : wpv K_X8_within d P 47 [some (4, (p0 : Int)), some (0, x1), some (0, x2), some (0, x3), some (0, x4), some (0, x5)] [(4, ((p0 + 14 : Nat) : Int))] G R V)
    refine wp_ld (i := (.iload 5)) (0, x5) rfl rfl (fun _ => rfl) rfl rfl (?_ : wpv K_X8_within d P 49 [some (4, (p0 : Int)), some (0, x1), some (0, x2), some (0, x3), some (0, x4), some (0, x5)] [(0, x5), (4, ((p0 + 14 : Nat) : Int))] G R V)
    obtain ⟨s4, w⟩ := w
    have f5 : i32 (V (p0 + 14) x5) := vr_a0 vr1 (ly8_19 l0).2 s4
    replace w := w f5
    refine wp_aI rfl rfl (ly8_19 l0).2 s4 (?_ : wpv K_X8_within d P 50 [some (4, (p0 : Int)), some (0, x1), some (0, x2), some (0, x3), some (0, x4), some (0, x5)] [(0, (V (p0 + 14) x5))] G R V)
    refine wp_ld (i := (.iload_n 2)) (0, x2) rfl rfl (fun _ => rfl) rfl rfl (?_ : wpv K_X8_within d P 51 [some (4, (p0 : Int)), some (0, x1), some (0, x2), some (0, x3), some (0, x4), some (0, x5)] [(0, x2), (0, (V (p0 + 14) x5))] G R V)
    obtain ⟨s6, w⟩ := w
    refine wp_icmp (c := .eq) 57 rfl rfl rfl f5 s6 (fun q => ?_) (fun q => ?_)
    · have q : (V (p0 + 14) x5) = x2 := q
      replace w := w.1 q
      show wpv K_X8_within d P 57 [some (4, (p0 : Int)), some (0, x1), some (0, x2), some (0, x3), some (0, x4), some (0, x5)] [] G R V
      refine wp_ld (i := (.iload 4)) (0, x4) rfl rfl (fun _ => rfl) rfl rfl (?_ : wpv K_X8_within d P 59 [some (4, (p0 : Int)), some (0, x1), some (0, x2), some (0, x3), some (0, x4), some (0, x5)] [(0, x4)] G R V)
      refine wp_ld (i := (.iload_n 3)) (0, x3) rfl rfl (fun _ => rfl) rfl rfl (?_ : wpv K_X8_within d P 60 [some (4, (p0 : Int)), some (0, x1), some (0, x2), some (0, x3), some (0, x4), some (0, x5)] [(0, x3), (0, x4)] G R V)
      obtain ⟨s7, w⟩ := w
      refine wp_if (c := .ne) 81 rfl rfl rfl s7 (fun q => ?_) (fun q => ?_)
      · have q : ¬ x3 = 0 := q
        replace w := w.1 q
        show wpv K_X8_within d P 81 [some (4, (p0 : Int)), some (0, x1), some (0, x2), some (0, x3), some (0, x4), some (0, x5)] [(0, x4)] G R V
        refine wp_ld (i := (.aload_n 0)) (4, (p0 : Int)) rfl rfl (fun _ => rfl) rfl rfl (?_ : wpv K_X8_within d P 82 [some (4, (p0 : Int)), some (0, x1), some (0, x2), some (0, x3), some (0, x4), some (0, x5)] [(4, (p0 : Int)), (0, x4)] G R V)
        refine wp_ld (i := (.aload_n 0)) (4, (p0 : Int)) rfl rfl (fun _ => rfl) rfl rfl (?_ : wpv K_X8_within d P 83 [some (4, (p0 : Int)), some (0, x1), some (0, x2), some (0, x3), some (0, x4), some (0, x5)] [(4, (p0 : Int)), (4, (p0 : Int)), (0, x4)] G R V)
        refine wp_getA (k := 20) rfl rfl rfl (ly8_o l0) rfl rfl (ly8_20 l0).1 (?_ : wpv K_X8_within d P 86 [some (4, (p0 : Int)), some (0, x1), some (0, x2), some (0, x3), some (0, x4), some (0, x5)] [(4, ((p0 + 15 : Nat) : Int)), (4, (p0 : Int)), (0, x4)] G R V)
        refine wp_ld (i := (.iload_n 1)) (0, x1) rfl rfl (fun _ => rfl) rfl rfl (?_ : wpv K_X8_within d P 87 [some (4, (p0 : Int)), some (0, x1), some (0, x2), some (0, x3), some (0, x4), some (0, x5)] [(0, x1), (4, ((p0 + 15 : Nat) : Int)), (4, (p0 : Int)), (0, x4)] G R V)
        obtain ⟨s8, w⟩ := w
        have f9 : i32 (V (p0 + 15) x1) := vr_a0 vr1 (ly8_20 l0).2 s8
        replace w := w f9
        refine wp_aI rfl rfl (ly8_20 l0).2 s8 (?_ : wpv K_X8_within d P 88 [some (4, (p0 : Int)), some (0, x1), some (0, x2), some (0, x3), some (0, x4), some (0, x5)] [(0, (V (p0 + 15) x1)), (4, (p0 : Int)), (0, x4)] G R V)
        refine wp_ld (i := (.iload 5)) (0, x5) rfl rfl (fun _ => rfl) rfl rfl (?_ : wpv K_X8_within d P 90 [some (4, (p0 : Int)), some (0, x1), some (0, x2), some (0, x3), some (0, x4), some (0, x5)] [(0, x5), (0, (V (p0 + 15) x1)), (4, (p0 : Int)), (0, x4)] G R V)
        refine wp_virt (as := [(0, (V (p0 + 15) x1)), (0, x5)]) (a := p0) (st := [(0, x4)]) _ rfl rfl rfl rfl rfl rfl (ly8_o l0) (Nat.le_of_ble_eq_true rfl) (cwv_kI w (fun v11 V10 w => ?_))
        show wpv K_X8_within d P 93 [some (4, (p0 : Int)), some (0, x1), some (0, x2), some (0, x3), some (0, x4), some (0, x5)] [(0, v11), (0, x4)] G R V10
        obtain ⟨s12, w⟩ := w
        refine wp_if (c := .eq) 100 rfl rfl rfl s12 (fun q => ?_) (fun q => ?_)
        · have q : v11 = 0 := q
          replace w := w.1 q
          show wpv K_X8_within d P 100 [some (4, (p0 : Int)), some (0, x1), some (0, x2), some (0, x3), some (0, x4), some (0, x5)] [(0, x4)] G R V10
          refine wp_p (i := (.iconst 0)) rfl rfl (fun _ _ _ => rfl) (?_ : wpv K_X8_within d P 101 [some (4, (p0 : Int)), some (0, x1), some (0, x2), some (0, x3), some (0, x4), some (0, x5)] [(0, 0), (0, x4)] G R V10)
          obtain ⟨s13, w⟩ := w
          refine wp_xadd rfl rfl s13 (?_ : wpv K_X8_within d P 102 [some (4, (p0 : Int)), some (0, x1), some (0, x2), some (0, x3), some (0, x4), some (0, x5)] [(0, (x4 + 0))] G R V10)
          refine wp_sto (i := (.istore 4)) _ rfl rfl (fun _ => rfl) rfl rfl rfl ?_
          refine wp_wk (L' := [some (4, (p0 : Int)), some (0, x1), some (0, x2), some (0, x3), some (0, (x4 + 0)), some (0, x5)]) (wk_s (wk_s (wk_s (wk_s (wk_s (wk_s wk_0)))))) ?_
          show wpv K_X8_within d P 104 [some (4, (p0 : Int)), some (0, x1), some (0, x2), some (0, x3), some (0, (x4 + 0)), some (0, x5)] [] G R V10
          obtain ⟨s14, w⟩ := w
          refine wp_inc (x := 5) (k := 1) (a := x5) (c := (x5 + 1)) _ rfl rfl rfl rfl s14 (by omega) rfl ?_
          show wpv K_X8_within d P 107 [some (4, (p0 : Int)), some (0, x1), some (0, x2), some (0, x3), some (0, (x4 + 0)), some (0, (x5 + 1))] [] G R V10
          refine wp_go 34 rfl rfl rfl (?_ : wpv K_X8_within d P 34 [some (4, (p0 : Int)), some (0, x1), some (0, x2), some (0, x3), some (0, (x4 + 0)), some (0, (x5 + 1))] [] G R V10)
          exact wp_wk (wk_s (wk_s (wk_s (wk_s (wk_s (wk_s wk_0)))))) w
        · have q : ¬ v11 = 0 := q
          replace w := w.2 q
          show wpv K_X8_within d P 96 [some (4, (p0 : Int)), some (0, x1), some (0, x2), some (0, x3), some (0, x4), some (0, x5)] [(0, x4)] G R V10
          refine wp_p (i := (.iconst 1)) rfl rfl (fun _ _ _ => rfl) (?_ : wpv K_X8_within d P 97 [some (4, (p0 : Int)), some (0, x1), some (0, x2), some (0, x3), some (0, x4), some (0, x5)] [(0, 1), (0, x4)] G R V10)
          refine wp_go 101 rfl rfl rfl (?_ : wpv K_X8_within d P 101 [some (4, (p0 : Int)), some (0, x1), some (0, x2), some (0, x3), some (0, x4), some (0, x5)] [(0, 1), (0, x4)] G R V10)
          obtain ⟨s15, w⟩ := w
          refine wp_xadd rfl rfl s15 (?_ : wpv K_X8_within d P 102 [some (4, (p0 : Int)), some (0, x1), some (0, x2), some (0, x3), some (0, x4), some (0, x5)] [(0, (x4 + 1))] G R V10)
          refine wp_sto (i := (.istore 4)) _ rfl rfl (fun _ => rfl) rfl rfl rfl ?_
          refine wp_wk (L' := [some (4, (p0 : Int)), some (0, x1), some (0, x2), some (0, x3), some (0, (x4 + 1)), some (0, x5)]) (wk_s (wk_s (wk_s (wk_s (wk_s (wk_s wk_0)))))) ?_
          show wpv K_X8_within d P 104 [some (4, (p0 : Int)), some (0, x1), some (0, x2), some (0, x3), some (0, (x4 + 1)), some (0, x5)] [] G R V10
          obtain ⟨s16, w⟩ := w
          refine wp_inc (x := 5) (k := 1) (a := x5) (c := (x5 + 1)) _ rfl rfl rfl rfl s16 (by omega) rfl ?_
          show wpv K_X8_within d P 107 [some (4, (p0 : Int)), some (0, x1), some (0, x2), some (0, x3), some (0, (x4 + 1)), some (0, (x5 + 1))] [] G R V10
          refine wp_go 34 rfl rfl rfl (?_ : wpv K_X8_within d P 34 [some (4, (p0 : Int)), some (0, x1), some (0, x2), some (0, x3), some (0, (x4 + 1)), some (0, (x5 + 1))] [] G R V10)
          exact wp_wk (wk_s (wk_s (wk_s (wk_s (wk_s (wk_s wk_0)))))) w
      · have q : x3 = 0 := Decidable.not_not.mp q
        replace w := w.2 q
        show wpv K_X8_within d P 63 [some (4, (p0 : Int)), some (0, x1), some (0, x2), some (0, x3), some (0, x4), some (0, x5)] [(0, x4)] G R V
        refine wp_ld (i := (.aload_n 0)) (4, (p0 : Int)) rfl rfl (fun _ => rfl) rfl rfl (?_ : wpv K_X8_within d P 64 [some (4, (p0 : Int)), some (0, x1), some (0, x2), some (0, x3), some (0, x4), some (0, x5)] [(4, (p0 : Int)), (0, x4)] G R V)
        refine wp_ld (i := (.iload 5)) (0, x5) rfl rfl (fun _ => rfl) rfl rfl (?_ : wpv K_X8_within d P 66 [some (4, (p0 : Int)), some (0, x1), some (0, x2), some (0, x3), some (0, x4), some (0, x5)] [(0, x5), (4, (p0 : Int)), (0, x4)] G R V)
        refine wp_ld (i := (.aload_n 0)) (4, (p0 : Int)) rfl rfl (fun _ => rfl) rfl rfl (?_ : wpv K_X8_within d P 67 [some (4, (p0 : Int)), some (0, x1), some (0, x2), some (0, x3), some (0, x4), some (0, x5)] [(4, (p0 : Int)), (0, x5), (4, (p0 : Int)), (0, x4)] G R V)
        refine wp_getA (k := 20) rfl rfl rfl (ly8_o l0) rfl rfl (ly8_20 l0).1 (?_ : wpv K_X8_within d P 70 [some (4, (p0 : Int)), some (0, x1), some (0, x2), some (0, x3), some (0, x4), some (0, x5)] [(4, ((p0 + 15 : Nat) : Int)), (0, x5), (4, (p0 : Int)), (0, x4)] G R V)
        refine wp_ld (i := (.iload_n 1)) (0, x1) rfl rfl (fun _ => rfl) rfl rfl (?_ : wpv K_X8_within d P 71 [some (4, (p0 : Int)), some (0, x1), some (0, x2), some (0, x3), some (0, x4), some (0, x5)] [(0, x1), (4, ((p0 + 15 : Nat) : Int)), (0, x5), (4, (p0 : Int)), (0, x4)] G R V)
        obtain ⟨s17, w⟩ := w
        have f18 : i32 (V (p0 + 15) x1) := vr_a0 vr1 (ly8_20 l0).2 s17
        replace w := w f18
        refine wp_aI rfl rfl (ly8_20 l0).2 s17 (?_ : wpv K_X8_within d P 72 [some (4, (p0 : Int)), some (0, x1), some (0, x2), some (0, x3), some (0, x4), some (0, x5)] [(0, (V (p0 + 15) x1)), (0, x5), (4, (p0 : Int)), (0, x4)] G R V)
        refine wp_virt (as := [(0, x5), (0, (V (p0 + 15) x1))]) (a := p0) (st := [(0, x4)]) _ rfl rfl rfl rfl rfl rfl (ly8_o l0) (Nat.le_of_ble_eq_true rfl) (cwv_kI w (fun v20 V19 w => ?_))
        show wpv K_X8_within d P 75 [some (4, (p0 : Int)), some (0, x1), some (0, x2), some (0, x3), some (0, x4), some (0, x5)] [(0, v20), (0, x4)] G R V19
        obtain ⟨s21, w⟩ := w
        refine wp_if (c := .eq) 100 rfl rfl rfl s21 (fun q => ?_) (fun q => ?_)
        · have q : v20 = 0 := q
          replace w := w.1 q
          show wpv K_X8_within d P 100 [some (4, (p0 : Int)), some (0, x1), some (0, x2), some (0, x3), some (0, x4), some (0, x5)] [(0, x4)] G R V19
          refine wp_p (i := (.iconst 0)) rfl rfl (fun _ _ _ => rfl) (?_ : wpv K_X8_within d P 101 [some (4, (p0 : Int)), some (0, x1), some (0, x2), some (0, x3), some (0, x4), some (0, x5)] [(0, 0), (0, x4)] G R V19)
          obtain ⟨s22, w⟩ := w
          refine wp_xadd rfl rfl s22 (?_ : wpv K_X8_within d P 102 [some (4, (p0 : Int)), some (0, x1), some (0, x2), some (0, x3), some (0, x4), some (0, x5)] [(0, (x4 + 0))] G R V19)
          refine wp_sto (i := (.istore 4)) _ rfl rfl (fun _ => rfl) rfl rfl rfl ?_
          refine wp_wk (L' := [some (4, (p0 : Int)), some (0, x1), some (0, x2), some (0, x3), some (0, (x4 + 0)), some (0, x5)]) (wk_s (wk_s (wk_s (wk_s (wk_s (wk_s wk_0)))))) ?_
          show wpv K_X8_within d P 104 [some (4, (p0 : Int)), some (0, x1), some (0, x2), some (0, x3), some (0, (x4 + 0)), some (0, x5)] [] G R V19
          obtain ⟨s23, w⟩ := w
          refine wp_inc (x := 5) (k := 1) (a := x5) (c := (x5 + 1)) _ rfl rfl rfl rfl s23 (by omega) rfl ?_
          show wpv K_X8_within d P 107 [some (4, (p0 : Int)), some (0, x1), some (0, x2), some (0, x3), some (0, (x4 + 0)), some (0, (x5 + 1))] [] G R V19
          refine wp_go 34 rfl rfl rfl (?_ : wpv K_X8_within d P 34 [some (4, (p0 : Int)), some (0, x1), some (0, x2), some (0, x3), some (0, (x4 + 0)), some (0, (x5 + 1))] [] G R V19)
          exact wp_wk (wk_s (wk_s (wk_s (wk_s (wk_s (wk_s wk_0)))))) w
        · have q : ¬ v20 = 0 := q
          replace w := w.2 q
          show wpv K_X8_within d P 78 [some (4, (p0 : Int)), some (0, x1), some (0, x2), some (0, x3), some (0, x4), some (0, x5)] [(0, x4)] G R V19
          refine wp_go 96 rfl rfl rfl (?_ : wpv K_X8_within d P 96 [some (4, (p0 : Int)), some (0, x1), some (0, x2), some (0, x3), some (0, x4), some (0, x5)] [(0, x4)] G R V19)
          refine wp_p (i := (.iconst 1)) rfl rfl (fun _ _ _ => rfl) (?_ : wpv K_X8_within d P 97 [some (4, (p0 : Int)), some (0, x1), some (0, x2), some (0, x3), some (0, x4), some (0, x5)] [(0, 1), (0, x4)] G R V19)
          refine wp_go 101 rfl rfl rfl (?_ : wpv K_X8_within d P 101 [some (4, (p0 : Int)), some (0, x1), some (0, x2), some (0, x3), some (0, x4), some (0, x5)] [(0, 1), (0, x4)] G R V19)
          obtain ⟨s24, w⟩ := w
          refine wp_xadd rfl rfl s24 (?_ : wpv K_X8_within d P 102 [some (4, (p0 : Int)), some (0, x1), some (0, x2), some (0, x3), some (0, x4), some (0, x5)] [(0, (x4 + 1))] G R V19)
          refine wp_sto (i := (.istore 4)) _ rfl rfl (fun _ => rfl) rfl rfl rfl ?_
          refine wp_wk (L' := [some (4, (p0 : Int)), some (0, x1), some (0, x2), some (0, x3), some (0, (x4 + 1)), some (0, x5)]) (wk_s (wk_s (wk_s (wk_s (wk_s (wk_s wk_0)))))) ?_
          show wpv K_X8_within d P 104 [some (4, (p0 : Int)), some (0, x1), some (0, x2), some (0, x3), some (0, (x4 + 1)), some (0, x5)] [] G R V19
          obtain ⟨s25, w⟩ := w
          refine wp_inc (x := 5) (k := 1) (a := x5) (c := (x5 + 1)) _ rfl rfl rfl rfl s25 (by omega) rfl ?_
          show wpv K_X8_within d P 107 [some (4, (p0 : Int)), some (0, x1), some (0, x2), some (0, x3), some (0, (x4 + 1)), some (0, (x5 + 1))] [] G R V19
          refine wp_go 34 rfl rfl rfl (?_ : wpv K_X8_within d P 34 [some (4, (p0 : Int)), some (0, x1), some (0, x2), some (0, x3), some (0, (x4 + 1)), some (0, (x5 + 1))] [] G R V19)
          exact wp_wk (wk_s (wk_s (wk_s (wk_s (wk_s (wk_s wk_0)))))) w
    · have q : ¬ (V (p0 + 14) x5) = x2 := q
      replace w := w.2 q
      show wpv K_X8_within d P 54 [some (4, (p0 : Int)), some (0, x1), some (0, x2), some (0, x3), some (0, x4), some (0, x5)] [] G R V
      refine wp_go 104 rfl rfl rfl (?_ : wpv K_X8_within d P 104 [some (4, (p0 : Int)), some (0, x1), some (0, x2), some (0, x3), some (0, x4), some (0, x5)] [] G R V)
      obtain ⟨s26, w⟩ := w
      refine wp_inc (x := 5) (k := 1) (a := x5) (c := (x5 + 1)) _ rfl rfl rfl rfl s26 (by omega) rfl ?_
      show wpv K_X8_within d P 107 [some (4, (p0 : Int)), some (0, x1), some (0, x2), some (0, x3), some (0, x4), some (0, (x5 + 1))] [] G R V
      refine wp_go 34 rfl rfl rfl (?_ : wpv K_X8_within d P 34 [some (4, (p0 : Int)), some (0, x1), some (0, x2), some (0, x3), some (0, x4), some (0, (x5 + 1))] [] G R V)
      exact wp_wk (wk_s (wk_s (wk_s (wk_s (wk_s (wk_s wk_0)))))) w
theorem t_X8_table_0 {d : Nat} {P : gP} {p0 : Nat} {x1 : Int} {x2 : Int} {G : List gS} {R V : gV} (l0 : lay8 G R p0) (w : cwv d (fun r V1 => ∃ v2 : Int, r = some (0, v2) ∧ ((i32 v2) ∧ (((v2 = 0) → P (some (0, (-1))) V1) ∧ ((¬ v2 = 0) → cwv d (fun r V4 => ∃ v5 : Int, r = some (0, v5) ∧ ((i32 v5) ∧ (((v5 = 0) → P (some (0, (-1))) V4) ∧ ((¬ v5 = 0) → ((i32 (300 * x1)) ∧ ((i32 ((300 * x1) + x2)) ∧ ((0 ≤ ((300 * x1) + x2) ∧ ((300 * x1) + x2) < 90000) ∧ ((i32 (V4 (p0 + 18) (((300 * x1) + x2)))) → P (some (0, (V4 (p0 + 18) (((300 * x1) + x2))))) V4)))))))) 185 [(4, (p0 : Int)), (0, x2)] G R V1)))) 185 [(4, (p0 : Int)), (0, x1)] G R V) : wpv K_X8_table d P 0 [some (4, (p0 : Int)), some (0, x1), some (0, x2)] [] G R V := by
  refine wp_ld (i := (.aload_n 0)) (4, (p0 : Int)) rfl rfl (fun _ => rfl) rfl rfl (?_ : wpv K_X8_table d P 1 [some (4, (p0 : Int)), some (0, x1), some (0, x2)] [(4, (p0 : Int))] G R V)
  refine wp_ld (i := (.iload_n 1)) (0, x1) rfl rfl (fun _ => rfl) rfl rfl (?_ : wpv K_X8_table d P 2 [some (4, (p0 : Int)), some (0, x1), some (0, x2)] [(0, x1), (4, (p0 : Int))] G R V)
  refine wp_virt (as := [(0, x1)]) (a := p0) (st := []) _ rfl rfl rfl rfl rfl rfl (ly8_o l0) (Nat.le_of_ble_eq_true rfl) (cwv_kI w (fun v2 V1 w => ?_))
  show wpv K_X8_table d P 5 [some (4, (p0 : Int)), some (0, x1), some (0, x2)] [(0, v2)] G R V1
  obtain ⟨s3, w⟩ := w
  refine wp_if (c := .eq) 31 rfl rfl rfl s3 (fun q => ?_) (fun q => ?_)
  · have q : v2 = 0 := q
    replace w := w.1 q
    show wpv K_X8_table d P 31 [some (4, (p0 : Int)), some (0, x1), some (0, x2)] [] G R V1
    refine wp_p (i := (.iconst (-1))) rfl rfl (fun _ _ _ => rfl) (?_ : wpv K_X8_table d P 32 [some (4, (p0 : Int)), some (0, x1), some (0, x2)] [(0, (-1))] G R V1)
    exact wp_rI rfl rfl rfl w
  · have q : ¬ v2 = 0 := q
    replace w := w.2 q
    show wpv K_X8_table d P 8 [some (4, (p0 : Int)), some (0, x1), some (0, x2)] [] G R V1
    refine wp_ld (i := (.aload_n 0)) (4, (p0 : Int)) rfl rfl (fun _ => rfl) rfl rfl (?_ : wpv K_X8_table d P 9 [some (4, (p0 : Int)), some (0, x1), some (0, x2)] [(4, (p0 : Int))] G R V1)
    refine wp_ld (i := (.iload_n 2)) (0, x2) rfl rfl (fun _ => rfl) rfl rfl (?_ : wpv K_X8_table d P 10 [some (4, (p0 : Int)), some (0, x1), some (0, x2)] [(0, x2), (4, (p0 : Int))] G R V1)
    refine wp_virt (as := [(0, x2)]) (a := p0) (st := []) _ rfl rfl rfl rfl rfl rfl (ly8_o l0) (Nat.le_of_ble_eq_true rfl) (cwv_kI w (fun v5 V4 w => ?_))
    show wpv K_X8_table d P 13 [some (4, (p0 : Int)), some (0, x1), some (0, x2)] [(0, v5)] G R V4
    obtain ⟨s6, w⟩ := w
    refine wp_if (c := .eq) 31 rfl rfl rfl s6 (fun q => ?_) (fun q => ?_)
    · have q : v5 = 0 := q
      replace w := w.1 q
      show wpv K_X8_table d P 31 [some (4, (p0 : Int)), some (0, x1), some (0, x2)] [] G R V4
      refine wp_p (i := (.iconst (-1))) rfl rfl (fun _ _ _ => rfl) (?_ : wpv K_X8_table d P 32 [some (4, (p0 : Int)), some (0, x1), some (0, x2)] [(0, (-1))] G R V4)
      exact wp_rI rfl rfl rfl w
    · have q : ¬ v5 = 0 := q
      replace w := w.2 q
      show wpv K_X8_table d P 16 [some (4, (p0 : Int)), some (0, x1), some (0, x2)] [] G R V4
      refine wp_ld (i := (.aload_n 0)) (4, (p0 : Int)) rfl rfl (fun _ => rfl) rfl rfl (?_ : wpv K_X8_table d P 17 [some (4, (p0 : Int)), some (0, x1), some (0, x2)] [(4, (p0 : Int))] G R V4)
      refine wp_getA (k := 23) rfl rfl rfl (ly8_o l0) rfl rfl (ly8_23 l0).1 (?_ : wpv K_X8_table d P 20 [some (4, (p0 : Int)), some (0, x1), some (0, x2)] [(4, ((p0 + 18 : Nat) : Int))] G R V4)
      refine wp_p (i := (.sipush 300)) rfl rfl (fun _ _ _ => rfl) (?_ : wpv K_X8_table d P 23 [some (4, (p0 : Int)), some (0, x1), some (0, x2)] [(0, 300), (4, ((p0 + 18 : Nat) : Int))] G R V4)
      refine wp_ld (i := (.iload_n 1)) (0, x1) rfl rfl (fun _ => rfl) rfl rfl (?_ : wpv K_X8_table d P 24 [some (4, (p0 : Int)), some (0, x1), some (0, x2)] [(0, x1), (0, 300), (4, ((p0 + 18 : Nat) : Int))] G R V4)
      obtain ⟨s7, w⟩ := w
      refine wp_xmul rfl rfl s7 (?_ : wpv K_X8_table d P 25 [some (4, (p0 : Int)), some (0, x1), some (0, x2)] [(0, (300 * x1)), (4, ((p0 + 18 : Nat) : Int))] G R V4)
      refine wp_ld (i := (.iload_n 2)) (0, x2) rfl rfl (fun _ => rfl) rfl rfl (?_ : wpv K_X8_table d P 26 [some (4, (p0 : Int)), some (0, x1), some (0, x2)] [(0, x2), (0, (300 * x1)), (4, ((p0 + 18 : Nat) : Int))] G R V4)
      obtain ⟨s8, w⟩ := w
      refine wp_xadd rfl rfl s8 (?_ : wpv K_X8_table d P 27 [some (4, (p0 : Int)), some (0, x1), some (0, x2)] [(0, ((300 * x1) + x2)), (4, ((p0 + 18 : Nat) : Int))] G R V4)
      obtain ⟨s9, w⟩ := w
      refine wp_rng (fun vr10 => ?_)
      have f11 : i32 (V4 (p0 + 18) (((300 * x1) + x2))) := vr_a0 vr10 (ly8_23 l0).2 s9
      replace w := w f11
      refine wp_aI rfl rfl (ly8_23 l0).2 s9 (?_ : wpv K_X8_table d P 28 [some (4, (p0 : Int)), some (0, x1), some (0, x2)] [(0, (V4 (p0 + 18) (((300 * x1) + x2))))] G R V4)
      refine wp_go 32 rfl rfl rfl (?_ : wpv K_X8_table d P 32 [some (4, (p0 : Int)), some (0, x1), some (0, x2)] [(0, (V4 (p0 + 18) (((300 * x1) + x2))))] G R V4)
      exact wp_rI rfl rfl rfl w
theorem t_X8_sylow_0 {d : Nat} {P : gP} {p0 : Nat} {x1 : Int} {G : List gS} {R V : gV} (l0 : lay8 G R p0) (w : ((i32 x1) ∧ (((x1 = 2) → wpv K_X8_sylow d P 25 [some (4, (p0 : Int)), some (0, x1), some (0, 1)] [] G R V) ∧ ((¬ x1 = 2) → (((x1 = 3) → wpv K_X8_sylow d P 25 [some (4, (p0 : Int)), some (0, x1), some (0, 1)] [] G R V) ∧ ((¬ x1 = 3) → (((x1 = 5) → wpv K_X8_sylow d P 25 [some (4, (p0 : Int)), some (0, x1), some (0, 1)] [] G R V) ∧ ((¬ x1 = 5) → (((x1 = 7) → wpv K_X8_sylow d P 25 [some (4, (p0 : Int)), some (0, x1), some (0, 1)] [] G R V) ∧ ((¬ x1 = 7) → P (some (0, (-1))) V)))))))))) : wpv K_X8_sylow d P 0 [some (4, (p0 : Int)), some (0, x1)] [] G R V := by
  refine wp_ld (i := (.iload_n 1)) (0, x1) rfl rfl (fun _ => rfl) rfl rfl (?_ : wpv K_X8_sylow d P 1 [some (4, (p0 : Int)), some (0, x1)] [(0, x1)] G R V)
  refine wp_p (i := (.iconst 2)) rfl rfl (fun _ _ _ => rfl) (?_ : wpv K_X8_sylow d P 2 [some (4, (p0 : Int)), some (0, x1)] [(0, 2), (0, x1)] G R V)
  obtain ⟨s1, w⟩ := w
  refine wp_icmp (c := .eq) 23 rfl rfl rfl s1 ⟨by omega, by omega⟩ (fun q => ?_) (fun q => ?_)
  · have q : x1 = 2 := q
    replace w := w.1 q
    show wpv K_X8_sylow d P 23 [some (4, (p0 : Int)), some (0, x1)] [] G R V
    refine wp_p (i := (.iconst 1)) rfl rfl (fun _ _ _ => rfl) (?_ : wpv K_X8_sylow d P 24 [some (4, (p0 : Int)), some (0, x1)] [(0, 1)] G R V)
    refine wp_sto (i := (.istore_n 2)) _ rfl rfl (fun _ => rfl) rfl rfl rfl ?_
    refine wp_wk (L' := [some (4, (p0 : Int)), some (0, x1), some (0, 1)]) (wk_s (wk_s (wk_s wk_0))) ?_
    show wpv K_X8_sylow d P 25 [some (4, (p0 : Int)), some (0, x1), some (0, 1)] [] G R V
    exact wp_wk (wk_s (wk_s (wk_s wk_0))) w
  · have q : ¬ x1 = 2 := q
    replace w := w.2 q
    show wpv K_X8_sylow d P 5 [some (4, (p0 : Int)), some (0, x1)] [] G R V
    refine wp_ld (i := (.iload_n 1)) (0, x1) rfl rfl (fun _ => rfl) rfl rfl (?_ : wpv K_X8_sylow d P 6 [some (4, (p0 : Int)), some (0, x1)] [(0, x1)] G R V)
    refine wp_p (i := (.iconst 3)) rfl rfl (fun _ _ _ => rfl) (?_ : wpv K_X8_sylow d P 7 [some (4, (p0 : Int)), some (0, x1)] [(0, 3), (0, x1)] G R V)
    refine wp_icmp (c := .eq) 23 rfl rfl rfl s1 ⟨by omega, by omega⟩ (fun q => ?_) (fun q => ?_)
    · have q : x1 = 3 := q
      replace w := w.1 q
      show wpv K_X8_sylow d P 23 [some (4, (p0 : Int)), some (0, x1)] [] G R V
      refine wp_p (i := (.iconst 1)) rfl rfl (fun _ _ _ => rfl) (?_ : wpv K_X8_sylow d P 24 [some (4, (p0 : Int)), some (0, x1)] [(0, 1)] G R V)
      refine wp_sto (i := (.istore_n 2)) _ rfl rfl (fun _ => rfl) rfl rfl rfl ?_
      refine wp_wk (L' := [some (4, (p0 : Int)), some (0, x1), some (0, 1)]) (wk_s (wk_s (wk_s wk_0))) ?_
      show wpv K_X8_sylow d P 25 [some (4, (p0 : Int)), some (0, x1), some (0, 1)] [] G R V
      exact wp_wk (wk_s (wk_s (wk_s wk_0))) w
    · have q : ¬ x1 = 3 := q
      replace w := w.2 q
      show wpv K_X8_sylow d P 10 [some (4, (p0 : Int)), some (0, x1)] [] G R V
      refine wp_ld (i := (.iload_n 1)) (0, x1) rfl rfl (fun _ => rfl) rfl rfl (?_ : wpv K_X8_sylow d P 11 [some (4, (p0 : Int)), some (0, x1)] [(0, x1)] G R V)
      refine wp_p (i := (.iconst 5)) rfl rfl (fun _ _ _ => rfl) (?_ : wpv K_X8_sylow d P 12 [some (4, (p0 : Int)), some (0, x1)] [(0, 5), (0, x1)] G R V)
      refine wp_icmp (c := .eq) 23 rfl rfl rfl s1 ⟨by omega, by omega⟩ (fun q => ?_) (fun q => ?_)
      · have q : x1 = 5 := q
        replace w := w.1 q
        show wpv K_X8_sylow d P 23 [some (4, (p0 : Int)), some (0, x1)] [] G R V
        refine wp_p (i := (.iconst 1)) rfl rfl (fun _ _ _ => rfl) (?_ : wpv K_X8_sylow d P 24 [some (4, (p0 : Int)), some (0, x1)] [(0, 1)] G R V)
        refine wp_sto (i := (.istore_n 2)) _ rfl rfl (fun _ => rfl) rfl rfl rfl ?_
        refine wp_wk (L' := [some (4, (p0 : Int)), some (0, x1), some (0, 1)]) (wk_s (wk_s (wk_s wk_0))) ?_
        show wpv K_X8_sylow d P 25 [some (4, (p0 : Int)), some (0, x1), some (0, 1)] [] G R V
        exact wp_wk (wk_s (wk_s (wk_s wk_0))) w
      · have q : ¬ x1 = 5 := q
        replace w := w.2 q
        show wpv K_X8_sylow d P 15 [some (4, (p0 : Int)), some (0, x1)] [] G R V
        refine wp_ld (i := (.iload_n 1)) (0, x1) rfl rfl (fun _ => rfl) rfl rfl (?_ : wpv K_X8_sylow d P 16 [some (4, (p0 : Int)), some (0, x1)] [(0, x1)] G R V)
        refine wp_p (i := (.bipush 7)) rfl rfl (fun _ _ _ => rfl) (?_ : wpv K_X8_sylow d P 18 [some (4, (p0 : Int)), some (0, x1)] [(0, 7), (0, x1)] G R V)
        refine wp_icmp (c := .eq) 23 rfl rfl rfl s1 ⟨by omega, by omega⟩ (fun q => ?_) (fun q => ?_)
        · have q : x1 = 7 := q
          replace w := w.1 q
          show wpv K_X8_sylow d P 23 [some (4, (p0 : Int)), some (0, x1)] [] G R V
          refine wp_p (i := (.iconst 1)) rfl rfl (fun _ _ _ => rfl) (?_ : wpv K_X8_sylow d P 24 [some (4, (p0 : Int)), some (0, x1)] [(0, 1)] G R V)
          refine wp_sto (i := (.istore_n 2)) _ rfl rfl (fun _ => rfl) rfl rfl rfl ?_
          refine wp_wk (L' := [some (4, (p0 : Int)), some (0, x1), some (0, 1)]) (wk_s (wk_s (wk_s wk_0))) ?_
          show wpv K_X8_sylow d P 25 [some (4, (p0 : Int)), some (0, x1), some (0, 1)] [] G R V
          exact wp_wk (wk_s (wk_s (wk_s wk_0))) w
        · have q : ¬ x1 = 7 := q
          replace w := w.2 q
          show wpv K_X8_sylow d P 21 [some (4, (p0 : Int)), some (0, x1)] [] G R V
          refine wp_p (i := (.iconst (-1))) rfl rfl (fun _ _ _ => rfl) (?_ : wpv K_X8_sylow d P 22 [some (4, (p0 : Int)), some (0, x1)] [(0, (-1))] G R V)
          exact wp_rI rfl rfl rfl w

theorem t_X8_sylow_25 {d : Nat} {P : gP} {p0 : Nat} {x1 : Int} {x2 : Int} {G : List gS} {R V : gV} (l0 : lay8 G R p0) (w : ((i32 (V p0 5)) → ((i32 (x2 * x1)) ∧ ((0 ≤ (V p0 5) ∧ 0 < (x2 * x1)) ∧ ((i32 (((V p0 5) % (x2 * x1)))) ∧ (((¬ ((V p0 5) % (x2 * x1)) = 0) → wpv K_X8_sylow d P 45 [some (4, (p0 : Int)), none, some (0, x2), some (0, 0)] [] G R V) ∧ ((((V p0 5) % (x2 * x1)) = 0) → wpv K_X8_sylow d P 25 [some (4, (p0 : Int)), some (0, x1), some (0, (x2 * x1))] [] G R V))))))) : wpv K_X8_sylow d P 25 [some (4, (p0 : Int)), some (0, x1), some (0, x2)] [] G R V := by
  refine wp_ld (i := (.aload_n 0)) (4, (p0 : Int)) rfl rfl (fun _ => rfl) rfl rfl (?_ : wpv K_X8_sylow d P 26 [some (4, (p0 : Int)), some (0, x1), some (0, x2)] [(4, (p0 : Int))] G R V)
  refine wp_rng (fun vr1 => ?_)
  have f2 : i32 (V p0 5) := vr_f0 vr1 (ly8_o l0) rfl rfl
  replace w := w f2
  refine wp_getI (k := 5) rfl rfl rfl (ly8_o l0) rfl rfl (?_ : wpv K_X8_sylow d P 29 [some (4, (p0 : Int)), some (0, x1), some (0, x2)] [(0, (V p0 5))] G R V)
  refine wp_ld (i := (.iload_n 2)) (0, x2) rfl rfl (fun _ => rfl) rfl rfl (?_ : wpv K_X8_sylow d P 30 [some (4, (p0 : Int)), some (0, x1), some (0, x2)] [(0, x2), (0, (V p0 5))] G R V)
  refine wp_ld (i := (.iload_n 1)) (0, x1) rfl rfl (fun _ => rfl) rfl rfl (?_ : wpv K_X8_sylow d P 31 [some (4, (p0 : Int)), some (0, x1), some (0, x2)] [(0, x1), (0, x2), (0, (V p0 5))] G R V)
  obtain ⟨s3, w⟩ := w
  refine wp_xmul rfl rfl s3 (?_ : wpv K_X8_sylow d P 32 [some (4, (p0 : Int)), some (0, x1), some (0, x2)] [(0, (x2 * x1)), (0, (V p0 5))] G R V)
  obtain ⟨s4, w⟩ := w
  refine wp_xrem rfl rfl s4.1 s4.2 f2 s3 (?_ : wpv K_X8_sylow d P 33 [some (4, (p0 : Int)), some (0, x1), some (0, x2)] [(0, ((V p0 5) % (x2 * x1)))] G R V)
  obtain ⟨s5, w⟩ := w
  refine wp_if (c := .ne) 43 rfl rfl rfl s5 (fun q => ?_) (fun q => ?_)
  · have q : ¬ ((V p0 5) % (x2 * x1)) = 0 := q
    replace w := w.1 q
    show wpv K_X8_sylow d P 43 [some (4, (p0 : Int)), some (0, x1), some (0, x2)] [] G R V
    refine wp_p (i := (.iconst 0)) rfl rfl (fun _ _ _ => rfl) (?_ : wpv K_X8_sylow d P 44 [some (4, (p0 : Int)), some (0, x1), some (0, x2)] [(0, 0)] G R V)
    refine wp_sto (i := (.istore_n 3)) _ rfl rfl (fun _ => rfl) rfl rfl rfl ?_
    refine wp_wk (L' := [some (4, (p0 : Int)), some (0, x1), some (0, x2), some (0, 0)]) (wk_s (wk_s (wk_s (wk_s wk_0)))) ?_
    show wpv K_X8_sylow d P 45 [some (4, (p0 : Int)), some (0, x1), some (0, x2), some (0, 0)] [] G R V
    exact wp_wk (wk_s (wk_n (wk_s (wk_s wk_0)))) w
  · have q : ((V p0 5) % (x2 * x1)) = 0 := Decidable.not_not.mp q
    replace w := w.2 q
    show wpv K_X8_sylow d P 36 [some (4, (p0 : Int)), some (0, x1), some (0, x2)] [] G R V
    refine wp_ld (i := (.iload_n 2)) (0, x2) rfl rfl (fun _ => rfl) rfl rfl (?_ : wpv K_X8_sylow d P 37 [some (4, (p0 : Int)), some (0, x1), some (0, x2)] [(0, x2)] G R V)
    refine wp_ld (i := (.iload_n 1)) (0, x1) rfl rfl (fun _ => rfl) rfl rfl (?_ : wpv K_X8_sylow d P 38 [some (4, (p0 : Int)), some (0, x1), some (0, x2)] [(0, x1), (0, x2)] G R V)
    refine wp_xmul rfl rfl s3 (?_ : wpv K_X8_sylow d P 39 [some (4, (p0 : Int)), some (0, x1), some (0, x2)] [(0, (x2 * x1))] G R V)
    refine wp_sto (i := (.istore_n 2)) _ rfl rfl (fun _ => rfl) rfl rfl rfl ?_
    refine wp_wk (L' := [some (4, (p0 : Int)), some (0, x1), some (0, (x2 * x1))]) (wk_s (wk_s (wk_s wk_0))) ?_
    show wpv K_X8_sylow d P 40 [some (4, (p0 : Int)), some (0, x1), some (0, (x2 * x1))] [] G R V
    refine wp_go 25 rfl rfl rfl (?_ : wpv K_X8_sylow d P 25 [some (4, (p0 : Int)), some (0, x1), some (0, (x2 * x1))] [] G R V)
    exact wp_wk (wk_s (wk_s (wk_s wk_0))) w

theorem t_X8_sylow_45 {d : Nat} {P : gP} {p0 : Nat} {x2 : Int} {x3 : Int} {G : List gS} {R V : gV} (l0 : lay8 G R p0) (w : ((i32 (V p0 13)) → ((i32 x3) ∧ (((¬ x3 < (V p0 13)) → P (some (0, (-1))) V) ∧ ((x3 < (V p0 13)) → ((0 ≤ x3 ∧ x3 < 300) ∧ ((i32 (V (p0 + 15) x3)) → ((0 ≤ (V (p0 + 15) x3) ∧ (V (p0 + 15) x3) < 301) ∧ ((i32 (V (p0 + 10) ((V (p0 + 15) x3)))) → ((i32 x2) ∧ (((¬ (V (p0 + 10) ((V (p0 + 15) x3))) = x2) → ((i32 (x3 + 1)) ∧ wpv K_X8_sylow d P 45 [some (4, (p0 : Int)), none, some (0, x2), some (0, (x3 + 1))] [] G R V)) ∧ (((V (p0 + 10) ((V (p0 + 15) x3))) = x2) → P (some (0, x3)) V)))))))))))) : wpv K_X8_sylow d P 45 [some (4, (p0 : Int)), none, some (0, x2), some (0, x3)] [] G R V := by
  refine wp_ld (i := (.iload_n 3)) (0, x3) rfl rfl (fun _ => rfl) rfl rfl (?_ : wpv K_X8_sylow d P 46 [some (4, (p0 : Int)), none, some (0, x2), some (0, x3)] [(0, x3)] G R V)
  refine wp_ld (i := (.aload_n 0)) (4, (p0 : Int)) rfl rfl (fun _ => rfl) rfl rfl (?_ : wpv K_X8_sylow d P 47 [some (4, (p0 : Int)), none, some (0, x2), some (0, x3)] [(4, (p0 : Int)), (0, x3)] G R V)
  refine wp_rng (fun vr1 => ?_)
  have f2 : i32 (V p0 13) := vr_f0 vr1 (ly8_o l0) rfl rfl
  replace w := w f2
  refine wp_getI (k := 13) rfl rfl rfl (ly8_o l0) rfl rfl (?_ : wpv K_X8_sylow d P 50 [some (4, (p0 : Int)), none, some (0, x2), some (0, x3)] [(0, (V p0 13)), (0, x3)] G R V)
  obtain ⟨s3, w⟩ := w
  refine wp_icmp (c := .ge) 76 rfl rfl rfl s3 f2 (fun q => ?_) (fun q => ?_)
  · have q : ¬ x3 < (V p0 13) := q
    replace w := w.1 q
    show wpv K_X8_sylow d P 76 [some (4, (p0 : Int)), none, some (0, x2), some (0, x3)] [] G R V
    refine wp_p (i := (.iconst (-1))) rfl rfl (fun _ _ _ => rfl) (?_ : wpv K_X8_sylow d P 77 [some (4, (p0 : Int)), none, some (0, x2), some (0, x3)] [(0, (-1))] G R V)
    exact wp_rI rfl rfl rfl w
  · have q : x3 < (V p0 13) := Decidable.not_not.mp q
    replace w := w.2 q
    show wpv K_X8_sylow d P 53 [some (4, (p0 : Int)), none, some (0, x2), some (0, x3)] [] G R V
    refine wp_ld (i := (.aload_n 0)) (4, (p0 : Int)) rfl rfl (fun _ => rfl) rfl rfl (?_ : wpv K_X8_sylow d P 54 [some (4, (p0 : Int)), none, some (0, x2), some (0, x3)] [(4, (p0 : Int))] G R V)
    refine wp_getA (k := 15) rfl rfl rfl (ly8_o l0) rfl rfl (ly8_15 l0).1 (?_ : wpv K_X8_sylow d P 57 [some (4, (p0 : Int)), none, some (0, x2), some (0, x3)] [(4, ((p0 + 10 : Nat) : Int))] G R V)
    refine wp_ld (i := (.aload_n 0)) (4, (p0 : Int)) rfl rfl (fun _ => rfl) rfl rfl (?_ : wpv K_X8_sylow d P 58 [some (4, (p0 : Int)), none, some (0, x2), some (0, x3)] [(4, (p0 : Int)), (4, ((p0 + 10 : Nat) : Int))] G R V)
    refine wp_getA (k := 20) rfl rfl rfl (ly8_o l0) rfl rfl (ly8_20 l0).1 (?_ : wpv K_X8_sylow d P 61 [some (4, (p0 : Int)), none, some (0, x2), some (0, x3)] [(4, ((p0 + 15 : Nat) : Int)), (4, ((p0 + 10 : Nat) : Int))] G R V)
    refine wp_ld (i := (.iload_n 3)) (0, x3) rfl rfl (fun _ => rfl) rfl rfl (?_ : wpv K_X8_sylow d P 62 [some (4, (p0 : Int)), none, some (0, x2), some (0, x3)] [(0, x3), (4, ((p0 + 15 : Nat) : Int)), (4, ((p0 + 10 : Nat) : Int))] G R V)
    obtain ⟨s4, w⟩ := w
    have f5 : i32 (V (p0 + 15) x3) := vr_a0 vr1 (ly8_20 l0).2 s4
    replace w := w f5
    refine wp_aI rfl rfl (ly8_20 l0).2 s4 (?_ : wpv K_X8_sylow d P 63 [some (4, (p0 : Int)), none, some (0, x2), some (0, x3)] [(0, (V (p0 + 15) x3)), (4, ((p0 + 10 : Nat) : Int))] G R V)
    obtain ⟨s6, w⟩ := w
    have f7 : i32 (V (p0 + 10) ((V (p0 + 15) x3))) := vr_a0 vr1 (ly8_15 l0).2 s6
    replace w := w f7
    refine wp_aI rfl rfl (ly8_15 l0).2 s6 (?_ : wpv K_X8_sylow d P 64 [some (4, (p0 : Int)), none, some (0, x2), some (0, x3)] [(0, (V (p0 + 10) ((V (p0 + 15) x3))))] G R V)
    refine wp_ld (i := (.iload_n 2)) (0, x2) rfl rfl (fun _ => rfl) rfl rfl (?_ : wpv K_X8_sylow d P 65 [some (4, (p0 : Int)), none, some (0, x2), some (0, x3)] [(0, x2), (0, (V (p0 + 10) ((V (p0 + 15) x3))))] G R V)
    obtain ⟨s8, w⟩ := w
    refine wp_icmp (c := .ne) 70 rfl rfl rfl f7 s8 (fun q => ?_) (fun q => ?_)
    · have q : ¬ (V (p0 + 10) ((V (p0 + 15) x3))) = x2 := q
      replace w := w.1 q
      show wpv K_X8_sylow d P 70 [some (4, (p0 : Int)), none, some (0, x2), some (0, x3)] [] G R V
      obtain ⟨s9, w⟩ := w
      refine wp_inc (x := 3) (k := 1) (a := x3) (c := (x3 + 1)) _ rfl rfl rfl rfl s9 (by omega) rfl ?_
      show wpv K_X8_sylow d P 73 [some (4, (p0 : Int)), none, some (0, x2), some (0, (x3 + 1))] [] G R V
      refine wp_go 45 rfl rfl rfl (?_ : wpv K_X8_sylow d P 45 [some (4, (p0 : Int)), none, some (0, x2), some (0, (x3 + 1))] [] G R V)
      exact wp_wk (wk_s (wk_n (wk_s (wk_s wk_0)))) w
    · have q : (V (p0 + 10) ((V (p0 + 15) x3))) = x2 := Decidable.not_not.mp q
      replace w := w.2 q
      show wpv K_X8_sylow d P 68 [some (4, (p0 : Int)), none, some (0, x2), some (0, x3)] [] G R V
      refine wp_ld (i := (.iload_n 3)) (0, x3) rfl rfl (fun _ => rfl) rfl rfl (?_ : wpv K_X8_sylow d P 69 [some (4, (p0 : Int)), none, some (0, x2), some (0, x3)] [(0, x3)] G R V)
      exact wp_rI rfl rfl rfl w
theorem t_X8_down_0 {d : Nat} {P : gP} {p0 : Nat} {x1 : Int} {G : List gS} {R V : gV} (l0 : lay8 G R p0) (w : ((i32 x1) ∧ cwv d (fun r V2 => ∃ v3 : Int, r = some (0, v3) ∧ ((i32 v3) ∧ (((¬ v3 = 0) → ((i32 (V2 p0 12)) → ((i32 ((V2 p0 12) - 1)) ∧ wpv K_X8_down d P 23 [some (4, (p0 : Int)), some (0, x1), some (0, ((V2 p0 12) - 1)), some (0, 0)] [] G R V2))) ∧ ((v3 = 0) → P (some (0, (-1))) V2)))) 159 [(2, x1), (2, 0), (2, 10)] G R V)) : wpv K_X8_down d P 0 [some (4, (p0 : Int)), some (0, x1)] [] G R V := by
  refine wp_ld (i := (.iload_n 1)) (0, x1) rfl rfl (fun _ => rfl) rfl rfl (?_ : wpv K_X8_down d P 1 [some (4, (p0 : Int)), some (0, x1)] [(0, x1)] G R V)
  obtain ⟨s1, w⟩ := w
  refine wp_i2l rfl rfl s1 (?_ : wpv K_X8_down d P 2 [some (4, (p0 : Int)), some (0, x1)] [(2, x1)] G R V)
  refine wp_p (i := (.lconst 0)) rfl rfl (fun _ _ _ => rfl) (?_ : wpv K_X8_down d P 3 [some (4, (p0 : Int)), some (0, x1)] [(2, 0), (2, x1)] G R V)
  refine wp_p (i := (.ldc2_w 265)) rfl rfl (fun _ _ _ => rfl) (?_ : wpv K_X8_down d P 6 [some (4, (p0 : Int)), some (0, x1)] [(2, 10), (2, 0), (2, x1)] G R V)
  refine wp_stat (as := [(2, x1), (2, 0), (2, 10)]) (st := []) _ rfl rfl rfl (by omega) rfl rfl (Nat.le_of_ble_eq_true rfl) (cwv_kI w (fun v3 V2 w => ?_))
  show wpv K_X8_down d P 9 [some (4, (p0 : Int)), some (0, x1)] [(0, v3)] G R V2
  obtain ⟨s4, w⟩ := w
  refine wp_if (c := .ne) 14 rfl rfl rfl s4 (fun q => ?_) (fun q => ?_)
  · have q : ¬ v3 = 0 := q
    replace w := w.1 q
    show wpv K_X8_down d P 14 [some (4, (p0 : Int)), some (0, x1)] [] G R V2
    refine wp_ld (i := (.aload_n 0)) (4, (p0 : Int)) rfl rfl (fun _ => rfl) rfl rfl (?_ : wpv K_X8_down d P 15 [some (4, (p0 : Int)), some (0, x1)] [(4, (p0 : Int))] G R V2)
    refine wp_rng (fun vr5 => ?_)
    have f6 : i32 (V2 p0 12) := vr_f0 vr5 (ly8_o l0) rfl rfl
    replace w := w f6
    refine wp_getI (k := 12) rfl rfl rfl (ly8_o l0) rfl rfl (?_ : wpv K_X8_down d P 18 [some (4, (p0 : Int)), some (0, x1)] [(0, (V2 p0 12))] G R V2)
    refine wp_p (i := (.iconst 1)) rfl rfl (fun _ _ _ => rfl) (?_ : wpv K_X8_down d P 19 [some (4, (p0 : Int)), some (0, x1)] [(0, 1), (0, (V2 p0 12))] G R V2)
    obtain ⟨s7, w⟩ := w
    refine wp_xsub rfl rfl s7 (?_ : wpv K_X8_down d P 20 [some (4, (p0 : Int)), some (0, x1)] [(0, ((V2 p0 12) - 1))] G R V2)
    refine wp_sto (i := (.istore_n 2)) _ rfl rfl (fun _ => rfl) rfl rfl rfl ?_
    refine wp_wk (L' := [some (4, (p0 : Int)), some (0, x1), some (0, ((V2 p0 12) - 1))]) (wk_s (wk_s (wk_s wk_0))) ?_
    show wpv K_X8_down d P 21 [some (4, (p0 : Int)), some (0, x1), some (0, ((V2 p0 12) - 1))] [] G R V2
    refine wp_p (i := (.iconst 0)) rfl rfl (fun _ _ _ => rfl) (?_ : wpv K_X8_down d P 22 [some (4, (p0 : Int)), some (0, x1), some (0, ((V2 p0 12) - 1))] [(0, 0)] G R V2)
    refine wp_sto (i := (.istore_n 3)) _ rfl rfl (fun _ => rfl) rfl rfl rfl ?_
    refine wp_wk (L' := [some (4, (p0 : Int)), some (0, x1), some (0, ((V2 p0 12) - 1)), some (0, 0)]) (wk_s (wk_s (wk_s (wk_s wk_0)))) ?_
    show wpv K_X8_down d P 23 [some (4, (p0 : Int)), some (0, x1), some (0, ((V2 p0 12) - 1)), some (0, 0)] [] G R V2
    exact wp_wk (wk_s (wk_s (wk_s (wk_s wk_0)))) w
  · have q : v3 = 0 := Decidable.not_not.mp q
    replace w := w.2 q
    show wpv K_X8_down d P 12 [some (4, (p0 : Int)), some (0, x1)] [] G R V2
    refine wp_p (i := (.iconst (-1))) rfl rfl (fun _ _ _ => rfl) (?_ : wpv K_X8_down d P 13 [some (4, (p0 : Int)), some (0, x1)] [(0, (-1))] G R V2)
    exact wp_rI rfl rfl rfl w

theorem t_X8_down_23 {d : Nat} {P : gP} {p0 : Nat} {x1 : Int} {x2 : Int} {x3 : Int} {G : List gS} {R V : gV} (l0 : lay8 G R p0) (w : ((i32 x3) ∧ ((i32 x1) ∧ (((¬ x3 < x1) → P (some (0, x2)) V) ∧ ((x3 < x1) → cwv d (fun r V3 => ∃ v4 : Int, r = some (0, v4) ∧ ((i32 (x3 + 1)) ∧ wpv K_X8_down d P 23 [some (4, (p0 : Int)), some (0, x1), some (0, v4), some (0, (x3 + 1))] [] G R V3)) 196 [(4, (p0 : Int)), (0, x2)] G R V))))) : wpv K_X8_down d P 23 [some (4, (p0 : Int)), some (0, x1), some (0, x2), some (0, x3)] [] G R V := by
  refine wp_ld (i := (.iload_n 3)) (0, x3) rfl rfl (fun _ => rfl) rfl rfl (?_ : wpv K_X8_down d P 24 [some (4, (p0 : Int)), some (0, x1), some (0, x2), some (0, x3)] [(0, x3)] G R V)
  refine wp_ld (i := (.iload_n 1)) (0, x1) rfl rfl (fun _ => rfl) rfl rfl (?_ : wpv K_X8_down d P 25 [some (4, (p0 : Int)), some (0, x1), some (0, x2), some (0, x3)] [(0, x1), (0, x3)] G R V)
  obtain ⟨s1, w⟩ := w
  obtain ⟨s2, w⟩ := w
  refine wp_icmp (c := .ge) 40 rfl rfl rfl s1 s2 (fun q => ?_) (fun q => ?_)
  · have q : ¬ x3 < x1 := q
    replace w := w.1 q
    show wpv K_X8_down d P 40 [some (4, (p0 : Int)), some (0, x1), some (0, x2), some (0, x3)] [] G R V
    refine wp_ld (i := (.iload_n 2)) (0, x2) rfl rfl (fun _ => rfl) rfl rfl (?_ : wpv K_X8_down d P 41 [some (4, (p0 : Int)), some (0, x1), some (0, x2), some (0, x3)] [(0, x2)] G R V)
    exact wp_rI rfl rfl rfl w
  · have q : x3 < x1 := Decidable.not_not.mp q
    replace w := w.2 q
    show wpv K_X8_down d P 28 [some (4, (p0 : Int)), some (0, x1), some (0, x2), some (0, x3)] [] G R V
    refine wp_ld (i := (.aload_n 0)) (4, (p0 : Int)) rfl rfl (fun _ => rfl) rfl rfl (?_ : wpv K_X8_down d P 29 [some (4, (p0 : Int)), some (0, x1), some (0, x2), some (0, x3)] [(4, (p0 : Int))] G R V)
    refine wp_ld (i := (.iload_n 2)) (0, x2) rfl rfl (fun _ => rfl) rfl rfl (?_ : wpv K_X8_down d P 30 [some (4, (p0 : Int)), some (0, x1), some (0, x2), some (0, x3)] [(0, x2), (4, (p0 : Int))] G R V)
    refine wp_virt (as := [(0, x2)]) (a := p0) (st := []) _ rfl rfl rfl rfl rfl rfl (ly8_o l0) (Nat.le_of_ble_eq_true rfl) (cwv_kI w (fun v4 V3 w => ?_))
    show wpv K_X8_down d P 33 [some (4, (p0 : Int)), some (0, x1), some (0, x2), some (0, x3)] [(0, v4)] G R V3
    refine wp_sto (i := (.istore_n 2)) _ rfl rfl (fun _ => rfl) rfl rfl rfl ?_
    refine wp_wk (L' := [some (4, (p0 : Int)), some (0, x1), some (0, v4), some (0, x3)]) (wk_s (wk_s (wk_s (wk_s wk_0)))) ?_
    show wpv K_X8_down d P 34 [some (4, (p0 : Int)), some (0, x1), some (0, v4), some (0, x3)] [] G R V3
    obtain ⟨s5, w⟩ := w
    refine wp_inc (x := 3) (k := 1) (a := x3) (c := (x3 + 1)) _ rfl rfl rfl rfl s5 (by omega) rfl ?_
    show wpv K_X8_down d P 37 [some (4, (p0 : Int)), some (0, x1), some (0, v4), some (0, (x3 + 1))] [] G R V3
    refine wp_go 23 rfl rfl rfl (?_ : wpv K_X8_down d P 23 [some (4, (p0 : Int)), some (0, x1), some (0, v4), some (0, (x3 + 1))] [] G R V3)
    exact wp_wk (wk_s (wk_s (wk_s (wk_s wk_0)))) w
theorem t_X8_simple_0 {d : Nat} {P : gP} {p0 : Nat} {G : List gS} {R V : gV} (l0 : lay8 G R p0) (w : wpv K_X8_simple d P 4 [some (4, (p0 : Int)), some (0, 0), some (0, 0)] [] G R V) : wpv K_X8_simple d P 0 [some (4, (p0 : Int))] [] G R V := by
  refine wp_p (i := (.iconst 0)) rfl rfl (fun _ _ _ => rfl) (?_ : wpv K_X8_simple d P 1 [some (4, (p0 : Int))] [(0, 0)] G R V)
  refine wp_sto (i := (.istore_n 1)) _ rfl rfl (fun _ => rfl) rfl rfl rfl ?_
  refine wp_wk (L' := [some (4, (p0 : Int)), some (0, 0)]) (wk_s (wk_s wk_0)) ?_
  show wpv K_X8_simple d P 2 [some (4, (p0 : Int)), some (0, 0)] [] G R V
  refine wp_p (i := (.iconst 0)) rfl rfl (fun _ _ _ => rfl) (?_ : wpv K_X8_simple d P 3 [some (4, (p0 : Int)), some (0, 0)] [(0, 0)] G R V)
  refine wp_sto (i := (.istore_n 2)) _ rfl rfl (fun _ => rfl) rfl rfl rfl ?_
  refine wp_wk (L' := [some (4, (p0 : Int)), some (0, 0), some (0, 0)]) (wk_s (wk_s (wk_s wk_0))) ?_
  show wpv K_X8_simple d P 4 [some (4, (p0 : Int)), some (0, 0), some (0, 0)] [] G R V
  exact wp_wk (wk_s (wk_s (wk_s wk_0))) w

theorem t_X8_simple_4 {d : Nat} {P : gP} {p0 : Nat} {x1 : Int} {x2 : Int} {G : List gS} {R V : gV} (l0 : lay8 G R p0) (w : ((i32 (V p0 12)) → ((i32 x2) ∧ (((¬ x2 < (V p0 12)) → ((i32 x1) ∧ (((¬ x1 = 2) → P (some (0, 0)) V) ∧ ((x1 = 2) → P (some (0, 1)) V)))) ∧ ((x2 < (V p0 12)) → cwv d (fun r V5 => ∃ v6 : Int, r = some (0, v6) ∧ ((i32 v6) ∧ (((v6 = 0) → ((i32 (x1 + 0)) ∧ ((i32 (x2 + 1)) ∧ wpv K_X8_simple d P 4 [some (4, (p0 : Int)), some (0, (x1 + 0)), some (0, (x2 + 1))] [] G R V5))) ∧ ((¬ v6 = 0) → ((i32 (x1 + 1)) ∧ ((i32 (x2 + 1)) ∧ wpv K_X8_simple d P 4 [some (4, (p0 : Int)), some (0, (x1 + 1)), some (0, (x2 + 1))] [] G R V5)))))) 198 [(4, (p0 : Int)), (0, x2)] G R V))))) : wpv K_X8_simple d P 4 [some (4, (p0 : Int)), some (0, x1), some (0, x2)] [] G R V := by
  refine wp_ld (i := (.iload_n 2)) (0, x2) rfl rfl (fun _ => rfl) rfl rfl (?_ : wpv K_X8_simple d P 5 [some (4, (p0 : Int)), some (0, x1), some (0, x2)] [(0, x2)] G R V)
  refine wp_ld (i := (.aload_n 0)) (4, (p0 : Int)) rfl rfl (fun _ => rfl) rfl rfl (?_ : wpv K_X8_simple d P 6 [some (4, (p0 : Int)), some (0, x1), some (0, x2)] [(4, (p0 : Int)), (0, x2)] G R V)
  refine wp_rng (fun vr1 => ?_)
  have f2 : i32 (V p0 12) := vr_f0 vr1 (ly8_o l0) rfl rfl
  replace w := w f2
  refine wp_getI (k := 12) rfl rfl rfl (ly8_o l0) rfl rfl (?_ : wpv K_X8_simple d P 9 [some (4, (p0 : Int)), some (0, x1), some (0, x2)] [(0, (V p0 12)), (0, x2)] G R V)
  obtain ⟨s3, w⟩ := w
  refine wp_icmp (c := .ge) 34 rfl rfl rfl s3 f2 (fun q => ?_) (fun q => ?_)
  · have q : ¬ x2 < (V p0 12) := q
    replace w := w.1 q
    show wpv K_X8_simple d P 34 [some (4, (p0 : Int)), some (0, x1), some (0, x2)] [] G R V
    refine wp_ld (i := (.iload_n 1)) (0, x1) rfl rfl (fun _ => rfl) rfl rfl (?_ : wpv K_X8_simple d P 35 [some (4, (p0 : Int)), some (0, x1), some (0, x2)] [(0, x1)] G R V)
    refine wp_p (i := (.iconst 2)) rfl rfl (fun _ _ _ => rfl) (?_ : wpv K_X8_simple d P 36 [some (4, (p0 : Int)), some (0, x1), some (0, x2)] [(0, 2), (0, x1)] G R V)
    obtain ⟨s4, w⟩ := w
    refine wp_icmp (c := .ne) 43 rfl rfl rfl s4 ⟨by omega, by omega⟩ (fun q => ?_) (fun q => ?_)
    · have q : ¬ x1 = 2 := q
      replace w := w.1 q
      show wpv K_X8_simple d P 43 [some (4, (p0 : Int)), some (0, x1), some (0, x2)] [] G R V
      refine wp_p (i := (.iconst 0)) rfl rfl (fun _ _ _ => rfl) (?_ : wpv K_X8_simple d P 44 [some (4, (p0 : Int)), some (0, x1), some (0, x2)] [(0, 0)] G R V)
      exact wp_rI rfl rfl rfl w
    · have q : x1 = 2 := Decidable.not_not.mp q
      replace w := w.2 q
      show wpv K_X8_simple d P 39 [some (4, (p0 : Int)), some (0, x1), some (0, x2)] [] G R V
      refine wp_p (i := (.iconst 1)) rfl rfl (fun _ _ _ => rfl) (?_ : wpv K_X8_simple d P 40 [some (4, (p0 : Int)), some (0, x1), some (0, x2)] [(0, 1)] G R V)
      refine wp_go 44 rfl rfl rfl (?_ : wpv K_X8_simple d P 44 [some (4, (p0 : Int)), some (0, x1), some (0, x2)] [(0, 1)] G R V)
      exact wp_rI rfl rfl rfl w
  · have q : x2 < (V p0 12) := Decidable.not_not.mp q
    replace w := w.2 q
    show wpv K_X8_simple d P 12 [some (4, (p0 : Int)), some (0, x1), some (0, x2)] [] G R V
    refine wp_ld (i := (.iload_n 1)) (0, x1) rfl rfl (fun _ => rfl) rfl rfl (?_ : wpv K_X8_simple d P 13 [some (4, (p0 : Int)), some (0, x1), some (0, x2)] [(0, x1)] G R V)
    refine wp_ld (i := (.aload_n 0)) (4, (p0 : Int)) rfl rfl (fun _ => rfl) rfl rfl (?_ : wpv K_X8_simple d P 14 [some (4, (p0 : Int)), some (0, x1), some (0, x2)] [(4, (p0 : Int)), (0, x1)] G R V)
    refine wp_ld (i := (.iload_n 2)) (0, x2) rfl rfl (fun _ => rfl) rfl rfl (?_ : wpv K_X8_simple d P 15 [some (4, (p0 : Int)), some (0, x1), some (0, x2)] [(0, x2), (4, (p0 : Int)), (0, x1)] G R V)
    refine wp_virt (as := [(0, x2)]) (a := p0) (st := [(0, x1)]) _ rfl rfl rfl rfl rfl rfl (ly8_o l0) (Nat.le_of_ble_eq_true rfl) (cwv_kI w (fun v6 V5 w => ?_))
    show wpv K_X8_simple d P 18 [some (4, (p0 : Int)), some (0, x1), some (0, x2)] [(0, v6), (0, x1)] G R V5
    obtain ⟨s7, w⟩ := w
    refine wp_if (c := .eq) 25 rfl rfl rfl s7 (fun q => ?_) (fun q => ?_)
    · have q : v6 = 0 := q
      replace w := w.1 q
      show wpv K_X8_simple d P 25 [some (4, (p0 : Int)), some (0, x1), some (0, x2)] [(0, x1)] G R V5
      refine wp_p (i := (.iconst 0)) rfl rfl (fun _ _ _ => rfl) (?_ : wpv K_X8_simple d P 26 [some (4, (p0 : Int)), some (0, x1), some (0, x2)] [(0, 0), (0, x1)] G R V5)
      obtain ⟨s8, w⟩ := w
      refine wp_xadd rfl rfl s8 (?_ : wpv K_X8_simple d P 27 [some (4, (p0 : Int)), some (0, x1), some (0, x2)] [(0, (x1 + 0))] G R V5)
      refine wp_sto (i := (.istore_n 1)) _ rfl rfl (fun _ => rfl) rfl rfl rfl ?_
      refine wp_wk (L' := [some (4, (p0 : Int)), some (0, (x1 + 0)), some (0, x2)]) (wk_s (wk_s (wk_s wk_0))) ?_
      show wpv K_X8_simple d P 28 [some (4, (p0 : Int)), some (0, (x1 + 0)), some (0, x2)] [] G R V5
      obtain ⟨s9, w⟩ := w
      refine wp_inc (x := 2) (k := 1) (a := x2) (c := (x2 + 1)) _ rfl rfl rfl rfl s9 (by omega) rfl ?_
      show wpv K_X8_simple d P 31 [some (4, (p0 : Int)), some (0, (x1 + 0)), some (0, (x2 + 1))] [] G R V5
      refine wp_go 4 rfl rfl rfl (?_ : wpv K_X8_simple d P 4 [some (4, (p0 : Int)), some (0, (x1 + 0)), some (0, (x2 + 1))] [] G R V5)
      exact wp_wk (wk_s (wk_s (wk_s wk_0))) w
    · have q : ¬ v6 = 0 := q
      replace w := w.2 q
      show wpv K_X8_simple d P 21 [some (4, (p0 : Int)), some (0, x1), some (0, x2)] [(0, x1)] G R V5
      refine wp_p (i := (.iconst 1)) rfl rfl (fun _ _ _ => rfl) (?_ : wpv K_X8_simple d P 22 [some (4, (p0 : Int)), some (0, x1), some (0, x2)] [(0, 1), (0, x1)] G R V5)
      refine wp_go 26 rfl rfl rfl (?_ : wpv K_X8_simple d P 26 [some (4, (p0 : Int)), some (0, x1), some (0, x2)] [(0, 1), (0, x1)] G R V5)
      obtain ⟨s10, w⟩ := w
      refine wp_xadd rfl rfl s10 (?_ : wpv K_X8_simple d P 27 [some (4, (p0 : Int)), some (0, x1), some (0, x2)] [(0, (x1 + 1))] G R V5)
      refine wp_sto (i := (.istore_n 1)) _ rfl rfl (fun _ => rfl) rfl rfl rfl ?_
      refine wp_wk (L' := [some (4, (p0 : Int)), some (0, (x1 + 1)), some (0, x2)]) (wk_s (wk_s (wk_s wk_0))) ?_
      show wpv K_X8_simple d P 28 [some (4, (p0 : Int)), some (0, (x1 + 1)), some (0, x2)] [] G R V5
      obtain ⟨s11, w⟩ := w
      refine wp_inc (x := 2) (k := 1) (a := x2) (c := (x2 + 1)) _ rfl rfl rfl rfl s11 (by omega) rfl ?_
      show wpv K_X8_simple d P 31 [some (4, (p0 : Int)), some (0, (x1 + 1)), some (0, (x2 + 1))] [] G R V5
      refine wp_go 4 rfl rfl rfl (?_ : wpv K_X8_simple d P 4 [some (4, (p0 : Int)), some (0, (x1 + 1)), some (0, (x2 + 1))] [] G R V5)
      exact wp_wk (wk_s (wk_s (wk_s wk_0))) w
theorem t_X8_isNumber_0 {d : Nat} {P : gP} {x0 : Int} {G : List gS} {R V : gV}  (w : ((i32 x0) ∧ cwv d (fun r V2 => ∃ v3 : Int, r = some (0, v3) ∧ ((v3 = 0 ∨ v3 = 1) ∧ P (some (0, v3)) V2)) 159 [(2, x0), (2, 0), (2, 7)] G R V)) : wpv K_X8_isNumber d P 0 [some (0, x0)] [] G R V := by
  refine wp_ld (i := (.iload_n 0)) (0, x0) rfl rfl (fun _ => rfl) rfl rfl (?_ : wpv K_X8_isNumber d P 1 [some (0, x0)] [(0, x0)] G R V)
  obtain ⟨s1, w⟩ := w
  refine wp_i2l rfl rfl s1 (?_ : wpv K_X8_isNumber d P 2 [some (0, x0)] [(2, x0)] G R V)
  refine wp_p (i := (.lconst 0)) rfl rfl (fun _ _ _ => rfl) (?_ : wpv K_X8_isNumber d P 3 [some (0, x0)] [(2, 0), (2, x0)] G R V)
  refine wp_p (i := (.ldc2_w 267)) rfl rfl (fun _ _ _ => rfl) (?_ : wpv K_X8_isNumber d P 6 [some (0, x0)] [(2, 7), (2, 0), (2, x0)] G R V)
  refine wp_stat (as := [(2, x0), (2, 0), (2, 7)]) (st := []) _ rfl rfl rfl (by omega) rfl rfl (Nat.le_of_ble_eq_true rfl) (cwv_kI w (fun v3 V2 w => ?_))
  show wpv K_X8_isNumber d P 9 [some (0, x0)] [(0, v3)] G R V2
  obtain ⟨s4, w⟩ := w
  exact wp_rB rfl rfl rfl s4 w
theorem t_X8_isAct_0 {d : Nat} {P : gP} {p0 : Nat} {x1 : Int} {G : List gS} {R V : gV} (l0 : lay8 G R p0) (w : ((i32 x1) ∧ cwv d (fun r V2 => ∃ v3 : Int, r = some (0, v3) ∧ ((i32 v3) ∧ (((v3 = 0) → P (some (0, 0)) V2) ∧ ((¬ v3 = 0) → ((0 ≤ x1 ∧ x1 < 8) ∧ (((V2 (p0 + 21) x1) = 0 ∨ (V2 (p0 + 21) x1) = 1) → ((((V2 (p0 + 21) x1) = 0) → P (some (0, 0)) V2) ∧ ((¬ (V2 (p0 + 21) x1) = 0) → P (some (0, 1)) V2)))))))) 159 [(2, x1), (2, 0), (2, 7)] G R V)) : wpv K_X8_isAct d P 0 [some (4, (p0 : Int)), some (0, x1)] [] G R V := by
  refine wp_ld (i := (.iload_n 1)) (0, x1) rfl rfl (fun _ => rfl) rfl rfl (?_ : wpv K_X8_isAct d P 1 [some (4, (p0 : Int)), some (0, x1)] [(0, x1)] G R V)
  obtain ⟨s1, w⟩ := w
  refine wp_i2l rfl rfl s1 (?_ : wpv K_X8_isAct d P 2 [some (4, (p0 : Int)), some (0, x1)] [(2, x1)] G R V)
  refine wp_p (i := (.lconst 0)) rfl rfl (fun _ _ _ => rfl) (?_ : wpv K_X8_isAct d P 3 [some (4, (p0 : Int)), some (0, x1)] [(2, 0), (2, x1)] G R V)
  refine wp_p (i := (.ldc2_w 267)) rfl rfl (fun _ _ _ => rfl) (?_ : wpv K_X8_isAct d P 6 [some (4, (p0 : Int)), some (0, x1)] [(2, 7), (2, 0), (2, x1)] G R V)
  refine wp_stat (as := [(2, x1), (2, 0), (2, 7)]) (st := []) _ rfl rfl rfl (by omega) rfl rfl (Nat.le_of_ble_eq_true rfl) (cwv_kI w (fun v3 V2 w => ?_))
  show wpv K_X8_isAct d P 9 [some (4, (p0 : Int)), some (0, x1)] [(0, v3)] G R V2
  obtain ⟨s4, w⟩ := w
  refine wp_if (c := .eq) 25 rfl rfl rfl s4 (fun q => ?_) (fun q => ?_)
  · have q : v3 = 0 := q
    replace w := w.1 q
    show wpv K_X8_isAct d P 25 [some (4, (p0 : Int)), some (0, x1)] [] G R V2
    refine wp_p (i := (.iconst 0)) rfl rfl (fun _ _ _ => rfl) (?_ : wpv K_X8_isAct d P 26 [some (4, (p0 : Int)), some (0, x1)] [(0, 0)] G R V2)
    exact wp_rB rfl rfl rfl (by omega) w
  · have q : ¬ v3 = 0 := q
    replace w := w.2 q
    show wpv K_X8_isAct d P 12 [some (4, (p0 : Int)), some (0, x1)] [] G R V2
    refine wp_ld (i := (.aload_n 0)) (4, (p0 : Int)) rfl rfl (fun _ => rfl) rfl rfl (?_ : wpv K_X8_isAct d P 13 [some (4, (p0 : Int)), some (0, x1)] [(4, (p0 : Int))] G R V2)
    refine wp_getA (k := 28) rfl rfl rfl (ly8_o l0) rfl rfl (ly8_28 l0).1 (?_ : wpv K_X8_isAct d P 16 [some (4, (p0 : Int)), some (0, x1)] [(4, ((p0 + 21 : Nat) : Int))] G R V2)
    refine wp_ld (i := (.iload_n 1)) (0, x1) rfl rfl (fun _ => rfl) rfl rfl (?_ : wpv K_X8_isAct d P 17 [some (4, (p0 : Int)), some (0, x1)] [(0, x1), (4, ((p0 + 21 : Nat) : Int))] G R V2)
    obtain ⟨s5, w⟩ := w
    refine wp_rng (fun vr6 => ?_)
    have f7 : (V2 (p0 + 21) x1) = 0 ∨ (V2 (p0 + 21) x1) = 1 := vr_a2 vr6 (ly8_28 l0).2 s5
    replace w := w f7
    have f8 : i32 (V2 (p0 + 21) x1) := by unfold i32; omega
    refine wp_aB rfl rfl (ly8_28 l0).2 s5 (?_ : wpv K_X8_isAct d P 18 [some (4, (p0 : Int)), some (0, x1)] [(0, (V2 (p0 + 21) x1))] G R V2)
    refine wp_if (c := .eq) 25 rfl rfl rfl f8 (fun q => ?_) (fun q => ?_)
    · have q : (V2 (p0 + 21) x1) = 0 := q
      replace w := w.1 q
      show wpv K_X8_isAct d P 25 [some (4, (p0 : Int)), some (0, x1)] [] G R V2
      refine wp_p (i := (.iconst 0)) rfl rfl (fun _ _ _ => rfl) (?_ : wpv K_X8_isAct d P 26 [some (4, (p0 : Int)), some (0, x1)] [(0, 0)] G R V2)
      exact wp_rB rfl rfl rfl (by omega) w
    · have q : ¬ (V2 (p0 + 21) x1) = 0 := q
      replace w := w.2 q
      show wpv K_X8_isAct d P 21 [some (4, (p0 : Int)), some (0, x1)] [] G R V2
      refine wp_p (i := (.iconst 1)) rfl rfl (fun _ _ _ => rfl) (?_ : wpv K_X8_isAct d P 22 [some (4, (p0 : Int)), some (0, x1)] [(0, 1)] G R V2)
      refine wp_go 26 rfl rfl rfl (?_ : wpv K_X8_isAct d P 26 [some (4, (p0 : Int)), some (0, x1)] [(0, 1)] G R V2)
      exact wp_rB rfl rfl rfl (by omega) w
theorem t_X8_markOf_0 {d : Nat} {P : gP} {p0 : Nat} {x1 : Int} {x2 : Int} {G : List gS} {R V : gV} (l0 : lay8 G R p0) (w : wpv K_X8_markOf d P 5 [some (4, (p0 : Int)), some (0, x1), some (0, x2), some (2, 0), none, some (0, 0)] [] G R V) : wpv K_X8_markOf d P 0 [some (4, (p0 : Int)), some (0, x1), some (0, x2)] [] G R V := by
  refine wp_p (i := (.lconst 0)) rfl rfl (fun _ _ _ => rfl) (?_ : wpv K_X8_markOf d P 1 [some (4, (p0 : Int)), some (0, x1), some (0, x2)] [(2, 0)] G R V)
  refine wp_lsto (i := (.lstore_n 3)) _ rfl rfl (fun _ => rfl) rfl rfl rfl ?_
  refine wp_wk (L' := [some (4, (p0 : Int)), some (0, x1), some (0, x2), some (2, 0)]) (wk_s (wk_s (wk_s (wk_s wk_0)))) ?_
  show wpv K_X8_markOf d P 2 [some (4, (p0 : Int)), some (0, x1), some (0, x2), some (2, 0)] [] G R V
  refine wp_p (i := (.iconst 0)) rfl rfl (fun _ _ _ => rfl) (?_ : wpv K_X8_markOf d P 3 [some (4, (p0 : Int)), some (0, x1), some (0, x2), some (2, 0)] [(0, 0)] G R V)
  refine wp_sto (i := (.istore 5)) _ rfl rfl (fun _ => rfl) rfl rfl rfl ?_
  refine wp_wk (L' := [some (4, (p0 : Int)), some (0, x1), some (0, x2), some (2, 0), none, some (0, 0)]) (wk_s (wk_s (wk_s (wk_s (wk_n (wk_s wk_0)))))) ?_
  show wpv K_X8_markOf d P 5 [some (4, (p0 : Int)), some (0, x1), some (0, x2), some (2, 0), none, some (0, 0)] [] G R V
  exact wp_wk (wk_s (wk_s (wk_s (wk_s (wk_n (wk_s wk_0)))))) w

theorem t_X8_markOf_5 {d : Nat} {P : gP} {p0 : Nat} {x1 : Int} {x2 : Int} {x3 : Int} {x5 : Int} {G : List gS} {R V : gV} (l0 : lay8 G R p0) (w : ((i32 (V p0 13)) → ((i32 x5) ∧ (((¬ x5 < (V p0 13)) → P (some (2, x3)) V) ∧ ((x5 < (V p0 13)) → ((i32 (300 * x1)) ∧ ((i32 ((300 * x1) + x5)) ∧ ((0 ≤ ((300 * x1) + x5) ∧ ((300 * x1) + x5) < 2400) ∧ ((i64 (V (p0 + 22) (((300 * x1) + x5)))) → ((i32 (300 * x5)) ∧ ((i32 ((300 * x5) + x2)) ∧ ((0 ≤ ((300 * x5) + x2) ∧ ((300 * x5) + x2) < 90000) ∧ ((i32 (V (p0 + 18) (((300 * x5) + x2)))) → ((i32 (x5 + 1)) ∧ wpv K_X8_markOf d P 5 [some (4, (p0 : Int)), some (0, x1), some (0, x2), some (2, (jadd x3 ((jmul ((V (p0 + 22) (((300 * x1) + x5)))) ((V (p0 + 18) (((300 * x5) + x2)))))))), none, some (0, (x5 + 1))] [] G R V)))))))))))))) : wpv K_X8_markOf d P 5 [some (4, (p0 : Int)), some (0, x1), some (0, x2), some (2, x3), none, some (0, x5)] [] G R V := by
  refine wp_ld (i := (.iload 5)) (0, x5) rfl rfl (fun _ => rfl) rfl rfl (?_ : wpv K_X8_markOf d P 7 [some (4, (p0 : Int)), some (0, x1), some (0, x2), some (2, x3), none, some (0, x5)] [(0, x5)] G R V)
  refine wp_ld (i := (.aload_n 0)) (4, (p0 : Int)) rfl rfl (fun _ => rfl) rfl rfl (?_ : wpv K_X8_markOf d P 8 [some (4, (p0 : Int)), some (0, x1), some (0, x2), some (2, x3), none, some (0, x5)] [(4, (p0 : Int)), (0, x5)] G R V)
  refine wp_rng (fun vr1 => ?_)
  have f2 : i32 (V p0 13) := vr_f0 vr1 (ly8_o l0) rfl rfl
  replace w := w f2
  refine wp_getI (k := 13) rfl rfl rfl (ly8_o l0) rfl rfl (?_ : wpv K_X8_markOf d P 11 [some (4, (p0 : Int)), some (0, x1), some (0, x2), some (2, x3), none, some (0, x5)] [(0, (V p0 13)), (0, x5)] G R V)
  obtain ⟨s3, w⟩ := w
  refine wp_icmp (c := .ge) 51 rfl rfl rfl s3 f2 (fun q => ?_) (fun q => ?_)
  · have q : ¬ x5 < (V p0 13) := q
    replace w := w.1 q
    show wpv K_X8_markOf d P 51 [some (4, (p0 : Int)), some (0, x1), some (0, x2), some (2, x3), none, some (0, x5)] [] G R V
    refine wp_ld (i := (.lload_n 3)) (2, x3) rfl rfl (fun _ => rfl) rfl rfl (?_ : wpv K_X8_markOf d P 52 [some (4, (p0 : Int)), some (0, x1), some (0, x2), some (2, x3), none, some (0, x5)] [(2, x3)] G R V)
    exact wp_rJ rfl rfl rfl w
  · have q : x5 < (V p0 13) := Decidable.not_not.mp q
    replace w := w.2 q
    show wpv K_X8_markOf d P 14 [some (4, (p0 : Int)), some (0, x1), some (0, x2), some (2, x3), none, some (0, x5)] [] G R V
    refine wp_ld (i := (.lload_n 3)) (2, x3) rfl rfl (fun _ => rfl) rfl rfl (?_ : wpv K_X8_markOf d P 15 [some (4, (p0 : Int)), some (0, x1), some (0, x2), some (2, x3), none, some (0, x5)] [(2, x3)] G R V)
    refine wp_ld (i := (.aload_n 0)) (4, (p0 : Int)) rfl rfl (fun _ => rfl) rfl rfl (?_ : wpv K_X8_markOf d P 16 [some (4, (p0 : Int)), some (0, x1), some (0, x2), some (2, x3), none, some (0, x5)] [(4, (p0 : Int)), (2, x3)] G R V)
    refine wp_getA (k := 29) rfl rfl rfl (ly8_o l0) rfl rfl (ly8_29 l0).1 (?_ : wpv K_X8_markOf d P 19 [some (4, (p0 : Int)), some (0, x1), some (0, x2), some (2, x3), none, some (0, x5)] [(4, ((p0 + 22 : Nat) : Int)), (2, x3)] G R V)
    refine wp_p (i := (.sipush 300)) rfl rfl (fun _ _ _ => rfl) (?_ : wpv K_X8_markOf d P 22 [some (4, (p0 : Int)), some (0, x1), some (0, x2), some (2, x3), none, some (0, x5)] [(0, 300), (4, ((p0 + 22 : Nat) : Int)), (2, x3)] G R V)
    refine wp_ld (i := (.iload_n 1)) (0, x1) rfl rfl (fun _ => rfl) rfl rfl (?_ : wpv K_X8_markOf d P 23 [some (4, (p0 : Int)), some (0, x1), some (0, x2), some (2, x3), none, some (0, x5)] [(0, x1), (0, 300), (4, ((p0 + 22 : Nat) : Int)), (2, x3)] G R V)
    obtain ⟨s4, w⟩ := w
    refine wp_xmul rfl rfl s4 (?_ : wpv K_X8_markOf d P 24 [some (4, (p0 : Int)), some (0, x1), some (0, x2), some (2, x3), none, some (0, x5)] [(0, (300 * x1)), (4, ((p0 + 22 : Nat) : Int)), (2, x3)] G R V)
    refine wp_ld (i := (.iload 5)) (0, x5) rfl rfl (fun _ => rfl) rfl rfl (?_ : wpv K_X8_markOf d P 26 [some (4, (p0 : Int)), some (0, x1), some (0, x2), some (2, x3), none, some (0, x5)] [(0, x5), (0, (300 * x1)), (4, ((p0 + 22 : Nat) : Int)), (2, x3)] G R V)
    obtain ⟨s5, w⟩ := w
    refine wp_xadd rfl rfl s5 (?_ : wpv K_X8_markOf d P 27 [some (4, (p0 : Int)), some (0, x1), some (0, x2), some (2, x3), none, some (0, x5)] [(0, ((300 * x1) + x5)), (4, ((p0 + 22 : Nat) : Int)), (2, x3)] G R V)
    obtain ⟨s6, w⟩ := w
    have f7 : i64 (V (p0 + 22) (((300 * x1) + x5))) := vr_a1 vr1 (ly8_29 l0).2 s6
    replace w := w f7
    refine wp_aJ rfl rfl (ly8_29 l0).2 s6 (?_ : wpv K_X8_markOf d P 28 [some (4, (p0 : Int)), some (0, x1), some (0, x2), some (2, x3), none, some (0, x5)] [(2, (V (p0 + 22) (((300 * x1) + x5)))), (2, x3)] G R V)
    refine wp_ld (i := (.aload_n 0)) (4, (p0 : Int)) rfl rfl (fun _ => rfl) rfl rfl (?_ : wpv K_X8_markOf d P 29 [some (4, (p0 : Int)), some (0, x1), some (0, x2), some (2, x3), none, some (0, x5)] [(4, (p0 : Int)), (2, (V (p0 + 22) (((300 * x1) + x5)))), (2, x3)] G R V)
    refine wp_getA (k := 23) rfl rfl rfl (ly8_o l0) rfl rfl (ly8_23 l0).1 (?_ : wpv K_X8_markOf d P 32 [some (4, (p0 : Int)), some (0, x1), some (0, x2), some (2, x3), none, some (0, x5)] [(4, ((p0 + 18 : Nat) : Int)), (2, (V (p0 + 22) (((300 * x1) + x5)))), (2, x3)] G R V)
    refine wp_p (i := (.sipush 300)) rfl rfl (fun _ _ _ => rfl) (?_ : wpv K_X8_markOf d P 35 [some (4, (p0 : Int)), some (0, x1), some (0, x2), some (2, x3), none, some (0, x5)] [(0, 300), (4, ((p0 + 18 : Nat) : Int)), (2, (V (p0 + 22) (((300 * x1) + x5)))), (2, x3)] G R V)
    refine wp_ld (i := (.iload 5)) (0, x5) rfl rfl (fun _ => rfl) rfl rfl (?_ : wpv K_X8_markOf d P 37 [some (4, (p0 : Int)), some (0, x1), some (0, x2), some (2, x3), none, some (0, x5)] [(0, x5), (0, 300), (4, ((p0 + 18 : Nat) : Int)), (2, (V (p0 + 22) (((300 * x1) + x5)))), (2, x3)] G R V)
    obtain ⟨s8, w⟩ := w
    refine wp_xmul rfl rfl s8 (?_ : wpv K_X8_markOf d P 38 [some (4, (p0 : Int)), some (0, x1), some (0, x2), some (2, x3), none, some (0, x5)] [(0, (300 * x5)), (4, ((p0 + 18 : Nat) : Int)), (2, (V (p0 + 22) (((300 * x1) + x5)))), (2, x3)] G R V)
    refine wp_ld (i := (.iload_n 2)) (0, x2) rfl rfl (fun _ => rfl) rfl rfl (?_ : wpv K_X8_markOf d P 39 [some (4, (p0 : Int)), some (0, x1), some (0, x2), some (2, x3), none, some (0, x5)] [(0, x2), (0, (300 * x5)), (4, ((p0 + 18 : Nat) : Int)), (2, (V (p0 + 22) (((300 * x1) + x5)))), (2, x3)] G R V)
    obtain ⟨s9, w⟩ := w
    refine wp_xadd rfl rfl s9 (?_ : wpv K_X8_markOf d P 40 [some (4, (p0 : Int)), some (0, x1), some (0, x2), some (2, x3), none, some (0, x5)] [(0, ((300 * x5) + x2)), (4, ((p0 + 18 : Nat) : Int)), (2, (V (p0 + 22) (((300 * x1) + x5)))), (2, x3)] G R V)
    obtain ⟨s10, w⟩ := w
    have f11 : i32 (V (p0 + 18) (((300 * x5) + x2))) := vr_a0 vr1 (ly8_23 l0).2 s10
    replace w := w f11
    refine wp_aI rfl rfl (ly8_23 l0).2 s10 (?_ : wpv K_X8_markOf d P 41 [some (4, (p0 : Int)), some (0, x1), some (0, x2), some (2, x3), none, some (0, x5)] [(0, (V (p0 + 18) (((300 * x5) + x2)))), (2, (V (p0 + 22) (((300 * x1) + x5)))), (2, x3)] G R V)
    refine wp_i2l rfl rfl f11 (?_ : wpv K_X8_markOf d P 42 [some (4, (p0 : Int)), some (0, x1), some (0, x2), some (2, x3), none, some (0, x5)] [(2, (V (p0 + 18) (((300 * x5) + x2)))), (2, (V (p0 + 22) (((300 * x1) + x5)))), (2, x3)] G R V)
    refine wp_jmul rfl rfl (?_ : wpv K_X8_markOf d P 43 [some (4, (p0 : Int)), some (0, x1), some (0, x2), some (2, x3), none, some (0, x5)] [(2, (jmul ((V (p0 + 22) (((300 * x1) + x5)))) ((V (p0 + 18) (((300 * x5) + x2)))))), (2, x3)] G R V)
    refine wp_jadd rfl rfl (?_ : wpv K_X8_markOf d P 44 [some (4, (p0 : Int)), some (0, x1), some (0, x2), some (2, x3), none, some (0, x5)] [(2, (jadd x3 ((jmul ((V (p0 + 22) (((300 * x1) + x5)))) ((V (p0 + 18) (((300 * x5) + x2))))))))] G R V)
    refine wp_lsto (i := (.lstore_n 3)) _ rfl rfl (fun _ => rfl) rfl rfl rfl ?_
    refine wp_wk (L' := [some (4, (p0 : Int)), some (0, x1), some (0, x2), some (2, (jadd x3 ((jmul ((V (p0 + 22) (((300 * x1) + x5)))) ((V (p0 + 18) (((300 * x5) + x2)))))))), none, some (0, x5)]) (wk_s (wk_s (wk_s (wk_s (wk_n (wk_s wk_0)))))) ?_
    show wpv K_X8_markOf d P 45 [some (4, (p0 : Int)), some (0, x1), some (0, x2), some (2, (jadd x3 ((jmul ((V (p0 + 22) (((300 * x1) + x5)))) ((V (p0 + 18) (((300 * x5) + x2)))))))), none, some (0, x5)] [] G R V
    obtain ⟨s12, w⟩ := w
    refine wp_inc (x := 5) (k := 1) (a := x5) (c := (x5 + 1)) _ rfl rfl rfl rfl s12 (by omega) rfl ?_
    show wpv K_X8_markOf d P 48 [some (4, (p0 : Int)), some (0, x1), some (0, x2), some (2, (jadd x3 ((jmul ((V (p0 + 22) (((300 * x1) + x5)))) ((V (p0 + 18) (((300 * x5) + x2)))))))), none, some (0, (x5 + 1))] [] G R V
    refine wp_go 5 rfl rfl rfl (?_ : wpv K_X8_markOf d P 5 [some (4, (p0 : Int)), some (0, x1), some (0, x2), some (2, (jadd x3 ((jmul ((V (p0 + 22) (((300 * x1) + x5)))) ((V (p0 + 18) (((300 * x5) + x2)))))))), none, some (0, (x5 + 1))] [] G R V)
    exact wp_wk (wk_s (wk_s (wk_s (wk_s (wk_n (wk_s wk_0)))))) w
theorem t_X8_sizeOf_0 {d : Nat} {P : gP} {p0 : Nat} {x1 : Int} {G : List gS} {R V : gV} (l0 : lay8 G R p0) (w : cwv d (fun r V1 => ∃ v2 : Int, r = some (2, v2) ∧ P (some (2, v2)) V1) 210 [(4, (p0 : Int)), (0, x1), (0, 0)] G R V) : wpv K_X8_sizeOf d P 0 [some (4, (p0 : Int)), some (0, x1)] [] G R V := by
  refine wp_ld (i := (.aload_n 0)) (4, (p0 : Int)) rfl rfl (fun _ => rfl) rfl rfl (?_ : wpv K_X8_sizeOf d P 1 [some (4, (p0 : Int)), some (0, x1)] [(4, (p0 : Int))] G R V)
  refine wp_ld (i := (.iload_n 1)) (0, x1) rfl rfl (fun _ => rfl) rfl rfl (?_ : wpv K_X8_sizeOf d P 2 [some (4, (p0 : Int)), some (0, x1)] [(0, x1), (4, (p0 : Int))] G R V)
  refine wp_p (i := (.iconst 0)) rfl rfl (fun _ _ _ => rfl) (?_ : wpv K_X8_sizeOf d P 3 [some (4, (p0 : Int)), some (0, x1)] [(0, 0), (0, x1), (4, (p0 : Int))] G R V)
  refine wp_virt (as := [(0, x1), (0, 0)]) (a := p0) (st := []) _ rfl rfl rfl rfl rfl rfl (ly8_o l0) (Nat.le_of_ble_eq_true rfl) (cwv_kJ w (fun v2 V1 w => ?_))
  show wpv K_X8_sizeOf d P 6 [some (4, (p0 : Int)), some (0, x1)] [(2, v2)] G R V1
  exact wp_rJ rfl rfl rfl w
theorem t_X8_becomes_0 {d : Nat} {P : gP} {p0 : Nat} {x1 : Int} {G : List gS} {R V : gV} (l0 : lay8 G R p0) (w : cwv d (fun r V1 => ∃ v2 : Int, r = some (0, v2) ∧ ((0 ≤ x1 ∧ x1 < 8) ∧ wpv K_X8_becomes d P 14 [some (4, (p0 : Int)), some (0, x1), some (0, 0)] [] G R (wr V1 (p0 + 21) x1 1))) 213 [(4, (p0 : Int))] G R V) : wpv K_X8_becomes d P 0 [some (4, (p0 : Int)), some (0, x1)] [] G R V := by
  refine wp_ld (i := (.aload_n 0)) (4, (p0 : Int)) rfl rfl (fun _ => rfl) rfl rfl (?_ : wpv K_X8_becomes d P 1 [some (4, (p0 : Int)), some (0, x1)] [(4, (p0 : Int))] G R V)
  refine wp_virt (as := []) (a := p0) (st := []) _ rfl rfl rfl rfl rfl rfl (ly8_o l0) (Nat.le_of_ble_eq_true rfl) (cwv_kI w (fun v2 V1 w => ?_))
  show wpv K_X8_becomes d P 4 [some (4, (p0 : Int)), some (0, x1)] [(0, v2)] G R V1
  refine wp_p (i := .pop) rfl rfl (fun _ _ _ => rfl) (?_ : wpv K_X8_becomes d P 5 [some (4, (p0 : Int)), some (0, x1)] [] G R V1)
  refine wp_ld (i := (.aload_n 0)) (4, (p0 : Int)) rfl rfl (fun _ => rfl) rfl rfl (?_ : wpv K_X8_becomes d P 6 [some (4, (p0 : Int)), some (0, x1)] [(4, (p0 : Int))] G R V1)
  refine wp_getA (k := 28) rfl rfl rfl (ly8_o l0) rfl rfl (ly8_28 l0).1 (?_ : wpv K_X8_becomes d P 9 [some (4, (p0 : Int)), some (0, x1)] [(4, ((p0 + 21 : Nat) : Int))] G R V1)
  refine wp_ld (i := (.iload_n 1)) (0, x1) rfl rfl (fun _ => rfl) rfl rfl (?_ : wpv K_X8_becomes d P 10 [some (4, (p0 : Int)), some (0, x1)] [(0, x1), (4, ((p0 + 21 : Nat) : Int))] G R V1)
  refine wp_p (i := (.iconst 1)) rfl rfl (fun _ _ _ => rfl) (?_ : wpv K_X8_becomes d P 11 [some (4, (p0 : Int)), some (0, x1)] [(0, 1), (0, x1), (4, ((p0 + 21 : Nat) : Int))] G R V1)
  obtain ⟨s3, w⟩ := w
  refine wp_sB rfl rfl (ly8_28 l0).2 s3 (by omega) (?_ : wpv K_X8_becomes d P 12 [some (4, (p0 : Int)), some (0, x1)] [] G R (wr V1 (p0 + 21) x1 1))
  refine wp_p (i := (.iconst 0)) rfl rfl (fun _ _ _ => rfl) (?_ : wpv K_X8_becomes d P 13 [some (4, (p0 : Int)), some (0, x1)] [(0, 0)] G R (wr V1 (p0 + 21) x1 1))
  refine wp_sto (i := (.istore_n 2)) _ rfl rfl (fun _ => rfl) rfl rfl rfl ?_
  refine wp_wk (L' := [some (4, (p0 : Int)), some (0, x1), some (0, 0)]) (wk_s (wk_s (wk_s wk_0))) ?_
  show wpv K_X8_becomes d P 14 [some (4, (p0 : Int)), some (0, x1), some (0, 0)] [] G R (wr V1 (p0 + 21) x1 1)
  exact wp_wk (wk_s (wk_s (wk_s wk_0))) w

theorem t_X8_becomes_14 {d : Nat} {P : gP} {p0 : Nat} {x1 : Int} {x2 : Int} {G : List gS} {R V : gV} (l0 : lay8 G R p0) (w : ((i32 (V p0 13)) → ((i32 x2) ∧ (((¬ x2 < (V p0 13)) → cwv d (fun r V4 => ∃ v5 : Int, r = some (2, v5) ∧ cwv d (fun r V6 => ∃ v7 : Int, r = some (2, v7) ∧ P (some (2, v7)) V6) 161 [(4, (p0 : Int)), (2, v5)] G R V4) 211 [(4, (p0 : Int)), (0, x1)] G R V) ∧ ((x2 < (V p0 13)) → ((i32 (300 * x1)) ∧ ((i32 ((300 * x1) + x2)) ∧ ((0 ≤ x2 ∧ x2 < 300) ∧ ((i64 (V (p0 + 24) x2)) → ((0 ≤ ((300 * x1) + x2) ∧ ((300 * x1) + x2) < 2400) ∧ ((i32 (x2 + 1)) ∧ wpv K_X8_becomes d P 14 [some (4, (p0 : Int)), some (0, x1), some (0, (x2 + 1))] [] G R (wr V (p0 + 22) (((300 * x1) + x2)) ((V (p0 + 24) x2)))))))))))))) : wpv K_X8_becomes d P 14 [some (4, (p0 : Int)), some (0, x1), some (0, x2)] [] G R V := by
  refine wp_ld (i := (.iload_n 2)) (0, x2) rfl rfl (fun _ => rfl) rfl rfl (?_ : wpv K_X8_becomes d P 15 [some (4, (p0 : Int)), some (0, x1), some (0, x2)] [(0, x2)] G R V)
  refine wp_ld (i := (.aload_n 0)) (4, (p0 : Int)) rfl rfl (fun _ => rfl) rfl rfl (?_ : wpv K_X8_becomes d P 16 [some (4, (p0 : Int)), some (0, x1), some (0, x2)] [(4, (p0 : Int)), (0, x2)] G R V)
  refine wp_rng (fun vr1 => ?_)
  have f2 : i32 (V p0 13) := vr_f0 vr1 (ly8_o l0) rfl rfl
  replace w := w f2
  refine wp_getI (k := 13) rfl rfl rfl (ly8_o l0) rfl rfl (?_ : wpv K_X8_becomes d P 19 [some (4, (p0 : Int)), some (0, x1), some (0, x2)] [(0, (V p0 13)), (0, x2)] G R V)
  obtain ⟨s3, w⟩ := w
  refine wp_icmp (c := .ge) 46 rfl rfl rfl s3 f2 (fun q => ?_) (fun q => ?_)
  · have q : ¬ x2 < (V p0 13) := q
    replace w := w.1 q
    show wpv K_X8_becomes d P 46 [some (4, (p0 : Int)), some (0, x1), some (0, x2)] [] G R V
    refine wp_ld (i := (.aload_n 0)) (4, (p0 : Int)) rfl rfl (fun _ => rfl) rfl rfl (?_ : wpv K_X8_becomes d P 47 [some (4, (p0 : Int)), some (0, x1), some (0, x2)] [(4, (p0 : Int))] G R V)
    refine wp_ld (i := (.aload_n 0)) (4, (p0 : Int)) rfl rfl (fun _ => rfl) rfl rfl (?_ : wpv K_X8_becomes d P 48 [some (4, (p0 : Int)), some (0, x1), some (0, x2)] [(4, (p0 : Int)), (4, (p0 : Int))] G R V)
    refine wp_ld (i := (.iload_n 1)) (0, x1) rfl rfl (fun _ => rfl) rfl rfl (?_ : wpv K_X8_becomes d P 49 [some (4, (p0 : Int)), some (0, x1), some (0, x2)] [(0, x1), (4, (p0 : Int)), (4, (p0 : Int))] G R V)
    refine wp_virt (as := [(0, x1)]) (a := p0) (st := [(4, (p0 : Int))]) _ rfl rfl rfl rfl rfl rfl (ly8_o l0) (Nat.le_of_ble_eq_true rfl) (cwv_kJ w (fun v5 V4 w => ?_))
    show wpv K_X8_becomes d P 52 [some (4, (p0 : Int)), some (0, x1), some (0, x2)] [(2, v5), (4, (p0 : Int))] G R V4
    refine wp_virt (as := [(2, v5)]) (a := p0) (st := []) _ rfl rfl rfl rfl rfl rfl (ly8_o l0) (Nat.le_of_ble_eq_true rfl) (cwv_kJ w (fun v7 V6 w => ?_))
    show wpv K_X8_becomes d P 55 [some (4, (p0 : Int)), some (0, x1), some (0, x2)] [(2, v7)] G R V6
    exact wp_rJ rfl rfl rfl w
  · have q : x2 < (V p0 13) := Decidable.not_not.mp q
    replace w := w.2 q
    show wpv K_X8_becomes d P 22 [some (4, (p0 : Int)), some (0, x1), some (0, x2)] [] G R V
    refine wp_ld (i := (.aload_n 0)) (4, (p0 : Int)) rfl rfl (fun _ => rfl) rfl rfl (?_ : wpv K_X8_becomes d P 23 [some (4, (p0 : Int)), some (0, x1), some (0, x2)] [(4, (p0 : Int))] G R V)
    refine wp_getA (k := 29) rfl rfl rfl (ly8_o l0) rfl rfl (ly8_29 l0).1 (?_ : wpv K_X8_becomes d P 26 [some (4, (p0 : Int)), some (0, x1), some (0, x2)] [(4, ((p0 + 22 : Nat) : Int))] G R V)
    refine wp_p (i := (.sipush 300)) rfl rfl (fun _ _ _ => rfl) (?_ : wpv K_X8_becomes d P 29 [some (4, (p0 : Int)), some (0, x1), some (0, x2)] [(0, 300), (4, ((p0 + 22 : Nat) : Int))] G R V)
    refine wp_ld (i := (.iload_n 1)) (0, x1) rfl rfl (fun _ => rfl) rfl rfl (?_ : wpv K_X8_becomes d P 30 [some (4, (p0 : Int)), some (0, x1), some (0, x2)] [(0, x1), (0, 300), (4, ((p0 + 22 : Nat) : Int))] G R V)
    obtain ⟨s8, w⟩ := w
    refine wp_xmul rfl rfl s8 (?_ : wpv K_X8_becomes d P 31 [some (4, (p0 : Int)), some (0, x1), some (0, x2)] [(0, (300 * x1)), (4, ((p0 + 22 : Nat) : Int))] G R V)
    refine wp_ld (i := (.iload_n 2)) (0, x2) rfl rfl (fun _ => rfl) rfl rfl (?_ : wpv K_X8_becomes d P 32 [some (4, (p0 : Int)), some (0, x1), some (0, x2)] [(0, x2), (0, (300 * x1)), (4, ((p0 + 22 : Nat) : Int))] G R V)
    obtain ⟨s9, w⟩ := w
    refine wp_xadd rfl rfl s9 (?_ : wpv K_X8_becomes d P 33 [some (4, (p0 : Int)), some (0, x1), some (0, x2)] [(0, ((300 * x1) + x2)), (4, ((p0 + 22 : Nat) : Int))] G R V)
    refine wp_ld (i := (.aload_n 0)) (4, (p0 : Int)) rfl rfl (fun _ => rfl) rfl rfl (?_ : wpv K_X8_becomes d P 34 [some (4, (p0 : Int)), some (0, x1), some (0, x2)] [(4, (p0 : Int)), (0, ((300 * x1) + x2)), (4, ((p0 + 22 : Nat) : Int))] G R V)
    refine wp_getA (k := 31) rfl rfl rfl (ly8_o l0) rfl rfl (ly8_31 l0).1 (?_ : wpv K_X8_becomes d P 37 [some (4, (p0 : Int)), some (0, x1), some (0, x2)] [(4, ((p0 + 24 : Nat) : Int)), (0, ((300 * x1) + x2)), (4, ((p0 + 22 : Nat) : Int))] G R V)
    refine wp_ld (i := (.iload_n 2)) (0, x2) rfl rfl (fun _ => rfl) rfl rfl (?_ : wpv K_X8_becomes d P 38 [some (4, (p0 : Int)), some (0, x1), some (0, x2)] [(0, x2), (4, ((p0 + 24 : Nat) : Int)), (0, ((300 * x1) + x2)), (4, ((p0 + 22 : Nat) : Int))] G R V)
    obtain ⟨s10, w⟩ := w
    have f11 : i64 (V (p0 + 24) x2) := vr_a1 vr1 (ly8_31 l0).2 s10
    replace w := w f11
    refine wp_aJ rfl rfl (ly8_31 l0).2 s10 (?_ : wpv K_X8_becomes d P 39 [some (4, (p0 : Int)), some (0, x1), some (0, x2)] [(2, (V (p0 + 24) x2)), (0, ((300 * x1) + x2)), (4, ((p0 + 22 : Nat) : Int))] G R V)
    obtain ⟨s12, w⟩ := w
    refine wp_sJ rfl rfl (ly8_29 l0).2 s12 f11 (?_ : wpv K_X8_becomes d P 40 [some (4, (p0 : Int)), some (0, x1), some (0, x2)] [] G R (wr V (p0 + 22) (((300 * x1) + x2)) ((V (p0 + 24) x2))))
    obtain ⟨s13, w⟩ := w
    refine wp_inc (x := 2) (k := 1) (a := x2) (c := (x2 + 1)) _ rfl rfl rfl rfl s13 (by omega) rfl ?_
    show wpv K_X8_becomes d P 43 [some (4, (p0 : Int)), some (0, x1), some (0, (x2 + 1))] [] G R (wr V (p0 + 22) (((300 * x1) + x2)) ((V (p0 + 24) x2)))
    refine wp_go 14 rfl rfl rfl (?_ : wpv K_X8_becomes d P 14 [some (4, (p0 : Int)), some (0, x1), some (0, (x2 + 1))] [] G R (wr V (p0 + 22) (((300 * x1) + x2)) ((V (p0 + 24) x2))))
    exact wp_wk (wk_s (wk_s (wk_s wk_0))) w
theorem t_X8_solves_0 {d : Nat} {P : gP} {p0 : Nat} {G : List gS} {R V : gV} (l0 : lay8 G R p0) (w : ((i32 (V p0 13)) → ((i32 ((V p0 13) - 1)) ∧ wpv K_X8_solves d P 14 [some (4, (p0 : Int)), some (0, 2), some (0, ((V p0 13) - 1))] [] G R (wr V p0 32 ((-1)))))) : wpv K_X8_solves d P 0 [some (4, (p0 : Int))] [] G R V := by
  refine wp_ld (i := (.aload_n 0)) (4, (p0 : Int)) rfl rfl (fun _ => rfl) rfl rfl (?_ : wpv K_X8_solves d P 1 [some (4, (p0 : Int))] [(4, (p0 : Int))] G R V)
  refine wp_p (i := (.iconst (-1))) rfl rfl (fun _ _ _ => rfl) (?_ : wpv K_X8_solves d P 2 [some (4, (p0 : Int))] [(0, (-1)), (4, (p0 : Int))] G R V)
  refine wp_putI (k := 32) rfl rfl rfl (ly8_o l0) rfl rfl rfl ⟨by omega, by omega⟩ (?_ : wpv K_X8_solves d P 5 [some (4, (p0 : Int))] [] G R (wr V p0 32 ((-1))))
  refine wp_p (i := (.iconst 2)) rfl rfl (fun _ _ _ => rfl) (?_ : wpv K_X8_solves d P 6 [some (4, (p0 : Int))] [(0, 2)] G R (wr V p0 32 ((-1))))
  refine wp_sto (i := (.istore_n 1)) _ rfl rfl (fun _ => rfl) rfl rfl rfl ?_
  refine wp_wk (L' := [some (4, (p0 : Int)), some (0, 2)]) (wk_s (wk_s wk_0)) ?_
  show wpv K_X8_solves d P 7 [some (4, (p0 : Int)), some (0, 2)] [] G R (wr V p0 32 ((-1)))
  refine wp_ld (i := (.aload_n 0)) (4, (p0 : Int)) rfl rfl (fun _ => rfl) rfl rfl (?_ : wpv K_X8_solves d P 8 [some (4, (p0 : Int)), some (0, 2)] [(4, (p0 : Int))] G R (wr V p0 32 ((-1))))
  refine wp_rng (fun vr1 => ?_)
  have r2 : ((wr V p0 32 ((-1))) p0 13) = (V p0 13) := (wr_i (by omega))
  have f3 : i32 (V p0 13) := (by have h := vr_f0 vr1 (ly8_o l0) rfl (k := 13) (k' := 13) rfl; rw [r2] at h; exact h)
  replace w := w f3
  refine wp_getIe (k := 13) rfl rfl rfl (ly8_o l0) rfl rfl r2 (?_ : wpv K_X8_solves d P 11 [some (4, (p0 : Int)), some (0, 2)] [(0, (V p0 13))] G R (wr V p0 32 ((-1))))
  refine wp_p (i := (.iconst 1)) rfl rfl (fun _ _ _ => rfl) (?_ : wpv K_X8_solves d P 12 [some (4, (p0 : Int)), some (0, 2)] [(0, 1), (0, (V p0 13))] G R (wr V p0 32 ((-1))))
  obtain ⟨s4, w⟩ := w
  refine wp_xsub rfl rfl s4 (?_ : wpv K_X8_solves d P 13 [some (4, (p0 : Int)), some (0, 2)] [(0, ((V p0 13) - 1))] G R (wr V p0 32 ((-1))))
  refine wp_sto (i := (.istore_n 2)) _ rfl rfl (fun _ => rfl) rfl rfl rfl ?_
  refine wp_wk (L' := [some (4, (p0 : Int)), some (0, 2), some (0, ((V p0 13) - 1))]) (wk_s (wk_s (wk_s wk_0))) ?_
  show wpv K_X8_solves d P 14 [some (4, (p0 : Int)), some (0, 2), some (0, ((V p0 13) - 1))] [] G R (wr V p0 32 ((-1)))
  exact wp_wk (wk_s (wk_s (wk_s wk_0))) w

theorem t_X8_solves_14 {d : Nat} {P : gP} {p0 : Nat} {x1 : Int} {x2 : Int} {G : List gS} {R V : gV} (l0 : lay8 G R p0) (w : ((i32 x2) ∧ (((x2 < 0) → P (some (0, x1)) V) ∧ ((¬ x2 < 0) → ((0 ≤ x2 ∧ x2 < 300) ∧ ((i64 (V (p0 + 23) x2)) → ((i32 (x2 + 1)) ∧ wpv K_X8_solves d P 30 [some (4, (p0 : Int)), some (0, x1), some (0, x2), some (2, (V (p0 + 23) x2)), none, some (0, (x2 + 1))] [] G R V))))))) : wpv K_X8_solves d P 14 [some (4, (p0 : Int)), some (0, x1), some (0, x2)] [] G R V := by
  refine wp_ld (i := (.iload_n 2)) (0, x2) rfl rfl (fun _ => rfl) rfl rfl (?_ : wpv K_X8_solves d P 15 [some (4, (p0 : Int)), some (0, x1), some (0, x2)] [(0, x2)] G R V)
  obtain ⟨s1, w⟩ := w
  refine wp_if (c := .lt) 141 rfl rfl rfl s1 (fun q => ?_) (fun q => ?_)
  · have q : x2 < 0 := q
    replace w := w.1 q
    show wpv K_X8_solves d P 141 [some (4, (p0 : Int)), some (0, x1), some (0, x2)] [] G R V
    refine wp_ld (i := (.iload_n 1)) (0, x1) rfl rfl (fun _ => rfl) rfl rfl (?_ : wpv K_X8_solves d P 142 [some (4, (p0 : Int)), some (0, x1), some (0, x2)] [(0, x1)] G R V)
    exact wp_rI rfl rfl rfl w
  · have q : ¬ x2 < 0 := q
    replace w := w.2 q
    show wpv K_X8_solves d P 18 [some (4, (p0 : Int)), some (0, x1), some (0, x2)] [] G R V
    refine wp_ld (i := (.aload_n 0)) (4, (p0 : Int)) rfl rfl (fun _ => rfl) rfl rfl (?_ : wpv K_X8_solves d P 19 [some (4, (p0 : Int)), some (0, x1), some (0, x2)] [(4, (p0 : Int))] G R V)
    refine wp_getA (k := 30) rfl rfl rfl (ly8_o l0) rfl rfl (ly8_30 l0).1 (?_ : wpv K_X8_solves d P 22 [some (4, (p0 : Int)), some (0, x1), some (0, x2)] [(4, ((p0 + 23 : Nat) : Int))] G R V)
    refine wp_ld (i := (.iload_n 2)) (0, x2) rfl rfl (fun _ => rfl) rfl rfl (?_ : wpv K_X8_solves d P 23 [some (4, (p0 : Int)), some (0, x1), some (0, x2)] [(0, x2), (4, ((p0 + 23 : Nat) : Int))] G R V)
    obtain ⟨s2, w⟩ := w
    refine wp_rng (fun vr3 => ?_)
    have f4 : i64 (V (p0 + 23) x2) := vr_a1 vr3 (ly8_30 l0).2 s2
    replace w := w f4
    refine wp_aJ rfl rfl (ly8_30 l0).2 s2 (?_ : wpv K_X8_solves d P 24 [some (4, (p0 : Int)), some (0, x1), some (0, x2)] [(2, (V (p0 + 23) x2))] G R V)
    refine wp_lsto (i := (.lstore_n 3)) _ rfl rfl (fun _ => rfl) rfl rfl rfl ?_
    refine wp_wk (L' := [some (4, (p0 : Int)), some (0, x1), some (0, x2), some (2, (V (p0 + 23) x2))]) (wk_s (wk_s (wk_s (wk_s wk_0)))) ?_
    show wpv K_X8_solves d P 25 [some (4, (p0 : Int)), some (0, x1), some (0, x2), some (2, (V (p0 + 23) x2))] [] G R V
    refine wp_ld (i := (.iload_n 2)) (0, x2) rfl rfl (fun _ => rfl) rfl rfl (?_ : wpv K_X8_solves d P 26 [some (4, (p0 : Int)), some (0, x1), some (0, x2), some (2, (V (p0 + 23) x2))] [(0, x2)] G R V)
    refine wp_p (i := (.iconst 1)) rfl rfl (fun _ _ _ => rfl) (?_ : wpv K_X8_solves d P 27 [some (4, (p0 : Int)), some (0, x1), some (0, x2), some (2, (V (p0 + 23) x2))] [(0, 1), (0, x2)] G R V)
    obtain ⟨s5, w⟩ := w
    refine wp_xadd rfl rfl s5 (?_ : wpv K_X8_solves d P 28 [some (4, (p0 : Int)), some (0, x1), some (0, x2), some (2, (V (p0 + 23) x2))] [(0, (x2 + 1))] G R V)
    refine wp_sto (i := (.istore 5)) _ rfl rfl (fun _ => rfl) rfl rfl rfl ?_
    refine wp_wk (L' := [some (4, (p0 : Int)), some (0, x1), some (0, x2), some (2, (V (p0 + 23) x2)), none, some (0, (x2 + 1))]) (wk_s (wk_s (wk_s (wk_s (wk_n (wk_s wk_0)))))) ?_
    show wpv K_X8_solves d P 30 [some (4, (p0 : Int)), some (0, x1), some (0, x2), some (2, (V (p0 + 23) x2)), none, some (0, (x2 + 1))] [] G R V
    exact wp_wk (wk_s (wk_s (wk_s (wk_s (wk_n (wk_s wk_0)))))) w

theorem t_X8_solves_30 {d : Nat} {P : gP} {p0 : Nat} {x1 : Int} {x2 : Int} {x3 : Int} {x5 : Int} {G : List gS} {R V : gV} (l0 : lay8 G R p0) (w : ((i32 (V p0 13)) → ((i32 x5) ∧ (((¬ x5 < (V p0 13)) → ((i32 (300 * x2)) ∧ ((i32 ((300 * x2) + x2)) ∧ ((0 ≤ ((300 * x2) + x2) ∧ ((300 * x2) + x2) < 90000) ∧ ((i32 (V (p0 + 18) (((300 * x2) + x2)))) → (((V (p0 + 18) (((300 * x2) + x2))) ≠ 0) ∧ ((((jrem x3 ((V (p0 + 18) (((300 * x2) + x2))))) = 0) → (((V (p0 + 18) (((300 * x2) + x2))) ≠ 0) ∧ ((0 ≤ x2 ∧ x2 < 300) ∧ (((¬ (jdiv x3 ((V (p0 + 18) (((300 * x2) + x2))))) < 0) → ((i32 (x2 - 1)) ∧ wpv K_X8_solves d P 14 [some (4, (p0 : Int)), some (0, x1), some (0, (x2 - 1))] [] G R (wr V (p0 + 24) x2 ((jdiv x3 ((V (p0 + 18) (((300 * x2) + x2))))))))) ∧ (((jdiv x3 ((V (p0 + 18) (((300 * x2) + x2))))) < 0) → ((i32 x1) ∧ (((¬ x1 = 2) → ((i32 (x2 - 1)) ∧ wpv K_X8_solves d P 14 [some (4, (p0 : Int)), some (0, x1), some (0, (x2 - 1))] [] G R (wr V (p0 + 24) x2 ((jdiv x3 ((V (p0 + 18) (((300 * x2) + x2))))))))) ∧ ((x1 = 2) → ((i32 x2) ∧ ((i32 (x2 - 1)) ∧ wpv K_X8_solves d P 14 [some (4, (p0 : Int)), some (0, 1), some (0, (x2 - 1))] [] G R (wr (wr V (p0 + 24) x2 ((jdiv x3 ((V (p0 + 18) (((300 * x2) + x2))))))) p0 32 x2))))))))))) ∧ ((¬ (jrem x3 ((V (p0 + 18) (((300 * x2) + x2))))) = 0) → ((i32 x2) ∧ P (some (0, 0)) (wr V p0 32 x2)))))))))) ∧ ((x5 < (V p0 13)) → ((0 ≤ x5 ∧ x5 < 300) ∧ ((i64 (V (p0 + 24) x5)) → ((i32 (300 * x5)) ∧ ((i32 ((300 * x5) + x2)) ∧ ((0 ≤ ((300 * x5) + x2) ∧ ((300 * x5) + x2) < 90000) ∧ ((i32 (V (p0 + 18) (((300 * x5) + x2)))) → ((i32 (x5 + 1)) ∧ wpv K_X8_solves d P 30 [some (4, (p0 : Int)), some (0, x1), some (0, x2), some (2, (jsub x3 ((jmul ((V (p0 + 24) x5)) ((V (p0 + 18) (((300 * x5) + x2)))))))), none, some (0, (x5 + 1))] [] G R V)))))))))))) : wpv K_X8_solves d P 30 [some (4, (p0 : Int)), some (0, x1), some (0, x2), some (2, x3), none, some (0, x5)] [] G R V := by
  refine wp_ld (i := (.iload 5)) (0, x5) rfl rfl (fun _ => rfl) rfl rfl (?_ : wpv K_X8_solves d P 32 [some (4, (p0 : Int)), some (0, x1), some (0, x2), some (2, x3), none, some (0, x5)] [(0, x5)] G R V)
  refine wp_ld (i := (.aload_n 0)) (4, (p0 : Int)) rfl rfl (fun _ => rfl) rfl rfl (?_ : wpv K_X8_solves d P 33 [some (4, (p0 : Int)), some (0, x1), some (0, x2), some (2, x3), none, some (0, x5)] [(4, (p0 : Int)), (0, x5)] G R V)
  refine wp_rng (fun vr1 => ?_)
  have f2 : i32 (V p0 13) := vr_f0 vr1 (ly8_o l0) rfl rfl
  replace w := w f2
  refine wp_getI (k := 13) rfl rfl rfl (ly8_o l0) rfl rfl (?_ : wpv K_X8_solves d P 36 [some (4, (p0 : Int)), some (0, x1), some (0, x2), some (2, x3), none, some (0, x5)] [(0, (V p0 13)), (0, x5)] G R V)
  obtain ⟨s3, w⟩ := w
  refine wp_icmp (c := .ge) 70 rfl rfl rfl s3 f2 (fun q => ?_) (fun q => ?_)
  · have q : ¬ x5 < (V p0 13) := q
    replace w := w.1 q
    show wpv K_X8_solves d P 70 [some (4, (p0 : Int)), some (0, x1), some (0, x2), some (2, x3), none, some (0, x5)] [] G R V
    refine wp_ld (i := (.aload_n 0)) (4, (p0 : Int)) rfl rfl (fun _ => rfl) rfl rfl (?_ : wpv K_X8_solves d P 71 [some (4, (p0 : Int)), some (0, x1), some (0, x2), some (2, x3), none, some (0, x5)] [(4, (p0 : Int))] G R V)
    refine wp_getA (k := 23) rfl rfl rfl (ly8_o l0) rfl rfl (ly8_23 l0).1 (?_ : wpv K_X8_solves d P 74 [some (4, (p0 : Int)), some (0, x1), some (0, x2), some (2, x3), none, some (0, x5)] [(4, ((p0 + 18 : Nat) : Int))] G R V)
    refine wp_p (i := (.sipush 300)) rfl rfl (fun _ _ _ => rfl) (?_ : wpv K_X8_solves d P 77 [some (4, (p0 : Int)), some (0, x1), some (0, x2), some (2, x3), none, some (0, x5)] [(0, 300), (4, ((p0 + 18 : Nat) : Int))] G R V)
    refine wp_ld (i := (.iload_n 2)) (0, x2) rfl rfl (fun _ => rfl) rfl rfl (?_ : wpv K_X8_solves d P 78 [some (4, (p0 : Int)), some (0, x1), some (0, x2), some (2, x3), none, some (0, x5)] [(0, x2), (0, 300), (4, ((p0 + 18 : Nat) : Int))] G R V)
    obtain ⟨s4, w⟩ := w
    refine wp_xmul rfl rfl s4 (?_ : wpv K_X8_solves d P 79 [some (4, (p0 : Int)), some (0, x1), some (0, x2), some (2, x3), none, some (0, x5)] [(0, (300 * x2)), (4, ((p0 + 18 : Nat) : Int))] G R V)
    refine wp_ld (i := (.iload_n 2)) (0, x2) rfl rfl (fun _ => rfl) rfl rfl (?_ : wpv K_X8_solves d P 80 [some (4, (p0 : Int)), some (0, x1), some (0, x2), some (2, x3), none, some (0, x5)] [(0, x2), (0, (300 * x2)), (4, ((p0 + 18 : Nat) : Int))] G R V)
    obtain ⟨s5, w⟩ := w
    refine wp_xadd rfl rfl s5 (?_ : wpv K_X8_solves d P 81 [some (4, (p0 : Int)), some (0, x1), some (0, x2), some (2, x3), none, some (0, x5)] [(0, ((300 * x2) + x2)), (4, ((p0 + 18 : Nat) : Int))] G R V)
    obtain ⟨s6, w⟩ := w
    have f7 : i32 (V (p0 + 18) (((300 * x2) + x2))) := vr_a0 vr1 (ly8_23 l0).2 s6
    replace w := w f7
    refine wp_aI rfl rfl (ly8_23 l0).2 s6 (?_ : wpv K_X8_solves d P 82 [some (4, (p0 : Int)), some (0, x1), some (0, x2), some (2, x3), none, some (0, x5)] [(0, (V (p0 + 18) (((300 * x2) + x2))))] G R V)
    refine wp_sto (i := (.istore 5)) _ rfl rfl (fun _ => rfl) rfl rfl rfl ?_
    refine wp_wk (L' := [some (4, (p0 : Int)), some (0, x1), some (0, x2), some (2, x3), none, some (0, (V (p0 + 18) (((300 * x2) + x2))))]) (wk_s (wk_s (wk_s (wk_s (wk_n (wk_s wk_0)))))) ?_
    show wpv K_X8_solves d P 84 [some (4, (p0 : Int)), some (0, x1), some (0, x2), some (2, x3), none, some (0, (V (p0 + 18) (((300 * x2) + x2))))] [] G R V
    refine wp_ld (i := (.lload_n 3)) (2, x3) rfl rfl (fun _ => rfl) rfl rfl (?_ : wpv K_X8_solves d P 85 [some (4, (p0 : Int)), some (0, x1), some (0, x2), some (2, x3), none, some (0, (V (p0 + 18) (((300 * x2) + x2))))] [(2, x3)] G R V)
    refine wp_ld (i := (.iload 5)) (0, (V (p0 + 18) (((300 * x2) + x2)))) rfl rfl (fun _ => rfl) rfl rfl (?_ : wpv K_X8_solves d P 87 [some (4, (p0 : Int)), some (0, x1), some (0, x2), some (2, x3), none, some (0, (V (p0 + 18) (((300 * x2) + x2))))] [(0, (V (p0 + 18) (((300 * x2) + x2)))), (2, x3)] G R V)
    refine wp_i2l rfl rfl f7 (?_ : wpv K_X8_solves d P 88 [some (4, (p0 : Int)), some (0, x1), some (0, x2), some (2, x3), none, some (0, (V (p0 + 18) (((300 * x2) + x2))))] [(2, (V (p0 + 18) (((300 * x2) + x2)))), (2, x3)] G R V)
    obtain ⟨s8, w⟩ := w
    refine wp_jrem rfl rfl (i32_64 f7) s8 (?_ : wpv K_X8_solves d P 89 [some (4, (p0 : Int)), some (0, x1), some (0, x2), some (2, x3), none, some (0, (V (p0 + 18) (((300 * x2) + x2))))] [(2, (jrem x3 ((V (p0 + 18) (((300 * x2) + x2))))))] G R V)
    refine wp_p (i := (.lconst 0)) rfl rfl (fun _ _ _ => rfl) (?_ : wpv K_X8_solves d P 90 [some (4, (p0 : Int)), some (0, x1), some (0, x2), some (2, x3), none, some (0, (V (p0 + 18) (((300 * x2) + x2))))] [(2, 0), (2, (jrem x3 ((V (p0 + 18) (((300 * x2) + x2))))))] G R V)
    refine wp_lcmp rfl rfl (t64 _) ⟨by omega, by omega⟩ (?_ : wpv K_X8_solves d P 91 [some (4, (p0 : Int)), some (0, x1), some (0, x2), some (2, x3), none, some (0, (V (p0 + 18) (((300 * x2) + x2))))] [(0, sg ((jrem x3 ((V (p0 + 18) (((300 * x2) + x2)))))) 0)] G R V)
    refine wp_if (c := .eq) 101 rfl rfl rfl (sg32 _ _) (fun q => ?_) (fun q => ?_)
    · have q : (jrem x3 ((V (p0 + 18) (((300 * x2) + x2))))) = 0 := sg_eq.mp q
      replace w := w.1 q
      show wpv K_X8_solves d P 101 [some (4, (p0 : Int)), some (0, x1), some (0, x2), some (2, x3), none, some (0, (V (p0 + 18) (((300 * x2) + x2))))] [] G R V
      refine wp_ld (i := (.aload_n 0)) (4, (p0 : Int)) rfl rfl (fun _ => rfl) rfl rfl (?_ : wpv K_X8_solves d P 102 [some (4, (p0 : Int)), some (0, x1), some (0, x2), some (2, x3), none, some (0, (V (p0 + 18) (((300 * x2) + x2))))] [(4, (p0 : Int))] G R V)
      refine wp_getA (k := 31) rfl rfl rfl (ly8_o l0) rfl rfl (ly8_31 l0).1 (?_ : wpv K_X8_solves d P 105 [some (4, (p0 : Int)), some (0, x1), some (0, x2), some (2, x3), none, some (0, (V (p0 + 18) (((300 * x2) + x2))))] [(4, ((p0 + 24 : Nat) : Int))] G R V)
      refine wp_ld (i := (.iload_n 2)) (0, x2) rfl rfl (fun _ => rfl) rfl rfl (?_ : wpv K_X8_solves d P 106 [some (4, (p0 : Int)), some (0, x1), some (0, x2), some (2, x3), none, some (0, (V (p0 + 18) (((300 * x2) + x2))))] [(0, x2), (4, ((p0 + 24 : Nat) : Int))] G R V)
      refine wp_ld (i := (.lload_n 3)) (2, x3) rfl rfl (fun _ => rfl) rfl rfl (?_ : wpv K_X8_solves d P 107 [some (4, (p0 : Int)), some (0, x1), some (0, x2), some (2, x3), none, some (0, (V (p0 + 18) (((300 * x2) + x2))))] [(2, x3), (0, x2), (4, ((p0 + 24 : Nat) : Int))] G R V)
      refine wp_ld (i := (.iload 5)) (0, (V (p0 + 18) (((300 * x2) + x2)))) rfl rfl (fun _ => rfl) rfl rfl (?_ : wpv K_X8_solves d P 109 [some (4, (p0 : Int)), some (0, x1), some (0, x2), some (2, x3), none, some (0, (V (p0 + 18) (((300 * x2) + x2))))] [(0, (V (p0 + 18) (((300 * x2) + x2)))), (2, x3), (0, x2), (4, ((p0 + 24 : Nat) : Int))] G R V)
      refine wp_i2l rfl rfl f7 (?_ : wpv K_X8_solves d P 110 [some (4, (p0 : Int)), some (0, x1), some (0, x2), some (2, x3), none, some (0, (V (p0 + 18) (((300 * x2) + x2))))] [(2, (V (p0 + 18) (((300 * x2) + x2)))), (2, x3), (0, x2), (4, ((p0 + 24 : Nat) : Int))] G R V)
      obtain ⟨s9, w⟩ := w
      refine wp_jdiv rfl rfl (i32_64 f7) s9 (?_ : wpv K_X8_solves d P 111 [some (4, (p0 : Int)), some (0, x1), some (0, x2), some (2, x3), none, some (0, (V (p0 + 18) (((300 * x2) + x2))))] [(2, (jdiv x3 ((V (p0 + 18) (((300 * x2) + x2)))))), (0, x2), (4, ((p0 + 24 : Nat) : Int))] G R V)
      obtain ⟨s10, w⟩ := w
      refine wp_sJ rfl rfl (ly8_31 l0).2 s10 (t64 _) (?_ : wpv K_X8_solves d P 112 [some (4, (p0 : Int)), some (0, x1), some (0, x2), some (2, x3), none, some (0, (V (p0 + 18) (((300 * x2) + x2))))] [] G R (wr V (p0 + 24) x2 ((jdiv x3 ((V (p0 + 18) (((300 * x2) + x2))))))))
      refine wp_ld (i := (.aload_n 0)) (4, (p0 : Int)) rfl rfl (fun _ => rfl) rfl rfl (?_ : wpv K_X8_solves d P 113 [some (4, (p0 : Int)), some (0, x1), some (0, x2), some (2, x3), none, some (0, (V (p0 + 18) (((300 * x2) + x2))))] [(4, (p0 : Int))] G R (wr V (p0 + 24) x2 ((jdiv x3 ((V (p0 + 18) (((300 * x2) + x2))))))))
      refine wp_getA (k := 31) rfl rfl rfl (ly8_o l0) rfl rfl (ly8_31 l0).1 (?_ : wpv K_X8_solves d P 116 [some (4, (p0 : Int)), some (0, x1), some (0, x2), some (2, x3), none, some (0, (V (p0 + 18) (((300 * x2) + x2))))] [(4, ((p0 + 24 : Nat) : Int))] G R (wr V (p0 + 24) x2 ((jdiv x3 ((V (p0 + 18) (((300 * x2) + x2))))))))
      refine wp_ld (i := (.iload_n 2)) (0, x2) rfl rfl (fun _ => rfl) rfl rfl (?_ : wpv K_X8_solves d P 117 [some (4, (p0 : Int)), some (0, x1), some (0, x2), some (2, x3), none, some (0, (V (p0 + 18) (((300 * x2) + x2))))] [(0, x2), (4, ((p0 + 24 : Nat) : Int))] G R (wr V (p0 + 24) x2 ((jdiv x3 ((V (p0 + 18) (((300 * x2) + x2))))))))
      refine wp_rng (fun vr11 => ?_)
      have r12 : ((wr V (p0 + 24) x2 ((jdiv x3 ((V (p0 + 18) (((300 * x2) + x2))))))) (p0 + 24) x2) = (jdiv x3 ((V (p0 + 18) (((300 * x2) + x2))))) := (wr_same _ _ _ _)
      refine wp_aJe rfl rfl (ly8_31 l0).2 s10 r12 (?_ : wpv K_X8_solves d P 118 [some (4, (p0 : Int)), some (0, x1), some (0, x2), some (2, x3), none, some (0, (V (p0 + 18) (((300 * x2) + x2))))] [(2, (jdiv x3 ((V (p0 + 18) (((300 * x2) + x2))))))] G R (wr V (p0 + 24) x2 ((jdiv x3 ((V (p0 + 18) (((300 * x2) + x2))))))))
      refine wp_p (i := (.lconst 0)) rfl rfl (fun _ _ _ => rfl) (?_ : wpv K_X8_solves d P 119 [some (4, (p0 : Int)), some (0, x1), some (0, x2), some (2, x3), none, some (0, (V (p0 + 18) (((300 * x2) + x2))))] [(2, 0), (2, (jdiv x3 ((V (p0 + 18) (((300 * x2) + x2))))))] G R (wr V (p0 + 24) x2 ((jdiv x3 ((V (p0 + 18) (((300 * x2) + x2))))))))
      refine wp_lcmp rfl rfl (t64 _) ⟨by omega, by omega⟩ (?_ : wpv K_X8_solves d P 120 [some (4, (p0 : Int)), some (0, x1), some (0, x2), some (2, x3), none, some (0, (V (p0 + 18) (((300 * x2) + x2))))] [(0, sg ((jdiv x3 ((V (p0 + 18) (((300 * x2) + x2)))))) 0)] G R (wr V (p0 + 24) x2 ((jdiv x3 ((V (p0 + 18) (((300 * x2) + x2))))))))
      refine wp_if (c := .ge) 135 rfl rfl rfl (sg32 _ _) (fun q => ?_) (fun q => ?_)
      · have q : ¬ (jdiv x3 ((V (p0 + 18) (((300 * x2) + x2))))) < 0 := fun z => q (sg_lt.mpr z)
        replace w := w.1 q
        show wpv K_X8_solves d P 135 [some (4, (p0 : Int)), some (0, x1), some (0, x2), some (2, x3), none, some (0, (V (p0 + 18) (((300 * x2) + x2))))] [] G R (wr V (p0 + 24) x2 ((jdiv x3 ((V (p0 + 18) (((300 * x2) + x2)))))))
        obtain ⟨s13, w⟩ := w
        refine wp_inc (x := 2) (k := -1) (a := x2) (c := (x2 - 1)) _ rfl rfl rfl rfl (by have := s13; unfold i32 at *; omega) (by omega) rfl ?_
        show wpv K_X8_solves d P 138 [some (4, (p0 : Int)), some (0, x1), some (0, (x2 - 1)), some (2, x3), none, some (0, (V (p0 + 18) (((300 * x2) + x2))))] [] G R (wr V (p0 + 24) x2 ((jdiv x3 ((V (p0 + 18) (((300 * x2) + x2)))))))
        refine wp_go 14 rfl rfl rfl (?_ : wpv K_X8_solves d P 14 [some (4, (p0 : Int)), some (0, x1), some (0, (x2 - 1)), some (2, x3), none, some (0, (V (p0 + 18) (((300 * x2) + x2))))] [] G R (wr V (p0 + 24) x2 ((jdiv x3 ((V (p0 + 18) (((300 * x2) + x2))))))))
        exact wp_wk (wk_s (wk_s (wk_s wk_0))) w
      · have q : (jdiv x3 ((V (p0 + 18) (((300 * x2) + x2))))) < 0 := sg_lt.mp (Decidable.not_not.mp q)
        replace w := w.2 q
        show wpv K_X8_solves d P 123 [some (4, (p0 : Int)), some (0, x1), some (0, x2), some (2, x3), none, some (0, (V (p0 + 18) (((300 * x2) + x2))))] [] G R (wr V (p0 + 24) x2 ((jdiv x3 ((V (p0 + 18) (((300 * x2) + x2)))))))
        refine wp_ld (i := (.iload_n 1)) (0, x1) rfl rfl (fun _ => rfl) rfl rfl (?_ : wpv K_X8_solves d P 124 [some (4, (p0 : Int)), some (0, x1), some (0, x2), some (2, x3), none, some (0, (V (p0 + 18) (((300 * x2) + x2))))] [(0, x1)] G R (wr V (p0 + 24) x2 ((jdiv x3 ((V (p0 + 18) (((300 * x2) + x2))))))))
        refine wp_p (i := (.iconst 2)) rfl rfl (fun _ _ _ => rfl) (?_ : wpv K_X8_solves d P 125 [some (4, (p0 : Int)), some (0, x1), some (0, x2), some (2, x3), none, some (0, (V (p0 + 18) (((300 * x2) + x2))))] [(0, 2), (0, x1)] G R (wr V (p0 + 24) x2 ((jdiv x3 ((V (p0 + 18) (((300 * x2) + x2))))))))
        obtain ⟨s14, w⟩ := w
        refine wp_icmp (c := .ne) 135 rfl rfl rfl s14 ⟨by omega, by omega⟩ (fun q => ?_) (fun q => ?_)
        · have q : ¬ x1 = 2 := q
          replace w := w.1 q
          show wpv K_X8_solves d P 135 [some (4, (p0 : Int)), some (0, x1), some (0, x2), some (2, x3), none, some (0, (V (p0 + 18) (((300 * x2) + x2))))] [] G R (wr V (p0 + 24) x2 ((jdiv x3 ((V (p0 + 18) (((300 * x2) + x2)))))))
          obtain ⟨s15, w⟩ := w
          refine wp_inc (x := 2) (k := -1) (a := x2) (c := (x2 - 1)) _ rfl rfl rfl rfl (by have := s15; unfold i32 at *; omega) (by omega) rfl ?_
          show wpv K_X8_solves d P 138 [some (4, (p0 : Int)), some (0, x1), some (0, (x2 - 1)), some (2, x3), none, some (0, (V (p0 + 18) (((300 * x2) + x2))))] [] G R (wr V (p0 + 24) x2 ((jdiv x3 ((V (p0 + 18) (((300 * x2) + x2)))))))
          refine wp_go 14 rfl rfl rfl (?_ : wpv K_X8_solves d P 14 [some (4, (p0 : Int)), some (0, x1), some (0, (x2 - 1)), some (2, x3), none, some (0, (V (p0 + 18) (((300 * x2) + x2))))] [] G R (wr V (p0 + 24) x2 ((jdiv x3 ((V (p0 + 18) (((300 * x2) + x2))))))))
          exact wp_wk (wk_s (wk_s (wk_s wk_0))) w
        · have q : x1 = 2 := Decidable.not_not.mp q
          replace w := w.2 q
          show wpv K_X8_solves d P 128 [some (4, (p0 : Int)), some (0, x1), some (0, x2), some (2, x3), none, some (0, (V (p0 + 18) (((300 * x2) + x2))))] [] G R (wr V (p0 + 24) x2 ((jdiv x3 ((V (p0 + 18) (((300 * x2) + x2)))))))
          refine wp_p (i := (.iconst 1)) rfl rfl (fun _ _ _ => rfl) (?_ : wpv K_X8_solves d P 129 [some (4, (p0 : Int)), some (0, x1), some (0, x2), some (2, x3), none, some (0, (V (p0 + 18) (((300 * x2) + x2))))] [(0, 1)] G R (wr V (p0 + 24) x2 ((jdiv x3 ((V (p0 + 18) (((300 * x2) + x2))))))))
          refine wp_sto (i := (.istore_n 1)) _ rfl rfl (fun _ => rfl) rfl rfl rfl ?_
          refine wp_wk (L' := [some (4, (p0 : Int)), some (0, 1), some (0, x2), some (2, x3), none, some (0, (V (p0 + 18) (((300 * x2) + x2))))]) (wk_s (wk_s (wk_s (wk_s (wk_n (wk_s wk_0)))))) ?_
          show wpv K_X8_solves d P 130 [some (4, (p0 : Int)), some (0, 1), some (0, x2), some (2, x3), none, some (0, (V (p0 + 18) (((300 * x2) + x2))))] [] G R (wr V (p0 + 24) x2 ((jdiv x3 ((V (p0 + 18) (((300 * x2) + x2)))))))
          refine wp_ld (i := (.aload_n 0)) (4, (p0 : Int)) rfl rfl (fun _ => rfl) rfl rfl (?_ : wpv K_X8_solves d P 131 [some (4, (p0 : Int)), some (0, 1), some (0, x2), some (2, x3), none, some (0, (V (p0 + 18) (((300 * x2) + x2))))] [(4, (p0 : Int))] G R (wr V (p0 + 24) x2 ((jdiv x3 ((V (p0 + 18) (((300 * x2) + x2))))))))
          refine wp_ld (i := (.iload_n 2)) (0, x2) rfl rfl (fun _ => rfl) rfl rfl (?_ : wpv K_X8_solves d P 132 [some (4, (p0 : Int)), some (0, 1), some (0, x2), some (2, x3), none, some (0, (V (p0 + 18) (((300 * x2) + x2))))] [(0, x2), (4, (p0 : Int))] G R (wr V (p0 + 24) x2 ((jdiv x3 ((V (p0 + 18) (((300 * x2) + x2))))))))
          obtain ⟨s16, w⟩ := w
          refine wp_putI (k := 32) rfl rfl rfl (ly8_o l0) rfl rfl rfl s16 (?_ : wpv K_X8_solves d P 135 [some (4, (p0 : Int)), some (0, 1), some (0, x2), some (2, x3), none, some (0, (V (p0 + 18) (((300 * x2) + x2))))] [] G R (wr (wr V (p0 + 24) x2 ((jdiv x3 ((V (p0 + 18) (((300 * x2) + x2))))))) p0 32 x2))
          obtain ⟨s17, w⟩ := w
          refine wp_inc (x := 2) (k := -1) (a := x2) (c := (x2 - 1)) _ rfl rfl rfl rfl (by have := s17; unfold i32 at *; omega) (by omega) rfl ?_
          show wpv K_X8_solves d P 138 [some (4, (p0 : Int)), some (0, 1), some (0, (x2 - 1)), some (2, x3), none, some (0, (V (p0 + 18) (((300 * x2) + x2))))] [] G R (wr (wr V (p0 + 24) x2 ((jdiv x3 ((V (p0 + 18) (((300 * x2) + x2))))))) p0 32 x2)
          refine wp_go 14 rfl rfl rfl (?_ : wpv K_X8_solves d P 14 [some (4, (p0 : Int)), some (0, 1), some (0, (x2 - 1)), some (2, x3), none, some (0, (V (p0 + 18) (((300 * x2) + x2))))] [] G R (wr (wr V (p0 + 24) x2 ((jdiv x3 ((V (p0 + 18) (((300 * x2) + x2))))))) p0 32 x2))
          exact wp_wk (wk_s (wk_s (wk_s wk_0))) w
    · have q : ¬ (jrem x3 ((V (p0 + 18) (((300 * x2) + x2))))) = 0 := fun z => q (sg_eq.mpr z)
      replace w := w.2 q
      show wpv K_X8_solves d P 94 [some (4, (p0 : Int)), some (0, x1), some (0, x2), some (2, x3), none, some (0, (V (p0 + 18) (((300 * x2) + x2))))] [] G R V
      refine wp_ld (i := (.aload_n 0)) (4, (p0 : Int)) rfl rfl (fun _ => rfl) rfl rfl (?_ : wpv K_X8_solves d P 95 [some (4, (p0 : Int)), some (0, x1), some (0, x2), some (2, x3), none, some (0, (V (p0 + 18) (((300 * x2) + x2))))] [(4, (p0 : Int))] G R V)
      refine wp_ld (i := (.iload_n 2)) (0, x2) rfl rfl (fun _ => rfl) rfl rfl (?_ : wpv K_X8_solves d P 96 [some (4, (p0 : Int)), some (0, x1), some (0, x2), some (2, x3), none, some (0, (V (p0 + 18) (((300 * x2) + x2))))] [(0, x2), (4, (p0 : Int))] G R V)
      obtain ⟨s18, w⟩ := w
      refine wp_putI (k := 32) rfl rfl rfl (ly8_o l0) rfl rfl rfl s18 (?_ : wpv K_X8_solves d P 99 [some (4, (p0 : Int)), some (0, x1), some (0, x2), some (2, x3), none, some (0, (V (p0 + 18) (((300 * x2) + x2))))] [] G R (wr V p0 32 x2))
      refine wp_p (i := (.iconst 0)) rfl rfl (fun _ _ _ => rfl) (?_ : wpv K_X8_solves d P 100 [some (4, (p0 : Int)), some (0, x1), some (0, x2), some (2, x3), none, some (0, (V (p0 + 18) (((300 * x2) + x2))))] [(0, 0)] G R (wr V p0 32 x2))
      exact wp_rI rfl rfl rfl w
  · have q : x5 < (V p0 13) := Decidable.not_not.mp q
    replace w := w.2 q
    show wpv K_X8_solves d P 39 [some (4, (p0 : Int)), some (0, x1), some (0, x2), some (2, x3), none, some (0, x5)] [] G R V
    refine wp_ld (i := (.lload_n 3)) (2, x3) rfl rfl (fun _ => rfl) rfl rfl (?_ : wpv K_X8_solves d P 40 [some (4, (p0 : Int)), some (0, x1), some (0, x2), some (2, x3), none, some (0, x5)] [(2, x3)] G R V)
    refine wp_ld (i := (.aload_n 0)) (4, (p0 : Int)) rfl rfl (fun _ => rfl) rfl rfl (?_ : wpv K_X8_solves d P 41 [some (4, (p0 : Int)), some (0, x1), some (0, x2), some (2, x3), none, some (0, x5)] [(4, (p0 : Int)), (2, x3)] G R V)
    refine wp_getA (k := 31) rfl rfl rfl (ly8_o l0) rfl rfl (ly8_31 l0).1 (?_ : wpv K_X8_solves d P 44 [some (4, (p0 : Int)), some (0, x1), some (0, x2), some (2, x3), none, some (0, x5)] [(4, ((p0 + 24 : Nat) : Int)), (2, x3)] G R V)
    refine wp_ld (i := (.iload 5)) (0, x5) rfl rfl (fun _ => rfl) rfl rfl (?_ : wpv K_X8_solves d P 46 [some (4, (p0 : Int)), some (0, x1), some (0, x2), some (2, x3), none, some (0, x5)] [(0, x5), (4, ((p0 + 24 : Nat) : Int)), (2, x3)] G R V)
    obtain ⟨s19, w⟩ := w
    have f20 : i64 (V (p0 + 24) x5) := vr_a1 vr1 (ly8_31 l0).2 s19
    replace w := w f20
    refine wp_aJ rfl rfl (ly8_31 l0).2 s19 (?_ : wpv K_X8_solves d P 47 [some (4, (p0 : Int)), some (0, x1), some (0, x2), some (2, x3), none, some (0, x5)] [(2, (V (p0 + 24) x5)), (2, x3)] G R V)
    refine wp_ld (i := (.aload_n 0)) (4, (p0 : Int)) rfl rfl (fun _ => rfl) rfl rfl (?_ : wpv K_X8_solves d P 48 [some (4, (p0 : Int)), some (0, x1), some (0, x2), some (2, x3), none, some (0, x5)] [(4, (p0 : Int)), (2, (V (p0 + 24) x5)), (2, x3)] G R V)
    refine wp_getA (k := 23) rfl rfl rfl (ly8_o l0) rfl rfl (ly8_23 l0).1 (?_ : wpv K_X8_solves d P 51 [some (4, (p0 : Int)), some (0, x1), some (0, x2), some (2, x3), none, some (0, x5)] [(4, ((p0 + 18 : Nat) : Int)), (2, (V (p0 + 24) x5)), (2, x3)] G R V)
    refine wp_p (i := (.sipush 300)) rfl rfl (fun _ _ _ => rfl) (?_ : wpv K_X8_solves d P 54 [some (4, (p0 : Int)), some (0, x1), some (0, x2), some (2, x3), none, some (0, x5)] [(0, 300), (4, ((p0 + 18 : Nat) : Int)), (2, (V (p0 + 24) x5)), (2, x3)] G R V)
    refine wp_ld (i := (.iload 5)) (0, x5) rfl rfl (fun _ => rfl) rfl rfl (?_ : wpv K_X8_solves d P 56 [some (4, (p0 : Int)), some (0, x1), some (0, x2), some (2, x3), none, some (0, x5)] [(0, x5), (0, 300), (4, ((p0 + 18 : Nat) : Int)), (2, (V (p0 + 24) x5)), (2, x3)] G R V)
    obtain ⟨s21, w⟩ := w
    refine wp_xmul rfl rfl s21 (?_ : wpv K_X8_solves d P 57 [some (4, (p0 : Int)), some (0, x1), some (0, x2), some (2, x3), none, some (0, x5)] [(0, (300 * x5)), (4, ((p0 + 18 : Nat) : Int)), (2, (V (p0 + 24) x5)), (2, x3)] G R V)
    refine wp_ld (i := (.iload_n 2)) (0, x2) rfl rfl (fun _ => rfl) rfl rfl (?_ : wpv K_X8_solves d P 58 [some (4, (p0 : Int)), some (0, x1), some (0, x2), some (2, x3), none, some (0, x5)] [(0, x2), (0, (300 * x5)), (4, ((p0 + 18 : Nat) : Int)), (2, (V (p0 + 24) x5)), (2, x3)] G R V)
    obtain ⟨s22, w⟩ := w
    refine wp_xadd rfl rfl s22 (?_ : wpv K_X8_solves d P 59 [some (4, (p0 : Int)), some (0, x1), some (0, x2), some (2, x3), none, some (0, x5)] [(0, ((300 * x5) + x2)), (4, ((p0 + 18 : Nat) : Int)), (2, (V (p0 + 24) x5)), (2, x3)] G R V)
    obtain ⟨s23, w⟩ := w
    have f24 : i32 (V (p0 + 18) (((300 * x5) + x2))) := vr_a0 vr1 (ly8_23 l0).2 s23
    replace w := w f24
    refine wp_aI rfl rfl (ly8_23 l0).2 s23 (?_ : wpv K_X8_solves d P 60 [some (4, (p0 : Int)), some (0, x1), some (0, x2), some (2, x3), none, some (0, x5)] [(0, (V (p0 + 18) (((300 * x5) + x2)))), (2, (V (p0 + 24) x5)), (2, x3)] G R V)
    refine wp_i2l rfl rfl f24 (?_ : wpv K_X8_solves d P 61 [some (4, (p0 : Int)), some (0, x1), some (0, x2), some (2, x3), none, some (0, x5)] [(2, (V (p0 + 18) (((300 * x5) + x2)))), (2, (V (p0 + 24) x5)), (2, x3)] G R V)
    refine wp_jmul rfl rfl (?_ : wpv K_X8_solves d P 62 [some (4, (p0 : Int)), some (0, x1), some (0, x2), some (2, x3), none, some (0, x5)] [(2, (jmul ((V (p0 + 24) x5)) ((V (p0 + 18) (((300 * x5) + x2)))))), (2, x3)] G R V)
    refine wp_jsub rfl rfl (?_ : wpv K_X8_solves d P 63 [some (4, (p0 : Int)), some (0, x1), some (0, x2), some (2, x3), none, some (0, x5)] [(2, (jsub x3 ((jmul ((V (p0 + 24) x5)) ((V (p0 + 18) (((300 * x5) + x2))))))))] G R V)
    refine wp_lsto (i := (.lstore_n 3)) _ rfl rfl (fun _ => rfl) rfl rfl rfl ?_
    refine wp_wk (L' := [some (4, (p0 : Int)), some (0, x1), some (0, x2), some (2, (jsub x3 ((jmul ((V (p0 + 24) x5)) ((V (p0 + 18) (((300 * x5) + x2)))))))), none, some (0, x5)]) (wk_s (wk_s (wk_s (wk_s (wk_n (wk_s wk_0)))))) ?_
    show wpv K_X8_solves d P 64 [some (4, (p0 : Int)), some (0, x1), some (0, x2), some (2, (jsub x3 ((jmul ((V (p0 + 24) x5)) ((V (p0 + 18) (((300 * x5) + x2)))))))), none, some (0, x5)] [] G R V
    obtain ⟨s25, w⟩ := w
    refine wp_inc (x := 5) (k := 1) (a := x5) (c := (x5 + 1)) _ rfl rfl rfl rfl s25 (by omega) rfl ?_
    show wpv K_X8_solves d P 67 [some (4, (p0 : Int)), some (0, x1), some (0, x2), some (2, (jsub x3 ((jmul ((V (p0 + 24) x5)) ((V (p0 + 18) (((300 * x5) + x2)))))))), none, some (0, (x5 + 1))] [] G R V
    refine wp_go 30 rfl rfl rfl (?_ : wpv K_X8_solves d P 30 [some (4, (p0 : Int)), some (0, x1), some (0, x2), some (2, (jsub x3 ((jmul ((V (p0 + 24) x5)) ((V (p0 + 18) (((300 * x5) + x2)))))))), none, some (0, (x5 + 1))] [] G R V)
    exact wp_wk (wk_s (wk_s (wk_s (wk_s (wk_n (wk_s wk_0)))))) w
