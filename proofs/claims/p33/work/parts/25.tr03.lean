theorem t_X8_coset_0 {d : Nat} {P : gP} {p0 : Nat} {x1 : Int} {x2 : Int} {G : List gS} {R V : gV} (l0 : lay8 G R p0) (w : cwv d (fun r V1 => ∃ v2 : Int, r = some (0, v2) ∧ ((i32 v2) ∧ (((¬ v2 = 0) → cwv d (fun r V4 => ∃ v5 : Int, r = some (0, v5) ∧ ((i32 v5) ∧ (((¬ v5 = 0) → ((0 ≤ x1 ∧ x1 < 8) ∧ wpv K_X8_coset d P 40 [some (4, (p0 : Int)), some (0, x1), some (0, x2), some (0, 0)] [] G R (wr V4 (p0 + 21) x1 1))) ∧ ((v5 = 0) → cwv d (fun r V8 => ∃ v9 : Int, r = some (2, v9) ∧ P (some (2, v9)) V8) 161 [(4, (p0 : Int)), (2, (-2))] G R V4)))) 185 [(4, (p0 : Int)), (0, x2)] G R V1) ∧ ((v2 = 0) → cwv d (fun r V10 => ∃ v11 : Int, r = some (2, v11) ∧ P (some (2, v11)) V10) 161 [(4, (p0 : Int)), (2, (-1))] G R V1)))) 208 [(0, x1)] G R V) : wpv K_X8_coset d P 0 [some (4, (p0 : Int)), some (0, x1), some (0, x2)] [] G R V := by
  refine wp_ld (i := (.iload_n 1)) (0, x1) rfl rfl (fun _ => rfl) rfl rfl (?_ : wpv K_X8_coset d P 1 [some (4, (p0 : Int)), some (0, x1), some (0, x2)] [(0, x1)] G R V)
  refine wp_stat (as := [(0, x1)]) (st := []) _ rfl rfl rfl (by omega) rfl rfl (Nat.le_of_ble_eq_true rfl) (cwv_kI w (fun v2 V1 w => ?_))
  show wpv K_X8_coset d P 4 [some (4, (p0 : Int)), some (0, x1), some (0, x2)] [(0, v2)] G R V1
  obtain ⟨s3, w⟩ := w
  refine wp_if (c := .ne) 15 rfl rfl rfl s3 (fun q => ?_) (fun q => ?_)
  · have q : ¬ v2 = 0 := q
    replace w := w.1 q
    show wpv K_X8_coset d P 15 [some (4, (p0 : Int)), some (0, x1), some (0, x2)] [] G R V1
    refine wp_ld (i := (.aload_n 0)) (4, (p0 : Int)) rfl rfl (fun _ => rfl) rfl rfl (?_ : wpv K_X8_coset d P 16 [some (4, (p0 : Int)), some (0, x1), some (0, x2)] [(4, (p0 : Int))] G R V1)
    refine wp_ld (i := (.iload_n 2)) (0, x2) rfl rfl (fun _ => rfl) rfl rfl (?_ : wpv K_X8_coset d P 17 [some (4, (p0 : Int)), some (0, x1), some (0, x2)] [(0, x2), (4, (p0 : Int))] G R V1)
    refine wp_virt (as := [(0, x2)]) (a := p0) (st := []) _ rfl rfl rfl rfl rfl rfl (ly8_o l0) (Nat.le_of_ble_eq_true rfl) (cwv_kI w (fun v5 V4 w => ?_))
    show wpv K_X8_coset d P 20 [some (4, (p0 : Int)), some (0, x1), some (0, x2)] [(0, v5)] G R V4
    obtain ⟨s6, w⟩ := w
    refine wp_if (c := .ne) 31 rfl rfl rfl s6 (fun q => ?_) (fun q => ?_)
    · have q : ¬ v5 = 0 := q
      replace w := w.1 q
      show wpv K_X8_coset d P 31 [some (4, (p0 : Int)), some (0, x1), some (0, x2)] [] G R V4
      refine wp_ld (i := (.aload_n 0)) (4, (p0 : Int)) rfl rfl (fun _ => rfl) rfl rfl (?_ : wpv K_X8_coset d P 32 [some (4, (p0 : Int)), some (0, x1), some (0, x2)] [(4, (p0 : Int))] G R V4)
      refine wp_getA (k := 28) rfl rfl rfl (ly8_o l0) rfl rfl (ly8_28 l0).1 (?_ : wpv K_X8_coset d P 35 [some (4, (p0 : Int)), some (0, x1), some (0, x2)] [(4, ((p0 + 21 : Nat) : Int))] G R V4)
      refine wp_ld (i := (.iload_n 1)) (0, x1) rfl rfl (fun _ => rfl) rfl rfl (?_ : wpv K_X8_coset d P 36 [some (4, (p0 : Int)), some (0, x1), some (0, x2)] [(0, x1), (4, ((p0 + 21 : Nat) : Int))] G R V4)
      refine wp_p (i := (.iconst 1)) rfl rfl (fun _ _ _ => rfl) (?_ : wpv K_X8_coset d P 37 [some (4, (p0 : Int)), some (0, x1), some (0, x2)] [(0, 1), (0, x1), (4, ((p0 + 21 : Nat) : Int))] G R V4)
      obtain ⟨s7, w⟩ := w
      refine wp_sB rfl rfl (ly8_28 l0).2 s7 (by omega) (?_ : wpv K_X8_coset d P 38 [some (4, (p0 : Int)), some (0, x1), some (0, x2)] [] G R (wr V4 (p0 + 21) x1 1))
      refine wp_p (i := (.iconst 0)) rfl rfl (fun _ _ _ => rfl) (?_ : wpv K_X8_coset d P 39 [some (4, (p0 : Int)), some (0, x1), some (0, x2)] [(0, 0)] G R (wr V4 (p0 + 21) x1 1))
      refine wp_sto (i := (.istore_n 3)) _ rfl rfl (fun _ => rfl) rfl rfl rfl ?_
      refine wp_wk (L' := [some (4, (p0 : Int)), some (0, x1), some (0, x2), some (0, 0)]) (wk_s (wk_s (wk_s (wk_s wk_0)))) ?_
      show wpv K_X8_coset d P 40 [some (4, (p0 : Int)), some (0, x1), some (0, x2), some (0, 0)] [] G R (wr V4 (p0 + 21) x1 1)
      exact wp_wk (wk_s (wk_s (wk_s (wk_s wk_0)))) w
    · have q : v5 = 0 := Decidable.not_not.mp q
      replace w := w.2 q
      show wpv K_X8_coset d P 23 [some (4, (p0 : Int)), some (0, x1), some (0, x2)] [] G R V4
      refine wp_ld (i := (.aload_n 0)) (4, (p0 : Int)) rfl rfl (fun _ => rfl) rfl rfl (?_ : wpv K_X8_coset d P 24 [some (4, (p0 : Int)), some (0, x1), some (0, x2)] [(4, (p0 : Int))] G R V4)
      refine wp_p (i := (.ldc2_w 289)) rfl rfl (fun _ _ _ => rfl) (?_ : wpv K_X8_coset d P 27 [some (4, (p0 : Int)), some (0, x1), some (0, x2)] [(2, (-2)), (4, (p0 : Int))] G R V4)
      refine wp_virt (as := [(2, (-2))]) (a := p0) (st := []) _ rfl rfl rfl rfl rfl rfl (ly8_o l0) (Nat.le_of_ble_eq_true rfl) (cwv_kJ w (fun v9 V8 w => ?_))
      show wpv K_X8_coset d P 30 [some (4, (p0 : Int)), some (0, x1), some (0, x2)] [(2, v9)] G R V8
      exact wp_rJ rfl rfl rfl w
  · have q : v2 = 0 := Decidable.not_not.mp q
    replace w := w.2 q
    show wpv K_X8_coset d P 7 [some (4, (p0 : Int)), some (0, x1), some (0, x2)] [] G R V1
    refine wp_ld (i := (.aload_n 0)) (4, (p0 : Int)) rfl rfl (fun _ => rfl) rfl rfl (?_ : wpv K_X8_coset d P 8 [some (4, (p0 : Int)), some (0, x1), some (0, x2)] [(4, (p0 : Int))] G R V1)
    refine wp_p (i := (.ldc2_w 287)) rfl rfl (fun _ _ _ => rfl) (?_ : wpv K_X8_coset d P 11 [some (4, (p0 : Int)), some (0, x1), some (0, x2)] [(2, (-1)), (4, (p0 : Int))] G R V1)
    refine wp_virt (as := [(2, (-1))]) (a := p0) (st := []) _ rfl rfl rfl rfl rfl rfl (ly8_o l0) (Nat.le_of_ble_eq_true rfl) (cwv_kJ w (fun v11 V10 w => ?_))
    show wpv K_X8_coset d P 14 [some (4, (p0 : Int)), some (0, x1), some (0, x2)] [(2, v11)] G R V10
    exact wp_rJ rfl rfl rfl w

theorem t_X8_coset_40 {d : Nat} {P : gP} {p0 : Nat} {x1 : Int} {x2 : Int} {x3 : Int} {G : List gS} {R V : gV} (l0 : lay8 G R p0) (w : ((i32 (V p0 13)) → ((i32 x3) ∧ (((¬ x3 < (V p0 13)) → cwv d (fun r V4 => ∃ v5 : Int, r = some (2, v5) ∧ cwv d (fun r V6 => ∃ v7 : Int, r = some (2, v7) ∧ P (some (2, v7)) V6) 161 [(4, (p0 : Int)), (2, v5)] G R V4) 211 [(4, (p0 : Int)), (0, x1)] G R V) ∧ ((x3 < (V p0 13)) → ((i32 (300 * x1)) ∧ ((i32 ((300 * x1) + x3)) ∧ ((i32 x2) ∧ (((¬ x3 = x2) → ((0 ≤ ((300 * x1) + x3) ∧ ((300 * x1) + x3) < 2400) ∧ ((i32 (x3 + 1)) ∧ wpv K_X8_coset d P 40 [some (4, (p0 : Int)), some (0, x1), some (0, x2), some (0, (x3 + 1))] [] G R (wr V (p0 + 22) (((300 * x1) + x3)) 0)))) ∧ ((x3 = x2) → ((0 ≤ ((300 * x1) + x3) ∧ ((300 * x1) + x3) < 2400) ∧ ((i32 (x3 + 1)) ∧ wpv K_X8_coset d P 40 [some (4, (p0 : Int)), some (0, x1), some (0, x2), some (0, (x3 + 1))] [] G R (wr V (p0 + 22) (((300 * x1) + x3)) 1))))))))))))) : wpv K_X8_coset d P 40 [some (4, (p0 : Int)), some (0, x1), some (0, x2), some (0, x3)] [] G R V := by
  refine wp_ld (i := (.iload_n 3)) (0, x3) rfl rfl (fun _ => rfl) rfl rfl (?_ : wpv K_X8_coset d P 41 [some (4, (p0 : Int)), some (0, x1), some (0, x2), some (0, x3)] [(0, x3)] G R V)
  refine wp_ld (i := (.aload_n 0)) (4, (p0 : Int)) rfl rfl (fun _ => rfl) rfl rfl (?_ : wpv K_X8_coset d P 42 [some (4, (p0 : Int)), some (0, x1), some (0, x2), some (0, x3)] [(4, (p0 : Int)), (0, x3)] G R V)
  refine wp_rng (fun vr1 => ?_)
  have f2 : i32 (V p0 13) := vr_f0 vr1 (ly8_o l0) rfl rfl
  replace w := w f2
  refine wp_getI (k := 13) rfl rfl rfl (ly8_o l0) rfl rfl (?_ : wpv K_X8_coset d P 45 [some (4, (p0 : Int)), some (0, x1), some (0, x2), some (0, x3)] [(0, (V p0 13)), (0, x3)] G R V)
  obtain ⟨s3, w⟩ := w
  refine wp_icmp (c := .ge) 76 rfl rfl rfl s3 f2 (fun q => ?_) (fun q => ?_)
  · have q : ¬ x3 < (V p0 13) := q
    replace w := w.1 q
    show wpv K_X8_coset d P 76 [some (4, (p0 : Int)), some (0, x1), some (0, x2), some (0, x3)] [] G R V
    refine wp_ld (i := (.aload_n 0)) (4, (p0 : Int)) rfl rfl (fun _ => rfl) rfl rfl (?_ : wpv K_X8_coset d P 77 [some (4, (p0 : Int)), some (0, x1), some (0, x2), some (0, x3)] [(4, (p0 : Int))] G R V)
    refine wp_ld (i := (.aload_n 0)) (4, (p0 : Int)) rfl rfl (fun _ => rfl) rfl rfl (?_ : wpv K_X8_coset d P 78 [some (4, (p0 : Int)), some (0, x1), some (0, x2), some (0, x3)] [(4, (p0 : Int)), (4, (p0 : Int))] G R V)
    refine wp_ld (i := (.iload_n 1)) (0, x1) rfl rfl (fun _ => rfl) rfl rfl (?_ : wpv K_X8_coset d P 79 [some (4, (p0 : Int)), some (0, x1), some (0, x2), some (0, x3)] [(0, x1), (4, (p0 : Int)), (4, (p0 : Int))] G R V)
    refine wp_virt (as := [(0, x1)]) (a := p0) (st := [(4, (p0 : Int))]) _ rfl rfl rfl rfl rfl rfl (ly8_o l0) (Nat.le_of_ble_eq_true rfl) (cwv_kJ w (fun v5 V4 w => ?_))
    show wpv K_X8_coset d P 82 [some (4, (p0 : Int)), some (0, x1), some (0, x2), some (0, x3)] [(2, v5), (4, (p0 : Int))] G R V4
    refine wp_virt (as := [(2, v5)]) (a := p0) (st := []) _ rfl rfl rfl rfl rfl rfl (ly8_o l0) (Nat.le_of_ble_eq_true rfl) (cwv_kJ w (fun v7 V6 w => ?_))
    show wpv K_X8_coset d P 85 [some (4, (p0 : Int)), some (0, x1), some (0, x2), some (0, x3)] [(2, v7)] G R V6
    exact wp_rJ rfl rfl rfl w
  · have q : x3 < (V p0 13) := Decidable.not_not.mp q
    replace w := w.2 q
    show wpv K_X8_coset d P 48 [some (4, (p0 : Int)), some (0, x1), some (0, x2), some (0, x3)] [] G R V
    refine wp_ld (i := (.aload_n 0)) (4, (p0 : Int)) rfl rfl (fun _ => rfl) rfl rfl (?_ : wpv K_X8_coset d P 49 [some (4, (p0 : Int)), some (0, x1), some (0, x2), some (0, x3)] [(4, (p0 : Int))] G R V)
    refine wp_getA (k := 29) rfl rfl rfl (ly8_o l0) rfl rfl (ly8_29 l0).1 (?_ : wpv K_X8_coset d P 52 [some (4, (p0 : Int)), some (0, x1), some (0, x2), some (0, x3)] [(4, ((p0 + 22 : Nat) : Int))] G R V)
    refine wp_p (i := (.sipush 300)) rfl rfl (fun _ _ _ => rfl) (?_ : wpv K_X8_coset d P 55 [some (4, (p0 : Int)), some (0, x1), some (0, x2), some (0, x3)] [(0, 300), (4, ((p0 + 22 : Nat) : Int))] G R V)
    refine wp_ld (i := (.iload_n 1)) (0, x1) rfl rfl (fun _ => rfl) rfl rfl (?_ : wpv K_X8_coset d P 56 [some (4, (p0 : Int)), some (0, x1), some (0, x2), some (0, x3)] [(0, x1), (0, 300), (4, ((p0 + 22 : Nat) : Int))] G R V)
    obtain ⟨s8, w⟩ := w
    refine wp_xmul rfl rfl s8 (?_ : wpv K_X8_coset d P 57 [some (4, (p0 : Int)), some (0, x1), some (0, x2), some (0, x3)] [(0, (300 * x1)), (4, ((p0 + 22 : Nat) : Int))] G R V)
    refine wp_ld (i := (.iload_n 3)) (0, x3) rfl rfl (fun _ => rfl) rfl rfl (?_ : wpv K_X8_coset d P 58 [some (4, (p0 : Int)), some (0, x1), some (0, x2), some (0, x3)] [(0, x3), (0, (300 * x1)), (4, ((p0 + 22 : Nat) : Int))] G R V)
    obtain ⟨s9, w⟩ := w
    refine wp_xadd rfl rfl s9 (?_ : wpv K_X8_coset d P 59 [some (4, (p0 : Int)), some (0, x1), some (0, x2), some (0, x3)] [(0, ((300 * x1) + x3)), (4, ((p0 + 22 : Nat) : Int))] G R V)
    refine wp_ld (i := (.iload_n 3)) (0, x3) rfl rfl (fun _ => rfl) rfl rfl (?_ : wpv K_X8_coset d P 60 [some (4, (p0 : Int)), some (0, x1), some (0, x2), some (0, x3)] [(0, x3), (0, ((300 * x1) + x3)), (4, ((p0 + 22 : Nat) : Int))] G R V)
    refine wp_ld (i := (.iload_n 2)) (0, x2) rfl rfl (fun _ => rfl) rfl rfl (?_ : wpv K_X8_coset d P 61 [some (4, (p0 : Int)), some (0, x1), some (0, x2), some (0, x3)] [(0, x2), (0, x3), (0, ((300 * x1) + x3)), (4, ((p0 + 22 : Nat) : Int))] G R V)
    obtain ⟨s10, w⟩ := w
    refine wp_icmp (c := .ne) 68 rfl rfl rfl s3 s10 (fun q => ?_) (fun q => ?_)
    · have q : ¬ x3 = x2 := q
      replace w := w.1 q
      show wpv K_X8_coset d P 68 [some (4, (p0 : Int)), some (0, x1), some (0, x2), some (0, x3)] [(0, ((300 * x1) + x3)), (4, ((p0 + 22 : Nat) : Int))] G R V
      refine wp_p (i := (.lconst 0)) rfl rfl (fun _ _ _ => rfl) (?_ : wpv K_X8_coset d P 69 [some (4, (p0 : Int)), some (0, x1), some (0, x2), some (0, x3)] [(2, 0), (0, ((300 * x1) + x3)), (4, ((p0 + 22 : Nat) : Int))] G R V)
      obtain ⟨s11, w⟩ := w
      refine wp_sJ rfl rfl (ly8_29 l0).2 s11 ⟨by omega, by omega⟩ (?_ : wpv K_X8_coset d P 70 [some (4, (p0 : Int)), some (0, x1), some (0, x2), some (0, x3)] [] G R (wr V (p0 + 22) (((300 * x1) + x3)) 0))
      obtain ⟨s12, w⟩ := w
      refine wp_inc (x := 3) (k := 1) (a := x3) (c := (x3 + 1)) _ rfl rfl rfl rfl s12 (by omega) rfl ?_
      show wpv K_X8_coset d P 73 [some (4, (p0 : Int)), some (0, x1), some (0, x2), some (0, (x3 + 1))] [] G R (wr V (p0 + 22) (((300 * x1) + x3)) 0)
      refine wp_go 40 rfl rfl rfl (?_ : wpv K_X8_coset d P 40 [some (4, (p0 : Int)), some (0, x1), some (0, x2), some (0, (x3 + 1))] [] G R (wr V (p0 + 22) (((300 * x1) + x3)) 0))
      exact wp_wk (wk_s (wk_s (wk_s (wk_s wk_0)))) w
    · have q : x3 = x2 := Decidable.not_not.mp q
      replace w := w.2 q
      show wpv K_X8_coset d P 64 [some (4, (p0 : Int)), some (0, x1), some (0, x2), some (0, x3)] [(0, ((300 * x1) + x3)), (4, ((p0 + 22 : Nat) : Int))] G R V
      refine wp_p (i := (.lconst 1)) rfl rfl (fun _ _ _ => rfl) (?_ : wpv K_X8_coset d P 65 [some (4, (p0 : Int)), some (0, x1), some (0, x2), some (0, x3)] [(2, 1), (0, ((300 * x1) + x3)), (4, ((p0 + 22 : Nat) : Int))] G R V)
      refine wp_go 69 rfl rfl rfl (?_ : wpv K_X8_coset d P 69 [some (4, (p0 : Int)), some (0, x1), some (0, x2), some (0, x3)] [(2, 1), (0, ((300 * x1) + x3)), (4, ((p0 + 22 : Nat) : Int))] G R V)
      obtain ⟨s13, w⟩ := w
      refine wp_sJ rfl rfl (ly8_29 l0).2 s13 ⟨by omega, by omega⟩ (?_ : wpv K_X8_coset d P 70 [some (4, (p0 : Int)), some (0, x1), some (0, x2), some (0, x3)] [] G R (wr V (p0 + 22) (((300 * x1) + x3)) 1))
      obtain ⟨s14, w⟩ := w
      refine wp_inc (x := 3) (k := 1) (a := x3) (c := (x3 + 1)) _ rfl rfl rfl rfl s14 (by omega) rfl ?_
      show wpv K_X8_coset d P 73 [some (4, (p0 : Int)), some (0, x1), some (0, x2), some (0, (x3 + 1))] [] G R (wr V (p0 + 22) (((300 * x1) + x3)) 1)
      refine wp_go 40 rfl rfl rfl (?_ : wpv K_X8_coset d P 40 [some (4, (p0 : Int)), some (0, x1), some (0, x2), some (0, (x3 + 1))] [] G R (wr V (p0 + 22) (((300 * x1) + x3)) 1))
      exact wp_wk (wk_s (wk_s (wk_s (wk_s wk_0)))) w
theorem t_X8_rounds_0 {d : Nat} {P : gP} {p0 : Nat} {x1 : Int} {G : List gS} {R V : gV} (l0 : lay8 G R p0) (w : wpv K_X8_rounds d P 4 [some (4, (p0 : Int)), some (0, x1), some (0, 0), some (0, 0)] [] G R V) : wpv K_X8_rounds d P 0 [some (4, (p0 : Int)), some (0, x1)] [] G R V := by
  refine wp_p (i := (.iconst 0)) rfl rfl (fun _ _ _ => rfl) (?_ : wpv K_X8_rounds d P 1 [some (4, (p0 : Int)), some (0, x1)] [(0, 0)] G R V)
  refine wp_sto (i := (.istore_n 2)) _ rfl rfl (fun _ => rfl) rfl rfl rfl ?_
  refine wp_wk (L' := [some (4, (p0 : Int)), some (0, x1), some (0, 0)]) (wk_s (wk_s (wk_s wk_0))) ?_
  show wpv K_X8_rounds d P 2 [some (4, (p0 : Int)), some (0, x1), some (0, 0)] [] G R V
  refine wp_p (i := (.iconst 0)) rfl rfl (fun _ _ _ => rfl) (?_ : wpv K_X8_rounds d P 3 [some (4, (p0 : Int)), some (0, x1), some (0, 0)] [(0, 0)] G R V)
  refine wp_sto (i := (.istore_n 3)) _ rfl rfl (fun _ => rfl) rfl rfl rfl ?_
  refine wp_wk (L' := [some (4, (p0 : Int)), some (0, x1), some (0, 0), some (0, 0)]) (wk_s (wk_s (wk_s (wk_s wk_0)))) ?_
  show wpv K_X8_rounds d P 4 [some (4, (p0 : Int)), some (0, x1), some (0, 0), some (0, 0)] [] G R V
  exact wp_wk (wk_s (wk_s (wk_s (wk_s wk_0)))) w

theorem t_X8_rounds_4 {d : Nat} {P : gP} {p0 : Nat} {x1 : Int} {x2 : Int} {x3 : Int} {G : List gS} {R V : gV} (l0 : lay8 G R p0) (w : ((i32 x3) ∧ (((¬ x3 < 8) → wpv K_X8_rounds d P 25 [some (4, (p0 : Int)), some (0, x1), some (0, x2), some (0, 0)] [] G R V) ∧ ((x3 < 8) → ((0 ≤ x3 ∧ x3 < 8) ∧ ((i32 (x3 + 1)) ∧ wpv K_X8_rounds d P 4 [some (4, (p0 : Int)), some (0, x1), some (0, x2), some (0, (x3 + 1))] [] G R (wr V (p0 + 25) x3 0))))))) : wpv K_X8_rounds d P 4 [some (4, (p0 : Int)), some (0, x1), some (0, x2), some (0, x3)] [] G R V := by
  refine wp_ld (i := (.iload_n 3)) (0, x3) rfl rfl (fun _ => rfl) rfl rfl (?_ : wpv K_X8_rounds d P 5 [some (4, (p0 : Int)), some (0, x1), some (0, x2), some (0, x3)] [(0, x3)] G R V)
  refine wp_p (i := (.bipush 8)) rfl rfl (fun _ _ _ => rfl) (?_ : wpv K_X8_rounds d P 7 [some (4, (p0 : Int)), some (0, x1), some (0, x2), some (0, x3)] [(0, 8), (0, x3)] G R V)
  obtain ⟨s1, w⟩ := w
  refine wp_icmp (c := .ge) 23 rfl rfl rfl s1 ⟨by omega, by omega⟩ (fun q => ?_) (fun q => ?_)
  · have q : ¬ x3 < 8 := q
    replace w := w.1 q
    show wpv K_X8_rounds d P 23 [some (4, (p0 : Int)), some (0, x1), some (0, x2), some (0, x3)] [] G R V
    refine wp_p (i := (.iconst 0)) rfl rfl (fun _ _ _ => rfl) (?_ : wpv K_X8_rounds d P 24 [some (4, (p0 : Int)), some (0, x1), some (0, x2), some (0, x3)] [(0, 0)] G R V)
    refine wp_sto (i := (.istore_n 3)) _ rfl rfl (fun _ => rfl) rfl rfl rfl ?_
    refine wp_wk (L' := [some (4, (p0 : Int)), some (0, x1), some (0, x2), some (0, 0)]) (wk_s (wk_s (wk_s (wk_s wk_0)))) ?_
    show wpv K_X8_rounds d P 25 [some (4, (p0 : Int)), some (0, x1), some (0, x2), some (0, 0)] [] G R V
    exact wp_wk (wk_s (wk_s (wk_s (wk_s wk_0)))) w
  · have q : x3 < 8 := Decidable.not_not.mp q
    replace w := w.2 q
    show wpv K_X8_rounds d P 10 [some (4, (p0 : Int)), some (0, x1), some (0, x2), some (0, x3)] [] G R V
    refine wp_ld (i := (.aload_n 0)) (4, (p0 : Int)) rfl rfl (fun _ => rfl) rfl rfl (?_ : wpv K_X8_rounds d P 11 [some (4, (p0 : Int)), some (0, x1), some (0, x2), some (0, x3)] [(4, (p0 : Int))] G R V)
    refine wp_getA (k := 33) rfl rfl rfl (ly8_o l0) rfl rfl (ly8_33 l0).1 (?_ : wpv K_X8_rounds d P 14 [some (4, (p0 : Int)), some (0, x1), some (0, x2), some (0, x3)] [(4, ((p0 + 25 : Nat) : Int))] G R V)
    refine wp_ld (i := (.iload_n 3)) (0, x3) rfl rfl (fun _ => rfl) rfl rfl (?_ : wpv K_X8_rounds d P 15 [some (4, (p0 : Int)), some (0, x1), some (0, x2), some (0, x3)] [(0, x3), (4, ((p0 + 25 : Nat) : Int))] G R V)
    refine wp_p (i := (.iconst 0)) rfl rfl (fun _ _ _ => rfl) (?_ : wpv K_X8_rounds d P 16 [some (4, (p0 : Int)), some (0, x1), some (0, x2), some (0, x3)] [(0, 0), (0, x3), (4, ((p0 + 25 : Nat) : Int))] G R V)
    obtain ⟨s2, w⟩ := w
    refine wp_sB rfl rfl (ly8_33 l0).2 s2 (by omega) (?_ : wpv K_X8_rounds d P 17 [some (4, (p0 : Int)), some (0, x1), some (0, x2), some (0, x3)] [] G R (wr V (p0 + 25) x3 0))
    obtain ⟨s3, w⟩ := w
    refine wp_inc (x := 3) (k := 1) (a := x3) (c := (x3 + 1)) _ rfl rfl rfl rfl s3 (by omega) rfl ?_
    show wpv K_X8_rounds d P 20 [some (4, (p0 : Int)), some (0, x1), some (0, x2), some (0, (x3 + 1))] [] G R (wr V (p0 + 25) x3 0)
    refine wp_go 4 rfl rfl rfl (?_ : wpv K_X8_rounds d P 4 [some (4, (p0 : Int)), some (0, x1), some (0, x2), some (0, (x3 + 1))] [] G R (wr V (p0 + 25) x3 0))
    exact wp_wk (wk_s (wk_s (wk_s (wk_s wk_0)))) w

theorem t_X8_rounds_25 {d : Nat} {P : gP} {p0 : Nat} {x1 : Int} {x2 : Int} {x3 : Int} {G : List gS} {R V : gV} (l0 : lay8 G R p0) (w : ((i32 (V p0 4)) → ((i32 x3) ∧ (((¬ x3 < (V p0 4)) → P (some (0, x2)) V) ∧ ((x3 < (V p0 4)) → ((0 ≤ x3 ∧ x3 < 8) ∧ (((V (p0 + 25) x3) = 0 ∨ (V (p0 + 25) x3) = 1) → ((((V (p0 + 25) x3) = 0) → wpv K_X8_rounds d P 51 [some (4, (p0 : Int)), some (0, x1), some (0, x2), some (0, x3), some (0, 0), some (0, 0)] [] G R V) ∧ ((¬ (V (p0 + 25) x3) = 0) → ((i32 (x3 + 1)) ∧ wpv K_X8_rounds d P 25 [some (4, (p0 : Int)), some (0, x1), some (0, x2), some (0, (x3 + 1))] [] G R V)))))))))) : wpv K_X8_rounds d P 25 [some (4, (p0 : Int)), some (0, x1), some (0, x2), some (0, x3)] [] G R V := by
  refine wp_ld (i := (.iload_n 3)) (0, x3) rfl rfl (fun _ => rfl) rfl rfl (?_ : wpv K_X8_rounds d P 26 [some (4, (p0 : Int)), some (0, x1), some (0, x2), some (0, x3)] [(0, x3)] G R V)
  refine wp_ld (i := (.aload_n 0)) (4, (p0 : Int)) rfl rfl (fun _ => rfl) rfl rfl (?_ : wpv K_X8_rounds d P 27 [some (4, (p0 : Int)), some (0, x1), some (0, x2), some (0, x3)] [(4, (p0 : Int)), (0, x3)] G R V)
  refine wp_rng (fun vr1 => ?_)
  have f2 : i32 (V p0 4) := vr_f0 vr1 (ly8_o l0) rfl rfl
  replace w := w f2
  refine wp_getI (k := 4) rfl rfl rfl (ly8_o l0) rfl rfl (?_ : wpv K_X8_rounds d P 30 [some (4, (p0 : Int)), some (0, x1), some (0, x2), some (0, x3)] [(0, (V p0 4)), (0, x3)] G R V)
  obtain ⟨s3, w⟩ := w
  refine wp_icmp (c := .ge) 136 rfl rfl rfl s3 f2 (fun q => ?_) (fun q => ?_)
  · have q : ¬ x3 < (V p0 4) := q
    replace w := w.1 q
    show wpv K_X8_rounds d P 136 [some (4, (p0 : Int)), some (0, x1), some (0, x2), some (0, x3)] [] G R V
    refine wp_ld (i := (.iload_n 2)) (0, x2) rfl rfl (fun _ => rfl) rfl rfl (?_ : wpv K_X8_rounds d P 137 [some (4, (p0 : Int)), some (0, x1), some (0, x2), some (0, x3)] [(0, x2)] G R V)
    exact wp_rI rfl rfl rfl w
  · have q : x3 < (V p0 4) := Decidable.not_not.mp q
    replace w := w.2 q
    show wpv K_X8_rounds d P 33 [some (4, (p0 : Int)), some (0, x1), some (0, x2), some (0, x3)] [] G R V
    refine wp_ld (i := (.aload_n 0)) (4, (p0 : Int)) rfl rfl (fun _ => rfl) rfl rfl (?_ : wpv K_X8_rounds d P 34 [some (4, (p0 : Int)), some (0, x1), some (0, x2), some (0, x3)] [(4, (p0 : Int))] G R V)
    refine wp_getA (k := 33) rfl rfl rfl (ly8_o l0) rfl rfl (ly8_33 l0).1 (?_ : wpv K_X8_rounds d P 37 [some (4, (p0 : Int)), some (0, x1), some (0, x2), some (0, x3)] [(4, ((p0 + 25 : Nat) : Int))] G R V)
    refine wp_ld (i := (.iload_n 3)) (0, x3) rfl rfl (fun _ => rfl) rfl rfl (?_ : wpv K_X8_rounds d P 38 [some (4, (p0 : Int)), some (0, x1), some (0, x2), some (0, x3)] [(0, x3), (4, ((p0 + 25 : Nat) : Int))] G R V)
    obtain ⟨s4, w⟩ := w
    have f5 : (V (p0 + 25) x3) = 0 ∨ (V (p0 + 25) x3) = 1 := vr_a2 vr1 (ly8_33 l0).2 s4
    replace w := w f5
    have f6 : i32 (V (p0 + 25) x3) := by unfold i32; omega
    refine wp_aB rfl rfl (ly8_33 l0).2 s4 (?_ : wpv K_X8_rounds d P 39 [some (4, (p0 : Int)), some (0, x1), some (0, x2), some (0, x3)] [(0, (V (p0 + 25) x3))] G R V)
    refine wp_if (c := .eq) 45 rfl rfl rfl f6 (fun q => ?_) (fun q => ?_)
    · have q : (V (p0 + 25) x3) = 0 := q
      replace w := w.1 q
      show wpv K_X8_rounds d P 45 [some (4, (p0 : Int)), some (0, x1), some (0, x2), some (0, x3)] [] G R V
      refine wp_p (i := (.iconst 0)) rfl rfl (fun _ _ _ => rfl) (?_ : wpv K_X8_rounds d P 46 [some (4, (p0 : Int)), some (0, x1), some (0, x2), some (0, x3)] [(0, 0)] G R V)
      refine wp_sto (i := (.istore 4)) _ rfl rfl (fun _ => rfl) rfl rfl rfl ?_
      refine wp_wk (L' := [some (4, (p0 : Int)), some (0, x1), some (0, x2), some (0, x3), some (0, 0)]) (wk_s (wk_s (wk_s (wk_s (wk_s wk_0))))) ?_
      show wpv K_X8_rounds d P 48 [some (4, (p0 : Int)), some (0, x1), some (0, x2), some (0, x3), some (0, 0)] [] G R V
      refine wp_p (i := (.iconst 0)) rfl rfl (fun _ _ _ => rfl) (?_ : wpv K_X8_rounds d P 49 [some (4, (p0 : Int)), some (0, x1), some (0, x2), some (0, x3), some (0, 0)] [(0, 0)] G R V)
      refine wp_sto (i := (.istore 5)) _ rfl rfl (fun _ => rfl) rfl rfl rfl ?_
      refine wp_wk (L' := [some (4, (p0 : Int)), some (0, x1), some (0, x2), some (0, x3), some (0, 0), some (0, 0)]) (wk_s (wk_s (wk_s (wk_s (wk_s (wk_s wk_0)))))) ?_
      show wpv K_X8_rounds d P 51 [some (4, (p0 : Int)), some (0, x1), some (0, x2), some (0, x3), some (0, 0), some (0, 0)] [] G R V
      exact wp_wk (wk_s (wk_s (wk_s (wk_s (wk_s (wk_s wk_0)))))) w
    · have q : ¬ (V (p0 + 25) x3) = 0 := q
      replace w := w.2 q
      show wpv K_X8_rounds d P 42 [some (4, (p0 : Int)), some (0, x1), some (0, x2), some (0, x3)] [] G R V
      refine wp_go 130 rfl rfl rfl (?_ : wpv K_X8_rounds d P 130 [some (4, (p0 : Int)), some (0, x1), some (0, x2), some (0, x3)] [] G R V)
      obtain ⟨s7, w⟩ := w
      refine wp_inc (x := 3) (k := 1) (a := x3) (c := (x3 + 1)) _ rfl rfl rfl rfl s7 (by omega) rfl ?_
      show wpv K_X8_rounds d P 133 [some (4, (p0 : Int)), some (0, x1), some (0, x2), some (0, (x3 + 1))] [] G R V
      refine wp_go 25 rfl rfl rfl (?_ : wpv K_X8_rounds d P 25 [some (4, (p0 : Int)), some (0, x1), some (0, x2), some (0, (x3 + 1))] [] G R V)
      exact wp_wk (wk_s (wk_s (wk_s (wk_s wk_0)))) w

theorem t_X8_rounds_51 {d : Nat} {P : gP} {p0 : Nat} {x1 : Int} {x2 : Int} {x3 : Int} {x4 : Int} {x5 : Int} {G : List gS} {R V : gV} (l0 : lay8 G R p0) (w : ((i32 (V p0 5)) → ((i32 x5) ∧ (((¬ x5 < (V p0 5)) → ((0 ≤ x2 ∧ x2 < 8) ∧ ((i32 x4) ∧ ((i32 (x2 + 1)) ∧ ((i32 (x3 + 1)) ∧ wpv K_X8_rounds d P 25 [some (4, (p0 : Int)), some (0, x1), some (0, (x2 + 1)), some (0, (x3 + 1))] [] G R (wr V (p0 + 26) x2 x4)))))) ∧ ((x5 < (V p0 5)) → ((i32 (8 * x5)) ∧ ((i32 ((8 * x5) + x3)) ∧ ((0 ≤ ((8 * x5) + x3) ∧ ((8 * x5) + x3) < 960) ∧ ((i32 (V (p0 + 4) (((8 * x5) + x3)))) → ((i32 (120 * x1)) ∧ ((i32 ((120 * x1) + x5)) ∧ ((0 ≤ ((120 * x1) + x5) ∧ ((120 * x1) + x5) < 36120) ∧ (((V (p0 + 9) (((120 * x1) + x5))) = 0 ∨ (V (p0 + 9) (((120 * x1) + x5))) = 1) → ((((V (p0 + 9) (((120 * x1) + x5))) = 0) → ((i32 (x5 + 1)) ∧ wpv K_X8_rounds d P 51 [some (4, (p0 : Int)), some (0, x1), some (0, x2), some (0, x3), some (0, x4), some (0, (x5 + 1))] [] G R V)) ∧ ((¬ (V (p0 + 9) (((120 * x1) + x5))) = 0) → ((0 ≤ (V (p0 + 4) (((8 * x5) + x3))) ∧ (V (p0 + 4) (((8 * x5) + x3))) < 8) ∧ (((V (p0 + 25) ((V (p0 + 4) (((8 * x5) + x3))))) = 0 ∨ (V (p0 + 25) ((V (p0 + 4) (((8 * x5) + x3))))) = 1) → ((((V (p0 + 25) ((V (p0 + 4) (((8 * x5) + x3))))) = 0) → ((i32 (x4 + 1)) ∧ ((i32 (x5 + 1)) ∧ wpv K_X8_rounds d P 51 [some (4, (p0 : Int)), some (0, x1), some (0, x2), some (0, x3), some (0, (x4 + 1)), some (0, (x5 + 1))] [] G R (wr V (p0 + 25) ((V (p0 + 4) (((8 * x5) + x3)))) 1)))) ∧ ((¬ (V (p0 + 25) ((V (p0 + 4) (((8 * x5) + x3))))) = 0) → ((i32 (x5 + 1)) ∧ wpv K_X8_rounds d P 51 [some (4, (p0 : Int)), some (0, x1), some (0, x2), some (0, x3), some (0, x4), some (0, (x5 + 1))] [] G R V)))))))))))))))))))) : wpv K_X8_rounds d P 51 [some (4, (p0 : Int)), some (0, x1), some (0, x2), some (0, x3), some (0, x4), some (0, x5)] [] G R V := by
  refine wp_ld (i := (.iload 5)) (0, x5) rfl rfl (fun _ => rfl) rfl rfl (?_ : wpv K_X8_rounds d P 53 [some (4, (p0 : Int)), some (0, x1), some (0, x2), some (0, x3), some (0, x4), some (0, x5)] [(0, x5)] G R V)
  refine wp_ld (i := (.aload_n 0)) (4, (p0 : Int)) rfl rfl (fun _ => rfl) rfl rfl (?_ : wpv K_X8_rounds d P 54 [some (4, (p0 : Int)), some (0, x1), some (0, x2), some (0, x3), some (0, x4), some (0, x5)] [(4, (p0 : Int)), (0, x5)] G R V)
  refine wp_rng (fun vr1 => ?_)
  have f2 : i32 (V p0 5) := vr_f0 vr1 (ly8_o l0) rfl rfl
  replace w := w f2
  refine wp_getI (k := 5) rfl rfl rfl (ly8_o l0) rfl rfl (?_ : wpv K_X8_rounds d P 57 [some (4, (p0 : Int)), some (0, x1), some (0, x2), some (0, x3), some (0, x4), some (0, x5)] [(0, (V p0 5)), (0, x5)] G R V)
  obtain ⟨s3, w⟩ := w
  refine wp_icmp (c := .ge) 119 rfl rfl rfl s3 f2 (fun q => ?_) (fun q => ?_)
  · have q : ¬ x5 < (V p0 5) := q
    replace w := w.1 q
    show wpv K_X8_rounds d P 119 [some (4, (p0 : Int)), some (0, x1), some (0, x2), some (0, x3), some (0, x4), some (0, x5)] [] G R V
    refine wp_ld (i := (.aload_n 0)) (4, (p0 : Int)) rfl rfl (fun _ => rfl) rfl rfl (?_ : wpv K_X8_rounds d P 120 [some (4, (p0 : Int)), some (0, x1), some (0, x2), some (0, x3), some (0, x4), some (0, x5)] [(4, (p0 : Int))] G R V)
    refine wp_getA (k := 34) rfl rfl rfl (ly8_o l0) rfl rfl (ly8_34 l0).1 (?_ : wpv K_X8_rounds d P 123 [some (4, (p0 : Int)), some (0, x1), some (0, x2), some (0, x3), some (0, x4), some (0, x5)] [(4, ((p0 + 26 : Nat) : Int))] G R V)
    refine wp_ld (i := (.iload_n 2)) (0, x2) rfl rfl (fun _ => rfl) rfl rfl (?_ : wpv K_X8_rounds d P 124 [some (4, (p0 : Int)), some (0, x1), some (0, x2), some (0, x3), some (0, x4), some (0, x5)] [(0, x2), (4, ((p0 + 26 : Nat) : Int))] G R V)
    refine wp_ld (i := (.iload 4)) (0, x4) rfl rfl (fun _ => rfl) rfl rfl (?_ : wpv K_X8_rounds d P 126 [some (4, (p0 : Int)), some (0, x1), some (0, x2), some (0, x3), some (0, x4), some (0, x5)] [(0, x4), (0, x2), (4, ((p0 + 26 : Nat) : Int))] G R V)
    obtain ⟨s4, w⟩ := w
    obtain ⟨s5, w⟩ := w
    refine wp_sI rfl rfl (ly8_34 l0).2 s4 s5 (?_ : wpv K_X8_rounds d P 127 [some (4, (p0 : Int)), some (0, x1), some (0, x2), some (0, x3), some (0, x4), some (0, x5)] [] G R (wr V (p0 + 26) x2 x4))
    obtain ⟨s6, w⟩ := w
    refine wp_inc (x := 2) (k := 1) (a := x2) (c := (x2 + 1)) _ rfl rfl rfl rfl s6 (by omega) rfl ?_
    show wpv K_X8_rounds d P 130 [some (4, (p0 : Int)), some (0, x1), some (0, (x2 + 1)), some (0, x3), some (0, x4), some (0, x5)] [] G R (wr V (p0 + 26) x2 x4)
    obtain ⟨s7, w⟩ := w
    refine wp_inc (x := 3) (k := 1) (a := x3) (c := (x3 + 1)) _ rfl rfl rfl rfl s7 (by omega) rfl ?_
    show wpv K_X8_rounds d P 133 [some (4, (p0 : Int)), some (0, x1), some (0, (x2 + 1)), some (0, (x3 + 1)), some (0, x4), some (0, x5)] [] G R (wr V (p0 + 26) x2 x4)
    refine wp_go 25 rfl rfl rfl (?_ : wpv K_X8_rounds d P 25 [some (4, (p0 : Int)), some (0, x1), some (0, (x2 + 1)), some (0, (x3 + 1)), some (0, x4), some (0, x5)] [] G R (wr V (p0 + 26) x2 x4))
    exact wp_wk (wk_s (wk_s (wk_s (wk_s wk_0)))) w
  · have q : x5 < (V p0 5) := Decidable.not_not.mp q
    replace w := w.2 q
    show wpv K_X8_rounds d P 60 [some (4, (p0 : Int)), some (0, x1), some (0, x2), some (0, x3), some (0, x4), some (0, x5)] [] G R V
    refine wp_ld (i := (.aload_n 0)) (4, (p0 : Int)) rfl rfl (fun _ => rfl) rfl rfl (?_ : wpv K_X8_rounds d P 61 [some (4, (p0 : Int)), some (0, x1), some (0, x2), some (0, x3), some (0, x4), some (0, x5)] [(4, (p0 : Int))] G R V)
    refine wp_getA (k := 6) rfl rfl rfl (ly8_o l0) rfl rfl (ly8_6 l0).1 (?_ : wpv K_X8_rounds d P 64 [some (4, (p0 : Int)), some (0, x1), some (0, x2), some (0, x3), some (0, x4), some (0, x5)] [(4, ((p0 + 4 : Nat) : Int))] G R V)
    refine wp_p (i := (.bipush 8)) rfl rfl (fun _ _ _ => rfl) (?_ : wpv K_X8_rounds d P 66 [some (4, (p0 : Int)), some (0, x1), some (0, x2), some (0, x3), some (0, x4), some (0, x5)] [(0, 8), (4, ((p0 + 4 : Nat) : Int))] G R V)
    refine wp_ld (i := (.iload 5)) (0, x5) rfl rfl (fun _ => rfl) rfl rfl (?_ : wpv K_X8_rounds d P 68 [some (4, (p0 : Int)), some (0, x1), some (0, x2), some (0, x3), some (0, x4), some (0, x5)] [(0, x5), (0, 8), (4, ((p0 + 4 : Nat) : Int))] G R V)
    obtain ⟨s8, w⟩ := w
    refine wp_xmul rfl rfl s8 (?_ : wpv K_X8_rounds d P 69 [some (4, (p0 : Int)), some (0, x1), some (0, x2), some (0, x3), some (0, x4), some (0, x5)] [(0, (8 * x5)), (4, ((p0 + 4 : Nat) : Int))] G R V)
    refine wp_ld (i := (.iload_n 3)) (0, x3) rfl rfl (fun _ => rfl) rfl rfl (?_ : wpv K_X8_rounds d P 70 [some (4, (p0 : Int)), some (0, x1), some (0, x2), some (0, x3), some (0, x4), some (0, x5)] [(0, x3), (0, (8 * x5)), (4, ((p0 + 4 : Nat) : Int))] G R V)
    obtain ⟨s9, w⟩ := w
    refine wp_xadd rfl rfl s9 (?_ : wpv K_X8_rounds d P 71 [some (4, (p0 : Int)), some (0, x1), some (0, x2), some (0, x3), some (0, x4), some (0, x5)] [(0, ((8 * x5) + x3)), (4, ((p0 + 4 : Nat) : Int))] G R V)
    obtain ⟨s10, w⟩ := w
    have f11 : i32 (V (p0 + 4) (((8 * x5) + x3))) := vr_a0 vr1 (ly8_6 l0).2 s10
    replace w := w f11
    refine wp_aI rfl rfl (ly8_6 l0).2 s10 (?_ : wpv K_X8_rounds d P 72 [some (4, (p0 : Int)), some (0, x1), some (0, x2), some (0, x3), some (0, x4), some (0, x5)] [(0, (V (p0 + 4) (((8 * x5) + x3))))] G R V)
    refine wp_sto (i := (.istore 6)) _ rfl rfl (fun _ => rfl) rfl rfl rfl ?_
    refine wp_wk (L' := [some (4, (p0 : Int)), some (0, x1), some (0, x2), some (0, x3), some (0, x4), some (0, x5), some (0, (V (p0 + 4) (((8 * x5) + x3))))]) (wk_s (wk_s (wk_s (wk_s (wk_s (wk_s (wk_s wk_0))))))) ?_
    show wpv K_X8_rounds d P 74 [some (4, (p0 : Int)), some (0, x1), some (0, x2), some (0, x3), some (0, x4), some (0, x5), some (0, (V (p0 + 4) (((8 * x5) + x3))))] [] G R V
    refine wp_ld (i := (.aload_n 0)) (4, (p0 : Int)) rfl rfl (fun _ => rfl) rfl rfl (?_ : wpv K_X8_rounds d P 75 [some (4, (p0 : Int)), some (0, x1), some (0, x2), some (0, x3), some (0, x4), some (0, x5), some (0, (V (p0 + 4) (((8 * x5) + x3))))] [(4, (p0 : Int))] G R V)
    refine wp_getA (k := 14) rfl rfl rfl (ly8_o l0) rfl rfl (ly8_14 l0).1 (?_ : wpv K_X8_rounds d P 78 [some (4, (p0 : Int)), some (0, x1), some (0, x2), some (0, x3), some (0, x4), some (0, x5), some (0, (V (p0 + 4) (((8 * x5) + x3))))] [(4, ((p0 + 9 : Nat) : Int))] G R V)
    refine wp_p (i := (.bipush 120)) rfl rfl (fun _ _ _ => rfl) (?_ : wpv K_X8_rounds d P 80 [some (4, (p0 : Int)), some (0, x1), some (0, x2), some (0, x3), some (0, x4), some (0, x5), some (0, (V (p0 + 4) (((8 * x5) + x3))))] [(0, 120), (4, ((p0 + 9 : Nat) : Int))] G R V)
    refine wp_ld (i := (.iload_n 1)) (0, x1) rfl rfl (fun _ => rfl) rfl rfl (?_ : wpv K_X8_rounds d P 81 [some (4, (p0 : Int)), some (0, x1), some (0, x2), some (0, x3), some (0, x4), some (0, x5), some (0, (V (p0 + 4) (((8 * x5) + x3))))] [(0, x1), (0, 120), (4, ((p0 + 9 : Nat) : Int))] G R V)
    obtain ⟨s12, w⟩ := w
    refine wp_xmul rfl rfl s12 (?_ : wpv K_X8_rounds d P 82 [some (4, (p0 : Int)), some (0, x1), some (0, x2), some (0, x3), some (0, x4), some (0, x5), some (0, (V (p0 + 4) (((8 * x5) + x3))))] [(0, (120 * x1)), (4, ((p0 + 9 : Nat) : Int))] G R V)
    refine wp_ld (i := (.iload 5)) (0, x5) rfl rfl (fun _ => rfl) rfl rfl (?_ : wpv K_X8_rounds d P 84 [some (4, (p0 : Int)), some (0, x1), some (0, x2), some (0, x3), some (0, x4), some (0, x5), some (0, (V (p0 + 4) (((8 * x5) + x3))))] [(0, x5), (0, (120 * x1)), (4, ((p0 + 9 : Nat) : Int))] G R V)
    obtain ⟨s13, w⟩ := w
    refine wp_xadd rfl rfl s13 (?_ : wpv K_X8_rounds d P 85 [some (4, (p0 : Int)), some (0, x1), some (0, x2), some (0, x3), some (0, x4), some (0, x5), some (0, (V (p0 + 4) (((8 * x5) + x3))))] [(0, ((120 * x1) + x5)), (4, ((p0 + 9 : Nat) : Int))] G R V)
    obtain ⟨s14, w⟩ := w
    have f15 : (V (p0 + 9) (((120 * x1) + x5))) = 0 ∨ (V (p0 + 9) (((120 * x1) + x5))) = 1 := vr_a2 vr1 (ly8_14 l0).2 s14
    replace w := w f15
    have f16 : i32 (V (p0 + 9) (((120 * x1) + x5))) := by unfold i32; omega
    refine wp_aB rfl rfl (ly8_14 l0).2 s14 (?_ : wpv K_X8_rounds d P 86 [some (4, (p0 : Int)), some (0, x1), some (0, x2), some (0, x3), some (0, x4), some (0, x5), some (0, (V (p0 + 4) (((8 * x5) + x3))))] [(0, (V (p0 + 9) (((120 * x1) + x5))))] G R V)
    refine wp_if (c := .eq) 113 rfl rfl rfl f16 (fun q => ?_) (fun q => ?_)
    · have q : (V (p0 + 9) (((120 * x1) + x5))) = 0 := q
      replace w := w.1 q
      show wpv K_X8_rounds d P 113 [some (4, (p0 : Int)), some (0, x1), some (0, x2), some (0, x3), some (0, x4), some (0, x5), some (0, (V (p0 + 4) (((8 * x5) + x3))))] [] G R V
      obtain ⟨s17, w⟩ := w
      refine wp_inc (x := 5) (k := 1) (a := x5) (c := (x5 + 1)) _ rfl rfl rfl rfl s17 (by omega) rfl ?_
      show wpv K_X8_rounds d P 116 [some (4, (p0 : Int)), some (0, x1), some (0, x2), some (0, x3), some (0, x4), some (0, (x5 + 1)), some (0, (V (p0 + 4) (((8 * x5) + x3))))] [] G R V
      refine wp_go 51 rfl rfl rfl (?_ : wpv K_X8_rounds d P 51 [some (4, (p0 : Int)), some (0, x1), some (0, x2), some (0, x3), some (0, x4), some (0, (x5 + 1)), some (0, (V (p0 + 4) (((8 * x5) + x3))))] [] G R V)
      exact wp_wk (wk_s (wk_s (wk_s (wk_s (wk_s (wk_s wk_0)))))) w
    · have q : ¬ (V (p0 + 9) (((120 * x1) + x5))) = 0 := q
      replace w := w.2 q
      show wpv K_X8_rounds d P 89 [some (4, (p0 : Int)), some (0, x1), some (0, x2), some (0, x3), some (0, x4), some (0, x5), some (0, (V (p0 + 4) (((8 * x5) + x3))))] [] G R V
      refine wp_ld (i := (.aload_n 0)) (4, (p0 : Int)) rfl rfl (fun _ => rfl) rfl rfl (?_ : wpv K_X8_rounds d P 90 [some (4, (p0 : Int)), some (0, x1), some (0, x2), some (0, x3), some (0, x4), some (0, x5), some (0, (V (p0 + 4) (((8 * x5) + x3))))] [(4, (p0 : Int))] G R V)
      refine wp_getA (k := 33) rfl rfl rfl (ly8_o l0) rfl rfl (ly8_33 l0).1 (?_ : wpv K_X8_rounds d P 93 [some (4, (p0 : Int)), some (0, x1), some (0, x2), some (0, x3), some (0, x4), some (0, x5), some (0, (V (p0 + 4) (((8 * x5) + x3))))] [(4, ((p0 + 25 : Nat) : Int))] G R V)
      refine wp_ld (i := (.iload 6)) (0, (V (p0 + 4) (((8 * x5) + x3)))) rfl rfl (fun _ => rfl) rfl rfl (?_ : wpv K_X8_rounds d P 95 [some (4, (p0 : Int)), some (0, x1), some (0, x2), some (0, x3), some (0, x4), some (0, x5), some (0, (V (p0 + 4) (((8 * x5) + x3))))] [(0, (V (p0 + 4) (((8 * x5) + x3)))), (4, ((p0 + 25 : Nat) : Int))] G R V)
      obtain ⟨s18, w⟩ := w
      have f19 : (V (p0 + 25) ((V (p0 + 4) (((8 * x5) + x3))))) = 0 ∨ (V (p0 + 25) ((V (p0 + 4) (((8 * x5) + x3))))) = 1 := vr_a2 vr1 (ly8_33 l0).2 s18
      replace w := w f19
      have f20 : i32 (V (p0 + 25) ((V (p0 + 4) (((8 * x5) + x3))))) := by unfold i32; omega
      refine wp_aB rfl rfl (ly8_33 l0).2 s18 (?_ : wpv K_X8_rounds d P 96 [some (4, (p0 : Int)), some (0, x1), some (0, x2), some (0, x3), some (0, x4), some (0, x5), some (0, (V (p0 + 4) (((8 * x5) + x3))))] [(0, (V (p0 + 25) ((V (p0 + 4) (((8 * x5) + x3))))))] G R V)
      refine wp_if (c := .eq) 102 rfl rfl rfl f20 (fun q => ?_) (fun q => ?_)
      · have q : (V (p0 + 25) ((V (p0 + 4) (((8 * x5) + x3))))) = 0 := q
        replace w := w.1 q
        show wpv K_X8_rounds d P 102 [some (4, (p0 : Int)), some (0, x1), some (0, x2), some (0, x3), some (0, x4), some (0, x5), some (0, (V (p0 + 4) (((8 * x5) + x3))))] [] G R V
        refine wp_ld (i := (.aload_n 0)) (4, (p0 : Int)) rfl rfl (fun _ => rfl) rfl rfl (?_ : wpv K_X8_rounds d P 103 [some (4, (p0 : Int)), some (0, x1), some (0, x2), some (0, x3), some (0, x4), some (0, x5), some (0, (V (p0 + 4) (((8 * x5) + x3))))] [(4, (p0 : Int))] G R V)
        refine wp_getA (k := 33) rfl rfl rfl (ly8_o l0) rfl rfl (ly8_33 l0).1 (?_ : wpv K_X8_rounds d P 106 [some (4, (p0 : Int)), some (0, x1), some (0, x2), some (0, x3), some (0, x4), some (0, x5), some (0, (V (p0 + 4) (((8 * x5) + x3))))] [(4, ((p0 + 25 : Nat) : Int))] G R V)
        refine wp_ld (i := (.iload 6)) (0, (V (p0 + 4) (((8 * x5) + x3)))) rfl rfl (fun _ => rfl) rfl rfl (?_ : wpv K_X8_rounds d P 108 [some (4, (p0 : Int)), some (0, x1), some (0, x2), some (0, x3), some (0, x4), some (0, x5), some (0, (V (p0 + 4) (((8 * x5) + x3))))] [(0, (V (p0 + 4) (((8 * x5) + x3)))), (4, ((p0 + 25 : Nat) : Int))] G R V)
        refine wp_p (i := (.iconst 1)) rfl rfl (fun _ _ _ => rfl) (?_ : wpv K_X8_rounds d P 109 [some (4, (p0 : Int)), some (0, x1), some (0, x2), some (0, x3), some (0, x4), some (0, x5), some (0, (V (p0 + 4) (((8 * x5) + x3))))] [(0, 1), (0, (V (p0 + 4) (((8 * x5) + x3)))), (4, ((p0 + 25 : Nat) : Int))] G R V)
        refine wp_sB rfl rfl (ly8_33 l0).2 s18 (by omega) (?_ : wpv K_X8_rounds d P 110 [some (4, (p0 : Int)), some (0, x1), some (0, x2), some (0, x3), some (0, x4), some (0, x5), some (0, (V (p0 + 4) (((8 * x5) + x3))))] [] G R (wr V (p0 + 25) ((V (p0 + 4) (((8 * x5) + x3)))) 1))
        obtain ⟨s21, w⟩ := w
        refine wp_inc (x := 4) (k := 1) (a := x4) (c := (x4 + 1)) _ rfl rfl rfl rfl s21 (by omega) rfl ?_
        show wpv K_X8_rounds d P 113 [some (4, (p0 : Int)), some (0, x1), some (0, x2), some (0, x3), some (0, (x4 + 1)), some (0, x5), some (0, (V (p0 + 4) (((8 * x5) + x3))))] [] G R (wr V (p0 + 25) ((V (p0 + 4) (((8 * x5) + x3)))) 1)
        obtain ⟨s22, w⟩ := w
        refine wp_inc (x := 5) (k := 1) (a := x5) (c := (x5 + 1)) _ rfl rfl rfl rfl s22 (by omega) rfl ?_
        show wpv K_X8_rounds d P 116 [some (4, (p0 : Int)), some (0, x1), some (0, x2), some (0, x3), some (0, (x4 + 1)), some (0, (x5 + 1)), some (0, (V (p0 + 4) (((8 * x5) + x3))))] [] G R (wr V (p0 + 25) ((V (p0 + 4) (((8 * x5) + x3)))) 1)
        refine wp_go 51 rfl rfl rfl (?_ : wpv K_X8_rounds d P 51 [some (4, (p0 : Int)), some (0, x1), some (0, x2), some (0, x3), some (0, (x4 + 1)), some (0, (x5 + 1)), some (0, (V (p0 + 4) (((8 * x5) + x3))))] [] G R (wr V (p0 + 25) ((V (p0 + 4) (((8 * x5) + x3)))) 1))
        exact wp_wk (wk_s (wk_s (wk_s (wk_s (wk_s (wk_s wk_0)))))) w
      · have q : ¬ (V (p0 + 25) ((V (p0 + 4) (((8 * x5) + x3))))) = 0 := q
        replace w := w.2 q
        show wpv K_X8_rounds d P 99 [some (4, (p0 : Int)), some (0, x1), some (0, x2), some (0, x3), some (0, x4), some (0, x5), some (0, (V (p0 + 4) (((8 * x5) + x3))))] [] G R V
        refine wp_go 113 rfl rfl rfl (?_ : wpv K_X8_rounds d P 113 [some (4, (p0 : Int)), some (0, x1), some (0, x2), some (0, x3), some (0, x4), some (0, x5), some (0, (V (p0 + 4) (((8 * x5) + x3))))] [] G R V)
        obtain ⟨s23, w⟩ := w
        refine wp_inc (x := 5) (k := 1) (a := x5) (c := (x5 + 1)) _ rfl rfl rfl rfl s23 (by omega) rfl ?_
        show wpv K_X8_rounds d P 116 [some (4, (p0 : Int)), some (0, x1), some (0, x2), some (0, x3), some (0, x4), some (0, (x5 + 1)), some (0, (V (p0 + 4) (((8 * x5) + x3))))] [] G R V
        refine wp_go 51 rfl rfl rfl (?_ : wpv K_X8_rounds d P 51 [some (4, (p0 : Int)), some (0, x1), some (0, x2), some (0, x3), some (0, x4), some (0, (x5 + 1)), some (0, (V (p0 + 4) (((8 * x5) + x3))))] [] G R V)
        exact wp_wk (wk_s (wk_s (wk_s (wk_s (wk_s (wk_s wk_0)))))) w
theorem t_X8_setsLeft_0 {d : Nat} {P : gP} {p0 : Nat} {x1 : Int} {x2 : Int} {G : List gS} {R V : gV} (l0 : lay8 G R p0) (w : cwv d (fun r V1 => ∃ v2 : Int, r = some (0, v2) ∧ wpv K_X8_setsLeft d P 12 [some (4, (p0 : Int)), none, some (0, x2), some (0, v2), some (2, 0), none, some (0, 0)] [] G R V1) 215 [(4, (p0 : Int)), (0, x1)] G R V) : wpv K_X8_setsLeft d P 0 [some (4, (p0 : Int)), some (0, x1), some (0, x2)] [] G R V := by
  refine wp_ld (i := (.aload_n 0)) (4, (p0 : Int)) rfl rfl (fun _ => rfl) rfl rfl (?_ : wpv K_X8_setsLeft d P 1 [some (4, (p0 : Int)), some (0, x1), some (0, x2)] [(4, (p0 : Int))] G R V)
  refine wp_ld (i := (.iload_n 1)) (0, x1) rfl rfl (fun _ => rfl) rfl rfl (?_ : wpv K_X8_setsLeft d P 2 [some (4, (p0 : Int)), some (0, x1), some (0, x2)] [(0, x1), (4, (p0 : Int))] G R V)
  refine wp_virt (as := [(0, x1)]) (a := p0) (st := []) _ rfl rfl rfl rfl rfl rfl (ly8_o l0) (Nat.le_of_ble_eq_true rfl) (cwv_kI w (fun v2 V1 w => ?_))
  show wpv K_X8_setsLeft d P 5 [some (4, (p0 : Int)), some (0, x1), some (0, x2)] [(0, v2)] G R V1
  refine wp_sto (i := (.istore_n 3)) _ rfl rfl (fun _ => rfl) rfl rfl rfl ?_
  refine wp_wk (L' := [some (4, (p0 : Int)), some (0, x1), some (0, x2), some (0, v2)]) (wk_s (wk_s (wk_s (wk_s wk_0)))) ?_
  show wpv K_X8_setsLeft d P 6 [some (4, (p0 : Int)), some (0, x1), some (0, x2), some (0, v2)] [] G R V1
  refine wp_p (i := (.lconst 0)) rfl rfl (fun _ _ _ => rfl) (?_ : wpv K_X8_setsLeft d P 7 [some (4, (p0 : Int)), some (0, x1), some (0, x2), some (0, v2)] [(2, 0)] G R V1)
  refine wp_lsto (i := (.lstore 4)) _ rfl rfl (fun _ => rfl) rfl rfl rfl ?_
  refine wp_wk (L' := [some (4, (p0 : Int)), some (0, x1), some (0, x2), some (0, v2), some (2, 0)]) (wk_s (wk_s (wk_s (wk_s (wk_s wk_0))))) ?_
  show wpv K_X8_setsLeft d P 9 [some (4, (p0 : Int)), some (0, x1), some (0, x2), some (0, v2), some (2, 0)] [] G R V1
  refine wp_p (i := (.iconst 0)) rfl rfl (fun _ _ _ => rfl) (?_ : wpv K_X8_setsLeft d P 10 [some (4, (p0 : Int)), some (0, x1), some (0, x2), some (0, v2), some (2, 0)] [(0, 0)] G R V1)
  refine wp_sto (i := (.istore 6)) _ rfl rfl (fun _ => rfl) rfl rfl rfl ?_
  refine wp_wk (L' := [some (4, (p0 : Int)), some (0, x1), some (0, x2), some (0, v2), some (2, 0), none, some (0, 0)]) (wk_s (wk_s (wk_s (wk_s (wk_s (wk_n (wk_s wk_0))))))) ?_
  show wpv K_X8_setsLeft d P 12 [some (4, (p0 : Int)), some (0, x1), some (0, x2), some (0, v2), some (2, 0), none, some (0, 0)] [] G R V1
  exact wp_wk (wk_s (wk_n (wk_s (wk_s (wk_s (wk_n (wk_s wk_0))))))) w

theorem t_X8_setsLeft_12 {d : Nat} {P : gP} {p0 : Nat} {x2 : Int} {x3 : Int} {x4 : Int} {x6 : Int} {G : List gS} {R V : gV} (l0 : lay8 G R p0) (w : ((i32 x6) ∧ (((¬ x6 < (kshl 1 x3)) → P (some (2, x4)) V) ∧ ((x6 < (kshl 1 x3)) → wpv K_X8_setsLeft d P 26 [some (4, (p0 : Int)), none, some (0, x2), some (0, x3), some (2, x4), none, some (0, x6), some (0, 0), some (0, 0)] [] G R V)))) : wpv K_X8_setsLeft d P 12 [some (4, (p0 : Int)), none, some (0, x2), some (0, x3), some (2, x4), none, some (0, x6)] [] G R V := by
  refine wp_ld (i := (.iload 6)) (0, x6) rfl rfl (fun _ => rfl) rfl rfl (?_ : wpv K_X8_setsLeft d P 14 [some (4, (p0 : Int)), none, some (0, x2), some (0, x3), some (2, x4), none, some (0, x6)] [(0, x6)] G R V)
  refine wp_p (i := (.iconst 1)) rfl rfl (fun _ _ _ => rfl) (?_ : wpv K_X8_setsLeft d P 15 [some (4, (p0 : Int)), none, some (0, x2), some (0, x3), some (2, x4), none, some (0, x6)] [(0, 1), (0, x6)] G R V)
  refine wp_ld (i := (.iload_n 3)) (0, x3) rfl rfl (fun _ => rfl) rfl rfl (?_ : wpv K_X8_setsLeft d P 16 [some (4, (p0 : Int)), none, some (0, x2), some (0, x3), some (2, x4), none, some (0, x6)] [(0, x3), (0, 1), (0, x6)] G R V)
  refine wp_kshl rfl rfl (?_ : wpv K_X8_setsLeft d P 17 [some (4, (p0 : Int)), none, some (0, x2), some (0, x3), some (2, x4), none, some (0, x6)] [(0, (kshl 1 x3)), (0, x6)] G R V)
  obtain ⟨s1, w⟩ := w
  refine wp_icmp (c := .ge) 80 rfl rfl rfl s1 (t32 _) (fun q => ?_) (fun q => ?_)
  · have q : ¬ x6 < (kshl 1 x3) := q
    replace w := w.1 q
    show wpv K_X8_setsLeft d P 80 [some (4, (p0 : Int)), none, some (0, x2), some (0, x3), some (2, x4), none, some (0, x6)] [] G R V
    refine wp_ld (i := (.lload 4)) (2, x4) rfl rfl (fun _ => rfl) rfl rfl (?_ : wpv K_X8_setsLeft d P 82 [some (4, (p0 : Int)), none, some (0, x2), some (0, x3), some (2, x4), none, some (0, x6)] [(2, x4)] G R V)
    exact wp_rJ rfl rfl rfl w
  · have q : x6 < (kshl 1 x3) := Decidable.not_not.mp q
    replace w := w.2 q
    show wpv K_X8_setsLeft d P 20 [some (4, (p0 : Int)), none, some (0, x2), some (0, x3), some (2, x4), none, some (0, x6)] [] G R V
    refine wp_p (i := (.iconst 0)) rfl rfl (fun _ _ _ => rfl) (?_ : wpv K_X8_setsLeft d P 21 [some (4, (p0 : Int)), none, some (0, x2), some (0, x3), some (2, x4), none, some (0, x6)] [(0, 0)] G R V)
    refine wp_sto (i := (.istore 7)) _ rfl rfl (fun _ => rfl) rfl rfl rfl ?_
    refine wp_wk (L' := [some (4, (p0 : Int)), none, some (0, x2), some (0, x3), some (2, x4), none, some (0, x6), some (0, 0)]) (wk_s (wk_n (wk_s (wk_s (wk_s (wk_n (wk_s (wk_s wk_0)))))))) ?_
    show wpv K_X8_setsLeft d P 23 [some (4, (p0 : Int)), none, some (0, x2), some (0, x3), some (2, x4), none, some (0, x6), some (0, 0)] [] G R V
    refine wp_p (i := (.iconst 0)) rfl rfl (fun _ _ _ => rfl) (?_ : wpv K_X8_setsLeft d P 24 [some (4, (p0 : Int)), none, some (0, x2), some (0, x3), some (2, x4), none, some (0, x6), some (0, 0)] [(0, 0)] G R V)
    refine wp_sto (i := (.istore 8)) _ rfl rfl (fun _ => rfl) rfl rfl rfl ?_
    refine wp_wk (L' := [some (4, (p0 : Int)), none, some (0, x2), some (0, x3), some (2, x4), none, some (0, x6), some (0, 0), some (0, 0)]) (wk_s (wk_n (wk_s (wk_s (wk_s (wk_n (wk_s (wk_s (wk_s wk_0))))))))) ?_
    show wpv K_X8_setsLeft d P 26 [some (4, (p0 : Int)), none, some (0, x2), some (0, x3), some (2, x4), none, some (0, x6), some (0, 0), some (0, 0)] [] G R V
    exact wp_wk (wk_s (wk_n (wk_s (wk_s (wk_s (wk_n (wk_s (wk_s (wk_s wk_0))))))))) w

theorem t_X8_setsLeft_26 {d : Nat} {P : gP} {p0 : Nat} {x2 : Int} {x3 : Int} {x4 : Int} {x6 : Int} {x7 : Int} {x8 : Int} {G : List gS} {R V : gV} (l0 : lay8 G R p0) (w : ((i32 x8) ∧ ((i32 x3) ∧ (((¬ x8 < x3) → ((i32 x7) ∧ ((i32 x2) ∧ (((¬ x7 = x2) → ((i32 (x6 + 1)) ∧ wpv K_X8_setsLeft d P 12 [some (4, (p0 : Int)), none, some (0, x2), some (0, x3), some (2, (jadd x4 0)), none, some (0, (x6 + 1))] [] G R V)) ∧ ((x7 = x2) → ((i32 (x6 + 1)) ∧ wpv K_X8_setsLeft d P 12 [some (4, (p0 : Int)), none, some (0, x2), some (0, x3), some (2, (jadd x4 1)), none, some (0, (x6 + 1))] [] G R V)))))) ∧ ((x8 < x3) → ((0 ≤ x8 ∧ x8 < 8) ∧ ((i32 (V (p0 + 26) x8)) → ((i32 ((kand ((kshr x6 x8)) 1) * (V (p0 + 26) x8))) ∧ ((i32 (x7 + ((kand ((kshr x6 x8)) 1) * (V (p0 + 26) x8)))) ∧ ((i32 (x8 + 1)) ∧ wpv K_X8_setsLeft d P 26 [some (4, (p0 : Int)), none, some (0, x2), some (0, x3), some (2, x4), none, some (0, x6), some (0, (x7 + ((kand ((kshr x6 x8)) 1) * (V (p0 + 26) x8)))), some (0, (x8 + 1))] [] G R V)))))))))) : wpv K_X8_setsLeft d P 26 [some (4, (p0 : Int)), none, some (0, x2), some (0, x3), some (2, x4), none, some (0, x6), some (0, x7), some (0, x8)] [] G R V := by
  refine wp_ld (i := (.iload 8)) (0, x8) rfl rfl (fun _ => rfl) rfl rfl (?_ : wpv K_X8_setsLeft d P 28 [some (4, (p0 : Int)), none, some (0, x2), some (0, x3), some (2, x4), none, some (0, x6), some (0, x7), some (0, x8)] [(0, x8)] G R V)
  refine wp_ld (i := (.iload_n 3)) (0, x3) rfl rfl (fun _ => rfl) rfl rfl (?_ : wpv K_X8_setsLeft d P 29 [some (4, (p0 : Int)), none, some (0, x2), some (0, x3), some (2, x4), none, some (0, x6), some (0, x7), some (0, x8)] [(0, x3), (0, x8)] G R V)
  obtain ⟨s1, w⟩ := w
  obtain ⟨s2, w⟩ := w
  refine wp_icmp (c := .ge) 58 rfl rfl rfl s1 s2 (fun q => ?_) (fun q => ?_)
  · have q : ¬ x8 < x3 := q
    replace w := w.1 q
    show wpv K_X8_setsLeft d P 58 [some (4, (p0 : Int)), none, some (0, x2), some (0, x3), some (2, x4), none, some (0, x6), some (0, x7), some (0, x8)] [] G R V
    refine wp_ld (i := (.lload 4)) (2, x4) rfl rfl (fun _ => rfl) rfl rfl (?_ : wpv K_X8_setsLeft d P 60 [some (4, (p0 : Int)), none, some (0, x2), some (0, x3), some (2, x4), none, some (0, x6), some (0, x7), some (0, x8)] [(2, x4)] G R V)
    refine wp_ld (i := (.iload 7)) (0, x7) rfl rfl (fun _ => rfl) rfl rfl (?_ : wpv K_X8_setsLeft d P 62 [some (4, (p0 : Int)), none, some (0, x2), some (0, x3), some (2, x4), none, some (0, x6), some (0, x7), some (0, x8)] [(0, x7), (2, x4)] G R V)
    refine wp_ld (i := (.iload_n 2)) (0, x2) rfl rfl (fun _ => rfl) rfl rfl (?_ : wpv K_X8_setsLeft d P 63 [some (4, (p0 : Int)), none, some (0, x2), some (0, x3), some (2, x4), none, some (0, x6), some (0, x7), some (0, x8)] [(0, x2), (0, x7), (2, x4)] G R V)
    obtain ⟨s3, w⟩ := w
    obtain ⟨s4, w⟩ := w
    refine wp_icmp (c := .ne) 70 rfl rfl rfl s3 s4 (fun q => ?_) (fun q => ?_)
    · have q : ¬ x7 = x2 := q
      replace w := w.1 q
      show wpv K_X8_setsLeft d P 70 [some (4, (p0 : Int)), none, some (0, x2), some (0, x3), some (2, x4), none, some (0, x6), some (0, x7), some (0, x8)] [(2, x4)] G R V
      refine wp_p (i := (.lconst 0)) rfl rfl (fun _ _ _ => rfl) (?_ : wpv K_X8_setsLeft d P 71 [some (4, (p0 : Int)), none, some (0, x2), some (0, x3), some (2, x4), none, some (0, x6), some (0, x7), some (0, x8)] [(2, 0), (2, x4)] G R V)
      refine wp_jadd rfl rfl (?_ : wpv K_X8_setsLeft d P 72 [some (4, (p0 : Int)), none, some (0, x2), some (0, x3), some (2, x4), none, some (0, x6), some (0, x7), some (0, x8)] [(2, (jadd x4 0))] G R V)
      refine wp_lsto (i := (.lstore 4)) _ rfl rfl (fun _ => rfl) rfl rfl rfl ?_
      refine wp_wk (L' := [some (4, (p0 : Int)), none, some (0, x2), some (0, x3), some (2, (jadd x4 0)), none, some (0, x6), some (0, x7), some (0, x8)]) (wk_s (wk_n (wk_s (wk_s (wk_s (wk_n (wk_s (wk_s (wk_s wk_0))))))))) ?_
      show wpv K_X8_setsLeft d P 74 [some (4, (p0 : Int)), none, some (0, x2), some (0, x3), some (2, (jadd x4 0)), none, some (0, x6), some (0, x7), some (0, x8)] [] G R V
      obtain ⟨s5, w⟩ := w
      refine wp_inc (x := 6) (k := 1) (a := x6) (c := (x6 + 1)) _ rfl rfl rfl rfl s5 (by omega) rfl ?_
      show wpv K_X8_setsLeft d P 77 [some (4, (p0 : Int)), none, some (0, x2), some (0, x3), some (2, (jadd x4 0)), none, some (0, (x6 + 1)), some (0, x7), some (0, x8)] [] G R V
      refine wp_go 12 rfl rfl rfl (?_ : wpv K_X8_setsLeft d P 12 [some (4, (p0 : Int)), none, some (0, x2), some (0, x3), some (2, (jadd x4 0)), none, some (0, (x6 + 1)), some (0, x7), some (0, x8)] [] G R V)
      exact wp_wk (wk_s (wk_n (wk_s (wk_s (wk_s (wk_n (wk_s wk_0))))))) w
    · have q : x7 = x2 := Decidable.not_not.mp q
      replace w := w.2 q
      show wpv K_X8_setsLeft d P 66 [some (4, (p0 : Int)), none, some (0, x2), some (0, x3), some (2, x4), none, some (0, x6), some (0, x7), some (0, x8)] [(2, x4)] G R V
      refine wp_p (i := (.lconst 1)) rfl rfl (fun _ _ _ => rfl) (?_ : wpv K_X8_setsLeft d P 67 [some (4, (p0 : Int)), none, some (0, x2), some (0, x3), some (2, x4), none, some (0, x6), some (0, x7), some (0, x8)] [(2, 1), (2, x4)] G R V)
      refine wp_go 71 rfl rfl rfl (?_ : wpv K_X8_setsLeft d P 71 [some (4, (p0 : Int)), none, some (0, x2), some (0, x3), some (2, x4), none, some (0, x6), some (0, x7), some (0, x8)] [(2, 1), (2, x4)] G R V)
      refine wp_jadd rfl rfl (?_ : wpv K_X8_setsLeft d P 72 [some (4, (p0 : Int)), none, some (0, x2), some (0, x3), some (2, x4), none, some (0, x6), some (0, x7), some (0, x8)] [(2, (jadd x4 1))] G R V)
      refine wp_lsto (i := (.lstore 4)) _ rfl rfl (fun _ => rfl) rfl rfl rfl ?_
      refine wp_wk (L' := [some (4, (p0 : Int)), none, some (0, x2), some (0, x3), some (2, (jadd x4 1)), none, some (0, x6), some (0, x7), some (0, x8)]) (wk_s (wk_n (wk_s (wk_s (wk_s (wk_n (wk_s (wk_s (wk_s wk_0))))))))) ?_
      show wpv K_X8_setsLeft d P 74 [some (4, (p0 : Int)), none, some (0, x2), some (0, x3), some (2, (jadd x4 1)), none, some (0, x6), some (0, x7), some (0, x8)] [] G R V
      obtain ⟨s6, w⟩ := w
      refine wp_inc (x := 6) (k := 1) (a := x6) (c := (x6 + 1)) _ rfl rfl rfl rfl s6 (by omega) rfl ?_
      show wpv K_X8_setsLeft d P 77 [some (4, (p0 : Int)), none, some (0, x2), some (0, x3), some (2, (jadd x4 1)), none, some (0, (x6 + 1)), some (0, x7), some (0, x8)] [] G R V
      refine wp_go 12 rfl rfl rfl (?_ : wpv K_X8_setsLeft d P 12 [some (4, (p0 : Int)), none, some (0, x2), some (0, x3), some (2, (jadd x4 1)), none, some (0, (x6 + 1)), some (0, x7), some (0, x8)] [] G R V)
      exact wp_wk (wk_s (wk_n (wk_s (wk_s (wk_s (wk_n (wk_s wk_0))))))) w
  · have q : x8 < x3 := Decidable.not_not.mp q
    replace w := w.2 q
    show wpv K_X8_setsLeft d P 32 [some (4, (p0 : Int)), none, some (0, x2), some (0, x3), some (2, x4), none, some (0, x6), some (0, x7), some (0, x8)] [] G R V
    refine wp_ld (i := (.iload 7)) (0, x7) rfl rfl (fun _ => rfl) rfl rfl (?_ : wpv K_X8_setsLeft d P 34 [some (4, (p0 : Int)), none, some (0, x2), some (0, x3), some (2, x4), none, some (0, x6), some (0, x7), some (0, x8)] [(0, x7)] G R V)
    refine wp_ld (i := (.iload 6)) (0, x6) rfl rfl (fun _ => rfl) rfl rfl (?_ : wpv K_X8_setsLeft d P 36 [some (4, (p0 : Int)), none, some (0, x2), some (0, x3), some (2, x4), none, some (0, x6), some (0, x7), some (0, x8)] [(0, x6), (0, x7)] G R V)
    refine wp_ld (i := (.iload 8)) (0, x8) rfl rfl (fun _ => rfl) rfl rfl (?_ : wpv K_X8_setsLeft d P 38 [some (4, (p0 : Int)), none, some (0, x2), some (0, x3), some (2, x4), none, some (0, x6), some (0, x7), some (0, x8)] [(0, x8), (0, x6), (0, x7)] G R V)
    refine wp_kshr rfl rfl (?_ : wpv K_X8_setsLeft d P 39 [some (4, (p0 : Int)), none, some (0, x2), some (0, x3), some (2, x4), none, some (0, x6), some (0, x7), some (0, x8)] [(0, (kshr x6 x8)), (0, x7)] G R V)
    refine wp_p (i := (.iconst 1)) rfl rfl (fun _ _ _ => rfl) (?_ : wpv K_X8_setsLeft d P 40 [some (4, (p0 : Int)), none, some (0, x2), some (0, x3), some (2, x4), none, some (0, x6), some (0, x7), some (0, x8)] [(0, 1), (0, (kshr x6 x8)), (0, x7)] G R V)
    refine wp_kand rfl rfl (?_ : wpv K_X8_setsLeft d P 41 [some (4, (p0 : Int)), none, some (0, x2), some (0, x3), some (2, x4), none, some (0, x6), some (0, x7), some (0, x8)] [(0, (kand ((kshr x6 x8)) 1)), (0, x7)] G R V)
    refine wp_ld (i := (.aload_n 0)) (4, (p0 : Int)) rfl rfl (fun _ => rfl) rfl rfl (?_ : wpv K_X8_setsLeft d P 42 [some (4, (p0 : Int)), none, some (0, x2), some (0, x3), some (2, x4), none, some (0, x6), some (0, x7), some (0, x8)] [(4, (p0 : Int)), (0, (kand ((kshr x6 x8)) 1)), (0, x7)] G R V)
    refine wp_getA (k := 34) rfl rfl rfl (ly8_o l0) rfl rfl (ly8_34 l0).1 (?_ : wpv K_X8_setsLeft d P 45 [some (4, (p0 : Int)), none, some (0, x2), some (0, x3), some (2, x4), none, some (0, x6), some (0, x7), some (0, x8)] [(4, ((p0 + 26 : Nat) : Int)), (0, (kand ((kshr x6 x8)) 1)), (0, x7)] G R V)
    refine wp_ld (i := (.iload 8)) (0, x8) rfl rfl (fun _ => rfl) rfl rfl (?_ : wpv K_X8_setsLeft d P 47 [some (4, (p0 : Int)), none, some (0, x2), some (0, x3), some (2, x4), none, some (0, x6), some (0, x7), some (0, x8)] [(0, x8), (4, ((p0 + 26 : Nat) : Int)), (0, (kand ((kshr x6 x8)) 1)), (0, x7)] G R V)
    obtain ⟨s7, w⟩ := w
    refine wp_rng (fun vr8 => ?_)
    have f9 : i32 (V (p0 + 26) x8) := vr_a0 vr8 (ly8_34 l0).2 s7
    replace w := w f9
    refine wp_aI rfl rfl (ly8_34 l0).2 s7 (?_ : wpv K_X8_setsLeft d P 48 [some (4, (p0 : Int)), none, some (0, x2), some (0, x3), some (2, x4), none, some (0, x6), some (0, x7), some (0, x8)] [(0, (V (p0 + 26) x8)), (0, (kand ((kshr x6 x8)) 1)), (0, x7)] G R V)
    obtain ⟨s10, w⟩ := w
    refine wp_xmul rfl rfl s10 (?_ : wpv K_X8_setsLeft d P 49 [some (4, (p0 : Int)), none, some (0, x2), some (0, x3), some (2, x4), none, some (0, x6), some (0, x7), some (0, x8)] [(0, ((kand ((kshr x6 x8)) 1) * (V (p0 + 26) x8))), (0, x7)] G R V)
    obtain ⟨s11, w⟩ := w
    refine wp_xadd rfl rfl s11 (?_ : wpv K_X8_setsLeft d P 50 [some (4, (p0 : Int)), none, some (0, x2), some (0, x3), some (2, x4), none, some (0, x6), some (0, x7), some (0, x8)] [(0, (x7 + ((kand ((kshr x6 x8)) 1) * (V (p0 + 26) x8))))] G R V)
    refine wp_sto (i := (.istore 7)) _ rfl rfl (fun _ => rfl) rfl rfl rfl ?_
    refine wp_wk (L' := [some (4, (p0 : Int)), none, some (0, x2), some (0, x3), some (2, x4), none, some (0, x6), some (0, (x7 + ((kand ((kshr x6 x8)) 1) * (V (p0 + 26) x8)))), some (0, x8)]) (wk_s (wk_n (wk_s (wk_s (wk_s (wk_n (wk_s (wk_s (wk_s wk_0))))))))) ?_
    show wpv K_X8_setsLeft d P 52 [some (4, (p0 : Int)), none, some (0, x2), some (0, x3), some (2, x4), none, some (0, x6), some (0, (x7 + ((kand ((kshr x6 x8)) 1) * (V (p0 + 26) x8)))), some (0, x8)] [] G R V
    obtain ⟨s12, w⟩ := w
    refine wp_inc (x := 8) (k := 1) (a := x8) (c := (x8 + 1)) _ rfl rfl rfl rfl s12 (by omega) rfl ?_
    show wpv K_X8_setsLeft d P 55 [some (4, (p0 : Int)), none, some (0, x2), some (0, x3), some (2, x4), none, some (0, x6), some (0, (x7 + ((kand ((kshr x6 x8)) 1) * (V (p0 + 26) x8)))), some (0, (x8 + 1))] [] G R V
    refine wp_go 26 rfl rfl rfl (?_ : wpv K_X8_setsLeft d P 26 [some (4, (p0 : Int)), none, some (0, x2), some (0, x3), some (2, x4), none, some (0, x6), some (0, (x7 + ((kand ((kshr x6 x8)) 1) * (V (p0 + 26) x8)))), some (0, (x8 + 1))] [] G R V)
    exact wp_wk (wk_s (wk_n (wk_s (wk_s (wk_s (wk_n (wk_s (wk_s (wk_s wk_0))))))))) w
theorem t_X8_rowsLeft_0 {d : Nat} {P : gP} {p0 : Nat} {x1 : Int} {x2 : Int} {G : List gS} {R V : gV} (l0 : lay8 G R p0) (w : cwv d (fun r V1 => ∃ v2 : Int, r = some (0, v2) ∧ wpv K_X8_rowsLeft d P 12 [some (4, (p0 : Int)), none, some (0, x2), some (0, v2), some (0, 0), some (0, 0)] [] G R V1) 215 [(4, (p0 : Int)), (0, x1)] G R V) : wpv K_X8_rowsLeft d P 0 [some (4, (p0 : Int)), some (0, x1), some (0, x2)] [] G R V := by
  refine wp_ld (i := (.aload_n 0)) (4, (p0 : Int)) rfl rfl (fun _ => rfl) rfl rfl (?_ : wpv K_X8_rowsLeft d P 1 [some (4, (p0 : Int)), some (0, x1), some (0, x2)] [(4, (p0 : Int))] G R V)
  refine wp_ld (i := (.iload_n 1)) (0, x1) rfl rfl (fun _ => rfl) rfl rfl (?_ : wpv K_X8_rowsLeft d P 2 [some (4, (p0 : Int)), some (0, x1), some (0, x2)] [(0, x1), (4, (p0 : Int))] G R V)
  refine wp_virt (as := [(0, x1)]) (a := p0) (st := []) _ rfl rfl rfl rfl rfl rfl (ly8_o l0) (Nat.le_of_ble_eq_true rfl) (cwv_kI w (fun v2 V1 w => ?_))
  show wpv K_X8_rowsLeft d P 5 [some (4, (p0 : Int)), some (0, x1), some (0, x2)] [(0, v2)] G R V1
  refine wp_sto (i := (.istore_n 3)) _ rfl rfl (fun _ => rfl) rfl rfl rfl ?_
  refine wp_wk (L' := [some (4, (p0 : Int)), some (0, x1), some (0, x2), some (0, v2)]) (wk_s (wk_s (wk_s (wk_s wk_0)))) ?_
  show wpv K_X8_rowsLeft d P 6 [some (4, (p0 : Int)), some (0, x1), some (0, x2), some (0, v2)] [] G R V1
  refine wp_p (i := (.iconst 0)) rfl rfl (fun _ _ _ => rfl) (?_ : wpv K_X8_rowsLeft d P 7 [some (4, (p0 : Int)), some (0, x1), some (0, x2), some (0, v2)] [(0, 0)] G R V1)
  refine wp_sto (i := (.istore 4)) _ rfl rfl (fun _ => rfl) rfl rfl rfl ?_
  refine wp_wk (L' := [some (4, (p0 : Int)), some (0, x1), some (0, x2), some (0, v2), some (0, 0)]) (wk_s (wk_s (wk_s (wk_s (wk_s wk_0))))) ?_
  show wpv K_X8_rowsLeft d P 9 [some (4, (p0 : Int)), some (0, x1), some (0, x2), some (0, v2), some (0, 0)] [] G R V1
  refine wp_p (i := (.iconst 0)) rfl rfl (fun _ _ _ => rfl) (?_ : wpv K_X8_rowsLeft d P 10 [some (4, (p0 : Int)), some (0, x1), some (0, x2), some (0, v2), some (0, 0)] [(0, 0)] G R V1)
  refine wp_sto (i := (.istore 5)) _ rfl rfl (fun _ => rfl) rfl rfl rfl ?_
  refine wp_wk (L' := [some (4, (p0 : Int)), some (0, x1), some (0, x2), some (0, v2), some (0, 0), some (0, 0)]) (wk_s (wk_s (wk_s (wk_s (wk_s (wk_s wk_0)))))) ?_
  show wpv K_X8_rowsLeft d P 12 [some (4, (p0 : Int)), some (0, x1), some (0, x2), some (0, v2), some (0, 0), some (0, 0)] [] G R V1
  exact wp_wk (wk_s (wk_n (wk_s (wk_s (wk_s (wk_s wk_0)))))) w

theorem t_X8_rowsLeft_12 {d : Nat} {P : gP} {p0 : Nat} {x2 : Int} {x3 : Int} {x4 : Int} {x5 : Int} {G : List gS} {R V : gV} (l0 : lay8 G R p0) (w : ((i32 x5) ∧ ((i32 x3) ∧ (((¬ x5 < x3) → wpv K_X8_rowsLeft d P 51 [none, none, some (0, x2), none, some (0, x4), some (2, 1), none, some (0, 0)] [] G R V) ∧ ((x5 < x3) → ((0 ≤ x5 ∧ x5 < 8) ∧ ((i32 (V (p0 + 26) x5)) → (((¬ (V (p0 + 26) x5) = 1) → ((i32 (x4 + 0)) ∧ ((i32 (x5 + 1)) ∧ wpv K_X8_rowsLeft d P 12 [some (4, (p0 : Int)), none, some (0, x2), some (0, x3), some (0, (x4 + 0)), some (0, (x5 + 1))] [] G R V))) ∧ (((V (p0 + 26) x5) = 1) → ((i32 (x4 + 1)) ∧ ((i32 (x5 + 1)) ∧ wpv K_X8_rowsLeft d P 12 [some (4, (p0 : Int)), none, some (0, x2), some (0, x3), some (0, (x4 + 1)), some (0, (x5 + 1))] [] G R V))))))))))) : wpv K_X8_rowsLeft d P 12 [some (4, (p0 : Int)), none, some (0, x2), some (0, x3), some (0, x4), some (0, x5)] [] G R V := by
  refine wp_ld (i := (.iload 5)) (0, x5) rfl rfl (fun _ => rfl) rfl rfl (?_ : wpv K_X8_rowsLeft d P 14 [some (4, (p0 : Int)), none, some (0, x2), some (0, x3), some (0, x4), some (0, x5)] [(0, x5)] G R V)
  refine wp_ld (i := (.iload_n 3)) (0, x3) rfl rfl (fun _ => rfl) rfl rfl (?_ : wpv K_X8_rowsLeft d P 15 [some (4, (p0 : Int)), none, some (0, x2), some (0, x3), some (0, x4), some (0, x5)] [(0, x3), (0, x5)] G R V)
  obtain ⟨s1, w⟩ := w
  obtain ⟨s2, w⟩ := w
  refine wp_icmp (c := .ge) 45 rfl rfl rfl s1 s2 (fun q => ?_) (fun q => ?_)
  · have q : ¬ x5 < x3 := q
    replace w := w.1 q
    show wpv K_X8_rowsLeft d P 45 [some (4, (p0 : Int)), none, some (0, x2), some (0, x3), some (0, x4), some (0, x5)] [] G R V
    refine wp_p (i := (.lconst 1)) rfl rfl (fun _ _ _ => rfl) (?_ : wpv K_X8_rowsLeft d P 46 [some (4, (p0 : Int)), none, some (0, x2), some (0, x3), some (0, x4), some (0, x5)] [(2, 1)] G R V)
    refine wp_lsto (i := (.lstore 5)) _ rfl rfl (fun _ => rfl) rfl rfl rfl ?_
    refine wp_wk (L' := [some (4, (p0 : Int)), none, some (0, x2), some (0, x3), some (0, x4), some (2, 1)]) (wk_s (wk_n (wk_s (wk_s (wk_s (wk_s wk_0)))))) ?_
    show wpv K_X8_rowsLeft d P 48 [some (4, (p0 : Int)), none, some (0, x2), some (0, x3), some (0, x4), some (2, 1)] [] G R V
    refine wp_p (i := (.iconst 0)) rfl rfl (fun _ _ _ => rfl) (?_ : wpv K_X8_rowsLeft d P 49 [some (4, (p0 : Int)), none, some (0, x2), some (0, x3), some (0, x4), some (2, 1)] [(0, 0)] G R V)
    refine wp_sto (i := (.istore 7)) _ rfl rfl (fun _ => rfl) rfl rfl rfl ?_
    refine wp_wk (L' := [some (4, (p0 : Int)), none, some (0, x2), some (0, x3), some (0, x4), some (2, 1), none, some (0, 0)]) (wk_s (wk_n (wk_s (wk_s (wk_s (wk_s (wk_n (wk_s wk_0)))))))) ?_
    show wpv K_X8_rowsLeft d P 51 [some (4, (p0 : Int)), none, some (0, x2), some (0, x3), some (0, x4), some (2, 1), none, some (0, 0)] [] G R V
    exact wp_wk (wk_n (wk_n (wk_s (wk_n (wk_s (wk_s (wk_n (wk_s wk_0)))))))) w
  · have q : x5 < x3 := Decidable.not_not.mp q
    replace w := w.2 q
    show wpv K_X8_rowsLeft d P 18 [some (4, (p0 : Int)), none, some (0, x2), some (0, x3), some (0, x4), some (0, x5)] [] G R V
    refine wp_ld (i := (.iload 4)) (0, x4) rfl rfl (fun _ => rfl) rfl rfl (?_ : wpv K_X8_rowsLeft d P 20 [some (4, (p0 : Int)), none, some (0, x2), some (0, x3), some (0, x4), some (0, x5)] [(0, x4)] G R V)
    refine wp_ld (i := (.aload_n 0)) (4, (p0 : Int)) rfl rfl (fun _ => rfl) rfl rfl (?_ : wpv K_X8_rowsLeft d P 21 [some (4, (p0 : Int)), none, some (0, x2), some (0, x3), some (0, x4), some (0, x5)] [(4, (p0 : Int)), (0, x4)] G R V)
    refine wp_getA (k := 34) rfl rfl rfl (ly8_o l0) rfl rfl (ly8_34 l0).1 (?_ : wpv K_X8_rowsLeft d P 24 [some (4, (p0 : Int)), none, some (0, x2), some (0, x3), some (0, x4), some (0, x5)] [(4, ((p0 + 26 : Nat) : Int)), (0, x4)] G R V)
    refine wp_ld (i := (.iload 5)) (0, x5) rfl rfl (fun _ => rfl) rfl rfl (?_ : wpv K_X8_rowsLeft d P 26 [some (4, (p0 : Int)), none, some (0, x2), some (0, x3), some (0, x4), some (0, x5)] [(0, x5), (4, ((p0 + 26 : Nat) : Int)), (0, x4)] G R V)
    obtain ⟨s3, w⟩ := w
    refine wp_rng (fun vr4 => ?_)
    have f5 : i32 (V (p0 + 26) x5) := vr_a0 vr4 (ly8_34 l0).2 s3
    replace w := w f5
    refine wp_aI rfl rfl (ly8_34 l0).2 s3 (?_ : wpv K_X8_rowsLeft d P 27 [some (4, (p0 : Int)), none, some (0, x2), some (0, x3), some (0, x4), some (0, x5)] [(0, (V (p0 + 26) x5)), (0, x4)] G R V)
    refine wp_p (i := (.iconst 1)) rfl rfl (fun _ _ _ => rfl) (?_ : wpv K_X8_rowsLeft d P 28 [some (4, (p0 : Int)), none, some (0, x2), some (0, x3), some (0, x4), some (0, x5)] [(0, 1), (0, (V (p0 + 26) x5)), (0, x4)] G R V)
    refine wp_icmp (c := .ne) 35 rfl rfl rfl f5 ⟨by omega, by omega⟩ (fun q => ?_) (fun q => ?_)
    · have q : ¬ (V (p0 + 26) x5) = 1 := q
      replace w := w.1 q
      show wpv K_X8_rowsLeft d P 35 [some (4, (p0 : Int)), none, some (0, x2), some (0, x3), some (0, x4), some (0, x5)] [(0, x4)] G R V
      refine wp_p (i := (.iconst 0)) rfl rfl (fun _ _ _ => rfl) (?_ : wpv K_X8_rowsLeft d P 36 [some (4, (p0 : Int)), none, some (0, x2), some (0, x3), some (0, x4), some (0, x5)] [(0, 0), (0, x4)] G R V)
      obtain ⟨s6, w⟩ := w
      refine wp_xadd rfl rfl s6 (?_ : wpv K_X8_rowsLeft d P 37 [some (4, (p0 : Int)), none, some (0, x2), some (0, x3), some (0, x4), some (0, x5)] [(0, (x4 + 0))] G R V)
      refine wp_sto (i := (.istore 4)) _ rfl rfl (fun _ => rfl) rfl rfl rfl ?_
      refine wp_wk (L' := [some (4, (p0 : Int)), none, some (0, x2), some (0, x3), some (0, (x4 + 0)), some (0, x5)]) (wk_s (wk_n (wk_s (wk_s (wk_s (wk_s wk_0)))))) ?_
      show wpv K_X8_rowsLeft d P 39 [some (4, (p0 : Int)), none, some (0, x2), some (0, x3), some (0, (x4 + 0)), some (0, x5)] [] G R V
      obtain ⟨s7, w⟩ := w
      refine wp_inc (x := 5) (k := 1) (a := x5) (c := (x5 + 1)) _ rfl rfl rfl rfl s7 (by omega) rfl ?_
      show wpv K_X8_rowsLeft d P 42 [some (4, (p0 : Int)), none, some (0, x2), some (0, x3), some (0, (x4 + 0)), some (0, (x5 + 1))] [] G R V
      refine wp_go 12 rfl rfl rfl (?_ : wpv K_X8_rowsLeft d P 12 [some (4, (p0 : Int)), none, some (0, x2), some (0, x3), some (0, (x4 + 0)), some (0, (x5 + 1))] [] G R V)
      exact wp_wk (wk_s (wk_n (wk_s (wk_s (wk_s (wk_s wk_0)))))) w
    · have q : (V (p0 + 26) x5) = 1 := Decidable.not_not.mp q
      replace w := w.2 q
      show wpv K_X8_rowsLeft d P 31 [some (4, (p0 : Int)), none, some (0, x2), some (0, x3), some (0, x4), some (0, x5)] [(0, x4)] G R V
      refine wp_p (i := (.iconst 1)) rfl rfl (fun _ _ _ => rfl) (?_ : wpv K_X8_rowsLeft d P 32 [some (4, (p0 : Int)), none, some (0, x2), some (0, x3), some (0, x4), some (0, x5)] [(0, 1), (0, x4)] G R V)
      refine wp_go 36 rfl rfl rfl (?_ : wpv K_X8_rowsLeft d P 36 [some (4, (p0 : Int)), none, some (0, x2), some (0, x3), some (0, x4), some (0, x5)] [(0, 1), (0, x4)] G R V)
      obtain ⟨s8, w⟩ := w
      refine wp_xadd rfl rfl s8 (?_ : wpv K_X8_rowsLeft d P 37 [some (4, (p0 : Int)), none, some (0, x2), some (0, x3), some (0, x4), some (0, x5)] [(0, (x4 + 1))] G R V)
      refine wp_sto (i := (.istore 4)) _ rfl rfl (fun _ => rfl) rfl rfl rfl ?_
      refine wp_wk (L' := [some (4, (p0 : Int)), none, some (0, x2), some (0, x3), some (0, (x4 + 1)), some (0, x5)]) (wk_s (wk_n (wk_s (wk_s (wk_s (wk_s wk_0)))))) ?_
      show wpv K_X8_rowsLeft d P 39 [some (4, (p0 : Int)), none, some (0, x2), some (0, x3), some (0, (x4 + 1)), some (0, x5)] [] G R V
      obtain ⟨s9, w⟩ := w
      refine wp_inc (x := 5) (k := 1) (a := x5) (c := (x5 + 1)) _ rfl rfl rfl rfl s9 (by omega) rfl ?_
      show wpv K_X8_rowsLeft d P 42 [some (4, (p0 : Int)), none, some (0, x2), some (0, x3), some (0, (x4 + 1)), some (0, (x5 + 1))] [] G R V
      refine wp_go 12 rfl rfl rfl (?_ : wpv K_X8_rowsLeft d P 12 [some (4, (p0 : Int)), none, some (0, x2), some (0, x3), some (0, (x4 + 1)), some (0, (x5 + 1))] [] G R V)
      exact wp_wk (wk_s (wk_n (wk_s (wk_s (wk_s (wk_s wk_0)))))) w

theorem t_X8_rowsLeft_51 {d : Nat} {P : gP} {x2 : Int} {x4 : Int} {x5 : Int} {x7 : Int} {G : List gS} {R V : gV}  (w : ((i32 x7) ∧ ((i32 x2) ∧ (((¬ x7 < x2) → P (some (2, x5)) V) ∧ ((x7 < x2) → ((i32 x4) ∧ (((¬ x7 < x4) → ((i32 (x7 + 1)) ∧ wpv K_X8_rowsLeft d P 51 [none, none, some (0, x2), none, some (0, x4), some (2, (jmul x5 0)), none, some (0, (x7 + 1))] [] G R V)) ∧ ((x7 < x4) → ((i32 (x4 - x7)) ∧ ((i32 (x7 + 1)) ∧ wpv K_X8_rowsLeft d P 51 [none, none, some (0, x2), none, some (0, x4), some (2, (jmul x5 ((x4 - x7)))), none, some (0, (x7 + 1))] [] G R V)))))))))) : wpv K_X8_rowsLeft d P 51 [none, none, some (0, x2), none, some (0, x4), some (2, x5), none, some (0, x7)] [] G R V := by
  refine wp_ld (i := (.iload 7)) (0, x7) rfl rfl (fun _ => rfl) rfl rfl (?_ : wpv K_X8_rowsLeft d P 53 [none, none, some (0, x2), none, some (0, x4), some (2, x5), none, some (0, x7)] [(0, x7)] G R V)
  refine wp_ld (i := (.iload_n 2)) (0, x2) rfl rfl (fun _ => rfl) rfl rfl (?_ : wpv K_X8_rowsLeft d P 54 [none, none, some (0, x2), none, some (0, x4), some (2, x5), none, some (0, x7)] [(0, x2), (0, x7)] G R V)
  obtain ⟨s1, w⟩ := w
  obtain ⟨s2, w⟩ := w
  refine wp_icmp (c := .ge) 85 rfl rfl rfl s1 s2 (fun q => ?_) (fun q => ?_)
  · have q : ¬ x7 < x2 := q
    replace w := w.1 q
    show wpv K_X8_rowsLeft d P 85 [none, none, some (0, x2), none, some (0, x4), some (2, x5), none, some (0, x7)] [] G R V
    refine wp_ld (i := (.lload 5)) (2, x5) rfl rfl (fun _ => rfl) rfl rfl (?_ : wpv K_X8_rowsLeft d P 87 [none, none, some (0, x2), none, some (0, x4), some (2, x5), none, some (0, x7)] [(2, x5)] G R V)
    exact wp_rJ rfl rfl rfl w
  · have q : x7 < x2 := Decidable.not_not.mp q
    replace w := w.2 q
    show wpv K_X8_rowsLeft d P 57 [none, none, some (0, x2), none, some (0, x4), some (2, x5), none, some (0, x7)] [] G R V
    refine wp_ld (i := (.lload 5)) (2, x5) rfl rfl (fun _ => rfl) rfl rfl (?_ : wpv K_X8_rowsLeft d P 59 [none, none, some (0, x2), none, some (0, x4), some (2, x5), none, some (0, x7)] [(2, x5)] G R V)
    refine wp_ld (i := (.iload 4)) (0, x4) rfl rfl (fun _ => rfl) rfl rfl (?_ : wpv K_X8_rowsLeft d P 61 [none, none, some (0, x2), none, some (0, x4), some (2, x5), none, some (0, x7)] [(0, x4), (2, x5)] G R V)
    refine wp_ld (i := (.iload 7)) (0, x7) rfl rfl (fun _ => rfl) rfl rfl (?_ : wpv K_X8_rowsLeft d P 63 [none, none, some (0, x2), none, some (0, x4), some (2, x5), none, some (0, x7)] [(0, x7), (0, x4), (2, x5)] G R V)
    obtain ⟨s3, w⟩ := w
    refine wp_icmp (c := .le) 75 rfl rfl rfl s3 s1 (fun q => ?_) (fun q => ?_)
    · have q : ¬ x7 < x4 := q
      replace w := w.1 q
      show wpv K_X8_rowsLeft d P 75 [none, none, some (0, x2), none, some (0, x4), some (2, x5), none, some (0, x7)] [(2, x5)] G R V
      refine wp_p (i := (.lconst 0)) rfl rfl (fun _ _ _ => rfl) (?_ : wpv K_X8_rowsLeft d P 76 [none, none, some (0, x2), none, some (0, x4), some (2, x5), none, some (0, x7)] [(2, 0), (2, x5)] G R V)
      refine wp_jmul rfl rfl (?_ : wpv K_X8_rowsLeft d P 77 [none, none, some (0, x2), none, some (0, x4), some (2, x5), none, some (0, x7)] [(2, (jmul x5 0))] G R V)
      refine wp_lsto (i := (.lstore 5)) _ rfl rfl (fun _ => rfl) rfl rfl rfl ?_
      refine wp_wk (L' := [none, none, some (0, x2), none, some (0, x4), some (2, (jmul x5 0)), none, some (0, x7)]) (wk_n (wk_n (wk_s (wk_n (wk_s (wk_s (wk_n (wk_s wk_0)))))))) ?_
      show wpv K_X8_rowsLeft d P 79 [none, none, some (0, x2), none, some (0, x4), some (2, (jmul x5 0)), none, some (0, x7)] [] G R V
      obtain ⟨s4, w⟩ := w
      refine wp_inc (x := 7) (k := 1) (a := x7) (c := (x7 + 1)) _ rfl rfl rfl rfl s4 (by omega) rfl ?_
      show wpv K_X8_rowsLeft d P 82 [none, none, some (0, x2), none, some (0, x4), some (2, (jmul x5 0)), none, some (0, (x7 + 1))] [] G R V
      refine wp_go 51 rfl rfl rfl (?_ : wpv K_X8_rowsLeft d P 51 [none, none, some (0, x2), none, some (0, x4), some (2, (jmul x5 0)), none, some (0, (x7 + 1))] [] G R V)
      exact wp_wk (wk_n (wk_n (wk_s (wk_n (wk_s (wk_s (wk_n (wk_s wk_0)))))))) w
    · have q : x7 < x4 := Decidable.not_not.mp q
      replace w := w.2 q
      show wpv K_X8_rowsLeft d P 66 [none, none, some (0, x2), none, some (0, x4), some (2, x5), none, some (0, x7)] [(2, x5)] G R V
      refine wp_ld (i := (.iload 4)) (0, x4) rfl rfl (fun _ => rfl) rfl rfl (?_ : wpv K_X8_rowsLeft d P 68 [none, none, some (0, x2), none, some (0, x4), some (2, x5), none, some (0, x7)] [(0, x4), (2, x5)] G R V)
      refine wp_ld (i := (.iload 7)) (0, x7) rfl rfl (fun _ => rfl) rfl rfl (?_ : wpv K_X8_rowsLeft d P 70 [none, none, some (0, x2), none, some (0, x4), some (2, x5), none, some (0, x7)] [(0, x7), (0, x4), (2, x5)] G R V)
      obtain ⟨s5, w⟩ := w
      refine wp_xsub rfl rfl s5 (?_ : wpv K_X8_rowsLeft d P 71 [none, none, some (0, x2), none, some (0, x4), some (2, x5), none, some (0, x7)] [(0, (x4 - x7)), (2, x5)] G R V)
      refine wp_i2l rfl rfl s5 (?_ : wpv K_X8_rowsLeft d P 72 [none, none, some (0, x2), none, some (0, x4), some (2, x5), none, some (0, x7)] [(2, (x4 - x7)), (2, x5)] G R V)
      refine wp_go 76 rfl rfl rfl (?_ : wpv K_X8_rowsLeft d P 76 [none, none, some (0, x2), none, some (0, x4), some (2, x5), none, some (0, x7)] [(2, (x4 - x7)), (2, x5)] G R V)
      refine wp_jmul rfl rfl (?_ : wpv K_X8_rowsLeft d P 77 [none, none, some (0, x2), none, some (0, x4), some (2, x5), none, some (0, x7)] [(2, (jmul x5 ((x4 - x7))))] G R V)
      refine wp_lsto (i := (.lstore 5)) _ rfl rfl (fun _ => rfl) rfl rfl rfl ?_
      refine wp_wk (L' := [none, none, some (0, x2), none, some (0, x4), some (2, (jmul x5 ((x4 - x7)))), none, some (0, x7)]) (wk_n (wk_n (wk_s (wk_n (wk_s (wk_s (wk_n (wk_s wk_0)))))))) ?_
      show wpv K_X8_rowsLeft d P 79 [none, none, some (0, x2), none, some (0, x4), some (2, (jmul x5 ((x4 - x7)))), none, some (0, x7)] [] G R V
      obtain ⟨s6, w⟩ := w
      refine wp_inc (x := 7) (k := 1) (a := x7) (c := (x7 + 1)) _ rfl rfl rfl rfl s6 (by omega) rfl ?_
      show wpv K_X8_rowsLeft d P 82 [none, none, some (0, x2), none, some (0, x4), some (2, (jmul x5 ((x4 - x7)))), none, some (0, (x7 + 1))] [] G R V
      refine wp_go 51 rfl rfl rfl (?_ : wpv K_X8_rowsLeft d P 51 [none, none, some (0, x2), none, some (0, x4), some (2, (jmul x5 ((x4 - x7)))), none, some (0, (x7 + 1))] [] G R V)
      exact wp_wk (wk_n (wk_n (wk_s (wk_n (wk_s (wk_s (wk_n (wk_s wk_0)))))))) w
theorem t_X8_places_0 {d : Nat} {P : gP} {p0 : Nat} {x1 : Int} {x2 : Int} {x3 : Int} {G : List gS} {R V : gV} (l0 : lay8 G R p0) (w : cwv d (fun r V1 => ∃ v2 : Int, r = some (0, v2) ∧ ((i32 v2) ∧ (((v2 = 0) → cwv d (fun r V4 => ∃ v5 : Int, r = some (2, v5) ∧ P (some (2, v5)) V4) 161 [(4, (p0 : Int)), (2, (-1))] G R V1) ∧ ((¬ v2 = 0) → ((i32 x2) ∧ ((i32 (V1 p0 4)) → cwv d (fun r V9 => ∃ v10 : Int, r = some (0, v10) ∧ ((i32 v10) ∧ (((v10 = 0) → cwv d (fun r V12 => ∃ v13 : Int, r = some (2, v13) ∧ P (some (2, v13)) V12) 161 [(4, (p0 : Int)), (2, (-1))] G R V9) ∧ ((¬ v10 = 0) → ((i32 x3) ∧ cwv d (fun r V15 => ∃ v16 : Int, r = some (0, v16) ∧ ((i32 v16) ∧ (((¬ v16 = 0) → wpv K_X8_places d P 42 [some (4, (p0 : Int)), some (0, x1), some (0, x2), some (0, x3), some (0, 0)] [] G R V15) ∧ ((v16 = 0) → cwv d (fun r V18 => ∃ v19 : Int, r = some (2, v19) ∧ P (some (2, v19)) V18) 161 [(4, (p0 : Int)), (2, (-1))] G R V15)))) 159 [(2, x3), (2, 0), (2, 1)] G R V9))))) 159 [(2, x2), (2, 0), (2, (V1 p0 4))] G R V1)))))) 208 [(0, x1)] G R V) : wpv K_X8_places d P 0 [some (4, (p0 : Int)), some (0, x1), some (0, x2), some (0, x3)] [] G R V := by
  refine wp_ld (i := (.iload_n 1)) (0, x1) rfl rfl (fun _ => rfl) rfl rfl (?_ : wpv K_X8_places d P 1 [some (4, (p0 : Int)), some (0, x1), some (0, x2), some (0, x3)] [(0, x1)] G R V)
  refine wp_stat (as := [(0, x1)]) (st := []) _ rfl rfl rfl (by omega) rfl rfl (Nat.le_of_ble_eq_true rfl) (cwv_kI w (fun v2 V1 w => ?_))
  show wpv K_X8_places d P 4 [some (4, (p0 : Int)), some (0, x1), some (0, x2), some (0, x3)] [(0, v2)] G R V1
  obtain ⟨s3, w⟩ := w
  refine wp_if (c := .eq) 31 rfl rfl rfl s3 (fun q => ?_) (fun q => ?_)
  · have q : v2 = 0 := q
    replace w := w.1 q
    show wpv K_X8_places d P 31 [some (4, (p0 : Int)), some (0, x1), some (0, x2), some (0, x3)] [] G R V1
    refine wp_ld (i := (.aload_n 0)) (4, (p0 : Int)) rfl rfl (fun _ => rfl) rfl rfl (?_ : wpv K_X8_places d P 32 [some (4, (p0 : Int)), some (0, x1), some (0, x2), some (0, x3)] [(4, (p0 : Int))] G R V1)
    refine wp_p (i := (.ldc2_w 287)) rfl rfl (fun _ _ _ => rfl) (?_ : wpv K_X8_places d P 35 [some (4, (p0 : Int)), some (0, x1), some (0, x2), some (0, x3)] [(2, (-1)), (4, (p0 : Int))] G R V1)
    refine wp_virt (as := [(2, (-1))]) (a := p0) (st := []) _ rfl rfl rfl rfl rfl rfl (ly8_o l0) (Nat.le_of_ble_eq_true rfl) (cwv_kJ w (fun v5 V4 w => ?_))
    show wpv K_X8_places d P 38 [some (4, (p0 : Int)), some (0, x1), some (0, x2), some (0, x3)] [(2, v5)] G R V4
    exact wp_rJ rfl rfl rfl w
  · have q : ¬ v2 = 0 := q
    replace w := w.2 q
    show wpv K_X8_places d P 7 [some (4, (p0 : Int)), some (0, x1), some (0, x2), some (0, x3)] [] G R V1
    refine wp_ld (i := (.iload_n 2)) (0, x2) rfl rfl (fun _ => rfl) rfl rfl (?_ : wpv K_X8_places d P 8 [some (4, (p0 : Int)), some (0, x1), some (0, x2), some (0, x3)] [(0, x2)] G R V1)
    obtain ⟨s6, w⟩ := w
    refine wp_i2l rfl rfl s6 (?_ : wpv K_X8_places d P 9 [some (4, (p0 : Int)), some (0, x1), some (0, x2), some (0, x3)] [(2, x2)] G R V1)
    refine wp_p (i := (.lconst 0)) rfl rfl (fun _ _ _ => rfl) (?_ : wpv K_X8_places d P 10 [some (4, (p0 : Int)), some (0, x1), some (0, x2), some (0, x3)] [(2, 0), (2, x2)] G R V1)
    refine wp_ld (i := (.aload_n 0)) (4, (p0 : Int)) rfl rfl (fun _ => rfl) rfl rfl (?_ : wpv K_X8_places d P 11 [some (4, (p0 : Int)), some (0, x1), some (0, x2), some (0, x3)] [(4, (p0 : Int)), (2, 0), (2, x2)] G R V1)
    refine wp_rng (fun vr7 => ?_)
    have f8 : i32 (V1 p0 4) := vr_f0 vr7 (ly8_o l0) rfl rfl
    replace w := w f8
    refine wp_getI (k := 4) rfl rfl rfl (ly8_o l0) rfl rfl (?_ : wpv K_X8_places d P 14 [some (4, (p0 : Int)), some (0, x1), some (0, x2), some (0, x3)] [(0, (V1 p0 4)), (2, 0), (2, x2)] G R V1)
    refine wp_i2l rfl rfl f8 (?_ : wpv K_X8_places d P 15 [some (4, (p0 : Int)), some (0, x1), some (0, x2), some (0, x3)] [(2, (V1 p0 4)), (2, 0), (2, x2)] G R V1)
    refine wp_stat (as := [(2, x2), (2, 0), (2, (V1 p0 4))]) (st := []) _ rfl rfl rfl (by omega) rfl rfl (Nat.le_of_ble_eq_true rfl) (cwv_kI w (fun v10 V9 w => ?_))
    show wpv K_X8_places d P 18 [some (4, (p0 : Int)), some (0, x1), some (0, x2), some (0, x3)] [(0, v10)] G R V9
    obtain ⟨s11, w⟩ := w
    refine wp_if (c := .eq) 31 rfl rfl rfl s11 (fun q => ?_) (fun q => ?_)
    · have q : v10 = 0 := q
      replace w := w.1 q
      show wpv K_X8_places d P 31 [some (4, (p0 : Int)), some (0, x1), some (0, x2), some (0, x3)] [] G R V9
      refine wp_ld (i := (.aload_n 0)) (4, (p0 : Int)) rfl rfl (fun _ => rfl) rfl rfl (?_ : wpv K_X8_places d P 32 [some (4, (p0 : Int)), some (0, x1), some (0, x2), some (0, x3)] [(4, (p0 : Int))] G R V9)
      refine wp_p (i := (.ldc2_w 287)) rfl rfl (fun _ _ _ => rfl) (?_ : wpv K_X8_places d P 35 [some (4, (p0 : Int)), some (0, x1), some (0, x2), some (0, x3)] [(2, (-1)), (4, (p0 : Int))] G R V9)
      refine wp_virt (as := [(2, (-1))]) (a := p0) (st := []) _ rfl rfl rfl rfl rfl rfl (ly8_o l0) (Nat.le_of_ble_eq_true rfl) (cwv_kJ w (fun v13 V12 w => ?_))
      show wpv K_X8_places d P 38 [some (4, (p0 : Int)), some (0, x1), some (0, x2), some (0, x3)] [(2, v13)] G R V12
      exact wp_rJ rfl rfl rfl w
    · have q : ¬ v10 = 0 := q
      replace w := w.2 q
      show wpv K_X8_places d P 21 [some (4, (p0 : Int)), some (0, x1), some (0, x2), some (0, x3)] [] G R V9
      refine wp_ld (i := (.iload_n 3)) (0, x3) rfl rfl (fun _ => rfl) rfl rfl (?_ : wpv K_X8_places d P 22 [some (4, (p0 : Int)), some (0, x1), some (0, x2), some (0, x3)] [(0, x3)] G R V9)
      obtain ⟨s14, w⟩ := w
      refine wp_i2l rfl rfl s14 (?_ : wpv K_X8_places d P 23 [some (4, (p0 : Int)), some (0, x1), some (0, x2), some (0, x3)] [(2, x3)] G R V9)
      refine wp_p (i := (.lconst 0)) rfl rfl (fun _ _ _ => rfl) (?_ : wpv K_X8_places d P 24 [some (4, (p0 : Int)), some (0, x1), some (0, x2), some (0, x3)] [(2, 0), (2, x3)] G R V9)
      refine wp_p (i := (.lconst 1)) rfl rfl (fun _ _ _ => rfl) (?_ : wpv K_X8_places d P 25 [some (4, (p0 : Int)), some (0, x1), some (0, x2), some (0, x3)] [(2, 1), (2, 0), (2, x3)] G R V9)
      refine wp_stat (as := [(2, x3), (2, 0), (2, 1)]) (st := []) _ rfl rfl rfl (by omega) rfl rfl (Nat.le_of_ble_eq_true rfl) (cwv_kI w (fun v16 V15 w => ?_))
      show wpv K_X8_places d P 28 [some (4, (p0 : Int)), some (0, x1), some (0, x2), some (0, x3)] [(0, v16)] G R V15
      obtain ⟨s17, w⟩ := w
      refine wp_if (c := .ne) 39 rfl rfl rfl s17 (fun q => ?_) (fun q => ?_)
      · have q : ¬ v16 = 0 := q
        replace w := w.1 q
        show wpv K_X8_places d P 39 [some (4, (p0 : Int)), some (0, x1), some (0, x2), some (0, x3)] [] G R V15
        refine wp_p (i := (.iconst 0)) rfl rfl (fun _ _ _ => rfl) (?_ : wpv K_X8_places d P 40 [some (4, (p0 : Int)), some (0, x1), some (0, x2), some (0, x3)] [(0, 0)] G R V15)
        refine wp_sto (i := (.istore 4)) _ rfl rfl (fun _ => rfl) rfl rfl rfl ?_
        refine wp_wk (L' := [some (4, (p0 : Int)), some (0, x1), some (0, x2), some (0, x3), some (0, 0)]) (wk_s (wk_s (wk_s (wk_s (wk_s wk_0))))) ?_
        show wpv K_X8_places d P 42 [some (4, (p0 : Int)), some (0, x1), some (0, x2), some (0, x3), some (0, 0)] [] G R V15
        exact wp_wk (wk_s (wk_s (wk_s (wk_s (wk_s wk_0))))) w
      · have q : v16 = 0 := Decidable.not_not.mp q
        replace w := w.2 q
        show wpv K_X8_places d P 31 [some (4, (p0 : Int)), some (0, x1), some (0, x2), some (0, x3)] [] G R V15
        refine wp_ld (i := (.aload_n 0)) (4, (p0 : Int)) rfl rfl (fun _ => rfl) rfl rfl (?_ : wpv K_X8_places d P 32 [some (4, (p0 : Int)), some (0, x1), some (0, x2), some (0, x3)] [(4, (p0 : Int))] G R V15)
        refine wp_p (i := (.ldc2_w 287)) rfl rfl (fun _ _ _ => rfl) (?_ : wpv K_X8_places d P 35 [some (4, (p0 : Int)), some (0, x1), some (0, x2), some (0, x3)] [(2, (-1)), (4, (p0 : Int))] G R V15)
        refine wp_virt (as := [(2, (-1))]) (a := p0) (st := []) _ rfl rfl rfl rfl rfl rfl (ly8_o l0) (Nat.le_of_ble_eq_true rfl) (cwv_kJ w (fun v19 V18 w => ?_))
        show wpv K_X8_places d P 38 [some (4, (p0 : Int)), some (0, x1), some (0, x2), some (0, x3)] [(2, v19)] G R V18
        exact wp_rJ rfl rfl rfl w

theorem t_X8_places_42 {d : Nat} {P : gP} {p0 : Nat} {x1 : Int} {x2 : Int} {x3 : Int} {x4 : Int} {G : List gS} {R V : gV} (l0 : lay8 G R p0) (w : ((i32 (V p0 13)) → ((i32 x4) ∧ (((¬ x4 < (V p0 13)) → cwv d (fun r V4 => ∃ v5 : Int, r = some (2, v5) ∧ P (some (2, v5)) V4) 212 [(4, (p0 : Int)), (0, x1)] G R V) ∧ ((x4 < (V p0 13)) → ((i32 x3) ∧ (((¬ x3 = 0) → ((0 ≤ x4 ∧ x4 < 300) ∧ ((i32 (V (p0 + 15) x4)) → cwv d (fun r V9 => ∃ v10 : Int, r = some (2, v10) ∧ ((i64 v10) ∧ ((i32 (x4 + 1)) ∧ wpv K_X8_places d P 42 [some (4, (p0 : Int)), some (0, x1), some (0, x2), some (0, x3), some (0, (x4 + 1))] [] G R (wr V9 (p0 + 23) x4 v10)))) 217 [(4, (p0 : Int)), (0, (V (p0 + 15) x4)), (0, x2)] G R V))) ∧ ((x3 = 0) → ((0 ≤ x4 ∧ x4 < 300) ∧ ((i32 (V (p0 + 15) x4)) → cwv d (fun r V15 => ∃ v16 : Int, r = some (2, v16) ∧ ((i64 v16) ∧ ((i32 (x4 + 1)) ∧ wpv K_X8_places d P 42 [some (4, (p0 : Int)), some (0, x1), some (0, x2), some (0, x3), some (0, (x4 + 1))] [] G R (wr V15 (p0 + 23) x4 v16)))) 216 [(4, (p0 : Int)), (0, (V (p0 + 15) x4)), (0, x2)] G R V)))))))))) : wpv K_X8_places d P 42 [some (4, (p0 : Int)), some (0, x1), some (0, x2), some (0, x3), some (0, x4)] [] G R V := by
  refine wp_ld (i := (.iload 4)) (0, x4) rfl rfl (fun _ => rfl) rfl rfl (?_ : wpv K_X8_places d P 44 [some (4, (p0 : Int)), some (0, x1), some (0, x2), some (0, x3), some (0, x4)] [(0, x4)] G R V)
  refine wp_ld (i := (.aload_n 0)) (4, (p0 : Int)) rfl rfl (fun _ => rfl) rfl rfl (?_ : wpv K_X8_places d P 45 [some (4, (p0 : Int)), some (0, x1), some (0, x2), some (0, x3), some (0, x4)] [(4, (p0 : Int)), (0, x4)] G R V)
  refine wp_rng (fun vr1 => ?_)
  have f2 : i32 (V p0 13) := vr_f0 vr1 (ly8_o l0) rfl rfl
  replace w := w f2
  refine wp_getI (k := 13) rfl rfl rfl (ly8_o l0) rfl rfl (?_ : wpv K_X8_places d P 48 [some (4, (p0 : Int)), some (0, x1), some (0, x2), some (0, x3), some (0, x4)] [(0, (V p0 13)), (0, x4)] G R V)
  obtain ⟨s3, w⟩ := w
  refine wp_icmp (c := .ge) 95 rfl rfl rfl s3 f2 (fun q => ?_) (fun q => ?_)
  · have q : ¬ x4 < (V p0 13) := q
    replace w := w.1 q
    show wpv K_X8_places d P 95 [some (4, (p0 : Int)), some (0, x1), some (0, x2), some (0, x3), some (0, x4)] [] G R V
    refine wp_ld (i := (.aload_n 0)) (4, (p0 : Int)) rfl rfl (fun _ => rfl) rfl rfl (?_ : wpv K_X8_places d P 96 [some (4, (p0 : Int)), some (0, x1), some (0, x2), some (0, x3), some (0, x4)] [(4, (p0 : Int))] G R V)
    refine wp_ld (i := (.iload_n 1)) (0, x1) rfl rfl (fun _ => rfl) rfl rfl (?_ : wpv K_X8_places d P 97 [some (4, (p0 : Int)), some (0, x1), some (0, x2), some (0, x3), some (0, x4)] [(0, x1), (4, (p0 : Int))] G R V)
    refine wp_virt (as := [(0, x1)]) (a := p0) (st := []) _ rfl rfl rfl rfl rfl rfl (ly8_o l0) (Nat.le_of_ble_eq_true rfl) (cwv_kJ w (fun v5 V4 w => ?_))
    show wpv K_X8_places d P 100 [some (4, (p0 : Int)), some (0, x1), some (0, x2), some (0, x3), some (0, x4)] [(2, v5)] G R V4
    exact wp_rJ rfl rfl rfl w
  · have q : x4 < (V p0 13) := Decidable.not_not.mp q
    replace w := w.2 q
    show wpv K_X8_places d P 51 [some (4, (p0 : Int)), some (0, x1), some (0, x2), some (0, x3), some (0, x4)] [] G R V
    refine wp_ld (i := (.aload_n 0)) (4, (p0 : Int)) rfl rfl (fun _ => rfl) rfl rfl (?_ : wpv K_X8_places d P 52 [some (4, (p0 : Int)), some (0, x1), some (0, x2), some (0, x3), some (0, x4)] [(4, (p0 : Int))] G R V)
    refine wp_getA (k := 30) rfl rfl rfl (ly8_o l0) rfl rfl (ly8_30 l0).1 (?_ : wpv K_X8_places d P 55 [some (4, (p0 : Int)), some (0, x1), some (0, x2), some (0, x3), some (0, x4)] [(4, ((p0 + 23 : Nat) : Int))] G R V)
    refine wp_ld (i := (.iload 4)) (0, x4) rfl rfl (fun _ => rfl) rfl rfl (?_ : wpv K_X8_places d P 57 [some (4, (p0 : Int)), some (0, x1), some (0, x2), some (0, x3), some (0, x4)] [(0, x4), (4, ((p0 + 23 : Nat) : Int))] G R V)
    refine wp_ld (i := (.iload_n 3)) (0, x3) rfl rfl (fun _ => rfl) rfl rfl (?_ : wpv K_X8_places d P 58 [some (4, (p0 : Int)), some (0, x1), some (0, x2), some (0, x3), some (0, x4)] [(0, x3), (0, x4), (4, ((p0 + 23 : Nat) : Int))] G R V)
    obtain ⟨s6, w⟩ := w
    refine wp_if (c := .ne) 76 rfl rfl rfl s6 (fun q => ?_) (fun q => ?_)
    · have q : ¬ x3 = 0 := q
      replace w := w.1 q
      show wpv K_X8_places d P 76 [some (4, (p0 : Int)), some (0, x1), some (0, x2), some (0, x3), some (0, x4)] [(0, x4), (4, ((p0 + 23 : Nat) : Int))] G R V
      refine wp_ld (i := (.aload_n 0)) (4, (p0 : Int)) rfl rfl (fun _ => rfl) rfl rfl (?_ : wpv K_X8_places d P 77 [some (4, (p0 : Int)), some (0, x1), some (0, x2), some (0, x3), some (0, x4)] [(4, (p0 : Int)), (0, x4), (4, ((p0 + 23 : Nat) : Int))] G R V)
      refine wp_ld (i := (.aload_n 0)) (4, (p0 : Int)) rfl rfl (fun _ => rfl) rfl rfl (?_ : wpv K_X8_places d P 78 [some (4, (p0 : Int)), some (0, x1), some (0, x2), some (0, x3), some (0, x4)] [(4, (p0 : Int)), (4, (p0 : Int)), (0, x4), (4, ((p0 + 23 : Nat) : Int))] G R V)
      refine wp_getA (k := 20) rfl rfl rfl (ly8_o l0) rfl rfl (ly8_20 l0).1 (?_ : wpv K_X8_places d P 81 [some (4, (p0 : Int)), some (0, x1), some (0, x2), some (0, x3), some (0, x4)] [(4, ((p0 + 15 : Nat) : Int)), (4, (p0 : Int)), (0, x4), (4, ((p0 + 23 : Nat) : Int))] G R V)
      refine wp_ld (i := (.iload 4)) (0, x4) rfl rfl (fun _ => rfl) rfl rfl (?_ : wpv K_X8_places d P 83 [some (4, (p0 : Int)), some (0, x1), some (0, x2), some (0, x3), some (0, x4)] [(0, x4), (4, ((p0 + 15 : Nat) : Int)), (4, (p0 : Int)), (0, x4), (4, ((p0 + 23 : Nat) : Int))] G R V)
      obtain ⟨s7, w⟩ := w
      have f8 : i32 (V (p0 + 15) x4) := vr_a0 vr1 (ly8_20 l0).2 s7
      replace w := w f8
      refine wp_aI rfl rfl (ly8_20 l0).2 s7 (?_ : wpv K_X8_places d P 84 [some (4, (p0 : Int)), some (0, x1), some (0, x2), some (0, x3), some (0, x4)] [(0, (V (p0 + 15) x4)), (4, (p0 : Int)), (0, x4), (4, ((p0 + 23 : Nat) : Int))] G R V)
      refine wp_ld (i := (.iload_n 2)) (0, x2) rfl rfl (fun _ => rfl) rfl rfl (?_ : wpv K_X8_places d P 85 [some (4, (p0 : Int)), some (0, x1), some (0, x2), some (0, x3), some (0, x4)] [(0, x2), (0, (V (p0 + 15) x4)), (4, (p0 : Int)), (0, x4), (4, ((p0 + 23 : Nat) : Int))] G R V)
      refine wp_virt (as := [(0, (V (p0 + 15) x4)), (0, x2)]) (a := p0) (st := [(0, x4), (4, ((p0 + 23 : Nat) : Int))]) _ rfl rfl rfl rfl rfl rfl (ly8_o l0) (Nat.le_of_ble_eq_true rfl) (cwv_kJ w (fun v10 V9 w => ?_))
      show wpv K_X8_places d P 88 [some (4, (p0 : Int)), some (0, x1), some (0, x2), some (0, x3), some (0, x4)] [(2, v10), (0, x4), (4, ((p0 + 23 : Nat) : Int))] G R V9
      obtain ⟨s11, w⟩ := w
      refine wp_sJ rfl rfl (ly8_30 l0).2 s7 s11 (?_ : wpv K_X8_places d P 89 [some (4, (p0 : Int)), some (0, x1), some (0, x2), some (0, x3), some (0, x4)] [] G R (wr V9 (p0 + 23) x4 v10))
      obtain ⟨s12, w⟩ := w
      refine wp_inc (x := 4) (k := 1) (a := x4) (c := (x4 + 1)) _ rfl rfl rfl rfl s12 (by omega) rfl ?_
      show wpv K_X8_places d P 92 [some (4, (p0 : Int)), some (0, x1), some (0, x2), some (0, x3), some (0, (x4 + 1))] [] G R (wr V9 (p0 + 23) x4 v10)
      refine wp_go 42 rfl rfl rfl (?_ : wpv K_X8_places d P 42 [some (4, (p0 : Int)), some (0, x1), some (0, x2), some (0, x3), some (0, (x4 + 1))] [] G R (wr V9 (p0 + 23) x4 v10))
      exact wp_wk (wk_s (wk_s (wk_s (wk_s (wk_s wk_0))))) w
    · have q : x3 = 0 := Decidable.not_not.mp q
      replace w := w.2 q
      show wpv K_X8_places d P 61 [some (4, (p0 : Int)), some (0, x1), some (0, x2), some (0, x3), some (0, x4)] [(0, x4), (4, ((p0 + 23 : Nat) : Int))] G R V
      refine wp_ld (i := (.aload_n 0)) (4, (p0 : Int)) rfl rfl (fun _ => rfl) rfl rfl (?_ : wpv K_X8_places d P 62 [some (4, (p0 : Int)), some (0, x1), some (0, x2), some (0, x3), some (0, x4)] [(4, (p0 : Int)), (0, x4), (4, ((p0 + 23 : Nat) : Int))] G R V)
      refine wp_ld (i := (.aload_n 0)) (4, (p0 : Int)) rfl rfl (fun _ => rfl) rfl rfl (?_ : wpv K_X8_places d P 63 [some (4, (p0 : Int)), some (0, x1), some (0, x2), some (0, x3), some (0, x4)] [(4, (p0 : Int)), (4, (p0 : Int)), (0, x4), (4, ((p0 + 23 : Nat) : Int))] G R V)
      refine wp_getA (k := 20) rfl rfl rfl (ly8_o l0) rfl rfl (ly8_20 l0).1 (?_ : wpv K_X8_places d P 66 [some (4, (p0 : Int)), some (0, x1), some (0, x2), some (0, x3), some (0, x4)] [(4, ((p0 + 15 : Nat) : Int)), (4, (p0 : Int)), (0, x4), (4, ((p0 + 23 : Nat) : Int))] G R V)
      refine wp_ld (i := (.iload 4)) (0, x4) rfl rfl (fun _ => rfl) rfl rfl (?_ : wpv K_X8_places d P 68 [some (4, (p0 : Int)), some (0, x1), some (0, x2), some (0, x3), some (0, x4)] [(0, x4), (4, ((p0 + 15 : Nat) : Int)), (4, (p0 : Int)), (0, x4), (4, ((p0 + 23 : Nat) : Int))] G R V)
      obtain ⟨s13, w⟩ := w
      have f14 : i32 (V (p0 + 15) x4) := vr_a0 vr1 (ly8_20 l0).2 s13
      replace w := w f14
      refine wp_aI rfl rfl (ly8_20 l0).2 s13 (?_ : wpv K_X8_places d P 69 [some (4, (p0 : Int)), some (0, x1), some (0, x2), some (0, x3), some (0, x4)] [(0, (V (p0 + 15) x4)), (4, (p0 : Int)), (0, x4), (4, ((p0 + 23 : Nat) : Int))] G R V)
      refine wp_ld (i := (.iload_n 2)) (0, x2) rfl rfl (fun _ => rfl) rfl rfl (?_ : wpv K_X8_places d P 70 [some (4, (p0 : Int)), some (0, x1), some (0, x2), some (0, x3), some (0, x4)] [(0, x2), (0, (V (p0 + 15) x4)), (4, (p0 : Int)), (0, x4), (4, ((p0 + 23 : Nat) : Int))] G R V)
      refine wp_virt (as := [(0, (V (p0 + 15) x4)), (0, x2)]) (a := p0) (st := [(0, x4), (4, ((p0 + 23 : Nat) : Int))]) _ rfl rfl rfl rfl rfl rfl (ly8_o l0) (Nat.le_of_ble_eq_true rfl) (cwv_kJ w (fun v16 V15 w => ?_))
      show wpv K_X8_places d P 73 [some (4, (p0 : Int)), some (0, x1), some (0, x2), some (0, x3), some (0, x4)] [(2, v16), (0, x4), (4, ((p0 + 23 : Nat) : Int))] G R V15
      refine wp_go 88 rfl rfl rfl (?_ : wpv K_X8_places d P 88 [some (4, (p0 : Int)), some (0, x1), some (0, x2), some (0, x3), some (0, x4)] [(2, v16), (0, x4), (4, ((p0 + 23 : Nat) : Int))] G R V15)
      obtain ⟨s17, w⟩ := w
      refine wp_sJ rfl rfl (ly8_30 l0).2 s13 s17 (?_ : wpv K_X8_places d P 89 [some (4, (p0 : Int)), some (0, x1), some (0, x2), some (0, x3), some (0, x4)] [] G R (wr V15 (p0 + 23) x4 v16))
      obtain ⟨s18, w⟩ := w
      refine wp_inc (x := 4) (k := 1) (a := x4) (c := (x4 + 1)) _ rfl rfl rfl rfl s18 (by omega) rfl ?_
      show wpv K_X8_places d P 92 [some (4, (p0 : Int)), some (0, x1), some (0, x2), some (0, x3), some (0, (x4 + 1))] [] G R (wr V15 (p0 + 23) x4 v16)
      refine wp_go 42 rfl rfl rfl (?_ : wpv K_X8_places d P 42 [some (4, (p0 : Int)), some (0, x1), some (0, x2), some (0, x3), some (0, (x4 + 1))] [] G R (wr V15 (p0 + 23) x4 v16))
      exact wp_wk (wk_s (wk_s (wk_s (wk_s (wk_s wk_0))))) w
theorem t_X8_heaps_0 {d : Nat} {P : gP} {p0 : Nat} {x1 : Int} {G : List gS} {R V : gV} (l0 : lay8 G R p0) (w : cwv d (fun r V1 => ∃ v2 : Int, r = some (0, v2) ∧ ((i32 v2) ∧ (((¬ v2 = 0) → wpv K_X8_heaps d P 17 [some (4, (p0 : Int)), some (0, x1), some (0, 0)] [] G R V1) ∧ ((v2 = 0) → cwv d (fun r V4 => ∃ v5 : Int, r = some (2, v5) ∧ P (some (2, v5)) V4) 161 [(4, (p0 : Int)), (2, (-1))] G R V1)))) 208 [(0, x1)] G R V) : wpv K_X8_heaps d P 0 [some (4, (p0 : Int)), some (0, x1)] [] G R V := by
  refine wp_ld (i := (.iload_n 1)) (0, x1) rfl rfl (fun _ => rfl) rfl rfl (?_ : wpv K_X8_heaps d P 1 [some (4, (p0 : Int)), some (0, x1)] [(0, x1)] G R V)
  refine wp_stat (as := [(0, x1)]) (st := []) _ rfl rfl rfl (by omega) rfl rfl (Nat.le_of_ble_eq_true rfl) (cwv_kI w (fun v2 V1 w => ?_))
  show wpv K_X8_heaps d P 4 [some (4, (p0 : Int)), some (0, x1)] [(0, v2)] G R V1
  obtain ⟨s3, w⟩ := w
  refine wp_if (c := .ne) 15 rfl rfl rfl s3 (fun q => ?_) (fun q => ?_)
  · have q : ¬ v2 = 0 := q
    replace w := w.1 q
    show wpv K_X8_heaps d P 15 [some (4, (p0 : Int)), some (0, x1)] [] G R V1
    refine wp_p (i := (.iconst 0)) rfl rfl (fun _ _ _ => rfl) (?_ : wpv K_X8_heaps d P 16 [some (4, (p0 : Int)), some (0, x1)] [(0, 0)] G R V1)
    refine wp_sto (i := (.istore_n 2)) _ rfl rfl (fun _ => rfl) rfl rfl rfl ?_
    refine wp_wk (L' := [some (4, (p0 : Int)), some (0, x1), some (0, 0)]) (wk_s (wk_s (wk_s wk_0))) ?_
    show wpv K_X8_heaps d P 17 [some (4, (p0 : Int)), some (0, x1), some (0, 0)] [] G R V1
    exact wp_wk (wk_s (wk_s (wk_s wk_0))) w
  · have q : v2 = 0 := Decidable.not_not.mp q
    replace w := w.2 q
    show wpv K_X8_heaps d P 7 [some (4, (p0 : Int)), some (0, x1)] [] G R V1
    refine wp_ld (i := (.aload_n 0)) (4, (p0 : Int)) rfl rfl (fun _ => rfl) rfl rfl (?_ : wpv K_X8_heaps d P 8 [some (4, (p0 : Int)), some (0, x1)] [(4, (p0 : Int))] G R V1)
    refine wp_p (i := (.ldc2_w 287)) rfl rfl (fun _ _ _ => rfl) (?_ : wpv K_X8_heaps d P 11 [some (4, (p0 : Int)), some (0, x1)] [(2, (-1)), (4, (p0 : Int))] G R V1)
    refine wp_virt (as := [(2, (-1))]) (a := p0) (st := []) _ rfl rfl rfl rfl rfl rfl (ly8_o l0) (Nat.le_of_ble_eq_true rfl) (cwv_kJ w (fun v5 V4 w => ?_))
    show wpv K_X8_heaps d P 14 [some (4, (p0 : Int)), some (0, x1)] [(2, v5)] G R V4
    exact wp_rJ rfl rfl rfl w

theorem t_X8_heaps_17 {d : Nat} {P : gP} {p0 : Nat} {x1 : Int} {x2 : Int} {G : List gS} {R V : gV} (l0 : lay8 G R p0) (w : ((i32 (V p0 13)) → ((i32 x2) ∧ (((¬ x2 < (V p0 13)) → cwv d (fun r V4 => ∃ v5 : Int, r = some (2, v5) ∧ P (some (2, v5)) V4) 212 [(4, (p0 : Int)), (0, x1)] G R V) ∧ ((x2 < (V p0 13)) → ((0 ≤ x2 ∧ x2 < 300) ∧ wpv K_X8_heaps d P 34 [some (4, (p0 : Int)), some (0, x1), some (0, x2), some (0, 0)] [] G R (wr V (p0 + 23) x2 0))))))) : wpv K_X8_heaps d P 17 [some (4, (p0 : Int)), some (0, x1), some (0, x2)] [] G R V := by
  refine wp_ld (i := (.iload_n 2)) (0, x2) rfl rfl (fun _ => rfl) rfl rfl (?_ : wpv K_X8_heaps d P 18 [some (4, (p0 : Int)), some (0, x1), some (0, x2)] [(0, x2)] G R V)
  refine wp_ld (i := (.aload_n 0)) (4, (p0 : Int)) rfl rfl (fun _ => rfl) rfl rfl (?_ : wpv K_X8_heaps d P 19 [some (4, (p0 : Int)), some (0, x1), some (0, x2)] [(4, (p0 : Int)), (0, x2)] G R V)
  refine wp_rng (fun vr1 => ?_)
  have f2 : i32 (V p0 13) := vr_f0 vr1 (ly8_o l0) rfl rfl
  replace w := w f2
  refine wp_getI (k := 13) rfl rfl rfl (ly8_o l0) rfl rfl (?_ : wpv K_X8_heaps d P 22 [some (4, (p0 : Int)), some (0, x1), some (0, x2)] [(0, (V p0 13)), (0, x2)] G R V)
  obtain ⟨s3, w⟩ := w
  refine wp_icmp (c := .ge) 142 rfl rfl rfl s3 f2 (fun q => ?_) (fun q => ?_)
  · have q : ¬ x2 < (V p0 13) := q
    replace w := w.1 q
    show wpv K_X8_heaps d P 142 [some (4, (p0 : Int)), some (0, x1), some (0, x2)] [] G R V
    refine wp_ld (i := (.aload_n 0)) (4, (p0 : Int)) rfl rfl (fun _ => rfl) rfl rfl (?_ : wpv K_X8_heaps d P 143 [some (4, (p0 : Int)), some (0, x1), some (0, x2)] [(4, (p0 : Int))] G R V)
    refine wp_ld (i := (.iload_n 1)) (0, x1) rfl rfl (fun _ => rfl) rfl rfl (?_ : wpv K_X8_heaps d P 144 [some (4, (p0 : Int)), some (0, x1), some (0, x2)] [(0, x1), (4, (p0 : Int))] G R V)
    refine wp_virt (as := [(0, x1)]) (a := p0) (st := []) _ rfl rfl rfl rfl rfl rfl (ly8_o l0) (Nat.le_of_ble_eq_true rfl) (cwv_kJ w (fun v5 V4 w => ?_))
    show wpv K_X8_heaps d P 147 [some (4, (p0 : Int)), some (0, x1), some (0, x2)] [(2, v5)] G R V4
    exact wp_rJ rfl rfl rfl w
  · have q : x2 < (V p0 13) := Decidable.not_not.mp q
    replace w := w.2 q
    show wpv K_X8_heaps d P 25 [some (4, (p0 : Int)), some (0, x1), some (0, x2)] [] G R V
    refine wp_ld (i := (.aload_n 0)) (4, (p0 : Int)) rfl rfl (fun _ => rfl) rfl rfl (?_ : wpv K_X8_heaps d P 26 [some (4, (p0 : Int)), some (0, x1), some (0, x2)] [(4, (p0 : Int))] G R V)
    refine wp_getA (k := 30) rfl rfl rfl (ly8_o l0) rfl rfl (ly8_30 l0).1 (?_ : wpv K_X8_heaps d P 29 [some (4, (p0 : Int)), some (0, x1), some (0, x2)] [(4, ((p0 + 23 : Nat) : Int))] G R V)
    refine wp_ld (i := (.iload_n 2)) (0, x2) rfl rfl (fun _ => rfl) rfl rfl (?_ : wpv K_X8_heaps d P 30 [some (4, (p0 : Int)), some (0, x1), some (0, x2)] [(0, x2), (4, ((p0 + 23 : Nat) : Int))] G R V)
    refine wp_p (i := (.lconst 0)) rfl rfl (fun _ _ _ => rfl) (?_ : wpv K_X8_heaps d P 31 [some (4, (p0 : Int)), some (0, x1), some (0, x2)] [(2, 0), (0, x2), (4, ((p0 + 23 : Nat) : Int))] G R V)
    obtain ⟨s6, w⟩ := w
    refine wp_sJ rfl rfl (ly8_30 l0).2 s6 ⟨by omega, by omega⟩ (?_ : wpv K_X8_heaps d P 32 [some (4, (p0 : Int)), some (0, x1), some (0, x2)] [] G R (wr V (p0 + 23) x2 0))
    refine wp_p (i := (.iconst 0)) rfl rfl (fun _ _ _ => rfl) (?_ : wpv K_X8_heaps d P 33 [some (4, (p0 : Int)), some (0, x1), some (0, x2)] [(0, 0)] G R (wr V (p0 + 23) x2 0))
    refine wp_sto (i := (.istore_n 3)) _ rfl rfl (fun _ => rfl) rfl rfl rfl ?_
    refine wp_wk (L' := [some (4, (p0 : Int)), some (0, x1), some (0, x2), some (0, 0)]) (wk_s (wk_s (wk_s (wk_s wk_0)))) ?_
    show wpv K_X8_heaps d P 34 [some (4, (p0 : Int)), some (0, x1), some (0, x2), some (0, 0)] [] G R (wr V (p0 + 23) x2 0)
    exact wp_wk (wk_s (wk_s (wk_s (wk_s wk_0)))) w

theorem t_X8_heaps_34 {d : Nat} {P : gP} {p0 : Nat} {x1 : Int} {x2 : Int} {x3 : Int} {G : List gS} {R V : gV} (l0 : lay8 G R p0) (w : ((i32 (V p0 12)) → ((i32 x3) ∧ (((¬ x3 < (V p0 12)) → ((i32 (x2 + 1)) ∧ wpv K_X8_heaps d P 17 [some (4, (p0 : Int)), some (0, x1), some (0, (x2 + 1))] [] G R V)) ∧ ((x3 < (V p0 12)) → wpv K_X8_heaps d P 48 [some (4, (p0 : Int)), some (0, x1), some (0, x2), some (0, x3), some (0, 1), some (0, 0)] [] G R V))))) : wpv K_X8_heaps d P 34 [some (4, (p0 : Int)), some (0, x1), some (0, x2), some (0, x3)] [] G R V := by
  refine wp_ld (i := (.iload_n 3)) (0, x3) rfl rfl (fun _ => rfl) rfl rfl (?_ : wpv K_X8_heaps d P 35 [some (4, (p0 : Int)), some (0, x1), some (0, x2), some (0, x3)] [(0, x3)] G R V)
  refine wp_ld (i := (.aload_n 0)) (4, (p0 : Int)) rfl rfl (fun _ => rfl) rfl rfl (?_ : wpv K_X8_heaps d P 36 [some (4, (p0 : Int)), some (0, x1), some (0, x2), some (0, x3)] [(4, (p0 : Int)), (0, x3)] G R V)
  refine wp_rng (fun vr1 => ?_)
  have f2 : i32 (V p0 12) := vr_f0 vr1 (ly8_o l0) rfl rfl
  replace w := w f2
  refine wp_getI (k := 12) rfl rfl rfl (ly8_o l0) rfl rfl (?_ : wpv K_X8_heaps d P 39 [some (4, (p0 : Int)), some (0, x1), some (0, x2), some (0, x3)] [(0, (V p0 12)), (0, x3)] G R V)
  obtain ⟨s3, w⟩ := w
  refine wp_icmp (c := .ge) 136 rfl rfl rfl s3 f2 (fun q => ?_) (fun q => ?_)
  · have q : ¬ x3 < (V p0 12) := q
    replace w := w.1 q
    show wpv K_X8_heaps d P 136 [some (4, (p0 : Int)), some (0, x1), some (0, x2), some (0, x3)] [] G R V
    obtain ⟨s4, w⟩ := w
    refine wp_inc (x := 2) (k := 1) (a := x2) (c := (x2 + 1)) _ rfl rfl rfl rfl s4 (by omega) rfl ?_
    show wpv K_X8_heaps d P 139 [some (4, (p0 : Int)), some (0, x1), some (0, (x2 + 1)), some (0, x3)] [] G R V
    refine wp_go 17 rfl rfl rfl (?_ : wpv K_X8_heaps d P 17 [some (4, (p0 : Int)), some (0, x1), some (0, (x2 + 1)), some (0, x3)] [] G R V)
    exact wp_wk (wk_s (wk_s (wk_s wk_0))) w
  · have q : x3 < (V p0 12) := Decidable.not_not.mp q
    replace w := w.2 q
    show wpv K_X8_heaps d P 42 [some (4, (p0 : Int)), some (0, x1), some (0, x2), some (0, x3)] [] G R V
    refine wp_p (i := (.iconst 1)) rfl rfl (fun _ _ _ => rfl) (?_ : wpv K_X8_heaps d P 43 [some (4, (p0 : Int)), some (0, x1), some (0, x2), some (0, x3)] [(0, 1)] G R V)
    refine wp_sto (i := (.istore 4)) _ rfl rfl (fun _ => rfl) rfl rfl rfl ?_
    refine wp_wk (L' := [some (4, (p0 : Int)), some (0, x1), some (0, x2), some (0, x3), some (0, 1)]) (wk_s (wk_s (wk_s (wk_s (wk_s wk_0))))) ?_
    show wpv K_X8_heaps d P 45 [some (4, (p0 : Int)), some (0, x1), some (0, x2), some (0, x3), some (0, 1)] [] G R V
    refine wp_p (i := (.iconst 0)) rfl rfl (fun _ _ _ => rfl) (?_ : wpv K_X8_heaps d P 46 [some (4, (p0 : Int)), some (0, x1), some (0, x2), some (0, x3), some (0, 1)] [(0, 0)] G R V)
    refine wp_sto (i := (.istore 5)) _ rfl rfl (fun _ => rfl) rfl rfl rfl ?_
    refine wp_wk (L' := [some (4, (p0 : Int)), some (0, x1), some (0, x2), some (0, x3), some (0, 1), some (0, 0)]) (wk_s (wk_s (wk_s (wk_s (wk_s (wk_s wk_0)))))) ?_
    show wpv K_X8_heaps d P 48 [some (4, (p0 : Int)), some (0, x1), some (0, x2), some (0, x3), some (0, 1), some (0, 0)] [] G R V
    exact wp_wk (wk_s (wk_s (wk_s (wk_s (wk_s (wk_s wk_0)))))) w

theorem t_X8_heaps_48 {d : Nat} {P : gP} {p0 : Nat} {x1 : Int} {x2 : Int} {x3 : Int} {x4 : Int} {x5 : Int} {G : List gS} {R V : gV} (l0 : lay8 G R p0) (w : ((i32 (V p0 5)) → ((i32 x5) ∧ (((¬ x5 < (V p0 5)) → ((0 ≤ x2 ∧ x2 < 300) ∧ ((i64 (V (p0 + 23) x2)) → ((i32 x4) ∧ (((x4 = 0) → ((i32 (x3 + 1)) ∧ wpv K_X8_heaps d P 34 [some (4, (p0 : Int)), some (0, x1), some (0, x2), some (0, (x3 + 1))] [] G R (wr V (p0 + 23) x2 ((jadd ((V (p0 + 23) x2)) 0))))) ∧ ((¬ x4 = 0) → ((i32 (x3 + 1)) ∧ wpv K_X8_heaps d P 34 [some (4, (p0 : Int)), some (0, x1), some (0, x2), some (0, (x3 + 1))] [] G R (wr V (p0 + 23) x2 ((jadd ((V (p0 + 23) x2)) 1)))))))))) ∧ ((x5 < (V p0 5)) → ((i32 x4) ∧ (((x4 = 0) → ((i32 (x5 + 1)) ∧ wpv K_X8_heaps d P 48 [some (4, (p0 : Int)), some (0, x1), some (0, x2), some (0, x3), some (0, 0), some (0, (x5 + 1))] [] G R V)) ∧ ((¬ x4 = 0) → ((0 ≤ x2 ∧ x2 < 300) ∧ ((i32 (V (p0 + 15) x2)) → ((i32 (120 * (V (p0 + 15) x2))) ∧ ((i32 ((120 * (V (p0 + 15) x2)) + x5)) ∧ ((0 ≤ ((120 * (V (p0 + 15) x2)) + x5) ∧ ((120 * (V (p0 + 15) x2)) + x5) < 36120) ∧ (((V (p0 + 9) (((120 * (V (p0 + 15) x2)) + x5))) = 0 ∨ (V (p0 + 9) (((120 * (V (p0 + 15) x2)) + x5))) = 1) → ((((V (p0 + 9) (((120 * (V (p0 + 15) x2)) + x5))) = 0) → ((i32 (x5 + 1)) ∧ wpv K_X8_heaps d P 48 [some (4, (p0 : Int)), some (0, x1), some (0, x2), some (0, x3), some (0, 1), some (0, (x5 + 1))] [] G R V)) ∧ ((¬ (V (p0 + 9) (((120 * (V (p0 + 15) x2)) + x5))) = 0) → ((i32 (120 * x3)) ∧ ((i32 ((120 * x3) + x5)) ∧ ((0 ≤ ((120 * x3) + x5) ∧ ((120 * x3) + x5) < 36000) ∧ ((i32 (V (p0 + 13) (((120 * x3) + x5)))) → ((i32 x3) ∧ (((¬ (V (p0 + 13) (((120 * x3) + x5))) = x3) → ((i32 (x5 + 1)) ∧ wpv K_X8_heaps d P 48 [some (4, (p0 : Int)), some (0, x1), some (0, x2), some (0, x3), some (0, 0), some (0, (x5 + 1))] [] G R V)) ∧ (((V (p0 + 13) (((120 * x3) + x5))) = x3) → ((i32 (x5 + 1)) ∧ wpv K_X8_heaps d P 48 [some (4, (p0 : Int)), some (0, x1), some (0, x2), some (0, x3), some (0, 1), some (0, (x5 + 1))] [] G R V)))))))))))))))))))))))) : wpv K_X8_heaps d P 48 [some (4, (p0 : Int)), some (0, x1), some (0, x2), some (0, x3), some (0, x4), some (0, x5)] [] G R V := by
  refine wp_ld (i := (.iload 5)) (0, x5) rfl rfl (fun _ => rfl) rfl rfl (?_ : wpv K_X8_heaps d P 50 [some (4, (p0 : Int)), some (0, x1), some (0, x2), some (0, x3), some (0, x4), some (0, x5)] [(0, x5)] G R V)
  refine wp_ld (i := (.aload_n 0)) (4, (p0 : Int)) rfl rfl (fun _ => rfl) rfl rfl (?_ : wpv K_X8_heaps d P 51 [some (4, (p0 : Int)), some (0, x1), some (0, x2), some (0, x3), some (0, x4), some (0, x5)] [(4, (p0 : Int)), (0, x5)] G R V)
  refine wp_rng (fun vr1 => ?_)
  have f2 : i32 (V p0 5) := vr_f0 vr1 (ly8_o l0) rfl rfl
  replace w := w f2
  refine wp_getI (k := 5) rfl rfl rfl (ly8_o l0) rfl rfl (?_ : wpv K_X8_heaps d P 54 [some (4, (p0 : Int)), some (0, x1), some (0, x2), some (0, x3), some (0, x4), some (0, x5)] [(0, (V p0 5)), (0, x5)] G R V)
  obtain ⟨s3, w⟩ := w
  refine wp_icmp (c := .ge) 111 rfl rfl rfl s3 f2 (fun q => ?_) (fun q => ?_)
  · have q : ¬ x5 < (V p0 5) := q
    replace w := w.1 q
    show wpv K_X8_heaps d P 111 [some (4, (p0 : Int)), some (0, x1), some (0, x2), some (0, x3), some (0, x4), some (0, x5)] [] G R V
    refine wp_ld (i := (.aload_n 0)) (4, (p0 : Int)) rfl rfl (fun _ => rfl) rfl rfl (?_ : wpv K_X8_heaps d P 112 [some (4, (p0 : Int)), some (0, x1), some (0, x2), some (0, x3), some (0, x4), some (0, x5)] [(4, (p0 : Int))] G R V)
    refine wp_getA (k := 30) rfl rfl rfl (ly8_o l0) rfl rfl (ly8_30 l0).1 (?_ : wpv K_X8_heaps d P 115 [some (4, (p0 : Int)), some (0, x1), some (0, x2), some (0, x3), some (0, x4), some (0, x5)] [(4, ((p0 + 23 : Nat) : Int))] G R V)
    refine wp_ld (i := (.iload_n 2)) (0, x2) rfl rfl (fun _ => rfl) rfl rfl (?_ : wpv K_X8_heaps d P 116 [some (4, (p0 : Int)), some (0, x1), some (0, x2), some (0, x3), some (0, x4), some (0, x5)] [(0, x2), (4, ((p0 + 23 : Nat) : Int))] G R V)
    refine wp_p (i := .dup2) rfl rfl (fun _ _ _ => rfl) (?_ : wpv K_X8_heaps d P 117 [some (4, (p0 : Int)), some (0, x1), some (0, x2), some (0, x3), some (0, x4), some (0, x5)] [(0, x2), (4, ((p0 + 23 : Nat) : Int)), (0, x2), (4, ((p0 + 23 : Nat) : Int))] G R V)
    obtain ⟨s4, w⟩ := w
    have f5 : i64 (V (p0 + 23) x2) := vr_a1 vr1 (ly8_30 l0).2 s4
    replace w := w f5
    refine wp_aJ rfl rfl (ly8_30 l0).2 s4 (?_ : wpv K_X8_heaps d P 118 [some (4, (p0 : Int)), some (0, x1), some (0, x2), some (0, x3), some (0, x4), some (0, x5)] [(2, (V (p0 + 23) x2)), (0, x2), (4, ((p0 + 23 : Nat) : Int))] G R V)
    refine wp_ld (i := (.iload 4)) (0, x4) rfl rfl (fun _ => rfl) rfl rfl (?_ : wpv K_X8_heaps d P 120 [some (4, (p0 : Int)), some (0, x1), some (0, x2), some (0, x3), some (0, x4), some (0, x5)] [(0, x4), (2, (V (p0 + 23) x2)), (0, x2), (4, ((p0 + 23 : Nat) : Int))] G R V)
    obtain ⟨s6, w⟩ := w
    refine wp_if (c := .eq) 127 rfl rfl rfl s6 (fun q => ?_) (fun q => ?_)
    · have q : x4 = 0 := q
      replace w := w.1 q
      show wpv K_X8_heaps d P 127 [some (4, (p0 : Int)), some (0, x1), some (0, x2), some (0, x3), some (0, x4), some (0, x5)] [(2, (V (p0 + 23) x2)), (0, x2), (4, ((p0 + 23 : Nat) : Int))] G R V
      refine wp_p (i := (.lconst 0)) rfl rfl (fun _ _ _ => rfl) (?_ : wpv K_X8_heaps d P 128 [some (4, (p0 : Int)), some (0, x1), some (0, x2), some (0, x3), some (0, x4), some (0, x5)] [(2, 0), (2, (V (p0 + 23) x2)), (0, x2), (4, ((p0 + 23 : Nat) : Int))] G R V)
      refine wp_jadd rfl rfl (?_ : wpv K_X8_heaps d P 129 [some (4, (p0 : Int)), some (0, x1), some (0, x2), some (0, x3), some (0, x4), some (0, x5)] [(2, (jadd ((V (p0 + 23) x2)) 0)), (0, x2), (4, ((p0 + 23 : Nat) : Int))] G R V)
      refine wp_sJ rfl rfl (ly8_30 l0).2 s4 (t64 _) (?_ : wpv K_X8_heaps d P 130 [some (4, (p0 : Int)), some (0, x1), some (0, x2), some (0, x3), some (0, x4), some (0, x5)] [] G R (wr V (p0 + 23) x2 ((jadd ((V (p0 + 23) x2)) 0))))
      obtain ⟨s7, w⟩ := w
      refine wp_inc (x := 3) (k := 1) (a := x3) (c := (x3 + 1)) _ rfl rfl rfl rfl s7 (by omega) rfl ?_
      show wpv K_X8_heaps d P 133 [some (4, (p0 : Int)), some (0, x1), some (0, x2), some (0, (x3 + 1)), some (0, x4), some (0, x5)] [] G R (wr V (p0 + 23) x2 ((jadd ((V (p0 + 23) x2)) 0)))
      refine wp_go 34 rfl rfl rfl (?_ : wpv K_X8_heaps d P 34 [some (4, (p0 : Int)), some (0, x1), some (0, x2), some (0, (x3 + 1)), some (0, x4), some (0, x5)] [] G R (wr V (p0 + 23) x2 ((jadd ((V (p0 + 23) x2)) 0))))
      exact wp_wk (wk_s (wk_s (wk_s (wk_s wk_0)))) w
    · have q : ¬ x4 = 0 := q
      replace w := w.2 q
      show wpv K_X8_heaps d P 123 [some (4, (p0 : Int)), some (0, x1), some (0, x2), some (0, x3), some (0, x4), some (0, x5)] [(2, (V (p0 + 23) x2)), (0, x2), (4, ((p0 + 23 : Nat) : Int))] G R V
      refine wp_p (i := (.lconst 1)) rfl rfl (fun _ _ _ => rfl) (?_ : wpv K_X8_heaps d P 124 [some (4, (p0 : Int)), some (0, x1), some (0, x2), some (0, x3), some (0, x4), some (0, x5)] [(2, 1), (2, (V (p0 + 23) x2)), (0, x2), (4, ((p0 + 23 : Nat) : Int))] G R V)
      refine wp_go 128 rfl rfl rfl (?_ : wpv K_X8_heaps d P 128 [some (4, (p0 : Int)), some (0, x1), some (0, x2), some (0, x3), some (0, x4), some (0, x5)] [(2, 1), (2, (V (p0 + 23) x2)), (0, x2), (4, ((p0 + 23 : Nat) : Int))] G R V)
      refine wp_jadd rfl rfl (?_ : wpv K_X8_heaps d P 129 [some (4, (p0 : Int)), some (0, x1), some (0, x2), some (0, x3), some (0, x4), some (0, x5)] [(2, (jadd ((V (p0 + 23) x2)) 1)), (0, x2), (4, ((p0 + 23 : Nat) : Int))] G R V)
      refine wp_sJ rfl rfl (ly8_30 l0).2 s4 (t64 _) (?_ : wpv K_X8_heaps d P 130 [some (4, (p0 : Int)), some (0, x1), some (0, x2), some (0, x3), some (0, x4), some (0, x5)] [] G R (wr V (p0 + 23) x2 ((jadd ((V (p0 + 23) x2)) 1))))
      obtain ⟨s8, w⟩ := w
      refine wp_inc (x := 3) (k := 1) (a := x3) (c := (x3 + 1)) _ rfl rfl rfl rfl s8 (by omega) rfl ?_
      show wpv K_X8_heaps d P 133 [some (4, (p0 : Int)), some (0, x1), some (0, x2), some (0, (x3 + 1)), some (0, x4), some (0, x5)] [] G R (wr V (p0 + 23) x2 ((jadd ((V (p0 + 23) x2)) 1)))
      refine wp_go 34 rfl rfl rfl (?_ : wpv K_X8_heaps d P 34 [some (4, (p0 : Int)), some (0, x1), some (0, x2), some (0, (x3 + 1)), some (0, x4), some (0, x5)] [] G R (wr V (p0 + 23) x2 ((jadd ((V (p0 + 23) x2)) 1))))
      exact wp_wk (wk_s (wk_s (wk_s (wk_s wk_0)))) w
  · have q : x5 < (V p0 5) := Decidable.not_not.mp q
    replace w := w.2 q
    show wpv K_X8_heaps d P 57 [some (4, (p0 : Int)), some (0, x1), some (0, x2), some (0, x3), some (0, x4), some (0, x5)] [] G R V
    refine wp_ld (i := (.iload 4)) (0, x4) rfl rfl (fun _ => rfl) rfl rfl (?_ : wpv K_X8_heaps d P 59 [some (4, (p0 : Int)), some (0, x1), some (0, x2), some (0, x3), some (0, x4), some (0, x5)] [(0, x4)] G R V)
    obtain ⟨s9, w⟩ := w
    refine wp_if (c := .eq) 102 rfl rfl rfl s9 (fun q => ?_) (fun q => ?_)
    · have q : x4 = 0 := q
      replace w := w.1 q
      show wpv K_X8_heaps d P 102 [some (4, (p0 : Int)), some (0, x1), some (0, x2), some (0, x3), some (0, x4), some (0, x5)] [] G R V
      refine wp_p (i := (.iconst 0)) rfl rfl (fun _ _ _ => rfl) (?_ : wpv K_X8_heaps d P 103 [some (4, (p0 : Int)), some (0, x1), some (0, x2), some (0, x3), some (0, x4), some (0, x5)] [(0, 0)] G R V)
      refine wp_sto (i := (.istore 4)) _ rfl rfl (fun _ => rfl) rfl rfl rfl ?_
      refine wp_wk (L' := [some (4, (p0 : Int)), some (0, x1), some (0, x2), some (0, x3), some (0, 0), some (0, x5)]) (wk_s (wk_s (wk_s (wk_s (wk_s (wk_s wk_0)))))) ?_
      show wpv K_X8_heaps d P 105 [some (4, (p0 : Int)), some (0, x1), some (0, x2), some (0, x3), some (0, 0), some (0, x5)] [] G R V
      obtain ⟨s10, w⟩ := w
      refine wp_inc (x := 5) (k := 1) (a := x5) (c := (x5 + 1)) _ rfl rfl rfl rfl s10 (by omega) rfl ?_
      show wpv K_X8_heaps d P 108 [some (4, (p0 : Int)), some (0, x1), some (0, x2), some (0, x3), some (0, 0), some (0, (x5 + 1))] [] G R V
      refine wp_go 48 rfl rfl rfl (?_ : wpv K_X8_heaps d P 48 [some (4, (p0 : Int)), some (0, x1), some (0, x2), some (0, x3), some (0, 0), some (0, (x5 + 1))] [] G R V)
      exact wp_wk (wk_s (wk_s (wk_s (wk_s (wk_s (wk_s wk_0)))))) w
    · have q : ¬ x4 = 0 := q
      replace w := w.2 q
      show wpv K_X8_heaps d P 62 [some (4, (p0 : Int)), some (0, x1), some (0, x2), some (0, x3), some (0, x4), some (0, x5)] [] G R V
      refine wp_ld (i := (.aload_n 0)) (4, (p0 : Int)) rfl rfl (fun _ => rfl) rfl rfl (?_ : wpv K_X8_heaps d P 63 [some (4, (p0 : Int)), some (0, x1), some (0, x2), some (0, x3), some (0, x4), some (0, x5)] [(4, (p0 : Int))] G R V)
      refine wp_getA (k := 14) rfl rfl rfl (ly8_o l0) rfl rfl (ly8_14 l0).1 (?_ : wpv K_X8_heaps d P 66 [some (4, (p0 : Int)), some (0, x1), some (0, x2), some (0, x3), some (0, x4), some (0, x5)] [(4, ((p0 + 9 : Nat) : Int))] G R V)
      refine wp_p (i := (.bipush 120)) rfl rfl (fun _ _ _ => rfl) (?_ : wpv K_X8_heaps d P 68 [some (4, (p0 : Int)), some (0, x1), some (0, x2), some (0, x3), some (0, x4), some (0, x5)] [(0, 120), (4, ((p0 + 9 : Nat) : Int))] G R V)
      refine wp_ld (i := (.aload_n 0)) (4, (p0 : Int)) rfl rfl (fun _ => rfl) rfl rfl (?_ : wpv K_X8_heaps d P 69 [some (4, (p0 : Int)), some (0, x1), some (0, x2), some (0, x3), some (0, x4), some (0, x5)] [(4, (p0 : Int)), (0, 120), (4, ((p0 + 9 : Nat) : Int))] G R V)
      refine wp_getA (k := 20) rfl rfl rfl (ly8_o l0) rfl rfl (ly8_20 l0).1 (?_ : wpv K_X8_heaps d P 72 [some (4, (p0 : Int)), some (0, x1), some (0, x2), some (0, x3), some (0, x4), some (0, x5)] [(4, ((p0 + 15 : Nat) : Int)), (0, 120), (4, ((p0 + 9 : Nat) : Int))] G R V)
      refine wp_ld (i := (.iload_n 2)) (0, x2) rfl rfl (fun _ => rfl) rfl rfl (?_ : wpv K_X8_heaps d P 73 [some (4, (p0 : Int)), some (0, x1), some (0, x2), some (0, x3), some (0, x4), some (0, x5)] [(0, x2), (4, ((p0 + 15 : Nat) : Int)), (0, 120), (4, ((p0 + 9 : Nat) : Int))] G R V)
      obtain ⟨s11, w⟩ := w
      have f12 : i32 (V (p0 + 15) x2) := vr_a0 vr1 (ly8_20 l0).2 s11
      replace w := w f12
      refine wp_aI rfl rfl (ly8_20 l0).2 s11 (?_ : wpv K_X8_heaps d P 74 [some (4, (p0 : Int)), some (0, x1), some (0, x2), some (0, x3), some (0, x4), some (0, x5)] [(0, (V (p0 + 15) x2)), (0, 120), (4, ((p0 + 9 : Nat) : Int))] G R V)
      obtain ⟨s13, w⟩ := w
      refine wp_xmul rfl rfl s13 (?_ : wpv K_X8_heaps d P 75 [some (4, (p0 : Int)), some (0, x1), some (0, x2), some (0, x3), some (0, x4), some (0, x5)] [(0, (120 * (V (p0 + 15) x2))), (4, ((p0 + 9 : Nat) : Int))] G R V)
      refine wp_ld (i := (.iload 5)) (0, x5) rfl rfl (fun _ => rfl) rfl rfl (?_ : wpv K_X8_heaps d P 77 [some (4, (p0 : Int)), some (0, x1), some (0, x2), some (0, x3), some (0, x4), some (0, x5)] [(0, x5), (0, (120 * (V (p0 + 15) x2))), (4, ((p0 + 9 : Nat) : Int))] G R V)
      obtain ⟨s14, w⟩ := w
      refine wp_xadd rfl rfl s14 (?_ : wpv K_X8_heaps d P 78 [some (4, (p0 : Int)), some (0, x1), some (0, x2), some (0, x3), some (0, x4), some (0, x5)] [(0, ((120 * (V (p0 + 15) x2)) + x5)), (4, ((p0 + 9 : Nat) : Int))] G R V)
      obtain ⟨s15, w⟩ := w
      have f16 : (V (p0 + 9) (((120 * (V (p0 + 15) x2)) + x5))) = 0 ∨ (V (p0 + 9) (((120 * (V (p0 + 15) x2)) + x5))) = 1 := vr_a2 vr1 (ly8_14 l0).2 s15
      replace w := w f16
      have f17 : i32 (V (p0 + 9) (((120 * (V (p0 + 15) x2)) + x5))) := by unfold i32; omega
      refine wp_aB rfl rfl (ly8_14 l0).2 s15 (?_ : wpv K_X8_heaps d P 79 [some (4, (p0 : Int)), some (0, x1), some (0, x2), some (0, x3), some (0, x4), some (0, x5)] [(0, (V (p0 + 9) (((120 * (V (p0 + 15) x2)) + x5))))] G R V)
      refine wp_if (c := .eq) 98 rfl rfl rfl f17 (fun q => ?_) (fun q => ?_)
      · have q : (V (p0 + 9) (((120 * (V (p0 + 15) x2)) + x5))) = 0 := q
        replace w := w.1 q
        show wpv K_X8_heaps d P 98 [some (4, (p0 : Int)), some (0, x1), some (0, x2), some (0, x3), some (0, x4), some (0, x5)] [] G R V
        refine wp_p (i := (.iconst 1)) rfl rfl (fun _ _ _ => rfl) (?_ : wpv K_X8_heaps d P 99 [some (4, (p0 : Int)), some (0, x1), some (0, x2), some (0, x3), some (0, x4), some (0, x5)] [(0, 1)] G R V)
        refine wp_go 103 rfl rfl rfl (?_ : wpv K_X8_heaps d P 103 [some (4, (p0 : Int)), some (0, x1), some (0, x2), some (0, x3), some (0, x4), some (0, x5)] [(0, 1)] G R V)
        refine wp_sto (i := (.istore 4)) _ rfl rfl (fun _ => rfl) rfl rfl rfl ?_
        refine wp_wk (L' := [some (4, (p0 : Int)), some (0, x1), some (0, x2), some (0, x3), some (0, 1), some (0, x5)]) (wk_s (wk_s (wk_s (wk_s (wk_s (wk_s wk_0)))))) ?_
        show wpv K_X8_heaps d P 105 [some (4, (p0 : Int)), some (0, x1), some (0, x2), some (0, x3), some (0, 1), some (0, x5)] [] G R V
        obtain ⟨s18, w⟩ := w
        refine wp_inc (x := 5) (k := 1) (a := x5) (c := (x5 + 1)) _ rfl rfl rfl rfl s18 (by omega) rfl ?_
        show wpv K_X8_heaps d P 108 [some (4, (p0 : Int)), some (0, x1), some (0, x2), some (0, x3), some (0, 1), some (0, (x5 + 1))] [] G R V
        refine wp_go 48 rfl rfl rfl (?_ : wpv K_X8_heaps d P 48 [some (4, (p0 : Int)), some (0, x1), some (0, x2), some (0, x3), some (0, 1), some (0, (x5 + 1))] [] G R V)
        exact wp_wk (wk_s (wk_s (wk_s (wk_s (wk_s (wk_s wk_0)))))) w
      · have q : ¬ (V (p0 + 9) (((120 * (V (p0 + 15) x2)) + x5))) = 0 := q
        replace w := w.2 q
        show wpv K_X8_heaps d P 82 [some (4, (p0 : Int)), some (0, x1), some (0, x2), some (0, x3), some (0, x4), some (0, x5)] [] G R V
        refine wp_ld (i := (.aload_n 0)) (4, (p0 : Int)) rfl rfl (fun _ => rfl) rfl rfl (?_ : wpv K_X8_heaps d P 83 [some (4, (p0 : Int)), some (0, x1), some (0, x2), some (0, x3), some (0, x4), some (0, x5)] [(4, (p0 : Int))] G R V)
        refine wp_getA (k := 18) rfl rfl rfl (ly8_o l0) rfl rfl (ly8_18 l0).1 (?_ : wpv K_X8_heaps d P 86 [some (4, (p0 : Int)), some (0, x1), some (0, x2), some (0, x3), some (0, x4), some (0, x5)] [(4, ((p0 + 13 : Nat) : Int))] G R V)
        refine wp_p (i := (.bipush 120)) rfl rfl (fun _ _ _ => rfl) (?_ : wpv K_X8_heaps d P 88 [some (4, (p0 : Int)), some (0, x1), some (0, x2), some (0, x3), some (0, x4), some (0, x5)] [(0, 120), (4, ((p0 + 13 : Nat) : Int))] G R V)
        refine wp_ld (i := (.iload_n 3)) (0, x3) rfl rfl (fun _ => rfl) rfl rfl (?_ : wpv K_X8_heaps d P 89 [some (4, (p0 : Int)), some (0, x1), some (0, x2), some (0, x3), some (0, x4), some (0, x5)] [(0, x3), (0, 120), (4, ((p0 + 13 : Nat) : Int))] G R V)
        obtain ⟨s19, w⟩ := w
        refine wp_xmul rfl rfl s19 (?_ : wpv K_X8_heaps d P 90 [some (4, (p0 : Int)), some (0, x1), some (0, x2), some (0, x3), some (0, x4), some (0, x5)] [(0, (120 * x3)), (4, ((p0 + 13 : Nat) : Int))] G R V)
        refine wp_ld (i := (.iload 5)) (0, x5) rfl rfl (fun _ => rfl) rfl rfl (?_ : wpv K_X8_heaps d P 92 [some (4, (p0 : Int)), some (0, x1), some (0, x2), some (0, x3), some (0, x4), some (0, x5)] [(0, x5), (0, (120 * x3)), (4, ((p0 + 13 : Nat) : Int))] G R V)
        obtain ⟨s20, w⟩ := w
        refine wp_xadd rfl rfl s20 (?_ : wpv K_X8_heaps d P 93 [some (4, (p0 : Int)), some (0, x1), some (0, x2), some (0, x3), some (0, x4), some (0, x5)] [(0, ((120 * x3) + x5)), (4, ((p0 + 13 : Nat) : Int))] G R V)
        obtain ⟨s21, w⟩ := w
        have f22 : i32 (V (p0 + 13) (((120 * x3) + x5))) := vr_a0 vr1 (ly8_18 l0).2 s21
        replace w := w f22
        refine wp_aI rfl rfl (ly8_18 l0).2 s21 (?_ : wpv K_X8_heaps d P 94 [some (4, (p0 : Int)), some (0, x1), some (0, x2), some (0, x3), some (0, x4), some (0, x5)] [(0, (V (p0 + 13) (((120 * x3) + x5))))] G R V)
        refine wp_ld (i := (.iload_n 3)) (0, x3) rfl rfl (fun _ => rfl) rfl rfl (?_ : wpv K_X8_heaps d P 95 [some (4, (p0 : Int)), some (0, x1), some (0, x2), some (0, x3), some (0, x4), some (0, x5)] [(0, x3), (0, (V (p0 + 13) (((120 * x3) + x5))))] G R V)
        obtain ⟨s23, w⟩ := w
        refine wp_icmp (c := .ne) 102 rfl rfl rfl f22 s23 (fun q => ?_) (fun q => ?_)
        · have q : ¬ (V (p0 + 13) (((120 * x3) + x5))) = x3 := q
          replace w := w.1 q
          show wpv K_X8_heaps d P 102 [some (4, (p0 : Int)), some (0, x1), some (0, x2), some (0, x3), some (0, x4), some (0, x5)] [] G R V
          refine wp_p (i := (.iconst 0)) rfl rfl (fun _ _ _ => rfl) (?_ : wpv K_X8_heaps d P 103 [some (4, (p0 : Int)), some (0, x1), some (0, x2), some (0, x3), some (0, x4), some (0, x5)] [(0, 0)] G R V)
          refine wp_sto (i := (.istore 4)) _ rfl rfl (fun _ => rfl) rfl rfl rfl ?_
          refine wp_wk (L' := [some (4, (p0 : Int)), some (0, x1), some (0, x2), some (0, x3), some (0, 0), some (0, x5)]) (wk_s (wk_s (wk_s (wk_s (wk_s (wk_s wk_0)))))) ?_
          show wpv K_X8_heaps d P 105 [some (4, (p0 : Int)), some (0, x1), some (0, x2), some (0, x3), some (0, 0), some (0, x5)] [] G R V
          obtain ⟨s24, w⟩ := w
          refine wp_inc (x := 5) (k := 1) (a := x5) (c := (x5 + 1)) _ rfl rfl rfl rfl s24 (by omega) rfl ?_
          show wpv K_X8_heaps d P 108 [some (4, (p0 : Int)), some (0, x1), some (0, x2), some (0, x3), some (0, 0), some (0, (x5 + 1))] [] G R V
          refine wp_go 48 rfl rfl rfl (?_ : wpv K_X8_heaps d P 48 [some (4, (p0 : Int)), some (0, x1), some (0, x2), some (0, x3), some (0, 0), some (0, (x5 + 1))] [] G R V)
          exact wp_wk (wk_s (wk_s (wk_s (wk_s (wk_s (wk_s wk_0)))))) w
        · have q : (V (p0 + 13) (((120 * x3) + x5))) = x3 := Decidable.not_not.mp q
          replace w := w.2 q
          show wpv K_X8_heaps d P 98 [some (4, (p0 : Int)), some (0, x1), some (0, x2), some (0, x3), some (0, x4), some (0, x5)] [] G R V
          refine wp_p (i := (.iconst 1)) rfl rfl (fun _ _ _ => rfl) (?_ : wpv K_X8_heaps d P 99 [some (4, (p0 : Int)), some (0, x1), some (0, x2), some (0, x3), some (0, x4), some (0, x5)] [(0, 1)] G R V)
          refine wp_go 103 rfl rfl rfl (?_ : wpv K_X8_heaps d P 103 [some (4, (p0 : Int)), some (0, x1), some (0, x2), some (0, x3), some (0, x4), some (0, x5)] [(0, 1)] G R V)
          refine wp_sto (i := (.istore 4)) _ rfl rfl (fun _ => rfl) rfl rfl rfl ?_
          refine wp_wk (L' := [some (4, (p0 : Int)), some (0, x1), some (0, x2), some (0, x3), some (0, 1), some (0, x5)]) (wk_s (wk_s (wk_s (wk_s (wk_s (wk_s wk_0)))))) ?_
          show wpv K_X8_heaps d P 105 [some (4, (p0 : Int)), some (0, x1), some (0, x2), some (0, x3), some (0, 1), some (0, x5)] [] G R V
          obtain ⟨s25, w⟩ := w
          refine wp_inc (x := 5) (k := 1) (a := x5) (c := (x5 + 1)) _ rfl rfl rfl rfl s25 (by omega) rfl ?_
          show wpv K_X8_heaps d P 108 [some (4, (p0 : Int)), some (0, x1), some (0, x2), some (0, x3), some (0, 1), some (0, (x5 + 1))] [] G R V
          refine wp_go 48 rfl rfl rfl (?_ : wpv K_X8_heaps d P 48 [some (4, (p0 : Int)), some (0, x1), some (0, x2), some (0, x3), some (0, 1), some (0, (x5 + 1))] [] G R V)
          exact wp_wk (wk_s (wk_s (wk_s (wk_s (wk_s (wk_s wk_0)))))) w
theorem t_X8_times_0 {d : Nat} {P : gP} {x0 : Int} {x2 : Int} {G : List gS} {R V : gV}  (w : ((i64 x0) ∧ (((¬ 0 < x0) → P (some (2, (jmul x0 x2))) V) ∧ ((0 < x0) → ((x0 ≠ 0) ∧ ((i64 x2) ∧ (((¬ (jdiv 1000000000000000 x0) < x2) → P (some (2, (jmul x0 x2))) V) ∧ (((jdiv 1000000000000000 x0) < x2) → P (some (2, 1000000000000001)) V)))))))) : wpv K_X8_times d P 0 [some (2, x0), none, some (2, x2)] [] G R V := by
  refine wp_ld (i := (.lload_n 0)) (2, x0) rfl rfl (fun _ => rfl) rfl rfl (?_ : wpv K_X8_times d P 1 [some (2, x0), none, some (2, x2)] [(2, x0)] G R V)
  refine wp_p (i := (.lconst 0)) rfl rfl (fun _ _ _ => rfl) (?_ : wpv K_X8_times d P 2 [some (2, x0), none, some (2, x2)] [(2, 0), (2, x0)] G R V)
  obtain ⟨s1, w⟩ := w
  refine wp_lcmp rfl rfl s1 ⟨by omega, by omega⟩ (?_ : wpv K_X8_times d P 3 [some (2, x0), none, some (2, x2)] [(0, sg x0 0)] G R V)
  refine wp_if (c := .le) 22 rfl rfl rfl (sg32 _ _) (fun q => ?_) (fun q => ?_)
  · have q : ¬ 0 < x0 := fun z => q (sg_gt.mpr z)
    replace w := w.1 q
    show wpv K_X8_times d P 22 [some (2, x0), none, some (2, x2)] [] G R V
    refine wp_ld (i := (.lload_n 0)) (2, x0) rfl rfl (fun _ => rfl) rfl rfl (?_ : wpv K_X8_times d P 23 [some (2, x0), none, some (2, x2)] [(2, x0)] G R V)
    refine wp_ld (i := (.lload_n 2)) (2, x2) rfl rfl (fun _ => rfl) rfl rfl (?_ : wpv K_X8_times d P 24 [some (2, x0), none, some (2, x2)] [(2, x2), (2, x0)] G R V)
    refine wp_jmul rfl rfl (?_ : wpv K_X8_times d P 25 [some (2, x0), none, some (2, x2)] [(2, (jmul x0 x2))] G R V)
    exact wp_rJ rfl rfl rfl w
  · have q : 0 < x0 := sg_gt.mp (Decidable.not_not.mp q)
    replace w := w.2 q
    show wpv K_X8_times d P 6 [some (2, x0), none, some (2, x2)] [] G R V
    refine wp_ld (i := (.lload_n 2)) (2, x2) rfl rfl (fun _ => rfl) rfl rfl (?_ : wpv K_X8_times d P 7 [some (2, x0), none, some (2, x2)] [(2, x2)] G R V)
    refine wp_p (i := (.ldc2_w 303)) rfl rfl (fun _ _ _ => rfl) (?_ : wpv K_X8_times d P 10 [some (2, x0), none, some (2, x2)] [(2, 1000000000000000), (2, x2)] G R V)
    refine wp_ld (i := (.lload_n 0)) (2, x0) rfl rfl (fun _ => rfl) rfl rfl (?_ : wpv K_X8_times d P 11 [some (2, x0), none, some (2, x2)] [(2, x0), (2, 1000000000000000), (2, x2)] G R V)
    obtain ⟨s2, w⟩ := w
    refine wp_jdiv rfl rfl s1 s2 (?_ : wpv K_X8_times d P 12 [some (2, x0), none, some (2, x2)] [(2, (jdiv 1000000000000000 x0)), (2, x2)] G R V)
    obtain ⟨s3, w⟩ := w
    refine wp_lcmp rfl rfl s3 (t64 _) (?_ : wpv K_X8_times d P 13 [some (2, x0), none, some (2, x2)] [(0, sg x2 ((jdiv 1000000000000000 x0)))] G R V)
    refine wp_if (c := .le) 22 rfl rfl rfl (sg32 _ _) (fun q => ?_) (fun q => ?_)
    · have q : ¬ (jdiv 1000000000000000 x0) < x2 := fun z => q (sg_gt.mpr z)
      replace w := w.1 q
      show wpv K_X8_times d P 22 [some (2, x0), none, some (2, x2)] [] G R V
      refine wp_ld (i := (.lload_n 0)) (2, x0) rfl rfl (fun _ => rfl) rfl rfl (?_ : wpv K_X8_times d P 23 [some (2, x0), none, some (2, x2)] [(2, x0)] G R V)
      refine wp_ld (i := (.lload_n 2)) (2, x2) rfl rfl (fun _ => rfl) rfl rfl (?_ : wpv K_X8_times d P 24 [some (2, x0), none, some (2, x2)] [(2, x2), (2, x0)] G R V)
      refine wp_jmul rfl rfl (?_ : wpv K_X8_times d P 25 [some (2, x0), none, some (2, x2)] [(2, (jmul x0 x2))] G R V)
      exact wp_rJ rfl rfl rfl w
    · have q : (jdiv 1000000000000000 x0) < x2 := sg_gt.mp (Decidable.not_not.mp q)
      replace w := w.2 q
      show wpv K_X8_times d P 16 [some (2, x0), none, some (2, x2)] [] G R V
      refine wp_p (i := (.ldc2_w 305)) rfl rfl (fun _ _ _ => rfl) (?_ : wpv K_X8_times d P 19 [some (2, x0), none, some (2, x2)] [(2, 1000000000000001)] G R V)
      refine wp_go 25 rfl rfl rfl (?_ : wpv K_X8_times d P 25 [some (2, x0), none, some (2, x2)] [(2, 1000000000000001)] G R V)
      exact wp_rJ rfl rfl rfl w
theorem t_X8_both_0 {d : Nat} {P : gP} {p0 : Nat} {x1 : Int} {x2 : Int} {x3 : Int} {x4 : Int} {G : List gS} {R V : gV} (l0 : lay8 G R p0) (w : cwv d (fun r V1 => ∃ v2 : Int, r = some (0, v2) ∧ ((i32 v2) ∧ (((v2 = 0) → cwv d (fun r V4 => ∃ v5 : Int, r = some (2, v5) ∧ P (some (2, v5)) V4) 161 [(4, (p0 : Int)), (2, (-1))] G R V1) ∧ ((¬ v2 = 0) → ((i32 x4) ∧ cwv d (fun r V7 => ∃ v8 : Int, r = some (0, v8) ∧ ((i32 v8) ∧ (((¬ v8 = 0) → cwv d (fun r V10 => ∃ v11 : Int, r = some (0, v11) ∧ ((i32 v11) ∧ (((v11 = 0) → cwv d (fun r V13 => ∃ v14 : Int, r = some (2, v14) ∧ P (some (2, v14)) V13) 161 [(4, (p0 : Int)), (2, (-2))] G R V10) ∧ ((¬ v11 = 0) → cwv d (fun r V15 => ∃ v16 : Int, r = some (0, v16) ∧ ((i32 v16) ∧ (((¬ v16 = 0) → (((¬ x4 = 0) → cwv d (fun r V18 => ∃ v19 : Int, r = some (2, v19) ∧ cwv d (fun r V20 => ∃ v21 : Int, r = some (2, v21) ∧ cwv d (fun r V22 => ∃ v23 : Int, r = some (2, v23) ∧ ((i64 v23) ∧ (((¬ 1000000000000000 < v23) → wpv K_X8_both d P 104 [some (4, (p0 : Int)), some (0, x1), some (0, x2), some (0, x3), some (0, x4), none, none, some (0, 0)] [] G R V22) ∧ ((1000000000000000 < v23) → cwv d (fun r V25 => ∃ v26 : Int, r = some (2, v26) ∧ P (some (2, v26)) V25) 161 [(4, (p0 : Int)), (2, (-5))] G R V22)))) 220 [(2, v19), (2, v21)] G R V20) 211 [(4, (p0 : Int)), (0, x3)] G R V18) 211 [(4, (p0 : Int)), (0, x2)] G R V15) ∧ ((x4 = 0) → cwv d (fun r V27 => ∃ v28 : Int, r = some (2, v28) ∧ cwv d (fun r V29 => ∃ v30 : Int, r = some (2, v30) ∧ (((¬ 1000000000000000 < (jadd v28 v30)) → wpv K_X8_both d P 104 [some (4, (p0 : Int)), some (0, x1), some (0, x2), some (0, x3), some (0, x4), none, none, some (0, 0)] [] G R V29) ∧ ((1000000000000000 < (jadd v28 v30)) → cwv d (fun r V31 => ∃ v32 : Int, r = some (2, v32) ∧ P (some (2, v32)) V31) 161 [(4, (p0 : Int)), (2, (-5))] G R V29))) 211 [(4, (p0 : Int)), (0, x3)] G R V27) 211 [(4, (p0 : Int)), (0, x2)] G R V15))) ∧ ((v16 = 0) → cwv d (fun r V33 => ∃ v34 : Int, r = some (2, v34) ∧ P (some (2, v34)) V33) 161 [(4, (p0 : Int)), (2, (-2))] G R V15)))) 209 [(4, (p0 : Int)), (0, x3)] G R V10)))) 209 [(4, (p0 : Int)), (0, x2)] G R V7) ∧ ((v8 = 0) → cwv d (fun r V35 => ∃ v36 : Int, r = some (2, v36) ∧ P (some (2, v36)) V35) 161 [(4, (p0 : Int)), (2, (-1))] G R V7)))) 159 [(2, x4), (2, 0), (2, 1)] G R V1))))) 208 [(0, x1)] G R V) : wpv K_X8_both d P 0 [some (4, (p0 : Int)), some (0, x1), some (0, x2), some (0, x3), some (0, x4)] [] G R V := by
  refine wp_ld (i := (.iload_n 1)) (0, x1) rfl rfl (fun _ => rfl) rfl rfl (?_ : wpv K_X8_both d P 1 [some (4, (p0 : Int)), some (0, x1), some (0, x2), some (0, x3), some (0, x4)] [(0, x1)] G R V)
  refine wp_stat (as := [(0, x1)]) (st := []) _ rfl rfl rfl (by omega) rfl rfl (Nat.le_of_ble_eq_true rfl) (cwv_kI w (fun v2 V1 w => ?_))
  show wpv K_X8_both d P 4 [some (4, (p0 : Int)), some (0, x1), some (0, x2), some (0, x3), some (0, x4)] [(0, v2)] G R V1
  obtain ⟨s3, w⟩ := w
  refine wp_if (c := .eq) 18 rfl rfl rfl s3 (fun q => ?_) (fun q => ?_)
  · have q : v2 = 0 := q
    replace w := w.1 q
    show wpv K_X8_both d P 18 [some (4, (p0 : Int)), some (0, x1), some (0, x2), some (0, x3), some (0, x4)] [] G R V1
    refine wp_ld (i := (.aload_n 0)) (4, (p0 : Int)) rfl rfl (fun _ => rfl) rfl rfl (?_ : wpv K_X8_both d P 19 [some (4, (p0 : Int)), some (0, x1), some (0, x2), some (0, x3), some (0, x4)] [(4, (p0 : Int))] G R V1)
    refine wp_p (i := (.ldc2_w 287)) rfl rfl (fun _ _ _ => rfl) (?_ : wpv K_X8_both d P 22 [some (4, (p0 : Int)), some (0, x1), some (0, x2), some (0, x3), some (0, x4)] [(2, (-1)), (4, (p0 : Int))] G R V1)
    refine wp_virt (as := [(2, (-1))]) (a := p0) (st := []) _ rfl rfl rfl rfl rfl rfl (ly8_o l0) (Nat.le_of_ble_eq_true rfl) (cwv_kJ w (fun v5 V4 w => ?_))
    show wpv K_X8_both d P 25 [some (4, (p0 : Int)), some (0, x1), some (0, x2), some (0, x3), some (0, x4)] [(2, v5)] G R V4
    exact wp_rJ rfl rfl rfl w
  · have q : ¬ v2 = 0 := q
    replace w := w.2 q
    show wpv K_X8_both d P 7 [some (4, (p0 : Int)), some (0, x1), some (0, x2), some (0, x3), some (0, x4)] [] G R V1
    refine wp_ld (i := (.iload 4)) (0, x4) rfl rfl (fun _ => rfl) rfl rfl (?_ : wpv K_X8_both d P 9 [some (4, (p0 : Int)), some (0, x1), some (0, x2), some (0, x3), some (0, x4)] [(0, x4)] G R V1)
    obtain ⟨s6, w⟩ := w
    refine wp_i2l rfl rfl s6 (?_ : wpv K_X8_both d P 10 [some (4, (p0 : Int)), some (0, x1), some (0, x2), some (0, x3), some (0, x4)] [(2, x4)] G R V1)
    refine wp_p (i := (.lconst 0)) rfl rfl (fun _ _ _ => rfl) (?_ : wpv K_X8_both d P 11 [some (4, (p0 : Int)), some (0, x1), some (0, x2), some (0, x3), some (0, x4)] [(2, 0), (2, x4)] G R V1)
    refine wp_p (i := (.lconst 1)) rfl rfl (fun _ _ _ => rfl) (?_ : wpv K_X8_both d P 12 [some (4, (p0 : Int)), some (0, x1), some (0, x2), some (0, x3), some (0, x4)] [(2, 1), (2, 0), (2, x4)] G R V1)
    refine wp_stat (as := [(2, x4), (2, 0), (2, 1)]) (st := []) _ rfl rfl rfl (by omega) rfl rfl (Nat.le_of_ble_eq_true rfl) (cwv_kI w (fun v8 V7 w => ?_))
    show wpv K_X8_both d P 15 [some (4, (p0 : Int)), some (0, x1), some (0, x2), some (0, x3), some (0, x4)] [(0, v8)] G R V7
    obtain ⟨s9, w⟩ := w
    refine wp_if (c := .ne) 26 rfl rfl rfl s9 (fun q => ?_) (fun q => ?_)
    · have q : ¬ v8 = 0 := q
      replace w := w.1 q
      show wpv K_X8_both d P 26 [some (4, (p0 : Int)), some (0, x1), some (0, x2), some (0, x3), some (0, x4)] [] G R V7
      refine wp_ld (i := (.aload_n 0)) (4, (p0 : Int)) rfl rfl (fun _ => rfl) rfl rfl (?_ : wpv K_X8_both d P 27 [some (4, (p0 : Int)), some (0, x1), some (0, x2), some (0, x3), some (0, x4)] [(4, (p0 : Int))] G R V7)
      refine wp_ld (i := (.iload_n 2)) (0, x2) rfl rfl (fun _ => rfl) rfl rfl (?_ : wpv K_X8_both d P 28 [some (4, (p0 : Int)), some (0, x1), some (0, x2), some (0, x3), some (0, x4)] [(0, x2), (4, (p0 : Int))] G R V7)
      refine wp_virt (as := [(0, x2)]) (a := p0) (st := []) _ rfl rfl rfl rfl rfl rfl (ly8_o l0) (Nat.le_of_ble_eq_true rfl) (cwv_kI w (fun v11 V10 w => ?_))
      show wpv K_X8_both d P 31 [some (4, (p0 : Int)), some (0, x1), some (0, x2), some (0, x3), some (0, x4)] [(0, v11)] G R V10
      obtain ⟨s12, w⟩ := w
      refine wp_if (c := .eq) 42 rfl rfl rfl s12 (fun q => ?_) (fun q => ?_)
      · have q : v11 = 0 := q
        replace w := w.1 q
        show wpv K_X8_both d P 42 [some (4, (p0 : Int)), some (0, x1), some (0, x2), some (0, x3), some (0, x4)] [] G R V10
        refine wp_ld (i := (.aload_n 0)) (4, (p0 : Int)) rfl rfl (fun _ => rfl) rfl rfl (?_ : wpv K_X8_both d P 43 [some (4, (p0 : Int)), some (0, x1), some (0, x2), some (0, x3), some (0, x4)] [(4, (p0 : Int))] G R V10)
        refine wp_p (i := (.ldc2_w 289)) rfl rfl (fun _ _ _ => rfl) (?_ : wpv K_X8_both d P 46 [some (4, (p0 : Int)), some (0, x1), some (0, x2), some (0, x3), some (0, x4)] [(2, (-2)), (4, (p0 : Int))] G R V10)
        refine wp_virt (as := [(2, (-2))]) (a := p0) (st := []) _ rfl rfl rfl rfl rfl rfl (ly8_o l0) (Nat.le_of_ble_eq_true rfl) (cwv_kJ w (fun v14 V13 w => ?_))
        show wpv K_X8_both d P 49 [some (4, (p0 : Int)), some (0, x1), some (0, x2), some (0, x3), some (0, x4)] [(2, v14)] G R V13
        exact wp_rJ rfl rfl rfl w
      · have q : ¬ v11 = 0 := q
        replace w := w.2 q
        show wpv K_X8_both d P 34 [some (4, (p0 : Int)), some (0, x1), some (0, x2), some (0, x3), some (0, x4)] [] G R V10
        refine wp_ld (i := (.aload_n 0)) (4, (p0 : Int)) rfl rfl (fun _ => rfl) rfl rfl (?_ : wpv K_X8_both d P 35 [some (4, (p0 : Int)), some (0, x1), some (0, x2), some (0, x3), some (0, x4)] [(4, (p0 : Int))] G R V10)
        refine wp_ld (i := (.iload_n 3)) (0, x3) rfl rfl (fun _ => rfl) rfl rfl (?_ : wpv K_X8_both d P 36 [some (4, (p0 : Int)), some (0, x1), some (0, x2), some (0, x3), some (0, x4)] [(0, x3), (4, (p0 : Int))] G R V10)
        refine wp_virt (as := [(0, x3)]) (a := p0) (st := []) _ rfl rfl rfl rfl rfl rfl (ly8_o l0) (Nat.le_of_ble_eq_true rfl) (cwv_kI w (fun v16 V15 w => ?_))
        show wpv K_X8_both d P 39 [some (4, (p0 : Int)), some (0, x1), some (0, x2), some (0, x3), some (0, x4)] [(0, v16)] G R V15
        obtain ⟨s17, w⟩ := w
        refine wp_if (c := .ne) 50 rfl rfl rfl s17 (fun q => ?_) (fun q => ?_)
        · have q : ¬ v16 = 0 := q
          replace w := w.1 q
          show wpv K_X8_both d P 50 [some (4, (p0 : Int)), some (0, x1), some (0, x2), some (0, x3), some (0, x4)] [] G R V15
          refine wp_ld (i := (.iload 4)) (0, x4) rfl rfl (fun _ => rfl) rfl rfl (?_ : wpv K_X8_both d P 52 [some (4, (p0 : Int)), some (0, x1), some (0, x2), some (0, x3), some (0, x4)] [(0, x4)] G R V15)
          refine wp_if (c := .ne) 69 rfl rfl rfl s6 (fun q => ?_) (fun q => ?_)
          · have q : ¬ x4 = 0 := q
            replace w := w.1 q
            show wpv K_X8_both d P 69 [some (4, (p0 : Int)), some (0, x1), some (0, x2), some (0, x3), some (0, x4)] [] G R V15
            refine wp_ld (i := (.aload_n 0)) (4, (p0 : Int)) rfl rfl (fun _ => rfl) rfl rfl (?_ : wpv K_X8_both d P 70 [some (4, (p0 : Int)), some (0, x1), some (0, x2), some (0, x3), some (0, x4)] [(4, (p0 : Int))] G R V15)
            refine wp_ld (i := (.iload_n 2)) (0, x2) rfl rfl (fun _ => rfl) rfl rfl (?_ : wpv K_X8_both d P 71 [some (4, (p0 : Int)), some (0, x1), some (0, x2), some (0, x3), some (0, x4)] [(0, x2), (4, (p0 : Int))] G R V15)
            refine wp_virt (as := [(0, x2)]) (a := p0) (st := []) _ rfl rfl rfl rfl rfl rfl (ly8_o l0) (Nat.le_of_ble_eq_true rfl) (cwv_kJ w (fun v19 V18 w => ?_))
            show wpv K_X8_both d P 74 [some (4, (p0 : Int)), some (0, x1), some (0, x2), some (0, x3), some (0, x4)] [(2, v19)] G R V18
            refine wp_ld (i := (.aload_n 0)) (4, (p0 : Int)) rfl rfl (fun _ => rfl) rfl rfl (?_ : wpv K_X8_both d P 75 [some (4, (p0 : Int)), some (0, x1), some (0, x2), some (0, x3), some (0, x4)] [(4, (p0 : Int)), (2, v19)] G R V18)
            refine wp_ld (i := (.iload_n 3)) (0, x3) rfl rfl (fun _ => rfl) rfl rfl (?_ : wpv K_X8_both d P 76 [some (4, (p0 : Int)), some (0, x1), some (0, x2), some (0, x3), some (0, x4)] [(0, x3), (4, (p0 : Int)), (2, v19)] G R V18)
            refine wp_virt (as := [(0, x3)]) (a := p0) (st := [(2, v19)]) _ rfl rfl rfl rfl rfl rfl (ly8_o l0) (Nat.le_of_ble_eq_true rfl) (cwv_kJ w (fun v21 V20 w => ?_))
            show wpv K_X8_both d P 79 [some (4, (p0 : Int)), some (0, x1), some (0, x2), some (0, x3), some (0, x4)] [(2, v21), (2, v19)] G R V20
            refine wp_stat (as := [(2, v19), (2, v21)]) (st := []) _ rfl rfl rfl (by omega) rfl rfl (Nat.le_of_ble_eq_true rfl) (cwv_kJ w (fun v23 V22 w => ?_))
            show wpv K_X8_both d P 82 [some (4, (p0 : Int)), some (0, x1), some (0, x2), some (0, x3), some (0, x4)] [(2, v23)] G R V22
            refine wp_lsto (i := (.lstore 5)) _ rfl rfl (fun _ => rfl) rfl rfl rfl ?_
            refine wp_wk (L' := [some (4, (p0 : Int)), some (0, x1), some (0, x2), some (0, x3), some (0, x4), some (2, v23)]) (wk_s (wk_s (wk_s (wk_s (wk_s (wk_s wk_0)))))) ?_
            show wpv K_X8_both d P 84 [some (4, (p0 : Int)), some (0, x1), some (0, x2), some (0, x3), some (0, x4), some (2, v23)] [] G R V22
            refine wp_ld (i := (.lload 5)) (2, v23) rfl rfl (fun _ => rfl) rfl rfl (?_ : wpv K_X8_both d P 86 [some (4, (p0 : Int)), some (0, x1), some (0, x2), some (0, x3), some (0, x4), some (2, v23)] [(2, v23)] G R V22)
            refine wp_p (i := (.ldc2_w 303)) rfl rfl (fun _ _ _ => rfl) (?_ : wpv K_X8_both d P 89 [some (4, (p0 : Int)), some (0, x1), some (0, x2), some (0, x3), some (0, x4), some (2, v23)] [(2, 1000000000000000), (2, v23)] G R V22)
            obtain ⟨s24, w⟩ := w
            refine wp_lcmp rfl rfl s24 ⟨by omega, by omega⟩ (?_ : wpv K_X8_both d P 90 [some (4, (p0 : Int)), some (0, x1), some (0, x2), some (0, x3), some (0, x4), some (2, v23)] [(0, sg v23 1000000000000000)] G R V22)
            refine wp_if (c := .le) 101 rfl rfl rfl (sg32 _ _) (fun q => ?_) (fun q => ?_)
            · have q : ¬ 1000000000000000 < v23 := fun z => q (sg_gt.mpr z)
              replace w := w.1 q
              show wpv K_X8_both d P 101 [some (4, (p0 : Int)), some (0, x1), some (0, x2), some (0, x3), some (0, x4), some (2, v23)] [] G R V22
              refine wp_p (i := (.iconst 0)) rfl rfl (fun _ _ _ => rfl) (?_ : wpv K_X8_both d P 102 [some (4, (p0 : Int)), some (0, x1), some (0, x2), some (0, x3), some (0, x4), some (2, v23)] [(0, 0)] G R V22)
              refine wp_sto (i := (.istore 7)) _ rfl rfl (fun _ => rfl) rfl rfl rfl ?_
              refine wp_wk (L' := [some (4, (p0 : Int)), some (0, x1), some (0, x2), some (0, x3), some (0, x4), some (2, v23), none, some (0, 0)]) (wk_s (wk_s (wk_s (wk_s (wk_s (wk_s (wk_n (wk_s wk_0)))))))) ?_
              show wpv K_X8_both d P 104 [some (4, (p0 : Int)), some (0, x1), some (0, x2), some (0, x3), some (0, x4), some (2, v23), none, some (0, 0)] [] G R V22
              exact wp_wk (wk_s (wk_s (wk_s (wk_s (wk_s (wk_n (wk_n (wk_s wk_0)))))))) w
            · have q : 1000000000000000 < v23 := sg_gt.mp (Decidable.not_not.mp q)
              replace w := w.2 q
              show wpv K_X8_both d P 93 [some (4, (p0 : Int)), some (0, x1), some (0, x2), some (0, x3), some (0, x4), some (2, v23)] [] G R V22
              refine wp_ld (i := (.aload_n 0)) (4, (p0 : Int)) rfl rfl (fun _ => rfl) rfl rfl (?_ : wpv K_X8_both d P 94 [some (4, (p0 : Int)), some (0, x1), some (0, x2), some (0, x3), some (0, x4), some (2, v23)] [(4, (p0 : Int))] G R V22)
              refine wp_p (i := (.ldc2_w 314)) rfl rfl (fun _ _ _ => rfl) (?_ : wpv K_X8_both d P 97 [some (4, (p0 : Int)), some (0, x1), some (0, x2), some (0, x3), some (0, x4), some (2, v23)] [(2, (-5)), (4, (p0 : Int))] G R V22)
              refine wp_virt (as := [(2, (-5))]) (a := p0) (st := []) _ rfl rfl rfl rfl rfl rfl (ly8_o l0) (Nat.le_of_ble_eq_true rfl) (cwv_kJ w (fun v26 V25 w => ?_))
              show wpv K_X8_both d P 100 [some (4, (p0 : Int)), some (0, x1), some (0, x2), some (0, x3), some (0, x4), some (2, v23)] [(2, v26)] G R V25
              exact wp_rJ rfl rfl rfl w
          · have q : x4 = 0 := Decidable.not_not.mp q
            replace w := w.2 q
            show wpv K_X8_both d P 55 [some (4, (p0 : Int)), some (0, x1), some (0, x2), some (0, x3), some (0, x4)] [] G R V15
            refine wp_ld (i := (.aload_n 0)) (4, (p0 : Int)) rfl rfl (fun _ => rfl) rfl rfl (?_ : wpv K_X8_both d P 56 [some (4, (p0 : Int)), some (0, x1), some (0, x2), some (0, x3), some (0, x4)] [(4, (p0 : Int))] G R V15)
            refine wp_ld (i := (.iload_n 2)) (0, x2) rfl rfl (fun _ => rfl) rfl rfl (?_ : wpv K_X8_both d P 57 [some (4, (p0 : Int)), some (0, x1), some (0, x2), some (0, x3), some (0, x4)] [(0, x2), (4, (p0 : Int))] G R V15)
            refine wp_virt (as := [(0, x2)]) (a := p0) (st := []) _ rfl rfl rfl rfl rfl rfl (ly8_o l0) (Nat.le_of_ble_eq_true rfl) (cwv_kJ w (fun v28 V27 w => ?_))
            show wpv K_X8_both d P 60 [some (4, (p0 : Int)), some (0, x1), some (0, x2), some (0, x3), some (0, x4)] [(2, v28)] G R V27
            refine wp_ld (i := (.aload_n 0)) (4, (p0 : Int)) rfl rfl (fun _ => rfl) rfl rfl (?_ : wpv K_X8_both d P 61 [some (4, (p0 : Int)), some (0, x1), some (0, x2), some (0, x3), some (0, x4)] [(4, (p0 : Int)), (2, v28)] G R V27)
            refine wp_ld (i := (.iload_n 3)) (0, x3) rfl rfl (fun _ => rfl) rfl rfl (?_ : wpv K_X8_both d P 62 [some (4, (p0 : Int)), some (0, x1), some (0, x2), some (0, x3), some (0, x4)] [(0, x3), (4, (p0 : Int)), (2, v28)] G R V27)
            refine wp_virt (as := [(0, x3)]) (a := p0) (st := [(2, v28)]) _ rfl rfl rfl rfl rfl rfl (ly8_o l0) (Nat.le_of_ble_eq_true rfl) (cwv_kJ w (fun v30 V29 w => ?_))
            show wpv K_X8_both d P 65 [some (4, (p0 : Int)), some (0, x1), some (0, x2), some (0, x3), some (0, x4)] [(2, v30), (2, v28)] G R V29
            refine wp_jadd rfl rfl (?_ : wpv K_X8_both d P 66 [some (4, (p0 : Int)), some (0, x1), some (0, x2), some (0, x3), some (0, x4)] [(2, (jadd v28 v30))] G R V29)
            refine wp_go 82 rfl rfl rfl (?_ : wpv K_X8_both d P 82 [some (4, (p0 : Int)), some (0, x1), some (0, x2), some (0, x3), some (0, x4)] [(2, (jadd v28 v30))] G R V29)
            refine wp_lsto (i := (.lstore 5)) _ rfl rfl (fun _ => rfl) rfl rfl rfl ?_
            refine wp_wk (L' := [some (4, (p0 : Int)), some (0, x1), some (0, x2), some (0, x3), some (0, x4), some (2, (jadd v28 v30))]) (wk_s (wk_s (wk_s (wk_s (wk_s (wk_s wk_0)))))) ?_
            show wpv K_X8_both d P 84 [some (4, (p0 : Int)), some (0, x1), some (0, x2), some (0, x3), some (0, x4), some (2, (jadd v28 v30))] [] G R V29
            refine wp_ld (i := (.lload 5)) (2, (jadd v28 v30)) rfl rfl (fun _ => rfl) rfl rfl (?_ : wpv K_X8_both d P 86 [some (4, (p0 : Int)), some (0, x1), some (0, x2), some (0, x3), some (0, x4), some (2, (jadd v28 v30))] [(2, (jadd v28 v30))] G R V29)
            refine wp_p (i := (.ldc2_w 303)) rfl rfl (fun _ _ _ => rfl) (?_ : wpv K_X8_both d P 89 [some (4, (p0 : Int)), some (0, x1), some (0, x2), some (0, x3), some (0, x4), some (2, (jadd v28 v30))] [(2, 1000000000000000), (2, (jadd v28 v30))] G R V29)
            refine wp_lcmp rfl rfl (t64 _) ⟨by omega, by omega⟩ (?_ : wpv K_X8_both d P 90 [some (4, (p0 : Int)), some (0, x1), some (0, x2), some (0, x3), some (0, x4), some (2, (jadd v28 v30))] [(0, sg ((jadd v28 v30)) 1000000000000000)] G R V29)
            refine wp_if (c := .le) 101 rfl rfl rfl (sg32 _ _) (fun q => ?_) (fun q => ?_)
            · have q : ¬ 1000000000000000 < (jadd v28 v30) := fun z => q (sg_gt.mpr z)
              replace w := w.1 q
              show wpv K_X8_both d P 101 [some (4, (p0 : Int)), some (0, x1), some (0, x2), some (0, x3), some (0, x4), some (2, (jadd v28 v30))] [] G R V29
              refine wp_p (i := (.iconst 0)) rfl rfl (fun _ _ _ => rfl) (?_ : wpv K_X8_both d P 102 [some (4, (p0 : Int)), some (0, x1), some (0, x2), some (0, x3), some (0, x4), some (2, (jadd v28 v30))] [(0, 0)] G R V29)
              refine wp_sto (i := (.istore 7)) _ rfl rfl (fun _ => rfl) rfl rfl rfl ?_
              refine wp_wk (L' := [some (4, (p0 : Int)), some (0, x1), some (0, x2), some (0, x3), some (0, x4), some (2, (jadd v28 v30)), none, some (0, 0)]) (wk_s (wk_s (wk_s (wk_s (wk_s (wk_s (wk_n (wk_s wk_0)))))))) ?_
              show wpv K_X8_both d P 104 [some (4, (p0 : Int)), some (0, x1), some (0, x2), some (0, x3), some (0, x4), some (2, (jadd v28 v30)), none, some (0, 0)] [] G R V29
              exact wp_wk (wk_s (wk_s (wk_s (wk_s (wk_s (wk_n (wk_n (wk_s wk_0)))))))) w
            · have q : 1000000000000000 < (jadd v28 v30) := sg_gt.mp (Decidable.not_not.mp q)
              replace w := w.2 q
              show wpv K_X8_both d P 93 [some (4, (p0 : Int)), some (0, x1), some (0, x2), some (0, x3), some (0, x4), some (2, (jadd v28 v30))] [] G R V29
              refine wp_ld (i := (.aload_n 0)) (4, (p0 : Int)) rfl rfl (fun _ => rfl) rfl rfl (?_ : wpv K_X8_both d P 94 [some (4, (p0 : Int)), some (0, x1), some (0, x2), some (0, x3), some (0, x4), some (2, (jadd v28 v30))] [(4, (p0 : Int))] G R V29)
              refine wp_p (i := (.ldc2_w 314)) rfl rfl (fun _ _ _ => rfl) (?_ : wpv K_X8_both d P 97 [some (4, (p0 : Int)), some (0, x1), some (0, x2), some (0, x3), some (0, x4), some (2, (jadd v28 v30))] [(2, (-5)), (4, (p0 : Int))] G R V29)
              refine wp_virt (as := [(2, (-5))]) (a := p0) (st := []) _ rfl rfl rfl rfl rfl rfl (ly8_o l0) (Nat.le_of_ble_eq_true rfl) (cwv_kJ w (fun v32 V31 w => ?_))
              show wpv K_X8_both d P 100 [some (4, (p0 : Int)), some (0, x1), some (0, x2), some (0, x3), some (0, x4), some (2, (jadd v28 v30))] [(2, v32)] G R V31
              exact wp_rJ rfl rfl rfl w
        · have q : v16 = 0 := Decidable.not_not.mp q
          replace w := w.2 q
          show wpv K_X8_both d P 42 [some (4, (p0 : Int)), some (0, x1), some (0, x2), some (0, x3), some (0, x4)] [] G R V15
          refine wp_ld (i := (.aload_n 0)) (4, (p0 : Int)) rfl rfl (fun _ => rfl) rfl rfl (?_ : wpv K_X8_both d P 43 [some (4, (p0 : Int)), some (0, x1), some (0, x2), some (0, x3), some (0, x4)] [(4, (p0 : Int))] G R V15)
          refine wp_p (i := (.ldc2_w 289)) rfl rfl (fun _ _ _ => rfl) (?_ : wpv K_X8_both d P 46 [some (4, (p0 : Int)), some (0, x1), some (0, x2), some (0, x3), some (0, x4)] [(2, (-2)), (4, (p0 : Int))] G R V15)
          refine wp_virt (as := [(2, (-2))]) (a := p0) (st := []) _ rfl rfl rfl rfl rfl rfl (ly8_o l0) (Nat.le_of_ble_eq_true rfl) (cwv_kJ w (fun v34 V33 w => ?_))
          show wpv K_X8_both d P 49 [some (4, (p0 : Int)), some (0, x1), some (0, x2), some (0, x3), some (0, x4)] [(2, v34)] G R V33
          exact wp_rJ rfl rfl rfl w
    · have q : v8 = 0 := Decidable.not_not.mp q
      replace w := w.2 q
      show wpv K_X8_both d P 18 [some (4, (p0 : Int)), some (0, x1), some (0, x2), some (0, x3), some (0, x4)] [] G R V7
      refine wp_ld (i := (.aload_n 0)) (4, (p0 : Int)) rfl rfl (fun _ => rfl) rfl rfl (?_ : wpv K_X8_both d P 19 [some (4, (p0 : Int)), some (0, x1), some (0, x2), some (0, x3), some (0, x4)] [(4, (p0 : Int))] G R V7)
      refine wp_p (i := (.ldc2_w 287)) rfl rfl (fun _ _ _ => rfl) (?_ : wpv K_X8_both d P 22 [some (4, (p0 : Int)), some (0, x1), some (0, x2), some (0, x3), some (0, x4)] [(2, (-1)), (4, (p0 : Int))] G R V7)
      refine wp_virt (as := [(2, (-1))]) (a := p0) (st := []) _ rfl rfl rfl rfl rfl rfl (ly8_o l0) (Nat.le_of_ble_eq_true rfl) (cwv_kJ w (fun v36 V35 w => ?_))
      show wpv K_X8_both d P 25 [some (4, (p0 : Int)), some (0, x1), some (0, x2), some (0, x3), some (0, x4)] [(2, v36)] G R V35
      exact wp_rJ rfl rfl rfl w

theorem t_X8_both_104 {d : Nat} {P : gP} {p0 : Nat} {x1 : Int} {x2 : Int} {x3 : Int} {x4 : Int} {x7 : Int} {G : List gS} {R V : gV} (l0 : lay8 G R p0) (w : ((i32 (V p0 13)) → ((i32 x7) ∧ (((¬ x7 < (V p0 13)) → cwv d (fun r V4 => ∃ v5 : Int, r = some (2, v5) ∧ P (some (2, v5)) V4) 212 [(4, (p0 : Int)), (0, x1)] G R V) ∧ ((x7 < (V p0 13)) → ((i32 x4) ∧ (((¬ x4 = 0) → cwv d (fun r V7 => ∃ v8 : Int, r = some (2, v8) ∧ cwv d (fun r V9 => ∃ v10 : Int, r = some (2, v10) ∧ ((0 ≤ x7 ∧ x7 < 300) ∧ ((i32 (x7 + 1)) ∧ wpv K_X8_both d P 104 [some (4, (p0 : Int)), some (0, x1), some (0, x2), some (0, x3), some (0, x4), none, none, some (0, (x7 + 1))] [] G R (wr V9 (p0 + 23) x7 ((jmul v8 v10)))))) 210 [(4, (p0 : Int)), (0, x3), (0, x7)] G R V7) 210 [(4, (p0 : Int)), (0, x2), (0, x7)] G R V) ∧ ((x4 = 0) → cwv d (fun r V13 => ∃ v14 : Int, r = some (2, v14) ∧ cwv d (fun r V15 => ∃ v16 : Int, r = some (2, v16) ∧ ((0 ≤ x7 ∧ x7 < 300) ∧ ((i32 (x7 + 1)) ∧ wpv K_X8_both d P 104 [some (4, (p0 : Int)), some (0, x1), some (0, x2), some (0, x3), some (0, x4), none, none, some (0, (x7 + 1))] [] G R (wr V15 (p0 + 23) x7 ((jadd v14 v16)))))) 210 [(4, (p0 : Int)), (0, x3), (0, x7)] G R V13) 210 [(4, (p0 : Int)), (0, x2), (0, x7)] G R V)))))))) : wpv K_X8_both d P 104 [some (4, (p0 : Int)), some (0, x1), some (0, x2), some (0, x3), some (0, x4), none, none, some (0, x7)] [] G R V := by
  refine wp_ld (i := (.iload 7)) (0, x7) rfl rfl (fun _ => rfl) rfl rfl (?_ : wpv K_X8_both d P 106 [some (4, (p0 : Int)), some (0, x1), some (0, x2), some (0, x3), some (0, x4), none, none, some (0, x7)] [(0, x7)] G R V)
  refine wp_ld (i := (.aload_n 0)) (4, (p0 : Int)) rfl rfl (fun _ => rfl) rfl rfl (?_ : wpv K_X8_both d P 107 [some (4, (p0 : Int)), some (0, x1), some (0, x2), some (0, x3), some (0, x4), none, none, some (0, x7)] [(4, (p0 : Int)), (0, x7)] G R V)
  refine wp_rng (fun vr1 => ?_)
  have f2 : i32 (V p0 13) := vr_f0 vr1 (ly8_o l0) rfl rfl
  replace w := w f2
  refine wp_getI (k := 13) rfl rfl rfl (ly8_o l0) rfl rfl (?_ : wpv K_X8_both d P 110 [some (4, (p0 : Int)), some (0, x1), some (0, x2), some (0, x3), some (0, x4), none, none, some (0, x7)] [(0, (V p0 13)), (0, x7)] G R V)
  obtain ⟨s3, w⟩ := w
  refine wp_icmp (c := .ge) 164 rfl rfl rfl s3 f2 (fun q => ?_) (fun q => ?_)
  · have q : ¬ x7 < (V p0 13) := q
    replace w := w.1 q
    show wpv K_X8_both d P 164 [some (4, (p0 : Int)), some (0, x1), some (0, x2), some (0, x3), some (0, x4), none, none, some (0, x7)] [] G R V
    refine wp_ld (i := (.aload_n 0)) (4, (p0 : Int)) rfl rfl (fun _ => rfl) rfl rfl (?_ : wpv K_X8_both d P 165 [some (4, (p0 : Int)), some (0, x1), some (0, x2), some (0, x3), some (0, x4), none, none, some (0, x7)] [(4, (p0 : Int))] G R V)
    refine wp_ld (i := (.iload_n 1)) (0, x1) rfl rfl (fun _ => rfl) rfl rfl (?_ : wpv K_X8_both d P 166 [some (4, (p0 : Int)), some (0, x1), some (0, x2), some (0, x3), some (0, x4), none, none, some (0, x7)] [(0, x1), (4, (p0 : Int))] G R V)
    refine wp_virt (as := [(0, x1)]) (a := p0) (st := []) _ rfl rfl rfl rfl rfl rfl (ly8_o l0) (Nat.le_of_ble_eq_true rfl) (cwv_kJ w (fun v5 V4 w => ?_))
    show wpv K_X8_both d P 169 [some (4, (p0 : Int)), some (0, x1), some (0, x2), some (0, x3), some (0, x4), none, none, some (0, x7)] [(2, v5)] G R V4
    exact wp_rJ rfl rfl rfl w
  · have q : x7 < (V p0 13) := Decidable.not_not.mp q
    replace w := w.2 q
    show wpv K_X8_both d P 113 [some (4, (p0 : Int)), some (0, x1), some (0, x2), some (0, x3), some (0, x4), none, none, some (0, x7)] [] G R V
    refine wp_ld (i := (.aload_n 0)) (4, (p0 : Int)) rfl rfl (fun _ => rfl) rfl rfl (?_ : wpv K_X8_both d P 114 [some (4, (p0 : Int)), some (0, x1), some (0, x2), some (0, x3), some (0, x4), none, none, some (0, x7)] [(4, (p0 : Int))] G R V)
    refine wp_getA (k := 30) rfl rfl rfl (ly8_o l0) rfl rfl (ly8_30 l0).1 (?_ : wpv K_X8_both d P 117 [some (4, (p0 : Int)), some (0, x1), some (0, x2), some (0, x3), some (0, x4), none, none, some (0, x7)] [(4, ((p0 + 23 : Nat) : Int))] G R V)
    refine wp_ld (i := (.iload 7)) (0, x7) rfl rfl (fun _ => rfl) rfl rfl (?_ : wpv K_X8_both d P 119 [some (4, (p0 : Int)), some (0, x1), some (0, x2), some (0, x3), some (0, x4), none, none, some (0, x7)] [(0, x7), (4, ((p0 + 23 : Nat) : Int))] G R V)
    refine wp_ld (i := (.iload 4)) (0, x4) rfl rfl (fun _ => rfl) rfl rfl (?_ : wpv K_X8_both d P 121 [some (4, (p0 : Int)), some (0, x1), some (0, x2), some (0, x3), some (0, x4), none, none, some (0, x7)] [(0, x4), (0, x7), (4, ((p0 + 23 : Nat) : Int))] G R V)
    obtain ⟨s6, w⟩ := w
    refine wp_if (c := .ne) 142 rfl rfl rfl s6 (fun q => ?_) (fun q => ?_)
    · have q : ¬ x4 = 0 := q
      replace w := w.1 q
      show wpv K_X8_both d P 142 [some (4, (p0 : Int)), some (0, x1), some (0, x2), some (0, x3), some (0, x4), none, none, some (0, x7)] [(0, x7), (4, ((p0 + 23 : Nat) : Int))] G R V
      refine wp_ld (i := (.aload_n 0)) (4, (p0 : Int)) rfl rfl (fun _ => rfl) rfl rfl (?_ : wpv K_X8_both d P 143 [some (4, (p0 : Int)), some (0, x1), some (0, x2), some (0, x3), some (0, x4), none, none, some (0, x7)] [(4, (p0 : Int)), (0, x7), (4, ((p0 + 23 : Nat) : Int))] G R V)
      refine wp_ld (i := (.iload_n 2)) (0, x2) rfl rfl (fun _ => rfl) rfl rfl (?_ : wpv K_X8_both d P 144 [some (4, (p0 : Int)), some (0, x1), some (0, x2), some (0, x3), some (0, x4), none, none, some (0, x7)] [(0, x2), (4, (p0 : Int)), (0, x7), (4, ((p0 + 23 : Nat) : Int))] G R V)
      refine wp_ld (i := (.iload 7)) (0, x7) rfl rfl (fun _ => rfl) rfl rfl (?_ : wpv K_X8_both d P 146 [some (4, (p0 : Int)), some (0, x1), some (0, x2), some (0, x3), some (0, x4), none, none, some (0, x7)] [(0, x7), (0, x2), (4, (p0 : Int)), (0, x7), (4, ((p0 + 23 : Nat) : Int))] G R V)
      refine wp_virt (as := [(0, x2), (0, x7)]) (a := p0) (st := [(0, x7), (4, ((p0 + 23 : Nat) : Int))]) _ rfl rfl rfl rfl rfl rfl (ly8_o l0) (Nat.le_of_ble_eq_true rfl) (cwv_kJ w (fun v8 V7 w => ?_))
      show wpv K_X8_both d P 149 [some (4, (p0 : Int)), some (0, x1), some (0, x2), some (0, x3), some (0, x4), none, none, some (0, x7)] [(2, v8), (0, x7), (4, ((p0 + 23 : Nat) : Int))] G R V7
      refine wp_ld (i := (.aload_n 0)) (4, (p0 : Int)) rfl rfl (fun _ => rfl) rfl rfl (?_ : wpv K_X8_both d P 150 [some (4, (p0 : Int)), some (0, x1), some (0, x2), some (0, x3), some (0, x4), none, none, some (0, x7)] [(4, (p0 : Int)), (2, v8), (0, x7), (4, ((p0 + 23 : Nat) : Int))] G R V7)
      refine wp_ld (i := (.iload_n 3)) (0, x3) rfl rfl (fun _ => rfl) rfl rfl (?_ : wpv K_X8_both d P 151 [some (4, (p0 : Int)), some (0, x1), some (0, x2), some (0, x3), some (0, x4), none, none, some (0, x7)] [(0, x3), (4, (p0 : Int)), (2, v8), (0, x7), (4, ((p0 + 23 : Nat) : Int))] G R V7)
      refine wp_ld (i := (.iload 7)) (0, x7) rfl rfl (fun _ => rfl) rfl rfl (?_ : wpv K_X8_both d P 153 [some (4, (p0 : Int)), some (0, x1), some (0, x2), some (0, x3), some (0, x4), none, none, some (0, x7)] [(0, x7), (0, x3), (4, (p0 : Int)), (2, v8), (0, x7), (4, ((p0 + 23 : Nat) : Int))] G R V7)
      refine wp_virt (as := [(0, x3), (0, x7)]) (a := p0) (st := [(2, v8), (0, x7), (4, ((p0 + 23 : Nat) : Int))]) _ rfl rfl rfl rfl rfl rfl (ly8_o l0) (Nat.le_of_ble_eq_true rfl) (cwv_kJ w (fun v10 V9 w => ?_))
      show wpv K_X8_both d P 156 [some (4, (p0 : Int)), some (0, x1), some (0, x2), some (0, x3), some (0, x4), none, none, some (0, x7)] [(2, v10), (2, v8), (0, x7), (4, ((p0 + 23 : Nat) : Int))] G R V9
      refine wp_jmul rfl rfl (?_ : wpv K_X8_both d P 157 [some (4, (p0 : Int)), some (0, x1), some (0, x2), some (0, x3), some (0, x4), none, none, some (0, x7)] [(2, (jmul v8 v10)), (0, x7), (4, ((p0 + 23 : Nat) : Int))] G R V9)
      obtain ⟨s11, w⟩ := w
      refine wp_sJ rfl rfl (ly8_30 l0).2 s11 (t64 _) (?_ : wpv K_X8_both d P 158 [some (4, (p0 : Int)), some (0, x1), some (0, x2), some (0, x3), some (0, x4), none, none, some (0, x7)] [] G R (wr V9 (p0 + 23) x7 ((jmul v8 v10))))
      obtain ⟨s12, w⟩ := w
      refine wp_inc (x := 7) (k := 1) (a := x7) (c := (x7 + 1)) _ rfl rfl rfl rfl s12 (by omega) rfl ?_
      show wpv K_X8_both d P 161 [some (4, (p0 : Int)), some (0, x1), some (0, x2), some (0, x3), some (0, x4), none, none, some (0, (x7 + 1))] [] G R (wr V9 (p0 + 23) x7 ((jmul v8 v10)))
      refine wp_go 104 rfl rfl rfl (?_ : wpv K_X8_both d P 104 [some (4, (p0 : Int)), some (0, x1), some (0, x2), some (0, x3), some (0, x4), none, none, some (0, (x7 + 1))] [] G R (wr V9 (p0 + 23) x7 ((jmul v8 v10))))
      exact wp_wk (wk_s (wk_s (wk_s (wk_s (wk_s (wk_n (wk_n (wk_s wk_0)))))))) w
    · have q : x4 = 0 := Decidable.not_not.mp q
      replace w := w.2 q
      show wpv K_X8_both d P 124 [some (4, (p0 : Int)), some (0, x1), some (0, x2), some (0, x3), some (0, x4), none, none, some (0, x7)] [(0, x7), (4, ((p0 + 23 : Nat) : Int))] G R V
      refine wp_ld (i := (.aload_n 0)) (4, (p0 : Int)) rfl rfl (fun _ => rfl) rfl rfl (?_ : wpv K_X8_both d P 125 [some (4, (p0 : Int)), some (0, x1), some (0, x2), some (0, x3), some (0, x4), none, none, some (0, x7)] [(4, (p0 : Int)), (0, x7), (4, ((p0 + 23 : Nat) : Int))] G R V)
      refine wp_ld (i := (.iload_n 2)) (0, x2) rfl rfl (fun _ => rfl) rfl rfl (?_ : wpv K_X8_both d P 126 [some (4, (p0 : Int)), some (0, x1), some (0, x2), some (0, x3), some (0, x4), none, none, some (0, x7)] [(0, x2), (4, (p0 : Int)), (0, x7), (4, ((p0 + 23 : Nat) : Int))] G R V)
      refine wp_ld (i := (.iload 7)) (0, x7) rfl rfl (fun _ => rfl) rfl rfl (?_ : wpv K_X8_both d P 128 [some (4, (p0 : Int)), some (0, x1), some (0, x2), some (0, x3), some (0, x4), none, none, some (0, x7)] [(0, x7), (0, x2), (4, (p0 : Int)), (0, x7), (4, ((p0 + 23 : Nat) : Int))] G R V)
      refine wp_virt (as := [(0, x2), (0, x7)]) (a := p0) (st := [(0, x7), (4, ((p0 + 23 : Nat) : Int))]) _ rfl rfl rfl rfl rfl rfl (ly8_o l0) (Nat.le_of_ble_eq_true rfl) (cwv_kJ w (fun v14 V13 w => ?_))
      show wpv K_X8_both d P 131 [some (4, (p0 : Int)), some (0, x1), some (0, x2), some (0, x3), some (0, x4), none, none, some (0, x7)] [(2, v14), (0, x7), (4, ((p0 + 23 : Nat) : Int))] G R V13
      refine wp_ld (i := (.aload_n 0)) (4, (p0 : Int)) rfl rfl (fun _ => rfl) rfl rfl (?_ : wpv K_X8_both d P 132 [some (4, (p0 : Int)), some (0, x1), some (0, x2), some (0, x3), some (0, x4), none, none, some (0, x7)] [(4, (p0 : Int)), (2, v14), (0, x7), (4, ((p0 + 23 : Nat) : Int))] G R V13)
      refine wp_ld (i := (.iload_n 3)) (0, x3) rfl rfl (fun _ => rfl) rfl rfl (?_ : wpv K_X8_both d P 133 [some (4, (p0 : Int)), some (0, x1), some (0, x2), some (0, x3), some (0, x4), none, none, some (0, x7)] [(0, x3), (4, (p0 : Int)), (2, v14), (0, x7), (4, ((p0 + 23 : Nat) : Int))] G R V13)
      refine wp_ld (i := (.iload 7)) (0, x7) rfl rfl (fun _ => rfl) rfl rfl (?_ : wpv K_X8_both d P 135 [some (4, (p0 : Int)), some (0, x1), some (0, x2), some (0, x3), some (0, x4), none, none, some (0, x7)] [(0, x7), (0, x3), (4, (p0 : Int)), (2, v14), (0, x7), (4, ((p0 + 23 : Nat) : Int))] G R V13)
      refine wp_virt (as := [(0, x3), (0, x7)]) (a := p0) (st := [(2, v14), (0, x7), (4, ((p0 + 23 : Nat) : Int))]) _ rfl rfl rfl rfl rfl rfl (ly8_o l0) (Nat.le_of_ble_eq_true rfl) (cwv_kJ w (fun v16 V15 w => ?_))
      show wpv K_X8_both d P 138 [some (4, (p0 : Int)), some (0, x1), some (0, x2), some (0, x3), some (0, x4), none, none, some (0, x7)] [(2, v16), (2, v14), (0, x7), (4, ((p0 + 23 : Nat) : Int))] G R V15
      refine wp_jadd rfl rfl (?_ : wpv K_X8_both d P 139 [some (4, (p0 : Int)), some (0, x1), some (0, x2), some (0, x3), some (0, x4), none, none, some (0, x7)] [(2, (jadd v14 v16)), (0, x7), (4, ((p0 + 23 : Nat) : Int))] G R V15)
      refine wp_go 157 rfl rfl rfl (?_ : wpv K_X8_both d P 157 [some (4, (p0 : Int)), some (0, x1), some (0, x2), some (0, x3), some (0, x4), none, none, some (0, x7)] [(2, (jadd v14 v16)), (0, x7), (4, ((p0 + 23 : Nat) : Int))] G R V15)
      obtain ⟨s17, w⟩ := w
      refine wp_sJ rfl rfl (ly8_30 l0).2 s17 (t64 _) (?_ : wpv K_X8_both d P 158 [some (4, (p0 : Int)), some (0, x1), some (0, x2), some (0, x3), some (0, x4), none, none, some (0, x7)] [] G R (wr V15 (p0 + 23) x7 ((jadd v14 v16))))
      obtain ⟨s18, w⟩ := w
      refine wp_inc (x := 7) (k := 1) (a := x7) (c := (x7 + 1)) _ rfl rfl rfl rfl s18 (by omega) rfl ?_
      show wpv K_X8_both d P 161 [some (4, (p0 : Int)), some (0, x1), some (0, x2), some (0, x3), some (0, x4), none, none, some (0, (x7 + 1))] [] G R (wr V15 (p0 + 23) x7 ((jadd v14 v16)))
      refine wp_go 104 rfl rfl rfl (?_ : wpv K_X8_both d P 104 [some (4, (p0 : Int)), some (0, x1), some (0, x2), some (0, x3), some (0, x4), none, none, some (0, (x7 + 1))] [] G R (wr V15 (p0 + 23) x7 ((jadd v14 v16))))
      exact wp_wk (wk_s (wk_s (wk_s (wk_s (wk_s (wk_n (wk_n (wk_s wk_0)))))))) w
theorem t_X8_toThe_0 {d : Nat} {P : gP} {x0 : Int} {x2 : Int} {G : List gS} {R V : gV}  (w : ((i64 x2) ∧ (((x2 = 0) → P (some (2, 1)) V) ∧ ((¬ x2 = 0) → ((i64 x0) ∧ (((¬ x0 = 1) → (((¬ x0 = 0) → wpv K_X8_toThe d P 28 [some (2, x0), none, some (2, x2), none, some (2, 1), none, some (2, 0)] [] G R V) ∧ ((x0 = 0) → P (some (2, 0)) V))) ∧ ((x0 = 1) → P (some (2, 1)) V))))))) : wpv K_X8_toThe d P 0 [some (2, x0), none, some (2, x2)] [] G R V := by
  refine wp_ld (i := (.lload_n 2)) (2, x2) rfl rfl (fun _ => rfl) rfl rfl (?_ : wpv K_X8_toThe d P 1 [some (2, x0), none, some (2, x2)] [(2, x2)] G R V)
  refine wp_p (i := (.lconst 0)) rfl rfl (fun _ _ _ => rfl) (?_ : wpv K_X8_toThe d P 2 [some (2, x0), none, some (2, x2)] [(2, 0), (2, x2)] G R V)
  obtain ⟨s1, w⟩ := w
  refine wp_lcmp rfl rfl s1 ⟨by omega, by omega⟩ (?_ : wpv K_X8_toThe d P 3 [some (2, x0), none, some (2, x2)] [(0, sg x2 0)] G R V)
  refine wp_if (c := .eq) 12 rfl rfl rfl (sg32 _ _) (fun q => ?_) (fun q => ?_)
  · have q : x2 = 0 := sg_eq.mp q
    replace w := w.1 q
    show wpv K_X8_toThe d P 12 [some (2, x0), none, some (2, x2)] [] G R V
    refine wp_p (i := (.lconst 1)) rfl rfl (fun _ _ _ => rfl) (?_ : wpv K_X8_toThe d P 13 [some (2, x0), none, some (2, x2)] [(2, 1)] G R V)
    exact wp_rJ rfl rfl rfl w
  · have q : ¬ x2 = 0 := fun z => q (sg_eq.mpr z)
    replace w := w.2 q
    show wpv K_X8_toThe d P 6 [some (2, x0), none, some (2, x2)] [] G R V
    refine wp_ld (i := (.lload_n 0)) (2, x0) rfl rfl (fun _ => rfl) rfl rfl (?_ : wpv K_X8_toThe d P 7 [some (2, x0), none, some (2, x2)] [(2, x0)] G R V)
    refine wp_p (i := (.lconst 1)) rfl rfl (fun _ _ _ => rfl) (?_ : wpv K_X8_toThe d P 8 [some (2, x0), none, some (2, x2)] [(2, 1), (2, x0)] G R V)
    obtain ⟨s2, w⟩ := w
    refine wp_lcmp rfl rfl s2 ⟨by omega, by omega⟩ (?_ : wpv K_X8_toThe d P 9 [some (2, x0), none, some (2, x2)] [(0, sg x0 1)] G R V)
    refine wp_if (c := .ne) 14 rfl rfl rfl (sg32 _ _) (fun q => ?_) (fun q => ?_)
    · have q : ¬ x0 = 1 := fun z => q (sg_eq.mpr z)
      replace w := w.1 q
      show wpv K_X8_toThe d P 14 [some (2, x0), none, some (2, x2)] [] G R V
      refine wp_ld (i := (.lload_n 0)) (2, x0) rfl rfl (fun _ => rfl) rfl rfl (?_ : wpv K_X8_toThe d P 15 [some (2, x0), none, some (2, x2)] [(2, x0)] G R V)
      refine wp_p (i := (.lconst 0)) rfl rfl (fun _ _ _ => rfl) (?_ : wpv K_X8_toThe d P 16 [some (2, x0), none, some (2, x2)] [(2, 0), (2, x0)] G R V)
      refine wp_lcmp rfl rfl s2 ⟨by omega, by omega⟩ (?_ : wpv K_X8_toThe d P 17 [some (2, x0), none, some (2, x2)] [(0, sg x0 0)] G R V)
      refine wp_if (c := .ne) 22 rfl rfl rfl (sg32 _ _) (fun q => ?_) (fun q => ?_)
      · have q : ¬ x0 = 0 := fun z => q (sg_eq.mpr z)
        replace w := w.1 q
        show wpv K_X8_toThe d P 22 [some (2, x0), none, some (2, x2)] [] G R V
        refine wp_p (i := (.lconst 1)) rfl rfl (fun _ _ _ => rfl) (?_ : wpv K_X8_toThe d P 23 [some (2, x0), none, some (2, x2)] [(2, 1)] G R V)
        refine wp_lsto (i := (.lstore 4)) _ rfl rfl (fun _ => rfl) rfl rfl rfl ?_
        refine wp_wk (L' := [some (2, x0), none, some (2, x2), none, some (2, 1)]) (wk_s (wk_n (wk_s (wk_n (wk_s wk_0))))) ?_
        show wpv K_X8_toThe d P 25 [some (2, x0), none, some (2, x2), none, some (2, 1)] [] G R V
        refine wp_p (i := (.lconst 0)) rfl rfl (fun _ _ _ => rfl) (?_ : wpv K_X8_toThe d P 26 [some (2, x0), none, some (2, x2), none, some (2, 1)] [(2, 0)] G R V)
        refine wp_lsto (i := (.lstore 6)) _ rfl rfl (fun _ => rfl) rfl rfl rfl ?_
        refine wp_wk (L' := [some (2, x0), none, some (2, x2), none, some (2, 1), none, some (2, 0)]) (wk_s (wk_n (wk_s (wk_n (wk_s (wk_n (wk_s wk_0))))))) ?_
        show wpv K_X8_toThe d P 28 [some (2, x0), none, some (2, x2), none, some (2, 1), none, some (2, 0)] [] G R V
        exact wp_wk (wk_s (wk_n (wk_s (wk_n (wk_s (wk_n (wk_s wk_0))))))) w
      · have q : x0 = 0 := sg_eq.mp (Decidable.not_not.mp q)
        replace w := w.2 q
        show wpv K_X8_toThe d P 20 [some (2, x0), none, some (2, x2)] [] G R V
        refine wp_p (i := (.lconst 0)) rfl rfl (fun _ _ _ => rfl) (?_ : wpv K_X8_toThe d P 21 [some (2, x0), none, some (2, x2)] [(2, 0)] G R V)
        exact wp_rJ rfl rfl rfl w
    · have q : x0 = 1 := sg_eq.mp (Decidable.not_not.mp q)
      replace w := w.2 q
      show wpv K_X8_toThe d P 12 [some (2, x0), none, some (2, x2)] [] G R V
      refine wp_p (i := (.lconst 1)) rfl rfl (fun _ _ _ => rfl) (?_ : wpv K_X8_toThe d P 13 [some (2, x0), none, some (2, x2)] [(2, 1)] G R V)
      exact wp_rJ rfl rfl rfl w

theorem t_X8_toThe_28 {d : Nat} {P : gP} {x0 : Int} {x2 : Int} {x4 : Int} {x6 : Int} {G : List gS} {R V : gV}  (w : ((i64 x6) ∧ ((i64 x2) ∧ (((¬ x6 < x2) → P (some (2, x4)) V) ∧ ((x6 < x2) → ((i64 x4) ∧ (((1000000000000000 < x4) → P (some (2, x4)) V) ∧ ((¬ 1000000000000000 < x4) → cwv d (fun r V4 => ∃ v5 : Int, r = some (2, v5) ∧ wpv K_X8_toThe d P 28 [some (2, x0), none, some (2, x2), none, some (2, v5), none, some (2, (jadd x6 1))] [] G R V4) 220 [(2, x4), (2, x0)] G R V)))))))) : wpv K_X8_toThe d P 28 [some (2, x0), none, some (2, x2), none, some (2, x4), none, some (2, x6)] [] G R V := by
  refine wp_ld (i := (.lload 6)) (2, x6) rfl rfl (fun _ => rfl) rfl rfl (?_ : wpv K_X8_toThe d P 30 [some (2, x0), none, some (2, x2), none, some (2, x4), none, some (2, x6)] [(2, x6)] G R V)
  refine wp_ld (i := (.lload_n 2)) (2, x2) rfl rfl (fun _ => rfl) rfl rfl (?_ : wpv K_X8_toThe d P 31 [some (2, x0), none, some (2, x2), none, some (2, x4), none, some (2, x6)] [(2, x2), (2, x6)] G R V)
  obtain ⟨s1, w⟩ := w
  obtain ⟨s2, w⟩ := w
  refine wp_lcmp rfl rfl s1 s2 (?_ : wpv K_X8_toThe d P 32 [some (2, x0), none, some (2, x2), none, some (2, x4), none, some (2, x6)] [(0, sg x6 x2)] G R V)
  refine wp_if (c := .ge) 61 rfl rfl rfl (sg32 _ _) (fun q => ?_) (fun q => ?_)
  · have q : ¬ x6 < x2 := fun z => q (sg_lt.mpr z)
    replace w := w.1 q
    show wpv K_X8_toThe d P 61 [some (2, x0), none, some (2, x2), none, some (2, x4), none, some (2, x6)] [] G R V
    refine wp_ld (i := (.lload 4)) (2, x4) rfl rfl (fun _ => rfl) rfl rfl (?_ : wpv K_X8_toThe d P 63 [some (2, x0), none, some (2, x2), none, some (2, x4), none, some (2, x6)] [(2, x4)] G R V)
    exact wp_rJ rfl rfl rfl w
  · have q : x6 < x2 := sg_lt.mp (Decidable.not_not.mp q)
    replace w := w.2 q
    show wpv K_X8_toThe d P 35 [some (2, x0), none, some (2, x2), none, some (2, x4), none, some (2, x6)] [] G R V
    refine wp_ld (i := (.lload 4)) (2, x4) rfl rfl (fun _ => rfl) rfl rfl (?_ : wpv K_X8_toThe d P 37 [some (2, x0), none, some (2, x2), none, some (2, x4), none, some (2, x6)] [(2, x4)] G R V)
    refine wp_p (i := (.ldc2_w 303)) rfl rfl (fun _ _ _ => rfl) (?_ : wpv K_X8_toThe d P 40 [some (2, x0), none, some (2, x2), none, some (2, x4), none, some (2, x6)] [(2, 1000000000000000), (2, x4)] G R V)
    obtain ⟨s3, w⟩ := w
    refine wp_lcmp rfl rfl s3 ⟨by omega, by omega⟩ (?_ : wpv K_X8_toThe d P 41 [some (2, x0), none, some (2, x2), none, some (2, x4), none, some (2, x6)] [(0, sg x4 1000000000000000)] G R V)
    refine wp_if (c := .gt) 61 rfl rfl rfl (sg32 _ _) (fun q => ?_) (fun q => ?_)
    · have q : 1000000000000000 < x4 := sg_gt.mp q
      replace w := w.1 q
      show wpv K_X8_toThe d P 61 [some (2, x0), none, some (2, x2), none, some (2, x4), none, some (2, x6)] [] G R V
      refine wp_ld (i := (.lload 4)) (2, x4) rfl rfl (fun _ => rfl) rfl rfl (?_ : wpv K_X8_toThe d P 63 [some (2, x0), none, some (2, x2), none, some (2, x4), none, some (2, x6)] [(2, x4)] G R V)
      exact wp_rJ rfl rfl rfl w
    · have q : ¬ 1000000000000000 < x4 := fun z => q (sg_gt.mpr z)
      replace w := w.2 q
      show wpv K_X8_toThe d P 44 [some (2, x0), none, some (2, x2), none, some (2, x4), none, some (2, x6)] [] G R V
      refine wp_ld (i := (.lload 4)) (2, x4) rfl rfl (fun _ => rfl) rfl rfl (?_ : wpv K_X8_toThe d P 46 [some (2, x0), none, some (2, x2), none, some (2, x4), none, some (2, x6)] [(2, x4)] G R V)
      refine wp_ld (i := (.lload_n 0)) (2, x0) rfl rfl (fun _ => rfl) rfl rfl (?_ : wpv K_X8_toThe d P 47 [some (2, x0), none, some (2, x2), none, some (2, x4), none, some (2, x6)] [(2, x0), (2, x4)] G R V)
      refine wp_stat (as := [(2, x4), (2, x0)]) (st := []) _ rfl rfl rfl (by omega) rfl rfl (Nat.le_of_ble_eq_true rfl) (cwv_kJ w (fun v5 V4 w => ?_))
      show wpv K_X8_toThe d P 50 [some (2, x0), none, some (2, x2), none, some (2, x4), none, some (2, x6)] [(2, v5)] G R V4
      refine wp_lsto (i := (.lstore 4)) _ rfl rfl (fun _ => rfl) rfl rfl rfl ?_
      refine wp_wk (L' := [some (2, x0), none, some (2, x2), none, some (2, v5), none, some (2, x6)]) (wk_s (wk_n (wk_s (wk_n (wk_s (wk_n (wk_s wk_0))))))) ?_
      show wpv K_X8_toThe d P 52 [some (2, x0), none, some (2, x2), none, some (2, v5), none, some (2, x6)] [] G R V4
      refine wp_ld (i := (.lload 6)) (2, x6) rfl rfl (fun _ => rfl) rfl rfl (?_ : wpv K_X8_toThe d P 54 [some (2, x0), none, some (2, x2), none, some (2, v5), none, some (2, x6)] [(2, x6)] G R V4)
      refine wp_p (i := (.lconst 1)) rfl rfl (fun _ _ _ => rfl) (?_ : wpv K_X8_toThe d P 55 [some (2, x0), none, some (2, x2), none, some (2, v5), none, some (2, x6)] [(2, 1), (2, x6)] G R V4)
      refine wp_jadd rfl rfl (?_ : wpv K_X8_toThe d P 56 [some (2, x0), none, some (2, x2), none, some (2, v5), none, some (2, x6)] [(2, (jadd x6 1))] G R V4)
      refine wp_lsto (i := (.lstore 6)) _ rfl rfl (fun _ => rfl) rfl rfl rfl ?_
      refine wp_wk (L' := [some (2, x0), none, some (2, x2), none, some (2, v5), none, some (2, (jadd x6 1))]) (wk_s (wk_n (wk_s (wk_n (wk_s (wk_n (wk_s wk_0))))))) ?_
      show wpv K_X8_toThe d P 58 [some (2, x0), none, some (2, x2), none, some (2, v5), none, some (2, (jadd x6 1))] [] G R V4
      refine wp_go 28 rfl rfl rfl (?_ : wpv K_X8_toThe d P 28 [some (2, x0), none, some (2, x2), none, some (2, v5), none, some (2, (jadd x6 1))] [] G R V4)
      exact wp_wk (wk_s (wk_n (wk_s (wk_n (wk_s (wk_n (wk_s wk_0))))))) w
theorem t_X8_sets_0 {d : Nat} {P : gP} {p0 : Nat} {x1 : Int} {x2 : Int} {G : List gS} {R V : gV} (l0 : lay8 G R p0) (w : wpv K_X8_sets d P 5 [some (4, (p0 : Int)), some (0, x1), some (0, x2), some (2, 0), none, some (0, 0)] [] G R V) : wpv K_X8_sets d P 0 [some (4, (p0 : Int)), some (0, x1), some (0, x2)] [] G R V := by
  refine wp_p (i := (.lconst 0)) rfl rfl (fun _ _ _ => rfl) (?_ : wpv K_X8_sets d P 1 [some (4, (p0 : Int)), some (0, x1), some (0, x2)] [(2, 0)] G R V)
  refine wp_lsto (i := (.lstore_n 3)) _ rfl rfl (fun _ => rfl) rfl rfl rfl ?_
  refine wp_wk (L' := [some (4, (p0 : Int)), some (0, x1), some (0, x2), some (2, 0)]) (wk_s (wk_s (wk_s (wk_s wk_0)))) ?_
  show wpv K_X8_sets d P 2 [some (4, (p0 : Int)), some (0, x1), some (0, x2), some (2, 0)] [] G R V
  refine wp_p (i := (.iconst 0)) rfl rfl (fun _ _ _ => rfl) (?_ : wpv K_X8_sets d P 3 [some (4, (p0 : Int)), some (0, x1), some (0, x2), some (2, 0)] [(0, 0)] G R V)
  refine wp_sto (i := (.istore 5)) _ rfl rfl (fun _ => rfl) rfl rfl rfl ?_
  refine wp_wk (L' := [some (4, (p0 : Int)), some (0, x1), some (0, x2), some (2, 0), none, some (0, 0)]) (wk_s (wk_s (wk_s (wk_s (wk_n (wk_s wk_0)))))) ?_
  show wpv K_X8_sets d P 5 [some (4, (p0 : Int)), some (0, x1), some (0, x2), some (2, 0), none, some (0, 0)] [] G R V
  exact wp_wk (wk_s (wk_s (wk_s (wk_s (wk_n (wk_s wk_0)))))) w

theorem t_X8_sets_5 {d : Nat} {P : gP} {p0 : Nat} {x1 : Int} {x2 : Int} {x3 : Int} {x5 : Int} {G : List gS} {R V : gV} (l0 : lay8 G R p0) (w : ((i32 (V p0 5)) → ((i32 x5) ∧ (((¬ x5 < (V p0 5)) → ((0 ≤ x2 ∧ x2 < 301) ∧ ((i32 (V (p0 + 10) x2)) → (((V (p0 + 10) x2) ≠ 0) ∧ P (some (2, (jdiv x3 ((V (p0 + 10) x2))))) V)))) ∧ ((x5 < (V p0 5)) → ((i32 (120 * x2)) ∧ ((i32 ((120 * x2) + x5)) ∧ ((0 ≤ ((120 * x2) + x5) ∧ ((120 * x2) + x5) < 36120) ∧ (((V (p0 + 9) (((120 * x2) + x5))) = 0 ∨ (V (p0 + 9) (((120 * x2) + x5))) = 1) → ((((V (p0 + 9) (((120 * x2) + x5))) = 0) → ((i32 (x5 + 1)) ∧ wpv K_X8_sets d P 5 [some (4, (p0 : Int)), some (0, x1), some (0, x2), some (2, x3), none, some (0, (x5 + 1))] [] G R V)) ∧ ((¬ (V (p0 + 9) (((120 * x2) + x5))) = 0) → cwv d (fun r V13 => ∃ v14 : Int, r = some (0, v14) ∧ ((0 ≤ v14 ∧ v14 < 300) ∧ ((i32 (V13 (p0 + 14) v14)) → cwv d (fun r V18 => ∃ v19 : Int, r = some (2, v19) ∧ ((i32 (x5 + 1)) ∧ wpv K_X8_sets d P 5 [some (4, (p0 : Int)), some (0, x1), some (0, x2), some (2, (jadd x3 v19)), none, some (0, (x5 + 1))] [] G R V18)) 210 [(4, (p0 : Int)), (0, x1), (0, (V13 (p0 + 14) v14))] G R V13))) 190 [(4, (p0 : Int)), (0, x5)] G R V))))))))))) : wpv K_X8_sets d P 5 [some (4, (p0 : Int)), some (0, x1), some (0, x2), some (2, x3), none, some (0, x5)] [] G R V := by
  refine wp_ld (i := (.iload 5)) (0, x5) rfl rfl (fun _ => rfl) rfl rfl (?_ : wpv K_X8_sets d P 7 [some (4, (p0 : Int)), some (0, x1), some (0, x2), some (2, x3), none, some (0, x5)] [(0, x5)] G R V)
  refine wp_ld (i := (.aload_n 0)) (4, (p0 : Int)) rfl rfl (fun _ => rfl) rfl rfl (?_ : wpv K_X8_sets d P 8 [some (4, (p0 : Int)), some (0, x1), some (0, x2), some (2, x3), none, some (0, x5)] [(4, (p0 : Int)), (0, x5)] G R V)
  refine wp_rng (fun vr1 => ?_)
  have f2 : i32 (V p0 5) := vr_f0 vr1 (ly8_o l0) rfl rfl
  replace w := w f2
  refine wp_getI (k := 5) rfl rfl rfl (ly8_o l0) rfl rfl (?_ : wpv K_X8_sets d P 11 [some (4, (p0 : Int)), some (0, x1), some (0, x2), some (2, x3), none, some (0, x5)] [(0, (V p0 5)), (0, x5)] G R V)
  obtain ⟨s3, w⟩ := w
  refine wp_icmp (c := .ge) 54 rfl rfl rfl s3 f2 (fun q => ?_) (fun q => ?_)
  · have q : ¬ x5 < (V p0 5) := q
    replace w := w.1 q
    show wpv K_X8_sets d P 54 [some (4, (p0 : Int)), some (0, x1), some (0, x2), some (2, x3), none, some (0, x5)] [] G R V
    refine wp_ld (i := (.lload_n 3)) (2, x3) rfl rfl (fun _ => rfl) rfl rfl (?_ : wpv K_X8_sets d P 55 [some (4, (p0 : Int)), some (0, x1), some (0, x2), some (2, x3), none, some (0, x5)] [(2, x3)] G R V)
    refine wp_ld (i := (.aload_n 0)) (4, (p0 : Int)) rfl rfl (fun _ => rfl) rfl rfl (?_ : wpv K_X8_sets d P 56 [some (4, (p0 : Int)), some (0, x1), some (0, x2), some (2, x3), none, some (0, x5)] [(4, (p0 : Int)), (2, x3)] G R V)
    refine wp_getA (k := 15) rfl rfl rfl (ly8_o l0) rfl rfl (ly8_15 l0).1 (?_ : wpv K_X8_sets d P 59 [some (4, (p0 : Int)), some (0, x1), some (0, x2), some (2, x3), none, some (0, x5)] [(4, ((p0 + 10 : Nat) : Int)), (2, x3)] G R V)
    refine wp_ld (i := (.iload_n 2)) (0, x2) rfl rfl (fun _ => rfl) rfl rfl (?_ : wpv K_X8_sets d P 60 [some (4, (p0 : Int)), some (0, x1), some (0, x2), some (2, x3), none, some (0, x5)] [(0, x2), (4, ((p0 + 10 : Nat) : Int)), (2, x3)] G R V)
    obtain ⟨s4, w⟩ := w
    have f5 : i32 (V (p0 + 10) x2) := vr_a0 vr1 (ly8_15 l0).2 s4
    replace w := w f5
    refine wp_aI rfl rfl (ly8_15 l0).2 s4 (?_ : wpv K_X8_sets d P 61 [some (4, (p0 : Int)), some (0, x1), some (0, x2), some (2, x3), none, some (0, x5)] [(0, (V (p0 + 10) x2)), (2, x3)] G R V)
    refine wp_i2l rfl rfl f5 (?_ : wpv K_X8_sets d P 62 [some (4, (p0 : Int)), some (0, x1), some (0, x2), some (2, x3), none, some (0, x5)] [(2, (V (p0 + 10) x2)), (2, x3)] G R V)
    obtain ⟨s6, w⟩ := w
    refine wp_jdiv rfl rfl (i32_64 f5) s6 (?_ : wpv K_X8_sets d P 63 [some (4, (p0 : Int)), some (0, x1), some (0, x2), some (2, x3), none, some (0, x5)] [(2, (jdiv x3 ((V (p0 + 10) x2))))] G R V)
    exact wp_rJ rfl rfl rfl w
  · have q : x5 < (V p0 5) := Decidable.not_not.mp q
    replace w := w.2 q
    show wpv K_X8_sets d P 14 [some (4, (p0 : Int)), some (0, x1), some (0, x2), some (2, x3), none, some (0, x5)] [] G R V
    refine wp_ld (i := (.aload_n 0)) (4, (p0 : Int)) rfl rfl (fun _ => rfl) rfl rfl (?_ : wpv K_X8_sets d P 15 [some (4, (p0 : Int)), some (0, x1), some (0, x2), some (2, x3), none, some (0, x5)] [(4, (p0 : Int))] G R V)
    refine wp_getA (k := 14) rfl rfl rfl (ly8_o l0) rfl rfl (ly8_14 l0).1 (?_ : wpv K_X8_sets d P 18 [some (4, (p0 : Int)), some (0, x1), some (0, x2), some (2, x3), none, some (0, x5)] [(4, ((p0 + 9 : Nat) : Int))] G R V)
    refine wp_p (i := (.bipush 120)) rfl rfl (fun _ _ _ => rfl) (?_ : wpv K_X8_sets d P 20 [some (4, (p0 : Int)), some (0, x1), some (0, x2), some (2, x3), none, some (0, x5)] [(0, 120), (4, ((p0 + 9 : Nat) : Int))] G R V)
    refine wp_ld (i := (.iload_n 2)) (0, x2) rfl rfl (fun _ => rfl) rfl rfl (?_ : wpv K_X8_sets d P 21 [some (4, (p0 : Int)), some (0, x1), some (0, x2), some (2, x3), none, some (0, x5)] [(0, x2), (0, 120), (4, ((p0 + 9 : Nat) : Int))] G R V)
    obtain ⟨s7, w⟩ := w
    refine wp_xmul rfl rfl s7 (?_ : wpv K_X8_sets d P 22 [some (4, (p0 : Int)), some (0, x1), some (0, x2), some (2, x3), none, some (0, x5)] [(0, (120 * x2)), (4, ((p0 + 9 : Nat) : Int))] G R V)
    refine wp_ld (i := (.iload 5)) (0, x5) rfl rfl (fun _ => rfl) rfl rfl (?_ : wpv K_X8_sets d P 24 [some (4, (p0 : Int)), some (0, x1), some (0, x2), some (2, x3), none, some (0, x5)] [(0, x5), (0, (120 * x2)), (4, ((p0 + 9 : Nat) : Int))] G R V)
    obtain ⟨s8, w⟩ := w
    refine wp_xadd rfl rfl s8 (?_ : wpv K_X8_sets d P 25 [some (4, (p0 : Int)), some (0, x1), some (0, x2), some (2, x3), none, some (0, x5)] [(0, ((120 * x2) + x5)), (4, ((p0 + 9 : Nat) : Int))] G R V)
    obtain ⟨s9, w⟩ := w
    have f10 : (V (p0 + 9) (((120 * x2) + x5))) = 0 ∨ (V (p0 + 9) (((120 * x2) + x5))) = 1 := vr_a2 vr1 (ly8_14 l0).2 s9
    replace w := w f10
    have f11 : i32 (V (p0 + 9) (((120 * x2) + x5))) := by unfold i32; omega
    refine wp_aB rfl rfl (ly8_14 l0).2 s9 (?_ : wpv K_X8_sets d P 26 [some (4, (p0 : Int)), some (0, x1), some (0, x2), some (2, x3), none, some (0, x5)] [(0, (V (p0 + 9) (((120 * x2) + x5))))] G R V)
    refine wp_if (c := .eq) 48 rfl rfl rfl f11 (fun q => ?_) (fun q => ?_)
    · have q : (V (p0 + 9) (((120 * x2) + x5))) = 0 := q
      replace w := w.1 q
      show wpv K_X8_sets d P 48 [some (4, (p0 : Int)), some (0, x1), some (0, x2), some (2, x3), none, some (0, x5)] [] G R V
      obtain ⟨s12, w⟩ := w
      refine wp_inc (x := 5) (k := 1) (a := x5) (c := (x5 + 1)) _ rfl rfl rfl rfl s12 (by omega) rfl ?_
      show wpv K_X8_sets d P 51 [some (4, (p0 : Int)), some (0, x1), some (0, x2), some (2, x3), none, some (0, (x5 + 1))] [] G R V
      refine wp_go 5 rfl rfl rfl (?_ : wpv K_X8_sets d P 5 [some (4, (p0 : Int)), some (0, x1), some (0, x2), some (2, x3), none, some (0, (x5 + 1))] [] G R V)
      exact wp_wk (wk_s (wk_s (wk_s (wk_s (wk_n (wk_s wk_0)))))) w
    · have q : ¬ (V (p0 + 9) (((120 * x2) + x5))) = 0 := q
      replace w := w.2 q
      show wpv K_X8_sets d P 29 [some (4, (p0 : Int)), some (0, x1), some (0, x2), some (2, x3), none, some (0, x5)] [] G R V
      refine wp_ld (i := (.lload_n 3)) (2, x3) rfl rfl (fun _ => rfl) rfl rfl (?_ : wpv K_X8_sets d P 30 [some (4, (p0 : Int)), some (0, x1), some (0, x2), some (2, x3), none, some (0, x5)] [(2, x3)] G R V)
      refine wp_ld (i := (.aload_n 0)) (4, (p0 : Int)) rfl rfl (fun _ => rfl) rfl rfl (?_ : wpv K_X8_sets d P 31 [some (4, (p0 : Int)), some (0, x1), some (0, x2), some (2, x3), none, some (0, x5)] [(4, (p0 : Int)), (2, x3)] G R V)
      refine wp_ld (i := (.iload_n 1)) (0, x1) rfl rfl (fun _ => rfl) rfl rfl (?_ : wpv K_X8_sets d P 32 [some (4, (p0 : Int)), some (0, x1), some (0, x2), some (2, x3), none, some (0, x5)] [(0, x1), (4, (p0 : Int)), (2, x3)] G R V)
      refine wp_ld (i := (.aload_n 0)) (4, (p0 : Int)) rfl rfl (fun _ => rfl) rfl rfl (?_ : wpv K_X8_sets d P 33 [some (4, (p0 : Int)), some (0, x1), some (0, x2), some (2, x3), none, some (0, x5)] [(4, (p0 : Int)), (0, x1), (4, (p0 : Int)), (2, x3)] G R V)
      refine wp_getA (k := 19) rfl rfl rfl (ly8_o l0) rfl rfl (ly8_19 l0).1 (?_ : wpv K_X8_sets d P 36 [some (4, (p0 : Int)), some (0, x1), some (0, x2), some (2, x3), none, some (0, x5)] [(4, ((p0 + 14 : Nat) : Int)), (0, x1), (4, (p0 : Int)), (2, x3)] G R V)
      refine wp_ld (i := (.aload_n 0)) (4, (p0 : Int)) rfl rfl (fun _ => rfl) rfl rfl (?_ : wpv K_X8_sets d P 37 [some (4, (p0 : Int)), some (0, x1), some (0, x2), some (2, x3), none, some (0, x5)] [(4, (p0 : Int)), (4, ((p0 + 14 : Nat) : Int)), (0, x1), (4, (p0 : Int)), (2, x3)] G R V)
      refine wp_ld (i := (.iload 5)) (0, x5) rfl rfl (fun _ => rfl) rfl rfl (?_ : wpv K_X8_sets d P 39 [some (4, (p0 : Int)), some (0, x1), some (0, x2), some (2, x3), none, some (0, x5)] [(0, x5), (4, (p0 : Int)), (4, ((p0 + 14 : Nat) : Int)), (0, x1), (4, (p0 : Int)), (2, x3)] G R V)
      refine wp_virt (as := [(0, x5)]) (a := p0) (st := [(4, ((p0 + 14 : Nat) : Int)), (0, x1), (4, (p0 : Int)), (2, x3)]) _ rfl rfl rfl rfl rfl rfl (ly8_o l0) (Nat.le_of_ble_eq_true rfl) (cwv_kI w (fun v14 V13 w => ?_))
      show wpv K_X8_sets d P 42 [some (4, (p0 : Int)), some (0, x1), some (0, x2), some (2, x3), none, some (0, x5)] [(0, v14), (4, ((p0 + 14 : Nat) : Int)), (0, x1), (4, (p0 : Int)), (2, x3)] G R V13
      obtain ⟨s15, w⟩ := w
      refine wp_rng (fun vr16 => ?_)
      have f17 : i32 (V13 (p0 + 14) v14) := vr_a0 vr16 (ly8_19 l0).2 s15
      replace w := w f17
      refine wp_aI rfl rfl (ly8_19 l0).2 s15 (?_ : wpv K_X8_sets d P 43 [some (4, (p0 : Int)), some (0, x1), some (0, x2), some (2, x3), none, some (0, x5)] [(0, (V13 (p0 + 14) v14)), (0, x1), (4, (p0 : Int)), (2, x3)] G R V13)
      refine wp_virt (as := [(0, x1), (0, (V13 (p0 + 14) v14))]) (a := p0) (st := [(2, x3)]) _ rfl rfl rfl rfl rfl rfl (ly8_o l0) (Nat.le_of_ble_eq_true rfl) (cwv_kJ w (fun v19 V18 w => ?_))
      show wpv K_X8_sets d P 46 [some (4, (p0 : Int)), some (0, x1), some (0, x2), some (2, x3), none, some (0, x5)] [(2, v19), (2, x3)] G R V18
      refine wp_jadd rfl rfl (?_ : wpv K_X8_sets d P 47 [some (4, (p0 : Int)), some (0, x1), some (0, x2), some (2, x3), none, some (0, x5)] [(2, (jadd x3 v19))] G R V18)
      refine wp_lsto (i := (.lstore_n 3)) _ rfl rfl (fun _ => rfl) rfl rfl rfl ?_
      refine wp_wk (L' := [some (4, (p0 : Int)), some (0, x1), some (0, x2), some (2, (jadd x3 v19)), none, some (0, x5)]) (wk_s (wk_s (wk_s (wk_s (wk_n (wk_s wk_0)))))) ?_
      show wpv K_X8_sets d P 48 [some (4, (p0 : Int)), some (0, x1), some (0, x2), some (2, (jadd x3 v19)), none, some (0, x5)] [] G R V18
      obtain ⟨s20, w⟩ := w
      refine wp_inc (x := 5) (k := 1) (a := x5) (c := (x5 + 1)) _ rfl rfl rfl rfl s20 (by omega) rfl ?_
      show wpv K_X8_sets d P 51 [some (4, (p0 : Int)), some (0, x1), some (0, x2), some (2, (jadd x3 v19)), none, some (0, (x5 + 1))] [] G R V18
      refine wp_go 5 rfl rfl rfl (?_ : wpv K_X8_sets d P 5 [some (4, (p0 : Int)), some (0, x1), some (0, x2), some (2, (jadd x3 v19)), none, some (0, (x5 + 1))] [] G R V18)
      exact wp_wk (wk_s (wk_s (wk_s (wk_s (wk_n (wk_s wk_0)))))) w
theorem t_X8_colour_0 {d : Nat} {P : gP} {p0 : Nat} {x1 : Int} {x2 : Int} {x3 : Int} {G : List gS} {R V : gV} (l0 : lay8 G R p0) (w : cwv d (fun r V1 => ∃ v2 : Int, r = some (0, v2) ∧ ((i32 v2) ∧ (((v2 = 0) → cwv d (fun r V4 => ∃ v5 : Int, r = some (2, v5) ∧ P (some (2, v5)) V4) 161 [(4, (p0 : Int)), (2, (-1))] G R V1) ∧ ((¬ v2 = 0) → ((i32 x3) ∧ cwv d (fun r V7 => ∃ v8 : Int, r = some (0, v8) ∧ ((i32 v8) ∧ (((¬ v8 = 0) → cwv d (fun r V10 => ∃ v11 : Int, r = some (0, v11) ∧ ((i32 v11) ∧ (((¬ v11 = 0) → cwv d (fun r V13 => ∃ v14 : Int, r = some (2, v14) ∧ cwv d (fun r V15 => ∃ v16 : Int, r = some (2, v16) ∧ ((i64 v16) ∧ (((¬ 1000000000000000 < v16) → wpv K_X8_colour d P 71 [some (4, (p0 : Int)), some (0, x1), some (0, x2), some (0, x3), some (0, 0)] [] G R V15) ∧ ((1000000000000000 < v16) → cwv d (fun r V18 => ∃ v19 : Int, r = some (2, v19) ∧ P (some (2, v19)) V18) 161 [(4, (p0 : Int)), (2, (-5))] G R V15)))) 222 [(2, x3), (2, v14)] G R V13) 211 [(4, (p0 : Int)), (0, x2)] G R V10) ∧ ((v11 = 0) → cwv d (fun r V20 => ∃ v21 : Int, r = some (2, v21) ∧ P (some (2, v21)) V20) 161 [(4, (p0 : Int)), (2, (-2))] G R V10)))) 209 [(4, (p0 : Int)), (0, x2)] G R V7) ∧ ((v8 = 0) → cwv d (fun r V22 => ∃ v23 : Int, r = some (2, v23) ∧ P (some (2, v23)) V22) 161 [(4, (p0 : Int)), (2, (-1))] G R V7)))) 159 [(2, x3), (2, 0), (2, 100)] G R V1))))) 208 [(0, x1)] G R V) : wpv K_X8_colour d P 0 [some (4, (p0 : Int)), some (0, x1), some (0, x2), some (0, x3)] [] G R V := by
  refine wp_ld (i := (.iload_n 1)) (0, x1) rfl rfl (fun _ => rfl) rfl rfl (?_ : wpv K_X8_colour d P 1 [some (4, (p0 : Int)), some (0, x1), some (0, x2), some (0, x3)] [(0, x1)] G R V)
  refine wp_stat (as := [(0, x1)]) (st := []) _ rfl rfl rfl (by omega) rfl rfl (Nat.le_of_ble_eq_true rfl) (cwv_kI w (fun v2 V1 w => ?_))
  show wpv K_X8_colour d P 4 [some (4, (p0 : Int)), some (0, x1), some (0, x2), some (0, x3)] [(0, v2)] G R V1
  obtain ⟨s3, w⟩ := w
  refine wp_if (c := .eq) 19 rfl rfl rfl s3 (fun q => ?_) (fun q => ?_)
  · have q : v2 = 0 := q
    replace w := w.1 q
    show wpv K_X8_colour d P 19 [some (4, (p0 : Int)), some (0, x1), some (0, x2), some (0, x3)] [] G R V1
    refine wp_ld (i := (.aload_n 0)) (4, (p0 : Int)) rfl rfl (fun _ => rfl) rfl rfl (?_ : wpv K_X8_colour d P 20 [some (4, (p0 : Int)), some (0, x1), some (0, x2), some (0, x3)] [(4, (p0 : Int))] G R V1)
    refine wp_p (i := (.ldc2_w 287)) rfl rfl (fun _ _ _ => rfl) (?_ : wpv K_X8_colour d P 23 [some (4, (p0 : Int)), some (0, x1), some (0, x2), some (0, x3)] [(2, (-1)), (4, (p0 : Int))] G R V1)
    refine wp_virt (as := [(2, (-1))]) (a := p0) (st := []) _ rfl rfl rfl rfl rfl rfl (ly8_o l0) (Nat.le_of_ble_eq_true rfl) (cwv_kJ w (fun v5 V4 w => ?_))
    show wpv K_X8_colour d P 26 [some (4, (p0 : Int)), some (0, x1), some (0, x2), some (0, x3)] [(2, v5)] G R V4
    exact wp_rJ rfl rfl rfl w
  · have q : ¬ v2 = 0 := q
    replace w := w.2 q
    show wpv K_X8_colour d P 7 [some (4, (p0 : Int)), some (0, x1), some (0, x2), some (0, x3)] [] G R V1
    refine wp_ld (i := (.iload_n 3)) (0, x3) rfl rfl (fun _ => rfl) rfl rfl (?_ : wpv K_X8_colour d P 8 [some (4, (p0 : Int)), some (0, x1), some (0, x2), some (0, x3)] [(0, x3)] G R V1)
    obtain ⟨s6, w⟩ := w
    refine wp_i2l rfl rfl s6 (?_ : wpv K_X8_colour d P 9 [some (4, (p0 : Int)), some (0, x1), some (0, x2), some (0, x3)] [(2, x3)] G R V1)
    refine wp_p (i := (.lconst 0)) rfl rfl (fun _ _ _ => rfl) (?_ : wpv K_X8_colour d P 10 [some (4, (p0 : Int)), some (0, x1), some (0, x2), some (0, x3)] [(2, 0), (2, x3)] G R V1)
    refine wp_p (i := (.ldc2_w 316)) rfl rfl (fun _ _ _ => rfl) (?_ : wpv K_X8_colour d P 13 [some (4, (p0 : Int)), some (0, x1), some (0, x2), some (0, x3)] [(2, 100), (2, 0), (2, x3)] G R V1)
    refine wp_stat (as := [(2, x3), (2, 0), (2, 100)]) (st := []) _ rfl rfl rfl (by omega) rfl rfl (Nat.le_of_ble_eq_true rfl) (cwv_kI w (fun v8 V7 w => ?_))
    show wpv K_X8_colour d P 16 [some (4, (p0 : Int)), some (0, x1), some (0, x2), some (0, x3)] [(0, v8)] G R V7
    obtain ⟨s9, w⟩ := w
    refine wp_if (c := .ne) 27 rfl rfl rfl s9 (fun q => ?_) (fun q => ?_)
    · have q : ¬ v8 = 0 := q
      replace w := w.1 q
      show wpv K_X8_colour d P 27 [some (4, (p0 : Int)), some (0, x1), some (0, x2), some (0, x3)] [] G R V7
      refine wp_ld (i := (.aload_n 0)) (4, (p0 : Int)) rfl rfl (fun _ => rfl) rfl rfl (?_ : wpv K_X8_colour d P 28 [some (4, (p0 : Int)), some (0, x1), some (0, x2), some (0, x3)] [(4, (p0 : Int))] G R V7)
      refine wp_ld (i := (.iload_n 2)) (0, x2) rfl rfl (fun _ => rfl) rfl rfl (?_ : wpv K_X8_colour d P 29 [some (4, (p0 : Int)), some (0, x1), some (0, x2), some (0, x3)] [(0, x2), (4, (p0 : Int))] G R V7)
      refine wp_virt (as := [(0, x2)]) (a := p0) (st := []) _ rfl rfl rfl rfl rfl rfl (ly8_o l0) (Nat.le_of_ble_eq_true rfl) (cwv_kI w (fun v11 V10 w => ?_))
      show wpv K_X8_colour d P 32 [some (4, (p0 : Int)), some (0, x1), some (0, x2), some (0, x3)] [(0, v11)] G R V10
      obtain ⟨s12, w⟩ := w
      refine wp_if (c := .ne) 43 rfl rfl rfl s12 (fun q => ?_) (fun q => ?_)
      · have q : ¬ v11 = 0 := q
        replace w := w.1 q
        show wpv K_X8_colour d P 43 [some (4, (p0 : Int)), some (0, x1), some (0, x2), some (0, x3)] [] G R V10
        refine wp_ld (i := (.iload_n 3)) (0, x3) rfl rfl (fun _ => rfl) rfl rfl (?_ : wpv K_X8_colour d P 44 [some (4, (p0 : Int)), some (0, x1), some (0, x2), some (0, x3)] [(0, x3)] G R V10)
        refine wp_i2l rfl rfl s6 (?_ : wpv K_X8_colour d P 45 [some (4, (p0 : Int)), some (0, x1), some (0, x2), some (0, x3)] [(2, x3)] G R V10)
        refine wp_ld (i := (.aload_n 0)) (4, (p0 : Int)) rfl rfl (fun _ => rfl) rfl rfl (?_ : wpv K_X8_colour d P 46 [some (4, (p0 : Int)), some (0, x1), some (0, x2), some (0, x3)] [(4, (p0 : Int)), (2, x3)] G R V10)
        refine wp_ld (i := (.iload_n 2)) (0, x2) rfl rfl (fun _ => rfl) rfl rfl (?_ : wpv K_X8_colour d P 47 [some (4, (p0 : Int)), some (0, x1), some (0, x2), some (0, x3)] [(0, x2), (4, (p0 : Int)), (2, x3)] G R V10)
        refine wp_virt (as := [(0, x2)]) (a := p0) (st := [(2, x3)]) _ rfl rfl rfl rfl rfl rfl (ly8_o l0) (Nat.le_of_ble_eq_true rfl) (cwv_kJ w (fun v14 V13 w => ?_))
        show wpv K_X8_colour d P 50 [some (4, (p0 : Int)), some (0, x1), some (0, x2), some (0, x3)] [(2, v14), (2, x3)] G R V13
        refine wp_stat (as := [(2, x3), (2, v14)]) (st := []) _ rfl rfl rfl (by omega) rfl rfl (Nat.le_of_ble_eq_true rfl) (cwv_kJ w (fun v16 V15 w => ?_))
        show wpv K_X8_colour d P 53 [some (4, (p0 : Int)), some (0, x1), some (0, x2), some (0, x3)] [(2, v16)] G R V15
        refine wp_p (i := (.ldc2_w 303)) rfl rfl (fun _ _ _ => rfl) (?_ : wpv K_X8_colour d P 56 [some (4, (p0 : Int)), some (0, x1), some (0, x2), some (0, x3)] [(2, 1000000000000000), (2, v16)] G R V15)
        obtain ⟨s17, w⟩ := w
        refine wp_lcmp rfl rfl s17 ⟨by omega, by omega⟩ (?_ : wpv K_X8_colour d P 57 [some (4, (p0 : Int)), some (0, x1), some (0, x2), some (0, x3)] [(0, sg v16 1000000000000000)] G R V15)
        refine wp_if (c := .le) 68 rfl rfl rfl (sg32 _ _) (fun q => ?_) (fun q => ?_)
        · have q : ¬ 1000000000000000 < v16 := fun z => q (sg_gt.mpr z)
          replace w := w.1 q
          show wpv K_X8_colour d P 68 [some (4, (p0 : Int)), some (0, x1), some (0, x2), some (0, x3)] [] G R V15
          refine wp_p (i := (.iconst 0)) rfl rfl (fun _ _ _ => rfl) (?_ : wpv K_X8_colour d P 69 [some (4, (p0 : Int)), some (0, x1), some (0, x2), some (0, x3)] [(0, 0)] G R V15)
          refine wp_sto (i := (.istore 4)) _ rfl rfl (fun _ => rfl) rfl rfl rfl ?_
          refine wp_wk (L' := [some (4, (p0 : Int)), some (0, x1), some (0, x2), some (0, x3), some (0, 0)]) (wk_s (wk_s (wk_s (wk_s (wk_s wk_0))))) ?_
          show wpv K_X8_colour d P 71 [some (4, (p0 : Int)), some (0, x1), some (0, x2), some (0, x3), some (0, 0)] [] G R V15
          exact wp_wk (wk_s (wk_s (wk_s (wk_s (wk_s wk_0))))) w
        · have q : 1000000000000000 < v16 := sg_gt.mp (Decidable.not_not.mp q)
          replace w := w.2 q
          show wpv K_X8_colour d P 60 [some (4, (p0 : Int)), some (0, x1), some (0, x2), some (0, x3)] [] G R V15
          refine wp_ld (i := (.aload_n 0)) (4, (p0 : Int)) rfl rfl (fun _ => rfl) rfl rfl (?_ : wpv K_X8_colour d P 61 [some (4, (p0 : Int)), some (0, x1), some (0, x2), some (0, x3)] [(4, (p0 : Int))] G R V15)
          refine wp_p (i := (.ldc2_w 314)) rfl rfl (fun _ _ _ => rfl) (?_ : wpv K_X8_colour d P 64 [some (4, (p0 : Int)), some (0, x1), some (0, x2), some (0, x3)] [(2, (-5)), (4, (p0 : Int))] G R V15)
          refine wp_virt (as := [(2, (-5))]) (a := p0) (st := []) _ rfl rfl rfl rfl rfl rfl (ly8_o l0) (Nat.le_of_ble_eq_true rfl) (cwv_kJ w (fun v19 V18 w => ?_))
          show wpv K_X8_colour d P 67 [some (4, (p0 : Int)), some (0, x1), some (0, x2), some (0, x3)] [(2, v19)] G R V18
          exact wp_rJ rfl rfl rfl w
      · have q : v11 = 0 := Decidable.not_not.mp q
        replace w := w.2 q
        show wpv K_X8_colour d P 35 [some (4, (p0 : Int)), some (0, x1), some (0, x2), some (0, x3)] [] G R V10
        refine wp_ld (i := (.aload_n 0)) (4, (p0 : Int)) rfl rfl (fun _ => rfl) rfl rfl (?_ : wpv K_X8_colour d P 36 [some (4, (p0 : Int)), some (0, x1), some (0, x2), some (0, x3)] [(4, (p0 : Int))] G R V10)
        refine wp_p (i := (.ldc2_w 289)) rfl rfl (fun _ _ _ => rfl) (?_ : wpv K_X8_colour d P 39 [some (4, (p0 : Int)), some (0, x1), some (0, x2), some (0, x3)] [(2, (-2)), (4, (p0 : Int))] G R V10)
        refine wp_virt (as := [(2, (-2))]) (a := p0) (st := []) _ rfl rfl rfl rfl rfl rfl (ly8_o l0) (Nat.le_of_ble_eq_true rfl) (cwv_kJ w (fun v21 V20 w => ?_))
        show wpv K_X8_colour d P 42 [some (4, (p0 : Int)), some (0, x1), some (0, x2), some (0, x3)] [(2, v21)] G R V20
        exact wp_rJ rfl rfl rfl w
    · have q : v8 = 0 := Decidable.not_not.mp q
      replace w := w.2 q
      show wpv K_X8_colour d P 19 [some (4, (p0 : Int)), some (0, x1), some (0, x2), some (0, x3)] [] G R V7
      refine wp_ld (i := (.aload_n 0)) (4, (p0 : Int)) rfl rfl (fun _ => rfl) rfl rfl (?_ : wpv K_X8_colour d P 20 [some (4, (p0 : Int)), some (0, x1), some (0, x2), some (0, x3)] [(4, (p0 : Int))] G R V7)
      refine wp_p (i := (.ldc2_w 287)) rfl rfl (fun _ _ _ => rfl) (?_ : wpv K_X8_colour d P 23 [some (4, (p0 : Int)), some (0, x1), some (0, x2), some (0, x3)] [(2, (-1)), (4, (p0 : Int))] G R V7)
      refine wp_virt (as := [(2, (-1))]) (a := p0) (st := []) _ rfl rfl rfl rfl rfl rfl (ly8_o l0) (Nat.le_of_ble_eq_true rfl) (cwv_kJ w (fun v23 V22 w => ?_))
      show wpv K_X8_colour d P 26 [some (4, (p0 : Int)), some (0, x1), some (0, x2), some (0, x3)] [(2, v23)] G R V22
      exact wp_rJ rfl rfl rfl w

theorem t_X8_colour_71 {d : Nat} {P : gP} {p0 : Nat} {x1 : Int} {x2 : Int} {x3 : Int} {x4 : Int} {G : List gS} {R V : gV} (l0 : lay8 G R p0) (w : ((i32 (V p0 13)) → ((i32 x4) ∧ (((¬ x4 < (V p0 13)) → cwv d (fun r V4 => ∃ v5 : Int, r = some (2, v5) ∧ P (some (2, v5)) V4) 212 [(4, (p0 : Int)), (0, x1)] G R V) ∧ ((x4 < (V p0 13)) → ((i32 x3) ∧ ((0 ≤ x4 ∧ x4 < 300) ∧ ((i32 (V (p0 + 15) x4)) → cwv d (fun r V9 => ∃ v10 : Int, r = some (2, v10) ∧ cwv d (fun r V11 => ∃ v12 : Int, r = some (2, v12) ∧ ((i64 v12) ∧ ((i32 (x4 + 1)) ∧ wpv K_X8_colour d P 71 [some (4, (p0 : Int)), some (0, x1), some (0, x2), some (0, x3), some (0, (x4 + 1))] [] G R (wr V11 (p0 + 23) x4 v12)))) 222 [(2, x3), (2, v10)] G R V9) 223 [(4, (p0 : Int)), (0, x2), (0, (V (p0 + 15) x4))] G R V)))))))) : wpv K_X8_colour d P 71 [some (4, (p0 : Int)), some (0, x1), some (0, x2), some (0, x3), some (0, x4)] [] G R V := by
  refine wp_ld (i := (.iload 4)) (0, x4) rfl rfl (fun _ => rfl) rfl rfl (?_ : wpv K_X8_colour d P 73 [some (4, (p0 : Int)), some (0, x1), some (0, x2), some (0, x3), some (0, x4)] [(0, x4)] G R V)
  refine wp_ld (i := (.aload_n 0)) (4, (p0 : Int)) rfl rfl (fun _ => rfl) rfl rfl (?_ : wpv K_X8_colour d P 74 [some (4, (p0 : Int)), some (0, x1), some (0, x2), some (0, x3), some (0, x4)] [(4, (p0 : Int)), (0, x4)] G R V)
  refine wp_rng (fun vr1 => ?_)
  have f2 : i32 (V p0 13) := vr_f0 vr1 (ly8_o l0) rfl rfl
  replace w := w f2
  refine wp_getI (k := 13) rfl rfl rfl (ly8_o l0) rfl rfl (?_ : wpv K_X8_colour d P 77 [some (4, (p0 : Int)), some (0, x1), some (0, x2), some (0, x3), some (0, x4)] [(0, (V p0 13)), (0, x4)] G R V)
  obtain ⟨s3, w⟩ := w
  refine wp_icmp (c := .ge) 110 rfl rfl rfl s3 f2 (fun q => ?_) (fun q => ?_)
  · have q : ¬ x4 < (V p0 13) := q
    replace w := w.1 q
    show wpv K_X8_colour d P 110 [some (4, (p0 : Int)), some (0, x1), some (0, x2), some (0, x3), some (0, x4)] [] G R V
    refine wp_ld (i := (.aload_n 0)) (4, (p0 : Int)) rfl rfl (fun _ => rfl) rfl rfl (?_ : wpv K_X8_colour d P 111 [some (4, (p0 : Int)), some (0, x1), some (0, x2), some (0, x3), some (0, x4)] [(4, (p0 : Int))] G R V)
    refine wp_ld (i := (.iload_n 1)) (0, x1) rfl rfl (fun _ => rfl) rfl rfl (?_ : wpv K_X8_colour d P 112 [some (4, (p0 : Int)), some (0, x1), some (0, x2), some (0, x3), some (0, x4)] [(0, x1), (4, (p0 : Int))] G R V)
    refine wp_virt (as := [(0, x1)]) (a := p0) (st := []) _ rfl rfl rfl rfl rfl rfl (ly8_o l0) (Nat.le_of_ble_eq_true rfl) (cwv_kJ w (fun v5 V4 w => ?_))
    show wpv K_X8_colour d P 115 [some (4, (p0 : Int)), some (0, x1), some (0, x2), some (0, x3), some (0, x4)] [(2, v5)] G R V4
    exact wp_rJ rfl rfl rfl w
  · have q : x4 < (V p0 13) := Decidable.not_not.mp q
    replace w := w.2 q
    show wpv K_X8_colour d P 80 [some (4, (p0 : Int)), some (0, x1), some (0, x2), some (0, x3), some (0, x4)] [] G R V
    refine wp_ld (i := (.aload_n 0)) (4, (p0 : Int)) rfl rfl (fun _ => rfl) rfl rfl (?_ : wpv K_X8_colour d P 81 [some (4, (p0 : Int)), some (0, x1), some (0, x2), some (0, x3), some (0, x4)] [(4, (p0 : Int))] G R V)
    refine wp_getA (k := 30) rfl rfl rfl (ly8_o l0) rfl rfl (ly8_30 l0).1 (?_ : wpv K_X8_colour d P 84 [some (4, (p0 : Int)), some (0, x1), some (0, x2), some (0, x3), some (0, x4)] [(4, ((p0 + 23 : Nat) : Int))] G R V)
    refine wp_ld (i := (.iload 4)) (0, x4) rfl rfl (fun _ => rfl) rfl rfl (?_ : wpv K_X8_colour d P 86 [some (4, (p0 : Int)), some (0, x1), some (0, x2), some (0, x3), some (0, x4)] [(0, x4), (4, ((p0 + 23 : Nat) : Int))] G R V)
    refine wp_ld (i := (.iload_n 3)) (0, x3) rfl rfl (fun _ => rfl) rfl rfl (?_ : wpv K_X8_colour d P 87 [some (4, (p0 : Int)), some (0, x1), some (0, x2), some (0, x3), some (0, x4)] [(0, x3), (0, x4), (4, ((p0 + 23 : Nat) : Int))] G R V)
    obtain ⟨s6, w⟩ := w
    refine wp_i2l rfl rfl s6 (?_ : wpv K_X8_colour d P 88 [some (4, (p0 : Int)), some (0, x1), some (0, x2), some (0, x3), some (0, x4)] [(2, x3), (0, x4), (4, ((p0 + 23 : Nat) : Int))] G R V)
    refine wp_ld (i := (.aload_n 0)) (4, (p0 : Int)) rfl rfl (fun _ => rfl) rfl rfl (?_ : wpv K_X8_colour d P 89 [some (4, (p0 : Int)), some (0, x1), some (0, x2), some (0, x3), some (0, x4)] [(4, (p0 : Int)), (2, x3), (0, x4), (4, ((p0 + 23 : Nat) : Int))] G R V)
    refine wp_ld (i := (.iload_n 2)) (0, x2) rfl rfl (fun _ => rfl) rfl rfl (?_ : wpv K_X8_colour d P 90 [some (4, (p0 : Int)), some (0, x1), some (0, x2), some (0, x3), some (0, x4)] [(0, x2), (4, (p0 : Int)), (2, x3), (0, x4), (4, ((p0 + 23 : Nat) : Int))] G R V)
    refine wp_ld (i := (.aload_n 0)) (4, (p0 : Int)) rfl rfl (fun _ => rfl) rfl rfl (?_ : wpv K_X8_colour d P 91 [some (4, (p0 : Int)), some (0, x1), some (0, x2), some (0, x3), some (0, x4)] [(4, (p0 : Int)), (0, x2), (4, (p0 : Int)), (2, x3), (0, x4), (4, ((p0 + 23 : Nat) : Int))] G R V)
    refine wp_getA (k := 20) rfl rfl rfl (ly8_o l0) rfl rfl (ly8_20 l0).1 (?_ : wpv K_X8_colour d P 94 [some (4, (p0 : Int)), some (0, x1), some (0, x2), some (0, x3), some (0, x4)] [(4, ((p0 + 15 : Nat) : Int)), (0, x2), (4, (p0 : Int)), (2, x3), (0, x4), (4, ((p0 + 23 : Nat) : Int))] G R V)
    refine wp_ld (i := (.iload 4)) (0, x4) rfl rfl (fun _ => rfl) rfl rfl (?_ : wpv K_X8_colour d P 96 [some (4, (p0 : Int)), some (0, x1), some (0, x2), some (0, x3), some (0, x4)] [(0, x4), (4, ((p0 + 15 : Nat) : Int)), (0, x2), (4, (p0 : Int)), (2, x3), (0, x4), (4, ((p0 + 23 : Nat) : Int))] G R V)
    obtain ⟨s7, w⟩ := w
    have f8 : i32 (V (p0 + 15) x4) := vr_a0 vr1 (ly8_20 l0).2 s7
    replace w := w f8
    refine wp_aI rfl rfl (ly8_20 l0).2 s7 (?_ : wpv K_X8_colour d P 97 [some (4, (p0 : Int)), some (0, x1), some (0, x2), some (0, x3), some (0, x4)] [(0, (V (p0 + 15) x4)), (0, x2), (4, (p0 : Int)), (2, x3), (0, x4), (4, ((p0 + 23 : Nat) : Int))] G R V)
    refine wp_virt (as := [(0, x2), (0, (V (p0 + 15) x4))]) (a := p0) (st := [(2, x3), (0, x4), (4, ((p0 + 23 : Nat) : Int))]) _ rfl rfl rfl rfl rfl rfl (ly8_o l0) (Nat.le_of_ble_eq_true rfl) (cwv_kJ w (fun v10 V9 w => ?_))
    show wpv K_X8_colour d P 100 [some (4, (p0 : Int)), some (0, x1), some (0, x2), some (0, x3), some (0, x4)] [(2, v10), (2, x3), (0, x4), (4, ((p0 + 23 : Nat) : Int))] G R V9
    refine wp_stat (as := [(2, x3), (2, v10)]) (st := [(0, x4), (4, ((p0 + 23 : Nat) : Int))]) _ rfl rfl rfl (by omega) rfl rfl (Nat.le_of_ble_eq_true rfl) (cwv_kJ w (fun v12 V11 w => ?_))
    show wpv K_X8_colour d P 103 [some (4, (p0 : Int)), some (0, x1), some (0, x2), some (0, x3), some (0, x4)] [(2, v12), (0, x4), (4, ((p0 + 23 : Nat) : Int))] G R V11
    obtain ⟨s13, w⟩ := w
    refine wp_sJ rfl rfl (ly8_30 l0).2 s7 s13 (?_ : wpv K_X8_colour d P 104 [some (4, (p0 : Int)), some (0, x1), some (0, x2), some (0, x3), some (0, x4)] [] G R (wr V11 (p0 + 23) x4 v12))
    obtain ⟨s14, w⟩ := w
    refine wp_inc (x := 4) (k := 1) (a := x4) (c := (x4 + 1)) _ rfl rfl rfl rfl s14 (by omega) rfl ?_
    show wpv K_X8_colour d P 107 [some (4, (p0 : Int)), some (0, x1), some (0, x2), some (0, x3), some (0, (x4 + 1))] [] G R (wr V11 (p0 + 23) x4 v12)
    refine wp_go 71 rfl rfl rfl (?_ : wpv K_X8_colour d P 71 [some (4, (p0 : Int)), some (0, x1), some (0, x2), some (0, x3), some (0, (x4 + 1))] [] G R (wr V11 (p0 + 23) x4 v12))
    exact wp_wk (wk_s (wk_s (wk_s (wk_s (wk_s wk_0))))) w
theorem t_X8_many_0 {d : Nat} {P : gP} {p0 : Nat} {x1 : Int} {x2 : Int} {x3 : Int} {G : List gS} {R V : gV} (l0 : lay8 G R p0) (w : cwv d (fun r V1 => ∃ v2 : Int, r = some (0, v2) ∧ ((i32 v2) ∧ (((v2 = 0) → cwv d (fun r V4 => ∃ v5 : Int, r = some (2, v5) ∧ P (some (2, v5)) V4) 161 [(4, (p0 : Int)), (2, (-1))] G R V1) ∧ ((¬ v2 = 0) → ((i32 x3) ∧ cwv d (fun r V7 => ∃ v8 : Int, r = some (0, v8) ∧ ((i32 v8) ∧ (((¬ v8 = 0) → cwv d (fun r V10 => ∃ v11 : Int, r = some (0, v11) ∧ ((i32 v11) ∧ (((¬ v11 = 0) → cwv d (fun r V13 => ∃ v14 : Int, r = some (2, v14) ∧ cwv d (fun r V15 => ∃ v16 : Int, r = some (2, v16) ∧ ((i64 v16) ∧ (((¬ 1000000000000000 < v16) → wpv K_X8_many d P 71 [some (4, (p0 : Int)), some (0, x1), some (0, x2), some (0, x3), some (0, 0)] [] G R V15) ∧ ((1000000000000000 < v16) → cwv d (fun r V18 => ∃ v19 : Int, r = some (2, v19) ∧ P (some (2, v19)) V18) 161 [(4, (p0 : Int)), (2, (-5))] G R V15)))) 220 [(2, v14), (2, x3)] G R V13) 211 [(4, (p0 : Int)), (0, x2)] G R V10) ∧ ((v11 = 0) → cwv d (fun r V20 => ∃ v21 : Int, r = some (2, v21) ∧ P (some (2, v21)) V20) 161 [(4, (p0 : Int)), (2, (-2))] G R V10)))) 209 [(4, (p0 : Int)), (0, x2)] G R V7) ∧ ((v8 = 0) → cwv d (fun r V22 => ∃ v23 : Int, r = some (2, v23) ∧ P (some (2, v23)) V22) 161 [(4, (p0 : Int)), (2, (-1))] G R V7)))) 159 [(2, x3), (2, 0), (2, 1000000)] G R V1))))) 208 [(0, x1)] G R V) : wpv K_X8_many d P 0 [some (4, (p0 : Int)), some (0, x1), some (0, x2), some (0, x3)] [] G R V := by
  refine wp_ld (i := (.iload_n 1)) (0, x1) rfl rfl (fun _ => rfl) rfl rfl (?_ : wpv K_X8_many d P 1 [some (4, (p0 : Int)), some (0, x1), some (0, x2), some (0, x3)] [(0, x1)] G R V)
  refine wp_stat (as := [(0, x1)]) (st := []) _ rfl rfl rfl (by omega) rfl rfl (Nat.le_of_ble_eq_true rfl) (cwv_kI w (fun v2 V1 w => ?_))
  show wpv K_X8_many d P 4 [some (4, (p0 : Int)), some (0, x1), some (0, x2), some (0, x3)] [(0, v2)] G R V1
  obtain ⟨s3, w⟩ := w
  refine wp_if (c := .eq) 19 rfl rfl rfl s3 (fun q => ?_) (fun q => ?_)
  · have q : v2 = 0 := q
    replace w := w.1 q
    show wpv K_X8_many d P 19 [some (4, (p0 : Int)), some (0, x1), some (0, x2), some (0, x3)] [] G R V1
    refine wp_ld (i := (.aload_n 0)) (4, (p0 : Int)) rfl rfl (fun _ => rfl) rfl rfl (?_ : wpv K_X8_many d P 20 [some (4, (p0 : Int)), some (0, x1), some (0, x2), some (0, x3)] [(4, (p0 : Int))] G R V1)
    refine wp_p (i := (.ldc2_w 287)) rfl rfl (fun _ _ _ => rfl) (?_ : wpv K_X8_many d P 23 [some (4, (p0 : Int)), some (0, x1), some (0, x2), some (0, x3)] [(2, (-1)), (4, (p0 : Int))] G R V1)
    refine wp_virt (as := [(2, (-1))]) (a := p0) (st := []) _ rfl rfl rfl rfl rfl rfl (ly8_o l0) (Nat.le_of_ble_eq_true rfl) (cwv_kJ w (fun v5 V4 w => ?_))
    show wpv K_X8_many d P 26 [some (4, (p0 : Int)), some (0, x1), some (0, x2), some (0, x3)] [(2, v5)] G R V4
    exact wp_rJ rfl rfl rfl w
  · have q : ¬ v2 = 0 := q
    replace w := w.2 q
    show wpv K_X8_many d P 7 [some (4, (p0 : Int)), some (0, x1), some (0, x2), some (0, x3)] [] G R V1
    refine wp_ld (i := (.iload_n 3)) (0, x3) rfl rfl (fun _ => rfl) rfl rfl (?_ : wpv K_X8_many d P 8 [some (4, (p0 : Int)), some (0, x1), some (0, x2), some (0, x3)] [(0, x3)] G R V1)
    obtain ⟨s6, w⟩ := w
    refine wp_i2l rfl rfl s6 (?_ : wpv K_X8_many d P 9 [some (4, (p0 : Int)), some (0, x1), some (0, x2), some (0, x3)] [(2, x3)] G R V1)
    refine wp_p (i := (.lconst 0)) rfl rfl (fun _ _ _ => rfl) (?_ : wpv K_X8_many d P 10 [some (4, (p0 : Int)), some (0, x1), some (0, x2), some (0, x3)] [(2, 0), (2, x3)] G R V1)
    refine wp_p (i := (.ldc2_w 324)) rfl rfl (fun _ _ _ => rfl) (?_ : wpv K_X8_many d P 13 [some (4, (p0 : Int)), some (0, x1), some (0, x2), some (0, x3)] [(2, 1000000), (2, 0), (2, x3)] G R V1)
    refine wp_stat (as := [(2, x3), (2, 0), (2, 1000000)]) (st := []) _ rfl rfl rfl (by omega) rfl rfl (Nat.le_of_ble_eq_true rfl) (cwv_kI w (fun v8 V7 w => ?_))
    show wpv K_X8_many d P 16 [some (4, (p0 : Int)), some (0, x1), some (0, x2), some (0, x3)] [(0, v8)] G R V7
    obtain ⟨s9, w⟩ := w
    refine wp_if (c := .ne) 27 rfl rfl rfl s9 (fun q => ?_) (fun q => ?_)
    · have q : ¬ v8 = 0 := q
      replace w := w.1 q
      show wpv K_X8_many d P 27 [some (4, (p0 : Int)), some (0, x1), some (0, x2), some (0, x3)] [] G R V7
      refine wp_ld (i := (.aload_n 0)) (4, (p0 : Int)) rfl rfl (fun _ => rfl) rfl rfl (?_ : wpv K_X8_many d P 28 [some (4, (p0 : Int)), some (0, x1), some (0, x2), some (0, x3)] [(4, (p0 : Int))] G R V7)
      refine wp_ld (i := (.iload_n 2)) (0, x2) rfl rfl (fun _ => rfl) rfl rfl (?_ : wpv K_X8_many d P 29 [some (4, (p0 : Int)), some (0, x1), some (0, x2), some (0, x3)] [(0, x2), (4, (p0 : Int))] G R V7)
      refine wp_virt (as := [(0, x2)]) (a := p0) (st := []) _ rfl rfl rfl rfl rfl rfl (ly8_o l0) (Nat.le_of_ble_eq_true rfl) (cwv_kI w (fun v11 V10 w => ?_))
      show wpv K_X8_many d P 32 [some (4, (p0 : Int)), some (0, x1), some (0, x2), some (0, x3)] [(0, v11)] G R V10
      obtain ⟨s12, w⟩ := w
      refine wp_if (c := .ne) 43 rfl rfl rfl s12 (fun q => ?_) (fun q => ?_)
      · have q : ¬ v11 = 0 := q
        replace w := w.1 q
        show wpv K_X8_many d P 43 [some (4, (p0 : Int)), some (0, x1), some (0, x2), some (0, x3)] [] G R V10
        refine wp_ld (i := (.aload_n 0)) (4, (p0 : Int)) rfl rfl (fun _ => rfl) rfl rfl (?_ : wpv K_X8_many d P 44 [some (4, (p0 : Int)), some (0, x1), some (0, x2), some (0, x3)] [(4, (p0 : Int))] G R V10)
        refine wp_ld (i := (.iload_n 2)) (0, x2) rfl rfl (fun _ => rfl) rfl rfl (?_ : wpv K_X8_many d P 45 [some (4, (p0 : Int)), some (0, x1), some (0, x2), some (0, x3)] [(0, x2), (4, (p0 : Int))] G R V10)
        refine wp_virt (as := [(0, x2)]) (a := p0) (st := []) _ rfl rfl rfl rfl rfl rfl (ly8_o l0) (Nat.le_of_ble_eq_true rfl) (cwv_kJ w (fun v14 V13 w => ?_))
        show wpv K_X8_many d P 48 [some (4, (p0 : Int)), some (0, x1), some (0, x2), some (0, x3)] [(2, v14)] G R V13
        refine wp_ld (i := (.iload_n 3)) (0, x3) rfl rfl (fun _ => rfl) rfl rfl (?_ : wpv K_X8_many d P 49 [some (4, (p0 : Int)), some (0, x1), some (0, x2), some (0, x3)] [(0, x3), (2, v14)] G R V13)
        refine wp_i2l rfl rfl s6 (?_ : wpv K_X8_many d P 50 [some (4, (p0 : Int)), some (0, x1), some (0, x2), some (0, x3)] [(2, x3), (2, v14)] G R V13)
        refine wp_stat (as := [(2, v14), (2, x3)]) (st := []) _ rfl rfl rfl (by omega) rfl rfl (Nat.le_of_ble_eq_true rfl) (cwv_kJ w (fun v16 V15 w => ?_))
        show wpv K_X8_many d P 53 [some (4, (p0 : Int)), some (0, x1), some (0, x2), some (0, x3)] [(2, v16)] G R V15
        refine wp_p (i := (.ldc2_w 303)) rfl rfl (fun _ _ _ => rfl) (?_ : wpv K_X8_many d P 56 [some (4, (p0 : Int)), some (0, x1), some (0, x2), some (0, x3)] [(2, 1000000000000000), (2, v16)] G R V15)
        obtain ⟨s17, w⟩ := w
        refine wp_lcmp rfl rfl s17 ⟨by omega, by omega⟩ (?_ : wpv K_X8_many d P 57 [some (4, (p0 : Int)), some (0, x1), some (0, x2), some (0, x3)] [(0, sg v16 1000000000000000)] G R V15)
        refine wp_if (c := .le) 68 rfl rfl rfl (sg32 _ _) (fun q => ?_) (fun q => ?_)
        · have q : ¬ 1000000000000000 < v16 := fun z => q (sg_gt.mpr z)
          replace w := w.1 q
          show wpv K_X8_many d P 68 [some (4, (p0 : Int)), some (0, x1), some (0, x2), some (0, x3)] [] G R V15
          refine wp_p (i := (.iconst 0)) rfl rfl (fun _ _ _ => rfl) (?_ : wpv K_X8_many d P 69 [some (4, (p0 : Int)), some (0, x1), some (0, x2), some (0, x3)] [(0, 0)] G R V15)
          refine wp_sto (i := (.istore 4)) _ rfl rfl (fun _ => rfl) rfl rfl rfl ?_
          refine wp_wk (L' := [some (4, (p0 : Int)), some (0, x1), some (0, x2), some (0, x3), some (0, 0)]) (wk_s (wk_s (wk_s (wk_s (wk_s wk_0))))) ?_
          show wpv K_X8_many d P 71 [some (4, (p0 : Int)), some (0, x1), some (0, x2), some (0, x3), some (0, 0)] [] G R V15
          exact wp_wk (wk_s (wk_s (wk_s (wk_s (wk_s wk_0))))) w
        · have q : 1000000000000000 < v16 := sg_gt.mp (Decidable.not_not.mp q)
          replace w := w.2 q
          show wpv K_X8_many d P 60 [some (4, (p0 : Int)), some (0, x1), some (0, x2), some (0, x3)] [] G R V15
          refine wp_ld (i := (.aload_n 0)) (4, (p0 : Int)) rfl rfl (fun _ => rfl) rfl rfl (?_ : wpv K_X8_many d P 61 [some (4, (p0 : Int)), some (0, x1), some (0, x2), some (0, x3)] [(4, (p0 : Int))] G R V15)
          refine wp_p (i := (.ldc2_w 314)) rfl rfl (fun _ _ _ => rfl) (?_ : wpv K_X8_many d P 64 [some (4, (p0 : Int)), some (0, x1), some (0, x2), some (0, x3)] [(2, (-5)), (4, (p0 : Int))] G R V15)
          refine wp_virt (as := [(2, (-5))]) (a := p0) (st := []) _ rfl rfl rfl rfl rfl rfl (ly8_o l0) (Nat.le_of_ble_eq_true rfl) (cwv_kJ w (fun v19 V18 w => ?_))
          show wpv K_X8_many d P 67 [some (4, (p0 : Int)), some (0, x1), some (0, x2), some (0, x3)] [(2, v19)] G R V18
          exact wp_rJ rfl rfl rfl w
      · have q : v11 = 0 := Decidable.not_not.mp q
        replace w := w.2 q
        show wpv K_X8_many d P 35 [some (4, (p0 : Int)), some (0, x1), some (0, x2), some (0, x3)] [] G R V10
        refine wp_ld (i := (.aload_n 0)) (4, (p0 : Int)) rfl rfl (fun _ => rfl) rfl rfl (?_ : wpv K_X8_many d P 36 [some (4, (p0 : Int)), some (0, x1), some (0, x2), some (0, x3)] [(4, (p0 : Int))] G R V10)
        refine wp_p (i := (.ldc2_w 289)) rfl rfl (fun _ _ _ => rfl) (?_ : wpv K_X8_many d P 39 [some (4, (p0 : Int)), some (0, x1), some (0, x2), some (0, x3)] [(2, (-2)), (4, (p0 : Int))] G R V10)
        refine wp_virt (as := [(2, (-2))]) (a := p0) (st := []) _ rfl rfl rfl rfl rfl rfl (ly8_o l0) (Nat.le_of_ble_eq_true rfl) (cwv_kJ w (fun v21 V20 w => ?_))
        show wpv K_X8_many d P 42 [some (4, (p0 : Int)), some (0, x1), some (0, x2), some (0, x3)] [(2, v21)] G R V20
        exact wp_rJ rfl rfl rfl w
    · have q : v8 = 0 := Decidable.not_not.mp q
      replace w := w.2 q
      show wpv K_X8_many d P 19 [some (4, (p0 : Int)), some (0, x1), some (0, x2), some (0, x3)] [] G R V7
      refine wp_ld (i := (.aload_n 0)) (4, (p0 : Int)) rfl rfl (fun _ => rfl) rfl rfl (?_ : wpv K_X8_many d P 20 [some (4, (p0 : Int)), some (0, x1), some (0, x2), some (0, x3)] [(4, (p0 : Int))] G R V7)
      refine wp_p (i := (.ldc2_w 287)) rfl rfl (fun _ _ _ => rfl) (?_ : wpv K_X8_many d P 23 [some (4, (p0 : Int)), some (0, x1), some (0, x2), some (0, x3)] [(2, (-1)), (4, (p0 : Int))] G R V7)
      refine wp_virt (as := [(2, (-1))]) (a := p0) (st := []) _ rfl rfl rfl rfl rfl rfl (ly8_o l0) (Nat.le_of_ble_eq_true rfl) (cwv_kJ w (fun v23 V22 w => ?_))
      show wpv K_X8_many d P 26 [some (4, (p0 : Int)), some (0, x1), some (0, x2), some (0, x3)] [(2, v23)] G R V22
      exact wp_rJ rfl rfl rfl w

theorem t_X8_many_71 {d : Nat} {P : gP} {p0 : Nat} {x1 : Int} {x2 : Int} {x3 : Int} {x4 : Int} {G : List gS} {R V : gV} (l0 : lay8 G R p0) (w : ((i32 (V p0 13)) → ((i32 x4) ∧ (((¬ x4 < (V p0 13)) → cwv d (fun r V4 => ∃ v5 : Int, r = some (2, v5) ∧ P (some (2, v5)) V4) 212 [(4, (p0 : Int)), (0, x1)] G R V) ∧ ((x4 < (V p0 13)) → cwv d (fun r V6 => ∃ v7 : Int, r = some (2, v7) ∧ ((i32 x3) ∧ ((0 ≤ x4 ∧ x4 < 300) ∧ ((i32 (x4 + 1)) ∧ wpv K_X8_many d P 71 [some (4, (p0 : Int)), some (0, x1), some (0, x2), some (0, x3), some (0, (x4 + 1))] [] G R (wr V6 (p0 + 23) x4 ((jmul v7 x3))))))) 210 [(4, (p0 : Int)), (0, x2), (0, x4)] G R V))))) : wpv K_X8_many d P 71 [some (4, (p0 : Int)), some (0, x1), some (0, x2), some (0, x3), some (0, x4)] [] G R V := by
  refine wp_ld (i := (.iload 4)) (0, x4) rfl rfl (fun _ => rfl) rfl rfl (?_ : wpv K_X8_many d P 73 [some (4, (p0 : Int)), some (0, x1), some (0, x2), some (0, x3), some (0, x4)] [(0, x4)] G R V)
  refine wp_ld (i := (.aload_n 0)) (4, (p0 : Int)) rfl rfl (fun _ => rfl) rfl rfl (?_ : wpv K_X8_many d P 74 [some (4, (p0 : Int)), some (0, x1), some (0, x2), some (0, x3), some (0, x4)] [(4, (p0 : Int)), (0, x4)] G R V)
  refine wp_rng (fun vr1 => ?_)
  have f2 : i32 (V p0 13) := vr_f0 vr1 (ly8_o l0) rfl rfl
  replace w := w f2
  refine wp_getI (k := 13) rfl rfl rfl (ly8_o l0) rfl rfl (?_ : wpv K_X8_many d P 77 [some (4, (p0 : Int)), some (0, x1), some (0, x2), some (0, x3), some (0, x4)] [(0, (V p0 13)), (0, x4)] G R V)
  obtain ⟨s3, w⟩ := w
  refine wp_icmp (c := .ge) 103 rfl rfl rfl s3 f2 (fun q => ?_) (fun q => ?_)
  · have q : ¬ x4 < (V p0 13) := q
    replace w := w.1 q
    show wpv K_X8_many d P 103 [some (4, (p0 : Int)), some (0, x1), some (0, x2), some (0, x3), some (0, x4)] [] G R V
    refine wp_ld (i := (.aload_n 0)) (4, (p0 : Int)) rfl rfl (fun _ => rfl) rfl rfl (?_ : wpv K_X8_many d P 104 [some (4, (p0 : Int)), some (0, x1), some (0, x2), some (0, x3), some (0, x4)] [(4, (p0 : Int))] G R V)
    refine wp_ld (i := (.iload_n 1)) (0, x1) rfl rfl (fun _ => rfl) rfl rfl (?_ : wpv K_X8_many d P 105 [some (4, (p0 : Int)), some (0, x1), some (0, x2), some (0, x3), some (0, x4)] [(0, x1), (4, (p0 : Int))] G R V)
    refine wp_virt (as := [(0, x1)]) (a := p0) (st := []) _ rfl rfl rfl rfl rfl rfl (ly8_o l0) (Nat.le_of_ble_eq_true rfl) (cwv_kJ w (fun v5 V4 w => ?_))
    show wpv K_X8_many d P 108 [some (4, (p0 : Int)), some (0, x1), some (0, x2), some (0, x3), some (0, x4)] [(2, v5)] G R V4
    exact wp_rJ rfl rfl rfl w
  · have q : x4 < (V p0 13) := Decidable.not_not.mp q
    replace w := w.2 q
    show wpv K_X8_many d P 80 [some (4, (p0 : Int)), some (0, x1), some (0, x2), some (0, x3), some (0, x4)] [] G R V
    refine wp_ld (i := (.aload_n 0)) (4, (p0 : Int)) rfl rfl (fun _ => rfl) rfl rfl (?_ : wpv K_X8_many d P 81 [some (4, (p0 : Int)), some (0, x1), some (0, x2), some (0, x3), some (0, x4)] [(4, (p0 : Int))] G R V)
    refine wp_getA (k := 30) rfl rfl rfl (ly8_o l0) rfl rfl (ly8_30 l0).1 (?_ : wpv K_X8_many d P 84 [some (4, (p0 : Int)), some (0, x1), some (0, x2), some (0, x3), some (0, x4)] [(4, ((p0 + 23 : Nat) : Int))] G R V)
    refine wp_ld (i := (.iload 4)) (0, x4) rfl rfl (fun _ => rfl) rfl rfl (?_ : wpv K_X8_many d P 86 [some (4, (p0 : Int)), some (0, x1), some (0, x2), some (0, x3), some (0, x4)] [(0, x4), (4, ((p0 + 23 : Nat) : Int))] G R V)
    refine wp_ld (i := (.aload_n 0)) (4, (p0 : Int)) rfl rfl (fun _ => rfl) rfl rfl (?_ : wpv K_X8_many d P 87 [some (4, (p0 : Int)), some (0, x1), some (0, x2), some (0, x3), some (0, x4)] [(4, (p0 : Int)), (0, x4), (4, ((p0 + 23 : Nat) : Int))] G R V)
    refine wp_ld (i := (.iload_n 2)) (0, x2) rfl rfl (fun _ => rfl) rfl rfl (?_ : wpv K_X8_many d P 88 [some (4, (p0 : Int)), some (0, x1), some (0, x2), some (0, x3), some (0, x4)] [(0, x2), (4, (p0 : Int)), (0, x4), (4, ((p0 + 23 : Nat) : Int))] G R V)
    refine wp_ld (i := (.iload 4)) (0, x4) rfl rfl (fun _ => rfl) rfl rfl (?_ : wpv K_X8_many d P 90 [some (4, (p0 : Int)), some (0, x1), some (0, x2), some (0, x3), some (0, x4)] [(0, x4), (0, x2), (4, (p0 : Int)), (0, x4), (4, ((p0 + 23 : Nat) : Int))] G R V)
    refine wp_virt (as := [(0, x2), (0, x4)]) (a := p0) (st := [(0, x4), (4, ((p0 + 23 : Nat) : Int))]) _ rfl rfl rfl rfl rfl rfl (ly8_o l0) (Nat.le_of_ble_eq_true rfl) (cwv_kJ w (fun v7 V6 w => ?_))
    show wpv K_X8_many d P 93 [some (4, (p0 : Int)), some (0, x1), some (0, x2), some (0, x3), some (0, x4)] [(2, v7), (0, x4), (4, ((p0 + 23 : Nat) : Int))] G R V6
    refine wp_ld (i := (.iload_n 3)) (0, x3) rfl rfl (fun _ => rfl) rfl rfl (?_ : wpv K_X8_many d P 94 [some (4, (p0 : Int)), some (0, x1), some (0, x2), some (0, x3), some (0, x4)] [(0, x3), (2, v7), (0, x4), (4, ((p0 + 23 : Nat) : Int))] G R V6)
    obtain ⟨s8, w⟩ := w
    refine wp_i2l rfl rfl s8 (?_ : wpv K_X8_many d P 95 [some (4, (p0 : Int)), some (0, x1), some (0, x2), some (0, x3), some (0, x4)] [(2, x3), (2, v7), (0, x4), (4, ((p0 + 23 : Nat) : Int))] G R V6)
    refine wp_jmul rfl rfl (?_ : wpv K_X8_many d P 96 [some (4, (p0 : Int)), some (0, x1), some (0, x2), some (0, x3), some (0, x4)] [(2, (jmul v7 x3)), (0, x4), (4, ((p0 + 23 : Nat) : Int))] G R V6)
    obtain ⟨s9, w⟩ := w
    refine wp_sJ rfl rfl (ly8_30 l0).2 s9 (t64 _) (?_ : wpv K_X8_many d P 97 [some (4, (p0 : Int)), some (0, x1), some (0, x2), some (0, x3), some (0, x4)] [] G R (wr V6 (p0 + 23) x4 ((jmul v7 x3))))
    obtain ⟨s10, w⟩ := w
    refine wp_inc (x := 4) (k := 1) (a := x4) (c := (x4 + 1)) _ rfl rfl rfl rfl s10 (by omega) rfl ?_
    show wpv K_X8_many d P 100 [some (4, (p0 : Int)), some (0, x1), some (0, x2), some (0, x3), some (0, (x4 + 1))] [] G R (wr V6 (p0 + 23) x4 ((jmul v7 x3)))
    refine wp_go 71 rfl rfl rfl (?_ : wpv K_X8_many d P 71 [some (4, (p0 : Int)), some (0, x1), some (0, x2), some (0, x3), some (0, (x4 + 1))] [] G R (wr V6 (p0 + 23) x4 ((jmul v7 x3))))
    exact wp_wk (wk_s (wk_s (wk_s (wk_s (wk_s wk_0))))) w
theorem t_X8_parts_0 {d : Nat} {P : gP} {p0 : Nat} {x1 : Int} {x2 : Int} {G : List gS} {R V : gV} (l0 : lay8 G R p0) (w : cwv d (fun r V1 => ∃ v2 : Int, r = some (0, v2) ∧ ((i32 v2) ∧ (((v2 = 0) → P (some (2, (-1))) V1) ∧ ((¬ v2 = 0) → cwv d (fun r V4 => ∃ v5 : Int, r = some (0, v5) ∧ ((i32 v5) ∧ (((v5 = 0) → P (some (2, (-1))) V4) ∧ ((¬ v5 = 0) → ((i32 (300 * x1)) ∧ ((i32 ((300 * x1) + x2)) ∧ ((0 ≤ ((300 * x1) + x2) ∧ ((300 * x1) + x2) < 2400) ∧ ((i64 (V4 (p0 + 22) (((300 * x1) + x2)))) → P (some (2, (V4 (p0 + 22) (((300 * x1) + x2))))) V4)))))))) 185 [(4, (p0 : Int)), (0, x2)] G R V1)))) 209 [(4, (p0 : Int)), (0, x1)] G R V) : wpv K_X8_parts d P 0 [some (4, (p0 : Int)), some (0, x1), some (0, x2)] [] G R V := by
  refine wp_ld (i := (.aload_n 0)) (4, (p0 : Int)) rfl rfl (fun _ => rfl) rfl rfl (?_ : wpv K_X8_parts d P 1 [some (4, (p0 : Int)), some (0, x1), some (0, x2)] [(4, (p0 : Int))] G R V)
  refine wp_ld (i := (.iload_n 1)) (0, x1) rfl rfl (fun _ => rfl) rfl rfl (?_ : wpv K_X8_parts d P 2 [some (4, (p0 : Int)), some (0, x1), some (0, x2)] [(0, x1), (4, (p0 : Int))] G R V)
  refine wp_virt (as := [(0, x1)]) (a := p0) (st := []) _ rfl rfl rfl rfl rfl rfl (ly8_o l0) (Nat.le_of_ble_eq_true rfl) (cwv_kI w (fun v2 V1 w => ?_))
  show wpv K_X8_parts d P 5 [some (4, (p0 : Int)), some (0, x1), some (0, x2)] [(0, v2)] G R V1
  obtain ⟨s3, w⟩ := w
  refine wp_if (c := .eq) 31 rfl rfl rfl s3 (fun q => ?_) (fun q => ?_)
  · have q : v2 = 0 := q
    replace w := w.1 q
    show wpv K_X8_parts d P 31 [some (4, (p0 : Int)), some (0, x1), some (0, x2)] [] G R V1
    refine wp_p (i := (.ldc2_w 287)) rfl rfl (fun _ _ _ => rfl) (?_ : wpv K_X8_parts d P 34 [some (4, (p0 : Int)), some (0, x1), some (0, x2)] [(2, (-1))] G R V1)
    exact wp_rJ rfl rfl rfl w
  · have q : ¬ v2 = 0 := q
    replace w := w.2 q
    show wpv K_X8_parts d P 8 [some (4, (p0 : Int)), some (0, x1), some (0, x2)] [] G R V1
    refine wp_ld (i := (.aload_n 0)) (4, (p0 : Int)) rfl rfl (fun _ => rfl) rfl rfl (?_ : wpv K_X8_parts d P 9 [some (4, (p0 : Int)), some (0, x1), some (0, x2)] [(4, (p0 : Int))] G R V1)
    refine wp_ld (i := (.iload_n 2)) (0, x2) rfl rfl (fun _ => rfl) rfl rfl (?_ : wpv K_X8_parts d P 10 [some (4, (p0 : Int)), some (0, x1), some (0, x2)] [(0, x2), (4, (p0 : Int))] G R V1)
    refine wp_virt (as := [(0, x2)]) (a := p0) (st := []) _ rfl rfl rfl rfl rfl rfl (ly8_o l0) (Nat.le_of_ble_eq_true rfl) (cwv_kI w (fun v5 V4 w => ?_))
    show wpv K_X8_parts d P 13 [some (4, (p0 : Int)), some (0, x1), some (0, x2)] [(0, v5)] G R V4
    obtain ⟨s6, w⟩ := w
    refine wp_if (c := .eq) 31 rfl rfl rfl s6 (fun q => ?_) (fun q => ?_)
    · have q : v5 = 0 := q
      replace w := w.1 q
      show wpv K_X8_parts d P 31 [some (4, (p0 : Int)), some (0, x1), some (0, x2)] [] G R V4
      refine wp_p (i := (.ldc2_w 287)) rfl rfl (fun _ _ _ => rfl) (?_ : wpv K_X8_parts d P 34 [some (4, (p0 : Int)), some (0, x1), some (0, x2)] [(2, (-1))] G R V4)
      exact wp_rJ rfl rfl rfl w
    · have q : ¬ v5 = 0 := q
      replace w := w.2 q
      show wpv K_X8_parts d P 16 [some (4, (p0 : Int)), some (0, x1), some (0, x2)] [] G R V4
      refine wp_ld (i := (.aload_n 0)) (4, (p0 : Int)) rfl rfl (fun _ => rfl) rfl rfl (?_ : wpv K_X8_parts d P 17 [some (4, (p0 : Int)), some (0, x1), some (0, x2)] [(4, (p0 : Int))] G R V4)
      refine wp_getA (k := 29) rfl rfl rfl (ly8_o l0) rfl rfl (ly8_29 l0).1 (?_ : wpv K_X8_parts d P 20 [some (4, (p0 : Int)), some (0, x1), some (0, x2)] [(4, ((p0 + 22 : Nat) : Int))] G R V4)
      refine wp_p (i := (.sipush 300)) rfl rfl (fun _ _ _ => rfl) (?_ : wpv K_X8_parts d P 23 [some (4, (p0 : Int)), some (0, x1), some (0, x2)] [(0, 300), (4, ((p0 + 22 : Nat) : Int))] G R V4)
      refine wp_ld (i := (.iload_n 1)) (0, x1) rfl rfl (fun _ => rfl) rfl rfl (?_ : wpv K_X8_parts d P 24 [some (4, (p0 : Int)), some (0, x1), some (0, x2)] [(0, x1), (0, 300), (4, ((p0 + 22 : Nat) : Int))] G R V4)
      obtain ⟨s7, w⟩ := w
      refine wp_xmul rfl rfl s7 (?_ : wpv K_X8_parts d P 25 [some (4, (p0 : Int)), some (0, x1), some (0, x2)] [(0, (300 * x1)), (4, ((p0 + 22 : Nat) : Int))] G R V4)
      refine wp_ld (i := (.iload_n 2)) (0, x2) rfl rfl (fun _ => rfl) rfl rfl (?_ : wpv K_X8_parts d P 26 [some (4, (p0 : Int)), some (0, x1), some (0, x2)] [(0, x2), (0, (300 * x1)), (4, ((p0 + 22 : Nat) : Int))] G R V4)
      obtain ⟨s8, w⟩ := w
      refine wp_xadd rfl rfl s8 (?_ : wpv K_X8_parts d P 27 [some (4, (p0 : Int)), some (0, x1), some (0, x2)] [(0, ((300 * x1) + x2)), (4, ((p0 + 22 : Nat) : Int))] G R V4)
      obtain ⟨s9, w⟩ := w
      refine wp_rng (fun vr10 => ?_)
      have f11 : i64 (V4 (p0 + 22) (((300 * x1) + x2))) := vr_a1 vr10 (ly8_29 l0).2 s9
      replace w := w f11
      refine wp_aJ rfl rfl (ly8_29 l0).2 s9 (?_ : wpv K_X8_parts d P 28 [some (4, (p0 : Int)), some (0, x1), some (0, x2)] [(2, (V4 (p0 + 22) (((300 * x1) + x2))))] G R V4)
      refine wp_go 34 rfl rfl rfl (?_ : wpv K_X8_parts d P 34 [some (4, (p0 : Int)), some (0, x1), some (0, x2)] [(2, (V4 (p0 + 22) (((300 * x1) + x2))))] G R V4)
      exact wp_rJ rfl rfl rfl w
theorem t_X8_mark_0 {d : Nat} {P : gP} {p0 : Nat} {x1 : Int} {x2 : Int} {G : List gS} {R V : gV} (l0 : lay8 G R p0) (w : cwv d (fun r V1 => ∃ v2 : Int, r = some (0, v2) ∧ ((i32 v2) ∧ (((v2 = 0) → P (some (2, (-1))) V1) ∧ ((¬ v2 = 0) → cwv d (fun r V4 => ∃ v5 : Int, r = some (0, v5) ∧ ((i32 v5) ∧ (((v5 = 0) → P (some (2, (-1))) V4) ∧ ((¬ v5 = 0) → cwv d (fun r V7 => ∃ v8 : Int, r = some (2, v8) ∧ P (some (2, v8)) V7) 210 [(4, (p0 : Int)), (0, x1), (0, x2)] G R V4)))) 185 [(4, (p0 : Int)), (0, x2)] G R V1)))) 209 [(4, (p0 : Int)), (0, x1)] G R V) : wpv K_X8_mark d P 0 [some (4, (p0 : Int)), some (0, x1), some (0, x2)] [] G R V := by
  refine wp_ld (i := (.aload_n 0)) (4, (p0 : Int)) rfl rfl (fun _ => rfl) rfl rfl (?_ : wpv K_X8_mark d P 1 [some (4, (p0 : Int)), some (0, x1), some (0, x2)] [(4, (p0 : Int))] G R V)
  refine wp_ld (i := (.iload_n 1)) (0, x1) rfl rfl (fun _ => rfl) rfl rfl (?_ : wpv K_X8_mark d P 2 [some (4, (p0 : Int)), some (0, x1), some (0, x2)] [(0, x1), (4, (p0 : Int))] G R V)
  refine wp_virt (as := [(0, x1)]) (a := p0) (st := []) _ rfl rfl rfl rfl rfl rfl (ly8_o l0) (Nat.le_of_ble_eq_true rfl) (cwv_kI w (fun v2 V1 w => ?_))
  show wpv K_X8_mark d P 5 [some (4, (p0 : Int)), some (0, x1), some (0, x2)] [(0, v2)] G R V1
  obtain ⟨s3, w⟩ := w
  refine wp_if (c := .eq) 25 rfl rfl rfl s3 (fun q => ?_) (fun q => ?_)
  · have q : v2 = 0 := q
    replace w := w.1 q
    show wpv K_X8_mark d P 25 [some (4, (p0 : Int)), some (0, x1), some (0, x2)] [] G R V1
    refine wp_p (i := (.ldc2_w 287)) rfl rfl (fun _ _ _ => rfl) (?_ : wpv K_X8_mark d P 28 [some (4, (p0 : Int)), some (0, x1), some (0, x2)] [(2, (-1))] G R V1)
    exact wp_rJ rfl rfl rfl w
  · have q : ¬ v2 = 0 := q
    replace w := w.2 q
    show wpv K_X8_mark d P 8 [some (4, (p0 : Int)), some (0, x1), some (0, x2)] [] G R V1
    refine wp_ld (i := (.aload_n 0)) (4, (p0 : Int)) rfl rfl (fun _ => rfl) rfl rfl (?_ : wpv K_X8_mark d P 9 [some (4, (p0 : Int)), some (0, x1), some (0, x2)] [(4, (p0 : Int))] G R V1)
    refine wp_ld (i := (.iload_n 2)) (0, x2) rfl rfl (fun _ => rfl) rfl rfl (?_ : wpv K_X8_mark d P 10 [some (4, (p0 : Int)), some (0, x1), some (0, x2)] [(0, x2), (4, (p0 : Int))] G R V1)
    refine wp_virt (as := [(0, x2)]) (a := p0) (st := []) _ rfl rfl rfl rfl rfl rfl (ly8_o l0) (Nat.le_of_ble_eq_true rfl) (cwv_kI w (fun v5 V4 w => ?_))
    show wpv K_X8_mark d P 13 [some (4, (p0 : Int)), some (0, x1), some (0, x2)] [(0, v5)] G R V4
    obtain ⟨s6, w⟩ := w
    refine wp_if (c := .eq) 25 rfl rfl rfl s6 (fun q => ?_) (fun q => ?_)
    · have q : v5 = 0 := q
      replace w := w.1 q
      show wpv K_X8_mark d P 25 [some (4, (p0 : Int)), some (0, x1), some (0, x2)] [] G R V4
      refine wp_p (i := (.ldc2_w 287)) rfl rfl (fun _ _ _ => rfl) (?_ : wpv K_X8_mark d P 28 [some (4, (p0 : Int)), some (0, x1), some (0, x2)] [(2, (-1))] G R V4)
      exact wp_rJ rfl rfl rfl w
    · have q : ¬ v5 = 0 := q
      replace w := w.2 q
      show wpv K_X8_mark d P 16 [some (4, (p0 : Int)), some (0, x1), some (0, x2)] [] G R V4
      refine wp_ld (i := (.aload_n 0)) (4, (p0 : Int)) rfl rfl (fun _ => rfl) rfl rfl (?_ : wpv K_X8_mark d P 17 [some (4, (p0 : Int)), some (0, x1), some (0, x2)] [(4, (p0 : Int))] G R V4)
      refine wp_ld (i := (.iload_n 1)) (0, x1) rfl rfl (fun _ => rfl) rfl rfl (?_ : wpv K_X8_mark d P 18 [some (4, (p0 : Int)), some (0, x1), some (0, x2)] [(0, x1), (4, (p0 : Int))] G R V4)
      refine wp_ld (i := (.iload_n 2)) (0, x2) rfl rfl (fun _ => rfl) rfl rfl (?_ : wpv K_X8_mark d P 19 [some (4, (p0 : Int)), some (0, x1), some (0, x2)] [(0, x2), (0, x1), (4, (p0 : Int))] G R V4)
      refine wp_virt (as := [(0, x1), (0, x2)]) (a := p0) (st := []) _ rfl rfl rfl rfl rfl rfl (ly8_o l0) (Nat.le_of_ble_eq_true rfl) (cwv_kJ w (fun v8 V7 w => ?_))
      show wpv K_X8_mark d P 22 [some (4, (p0 : Int)), some (0, x1), some (0, x2)] [(2, v8)] G R V7
      refine wp_go 28 rfl rfl rfl (?_ : wpv K_X8_mark d P 28 [some (4, (p0 : Int)), some (0, x1), some (0, x2)] [(2, v8)] G R V7)
      exact wp_rJ rfl rfl rfl w
theorem t_X8_kernel_0 {d : Nat} {P : gP} {p0 : Nat} {x1 : Int} {G : List gS} {R V : gV} (l0 : lay8 G R p0) (w : ((i32 (V p0 12)) → ((i32 ((V p0 12) - 1)) ∧ wpv K_X8_kernel d P 9 [some (4, (p0 : Int)), some (0, x1), some (0, ((V p0 12) - 1)), some (0, 0)] [] G R V))) : wpv K_X8_kernel d P 0 [some (4, (p0 : Int)), some (0, x1)] [] G R V := by
  refine wp_ld (i := (.aload_n 0)) (4, (p0 : Int)) rfl rfl (fun _ => rfl) rfl rfl (?_ : wpv K_X8_kernel d P 1 [some (4, (p0 : Int)), some (0, x1)] [(4, (p0 : Int))] G R V)
  refine wp_rng (fun vr1 => ?_)
  have f2 : i32 (V p0 12) := vr_f0 vr1 (ly8_o l0) rfl rfl
  replace w := w f2
  refine wp_getI (k := 12) rfl rfl rfl (ly8_o l0) rfl rfl (?_ : wpv K_X8_kernel d P 4 [some (4, (p0 : Int)), some (0, x1)] [(0, (V p0 12))] G R V)
  refine wp_p (i := (.iconst 1)) rfl rfl (fun _ _ _ => rfl) (?_ : wpv K_X8_kernel d P 5 [some (4, (p0 : Int)), some (0, x1)] [(0, 1), (0, (V p0 12))] G R V)
  obtain ⟨s3, w⟩ := w
  refine wp_xsub rfl rfl s3 (?_ : wpv K_X8_kernel d P 6 [some (4, (p0 : Int)), some (0, x1)] [(0, ((V p0 12) - 1))] G R V)
  refine wp_sto (i := (.istore_n 2)) _ rfl rfl (fun _ => rfl) rfl rfl rfl ?_
  refine wp_wk (L' := [some (4, (p0 : Int)), some (0, x1), some (0, ((V p0 12) - 1))]) (wk_s (wk_s (wk_s wk_0))) ?_
  show wpv K_X8_kernel d P 7 [some (4, (p0 : Int)), some (0, x1), some (0, ((V p0 12) - 1))] [] G R V
  refine wp_p (i := (.iconst 0)) rfl rfl (fun _ _ _ => rfl) (?_ : wpv K_X8_kernel d P 8 [some (4, (p0 : Int)), some (0, x1), some (0, ((V p0 12) - 1))] [(0, 0)] G R V)
  refine wp_sto (i := (.istore_n 3)) _ rfl rfl (fun _ => rfl) rfl rfl rfl ?_
  refine wp_wk (L' := [some (4, (p0 : Int)), some (0, x1), some (0, ((V p0 12) - 1)), some (0, 0)]) (wk_s (wk_s (wk_s (wk_s wk_0)))) ?_
  show wpv K_X8_kernel d P 9 [some (4, (p0 : Int)), some (0, x1), some (0, ((V p0 12) - 1)), some (0, 0)] [] G R V
  exact wp_wk (wk_s (wk_s (wk_s (wk_s wk_0)))) w

theorem t_X8_kernel_9 {d : Nat} {P : gP} {p0 : Nat} {x1 : Int} {x2 : Int} {x3 : Int} {G : List gS} {R V : gV} (l0 : lay8 G R p0) (w : ((i32 (V p0 13)) → ((i32 x3) ∧ (((¬ x3 < (V p0 13)) → P (some (0, x2)) V) ∧ ((x3 < (V p0 13)) → ((i32 (300 * x1)) ∧ ((i32 ((300 * x1) + x3)) ∧ ((0 ≤ ((300 * x1) + x3) ∧ ((300 * x1) + x3) < 2400) ∧ ((i64 (V (p0 + 22) (((300 * x1) + x3)))) → (((¬ 0 < (V (p0 + 22) (((300 * x1) + x3)))) → ((i32 (x3 + 1)) ∧ wpv K_X8_kernel d P 9 [some (4, (p0 : Int)), some (0, x1), some (0, x2), some (0, (x3 + 1))] [] G R V)) ∧ ((0 < (V (p0 + 22) (((300 * x1) + x3)))) → ((0 ≤ x3 ∧ x3 < 300) ∧ ((i32 (V (p0 + 15) x3)) → cwv d (fun r V11 => ∃ v12 : Int, r = some (0, v12) ∧ cwv d (fun r V13 => ∃ v14 : Int, r = some (0, v14) ∧ ((i32 (x3 + 1)) ∧ wpv K_X8_kernel d P 9 [some (4, (p0 : Int)), some (0, x1), some (0, v14), some (0, (x3 + 1))] [] G R V13)) 201 [(4, (p0 : Int)), (0, x2), (0, v12), (0, 0)] G R V11) 195 [(4, (p0 : Int)), (0, (V (p0 + 15) x3))] G R V))))))))))))) : wpv K_X8_kernel d P 9 [some (4, (p0 : Int)), some (0, x1), some (0, x2), some (0, x3)] [] G R V := by
  refine wp_ld (i := (.iload_n 3)) (0, x3) rfl rfl (fun _ => rfl) rfl rfl (?_ : wpv K_X8_kernel d P 10 [some (4, (p0 : Int)), some (0, x1), some (0, x2), some (0, x3)] [(0, x3)] G R V)
  refine wp_ld (i := (.aload_n 0)) (4, (p0 : Int)) rfl rfl (fun _ => rfl) rfl rfl (?_ : wpv K_X8_kernel d P 11 [some (4, (p0 : Int)), some (0, x1), some (0, x2), some (0, x3)] [(4, (p0 : Int)), (0, x3)] G R V)
  refine wp_rng (fun vr1 => ?_)
  have f2 : i32 (V p0 13) := vr_f0 vr1 (ly8_o l0) rfl rfl
  replace w := w f2
  refine wp_getI (k := 13) rfl rfl rfl (ly8_o l0) rfl rfl (?_ : wpv K_X8_kernel d P 14 [some (4, (p0 : Int)), some (0, x1), some (0, x2), some (0, x3)] [(0, (V p0 13)), (0, x3)] G R V)
  obtain ⟨s3, w⟩ := w
  refine wp_icmp (c := .ge) 57 rfl rfl rfl s3 f2 (fun q => ?_) (fun q => ?_)
  · have q : ¬ x3 < (V p0 13) := q
    replace w := w.1 q
    show wpv K_X8_kernel d P 57 [some (4, (p0 : Int)), some (0, x1), some (0, x2), some (0, x3)] [] G R V
    refine wp_ld (i := (.iload_n 2)) (0, x2) rfl rfl (fun _ => rfl) rfl rfl (?_ : wpv K_X8_kernel d P 58 [some (4, (p0 : Int)), some (0, x1), some (0, x2), some (0, x3)] [(0, x2)] G R V)
    exact wp_rI rfl rfl rfl w
  · have q : x3 < (V p0 13) := Decidable.not_not.mp q
    replace w := w.2 q
    show wpv K_X8_kernel d P 17 [some (4, (p0 : Int)), some (0, x1), some (0, x2), some (0, x3)] [] G R V
    refine wp_ld (i := (.aload_n 0)) (4, (p0 : Int)) rfl rfl (fun _ => rfl) rfl rfl (?_ : wpv K_X8_kernel d P 18 [some (4, (p0 : Int)), some (0, x1), some (0, x2), some (0, x3)] [(4, (p0 : Int))] G R V)
    refine wp_getA (k := 29) rfl rfl rfl (ly8_o l0) rfl rfl (ly8_29 l0).1 (?_ : wpv K_X8_kernel d P 21 [some (4, (p0 : Int)), some (0, x1), some (0, x2), some (0, x3)] [(4, ((p0 + 22 : Nat) : Int))] G R V)
    refine wp_p (i := (.sipush 300)) rfl rfl (fun _ _ _ => rfl) (?_ : wpv K_X8_kernel d P 24 [some (4, (p0 : Int)), some (0, x1), some (0, x2), some (0, x3)] [(0, 300), (4, ((p0 + 22 : Nat) : Int))] G R V)
    refine wp_ld (i := (.iload_n 1)) (0, x1) rfl rfl (fun _ => rfl) rfl rfl (?_ : wpv K_X8_kernel d P 25 [some (4, (p0 : Int)), some (0, x1), some (0, x2), some (0, x3)] [(0, x1), (0, 300), (4, ((p0 + 22 : Nat) : Int))] G R V)
    obtain ⟨s4, w⟩ := w
    refine wp_xmul rfl rfl s4 (?_ : wpv K_X8_kernel d P 26 [some (4, (p0 : Int)), some (0, x1), some (0, x2), some (0, x3)] [(0, (300 * x1)), (4, ((p0 + 22 : Nat) : Int))] G R V)
    refine wp_ld (i := (.iload_n 3)) (0, x3) rfl rfl (fun _ => rfl) rfl rfl (?_ : wpv K_X8_kernel d P 27 [some (4, (p0 : Int)), some (0, x1), some (0, x2), some (0, x3)] [(0, x3), (0, (300 * x1)), (4, ((p0 + 22 : Nat) : Int))] G R V)
    obtain ⟨s5, w⟩ := w
    refine wp_xadd rfl rfl s5 (?_ : wpv K_X8_kernel d P 28 [some (4, (p0 : Int)), some (0, x1), some (0, x2), some (0, x3)] [(0, ((300 * x1) + x3)), (4, ((p0 + 22 : Nat) : Int))] G R V)
    obtain ⟨s6, w⟩ := w
    have f7 : i64 (V (p0 + 22) (((300 * x1) + x3))) := vr_a1 vr1 (ly8_29 l0).2 s6
    replace w := w f7
    refine wp_aJ rfl rfl (ly8_29 l0).2 s6 (?_ : wpv K_X8_kernel d P 29 [some (4, (p0 : Int)), some (0, x1), some (0, x2), some (0, x3)] [(2, (V (p0 + 22) (((300 * x1) + x3))))] G R V)
    refine wp_p (i := (.lconst 0)) rfl rfl (fun _ _ _ => rfl) (?_ : wpv K_X8_kernel d P 30 [some (4, (p0 : Int)), some (0, x1), some (0, x2), some (0, x3)] [(2, 0), (2, (V (p0 + 22) (((300 * x1) + x3))))] G R V)
    refine wp_lcmp rfl rfl f7 ⟨by omega, by omega⟩ (?_ : wpv K_X8_kernel d P 31 [some (4, (p0 : Int)), some (0, x1), some (0, x2), some (0, x3)] [(0, sg ((V (p0 + 22) (((300 * x1) + x3)))) 0)] G R V)
    refine wp_if (c := .le) 51 rfl rfl rfl (sg32 _ _) (fun q => ?_) (fun q => ?_)
    · have q : ¬ 0 < (V (p0 + 22) (((300 * x1) + x3))) := fun z => q (sg_gt.mpr z)
      replace w := w.1 q
      show wpv K_X8_kernel d P 51 [some (4, (p0 : Int)), some (0, x1), some (0, x2), some (0, x3)] [] G R V
      obtain ⟨s8, w⟩ := w
      refine wp_inc (x := 3) (k := 1) (a := x3) (c := (x3 + 1)) _ rfl rfl rfl rfl s8 (by omega) rfl ?_
      show wpv K_X8_kernel d P 54 [some (4, (p0 : Int)), some (0, x1), some (0, x2), some (0, (x3 + 1))] [] G R V
      refine wp_go 9 rfl rfl rfl (?_ : wpv K_X8_kernel d P 9 [some (4, (p0 : Int)), some (0, x1), some (0, x2), some (0, (x3 + 1))] [] G R V)
      exact wp_wk (wk_s (wk_s (wk_s (wk_s wk_0)))) w
    · have q : 0 < (V (p0 + 22) (((300 * x1) + x3))) := sg_gt.mp (Decidable.not_not.mp q)
      replace w := w.2 q
      show wpv K_X8_kernel d P 34 [some (4, (p0 : Int)), some (0, x1), some (0, x2), some (0, x3)] [] G R V
      refine wp_ld (i := (.aload_n 0)) (4, (p0 : Int)) rfl rfl (fun _ => rfl) rfl rfl (?_ : wpv K_X8_kernel d P 35 [some (4, (p0 : Int)), some (0, x1), some (0, x2), some (0, x3)] [(4, (p0 : Int))] G R V)
      refine wp_ld (i := (.iload_n 2)) (0, x2) rfl rfl (fun _ => rfl) rfl rfl (?_ : wpv K_X8_kernel d P 36 [some (4, (p0 : Int)), some (0, x1), some (0, x2), some (0, x3)] [(0, x2), (4, (p0 : Int))] G R V)
      refine wp_ld (i := (.aload_n 0)) (4, (p0 : Int)) rfl rfl (fun _ => rfl) rfl rfl (?_ : wpv K_X8_kernel d P 37 [some (4, (p0 : Int)), some (0, x1), some (0, x2), some (0, x3)] [(4, (p0 : Int)), (0, x2), (4, (p0 : Int))] G R V)
      refine wp_ld (i := (.aload_n 0)) (4, (p0 : Int)) rfl rfl (fun _ => rfl) rfl rfl (?_ : wpv K_X8_kernel d P 38 [some (4, (p0 : Int)), some (0, x1), some (0, x2), some (0, x3)] [(4, (p0 : Int)), (4, (p0 : Int)), (0, x2), (4, (p0 : Int))] G R V)
      refine wp_getA (k := 20) rfl rfl rfl (ly8_o l0) rfl rfl (ly8_20 l0).1 (?_ : wpv K_X8_kernel d P 41 [some (4, (p0 : Int)), some (0, x1), some (0, x2), some (0, x3)] [(4, ((p0 + 15 : Nat) : Int)), (4, (p0 : Int)), (0, x2), (4, (p0 : Int))] G R V)
      refine wp_ld (i := (.iload_n 3)) (0, x3) rfl rfl (fun _ => rfl) rfl rfl (?_ : wpv K_X8_kernel d P 42 [some (4, (p0 : Int)), some (0, x1), some (0, x2), some (0, x3)] [(0, x3), (4, ((p0 + 15 : Nat) : Int)), (4, (p0 : Int)), (0, x2), (4, (p0 : Int))] G R V)
      obtain ⟨s9, w⟩ := w
      have f10 : i32 (V (p0 + 15) x3) := vr_a0 vr1 (ly8_20 l0).2 s9
      replace w := w f10
      refine wp_aI rfl rfl (ly8_20 l0).2 s9 (?_ : wpv K_X8_kernel d P 43 [some (4, (p0 : Int)), some (0, x1), some (0, x2), some (0, x3)] [(0, (V (p0 + 15) x3)), (4, (p0 : Int)), (0, x2), (4, (p0 : Int))] G R V)
      refine wp_virt (as := [(0, (V (p0 + 15) x3))]) (a := p0) (st := [(0, x2), (4, (p0 : Int))]) _ rfl rfl rfl rfl rfl rfl (ly8_o l0) (Nat.le_of_ble_eq_true rfl) (cwv_kI w (fun v12 V11 w => ?_))
      show wpv K_X8_kernel d P 46 [some (4, (p0 : Int)), some (0, x1), some (0, x2), some (0, x3)] [(0, v12), (0, x2), (4, (p0 : Int))] G R V11
      refine wp_p (i := (.iconst 0)) rfl rfl (fun _ _ _ => rfl) (?_ : wpv K_X8_kernel d P 47 [some (4, (p0 : Int)), some (0, x1), some (0, x2), some (0, x3)] [(0, 0), (0, v12), (0, x2), (4, (p0 : Int))] G R V11)
      refine wp_virt (as := [(0, x2), (0, v12), (0, 0)]) (a := p0) (st := []) _ rfl rfl rfl rfl rfl rfl (ly8_o l0) (Nat.le_of_ble_eq_true rfl) (cwv_kI w (fun v14 V13 w => ?_))
      show wpv K_X8_kernel d P 50 [some (4, (p0 : Int)), some (0, x1), some (0, x2), some (0, x3)] [(0, v14)] G R V13
      refine wp_sto (i := (.istore_n 2)) _ rfl rfl (fun _ => rfl) rfl rfl rfl ?_
      refine wp_wk (L' := [some (4, (p0 : Int)), some (0, x1), some (0, v14), some (0, x3)]) (wk_s (wk_s (wk_s (wk_s wk_0)))) ?_
      show wpv K_X8_kernel d P 51 [some (4, (p0 : Int)), some (0, x1), some (0, v14), some (0, x3)] [] G R V13
      obtain ⟨s15, w⟩ := w
      refine wp_inc (x := 3) (k := 1) (a := x3) (c := (x3 + 1)) _ rfl rfl rfl rfl s15 (by omega) rfl ?_
      show wpv K_X8_kernel d P 54 [some (4, (p0 : Int)), some (0, x1), some (0, v14), some (0, (x3 + 1))] [] G R V13
      refine wp_go 9 rfl rfl rfl (?_ : wpv K_X8_kernel d P 9 [some (4, (p0 : Int)), some (0, x1), some (0, v14), some (0, (x3 + 1))] [] G R V13)
      exact wp_wk (wk_s (wk_s (wk_s (wk_s wk_0)))) w
theorem t_X8_act_0 {d : Nat} {P : gP} {p0 : Nat} {x1 : Int} {x2 : Int} {x3 : Int} {G : List gS} {R V : gV} (l0 : lay8 G R p0) (w : cwv d (fun r V1 => ∃ v2 : Int, r = some (0, v2) ∧ ((i32 v2) ∧ (((¬ v2 = 0) → ((i32 x2) ∧ (((x2 < 0 ∨ 5 < x2) → P (some (2, (-1))) V1) ∧ ((x2 = 0) → cwv d (fun r V5 => ∃ v6 : Int, r = some (2, v6) ∧ P (some (2, v6)) V5) 211 [(4, (p0 : Int)), (0, x1)] G R V1) ∧ ((x2 = 1) → wpv K_X8_act d P 64 [some (4, (p0 : Int)), some (0, x1), none, none, some (2, 0), none, some (0, 0)] [] G R V1) ∧ ((x2 = 2) → cwv d (fun r V7 => ∃ v8 : Int, r = some (0, v8) ∧ ((i32 v8) ∧ P (some (2, v8)) V7)) 228 [(4, (p0 : Int)), (0, x1)] G R V1) ∧ ((x2 = 3) → cwv d (fun r V10 => ∃ v11 : Int, r = some (0, v11) ∧ ((i32 v11) ∧ (((v11 = 0) → P (some (2, (-1))) V10) ∧ ((¬ v11 = 0) → cwv d (fun r V13 => ∃ v14 : Int, r = some (0, v14) ∧ ((0 ≤ v14 ∧ v14 < 300) ∧ ((i32 (V13 (p0 + 14) v14)) → cwv d (fun r V18 => ∃ v19 : Int, r = some (2, v19) ∧ P (some (2, v19)) V18) 210 [(4, (p0 : Int)), (0, x1), (0, (V13 (p0 + 14) v14))] G R V13))) 190 [(4, (p0 : Int)), (0, x3)] G R V10)))) 183 [(4, (p0 : Int)), (0, x3)] G R V1) ∧ ((x2 = 4) → cwv d (fun r V20 => ∃ v21 : Int, r = some (0, v21) ∧ ((i32 v21) ∧ (((v21 = 0) → P (some (2, (-1))) V20) ∧ ((¬ v21 = 0) → cwv d (fun r V23 => ∃ v24 : Int, r = some (0, v24) ∧ cwv d (fun r V25 => ∃ v26 : Int, r = some (2, v26) ∧ P (some (2, v26)) V25) 223 [(4, (p0 : Int)), (0, x1), (0, v24)] G R V23) 190 [(4, (p0 : Int)), (0, x3)] G R V20)))) 183 [(4, (p0 : Int)), (0, x3)] G R V1) ∧ ((x2 = 5) → cwv d (fun r V27 => ∃ v28 : Int, r = some (0, v28) ∧ ((i32 v28) ∧ (((v28 = 0) → P (some (2, (-1))) V27) ∧ ((¬ v28 = 0) → cwv d (fun r V30 => ∃ v31 : Int, r = some (2, v31) ∧ P (some (2, v31)) V30) 223 [(4, (p0 : Int)), (0, x1), (0, x3)] G R V27)))) 184 [(4, (p0 : Int)), (0, x3)] G R V1)))) ∧ ((v2 = 0) → P (some (2, (-1))) V1)))) 209 [(4, (p0 : Int)), (0, x1)] G R V) : wpv K_X8_act d P 0 [some (4, (p0 : Int)), some (0, x1), some (0, x2), some (0, x3)] [] G R V := by
  refine wp_ld (i := (.aload_n 0)) (4, (p0 : Int)) rfl rfl (fun _ => rfl) rfl rfl (?_ : wpv K_X8_act d P 1 [some (4, (p0 : Int)), some (0, x1), some (0, x2), some (0, x3)] [(4, (p0 : Int))] G R V)
  refine wp_ld (i := (.iload_n 1)) (0, x1) rfl rfl (fun _ => rfl) rfl rfl (?_ : wpv K_X8_act d P 2 [some (4, (p0 : Int)), some (0, x1), some (0, x2), some (0, x3)] [(0, x1), (4, (p0 : Int))] G R V)
  refine wp_virt (as := [(0, x1)]) (a := p0) (st := []) _ rfl rfl rfl rfl rfl rfl (ly8_o l0) (Nat.le_of_ble_eq_true rfl) (cwv_kI w (fun v2 V1 w => ?_))
  show wpv K_X8_act d P 5 [some (4, (p0 : Int)), some (0, x1), some (0, x2), some (0, x3)] [(0, v2)] G R V1
  obtain ⟨s3, w⟩ := w
  refine wp_if (c := .ne) 12 rfl rfl rfl s3 (fun q => ?_) (fun q => ?_)
  · have q : ¬ v2 = 0 := q
    replace w := w.1 q
    show wpv K_X8_act d P 12 [some (4, (p0 : Int)), some (0, x1), some (0, x2), some (0, x3)] [] G R V1
    refine wp_ld (i := (.iload_n 2)) (0, x2) rfl rfl (fun _ => rfl) rfl rfl (?_ : wpv K_X8_act d P 13 [some (4, (p0 : Int)), some (0, x1), some (0, x2), some (0, x3)] [(0, x2)] G R V1)
    obtain ⟨s4, w⟩ := w
    by_cases qd : x2 < 0 ∨ 5 < x2
    · replace w := w.1 qd
      refine wp_tsd 183 rfl rfl s4 qd rfl (?_ : wpv K_X8_act d P 183 [some (4, (p0 : Int)), some (0, x1), some (0, x2), some (0, x3)] [] G R V1)
      refine wp_p (i := (.ldc2_w 287)) rfl rfl (fun _ _ _ => rfl) (?_ : wpv K_X8_act d P 186 [some (4, (p0 : Int)), some (0, x1), some (0, x2), some (0, x3)] [(2, (-1))] G R V1)
      exact wp_rJ rfl rfl rfl w
    replace w := w.2
    by_cases q0 : x2 = 0
    · replace w := w.1 q0
      refine wp_tsw 0 52 rfl rfl s4 (by omega) (by omega) rfl rfl (?_ : wpv K_X8_act d P 52 [some (4, (p0 : Int)), some (0, x1), some (0, x2), some (0, x3)] [] G R V1)
      refine wp_ld (i := (.aload_n 0)) (4, (p0 : Int)) rfl rfl (fun _ => rfl) rfl rfl (?_ : wpv K_X8_act d P 53 [some (4, (p0 : Int)), some (0, x1), some (0, x2), some (0, x3)] [(4, (p0 : Int))] G R V1)
      refine wp_ld (i := (.iload_n 1)) (0, x1) rfl rfl (fun _ => rfl) rfl rfl (?_ : wpv K_X8_act d P 54 [some (4, (p0 : Int)), some (0, x1), some (0, x2), some (0, x3)] [(0, x1), (4, (p0 : Int))] G R V1)
      refine wp_virt (as := [(0, x1)]) (a := p0) (st := []) _ rfl rfl rfl rfl rfl rfl (ly8_o l0) (Nat.le_of_ble_eq_true rfl) (cwv_kJ w (fun v6 V5 w => ?_))
      show wpv K_X8_act d P 57 [some (4, (p0 : Int)), some (0, x1), some (0, x2), some (0, x3)] [(2, v6)] G R V5
      exact wp_rJ rfl rfl rfl w
    replace w := w.2
    by_cases q1 : x2 = 1
    · replace w := w.1 q1
      refine wp_tsw 1 58 rfl rfl s4 (by omega) (by omega) rfl rfl (?_ : wpv K_X8_act d P 58 [some (4, (p0 : Int)), some (0, x1), some (0, x2), some (0, x3)] [] G R V1)
      refine wp_p (i := (.lconst 0)) rfl rfl (fun _ _ _ => rfl) (?_ : wpv K_X8_act d P 59 [some (4, (p0 : Int)), some (0, x1), some (0, x2), some (0, x3)] [(2, 0)] G R V1)
      refine wp_lsto (i := (.lstore 4)) _ rfl rfl (fun _ => rfl) rfl rfl rfl ?_
      refine wp_wk (L' := [some (4, (p0 : Int)), some (0, x1), some (0, x2), some (0, x3), some (2, 0)]) (wk_s (wk_s (wk_s (wk_s (wk_s wk_0))))) ?_
      show wpv K_X8_act d P 61 [some (4, (p0 : Int)), some (0, x1), some (0, x2), some (0, x3), some (2, 0)] [] G R V1
      refine wp_p (i := (.iconst 0)) rfl rfl (fun _ _ _ => rfl) (?_ : wpv K_X8_act d P 62 [some (4, (p0 : Int)), some (0, x1), some (0, x2), some (0, x3), some (2, 0)] [(0, 0)] G R V1)
      refine wp_sto (i := (.istore 6)) _ rfl rfl (fun _ => rfl) rfl rfl rfl ?_
      refine wp_wk (L' := [some (4, (p0 : Int)), some (0, x1), some (0, x2), some (0, x3), some (2, 0), none, some (0, 0)]) (wk_s (wk_s (wk_s (wk_s (wk_s (wk_n (wk_s wk_0))))))) ?_
      show wpv K_X8_act d P 64 [some (4, (p0 : Int)), some (0, x1), some (0, x2), some (0, x3), some (2, 0), none, some (0, 0)] [] G R V1
      exact wp_wk (wk_s (wk_s (wk_n (wk_n (wk_s (wk_n (wk_s wk_0))))))) w
    replace w := w.2
    by_cases q2 : x2 = 2
    · replace w := w.1 q2
      refine wp_tsw 2 100 rfl rfl s4 (by omega) (by omega) rfl rfl (?_ : wpv K_X8_act d P 100 [some (4, (p0 : Int)), some (0, x1), some (0, x2), some (0, x3)] [] G R V1)
      refine wp_ld (i := (.aload_n 0)) (4, (p0 : Int)) rfl rfl (fun _ => rfl) rfl rfl (?_ : wpv K_X8_act d P 101 [some (4, (p0 : Int)), some (0, x1), some (0, x2), some (0, x3)] [(4, (p0 : Int))] G R V1)
      refine wp_ld (i := (.iload_n 1)) (0, x1) rfl rfl (fun _ => rfl) rfl rfl (?_ : wpv K_X8_act d P 102 [some (4, (p0 : Int)), some (0, x1), some (0, x2), some (0, x3)] [(0, x1), (4, (p0 : Int))] G R V1)
      refine wp_virt (as := [(0, x1)]) (a := p0) (st := []) _ rfl rfl rfl rfl rfl rfl (ly8_o l0) (Nat.le_of_ble_eq_true rfl) (cwv_kI w (fun v8 V7 w => ?_))
      show wpv K_X8_act d P 105 [some (4, (p0 : Int)), some (0, x1), some (0, x2), some (0, x3)] [(0, v8)] G R V7
      obtain ⟨s9, w⟩ := w
      refine wp_i2l rfl rfl s9 (?_ : wpv K_X8_act d P 106 [some (4, (p0 : Int)), some (0, x1), some (0, x2), some (0, x3)] [(2, v8)] G R V7)
      exact wp_rJ rfl rfl rfl w
    replace w := w.2
    by_cases q3 : x2 = 3
    · replace w := w.1 q3
      refine wp_tsw 3 107 rfl rfl s4 (by omega) (by omega) rfl rfl (?_ : wpv K_X8_act d P 107 [some (4, (p0 : Int)), some (0, x1), some (0, x2), some (0, x3)] [] G R V1)
      refine wp_ld (i := (.aload_n 0)) (4, (p0 : Int)) rfl rfl (fun _ => rfl) rfl rfl (?_ : wpv K_X8_act d P 108 [some (4, (p0 : Int)), some (0, x1), some (0, x2), some (0, x3)] [(4, (p0 : Int))] G R V1)
      refine wp_ld (i := (.iload_n 3)) (0, x3) rfl rfl (fun _ => rfl) rfl rfl (?_ : wpv K_X8_act d P 109 [some (4, (p0 : Int)), some (0, x1), some (0, x2), some (0, x3)] [(0, x3), (4, (p0 : Int))] G R V1)
      refine wp_virt (as := [(0, x3)]) (a := p0) (st := []) _ rfl rfl rfl rfl rfl rfl (ly8_o l0) (Nat.le_of_ble_eq_true rfl) (cwv_kI w (fun v11 V10 w => ?_))
      show wpv K_X8_act d P 112 [some (4, (p0 : Int)), some (0, x1), some (0, x2), some (0, x3)] [(0, v11)] G R V10
      obtain ⟨s12, w⟩ := w
      refine wp_if (c := .eq) 133 rfl rfl rfl s12 (fun q => ?_) (fun q => ?_)
      · have q : v11 = 0 := q
        replace w := w.1 q
        show wpv K_X8_act d P 133 [some (4, (p0 : Int)), some (0, x1), some (0, x2), some (0, x3)] [] G R V10
        refine wp_p (i := (.ldc2_w 287)) rfl rfl (fun _ _ _ => rfl) (?_ : wpv K_X8_act d P 136 [some (4, (p0 : Int)), some (0, x1), some (0, x2), some (0, x3)] [(2, (-1))] G R V10)
        exact wp_rJ rfl rfl rfl w
      · have q : ¬ v11 = 0 := q
        replace w := w.2 q
        show wpv K_X8_act d P 115 [some (4, (p0 : Int)), some (0, x1), some (0, x2), some (0, x3)] [] G R V10
        refine wp_ld (i := (.aload_n 0)) (4, (p0 : Int)) rfl rfl (fun _ => rfl) rfl rfl (?_ : wpv K_X8_act d P 116 [some (4, (p0 : Int)), some (0, x1), some (0, x2), some (0, x3)] [(4, (p0 : Int))] G R V10)
        refine wp_ld (i := (.iload_n 1)) (0, x1) rfl rfl (fun _ => rfl) rfl rfl (?_ : wpv K_X8_act d P 117 [some (4, (p0 : Int)), some (0, x1), some (0, x2), some (0, x3)] [(0, x1), (4, (p0 : Int))] G R V10)
        refine wp_ld (i := (.aload_n 0)) (4, (p0 : Int)) rfl rfl (fun _ => rfl) rfl rfl (?_ : wpv K_X8_act d P 118 [some (4, (p0 : Int)), some (0, x1), some (0, x2), some (0, x3)] [(4, (p0 : Int)), (0, x1), (4, (p0 : Int))] G R V10)
        refine wp_getA (k := 19) rfl rfl rfl (ly8_o l0) rfl rfl (ly8_19 l0).1 (?_ : wpv K_X8_act d P 121 [some (4, (p0 : Int)), some (0, x1), some (0, x2), some (0, x3)] [(4, ((p0 + 14 : Nat) : Int)), (0, x1), (4, (p0 : Int))] G R V10)
        refine wp_ld (i := (.aload_n 0)) (4, (p0 : Int)) rfl rfl (fun _ => rfl) rfl rfl (?_ : wpv K_X8_act d P 122 [some (4, (p0 : Int)), some (0, x1), some (0, x2), some (0, x3)] [(4, (p0 : Int)), (4, ((p0 + 14 : Nat) : Int)), (0, x1), (4, (p0 : Int))] G R V10)
        refine wp_ld (i := (.iload_n 3)) (0, x3) rfl rfl (fun _ => rfl) rfl rfl (?_ : wpv K_X8_act d P 123 [some (4, (p0 : Int)), some (0, x1), some (0, x2), some (0, x3)] [(0, x3), (4, (p0 : Int)), (4, ((p0 + 14 : Nat) : Int)), (0, x1), (4, (p0 : Int))] G R V10)
        refine wp_virt (as := [(0, x3)]) (a := p0) (st := [(4, ((p0 + 14 : Nat) : Int)), (0, x1), (4, (p0 : Int))]) _ rfl rfl rfl rfl rfl rfl (ly8_o l0) (Nat.le_of_ble_eq_true rfl) (cwv_kI w (fun v14 V13 w => ?_))
        show wpv K_X8_act d P 126 [some (4, (p0 : Int)), some (0, x1), some (0, x2), some (0, x3)] [(0, v14), (4, ((p0 + 14 : Nat) : Int)), (0, x1), (4, (p0 : Int))] G R V13
        obtain ⟨s15, w⟩ := w
        refine wp_rng (fun vr16 => ?_)
        have f17 : i32 (V13 (p0 + 14) v14) := vr_a0 vr16 (ly8_19 l0).2 s15
        replace w := w f17
        refine wp_aI rfl rfl (ly8_19 l0).2 s15 (?_ : wpv K_X8_act d P 127 [some (4, (p0 : Int)), some (0, x1), some (0, x2), some (0, x3)] [(0, (V13 (p0 + 14) v14)), (0, x1), (4, (p0 : Int))] G R V13)
        refine wp_virt (as := [(0, x1), (0, (V13 (p0 + 14) v14))]) (a := p0) (st := []) _ rfl rfl rfl rfl rfl rfl (ly8_o l0) (Nat.le_of_ble_eq_true rfl) (cwv_kJ w (fun v19 V18 w => ?_))
        show wpv K_X8_act d P 130 [some (4, (p0 : Int)), some (0, x1), some (0, x2), some (0, x3)] [(2, v19)] G R V18
        refine wp_go 136 rfl rfl rfl (?_ : wpv K_X8_act d P 136 [some (4, (p0 : Int)), some (0, x1), some (0, x2), some (0, x3)] [(2, v19)] G R V18)
        exact wp_rJ rfl rfl rfl w
    replace w := w.2
    by_cases q4 : x2 = 4
    · replace w := w.1 q4
      refine wp_tsw 4 137 rfl rfl s4 (by omega) (by omega) rfl rfl (?_ : wpv K_X8_act d P 137 [some (4, (p0 : Int)), some (0, x1), some (0, x2), some (0, x3)] [] G R V1)
      refine wp_ld (i := (.aload_n 0)) (4, (p0 : Int)) rfl rfl (fun _ => rfl) rfl rfl (?_ : wpv K_X8_act d P 138 [some (4, (p0 : Int)), some (0, x1), some (0, x2), some (0, x3)] [(4, (p0 : Int))] G R V1)
      refine wp_ld (i := (.iload_n 3)) (0, x3) rfl rfl (fun _ => rfl) rfl rfl (?_ : wpv K_X8_act d P 139 [some (4, (p0 : Int)), some (0, x1), some (0, x2), some (0, x3)] [(0, x3), (4, (p0 : Int))] G R V1)
      refine wp_virt (as := [(0, x3)]) (a := p0) (st := []) _ rfl rfl rfl rfl rfl rfl (ly8_o l0) (Nat.le_of_ble_eq_true rfl) (cwv_kI w (fun v21 V20 w => ?_))
      show wpv K_X8_act d P 142 [some (4, (p0 : Int)), some (0, x1), some (0, x2), some (0, x3)] [(0, v21)] G R V20
      obtain ⟨s22, w⟩ := w
      refine wp_if (c := .eq) 158 rfl rfl rfl s22 (fun q => ?_) (fun q => ?_)
      · have q : v21 = 0 := q
        replace w := w.1 q
        show wpv K_X8_act d P 158 [some (4, (p0 : Int)), some (0, x1), some (0, x2), some (0, x3)] [] G R V20
        refine wp_p (i := (.ldc2_w 287)) rfl rfl (fun _ _ _ => rfl) (?_ : wpv K_X8_act d P 161 [some (4, (p0 : Int)), some (0, x1), some (0, x2), some (0, x3)] [(2, (-1))] G R V20)
        exact wp_rJ rfl rfl rfl w
      · have q : ¬ v21 = 0 := q
        replace w := w.2 q
        show wpv K_X8_act d P 145 [some (4, (p0 : Int)), some (0, x1), some (0, x2), some (0, x3)] [] G R V20
        refine wp_ld (i := (.aload_n 0)) (4, (p0 : Int)) rfl rfl (fun _ => rfl) rfl rfl (?_ : wpv K_X8_act d P 146 [some (4, (p0 : Int)), some (0, x1), some (0, x2), some (0, x3)] [(4, (p0 : Int))] G R V20)
        refine wp_ld (i := (.iload_n 1)) (0, x1) rfl rfl (fun _ => rfl) rfl rfl (?_ : wpv K_X8_act d P 147 [some (4, (p0 : Int)), some (0, x1), some (0, x2), some (0, x3)] [(0, x1), (4, (p0 : Int))] G R V20)
        refine wp_ld (i := (.aload_n 0)) (4, (p0 : Int)) rfl rfl (fun _ => rfl) rfl rfl (?_ : wpv K_X8_act d P 148 [some (4, (p0 : Int)), some (0, x1), some (0, x2), some (0, x3)] [(4, (p0 : Int)), (0, x1), (4, (p0 : Int))] G R V20)
        refine wp_ld (i := (.iload_n 3)) (0, x3) rfl rfl (fun _ => rfl) rfl rfl (?_ : wpv K_X8_act d P 149 [some (4, (p0 : Int)), some (0, x1), some (0, x2), some (0, x3)] [(0, x3), (4, (p0 : Int)), (0, x1), (4, (p0 : Int))] G R V20)
        refine wp_virt (as := [(0, x3)]) (a := p0) (st := [(0, x1), (4, (p0 : Int))]) _ rfl rfl rfl rfl rfl rfl (ly8_o l0) (Nat.le_of_ble_eq_true rfl) (cwv_kI w (fun v24 V23 w => ?_))
        show wpv K_X8_act d P 152 [some (4, (p0 : Int)), some (0, x1), some (0, x2), some (0, x3)] [(0, v24), (0, x1), (4, (p0 : Int))] G R V23
        refine wp_virt (as := [(0, x1), (0, v24)]) (a := p0) (st := []) _ rfl rfl rfl rfl rfl rfl (ly8_o l0) (Nat.le_of_ble_eq_true rfl) (cwv_kJ w (fun v26 V25 w => ?_))
        show wpv K_X8_act d P 155 [some (4, (p0 : Int)), some (0, x1), some (0, x2), some (0, x3)] [(2, v26)] G R V25
        refine wp_go 161 rfl rfl rfl (?_ : wpv K_X8_act d P 161 [some (4, (p0 : Int)), some (0, x1), some (0, x2), some (0, x3)] [(2, v26)] G R V25)
        exact wp_rJ rfl rfl rfl w
    replace w := w.2
    have q5 : x2 = 5 := by omega
    replace w := w q5
    refine wp_tsw 5 162 rfl rfl s4 (by omega) (by omega) rfl rfl (?_ : wpv K_X8_act d P 162 [some (4, (p0 : Int)), some (0, x1), some (0, x2), some (0, x3)] [] G R V1)
    refine wp_ld (i := (.aload_n 0)) (4, (p0 : Int)) rfl rfl (fun _ => rfl) rfl rfl (?_ : wpv K_X8_act d P 163 [some (4, (p0 : Int)), some (0, x1), some (0, x2), some (0, x3)] [(4, (p0 : Int))] G R V1)
    refine wp_ld (i := (.iload_n 3)) (0, x3) rfl rfl (fun _ => rfl) rfl rfl (?_ : wpv K_X8_act d P 164 [some (4, (p0 : Int)), some (0, x1), some (0, x2), some (0, x3)] [(0, x3), (4, (p0 : Int))] G R V1)
    refine wp_virt (as := [(0, x3)]) (a := p0) (st := []) _ rfl rfl rfl rfl rfl rfl (ly8_o l0) (Nat.le_of_ble_eq_true rfl) (cwv_kI w (fun v28 V27 w => ?_))
    show wpv K_X8_act d P 167 [some (4, (p0 : Int)), some (0, x1), some (0, x2), some (0, x3)] [(0, v28)] G R V27
    obtain ⟨s29, w⟩ := w
    refine wp_if (c := .eq) 179 rfl rfl rfl s29 (fun q => ?_) (fun q => ?_)
    · have q : v28 = 0 := q
      replace w := w.1 q
      show wpv K_X8_act d P 179 [some (4, (p0 : Int)), some (0, x1), some (0, x2), some (0, x3)] [] G R V27
      refine wp_p (i := (.ldc2_w 287)) rfl rfl (fun _ _ _ => rfl) (?_ : wpv K_X8_act d P 182 [some (4, (p0 : Int)), some (0, x1), some (0, x2), some (0, x3)] [(2, (-1))] G R V27)
      exact wp_rJ rfl rfl rfl w
    · have q : ¬ v28 = 0 := q
      replace w := w.2 q
      show wpv K_X8_act d P 170 [some (4, (p0 : Int)), some (0, x1), some (0, x2), some (0, x3)] [] G R V27
      refine wp_ld (i := (.aload_n 0)) (4, (p0 : Int)) rfl rfl (fun _ => rfl) rfl rfl (?_ : wpv K_X8_act d P 171 [some (4, (p0 : Int)), some (0, x1), some (0, x2), some (0, x3)] [(4, (p0 : Int))] G R V27)
      refine wp_ld (i := (.iload_n 1)) (0, x1) rfl rfl (fun _ => rfl) rfl rfl (?_ : wpv K_X8_act d P 172 [some (4, (p0 : Int)), some (0, x1), some (0, x2), some (0, x3)] [(0, x1), (4, (p0 : Int))] G R V27)
      refine wp_ld (i := (.iload_n 3)) (0, x3) rfl rfl (fun _ => rfl) rfl rfl (?_ : wpv K_X8_act d P 173 [some (4, (p0 : Int)), some (0, x1), some (0, x2), some (0, x3)] [(0, x3), (0, x1), (4, (p0 : Int))] G R V27)
      refine wp_virt (as := [(0, x1), (0, x3)]) (a := p0) (st := []) _ rfl rfl rfl rfl rfl rfl (ly8_o l0) (Nat.le_of_ble_eq_true rfl) (cwv_kJ w (fun v31 V30 w => ?_))
      show wpv K_X8_act d P 176 [some (4, (p0 : Int)), some (0, x1), some (0, x2), some (0, x3)] [(2, v31)] G R V30
      refine wp_go 182 rfl rfl rfl (?_ : wpv K_X8_act d P 182 [some (4, (p0 : Int)), some (0, x1), some (0, x2), some (0, x3)] [(2, v31)] G R V30)
      exact wp_rJ rfl rfl rfl w
  · have q : v2 = 0 := Decidable.not_not.mp q
    replace w := w.2 q
    show wpv K_X8_act d P 8 [some (4, (p0 : Int)), some (0, x1), some (0, x2), some (0, x3)] [] G R V1
    refine wp_p (i := (.ldc2_w 287)) rfl rfl (fun _ _ _ => rfl) (?_ : wpv K_X8_act d P 11 [some (4, (p0 : Int)), some (0, x1), some (0, x2), some (0, x3)] [(2, (-1))] G R V1)
    exact wp_rJ rfl rfl rfl w

theorem t_X8_act_64 {d : Nat} {P : gP} {p0 : Nat} {x1 : Int} {x4 : Int} {x6 : Int} {G : List gS} {R V : gV} (l0 : lay8 G R p0) (w : ((i32 (V p0 13)) → ((i32 x6) ∧ (((¬ x6 < (V p0 13)) → P (some (2, x4)) V) ∧ ((x6 < (V p0 13)) → ((i32 (300 * x1)) ∧ ((i32 ((300 * x1) + x6)) ∧ ((0 ≤ ((300 * x1) + x6) ∧ ((300 * x1) + x6) < 2400) ∧ ((i64 (V (p0 + 22) (((300 * x1) + x6)))) → ((i32 (x6 + 1)) ∧ wpv K_X8_act d P 64 [some (4, (p0 : Int)), some (0, x1), none, none, some (2, (jadd x4 ((V (p0 + 22) (((300 * x1) + x6)))))), none, some (0, (x6 + 1))] [] G R V)))))))))) : wpv K_X8_act d P 64 [some (4, (p0 : Int)), some (0, x1), none, none, some (2, x4), none, some (0, x6)] [] G R V := by
  refine wp_ld (i := (.iload 6)) (0, x6) rfl rfl (fun _ => rfl) rfl rfl (?_ : wpv K_X8_act d P 66 [some (4, (p0 : Int)), some (0, x1), none, none, some (2, x4), none, some (0, x6)] [(0, x6)] G R V)
  refine wp_ld (i := (.aload_n 0)) (4, (p0 : Int)) rfl rfl (fun _ => rfl) rfl rfl (?_ : wpv K_X8_act d P 67 [some (4, (p0 : Int)), some (0, x1), none, none, some (2, x4), none, some (0, x6)] [(4, (p0 : Int)), (0, x6)] G R V)
  refine wp_rng (fun vr1 => ?_)
  have f2 : i32 (V p0 13) := vr_f0 vr1 (ly8_o l0) rfl rfl
  replace w := w f2
  refine wp_getI (k := 13) rfl rfl rfl (ly8_o l0) rfl rfl (?_ : wpv K_X8_act d P 70 [some (4, (p0 : Int)), some (0, x1), none, none, some (2, x4), none, some (0, x6)] [(0, (V p0 13)), (0, x6)] G R V)
  obtain ⟨s3, w⟩ := w
  refine wp_icmp (c := .ge) 97 rfl rfl rfl s3 f2 (fun q => ?_) (fun q => ?_)
  · have q : ¬ x6 < (V p0 13) := q
    replace w := w.1 q
    show wpv K_X8_act d P 97 [some (4, (p0 : Int)), some (0, x1), none, none, some (2, x4), none, some (0, x6)] [] G R V
    refine wp_ld (i := (.lload 4)) (2, x4) rfl rfl (fun _ => rfl) rfl rfl (?_ : wpv K_X8_act d P 99 [some (4, (p0 : Int)), some (0, x1), none, none, some (2, x4), none, some (0, x6)] [(2, x4)] G R V)
    exact wp_rJ rfl rfl rfl w
  · have q : x6 < (V p0 13) := Decidable.not_not.mp q
    replace w := w.2 q
    show wpv K_X8_act d P 73 [some (4, (p0 : Int)), some (0, x1), none, none, some (2, x4), none, some (0, x6)] [] G R V
    refine wp_ld (i := (.lload 4)) (2, x4) rfl rfl (fun _ => rfl) rfl rfl (?_ : wpv K_X8_act d P 75 [some (4, (p0 : Int)), some (0, x1), none, none, some (2, x4), none, some (0, x6)] [(2, x4)] G R V)
    refine wp_ld (i := (.aload_n 0)) (4, (p0 : Int)) rfl rfl (fun _ => rfl) rfl rfl (?_ : wpv K_X8_act d P 76 [some (4, (p0 : Int)), some (0, x1), none, none, some (2, x4), none, some (0, x6)] [(4, (p0 : Int)), (2, x4)] G R V)
    refine wp_getA (k := 29) rfl rfl rfl (ly8_o l0) rfl rfl (ly8_29 l0).1 (?_ : wpv K_X8_act d P 79 [some (4, (p0 : Int)), some (0, x1), none, none, some (2, x4), none, some (0, x6)] [(4, ((p0 + 22 : Nat) : Int)), (2, x4)] G R V)
    refine wp_p (i := (.sipush 300)) rfl rfl (fun _ _ _ => rfl) (?_ : wpv K_X8_act d P 82 [some (4, (p0 : Int)), some (0, x1), none, none, some (2, x4), none, some (0, x6)] [(0, 300), (4, ((p0 + 22 : Nat) : Int)), (2, x4)] G R V)
    refine wp_ld (i := (.iload_n 1)) (0, x1) rfl rfl (fun _ => rfl) rfl rfl (?_ : wpv K_X8_act d P 83 [some (4, (p0 : Int)), some (0, x1), none, none, some (2, x4), none, some (0, x6)] [(0, x1), (0, 300), (4, ((p0 + 22 : Nat) : Int)), (2, x4)] G R V)
    obtain ⟨s4, w⟩ := w
    refine wp_xmul rfl rfl s4 (?_ : wpv K_X8_act d P 84 [some (4, (p0 : Int)), some (0, x1), none, none, some (2, x4), none, some (0, x6)] [(0, (300 * x1)), (4, ((p0 + 22 : Nat) : Int)), (2, x4)] G R V)
    refine wp_ld (i := (.iload 6)) (0, x6) rfl rfl (fun _ => rfl) rfl rfl (?_ : wpv K_X8_act d P 86 [some (4, (p0 : Int)), some (0, x1), none, none, some (2, x4), none, some (0, x6)] [(0, x6), (0, (300 * x1)), (4, ((p0 + 22 : Nat) : Int)), (2, x4)] G R V)
    obtain ⟨s5, w⟩ := w
    refine wp_xadd rfl rfl s5 (?_ : wpv K_X8_act d P 87 [some (4, (p0 : Int)), some (0, x1), none, none, some (2, x4), none, some (0, x6)] [(0, ((300 * x1) + x6)), (4, ((p0 + 22 : Nat) : Int)), (2, x4)] G R V)
    obtain ⟨s6, w⟩ := w
    have f7 : i64 (V (p0 + 22) (((300 * x1) + x6))) := vr_a1 vr1 (ly8_29 l0).2 s6
    replace w := w f7
    refine wp_aJ rfl rfl (ly8_29 l0).2 s6 (?_ : wpv K_X8_act d P 88 [some (4, (p0 : Int)), some (0, x1), none, none, some (2, x4), none, some (0, x6)] [(2, (V (p0 + 22) (((300 * x1) + x6)))), (2, x4)] G R V)
    refine wp_jadd rfl rfl (?_ : wpv K_X8_act d P 89 [some (4, (p0 : Int)), some (0, x1), none, none, some (2, x4), none, some (0, x6)] [(2, (jadd x4 ((V (p0 + 22) (((300 * x1) + x6))))))] G R V)
    refine wp_lsto (i := (.lstore 4)) _ rfl rfl (fun _ => rfl) rfl rfl rfl ?_
    refine wp_wk (L' := [some (4, (p0 : Int)), some (0, x1), none, none, some (2, (jadd x4 ((V (p0 + 22) (((300 * x1) + x6)))))), none, some (0, x6)]) (wk_s (wk_s (wk_n (wk_n (wk_s (wk_n (wk_s wk_0))))))) ?_
    show wpv K_X8_act d P 91 [some (4, (p0 : Int)), some (0, x1), none, none, some (2, (jadd x4 ((V (p0 + 22) (((300 * x1) + x6)))))), none, some (0, x6)] [] G R V
    obtain ⟨s8, w⟩ := w
    refine wp_inc (x := 6) (k := 1) (a := x6) (c := (x6 + 1)) _ rfl rfl rfl rfl s8 (by omega) rfl ?_
    show wpv K_X8_act d P 94 [some (4, (p0 : Int)), some (0, x1), none, none, some (2, (jadd x4 ((V (p0 + 22) (((300 * x1) + x6)))))), none, some (0, (x6 + 1))] [] G R V
    refine wp_go 64 rfl rfl rfl (?_ : wpv K_X8_act d P 64 [some (4, (p0 : Int)), some (0, x1), none, none, some (2, (jadd x4 ((V (p0 + 22) (((300 * x1) + x6)))))), none, some (0, (x6 + 1))] [] G R V)
    exact wp_wk (wk_s (wk_s (wk_n (wk_n (wk_s (wk_n (wk_s wk_0))))))) w
