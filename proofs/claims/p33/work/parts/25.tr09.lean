theorem t_X7_simple_0 {d : Nat} {P : gP} {p0 : Nat} {G : List gS} {R V : gV} (l0 : lay7 G R p0) (w : (∃ b1 : Nat, (R p0 6 = (b1 : Int) ∧ lay1 G R b1) ∧ (∃ b2 : Nat, (R b1 0 = (b2 : Int) ∧ lay2 G R b2) ∧ cwv d (fun r V3 => ∃ v4 : Int, r = some (0, v4) ∧ ((i32 v4) ∧ (((¬ v4 = 2) → P (some (0, 0)) V3) ∧ ((v4 = 2) → P (some (0, 1)) V3)))) 67 [(4, ((b2 + 10 : Nat) : Int))] G R V))) : wpv K_X7_simple d P 0 [some (4, (p0 : Int))] [] G R V := by
  refine wp_ld (i := (.aload_n 0)) (4, (p0 : Int)) rfl rfl (fun _ => rfl) rfl rfl (?_ : wpv K_X7_simple d P 1 [some (4, (p0 : Int))] [(4, (p0 : Int))] G R V)
  obtain ⟨b1, ⟨r1, l1_⟩, w⟩ := w
  refine wp_getA (k := 6) rfl rfl rfl (ly7_o l0) rfl rfl r1 (?_ : wpv K_X7_simple d P 4 [some (4, (p0 : Int))] [(4, (b1 : Int))] G R V)
  obtain ⟨b2, ⟨r2, l2_⟩, w⟩ := w
  refine wp_getA (k := 0) rfl rfl rfl (ly1_o l1_) rfl rfl r2 (?_ : wpv K_X7_simple d P 7 [some (4, (p0 : Int))] [(4, (b2 : Int))] G R V)
  refine wp_getA (k := 1) rfl rfl rfl (ly2_o l2_) rfl rfl (ly2_1 l2_).1 (?_ : wpv K_X7_simple d P 10 [some (4, (p0 : Int))] [(4, ((b2 + 10 : Nat) : Int))] G R V)
  refine wp_virt (as := []) (a := b2 + 10) (st := []) _ rfl rfl rfl rfl rfl rfl (ly4_o (ly2_1 l2_).2) (Nat.le_of_ble_eq_true rfl) (cwv_kI w (fun v4 V3 w => ?_))
  show wpv K_X7_simple d P 13 [some (4, (p0 : Int))] [(0, v4)] G R V3
  refine wp_p (i := (.iconst 2)) rfl rfl (fun _ _ _ => rfl) (?_ : wpv K_X7_simple d P 14 [some (4, (p0 : Int))] [(0, 2), (0, v4)] G R V3)
  obtain ⟨s5, w⟩ := w
  refine wp_icmp (c := .ne) 21 rfl rfl rfl s5 ⟨by omega, by omega⟩ (fun q => ?_) (fun q => ?_)
  · have q : ¬ v4 = 2 := q
    replace w := w.1 q
    show wpv K_X7_simple d P 21 [some (4, (p0 : Int))] [] G R V3
    refine wp_p (i := (.iconst 0)) rfl rfl (fun _ _ _ => rfl) (?_ : wpv K_X7_simple d P 22 [some (4, (p0 : Int))] [(0, 0)] G R V3)
    exact wp_rI rfl rfl rfl w
  · have q : v4 = 2 := Decidable.not_not.mp q
    replace w := w.2 q
    show wpv K_X7_simple d P 17 [some (4, (p0 : Int))] [] G R V3
    refine wp_p (i := (.iconst 1)) rfl rfl (fun _ _ _ => rfl) (?_ : wpv K_X7_simple d P 18 [some (4, (p0 : Int))] [(0, 1)] G R V3)
    refine wp_go 22 rfl rfl rfl (?_ : wpv K_X7_simple d P 22 [some (4, (p0 : Int))] [(0, 1)] G R V3)
    exact wp_rI rfl rfl rfl w
theorem t_X7_coset_0 {d : Nat} {P : gP} {p0 : Nat} {x1 : Int} {x2 : Int} {G : List gS} {R V : gV} (l0 : lay7 G R p0) (w : cwv d (fun r V1 => ∃ v2 : Int, r = some (0, v2) ∧ ((i32 v2) ∧ (((¬ v2 = 0) → (∃ b4 : Nat, (R p0 6 = (b4 : Int) ∧ lay1 G R b4) ∧ (∃ b5 : Nat, (R b4 0 = (b5 : Int) ∧ lay2 G R b5) ∧ cwv d (fun r V6 => ∃ v7 : Int, r = some (0, v7) ∧ ((i32 v7) ∧ (((¬ v7 = 0) → cwv d (fun r V9 => r = none ∧ cwv d (fun r V10 => ∃ v11 : Int, r = some (2, v11) ∧ P (some (2, v11)) V10) 143 [(4, (p0 : Int)), (0, x1)] G R V9) 1 [(4, ((p0 + 15 : Nat) : Int)), (4, ((b5 + 10 : Nat) : Int)), (0, x2)] G R V6) ∧ ((v7 = 0) → cwv d (fun r V12 => ∃ v13 : Int, r = some (0, v13) ∧ ((i32 v13) ∧ P (some (2, v13)) V12)) 138 [(4, (p0 : Int)), (0, (-2))] G R V6)))) 57 [(4, ((b5 + 10 : Nat) : Int)), (0, x2)] G R V1))) ∧ ((v2 = 0) → cwv d (fun r V15 => ∃ v16 : Int, r = some (0, v16) ∧ ((i32 v16) ∧ P (some (2, v16)) V15)) 138 [(4, (p0 : Int)), (0, (-1))] G R V1)))) 141 [(0, x1)] G R V) : wpv K_X7_coset d P 0 [some (4, (p0 : Int)), some (0, x1), some (0, x2)] [] G R V := by
  refine wp_ld (i := (.iload_n 1)) (0, x1) rfl rfl (fun _ => rfl) rfl rfl (?_ : wpv K_X7_coset d P 1 [some (4, (p0 : Int)), some (0, x1), some (0, x2)] [(0, x1)] G R V)
  refine wp_stat (as := [(0, x1)]) (st := []) _ rfl rfl rfl (by omega) rfl rfl (Nat.le_of_ble_eq_true rfl) (cwv_kI w (fun v2 V1 w => ?_))
  show wpv K_X7_coset d P 4 [some (4, (p0 : Int)), some (0, x1), some (0, x2)] [(0, v2)] G R V1
  obtain ⟨s3, w⟩ := w
  refine wp_if (c := .ne) 14 rfl rfl rfl s3 (fun q => ?_) (fun q => ?_)
  · have q : ¬ v2 = 0 := q
    replace w := w.1 q
    show wpv K_X7_coset d P 14 [some (4, (p0 : Int)), some (0, x1), some (0, x2)] [] G R V1
    refine wp_ld (i := (.aload_n 0)) (4, (p0 : Int)) rfl rfl (fun _ => rfl) rfl rfl (?_ : wpv K_X7_coset d P 15 [some (4, (p0 : Int)), some (0, x1), some (0, x2)] [(4, (p0 : Int))] G R V1)
    obtain ⟨b4, ⟨r4, l4_⟩, w⟩ := w
    refine wp_getA (k := 6) rfl rfl rfl (ly7_o l0) rfl rfl r4 (?_ : wpv K_X7_coset d P 18 [some (4, (p0 : Int)), some (0, x1), some (0, x2)] [(4, (b4 : Int))] G R V1)
    obtain ⟨b5, ⟨r5, l5_⟩, w⟩ := w
    refine wp_getA (k := 0) rfl rfl rfl (ly1_o l4_) rfl rfl r5 (?_ : wpv K_X7_coset d P 21 [some (4, (p0 : Int)), some (0, x1), some (0, x2)] [(4, (b5 : Int))] G R V1)
    refine wp_getA (k := 1) rfl rfl rfl (ly2_o l5_) rfl rfl (ly2_1 l5_).1 (?_ : wpv K_X7_coset d P 24 [some (4, (p0 : Int)), some (0, x1), some (0, x2)] [(4, ((b5 + 10 : Nat) : Int))] G R V1)
    refine wp_ld (i := (.iload_n 2)) (0, x2) rfl rfl (fun _ => rfl) rfl rfl (?_ : wpv K_X7_coset d P 25 [some (4, (p0 : Int)), some (0, x1), some (0, x2)] [(0, x2), (4, ((b5 + 10 : Nat) : Int))] G R V1)
    refine wp_virt (as := [(0, x2)]) (a := b5 + 10) (st := []) _ rfl rfl rfl rfl rfl rfl (ly4_o (ly2_1 l5_).2) (Nat.le_of_ble_eq_true rfl) (cwv_kI w (fun v7 V6 w => ?_))
    show wpv K_X7_coset d P 28 [some (4, (p0 : Int)), some (0, x1), some (0, x2)] [(0, v7)] G R V6
    obtain ⟨s8, w⟩ := w
    refine wp_if (c := .ne) 39 rfl rfl rfl s8 (fun q => ?_) (fun q => ?_)
    · have q : ¬ v7 = 0 := q
      replace w := w.1 q
      show wpv K_X7_coset d P 39 [some (4, (p0 : Int)), some (0, x1), some (0, x2)] [] G R V6
      refine wp_ld (i := (.aload_n 0)) (4, (p0 : Int)) rfl rfl (fun _ => rfl) rfl rfl (?_ : wpv K_X7_coset d P 40 [some (4, (p0 : Int)), some (0, x1), some (0, x2)] [(4, (p0 : Int))] G R V6)
      refine wp_getA (k := 3) rfl rfl rfl (ly7_o l0) rfl rfl (ly7_3 l0).1 (?_ : wpv K_X7_coset d P 43 [some (4, (p0 : Int)), some (0, x1), some (0, x2)] [(4, ((p0 + 15 : Nat) : Int))] G R V6)
      refine wp_ld (i := (.aload_n 0)) (4, (p0 : Int)) rfl rfl (fun _ => rfl) rfl rfl (?_ : wpv K_X7_coset d P 44 [some (4, (p0 : Int)), some (0, x1), some (0, x2)] [(4, (p0 : Int)), (4, ((p0 + 15 : Nat) : Int))] G R V6)
      refine wp_getA (k := 6) rfl rfl rfl (ly7_o l0) rfl rfl r4 (?_ : wpv K_X7_coset d P 47 [some (4, (p0 : Int)), some (0, x1), some (0, x2)] [(4, (b4 : Int)), (4, ((p0 + 15 : Nat) : Int))] G R V6)
      refine wp_getA (k := 0) rfl rfl rfl (ly1_o l4_) rfl rfl r5 (?_ : wpv K_X7_coset d P 50 [some (4, (p0 : Int)), some (0, x1), some (0, x2)] [(4, (b5 : Int)), (4, ((p0 + 15 : Nat) : Int))] G R V6)
      refine wp_getA (k := 1) rfl rfl rfl (ly2_o l5_) rfl rfl (ly2_1 l5_).1 (?_ : wpv K_X7_coset d P 53 [some (4, (p0 : Int)), some (0, x1), some (0, x2)] [(4, ((b5 + 10 : Nat) : Int)), (4, ((p0 + 15 : Nat) : Int))] G R V6)
      refine wp_ld (i := (.iload_n 2)) (0, x2) rfl rfl (fun _ => rfl) rfl rfl (?_ : wpv K_X7_coset d P 54 [some (4, (p0 : Int)), some (0, x1), some (0, x2)] [(0, x2), (4, ((b5 + 10 : Nat) : Int)), (4, ((p0 + 15 : Nat) : Int))] G R V6)
      refine wp_virt (as := [(4, ((b5 + 10 : Nat) : Int)), (0, x2)]) (a := p0 + 15) (st := []) _ rfl rfl rfl rfl rfl rfl (ly0_o (ly7_3 l0).2) (Nat.le_of_ble_eq_true rfl) (cwv_k0 w (fun V9 w => ?_))
      show wpv K_X7_coset d P 57 [some (4, (p0 : Int)), some (0, x1), some (0, x2)] [] G R V9
      refine wp_ld (i := (.aload_n 0)) (4, (p0 : Int)) rfl rfl (fun _ => rfl) rfl rfl (?_ : wpv K_X7_coset d P 58 [some (4, (p0 : Int)), some (0, x1), some (0, x2)] [(4, (p0 : Int))] G R V9)
      refine wp_ld (i := (.iload_n 1)) (0, x1) rfl rfl (fun _ => rfl) rfl rfl (?_ : wpv K_X7_coset d P 59 [some (4, (p0 : Int)), some (0, x1), some (0, x2)] [(0, x1), (4, (p0 : Int))] G R V9)
      refine wp_virt (as := [(0, x1)]) (a := p0) (st := []) _ rfl rfl rfl rfl rfl rfl (ly7_o l0) (Nat.le_of_ble_eq_true rfl) (cwv_kJ w (fun v11 V10 w => ?_))
      show wpv K_X7_coset d P 62 [some (4, (p0 : Int)), some (0, x1), some (0, x2)] [(2, v11)] G R V10
      exact wp_rJ rfl rfl rfl w
    · have q : v7 = 0 := Decidable.not_not.mp q
      replace w := w.2 q
      show wpv K_X7_coset d P 31 [some (4, (p0 : Int)), some (0, x1), some (0, x2)] [] G R V6
      refine wp_ld (i := (.aload_n 0)) (4, (p0 : Int)) rfl rfl (fun _ => rfl) rfl rfl (?_ : wpv K_X7_coset d P 32 [some (4, (p0 : Int)), some (0, x1), some (0, x2)] [(4, (p0 : Int))] G R V6)
      refine wp_p (i := (.bipush (-2))) rfl rfl (fun _ _ _ => rfl) (?_ : wpv K_X7_coset d P 34 [some (4, (p0 : Int)), some (0, x1), some (0, x2)] [(0, (-2)), (4, (p0 : Int))] G R V6)
      refine wp_virt (as := [(0, (-2))]) (a := p0) (st := []) _ rfl rfl rfl rfl rfl rfl (ly7_o l0) (Nat.le_of_ble_eq_true rfl) (cwv_kI w (fun v13 V12 w => ?_))
      show wpv K_X7_coset d P 37 [some (4, (p0 : Int)), some (0, x1), some (0, x2)] [(0, v13)] G R V12
      obtain ⟨s14, w⟩ := w
      refine wp_i2l rfl rfl s14 (?_ : wpv K_X7_coset d P 38 [some (4, (p0 : Int)), some (0, x1), some (0, x2)] [(2, v13)] G R V12)
      exact wp_rJ rfl rfl rfl w
  · have q : v2 = 0 := Decidable.not_not.mp q
    replace w := w.2 q
    show wpv K_X7_coset d P 7 [some (4, (p0 : Int)), some (0, x1), some (0, x2)] [] G R V1
    refine wp_ld (i := (.aload_n 0)) (4, (p0 : Int)) rfl rfl (fun _ => rfl) rfl rfl (?_ : wpv K_X7_coset d P 8 [some (4, (p0 : Int)), some (0, x1), some (0, x2)] [(4, (p0 : Int))] G R V1)
    refine wp_p (i := (.iconst (-1))) rfl rfl (fun _ _ _ => rfl) (?_ : wpv K_X7_coset d P 9 [some (4, (p0 : Int)), some (0, x1), some (0, x2)] [(0, (-1)), (4, (p0 : Int))] G R V1)
    refine wp_virt (as := [(0, (-1))]) (a := p0) (st := []) _ rfl rfl rfl rfl rfl rfl (ly7_o l0) (Nat.le_of_ble_eq_true rfl) (cwv_kI w (fun v16 V15 w => ?_))
    show wpv K_X7_coset d P 12 [some (4, (p0 : Int)), some (0, x1), some (0, x2)] [(0, v16)] G R V15
    obtain ⟨s17, w⟩ := w
    refine wp_i2l rfl rfl s17 (?_ : wpv K_X7_coset d P 13 [some (4, (p0 : Int)), some (0, x1), some (0, x2)] [(2, v16)] G R V15)
    exact wp_rJ rfl rfl rfl w
theorem t_X7_places_0 {d : Nat} {P : gP} {p0 : Nat} {x1 : Int} {x2 : Int} {x3 : Int} {G : List gS} {R V : gV} (l0 : lay7 G R p0) (w : cwv d (fun r V1 => ∃ v2 : Int, r = some (0, v2) ∧ ((i32 v2) ∧ (((v2 = 0) → cwv d (fun r V4 => ∃ v5 : Int, r = some (0, v5) ∧ ((i32 v5) ∧ P (some (2, v5)) V4)) 138 [(4, (p0 : Int)), (0, (-1))] G R V1) ∧ ((¬ v2 = 0) → ((i32 x2) ∧ (((x2 < 0) → cwv d (fun r V8 => ∃ v9 : Int, r = some (0, v9) ∧ ((i32 v9) ∧ P (some (2, v9)) V8)) 138 [(4, (p0 : Int)), (0, (-1))] G R V1) ∧ ((¬ x2 < 0) → (∃ b11 : Nat, (R p0 6 = (b11 : Int) ∧ lay1 G R b11) ∧ (∃ b12 : Nat, (R b11 0 = (b12 : Int) ∧ lay2 G R b12) ∧ ((i32 (V1 (b12 + 1) 0)) → ((((V1 (b12 + 1) 0) < x2) → cwv d (fun r V15 => ∃ v16 : Int, r = some (0, v16) ∧ ((i32 v16) ∧ P (some (2, v16)) V15)) 138 [(4, (p0 : Int)), (0, (-1))] G R V1) ∧ ((¬ (V1 (b12 + 1) 0) < x2) → cwv d (fun r V18 => ∃ v19 : Int, r = some (0, v19) ∧ ((i32 v19) ∧ (((¬ v19 = 0) → cwv d (fun r V21 => r = none ∧ cwv d (fun r V22 => ∃ v23 : Int, r = some (2, v23) ∧ P (some (2, v23)) V22) 143 [(4, (p0 : Int)), (0, x1)] G R V21) 2 [(4, ((p0 + 15 : Nat) : Int)), (4, (b12 : Int)), (0, x2), (0, x3)] G R V18) ∧ ((v19 = 0) → cwv d (fun r V24 => ∃ v25 : Int, r = some (0, v25) ∧ ((i32 v25) ∧ P (some (2, v25)) V24)) 138 [(4, (p0 : Int)), (0, (-1))] G R V18)))) 140 [(0, x3)] G R V1)))))))))))) 141 [(0, x1)] G R V) : wpv K_X7_places d P 0 [some (4, (p0 : Int)), some (0, x1), some (0, x2), some (0, x3)] [] G R V := by
  refine wp_ld (i := (.iload_n 1)) (0, x1) rfl rfl (fun _ => rfl) rfl rfl (?_ : wpv K_X7_places d P 1 [some (4, (p0 : Int)), some (0, x1), some (0, x2), some (0, x3)] [(0, x1)] G R V)
  refine wp_stat (as := [(0, x1)]) (st := []) _ rfl rfl rfl (by omega) rfl rfl (Nat.le_of_ble_eq_true rfl) (cwv_kI w (fun v2 V1 w => ?_))
  show wpv K_X7_places d P 4 [some (4, (p0 : Int)), some (0, x1), some (0, x2), some (0, x3)] [(0, v2)] G R V1
  obtain ⟨s3, w⟩ := w
  refine wp_if (c := .eq) 35 rfl rfl rfl s3 (fun q => ?_) (fun q => ?_)
  · have q : v2 = 0 := q
    replace w := w.1 q
    show wpv K_X7_places d P 35 [some (4, (p0 : Int)), some (0, x1), some (0, x2), some (0, x3)] [] G R V1
    refine wp_ld (i := (.aload_n 0)) (4, (p0 : Int)) rfl rfl (fun _ => rfl) rfl rfl (?_ : wpv K_X7_places d P 36 [some (4, (p0 : Int)), some (0, x1), some (0, x2), some (0, x3)] [(4, (p0 : Int))] G R V1)
    refine wp_p (i := (.iconst (-1))) rfl rfl (fun _ _ _ => rfl) (?_ : wpv K_X7_places d P 37 [some (4, (p0 : Int)), some (0, x1), some (0, x2), some (0, x3)] [(0, (-1)), (4, (p0 : Int))] G R V1)
    refine wp_virt (as := [(0, (-1))]) (a := p0) (st := []) _ rfl rfl rfl rfl rfl rfl (ly7_o l0) (Nat.le_of_ble_eq_true rfl) (cwv_kI w (fun v5 V4 w => ?_))
    show wpv K_X7_places d P 40 [some (4, (p0 : Int)), some (0, x1), some (0, x2), some (0, x3)] [(0, v5)] G R V4
    obtain ⟨s6, w⟩ := w
    refine wp_i2l rfl rfl s6 (?_ : wpv K_X7_places d P 41 [some (4, (p0 : Int)), some (0, x1), some (0, x2), some (0, x3)] [(2, v5)] G R V4)
    exact wp_rJ rfl rfl rfl w
  · have q : ¬ v2 = 0 := q
    replace w := w.2 q
    show wpv K_X7_places d P 7 [some (4, (p0 : Int)), some (0, x1), some (0, x2), some (0, x3)] [] G R V1
    refine wp_ld (i := (.iload_n 2)) (0, x2) rfl rfl (fun _ => rfl) rfl rfl (?_ : wpv K_X7_places d P 8 [some (4, (p0 : Int)), some (0, x1), some (0, x2), some (0, x3)] [(0, x2)] G R V1)
    obtain ⟨s7, w⟩ := w
    refine wp_if (c := .lt) 35 rfl rfl rfl s7 (fun q => ?_) (fun q => ?_)
    · have q : x2 < 0 := q
      replace w := w.1 q
      show wpv K_X7_places d P 35 [some (4, (p0 : Int)), some (0, x1), some (0, x2), some (0, x3)] [] G R V1
      refine wp_ld (i := (.aload_n 0)) (4, (p0 : Int)) rfl rfl (fun _ => rfl) rfl rfl (?_ : wpv K_X7_places d P 36 [some (4, (p0 : Int)), some (0, x1), some (0, x2), some (0, x3)] [(4, (p0 : Int))] G R V1)
      refine wp_p (i := (.iconst (-1))) rfl rfl (fun _ _ _ => rfl) (?_ : wpv K_X7_places d P 37 [some (4, (p0 : Int)), some (0, x1), some (0, x2), some (0, x3)] [(0, (-1)), (4, (p0 : Int))] G R V1)
      refine wp_virt (as := [(0, (-1))]) (a := p0) (st := []) _ rfl rfl rfl rfl rfl rfl (ly7_o l0) (Nat.le_of_ble_eq_true rfl) (cwv_kI w (fun v9 V8 w => ?_))
      show wpv K_X7_places d P 40 [some (4, (p0 : Int)), some (0, x1), some (0, x2), some (0, x3)] [(0, v9)] G R V8
      obtain ⟨s10, w⟩ := w
      refine wp_i2l rfl rfl s10 (?_ : wpv K_X7_places d P 41 [some (4, (p0 : Int)), some (0, x1), some (0, x2), some (0, x3)] [(2, v9)] G R V8)
      exact wp_rJ rfl rfl rfl w
    · have q : ¬ x2 < 0 := q
      replace w := w.2 q
      show wpv K_X7_places d P 11 [some (4, (p0 : Int)), some (0, x1), some (0, x2), some (0, x3)] [] G R V1
      refine wp_ld (i := (.iload_n 2)) (0, x2) rfl rfl (fun _ => rfl) rfl rfl (?_ : wpv K_X7_places d P 12 [some (4, (p0 : Int)), some (0, x1), some (0, x2), some (0, x3)] [(0, x2)] G R V1)
      refine wp_ld (i := (.aload_n 0)) (4, (p0 : Int)) rfl rfl (fun _ => rfl) rfl rfl (?_ : wpv K_X7_places d P 13 [some (4, (p0 : Int)), some (0, x1), some (0, x2), some (0, x3)] [(4, (p0 : Int)), (0, x2)] G R V1)
      obtain ⟨b11, ⟨r11, l11_⟩, w⟩ := w
      refine wp_getA (k := 6) rfl rfl rfl (ly7_o l0) rfl rfl r11 (?_ : wpv K_X7_places d P 16 [some (4, (p0 : Int)), some (0, x1), some (0, x2), some (0, x3)] [(4, (b11 : Int)), (0, x2)] G R V1)
      obtain ⟨b12, ⟨r12, l12_⟩, w⟩ := w
      refine wp_getA (k := 0) rfl rfl rfl (ly1_o l11_) rfl rfl r12 (?_ : wpv K_X7_places d P 19 [some (4, (p0 : Int)), some (0, x1), some (0, x2), some (0, x3)] [(4, (b12 : Int)), (0, x2)] G R V1)
      refine wp_getA (k := 0) rfl rfl rfl (ly2_o l12_) rfl rfl (ly2_0 l12_).1 (?_ : wpv K_X7_places d P 22 [some (4, (p0 : Int)), some (0, x1), some (0, x2), some (0, x3)] [(4, ((b12 + 1 : Nat) : Int)), (0, x2)] G R V1)
      refine wp_rng (fun vr13 => ?_)
      have f14 : i32 (V1 (b12 + 1) 0) := vr_f0 vr13 (ly6_o (ly2_0 l12_).2) rfl rfl
      replace w := w f14
      refine wp_getI (k := 0) rfl rfl rfl (ly6_o (ly2_0 l12_).2) rfl rfl (?_ : wpv K_X7_places d P 25 [some (4, (p0 : Int)), some (0, x1), some (0, x2), some (0, x3)] [(0, (V1 (b12 + 1) 0)), (0, x2)] G R V1)
      refine wp_icmp (c := .gt) 35 rfl rfl rfl s7 f14 (fun q => ?_) (fun q => ?_)
      · have q : (V1 (b12 + 1) 0) < x2 := q
        replace w := w.1 q
        show wpv K_X7_places d P 35 [some (4, (p0 : Int)), some (0, x1), some (0, x2), some (0, x3)] [] G R V1
        refine wp_ld (i := (.aload_n 0)) (4, (p0 : Int)) rfl rfl (fun _ => rfl) rfl rfl (?_ : wpv K_X7_places d P 36 [some (4, (p0 : Int)), some (0, x1), some (0, x2), some (0, x3)] [(4, (p0 : Int))] G R V1)
        refine wp_p (i := (.iconst (-1))) rfl rfl (fun _ _ _ => rfl) (?_ : wpv K_X7_places d P 37 [some (4, (p0 : Int)), some (0, x1), some (0, x2), some (0, x3)] [(0, (-1)), (4, (p0 : Int))] G R V1)
        refine wp_virt (as := [(0, (-1))]) (a := p0) (st := []) _ rfl rfl rfl rfl rfl rfl (ly7_o l0) (Nat.le_of_ble_eq_true rfl) (cwv_kI w (fun v16 V15 w => ?_))
        show wpv K_X7_places d P 40 [some (4, (p0 : Int)), some (0, x1), some (0, x2), some (0, x3)] [(0, v16)] G R V15
        obtain ⟨s17, w⟩ := w
        refine wp_i2l rfl rfl s17 (?_ : wpv K_X7_places d P 41 [some (4, (p0 : Int)), some (0, x1), some (0, x2), some (0, x3)] [(2, v16)] G R V15)
        exact wp_rJ rfl rfl rfl w
      · have q : ¬ (V1 (b12 + 1) 0) < x2 := q
        replace w := w.2 q
        show wpv K_X7_places d P 28 [some (4, (p0 : Int)), some (0, x1), some (0, x2), some (0, x3)] [] G R V1
        refine wp_ld (i := (.iload_n 3)) (0, x3) rfl rfl (fun _ => rfl) rfl rfl (?_ : wpv K_X7_places d P 29 [some (4, (p0 : Int)), some (0, x1), some (0, x2), some (0, x3)] [(0, x3)] G R V1)
        refine wp_stat (as := [(0, x3)]) (st := []) _ rfl rfl rfl (by omega) rfl rfl (Nat.le_of_ble_eq_true rfl) (cwv_kI w (fun v19 V18 w => ?_))
        show wpv K_X7_places d P 32 [some (4, (p0 : Int)), some (0, x1), some (0, x2), some (0, x3)] [(0, v19)] G R V18
        obtain ⟨s20, w⟩ := w
        refine wp_if (c := .ne) 42 rfl rfl rfl s20 (fun q => ?_) (fun q => ?_)
        · have q : ¬ v19 = 0 := q
          replace w := w.1 q
          show wpv K_X7_places d P 42 [some (4, (p0 : Int)), some (0, x1), some (0, x2), some (0, x3)] [] G R V18
          refine wp_ld (i := (.aload_n 0)) (4, (p0 : Int)) rfl rfl (fun _ => rfl) rfl rfl (?_ : wpv K_X7_places d P 43 [some (4, (p0 : Int)), some (0, x1), some (0, x2), some (0, x3)] [(4, (p0 : Int))] G R V18)
          refine wp_getA (k := 3) rfl rfl rfl (ly7_o l0) rfl rfl (ly7_3 l0).1 (?_ : wpv K_X7_places d P 46 [some (4, (p0 : Int)), some (0, x1), some (0, x2), some (0, x3)] [(4, ((p0 + 15 : Nat) : Int))] G R V18)
          refine wp_ld (i := (.aload_n 0)) (4, (p0 : Int)) rfl rfl (fun _ => rfl) rfl rfl (?_ : wpv K_X7_places d P 47 [some (4, (p0 : Int)), some (0, x1), some (0, x2), some (0, x3)] [(4, (p0 : Int)), (4, ((p0 + 15 : Nat) : Int))] G R V18)
          refine wp_getA (k := 6) rfl rfl rfl (ly7_o l0) rfl rfl r11 (?_ : wpv K_X7_places d P 50 [some (4, (p0 : Int)), some (0, x1), some (0, x2), some (0, x3)] [(4, (b11 : Int)), (4, ((p0 + 15 : Nat) : Int))] G R V18)
          refine wp_getA (k := 0) rfl rfl rfl (ly1_o l11_) rfl rfl r12 (?_ : wpv K_X7_places d P 53 [some (4, (p0 : Int)), some (0, x1), some (0, x2), some (0, x3)] [(4, (b12 : Int)), (4, ((p0 + 15 : Nat) : Int))] G R V18)
          refine wp_ld (i := (.iload_n 2)) (0, x2) rfl rfl (fun _ => rfl) rfl rfl (?_ : wpv K_X7_places d P 54 [some (4, (p0 : Int)), some (0, x1), some (0, x2), some (0, x3)] [(0, x2), (4, (b12 : Int)), (4, ((p0 + 15 : Nat) : Int))] G R V18)
          refine wp_ld (i := (.iload_n 3)) (0, x3) rfl rfl (fun _ => rfl) rfl rfl (?_ : wpv K_X7_places d P 55 [some (4, (p0 : Int)), some (0, x1), some (0, x2), some (0, x3)] [(0, x3), (0, x2), (4, (b12 : Int)), (4, ((p0 + 15 : Nat) : Int))] G R V18)
          refine wp_virt (as := [(4, (b12 : Int)), (0, x2), (0, x3)]) (a := p0 + 15) (st := []) _ rfl rfl rfl rfl rfl rfl (ly0_o (ly7_3 l0).2) (Nat.le_of_ble_eq_true rfl) (cwv_k0 w (fun V21 w => ?_))
          show wpv K_X7_places d P 58 [some (4, (p0 : Int)), some (0, x1), some (0, x2), some (0, x3)] [] G R V21
          refine wp_ld (i := (.aload_n 0)) (4, (p0 : Int)) rfl rfl (fun _ => rfl) rfl rfl (?_ : wpv K_X7_places d P 59 [some (4, (p0 : Int)), some (0, x1), some (0, x2), some (0, x3)] [(4, (p0 : Int))] G R V21)
          refine wp_ld (i := (.iload_n 1)) (0, x1) rfl rfl (fun _ => rfl) rfl rfl (?_ : wpv K_X7_places d P 60 [some (4, (p0 : Int)), some (0, x1), some (0, x2), some (0, x3)] [(0, x1), (4, (p0 : Int))] G R V21)
          refine wp_virt (as := [(0, x1)]) (a := p0) (st := []) _ rfl rfl rfl rfl rfl rfl (ly7_o l0) (Nat.le_of_ble_eq_true rfl) (cwv_kJ w (fun v23 V22 w => ?_))
          show wpv K_X7_places d P 63 [some (4, (p0 : Int)), some (0, x1), some (0, x2), some (0, x3)] [(2, v23)] G R V22
          exact wp_rJ rfl rfl rfl w
        · have q : v19 = 0 := Decidable.not_not.mp q
          replace w := w.2 q
          show wpv K_X7_places d P 35 [some (4, (p0 : Int)), some (0, x1), some (0, x2), some (0, x3)] [] G R V18
          refine wp_ld (i := (.aload_n 0)) (4, (p0 : Int)) rfl rfl (fun _ => rfl) rfl rfl (?_ : wpv K_X7_places d P 36 [some (4, (p0 : Int)), some (0, x1), some (0, x2), some (0, x3)] [(4, (p0 : Int))] G R V18)
          refine wp_p (i := (.iconst (-1))) rfl rfl (fun _ _ _ => rfl) (?_ : wpv K_X7_places d P 37 [some (4, (p0 : Int)), some (0, x1), some (0, x2), some (0, x3)] [(0, (-1)), (4, (p0 : Int))] G R V18)
          refine wp_virt (as := [(0, (-1))]) (a := p0) (st := []) _ rfl rfl rfl rfl rfl rfl (ly7_o l0) (Nat.le_of_ble_eq_true rfl) (cwv_kI w (fun v25 V24 w => ?_))
          show wpv K_X7_places d P 40 [some (4, (p0 : Int)), some (0, x1), some (0, x2), some (0, x3)] [(0, v25)] G R V24
          obtain ⟨s26, w⟩ := w
          refine wp_i2l rfl rfl s26 (?_ : wpv K_X7_places d P 41 [some (4, (p0 : Int)), some (0, x1), some (0, x2), some (0, x3)] [(2, v25)] G R V24)
          exact wp_rJ rfl rfl rfl w
theorem t_X7_heaps_0 {d : Nat} {P : gP} {p0 : Nat} {x1 : Int} {G : List gS} {R V : gV} (l0 : lay7 G R p0) (w : cwv d (fun r V1 => ∃ v2 : Int, r = some (0, v2) ∧ ((i32 v2) ∧ (((¬ v2 = 0) → (∃ b4 : Nat, (R p0 6 = (b4 : Int) ∧ lay1 G R b4) ∧ (∃ b5 : Nat, (R b4 0 = (b5 : Int) ∧ lay2 G R b5) ∧ cwv d (fun r V6 => r = none ∧ cwv d (fun r V7 => ∃ v8 : Int, r = some (2, v8) ∧ P (some (2, v8)) V7) 143 [(4, (p0 : Int)), (0, x1)] G R V6) 7 [(4, ((p0 + 15 : Nat) : Int)), (4, (b5 : Int))] G R V1))) ∧ ((v2 = 0) → cwv d (fun r V9 => ∃ v10 : Int, r = some (0, v10) ∧ ((i32 v10) ∧ P (some (2, v10)) V9)) 138 [(4, (p0 : Int)), (0, (-1))] G R V1)))) 141 [(0, x1)] G R V) : wpv K_X7_heaps d P 0 [some (4, (p0 : Int)), some (0, x1)] [] G R V := by
  refine wp_ld (i := (.iload_n 1)) (0, x1) rfl rfl (fun _ => rfl) rfl rfl (?_ : wpv K_X7_heaps d P 1 [some (4, (p0 : Int)), some (0, x1)] [(0, x1)] G R V)
  refine wp_stat (as := [(0, x1)]) (st := []) _ rfl rfl rfl (by omega) rfl rfl (Nat.le_of_ble_eq_true rfl) (cwv_kI w (fun v2 V1 w => ?_))
  show wpv K_X7_heaps d P 4 [some (4, (p0 : Int)), some (0, x1)] [(0, v2)] G R V1
  obtain ⟨s3, w⟩ := w
  refine wp_if (c := .ne) 14 rfl rfl rfl s3 (fun q => ?_) (fun q => ?_)
  · have q : ¬ v2 = 0 := q
    replace w := w.1 q
    show wpv K_X7_heaps d P 14 [some (4, (p0 : Int)), some (0, x1)] [] G R V1
    refine wp_ld (i := (.aload_n 0)) (4, (p0 : Int)) rfl rfl (fun _ => rfl) rfl rfl (?_ : wpv K_X7_heaps d P 15 [some (4, (p0 : Int)), some (0, x1)] [(4, (p0 : Int))] G R V1)
    refine wp_getA (k := 3) rfl rfl rfl (ly7_o l0) rfl rfl (ly7_3 l0).1 (?_ : wpv K_X7_heaps d P 18 [some (4, (p0 : Int)), some (0, x1)] [(4, ((p0 + 15 : Nat) : Int))] G R V1)
    refine wp_ld (i := (.aload_n 0)) (4, (p0 : Int)) rfl rfl (fun _ => rfl) rfl rfl (?_ : wpv K_X7_heaps d P 19 [some (4, (p0 : Int)), some (0, x1)] [(4, (p0 : Int)), (4, ((p0 + 15 : Nat) : Int))] G R V1)
    obtain ⟨b4, ⟨r4, l4_⟩, w⟩ := w
    refine wp_getA (k := 6) rfl rfl rfl (ly7_o l0) rfl rfl r4 (?_ : wpv K_X7_heaps d P 22 [some (4, (p0 : Int)), some (0, x1)] [(4, (b4 : Int)), (4, ((p0 + 15 : Nat) : Int))] G R V1)
    obtain ⟨b5, ⟨r5, l5_⟩, w⟩ := w
    refine wp_getA (k := 0) rfl rfl rfl (ly1_o l4_) rfl rfl r5 (?_ : wpv K_X7_heaps d P 25 [some (4, (p0 : Int)), some (0, x1)] [(4, (b5 : Int)), (4, ((p0 + 15 : Nat) : Int))] G R V1)
    refine wp_virt (as := [(4, (b5 : Int))]) (a := p0 + 15) (st := []) _ rfl rfl rfl rfl rfl rfl (ly0_o (ly7_3 l0).2) (Nat.le_of_ble_eq_true rfl) (cwv_k0 w (fun V6 w => ?_))
    show wpv K_X7_heaps d P 28 [some (4, (p0 : Int)), some (0, x1)] [] G R V6
    refine wp_ld (i := (.aload_n 0)) (4, (p0 : Int)) rfl rfl (fun _ => rfl) rfl rfl (?_ : wpv K_X7_heaps d P 29 [some (4, (p0 : Int)), some (0, x1)] [(4, (p0 : Int))] G R V6)
    refine wp_ld (i := (.iload_n 1)) (0, x1) rfl rfl (fun _ => rfl) rfl rfl (?_ : wpv K_X7_heaps d P 30 [some (4, (p0 : Int)), some (0, x1)] [(0, x1), (4, (p0 : Int))] G R V6)
    refine wp_virt (as := [(0, x1)]) (a := p0) (st := []) _ rfl rfl rfl rfl rfl rfl (ly7_o l0) (Nat.le_of_ble_eq_true rfl) (cwv_kJ w (fun v8 V7 w => ?_))
    show wpv K_X7_heaps d P 33 [some (4, (p0 : Int)), some (0, x1)] [(2, v8)] G R V7
    exact wp_rJ rfl rfl rfl w
  · have q : v2 = 0 := Decidable.not_not.mp q
    replace w := w.2 q
    show wpv K_X7_heaps d P 7 [some (4, (p0 : Int)), some (0, x1)] [] G R V1
    refine wp_ld (i := (.aload_n 0)) (4, (p0 : Int)) rfl rfl (fun _ => rfl) rfl rfl (?_ : wpv K_X7_heaps d P 8 [some (4, (p0 : Int)), some (0, x1)] [(4, (p0 : Int))] G R V1)
    refine wp_p (i := (.iconst (-1))) rfl rfl (fun _ _ _ => rfl) (?_ : wpv K_X7_heaps d P 9 [some (4, (p0 : Int)), some (0, x1)] [(0, (-1)), (4, (p0 : Int))] G R V1)
    refine wp_virt (as := [(0, (-1))]) (a := p0) (st := []) _ rfl rfl rfl rfl rfl rfl (ly7_o l0) (Nat.le_of_ble_eq_true rfl) (cwv_kI w (fun v10 V9 w => ?_))
    show wpv K_X7_heaps d P 12 [some (4, (p0 : Int)), some (0, x1)] [(0, v10)] G R V9
    obtain ⟨s11, w⟩ := w
    refine wp_i2l rfl rfl s11 (?_ : wpv K_X7_heaps d P 13 [some (4, (p0 : Int)), some (0, x1)] [(2, v10)] G R V9)
    exact wp_rJ rfl rfl rfl w
theorem t_X7_both_0 {d : Nat} {P : gP} {p0 : Nat} {x1 : Int} {x2 : Int} {x3 : Int} {x4 : Int} {G : List gS} {R V : gV} (l0 : lay7 G R p0) (w : cwv d (fun r V1 => ∃ v2 : Int, r = some (0, v2) ∧ ((i32 v2) ∧ (((v2 = 0) → cwv d (fun r V4 => ∃ v5 : Int, r = some (0, v5) ∧ ((i32 v5) ∧ P (some (2, v5)) V4)) 138 [(4, (p0 : Int)), (0, (-1))] G R V1) ∧ ((¬ v2 = 0) → cwv d (fun r V7 => ∃ v8 : Int, r = some (0, v8) ∧ ((i32 v8) ∧ (((¬ v8 = 0) → cwv d (fun r V10 => ∃ v11 : Int, r = some (0, v11) ∧ ((i32 v11) ∧ (((v11 = 0) → cwv d (fun r V13 => ∃ v14 : Int, r = some (0, v14) ∧ ((i32 v14) ∧ P (some (2, v14)) V13)) 138 [(4, (p0 : Int)), (0, (-2))] G R V10) ∧ ((¬ v11 = 0) → cwv d (fun r V16 => ∃ v17 : Int, r = some (0, v17) ∧ ((i32 v17) ∧ (((¬ v17 = 0) → ((i32 x4) ∧ (((¬ x4 = 0) → (∃ b20 : Nat, (R p0 6 = (b20 : Int) ∧ lay1 G R b20) ∧ cwv d (fun r V21 => ∃ v22 : Int, r = some (2, v22) ∧ cwv d (fun r V23 => ∃ v24 : Int, r = some (2, v24) ∧ cwv d (fun r V25 => ∃ v26 : Int, r = some (2, v26) ∧ ((i64 v26) ∧ (((¬ 1000000000000000 < v26) → cwv d (fun r V28 => r = none ∧ cwv d (fun r V29 => ∃ v30 : Int, r = some (2, v30) ∧ P (some (2, v30)) V29) 143 [(4, (p0 : Int)), (0, x1)] G R V28) 9 [(4, ((p0 + 15 : Nat) : Int)), (4, (b20 : Int)), (0, x2), (0, x3)] G R V25) ∧ ((1000000000000000 < v26) → cwv d (fun r V31 => ∃ v32 : Int, r = some (0, v32) ∧ ((i32 v32) ∧ P (some (2, v32)) V31)) 138 [(4, (p0 : Int)), (0, (-5))] G R V25)))) 152 [(2, v22), (2, v24)] G R V23) 23 [(4, (b20 : Int)), (0, x3)] G R V21) 23 [(4, (b20 : Int)), (0, x2)] G R V16)) ∧ ((x4 = 0) → (∃ b34 : Nat, (R p0 6 = (b34 : Int) ∧ lay1 G R b34) ∧ cwv d (fun r V35 => ∃ v36 : Int, r = some (2, v36) ∧ cwv d (fun r V37 => ∃ v38 : Int, r = some (2, v38) ∧ (((¬ 1000000000000000 < (jadd v36 v38)) → cwv d (fun r V39 => r = none ∧ cwv d (fun r V40 => ∃ v41 : Int, r = some (2, v41) ∧ P (some (2, v41)) V40) 143 [(4, (p0 : Int)), (0, x1)] G R V39) 8 [(4, ((p0 + 15 : Nat) : Int)), (4, (b34 : Int)), (0, x2), (0, x3)] G R V37) ∧ ((1000000000000000 < (jadd v36 v38)) → cwv d (fun r V42 => ∃ v43 : Int, r = some (0, v43) ∧ ((i32 v43) ∧ P (some (2, v43)) V42)) 138 [(4, (p0 : Int)), (0, (-5))] G R V37))) 23 [(4, (b34 : Int)), (0, x3)] G R V35) 23 [(4, (b34 : Int)), (0, x2)] G R V16))))) ∧ ((v17 = 0) → cwv d (fun r V45 => ∃ v46 : Int, r = some (0, v46) ∧ ((i32 v46) ∧ P (some (2, v46)) V45)) 138 [(4, (p0 : Int)), (0, (-2))] G R V16)))) 142 [(4, (p0 : Int)), (0, x3)] G R V10)))) 142 [(4, (p0 : Int)), (0, x2)] G R V7) ∧ ((v8 = 0) → cwv d (fun r V48 => ∃ v49 : Int, r = some (0, v49) ∧ ((i32 v49) ∧ P (some (2, v49)) V48)) 138 [(4, (p0 : Int)), (0, (-1))] G R V7)))) 140 [(0, x4)] G R V1)))) 141 [(0, x1)] G R V) : wpv K_X7_both d P 0 [some (4, (p0 : Int)), some (0, x1), some (0, x2), some (0, x3), some (0, x4)] [] G R V := by
  refine wp_ld (i := (.iload_n 1)) (0, x1) rfl rfl (fun _ => rfl) rfl rfl (?_ : wpv K_X7_both d P 1 [some (4, (p0 : Int)), some (0, x1), some (0, x2), some (0, x3), some (0, x4)] [(0, x1)] G R V)
  refine wp_stat (as := [(0, x1)]) (st := []) _ rfl rfl rfl (by omega) rfl rfl (Nat.le_of_ble_eq_true rfl) (cwv_kI w (fun v2 V1 w => ?_))
  show wpv K_X7_both d P 4 [some (4, (p0 : Int)), some (0, x1), some (0, x2), some (0, x3), some (0, x4)] [(0, v2)] G R V1
  obtain ⟨s3, w⟩ := w
  refine wp_if (c := .eq) 15 rfl rfl rfl s3 (fun q => ?_) (fun q => ?_)
  · have q : v2 = 0 := q
    replace w := w.1 q
    show wpv K_X7_both d P 15 [some (4, (p0 : Int)), some (0, x1), some (0, x2), some (0, x3), some (0, x4)] [] G R V1
    refine wp_ld (i := (.aload_n 0)) (4, (p0 : Int)) rfl rfl (fun _ => rfl) rfl rfl (?_ : wpv K_X7_both d P 16 [some (4, (p0 : Int)), some (0, x1), some (0, x2), some (0, x3), some (0, x4)] [(4, (p0 : Int))] G R V1)
    refine wp_p (i := (.iconst (-1))) rfl rfl (fun _ _ _ => rfl) (?_ : wpv K_X7_both d P 17 [some (4, (p0 : Int)), some (0, x1), some (0, x2), some (0, x3), some (0, x4)] [(0, (-1)), (4, (p0 : Int))] G R V1)
    refine wp_virt (as := [(0, (-1))]) (a := p0) (st := []) _ rfl rfl rfl rfl rfl rfl (ly7_o l0) (Nat.le_of_ble_eq_true rfl) (cwv_kI w (fun v5 V4 w => ?_))
    show wpv K_X7_both d P 20 [some (4, (p0 : Int)), some (0, x1), some (0, x2), some (0, x3), some (0, x4)] [(0, v5)] G R V4
    obtain ⟨s6, w⟩ := w
    refine wp_i2l rfl rfl s6 (?_ : wpv K_X7_both d P 21 [some (4, (p0 : Int)), some (0, x1), some (0, x2), some (0, x3), some (0, x4)] [(2, v5)] G R V4)
    exact wp_rJ rfl rfl rfl w
  · have q : ¬ v2 = 0 := q
    replace w := w.2 q
    show wpv K_X7_both d P 7 [some (4, (p0 : Int)), some (0, x1), some (0, x2), some (0, x3), some (0, x4)] [] G R V1
    refine wp_ld (i := (.iload 4)) (0, x4) rfl rfl (fun _ => rfl) rfl rfl (?_ : wpv K_X7_both d P 9 [some (4, (p0 : Int)), some (0, x1), some (0, x2), some (0, x3), some (0, x4)] [(0, x4)] G R V1)
    refine wp_stat (as := [(0, x4)]) (st := []) _ rfl rfl rfl (by omega) rfl rfl (Nat.le_of_ble_eq_true rfl) (cwv_kI w (fun v8 V7 w => ?_))
    show wpv K_X7_both d P 12 [some (4, (p0 : Int)), some (0, x1), some (0, x2), some (0, x3), some (0, x4)] [(0, v8)] G R V7
    obtain ⟨s9, w⟩ := w
    refine wp_if (c := .ne) 22 rfl rfl rfl s9 (fun q => ?_) (fun q => ?_)
    · have q : ¬ v8 = 0 := q
      replace w := w.1 q
      show wpv K_X7_both d P 22 [some (4, (p0 : Int)), some (0, x1), some (0, x2), some (0, x3), some (0, x4)] [] G R V7
      refine wp_ld (i := (.aload_n 0)) (4, (p0 : Int)) rfl rfl (fun _ => rfl) rfl rfl (?_ : wpv K_X7_both d P 23 [some (4, (p0 : Int)), some (0, x1), some (0, x2), some (0, x3), some (0, x4)] [(4, (p0 : Int))] G R V7)
      refine wp_ld (i := (.iload_n 2)) (0, x2) rfl rfl (fun _ => rfl) rfl rfl (?_ : wpv K_X7_both d P 24 [some (4, (p0 : Int)), some (0, x1), some (0, x2), some (0, x3), some (0, x4)] [(0, x2), (4, (p0 : Int))] G R V7)
      refine wp_virt (as := [(0, x2)]) (a := p0) (st := []) _ rfl rfl rfl rfl rfl rfl (ly7_o l0) (Nat.le_of_ble_eq_true rfl) (cwv_kI w (fun v11 V10 w => ?_))
      show wpv K_X7_both d P 27 [some (4, (p0 : Int)), some (0, x1), some (0, x2), some (0, x3), some (0, x4)] [(0, v11)] G R V10
      obtain ⟨s12, w⟩ := w
      refine wp_if (c := .eq) 38 rfl rfl rfl s12 (fun q => ?_) (fun q => ?_)
      · have q : v11 = 0 := q
        replace w := w.1 q
        show wpv K_X7_both d P 38 [some (4, (p0 : Int)), some (0, x1), some (0, x2), some (0, x3), some (0, x4)] [] G R V10
        refine wp_ld (i := (.aload_n 0)) (4, (p0 : Int)) rfl rfl (fun _ => rfl) rfl rfl (?_ : wpv K_X7_both d P 39 [some (4, (p0 : Int)), some (0, x1), some (0, x2), some (0, x3), some (0, x4)] [(4, (p0 : Int))] G R V10)
        refine wp_p (i := (.bipush (-2))) rfl rfl (fun _ _ _ => rfl) (?_ : wpv K_X7_both d P 41 [some (4, (p0 : Int)), some (0, x1), some (0, x2), some (0, x3), some (0, x4)] [(0, (-2)), (4, (p0 : Int))] G R V10)
        refine wp_virt (as := [(0, (-2))]) (a := p0) (st := []) _ rfl rfl rfl rfl rfl rfl (ly7_o l0) (Nat.le_of_ble_eq_true rfl) (cwv_kI w (fun v14 V13 w => ?_))
        show wpv K_X7_both d P 44 [some (4, (p0 : Int)), some (0, x1), some (0, x2), some (0, x3), some (0, x4)] [(0, v14)] G R V13
        obtain ⟨s15, w⟩ := w
        refine wp_i2l rfl rfl s15 (?_ : wpv K_X7_both d P 45 [some (4, (p0 : Int)), some (0, x1), some (0, x2), some (0, x3), some (0, x4)] [(2, v14)] G R V13)
        exact wp_rJ rfl rfl rfl w
      · have q : ¬ v11 = 0 := q
        replace w := w.2 q
        show wpv K_X7_both d P 30 [some (4, (p0 : Int)), some (0, x1), some (0, x2), some (0, x3), some (0, x4)] [] G R V10
        refine wp_ld (i := (.aload_n 0)) (4, (p0 : Int)) rfl rfl (fun _ => rfl) rfl rfl (?_ : wpv K_X7_both d P 31 [some (4, (p0 : Int)), some (0, x1), some (0, x2), some (0, x3), some (0, x4)] [(4, (p0 : Int))] G R V10)
        refine wp_ld (i := (.iload_n 3)) (0, x3) rfl rfl (fun _ => rfl) rfl rfl (?_ : wpv K_X7_both d P 32 [some (4, (p0 : Int)), some (0, x1), some (0, x2), some (0, x3), some (0, x4)] [(0, x3), (4, (p0 : Int))] G R V10)
        refine wp_virt (as := [(0, x3)]) (a := p0) (st := []) _ rfl rfl rfl rfl rfl rfl (ly7_o l0) (Nat.le_of_ble_eq_true rfl) (cwv_kI w (fun v17 V16 w => ?_))
        show wpv K_X7_both d P 35 [some (4, (p0 : Int)), some (0, x1), some (0, x2), some (0, x3), some (0, x4)] [(0, v17)] G R V16
        obtain ⟨s18, w⟩ := w
        refine wp_if (c := .ne) 46 rfl rfl rfl s18 (fun q => ?_) (fun q => ?_)
        · have q : ¬ v17 = 0 := q
          replace w := w.1 q
          show wpv K_X7_both d P 46 [some (4, (p0 : Int)), some (0, x1), some (0, x2), some (0, x3), some (0, x4)] [] G R V16
          refine wp_ld (i := (.iload 4)) (0, x4) rfl rfl (fun _ => rfl) rfl rfl (?_ : wpv K_X7_both d P 48 [some (4, (p0 : Int)), some (0, x1), some (0, x2), some (0, x3), some (0, x4)] [(0, x4)] G R V16)
          obtain ⟨s19, w⟩ := w
          refine wp_if (c := .ne) 102 rfl rfl rfl s19 (fun q => ?_) (fun q => ?_)
          · have q : ¬ x4 = 0 := q
            replace w := w.1 q
            show wpv K_X7_both d P 102 [some (4, (p0 : Int)), some (0, x1), some (0, x2), some (0, x3), some (0, x4)] [] G R V16
            refine wp_ld (i := (.aload_n 0)) (4, (p0 : Int)) rfl rfl (fun _ => rfl) rfl rfl (?_ : wpv K_X7_both d P 103 [some (4, (p0 : Int)), some (0, x1), some (0, x2), some (0, x3), some (0, x4)] [(4, (p0 : Int))] G R V16)
            obtain ⟨b20, ⟨r20, l20_⟩, w⟩ := w
            refine wp_getA (k := 6) rfl rfl rfl (ly7_o l0) rfl rfl r20 (?_ : wpv K_X7_both d P 106 [some (4, (p0 : Int)), some (0, x1), some (0, x2), some (0, x3), some (0, x4)] [(4, (b20 : Int))] G R V16)
            refine wp_ld (i := (.iload_n 2)) (0, x2) rfl rfl (fun _ => rfl) rfl rfl (?_ : wpv K_X7_both d P 107 [some (4, (p0 : Int)), some (0, x1), some (0, x2), some (0, x3), some (0, x4)] [(0, x2), (4, (b20 : Int))] G R V16)
            refine wp_virt (as := [(0, x2)]) (a := b20) (st := []) _ rfl rfl rfl rfl rfl rfl (ly1_o l20_) (Nat.le_of_ble_eq_true rfl) (cwv_kJ w (fun v22 V21 w => ?_))
            show wpv K_X7_both d P 110 [some (4, (p0 : Int)), some (0, x1), some (0, x2), some (0, x3), some (0, x4)] [(2, v22)] G R V21
            refine wp_ld (i := (.aload_n 0)) (4, (p0 : Int)) rfl rfl (fun _ => rfl) rfl rfl (?_ : wpv K_X7_both d P 111 [some (4, (p0 : Int)), some (0, x1), some (0, x2), some (0, x3), some (0, x4)] [(4, (p0 : Int)), (2, v22)] G R V21)
            refine wp_getA (k := 6) rfl rfl rfl (ly7_o l0) rfl rfl r20 (?_ : wpv K_X7_both d P 114 [some (4, (p0 : Int)), some (0, x1), some (0, x2), some (0, x3), some (0, x4)] [(4, (b20 : Int)), (2, v22)] G R V21)
            refine wp_ld (i := (.iload_n 3)) (0, x3) rfl rfl (fun _ => rfl) rfl rfl (?_ : wpv K_X7_both d P 115 [some (4, (p0 : Int)), some (0, x1), some (0, x2), some (0, x3), some (0, x4)] [(0, x3), (4, (b20 : Int)), (2, v22)] G R V21)
            refine wp_virt (as := [(0, x3)]) (a := b20) (st := [(2, v22)]) _ rfl rfl rfl rfl rfl rfl (ly1_o l20_) (Nat.le_of_ble_eq_true rfl) (cwv_kJ w (fun v24 V23 w => ?_))
            show wpv K_X7_both d P 118 [some (4, (p0 : Int)), some (0, x1), some (0, x2), some (0, x3), some (0, x4)] [(2, v24), (2, v22)] G R V23
            refine wp_stat (as := [(2, v22), (2, v24)]) (st := []) _ rfl rfl rfl (by omega) rfl rfl (Nat.le_of_ble_eq_true rfl) (cwv_kJ w (fun v26 V25 w => ?_))
            show wpv K_X7_both d P 121 [some (4, (p0 : Int)), some (0, x1), some (0, x2), some (0, x3), some (0, x4)] [(2, v26)] G R V25
            refine wp_p (i := (.ldc2_w 258)) rfl rfl (fun _ _ _ => rfl) (?_ : wpv K_X7_both d P 124 [some (4, (p0 : Int)), some (0, x1), some (0, x2), some (0, x3), some (0, x4)] [(2, 1000000000000000), (2, v26)] G R V25)
            obtain ⟨s27, w⟩ := w
            refine wp_lcmp rfl rfl s27 ⟨by omega, by omega⟩ (?_ : wpv K_X7_both d P 125 [some (4, (p0 : Int)), some (0, x1), some (0, x2), some (0, x3), some (0, x4)] [(0, sg v26 1000000000000000)] G R V25)
            refine wp_if (c := .le) 136 rfl rfl rfl (sg32 _ _) (fun q => ?_) (fun q => ?_)
            · have q : ¬ 1000000000000000 < v26 := fun z => q (sg_gt.mpr z)
              replace w := w.1 q
              show wpv K_X7_both d P 136 [some (4, (p0 : Int)), some (0, x1), some (0, x2), some (0, x3), some (0, x4)] [] G R V25
              refine wp_ld (i := (.aload_n 0)) (4, (p0 : Int)) rfl rfl (fun _ => rfl) rfl rfl (?_ : wpv K_X7_both d P 137 [some (4, (p0 : Int)), some (0, x1), some (0, x2), some (0, x3), some (0, x4)] [(4, (p0 : Int))] G R V25)
              refine wp_getA (k := 3) rfl rfl rfl (ly7_o l0) rfl rfl (ly7_3 l0).1 (?_ : wpv K_X7_both d P 140 [some (4, (p0 : Int)), some (0, x1), some (0, x2), some (0, x3), some (0, x4)] [(4, ((p0 + 15 : Nat) : Int))] G R V25)
              refine wp_ld (i := (.aload_n 0)) (4, (p0 : Int)) rfl rfl (fun _ => rfl) rfl rfl (?_ : wpv K_X7_both d P 141 [some (4, (p0 : Int)), some (0, x1), some (0, x2), some (0, x3), some (0, x4)] [(4, (p0 : Int)), (4, ((p0 + 15 : Nat) : Int))] G R V25)
              refine wp_getA (k := 6) rfl rfl rfl (ly7_o l0) rfl rfl r20 (?_ : wpv K_X7_both d P 144 [some (4, (p0 : Int)), some (0, x1), some (0, x2), some (0, x3), some (0, x4)] [(4, (b20 : Int)), (4, ((p0 + 15 : Nat) : Int))] G R V25)
              refine wp_ld (i := (.iload_n 2)) (0, x2) rfl rfl (fun _ => rfl) rfl rfl (?_ : wpv K_X7_both d P 145 [some (4, (p0 : Int)), some (0, x1), some (0, x2), some (0, x3), some (0, x4)] [(0, x2), (4, (b20 : Int)), (4, ((p0 + 15 : Nat) : Int))] G R V25)
              refine wp_ld (i := (.iload_n 3)) (0, x3) rfl rfl (fun _ => rfl) rfl rfl (?_ : wpv K_X7_both d P 146 [some (4, (p0 : Int)), some (0, x1), some (0, x2), some (0, x3), some (0, x4)] [(0, x3), (0, x2), (4, (b20 : Int)), (4, ((p0 + 15 : Nat) : Int))] G R V25)
              refine wp_virt (as := [(4, (b20 : Int)), (0, x2), (0, x3)]) (a := p0 + 15) (st := []) _ rfl rfl rfl rfl rfl rfl (ly0_o (ly7_3 l0).2) (Nat.le_of_ble_eq_true rfl) (cwv_k0 w (fun V28 w => ?_))
              show wpv K_X7_both d P 149 [some (4, (p0 : Int)), some (0, x1), some (0, x2), some (0, x3), some (0, x4)] [] G R V28
              refine wp_ld (i := (.aload_n 0)) (4, (p0 : Int)) rfl rfl (fun _ => rfl) rfl rfl (?_ : wpv K_X7_both d P 150 [some (4, (p0 : Int)), some (0, x1), some (0, x2), some (0, x3), some (0, x4)] [(4, (p0 : Int))] G R V28)
              refine wp_ld (i := (.iload_n 1)) (0, x1) rfl rfl (fun _ => rfl) rfl rfl (?_ : wpv K_X7_both d P 151 [some (4, (p0 : Int)), some (0, x1), some (0, x2), some (0, x3), some (0, x4)] [(0, x1), (4, (p0 : Int))] G R V28)
              refine wp_virt (as := [(0, x1)]) (a := p0) (st := []) _ rfl rfl rfl rfl rfl rfl (ly7_o l0) (Nat.le_of_ble_eq_true rfl) (cwv_kJ w (fun v30 V29 w => ?_))
              show wpv K_X7_both d P 154 [some (4, (p0 : Int)), some (0, x1), some (0, x2), some (0, x3), some (0, x4)] [(2, v30)] G R V29
              exact wp_rJ rfl rfl rfl w
            · have q : 1000000000000000 < v26 := sg_gt.mp (Decidable.not_not.mp q)
              replace w := w.2 q
              show wpv K_X7_both d P 128 [some (4, (p0 : Int)), some (0, x1), some (0, x2), some (0, x3), some (0, x4)] [] G R V25
              refine wp_ld (i := (.aload_n 0)) (4, (p0 : Int)) rfl rfl (fun _ => rfl) rfl rfl (?_ : wpv K_X7_both d P 129 [some (4, (p0 : Int)), some (0, x1), some (0, x2), some (0, x3), some (0, x4)] [(4, (p0 : Int))] G R V25)
              refine wp_p (i := (.bipush (-5))) rfl rfl (fun _ _ _ => rfl) (?_ : wpv K_X7_both d P 131 [some (4, (p0 : Int)), some (0, x1), some (0, x2), some (0, x3), some (0, x4)] [(0, (-5)), (4, (p0 : Int))] G R V25)
              refine wp_virt (as := [(0, (-5))]) (a := p0) (st := []) _ rfl rfl rfl rfl rfl rfl (ly7_o l0) (Nat.le_of_ble_eq_true rfl) (cwv_kI w (fun v32 V31 w => ?_))
              show wpv K_X7_both d P 134 [some (4, (p0 : Int)), some (0, x1), some (0, x2), some (0, x3), some (0, x4)] [(0, v32)] G R V31
              obtain ⟨s33, w⟩ := w
              refine wp_i2l rfl rfl s33 (?_ : wpv K_X7_both d P 135 [some (4, (p0 : Int)), some (0, x1), some (0, x2), some (0, x3), some (0, x4)] [(2, v32)] G R V31)
              exact wp_rJ rfl rfl rfl w
          · have q : x4 = 0 := Decidable.not_not.mp q
            replace w := w.2 q
            show wpv K_X7_both d P 51 [some (4, (p0 : Int)), some (0, x1), some (0, x2), some (0, x3), some (0, x4)] [] G R V16
            refine wp_ld (i := (.aload_n 0)) (4, (p0 : Int)) rfl rfl (fun _ => rfl) rfl rfl (?_ : wpv K_X7_both d P 52 [some (4, (p0 : Int)), some (0, x1), some (0, x2), some (0, x3), some (0, x4)] [(4, (p0 : Int))] G R V16)
            obtain ⟨b34, ⟨r34, l34_⟩, w⟩ := w
            refine wp_getA (k := 6) rfl rfl rfl (ly7_o l0) rfl rfl r34 (?_ : wpv K_X7_both d P 55 [some (4, (p0 : Int)), some (0, x1), some (0, x2), some (0, x3), some (0, x4)] [(4, (b34 : Int))] G R V16)
            refine wp_ld (i := (.iload_n 2)) (0, x2) rfl rfl (fun _ => rfl) rfl rfl (?_ : wpv K_X7_both d P 56 [some (4, (p0 : Int)), some (0, x1), some (0, x2), some (0, x3), some (0, x4)] [(0, x2), (4, (b34 : Int))] G R V16)
            refine wp_virt (as := [(0, x2)]) (a := b34) (st := []) _ rfl rfl rfl rfl rfl rfl (ly1_o l34_) (Nat.le_of_ble_eq_true rfl) (cwv_kJ w (fun v36 V35 w => ?_))
            show wpv K_X7_both d P 59 [some (4, (p0 : Int)), some (0, x1), some (0, x2), some (0, x3), some (0, x4)] [(2, v36)] G R V35
            refine wp_ld (i := (.aload_n 0)) (4, (p0 : Int)) rfl rfl (fun _ => rfl) rfl rfl (?_ : wpv K_X7_both d P 60 [some (4, (p0 : Int)), some (0, x1), some (0, x2), some (0, x3), some (0, x4)] [(4, (p0 : Int)), (2, v36)] G R V35)
            refine wp_getA (k := 6) rfl rfl rfl (ly7_o l0) rfl rfl r34 (?_ : wpv K_X7_both d P 63 [some (4, (p0 : Int)), some (0, x1), some (0, x2), some (0, x3), some (0, x4)] [(4, (b34 : Int)), (2, v36)] G R V35)
            refine wp_ld (i := (.iload_n 3)) (0, x3) rfl rfl (fun _ => rfl) rfl rfl (?_ : wpv K_X7_both d P 64 [some (4, (p0 : Int)), some (0, x1), some (0, x2), some (0, x3), some (0, x4)] [(0, x3), (4, (b34 : Int)), (2, v36)] G R V35)
            refine wp_virt (as := [(0, x3)]) (a := b34) (st := [(2, v36)]) _ rfl rfl rfl rfl rfl rfl (ly1_o l34_) (Nat.le_of_ble_eq_true rfl) (cwv_kJ w (fun v38 V37 w => ?_))
            show wpv K_X7_both d P 67 [some (4, (p0 : Int)), some (0, x1), some (0, x2), some (0, x3), some (0, x4)] [(2, v38), (2, v36)] G R V37
            refine wp_jadd rfl rfl (?_ : wpv K_X7_both d P 68 [some (4, (p0 : Int)), some (0, x1), some (0, x2), some (0, x3), some (0, x4)] [(2, (jadd v36 v38))] G R V37)
            refine wp_p (i := (.ldc2_w 258)) rfl rfl (fun _ _ _ => rfl) (?_ : wpv K_X7_both d P 71 [some (4, (p0 : Int)), some (0, x1), some (0, x2), some (0, x3), some (0, x4)] [(2, 1000000000000000), (2, (jadd v36 v38))] G R V37)
            refine wp_lcmp rfl rfl (t64 _) ⟨by omega, by omega⟩ (?_ : wpv K_X7_both d P 72 [some (4, (p0 : Int)), some (0, x1), some (0, x2), some (0, x3), some (0, x4)] [(0, sg ((jadd v36 v38)) 1000000000000000)] G R V37)
            refine wp_if (c := .le) 83 rfl rfl rfl (sg32 _ _) (fun q => ?_) (fun q => ?_)
            · have q : ¬ 1000000000000000 < (jadd v36 v38) := fun z => q (sg_gt.mpr z)
              replace w := w.1 q
              show wpv K_X7_both d P 83 [some (4, (p0 : Int)), some (0, x1), some (0, x2), some (0, x3), some (0, x4)] [] G R V37
              refine wp_ld (i := (.aload_n 0)) (4, (p0 : Int)) rfl rfl (fun _ => rfl) rfl rfl (?_ : wpv K_X7_both d P 84 [some (4, (p0 : Int)), some (0, x1), some (0, x2), some (0, x3), some (0, x4)] [(4, (p0 : Int))] G R V37)
              refine wp_getA (k := 3) rfl rfl rfl (ly7_o l0) rfl rfl (ly7_3 l0).1 (?_ : wpv K_X7_both d P 87 [some (4, (p0 : Int)), some (0, x1), some (0, x2), some (0, x3), some (0, x4)] [(4, ((p0 + 15 : Nat) : Int))] G R V37)
              refine wp_ld (i := (.aload_n 0)) (4, (p0 : Int)) rfl rfl (fun _ => rfl) rfl rfl (?_ : wpv K_X7_both d P 88 [some (4, (p0 : Int)), some (0, x1), some (0, x2), some (0, x3), some (0, x4)] [(4, (p0 : Int)), (4, ((p0 + 15 : Nat) : Int))] G R V37)
              refine wp_getA (k := 6) rfl rfl rfl (ly7_o l0) rfl rfl r34 (?_ : wpv K_X7_both d P 91 [some (4, (p0 : Int)), some (0, x1), some (0, x2), some (0, x3), some (0, x4)] [(4, (b34 : Int)), (4, ((p0 + 15 : Nat) : Int))] G R V37)
              refine wp_ld (i := (.iload_n 2)) (0, x2) rfl rfl (fun _ => rfl) rfl rfl (?_ : wpv K_X7_both d P 92 [some (4, (p0 : Int)), some (0, x1), some (0, x2), some (0, x3), some (0, x4)] [(0, x2), (4, (b34 : Int)), (4, ((p0 + 15 : Nat) : Int))] G R V37)
              refine wp_ld (i := (.iload_n 3)) (0, x3) rfl rfl (fun _ => rfl) rfl rfl (?_ : wpv K_X7_both d P 93 [some (4, (p0 : Int)), some (0, x1), some (0, x2), some (0, x3), some (0, x4)] [(0, x3), (0, x2), (4, (b34 : Int)), (4, ((p0 + 15 : Nat) : Int))] G R V37)
              refine wp_virt (as := [(4, (b34 : Int)), (0, x2), (0, x3)]) (a := p0 + 15) (st := []) _ rfl rfl rfl rfl rfl rfl (ly0_o (ly7_3 l0).2) (Nat.le_of_ble_eq_true rfl) (cwv_k0 w (fun V39 w => ?_))
              show wpv K_X7_both d P 96 [some (4, (p0 : Int)), some (0, x1), some (0, x2), some (0, x3), some (0, x4)] [] G R V39
              refine wp_ld (i := (.aload_n 0)) (4, (p0 : Int)) rfl rfl (fun _ => rfl) rfl rfl (?_ : wpv K_X7_both d P 97 [some (4, (p0 : Int)), some (0, x1), some (0, x2), some (0, x3), some (0, x4)] [(4, (p0 : Int))] G R V39)
              refine wp_ld (i := (.iload_n 1)) (0, x1) rfl rfl (fun _ => rfl) rfl rfl (?_ : wpv K_X7_both d P 98 [some (4, (p0 : Int)), some (0, x1), some (0, x2), some (0, x3), some (0, x4)] [(0, x1), (4, (p0 : Int))] G R V39)
              refine wp_virt (as := [(0, x1)]) (a := p0) (st := []) _ rfl rfl rfl rfl rfl rfl (ly7_o l0) (Nat.le_of_ble_eq_true rfl) (cwv_kJ w (fun v41 V40 w => ?_))
              show wpv K_X7_both d P 101 [some (4, (p0 : Int)), some (0, x1), some (0, x2), some (0, x3), some (0, x4)] [(2, v41)] G R V40
              exact wp_rJ rfl rfl rfl w
            · have q : 1000000000000000 < (jadd v36 v38) := sg_gt.mp (Decidable.not_not.mp q)
              replace w := w.2 q
              show wpv K_X7_both d P 75 [some (4, (p0 : Int)), some (0, x1), some (0, x2), some (0, x3), some (0, x4)] [] G R V37
              refine wp_ld (i := (.aload_n 0)) (4, (p0 : Int)) rfl rfl (fun _ => rfl) rfl rfl (?_ : wpv K_X7_both d P 76 [some (4, (p0 : Int)), some (0, x1), some (0, x2), some (0, x3), some (0, x4)] [(4, (p0 : Int))] G R V37)
              refine wp_p (i := (.bipush (-5))) rfl rfl (fun _ _ _ => rfl) (?_ : wpv K_X7_both d P 78 [some (4, (p0 : Int)), some (0, x1), some (0, x2), some (0, x3), some (0, x4)] [(0, (-5)), (4, (p0 : Int))] G R V37)
              refine wp_virt (as := [(0, (-5))]) (a := p0) (st := []) _ rfl rfl rfl rfl rfl rfl (ly7_o l0) (Nat.le_of_ble_eq_true rfl) (cwv_kI w (fun v43 V42 w => ?_))
              show wpv K_X7_both d P 81 [some (4, (p0 : Int)), some (0, x1), some (0, x2), some (0, x3), some (0, x4)] [(0, v43)] G R V42
              obtain ⟨s44, w⟩ := w
              refine wp_i2l rfl rfl s44 (?_ : wpv K_X7_both d P 82 [some (4, (p0 : Int)), some (0, x1), some (0, x2), some (0, x3), some (0, x4)] [(2, v43)] G R V42)
              exact wp_rJ rfl rfl rfl w
        · have q : v17 = 0 := Decidable.not_not.mp q
          replace w := w.2 q
          show wpv K_X7_both d P 38 [some (4, (p0 : Int)), some (0, x1), some (0, x2), some (0, x3), some (0, x4)] [] G R V16
          refine wp_ld (i := (.aload_n 0)) (4, (p0 : Int)) rfl rfl (fun _ => rfl) rfl rfl (?_ : wpv K_X7_both d P 39 [some (4, (p0 : Int)), some (0, x1), some (0, x2), some (0, x3), some (0, x4)] [(4, (p0 : Int))] G R V16)
          refine wp_p (i := (.bipush (-2))) rfl rfl (fun _ _ _ => rfl) (?_ : wpv K_X7_both d P 41 [some (4, (p0 : Int)), some (0, x1), some (0, x2), some (0, x3), some (0, x4)] [(0, (-2)), (4, (p0 : Int))] G R V16)
          refine wp_virt (as := [(0, (-2))]) (a := p0) (st := []) _ rfl rfl rfl rfl rfl rfl (ly7_o l0) (Nat.le_of_ble_eq_true rfl) (cwv_kI w (fun v46 V45 w => ?_))
          show wpv K_X7_both d P 44 [some (4, (p0 : Int)), some (0, x1), some (0, x2), some (0, x3), some (0, x4)] [(0, v46)] G R V45
          obtain ⟨s47, w⟩ := w
          refine wp_i2l rfl rfl s47 (?_ : wpv K_X7_both d P 45 [some (4, (p0 : Int)), some (0, x1), some (0, x2), some (0, x3), some (0, x4)] [(2, v46)] G R V45)
          exact wp_rJ rfl rfl rfl w
    · have q : v8 = 0 := Decidable.not_not.mp q
      replace w := w.2 q
      show wpv K_X7_both d P 15 [some (4, (p0 : Int)), some (0, x1), some (0, x2), some (0, x3), some (0, x4)] [] G R V7
      refine wp_ld (i := (.aload_n 0)) (4, (p0 : Int)) rfl rfl (fun _ => rfl) rfl rfl (?_ : wpv K_X7_both d P 16 [some (4, (p0 : Int)), some (0, x1), some (0, x2), some (0, x3), some (0, x4)] [(4, (p0 : Int))] G R V7)
      refine wp_p (i := (.iconst (-1))) rfl rfl (fun _ _ _ => rfl) (?_ : wpv K_X7_both d P 17 [some (4, (p0 : Int)), some (0, x1), some (0, x2), some (0, x3), some (0, x4)] [(0, (-1)), (4, (p0 : Int))] G R V7)
      refine wp_virt (as := [(0, (-1))]) (a := p0) (st := []) _ rfl rfl rfl rfl rfl rfl (ly7_o l0) (Nat.le_of_ble_eq_true rfl) (cwv_kI w (fun v49 V48 w => ?_))
      show wpv K_X7_both d P 20 [some (4, (p0 : Int)), some (0, x1), some (0, x2), some (0, x3), some (0, x4)] [(0, v49)] G R V48
      obtain ⟨s50, w⟩ := w
      refine wp_i2l rfl rfl s50 (?_ : wpv K_X7_both d P 21 [some (4, (p0 : Int)), some (0, x1), some (0, x2), some (0, x3), some (0, x4)] [(2, v49)] G R V48)
      exact wp_rJ rfl rfl rfl w
theorem t_X7_colour_0 {d : Nat} {P : gP} {p0 : Nat} {x1 : Int} {x2 : Int} {x3 : Int} {G : List gS} {R V : gV} (l0 : lay7 G R p0) (w : cwv d (fun r V1 => ∃ v2 : Int, r = some (0, v2) ∧ ((i32 v2) ∧ (((v2 = 0) → cwv d (fun r V4 => ∃ v5 : Int, r = some (0, v5) ∧ ((i32 v5) ∧ P (some (2, v5)) V4)) 138 [(4, (p0 : Int)), (0, (-1))] G R V1) ∧ ((¬ v2 = 0) → ((i32 x3) ∧ (((x3 < 0) → cwv d (fun r V8 => ∃ v9 : Int, r = some (0, v9) ∧ ((i32 v9) ∧ P (some (2, v9)) V8)) 138 [(4, (p0 : Int)), (0, (-1))] G R V1) ∧ ((¬ x3 < 0) → (((¬ 100 < x3) → cwv d (fun r V11 => ∃ v12 : Int, r = some (0, v12) ∧ ((i32 v12) ∧ (((¬ v12 = 0) → (∃ b14 : Nat, (R p0 6 = (b14 : Int) ∧ lay1 G R b14) ∧ cwv d (fun r V15 => ∃ v16 : Int, r = some (2, v16) ∧ cwv d (fun r V17 => ∃ v18 : Int, r = some (2, v18) ∧ ((i64 v18) ∧ (((¬ 1000000000000000 < v18) → cwv d (fun r V20 => r = none ∧ cwv d (fun r V21 => ∃ v22 : Int, r = some (2, v22) ∧ P (some (2, v22)) V21) 143 [(4, (p0 : Int)), (0, x1)] G R V20) 10 [(4, ((p0 + 15 : Nat) : Int)), (4, (b14 : Int)), (0, x2), (0, x3)] G R V17) ∧ ((1000000000000000 < v18) → cwv d (fun r V23 => ∃ v24 : Int, r = some (0, v24) ∧ ((i32 v24) ∧ P (some (2, v24)) V23)) 138 [(4, (p0 : Int)), (0, (-5))] G R V17)))) 153 [(2, x3), (2, v16)] G R V15) 23 [(4, (b14 : Int)), (0, x2)] G R V11)) ∧ ((v12 = 0) → cwv d (fun r V26 => ∃ v27 : Int, r = some (0, v27) ∧ ((i32 v27) ∧ P (some (2, v27)) V26)) 138 [(4, (p0 : Int)), (0, (-2))] G R V11)))) 142 [(4, (p0 : Int)), (0, x2)] G R V1) ∧ ((100 < x3) → cwv d (fun r V29 => ∃ v30 : Int, r = some (0, v30) ∧ ((i32 v30) ∧ P (some (2, v30)) V29)) 138 [(4, (p0 : Int)), (0, (-1))] G R V1))))))))) 141 [(0, x1)] G R V) : wpv K_X7_colour d P 0 [some (4, (p0 : Int)), some (0, x1), some (0, x2), some (0, x3)] [] G R V := by
  refine wp_ld (i := (.iload_n 1)) (0, x1) rfl rfl (fun _ => rfl) rfl rfl (?_ : wpv K_X7_colour d P 1 [some (4, (p0 : Int)), some (0, x1), some (0, x2), some (0, x3)] [(0, x1)] G R V)
  refine wp_stat (as := [(0, x1)]) (st := []) _ rfl rfl rfl (by omega) rfl rfl (Nat.le_of_ble_eq_true rfl) (cwv_kI w (fun v2 V1 w => ?_))
  show wpv K_X7_colour d P 4 [some (4, (p0 : Int)), some (0, x1), some (0, x2), some (0, x3)] [(0, v2)] G R V1
  obtain ⟨s3, w⟩ := w
  refine wp_if (c := .eq) 17 rfl rfl rfl s3 (fun q => ?_) (fun q => ?_)
  · have q : v2 = 0 := q
    replace w := w.1 q
    show wpv K_X7_colour d P 17 [some (4, (p0 : Int)), some (0, x1), some (0, x2), some (0, x3)] [] G R V1
    refine wp_ld (i := (.aload_n 0)) (4, (p0 : Int)) rfl rfl (fun _ => rfl) rfl rfl (?_ : wpv K_X7_colour d P 18 [some (4, (p0 : Int)), some (0, x1), some (0, x2), some (0, x3)] [(4, (p0 : Int))] G R V1)
    refine wp_p (i := (.iconst (-1))) rfl rfl (fun _ _ _ => rfl) (?_ : wpv K_X7_colour d P 19 [some (4, (p0 : Int)), some (0, x1), some (0, x2), some (0, x3)] [(0, (-1)), (4, (p0 : Int))] G R V1)
    refine wp_virt (as := [(0, (-1))]) (a := p0) (st := []) _ rfl rfl rfl rfl rfl rfl (ly7_o l0) (Nat.le_of_ble_eq_true rfl) (cwv_kI w (fun v5 V4 w => ?_))
    show wpv K_X7_colour d P 22 [some (4, (p0 : Int)), some (0, x1), some (0, x2), some (0, x3)] [(0, v5)] G R V4
    obtain ⟨s6, w⟩ := w
    refine wp_i2l rfl rfl s6 (?_ : wpv K_X7_colour d P 23 [some (4, (p0 : Int)), some (0, x1), some (0, x2), some (0, x3)] [(2, v5)] G R V4)
    exact wp_rJ rfl rfl rfl w
  · have q : ¬ v2 = 0 := q
    replace w := w.2 q
    show wpv K_X7_colour d P 7 [some (4, (p0 : Int)), some (0, x1), some (0, x2), some (0, x3)] [] G R V1
    refine wp_ld (i := (.iload_n 3)) (0, x3) rfl rfl (fun _ => rfl) rfl rfl (?_ : wpv K_X7_colour d P 8 [some (4, (p0 : Int)), some (0, x1), some (0, x2), some (0, x3)] [(0, x3)] G R V1)
    obtain ⟨s7, w⟩ := w
    refine wp_if (c := .lt) 17 rfl rfl rfl s7 (fun q => ?_) (fun q => ?_)
    · have q : x3 < 0 := q
      replace w := w.1 q
      show wpv K_X7_colour d P 17 [some (4, (p0 : Int)), some (0, x1), some (0, x2), some (0, x3)] [] G R V1
      refine wp_ld (i := (.aload_n 0)) (4, (p0 : Int)) rfl rfl (fun _ => rfl) rfl rfl (?_ : wpv K_X7_colour d P 18 [some (4, (p0 : Int)), some (0, x1), some (0, x2), some (0, x3)] [(4, (p0 : Int))] G R V1)
      refine wp_p (i := (.iconst (-1))) rfl rfl (fun _ _ _ => rfl) (?_ : wpv K_X7_colour d P 19 [some (4, (p0 : Int)), some (0, x1), some (0, x2), some (0, x3)] [(0, (-1)), (4, (p0 : Int))] G R V1)
      refine wp_virt (as := [(0, (-1))]) (a := p0) (st := []) _ rfl rfl rfl rfl rfl rfl (ly7_o l0) (Nat.le_of_ble_eq_true rfl) (cwv_kI w (fun v9 V8 w => ?_))
      show wpv K_X7_colour d P 22 [some (4, (p0 : Int)), some (0, x1), some (0, x2), some (0, x3)] [(0, v9)] G R V8
      obtain ⟨s10, w⟩ := w
      refine wp_i2l rfl rfl s10 (?_ : wpv K_X7_colour d P 23 [some (4, (p0 : Int)), some (0, x1), some (0, x2), some (0, x3)] [(2, v9)] G R V8)
      exact wp_rJ rfl rfl rfl w
    · have q : ¬ x3 < 0 := q
      replace w := w.2 q
      show wpv K_X7_colour d P 11 [some (4, (p0 : Int)), some (0, x1), some (0, x2), some (0, x3)] [] G R V1
      refine wp_ld (i := (.iload_n 3)) (0, x3) rfl rfl (fun _ => rfl) rfl rfl (?_ : wpv K_X7_colour d P 12 [some (4, (p0 : Int)), some (0, x1), some (0, x2), some (0, x3)] [(0, x3)] G R V1)
      refine wp_p (i := (.bipush 100)) rfl rfl (fun _ _ _ => rfl) (?_ : wpv K_X7_colour d P 14 [some (4, (p0 : Int)), some (0, x1), some (0, x2), some (0, x3)] [(0, 100), (0, x3)] G R V1)
      refine wp_icmp (c := .le) 24 rfl rfl rfl s7 ⟨by omega, by omega⟩ (fun q => ?_) (fun q => ?_)
      · have q : ¬ 100 < x3 := q
        replace w := w.1 q
        show wpv K_X7_colour d P 24 [some (4, (p0 : Int)), some (0, x1), some (0, x2), some (0, x3)] [] G R V1
        refine wp_ld (i := (.aload_n 0)) (4, (p0 : Int)) rfl rfl (fun _ => rfl) rfl rfl (?_ : wpv K_X7_colour d P 25 [some (4, (p0 : Int)), some (0, x1), some (0, x2), some (0, x3)] [(4, (p0 : Int))] G R V1)
        refine wp_ld (i := (.iload_n 2)) (0, x2) rfl rfl (fun _ => rfl) rfl rfl (?_ : wpv K_X7_colour d P 26 [some (4, (p0 : Int)), some (0, x1), some (0, x2), some (0, x3)] [(0, x2), (4, (p0 : Int))] G R V1)
        refine wp_virt (as := [(0, x2)]) (a := p0) (st := []) _ rfl rfl rfl rfl rfl rfl (ly7_o l0) (Nat.le_of_ble_eq_true rfl) (cwv_kI w (fun v12 V11 w => ?_))
        show wpv K_X7_colour d P 29 [some (4, (p0 : Int)), some (0, x1), some (0, x2), some (0, x3)] [(0, v12)] G R V11
        obtain ⟨s13, w⟩ := w
        refine wp_if (c := .ne) 40 rfl rfl rfl s13 (fun q => ?_) (fun q => ?_)
        · have q : ¬ v12 = 0 := q
          replace w := w.1 q
          show wpv K_X7_colour d P 40 [some (4, (p0 : Int)), some (0, x1), some (0, x2), some (0, x3)] [] G R V11
          refine wp_ld (i := (.iload_n 3)) (0, x3) rfl rfl (fun _ => rfl) rfl rfl (?_ : wpv K_X7_colour d P 41 [some (4, (p0 : Int)), some (0, x1), some (0, x2), some (0, x3)] [(0, x3)] G R V11)
          refine wp_i2l rfl rfl s7 (?_ : wpv K_X7_colour d P 42 [some (4, (p0 : Int)), some (0, x1), some (0, x2), some (0, x3)] [(2, x3)] G R V11)
          refine wp_ld (i := (.aload_n 0)) (4, (p0 : Int)) rfl rfl (fun _ => rfl) rfl rfl (?_ : wpv K_X7_colour d P 43 [some (4, (p0 : Int)), some (0, x1), some (0, x2), some (0, x3)] [(4, (p0 : Int)), (2, x3)] G R V11)
          obtain ⟨b14, ⟨r14, l14_⟩, w⟩ := w
          refine wp_getA (k := 6) rfl rfl rfl (ly7_o l0) rfl rfl r14 (?_ : wpv K_X7_colour d P 46 [some (4, (p0 : Int)), some (0, x1), some (0, x2), some (0, x3)] [(4, (b14 : Int)), (2, x3)] G R V11)
          refine wp_ld (i := (.iload_n 2)) (0, x2) rfl rfl (fun _ => rfl) rfl rfl (?_ : wpv K_X7_colour d P 47 [some (4, (p0 : Int)), some (0, x1), some (0, x2), some (0, x3)] [(0, x2), (4, (b14 : Int)), (2, x3)] G R V11)
          refine wp_virt (as := [(0, x2)]) (a := b14) (st := [(2, x3)]) _ rfl rfl rfl rfl rfl rfl (ly1_o l14_) (Nat.le_of_ble_eq_true rfl) (cwv_kJ w (fun v16 V15 w => ?_))
          show wpv K_X7_colour d P 50 [some (4, (p0 : Int)), some (0, x1), some (0, x2), some (0, x3)] [(2, v16), (2, x3)] G R V15
          refine wp_stat (as := [(2, x3), (2, v16)]) (st := []) _ rfl rfl rfl (by omega) rfl rfl (Nat.le_of_ble_eq_true rfl) (cwv_kJ w (fun v18 V17 w => ?_))
          show wpv K_X7_colour d P 53 [some (4, (p0 : Int)), some (0, x1), some (0, x2), some (0, x3)] [(2, v18)] G R V17
          refine wp_p (i := (.ldc2_w 258)) rfl rfl (fun _ _ _ => rfl) (?_ : wpv K_X7_colour d P 56 [some (4, (p0 : Int)), some (0, x1), some (0, x2), some (0, x3)] [(2, 1000000000000000), (2, v18)] G R V17)
          obtain ⟨s19, w⟩ := w
          refine wp_lcmp rfl rfl s19 ⟨by omega, by omega⟩ (?_ : wpv K_X7_colour d P 57 [some (4, (p0 : Int)), some (0, x1), some (0, x2), some (0, x3)] [(0, sg v18 1000000000000000)] G R V17)
          refine wp_if (c := .le) 68 rfl rfl rfl (sg32 _ _) (fun q => ?_) (fun q => ?_)
          · have q : ¬ 1000000000000000 < v18 := fun z => q (sg_gt.mpr z)
            replace w := w.1 q
            show wpv K_X7_colour d P 68 [some (4, (p0 : Int)), some (0, x1), some (0, x2), some (0, x3)] [] G R V17
            refine wp_ld (i := (.aload_n 0)) (4, (p0 : Int)) rfl rfl (fun _ => rfl) rfl rfl (?_ : wpv K_X7_colour d P 69 [some (4, (p0 : Int)), some (0, x1), some (0, x2), some (0, x3)] [(4, (p0 : Int))] G R V17)
            refine wp_getA (k := 3) rfl rfl rfl (ly7_o l0) rfl rfl (ly7_3 l0).1 (?_ : wpv K_X7_colour d P 72 [some (4, (p0 : Int)), some (0, x1), some (0, x2), some (0, x3)] [(4, ((p0 + 15 : Nat) : Int))] G R V17)
            refine wp_ld (i := (.aload_n 0)) (4, (p0 : Int)) rfl rfl (fun _ => rfl) rfl rfl (?_ : wpv K_X7_colour d P 73 [some (4, (p0 : Int)), some (0, x1), some (0, x2), some (0, x3)] [(4, (p0 : Int)), (4, ((p0 + 15 : Nat) : Int))] G R V17)
            refine wp_getA (k := 6) rfl rfl rfl (ly7_o l0) rfl rfl r14 (?_ : wpv K_X7_colour d P 76 [some (4, (p0 : Int)), some (0, x1), some (0, x2), some (0, x3)] [(4, (b14 : Int)), (4, ((p0 + 15 : Nat) : Int))] G R V17)
            refine wp_ld (i := (.iload_n 2)) (0, x2) rfl rfl (fun _ => rfl) rfl rfl (?_ : wpv K_X7_colour d P 77 [some (4, (p0 : Int)), some (0, x1), some (0, x2), some (0, x3)] [(0, x2), (4, (b14 : Int)), (4, ((p0 + 15 : Nat) : Int))] G R V17)
            refine wp_ld (i := (.iload_n 3)) (0, x3) rfl rfl (fun _ => rfl) rfl rfl (?_ : wpv K_X7_colour d P 78 [some (4, (p0 : Int)), some (0, x1), some (0, x2), some (0, x3)] [(0, x3), (0, x2), (4, (b14 : Int)), (4, ((p0 + 15 : Nat) : Int))] G R V17)
            refine wp_virt (as := [(4, (b14 : Int)), (0, x2), (0, x3)]) (a := p0 + 15) (st := []) _ rfl rfl rfl rfl rfl rfl (ly0_o (ly7_3 l0).2) (Nat.le_of_ble_eq_true rfl) (cwv_k0 w (fun V20 w => ?_))
            show wpv K_X7_colour d P 81 [some (4, (p0 : Int)), some (0, x1), some (0, x2), some (0, x3)] [] G R V20
            refine wp_ld (i := (.aload_n 0)) (4, (p0 : Int)) rfl rfl (fun _ => rfl) rfl rfl (?_ : wpv K_X7_colour d P 82 [some (4, (p0 : Int)), some (0, x1), some (0, x2), some (0, x3)] [(4, (p0 : Int))] G R V20)
            refine wp_ld (i := (.iload_n 1)) (0, x1) rfl rfl (fun _ => rfl) rfl rfl (?_ : wpv K_X7_colour d P 83 [some (4, (p0 : Int)), some (0, x1), some (0, x2), some (0, x3)] [(0, x1), (4, (p0 : Int))] G R V20)
            refine wp_virt (as := [(0, x1)]) (a := p0) (st := []) _ rfl rfl rfl rfl rfl rfl (ly7_o l0) (Nat.le_of_ble_eq_true rfl) (cwv_kJ w (fun v22 V21 w => ?_))
            show wpv K_X7_colour d P 86 [some (4, (p0 : Int)), some (0, x1), some (0, x2), some (0, x3)] [(2, v22)] G R V21
            exact wp_rJ rfl rfl rfl w
          · have q : 1000000000000000 < v18 := sg_gt.mp (Decidable.not_not.mp q)
            replace w := w.2 q
            show wpv K_X7_colour d P 60 [some (4, (p0 : Int)), some (0, x1), some (0, x2), some (0, x3)] [] G R V17
            refine wp_ld (i := (.aload_n 0)) (4, (p0 : Int)) rfl rfl (fun _ => rfl) rfl rfl (?_ : wpv K_X7_colour d P 61 [some (4, (p0 : Int)), some (0, x1), some (0, x2), some (0, x3)] [(4, (p0 : Int))] G R V17)
            refine wp_p (i := (.bipush (-5))) rfl rfl (fun _ _ _ => rfl) (?_ : wpv K_X7_colour d P 63 [some (4, (p0 : Int)), some (0, x1), some (0, x2), some (0, x3)] [(0, (-5)), (4, (p0 : Int))] G R V17)
            refine wp_virt (as := [(0, (-5))]) (a := p0) (st := []) _ rfl rfl rfl rfl rfl rfl (ly7_o l0) (Nat.le_of_ble_eq_true rfl) (cwv_kI w (fun v24 V23 w => ?_))
            show wpv K_X7_colour d P 66 [some (4, (p0 : Int)), some (0, x1), some (0, x2), some (0, x3)] [(0, v24)] G R V23
            obtain ⟨s25, w⟩ := w
            refine wp_i2l rfl rfl s25 (?_ : wpv K_X7_colour d P 67 [some (4, (p0 : Int)), some (0, x1), some (0, x2), some (0, x3)] [(2, v24)] G R V23)
            exact wp_rJ rfl rfl rfl w
        · have q : v12 = 0 := Decidable.not_not.mp q
          replace w := w.2 q
          show wpv K_X7_colour d P 32 [some (4, (p0 : Int)), some (0, x1), some (0, x2), some (0, x3)] [] G R V11
          refine wp_ld (i := (.aload_n 0)) (4, (p0 : Int)) rfl rfl (fun _ => rfl) rfl rfl (?_ : wpv K_X7_colour d P 33 [some (4, (p0 : Int)), some (0, x1), some (0, x2), some (0, x3)] [(4, (p0 : Int))] G R V11)
          refine wp_p (i := (.bipush (-2))) rfl rfl (fun _ _ _ => rfl) (?_ : wpv K_X7_colour d P 35 [some (4, (p0 : Int)), some (0, x1), some (0, x2), some (0, x3)] [(0, (-2)), (4, (p0 : Int))] G R V11)
          refine wp_virt (as := [(0, (-2))]) (a := p0) (st := []) _ rfl rfl rfl rfl rfl rfl (ly7_o l0) (Nat.le_of_ble_eq_true rfl) (cwv_kI w (fun v27 V26 w => ?_))
          show wpv K_X7_colour d P 38 [some (4, (p0 : Int)), some (0, x1), some (0, x2), some (0, x3)] [(0, v27)] G R V26
          obtain ⟨s28, w⟩ := w
          refine wp_i2l rfl rfl s28 (?_ : wpv K_X7_colour d P 39 [some (4, (p0 : Int)), some (0, x1), some (0, x2), some (0, x3)] [(2, v27)] G R V26)
          exact wp_rJ rfl rfl rfl w
      · have q : 100 < x3 := Decidable.not_not.mp q
        replace w := w.2 q
        show wpv K_X7_colour d P 17 [some (4, (p0 : Int)), some (0, x1), some (0, x2), some (0, x3)] [] G R V1
        refine wp_ld (i := (.aload_n 0)) (4, (p0 : Int)) rfl rfl (fun _ => rfl) rfl rfl (?_ : wpv K_X7_colour d P 18 [some (4, (p0 : Int)), some (0, x1), some (0, x2), some (0, x3)] [(4, (p0 : Int))] G R V1)
        refine wp_p (i := (.iconst (-1))) rfl rfl (fun _ _ _ => rfl) (?_ : wpv K_X7_colour d P 19 [some (4, (p0 : Int)), some (0, x1), some (0, x2), some (0, x3)] [(0, (-1)), (4, (p0 : Int))] G R V1)
        refine wp_virt (as := [(0, (-1))]) (a := p0) (st := []) _ rfl rfl rfl rfl rfl rfl (ly7_o l0) (Nat.le_of_ble_eq_true rfl) (cwv_kI w (fun v30 V29 w => ?_))
        show wpv K_X7_colour d P 22 [some (4, (p0 : Int)), some (0, x1), some (0, x2), some (0, x3)] [(0, v30)] G R V29
        obtain ⟨s31, w⟩ := w
        refine wp_i2l rfl rfl s31 (?_ : wpv K_X7_colour d P 23 [some (4, (p0 : Int)), some (0, x1), some (0, x2), some (0, x3)] [(2, v30)] G R V29)
        exact wp_rJ rfl rfl rfl w
theorem t_X7_many_0 {d : Nat} {P : gP} {p0 : Nat} {x1 : Int} {x2 : Int} {x3 : Int} {G : List gS} {R V : gV} (l0 : lay7 G R p0) (w : cwv d (fun r V1 => ∃ v2 : Int, r = some (0, v2) ∧ ((i32 v2) ∧ (((v2 = 0) → cwv d (fun r V4 => ∃ v5 : Int, r = some (0, v5) ∧ ((i32 v5) ∧ P (some (2, v5)) V4)) 138 [(4, (p0 : Int)), (0, (-1))] G R V1) ∧ ((¬ v2 = 0) → ((i32 x3) ∧ (((x3 < 0) → cwv d (fun r V8 => ∃ v9 : Int, r = some (0, v9) ∧ ((i32 v9) ∧ P (some (2, v9)) V8)) 138 [(4, (p0 : Int)), (0, (-1))] G R V1) ∧ ((¬ x3 < 0) → (((¬ 1000000 < x3) → cwv d (fun r V11 => ∃ v12 : Int, r = some (0, v12) ∧ ((i32 v12) ∧ (((¬ v12 = 0) → (∃ b14 : Nat, (R p0 6 = (b14 : Int) ∧ lay1 G R b14) ∧ cwv d (fun r V15 => ∃ v16 : Int, r = some (2, v16) ∧ cwv d (fun r V17 => ∃ v18 : Int, r = some (2, v18) ∧ ((i64 v18) ∧ (((¬ 1000000000000000 < v18) → cwv d (fun r V20 => r = none ∧ cwv d (fun r V21 => ∃ v22 : Int, r = some (2, v22) ∧ P (some (2, v22)) V21) 143 [(4, (p0 : Int)), (0, x1)] G R V20) 11 [(4, ((p0 + 15 : Nat) : Int)), (4, (b14 : Int)), (0, x2), (0, x3)] G R V17) ∧ ((1000000000000000 < v18) → cwv d (fun r V23 => ∃ v24 : Int, r = some (0, v24) ∧ ((i32 v24) ∧ P (some (2, v24)) V23)) 138 [(4, (p0 : Int)), (0, (-5))] G R V17)))) 152 [(2, v16), (2, x3)] G R V15) 23 [(4, (b14 : Int)), (0, x2)] G R V11)) ∧ ((v12 = 0) → cwv d (fun r V26 => ∃ v27 : Int, r = some (0, v27) ∧ ((i32 v27) ∧ P (some (2, v27)) V26)) 138 [(4, (p0 : Int)), (0, (-2))] G R V11)))) 142 [(4, (p0 : Int)), (0, x2)] G R V1) ∧ ((1000000 < x3) → cwv d (fun r V29 => ∃ v30 : Int, r = some (0, v30) ∧ ((i32 v30) ∧ P (some (2, v30)) V29)) 138 [(4, (p0 : Int)), (0, (-1))] G R V1))))))))) 141 [(0, x1)] G R V) : wpv K_X7_many d P 0 [some (4, (p0 : Int)), some (0, x1), some (0, x2), some (0, x3)] [] G R V := by
  refine wp_ld (i := (.iload_n 1)) (0, x1) rfl rfl (fun _ => rfl) rfl rfl (?_ : wpv K_X7_many d P 1 [some (4, (p0 : Int)), some (0, x1), some (0, x2), some (0, x3)] [(0, x1)] G R V)
  refine wp_stat (as := [(0, x1)]) (st := []) _ rfl rfl rfl (by omega) rfl rfl (Nat.le_of_ble_eq_true rfl) (cwv_kI w (fun v2 V1 w => ?_))
  show wpv K_X7_many d P 4 [some (4, (p0 : Int)), some (0, x1), some (0, x2), some (0, x3)] [(0, v2)] G R V1
  obtain ⟨s3, w⟩ := w
  refine wp_if (c := .eq) 18 rfl rfl rfl s3 (fun q => ?_) (fun q => ?_)
  · have q : v2 = 0 := q
    replace w := w.1 q
    show wpv K_X7_many d P 18 [some (4, (p0 : Int)), some (0, x1), some (0, x2), some (0, x3)] [] G R V1
    refine wp_ld (i := (.aload_n 0)) (4, (p0 : Int)) rfl rfl (fun _ => rfl) rfl rfl (?_ : wpv K_X7_many d P 19 [some (4, (p0 : Int)), some (0, x1), some (0, x2), some (0, x3)] [(4, (p0 : Int))] G R V1)
    refine wp_p (i := (.iconst (-1))) rfl rfl (fun _ _ _ => rfl) (?_ : wpv K_X7_many d P 20 [some (4, (p0 : Int)), some (0, x1), some (0, x2), some (0, x3)] [(0, (-1)), (4, (p0 : Int))] G R V1)
    refine wp_virt (as := [(0, (-1))]) (a := p0) (st := []) _ rfl rfl rfl rfl rfl rfl (ly7_o l0) (Nat.le_of_ble_eq_true rfl) (cwv_kI w (fun v5 V4 w => ?_))
    show wpv K_X7_many d P 23 [some (4, (p0 : Int)), some (0, x1), some (0, x2), some (0, x3)] [(0, v5)] G R V4
    obtain ⟨s6, w⟩ := w
    refine wp_i2l rfl rfl s6 (?_ : wpv K_X7_many d P 24 [some (4, (p0 : Int)), some (0, x1), some (0, x2), some (0, x3)] [(2, v5)] G R V4)
    exact wp_rJ rfl rfl rfl w
  · have q : ¬ v2 = 0 := q
    replace w := w.2 q
    show wpv K_X7_many d P 7 [some (4, (p0 : Int)), some (0, x1), some (0, x2), some (0, x3)] [] G R V1
    refine wp_ld (i := (.iload_n 3)) (0, x3) rfl rfl (fun _ => rfl) rfl rfl (?_ : wpv K_X7_many d P 8 [some (4, (p0 : Int)), some (0, x1), some (0, x2), some (0, x3)] [(0, x3)] G R V1)
    obtain ⟨s7, w⟩ := w
    refine wp_if (c := .lt) 18 rfl rfl rfl s7 (fun q => ?_) (fun q => ?_)
    · have q : x3 < 0 := q
      replace w := w.1 q
      show wpv K_X7_many d P 18 [some (4, (p0 : Int)), some (0, x1), some (0, x2), some (0, x3)] [] G R V1
      refine wp_ld (i := (.aload_n 0)) (4, (p0 : Int)) rfl rfl (fun _ => rfl) rfl rfl (?_ : wpv K_X7_many d P 19 [some (4, (p0 : Int)), some (0, x1), some (0, x2), some (0, x3)] [(4, (p0 : Int))] G R V1)
      refine wp_p (i := (.iconst (-1))) rfl rfl (fun _ _ _ => rfl) (?_ : wpv K_X7_many d P 20 [some (4, (p0 : Int)), some (0, x1), some (0, x2), some (0, x3)] [(0, (-1)), (4, (p0 : Int))] G R V1)
      refine wp_virt (as := [(0, (-1))]) (a := p0) (st := []) _ rfl rfl rfl rfl rfl rfl (ly7_o l0) (Nat.le_of_ble_eq_true rfl) (cwv_kI w (fun v9 V8 w => ?_))
      show wpv K_X7_many d P 23 [some (4, (p0 : Int)), some (0, x1), some (0, x2), some (0, x3)] [(0, v9)] G R V8
      obtain ⟨s10, w⟩ := w
      refine wp_i2l rfl rfl s10 (?_ : wpv K_X7_many d P 24 [some (4, (p0 : Int)), some (0, x1), some (0, x2), some (0, x3)] [(2, v9)] G R V8)
      exact wp_rJ rfl rfl rfl w
    · have q : ¬ x3 < 0 := q
      replace w := w.2 q
      show wpv K_X7_many d P 11 [some (4, (p0 : Int)), some (0, x1), some (0, x2), some (0, x3)] [] G R V1
      refine wp_ld (i := (.iload_n 3)) (0, x3) rfl rfl (fun _ => rfl) rfl rfl (?_ : wpv K_X7_many d P 12 [some (4, (p0 : Int)), some (0, x1), some (0, x2), some (0, x3)] [(0, x3)] G R V1)
      refine wp_p (i := (.ldc_w 277)) rfl rfl (fun _ _ _ => rfl) (?_ : wpv K_X7_many d P 15 [some (4, (p0 : Int)), some (0, x1), some (0, x2), some (0, x3)] [(0, 1000000), (0, x3)] G R V1)
      refine wp_icmp (c := .le) 25 rfl rfl rfl s7 ⟨by omega, by omega⟩ (fun q => ?_) (fun q => ?_)
      · have q : ¬ 1000000 < x3 := q
        replace w := w.1 q
        show wpv K_X7_many d P 25 [some (4, (p0 : Int)), some (0, x1), some (0, x2), some (0, x3)] [] G R V1
        refine wp_ld (i := (.aload_n 0)) (4, (p0 : Int)) rfl rfl (fun _ => rfl) rfl rfl (?_ : wpv K_X7_many d P 26 [some (4, (p0 : Int)), some (0, x1), some (0, x2), some (0, x3)] [(4, (p0 : Int))] G R V1)
        refine wp_ld (i := (.iload_n 2)) (0, x2) rfl rfl (fun _ => rfl) rfl rfl (?_ : wpv K_X7_many d P 27 [some (4, (p0 : Int)), some (0, x1), some (0, x2), some (0, x3)] [(0, x2), (4, (p0 : Int))] G R V1)
        refine wp_virt (as := [(0, x2)]) (a := p0) (st := []) _ rfl rfl rfl rfl rfl rfl (ly7_o l0) (Nat.le_of_ble_eq_true rfl) (cwv_kI w (fun v12 V11 w => ?_))
        show wpv K_X7_many d P 30 [some (4, (p0 : Int)), some (0, x1), some (0, x2), some (0, x3)] [(0, v12)] G R V11
        obtain ⟨s13, w⟩ := w
        refine wp_if (c := .ne) 41 rfl rfl rfl s13 (fun q => ?_) (fun q => ?_)
        · have q : ¬ v12 = 0 := q
          replace w := w.1 q
          show wpv K_X7_many d P 41 [some (4, (p0 : Int)), some (0, x1), some (0, x2), some (0, x3)] [] G R V11
          refine wp_ld (i := (.aload_n 0)) (4, (p0 : Int)) rfl rfl (fun _ => rfl) rfl rfl (?_ : wpv K_X7_many d P 42 [some (4, (p0 : Int)), some (0, x1), some (0, x2), some (0, x3)] [(4, (p0 : Int))] G R V11)
          obtain ⟨b14, ⟨r14, l14_⟩, w⟩ := w
          refine wp_getA (k := 6) rfl rfl rfl (ly7_o l0) rfl rfl r14 (?_ : wpv K_X7_many d P 45 [some (4, (p0 : Int)), some (0, x1), some (0, x2), some (0, x3)] [(4, (b14 : Int))] G R V11)
          refine wp_ld (i := (.iload_n 2)) (0, x2) rfl rfl (fun _ => rfl) rfl rfl (?_ : wpv K_X7_many d P 46 [some (4, (p0 : Int)), some (0, x1), some (0, x2), some (0, x3)] [(0, x2), (4, (b14 : Int))] G R V11)
          refine wp_virt (as := [(0, x2)]) (a := b14) (st := []) _ rfl rfl rfl rfl rfl rfl (ly1_o l14_) (Nat.le_of_ble_eq_true rfl) (cwv_kJ w (fun v16 V15 w => ?_))
          show wpv K_X7_many d P 49 [some (4, (p0 : Int)), some (0, x1), some (0, x2), some (0, x3)] [(2, v16)] G R V15
          refine wp_ld (i := (.iload_n 3)) (0, x3) rfl rfl (fun _ => rfl) rfl rfl (?_ : wpv K_X7_many d P 50 [some (4, (p0 : Int)), some (0, x1), some (0, x2), some (0, x3)] [(0, x3), (2, v16)] G R V15)
          refine wp_i2l rfl rfl s7 (?_ : wpv K_X7_many d P 51 [some (4, (p0 : Int)), some (0, x1), some (0, x2), some (0, x3)] [(2, x3), (2, v16)] G R V15)
          refine wp_stat (as := [(2, v16), (2, x3)]) (st := []) _ rfl rfl rfl (by omega) rfl rfl (Nat.le_of_ble_eq_true rfl) (cwv_kJ w (fun v18 V17 w => ?_))
          show wpv K_X7_many d P 54 [some (4, (p0 : Int)), some (0, x1), some (0, x2), some (0, x3)] [(2, v18)] G R V17
          refine wp_p (i := (.ldc2_w 258)) rfl rfl (fun _ _ _ => rfl) (?_ : wpv K_X7_many d P 57 [some (4, (p0 : Int)), some (0, x1), some (0, x2), some (0, x3)] [(2, 1000000000000000), (2, v18)] G R V17)
          obtain ⟨s19, w⟩ := w
          refine wp_lcmp rfl rfl s19 ⟨by omega, by omega⟩ (?_ : wpv K_X7_many d P 58 [some (4, (p0 : Int)), some (0, x1), some (0, x2), some (0, x3)] [(0, sg v18 1000000000000000)] G R V17)
          refine wp_if (c := .le) 69 rfl rfl rfl (sg32 _ _) (fun q => ?_) (fun q => ?_)
          · have q : ¬ 1000000000000000 < v18 := fun z => q (sg_gt.mpr z)
            replace w := w.1 q
            show wpv K_X7_many d P 69 [some (4, (p0 : Int)), some (0, x1), some (0, x2), some (0, x3)] [] G R V17
            refine wp_ld (i := (.aload_n 0)) (4, (p0 : Int)) rfl rfl (fun _ => rfl) rfl rfl (?_ : wpv K_X7_many d P 70 [some (4, (p0 : Int)), some (0, x1), some (0, x2), some (0, x3)] [(4, (p0 : Int))] G R V17)
            refine wp_getA (k := 3) rfl rfl rfl (ly7_o l0) rfl rfl (ly7_3 l0).1 (?_ : wpv K_X7_many d P 73 [some (4, (p0 : Int)), some (0, x1), some (0, x2), some (0, x3)] [(4, ((p0 + 15 : Nat) : Int))] G R V17)
            refine wp_ld (i := (.aload_n 0)) (4, (p0 : Int)) rfl rfl (fun _ => rfl) rfl rfl (?_ : wpv K_X7_many d P 74 [some (4, (p0 : Int)), some (0, x1), some (0, x2), some (0, x3)] [(4, (p0 : Int)), (4, ((p0 + 15 : Nat) : Int))] G R V17)
            refine wp_getA (k := 6) rfl rfl rfl (ly7_o l0) rfl rfl r14 (?_ : wpv K_X7_many d P 77 [some (4, (p0 : Int)), some (0, x1), some (0, x2), some (0, x3)] [(4, (b14 : Int)), (4, ((p0 + 15 : Nat) : Int))] G R V17)
            refine wp_ld (i := (.iload_n 2)) (0, x2) rfl rfl (fun _ => rfl) rfl rfl (?_ : wpv K_X7_many d P 78 [some (4, (p0 : Int)), some (0, x1), some (0, x2), some (0, x3)] [(0, x2), (4, (b14 : Int)), (4, ((p0 + 15 : Nat) : Int))] G R V17)
            refine wp_ld (i := (.iload_n 3)) (0, x3) rfl rfl (fun _ => rfl) rfl rfl (?_ : wpv K_X7_many d P 79 [some (4, (p0 : Int)), some (0, x1), some (0, x2), some (0, x3)] [(0, x3), (0, x2), (4, (b14 : Int)), (4, ((p0 + 15 : Nat) : Int))] G R V17)
            refine wp_virt (as := [(4, (b14 : Int)), (0, x2), (0, x3)]) (a := p0 + 15) (st := []) _ rfl rfl rfl rfl rfl rfl (ly0_o (ly7_3 l0).2) (Nat.le_of_ble_eq_true rfl) (cwv_k0 w (fun V20 w => ?_))
            show wpv K_X7_many d P 82 [some (4, (p0 : Int)), some (0, x1), some (0, x2), some (0, x3)] [] G R V20
            refine wp_ld (i := (.aload_n 0)) (4, (p0 : Int)) rfl rfl (fun _ => rfl) rfl rfl (?_ : wpv K_X7_many d P 83 [some (4, (p0 : Int)), some (0, x1), some (0, x2), some (0, x3)] [(4, (p0 : Int))] G R V20)
            refine wp_ld (i := (.iload_n 1)) (0, x1) rfl rfl (fun _ => rfl) rfl rfl (?_ : wpv K_X7_many d P 84 [some (4, (p0 : Int)), some (0, x1), some (0, x2), some (0, x3)] [(0, x1), (4, (p0 : Int))] G R V20)
            refine wp_virt (as := [(0, x1)]) (a := p0) (st := []) _ rfl rfl rfl rfl rfl rfl (ly7_o l0) (Nat.le_of_ble_eq_true rfl) (cwv_kJ w (fun v22 V21 w => ?_))
            show wpv K_X7_many d P 87 [some (4, (p0 : Int)), some (0, x1), some (0, x2), some (0, x3)] [(2, v22)] G R V21
            exact wp_rJ rfl rfl rfl w
          · have q : 1000000000000000 < v18 := sg_gt.mp (Decidable.not_not.mp q)
            replace w := w.2 q
            show wpv K_X7_many d P 61 [some (4, (p0 : Int)), some (0, x1), some (0, x2), some (0, x3)] [] G R V17
            refine wp_ld (i := (.aload_n 0)) (4, (p0 : Int)) rfl rfl (fun _ => rfl) rfl rfl (?_ : wpv K_X7_many d P 62 [some (4, (p0 : Int)), some (0, x1), some (0, x2), some (0, x3)] [(4, (p0 : Int))] G R V17)
            refine wp_p (i := (.bipush (-5))) rfl rfl (fun _ _ _ => rfl) (?_ : wpv K_X7_many d P 64 [some (4, (p0 : Int)), some (0, x1), some (0, x2), some (0, x3)] [(0, (-5)), (4, (p0 : Int))] G R V17)
            refine wp_virt (as := [(0, (-5))]) (a := p0) (st := []) _ rfl rfl rfl rfl rfl rfl (ly7_o l0) (Nat.le_of_ble_eq_true rfl) (cwv_kI w (fun v24 V23 w => ?_))
            show wpv K_X7_many d P 67 [some (4, (p0 : Int)), some (0, x1), some (0, x2), some (0, x3)] [(0, v24)] G R V23
            obtain ⟨s25, w⟩ := w
            refine wp_i2l rfl rfl s25 (?_ : wpv K_X7_many d P 68 [some (4, (p0 : Int)), some (0, x1), some (0, x2), some (0, x3)] [(2, v24)] G R V23)
            exact wp_rJ rfl rfl rfl w
        · have q : v12 = 0 := Decidable.not_not.mp q
          replace w := w.2 q
          show wpv K_X7_many d P 33 [some (4, (p0 : Int)), some (0, x1), some (0, x2), some (0, x3)] [] G R V11
          refine wp_ld (i := (.aload_n 0)) (4, (p0 : Int)) rfl rfl (fun _ => rfl) rfl rfl (?_ : wpv K_X7_many d P 34 [some (4, (p0 : Int)), some (0, x1), some (0, x2), some (0, x3)] [(4, (p0 : Int))] G R V11)
          refine wp_p (i := (.bipush (-2))) rfl rfl (fun _ _ _ => rfl) (?_ : wpv K_X7_many d P 36 [some (4, (p0 : Int)), some (0, x1), some (0, x2), some (0, x3)] [(0, (-2)), (4, (p0 : Int))] G R V11)
          refine wp_virt (as := [(0, (-2))]) (a := p0) (st := []) _ rfl rfl rfl rfl rfl rfl (ly7_o l0) (Nat.le_of_ble_eq_true rfl) (cwv_kI w (fun v27 V26 w => ?_))
          show wpv K_X7_many d P 39 [some (4, (p0 : Int)), some (0, x1), some (0, x2), some (0, x3)] [(0, v27)] G R V26
          obtain ⟨s28, w⟩ := w
          refine wp_i2l rfl rfl s28 (?_ : wpv K_X7_many d P 40 [some (4, (p0 : Int)), some (0, x1), some (0, x2), some (0, x3)] [(2, v27)] G R V26)
          exact wp_rJ rfl rfl rfl w
      · have q : 1000000 < x3 := Decidable.not_not.mp q
        replace w := w.2 q
        show wpv K_X7_many d P 18 [some (4, (p0 : Int)), some (0, x1), some (0, x2), some (0, x3)] [] G R V1
        refine wp_ld (i := (.aload_n 0)) (4, (p0 : Int)) rfl rfl (fun _ => rfl) rfl rfl (?_ : wpv K_X7_many d P 19 [some (4, (p0 : Int)), some (0, x1), some (0, x2), some (0, x3)] [(4, (p0 : Int))] G R V1)
        refine wp_p (i := (.iconst (-1))) rfl rfl (fun _ _ _ => rfl) (?_ : wpv K_X7_many d P 20 [some (4, (p0 : Int)), some (0, x1), some (0, x2), some (0, x3)] [(0, (-1)), (4, (p0 : Int))] G R V1)
        refine wp_virt (as := [(0, (-1))]) (a := p0) (st := []) _ rfl rfl rfl rfl rfl rfl (ly7_o l0) (Nat.le_of_ble_eq_true rfl) (cwv_kI w (fun v30 V29 w => ?_))
        show wpv K_X7_many d P 23 [some (4, (p0 : Int)), some (0, x1), some (0, x2), some (0, x3)] [(0, v30)] G R V29
        obtain ⟨s31, w⟩ := w
        refine wp_i2l rfl rfl s31 (?_ : wpv K_X7_many d P 24 [some (4, (p0 : Int)), some (0, x1), some (0, x2), some (0, x3)] [(2, v30)] G R V29)
        exact wp_rJ rfl rfl rfl w
theorem t_X7_parts_0 {d : Nat} {P : gP} {p0 : Nat} {x1 : Int} {x2 : Int} {G : List gS} {R V : gV} (l0 : lay7 G R p0) (w : cwv d (fun r V1 => ∃ v2 : Int, r = some (0, v2) ∧ ((i32 v2) ∧ (((v2 = 0) → P (some (2, (-1))) V1) ∧ ((¬ v2 = 0) → (∃ b4 : Nat, (R p0 6 = (b4 : Int) ∧ lay1 G R b4) ∧ (∃ b5 : Nat, (R b4 0 = (b5 : Int) ∧ lay2 G R b5) ∧ cwv d (fun r V6 => ∃ v7 : Int, r = some (0, v7) ∧ ((i32 v7) ∧ (((v7 = 0) → P (some (2, (-1))) V6) ∧ ((¬ v7 = 0) → cwv d (fun r V9 => ∃ v10 : Int, r = some (2, v10) ∧ P (some (2, v10)) V9) 22 [(4, (b4 : Int)), (0, x1), (0, x2)] G R V6)))) 57 [(4, ((b5 + 10 : Nat) : Int)), (0, x2)] G R V1)))))) 142 [(4, (p0 : Int)), (0, x1)] G R V) : wpv K_X7_parts d P 0 [some (4, (p0 : Int)), some (0, x1), some (0, x2)] [] G R V := by
  refine wp_ld (i := (.aload_n 0)) (4, (p0 : Int)) rfl rfl (fun _ => rfl) rfl rfl (?_ : wpv K_X7_parts d P 1 [some (4, (p0 : Int)), some (0, x1), some (0, x2)] [(4, (p0 : Int))] G R V)
  refine wp_ld (i := (.iload_n 1)) (0, x1) rfl rfl (fun _ => rfl) rfl rfl (?_ : wpv K_X7_parts d P 2 [some (4, (p0 : Int)), some (0, x1), some (0, x2)] [(0, x1), (4, (p0 : Int))] G R V)
  refine wp_virt (as := [(0, x1)]) (a := p0) (st := []) _ rfl rfl rfl rfl rfl rfl (ly7_o l0) (Nat.le_of_ble_eq_true rfl) (cwv_kI w (fun v2 V1 w => ?_))
  show wpv K_X7_parts d P 5 [some (4, (p0 : Int)), some (0, x1), some (0, x2)] [(0, v2)] G R V1
  obtain ⟨s3, w⟩ := w
  refine wp_if (c := .eq) 37 rfl rfl rfl s3 (fun q => ?_) (fun q => ?_)
  · have q : v2 = 0 := q
    replace w := w.1 q
    show wpv K_X7_parts d P 37 [some (4, (p0 : Int)), some (0, x1), some (0, x2)] [] G R V1
    refine wp_p (i := (.ldc2_w 285)) rfl rfl (fun _ _ _ => rfl) (?_ : wpv K_X7_parts d P 40 [some (4, (p0 : Int)), some (0, x1), some (0, x2)] [(2, (-1))] G R V1)
    exact wp_rJ rfl rfl rfl w
  · have q : ¬ v2 = 0 := q
    replace w := w.2 q
    show wpv K_X7_parts d P 8 [some (4, (p0 : Int)), some (0, x1), some (0, x2)] [] G R V1
    refine wp_ld (i := (.aload_n 0)) (4, (p0 : Int)) rfl rfl (fun _ => rfl) rfl rfl (?_ : wpv K_X7_parts d P 9 [some (4, (p0 : Int)), some (0, x1), some (0, x2)] [(4, (p0 : Int))] G R V1)
    obtain ⟨b4, ⟨r4, l4_⟩, w⟩ := w
    refine wp_getA (k := 6) rfl rfl rfl (ly7_o l0) rfl rfl r4 (?_ : wpv K_X7_parts d P 12 [some (4, (p0 : Int)), some (0, x1), some (0, x2)] [(4, (b4 : Int))] G R V1)
    obtain ⟨b5, ⟨r5, l5_⟩, w⟩ := w
    refine wp_getA (k := 0) rfl rfl rfl (ly1_o l4_) rfl rfl r5 (?_ : wpv K_X7_parts d P 15 [some (4, (p0 : Int)), some (0, x1), some (0, x2)] [(4, (b5 : Int))] G R V1)
    refine wp_getA (k := 1) rfl rfl rfl (ly2_o l5_) rfl rfl (ly2_1 l5_).1 (?_ : wpv K_X7_parts d P 18 [some (4, (p0 : Int)), some (0, x1), some (0, x2)] [(4, ((b5 + 10 : Nat) : Int))] G R V1)
    refine wp_ld (i := (.iload_n 2)) (0, x2) rfl rfl (fun _ => rfl) rfl rfl (?_ : wpv K_X7_parts d P 19 [some (4, (p0 : Int)), some (0, x1), some (0, x2)] [(0, x2), (4, ((b5 + 10 : Nat) : Int))] G R V1)
    refine wp_virt (as := [(0, x2)]) (a := b5 + 10) (st := []) _ rfl rfl rfl rfl rfl rfl (ly4_o (ly2_1 l5_).2) (Nat.le_of_ble_eq_true rfl) (cwv_kI w (fun v7 V6 w => ?_))
    show wpv K_X7_parts d P 22 [some (4, (p0 : Int)), some (0, x1), some (0, x2)] [(0, v7)] G R V6
    obtain ⟨s8, w⟩ := w
    refine wp_if (c := .eq) 37 rfl rfl rfl s8 (fun q => ?_) (fun q => ?_)
    · have q : v7 = 0 := q
      replace w := w.1 q
      show wpv K_X7_parts d P 37 [some (4, (p0 : Int)), some (0, x1), some (0, x2)] [] G R V6
      refine wp_p (i := (.ldc2_w 285)) rfl rfl (fun _ _ _ => rfl) (?_ : wpv K_X7_parts d P 40 [some (4, (p0 : Int)), some (0, x1), some (0, x2)] [(2, (-1))] G R V6)
      exact wp_rJ rfl rfl rfl w
    · have q : ¬ v7 = 0 := q
      replace w := w.2 q
      show wpv K_X7_parts d P 25 [some (4, (p0 : Int)), some (0, x1), some (0, x2)] [] G R V6
      refine wp_ld (i := (.aload_n 0)) (4, (p0 : Int)) rfl rfl (fun _ => rfl) rfl rfl (?_ : wpv K_X7_parts d P 26 [some (4, (p0 : Int)), some (0, x1), some (0, x2)] [(4, (p0 : Int))] G R V6)
      refine wp_getA (k := 6) rfl rfl rfl (ly7_o l0) rfl rfl r4 (?_ : wpv K_X7_parts d P 29 [some (4, (p0 : Int)), some (0, x1), some (0, x2)] [(4, (b4 : Int))] G R V6)
      refine wp_ld (i := (.iload_n 1)) (0, x1) rfl rfl (fun _ => rfl) rfl rfl (?_ : wpv K_X7_parts d P 30 [some (4, (p0 : Int)), some (0, x1), some (0, x2)] [(0, x1), (4, (b4 : Int))] G R V6)
      refine wp_ld (i := (.iload_n 2)) (0, x2) rfl rfl (fun _ => rfl) rfl rfl (?_ : wpv K_X7_parts d P 31 [some (4, (p0 : Int)), some (0, x1), some (0, x2)] [(0, x2), (0, x1), (4, (b4 : Int))] G R V6)
      refine wp_virt (as := [(0, x1), (0, x2)]) (a := b4) (st := []) _ rfl rfl rfl rfl rfl rfl (ly1_o l4_) (Nat.le_of_ble_eq_true rfl) (cwv_kJ w (fun v10 V9 w => ?_))
      show wpv K_X7_parts d P 34 [some (4, (p0 : Int)), some (0, x1), some (0, x2)] [(2, v10)] G R V9
      refine wp_go 40 rfl rfl rfl (?_ : wpv K_X7_parts d P 40 [some (4, (p0 : Int)), some (0, x1), some (0, x2)] [(2, v10)] G R V9)
      exact wp_rJ rfl rfl rfl w
theorem t_X7_mark_0 {d : Nat} {P : gP} {p0 : Nat} {x1 : Int} {x2 : Int} {G : List gS} {R V : gV} (l0 : lay7 G R p0) (w : cwv d (fun r V1 => ∃ v2 : Int, r = some (0, v2) ∧ ((i32 v2) ∧ (((v2 = 0) → P (some (2, (-1))) V1) ∧ ((¬ v2 = 0) → (∃ b4 : Nat, (R p0 6 = (b4 : Int) ∧ lay1 G R b4) ∧ (∃ b5 : Nat, (R b4 0 = (b5 : Int) ∧ lay2 G R b5) ∧ cwv d (fun r V6 => ∃ v7 : Int, r = some (0, v7) ∧ ((i32 v7) ∧ (((v7 = 0) → P (some (2, (-1))) V6) ∧ ((¬ v7 = 0) → cwv d (fun r V9 => ∃ v10 : Int, r = some (2, v10) ∧ P (some (2, v10)) V9) 21 [(4, (b4 : Int)), (0, x1), (0, x2)] G R V6)))) 57 [(4, ((b5 + 10 : Nat) : Int)), (0, x2)] G R V1)))))) 142 [(4, (p0 : Int)), (0, x1)] G R V) : wpv K_X7_mark d P 0 [some (4, (p0 : Int)), some (0, x1), some (0, x2)] [] G R V := by
  refine wp_ld (i := (.aload_n 0)) (4, (p0 : Int)) rfl rfl (fun _ => rfl) rfl rfl (?_ : wpv K_X7_mark d P 1 [some (4, (p0 : Int)), some (0, x1), some (0, x2)] [(4, (p0 : Int))] G R V)
  refine wp_ld (i := (.iload_n 1)) (0, x1) rfl rfl (fun _ => rfl) rfl rfl (?_ : wpv K_X7_mark d P 2 [some (4, (p0 : Int)), some (0, x1), some (0, x2)] [(0, x1), (4, (p0 : Int))] G R V)
  refine wp_virt (as := [(0, x1)]) (a := p0) (st := []) _ rfl rfl rfl rfl rfl rfl (ly7_o l0) (Nat.le_of_ble_eq_true rfl) (cwv_kI w (fun v2 V1 w => ?_))
  show wpv K_X7_mark d P 5 [some (4, (p0 : Int)), some (0, x1), some (0, x2)] [(0, v2)] G R V1
  obtain ⟨s3, w⟩ := w
  refine wp_if (c := .eq) 37 rfl rfl rfl s3 (fun q => ?_) (fun q => ?_)
  · have q : v2 = 0 := q
    replace w := w.1 q
    show wpv K_X7_mark d P 37 [some (4, (p0 : Int)), some (0, x1), some (0, x2)] [] G R V1
    refine wp_p (i := (.ldc2_w 285)) rfl rfl (fun _ _ _ => rfl) (?_ : wpv K_X7_mark d P 40 [some (4, (p0 : Int)), some (0, x1), some (0, x2)] [(2, (-1))] G R V1)
    exact wp_rJ rfl rfl rfl w
  · have q : ¬ v2 = 0 := q
    replace w := w.2 q
    show wpv K_X7_mark d P 8 [some (4, (p0 : Int)), some (0, x1), some (0, x2)] [] G R V1
    refine wp_ld (i := (.aload_n 0)) (4, (p0 : Int)) rfl rfl (fun _ => rfl) rfl rfl (?_ : wpv K_X7_mark d P 9 [some (4, (p0 : Int)), some (0, x1), some (0, x2)] [(4, (p0 : Int))] G R V1)
    obtain ⟨b4, ⟨r4, l4_⟩, w⟩ := w
    refine wp_getA (k := 6) rfl rfl rfl (ly7_o l0) rfl rfl r4 (?_ : wpv K_X7_mark d P 12 [some (4, (p0 : Int)), some (0, x1), some (0, x2)] [(4, (b4 : Int))] G R V1)
    obtain ⟨b5, ⟨r5, l5_⟩, w⟩ := w
    refine wp_getA (k := 0) rfl rfl rfl (ly1_o l4_) rfl rfl r5 (?_ : wpv K_X7_mark d P 15 [some (4, (p0 : Int)), some (0, x1), some (0, x2)] [(4, (b5 : Int))] G R V1)
    refine wp_getA (k := 1) rfl rfl rfl (ly2_o l5_) rfl rfl (ly2_1 l5_).1 (?_ : wpv K_X7_mark d P 18 [some (4, (p0 : Int)), some (0, x1), some (0, x2)] [(4, ((b5 + 10 : Nat) : Int))] G R V1)
    refine wp_ld (i := (.iload_n 2)) (0, x2) rfl rfl (fun _ => rfl) rfl rfl (?_ : wpv K_X7_mark d P 19 [some (4, (p0 : Int)), some (0, x1), some (0, x2)] [(0, x2), (4, ((b5 + 10 : Nat) : Int))] G R V1)
    refine wp_virt (as := [(0, x2)]) (a := b5 + 10) (st := []) _ rfl rfl rfl rfl rfl rfl (ly4_o (ly2_1 l5_).2) (Nat.le_of_ble_eq_true rfl) (cwv_kI w (fun v7 V6 w => ?_))
    show wpv K_X7_mark d P 22 [some (4, (p0 : Int)), some (0, x1), some (0, x2)] [(0, v7)] G R V6
    obtain ⟨s8, w⟩ := w
    refine wp_if (c := .eq) 37 rfl rfl rfl s8 (fun q => ?_) (fun q => ?_)
    · have q : v7 = 0 := q
      replace w := w.1 q
      show wpv K_X7_mark d P 37 [some (4, (p0 : Int)), some (0, x1), some (0, x2)] [] G R V6
      refine wp_p (i := (.ldc2_w 285)) rfl rfl (fun _ _ _ => rfl) (?_ : wpv K_X7_mark d P 40 [some (4, (p0 : Int)), some (0, x1), some (0, x2)] [(2, (-1))] G R V6)
      exact wp_rJ rfl rfl rfl w
    · have q : ¬ v7 = 0 := q
      replace w := w.2 q
      show wpv K_X7_mark d P 25 [some (4, (p0 : Int)), some (0, x1), some (0, x2)] [] G R V6
      refine wp_ld (i := (.aload_n 0)) (4, (p0 : Int)) rfl rfl (fun _ => rfl) rfl rfl (?_ : wpv K_X7_mark d P 26 [some (4, (p0 : Int)), some (0, x1), some (0, x2)] [(4, (p0 : Int))] G R V6)
      refine wp_getA (k := 6) rfl rfl rfl (ly7_o l0) rfl rfl r4 (?_ : wpv K_X7_mark d P 29 [some (4, (p0 : Int)), some (0, x1), some (0, x2)] [(4, (b4 : Int))] G R V6)
      refine wp_ld (i := (.iload_n 1)) (0, x1) rfl rfl (fun _ => rfl) rfl rfl (?_ : wpv K_X7_mark d P 30 [some (4, (p0 : Int)), some (0, x1), some (0, x2)] [(0, x1), (4, (b4 : Int))] G R V6)
      refine wp_ld (i := (.iload_n 2)) (0, x2) rfl rfl (fun _ => rfl) rfl rfl (?_ : wpv K_X7_mark d P 31 [some (4, (p0 : Int)), some (0, x1), some (0, x2)] [(0, x2), (0, x1), (4, (b4 : Int))] G R V6)
      refine wp_virt (as := [(0, x1), (0, x2)]) (a := b4) (st := []) _ rfl rfl rfl rfl rfl rfl (ly1_o l4_) (Nat.le_of_ble_eq_true rfl) (cwv_kJ w (fun v10 V9 w => ?_))
      show wpv K_X7_mark d P 34 [some (4, (p0 : Int)), some (0, x1), some (0, x2)] [(2, v10)] G R V9
      refine wp_go 40 rfl rfl rfl (?_ : wpv K_X7_mark d P 40 [some (4, (p0 : Int)), some (0, x1), some (0, x2)] [(2, v10)] G R V9)
      exact wp_rJ rfl rfl rfl w
theorem t_X7_act_0 {d : Nat} {P : gP} {p0 : Nat} {x1 : Int} {x2 : Int} {x3 : Int} {G : List gS} {R V : gV} (l0 : lay7 G R p0) (w : cwv d (fun r V1 => ∃ v2 : Int, r = some (0, v2) ∧ ((i32 v2) ∧ (((¬ v2 = 0) → (∃ b4 : Nat, (R p0 6 = (b4 : Int) ∧ lay1 G R b4) ∧ (∃ b5 : Nat, (R b4 0 = (b5 : Int) ∧ lay2 G R b5) ∧ ((i32 x2) ∧ (((x2 < 0 ∨ 5 < x2) → P (some (2, (-1))) V1) ∧ ((x2 = 0) → cwv d (fun r V7 => ∃ v8 : Int, r = some (2, v8) ∧ P (some (2, v8)) V7) 23 [(4, (b4 : Int)), (0, x1)] G R V1) ∧ ((x2 = 1) → cwv d (fun r V9 => ∃ v10 : Int, r = some (2, v10) ∧ P (some (2, v10)) V9) 24 [(4, (b4 : Int)), (0, x1)] G R V1) ∧ ((x2 = 2) → cwv d (fun r V11 => ∃ v12 : Int, r = some (0, v12) ∧ ((i32 v12) ∧ P (some (2, v12)) V11)) 25 [(4, (b4 : Int)), (0, x1)] G R V1) ∧ ((x2 = 3) → cwv d (fun r V14 => ∃ v15 : Int, r = some (0, v15) ∧ ((i32 v15) ∧ (((v15 = 0) → P (some (2, (-1))) V14) ∧ ((¬ v15 = 0) → cwv d (fun r V17 => ∃ v18 : Int, r = some (2, v18) ∧ P (some (2, v18)) V17) 26 [(4, (b4 : Int)), (0, x1), (0, x3)] G R V14)))) 88 [(4, ((b5 + 1 : Nat) : Int)), (0, x3)] G R V1) ∧ ((x2 = 4) → cwv d (fun r V19 => ∃ v20 : Int, r = some (0, v20) ∧ ((i32 v20) ∧ (((v20 = 0) → P (some (2, (-1))) V19) ∧ ((¬ v20 = 0) → ((0 ≤ x3 ∧ x3 < 120) ∧ ((i32 (V19 (b5 + 15) x3)) → cwv d (fun r V25 => ∃ v26 : Int, r = some (2, v26) ∧ P (some (2, v26)) V25) 27 [(4, (b4 : Int)), (0, x1), (0, (V19 (b5 + 15) x3))] G R V19)))))) 88 [(4, ((b5 + 1 : Nat) : Int)), (0, x3)] G R V1) ∧ ((x2 = 5) → cwv d (fun r V27 => ∃ v28 : Int, r = some (0, v28) ∧ ((i32 v28) ∧ (((v28 = 0) → P (some (2, (-1))) V27) ∧ ((¬ v28 = 0) → cwv d (fun r V30 => ∃ v31 : Int, r = some (2, v31) ∧ P (some (2, v31)) V30) 27 [(4, (b4 : Int)), (0, x1), (0, x3)] G R V27)))) 56 [(4, ((b5 + 10 : Nat) : Int)), (0, x3)] G R V1)))))) ∧ ((v2 = 0) → P (some (2, (-1))) V1)))) 142 [(4, (p0 : Int)), (0, x1)] G R V) : wpv K_X7_act d P 0 [some (4, (p0 : Int)), some (0, x1), some (0, x2), some (0, x3)] [] G R V := by
  refine wp_ld (i := (.aload_n 0)) (4, (p0 : Int)) rfl rfl (fun _ => rfl) rfl rfl (?_ : wpv K_X7_act d P 1 [some (4, (p0 : Int)), some (0, x1), some (0, x2), some (0, x3)] [(4, (p0 : Int))] G R V)
  refine wp_ld (i := (.iload_n 1)) (0, x1) rfl rfl (fun _ => rfl) rfl rfl (?_ : wpv K_X7_act d P 2 [some (4, (p0 : Int)), some (0, x1), some (0, x2), some (0, x3)] [(0, x1), (4, (p0 : Int))] G R V)
  refine wp_virt (as := [(0, x1)]) (a := p0) (st := []) _ rfl rfl rfl rfl rfl rfl (ly7_o l0) (Nat.le_of_ble_eq_true rfl) (cwv_kI w (fun v2 V1 w => ?_))
  show wpv K_X7_act d P 5 [some (4, (p0 : Int)), some (0, x1), some (0, x2), some (0, x3)] [(0, v2)] G R V1
  obtain ⟨s3, w⟩ := w
  refine wp_if (c := .ne) 12 rfl rfl rfl s3 (fun q => ?_) (fun q => ?_)
  · have q : ¬ v2 = 0 := q
    replace w := w.1 q
    show wpv K_X7_act d P 12 [some (4, (p0 : Int)), some (0, x1), some (0, x2), some (0, x3)] [] G R V1
    refine wp_ld (i := (.aload_n 0)) (4, (p0 : Int)) rfl rfl (fun _ => rfl) rfl rfl (?_ : wpv K_X7_act d P 13 [some (4, (p0 : Int)), some (0, x1), some (0, x2), some (0, x3)] [(4, (p0 : Int))] G R V1)
    obtain ⟨b4, ⟨r4, l4_⟩, w⟩ := w
    refine wp_getA (k := 6) rfl rfl rfl (ly7_o l0) rfl rfl r4 (?_ : wpv K_X7_act d P 16 [some (4, (p0 : Int)), some (0, x1), some (0, x2), some (0, x3)] [(4, (b4 : Int))] G R V1)
    obtain ⟨b5, ⟨r5, l5_⟩, w⟩ := w
    refine wp_getA (k := 0) rfl rfl rfl (ly1_o l4_) rfl rfl r5 (?_ : wpv K_X7_act d P 19 [some (4, (p0 : Int)), some (0, x1), some (0, x2), some (0, x3)] [(4, (b5 : Int))] G R V1)
    refine wp_sto (i := (.astore 4)) _ rfl rfl (fun _ => rfl) rfl rfl rfl ?_
    refine wp_wk (L' := [some (4, (p0 : Int)), some (0, x1), some (0, x2), some (0, x3), some (4, (b5 : Int))]) (wk_s (wk_s (wk_s (wk_s (wk_s wk_0))))) ?_
    show wpv K_X7_act d P 21 [some (4, (p0 : Int)), some (0, x1), some (0, x2), some (0, x3), some (4, (b5 : Int))] [] G R V1
    refine wp_ld (i := (.iload_n 2)) (0, x2) rfl rfl (fun _ => rfl) rfl rfl (?_ : wpv K_X7_act d P 22 [some (4, (p0 : Int)), some (0, x1), some (0, x2), some (0, x3), some (4, (b5 : Int))] [(0, x2)] G R V1)
    obtain ⟨s6, w⟩ := w
    by_cases qd : x2 < 0 ∨ 5 < x2
    · replace w := w.1 qd
      refine wp_tsd 181 rfl rfl s6 qd rfl (?_ : wpv K_X7_act d P 181 [some (4, (p0 : Int)), some (0, x1), some (0, x2), some (0, x3), some (4, (b5 : Int))] [] G R V1)
      refine wp_p (i := (.ldc2_w 285)) rfl rfl (fun _ _ _ => rfl) (?_ : wpv K_X7_act d P 184 [some (4, (p0 : Int)), some (0, x1), some (0, x2), some (0, x3), some (4, (b5 : Int))] [(2, (-1))] G R V1)
      exact wp_rJ rfl rfl rfl w
    replace w := w.2
    by_cases q0 : x2 = 0
    · replace w := w.1 q0
      refine wp_tsw 0 60 rfl rfl s6 (by omega) (by omega) rfl rfl (?_ : wpv K_X7_act d P 60 [some (4, (p0 : Int)), some (0, x1), some (0, x2), some (0, x3), some (4, (b5 : Int))] [] G R V1)
      refine wp_ld (i := (.aload_n 0)) (4, (p0 : Int)) rfl rfl (fun _ => rfl) rfl rfl (?_ : wpv K_X7_act d P 61 [some (4, (p0 : Int)), some (0, x1), some (0, x2), some (0, x3), some (4, (b5 : Int))] [(4, (p0 : Int))] G R V1)
      refine wp_getA (k := 6) rfl rfl rfl (ly7_o l0) rfl rfl r4 (?_ : wpv K_X7_act d P 64 [some (4, (p0 : Int)), some (0, x1), some (0, x2), some (0, x3), some (4, (b5 : Int))] [(4, (b4 : Int))] G R V1)
      refine wp_ld (i := (.iload_n 1)) (0, x1) rfl rfl (fun _ => rfl) rfl rfl (?_ : wpv K_X7_act d P 65 [some (4, (p0 : Int)), some (0, x1), some (0, x2), some (0, x3), some (4, (b5 : Int))] [(0, x1), (4, (b4 : Int))] G R V1)
      refine wp_virt (as := [(0, x1)]) (a := b4) (st := []) _ rfl rfl rfl rfl rfl rfl (ly1_o l4_) (Nat.le_of_ble_eq_true rfl) (cwv_kJ w (fun v8 V7 w => ?_))
      show wpv K_X7_act d P 68 [some (4, (p0 : Int)), some (0, x1), some (0, x2), some (0, x3), some (4, (b5 : Int))] [(2, v8)] G R V7
      exact wp_rJ rfl rfl rfl w
    replace w := w.2
    by_cases q1 : x2 = 1
    · replace w := w.1 q1
      refine wp_tsw 1 69 rfl rfl s6 (by omega) (by omega) rfl rfl (?_ : wpv K_X7_act d P 69 [some (4, (p0 : Int)), some (0, x1), some (0, x2), some (0, x3), some (4, (b5 : Int))] [] G R V1)
      refine wp_ld (i := (.aload_n 0)) (4, (p0 : Int)) rfl rfl (fun _ => rfl) rfl rfl (?_ : wpv K_X7_act d P 70 [some (4, (p0 : Int)), some (0, x1), some (0, x2), some (0, x3), some (4, (b5 : Int))] [(4, (p0 : Int))] G R V1)
      refine wp_getA (k := 6) rfl rfl rfl (ly7_o l0) rfl rfl r4 (?_ : wpv K_X7_act d P 73 [some (4, (p0 : Int)), some (0, x1), some (0, x2), some (0, x3), some (4, (b5 : Int))] [(4, (b4 : Int))] G R V1)
      refine wp_ld (i := (.iload_n 1)) (0, x1) rfl rfl (fun _ => rfl) rfl rfl (?_ : wpv K_X7_act d P 74 [some (4, (p0 : Int)), some (0, x1), some (0, x2), some (0, x3), some (4, (b5 : Int))] [(0, x1), (4, (b4 : Int))] G R V1)
      refine wp_virt (as := [(0, x1)]) (a := b4) (st := []) _ rfl rfl rfl rfl rfl rfl (ly1_o l4_) (Nat.le_of_ble_eq_true rfl) (cwv_kJ w (fun v10 V9 w => ?_))
      show wpv K_X7_act d P 77 [some (4, (p0 : Int)), some (0, x1), some (0, x2), some (0, x3), some (4, (b5 : Int))] [(2, v10)] G R V9
      exact wp_rJ rfl rfl rfl w
    replace w := w.2
    by_cases q2 : x2 = 2
    · replace w := w.1 q2
      refine wp_tsw 2 78 rfl rfl s6 (by omega) (by omega) rfl rfl (?_ : wpv K_X7_act d P 78 [some (4, (p0 : Int)), some (0, x1), some (0, x2), some (0, x3), some (4, (b5 : Int))] [] G R V1)
      refine wp_ld (i := (.aload_n 0)) (4, (p0 : Int)) rfl rfl (fun _ => rfl) rfl rfl (?_ : wpv K_X7_act d P 79 [some (4, (p0 : Int)), some (0, x1), some (0, x2), some (0, x3), some (4, (b5 : Int))] [(4, (p0 : Int))] G R V1)
      refine wp_getA (k := 6) rfl rfl rfl (ly7_o l0) rfl rfl r4 (?_ : wpv K_X7_act d P 82 [some (4, (p0 : Int)), some (0, x1), some (0, x2), some (0, x3), some (4, (b5 : Int))] [(4, (b4 : Int))] G R V1)
      refine wp_ld (i := (.iload_n 1)) (0, x1) rfl rfl (fun _ => rfl) rfl rfl (?_ : wpv K_X7_act d P 83 [some (4, (p0 : Int)), some (0, x1), some (0, x2), some (0, x3), some (4, (b5 : Int))] [(0, x1), (4, (b4 : Int))] G R V1)
      refine wp_virt (as := [(0, x1)]) (a := b4) (st := []) _ rfl rfl rfl rfl rfl rfl (ly1_o l4_) (Nat.le_of_ble_eq_true rfl) (cwv_kI w (fun v12 V11 w => ?_))
      show wpv K_X7_act d P 86 [some (4, (p0 : Int)), some (0, x1), some (0, x2), some (0, x3), some (4, (b5 : Int))] [(0, v12)] G R V11
      obtain ⟨s13, w⟩ := w
      refine wp_i2l rfl rfl s13 (?_ : wpv K_X7_act d P 87 [some (4, (p0 : Int)), some (0, x1), some (0, x2), some (0, x3), some (4, (b5 : Int))] [(2, v12)] G R V11)
      exact wp_rJ rfl rfl rfl w
    replace w := w.2
    by_cases q3 : x2 = 3
    · replace w := w.1 q3
      refine wp_tsw 3 88 rfl rfl s6 (by omega) (by omega) rfl rfl (?_ : wpv K_X7_act d P 88 [some (4, (p0 : Int)), some (0, x1), some (0, x2), some (0, x3), some (4, (b5 : Int))] [] G R V1)
      refine wp_ld (i := (.aload 4)) (4, (b5 : Int)) rfl rfl (fun _ => rfl) rfl rfl (?_ : wpv K_X7_act d P 90 [some (4, (p0 : Int)), some (0, x1), some (0, x2), some (0, x3), some (4, (b5 : Int))] [(4, (b5 : Int))] G R V1)
      refine wp_getA (k := 0) rfl rfl rfl (ly2_o l5_) rfl rfl (ly2_0 l5_).1 (?_ : wpv K_X7_act d P 93 [some (4, (p0 : Int)), some (0, x1), some (0, x2), some (0, x3), some (4, (b5 : Int))] [(4, ((b5 + 1 : Nat) : Int))] G R V1)
      refine wp_ld (i := (.iload_n 3)) (0, x3) rfl rfl (fun _ => rfl) rfl rfl (?_ : wpv K_X7_act d P 94 [some (4, (p0 : Int)), some (0, x1), some (0, x2), some (0, x3), some (4, (b5 : Int))] [(0, x3), (4, ((b5 + 1 : Nat) : Int))] G R V1)
      refine wp_virt (as := [(0, x3)]) (a := b5 + 1) (st := []) _ rfl rfl rfl rfl rfl rfl (ly6_o (ly2_0 l5_).2) (Nat.le_of_ble_eq_true rfl) (cwv_kI w (fun v15 V14 w => ?_))
      show wpv K_X7_act d P 97 [some (4, (p0 : Int)), some (0, x1), some (0, x2), some (0, x3), some (4, (b5 : Int))] [(0, v15)] G R V14
      obtain ⟨s16, w⟩ := w
      refine wp_if (c := .eq) 112 rfl rfl rfl s16 (fun q => ?_) (fun q => ?_)
      · have q : v15 = 0 := q
        replace w := w.1 q
        show wpv K_X7_act d P 112 [some (4, (p0 : Int)), some (0, x1), some (0, x2), some (0, x3), some (4, (b5 : Int))] [] G R V14
        refine wp_p (i := (.ldc2_w 285)) rfl rfl (fun _ _ _ => rfl) (?_ : wpv K_X7_act d P 115 [some (4, (p0 : Int)), some (0, x1), some (0, x2), some (0, x3), some (4, (b5 : Int))] [(2, (-1))] G R V14)
        exact wp_rJ rfl rfl rfl w
      · have q : ¬ v15 = 0 := q
        replace w := w.2 q
        show wpv K_X7_act d P 100 [some (4, (p0 : Int)), some (0, x1), some (0, x2), some (0, x3), some (4, (b5 : Int))] [] G R V14
        refine wp_ld (i := (.aload_n 0)) (4, (p0 : Int)) rfl rfl (fun _ => rfl) rfl rfl (?_ : wpv K_X7_act d P 101 [some (4, (p0 : Int)), some (0, x1), some (0, x2), some (0, x3), some (4, (b5 : Int))] [(4, (p0 : Int))] G R V14)
        refine wp_getA (k := 6) rfl rfl rfl (ly7_o l0) rfl rfl r4 (?_ : wpv K_X7_act d P 104 [some (4, (p0 : Int)), some (0, x1), some (0, x2), some (0, x3), some (4, (b5 : Int))] [(4, (b4 : Int))] G R V14)
        refine wp_ld (i := (.iload_n 1)) (0, x1) rfl rfl (fun _ => rfl) rfl rfl (?_ : wpv K_X7_act d P 105 [some (4, (p0 : Int)), some (0, x1), some (0, x2), some (0, x3), some (4, (b5 : Int))] [(0, x1), (4, (b4 : Int))] G R V14)
        refine wp_ld (i := (.iload_n 3)) (0, x3) rfl rfl (fun _ => rfl) rfl rfl (?_ : wpv K_X7_act d P 106 [some (4, (p0 : Int)), some (0, x1), some (0, x2), some (0, x3), some (4, (b5 : Int))] [(0, x3), (0, x1), (4, (b4 : Int))] G R V14)
        refine wp_virt (as := [(0, x1), (0, x3)]) (a := b4) (st := []) _ rfl rfl rfl rfl rfl rfl (ly1_o l4_) (Nat.le_of_ble_eq_true rfl) (cwv_kJ w (fun v18 V17 w => ?_))
        show wpv K_X7_act d P 109 [some (4, (p0 : Int)), some (0, x1), some (0, x2), some (0, x3), some (4, (b5 : Int))] [(2, v18)] G R V17
        refine wp_go 115 rfl rfl rfl (?_ : wpv K_X7_act d P 115 [some (4, (p0 : Int)), some (0, x1), some (0, x2), some (0, x3), some (4, (b5 : Int))] [(2, v18)] G R V17)
        exact wp_rJ rfl rfl rfl w
    replace w := w.2
    by_cases q4 : x2 = 4
    · replace w := w.1 q4
      refine wp_tsw 4 116 rfl rfl s6 (by omega) (by omega) rfl rfl (?_ : wpv K_X7_act d P 116 [some (4, (p0 : Int)), some (0, x1), some (0, x2), some (0, x3), some (4, (b5 : Int))] [] G R V1)
      refine wp_ld (i := (.aload 4)) (4, (b5 : Int)) rfl rfl (fun _ => rfl) rfl rfl (?_ : wpv K_X7_act d P 118 [some (4, (p0 : Int)), some (0, x1), some (0, x2), some (0, x3), some (4, (b5 : Int))] [(4, (b5 : Int))] G R V1)
      refine wp_getA (k := 0) rfl rfl rfl (ly2_o l5_) rfl rfl (ly2_0 l5_).1 (?_ : wpv K_X7_act d P 121 [some (4, (p0 : Int)), some (0, x1), some (0, x2), some (0, x3), some (4, (b5 : Int))] [(4, ((b5 + 1 : Nat) : Int))] G R V1)
      refine wp_ld (i := (.iload_n 3)) (0, x3) rfl rfl (fun _ => rfl) rfl rfl (?_ : wpv K_X7_act d P 122 [some (4, (p0 : Int)), some (0, x1), some (0, x2), some (0, x3), some (4, (b5 : Int))] [(0, x3), (4, ((b5 + 1 : Nat) : Int))] G R V1)
      refine wp_virt (as := [(0, x3)]) (a := b5 + 1) (st := []) _ rfl rfl rfl rfl rfl rfl (ly6_o (ly2_0 l5_).2) (Nat.le_of_ble_eq_true rfl) (cwv_kI w (fun v20 V19 w => ?_))
      show wpv K_X7_act d P 125 [some (4, (p0 : Int)), some (0, x1), some (0, x2), some (0, x3), some (4, (b5 : Int))] [(0, v20)] G R V19
      obtain ⟨s21, w⟩ := w
      refine wp_if (c := .eq) 149 rfl rfl rfl s21 (fun q => ?_) (fun q => ?_)
      · have q : v20 = 0 := q
        replace w := w.1 q
        show wpv K_X7_act d P 149 [some (4, (p0 : Int)), some (0, x1), some (0, x2), some (0, x3), some (4, (b5 : Int))] [] G R V19
        refine wp_p (i := (.ldc2_w 285)) rfl rfl (fun _ _ _ => rfl) (?_ : wpv K_X7_act d P 152 [some (4, (p0 : Int)), some (0, x1), some (0, x2), some (0, x3), some (4, (b5 : Int))] [(2, (-1))] G R V19)
        exact wp_rJ rfl rfl rfl w
      · have q : ¬ v20 = 0 := q
        replace w := w.2 q
        show wpv K_X7_act d P 128 [some (4, (p0 : Int)), some (0, x1), some (0, x2), some (0, x3), some (4, (b5 : Int))] [] G R V19
        refine wp_ld (i := (.aload_n 0)) (4, (p0 : Int)) rfl rfl (fun _ => rfl) rfl rfl (?_ : wpv K_X7_act d P 129 [some (4, (p0 : Int)), some (0, x1), some (0, x2), some (0, x3), some (4, (b5 : Int))] [(4, (p0 : Int))] G R V19)
        refine wp_getA (k := 6) rfl rfl rfl (ly7_o l0) rfl rfl r4 (?_ : wpv K_X7_act d P 132 [some (4, (p0 : Int)), some (0, x1), some (0, x2), some (0, x3), some (4, (b5 : Int))] [(4, (b4 : Int))] G R V19)
        refine wp_ld (i := (.iload_n 1)) (0, x1) rfl rfl (fun _ => rfl) rfl rfl (?_ : wpv K_X7_act d P 133 [some (4, (p0 : Int)), some (0, x1), some (0, x2), some (0, x3), some (4, (b5 : Int))] [(0, x1), (4, (b4 : Int))] G R V19)
        refine wp_ld (i := (.aload 4)) (4, (b5 : Int)) rfl rfl (fun _ => rfl) rfl rfl (?_ : wpv K_X7_act d P 135 [some (4, (p0 : Int)), some (0, x1), some (0, x2), some (0, x3), some (4, (b5 : Int))] [(4, (b5 : Int)), (0, x1), (4, (b4 : Int))] G R V19)
        refine wp_getA (k := 1) rfl rfl rfl (ly2_o l5_) rfl rfl (ly2_1 l5_).1 (?_ : wpv K_X7_act d P 138 [some (4, (p0 : Int)), some (0, x1), some (0, x2), some (0, x3), some (4, (b5 : Int))] [(4, ((b5 + 10 : Nat) : Int)), (0, x1), (4, (b4 : Int))] G R V19)
        refine wp_getA (k := 6) rfl rfl rfl (ly4_o (ly2_1 l5_).2) rfl rfl (ly4_6 (ly2_1 l5_).2).1 (?_ : wpv K_X7_act d P 141 [some (4, (p0 : Int)), some (0, x1), some (0, x2), some (0, x3), some (4, (b5 : Int))] [(4, ((b5 + 15 : Nat) : Int)), (0, x1), (4, (b4 : Int))] G R V19)
        refine wp_ld (i := (.iload_n 3)) (0, x3) rfl rfl (fun _ => rfl) rfl rfl (?_ : wpv K_X7_act d P 142 [some (4, (p0 : Int)), some (0, x1), some (0, x2), some (0, x3), some (4, (b5 : Int))] [(0, x3), (4, ((b5 + 15 : Nat) : Int)), (0, x1), (4, (b4 : Int))] G R V19)
        obtain ⟨s22, w⟩ := w
        refine wp_rng (fun vr23 => ?_)
        have f24 : i32 (V19 (b5 + 15) x3) := vr_a0 vr23 (ly4_6 (ly2_1 l5_).2).2 s22
        replace w := w f24
        refine wp_aI rfl rfl (ly4_6 (ly2_1 l5_).2).2 s22 (?_ : wpv K_X7_act d P 143 [some (4, (p0 : Int)), some (0, x1), some (0, x2), some (0, x3), some (4, (b5 : Int))] [(0, (V19 (b5 + 15) x3)), (0, x1), (4, (b4 : Int))] G R V19)
        refine wp_virt (as := [(0, x1), (0, (V19 (b5 + 15) x3))]) (a := b4) (st := []) _ rfl rfl rfl rfl rfl rfl (ly1_o l4_) (Nat.le_of_ble_eq_true rfl) (cwv_kJ w (fun v26 V25 w => ?_))
        show wpv K_X7_act d P 146 [some (4, (p0 : Int)), some (0, x1), some (0, x2), some (0, x3), some (4, (b5 : Int))] [(2, v26)] G R V25
        refine wp_go 152 rfl rfl rfl (?_ : wpv K_X7_act d P 152 [some (4, (p0 : Int)), some (0, x1), some (0, x2), some (0, x3), some (4, (b5 : Int))] [(2, v26)] G R V25)
        exact wp_rJ rfl rfl rfl w
    replace w := w.2
    have q5 : x2 = 5 := by omega
    replace w := w q5
    refine wp_tsw 5 153 rfl rfl s6 (by omega) (by omega) rfl rfl (?_ : wpv K_X7_act d P 153 [some (4, (p0 : Int)), some (0, x1), some (0, x2), some (0, x3), some (4, (b5 : Int))] [] G R V1)
    refine wp_ld (i := (.aload 4)) (4, (b5 : Int)) rfl rfl (fun _ => rfl) rfl rfl (?_ : wpv K_X7_act d P 155 [some (4, (p0 : Int)), some (0, x1), some (0, x2), some (0, x3), some (4, (b5 : Int))] [(4, (b5 : Int))] G R V1)
    refine wp_getA (k := 1) rfl rfl rfl (ly2_o l5_) rfl rfl (ly2_1 l5_).1 (?_ : wpv K_X7_act d P 158 [some (4, (p0 : Int)), some (0, x1), some (0, x2), some (0, x3), some (4, (b5 : Int))] [(4, ((b5 + 10 : Nat) : Int))] G R V1)
    refine wp_ld (i := (.iload_n 3)) (0, x3) rfl rfl (fun _ => rfl) rfl rfl (?_ : wpv K_X7_act d P 159 [some (4, (p0 : Int)), some (0, x1), some (0, x2), some (0, x3), some (4, (b5 : Int))] [(0, x3), (4, ((b5 + 10 : Nat) : Int))] G R V1)
    refine wp_virt (as := [(0, x3)]) (a := b5 + 10) (st := []) _ rfl rfl rfl rfl rfl rfl (ly4_o (ly2_1 l5_).2) (Nat.le_of_ble_eq_true rfl) (cwv_kI w (fun v28 V27 w => ?_))
    show wpv K_X7_act d P 162 [some (4, (p0 : Int)), some (0, x1), some (0, x2), some (0, x3), some (4, (b5 : Int))] [(0, v28)] G R V27
    obtain ⟨s29, w⟩ := w
    refine wp_if (c := .eq) 177 rfl rfl rfl s29 (fun q => ?_) (fun q => ?_)
    · have q : v28 = 0 := q
      replace w := w.1 q
      show wpv K_X7_act d P 177 [some (4, (p0 : Int)), some (0, x1), some (0, x2), some (0, x3), some (4, (b5 : Int))] [] G R V27
      refine wp_p (i := (.ldc2_w 285)) rfl rfl (fun _ _ _ => rfl) (?_ : wpv K_X7_act d P 180 [some (4, (p0 : Int)), some (0, x1), some (0, x2), some (0, x3), some (4, (b5 : Int))] [(2, (-1))] G R V27)
      exact wp_rJ rfl rfl rfl w
    · have q : ¬ v28 = 0 := q
      replace w := w.2 q
      show wpv K_X7_act d P 165 [some (4, (p0 : Int)), some (0, x1), some (0, x2), some (0, x3), some (4, (b5 : Int))] [] G R V27
      refine wp_ld (i := (.aload_n 0)) (4, (p0 : Int)) rfl rfl (fun _ => rfl) rfl rfl (?_ : wpv K_X7_act d P 166 [some (4, (p0 : Int)), some (0, x1), some (0, x2), some (0, x3), some (4, (b5 : Int))] [(4, (p0 : Int))] G R V27)
      refine wp_getA (k := 6) rfl rfl rfl (ly7_o l0) rfl rfl r4 (?_ : wpv K_X7_act d P 169 [some (4, (p0 : Int)), some (0, x1), some (0, x2), some (0, x3), some (4, (b5 : Int))] [(4, (b4 : Int))] G R V27)
      refine wp_ld (i := (.iload_n 1)) (0, x1) rfl rfl (fun _ => rfl) rfl rfl (?_ : wpv K_X7_act d P 170 [some (4, (p0 : Int)), some (0, x1), some (0, x2), some (0, x3), some (4, (b5 : Int))] [(0, x1), (4, (b4 : Int))] G R V27)
      refine wp_ld (i := (.iload_n 3)) (0, x3) rfl rfl (fun _ => rfl) rfl rfl (?_ : wpv K_X7_act d P 171 [some (4, (p0 : Int)), some (0, x1), some (0, x2), some (0, x3), some (4, (b5 : Int))] [(0, x3), (0, x1), (4, (b4 : Int))] G R V27)
      refine wp_virt (as := [(0, x1), (0, x3)]) (a := b4) (st := []) _ rfl rfl rfl rfl rfl rfl (ly1_o l4_) (Nat.le_of_ble_eq_true rfl) (cwv_kJ w (fun v31 V30 w => ?_))
      show wpv K_X7_act d P 174 [some (4, (p0 : Int)), some (0, x1), some (0, x2), some (0, x3), some (4, (b5 : Int))] [(2, v31)] G R V30
      refine wp_go 180 rfl rfl rfl (?_ : wpv K_X7_act d P 180 [some (4, (p0 : Int)), some (0, x1), some (0, x2), some (0, x3), some (4, (b5 : Int))] [(2, v31)] G R V30)
      exact wp_rJ rfl rfl rfl w
  · have q : v2 = 0 := Decidable.not_not.mp q
    replace w := w.2 q
    show wpv K_X7_act d P 8 [some (4, (p0 : Int)), some (0, x1), some (0, x2), some (0, x3)] [] G R V1
    refine wp_p (i := (.ldc2_w 285)) rfl rfl (fun _ _ _ => rfl) (?_ : wpv K_X7_act d P 11 [some (4, (p0 : Int)), some (0, x1), some (0, x2), some (0, x3)] [(2, (-1))] G R V1)
    exact wp_rJ rfl rfl rfl w
theorem t_X7_same_0 {d : Nat} {P : gP} {p0 : Nat} {x1 : Int} {x2 : Int} {G : List gS} {R V : gV} (l0 : lay7 G R p0) (w : cwv d (fun r V1 => ∃ v2 : Int, r = some (0, v2) ∧ ((i32 v2) ∧ (((v2 = 0) → cwv d (fun r V4 => ∃ v5 : Int, r = some (0, v5) ∧ P (some (0, v5)) V4) 138 [(4, (p0 : Int)), (0, (-2))] G R V1) ∧ ((¬ v2 = 0) → cwv d (fun r V6 => ∃ v7 : Int, r = some (0, v7) ∧ ((i32 v7) ∧ (((¬ v7 = 0) → (∃ b9 : Nat, (R p0 6 = (b9 : Int) ∧ lay1 G R b9) ∧ cwv d (fun r V10 => ∃ v11 : Int, r = some (0, v11) ∧ cwv d (fun r V12 => ∃ v13 : Int, r = some (0, v13) ∧ P (some (0, v13)) V12) 139 [(4, (p0 : Int)), (0, v11)] G R V10) 28 [(4, (b9 : Int)), (0, x1), (0, x2)] G R V6)) ∧ ((v7 = 0) → cwv d (fun r V14 => ∃ v15 : Int, r = some (0, v15) ∧ P (some (0, v15)) V14) 138 [(4, (p0 : Int)), (0, (-2))] G R V6)))) 142 [(4, (p0 : Int)), (0, x2)] G R V1)))) 142 [(4, (p0 : Int)), (0, x1)] G R V) : wpv K_X7_same d P 0 [some (4, (p0 : Int)), some (0, x1), some (0, x2)] [] G R V := by
  refine wp_ld (i := (.aload_n 0)) (4, (p0 : Int)) rfl rfl (fun _ => rfl) rfl rfl (?_ : wpv K_X7_same d P 1 [some (4, (p0 : Int)), some (0, x1), some (0, x2)] [(4, (p0 : Int))] G R V)
  refine wp_ld (i := (.iload_n 1)) (0, x1) rfl rfl (fun _ => rfl) rfl rfl (?_ : wpv K_X7_same d P 2 [some (4, (p0 : Int)), some (0, x1), some (0, x2)] [(0, x1), (4, (p0 : Int))] G R V)
  refine wp_virt (as := [(0, x1)]) (a := p0) (st := []) _ rfl rfl rfl rfl rfl rfl (ly7_o l0) (Nat.le_of_ble_eq_true rfl) (cwv_kI w (fun v2 V1 w => ?_))
  show wpv K_X7_same d P 5 [some (4, (p0 : Int)), some (0, x1), some (0, x2)] [(0, v2)] G R V1
  obtain ⟨s3, w⟩ := w
  refine wp_if (c := .eq) 16 rfl rfl rfl s3 (fun q => ?_) (fun q => ?_)
  · have q : v2 = 0 := q
    replace w := w.1 q
    show wpv K_X7_same d P 16 [some (4, (p0 : Int)), some (0, x1), some (0, x2)] [] G R V1
    refine wp_ld (i := (.aload_n 0)) (4, (p0 : Int)) rfl rfl (fun _ => rfl) rfl rfl (?_ : wpv K_X7_same d P 17 [some (4, (p0 : Int)), some (0, x1), some (0, x2)] [(4, (p0 : Int))] G R V1)
    refine wp_p (i := (.bipush (-2))) rfl rfl (fun _ _ _ => rfl) (?_ : wpv K_X7_same d P 19 [some (4, (p0 : Int)), some (0, x1), some (0, x2)] [(0, (-2)), (4, (p0 : Int))] G R V1)
    refine wp_virt (as := [(0, (-2))]) (a := p0) (st := []) _ rfl rfl rfl rfl rfl rfl (ly7_o l0) (Nat.le_of_ble_eq_true rfl) (cwv_kI w (fun v5 V4 w => ?_))
    show wpv K_X7_same d P 22 [some (4, (p0 : Int)), some (0, x1), some (0, x2)] [(0, v5)] G R V4
    exact wp_rI rfl rfl rfl w
  · have q : ¬ v2 = 0 := q
    replace w := w.2 q
    show wpv K_X7_same d P 8 [some (4, (p0 : Int)), some (0, x1), some (0, x2)] [] G R V1
    refine wp_ld (i := (.aload_n 0)) (4, (p0 : Int)) rfl rfl (fun _ => rfl) rfl rfl (?_ : wpv K_X7_same d P 9 [some (4, (p0 : Int)), some (0, x1), some (0, x2)] [(4, (p0 : Int))] G R V1)
    refine wp_ld (i := (.iload_n 2)) (0, x2) rfl rfl (fun _ => rfl) rfl rfl (?_ : wpv K_X7_same d P 10 [some (4, (p0 : Int)), some (0, x1), some (0, x2)] [(0, x2), (4, (p0 : Int))] G R V1)
    refine wp_virt (as := [(0, x2)]) (a := p0) (st := []) _ rfl rfl rfl rfl rfl rfl (ly7_o l0) (Nat.le_of_ble_eq_true rfl) (cwv_kI w (fun v7 V6 w => ?_))
    show wpv K_X7_same d P 13 [some (4, (p0 : Int)), some (0, x1), some (0, x2)] [(0, v7)] G R V6
    obtain ⟨s8, w⟩ := w
    refine wp_if (c := .ne) 23 rfl rfl rfl s8 (fun q => ?_) (fun q => ?_)
    · have q : ¬ v7 = 0 := q
      replace w := w.1 q
      show wpv K_X7_same d P 23 [some (4, (p0 : Int)), some (0, x1), some (0, x2)] [] G R V6
      refine wp_ld (i := (.aload_n 0)) (4, (p0 : Int)) rfl rfl (fun _ => rfl) rfl rfl (?_ : wpv K_X7_same d P 24 [some (4, (p0 : Int)), some (0, x1), some (0, x2)] [(4, (p0 : Int))] G R V6)
      refine wp_ld (i := (.aload_n 0)) (4, (p0 : Int)) rfl rfl (fun _ => rfl) rfl rfl (?_ : wpv K_X7_same d P 25 [some (4, (p0 : Int)), some (0, x1), some (0, x2)] [(4, (p0 : Int)), (4, (p0 : Int))] G R V6)
      obtain ⟨b9, ⟨r9, l9_⟩, w⟩ := w
      refine wp_getA (k := 6) rfl rfl rfl (ly7_o l0) rfl rfl r9 (?_ : wpv K_X7_same d P 28 [some (4, (p0 : Int)), some (0, x1), some (0, x2)] [(4, (b9 : Int)), (4, (p0 : Int))] G R V6)
      refine wp_ld (i := (.iload_n 1)) (0, x1) rfl rfl (fun _ => rfl) rfl rfl (?_ : wpv K_X7_same d P 29 [some (4, (p0 : Int)), some (0, x1), some (0, x2)] [(0, x1), (4, (b9 : Int)), (4, (p0 : Int))] G R V6)
      refine wp_ld (i := (.iload_n 2)) (0, x2) rfl rfl (fun _ => rfl) rfl rfl (?_ : wpv K_X7_same d P 30 [some (4, (p0 : Int)), some (0, x1), some (0, x2)] [(0, x2), (0, x1), (4, (b9 : Int)), (4, (p0 : Int))] G R V6)
      refine wp_virt (as := [(0, x1), (0, x2)]) (a := b9) (st := [(4, (p0 : Int))]) _ rfl rfl rfl rfl rfl rfl (ly1_o l9_) (Nat.le_of_ble_eq_true rfl) (cwv_kI w (fun v11 V10 w => ?_))
      show wpv K_X7_same d P 33 [some (4, (p0 : Int)), some (0, x1), some (0, x2)] [(0, v11), (4, (p0 : Int))] G R V10
      refine wp_virt (as := [(0, v11)]) (a := p0) (st := []) _ rfl rfl rfl rfl rfl rfl (ly7_o l0) (Nat.le_of_ble_eq_true rfl) (cwv_kI w (fun v13 V12 w => ?_))
      show wpv K_X7_same d P 36 [some (4, (p0 : Int)), some (0, x1), some (0, x2)] [(0, v13)] G R V12
      exact wp_rI rfl rfl rfl w
    · have q : v7 = 0 := Decidable.not_not.mp q
      replace w := w.2 q
      show wpv K_X7_same d P 16 [some (4, (p0 : Int)), some (0, x1), some (0, x2)] [] G R V6
      refine wp_ld (i := (.aload_n 0)) (4, (p0 : Int)) rfl rfl (fun _ => rfl) rfl rfl (?_ : wpv K_X7_same d P 17 [some (4, (p0 : Int)), some (0, x1), some (0, x2)] [(4, (p0 : Int))] G R V6)
      refine wp_p (i := (.bipush (-2))) rfl rfl (fun _ _ _ => rfl) (?_ : wpv K_X7_same d P 19 [some (4, (p0 : Int)), some (0, x1), some (0, x2)] [(0, (-2)), (4, (p0 : Int))] G R V6)
      refine wp_virt (as := [(0, (-2))]) (a := p0) (st := []) _ rfl rfl rfl rfl rfl rfl (ly7_o l0) (Nat.le_of_ble_eq_true rfl) (cwv_kI w (fun v15 V14 w => ?_))
      show wpv K_X7_same d P 22 [some (4, (p0 : Int)), some (0, x1), some (0, x2)] [(0, v15)] G R V14
      exact wp_rI rfl rfl rfl w
theorem t_X7_maps_0 {d : Nat} {P : gP} {p0 : Nat} {x1 : Int} {x2 : Int} {x3 : Int} {G : List gS} {R V : gV} (l0 : lay7 G R p0) (w : cwv d (fun r V1 => ∃ v2 : Int, r = some (0, v2) ∧ ((i32 v2) ∧ (((v2 = 0) → P (some (2, (-1))) V1) ∧ ((¬ v2 = 0) → cwv d (fun r V4 => ∃ v5 : Int, r = some (0, v5) ∧ ((i32 v5) ∧ (((v5 = 0) → P (some (2, (-1))) V4) ∧ ((¬ v5 = 0) → cwv d (fun r V7 => ∃ v8 : Int, r = some (0, v8) ∧ ((i32 v8) ∧ (((¬ v8 = 0) → ((i32 x3) ∧ (((¬ x3 = 0) → (∃ b11 : Nat, (R p0 6 = (b11 : Int) ∧ lay1 G R b11) ∧ cwv d (fun r V12 => ∃ v13 : Int, r = some (2, v13) ∧ ((i64 v13) ∧ (((¬ 1000000000000000 < v13) → P (some (2, v13)) V12) ∧ ((1000000000000000 < v13) → P (some (2, (-5))) V12)))) 30 [(4, (b11 : Int)), (0, x1), (0, x2)] G R V7)) ∧ ((x3 = 0) → (∃ b15 : Nat, (R p0 6 = (b15 : Int) ∧ lay1 G R b15) ∧ cwv d (fun r V16 => ∃ v17 : Int, r = some (2, v17) ∧ ((i64 v17) ∧ (((¬ 1000000000000000 < v17) → P (some (2, v17)) V16) ∧ ((1000000000000000 < v17) → P (some (2, (-5))) V16)))) 29 [(4, (b15 : Int)), (0, x1), (0, x2)] G R V7))))) ∧ ((v8 = 0) → P (some (2, (-1))) V7)))) 140 [(0, x3)] G R V4)))) 142 [(4, (p0 : Int)), (0, x2)] G R V1)))) 142 [(4, (p0 : Int)), (0, x1)] G R V) : wpv K_X7_maps d P 0 [some (4, (p0 : Int)), some (0, x1), some (0, x2), some (0, x3)] [] G R V := by
  refine wp_ld (i := (.aload_n 0)) (4, (p0 : Int)) rfl rfl (fun _ => rfl) rfl rfl (?_ : wpv K_X7_maps d P 1 [some (4, (p0 : Int)), some (0, x1), some (0, x2), some (0, x3)] [(4, (p0 : Int))] G R V)
  refine wp_ld (i := (.iload_n 1)) (0, x1) rfl rfl (fun _ => rfl) rfl rfl (?_ : wpv K_X7_maps d P 2 [some (4, (p0 : Int)), some (0, x1), some (0, x2), some (0, x3)] [(0, x1), (4, (p0 : Int))] G R V)
  refine wp_virt (as := [(0, x1)]) (a := p0) (st := []) _ rfl rfl rfl rfl rfl rfl (ly7_o l0) (Nat.le_of_ble_eq_true rfl) (cwv_kI w (fun v2 V1 w => ?_))
  show wpv K_X7_maps d P 5 [some (4, (p0 : Int)), some (0, x1), some (0, x2), some (0, x3)] [(0, v2)] G R V1
  obtain ⟨s3, w⟩ := w
  refine wp_if (c := .eq) 23 rfl rfl rfl s3 (fun q => ?_) (fun q => ?_)
  · have q : v2 = 0 := q
    replace w := w.1 q
    show wpv K_X7_maps d P 23 [some (4, (p0 : Int)), some (0, x1), some (0, x2), some (0, x3)] [] G R V1
    refine wp_p (i := (.ldc2_w 285)) rfl rfl (fun _ _ _ => rfl) (?_ : wpv K_X7_maps d P 26 [some (4, (p0 : Int)), some (0, x1), some (0, x2), some (0, x3)] [(2, (-1))] G R V1)
    exact wp_rJ rfl rfl rfl w
  · have q : ¬ v2 = 0 := q
    replace w := w.2 q
    show wpv K_X7_maps d P 8 [some (4, (p0 : Int)), some (0, x1), some (0, x2), some (0, x3)] [] G R V1
    refine wp_ld (i := (.aload_n 0)) (4, (p0 : Int)) rfl rfl (fun _ => rfl) rfl rfl (?_ : wpv K_X7_maps d P 9 [some (4, (p0 : Int)), some (0, x1), some (0, x2), some (0, x3)] [(4, (p0 : Int))] G R V1)
    refine wp_ld (i := (.iload_n 2)) (0, x2) rfl rfl (fun _ => rfl) rfl rfl (?_ : wpv K_X7_maps d P 10 [some (4, (p0 : Int)), some (0, x1), some (0, x2), some (0, x3)] [(0, x2), (4, (p0 : Int))] G R V1)
    refine wp_virt (as := [(0, x2)]) (a := p0) (st := []) _ rfl rfl rfl rfl rfl rfl (ly7_o l0) (Nat.le_of_ble_eq_true rfl) (cwv_kI w (fun v5 V4 w => ?_))
    show wpv K_X7_maps d P 13 [some (4, (p0 : Int)), some (0, x1), some (0, x2), some (0, x3)] [(0, v5)] G R V4
    obtain ⟨s6, w⟩ := w
    refine wp_if (c := .eq) 23 rfl rfl rfl s6 (fun q => ?_) (fun q => ?_)
    · have q : v5 = 0 := q
      replace w := w.1 q
      show wpv K_X7_maps d P 23 [some (4, (p0 : Int)), some (0, x1), some (0, x2), some (0, x3)] [] G R V4
      refine wp_p (i := (.ldc2_w 285)) rfl rfl (fun _ _ _ => rfl) (?_ : wpv K_X7_maps d P 26 [some (4, (p0 : Int)), some (0, x1), some (0, x2), some (0, x3)] [(2, (-1))] G R V4)
      exact wp_rJ rfl rfl rfl w
    · have q : ¬ v5 = 0 := q
      replace w := w.2 q
      show wpv K_X7_maps d P 16 [some (4, (p0 : Int)), some (0, x1), some (0, x2), some (0, x3)] [] G R V4
      refine wp_ld (i := (.iload_n 3)) (0, x3) rfl rfl (fun _ => rfl) rfl rfl (?_ : wpv K_X7_maps d P 17 [some (4, (p0 : Int)), some (0, x1), some (0, x2), some (0, x3)] [(0, x3)] G R V4)
      refine wp_stat (as := [(0, x3)]) (st := []) _ rfl rfl rfl (by omega) rfl rfl (Nat.le_of_ble_eq_true rfl) (cwv_kI w (fun v8 V7 w => ?_))
      show wpv K_X7_maps d P 20 [some (4, (p0 : Int)), some (0, x1), some (0, x2), some (0, x3)] [(0, v8)] G R V7
      obtain ⟨s9, w⟩ := w
      refine wp_if (c := .ne) 27 rfl rfl rfl s9 (fun q => ?_) (fun q => ?_)
      · have q : ¬ v8 = 0 := q
        replace w := w.1 q
        show wpv K_X7_maps d P 27 [some (4, (p0 : Int)), some (0, x1), some (0, x2), some (0, x3)] [] G R V7
        refine wp_ld (i := (.iload_n 3)) (0, x3) rfl rfl (fun _ => rfl) rfl rfl (?_ : wpv K_X7_maps d P 28 [some (4, (p0 : Int)), some (0, x1), some (0, x2), some (0, x3)] [(0, x3)] G R V7)
        obtain ⟨s10, w⟩ := w
        refine wp_if (c := .ne) 43 rfl rfl rfl s10 (fun q => ?_) (fun q => ?_)
        · have q : ¬ x3 = 0 := q
          replace w := w.1 q
          show wpv K_X7_maps d P 43 [some (4, (p0 : Int)), some (0, x1), some (0, x2), some (0, x3)] [] G R V7
          refine wp_ld (i := (.aload_n 0)) (4, (p0 : Int)) rfl rfl (fun _ => rfl) rfl rfl (?_ : wpv K_X7_maps d P 44 [some (4, (p0 : Int)), some (0, x1), some (0, x2), some (0, x3)] [(4, (p0 : Int))] G R V7)
          obtain ⟨b11, ⟨r11, l11_⟩, w⟩ := w
          refine wp_getA (k := 6) rfl rfl rfl (ly7_o l0) rfl rfl r11 (?_ : wpv K_X7_maps d P 47 [some (4, (p0 : Int)), some (0, x1), some (0, x2), some (0, x3)] [(4, (b11 : Int))] G R V7)
          refine wp_ld (i := (.iload_n 1)) (0, x1) rfl rfl (fun _ => rfl) rfl rfl (?_ : wpv K_X7_maps d P 48 [some (4, (p0 : Int)), some (0, x1), some (0, x2), some (0, x3)] [(0, x1), (4, (b11 : Int))] G R V7)
          refine wp_ld (i := (.iload_n 2)) (0, x2) rfl rfl (fun _ => rfl) rfl rfl (?_ : wpv K_X7_maps d P 49 [some (4, (p0 : Int)), some (0, x1), some (0, x2), some (0, x3)] [(0, x2), (0, x1), (4, (b11 : Int))] G R V7)
          refine wp_virt (as := [(0, x1), (0, x2)]) (a := b11) (st := []) _ rfl rfl rfl rfl rfl rfl (ly1_o l11_) (Nat.le_of_ble_eq_true rfl) (cwv_kJ w (fun v13 V12 w => ?_))
          show wpv K_X7_maps d P 52 [some (4, (p0 : Int)), some (0, x1), some (0, x2), some (0, x3)] [(2, v13)] G R V12
          refine wp_lsto (i := (.lstore 4)) _ rfl rfl (fun _ => rfl) rfl rfl rfl ?_
          refine wp_wk (L' := [some (4, (p0 : Int)), some (0, x1), some (0, x2), some (0, x3), some (2, v13)]) (wk_s (wk_s (wk_s (wk_s (wk_s wk_0))))) ?_
          show wpv K_X7_maps d P 54 [some (4, (p0 : Int)), some (0, x1), some (0, x2), some (0, x3), some (2, v13)] [] G R V12
          refine wp_ld (i := (.lload 4)) (2, v13) rfl rfl (fun _ => rfl) rfl rfl (?_ : wpv K_X7_maps d P 56 [some (4, (p0 : Int)), some (0, x1), some (0, x2), some (0, x3), some (2, v13)] [(2, v13)] G R V12)
          refine wp_p (i := (.ldc2_w 258)) rfl rfl (fun _ _ _ => rfl) (?_ : wpv K_X7_maps d P 59 [some (4, (p0 : Int)), some (0, x1), some (0, x2), some (0, x3), some (2, v13)] [(2, 1000000000000000), (2, v13)] G R V12)
          obtain ⟨s14, w⟩ := w
          refine wp_lcmp rfl rfl s14 ⟨by omega, by omega⟩ (?_ : wpv K_X7_maps d P 60 [some (4, (p0 : Int)), some (0, x1), some (0, x2), some (0, x3), some (2, v13)] [(0, sg v13 1000000000000000)] G R V12)
          refine wp_if (c := .le) 69 rfl rfl rfl (sg32 _ _) (fun q => ?_) (fun q => ?_)
          · have q : ¬ 1000000000000000 < v13 := fun z => q (sg_gt.mpr z)
            replace w := w.1 q
            show wpv K_X7_maps d P 69 [some (4, (p0 : Int)), some (0, x1), some (0, x2), some (0, x3), some (2, v13)] [] G R V12
            refine wp_ld (i := (.lload 4)) (2, v13) rfl rfl (fun _ => rfl) rfl rfl (?_ : wpv K_X7_maps d P 71 [some (4, (p0 : Int)), some (0, x1), some (0, x2), some (0, x3), some (2, v13)] [(2, v13)] G R V12)
            exact wp_rJ rfl rfl rfl w
          · have q : 1000000000000000 < v13 := sg_gt.mp (Decidable.not_not.mp q)
            replace w := w.2 q
            show wpv K_X7_maps d P 63 [some (4, (p0 : Int)), some (0, x1), some (0, x2), some (0, x3), some (2, v13)] [] G R V12
            refine wp_p (i := (.ldc2_w 311)) rfl rfl (fun _ _ _ => rfl) (?_ : wpv K_X7_maps d P 66 [some (4, (p0 : Int)), some (0, x1), some (0, x2), some (0, x3), some (2, v13)] [(2, (-5))] G R V12)
            refine wp_go 71 rfl rfl rfl (?_ : wpv K_X7_maps d P 71 [some (4, (p0 : Int)), some (0, x1), some (0, x2), some (0, x3), some (2, v13)] [(2, (-5))] G R V12)
            exact wp_rJ rfl rfl rfl w
        · have q : x3 = 0 := Decidable.not_not.mp q
          replace w := w.2 q
          show wpv K_X7_maps d P 31 [some (4, (p0 : Int)), some (0, x1), some (0, x2), some (0, x3)] [] G R V7
          refine wp_ld (i := (.aload_n 0)) (4, (p0 : Int)) rfl rfl (fun _ => rfl) rfl rfl (?_ : wpv K_X7_maps d P 32 [some (4, (p0 : Int)), some (0, x1), some (0, x2), some (0, x3)] [(4, (p0 : Int))] G R V7)
          obtain ⟨b15, ⟨r15, l15_⟩, w⟩ := w
          refine wp_getA (k := 6) rfl rfl rfl (ly7_o l0) rfl rfl r15 (?_ : wpv K_X7_maps d P 35 [some (4, (p0 : Int)), some (0, x1), some (0, x2), some (0, x3)] [(4, (b15 : Int))] G R V7)
          refine wp_ld (i := (.iload_n 1)) (0, x1) rfl rfl (fun _ => rfl) rfl rfl (?_ : wpv K_X7_maps d P 36 [some (4, (p0 : Int)), some (0, x1), some (0, x2), some (0, x3)] [(0, x1), (4, (b15 : Int))] G R V7)
          refine wp_ld (i := (.iload_n 2)) (0, x2) rfl rfl (fun _ => rfl) rfl rfl (?_ : wpv K_X7_maps d P 37 [some (4, (p0 : Int)), some (0, x1), some (0, x2), some (0, x3)] [(0, x2), (0, x1), (4, (b15 : Int))] G R V7)
          refine wp_virt (as := [(0, x1), (0, x2)]) (a := b15) (st := []) _ rfl rfl rfl rfl rfl rfl (ly1_o l15_) (Nat.le_of_ble_eq_true rfl) (cwv_kJ w (fun v17 V16 w => ?_))
          show wpv K_X7_maps d P 40 [some (4, (p0 : Int)), some (0, x1), some (0, x2), some (0, x3)] [(2, v17)] G R V16
          refine wp_go 52 rfl rfl rfl (?_ : wpv K_X7_maps d P 52 [some (4, (p0 : Int)), some (0, x1), some (0, x2), some (0, x3)] [(2, v17)] G R V16)
          refine wp_lsto (i := (.lstore 4)) _ rfl rfl (fun _ => rfl) rfl rfl rfl ?_
          refine wp_wk (L' := [some (4, (p0 : Int)), some (0, x1), some (0, x2), some (0, x3), some (2, v17)]) (wk_s (wk_s (wk_s (wk_s (wk_s wk_0))))) ?_
          show wpv K_X7_maps d P 54 [some (4, (p0 : Int)), some (0, x1), some (0, x2), some (0, x3), some (2, v17)] [] G R V16
          refine wp_ld (i := (.lload 4)) (2, v17) rfl rfl (fun _ => rfl) rfl rfl (?_ : wpv K_X7_maps d P 56 [some (4, (p0 : Int)), some (0, x1), some (0, x2), some (0, x3), some (2, v17)] [(2, v17)] G R V16)
          refine wp_p (i := (.ldc2_w 258)) rfl rfl (fun _ _ _ => rfl) (?_ : wpv K_X7_maps d P 59 [some (4, (p0 : Int)), some (0, x1), some (0, x2), some (0, x3), some (2, v17)] [(2, 1000000000000000), (2, v17)] G R V16)
          obtain ⟨s18, w⟩ := w
          refine wp_lcmp rfl rfl s18 ⟨by omega, by omega⟩ (?_ : wpv K_X7_maps d P 60 [some (4, (p0 : Int)), some (0, x1), some (0, x2), some (0, x3), some (2, v17)] [(0, sg v17 1000000000000000)] G R V16)
          refine wp_if (c := .le) 69 rfl rfl rfl (sg32 _ _) (fun q => ?_) (fun q => ?_)
          · have q : ¬ 1000000000000000 < v17 := fun z => q (sg_gt.mpr z)
            replace w := w.1 q
            show wpv K_X7_maps d P 69 [some (4, (p0 : Int)), some (0, x1), some (0, x2), some (0, x3), some (2, v17)] [] G R V16
            refine wp_ld (i := (.lload 4)) (2, v17) rfl rfl (fun _ => rfl) rfl rfl (?_ : wpv K_X7_maps d P 71 [some (4, (p0 : Int)), some (0, x1), some (0, x2), some (0, x3), some (2, v17)] [(2, v17)] G R V16)
            exact wp_rJ rfl rfl rfl w
          · have q : 1000000000000000 < v17 := sg_gt.mp (Decidable.not_not.mp q)
            replace w := w.2 q
            show wpv K_X7_maps d P 63 [some (4, (p0 : Int)), some (0, x1), some (0, x2), some (0, x3), some (2, v17)] [] G R V16
            refine wp_p (i := (.ldc2_w 311)) rfl rfl (fun _ _ _ => rfl) (?_ : wpv K_X7_maps d P 66 [some (4, (p0 : Int)), some (0, x1), some (0, x2), some (0, x3), some (2, v17)] [(2, (-5))] G R V16)
            refine wp_go 71 rfl rfl rfl (?_ : wpv K_X7_maps d P 71 [some (4, (p0 : Int)), some (0, x1), some (0, x2), some (0, x3), some (2, v17)] [(2, (-5))] G R V16)
            exact wp_rJ rfl rfl rfl w
      · have q : v8 = 0 := Decidable.not_not.mp q
        replace w := w.2 q
        show wpv K_X7_maps d P 23 [some (4, (p0 : Int)), some (0, x1), some (0, x2), some (0, x3)] [] G R V7
        refine wp_p (i := (.ldc2_w 285)) rfl rfl (fun _ _ _ => rfl) (?_ : wpv K_X7_maps d P 26 [some (4, (p0 : Int)), some (0, x1), some (0, x2), some (0, x3)] [(2, (-1))] G R V7)
        exact wp_rJ rfl rfl rfl w
theorem t_X7_row_0 {d : Nat} {P : gP} {p0 : Nat} {x1 : Int} {G : List gS} {R V : gV} (l0 : lay7 G R p0) (w : ((i64 x1) ∧ (((x1 < (-1000000000000)) → cwv d (fun r V2 => ∃ v3 : Int, r = some (0, v3) ∧ P (some (0, v3)) V2) 138 [(4, (p0 : Int)), (0, (-1))] G R V) ∧ ((¬ x1 < (-1000000000000)) → (((¬ 1000000000000 < x1) → (∃ b4 : Nat, (R p0 6 = (b4 : Int) ∧ lay1 G R b4) ∧ ((i32 (V b4 3)) → (∃ b7 : Nat, (R b4 0 = (b7 : Int) ∧ lay2 G R b7) ∧ ((i32 (V (b7 + 10) 1)) → ((((V b4 3) < (V (b7 + 10) 1)) → ((0 ≤ (V b4 3) ∧ (V b4 3) < 300) ∧ ((i32 ((V b4 3) + 1)) ∧ cwv d (fun r V15 => ∃ v16 : Int, r = some (0, v16) ∧ P (some (0, v16)) V15) 139 [(4, (p0 : Int)), (0, ((V b4 3) + 1))] G R (wr (wr V (b4 + 2) ((V b4 3)) x1) b4 3 (((V b4 3) + 1)))))) ∧ ((¬ (V b4 3) < (V (b7 + 10) 1)) → cwv d (fun r V17 => ∃ v18 : Int, r = some (0, v18) ∧ P (some (0, v18)) V17) 138 [(4, (p0 : Int)), (0, (-5))] G R V))))))) ∧ ((1000000000000 < x1) → cwv d (fun r V19 => ∃ v20 : Int, r = some (0, v20) ∧ P (some (0, v20)) V19) 138 [(4, (p0 : Int)), (0, (-1))] G R V)))))) : wpv K_X7_row d P 0 [some (4, (p0 : Int)), some (2, x1)] [] G R V := by
  refine wp_ld (i := (.lload_n 1)) (2, x1) rfl rfl (fun _ => rfl) rfl rfl (?_ : wpv K_X7_row d P 1 [some (4, (p0 : Int)), some (2, x1)] [(2, x1)] G R V)
  refine wp_p (i := (.ldc2_w 313)) rfl rfl (fun _ _ _ => rfl) (?_ : wpv K_X7_row d P 4 [some (4, (p0 : Int)), some (2, x1)] [(2, (-1000000000000)), (2, x1)] G R V)
  obtain ⟨s1, w⟩ := w
  refine wp_lcmp rfl rfl s1 ⟨by omega, by omega⟩ (?_ : wpv K_X7_row d P 5 [some (4, (p0 : Int)), some (2, x1)] [(0, sg x1 ((-1000000000000)))] G R V)
  refine wp_if (c := .lt) 16 rfl rfl rfl (sg32 _ _) (fun q => ?_) (fun q => ?_)
  · have q : x1 < (-1000000000000) := sg_lt.mp q
    replace w := w.1 q
    show wpv K_X7_row d P 16 [some (4, (p0 : Int)), some (2, x1)] [] G R V
    refine wp_ld (i := (.aload_n 0)) (4, (p0 : Int)) rfl rfl (fun _ => rfl) rfl rfl (?_ : wpv K_X7_row d P 17 [some (4, (p0 : Int)), some (2, x1)] [(4, (p0 : Int))] G R V)
    refine wp_p (i := (.iconst (-1))) rfl rfl (fun _ _ _ => rfl) (?_ : wpv K_X7_row d P 18 [some (4, (p0 : Int)), some (2, x1)] [(0, (-1)), (4, (p0 : Int))] G R V)
    refine wp_virt (as := [(0, (-1))]) (a := p0) (st := []) _ rfl rfl rfl rfl rfl rfl (ly7_o l0) (Nat.le_of_ble_eq_true rfl) (cwv_kI w (fun v3 V2 w => ?_))
    show wpv K_X7_row d P 21 [some (4, (p0 : Int)), some (2, x1)] [(0, v3)] G R V2
    exact wp_rI rfl rfl rfl w
  · have q : ¬ x1 < (-1000000000000) := fun z => q (sg_lt.mpr z)
    replace w := w.2 q
    show wpv K_X7_row d P 8 [some (4, (p0 : Int)), some (2, x1)] [] G R V
    refine wp_ld (i := (.lload_n 1)) (2, x1) rfl rfl (fun _ => rfl) rfl rfl (?_ : wpv K_X7_row d P 9 [some (4, (p0 : Int)), some (2, x1)] [(2, x1)] G R V)
    refine wp_p (i := (.ldc2_w 315)) rfl rfl (fun _ _ _ => rfl) (?_ : wpv K_X7_row d P 12 [some (4, (p0 : Int)), some (2, x1)] [(2, 1000000000000), (2, x1)] G R V)
    refine wp_lcmp rfl rfl s1 ⟨by omega, by omega⟩ (?_ : wpv K_X7_row d P 13 [some (4, (p0 : Int)), some (2, x1)] [(0, sg x1 1000000000000)] G R V)
    refine wp_if (c := .le) 22 rfl rfl rfl (sg32 _ _) (fun q => ?_) (fun q => ?_)
    · have q : ¬ 1000000000000 < x1 := fun z => q (sg_gt.mpr z)
      replace w := w.1 q
      show wpv K_X7_row d P 22 [some (4, (p0 : Int)), some (2, x1)] [] G R V
      refine wp_ld (i := (.aload_n 0)) (4, (p0 : Int)) rfl rfl (fun _ => rfl) rfl rfl (?_ : wpv K_X7_row d P 23 [some (4, (p0 : Int)), some (2, x1)] [(4, (p0 : Int))] G R V)
      obtain ⟨b4, ⟨r4, l4_⟩, w⟩ := w
      refine wp_getA (k := 6) rfl rfl rfl (ly7_o l0) rfl rfl r4 (?_ : wpv K_X7_row d P 26 [some (4, (p0 : Int)), some (2, x1)] [(4, (b4 : Int))] G R V)
      refine wp_rng (fun vr5 => ?_)
      have f6 : i32 (V b4 3) := vr_f0 vr5 (ly1_o l4_) rfl rfl
      replace w := w f6
      refine wp_getI (k := 3) rfl rfl rfl (ly1_o l4_) rfl rfl (?_ : wpv K_X7_row d P 29 [some (4, (p0 : Int)), some (2, x1)] [(0, (V b4 3))] G R V)
      refine wp_ld (i := (.aload_n 0)) (4, (p0 : Int)) rfl rfl (fun _ => rfl) rfl rfl (?_ : wpv K_X7_row d P 30 [some (4, (p0 : Int)), some (2, x1)] [(4, (p0 : Int)), (0, (V b4 3))] G R V)
      refine wp_getA (k := 6) rfl rfl rfl (ly7_o l0) rfl rfl r4 (?_ : wpv K_X7_row d P 33 [some (4, (p0 : Int)), some (2, x1)] [(4, (b4 : Int)), (0, (V b4 3))] G R V)
      obtain ⟨b7, ⟨r7, l7_⟩, w⟩ := w
      refine wp_getA (k := 0) rfl rfl rfl (ly1_o l4_) rfl rfl r7 (?_ : wpv K_X7_row d P 36 [some (4, (p0 : Int)), some (2, x1)] [(4, (b7 : Int)), (0, (V b4 3))] G R V)
      refine wp_getA (k := 1) rfl rfl rfl (ly2_o l7_) rfl rfl (ly2_1 l7_).1 (?_ : wpv K_X7_row d P 39 [some (4, (p0 : Int)), some (2, x1)] [(4, ((b7 + 10 : Nat) : Int)), (0, (V b4 3))] G R V)
      have f8 : i32 (V (b7 + 10) 1) := vr_f0 vr5 (ly4_o (ly2_1 l7_).2) rfl rfl
      replace w := w f8
      refine wp_getI (k := 1) rfl rfl rfl (ly4_o (ly2_1 l7_).2) rfl rfl (?_ : wpv K_X7_row d P 42 [some (4, (p0 : Int)), some (2, x1)] [(0, (V (b7 + 10) 1)), (0, (V b4 3))] G R V)
      refine wp_icmp (c := .lt) 52 rfl rfl rfl f6 f8 (fun q => ?_) (fun q => ?_)
      · have q : (V b4 3) < (V (b7 + 10) 1) := q
        replace w := w.1 q
        show wpv K_X7_row d P 52 [some (4, (p0 : Int)), some (2, x1)] [] G R V
        refine wp_ld (i := (.aload_n 0)) (4, (p0 : Int)) rfl rfl (fun _ => rfl) rfl rfl (?_ : wpv K_X7_row d P 53 [some (4, (p0 : Int)), some (2, x1)] [(4, (p0 : Int))] G R V)
        refine wp_getA (k := 6) rfl rfl rfl (ly7_o l0) rfl rfl r4 (?_ : wpv K_X7_row d P 56 [some (4, (p0 : Int)), some (2, x1)] [(4, (b4 : Int))] G R V)
        refine wp_getA (k := 2) rfl rfl rfl (ly1_o l4_) rfl rfl (ly1_2 l4_).1 (?_ : wpv K_X7_row d P 59 [some (4, (p0 : Int)), some (2, x1)] [(4, ((b4 + 2 : Nat) : Int))] G R V)
        refine wp_ld (i := (.aload_n 0)) (4, (p0 : Int)) rfl rfl (fun _ => rfl) rfl rfl (?_ : wpv K_X7_row d P 60 [some (4, (p0 : Int)), some (2, x1)] [(4, (p0 : Int)), (4, ((b4 + 2 : Nat) : Int))] G R V)
        refine wp_getA (k := 6) rfl rfl rfl (ly7_o l0) rfl rfl r4 (?_ : wpv K_X7_row d P 63 [some (4, (p0 : Int)), some (2, x1)] [(4, (b4 : Int)), (4, ((b4 + 2 : Nat) : Int))] G R V)
        refine wp_getI (k := 3) rfl rfl rfl (ly1_o l4_) rfl rfl (?_ : wpv K_X7_row d P 66 [some (4, (p0 : Int)), some (2, x1)] [(0, (V b4 3)), (4, ((b4 + 2 : Nat) : Int))] G R V)
        refine wp_ld (i := (.lload_n 1)) (2, x1) rfl rfl (fun _ => rfl) rfl rfl (?_ : wpv K_X7_row d P 67 [some (4, (p0 : Int)), some (2, x1)] [(2, x1), (0, (V b4 3)), (4, ((b4 + 2 : Nat) : Int))] G R V)
        obtain ⟨s9, w⟩ := w
        refine wp_sJ rfl rfl (ly1_2 l4_).2 s9 s1 (?_ : wpv K_X7_row d P 68 [some (4, (p0 : Int)), some (2, x1)] [] G R (wr V (b4 + 2) ((V b4 3)) x1))
        refine wp_ld (i := (.aload_n 0)) (4, (p0 : Int)) rfl rfl (fun _ => rfl) rfl rfl (?_ : wpv K_X7_row d P 69 [some (4, (p0 : Int)), some (2, x1)] [(4, (p0 : Int))] G R (wr V (b4 + 2) ((V b4 3)) x1))
        refine wp_getA (k := 6) rfl rfl rfl (ly7_o l0) rfl rfl r4 (?_ : wpv K_X7_row d P 72 [some (4, (p0 : Int)), some (2, x1)] [(4, (b4 : Int))] G R (wr V (b4 + 2) ((V b4 3)) x1))
        refine wp_p (i := .dup) rfl rfl (fun _ _ _ => rfl) (?_ : wpv K_X7_row d P 73 [some (4, (p0 : Int)), some (2, x1)] [(4, (b4 : Int)), (4, (b4 : Int))] G R (wr V (b4 + 2) ((V b4 3)) x1))
        refine wp_rng (fun vr10 => ?_)
        have r11 : ((wr V (b4 + 2) ((V b4 3)) x1) b4 3) = (V b4 3) := (wr_a (by omega))
        refine wp_getIe (k := 3) rfl rfl rfl (ly1_o l4_) rfl rfl r11 (?_ : wpv K_X7_row d P 76 [some (4, (p0 : Int)), some (2, x1)] [(0, (V b4 3)), (4, (b4 : Int))] G R (wr V (b4 + 2) ((V b4 3)) x1))
        refine wp_p (i := (.iconst 1)) rfl rfl (fun _ _ _ => rfl) (?_ : wpv K_X7_row d P 77 [some (4, (p0 : Int)), some (2, x1)] [(0, 1), (0, (V b4 3)), (4, (b4 : Int))] G R (wr V (b4 + 2) ((V b4 3)) x1))
        obtain ⟨s12, w⟩ := w
        refine wp_xadd rfl rfl s12 (?_ : wpv K_X7_row d P 78 [some (4, (p0 : Int)), some (2, x1)] [(0, ((V b4 3) + 1)), (4, (b4 : Int))] G R (wr V (b4 + 2) ((V b4 3)) x1))
        refine wp_putI (k := 3) rfl rfl rfl (ly1_o l4_) rfl rfl rfl s12 (?_ : wpv K_X7_row d P 81 [some (4, (p0 : Int)), some (2, x1)] [] G R (wr (wr V (b4 + 2) ((V b4 3)) x1) b4 3 (((V b4 3) + 1))))
        refine wp_ld (i := (.aload_n 0)) (4, (p0 : Int)) rfl rfl (fun _ => rfl) rfl rfl (?_ : wpv K_X7_row d P 82 [some (4, (p0 : Int)), some (2, x1)] [(4, (p0 : Int))] G R (wr (wr V (b4 + 2) ((V b4 3)) x1) b4 3 (((V b4 3) + 1))))
        refine wp_ld (i := (.aload_n 0)) (4, (p0 : Int)) rfl rfl (fun _ => rfl) rfl rfl (?_ : wpv K_X7_row d P 83 [some (4, (p0 : Int)), some (2, x1)] [(4, (p0 : Int)), (4, (p0 : Int))] G R (wr (wr V (b4 + 2) ((V b4 3)) x1) b4 3 (((V b4 3) + 1))))
        refine wp_getA (k := 6) rfl rfl rfl (ly7_o l0) rfl rfl r4 (?_ : wpv K_X7_row d P 86 [some (4, (p0 : Int)), some (2, x1)] [(4, (b4 : Int)), (4, (p0 : Int))] G R (wr (wr V (b4 + 2) ((V b4 3)) x1) b4 3 (((V b4 3) + 1))))
        refine wp_rng (fun vr13 => ?_)
        have r14 : ((wr (wr V (b4 + 2) ((V b4 3)) x1) b4 3 (((V b4 3) + 1))) b4 3) = ((V b4 3) + 1) := (wr_same _ _ _ _)
        refine wp_getIe (k := 3) rfl rfl rfl (ly1_o l4_) rfl rfl r14 (?_ : wpv K_X7_row d P 89 [some (4, (p0 : Int)), some (2, x1)] [(0, ((V b4 3) + 1)), (4, (p0 : Int))] G R (wr (wr V (b4 + 2) ((V b4 3)) x1) b4 3 (((V b4 3) + 1))))
        refine wp_virt (as := [(0, ((V b4 3) + 1))]) (a := p0) (st := []) _ rfl rfl rfl rfl rfl rfl (ly7_o l0) (Nat.le_of_ble_eq_true rfl) (cwv_kI w (fun v16 V15 w => ?_))
        show wpv K_X7_row d P 92 [some (4, (p0 : Int)), some (2, x1)] [(0, v16)] G R V15
        exact wp_rI rfl rfl rfl w
      · have q : ¬ (V b4 3) < (V (b7 + 10) 1) := q
        replace w := w.2 q
        show wpv K_X7_row d P 45 [some (4, (p0 : Int)), some (2, x1)] [] G R V
        refine wp_ld (i := (.aload_n 0)) (4, (p0 : Int)) rfl rfl (fun _ => rfl) rfl rfl (?_ : wpv K_X7_row d P 46 [some (4, (p0 : Int)), some (2, x1)] [(4, (p0 : Int))] G R V)
        refine wp_p (i := (.bipush (-5))) rfl rfl (fun _ _ _ => rfl) (?_ : wpv K_X7_row d P 48 [some (4, (p0 : Int)), some (2, x1)] [(0, (-5)), (4, (p0 : Int))] G R V)
        refine wp_virt (as := [(0, (-5))]) (a := p0) (st := []) _ rfl rfl rfl rfl rfl rfl (ly7_o l0) (Nat.le_of_ble_eq_true rfl) (cwv_kI w (fun v18 V17 w => ?_))
        show wpv K_X7_row d P 51 [some (4, (p0 : Int)), some (2, x1)] [(0, v18)] G R V17
        exact wp_rI rfl rfl rfl w
    · have q : 1000000000000 < x1 := sg_gt.mp (Decidable.not_not.mp q)
      replace w := w.2 q
      show wpv K_X7_row d P 16 [some (4, (p0 : Int)), some (2, x1)] [] G R V
      refine wp_ld (i := (.aload_n 0)) (4, (p0 : Int)) rfl rfl (fun _ => rfl) rfl rfl (?_ : wpv K_X7_row d P 17 [some (4, (p0 : Int)), some (2, x1)] [(4, (p0 : Int))] G R V)
      refine wp_p (i := (.iconst (-1))) rfl rfl (fun _ _ _ => rfl) (?_ : wpv K_X7_row d P 18 [some (4, (p0 : Int)), some (2, x1)] [(0, (-1)), (4, (p0 : Int))] G R V)
      refine wp_virt (as := [(0, (-1))]) (a := p0) (st := []) _ rfl rfl rfl rfl rfl rfl (ly7_o l0) (Nat.le_of_ble_eq_true rfl) (cwv_kI w (fun v20 V19 w => ?_))
      show wpv K_X7_row d P 21 [some (4, (p0 : Int)), some (2, x1)] [(0, v20)] G R V19
      exact wp_rI rfl rfl rfl w
theorem t_X7_check_0 {d : Nat} {P : gP} {p0 : Nat} {x1 : Int} {G : List gS} {R V : gV} (l0 : lay7 G R p0) (w : (∃ b1 : Nat, (R p0 6 = (b1 : Int) ∧ lay1 G R b1) ∧ (∃ b2 : Nat, (R b1 0 = (b2 : Int) ∧ lay2 G R b2) ∧ ((i32 (V b1 3)) → ((i32 (V (b2 + 10) 1)) → ((((V b1 3) = (V (b2 + 10) 1)) → cwv d (fun r V6 => ∃ v7 : Int, r = some (0, v7) ∧ ((i32 v7) ∧ (((v7 = (-1)) → ((i32 ((wr V6 p0 8 v7) (b2 + 10) 1)) → cwv d (fun r V12 => ∃ v13 : Int, r = some (0, v13) ∧ ((i32 v13) ∧ (((v13 = (-1)) → cwv d (fun r V17 => ∃ v18 : Int, r = some (0, v18) ∧ ((i32 v18) ∧ (((v18 = 0) → cwv d (fun r V20 => ∃ v21 : Int, r = some (0, v21) ∧ P (some (0, v21)) V20) 139 [(4, (p0 : Int)), (0, 2)] G R V17) ∧ ((¬ v18 = 0) → cwv d (fun r V22 => r = none ∧ cwv d (fun r V23 => ∃ v24 : Int, r = some (0, v24) ∧ P (some (0, v24)) V23) 139 [(4, (p0 : Int)), (0, 2)] G R V22) 19 [(4, (b1 : Int)), (0, x1), (4, ((p0 + 15 : Nat) : Int))] G R V17)))) 141 [(0, x1)] G R (wr V12 p0 8 v13)) ∧ ((¬ v13 = (-1)) → cwv d (fun r V25 => ∃ v26 : Int, r = some (0, v26) ∧ P (some (0, v26)) V25) 139 [(4, (p0 : Int)), (0, 1)] G R (wr V12 p0 8 v13))))) 13 [(4, ((p0 + 15 : Nat) : Int)), (0, ((wr V6 p0 8 v7) (b2 + 10) 1))] G R (wr V6 p0 8 v7))) ∧ ((¬ v7 = (-1)) → cwv d (fun r V27 => ∃ v28 : Int, r = some (0, v28) ∧ P (some (0, v28)) V27) 139 [(4, (p0 : Int)), (0, 0)] G R (wr V6 p0 8 v7))))) 12 [(4, ((p0 + 15 : Nat) : Int)), (4, ((b2 + 10 : Nat) : Int)), (4, ((b1 + 2 : Nat) : Int))] G R (wr V b1 3 0)) ∧ ((¬ (V b1 3) = (V (b2 + 10) 1)) → cwv d (fun r V29 => ∃ v30 : Int, r = some (0, v30) ∧ P (some (0, v30)) V29) 138 [(4, (p0 : Int)), (0, (-1))] G R V))))))) : wpv K_X7_check d P 0 [some (4, (p0 : Int)), some (0, x1)] [] G R V := by
  refine wp_ld (i := (.aload_n 0)) (4, (p0 : Int)) rfl rfl (fun _ => rfl) rfl rfl (?_ : wpv K_X7_check d P 1 [some (4, (p0 : Int)), some (0, x1)] [(4, (p0 : Int))] G R V)
  obtain ⟨b1, ⟨r1, l1_⟩, w⟩ := w
  refine wp_getA (k := 6) rfl rfl rfl (ly7_o l0) rfl rfl r1 (?_ : wpv K_X7_check d P 4 [some (4, (p0 : Int)), some (0, x1)] [(4, (b1 : Int))] G R V)
  obtain ⟨b2, ⟨r2, l2_⟩, w⟩ := w
  refine wp_getA (k := 0) rfl rfl rfl (ly1_o l1_) rfl rfl r2 (?_ : wpv K_X7_check d P 7 [some (4, (p0 : Int)), some (0, x1)] [(4, (b2 : Int))] G R V)
  refine wp_getA (k := 1) rfl rfl rfl (ly2_o l2_) rfl rfl (ly2_1 l2_).1 (?_ : wpv K_X7_check d P 10 [some (4, (p0 : Int)), some (0, x1)] [(4, ((b2 + 10 : Nat) : Int))] G R V)
  refine wp_sto (i := (.astore_n 2)) _ rfl rfl (fun _ => rfl) rfl rfl rfl ?_
  refine wp_wk (L' := [some (4, (p0 : Int)), some (0, x1), some (4, ((b2 + 10 : Nat) : Int))]) (wk_s (wk_s (wk_s wk_0))) ?_
  show wpv K_X7_check d P 11 [some (4, (p0 : Int)), some (0, x1), some (4, ((b2 + 10 : Nat) : Int))] [] G R V
  refine wp_ld (i := (.aload_n 0)) (4, (p0 : Int)) rfl rfl (fun _ => rfl) rfl rfl (?_ : wpv K_X7_check d P 12 [some (4, (p0 : Int)), some (0, x1), some (4, ((b2 + 10 : Nat) : Int))] [(4, (p0 : Int))] G R V)
  refine wp_getA (k := 6) rfl rfl rfl (ly7_o l0) rfl rfl r1 (?_ : wpv K_X7_check d P 15 [some (4, (p0 : Int)), some (0, x1), some (4, ((b2 + 10 : Nat) : Int))] [(4, (b1 : Int))] G R V)
  refine wp_rng (fun vr3 => ?_)
  have f4 : i32 (V b1 3) := vr_f0 vr3 (ly1_o l1_) rfl rfl
  replace w := w f4
  refine wp_getI (k := 3) rfl rfl rfl (ly1_o l1_) rfl rfl (?_ : wpv K_X7_check d P 18 [some (4, (p0 : Int)), some (0, x1), some (4, ((b2 + 10 : Nat) : Int))] [(0, (V b1 3))] G R V)
  refine wp_ld (i := (.aload_n 2)) (4, ((b2 + 10 : Nat) : Int)) rfl rfl (fun _ => rfl) rfl rfl (?_ : wpv K_X7_check d P 19 [some (4, (p0 : Int)), some (0, x1), some (4, ((b2 + 10 : Nat) : Int))] [(4, ((b2 + 10 : Nat) : Int)), (0, (V b1 3))] G R V)
  have f5 : i32 (V (b2 + 10) 1) := vr_f0 vr3 (ly4_o (ly2_1 l2_).2) rfl rfl
  replace w := w f5
  refine wp_getI (k := 1) rfl rfl rfl (ly4_o (ly2_1 l2_).2) rfl rfl (?_ : wpv K_X7_check d P 22 [some (4, (p0 : Int)), some (0, x1), some (4, ((b2 + 10 : Nat) : Int))] [(0, (V (b2 + 10) 1)), (0, (V b1 3))] G R V)
  refine wp_icmp (c := .eq) 31 rfl rfl rfl f4 f5 (fun q => ?_) (fun q => ?_)
  · have q : (V b1 3) = (V (b2 + 10) 1) := q
    replace w := w.1 q
    show wpv K_X7_check d P 31 [some (4, (p0 : Int)), some (0, x1), some (4, ((b2 + 10 : Nat) : Int))] [] G R V
    refine wp_ld (i := (.aload_n 0)) (4, (p0 : Int)) rfl rfl (fun _ => rfl) rfl rfl (?_ : wpv K_X7_check d P 32 [some (4, (p0 : Int)), some (0, x1), some (4, ((b2 + 10 : Nat) : Int))] [(4, (p0 : Int))] G R V)
    refine wp_getA (k := 6) rfl rfl rfl (ly7_o l0) rfl rfl r1 (?_ : wpv K_X7_check d P 35 [some (4, (p0 : Int)), some (0, x1), some (4, ((b2 + 10 : Nat) : Int))] [(4, (b1 : Int))] G R V)
    refine wp_p (i := (.iconst 0)) rfl rfl (fun _ _ _ => rfl) (?_ : wpv K_X7_check d P 36 [some (4, (p0 : Int)), some (0, x1), some (4, ((b2 + 10 : Nat) : Int))] [(0, 0), (4, (b1 : Int))] G R V)
    refine wp_putI (k := 3) rfl rfl rfl (ly1_o l1_) rfl rfl rfl ⟨by omega, by omega⟩ (?_ : wpv K_X7_check d P 39 [some (4, (p0 : Int)), some (0, x1), some (4, ((b2 + 10 : Nat) : Int))] [] G R (wr V b1 3 0))
    refine wp_ld (i := (.aload_n 0)) (4, (p0 : Int)) rfl rfl (fun _ => rfl) rfl rfl (?_ : wpv K_X7_check d P 40 [some (4, (p0 : Int)), some (0, x1), some (4, ((b2 + 10 : Nat) : Int))] [(4, (p0 : Int))] G R (wr V b1 3 0))
    refine wp_ld (i := (.aload_n 0)) (4, (p0 : Int)) rfl rfl (fun _ => rfl) rfl rfl (?_ : wpv K_X7_check d P 41 [some (4, (p0 : Int)), some (0, x1), some (4, ((b2 + 10 : Nat) : Int))] [(4, (p0 : Int)), (4, (p0 : Int))] G R (wr V b1 3 0))
    refine wp_getA (k := 3) rfl rfl rfl (ly7_o l0) rfl rfl (ly7_3 l0).1 (?_ : wpv K_X7_check d P 44 [some (4, (p0 : Int)), some (0, x1), some (4, ((b2 + 10 : Nat) : Int))] [(4, ((p0 + 15 : Nat) : Int)), (4, (p0 : Int))] G R (wr V b1 3 0))
    refine wp_ld (i := (.aload_n 2)) (4, ((b2 + 10 : Nat) : Int)) rfl rfl (fun _ => rfl) rfl rfl (?_ : wpv K_X7_check d P 45 [some (4, (p0 : Int)), some (0, x1), some (4, ((b2 + 10 : Nat) : Int))] [(4, ((b2 + 10 : Nat) : Int)), (4, ((p0 + 15 : Nat) : Int)), (4, (p0 : Int))] G R (wr V b1 3 0))
    refine wp_ld (i := (.aload_n 0)) (4, (p0 : Int)) rfl rfl (fun _ => rfl) rfl rfl (?_ : wpv K_X7_check d P 46 [some (4, (p0 : Int)), some (0, x1), some (4, ((b2 + 10 : Nat) : Int))] [(4, (p0 : Int)), (4, ((b2 + 10 : Nat) : Int)), (4, ((p0 + 15 : Nat) : Int)), (4, (p0 : Int))] G R (wr V b1 3 0))
    refine wp_getA (k := 6) rfl rfl rfl (ly7_o l0) rfl rfl r1 (?_ : wpv K_X7_check d P 49 [some (4, (p0 : Int)), some (0, x1), some (4, ((b2 + 10 : Nat) : Int))] [(4, (b1 : Int)), (4, ((b2 + 10 : Nat) : Int)), (4, ((p0 + 15 : Nat) : Int)), (4, (p0 : Int))] G R (wr V b1 3 0))
    refine wp_getA (k := 2) rfl rfl rfl (ly1_o l1_) rfl rfl (ly1_2 l1_).1 (?_ : wpv K_X7_check d P 52 [some (4, (p0 : Int)), some (0, x1), some (4, ((b2 + 10 : Nat) : Int))] [(4, ((b1 + 2 : Nat) : Int)), (4, ((b2 + 10 : Nat) : Int)), (4, ((p0 + 15 : Nat) : Int)), (4, (p0 : Int))] G R (wr V b1 3 0))
    refine wp_virt (as := [(4, ((b2 + 10 : Nat) : Int)), (4, ((b1 + 2 : Nat) : Int))]) (a := p0 + 15) (st := [(4, (p0 : Int))]) _ rfl rfl rfl rfl rfl rfl (ly0_o (ly7_3 l0).2) (Nat.le_of_ble_eq_true rfl) (cwv_kI w (fun v7 V6 w => ?_))
    show wpv K_X7_check d P 55 [some (4, (p0 : Int)), some (0, x1), some (4, ((b2 + 10 : Nat) : Int))] [(0, v7), (4, (p0 : Int))] G R V6
    obtain ⟨s8, w⟩ := w
    refine wp_putI (k := 8) rfl rfl rfl (ly7_o l0) rfl rfl rfl s8 (?_ : wpv K_X7_check d P 58 [some (4, (p0 : Int)), some (0, x1), some (4, ((b2 + 10 : Nat) : Int))] [] G R (wr V6 p0 8 v7))
    refine wp_ld (i := (.aload_n 0)) (4, (p0 : Int)) rfl rfl (fun _ => rfl) rfl rfl (?_ : wpv K_X7_check d P 59 [some (4, (p0 : Int)), some (0, x1), some (4, ((b2 + 10 : Nat) : Int))] [(4, (p0 : Int))] G R (wr V6 p0 8 v7))
    refine wp_rng (fun vr9 => ?_)
    have r10 : ((wr V6 p0 8 v7) p0 8) = v7 := (wr_same _ _ _ _)
    refine wp_getIe (k := 8) rfl rfl rfl (ly7_o l0) rfl rfl r10 (?_ : wpv K_X7_check d P 62 [some (4, (p0 : Int)), some (0, x1), some (4, ((b2 + 10 : Nat) : Int))] [(0, v7)] G R (wr V6 p0 8 v7))
    refine wp_p (i := (.iconst (-1))) rfl rfl (fun _ _ _ => rfl) (?_ : wpv K_X7_check d P 63 [some (4, (p0 : Int)), some (0, x1), some (4, ((b2 + 10 : Nat) : Int))] [(0, (-1)), (0, v7)] G R (wr V6 p0 8 v7))
    refine wp_icmp (c := .eq) 72 rfl rfl rfl s8 ⟨by omega, by omega⟩ (fun q => ?_) (fun q => ?_)
    · have q : v7 = (-1) := q
      replace w := w.1 q
      show wpv K_X7_check d P 72 [some (4, (p0 : Int)), some (0, x1), some (4, ((b2 + 10 : Nat) : Int))] [] G R (wr V6 p0 8 v7)
      refine wp_ld (i := (.aload_n 0)) (4, (p0 : Int)) rfl rfl (fun _ => rfl) rfl rfl (?_ : wpv K_X7_check d P 73 [some (4, (p0 : Int)), some (0, x1), some (4, ((b2 + 10 : Nat) : Int))] [(4, (p0 : Int))] G R (wr V6 p0 8 v7))
      refine wp_ld (i := (.aload_n 0)) (4, (p0 : Int)) rfl rfl (fun _ => rfl) rfl rfl (?_ : wpv K_X7_check d P 74 [some (4, (p0 : Int)), some (0, x1), some (4, ((b2 + 10 : Nat) : Int))] [(4, (p0 : Int)), (4, (p0 : Int))] G R (wr V6 p0 8 v7))
      refine wp_getA (k := 3) rfl rfl rfl (ly7_o l0) rfl rfl (ly7_3 l0).1 (?_ : wpv K_X7_check d P 77 [some (4, (p0 : Int)), some (0, x1), some (4, ((b2 + 10 : Nat) : Int))] [(4, ((p0 + 15 : Nat) : Int)), (4, (p0 : Int))] G R (wr V6 p0 8 v7))
      refine wp_ld (i := (.aload_n 2)) (4, ((b2 + 10 : Nat) : Int)) rfl rfl (fun _ => rfl) rfl rfl (?_ : wpv K_X7_check d P 78 [some (4, (p0 : Int)), some (0, x1), some (4, ((b2 + 10 : Nat) : Int))] [(4, ((b2 + 10 : Nat) : Int)), (4, ((p0 + 15 : Nat) : Int)), (4, (p0 : Int))] G R (wr V6 p0 8 v7))
      have f11 : i32 ((wr V6 p0 8 v7) (b2 + 10) 1) := vr_f0 vr9 (ly4_o (ly2_1 l2_).2) rfl rfl
      replace w := w f11
      refine wp_getI (k := 1) rfl rfl rfl (ly4_o (ly2_1 l2_).2) rfl rfl (?_ : wpv K_X7_check d P 81 [some (4, (p0 : Int)), some (0, x1), some (4, ((b2 + 10 : Nat) : Int))] [(0, ((wr V6 p0 8 v7) (b2 + 10) 1)), (4, ((p0 + 15 : Nat) : Int)), (4, (p0 : Int))] G R (wr V6 p0 8 v7))
      refine wp_virt (as := [(0, ((wr V6 p0 8 v7) (b2 + 10) 1))]) (a := p0 + 15) (st := [(4, (p0 : Int))]) _ rfl rfl rfl rfl rfl rfl (ly0_o (ly7_3 l0).2) (Nat.le_of_ble_eq_true rfl) (cwv_kI w (fun v13 V12 w => ?_))
      show wpv K_X7_check d P 84 [some (4, (p0 : Int)), some (0, x1), some (4, ((b2 + 10 : Nat) : Int))] [(0, v13), (4, (p0 : Int))] G R V12
      obtain ⟨s14, w⟩ := w
      refine wp_putI (k := 8) rfl rfl rfl (ly7_o l0) rfl rfl rfl s14 (?_ : wpv K_X7_check d P 87 [some (4, (p0 : Int)), some (0, x1), some (4, ((b2 + 10 : Nat) : Int))] [] G R (wr V12 p0 8 v13))
      refine wp_ld (i := (.aload_n 0)) (4, (p0 : Int)) rfl rfl (fun _ => rfl) rfl rfl (?_ : wpv K_X7_check d P 88 [some (4, (p0 : Int)), some (0, x1), some (4, ((b2 + 10 : Nat) : Int))] [(4, (p0 : Int))] G R (wr V12 p0 8 v13))
      refine wp_rng (fun vr15 => ?_)
      have r16 : ((wr V12 p0 8 v13) p0 8) = v13 := (wr_same _ _ _ _)
      refine wp_getIe (k := 8) rfl rfl rfl (ly7_o l0) rfl rfl r16 (?_ : wpv K_X7_check d P 91 [some (4, (p0 : Int)), some (0, x1), some (4, ((b2 + 10 : Nat) : Int))] [(0, v13)] G R (wr V12 p0 8 v13))
      refine wp_p (i := (.iconst (-1))) rfl rfl (fun _ _ _ => rfl) (?_ : wpv K_X7_check d P 92 [some (4, (p0 : Int)), some (0, x1), some (4, ((b2 + 10 : Nat) : Int))] [(0, (-1)), (0, v13)] G R (wr V12 p0 8 v13))
      refine wp_icmp (c := .eq) 101 rfl rfl rfl s14 ⟨by omega, by omega⟩ (fun q => ?_) (fun q => ?_)
      · have q : v13 = (-1) := q
        replace w := w.1 q
        show wpv K_X7_check d P 101 [some (4, (p0 : Int)), some (0, x1), some (4, ((b2 + 10 : Nat) : Int))] [] G R (wr V12 p0 8 v13)
        refine wp_ld (i := (.iload_n 1)) (0, x1) rfl rfl (fun _ => rfl) rfl rfl (?_ : wpv K_X7_check d P 102 [some (4, (p0 : Int)), some (0, x1), some (4, ((b2 + 10 : Nat) : Int))] [(0, x1)] G R (wr V12 p0 8 v13))
        refine wp_stat (as := [(0, x1)]) (st := []) _ rfl rfl rfl (by omega) rfl rfl (Nat.le_of_ble_eq_true rfl) (cwv_kI w (fun v18 V17 w => ?_))
        show wpv K_X7_check d P 105 [some (4, (p0 : Int)), some (0, x1), some (4, ((b2 + 10 : Nat) : Int))] [(0, v18)] G R V17
        obtain ⟨s19, w⟩ := w
        refine wp_if (c := .eq) 120 rfl rfl rfl s19 (fun q => ?_) (fun q => ?_)
        · have q : v18 = 0 := q
          replace w := w.1 q
          show wpv K_X7_check d P 120 [some (4, (p0 : Int)), some (0, x1), some (4, ((b2 + 10 : Nat) : Int))] [] G R V17
          refine wp_ld (i := (.aload_n 0)) (4, (p0 : Int)) rfl rfl (fun _ => rfl) rfl rfl (?_ : wpv K_X7_check d P 121 [some (4, (p0 : Int)), some (0, x1), some (4, ((b2 + 10 : Nat) : Int))] [(4, (p0 : Int))] G R V17)
          refine wp_p (i := (.iconst 2)) rfl rfl (fun _ _ _ => rfl) (?_ : wpv K_X7_check d P 122 [some (4, (p0 : Int)), some (0, x1), some (4, ((b2 + 10 : Nat) : Int))] [(0, 2), (4, (p0 : Int))] G R V17)
          refine wp_virt (as := [(0, 2)]) (a := p0) (st := []) _ rfl rfl rfl rfl rfl rfl (ly7_o l0) (Nat.le_of_ble_eq_true rfl) (cwv_kI w (fun v21 V20 w => ?_))
          show wpv K_X7_check d P 125 [some (4, (p0 : Int)), some (0, x1), some (4, ((b2 + 10 : Nat) : Int))] [(0, v21)] G R V20
          exact wp_rI rfl rfl rfl w
        · have q : ¬ v18 = 0 := q
          replace w := w.2 q
          show wpv K_X7_check d P 108 [some (4, (p0 : Int)), some (0, x1), some (4, ((b2 + 10 : Nat) : Int))] [] G R V17
          refine wp_ld (i := (.aload_n 0)) (4, (p0 : Int)) rfl rfl (fun _ => rfl) rfl rfl (?_ : wpv K_X7_check d P 109 [some (4, (p0 : Int)), some (0, x1), some (4, ((b2 + 10 : Nat) : Int))] [(4, (p0 : Int))] G R V17)
          refine wp_getA (k := 6) rfl rfl rfl (ly7_o l0) rfl rfl r1 (?_ : wpv K_X7_check d P 112 [some (4, (p0 : Int)), some (0, x1), some (4, ((b2 + 10 : Nat) : Int))] [(4, (b1 : Int))] G R V17)
          refine wp_ld (i := (.iload_n 1)) (0, x1) rfl rfl (fun _ => rfl) rfl rfl (?_ : wpv K_X7_check d P 113 [some (4, (p0 : Int)), some (0, x1), some (4, ((b2 + 10 : Nat) : Int))] [(0, x1), (4, (b1 : Int))] G R V17)
          refine wp_ld (i := (.aload_n 0)) (4, (p0 : Int)) rfl rfl (fun _ => rfl) rfl rfl (?_ : wpv K_X7_check d P 114 [some (4, (p0 : Int)), some (0, x1), some (4, ((b2 + 10 : Nat) : Int))] [(4, (p0 : Int)), (0, x1), (4, (b1 : Int))] G R V17)
          refine wp_getA (k := 3) rfl rfl rfl (ly7_o l0) rfl rfl (ly7_3 l0).1 (?_ : wpv K_X7_check d P 117 [some (4, (p0 : Int)), some (0, x1), some (4, ((b2 + 10 : Nat) : Int))] [(4, ((p0 + 15 : Nat) : Int)), (0, x1), (4, (b1 : Int))] G R V17)
          refine wp_virt (as := [(0, x1), (4, ((p0 + 15 : Nat) : Int))]) (a := b1) (st := []) _ rfl rfl rfl rfl rfl rfl (ly1_o l1_) (Nat.le_of_ble_eq_true rfl) (cwv_k0 w (fun V22 w => ?_))
          show wpv K_X7_check d P 120 [some (4, (p0 : Int)), some (0, x1), some (4, ((b2 + 10 : Nat) : Int))] [] G R V22
          refine wp_ld (i := (.aload_n 0)) (4, (p0 : Int)) rfl rfl (fun _ => rfl) rfl rfl (?_ : wpv K_X7_check d P 121 [some (4, (p0 : Int)), some (0, x1), some (4, ((b2 + 10 : Nat) : Int))] [(4, (p0 : Int))] G R V22)
          refine wp_p (i := (.iconst 2)) rfl rfl (fun _ _ _ => rfl) (?_ : wpv K_X7_check d P 122 [some (4, (p0 : Int)), some (0, x1), some (4, ((b2 + 10 : Nat) : Int))] [(0, 2), (4, (p0 : Int))] G R V22)
          refine wp_virt (as := [(0, 2)]) (a := p0) (st := []) _ rfl rfl rfl rfl rfl rfl (ly7_o l0) (Nat.le_of_ble_eq_true rfl) (cwv_kI w (fun v24 V23 w => ?_))
          show wpv K_X7_check d P 125 [some (4, (p0 : Int)), some (0, x1), some (4, ((b2 + 10 : Nat) : Int))] [(0, v24)] G R V23
          exact wp_rI rfl rfl rfl w
      · have q : ¬ v13 = (-1) := q
        replace w := w.2 q
        show wpv K_X7_check d P 95 [some (4, (p0 : Int)), some (0, x1), some (4, ((b2 + 10 : Nat) : Int))] [] G R (wr V12 p0 8 v13)
        refine wp_ld (i := (.aload_n 0)) (4, (p0 : Int)) rfl rfl (fun _ => rfl) rfl rfl (?_ : wpv K_X7_check d P 96 [some (4, (p0 : Int)), some (0, x1), some (4, ((b2 + 10 : Nat) : Int))] [(4, (p0 : Int))] G R (wr V12 p0 8 v13))
        refine wp_p (i := (.iconst 1)) rfl rfl (fun _ _ _ => rfl) (?_ : wpv K_X7_check d P 97 [some (4, (p0 : Int)), some (0, x1), some (4, ((b2 + 10 : Nat) : Int))] [(0, 1), (4, (p0 : Int))] G R (wr V12 p0 8 v13))
        refine wp_virt (as := [(0, 1)]) (a := p0) (st := []) _ rfl rfl rfl rfl rfl rfl (ly7_o l0) (Nat.le_of_ble_eq_true rfl) (cwv_kI w (fun v26 V25 w => ?_))
        show wpv K_X7_check d P 100 [some (4, (p0 : Int)), some (0, x1), some (4, ((b2 + 10 : Nat) : Int))] [(0, v26)] G R V25
        exact wp_rI rfl rfl rfl w
    · have q : ¬ v7 = (-1) := q
      replace w := w.2 q
      show wpv K_X7_check d P 66 [some (4, (p0 : Int)), some (0, x1), some (4, ((b2 + 10 : Nat) : Int))] [] G R (wr V6 p0 8 v7)
      refine wp_ld (i := (.aload_n 0)) (4, (p0 : Int)) rfl rfl (fun _ => rfl) rfl rfl (?_ : wpv K_X7_check d P 67 [some (4, (p0 : Int)), some (0, x1), some (4, ((b2 + 10 : Nat) : Int))] [(4, (p0 : Int))] G R (wr V6 p0 8 v7))
      refine wp_p (i := (.iconst 0)) rfl rfl (fun _ _ _ => rfl) (?_ : wpv K_X7_check d P 68 [some (4, (p0 : Int)), some (0, x1), some (4, ((b2 + 10 : Nat) : Int))] [(0, 0), (4, (p0 : Int))] G R (wr V6 p0 8 v7))
      refine wp_virt (as := [(0, 0)]) (a := p0) (st := []) _ rfl rfl rfl rfl rfl rfl (ly7_o l0) (Nat.le_of_ble_eq_true rfl) (cwv_kI w (fun v28 V27 w => ?_))
      show wpv K_X7_check d P 71 [some (4, (p0 : Int)), some (0, x1), some (4, ((b2 + 10 : Nat) : Int))] [(0, v28)] G R V27
      exact wp_rI rfl rfl rfl w
  · have q : ¬ (V b1 3) = (V (b2 + 10) 1) := q
    replace w := w.2 q
    show wpv K_X7_check d P 25 [some (4, (p0 : Int)), some (0, x1), some (4, ((b2 + 10 : Nat) : Int))] [] G R V
    refine wp_ld (i := (.aload_n 0)) (4, (p0 : Int)) rfl rfl (fun _ => rfl) rfl rfl (?_ : wpv K_X7_check d P 26 [some (4, (p0 : Int)), some (0, x1), some (4, ((b2 + 10 : Nat) : Int))] [(4, (p0 : Int))] G R V)
    refine wp_p (i := (.iconst (-1))) rfl rfl (fun _ _ _ => rfl) (?_ : wpv K_X7_check d P 27 [some (4, (p0 : Int)), some (0, x1), some (4, ((b2 + 10 : Nat) : Int))] [(0, (-1)), (4, (p0 : Int))] G R V)
    refine wp_virt (as := [(0, (-1))]) (a := p0) (st := []) _ rfl rfl rfl rfl rfl rfl (ly7_o l0) (Nat.le_of_ble_eq_true rfl) (cwv_kI w (fun v30 V29 w => ?_))
    show wpv K_X7_check d P 30 [some (4, (p0 : Int)), some (0, x1), some (4, ((b2 + 10 : Nat) : Int))] [(0, v30)] G R V29
    exact wp_rI rfl rfl rfl w
theorem t_X7_misfit_0 {d : Nat} {P : gP} {p0 : Nat} {G : List gS} {R V : gV} (l0 : lay7 G R p0) (w : ((i32 (V p0 8)) → P (some (0, (V p0 8))) V)) : wpv K_X7_misfit d P 0 [some (4, (p0 : Int))] [] G R V := by
  refine wp_ld (i := (.aload_n 0)) (4, (p0 : Int)) rfl rfl (fun _ => rfl) rfl rfl (?_ : wpv K_X7_misfit d P 1 [some (4, (p0 : Int))] [(4, (p0 : Int))] G R V)
  refine wp_rng (fun vr1 => ?_)
  have f2 : i32 (V p0 8) := vr_f0 vr1 (ly7_o l0) rfl rfl
  replace w := w f2
  refine wp_getI (k := 8) rfl rfl rfl (ly7_o l0) rfl rfl (?_ : wpv K_X7_misfit d P 4 [some (4, (p0 : Int))] [(0, (V p0 8))] G R V)
  exact wp_rI rfl rfl rfl w
theorem t_X7_chance_0 {d : Nat} {P : gP} {p0 : Nat} {x1 : Int} {x2 : Int} {G : List gS} {R V : gV} (l0 : lay7 G R p0) (w : ((i32 x1) ∧ (((x1 < 0) → P (some (2, (-1))) V) ∧ ((¬ x1 < 0) → (((6 < x1) → P (some (2, (-1))) V) ∧ ((¬ 6 < x1) → ((i32 x2) ∧ (((x2 < 0) → P (some (2, (-1))) V) ∧ ((¬ x2 < 0) → (((¬ 1 < x2) → (∃ b3 : Nat, (R p0 6 = (b3 : Int) ∧ lay1 G R b3) ∧ (∃ b4 : Nat, (R b3 0 = (b4 : Int) ∧ lay2 G R b4) ∧ cwv d (fun r V5 => ∃ v6 : Int, r = some (2, v6) ∧ ((i32 (V5 (b4 + 1) 1)) → cwv d (fun r V9 => ∃ v10 : Int, r = some (2, v10) ∧ cwv d (fun r V11 => ∃ v12 : Int, r = some (2, v12) ∧ ((i64 v12) ∧ (((¬ v12 = 0) → (((¬ x2 = 0) → ((v12 ≠ 0) ∧ P (some (2, (jdiv v10 v12))) V11)) ∧ ((x2 = 0) → ((v12 ≠ 0) ∧ P (some (2, (jdiv v6 v12))) V11)))) ∧ ((v12 = 0) → P (some (2, (-1))) V11)))) 156 [(2, v6), (2, v10)] G R V9) 155 [(2, (V5 (b4 + 1) 1)), (0, x1)] G R V5)) 72 [(4, ((b4 + 10 : Nat) : Int)), (0, x1)] G R V))) ∧ ((1 < x2) → P (some (2, (-1))) V))))))))))) : wpv K_X7_chance d P 0 [some (4, (p0 : Int)), some (0, x1), some (0, x2)] [] G R V := by
  refine wp_ld (i := (.iload_n 1)) (0, x1) rfl rfl (fun _ => rfl) rfl rfl (?_ : wpv K_X7_chance d P 1 [some (4, (p0 : Int)), some (0, x1), some (0, x2)] [(0, x1)] G R V)
  obtain ⟨s1, w⟩ := w
  refine wp_if (c := .lt) 19 rfl rfl rfl s1 (fun q => ?_) (fun q => ?_)
  · have q : x1 < 0 := q
    replace w := w.1 q
    show wpv K_X7_chance d P 19 [some (4, (p0 : Int)), some (0, x1), some (0, x2)] [] G R V
    refine wp_p (i := (.ldc2_w 285)) rfl rfl (fun _ _ _ => rfl) (?_ : wpv K_X7_chance d P 22 [some (4, (p0 : Int)), some (0, x1), some (0, x2)] [(2, (-1))] G R V)
    exact wp_rJ rfl rfl rfl w
  · have q : ¬ x1 < 0 := q
    replace w := w.2 q
    show wpv K_X7_chance d P 4 [some (4, (p0 : Int)), some (0, x1), some (0, x2)] [] G R V
    refine wp_ld (i := (.iload_n 1)) (0, x1) rfl rfl (fun _ => rfl) rfl rfl (?_ : wpv K_X7_chance d P 5 [some (4, (p0 : Int)), some (0, x1), some (0, x2)] [(0, x1)] G R V)
    refine wp_p (i := (.bipush 6)) rfl rfl (fun _ _ _ => rfl) (?_ : wpv K_X7_chance d P 7 [some (4, (p0 : Int)), some (0, x1), some (0, x2)] [(0, 6), (0, x1)] G R V)
    refine wp_icmp (c := .gt) 19 rfl rfl rfl s1 ⟨by omega, by omega⟩ (fun q => ?_) (fun q => ?_)
    · have q : 6 < x1 := q
      replace w := w.1 q
      show wpv K_X7_chance d P 19 [some (4, (p0 : Int)), some (0, x1), some (0, x2)] [] G R V
      refine wp_p (i := (.ldc2_w 285)) rfl rfl (fun _ _ _ => rfl) (?_ : wpv K_X7_chance d P 22 [some (4, (p0 : Int)), some (0, x1), some (0, x2)] [(2, (-1))] G R V)
      exact wp_rJ rfl rfl rfl w
    · have q : ¬ 6 < x1 := q
      replace w := w.2 q
      show wpv K_X7_chance d P 10 [some (4, (p0 : Int)), some (0, x1), some (0, x2)] [] G R V
      refine wp_ld (i := (.iload_n 2)) (0, x2) rfl rfl (fun _ => rfl) rfl rfl (?_ : wpv K_X7_chance d P 11 [some (4, (p0 : Int)), some (0, x1), some (0, x2)] [(0, x2)] G R V)
      obtain ⟨s2, w⟩ := w
      refine wp_if (c := .lt) 19 rfl rfl rfl s2 (fun q => ?_) (fun q => ?_)
      · have q : x2 < 0 := q
        replace w := w.1 q
        show wpv K_X7_chance d P 19 [some (4, (p0 : Int)), some (0, x1), some (0, x2)] [] G R V
        refine wp_p (i := (.ldc2_w 285)) rfl rfl (fun _ _ _ => rfl) (?_ : wpv K_X7_chance d P 22 [some (4, (p0 : Int)), some (0, x1), some (0, x2)] [(2, (-1))] G R V)
        exact wp_rJ rfl rfl rfl w
      · have q : ¬ x2 < 0 := q
        replace w := w.2 q
        show wpv K_X7_chance d P 14 [some (4, (p0 : Int)), some (0, x1), some (0, x2)] [] G R V
        refine wp_ld (i := (.iload_n 2)) (0, x2) rfl rfl (fun _ => rfl) rfl rfl (?_ : wpv K_X7_chance d P 15 [some (4, (p0 : Int)), some (0, x1), some (0, x2)] [(0, x2)] G R V)
        refine wp_p (i := (.iconst 1)) rfl rfl (fun _ _ _ => rfl) (?_ : wpv K_X7_chance d P 16 [some (4, (p0 : Int)), some (0, x1), some (0, x2)] [(0, 1), (0, x2)] G R V)
        refine wp_icmp (c := .le) 23 rfl rfl rfl s2 ⟨by omega, by omega⟩ (fun q => ?_) (fun q => ?_)
        · have q : ¬ 1 < x2 := q
          replace w := w.1 q
          show wpv K_X7_chance d P 23 [some (4, (p0 : Int)), some (0, x1), some (0, x2)] [] G R V
          refine wp_ld (i := (.aload_n 0)) (4, (p0 : Int)) rfl rfl (fun _ => rfl) rfl rfl (?_ : wpv K_X7_chance d P 24 [some (4, (p0 : Int)), some (0, x1), some (0, x2)] [(4, (p0 : Int))] G R V)
          obtain ⟨b3, ⟨r3, l3_⟩, w⟩ := w
          refine wp_getA (k := 6) rfl rfl rfl (ly7_o l0) rfl rfl r3 (?_ : wpv K_X7_chance d P 27 [some (4, (p0 : Int)), some (0, x1), some (0, x2)] [(4, (b3 : Int))] G R V)
          obtain ⟨b4, ⟨r4, l4_⟩, w⟩ := w
          refine wp_getA (k := 0) rfl rfl rfl (ly1_o l3_) rfl rfl r4 (?_ : wpv K_X7_chance d P 30 [some (4, (p0 : Int)), some (0, x1), some (0, x2)] [(4, (b4 : Int))] G R V)
          refine wp_getA (k := 1) rfl rfl rfl (ly2_o l4_) rfl rfl (ly2_1 l4_).1 (?_ : wpv K_X7_chance d P 33 [some (4, (p0 : Int)), some (0, x1), some (0, x2)] [(4, ((b4 + 10 : Nat) : Int))] G R V)
          refine wp_ld (i := (.iload_n 1)) (0, x1) rfl rfl (fun _ => rfl) rfl rfl (?_ : wpv K_X7_chance d P 34 [some (4, (p0 : Int)), some (0, x1), some (0, x2)] [(0, x1), (4, ((b4 + 10 : Nat) : Int))] G R V)
          refine wp_virt (as := [(0, x1)]) (a := b4 + 10) (st := []) _ rfl rfl rfl rfl rfl rfl (ly4_o (ly2_1 l4_).2) (Nat.le_of_ble_eq_true rfl) (cwv_kJ w (fun v6 V5 w => ?_))
          show wpv K_X7_chance d P 37 [some (4, (p0 : Int)), some (0, x1), some (0, x2)] [(2, v6)] G R V5
          refine wp_lsto (i := (.lstore_n 3)) _ rfl rfl (fun _ => rfl) rfl rfl rfl ?_
          refine wp_wk (L' := [some (4, (p0 : Int)), some (0, x1), some (0, x2), some (2, v6)]) (wk_s (wk_s (wk_s (wk_s wk_0)))) ?_
          show wpv K_X7_chance d P 38 [some (4, (p0 : Int)), some (0, x1), some (0, x2), some (2, v6)] [] G R V5
          refine wp_ld (i := (.aload_n 0)) (4, (p0 : Int)) rfl rfl (fun _ => rfl) rfl rfl (?_ : wpv K_X7_chance d P 39 [some (4, (p0 : Int)), some (0, x1), some (0, x2), some (2, v6)] [(4, (p0 : Int))] G R V5)
          refine wp_getA (k := 6) rfl rfl rfl (ly7_o l0) rfl rfl r3 (?_ : wpv K_X7_chance d P 42 [some (4, (p0 : Int)), some (0, x1), some (0, x2), some (2, v6)] [(4, (b3 : Int))] G R V5)
          refine wp_getA (k := 0) rfl rfl rfl (ly1_o l3_) rfl rfl r4 (?_ : wpv K_X7_chance d P 45 [some (4, (p0 : Int)), some (0, x1), some (0, x2), some (2, v6)] [(4, (b4 : Int))] G R V5)
          refine wp_getA (k := 0) rfl rfl rfl (ly2_o l4_) rfl rfl (ly2_0 l4_).1 (?_ : wpv K_X7_chance d P 48 [some (4, (p0 : Int)), some (0, x1), some (0, x2), some (2, v6)] [(4, ((b4 + 1 : Nat) : Int))] G R V5)
          refine wp_rng (fun vr7 => ?_)
          have f8 : i32 (V5 (b4 + 1) 1) := vr_f0 vr7 (ly6_o (ly2_0 l4_).2) rfl rfl
          replace w := w f8
          refine wp_getI (k := 1) rfl rfl rfl (ly6_o (ly2_0 l4_).2) rfl rfl (?_ : wpv K_X7_chance d P 51 [some (4, (p0 : Int)), some (0, x1), some (0, x2), some (2, v6)] [(0, (V5 (b4 + 1) 1))] G R V5)
          refine wp_i2l rfl rfl f8 (?_ : wpv K_X7_chance d P 52 [some (4, (p0 : Int)), some (0, x1), some (0, x2), some (2, v6)] [(2, (V5 (b4 + 1) 1))] G R V5)
          refine wp_ld (i := (.iload_n 1)) (0, x1) rfl rfl (fun _ => rfl) rfl rfl (?_ : wpv K_X7_chance d P 53 [some (4, (p0 : Int)), some (0, x1), some (0, x2), some (2, v6)] [(0, x1), (2, (V5 (b4 + 1) 1))] G R V5)
          refine wp_stat (as := [(2, (V5 (b4 + 1) 1)), (0, x1)]) (st := []) _ rfl rfl rfl (by omega) rfl rfl (Nat.le_of_ble_eq_true rfl) (cwv_kJ w (fun v10 V9 w => ?_))
          show wpv K_X7_chance d P 56 [some (4, (p0 : Int)), some (0, x1), some (0, x2), some (2, v6)] [(2, v10)] G R V9
          refine wp_lsto (i := (.lstore 5)) _ rfl rfl (fun _ => rfl) rfl rfl rfl ?_
          refine wp_wk (L' := [some (4, (p0 : Int)), some (0, x1), some (0, x2), some (2, v6), none, some (2, v10)]) (wk_s (wk_s (wk_s (wk_s (wk_n (wk_s wk_0)))))) ?_
          show wpv K_X7_chance d P 58 [some (4, (p0 : Int)), some (0, x1), some (0, x2), some (2, v6), none, some (2, v10)] [] G R V9
          refine wp_ld (i := (.lload_n 3)) (2, v6) rfl rfl (fun _ => rfl) rfl rfl (?_ : wpv K_X7_chance d P 59 [some (4, (p0 : Int)), some (0, x1), some (0, x2), some (2, v6), none, some (2, v10)] [(2, v6)] G R V9)
          refine wp_ld (i := (.lload 5)) (2, v10) rfl rfl (fun _ => rfl) rfl rfl (?_ : wpv K_X7_chance d P 61 [some (4, (p0 : Int)), some (0, x1), some (0, x2), some (2, v6), none, some (2, v10)] [(2, v10), (2, v6)] G R V9)
          refine wp_stat (as := [(2, v6), (2, v10)]) (st := []) _ rfl rfl rfl (by omega) rfl rfl (Nat.le_of_ble_eq_true rfl) (cwv_kJ w (fun v12 V11 w => ?_))
          show wpv K_X7_chance d P 64 [some (4, (p0 : Int)), some (0, x1), some (0, x2), some (2, v6), none, some (2, v10)] [(2, v12)] G R V11
          refine wp_lsto (i := (.lstore 7)) _ rfl rfl (fun _ => rfl) rfl rfl rfl ?_
          refine wp_wk (L' := [some (4, (p0 : Int)), some (0, x1), some (0, x2), some (2, v6), none, some (2, v10), none, some (2, v12)]) (wk_s (wk_s (wk_s (wk_s (wk_n (wk_s (wk_n (wk_s wk_0)))))))) ?_
          show wpv K_X7_chance d P 66 [some (4, (p0 : Int)), some (0, x1), some (0, x2), some (2, v6), none, some (2, v10), none, some (2, v12)] [] G R V11
          refine wp_ld (i := (.lload 7)) (2, v12) rfl rfl (fun _ => rfl) rfl rfl (?_ : wpv K_X7_chance d P 68 [some (4, (p0 : Int)), some (0, x1), some (0, x2), some (2, v6), none, some (2, v10), none, some (2, v12)] [(2, v12)] G R V11)
          refine wp_p (i := (.lconst 0)) rfl rfl (fun _ _ _ => rfl) (?_ : wpv K_X7_chance d P 69 [some (4, (p0 : Int)), some (0, x1), some (0, x2), some (2, v6), none, some (2, v10), none, some (2, v12)] [(2, 0), (2, v12)] G R V11)
          obtain ⟨s13, w⟩ := w
          refine wp_lcmp rfl rfl s13 ⟨by omega, by omega⟩ (?_ : wpv K_X7_chance d P 70 [some (4, (p0 : Int)), some (0, x1), some (0, x2), some (2, v6), none, some (2, v10), none, some (2, v12)] [(0, sg v12 0)] G R V11)
          refine wp_if (c := .ne) 77 rfl rfl rfl (sg32 _ _) (fun q => ?_) (fun q => ?_)
          · have q : ¬ v12 = 0 := fun z => q (sg_eq.mpr z)
            replace w := w.1 q
            show wpv K_X7_chance d P 77 [some (4, (p0 : Int)), some (0, x1), some (0, x2), some (2, v6), none, some (2, v10), none, some (2, v12)] [] G R V11
            refine wp_ld (i := (.iload_n 2)) (0, x2) rfl rfl (fun _ => rfl) rfl rfl (?_ : wpv K_X7_chance d P 78 [some (4, (p0 : Int)), some (0, x1), some (0, x2), some (2, v6), none, some (2, v10), none, some (2, v12)] [(0, x2)] G R V11)
            refine wp_if (c := .ne) 88 rfl rfl rfl s2 (fun q => ?_) (fun q => ?_)
            · have q : ¬ x2 = 0 := q
              replace w := w.1 q
              show wpv K_X7_chance d P 88 [some (4, (p0 : Int)), some (0, x1), some (0, x2), some (2, v6), none, some (2, v10), none, some (2, v12)] [] G R V11
              refine wp_ld (i := (.lload 5)) (2, v10) rfl rfl (fun _ => rfl) rfl rfl (?_ : wpv K_X7_chance d P 90 [some (4, (p0 : Int)), some (0, x1), some (0, x2), some (2, v6), none, some (2, v10), none, some (2, v12)] [(2, v10)] G R V11)
              refine wp_ld (i := (.lload 7)) (2, v12) rfl rfl (fun _ => rfl) rfl rfl (?_ : wpv K_X7_chance d P 92 [some (4, (p0 : Int)), some (0, x1), some (0, x2), some (2, v6), none, some (2, v10), none, some (2, v12)] [(2, v12), (2, v10)] G R V11)
              obtain ⟨s14, w⟩ := w
              refine wp_jdiv rfl rfl s13 s14 (?_ : wpv K_X7_chance d P 93 [some (4, (p0 : Int)), some (0, x1), some (0, x2), some (2, v6), none, some (2, v10), none, some (2, v12)] [(2, (jdiv v10 v12))] G R V11)
              exact wp_rJ rfl rfl rfl w
            · have q : x2 = 0 := Decidable.not_not.mp q
              replace w := w.2 q
              show wpv K_X7_chance d P 81 [some (4, (p0 : Int)), some (0, x1), some (0, x2), some (2, v6), none, some (2, v10), none, some (2, v12)] [] G R V11
              refine wp_ld (i := (.lload_n 3)) (2, v6) rfl rfl (fun _ => rfl) rfl rfl (?_ : wpv K_X7_chance d P 82 [some (4, (p0 : Int)), some (0, x1), some (0, x2), some (2, v6), none, some (2, v10), none, some (2, v12)] [(2, v6)] G R V11)
              refine wp_ld (i := (.lload 7)) (2, v12) rfl rfl (fun _ => rfl) rfl rfl (?_ : wpv K_X7_chance d P 84 [some (4, (p0 : Int)), some (0, x1), some (0, x2), some (2, v6), none, some (2, v10), none, some (2, v12)] [(2, v12), (2, v6)] G R V11)
              obtain ⟨s15, w⟩ := w
              refine wp_jdiv rfl rfl s13 s15 (?_ : wpv K_X7_chance d P 85 [some (4, (p0 : Int)), some (0, x1), some (0, x2), some (2, v6), none, some (2, v10), none, some (2, v12)] [(2, (jdiv v6 v12))] G R V11)
              refine wp_go 93 rfl rfl rfl (?_ : wpv K_X7_chance d P 93 [some (4, (p0 : Int)), some (0, x1), some (0, x2), some (2, v6), none, some (2, v10), none, some (2, v12)] [(2, (jdiv v6 v12))] G R V11)
              exact wp_rJ rfl rfl rfl w
          · have q : v12 = 0 := sg_eq.mp (Decidable.not_not.mp q)
            replace w := w.2 q
            show wpv K_X7_chance d P 73 [some (4, (p0 : Int)), some (0, x1), some (0, x2), some (2, v6), none, some (2, v10), none, some (2, v12)] [] G R V11
            refine wp_p (i := (.ldc2_w 285)) rfl rfl (fun _ _ _ => rfl) (?_ : wpv K_X7_chance d P 76 [some (4, (p0 : Int)), some (0, x1), some (0, x2), some (2, v6), none, some (2, v10), none, some (2, v12)] [(2, (-1))] G R V11)
            exact wp_rJ rfl rfl rfl w
        · have q : 1 < x2 := Decidable.not_not.mp q
          replace w := w.2 q
          show wpv K_X7_chance d P 19 [some (4, (p0 : Int)), some (0, x1), some (0, x2)] [] G R V
          refine wp_p (i := (.ldc2_w 285)) rfl rfl (fun _ _ _ => rfl) (?_ : wpv K_X7_chance d P 22 [some (4, (p0 : Int)), some (0, x1), some (0, x2)] [(2, (-1))] G R V)
          exact wp_rJ rfl rfl rfl w
theorem t_X7_rank_0 {d : Nat} {P : gP} {p0 : Nat} {G : List gS} {R V : gV} (l0 : lay7 G R p0) (w : wpv K_X7_rank d P 2 [some (4, (p0 : Int)), some (0, 0)] [] G R V) : wpv K_X7_rank d P 0 [some (4, (p0 : Int))] [] G R V := by
  refine wp_p (i := (.iconst 0)) rfl rfl (fun _ _ _ => rfl) (?_ : wpv K_X7_rank d P 1 [some (4, (p0 : Int))] [(0, 0)] G R V)
  refine wp_sto (i := (.istore_n 1)) _ rfl rfl (fun _ => rfl) rfl rfl rfl ?_
  refine wp_wk (L' := [some (4, (p0 : Int)), some (0, 0)]) (wk_s (wk_s wk_0)) ?_
  show wpv K_X7_rank d P 2 [some (4, (p0 : Int)), some (0, 0)] [] G R V
  exact wp_wk (wk_s (wk_s wk_0)) w

theorem t_X7_rank_2 {d : Nat} {P : gP} {p0 : Nat} {x1 : Int} {G : List gS} {R V : gV} (l0 : lay7 G R p0) (w : ((i32 x1) ∧ (((6 < x1) → P (some (0, (-1))) V) ∧ ((¬ 6 < x1) → (∃ b2 : Nat, (R p0 6 = (b2 : Int) ∧ lay1 G R b2) ∧ (∃ b3 : Nat, (R b2 0 = (b3 : Int) ∧ lay2 G R b3) ∧ cwv d (fun r V4 => ∃ v5 : Int, r = some (2, v5) ∧ ((i64 v5) ∧ (((v5 = 0) → ((i32 (x1 + 1)) ∧ wpv K_X7_rank d P 2 [some (4, (p0 : Int)), some (0, (x1 + 1))] [] G R V4)) ∧ ((¬ v5 = 0) → P (some (0, x1)) V4)))) 72 [(4, ((b3 + 10 : Nat) : Int)), (0, x1)] G R V)))))) : wpv K_X7_rank d P 2 [some (4, (p0 : Int)), some (0, x1)] [] G R V := by
  refine wp_ld (i := (.iload_n 1)) (0, x1) rfl rfl (fun _ => rfl) rfl rfl (?_ : wpv K_X7_rank d P 3 [some (4, (p0 : Int)), some (0, x1)] [(0, x1)] G R V)
  refine wp_p (i := (.bipush 6)) rfl rfl (fun _ _ _ => rfl) (?_ : wpv K_X7_rank d P 5 [some (4, (p0 : Int)), some (0, x1)] [(0, 6), (0, x1)] G R V)
  obtain ⟨s1, w⟩ := w
  refine wp_icmp (c := .gt) 35 rfl rfl rfl s1 ⟨by omega, by omega⟩ (fun q => ?_) (fun q => ?_)
  · have q : 6 < x1 := q
    replace w := w.1 q
    show wpv K_X7_rank d P 35 [some (4, (p0 : Int)), some (0, x1)] [] G R V
    refine wp_p (i := (.iconst (-1))) rfl rfl (fun _ _ _ => rfl) (?_ : wpv K_X7_rank d P 36 [some (4, (p0 : Int)), some (0, x1)] [(0, (-1))] G R V)
    exact wp_rI rfl rfl rfl w
  · have q : ¬ 6 < x1 := q
    replace w := w.2 q
    show wpv K_X7_rank d P 8 [some (4, (p0 : Int)), some (0, x1)] [] G R V
    refine wp_ld (i := (.aload_n 0)) (4, (p0 : Int)) rfl rfl (fun _ => rfl) rfl rfl (?_ : wpv K_X7_rank d P 9 [some (4, (p0 : Int)), some (0, x1)] [(4, (p0 : Int))] G R V)
    obtain ⟨b2, ⟨r2, l2_⟩, w⟩ := w
    refine wp_getA (k := 6) rfl rfl rfl (ly7_o l0) rfl rfl r2 (?_ : wpv K_X7_rank d P 12 [some (4, (p0 : Int)), some (0, x1)] [(4, (b2 : Int))] G R V)
    obtain ⟨b3, ⟨r3, l3_⟩, w⟩ := w
    refine wp_getA (k := 0) rfl rfl rfl (ly1_o l2_) rfl rfl r3 (?_ : wpv K_X7_rank d P 15 [some (4, (p0 : Int)), some (0, x1)] [(4, (b3 : Int))] G R V)
    refine wp_getA (k := 1) rfl rfl rfl (ly2_o l3_) rfl rfl (ly2_1 l3_).1 (?_ : wpv K_X7_rank d P 18 [some (4, (p0 : Int)), some (0, x1)] [(4, ((b3 + 10 : Nat) : Int))] G R V)
    refine wp_ld (i := (.iload_n 1)) (0, x1) rfl rfl (fun _ => rfl) rfl rfl (?_ : wpv K_X7_rank d P 19 [some (4, (p0 : Int)), some (0, x1)] [(0, x1), (4, ((b3 + 10 : Nat) : Int))] G R V)
    refine wp_virt (as := [(0, x1)]) (a := b3 + 10) (st := []) _ rfl rfl rfl rfl rfl rfl (ly4_o (ly2_1 l3_).2) (Nat.le_of_ble_eq_true rfl) (cwv_kJ w (fun v5 V4 w => ?_))
    show wpv K_X7_rank d P 22 [some (4, (p0 : Int)), some (0, x1)] [(2, v5)] G R V4
    refine wp_p (i := (.lconst 0)) rfl rfl (fun _ _ _ => rfl) (?_ : wpv K_X7_rank d P 23 [some (4, (p0 : Int)), some (0, x1)] [(2, 0), (2, v5)] G R V4)
    obtain ⟨s6, w⟩ := w
    refine wp_lcmp rfl rfl s6 ⟨by omega, by omega⟩ (?_ : wpv K_X7_rank d P 24 [some (4, (p0 : Int)), some (0, x1)] [(0, sg v5 0)] G R V4)
    refine wp_if (c := .eq) 29 rfl rfl rfl (sg32 _ _) (fun q => ?_) (fun q => ?_)
    · have q : v5 = 0 := sg_eq.mp q
      replace w := w.1 q
      show wpv K_X7_rank d P 29 [some (4, (p0 : Int)), some (0, x1)] [] G R V4
      obtain ⟨s7, w⟩ := w
      refine wp_inc (x := 1) (k := 1) (a := x1) (c := (x1 + 1)) _ rfl rfl rfl rfl s7 (by omega) rfl ?_
      show wpv K_X7_rank d P 32 [some (4, (p0 : Int)), some (0, (x1 + 1))] [] G R V4
      refine wp_go 2 rfl rfl rfl (?_ : wpv K_X7_rank d P 2 [some (4, (p0 : Int)), some (0, (x1 + 1))] [] G R V4)
      exact wp_wk (wk_s (wk_s wk_0)) w
    · have q : ¬ v5 = 0 := fun z => q (sg_eq.mpr z)
      replace w := w.2 q
      show wpv K_X7_rank d P 27 [some (4, (p0 : Int)), some (0, x1)] [] G R V4
      refine wp_ld (i := (.iload_n 1)) (0, x1) rfl rfl (fun _ => rfl) rfl rfl (?_ : wpv K_X7_rank d P 28 [some (4, (p0 : Int)), some (0, x1)] [(0, x1)] G R V4)
      exact wp_rI rfl rfl rfl w
theorem t_X7_status_0 {d : Nat} {P : gP} {p0 : Nat} {G : List gS} {R V : gV} (l0 : lay7 G R p0) (w : ((i32 (V p0 7)) → P (some (0, (V p0 7))) V)) : wpv K_X7_status d P 0 [some (4, (p0 : Int))] [] G R V := by
  refine wp_ld (i := (.aload_n 0)) (4, (p0 : Int)) rfl rfl (fun _ => rfl) rfl rfl (?_ : wpv K_X7_status d P 1 [some (4, (p0 : Int))] [(4, (p0 : Int))] G R V)
  refine wp_rng (fun vr1 => ?_)
  have f2 : i32 (V p0 7) := vr_f0 vr1 (ly7_o l0) rfl rfl
  replace w := w f2
  refine wp_getI (k := 7) rfl rfl rfl (ly7_o l0) rfl rfl (?_ : wpv K_X7_status d P 4 [some (4, (p0 : Int))] [(0, (V p0 7))] G R V)
  exact wp_rI rfl rfl rfl w
theorem t_X7_refuse_0 {d : Nat} {P : gP} {p0 : Nat} {x1 : Int} {G : List gS} {R V : gV} (l0 : lay7 G R p0) (w : ((i32 x1) ∧ P (some (0, x1)) (wr V p0 7 x1))) : wpv K_X7_refuse d P 0 [some (4, (p0 : Int)), some (0, x1)] [] G R V := by
  refine wp_ld (i := (.aload_n 0)) (4, (p0 : Int)) rfl rfl (fun _ => rfl) rfl rfl (?_ : wpv K_X7_refuse d P 1 [some (4, (p0 : Int)), some (0, x1)] [(4, (p0 : Int))] G R V)
  refine wp_ld (i := (.iload_n 1)) (0, x1) rfl rfl (fun _ => rfl) rfl rfl (?_ : wpv K_X7_refuse d P 2 [some (4, (p0 : Int)), some (0, x1)] [(0, x1), (4, (p0 : Int))] G R V)
  obtain ⟨s1, w⟩ := w
  refine wp_putI (k := 7) rfl rfl rfl (ly7_o l0) rfl rfl rfl s1 (?_ : wpv K_X7_refuse d P 5 [some (4, (p0 : Int)), some (0, x1)] [] G R (wr V p0 7 x1))
  refine wp_ld (i := (.iload_n 1)) (0, x1) rfl rfl (fun _ => rfl) rfl rfl (?_ : wpv K_X7_refuse d P 6 [some (4, (p0 : Int)), some (0, x1)] [(0, x1)] G R (wr V p0 7 x1))
  exact wp_rI rfl rfl rfl w
theorem t_X7_accept_0 {d : Nat} {P : gP} {p0 : Nat} {x1 : Int} {G : List gS} {R V : gV} (l0 : lay7 G R p0) (w : P (some (0, x1)) (wr V p0 7 0)) : wpv K_X7_accept d P 0 [some (4, (p0 : Int)), some (0, x1)] [] G R V := by
  refine wp_ld (i := (.aload_n 0)) (4, (p0 : Int)) rfl rfl (fun _ => rfl) rfl rfl (?_ : wpv K_X7_accept d P 1 [some (4, (p0 : Int)), some (0, x1)] [(4, (p0 : Int))] G R V)
  refine wp_p (i := (.iconst 0)) rfl rfl (fun _ _ _ => rfl) (?_ : wpv K_X7_accept d P 2 [some (4, (p0 : Int)), some (0, x1)] [(0, 0), (4, (p0 : Int))] G R V)
  refine wp_putI (k := 7) rfl rfl rfl (ly7_o l0) rfl rfl rfl ⟨by omega, by omega⟩ (?_ : wpv K_X7_accept d P 5 [some (4, (p0 : Int)), some (0, x1)] [] G R (wr V p0 7 0))
  refine wp_ld (i := (.iload_n 1)) (0, x1) rfl rfl (fun _ => rfl) rfl rfl (?_ : wpv K_X7_accept d P 6 [some (4, (p0 : Int)), some (0, x1)] [(0, x1)] G R (wr V p0 7 0))
  exact wp_rI rfl rfl rfl w
theorem t_X7_isWay_0 {d : Nat} {P : gP} {x0 : Int} {G : List gS} {R V : gV}  (w : ((i32 x0) ∧ (((x0 = 0) → P (some (0, 1)) V) ∧ ((¬ x0 = 0) → (((¬ x0 = 1) → P (some (0, 0)) V) ∧ ((x0 = 1) → P (some (0, 1)) V)))))) : wpv K_X7_isWay d P 0 [some (0, x0)] [] G R V := by
  refine wp_ld (i := (.iload_n 0)) (0, x0) rfl rfl (fun _ => rfl) rfl rfl (?_ : wpv K_X7_isWay d P 1 [some (0, x0)] [(0, x0)] G R V)
  obtain ⟨s1, w⟩ := w
  refine wp_if (c := .eq) 9 rfl rfl rfl s1 (fun q => ?_) (fun q => ?_)
  · have q : x0 = 0 := q
    replace w := w.1 q
    show wpv K_X7_isWay d P 9 [some (0, x0)] [] G R V
    refine wp_p (i := (.iconst 1)) rfl rfl (fun _ _ _ => rfl) (?_ : wpv K_X7_isWay d P 10 [some (0, x0)] [(0, 1)] G R V)
    refine wp_go 14 rfl rfl rfl (?_ : wpv K_X7_isWay d P 14 [some (0, x0)] [(0, 1)] G R V)
    exact wp_rB rfl rfl rfl (by omega) w
  · have q : ¬ x0 = 0 := q
    replace w := w.2 q
    show wpv K_X7_isWay d P 4 [some (0, x0)] [] G R V
    refine wp_ld (i := (.iload_n 0)) (0, x0) rfl rfl (fun _ => rfl) rfl rfl (?_ : wpv K_X7_isWay d P 5 [some (0, x0)] [(0, x0)] G R V)
    refine wp_p (i := (.iconst 1)) rfl rfl (fun _ _ _ => rfl) (?_ : wpv K_X7_isWay d P 6 [some (0, x0)] [(0, 1), (0, x0)] G R V)
    refine wp_icmp (c := .ne) 13 rfl rfl rfl s1 ⟨by omega, by omega⟩ (fun q => ?_) (fun q => ?_)
    · have q : ¬ x0 = 1 := q
      replace w := w.1 q
      show wpv K_X7_isWay d P 13 [some (0, x0)] [] G R V
      refine wp_p (i := (.iconst 0)) rfl rfl (fun _ _ _ => rfl) (?_ : wpv K_X7_isWay d P 14 [some (0, x0)] [(0, 0)] G R V)
      exact wp_rB rfl rfl rfl (by omega) w
    · have q : x0 = 1 := Decidable.not_not.mp q
      replace w := w.2 q
      show wpv K_X7_isWay d P 9 [some (0, x0)] [] G R V
      refine wp_p (i := (.iconst 1)) rfl rfl (fun _ _ _ => rfl) (?_ : wpv K_X7_isWay d P 10 [some (0, x0)] [(0, 1)] G R V)
      refine wp_go 14 rfl rfl rfl (?_ : wpv K_X7_isWay d P 14 [some (0, x0)] [(0, 1)] G R V)
      exact wp_rB rfl rfl rfl (by omega) w
theorem t_X7_isActNumber_0 {d : Nat} {P : gP} {x0 : Int} {G : List gS} {R V : gV}  (w : ((i32 x0) ∧ (((x0 < 0) → P (some (0, 0)) V) ∧ ((¬ x0 < 0) → (((¬ x0 < 8) → P (some (0, 0)) V) ∧ ((x0 < 8) → P (some (0, 1)) V)))))) : wpv K_X7_isActNumber d P 0 [some (0, x0)] [] G R V := by
  refine wp_ld (i := (.iload_n 0)) (0, x0) rfl rfl (fun _ => rfl) rfl rfl (?_ : wpv K_X7_isActNumber d P 1 [some (0, x0)] [(0, x0)] G R V)
  obtain ⟨s1, w⟩ := w
  refine wp_if (c := .lt) 14 rfl rfl rfl s1 (fun q => ?_) (fun q => ?_)
  · have q : x0 < 0 := q
    replace w := w.1 q
    show wpv K_X7_isActNumber d P 14 [some (0, x0)] [] G R V
    refine wp_p (i := (.iconst 0)) rfl rfl (fun _ _ _ => rfl) (?_ : wpv K_X7_isActNumber d P 15 [some (0, x0)] [(0, 0)] G R V)
    exact wp_rB rfl rfl rfl (by omega) w
  · have q : ¬ x0 < 0 := q
    replace w := w.2 q
    show wpv K_X7_isActNumber d P 4 [some (0, x0)] [] G R V
    refine wp_ld (i := (.iload_n 0)) (0, x0) rfl rfl (fun _ => rfl) rfl rfl (?_ : wpv K_X7_isActNumber d P 5 [some (0, x0)] [(0, x0)] G R V)
    refine wp_p (i := (.bipush 8)) rfl rfl (fun _ _ _ => rfl) (?_ : wpv K_X7_isActNumber d P 7 [some (0, x0)] [(0, 8), (0, x0)] G R V)
    refine wp_icmp (c := .ge) 14 rfl rfl rfl s1 ⟨by omega, by omega⟩ (fun q => ?_) (fun q => ?_)
    · have q : ¬ x0 < 8 := q
      replace w := w.1 q
      show wpv K_X7_isActNumber d P 14 [some (0, x0)] [] G R V
      refine wp_p (i := (.iconst 0)) rfl rfl (fun _ _ _ => rfl) (?_ : wpv K_X7_isActNumber d P 15 [some (0, x0)] [(0, 0)] G R V)
      exact wp_rB rfl rfl rfl (by omega) w
    · have q : x0 < 8 := Decidable.not_not.mp q
      replace w := w.2 q
      show wpv K_X7_isActNumber d P 10 [some (0, x0)] [] G R V
      refine wp_p (i := (.iconst 1)) rfl rfl (fun _ _ _ => rfl) (?_ : wpv K_X7_isActNumber d P 11 [some (0, x0)] [(0, 1)] G R V)
      refine wp_go 15 rfl rfl rfl (?_ : wpv K_X7_isActNumber d P 15 [some (0, x0)] [(0, 1)] G R V)
      exact wp_rB rfl rfl rfl (by omega) w
theorem t_X7_isAct_0 {d : Nat} {P : gP} {p0 : Nat} {x1 : Int} {G : List gS} {R V : gV} (l0 : lay7 G R p0) (w : cwv d (fun r V1 => ∃ v2 : Int, r = some (0, v2) ∧ ((i32 v2) ∧ (((v2 = 0) → P (some (0, 0)) V1) ∧ ((¬ v2 = 0) → (∃ b4 : Nat, (R p0 6 = (b4 : Int) ∧ lay1 G R b4) ∧ ((0 ≤ x1 ∧ x1 < 8) ∧ (((V1 (b4 + 1) x1) = 0 ∨ (V1 (b4 + 1) x1) = 1) → ((((V1 (b4 + 1) x1) = 0) → P (some (0, 0)) V1) ∧ ((¬ (V1 (b4 + 1) x1) = 0) → P (some (0, 1)) V1))))))))) 141 [(0, x1)] G R V) : wpv K_X7_isAct d P 0 [some (4, (p0 : Int)), some (0, x1)] [] G R V := by
  refine wp_ld (i := (.iload_n 1)) (0, x1) rfl rfl (fun _ => rfl) rfl rfl (?_ : wpv K_X7_isAct d P 1 [some (4, (p0 : Int)), some (0, x1)] [(0, x1)] G R V)
  refine wp_stat (as := [(0, x1)]) (st := []) _ rfl rfl rfl (by omega) rfl rfl (Nat.le_of_ble_eq_true rfl) (cwv_kI w (fun v2 V1 w => ?_))
  show wpv K_X7_isAct d P 4 [some (4, (p0 : Int)), some (0, x1)] [(0, v2)] G R V1
  obtain ⟨s3, w⟩ := w
  refine wp_if (c := .eq) 23 rfl rfl rfl s3 (fun q => ?_) (fun q => ?_)
  · have q : v2 = 0 := q
    replace w := w.1 q
    show wpv K_X7_isAct d P 23 [some (4, (p0 : Int)), some (0, x1)] [] G R V1
    refine wp_p (i := (.iconst 0)) rfl rfl (fun _ _ _ => rfl) (?_ : wpv K_X7_isAct d P 24 [some (4, (p0 : Int)), some (0, x1)] [(0, 0)] G R V1)
    exact wp_rB rfl rfl rfl (by omega) w
  · have q : ¬ v2 = 0 := q
    replace w := w.2 q
    show wpv K_X7_isAct d P 7 [some (4, (p0 : Int)), some (0, x1)] [] G R V1
    refine wp_ld (i := (.aload_n 0)) (4, (p0 : Int)) rfl rfl (fun _ => rfl) rfl rfl (?_ : wpv K_X7_isAct d P 8 [some (4, (p0 : Int)), some (0, x1)] [(4, (p0 : Int))] G R V1)
    obtain ⟨b4, ⟨r4, l4_⟩, w⟩ := w
    refine wp_getA (k := 6) rfl rfl rfl (ly7_o l0) rfl rfl r4 (?_ : wpv K_X7_isAct d P 11 [some (4, (p0 : Int)), some (0, x1)] [(4, (b4 : Int))] G R V1)
    refine wp_getA (k := 1) rfl rfl rfl (ly1_o l4_) rfl rfl (ly1_1 l4_).1 (?_ : wpv K_X7_isAct d P 14 [some (4, (p0 : Int)), some (0, x1)] [(4, ((b4 + 1 : Nat) : Int))] G R V1)
    refine wp_ld (i := (.iload_n 1)) (0, x1) rfl rfl (fun _ => rfl) rfl rfl (?_ : wpv K_X7_isAct d P 15 [some (4, (p0 : Int)), some (0, x1)] [(0, x1), (4, ((b4 + 1 : Nat) : Int))] G R V1)
    obtain ⟨s5, w⟩ := w
    refine wp_rng (fun vr6 => ?_)
    have f7 : (V1 (b4 + 1) x1) = 0 ∨ (V1 (b4 + 1) x1) = 1 := vr_a2 vr6 (ly1_1 l4_).2 s5
    replace w := w f7
    have f8 : i32 (V1 (b4 + 1) x1) := by unfold i32; omega
    refine wp_aB rfl rfl (ly1_1 l4_).2 s5 (?_ : wpv K_X7_isAct d P 16 [some (4, (p0 : Int)), some (0, x1)] [(0, (V1 (b4 + 1) x1))] G R V1)
    refine wp_if (c := .eq) 23 rfl rfl rfl f8 (fun q => ?_) (fun q => ?_)
    · have q : (V1 (b4 + 1) x1) = 0 := q
      replace w := w.1 q
      show wpv K_X7_isAct d P 23 [some (4, (p0 : Int)), some (0, x1)] [] G R V1
      refine wp_p (i := (.iconst 0)) rfl rfl (fun _ _ _ => rfl) (?_ : wpv K_X7_isAct d P 24 [some (4, (p0 : Int)), some (0, x1)] [(0, 0)] G R V1)
      exact wp_rB rfl rfl rfl (by omega) w
    · have q : ¬ (V1 (b4 + 1) x1) = 0 := q
      replace w := w.2 q
      show wpv K_X7_isAct d P 19 [some (4, (p0 : Int)), some (0, x1)] [] G R V1
      refine wp_p (i := (.iconst 1)) rfl rfl (fun _ _ _ => rfl) (?_ : wpv K_X7_isAct d P 20 [some (4, (p0 : Int)), some (0, x1)] [(0, 1)] G R V1)
      refine wp_go 24 rfl rfl rfl (?_ : wpv K_X7_isAct d P 24 [some (4, (p0 : Int)), some (0, x1)] [(0, 1)] G R V1)
      exact wp_rB rfl rfl rfl (by omega) w
theorem t_X7_keepMade_0 {d : Nat} {P : gP} {p0 : Nat} {x1 : Int} {G : List gS} {R V : gV} (l0 : lay7 G R p0) (w : (∃ b1 : Nat, (R p0 6 = (b1 : Int) ∧ lay1 G R b1) ∧ cwv d (fun r V2 => r = none ∧ cwv d (fun r V3 => ∃ v4 : Int, r = some (2, v4) ∧ P (some (2, v4)) V3) 23 [(4, (b1 : Int)), (0, x1)] G R (wr V2 p0 7 0)) 19 [(4, (b1 : Int)), (0, x1), (4, ((p0 + 15 : Nat) : Int))] G R V)) : wpv K_X7_keepMade d P 0 [some (4, (p0 : Int)), some (0, x1)] [] G R V := by
  refine wp_ld (i := (.aload_n 0)) (4, (p0 : Int)) rfl rfl (fun _ => rfl) rfl rfl (?_ : wpv K_X7_keepMade d P 1 [some (4, (p0 : Int)), some (0, x1)] [(4, (p0 : Int))] G R V)
  obtain ⟨b1, ⟨r1, l1_⟩, w⟩ := w
  refine wp_getA (k := 6) rfl rfl rfl (ly7_o l0) rfl rfl r1 (?_ : wpv K_X7_keepMade d P 4 [some (4, (p0 : Int)), some (0, x1)] [(4, (b1 : Int))] G R V)
  refine wp_ld (i := (.iload_n 1)) (0, x1) rfl rfl (fun _ => rfl) rfl rfl (?_ : wpv K_X7_keepMade d P 5 [some (4, (p0 : Int)), some (0, x1)] [(0, x1), (4, (b1 : Int))] G R V)
  refine wp_ld (i := (.aload_n 0)) (4, (p0 : Int)) rfl rfl (fun _ => rfl) rfl rfl (?_ : wpv K_X7_keepMade d P 6 [some (4, (p0 : Int)), some (0, x1)] [(4, (p0 : Int)), (0, x1), (4, (b1 : Int))] G R V)
  refine wp_getA (k := 3) rfl rfl rfl (ly7_o l0) rfl rfl (ly7_3 l0).1 (?_ : wpv K_X7_keepMade d P 9 [some (4, (p0 : Int)), some (0, x1)] [(4, ((p0 + 15 : Nat) : Int)), (0, x1), (4, (b1 : Int))] G R V)
  refine wp_virt (as := [(0, x1), (4, ((p0 + 15 : Nat) : Int))]) (a := b1) (st := []) _ rfl rfl rfl rfl rfl rfl (ly1_o l1_) (Nat.le_of_ble_eq_true rfl) (cwv_k0 w (fun V2 w => ?_))
  show wpv K_X7_keepMade d P 12 [some (4, (p0 : Int)), some (0, x1)] [] G R V2
  refine wp_ld (i := (.aload_n 0)) (4, (p0 : Int)) rfl rfl (fun _ => rfl) rfl rfl (?_ : wpv K_X7_keepMade d P 13 [some (4, (p0 : Int)), some (0, x1)] [(4, (p0 : Int))] G R V2)
  refine wp_p (i := (.iconst 0)) rfl rfl (fun _ _ _ => rfl) (?_ : wpv K_X7_keepMade d P 14 [some (4, (p0 : Int)), some (0, x1)] [(0, 0), (4, (p0 : Int))] G R V2)
  refine wp_putI (k := 7) rfl rfl rfl (ly7_o l0) rfl rfl rfl ⟨by omega, by omega⟩ (?_ : wpv K_X7_keepMade d P 17 [some (4, (p0 : Int)), some (0, x1)] [] G R (wr V2 p0 7 0))
  refine wp_ld (i := (.aload_n 0)) (4, (p0 : Int)) rfl rfl (fun _ => rfl) rfl rfl (?_ : wpv K_X7_keepMade d P 18 [some (4, (p0 : Int)), some (0, x1)] [(4, (p0 : Int))] G R (wr V2 p0 7 0))
  refine wp_getA (k := 6) rfl rfl rfl (ly7_o l0) rfl rfl r1 (?_ : wpv K_X7_keepMade d P 21 [some (4, (p0 : Int)), some (0, x1)] [(4, (b1 : Int))] G R (wr V2 p0 7 0))
  refine wp_ld (i := (.iload_n 1)) (0, x1) rfl rfl (fun _ => rfl) rfl rfl (?_ : wpv K_X7_keepMade d P 22 [some (4, (p0 : Int)), some (0, x1)] [(0, x1), (4, (b1 : Int))] G R (wr V2 p0 7 0))
  refine wp_virt (as := [(0, x1)]) (a := b1) (st := []) _ rfl rfl rfl rfl rfl rfl (ly1_o l1_) (Nat.le_of_ble_eq_true rfl) (cwv_kJ w (fun v4 V3 w => ?_))
  show wpv K_X7_keepMade d P 25 [some (4, (p0 : Int)), some (0, x1)] [(2, v4)] G R V3
  exact wp_rJ rfl rfl rfl w
theorem t_X7_readSheets_0 {d : Nat} {P : gP} {p0 : Nat} {x1 : Int} {G : List gS} {R V : gV} (l0 : lay7 G R p0) (w : wpv K_X7_readSheets d P 2 [some (4, (p0 : Int)), some (0, x1), some (0, 0)] [] G R V) : wpv K_X7_readSheets d P 0 [some (4, (p0 : Int)), some (0, x1)] [] G R V := by
  refine wp_p (i := (.iconst 0)) rfl rfl (fun _ _ _ => rfl) (?_ : wpv K_X7_readSheets d P 1 [some (4, (p0 : Int)), some (0, x1)] [(0, 0)] G R V)
  refine wp_sto (i := (.istore_n 2)) _ rfl rfl (fun _ => rfl) rfl rfl rfl ?_
  refine wp_wk (L' := [some (4, (p0 : Int)), some (0, x1), some (0, 0)]) (wk_s (wk_s (wk_s wk_0))) ?_
  show wpv K_X7_readSheets d P 2 [some (4, (p0 : Int)), some (0, x1), some (0, 0)] [] G R V
  exact wp_wk (wk_s (wk_s (wk_s wk_0))) w

theorem t_X7_readSheets_2 {d : Nat} {P : gP} {p0 : Nat} {x1 : Int} {x2 : Int} {G : List gS} {R V : gV} (l0 : lay7 G R p0) (w : ((i32 x2) ∧ (((¬ x2 < 4) → P (some (0, 1)) V) ∧ ((x2 < 4) → ((0 ≤ x2 ∧ x2 < 4) ∧ (∃ b3 : Nat, (R (p0 + 1) x2 = (b3 : Int) ∧ lay5 G R b3) ∧ cwv d (fun r V4 => ∃ v5 : Int, r = some (0, v5) ∧ ((i32 v5) ∧ (((¬ v5 = (-1)) → ((i32 (x2 + 1)) ∧ wpv K_X7_readSheets d P 2 [some (4, (p0 : Int)), some (0, x1), some (0, (x2 + 1))] [] G R (wr V4 (p0 + 2) x2 v5))) ∧ ((v5 = (-1)) → P (some (0, 0)) V4)))) 86 [(4, (b3 : Int)), (0, x1)] G R V)))))) : wpv K_X7_readSheets d P 2 [some (4, (p0 : Int)), some (0, x1), some (0, x2)] [] G R V := by
  refine wp_ld (i := (.iload_n 2)) (0, x2) rfl rfl (fun _ => rfl) rfl rfl (?_ : wpv K_X7_readSheets d P 3 [some (4, (p0 : Int)), some (0, x1), some (0, x2)] [(0, x2)] G R V)
  refine wp_p (i := (.iconst 4)) rfl rfl (fun _ _ _ => rfl) (?_ : wpv K_X7_readSheets d P 4 [some (4, (p0 : Int)), some (0, x1), some (0, x2)] [(0, 4), (0, x2)] G R V)
  obtain ⟨s1, w⟩ := w
  refine wp_icmp (c := .ge) 38 rfl rfl rfl s1 ⟨by omega, by omega⟩ (fun q => ?_) (fun q => ?_)
  · have q : ¬ x2 < 4 := q
    replace w := w.1 q
    show wpv K_X7_readSheets d P 38 [some (4, (p0 : Int)), some (0, x1), some (0, x2)] [] G R V
    refine wp_p (i := (.iconst 1)) rfl rfl (fun _ _ _ => rfl) (?_ : wpv K_X7_readSheets d P 39 [some (4, (p0 : Int)), some (0, x1), some (0, x2)] [(0, 1)] G R V)
    exact wp_rB rfl rfl rfl (by omega) w
  · have q : x2 < 4 := Decidable.not_not.mp q
    replace w := w.2 q
    show wpv K_X7_readSheets d P 7 [some (4, (p0 : Int)), some (0, x1), some (0, x2)] [] G R V
    refine wp_ld (i := (.aload_n 0)) (4, (p0 : Int)) rfl rfl (fun _ => rfl) rfl rfl (?_ : wpv K_X7_readSheets d P 8 [some (4, (p0 : Int)), some (0, x1), some (0, x2)] [(4, (p0 : Int))] G R V)
    refine wp_getA (k := 0) rfl rfl rfl (ly7_o l0) rfl rfl (ly7_0 l0).1 (?_ : wpv K_X7_readSheets d P 11 [some (4, (p0 : Int)), some (0, x1), some (0, x2)] [(4, ((p0 + 1 : Nat) : Int))] G R V)
    refine wp_ld (i := (.iload_n 2)) (0, x2) rfl rfl (fun _ => rfl) rfl rfl (?_ : wpv K_X7_readSheets d P 12 [some (4, (p0 : Int)), some (0, x1), some (0, x2)] [(0, x2), (4, ((p0 + 1 : Nat) : Int))] G R V)
    obtain ⟨s2, w⟩ := w
    obtain ⟨b3, ⟨r3, l3_⟩, w⟩ := w
    refine wp_aA rfl rfl (ly7_0 l0).2 rfl s2 r3 (?_ : wpv K_X7_readSheets d P 13 [some (4, (p0 : Int)), some (0, x1), some (0, x2)] [(4, (b3 : Int))] G R V)
    refine wp_ld (i := (.iload_n 1)) (0, x1) rfl rfl (fun _ => rfl) rfl rfl (?_ : wpv K_X7_readSheets d P 14 [some (4, (p0 : Int)), some (0, x1), some (0, x2)] [(0, x1), (4, (b3 : Int))] G R V)
    refine wp_virt (as := [(0, x1)]) (a := b3) (st := []) _ rfl rfl rfl rfl rfl rfl (ly5_o l3_) (Nat.le_of_ble_eq_true rfl) (cwv_kI w (fun v5 V4 w => ?_))
    show wpv K_X7_readSheets d P 17 [some (4, (p0 : Int)), some (0, x1), some (0, x2)] [(0, v5)] G R V4
    refine wp_sto (i := (.istore_n 3)) _ rfl rfl (fun _ => rfl) rfl rfl rfl ?_
    refine wp_wk (L' := [some (4, (p0 : Int)), some (0, x1), some (0, x2), some (0, v5)]) (wk_s (wk_s (wk_s (wk_s wk_0)))) ?_
    show wpv K_X7_readSheets d P 18 [some (4, (p0 : Int)), some (0, x1), some (0, x2), some (0, v5)] [] G R V4
    refine wp_ld (i := (.iload_n 3)) (0, v5) rfl rfl (fun _ => rfl) rfl rfl (?_ : wpv K_X7_readSheets d P 19 [some (4, (p0 : Int)), some (0, x1), some (0, x2), some (0, v5)] [(0, v5)] G R V4)
    refine wp_p (i := (.iconst (-1))) rfl rfl (fun _ _ _ => rfl) (?_ : wpv K_X7_readSheets d P 20 [some (4, (p0 : Int)), some (0, x1), some (0, x2), some (0, v5)] [(0, (-1)), (0, v5)] G R V4)
    obtain ⟨s6, w⟩ := w
    refine wp_icmp (c := .ne) 25 rfl rfl rfl s6 ⟨by omega, by omega⟩ (fun q => ?_) (fun q => ?_)
    · have q : ¬ v5 = (-1) := q
      replace w := w.1 q
      show wpv K_X7_readSheets d P 25 [some (4, (p0 : Int)), some (0, x1), some (0, x2), some (0, v5)] [] G R V4
      refine wp_ld (i := (.aload_n 0)) (4, (p0 : Int)) rfl rfl (fun _ => rfl) rfl rfl (?_ : wpv K_X7_readSheets d P 26 [some (4, (p0 : Int)), some (0, x1), some (0, x2), some (0, v5)] [(4, (p0 : Int))] G R V4)
      refine wp_getA (k := 1) rfl rfl rfl (ly7_o l0) rfl rfl (ly7_1 l0).1 (?_ : wpv K_X7_readSheets d P 29 [some (4, (p0 : Int)), some (0, x1), some (0, x2), some (0, v5)] [(4, ((p0 + 2 : Nat) : Int))] G R V4)
      refine wp_ld (i := (.iload_n 2)) (0, x2) rfl rfl (fun _ => rfl) rfl rfl (?_ : wpv K_X7_readSheets d P 30 [some (4, (p0 : Int)), some (0, x1), some (0, x2), some (0, v5)] [(0, x2), (4, ((p0 + 2 : Nat) : Int))] G R V4)
      refine wp_ld (i := (.iload_n 3)) (0, v5) rfl rfl (fun _ => rfl) rfl rfl (?_ : wpv K_X7_readSheets d P 31 [some (4, (p0 : Int)), some (0, x1), some (0, x2), some (0, v5)] [(0, v5), (0, x2), (4, ((p0 + 2 : Nat) : Int))] G R V4)
      refine wp_sI rfl rfl (ly7_1 l0).2 s2 s6 (?_ : wpv K_X7_readSheets d P 32 [some (4, (p0 : Int)), some (0, x1), some (0, x2), some (0, v5)] [] G R (wr V4 (p0 + 2) x2 v5))
      obtain ⟨s7, w⟩ := w
      refine wp_inc (x := 2) (k := 1) (a := x2) (c := (x2 + 1)) _ rfl rfl rfl rfl s7 (by omega) rfl ?_
      show wpv K_X7_readSheets d P 35 [some (4, (p0 : Int)), some (0, x1), some (0, (x2 + 1)), some (0, v5)] [] G R (wr V4 (p0 + 2) x2 v5)
      refine wp_go 2 rfl rfl rfl (?_ : wpv K_X7_readSheets d P 2 [some (4, (p0 : Int)), some (0, x1), some (0, (x2 + 1)), some (0, v5)] [] G R (wr V4 (p0 + 2) x2 v5))
      exact wp_wk (wk_s (wk_s (wk_s wk_0))) w
    · have q : v5 = (-1) := Decidable.not_not.mp q
      replace w := w.2 q
      show wpv K_X7_readSheets d P 23 [some (4, (p0 : Int)), some (0, x1), some (0, x2), some (0, v5)] [] G R V4
      refine wp_p (i := (.iconst 0)) rfl rfl (fun _ _ _ => rfl) (?_ : wpv K_X7_readSheets d P 24 [some (4, (p0 : Int)), some (0, x1), some (0, x2), some (0, v5)] [(0, 0)] G R V4)
      exact wp_rB rfl rfl rfl (by omega) w
theorem t_X7_isInUse_0 {d : Nat} {P : gP} {p0 : Nat} {p1 : Nat} {G : List gS} {R V : gV} (l0 : lay7 G R p0) (l1 : lay2 G R p1) (w : (∃ b1 : Nat, (R p0 6 = (b1 : Int) ∧ lay1 G R b1) ∧ (∃ b2 : Nat, (R b1 0 = (b2 : Int) ∧ lay2 G R b2) ∧ (((¬ b2 = p1) → wpv K_X7_isInUse d P 15 [some (4, (p0 : Int)), some (4, (p1 : Int)), some (0, 0)] [] G R V) ∧ ((b2 = p1) → P (some (0, 1)) V))))) : wpv K_X7_isInUse d P 0 [some (4, (p0 : Int)), some (4, (p1 : Int))] [] G R V := by
  refine wp_ld (i := (.aload_n 0)) (4, (p0 : Int)) rfl rfl (fun _ => rfl) rfl rfl (?_ : wpv K_X7_isInUse d P 1 [some (4, (p0 : Int)), some (4, (p1 : Int))] [(4, (p0 : Int))] G R V)
  obtain ⟨b1, ⟨r1, l1_⟩, w⟩ := w
  refine wp_getA (k := 6) rfl rfl rfl (ly7_o l0) rfl rfl r1 (?_ : wpv K_X7_isInUse d P 4 [some (4, (p0 : Int)), some (4, (p1 : Int))] [(4, (b1 : Int))] G R V)
  obtain ⟨b2, ⟨r2, l2_⟩, w⟩ := w
  refine wp_getA (k := 0) rfl rfl rfl (ly1_o l1_) rfl rfl r2 (?_ : wpv K_X7_isInUse d P 7 [some (4, (p0 : Int)), some (4, (p1 : Int))] [(4, (b2 : Int))] G R V)
  refine wp_ld (i := (.aload_n 1)) (4, (p1 : Int)) rfl rfl (fun _ => rfl) rfl rfl (?_ : wpv K_X7_isInUse d P 8 [some (4, (p0 : Int)), some (4, (p1 : Int))] [(4, (p1 : Int)), (4, (b2 : Int))] G R V)
  refine wp_acmp (c := .ne) 13 rfl rfl rfl (fun q => ?_) (fun q => ?_)
  · have q : ¬ b2 = p1 := q
    replace w := w.1 q
    show wpv K_X7_isInUse d P 13 [some (4, (p0 : Int)), some (4, (p1 : Int))] [] G R V
    refine wp_p (i := (.iconst 0)) rfl rfl (fun _ _ _ => rfl) (?_ : wpv K_X7_isInUse d P 14 [some (4, (p0 : Int)), some (4, (p1 : Int))] [(0, 0)] G R V)
    refine wp_sto (i := (.istore_n 2)) _ rfl rfl (fun _ => rfl) rfl rfl rfl ?_
    refine wp_wk (L' := [some (4, (p0 : Int)), some (4, (p1 : Int)), some (0, 0)]) (wk_s (wk_s (wk_s wk_0))) ?_
    show wpv K_X7_isInUse d P 15 [some (4, (p0 : Int)), some (4, (p1 : Int)), some (0, 0)] [] G R V
    exact wp_wk (wk_s (wk_s (wk_s wk_0))) w
  · have q : b2 = p1 := Decidable.not_not.mp q
    replace w := w.2 q
    show wpv K_X7_isInUse d P 11 [some (4, (p0 : Int)), some (4, (p1 : Int))] [] G R V
    refine wp_p (i := (.iconst 1)) rfl rfl (fun _ _ _ => rfl) (?_ : wpv K_X7_isInUse d P 12 [some (4, (p0 : Int)), some (4, (p1 : Int))] [(0, 1)] G R V)
    exact wp_rB rfl rfl rfl (by omega) w

theorem t_X7_isInUse_15 {d : Nat} {P : gP} {p0 : Nat} {p1 : Nat} {x2 : Int} {G : List gS} {R V : gV} (l0 : lay7 G R p0) (l1 : lay2 G R p1) (w : ((i32 x2) ∧ (((¬ x2 < 3) → P (some (0, 0)) V) ∧ ((x2 < 3) → ((0 ≤ x2 ∧ x2 < 3) ∧ (((R (p0 + 20) x2 < 0) → ((i32 (x2 + 1)) ∧ wpv K_X7_isInUse d P 15 [some (4, (p0 : Int)), some (4, (p1 : Int)), some (0, (x2 + 1))] [] G R V)) ∧ ((¬ R (p0 + 20) x2 < 0) → (∃ b4 : Nat, (R (p0 + 20) x2 = (b4 : Int) ∧ lay1 G R b4) ∧ (∃ b5 : Nat, (R b4 0 = (b5 : Int) ∧ lay2 G R b5) ∧ (((¬ b5 = p1) → ((i32 (x2 + 1)) ∧ wpv K_X7_isInUse d P 15 [some (4, (p0 : Int)), some (4, (p1 : Int)), some (0, (x2 + 1))] [] G R V)) ∧ ((b5 = p1) → P (some (0, 1)) V))))))))))) : wpv K_X7_isInUse d P 15 [some (4, (p0 : Int)), some (4, (p1 : Int)), some (0, x2)] [] G R V := by
  refine wp_ld (i := (.iload_n 2)) (0, x2) rfl rfl (fun _ => rfl) rfl rfl (?_ : wpv K_X7_isInUse d P 16 [some (4, (p0 : Int)), some (4, (p1 : Int)), some (0, x2)] [(0, x2)] G R V)
  refine wp_p (i := (.iconst 3)) rfl rfl (fun _ _ _ => rfl) (?_ : wpv K_X7_isInUse d P 17 [some (4, (p0 : Int)), some (4, (p1 : Int)), some (0, x2)] [(0, 3), (0, x2)] G R V)
  obtain ⟨s1, w⟩ := w
  refine wp_icmp (c := .ge) 50 rfl rfl rfl s1 ⟨by omega, by omega⟩ (fun q => ?_) (fun q => ?_)
  · have q : ¬ x2 < 3 := q
    replace w := w.1 q
    show wpv K_X7_isInUse d P 50 [some (4, (p0 : Int)), some (4, (p1 : Int)), some (0, x2)] [] G R V
    refine wp_p (i := (.iconst 0)) rfl rfl (fun _ _ _ => rfl) (?_ : wpv K_X7_isInUse d P 51 [some (4, (p0 : Int)), some (4, (p1 : Int)), some (0, x2)] [(0, 0)] G R V)
    exact wp_rB rfl rfl rfl (by omega) w
  · have q : x2 < 3 := Decidable.not_not.mp q
    replace w := w.2 q
    show wpv K_X7_isInUse d P 20 [some (4, (p0 : Int)), some (4, (p1 : Int)), some (0, x2)] [] G R V
    refine wp_ld (i := (.aload_n 0)) (4, (p0 : Int)) rfl rfl (fun _ => rfl) rfl rfl (?_ : wpv K_X7_isInUse d P 21 [some (4, (p0 : Int)), some (4, (p1 : Int)), some (0, x2)] [(4, (p0 : Int))] G R V)
    refine wp_getA (k := 5) rfl rfl rfl (ly7_o l0) rfl rfl (ly7_5 l0).1 (?_ : wpv K_X7_isInUse d P 24 [some (4, (p0 : Int)), some (4, (p1 : Int)), some (0, x2)] [(4, ((p0 + 20 : Nat) : Int))] G R V)
    refine wp_ld (i := (.iload_n 2)) (0, x2) rfl rfl (fun _ => rfl) rfl rfl (?_ : wpv K_X7_isInUse d P 25 [some (4, (p0 : Int)), some (4, (p1 : Int)), some (0, x2)] [(0, x2), (4, ((p0 + 20 : Nat) : Int))] G R V)
    obtain ⟨s2, w⟩ := w
    refine wp_aN rfl rfl (ly7_5 l0).2 rfl s2 (?_ : wpv K_X7_isInUse d P 26 [some (4, (p0 : Int)), some (4, (p1 : Int)), some (0, x2)] [(rf (R (p0 + 20) x2))] G R V)
    refine wp_null (i := (.ifnull 18)) (b := true) 44 rfl rfl (fun _ => rfl) rfl (fun q => ?_) (fun q => ?_)
    · have q : R (p0 + 20) x2 < 0 := by simpa using q
      replace w := w.1 q
      show wpv K_X7_isInUse d P 44 [some (4, (p0 : Int)), some (4, (p1 : Int)), some (0, x2)] [] G R V
      obtain ⟨s3, w⟩ := w
      refine wp_inc (x := 2) (k := 1) (a := x2) (c := (x2 + 1)) _ rfl rfl rfl rfl s3 (by omega) rfl ?_
      show wpv K_X7_isInUse d P 47 [some (4, (p0 : Int)), some (4, (p1 : Int)), some (0, (x2 + 1))] [] G R V
      refine wp_go 15 rfl rfl rfl (?_ : wpv K_X7_isInUse d P 15 [some (4, (p0 : Int)), some (4, (p1 : Int)), some (0, (x2 + 1))] [] G R V)
      exact wp_wk (wk_s (wk_s (wk_s wk_0))) w
    · have q : ¬ R (p0 + 20) x2 < 0 := by simpa using q
      replace w := w.2 q
      show wpv K_X7_isInUse d P 29 [some (4, (p0 : Int)), some (4, (p1 : Int)), some (0, x2)] [] G R V
      refine wp_ld (i := (.aload_n 0)) (4, (p0 : Int)) rfl rfl (fun _ => rfl) rfl rfl (?_ : wpv K_X7_isInUse d P 30 [some (4, (p0 : Int)), some (4, (p1 : Int)), some (0, x2)] [(4, (p0 : Int))] G R V)
      refine wp_getA (k := 5) rfl rfl rfl (ly7_o l0) rfl rfl (ly7_5 l0).1 (?_ : wpv K_X7_isInUse d P 33 [some (4, (p0 : Int)), some (4, (p1 : Int)), some (0, x2)] [(4, ((p0 + 20 : Nat) : Int))] G R V)
      refine wp_ld (i := (.iload_n 2)) (0, x2) rfl rfl (fun _ => rfl) rfl rfl (?_ : wpv K_X7_isInUse d P 34 [some (4, (p0 : Int)), some (4, (p1 : Int)), some (0, x2)] [(0, x2), (4, ((p0 + 20 : Nat) : Int))] G R V)
      obtain ⟨b4, ⟨r4, l4_⟩, w⟩ := w
      refine wp_aA rfl rfl (ly7_5 l0).2 rfl s2 r4 (?_ : wpv K_X7_isInUse d P 35 [some (4, (p0 : Int)), some (4, (p1 : Int)), some (0, x2)] [(4, (b4 : Int))] G R V)
      obtain ⟨b5, ⟨r5, l5_⟩, w⟩ := w
      refine wp_getA (k := 0) rfl rfl rfl (ly1_o l4_) rfl rfl r5 (?_ : wpv K_X7_isInUse d P 38 [some (4, (p0 : Int)), some (4, (p1 : Int)), some (0, x2)] [(4, (b5 : Int))] G R V)
      refine wp_ld (i := (.aload_n 1)) (4, (p1 : Int)) rfl rfl (fun _ => rfl) rfl rfl (?_ : wpv K_X7_isInUse d P 39 [some (4, (p0 : Int)), some (4, (p1 : Int)), some (0, x2)] [(4, (p1 : Int)), (4, (b5 : Int))] G R V)
      refine wp_acmp (c := .ne) 44 rfl rfl rfl (fun q => ?_) (fun q => ?_)
      · have q : ¬ b5 = p1 := q
        replace w := w.1 q
        show wpv K_X7_isInUse d P 44 [some (4, (p0 : Int)), some (4, (p1 : Int)), some (0, x2)] [] G R V
        obtain ⟨s6, w⟩ := w
        refine wp_inc (x := 2) (k := 1) (a := x2) (c := (x2 + 1)) _ rfl rfl rfl rfl s6 (by omega) rfl ?_
        show wpv K_X7_isInUse d P 47 [some (4, (p0 : Int)), some (4, (p1 : Int)), some (0, (x2 + 1))] [] G R V
        refine wp_go 15 rfl rfl rfl (?_ : wpv K_X7_isInUse d P 15 [some (4, (p0 : Int)), some (4, (p1 : Int)), some (0, (x2 + 1))] [] G R V)
        exact wp_wk (wk_s (wk_s (wk_s wk_0))) w
      · have q : b5 = p1 := Decidable.not_not.mp q
        replace w := w.2 q
        show wpv K_X7_isInUse d P 42 [some (4, (p0 : Int)), some (4, (p1 : Int)), some (0, x2)] [] G R V
        refine wp_p (i := (.iconst 1)) rfl rfl (fun _ _ _ => rfl) (?_ : wpv K_X7_isInUse d P 43 [some (4, (p0 : Int)), some (4, (p1 : Int)), some (0, x2)] [(0, 1)] G R V)
        exact wp_rB rfl rfl rfl (by omega) w
theorem t_X7_whereTo_0 {d : Nat} {P : gP} {x0 : Int} {x1 : Int} {G : List gS} {R V : gV}  (w : ((i32 (7 - x1)) ∧ ((i32 (3 * (7 - x1))) ∧ P (some (0, (kand ((kshr x0 ((3 * (7 - x1))))) 7))) V))) : wpv K_X7_whereTo d P 0 [some (0, x0), some (0, x1)] [] G R V := by
  refine wp_ld (i := (.iload_n 0)) (0, x0) rfl rfl (fun _ => rfl) rfl rfl (?_ : wpv K_X7_whereTo d P 1 [some (0, x0), some (0, x1)] [(0, x0)] G R V)
  refine wp_p (i := (.iconst 3)) rfl rfl (fun _ _ _ => rfl) (?_ : wpv K_X7_whereTo d P 2 [some (0, x0), some (0, x1)] [(0, 3), (0, x0)] G R V)
  refine wp_p (i := (.bipush 7)) rfl rfl (fun _ _ _ => rfl) (?_ : wpv K_X7_whereTo d P 4 [some (0, x0), some (0, x1)] [(0, 7), (0, 3), (0, x0)] G R V)
  refine wp_ld (i := (.iload_n 1)) (0, x1) rfl rfl (fun _ => rfl) rfl rfl (?_ : wpv K_X7_whereTo d P 5 [some (0, x0), some (0, x1)] [(0, x1), (0, 7), (0, 3), (0, x0)] G R V)
  obtain ⟨s1, w⟩ := w
  refine wp_xsub rfl rfl s1 (?_ : wpv K_X7_whereTo d P 6 [some (0, x0), some (0, x1)] [(0, (7 - x1)), (0, 3), (0, x0)] G R V)
  obtain ⟨s2, w⟩ := w
  refine wp_xmul rfl rfl s2 (?_ : wpv K_X7_whereTo d P 7 [some (0, x0), some (0, x1)] [(0, (3 * (7 - x1))), (0, x0)] G R V)
  refine wp_kshr rfl rfl (?_ : wpv K_X7_whereTo d P 8 [some (0, x0), some (0, x1)] [(0, (kshr x0 ((3 * (7 - x1)))))] G R V)
  refine wp_p (i := (.bipush 7)) rfl rfl (fun _ _ _ => rfl) (?_ : wpv K_X7_whereTo d P 10 [some (0, x0), some (0, x1)] [(0, 7), (0, (kshr x0 ((3 * (7 - x1)))))] G R V)
  refine wp_kand rfl rfl (?_ : wpv K_X7_whereTo d P 11 [some (0, x0), some (0, x1)] [(0, (kand ((kshr x0 ((3 * (7 - x1))))) 7))] G R V)
  exact wp_rI rfl rfl rfl w
theorem t_X7_oneBehindOther_0 {d : Nat} {P : gP} {x0 : Int} {x1 : Int} {G : List gS} {R V : gV}  (w : wpv K_X7_oneBehindOther d P 4 [some (0, x0), some (0, x1), some (0, 0), some (0, 0)] [] G R V) : wpv K_X7_oneBehindOther d P 0 [some (0, x0), some (0, x1)] [] G R V := by
  refine wp_p (i := (.iconst 0)) rfl rfl (fun _ _ _ => rfl) (?_ : wpv K_X7_oneBehindOther d P 1 [some (0, x0), some (0, x1)] [(0, 0)] G R V)
  refine wp_sto (i := (.istore_n 2)) _ rfl rfl (fun _ => rfl) rfl rfl rfl ?_
  refine wp_wk (L' := [some (0, x0), some (0, x1), some (0, 0)]) (wk_s (wk_s (wk_s wk_0))) ?_
  show wpv K_X7_oneBehindOther d P 2 [some (0, x0), some (0, x1), some (0, 0)] [] G R V
  refine wp_p (i := (.iconst 0)) rfl rfl (fun _ _ _ => rfl) (?_ : wpv K_X7_oneBehindOther d P 3 [some (0, x0), some (0, x1), some (0, 0)] [(0, 0)] G R V)
  refine wp_sto (i := (.istore_n 3)) _ rfl rfl (fun _ => rfl) rfl rfl rfl ?_
  refine wp_wk (L' := [some (0, x0), some (0, x1), some (0, 0), some (0, 0)]) (wk_s (wk_s (wk_s (wk_s wk_0)))) ?_
  show wpv K_X7_oneBehindOther d P 4 [some (0, x0), some (0, x1), some (0, 0), some (0, 0)] [] G R V
  exact wp_wk (wk_s (wk_s (wk_s (wk_s wk_0)))) w

theorem t_X7_oneBehindOther_4 {d : Nat} {P : gP} {x0 : Int} {x1 : Int} {x2 : Int} {x3 : Int} {G : List gS} {R V : gV}  (w : ((i32 x3) ∧ (((¬ x3 < 8) → P (some (0, x2)) V) ∧ ((x3 < 8) → cwv d (fun r V2 => ∃ v3 : Int, r = some (0, v3) ∧ cwv d (fun r V4 => ∃ v5 : Int, r = some (0, v5) ∧ ((i32 (x3 + 1)) ∧ wpv K_X7_oneBehindOther d P 4 [some (0, x0), some (0, x1), some (0, (kor ((kshl x2 3)) v5)), some (0, (x3 + 1))] [] G R V4)) 147 [(0, x1), (0, v3)] G R V2) 147 [(0, x0), (0, x3)] G R V)))) : wpv K_X7_oneBehindOther d P 4 [some (0, x0), some (0, x1), some (0, x2), some (0, x3)] [] G R V := by
  refine wp_ld (i := (.iload_n 3)) (0, x3) rfl rfl (fun _ => rfl) rfl rfl (?_ : wpv K_X7_oneBehindOther d P 5 [some (0, x0), some (0, x1), some (0, x2), some (0, x3)] [(0, x3)] G R V)
  refine wp_p (i := (.bipush 8)) rfl rfl (fun _ _ _ => rfl) (?_ : wpv K_X7_oneBehindOther d P 7 [some (0, x0), some (0, x1), some (0, x2), some (0, x3)] [(0, 8), (0, x3)] G R V)
  obtain ⟨s1, w⟩ := w
  refine wp_icmp (c := .ge) 30 rfl rfl rfl s1 ⟨by omega, by omega⟩ (fun q => ?_) (fun q => ?_)
  · have q : ¬ x3 < 8 := q
    replace w := w.1 q
    show wpv K_X7_oneBehindOther d P 30 [some (0, x0), some (0, x1), some (0, x2), some (0, x3)] [] G R V
    refine wp_ld (i := (.iload_n 2)) (0, x2) rfl rfl (fun _ => rfl) rfl rfl (?_ : wpv K_X7_oneBehindOther d P 31 [some (0, x0), some (0, x1), some (0, x2), some (0, x3)] [(0, x2)] G R V)
    exact wp_rI rfl rfl rfl w
  · have q : x3 < 8 := Decidable.not_not.mp q
    replace w := w.2 q
    show wpv K_X7_oneBehindOther d P 10 [some (0, x0), some (0, x1), some (0, x2), some (0, x3)] [] G R V
    refine wp_ld (i := (.iload_n 2)) (0, x2) rfl rfl (fun _ => rfl) rfl rfl (?_ : wpv K_X7_oneBehindOther d P 11 [some (0, x0), some (0, x1), some (0, x2), some (0, x3)] [(0, x2)] G R V)
    refine wp_p (i := (.iconst 3)) rfl rfl (fun _ _ _ => rfl) (?_ : wpv K_X7_oneBehindOther d P 12 [some (0, x0), some (0, x1), some (0, x2), some (0, x3)] [(0, 3), (0, x2)] G R V)
    refine wp_kshl rfl rfl (?_ : wpv K_X7_oneBehindOther d P 13 [some (0, x0), some (0, x1), some (0, x2), some (0, x3)] [(0, (kshl x2 3))] G R V)
    refine wp_ld (i := (.iload_n 1)) (0, x1) rfl rfl (fun _ => rfl) rfl rfl (?_ : wpv K_X7_oneBehindOther d P 14 [some (0, x0), some (0, x1), some (0, x2), some (0, x3)] [(0, x1), (0, (kshl x2 3))] G R V)
    refine wp_ld (i := (.iload_n 0)) (0, x0) rfl rfl (fun _ => rfl) rfl rfl (?_ : wpv K_X7_oneBehindOther d P 15 [some (0, x0), some (0, x1), some (0, x2), some (0, x3)] [(0, x0), (0, x1), (0, (kshl x2 3))] G R V)
    refine wp_ld (i := (.iload_n 3)) (0, x3) rfl rfl (fun _ => rfl) rfl rfl (?_ : wpv K_X7_oneBehindOther d P 16 [some (0, x0), some (0, x1), some (0, x2), some (0, x3)] [(0, x3), (0, x0), (0, x1), (0, (kshl x2 3))] G R V)
    refine wp_stat (as := [(0, x0), (0, x3)]) (st := [(0, x1), (0, (kshl x2 3))]) _ rfl rfl rfl (by omega) rfl rfl (Nat.le_of_ble_eq_true rfl) (cwv_kI w (fun v3 V2 w => ?_))
    show wpv K_X7_oneBehindOther d P 19 [some (0, x0), some (0, x1), some (0, x2), some (0, x3)] [(0, v3), (0, x1), (0, (kshl x2 3))] G R V2
    refine wp_stat (as := [(0, x1), (0, v3)]) (st := [(0, (kshl x2 3))]) _ rfl rfl rfl (by omega) rfl rfl (Nat.le_of_ble_eq_true rfl) (cwv_kI w (fun v5 V4 w => ?_))
    show wpv K_X7_oneBehindOther d P 22 [some (0, x0), some (0, x1), some (0, x2), some (0, x3)] [(0, v5), (0, (kshl x2 3))] G R V4
    refine wp_kor rfl rfl (?_ : wpv K_X7_oneBehindOther d P 23 [some (0, x0), some (0, x1), some (0, x2), some (0, x3)] [(0, (kor ((kshl x2 3)) v5))] G R V4)
    refine wp_sto (i := (.istore_n 2)) _ rfl rfl (fun _ => rfl) rfl rfl rfl ?_
    refine wp_wk (L' := [some (0, x0), some (0, x1), some (0, (kor ((kshl x2 3)) v5)), some (0, x3)]) (wk_s (wk_s (wk_s (wk_s wk_0)))) ?_
    show wpv K_X7_oneBehindOther d P 24 [some (0, x0), some (0, x1), some (0, (kor ((kshl x2 3)) v5)), some (0, x3)] [] G R V4
    obtain ⟨s6, w⟩ := w
    refine wp_inc (x := 3) (k := 1) (a := x3) (c := (x3 + 1)) _ rfl rfl rfl rfl s6 (by omega) rfl ?_
    show wpv K_X7_oneBehindOther d P 27 [some (0, x0), some (0, x1), some (0, (kor ((kshl x2 3)) v5)), some (0, (x3 + 1))] [] G R V4
    refine wp_go 4 rfl rfl rfl (?_ : wpv K_X7_oneBehindOther d P 4 [some (0, x0), some (0, x1), some (0, (kor ((kshl x2 3)) v5)), some (0, (x3 + 1))] [] G R V4)
    exact wp_wk (wk_s (wk_s (wk_s (wk_s wk_0)))) w
theorem t_X7_holds_0 {d : Nat} {P : gP} {x0 : Int} {x2 : Int} {x4 : Int} {G : List gS} {R V : gV}  (w : ((i32 x4) ∧ (((¬ x4 < 64) → ((((jand ((jusr x2 ((kand x4 63)))) 1) = 0) → P (some (0, 0)) V) ∧ ((¬ (jand ((jusr x2 ((kand x4 63)))) 1) = 0) → P (some (0, 1)) V))) ∧ ((x4 < 64) → ((((jand ((jusr x0 ((kand x4 63)))) 1) = 0) → P (some (0, 0)) V) ∧ ((¬ (jand ((jusr x0 ((kand x4 63)))) 1) = 0) → P (some (0, 1)) V)))))) : wpv K_X7_holds d P 0 [some (2, x0), none, some (2, x2), none, some (0, x4)] [] G R V := by
  refine wp_ld (i := (.iload 4)) (0, x4) rfl rfl (fun _ => rfl) rfl rfl (?_ : wpv K_X7_holds d P 2 [some (2, x0), none, some (2, x2), none, some (0, x4)] [(0, x4)] G R V)
  refine wp_p (i := (.bipush 64)) rfl rfl (fun _ _ _ => rfl) (?_ : wpv K_X7_holds d P 4 [some (2, x0), none, some (2, x2), none, some (0, x4)] [(0, 64), (0, x4)] G R V)
  obtain ⟨s1, w⟩ := w
  refine wp_icmp (c := .ge) 11 rfl rfl rfl s1 ⟨by omega, by omega⟩ (fun q => ?_) (fun q => ?_)
  · have q : ¬ x4 < 64 := q
    replace w := w.1 q
    show wpv K_X7_holds d P 11 [some (2, x0), none, some (2, x2), none, some (0, x4)] [] G R V
    refine wp_ld (i := (.lload_n 2)) (2, x2) rfl rfl (fun _ => rfl) rfl rfl (?_ : wpv K_X7_holds d P 12 [some (2, x0), none, some (2, x2), none, some (0, x4)] [(2, x2)] G R V)
    refine wp_ld (i := (.iload 4)) (0, x4) rfl rfl (fun _ => rfl) rfl rfl (?_ : wpv K_X7_holds d P 14 [some (2, x0), none, some (2, x2), none, some (0, x4)] [(0, x4), (2, x2)] G R V)
    refine wp_p (i := (.bipush 63)) rfl rfl (fun _ _ _ => rfl) (?_ : wpv K_X7_holds d P 16 [some (2, x0), none, some (2, x2), none, some (0, x4)] [(0, 63), (0, x4), (2, x2)] G R V)
    refine wp_kand rfl rfl (?_ : wpv K_X7_holds d P 17 [some (2, x0), none, some (2, x2), none, some (0, x4)] [(0, (kand x4 63)), (2, x2)] G R V)
    refine wp_jusr rfl rfl (?_ : wpv K_X7_holds d P 18 [some (2, x0), none, some (2, x2), none, some (0, x4)] [(2, (jusr x2 ((kand x4 63))))] G R V)
    refine wp_p (i := (.lconst 1)) rfl rfl (fun _ _ _ => rfl) (?_ : wpv K_X7_holds d P 19 [some (2, x0), none, some (2, x2), none, some (0, x4)] [(2, 1), (2, (jusr x2 ((kand x4 63))))] G R V)
    refine wp_jand rfl rfl (?_ : wpv K_X7_holds d P 20 [some (2, x0), none, some (2, x2), none, some (0, x4)] [(2, (jand ((jusr x2 ((kand x4 63)))) 1))] G R V)
    refine wp_p (i := (.lconst 0)) rfl rfl (fun _ _ _ => rfl) (?_ : wpv K_X7_holds d P 21 [some (2, x0), none, some (2, x2), none, some (0, x4)] [(2, 0), (2, (jand ((jusr x2 ((kand x4 63)))) 1))] G R V)
    refine wp_lcmp rfl rfl (t64 _) ⟨by omega, by omega⟩ (?_ : wpv K_X7_holds d P 22 [some (2, x0), none, some (2, x2), none, some (0, x4)] [(0, sg ((jand ((jusr x2 ((kand x4 63)))) 1)) 0)] G R V)
    refine wp_if (c := .eq) 29 rfl rfl rfl (sg32 _ _) (fun q => ?_) (fun q => ?_)
    · have q : (jand ((jusr x2 ((kand x4 63)))) 1) = 0 := sg_eq.mp q
      replace w := w.1 q
      show wpv K_X7_holds d P 29 [some (2, x0), none, some (2, x2), none, some (0, x4)] [] G R V
      refine wp_p (i := (.iconst 0)) rfl rfl (fun _ _ _ => rfl) (?_ : wpv K_X7_holds d P 30 [some (2, x0), none, some (2, x2), none, some (0, x4)] [(0, 0)] G R V)
      exact wp_rB rfl rfl rfl (by omega) w
    · have q : ¬ (jand ((jusr x2 ((kand x4 63)))) 1) = 0 := fun z => q (sg_eq.mpr z)
      replace w := w.2 q
      show wpv K_X7_holds d P 25 [some (2, x0), none, some (2, x2), none, some (0, x4)] [] G R V
      refine wp_p (i := (.iconst 1)) rfl rfl (fun _ _ _ => rfl) (?_ : wpv K_X7_holds d P 26 [some (2, x0), none, some (2, x2), none, some (0, x4)] [(0, 1)] G R V)
      refine wp_go 30 rfl rfl rfl (?_ : wpv K_X7_holds d P 30 [some (2, x0), none, some (2, x2), none, some (0, x4)] [(0, 1)] G R V)
      exact wp_rB rfl rfl rfl (by omega) w
  · have q : x4 < 64 := Decidable.not_not.mp q
    replace w := w.2 q
    show wpv K_X7_holds d P 7 [some (2, x0), none, some (2, x2), none, some (0, x4)] [] G R V
    refine wp_ld (i := (.lload_n 0)) (2, x0) rfl rfl (fun _ => rfl) rfl rfl (?_ : wpv K_X7_holds d P 8 [some (2, x0), none, some (2, x2), none, some (0, x4)] [(2, x0)] G R V)
    refine wp_go 12 rfl rfl rfl (?_ : wpv K_X7_holds d P 12 [some (2, x0), none, some (2, x2), none, some (0, x4)] [(2, x0)] G R V)
    refine wp_ld (i := (.iload 4)) (0, x4) rfl rfl (fun _ => rfl) rfl rfl (?_ : wpv K_X7_holds d P 14 [some (2, x0), none, some (2, x2), none, some (0, x4)] [(0, x4), (2, x0)] G R V)
    refine wp_p (i := (.bipush 63)) rfl rfl (fun _ _ _ => rfl) (?_ : wpv K_X7_holds d P 16 [some (2, x0), none, some (2, x2), none, some (0, x4)] [(0, 63), (0, x4), (2, x0)] G R V)
    refine wp_kand rfl rfl (?_ : wpv K_X7_holds d P 17 [some (2, x0), none, some (2, x2), none, some (0, x4)] [(0, (kand x4 63)), (2, x0)] G R V)
    refine wp_jusr rfl rfl (?_ : wpv K_X7_holds d P 18 [some (2, x0), none, some (2, x2), none, some (0, x4)] [(2, (jusr x0 ((kand x4 63))))] G R V)
    refine wp_p (i := (.lconst 1)) rfl rfl (fun _ _ _ => rfl) (?_ : wpv K_X7_holds d P 19 [some (2, x0), none, some (2, x2), none, some (0, x4)] [(2, 1), (2, (jusr x0 ((kand x4 63))))] G R V)
    refine wp_jand rfl rfl (?_ : wpv K_X7_holds d P 20 [some (2, x0), none, some (2, x2), none, some (0, x4)] [(2, (jand ((jusr x0 ((kand x4 63)))) 1))] G R V)
    refine wp_p (i := (.lconst 0)) rfl rfl (fun _ _ _ => rfl) (?_ : wpv K_X7_holds d P 21 [some (2, x0), none, some (2, x2), none, some (0, x4)] [(2, 0), (2, (jand ((jusr x0 ((kand x4 63)))) 1))] G R V)
    refine wp_lcmp rfl rfl (t64 _) ⟨by omega, by omega⟩ (?_ : wpv K_X7_holds d P 22 [some (2, x0), none, some (2, x2), none, some (0, x4)] [(0, sg ((jand ((jusr x0 ((kand x4 63)))) 1)) 0)] G R V)
    refine wp_if (c := .eq) 29 rfl rfl rfl (sg32 _ _) (fun q => ?_) (fun q => ?_)
    · have q : (jand ((jusr x0 ((kand x4 63)))) 1) = 0 := sg_eq.mp q
      replace w := w.1 q
      show wpv K_X7_holds d P 29 [some (2, x0), none, some (2, x2), none, some (0, x4)] [] G R V
      refine wp_p (i := (.iconst 0)) rfl rfl (fun _ _ _ => rfl) (?_ : wpv K_X7_holds d P 30 [some (2, x0), none, some (2, x2), none, some (0, x4)] [(0, 0)] G R V)
      exact wp_rB rfl rfl rfl (by omega) w
    · have q : ¬ (jand ((jusr x0 ((kand x4 63)))) 1) = 0 := fun z => q (sg_eq.mpr z)
      replace w := w.2 q
      show wpv K_X7_holds d P 25 [some (2, x0), none, some (2, x2), none, some (0, x4)] [] G R V
      refine wp_p (i := (.iconst 1)) rfl rfl (fun _ _ _ => rfl) (?_ : wpv K_X7_holds d P 26 [some (2, x0), none, some (2, x2), none, some (0, x4)] [(0, 1)] G R V)
      refine wp_go 30 rfl rfl rfl (?_ : wpv K_X7_holds d P 30 [some (2, x0), none, some (2, x2), none, some (0, x4)] [(0, 1)] G R V)
      exact wp_rB rfl rfl rfl (by omega) w
theorem t_X7_lowBit_0 {d : Nat} {P : gP} {x0 : Int} {G : List gS} {R V : gV}  (w : ((i32 x0) ∧ (((¬ x0 < 64) → P (some (2, 0)) V) ∧ ((x0 < 64) → P (some (2, (jshl 1 ((kand x0 63))))) V)))) : wpv K_X7_lowBit d P 0 [some (0, x0)] [] G R V := by
  refine wp_ld (i := (.iload_n 0)) (0, x0) rfl rfl (fun _ => rfl) rfl rfl (?_ : wpv K_X7_lowBit d P 1 [some (0, x0)] [(0, x0)] G R V)
  refine wp_p (i := (.bipush 64)) rfl rfl (fun _ _ _ => rfl) (?_ : wpv K_X7_lowBit d P 3 [some (0, x0)] [(0, 64), (0, x0)] G R V)
  obtain ⟨s1, w⟩ := w
  refine wp_icmp (c := .ge) 15 rfl rfl rfl s1 ⟨by omega, by omega⟩ (fun q => ?_) (fun q => ?_)
  · have q : ¬ x0 < 64 := q
    replace w := w.1 q
    show wpv K_X7_lowBit d P 15 [some (0, x0)] [] G R V
    refine wp_p (i := (.lconst 0)) rfl rfl (fun _ _ _ => rfl) (?_ : wpv K_X7_lowBit d P 16 [some (0, x0)] [(2, 0)] G R V)
    exact wp_rJ rfl rfl rfl w
  · have q : x0 < 64 := Decidable.not_not.mp q
    replace w := w.2 q
    show wpv K_X7_lowBit d P 6 [some (0, x0)] [] G R V
    refine wp_p (i := (.lconst 1)) rfl rfl (fun _ _ _ => rfl) (?_ : wpv K_X7_lowBit d P 7 [some (0, x0)] [(2, 1)] G R V)
    refine wp_ld (i := (.iload_n 0)) (0, x0) rfl rfl (fun _ => rfl) rfl rfl (?_ : wpv K_X7_lowBit d P 8 [some (0, x0)] [(0, x0), (2, 1)] G R V)
    refine wp_p (i := (.bipush 63)) rfl rfl (fun _ _ _ => rfl) (?_ : wpv K_X7_lowBit d P 10 [some (0, x0)] [(0, 63), (0, x0), (2, 1)] G R V)
    refine wp_kand rfl rfl (?_ : wpv K_X7_lowBit d P 11 [some (0, x0)] [(0, (kand x0 63)), (2, 1)] G R V)
    refine wp_jshl rfl rfl (?_ : wpv K_X7_lowBit d P 12 [some (0, x0)] [(2, (jshl 1 ((kand x0 63))))] G R V)
    refine wp_go 16 rfl rfl rfl (?_ : wpv K_X7_lowBit d P 16 [some (0, x0)] [(2, (jshl 1 ((kand x0 63))))] G R V)
    exact wp_rJ rfl rfl rfl w
theorem t_X7_highBit_0 {d : Nat} {P : gP} {x0 : Int} {G : List gS} {R V : gV}  (w : ((i32 x0) ∧ (((¬ x0 < 64) → P (some (2, (jshl 1 ((kand x0 63))))) V) ∧ ((x0 < 64) → P (some (2, 0)) V)))) : wpv K_X7_highBit d P 0 [some (0, x0)] [] G R V := by
  refine wp_ld (i := (.iload_n 0)) (0, x0) rfl rfl (fun _ => rfl) rfl rfl (?_ : wpv K_X7_highBit d P 1 [some (0, x0)] [(0, x0)] G R V)
  refine wp_p (i := (.bipush 64)) rfl rfl (fun _ _ _ => rfl) (?_ : wpv K_X7_highBit d P 3 [some (0, x0)] [(0, 64), (0, x0)] G R V)
  obtain ⟨s1, w⟩ := w
  refine wp_icmp (c := .ge) 10 rfl rfl rfl s1 ⟨by omega, by omega⟩ (fun q => ?_) (fun q => ?_)
  · have q : ¬ x0 < 64 := q
    replace w := w.1 q
    show wpv K_X7_highBit d P 10 [some (0, x0)] [] G R V
    refine wp_p (i := (.lconst 1)) rfl rfl (fun _ _ _ => rfl) (?_ : wpv K_X7_highBit d P 11 [some (0, x0)] [(2, 1)] G R V)
    refine wp_ld (i := (.iload_n 0)) (0, x0) rfl rfl (fun _ => rfl) rfl rfl (?_ : wpv K_X7_highBit d P 12 [some (0, x0)] [(0, x0), (2, 1)] G R V)
    refine wp_p (i := (.bipush 63)) rfl rfl (fun _ _ _ => rfl) (?_ : wpv K_X7_highBit d P 14 [some (0, x0)] [(0, 63), (0, x0), (2, 1)] G R V)
    refine wp_kand rfl rfl (?_ : wpv K_X7_highBit d P 15 [some (0, x0)] [(0, (kand x0 63)), (2, 1)] G R V)
    refine wp_jshl rfl rfl (?_ : wpv K_X7_highBit d P 16 [some (0, x0)] [(2, (jshl 1 ((kand x0 63))))] G R V)
    exact wp_rJ rfl rfl rfl w
  · have q : x0 < 64 := Decidable.not_not.mp q
    replace w := w.2 q
    show wpv K_X7_highBit d P 6 [some (0, x0)] [] G R V
    refine wp_p (i := (.lconst 0)) rfl rfl (fun _ _ _ => rfl) (?_ : wpv K_X7_highBit d P 7 [some (0, x0)] [(2, 0)] G R V)
    refine wp_go 16 rfl rfl rfl (?_ : wpv K_X7_highBit d P 16 [some (0, x0)] [(2, 0)] G R V)
    exact wp_rJ rfl rfl rfl w
theorem t_X7_timesUpTo_0 {d : Nat} {P : gP} {x0 : Int} {x2 : Int} {G : List gS} {R V : gV}  (w : ((i64 x0) ∧ (((x0 = 0) → P (some (2, 0)) V) ∧ ((¬ x0 = 0) → ((i64 x2) ∧ (((¬ x2 = 0) → ((x2 ≠ 0) ∧ (((¬ (jdiv 1000000000000000 x2) < x0) → P (some (2, (jmul x0 x2))) V) ∧ (((jdiv 1000000000000000 x2) < x0) → P (some (2, 1000000000000001)) V)))) ∧ ((x2 = 0) → P (some (2, 0)) V))))))) : wpv K_X7_timesUpTo d P 0 [some (2, x0), none, some (2, x2)] [] G R V := by
  refine wp_ld (i := (.lload_n 0)) (2, x0) rfl rfl (fun _ => rfl) rfl rfl (?_ : wpv K_X7_timesUpTo d P 1 [some (2, x0), none, some (2, x2)] [(2, x0)] G R V)
  refine wp_p (i := (.lconst 0)) rfl rfl (fun _ _ _ => rfl) (?_ : wpv K_X7_timesUpTo d P 2 [some (2, x0), none, some (2, x2)] [(2, 0), (2, x0)] G R V)
  obtain ⟨s1, w⟩ := w
  refine wp_lcmp rfl rfl s1 ⟨by omega, by omega⟩ (?_ : wpv K_X7_timesUpTo d P 3 [some (2, x0), none, some (2, x2)] [(0, sg x0 0)] G R V)
  refine wp_if (c := .eq) 12 rfl rfl rfl (sg32 _ _) (fun q => ?_) (fun q => ?_)
  · have q : x0 = 0 := sg_eq.mp q
    replace w := w.1 q
    show wpv K_X7_timesUpTo d P 12 [some (2, x0), none, some (2, x2)] [] G R V
    refine wp_p (i := (.lconst 0)) rfl rfl (fun _ _ _ => rfl) (?_ : wpv K_X7_timesUpTo d P 13 [some (2, x0), none, some (2, x2)] [(2, 0)] G R V)
    exact wp_rJ rfl rfl rfl w
  · have q : ¬ x0 = 0 := fun z => q (sg_eq.mpr z)
    replace w := w.2 q
    show wpv K_X7_timesUpTo d P 6 [some (2, x0), none, some (2, x2)] [] G R V
    refine wp_ld (i := (.lload_n 2)) (2, x2) rfl rfl (fun _ => rfl) rfl rfl (?_ : wpv K_X7_timesUpTo d P 7 [some (2, x0), none, some (2, x2)] [(2, x2)] G R V)
    refine wp_p (i := (.lconst 0)) rfl rfl (fun _ _ _ => rfl) (?_ : wpv K_X7_timesUpTo d P 8 [some (2, x0), none, some (2, x2)] [(2, 0), (2, x2)] G R V)
    obtain ⟨s2, w⟩ := w
    refine wp_lcmp rfl rfl s2 ⟨by omega, by omega⟩ (?_ : wpv K_X7_timesUpTo d P 9 [some (2, x0), none, some (2, x2)] [(0, sg x2 0)] G R V)
    refine wp_if (c := .ne) 14 rfl rfl rfl (sg32 _ _) (fun q => ?_) (fun q => ?_)
    · have q : ¬ x2 = 0 := fun z => q (sg_eq.mpr z)
      replace w := w.1 q
      show wpv K_X7_timesUpTo d P 14 [some (2, x0), none, some (2, x2)] [] G R V
      refine wp_ld (i := (.lload_n 0)) (2, x0) rfl rfl (fun _ => rfl) rfl rfl (?_ : wpv K_X7_timesUpTo d P 15 [some (2, x0), none, some (2, x2)] [(2, x0)] G R V)
      refine wp_p (i := (.ldc2_w 258)) rfl rfl (fun _ _ _ => rfl) (?_ : wpv K_X7_timesUpTo d P 18 [some (2, x0), none, some (2, x2)] [(2, 1000000000000000), (2, x0)] G R V)
      refine wp_ld (i := (.lload_n 2)) (2, x2) rfl rfl (fun _ => rfl) rfl rfl (?_ : wpv K_X7_timesUpTo d P 19 [some (2, x0), none, some (2, x2)] [(2, x2), (2, 1000000000000000), (2, x0)] G R V)
      obtain ⟨s3, w⟩ := w
      refine wp_jdiv rfl rfl s2 s3 (?_ : wpv K_X7_timesUpTo d P 20 [some (2, x0), none, some (2, x2)] [(2, (jdiv 1000000000000000 x2)), (2, x0)] G R V)
      refine wp_lcmp rfl rfl s1 (t64 _) (?_ : wpv K_X7_timesUpTo d P 21 [some (2, x0), none, some (2, x2)] [(0, sg x0 ((jdiv 1000000000000000 x2)))] G R V)
      refine wp_if (c := .le) 30 rfl rfl rfl (sg32 _ _) (fun q => ?_) (fun q => ?_)
      · have q : ¬ (jdiv 1000000000000000 x2) < x0 := fun z => q (sg_gt.mpr z)
        replace w := w.1 q
        show wpv K_X7_timesUpTo d P 30 [some (2, x0), none, some (2, x2)] [] G R V
        refine wp_ld (i := (.lload_n 0)) (2, x0) rfl rfl (fun _ => rfl) rfl rfl (?_ : wpv K_X7_timesUpTo d P 31 [some (2, x0), none, some (2, x2)] [(2, x0)] G R V)
        refine wp_ld (i := (.lload_n 2)) (2, x2) rfl rfl (fun _ => rfl) rfl rfl (?_ : wpv K_X7_timesUpTo d P 32 [some (2, x0), none, some (2, x2)] [(2, x2), (2, x0)] G R V)
        refine wp_jmul rfl rfl (?_ : wpv K_X7_timesUpTo d P 33 [some (2, x0), none, some (2, x2)] [(2, (jmul x0 x2))] G R V)
        exact wp_rJ rfl rfl rfl w
      · have q : (jdiv 1000000000000000 x2) < x0 := sg_gt.mp (Decidable.not_not.mp q)
        replace w := w.2 q
        show wpv K_X7_timesUpTo d P 24 [some (2, x0), none, some (2, x2)] [] G R V
        refine wp_p (i := (.ldc2_w 356)) rfl rfl (fun _ _ _ => rfl) (?_ : wpv K_X7_timesUpTo d P 27 [some (2, x0), none, some (2, x2)] [(2, 1000000000000001)] G R V)
        refine wp_go 33 rfl rfl rfl (?_ : wpv K_X7_timesUpTo d P 33 [some (2, x0), none, some (2, x2)] [(2, 1000000000000001)] G R V)
        exact wp_rJ rfl rfl rfl w
    · have q : x2 = 0 := sg_eq.mp (Decidable.not_not.mp q)
      replace w := w.2 q
      show wpv K_X7_timesUpTo d P 12 [some (2, x0), none, some (2, x2)] [] G R V
      refine wp_p (i := (.lconst 0)) rfl rfl (fun _ _ _ => rfl) (?_ : wpv K_X7_timesUpTo d P 13 [some (2, x0), none, some (2, x2)] [(2, 0)] G R V)
      exact wp_rJ rfl rfl rfl w
theorem t_X7_powerUpTo_0 {d : Nat} {P : gP} {x0 : Int} {x2 : Int} {G : List gS} {R V : gV}  (w : ((i64 x2) ∧ (((x2 = 0) → P (some (2, 1)) V) ∧ ((¬ x2 = 0) → ((i64 x0) ∧ (((¬ x0 = 1) → (((¬ x0 = 0) → wpv K_X7_powerUpTo d P 28 [some (2, x0), none, some (2, x2), none, some (2, 1), none, some (0, 0)] [] G R V) ∧ ((x0 = 0) → P (some (2, 0)) V))) ∧ ((x0 = 1) → P (some (2, 1)) V))))))) : wpv K_X7_powerUpTo d P 0 [some (2, x0), none, some (2, x2)] [] G R V := by
  refine wp_ld (i := (.lload_n 2)) (2, x2) rfl rfl (fun _ => rfl) rfl rfl (?_ : wpv K_X7_powerUpTo d P 1 [some (2, x0), none, some (2, x2)] [(2, x2)] G R V)
  refine wp_p (i := (.lconst 0)) rfl rfl (fun _ _ _ => rfl) (?_ : wpv K_X7_powerUpTo d P 2 [some (2, x0), none, some (2, x2)] [(2, 0), (2, x2)] G R V)
  obtain ⟨s1, w⟩ := w
  refine wp_lcmp rfl rfl s1 ⟨by omega, by omega⟩ (?_ : wpv K_X7_powerUpTo d P 3 [some (2, x0), none, some (2, x2)] [(0, sg x2 0)] G R V)
  refine wp_if (c := .eq) 12 rfl rfl rfl (sg32 _ _) (fun q => ?_) (fun q => ?_)
  · have q : x2 = 0 := sg_eq.mp q
    replace w := w.1 q
    show wpv K_X7_powerUpTo d P 12 [some (2, x0), none, some (2, x2)] [] G R V
    refine wp_p (i := (.lconst 1)) rfl rfl (fun _ _ _ => rfl) (?_ : wpv K_X7_powerUpTo d P 13 [some (2, x0), none, some (2, x2)] [(2, 1)] G R V)
    exact wp_rJ rfl rfl rfl w
  · have q : ¬ x2 = 0 := fun z => q (sg_eq.mpr z)
    replace w := w.2 q
    show wpv K_X7_powerUpTo d P 6 [some (2, x0), none, some (2, x2)] [] G R V
    refine wp_ld (i := (.lload_n 0)) (2, x0) rfl rfl (fun _ => rfl) rfl rfl (?_ : wpv K_X7_powerUpTo d P 7 [some (2, x0), none, some (2, x2)] [(2, x0)] G R V)
    refine wp_p (i := (.lconst 1)) rfl rfl (fun _ _ _ => rfl) (?_ : wpv K_X7_powerUpTo d P 8 [some (2, x0), none, some (2, x2)] [(2, 1), (2, x0)] G R V)
    obtain ⟨s2, w⟩ := w
    refine wp_lcmp rfl rfl s2 ⟨by omega, by omega⟩ (?_ : wpv K_X7_powerUpTo d P 9 [some (2, x0), none, some (2, x2)] [(0, sg x0 1)] G R V)
    refine wp_if (c := .ne) 14 rfl rfl rfl (sg32 _ _) (fun q => ?_) (fun q => ?_)
    · have q : ¬ x0 = 1 := fun z => q (sg_eq.mpr z)
      replace w := w.1 q
      show wpv K_X7_powerUpTo d P 14 [some (2, x0), none, some (2, x2)] [] G R V
      refine wp_ld (i := (.lload_n 0)) (2, x0) rfl rfl (fun _ => rfl) rfl rfl (?_ : wpv K_X7_powerUpTo d P 15 [some (2, x0), none, some (2, x2)] [(2, x0)] G R V)
      refine wp_p (i := (.lconst 0)) rfl rfl (fun _ _ _ => rfl) (?_ : wpv K_X7_powerUpTo d P 16 [some (2, x0), none, some (2, x2)] [(2, 0), (2, x0)] G R V)
      refine wp_lcmp rfl rfl s2 ⟨by omega, by omega⟩ (?_ : wpv K_X7_powerUpTo d P 17 [some (2, x0), none, some (2, x2)] [(0, sg x0 0)] G R V)
      refine wp_if (c := .ne) 22 rfl rfl rfl (sg32 _ _) (fun q => ?_) (fun q => ?_)
      · have q : ¬ x0 = 0 := fun z => q (sg_eq.mpr z)
        replace w := w.1 q
        show wpv K_X7_powerUpTo d P 22 [some (2, x0), none, some (2, x2)] [] G R V
        refine wp_p (i := (.lconst 1)) rfl rfl (fun _ _ _ => rfl) (?_ : wpv K_X7_powerUpTo d P 23 [some (2, x0), none, some (2, x2)] [(2, 1)] G R V)
        refine wp_lsto (i := (.lstore 4)) _ rfl rfl (fun _ => rfl) rfl rfl rfl ?_
        refine wp_wk (L' := [some (2, x0), none, some (2, x2), none, some (2, 1)]) (wk_s (wk_n (wk_s (wk_n (wk_s wk_0))))) ?_
        show wpv K_X7_powerUpTo d P 25 [some (2, x0), none, some (2, x2), none, some (2, 1)] [] G R V
        refine wp_p (i := (.iconst 0)) rfl rfl (fun _ _ _ => rfl) (?_ : wpv K_X7_powerUpTo d P 26 [some (2, x0), none, some (2, x2), none, some (2, 1)] [(0, 0)] G R V)
        refine wp_sto (i := (.istore 6)) _ rfl rfl (fun _ => rfl) rfl rfl rfl ?_
        refine wp_wk (L' := [some (2, x0), none, some (2, x2), none, some (2, 1), none, some (0, 0)]) (wk_s (wk_n (wk_s (wk_n (wk_s (wk_n (wk_s wk_0))))))) ?_
        show wpv K_X7_powerUpTo d P 28 [some (2, x0), none, some (2, x2), none, some (2, 1), none, some (0, 0)] [] G R V
        exact wp_wk (wk_s (wk_n (wk_s (wk_n (wk_s (wk_n (wk_s wk_0))))))) w
      · have q : x0 = 0 := sg_eq.mp (Decidable.not_not.mp q)
        replace w := w.2 q
        show wpv K_X7_powerUpTo d P 20 [some (2, x0), none, some (2, x2)] [] G R V
        refine wp_p (i := (.lconst 0)) rfl rfl (fun _ _ _ => rfl) (?_ : wpv K_X7_powerUpTo d P 21 [some (2, x0), none, some (2, x2)] [(2, 0)] G R V)
        exact wp_rJ rfl rfl rfl w
    · have q : x0 = 1 := sg_eq.mp (Decidable.not_not.mp q)
      replace w := w.2 q
      show wpv K_X7_powerUpTo d P 12 [some (2, x0), none, some (2, x2)] [] G R V
      refine wp_p (i := (.lconst 1)) rfl rfl (fun _ _ _ => rfl) (?_ : wpv K_X7_powerUpTo d P 13 [some (2, x0), none, some (2, x2)] [(2, 1)] G R V)
      exact wp_rJ rfl rfl rfl w

theorem t_X7_powerUpTo_28 {d : Nat} {P : gP} {x0 : Int} {x2 : Int} {x4 : Int} {x6 : Int} {G : List gS} {R V : gV}  (w : ((i32 x6) ∧ (((¬ x6 < 50) → P (some (2, x4)) V) ∧ ((x6 < 50) → ((i64 x2) ∧ (((¬ x6 < x2) → P (some (2, x4)) V) ∧ ((x6 < x2) → cwv d (fun r V3 => ∃ v4 : Int, r = some (2, v4) ∧ ((i32 (x6 + 1)) ∧ wpv K_X7_powerUpTo d P 28 [some (2, x0), none, some (2, x2), none, some (2, v4), none, some (0, (x6 + 1))] [] G R V3)) 152 [(2, x4), (2, x0)] G R V))))))) : wpv K_X7_powerUpTo d P 28 [some (2, x0), none, some (2, x2), none, some (2, x4), none, some (0, x6)] [] G R V := by
  refine wp_ld (i := (.iload 6)) (0, x6) rfl rfl (fun _ => rfl) rfl rfl (?_ : wpv K_X7_powerUpTo d P 30 [some (2, x0), none, some (2, x2), none, some (2, x4), none, some (0, x6)] [(0, x6)] G R V)
  refine wp_p (i := (.bipush 50)) rfl rfl (fun _ _ _ => rfl) (?_ : wpv K_X7_powerUpTo d P 32 [some (2, x0), none, some (2, x2), none, some (2, x4), none, some (0, x6)] [(0, 50), (0, x6)] G R V)
  obtain ⟨s1, w⟩ := w
  refine wp_icmp (c := .ge) 57 rfl rfl rfl s1 ⟨by omega, by omega⟩ (fun q => ?_) (fun q => ?_)
  · have q : ¬ x6 < 50 := q
    replace w := w.1 q
    show wpv K_X7_powerUpTo d P 57 [some (2, x0), none, some (2, x2), none, some (2, x4), none, some (0, x6)] [] G R V
    refine wp_ld (i := (.lload 4)) (2, x4) rfl rfl (fun _ => rfl) rfl rfl (?_ : wpv K_X7_powerUpTo d P 59 [some (2, x0), none, some (2, x2), none, some (2, x4), none, some (0, x6)] [(2, x4)] G R V)
    exact wp_rJ rfl rfl rfl w
  · have q : x6 < 50 := Decidable.not_not.mp q
    replace w := w.2 q
    show wpv K_X7_powerUpTo d P 35 [some (2, x0), none, some (2, x2), none, some (2, x4), none, some (0, x6)] [] G R V
    refine wp_ld (i := (.iload 6)) (0, x6) rfl rfl (fun _ => rfl) rfl rfl (?_ : wpv K_X7_powerUpTo d P 37 [some (2, x0), none, some (2, x2), none, some (2, x4), none, some (0, x6)] [(0, x6)] G R V)
    refine wp_i2l rfl rfl s1 (?_ : wpv K_X7_powerUpTo d P 38 [some (2, x0), none, some (2, x2), none, some (2, x4), none, some (0, x6)] [(2, x6)] G R V)
    refine wp_ld (i := (.lload_n 2)) (2, x2) rfl rfl (fun _ => rfl) rfl rfl (?_ : wpv K_X7_powerUpTo d P 39 [some (2, x0), none, some (2, x2), none, some (2, x4), none, some (0, x6)] [(2, x2), (2, x6)] G R V)
    obtain ⟨s2, w⟩ := w
    refine wp_lcmp rfl rfl (i32_64 s1) s2 (?_ : wpv K_X7_powerUpTo d P 40 [some (2, x0), none, some (2, x2), none, some (2, x4), none, some (0, x6)] [(0, sg x6 x2)] G R V)
    refine wp_if (c := .ge) 57 rfl rfl rfl (sg32 _ _) (fun q => ?_) (fun q => ?_)
    · have q : ¬ x6 < x2 := fun z => q (sg_lt.mpr z)
      replace w := w.1 q
      show wpv K_X7_powerUpTo d P 57 [some (2, x0), none, some (2, x2), none, some (2, x4), none, some (0, x6)] [] G R V
      refine wp_ld (i := (.lload 4)) (2, x4) rfl rfl (fun _ => rfl) rfl rfl (?_ : wpv K_X7_powerUpTo d P 59 [some (2, x0), none, some (2, x2), none, some (2, x4), none, some (0, x6)] [(2, x4)] G R V)
      exact wp_rJ rfl rfl rfl w
    · have q : x6 < x2 := sg_lt.mp (Decidable.not_not.mp q)
      replace w := w.2 q
      show wpv K_X7_powerUpTo d P 43 [some (2, x0), none, some (2, x2), none, some (2, x4), none, some (0, x6)] [] G R V
      refine wp_ld (i := (.lload 4)) (2, x4) rfl rfl (fun _ => rfl) rfl rfl (?_ : wpv K_X7_powerUpTo d P 45 [some (2, x0), none, some (2, x2), none, some (2, x4), none, some (0, x6)] [(2, x4)] G R V)
      refine wp_ld (i := (.lload_n 0)) (2, x0) rfl rfl (fun _ => rfl) rfl rfl (?_ : wpv K_X7_powerUpTo d P 46 [some (2, x0), none, some (2, x2), none, some (2, x4), none, some (0, x6)] [(2, x0), (2, x4)] G R V)
      refine wp_stat (as := [(2, x4), (2, x0)]) (st := []) _ rfl rfl rfl (by omega) rfl rfl (Nat.le_of_ble_eq_true rfl) (cwv_kJ w (fun v4 V3 w => ?_))
      show wpv K_X7_powerUpTo d P 49 [some (2, x0), none, some (2, x2), none, some (2, x4), none, some (0, x6)] [(2, v4)] G R V3
      refine wp_lsto (i := (.lstore 4)) _ rfl rfl (fun _ => rfl) rfl rfl rfl ?_
      refine wp_wk (L' := [some (2, x0), none, some (2, x2), none, some (2, v4), none, some (0, x6)]) (wk_s (wk_n (wk_s (wk_n (wk_s (wk_n (wk_s wk_0))))))) ?_
      show wpv K_X7_powerUpTo d P 51 [some (2, x0), none, some (2, x2), none, some (2, v4), none, some (0, x6)] [] G R V3
      obtain ⟨s5, w⟩ := w
      refine wp_inc (x := 6) (k := 1) (a := x6) (c := (x6 + 1)) _ rfl rfl rfl rfl s5 (by omega) rfl ?_
      show wpv K_X7_powerUpTo d P 54 [some (2, x0), none, some (2, x2), none, some (2, v4), none, some (0, (x6 + 1))] [] G R V3
      refine wp_go 28 rfl rfl rfl (?_ : wpv K_X7_powerUpTo d P 28 [some (2, x0), none, some (2, x2), none, some (2, v4), none, some (0, (x6 + 1))] [] G R V3)
      exact wp_wk (wk_s (wk_n (wk_s (wk_n (wk_s (wk_n (wk_s wk_0))))))) w
theorem t_X7_factorialUpTo_0 {d : Nat} {P : gP} {x0 : Int} {G : List gS} {R V : gV}  (w : ((i64 x0) ∧ (((¬ 17 < x0) → wpv K_X7_factorialUpTo d P 17 [some (2, x0), none, some (2, 1), none, some (0, 2)] [] G R V) ∧ ((17 < x0) → P (some (2, 1000000000000001)) V)))) : wpv K_X7_factorialUpTo d P 0 [some (2, x0)] [] G R V := by
  refine wp_ld (i := (.lload_n 0)) (2, x0) rfl rfl (fun _ => rfl) rfl rfl (?_ : wpv K_X7_factorialUpTo d P 1 [some (2, x0)] [(2, x0)] G R V)
  refine wp_p (i := (.ldc2_w 358)) rfl rfl (fun _ _ _ => rfl) (?_ : wpv K_X7_factorialUpTo d P 4 [some (2, x0)] [(2, 17), (2, x0)] G R V)
  obtain ⟨s1, w⟩ := w
  refine wp_lcmp rfl rfl s1 ⟨by omega, by omega⟩ (?_ : wpv K_X7_factorialUpTo d P 5 [some (2, x0)] [(0, sg x0 17)] G R V)
  refine wp_if (c := .le) 12 rfl rfl rfl (sg32 _ _) (fun q => ?_) (fun q => ?_)
  · have q : ¬ 17 < x0 := fun z => q (sg_gt.mpr z)
    replace w := w.1 q
    show wpv K_X7_factorialUpTo d P 12 [some (2, x0)] [] G R V
    refine wp_p (i := (.lconst 1)) rfl rfl (fun _ _ _ => rfl) (?_ : wpv K_X7_factorialUpTo d P 13 [some (2, x0)] [(2, 1)] G R V)
    refine wp_lsto (i := (.lstore_n 2)) _ rfl rfl (fun _ => rfl) rfl rfl rfl ?_
    refine wp_wk (L' := [some (2, x0), none, some (2, 1)]) (wk_s (wk_n (wk_s wk_0))) ?_
    show wpv K_X7_factorialUpTo d P 14 [some (2, x0), none, some (2, 1)] [] G R V
    refine wp_p (i := (.iconst 2)) rfl rfl (fun _ _ _ => rfl) (?_ : wpv K_X7_factorialUpTo d P 15 [some (2, x0), none, some (2, 1)] [(0, 2)] G R V)
    refine wp_sto (i := (.istore 4)) _ rfl rfl (fun _ => rfl) rfl rfl rfl ?_
    refine wp_wk (L' := [some (2, x0), none, some (2, 1), none, some (0, 2)]) (wk_s (wk_n (wk_s (wk_n (wk_s wk_0))))) ?_
    show wpv K_X7_factorialUpTo d P 17 [some (2, x0), none, some (2, 1), none, some (0, 2)] [] G R V
    exact wp_wk (wk_s (wk_n (wk_s (wk_n (wk_s wk_0))))) w
  · have q : 17 < x0 := sg_gt.mp (Decidable.not_not.mp q)
    replace w := w.2 q
    show wpv K_X7_factorialUpTo d P 8 [some (2, x0)] [] G R V
    refine wp_p (i := (.ldc2_w 356)) rfl rfl (fun _ _ _ => rfl) (?_ : wpv K_X7_factorialUpTo d P 11 [some (2, x0)] [(2, 1000000000000001)] G R V)
    exact wp_rJ rfl rfl rfl w

theorem t_X7_factorialUpTo_17 {d : Nat} {P : gP} {x0 : Int} {x2 : Int} {x4 : Int} {G : List gS} {R V : gV}  (w : ((i32 x4) ∧ (((17 < x4) → P (some (2, x2)) V) ∧ ((¬ 17 < x4) → ((i64 x0) ∧ (((x0 < x4) → P (some (2, x2)) V) ∧ ((¬ x0 < x4) → ((i32 (x4 + 1)) ∧ wpv K_X7_factorialUpTo d P 17 [some (2, x0), none, some (2, (jmul x2 x4)), none, some (0, (x4 + 1))] [] G R V)))))))) : wpv K_X7_factorialUpTo d P 17 [some (2, x0), none, some (2, x2), none, some (0, x4)] [] G R V := by
  refine wp_ld (i := (.iload 4)) (0, x4) rfl rfl (fun _ => rfl) rfl rfl (?_ : wpv K_X7_factorialUpTo d P 19 [some (2, x0), none, some (2, x2), none, some (0, x4)] [(0, x4)] G R V)
  refine wp_p (i := (.bipush 17)) rfl rfl (fun _ _ _ => rfl) (?_ : wpv K_X7_factorialUpTo d P 21 [some (2, x0), none, some (2, x2), none, some (0, x4)] [(0, 17), (0, x4)] G R V)
  obtain ⟨s1, w⟩ := w
  refine wp_icmp (c := .gt) 44 rfl rfl rfl s1 ⟨by omega, by omega⟩ (fun q => ?_) (fun q => ?_)
  · have q : 17 < x4 := q
    replace w := w.1 q
    show wpv K_X7_factorialUpTo d P 44 [some (2, x0), none, some (2, x2), none, some (0, x4)] [] G R V
    refine wp_ld (i := (.lload_n 2)) (2, x2) rfl rfl (fun _ => rfl) rfl rfl (?_ : wpv K_X7_factorialUpTo d P 45 [some (2, x0), none, some (2, x2), none, some (0, x4)] [(2, x2)] G R V)
    exact wp_rJ rfl rfl rfl w
  · have q : ¬ 17 < x4 := q
    replace w := w.2 q
    show wpv K_X7_factorialUpTo d P 24 [some (2, x0), none, some (2, x2), none, some (0, x4)] [] G R V
    refine wp_ld (i := (.iload 4)) (0, x4) rfl rfl (fun _ => rfl) rfl rfl (?_ : wpv K_X7_factorialUpTo d P 26 [some (2, x0), none, some (2, x2), none, some (0, x4)] [(0, x4)] G R V)
    refine wp_i2l rfl rfl s1 (?_ : wpv K_X7_factorialUpTo d P 27 [some (2, x0), none, some (2, x2), none, some (0, x4)] [(2, x4)] G R V)
    refine wp_ld (i := (.lload_n 0)) (2, x0) rfl rfl (fun _ => rfl) rfl rfl (?_ : wpv K_X7_factorialUpTo d P 28 [some (2, x0), none, some (2, x2), none, some (0, x4)] [(2, x0), (2, x4)] G R V)
    obtain ⟨s2, w⟩ := w
    refine wp_lcmp rfl rfl (i32_64 s1) s2 (?_ : wpv K_X7_factorialUpTo d P 29 [some (2, x0), none, some (2, x2), none, some (0, x4)] [(0, sg x4 x0)] G R V)
    refine wp_if (c := .gt) 44 rfl rfl rfl (sg32 _ _) (fun q => ?_) (fun q => ?_)
    · have q : x0 < x4 := sg_gt.mp q
      replace w := w.1 q
      show wpv K_X7_factorialUpTo d P 44 [some (2, x0), none, some (2, x2), none, some (0, x4)] [] G R V
      refine wp_ld (i := (.lload_n 2)) (2, x2) rfl rfl (fun _ => rfl) rfl rfl (?_ : wpv K_X7_factorialUpTo d P 45 [some (2, x0), none, some (2, x2), none, some (0, x4)] [(2, x2)] G R V)
      exact wp_rJ rfl rfl rfl w
    · have q : ¬ x0 < x4 := fun z => q (sg_gt.mpr z)
      replace w := w.2 q
      show wpv K_X7_factorialUpTo d P 32 [some (2, x0), none, some (2, x2), none, some (0, x4)] [] G R V
      refine wp_ld (i := (.lload_n 2)) (2, x2) rfl rfl (fun _ => rfl) rfl rfl (?_ : wpv K_X7_factorialUpTo d P 33 [some (2, x0), none, some (2, x2), none, some (0, x4)] [(2, x2)] G R V)
      refine wp_ld (i := (.iload 4)) (0, x4) rfl rfl (fun _ => rfl) rfl rfl (?_ : wpv K_X7_factorialUpTo d P 35 [some (2, x0), none, some (2, x2), none, some (0, x4)] [(0, x4), (2, x2)] G R V)
      refine wp_i2l rfl rfl s1 (?_ : wpv K_X7_factorialUpTo d P 36 [some (2, x0), none, some (2, x2), none, some (0, x4)] [(2, x4), (2, x2)] G R V)
      refine wp_jmul rfl rfl (?_ : wpv K_X7_factorialUpTo d P 37 [some (2, x0), none, some (2, x2), none, some (0, x4)] [(2, (jmul x2 x4))] G R V)
      refine wp_lsto (i := (.lstore_n 2)) _ rfl rfl (fun _ => rfl) rfl rfl rfl ?_
      refine wp_wk (L' := [some (2, x0), none, some (2, (jmul x2 x4)), none, some (0, x4)]) (wk_s (wk_n (wk_s (wk_n (wk_s wk_0))))) ?_
      show wpv K_X7_factorialUpTo d P 38 [some (2, x0), none, some (2, (jmul x2 x4)), none, some (0, x4)] [] G R V
      obtain ⟨s3, w⟩ := w
      refine wp_inc (x := 4) (k := 1) (a := x4) (c := (x4 + 1)) _ rfl rfl rfl rfl s3 (by omega) rfl ?_
      show wpv K_X7_factorialUpTo d P 41 [some (2, x0), none, some (2, (jmul x2 x4)), none, some (0, (x4 + 1))] [] G R V
      refine wp_go 17 rfl rfl rfl (?_ : wpv K_X7_factorialUpTo d P 17 [some (2, x0), none, some (2, (jmul x2 x4)), none, some (0, (x4 + 1))] [] G R V)
      exact wp_wk (wk_s (wk_n (wk_s (wk_n (wk_s wk_0))))) w
theorem t_X7_powerOf_0 {d : Nat} {P : gP} {x0 : Int} {x2 : Int} {G : List gS} {R V : gV}  (w : wpv K_X7_powerOf d P 5 [some (2, x0), none, some (0, x2), some (2, 1), none, some (0, 0)] [] G R V) : wpv K_X7_powerOf d P 0 [some (2, x0), none, some (0, x2)] [] G R V := by
  refine wp_p (i := (.lconst 1)) rfl rfl (fun _ _ _ => rfl) (?_ : wpv K_X7_powerOf d P 1 [some (2, x0), none, some (0, x2)] [(2, 1)] G R V)
  refine wp_lsto (i := (.lstore_n 3)) _ rfl rfl (fun _ => rfl) rfl rfl rfl ?_
  refine wp_wk (L' := [some (2, x0), none, some (0, x2), some (2, 1)]) (wk_s (wk_n (wk_s (wk_s wk_0)))) ?_
  show wpv K_X7_powerOf d P 2 [some (2, x0), none, some (0, x2), some (2, 1)] [] G R V
  refine wp_p (i := (.iconst 0)) rfl rfl (fun _ _ _ => rfl) (?_ : wpv K_X7_powerOf d P 3 [some (2, x0), none, some (0, x2), some (2, 1)] [(0, 0)] G R V)
  refine wp_sto (i := (.istore 5)) _ rfl rfl (fun _ => rfl) rfl rfl rfl ?_
  refine wp_wk (L' := [some (2, x0), none, some (0, x2), some (2, 1), none, some (0, 0)]) (wk_s (wk_n (wk_s (wk_s (wk_n (wk_s wk_0)))))) ?_
  show wpv K_X7_powerOf d P 5 [some (2, x0), none, some (0, x2), some (2, 1), none, some (0, 0)] [] G R V
  exact wp_wk (wk_s (wk_n (wk_s (wk_s (wk_n (wk_s wk_0)))))) w

theorem t_X7_powerOf_5 {d : Nat} {P : gP} {x0 : Int} {x2 : Int} {x3 : Int} {x5 : Int} {G : List gS} {R V : gV}  (w : ((i32 x5) ∧ ((i32 x2) ∧ (((¬ x5 < x2) → P (some (2, x3)) V) ∧ ((x5 < x2) → ((i32 (x5 + 1)) ∧ wpv K_X7_powerOf d P 5 [some (2, x0), none, some (0, x2), some (2, (jmul x3 x0)), none, some (0, (x5 + 1))] [] G R V)))))) : wpv K_X7_powerOf d P 5 [some (2, x0), none, some (0, x2), some (2, x3), none, some (0, x5)] [] G R V := by
  refine wp_ld (i := (.iload 5)) (0, x5) rfl rfl (fun _ => rfl) rfl rfl (?_ : wpv K_X7_powerOf d P 7 [some (2, x0), none, some (0, x2), some (2, x3), none, some (0, x5)] [(0, x5)] G R V)
  refine wp_ld (i := (.iload_n 2)) (0, x2) rfl rfl (fun _ => rfl) rfl rfl (?_ : wpv K_X7_powerOf d P 8 [some (2, x0), none, some (0, x2), some (2, x3), none, some (0, x5)] [(0, x2), (0, x5)] G R V)
  obtain ⟨s1, w⟩ := w
  obtain ⟨s2, w⟩ := w
  refine wp_icmp (c := .ge) 21 rfl rfl rfl s1 s2 (fun q => ?_) (fun q => ?_)
  · have q : ¬ x5 < x2 := q
    replace w := w.1 q
    show wpv K_X7_powerOf d P 21 [some (2, x0), none, some (0, x2), some (2, x3), none, some (0, x5)] [] G R V
    refine wp_ld (i := (.lload_n 3)) (2, x3) rfl rfl (fun _ => rfl) rfl rfl (?_ : wpv K_X7_powerOf d P 22 [some (2, x0), none, some (0, x2), some (2, x3), none, some (0, x5)] [(2, x3)] G R V)
    exact wp_rJ rfl rfl rfl w
  · have q : x5 < x2 := Decidable.not_not.mp q
    replace w := w.2 q
    show wpv K_X7_powerOf d P 11 [some (2, x0), none, some (0, x2), some (2, x3), none, some (0, x5)] [] G R V
    refine wp_ld (i := (.lload_n 3)) (2, x3) rfl rfl (fun _ => rfl) rfl rfl (?_ : wpv K_X7_powerOf d P 12 [some (2, x0), none, some (0, x2), some (2, x3), none, some (0, x5)] [(2, x3)] G R V)
    refine wp_ld (i := (.lload_n 0)) (2, x0) rfl rfl (fun _ => rfl) rfl rfl (?_ : wpv K_X7_powerOf d P 13 [some (2, x0), none, some (0, x2), some (2, x3), none, some (0, x5)] [(2, x0), (2, x3)] G R V)
    refine wp_jmul rfl rfl (?_ : wpv K_X7_powerOf d P 14 [some (2, x0), none, some (0, x2), some (2, x3), none, some (0, x5)] [(2, (jmul x3 x0))] G R V)
    refine wp_lsto (i := (.lstore_n 3)) _ rfl rfl (fun _ => rfl) rfl rfl rfl ?_
    refine wp_wk (L' := [some (2, x0), none, some (0, x2), some (2, (jmul x3 x0)), none, some (0, x5)]) (wk_s (wk_n (wk_s (wk_s (wk_n (wk_s wk_0)))))) ?_
    show wpv K_X7_powerOf d P 15 [some (2, x0), none, some (0, x2), some (2, (jmul x3 x0)), none, some (0, x5)] [] G R V
    obtain ⟨s3, w⟩ := w
    refine wp_inc (x := 5) (k := 1) (a := x5) (c := (x5 + 1)) _ rfl rfl rfl rfl s3 (by omega) rfl ?_
    show wpv K_X7_powerOf d P 18 [some (2, x0), none, some (0, x2), some (2, (jmul x3 x0)), none, some (0, (x5 + 1))] [] G R V
    refine wp_go 5 rfl rfl rfl (?_ : wpv K_X7_powerOf d P 5 [some (2, x0), none, some (0, x2), some (2, (jmul x3 x0)), none, some (0, (x5 + 1))] [] G R V)
    exact wp_wk (wk_s (wk_n (wk_s (wk_s (wk_n (wk_s wk_0)))))) w
theorem t_X7_greatestDivisor_0 {d : Nat} {P : gP} {x0 : Int} {x2 : Int} {G : List gS} {R V : gV}  (w : wpv K_X7_greatestDivisor d P 9 [none, none, none, none, some (2, x0), none, some (2, x2), none, some (0, 0)] [] G R V) : wpv K_X7_greatestDivisor d P 0 [some (2, x0), none, some (2, x2)] [] G R V := by
  refine wp_ld (i := (.lload_n 0)) (2, x0) rfl rfl (fun _ => rfl) rfl rfl (?_ : wpv K_X7_greatestDivisor d P 1 [some (2, x0), none, some (2, x2)] [(2, x0)] G R V)
  refine wp_lsto (i := (.lstore 4)) _ rfl rfl (fun _ => rfl) rfl rfl rfl ?_
  refine wp_wk (L' := [some (2, x0), none, some (2, x2), none, some (2, x0)]) (wk_s (wk_n (wk_s (wk_n (wk_s wk_0))))) ?_
  show wpv K_X7_greatestDivisor d P 3 [some (2, x0), none, some (2, x2), none, some (2, x0)] [] G R V
  refine wp_ld (i := (.lload_n 2)) (2, x2) rfl rfl (fun _ => rfl) rfl rfl (?_ : wpv K_X7_greatestDivisor d P 4 [some (2, x0), none, some (2, x2), none, some (2, x0)] [(2, x2)] G R V)
  refine wp_lsto (i := (.lstore 6)) _ rfl rfl (fun _ => rfl) rfl rfl rfl ?_
  refine wp_wk (L' := [some (2, x0), none, some (2, x2), none, some (2, x0), none, some (2, x2)]) (wk_s (wk_n (wk_s (wk_n (wk_s (wk_n (wk_s wk_0))))))) ?_
  show wpv K_X7_greatestDivisor d P 6 [some (2, x0), none, some (2, x2), none, some (2, x0), none, some (2, x2)] [] G R V
  refine wp_p (i := (.iconst 0)) rfl rfl (fun _ _ _ => rfl) (?_ : wpv K_X7_greatestDivisor d P 7 [some (2, x0), none, some (2, x2), none, some (2, x0), none, some (2, x2)] [(0, 0)] G R V)
  refine wp_sto (i := (.istore 8)) _ rfl rfl (fun _ => rfl) rfl rfl rfl ?_
  refine wp_wk (L' := [some (2, x0), none, some (2, x2), none, some (2, x0), none, some (2, x2), none, some (0, 0)]) (wk_s (wk_n (wk_s (wk_n (wk_s (wk_n (wk_s (wk_n (wk_s wk_0))))))))) ?_
  show wpv K_X7_greatestDivisor d P 9 [some (2, x0), none, some (2, x2), none, some (2, x0), none, some (2, x2), none, some (0, 0)] [] G R V
  exact wp_wk (wk_n (wk_n (wk_n (wk_n (wk_s (wk_n (wk_s (wk_n (wk_s wk_0))))))))) w

theorem t_X7_greatestDivisor_9 {d : Nat} {P : gP} {x4 : Int} {x6 : Int} {x8 : Int} {G : List gS} {R V : gV}  (w : ((i32 x8) ∧ (((¬ x8 < 100) → P (some (2, x4)) V) ∧ ((x8 < 100) → ((i64 x6) ∧ (((x6 = 0) → P (some (2, x4)) V) ∧ ((¬ x6 = 0) → ((x6 ≠ 0) ∧ ((i32 (x8 + 1)) ∧ wpv K_X7_greatestDivisor d P 9 [none, none, none, none, some (2, x6), none, some (2, (jrem x4 x6)), none, some (0, (x8 + 1))] [] G R V))))))))) : wpv K_X7_greatestDivisor d P 9 [none, none, none, none, some (2, x4), none, some (2, x6), none, some (0, x8)] [] G R V := by
  refine wp_ld (i := (.iload 8)) (0, x8) rfl rfl (fun _ => rfl) rfl rfl (?_ : wpv K_X7_greatestDivisor d P 11 [none, none, none, none, some (2, x4), none, some (2, x6), none, some (0, x8)] [(0, x8)] G R V)
  refine wp_p (i := (.bipush 100)) rfl rfl (fun _ _ _ => rfl) (?_ : wpv K_X7_greatestDivisor d P 13 [none, none, none, none, some (2, x4), none, some (2, x6), none, some (0, x8)] [(0, 100), (0, x8)] G R V)
  obtain ⟨s1, w⟩ := w
  refine wp_icmp (c := .ge) 44 rfl rfl rfl s1 ⟨by omega, by omega⟩ (fun q => ?_) (fun q => ?_)
  · have q : ¬ x8 < 100 := q
    replace w := w.1 q
    show wpv K_X7_greatestDivisor d P 44 [none, none, none, none, some (2, x4), none, some (2, x6), none, some (0, x8)] [] G R V
    refine wp_ld (i := (.lload 4)) (2, x4) rfl rfl (fun _ => rfl) rfl rfl (?_ : wpv K_X7_greatestDivisor d P 46 [none, none, none, none, some (2, x4), none, some (2, x6), none, some (0, x8)] [(2, x4)] G R V)
    exact wp_rJ rfl rfl rfl w
  · have q : x8 < 100 := Decidable.not_not.mp q
    replace w := w.2 q
    show wpv K_X7_greatestDivisor d P 16 [none, none, none, none, some (2, x4), none, some (2, x6), none, some (0, x8)] [] G R V
    refine wp_ld (i := (.lload 6)) (2, x6) rfl rfl (fun _ => rfl) rfl rfl (?_ : wpv K_X7_greatestDivisor d P 18 [none, none, none, none, some (2, x4), none, some (2, x6), none, some (0, x8)] [(2, x6)] G R V)
    refine wp_p (i := (.lconst 0)) rfl rfl (fun _ _ _ => rfl) (?_ : wpv K_X7_greatestDivisor d P 19 [none, none, none, none, some (2, x4), none, some (2, x6), none, some (0, x8)] [(2, 0), (2, x6)] G R V)
    obtain ⟨s2, w⟩ := w
    refine wp_lcmp rfl rfl s2 ⟨by omega, by omega⟩ (?_ : wpv K_X7_greatestDivisor d P 20 [none, none, none, none, some (2, x4), none, some (2, x6), none, some (0, x8)] [(0, sg x6 0)] G R V)
    refine wp_if (c := .eq) 44 rfl rfl rfl (sg32 _ _) (fun q => ?_) (fun q => ?_)
    · have q : x6 = 0 := sg_eq.mp q
      replace w := w.1 q
      show wpv K_X7_greatestDivisor d P 44 [none, none, none, none, some (2, x4), none, some (2, x6), none, some (0, x8)] [] G R V
      refine wp_ld (i := (.lload 4)) (2, x4) rfl rfl (fun _ => rfl) rfl rfl (?_ : wpv K_X7_greatestDivisor d P 46 [none, none, none, none, some (2, x4), none, some (2, x6), none, some (0, x8)] [(2, x4)] G R V)
      exact wp_rJ rfl rfl rfl w
    · have q : ¬ x6 = 0 := fun z => q (sg_eq.mpr z)
      replace w := w.2 q
      show wpv K_X7_greatestDivisor d P 23 [none, none, none, none, some (2, x4), none, some (2, x6), none, some (0, x8)] [] G R V
      refine wp_ld (i := (.lload 4)) (2, x4) rfl rfl (fun _ => rfl) rfl rfl (?_ : wpv K_X7_greatestDivisor d P 25 [none, none, none, none, some (2, x4), none, some (2, x6), none, some (0, x8)] [(2, x4)] G R V)
      refine wp_ld (i := (.lload 6)) (2, x6) rfl rfl (fun _ => rfl) rfl rfl (?_ : wpv K_X7_greatestDivisor d P 27 [none, none, none, none, some (2, x4), none, some (2, x6), none, some (0, x8)] [(2, x6), (2, x4)] G R V)
      obtain ⟨s3, w⟩ := w
      refine wp_jrem rfl rfl s2 s3 (?_ : wpv K_X7_greatestDivisor d P 28 [none, none, none, none, some (2, x4), none, some (2, x6), none, some (0, x8)] [(2, (jrem x4 x6))] G R V)
      refine wp_lsto (i := (.lstore 9)) _ rfl rfl (fun _ => rfl) rfl rfl rfl ?_
      refine wp_wk (L' := [none, none, none, none, some (2, x4), none, some (2, x6), none, some (0, x8), some (2, (jrem x4 x6))]) (wk_n (wk_n (wk_n (wk_n (wk_s (wk_n (wk_s (wk_n (wk_s (wk_s wk_0)))))))))) ?_
      show wpv K_X7_greatestDivisor d P 30 [none, none, none, none, some (2, x4), none, some (2, x6), none, some (0, x8), some (2, (jrem x4 x6))] [] G R V
      refine wp_ld (i := (.lload 6)) (2, x6) rfl rfl (fun _ => rfl) rfl rfl (?_ : wpv K_X7_greatestDivisor d P 32 [none, none, none, none, some (2, x4), none, some (2, x6), none, some (0, x8), some (2, (jrem x4 x6))] [(2, x6)] G R V)
      refine wp_lsto (i := (.lstore 4)) _ rfl rfl (fun _ => rfl) rfl rfl rfl ?_
      refine wp_wk (L' := [none, none, none, none, some (2, x6), none, some (2, x6), none, some (0, x8), some (2, (jrem x4 x6))]) (wk_n (wk_n (wk_n (wk_n (wk_s (wk_n (wk_s (wk_n (wk_s (wk_s wk_0)))))))))) ?_
      show wpv K_X7_greatestDivisor d P 34 [none, none, none, none, some (2, x6), none, some (2, x6), none, some (0, x8), some (2, (jrem x4 x6))] [] G R V
      refine wp_ld (i := (.lload 9)) (2, (jrem x4 x6)) rfl rfl (fun _ => rfl) rfl rfl (?_ : wpv K_X7_greatestDivisor d P 36 [none, none, none, none, some (2, x6), none, some (2, x6), none, some (0, x8), some (2, (jrem x4 x6))] [(2, (jrem x4 x6))] G R V)
      refine wp_lsto (i := (.lstore 6)) _ rfl rfl (fun _ => rfl) rfl rfl rfl ?_
      refine wp_wk (L' := [none, none, none, none, some (2, x6), none, some (2, (jrem x4 x6)), none, some (0, x8), some (2, (jrem x4 x6))]) (wk_n (wk_n (wk_n (wk_n (wk_s (wk_n (wk_s (wk_n (wk_s (wk_s wk_0)))))))))) ?_
      show wpv K_X7_greatestDivisor d P 38 [none, none, none, none, some (2, x6), none, some (2, (jrem x4 x6)), none, some (0, x8), some (2, (jrem x4 x6))] [] G R V
      obtain ⟨s4, w⟩ := w
      refine wp_inc (x := 8) (k := 1) (a := x8) (c := (x8 + 1)) _ rfl rfl rfl rfl s4 (by omega) rfl ?_
      show wpv K_X7_greatestDivisor d P 41 [none, none, none, none, some (2, x6), none, some (2, (jrem x4 x6)), none, some (0, (x8 + 1)), some (2, (jrem x4 x6))] [] G R V
      refine wp_go 9 rfl rfl rfl (?_ : wpv K_X7_greatestDivisor d P 9 [none, none, none, none, some (2, x6), none, some (2, (jrem x4 x6)), none, some (0, (x8 + 1)), some (2, (jrem x4 x6))] [] G R V)
      exact wp_wk (wk_n (wk_n (wk_n (wk_n (wk_s (wk_n (wk_s (wk_n (wk_s wk_0))))))))) w
