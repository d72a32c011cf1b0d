theorem t_X0_rowsLeft_0 {d : Nat} {P : gP} {p0 : Nat} {p1 : Nat} {x2 : Int} {x3 : Int} {G : List gS} {R V : gV} (l0 : lay0 G R p0) (l1 : lay2 G R p1) (w : wpv K_X0_rowsLeft d P 6 [some (4, (p0 : Int)), some (4, (p1 : Int)), some (0, x2), some (0, x3), some (0, 0), some (0, 0)] [] G R V) : wpv K_X0_rowsLeft d P 0 [some (4, (p0 : Int)), some (4, (p1 : Int)), some (0, x2), some (0, x3)] [] G R V := by
  refine wp_p (i := (.iconst 0)) rfl rfl (fun _ _ _ => rfl) (?_ : wpv K_X0_rowsLeft d P 1 [some (4, (p0 : Int)), some (4, (p1 : Int)), some (0, x2), some (0, x3)] [(0, 0)] G R V)
  refine wp_sto (i := (.istore 4)) _ rfl rfl (fun _ => rfl) rfl rfl rfl ?_
  refine wp_wk (L' := [some (4, (p0 : Int)), some (4, (p1 : Int)), some (0, x2), some (0, x3), some (0, 0)]) (wk_s (wk_s (wk_s (wk_s (wk_s wk_0))))) ?_
  show wpv K_X0_rowsLeft d P 3 [some (4, (p0 : Int)), some (4, (p1 : Int)), some (0, x2), some (0, x3), some (0, 0)] [] G R V
  refine wp_p (i := (.iconst 0)) rfl rfl (fun _ _ _ => rfl) (?_ : wpv K_X0_rowsLeft d P 4 [some (4, (p0 : Int)), some (4, (p1 : Int)), some (0, x2), some (0, x3), some (0, 0)] [(0, 0)] G R V)
  refine wp_sto (i := (.istore 5)) _ rfl rfl (fun _ => rfl) rfl rfl rfl ?_
  refine wp_wk (L' := [some (4, (p0 : Int)), some (4, (p1 : Int)), some (0, x2), some (0, x3), some (0, 0), some (0, 0)]) (wk_s (wk_s (wk_s (wk_s (wk_s (wk_s wk_0)))))) ?_
  show wpv K_X0_rowsLeft d P 6 [some (4, (p0 : Int)), some (4, (p1 : Int)), some (0, x2), some (0, x3), some (0, 0), some (0, 0)] [] G R V
  exact wp_wk (wk_s (wk_s (wk_s (wk_s (wk_s (wk_s wk_0)))))) w

theorem t_X0_rowsLeft_6 {d : Nat} {P : gP} {p0 : Nat} {p1 : Nat} {x2 : Int} {x3 : Int} {x4 : Int} {x5 : Int} {G : List gS} {R V : gV} (l0 : lay0 G R p0) (l1 : lay2 G R p1) (w : ((i32 (V (p1 + 1) 0)) → ((i32 x5) ∧ (((¬ x5 < (V (p1 + 1) 0)) → wpv K_X0_rowsLeft d P 48 [none, none, none, some (0, x3), some (0, x4), some (2, 1), none, some (0, 0)] [] G R V) ∧ ((x5 < (V (p1 + 1) 0)) → cwv d (fun r V4 => ∃ v5 : Int, r = some (0, v5) ∧ cwv d (fun r V6 => ∃ v7 : Int, r = some (0, v7) ∧ ((i32 v7) ∧ (((¬ v7 = 1) → ((i32 (x5 + 1)) ∧ wpv K_X0_rowsLeft d P 6 [some (4, (p0 : Int)), some (4, (p1 : Int)), some (0, x2), some (0, x3), some (0, x4), some (0, (x5 + 1))] [] G R V6)) ∧ ((v7 = 1) → ((i32 (x4 + 1)) ∧ ((i32 (x5 + 1)) ∧ wpv K_X0_rowsLeft d P 6 [some (4, (p0 : Int)), some (4, (p1 : Int)), some (0, x2), some (0, x3), some (0, (x4 + 1)), some (0, (x5 + 1))] [] G R V6)))))) 242 [(0, v5)] G R V4) 5 [(4, (p0 : Int)), (4, (p1 : Int)), (0, x2), (0, x5)] G R V))))) : wpv K_X0_rowsLeft d P 6 [some (4, (p0 : Int)), some (4, (p1 : Int)), some (0, x2), some (0, x3), some (0, x4), some (0, x5)] [] G R V := by
  refine wp_ld (i := (.iload 5)) (0, x5) rfl rfl (fun _ => rfl) rfl rfl (?_ : wpv K_X0_rowsLeft d P 8 [some (4, (p0 : Int)), some (4, (p1 : Int)), some (0, x2), some (0, x3), some (0, x4), some (0, x5)] [(0, x5)] G R V)
  refine wp_ld (i := (.aload_n 1)) (4, (p1 : Int)) rfl rfl (fun _ => rfl) rfl rfl (?_ : wpv K_X0_rowsLeft d P 9 [some (4, (p0 : Int)), some (4, (p1 : Int)), some (0, x2), some (0, x3), some (0, x4), some (0, x5)] [(4, (p1 : Int)), (0, x5)] G R V)
  refine wp_getA (k := 0) rfl rfl rfl (ly2_o l1) rfl rfl (ly2_0 l1).1 (?_ : wpv K_X0_rowsLeft d P 12 [some (4, (p0 : Int)), some (4, (p1 : Int)), some (0, x2), some (0, x3), some (0, x4), some (0, x5)] [(4, ((p1 + 1 : Nat) : Int)), (0, x5)] G R V)
  refine wp_rng (fun vr1 => ?_)
  have f2 : i32 (V (p1 + 1) 0) := vr_f0 vr1 (ly6_o (ly2_0 l1).2) rfl rfl
  replace w := w f2
  refine wp_getI (k := 0) rfl rfl rfl (ly6_o (ly2_0 l1).2) rfl rfl (?_ : wpv K_X0_rowsLeft d P 15 [some (4, (p0 : Int)), some (4, (p1 : Int)), some (0, x2), some (0, x3), some (0, x4), some (0, x5)] [(0, (V (p1 + 1) 0)), (0, x5)] G R V)
  obtain ⟨s3, w⟩ := w
  refine wp_icmp (c := .ge) 42 rfl rfl rfl s3 f2 (fun q => ?_) (fun q => ?_)
  · have q : ¬ x5 < (V (p1 + 1) 0) := q
    replace w := w.1 q
    show wpv K_X0_rowsLeft d P 42 [some (4, (p0 : Int)), some (4, (p1 : Int)), some (0, x2), some (0, x3), some (0, x4), some (0, x5)] [] G R V
    refine wp_p (i := (.lconst 1)) rfl rfl (fun _ _ _ => rfl) (?_ : wpv K_X0_rowsLeft d P 43 [some (4, (p0 : Int)), some (4, (p1 : Int)), some (0, x2), some (0, x3), some (0, x4), some (0, x5)] [(2, 1)] G R V)
    refine wp_lsto (i := (.lstore 5)) _ rfl rfl (fun _ => rfl) rfl rfl rfl ?_
    refine wp_wk (L' := [some (4, (p0 : Int)), some (4, (p1 : Int)), some (0, x2), some (0, x3), some (0, x4), some (2, 1)]) (wk_s (wk_s (wk_s (wk_s (wk_s (wk_s wk_0)))))) ?_
    show wpv K_X0_rowsLeft d P 45 [some (4, (p0 : Int)), some (4, (p1 : Int)), some (0, x2), some (0, x3), some (0, x4), some (2, 1)] [] G R V
    refine wp_p (i := (.iconst 0)) rfl rfl (fun _ _ _ => rfl) (?_ : wpv K_X0_rowsLeft d P 46 [some (4, (p0 : Int)), some (4, (p1 : Int)), some (0, x2), some (0, x3), some (0, x4), some (2, 1)] [(0, 0)] G R V)
    refine wp_sto (i := (.istore 7)) _ rfl rfl (fun _ => rfl) rfl rfl rfl ?_
    refine wp_wk (L' := [some (4, (p0 : Int)), some (4, (p1 : Int)), some (0, x2), some (0, x3), some (0, x4), some (2, 1), none, some (0, 0)]) (wk_s (wk_s (wk_s (wk_s (wk_s (wk_s (wk_n (wk_s wk_0)))))))) ?_
    show wpv K_X0_rowsLeft d P 48 [some (4, (p0 : Int)), some (4, (p1 : Int)), some (0, x2), some (0, x3), some (0, x4), some (2, 1), none, some (0, 0)] [] G R V
    exact wp_wk (wk_n (wk_n (wk_n (wk_s (wk_s (wk_s (wk_n (wk_s wk_0)))))))) w
  · have q : x5 < (V (p1 + 1) 0) := Decidable.not_not.mp q
    replace w := w.2 q
    show wpv K_X0_rowsLeft d P 18 [some (4, (p0 : Int)), some (4, (p1 : Int)), some (0, x2), some (0, x3), some (0, x4), some (0, x5)] [] G R V
    refine wp_ld (i := (.aload_n 0)) (4, (p0 : Int)) rfl rfl (fun _ => rfl) rfl rfl (?_ : wpv K_X0_rowsLeft d P 19 [some (4, (p0 : Int)), some (4, (p1 : Int)), some (0, x2), some (0, x3), some (0, x4), some (0, x5)] [(4, (p0 : Int))] G R V)
    refine wp_ld (i := (.aload_n 1)) (4, (p1 : Int)) rfl rfl (fun _ => rfl) rfl rfl (?_ : wpv K_X0_rowsLeft d P 20 [some (4, (p0 : Int)), some (4, (p1 : Int)), some (0, x2), some (0, x3), some (0, x4), some (0, x5)] [(4, (p1 : Int)), (4, (p0 : Int))] G R V)
    refine wp_ld (i := (.iload_n 2)) (0, x2) rfl rfl (fun _ => rfl) rfl rfl (?_ : wpv K_X0_rowsLeft d P 21 [some (4, (p0 : Int)), some (4, (p1 : Int)), some (0, x2), some (0, x3), some (0, x4), some (0, x5)] [(0, x2), (4, (p1 : Int)), (4, (p0 : Int))] G R V)
    refine wp_ld (i := (.iload 5)) (0, x5) rfl rfl (fun _ => rfl) rfl rfl (?_ : wpv K_X0_rowsLeft d P 23 [some (4, (p0 : Int)), some (4, (p1 : Int)), some (0, x2), some (0, x3), some (0, x4), some (0, x5)] [(0, x5), (0, x2), (4, (p1 : Int)), (4, (p0 : Int))] G R V)
    refine wp_virt (as := [(4, (p1 : Int)), (0, x2), (0, x5)]) (a := p0) (st := []) _ rfl rfl rfl rfl rfl rfl (ly0_o l0) (Nat.le_of_ble_eq_true rfl) (cwv_kI w (fun v5 V4 w => ?_))
    show wpv K_X0_rowsLeft d P 26 [some (4, (p0 : Int)), some (4, (p1 : Int)), some (0, x2), some (0, x3), some (0, x4), some (0, x5)] [(0, v5)] G R V4
    refine wp_stat (as := [(0, v5)]) (st := []) _ rfl rfl rfl (by omega) rfl rfl (Nat.le_of_ble_eq_true rfl) (cwv_kI w (fun v7 V6 w => ?_))
    show wpv K_X0_rowsLeft d P 29 [some (4, (p0 : Int)), some (4, (p1 : Int)), some (0, x2), some (0, x3), some (0, x4), some (0, x5)] [(0, v7)] G R V6
    refine wp_p (i := (.iconst 1)) rfl rfl (fun _ _ _ => rfl) (?_ : wpv K_X0_rowsLeft d P 30 [some (4, (p0 : Int)), some (4, (p1 : Int)), some (0, x2), some (0, x3), some (0, x4), some (0, x5)] [(0, 1), (0, v7)] G R V6)
    obtain ⟨s8, w⟩ := w
    refine wp_icmp (c := .ne) 36 rfl rfl rfl s8 ⟨by omega, by omega⟩ (fun q => ?_) (fun q => ?_)
    · have q : ¬ v7 = 1 := q
      replace w := w.1 q
      show wpv K_X0_rowsLeft d P 36 [some (4, (p0 : Int)), some (4, (p1 : Int)), some (0, x2), some (0, x3), some (0, x4), some (0, x5)] [] G R V6
      obtain ⟨s9, w⟩ := w
      refine wp_inc (x := 5) (k := 1) (a := x5) (c := (x5 + 1)) _ rfl rfl rfl rfl s9 (by omega) rfl ?_
      show wpv K_X0_rowsLeft d P 39 [some (4, (p0 : Int)), some (4, (p1 : Int)), some (0, x2), some (0, x3), some (0, x4), some (0, (x5 + 1))] [] G R V6
      refine wp_go 6 rfl rfl rfl (?_ : wpv K_X0_rowsLeft d P 6 [some (4, (p0 : Int)), some (4, (p1 : Int)), some (0, x2), some (0, x3), some (0, x4), some (0, (x5 + 1))] [] G R V6)
      exact wp_wk (wk_s (wk_s (wk_s (wk_s (wk_s (wk_s wk_0)))))) w
    · have q : v7 = 1 := Decidable.not_not.mp q
      replace w := w.2 q
      show wpv K_X0_rowsLeft d P 33 [some (4, (p0 : Int)), some (4, (p1 : Int)), some (0, x2), some (0, x3), some (0, x4), some (0, x5)] [] G R V6
      obtain ⟨s10, w⟩ := w
      refine wp_inc (x := 4) (k := 1) (a := x4) (c := (x4 + 1)) _ rfl rfl rfl rfl s10 (by omega) rfl ?_
      show wpv K_X0_rowsLeft d P 36 [some (4, (p0 : Int)), some (4, (p1 : Int)), some (0, x2), some (0, x3), some (0, (x4 + 1)), some (0, x5)] [] G R V6
      obtain ⟨s11, w⟩ := w
      refine wp_inc (x := 5) (k := 1) (a := x5) (c := (x5 + 1)) _ rfl rfl rfl rfl s11 (by omega) rfl ?_
      show wpv K_X0_rowsLeft d P 39 [some (4, (p0 : Int)), some (4, (p1 : Int)), some (0, x2), some (0, x3), some (0, (x4 + 1)), some (0, (x5 + 1))] [] G R V6
      refine wp_go 6 rfl rfl rfl (?_ : wpv K_X0_rowsLeft d P 6 [some (4, (p0 : Int)), some (4, (p1 : Int)), some (0, x2), some (0, x3), some (0, (x4 + 1)), some (0, (x5 + 1))] [] G R V6)
      exact wp_wk (wk_s (wk_s (wk_s (wk_s (wk_s (wk_s wk_0)))))) w

theorem t_X0_rowsLeft_48 {d : Nat} {P : gP} {x3 : Int} {x4 : Int} {x5 : Int} {x7 : Int} {G : List gS} {R V : gV}  (w : ((i32 x7) ∧ ((i32 x3) ∧ (((¬ x7 < x3) → P (some (2, x5)) V) ∧ ((x7 < x3) → ((i32 (x4 - x7)) ∧ ((i32 (x7 + 1)) ∧ wpv K_X0_rowsLeft d P 48 [none, none, none, some (0, x3), some (0, x4), some (2, (jmul x5 ((if 0 < (x4 - x7) then (x4 - x7) else 0)))), none, some (0, (x7 + 1))] [] G R V))))))) : wpv K_X0_rowsLeft d P 48 [none, none, none, some (0, x3), some (0, x4), some (2, x5), none, some (0, x7)] [] G R V := by
  refine wp_ld (i := (.iload 7)) (0, x7) rfl rfl (fun _ => rfl) rfl rfl (?_ : wpv K_X0_rowsLeft d P 50 [none, none, none, some (0, x3), some (0, x4), some (2, x5), none, some (0, x7)] [(0, x7)] G R V)
  refine wp_ld (i := (.iload_n 3)) (0, x3) rfl rfl (fun _ => rfl) rfl rfl (?_ : wpv K_X0_rowsLeft d P 51 [none, none, none, some (0, x3), some (0, x4), some (2, x5), none, some (0, x7)] [(0, x3), (0, x7)] G R V)
  obtain ⟨s1, w⟩ := w
  obtain ⟨s2, w⟩ := w
  refine wp_icmp (c := .ge) 75 rfl rfl rfl s1 s2 (fun q => ?_) (fun q => ?_)
  · have q : ¬ x7 < x3 := q
    replace w := w.1 q
    show wpv K_X0_rowsLeft d P 75 [none, none, none, some (0, x3), some (0, x4), some (2, x5), none, some (0, x7)] [] G R V
    refine wp_ld (i := (.lload 5)) (2, x5) rfl rfl (fun _ => rfl) rfl rfl (?_ : wpv K_X0_rowsLeft d P 77 [none, none, none, some (0, x3), some (0, x4), some (2, x5), none, some (0, x7)] [(2, x5)] G R V)
    exact wp_rJ rfl rfl rfl w
  · have q : x7 < x3 := Decidable.not_not.mp q
    replace w := w.2 q
    show wpv K_X0_rowsLeft d P 54 [none, none, none, some (0, x3), some (0, x4), some (2, x5), none, some (0, x7)] [] G R V
    refine wp_ld (i := (.lload 5)) (2, x5) rfl rfl (fun _ => rfl) rfl rfl (?_ : wpv K_X0_rowsLeft d P 56 [none, none, none, some (0, x3), some (0, x4), some (2, x5), none, some (0, x7)] [(2, x5)] G R V)
    refine wp_p (i := (.iconst 0)) rfl rfl (fun _ _ _ => rfl) (?_ : wpv K_X0_rowsLeft d P 57 [none, none, none, some (0, x3), some (0, x4), some (2, x5), none, some (0, x7)] [(0, 0), (2, x5)] G R V)
    refine wp_ld (i := (.iload 4)) (0, x4) rfl rfl (fun _ => rfl) rfl rfl (?_ : wpv K_X0_rowsLeft d P 59 [none, none, none, some (0, x3), some (0, x4), some (2, x5), none, some (0, x7)] [(0, x4), (0, 0), (2, x5)] G R V)
    refine wp_ld (i := (.iload 7)) (0, x7) rfl rfl (fun _ => rfl) rfl rfl (?_ : wpv K_X0_rowsLeft d P 61 [none, none, none, some (0, x3), some (0, x4), some (2, x5), none, some (0, x7)] [(0, x7), (0, x4), (0, 0), (2, x5)] G R V)
    obtain ⟨s3, w⟩ := w
    refine wp_xsub rfl rfl s3 (?_ : wpv K_X0_rowsLeft d P 62 [none, none, none, some (0, x3), some (0, x4), some (2, x5), none, some (0, x7)] [(0, (x4 - x7)), (0, 0), (2, x5)] G R V)
    have f4 : i32 (if 0 < (x4 - x7) then (x4 - x7) else 0) := by split <;> first | exact s3 | exact ⟨by omega, by omega⟩
    refine wp_max rfl rfl rfl (Nat.le_of_ble_eq_true rfl) ⟨by omega, by omega⟩ s3 rfl (?_ : wpv K_X0_rowsLeft d P 65 [none, none, none, some (0, x3), some (0, x4), some (2, x5), none, some (0, x7)] [(0, (if 0 < (x4 - x7) then (x4 - x7) else 0)), (2, x5)] G R V)
    refine wp_i2l rfl rfl f4 (?_ : wpv K_X0_rowsLeft d P 66 [none, none, none, some (0, x3), some (0, x4), some (2, x5), none, some (0, x7)] [(2, (if 0 < (x4 - x7) then (x4 - x7) else 0)), (2, x5)] G R V)
    refine wp_jmul rfl rfl (?_ : wpv K_X0_rowsLeft d P 67 [none, none, none, some (0, x3), some (0, x4), some (2, x5), none, some (0, x7)] [(2, (jmul x5 ((if 0 < (x4 - x7) then (x4 - x7) else 0))))] G R V)
    refine wp_lsto (i := (.lstore 5)) _ rfl rfl (fun _ => rfl) rfl rfl rfl ?_
    refine wp_wk (L' := [none, none, none, some (0, x3), some (0, x4), some (2, (jmul x5 ((if 0 < (x4 - x7) then (x4 - x7) else 0)))), none, some (0, x7)]) (wk_n (wk_n (wk_n (wk_s (wk_s (wk_s (wk_n (wk_s wk_0)))))))) ?_
    show wpv K_X0_rowsLeft d P 69 [none, none, none, some (0, x3), some (0, x4), some (2, (jmul x5 ((if 0 < (x4 - x7) then (x4 - x7) else 0)))), none, some (0, x7)] [] G R V
    obtain ⟨s5, w⟩ := w
    refine wp_inc (x := 7) (k := 1) (a := x7) (c := (x7 + 1)) _ rfl rfl rfl rfl s5 (by omega) rfl ?_
    show wpv K_X0_rowsLeft d P 72 [none, none, none, some (0, x3), some (0, x4), some (2, (jmul x5 ((if 0 < (x4 - x7) then (x4 - x7) else 0)))), none, some (0, (x7 + 1))] [] G R V
    refine wp_go 48 rfl rfl rfl (?_ : wpv K_X0_rowsLeft d P 48 [none, none, none, some (0, x3), some (0, x4), some (2, (jmul x5 ((if 0 < (x4 - x7) then (x4 - x7) else 0)))), none, some (0, (x7 + 1))] [] G R V)
    exact wp_wk (wk_n (wk_n (wk_n (wk_s (wk_s (wk_s (wk_n (wk_s wk_0)))))))) w
theorem t_X0_takeHeaps_0 {d : Nat} {P : gP} {p0 : Nat} {p1 : Nat} {G : List gS} {R V : gV} (l0 : lay0 G R p0) (l1 : lay2 G R p1) (w : wpv K_X0_takeHeaps d P 7 [some (4, (p0 : Int)), some (4, (p1 : Int)), some (4, ((p1 + 10 : Nat) : Int)), some (0, 0)] [] G R V) : wpv K_X0_takeHeaps d P 0 [some (4, (p0 : Int)), some (4, (p1 : Int))] [] G R V := by
  refine wp_ld (i := (.aload_n 1)) (4, (p1 : Int)) rfl rfl (fun _ => rfl) rfl rfl (?_ : wpv K_X0_takeHeaps d P 1 [some (4, (p0 : Int)), some (4, (p1 : Int))] [(4, (p1 : Int))] G R V)
  refine wp_getA (k := 1) rfl rfl rfl (ly2_o l1) rfl rfl (ly2_1 l1).1 (?_ : wpv K_X0_takeHeaps d P 4 [some (4, (p0 : Int)), some (4, (p1 : Int))] [(4, ((p1 + 10 : Nat) : Int))] G R V)
  refine wp_sto (i := (.astore_n 2)) _ rfl rfl (fun _ => rfl) rfl rfl rfl ?_
  refine wp_wk (L' := [some (4, (p0 : Int)), some (4, (p1 : Int)), some (4, ((p1 + 10 : Nat) : Int))]) (wk_s (wk_s (wk_s wk_0))) ?_
  show wpv K_X0_takeHeaps d P 5 [some (4, (p0 : Int)), some (4, (p1 : Int)), some (4, ((p1 + 10 : Nat) : Int))] [] G R V
  refine wp_p (i := (.iconst 0)) rfl rfl (fun _ _ _ => rfl) (?_ : wpv K_X0_takeHeaps d P 6 [some (4, (p0 : Int)), some (4, (p1 : Int)), some (4, ((p1 + 10 : Nat) : Int))] [(0, 0)] G R V)
  refine wp_sto (i := (.istore_n 3)) _ rfl rfl (fun _ => rfl) rfl rfl rfl ?_
  refine wp_wk (L' := [some (4, (p0 : Int)), some (4, (p1 : Int)), some (4, ((p1 + 10 : Nat) : Int)), some (0, 0)]) (wk_s (wk_s (wk_s (wk_s wk_0)))) ?_
  show wpv K_X0_takeHeaps d P 7 [some (4, (p0 : Int)), some (4, (p1 : Int)), some (4, ((p1 + 10 : Nat) : Int)), some (0, 0)] [] G R V
  exact wp_wk (wk_s (wk_s (wk_s (wk_s wk_0)))) w

theorem t_X0_takeHeaps_7 {d : Nat} {P : gP} {p0 : Nat} {p1 : Nat} {p2 : Nat} {x3 : Int} {G : List gS} {R V : gV} (l0 : lay0 G R p0) (l1 : lay2 G R p1) (l2 : lay4 G R p2) (w : ((i32 (V p2 1)) → ((i32 x3) ∧ (((¬ x3 < (V p2 1)) → wpv K_X0_takeHeaps d P 30 [some (4, (p0 : Int)), some (4, (p1 : Int)), some (4, (p2 : Int)), some (0, 0)] [] G R V) ∧ ((x3 < (V p2 1)) → ((0 ≤ x3 ∧ x3 < 300) ∧ ((i32 (x3 + 1)) ∧ wpv K_X0_takeHeaps d P 7 [some (4, (p0 : Int)), some (4, (p1 : Int)), some (4, (p2 : Int)), some (0, (x3 + 1))] [] G R (wr V (p0 + 2) x3 0)))))))) : wpv K_X0_takeHeaps d P 7 [some (4, (p0 : Int)), some (4, (p1 : Int)), some (4, (p2 : Int)), some (0, x3)] [] G R V := by
  refine wp_ld (i := (.iload_n 3)) (0, x3) rfl rfl (fun _ => rfl) rfl rfl (?_ : wpv K_X0_takeHeaps d P 8 [some (4, (p0 : Int)), some (4, (p1 : Int)), some (4, (p2 : Int)), some (0, x3)] [(0, x3)] G R V)
  refine wp_ld (i := (.aload_n 2)) (4, (p2 : Int)) rfl rfl (fun _ => rfl) rfl rfl (?_ : wpv K_X0_takeHeaps d P 9 [some (4, (p0 : Int)), some (4, (p1 : Int)), some (4, (p2 : Int)), some (0, x3)] [(4, (p2 : Int)), (0, x3)] G R V)
  refine wp_rng (fun vr1 => ?_)
  have f2 : i32 (V p2 1) := vr_f0 vr1 (ly4_o l2) rfl rfl
  replace w := w f2
  refine wp_getI (k := 1) rfl rfl rfl (ly4_o l2) rfl rfl (?_ : wpv K_X0_takeHeaps d P 12 [some (4, (p0 : Int)), some (4, (p1 : Int)), some (4, (p2 : Int)), some (0, x3)] [(0, (V p2 1)), (0, x3)] G R V)
  obtain ⟨s3, w⟩ := w
  refine wp_icmp (c := .ge) 28 rfl rfl rfl s3 f2 (fun q => ?_) (fun q => ?_)
  · have q : ¬ x3 < (V p2 1) := q
    replace w := w.1 q
    show wpv K_X0_takeHeaps d P 28 [some (4, (p0 : Int)), some (4, (p1 : Int)), some (4, (p2 : Int)), some (0, x3)] [] G R V
    refine wp_p (i := (.iconst 0)) rfl rfl (fun _ _ _ => rfl) (?_ : wpv K_X0_takeHeaps d P 29 [some (4, (p0 : Int)), some (4, (p1 : Int)), some (4, (p2 : Int)), some (0, x3)] [(0, 0)] G R V)
    refine wp_sto (i := (.istore_n 3)) _ rfl rfl (fun _ => rfl) rfl rfl rfl ?_
    refine wp_wk (L' := [some (4, (p0 : Int)), some (4, (p1 : Int)), some (4, (p2 : Int)), some (0, 0)]) (wk_s (wk_s (wk_s (wk_s wk_0)))) ?_
    show wpv K_X0_takeHeaps d P 30 [some (4, (p0 : Int)), some (4, (p1 : Int)), some (4, (p2 : Int)), some (0, 0)] [] G R V
    exact wp_wk (wk_s (wk_s (wk_s (wk_s wk_0)))) w
  · have q : x3 < (V p2 1) := Decidable.not_not.mp q
    replace w := w.2 q
    show wpv K_X0_takeHeaps d P 15 [some (4, (p0 : Int)), some (4, (p1 : Int)), some (4, (p2 : Int)), some (0, x3)] [] G R V
    refine wp_ld (i := (.aload_n 0)) (4, (p0 : Int)) rfl rfl (fun _ => rfl) rfl rfl (?_ : wpv K_X0_takeHeaps d P 16 [some (4, (p0 : Int)), some (4, (p1 : Int)), some (4, (p2 : Int)), some (0, x3)] [(4, (p0 : Int))] G R V)
    refine wp_getA (k := 1) rfl rfl rfl (ly0_o l0) rfl rfl (ly0_1 l0).1 (?_ : wpv K_X0_takeHeaps d P 19 [some (4, (p0 : Int)), some (4, (p1 : Int)), some (4, (p2 : Int)), some (0, x3)] [(4, ((p0 + 2 : Nat) : Int))] G R V)
    refine wp_ld (i := (.iload_n 3)) (0, x3) rfl rfl (fun _ => rfl) rfl rfl (?_ : wpv K_X0_takeHeaps d P 20 [some (4, (p0 : Int)), some (4, (p1 : Int)), some (4, (p2 : Int)), some (0, x3)] [(0, x3), (4, ((p0 + 2 : Nat) : Int))] G R V)
    refine wp_p (i := (.lconst 0)) rfl rfl (fun _ _ _ => rfl) (?_ : wpv K_X0_takeHeaps d P 21 [some (4, (p0 : Int)), some (4, (p1 : Int)), some (4, (p2 : Int)), some (0, x3)] [(2, 0), (0, x3), (4, ((p0 + 2 : Nat) : Int))] G R V)
    obtain ⟨s4, w⟩ := w
    refine wp_sJ rfl rfl (ly0_1 l0).2 s4 ⟨by omega, by omega⟩ (?_ : wpv K_X0_takeHeaps d P 22 [some (4, (p0 : Int)), some (4, (p1 : Int)), some (4, (p2 : Int)), some (0, x3)] [] G R (wr V (p0 + 2) x3 0))
    obtain ⟨s5, w⟩ := w
    refine wp_inc (x := 3) (k := 1) (a := x3) (c := (x3 + 1)) _ rfl rfl rfl rfl s5 (by omega) rfl ?_
    show wpv K_X0_takeHeaps d P 25 [some (4, (p0 : Int)), some (4, (p1 : Int)), some (4, (p2 : Int)), some (0, (x3 + 1))] [] G R (wr V (p0 + 2) x3 0)
    refine wp_go 7 rfl rfl rfl (?_ : wpv K_X0_takeHeaps d P 7 [some (4, (p0 : Int)), some (4, (p1 : Int)), some (4, (p2 : Int)), some (0, (x3 + 1))] [] G R (wr V (p0 + 2) x3 0))
    exact wp_wk (wk_s (wk_s (wk_s (wk_s wk_0)))) w

theorem t_X0_takeHeaps_30 {d : Nat} {P : gP} {p0 : Nat} {p1 : Nat} {p2 : Nat} {x3 : Int} {G : List gS} {R V : gV} (l0 : lay0 G R p0) (l1 : lay2 G R p1) (l2 : lay4 G R p2) (w : ((i32 (V p2 1)) → ((i32 x3) ∧ (((¬ x3 < (V p2 1)) → cwv d (fun r V4 => r = none ∧ P none V4) 14 [(4, (p0 : Int)), (4, (p2 : Int))] G R V) ∧ ((x3 < (V p2 1)) → ((0 ≤ x3 ∧ x3 < 300) ∧ ((i32 (V (p2 + 7) x3)) → cwv d (fun r V7 => ∃ v8 : Int, r = some (0, v8) ∧ cwv d (fun r V9 => ∃ v10 : Int, r = some (0, v10) ∧ ((i32 v10) ∧ (((v10 = 0) → ((i32 (x3 + 1)) ∧ wpv K_X0_takeHeaps d P 30 [some (4, (p0 : Int)), some (4, (p1 : Int)), some (4, (p2 : Int)), some (0, (x3 + 1))] [] G R V9)) ∧ ((¬ v10 = 0) → ((0 ≤ v8 ∧ v8 < 300) ∧ ((i32 (V9 (p2 + 4) v8)) → ((0 ≤ (V9 (p2 + 4) v8) ∧ (V9 (p2 + 4) v8) < 300) ∧ ((i64 (V9 (p0 + 2) ((V9 (p2 + 4) v8)))) → ((i32 (x3 + 1)) ∧ wpv K_X0_takeHeaps d P 30 [some (4, (p0 : Int)), some (4, (p1 : Int)), some (4, (p2 : Int)), some (0, (x3 + 1))] [] G R (wr V9 (p0 + 2) ((V9 (p2 + 4) v8)) ((jadd ((V9 (p0 + 2) ((V9 (p2 + 4) v8)))) 1)))))))))))) 56 [(4, (p2 : Int)), (0, v8)] G R V7) 33 [(4, (p1 : Int)), (0, (V (p2 + 7) x3))] G R V))))))) : wpv K_X0_takeHeaps d P 30 [some (4, (p0 : Int)), some (4, (p1 : Int)), some (4, (p2 : Int)), some (0, x3)] [] G R V := by
  refine wp_ld (i := (.iload_n 3)) (0, x3) rfl rfl (fun _ => rfl) rfl rfl (?_ : wpv K_X0_takeHeaps d P 31 [some (4, (p0 : Int)), some (4, (p1 : Int)), some (4, (p2 : Int)), some (0, x3)] [(0, x3)] G R V)
  refine wp_ld (i := (.aload_n 2)) (4, (p2 : Int)) rfl rfl (fun _ => rfl) rfl rfl (?_ : wpv K_X0_takeHeaps d P 32 [some (4, (p0 : Int)), some (4, (p1 : Int)), some (4, (p2 : Int)), some (0, x3)] [(4, (p2 : Int)), (0, x3)] G R V)
  refine wp_rng (fun vr1 => ?_)
  have f2 : i32 (V p2 1) := vr_f0 vr1 (ly4_o l2) rfl rfl
  replace w := w f2
  refine wp_getI (k := 1) rfl rfl rfl (ly4_o l2) rfl rfl (?_ : wpv K_X0_takeHeaps d P 35 [some (4, (p0 : Int)), some (4, (p1 : Int)), some (4, (p2 : Int)), some (0, x3)] [(0, (V p2 1)), (0, x3)] G R V)
  obtain ⟨s3, w⟩ := w
  refine wp_icmp (c := .ge) 81 rfl rfl rfl s3 f2 (fun q => ?_) (fun q => ?_)
  · have q : ¬ x3 < (V p2 1) := q
    replace w := w.1 q
    show wpv K_X0_takeHeaps d P 81 [some (4, (p0 : Int)), some (4, (p1 : Int)), some (4, (p2 : Int)), some (0, x3)] [] G R V
    refine wp_ld (i := (.aload_n 0)) (4, (p0 : Int)) rfl rfl (fun _ => rfl) rfl rfl (?_ : wpv K_X0_takeHeaps d P 82 [some (4, (p0 : Int)), some (4, (p1 : Int)), some (4, (p2 : Int)), some (0, x3)] [(4, (p0 : Int))] G R V)
    refine wp_ld (i := (.aload_n 2)) (4, (p2 : Int)) rfl rfl (fun _ => rfl) rfl rfl (?_ : wpv K_X0_takeHeaps d P 83 [some (4, (p0 : Int)), some (4, (p1 : Int)), some (4, (p2 : Int)), some (0, x3)] [(4, (p2 : Int)), (4, (p0 : Int))] G R V)
    refine wp_virt (as := [(4, (p2 : Int))]) (a := p0) (st := []) _ rfl rfl rfl rfl rfl rfl (ly0_o l0) (Nat.le_of_ble_eq_true rfl) (cwv_k0 w (fun V4 w => ?_))
    show wpv K_X0_takeHeaps d P 86 [some (4, (p0 : Int)), some (4, (p1 : Int)), some (4, (p2 : Int)), some (0, x3)] [] G R V4
    exact wp_r0 rfl rfl rfl w
  · have q : x3 < (V p2 1) := Decidable.not_not.mp q
    replace w := w.2 q
    show wpv K_X0_takeHeaps d P 38 [some (4, (p0 : Int)), some (4, (p1 : Int)), some (4, (p2 : Int)), some (0, x3)] [] G R V
    refine wp_ld (i := (.aload_n 1)) (4, (p1 : Int)) rfl rfl (fun _ => rfl) rfl rfl (?_ : wpv K_X0_takeHeaps d P 39 [some (4, (p0 : Int)), some (4, (p1 : Int)), some (4, (p2 : Int)), some (0, x3)] [(4, (p1 : Int))] G R V)
    refine wp_ld (i := (.aload_n 2)) (4, (p2 : Int)) rfl rfl (fun _ => rfl) rfl rfl (?_ : wpv K_X0_takeHeaps d P 40 [some (4, (p0 : Int)), some (4, (p1 : Int)), some (4, (p2 : Int)), some (0, x3)] [(4, (p2 : Int)), (4, (p1 : Int))] G R V)
    refine wp_getA (k := 8) rfl rfl rfl (ly4_o l2) rfl rfl (ly4_8 l2).1 (?_ : wpv K_X0_takeHeaps d P 43 [some (4, (p0 : Int)), some (4, (p1 : Int)), some (4, (p2 : Int)), some (0, x3)] [(4, ((p2 + 7 : Nat) : Int)), (4, (p1 : Int))] G R V)
    refine wp_ld (i := (.iload_n 3)) (0, x3) rfl rfl (fun _ => rfl) rfl rfl (?_ : wpv K_X0_takeHeaps d P 44 [some (4, (p0 : Int)), some (4, (p1 : Int)), some (4, (p2 : Int)), some (0, x3)] [(0, x3), (4, ((p2 + 7 : Nat) : Int)), (4, (p1 : Int))] G R V)
    obtain ⟨s5, w⟩ := w
    have f6 : i32 (V (p2 + 7) x3) := vr_a0 vr1 (ly4_8 l2).2 s5
    replace w := w f6
    refine wp_aI rfl rfl (ly4_8 l2).2 s5 (?_ : wpv K_X0_takeHeaps d P 45 [some (4, (p0 : Int)), some (4, (p1 : Int)), some (4, (p2 : Int)), some (0, x3)] [(0, (V (p2 + 7) x3)), (4, (p1 : Int))] G R V)
    refine wp_virt (as := [(0, (V (p2 + 7) x3))]) (a := p1) (st := []) _ rfl rfl rfl rfl rfl rfl (ly2_o l1) (Nat.le_of_ble_eq_true rfl) (cwv_kI w (fun v8 V7 w => ?_))
    show wpv K_X0_takeHeaps d P 48 [some (4, (p0 : Int)), some (4, (p1 : Int)), some (4, (p2 : Int)), some (0, x3)] [(0, v8)] G R V7
    refine wp_sto (i := (.istore 4)) _ rfl rfl (fun _ => rfl) rfl rfl rfl ?_
    refine wp_wk (L' := [some (4, (p0 : Int)), some (4, (p1 : Int)), some (4, (p2 : Int)), some (0, x3), some (0, v8)]) (wk_s (wk_s (wk_s (wk_s (wk_s wk_0))))) ?_
    show wpv K_X0_takeHeaps d P 50 [some (4, (p0 : Int)), some (4, (p1 : Int)), some (4, (p2 : Int)), some (0, x3), some (0, v8)] [] G R V7
    refine wp_ld (i := (.aload_n 2)) (4, (p2 : Int)) rfl rfl (fun _ => rfl) rfl rfl (?_ : wpv K_X0_takeHeaps d P 51 [some (4, (p0 : Int)), some (4, (p1 : Int)), some (4, (p2 : Int)), some (0, x3), some (0, v8)] [(4, (p2 : Int))] G R V7)
    refine wp_ld (i := (.iload 4)) (0, v8) rfl rfl (fun _ => rfl) rfl rfl (?_ : wpv K_X0_takeHeaps d P 53 [some (4, (p0 : Int)), some (4, (p1 : Int)), some (4, (p2 : Int)), some (0, x3), some (0, v8)] [(0, v8), (4, (p2 : Int))] G R V7)
    refine wp_virt (as := [(0, v8)]) (a := p2) (st := []) _ rfl rfl rfl rfl rfl rfl (ly4_o l2) (Nat.le_of_ble_eq_true rfl) (cwv_kI w (fun v10 V9 w => ?_))
    show wpv K_X0_takeHeaps d P 56 [some (4, (p0 : Int)), some (4, (p1 : Int)), some (4, (p2 : Int)), some (0, x3), some (0, v8)] [(0, v10)] G R V9
    obtain ⟨s11, w⟩ := w
    refine wp_if (c := .eq) 75 rfl rfl rfl s11 (fun q => ?_) (fun q => ?_)
    · have q : v10 = 0 := q
      replace w := w.1 q
      show wpv K_X0_takeHeaps d P 75 [some (4, (p0 : Int)), some (4, (p1 : Int)), some (4, (p2 : Int)), some (0, x3), some (0, v8)] [] G R V9
      obtain ⟨s12, w⟩ := w
      refine wp_inc (x := 3) (k := 1) (a := x3) (c := (x3 + 1)) _ rfl rfl rfl rfl s12 (by omega) rfl ?_
      show wpv K_X0_takeHeaps d P 78 [some (4, (p0 : Int)), some (4, (p1 : Int)), some (4, (p2 : Int)), some (0, (x3 + 1)), some (0, v8)] [] G R V9
      refine wp_go 30 rfl rfl rfl (?_ : wpv K_X0_takeHeaps d P 30 [some (4, (p0 : Int)), some (4, (p1 : Int)), some (4, (p2 : Int)), some (0, (x3 + 1)), some (0, v8)] [] G R V9)
      exact wp_wk (wk_s (wk_s (wk_s (wk_s wk_0)))) w
    · have q : ¬ v10 = 0 := q
      replace w := w.2 q
      show wpv K_X0_takeHeaps d P 59 [some (4, (p0 : Int)), some (4, (p1 : Int)), some (4, (p2 : Int)), some (0, x3), some (0, v8)] [] G R V9
      refine wp_ld (i := (.aload_n 0)) (4, (p0 : Int)) rfl rfl (fun _ => rfl) rfl rfl (?_ : wpv K_X0_takeHeaps d P 60 [some (4, (p0 : Int)), some (4, (p1 : Int)), some (4, (p2 : Int)), some (0, x3), some (0, v8)] [(4, (p0 : Int))] G R V9)
      refine wp_getA (k := 1) rfl rfl rfl (ly0_o l0) rfl rfl (ly0_1 l0).1 (?_ : wpv K_X0_takeHeaps d P 63 [some (4, (p0 : Int)), some (4, (p1 : Int)), some (4, (p2 : Int)), some (0, x3), some (0, v8)] [(4, ((p0 + 2 : Nat) : Int))] G R V9)
      refine wp_ld (i := (.aload_n 2)) (4, (p2 : Int)) rfl rfl (fun _ => rfl) rfl rfl (?_ : wpv K_X0_takeHeaps d P 64 [some (4, (p0 : Int)), some (4, (p1 : Int)), some (4, (p2 : Int)), some (0, x3), some (0, v8)] [(4, (p2 : Int)), (4, ((p0 + 2 : Nat) : Int))] G R V9)
      refine wp_getA (k := 5) rfl rfl rfl (ly4_o l2) rfl rfl (ly4_5 l2).1 (?_ : wpv K_X0_takeHeaps d P 67 [some (4, (p0 : Int)), some (4, (p1 : Int)), some (4, (p2 : Int)), some (0, x3), some (0, v8)] [(4, ((p2 + 4 : Nat) : Int)), (4, ((p0 + 2 : Nat) : Int))] G R V9)
      refine wp_ld (i := (.iload 4)) (0, v8) rfl rfl (fun _ => rfl) rfl rfl (?_ : wpv K_X0_takeHeaps d P 69 [some (4, (p0 : Int)), some (4, (p1 : Int)), some (4, (p2 : Int)), some (0, x3), some (0, v8)] [(0, v8), (4, ((p2 + 4 : Nat) : Int)), (4, ((p0 + 2 : Nat) : Int))] G R V9)
      obtain ⟨s13, w⟩ := w
      refine wp_rng (fun vr14 => ?_)
      have f15 : i32 (V9 (p2 + 4) v8) := vr_a0 vr14 (ly4_5 l2).2 s13
      replace w := w f15
      refine wp_aI rfl rfl (ly4_5 l2).2 s13 (?_ : wpv K_X0_takeHeaps d P 70 [some (4, (p0 : Int)), some (4, (p1 : Int)), some (4, (p2 : Int)), some (0, x3), some (0, v8)] [(0, (V9 (p2 + 4) v8)), (4, ((p0 + 2 : Nat) : Int))] G R V9)
      refine wp_p (i := .dup2) rfl rfl (fun _ _ _ => rfl) (?_ : wpv K_X0_takeHeaps d P 71 [some (4, (p0 : Int)), some (4, (p1 : Int)), some (4, (p2 : Int)), some (0, x3), some (0, v8)] [(0, (V9 (p2 + 4) v8)), (4, ((p0 + 2 : Nat) : Int)), (0, (V9 (p2 + 4) v8)), (4, ((p0 + 2 : Nat) : Int))] G R V9)
      obtain ⟨s16, w⟩ := w
      have f17 : i64 (V9 (p0 + 2) ((V9 (p2 + 4) v8))) := vr_a1 vr14 (ly0_1 l0).2 s16
      replace w := w f17
      refine wp_aJ rfl rfl (ly0_1 l0).2 s16 (?_ : wpv K_X0_takeHeaps d P 72 [some (4, (p0 : Int)), some (4, (p1 : Int)), some (4, (p2 : Int)), some (0, x3), some (0, v8)] [(2, (V9 (p0 + 2) ((V9 (p2 + 4) v8)))), (0, (V9 (p2 + 4) v8)), (4, ((p0 + 2 : Nat) : Int))] G R V9)
      refine wp_p (i := (.lconst 1)) rfl rfl (fun _ _ _ => rfl) (?_ : wpv K_X0_takeHeaps d P 73 [some (4, (p0 : Int)), some (4, (p1 : Int)), some (4, (p2 : Int)), some (0, x3), some (0, v8)] [(2, 1), (2, (V9 (p0 + 2) ((V9 (p2 + 4) v8)))), (0, (V9 (p2 + 4) v8)), (4, ((p0 + 2 : Nat) : Int))] G R V9)
      refine wp_jadd rfl rfl (?_ : wpv K_X0_takeHeaps d P 74 [some (4, (p0 : Int)), some (4, (p1 : Int)), some (4, (p2 : Int)), some (0, x3), some (0, v8)] [(2, (jadd ((V9 (p0 + 2) ((V9 (p2 + 4) v8)))) 1)), (0, (V9 (p2 + 4) v8)), (4, ((p0 + 2 : Nat) : Int))] G R V9)
      refine wp_sJ rfl rfl (ly0_1 l0).2 s16 (t64 _) (?_ : wpv K_X0_takeHeaps d P 75 [some (4, (p0 : Int)), some (4, (p1 : Int)), some (4, (p2 : Int)), some (0, x3), some (0, v8)] [] G R (wr V9 (p0 + 2) ((V9 (p2 + 4) v8)) ((jadd ((V9 (p0 + 2) ((V9 (p2 + 4) v8)))) 1))))
      obtain ⟨s18, w⟩ := w
      refine wp_inc (x := 3) (k := 1) (a := x3) (c := (x3 + 1)) _ rfl rfl rfl rfl s18 (by omega) rfl ?_
      show wpv K_X0_takeHeaps d P 78 [some (4, (p0 : Int)), some (4, (p1 : Int)), some (4, (p2 : Int)), some (0, (x3 + 1)), some (0, v8)] [] G R (wr V9 (p0 + 2) ((V9 (p2 + 4) v8)) ((jadd ((V9 (p0 + 2) ((V9 (p2 + 4) v8)))) 1)))
      refine wp_go 30 rfl rfl rfl (?_ : wpv K_X0_takeHeaps d P 30 [some (4, (p0 : Int)), some (4, (p1 : Int)), some (4, (p2 : Int)), some (0, (x3 + 1)), some (0, v8)] [] G R (wr V9 (p0 + 2) ((V9 (p2 + 4) v8)) ((jadd ((V9 (p0 + 2) ((V9 (p2 + 4) v8)))) 1))))
      exact wp_wk (wk_s (wk_s (wk_s (wk_s wk_0)))) w
theorem t_X0_takeSum_0 {d : Nat} {P : gP} {p0 : Nat} {p1 : Nat} {x2 : Int} {x3 : Int} {G : List gS} {R V : gV} (l0 : lay0 G R p0) (l1 : lay1 G R p1) (w : wpv K_X0_takeSum d P 3 [some (4, (p0 : Int)), some (4, (p1 : Int)), some (0, x2), some (0, x3), some (0, 0)] [] G R V) : wpv K_X0_takeSum d P 0 [some (4, (p0 : Int)), some (4, (p1 : Int)), some (0, x2), some (0, x3)] [] G R V := by
  refine wp_p (i := (.iconst 0)) rfl rfl (fun _ _ _ => rfl) (?_ : wpv K_X0_takeSum d P 1 [some (4, (p0 : Int)), some (4, (p1 : Int)), some (0, x2), some (0, x3)] [(0, 0)] G R V)
  refine wp_sto (i := (.istore 4)) _ rfl rfl (fun _ => rfl) rfl rfl rfl ?_
  refine wp_wk (L' := [some (4, (p0 : Int)), some (4, (p1 : Int)), some (0, x2), some (0, x3), some (0, 0)]) (wk_s (wk_s (wk_s (wk_s (wk_s wk_0))))) ?_
  show wpv K_X0_takeSum d P 3 [some (4, (p0 : Int)), some (4, (p1 : Int)), some (0, x2), some (0, x3), some (0, 0)] [] G R V
  exact wp_wk (wk_s (wk_s (wk_s (wk_s (wk_s wk_0))))) w

theorem t_X0_takeSum_3 {d : Nat} {P : gP} {p0 : Nat} {p1 : Nat} {x2 : Int} {x3 : Int} {x4 : Int} {G : List gS} {R V : gV} (l0 : lay0 G R p0) (l1 : lay1 G R p1) (w : (∃ b1 : Nat, (R p1 0 = (b1 : Int) ∧ lay2 G R b1) ∧ ((i32 (V (b1 + 10) 1)) → ((i32 x4) ∧ (((¬ x4 < (V (b1 + 10) 1)) → P none V) ∧ ((x4 < (V (b1 + 10) 1)) → cwv d (fun r V5 => ∃ v6 : Int, r = some (2, v6) ∧ cwv d (fun r V7 => ∃ v8 : Int, r = some (2, v8) ∧ ((0 ≤ x4 ∧ x4 < 300) ∧ cwv d (fun r V10 => ∃ v11 : Int, r = some (2, v11) ∧ cwv d (fun r V12 => ∃ v13 : Int, r = some (2, v13) ∧ ((i32 (x4 + 1)) ∧ wpv K_X0_takeSum d P 3 [some (4, (p0 : Int)), some (4, (p1 : Int)), some (0, x2), some (0, x3), some (0, (x4 + 1))] [] G R (wr V12 (p0 + 2) x4 ((jadd v11 v13))))) 22 [(4, (p1 : Int)), (0, x3), (0, x4)] G R V10) 22 [(4, (p1 : Int)), (0, x2), (0, x4)] G R (wr V7 (p0 + 1) x4 ((jadd v6 v8))))) 21 [(4, (p1 : Int)), (0, x3), (0, x4)] G R V5) 21 [(4, (p1 : Int)), (0, x2), (0, x4)] G R V)))))) : wpv K_X0_takeSum d P 3 [some (4, (p0 : Int)), some (4, (p1 : Int)), some (0, x2), some (0, x3), some (0, x4)] [] G R V := by
  refine wp_ld (i := (.iload 4)) (0, x4) rfl rfl (fun _ => rfl) rfl rfl (?_ : wpv K_X0_takeSum d P 5 [some (4, (p0 : Int)), some (4, (p1 : Int)), some (0, x2), some (0, x3), some (0, x4)] [(0, x4)] G R V)
  refine wp_ld (i := (.aload_n 1)) (4, (p1 : Int)) rfl rfl (fun _ => rfl) rfl rfl (?_ : wpv K_X0_takeSum d P 6 [some (4, (p0 : Int)), some (4, (p1 : Int)), some (0, x2), some (0, x3), some (0, x4)] [(4, (p1 : Int)), (0, x4)] G R V)
  obtain ⟨b1, ⟨r1, l1_⟩, w⟩ := w
  refine wp_getA (k := 0) rfl rfl rfl (ly1_o l1) rfl rfl r1 (?_ : wpv K_X0_takeSum d P 9 [some (4, (p0 : Int)), some (4, (p1 : Int)), some (0, x2), some (0, x3), some (0, x4)] [(4, (b1 : Int)), (0, x4)] G R V)
  refine wp_getA (k := 1) rfl rfl rfl (ly2_o l1_) rfl rfl (ly2_1 l1_).1 (?_ : wpv K_X0_takeSum d P 12 [some (4, (p0 : Int)), some (4, (p1 : Int)), some (0, x2), some (0, x3), some (0, x4)] [(4, ((b1 + 10 : Nat) : Int)), (0, x4)] G R V)
  refine wp_rng (fun vr2 => ?_)
  have f3 : i32 (V (b1 + 10) 1) := vr_f0 vr2 (ly4_o (ly2_1 l1_).2) rfl rfl
  replace w := w f3
  refine wp_getI (k := 1) rfl rfl rfl (ly4_o (ly2_1 l1_).2) rfl rfl (?_ : wpv K_X0_takeSum d P 15 [some (4, (p0 : Int)), some (4, (p1 : Int)), some (0, x2), some (0, x3), some (0, x4)] [(0, (V (b1 + 10) 1)), (0, x4)] G R V)
  obtain ⟨s4, w⟩ := w
  refine wp_icmp (c := .ge) 68 rfl rfl rfl s4 f3 (fun q => ?_) (fun q => ?_)
  · have q : ¬ x4 < (V (b1 + 10) 1) := q
    replace w := w.1 q
    show wpv K_X0_takeSum d P 68 [some (4, (p0 : Int)), some (4, (p1 : Int)), some (0, x2), some (0, x3), some (0, x4)] [] G R V
    exact wp_r0 rfl rfl rfl w
  · have q : x4 < (V (b1 + 10) 1) := Decidable.not_not.mp q
    replace w := w.2 q
    show wpv K_X0_takeSum d P 18 [some (4, (p0 : Int)), some (4, (p1 : Int)), some (0, x2), some (0, x3), some (0, x4)] [] G R V
    refine wp_ld (i := (.aload_n 0)) (4, (p0 : Int)) rfl rfl (fun _ => rfl) rfl rfl (?_ : wpv K_X0_takeSum d P 19 [some (4, (p0 : Int)), some (4, (p1 : Int)), some (0, x2), some (0, x3), some (0, x4)] [(4, (p0 : Int))] G R V)
    refine wp_getA (k := 0) rfl rfl rfl (ly0_o l0) rfl rfl (ly0_0 l0).1 (?_ : wpv K_X0_takeSum d P 22 [some (4, (p0 : Int)), some (4, (p1 : Int)), some (0, x2), some (0, x3), some (0, x4)] [(4, ((p0 + 1 : Nat) : Int))] G R V)
    refine wp_ld (i := (.iload 4)) (0, x4) rfl rfl (fun _ => rfl) rfl rfl (?_ : wpv K_X0_takeSum d P 24 [some (4, (p0 : Int)), some (4, (p1 : Int)), some (0, x2), some (0, x3), some (0, x4)] [(0, x4), (4, ((p0 + 1 : Nat) : Int))] G R V)
    refine wp_ld (i := (.aload_n 1)) (4, (p1 : Int)) rfl rfl (fun _ => rfl) rfl rfl (?_ : wpv K_X0_takeSum d P 25 [some (4, (p0 : Int)), some (4, (p1 : Int)), some (0, x2), some (0, x3), some (0, x4)] [(4, (p1 : Int)), (0, x4), (4, ((p0 + 1 : Nat) : Int))] G R V)
    refine wp_ld (i := (.iload_n 2)) (0, x2) rfl rfl (fun _ => rfl) rfl rfl (?_ : wpv K_X0_takeSum d P 26 [some (4, (p0 : Int)), some (4, (p1 : Int)), some (0, x2), some (0, x3), some (0, x4)] [(0, x2), (4, (p1 : Int)), (0, x4), (4, ((p0 + 1 : Nat) : Int))] G R V)
    refine wp_ld (i := (.iload 4)) (0, x4) rfl rfl (fun _ => rfl) rfl rfl (?_ : wpv K_X0_takeSum d P 28 [some (4, (p0 : Int)), some (4, (p1 : Int)), some (0, x2), some (0, x3), some (0, x4)] [(0, x4), (0, x2), (4, (p1 : Int)), (0, x4), (4, ((p0 + 1 : Nat) : Int))] G R V)
    refine wp_virt (as := [(0, x2), (0, x4)]) (a := p1) (st := [(0, x4), (4, ((p0 + 1 : Nat) : Int))]) _ rfl rfl rfl rfl rfl rfl (ly1_o l1) (Nat.le_of_ble_eq_true rfl) (cwv_kJ w (fun v6 V5 w => ?_))
    show wpv K_X0_takeSum d P 31 [some (4, (p0 : Int)), some (4, (p1 : Int)), some (0, x2), some (0, x3), some (0, x4)] [(2, v6), (0, x4), (4, ((p0 + 1 : Nat) : Int))] G R V5
    refine wp_ld (i := (.aload_n 1)) (4, (p1 : Int)) rfl rfl (fun _ => rfl) rfl rfl (?_ : wpv K_X0_takeSum d P 32 [some (4, (p0 : Int)), some (4, (p1 : Int)), some (0, x2), some (0, x3), some (0, x4)] [(4, (p1 : Int)), (2, v6), (0, x4), (4, ((p0 + 1 : Nat) : Int))] G R V5)
    refine wp_ld (i := (.iload_n 3)) (0, x3) rfl rfl (fun _ => rfl) rfl rfl (?_ : wpv K_X0_takeSum d P 33 [some (4, (p0 : Int)), some (4, (p1 : Int)), some (0, x2), some (0, x3), some (0, x4)] [(0, x3), (4, (p1 : Int)), (2, v6), (0, x4), (4, ((p0 + 1 : Nat) : Int))] G R V5)
    refine wp_ld (i := (.iload 4)) (0, x4) rfl rfl (fun _ => rfl) rfl rfl (?_ : wpv K_X0_takeSum d P 35 [some (4, (p0 : Int)), some (4, (p1 : Int)), some (0, x2), some (0, x3), some (0, x4)] [(0, x4), (0, x3), (4, (p1 : Int)), (2, v6), (0, x4), (4, ((p0 + 1 : Nat) : Int))] G R V5)
    refine wp_virt (as := [(0, x3), (0, x4)]) (a := p1) (st := [(2, v6), (0, x4), (4, ((p0 + 1 : Nat) : Int))]) _ rfl rfl rfl rfl rfl rfl (ly1_o l1) (Nat.le_of_ble_eq_true rfl) (cwv_kJ w (fun v8 V7 w => ?_))
    show wpv K_X0_takeSum d P 38 [some (4, (p0 : Int)), some (4, (p1 : Int)), some (0, x2), some (0, x3), some (0, x4)] [(2, v8), (2, v6), (0, x4), (4, ((p0 + 1 : Nat) : Int))] G R V7
    refine wp_jadd rfl rfl (?_ : wpv K_X0_takeSum d P 39 [some (4, (p0 : Int)), some (4, (p1 : Int)), some (0, x2), some (0, x3), some (0, x4)] [(2, (jadd v6 v8)), (0, x4), (4, ((p0 + 1 : Nat) : Int))] G R V7)
    obtain ⟨s9, w⟩ := w
    refine wp_sJ rfl rfl (ly0_0 l0).2 s9 (t64 _) (?_ : wpv K_X0_takeSum d P 40 [some (4, (p0 : Int)), some (4, (p1 : Int)), some (0, x2), some (0, x3), some (0, x4)] [] G R (wr V7 (p0 + 1) x4 ((jadd v6 v8))))
    refine wp_ld (i := (.aload_n 0)) (4, (p0 : Int)) rfl rfl (fun _ => rfl) rfl rfl (?_ : wpv K_X0_takeSum d P 41 [some (4, (p0 : Int)), some (4, (p1 : Int)), some (0, x2), some (0, x3), some (0, x4)] [(4, (p0 : Int))] G R (wr V7 (p0 + 1) x4 ((jadd v6 v8))))
    refine wp_getA (k := 1) rfl rfl rfl (ly0_o l0) rfl rfl (ly0_1 l0).1 (?_ : wpv K_X0_takeSum d P 44 [some (4, (p0 : Int)), some (4, (p1 : Int)), some (0, x2), some (0, x3), some (0, x4)] [(4, ((p0 + 2 : Nat) : Int))] G R (wr V7 (p0 + 1) x4 ((jadd v6 v8))))
    refine wp_ld (i := (.iload 4)) (0, x4) rfl rfl (fun _ => rfl) rfl rfl (?_ : wpv K_X0_takeSum d P 46 [some (4, (p0 : Int)), some (4, (p1 : Int)), some (0, x2), some (0, x3), some (0, x4)] [(0, x4), (4, ((p0 + 2 : Nat) : Int))] G R (wr V7 (p0 + 1) x4 ((jadd v6 v8))))
    refine wp_ld (i := (.aload_n 1)) (4, (p1 : Int)) rfl rfl (fun _ => rfl) rfl rfl (?_ : wpv K_X0_takeSum d P 47 [some (4, (p0 : Int)), some (4, (p1 : Int)), some (0, x2), some (0, x3), some (0, x4)] [(4, (p1 : Int)), (0, x4), (4, ((p0 + 2 : Nat) : Int))] G R (wr V7 (p0 + 1) x4 ((jadd v6 v8))))
    refine wp_ld (i := (.iload_n 2)) (0, x2) rfl rfl (fun _ => rfl) rfl rfl (?_ : wpv K_X0_takeSum d P 48 [some (4, (p0 : Int)), some (4, (p1 : Int)), some (0, x2), some (0, x3), some (0, x4)] [(0, x2), (4, (p1 : Int)), (0, x4), (4, ((p0 + 2 : Nat) : Int))] G R (wr V7 (p0 + 1) x4 ((jadd v6 v8))))
    refine wp_ld (i := (.iload 4)) (0, x4) rfl rfl (fun _ => rfl) rfl rfl (?_ : wpv K_X0_takeSum d P 50 [some (4, (p0 : Int)), some (4, (p1 : Int)), some (0, x2), some (0, x3), some (0, x4)] [(0, x4), (0, x2), (4, (p1 : Int)), (0, x4), (4, ((p0 + 2 : Nat) : Int))] G R (wr V7 (p0 + 1) x4 ((jadd v6 v8))))
    refine wp_virt (as := [(0, x2), (0, x4)]) (a := p1) (st := [(0, x4), (4, ((p0 + 2 : Nat) : Int))]) _ rfl rfl rfl rfl rfl rfl (ly1_o l1) (Nat.le_of_ble_eq_true rfl) (cwv_kJ w (fun v11 V10 w => ?_))
    show wpv K_X0_takeSum d P 53 [some (4, (p0 : Int)), some (4, (p1 : Int)), some (0, x2), some (0, x3), some (0, x4)] [(2, v11), (0, x4), (4, ((p0 + 2 : Nat) : Int))] G R V10
    refine wp_ld (i := (.aload_n 1)) (4, (p1 : Int)) rfl rfl (fun _ => rfl) rfl rfl (?_ : wpv K_X0_takeSum d P 54 [some (4, (p0 : Int)), some (4, (p1 : Int)), some (0, x2), some (0, x3), some (0, x4)] [(4, (p1 : Int)), (2, v11), (0, x4), (4, ((p0 + 2 : Nat) : Int))] G R V10)
    refine wp_ld (i := (.iload_n 3)) (0, x3) rfl rfl (fun _ => rfl) rfl rfl (?_ : wpv K_X0_takeSum d P 55 [some (4, (p0 : Int)), some (4, (p1 : Int)), some (0, x2), some (0, x3), some (0, x4)] [(0, x3), (4, (p1 : Int)), (2, v11), (0, x4), (4, ((p0 + 2 : Nat) : Int))] G R V10)
    refine wp_ld (i := (.iload 4)) (0, x4) rfl rfl (fun _ => rfl) rfl rfl (?_ : wpv K_X0_takeSum d P 57 [some (4, (p0 : Int)), some (4, (p1 : Int)), some (0, x2), some (0, x3), some (0, x4)] [(0, x4), (0, x3), (4, (p1 : Int)), (2, v11), (0, x4), (4, ((p0 + 2 : Nat) : Int))] G R V10)
    refine wp_virt (as := [(0, x3), (0, x4)]) (a := p1) (st := [(2, v11), (0, x4), (4, ((p0 + 2 : Nat) : Int))]) _ rfl rfl rfl rfl rfl rfl (ly1_o l1) (Nat.le_of_ble_eq_true rfl) (cwv_kJ w (fun v13 V12 w => ?_))
    show wpv K_X0_takeSum d P 60 [some (4, (p0 : Int)), some (4, (p1 : Int)), some (0, x2), some (0, x3), some (0, x4)] [(2, v13), (2, v11), (0, x4), (4, ((p0 + 2 : Nat) : Int))] G R V12
    refine wp_jadd rfl rfl (?_ : wpv K_X0_takeSum d P 61 [some (4, (p0 : Int)), some (4, (p1 : Int)), some (0, x2), some (0, x3), some (0, x4)] [(2, (jadd v11 v13)), (0, x4), (4, ((p0 + 2 : Nat) : Int))] G R V12)
    refine wp_sJ rfl rfl (ly0_1 l0).2 s9 (t64 _) (?_ : wpv K_X0_takeSum d P 62 [some (4, (p0 : Int)), some (4, (p1 : Int)), some (0, x2), some (0, x3), some (0, x4)] [] G R (wr V12 (p0 + 2) x4 ((jadd v11 v13))))
    obtain ⟨s14, w⟩ := w
    refine wp_inc (x := 4) (k := 1) (a := x4) (c := (x4 + 1)) _ rfl rfl rfl rfl s14 (by omega) rfl ?_
    show wpv K_X0_takeSum d P 65 [some (4, (p0 : Int)), some (4, (p1 : Int)), some (0, x2), some (0, x3), some (0, (x4 + 1))] [] G R (wr V12 (p0 + 2) x4 ((jadd v11 v13)))
    refine wp_go 3 rfl rfl rfl (?_ : wpv K_X0_takeSum d P 3 [some (4, (p0 : Int)), some (4, (p1 : Int)), some (0, x2), some (0, x3), some (0, (x4 + 1))] [] G R (wr V12 (p0 + 2) x4 ((jadd v11 v13))))
    exact wp_wk (wk_s (wk_s (wk_s (wk_s (wk_s wk_0))))) w
theorem t_X0_takePairs_0 {d : Nat} {P : gP} {p0 : Nat} {p1 : Nat} {x2 : Int} {x3 : Int} {G : List gS} {R V : gV} (l0 : lay0 G R p0) (l1 : lay1 G R p1) (w : wpv K_X0_takePairs d P 3 [some (4, (p0 : Int)), some (4, (p1 : Int)), some (0, x2), some (0, x3), some (0, 0)] [] G R V) : wpv K_X0_takePairs d P 0 [some (4, (p0 : Int)), some (4, (p1 : Int)), some (0, x2), some (0, x3)] [] G R V := by
  refine wp_p (i := (.iconst 0)) rfl rfl (fun _ _ _ => rfl) (?_ : wpv K_X0_takePairs d P 1 [some (4, (p0 : Int)), some (4, (p1 : Int)), some (0, x2), some (0, x3)] [(0, 0)] G R V)
  refine wp_sto (i := (.istore 4)) _ rfl rfl (fun _ => rfl) rfl rfl rfl ?_
  refine wp_wk (L' := [some (4, (p0 : Int)), some (4, (p1 : Int)), some (0, x2), some (0, x3), some (0, 0)]) (wk_s (wk_s (wk_s (wk_s (wk_s wk_0))))) ?_
  show wpv K_X0_takePairs d P 3 [some (4, (p0 : Int)), some (4, (p1 : Int)), some (0, x2), some (0, x3), some (0, 0)] [] G R V
  exact wp_wk (wk_s (wk_s (wk_s (wk_s (wk_s wk_0))))) w

theorem t_X0_takePairs_3 {d : Nat} {P : gP} {p0 : Nat} {p1 : Nat} {x2 : Int} {x3 : Int} {x4 : Int} {G : List gS} {R V : gV} (l0 : lay0 G R p0) (l1 : lay1 G R p1) (w : (∃ b1 : Nat, (R p1 0 = (b1 : Int) ∧ lay2 G R b1) ∧ ((i32 (V (b1 + 10) 1)) → ((i32 x4) ∧ (((¬ x4 < (V (b1 + 10) 1)) → cwv d (fun r V5 => ∃ v6 : Int, r = some (0, v6) ∧ P none V5) 15 [(4, (p0 : Int)), (4, ((b1 + 10 : Nat) : Int))] G R V) ∧ ((x4 < (V (b1 + 10) 1)) → cwv d (fun r V7 => ∃ v8 : Int, r = some (2, v8) ∧ cwv d (fun r V9 => ∃ v10 : Int, r = some (2, v10) ∧ ((0 ≤ x4 ∧ x4 < 300) ∧ ((i32 (x4 + 1)) ∧ wpv K_X0_takePairs d P 3 [some (4, (p0 : Int)), some (4, (p1 : Int)), some (0, x2), some (0, x3), some (0, (x4 + 1))] [] G R (wr V9 (p0 + 1) x4 ((jmul v8 v10)))))) 21 [(4, (p1 : Int)), (0, x3), (0, x4)] G R V7) 21 [(4, (p1 : Int)), (0, x2), (0, x4)] G R V)))))) : wpv K_X0_takePairs d P 3 [some (4, (p0 : Int)), some (4, (p1 : Int)), some (0, x2), some (0, x3), some (0, x4)] [] G R V := by
  refine wp_ld (i := (.iload 4)) (0, x4) rfl rfl (fun _ => rfl) rfl rfl (?_ : wpv K_X0_takePairs d P 5 [some (4, (p0 : Int)), some (4, (p1 : Int)), some (0, x2), some (0, x3), some (0, x4)] [(0, x4)] G R V)
  refine wp_ld (i := (.aload_n 1)) (4, (p1 : Int)) rfl rfl (fun _ => rfl) rfl rfl (?_ : wpv K_X0_takePairs d P 6 [some (4, (p0 : Int)), some (4, (p1 : Int)), some (0, x2), some (0, x3), some (0, x4)] [(4, (p1 : Int)), (0, x4)] G R V)
  obtain ⟨b1, ⟨r1, l1_⟩, w⟩ := w
  refine wp_getA (k := 0) rfl rfl rfl (ly1_o l1) rfl rfl r1 (?_ : wpv K_X0_takePairs d P 9 [some (4, (p0 : Int)), some (4, (p1 : Int)), some (0, x2), some (0, x3), some (0, x4)] [(4, (b1 : Int)), (0, x4)] G R V)
  refine wp_getA (k := 1) rfl rfl rfl (ly2_o l1_) rfl rfl (ly2_1 l1_).1 (?_ : wpv K_X0_takePairs d P 12 [some (4, (p0 : Int)), some (4, (p1 : Int)), some (0, x2), some (0, x3), some (0, x4)] [(4, ((b1 + 10 : Nat) : Int)), (0, x4)] G R V)
  refine wp_rng (fun vr2 => ?_)
  have f3 : i32 (V (b1 + 10) 1) := vr_f0 vr2 (ly4_o (ly2_1 l1_).2) rfl rfl
  replace w := w f3
  refine wp_getI (k := 1) rfl rfl rfl (ly4_o (ly2_1 l1_).2) rfl rfl (?_ : wpv K_X0_takePairs d P 15 [some (4, (p0 : Int)), some (4, (p1 : Int)), some (0, x2), some (0, x3), some (0, x4)] [(0, (V (b1 + 10) 1)), (0, x4)] G R V)
  obtain ⟨s4, w⟩ := w
  refine wp_icmp (c := .ge) 46 rfl rfl rfl s4 f3 (fun q => ?_) (fun q => ?_)
  · have q : ¬ x4 < (V (b1 + 10) 1) := q
    replace w := w.1 q
    show wpv K_X0_takePairs d P 46 [some (4, (p0 : Int)), some (4, (p1 : Int)), some (0, x2), some (0, x3), some (0, x4)] [] G R V
    refine wp_ld (i := (.aload_n 0)) (4, (p0 : Int)) rfl rfl (fun _ => rfl) rfl rfl (?_ : wpv K_X0_takePairs d P 47 [some (4, (p0 : Int)), some (4, (p1 : Int)), some (0, x2), some (0, x3), some (0, x4)] [(4, (p0 : Int))] G R V)
    refine wp_ld (i := (.aload_n 1)) (4, (p1 : Int)) rfl rfl (fun _ => rfl) rfl rfl (?_ : wpv K_X0_takePairs d P 48 [some (4, (p0 : Int)), some (4, (p1 : Int)), some (0, x2), some (0, x3), some (0, x4)] [(4, (p1 : Int)), (4, (p0 : Int))] G R V)
    refine wp_getA (k := 0) rfl rfl rfl (ly1_o l1) rfl rfl r1 (?_ : wpv K_X0_takePairs d P 51 [some (4, (p0 : Int)), some (4, (p1 : Int)), some (0, x2), some (0, x3), some (0, x4)] [(4, (b1 : Int)), (4, (p0 : Int))] G R V)
    refine wp_getA (k := 1) rfl rfl rfl (ly2_o l1_) rfl rfl (ly2_1 l1_).1 (?_ : wpv K_X0_takePairs d P 54 [some (4, (p0 : Int)), some (4, (p1 : Int)), some (0, x2), some (0, x3), some (0, x4)] [(4, ((b1 + 10 : Nat) : Int)), (4, (p0 : Int))] G R V)
    refine wp_virt (as := [(4, ((b1 + 10 : Nat) : Int))]) (a := p0) (st := []) _ rfl rfl rfl rfl rfl rfl (ly0_o l0) (Nat.le_of_ble_eq_true rfl) (cwv_kI w (fun v6 V5 w => ?_))
    show wpv K_X0_takePairs d P 57 [some (4, (p0 : Int)), some (4, (p1 : Int)), some (0, x2), some (0, x3), some (0, x4)] [(0, v6)] G R V5
    refine wp_p (i := .pop) rfl rfl (fun _ _ _ => rfl) (?_ : wpv K_X0_takePairs d P 58 [some (4, (p0 : Int)), some (4, (p1 : Int)), some (0, x2), some (0, x3), some (0, x4)] [] G R V5)
    exact wp_r0 rfl rfl rfl w
  · have q : x4 < (V (b1 + 10) 1) := Decidable.not_not.mp q
    replace w := w.2 q
    show wpv K_X0_takePairs d P 18 [some (4, (p0 : Int)), some (4, (p1 : Int)), some (0, x2), some (0, x3), some (0, x4)] [] G R V
    refine wp_ld (i := (.aload_n 0)) (4, (p0 : Int)) rfl rfl (fun _ => rfl) rfl rfl (?_ : wpv K_X0_takePairs d P 19 [some (4, (p0 : Int)), some (4, (p1 : Int)), some (0, x2), some (0, x3), some (0, x4)] [(4, (p0 : Int))] G R V)
    refine wp_getA (k := 0) rfl rfl rfl (ly0_o l0) rfl rfl (ly0_0 l0).1 (?_ : wpv K_X0_takePairs d P 22 [some (4, (p0 : Int)), some (4, (p1 : Int)), some (0, x2), some (0, x3), some (0, x4)] [(4, ((p0 + 1 : Nat) : Int))] G R V)
    refine wp_ld (i := (.iload 4)) (0, x4) rfl rfl (fun _ => rfl) rfl rfl (?_ : wpv K_X0_takePairs d P 24 [some (4, (p0 : Int)), some (4, (p1 : Int)), some (0, x2), some (0, x3), some (0, x4)] [(0, x4), (4, ((p0 + 1 : Nat) : Int))] G R V)
    refine wp_ld (i := (.aload_n 1)) (4, (p1 : Int)) rfl rfl (fun _ => rfl) rfl rfl (?_ : wpv K_X0_takePairs d P 25 [some (4, (p0 : Int)), some (4, (p1 : Int)), some (0, x2), some (0, x3), some (0, x4)] [(4, (p1 : Int)), (0, x4), (4, ((p0 + 1 : Nat) : Int))] G R V)
    refine wp_ld (i := (.iload_n 2)) (0, x2) rfl rfl (fun _ => rfl) rfl rfl (?_ : wpv K_X0_takePairs d P 26 [some (4, (p0 : Int)), some (4, (p1 : Int)), some (0, x2), some (0, x3), some (0, x4)] [(0, x2), (4, (p1 : Int)), (0, x4), (4, ((p0 + 1 : Nat) : Int))] G R V)
    refine wp_ld (i := (.iload 4)) (0, x4) rfl rfl (fun _ => rfl) rfl rfl (?_ : wpv K_X0_takePairs d P 28 [some (4, (p0 : Int)), some (4, (p1 : Int)), some (0, x2), some (0, x3), some (0, x4)] [(0, x4), (0, x2), (4, (p1 : Int)), (0, x4), (4, ((p0 + 1 : Nat) : Int))] G R V)
    refine wp_virt (as := [(0, x2), (0, x4)]) (a := p1) (st := [(0, x4), (4, ((p0 + 1 : Nat) : Int))]) _ rfl rfl rfl rfl rfl rfl (ly1_o l1) (Nat.le_of_ble_eq_true rfl) (cwv_kJ w (fun v8 V7 w => ?_))
    show wpv K_X0_takePairs d P 31 [some (4, (p0 : Int)), some (4, (p1 : Int)), some (0, x2), some (0, x3), some (0, x4)] [(2, v8), (0, x4), (4, ((p0 + 1 : Nat) : Int))] G R V7
    refine wp_ld (i := (.aload_n 1)) (4, (p1 : Int)) rfl rfl (fun _ => rfl) rfl rfl (?_ : wpv K_X0_takePairs d P 32 [some (4, (p0 : Int)), some (4, (p1 : Int)), some (0, x2), some (0, x3), some (0, x4)] [(4, (p1 : Int)), (2, v8), (0, x4), (4, ((p0 + 1 : Nat) : Int))] G R V7)
    refine wp_ld (i := (.iload_n 3)) (0, x3) rfl rfl (fun _ => rfl) rfl rfl (?_ : wpv K_X0_takePairs d P 33 [some (4, (p0 : Int)), some (4, (p1 : Int)), some (0, x2), some (0, x3), some (0, x4)] [(0, x3), (4, (p1 : Int)), (2, v8), (0, x4), (4, ((p0 + 1 : Nat) : Int))] G R V7)
    refine wp_ld (i := (.iload 4)) (0, x4) rfl rfl (fun _ => rfl) rfl rfl (?_ : wpv K_X0_takePairs d P 35 [some (4, (p0 : Int)), some (4, (p1 : Int)), some (0, x2), some (0, x3), some (0, x4)] [(0, x4), (0, x3), (4, (p1 : Int)), (2, v8), (0, x4), (4, ((p0 + 1 : Nat) : Int))] G R V7)
    refine wp_virt (as := [(0, x3), (0, x4)]) (a := p1) (st := [(2, v8), (0, x4), (4, ((p0 + 1 : Nat) : Int))]) _ rfl rfl rfl rfl rfl rfl (ly1_o l1) (Nat.le_of_ble_eq_true rfl) (cwv_kJ w (fun v10 V9 w => ?_))
    show wpv K_X0_takePairs d P 38 [some (4, (p0 : Int)), some (4, (p1 : Int)), some (0, x2), some (0, x3), some (0, x4)] [(2, v10), (2, v8), (0, x4), (4, ((p0 + 1 : Nat) : Int))] G R V9
    refine wp_jmul rfl rfl (?_ : wpv K_X0_takePairs d P 39 [some (4, (p0 : Int)), some (4, (p1 : Int)), some (0, x2), some (0, x3), some (0, x4)] [(2, (jmul v8 v10)), (0, x4), (4, ((p0 + 1 : Nat) : Int))] G R V9)
    obtain ⟨s11, w⟩ := w
    refine wp_sJ rfl rfl (ly0_0 l0).2 s11 (t64 _) (?_ : wpv K_X0_takePairs d P 40 [some (4, (p0 : Int)), some (4, (p1 : Int)), some (0, x2), some (0, x3), some (0, x4)] [] G R (wr V9 (p0 + 1) x4 ((jmul v8 v10))))
    obtain ⟨s12, w⟩ := w
    refine wp_inc (x := 4) (k := 1) (a := x4) (c := (x4 + 1)) _ rfl rfl rfl rfl s12 (by omega) rfl ?_
    show wpv K_X0_takePairs d P 43 [some (4, (p0 : Int)), some (4, (p1 : Int)), some (0, x2), some (0, x3), some (0, (x4 + 1))] [] G R (wr V9 (p0 + 1) x4 ((jmul v8 v10)))
    refine wp_go 3 rfl rfl rfl (?_ : wpv K_X0_takePairs d P 3 [some (4, (p0 : Int)), some (4, (p1 : Int)), some (0, x2), some (0, x3), some (0, (x4 + 1))] [] G R (wr V9 (p0 + 1) x4 ((jmul v8 v10))))
    exact wp_wk (wk_s (wk_s (wk_s (wk_s (wk_s wk_0))))) w
theorem t_X0_takeColourings_0 {d : Nat} {P : gP} {p0 : Nat} {p1 : Nat} {x2 : Int} {x3 : Int} {G : List gS} {R V : gV} (l0 : lay0 G R p0) (l1 : lay1 G R p1) (w : (∃ b1 : Nat, (R p1 0 = (b1 : Int) ∧ lay2 G R b1) ∧ wpv K_X0_takeColourings d P 12 [some (4, (p0 : Int)), some (4, (p1 : Int)), some (0, x2), some (0, x3), some (4, ((b1 + 10 : Nat) : Int)), some (0, 0)] [] G R V)) : wpv K_X0_takeColourings d P 0 [some (4, (p0 : Int)), some (4, (p1 : Int)), some (0, x2), some (0, x3)] [] G R V := by
  refine wp_ld (i := (.aload_n 1)) (4, (p1 : Int)) rfl rfl (fun _ => rfl) rfl rfl (?_ : wpv K_X0_takeColourings d P 1 [some (4, (p0 : Int)), some (4, (p1 : Int)), some (0, x2), some (0, x3)] [(4, (p1 : Int))] G R V)
  obtain ⟨b1, ⟨r1, l1_⟩, w⟩ := w
  refine wp_getA (k := 0) rfl rfl rfl (ly1_o l1) rfl rfl r1 (?_ : wpv K_X0_takeColourings d P 4 [some (4, (p0 : Int)), some (4, (p1 : Int)), some (0, x2), some (0, x3)] [(4, (b1 : Int))] G R V)
  refine wp_getA (k := 1) rfl rfl rfl (ly2_o l1_) rfl rfl (ly2_1 l1_).1 (?_ : wpv K_X0_takeColourings d P 7 [some (4, (p0 : Int)), some (4, (p1 : Int)), some (0, x2), some (0, x3)] [(4, ((b1 + 10 : Nat) : Int))] G R V)
  refine wp_sto (i := (.astore 4)) _ rfl rfl (fun _ => rfl) rfl rfl rfl ?_
  refine wp_wk (L' := [some (4, (p0 : Int)), some (4, (p1 : Int)), some (0, x2), some (0, x3), some (4, ((b1 + 10 : Nat) : Int))]) (wk_s (wk_s (wk_s (wk_s (wk_s wk_0))))) ?_
  show wpv K_X0_takeColourings d P 9 [some (4, (p0 : Int)), some (4, (p1 : Int)), some (0, x2), some (0, x3), some (4, ((b1 + 10 : Nat) : Int))] [] G R V
  refine wp_p (i := (.iconst 0)) rfl rfl (fun _ _ _ => rfl) (?_ : wpv K_X0_takeColourings d P 10 [some (4, (p0 : Int)), some (4, (p1 : Int)), some (0, x2), some (0, x3), some (4, ((b1 + 10 : Nat) : Int))] [(0, 0)] G R V)
  refine wp_sto (i := (.istore 5)) _ rfl rfl (fun _ => rfl) rfl rfl rfl ?_
  refine wp_wk (L' := [some (4, (p0 : Int)), some (4, (p1 : Int)), some (0, x2), some (0, x3), some (4, ((b1 + 10 : Nat) : Int)), some (0, 0)]) (wk_s (wk_s (wk_s (wk_s (wk_s (wk_s wk_0)))))) ?_
  show wpv K_X0_takeColourings d P 12 [some (4, (p0 : Int)), some (4, (p1 : Int)), some (0, x2), some (0, x3), some (4, ((b1 + 10 : Nat) : Int)), some (0, 0)] [] G R V
  exact wp_wk (wk_s (wk_s (wk_s (wk_s (wk_s (wk_s wk_0)))))) w

theorem t_X0_takeColourings_12 {d : Nat} {P : gP} {p0 : Nat} {p1 : Nat} {x2 : Int} {x3 : Int} {p4 : Nat} {x5 : Int} {G : List gS} {R V : gV} (l0 : lay0 G R p0) (l1 : lay1 G R p1) (l4 : lay4 G R p4) (w : ((i32 (V p4 1)) → ((i32 x5) ∧ (((¬ x5 < (V p4 1)) → cwv d (fun r V4 => ∃ v5 : Int, r = some (0, v5) ∧ P none V4) 15 [(4, (p0 : Int)), (4, (p4 : Int))] G R V) ∧ ((x5 < (V p4 1)) → ((i32 x3) ∧ ((0 ≤ x5 ∧ x5 < 300) ∧ ((i32 (V (p4 + 7) x5)) → cwv d (fun r V9 => ∃ v10 : Int, r = some (2, v10) ∧ cwv d (fun r V11 => ∃ v12 : Int, r = some (2, v12) ∧ ((i64 v12) ∧ ((i32 (x5 + 1)) ∧ wpv K_X0_takeColourings d P 12 [some (4, (p0 : Int)), some (4, (p1 : Int)), some (0, x2), some (0, x3), some (4, (p4 : Int)), some (0, (x5 + 1))] [] G R (wr V11 (p0 + 1) x5 v12)))) 153 [(2, x3), (2, v10)] G R V9) 27 [(4, (p1 : Int)), (0, x2), (0, (V (p4 + 7) x5))] G R V)))))))) : wpv K_X0_takeColourings d P 12 [some (4, (p0 : Int)), some (4, (p1 : Int)), some (0, x2), some (0, x3), some (4, (p4 : Int)), some (0, x5)] [] G R V := by
  refine wp_ld (i := (.iload 5)) (0, x5) rfl rfl (fun _ => rfl) rfl rfl (?_ : wpv K_X0_takeColourings d P 14 [some (4, (p0 : Int)), some (4, (p1 : Int)), some (0, x2), some (0, x3), some (4, (p4 : Int)), some (0, x5)] [(0, x5)] G R V)
  refine wp_ld (i := (.aload 4)) (4, (p4 : Int)) rfl rfl (fun _ => rfl) rfl rfl (?_ : wpv K_X0_takeColourings d P 16 [some (4, (p0 : Int)), some (4, (p1 : Int)), some (0, x2), some (0, x3), some (4, (p4 : Int)), some (0, x5)] [(4, (p4 : Int)), (0, x5)] G R V)
  refine wp_rng (fun vr1 => ?_)
  have f2 : i32 (V p4 1) := vr_f0 vr1 (ly4_o l4) rfl rfl
  replace w := w f2
  refine wp_getI (k := 1) rfl rfl rfl (ly4_o l4) rfl rfl (?_ : wpv K_X0_takeColourings d P 19 [some (4, (p0 : Int)), some (4, (p1 : Int)), some (0, x2), some (0, x3), some (4, (p4 : Int)), some (0, x5)] [(0, (V p4 1)), (0, x5)] G R V)
  obtain ⟨s3, w⟩ := w
  refine wp_icmp (c := .ge) 53 rfl rfl rfl s3 f2 (fun q => ?_) (fun q => ?_)
  · have q : ¬ x5 < (V p4 1) := q
    replace w := w.1 q
    show wpv K_X0_takeColourings d P 53 [some (4, (p0 : Int)), some (4, (p1 : Int)), some (0, x2), some (0, x3), some (4, (p4 : Int)), some (0, x5)] [] G R V
    refine wp_ld (i := (.aload_n 0)) (4, (p0 : Int)) rfl rfl (fun _ => rfl) rfl rfl (?_ : wpv K_X0_takeColourings d P 54 [some (4, (p0 : Int)), some (4, (p1 : Int)), some (0, x2), some (0, x3), some (4, (p4 : Int)), some (0, x5)] [(4, (p0 : Int))] G R V)
    refine wp_ld (i := (.aload 4)) (4, (p4 : Int)) rfl rfl (fun _ => rfl) rfl rfl (?_ : wpv K_X0_takeColourings d P 56 [some (4, (p0 : Int)), some (4, (p1 : Int)), some (0, x2), some (0, x3), some (4, (p4 : Int)), some (0, x5)] [(4, (p4 : Int)), (4, (p0 : Int))] G R V)
    refine wp_virt (as := [(4, (p4 : Int))]) (a := p0) (st := []) _ rfl rfl rfl rfl rfl rfl (ly0_o l0) (Nat.le_of_ble_eq_true rfl) (cwv_kI w (fun v5 V4 w => ?_))
    show wpv K_X0_takeColourings d P 59 [some (4, (p0 : Int)), some (4, (p1 : Int)), some (0, x2), some (0, x3), some (4, (p4 : Int)), some (0, x5)] [(0, v5)] G R V4
    refine wp_p (i := .pop) rfl rfl (fun _ _ _ => rfl) (?_ : wpv K_X0_takeColourings d P 60 [some (4, (p0 : Int)), some (4, (p1 : Int)), some (0, x2), some (0, x3), some (4, (p4 : Int)), some (0, x5)] [] G R V4)
    exact wp_r0 rfl rfl rfl w
  · have q : x5 < (V p4 1) := Decidable.not_not.mp q
    replace w := w.2 q
    show wpv K_X0_takeColourings d P 22 [some (4, (p0 : Int)), some (4, (p1 : Int)), some (0, x2), some (0, x3), some (4, (p4 : Int)), some (0, x5)] [] G R V
    refine wp_ld (i := (.aload_n 0)) (4, (p0 : Int)) rfl rfl (fun _ => rfl) rfl rfl (?_ : wpv K_X0_takeColourings d P 23 [some (4, (p0 : Int)), some (4, (p1 : Int)), some (0, x2), some (0, x3), some (4, (p4 : Int)), some (0, x5)] [(4, (p0 : Int))] G R V)
    refine wp_getA (k := 0) rfl rfl rfl (ly0_o l0) rfl rfl (ly0_0 l0).1 (?_ : wpv K_X0_takeColourings d P 26 [some (4, (p0 : Int)), some (4, (p1 : Int)), some (0, x2), some (0, x3), some (4, (p4 : Int)), some (0, x5)] [(4, ((p0 + 1 : Nat) : Int))] G R V)
    refine wp_ld (i := (.iload 5)) (0, x5) rfl rfl (fun _ => rfl) rfl rfl (?_ : wpv K_X0_takeColourings d P 28 [some (4, (p0 : Int)), some (4, (p1 : Int)), some (0, x2), some (0, x3), some (4, (p4 : Int)), some (0, x5)] [(0, x5), (4, ((p0 + 1 : Nat) : Int))] G R V)
    refine wp_ld (i := (.iload_n 3)) (0, x3) rfl rfl (fun _ => rfl) rfl rfl (?_ : wpv K_X0_takeColourings d P 29 [some (4, (p0 : Int)), some (4, (p1 : Int)), some (0, x2), some (0, x3), some (4, (p4 : Int)), some (0, x5)] [(0, x3), (0, x5), (4, ((p0 + 1 : Nat) : Int))] G R V)
    obtain ⟨s6, w⟩ := w
    refine wp_i2l rfl rfl s6 (?_ : wpv K_X0_takeColourings d P 30 [some (4, (p0 : Int)), some (4, (p1 : Int)), some (0, x2), some (0, x3), some (4, (p4 : Int)), some (0, x5)] [(2, x3), (0, x5), (4, ((p0 + 1 : Nat) : Int))] G R V)
    refine wp_ld (i := (.aload_n 1)) (4, (p1 : Int)) rfl rfl (fun _ => rfl) rfl rfl (?_ : wpv K_X0_takeColourings d P 31 [some (4, (p0 : Int)), some (4, (p1 : Int)), some (0, x2), some (0, x3), some (4, (p4 : Int)), some (0, x5)] [(4, (p1 : Int)), (2, x3), (0, x5), (4, ((p0 + 1 : Nat) : Int))] G R V)
    refine wp_ld (i := (.iload_n 2)) (0, x2) rfl rfl (fun _ => rfl) rfl rfl (?_ : wpv K_X0_takeColourings d P 32 [some (4, (p0 : Int)), some (4, (p1 : Int)), some (0, x2), some (0, x3), some (4, (p4 : Int)), some (0, x5)] [(0, x2), (4, (p1 : Int)), (2, x3), (0, x5), (4, ((p0 + 1 : Nat) : Int))] G R V)
    refine wp_ld (i := (.aload 4)) (4, (p4 : Int)) rfl rfl (fun _ => rfl) rfl rfl (?_ : wpv K_X0_takeColourings d P 34 [some (4, (p0 : Int)), some (4, (p1 : Int)), some (0, x2), some (0, x3), some (4, (p4 : Int)), some (0, x5)] [(4, (p4 : Int)), (0, x2), (4, (p1 : Int)), (2, x3), (0, x5), (4, ((p0 + 1 : Nat) : Int))] G R V)
    refine wp_getA (k := 8) rfl rfl rfl (ly4_o l4) rfl rfl (ly4_8 l4).1 (?_ : wpv K_X0_takeColourings d P 37 [some (4, (p0 : Int)), some (4, (p1 : Int)), some (0, x2), some (0, x3), some (4, (p4 : Int)), some (0, x5)] [(4, ((p4 + 7 : Nat) : Int)), (0, x2), (4, (p1 : Int)), (2, x3), (0, x5), (4, ((p0 + 1 : Nat) : Int))] G R V)
    refine wp_ld (i := (.iload 5)) (0, x5) rfl rfl (fun _ => rfl) rfl rfl (?_ : wpv K_X0_takeColourings d P 39 [some (4, (p0 : Int)), some (4, (p1 : Int)), some (0, x2), some (0, x3), some (4, (p4 : Int)), some (0, x5)] [(0, x5), (4, ((p4 + 7 : Nat) : Int)), (0, x2), (4, (p1 : Int)), (2, x3), (0, x5), (4, ((p0 + 1 : Nat) : Int))] G R V)
    obtain ⟨s7, w⟩ := w
    have f8 : i32 (V (p4 + 7) x5) := vr_a0 vr1 (ly4_8 l4).2 s7
    replace w := w f8
    refine wp_aI rfl rfl (ly4_8 l4).2 s7 (?_ : wpv K_X0_takeColourings d P 40 [some (4, (p0 : Int)), some (4, (p1 : Int)), some (0, x2), some (0, x3), some (4, (p4 : Int)), some (0, x5)] [(0, (V (p4 + 7) x5)), (0, x2), (4, (p1 : Int)), (2, x3), (0, x5), (4, ((p0 + 1 : Nat) : Int))] G R V)
    refine wp_virt (as := [(0, x2), (0, (V (p4 + 7) x5))]) (a := p1) (st := [(2, x3), (0, x5), (4, ((p0 + 1 : Nat) : Int))]) _ rfl rfl rfl rfl rfl rfl (ly1_o l1) (Nat.le_of_ble_eq_true rfl) (cwv_kJ w (fun v10 V9 w => ?_))
    show wpv K_X0_takeColourings d P 43 [some (4, (p0 : Int)), some (4, (p1 : Int)), some (0, x2), some (0, x3), some (4, (p4 : Int)), some (0, x5)] [(2, v10), (2, x3), (0, x5), (4, ((p0 + 1 : Nat) : Int))] G R V9
    refine wp_stat (as := [(2, x3), (2, v10)]) (st := [(0, x5), (4, ((p0 + 1 : Nat) : Int))]) _ rfl rfl rfl (by omega) rfl rfl (Nat.le_of_ble_eq_true rfl) (cwv_kJ w (fun v12 V11 w => ?_))
    show wpv K_X0_takeColourings d P 46 [some (4, (p0 : Int)), some (4, (p1 : Int)), some (0, x2), some (0, x3), some (4, (p4 : Int)), some (0, x5)] [(2, v12), (0, x5), (4, ((p0 + 1 : Nat) : Int))] G R V11
    obtain ⟨s13, w⟩ := w
    refine wp_sJ rfl rfl (ly0_0 l0).2 s7 s13 (?_ : wpv K_X0_takeColourings d P 47 [some (4, (p0 : Int)), some (4, (p1 : Int)), some (0, x2), some (0, x3), some (4, (p4 : Int)), some (0, x5)] [] G R (wr V11 (p0 + 1) x5 v12))
    obtain ⟨s14, w⟩ := w
    refine wp_inc (x := 5) (k := 1) (a := x5) (c := (x5 + 1)) _ rfl rfl rfl rfl s14 (by omega) rfl ?_
    show wpv K_X0_takeColourings d P 50 [some (4, (p0 : Int)), some (4, (p1 : Int)), some (0, x2), some (0, x3), some (4, (p4 : Int)), some (0, (x5 + 1))] [] G R (wr V11 (p0 + 1) x5 v12)
    refine wp_go 12 rfl rfl rfl (?_ : wpv K_X0_takeColourings d P 12 [some (4, (p0 : Int)), some (4, (p1 : Int)), some (0, x2), some (0, x3), some (4, (p4 : Int)), some (0, (x5 + 1))] [] G R (wr V11 (p0 + 1) x5 v12))
    exact wp_wk (wk_s (wk_s (wk_s (wk_s (wk_s (wk_s wk_0)))))) w
theorem t_X0_takeMultiple_0 {d : Nat} {P : gP} {p0 : Nat} {p1 : Nat} {x2 : Int} {x3 : Int} {G : List gS} {R V : gV} (l0 : lay0 G R p0) (l1 : lay1 G R p1) (w : wpv K_X0_takeMultiple d P 3 [some (4, (p0 : Int)), some (4, (p1 : Int)), some (0, x2), some (0, x3), some (0, 0)] [] G R V) : wpv K_X0_takeMultiple d P 0 [some (4, (p0 : Int)), some (4, (p1 : Int)), some (0, x2), some (0, x3)] [] G R V := by
  refine wp_p (i := (.iconst 0)) rfl rfl (fun _ _ _ => rfl) (?_ : wpv K_X0_takeMultiple d P 1 [some (4, (p0 : Int)), some (4, (p1 : Int)), some (0, x2), some (0, x3)] [(0, 0)] G R V)
  refine wp_sto (i := (.istore 4)) _ rfl rfl (fun _ => rfl) rfl rfl rfl ?_
  refine wp_wk (L' := [some (4, (p0 : Int)), some (4, (p1 : Int)), some (0, x2), some (0, x3), some (0, 0)]) (wk_s (wk_s (wk_s (wk_s (wk_s wk_0))))) ?_
  show wpv K_X0_takeMultiple d P 3 [some (4, (p0 : Int)), some (4, (p1 : Int)), some (0, x2), some (0, x3), some (0, 0)] [] G R V
  exact wp_wk (wk_s (wk_s (wk_s (wk_s (wk_s wk_0))))) w

theorem t_X0_takeMultiple_3 {d : Nat} {P : gP} {p0 : Nat} {p1 : Nat} {x2 : Int} {x3 : Int} {x4 : Int} {G : List gS} {R V : gV} (l0 : lay0 G R p0) (l1 : lay1 G R p1) (w : (∃ b1 : Nat, (R p1 0 = (b1 : Int) ∧ lay2 G R b1) ∧ ((i32 (V (b1 + 10) 1)) → ((i32 x4) ∧ (((¬ x4 < (V (b1 + 10) 1)) → P none V) ∧ ((x4 < (V (b1 + 10) 1)) → cwv d (fun r V5 => ∃ v6 : Int, r = some (2, v6) ∧ ((i32 x3) ∧ ((0 ≤ x4 ∧ x4 < 300) ∧ cwv d (fun r V9 => ∃ v10 : Int, r = some (2, v10) ∧ ((i32 (x4 + 1)) ∧ wpv K_X0_takeMultiple d P 3 [some (4, (p0 : Int)), some (4, (p1 : Int)), some (0, x2), some (0, x3), some (0, (x4 + 1))] [] G R (wr V9 (p0 + 2) x4 ((jmul v10 x3))))) 22 [(4, (p1 : Int)), (0, x2), (0, x4)] G R (wr V5 (p0 + 1) x4 ((jmul v6 x3)))))) 21 [(4, (p1 : Int)), (0, x2), (0, x4)] G R V)))))) : wpv K_X0_takeMultiple d P 3 [some (4, (p0 : Int)), some (4, (p1 : Int)), some (0, x2), some (0, x3), some (0, x4)] [] G R V := by
  refine wp_ld (i := (.iload 4)) (0, x4) rfl rfl (fun _ => rfl) rfl rfl (?_ : wpv K_X0_takeMultiple d P 5 [some (4, (p0 : Int)), some (4, (p1 : Int)), some (0, x2), some (0, x3), some (0, x4)] [(0, x4)] G R V)
  refine wp_ld (i := (.aload_n 1)) (4, (p1 : Int)) rfl rfl (fun _ => rfl) rfl rfl (?_ : wpv K_X0_takeMultiple d P 6 [some (4, (p0 : Int)), some (4, (p1 : Int)), some (0, x2), some (0, x3), some (0, x4)] [(4, (p1 : Int)), (0, x4)] G R V)
  obtain ⟨b1, ⟨r1, l1_⟩, w⟩ := w
  refine wp_getA (k := 0) rfl rfl rfl (ly1_o l1) rfl rfl r1 (?_ : wpv K_X0_takeMultiple d P 9 [some (4, (p0 : Int)), some (4, (p1 : Int)), some (0, x2), some (0, x3), some (0, x4)] [(4, (b1 : Int)), (0, x4)] G R V)
  refine wp_getA (k := 1) rfl rfl rfl (ly2_o l1_) rfl rfl (ly2_1 l1_).1 (?_ : wpv K_X0_takeMultiple d P 12 [some (4, (p0 : Int)), some (4, (p1 : Int)), some (0, x2), some (0, x3), some (0, x4)] [(4, ((b1 + 10 : Nat) : Int)), (0, x4)] G R V)
  refine wp_rng (fun vr2 => ?_)
  have f3 : i32 (V (b1 + 10) 1) := vr_f0 vr2 (ly4_o (ly2_1 l1_).2) rfl rfl
  replace w := w f3
  refine wp_getI (k := 1) rfl rfl rfl (ly4_o (ly2_1 l1_).2) rfl rfl (?_ : wpv K_X0_takeMultiple d P 15 [some (4, (p0 : Int)), some (4, (p1 : Int)), some (0, x2), some (0, x3), some (0, x4)] [(0, (V (b1 + 10) 1)), (0, x4)] G R V)
  obtain ⟨s4, w⟩ := w
  refine wp_icmp (c := .ge) 58 rfl rfl rfl s4 f3 (fun q => ?_) (fun q => ?_)
  · have q : ¬ x4 < (V (b1 + 10) 1) := q
    replace w := w.1 q
    show wpv K_X0_takeMultiple d P 58 [some (4, (p0 : Int)), some (4, (p1 : Int)), some (0, x2), some (0, x3), some (0, x4)] [] G R V
    exact wp_r0 rfl rfl rfl w
  · have q : x4 < (V (b1 + 10) 1) := Decidable.not_not.mp q
    replace w := w.2 q
    show wpv K_X0_takeMultiple d P 18 [some (4, (p0 : Int)), some (4, (p1 : Int)), some (0, x2), some (0, x3), some (0, x4)] [] G R V
    refine wp_ld (i := (.aload_n 0)) (4, (p0 : Int)) rfl rfl (fun _ => rfl) rfl rfl (?_ : wpv K_X0_takeMultiple d P 19 [some (4, (p0 : Int)), some (4, (p1 : Int)), some (0, x2), some (0, x3), some (0, x4)] [(4, (p0 : Int))] G R V)
    refine wp_getA (k := 0) rfl rfl rfl (ly0_o l0) rfl rfl (ly0_0 l0).1 (?_ : wpv K_X0_takeMultiple d P 22 [some (4, (p0 : Int)), some (4, (p1 : Int)), some (0, x2), some (0, x3), some (0, x4)] [(4, ((p0 + 1 : Nat) : Int))] G R V)
    refine wp_ld (i := (.iload 4)) (0, x4) rfl rfl (fun _ => rfl) rfl rfl (?_ : wpv K_X0_takeMultiple d P 24 [some (4, (p0 : Int)), some (4, (p1 : Int)), some (0, x2), some (0, x3), some (0, x4)] [(0, x4), (4, ((p0 + 1 : Nat) : Int))] G R V)
    refine wp_ld (i := (.aload_n 1)) (4, (p1 : Int)) rfl rfl (fun _ => rfl) rfl rfl (?_ : wpv K_X0_takeMultiple d P 25 [some (4, (p0 : Int)), some (4, (p1 : Int)), some (0, x2), some (0, x3), some (0, x4)] [(4, (p1 : Int)), (0, x4), (4, ((p0 + 1 : Nat) : Int))] G R V)
    refine wp_ld (i := (.iload_n 2)) (0, x2) rfl rfl (fun _ => rfl) rfl rfl (?_ : wpv K_X0_takeMultiple d P 26 [some (4, (p0 : Int)), some (4, (p1 : Int)), some (0, x2), some (0, x3), some (0, x4)] [(0, x2), (4, (p1 : Int)), (0, x4), (4, ((p0 + 1 : Nat) : Int))] G R V)
    refine wp_ld (i := (.iload 4)) (0, x4) rfl rfl (fun _ => rfl) rfl rfl (?_ : wpv K_X0_takeMultiple d P 28 [some (4, (p0 : Int)), some (4, (p1 : Int)), some (0, x2), some (0, x3), some (0, x4)] [(0, x4), (0, x2), (4, (p1 : Int)), (0, x4), (4, ((p0 + 1 : Nat) : Int))] G R V)
    refine wp_virt (as := [(0, x2), (0, x4)]) (a := p1) (st := [(0, x4), (4, ((p0 + 1 : Nat) : Int))]) _ rfl rfl rfl rfl rfl rfl (ly1_o l1) (Nat.le_of_ble_eq_true rfl) (cwv_kJ w (fun v6 V5 w => ?_))
    show wpv K_X0_takeMultiple d P 31 [some (4, (p0 : Int)), some (4, (p1 : Int)), some (0, x2), some (0, x3), some (0, x4)] [(2, v6), (0, x4), (4, ((p0 + 1 : Nat) : Int))] G R V5
    refine wp_ld (i := (.iload_n 3)) (0, x3) rfl rfl (fun _ => rfl) rfl rfl (?_ : wpv K_X0_takeMultiple d P 32 [some (4, (p0 : Int)), some (4, (p1 : Int)), some (0, x2), some (0, x3), some (0, x4)] [(0, x3), (2, v6), (0, x4), (4, ((p0 + 1 : Nat) : Int))] G R V5)
    obtain ⟨s7, w⟩ := w
    refine wp_i2l rfl rfl s7 (?_ : wpv K_X0_takeMultiple d P 33 [some (4, (p0 : Int)), some (4, (p1 : Int)), some (0, x2), some (0, x3), some (0, x4)] [(2, x3), (2, v6), (0, x4), (4, ((p0 + 1 : Nat) : Int))] G R V5)
    refine wp_jmul rfl rfl (?_ : wpv K_X0_takeMultiple d P 34 [some (4, (p0 : Int)), some (4, (p1 : Int)), some (0, x2), some (0, x3), some (0, x4)] [(2, (jmul v6 x3)), (0, x4), (4, ((p0 + 1 : Nat) : Int))] G R V5)
    obtain ⟨s8, w⟩ := w
    refine wp_sJ rfl rfl (ly0_0 l0).2 s8 (t64 _) (?_ : wpv K_X0_takeMultiple d P 35 [some (4, (p0 : Int)), some (4, (p1 : Int)), some (0, x2), some (0, x3), some (0, x4)] [] G R (wr V5 (p0 + 1) x4 ((jmul v6 x3))))
    refine wp_ld (i := (.aload_n 0)) (4, (p0 : Int)) rfl rfl (fun _ => rfl) rfl rfl (?_ : wpv K_X0_takeMultiple d P 36 [some (4, (p0 : Int)), some (4, (p1 : Int)), some (0, x2), some (0, x3), some (0, x4)] [(4, (p0 : Int))] G R (wr V5 (p0 + 1) x4 ((jmul v6 x3))))
    refine wp_getA (k := 1) rfl rfl rfl (ly0_o l0) rfl rfl (ly0_1 l0).1 (?_ : wpv K_X0_takeMultiple d P 39 [some (4, (p0 : Int)), some (4, (p1 : Int)), some (0, x2), some (0, x3), some (0, x4)] [(4, ((p0 + 2 : Nat) : Int))] G R (wr V5 (p0 + 1) x4 ((jmul v6 x3))))
    refine wp_ld (i := (.iload 4)) (0, x4) rfl rfl (fun _ => rfl) rfl rfl (?_ : wpv K_X0_takeMultiple d P 41 [some (4, (p0 : Int)), some (4, (p1 : Int)), some (0, x2), some (0, x3), some (0, x4)] [(0, x4), (4, ((p0 + 2 : Nat) : Int))] G R (wr V5 (p0 + 1) x4 ((jmul v6 x3))))
    refine wp_ld (i := (.aload_n 1)) (4, (p1 : Int)) rfl rfl (fun _ => rfl) rfl rfl (?_ : wpv K_X0_takeMultiple d P 42 [some (4, (p0 : Int)), some (4, (p1 : Int)), some (0, x2), some (0, x3), some (0, x4)] [(4, (p1 : Int)), (0, x4), (4, ((p0 + 2 : Nat) : Int))] G R (wr V5 (p0 + 1) x4 ((jmul v6 x3))))
    refine wp_ld (i := (.iload_n 2)) (0, x2) rfl rfl (fun _ => rfl) rfl rfl (?_ : wpv K_X0_takeMultiple d P 43 [some (4, (p0 : Int)), some (4, (p1 : Int)), some (0, x2), some (0, x3), some (0, x4)] [(0, x2), (4, (p1 : Int)), (0, x4), (4, ((p0 + 2 : Nat) : Int))] G R (wr V5 (p0 + 1) x4 ((jmul v6 x3))))
    refine wp_ld (i := (.iload 4)) (0, x4) rfl rfl (fun _ => rfl) rfl rfl (?_ : wpv K_X0_takeMultiple d P 45 [some (4, (p0 : Int)), some (4, (p1 : Int)), some (0, x2), some (0, x3), some (0, x4)] [(0, x4), (0, x2), (4, (p1 : Int)), (0, x4), (4, ((p0 + 2 : Nat) : Int))] G R (wr V5 (p0 + 1) x4 ((jmul v6 x3))))
    refine wp_virt (as := [(0, x2), (0, x4)]) (a := p1) (st := [(0, x4), (4, ((p0 + 2 : Nat) : Int))]) _ rfl rfl rfl rfl rfl rfl (ly1_o l1) (Nat.le_of_ble_eq_true rfl) (cwv_kJ w (fun v10 V9 w => ?_))
    show wpv K_X0_takeMultiple d P 48 [some (4, (p0 : Int)), some (4, (p1 : Int)), some (0, x2), some (0, x3), some (0, x4)] [(2, v10), (0, x4), (4, ((p0 + 2 : Nat) : Int))] G R V9
    refine wp_ld (i := (.iload_n 3)) (0, x3) rfl rfl (fun _ => rfl) rfl rfl (?_ : wpv K_X0_takeMultiple d P 49 [some (4, (p0 : Int)), some (4, (p1 : Int)), some (0, x2), some (0, x3), some (0, x4)] [(0, x3), (2, v10), (0, x4), (4, ((p0 + 2 : Nat) : Int))] G R V9)
    refine wp_i2l rfl rfl s7 (?_ : wpv K_X0_takeMultiple d P 50 [some (4, (p0 : Int)), some (4, (p1 : Int)), some (0, x2), some (0, x3), some (0, x4)] [(2, x3), (2, v10), (0, x4), (4, ((p0 + 2 : Nat) : Int))] G R V9)
    refine wp_jmul rfl rfl (?_ : wpv K_X0_takeMultiple d P 51 [some (4, (p0 : Int)), some (4, (p1 : Int)), some (0, x2), some (0, x3), some (0, x4)] [(2, (jmul v10 x3)), (0, x4), (4, ((p0 + 2 : Nat) : Int))] G R V9)
    refine wp_sJ rfl rfl (ly0_1 l0).2 s8 (t64 _) (?_ : wpv K_X0_takeMultiple d P 52 [some (4, (p0 : Int)), some (4, (p1 : Int)), some (0, x2), some (0, x3), some (0, x4)] [] G R (wr V9 (p0 + 2) x4 ((jmul v10 x3))))
    obtain ⟨s11, w⟩ := w
    refine wp_inc (x := 4) (k := 1) (a := x4) (c := (x4 + 1)) _ rfl rfl rfl rfl s11 (by omega) rfl ?_
    show wpv K_X0_takeMultiple d P 55 [some (4, (p0 : Int)), some (4, (p1 : Int)), some (0, x2), some (0, x3), some (0, (x4 + 1))] [] G R (wr V9 (p0 + 2) x4 ((jmul v10 x3)))
    refine wp_go 3 rfl rfl rfl (?_ : wpv K_X0_takeMultiple d P 3 [some (4, (p0 : Int)), some (4, (p1 : Int)), some (0, x2), some (0, x3), some (0, (x4 + 1))] [] G R (wr V9 (p0 + 2) x4 ((jmul v10 x3))))
    exact wp_wk (wk_s (wk_s (wk_s (wk_s (wk_s wk_0))))) w
theorem t_X0_takeMarks_0 {d : Nat} {P : gP} {p0 : Nat} {p1 : Nat} {p2 : Nat} {n2 : Nat} {G : List gS} {R V : gV} (l0 : lay0 G R p0) (l1 : lay4 G R p1) (g2 : G[p2]? = some (.inr (1, n2))) (w : ((i32 (V p1 1)) → (((0 : Int) ≤ (V p1 1) ∧ (0 : Int) ≤ 0 ∧ (0 : Int) ≤ 0 ∧ 0 + (V p1 1) ≤ n2 ∧ 0 + (V p1 1) ≤ 300) ∧ cwv d (fun r V4 => ∃ v5 : Int, r = some (0, v5) ∧ P (some (0, v5)) V4) 15 [(4, (p0 : Int)), (4, (p1 : Int))] G R (cpy V p2 0 (p0 + 1) 0 ((V p1 1)))))) : wpv K_X0_takeMarks d P 0 [some (4, (p0 : Int)), some (4, (p1 : Int)), some (4, (p2 : Int))] [] G R V := by
  refine wp_ld (i := (.aload_n 2)) (4, (p2 : Int)) rfl rfl (fun _ => rfl) rfl rfl (?_ : wpv K_X0_takeMarks d P 1 [some (4, (p0 : Int)), some (4, (p1 : Int)), some (4, (p2 : Int))] [(4, (p2 : Int))] G R V)
  refine wp_p (i := (.iconst 0)) rfl rfl (fun _ _ _ => rfl) (?_ : wpv K_X0_takeMarks d P 2 [some (4, (p0 : Int)), some (4, (p1 : Int)), some (4, (p2 : Int))] [(0, 0), (4, (p2 : Int))] G R V)
  refine wp_ld (i := (.aload_n 0)) (4, (p0 : Int)) rfl rfl (fun _ => rfl) rfl rfl (?_ : wpv K_X0_takeMarks d P 3 [some (4, (p0 : Int)), some (4, (p1 : Int)), some (4, (p2 : Int))] [(4, (p0 : Int)), (0, 0), (4, (p2 : Int))] G R V)
  refine wp_getA (k := 0) rfl rfl rfl (ly0_o l0) rfl rfl (ly0_0 l0).1 (?_ : wpv K_X0_takeMarks d P 6 [some (4, (p0 : Int)), some (4, (p1 : Int)), some (4, (p2 : Int))] [(4, ((p0 + 1 : Nat) : Int)), (0, 0), (4, (p2 : Int))] G R V)
  refine wp_p (i := (.iconst 0)) rfl rfl (fun _ _ _ => rfl) (?_ : wpv K_X0_takeMarks d P 7 [some (4, (p0 : Int)), some (4, (p1 : Int)), some (4, (p2 : Int))] [(0, 0), (4, ((p0 + 1 : Nat) : Int)), (0, 0), (4, (p2 : Int))] G R V)
  refine wp_ld (i := (.aload_n 1)) (4, (p1 : Int)) rfl rfl (fun _ => rfl) rfl rfl (?_ : wpv K_X0_takeMarks d P 8 [some (4, (p0 : Int)), some (4, (p1 : Int)), some (4, (p2 : Int))] [(4, (p1 : Int)), (0, 0), (4, ((p0 + 1 : Nat) : Int)), (0, 0), (4, (p2 : Int))] G R V)
  refine wp_rng (fun vr1 => ?_)
  have f2 : i32 (V p1 1) := vr_f0 vr1 (ly4_o l1) rfl rfl
  replace w := w f2
  refine wp_getI (k := 1) rfl rfl rfl (ly4_o l1) rfl rfl (?_ : wpv K_X0_takeMarks d P 11 [some (4, (p0 : Int)), some (4, (p1 : Int)), some (4, (p2 : Int))] [(0, (V p1 1)), (0, 0), (4, ((p0 + 1 : Nat) : Int)), (0, 0), (4, (p2 : Int))] G R V)
  obtain ⟨s3, w⟩ := w
  refine wp_copy rfl rfl rfl (Nat.le_of_ble_eq_true rfl) g2 (ly0_0 l0).2 s3 (?_ : wpv K_X0_takeMarks d P 14 [some (4, (p0 : Int)), some (4, (p1 : Int)), some (4, (p2 : Int))] [] G R (cpy V p2 0 (p0 + 1) 0 ((V p1 1))))
  refine wp_ld (i := (.aload_n 0)) (4, (p0 : Int)) rfl rfl (fun _ => rfl) rfl rfl (?_ : wpv K_X0_takeMarks d P 15 [some (4, (p0 : Int)), some (4, (p1 : Int)), some (4, (p2 : Int))] [(4, (p0 : Int))] G R (cpy V p2 0 (p0 + 1) 0 ((V p1 1))))
  refine wp_ld (i := (.aload_n 1)) (4, (p1 : Int)) rfl rfl (fun _ => rfl) rfl rfl (?_ : wpv K_X0_takeMarks d P 16 [some (4, (p0 : Int)), some (4, (p1 : Int)), some (4, (p2 : Int))] [(4, (p1 : Int)), (4, (p0 : Int))] G R (cpy V p2 0 (p0 + 1) 0 ((V p1 1))))
  refine wp_virt (as := [(4, (p1 : Int))]) (a := p0) (st := []) _ rfl rfl rfl rfl rfl rfl (ly0_o l0) (Nat.le_of_ble_eq_true rfl) (cwv_kI w (fun v5 V4 w => ?_))
  show wpv K_X0_takeMarks d P 19 [some (4, (p0 : Int)), some (4, (p1 : Int)), some (4, (p2 : Int))] [(0, v5)] G R V4
  exact wp_rI rfl rfl rfl w
theorem t_X0_lastBelowNone_0 {d : Nat} {P : gP} {p0 : Nat} {x1 : Int} {G : List gS} {R V : gV} (l0 : lay0 G R p0) (w : ((i32 (x1 - 1)) ∧ wpv K_X0_lastBelowNone d P 4 [some (4, (p0 : Int)), none, some (0, (x1 - 1))] [] G R V)) : wpv K_X0_lastBelowNone d P 0 [some (4, (p0 : Int)), some (0, x1)] [] G R V := by
  refine wp_ld (i := (.iload_n 1)) (0, x1) rfl rfl (fun _ => rfl) rfl rfl (?_ : wpv K_X0_lastBelowNone d P 1 [some (4, (p0 : Int)), some (0, x1)] [(0, x1)] G R V)
  refine wp_p (i := (.iconst 1)) rfl rfl (fun _ _ _ => rfl) (?_ : wpv K_X0_lastBelowNone d P 2 [some (4, (p0 : Int)), some (0, x1)] [(0, 1), (0, x1)] G R V)
  obtain ⟨s1, w⟩ := w
  refine wp_xsub rfl rfl s1 (?_ : wpv K_X0_lastBelowNone d P 3 [some (4, (p0 : Int)), some (0, x1)] [(0, (x1 - 1))] G R V)
  refine wp_sto (i := (.istore_n 2)) _ rfl rfl (fun _ => rfl) rfl rfl rfl ?_
  refine wp_wk (L' := [some (4, (p0 : Int)), some (0, x1), some (0, (x1 - 1))]) (wk_s (wk_s (wk_s wk_0))) ?_
  show wpv K_X0_lastBelowNone d P 4 [some (4, (p0 : Int)), some (0, x1), some (0, (x1 - 1))] [] G R V
  exact wp_wk (wk_s (wk_n (wk_s wk_0))) w

theorem t_X0_lastBelowNone_4 {d : Nat} {P : gP} {p0 : Nat} {x2 : Int} {G : List gS} {R V : gV} (l0 : lay0 G R p0) (w : ((i32 x2) ∧ (((x2 < 0) → P (some (0, (-1))) V) ∧ ((¬ x2 < 0) → ((0 ≤ x2 ∧ x2 < 300) ∧ ((i64 (V (p0 + 2) x2)) → (((¬ (V (p0 + 2) x2) < 0) → ((i32 (x2 - 1)) ∧ wpv K_X0_lastBelowNone d P 4 [some (4, (p0 : Int)), none, some (0, (x2 - 1))] [] G R V)) ∧ (((V (p0 + 2) x2) < 0) → P (some (0, x2)) V)))))))) : wpv K_X0_lastBelowNone d P 4 [some (4, (p0 : Int)), none, some (0, x2)] [] G R V := by
  refine wp_ld (i := (.iload_n 2)) (0, x2) rfl rfl (fun _ => rfl) rfl rfl (?_ : wpv K_X0_lastBelowNone d P 5 [some (4, (p0 : Int)), none, some (0, x2)] [(0, x2)] G R V)
  obtain ⟨s1, w⟩ := w
  refine wp_if (c := .lt) 27 rfl rfl rfl s1 (fun q => ?_) (fun q => ?_)
  · have q : x2 < 0 := q
    replace w := w.1 q
    show wpv K_X0_lastBelowNone d P 27 [some (4, (p0 : Int)), none, some (0, x2)] [] G R V
    refine wp_p (i := (.iconst (-1))) rfl rfl (fun _ _ _ => rfl) (?_ : wpv K_X0_lastBelowNone d P 28 [some (4, (p0 : Int)), none, some (0, x2)] [(0, (-1))] G R V)
    exact wp_rI rfl rfl rfl w
  · have q : ¬ x2 < 0 := q
    replace w := w.2 q
    show wpv K_X0_lastBelowNone d P 8 [some (4, (p0 : Int)), none, some (0, x2)] [] G R V
    refine wp_ld (i := (.aload_n 0)) (4, (p0 : Int)) rfl rfl (fun _ => rfl) rfl rfl (?_ : wpv K_X0_lastBelowNone d P 9 [some (4, (p0 : Int)), none, some (0, x2)] [(4, (p0 : Int))] G R V)
    refine wp_getA (k := 1) rfl rfl rfl (ly0_o l0) rfl rfl (ly0_1 l0).1 (?_ : wpv K_X0_lastBelowNone d P 12 [some (4, (p0 : Int)), none, some (0, x2)] [(4, ((p0 + 2 : Nat) : Int))] G R V)
    refine wp_ld (i := (.iload_n 2)) (0, x2) rfl rfl (fun _ => rfl) rfl rfl (?_ : wpv K_X0_lastBelowNone d P 13 [some (4, (p0 : Int)), none, some (0, x2)] [(0, x2), (4, ((p0 + 2 : Nat) : Int))] G R V)
    obtain ⟨s2, w⟩ := w
    refine wp_rng (fun vr3 => ?_)
    have f4 : i64 (V (p0 + 2) x2) := vr_a1 vr3 (ly0_1 l0).2 s2
    replace w := w f4
    refine wp_aJ rfl rfl (ly0_1 l0).2 s2 (?_ : wpv K_X0_lastBelowNone d P 14 [some (4, (p0 : Int)), none, some (0, x2)] [(2, (V (p0 + 2) x2))] G R V)
    refine wp_p (i := (.lconst 0)) rfl rfl (fun _ _ _ => rfl) (?_ : wpv K_X0_lastBelowNone d P 15 [some (4, (p0 : Int)), none, some (0, x2)] [(2, 0), (2, (V (p0 + 2) x2))] G R V)
    refine wp_lcmp rfl rfl f4 ⟨by omega, by omega⟩ (?_ : wpv K_X0_lastBelowNone d P 16 [some (4, (p0 : Int)), none, some (0, x2)] [(0, sg ((V (p0 + 2) x2)) 0)] G R V)
    refine wp_if (c := .ge) 21 rfl rfl rfl (sg32 _ _) (fun q => ?_) (fun q => ?_)
    · have q : ¬ (V (p0 + 2) x2) < 0 := fun z => q (sg_lt.mpr z)
      replace w := w.1 q
      show wpv K_X0_lastBelowNone d P 21 [some (4, (p0 : Int)), none, some (0, x2)] [] G R V
      obtain ⟨s5, w⟩ := w
      refine wp_inc (x := 2) (k := -1) (a := x2) (c := (x2 - 1)) _ rfl rfl rfl rfl (by have := s5; unfold i32 at *; omega) (by omega) rfl ?_
      show wpv K_X0_lastBelowNone d P 24 [some (4, (p0 : Int)), none, some (0, (x2 - 1))] [] G R V
      refine wp_go 4 rfl rfl rfl (?_ : wpv K_X0_lastBelowNone d P 4 [some (4, (p0 : Int)), none, some (0, (x2 - 1))] [] G R V)
      exact wp_wk (wk_s (wk_n (wk_s wk_0))) w
    · have q : (V (p0 + 2) x2) < 0 := sg_lt.mp (Decidable.not_not.mp q)
      replace w := w.2 q
      show wpv K_X0_lastBelowNone d P 19 [some (4, (p0 : Int)), none, some (0, x2)] [] G R V
      refine wp_ld (i := (.iload_n 2)) (0, x2) rfl rfl (fun _ => rfl) rfl rfl (?_ : wpv K_X0_lastBelowNone d P 20 [some (4, (p0 : Int)), none, some (0, x2)] [(0, x2)] G R V)
      exact wp_rI rfl rfl rfl w
theorem t_X0_fillMarks_0 {d : Nat} {P : gP} {p0 : Nat} {p1 : Nat} {G : List gS} {R V : gV} (l0 : lay0 G R p0) (l1 : lay4 G R p1) (w : wpv K_X0_fillMarks d P 2 [some (4, (p0 : Int)), some (4, (p1 : Int)), some (0, 0)] [] G R V) : wpv K_X0_fillMarks d P 0 [some (4, (p0 : Int)), some (4, (p1 : Int))] [] G R V := by
  refine wp_p (i := (.iconst 0)) rfl rfl (fun _ _ _ => rfl) (?_ : wpv K_X0_fillMarks d P 1 [some (4, (p0 : Int)), some (4, (p1 : Int))] [(0, 0)] G R V)
  refine wp_sto (i := (.istore_n 2)) _ rfl rfl (fun _ => rfl) rfl rfl rfl ?_
  refine wp_wk (L' := [some (4, (p0 : Int)), some (4, (p1 : Int)), some (0, 0)]) (wk_s (wk_s (wk_s wk_0))) ?_
  show wpv K_X0_fillMarks d P 2 [some (4, (p0 : Int)), some (4, (p1 : Int)), some (0, 0)] [] G R V
  exact wp_wk (wk_s (wk_s (wk_s wk_0))) w

theorem t_X0_fillMarks_2 {d : Nat} {P : gP} {p0 : Nat} {p1 : Nat} {x2 : Int} {G : List gS} {R V : gV} (l0 : lay0 G R p0) (l1 : lay4 G R p1) (w : ((i32 (V p1 1)) → ((i32 x2) ∧ (((¬ x2 < (V p1 1)) → P none V) ∧ ((x2 < (V p1 1)) → wpv K_X0_fillMarks d P 15 [some (4, (p0 : Int)), some (4, (p1 : Int)), some (0, x2), some (2, 0), none, some (0, x2)] [] G R V))))) : wpv K_X0_fillMarks d P 2 [some (4, (p0 : Int)), some (4, (p1 : Int)), some (0, x2)] [] G R V := by
  refine wp_ld (i := (.iload_n 2)) (0, x2) rfl rfl (fun _ => rfl) rfl rfl (?_ : wpv K_X0_fillMarks d P 3 [some (4, (p0 : Int)), some (4, (p1 : Int)), some (0, x2)] [(0, x2)] G R V)
  refine wp_ld (i := (.aload_n 1)) (4, (p1 : Int)) rfl rfl (fun _ => rfl) rfl rfl (?_ : wpv K_X0_fillMarks d P 4 [some (4, (p0 : Int)), some (4, (p1 : Int)), some (0, x2)] [(4, (p1 : Int)), (0, x2)] G R V)
  refine wp_rng (fun vr1 => ?_)
  have f2 : i32 (V p1 1) := vr_f0 vr1 (ly4_o l1) rfl rfl
  replace w := w f2
  refine wp_getI (k := 1) rfl rfl rfl (ly4_o l1) rfl rfl (?_ : wpv K_X0_fillMarks d P 7 [some (4, (p0 : Int)), some (4, (p1 : Int)), some (0, x2)] [(0, (V p1 1)), (0, x2)] G R V)
  obtain ⟨s3, w⟩ := w
  refine wp_icmp (c := .ge) 62 rfl rfl rfl s3 f2 (fun q => ?_) (fun q => ?_)
  · have q : ¬ x2 < (V p1 1) := q
    replace w := w.1 q
    show wpv K_X0_fillMarks d P 62 [some (4, (p0 : Int)), some (4, (p1 : Int)), some (0, x2)] [] G R V
    exact wp_r0 rfl rfl rfl w
  · have q : x2 < (V p1 1) := Decidable.not_not.mp q
    replace w := w.2 q
    show wpv K_X0_fillMarks d P 10 [some (4, (p0 : Int)), some (4, (p1 : Int)), some (0, x2)] [] G R V
    refine wp_p (i := (.lconst 0)) rfl rfl (fun _ _ _ => rfl) (?_ : wpv K_X0_fillMarks d P 11 [some (4, (p0 : Int)), some (4, (p1 : Int)), some (0, x2)] [(2, 0)] G R V)
    refine wp_lsto (i := (.lstore_n 3)) _ rfl rfl (fun _ => rfl) rfl rfl rfl ?_
    refine wp_wk (L' := [some (4, (p0 : Int)), some (4, (p1 : Int)), some (0, x2), some (2, 0)]) (wk_s (wk_s (wk_s (wk_s wk_0)))) ?_
    show wpv K_X0_fillMarks d P 12 [some (4, (p0 : Int)), some (4, (p1 : Int)), some (0, x2), some (2, 0)] [] G R V
    refine wp_ld (i := (.iload_n 2)) (0, x2) rfl rfl (fun _ => rfl) rfl rfl (?_ : wpv K_X0_fillMarks d P 13 [some (4, (p0 : Int)), some (4, (p1 : Int)), some (0, x2), some (2, 0)] [(0, x2)] G R V)
    refine wp_sto (i := (.istore 5)) _ rfl rfl (fun _ => rfl) rfl rfl rfl ?_
    refine wp_wk (L' := [some (4, (p0 : Int)), some (4, (p1 : Int)), some (0, x2), some (2, 0), none, some (0, x2)]) (wk_s (wk_s (wk_s (wk_s (wk_n (wk_s wk_0)))))) ?_
    show wpv K_X0_fillMarks d P 15 [some (4, (p0 : Int)), some (4, (p1 : Int)), some (0, x2), some (2, 0), none, some (0, x2)] [] G R V
    exact wp_wk (wk_s (wk_s (wk_s (wk_s (wk_n (wk_s wk_0)))))) w

theorem t_X0_fillMarks_15 {d : Nat} {P : gP} {p0 : Nat} {p1 : Nat} {x2 : Int} {x3 : Int} {x5 : Int} {G : List gS} {R V : gV} (l0 : lay0 G R p0) (l1 : lay4 G R p1) (w : ((i32 (V p1 1)) → ((i32 x5) ∧ (((¬ x5 < (V p1 1)) → ((0 ≤ x2 ∧ x2 < 300) ∧ ((i64 x3) ∧ ((i32 (x2 + 1)) ∧ wpv K_X0_fillMarks d P 2 [some (4, (p0 : Int)), some (4, (p1 : Int)), some (0, (x2 + 1))] [] G R (wr V (p0 + 1) x2 x3))))) ∧ ((x5 < (V p1 1)) → ((0 ≤ x5 ∧ x5 < 300) ∧ ((i64 (V (p0 + 2) x5)) → cwv d (fun r V9 => ∃ v10 : Int, r = some (0, v10) ∧ ((i32 v10) ∧ ((i32 (x5 + 1)) ∧ wpv K_X0_fillMarks d P 15 [some (4, (p0 : Int)), some (4, (p1 : Int)), some (0, x2), some (2, (jadd x3 ((jmul ((V (p0 + 2) x5)) v10)))), none, some (0, (x5 + 1))] [] G R V9))) 71 [(4, (p1 : Int)), (0, x5), (0, x2)] G R V))))))) : wpv K_X0_fillMarks d P 15 [some (4, (p0 : Int)), some (4, (p1 : Int)), some (0, x2), some (2, x3), none, some (0, x5)] [] G R V := by
  refine wp_ld (i := (.iload 5)) (0, x5) rfl rfl (fun _ => rfl) rfl rfl (?_ : wpv K_X0_fillMarks d P 17 [some (4, (p0 : Int)), some (4, (p1 : Int)), some (0, x2), some (2, x3), none, some (0, x5)] [(0, x5)] G R V)
  refine wp_ld (i := (.aload_n 1)) (4, (p1 : Int)) rfl rfl (fun _ => rfl) rfl rfl (?_ : wpv K_X0_fillMarks d P 18 [some (4, (p0 : Int)), some (4, (p1 : Int)), some (0, x2), some (2, x3), none, some (0, x5)] [(4, (p1 : Int)), (0, x5)] G R V)
  refine wp_rng (fun vr1 => ?_)
  have f2 : i32 (V p1 1) := vr_f0 vr1 (ly4_o l1) rfl rfl
  replace w := w f2
  refine wp_getI (k := 1) rfl rfl rfl (ly4_o l1) rfl rfl (?_ : wpv K_X0_fillMarks d P 21 [some (4, (p0 : Int)), some (4, (p1 : Int)), some (0, x2), some (2, x3), none, some (0, x5)] [(0, (V p1 1)), (0, x5)] G R V)
  obtain ⟨s3, w⟩ := w
  refine wp_icmp (c := .ge) 49 rfl rfl rfl s3 f2 (fun q => ?_) (fun q => ?_)
  · have q : ¬ x5 < (V p1 1) := q
    replace w := w.1 q
    show wpv K_X0_fillMarks d P 49 [some (4, (p0 : Int)), some (4, (p1 : Int)), some (0, x2), some (2, x3), none, some (0, x5)] [] G R V
    refine wp_ld (i := (.aload_n 0)) (4, (p0 : Int)) rfl rfl (fun _ => rfl) rfl rfl (?_ : wpv K_X0_fillMarks d P 50 [some (4, (p0 : Int)), some (4, (p1 : Int)), some (0, x2), some (2, x3), none, some (0, x5)] [(4, (p0 : Int))] G R V)
    refine wp_getA (k := 0) rfl rfl rfl (ly0_o l0) rfl rfl (ly0_0 l0).1 (?_ : wpv K_X0_fillMarks d P 53 [some (4, (p0 : Int)), some (4, (p1 : Int)), some (0, x2), some (2, x3), none, some (0, x5)] [(4, ((p0 + 1 : Nat) : Int))] G R V)
    refine wp_ld (i := (.iload_n 2)) (0, x2) rfl rfl (fun _ => rfl) rfl rfl (?_ : wpv K_X0_fillMarks d P 54 [some (4, (p0 : Int)), some (4, (p1 : Int)), some (0, x2), some (2, x3), none, some (0, x5)] [(0, x2), (4, ((p0 + 1 : Nat) : Int))] G R V)
    refine wp_ld (i := (.lload_n 3)) (2, x3) rfl rfl (fun _ => rfl) rfl rfl (?_ : wpv K_X0_fillMarks d P 55 [some (4, (p0 : Int)), some (4, (p1 : Int)), some (0, x2), some (2, x3), none, some (0, x5)] [(2, x3), (0, x2), (4, ((p0 + 1 : Nat) : Int))] G R V)
    obtain ⟨s4, w⟩ := w
    obtain ⟨s5, w⟩ := w
    refine wp_sJ rfl rfl (ly0_0 l0).2 s4 s5 (?_ : wpv K_X0_fillMarks d P 56 [some (4, (p0 : Int)), some (4, (p1 : Int)), some (0, x2), some (2, x3), none, some (0, x5)] [] G R (wr V (p0 + 1) x2 x3))
    obtain ⟨s6, w⟩ := w
    refine wp_inc (x := 2) (k := 1) (a := x2) (c := (x2 + 1)) _ rfl rfl rfl rfl s6 (by omega) rfl ?_
    show wpv K_X0_fillMarks d P 59 [some (4, (p0 : Int)), some (4, (p1 : Int)), some (0, (x2 + 1)), some (2, x3), none, some (0, x5)] [] G R (wr V (p0 + 1) x2 x3)
    refine wp_go 2 rfl rfl rfl (?_ : wpv K_X0_fillMarks d P 2 [some (4, (p0 : Int)), some (4, (p1 : Int)), some (0, (x2 + 1)), some (2, x3), none, some (0, x5)] [] G R (wr V (p0 + 1) x2 x3))
    exact wp_wk (wk_s (wk_s (wk_s wk_0))) w
  · have q : x5 < (V p1 1) := Decidable.not_not.mp q
    replace w := w.2 q
    show wpv K_X0_fillMarks d P 24 [some (4, (p0 : Int)), some (4, (p1 : Int)), some (0, x2), some (2, x3), none, some (0, x5)] [] G R V
    refine wp_ld (i := (.lload_n 3)) (2, x3) rfl rfl (fun _ => rfl) rfl rfl (?_ : wpv K_X0_fillMarks d P 25 [some (4, (p0 : Int)), some (4, (p1 : Int)), some (0, x2), some (2, x3), none, some (0, x5)] [(2, x3)] G R V)
    refine wp_ld (i := (.aload_n 0)) (4, (p0 : Int)) rfl rfl (fun _ => rfl) rfl rfl (?_ : wpv K_X0_fillMarks d P 26 [some (4, (p0 : Int)), some (4, (p1 : Int)), some (0, x2), some (2, x3), none, some (0, x5)] [(4, (p0 : Int)), (2, x3)] G R V)
    refine wp_getA (k := 1) rfl rfl rfl (ly0_o l0) rfl rfl (ly0_1 l0).1 (?_ : wpv K_X0_fillMarks d P 29 [some (4, (p0 : Int)), some (4, (p1 : Int)), some (0, x2), some (2, x3), none, some (0, x5)] [(4, ((p0 + 2 : Nat) : Int)), (2, x3)] G R V)
    refine wp_ld (i := (.iload 5)) (0, x5) rfl rfl (fun _ => rfl) rfl rfl (?_ : wpv K_X0_fillMarks d P 31 [some (4, (p0 : Int)), some (4, (p1 : Int)), some (0, x2), some (2, x3), none, some (0, x5)] [(0, x5), (4, ((p0 + 2 : Nat) : Int)), (2, x3)] G R V)
    obtain ⟨s7, w⟩ := w
    have f8 : i64 (V (p0 + 2) x5) := vr_a1 vr1 (ly0_1 l0).2 s7
    replace w := w f8
    refine wp_aJ rfl rfl (ly0_1 l0).2 s7 (?_ : wpv K_X0_fillMarks d P 32 [some (4, (p0 : Int)), some (4, (p1 : Int)), some (0, x2), some (2, x3), none, some (0, x5)] [(2, (V (p0 + 2) x5)), (2, x3)] G R V)
    refine wp_ld (i := (.aload_n 1)) (4, (p1 : Int)) rfl rfl (fun _ => rfl) rfl rfl (?_ : wpv K_X0_fillMarks d P 33 [some (4, (p0 : Int)), some (4, (p1 : Int)), some (0, x2), some (2, x3), none, some (0, x5)] [(4, (p1 : Int)), (2, (V (p0 + 2) x5)), (2, x3)] G R V)
    refine wp_ld (i := (.iload 5)) (0, x5) rfl rfl (fun _ => rfl) rfl rfl (?_ : wpv K_X0_fillMarks d P 35 [some (4, (p0 : Int)), some (4, (p1 : Int)), some (0, x2), some (2, x3), none, some (0, x5)] [(0, x5), (4, (p1 : Int)), (2, (V (p0 + 2) x5)), (2, x3)] G R V)
    refine wp_ld (i := (.iload_n 2)) (0, x2) rfl rfl (fun _ => rfl) rfl rfl (?_ : wpv K_X0_fillMarks d P 36 [some (4, (p0 : Int)), some (4, (p1 : Int)), some (0, x2), some (2, x3), none, some (0, x5)] [(0, x2), (0, x5), (4, (p1 : Int)), (2, (V (p0 + 2) x5)), (2, x3)] G R V)
    refine wp_virt (as := [(0, x5), (0, x2)]) (a := p1) (st := [(2, (V (p0 + 2) x5)), (2, x3)]) _ rfl rfl rfl rfl rfl rfl (ly4_o l1) (Nat.le_of_ble_eq_true rfl) (cwv_kI w (fun v10 V9 w => ?_))
    show wpv K_X0_fillMarks d P 39 [some (4, (p0 : Int)), some (4, (p1 : Int)), some (0, x2), some (2, x3), none, some (0, x5)] [(0, v10), (2, (V (p0 + 2) x5)), (2, x3)] G R V9
    obtain ⟨s11, w⟩ := w
    refine wp_i2l rfl rfl s11 (?_ : wpv K_X0_fillMarks d P 40 [some (4, (p0 : Int)), some (4, (p1 : Int)), some (0, x2), some (2, x3), none, some (0, x5)] [(2, v10), (2, (V (p0 + 2) x5)), (2, x3)] G R V9)
    refine wp_jmul rfl rfl (?_ : wpv K_X0_fillMarks d P 41 [some (4, (p0 : Int)), some (4, (p1 : Int)), some (0, x2), some (2, x3), none, some (0, x5)] [(2, (jmul ((V (p0 + 2) x5)) v10)), (2, x3)] G R V9)
    refine wp_jadd rfl rfl (?_ : wpv K_X0_fillMarks d P 42 [some (4, (p0 : Int)), some (4, (p1 : Int)), some (0, x2), some (2, x3), none, some (0, x5)] [(2, (jadd x3 ((jmul ((V (p0 + 2) x5)) v10))))] G R V9)
    refine wp_lsto (i := (.lstore_n 3)) _ rfl rfl (fun _ => rfl) rfl rfl rfl ?_
    refine wp_wk (L' := [some (4, (p0 : Int)), some (4, (p1 : Int)), some (0, x2), some (2, (jadd x3 ((jmul ((V (p0 + 2) x5)) v10)))), none, some (0, x5)]) (wk_s (wk_s (wk_s (wk_s (wk_n (wk_s wk_0)))))) ?_
    show wpv K_X0_fillMarks d P 43 [some (4, (p0 : Int)), some (4, (p1 : Int)), some (0, x2), some (2, (jadd x3 ((jmul ((V (p0 + 2) x5)) v10)))), none, some (0, x5)] [] G R V9
    obtain ⟨s12, w⟩ := w
    refine wp_inc (x := 5) (k := 1) (a := x5) (c := (x5 + 1)) _ rfl rfl rfl rfl s12 (by omega) rfl ?_
    show wpv K_X0_fillMarks d P 46 [some (4, (p0 : Int)), some (4, (p1 : Int)), some (0, x2), some (2, (jadd x3 ((jmul ((V (p0 + 2) x5)) v10)))), none, some (0, (x5 + 1))] [] G R V9
    refine wp_go 15 rfl rfl rfl (?_ : wpv K_X0_fillMarks d P 15 [some (4, (p0 : Int)), some (4, (p1 : Int)), some (0, x2), some (2, (jadd x3 ((jmul ((V (p0 + 2) x5)) v10)))), none, some (0, (x5 + 1))] [] G R V9)
    exact wp_wk (wk_s (wk_s (wk_s (wk_s (wk_n (wk_s wk_0)))))) w
theorem t_X0_fillParts_0 {d : Nat} {P : gP} {p0 : Nat} {p1 : Nat} {G : List gS} {R V : gV} (l0 : lay0 G R p0) (l1 : lay4 G R p1) (w : ((i32 (V p1 1)) → ((i32 ((V p1 1) - 1)) ∧ wpv K_X0_fillParts d P 7 [some (4, (p0 : Int)), some (4, (p1 : Int)), some (0, ((V p1 1) - 1))] [] G R V))) : wpv K_X0_fillParts d P 0 [some (4, (p0 : Int)), some (4, (p1 : Int))] [] G R V := by
  refine wp_ld (i := (.aload_n 1)) (4, (p1 : Int)) rfl rfl (fun _ => rfl) rfl rfl (?_ : wpv K_X0_fillParts d P 1 [some (4, (p0 : Int)), some (4, (p1 : Int))] [(4, (p1 : Int))] G R V)
  refine wp_rng (fun vr1 => ?_)
  have f2 : i32 (V p1 1) := vr_f0 vr1 (ly4_o l1) rfl rfl
  replace w := w f2
  refine wp_getI (k := 1) rfl rfl rfl (ly4_o l1) rfl rfl (?_ : wpv K_X0_fillParts d P 4 [some (4, (p0 : Int)), some (4, (p1 : Int))] [(0, (V p1 1))] G R V)
  refine wp_p (i := (.iconst 1)) rfl rfl (fun _ _ _ => rfl) (?_ : wpv K_X0_fillParts d P 5 [some (4, (p0 : Int)), some (4, (p1 : Int))] [(0, 1), (0, (V p1 1))] G R V)
  obtain ⟨s3, w⟩ := w
  refine wp_xsub rfl rfl s3 (?_ : wpv K_X0_fillParts d P 6 [some (4, (p0 : Int)), some (4, (p1 : Int))] [(0, ((V p1 1) - 1))] G R V)
  refine wp_sto (i := (.istore_n 2)) _ rfl rfl (fun _ => rfl) rfl rfl rfl ?_
  refine wp_wk (L' := [some (4, (p0 : Int)), some (4, (p1 : Int)), some (0, ((V p1 1) - 1))]) (wk_s (wk_s (wk_s wk_0))) ?_
  show wpv K_X0_fillParts d P 7 [some (4, (p0 : Int)), some (4, (p1 : Int)), some (0, ((V p1 1) - 1))] [] G R V
  exact wp_wk (wk_s (wk_s (wk_s wk_0))) w

theorem t_X0_fillParts_7 {d : Nat} {P : gP} {p0 : Nat} {p1 : Nat} {x2 : Int} {G : List gS} {R V : gV} (l0 : lay0 G R p0) (l1 : lay4 G R p1) (w : ((i32 x2) ∧ (((x2 < 0) → P (some (0, (-1))) V) ∧ ((¬ x2 < 0) → ((0 ≤ x2 ∧ x2 < 300) ∧ ((i64 (V (p0 + 1) x2)) → ((i32 (x2 + 1)) ∧ wpv K_X0_fillParts d P 23 [some (4, (p0 : Int)), some (4, (p1 : Int)), some (0, x2), some (2, (V (p0 + 1) x2)), none, some (0, (x2 + 1))] [] G R V))))))) : wpv K_X0_fillParts d P 7 [some (4, (p0 : Int)), some (4, (p1 : Int)), some (0, x2)] [] G R V := by
  refine wp_ld (i := (.iload_n 2)) (0, x2) rfl rfl (fun _ => rfl) rfl rfl (?_ : wpv K_X0_fillParts d P 8 [some (4, (p0 : Int)), some (4, (p1 : Int)), some (0, x2)] [(0, x2)] G R V)
  obtain ⟨s1, w⟩ := w
  refine wp_if (c := .lt) 111 rfl rfl rfl s1 (fun q => ?_) (fun q => ?_)
  · have q : x2 < 0 := q
    replace w := w.1 q
    show wpv K_X0_fillParts d P 111 [some (4, (p0 : Int)), some (4, (p1 : Int)), some (0, x2)] [] G R V
    refine wp_p (i := (.iconst (-1))) rfl rfl (fun _ _ _ => rfl) (?_ : wpv K_X0_fillParts d P 112 [some (4, (p0 : Int)), some (4, (p1 : Int)), some (0, x2)] [(0, (-1))] G R V)
    exact wp_rI rfl rfl rfl w
  · have q : ¬ x2 < 0 := q
    replace w := w.2 q
    show wpv K_X0_fillParts d P 11 [some (4, (p0 : Int)), some (4, (p1 : Int)), some (0, x2)] [] G R V
    refine wp_ld (i := (.aload_n 0)) (4, (p0 : Int)) rfl rfl (fun _ => rfl) rfl rfl (?_ : wpv K_X0_fillParts d P 12 [some (4, (p0 : Int)), some (4, (p1 : Int)), some (0, x2)] [(4, (p0 : Int))] G R V)
    refine wp_getA (k := 0) rfl rfl rfl (ly0_o l0) rfl rfl (ly0_0 l0).1 (?_ : wpv K_X0_fillParts d P 15 [some (4, (p0 : Int)), some (4, (p1 : Int)), some (0, x2)] [(4, ((p0 + 1 : Nat) : Int))] G R V)
    refine wp_ld (i := (.iload_n 2)) (0, x2) rfl rfl (fun _ => rfl) rfl rfl (?_ : wpv K_X0_fillParts d P 16 [some (4, (p0 : Int)), some (4, (p1 : Int)), some (0, x2)] [(0, x2), (4, ((p0 + 1 : Nat) : Int))] G R V)
    obtain ⟨s2, w⟩ := w
    refine wp_rng (fun vr3 => ?_)
    have f4 : i64 (V (p0 + 1) x2) := vr_a1 vr3 (ly0_0 l0).2 s2
    replace w := w f4
    refine wp_aJ rfl rfl (ly0_0 l0).2 s2 (?_ : wpv K_X0_fillParts d P 17 [some (4, (p0 : Int)), some (4, (p1 : Int)), some (0, x2)] [(2, (V (p0 + 1) x2))] G R V)
    refine wp_lsto (i := (.lstore_n 3)) _ rfl rfl (fun _ => rfl) rfl rfl rfl ?_
    refine wp_wk (L' := [some (4, (p0 : Int)), some (4, (p1 : Int)), some (0, x2), some (2, (V (p0 + 1) x2))]) (wk_s (wk_s (wk_s (wk_s wk_0)))) ?_
    show wpv K_X0_fillParts d P 18 [some (4, (p0 : Int)), some (4, (p1 : Int)), some (0, x2), some (2, (V (p0 + 1) x2))] [] G R V
    refine wp_ld (i := (.iload_n 2)) (0, x2) rfl rfl (fun _ => rfl) rfl rfl (?_ : wpv K_X0_fillParts d P 19 [some (4, (p0 : Int)), some (4, (p1 : Int)), some (0, x2), some (2, (V (p0 + 1) x2))] [(0, x2)] G R V)
    refine wp_p (i := (.iconst 1)) rfl rfl (fun _ _ _ => rfl) (?_ : wpv K_X0_fillParts d P 20 [some (4, (p0 : Int)), some (4, (p1 : Int)), some (0, x2), some (2, (V (p0 + 1) x2))] [(0, 1), (0, x2)] G R V)
    obtain ⟨s5, w⟩ := w
    refine wp_xadd rfl rfl s5 (?_ : wpv K_X0_fillParts d P 21 [some (4, (p0 : Int)), some (4, (p1 : Int)), some (0, x2), some (2, (V (p0 + 1) x2))] [(0, (x2 + 1))] G R V)
    refine wp_sto (i := (.istore 5)) _ rfl rfl (fun _ => rfl) rfl rfl rfl ?_
    refine wp_wk (L' := [some (4, (p0 : Int)), some (4, (p1 : Int)), some (0, x2), some (2, (V (p0 + 1) x2)), none, some (0, (x2 + 1))]) (wk_s (wk_s (wk_s (wk_s (wk_n (wk_s wk_0)))))) ?_
    show wpv K_X0_fillParts d P 23 [some (4, (p0 : Int)), some (4, (p1 : Int)), some (0, x2), some (2, (V (p0 + 1) x2)), none, some (0, (x2 + 1))] [] G R V
    exact wp_wk (wk_s (wk_s (wk_s (wk_s (wk_n (wk_s wk_0)))))) w

theorem t_X0_fillParts_23 {d : Nat} {P : gP} {p0 : Nat} {p1 : Nat} {x2 : Int} {x3 : Int} {x5 : Int} {G : List gS} {R V : gV} (l0 : lay0 G R p0) (l1 : lay4 G R p1) (w : ((i32 (V p1 1)) → ((i32 x5) ∧ (((¬ x5 < (V p1 1)) → cwv d (fun r V4 => ∃ v5 : Int, r = some (0, v5) ∧ ((i32 v5) ∧ (((v5 = 0) → P (some (0, x2)) V4) ∧ ((¬ v5 = 0) → ((v5 ≠ 0) ∧ ((((jrem x3 v5) = 0) → ((v5 ≠ 0) ∧ ((0 ≤ x2 ∧ x2 < 300) ∧ ((i32 (x2 - 1)) ∧ wpv K_X0_fillParts d P 7 [some (4, (p0 : Int)), some (4, (p1 : Int)), some (0, (x2 - 1))] [] G R (wr V4 (p0 + 2) x2 ((jdiv x3 v5))))))) ∧ ((¬ (jrem x3 v5) = 0) → P (some (0, x2)) V4))))))) 71 [(4, (p1 : Int)), (0, x2), (0, x2)] G R V) ∧ ((x5 < (V p1 1)) → ((0 ≤ x5 ∧ x5 < 300) ∧ ((i64 (V (p0 + 2) x5)) → ((((V (p0 + 2) x5) = 0) → ((i32 (x5 + 1)) ∧ wpv K_X0_fillParts d P 23 [some (4, (p0 : Int)), some (4, (p1 : Int)), some (0, x2), some (2, x3), none, some (0, (x5 + 1))] [] G R V)) ∧ ((¬ (V (p0 + 2) x5) = 0) → cwv d (fun r V14 => ∃ v15 : Int, r = some (0, v15) ∧ ((i32 v15) ∧ ((i32 (x5 + 1)) ∧ wpv K_X0_fillParts d P 23 [some (4, (p0 : Int)), some (4, (p1 : Int)), some (0, x2), some (2, (jsub x3 ((jmul ((V (p0 + 2) x5)) v15)))), none, some (0, (x5 + 1))] [] G R V14))) 71 [(4, (p1 : Int)), (0, x5), (0, x2)] G R V))))))))) : wpv K_X0_fillParts d P 23 [some (4, (p0 : Int)), some (4, (p1 : Int)), some (0, x2), some (2, x3), none, some (0, x5)] [] G R V := by
  refine wp_ld (i := (.iload 5)) (0, x5) rfl rfl (fun _ => rfl) rfl rfl (?_ : wpv K_X0_fillParts d P 25 [some (4, (p0 : Int)), some (4, (p1 : Int)), some (0, x2), some (2, x3), none, some (0, x5)] [(0, x5)] G R V)
  refine wp_ld (i := (.aload_n 1)) (4, (p1 : Int)) rfl rfl (fun _ => rfl) rfl rfl (?_ : wpv K_X0_fillParts d P 26 [some (4, (p0 : Int)), some (4, (p1 : Int)), some (0, x2), some (2, x3), none, some (0, x5)] [(4, (p1 : Int)), (0, x5)] G R V)
  refine wp_rng (fun vr1 => ?_)
  have f2 : i32 (V p1 1) := vr_f0 vr1 (ly4_o l1) rfl rfl
  replace w := w f2
  refine wp_getI (k := 1) rfl rfl rfl (ly4_o l1) rfl rfl (?_ : wpv K_X0_fillParts d P 29 [some (4, (p0 : Int)), some (4, (p1 : Int)), some (0, x2), some (2, x3), none, some (0, x5)] [(0, (V p1 1)), (0, x5)] G R V)
  obtain ⟨s3, w⟩ := w
  refine wp_icmp (c := .ge) 69 rfl rfl rfl s3 f2 (fun q => ?_) (fun q => ?_)
  · have q : ¬ x5 < (V p1 1) := q
    replace w := w.1 q
    show wpv K_X0_fillParts d P 69 [some (4, (p0 : Int)), some (4, (p1 : Int)), some (0, x2), some (2, x3), none, some (0, x5)] [] G R V
    refine wp_ld (i := (.aload_n 1)) (4, (p1 : Int)) rfl rfl (fun _ => rfl) rfl rfl (?_ : wpv K_X0_fillParts d P 70 [some (4, (p0 : Int)), some (4, (p1 : Int)), some (0, x2), some (2, x3), none, some (0, x5)] [(4, (p1 : Int))] G R V)
    refine wp_ld (i := (.iload_n 2)) (0, x2) rfl rfl (fun _ => rfl) rfl rfl (?_ : wpv K_X0_fillParts d P 71 [some (4, (p0 : Int)), some (4, (p1 : Int)), some (0, x2), some (2, x3), none, some (0, x5)] [(0, x2), (4, (p1 : Int))] G R V)
    refine wp_ld (i := (.iload_n 2)) (0, x2) rfl rfl (fun _ => rfl) rfl rfl (?_ : wpv K_X0_fillParts d P 72 [some (4, (p0 : Int)), some (4, (p1 : Int)), some (0, x2), some (2, x3), none, some (0, x5)] [(0, x2), (0, x2), (4, (p1 : Int))] G R V)
    refine wp_virt (as := [(0, x2), (0, x2)]) (a := p1) (st := []) _ rfl rfl rfl rfl rfl rfl (ly4_o l1) (Nat.le_of_ble_eq_true rfl) (cwv_kI w (fun v5 V4 w => ?_))
    show wpv K_X0_fillParts d P 75 [some (4, (p0 : Int)), some (4, (p1 : Int)), some (0, x2), some (2, x3), none, some (0, x5)] [(0, v5)] G R V4
    refine wp_sto (i := (.istore 5)) _ rfl rfl (fun _ => rfl) rfl rfl rfl ?_
    refine wp_wk (L' := [some (4, (p0 : Int)), some (4, (p1 : Int)), some (0, x2), some (2, x3), none, some (0, v5)]) (wk_s (wk_s (wk_s (wk_s (wk_n (wk_s wk_0)))))) ?_
    show wpv K_X0_fillParts d P 77 [some (4, (p0 : Int)), some (4, (p1 : Int)), some (0, x2), some (2, x3), none, some (0, v5)] [] G R V4
    refine wp_ld (i := (.iload 5)) (0, v5) rfl rfl (fun _ => rfl) rfl rfl (?_ : wpv K_X0_fillParts d P 79 [some (4, (p0 : Int)), some (4, (p1 : Int)), some (0, x2), some (2, x3), none, some (0, v5)] [(0, v5)] G R V4)
    obtain ⟨s6, w⟩ := w
    refine wp_if (c := .eq) 92 rfl rfl rfl s6 (fun q => ?_) (fun q => ?_)
    · have q : v5 = 0 := q
      replace w := w.1 q
      show wpv K_X0_fillParts d P 92 [some (4, (p0 : Int)), some (4, (p1 : Int)), some (0, x2), some (2, x3), none, some (0, v5)] [] G R V4
      refine wp_ld (i := (.iload_n 2)) (0, x2) rfl rfl (fun _ => rfl) rfl rfl (?_ : wpv K_X0_fillParts d P 93 [some (4, (p0 : Int)), some (4, (p1 : Int)), some (0, x2), some (2, x3), none, some (0, v5)] [(0, x2)] G R V4)
      exact wp_rI rfl rfl rfl w
    · have q : ¬ v5 = 0 := q
      replace w := w.2 q
      show wpv K_X0_fillParts d P 82 [some (4, (p0 : Int)), some (4, (p1 : Int)), some (0, x2), some (2, x3), none, some (0, v5)] [] G R V4
      refine wp_ld (i := (.lload_n 3)) (2, x3) rfl rfl (fun _ => rfl) rfl rfl (?_ : wpv K_X0_fillParts d P 83 [some (4, (p0 : Int)), some (4, (p1 : Int)), some (0, x2), some (2, x3), none, some (0, v5)] [(2, x3)] G R V4)
      refine wp_ld (i := (.iload 5)) (0, v5) rfl rfl (fun _ => rfl) rfl rfl (?_ : wpv K_X0_fillParts d P 85 [some (4, (p0 : Int)), some (4, (p1 : Int)), some (0, x2), some (2, x3), none, some (0, v5)] [(0, v5), (2, x3)] G R V4)
      refine wp_i2l rfl rfl s6 (?_ : wpv K_X0_fillParts d P 86 [some (4, (p0 : Int)), some (4, (p1 : Int)), some (0, x2), some (2, x3), none, some (0, v5)] [(2, v5), (2, x3)] G R V4)
      obtain ⟨s7, w⟩ := w
      refine wp_jrem rfl rfl (i32_64 s6) s7 (?_ : wpv K_X0_fillParts d P 87 [some (4, (p0 : Int)), some (4, (p1 : Int)), some (0, x2), some (2, x3), none, some (0, v5)] [(2, (jrem x3 v5))] G R V4)
      refine wp_p (i := (.lconst 0)) rfl rfl (fun _ _ _ => rfl) (?_ : wpv K_X0_fillParts d P 88 [some (4, (p0 : Int)), some (4, (p1 : Int)), some (0, x2), some (2, x3), none, some (0, v5)] [(2, 0), (2, (jrem x3 v5))] G R V4)
      refine wp_lcmp rfl rfl (t64 _) ⟨by omega, by omega⟩ (?_ : wpv K_X0_fillParts d P 89 [some (4, (p0 : Int)), some (4, (p1 : Int)), some (0, x2), some (2, x3), none, some (0, v5)] [(0, sg ((jrem x3 v5)) 0)] G R V4)
      refine wp_if (c := .eq) 94 rfl rfl rfl (sg32 _ _) (fun q => ?_) (fun q => ?_)
      · have q : (jrem x3 v5) = 0 := sg_eq.mp q
        replace w := w.1 q
        show wpv K_X0_fillParts d P 94 [some (4, (p0 : Int)), some (4, (p1 : Int)), some (0, x2), some (2, x3), none, some (0, v5)] [] G R V4
        refine wp_ld (i := (.aload_n 0)) (4, (p0 : Int)) rfl rfl (fun _ => rfl) rfl rfl (?_ : wpv K_X0_fillParts d P 95 [some (4, (p0 : Int)), some (4, (p1 : Int)), some (0, x2), some (2, x3), none, some (0, v5)] [(4, (p0 : Int))] G R V4)
        refine wp_getA (k := 1) rfl rfl rfl (ly0_o l0) rfl rfl (ly0_1 l0).1 (?_ : wpv K_X0_fillParts d P 98 [some (4, (p0 : Int)), some (4, (p1 : Int)), some (0, x2), some (2, x3), none, some (0, v5)] [(4, ((p0 + 2 : Nat) : Int))] G R V4)
        refine wp_ld (i := (.iload_n 2)) (0, x2) rfl rfl (fun _ => rfl) rfl rfl (?_ : wpv K_X0_fillParts d P 99 [some (4, (p0 : Int)), some (4, (p1 : Int)), some (0, x2), some (2, x3), none, some (0, v5)] [(0, x2), (4, ((p0 + 2 : Nat) : Int))] G R V4)
        refine wp_ld (i := (.lload_n 3)) (2, x3) rfl rfl (fun _ => rfl) rfl rfl (?_ : wpv K_X0_fillParts d P 100 [some (4, (p0 : Int)), some (4, (p1 : Int)), some (0, x2), some (2, x3), none, some (0, v5)] [(2, x3), (0, x2), (4, ((p0 + 2 : Nat) : Int))] G R V4)
        refine wp_ld (i := (.iload 5)) (0, v5) rfl rfl (fun _ => rfl) rfl rfl (?_ : wpv K_X0_fillParts d P 102 [some (4, (p0 : Int)), some (4, (p1 : Int)), some (0, x2), some (2, x3), none, some (0, v5)] [(0, v5), (2, x3), (0, x2), (4, ((p0 + 2 : Nat) : Int))] G R V4)
        refine wp_i2l rfl rfl s6 (?_ : wpv K_X0_fillParts d P 103 [some (4, (p0 : Int)), some (4, (p1 : Int)), some (0, x2), some (2, x3), none, some (0, v5)] [(2, v5), (2, x3), (0, x2), (4, ((p0 + 2 : Nat) : Int))] G R V4)
        obtain ⟨s8, w⟩ := w
        refine wp_jdiv rfl rfl (i32_64 s6) s8 (?_ : wpv K_X0_fillParts d P 104 [some (4, (p0 : Int)), some (4, (p1 : Int)), some (0, x2), some (2, x3), none, some (0, v5)] [(2, (jdiv x3 v5)), (0, x2), (4, ((p0 + 2 : Nat) : Int))] G R V4)
        obtain ⟨s9, w⟩ := w
        refine wp_sJ rfl rfl (ly0_1 l0).2 s9 (t64 _) (?_ : wpv K_X0_fillParts d P 105 [some (4, (p0 : Int)), some (4, (p1 : Int)), some (0, x2), some (2, x3), none, some (0, v5)] [] G R (wr V4 (p0 + 2) x2 ((jdiv x3 v5))))
        obtain ⟨s10, w⟩ := w
        refine wp_inc (x := 2) (k := -1) (a := x2) (c := (x2 - 1)) _ rfl rfl rfl rfl (by have := s10; unfold i32 at *; omega) (by omega) rfl ?_
        show wpv K_X0_fillParts d P 108 [some (4, (p0 : Int)), some (4, (p1 : Int)), some (0, (x2 - 1)), some (2, x3), none, some (0, v5)] [] G R (wr V4 (p0 + 2) x2 ((jdiv x3 v5)))
        refine wp_go 7 rfl rfl rfl (?_ : wpv K_X0_fillParts d P 7 [some (4, (p0 : Int)), some (4, (p1 : Int)), some (0, (x2 - 1)), some (2, x3), none, some (0, v5)] [] G R (wr V4 (p0 + 2) x2 ((jdiv x3 v5))))
        exact wp_wk (wk_s (wk_s (wk_s wk_0))) w
      · have q : ¬ (jrem x3 v5) = 0 := fun z => q (sg_eq.mpr z)
        replace w := w.2 q
        show wpv K_X0_fillParts d P 92 [some (4, (p0 : Int)), some (4, (p1 : Int)), some (0, x2), some (2, x3), none, some (0, v5)] [] G R V4
        refine wp_ld (i := (.iload_n 2)) (0, x2) rfl rfl (fun _ => rfl) rfl rfl (?_ : wpv K_X0_fillParts d P 93 [some (4, (p0 : Int)), some (4, (p1 : Int)), some (0, x2), some (2, x3), none, some (0, v5)] [(0, x2)] G R V4)
        exact wp_rI rfl rfl rfl w
  · have q : x5 < (V p1 1) := Decidable.not_not.mp q
    replace w := w.2 q
    show wpv K_X0_fillParts d P 32 [some (4, (p0 : Int)), some (4, (p1 : Int)), some (0, x2), some (2, x3), none, some (0, x5)] [] G R V
    refine wp_ld (i := (.aload_n 0)) (4, (p0 : Int)) rfl rfl (fun _ => rfl) rfl rfl (?_ : wpv K_X0_fillParts d P 33 [some (4, (p0 : Int)), some (4, (p1 : Int)), some (0, x2), some (2, x3), none, some (0, x5)] [(4, (p0 : Int))] G R V)
    refine wp_getA (k := 1) rfl rfl rfl (ly0_o l0) rfl rfl (ly0_1 l0).1 (?_ : wpv K_X0_fillParts d P 36 [some (4, (p0 : Int)), some (4, (p1 : Int)), some (0, x2), some (2, x3), none, some (0, x5)] [(4, ((p0 + 2 : Nat) : Int))] G R V)
    refine wp_ld (i := (.iload 5)) (0, x5) rfl rfl (fun _ => rfl) rfl rfl (?_ : wpv K_X0_fillParts d P 38 [some (4, (p0 : Int)), some (4, (p1 : Int)), some (0, x2), some (2, x3), none, some (0, x5)] [(0, x5), (4, ((p0 + 2 : Nat) : Int))] G R V)
    obtain ⟨s11, w⟩ := w
    have f12 : i64 (V (p0 + 2) x5) := vr_a1 vr1 (ly0_1 l0).2 s11
    replace w := w f12
    refine wp_aJ rfl rfl (ly0_1 l0).2 s11 (?_ : wpv K_X0_fillParts d P 39 [some (4, (p0 : Int)), some (4, (p1 : Int)), some (0, x2), some (2, x3), none, some (0, x5)] [(2, (V (p0 + 2) x5))] G R V)
    refine wp_p (i := (.lconst 0)) rfl rfl (fun _ _ _ => rfl) (?_ : wpv K_X0_fillParts d P 40 [some (4, (p0 : Int)), some (4, (p1 : Int)), some (0, x2), some (2, x3), none, some (0, x5)] [(2, 0), (2, (V (p0 + 2) x5))] G R V)
    refine wp_lcmp rfl rfl f12 ⟨by omega, by omega⟩ (?_ : wpv K_X0_fillParts d P 41 [some (4, (p0 : Int)), some (4, (p1 : Int)), some (0, x2), some (2, x3), none, some (0, x5)] [(0, sg ((V (p0 + 2) x5)) 0)] G R V)
    refine wp_if (c := .eq) 63 rfl rfl rfl (sg32 _ _) (fun q => ?_) (fun q => ?_)
    · have q : (V (p0 + 2) x5) = 0 := sg_eq.mp q
      replace w := w.1 q
      show wpv K_X0_fillParts d P 63 [some (4, (p0 : Int)), some (4, (p1 : Int)), some (0, x2), some (2, x3), none, some (0, x5)] [] G R V
      obtain ⟨s13, w⟩ := w
      refine wp_inc (x := 5) (k := 1) (a := x5) (c := (x5 + 1)) _ rfl rfl rfl rfl s13 (by omega) rfl ?_
      show wpv K_X0_fillParts d P 66 [some (4, (p0 : Int)), some (4, (p1 : Int)), some (0, x2), some (2, x3), none, some (0, (x5 + 1))] [] G R V
      refine wp_go 23 rfl rfl rfl (?_ : wpv K_X0_fillParts d P 23 [some (4, (p0 : Int)), some (4, (p1 : Int)), some (0, x2), some (2, x3), none, some (0, (x5 + 1))] [] G R V)
      exact wp_wk (wk_s (wk_s (wk_s (wk_s (wk_n (wk_s wk_0)))))) w
    · have q : ¬ (V (p0 + 2) x5) = 0 := fun z => q (sg_eq.mpr z)
      replace w := w.2 q
      show wpv K_X0_fillParts d P 44 [some (4, (p0 : Int)), some (4, (p1 : Int)), some (0, x2), some (2, x3), none, some (0, x5)] [] G R V
      refine wp_ld (i := (.lload_n 3)) (2, x3) rfl rfl (fun _ => rfl) rfl rfl (?_ : wpv K_X0_fillParts d P 45 [some (4, (p0 : Int)), some (4, (p1 : Int)), some (0, x2), some (2, x3), none, some (0, x5)] [(2, x3)] G R V)
      refine wp_ld (i := (.aload_n 0)) (4, (p0 : Int)) rfl rfl (fun _ => rfl) rfl rfl (?_ : wpv K_X0_fillParts d P 46 [some (4, (p0 : Int)), some (4, (p1 : Int)), some (0, x2), some (2, x3), none, some (0, x5)] [(4, (p0 : Int)), (2, x3)] G R V)
      refine wp_getA (k := 1) rfl rfl rfl (ly0_o l0) rfl rfl (ly0_1 l0).1 (?_ : wpv K_X0_fillParts d P 49 [some (4, (p0 : Int)), some (4, (p1 : Int)), some (0, x2), some (2, x3), none, some (0, x5)] [(4, ((p0 + 2 : Nat) : Int)), (2, x3)] G R V)
      refine wp_ld (i := (.iload 5)) (0, x5) rfl rfl (fun _ => rfl) rfl rfl (?_ : wpv K_X0_fillParts d P 51 [some (4, (p0 : Int)), some (4, (p1 : Int)), some (0, x2), some (2, x3), none, some (0, x5)] [(0, x5), (4, ((p0 + 2 : Nat) : Int)), (2, x3)] G R V)
      refine wp_aJ rfl rfl (ly0_1 l0).2 s11 (?_ : wpv K_X0_fillParts d P 52 [some (4, (p0 : Int)), some (4, (p1 : Int)), some (0, x2), some (2, x3), none, some (0, x5)] [(2, (V (p0 + 2) x5)), (2, x3)] G R V)
      refine wp_ld (i := (.aload_n 1)) (4, (p1 : Int)) rfl rfl (fun _ => rfl) rfl rfl (?_ : wpv K_X0_fillParts d P 53 [some (4, (p0 : Int)), some (4, (p1 : Int)), some (0, x2), some (2, x3), none, some (0, x5)] [(4, (p1 : Int)), (2, (V (p0 + 2) x5)), (2, x3)] G R V)
      refine wp_ld (i := (.iload 5)) (0, x5) rfl rfl (fun _ => rfl) rfl rfl (?_ : wpv K_X0_fillParts d P 55 [some (4, (p0 : Int)), some (4, (p1 : Int)), some (0, x2), some (2, x3), none, some (0, x5)] [(0, x5), (4, (p1 : Int)), (2, (V (p0 + 2) x5)), (2, x3)] G R V)
      refine wp_ld (i := (.iload_n 2)) (0, x2) rfl rfl (fun _ => rfl) rfl rfl (?_ : wpv K_X0_fillParts d P 56 [some (4, (p0 : Int)), some (4, (p1 : Int)), some (0, x2), some (2, x3), none, some (0, x5)] [(0, x2), (0, x5), (4, (p1 : Int)), (2, (V (p0 + 2) x5)), (2, x3)] G R V)
      refine wp_virt (as := [(0, x5), (0, x2)]) (a := p1) (st := [(2, (V (p0 + 2) x5)), (2, x3)]) _ rfl rfl rfl rfl rfl rfl (ly4_o l1) (Nat.le_of_ble_eq_true rfl) (cwv_kI w (fun v15 V14 w => ?_))
      show wpv K_X0_fillParts d P 59 [some (4, (p0 : Int)), some (4, (p1 : Int)), some (0, x2), some (2, x3), none, some (0, x5)] [(0, v15), (2, (V (p0 + 2) x5)), (2, x3)] G R V14
      obtain ⟨s16, w⟩ := w
      refine wp_i2l rfl rfl s16 (?_ : wpv K_X0_fillParts d P 60 [some (4, (p0 : Int)), some (4, (p1 : Int)), some (0, x2), some (2, x3), none, some (0, x5)] [(2, v15), (2, (V (p0 + 2) x5)), (2, x3)] G R V14)
      refine wp_jmul rfl rfl (?_ : wpv K_X0_fillParts d P 61 [some (4, (p0 : Int)), some (4, (p1 : Int)), some (0, x2), some (2, x3), none, some (0, x5)] [(2, (jmul ((V (p0 + 2) x5)) v15)), (2, x3)] G R V14)
      refine wp_jsub rfl rfl (?_ : wpv K_X0_fillParts d P 62 [some (4, (p0 : Int)), some (4, (p1 : Int)), some (0, x2), some (2, x3), none, some (0, x5)] [(2, (jsub x3 ((jmul ((V (p0 + 2) x5)) v15))))] G R V14)
      refine wp_lsto (i := (.lstore_n 3)) _ rfl rfl (fun _ => rfl) rfl rfl rfl ?_
      refine wp_wk (L' := [some (4, (p0 : Int)), some (4, (p1 : Int)), some (0, x2), some (2, (jsub x3 ((jmul ((V (p0 + 2) x5)) v15)))), none, some (0, x5)]) (wk_s (wk_s (wk_s (wk_s (wk_n (wk_s wk_0)))))) ?_
      show wpv K_X0_fillParts d P 63 [some (4, (p0 : Int)), some (4, (p1 : Int)), some (0, x2), some (2, (jsub x3 ((jmul ((V (p0 + 2) x5)) v15)))), none, some (0, x5)] [] G R V14
      obtain ⟨s17, w⟩ := w
      refine wp_inc (x := 5) (k := 1) (a := x5) (c := (x5 + 1)) _ rfl rfl rfl rfl s17 (by omega) rfl ?_
      show wpv K_X0_fillParts d P 66 [some (4, (p0 : Int)), some (4, (p1 : Int)), some (0, x2), some (2, (jsub x3 ((jmul ((V (p0 + 2) x5)) v15)))), none, some (0, (x5 + 1))] [] G R V14
      refine wp_go 23 rfl rfl rfl (?_ : wpv K_X0_fillParts d P 23 [some (4, (p0 : Int)), some (4, (p1 : Int)), some (0, x2), some (2, (jsub x3 ((jmul ((V (p0 + 2) x5)) v15)))), none, some (0, (x5 + 1))] [] G R V14)
      exact wp_wk (wk_s (wk_s (wk_s (wk_s (wk_n (wk_s wk_0)))))) w
theorem t_X1_keep_0 {d : Nat} {P : gP} {p0 : Nat} {x1 : Int} {p2 : Nat} {G : List gS} {R V : gV} (l0 : lay1 G R p0) (l2 : lay0 G R p2) (w : ((0 ≤ x1 ∧ x1 < 8) ∧ ((i32 (x1 * 300)) ∧ (∃ b3 : Nat, (R p0 0 = (b3 : Int) ∧ lay2 G R b3) ∧ ((i32 ((wr V (p0 + 1) x1 1) (b3 + 10) 1)) → (((0 : Int) ≤ ((wr V (p0 + 1) x1 1) (b3 + 10) 1) ∧ (0 : Int) ≤ (x1 * 300) ∧ (0 : Int) ≤ 0 ∧ 0 + ((wr V (p0 + 1) x1 1) (b3 + 10) 1) ≤ 300 ∧ (x1 * 300) + ((wr V (p0 + 1) x1 1) (b3 + 10) 1) ≤ 2400) ∧ ((i32 ((cpy (wr V (p0 + 1) x1 1) (p2 + 1) 0 (p0 + 3) ((x1 * 300)) (((wr V (p0 + 1) x1 1) (b3 + 10) 1))) (b3 + 10) 1)) → (((0 : Int) ≤ ((cpy (wr V (p0 + 1) x1 1) (p2 + 1) 0 (p0 + 3) ((x1 * 300)) (((wr V (p0 + 1) x1 1) (b3 + 10) 1))) (b3 + 10) 1) ∧ (0 : Int) ≤ (x1 * 300) ∧ (0 : Int) ≤ 0 ∧ 0 + ((cpy (wr V (p0 + 1) x1 1) (p2 + 1) 0 (p0 + 3) ((x1 * 300)) (((wr V (p0 + 1) x1 1) (b3 + 10) 1))) (b3 + 10) 1) ≤ 300 ∧ (x1 * 300) + ((cpy (wr V (p0 + 1) x1 1) (p2 + 1) 0 (p0 + 3) ((x1 * 300)) (((wr V (p0 + 1) x1 1) (b3 + 10) 1))) (b3 + 10) 1) ≤ 2400) ∧ P none (cpy (cpy (wr V (p0 + 1) x1 1) (p2 + 1) 0 (p0 + 3) ((x1 * 300)) (((wr V (p0 + 1) x1 1) (b3 + 10) 1))) (p2 + 2) 0 (p0 + 4) ((x1 * 300)) (((cpy (wr V (p0 + 1) x1 1) (p2 + 1) 0 (p0 + 3) ((x1 * 300)) (((wr V (p0 + 1) x1 1) (b3 + 10) 1))) (b3 + 10) 1))))))))))) : wpv K_X1_keep d P 0 [some (4, (p0 : Int)), some (0, x1), some (4, (p2 : Int))] [] G R V := by
  refine wp_ld (i := (.aload_n 0)) (4, (p0 : Int)) rfl rfl (fun _ => rfl) rfl rfl (?_ : wpv K_X1_keep d P 1 [some (4, (p0 : Int)), some (0, x1), some (4, (p2 : Int))] [(4, (p0 : Int))] G R V)
  refine wp_getA (k := 1) rfl rfl rfl (ly1_o l0) rfl rfl (ly1_1 l0).1 (?_ : wpv K_X1_keep d P 4 [some (4, (p0 : Int)), some (0, x1), some (4, (p2 : Int))] [(4, ((p0 + 1 : Nat) : Int))] G R V)
  refine wp_ld (i := (.iload_n 1)) (0, x1) rfl rfl (fun _ => rfl) rfl rfl (?_ : wpv K_X1_keep d P 5 [some (4, (p0 : Int)), some (0, x1), some (4, (p2 : Int))] [(0, x1), (4, ((p0 + 1 : Nat) : Int))] G R V)
  refine wp_p (i := (.iconst 1)) rfl rfl (fun _ _ _ => rfl) (?_ : wpv K_X1_keep d P 6 [some (4, (p0 : Int)), some (0, x1), some (4, (p2 : Int))] [(0, 1), (0, x1), (4, ((p0 + 1 : Nat) : Int))] G R V)
  obtain ⟨s1, w⟩ := w
  refine wp_sB rfl rfl (ly1_1 l0).2 s1 (by omega) (?_ : wpv K_X1_keep d P 7 [some (4, (p0 : Int)), some (0, x1), some (4, (p2 : Int))] [] G R (wr V (p0 + 1) x1 1))
  refine wp_ld (i := (.aload_n 2)) (4, (p2 : Int)) rfl rfl (fun _ => rfl) rfl rfl (?_ : wpv K_X1_keep d P 8 [some (4, (p0 : Int)), some (0, x1), some (4, (p2 : Int))] [(4, (p2 : Int))] G R (wr V (p0 + 1) x1 1))
  refine wp_getA (k := 0) rfl rfl rfl (ly0_o l2) rfl rfl (ly0_0 l2).1 (?_ : wpv K_X1_keep d P 11 [some (4, (p0 : Int)), some (0, x1), some (4, (p2 : Int))] [(4, ((p2 + 1 : Nat) : Int))] G R (wr V (p0 + 1) x1 1))
  refine wp_p (i := (.iconst 0)) rfl rfl (fun _ _ _ => rfl) (?_ : wpv K_X1_keep d P 12 [some (4, (p0 : Int)), some (0, x1), some (4, (p2 : Int))] [(0, 0), (4, ((p2 + 1 : Nat) : Int))] G R (wr V (p0 + 1) x1 1))
  refine wp_ld (i := (.aload_n 0)) (4, (p0 : Int)) rfl rfl (fun _ => rfl) rfl rfl (?_ : wpv K_X1_keep d P 13 [some (4, (p0 : Int)), some (0, x1), some (4, (p2 : Int))] [(4, (p0 : Int)), (0, 0), (4, ((p2 + 1 : Nat) : Int))] G R (wr V (p0 + 1) x1 1))
  refine wp_getA (k := 4) rfl rfl rfl (ly1_o l0) rfl rfl (ly1_4 l0).1 (?_ : wpv K_X1_keep d P 16 [some (4, (p0 : Int)), some (0, x1), some (4, (p2 : Int))] [(4, ((p0 + 3 : Nat) : Int)), (0, 0), (4, ((p2 + 1 : Nat) : Int))] G R (wr V (p0 + 1) x1 1))
  refine wp_ld (i := (.iload_n 1)) (0, x1) rfl rfl (fun _ => rfl) rfl rfl (?_ : wpv K_X1_keep d P 17 [some (4, (p0 : Int)), some (0, x1), some (4, (p2 : Int))] [(0, x1), (4, ((p0 + 3 : Nat) : Int)), (0, 0), (4, ((p2 + 1 : Nat) : Int))] G R (wr V (p0 + 1) x1 1))
  refine wp_p (i := (.sipush 300)) rfl rfl (fun _ _ _ => rfl) (?_ : wpv K_X1_keep d P 20 [some (4, (p0 : Int)), some (0, x1), some (4, (p2 : Int))] [(0, 300), (0, x1), (4, ((p0 + 3 : Nat) : Int)), (0, 0), (4, ((p2 + 1 : Nat) : Int))] G R (wr V (p0 + 1) x1 1))
  obtain ⟨s2, w⟩ := w
  refine wp_xmul rfl rfl s2 (?_ : wpv K_X1_keep d P 21 [some (4, (p0 : Int)), some (0, x1), some (4, (p2 : Int))] [(0, (x1 * 300)), (4, ((p0 + 3 : Nat) : Int)), (0, 0), (4, ((p2 + 1 : Nat) : Int))] G R (wr V (p0 + 1) x1 1))
  refine wp_ld (i := (.aload_n 0)) (4, (p0 : Int)) rfl rfl (fun _ => rfl) rfl rfl (?_ : wpv K_X1_keep d P 22 [some (4, (p0 : Int)), some (0, x1), some (4, (p2 : Int))] [(4, (p0 : Int)), (0, (x1 * 300)), (4, ((p0 + 3 : Nat) : Int)), (0, 0), (4, ((p2 + 1 : Nat) : Int))] G R (wr V (p0 + 1) x1 1))
  obtain ⟨b3, ⟨r3, l3_⟩, w⟩ := w
  refine wp_getA (k := 0) rfl rfl rfl (ly1_o l0) rfl rfl r3 (?_ : wpv K_X1_keep d P 25 [some (4, (p0 : Int)), some (0, x1), some (4, (p2 : Int))] [(4, (b3 : Int)), (0, (x1 * 300)), (4, ((p0 + 3 : Nat) : Int)), (0, 0), (4, ((p2 + 1 : Nat) : Int))] G R (wr V (p0 + 1) x1 1))
  refine wp_getA (k := 1) rfl rfl rfl (ly2_o l3_) rfl rfl (ly2_1 l3_).1 (?_ : wpv K_X1_keep d P 28 [some (4, (p0 : Int)), some (0, x1), some (4, (p2 : Int))] [(4, ((b3 + 10 : Nat) : Int)), (0, (x1 * 300)), (4, ((p0 + 3 : Nat) : Int)), (0, 0), (4, ((p2 + 1 : Nat) : Int))] G R (wr V (p0 + 1) x1 1))
  refine wp_rng (fun vr4 => ?_)
  have f5 : i32 ((wr V (p0 + 1) x1 1) (b3 + 10) 1) := vr_f0 vr4 (ly4_o (ly2_1 l3_).2) rfl rfl
  replace w := w f5
  refine wp_getI (k := 1) rfl rfl rfl (ly4_o (ly2_1 l3_).2) rfl rfl (?_ : wpv K_X1_keep d P 31 [some (4, (p0 : Int)), some (0, x1), some (4, (p2 : Int))] [(0, ((wr V (p0 + 1) x1 1) (b3 + 10) 1)), (0, (x1 * 300)), (4, ((p0 + 3 : Nat) : Int)), (0, 0), (4, ((p2 + 1 : Nat) : Int))] G R (wr V (p0 + 1) x1 1))
  obtain ⟨s6, w⟩ := w
  refine wp_copy rfl rfl rfl (Nat.le_of_ble_eq_true rfl) (ly0_0 l2).2 (ly1_4 l0).2 s6 (?_ : wpv K_X1_keep d P 34 [some (4, (p0 : Int)), some (0, x1), some (4, (p2 : Int))] [] G R (cpy (wr V (p0 + 1) x1 1) (p2 + 1) 0 (p0 + 3) ((x1 * 300)) (((wr V (p0 + 1) x1 1) (b3 + 10) 1))))
  refine wp_ld (i := (.aload_n 2)) (4, (p2 : Int)) rfl rfl (fun _ => rfl) rfl rfl (?_ : wpv K_X1_keep d P 35 [some (4, (p0 : Int)), some (0, x1), some (4, (p2 : Int))] [(4, (p2 : Int))] G R (cpy (wr V (p0 + 1) x1 1) (p2 + 1) 0 (p0 + 3) ((x1 * 300)) (((wr V (p0 + 1) x1 1) (b3 + 10) 1))))
  refine wp_getA (k := 1) rfl rfl rfl (ly0_o l2) rfl rfl (ly0_1 l2).1 (?_ : wpv K_X1_keep d P 38 [some (4, (p0 : Int)), some (0, x1), some (4, (p2 : Int))] [(4, ((p2 + 2 : Nat) : Int))] G R (cpy (wr V (p0 + 1) x1 1) (p2 + 1) 0 (p0 + 3) ((x1 * 300)) (((wr V (p0 + 1) x1 1) (b3 + 10) 1))))
  refine wp_p (i := (.iconst 0)) rfl rfl (fun _ _ _ => rfl) (?_ : wpv K_X1_keep d P 39 [some (4, (p0 : Int)), some (0, x1), some (4, (p2 : Int))] [(0, 0), (4, ((p2 + 2 : Nat) : Int))] G R (cpy (wr V (p0 + 1) x1 1) (p2 + 1) 0 (p0 + 3) ((x1 * 300)) (((wr V (p0 + 1) x1 1) (b3 + 10) 1))))
  refine wp_ld (i := (.aload_n 0)) (4, (p0 : Int)) rfl rfl (fun _ => rfl) rfl rfl (?_ : wpv K_X1_keep d P 40 [some (4, (p0 : Int)), some (0, x1), some (4, (p2 : Int))] [(4, (p0 : Int)), (0, 0), (4, ((p2 + 2 : Nat) : Int))] G R (cpy (wr V (p0 + 1) x1 1) (p2 + 1) 0 (p0 + 3) ((x1 * 300)) (((wr V (p0 + 1) x1 1) (b3 + 10) 1))))
  refine wp_getA (k := 5) rfl rfl rfl (ly1_o l0) rfl rfl (ly1_5 l0).1 (?_ : wpv K_X1_keep d P 43 [some (4, (p0 : Int)), some (0, x1), some (4, (p2 : Int))] [(4, ((p0 + 4 : Nat) : Int)), (0, 0), (4, ((p2 + 2 : Nat) : Int))] G R (cpy (wr V (p0 + 1) x1 1) (p2 + 1) 0 (p0 + 3) ((x1 * 300)) (((wr V (p0 + 1) x1 1) (b3 + 10) 1))))
  refine wp_ld (i := (.iload_n 1)) (0, x1) rfl rfl (fun _ => rfl) rfl rfl (?_ : wpv K_X1_keep d P 44 [some (4, (p0 : Int)), some (0, x1), some (4, (p2 : Int))] [(0, x1), (4, ((p0 + 4 : Nat) : Int)), (0, 0), (4, ((p2 + 2 : Nat) : Int))] G R (cpy (wr V (p0 + 1) x1 1) (p2 + 1) 0 (p0 + 3) ((x1 * 300)) (((wr V (p0 + 1) x1 1) (b3 + 10) 1))))
  refine wp_p (i := (.sipush 300)) rfl rfl (fun _ _ _ => rfl) (?_ : wpv K_X1_keep d P 47 [some (4, (p0 : Int)), some (0, x1), some (4, (p2 : Int))] [(0, 300), (0, x1), (4, ((p0 + 4 : Nat) : Int)), (0, 0), (4, ((p2 + 2 : Nat) : Int))] G R (cpy (wr V (p0 + 1) x1 1) (p2 + 1) 0 (p0 + 3) ((x1 * 300)) (((wr V (p0 + 1) x1 1) (b3 + 10) 1))))
  refine wp_xmul rfl rfl s2 (?_ : wpv K_X1_keep d P 48 [some (4, (p0 : Int)), some (0, x1), some (4, (p2 : Int))] [(0, (x1 * 300)), (4, ((p0 + 4 : Nat) : Int)), (0, 0), (4, ((p2 + 2 : Nat) : Int))] G R (cpy (wr V (p0 + 1) x1 1) (p2 + 1) 0 (p0 + 3) ((x1 * 300)) (((wr V (p0 + 1) x1 1) (b3 + 10) 1))))
  refine wp_ld (i := (.aload_n 0)) (4, (p0 : Int)) rfl rfl (fun _ => rfl) rfl rfl (?_ : wpv K_X1_keep d P 49 [some (4, (p0 : Int)), some (0, x1), some (4, (p2 : Int))] [(4, (p0 : Int)), (0, (x1 * 300)), (4, ((p0 + 4 : Nat) : Int)), (0, 0), (4, ((p2 + 2 : Nat) : Int))] G R (cpy (wr V (p0 + 1) x1 1) (p2 + 1) 0 (p0 + 3) ((x1 * 300)) (((wr V (p0 + 1) x1 1) (b3 + 10) 1))))
  refine wp_getA (k := 0) rfl rfl rfl (ly1_o l0) rfl rfl r3 (?_ : wpv K_X1_keep d P 52 [some (4, (p0 : Int)), some (0, x1), some (4, (p2 : Int))] [(4, (b3 : Int)), (0, (x1 * 300)), (4, ((p0 + 4 : Nat) : Int)), (0, 0), (4, ((p2 + 2 : Nat) : Int))] G R (cpy (wr V (p0 + 1) x1 1) (p2 + 1) 0 (p0 + 3) ((x1 * 300)) (((wr V (p0 + 1) x1 1) (b3 + 10) 1))))
  refine wp_getA (k := 1) rfl rfl rfl (ly2_o l3_) rfl rfl (ly2_1 l3_).1 (?_ : wpv K_X1_keep d P 55 [some (4, (p0 : Int)), some (0, x1), some (4, (p2 : Int))] [(4, ((b3 + 10 : Nat) : Int)), (0, (x1 * 300)), (4, ((p0 + 4 : Nat) : Int)), (0, 0), (4, ((p2 + 2 : Nat) : Int))] G R (cpy (wr V (p0 + 1) x1 1) (p2 + 1) 0 (p0 + 3) ((x1 * 300)) (((wr V (p0 + 1) x1 1) (b3 + 10) 1))))
  refine wp_rng (fun vr7 => ?_)
  have f8 : i32 ((cpy (wr V (p0 + 1) x1 1) (p2 + 1) 0 (p0 + 3) ((x1 * 300)) (((wr V (p0 + 1) x1 1) (b3 + 10) 1))) (b3 + 10) 1) := vr_f0 vr7 (ly4_o (ly2_1 l3_).2) rfl rfl
  replace w := w f8
  refine wp_getI (k := 1) rfl rfl rfl (ly4_o (ly2_1 l3_).2) rfl rfl (?_ : wpv K_X1_keep d P 58 [some (4, (p0 : Int)), some (0, x1), some (4, (p2 : Int))] [(0, ((cpy (wr V (p0 + 1) x1 1) (p2 + 1) 0 (p0 + 3) ((x1 * 300)) (((wr V (p0 + 1) x1 1) (b3 + 10) 1))) (b3 + 10) 1)), (0, (x1 * 300)), (4, ((p0 + 4 : Nat) : Int)), (0, 0), (4, ((p2 + 2 : Nat) : Int))] G R (cpy (wr V (p0 + 1) x1 1) (p2 + 1) 0 (p0 + 3) ((x1 * 300)) (((wr V (p0 + 1) x1 1) (b3 + 10) 1))))
  obtain ⟨s9, w⟩ := w
  refine wp_copy rfl rfl rfl (Nat.le_of_ble_eq_true rfl) (ly0_1 l2).2 (ly1_5 l0).2 s9 (?_ : wpv K_X1_keep d P 61 [some (4, (p0 : Int)), some (0, x1), some (4, (p2 : Int))] [] G R (cpy (cpy (wr V (p0 + 1) x1 1) (p2 + 1) 0 (p0 + 3) ((x1 * 300)) (((wr V (p0 + 1) x1 1) (b3 + 10) 1))) (p2 + 2) 0 (p0 + 4) ((x1 * 300)) (((cpy (wr V (p0 + 1) x1 1) (p2 + 1) 0 (p0 + 3) ((x1 * 300)) (((wr V (p0 + 1) x1 1) (b3 + 10) 1))) (b3 + 10) 1))))
  exact wp_r0 rfl rfl rfl w
theorem t_X1_actsThere_0 {d : Nat} {P : gP} {p0 : Nat} {G : List gS} {R V : gV} (l0 : lay1 G R p0) (w : wpv K_X1_actsThere d P 4 [some (4, (p0 : Int)), some (0, 0), some (0, 0)] [] G R V) : wpv K_X1_actsThere d P 0 [some (4, (p0 : Int))] [] G R V := by
  refine wp_p (i := (.iconst 0)) rfl rfl (fun _ _ _ => rfl) (?_ : wpv K_X1_actsThere d P 1 [some (4, (p0 : Int))] [(0, 0)] G R V)
  refine wp_sto (i := (.istore_n 1)) _ rfl rfl (fun _ => rfl) rfl rfl rfl ?_
  refine wp_wk (L' := [some (4, (p0 : Int)), some (0, 0)]) (wk_s (wk_s wk_0)) ?_
  show wpv K_X1_actsThere d P 2 [some (4, (p0 : Int)), some (0, 0)] [] G R V
  refine wp_p (i := (.iconst 0)) rfl rfl (fun _ _ _ => rfl) (?_ : wpv K_X1_actsThere d P 3 [some (4, (p0 : Int)), some (0, 0)] [(0, 0)] G R V)
  refine wp_sto (i := (.istore_n 2)) _ rfl rfl (fun _ => rfl) rfl rfl rfl ?_
  refine wp_wk (L' := [some (4, (p0 : Int)), some (0, 0), some (0, 0)]) (wk_s (wk_s (wk_s wk_0))) ?_
  show wpv K_X1_actsThere d P 4 [some (4, (p0 : Int)), some (0, 0), some (0, 0)] [] G R V
  exact wp_wk (wk_s (wk_s (wk_s wk_0))) w

theorem t_X1_actsThere_4 {d : Nat} {P : gP} {p0 : Nat} {x1 : Int} {x2 : Int} {G : List gS} {R V : gV} (l0 : lay1 G R p0) (w : ((i32 x2) ∧ (((¬ x2 < 8) → P (some (0, x1)) V) ∧ ((x2 < 8) → ((0 ≤ x2 ∧ x2 < 8) ∧ (((V (p0 + 1) x2) = 0 ∨ (V (p0 + 1) x2) = 1) → ((((V (p0 + 1) x2) = 0) → ((i32 (x2 + 1)) ∧ wpv K_X1_actsThere d P 4 [some (4, (p0 : Int)), some (0, x1), some (0, (x2 + 1))] [] G R V)) ∧ ((¬ (V (p0 + 1) x2) = 0) → ((i32 (x1 + 1)) ∧ ((i32 (x2 + 1)) ∧ wpv K_X1_actsThere d P 4 [some (4, (p0 : Int)), some (0, (x1 + 1)), some (0, (x2 + 1))] [] G R V)))))))))) : wpv K_X1_actsThere d P 4 [some (4, (p0 : Int)), some (0, x1), some (0, x2)] [] G R V := by
  refine wp_ld (i := (.iload_n 2)) (0, x2) rfl rfl (fun _ => rfl) rfl rfl (?_ : wpv K_X1_actsThere d P 5 [some (4, (p0 : Int)), some (0, x1), some (0, x2)] [(0, x2)] G R V)
  refine wp_p (i := (.bipush 8)) rfl rfl (fun _ _ _ => rfl) (?_ : wpv K_X1_actsThere d P 7 [some (4, (p0 : Int)), some (0, x1), some (0, x2)] [(0, 8), (0, x2)] G R V)
  obtain ⟨s1, w⟩ := w
  refine wp_icmp (c := .ge) 28 rfl rfl rfl s1 ⟨by omega, by omega⟩ (fun q => ?_) (fun q => ?_)
  · have q : ¬ x2 < 8 := q
    replace w := w.1 q
    show wpv K_X1_actsThere d P 28 [some (4, (p0 : Int)), some (0, x1), some (0, x2)] [] G R V
    refine wp_ld (i := (.iload_n 1)) (0, x1) rfl rfl (fun _ => rfl) rfl rfl (?_ : wpv K_X1_actsThere d P 29 [some (4, (p0 : Int)), some (0, x1), some (0, x2)] [(0, x1)] G R V)
    exact wp_rI rfl rfl rfl w
  · have q : x2 < 8 := Decidable.not_not.mp q
    replace w := w.2 q
    show wpv K_X1_actsThere d P 10 [some (4, (p0 : Int)), some (0, x1), some (0, x2)] [] G R V
    refine wp_ld (i := (.aload_n 0)) (4, (p0 : Int)) rfl rfl (fun _ => rfl) rfl rfl (?_ : wpv K_X1_actsThere d P 11 [some (4, (p0 : Int)), some (0, x1), some (0, x2)] [(4, (p0 : Int))] G R V)
    refine wp_getA (k := 1) rfl rfl rfl (ly1_o l0) rfl rfl (ly1_1 l0).1 (?_ : wpv K_X1_actsThere d P 14 [some (4, (p0 : Int)), some (0, x1), some (0, x2)] [(4, ((p0 + 1 : Nat) : Int))] G R V)
    refine wp_ld (i := (.iload_n 2)) (0, x2) rfl rfl (fun _ => rfl) rfl rfl (?_ : wpv K_X1_actsThere d P 15 [some (4, (p0 : Int)), some (0, x1), some (0, x2)] [(0, x2), (4, ((p0 + 1 : Nat) : Int))] G R V)
    obtain ⟨s2, w⟩ := w
    refine wp_rng (fun vr3 => ?_)
    have f4 : (V (p0 + 1) x2) = 0 ∨ (V (p0 + 1) x2) = 1 := vr_a2 vr3 (ly1_1 l0).2 s2
    replace w := w f4
    have f5 : i32 (V (p0 + 1) x2) := by unfold i32; omega
    refine wp_aB rfl rfl (ly1_1 l0).2 s2 (?_ : wpv K_X1_actsThere d P 16 [some (4, (p0 : Int)), some (0, x1), some (0, x2)] [(0, (V (p0 + 1) x2))] G R V)
    refine wp_if (c := .eq) 22 rfl rfl rfl f5 (fun q => ?_) (fun q => ?_)
    · have q : (V (p0 + 1) x2) = 0 := q
      replace w := w.1 q
      show wpv K_X1_actsThere d P 22 [some (4, (p0 : Int)), some (0, x1), some (0, x2)] [] G R V
      obtain ⟨s6, w⟩ := w
      refine wp_inc (x := 2) (k := 1) (a := x2) (c := (x2 + 1)) _ rfl rfl rfl rfl s6 (by omega) rfl ?_
      show wpv K_X1_actsThere d P 25 [some (4, (p0 : Int)), some (0, x1), some (0, (x2 + 1))] [] G R V
      refine wp_go 4 rfl rfl rfl (?_ : wpv K_X1_actsThere d P 4 [some (4, (p0 : Int)), some (0, x1), some (0, (x2 + 1))] [] G R V)
      exact wp_wk (wk_s (wk_s (wk_s wk_0))) w
    · have q : ¬ (V (p0 + 1) x2) = 0 := q
      replace w := w.2 q
      show wpv K_X1_actsThere d P 19 [some (4, (p0 : Int)), some (0, x1), some (0, x2)] [] G R V
      obtain ⟨s7, w⟩ := w
      refine wp_inc (x := 1) (k := 1) (a := x1) (c := (x1 + 1)) _ rfl rfl rfl rfl s7 (by omega) rfl ?_
      show wpv K_X1_actsThere d P 22 [some (4, (p0 : Int)), some (0, (x1 + 1)), some (0, x2)] [] G R V
      obtain ⟨s8, w⟩ := w
      refine wp_inc (x := 2) (k := 1) (a := x2) (c := (x2 + 1)) _ rfl rfl rfl rfl s8 (by omega) rfl ?_
      show wpv K_X1_actsThere d P 25 [some (4, (p0 : Int)), some (0, (x1 + 1)), some (0, (x2 + 1))] [] G R V
      refine wp_go 4 rfl rfl rfl (?_ : wpv K_X1_actsThere d P 4 [some (4, (p0 : Int)), some (0, (x1 + 1)), some (0, (x2 + 1))] [] G R V)
      exact wp_wk (wk_s (wk_s (wk_s wk_0))) w
theorem t_X1_markOf_0 {d : Nat} {P : gP} {p0 : Nat} {x1 : Int} {x2 : Int} {G : List gS} {R V : gV} (l0 : lay1 G R p0) (w : ((i32 (x1 * 300)) ∧ ((i32 ((x1 * 300) + x2)) ∧ ((0 ≤ ((x1 * 300) + x2) ∧ ((x1 * 300) + x2) < 2400) ∧ ((i64 (V (p0 + 3) (((x1 * 300) + x2)))) → P (some (2, (V (p0 + 3) (((x1 * 300) + x2))))) V))))) : wpv K_X1_markOf d P 0 [some (4, (p0 : Int)), some (0, x1), some (0, x2)] [] G R V := by
  refine wp_ld (i := (.aload_n 0)) (4, (p0 : Int)) rfl rfl (fun _ => rfl) rfl rfl (?_ : wpv K_X1_markOf d P 1 [some (4, (p0 : Int)), some (0, x1), some (0, x2)] [(4, (p0 : Int))] G R V)
  refine wp_getA (k := 4) rfl rfl rfl (ly1_o l0) rfl rfl (ly1_4 l0).1 (?_ : wpv K_X1_markOf d P 4 [some (4, (p0 : Int)), some (0, x1), some (0, x2)] [(4, ((p0 + 3 : Nat) : Int))] G R V)
  refine wp_ld (i := (.iload_n 1)) (0, x1) rfl rfl (fun _ => rfl) rfl rfl (?_ : wpv K_X1_markOf d P 5 [some (4, (p0 : Int)), some (0, x1), some (0, x2)] [(0, x1), (4, ((p0 + 3 : Nat) : Int))] G R V)
  refine wp_p (i := (.sipush 300)) rfl rfl (fun _ _ _ => rfl) (?_ : wpv K_X1_markOf d P 8 [some (4, (p0 : Int)), some (0, x1), some (0, x2)] [(0, 300), (0, x1), (4, ((p0 + 3 : Nat) : Int))] G R V)
  obtain ⟨s1, w⟩ := w
  refine wp_xmul rfl rfl s1 (?_ : wpv K_X1_markOf d P 9 [some (4, (p0 : Int)), some (0, x1), some (0, x2)] [(0, (x1 * 300)), (4, ((p0 + 3 : Nat) : Int))] G R V)
  refine wp_ld (i := (.iload_n 2)) (0, x2) rfl rfl (fun _ => rfl) rfl rfl (?_ : wpv K_X1_markOf d P 10 [some (4, (p0 : Int)), some (0, x1), some (0, x2)] [(0, x2), (0, (x1 * 300)), (4, ((p0 + 3 : Nat) : Int))] G R V)
  obtain ⟨s2, w⟩ := w
  refine wp_xadd rfl rfl s2 (?_ : wpv K_X1_markOf d P 11 [some (4, (p0 : Int)), some (0, x1), some (0, x2)] [(0, ((x1 * 300) + x2)), (4, ((p0 + 3 : Nat) : Int))] G R V)
  obtain ⟨s3, w⟩ := w
  refine wp_rng (fun vr4 => ?_)
  have f5 : i64 (V (p0 + 3) (((x1 * 300) + x2))) := vr_a1 vr4 (ly1_4 l0).2 s3
  replace w := w f5
  refine wp_aJ rfl rfl (ly1_4 l0).2 s3 (?_ : wpv K_X1_markOf d P 12 [some (4, (p0 : Int)), some (0, x1), some (0, x2)] [(2, (V (p0 + 3) (((x1 * 300) + x2))))] G R V)
  exact wp_rJ rfl rfl rfl w
theorem t_X1_partOf_0 {d : Nat} {P : gP} {p0 : Nat} {x1 : Int} {x2 : Int} {G : List gS} {R V : gV} (l0 : lay1 G R p0) (w : ((i32 (x1 * 300)) ∧ ((i32 ((x1 * 300) + x2)) ∧ ((0 ≤ ((x1 * 300) + x2) ∧ ((x1 * 300) + x2) < 2400) ∧ ((i64 (V (p0 + 4) (((x1 * 300) + x2)))) → P (some (2, (V (p0 + 4) (((x1 * 300) + x2))))) V))))) : wpv K_X1_partOf d P 0 [some (4, (p0 : Int)), some (0, x1), some (0, x2)] [] G R V := by
  refine wp_ld (i := (.aload_n 0)) (4, (p0 : Int)) rfl rfl (fun _ => rfl) rfl rfl (?_ : wpv K_X1_partOf d P 1 [some (4, (p0 : Int)), some (0, x1), some (0, x2)] [(4, (p0 : Int))] G R V)
  refine wp_getA (k := 5) rfl rfl rfl (ly1_o l0) rfl rfl (ly1_5 l0).1 (?_ : wpv K_X1_partOf d P 4 [some (4, (p0 : Int)), some (0, x1), some (0, x2)] [(4, ((p0 + 4 : Nat) : Int))] G R V)
  refine wp_ld (i := (.iload_n 1)) (0, x1) rfl rfl (fun _ => rfl) rfl rfl (?_ : wpv K_X1_partOf d P 5 [some (4, (p0 : Int)), some (0, x1), some (0, x2)] [(0, x1), (4, ((p0 + 4 : Nat) : Int))] G R V)
  refine wp_p (i := (.sipush 300)) rfl rfl (fun _ _ _ => rfl) (?_ : wpv K_X1_partOf d P 8 [some (4, (p0 : Int)), some (0, x1), some (0, x2)] [(0, 300), (0, x1), (4, ((p0 + 4 : Nat) : Int))] G R V)
  obtain ⟨s1, w⟩ := w
  refine wp_xmul rfl rfl s1 (?_ : wpv K_X1_partOf d P 9 [some (4, (p0 : Int)), some (0, x1), some (0, x2)] [(0, (x1 * 300)), (4, ((p0 + 4 : Nat) : Int))] G R V)
  refine wp_ld (i := (.iload_n 2)) (0, x2) rfl rfl (fun _ => rfl) rfl rfl (?_ : wpv K_X1_partOf d P 10 [some (4, (p0 : Int)), some (0, x1), some (0, x2)] [(0, x2), (0, (x1 * 300)), (4, ((p0 + 4 : Nat) : Int))] G R V)
  obtain ⟨s2, w⟩ := w
  refine wp_xadd rfl rfl s2 (?_ : wpv K_X1_partOf d P 11 [some (4, (p0 : Int)), some (0, x1), some (0, x2)] [(0, ((x1 * 300) + x2)), (4, ((p0 + 4 : Nat) : Int))] G R V)
  obtain ⟨s3, w⟩ := w
  refine wp_rng (fun vr4 => ?_)
  have f5 : i64 (V (p0 + 4) (((x1 * 300) + x2))) := vr_a1 vr4 (ly1_5 l0).2 s3
  replace w := w f5
  refine wp_aJ rfl rfl (ly1_5 l0).2 s3 (?_ : wpv K_X1_partOf d P 12 [some (4, (p0 : Int)), some (0, x1), some (0, x2)] [(2, (V (p0 + 4) (((x1 * 300) + x2))))] G R V)
  exact wp_rJ rfl rfl rfl w
theorem t_X1_placesOf_0 {d : Nat} {P : gP} {p0 : Nat} {x1 : Int} {G : List gS} {R V : gV} (l0 : lay1 G R p0) (w : cwv d (fun r V1 => ∃ v2 : Int, r = some (2, v2) ∧ P (some (2, v2)) V1) 21 [(4, (p0 : Int)), (0, x1), (0, 0)] G R V) : wpv K_X1_placesOf d P 0 [some (4, (p0 : Int)), some (0, x1)] [] G R V := by
  refine wp_ld (i := (.aload_n 0)) (4, (p0 : Int)) rfl rfl (fun _ => rfl) rfl rfl (?_ : wpv K_X1_placesOf d P 1 [some (4, (p0 : Int)), some (0, x1)] [(4, (p0 : Int))] G R V)
  refine wp_ld (i := (.iload_n 1)) (0, x1) rfl rfl (fun _ => rfl) rfl rfl (?_ : wpv K_X1_placesOf d P 2 [some (4, (p0 : Int)), some (0, x1)] [(0, x1), (4, (p0 : Int))] G R V)
  refine wp_p (i := (.iconst 0)) rfl rfl (fun _ _ _ => rfl) (?_ : wpv K_X1_placesOf d P 3 [some (4, (p0 : Int)), some (0, x1)] [(0, 0), (0, x1), (4, (p0 : Int))] G R V)
  refine wp_virt (as := [(0, x1), (0, 0)]) (a := p0) (st := []) _ rfl rfl rfl rfl rfl rfl (ly1_o l0) (Nat.le_of_ble_eq_true rfl) (cwv_kJ w (fun v2 V1 w => ?_))
  show wpv K_X1_placesOf d P 6 [some (4, (p0 : Int)), some (0, x1)] [(2, v2)] G R V1
  exact wp_rJ rfl rfl rfl w
theorem t_X1_allParts_0 {d : Nat} {P : gP} {p0 : Nat} {x1 : Int} {G : List gS} {R V : gV} (l0 : lay1 G R p0) (w : wpv K_X1_allParts d P 5 [some (4, (p0 : Int)), some (0, x1), some (2, 0), none, some (0, 0)] [] G R V) : wpv K_X1_allParts d P 0 [some (4, (p0 : Int)), some (0, x1)] [] G R V := by
  refine wp_p (i := (.lconst 0)) rfl rfl (fun _ _ _ => rfl) (?_ : wpv K_X1_allParts d P 1 [some (4, (p0 : Int)), some (0, x1)] [(2, 0)] G R V)
  refine wp_lsto (i := (.lstore_n 2)) _ rfl rfl (fun _ => rfl) rfl rfl rfl ?_
  refine wp_wk (L' := [some (4, (p0 : Int)), some (0, x1), some (2, 0)]) (wk_s (wk_s (wk_s wk_0))) ?_
  show wpv K_X1_allParts d P 2 [some (4, (p0 : Int)), some (0, x1), some (2, 0)] [] G R V
  refine wp_p (i := (.iconst 0)) rfl rfl (fun _ _ _ => rfl) (?_ : wpv K_X1_allParts d P 3 [some (4, (p0 : Int)), some (0, x1), some (2, 0)] [(0, 0)] G R V)
  refine wp_sto (i := (.istore 4)) _ rfl rfl (fun _ => rfl) rfl rfl rfl ?_
  refine wp_wk (L' := [some (4, (p0 : Int)), some (0, x1), some (2, 0), none, some (0, 0)]) (wk_s (wk_s (wk_s (wk_n (wk_s wk_0))))) ?_
  show wpv K_X1_allParts d P 5 [some (4, (p0 : Int)), some (0, x1), some (2, 0), none, some (0, 0)] [] G R V
  exact wp_wk (wk_s (wk_s (wk_s (wk_n (wk_s wk_0))))) w

theorem t_X1_allParts_5 {d : Nat} {P : gP} {p0 : Nat} {x1 : Int} {x2 : Int} {x4 : Int} {G : List gS} {R V : gV} (l0 : lay1 G R p0) (w : (∃ b1 : Nat, (R p0 0 = (b1 : Int) ∧ lay2 G R b1) ∧ ((i32 (V (b1 + 10) 1)) → ((i32 x4) ∧ (((¬ x4 < (V (b1 + 10) 1)) → P (some (2, x2)) V) ∧ ((x4 < (V (b1 + 10) 1)) → cwv d (fun r V5 => ∃ v6 : Int, r = some (2, v6) ∧ ((i32 (x4 + 1)) ∧ wpv K_X1_allParts d P 5 [some (4, (p0 : Int)), some (0, x1), some (2, (jadd x2 v6)), none, some (0, (x4 + 1))] [] G R V5)) 22 [(4, (p0 : Int)), (0, x1), (0, x4)] G R V)))))) : wpv K_X1_allParts d P 5 [some (4, (p0 : Int)), some (0, x1), some (2, x2), none, some (0, x4)] [] G R V := by
  refine wp_ld (i := (.iload 4)) (0, x4) rfl rfl (fun _ => rfl) rfl rfl (?_ : wpv K_X1_allParts d P 7 [some (4, (p0 : Int)), some (0, x1), some (2, x2), none, some (0, x4)] [(0, x4)] G R V)
  refine wp_ld (i := (.aload_n 0)) (4, (p0 : Int)) rfl rfl (fun _ => rfl) rfl rfl (?_ : wpv K_X1_allParts d P 8 [some (4, (p0 : Int)), some (0, x1), some (2, x2), none, some (0, x4)] [(4, (p0 : Int)), (0, x4)] G R V)
  obtain ⟨b1, ⟨r1, l1_⟩, w⟩ := w
  refine wp_getA (k := 0) rfl rfl rfl (ly1_o l0) rfl rfl r1 (?_ : wpv K_X1_allParts d P 11 [some (4, (p0 : Int)), some (0, x1), some (2, x2), none, some (0, x4)] [(4, (b1 : Int)), (0, x4)] G R V)
  refine wp_getA (k := 1) rfl rfl rfl (ly2_o l1_) rfl rfl (ly2_1 l1_).1 (?_ : wpv K_X1_allParts d P 14 [some (4, (p0 : Int)), some (0, x1), some (2, x2), none, some (0, x4)] [(4, ((b1 + 10 : Nat) : Int)), (0, x4)] G R V)
  refine wp_rng (fun vr2 => ?_)
  have f3 : i32 (V (b1 + 10) 1) := vr_f0 vr2 (ly4_o (ly2_1 l1_).2) rfl rfl
  replace w := w f3
  refine wp_getI (k := 1) rfl rfl rfl (ly4_o (ly2_1 l1_).2) rfl rfl (?_ : wpv K_X1_allParts d P 17 [some (4, (p0 : Int)), some (0, x1), some (2, x2), none, some (0, x4)] [(0, (V (b1 + 10) 1)), (0, x4)] G R V)
  obtain ⟨s4, w⟩ := w
  refine wp_icmp (c := .ge) 36 rfl rfl rfl s4 f3 (fun q => ?_) (fun q => ?_)
  · have q : ¬ x4 < (V (b1 + 10) 1) := q
    replace w := w.1 q
    show wpv K_X1_allParts d P 36 [some (4, (p0 : Int)), some (0, x1), some (2, x2), none, some (0, x4)] [] G R V
    refine wp_ld (i := (.lload_n 2)) (2, x2) rfl rfl (fun _ => rfl) rfl rfl (?_ : wpv K_X1_allParts d P 37 [some (4, (p0 : Int)), some (0, x1), some (2, x2), none, some (0, x4)] [(2, x2)] G R V)
    exact wp_rJ rfl rfl rfl w
  · have q : x4 < (V (b1 + 10) 1) := Decidable.not_not.mp q
    replace w := w.2 q
    show wpv K_X1_allParts d P 20 [some (4, (p0 : Int)), some (0, x1), some (2, x2), none, some (0, x4)] [] G R V
    refine wp_ld (i := (.lload_n 2)) (2, x2) rfl rfl (fun _ => rfl) rfl rfl (?_ : wpv K_X1_allParts d P 21 [some (4, (p0 : Int)), some (0, x1), some (2, x2), none, some (0, x4)] [(2, x2)] G R V)
    refine wp_ld (i := (.aload_n 0)) (4, (p0 : Int)) rfl rfl (fun _ => rfl) rfl rfl (?_ : wpv K_X1_allParts d P 22 [some (4, (p0 : Int)), some (0, x1), some (2, x2), none, some (0, x4)] [(4, (p0 : Int)), (2, x2)] G R V)
    refine wp_ld (i := (.iload_n 1)) (0, x1) rfl rfl (fun _ => rfl) rfl rfl (?_ : wpv K_X1_allParts d P 23 [some (4, (p0 : Int)), some (0, x1), some (2, x2), none, some (0, x4)] [(0, x1), (4, (p0 : Int)), (2, x2)] G R V)
    refine wp_ld (i := (.iload 4)) (0, x4) rfl rfl (fun _ => rfl) rfl rfl (?_ : wpv K_X1_allParts d P 25 [some (4, (p0 : Int)), some (0, x1), some (2, x2), none, some (0, x4)] [(0, x4), (0, x1), (4, (p0 : Int)), (2, x2)] G R V)
    refine wp_virt (as := [(0, x1), (0, x4)]) (a := p0) (st := [(2, x2)]) _ rfl rfl rfl rfl rfl rfl (ly1_o l0) (Nat.le_of_ble_eq_true rfl) (cwv_kJ w (fun v6 V5 w => ?_))
    show wpv K_X1_allParts d P 28 [some (4, (p0 : Int)), some (0, x1), some (2, x2), none, some (0, x4)] [(2, v6), (2, x2)] G R V5
    refine wp_jadd rfl rfl (?_ : wpv K_X1_allParts d P 29 [some (4, (p0 : Int)), some (0, x1), some (2, x2), none, some (0, x4)] [(2, (jadd x2 v6))] G R V5)
    refine wp_lsto (i := (.lstore_n 2)) _ rfl rfl (fun _ => rfl) rfl rfl rfl ?_
    refine wp_wk (L' := [some (4, (p0 : Int)), some (0, x1), some (2, (jadd x2 v6)), none, some (0, x4)]) (wk_s (wk_s (wk_s (wk_n (wk_s wk_0))))) ?_
    show wpv K_X1_allParts d P 30 [some (4, (p0 : Int)), some (0, x1), some (2, (jadd x2 v6)), none, some (0, x4)] [] G R V5
    obtain ⟨s7, w⟩ := w
    refine wp_inc (x := 4) (k := 1) (a := x4) (c := (x4 + 1)) _ rfl rfl rfl rfl s7 (by omega) rfl ?_
    show wpv K_X1_allParts d P 33 [some (4, (p0 : Int)), some (0, x1), some (2, (jadd x2 v6)), none, some (0, (x4 + 1))] [] G R V5
    refine wp_go 5 rfl rfl rfl (?_ : wpv K_X1_allParts d P 5 [some (4, (p0 : Int)), some (0, x1), some (2, (jadd x2 v6)), none, some (0, (x4 + 1))] [] G R V5)
    exact wp_wk (wk_s (wk_s (wk_s (wk_n (wk_s wk_0))))) w
theorem t_X1_idleHeap_0 {d : Nat} {P : gP} {p0 : Nat} {x1 : Int} {G : List gS} {R V : gV} (l0 : lay1 G R p0) (w : (∃ b1 : Nat, (R p0 0 = (b1 : Int) ∧ lay2 G R b1) ∧ ((i32 (V (b1 + 10) 1)) → ((i32 ((V (b1 + 10) 1) - 1)) ∧ wpv K_X1_idleHeap d P 13 [some (4, (p0 : Int)), some (0, x1), some (0, ((V (b1 + 10) 1) - 1))] [] G R V)))) : wpv K_X1_idleHeap d P 0 [some (4, (p0 : Int)), some (0, x1)] [] G R V := by
  refine wp_ld (i := (.aload_n 0)) (4, (p0 : Int)) rfl rfl (fun _ => rfl) rfl rfl (?_ : wpv K_X1_idleHeap d P 1 [some (4, (p0 : Int)), some (0, x1)] [(4, (p0 : Int))] G R V)
  obtain ⟨b1, ⟨r1, l1_⟩, w⟩ := w
  refine wp_getA (k := 0) rfl rfl rfl (ly1_o l0) rfl rfl r1 (?_ : wpv K_X1_idleHeap d P 4 [some (4, (p0 : Int)), some (0, x1)] [(4, (b1 : Int))] G R V)
  refine wp_getA (k := 1) rfl rfl rfl (ly2_o l1_) rfl rfl (ly2_1 l1_).1 (?_ : wpv K_X1_idleHeap d P 7 [some (4, (p0 : Int)), some (0, x1)] [(4, ((b1 + 10 : Nat) : Int))] G R V)
  refine wp_rng (fun vr2 => ?_)
  have f3 : i32 (V (b1 + 10) 1) := vr_f0 vr2 (ly4_o (ly2_1 l1_).2) rfl rfl
  replace w := w f3
  refine wp_getI (k := 1) rfl rfl rfl (ly4_o (ly2_1 l1_).2) rfl rfl (?_ : wpv K_X1_idleHeap d P 10 [some (4, (p0 : Int)), some (0, x1)] [(0, (V (b1 + 10) 1))] G R V)
  refine wp_p (i := (.iconst 1)) rfl rfl (fun _ _ _ => rfl) (?_ : wpv K_X1_idleHeap d P 11 [some (4, (p0 : Int)), some (0, x1)] [(0, 1), (0, (V (b1 + 10) 1))] G R V)
  obtain ⟨s4, w⟩ := w
  refine wp_xsub rfl rfl s4 (?_ : wpv K_X1_idleHeap d P 12 [some (4, (p0 : Int)), some (0, x1)] [(0, ((V (b1 + 10) 1) - 1))] G R V)
  refine wp_sto (i := (.istore_n 2)) _ rfl rfl (fun _ => rfl) rfl rfl rfl ?_
  refine wp_wk (L' := [some (4, (p0 : Int)), some (0, x1), some (0, ((V (b1 + 10) 1) - 1))]) (wk_s (wk_s (wk_s wk_0))) ?_
  show wpv K_X1_idleHeap d P 13 [some (4, (p0 : Int)), some (0, x1), some (0, ((V (b1 + 10) 1) - 1))] [] G R V
  exact wp_wk (wk_s (wk_s (wk_s wk_0))) w

theorem t_X1_idleHeap_13 {d : Nat} {P : gP} {p0 : Nat} {x1 : Int} {x2 : Int} {G : List gS} {R V : gV} (l0 : lay1 G R p0) (w : ((i32 x2) ∧ (((¬ 0 < x2) → P (some (0, 0)) V) ∧ ((0 < x2) → cwv d (fun r V2 => ∃ v3 : Int, r = some (2, v3) ∧ cwv d (fun r V4 => ∃ v5 : Int, r = some (2, v5) ∧ ((i64 v3) ∧ ((i64 v5) ∧ (((¬ v3 = v5) → ((i32 (x2 - 1)) ∧ wpv K_X1_idleHeap d P 13 [some (4, (p0 : Int)), some (0, x1), some (0, (x2 - 1))] [] G R V4)) ∧ ((v3 = v5) → (∃ b9 : Nat, (R p0 0 = (b9 : Int) ∧ lay2 G R b9) ∧ ((0 ≤ x2 ∧ x2 < 300) ∧ ((i32 (V4 (b9 + 17) x2)) → P (some (0, (V4 (b9 + 17) x2))) V4)))))))) 23 [(4, (p0 : Int)), (0, x1)] G R V2) 21 [(4, (p0 : Int)), (0, x1), (0, x2)] G R V)))) : wpv K_X1_idleHeap d P 13 [some (4, (p0 : Int)), some (0, x1), some (0, x2)] [] G R V := by
  refine wp_ld (i := (.iload_n 2)) (0, x2) rfl rfl (fun _ => rfl) rfl rfl (?_ : wpv K_X1_idleHeap d P 14 [some (4, (p0 : Int)), some (0, x1), some (0, x2)] [(0, x2)] G R V)
  obtain ⟨s1, w⟩ := w
  refine wp_if (c := .le) 51 rfl rfl rfl s1 (fun q => ?_) (fun q => ?_)
  · have q : ¬ 0 < x2 := q
    replace w := w.1 q
    show wpv K_X1_idleHeap d P 51 [some (4, (p0 : Int)), some (0, x1), some (0, x2)] [] G R V
    refine wp_p (i := (.iconst 0)) rfl rfl (fun _ _ _ => rfl) (?_ : wpv K_X1_idleHeap d P 52 [some (4, (p0 : Int)), some (0, x1), some (0, x2)] [(0, 0)] G R V)
    exact wp_rI rfl rfl rfl w
  · have q : 0 < x2 := Decidable.not_not.mp q
    replace w := w.2 q
    show wpv K_X1_idleHeap d P 17 [some (4, (p0 : Int)), some (0, x1), some (0, x2)] [] G R V
    refine wp_ld (i := (.aload_n 0)) (4, (p0 : Int)) rfl rfl (fun _ => rfl) rfl rfl (?_ : wpv K_X1_idleHeap d P 18 [some (4, (p0 : Int)), some (0, x1), some (0, x2)] [(4, (p0 : Int))] G R V)
    refine wp_ld (i := (.iload_n 1)) (0, x1) rfl rfl (fun _ => rfl) rfl rfl (?_ : wpv K_X1_idleHeap d P 19 [some (4, (p0 : Int)), some (0, x1), some (0, x2)] [(0, x1), (4, (p0 : Int))] G R V)
    refine wp_ld (i := (.iload_n 2)) (0, x2) rfl rfl (fun _ => rfl) rfl rfl (?_ : wpv K_X1_idleHeap d P 20 [some (4, (p0 : Int)), some (0, x1), some (0, x2)] [(0, x2), (0, x1), (4, (p0 : Int))] G R V)
    refine wp_virt (as := [(0, x1), (0, x2)]) (a := p0) (st := []) _ rfl rfl rfl rfl rfl rfl (ly1_o l0) (Nat.le_of_ble_eq_true rfl) (cwv_kJ w (fun v3 V2 w => ?_))
    show wpv K_X1_idleHeap d P 23 [some (4, (p0 : Int)), some (0, x1), some (0, x2)] [(2, v3)] G R V2
    refine wp_ld (i := (.aload_n 0)) (4, (p0 : Int)) rfl rfl (fun _ => rfl) rfl rfl (?_ : wpv K_X1_idleHeap d P 24 [some (4, (p0 : Int)), some (0, x1), some (0, x2)] [(4, (p0 : Int)), (2, v3)] G R V2)
    refine wp_ld (i := (.iload_n 1)) (0, x1) rfl rfl (fun _ => rfl) rfl rfl (?_ : wpv K_X1_idleHeap d P 25 [some (4, (p0 : Int)), some (0, x1), some (0, x2)] [(0, x1), (4, (p0 : Int)), (2, v3)] G R V2)
    refine wp_virt (as := [(0, x1)]) (a := p0) (st := [(2, v3)]) _ rfl rfl rfl rfl rfl rfl (ly1_o l0) (Nat.le_of_ble_eq_true rfl) (cwv_kJ w (fun v5 V4 w => ?_))
    show wpv K_X1_idleHeap d P 28 [some (4, (p0 : Int)), some (0, x1), some (0, x2)] [(2, v5), (2, v3)] G R V4
    obtain ⟨s6, w⟩ := w
    obtain ⟨s7, w⟩ := w
    refine wp_lcmp rfl rfl s6 s7 (?_ : wpv K_X1_idleHeap d P 29 [some (4, (p0 : Int)), some (0, x1), some (0, x2)] [(0, sg v3 v5)] G R V4)
    refine wp_if (c := .ne) 45 rfl rfl rfl (sg32 _ _) (fun q => ?_) (fun q => ?_)
    · have q : ¬ v3 = v5 := fun z => q (sg_eq.mpr z)
      replace w := w.1 q
      show wpv K_X1_idleHeap d P 45 [some (4, (p0 : Int)), some (0, x1), some (0, x2)] [] G R V4
      obtain ⟨s8, w⟩ := w
      refine wp_inc (x := 2) (k := -1) (a := x2) (c := (x2 - 1)) _ rfl rfl rfl rfl (by have := s8; unfold i32 at *; omega) (by omega) rfl ?_
      show wpv K_X1_idleHeap d P 48 [some (4, (p0 : Int)), some (0, x1), some (0, (x2 - 1))] [] G R V4
      refine wp_go 13 rfl rfl rfl (?_ : wpv K_X1_idleHeap d P 13 [some (4, (p0 : Int)), some (0, x1), some (0, (x2 - 1))] [] G R V4)
      exact wp_wk (wk_s (wk_s (wk_s wk_0))) w
    · have q : v3 = v5 := sg_eq.mp (Decidable.not_not.mp q)
      replace w := w.2 q
      show wpv K_X1_idleHeap d P 32 [some (4, (p0 : Int)), some (0, x1), some (0, x2)] [] G R V4
      refine wp_ld (i := (.aload_n 0)) (4, (p0 : Int)) rfl rfl (fun _ => rfl) rfl rfl (?_ : wpv K_X1_idleHeap d P 33 [some (4, (p0 : Int)), some (0, x1), some (0, x2)] [(4, (p0 : Int))] G R V4)
      obtain ⟨b9, ⟨r9, l9_⟩, w⟩ := w
      refine wp_getA (k := 0) rfl rfl rfl (ly1_o l0) rfl rfl r9 (?_ : wpv K_X1_idleHeap d P 36 [some (4, (p0 : Int)), some (0, x1), some (0, x2)] [(4, (b9 : Int))] G R V4)
      refine wp_getA (k := 1) rfl rfl rfl (ly2_o l9_) rfl rfl (ly2_1 l9_).1 (?_ : wpv K_X1_idleHeap d P 39 [some (4, (p0 : Int)), some (0, x1), some (0, x2)] [(4, ((b9 + 10 : Nat) : Int))] G R V4)
      refine wp_getA (k := 8) rfl rfl rfl (ly4_o (ly2_1 l9_).2) rfl rfl (ly4_8 (ly2_1 l9_).2).1 (?_ : wpv K_X1_idleHeap d P 42 [some (4, (p0 : Int)), some (0, x1), some (0, x2)] [(4, ((b9 + 17 : Nat) : Int))] G R V4)
      refine wp_ld (i := (.iload_n 2)) (0, x2) rfl rfl (fun _ => rfl) rfl rfl (?_ : wpv K_X1_idleHeap d P 43 [some (4, (p0 : Int)), some (0, x1), some (0, x2)] [(0, x2), (4, ((b9 + 17 : Nat) : Int))] G R V4)
      obtain ⟨s10, w⟩ := w
      refine wp_rng (fun vr11 => ?_)
      have f12 : i32 (V4 (b9 + 17) x2) := vr_a0 vr11 (ly4_8 (ly2_1 l9_).2).2 s10
      replace w := w f12
      refine wp_aI rfl rfl (ly4_8 (ly2_1 l9_).2).2 s10 (?_ : wpv K_X1_idleHeap d P 44 [some (4, (p0 : Int)), some (0, x1), some (0, x2)] [(0, (V4 (b9 + 17) x2))] G R V4)
      exact wp_rI rfl rfl rfl w
theorem t_X1_leftByTurn_0 {d : Nat} {P : gP} {p0 : Nat} {x1 : Int} {x2 : Int} {G : List gS} {R V : gV} (l0 : lay1 G R p0) (w : (∃ b1 : Nat, (R p0 0 = (b1 : Int) ∧ lay2 G R b1) ∧ ((0 ≤ x2 ∧ x2 < 120) ∧ ((i32 (V (b1 + 15) x2)) → ((0 ≤ (V (b1 + 15) x2) ∧ (V (b1 + 15) x2) < 300) ∧ ((i32 (V (b1 + 14) ((V (b1 + 15) x2)))) → cwv d (fun r V7 => ∃ v8 : Int, r = some (2, v8) ∧ P (some (2, v8)) V7) 21 [(4, (p0 : Int)), (0, x1), (0, (V (b1 + 14) ((V (b1 + 15) x2))))] G R V)))))) : wpv K_X1_leftByTurn d P 0 [some (4, (p0 : Int)), some (0, x1), some (0, x2)] [] G R V := by
  refine wp_ld (i := (.aload_n 0)) (4, (p0 : Int)) rfl rfl (fun _ => rfl) rfl rfl (?_ : wpv K_X1_leftByTurn d P 1 [some (4, (p0 : Int)), some (0, x1), some (0, x2)] [(4, (p0 : Int))] G R V)
  refine wp_ld (i := (.iload_n 1)) (0, x1) rfl rfl (fun _ => rfl) rfl rfl (?_ : wpv K_X1_leftByTurn d P 2 [some (4, (p0 : Int)), some (0, x1), some (0, x2)] [(0, x1), (4, (p0 : Int))] G R V)
  refine wp_ld (i := (.aload_n 0)) (4, (p0 : Int)) rfl rfl (fun _ => rfl) rfl rfl (?_ : wpv K_X1_leftByTurn d P 3 [some (4, (p0 : Int)), some (0, x1), some (0, x2)] [(4, (p0 : Int)), (0, x1), (4, (p0 : Int))] G R V)
  obtain ⟨b1, ⟨r1, l1_⟩, w⟩ := w
  refine wp_getA (k := 0) rfl rfl rfl (ly1_o l0) rfl rfl r1 (?_ : wpv K_X1_leftByTurn d P 6 [some (4, (p0 : Int)), some (0, x1), some (0, x2)] [(4, (b1 : Int)), (0, x1), (4, (p0 : Int))] G R V)
  refine wp_getA (k := 1) rfl rfl rfl (ly2_o l1_) rfl rfl (ly2_1 l1_).1 (?_ : wpv K_X1_leftByTurn d P 9 [some (4, (p0 : Int)), some (0, x1), some (0, x2)] [(4, ((b1 + 10 : Nat) : Int)), (0, x1), (4, (p0 : Int))] G R V)
  refine wp_getA (k := 5) rfl rfl rfl (ly4_o (ly2_1 l1_).2) rfl rfl (ly4_5 (ly2_1 l1_).2).1 (?_ : wpv K_X1_leftByTurn d P 12 [some (4, (p0 : Int)), some (0, x1), some (0, x2)] [(4, ((b1 + 14 : Nat) : Int)), (0, x1), (4, (p0 : Int))] G R V)
  refine wp_ld (i := (.aload_n 0)) (4, (p0 : Int)) rfl rfl (fun _ => rfl) rfl rfl (?_ : wpv K_X1_leftByTurn d P 13 [some (4, (p0 : Int)), some (0, x1), some (0, x2)] [(4, (p0 : Int)), (4, ((b1 + 14 : Nat) : Int)), (0, x1), (4, (p0 : Int))] G R V)
  refine wp_getA (k := 0) rfl rfl rfl (ly1_o l0) rfl rfl r1 (?_ : wpv K_X1_leftByTurn d P 16 [some (4, (p0 : Int)), some (0, x1), some (0, x2)] [(4, (b1 : Int)), (4, ((b1 + 14 : Nat) : Int)), (0, x1), (4, (p0 : Int))] G R V)
  refine wp_getA (k := 1) rfl rfl rfl (ly2_o l1_) rfl rfl (ly2_1 l1_).1 (?_ : wpv K_X1_leftByTurn d P 19 [some (4, (p0 : Int)), some (0, x1), some (0, x2)] [(4, ((b1 + 10 : Nat) : Int)), (4, ((b1 + 14 : Nat) : Int)), (0, x1), (4, (p0 : Int))] G R V)
  refine wp_getA (k := 6) rfl rfl rfl (ly4_o (ly2_1 l1_).2) rfl rfl (ly4_6 (ly2_1 l1_).2).1 (?_ : wpv K_X1_leftByTurn d P 22 [some (4, (p0 : Int)), some (0, x1), some (0, x2)] [(4, ((b1 + 15 : Nat) : Int)), (4, ((b1 + 14 : Nat) : Int)), (0, x1), (4, (p0 : Int))] G R V)
  refine wp_ld (i := (.iload_n 2)) (0, x2) rfl rfl (fun _ => rfl) rfl rfl (?_ : wpv K_X1_leftByTurn d P 23 [some (4, (p0 : Int)), some (0, x1), some (0, x2)] [(0, x2), (4, ((b1 + 15 : Nat) : Int)), (4, ((b1 + 14 : Nat) : Int)), (0, x1), (4, (p0 : Int))] G R V)
  obtain ⟨s2, w⟩ := w
  refine wp_rng (fun vr3 => ?_)
  have f4 : i32 (V (b1 + 15) x2) := vr_a0 vr3 (ly4_6 (ly2_1 l1_).2).2 s2
  replace w := w f4
  refine wp_aI rfl rfl (ly4_6 (ly2_1 l1_).2).2 s2 (?_ : wpv K_X1_leftByTurn d P 24 [some (4, (p0 : Int)), some (0, x1), some (0, x2)] [(0, (V (b1 + 15) x2)), (4, ((b1 + 14 : Nat) : Int)), (0, x1), (4, (p0 : Int))] G R V)
  obtain ⟨s5, w⟩ := w
  have f6 : i32 (V (b1 + 14) ((V (b1 + 15) x2))) := vr_a0 vr3 (ly4_5 (ly2_1 l1_).2).2 s5
  replace w := w f6
  refine wp_aI rfl rfl (ly4_5 (ly2_1 l1_).2).2 s5 (?_ : wpv K_X1_leftByTurn d P 25 [some (4, (p0 : Int)), some (0, x1), some (0, x2)] [(0, (V (b1 + 14) ((V (b1 + 15) x2)))), (0, x1), (4, (p0 : Int))] G R V)
  refine wp_virt (as := [(0, x1), (0, (V (b1 + 14) ((V (b1 + 15) x2))))]) (a := p0) (st := []) _ rfl rfl rfl rfl rfl rfl (ly1_o l0) (Nat.le_of_ble_eq_true rfl) (cwv_kJ w (fun v8 V7 w => ?_))
  show wpv K_X1_leftByTurn d P 28 [some (4, (p0 : Int)), some (0, x1), some (0, x2)] [(2, v8)] G R V7
  exact wp_rJ rfl rfl rfl w
theorem t_X1_roundsOf_0 {d : Nat} {P : gP} {p0 : Nat} {x1 : Int} {x2 : Int} {G : List gS} {R V : gV} (l0 : lay1 G R p0) (w : wpv K_X1_roundsOf d P 5 [some (4, (p0 : Int)), some (0, x1), some (0, x2), some (2, 0), none, some (0, 0)] [] G R V) : wpv K_X1_roundsOf d P 0 [some (4, (p0 : Int)), some (0, x1), some (0, x2)] [] G R V := by
  refine wp_p (i := (.lconst 0)) rfl rfl (fun _ _ _ => rfl) (?_ : wpv K_X1_roundsOf d P 1 [some (4, (p0 : Int)), some (0, x1), some (0, x2)] [(2, 0)] G R V)
  refine wp_lsto (i := (.lstore_n 3)) _ rfl rfl (fun _ => rfl) rfl rfl rfl ?_
  refine wp_wk (L' := [some (4, (p0 : Int)), some (0, x1), some (0, x2), some (2, 0)]) (wk_s (wk_s (wk_s (wk_s wk_0)))) ?_
  show wpv K_X1_roundsOf d P 2 [some (4, (p0 : Int)), some (0, x1), some (0, x2), some (2, 0)] [] G R V
  refine wp_p (i := (.iconst 0)) rfl rfl (fun _ _ _ => rfl) (?_ : wpv K_X1_roundsOf d P 3 [some (4, (p0 : Int)), some (0, x1), some (0, x2), some (2, 0)] [(0, 0)] G R V)
  refine wp_sto (i := (.istore 5)) _ rfl rfl (fun _ => rfl) rfl rfl rfl ?_
  refine wp_wk (L' := [some (4, (p0 : Int)), some (0, x1), some (0, x2), some (2, 0), none, some (0, 0)]) (wk_s (wk_s (wk_s (wk_s (wk_n (wk_s wk_0)))))) ?_
  show wpv K_X1_roundsOf d P 5 [some (4, (p0 : Int)), some (0, x1), some (0, x2), some (2, 0), none, some (0, 0)] [] G R V
  exact wp_wk (wk_s (wk_s (wk_s (wk_s (wk_n (wk_s wk_0)))))) w

theorem t_X1_roundsOf_5 {d : Nat} {P : gP} {p0 : Nat} {x1 : Int} {x2 : Int} {x3 : Int} {x5 : Int} {G : List gS} {R V : gV} (l0 : lay1 G R p0) (w : (∃ b1 : Nat, (R p0 0 = (b1 : Int) ∧ lay2 G R b1) ∧ ((i32 (V (b1 + 1) 1)) → ((i32 x5) ∧ (((¬ x5 < (V (b1 + 1) 1)) → ((0 ≤ x2 ∧ x2 < 300) ∧ ((i32 (V (b1 + 13) x2)) → (((¬ 0 < (V (b1 + 13) x2)) → P (some (2, 0)) V) ∧ ((0 < (V (b1 + 13) x2)) → (((V (b1 + 13) x2) ≠ 0) ∧ P (some (2, (jdiv x3 ((V (b1 + 13) x2))))) V)))))) ∧ ((x5 < (V (b1 + 1) 1)) → cwv d (fun r V8 => ∃ v9 : Int, r = some (0, v9) ∧ ((i32 v9) ∧ (((v9 = 0) → ((i32 (x5 + 1)) ∧ wpv K_X1_roundsOf d P 5 [some (4, (p0 : Int)), some (0, x1), some (0, x2), some (2, x3), none, some (0, (x5 + 1))] [] G R V8)) ∧ ((¬ v9 = 0) → cwv d (fun r V12 => ∃ v13 : Int, r = some (2, v13) ∧ ((i32 (x5 + 1)) ∧ wpv K_X1_roundsOf d P 5 [some (4, (p0 : Int)), some (0, x1), some (0, x2), some (2, (jadd x3 v13)), none, some (0, (x5 + 1))] [] G R V12)) 26 [(4, (p0 : Int)), (0, x1), (0, x5)] G R V8)))) 59 [(4, ((b1 + 10 : Nat) : Int)), (0, x2), (0, x5)] G R V)))))) : wpv K_X1_roundsOf d P 5 [some (4, (p0 : Int)), some (0, x1), some (0, x2), some (2, x3), none, some (0, x5)] [] G R V := by
  refine wp_ld (i := (.iload 5)) (0, x5) rfl rfl (fun _ => rfl) rfl rfl (?_ : wpv K_X1_roundsOf d P 7 [some (4, (p0 : Int)), some (0, x1), some (0, x2), some (2, x3), none, some (0, x5)] [(0, x5)] G R V)
  refine wp_ld (i := (.aload_n 0)) (4, (p0 : Int)) rfl rfl (fun _ => rfl) rfl rfl (?_ : wpv K_X1_roundsOf d P 8 [some (4, (p0 : Int)), some (0, x1), some (0, x2), some (2, x3), none, some (0, x5)] [(4, (p0 : Int)), (0, x5)] G R V)
  obtain ⟨b1, ⟨r1, l1_⟩, w⟩ := w
  refine wp_getA (k := 0) rfl rfl rfl (ly1_o l0) rfl rfl r1 (?_ : wpv K_X1_roundsOf d P 11 [some (4, (p0 : Int)), some (0, x1), some (0, x2), some (2, x3), none, some (0, x5)] [(4, (b1 : Int)), (0, x5)] G R V)
  refine wp_getA (k := 0) rfl rfl rfl (ly2_o l1_) rfl rfl (ly2_0 l1_).1 (?_ : wpv K_X1_roundsOf d P 14 [some (4, (p0 : Int)), some (0, x1), some (0, x2), some (2, x3), none, some (0, x5)] [(4, ((b1 + 1 : Nat) : Int)), (0, x5)] G R V)
  refine wp_rng (fun vr2 => ?_)
  have f3 : i32 (V (b1 + 1) 1) := vr_f0 vr2 (ly6_o (ly2_0 l1_).2) rfl rfl
  replace w := w f3
  refine wp_getI (k := 1) rfl rfl rfl (ly6_o (ly2_0 l1_).2) rfl rfl (?_ : wpv K_X1_roundsOf d P 17 [some (4, (p0 : Int)), some (0, x1), some (0, x2), some (2, x3), none, some (0, x5)] [(0, (V (b1 + 1) 1)), (0, x5)] G R V)
  obtain ⟨s4, w⟩ := w
  refine wp_icmp (c := .ge) 52 rfl rfl rfl s4 f3 (fun q => ?_) (fun q => ?_)
  · have q : ¬ x5 < (V (b1 + 1) 1) := q
    replace w := w.1 q
    show wpv K_X1_roundsOf d P 52 [some (4, (p0 : Int)), some (0, x1), some (0, x2), some (2, x3), none, some (0, x5)] [] G R V
    refine wp_ld (i := (.aload_n 0)) (4, (p0 : Int)) rfl rfl (fun _ => rfl) rfl rfl (?_ : wpv K_X1_roundsOf d P 53 [some (4, (p0 : Int)), some (0, x1), some (0, x2), some (2, x3), none, some (0, x5)] [(4, (p0 : Int))] G R V)
    refine wp_getA (k := 0) rfl rfl rfl (ly1_o l0) rfl rfl r1 (?_ : wpv K_X1_roundsOf d P 56 [some (4, (p0 : Int)), some (0, x1), some (0, x2), some (2, x3), none, some (0, x5)] [(4, (b1 : Int))] G R V)
    refine wp_getA (k := 1) rfl rfl rfl (ly2_o l1_) rfl rfl (ly2_1 l1_).1 (?_ : wpv K_X1_roundsOf d P 59 [some (4, (p0 : Int)), some (0, x1), some (0, x2), some (2, x3), none, some (0, x5)] [(4, ((b1 + 10 : Nat) : Int))] G R V)
    refine wp_getA (k := 4) rfl rfl rfl (ly4_o (ly2_1 l1_).2) rfl rfl (ly4_4 (ly2_1 l1_).2).1 (?_ : wpv K_X1_roundsOf d P 62 [some (4, (p0 : Int)), some (0, x1), some (0, x2), some (2, x3), none, some (0, x5)] [(4, ((b1 + 13 : Nat) : Int))] G R V)
    refine wp_ld (i := (.iload_n 2)) (0, x2) rfl rfl (fun _ => rfl) rfl rfl (?_ : wpv K_X1_roundsOf d P 63 [some (4, (p0 : Int)), some (0, x1), some (0, x2), some (2, x3), none, some (0, x5)] [(0, x2), (4, ((b1 + 13 : Nat) : Int))] G R V)
    obtain ⟨s5, w⟩ := w
    have f6 : i32 (V (b1 + 13) x2) := vr_a0 vr2 (ly4_4 (ly2_1 l1_).2).2 s5
    replace w := w f6
    refine wp_aI rfl rfl (ly4_4 (ly2_1 l1_).2).2 s5 (?_ : wpv K_X1_roundsOf d P 64 [some (4, (p0 : Int)), some (0, x1), some (0, x2), some (2, x3), none, some (0, x5)] [(0, (V (b1 + 13) x2))] G R V)
    refine wp_sto (i := (.istore 5)) _ rfl rfl (fun _ => rfl) rfl rfl rfl ?_
    refine wp_wk (L' := [some (4, (p0 : Int)), some (0, x1), some (0, x2), some (2, x3), none, some (0, (V (b1 + 13) x2))]) (wk_s (wk_s (wk_s (wk_s (wk_n (wk_s wk_0)))))) ?_
    show wpv K_X1_roundsOf d P 66 [some (4, (p0 : Int)), some (0, x1), some (0, x2), some (2, x3), none, some (0, (V (b1 + 13) x2))] [] G R V
    refine wp_ld (i := (.iload 5)) (0, (V (b1 + 13) x2)) rfl rfl (fun _ => rfl) rfl rfl (?_ : wpv K_X1_roundsOf d P 68 [some (4, (p0 : Int)), some (0, x1), some (0, x2), some (2, x3), none, some (0, (V (b1 + 13) x2))] [(0, (V (b1 + 13) x2))] G R V)
    refine wp_if (c := .le) 79 rfl rfl rfl f6 (fun q => ?_) (fun q => ?_)
    · have q : ¬ 0 < (V (b1 + 13) x2) := q
      replace w := w.1 q
      show wpv K_X1_roundsOf d P 79 [some (4, (p0 : Int)), some (0, x1), some (0, x2), some (2, x3), none, some (0, (V (b1 + 13) x2))] [] G R V
      refine wp_p (i := (.lconst 0)) rfl rfl (fun _ _ _ => rfl) (?_ : wpv K_X1_roundsOf d P 80 [some (4, (p0 : Int)), some (0, x1), some (0, x2), some (2, x3), none, some (0, (V (b1 + 13) x2))] [(2, 0)] G R V)
      exact wp_rJ rfl rfl rfl w
    · have q : 0 < (V (b1 + 13) x2) := Decidable.not_not.mp q
      replace w := w.2 q
      show wpv K_X1_roundsOf d P 71 [some (4, (p0 : Int)), some (0, x1), some (0, x2), some (2, x3), none, some (0, (V (b1 + 13) x2))] [] G R V
      refine wp_ld (i := (.lload_n 3)) (2, x3) rfl rfl (fun _ => rfl) rfl rfl (?_ : wpv K_X1_roundsOf d P 72 [some (4, (p0 : Int)), some (0, x1), some (0, x2), some (2, x3), none, some (0, (V (b1 + 13) x2))] [(2, x3)] G R V)
      refine wp_ld (i := (.iload 5)) (0, (V (b1 + 13) x2)) rfl rfl (fun _ => rfl) rfl rfl (?_ : wpv K_X1_roundsOf d P 74 [some (4, (p0 : Int)), some (0, x1), some (0, x2), some (2, x3), none, some (0, (V (b1 + 13) x2))] [(0, (V (b1 + 13) x2)), (2, x3)] G R V)
      refine wp_i2l rfl rfl f6 (?_ : wpv K_X1_roundsOf d P 75 [some (4, (p0 : Int)), some (0, x1), some (0, x2), some (2, x3), none, some (0, (V (b1 + 13) x2))] [(2, (V (b1 + 13) x2)), (2, x3)] G R V)
      obtain ⟨s7, w⟩ := w
      refine wp_jdiv rfl rfl (i32_64 f6) s7 (?_ : wpv K_X1_roundsOf d P 76 [some (4, (p0 : Int)), some (0, x1), some (0, x2), some (2, x3), none, some (0, (V (b1 + 13) x2))] [(2, (jdiv x3 ((V (b1 + 13) x2))))] G R V)
      refine wp_go 80 rfl rfl rfl (?_ : wpv K_X1_roundsOf d P 80 [some (4, (p0 : Int)), some (0, x1), some (0, x2), some (2, x3), none, some (0, (V (b1 + 13) x2))] [(2, (jdiv x3 ((V (b1 + 13) x2))))] G R V)
      exact wp_rJ rfl rfl rfl w
  · have q : x5 < (V (b1 + 1) 1) := Decidable.not_not.mp q
    replace w := w.2 q
    show wpv K_X1_roundsOf d P 20 [some (4, (p0 : Int)), some (0, x1), some (0, x2), some (2, x3), none, some (0, x5)] [] G R V
    refine wp_ld (i := (.aload_n 0)) (4, (p0 : Int)) rfl rfl (fun _ => rfl) rfl rfl (?_ : wpv K_X1_roundsOf d P 21 [some (4, (p0 : Int)), some (0, x1), some (0, x2), some (2, x3), none, some (0, x5)] [(4, (p0 : Int))] G R V)
    refine wp_getA (k := 0) rfl rfl rfl (ly1_o l0) rfl rfl r1 (?_ : wpv K_X1_roundsOf d P 24 [some (4, (p0 : Int)), some (0, x1), some (0, x2), some (2, x3), none, some (0, x5)] [(4, (b1 : Int))] G R V)
    refine wp_getA (k := 1) rfl rfl rfl (ly2_o l1_) rfl rfl (ly2_1 l1_).1 (?_ : wpv K_X1_roundsOf d P 27 [some (4, (p0 : Int)), some (0, x1), some (0, x2), some (2, x3), none, some (0, x5)] [(4, ((b1 + 10 : Nat) : Int))] G R V)
    refine wp_ld (i := (.iload_n 2)) (0, x2) rfl rfl (fun _ => rfl) rfl rfl (?_ : wpv K_X1_roundsOf d P 28 [some (4, (p0 : Int)), some (0, x1), some (0, x2), some (2, x3), none, some (0, x5)] [(0, x2), (4, ((b1 + 10 : Nat) : Int))] G R V)
    refine wp_ld (i := (.iload 5)) (0, x5) rfl rfl (fun _ => rfl) rfl rfl (?_ : wpv K_X1_roundsOf d P 30 [some (4, (p0 : Int)), some (0, x1), some (0, x2), some (2, x3), none, some (0, x5)] [(0, x5), (0, x2), (4, ((b1 + 10 : Nat) : Int))] G R V)
    refine wp_virt (as := [(0, x2), (0, x5)]) (a := b1 + 10) (st := []) _ rfl rfl rfl rfl rfl rfl (ly4_o (ly2_1 l1_).2) (Nat.le_of_ble_eq_true rfl) (cwv_kI w (fun v9 V8 w => ?_))
    show wpv K_X1_roundsOf d P 33 [some (4, (p0 : Int)), some (0, x1), some (0, x2), some (2, x3), none, some (0, x5)] [(0, v9)] G R V8
    obtain ⟨s10, w⟩ := w
    refine wp_if (c := .eq) 46 rfl rfl rfl s10 (fun q => ?_) (fun q => ?_)
    · have q : v9 = 0 := q
      replace w := w.1 q
      show wpv K_X1_roundsOf d P 46 [some (4, (p0 : Int)), some (0, x1), some (0, x2), some (2, x3), none, some (0, x5)] [] G R V8
      obtain ⟨s11, w⟩ := w
      refine wp_inc (x := 5) (k := 1) (a := x5) (c := (x5 + 1)) _ rfl rfl rfl rfl s11 (by omega) rfl ?_
      show wpv K_X1_roundsOf d P 49 [some (4, (p0 : Int)), some (0, x1), some (0, x2), some (2, x3), none, some (0, (x5 + 1))] [] G R V8
      refine wp_go 5 rfl rfl rfl (?_ : wpv K_X1_roundsOf d P 5 [some (4, (p0 : Int)), some (0, x1), some (0, x2), some (2, x3), none, some (0, (x5 + 1))] [] G R V8)
      exact wp_wk (wk_s (wk_s (wk_s (wk_s (wk_n (wk_s wk_0)))))) w
    · have q : ¬ v9 = 0 := q
      replace w := w.2 q
      show wpv K_X1_roundsOf d P 36 [some (4, (p0 : Int)), some (0, x1), some (0, x2), some (2, x3), none, some (0, x5)] [] G R V8
      refine wp_ld (i := (.lload_n 3)) (2, x3) rfl rfl (fun _ => rfl) rfl rfl (?_ : wpv K_X1_roundsOf d P 37 [some (4, (p0 : Int)), some (0, x1), some (0, x2), some (2, x3), none, some (0, x5)] [(2, x3)] G R V8)
      refine wp_ld (i := (.aload_n 0)) (4, (p0 : Int)) rfl rfl (fun _ => rfl) rfl rfl (?_ : wpv K_X1_roundsOf d P 38 [some (4, (p0 : Int)), some (0, x1), some (0, x2), some (2, x3), none, some (0, x5)] [(4, (p0 : Int)), (2, x3)] G R V8)
      refine wp_ld (i := (.iload_n 1)) (0, x1) rfl rfl (fun _ => rfl) rfl rfl (?_ : wpv K_X1_roundsOf d P 39 [some (4, (p0 : Int)), some (0, x1), some (0, x2), some (2, x3), none, some (0, x5)] [(0, x1), (4, (p0 : Int)), (2, x3)] G R V8)
      refine wp_ld (i := (.iload 5)) (0, x5) rfl rfl (fun _ => rfl) rfl rfl (?_ : wpv K_X1_roundsOf d P 41 [some (4, (p0 : Int)), some (0, x1), some (0, x2), some (2, x3), none, some (0, x5)] [(0, x5), (0, x1), (4, (p0 : Int)), (2, x3)] G R V8)
      refine wp_virt (as := [(0, x1), (0, x5)]) (a := p0) (st := [(2, x3)]) _ rfl rfl rfl rfl rfl rfl (ly1_o l0) (Nat.le_of_ble_eq_true rfl) (cwv_kJ w (fun v13 V12 w => ?_))
      show wpv K_X1_roundsOf d P 44 [some (4, (p0 : Int)), some (0, x1), some (0, x2), some (2, x3), none, some (0, x5)] [(2, v13), (2, x3)] G R V12
      refine wp_jadd rfl rfl (?_ : wpv K_X1_roundsOf d P 45 [some (4, (p0 : Int)), some (0, x1), some (0, x2), some (2, x3), none, some (0, x5)] [(2, (jadd x3 v13))] G R V12)
      refine wp_lsto (i := (.lstore_n 3)) _ rfl rfl (fun _ => rfl) rfl rfl rfl ?_
      refine wp_wk (L' := [some (4, (p0 : Int)), some (0, x1), some (0, x2), some (2, (jadd x3 v13)), none, some (0, x5)]) (wk_s (wk_s (wk_s (wk_s (wk_n (wk_s wk_0)))))) ?_
      show wpv K_X1_roundsOf d P 46 [some (4, (p0 : Int)), some (0, x1), some (0, x2), some (2, (jadd x3 v13)), none, some (0, x5)] [] G R V12
      obtain ⟨s14, w⟩ := w
      refine wp_inc (x := 5) (k := 1) (a := x5) (c := (x5 + 1)) _ rfl rfl rfl rfl s14 (by omega) rfl ?_
      show wpv K_X1_roundsOf d P 49 [some (4, (p0 : Int)), some (0, x1), some (0, x2), some (2, (jadd x3 v13)), none, some (0, (x5 + 1))] [] G R V12
      refine wp_go 5 rfl rfl rfl (?_ : wpv K_X1_roundsOf d P 5 [some (4, (p0 : Int)), some (0, x1), some (0, x2), some (2, (jadd x3 v13)), none, some (0, (x5 + 1))] [] G R V12)
      exact wp_wk (wk_s (wk_s (wk_s (wk_s (wk_n (wk_s wk_0)))))) w
theorem t_X1_firstDifference_0 {d : Nat} {P : gP} {p0 : Nat} {x1 : Int} {x2 : Int} {G : List gS} {R V : gV} (l0 : lay1 G R p0) (w : wpv K_X1_firstDifference d P 2 [some (4, (p0 : Int)), some (0, x1), some (0, x2), some (0, 0)] [] G R V) : wpv K_X1_firstDifference d P 0 [some (4, (p0 : Int)), some (0, x1), some (0, x2)] [] G R V := by
  refine wp_p (i := (.iconst 0)) rfl rfl (fun _ _ _ => rfl) (?_ : wpv K_X1_firstDifference d P 1 [some (4, (p0 : Int)), some (0, x1), some (0, x2)] [(0, 0)] G R V)
  refine wp_sto (i := (.istore_n 3)) _ rfl rfl (fun _ => rfl) rfl rfl rfl ?_
  refine wp_wk (L' := [some (4, (p0 : Int)), some (0, x1), some (0, x2), some (0, 0)]) (wk_s (wk_s (wk_s (wk_s wk_0)))) ?_
  show wpv K_X1_firstDifference d P 2 [some (4, (p0 : Int)), some (0, x1), some (0, x2), some (0, 0)] [] G R V
  exact wp_wk (wk_s (wk_s (wk_s (wk_s wk_0)))) w

theorem t_X1_firstDifference_2 {d : Nat} {P : gP} {p0 : Nat} {x1 : Int} {x2 : Int} {x3 : Int} {G : List gS} {R V : gV} (l0 : lay1 G R p0) (w : (∃ b1 : Nat, (R p0 0 = (b1 : Int) ∧ lay2 G R b1) ∧ ((i32 (V (b1 + 10) 1)) → ((i32 x3) ∧ (((¬ x3 < (V (b1 + 10) 1)) → P (some (0, (-1))) V) ∧ ((x3 < (V (b1 + 10) 1)) → cwv d (fun r V5 => ∃ v6 : Int, r = some (2, v6) ∧ cwv d (fun r V7 => ∃ v8 : Int, r = some (2, v8) ∧ ((i64 v6) ∧ ((i64 v8) ∧ (((v6 = v8) → ((i32 (x3 + 1)) ∧ wpv K_X1_firstDifference d P 2 [some (4, (p0 : Int)), some (0, x1), some (0, x2), some (0, (x3 + 1))] [] G R V7)) ∧ ((¬ v6 = v8) → P (some (0, x3)) V7))))) 21 [(4, (p0 : Int)), (0, x2), (0, x3)] G R V5) 21 [(4, (p0 : Int)), (0, x1), (0, x3)] G R V)))))) : wpv K_X1_firstDifference d P 2 [some (4, (p0 : Int)), some (0, x1), some (0, x2), some (0, x3)] [] G R V := by
  refine wp_ld (i := (.iload_n 3)) (0, x3) rfl rfl (fun _ => rfl) rfl rfl (?_ : wpv K_X1_firstDifference d P 3 [some (4, (p0 : Int)), some (0, x1), some (0, x2), some (0, x3)] [(0, x3)] G R V)
  refine wp_ld (i := (.aload_n 0)) (4, (p0 : Int)) rfl rfl (fun _ => rfl) rfl rfl (?_ : wpv K_X1_firstDifference d P 4 [some (4, (p0 : Int)), some (0, x1), some (0, x2), some (0, x3)] [(4, (p0 : Int)), (0, x3)] G R V)
  obtain ⟨b1, ⟨r1, l1_⟩, w⟩ := w
  refine wp_getA (k := 0) rfl rfl rfl (ly1_o l0) rfl rfl r1 (?_ : wpv K_X1_firstDifference d P 7 [some (4, (p0 : Int)), some (0, x1), some (0, x2), some (0, x3)] [(4, (b1 : Int)), (0, x3)] G R V)
  refine wp_getA (k := 1) rfl rfl rfl (ly2_o l1_) rfl rfl (ly2_1 l1_).1 (?_ : wpv K_X1_firstDifference d P 10 [some (4, (p0 : Int)), some (0, x1), some (0, x2), some (0, x3)] [(4, ((b1 + 10 : Nat) : Int)), (0, x3)] G R V)
  refine wp_rng (fun vr2 => ?_)
  have f3 : i32 (V (b1 + 10) 1) := vr_f0 vr2 (ly4_o (ly2_1 l1_).2) rfl rfl
  replace w := w f3
  refine wp_getI (k := 1) rfl rfl rfl (ly4_o (ly2_1 l1_).2) rfl rfl (?_ : wpv K_X1_firstDifference d P 13 [some (4, (p0 : Int)), some (0, x1), some (0, x2), some (0, x3)] [(0, (V (b1 + 10) 1)), (0, x3)] G R V)
  obtain ⟨s4, w⟩ := w
  refine wp_icmp (c := .ge) 40 rfl rfl rfl s4 f3 (fun q => ?_) (fun q => ?_)
  · have q : ¬ x3 < (V (b1 + 10) 1) := q
    replace w := w.1 q
    show wpv K_X1_firstDifference d P 40 [some (4, (p0 : Int)), some (0, x1), some (0, x2), some (0, x3)] [] G R V
    refine wp_p (i := (.iconst (-1))) rfl rfl (fun _ _ _ => rfl) (?_ : wpv K_X1_firstDifference d P 41 [some (4, (p0 : Int)), some (0, x1), some (0, x2), some (0, x3)] [(0, (-1))] G R V)
    exact wp_rI rfl rfl rfl w
  · have q : x3 < (V (b1 + 10) 1) := Decidable.not_not.mp q
    replace w := w.2 q
    show wpv K_X1_firstDifference d P 16 [some (4, (p0 : Int)), some (0, x1), some (0, x2), some (0, x3)] [] G R V
    refine wp_ld (i := (.aload_n 0)) (4, (p0 : Int)) rfl rfl (fun _ => rfl) rfl rfl (?_ : wpv K_X1_firstDifference d P 17 [some (4, (p0 : Int)), some (0, x1), some (0, x2), some (0, x3)] [(4, (p0 : Int))] G R V)
    refine wp_ld (i := (.iload_n 1)) (0, x1) rfl rfl (fun _ => rfl) rfl rfl (?_ : wpv K_X1_firstDifference d P 18 [some (4, (p0 : Int)), some (0, x1), some (0, x2), some (0, x3)] [(0, x1), (4, (p0 : Int))] G R V)
    refine wp_ld (i := (.iload_n 3)) (0, x3) rfl rfl (fun _ => rfl) rfl rfl (?_ : wpv K_X1_firstDifference d P 19 [some (4, (p0 : Int)), some (0, x1), some (0, x2), some (0, x3)] [(0, x3), (0, x1), (4, (p0 : Int))] G R V)
    refine wp_virt (as := [(0, x1), (0, x3)]) (a := p0) (st := []) _ rfl rfl rfl rfl rfl rfl (ly1_o l0) (Nat.le_of_ble_eq_true rfl) (cwv_kJ w (fun v6 V5 w => ?_))
    show wpv K_X1_firstDifference d P 22 [some (4, (p0 : Int)), some (0, x1), some (0, x2), some (0, x3)] [(2, v6)] G R V5
    refine wp_ld (i := (.aload_n 0)) (4, (p0 : Int)) rfl rfl (fun _ => rfl) rfl rfl (?_ : wpv K_X1_firstDifference d P 23 [some (4, (p0 : Int)), some (0, x1), some (0, x2), some (0, x3)] [(4, (p0 : Int)), (2, v6)] G R V5)
    refine wp_ld (i := (.iload_n 2)) (0, x2) rfl rfl (fun _ => rfl) rfl rfl (?_ : wpv K_X1_firstDifference d P 24 [some (4, (p0 : Int)), some (0, x1), some (0, x2), some (0, x3)] [(0, x2), (4, (p0 : Int)), (2, v6)] G R V5)
    refine wp_ld (i := (.iload_n 3)) (0, x3) rfl rfl (fun _ => rfl) rfl rfl (?_ : wpv K_X1_firstDifference d P 25 [some (4, (p0 : Int)), some (0, x1), some (0, x2), some (0, x3)] [(0, x3), (0, x2), (4, (p0 : Int)), (2, v6)] G R V5)
    refine wp_virt (as := [(0, x2), (0, x3)]) (a := p0) (st := [(2, v6)]) _ rfl rfl rfl rfl rfl rfl (ly1_o l0) (Nat.le_of_ble_eq_true rfl) (cwv_kJ w (fun v8 V7 w => ?_))
    show wpv K_X1_firstDifference d P 28 [some (4, (p0 : Int)), some (0, x1), some (0, x2), some (0, x3)] [(2, v8), (2, v6)] G R V7
    obtain ⟨s9, w⟩ := w
    obtain ⟨s10, w⟩ := w
    refine wp_lcmp rfl rfl s9 s10 (?_ : wpv K_X1_firstDifference d P 29 [some (4, (p0 : Int)), some (0, x1), some (0, x2), some (0, x3)] [(0, sg v6 v8)] G R V7)
    refine wp_if (c := .eq) 34 rfl rfl rfl (sg32 _ _) (fun q => ?_) (fun q => ?_)
    · have q : v6 = v8 := sg_eq.mp q
      replace w := w.1 q
      show wpv K_X1_firstDifference d P 34 [some (4, (p0 : Int)), some (0, x1), some (0, x2), some (0, x3)] [] G R V7
      obtain ⟨s11, w⟩ := w
      refine wp_inc (x := 3) (k := 1) (a := x3) (c := (x3 + 1)) _ rfl rfl rfl rfl s11 (by omega) rfl ?_
      show wpv K_X1_firstDifference d P 37 [some (4, (p0 : Int)), some (0, x1), some (0, x2), some (0, (x3 + 1))] [] G R V7
      refine wp_go 2 rfl rfl rfl (?_ : wpv K_X1_firstDifference d P 2 [some (4, (p0 : Int)), some (0, x1), some (0, x2), some (0, (x3 + 1))] [] G R V7)
      exact wp_wk (wk_s (wk_s (wk_s (wk_s wk_0)))) w
    · have q : ¬ v6 = v8 := fun z => q (sg_eq.mpr z)
      replace w := w.2 q
      show wpv K_X1_firstDifference d P 32 [some (4, (p0 : Int)), some (0, x1), some (0, x2), some (0, x3)] [] G R V7
      refine wp_ld (i := (.iload_n 3)) (0, x3) rfl rfl (fun _ => rfl) rfl rfl (?_ : wpv K_X1_firstDifference d P 33 [some (4, (p0 : Int)), some (0, x1), some (0, x2), some (0, x3)] [(0, x3)] G R V7)
      exact wp_rI rfl rfl rfl w
theorem t_X1_mapsAlong_0 {d : Nat} {P : gP} {p0 : Nat} {x1 : Int} {x2 : Int} {G : List gS} {R V : gV} (l0 : lay1 G R p0) (w : wpv K_X1_mapsAlong d P 5 [some (4, (p0 : Int)), some (0, x1), some (0, x2), some (2, 1), none, some (0, 0)] [] G R V) : wpv K_X1_mapsAlong d P 0 [some (4, (p0 : Int)), some (0, x1), some (0, x2)] [] G R V := by
  refine wp_p (i := (.lconst 1)) rfl rfl (fun _ _ _ => rfl) (?_ : wpv K_X1_mapsAlong d P 1 [some (4, (p0 : Int)), some (0, x1), some (0, x2)] [(2, 1)] G R V)
  refine wp_lsto (i := (.lstore_n 3)) _ rfl rfl (fun _ => rfl) rfl rfl rfl ?_
  refine wp_wk (L' := [some (4, (p0 : Int)), some (0, x1), some (0, x2), some (2, 1)]) (wk_s (wk_s (wk_s (wk_s wk_0)))) ?_
  show wpv K_X1_mapsAlong d P 2 [some (4, (p0 : Int)), some (0, x1), some (0, x2), some (2, 1)] [] G R V
  refine wp_p (i := (.iconst 0)) rfl rfl (fun _ _ _ => rfl) (?_ : wpv K_X1_mapsAlong d P 3 [some (4, (p0 : Int)), some (0, x1), some (0, x2), some (2, 1)] [(0, 0)] G R V)
  refine wp_sto (i := (.istore 5)) _ rfl rfl (fun _ => rfl) rfl rfl rfl ?_
  refine wp_wk (L' := [some (4, (p0 : Int)), some (0, x1), some (0, x2), some (2, 1), none, some (0, 0)]) (wk_s (wk_s (wk_s (wk_s (wk_n (wk_s wk_0)))))) ?_
  show wpv K_X1_mapsAlong d P 5 [some (4, (p0 : Int)), some (0, x1), some (0, x2), some (2, 1), none, some (0, 0)] [] G R V
  exact wp_wk (wk_s (wk_s (wk_s (wk_s (wk_n (wk_s wk_0)))))) w

theorem t_X1_mapsAlong_5 {d : Nat} {P : gP} {p0 : Nat} {x1 : Int} {x2 : Int} {x3 : Int} {x5 : Int} {G : List gS} {R V : gV} (l0 : lay1 G R p0) (w : (∃ b1 : Nat, (R p0 0 = (b1 : Int) ∧ lay2 G R b1) ∧ ((i32 (V (b1 + 10) 1)) → ((i32 x5) ∧ (((¬ x5 < (V (b1 + 10) 1)) → P (some (2, x3)) V) ∧ ((x5 < (V (b1 + 10) 1)) → cwv d (fun r V5 => ∃ v6 : Int, r = some (2, v6) ∧ cwv d (fun r V7 => ∃ v8 : Int, r = some (2, v8) ∧ cwv d (fun r V9 => ∃ v10 : Int, r = some (2, v10) ∧ cwv d (fun r V11 => ∃ v12 : Int, r = some (2, v12) ∧ ((i32 (x5 + 1)) ∧ wpv K_X1_mapsAlong d P 5 [some (4, (p0 : Int)), some (0, x1), some (0, x2), some (2, v12), none, some (0, (x5 + 1))] [] G R V11)) 152 [(2, x3), (2, v10)] G R V9) 153 [(2, v6), (2, v8)] G R V7) 22 [(4, (p0 : Int)), (0, x1), (0, x5)] G R V5) 21 [(4, (p0 : Int)), (0, x2), (0, x5)] G R V)))))) : wpv K_X1_mapsAlong d P 5 [some (4, (p0 : Int)), some (0, x1), some (0, x2), some (2, x3), none, some (0, x5)] [] G R V := by
  refine wp_ld (i := (.iload 5)) (0, x5) rfl rfl (fun _ => rfl) rfl rfl (?_ : wpv K_X1_mapsAlong d P 7 [some (4, (p0 : Int)), some (0, x1), some (0, x2), some (2, x3), none, some (0, x5)] [(0, x5)] G R V)
  refine wp_ld (i := (.aload_n 0)) (4, (p0 : Int)) rfl rfl (fun _ => rfl) rfl rfl (?_ : wpv K_X1_mapsAlong d P 8 [some (4, (p0 : Int)), some (0, x1), some (0, x2), some (2, x3), none, some (0, x5)] [(4, (p0 : Int)), (0, x5)] G R V)
  obtain ⟨b1, ⟨r1, l1_⟩, w⟩ := w
  refine wp_getA (k := 0) rfl rfl rfl (ly1_o l0) rfl rfl r1 (?_ : wpv K_X1_mapsAlong d P 11 [some (4, (p0 : Int)), some (0, x1), some (0, x2), some (2, x3), none, some (0, x5)] [(4, (b1 : Int)), (0, x5)] G R V)
  refine wp_getA (k := 1) rfl rfl rfl (ly2_o l1_) rfl rfl (ly2_1 l1_).1 (?_ : wpv K_X1_mapsAlong d P 14 [some (4, (p0 : Int)), some (0, x1), some (0, x2), some (2, x3), none, some (0, x5)] [(4, ((b1 + 10 : Nat) : Int)), (0, x5)] G R V)
  refine wp_rng (fun vr2 => ?_)
  have f3 : i32 (V (b1 + 10) 1) := vr_f0 vr2 (ly4_o (ly2_1 l1_).2) rfl rfl
  replace w := w f3
  refine wp_getI (k := 1) rfl rfl rfl (ly4_o (ly2_1 l1_).2) rfl rfl (?_ : wpv K_X1_mapsAlong d P 17 [some (4, (p0 : Int)), some (0, x1), some (0, x2), some (2, x3), none, some (0, x5)] [(0, (V (b1 + 10) 1)), (0, x5)] G R V)
  obtain ⟨s4, w⟩ := w
  refine wp_icmp (c := .ge) 48 rfl rfl rfl s4 f3 (fun q => ?_) (fun q => ?_)
  · have q : ¬ x5 < (V (b1 + 10) 1) := q
    replace w := w.1 q
    show wpv K_X1_mapsAlong d P 48 [some (4, (p0 : Int)), some (0, x1), some (0, x2), some (2, x3), none, some (0, x5)] [] G R V
    refine wp_ld (i := (.lload_n 3)) (2, x3) rfl rfl (fun _ => rfl) rfl rfl (?_ : wpv K_X1_mapsAlong d P 49 [some (4, (p0 : Int)), some (0, x1), some (0, x2), some (2, x3), none, some (0, x5)] [(2, x3)] G R V)
    exact wp_rJ rfl rfl rfl w
  · have q : x5 < (V (b1 + 10) 1) := Decidable.not_not.mp q
    replace w := w.2 q
    show wpv K_X1_mapsAlong d P 20 [some (4, (p0 : Int)), some (0, x1), some (0, x2), some (2, x3), none, some (0, x5)] [] G R V
    refine wp_ld (i := (.lload_n 3)) (2, x3) rfl rfl (fun _ => rfl) rfl rfl (?_ : wpv K_X1_mapsAlong d P 21 [some (4, (p0 : Int)), some (0, x1), some (0, x2), some (2, x3), none, some (0, x5)] [(2, x3)] G R V)
    refine wp_ld (i := (.aload_n 0)) (4, (p0 : Int)) rfl rfl (fun _ => rfl) rfl rfl (?_ : wpv K_X1_mapsAlong d P 22 [some (4, (p0 : Int)), some (0, x1), some (0, x2), some (2, x3), none, some (0, x5)] [(4, (p0 : Int)), (2, x3)] G R V)
    refine wp_ld (i := (.iload_n 2)) (0, x2) rfl rfl (fun _ => rfl) rfl rfl (?_ : wpv K_X1_mapsAlong d P 23 [some (4, (p0 : Int)), some (0, x1), some (0, x2), some (2, x3), none, some (0, x5)] [(0, x2), (4, (p0 : Int)), (2, x3)] G R V)
    refine wp_ld (i := (.iload 5)) (0, x5) rfl rfl (fun _ => rfl) rfl rfl (?_ : wpv K_X1_mapsAlong d P 25 [some (4, (p0 : Int)), some (0, x1), some (0, x2), some (2, x3), none, some (0, x5)] [(0, x5), (0, x2), (4, (p0 : Int)), (2, x3)] G R V)
    refine wp_virt (as := [(0, x2), (0, x5)]) (a := p0) (st := [(2, x3)]) _ rfl rfl rfl rfl rfl rfl (ly1_o l0) (Nat.le_of_ble_eq_true rfl) (cwv_kJ w (fun v6 V5 w => ?_))
    show wpv K_X1_mapsAlong d P 28 [some (4, (p0 : Int)), some (0, x1), some (0, x2), some (2, x3), none, some (0, x5)] [(2, v6), (2, x3)] G R V5
    refine wp_ld (i := (.aload_n 0)) (4, (p0 : Int)) rfl rfl (fun _ => rfl) rfl rfl (?_ : wpv K_X1_mapsAlong d P 29 [some (4, (p0 : Int)), some (0, x1), some (0, x2), some (2, x3), none, some (0, x5)] [(4, (p0 : Int)), (2, v6), (2, x3)] G R V5)
    refine wp_ld (i := (.iload_n 1)) (0, x1) rfl rfl (fun _ => rfl) rfl rfl (?_ : wpv K_X1_mapsAlong d P 30 [some (4, (p0 : Int)), some (0, x1), some (0, x2), some (2, x3), none, some (0, x5)] [(0, x1), (4, (p0 : Int)), (2, v6), (2, x3)] G R V5)
    refine wp_ld (i := (.iload 5)) (0, x5) rfl rfl (fun _ => rfl) rfl rfl (?_ : wpv K_X1_mapsAlong d P 32 [some (4, (p0 : Int)), some (0, x1), some (0, x2), some (2, x3), none, some (0, x5)] [(0, x5), (0, x1), (4, (p0 : Int)), (2, v6), (2, x3)] G R V5)
    refine wp_virt (as := [(0, x1), (0, x5)]) (a := p0) (st := [(2, v6), (2, x3)]) _ rfl rfl rfl rfl rfl rfl (ly1_o l0) (Nat.le_of_ble_eq_true rfl) (cwv_kJ w (fun v8 V7 w => ?_))
    show wpv K_X1_mapsAlong d P 35 [some (4, (p0 : Int)), some (0, x1), some (0, x2), some (2, x3), none, some (0, x5)] [(2, v8), (2, v6), (2, x3)] G R V7
    refine wp_stat (as := [(2, v6), (2, v8)]) (st := [(2, x3)]) _ rfl rfl rfl (by omega) rfl rfl (Nat.le_of_ble_eq_true rfl) (cwv_kJ w (fun v10 V9 w => ?_))
    show wpv K_X1_mapsAlong d P 38 [some (4, (p0 : Int)), some (0, x1), some (0, x2), some (2, x3), none, some (0, x5)] [(2, v10), (2, x3)] G R V9
    refine wp_stat (as := [(2, x3), (2, v10)]) (st := []) _ rfl rfl rfl (by omega) rfl rfl (Nat.le_of_ble_eq_true rfl) (cwv_kJ w (fun v12 V11 w => ?_))
    show wpv K_X1_mapsAlong d P 41 [some (4, (p0 : Int)), some (0, x1), some (0, x2), some (2, x3), none, some (0, x5)] [(2, v12)] G R V11
    refine wp_lsto (i := (.lstore_n 3)) _ rfl rfl (fun _ => rfl) rfl rfl rfl ?_
    refine wp_wk (L' := [some (4, (p0 : Int)), some (0, x1), some (0, x2), some (2, v12), none, some (0, x5)]) (wk_s (wk_s (wk_s (wk_s (wk_n (wk_s wk_0)))))) ?_
    show wpv K_X1_mapsAlong d P 42 [some (4, (p0 : Int)), some (0, x1), some (0, x2), some (2, v12), none, some (0, x5)] [] G R V11
    obtain ⟨s13, w⟩ := w
    refine wp_inc (x := 5) (k := 1) (a := x5) (c := (x5 + 1)) _ rfl rfl rfl rfl s13 (by omega) rfl ?_
    show wpv K_X1_mapsAlong d P 45 [some (4, (p0 : Int)), some (0, x1), some (0, x2), some (2, v12), none, some (0, (x5 + 1))] [] G R V11
    refine wp_go 5 rfl rfl rfl (?_ : wpv K_X1_mapsAlong d P 5 [some (4, (p0 : Int)), some (0, x1), some (0, x2), some (2, v12), none, some (0, (x5 + 1))] [] G R V11)
    exact wp_wk (wk_s (wk_s (wk_s (wk_s (wk_n (wk_s wk_0)))))) w
theorem t_X1_mapsOnToAll_0 {d : Nat} {P : gP} {p0 : Nat} {x1 : Int} {x2 : Int} {G : List gS} {R V : gV} (l0 : lay1 G R p0) (w : cwv d (fun r V1 => ∃ v2 : Int, r = some (0, v2) ∧ ((i32 v2) ∧ (((v2 = (-1)) → wpv K_X1_mapsOnToAll d P 17 [some (4, (p0 : Int)), some (0, x1), none, some (2, 1), none, some (0, 0)] [] G R V1) ∧ ((¬ v2 = (-1)) → P (some (2, 0)) V1)))) 28 [(4, (p0 : Int)), (0, x1), (0, x2)] G R V) : wpv K_X1_mapsOnToAll d P 0 [some (4, (p0 : Int)), some (0, x1), some (0, x2)] [] G R V := by
  refine wp_ld (i := (.aload_n 0)) (4, (p0 : Int)) rfl rfl (fun _ => rfl) rfl rfl (?_ : wpv K_X1_mapsOnToAll d P 1 [some (4, (p0 : Int)), some (0, x1), some (0, x2)] [(4, (p0 : Int))] G R V)
  refine wp_ld (i := (.iload_n 1)) (0, x1) rfl rfl (fun _ => rfl) rfl rfl (?_ : wpv K_X1_mapsOnToAll d P 2 [some (4, (p0 : Int)), some (0, x1), some (0, x2)] [(0, x1), (4, (p0 : Int))] G R V)
  refine wp_ld (i := (.iload_n 2)) (0, x2) rfl rfl (fun _ => rfl) rfl rfl (?_ : wpv K_X1_mapsOnToAll d P 3 [some (4, (p0 : Int)), some (0, x1), some (0, x2)] [(0, x2), (0, x1), (4, (p0 : Int))] G R V)
  refine wp_virt (as := [(0, x1), (0, x2)]) (a := p0) (st := []) _ rfl rfl rfl rfl rfl rfl (ly1_o l0) (Nat.le_of_ble_eq_true rfl) (cwv_kI w (fun v2 V1 w => ?_))
  show wpv K_X1_mapsOnToAll d P 6 [some (4, (p0 : Int)), some (0, x1), some (0, x2)] [(0, v2)] G R V1
  refine wp_p (i := (.iconst (-1))) rfl rfl (fun _ _ _ => rfl) (?_ : wpv K_X1_mapsOnToAll d P 7 [some (4, (p0 : Int)), some (0, x1), some (0, x2)] [(0, (-1)), (0, v2)] G R V1)
  obtain ⟨s3, w⟩ := w
  refine wp_icmp (c := .eq) 12 rfl rfl rfl s3 ⟨by omega, by omega⟩ (fun q => ?_) (fun q => ?_)
  · have q : v2 = (-1) := q
    replace w := w.1 q
    show wpv K_X1_mapsOnToAll d P 12 [some (4, (p0 : Int)), some (0, x1), some (0, x2)] [] G R V1
    refine wp_p (i := (.lconst 1)) rfl rfl (fun _ _ _ => rfl) (?_ : wpv K_X1_mapsOnToAll d P 13 [some (4, (p0 : Int)), some (0, x1), some (0, x2)] [(2, 1)] G R V1)
    refine wp_lsto (i := (.lstore_n 3)) _ rfl rfl (fun _ => rfl) rfl rfl rfl ?_
    refine wp_wk (L' := [some (4, (p0 : Int)), some (0, x1), some (0, x2), some (2, 1)]) (wk_s (wk_s (wk_s (wk_s wk_0)))) ?_
    show wpv K_X1_mapsOnToAll d P 14 [some (4, (p0 : Int)), some (0, x1), some (0, x2), some (2, 1)] [] G R V1
    refine wp_p (i := (.iconst 0)) rfl rfl (fun _ _ _ => rfl) (?_ : wpv K_X1_mapsOnToAll d P 15 [some (4, (p0 : Int)), some (0, x1), some (0, x2), some (2, 1)] [(0, 0)] G R V1)
    refine wp_sto (i := (.istore 5)) _ rfl rfl (fun _ => rfl) rfl rfl rfl ?_
    refine wp_wk (L' := [some (4, (p0 : Int)), some (0, x1), some (0, x2), some (2, 1), none, some (0, 0)]) (wk_s (wk_s (wk_s (wk_s (wk_n (wk_s wk_0)))))) ?_
    show wpv K_X1_mapsOnToAll d P 17 [some (4, (p0 : Int)), some (0, x1), some (0, x2), some (2, 1), none, some (0, 0)] [] G R V1
    exact wp_wk (wk_s (wk_s (wk_n (wk_s (wk_n (wk_s wk_0)))))) w
  · have q : ¬ v2 = (-1) := q
    replace w := w.2 q
    show wpv K_X1_mapsOnToAll d P 10 [some (4, (p0 : Int)), some (0, x1), some (0, x2)] [] G R V1
    refine wp_p (i := (.lconst 0)) rfl rfl (fun _ _ _ => rfl) (?_ : wpv K_X1_mapsOnToAll d P 11 [some (4, (p0 : Int)), some (0, x1), some (0, x2)] [(2, 0)] G R V1)
    exact wp_rJ rfl rfl rfl w

theorem t_X1_mapsOnToAll_17 {d : Nat} {P : gP} {p0 : Nat} {x1 : Int} {x3 : Int} {x5 : Int} {G : List gS} {R V : gV} (l0 : lay1 G R p0) (w : (∃ b1 : Nat, (R p0 0 = (b1 : Int) ∧ lay2 G R b1) ∧ ((i32 (V (b1 + 10) 1)) → ((i32 x5) ∧ (((¬ x5 < (V (b1 + 10) 1)) → P (some (2, x3)) V) ∧ ((x5 < (V (b1 + 10) 1)) → cwv d (fun r V5 => ∃ v6 : Int, r = some (2, v6) ∧ cwv d (fun r V7 => ∃ v8 : Int, r = some (2, v8) ∧ cwv d (fun r V9 => ∃ v10 : Int, r = some (2, v10) ∧ ((0 ≤ x5 ∧ x5 < 300) ∧ ((i32 (V9 (b1 + 20) x5)) → cwv d (fun r V14 => ∃ v15 : Int, r = some (2, v15) ∧ cwv d (fun r V16 => ∃ v17 : Int, r = some (2, v17) ∧ ((i32 (x5 + 1)) ∧ wpv K_X1_mapsOnToAll d P 17 [some (4, (p0 : Int)), some (0, x1), none, some (2, v17), none, some (0, (x5 + 1))] [] G R V16)) 152 [(2, v10), (2, v15)] G R V14) 153 [(2, (V9 (b1 + 20) x5)), (2, v6)] G R V9))) 152 [(2, x3), (2, v8)] G R V7) 154 [(2, v6)] G R V5) 22 [(4, (p0 : Int)), (0, x1), (0, x5)] G R V)))))) : wpv K_X1_mapsOnToAll d P 17 [some (4, (p0 : Int)), some (0, x1), none, some (2, x3), none, some (0, x5)] [] G R V := by
  refine wp_ld (i := (.iload 5)) (0, x5) rfl rfl (fun _ => rfl) rfl rfl (?_ : wpv K_X1_mapsOnToAll d P 19 [some (4, (p0 : Int)), some (0, x1), none, some (2, x3), none, some (0, x5)] [(0, x5)] G R V)
  refine wp_ld (i := (.aload_n 0)) (4, (p0 : Int)) rfl rfl (fun _ => rfl) rfl rfl (?_ : wpv K_X1_mapsOnToAll d P 20 [some (4, (p0 : Int)), some (0, x1), none, some (2, x3), none, some (0, x5)] [(4, (p0 : Int)), (0, x5)] G R V)
  obtain ⟨b1, ⟨r1, l1_⟩, w⟩ := w
  refine wp_getA (k := 0) rfl rfl rfl (ly1_o l0) rfl rfl r1 (?_ : wpv K_X1_mapsOnToAll d P 23 [some (4, (p0 : Int)), some (0, x1), none, some (2, x3), none, some (0, x5)] [(4, (b1 : Int)), (0, x5)] G R V)
  refine wp_getA (k := 1) rfl rfl rfl (ly2_o l1_) rfl rfl (ly2_1 l1_).1 (?_ : wpv K_X1_mapsOnToAll d P 26 [some (4, (p0 : Int)), some (0, x1), none, some (2, x3), none, some (0, x5)] [(4, ((b1 + 10 : Nat) : Int)), (0, x5)] G R V)
  refine wp_rng (fun vr2 => ?_)
  have f3 : i32 (V (b1 + 10) 1) := vr_f0 vr2 (ly4_o (ly2_1 l1_).2) rfl rfl
  replace w := w f3
  refine wp_getI (k := 1) rfl rfl rfl (ly4_o (ly2_1 l1_).2) rfl rfl (?_ : wpv K_X1_mapsOnToAll d P 29 [some (4, (p0 : Int)), some (0, x1), none, some (2, x3), none, some (0, x5)] [(0, (V (b1 + 10) 1)), (0, x5)] G R V)
  obtain ⟨s4, w⟩ := w
  refine wp_icmp (c := .ge) 81 rfl rfl rfl s4 f3 (fun q => ?_) (fun q => ?_)
  · have q : ¬ x5 < (V (b1 + 10) 1) := q
    replace w := w.1 q
    show wpv K_X1_mapsOnToAll d P 81 [some (4, (p0 : Int)), some (0, x1), none, some (2, x3), none, some (0, x5)] [] G R V
    refine wp_ld (i := (.lload_n 3)) (2, x3) rfl rfl (fun _ => rfl) rfl rfl (?_ : wpv K_X1_mapsOnToAll d P 82 [some (4, (p0 : Int)), some (0, x1), none, some (2, x3), none, some (0, x5)] [(2, x3)] G R V)
    exact wp_rJ rfl rfl rfl w
  · have q : x5 < (V (b1 + 10) 1) := Decidable.not_not.mp q
    replace w := w.2 q
    show wpv K_X1_mapsOnToAll d P 32 [some (4, (p0 : Int)), some (0, x1), none, some (2, x3), none, some (0, x5)] [] G R V
    refine wp_ld (i := (.aload_n 0)) (4, (p0 : Int)) rfl rfl (fun _ => rfl) rfl rfl (?_ : wpv K_X1_mapsOnToAll d P 33 [some (4, (p0 : Int)), some (0, x1), none, some (2, x3), none, some (0, x5)] [(4, (p0 : Int))] G R V)
    refine wp_ld (i := (.iload_n 1)) (0, x1) rfl rfl (fun _ => rfl) rfl rfl (?_ : wpv K_X1_mapsOnToAll d P 34 [some (4, (p0 : Int)), some (0, x1), none, some (2, x3), none, some (0, x5)] [(0, x1), (4, (p0 : Int))] G R V)
    refine wp_ld (i := (.iload 5)) (0, x5) rfl rfl (fun _ => rfl) rfl rfl (?_ : wpv K_X1_mapsOnToAll d P 36 [some (4, (p0 : Int)), some (0, x1), none, some (2, x3), none, some (0, x5)] [(0, x5), (0, x1), (4, (p0 : Int))] G R V)
    refine wp_virt (as := [(0, x1), (0, x5)]) (a := p0) (st := []) _ rfl rfl rfl rfl rfl rfl (ly1_o l0) (Nat.le_of_ble_eq_true rfl) (cwv_kJ w (fun v6 V5 w => ?_))
    show wpv K_X1_mapsOnToAll d P 39 [some (4, (p0 : Int)), some (0, x1), none, some (2, x3), none, some (0, x5)] [(2, v6)] G R V5
    refine wp_lsto (i := (.lstore 6)) _ rfl rfl (fun _ => rfl) rfl rfl rfl ?_
    refine wp_wk (L' := [some (4, (p0 : Int)), some (0, x1), none, some (2, x3), none, some (0, x5), some (2, v6)]) (wk_s (wk_s (wk_n (wk_s (wk_n (wk_s (wk_s wk_0))))))) ?_
    show wpv K_X1_mapsOnToAll d P 41 [some (4, (p0 : Int)), some (0, x1), none, some (2, x3), none, some (0, x5), some (2, v6)] [] G R V5
    refine wp_ld (i := (.lload_n 3)) (2, x3) rfl rfl (fun _ => rfl) rfl rfl (?_ : wpv K_X1_mapsOnToAll d P 42 [some (4, (p0 : Int)), some (0, x1), none, some (2, x3), none, some (0, x5), some (2, v6)] [(2, x3)] G R V5)
    refine wp_ld (i := (.lload 6)) (2, v6) rfl rfl (fun _ => rfl) rfl rfl (?_ : wpv K_X1_mapsOnToAll d P 44 [some (4, (p0 : Int)), some (0, x1), none, some (2, x3), none, some (0, x5), some (2, v6)] [(2, v6), (2, x3)] G R V5)
    refine wp_stat (as := [(2, v6)]) (st := [(2, x3)]) _ rfl rfl rfl (by omega) rfl rfl (Nat.le_of_ble_eq_true rfl) (cwv_kJ w (fun v8 V7 w => ?_))
    show wpv K_X1_mapsOnToAll d P 47 [some (4, (p0 : Int)), some (0, x1), none, some (2, x3), none, some (0, x5), some (2, v6)] [(2, v8), (2, x3)] G R V7
    refine wp_stat (as := [(2, x3), (2, v8)]) (st := []) _ rfl rfl rfl (by omega) rfl rfl (Nat.le_of_ble_eq_true rfl) (cwv_kJ w (fun v10 V9 w => ?_))
    show wpv K_X1_mapsOnToAll d P 50 [some (4, (p0 : Int)), some (0, x1), none, some (2, x3), none, some (0, x5), some (2, v6)] [(2, v10)] G R V9
    refine wp_lsto (i := (.lstore_n 3)) _ rfl rfl (fun _ => rfl) rfl rfl rfl ?_
    refine wp_wk (L' := [some (4, (p0 : Int)), some (0, x1), none, some (2, v10), none, some (0, x5), some (2, v6)]) (wk_s (wk_s (wk_n (wk_s (wk_n (wk_s (wk_s wk_0))))))) ?_
    show wpv K_X1_mapsOnToAll d P 51 [some (4, (p0 : Int)), some (0, x1), none, some (2, v10), none, some (0, x5), some (2, v6)] [] G R V9
    refine wp_ld (i := (.lload_n 3)) (2, v10) rfl rfl (fun _ => rfl) rfl rfl (?_ : wpv K_X1_mapsOnToAll d P 52 [some (4, (p0 : Int)), some (0, x1), none, some (2, v10), none, some (0, x5), some (2, v6)] [(2, v10)] G R V9)
    refine wp_ld (i := (.aload_n 0)) (4, (p0 : Int)) rfl rfl (fun _ => rfl) rfl rfl (?_ : wpv K_X1_mapsOnToAll d P 53 [some (4, (p0 : Int)), some (0, x1), none, some (2, v10), none, some (0, x5), some (2, v6)] [(4, (p0 : Int)), (2, v10)] G R V9)
    refine wp_getA (k := 0) rfl rfl rfl (ly1_o l0) rfl rfl r1 (?_ : wpv K_X1_mapsOnToAll d P 56 [some (4, (p0 : Int)), some (0, x1), none, some (2, v10), none, some (0, x5), some (2, v6)] [(4, (b1 : Int)), (2, v10)] G R V9)
    refine wp_getA (k := 1) rfl rfl rfl (ly2_o l1_) rfl rfl (ly2_1 l1_).1 (?_ : wpv K_X1_mapsOnToAll d P 59 [some (4, (p0 : Int)), some (0, x1), none, some (2, v10), none, some (0, x5), some (2, v6)] [(4, ((b1 + 10 : Nat) : Int)), (2, v10)] G R V9)
    refine wp_getA (k := 11) rfl rfl rfl (ly4_o (ly2_1 l1_).2) rfl rfl (ly4_11 (ly2_1 l1_).2).1 (?_ : wpv K_X1_mapsOnToAll d P 62 [some (4, (p0 : Int)), some (0, x1), none, some (2, v10), none, some (0, x5), some (2, v6)] [(4, ((b1 + 20 : Nat) : Int)), (2, v10)] G R V9)
    refine wp_ld (i := (.iload 5)) (0, x5) rfl rfl (fun _ => rfl) rfl rfl (?_ : wpv K_X1_mapsOnToAll d P 64 [some (4, (p0 : Int)), some (0, x1), none, some (2, v10), none, some (0, x5), some (2, v6)] [(0, x5), (4, ((b1 + 20 : Nat) : Int)), (2, v10)] G R V9)
    obtain ⟨s11, w⟩ := w
    refine wp_rng (fun vr12 => ?_)
    have f13 : i32 (V9 (b1 + 20) x5) := vr_a0 vr12 (ly4_11 (ly2_1 l1_).2).2 s11
    replace w := w f13
    refine wp_aI rfl rfl (ly4_11 (ly2_1 l1_).2).2 s11 (?_ : wpv K_X1_mapsOnToAll d P 65 [some (4, (p0 : Int)), some (0, x1), none, some (2, v10), none, some (0, x5), some (2, v6)] [(0, (V9 (b1 + 20) x5)), (2, v10)] G R V9)
    refine wp_i2l rfl rfl f13 (?_ : wpv K_X1_mapsOnToAll d P 66 [some (4, (p0 : Int)), some (0, x1), none, some (2, v10), none, some (0, x5), some (2, v6)] [(2, (V9 (b1 + 20) x5)), (2, v10)] G R V9)
    refine wp_ld (i := (.lload 6)) (2, v6) rfl rfl (fun _ => rfl) rfl rfl (?_ : wpv K_X1_mapsOnToAll d P 68 [some (4, (p0 : Int)), some (0, x1), none, some (2, v10), none, some (0, x5), some (2, v6)] [(2, v6), (2, (V9 (b1 + 20) x5)), (2, v10)] G R V9)
    refine wp_stat (as := [(2, (V9 (b1 + 20) x5)), (2, v6)]) (st := [(2, v10)]) _ rfl rfl rfl (by omega) rfl rfl (Nat.le_of_ble_eq_true rfl) (cwv_kJ w (fun v15 V14 w => ?_))
    show wpv K_X1_mapsOnToAll d P 71 [some (4, (p0 : Int)), some (0, x1), none, some (2, v10), none, some (0, x5), some (2, v6)] [(2, v15), (2, v10)] G R V14
    refine wp_stat (as := [(2, v10), (2, v15)]) (st := []) _ rfl rfl rfl (by omega) rfl rfl (Nat.le_of_ble_eq_true rfl) (cwv_kJ w (fun v17 V16 w => ?_))
    show wpv K_X1_mapsOnToAll d P 74 [some (4, (p0 : Int)), some (0, x1), none, some (2, v10), none, some (0, x5), some (2, v6)] [(2, v17)] G R V16
    refine wp_lsto (i := (.lstore_n 3)) _ rfl rfl (fun _ => rfl) rfl rfl rfl ?_
    refine wp_wk (L' := [some (4, (p0 : Int)), some (0, x1), none, some (2, v17), none, some (0, x5), some (2, v6)]) (wk_s (wk_s (wk_n (wk_s (wk_n (wk_s (wk_s wk_0))))))) ?_
    show wpv K_X1_mapsOnToAll d P 75 [some (4, (p0 : Int)), some (0, x1), none, some (2, v17), none, some (0, x5), some (2, v6)] [] G R V16
    obtain ⟨s18, w⟩ := w
    refine wp_inc (x := 5) (k := 1) (a := x5) (c := (x5 + 1)) _ rfl rfl rfl rfl s18 (by omega) rfl ?_
    show wpv K_X1_mapsOnToAll d P 78 [some (4, (p0 : Int)), some (0, x1), none, some (2, v17), none, some (0, (x5 + 1)), some (2, v6)] [] G R V16
    refine wp_go 17 rfl rfl rfl (?_ : wpv K_X1_mapsOnToAll d P 17 [some (4, (p0 : Int)), some (0, x1), none, some (2, v17), none, some (0, (x5 + 1)), some (2, v6)] [] G R V16)
    exact wp_wk (wk_s (wk_s (wk_n (wk_s (wk_n (wk_s wk_0)))))) w
theorem t_X2_normaliser_0 {d : Nat} {P : gP} {p0 : Nat} {x1 : Int} {G : List gS} {R V : gV} (l0 : lay2 G R p0) (w : cwv d (fun r V1 => ∃ v2 : Int, r = some (0, v2) ∧ ((i32 v2) ∧ (((v2 = 0) → wpv K_X2_normaliser d P 29 [some (4, (p0 : Int)), some (0, x1), some (2, 0), none, some (2, 0), none, some (0, 0)] [] G R V1) ∧ ((¬ v2 = 0) → ((i32 (V1 (p0 + 10) 0)) → ((i32 ((V1 (p0 + 10) 0) - 1)) ∧ P (some (0, ((V1 (p0 + 10) 0) - 1))) V1)))))) 58 [(4, ((p0 + 10 : Nat) : Int)), (0, x1)] G R V) : wpv K_X2_normaliser d P 0 [some (4, (p0 : Int)), some (0, x1)] [] G R V := by
  refine wp_ld (i := (.aload_n 0)) (4, (p0 : Int)) rfl rfl (fun _ => rfl) rfl rfl (?_ : wpv K_X2_normaliser d P 1 [some (4, (p0 : Int)), some (0, x1)] [(4, (p0 : Int))] G R V)
  refine wp_getA (k := 1) rfl rfl rfl (ly2_o l0) rfl rfl (ly2_1 l0).1 (?_ : wpv K_X2_normaliser d P 4 [some (4, (p0 : Int)), some (0, x1)] [(4, ((p0 + 10 : Nat) : Int))] G R V)
  refine wp_ld (i := (.iload_n 1)) (0, x1) rfl rfl (fun _ => rfl) rfl rfl (?_ : wpv K_X2_normaliser d P 5 [some (4, (p0 : Int)), some (0, x1)] [(0, x1), (4, ((p0 + 10 : Nat) : Int))] G R V)
  refine wp_virt (as := [(0, x1)]) (a := p0 + 10) (st := []) _ rfl rfl rfl rfl rfl rfl (ly4_o (ly2_1 l0).2) (Nat.le_of_ble_eq_true rfl) (cwv_kI w (fun v2 V1 w => ?_))
  show wpv K_X2_normaliser d P 8 [some (4, (p0 : Int)), some (0, x1)] [(0, v2)] G R V1
  obtain ⟨s3, w⟩ := w
  refine wp_if (c := .eq) 21 rfl rfl rfl s3 (fun q => ?_) (fun q => ?_)
  · have q : v2 = 0 := q
    replace w := w.1 q
    show wpv K_X2_normaliser d P 21 [some (4, (p0 : Int)), some (0, x1)] [] G R V1
    refine wp_p (i := (.lconst 0)) rfl rfl (fun _ _ _ => rfl) (?_ : wpv K_X2_normaliser d P 22 [some (4, (p0 : Int)), some (0, x1)] [(2, 0)] G R V1)
    refine wp_lsto (i := (.lstore_n 2)) _ rfl rfl (fun _ => rfl) rfl rfl rfl ?_
    refine wp_wk (L' := [some (4, (p0 : Int)), some (0, x1), some (2, 0)]) (wk_s (wk_s (wk_s wk_0))) ?_
    show wpv K_X2_normaliser d P 23 [some (4, (p0 : Int)), some (0, x1), some (2, 0)] [] G R V1
    refine wp_p (i := (.lconst 0)) rfl rfl (fun _ _ _ => rfl) (?_ : wpv K_X2_normaliser d P 24 [some (4, (p0 : Int)), some (0, x1), some (2, 0)] [(2, 0)] G R V1)
    refine wp_lsto (i := (.lstore 4)) _ rfl rfl (fun _ => rfl) rfl rfl rfl ?_
    refine wp_wk (L' := [some (4, (p0 : Int)), some (0, x1), some (2, 0), none, some (2, 0)]) (wk_s (wk_s (wk_s (wk_n (wk_s wk_0))))) ?_
    show wpv K_X2_normaliser d P 26 [some (4, (p0 : Int)), some (0, x1), some (2, 0), none, some (2, 0)] [] G R V1
    refine wp_p (i := (.iconst 0)) rfl rfl (fun _ _ _ => rfl) (?_ : wpv K_X2_normaliser d P 27 [some (4, (p0 : Int)), some (0, x1), some (2, 0), none, some (2, 0)] [(0, 0)] G R V1)
    refine wp_sto (i := (.istore 6)) _ rfl rfl (fun _ => rfl) rfl rfl rfl ?_
    refine wp_wk (L' := [some (4, (p0 : Int)), some (0, x1), some (2, 0), none, some (2, 0), none, some (0, 0)]) (wk_s (wk_s (wk_s (wk_n (wk_s (wk_n (wk_s wk_0))))))) ?_
    show wpv K_X2_normaliser d P 29 [some (4, (p0 : Int)), some (0, x1), some (2, 0), none, some (2, 0), none, some (0, 0)] [] G R V1
    exact wp_wk (wk_s (wk_s (wk_s (wk_n (wk_s (wk_n (wk_s wk_0))))))) w
  · have q : ¬ v2 = 0 := q
    replace w := w.2 q
    show wpv K_X2_normaliser d P 11 [some (4, (p0 : Int)), some (0, x1)] [] G R V1
    refine wp_ld (i := (.aload_n 0)) (4, (p0 : Int)) rfl rfl (fun _ => rfl) rfl rfl (?_ : wpv K_X2_normaliser d P 12 [some (4, (p0 : Int)), some (0, x1)] [(4, (p0 : Int))] G R V1)
    refine wp_getA (k := 1) rfl rfl rfl (ly2_o l0) rfl rfl (ly2_1 l0).1 (?_ : wpv K_X2_normaliser d P 15 [some (4, (p0 : Int)), some (0, x1)] [(4, ((p0 + 10 : Nat) : Int))] G R V1)
    refine wp_rng (fun vr4 => ?_)
    have f5 : i32 (V1 (p0 + 10) 0) := vr_f0 vr4 (ly4_o (ly2_1 l0).2) rfl rfl
    replace w := w f5
    refine wp_getI (k := 0) rfl rfl rfl (ly4_o (ly2_1 l0).2) rfl rfl (?_ : wpv K_X2_normaliser d P 18 [some (4, (p0 : Int)), some (0, x1)] [(0, (V1 (p0 + 10) 0))] G R V1)
    refine wp_p (i := (.iconst 1)) rfl rfl (fun _ _ _ => rfl) (?_ : wpv K_X2_normaliser d P 19 [some (4, (p0 : Int)), some (0, x1)] [(0, 1), (0, (V1 (p0 + 10) 0))] G R V1)
    obtain ⟨s6, w⟩ := w
    refine wp_xsub rfl rfl s6 (?_ : wpv K_X2_normaliser d P 20 [some (4, (p0 : Int)), some (0, x1)] [(0, ((V1 (p0 + 10) 0) - 1))] G R V1)
    exact wp_rI rfl rfl rfl w

theorem t_X2_normaliser_29 {d : Nat} {P : gP} {p0 : Nat} {x1 : Int} {x2 : Int} {x4 : Int} {x6 : Int} {G : List gS} {R V : gV} (l0 : lay2 G R p0) (w : ((i32 (V (p0 + 1) 1)) → ((i32 x6) ∧ (((¬ x6 < (V (p0 + 1) 1)) → cwv d (fun r V4 => ∃ v5 : Int, r = some (0, v5) ∧ P (some (0, v5)) V4) 62 [(4, ((p0 + 10 : Nat) : Int)), (2, x2), (2, x4)] G R V) ∧ ((x6 < (V (p0 + 1) 1)) → cwv d (fun r V6 => ∃ v7 : Int, r = some (0, v7) ∧ ((i32 v7) ∧ (((v7 = 0) → ((i32 (x6 + 1)) ∧ wpv K_X2_normaliser d P 29 [some (4, (p0 : Int)), some (0, x1), some (2, x2), none, some (2, x4), none, some (0, (x6 + 1))] [] G R V6)) ∧ ((¬ v7 = 0) → cwv d (fun r V10 => ∃ v11 : Int, r = some (2, v11) ∧ cwv d (fun r V12 => ∃ v13 : Int, r = some (2, v13) ∧ ((i32 (x6 + 1)) ∧ wpv K_X2_normaliser d P 29 [some (4, (p0 : Int)), some (0, x1), some (2, (jor x2 v11)), none, some (2, (jor x4 v13)), none, some (0, (x6 + 1))] [] G R V12)) 151 [(0, x6)] G R V10) 150 [(0, x6)] G R V6)))) 34 [(4, (p0 : Int)), (0, x6), (0, x1)] G R V))))) : wpv K_X2_normaliser d P 29 [some (4, (p0 : Int)), some (0, x1), some (2, x2), none, some (2, x4), none, some (0, x6)] [] G R V := by
  refine wp_ld (i := (.iload 6)) (0, x6) rfl rfl (fun _ => rfl) rfl rfl (?_ : wpv K_X2_normaliser d P 31 [some (4, (p0 : Int)), some (0, x1), some (2, x2), none, some (2, x4), none, some (0, x6)] [(0, x6)] G R V)
  refine wp_ld (i := (.aload_n 0)) (4, (p0 : Int)) rfl rfl (fun _ => rfl) rfl rfl (?_ : wpv K_X2_normaliser d P 32 [some (4, (p0 : Int)), some (0, x1), some (2, x2), none, some (2, x4), none, some (0, x6)] [(4, (p0 : Int)), (0, x6)] G R V)
  refine wp_getA (k := 0) rfl rfl rfl (ly2_o l0) rfl rfl (ly2_0 l0).1 (?_ : wpv K_X2_normaliser d P 35 [some (4, (p0 : Int)), some (0, x1), some (2, x2), none, some (2, x4), none, some (0, x6)] [(4, ((p0 + 1 : Nat) : Int)), (0, x6)] G R V)
  refine wp_rng (fun vr1 => ?_)
  have f2 : i32 (V (p0 + 1) 1) := vr_f0 vr1 (ly6_o (ly2_0 l0).2) rfl rfl
  replace w := w f2
  refine wp_getI (k := 1) rfl rfl rfl (ly6_o (ly2_0 l0).2) rfl rfl (?_ : wpv K_X2_normaliser d P 38 [some (4, (p0 : Int)), some (0, x1), some (2, x2), none, some (2, x4), none, some (0, x6)] [(0, (V (p0 + 1) 1)), (0, x6)] G R V)
  obtain ⟨s3, w⟩ := w
  refine wp_icmp (c := .ge) 75 rfl rfl rfl s3 f2 (fun q => ?_) (fun q => ?_)
  · have q : ¬ x6 < (V (p0 + 1) 1) := q
    replace w := w.1 q
    show wpv K_X2_normaliser d P 75 [some (4, (p0 : Int)), some (0, x1), some (2, x2), none, some (2, x4), none, some (0, x6)] [] G R V
    refine wp_ld (i := (.aload_n 0)) (4, (p0 : Int)) rfl rfl (fun _ => rfl) rfl rfl (?_ : wpv K_X2_normaliser d P 76 [some (4, (p0 : Int)), some (0, x1), some (2, x2), none, some (2, x4), none, some (0, x6)] [(4, (p0 : Int))] G R V)
    refine wp_getA (k := 1) rfl rfl rfl (ly2_o l0) rfl rfl (ly2_1 l0).1 (?_ : wpv K_X2_normaliser d P 79 [some (4, (p0 : Int)), some (0, x1), some (2, x2), none, some (2, x4), none, some (0, x6)] [(4, ((p0 + 10 : Nat) : Int))] G R V)
    refine wp_ld (i := (.lload_n 2)) (2, x2) rfl rfl (fun _ => rfl) rfl rfl (?_ : wpv K_X2_normaliser d P 80 [some (4, (p0 : Int)), some (0, x1), some (2, x2), none, some (2, x4), none, some (0, x6)] [(2, x2), (4, ((p0 + 10 : Nat) : Int))] G R V)
    refine wp_ld (i := (.lload 4)) (2, x4) rfl rfl (fun _ => rfl) rfl rfl (?_ : wpv K_X2_normaliser d P 82 [some (4, (p0 : Int)), some (0, x1), some (2, x2), none, some (2, x4), none, some (0, x6)] [(2, x4), (2, x2), (4, ((p0 + 10 : Nat) : Int))] G R V)
    refine wp_virt (as := [(2, x2), (2, x4)]) (a := p0 + 10) (st := []) _ rfl rfl rfl rfl rfl rfl (ly4_o (ly2_1 l0).2) (Nat.le_of_ble_eq_true rfl) (cwv_kI w (fun v5 V4 w => ?_))
    show wpv K_X2_normaliser d P 85 [some (4, (p0 : Int)), some (0, x1), some (2, x2), none, some (2, x4), none, some (0, x6)] [(0, v5)] G R V4
    exact wp_rI rfl rfl rfl w
  · have q : x6 < (V (p0 + 1) 1) := Decidable.not_not.mp q
    replace w := w.2 q
    show wpv K_X2_normaliser d P 41 [some (4, (p0 : Int)), some (0, x1), some (2, x2), none, some (2, x4), none, some (0, x6)] [] G R V
    refine wp_ld (i := (.aload_n 0)) (4, (p0 : Int)) rfl rfl (fun _ => rfl) rfl rfl (?_ : wpv K_X2_normaliser d P 42 [some (4, (p0 : Int)), some (0, x1), some (2, x2), none, some (2, x4), none, some (0, x6)] [(4, (p0 : Int))] G R V)
    refine wp_ld (i := (.iload 6)) (0, x6) rfl rfl (fun _ => rfl) rfl rfl (?_ : wpv K_X2_normaliser d P 44 [some (4, (p0 : Int)), some (0, x1), some (2, x2), none, some (2, x4), none, some (0, x6)] [(0, x6), (4, (p0 : Int))] G R V)
    refine wp_ld (i := (.iload_n 1)) (0, x1) rfl rfl (fun _ => rfl) rfl rfl (?_ : wpv K_X2_normaliser d P 45 [some (4, (p0 : Int)), some (0, x1), some (2, x2), none, some (2, x4), none, some (0, x6)] [(0, x1), (0, x6), (4, (p0 : Int))] G R V)
    refine wp_virt (as := [(0, x6), (0, x1)]) (a := p0) (st := []) _ rfl rfl rfl rfl rfl rfl (ly2_o l0) (Nat.le_of_ble_eq_true rfl) (cwv_kI w (fun v7 V6 w => ?_))
    show wpv K_X2_normaliser d P 48 [some (4, (p0 : Int)), some (0, x1), some (2, x2), none, some (2, x4), none, some (0, x6)] [(0, v7)] G R V6
    obtain ⟨s8, w⟩ := w
    refine wp_if (c := .eq) 69 rfl rfl rfl s8 (fun q => ?_) (fun q => ?_)
    · have q : v7 = 0 := q
      replace w := w.1 q
      show wpv K_X2_normaliser d P 69 [some (4, (p0 : Int)), some (0, x1), some (2, x2), none, some (2, x4), none, some (0, x6)] [] G R V6
      obtain ⟨s9, w⟩ := w
      refine wp_inc (x := 6) (k := 1) (a := x6) (c := (x6 + 1)) _ rfl rfl rfl rfl s9 (by omega) rfl ?_
      show wpv K_X2_normaliser d P 72 [some (4, (p0 : Int)), some (0, x1), some (2, x2), none, some (2, x4), none, some (0, (x6 + 1))] [] G R V6
      refine wp_go 29 rfl rfl rfl (?_ : wpv K_X2_normaliser d P 29 [some (4, (p0 : Int)), some (0, x1), some (2, x2), none, some (2, x4), none, some (0, (x6 + 1))] [] G R V6)
      exact wp_wk (wk_s (wk_s (wk_s (wk_n (wk_s (wk_n (wk_s wk_0))))))) w
    · have q : ¬ v7 = 0 := q
      replace w := w.2 q
      show wpv K_X2_normaliser d P 51 [some (4, (p0 : Int)), some (0, x1), some (2, x2), none, some (2, x4), none, some (0, x6)] [] G R V6
      refine wp_ld (i := (.lload_n 2)) (2, x2) rfl rfl (fun _ => rfl) rfl rfl (?_ : wpv K_X2_normaliser d P 52 [some (4, (p0 : Int)), some (0, x1), some (2, x2), none, some (2, x4), none, some (0, x6)] [(2, x2)] G R V6)
      refine wp_ld (i := (.iload 6)) (0, x6) rfl rfl (fun _ => rfl) rfl rfl (?_ : wpv K_X2_normaliser d P 54 [some (4, (p0 : Int)), some (0, x1), some (2, x2), none, some (2, x4), none, some (0, x6)] [(0, x6), (2, x2)] G R V6)
      refine wp_stat (as := [(0, x6)]) (st := [(2, x2)]) _ rfl rfl rfl (by omega) rfl rfl (Nat.le_of_ble_eq_true rfl) (cwv_kJ w (fun v11 V10 w => ?_))
      show wpv K_X2_normaliser d P 57 [some (4, (p0 : Int)), some (0, x1), some (2, x2), none, some (2, x4), none, some (0, x6)] [(2, v11), (2, x2)] G R V10
      refine wp_jor rfl rfl (?_ : wpv K_X2_normaliser d P 58 [some (4, (p0 : Int)), some (0, x1), some (2, x2), none, some (2, x4), none, some (0, x6)] [(2, (jor x2 v11))] G R V10)
      refine wp_lsto (i := (.lstore_n 2)) _ rfl rfl (fun _ => rfl) rfl rfl rfl ?_
      refine wp_wk (L' := [some (4, (p0 : Int)), some (0, x1), some (2, (jor x2 v11)), none, some (2, x4), none, some (0, x6)]) (wk_s (wk_s (wk_s (wk_n (wk_s (wk_n (wk_s wk_0))))))) ?_
      show wpv K_X2_normaliser d P 59 [some (4, (p0 : Int)), some (0, x1), some (2, (jor x2 v11)), none, some (2, x4), none, some (0, x6)] [] G R V10
      refine wp_ld (i := (.lload 4)) (2, x4) rfl rfl (fun _ => rfl) rfl rfl (?_ : wpv K_X2_normaliser d P 61 [some (4, (p0 : Int)), some (0, x1), some (2, (jor x2 v11)), none, some (2, x4), none, some (0, x6)] [(2, x4)] G R V10)
      refine wp_ld (i := (.iload 6)) (0, x6) rfl rfl (fun _ => rfl) rfl rfl (?_ : wpv K_X2_normaliser d P 63 [some (4, (p0 : Int)), some (0, x1), some (2, (jor x2 v11)), none, some (2, x4), none, some (0, x6)] [(0, x6), (2, x4)] G R V10)
      refine wp_stat (as := [(0, x6)]) (st := [(2, x4)]) _ rfl rfl rfl (by omega) rfl rfl (Nat.le_of_ble_eq_true rfl) (cwv_kJ w (fun v13 V12 w => ?_))
      show wpv K_X2_normaliser d P 66 [some (4, (p0 : Int)), some (0, x1), some (2, (jor x2 v11)), none, some (2, x4), none, some (0, x6)] [(2, v13), (2, x4)] G R V12
      refine wp_jor rfl rfl (?_ : wpv K_X2_normaliser d P 67 [some (4, (p0 : Int)), some (0, x1), some (2, (jor x2 v11)), none, some (2, x4), none, some (0, x6)] [(2, (jor x4 v13))] G R V12)
      refine wp_lsto (i := (.lstore 4)) _ rfl rfl (fun _ => rfl) rfl rfl rfl ?_
      refine wp_wk (L' := [some (4, (p0 : Int)), some (0, x1), some (2, (jor x2 v11)), none, some (2, (jor x4 v13)), none, some (0, x6)]) (wk_s (wk_s (wk_s (wk_n (wk_s (wk_n (wk_s wk_0))))))) ?_
      show wpv K_X2_normaliser d P 69 [some (4, (p0 : Int)), some (0, x1), some (2, (jor x2 v11)), none, some (2, (jor x4 v13)), none, some (0, x6)] [] G R V12
      obtain ⟨s14, w⟩ := w
      refine wp_inc (x := 6) (k := 1) (a := x6) (c := (x6 + 1)) _ rfl rfl rfl rfl s14 (by omega) rfl ?_
      show wpv K_X2_normaliser d P 72 [some (4, (p0 : Int)), some (0, x1), some (2, (jor x2 v11)), none, some (2, (jor x4 v13)), none, some (0, (x6 + 1))] [] G R V12
      refine wp_go 29 rfl rfl rfl (?_ : wpv K_X2_normaliser d P 29 [some (4, (p0 : Int)), some (0, x1), some (2, (jor x2 v11)), none, some (2, (jor x4 v13)), none, some (0, (x6 + 1))] [] G R V12)
      exact wp_wk (wk_s (wk_s (wk_s (wk_n (wk_s (wk_n (wk_s wk_0))))))) w
theorem t_X2_leadsToItself_0 {d : Nat} {P : gP} {p0 : Nat} {x1 : Int} {x2 : Int} {G : List gS} {R V : gV} (l0 : lay2 G R p0) (w : wpv K_X2_leadsToItself d P 2 [some (4, (p0 : Int)), some (0, x1), some (0, x2), some (0, 0)] [] G R V) : wpv K_X2_leadsToItself d P 0 [some (4, (p0 : Int)), some (0, x1), some (0, x2)] [] G R V := by
  refine wp_p (i := (.iconst 0)) rfl rfl (fun _ _ _ => rfl) (?_ : wpv K_X2_leadsToItself d P 1 [some (4, (p0 : Int)), some (0, x1), some (0, x2)] [(0, 0)] G R V)
  refine wp_sto (i := (.istore_n 3)) _ rfl rfl (fun _ => rfl) rfl rfl rfl ?_
  refine wp_wk (L' := [some (4, (p0 : Int)), some (0, x1), some (0, x2), some (0, 0)]) (wk_s (wk_s (wk_s (wk_s wk_0)))) ?_
  show wpv K_X2_leadsToItself d P 2 [some (4, (p0 : Int)), some (0, x1), some (0, x2), some (0, 0)] [] G R V
  exact wp_wk (wk_s (wk_s (wk_s (wk_s wk_0)))) w

theorem t_X2_leadsToItself_2 {d : Nat} {P : gP} {p0 : Nat} {x1 : Int} {x2 : Int} {x3 : Int} {G : List gS} {R V : gV} (l0 : lay2 G R p0) (w : ((i32 (V (p0 + 1) 1)) → ((i32 x3) ∧ (((¬ x3 < (V (p0 + 1) 1)) → P (some (0, 1)) V) ∧ ((x3 < (V (p0 + 1) 1)) → cwv d (fun r V4 => ∃ v5 : Int, r = some (0, v5) ∧ ((i32 v5) ∧ (((v5 = 0) → ((i32 (x3 + 1)) ∧ wpv K_X2_leadsToItself d P 2 [some (4, (p0 : Int)), some (0, x1), some (0, x2), some (0, (x3 + 1))] [] G R V4)) ∧ ((¬ v5 = 0) → cwv d (fun r V8 => ∃ v9 : Int, r = some (0, v9) ∧ cwv d (fun r V10 => ∃ v11 : Int, r = some (0, v11) ∧ ((i32 v11) ∧ (((¬ v11 = 0) → ((i32 (x3 + 1)) ∧ wpv K_X2_leadsToItself d P 2 [some (4, (p0 : Int)), some (0, x1), some (0, x2), some (0, (x3 + 1))] [] G R V10)) ∧ ((v11 = 0) → P (some (0, 0)) V10)))) 59 [(4, ((p0 + 10 : Nat) : Int)), (0, x2), (0, v9)] G R V8) 90 [(4, ((p0 + 1 : Nat) : Int)), (0, x1), (0, x3)] G R V4)))) 59 [(4, ((p0 + 10 : Nat) : Int)), (0, x2), (0, x3)] G R V))))) : wpv K_X2_leadsToItself d P 2 [some (4, (p0 : Int)), some (0, x1), some (0, x2), some (0, x3)] [] G R V := by
  refine wp_ld (i := (.iload_n 3)) (0, x3) rfl rfl (fun _ => rfl) rfl rfl (?_ : wpv K_X2_leadsToItself d P 3 [some (4, (p0 : Int)), some (0, x1), some (0, x2), some (0, x3)] [(0, x3)] G R V)
  refine wp_ld (i := (.aload_n 0)) (4, (p0 : Int)) rfl rfl (fun _ => rfl) rfl rfl (?_ : wpv K_X2_leadsToItself d P 4 [some (4, (p0 : Int)), some (0, x1), some (0, x2), some (0, x3)] [(4, (p0 : Int)), (0, x3)] G R V)
  refine wp_getA (k := 0) rfl rfl rfl (ly2_o l0) rfl rfl (ly2_0 l0).1 (?_ : wpv K_X2_leadsToItself d P 7 [some (4, (p0 : Int)), some (0, x1), some (0, x2), some (0, x3)] [(4, ((p0 + 1 : Nat) : Int)), (0, x3)] G R V)
  refine wp_rng (fun vr1 => ?_)
  have f2 : i32 (V (p0 + 1) 1) := vr_f0 vr1 (ly6_o (ly2_0 l0).2) rfl rfl
  replace w := w f2
  refine wp_getI (k := 1) rfl rfl rfl (ly6_o (ly2_0 l0).2) rfl rfl (?_ : wpv K_X2_leadsToItself d P 10 [some (4, (p0 : Int)), some (0, x1), some (0, x2), some (0, x3)] [(0, (V (p0 + 1) 1)), (0, x3)] G R V)
  obtain ⟨s3, w⟩ := w
  refine wp_icmp (c := .ge) 53 rfl rfl rfl s3 f2 (fun q => ?_) (fun q => ?_)
  · have q : ¬ x3 < (V (p0 + 1) 1) := q
    replace w := w.1 q
    show wpv K_X2_leadsToItself d P 53 [some (4, (p0 : Int)), some (0, x1), some (0, x2), some (0, x3)] [] G R V
    refine wp_p (i := (.iconst 1)) rfl rfl (fun _ _ _ => rfl) (?_ : wpv K_X2_leadsToItself d P 54 [some (4, (p0 : Int)), some (0, x1), some (0, x2), some (0, x3)] [(0, 1)] G R V)
    exact wp_rB rfl rfl rfl (by omega) w
  · have q : x3 < (V (p0 + 1) 1) := Decidable.not_not.mp q
    replace w := w.2 q
    show wpv K_X2_leadsToItself d P 13 [some (4, (p0 : Int)), some (0, x1), some (0, x2), some (0, x3)] [] G R V
    refine wp_ld (i := (.aload_n 0)) (4, (p0 : Int)) rfl rfl (fun _ => rfl) rfl rfl (?_ : wpv K_X2_leadsToItself d P 14 [some (4, (p0 : Int)), some (0, x1), some (0, x2), some (0, x3)] [(4, (p0 : Int))] G R V)
    refine wp_getA (k := 1) rfl rfl rfl (ly2_o l0) rfl rfl (ly2_1 l0).1 (?_ : wpv K_X2_leadsToItself d P 17 [some (4, (p0 : Int)), some (0, x1), some (0, x2), some (0, x3)] [(4, ((p0 + 10 : Nat) : Int))] G R V)
    refine wp_ld (i := (.iload_n 2)) (0, x2) rfl rfl (fun _ => rfl) rfl rfl (?_ : wpv K_X2_leadsToItself d P 18 [some (4, (p0 : Int)), some (0, x1), some (0, x2), some (0, x3)] [(0, x2), (4, ((p0 + 10 : Nat) : Int))] G R V)
    refine wp_ld (i := (.iload_n 3)) (0, x3) rfl rfl (fun _ => rfl) rfl rfl (?_ : wpv K_X2_leadsToItself d P 19 [some (4, (p0 : Int)), some (0, x1), some (0, x2), some (0, x3)] [(0, x3), (0, x2), (4, ((p0 + 10 : Nat) : Int))] G R V)
    refine wp_virt (as := [(0, x2), (0, x3)]) (a := p0 + 10) (st := []) _ rfl rfl rfl rfl rfl rfl (ly4_o (ly2_1 l0).2) (Nat.le_of_ble_eq_true rfl) (cwv_kI w (fun v5 V4 w => ?_))
    show wpv K_X2_leadsToItself d P 22 [some (4, (p0 : Int)), some (0, x1), some (0, x2), some (0, x3)] [(0, v5)] G R V4
    obtain ⟨s6, w⟩ := w
    refine wp_if (c := .eq) 47 rfl rfl rfl s6 (fun q => ?_) (fun q => ?_)
    · have q : v5 = 0 := q
      replace w := w.1 q
      show wpv K_X2_leadsToItself d P 47 [some (4, (p0 : Int)), some (0, x1), some (0, x2), some (0, x3)] [] G R V4
      obtain ⟨s7, w⟩ := w
      refine wp_inc (x := 3) (k := 1) (a := x3) (c := (x3 + 1)) _ rfl rfl rfl rfl s7 (by omega) rfl ?_
      show wpv K_X2_leadsToItself d P 50 [some (4, (p0 : Int)), some (0, x1), some (0, x2), some (0, (x3 + 1))] [] G R V4
      refine wp_go 2 rfl rfl rfl (?_ : wpv K_X2_leadsToItself d P 2 [some (4, (p0 : Int)), some (0, x1), some (0, x2), some (0, (x3 + 1))] [] G R V4)
      exact wp_wk (wk_s (wk_s (wk_s (wk_s wk_0)))) w
    · have q : ¬ v5 = 0 := q
      replace w := w.2 q
      show wpv K_X2_leadsToItself d P 25 [some (4, (p0 : Int)), some (0, x1), some (0, x2), some (0, x3)] [] G R V4
      refine wp_ld (i := (.aload_n 0)) (4, (p0 : Int)) rfl rfl (fun _ => rfl) rfl rfl (?_ : wpv K_X2_leadsToItself d P 26 [some (4, (p0 : Int)), some (0, x1), some (0, x2), some (0, x3)] [(4, (p0 : Int))] G R V4)
      refine wp_getA (k := 1) rfl rfl rfl (ly2_o l0) rfl rfl (ly2_1 l0).1 (?_ : wpv K_X2_leadsToItself d P 29 [some (4, (p0 : Int)), some (0, x1), some (0, x2), some (0, x3)] [(4, ((p0 + 10 : Nat) : Int))] G R V4)
      refine wp_ld (i := (.iload_n 2)) (0, x2) rfl rfl (fun _ => rfl) rfl rfl (?_ : wpv K_X2_leadsToItself d P 30 [some (4, (p0 : Int)), some (0, x1), some (0, x2), some (0, x3)] [(0, x2), (4, ((p0 + 10 : Nat) : Int))] G R V4)
      refine wp_ld (i := (.aload_n 0)) (4, (p0 : Int)) rfl rfl (fun _ => rfl) rfl rfl (?_ : wpv K_X2_leadsToItself d P 31 [some (4, (p0 : Int)), some (0, x1), some (0, x2), some (0, x3)] [(4, (p0 : Int)), (0, x2), (4, ((p0 + 10 : Nat) : Int))] G R V4)
      refine wp_getA (k := 0) rfl rfl rfl (ly2_o l0) rfl rfl (ly2_0 l0).1 (?_ : wpv K_X2_leadsToItself d P 34 [some (4, (p0 : Int)), some (0, x1), some (0, x2), some (0, x3)] [(4, ((p0 + 1 : Nat) : Int)), (0, x2), (4, ((p0 + 10 : Nat) : Int))] G R V4)
      refine wp_ld (i := (.iload_n 1)) (0, x1) rfl rfl (fun _ => rfl) rfl rfl (?_ : wpv K_X2_leadsToItself d P 35 [some (4, (p0 : Int)), some (0, x1), some (0, x2), some (0, x3)] [(0, x1), (4, ((p0 + 1 : Nat) : Int)), (0, x2), (4, ((p0 + 10 : Nat) : Int))] G R V4)
      refine wp_ld (i := (.iload_n 3)) (0, x3) rfl rfl (fun _ => rfl) rfl rfl (?_ : wpv K_X2_leadsToItself d P 36 [some (4, (p0 : Int)), some (0, x1), some (0, x2), some (0, x3)] [(0, x3), (0, x1), (4, ((p0 + 1 : Nat) : Int)), (0, x2), (4, ((p0 + 10 : Nat) : Int))] G R V4)
      refine wp_virt (as := [(0, x1), (0, x3)]) (a := p0 + 1) (st := [(0, x2), (4, ((p0 + 10 : Nat) : Int))]) _ rfl rfl rfl rfl rfl rfl (ly6_o (ly2_0 l0).2) (Nat.le_of_ble_eq_true rfl) (cwv_kI w (fun v9 V8 w => ?_))
      show wpv K_X2_leadsToItself d P 39 [some (4, (p0 : Int)), some (0, x1), some (0, x2), some (0, x3)] [(0, v9), (0, x2), (4, ((p0 + 10 : Nat) : Int))] G R V8
      refine wp_virt (as := [(0, x2), (0, v9)]) (a := p0 + 10) (st := []) _ rfl rfl rfl rfl rfl rfl (ly4_o (ly2_1 l0).2) (Nat.le_of_ble_eq_true rfl) (cwv_kI w (fun v11 V10 w => ?_))
      show wpv K_X2_leadsToItself d P 42 [some (4, (p0 : Int)), some (0, x1), some (0, x2), some (0, x3)] [(0, v11)] G R V10
      obtain ⟨s12, w⟩ := w
      refine wp_if (c := .ne) 47 rfl rfl rfl s12 (fun q => ?_) (fun q => ?_)
      · have q : ¬ v11 = 0 := q
        replace w := w.1 q
        show wpv K_X2_leadsToItself d P 47 [some (4, (p0 : Int)), some (0, x1), some (0, x2), some (0, x3)] [] G R V10
        obtain ⟨s13, w⟩ := w
        refine wp_inc (x := 3) (k := 1) (a := x3) (c := (x3 + 1)) _ rfl rfl rfl rfl s13 (by omega) rfl ?_
        show wpv K_X2_leadsToItself d P 50 [some (4, (p0 : Int)), some (0, x1), some (0, x2), some (0, (x3 + 1))] [] G R V10
        refine wp_go 2 rfl rfl rfl (?_ : wpv K_X2_leadsToItself d P 2 [some (4, (p0 : Int)), some (0, x1), some (0, x2), some (0, (x3 + 1))] [] G R V10)
        exact wp_wk (wk_s (wk_s (wk_s (wk_s wk_0)))) w
      · have q : v11 = 0 := Decidable.not_not.mp q
        replace w := w.2 q
        show wpv K_X2_leadsToItself d P 45 [some (4, (p0 : Int)), some (0, x1), some (0, x2), some (0, x3)] [] G R V10
        refine wp_p (i := (.iconst 0)) rfl rfl (fun _ _ _ => rfl) (?_ : wpv K_X2_leadsToItself d P 46 [some (4, (p0 : Int)), some (0, x1), some (0, x2), some (0, x3)] [(0, 0)] G R V10)
        exact wp_rB rfl rfl rfl (by omega) w
theorem t_X2_derived_0 {d : Nat} {P : gP} {p0 : Nat} {x1 : Int} {G : List gS} {R V : gV} (l0 : lay2 G R p0) (w : ((0 ≤ x1 ∧ x1 < 300) ∧ ((i32 (V (p0 + 16) x1)) → (((¬ (V (p0 + 16) x1) = (-1)) → P (some (0, (V (p0 + 16) x1))) V) ∧ (((V (p0 + 16) x1) = (-1)) → cwv d (fun r V4 => ∃ v5 : Int, r = some (0, v5) ∧ ((i32 v5) ∧ P (some (0, v5)) (wr V4 (p0 + 16) x1 v5))) 36 [(4, (p0 : Int)), (0, x1)] G R V))))) : wpv K_X2_derived d P 0 [some (4, (p0 : Int)), some (0, x1)] [] G R V := by
  refine wp_ld (i := (.aload_n 0)) (4, (p0 : Int)) rfl rfl (fun _ => rfl) rfl rfl (?_ : wpv K_X2_derived d P 1 [some (4, (p0 : Int)), some (0, x1)] [(4, (p0 : Int))] G R V)
  refine wp_getA (k := 1) rfl rfl rfl (ly2_o l0) rfl rfl (ly2_1 l0).1 (?_ : wpv K_X2_derived d P 4 [some (4, (p0 : Int)), some (0, x1)] [(4, ((p0 + 10 : Nat) : Int))] G R V)
  refine wp_getA (k := 7) rfl rfl rfl (ly4_o (ly2_1 l0).2) rfl rfl (ly4_7 (ly2_1 l0).2).1 (?_ : wpv K_X2_derived d P 7 [some (4, (p0 : Int)), some (0, x1)] [(4, ((p0 + 16 : Nat) : Int))] G R V)
  refine wp_ld (i := (.iload_n 1)) (0, x1) rfl rfl (fun _ => rfl) rfl rfl (?_ : wpv K_X2_derived d P 8 [some (4, (p0 : Int)), some (0, x1)] [(0, x1), (4, ((p0 + 16 : Nat) : Int))] G R V)
  obtain ⟨s1, w⟩ := w
  refine wp_rng (fun vr2 => ?_)
  have f3 : i32 (V (p0 + 16) x1) := vr_a0 vr2 (ly4_7 (ly2_1 l0).2).2 s1
  replace w := w f3
  refine wp_aI rfl rfl (ly4_7 (ly2_1 l0).2).2 s1 (?_ : wpv K_X2_derived d P 9 [some (4, (p0 : Int)), some (0, x1)] [(0, (V (p0 + 16) x1))] G R V)
  refine wp_p (i := (.iconst (-1))) rfl rfl (fun _ _ _ => rfl) (?_ : wpv K_X2_derived d P 10 [some (4, (p0 : Int)), some (0, x1)] [(0, (-1)), (0, (V (p0 + 16) x1))] G R V)
  refine wp_icmp (c := .ne) 27 rfl rfl rfl f3 ⟨by omega, by omega⟩ (fun q => ?_) (fun q => ?_)
  · have q : ¬ (V (p0 + 16) x1) = (-1) := q
    replace w := w.1 q
    show wpv K_X2_derived d P 27 [some (4, (p0 : Int)), some (0, x1)] [] G R V
    refine wp_ld (i := (.aload_n 0)) (4, (p0 : Int)) rfl rfl (fun _ => rfl) rfl rfl (?_ : wpv K_X2_derived d P 28 [some (4, (p0 : Int)), some (0, x1)] [(4, (p0 : Int))] G R V)
    refine wp_getA (k := 1) rfl rfl rfl (ly2_o l0) rfl rfl (ly2_1 l0).1 (?_ : wpv K_X2_derived d P 31 [some (4, (p0 : Int)), some (0, x1)] [(4, ((p0 + 10 : Nat) : Int))] G R V)
    refine wp_getA (k := 7) rfl rfl rfl (ly4_o (ly2_1 l0).2) rfl rfl (ly4_7 (ly2_1 l0).2).1 (?_ : wpv K_X2_derived d P 34 [some (4, (p0 : Int)), some (0, x1)] [(4, ((p0 + 16 : Nat) : Int))] G R V)
    refine wp_ld (i := (.iload_n 1)) (0, x1) rfl rfl (fun _ => rfl) rfl rfl (?_ : wpv K_X2_derived d P 35 [some (4, (p0 : Int)), some (0, x1)] [(0, x1), (4, ((p0 + 16 : Nat) : Int))] G R V)
    refine wp_aI rfl rfl (ly4_7 (ly2_1 l0).2).2 s1 (?_ : wpv K_X2_derived d P 36 [some (4, (p0 : Int)), some (0, x1)] [(0, (V (p0 + 16) x1))] G R V)
    exact wp_rI rfl rfl rfl w
  · have q : (V (p0 + 16) x1) = (-1) := Decidable.not_not.mp q
    replace w := w.2 q
    show wpv K_X2_derived d P 13 [some (4, (p0 : Int)), some (0, x1)] [] G R V
    refine wp_ld (i := (.aload_n 0)) (4, (p0 : Int)) rfl rfl (fun _ => rfl) rfl rfl (?_ : wpv K_X2_derived d P 14 [some (4, (p0 : Int)), some (0, x1)] [(4, (p0 : Int))] G R V)
    refine wp_getA (k := 1) rfl rfl rfl (ly2_o l0) rfl rfl (ly2_1 l0).1 (?_ : wpv K_X2_derived d P 17 [some (4, (p0 : Int)), some (0, x1)] [(4, ((p0 + 10 : Nat) : Int))] G R V)
    refine wp_getA (k := 7) rfl rfl rfl (ly4_o (ly2_1 l0).2) rfl rfl (ly4_7 (ly2_1 l0).2).1 (?_ : wpv K_X2_derived d P 20 [some (4, (p0 : Int)), some (0, x1)] [(4, ((p0 + 16 : Nat) : Int))] G R V)
    refine wp_ld (i := (.iload_n 1)) (0, x1) rfl rfl (fun _ => rfl) rfl rfl (?_ : wpv K_X2_derived d P 21 [some (4, (p0 : Int)), some (0, x1)] [(0, x1), (4, ((p0 + 16 : Nat) : Int))] G R V)
    refine wp_ld (i := (.aload_n 0)) (4, (p0 : Int)) rfl rfl (fun _ => rfl) rfl rfl (?_ : wpv K_X2_derived d P 22 [some (4, (p0 : Int)), some (0, x1)] [(4, (p0 : Int)), (0, x1), (4, ((p0 + 16 : Nat) : Int))] G R V)
    refine wp_ld (i := (.iload_n 1)) (0, x1) rfl rfl (fun _ => rfl) rfl rfl (?_ : wpv K_X2_derived d P 23 [some (4, (p0 : Int)), some (0, x1)] [(0, x1), (4, (p0 : Int)), (0, x1), (4, ((p0 + 16 : Nat) : Int))] G R V)
    refine wp_virt (as := [(0, x1)]) (a := p0) (st := [(0, x1), (4, ((p0 + 16 : Nat) : Int))]) _ rfl rfl rfl rfl rfl rfl (ly2_o l0) (Nat.le_of_ble_eq_true rfl) (cwv_kI w (fun v5 V4 w => ?_))
    show wpv K_X2_derived d P 26 [some (4, (p0 : Int)), some (0, x1)] [(0, v5), (0, x1), (4, ((p0 + 16 : Nat) : Int))] G R V4
    obtain ⟨s6, w⟩ := w
    refine wp_sI rfl rfl (ly4_7 (ly2_1 l0).2).2 s1 s6 (?_ : wpv K_X2_derived d P 27 [some (4, (p0 : Int)), some (0, x1)] [] G R (wr V4 (p0 + 16) x1 v5))
    refine wp_ld (i := (.aload_n 0)) (4, (p0 : Int)) rfl rfl (fun _ => rfl) rfl rfl (?_ : wpv K_X2_derived d P 28 [some (4, (p0 : Int)), some (0, x1)] [(4, (p0 : Int))] G R (wr V4 (p0 + 16) x1 v5))
    refine wp_getA (k := 1) rfl rfl rfl (ly2_o l0) rfl rfl (ly2_1 l0).1 (?_ : wpv K_X2_derived d P 31 [some (4, (p0 : Int)), some (0, x1)] [(4, ((p0 + 10 : Nat) : Int))] G R (wr V4 (p0 + 16) x1 v5))
    refine wp_getA (k := 7) rfl rfl rfl (ly4_o (ly2_1 l0).2) rfl rfl (ly4_7 (ly2_1 l0).2).1 (?_ : wpv K_X2_derived d P 34 [some (4, (p0 : Int)), some (0, x1)] [(4, ((p0 + 16 : Nat) : Int))] G R (wr V4 (p0 + 16) x1 v5))
    refine wp_ld (i := (.iload_n 1)) (0, x1) rfl rfl (fun _ => rfl) rfl rfl (?_ : wpv K_X2_derived d P 35 [some (4, (p0 : Int)), some (0, x1)] [(0, x1), (4, ((p0 + 16 : Nat) : Int))] G R (wr V4 (p0 + 16) x1 v5))
    refine wp_rng (fun vr7 => ?_)
    have r8 : ((wr V4 (p0 + 16) x1 v5) (p0 + 16) x1) = v5 := (wr_same _ _ _ _)
    refine wp_aIe rfl rfl (ly4_7 (ly2_1 l0).2).2 s1 r8 (?_ : wpv K_X2_derived d P 36 [some (4, (p0 : Int)), some (0, x1)] [(0, v5)] G R (wr V4 (p0 + 16) x1 v5))
    exact wp_rI rfl rfl rfl w
theorem t_X2_findDerived_0 {d : Nat} {P : gP} {p0 : Nat} {x1 : Int} {G : List gS} {R V : gV} (l0 : lay2 G R p0) (w : wpv K_X2_findDerived d P 8 [some (4, (p0 : Int)), some (0, x1), some (2, 1), none, some (2, 0), none, some (0, 1)] [] G R V) : wpv K_X2_findDerived d P 0 [some (4, (p0 : Int)), some (0, x1)] [] G R V := by
  refine wp_p (i := (.lconst 1)) rfl rfl (fun _ _ _ => rfl) (?_ : wpv K_X2_findDerived d P 1 [some (4, (p0 : Int)), some (0, x1)] [(2, 1)] G R V)
  refine wp_lsto (i := (.lstore_n 2)) _ rfl rfl (fun _ => rfl) rfl rfl rfl ?_
  refine wp_wk (L' := [some (4, (p0 : Int)), some (0, x1), some (2, 1)]) (wk_s (wk_s (wk_s wk_0))) ?_
  show wpv K_X2_findDerived d P 2 [some (4, (p0 : Int)), some (0, x1), some (2, 1)] [] G R V
  refine wp_p (i := (.lconst 0)) rfl rfl (fun _ _ _ => rfl) (?_ : wpv K_X2_findDerived d P 3 [some (4, (p0 : Int)), some (0, x1), some (2, 1)] [(2, 0)] G R V)
  refine wp_lsto (i := (.lstore 4)) _ rfl rfl (fun _ => rfl) rfl rfl rfl ?_
  refine wp_wk (L' := [some (4, (p0 : Int)), some (0, x1), some (2, 1), none, some (2, 0)]) (wk_s (wk_s (wk_s (wk_n (wk_s wk_0))))) ?_
  show wpv K_X2_findDerived d P 5 [some (4, (p0 : Int)), some (0, x1), some (2, 1), none, some (2, 0)] [] G R V
  refine wp_p (i := (.iconst 1)) rfl rfl (fun _ _ _ => rfl) (?_ : wpv K_X2_findDerived d P 6 [some (4, (p0 : Int)), some (0, x1), some (2, 1), none, some (2, 0)] [(0, 1)] G R V)
  refine wp_sto (i := (.istore 6)) _ rfl rfl (fun _ => rfl) rfl rfl rfl ?_
  refine wp_wk (L' := [some (4, (p0 : Int)), some (0, x1), some (2, 1), none, some (2, 0), none, some (0, 1)]) (wk_s (wk_s (wk_s (wk_n (wk_s (wk_n (wk_s wk_0))))))) ?_
  show wpv K_X2_findDerived d P 8 [some (4, (p0 : Int)), some (0, x1), some (2, 1), none, some (2, 0), none, some (0, 1)] [] G R V
  exact wp_wk (wk_s (wk_s (wk_s (wk_n (wk_s (wk_n (wk_s wk_0))))))) w

theorem t_X2_findDerived_8 {d : Nat} {P : gP} {p0 : Nat} {x1 : Int} {x2 : Int} {x4 : Int} {x6 : Int} {G : List gS} {R V : gV} (l0 : lay2 G R p0) (w : ((i32 (V (p0 + 1) 1)) → ((i32 x6) ∧ (((¬ x6 < (V (p0 + 1) 1)) → cwv d (fun r V4 => ∃ v5 : Int, r = some (0, v5) ∧ P (some (0, v5)) V4) 63 [(4, ((p0 + 10 : Nat) : Int)), (2, x2), (2, x4)] G R V) ∧ ((x6 < (V (p0 + 1) 1)) → cwv d (fun r V6 => ∃ v7 : Int, r = some (0, v7) ∧ ((i32 v7) ∧ (((¬ v7 = 0) → wpv K_X2_findDerived d P 39 [some (4, (p0 : Int)), some (0, x1), some (2, x2), none, some (2, x4), none, some (0, x6), some (0, 1)] [] G R V6) ∧ ((v7 = 0) → ((i32 (x6 + 1)) ∧ wpv K_X2_findDerived d P 8 [some (4, (p0 : Int)), some (0, x1), some (2, x2), none, some (2, x4), none, some (0, (x6 + 1))] [] G R V6))))) 59 [(4, ((p0 + 10 : Nat) : Int)), (0, x1), (0, x6)] G R V))))) : wpv K_X2_findDerived d P 8 [some (4, (p0 : Int)), some (0, x1), some (2, x2), none, some (2, x4), none, some (0, x6)] [] G R V := by
  refine wp_ld (i := (.iload 6)) (0, x6) rfl rfl (fun _ => rfl) rfl rfl (?_ : wpv K_X2_findDerived d P 10 [some (4, (p0 : Int)), some (0, x1), some (2, x2), none, some (2, x4), none, some (0, x6)] [(0, x6)] G R V)
  refine wp_ld (i := (.aload_n 0)) (4, (p0 : Int)) rfl rfl (fun _ => rfl) rfl rfl (?_ : wpv K_X2_findDerived d P 11 [some (4, (p0 : Int)), some (0, x1), some (2, x2), none, some (2, x4), none, some (0, x6)] [(4, (p0 : Int)), (0, x6)] G R V)
  refine wp_getA (k := 0) rfl rfl rfl (ly2_o l0) rfl rfl (ly2_0 l0).1 (?_ : wpv K_X2_findDerived d P 14 [some (4, (p0 : Int)), some (0, x1), some (2, x2), none, some (2, x4), none, some (0, x6)] [(4, ((p0 + 1 : Nat) : Int)), (0, x6)] G R V)
  refine wp_rng (fun vr1 => ?_)
  have f2 : i32 (V (p0 + 1) 1) := vr_f0 vr1 (ly6_o (ly2_0 l0).2) rfl rfl
  replace w := w f2
  refine wp_getI (k := 1) rfl rfl rfl (ly6_o (ly2_0 l0).2) rfl rfl (?_ : wpv K_X2_findDerived d P 17 [some (4, (p0 : Int)), some (0, x1), some (2, x2), none, some (2, x4), none, some (0, x6)] [(0, (V (p0 + 1) 1)), (0, x6)] G R V)
  obtain ⟨s3, w⟩ := w
  refine wp_icmp (c := .ge) 99 rfl rfl rfl s3 f2 (fun q => ?_) (fun q => ?_)
  · have q : ¬ x6 < (V (p0 + 1) 1) := q
    replace w := w.1 q
    show wpv K_X2_findDerived d P 99 [some (4, (p0 : Int)), some (0, x1), some (2, x2), none, some (2, x4), none, some (0, x6)] [] G R V
    refine wp_ld (i := (.aload_n 0)) (4, (p0 : Int)) rfl rfl (fun _ => rfl) rfl rfl (?_ : wpv K_X2_findDerived d P 100 [some (4, (p0 : Int)), some (0, x1), some (2, x2), none, some (2, x4), none, some (0, x6)] [(4, (p0 : Int))] G R V)
    refine wp_getA (k := 1) rfl rfl rfl (ly2_o l0) rfl rfl (ly2_1 l0).1 (?_ : wpv K_X2_findDerived d P 103 [some (4, (p0 : Int)), some (0, x1), some (2, x2), none, some (2, x4), none, some (0, x6)] [(4, ((p0 + 10 : Nat) : Int))] G R V)
    refine wp_ld (i := (.lload_n 2)) (2, x2) rfl rfl (fun _ => rfl) rfl rfl (?_ : wpv K_X2_findDerived d P 104 [some (4, (p0 : Int)), some (0, x1), some (2, x2), none, some (2, x4), none, some (0, x6)] [(2, x2), (4, ((p0 + 10 : Nat) : Int))] G R V)
    refine wp_ld (i := (.lload 4)) (2, x4) rfl rfl (fun _ => rfl) rfl rfl (?_ : wpv K_X2_findDerived d P 106 [some (4, (p0 : Int)), some (0, x1), some (2, x2), none, some (2, x4), none, some (0, x6)] [(2, x4), (2, x2), (4, ((p0 + 10 : Nat) : Int))] G R V)
    refine wp_virt (as := [(2, x2), (2, x4)]) (a := p0 + 10) (st := []) _ rfl rfl rfl rfl rfl rfl (ly4_o (ly2_1 l0).2) (Nat.le_of_ble_eq_true rfl) (cwv_kI w (fun v5 V4 w => ?_))
    show wpv K_X2_findDerived d P 109 [some (4, (p0 : Int)), some (0, x1), some (2, x2), none, some (2, x4), none, some (0, x6)] [(0, v5)] G R V4
    exact wp_rI rfl rfl rfl w
  · have q : x6 < (V (p0 + 1) 1) := Decidable.not_not.mp q
    replace w := w.2 q
    show wpv K_X2_findDerived d P 20 [some (4, (p0 : Int)), some (0, x1), some (2, x2), none, some (2, x4), none, some (0, x6)] [] G R V
    refine wp_ld (i := (.aload_n 0)) (4, (p0 : Int)) rfl rfl (fun _ => rfl) rfl rfl (?_ : wpv K_X2_findDerived d P 21 [some (4, (p0 : Int)), some (0, x1), some (2, x2), none, some (2, x4), none, some (0, x6)] [(4, (p0 : Int))] G R V)
    refine wp_getA (k := 1) rfl rfl rfl (ly2_o l0) rfl rfl (ly2_1 l0).1 (?_ : wpv K_X2_findDerived d P 24 [some (4, (p0 : Int)), some (0, x1), some (2, x2), none, some (2, x4), none, some (0, x6)] [(4, ((p0 + 10 : Nat) : Int))] G R V)
    refine wp_ld (i := (.iload_n 1)) (0, x1) rfl rfl (fun _ => rfl) rfl rfl (?_ : wpv K_X2_findDerived d P 25 [some (4, (p0 : Int)), some (0, x1), some (2, x2), none, some (2, x4), none, some (0, x6)] [(0, x1), (4, ((p0 + 10 : Nat) : Int))] G R V)
    refine wp_ld (i := (.iload 6)) (0, x6) rfl rfl (fun _ => rfl) rfl rfl (?_ : wpv K_X2_findDerived d P 27 [some (4, (p0 : Int)), some (0, x1), some (2, x2), none, some (2, x4), none, some (0, x6)] [(0, x6), (0, x1), (4, ((p0 + 10 : Nat) : Int))] G R V)
    refine wp_virt (as := [(0, x1), (0, x6)]) (a := p0 + 10) (st := []) _ rfl rfl rfl rfl rfl rfl (ly4_o (ly2_1 l0).2) (Nat.le_of_ble_eq_true rfl) (cwv_kI w (fun v7 V6 w => ?_))
    show wpv K_X2_findDerived d P 30 [some (4, (p0 : Int)), some (0, x1), some (2, x2), none, some (2, x4), none, some (0, x6)] [(0, v7)] G R V6
    obtain ⟨s8, w⟩ := w
    refine wp_if (c := .ne) 36 rfl rfl rfl s8 (fun q => ?_) (fun q => ?_)
    · have q : ¬ v7 = 0 := q
      replace w := w.1 q
      show wpv K_X2_findDerived d P 36 [some (4, (p0 : Int)), some (0, x1), some (2, x2), none, some (2, x4), none, some (0, x6)] [] G R V6
      refine wp_p (i := (.iconst 1)) rfl rfl (fun _ _ _ => rfl) (?_ : wpv K_X2_findDerived d P 37 [some (4, (p0 : Int)), some (0, x1), some (2, x2), none, some (2, x4), none, some (0, x6)] [(0, 1)] G R V6)
      refine wp_sto (i := (.istore 7)) _ rfl rfl (fun _ => rfl) rfl rfl rfl ?_
      refine wp_wk (L' := [some (4, (p0 : Int)), some (0, x1), some (2, x2), none, some (2, x4), none, some (0, x6), some (0, 1)]) (wk_s (wk_s (wk_s (wk_n (wk_s (wk_n (wk_s (wk_s wk_0)))))))) ?_
      show wpv K_X2_findDerived d P 39 [some (4, (p0 : Int)), some (0, x1), some (2, x2), none, some (2, x4), none, some (0, x6), some (0, 1)] [] G R V6
      exact wp_wk (wk_s (wk_s (wk_s (wk_n (wk_s (wk_n (wk_s (wk_s wk_0)))))))) w
    · have q : v7 = 0 := Decidable.not_not.mp q
      replace w := w.2 q
      show wpv K_X2_findDerived d P 33 [some (4, (p0 : Int)), some (0, x1), some (2, x2), none, some (2, x4), none, some (0, x6)] [] G R V6
      refine wp_go 93 rfl rfl rfl (?_ : wpv K_X2_findDerived d P 93 [some (4, (p0 : Int)), some (0, x1), some (2, x2), none, some (2, x4), none, some (0, x6)] [] G R V6)
      obtain ⟨s9, w⟩ := w
      refine wp_inc (x := 6) (k := 1) (a := x6) (c := (x6 + 1)) _ rfl rfl rfl rfl s9 (by omega) rfl ?_
      show wpv K_X2_findDerived d P 96 [some (4, (p0 : Int)), some (0, x1), some (2, x2), none, some (2, x4), none, some (0, (x6 + 1))] [] G R V6
      refine wp_go 8 rfl rfl rfl (?_ : wpv K_X2_findDerived d P 8 [some (4, (p0 : Int)), some (0, x1), some (2, x2), none, some (2, x4), none, some (0, (x6 + 1))] [] G R V6)
      exact wp_wk (wk_s (wk_s (wk_s (wk_n (wk_s (wk_n (wk_s wk_0))))))) w

theorem t_X2_findDerived_39 {d : Nat} {P : gP} {p0 : Nat} {x1 : Int} {x2 : Int} {x4 : Int} {x6 : Int} {x7 : Int} {G : List gS} {R V : gV} (l0 : lay2 G R p0) (w : ((i32 x7) ∧ ((i32 x6) ∧ (((¬ x7 < x6) → ((i32 (x6 + 1)) ∧ wpv K_X2_findDerived d P 8 [some (4, (p0 : Int)), some (0, x1), some (2, x2), none, some (2, x4), none, some (0, (x6 + 1))] [] G R V)) ∧ ((x7 < x6) → cwv d (fun r V4 => ∃ v5 : Int, r = some (0, v5) ∧ ((i32 v5) ∧ (((v5 = 0) → ((i32 (x7 + 1)) ∧ wpv K_X2_findDerived d P 39 [some (4, (p0 : Int)), some (0, x1), some (2, x2), none, some (2, x4), none, some (0, x6), some (0, (x7 + 1))] [] G R V4)) ∧ ((¬ v5 = 0) → cwv d (fun r V8 => ∃ v9 : Int, r = some (0, v9) ∧ cwv d (fun r V10 => ∃ v11 : Int, r = some (2, v11) ∧ cwv d (fun r V12 => ∃ v13 : Int, r = some (2, v13) ∧ ((i32 (x7 + 1)) ∧ wpv K_X2_findDerived d P 39 [some (4, (p0 : Int)), some (0, x1), some (2, (jor x2 v11)), none, some (2, (jor x4 v13)), none, some (0, x6), some (0, (x7 + 1))] [] G R V12)) 151 [(0, v9)] G R V10) 150 [(0, v9)] G R V8) 37 [(4, (p0 : Int)), (0, x6), (0, x7)] G R V4)))) 59 [(4, ((p0 + 10 : Nat) : Int)), (0, x1), (0, x7)] G R V))))) : wpv K_X2_findDerived d P 39 [some (4, (p0 : Int)), some (0, x1), some (2, x2), none, some (2, x4), none, some (0, x6), some (0, x7)] [] G R V := by
  refine wp_ld (i := (.iload 7)) (0, x7) rfl rfl (fun _ => rfl) rfl rfl (?_ : wpv K_X2_findDerived d P 41 [some (4, (p0 : Int)), some (0, x1), some (2, x2), none, some (2, x4), none, some (0, x6), some (0, x7)] [(0, x7)] G R V)
  refine wp_ld (i := (.iload 6)) (0, x6) rfl rfl (fun _ => rfl) rfl rfl (?_ : wpv K_X2_findDerived d P 43 [some (4, (p0 : Int)), some (0, x1), some (2, x2), none, some (2, x4), none, some (0, x6), some (0, x7)] [(0, x6), (0, x7)] G R V)
  obtain ⟨s1, w⟩ := w
  obtain ⟨s2, w⟩ := w
  refine wp_icmp (c := .ge) 93 rfl rfl rfl s1 s2 (fun q => ?_) (fun q => ?_)
  · have q : ¬ x7 < x6 := q
    replace w := w.1 q
    show wpv K_X2_findDerived d P 93 [some (4, (p0 : Int)), some (0, x1), some (2, x2), none, some (2, x4), none, some (0, x6), some (0, x7)] [] G R V
    obtain ⟨s3, w⟩ := w
    refine wp_inc (x := 6) (k := 1) (a := x6) (c := (x6 + 1)) _ rfl rfl rfl rfl s3 (by omega) rfl ?_
    show wpv K_X2_findDerived d P 96 [some (4, (p0 : Int)), some (0, x1), some (2, x2), none, some (2, x4), none, some (0, (x6 + 1)), some (0, x7)] [] G R V
    refine wp_go 8 rfl rfl rfl (?_ : wpv K_X2_findDerived d P 8 [some (4, (p0 : Int)), some (0, x1), some (2, x2), none, some (2, x4), none, some (0, (x6 + 1)), some (0, x7)] [] G R V)
    exact wp_wk (wk_s (wk_s (wk_s (wk_n (wk_s (wk_n (wk_s wk_0))))))) w
  · have q : x7 < x6 := Decidable.not_not.mp q
    replace w := w.2 q
    show wpv K_X2_findDerived d P 46 [some (4, (p0 : Int)), some (0, x1), some (2, x2), none, some (2, x4), none, some (0, x6), some (0, x7)] [] G R V
    refine wp_ld (i := (.aload_n 0)) (4, (p0 : Int)) rfl rfl (fun _ => rfl) rfl rfl (?_ : wpv K_X2_findDerived d P 47 [some (4, (p0 : Int)), some (0, x1), some (2, x2), none, some (2, x4), none, some (0, x6), some (0, x7)] [(4, (p0 : Int))] G R V)
    refine wp_getA (k := 1) rfl rfl rfl (ly2_o l0) rfl rfl (ly2_1 l0).1 (?_ : wpv K_X2_findDerived d P 50 [some (4, (p0 : Int)), some (0, x1), some (2, x2), none, some (2, x4), none, some (0, x6), some (0, x7)] [(4, ((p0 + 10 : Nat) : Int))] G R V)
    refine wp_ld (i := (.iload_n 1)) (0, x1) rfl rfl (fun _ => rfl) rfl rfl (?_ : wpv K_X2_findDerived d P 51 [some (4, (p0 : Int)), some (0, x1), some (2, x2), none, some (2, x4), none, some (0, x6), some (0, x7)] [(0, x1), (4, ((p0 + 10 : Nat) : Int))] G R V)
    refine wp_ld (i := (.iload 7)) (0, x7) rfl rfl (fun _ => rfl) rfl rfl (?_ : wpv K_X2_findDerived d P 53 [some (4, (p0 : Int)), some (0, x1), some (2, x2), none, some (2, x4), none, some (0, x6), some (0, x7)] [(0, x7), (0, x1), (4, ((p0 + 10 : Nat) : Int))] G R V)
    refine wp_virt (as := [(0, x1), (0, x7)]) (a := p0 + 10) (st := []) _ rfl rfl rfl rfl rfl rfl (ly4_o (ly2_1 l0).2) (Nat.le_of_ble_eq_true rfl) (cwv_kI w (fun v5 V4 w => ?_))
    show wpv K_X2_findDerived d P 56 [some (4, (p0 : Int)), some (0, x1), some (2, x2), none, some (2, x4), none, some (0, x6), some (0, x7)] [(0, v5)] G R V4
    obtain ⟨s6, w⟩ := w
    refine wp_if (c := .eq) 87 rfl rfl rfl s6 (fun q => ?_) (fun q => ?_)
    · have q : v5 = 0 := q
      replace w := w.1 q
      show wpv K_X2_findDerived d P 87 [some (4, (p0 : Int)), some (0, x1), some (2, x2), none, some (2, x4), none, some (0, x6), some (0, x7)] [] G R V4
      obtain ⟨s7, w⟩ := w
      refine wp_inc (x := 7) (k := 1) (a := x7) (c := (x7 + 1)) _ rfl rfl rfl rfl s7 (by omega) rfl ?_
      show wpv K_X2_findDerived d P 90 [some (4, (p0 : Int)), some (0, x1), some (2, x2), none, some (2, x4), none, some (0, x6), some (0, (x7 + 1))] [] G R V4
      refine wp_go 39 rfl rfl rfl (?_ : wpv K_X2_findDerived d P 39 [some (4, (p0 : Int)), some (0, x1), some (2, x2), none, some (2, x4), none, some (0, x6), some (0, (x7 + 1))] [] G R V4)
      exact wp_wk (wk_s (wk_s (wk_s (wk_n (wk_s (wk_n (wk_s (wk_s wk_0)))))))) w
    · have q : ¬ v5 = 0 := q
      replace w := w.2 q
      show wpv K_X2_findDerived d P 59 [some (4, (p0 : Int)), some (0, x1), some (2, x2), none, some (2, x4), none, some (0, x6), some (0, x7)] [] G R V4
      refine wp_ld (i := (.aload_n 0)) (4, (p0 : Int)) rfl rfl (fun _ => rfl) rfl rfl (?_ : wpv K_X2_findDerived d P 60 [some (4, (p0 : Int)), some (0, x1), some (2, x2), none, some (2, x4), none, some (0, x6), some (0, x7)] [(4, (p0 : Int))] G R V4)
      refine wp_ld (i := (.iload 6)) (0, x6) rfl rfl (fun _ => rfl) rfl rfl (?_ : wpv K_X2_findDerived d P 62 [some (4, (p0 : Int)), some (0, x1), some (2, x2), none, some (2, x4), none, some (0, x6), some (0, x7)] [(0, x6), (4, (p0 : Int))] G R V4)
      refine wp_ld (i := (.iload 7)) (0, x7) rfl rfl (fun _ => rfl) rfl rfl (?_ : wpv K_X2_findDerived d P 64 [some (4, (p0 : Int)), some (0, x1), some (2, x2), none, some (2, x4), none, some (0, x6), some (0, x7)] [(0, x7), (0, x6), (4, (p0 : Int))] G R V4)
      refine wp_virt (as := [(0, x6), (0, x7)]) (a := p0) (st := []) _ rfl rfl rfl rfl rfl rfl (ly2_o l0) (Nat.le_of_ble_eq_true rfl) (cwv_kI w (fun v9 V8 w => ?_))
      show wpv K_X2_findDerived d P 67 [some (4, (p0 : Int)), some (0, x1), some (2, x2), none, some (2, x4), none, some (0, x6), some (0, x7)] [(0, v9)] G R V8
      refine wp_sto (i := (.istore 8)) _ rfl rfl (fun _ => rfl) rfl rfl rfl ?_
      refine wp_wk (L' := [some (4, (p0 : Int)), some (0, x1), some (2, x2), none, some (2, x4), none, some (0, x6), some (0, x7), some (0, v9)]) (wk_s (wk_s (wk_s (wk_n (wk_s (wk_n (wk_s (wk_s (wk_s wk_0))))))))) ?_
      show wpv K_X2_findDerived d P 69 [some (4, (p0 : Int)), some (0, x1), some (2, x2), none, some (2, x4), none, some (0, x6), some (0, x7), some (0, v9)] [] G R V8
      refine wp_ld (i := (.lload_n 2)) (2, x2) rfl rfl (fun _ => rfl) rfl rfl (?_ : wpv K_X2_findDerived d P 70 [some (4, (p0 : Int)), some (0, x1), some (2, x2), none, some (2, x4), none, some (0, x6), some (0, x7), some (0, v9)] [(2, x2)] G R V8)
      refine wp_ld (i := (.iload 8)) (0, v9) rfl rfl (fun _ => rfl) rfl rfl (?_ : wpv K_X2_findDerived d P 72 [some (4, (p0 : Int)), some (0, x1), some (2, x2), none, some (2, x4), none, some (0, x6), some (0, x7), some (0, v9)] [(0, v9), (2, x2)] G R V8)
      refine wp_stat (as := [(0, v9)]) (st := [(2, x2)]) _ rfl rfl rfl (by omega) rfl rfl (Nat.le_of_ble_eq_true rfl) (cwv_kJ w (fun v11 V10 w => ?_))
      show wpv K_X2_findDerived d P 75 [some (4, (p0 : Int)), some (0, x1), some (2, x2), none, some (2, x4), none, some (0, x6), some (0, x7), some (0, v9)] [(2, v11), (2, x2)] G R V10
      refine wp_jor rfl rfl (?_ : wpv K_X2_findDerived d P 76 [some (4, (p0 : Int)), some (0, x1), some (2, x2), none, some (2, x4), none, some (0, x6), some (0, x7), some (0, v9)] [(2, (jor x2 v11))] G R V10)
      refine wp_lsto (i := (.lstore_n 2)) _ rfl rfl (fun _ => rfl) rfl rfl rfl ?_
      refine wp_wk (L' := [some (4, (p0 : Int)), some (0, x1), some (2, (jor x2 v11)), none, some (2, x4), none, some (0, x6), some (0, x7), some (0, v9)]) (wk_s (wk_s (wk_s (wk_n (wk_s (wk_n (wk_s (wk_s (wk_s wk_0))))))))) ?_
      show wpv K_X2_findDerived d P 77 [some (4, (p0 : Int)), some (0, x1), some (2, (jor x2 v11)), none, some (2, x4), none, some (0, x6), some (0, x7), some (0, v9)] [] G R V10
      refine wp_ld (i := (.lload 4)) (2, x4) rfl rfl (fun _ => rfl) rfl rfl (?_ : wpv K_X2_findDerived d P 79 [some (4, (p0 : Int)), some (0, x1), some (2, (jor x2 v11)), none, some (2, x4), none, some (0, x6), some (0, x7), some (0, v9)] [(2, x4)] G R V10)
      refine wp_ld (i := (.iload 8)) (0, v9) rfl rfl (fun _ => rfl) rfl rfl (?_ : wpv K_X2_findDerived d P 81 [some (4, (p0 : Int)), some (0, x1), some (2, (jor x2 v11)), none, some (2, x4), none, some (0, x6), some (0, x7), some (0, v9)] [(0, v9), (2, x4)] G R V10)
      refine wp_stat (as := [(0, v9)]) (st := [(2, x4)]) _ rfl rfl rfl (by omega) rfl rfl (Nat.le_of_ble_eq_true rfl) (cwv_kJ w (fun v13 V12 w => ?_))
      show wpv K_X2_findDerived d P 84 [some (4, (p0 : Int)), some (0, x1), some (2, (jor x2 v11)), none, some (2, x4), none, some (0, x6), some (0, x7), some (0, v9)] [(2, v13), (2, x4)] G R V12
      refine wp_jor rfl rfl (?_ : wpv K_X2_findDerived d P 85 [some (4, (p0 : Int)), some (0, x1), some (2, (jor x2 v11)), none, some (2, x4), none, some (0, x6), some (0, x7), some (0, v9)] [(2, (jor x4 v13))] G R V12)
      refine wp_lsto (i := (.lstore 4)) _ rfl rfl (fun _ => rfl) rfl rfl rfl ?_
      refine wp_wk (L' := [some (4, (p0 : Int)), some (0, x1), some (2, (jor x2 v11)), none, some (2, (jor x4 v13)), none, some (0, x6), some (0, x7), some (0, v9)]) (wk_s (wk_s (wk_s (wk_n (wk_s (wk_n (wk_s (wk_s (wk_s wk_0))))))))) ?_
      show wpv K_X2_findDerived d P 87 [some (4, (p0 : Int)), some (0, x1), some (2, (jor x2 v11)), none, some (2, (jor x4 v13)), none, some (0, x6), some (0, x7), some (0, v9)] [] G R V12
      obtain ⟨s14, w⟩ := w
      refine wp_inc (x := 7) (k := 1) (a := x7) (c := (x7 + 1)) _ rfl rfl rfl rfl s14 (by omega) rfl ?_
      show wpv K_X2_findDerived d P 90 [some (4, (p0 : Int)), some (0, x1), some (2, (jor x2 v11)), none, some (2, (jor x4 v13)), none, some (0, x6), some (0, (x7 + 1)), some (0, v9)] [] G R V12
      refine wp_go 39 rfl rfl rfl (?_ : wpv K_X2_findDerived d P 39 [some (4, (p0 : Int)), some (0, x1), some (2, (jor x2 v11)), none, some (2, (jor x4 v13)), none, some (0, x6), some (0, (x7 + 1)), some (0, v9)] [] G R V12)
      exact wp_wk (wk_s (wk_s (wk_s (wk_n (wk_s (wk_n (wk_s (wk_s wk_0)))))))) w
theorem t_X2_twistOf_0 {d : Nat} {P : gP} {p0 : Nat} {x1 : Int} {x2 : Int} {G : List gS} {R V : gV} (l0 : lay2 G R p0) (w : cwv d (fun r V1 => ∃ v2 : Int, r = some (0, v2) ∧ ((0 ≤ x1 ∧ x1 < 120) ∧ ((i32 (V1 (p0 + 3) x1)) → ((0 ≤ x2 ∧ x2 < 120) ∧ ((i32 (V1 (p0 + 3) x2)) → cwv d (fun r V8 => ∃ v9 : Int, r = some (0, v9) ∧ cwv d (fun r V10 => ∃ v11 : Int, r = some (0, v11) ∧ P (some (0, v11)) V10) 89 [(4, ((p0 + 1 : Nat) : Int)), (0, v2), (0, v9)] G R V8) 89 [(4, ((p0 + 1 : Nat) : Int)), (0, (V1 (p0 + 3) x1)), (0, (V1 (p0 + 3) x2))] G R V1))))) 89 [(4, ((p0 + 1 : Nat) : Int)), (0, x1), (0, x2)] G R V) : wpv K_X2_twistOf d P 0 [some (4, (p0 : Int)), some (0, x1), some (0, x2)] [] G R V := by
  refine wp_ld (i := (.aload_n 0)) (4, (p0 : Int)) rfl rfl (fun _ => rfl) rfl rfl (?_ : wpv K_X2_twistOf d P 1 [some (4, (p0 : Int)), some (0, x1), some (0, x2)] [(4, (p0 : Int))] G R V)
  refine wp_getA (k := 0) rfl rfl rfl (ly2_o l0) rfl rfl (ly2_0 l0).1 (?_ : wpv K_X2_twistOf d P 4 [some (4, (p0 : Int)), some (0, x1), some (0, x2)] [(4, ((p0 + 1 : Nat) : Int))] G R V)
  refine wp_ld (i := (.aload_n 0)) (4, (p0 : Int)) rfl rfl (fun _ => rfl) rfl rfl (?_ : wpv K_X2_twistOf d P 5 [some (4, (p0 : Int)), some (0, x1), some (0, x2)] [(4, (p0 : Int)), (4, ((p0 + 1 : Nat) : Int))] G R V)
  refine wp_getA (k := 0) rfl rfl rfl (ly2_o l0) rfl rfl (ly2_0 l0).1 (?_ : wpv K_X2_twistOf d P 8 [some (4, (p0 : Int)), some (0, x1), some (0, x2)] [(4, ((p0 + 1 : Nat) : Int)), (4, ((p0 + 1 : Nat) : Int))] G R V)
  refine wp_ld (i := (.iload_n 1)) (0, x1) rfl rfl (fun _ => rfl) rfl rfl (?_ : wpv K_X2_twistOf d P 9 [some (4, (p0 : Int)), some (0, x1), some (0, x2)] [(0, x1), (4, ((p0 + 1 : Nat) : Int)), (4, ((p0 + 1 : Nat) : Int))] G R V)
  refine wp_ld (i := (.iload_n 2)) (0, x2) rfl rfl (fun _ => rfl) rfl rfl (?_ : wpv K_X2_twistOf d P 10 [some (4, (p0 : Int)), some (0, x1), some (0, x2)] [(0, x2), (0, x1), (4, ((p0 + 1 : Nat) : Int)), (4, ((p0 + 1 : Nat) : Int))] G R V)
  refine wp_virt (as := [(0, x1), (0, x2)]) (a := p0 + 1) (st := [(4, ((p0 + 1 : Nat) : Int))]) _ rfl rfl rfl rfl rfl rfl (ly6_o (ly2_0 l0).2) (Nat.le_of_ble_eq_true rfl) (cwv_kI w (fun v2 V1 w => ?_))
  show wpv K_X2_twistOf d P 13 [some (4, (p0 : Int)), some (0, x1), some (0, x2)] [(0, v2), (4, ((p0 + 1 : Nat) : Int))] G R V1
  refine wp_ld (i := (.aload_n 0)) (4, (p0 : Int)) rfl rfl (fun _ => rfl) rfl rfl (?_ : wpv K_X2_twistOf d P 14 [some (4, (p0 : Int)), some (0, x1), some (0, x2)] [(4, (p0 : Int)), (0, v2), (4, ((p0 + 1 : Nat) : Int))] G R V1)
  refine wp_getA (k := 0) rfl rfl rfl (ly2_o l0) rfl rfl (ly2_0 l0).1 (?_ : wpv K_X2_twistOf d P 17 [some (4, (p0 : Int)), some (0, x1), some (0, x2)] [(4, ((p0 + 1 : Nat) : Int)), (0, v2), (4, ((p0 + 1 : Nat) : Int))] G R V1)
  refine wp_ld (i := (.aload_n 0)) (4, (p0 : Int)) rfl rfl (fun _ => rfl) rfl rfl (?_ : wpv K_X2_twistOf d P 18 [some (4, (p0 : Int)), some (0, x1), some (0, x2)] [(4, (p0 : Int)), (4, ((p0 + 1 : Nat) : Int)), (0, v2), (4, ((p0 + 1 : Nat) : Int))] G R V1)
  refine wp_getA (k := 0) rfl rfl rfl (ly2_o l0) rfl rfl (ly2_0 l0).1 (?_ : wpv K_X2_twistOf d P 21 [some (4, (p0 : Int)), some (0, x1), some (0, x2)] [(4, ((p0 + 1 : Nat) : Int)), (4, ((p0 + 1 : Nat) : Int)), (0, v2), (4, ((p0 + 1 : Nat) : Int))] G R V1)
  refine wp_getA (k := 4) rfl rfl rfl (ly6_o (ly2_0 l0).2) rfl rfl (ly6_4 (ly2_0 l0).2).1 (?_ : wpv K_X2_twistOf d P 24 [some (4, (p0 : Int)), some (0, x1), some (0, x2)] [(4, ((p0 + 3 : Nat) : Int)), (4, ((p0 + 1 : Nat) : Int)), (0, v2), (4, ((p0 + 1 : Nat) : Int))] G R V1)
  refine wp_ld (i := (.iload_n 1)) (0, x1) rfl rfl (fun _ => rfl) rfl rfl (?_ : wpv K_X2_twistOf d P 25 [some (4, (p0 : Int)), some (0, x1), some (0, x2)] [(0, x1), (4, ((p0 + 3 : Nat) : Int)), (4, ((p0 + 1 : Nat) : Int)), (0, v2), (4, ((p0 + 1 : Nat) : Int))] G R V1)
  obtain ⟨s3, w⟩ := w
  refine wp_rng (fun vr4 => ?_)
  have f5 : i32 (V1 (p0 + 3) x1) := vr_a0 vr4 (ly6_4 (ly2_0 l0).2).2 s3
  replace w := w f5
  refine wp_aI rfl rfl (ly6_4 (ly2_0 l0).2).2 s3 (?_ : wpv K_X2_twistOf d P 26 [some (4, (p0 : Int)), some (0, x1), some (0, x2)] [(0, (V1 (p0 + 3) x1)), (4, ((p0 + 1 : Nat) : Int)), (0, v2), (4, ((p0 + 1 : Nat) : Int))] G R V1)
  refine wp_ld (i := (.aload_n 0)) (4, (p0 : Int)) rfl rfl (fun _ => rfl) rfl rfl (?_ : wpv K_X2_twistOf d P 27 [some (4, (p0 : Int)), some (0, x1), some (0, x2)] [(4, (p0 : Int)), (0, (V1 (p0 + 3) x1)), (4, ((p0 + 1 : Nat) : Int)), (0, v2), (4, ((p0 + 1 : Nat) : Int))] G R V1)
  refine wp_getA (k := 0) rfl rfl rfl (ly2_o l0) rfl rfl (ly2_0 l0).1 (?_ : wpv K_X2_twistOf d P 30 [some (4, (p0 : Int)), some (0, x1), some (0, x2)] [(4, ((p0 + 1 : Nat) : Int)), (0, (V1 (p0 + 3) x1)), (4, ((p0 + 1 : Nat) : Int)), (0, v2), (4, ((p0 + 1 : Nat) : Int))] G R V1)
  refine wp_getA (k := 4) rfl rfl rfl (ly6_o (ly2_0 l0).2) rfl rfl (ly6_4 (ly2_0 l0).2).1 (?_ : wpv K_X2_twistOf d P 33 [some (4, (p0 : Int)), some (0, x1), some (0, x2)] [(4, ((p0 + 3 : Nat) : Int)), (0, (V1 (p0 + 3) x1)), (4, ((p0 + 1 : Nat) : Int)), (0, v2), (4, ((p0 + 1 : Nat) : Int))] G R V1)
  refine wp_ld (i := (.iload_n 2)) (0, x2) rfl rfl (fun _ => rfl) rfl rfl (?_ : wpv K_X2_twistOf d P 34 [some (4, (p0 : Int)), some (0, x1), some (0, x2)] [(0, x2), (4, ((p0 + 3 : Nat) : Int)), (0, (V1 (p0 + 3) x1)), (4, ((p0 + 1 : Nat) : Int)), (0, v2), (4, ((p0 + 1 : Nat) : Int))] G R V1)
  obtain ⟨s6, w⟩ := w
  have f7 : i32 (V1 (p0 + 3) x2) := vr_a0 vr4 (ly6_4 (ly2_0 l0).2).2 s6
  replace w := w f7
  refine wp_aI rfl rfl (ly6_4 (ly2_0 l0).2).2 s6 (?_ : wpv K_X2_twistOf d P 35 [some (4, (p0 : Int)), some (0, x1), some (0, x2)] [(0, (V1 (p0 + 3) x2)), (0, (V1 (p0 + 3) x1)), (4, ((p0 + 1 : Nat) : Int)), (0, v2), (4, ((p0 + 1 : Nat) : Int))] G R V1)
  refine wp_virt (as := [(0, (V1 (p0 + 3) x1)), (0, (V1 (p0 + 3) x2))]) (a := p0 + 1) (st := [(0, v2), (4, ((p0 + 1 : Nat) : Int))]) _ rfl rfl rfl rfl rfl rfl (ly6_o (ly2_0 l0).2) (Nat.le_of_ble_eq_true rfl) (cwv_kI w (fun v9 V8 w => ?_))
  show wpv K_X2_twistOf d P 38 [some (4, (p0 : Int)), some (0, x1), some (0, x2)] [(0, v9), (0, v2), (4, ((p0 + 1 : Nat) : Int))] G R V8
  refine wp_virt (as := [(0, v2), (0, v9)]) (a := p0 + 1) (st := []) _ rfl rfl rfl rfl rfl rfl (ly6_o (ly2_0 l0).2) (Nat.le_of_ble_eq_true rfl) (cwv_kI w (fun v11 V10 w => ?_))
  show wpv K_X2_twistOf d P 41 [some (4, (p0 : Int)), some (0, x1), some (0, x2)] [(0, v11)] G R V10
  exact wp_rI rfl rfl rfl w
theorem t_X3_find_0 {d : Nat} {P : gP} {p0 : Nat} {p1 : Nat} {G : List gS} {R V : gV} (l0 : lay3 G R p0) (l1 : lay6 G R p1) (w : cwv d (fun r V1 => r = none ∧ cwv d (fun r V2 => r = none ∧ cwv d (fun r V3 => r = none ∧ wpv K_X3_find d P 26 [some (4, (p0 : Int)), some (4, (p1 : Int)), some (0, 0)] [] G R V3) 44 [(4, (p0 : Int))] G R V2) 43 [(4, (p0 : Int)), (4, (p1 : Int))] G R V1) 41 [(4, (p0 : Int)), (4, (p1 : Int))] G R (wr (wr V p0 0 0) p0 5 0)) : wpv K_X3_find d P 0 [some (4, (p0 : Int)), some (4, (p1 : Int))] [] G R V := by
  refine wp_ld (i := (.aload_n 0)) (4, (p0 : Int)) rfl rfl (fun _ => rfl) rfl rfl (?_ : wpv K_X3_find d P 1 [some (4, (p0 : Int)), some (4, (p1 : Int))] [(4, (p0 : Int))] G R V)
  refine wp_p (i := (.iconst 0)) rfl rfl (fun _ _ _ => rfl) (?_ : wpv K_X3_find d P 2 [some (4, (p0 : Int)), some (4, (p1 : Int))] [(0, 0), (4, (p0 : Int))] G R V)
  refine wp_putI (k := 0) rfl rfl rfl (ly3_o l0) rfl rfl rfl ⟨by omega, by omega⟩ (?_ : wpv K_X3_find d P 5 [some (4, (p0 : Int)), some (4, (p1 : Int))] [] G R (wr V p0 0 0))
  refine wp_ld (i := (.aload_n 0)) (4, (p0 : Int)) rfl rfl (fun _ => rfl) rfl rfl (?_ : wpv K_X3_find d P 6 [some (4, (p0 : Int)), some (4, (p1 : Int))] [(4, (p0 : Int))] G R (wr V p0 0 0))
  refine wp_p (i := (.iconst 0)) rfl rfl (fun _ _ _ => rfl) (?_ : wpv K_X3_find d P 7 [some (4, (p0 : Int)), some (4, (p1 : Int))] [(0, 0), (4, (p0 : Int))] G R (wr V p0 0 0))
  refine wp_putI (k := 5) rfl rfl rfl (ly3_o l0) rfl rfl rfl ⟨by omega, by omega⟩ (?_ : wpv K_X3_find d P 10 [some (4, (p0 : Int)), some (4, (p1 : Int))] [] G R (wr (wr V p0 0 0) p0 5 0))
  refine wp_ld (i := (.aload_n 0)) (4, (p0 : Int)) rfl rfl (fun _ => rfl) rfl rfl (?_ : wpv K_X3_find d P 11 [some (4, (p0 : Int)), some (4, (p1 : Int))] [(4, (p0 : Int))] G R (wr (wr V p0 0 0) p0 5 0))
  refine wp_ld (i := (.aload_n 1)) (4, (p1 : Int)) rfl rfl (fun _ => rfl) rfl rfl (?_ : wpv K_X3_find d P 12 [some (4, (p0 : Int)), some (4, (p1 : Int))] [(4, (p1 : Int)), (4, (p0 : Int))] G R (wr (wr V p0 0 0) p0 5 0))
  refine wp_virt (as := [(4, (p1 : Int))]) (a := p0) (st := []) _ rfl rfl rfl rfl rfl rfl (ly3_o l0) (Nat.le_of_ble_eq_true rfl) (cwv_k0 w (fun V1 w => ?_))
  show wpv K_X3_find d P 15 [some (4, (p0 : Int)), some (4, (p1 : Int))] [] G R V1
  refine wp_ld (i := (.aload_n 0)) (4, (p0 : Int)) rfl rfl (fun _ => rfl) rfl rfl (?_ : wpv K_X3_find d P 16 [some (4, (p0 : Int)), some (4, (p1 : Int))] [(4, (p0 : Int))] G R V1)
  refine wp_ld (i := (.aload_n 1)) (4, (p1 : Int)) rfl rfl (fun _ => rfl) rfl rfl (?_ : wpv K_X3_find d P 17 [some (4, (p0 : Int)), some (4, (p1 : Int))] [(4, (p1 : Int)), (4, (p0 : Int))] G R V1)
  refine wp_virt (as := [(4, (p1 : Int))]) (a := p0) (st := []) _ rfl rfl rfl rfl rfl rfl (ly3_o l0) (Nat.le_of_ble_eq_true rfl) (cwv_k0 w (fun V2 w => ?_))
  show wpv K_X3_find d P 20 [some (4, (p0 : Int)), some (4, (p1 : Int))] [] G R V2
  refine wp_ld (i := (.aload_n 0)) (4, (p0 : Int)) rfl rfl (fun _ => rfl) rfl rfl (?_ : wpv K_X3_find d P 21 [some (4, (p0 : Int)), some (4, (p1 : Int))] [(4, (p0 : Int))] G R V2)
  refine wp_virt (as := []) (a := p0) (st := []) _ rfl rfl rfl rfl rfl rfl (ly3_o l0) (Nat.le_of_ble_eq_true rfl) (cwv_k0 w (fun V3 w => ?_))
  show wpv K_X3_find d P 24 [some (4, (p0 : Int)), some (4, (p1 : Int))] [] G R V3
  refine wp_p (i := (.iconst 0)) rfl rfl (fun _ _ _ => rfl) (?_ : wpv K_X3_find d P 25 [some (4, (p0 : Int)), some (4, (p1 : Int))] [(0, 0)] G R V3)
  refine wp_sto (i := (.istore_n 2)) _ rfl rfl (fun _ => rfl) rfl rfl rfl ?_
  refine wp_wk (L' := [some (4, (p0 : Int)), some (4, (p1 : Int)), some (0, 0)]) (wk_s (wk_s (wk_s wk_0))) ?_
  show wpv K_X3_find d P 26 [some (4, (p0 : Int)), some (4, (p1 : Int)), some (0, 0)] [] G R V3
  exact wp_wk (wk_s (wk_s (wk_s wk_0))) w

theorem t_X3_find_26 {d : Nat} {P : gP} {p0 : Nat} {p1 : Nat} {x2 : Int} {G : List gS} {R V : gV} (l0 : lay3 G R p0) (l1 : lay6 G R p1) (w : ((i32 (V p0 5)) → ((i32 x2) ∧ (((¬ x2 < (V p0 5)) → P (some (0, 1)) V) ∧ ((x2 < (V p0 5)) → (((¬ x2 < 300) → P (some (0, 1)) V) ∧ ((x2 < 300) → cwv d (fun r V4 => ∃ v5 : Int, r = some (0, v5) ∧ ((i32 v5) ∧ (((¬ v5 = 0) → ((i32 (x2 + 1)) ∧ wpv K_X3_find d P 26 [some (4, (p0 : Int)), some (4, (p1 : Int)), some (0, (x2 + 1))] [] G R V4)) ∧ ((v5 = 0) → P (some (0, 0)) V4)))) 45 [(4, (p0 : Int)), (0, x2), (4, (p1 : Int))] G R V))))))) : wpv K_X3_find d P 26 [some (4, (p0 : Int)), some (4, (p1 : Int)), some (0, x2)] [] G R V := by
  refine wp_ld (i := (.iload_n 2)) (0, x2) rfl rfl (fun _ => rfl) rfl rfl (?_ : wpv K_X3_find d P 27 [some (4, (p0 : Int)), some (4, (p1 : Int)), some (0, x2)] [(0, x2)] G R V)
  refine wp_ld (i := (.aload_n 0)) (4, (p0 : Int)) rfl rfl (fun _ => rfl) rfl rfl (?_ : wpv K_X3_find d P 28 [some (4, (p0 : Int)), some (4, (p1 : Int)), some (0, x2)] [(4, (p0 : Int)), (0, x2)] G R V)
  refine wp_rng (fun vr1 => ?_)
  have f2 : i32 (V p0 5) := vr_f0 vr1 (ly3_o l0) rfl rfl
  replace w := w f2
  refine wp_getI (k := 5) rfl rfl rfl (ly3_o l0) rfl rfl (?_ : wpv K_X3_find d P 31 [some (4, (p0 : Int)), some (4, (p1 : Int)), some (0, x2)] [(0, (V p0 5)), (0, x2)] G R V)
  obtain ⟨s3, w⟩ := w
  refine wp_icmp (c := .ge) 58 rfl rfl rfl s3 f2 (fun q => ?_) (fun q => ?_)
  · have q : ¬ x2 < (V p0 5) := q
    replace w := w.1 q
    show wpv K_X3_find d P 58 [some (4, (p0 : Int)), some (4, (p1 : Int)), some (0, x2)] [] G R V
    refine wp_p (i := (.iconst 1)) rfl rfl (fun _ _ _ => rfl) (?_ : wpv K_X3_find d P 59 [some (4, (p0 : Int)), some (4, (p1 : Int)), some (0, x2)] [(0, 1)] G R V)
    exact wp_rB rfl rfl rfl (by omega) w
  · have q : x2 < (V p0 5) := Decidable.not_not.mp q
    replace w := w.2 q
    show wpv K_X3_find d P 34 [some (4, (p0 : Int)), some (4, (p1 : Int)), some (0, x2)] [] G R V
    refine wp_ld (i := (.iload_n 2)) (0, x2) rfl rfl (fun _ => rfl) rfl rfl (?_ : wpv K_X3_find d P 35 [some (4, (p0 : Int)), some (4, (p1 : Int)), some (0, x2)] [(0, x2)] G R V)
    refine wp_p (i := (.sipush 300)) rfl rfl (fun _ _ _ => rfl) (?_ : wpv K_X3_find d P 38 [some (4, (p0 : Int)), some (4, (p1 : Int)), some (0, x2)] [(0, 300), (0, x2)] G R V)
    refine wp_icmp (c := .ge) 58 rfl rfl rfl s3 ⟨by omega, by omega⟩ (fun q => ?_) (fun q => ?_)
    · have q : ¬ x2 < 300 := q
      replace w := w.1 q
      show wpv K_X3_find d P 58 [some (4, (p0 : Int)), some (4, (p1 : Int)), some (0, x2)] [] G R V
      refine wp_p (i := (.iconst 1)) rfl rfl (fun _ _ _ => rfl) (?_ : wpv K_X3_find d P 59 [some (4, (p0 : Int)), some (4, (p1 : Int)), some (0, x2)] [(0, 1)] G R V)
      exact wp_rB rfl rfl rfl (by omega) w
    · have q : x2 < 300 := Decidable.not_not.mp q
      replace w := w.2 q
      show wpv K_X3_find d P 41 [some (4, (p0 : Int)), some (4, (p1 : Int)), some (0, x2)] [] G R V
      refine wp_ld (i := (.aload_n 0)) (4, (p0 : Int)) rfl rfl (fun _ => rfl) rfl rfl (?_ : wpv K_X3_find d P 42 [some (4, (p0 : Int)), some (4, (p1 : Int)), some (0, x2)] [(4, (p0 : Int))] G R V)
      refine wp_ld (i := (.iload_n 2)) (0, x2) rfl rfl (fun _ => rfl) rfl rfl (?_ : wpv K_X3_find d P 43 [some (4, (p0 : Int)), some (4, (p1 : Int)), some (0, x2)] [(0, x2), (4, (p0 : Int))] G R V)
      refine wp_ld (i := (.aload_n 1)) (4, (p1 : Int)) rfl rfl (fun _ => rfl) rfl rfl (?_ : wpv K_X3_find d P 44 [some (4, (p0 : Int)), some (4, (p1 : Int)), some (0, x2)] [(4, (p1 : Int)), (0, x2), (4, (p0 : Int))] G R V)
      refine wp_virt (as := [(0, x2), (4, (p1 : Int))]) (a := p0) (st := []) _ rfl rfl rfl rfl rfl rfl (ly3_o l0) (Nat.le_of_ble_eq_true rfl) (cwv_kI w (fun v5 V4 w => ?_))
      show wpv K_X3_find d P 47 [some (4, (p0 : Int)), some (4, (p1 : Int)), some (0, x2)] [(0, v5)] G R V4
      obtain ⟨s6, w⟩ := w
      refine wp_if (c := .ne) 52 rfl rfl rfl s6 (fun q => ?_) (fun q => ?_)
      · have q : ¬ v5 = 0 := q
        replace w := w.1 q
        show wpv K_X3_find d P 52 [some (4, (p0 : Int)), some (4, (p1 : Int)), some (0, x2)] [] G R V4
        obtain ⟨s7, w⟩ := w
        refine wp_inc (x := 2) (k := 1) (a := x2) (c := (x2 + 1)) _ rfl rfl rfl rfl s7 (by omega) rfl ?_
        show wpv K_X3_find d P 55 [some (4, (p0 : Int)), some (4, (p1 : Int)), some (0, (x2 + 1))] [] G R V4
        refine wp_go 26 rfl rfl rfl (?_ : wpv K_X3_find d P 26 [some (4, (p0 : Int)), some (4, (p1 : Int)), some (0, (x2 + 1))] [] G R V4)
        exact wp_wk (wk_s (wk_s (wk_s wk_0))) w
      · have q : v5 = 0 := Decidable.not_not.mp q
        replace w := w.2 q
        show wpv K_X3_find d P 50 [some (4, (p0 : Int)), some (4, (p1 : Int)), some (0, x2)] [] G R V4
        refine wp_p (i := (.iconst 0)) rfl rfl (fun _ _ _ => rfl) (?_ : wpv K_X3_find d P 51 [some (4, (p0 : Int)), some (4, (p1 : Int)), some (0, x2)] [(0, 0)] G R V4)
        exact wp_rB rfl rfl rfl (by omega) w
