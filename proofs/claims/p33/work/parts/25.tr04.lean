theorem t_X8_same_0 {d : Nat} {P : gP} {p0 : Nat} {x1 : Int} {x2 : Int} {G : List gS} {R V : gV} (l0 : lay8 G R p0) (w : cwv d (fun r V1 => ∃ v2 : Int, r = some (0, v2) ∧ ((i32 v2) ∧ (((v2 = 0) → P (some (0, (-2))) V1) ∧ ((¬ v2 = 0) → cwv d (fun r V4 => ∃ v5 : Int, r = some (0, v5) ∧ ((i32 v5) ∧ (((¬ v5 = 0) → wpv K_X8_same d P 21 [some (4, (p0 : Int)), some (0, x1), some (0, x2), some (0, 0)] [] G R V4) ∧ ((v5 = 0) → P (some (0, (-2))) V4)))) 209 [(4, (p0 : Int)), (0, x2)] G R V1)))) 209 [(4, (p0 : Int)), (0, x1)] G R V) : wpv K_X8_same d P 0 [some (4, (p0 : Int)), some (0, x1), some (0, x2)] [] G R V := by
  refine wp_ld (i := (.aload_n 0)) (4, (p0 : Int)) rfl rfl (fun _ => rfl) rfl rfl (?_ : wpv K_X8_same d P 1 [some (4, (p0 : Int)), some (0, x1), some (0, x2)] [(4, (p0 : Int))] G R V)
  refine wp_ld (i := (.iload_n 1)) (0, x1) rfl rfl (fun _ => rfl) rfl rfl (?_ : wpv K_X8_same d P 2 [some (4, (p0 : Int)), some (0, x1), some (0, x2)] [(0, x1), (4, (p0 : Int))] G R V)
  refine wp_virt (as := [(0, x1)]) (a := p0) (st := []) _ rfl rfl rfl rfl rfl rfl (ly8_o l0) (Nat.le_of_ble_eq_true rfl) (cwv_kI w (fun v2 V1 w => ?_))
  show wpv K_X8_same d P 5 [some (4, (p0 : Int)), some (0, x1), some (0, x2)] [(0, v2)] G R V1
  obtain ⟨s3, w⟩ := w
  refine wp_if (c := .eq) 16 rfl rfl rfl s3 (fun q => ?_) (fun q => ?_)
  · have q : v2 = 0 := q
    replace w := w.1 q
    show wpv K_X8_same d P 16 [some (4, (p0 : Int)), some (0, x1), some (0, x2)] [] G R V1
    refine wp_p (i := (.bipush (-2))) rfl rfl (fun _ _ _ => rfl) (?_ : wpv K_X8_same d P 18 [some (4, (p0 : Int)), some (0, x1), some (0, x2)] [(0, (-2))] G R V1)
    exact wp_rI rfl rfl rfl w
  · have q : ¬ v2 = 0 := q
    replace w := w.2 q
    show wpv K_X8_same d P 8 [some (4, (p0 : Int)), some (0, x1), some (0, x2)] [] G R V1
    refine wp_ld (i := (.aload_n 0)) (4, (p0 : Int)) rfl rfl (fun _ => rfl) rfl rfl (?_ : wpv K_X8_same d P 9 [some (4, (p0 : Int)), some (0, x1), some (0, x2)] [(4, (p0 : Int))] G R V1)
    refine wp_ld (i := (.iload_n 2)) (0, x2) rfl rfl (fun _ => rfl) rfl rfl (?_ : wpv K_X8_same d P 10 [some (4, (p0 : Int)), some (0, x1), some (0, x2)] [(0, x2), (4, (p0 : Int))] G R V1)
    refine wp_virt (as := [(0, x2)]) (a := p0) (st := []) _ rfl rfl rfl rfl rfl rfl (ly8_o l0) (Nat.le_of_ble_eq_true rfl) (cwv_kI w (fun v5 V4 w => ?_))
    show wpv K_X8_same d P 13 [some (4, (p0 : Int)), some (0, x1), some (0, x2)] [(0, v5)] G R V4
    obtain ⟨s6, w⟩ := w
    refine wp_if (c := .ne) 19 rfl rfl rfl s6 (fun q => ?_) (fun q => ?_)
    · have q : ¬ v5 = 0 := q
      replace w := w.1 q
      show wpv K_X8_same d P 19 [some (4, (p0 : Int)), some (0, x1), some (0, x2)] [] G R V4
      refine wp_p (i := (.iconst 0)) rfl rfl (fun _ _ _ => rfl) (?_ : wpv K_X8_same d P 20 [some (4, (p0 : Int)), some (0, x1), some (0, x2)] [(0, 0)] G R V4)
      refine wp_sto (i := (.istore_n 3)) _ rfl rfl (fun _ => rfl) rfl rfl rfl ?_
      refine wp_wk (L' := [some (4, (p0 : Int)), some (0, x1), some (0, x2), some (0, 0)]) (wk_s (wk_s (wk_s (wk_s wk_0)))) ?_
      show wpv K_X8_same d P 21 [some (4, (p0 : Int)), some (0, x1), some (0, x2), some (0, 0)] [] G R V4
      exact wp_wk (wk_s (wk_s (wk_s (wk_s wk_0)))) w
    · have q : v5 = 0 := Decidable.not_not.mp q
      replace w := w.2 q
      show wpv K_X8_same d P 16 [some (4, (p0 : Int)), some (0, x1), some (0, x2)] [] G R V4
      refine wp_p (i := (.bipush (-2))) rfl rfl (fun _ _ _ => rfl) (?_ : wpv K_X8_same d P 18 [some (4, (p0 : Int)), some (0, x1), some (0, x2)] [(0, (-2))] G R V4)
      exact wp_rI rfl rfl rfl w

theorem t_X8_same_21 {d : Nat} {P : gP} {p0 : Nat} {x1 : Int} {x2 : Int} {x3 : Int} {G : List gS} {R V : gV} (l0 : lay8 G R p0) (w : ((i32 (V p0 13)) → ((i32 x3) ∧ (((¬ x3 < (V p0 13)) → P (some (0, (-1))) V) ∧ ((x3 < (V p0 13)) → cwv d (fun r V4 => ∃ v5 : Int, r = some (2, v5) ∧ cwv d (fun r V6 => ∃ v7 : Int, r = some (2, v7) ∧ ((i64 v5) ∧ ((i64 v7) ∧ (((v5 = v7) → ((i32 (x3 + 1)) ∧ wpv K_X8_same d P 21 [some (4, (p0 : Int)), some (0, x1), some (0, x2), some (0, (x3 + 1))] [] G R V6)) ∧ ((¬ v5 = v7) → P (some (0, x3)) V6))))) 210 [(4, (p0 : Int)), (0, x2), (0, x3)] G R V4) 210 [(4, (p0 : Int)), (0, x1), (0, x3)] G R V))))) : wpv K_X8_same d P 21 [some (4, (p0 : Int)), some (0, x1), some (0, x2), some (0, x3)] [] G R V := by
  refine wp_ld (i := (.iload_n 3)) (0, x3) rfl rfl (fun _ => rfl) rfl rfl (?_ : wpv K_X8_same d P 22 [some (4, (p0 : Int)), some (0, x1), some (0, x2), some (0, x3)] [(0, x3)] G R V)
  refine wp_ld (i := (.aload_n 0)) (4, (p0 : Int)) rfl rfl (fun _ => rfl) rfl rfl (?_ : wpv K_X8_same d P 23 [some (4, (p0 : Int)), some (0, x1), some (0, x2), some (0, x3)] [(4, (p0 : Int)), (0, x3)] G R V)
  refine wp_rng (fun vr1 => ?_)
  have f2 : i32 (V p0 13) := vr_f0 vr1 (ly8_o l0) rfl rfl
  replace w := w f2
  refine wp_getI (k := 13) rfl rfl rfl (ly8_o l0) rfl rfl (?_ : wpv K_X8_same d P 26 [some (4, (p0 : Int)), some (0, x1), some (0, x2), some (0, x3)] [(0, (V p0 13)), (0, x3)] G R V)
  obtain ⟨s3, w⟩ := w
  refine wp_icmp (c := .ge) 53 rfl rfl rfl s3 f2 (fun q => ?_) (fun q => ?_)
  · have q : ¬ x3 < (V p0 13) := q
    replace w := w.1 q
    show wpv K_X8_same d P 53 [some (4, (p0 : Int)), some (0, x1), some (0, x2), some (0, x3)] [] G R V
    refine wp_p (i := (.iconst (-1))) rfl rfl (fun _ _ _ => rfl) (?_ : wpv K_X8_same d P 54 [some (4, (p0 : Int)), some (0, x1), some (0, x2), some (0, x3)] [(0, (-1))] G R V)
    exact wp_rI rfl rfl rfl w
  · have q : x3 < (V p0 13) := Decidable.not_not.mp q
    replace w := w.2 q
    show wpv K_X8_same d P 29 [some (4, (p0 : Int)), some (0, x1), some (0, x2), some (0, x3)] [] G R V
    refine wp_ld (i := (.aload_n 0)) (4, (p0 : Int)) rfl rfl (fun _ => rfl) rfl rfl (?_ : wpv K_X8_same d P 30 [some (4, (p0 : Int)), some (0, x1), some (0, x2), some (0, x3)] [(4, (p0 : Int))] G R V)
    refine wp_ld (i := (.iload_n 1)) (0, x1) rfl rfl (fun _ => rfl) rfl rfl (?_ : wpv K_X8_same d P 31 [some (4, (p0 : Int)), some (0, x1), some (0, x2), some (0, x3)] [(0, x1), (4, (p0 : Int))] G R V)
    refine wp_ld (i := (.iload_n 3)) (0, x3) rfl rfl (fun _ => rfl) rfl rfl (?_ : wpv K_X8_same d P 32 [some (4, (p0 : Int)), some (0, x1), some (0, x2), some (0, x3)] [(0, x3), (0, x1), (4, (p0 : Int))] G R V)
    refine wp_virt (as := [(0, x1), (0, x3)]) (a := p0) (st := []) _ rfl rfl rfl rfl rfl rfl (ly8_o l0) (Nat.le_of_ble_eq_true rfl) (cwv_kJ w (fun v5 V4 w => ?_))
    show wpv K_X8_same d P 35 [some (4, (p0 : Int)), some (0, x1), some (0, x2), some (0, x3)] [(2, v5)] G R V4
    refine wp_ld (i := (.aload_n 0)) (4, (p0 : Int)) rfl rfl (fun _ => rfl) rfl rfl (?_ : wpv K_X8_same d P 36 [some (4, (p0 : Int)), some (0, x1), some (0, x2), some (0, x3)] [(4, (p0 : Int)), (2, v5)] G R V4)
    refine wp_ld (i := (.iload_n 2)) (0, x2) rfl rfl (fun _ => rfl) rfl rfl (?_ : wpv K_X8_same d P 37 [some (4, (p0 : Int)), some (0, x1), some (0, x2), some (0, x3)] [(0, x2), (4, (p0 : Int)), (2, v5)] G R V4)
    refine wp_ld (i := (.iload_n 3)) (0, x3) rfl rfl (fun _ => rfl) rfl rfl (?_ : wpv K_X8_same d P 38 [some (4, (p0 : Int)), some (0, x1), some (0, x2), some (0, x3)] [(0, x3), (0, x2), (4, (p0 : Int)), (2, v5)] G R V4)
    refine wp_virt (as := [(0, x2), (0, x3)]) (a := p0) (st := [(2, v5)]) _ rfl rfl rfl rfl rfl rfl (ly8_o l0) (Nat.le_of_ble_eq_true rfl) (cwv_kJ w (fun v7 V6 w => ?_))
    show wpv K_X8_same d P 41 [some (4, (p0 : Int)), some (0, x1), some (0, x2), some (0, x3)] [(2, v7), (2, v5)] G R V6
    obtain ⟨s8, w⟩ := w
    obtain ⟨s9, w⟩ := w
    refine wp_lcmp rfl rfl s8 s9 (?_ : wpv K_X8_same d P 42 [some (4, (p0 : Int)), some (0, x1), some (0, x2), some (0, x3)] [(0, sg v5 v7)] G R V6)
    refine wp_if (c := .eq) 47 rfl rfl rfl (sg32 _ _) (fun q => ?_) (fun q => ?_)
    · have q : v5 = v7 := sg_eq.mp q
      replace w := w.1 q
      show wpv K_X8_same d P 47 [some (4, (p0 : Int)), some (0, x1), some (0, x2), some (0, x3)] [] G R V6
      obtain ⟨s10, w⟩ := w
      refine wp_inc (x := 3) (k := 1) (a := x3) (c := (x3 + 1)) _ rfl rfl rfl rfl s10 (by omega) rfl ?_
      show wpv K_X8_same d P 50 [some (4, (p0 : Int)), some (0, x1), some (0, x2), some (0, (x3 + 1))] [] G R V6
      refine wp_go 21 rfl rfl rfl (?_ : wpv K_X8_same d P 21 [some (4, (p0 : Int)), some (0, x1), some (0, x2), some (0, (x3 + 1))] [] G R V6)
      exact wp_wk (wk_s (wk_s (wk_s (wk_s wk_0)))) w
    · have q : ¬ v5 = v7 := fun z => q (sg_eq.mpr z)
      replace w := w.2 q
      show wpv K_X8_same d P 45 [some (4, (p0 : Int)), some (0, x1), some (0, x2), some (0, x3)] [] G R V6
      refine wp_ld (i := (.iload_n 3)) (0, x3) rfl rfl (fun _ => rfl) rfl rfl (?_ : wpv K_X8_same d P 46 [some (4, (p0 : Int)), some (0, x1), some (0, x2), some (0, x3)] [(0, x3)] G R V6)
      exact wp_rI rfl rfl rfl w
theorem t_X8_maps_0 {d : Nat} {P : gP} {p0 : Nat} {x1 : Int} {x2 : Int} {x3 : Int} {G : List gS} {R V : gV} (l0 : lay8 G R p0) (w : cwv d (fun r V1 => ∃ v2 : Int, r = some (0, v2) ∧ ((i32 v2) ∧ (((v2 = 0) → P (some (2, (-1))) V1) ∧ ((¬ v2 = 0) → cwv d (fun r V4 => ∃ v5 : Int, r = some (0, v5) ∧ ((i32 v5) ∧ (((v5 = 0) → P (some (2, (-1))) V4) ∧ ((¬ v5 = 0) → ((i32 x3) ∧ cwv d (fun r V8 => ∃ v9 : Int, r = some (0, v9) ∧ ((i32 v9) ∧ (((¬ v9 = 0) → wpv K_X8_maps d P 36 [some (4, (p0 : Int)), some (0, x1), some (0, x2), some (0, x3), some (0, 0), some (0, 0)] [] G R V8) ∧ ((v9 = 0) → P (some (2, (-1))) V8)))) 159 [(2, x3), (2, 0), (2, 1)] G R V4))))) 209 [(4, (p0 : Int)), (0, x2)] G R V1)))) 209 [(4, (p0 : Int)), (0, x1)] G R V) : wpv K_X8_maps d P 0 [some (4, (p0 : Int)), some (0, x1), some (0, x2), some (0, x3)] [] G R V := by
  refine wp_ld (i := (.aload_n 0)) (4, (p0 : Int)) rfl rfl (fun _ => rfl) rfl rfl (?_ : wpv K_X8_maps d P 1 [some (4, (p0 : Int)), some (0, x1), some (0, x2), some (0, x3)] [(4, (p0 : Int))] G R V)
  refine wp_ld (i := (.iload_n 1)) (0, x1) rfl rfl (fun _ => rfl) rfl rfl (?_ : wpv K_X8_maps d P 2 [some (4, (p0 : Int)), some (0, x1), some (0, x2), some (0, x3)] [(0, x1), (4, (p0 : Int))] G R V)
  refine wp_virt (as := [(0, x1)]) (a := p0) (st := []) _ rfl rfl rfl rfl rfl rfl (ly8_o l0) (Nat.le_of_ble_eq_true rfl) (cwv_kI w (fun v2 V1 w => ?_))
  show wpv K_X8_maps d P 5 [some (4, (p0 : Int)), some (0, x1), some (0, x2), some (0, x3)] [(0, v2)] G R V1
  obtain ⟨s3, w⟩ := w
  refine wp_if (c := .eq) 26 rfl rfl rfl s3 (fun q => ?_) (fun q => ?_)
  · have q : v2 = 0 := q
    replace w := w.1 q
    show wpv K_X8_maps d P 26 [some (4, (p0 : Int)), some (0, x1), some (0, x2), some (0, x3)] [] G R V1
    refine wp_p (i := (.ldc2_w 287)) rfl rfl (fun _ _ _ => rfl) (?_ : wpv K_X8_maps d P 29 [some (4, (p0 : Int)), some (0, x1), some (0, x2), some (0, x3)] [(2, (-1))] G R V1)
    exact wp_rJ rfl rfl rfl w
  · have q : ¬ v2 = 0 := q
    replace w := w.2 q
    show wpv K_X8_maps d P 8 [some (4, (p0 : Int)), some (0, x1), some (0, x2), some (0, x3)] [] G R V1
    refine wp_ld (i := (.aload_n 0)) (4, (p0 : Int)) rfl rfl (fun _ => rfl) rfl rfl (?_ : wpv K_X8_maps d P 9 [some (4, (p0 : Int)), some (0, x1), some (0, x2), some (0, x3)] [(4, (p0 : Int))] G R V1)
    refine wp_ld (i := (.iload_n 2)) (0, x2) rfl rfl (fun _ => rfl) rfl rfl (?_ : wpv K_X8_maps d P 10 [some (4, (p0 : Int)), some (0, x1), some (0, x2), some (0, x3)] [(0, x2), (4, (p0 : Int))] G R V1)
    refine wp_virt (as := [(0, x2)]) (a := p0) (st := []) _ rfl rfl rfl rfl rfl rfl (ly8_o l0) (Nat.le_of_ble_eq_true rfl) (cwv_kI w (fun v5 V4 w => ?_))
    show wpv K_X8_maps d P 13 [some (4, (p0 : Int)), some (0, x1), some (0, x2), some (0, x3)] [(0, v5)] G R V4
    obtain ⟨s6, w⟩ := w
    refine wp_if (c := .eq) 26 rfl rfl rfl s6 (fun q => ?_) (fun q => ?_)
    · have q : v5 = 0 := q
      replace w := w.1 q
      show wpv K_X8_maps d P 26 [some (4, (p0 : Int)), some (0, x1), some (0, x2), some (0, x3)] [] G R V4
      refine wp_p (i := (.ldc2_w 287)) rfl rfl (fun _ _ _ => rfl) (?_ : wpv K_X8_maps d P 29 [some (4, (p0 : Int)), some (0, x1), some (0, x2), some (0, x3)] [(2, (-1))] G R V4)
      exact wp_rJ rfl rfl rfl w
    · have q : ¬ v5 = 0 := q
      replace w := w.2 q
      show wpv K_X8_maps d P 16 [some (4, (p0 : Int)), some (0, x1), some (0, x2), some (0, x3)] [] G R V4
      refine wp_ld (i := (.iload_n 3)) (0, x3) rfl rfl (fun _ => rfl) rfl rfl (?_ : wpv K_X8_maps d P 17 [some (4, (p0 : Int)), some (0, x1), some (0, x2), some (0, x3)] [(0, x3)] G R V4)
      obtain ⟨s7, w⟩ := w
      refine wp_i2l rfl rfl s7 (?_ : wpv K_X8_maps d P 18 [some (4, (p0 : Int)), some (0, x1), some (0, x2), some (0, x3)] [(2, x3)] G R V4)
      refine wp_p (i := (.lconst 0)) rfl rfl (fun _ _ _ => rfl) (?_ : wpv K_X8_maps d P 19 [some (4, (p0 : Int)), some (0, x1), some (0, x2), some (0, x3)] [(2, 0), (2, x3)] G R V4)
      refine wp_p (i := (.lconst 1)) rfl rfl (fun _ _ _ => rfl) (?_ : wpv K_X8_maps d P 20 [some (4, (p0 : Int)), some (0, x1), some (0, x2), some (0, x3)] [(2, 1), (2, 0), (2, x3)] G R V4)
      refine wp_stat (as := [(2, x3), (2, 0), (2, 1)]) (st := []) _ rfl rfl rfl (by omega) rfl rfl (Nat.le_of_ble_eq_true rfl) (cwv_kI w (fun v9 V8 w => ?_))
      show wpv K_X8_maps d P 23 [some (4, (p0 : Int)), some (0, x1), some (0, x2), some (0, x3)] [(0, v9)] G R V8
      obtain ⟨s10, w⟩ := w
      refine wp_if (c := .ne) 30 rfl rfl rfl s10 (fun q => ?_) (fun q => ?_)
      · have q : ¬ v9 = 0 := q
        replace w := w.1 q
        show wpv K_X8_maps d P 30 [some (4, (p0 : Int)), some (0, x1), some (0, x2), some (0, x3)] [] G R V8
        refine wp_p (i := (.iconst 0)) rfl rfl (fun _ _ _ => rfl) (?_ : wpv K_X8_maps d P 31 [some (4, (p0 : Int)), some (0, x1), some (0, x2), some (0, x3)] [(0, 0)] G R V8)
        refine wp_sto (i := (.istore 4)) _ rfl rfl (fun _ => rfl) rfl rfl rfl ?_
        refine wp_wk (L' := [some (4, (p0 : Int)), some (0, x1), some (0, x2), some (0, x3), some (0, 0)]) (wk_s (wk_s (wk_s (wk_s (wk_s wk_0))))) ?_
        show wpv K_X8_maps d P 33 [some (4, (p0 : Int)), some (0, x1), some (0, x2), some (0, x3), some (0, 0)] [] G R V8
        refine wp_p (i := (.iconst 0)) rfl rfl (fun _ _ _ => rfl) (?_ : wpv K_X8_maps d P 34 [some (4, (p0 : Int)), some (0, x1), some (0, x2), some (0, x3), some (0, 0)] [(0, 0)] G R V8)
        refine wp_sto (i := (.istore 5)) _ rfl rfl (fun _ => rfl) rfl rfl rfl ?_
        refine wp_wk (L' := [some (4, (p0 : Int)), some (0, x1), some (0, x2), some (0, x3), some (0, 0), some (0, 0)]) (wk_s (wk_s (wk_s (wk_s (wk_s (wk_s wk_0)))))) ?_
        show wpv K_X8_maps d P 36 [some (4, (p0 : Int)), some (0, x1), some (0, x2), some (0, x3), some (0, 0), some (0, 0)] [] G R V8
        exact wp_wk (wk_s (wk_s (wk_s (wk_s (wk_s (wk_s wk_0)))))) w
      · have q : v9 = 0 := Decidable.not_not.mp q
        replace w := w.2 q
        show wpv K_X8_maps d P 26 [some (4, (p0 : Int)), some (0, x1), some (0, x2), some (0, x3)] [] G R V8
        refine wp_p (i := (.ldc2_w 287)) rfl rfl (fun _ _ _ => rfl) (?_ : wpv K_X8_maps d P 29 [some (4, (p0 : Int)), some (0, x1), some (0, x2), some (0, x3)] [(2, (-1))] G R V8)
        exact wp_rJ rfl rfl rfl w

theorem t_X8_maps_36 {d : Nat} {P : gP} {p0 : Nat} {x1 : Int} {x2 : Int} {x3 : Int} {x4 : Int} {x5 : Int} {G : List gS} {R V : gV} (l0 : lay8 G R p0) (w : ((i32 (V p0 13)) → ((i32 x5) ∧ (((¬ x5 < (V p0 13)) → ((i32 x4) ∧ (((x4 = 0) → wpv K_X8_maps d P 136 [some (4, (p0 : Int)), some (0, x1), some (0, x2), some (0, x3), none, some (2, 1), none, some (0, 0)] [] G R V) ∧ ((¬ x4 = 0) → P (some (2, 0)) V)))) ∧ ((x5 < (V p0 13)) → ((i32 (300 * x1)) ∧ ((i32 ((300 * x1) + x5)) ∧ ((0 ≤ ((300 * x1) + x5) ∧ ((300 * x1) + x5) < 2400) ∧ ((i64 (V (p0 + 22) (((300 * x1) + x5)))) → ((i32 x4) ∧ (((¬ x4 = 0) → ((i32 (x5 + 1)) ∧ wpv K_X8_maps d P 36 [some (4, (p0 : Int)), some (0, x1), some (0, x2), some (0, x3), some (0, 1), some (0, (x5 + 1))] [] G R V)) ∧ ((x4 = 0) → ((i32 x3) ∧ (((¬ x3 = 0) → ((i32 (300 * x2)) ∧ ((i32 ((300 * x2) + x5)) ∧ ((0 ≤ ((300 * x2) + x5) ∧ ((300 * x2) + x5) < 2400) ∧ ((i64 (V (p0 + 22) (((300 * x2) + x5)))) → ((((V (p0 + 22) (((300 * x1) + x5))) = (V (p0 + 22) (((300 * x2) + x5)))) → ((i32 (x5 + 1)) ∧ wpv K_X8_maps d P 36 [some (4, (p0 : Int)), some (0, x1), some (0, x2), some (0, x3), some (0, 0), some (0, (x5 + 1))] [] G R V)) ∧ ((¬ (V (p0 + 22) (((300 * x1) + x5))) = (V (p0 + 22) (((300 * x2) + x5)))) → ((i32 (x5 + 1)) ∧ wpv K_X8_maps d P 36 [some (4, (p0 : Int)), some (0, x1), some (0, x2), some (0, x3), some (0, 1), some (0, (x5 + 1))] [] G R V)))))))) ∧ ((x3 = 0) → (((¬ 0 < (V (p0 + 22) (((300 * x1) + x5)))) → ((i32 (x5 + 1)) ∧ wpv K_X8_maps d P 36 [some (4, (p0 : Int)), some (0, x1), some (0, x2), some (0, x3), some (0, 0), some (0, (x5 + 1))] [] G R V)) ∧ ((0 < (V (p0 + 22) (((300 * x1) + x5)))) → cwv d (fun r V19 => ∃ v20 : Int, r = some (2, v20) ∧ ((i64 v20) ∧ (((¬ v20 = 0) → ((i32 (x5 + 1)) ∧ wpv K_X8_maps d P 36 [some (4, (p0 : Int)), some (0, x1), some (0, x2), some (0, x3), some (0, 0), some (0, (x5 + 1))] [] G R V19)) ∧ ((v20 = 0) → ((i32 (x5 + 1)) ∧ wpv K_X8_maps d P 36 [some (4, (p0 : Int)), some (0, x1), some (0, x2), some (0, x3), some (0, 1), some (0, (x5 + 1))] [] G R V19))))) 210 [(4, (p0 : Int)), (0, x2), (0, x5)] G R V))))))))))))))))) : wpv K_X8_maps d P 36 [some (4, (p0 : Int)), some (0, x1), some (0, x2), some (0, x3), some (0, x4), some (0, x5)] [] G R V := by
  refine wp_ld (i := (.iload 5)) (0, x5) rfl rfl (fun _ => rfl) rfl rfl (?_ : wpv K_X8_maps d P 38 [some (4, (p0 : Int)), some (0, x1), some (0, x2), some (0, x3), some (0, x4), some (0, x5)] [(0, x5)] G R V)
  refine wp_ld (i := (.aload_n 0)) (4, (p0 : Int)) rfl rfl (fun _ => rfl) rfl rfl (?_ : wpv K_X8_maps d P 39 [some (4, (p0 : Int)), some (0, x1), some (0, x2), some (0, x3), some (0, x4), some (0, x5)] [(4, (p0 : Int)), (0, x5)] G R V)
  refine wp_rng (fun vr1 => ?_)
  have f2 : i32 (V p0 13) := vr_f0 vr1 (ly8_o l0) rfl rfl
  replace w := w f2
  refine wp_getI (k := 13) rfl rfl rfl (ly8_o l0) rfl rfl (?_ : wpv K_X8_maps d P 42 [some (4, (p0 : Int)), some (0, x1), some (0, x2), some (0, x3), some (0, x4), some (0, x5)] [(0, (V p0 13)), (0, x5)] G R V)
  obtain ⟨s3, w⟩ := w
  refine wp_icmp (c := .ge) 123 rfl rfl rfl s3 f2 (fun q => ?_) (fun q => ?_)
  · have q : ¬ x5 < (V p0 13) := q
    replace w := w.1 q
    show wpv K_X8_maps d P 123 [some (4, (p0 : Int)), some (0, x1), some (0, x2), some (0, x3), some (0, x4), some (0, x5)] [] G R V
    refine wp_ld (i := (.iload 4)) (0, x4) rfl rfl (fun _ => rfl) rfl rfl (?_ : wpv K_X8_maps d P 125 [some (4, (p0 : Int)), some (0, x1), some (0, x2), some (0, x3), some (0, x4), some (0, x5)] [(0, x4)] G R V)
    obtain ⟨s4, w⟩ := w
    refine wp_if (c := .eq) 130 rfl rfl rfl s4 (fun q => ?_) (fun q => ?_)
    · have q : x4 = 0 := q
      replace w := w.1 q
      show wpv K_X8_maps d P 130 [some (4, (p0 : Int)), some (0, x1), some (0, x2), some (0, x3), some (0, x4), some (0, x5)] [] G R V
      refine wp_p (i := (.lconst 1)) rfl rfl (fun _ _ _ => rfl) (?_ : wpv K_X8_maps d P 131 [some (4, (p0 : Int)), some (0, x1), some (0, x2), some (0, x3), some (0, x4), some (0, x5)] [(2, 1)] G R V)
      refine wp_lsto (i := (.lstore 5)) _ rfl rfl (fun _ => rfl) rfl rfl rfl ?_
      refine wp_wk (L' := [some (4, (p0 : Int)), some (0, x1), some (0, x2), some (0, x3), some (0, x4), some (2, 1)]) (wk_s (wk_s (wk_s (wk_s (wk_s (wk_s wk_0)))))) ?_
      show wpv K_X8_maps d P 133 [some (4, (p0 : Int)), some (0, x1), some (0, x2), some (0, x3), some (0, x4), some (2, 1)] [] G R V
      refine wp_p (i := (.iconst 0)) rfl rfl (fun _ _ _ => rfl) (?_ : wpv K_X8_maps d P 134 [some (4, (p0 : Int)), some (0, x1), some (0, x2), some (0, x3), some (0, x4), some (2, 1)] [(0, 0)] G R V)
      refine wp_sto (i := (.istore 7)) _ rfl rfl (fun _ => rfl) rfl rfl rfl ?_
      refine wp_wk (L' := [some (4, (p0 : Int)), some (0, x1), some (0, x2), some (0, x3), some (0, x4), some (2, 1), none, some (0, 0)]) (wk_s (wk_s (wk_s (wk_s (wk_s (wk_s (wk_n (wk_s wk_0)))))))) ?_
      show wpv K_X8_maps d P 136 [some (4, (p0 : Int)), some (0, x1), some (0, x2), some (0, x3), some (0, x4), some (2, 1), none, some (0, 0)] [] G R V
      exact wp_wk (wk_s (wk_s (wk_s (wk_s (wk_n (wk_s (wk_n (wk_s wk_0)))))))) w
    · have q : ¬ x4 = 0 := q
      replace w := w.2 q
      show wpv K_X8_maps d P 128 [some (4, (p0 : Int)), some (0, x1), some (0, x2), some (0, x3), some (0, x4), some (0, x5)] [] G R V
      refine wp_p (i := (.lconst 0)) rfl rfl (fun _ _ _ => rfl) (?_ : wpv K_X8_maps d P 129 [some (4, (p0 : Int)), some (0, x1), some (0, x2), some (0, x3), some (0, x4), some (0, x5)] [(2, 0)] G R V)
      exact wp_rJ rfl rfl rfl w
  · have q : x5 < (V p0 13) := Decidable.not_not.mp q
    replace w := w.2 q
    show wpv K_X8_maps d P 45 [some (4, (p0 : Int)), some (0, x1), some (0, x2), some (0, x3), some (0, x4), some (0, x5)] [] G R V
    refine wp_ld (i := (.aload_n 0)) (4, (p0 : Int)) rfl rfl (fun _ => rfl) rfl rfl (?_ : wpv K_X8_maps d P 46 [some (4, (p0 : Int)), some (0, x1), some (0, x2), some (0, x3), some (0, x4), some (0, x5)] [(4, (p0 : Int))] G R V)
    refine wp_getA (k := 29) rfl rfl rfl (ly8_o l0) rfl rfl (ly8_29 l0).1 (?_ : wpv K_X8_maps d P 49 [some (4, (p0 : Int)), some (0, x1), some (0, x2), some (0, x3), some (0, x4), some (0, x5)] [(4, ((p0 + 22 : Nat) : Int))] G R V)
    refine wp_p (i := (.sipush 300)) rfl rfl (fun _ _ _ => rfl) (?_ : wpv K_X8_maps d P 52 [some (4, (p0 : Int)), some (0, x1), some (0, x2), some (0, x3), some (0, x4), some (0, x5)] [(0, 300), (4, ((p0 + 22 : Nat) : Int))] G R V)
    refine wp_ld (i := (.iload_n 1)) (0, x1) rfl rfl (fun _ => rfl) rfl rfl (?_ : wpv K_X8_maps d P 53 [some (4, (p0 : Int)), some (0, x1), some (0, x2), some (0, x3), some (0, x4), some (0, x5)] [(0, x1), (0, 300), (4, ((p0 + 22 : Nat) : Int))] G R V)
    obtain ⟨s5, w⟩ := w
    refine wp_xmul rfl rfl s5 (?_ : wpv K_X8_maps d P 54 [some (4, (p0 : Int)), some (0, x1), some (0, x2), some (0, x3), some (0, x4), some (0, x5)] [(0, (300 * x1)), (4, ((p0 + 22 : Nat) : Int))] G R V)
    refine wp_ld (i := (.iload 5)) (0, x5) rfl rfl (fun _ => rfl) rfl rfl (?_ : wpv K_X8_maps d P 56 [some (4, (p0 : Int)), some (0, x1), some (0, x2), some (0, x3), some (0, x4), some (0, x5)] [(0, x5), (0, (300 * x1)), (4, ((p0 + 22 : Nat) : Int))] G R V)
    obtain ⟨s6, w⟩ := w
    refine wp_xadd rfl rfl s6 (?_ : wpv K_X8_maps d P 57 [some (4, (p0 : Int)), some (0, x1), some (0, x2), some (0, x3), some (0, x4), some (0, x5)] [(0, ((300 * x1) + x5)), (4, ((p0 + 22 : Nat) : Int))] G R V)
    obtain ⟨s7, w⟩ := w
    have f8 : i64 (V (p0 + 22) (((300 * x1) + x5))) := vr_a1 vr1 (ly8_29 l0).2 s7
    replace w := w f8
    refine wp_aJ rfl rfl (ly8_29 l0).2 s7 (?_ : wpv K_X8_maps d P 58 [some (4, (p0 : Int)), some (0, x1), some (0, x2), some (0, x3), some (0, x4), some (0, x5)] [(2, (V (p0 + 22) (((300 * x1) + x5))))] G R V)
    refine wp_lsto (i := (.lstore 6)) _ rfl rfl (fun _ => rfl) rfl rfl rfl ?_
    refine wp_wk (L' := [some (4, (p0 : Int)), some (0, x1), some (0, x2), some (0, x3), some (0, x4), some (0, x5), some (2, (V (p0 + 22) (((300 * x1) + x5))))]) (wk_s (wk_s (wk_s (wk_s (wk_s (wk_s (wk_s wk_0))))))) ?_
    show wpv K_X8_maps d P 60 [some (4, (p0 : Int)), some (0, x1), some (0, x2), some (0, x3), some (0, x4), some (0, x5), some (2, (V (p0 + 22) (((300 * x1) + x5))))] [] G R V
    refine wp_ld (i := (.iload 4)) (0, x4) rfl rfl (fun _ => rfl) rfl rfl (?_ : wpv K_X8_maps d P 62 [some (4, (p0 : Int)), some (0, x1), some (0, x2), some (0, x3), some (0, x4), some (0, x5), some (2, (V (p0 + 22) (((300 * x1) + x5))))] [(0, x4)] G R V)
    obtain ⟨s9, w⟩ := w
    refine wp_if (c := .ne) 110 rfl rfl rfl s9 (fun q => ?_) (fun q => ?_)
    · have q : ¬ x4 = 0 := q
      replace w := w.1 q
      show wpv K_X8_maps d P 110 [some (4, (p0 : Int)), some (0, x1), some (0, x2), some (0, x3), some (0, x4), some (0, x5), some (2, (V (p0 + 22) (((300 * x1) + x5))))] [] G R V
      refine wp_p (i := (.iconst 1)) rfl rfl (fun _ _ _ => rfl) (?_ : wpv K_X8_maps d P 111 [some (4, (p0 : Int)), some (0, x1), some (0, x2), some (0, x3), some (0, x4), some (0, x5), some (2, (V (p0 + 22) (((300 * x1) + x5))))] [(0, 1)] G R V)
      refine wp_go 115 rfl rfl rfl (?_ : wpv K_X8_maps d P 115 [some (4, (p0 : Int)), some (0, x1), some (0, x2), some (0, x3), some (0, x4), some (0, x5), some (2, (V (p0 + 22) (((300 * x1) + x5))))] [(0, 1)] G R V)
      refine wp_sto (i := (.istore 4)) _ rfl rfl (fun _ => rfl) rfl rfl rfl ?_
      refine wp_wk (L' := [some (4, (p0 : Int)), some (0, x1), some (0, x2), some (0, x3), some (0, 1), some (0, x5), some (2, (V (p0 + 22) (((300 * x1) + x5))))]) (wk_s (wk_s (wk_s (wk_s (wk_s (wk_s (wk_s wk_0))))))) ?_
      show wpv K_X8_maps d P 117 [some (4, (p0 : Int)), some (0, x1), some (0, x2), some (0, x3), some (0, 1), some (0, x5), some (2, (V (p0 + 22) (((300 * x1) + x5))))] [] G R V
      obtain ⟨s10, w⟩ := w
      refine wp_inc (x := 5) (k := 1) (a := x5) (c := (x5 + 1)) _ rfl rfl rfl rfl s10 (by omega) rfl ?_
      show wpv K_X8_maps d P 120 [some (4, (p0 : Int)), some (0, x1), some (0, x2), some (0, x3), some (0, 1), some (0, (x5 + 1)), some (2, (V (p0 + 22) (((300 * x1) + x5))))] [] G R V
      refine wp_go 36 rfl rfl rfl (?_ : wpv K_X8_maps d P 36 [some (4, (p0 : Int)), some (0, x1), some (0, x2), some (0, x3), some (0, 1), some (0, (x5 + 1)), some (2, (V (p0 + 22) (((300 * x1) + x5))))] [] G R V)
      exact wp_wk (wk_s (wk_s (wk_s (wk_s (wk_s (wk_s wk_0)))))) w
    · have q : x4 = 0 := Decidable.not_not.mp q
      replace w := w.2 q
      show wpv K_X8_maps d P 65 [some (4, (p0 : Int)), some (0, x1), some (0, x2), some (0, x3), some (0, x4), some (0, x5), some (2, (V (p0 + 22) (((300 * x1) + x5))))] [] G R V
      refine wp_ld (i := (.iload_n 3)) (0, x3) rfl rfl (fun _ => rfl) rfl rfl (?_ : wpv K_X8_maps d P 66 [some (4, (p0 : Int)), some (0, x1), some (0, x2), some (0, x3), some (0, x4), some (0, x5), some (2, (V (p0 + 22) (((300 * x1) + x5))))] [(0, x3)] G R V)
      obtain ⟨s11, w⟩ := w
      refine wp_if (c := .ne) 91 rfl rfl rfl s11 (fun q => ?_) (fun q => ?_)
      · have q : ¬ x3 = 0 := q
        replace w := w.1 q
        show wpv K_X8_maps d P 91 [some (4, (p0 : Int)), some (0, x1), some (0, x2), some (0, x3), some (0, x4), some (0, x5), some (2, (V (p0 + 22) (((300 * x1) + x5))))] [] G R V
        refine wp_ld (i := (.lload 6)) (2, (V (p0 + 22) (((300 * x1) + x5)))) rfl rfl (fun _ => rfl) rfl rfl (?_ : wpv K_X8_maps d P 93 [some (4, (p0 : Int)), some (0, x1), some (0, x2), some (0, x3), some (0, x4), some (0, x5), some (2, (V (p0 + 22) (((300 * x1) + x5))))] [(2, (V (p0 + 22) (((300 * x1) + x5))))] G R V)
        refine wp_ld (i := (.aload_n 0)) (4, (p0 : Int)) rfl rfl (fun _ => rfl) rfl rfl (?_ : wpv K_X8_maps d P 94 [some (4, (p0 : Int)), some (0, x1), some (0, x2), some (0, x3), some (0, x4), some (0, x5), some (2, (V (p0 + 22) (((300 * x1) + x5))))] [(4, (p0 : Int)), (2, (V (p0 + 22) (((300 * x1) + x5))))] G R V)
        refine wp_getA (k := 29) rfl rfl rfl (ly8_o l0) rfl rfl (ly8_29 l0).1 (?_ : wpv K_X8_maps d P 97 [some (4, (p0 : Int)), some (0, x1), some (0, x2), some (0, x3), some (0, x4), some (0, x5), some (2, (V (p0 + 22) (((300 * x1) + x5))))] [(4, ((p0 + 22 : Nat) : Int)), (2, (V (p0 + 22) (((300 * x1) + x5))))] G R V)
        refine wp_p (i := (.sipush 300)) rfl rfl (fun _ _ _ => rfl) (?_ : wpv K_X8_maps d P 100 [some (4, (p0 : Int)), some (0, x1), some (0, x2), some (0, x3), some (0, x4), some (0, x5), some (2, (V (p0 + 22) (((300 * x1) + x5))))] [(0, 300), (4, ((p0 + 22 : Nat) : Int)), (2, (V (p0 + 22) (((300 * x1) + x5))))] G R V)
        refine wp_ld (i := (.iload_n 2)) (0, x2) rfl rfl (fun _ => rfl) rfl rfl (?_ : wpv K_X8_maps d P 101 [some (4, (p0 : Int)), some (0, x1), some (0, x2), some (0, x3), some (0, x4), some (0, x5), some (2, (V (p0 + 22) (((300 * x1) + x5))))] [(0, x2), (0, 300), (4, ((p0 + 22 : Nat) : Int)), (2, (V (p0 + 22) (((300 * x1) + x5))))] G R V)
        obtain ⟨s12, w⟩ := w
        refine wp_xmul rfl rfl s12 (?_ : wpv K_X8_maps d P 102 [some (4, (p0 : Int)), some (0, x1), some (0, x2), some (0, x3), some (0, x4), some (0, x5), some (2, (V (p0 + 22) (((300 * x1) + x5))))] [(0, (300 * x2)), (4, ((p0 + 22 : Nat) : Int)), (2, (V (p0 + 22) (((300 * x1) + x5))))] G R V)
        refine wp_ld (i := (.iload 5)) (0, x5) rfl rfl (fun _ => rfl) rfl rfl (?_ : wpv K_X8_maps d P 104 [some (4, (p0 : Int)), some (0, x1), some (0, x2), some (0, x3), some (0, x4), some (0, x5), some (2, (V (p0 + 22) (((300 * x1) + x5))))] [(0, x5), (0, (300 * x2)), (4, ((p0 + 22 : Nat) : Int)), (2, (V (p0 + 22) (((300 * x1) + x5))))] G R V)
        obtain ⟨s13, w⟩ := w
        refine wp_xadd rfl rfl s13 (?_ : wpv K_X8_maps d P 105 [some (4, (p0 : Int)), some (0, x1), some (0, x2), some (0, x3), some (0, x4), some (0, x5), some (2, (V (p0 + 22) (((300 * x1) + x5))))] [(0, ((300 * x2) + x5)), (4, ((p0 + 22 : Nat) : Int)), (2, (V (p0 + 22) (((300 * x1) + x5))))] G R V)
        obtain ⟨s14, w⟩ := w
        have f15 : i64 (V (p0 + 22) (((300 * x2) + x5))) := vr_a1 vr1 (ly8_29 l0).2 s14
        replace w := w f15
        refine wp_aJ rfl rfl (ly8_29 l0).2 s14 (?_ : wpv K_X8_maps d P 106 [some (4, (p0 : Int)), some (0, x1), some (0, x2), some (0, x3), some (0, x4), some (0, x5), some (2, (V (p0 + 22) (((300 * x1) + x5))))] [(2, (V (p0 + 22) (((300 * x2) + x5)))), (2, (V (p0 + 22) (((300 * x1) + x5))))] G R V)
        refine wp_lcmp rfl rfl f8 f15 (?_ : wpv K_X8_maps d P 107 [some (4, (p0 : Int)), some (0, x1), some (0, x2), some (0, x3), some (0, x4), some (0, x5), some (2, (V (p0 + 22) (((300 * x1) + x5))))] [(0, sg ((V (p0 + 22) (((300 * x1) + x5)))) ((V (p0 + 22) (((300 * x2) + x5)))))] G R V)
        refine wp_if (c := .eq) 114 rfl rfl rfl (sg32 _ _) (fun q => ?_) (fun q => ?_)
        · have q : (V (p0 + 22) (((300 * x1) + x5))) = (V (p0 + 22) (((300 * x2) + x5))) := sg_eq.mp q
          replace w := w.1 q
          show wpv K_X8_maps d P 114 [some (4, (p0 : Int)), some (0, x1), some (0, x2), some (0, x3), some (0, x4), some (0, x5), some (2, (V (p0 + 22) (((300 * x1) + x5))))] [] G R V
          refine wp_p (i := (.iconst 0)) rfl rfl (fun _ _ _ => rfl) (?_ : wpv K_X8_maps d P 115 [some (4, (p0 : Int)), some (0, x1), some (0, x2), some (0, x3), some (0, x4), some (0, x5), some (2, (V (p0 + 22) (((300 * x1) + x5))))] [(0, 0)] G R V)
          refine wp_sto (i := (.istore 4)) _ rfl rfl (fun _ => rfl) rfl rfl rfl ?_
          refine wp_wk (L' := [some (4, (p0 : Int)), some (0, x1), some (0, x2), some (0, x3), some (0, 0), some (0, x5), some (2, (V (p0 + 22) (((300 * x1) + x5))))]) (wk_s (wk_s (wk_s (wk_s (wk_s (wk_s (wk_s wk_0))))))) ?_
          show wpv K_X8_maps d P 117 [some (4, (p0 : Int)), some (0, x1), some (0, x2), some (0, x3), some (0, 0), some (0, x5), some (2, (V (p0 + 22) (((300 * x1) + x5))))] [] G R V
          obtain ⟨s16, w⟩ := w
          refine wp_inc (x := 5) (k := 1) (a := x5) (c := (x5 + 1)) _ rfl rfl rfl rfl s16 (by omega) rfl ?_
          show wpv K_X8_maps d P 120 [some (4, (p0 : Int)), some (0, x1), some (0, x2), some (0, x3), some (0, 0), some (0, (x5 + 1)), some (2, (V (p0 + 22) (((300 * x1) + x5))))] [] G R V
          refine wp_go 36 rfl rfl rfl (?_ : wpv K_X8_maps d P 36 [some (4, (p0 : Int)), some (0, x1), some (0, x2), some (0, x3), some (0, 0), some (0, (x5 + 1)), some (2, (V (p0 + 22) (((300 * x1) + x5))))] [] G R V)
          exact wp_wk (wk_s (wk_s (wk_s (wk_s (wk_s (wk_s wk_0)))))) w
        · have q : ¬ (V (p0 + 22) (((300 * x1) + x5))) = (V (p0 + 22) (((300 * x2) + x5))) := fun z => q (sg_eq.mpr z)
          replace w := w.2 q
          show wpv K_X8_maps d P 110 [some (4, (p0 : Int)), some (0, x1), some (0, x2), some (0, x3), some (0, x4), some (0, x5), some (2, (V (p0 + 22) (((300 * x1) + x5))))] [] G R V
          refine wp_p (i := (.iconst 1)) rfl rfl (fun _ _ _ => rfl) (?_ : wpv K_X8_maps d P 111 [some (4, (p0 : Int)), some (0, x1), some (0, x2), some (0, x3), some (0, x4), some (0, x5), some (2, (V (p0 + 22) (((300 * x1) + x5))))] [(0, 1)] G R V)
          refine wp_go 115 rfl rfl rfl (?_ : wpv K_X8_maps d P 115 [some (4, (p0 : Int)), some (0, x1), some (0, x2), some (0, x3), some (0, x4), some (0, x5), some (2, (V (p0 + 22) (((300 * x1) + x5))))] [(0, 1)] G R V)
          refine wp_sto (i := (.istore 4)) _ rfl rfl (fun _ => rfl) rfl rfl rfl ?_
          refine wp_wk (L' := [some (4, (p0 : Int)), some (0, x1), some (0, x2), some (0, x3), some (0, 1), some (0, x5), some (2, (V (p0 + 22) (((300 * x1) + x5))))]) (wk_s (wk_s (wk_s (wk_s (wk_s (wk_s (wk_s wk_0))))))) ?_
          show wpv K_X8_maps d P 117 [some (4, (p0 : Int)), some (0, x1), some (0, x2), some (0, x3), some (0, 1), some (0, x5), some (2, (V (p0 + 22) (((300 * x1) + x5))))] [] G R V
          obtain ⟨s17, w⟩ := w
          refine wp_inc (x := 5) (k := 1) (a := x5) (c := (x5 + 1)) _ rfl rfl rfl rfl s17 (by omega) rfl ?_
          show wpv K_X8_maps d P 120 [some (4, (p0 : Int)), some (0, x1), some (0, x2), some (0, x3), some (0, 1), some (0, (x5 + 1)), some (2, (V (p0 + 22) (((300 * x1) + x5))))] [] G R V
          refine wp_go 36 rfl rfl rfl (?_ : wpv K_X8_maps d P 36 [some (4, (p0 : Int)), some (0, x1), some (0, x2), some (0, x3), some (0, 1), some (0, (x5 + 1)), some (2, (V (p0 + 22) (((300 * x1) + x5))))] [] G R V)
          exact wp_wk (wk_s (wk_s (wk_s (wk_s (wk_s (wk_s wk_0)))))) w
      · have q : x3 = 0 := Decidable.not_not.mp q
        replace w := w.2 q
        show wpv K_X8_maps d P 69 [some (4, (p0 : Int)), some (0, x1), some (0, x2), some (0, x3), some (0, x4), some (0, x5), some (2, (V (p0 + 22) (((300 * x1) + x5))))] [] G R V
        refine wp_ld (i := (.lload 6)) (2, (V (p0 + 22) (((300 * x1) + x5)))) rfl rfl (fun _ => rfl) rfl rfl (?_ : wpv K_X8_maps d P 71 [some (4, (p0 : Int)), some (0, x1), some (0, x2), some (0, x3), some (0, x4), some (0, x5), some (2, (V (p0 + 22) (((300 * x1) + x5))))] [(2, (V (p0 + 22) (((300 * x1) + x5))))] G R V)
        refine wp_p (i := (.lconst 0)) rfl rfl (fun _ _ _ => rfl) (?_ : wpv K_X8_maps d P 72 [some (4, (p0 : Int)), some (0, x1), some (0, x2), some (0, x3), some (0, x4), some (0, x5), some (2, (V (p0 + 22) (((300 * x1) + x5))))] [(2, 0), (2, (V (p0 + 22) (((300 * x1) + x5))))] G R V)
        refine wp_lcmp rfl rfl f8 ⟨by omega, by omega⟩ (?_ : wpv K_X8_maps d P 73 [some (4, (p0 : Int)), some (0, x1), some (0, x2), some (0, x3), some (0, x4), some (0, x5), some (2, (V (p0 + 22) (((300 * x1) + x5))))] [(0, sg ((V (p0 + 22) (((300 * x1) + x5)))) 0)] G R V)
        refine wp_if (c := .le) 114 rfl rfl rfl (sg32 _ _) (fun q => ?_) (fun q => ?_)
        · have q : ¬ 0 < (V (p0 + 22) (((300 * x1) + x5))) := fun z => q (sg_gt.mpr z)
          replace w := w.1 q
          show wpv K_X8_maps d P 114 [some (4, (p0 : Int)), some (0, x1), some (0, x2), some (0, x3), some (0, x4), some (0, x5), some (2, (V (p0 + 22) (((300 * x1) + x5))))] [] G R V
          refine wp_p (i := (.iconst 0)) rfl rfl (fun _ _ _ => rfl) (?_ : wpv K_X8_maps d P 115 [some (4, (p0 : Int)), some (0, x1), some (0, x2), some (0, x3), some (0, x4), some (0, x5), some (2, (V (p0 + 22) (((300 * x1) + x5))))] [(0, 0)] G R V)
          refine wp_sto (i := (.istore 4)) _ rfl rfl (fun _ => rfl) rfl rfl rfl ?_
          refine wp_wk (L' := [some (4, (p0 : Int)), some (0, x1), some (0, x2), some (0, x3), some (0, 0), some (0, x5), some (2, (V (p0 + 22) (((300 * x1) + x5))))]) (wk_s (wk_s (wk_s (wk_s (wk_s (wk_s (wk_s wk_0))))))) ?_
          show wpv K_X8_maps d P 117 [some (4, (p0 : Int)), some (0, x1), some (0, x2), some (0, x3), some (0, 0), some (0, x5), some (2, (V (p0 + 22) (((300 * x1) + x5))))] [] G R V
          obtain ⟨s18, w⟩ := w
          refine wp_inc (x := 5) (k := 1) (a := x5) (c := (x5 + 1)) _ rfl rfl rfl rfl s18 (by omega) rfl ?_
          show wpv K_X8_maps d P 120 [some (4, (p0 : Int)), some (0, x1), some (0, x2), some (0, x3), some (0, 0), some (0, (x5 + 1)), some (2, (V (p0 + 22) (((300 * x1) + x5))))] [] G R V
          refine wp_go 36 rfl rfl rfl (?_ : wpv K_X8_maps d P 36 [some (4, (p0 : Int)), some (0, x1), some (0, x2), some (0, x3), some (0, 0), some (0, (x5 + 1)), some (2, (V (p0 + 22) (((300 * x1) + x5))))] [] G R V)
          exact wp_wk (wk_s (wk_s (wk_s (wk_s (wk_s (wk_s wk_0)))))) w
        · have q : 0 < (V (p0 + 22) (((300 * x1) + x5))) := sg_gt.mp (Decidable.not_not.mp q)
          replace w := w.2 q
          show wpv K_X8_maps d P 76 [some (4, (p0 : Int)), some (0, x1), some (0, x2), some (0, x3), some (0, x4), some (0, x5), some (2, (V (p0 + 22) (((300 * x1) + x5))))] [] G R V
          refine wp_ld (i := (.aload_n 0)) (4, (p0 : Int)) rfl rfl (fun _ => rfl) rfl rfl (?_ : wpv K_X8_maps d P 77 [some (4, (p0 : Int)), some (0, x1), some (0, x2), some (0, x3), some (0, x4), some (0, x5), some (2, (V (p0 + 22) (((300 * x1) + x5))))] [(4, (p0 : Int))] G R V)
          refine wp_ld (i := (.iload_n 2)) (0, x2) rfl rfl (fun _ => rfl) rfl rfl (?_ : wpv K_X8_maps d P 78 [some (4, (p0 : Int)), some (0, x1), some (0, x2), some (0, x3), some (0, x4), some (0, x5), some (2, (V (p0 + 22) (((300 * x1) + x5))))] [(0, x2), (4, (p0 : Int))] G R V)
          refine wp_ld (i := (.iload 5)) (0, x5) rfl rfl (fun _ => rfl) rfl rfl (?_ : wpv K_X8_maps d P 80 [some (4, (p0 : Int)), some (0, x1), some (0, x2), some (0, x3), some (0, x4), some (0, x5), some (2, (V (p0 + 22) (((300 * x1) + x5))))] [(0, x5), (0, x2), (4, (p0 : Int))] G R V)
          refine wp_virt (as := [(0, x2), (0, x5)]) (a := p0) (st := []) _ rfl rfl rfl rfl rfl rfl (ly8_o l0) (Nat.le_of_ble_eq_true rfl) (cwv_kJ w (fun v20 V19 w => ?_))
          show wpv K_X8_maps d P 83 [some (4, (p0 : Int)), some (0, x1), some (0, x2), some (0, x3), some (0, x4), some (0, x5), some (2, (V (p0 + 22) (((300 * x1) + x5))))] [(2, v20)] G R V19
          refine wp_p (i := (.lconst 0)) rfl rfl (fun _ _ _ => rfl) (?_ : wpv K_X8_maps d P 84 [some (4, (p0 : Int)), some (0, x1), some (0, x2), some (0, x3), some (0, x4), some (0, x5), some (2, (V (p0 + 22) (((300 * x1) + x5))))] [(2, 0), (2, v20)] G R V19)
          obtain ⟨s21, w⟩ := w
          refine wp_lcmp rfl rfl s21 ⟨by omega, by omega⟩ (?_ : wpv K_X8_maps d P 85 [some (4, (p0 : Int)), some (0, x1), some (0, x2), some (0, x3), some (0, x4), some (0, x5), some (2, (V (p0 + 22) (((300 * x1) + x5))))] [(0, sg v20 0)] G R V19)
          refine wp_if (c := .ne) 114 rfl rfl rfl (sg32 _ _) (fun q => ?_) (fun q => ?_)
          · have q : ¬ v20 = 0 := fun z => q (sg_eq.mpr z)
            replace w := w.1 q
            show wpv K_X8_maps d P 114 [some (4, (p0 : Int)), some (0, x1), some (0, x2), some (0, x3), some (0, x4), some (0, x5), some (2, (V (p0 + 22) (((300 * x1) + x5))))] [] G R V19
            refine wp_p (i := (.iconst 0)) rfl rfl (fun _ _ _ => rfl) (?_ : wpv K_X8_maps d P 115 [some (4, (p0 : Int)), some (0, x1), some (0, x2), some (0, x3), some (0, x4), some (0, x5), some (2, (V (p0 + 22) (((300 * x1) + x5))))] [(0, 0)] G R V19)
            refine wp_sto (i := (.istore 4)) _ rfl rfl (fun _ => rfl) rfl rfl rfl ?_
            refine wp_wk (L' := [some (4, (p0 : Int)), some (0, x1), some (0, x2), some (0, x3), some (0, 0), some (0, x5), some (2, (V (p0 + 22) (((300 * x1) + x5))))]) (wk_s (wk_s (wk_s (wk_s (wk_s (wk_s (wk_s wk_0))))))) ?_
            show wpv K_X8_maps d P 117 [some (4, (p0 : Int)), some (0, x1), some (0, x2), some (0, x3), some (0, 0), some (0, x5), some (2, (V (p0 + 22) (((300 * x1) + x5))))] [] G R V19
            obtain ⟨s22, w⟩ := w
            refine wp_inc (x := 5) (k := 1) (a := x5) (c := (x5 + 1)) _ rfl rfl rfl rfl s22 (by omega) rfl ?_
            show wpv K_X8_maps d P 120 [some (4, (p0 : Int)), some (0, x1), some (0, x2), some (0, x3), some (0, 0), some (0, (x5 + 1)), some (2, (V (p0 + 22) (((300 * x1) + x5))))] [] G R V19
            refine wp_go 36 rfl rfl rfl (?_ : wpv K_X8_maps d P 36 [some (4, (p0 : Int)), some (0, x1), some (0, x2), some (0, x3), some (0, 0), some (0, (x5 + 1)), some (2, (V (p0 + 22) (((300 * x1) + x5))))] [] G R V19)
            exact wp_wk (wk_s (wk_s (wk_s (wk_s (wk_s (wk_s wk_0)))))) w
          · have q : v20 = 0 := sg_eq.mp (Decidable.not_not.mp q)
            replace w := w.2 q
            show wpv K_X8_maps d P 88 [some (4, (p0 : Int)), some (0, x1), some (0, x2), some (0, x3), some (0, x4), some (0, x5), some (2, (V (p0 + 22) (((300 * x1) + x5))))] [] G R V19
            refine wp_go 110 rfl rfl rfl (?_ : wpv K_X8_maps d P 110 [some (4, (p0 : Int)), some (0, x1), some (0, x2), some (0, x3), some (0, x4), some (0, x5), some (2, (V (p0 + 22) (((300 * x1) + x5))))] [] G R V19)
            refine wp_p (i := (.iconst 1)) rfl rfl (fun _ _ _ => rfl) (?_ : wpv K_X8_maps d P 111 [some (4, (p0 : Int)), some (0, x1), some (0, x2), some (0, x3), some (0, x4), some (0, x5), some (2, (V (p0 + 22) (((300 * x1) + x5))))] [(0, 1)] G R V19)
            refine wp_go 115 rfl rfl rfl (?_ : wpv K_X8_maps d P 115 [some (4, (p0 : Int)), some (0, x1), some (0, x2), some (0, x3), some (0, x4), some (0, x5), some (2, (V (p0 + 22) (((300 * x1) + x5))))] [(0, 1)] G R V19)
            refine wp_sto (i := (.istore 4)) _ rfl rfl (fun _ => rfl) rfl rfl rfl ?_
            refine wp_wk (L' := [some (4, (p0 : Int)), some (0, x1), some (0, x2), some (0, x3), some (0, 1), some (0, x5), some (2, (V (p0 + 22) (((300 * x1) + x5))))]) (wk_s (wk_s (wk_s (wk_s (wk_s (wk_s (wk_s wk_0))))))) ?_
            show wpv K_X8_maps d P 117 [some (4, (p0 : Int)), some (0, x1), some (0, x2), some (0, x3), some (0, 1), some (0, x5), some (2, (V (p0 + 22) (((300 * x1) + x5))))] [] G R V19
            obtain ⟨s23, w⟩ := w
            refine wp_inc (x := 5) (k := 1) (a := x5) (c := (x5 + 1)) _ rfl rfl rfl rfl s23 (by omega) rfl ?_
            show wpv K_X8_maps d P 120 [some (4, (p0 : Int)), some (0, x1), some (0, x2), some (0, x3), some (0, 1), some (0, (x5 + 1)), some (2, (V (p0 + 22) (((300 * x1) + x5))))] [] G R V19
            refine wp_go 36 rfl rfl rfl (?_ : wpv K_X8_maps d P 36 [some (4, (p0 : Int)), some (0, x1), some (0, x2), some (0, x3), some (0, 1), some (0, (x5 + 1)), some (2, (V (p0 + 22) (((300 * x1) + x5))))] [] G R V19)
            exact wp_wk (wk_s (wk_s (wk_s (wk_s (wk_s (wk_s wk_0)))))) w

theorem t_X8_maps_136 {d : Nat} {P : gP} {p0 : Nat} {x1 : Int} {x2 : Int} {x3 : Int} {x5 : Int} {x7 : Int} {G : List gS} {R V : gV} (l0 : lay8 G R p0) (w : ((i32 (V p0 13)) → ((i32 x7) ∧ (((¬ x7 < (V p0 13)) → ((i64 x5) ∧ (((¬ 1000000000000000 < x5) → P (some (2, x5)) V) ∧ ((1000000000000000 < x5) → P (some (2, (-5))) V)))) ∧ ((x7 < (V p0 13)) → ((i64 x5) ∧ (((1000000000000000 < x5) → (((¬ 1000000000000000 < x5) → P (some (2, x5)) V) ∧ ((1000000000000000 < x5) → P (some (2, (-5))) V))) ∧ ((¬ 1000000000000000 < x5) → ((i32 (300 * x1)) ∧ ((i32 ((300 * x1) + x7)) ∧ ((0 ≤ ((300 * x1) + x7) ∧ ((300 * x1) + x7) < 2400) ∧ ((i64 (V (p0 + 22) (((300 * x1) + x7)))) → ((i32 x3) ∧ (((¬ x3 = 0) → ((i32 (300 * x7)) ∧ ((i32 ((300 * x7) + x7)) ∧ ((0 ≤ ((300 * x7) + x7) ∧ ((300 * x7) + x7) < 90000) ∧ ((i32 (V (p0 + 18) (((300 * x7) + x7)))) → cwv d (fun r V15 => ∃ v16 : Int, r = some (2, v16) ∧ cwv d (fun r V17 => ∃ v18 : Int, r = some (2, v18) ∧ wpv K_X8_maps d P 227 [some (4, (p0 : Int)), some (0, x1), some (0, x2), some (0, x3), none, some (2, v18), none, some (0, x7), some (2, (V (p0 + 22) (((300 * x1) + x7)))), none, some (2, 2)] [] G R V17) 220 [(2, x5), (2, v16)] G R V15) 222 [(2, (V (p0 + 18) (((300 * x7) + x7)))), (2, (V (p0 + 22) (((300 * x1) + x7))))] G R V))))) ∧ ((x3 = 0) → cwv d (fun r V19 => ∃ v20 : Int, r = some (2, v20) ∧ cwv d (fun r V21 => ∃ v22 : Int, r = some (2, v22) ∧ cwv d (fun r V23 => ∃ v24 : Int, r = some (2, v24) ∧ ((i32 (x7 + 1)) ∧ wpv K_X8_maps d P 136 [some (4, (p0 : Int)), some (0, x1), some (0, x2), some (0, x3), none, some (2, v24), none, some (0, (x7 + 1))] [] G R V23)) 220 [(2, x5), (2, v22)] G R V21) 222 [(2, v20), (2, (V (p0 + 22) (((300 * x1) + x7))))] G R V19) 210 [(4, (p0 : Int)), (0, x2), (0, x7)] G R V))))))))))))))) : wpv K_X8_maps d P 136 [some (4, (p0 : Int)), some (0, x1), some (0, x2), some (0, x3), none, some (2, x5), none, some (0, x7)] [] G R V := by
  refine wp_ld (i := (.iload 7)) (0, x7) rfl rfl (fun _ => rfl) rfl rfl (?_ : wpv K_X8_maps d P 138 [some (4, (p0 : Int)), some (0, x1), some (0, x2), some (0, x3), none, some (2, x5), none, some (0, x7)] [(0, x7)] G R V)
  refine wp_ld (i := (.aload_n 0)) (4, (p0 : Int)) rfl rfl (fun _ => rfl) rfl rfl (?_ : wpv K_X8_maps d P 139 [some (4, (p0 : Int)), some (0, x1), some (0, x2), some (0, x3), none, some (2, x5), none, some (0, x7)] [(4, (p0 : Int)), (0, x7)] G R V)
  refine wp_rng (fun vr1 => ?_)
  have f2 : i32 (V p0 13) := vr_f0 vr1 (ly8_o l0) rfl rfl
  replace w := w f2
  refine wp_getI (k := 13) rfl rfl rfl (ly8_o l0) rfl rfl (?_ : wpv K_X8_maps d P 142 [some (4, (p0 : Int)), some (0, x1), some (0, x2), some (0, x3), none, some (2, x5), none, some (0, x7)] [(0, (V p0 13)), (0, x7)] G R V)
  obtain ⟨s3, w⟩ := w
  refine wp_icmp (c := .ge) 268 rfl rfl rfl s3 f2 (fun q => ?_) (fun q => ?_)
  · have q : ¬ x7 < (V p0 13) := q
    replace w := w.1 q
    show wpv K_X8_maps d P 268 [some (4, (p0 : Int)), some (0, x1), some (0, x2), some (0, x3), none, some (2, x5), none, some (0, x7)] [] G R V
    refine wp_ld (i := (.lload 5)) (2, x5) rfl rfl (fun _ => rfl) rfl rfl (?_ : wpv K_X8_maps d P 270 [some (4, (p0 : Int)), some (0, x1), some (0, x2), some (0, x3), none, some (2, x5), none, some (0, x7)] [(2, x5)] G R V)
    refine wp_p (i := (.ldc2_w 303)) rfl rfl (fun _ _ _ => rfl) (?_ : wpv K_X8_maps d P 273 [some (4, (p0 : Int)), some (0, x1), some (0, x2), some (0, x3), none, some (2, x5), none, some (0, x7)] [(2, 1000000000000000), (2, x5)] G R V)
    obtain ⟨s4, w⟩ := w
    refine wp_lcmp rfl rfl s4 ⟨by omega, by omega⟩ (?_ : wpv K_X8_maps d P 274 [some (4, (p0 : Int)), some (0, x1), some (0, x2), some (0, x3), none, some (2, x5), none, some (0, x7)] [(0, sg x5 1000000000000000)] G R V)
    refine wp_if (c := .le) 283 rfl rfl rfl (sg32 _ _) (fun q => ?_) (fun q => ?_)
    · have q : ¬ 1000000000000000 < x5 := fun z => q (sg_gt.mpr z)
      replace w := w.1 q
      show wpv K_X8_maps d P 283 [some (4, (p0 : Int)), some (0, x1), some (0, x2), some (0, x3), none, some (2, x5), none, some (0, x7)] [] G R V
      refine wp_ld (i := (.lload 5)) (2, x5) rfl rfl (fun _ => rfl) rfl rfl (?_ : wpv K_X8_maps d P 285 [some (4, (p0 : Int)), some (0, x1), some (0, x2), some (0, x3), none, some (2, x5), none, some (0, x7)] [(2, x5)] G R V)
      exact wp_rJ rfl rfl rfl w
    · have q : 1000000000000000 < x5 := sg_gt.mp (Decidable.not_not.mp q)
      replace w := w.2 q
      show wpv K_X8_maps d P 277 [some (4, (p0 : Int)), some (0, x1), some (0, x2), some (0, x3), none, some (2, x5), none, some (0, x7)] [] G R V
      refine wp_p (i := (.ldc2_w 314)) rfl rfl (fun _ _ _ => rfl) (?_ : wpv K_X8_maps d P 280 [some (4, (p0 : Int)), some (0, x1), some (0, x2), some (0, x3), none, some (2, x5), none, some (0, x7)] [(2, (-5))] G R V)
      refine wp_go 285 rfl rfl rfl (?_ : wpv K_X8_maps d P 285 [some (4, (p0 : Int)), some (0, x1), some (0, x2), some (0, x3), none, some (2, x5), none, some (0, x7)] [(2, (-5))] G R V)
      exact wp_rJ rfl rfl rfl w
  · have q : x7 < (V p0 13) := Decidable.not_not.mp q
    replace w := w.2 q
    show wpv K_X8_maps d P 145 [some (4, (p0 : Int)), some (0, x1), some (0, x2), some (0, x3), none, some (2, x5), none, some (0, x7)] [] G R V
    refine wp_ld (i := (.lload 5)) (2, x5) rfl rfl (fun _ => rfl) rfl rfl (?_ : wpv K_X8_maps d P 147 [some (4, (p0 : Int)), some (0, x1), some (0, x2), some (0, x3), none, some (2, x5), none, some (0, x7)] [(2, x5)] G R V)
    refine wp_p (i := (.ldc2_w 303)) rfl rfl (fun _ _ _ => rfl) (?_ : wpv K_X8_maps d P 150 [some (4, (p0 : Int)), some (0, x1), some (0, x2), some (0, x3), none, some (2, x5), none, some (0, x7)] [(2, 1000000000000000), (2, x5)] G R V)
    obtain ⟨s5, w⟩ := w
    refine wp_lcmp rfl rfl s5 ⟨by omega, by omega⟩ (?_ : wpv K_X8_maps d P 151 [some (4, (p0 : Int)), some (0, x1), some (0, x2), some (0, x3), none, some (2, x5), none, some (0, x7)] [(0, sg x5 1000000000000000)] G R V)
    refine wp_if (c := .gt) 268 rfl rfl rfl (sg32 _ _) (fun q => ?_) (fun q => ?_)
    · have q : 1000000000000000 < x5 := sg_gt.mp q
      replace w := w.1 q
      show wpv K_X8_maps d P 268 [some (4, (p0 : Int)), some (0, x1), some (0, x2), some (0, x3), none, some (2, x5), none, some (0, x7)] [] G R V
      refine wp_ld (i := (.lload 5)) (2, x5) rfl rfl (fun _ => rfl) rfl rfl (?_ : wpv K_X8_maps d P 270 [some (4, (p0 : Int)), some (0, x1), some (0, x2), some (0, x3), none, some (2, x5), none, some (0, x7)] [(2, x5)] G R V)
      refine wp_p (i := (.ldc2_w 303)) rfl rfl (fun _ _ _ => rfl) (?_ : wpv K_X8_maps d P 273 [some (4, (p0 : Int)), some (0, x1), some (0, x2), some (0, x3), none, some (2, x5), none, some (0, x7)] [(2, 1000000000000000), (2, x5)] G R V)
      refine wp_lcmp rfl rfl s5 ⟨by omega, by omega⟩ (?_ : wpv K_X8_maps d P 274 [some (4, (p0 : Int)), some (0, x1), some (0, x2), some (0, x3), none, some (2, x5), none, some (0, x7)] [(0, sg x5 1000000000000000)] G R V)
      refine wp_if (c := .le) 283 rfl rfl rfl (sg32 _ _) (fun q => ?_) (fun q => ?_)
      · have q : ¬ 1000000000000000 < x5 := fun z => q (sg_gt.mpr z)
        replace w := w.1 q
        show wpv K_X8_maps d P 283 [some (4, (p0 : Int)), some (0, x1), some (0, x2), some (0, x3), none, some (2, x5), none, some (0, x7)] [] G R V
        refine wp_ld (i := (.lload 5)) (2, x5) rfl rfl (fun _ => rfl) rfl rfl (?_ : wpv K_X8_maps d P 285 [some (4, (p0 : Int)), some (0, x1), some (0, x2), some (0, x3), none, some (2, x5), none, some (0, x7)] [(2, x5)] G R V)
        exact wp_rJ rfl rfl rfl w
      · have q : 1000000000000000 < x5 := sg_gt.mp (Decidable.not_not.mp q)
        replace w := w.2 q
        show wpv K_X8_maps d P 277 [some (4, (p0 : Int)), some (0, x1), some (0, x2), some (0, x3), none, some (2, x5), none, some (0, x7)] [] G R V
        refine wp_p (i := (.ldc2_w 314)) rfl rfl (fun _ _ _ => rfl) (?_ : wpv K_X8_maps d P 280 [some (4, (p0 : Int)), some (0, x1), some (0, x2), some (0, x3), none, some (2, x5), none, some (0, x7)] [(2, (-5))] G R V)
        refine wp_go 285 rfl rfl rfl (?_ : wpv K_X8_maps d P 285 [some (4, (p0 : Int)), some (0, x1), some (0, x2), some (0, x3), none, some (2, x5), none, some (0, x7)] [(2, (-5))] G R V)
        exact wp_rJ rfl rfl rfl w
    · have q : ¬ 1000000000000000 < x5 := fun z => q (sg_gt.mpr z)
      replace w := w.2 q
      show wpv K_X8_maps d P 154 [some (4, (p0 : Int)), some (0, x1), some (0, x2), some (0, x3), none, some (2, x5), none, some (0, x7)] [] G R V
      refine wp_ld (i := (.aload_n 0)) (4, (p0 : Int)) rfl rfl (fun _ => rfl) rfl rfl (?_ : wpv K_X8_maps d P 155 [some (4, (p0 : Int)), some (0, x1), some (0, x2), some (0, x3), none, some (2, x5), none, some (0, x7)] [(4, (p0 : Int))] G R V)
      refine wp_getA (k := 29) rfl rfl rfl (ly8_o l0) rfl rfl (ly8_29 l0).1 (?_ : wpv K_X8_maps d P 158 [some (4, (p0 : Int)), some (0, x1), some (0, x2), some (0, x3), none, some (2, x5), none, some (0, x7)] [(4, ((p0 + 22 : Nat) : Int))] G R V)
      refine wp_p (i := (.sipush 300)) rfl rfl (fun _ _ _ => rfl) (?_ : wpv K_X8_maps d P 161 [some (4, (p0 : Int)), some (0, x1), some (0, x2), some (0, x3), none, some (2, x5), none, some (0, x7)] [(0, 300), (4, ((p0 + 22 : Nat) : Int))] G R V)
      refine wp_ld (i := (.iload_n 1)) (0, x1) rfl rfl (fun _ => rfl) rfl rfl (?_ : wpv K_X8_maps d P 162 [some (4, (p0 : Int)), some (0, x1), some (0, x2), some (0, x3), none, some (2, x5), none, some (0, x7)] [(0, x1), (0, 300), (4, ((p0 + 22 : Nat) : Int))] G R V)
      obtain ⟨s6, w⟩ := w
      refine wp_xmul rfl rfl s6 (?_ : wpv K_X8_maps d P 163 [some (4, (p0 : Int)), some (0, x1), some (0, x2), some (0, x3), none, some (2, x5), none, some (0, x7)] [(0, (300 * x1)), (4, ((p0 + 22 : Nat) : Int))] G R V)
      refine wp_ld (i := (.iload 7)) (0, x7) rfl rfl (fun _ => rfl) rfl rfl (?_ : wpv K_X8_maps d P 165 [some (4, (p0 : Int)), some (0, x1), some (0, x2), some (0, x3), none, some (2, x5), none, some (0, x7)] [(0, x7), (0, (300 * x1)), (4, ((p0 + 22 : Nat) : Int))] G R V)
      obtain ⟨s7, w⟩ := w
      refine wp_xadd rfl rfl s7 (?_ : wpv K_X8_maps d P 166 [some (4, (p0 : Int)), some (0, x1), some (0, x2), some (0, x3), none, some (2, x5), none, some (0, x7)] [(0, ((300 * x1) + x7)), (4, ((p0 + 22 : Nat) : Int))] G R V)
      obtain ⟨s8, w⟩ := w
      have f9 : i64 (V (p0 + 22) (((300 * x1) + x7))) := vr_a1 vr1 (ly8_29 l0).2 s8
      replace w := w f9
      refine wp_aJ rfl rfl (ly8_29 l0).2 s8 (?_ : wpv K_X8_maps d P 167 [some (4, (p0 : Int)), some (0, x1), some (0, x2), some (0, x3), none, some (2, x5), none, some (0, x7)] [(2, (V (p0 + 22) (((300 * x1) + x7))))] G R V)
      refine wp_lsto (i := (.lstore 8)) _ rfl rfl (fun _ => rfl) rfl rfl rfl ?_
      refine wp_wk (L' := [some (4, (p0 : Int)), some (0, x1), some (0, x2), some (0, x3), none, some (2, x5), none, some (0, x7), some (2, (V (p0 + 22) (((300 * x1) + x7))))]) (wk_s (wk_s (wk_s (wk_s (wk_n (wk_s (wk_n (wk_s (wk_s wk_0))))))))) ?_
      show wpv K_X8_maps d P 169 [some (4, (p0 : Int)), some (0, x1), some (0, x2), some (0, x3), none, some (2, x5), none, some (0, x7), some (2, (V (p0 + 22) (((300 * x1) + x7))))] [] G R V
      refine wp_ld (i := (.iload_n 3)) (0, x3) rfl rfl (fun _ => rfl) rfl rfl (?_ : wpv K_X8_maps d P 170 [some (4, (p0 : Int)), some (0, x1), some (0, x2), some (0, x3), none, some (2, x5), none, some (0, x7), some (2, (V (p0 + 22) (((300 * x1) + x7))))] [(0, x3)] G R V)
      obtain ⟨s10, w⟩ := w
      refine wp_if (c := .ne) 195 rfl rfl rfl s10 (fun q => ?_) (fun q => ?_)
      · have q : ¬ x3 = 0 := q
        replace w := w.1 q
        show wpv K_X8_maps d P 195 [some (4, (p0 : Int)), some (0, x1), some (0, x2), some (0, x3), none, some (2, x5), none, some (0, x7), some (2, (V (p0 + 22) (((300 * x1) + x7))))] [] G R V
        refine wp_ld (i := (.lload 5)) (2, x5) rfl rfl (fun _ => rfl) rfl rfl (?_ : wpv K_X8_maps d P 197 [some (4, (p0 : Int)), some (0, x1), some (0, x2), some (0, x3), none, some (2, x5), none, some (0, x7), some (2, (V (p0 + 22) (((300 * x1) + x7))))] [(2, x5)] G R V)
        refine wp_ld (i := (.aload_n 0)) (4, (p0 : Int)) rfl rfl (fun _ => rfl) rfl rfl (?_ : wpv K_X8_maps d P 198 [some (4, (p0 : Int)), some (0, x1), some (0, x2), some (0, x3), none, some (2, x5), none, some (0, x7), some (2, (V (p0 + 22) (((300 * x1) + x7))))] [(4, (p0 : Int)), (2, x5)] G R V)
        refine wp_getA (k := 23) rfl rfl rfl (ly8_o l0) rfl rfl (ly8_23 l0).1 (?_ : wpv K_X8_maps d P 201 [some (4, (p0 : Int)), some (0, x1), some (0, x2), some (0, x3), none, some (2, x5), none, some (0, x7), some (2, (V (p0 + 22) (((300 * x1) + x7))))] [(4, ((p0 + 18 : Nat) : Int)), (2, x5)] G R V)
        refine wp_p (i := (.sipush 300)) rfl rfl (fun _ _ _ => rfl) (?_ : wpv K_X8_maps d P 204 [some (4, (p0 : Int)), some (0, x1), some (0, x2), some (0, x3), none, some (2, x5), none, some (0, x7), some (2, (V (p0 + 22) (((300 * x1) + x7))))] [(0, 300), (4, ((p0 + 18 : Nat) : Int)), (2, x5)] G R V)
        refine wp_ld (i := (.iload 7)) (0, x7) rfl rfl (fun _ => rfl) rfl rfl (?_ : wpv K_X8_maps d P 206 [some (4, (p0 : Int)), some (0, x1), some (0, x2), some (0, x3), none, some (2, x5), none, some (0, x7), some (2, (V (p0 + 22) (((300 * x1) + x7))))] [(0, x7), (0, 300), (4, ((p0 + 18 : Nat) : Int)), (2, x5)] G R V)
        obtain ⟨s11, w⟩ := w
        refine wp_xmul rfl rfl s11 (?_ : wpv K_X8_maps d P 207 [some (4, (p0 : Int)), some (0, x1), some (0, x2), some (0, x3), none, some (2, x5), none, some (0, x7), some (2, (V (p0 + 22) (((300 * x1) + x7))))] [(0, (300 * x7)), (4, ((p0 + 18 : Nat) : Int)), (2, x5)] G R V)
        refine wp_ld (i := (.iload 7)) (0, x7) rfl rfl (fun _ => rfl) rfl rfl (?_ : wpv K_X8_maps d P 209 [some (4, (p0 : Int)), some (0, x1), some (0, x2), some (0, x3), none, some (2, x5), none, some (0, x7), some (2, (V (p0 + 22) (((300 * x1) + x7))))] [(0, x7), (0, (300 * x7)), (4, ((p0 + 18 : Nat) : Int)), (2, x5)] G R V)
        obtain ⟨s12, w⟩ := w
        refine wp_xadd rfl rfl s12 (?_ : wpv K_X8_maps d P 210 [some (4, (p0 : Int)), some (0, x1), some (0, x2), some (0, x3), none, some (2, x5), none, some (0, x7), some (2, (V (p0 + 22) (((300 * x1) + x7))))] [(0, ((300 * x7) + x7)), (4, ((p0 + 18 : Nat) : Int)), (2, x5)] G R V)
        obtain ⟨s13, w⟩ := w
        have f14 : i32 (V (p0 + 18) (((300 * x7) + x7))) := vr_a0 vr1 (ly8_23 l0).2 s13
        replace w := w f14
        refine wp_aI rfl rfl (ly8_23 l0).2 s13 (?_ : wpv K_X8_maps d P 211 [some (4, (p0 : Int)), some (0, x1), some (0, x2), some (0, x3), none, some (2, x5), none, some (0, x7), some (2, (V (p0 + 22) (((300 * x1) + x7))))] [(0, (V (p0 + 18) (((300 * x7) + x7)))), (2, x5)] G R V)
        refine wp_i2l rfl rfl f14 (?_ : wpv K_X8_maps d P 212 [some (4, (p0 : Int)), some (0, x1), some (0, x2), some (0, x3), none, some (2, x5), none, some (0, x7), some (2, (V (p0 + 22) (((300 * x1) + x7))))] [(2, (V (p0 + 18) (((300 * x7) + x7)))), (2, x5)] G R V)
        refine wp_ld (i := (.lload 8)) (2, (V (p0 + 22) (((300 * x1) + x7)))) rfl rfl (fun _ => rfl) rfl rfl (?_ : wpv K_X8_maps d P 214 [some (4, (p0 : Int)), some (0, x1), some (0, x2), some (0, x3), none, some (2, x5), none, some (0, x7), some (2, (V (p0 + 22) (((300 * x1) + x7))))] [(2, (V (p0 + 22) (((300 * x1) + x7)))), (2, (V (p0 + 18) (((300 * x7) + x7)))), (2, x5)] G R V)
        refine wp_stat (as := [(2, (V (p0 + 18) (((300 * x7) + x7)))), (2, (V (p0 + 22) (((300 * x1) + x7))))]) (st := [(2, x5)]) _ rfl rfl rfl (by omega) rfl rfl (Nat.le_of_ble_eq_true rfl) (cwv_kJ w (fun v16 V15 w => ?_))
        show wpv K_X8_maps d P 217 [some (4, (p0 : Int)), some (0, x1), some (0, x2), some (0, x3), none, some (2, x5), none, some (0, x7), some (2, (V (p0 + 22) (((300 * x1) + x7))))] [(2, v16), (2, x5)] G R V15
        refine wp_stat (as := [(2, x5), (2, v16)]) (st := []) _ rfl rfl rfl (by omega) rfl rfl (Nat.le_of_ble_eq_true rfl) (cwv_kJ w (fun v18 V17 w => ?_))
        show wpv K_X8_maps d P 220 [some (4, (p0 : Int)), some (0, x1), some (0, x2), some (0, x3), none, some (2, x5), none, some (0, x7), some (2, (V (p0 + 22) (((300 * x1) + x7))))] [(2, v18)] G R V17
        refine wp_lsto (i := (.lstore 5)) _ rfl rfl (fun _ => rfl) rfl rfl rfl ?_
        refine wp_wk (L' := [some (4, (p0 : Int)), some (0, x1), some (0, x2), some (0, x3), none, some (2, v18), none, some (0, x7), some (2, (V (p0 + 22) (((300 * x1) + x7))))]) (wk_s (wk_s (wk_s (wk_s (wk_n (wk_s (wk_n (wk_s (wk_s wk_0))))))))) ?_
        show wpv K_X8_maps d P 222 [some (4, (p0 : Int)), some (0, x1), some (0, x2), some (0, x3), none, some (2, v18), none, some (0, x7), some (2, (V (p0 + 22) (((300 * x1) + x7))))] [] G R V17
        refine wp_p (i := (.ldc2_w 13)) rfl rfl (fun _ _ _ => rfl) (?_ : wpv K_X8_maps d P 225 [some (4, (p0 : Int)), some (0, x1), some (0, x2), some (0, x3), none, some (2, v18), none, some (0, x7), some (2, (V (p0 + 22) (((300 * x1) + x7))))] [(2, 2)] G R V17)
        refine wp_lsto (i := (.lstore 10)) _ rfl rfl (fun _ => rfl) rfl rfl rfl ?_
        refine wp_wk (L' := [some (4, (p0 : Int)), some (0, x1), some (0, x2), some (0, x3), none, some (2, v18), none, some (0, x7), some (2, (V (p0 + 22) (((300 * x1) + x7)))), none, some (2, 2)]) (wk_s (wk_s (wk_s (wk_s (wk_n (wk_s (wk_n (wk_s (wk_s (wk_n (wk_s wk_0))))))))))) ?_
        show wpv K_X8_maps d P 227 [some (4, (p0 : Int)), some (0, x1), some (0, x2), some (0, x3), none, some (2, v18), none, some (0, x7), some (2, (V (p0 + 22) (((300 * x1) + x7)))), none, some (2, 2)] [] G R V17
        exact wp_wk (wk_s (wk_s (wk_s (wk_s (wk_n (wk_s (wk_n (wk_s (wk_s (wk_n (wk_s wk_0))))))))))) w
      · have q : x3 = 0 := Decidable.not_not.mp q
        replace w := w.2 q
        show wpv K_X8_maps d P 173 [some (4, (p0 : Int)), some (0, x1), some (0, x2), some (0, x3), none, some (2, x5), none, some (0, x7), some (2, (V (p0 + 22) (((300 * x1) + x7))))] [] G R V
        refine wp_ld (i := (.lload 5)) (2, x5) rfl rfl (fun _ => rfl) rfl rfl (?_ : wpv K_X8_maps d P 175 [some (4, (p0 : Int)), some (0, x1), some (0, x2), some (0, x3), none, some (2, x5), none, some (0, x7), some (2, (V (p0 + 22) (((300 * x1) + x7))))] [(2, x5)] G R V)
        refine wp_ld (i := (.aload_n 0)) (4, (p0 : Int)) rfl rfl (fun _ => rfl) rfl rfl (?_ : wpv K_X8_maps d P 176 [some (4, (p0 : Int)), some (0, x1), some (0, x2), some (0, x3), none, some (2, x5), none, some (0, x7), some (2, (V (p0 + 22) (((300 * x1) + x7))))] [(4, (p0 : Int)), (2, x5)] G R V)
        refine wp_ld (i := (.iload_n 2)) (0, x2) rfl rfl (fun _ => rfl) rfl rfl (?_ : wpv K_X8_maps d P 177 [some (4, (p0 : Int)), some (0, x1), some (0, x2), some (0, x3), none, some (2, x5), none, some (0, x7), some (2, (V (p0 + 22) (((300 * x1) + x7))))] [(0, x2), (4, (p0 : Int)), (2, x5)] G R V)
        refine wp_ld (i := (.iload 7)) (0, x7) rfl rfl (fun _ => rfl) rfl rfl (?_ : wpv K_X8_maps d P 179 [some (4, (p0 : Int)), some (0, x1), some (0, x2), some (0, x3), none, some (2, x5), none, some (0, x7), some (2, (V (p0 + 22) (((300 * x1) + x7))))] [(0, x7), (0, x2), (4, (p0 : Int)), (2, x5)] G R V)
        refine wp_virt (as := [(0, x2), (0, x7)]) (a := p0) (st := [(2, x5)]) _ rfl rfl rfl rfl rfl rfl (ly8_o l0) (Nat.le_of_ble_eq_true rfl) (cwv_kJ w (fun v20 V19 w => ?_))
        show wpv K_X8_maps d P 182 [some (4, (p0 : Int)), some (0, x1), some (0, x2), some (0, x3), none, some (2, x5), none, some (0, x7), some (2, (V (p0 + 22) (((300 * x1) + x7))))] [(2, v20), (2, x5)] G R V19
        refine wp_ld (i := (.lload 8)) (2, (V (p0 + 22) (((300 * x1) + x7)))) rfl rfl (fun _ => rfl) rfl rfl (?_ : wpv K_X8_maps d P 184 [some (4, (p0 : Int)), some (0, x1), some (0, x2), some (0, x3), none, some (2, x5), none, some (0, x7), some (2, (V (p0 + 22) (((300 * x1) + x7))))] [(2, (V (p0 + 22) (((300 * x1) + x7)))), (2, v20), (2, x5)] G R V19)
        refine wp_stat (as := [(2, v20), (2, (V (p0 + 22) (((300 * x1) + x7))))]) (st := [(2, x5)]) _ rfl rfl rfl (by omega) rfl rfl (Nat.le_of_ble_eq_true rfl) (cwv_kJ w (fun v22 V21 w => ?_))
        show wpv K_X8_maps d P 187 [some (4, (p0 : Int)), some (0, x1), some (0, x2), some (0, x3), none, some (2, x5), none, some (0, x7), some (2, (V (p0 + 22) (((300 * x1) + x7))))] [(2, v22), (2, x5)] G R V21
        refine wp_stat (as := [(2, x5), (2, v22)]) (st := []) _ rfl rfl rfl (by omega) rfl rfl (Nat.le_of_ble_eq_true rfl) (cwv_kJ w (fun v24 V23 w => ?_))
        show wpv K_X8_maps d P 190 [some (4, (p0 : Int)), some (0, x1), some (0, x2), some (0, x3), none, some (2, x5), none, some (0, x7), some (2, (V (p0 + 22) (((300 * x1) + x7))))] [(2, v24)] G R V23
        refine wp_lsto (i := (.lstore 5)) _ rfl rfl (fun _ => rfl) rfl rfl rfl ?_
        refine wp_wk (L' := [some (4, (p0 : Int)), some (0, x1), some (0, x2), some (0, x3), none, some (2, v24), none, some (0, x7), some (2, (V (p0 + 22) (((300 * x1) + x7))))]) (wk_s (wk_s (wk_s (wk_s (wk_n (wk_s (wk_n (wk_s (wk_s wk_0))))))))) ?_
        show wpv K_X8_maps d P 192 [some (4, (p0 : Int)), some (0, x1), some (0, x2), some (0, x3), none, some (2, v24), none, some (0, x7), some (2, (V (p0 + 22) (((300 * x1) + x7))))] [] G R V23
        refine wp_go 262 rfl rfl rfl (?_ : wpv K_X8_maps d P 262 [some (4, (p0 : Int)), some (0, x1), some (0, x2), some (0, x3), none, some (2, v24), none, some (0, x7), some (2, (V (p0 + 22) (((300 * x1) + x7))))] [] G R V23)
        obtain ⟨s25, w⟩ := w
        refine wp_inc (x := 7) (k := 1) (a := x7) (c := (x7 + 1)) _ rfl rfl rfl rfl s25 (by omega) rfl ?_
        show wpv K_X8_maps d P 265 [some (4, (p0 : Int)), some (0, x1), some (0, x2), some (0, x3), none, some (2, v24), none, some (0, (x7 + 1)), some (2, (V (p0 + 22) (((300 * x1) + x7))))] [] G R V23
        refine wp_go 136 rfl rfl rfl (?_ : wpv K_X8_maps d P 136 [some (4, (p0 : Int)), some (0, x1), some (0, x2), some (0, x3), none, some (2, v24), none, some (0, (x7 + 1)), some (2, (V (p0 + 22) (((300 * x1) + x7))))] [] G R V23)
        exact wp_wk (wk_s (wk_s (wk_s (wk_s (wk_n (wk_s (wk_n (wk_s wk_0)))))))) w

theorem t_X8_maps_227 {d : Nat} {P : gP} {p0 : Nat} {x1 : Int} {x2 : Int} {x3 : Int} {x5 : Int} {x7 : Int} {x8 : Int} {x10 : Int} {G : List gS} {R V : gV} (l0 : lay8 G R p0) (w : ((i64 x10) ∧ ((i64 x8) ∧ (((x8 < x10) → ((i32 (x7 + 1)) ∧ wpv K_X8_maps d P 136 [some (4, (p0 : Int)), some (0, x1), some (0, x2), some (0, x3), none, some (2, x5), none, some (0, (x7 + 1))] [] G R V)) ∧ ((¬ x8 < x10) → ((i64 x5) ∧ (((1000000000000000 < x5) → ((i32 (x7 + 1)) ∧ wpv K_X8_maps d P 136 [some (4, (p0 : Int)), some (0, x1), some (0, x2), some (0, x3), none, some (2, x5), none, some (0, (x7 + 1))] [] G R V)) ∧ ((¬ 1000000000000000 < x5) → cwv d (fun r V6 => ∃ v7 : Int, r = some (2, v7) ∧ wpv K_X8_maps d P 227 [some (4, (p0 : Int)), some (0, x1), some (0, x2), some (0, x3), none, some (2, v7), none, some (0, x7), some (2, x8), none, some (2, (jadd x10 1))] [] G R V6) 220 [(2, x5), (2, x10)] G R V)))))))) : wpv K_X8_maps d P 227 [some (4, (p0 : Int)), some (0, x1), some (0, x2), some (0, x3), none, some (2, x5), none, some (0, x7), some (2, x8), none, some (2, x10)] [] G R V := by
  refine wp_ld (i := (.lload 10)) (2, x10) rfl rfl (fun _ => rfl) rfl rfl (?_ : wpv K_X8_maps d P 229 [some (4, (p0 : Int)), some (0, x1), some (0, x2), some (0, x3), none, some (2, x5), none, some (0, x7), some (2, x8), none, some (2, x10)] [(2, x10)] G R V)
  refine wp_ld (i := (.lload 8)) (2, x8) rfl rfl (fun _ => rfl) rfl rfl (?_ : wpv K_X8_maps d P 231 [some (4, (p0 : Int)), some (0, x1), some (0, x2), some (0, x3), none, some (2, x5), none, some (0, x7), some (2, x8), none, some (2, x10)] [(2, x8), (2, x10)] G R V)
  obtain ⟨s1, w⟩ := w
  obtain ⟨s2, w⟩ := w
  refine wp_lcmp rfl rfl s1 s2 (?_ : wpv K_X8_maps d P 232 [some (4, (p0 : Int)), some (0, x1), some (0, x2), some (0, x3), none, some (2, x5), none, some (0, x7), some (2, x8), none, some (2, x10)] [(0, sg x10 x8)] G R V)
  refine wp_if (c := .gt) 262 rfl rfl rfl (sg32 _ _) (fun q => ?_) (fun q => ?_)
  · have q : x8 < x10 := sg_gt.mp q
    replace w := w.1 q
    show wpv K_X8_maps d P 262 [some (4, (p0 : Int)), some (0, x1), some (0, x2), some (0, x3), none, some (2, x5), none, some (0, x7), some (2, x8), none, some (2, x10)] [] G R V
    obtain ⟨s3, w⟩ := w
    refine wp_inc (x := 7) (k := 1) (a := x7) (c := (x7 + 1)) _ rfl rfl rfl rfl s3 (by omega) rfl ?_
    show wpv K_X8_maps d P 265 [some (4, (p0 : Int)), some (0, x1), some (0, x2), some (0, x3), none, some (2, x5), none, some (0, (x7 + 1)), some (2, x8), none, some (2, x10)] [] G R V
    refine wp_go 136 rfl rfl rfl (?_ : wpv K_X8_maps d P 136 [some (4, (p0 : Int)), some (0, x1), some (0, x2), some (0, x3), none, some (2, x5), none, some (0, (x7 + 1)), some (2, x8), none, some (2, x10)] [] G R V)
    exact wp_wk (wk_s (wk_s (wk_s (wk_s (wk_n (wk_s (wk_n (wk_s wk_0)))))))) w
  · have q : ¬ x8 < x10 := fun z => q (sg_gt.mpr z)
    replace w := w.2 q
    show wpv K_X8_maps d P 235 [some (4, (p0 : Int)), some (0, x1), some (0, x2), some (0, x3), none, some (2, x5), none, some (0, x7), some (2, x8), none, some (2, x10)] [] G R V
    refine wp_ld (i := (.lload 5)) (2, x5) rfl rfl (fun _ => rfl) rfl rfl (?_ : wpv K_X8_maps d P 237 [some (4, (p0 : Int)), some (0, x1), some (0, x2), some (0, x3), none, some (2, x5), none, some (0, x7), some (2, x8), none, some (2, x10)] [(2, x5)] G R V)
    refine wp_p (i := (.ldc2_w 303)) rfl rfl (fun _ _ _ => rfl) (?_ : wpv K_X8_maps d P 240 [some (4, (p0 : Int)), some (0, x1), some (0, x2), some (0, x3), none, some (2, x5), none, some (0, x7), some (2, x8), none, some (2, x10)] [(2, 1000000000000000), (2, x5)] G R V)
    obtain ⟨s4, w⟩ := w
    refine wp_lcmp rfl rfl s4 ⟨by omega, by omega⟩ (?_ : wpv K_X8_maps d P 241 [some (4, (p0 : Int)), some (0, x1), some (0, x2), some (0, x3), none, some (2, x5), none, some (0, x7), some (2, x8), none, some (2, x10)] [(0, sg x5 1000000000000000)] G R V)
    refine wp_if (c := .gt) 262 rfl rfl rfl (sg32 _ _) (fun q => ?_) (fun q => ?_)
    · have q : 1000000000000000 < x5 := sg_gt.mp q
      replace w := w.1 q
      show wpv K_X8_maps d P 262 [some (4, (p0 : Int)), some (0, x1), some (0, x2), some (0, x3), none, some (2, x5), none, some (0, x7), some (2, x8), none, some (2, x10)] [] G R V
      obtain ⟨s5, w⟩ := w
      refine wp_inc (x := 7) (k := 1) (a := x7) (c := (x7 + 1)) _ rfl rfl rfl rfl s5 (by omega) rfl ?_
      show wpv K_X8_maps d P 265 [some (4, (p0 : Int)), some (0, x1), some (0, x2), some (0, x3), none, some (2, x5), none, some (0, (x7 + 1)), some (2, x8), none, some (2, x10)] [] G R V
      refine wp_go 136 rfl rfl rfl (?_ : wpv K_X8_maps d P 136 [some (4, (p0 : Int)), some (0, x1), some (0, x2), some (0, x3), none, some (2, x5), none, some (0, (x7 + 1)), some (2, x8), none, some (2, x10)] [] G R V)
      exact wp_wk (wk_s (wk_s (wk_s (wk_s (wk_n (wk_s (wk_n (wk_s wk_0)))))))) w
    · have q : ¬ 1000000000000000 < x5 := fun z => q (sg_gt.mpr z)
      replace w := w.2 q
      show wpv K_X8_maps d P 244 [some (4, (p0 : Int)), some (0, x1), some (0, x2), some (0, x3), none, some (2, x5), none, some (0, x7), some (2, x8), none, some (2, x10)] [] G R V
      refine wp_ld (i := (.lload 5)) (2, x5) rfl rfl (fun _ => rfl) rfl rfl (?_ : wpv K_X8_maps d P 246 [some (4, (p0 : Int)), some (0, x1), some (0, x2), some (0, x3), none, some (2, x5), none, some (0, x7), some (2, x8), none, some (2, x10)] [(2, x5)] G R V)
      refine wp_ld (i := (.lload 10)) (2, x10) rfl rfl (fun _ => rfl) rfl rfl (?_ : wpv K_X8_maps d P 248 [some (4, (p0 : Int)), some (0, x1), some (0, x2), some (0, x3), none, some (2, x5), none, some (0, x7), some (2, x8), none, some (2, x10)] [(2, x10), (2, x5)] G R V)
      refine wp_stat (as := [(2, x5), (2, x10)]) (st := []) _ rfl rfl rfl (by omega) rfl rfl (Nat.le_of_ble_eq_true rfl) (cwv_kJ w (fun v7 V6 w => ?_))
      show wpv K_X8_maps d P 251 [some (4, (p0 : Int)), some (0, x1), some (0, x2), some (0, x3), none, some (2, x5), none, some (0, x7), some (2, x8), none, some (2, x10)] [(2, v7)] G R V6
      refine wp_lsto (i := (.lstore 5)) _ rfl rfl (fun _ => rfl) rfl rfl rfl ?_
      refine wp_wk (L' := [some (4, (p0 : Int)), some (0, x1), some (0, x2), some (0, x3), none, some (2, v7), none, some (0, x7), some (2, x8), none, some (2, x10)]) (wk_s (wk_s (wk_s (wk_s (wk_n (wk_s (wk_n (wk_s (wk_s (wk_n (wk_s wk_0))))))))))) ?_
      show wpv K_X8_maps d P 253 [some (4, (p0 : Int)), some (0, x1), some (0, x2), some (0, x3), none, some (2, v7), none, some (0, x7), some (2, x8), none, some (2, x10)] [] G R V6
      refine wp_ld (i := (.lload 10)) (2, x10) rfl rfl (fun _ => rfl) rfl rfl (?_ : wpv K_X8_maps d P 255 [some (4, (p0 : Int)), some (0, x1), some (0, x2), some (0, x3), none, some (2, v7), none, some (0, x7), some (2, x8), none, some (2, x10)] [(2, x10)] G R V6)
      refine wp_p (i := (.lconst 1)) rfl rfl (fun _ _ _ => rfl) (?_ : wpv K_X8_maps d P 256 [some (4, (p0 : Int)), some (0, x1), some (0, x2), some (0, x3), none, some (2, v7), none, some (0, x7), some (2, x8), none, some (2, x10)] [(2, 1), (2, x10)] G R V6)
      refine wp_jadd rfl rfl (?_ : wpv K_X8_maps d P 257 [some (4, (p0 : Int)), some (0, x1), some (0, x2), some (0, x3), none, some (2, v7), none, some (0, x7), some (2, x8), none, some (2, x10)] [(2, (jadd x10 1))] G R V6)
      refine wp_lsto (i := (.lstore 10)) _ rfl rfl (fun _ => rfl) rfl rfl rfl ?_
      refine wp_wk (L' := [some (4, (p0 : Int)), some (0, x1), some (0, x2), some (0, x3), none, some (2, v7), none, some (0, x7), some (2, x8), none, some (2, (jadd x10 1))]) (wk_s (wk_s (wk_s (wk_s (wk_n (wk_s (wk_n (wk_s (wk_s (wk_n (wk_s wk_0))))))))))) ?_
      show wpv K_X8_maps d P 259 [some (4, (p0 : Int)), some (0, x1), some (0, x2), some (0, x3), none, some (2, v7), none, some (0, x7), some (2, x8), none, some (2, (jadd x10 1))] [] G R V6
      refine wp_go 227 rfl rfl rfl (?_ : wpv K_X8_maps d P 227 [some (4, (p0 : Int)), some (0, x1), some (0, x2), some (0, x3), none, some (2, v7), none, some (0, x7), some (2, x8), none, some (2, (jadd x10 1))] [] G R V6)
      exact wp_wk (wk_s (wk_s (wk_s (wk_s (wk_n (wk_s (wk_n (wk_s (wk_s (wk_n (wk_s wk_0))))))))))) w
theorem t_X8_row_0 {d : Nat} {P : gP} {p0 : Nat} {x1 : Int} {G : List gS} {R V : gV} (l0 : lay8 G R p0) (w : cwv d (fun r V1 => ∃ v2 : Int, r = some (0, v2) ∧ ((i32 v2) ∧ (((¬ v2 = 0) → ((i32 (V1 p0 35)) → ((i32 (V1 p0 13)) → (((¬ (V1 p0 35) = (V1 p0 13)) → ((0 ≤ (V1 p0 35) ∧ (V1 p0 35) < 300) ∧ ((i64 x1) ∧ ((i32 ((V1 p0 35) + 1)) ∧ cwv d (fun r V14 => ∃ v15 : Int, r = some (0, v15) ∧ P (some (0, v15)) V14) 160 [(4, (p0 : Int)), (0, ((V1 p0 35) + 1))] G R (wr (wr V1 (p0 + 27) ((V1 p0 35)) x1) p0 35 (((V1 p0 35) + 1))))))) ∧ (((V1 p0 35) = (V1 p0 13)) → cwv d (fun r V16 => ∃ v17 : Int, r = some (0, v17) ∧ P (some (0, v17)) V16) 160 [(4, (p0 : Int)), (0, (-5))] G R V1))))) ∧ ((v2 = 0) → cwv d (fun r V18 => ∃ v19 : Int, r = some (0, v19) ∧ P (some (0, v19)) V18) 160 [(4, (p0 : Int)), (0, (-1))] G R V1)))) 159 [(2, x1), (2, (-1000000000000)), (2, 1000000000000)] G R V) : wpv K_X8_row d P 0 [some (4, (p0 : Int)), some (2, x1)] [] G R V := by
  refine wp_ld (i := (.lload_n 1)) (2, x1) rfl rfl (fun _ => rfl) rfl rfl (?_ : wpv K_X8_row d P 1 [some (4, (p0 : Int)), some (2, x1)] [(2, x1)] G R V)
  refine wp_p (i := (.ldc2_w 333)) rfl rfl (fun _ _ _ => rfl) (?_ : wpv K_X8_row d P 4 [some (4, (p0 : Int)), some (2, x1)] [(2, (-1000000000000)), (2, x1)] G R V)
  refine wp_p (i := (.ldc2_w 335)) rfl rfl (fun _ _ _ => rfl) (?_ : wpv K_X8_row d P 7 [some (4, (p0 : Int)), some (2, x1)] [(2, 1000000000000), (2, (-1000000000000)), (2, x1)] G R V)
  refine wp_stat (as := [(2, x1), (2, (-1000000000000)), (2, 1000000000000)]) (st := []) _ rfl rfl rfl (by omega) rfl rfl (Nat.le_of_ble_eq_true rfl) (cwv_kI w (fun v2 V1 w => ?_))
  show wpv K_X8_row d P 10 [some (4, (p0 : Int)), some (2, x1)] [(0, v2)] G R V1
  obtain ⟨s3, w⟩ := w
  refine wp_if (c := .ne) 19 rfl rfl rfl s3 (fun q => ?_) (fun q => ?_)
  · have q : ¬ v2 = 0 := q
    replace w := w.1 q
    show wpv K_X8_row d P 19 [some (4, (p0 : Int)), some (2, x1)] [] G R V1
    refine wp_ld (i := (.aload_n 0)) (4, (p0 : Int)) rfl rfl (fun _ => rfl) rfl rfl (?_ : wpv K_X8_row d P 20 [some (4, (p0 : Int)), some (2, x1)] [(4, (p0 : Int))] G R V1)
    refine wp_rng (fun vr4 => ?_)
    have f5 : i32 (V1 p0 35) := vr_f0 vr4 (ly8_o l0) rfl rfl
    replace w := w f5
    refine wp_getI (k := 35) rfl rfl rfl (ly8_o l0) rfl rfl (?_ : wpv K_X8_row d P 23 [some (4, (p0 : Int)), some (2, x1)] [(0, (V1 p0 35))] G R V1)
    refine wp_ld (i := (.aload_n 0)) (4, (p0 : Int)) rfl rfl (fun _ => rfl) rfl rfl (?_ : wpv K_X8_row d P 24 [some (4, (p0 : Int)), some (2, x1)] [(4, (p0 : Int)), (0, (V1 p0 35))] G R V1)
    have f6 : i32 (V1 p0 13) := vr_f0 vr4 (ly8_o l0) rfl rfl
    replace w := w f6
    refine wp_getI (k := 13) rfl rfl rfl (ly8_o l0) rfl rfl (?_ : wpv K_X8_row d P 27 [some (4, (p0 : Int)), some (2, x1)] [(0, (V1 p0 13)), (0, (V1 p0 35))] G R V1)
    refine wp_icmp (c := .ne) 37 rfl rfl rfl f5 f6 (fun q => ?_) (fun q => ?_)
    · have q : ¬ (V1 p0 35) = (V1 p0 13) := q
      replace w := w.1 q
      show wpv K_X8_row d P 37 [some (4, (p0 : Int)), some (2, x1)] [] G R V1
      refine wp_ld (i := (.aload_n 0)) (4, (p0 : Int)) rfl rfl (fun _ => rfl) rfl rfl (?_ : wpv K_X8_row d P 38 [some (4, (p0 : Int)), some (2, x1)] [(4, (p0 : Int))] G R V1)
      refine wp_getA (k := 36) rfl rfl rfl (ly8_o l0) rfl rfl (ly8_36 l0).1 (?_ : wpv K_X8_row d P 41 [some (4, (p0 : Int)), some (2, x1)] [(4, ((p0 + 27 : Nat) : Int))] G R V1)
      refine wp_ld (i := (.aload_n 0)) (4, (p0 : Int)) rfl rfl (fun _ => rfl) rfl rfl (?_ : wpv K_X8_row d P 42 [some (4, (p0 : Int)), some (2, x1)] [(4, (p0 : Int)), (4, ((p0 + 27 : Nat) : Int))] G R V1)
      refine wp_getI (k := 35) rfl rfl rfl (ly8_o l0) rfl rfl (?_ : wpv K_X8_row d P 45 [some (4, (p0 : Int)), some (2, x1)] [(0, (V1 p0 35)), (4, ((p0 + 27 : Nat) : Int))] G R V1)
      refine wp_ld (i := (.lload_n 1)) (2, x1) rfl rfl (fun _ => rfl) rfl rfl (?_ : wpv K_X8_row d P 46 [some (4, (p0 : Int)), some (2, x1)] [(2, x1), (0, (V1 p0 35)), (4, ((p0 + 27 : Nat) : Int))] G R V1)
      obtain ⟨s7, w⟩ := w
      obtain ⟨s8, w⟩ := w
      refine wp_sJ rfl rfl (ly8_36 l0).2 s7 s8 (?_ : wpv K_X8_row d P 47 [some (4, (p0 : Int)), some (2, x1)] [] G R (wr V1 (p0 + 27) ((V1 p0 35)) x1))
      refine wp_ld (i := (.aload_n 0)) (4, (p0 : Int)) rfl rfl (fun _ => rfl) rfl rfl (?_ : wpv K_X8_row d P 48 [some (4, (p0 : Int)), some (2, x1)] [(4, (p0 : Int))] G R (wr V1 (p0 + 27) ((V1 p0 35)) x1))
      refine wp_p (i := .dup) rfl rfl (fun _ _ _ => rfl) (?_ : wpv K_X8_row d P 49 [some (4, (p0 : Int)), some (2, x1)] [(4, (p0 : Int)), (4, (p0 : Int))] G R (wr V1 (p0 + 27) ((V1 p0 35)) x1))
      refine wp_rng (fun vr9 => ?_)
      have r10 : ((wr V1 (p0 + 27) ((V1 p0 35)) x1) p0 35) = (V1 p0 35) := (wr_a (by omega))
      refine wp_getIe (k := 35) rfl rfl rfl (ly8_o l0) rfl rfl r10 (?_ : wpv K_X8_row d P 52 [some (4, (p0 : Int)), some (2, x1)] [(0, (V1 p0 35)), (4, (p0 : Int))] G R (wr V1 (p0 + 27) ((V1 p0 35)) x1))
      refine wp_p (i := (.iconst 1)) rfl rfl (fun _ _ _ => rfl) (?_ : wpv K_X8_row d P 53 [some (4, (p0 : Int)), some (2, x1)] [(0, 1), (0, (V1 p0 35)), (4, (p0 : Int))] G R (wr V1 (p0 + 27) ((V1 p0 35)) x1))
      obtain ⟨s11, w⟩ := w
      refine wp_xadd rfl rfl s11 (?_ : wpv K_X8_row d P 54 [some (4, (p0 : Int)), some (2, x1)] [(0, ((V1 p0 35) + 1)), (4, (p0 : Int))] G R (wr V1 (p0 + 27) ((V1 p0 35)) x1))
      refine wp_putI (k := 35) rfl rfl rfl (ly8_o l0) rfl rfl rfl s11 (?_ : wpv K_X8_row d P 57 [some (4, (p0 : Int)), some (2, x1)] [] G R (wr (wr V1 (p0 + 27) ((V1 p0 35)) x1) p0 35 (((V1 p0 35) + 1))))
      refine wp_ld (i := (.aload_n 0)) (4, (p0 : Int)) rfl rfl (fun _ => rfl) rfl rfl (?_ : wpv K_X8_row d P 58 [some (4, (p0 : Int)), some (2, x1)] [(4, (p0 : Int))] G R (wr (wr V1 (p0 + 27) ((V1 p0 35)) x1) p0 35 (((V1 p0 35) + 1))))
      refine wp_ld (i := (.aload_n 0)) (4, (p0 : Int)) rfl rfl (fun _ => rfl) rfl rfl (?_ : wpv K_X8_row d P 59 [some (4, (p0 : Int)), some (2, x1)] [(4, (p0 : Int)), (4, (p0 : Int))] G R (wr (wr V1 (p0 + 27) ((V1 p0 35)) x1) p0 35 (((V1 p0 35) + 1))))
      refine wp_rng (fun vr12 => ?_)
      have r13 : ((wr (wr V1 (p0 + 27) ((V1 p0 35)) x1) p0 35 (((V1 p0 35) + 1))) p0 35) = ((V1 p0 35) + 1) := (wr_same _ _ _ _)
      refine wp_getIe (k := 35) rfl rfl rfl (ly8_o l0) rfl rfl r13 (?_ : wpv K_X8_row d P 62 [some (4, (p0 : Int)), some (2, x1)] [(0, ((V1 p0 35) + 1)), (4, (p0 : Int))] G R (wr (wr V1 (p0 + 27) ((V1 p0 35)) x1) p0 35 (((V1 p0 35) + 1))))
      refine wp_virt (as := [(0, ((V1 p0 35) + 1))]) (a := p0) (st := []) _ rfl rfl rfl rfl rfl rfl (ly8_o l0) (Nat.le_of_ble_eq_true rfl) (cwv_kI w (fun v15 V14 w => ?_))
      show wpv K_X8_row d P 65 [some (4, (p0 : Int)), some (2, x1)] [(0, v15)] G R V14
      exact wp_rI rfl rfl rfl w
    · have q : (V1 p0 35) = (V1 p0 13) := Decidable.not_not.mp q
      replace w := w.2 q
      show wpv K_X8_row d P 30 [some (4, (p0 : Int)), some (2, x1)] [] G R V1
      refine wp_ld (i := (.aload_n 0)) (4, (p0 : Int)) rfl rfl (fun _ => rfl) rfl rfl (?_ : wpv K_X8_row d P 31 [some (4, (p0 : Int)), some (2, x1)] [(4, (p0 : Int))] G R V1)
      refine wp_p (i := (.bipush (-5))) rfl rfl (fun _ _ _ => rfl) (?_ : wpv K_X8_row d P 33 [some (4, (p0 : Int)), some (2, x1)] [(0, (-5)), (4, (p0 : Int))] G R V1)
      refine wp_virt (as := [(0, (-5))]) (a := p0) (st := []) _ rfl rfl rfl rfl rfl rfl (ly8_o l0) (Nat.le_of_ble_eq_true rfl) (cwv_kI w (fun v17 V16 w => ?_))
      show wpv K_X8_row d P 36 [some (4, (p0 : Int)), some (2, x1)] [(0, v17)] G R V16
      exact wp_rI rfl rfl rfl w
  · have q : v2 = 0 := Decidable.not_not.mp q
    replace w := w.2 q
    show wpv K_X8_row d P 13 [some (4, (p0 : Int)), some (2, x1)] [] G R V1
    refine wp_ld (i := (.aload_n 0)) (4, (p0 : Int)) rfl rfl (fun _ => rfl) rfl rfl (?_ : wpv K_X8_row d P 14 [some (4, (p0 : Int)), some (2, x1)] [(4, (p0 : Int))] G R V1)
    refine wp_p (i := (.iconst (-1))) rfl rfl (fun _ _ _ => rfl) (?_ : wpv K_X8_row d P 15 [some (4, (p0 : Int)), some (2, x1)] [(0, (-1)), (4, (p0 : Int))] G R V1)
    refine wp_virt (as := [(0, (-1))]) (a := p0) (st := []) _ rfl rfl rfl rfl rfl rfl (ly8_o l0) (Nat.le_of_ble_eq_true rfl) (cwv_kI w (fun v19 V18 w => ?_))
    show wpv K_X8_row d P 18 [some (4, (p0 : Int)), some (2, x1)] [(0, v19)] G R V18
    exact wp_rI rfl rfl rfl w
theorem t_X8_check_0 {d : Nat} {P : gP} {p0 : Nat} {x1 : Int} {G : List gS} {R V : gV} (l0 : lay8 G R p0) (w : ((i32 (V p0 35)) → ((i32 (V p0 13)) → ((((V p0 35) = (V p0 13)) → wpv K_X8_check d P 19 [some (4, (p0 : Int)), some (0, x1), some (0, 0)] [] G R V) ∧ ((¬ (V p0 35) = (V p0 13)) → cwv d (fun r V4 => ∃ v5 : Int, r = some (0, v5) ∧ P (some (0, v5)) V4) 160 [(4, (p0 : Int)), (0, (-1))] G R V))))) : wpv K_X8_check d P 0 [some (4, (p0 : Int)), some (0, x1)] [] G R V := by
  refine wp_ld (i := (.aload_n 0)) (4, (p0 : Int)) rfl rfl (fun _ => rfl) rfl rfl (?_ : wpv K_X8_check d P 1 [some (4, (p0 : Int)), some (0, x1)] [(4, (p0 : Int))] G R V)
  refine wp_rng (fun vr1 => ?_)
  have f2 : i32 (V p0 35) := vr_f0 vr1 (ly8_o l0) rfl rfl
  replace w := w f2
  refine wp_getI (k := 35) rfl rfl rfl (ly8_o l0) rfl rfl (?_ : wpv K_X8_check d P 4 [some (4, (p0 : Int)), some (0, x1)] [(0, (V p0 35))] G R V)
  refine wp_ld (i := (.aload_n 0)) (4, (p0 : Int)) rfl rfl (fun _ => rfl) rfl rfl (?_ : wpv K_X8_check d P 5 [some (4, (p0 : Int)), some (0, x1)] [(4, (p0 : Int)), (0, (V p0 35))] G R V)
  have f3 : i32 (V p0 13) := vr_f0 vr1 (ly8_o l0) rfl rfl
  replace w := w f3
  refine wp_getI (k := 13) rfl rfl rfl (ly8_o l0) rfl rfl (?_ : wpv K_X8_check d P 8 [some (4, (p0 : Int)), some (0, x1)] [(0, (V p0 13)), (0, (V p0 35))] G R V)
  refine wp_icmp (c := .eq) 17 rfl rfl rfl f2 f3 (fun q => ?_) (fun q => ?_)
  · have q : (V p0 35) = (V p0 13) := q
    replace w := w.1 q
    show wpv K_X8_check d P 17 [some (4, (p0 : Int)), some (0, x1)] [] G R V
    refine wp_p (i := (.iconst 0)) rfl rfl (fun _ _ _ => rfl) (?_ : wpv K_X8_check d P 18 [some (4, (p0 : Int)), some (0, x1)] [(0, 0)] G R V)
    refine wp_sto (i := (.istore_n 2)) _ rfl rfl (fun _ => rfl) rfl rfl rfl ?_
    refine wp_wk (L' := [some (4, (p0 : Int)), some (0, x1), some (0, 0)]) (wk_s (wk_s (wk_s wk_0))) ?_
    show wpv K_X8_check d P 19 [some (4, (p0 : Int)), some (0, x1), some (0, 0)] [] G R V
    exact wp_wk (wk_s (wk_s (wk_s wk_0))) w
  · have q : ¬ (V p0 35) = (V p0 13) := q
    replace w := w.2 q
    show wpv K_X8_check d P 11 [some (4, (p0 : Int)), some (0, x1)] [] G R V
    refine wp_ld (i := (.aload_n 0)) (4, (p0 : Int)) rfl rfl (fun _ => rfl) rfl rfl (?_ : wpv K_X8_check d P 12 [some (4, (p0 : Int)), some (0, x1)] [(4, (p0 : Int))] G R V)
    refine wp_p (i := (.iconst (-1))) rfl rfl (fun _ _ _ => rfl) (?_ : wpv K_X8_check d P 13 [some (4, (p0 : Int)), some (0, x1)] [(0, (-1)), (4, (p0 : Int))] G R V)
    refine wp_virt (as := [(0, (-1))]) (a := p0) (st := []) _ rfl rfl rfl rfl rfl rfl (ly8_o l0) (Nat.le_of_ble_eq_true rfl) (cwv_kI w (fun v5 V4 w => ?_))
    show wpv K_X8_check d P 16 [some (4, (p0 : Int)), some (0, x1)] [(0, v5)] G R V4
    exact wp_rI rfl rfl rfl w

theorem t_X8_check_19 {d : Nat} {P : gP} {p0 : Nat} {x1 : Int} {x2 : Int} {G : List gS} {R V : gV} (l0 : lay8 G R p0) (w : ((i32 (V p0 13)) → ((i32 x2) ∧ (((¬ x2 < (V p0 13)) → cwv d (fun r V4 => ∃ v5 : Int, r = some (0, v5) ∧ ((i32 (V4 p0 32)) → ((i32 v5) ∧ (((¬ v5 = 2) → cwv d (fun r V9 => ∃ v10 : Int, r = some (0, v10) ∧ P (some (0, v10)) V9) 160 [(4, (p0 : Int)), (0, v5)] G R (wr V4 p0 37 ((V4 p0 32)))) ∧ ((v5 = 2) → cwv d (fun r V11 => ∃ v12 : Int, r = some (0, v12) ∧ ((i32 v12) ∧ (((v12 = 0) → cwv d (fun r V14 => ∃ v15 : Int, r = some (0, v15) ∧ P (some (0, v15)) V14) 160 [(4, (p0 : Int)), (0, v5)] G R V11) ∧ ((¬ v12 = 0) → ((0 ≤ x1 ∧ x1 < 8) ∧ wpv K_X8_check d P 84 [some (4, (p0 : Int)), some (0, x1), some (0, v5), some (0, 0)] [] G R (wr V11 (p0 + 21) x1 1)))))) 208 [(0, x1)] G R (wr V4 p0 37 ((V4 p0 32)))))))) 213 [(4, (p0 : Int))] G R (wr V p0 35 0)) ∧ ((x2 < (V p0 13)) → ((0 ≤ x2 ∧ x2 < 300) ∧ ((i64 (V (p0 + 27) x2)) → ((i32 (x2 + 1)) ∧ wpv K_X8_check d P 19 [some (4, (p0 : Int)), some (0, x1), some (0, (x2 + 1))] [] G R (wr V (p0 + 23) x2 ((V (p0 + 27) x2))))))))))) : wpv K_X8_check d P 19 [some (4, (p0 : Int)), some (0, x1), some (0, x2)] [] G R V := by
  refine wp_ld (i := (.iload_n 2)) (0, x2) rfl rfl (fun _ => rfl) rfl rfl (?_ : wpv K_X8_check d P 20 [some (4, (p0 : Int)), some (0, x1), some (0, x2)] [(0, x2)] G R V)
  refine wp_ld (i := (.aload_n 0)) (4, (p0 : Int)) rfl rfl (fun _ => rfl) rfl rfl (?_ : wpv K_X8_check d P 21 [some (4, (p0 : Int)), some (0, x1), some (0, x2)] [(4, (p0 : Int)), (0, x2)] G R V)
  refine wp_rng (fun vr1 => ?_)
  have f2 : i32 (V p0 13) := vr_f0 vr1 (ly8_o l0) rfl rfl
  replace w := w f2
  refine wp_getI (k := 13) rfl rfl rfl (ly8_o l0) rfl rfl (?_ : wpv K_X8_check d P 24 [some (4, (p0 : Int)), some (0, x1), some (0, x2)] [(0, (V p0 13)), (0, x2)] G R V)
  obtain ⟨s3, w⟩ := w
  refine wp_icmp (c := .ge) 45 rfl rfl rfl s3 f2 (fun q => ?_) (fun q => ?_)
  · have q : ¬ x2 < (V p0 13) := q
    replace w := w.1 q
    show wpv K_X8_check d P 45 [some (4, (p0 : Int)), some (0, x1), some (0, x2)] [] G R V
    refine wp_ld (i := (.aload_n 0)) (4, (p0 : Int)) rfl rfl (fun _ => rfl) rfl rfl (?_ : wpv K_X8_check d P 46 [some (4, (p0 : Int)), some (0, x1), some (0, x2)] [(4, (p0 : Int))] G R V)
    refine wp_p (i := (.iconst 0)) rfl rfl (fun _ _ _ => rfl) (?_ : wpv K_X8_check d P 47 [some (4, (p0 : Int)), some (0, x1), some (0, x2)] [(0, 0), (4, (p0 : Int))] G R V)
    refine wp_putI (k := 35) rfl rfl rfl (ly8_o l0) rfl rfl rfl ⟨by omega, by omega⟩ (?_ : wpv K_X8_check d P 50 [some (4, (p0 : Int)), some (0, x1), some (0, x2)] [] G R (wr V p0 35 0))
    refine wp_ld (i := (.aload_n 0)) (4, (p0 : Int)) rfl rfl (fun _ => rfl) rfl rfl (?_ : wpv K_X8_check d P 51 [some (4, (p0 : Int)), some (0, x1), some (0, x2)] [(4, (p0 : Int))] G R (wr V p0 35 0))
    refine wp_virt (as := []) (a := p0) (st := []) _ rfl rfl rfl rfl rfl rfl (ly8_o l0) (Nat.le_of_ble_eq_true rfl) (cwv_kI w (fun v5 V4 w => ?_))
    show wpv K_X8_check d P 54 [some (4, (p0 : Int)), some (0, x1), some (0, x2)] [(0, v5)] G R V4
    refine wp_sto (i := (.istore_n 2)) _ rfl rfl (fun _ => rfl) rfl rfl rfl ?_
    refine wp_wk (L' := [some (4, (p0 : Int)), some (0, x1), some (0, v5)]) (wk_s (wk_s (wk_s wk_0))) ?_
    show wpv K_X8_check d P 55 [some (4, (p0 : Int)), some (0, x1), some (0, v5)] [] G R V4
    refine wp_ld (i := (.aload_n 0)) (4, (p0 : Int)) rfl rfl (fun _ => rfl) rfl rfl (?_ : wpv K_X8_check d P 56 [some (4, (p0 : Int)), some (0, x1), some (0, v5)] [(4, (p0 : Int))] G R V4)
    refine wp_ld (i := (.aload_n 0)) (4, (p0 : Int)) rfl rfl (fun _ => rfl) rfl rfl (?_ : wpv K_X8_check d P 57 [some (4, (p0 : Int)), some (0, x1), some (0, v5)] [(4, (p0 : Int)), (4, (p0 : Int))] G R V4)
    refine wp_rng (fun vr6 => ?_)
    have f7 : i32 (V4 p0 32) := vr_f0 vr6 (ly8_o l0) rfl rfl
    replace w := w f7
    refine wp_getI (k := 32) rfl rfl rfl (ly8_o l0) rfl rfl (?_ : wpv K_X8_check d P 60 [some (4, (p0 : Int)), some (0, x1), some (0, v5)] [(0, (V4 p0 32)), (4, (p0 : Int))] G R V4)
    refine wp_putI (k := 37) rfl rfl rfl (ly8_o l0) rfl rfl rfl f7 (?_ : wpv K_X8_check d P 63 [some (4, (p0 : Int)), some (0, x1), some (0, v5)] [] G R (wr V4 p0 37 ((V4 p0 32))))
    refine wp_ld (i := (.iload_n 2)) (0, v5) rfl rfl (fun _ => rfl) rfl rfl (?_ : wpv K_X8_check d P 64 [some (4, (p0 : Int)), some (0, x1), some (0, v5)] [(0, v5)] G R (wr V4 p0 37 ((V4 p0 32))))
    refine wp_p (i := (.iconst 2)) rfl rfl (fun _ _ _ => rfl) (?_ : wpv K_X8_check d P 65 [some (4, (p0 : Int)), some (0, x1), some (0, v5)] [(0, 2), (0, v5)] G R (wr V4 p0 37 ((V4 p0 32))))
    obtain ⟨s8, w⟩ := w
    refine wp_icmp (c := .ne) 116 rfl rfl rfl s8 ⟨by omega, by omega⟩ (fun q => ?_) (fun q => ?_)
    · have q : ¬ v5 = 2 := q
      replace w := w.1 q
      show wpv K_X8_check d P 116 [some (4, (p0 : Int)), some (0, x1), some (0, v5)] [] G R (wr V4 p0 37 ((V4 p0 32)))
      refine wp_ld (i := (.aload_n 0)) (4, (p0 : Int)) rfl rfl (fun _ => rfl) rfl rfl (?_ : wpv K_X8_check d P 117 [some (4, (p0 : Int)), some (0, x1), some (0, v5)] [(4, (p0 : Int))] G R (wr V4 p0 37 ((V4 p0 32))))
      refine wp_ld (i := (.iload_n 2)) (0, v5) rfl rfl (fun _ => rfl) rfl rfl (?_ : wpv K_X8_check d P 118 [some (4, (p0 : Int)), some (0, x1), some (0, v5)] [(0, v5), (4, (p0 : Int))] G R (wr V4 p0 37 ((V4 p0 32))))
      refine wp_virt (as := [(0, v5)]) (a := p0) (st := []) _ rfl rfl rfl rfl rfl rfl (ly8_o l0) (Nat.le_of_ble_eq_true rfl) (cwv_kI w (fun v10 V9 w => ?_))
      show wpv K_X8_check d P 121 [some (4, (p0 : Int)), some (0, x1), some (0, v5)] [(0, v10)] G R V9
      exact wp_rI rfl rfl rfl w
    · have q : v5 = 2 := Decidable.not_not.mp q
      replace w := w.2 q
      show wpv K_X8_check d P 68 [some (4, (p0 : Int)), some (0, x1), some (0, v5)] [] G R (wr V4 p0 37 ((V4 p0 32)))
      refine wp_ld (i := (.iload_n 1)) (0, x1) rfl rfl (fun _ => rfl) rfl rfl (?_ : wpv K_X8_check d P 69 [some (4, (p0 : Int)), some (0, x1), some (0, v5)] [(0, x1)] G R (wr V4 p0 37 ((V4 p0 32))))
      refine wp_stat (as := [(0, x1)]) (st := []) _ rfl rfl rfl (by omega) rfl rfl (Nat.le_of_ble_eq_true rfl) (cwv_kI w (fun v12 V11 w => ?_))
      show wpv K_X8_check d P 72 [some (4, (p0 : Int)), some (0, x1), some (0, v5)] [(0, v12)] G R V11
      obtain ⟨s13, w⟩ := w
      refine wp_if (c := .eq) 116 rfl rfl rfl s13 (fun q => ?_) (fun q => ?_)
      · have q : v12 = 0 := q
        replace w := w.1 q
        show wpv K_X8_check d P 116 [some (4, (p0 : Int)), some (0, x1), some (0, v5)] [] G R V11
        refine wp_ld (i := (.aload_n 0)) (4, (p0 : Int)) rfl rfl (fun _ => rfl) rfl rfl (?_ : wpv K_X8_check d P 117 [some (4, (p0 : Int)), some (0, x1), some (0, v5)] [(4, (p0 : Int))] G R V11)
        refine wp_ld (i := (.iload_n 2)) (0, v5) rfl rfl (fun _ => rfl) rfl rfl (?_ : wpv K_X8_check d P 118 [some (4, (p0 : Int)), some (0, x1), some (0, v5)] [(0, v5), (4, (p0 : Int))] G R V11)
        refine wp_virt (as := [(0, v5)]) (a := p0) (st := []) _ rfl rfl rfl rfl rfl rfl (ly8_o l0) (Nat.le_of_ble_eq_true rfl) (cwv_kI w (fun v15 V14 w => ?_))
        show wpv K_X8_check d P 121 [some (4, (p0 : Int)), some (0, x1), some (0, v5)] [(0, v15)] G R V14
        exact wp_rI rfl rfl rfl w
      · have q : ¬ v12 = 0 := q
        replace w := w.2 q
        show wpv K_X8_check d P 75 [some (4, (p0 : Int)), some (0, x1), some (0, v5)] [] G R V11
        refine wp_ld (i := (.aload_n 0)) (4, (p0 : Int)) rfl rfl (fun _ => rfl) rfl rfl (?_ : wpv K_X8_check d P 76 [some (4, (p0 : Int)), some (0, x1), some (0, v5)] [(4, (p0 : Int))] G R V11)
        refine wp_getA (k := 28) rfl rfl rfl (ly8_o l0) rfl rfl (ly8_28 l0).1 (?_ : wpv K_X8_check d P 79 [some (4, (p0 : Int)), some (0, x1), some (0, v5)] [(4, ((p0 + 21 : Nat) : Int))] G R V11)
        refine wp_ld (i := (.iload_n 1)) (0, x1) rfl rfl (fun _ => rfl) rfl rfl (?_ : wpv K_X8_check d P 80 [some (4, (p0 : Int)), some (0, x1), some (0, v5)] [(0, x1), (4, ((p0 + 21 : Nat) : Int))] G R V11)
        refine wp_p (i := (.iconst 1)) rfl rfl (fun _ _ _ => rfl) (?_ : wpv K_X8_check d P 81 [some (4, (p0 : Int)), some (0, x1), some (0, v5)] [(0, 1), (0, x1), (4, ((p0 + 21 : Nat) : Int))] G R V11)
        obtain ⟨s16, w⟩ := w
        refine wp_sB rfl rfl (ly8_28 l0).2 s16 (by omega) (?_ : wpv K_X8_check d P 82 [some (4, (p0 : Int)), some (0, x1), some (0, v5)] [] G R (wr V11 (p0 + 21) x1 1))
        refine wp_p (i := (.iconst 0)) rfl rfl (fun _ _ _ => rfl) (?_ : wpv K_X8_check d P 83 [some (4, (p0 : Int)), some (0, x1), some (0, v5)] [(0, 0)] G R (wr V11 (p0 + 21) x1 1))
        refine wp_sto (i := (.istore_n 3)) _ rfl rfl (fun _ => rfl) rfl rfl rfl ?_
        refine wp_wk (L' := [some (4, (p0 : Int)), some (0, x1), some (0, v5), some (0, 0)]) (wk_s (wk_s (wk_s (wk_s wk_0)))) ?_
        show wpv K_X8_check d P 84 [some (4, (p0 : Int)), some (0, x1), some (0, v5), some (0, 0)] [] G R (wr V11 (p0 + 21) x1 1)
        exact wp_wk (wk_s (wk_s (wk_s (wk_s wk_0)))) w
  · have q : x2 < (V p0 13) := Decidable.not_not.mp q
    replace w := w.2 q
    show wpv K_X8_check d P 27 [some (4, (p0 : Int)), some (0, x1), some (0, x2)] [] G R V
    refine wp_ld (i := (.aload_n 0)) (4, (p0 : Int)) rfl rfl (fun _ => rfl) rfl rfl (?_ : wpv K_X8_check d P 28 [some (4, (p0 : Int)), some (0, x1), some (0, x2)] [(4, (p0 : Int))] G R V)
    refine wp_getA (k := 30) rfl rfl rfl (ly8_o l0) rfl rfl (ly8_30 l0).1 (?_ : wpv K_X8_check d P 31 [some (4, (p0 : Int)), some (0, x1), some (0, x2)] [(4, ((p0 + 23 : Nat) : Int))] G R V)
    refine wp_ld (i := (.iload_n 2)) (0, x2) rfl rfl (fun _ => rfl) rfl rfl (?_ : wpv K_X8_check d P 32 [some (4, (p0 : Int)), some (0, x1), some (0, x2)] [(0, x2), (4, ((p0 + 23 : Nat) : Int))] G R V)
    refine wp_ld (i := (.aload_n 0)) (4, (p0 : Int)) rfl rfl (fun _ => rfl) rfl rfl (?_ : wpv K_X8_check d P 33 [some (4, (p0 : Int)), some (0, x1), some (0, x2)] [(4, (p0 : Int)), (0, x2), (4, ((p0 + 23 : Nat) : Int))] G R V)
    refine wp_getA (k := 36) rfl rfl rfl (ly8_o l0) rfl rfl (ly8_36 l0).1 (?_ : wpv K_X8_check d P 36 [some (4, (p0 : Int)), some (0, x1), some (0, x2)] [(4, ((p0 + 27 : Nat) : Int)), (0, x2), (4, ((p0 + 23 : Nat) : Int))] G R V)
    refine wp_ld (i := (.iload_n 2)) (0, x2) rfl rfl (fun _ => rfl) rfl rfl (?_ : wpv K_X8_check d P 37 [some (4, (p0 : Int)), some (0, x1), some (0, x2)] [(0, x2), (4, ((p0 + 27 : Nat) : Int)), (0, x2), (4, ((p0 + 23 : Nat) : Int))] G R V)
    obtain ⟨s17, w⟩ := w
    have f18 : i64 (V (p0 + 27) x2) := vr_a1 vr1 (ly8_36 l0).2 s17
    replace w := w f18
    refine wp_aJ rfl rfl (ly8_36 l0).2 s17 (?_ : wpv K_X8_check d P 38 [some (4, (p0 : Int)), some (0, x1), some (0, x2)] [(2, (V (p0 + 27) x2)), (0, x2), (4, ((p0 + 23 : Nat) : Int))] G R V)
    refine wp_sJ rfl rfl (ly8_30 l0).2 s17 f18 (?_ : wpv K_X8_check d P 39 [some (4, (p0 : Int)), some (0, x1), some (0, x2)] [] G R (wr V (p0 + 23) x2 ((V (p0 + 27) x2))))
    obtain ⟨s19, w⟩ := w
    refine wp_inc (x := 2) (k := 1) (a := x2) (c := (x2 + 1)) _ rfl rfl rfl rfl s19 (by omega) rfl ?_
    show wpv K_X8_check d P 42 [some (4, (p0 : Int)), some (0, x1), some (0, (x2 + 1))] [] G R (wr V (p0 + 23) x2 ((V (p0 + 27) x2)))
    refine wp_go 19 rfl rfl rfl (?_ : wpv K_X8_check d P 19 [some (4, (p0 : Int)), some (0, x1), some (0, (x2 + 1))] [] G R (wr V (p0 + 23) x2 ((V (p0 + 27) x2))))
    exact wp_wk (wk_s (wk_s (wk_s wk_0))) w

theorem t_X8_check_84 {d : Nat} {P : gP} {p0 : Nat} {x1 : Int} {x2 : Int} {x3 : Int} {G : List gS} {R V : gV} (l0 : lay8 G R p0) (w : ((i32 (V p0 13)) → ((i32 x3) ∧ (((¬ x3 < (V p0 13)) → cwv d (fun r V4 => ∃ v5 : Int, r = some (0, v5) ∧ P (some (0, v5)) V4) 160 [(4, (p0 : Int)), (0, x2)] G R V) ∧ ((x3 < (V p0 13)) → ((i32 (300 * x1)) ∧ ((i32 ((300 * x1) + x3)) ∧ ((0 ≤ x3 ∧ x3 < 300) ∧ ((i64 (V (p0 + 24) x3)) → ((0 ≤ ((300 * x1) + x3) ∧ ((300 * x1) + x3) < 2400) ∧ ((i32 (x3 + 1)) ∧ wpv K_X8_check d P 84 [some (4, (p0 : Int)), some (0, x1), some (0, x2), some (0, (x3 + 1))] [] G R (wr V (p0 + 22) (((300 * x1) + x3)) ((V (p0 + 24) x3)))))))))))))) : wpv K_X8_check d P 84 [some (4, (p0 : Int)), some (0, x1), some (0, x2), some (0, x3)] [] G R V := by
  refine wp_ld (i := (.iload_n 3)) (0, x3) rfl rfl (fun _ => rfl) rfl rfl (?_ : wpv K_X8_check d P 85 [some (4, (p0 : Int)), some (0, x1), some (0, x2), some (0, x3)] [(0, x3)] G R V)
  refine wp_ld (i := (.aload_n 0)) (4, (p0 : Int)) rfl rfl (fun _ => rfl) rfl rfl (?_ : wpv K_X8_check d P 86 [some (4, (p0 : Int)), some (0, x1), some (0, x2), some (0, x3)] [(4, (p0 : Int)), (0, x3)] G R V)
  refine wp_rng (fun vr1 => ?_)
  have f2 : i32 (V p0 13) := vr_f0 vr1 (ly8_o l0) rfl rfl
  replace w := w f2
  refine wp_getI (k := 13) rfl rfl rfl (ly8_o l0) rfl rfl (?_ : wpv K_X8_check d P 89 [some (4, (p0 : Int)), some (0, x1), some (0, x2), some (0, x3)] [(0, (V p0 13)), (0, x3)] G R V)
  obtain ⟨s3, w⟩ := w
  refine wp_icmp (c := .ge) 116 rfl rfl rfl s3 f2 (fun q => ?_) (fun q => ?_)
  · have q : ¬ x3 < (V p0 13) := q
    replace w := w.1 q
    show wpv K_X8_check d P 116 [some (4, (p0 : Int)), some (0, x1), some (0, x2), some (0, x3)] [] G R V
    refine wp_ld (i := (.aload_n 0)) (4, (p0 : Int)) rfl rfl (fun _ => rfl) rfl rfl (?_ : wpv K_X8_check d P 117 [some (4, (p0 : Int)), some (0, x1), some (0, x2), some (0, x3)] [(4, (p0 : Int))] G R V)
    refine wp_ld (i := (.iload_n 2)) (0, x2) rfl rfl (fun _ => rfl) rfl rfl (?_ : wpv K_X8_check d P 118 [some (4, (p0 : Int)), some (0, x1), some (0, x2), some (0, x3)] [(0, x2), (4, (p0 : Int))] G R V)
    refine wp_virt (as := [(0, x2)]) (a := p0) (st := []) _ rfl rfl rfl rfl rfl rfl (ly8_o l0) (Nat.le_of_ble_eq_true rfl) (cwv_kI w (fun v5 V4 w => ?_))
    show wpv K_X8_check d P 121 [some (4, (p0 : Int)), some (0, x1), some (0, x2), some (0, x3)] [(0, v5)] G R V4
    exact wp_rI rfl rfl rfl w
  · have q : x3 < (V p0 13) := Decidable.not_not.mp q
    replace w := w.2 q
    show wpv K_X8_check d P 92 [some (4, (p0 : Int)), some (0, x1), some (0, x2), some (0, x3)] [] G R V
    refine wp_ld (i := (.aload_n 0)) (4, (p0 : Int)) rfl rfl (fun _ => rfl) rfl rfl (?_ : wpv K_X8_check d P 93 [some (4, (p0 : Int)), some (0, x1), some (0, x2), some (0, x3)] [(4, (p0 : Int))] G R V)
    refine wp_getA (k := 29) rfl rfl rfl (ly8_o l0) rfl rfl (ly8_29 l0).1 (?_ : wpv K_X8_check d P 96 [some (4, (p0 : Int)), some (0, x1), some (0, x2), some (0, x3)] [(4, ((p0 + 22 : Nat) : Int))] G R V)
    refine wp_p (i := (.sipush 300)) rfl rfl (fun _ _ _ => rfl) (?_ : wpv K_X8_check d P 99 [some (4, (p0 : Int)), some (0, x1), some (0, x2), some (0, x3)] [(0, 300), (4, ((p0 + 22 : Nat) : Int))] G R V)
    refine wp_ld (i := (.iload_n 1)) (0, x1) rfl rfl (fun _ => rfl) rfl rfl (?_ : wpv K_X8_check d P 100 [some (4, (p0 : Int)), some (0, x1), some (0, x2), some (0, x3)] [(0, x1), (0, 300), (4, ((p0 + 22 : Nat) : Int))] G R V)
    obtain ⟨s6, w⟩ := w
    refine wp_xmul rfl rfl s6 (?_ : wpv K_X8_check d P 101 [some (4, (p0 : Int)), some (0, x1), some (0, x2), some (0, x3)] [(0, (300 * x1)), (4, ((p0 + 22 : Nat) : Int))] G R V)
    refine wp_ld (i := (.iload_n 3)) (0, x3) rfl rfl (fun _ => rfl) rfl rfl (?_ : wpv K_X8_check d P 102 [some (4, (p0 : Int)), some (0, x1), some (0, x2), some (0, x3)] [(0, x3), (0, (300 * x1)), (4, ((p0 + 22 : Nat) : Int))] G R V)
    obtain ⟨s7, w⟩ := w
    refine wp_xadd rfl rfl s7 (?_ : wpv K_X8_check d P 103 [some (4, (p0 : Int)), some (0, x1), some (0, x2), some (0, x3)] [(0, ((300 * x1) + x3)), (4, ((p0 + 22 : Nat) : Int))] G R V)
    refine wp_ld (i := (.aload_n 0)) (4, (p0 : Int)) rfl rfl (fun _ => rfl) rfl rfl (?_ : wpv K_X8_check d P 104 [some (4, (p0 : Int)), some (0, x1), some (0, x2), some (0, x3)] [(4, (p0 : Int)), (0, ((300 * x1) + x3)), (4, ((p0 + 22 : Nat) : Int))] G R V)
    refine wp_getA (k := 31) rfl rfl rfl (ly8_o l0) rfl rfl (ly8_31 l0).1 (?_ : wpv K_X8_check d P 107 [some (4, (p0 : Int)), some (0, x1), some (0, x2), some (0, x3)] [(4, ((p0 + 24 : Nat) : Int)), (0, ((300 * x1) + x3)), (4, ((p0 + 22 : Nat) : Int))] G R V)
    refine wp_ld (i := (.iload_n 3)) (0, x3) rfl rfl (fun _ => rfl) rfl rfl (?_ : wpv K_X8_check d P 108 [some (4, (p0 : Int)), some (0, x1), some (0, x2), some (0, x3)] [(0, x3), (4, ((p0 + 24 : Nat) : Int)), (0, ((300 * x1) + x3)), (4, ((p0 + 22 : Nat) : Int))] G R V)
    obtain ⟨s8, w⟩ := w
    have f9 : i64 (V (p0 + 24) x3) := vr_a1 vr1 (ly8_31 l0).2 s8
    replace w := w f9
    refine wp_aJ rfl rfl (ly8_31 l0).2 s8 (?_ : wpv K_X8_check d P 109 [some (4, (p0 : Int)), some (0, x1), some (0, x2), some (0, x3)] [(2, (V (p0 + 24) x3)), (0, ((300 * x1) + x3)), (4, ((p0 + 22 : Nat) : Int))] G R V)
    obtain ⟨s10, w⟩ := w
    refine wp_sJ rfl rfl (ly8_29 l0).2 s10 f9 (?_ : wpv K_X8_check d P 110 [some (4, (p0 : Int)), some (0, x1), some (0, x2), some (0, x3)] [] G R (wr V (p0 + 22) (((300 * x1) + x3)) ((V (p0 + 24) x3))))
    obtain ⟨s11, w⟩ := w
    refine wp_inc (x := 3) (k := 1) (a := x3) (c := (x3 + 1)) _ rfl rfl rfl rfl s11 (by omega) rfl ?_
    show wpv K_X8_check d P 113 [some (4, (p0 : Int)), some (0, x1), some (0, x2), some (0, (x3 + 1))] [] G R (wr V (p0 + 22) (((300 * x1) + x3)) ((V (p0 + 24) x3)))
    refine wp_go 84 rfl rfl rfl (?_ : wpv K_X8_check d P 84 [some (4, (p0 : Int)), some (0, x1), some (0, x2), some (0, (x3 + 1))] [] G R (wr V (p0 + 22) (((300 * x1) + x3)) ((V (p0 + 24) x3))))
    exact wp_wk (wk_s (wk_s (wk_s (wk_s wk_0)))) w
theorem t_X8_misfit_0 {d : Nat} {P : gP} {p0 : Nat} {G : List gS} {R V : gV} (l0 : lay8 G R p0) (w : ((i32 (V p0 37)) → P (some (0, (V p0 37))) V)) : wpv K_X8_misfit d P 0 [some (4, (p0 : Int))] [] G R V := by
  refine wp_ld (i := (.aload_n 0)) (4, (p0 : Int)) rfl rfl (fun _ => rfl) rfl rfl (?_ : wpv K_X8_misfit d P 1 [some (4, (p0 : Int))] [(4, (p0 : Int))] G R V)
  refine wp_rng (fun vr1 => ?_)
  have f2 : i32 (V p0 37) := vr_f0 vr1 (ly8_o l0) rfl rfl
  replace w := w f2
  refine wp_getI (k := 37) rfl rfl rfl (ly8_o l0) rfl rfl (?_ : wpv K_X8_misfit d P 4 [some (4, (p0 : Int))] [(0, (V p0 37))] G R V)
  exact wp_rI rfl rfl rfl w
theorem t_X8_gcd_0 {d : Nat} {P : gP} {x0 : Int} {x2 : Int} {G : List gS} {R V : gV}  (w : wpv K_X8_gcd d P 6 [none, none, none, none, some (2, x0), none, some (2, x2)] [] G R V) : wpv K_X8_gcd d P 0 [some (2, x0), none, some (2, x2)] [] G R V := by
  refine wp_ld (i := (.lload_n 0)) (2, x0) rfl rfl (fun _ => rfl) rfl rfl (?_ : wpv K_X8_gcd d P 1 [some (2, x0), none, some (2, x2)] [(2, x0)] G R V)
  refine wp_lsto (i := (.lstore 4)) _ rfl rfl (fun _ => rfl) rfl rfl rfl ?_
  refine wp_wk (L' := [some (2, x0), none, some (2, x2), none, some (2, x0)]) (wk_s (wk_n (wk_s (wk_n (wk_s wk_0))))) ?_
  show wpv K_X8_gcd d P 3 [some (2, x0), none, some (2, x2), none, some (2, x0)] [] G R V
  refine wp_ld (i := (.lload_n 2)) (2, x2) rfl rfl (fun _ => rfl) rfl rfl (?_ : wpv K_X8_gcd d P 4 [some (2, x0), none, some (2, x2), none, some (2, x0)] [(2, x2)] G R V)
  refine wp_lsto (i := (.lstore 6)) _ rfl rfl (fun _ => rfl) rfl rfl rfl ?_
  refine wp_wk (L' := [some (2, x0), none, some (2, x2), none, some (2, x0), none, some (2, x2)]) (wk_s (wk_n (wk_s (wk_n (wk_s (wk_n (wk_s wk_0))))))) ?_
  show wpv K_X8_gcd d P 6 [some (2, x0), none, some (2, x2), none, some (2, x0), none, some (2, x2)] [] G R V
  exact wp_wk (wk_n (wk_n (wk_n (wk_n (wk_s (wk_n (wk_s wk_0))))))) w

theorem t_X8_gcd_6 {d : Nat} {P : gP} {x4 : Int} {x6 : Int} {G : List gS} {R V : gV}  (w : ((i64 x6) ∧ (((¬ 0 < x6) → P (some (2, x4)) V) ∧ ((0 < x6) → ((x6 ≠ 0) ∧ wpv K_X8_gcd d P 6 [none, none, none, none, some (2, x6), none, some (2, (jrem x4 x6))] [] G R V))))) : wpv K_X8_gcd d P 6 [none, none, none, none, some (2, x4), none, some (2, x6)] [] G R V := by
  refine wp_ld (i := (.lload 6)) (2, x6) rfl rfl (fun _ => rfl) rfl rfl (?_ : wpv K_X8_gcd d P 8 [none, none, none, none, some (2, x4), none, some (2, x6)] [(2, x6)] G R V)
  refine wp_p (i := (.lconst 0)) rfl rfl (fun _ _ _ => rfl) (?_ : wpv K_X8_gcd d P 9 [none, none, none, none, some (2, x4), none, some (2, x6)] [(2, 0), (2, x6)] G R V)
  obtain ⟨s1, w⟩ := w
  refine wp_lcmp rfl rfl s1 ⟨by omega, by omega⟩ (?_ : wpv K_X8_gcd d P 10 [none, none, none, none, some (2, x4), none, some (2, x6)] [(0, sg x6 0)] G R V)
  refine wp_if (c := .le) 31 rfl rfl rfl (sg32 _ _) (fun q => ?_) (fun q => ?_)
  · have q : ¬ 0 < x6 := fun z => q (sg_gt.mpr z)
    replace w := w.1 q
    show wpv K_X8_gcd d P 31 [none, none, none, none, some (2, x4), none, some (2, x6)] [] G R V
    refine wp_ld (i := (.lload 4)) (2, x4) rfl rfl (fun _ => rfl) rfl rfl (?_ : wpv K_X8_gcd d P 33 [none, none, none, none, some (2, x4), none, some (2, x6)] [(2, x4)] G R V)
    exact wp_rJ rfl rfl rfl w
  · have q : 0 < x6 := sg_gt.mp (Decidable.not_not.mp q)
    replace w := w.2 q
    show wpv K_X8_gcd d P 13 [none, none, none, none, some (2, x4), none, some (2, x6)] [] G R V
    refine wp_ld (i := (.lload 4)) (2, x4) rfl rfl (fun _ => rfl) rfl rfl (?_ : wpv K_X8_gcd d P 15 [none, none, none, none, some (2, x4), none, some (2, x6)] [(2, x4)] G R V)
    refine wp_ld (i := (.lload 6)) (2, x6) rfl rfl (fun _ => rfl) rfl rfl (?_ : wpv K_X8_gcd d P 17 [none, none, none, none, some (2, x4), none, some (2, x6)] [(2, x6), (2, x4)] G R V)
    obtain ⟨s2, w⟩ := w
    refine wp_jrem rfl rfl s1 s2 (?_ : wpv K_X8_gcd d P 18 [none, none, none, none, some (2, x4), none, some (2, x6)] [(2, (jrem x4 x6))] G R V)
    refine wp_lsto (i := (.lstore 8)) _ rfl rfl (fun _ => rfl) rfl rfl rfl ?_
    refine wp_wk (L' := [none, none, none, none, some (2, x4), none, some (2, x6), none, some (2, (jrem x4 x6))]) (wk_n (wk_n (wk_n (wk_n (wk_s (wk_n (wk_s (wk_n (wk_s wk_0))))))))) ?_
    show wpv K_X8_gcd d P 20 [none, none, none, none, some (2, x4), none, some (2, x6), none, some (2, (jrem x4 x6))] [] G R V
    refine wp_ld (i := (.lload 6)) (2, x6) rfl rfl (fun _ => rfl) rfl rfl (?_ : wpv K_X8_gcd d P 22 [none, none, none, none, some (2, x4), none, some (2, x6), none, some (2, (jrem x4 x6))] [(2, x6)] G R V)
    refine wp_lsto (i := (.lstore 4)) _ rfl rfl (fun _ => rfl) rfl rfl rfl ?_
    refine wp_wk (L' := [none, none, none, none, some (2, x6), none, some (2, x6), none, some (2, (jrem x4 x6))]) (wk_n (wk_n (wk_n (wk_n (wk_s (wk_n (wk_s (wk_n (wk_s wk_0))))))))) ?_
    show wpv K_X8_gcd d P 24 [none, none, none, none, some (2, x6), none, some (2, x6), none, some (2, (jrem x4 x6))] [] G R V
    refine wp_ld (i := (.lload 8)) (2, (jrem x4 x6)) rfl rfl (fun _ => rfl) rfl rfl (?_ : wpv K_X8_gcd d P 26 [none, none, none, none, some (2, x6), none, some (2, x6), none, some (2, (jrem x4 x6))] [(2, (jrem x4 x6))] G R V)
    refine wp_lsto (i := (.lstore 6)) _ rfl rfl (fun _ => rfl) rfl rfl rfl ?_
    refine wp_wk (L' := [none, none, none, none, some (2, x6), none, some (2, (jrem x4 x6)), none, some (2, (jrem x4 x6))]) (wk_n (wk_n (wk_n (wk_n (wk_s (wk_n (wk_s (wk_n (wk_s wk_0))))))))) ?_
    show wpv K_X8_gcd d P 28 [none, none, none, none, some (2, x6), none, some (2, (jrem x4 x6)), none, some (2, (jrem x4 x6))] [] G R V
    refine wp_go 6 rfl rfl rfl (?_ : wpv K_X8_gcd d P 6 [none, none, none, none, some (2, x6), none, some (2, (jrem x4 x6)), none, some (2, (jrem x4 x6))] [] G R V)
    exact wp_wk (wk_n (wk_n (wk_n (wk_n (wk_s (wk_n (wk_s wk_0))))))) w
theorem t_X8_making_0 {d : Nat} {P : gP} {p0 : Nat} {x1 : Int} {G : List gS} {R V : gV} (l0 : lay8 G R p0) (w : wpv K_X8_making d P 5 [some (4, (p0 : Int)), some (0, x1), some (2, 0), none, some (0, 0)] [] G R V) : wpv K_X8_making d P 0 [some (4, (p0 : Int)), some (0, x1)] [] G R V := by
  refine wp_p (i := (.lconst 0)) rfl rfl (fun _ _ _ => rfl) (?_ : wpv K_X8_making d P 1 [some (4, (p0 : Int)), some (0, x1)] [(2, 0)] G R V)
  refine wp_lsto (i := (.lstore_n 2)) _ rfl rfl (fun _ => rfl) rfl rfl rfl ?_
  refine wp_wk (L' := [some (4, (p0 : Int)), some (0, x1), some (2, 0)]) (wk_s (wk_s (wk_s wk_0))) ?_
  show wpv K_X8_making d P 2 [some (4, (p0 : Int)), some (0, x1), some (2, 0)] [] G R V
  refine wp_p (i := (.iconst 0)) rfl rfl (fun _ _ _ => rfl) (?_ : wpv K_X8_making d P 3 [some (4, (p0 : Int)), some (0, x1), some (2, 0)] [(0, 0)] G R V)
  refine wp_sto (i := (.istore 4)) _ rfl rfl (fun _ => rfl) rfl rfl rfl ?_
  refine wp_wk (L' := [some (4, (p0 : Int)), some (0, x1), some (2, 0), none, some (0, 0)]) (wk_s (wk_s (wk_s (wk_n (wk_s wk_0))))) ?_
  show wpv K_X8_making d P 5 [some (4, (p0 : Int)), some (0, x1), some (2, 0), none, some (0, 0)] [] G R V
  exact wp_wk (wk_s (wk_s (wk_s (wk_n (wk_s wk_0))))) w

theorem t_X8_making_5 {d : Nat} {P : gP} {p0 : Nat} {x1 : Int} {x2 : Int} {x4 : Int} {G : List gS} {R V : gV} (l0 : lay8 G R p0) (w : ((i32 (V p0 12)) → ((i32 x4) ∧ (((¬ x4 < (V p0 12)) → P (some (2, x2)) V) ∧ ((x4 < (V p0 12)) → ((0 ≤ x4 ∧ x4 < 300) ∧ ((i64 (V (p0 + 17) x4)) → wpv K_X8_making d P 26 [some (4, (p0 : Int)), some (0, x1), some (2, x2), none, some (0, x4), some (2, (V (p0 + 17) x4)), none, some (0, 0)] [] G R V))))))) : wpv K_X8_making d P 5 [some (4, (p0 : Int)), some (0, x1), some (2, x2), none, some (0, x4)] [] G R V := by
  refine wp_ld (i := (.iload 4)) (0, x4) rfl rfl (fun _ => rfl) rfl rfl (?_ : wpv K_X8_making d P 7 [some (4, (p0 : Int)), some (0, x1), some (2, x2), none, some (0, x4)] [(0, x4)] G R V)
  refine wp_ld (i := (.aload_n 0)) (4, (p0 : Int)) rfl rfl (fun _ => rfl) rfl rfl (?_ : wpv K_X8_making d P 8 [some (4, (p0 : Int)), some (0, x1), some (2, x2), none, some (0, x4)] [(4, (p0 : Int)), (0, x4)] G R V)
  refine wp_rng (fun vr1 => ?_)
  have f2 : i32 (V p0 12) := vr_f0 vr1 (ly8_o l0) rfl rfl
  replace w := w f2
  refine wp_getI (k := 12) rfl rfl rfl (ly8_o l0) rfl rfl (?_ : wpv K_X8_making d P 11 [some (4, (p0 : Int)), some (0, x1), some (2, x2), none, some (0, x4)] [(0, (V p0 12)), (0, x4)] G R V)
  obtain ⟨s3, w⟩ := w
  refine wp_icmp (c := .ge) 62 rfl rfl rfl s3 f2 (fun q => ?_) (fun q => ?_)
  · have q : ¬ x4 < (V p0 12) := q
    replace w := w.1 q
    show wpv K_X8_making d P 62 [some (4, (p0 : Int)), some (0, x1), some (2, x2), none, some (0, x4)] [] G R V
    refine wp_ld (i := (.lload_n 2)) (2, x2) rfl rfl (fun _ => rfl) rfl rfl (?_ : wpv K_X8_making d P 63 [some (4, (p0 : Int)), some (0, x1), some (2, x2), none, some (0, x4)] [(2, x2)] G R V)
    exact wp_rJ rfl rfl rfl w
  · have q : x4 < (V p0 12) := Decidable.not_not.mp q
    replace w := w.2 q
    show wpv K_X8_making d P 14 [some (4, (p0 : Int)), some (0, x1), some (2, x2), none, some (0, x4)] [] G R V
    refine wp_ld (i := (.aload_n 0)) (4, (p0 : Int)) rfl rfl (fun _ => rfl) rfl rfl (?_ : wpv K_X8_making d P 15 [some (4, (p0 : Int)), some (0, x1), some (2, x2), none, some (0, x4)] [(4, (p0 : Int))] G R V)
    refine wp_getA (k := 22) rfl rfl rfl (ly8_o l0) rfl rfl (ly8_22 l0).1 (?_ : wpv K_X8_making d P 18 [some (4, (p0 : Int)), some (0, x1), some (2, x2), none, some (0, x4)] [(4, ((p0 + 17 : Nat) : Int))] G R V)
    refine wp_ld (i := (.iload 4)) (0, x4) rfl rfl (fun _ => rfl) rfl rfl (?_ : wpv K_X8_making d P 20 [some (4, (p0 : Int)), some (0, x1), some (2, x2), none, some (0, x4)] [(0, x4), (4, ((p0 + 17 : Nat) : Int))] G R V)
    obtain ⟨s4, w⟩ := w
    have f5 : i64 (V (p0 + 17) x4) := vr_a1 vr1 (ly8_22 l0).2 s4
    replace w := w f5
    refine wp_aJ rfl rfl (ly8_22 l0).2 s4 (?_ : wpv K_X8_making d P 21 [some (4, (p0 : Int)), some (0, x1), some (2, x2), none, some (0, x4)] [(2, (V (p0 + 17) x4))] G R V)
    refine wp_lsto (i := (.lstore 5)) _ rfl rfl (fun _ => rfl) rfl rfl rfl ?_
    refine wp_wk (L' := [some (4, (p0 : Int)), some (0, x1), some (2, x2), none, some (0, x4), some (2, (V (p0 + 17) x4))]) (wk_s (wk_s (wk_s (wk_n (wk_s (wk_s wk_0)))))) ?_
    show wpv K_X8_making d P 23 [some (4, (p0 : Int)), some (0, x1), some (2, x2), none, some (0, x4), some (2, (V (p0 + 17) x4))] [] G R V
    refine wp_p (i := (.iconst 0)) rfl rfl (fun _ _ _ => rfl) (?_ : wpv K_X8_making d P 24 [some (4, (p0 : Int)), some (0, x1), some (2, x2), none, some (0, x4), some (2, (V (p0 + 17) x4))] [(0, 0)] G R V)
    refine wp_sto (i := (.istore 7)) _ rfl rfl (fun _ => rfl) rfl rfl rfl ?_
    refine wp_wk (L' := [some (4, (p0 : Int)), some (0, x1), some (2, x2), none, some (0, x4), some (2, (V (p0 + 17) x4)), none, some (0, 0)]) (wk_s (wk_s (wk_s (wk_n (wk_s (wk_s (wk_n (wk_s wk_0)))))))) ?_
    show wpv K_X8_making d P 26 [some (4, (p0 : Int)), some (0, x1), some (2, x2), none, some (0, x4), some (2, (V (p0 + 17) x4)), none, some (0, 0)] [] G R V
    exact wp_wk (wk_s (wk_s (wk_s (wk_n (wk_s (wk_s (wk_n (wk_s wk_0)))))))) w

theorem t_X8_making_26 {d : Nat} {P : gP} {p0 : Nat} {x1 : Int} {x2 : Int} {x4 : Int} {x5 : Int} {x7 : Int} {G : List gS} {R V : gV} (l0 : lay8 G R p0) (w : ((i32 x7) ∧ ((i32 x1) ∧ (((¬ x7 < x1) → ((i32 (x4 + 1)) ∧ wpv K_X8_making d P 5 [some (4, (p0 : Int)), some (0, x1), some (2, (jadd x2 x5)), none, some (0, (x4 + 1))] [] G R V)) ∧ ((x7 < x1) → ((0 ≤ x4 ∧ x4 < 301) ∧ ((i32 (V (p0 + 10) x4)) → ((i32 (x7 + 1)) ∧ wpv K_X8_making d P 26 [some (4, (p0 : Int)), some (0, x1), some (2, x2), none, some (0, x4), some (2, (jmul x5 ((V (p0 + 10) x4)))), none, some (0, (x7 + 1))] [] G R V)))))))) : wpv K_X8_making d P 26 [some (4, (p0 : Int)), some (0, x1), some (2, x2), none, some (0, x4), some (2, x5), none, some (0, x7)] [] G R V := by
  refine wp_ld (i := (.iload 7)) (0, x7) rfl rfl (fun _ => rfl) rfl rfl (?_ : wpv K_X8_making d P 28 [some (4, (p0 : Int)), some (0, x1), some (2, x2), none, some (0, x4), some (2, x5), none, some (0, x7)] [(0, x7)] G R V)
  refine wp_ld (i := (.iload_n 1)) (0, x1) rfl rfl (fun _ => rfl) rfl rfl (?_ : wpv K_X8_making d P 29 [some (4, (p0 : Int)), some (0, x1), some (2, x2), none, some (0, x4), some (2, x5), none, some (0, x7)] [(0, x1), (0, x7)] G R V)
  obtain ⟨s1, w⟩ := w
  obtain ⟨s2, w⟩ := w
  refine wp_icmp (c := .ge) 51 rfl rfl rfl s1 s2 (fun q => ?_) (fun q => ?_)
  · have q : ¬ x7 < x1 := q
    replace w := w.1 q
    show wpv K_X8_making d P 51 [some (4, (p0 : Int)), some (0, x1), some (2, x2), none, some (0, x4), some (2, x5), none, some (0, x7)] [] G R V
    refine wp_ld (i := (.lload_n 2)) (2, x2) rfl rfl (fun _ => rfl) rfl rfl (?_ : wpv K_X8_making d P 52 [some (4, (p0 : Int)), some (0, x1), some (2, x2), none, some (0, x4), some (2, x5), none, some (0, x7)] [(2, x2)] G R V)
    refine wp_ld (i := (.lload 5)) (2, x5) rfl rfl (fun _ => rfl) rfl rfl (?_ : wpv K_X8_making d P 54 [some (4, (p0 : Int)), some (0, x1), some (2, x2), none, some (0, x4), some (2, x5), none, some (0, x7)] [(2, x5), (2, x2)] G R V)
    refine wp_jadd rfl rfl (?_ : wpv K_X8_making d P 55 [some (4, (p0 : Int)), some (0, x1), some (2, x2), none, some (0, x4), some (2, x5), none, some (0, x7)] [(2, (jadd x2 x5))] G R V)
    refine wp_lsto (i := (.lstore_n 2)) _ rfl rfl (fun _ => rfl) rfl rfl rfl ?_
    refine wp_wk (L' := [some (4, (p0 : Int)), some (0, x1), some (2, (jadd x2 x5)), none, some (0, x4), some (2, x5), none, some (0, x7)]) (wk_s (wk_s (wk_s (wk_n (wk_s (wk_s (wk_n (wk_s wk_0)))))))) ?_
    show wpv K_X8_making d P 56 [some (4, (p0 : Int)), some (0, x1), some (2, (jadd x2 x5)), none, some (0, x4), some (2, x5), none, some (0, x7)] [] G R V
    obtain ⟨s3, w⟩ := w
    refine wp_inc (x := 4) (k := 1) (a := x4) (c := (x4 + 1)) _ rfl rfl rfl rfl s3 (by omega) rfl ?_
    show wpv K_X8_making d P 59 [some (4, (p0 : Int)), some (0, x1), some (2, (jadd x2 x5)), none, some (0, (x4 + 1)), some (2, x5), none, some (0, x7)] [] G R V
    refine wp_go 5 rfl rfl rfl (?_ : wpv K_X8_making d P 5 [some (4, (p0 : Int)), some (0, x1), some (2, (jadd x2 x5)), none, some (0, (x4 + 1)), some (2, x5), none, some (0, x7)] [] G R V)
    exact wp_wk (wk_s (wk_s (wk_s (wk_n (wk_s wk_0))))) w
  · have q : x7 < x1 := Decidable.not_not.mp q
    replace w := w.2 q
    show wpv K_X8_making d P 32 [some (4, (p0 : Int)), some (0, x1), some (2, x2), none, some (0, x4), some (2, x5), none, some (0, x7)] [] G R V
    refine wp_ld (i := (.lload 5)) (2, x5) rfl rfl (fun _ => rfl) rfl rfl (?_ : wpv K_X8_making d P 34 [some (4, (p0 : Int)), some (0, x1), some (2, x2), none, some (0, x4), some (2, x5), none, some (0, x7)] [(2, x5)] G R V)
    refine wp_ld (i := (.aload_n 0)) (4, (p0 : Int)) rfl rfl (fun _ => rfl) rfl rfl (?_ : wpv K_X8_making d P 35 [some (4, (p0 : Int)), some (0, x1), some (2, x2), none, some (0, x4), some (2, x5), none, some (0, x7)] [(4, (p0 : Int)), (2, x5)] G R V)
    refine wp_getA (k := 15) rfl rfl rfl (ly8_o l0) rfl rfl (ly8_15 l0).1 (?_ : wpv K_X8_making d P 38 [some (4, (p0 : Int)), some (0, x1), some (2, x2), none, some (0, x4), some (2, x5), none, some (0, x7)] [(4, ((p0 + 10 : Nat) : Int)), (2, x5)] G R V)
    refine wp_ld (i := (.iload 4)) (0, x4) rfl rfl (fun _ => rfl) rfl rfl (?_ : wpv K_X8_making d P 40 [some (4, (p0 : Int)), some (0, x1), some (2, x2), none, some (0, x4), some (2, x5), none, some (0, x7)] [(0, x4), (4, ((p0 + 10 : Nat) : Int)), (2, x5)] G R V)
    obtain ⟨s4, w⟩ := w
    refine wp_rng (fun vr5 => ?_)
    have f6 : i32 (V (p0 + 10) x4) := vr_a0 vr5 (ly8_15 l0).2 s4
    replace w := w f6
    refine wp_aI rfl rfl (ly8_15 l0).2 s4 (?_ : wpv K_X8_making d P 41 [some (4, (p0 : Int)), some (0, x1), some (2, x2), none, some (0, x4), some (2, x5), none, some (0, x7)] [(0, (V (p0 + 10) x4)), (2, x5)] G R V)
    refine wp_i2l rfl rfl f6 (?_ : wpv K_X8_making d P 42 [some (4, (p0 : Int)), some (0, x1), some (2, x2), none, some (0, x4), some (2, x5), none, some (0, x7)] [(2, (V (p0 + 10) x4)), (2, x5)] G R V)
    refine wp_jmul rfl rfl (?_ : wpv K_X8_making d P 43 [some (4, (p0 : Int)), some (0, x1), some (2, x2), none, some (0, x4), some (2, x5), none, some (0, x7)] [(2, (jmul x5 ((V (p0 + 10) x4))))] G R V)
    refine wp_lsto (i := (.lstore 5)) _ rfl rfl (fun _ => rfl) rfl rfl rfl ?_
    refine wp_wk (L' := [some (4, (p0 : Int)), some (0, x1), some (2, x2), none, some (0, x4), some (2, (jmul x5 ((V (p0 + 10) x4)))), none, some (0, x7)]) (wk_s (wk_s (wk_s (wk_n (wk_s (wk_s (wk_n (wk_s wk_0)))))))) ?_
    show wpv K_X8_making d P 45 [some (4, (p0 : Int)), some (0, x1), some (2, x2), none, some (0, x4), some (2, (jmul x5 ((V (p0 + 10) x4)))), none, some (0, x7)] [] G R V
    obtain ⟨s7, w⟩ := w
    refine wp_inc (x := 7) (k := 1) (a := x7) (c := (x7 + 1)) _ rfl rfl rfl rfl s7 (by omega) rfl ?_
    show wpv K_X8_making d P 48 [some (4, (p0 : Int)), some (0, x1), some (2, x2), none, some (0, x4), some (2, (jmul x5 ((V (p0 + 10) x4)))), none, some (0, (x7 + 1))] [] G R V
    refine wp_go 26 rfl rfl rfl (?_ : wpv K_X8_making d P 26 [some (4, (p0 : Int)), some (0, x1), some (2, x2), none, some (0, x4), some (2, (jmul x5 ((V (p0 + 10) x4)))), none, some (0, (x7 + 1))] [] G R V)
    exact wp_wk (wk_s (wk_s (wk_s (wk_n (wk_s (wk_s (wk_n (wk_s wk_0)))))))) w
theorem t_X8_chance_0 {d : Nat} {P : gP} {p0 : Nat} {x1 : Int} {x2 : Int} {G : List gS} {R V : gV} (l0 : lay8 G R p0) (w : ((i32 x1) ∧ cwv d (fun r V2 => ∃ v3 : Int, r = some (0, v3) ∧ ((i32 v3) ∧ (((v3 = 0) → P (some (2, (-1))) V2) ∧ ((¬ v3 = 0) → ((i32 x2) ∧ cwv d (fun r V6 => ∃ v7 : Int, r = some (0, v7) ∧ ((i32 v7) ∧ (((¬ v7 = 0) → cwv d (fun r V9 => ∃ v10 : Int, r = some (2, v10) ∧ wpv K_X8_chance d P 38 [some (4, (p0 : Int)), some (0, x1), some (0, x2), some (2, v10), none, some (2, 1), none, some (0, 0)] [] G R V9) 236 [(4, (p0 : Int)), (0, x1)] G R V6) ∧ ((v7 = 0) → P (some (2, (-1))) V6)))) 159 [(2, x2), (2, 0), (2, 1)] G R V2))))) 159 [(2, x1), (2, 0), (2, 6)] G R V)) : wpv K_X8_chance d P 0 [some (4, (p0 : Int)), some (0, x1), some (0, x2)] [] G R V := by
  refine wp_ld (i := (.iload_n 1)) (0, x1) rfl rfl (fun _ => rfl) rfl rfl (?_ : wpv K_X8_chance d P 1 [some (4, (p0 : Int)), some (0, x1), some (0, x2)] [(0, x1)] G R V)
  obtain ⟨s1, w⟩ := w
  refine wp_i2l rfl rfl s1 (?_ : wpv K_X8_chance d P 2 [some (4, (p0 : Int)), some (0, x1), some (0, x2)] [(2, x1)] G R V)
  refine wp_p (i := (.lconst 0)) rfl rfl (fun _ _ _ => rfl) (?_ : wpv K_X8_chance d P 3 [some (4, (p0 : Int)), some (0, x1), some (0, x2)] [(2, 0), (2, x1)] G R V)
  refine wp_p (i := (.ldc2_w 337)) rfl rfl (fun _ _ _ => rfl) (?_ : wpv K_X8_chance d P 6 [some (4, (p0 : Int)), some (0, x1), some (0, x2)] [(2, 6), (2, 0), (2, x1)] G R V)
  refine wp_stat (as := [(2, x1), (2, 0), (2, 6)]) (st := []) _ rfl rfl rfl (by omega) rfl rfl (Nat.le_of_ble_eq_true rfl) (cwv_kI w (fun v3 V2 w => ?_))
  show wpv K_X8_chance d P 9 [some (4, (p0 : Int)), some (0, x1), some (0, x2)] [(0, v3)] G R V2
  obtain ⟨s4, w⟩ := w
  refine wp_if (c := .eq) 22 rfl rfl rfl s4 (fun q => ?_) (fun q => ?_)
  · have q : v3 = 0 := q
    replace w := w.1 q
    show wpv K_X8_chance d P 22 [some (4, (p0 : Int)), some (0, x1), some (0, x2)] [] G R V2
    refine wp_p (i := (.ldc2_w 287)) rfl rfl (fun _ _ _ => rfl) (?_ : wpv K_X8_chance d P 25 [some (4, (p0 : Int)), some (0, x1), some (0, x2)] [(2, (-1))] G R V2)
    exact wp_rJ rfl rfl rfl w
  · have q : ¬ v3 = 0 := q
    replace w := w.2 q
    show wpv K_X8_chance d P 12 [some (4, (p0 : Int)), some (0, x1), some (0, x2)] [] G R V2
    refine wp_ld (i := (.iload_n 2)) (0, x2) rfl rfl (fun _ => rfl) rfl rfl (?_ : wpv K_X8_chance d P 13 [some (4, (p0 : Int)), some (0, x1), some (0, x2)] [(0, x2)] G R V2)
    obtain ⟨s5, w⟩ := w
    refine wp_i2l rfl rfl s5 (?_ : wpv K_X8_chance d P 14 [some (4, (p0 : Int)), some (0, x1), some (0, x2)] [(2, x2)] G R V2)
    refine wp_p (i := (.lconst 0)) rfl rfl (fun _ _ _ => rfl) (?_ : wpv K_X8_chance d P 15 [some (4, (p0 : Int)), some (0, x1), some (0, x2)] [(2, 0), (2, x2)] G R V2)
    refine wp_p (i := (.lconst 1)) rfl rfl (fun _ _ _ => rfl) (?_ : wpv K_X8_chance d P 16 [some (4, (p0 : Int)), some (0, x1), some (0, x2)] [(2, 1), (2, 0), (2, x2)] G R V2)
    refine wp_stat (as := [(2, x2), (2, 0), (2, 1)]) (st := []) _ rfl rfl rfl (by omega) rfl rfl (Nat.le_of_ble_eq_true rfl) (cwv_kI w (fun v7 V6 w => ?_))
    show wpv K_X8_chance d P 19 [some (4, (p0 : Int)), some (0, x1), some (0, x2)] [(0, v7)] G R V6
    obtain ⟨s8, w⟩ := w
    refine wp_if (c := .ne) 26 rfl rfl rfl s8 (fun q => ?_) (fun q => ?_)
    · have q : ¬ v7 = 0 := q
      replace w := w.1 q
      show wpv K_X8_chance d P 26 [some (4, (p0 : Int)), some (0, x1), some (0, x2)] [] G R V6
      refine wp_ld (i := (.aload_n 0)) (4, (p0 : Int)) rfl rfl (fun _ => rfl) rfl rfl (?_ : wpv K_X8_chance d P 27 [some (4, (p0 : Int)), some (0, x1), some (0, x2)] [(4, (p0 : Int))] G R V6)
      refine wp_ld (i := (.iload_n 1)) (0, x1) rfl rfl (fun _ => rfl) rfl rfl (?_ : wpv K_X8_chance d P 28 [some (4, (p0 : Int)), some (0, x1), some (0, x2)] [(0, x1), (4, (p0 : Int))] G R V6)
      refine wp_virt (as := [(0, x1)]) (a := p0) (st := []) _ rfl rfl rfl rfl rfl rfl (ly8_o l0) (Nat.le_of_ble_eq_true rfl) (cwv_kJ w (fun v10 V9 w => ?_))
      show wpv K_X8_chance d P 31 [some (4, (p0 : Int)), some (0, x1), some (0, x2)] [(2, v10)] G R V9
      refine wp_lsto (i := (.lstore_n 3)) _ rfl rfl (fun _ => rfl) rfl rfl rfl ?_
      refine wp_wk (L' := [some (4, (p0 : Int)), some (0, x1), some (0, x2), some (2, v10)]) (wk_s (wk_s (wk_s (wk_s wk_0)))) ?_
      show wpv K_X8_chance d P 32 [some (4, (p0 : Int)), some (0, x1), some (0, x2), some (2, v10)] [] G R V9
      refine wp_p (i := (.lconst 1)) rfl rfl (fun _ _ _ => rfl) (?_ : wpv K_X8_chance d P 33 [some (4, (p0 : Int)), some (0, x1), some (0, x2), some (2, v10)] [(2, 1)] G R V9)
      refine wp_lsto (i := (.lstore 5)) _ rfl rfl (fun _ => rfl) rfl rfl rfl ?_
      refine wp_wk (L' := [some (4, (p0 : Int)), some (0, x1), some (0, x2), some (2, v10), none, some (2, 1)]) (wk_s (wk_s (wk_s (wk_s (wk_n (wk_s wk_0)))))) ?_
      show wpv K_X8_chance d P 35 [some (4, (p0 : Int)), some (0, x1), some (0, x2), some (2, v10), none, some (2, 1)] [] G R V9
      refine wp_p (i := (.iconst 0)) rfl rfl (fun _ _ _ => rfl) (?_ : wpv K_X8_chance d P 36 [some (4, (p0 : Int)), some (0, x1), some (0, x2), some (2, v10), none, some (2, 1)] [(0, 0)] G R V9)
      refine wp_sto (i := (.istore 7)) _ rfl rfl (fun _ => rfl) rfl rfl rfl ?_
      refine wp_wk (L' := [some (4, (p0 : Int)), some (0, x1), some (0, x2), some (2, v10), none, some (2, 1), none, some (0, 0)]) (wk_s (wk_s (wk_s (wk_s (wk_n (wk_s (wk_n (wk_s wk_0)))))))) ?_
      show wpv K_X8_chance d P 38 [some (4, (p0 : Int)), some (0, x1), some (0, x2), some (2, v10), none, some (2, 1), none, some (0, 0)] [] G R V9
      exact wp_wk (wk_s (wk_s (wk_s (wk_s (wk_n (wk_s (wk_n (wk_s wk_0)))))))) w
    · have q : v7 = 0 := Decidable.not_not.mp q
      replace w := w.2 q
      show wpv K_X8_chance d P 22 [some (4, (p0 : Int)), some (0, x1), some (0, x2)] [] G R V6
      refine wp_p (i := (.ldc2_w 287)) rfl rfl (fun _ _ _ => rfl) (?_ : wpv K_X8_chance d P 25 [some (4, (p0 : Int)), some (0, x1), some (0, x2)] [(2, (-1))] G R V6)
      exact wp_rJ rfl rfl rfl w

theorem t_X8_chance_38 {d : Nat} {P : gP} {p0 : Nat} {x1 : Int} {x2 : Int} {x3 : Int} {x5 : Int} {x7 : Int} {G : List gS} {R V : gV} (l0 : lay8 G R p0) (w : ((i32 x7) ∧ ((i32 x1) ∧ (((¬ x7 < x1) → cwv d (fun r V3 => ∃ v4 : Int, r = some (2, v4) ∧ ((i32 x2) ∧ (((¬ x2 = 0) → ((i64 v4) ∧ ((v4 ≠ 0) ∧ P (some (2, (jdiv x5 v4))) V3))) ∧ ((x2 = 0) → ((i64 v4) ∧ ((v4 ≠ 0) ∧ P (some (2, (jdiv x3 v4))) V3)))))) 235 [(2, x3), (2, x5)] G R V) ∧ ((x7 < x1) → ((i32 (V p0 5)) → ((i32 (x7 + 1)) ∧ wpv K_X8_chance d P 38 [some (4, (p0 : Int)), some (0, x1), some (0, x2), some (2, x3), none, some (2, (jmul x5 ((V p0 5)))), none, some (0, (x7 + 1))] [] G R V))))))) : wpv K_X8_chance d P 38 [some (4, (p0 : Int)), some (0, x1), some (0, x2), some (2, x3), none, some (2, x5), none, some (0, x7)] [] G R V := by
  refine wp_ld (i := (.iload 7)) (0, x7) rfl rfl (fun _ => rfl) rfl rfl (?_ : wpv K_X8_chance d P 40 [some (4, (p0 : Int)), some (0, x1), some (0, x2), some (2, x3), none, some (2, x5), none, some (0, x7)] [(0, x7)] G R V)
  refine wp_ld (i := (.iload_n 1)) (0, x1) rfl rfl (fun _ => rfl) rfl rfl (?_ : wpv K_X8_chance d P 41 [some (4, (p0 : Int)), some (0, x1), some (0, x2), some (2, x3), none, some (2, x5), none, some (0, x7)] [(0, x1), (0, x7)] G R V)
  obtain ⟨s1, w⟩ := w
  obtain ⟨s2, w⟩ := w
  refine wp_icmp (c := .ge) 60 rfl rfl rfl s1 s2 (fun q => ?_) (fun q => ?_)
  · have q : ¬ x7 < x1 := q
    replace w := w.1 q
    show wpv K_X8_chance d P 60 [some (4, (p0 : Int)), some (0, x1), some (0, x2), some (2, x3), none, some (2, x5), none, some (0, x7)] [] G R V
    refine wp_ld (i := (.lload_n 3)) (2, x3) rfl rfl (fun _ => rfl) rfl rfl (?_ : wpv K_X8_chance d P 61 [some (4, (p0 : Int)), some (0, x1), some (0, x2), some (2, x3), none, some (2, x5), none, some (0, x7)] [(2, x3)] G R V)
    refine wp_ld (i := (.lload 5)) (2, x5) rfl rfl (fun _ => rfl) rfl rfl (?_ : wpv K_X8_chance d P 63 [some (4, (p0 : Int)), some (0, x1), some (0, x2), some (2, x3), none, some (2, x5), none, some (0, x7)] [(2, x5), (2, x3)] G R V)
    refine wp_stat (as := [(2, x3), (2, x5)]) (st := []) _ rfl rfl rfl (by omega) rfl rfl (Nat.le_of_ble_eq_true rfl) (cwv_kJ w (fun v4 V3 w => ?_))
    show wpv K_X8_chance d P 66 [some (4, (p0 : Int)), some (0, x1), some (0, x2), some (2, x3), none, some (2, x5), none, some (0, x7)] [(2, v4)] G R V3
    refine wp_lsto (i := (.lstore 7)) _ rfl rfl (fun _ => rfl) rfl rfl rfl ?_
    refine wp_wk (L' := [some (4, (p0 : Int)), some (0, x1), some (0, x2), some (2, x3), none, some (2, x5), none, some (2, v4)]) (wk_s (wk_s (wk_s (wk_s (wk_n (wk_s (wk_n (wk_s wk_0)))))))) ?_
    show wpv K_X8_chance d P 68 [some (4, (p0 : Int)), some (0, x1), some (0, x2), some (2, x3), none, some (2, x5), none, some (2, v4)] [] G R V3
    refine wp_ld (i := (.iload_n 2)) (0, x2) rfl rfl (fun _ => rfl) rfl rfl (?_ : wpv K_X8_chance d P 69 [some (4, (p0 : Int)), some (0, x1), some (0, x2), some (2, x3), none, some (2, x5), none, some (2, v4)] [(0, x2)] G R V3)
    obtain ⟨s5, w⟩ := w
    refine wp_if (c := .ne) 79 rfl rfl rfl s5 (fun q => ?_) (fun q => ?_)
    · have q : ¬ x2 = 0 := q
      replace w := w.1 q
      show wpv K_X8_chance d P 79 [some (4, (p0 : Int)), some (0, x1), some (0, x2), some (2, x3), none, some (2, x5), none, some (2, v4)] [] G R V3
      refine wp_ld (i := (.lload 5)) (2, x5) rfl rfl (fun _ => rfl) rfl rfl (?_ : wpv K_X8_chance d P 81 [some (4, (p0 : Int)), some (0, x1), some (0, x2), some (2, x3), none, some (2, x5), none, some (2, v4)] [(2, x5)] G R V3)
      refine wp_ld (i := (.lload 7)) (2, v4) rfl rfl (fun _ => rfl) rfl rfl (?_ : wpv K_X8_chance d P 83 [some (4, (p0 : Int)), some (0, x1), some (0, x2), some (2, x3), none, some (2, x5), none, some (2, v4)] [(2, v4), (2, x5)] G R V3)
      obtain ⟨s6, w⟩ := w
      obtain ⟨s7, w⟩ := w
      refine wp_jdiv rfl rfl s6 s7 (?_ : wpv K_X8_chance d P 84 [some (4, (p0 : Int)), some (0, x1), some (0, x2), some (2, x3), none, some (2, x5), none, some (2, v4)] [(2, (jdiv x5 v4))] G R V3)
      exact wp_rJ rfl rfl rfl w
    · have q : x2 = 0 := Decidable.not_not.mp q
      replace w := w.2 q
      show wpv K_X8_chance d P 72 [some (4, (p0 : Int)), some (0, x1), some (0, x2), some (2, x3), none, some (2, x5), none, some (2, v4)] [] G R V3
      refine wp_ld (i := (.lload_n 3)) (2, x3) rfl rfl (fun _ => rfl) rfl rfl (?_ : wpv K_X8_chance d P 73 [some (4, (p0 : Int)), some (0, x1), some (0, x2), some (2, x3), none, some (2, x5), none, some (2, v4)] [(2, x3)] G R V3)
      refine wp_ld (i := (.lload 7)) (2, v4) rfl rfl (fun _ => rfl) rfl rfl (?_ : wpv K_X8_chance d P 75 [some (4, (p0 : Int)), some (0, x1), some (0, x2), some (2, x3), none, some (2, x5), none, some (2, v4)] [(2, v4), (2, x3)] G R V3)
      obtain ⟨s8, w⟩ := w
      obtain ⟨s9, w⟩ := w
      refine wp_jdiv rfl rfl s8 s9 (?_ : wpv K_X8_chance d P 76 [some (4, (p0 : Int)), some (0, x1), some (0, x2), some (2, x3), none, some (2, x5), none, some (2, v4)] [(2, (jdiv x3 v4))] G R V3)
      refine wp_go 84 rfl rfl rfl (?_ : wpv K_X8_chance d P 84 [some (4, (p0 : Int)), some (0, x1), some (0, x2), some (2, x3), none, some (2, x5), none, some (2, v4)] [(2, (jdiv x3 v4))] G R V3)
      exact wp_rJ rfl rfl rfl w
  · have q : x7 < x1 := Decidable.not_not.mp q
    replace w := w.2 q
    show wpv K_X8_chance d P 44 [some (4, (p0 : Int)), some (0, x1), some (0, x2), some (2, x3), none, some (2, x5), none, some (0, x7)] [] G R V
    refine wp_ld (i := (.lload 5)) (2, x5) rfl rfl (fun _ => rfl) rfl rfl (?_ : wpv K_X8_chance d P 46 [some (4, (p0 : Int)), some (0, x1), some (0, x2), some (2, x3), none, some (2, x5), none, some (0, x7)] [(2, x5)] G R V)
    refine wp_ld (i := (.aload_n 0)) (4, (p0 : Int)) rfl rfl (fun _ => rfl) rfl rfl (?_ : wpv K_X8_chance d P 47 [some (4, (p0 : Int)), some (0, x1), some (0, x2), some (2, x3), none, some (2, x5), none, some (0, x7)] [(4, (p0 : Int)), (2, x5)] G R V)
    refine wp_rng (fun vr10 => ?_)
    have f11 : i32 (V p0 5) := vr_f0 vr10 (ly8_o l0) rfl rfl
    replace w := w f11
    refine wp_getI (k := 5) rfl rfl rfl (ly8_o l0) rfl rfl (?_ : wpv K_X8_chance d P 50 [some (4, (p0 : Int)), some (0, x1), some (0, x2), some (2, x3), none, some (2, x5), none, some (0, x7)] [(0, (V p0 5)), (2, x5)] G R V)
    refine wp_i2l rfl rfl f11 (?_ : wpv K_X8_chance d P 51 [some (4, (p0 : Int)), some (0, x1), some (0, x2), some (2, x3), none, some (2, x5), none, some (0, x7)] [(2, (V p0 5)), (2, x5)] G R V)
    refine wp_jmul rfl rfl (?_ : wpv K_X8_chance d P 52 [some (4, (p0 : Int)), some (0, x1), some (0, x2), some (2, x3), none, some (2, x5), none, some (0, x7)] [(2, (jmul x5 ((V p0 5))))] G R V)
    refine wp_lsto (i := (.lstore 5)) _ rfl rfl (fun _ => rfl) rfl rfl rfl ?_
    refine wp_wk (L' := [some (4, (p0 : Int)), some (0, x1), some (0, x2), some (2, x3), none, some (2, (jmul x5 ((V p0 5)))), none, some (0, x7)]) (wk_s (wk_s (wk_s (wk_s (wk_n (wk_s (wk_n (wk_s wk_0)))))))) ?_
    show wpv K_X8_chance d P 54 [some (4, (p0 : Int)), some (0, x1), some (0, x2), some (2, x3), none, some (2, (jmul x5 ((V p0 5)))), none, some (0, x7)] [] G R V
    obtain ⟨s12, w⟩ := w
    refine wp_inc (x := 7) (k := 1) (a := x7) (c := (x7 + 1)) _ rfl rfl rfl rfl s12 (by omega) rfl ?_
    show wpv K_X8_chance d P 57 [some (4, (p0 : Int)), some (0, x1), some (0, x2), some (2, x3), none, some (2, (jmul x5 ((V p0 5)))), none, some (0, (x7 + 1))] [] G R V
    refine wp_go 38 rfl rfl rfl (?_ : wpv K_X8_chance d P 38 [some (4, (p0 : Int)), some (0, x1), some (0, x2), some (2, x3), none, some (2, (jmul x5 ((V p0 5)))), none, some (0, (x7 + 1))] [] G R V)
    exact wp_wk (wk_s (wk_s (wk_s (wk_s (wk_n (wk_s (wk_n (wk_s wk_0)))))))) w
theorem t_X8_rank_0 {d : Nat} {P : gP} {p0 : Nat} {G : List gS} {R V : gV} (l0 : lay8 G R p0) (w : wpv K_X8_rank d P 2 [some (4, (p0 : Int)), some (0, 0)] [] G R V) : wpv K_X8_rank d P 0 [some (4, (p0 : Int))] [] G R V := by
  refine wp_p (i := (.iconst 0)) rfl rfl (fun _ _ _ => rfl) (?_ : wpv K_X8_rank d P 1 [some (4, (p0 : Int))] [(0, 0)] G R V)
  refine wp_sto (i := (.istore_n 1)) _ rfl rfl (fun _ => rfl) rfl rfl rfl ?_
  refine wp_wk (L' := [some (4, (p0 : Int)), some (0, 0)]) (wk_s (wk_s wk_0)) ?_
  show wpv K_X8_rank d P 2 [some (4, (p0 : Int)), some (0, 0)] [] G R V
  exact wp_wk (wk_s (wk_s wk_0)) w

theorem t_X8_rank_2 {d : Nat} {P : gP} {p0 : Nat} {x1 : Int} {G : List gS} {R V : gV} (l0 : lay8 G R p0) (w : ((i32 x1) ∧ (((¬ x1 < 8) → P (some (0, x1)) V) ∧ ((x1 < 8) → cwv d (fun r V2 => ∃ v3 : Int, r = some (2, v3) ∧ ((i64 v3) ∧ (((¬ v3 = 0) → P (some (0, x1)) V2) ∧ ((v3 = 0) → ((i32 (x1 + 1)) ∧ wpv K_X8_rank d P 2 [some (4, (p0 : Int)), some (0, (x1 + 1))] [] G R V2))))) 236 [(4, (p0 : Int)), (0, x1)] G R V)))) : wpv K_X8_rank d P 2 [some (4, (p0 : Int)), some (0, x1)] [] G R V := by
  refine wp_ld (i := (.iload_n 1)) (0, x1) rfl rfl (fun _ => rfl) rfl rfl (?_ : wpv K_X8_rank d P 3 [some (4, (p0 : Int)), some (0, x1)] [(0, x1)] G R V)
  refine wp_p (i := (.bipush 8)) rfl rfl (fun _ _ _ => rfl) (?_ : wpv K_X8_rank d P 5 [some (4, (p0 : Int)), some (0, x1)] [(0, 8), (0, x1)] G R V)
  obtain ⟨s1, w⟩ := w
  refine wp_icmp (c := .ge) 24 rfl rfl rfl s1 ⟨by omega, by omega⟩ (fun q => ?_) (fun q => ?_)
  · have q : ¬ x1 < 8 := q
    replace w := w.1 q
    show wpv K_X8_rank d P 24 [some (4, (p0 : Int)), some (0, x1)] [] G R V
    refine wp_ld (i := (.iload_n 1)) (0, x1) rfl rfl (fun _ => rfl) rfl rfl (?_ : wpv K_X8_rank d P 25 [some (4, (p0 : Int)), some (0, x1)] [(0, x1)] G R V)
    exact wp_rI rfl rfl rfl w
  · have q : x1 < 8 := Decidable.not_not.mp q
    replace w := w.2 q
    show wpv K_X8_rank d P 8 [some (4, (p0 : Int)), some (0, x1)] [] G R V
    refine wp_ld (i := (.aload_n 0)) (4, (p0 : Int)) rfl rfl (fun _ => rfl) rfl rfl (?_ : wpv K_X8_rank d P 9 [some (4, (p0 : Int)), some (0, x1)] [(4, (p0 : Int))] G R V)
    refine wp_ld (i := (.iload_n 1)) (0, x1) rfl rfl (fun _ => rfl) rfl rfl (?_ : wpv K_X8_rank d P 10 [some (4, (p0 : Int)), some (0, x1)] [(0, x1), (4, (p0 : Int))] G R V)
    refine wp_virt (as := [(0, x1)]) (a := p0) (st := []) _ rfl rfl rfl rfl rfl rfl (ly8_o l0) (Nat.le_of_ble_eq_true rfl) (cwv_kJ w (fun v3 V2 w => ?_))
    show wpv K_X8_rank d P 13 [some (4, (p0 : Int)), some (0, x1)] [(2, v3)] G R V2
    refine wp_p (i := (.lconst 0)) rfl rfl (fun _ _ _ => rfl) (?_ : wpv K_X8_rank d P 14 [some (4, (p0 : Int)), some (0, x1)] [(2, 0), (2, v3)] G R V2)
    obtain ⟨s4, w⟩ := w
    refine wp_lcmp rfl rfl s4 ⟨by omega, by omega⟩ (?_ : wpv K_X8_rank d P 15 [some (4, (p0 : Int)), some (0, x1)] [(0, sg v3 0)] G R V2)
    refine wp_if (c := .ne) 24 rfl rfl rfl (sg32 _ _) (fun q => ?_) (fun q => ?_)
    · have q : ¬ v3 = 0 := fun z => q (sg_eq.mpr z)
      replace w := w.1 q
      show wpv K_X8_rank d P 24 [some (4, (p0 : Int)), some (0, x1)] [] G R V2
      refine wp_ld (i := (.iload_n 1)) (0, x1) rfl rfl (fun _ => rfl) rfl rfl (?_ : wpv K_X8_rank d P 25 [some (4, (p0 : Int)), some (0, x1)] [(0, x1)] G R V2)
      exact wp_rI rfl rfl rfl w
    · have q : v3 = 0 := sg_eq.mp (Decidable.not_not.mp q)
      replace w := w.2 q
      show wpv K_X8_rank d P 18 [some (4, (p0 : Int)), some (0, x1)] [] G R V2
      obtain ⟨s5, w⟩ := w
      refine wp_inc (x := 1) (k := 1) (a := x1) (c := (x1 + 1)) _ rfl rfl rfl rfl s5 (by omega) rfl ?_
      show wpv K_X8_rank d P 21 [some (4, (p0 : Int)), some (0, (x1 + 1))] [] G R V2
      refine wp_go 2 rfl rfl rfl (?_ : wpv K_X8_rank d P 2 [some (4, (p0 : Int)), some (0, (x1 + 1))] [] G R V2)
      exact wp_wk (wk_s (wk_s wk_0)) w
theorem t_X8_image_0 {d : Nat} {P : gP} {p0 : Nat} {x1 : Int} {G : List gS} {R V : gV} (l0 : lay8 G R p0) (w : ((i32 x1) ∧ cwv d (fun r V2 => ∃ v3 : Int, r = some (0, v3) ∧ ((i32 v3) ∧ (((¬ v3 = 0) → ((0 ≤ x1 ∧ x1 < 3) ∧ ((i32 (V2 p0 4)) → ((i32 (V2 p0 5)) → wpv K_X8_image d P 47 [some (4, (p0 : Int)), some (0, x1), some (0, 0)] [] G R (wr (wr (wr V2 (p0 + 28) x1 1) (p0 + 29) x1 ((V2 p0 4))) (p0 + 30) x1 ((V2 p0 5))))))) ∧ ((v3 = 0) → cwv d (fun r V12 => ∃ v13 : Int, r = some (0, v13) ∧ P (some (0, v13)) V12) 160 [(4, (p0 : Int)), (0, (-1))] G R V2)))) 159 [(2, x1), (2, 0), (2, 2)] G R V)) : wpv K_X8_image d P 0 [some (4, (p0 : Int)), some (0, x1)] [] G R V := by
  refine wp_ld (i := (.iload_n 1)) (0, x1) rfl rfl (fun _ => rfl) rfl rfl (?_ : wpv K_X8_image d P 1 [some (4, (p0 : Int)), some (0, x1)] [(0, x1)] G R V)
  obtain ⟨s1, w⟩ := w
  refine wp_i2l rfl rfl s1 (?_ : wpv K_X8_image d P 2 [some (4, (p0 : Int)), some (0, x1)] [(2, x1)] G R V)
  refine wp_p (i := (.lconst 0)) rfl rfl (fun _ _ _ => rfl) (?_ : wpv K_X8_image d P 3 [some (4, (p0 : Int)), some (0, x1)] [(2, 0), (2, x1)] G R V)
  refine wp_p (i := (.ldc2_w 13)) rfl rfl (fun _ _ _ => rfl) (?_ : wpv K_X8_image d P 6 [some (4, (p0 : Int)), some (0, x1)] [(2, 2), (2, 0), (2, x1)] G R V)
  refine wp_stat (as := [(2, x1), (2, 0), (2, 2)]) (st := []) _ rfl rfl rfl (by omega) rfl rfl (Nat.le_of_ble_eq_true rfl) (cwv_kI w (fun v3 V2 w => ?_))
  show wpv K_X8_image d P 9 [some (4, (p0 : Int)), some (0, x1)] [(0, v3)] G R V2
  obtain ⟨s4, w⟩ := w
  refine wp_if (c := .ne) 18 rfl rfl rfl s4 (fun q => ?_) (fun q => ?_)
  · have q : ¬ v3 = 0 := q
    replace w := w.1 q
    show wpv K_X8_image d P 18 [some (4, (p0 : Int)), some (0, x1)] [] G R V2
    refine wp_ld (i := (.aload_n 0)) (4, (p0 : Int)) rfl rfl (fun _ => rfl) rfl rfl (?_ : wpv K_X8_image d P 19 [some (4, (p0 : Int)), some (0, x1)] [(4, (p0 : Int))] G R V2)
    refine wp_getA (k := 38) rfl rfl rfl (ly8_o l0) rfl rfl (ly8_38 l0).1 (?_ : wpv K_X8_image d P 22 [some (4, (p0 : Int)), some (0, x1)] [(4, ((p0 + 28 : Nat) : Int))] G R V2)
    refine wp_ld (i := (.iload_n 1)) (0, x1) rfl rfl (fun _ => rfl) rfl rfl (?_ : wpv K_X8_image d P 23 [some (4, (p0 : Int)), some (0, x1)] [(0, x1), (4, ((p0 + 28 : Nat) : Int))] G R V2)
    refine wp_p (i := (.iconst 1)) rfl rfl (fun _ _ _ => rfl) (?_ : wpv K_X8_image d P 24 [some (4, (p0 : Int)), some (0, x1)] [(0, 1), (0, x1), (4, ((p0 + 28 : Nat) : Int))] G R V2)
    obtain ⟨s5, w⟩ := w
    refine wp_sB rfl rfl (ly8_38 l0).2 s5 (by omega) (?_ : wpv K_X8_image d P 25 [some (4, (p0 : Int)), some (0, x1)] [] G R (wr V2 (p0 + 28) x1 1))
    refine wp_ld (i := (.aload_n 0)) (4, (p0 : Int)) rfl rfl (fun _ => rfl) rfl rfl (?_ : wpv K_X8_image d P 26 [some (4, (p0 : Int)), some (0, x1)] [(4, (p0 : Int))] G R (wr V2 (p0 + 28) x1 1))
    refine wp_getA (k := 39) rfl rfl rfl (ly8_o l0) rfl rfl (ly8_39 l0).1 (?_ : wpv K_X8_image d P 29 [some (4, (p0 : Int)), some (0, x1)] [(4, ((p0 + 29 : Nat) : Int))] G R (wr V2 (p0 + 28) x1 1))
    refine wp_ld (i := (.iload_n 1)) (0, x1) rfl rfl (fun _ => rfl) rfl rfl (?_ : wpv K_X8_image d P 30 [some (4, (p0 : Int)), some (0, x1)] [(0, x1), (4, ((p0 + 29 : Nat) : Int))] G R (wr V2 (p0 + 28) x1 1))
    refine wp_ld (i := (.aload_n 0)) (4, (p0 : Int)) rfl rfl (fun _ => rfl) rfl rfl (?_ : wpv K_X8_image d P 31 [some (4, (p0 : Int)), some (0, x1)] [(4, (p0 : Int)), (0, x1), (4, ((p0 + 29 : Nat) : Int))] G R (wr V2 (p0 + 28) x1 1))
    refine wp_rng (fun vr6 => ?_)
    have r7 : ((wr V2 (p0 + 28) x1 1) p0 4) = (V2 p0 4) := (wr_a (by omega))
    have f8 : i32 (V2 p0 4) := (by have h := vr_f0 vr6 (ly8_o l0) rfl (k := 4) (k' := 4) rfl; rw [r7] at h; exact h)
    replace w := w f8
    refine wp_getIe (k := 4) rfl rfl rfl (ly8_o l0) rfl rfl r7 (?_ : wpv K_X8_image d P 34 [some (4, (p0 : Int)), some (0, x1)] [(0, (V2 p0 4)), (0, x1), (4, ((p0 + 29 : Nat) : Int))] G R (wr V2 (p0 + 28) x1 1))
    refine wp_sI rfl rfl (ly8_39 l0).2 s5 f8 (?_ : wpv K_X8_image d P 35 [some (4, (p0 : Int)), some (0, x1)] [] G R (wr (wr V2 (p0 + 28) x1 1) (p0 + 29) x1 ((V2 p0 4))))
    refine wp_ld (i := (.aload_n 0)) (4, (p0 : Int)) rfl rfl (fun _ => rfl) rfl rfl (?_ : wpv K_X8_image d P 36 [some (4, (p0 : Int)), some (0, x1)] [(4, (p0 : Int))] G R (wr (wr V2 (p0 + 28) x1 1) (p0 + 29) x1 ((V2 p0 4))))
    refine wp_getA (k := 40) rfl rfl rfl (ly8_o l0) rfl rfl (ly8_40 l0).1 (?_ : wpv K_X8_image d P 39 [some (4, (p0 : Int)), some (0, x1)] [(4, ((p0 + 30 : Nat) : Int))] G R (wr (wr V2 (p0 + 28) x1 1) (p0 + 29) x1 ((V2 p0 4))))
    refine wp_ld (i := (.iload_n 1)) (0, x1) rfl rfl (fun _ => rfl) rfl rfl (?_ : wpv K_X8_image d P 40 [some (4, (p0 : Int)), some (0, x1)] [(0, x1), (4, ((p0 + 30 : Nat) : Int))] G R (wr (wr V2 (p0 + 28) x1 1) (p0 + 29) x1 ((V2 p0 4))))
    refine wp_ld (i := (.aload_n 0)) (4, (p0 : Int)) rfl rfl (fun _ => rfl) rfl rfl (?_ : wpv K_X8_image d P 41 [some (4, (p0 : Int)), some (0, x1)] [(4, (p0 : Int)), (0, x1), (4, ((p0 + 30 : Nat) : Int))] G R (wr (wr V2 (p0 + 28) x1 1) (p0 + 29) x1 ((V2 p0 4))))
    refine wp_rng (fun vr9 => ?_)
    have r10 : ((wr (wr V2 (p0 + 28) x1 1) (p0 + 29) x1 ((V2 p0 4))) p0 5) = (V2 p0 5) := ((wr_a (by omega)).trans (wr_a (by omega)))
    have f11 : i32 (V2 p0 5) := (by have h := vr_f0 vr9 (ly8_o l0) rfl (k := 5) (k' := 5) rfl; rw [r10] at h; exact h)
    replace w := w f11
    refine wp_getIe (k := 5) rfl rfl rfl (ly8_o l0) rfl rfl r10 (?_ : wpv K_X8_image d P 44 [some (4, (p0 : Int)), some (0, x1)] [(0, (V2 p0 5)), (0, x1), (4, ((p0 + 30 : Nat) : Int))] G R (wr (wr V2 (p0 + 28) x1 1) (p0 + 29) x1 ((V2 p0 4))))
    refine wp_sI rfl rfl (ly8_40 l0).2 s5 f11 (?_ : wpv K_X8_image d P 45 [some (4, (p0 : Int)), some (0, x1)] [] G R (wr (wr (wr V2 (p0 + 28) x1 1) (p0 + 29) x1 ((V2 p0 4))) (p0 + 30) x1 ((V2 p0 5))))
    refine wp_p (i := (.iconst 0)) rfl rfl (fun _ _ _ => rfl) (?_ : wpv K_X8_image d P 46 [some (4, (p0 : Int)), some (0, x1)] [(0, 0)] G R (wr (wr (wr V2 (p0 + 28) x1 1) (p0 + 29) x1 ((V2 p0 4))) (p0 + 30) x1 ((V2 p0 5))))
    refine wp_sto (i := (.istore_n 2)) _ rfl rfl (fun _ => rfl) rfl rfl rfl ?_
    refine wp_wk (L' := [some (4, (p0 : Int)), some (0, x1), some (0, 0)]) (wk_s (wk_s (wk_s wk_0))) ?_
    show wpv K_X8_image d P 47 [some (4, (p0 : Int)), some (0, x1), some (0, 0)] [] G R (wr (wr (wr V2 (p0 + 28) x1 1) (p0 + 29) x1 ((V2 p0 4))) (p0 + 30) x1 ((V2 p0 5)))
    exact wp_wk (wk_s (wk_s (wk_s wk_0))) w
  · have q : v3 = 0 := Decidable.not_not.mp q
    replace w := w.2 q
    show wpv K_X8_image d P 12 [some (4, (p0 : Int)), some (0, x1)] [] G R V2
    refine wp_ld (i := (.aload_n 0)) (4, (p0 : Int)) rfl rfl (fun _ => rfl) rfl rfl (?_ : wpv K_X8_image d P 13 [some (4, (p0 : Int)), some (0, x1)] [(4, (p0 : Int))] G R V2)
    refine wp_p (i := (.iconst (-1))) rfl rfl (fun _ _ _ => rfl) (?_ : wpv K_X8_image d P 14 [some (4, (p0 : Int)), some (0, x1)] [(0, (-1)), (4, (p0 : Int))] G R V2)
    refine wp_virt (as := [(0, (-1))]) (a := p0) (st := []) _ rfl rfl rfl rfl rfl rfl (ly8_o l0) (Nat.le_of_ble_eq_true rfl) (cwv_kI w (fun v13 V12 w => ?_))
    show wpv K_X8_image d P 17 [some (4, (p0 : Int)), some (0, x1)] [(0, v13)] G R V12
    exact wp_rI rfl rfl rfl w

theorem t_X8_image_47 {d : Nat} {P : gP} {p0 : Nat} {x1 : Int} {x2 : Int} {G : List gS} {R V : gV} (l0 : lay8 G R p0) (w : ((i32 x2) ∧ (((¬ x2 < 960) → wpv K_X8_image d P 80 [some (4, (p0 : Int)), some (0, x1), some (0, 0)] [] G R V) ∧ ((x2 < 960) → ((i32 (960 * x1)) ∧ ((i32 ((960 * x1) + x2)) ∧ ((0 ≤ x2 ∧ x2 < 960) ∧ ((i32 (V (p0 + 4) x2)) → ((0 ≤ ((960 * x1) + x2) ∧ ((960 * x1) + x2) < 2880) ∧ ((i32 (x2 + 1)) ∧ wpv K_X8_image d P 47 [some (4, (p0 : Int)), some (0, x1), some (0, (x2 + 1))] [] G R (wr V (p0 + 31) (((960 * x1) + x2)) ((V (p0 + 4) x2))))))))))))) : wpv K_X8_image d P 47 [some (4, (p0 : Int)), some (0, x1), some (0, x2)] [] G R V := by
  refine wp_ld (i := (.iload_n 2)) (0, x2) rfl rfl (fun _ => rfl) rfl rfl (?_ : wpv K_X8_image d P 48 [some (4, (p0 : Int)), some (0, x1), some (0, x2)] [(0, x2)] G R V)
  refine wp_p (i := (.sipush 960)) rfl rfl (fun _ _ _ => rfl) (?_ : wpv K_X8_image d P 51 [some (4, (p0 : Int)), some (0, x1), some (0, x2)] [(0, 960), (0, x2)] G R V)
  obtain ⟨s1, w⟩ := w
  refine wp_icmp (c := .ge) 78 rfl rfl rfl s1 ⟨by omega, by omega⟩ (fun q => ?_) (fun q => ?_)
  · have q : ¬ x2 < 960 := q
    replace w := w.1 q
    show wpv K_X8_image d P 78 [some (4, (p0 : Int)), some (0, x1), some (0, x2)] [] G R V
    refine wp_p (i := (.iconst 0)) rfl rfl (fun _ _ _ => rfl) (?_ : wpv K_X8_image d P 79 [some (4, (p0 : Int)), some (0, x1), some (0, x2)] [(0, 0)] G R V)
    refine wp_sto (i := (.istore_n 2)) _ rfl rfl (fun _ => rfl) rfl rfl rfl ?_
    refine wp_wk (L' := [some (4, (p0 : Int)), some (0, x1), some (0, 0)]) (wk_s (wk_s (wk_s wk_0))) ?_
    show wpv K_X8_image d P 80 [some (4, (p0 : Int)), some (0, x1), some (0, 0)] [] G R V
    exact wp_wk (wk_s (wk_s (wk_s wk_0))) w
  · have q : x2 < 960 := Decidable.not_not.mp q
    replace w := w.2 q
    show wpv K_X8_image d P 54 [some (4, (p0 : Int)), some (0, x1), some (0, x2)] [] G R V
    refine wp_ld (i := (.aload_n 0)) (4, (p0 : Int)) rfl rfl (fun _ => rfl) rfl rfl (?_ : wpv K_X8_image d P 55 [some (4, (p0 : Int)), some (0, x1), some (0, x2)] [(4, (p0 : Int))] G R V)
    refine wp_getA (k := 41) rfl rfl rfl (ly8_o l0) rfl rfl (ly8_41 l0).1 (?_ : wpv K_X8_image d P 58 [some (4, (p0 : Int)), some (0, x1), some (0, x2)] [(4, ((p0 + 31 : Nat) : Int))] G R V)
    refine wp_p (i := (.sipush 960)) rfl rfl (fun _ _ _ => rfl) (?_ : wpv K_X8_image d P 61 [some (4, (p0 : Int)), some (0, x1), some (0, x2)] [(0, 960), (4, ((p0 + 31 : Nat) : Int))] G R V)
    refine wp_ld (i := (.iload_n 1)) (0, x1) rfl rfl (fun _ => rfl) rfl rfl (?_ : wpv K_X8_image d P 62 [some (4, (p0 : Int)), some (0, x1), some (0, x2)] [(0, x1), (0, 960), (4, ((p0 + 31 : Nat) : Int))] G R V)
    obtain ⟨s2, w⟩ := w
    refine wp_xmul rfl rfl s2 (?_ : wpv K_X8_image d P 63 [some (4, (p0 : Int)), some (0, x1), some (0, x2)] [(0, (960 * x1)), (4, ((p0 + 31 : Nat) : Int))] G R V)
    refine wp_ld (i := (.iload_n 2)) (0, x2) rfl rfl (fun _ => rfl) rfl rfl (?_ : wpv K_X8_image d P 64 [some (4, (p0 : Int)), some (0, x1), some (0, x2)] [(0, x2), (0, (960 * x1)), (4, ((p0 + 31 : Nat) : Int))] G R V)
    obtain ⟨s3, w⟩ := w
    refine wp_xadd rfl rfl s3 (?_ : wpv K_X8_image d P 65 [some (4, (p0 : Int)), some (0, x1), some (0, x2)] [(0, ((960 * x1) + x2)), (4, ((p0 + 31 : Nat) : Int))] G R V)
    refine wp_ld (i := (.aload_n 0)) (4, (p0 : Int)) rfl rfl (fun _ => rfl) rfl rfl (?_ : wpv K_X8_image d P 66 [some (4, (p0 : Int)), some (0, x1), some (0, x2)] [(4, (p0 : Int)), (0, ((960 * x1) + x2)), (4, ((p0 + 31 : Nat) : Int))] G R V)
    refine wp_getA (k := 6) rfl rfl rfl (ly8_o l0) rfl rfl (ly8_6 l0).1 (?_ : wpv K_X8_image d P 69 [some (4, (p0 : Int)), some (0, x1), some (0, x2)] [(4, ((p0 + 4 : Nat) : Int)), (0, ((960 * x1) + x2)), (4, ((p0 + 31 : Nat) : Int))] G R V)
    refine wp_ld (i := (.iload_n 2)) (0, x2) rfl rfl (fun _ => rfl) rfl rfl (?_ : wpv K_X8_image d P 70 [some (4, (p0 : Int)), some (0, x1), some (0, x2)] [(0, x2), (4, ((p0 + 4 : Nat) : Int)), (0, ((960 * x1) + x2)), (4, ((p0 + 31 : Nat) : Int))] G R V)
    obtain ⟨s4, w⟩ := w
    refine wp_rng (fun vr5 => ?_)
    have f6 : i32 (V (p0 + 4) x2) := vr_a0 vr5 (ly8_6 l0).2 s4
    replace w := w f6
    refine wp_aI rfl rfl (ly8_6 l0).2 s4 (?_ : wpv K_X8_image d P 71 [some (4, (p0 : Int)), some (0, x1), some (0, x2)] [(0, (V (p0 + 4) x2)), (0, ((960 * x1) + x2)), (4, ((p0 + 31 : Nat) : Int))] G R V)
    obtain ⟨s7, w⟩ := w
    refine wp_sI rfl rfl (ly8_41 l0).2 s7 f6 (?_ : wpv K_X8_image d P 72 [some (4, (p0 : Int)), some (0, x1), some (0, x2)] [] G R (wr V (p0 + 31) (((960 * x1) + x2)) ((V (p0 + 4) x2))))
    obtain ⟨s8, w⟩ := w
    refine wp_inc (x := 2) (k := 1) (a := x2) (c := (x2 + 1)) _ rfl rfl rfl rfl s8 (by omega) rfl ?_
    show wpv K_X8_image d P 75 [some (4, (p0 : Int)), some (0, x1), some (0, (x2 + 1))] [] G R (wr V (p0 + 31) (((960 * x1) + x2)) ((V (p0 + 4) x2)))
    refine wp_go 47 rfl rfl rfl (?_ : wpv K_X8_image d P 47 [some (4, (p0 : Int)), some (0, x1), some (0, (x2 + 1))] [] G R (wr V (p0 + 31) (((960 * x1) + x2)) ((V (p0 + 4) x2))))
    exact wp_wk (wk_s (wk_s (wk_s wk_0))) w

theorem t_X8_image_80 {d : Nat} {P : gP} {p0 : Nat} {x1 : Int} {x2 : Int} {G : List gS} {R V : gV} (l0 : lay8 G R p0) (w : ((i32 x2) ∧ (((¬ x2 < 8) → wpv K_X8_image d P 111 [some (4, (p0 : Int)), some (0, x1), some (0, 0)] [] G R V) ∧ ((x2 < 8) → ((i32 (8 * x1)) ∧ ((i32 ((8 * x1) + x2)) ∧ ((0 ≤ x2 ∧ x2 < 8) ∧ (((V (p0 + 21) x2) = 0 ∨ (V (p0 + 21) x2) = 1) → ((0 ≤ ((8 * x1) + x2) ∧ ((8 * x1) + x2) < 24) ∧ ((i32 (x2 + 1)) ∧ wpv K_X8_image d P 80 [some (4, (p0 : Int)), some (0, x1), some (0, (x2 + 1))] [] G R (wr V (p0 + 32) (((8 * x1) + x2)) ((V (p0 + 21) x2))))))))))))) : wpv K_X8_image d P 80 [some (4, (p0 : Int)), some (0, x1), some (0, x2)] [] G R V := by
  refine wp_ld (i := (.iload_n 2)) (0, x2) rfl rfl (fun _ => rfl) rfl rfl (?_ : wpv K_X8_image d P 81 [some (4, (p0 : Int)), some (0, x1), some (0, x2)] [(0, x2)] G R V)
  refine wp_p (i := (.bipush 8)) rfl rfl (fun _ _ _ => rfl) (?_ : wpv K_X8_image d P 83 [some (4, (p0 : Int)), some (0, x1), some (0, x2)] [(0, 8), (0, x2)] G R V)
  obtain ⟨s1, w⟩ := w
  refine wp_icmp (c := .ge) 109 rfl rfl rfl s1 ⟨by omega, by omega⟩ (fun q => ?_) (fun q => ?_)
  · have q : ¬ x2 < 8 := q
    replace w := w.1 q
    show wpv K_X8_image d P 109 [some (4, (p0 : Int)), some (0, x1), some (0, x2)] [] G R V
    refine wp_p (i := (.iconst 0)) rfl rfl (fun _ _ _ => rfl) (?_ : wpv K_X8_image d P 110 [some (4, (p0 : Int)), some (0, x1), some (0, x2)] [(0, 0)] G R V)
    refine wp_sto (i := (.istore_n 2)) _ rfl rfl (fun _ => rfl) rfl rfl rfl ?_
    refine wp_wk (L' := [some (4, (p0 : Int)), some (0, x1), some (0, 0)]) (wk_s (wk_s (wk_s wk_0))) ?_
    show wpv K_X8_image d P 111 [some (4, (p0 : Int)), some (0, x1), some (0, 0)] [] G R V
    exact wp_wk (wk_s (wk_s (wk_s wk_0))) w
  · have q : x2 < 8 := Decidable.not_not.mp q
    replace w := w.2 q
    show wpv K_X8_image d P 86 [some (4, (p0 : Int)), some (0, x1), some (0, x2)] [] G R V
    refine wp_ld (i := (.aload_n 0)) (4, (p0 : Int)) rfl rfl (fun _ => rfl) rfl rfl (?_ : wpv K_X8_image d P 87 [some (4, (p0 : Int)), some (0, x1), some (0, x2)] [(4, (p0 : Int))] G R V)
    refine wp_getA (k := 42) rfl rfl rfl (ly8_o l0) rfl rfl (ly8_42 l0).1 (?_ : wpv K_X8_image d P 90 [some (4, (p0 : Int)), some (0, x1), some (0, x2)] [(4, ((p0 + 32 : Nat) : Int))] G R V)
    refine wp_p (i := (.bipush 8)) rfl rfl (fun _ _ _ => rfl) (?_ : wpv K_X8_image d P 92 [some (4, (p0 : Int)), some (0, x1), some (0, x2)] [(0, 8), (4, ((p0 + 32 : Nat) : Int))] G R V)
    refine wp_ld (i := (.iload_n 1)) (0, x1) rfl rfl (fun _ => rfl) rfl rfl (?_ : wpv K_X8_image d P 93 [some (4, (p0 : Int)), some (0, x1), some (0, x2)] [(0, x1), (0, 8), (4, ((p0 + 32 : Nat) : Int))] G R V)
    obtain ⟨s2, w⟩ := w
    refine wp_xmul rfl rfl s2 (?_ : wpv K_X8_image d P 94 [some (4, (p0 : Int)), some (0, x1), some (0, x2)] [(0, (8 * x1)), (4, ((p0 + 32 : Nat) : Int))] G R V)
    refine wp_ld (i := (.iload_n 2)) (0, x2) rfl rfl (fun _ => rfl) rfl rfl (?_ : wpv K_X8_image d P 95 [some (4, (p0 : Int)), some (0, x1), some (0, x2)] [(0, x2), (0, (8 * x1)), (4, ((p0 + 32 : Nat) : Int))] G R V)
    obtain ⟨s3, w⟩ := w
    refine wp_xadd rfl rfl s3 (?_ : wpv K_X8_image d P 96 [some (4, (p0 : Int)), some (0, x1), some (0, x2)] [(0, ((8 * x1) + x2)), (4, ((p0 + 32 : Nat) : Int))] G R V)
    refine wp_ld (i := (.aload_n 0)) (4, (p0 : Int)) rfl rfl (fun _ => rfl) rfl rfl (?_ : wpv K_X8_image d P 97 [some (4, (p0 : Int)), some (0, x1), some (0, x2)] [(4, (p0 : Int)), (0, ((8 * x1) + x2)), (4, ((p0 + 32 : Nat) : Int))] G R V)
    refine wp_getA (k := 28) rfl rfl rfl (ly8_o l0) rfl rfl (ly8_28 l0).1 (?_ : wpv K_X8_image d P 100 [some (4, (p0 : Int)), some (0, x1), some (0, x2)] [(4, ((p0 + 21 : Nat) : Int)), (0, ((8 * x1) + x2)), (4, ((p0 + 32 : Nat) : Int))] G R V)
    refine wp_ld (i := (.iload_n 2)) (0, x2) rfl rfl (fun _ => rfl) rfl rfl (?_ : wpv K_X8_image d P 101 [some (4, (p0 : Int)), some (0, x1), some (0, x2)] [(0, x2), (4, ((p0 + 21 : Nat) : Int)), (0, ((8 * x1) + x2)), (4, ((p0 + 32 : Nat) : Int))] G R V)
    obtain ⟨s4, w⟩ := w
    refine wp_rng (fun vr5 => ?_)
    have f6 : (V (p0 + 21) x2) = 0 ∨ (V (p0 + 21) x2) = 1 := vr_a2 vr5 (ly8_28 l0).2 s4
    replace w := w f6
    have f7 : i32 (V (p0 + 21) x2) := by unfold i32; omega
    refine wp_aB rfl rfl (ly8_28 l0).2 s4 (?_ : wpv K_X8_image d P 102 [some (4, (p0 : Int)), some (0, x1), some (0, x2)] [(0, (V (p0 + 21) x2)), (0, ((8 * x1) + x2)), (4, ((p0 + 32 : Nat) : Int))] G R V)
    obtain ⟨s8, w⟩ := w
    refine wp_sB rfl rfl (ly8_42 l0).2 s8 f6 (?_ : wpv K_X8_image d P 103 [some (4, (p0 : Int)), some (0, x1), some (0, x2)] [] G R (wr V (p0 + 32) (((8 * x1) + x2)) ((V (p0 + 21) x2))))
    obtain ⟨s9, w⟩ := w
    refine wp_inc (x := 2) (k := 1) (a := x2) (c := (x2 + 1)) _ rfl rfl rfl rfl s9 (by omega) rfl ?_
    show wpv K_X8_image d P 106 [some (4, (p0 : Int)), some (0, x1), some (0, (x2 + 1))] [] G R (wr V (p0 + 32) (((8 * x1) + x2)) ((V (p0 + 21) x2)))
    refine wp_go 80 rfl rfl rfl (?_ : wpv K_X8_image d P 80 [some (4, (p0 : Int)), some (0, x1), some (0, (x2 + 1))] [] G R (wr V (p0 + 32) (((8 * x1) + x2)) ((V (p0 + 21) x2))))
    exact wp_wk (wk_s (wk_s (wk_s wk_0))) w

theorem t_X8_image_111 {d : Nat} {P : gP} {p0 : Nat} {x1 : Int} {x2 : Int} {G : List gS} {R V : gV} (l0 : lay8 G R p0) (w : ((i32 x2) ∧ (((¬ x2 < 2400) → ((i32 (V p0 35)) → ((0 ≤ x1 ∧ x1 < 3) ∧ wpv K_X8_image d P 154 [some (4, (p0 : Int)), some (0, x1), some (0, 0)] [] G R (wr V (p0 + 34) x1 ((V p0 35)))))) ∧ ((x2 < 2400) → ((i32 (2400 * x1)) ∧ ((i32 ((2400 * x1) + x2)) ∧ ((0 ≤ x2 ∧ x2 < 2400) ∧ ((i64 (V (p0 + 22) x2)) → ((0 ≤ ((2400 * x1) + x2) ∧ ((2400 * x1) + x2) < 7200) ∧ ((i32 (x2 + 1)) ∧ wpv K_X8_image d P 111 [some (4, (p0 : Int)), some (0, x1), some (0, (x2 + 1))] [] G R (wr V (p0 + 33) (((2400 * x1) + x2)) ((V (p0 + 22) x2))))))))))))) : wpv K_X8_image d P 111 [some (4, (p0 : Int)), some (0, x1), some (0, x2)] [] G R V := by
  refine wp_ld (i := (.iload_n 2)) (0, x2) rfl rfl (fun _ => rfl) rfl rfl (?_ : wpv K_X8_image d P 112 [some (4, (p0 : Int)), some (0, x1), some (0, x2)] [(0, x2)] G R V)
  refine wp_p (i := (.sipush 2400)) rfl rfl (fun _ _ _ => rfl) (?_ : wpv K_X8_image d P 115 [some (4, (p0 : Int)), some (0, x1), some (0, x2)] [(0, 2400), (0, x2)] G R V)
  obtain ⟨s1, w⟩ := w
  refine wp_icmp (c := .ge) 142 rfl rfl rfl s1 ⟨by omega, by omega⟩ (fun q => ?_) (fun q => ?_)
  · have q : ¬ x2 < 2400 := q
    replace w := w.1 q
    show wpv K_X8_image d P 142 [some (4, (p0 : Int)), some (0, x1), some (0, x2)] [] G R V
    refine wp_ld (i := (.aload_n 0)) (4, (p0 : Int)) rfl rfl (fun _ => rfl) rfl rfl (?_ : wpv K_X8_image d P 143 [some (4, (p0 : Int)), some (0, x1), some (0, x2)] [(4, (p0 : Int))] G R V)
    refine wp_getA (k := 44) rfl rfl rfl (ly8_o l0) rfl rfl (ly8_44 l0).1 (?_ : wpv K_X8_image d P 146 [some (4, (p0 : Int)), some (0, x1), some (0, x2)] [(4, ((p0 + 34 : Nat) : Int))] G R V)
    refine wp_ld (i := (.iload_n 1)) (0, x1) rfl rfl (fun _ => rfl) rfl rfl (?_ : wpv K_X8_image d P 147 [some (4, (p0 : Int)), some (0, x1), some (0, x2)] [(0, x1), (4, ((p0 + 34 : Nat) : Int))] G R V)
    refine wp_ld (i := (.aload_n 0)) (4, (p0 : Int)) rfl rfl (fun _ => rfl) rfl rfl (?_ : wpv K_X8_image d P 148 [some (4, (p0 : Int)), some (0, x1), some (0, x2)] [(4, (p0 : Int)), (0, x1), (4, ((p0 + 34 : Nat) : Int))] G R V)
    refine wp_rng (fun vr2 => ?_)
    have f3 : i32 (V p0 35) := vr_f0 vr2 (ly8_o l0) rfl rfl
    replace w := w f3
    refine wp_getI (k := 35) rfl rfl rfl (ly8_o l0) rfl rfl (?_ : wpv K_X8_image d P 151 [some (4, (p0 : Int)), some (0, x1), some (0, x2)] [(0, (V p0 35)), (0, x1), (4, ((p0 + 34 : Nat) : Int))] G R V)
    obtain ⟨s4, w⟩ := w
    refine wp_sI rfl rfl (ly8_44 l0).2 s4 f3 (?_ : wpv K_X8_image d P 152 [some (4, (p0 : Int)), some (0, x1), some (0, x2)] [] G R (wr V (p0 + 34) x1 ((V p0 35))))
    refine wp_p (i := (.iconst 0)) rfl rfl (fun _ _ _ => rfl) (?_ : wpv K_X8_image d P 153 [some (4, (p0 : Int)), some (0, x1), some (0, x2)] [(0, 0)] G R (wr V (p0 + 34) x1 ((V p0 35))))
    refine wp_sto (i := (.istore_n 2)) _ rfl rfl (fun _ => rfl) rfl rfl rfl ?_
    refine wp_wk (L' := [some (4, (p0 : Int)), some (0, x1), some (0, 0)]) (wk_s (wk_s (wk_s wk_0))) ?_
    show wpv K_X8_image d P 154 [some (4, (p0 : Int)), some (0, x1), some (0, 0)] [] G R (wr V (p0 + 34) x1 ((V p0 35)))
    exact wp_wk (wk_s (wk_s (wk_s wk_0))) w
  · have q : x2 < 2400 := Decidable.not_not.mp q
    replace w := w.2 q
    show wpv K_X8_image d P 118 [some (4, (p0 : Int)), some (0, x1), some (0, x2)] [] G R V
    refine wp_ld (i := (.aload_n 0)) (4, (p0 : Int)) rfl rfl (fun _ => rfl) rfl rfl (?_ : wpv K_X8_image d P 119 [some (4, (p0 : Int)), some (0, x1), some (0, x2)] [(4, (p0 : Int))] G R V)
    refine wp_getA (k := 43) rfl rfl rfl (ly8_o l0) rfl rfl (ly8_43 l0).1 (?_ : wpv K_X8_image d P 122 [some (4, (p0 : Int)), some (0, x1), some (0, x2)] [(4, ((p0 + 33 : Nat) : Int))] G R V)
    refine wp_p (i := (.sipush 2400)) rfl rfl (fun _ _ _ => rfl) (?_ : wpv K_X8_image d P 125 [some (4, (p0 : Int)), some (0, x1), some (0, x2)] [(0, 2400), (4, ((p0 + 33 : Nat) : Int))] G R V)
    refine wp_ld (i := (.iload_n 1)) (0, x1) rfl rfl (fun _ => rfl) rfl rfl (?_ : wpv K_X8_image d P 126 [some (4, (p0 : Int)), some (0, x1), some (0, x2)] [(0, x1), (0, 2400), (4, ((p0 + 33 : Nat) : Int))] G R V)
    obtain ⟨s5, w⟩ := w
    refine wp_xmul rfl rfl s5 (?_ : wpv K_X8_image d P 127 [some (4, (p0 : Int)), some (0, x1), some (0, x2)] [(0, (2400 * x1)), (4, ((p0 + 33 : Nat) : Int))] G R V)
    refine wp_ld (i := (.iload_n 2)) (0, x2) rfl rfl (fun _ => rfl) rfl rfl (?_ : wpv K_X8_image d P 128 [some (4, (p0 : Int)), some (0, x1), some (0, x2)] [(0, x2), (0, (2400 * x1)), (4, ((p0 + 33 : Nat) : Int))] G R V)
    obtain ⟨s6, w⟩ := w
    refine wp_xadd rfl rfl s6 (?_ : wpv K_X8_image d P 129 [some (4, (p0 : Int)), some (0, x1), some (0, x2)] [(0, ((2400 * x1) + x2)), (4, ((p0 + 33 : Nat) : Int))] G R V)
    refine wp_ld (i := (.aload_n 0)) (4, (p0 : Int)) rfl rfl (fun _ => rfl) rfl rfl (?_ : wpv K_X8_image d P 130 [some (4, (p0 : Int)), some (0, x1), some (0, x2)] [(4, (p0 : Int)), (0, ((2400 * x1) + x2)), (4, ((p0 + 33 : Nat) : Int))] G R V)
    refine wp_getA (k := 29) rfl rfl rfl (ly8_o l0) rfl rfl (ly8_29 l0).1 (?_ : wpv K_X8_image d P 133 [some (4, (p0 : Int)), some (0, x1), some (0, x2)] [(4, ((p0 + 22 : Nat) : Int)), (0, ((2400 * x1) + x2)), (4, ((p0 + 33 : Nat) : Int))] G R V)
    refine wp_ld (i := (.iload_n 2)) (0, x2) rfl rfl (fun _ => rfl) rfl rfl (?_ : wpv K_X8_image d P 134 [some (4, (p0 : Int)), some (0, x1), some (0, x2)] [(0, x2), (4, ((p0 + 22 : Nat) : Int)), (0, ((2400 * x1) + x2)), (4, ((p0 + 33 : Nat) : Int))] G R V)
    obtain ⟨s7, w⟩ := w
    refine wp_rng (fun vr8 => ?_)
    have f9 : i64 (V (p0 + 22) x2) := vr_a1 vr8 (ly8_29 l0).2 s7
    replace w := w f9
    refine wp_aJ rfl rfl (ly8_29 l0).2 s7 (?_ : wpv K_X8_image d P 135 [some (4, (p0 : Int)), some (0, x1), some (0, x2)] [(2, (V (p0 + 22) x2)), (0, ((2400 * x1) + x2)), (4, ((p0 + 33 : Nat) : Int))] G R V)
    obtain ⟨s10, w⟩ := w
    refine wp_sJ rfl rfl (ly8_43 l0).2 s10 f9 (?_ : wpv K_X8_image d P 136 [some (4, (p0 : Int)), some (0, x1), some (0, x2)] [] G R (wr V (p0 + 33) (((2400 * x1) + x2)) ((V (p0 + 22) x2))))
    obtain ⟨s11, w⟩ := w
    refine wp_inc (x := 2) (k := 1) (a := x2) (c := (x2 + 1)) _ rfl rfl rfl rfl s11 (by omega) rfl ?_
    show wpv K_X8_image d P 139 [some (4, (p0 : Int)), some (0, x1), some (0, (x2 + 1))] [] G R (wr V (p0 + 33) (((2400 * x1) + x2)) ((V (p0 + 22) x2)))
    refine wp_go 111 rfl rfl rfl (?_ : wpv K_X8_image d P 111 [some (4, (p0 : Int)), some (0, x1), some (0, (x2 + 1))] [] G R (wr V (p0 + 33) (((2400 * x1) + x2)) ((V (p0 + 22) x2))))
    exact wp_wk (wk_s (wk_s (wk_s wk_0))) w

theorem t_X8_image_154 {d : Nat} {P : gP} {p0 : Nat} {x1 : Int} {x2 : Int} {G : List gS} {R V : gV} (l0 : lay8 G R p0) (w : ((i32 x2) ∧ (((¬ x2 < 300) → cwv d (fun r V2 => ∃ v3 : Int, r = some (0, v3) ∧ P (some (0, v3)) V2) 160 [(4, (p0 : Int)), (0, 0)] G R V) ∧ ((x2 < 300) → ((i32 (300 * x1)) ∧ ((i32 ((300 * x1) + x2)) ∧ ((0 ≤ x2 ∧ x2 < 300) ∧ ((i64 (V (p0 + 27) x2)) → ((0 ≤ ((300 * x1) + x2) ∧ ((300 * x1) + x2) < 900) ∧ ((i32 (x2 + 1)) ∧ wpv K_X8_image d P 154 [some (4, (p0 : Int)), some (0, x1), some (0, (x2 + 1))] [] G R (wr V (p0 + 35) (((300 * x1) + x2)) ((V (p0 + 27) x2))))))))))))) : wpv K_X8_image d P 154 [some (4, (p0 : Int)), some (0, x1), some (0, x2)] [] G R V := by
  refine wp_ld (i := (.iload_n 2)) (0, x2) rfl rfl (fun _ => rfl) rfl rfl (?_ : wpv K_X8_image d P 155 [some (4, (p0 : Int)), some (0, x1), some (0, x2)] [(0, x2)] G R V)
  refine wp_p (i := (.sipush 300)) rfl rfl (fun _ _ _ => rfl) (?_ : wpv K_X8_image d P 158 [some (4, (p0 : Int)), some (0, x1), some (0, x2)] [(0, 300), (0, x2)] G R V)
  obtain ⟨s1, w⟩ := w
  refine wp_icmp (c := .ge) 185 rfl rfl rfl s1 ⟨by omega, by omega⟩ (fun q => ?_) (fun q => ?_)
  · have q : ¬ x2 < 300 := q
    replace w := w.1 q
    show wpv K_X8_image d P 185 [some (4, (p0 : Int)), some (0, x1), some (0, x2)] [] G R V
    refine wp_ld (i := (.aload_n 0)) (4, (p0 : Int)) rfl rfl (fun _ => rfl) rfl rfl (?_ : wpv K_X8_image d P 186 [some (4, (p0 : Int)), some (0, x1), some (0, x2)] [(4, (p0 : Int))] G R V)
    refine wp_p (i := (.iconst 0)) rfl rfl (fun _ _ _ => rfl) (?_ : wpv K_X8_image d P 187 [some (4, (p0 : Int)), some (0, x1), some (0, x2)] [(0, 0), (4, (p0 : Int))] G R V)
    refine wp_virt (as := [(0, 0)]) (a := p0) (st := []) _ rfl rfl rfl rfl rfl rfl (ly8_o l0) (Nat.le_of_ble_eq_true rfl) (cwv_kI w (fun v3 V2 w => ?_))
    show wpv K_X8_image d P 190 [some (4, (p0 : Int)), some (0, x1), some (0, x2)] [(0, v3)] G R V2
    exact wp_rI rfl rfl rfl w
  · have q : x2 < 300 := Decidable.not_not.mp q
    replace w := w.2 q
    show wpv K_X8_image d P 161 [some (4, (p0 : Int)), some (0, x1), some (0, x2)] [] G R V
    refine wp_ld (i := (.aload_n 0)) (4, (p0 : Int)) rfl rfl (fun _ => rfl) rfl rfl (?_ : wpv K_X8_image d P 162 [some (4, (p0 : Int)), some (0, x1), some (0, x2)] [(4, (p0 : Int))] G R V)
    refine wp_getA (k := 45) rfl rfl rfl (ly8_o l0) rfl rfl (ly8_45 l0).1 (?_ : wpv K_X8_image d P 165 [some (4, (p0 : Int)), some (0, x1), some (0, x2)] [(4, ((p0 + 35 : Nat) : Int))] G R V)
    refine wp_p (i := (.sipush 300)) rfl rfl (fun _ _ _ => rfl) (?_ : wpv K_X8_image d P 168 [some (4, (p0 : Int)), some (0, x1), some (0, x2)] [(0, 300), (4, ((p0 + 35 : Nat) : Int))] G R V)
    refine wp_ld (i := (.iload_n 1)) (0, x1) rfl rfl (fun _ => rfl) rfl rfl (?_ : wpv K_X8_image d P 169 [some (4, (p0 : Int)), some (0, x1), some (0, x2)] [(0, x1), (0, 300), (4, ((p0 + 35 : Nat) : Int))] G R V)
    obtain ⟨s4, w⟩ := w
    refine wp_xmul rfl rfl s4 (?_ : wpv K_X8_image d P 170 [some (4, (p0 : Int)), some (0, x1), some (0, x2)] [(0, (300 * x1)), (4, ((p0 + 35 : Nat) : Int))] G R V)
    refine wp_ld (i := (.iload_n 2)) (0, x2) rfl rfl (fun _ => rfl) rfl rfl (?_ : wpv K_X8_image d P 171 [some (4, (p0 : Int)), some (0, x1), some (0, x2)] [(0, x2), (0, (300 * x1)), (4, ((p0 + 35 : Nat) : Int))] G R V)
    obtain ⟨s5, w⟩ := w
    refine wp_xadd rfl rfl s5 (?_ : wpv K_X8_image d P 172 [some (4, (p0 : Int)), some (0, x1), some (0, x2)] [(0, ((300 * x1) + x2)), (4, ((p0 + 35 : Nat) : Int))] G R V)
    refine wp_ld (i := (.aload_n 0)) (4, (p0 : Int)) rfl rfl (fun _ => rfl) rfl rfl (?_ : wpv K_X8_image d P 173 [some (4, (p0 : Int)), some (0, x1), some (0, x2)] [(4, (p0 : Int)), (0, ((300 * x1) + x2)), (4, ((p0 + 35 : Nat) : Int))] G R V)
    refine wp_getA (k := 36) rfl rfl rfl (ly8_o l0) rfl rfl (ly8_36 l0).1 (?_ : wpv K_X8_image d P 176 [some (4, (p0 : Int)), some (0, x1), some (0, x2)] [(4, ((p0 + 27 : Nat) : Int)), (0, ((300 * x1) + x2)), (4, ((p0 + 35 : Nat) : Int))] G R V)
    refine wp_ld (i := (.iload_n 2)) (0, x2) rfl rfl (fun _ => rfl) rfl rfl (?_ : wpv K_X8_image d P 177 [some (4, (p0 : Int)), some (0, x1), some (0, x2)] [(0, x2), (4, ((p0 + 27 : Nat) : Int)), (0, ((300 * x1) + x2)), (4, ((p0 + 35 : Nat) : Int))] G R V)
    obtain ⟨s6, w⟩ := w
    refine wp_rng (fun vr7 => ?_)
    have f8 : i64 (V (p0 + 27) x2) := vr_a1 vr7 (ly8_36 l0).2 s6
    replace w := w f8
    refine wp_aJ rfl rfl (ly8_36 l0).2 s6 (?_ : wpv K_X8_image d P 178 [some (4, (p0 : Int)), some (0, x1), some (0, x2)] [(2, (V (p0 + 27) x2)), (0, ((300 * x1) + x2)), (4, ((p0 + 35 : Nat) : Int))] G R V)
    obtain ⟨s9, w⟩ := w
    refine wp_sJ rfl rfl (ly8_45 l0).2 s9 f8 (?_ : wpv K_X8_image d P 179 [some (4, (p0 : Int)), some (0, x1), some (0, x2)] [] G R (wr V (p0 + 35) (((300 * x1) + x2)) ((V (p0 + 27) x2))))
    obtain ⟨s10, w⟩ := w
    refine wp_inc (x := 2) (k := 1) (a := x2) (c := (x2 + 1)) _ rfl rfl rfl rfl s10 (by omega) rfl ?_
    show wpv K_X8_image d P 182 [some (4, (p0 : Int)), some (0, x1), some (0, (x2 + 1))] [] G R (wr V (p0 + 35) (((300 * x1) + x2)) ((V (p0 + 27) x2)))
    refine wp_go 154 rfl rfl rfl (?_ : wpv K_X8_image d P 154 [some (4, (p0 : Int)), some (0, x1), some (0, (x2 + 1))] [] G R (wr V (p0 + 35) (((300 * x1) + x2)) ((V (p0 + 27) x2))))
    exact wp_wk (wk_s (wk_s (wk_s wk_0))) w
theorem t_X8_back_0 {d : Nat} {P : gP} {p0 : Nat} {x1 : Int} {G : List gS} {R V : gV} (l0 : lay8 G R p0) (w : ((i32 x1) ∧ cwv d (fun r V2 => ∃ v3 : Int, r = some (0, v3) ∧ ((i32 v3) ∧ (((¬ v3 = 0) → ((0 ≤ x1 ∧ x1 < 3) ∧ (((V2 (p0 + 28) x1) = 0 ∨ (V2 (p0 + 28) x1) = 1) → (((¬ (V2 (p0 + 28) x1) = 0) → wpv K_X8_back d P 36 [some (4, (p0 : Int)), some (0, x1), some (0, 0)] [] G R V2) ∧ (((V2 (p0 + 28) x1) = 0) → cwv d (fun r V9 => ∃ v10 : Int, r = some (0, v10) ∧ P (some (0, v10)) V9) 160 [(4, (p0 : Int)), (0, (-2))] G R V2))))) ∧ ((v3 = 0) → cwv d (fun r V11 => ∃ v12 : Int, r = some (0, v12) ∧ P (some (0, v12)) V11) 160 [(4, (p0 : Int)), (0, (-1))] G R V2)))) 159 [(2, x1), (2, 0), (2, 2)] G R V)) : wpv K_X8_back d P 0 [some (4, (p0 : Int)), some (0, x1)] [] G R V := by
  refine wp_ld (i := (.iload_n 1)) (0, x1) rfl rfl (fun _ => rfl) rfl rfl (?_ : wpv K_X8_back d P 1 [some (4, (p0 : Int)), some (0, x1)] [(0, x1)] G R V)
  obtain ⟨s1, w⟩ := w
  refine wp_i2l rfl rfl s1 (?_ : wpv K_X8_back d P 2 [some (4, (p0 : Int)), some (0, x1)] [(2, x1)] G R V)
  refine wp_p (i := (.lconst 0)) rfl rfl (fun _ _ _ => rfl) (?_ : wpv K_X8_back d P 3 [some (4, (p0 : Int)), some (0, x1)] [(2, 0), (2, x1)] G R V)
  refine wp_p (i := (.ldc2_w 13)) rfl rfl (fun _ _ _ => rfl) (?_ : wpv K_X8_back d P 6 [some (4, (p0 : Int)), some (0, x1)] [(2, 2), (2, 0), (2, x1)] G R V)
  refine wp_stat (as := [(2, x1), (2, 0), (2, 2)]) (st := []) _ rfl rfl rfl (by omega) rfl rfl (Nat.le_of_ble_eq_true rfl) (cwv_kI w (fun v3 V2 w => ?_))
  show wpv K_X8_back d P 9 [some (4, (p0 : Int)), some (0, x1)] [(0, v3)] G R V2
  obtain ⟨s4, w⟩ := w
  refine wp_if (c := .ne) 18 rfl rfl rfl s4 (fun q => ?_) (fun q => ?_)
  · have q : ¬ v3 = 0 := q
    replace w := w.1 q
    show wpv K_X8_back d P 18 [some (4, (p0 : Int)), some (0, x1)] [] G R V2
    refine wp_ld (i := (.aload_n 0)) (4, (p0 : Int)) rfl rfl (fun _ => rfl) rfl rfl (?_ : wpv K_X8_back d P 19 [some (4, (p0 : Int)), some (0, x1)] [(4, (p0 : Int))] G R V2)
    refine wp_getA (k := 38) rfl rfl rfl (ly8_o l0) rfl rfl (ly8_38 l0).1 (?_ : wpv K_X8_back d P 22 [some (4, (p0 : Int)), some (0, x1)] [(4, ((p0 + 28 : Nat) : Int))] G R V2)
    refine wp_ld (i := (.iload_n 1)) (0, x1) rfl rfl (fun _ => rfl) rfl rfl (?_ : wpv K_X8_back d P 23 [some (4, (p0 : Int)), some (0, x1)] [(0, x1), (4, ((p0 + 28 : Nat) : Int))] G R V2)
    obtain ⟨s5, w⟩ := w
    refine wp_rng (fun vr6 => ?_)
    have f7 : (V2 (p0 + 28) x1) = 0 ∨ (V2 (p0 + 28) x1) = 1 := vr_a2 vr6 (ly8_38 l0).2 s5
    replace w := w f7
    have f8 : i32 (V2 (p0 + 28) x1) := by unfold i32; omega
    refine wp_aB rfl rfl (ly8_38 l0).2 s5 (?_ : wpv K_X8_back d P 24 [some (4, (p0 : Int)), some (0, x1)] [(0, (V2 (p0 + 28) x1))] G R V2)
    refine wp_if (c := .ne) 34 rfl rfl rfl f8 (fun q => ?_) (fun q => ?_)
    · have q : ¬ (V2 (p0 + 28) x1) = 0 := q
      replace w := w.1 q
      show wpv K_X8_back d P 34 [some (4, (p0 : Int)), some (0, x1)] [] G R V2
      refine wp_p (i := (.iconst 0)) rfl rfl (fun _ _ _ => rfl) (?_ : wpv K_X8_back d P 35 [some (4, (p0 : Int)), some (0, x1)] [(0, 0)] G R V2)
      refine wp_sto (i := (.istore_n 2)) _ rfl rfl (fun _ => rfl) rfl rfl rfl ?_
      refine wp_wk (L' := [some (4, (p0 : Int)), some (0, x1), some (0, 0)]) (wk_s (wk_s (wk_s wk_0))) ?_
      show wpv K_X8_back d P 36 [some (4, (p0 : Int)), some (0, x1), some (0, 0)] [] G R V2
      exact wp_wk (wk_s (wk_s (wk_s wk_0))) w
    · have q : (V2 (p0 + 28) x1) = 0 := Decidable.not_not.mp q
      replace w := w.2 q
      show wpv K_X8_back d P 27 [some (4, (p0 : Int)), some (0, x1)] [] G R V2
      refine wp_ld (i := (.aload_n 0)) (4, (p0 : Int)) rfl rfl (fun _ => rfl) rfl rfl (?_ : wpv K_X8_back d P 28 [some (4, (p0 : Int)), some (0, x1)] [(4, (p0 : Int))] G R V2)
      refine wp_p (i := (.bipush (-2))) rfl rfl (fun _ _ _ => rfl) (?_ : wpv K_X8_back d P 30 [some (4, (p0 : Int)), some (0, x1)] [(0, (-2)), (4, (p0 : Int))] G R V2)
      refine wp_virt (as := [(0, (-2))]) (a := p0) (st := []) _ rfl rfl rfl rfl rfl rfl (ly8_o l0) (Nat.le_of_ble_eq_true rfl) (cwv_kI w (fun v10 V9 w => ?_))
      show wpv K_X8_back d P 33 [some (4, (p0 : Int)), some (0, x1)] [(0, v10)] G R V9
      exact wp_rI rfl rfl rfl w
  · have q : v3 = 0 := Decidable.not_not.mp q
    replace w := w.2 q
    show wpv K_X8_back d P 12 [some (4, (p0 : Int)), some (0, x1)] [] G R V2
    refine wp_ld (i := (.aload_n 0)) (4, (p0 : Int)) rfl rfl (fun _ => rfl) rfl rfl (?_ : wpv K_X8_back d P 13 [some (4, (p0 : Int)), some (0, x1)] [(4, (p0 : Int))] G R V2)
    refine wp_p (i := (.iconst (-1))) rfl rfl (fun _ _ _ => rfl) (?_ : wpv K_X8_back d P 14 [some (4, (p0 : Int)), some (0, x1)] [(0, (-1)), (4, (p0 : Int))] G R V2)
    refine wp_virt (as := [(0, (-1))]) (a := p0) (st := []) _ rfl rfl rfl rfl rfl rfl (ly8_o l0) (Nat.le_of_ble_eq_true rfl) (cwv_kI w (fun v12 V11 w => ?_))
    show wpv K_X8_back d P 17 [some (4, (p0 : Int)), some (0, x1)] [(0, v12)] G R V11
    exact wp_rI rfl rfl rfl w

theorem t_X8_back_36 {d : Nat} {P : gP} {p0 : Nat} {x1 : Int} {x2 : Int} {G : List gS} {R V : gV} (l0 : lay8 G R p0) (w : ((i32 x2) ∧ (((¬ x2 < 960) → ((0 ≤ x1 ∧ x1 < 3) ∧ ((i32 (V (p0 + 29) x1)) → ((i32 (V (p0 + 30) x1)) → cwv d (fun r V6 => r = none ∧ wpv K_X8_back d P 89 [some (4, (p0 : Int)), some (0, x1), some (0, 0)] [] G R V6) 180 [(4, (p0 : Int)), (4, ((p0 + 20 : Nat) : Int)), (0, (V (p0 + 29) x1)), (0, (V (p0 + 30) x1))] G R V)))) ∧ ((x2 < 960) → ((i32 (960 * x1)) ∧ ((i32 ((960 * x1) + x2)) ∧ ((0 ≤ ((960 * x1) + x2) ∧ ((960 * x1) + x2) < 2880) ∧ ((i32 (V (p0 + 31) (((960 * x1) + x2)))) → ((0 ≤ x2 ∧ x2 < 960) ∧ ((i32 (x2 + 1)) ∧ wpv K_X8_back d P 36 [some (4, (p0 : Int)), some (0, x1), some (0, (x2 + 1))] [] G R (wr V (p0 + 20) x2 ((V (p0 + 31) (((960 * x1) + x2))))))))))))))) : wpv K_X8_back d P 36 [some (4, (p0 : Int)), some (0, x1), some (0, x2)] [] G R V := by
  refine wp_ld (i := (.iload_n 2)) (0, x2) rfl rfl (fun _ => rfl) rfl rfl (?_ : wpv K_X8_back d P 37 [some (4, (p0 : Int)), some (0, x1), some (0, x2)] [(0, x2)] G R V)
  refine wp_p (i := (.sipush 960)) rfl rfl (fun _ _ _ => rfl) (?_ : wpv K_X8_back d P 40 [some (4, (p0 : Int)), some (0, x1), some (0, x2)] [(0, 960), (0, x2)] G R V)
  obtain ⟨s1, w⟩ := w
  refine wp_icmp (c := .ge) 67 rfl rfl rfl s1 ⟨by omega, by omega⟩ (fun q => ?_) (fun q => ?_)
  · have q : ¬ x2 < 960 := q
    replace w := w.1 q
    show wpv K_X8_back d P 67 [some (4, (p0 : Int)), some (0, x1), some (0, x2)] [] G R V
    refine wp_ld (i := (.aload_n 0)) (4, (p0 : Int)) rfl rfl (fun _ => rfl) rfl rfl (?_ : wpv K_X8_back d P 68 [some (4, (p0 : Int)), some (0, x1), some (0, x2)] [(4, (p0 : Int))] G R V)
    refine wp_ld (i := (.aload_n 0)) (4, (p0 : Int)) rfl rfl (fun _ => rfl) rfl rfl (?_ : wpv K_X8_back d P 69 [some (4, (p0 : Int)), some (0, x1), some (0, x2)] [(4, (p0 : Int)), (4, (p0 : Int))] G R V)
    refine wp_getA (k := 25) rfl rfl rfl (ly8_o l0) rfl rfl (ly8_25 l0).1 (?_ : wpv K_X8_back d P 72 [some (4, (p0 : Int)), some (0, x1), some (0, x2)] [(4, ((p0 + 20 : Nat) : Int)), (4, (p0 : Int))] G R V)
    refine wp_ld (i := (.aload_n 0)) (4, (p0 : Int)) rfl rfl (fun _ => rfl) rfl rfl (?_ : wpv K_X8_back d P 73 [some (4, (p0 : Int)), some (0, x1), some (0, x2)] [(4, (p0 : Int)), (4, ((p0 + 20 : Nat) : Int)), (4, (p0 : Int))] G R V)
    refine wp_getA (k := 39) rfl rfl rfl (ly8_o l0) rfl rfl (ly8_39 l0).1 (?_ : wpv K_X8_back d P 76 [some (4, (p0 : Int)), some (0, x1), some (0, x2)] [(4, ((p0 + 29 : Nat) : Int)), (4, ((p0 + 20 : Nat) : Int)), (4, (p0 : Int))] G R V)
    refine wp_ld (i := (.iload_n 1)) (0, x1) rfl rfl (fun _ => rfl) rfl rfl (?_ : wpv K_X8_back d P 77 [some (4, (p0 : Int)), some (0, x1), some (0, x2)] [(0, x1), (4, ((p0 + 29 : Nat) : Int)), (4, ((p0 + 20 : Nat) : Int)), (4, (p0 : Int))] G R V)
    obtain ⟨s2, w⟩ := w
    refine wp_rng (fun vr3 => ?_)
    have f4 : i32 (V (p0 + 29) x1) := vr_a0 vr3 (ly8_39 l0).2 s2
    replace w := w f4
    refine wp_aI rfl rfl (ly8_39 l0).2 s2 (?_ : wpv K_X8_back d P 78 [some (4, (p0 : Int)), some (0, x1), some (0, x2)] [(0, (V (p0 + 29) x1)), (4, ((p0 + 20 : Nat) : Int)), (4, (p0 : Int))] G R V)
    refine wp_ld (i := (.aload_n 0)) (4, (p0 : Int)) rfl rfl (fun _ => rfl) rfl rfl (?_ : wpv K_X8_back d P 79 [some (4, (p0 : Int)), some (0, x1), some (0, x2)] [(4, (p0 : Int)), (0, (V (p0 + 29) x1)), (4, ((p0 + 20 : Nat) : Int)), (4, (p0 : Int))] G R V)
    refine wp_getA (k := 40) rfl rfl rfl (ly8_o l0) rfl rfl (ly8_40 l0).1 (?_ : wpv K_X8_back d P 82 [some (4, (p0 : Int)), some (0, x1), some (0, x2)] [(4, ((p0 + 30 : Nat) : Int)), (0, (V (p0 + 29) x1)), (4, ((p0 + 20 : Nat) : Int)), (4, (p0 : Int))] G R V)
    refine wp_ld (i := (.iload_n 1)) (0, x1) rfl rfl (fun _ => rfl) rfl rfl (?_ : wpv K_X8_back d P 83 [some (4, (p0 : Int)), some (0, x1), some (0, x2)] [(0, x1), (4, ((p0 + 30 : Nat) : Int)), (0, (V (p0 + 29) x1)), (4, ((p0 + 20 : Nat) : Int)), (4, (p0 : Int))] G R V)
    have f5 : i32 (V (p0 + 30) x1) := vr_a0 vr3 (ly8_40 l0).2 s2
    replace w := w f5
    refine wp_aI rfl rfl (ly8_40 l0).2 s2 (?_ : wpv K_X8_back d P 84 [some (4, (p0 : Int)), some (0, x1), some (0, x2)] [(0, (V (p0 + 30) x1)), (0, (V (p0 + 29) x1)), (4, ((p0 + 20 : Nat) : Int)), (4, (p0 : Int))] G R V)
    refine wp_virt (as := [(4, ((p0 + 20 : Nat) : Int)), (0, (V (p0 + 29) x1)), (0, (V (p0 + 30) x1))]) (a := p0) (st := []) _ rfl rfl rfl rfl rfl rfl (ly8_o l0) (Nat.le_of_ble_eq_true rfl) (cwv_k0 w (fun V6 w => ?_))
    show wpv K_X8_back d P 87 [some (4, (p0 : Int)), some (0, x1), some (0, x2)] [] G R V6
    refine wp_p (i := (.iconst 0)) rfl rfl (fun _ _ _ => rfl) (?_ : wpv K_X8_back d P 88 [some (4, (p0 : Int)), some (0, x1), some (0, x2)] [(0, 0)] G R V6)
    refine wp_sto (i := (.istore_n 2)) _ rfl rfl (fun _ => rfl) rfl rfl rfl ?_
    refine wp_wk (L' := [some (4, (p0 : Int)), some (0, x1), some (0, 0)]) (wk_s (wk_s (wk_s wk_0))) ?_
    show wpv K_X8_back d P 89 [some (4, (p0 : Int)), some (0, x1), some (0, 0)] [] G R V6
    exact wp_wk (wk_s (wk_s (wk_s wk_0))) w
  · have q : x2 < 960 := Decidable.not_not.mp q
    replace w := w.2 q
    show wpv K_X8_back d P 43 [some (4, (p0 : Int)), some (0, x1), some (0, x2)] [] G R V
    refine wp_ld (i := (.aload_n 0)) (4, (p0 : Int)) rfl rfl (fun _ => rfl) rfl rfl (?_ : wpv K_X8_back d P 44 [some (4, (p0 : Int)), some (0, x1), some (0, x2)] [(4, (p0 : Int))] G R V)
    refine wp_getA (k := 25) rfl rfl rfl (ly8_o l0) rfl rfl (ly8_25 l0).1 (?_ : wpv K_X8_back d P 47 [some (4, (p0 : Int)), some (0, x1), some (0, x2)] [(4, ((p0 + 20 : Nat) : Int))] G R V)
    refine wp_ld (i := (.iload_n 2)) (0, x2) rfl rfl (fun _ => rfl) rfl rfl (?_ : wpv K_X8_back d P 48 [some (4, (p0 : Int)), some (0, x1), some (0, x2)] [(0, x2), (4, ((p0 + 20 : Nat) : Int))] G R V)
    refine wp_ld (i := (.aload_n 0)) (4, (p0 : Int)) rfl rfl (fun _ => rfl) rfl rfl (?_ : wpv K_X8_back d P 49 [some (4, (p0 : Int)), some (0, x1), some (0, x2)] [(4, (p0 : Int)), (0, x2), (4, ((p0 + 20 : Nat) : Int))] G R V)
    refine wp_getA (k := 41) rfl rfl rfl (ly8_o l0) rfl rfl (ly8_41 l0).1 (?_ : wpv K_X8_back d P 52 [some (4, (p0 : Int)), some (0, x1), some (0, x2)] [(4, ((p0 + 31 : Nat) : Int)), (0, x2), (4, ((p0 + 20 : Nat) : Int))] G R V)
    refine wp_p (i := (.sipush 960)) rfl rfl (fun _ _ _ => rfl) (?_ : wpv K_X8_back d P 55 [some (4, (p0 : Int)), some (0, x1), some (0, x2)] [(0, 960), (4, ((p0 + 31 : Nat) : Int)), (0, x2), (4, ((p0 + 20 : Nat) : Int))] G R V)
    refine wp_ld (i := (.iload_n 1)) (0, x1) rfl rfl (fun _ => rfl) rfl rfl (?_ : wpv K_X8_back d P 56 [some (4, (p0 : Int)), some (0, x1), some (0, x2)] [(0, x1), (0, 960), (4, ((p0 + 31 : Nat) : Int)), (0, x2), (4, ((p0 + 20 : Nat) : Int))] G R V)
    obtain ⟨s7, w⟩ := w
    refine wp_xmul rfl rfl s7 (?_ : wpv K_X8_back d P 57 [some (4, (p0 : Int)), some (0, x1), some (0, x2)] [(0, (960 * x1)), (4, ((p0 + 31 : Nat) : Int)), (0, x2), (4, ((p0 + 20 : Nat) : Int))] G R V)
    refine wp_ld (i := (.iload_n 2)) (0, x2) rfl rfl (fun _ => rfl) rfl rfl (?_ : wpv K_X8_back d P 58 [some (4, (p0 : Int)), some (0, x1), some (0, x2)] [(0, x2), (0, (960 * x1)), (4, ((p0 + 31 : Nat) : Int)), (0, x2), (4, ((p0 + 20 : Nat) : Int))] G R V)
    obtain ⟨s8, w⟩ := w
    refine wp_xadd rfl rfl s8 (?_ : wpv K_X8_back d P 59 [some (4, (p0 : Int)), some (0, x1), some (0, x2)] [(0, ((960 * x1) + x2)), (4, ((p0 + 31 : Nat) : Int)), (0, x2), (4, ((p0 + 20 : Nat) : Int))] G R V)
    obtain ⟨s9, w⟩ := w
    refine wp_rng (fun vr10 => ?_)
    have f11 : i32 (V (p0 + 31) (((960 * x1) + x2))) := vr_a0 vr10 (ly8_41 l0).2 s9
    replace w := w f11
    refine wp_aI rfl rfl (ly8_41 l0).2 s9 (?_ : wpv K_X8_back d P 60 [some (4, (p0 : Int)), some (0, x1), some (0, x2)] [(0, (V (p0 + 31) (((960 * x1) + x2)))), (0, x2), (4, ((p0 + 20 : Nat) : Int))] G R V)
    obtain ⟨s12, w⟩ := w
    refine wp_sI rfl rfl (ly8_25 l0).2 s12 f11 (?_ : wpv K_X8_back d P 61 [some (4, (p0 : Int)), some (0, x1), some (0, x2)] [] G R (wr V (p0 + 20) x2 ((V (p0 + 31) (((960 * x1) + x2))))))
    obtain ⟨s13, w⟩ := w
    refine wp_inc (x := 2) (k := 1) (a := x2) (c := (x2 + 1)) _ rfl rfl rfl rfl s13 (by omega) rfl ?_
    show wpv K_X8_back d P 64 [some (4, (p0 : Int)), some (0, x1), some (0, (x2 + 1))] [] G R (wr V (p0 + 20) x2 ((V (p0 + 31) (((960 * x1) + x2)))))
    refine wp_go 36 rfl rfl rfl (?_ : wpv K_X8_back d P 36 [some (4, (p0 : Int)), some (0, x1), some (0, (x2 + 1))] [] G R (wr V (p0 + 20) x2 ((V (p0 + 31) (((960 * x1) + x2))))))
    exact wp_wk (wk_s (wk_s (wk_s wk_0))) w

theorem t_X8_back_89 {d : Nat} {P : gP} {p0 : Nat} {x1 : Int} {x2 : Int} {G : List gS} {R V : gV} (l0 : lay8 G R p0) (w : ((i32 x2) ∧ (((¬ x2 < 8) → wpv K_X8_back d P 120 [some (4, (p0 : Int)), some (0, x1), some (0, 0)] [] G R V) ∧ ((x2 < 8) → ((i32 (8 * x1)) ∧ ((i32 ((8 * x1) + x2)) ∧ ((0 ≤ ((8 * x1) + x2) ∧ ((8 * x1) + x2) < 24) ∧ (((V (p0 + 32) (((8 * x1) + x2))) = 0 ∨ (V (p0 + 32) (((8 * x1) + x2))) = 1) → ((0 ≤ x2 ∧ x2 < 8) ∧ ((i32 (x2 + 1)) ∧ wpv K_X8_back d P 89 [some (4, (p0 : Int)), some (0, x1), some (0, (x2 + 1))] [] G R (wr V (p0 + 21) x2 ((V (p0 + 32) (((8 * x1) + x2))))))))))))))) : wpv K_X8_back d P 89 [some (4, (p0 : Int)), some (0, x1), some (0, x2)] [] G R V := by
  refine wp_ld (i := (.iload_n 2)) (0, x2) rfl rfl (fun _ => rfl) rfl rfl (?_ : wpv K_X8_back d P 90 [some (4, (p0 : Int)), some (0, x1), some (0, x2)] [(0, x2)] G R V)
  refine wp_p (i := (.bipush 8)) rfl rfl (fun _ _ _ => rfl) (?_ : wpv K_X8_back d P 92 [some (4, (p0 : Int)), some (0, x1), some (0, x2)] [(0, 8), (0, x2)] G R V)
  obtain ⟨s1, w⟩ := w
  refine wp_icmp (c := .ge) 118 rfl rfl rfl s1 ⟨by omega, by omega⟩ (fun q => ?_) (fun q => ?_)
  · have q : ¬ x2 < 8 := q
    replace w := w.1 q
    show wpv K_X8_back d P 118 [some (4, (p0 : Int)), some (0, x1), some (0, x2)] [] G R V
    refine wp_p (i := (.iconst 0)) rfl rfl (fun _ _ _ => rfl) (?_ : wpv K_X8_back d P 119 [some (4, (p0 : Int)), some (0, x1), some (0, x2)] [(0, 0)] G R V)
    refine wp_sto (i := (.istore_n 2)) _ rfl rfl (fun _ => rfl) rfl rfl rfl ?_
    refine wp_wk (L' := [some (4, (p0 : Int)), some (0, x1), some (0, 0)]) (wk_s (wk_s (wk_s wk_0))) ?_
    show wpv K_X8_back d P 120 [some (4, (p0 : Int)), some (0, x1), some (0, 0)] [] G R V
    exact wp_wk (wk_s (wk_s (wk_s wk_0))) w
  · have q : x2 < 8 := Decidable.not_not.mp q
    replace w := w.2 q
    show wpv K_X8_back d P 95 [some (4, (p0 : Int)), some (0, x1), some (0, x2)] [] G R V
    refine wp_ld (i := (.aload_n 0)) (4, (p0 : Int)) rfl rfl (fun _ => rfl) rfl rfl (?_ : wpv K_X8_back d P 96 [some (4, (p0 : Int)), some (0, x1), some (0, x2)] [(4, (p0 : Int))] G R V)
    refine wp_getA (k := 28) rfl rfl rfl (ly8_o l0) rfl rfl (ly8_28 l0).1 (?_ : wpv K_X8_back d P 99 [some (4, (p0 : Int)), some (0, x1), some (0, x2)] [(4, ((p0 + 21 : Nat) : Int))] G R V)
    refine wp_ld (i := (.iload_n 2)) (0, x2) rfl rfl (fun _ => rfl) rfl rfl (?_ : wpv K_X8_back d P 100 [some (4, (p0 : Int)), some (0, x1), some (0, x2)] [(0, x2), (4, ((p0 + 21 : Nat) : Int))] G R V)
    refine wp_ld (i := (.aload_n 0)) (4, (p0 : Int)) rfl rfl (fun _ => rfl) rfl rfl (?_ : wpv K_X8_back d P 101 [some (4, (p0 : Int)), some (0, x1), some (0, x2)] [(4, (p0 : Int)), (0, x2), (4, ((p0 + 21 : Nat) : Int))] G R V)
    refine wp_getA (k := 42) rfl rfl rfl (ly8_o l0) rfl rfl (ly8_42 l0).1 (?_ : wpv K_X8_back d P 104 [some (4, (p0 : Int)), some (0, x1), some (0, x2)] [(4, ((p0 + 32 : Nat) : Int)), (0, x2), (4, ((p0 + 21 : Nat) : Int))] G R V)
    refine wp_p (i := (.bipush 8)) rfl rfl (fun _ _ _ => rfl) (?_ : wpv K_X8_back d P 106 [some (4, (p0 : Int)), some (0, x1), some (0, x2)] [(0, 8), (4, ((p0 + 32 : Nat) : Int)), (0, x2), (4, ((p0 + 21 : Nat) : Int))] G R V)
    refine wp_ld (i := (.iload_n 1)) (0, x1) rfl rfl (fun _ => rfl) rfl rfl (?_ : wpv K_X8_back d P 107 [some (4, (p0 : Int)), some (0, x1), some (0, x2)] [(0, x1), (0, 8), (4, ((p0 + 32 : Nat) : Int)), (0, x2), (4, ((p0 + 21 : Nat) : Int))] G R V)
    obtain ⟨s2, w⟩ := w
    refine wp_xmul rfl rfl s2 (?_ : wpv K_X8_back d P 108 [some (4, (p0 : Int)), some (0, x1), some (0, x2)] [(0, (8 * x1)), (4, ((p0 + 32 : Nat) : Int)), (0, x2), (4, ((p0 + 21 : Nat) : Int))] G R V)
    refine wp_ld (i := (.iload_n 2)) (0, x2) rfl rfl (fun _ => rfl) rfl rfl (?_ : wpv K_X8_back d P 109 [some (4, (p0 : Int)), some (0, x1), some (0, x2)] [(0, x2), (0, (8 * x1)), (4, ((p0 + 32 : Nat) : Int)), (0, x2), (4, ((p0 + 21 : Nat) : Int))] G R V)
    obtain ⟨s3, w⟩ := w
    refine wp_xadd rfl rfl s3 (?_ : wpv K_X8_back d P 110 [some (4, (p0 : Int)), some (0, x1), some (0, x2)] [(0, ((8 * x1) + x2)), (4, ((p0 + 32 : Nat) : Int)), (0, x2), (4, ((p0 + 21 : Nat) : Int))] G R V)
    obtain ⟨s4, w⟩ := w
    refine wp_rng (fun vr5 => ?_)
    have f6 : (V (p0 + 32) (((8 * x1) + x2))) = 0 ∨ (V (p0 + 32) (((8 * x1) + x2))) = 1 := vr_a2 vr5 (ly8_42 l0).2 s4
    replace w := w f6
    have f7 : i32 (V (p0 + 32) (((8 * x1) + x2))) := by unfold i32; omega
    refine wp_aB rfl rfl (ly8_42 l0).2 s4 (?_ : wpv K_X8_back d P 111 [some (4, (p0 : Int)), some (0, x1), some (0, x2)] [(0, (V (p0 + 32) (((8 * x1) + x2)))), (0, x2), (4, ((p0 + 21 : Nat) : Int))] G R V)
    obtain ⟨s8, w⟩ := w
    refine wp_sB rfl rfl (ly8_28 l0).2 s8 f6 (?_ : wpv K_X8_back d P 112 [some (4, (p0 : Int)), some (0, x1), some (0, x2)] [] G R (wr V (p0 + 21) x2 ((V (p0 + 32) (((8 * x1) + x2))))))
    obtain ⟨s9, w⟩ := w
    refine wp_inc (x := 2) (k := 1) (a := x2) (c := (x2 + 1)) _ rfl rfl rfl rfl s9 (by omega) rfl ?_
    show wpv K_X8_back d P 115 [some (4, (p0 : Int)), some (0, x1), some (0, (x2 + 1))] [] G R (wr V (p0 + 21) x2 ((V (p0 + 32) (((8 * x1) + x2)))))
    refine wp_go 89 rfl rfl rfl (?_ : wpv K_X8_back d P 89 [some (4, (p0 : Int)), some (0, x1), some (0, (x2 + 1))] [] G R (wr V (p0 + 21) x2 ((V (p0 + 32) (((8 * x1) + x2))))))
    exact wp_wk (wk_s (wk_s (wk_s wk_0))) w

theorem t_X8_back_120 {d : Nat} {P : gP} {p0 : Nat} {x1 : Int} {x2 : Int} {G : List gS} {R V : gV} (l0 : lay8 G R p0) (w : ((i32 x2) ∧ (((¬ x2 < 2400) → ((0 ≤ x1 ∧ x1 < 3) ∧ ((i32 (V (p0 + 34) x1)) → wpv K_X8_back d P 163 [some (4, (p0 : Int)), some (0, x1), some (0, 0)] [] G R (wr V p0 35 ((V (p0 + 34) x1)))))) ∧ ((x2 < 2400) → ((i32 (2400 * x1)) ∧ ((i32 ((2400 * x1) + x2)) ∧ ((0 ≤ ((2400 * x1) + x2) ∧ ((2400 * x1) + x2) < 7200) ∧ ((i64 (V (p0 + 33) (((2400 * x1) + x2)))) → ((0 ≤ x2 ∧ x2 < 2400) ∧ ((i32 (x2 + 1)) ∧ wpv K_X8_back d P 120 [some (4, (p0 : Int)), some (0, x1), some (0, (x2 + 1))] [] G R (wr V (p0 + 22) x2 ((V (p0 + 33) (((2400 * x1) + x2))))))))))))))) : wpv K_X8_back d P 120 [some (4, (p0 : Int)), some (0, x1), some (0, x2)] [] G R V := by
  refine wp_ld (i := (.iload_n 2)) (0, x2) rfl rfl (fun _ => rfl) rfl rfl (?_ : wpv K_X8_back d P 121 [some (4, (p0 : Int)), some (0, x1), some (0, x2)] [(0, x2)] G R V)
  refine wp_p (i := (.sipush 2400)) rfl rfl (fun _ _ _ => rfl) (?_ : wpv K_X8_back d P 124 [some (4, (p0 : Int)), some (0, x1), some (0, x2)] [(0, 2400), (0, x2)] G R V)
  obtain ⟨s1, w⟩ := w
  refine wp_icmp (c := .ge) 151 rfl rfl rfl s1 ⟨by omega, by omega⟩ (fun q => ?_) (fun q => ?_)
  · have q : ¬ x2 < 2400 := q
    replace w := w.1 q
    show wpv K_X8_back d P 151 [some (4, (p0 : Int)), some (0, x1), some (0, x2)] [] G R V
    refine wp_ld (i := (.aload_n 0)) (4, (p0 : Int)) rfl rfl (fun _ => rfl) rfl rfl (?_ : wpv K_X8_back d P 152 [some (4, (p0 : Int)), some (0, x1), some (0, x2)] [(4, (p0 : Int))] G R V)
    refine wp_ld (i := (.aload_n 0)) (4, (p0 : Int)) rfl rfl (fun _ => rfl) rfl rfl (?_ : wpv K_X8_back d P 153 [some (4, (p0 : Int)), some (0, x1), some (0, x2)] [(4, (p0 : Int)), (4, (p0 : Int))] G R V)
    refine wp_getA (k := 44) rfl rfl rfl (ly8_o l0) rfl rfl (ly8_44 l0).1 (?_ : wpv K_X8_back d P 156 [some (4, (p0 : Int)), some (0, x1), some (0, x2)] [(4, ((p0 + 34 : Nat) : Int)), (4, (p0 : Int))] G R V)
    refine wp_ld (i := (.iload_n 1)) (0, x1) rfl rfl (fun _ => rfl) rfl rfl (?_ : wpv K_X8_back d P 157 [some (4, (p0 : Int)), some (0, x1), some (0, x2)] [(0, x1), (4, ((p0 + 34 : Nat) : Int)), (4, (p0 : Int))] G R V)
    obtain ⟨s2, w⟩ := w
    refine wp_rng (fun vr3 => ?_)
    have f4 : i32 (V (p0 + 34) x1) := vr_a0 vr3 (ly8_44 l0).2 s2
    replace w := w f4
    refine wp_aI rfl rfl (ly8_44 l0).2 s2 (?_ : wpv K_X8_back d P 158 [some (4, (p0 : Int)), some (0, x1), some (0, x2)] [(0, (V (p0 + 34) x1)), (4, (p0 : Int))] G R V)
    refine wp_putI (k := 35) rfl rfl rfl (ly8_o l0) rfl rfl rfl f4 (?_ : wpv K_X8_back d P 161 [some (4, (p0 : Int)), some (0, x1), some (0, x2)] [] G R (wr V p0 35 ((V (p0 + 34) x1))))
    refine wp_p (i := (.iconst 0)) rfl rfl (fun _ _ _ => rfl) (?_ : wpv K_X8_back d P 162 [some (4, (p0 : Int)), some (0, x1), some (0, x2)] [(0, 0)] G R (wr V p0 35 ((V (p0 + 34) x1))))
    refine wp_sto (i := (.istore_n 2)) _ rfl rfl (fun _ => rfl) rfl rfl rfl ?_
    refine wp_wk (L' := [some (4, (p0 : Int)), some (0, x1), some (0, 0)]) (wk_s (wk_s (wk_s wk_0))) ?_
    show wpv K_X8_back d P 163 [some (4, (p0 : Int)), some (0, x1), some (0, 0)] [] G R (wr V p0 35 ((V (p0 + 34) x1)))
    exact wp_wk (wk_s (wk_s (wk_s wk_0))) w
  · have q : x2 < 2400 := Decidable.not_not.mp q
    replace w := w.2 q
    show wpv K_X8_back d P 127 [some (4, (p0 : Int)), some (0, x1), some (0, x2)] [] G R V
    refine wp_ld (i := (.aload_n 0)) (4, (p0 : Int)) rfl rfl (fun _ => rfl) rfl rfl (?_ : wpv K_X8_back d P 128 [some (4, (p0 : Int)), some (0, x1), some (0, x2)] [(4, (p0 : Int))] G R V)
    refine wp_getA (k := 29) rfl rfl rfl (ly8_o l0) rfl rfl (ly8_29 l0).1 (?_ : wpv K_X8_back d P 131 [some (4, (p0 : Int)), some (0, x1), some (0, x2)] [(4, ((p0 + 22 : Nat) : Int))] G R V)
    refine wp_ld (i := (.iload_n 2)) (0, x2) rfl rfl (fun _ => rfl) rfl rfl (?_ : wpv K_X8_back d P 132 [some (4, (p0 : Int)), some (0, x1), some (0, x2)] [(0, x2), (4, ((p0 + 22 : Nat) : Int))] G R V)
    refine wp_ld (i := (.aload_n 0)) (4, (p0 : Int)) rfl rfl (fun _ => rfl) rfl rfl (?_ : wpv K_X8_back d P 133 [some (4, (p0 : Int)), some (0, x1), some (0, x2)] [(4, (p0 : Int)), (0, x2), (4, ((p0 + 22 : Nat) : Int))] G R V)
    refine wp_getA (k := 43) rfl rfl rfl (ly8_o l0) rfl rfl (ly8_43 l0).1 (?_ : wpv K_X8_back d P 136 [some (4, (p0 : Int)), some (0, x1), some (0, x2)] [(4, ((p0 + 33 : Nat) : Int)), (0, x2), (4, ((p0 + 22 : Nat) : Int))] G R V)
    refine wp_p (i := (.sipush 2400)) rfl rfl (fun _ _ _ => rfl) (?_ : wpv K_X8_back d P 139 [some (4, (p0 : Int)), some (0, x1), some (0, x2)] [(0, 2400), (4, ((p0 + 33 : Nat) : Int)), (0, x2), (4, ((p0 + 22 : Nat) : Int))] G R V)
    refine wp_ld (i := (.iload_n 1)) (0, x1) rfl rfl (fun _ => rfl) rfl rfl (?_ : wpv K_X8_back d P 140 [some (4, (p0 : Int)), some (0, x1), some (0, x2)] [(0, x1), (0, 2400), (4, ((p0 + 33 : Nat) : Int)), (0, x2), (4, ((p0 + 22 : Nat) : Int))] G R V)
    obtain ⟨s5, w⟩ := w
    refine wp_xmul rfl rfl s5 (?_ : wpv K_X8_back d P 141 [some (4, (p0 : Int)), some (0, x1), some (0, x2)] [(0, (2400 * x1)), (4, ((p0 + 33 : Nat) : Int)), (0, x2), (4, ((p0 + 22 : Nat) : Int))] G R V)
    refine wp_ld (i := (.iload_n 2)) (0, x2) rfl rfl (fun _ => rfl) rfl rfl (?_ : wpv K_X8_back d P 142 [some (4, (p0 : Int)), some (0, x1), some (0, x2)] [(0, x2), (0, (2400 * x1)), (4, ((p0 + 33 : Nat) : Int)), (0, x2), (4, ((p0 + 22 : Nat) : Int))] G R V)
    obtain ⟨s6, w⟩ := w
    refine wp_xadd rfl rfl s6 (?_ : wpv K_X8_back d P 143 [some (4, (p0 : Int)), some (0, x1), some (0, x2)] [(0, ((2400 * x1) + x2)), (4, ((p0 + 33 : Nat) : Int)), (0, x2), (4, ((p0 + 22 : Nat) : Int))] G R V)
    obtain ⟨s7, w⟩ := w
    refine wp_rng (fun vr8 => ?_)
    have f9 : i64 (V (p0 + 33) (((2400 * x1) + x2))) := vr_a1 vr8 (ly8_43 l0).2 s7
    replace w := w f9
    refine wp_aJ rfl rfl (ly8_43 l0).2 s7 (?_ : wpv K_X8_back d P 144 [some (4, (p0 : Int)), some (0, x1), some (0, x2)] [(2, (V (p0 + 33) (((2400 * x1) + x2)))), (0, x2), (4, ((p0 + 22 : Nat) : Int))] G R V)
    obtain ⟨s10, w⟩ := w
    refine wp_sJ rfl rfl (ly8_29 l0).2 s10 f9 (?_ : wpv K_X8_back d P 145 [some (4, (p0 : Int)), some (0, x1), some (0, x2)] [] G R (wr V (p0 + 22) x2 ((V (p0 + 33) (((2400 * x1) + x2))))))
    obtain ⟨s11, w⟩ := w
    refine wp_inc (x := 2) (k := 1) (a := x2) (c := (x2 + 1)) _ rfl rfl rfl rfl s11 (by omega) rfl ?_
    show wpv K_X8_back d P 148 [some (4, (p0 : Int)), some (0, x1), some (0, (x2 + 1))] [] G R (wr V (p0 + 22) x2 ((V (p0 + 33) (((2400 * x1) + x2)))))
    refine wp_go 120 rfl rfl rfl (?_ : wpv K_X8_back d P 120 [some (4, (p0 : Int)), some (0, x1), some (0, (x2 + 1))] [] G R (wr V (p0 + 22) x2 ((V (p0 + 33) (((2400 * x1) + x2))))))
    exact wp_wk (wk_s (wk_s (wk_s wk_0))) w

theorem t_X8_back_163 {d : Nat} {P : gP} {p0 : Nat} {x1 : Int} {x2 : Int} {G : List gS} {R V : gV} (l0 : lay8 G R p0) (w : ((i32 x2) ∧ (((¬ x2 < 300) → cwv d (fun r V2 => ∃ v3 : Int, r = some (0, v3) ∧ P (some (0, v3)) V2) 160 [(4, (p0 : Int)), (0, 0)] G R V) ∧ ((x2 < 300) → ((i32 (300 * x1)) ∧ ((i32 ((300 * x1) + x2)) ∧ ((0 ≤ ((300 * x1) + x2) ∧ ((300 * x1) + x2) < 900) ∧ ((i64 (V (p0 + 35) (((300 * x1) + x2)))) → ((0 ≤ x2 ∧ x2 < 300) ∧ ((i32 (x2 + 1)) ∧ wpv K_X8_back d P 163 [some (4, (p0 : Int)), some (0, x1), some (0, (x2 + 1))] [] G R (wr V (p0 + 27) x2 ((V (p0 + 35) (((300 * x1) + x2))))))))))))))) : wpv K_X8_back d P 163 [some (4, (p0 : Int)), some (0, x1), some (0, x2)] [] G R V := by
  refine wp_ld (i := (.iload_n 2)) (0, x2) rfl rfl (fun _ => rfl) rfl rfl (?_ : wpv K_X8_back d P 164 [some (4, (p0 : Int)), some (0, x1), some (0, x2)] [(0, x2)] G R V)
  refine wp_p (i := (.sipush 300)) rfl rfl (fun _ _ _ => rfl) (?_ : wpv K_X8_back d P 167 [some (4, (p0 : Int)), some (0, x1), some (0, x2)] [(0, 300), (0, x2)] G R V)
  obtain ⟨s1, w⟩ := w
  refine wp_icmp (c := .ge) 194 rfl rfl rfl s1 ⟨by omega, by omega⟩ (fun q => ?_) (fun q => ?_)
  · have q : ¬ x2 < 300 := q
    replace w := w.1 q
    show wpv K_X8_back d P 194 [some (4, (p0 : Int)), some (0, x1), some (0, x2)] [] G R V
    refine wp_ld (i := (.aload_n 0)) (4, (p0 : Int)) rfl rfl (fun _ => rfl) rfl rfl (?_ : wpv K_X8_back d P 195 [some (4, (p0 : Int)), some (0, x1), some (0, x2)] [(4, (p0 : Int))] G R V)
    refine wp_p (i := (.iconst 0)) rfl rfl (fun _ _ _ => rfl) (?_ : wpv K_X8_back d P 196 [some (4, (p0 : Int)), some (0, x1), some (0, x2)] [(0, 0), (4, (p0 : Int))] G R V)
    refine wp_virt (as := [(0, 0)]) (a := p0) (st := []) _ rfl rfl rfl rfl rfl rfl (ly8_o l0) (Nat.le_of_ble_eq_true rfl) (cwv_kI w (fun v3 V2 w => ?_))
    show wpv K_X8_back d P 199 [some (4, (p0 : Int)), some (0, x1), some (0, x2)] [(0, v3)] G R V2
    exact wp_rI rfl rfl rfl w
  · have q : x2 < 300 := Decidable.not_not.mp q
    replace w := w.2 q
    show wpv K_X8_back d P 170 [some (4, (p0 : Int)), some (0, x1), some (0, x2)] [] G R V
    refine wp_ld (i := (.aload_n 0)) (4, (p0 : Int)) rfl rfl (fun _ => rfl) rfl rfl (?_ : wpv K_X8_back d P 171 [some (4, (p0 : Int)), some (0, x1), some (0, x2)] [(4, (p0 : Int))] G R V)
    refine wp_getA (k := 36) rfl rfl rfl (ly8_o l0) rfl rfl (ly8_36 l0).1 (?_ : wpv K_X8_back d P 174 [some (4, (p0 : Int)), some (0, x1), some (0, x2)] [(4, ((p0 + 27 : Nat) : Int))] G R V)
    refine wp_ld (i := (.iload_n 2)) (0, x2) rfl rfl (fun _ => rfl) rfl rfl (?_ : wpv K_X8_back d P 175 [some (4, (p0 : Int)), some (0, x1), some (0, x2)] [(0, x2), (4, ((p0 + 27 : Nat) : Int))] G R V)
    refine wp_ld (i := (.aload_n 0)) (4, (p0 : Int)) rfl rfl (fun _ => rfl) rfl rfl (?_ : wpv K_X8_back d P 176 [some (4, (p0 : Int)), some (0, x1), some (0, x2)] [(4, (p0 : Int)), (0, x2), (4, ((p0 + 27 : Nat) : Int))] G R V)
    refine wp_getA (k := 45) rfl rfl rfl (ly8_o l0) rfl rfl (ly8_45 l0).1 (?_ : wpv K_X8_back d P 179 [some (4, (p0 : Int)), some (0, x1), some (0, x2)] [(4, ((p0 + 35 : Nat) : Int)), (0, x2), (4, ((p0 + 27 : Nat) : Int))] G R V)
    refine wp_p (i := (.sipush 300)) rfl rfl (fun _ _ _ => rfl) (?_ : wpv K_X8_back d P 182 [some (4, (p0 : Int)), some (0, x1), some (0, x2)] [(0, 300), (4, ((p0 + 35 : Nat) : Int)), (0, x2), (4, ((p0 + 27 : Nat) : Int))] G R V)
    refine wp_ld (i := (.iload_n 1)) (0, x1) rfl rfl (fun _ => rfl) rfl rfl (?_ : wpv K_X8_back d P 183 [some (4, (p0 : Int)), some (0, x1), some (0, x2)] [(0, x1), (0, 300), (4, ((p0 + 35 : Nat) : Int)), (0, x2), (4, ((p0 + 27 : Nat) : Int))] G R V)
    obtain ⟨s4, w⟩ := w
    refine wp_xmul rfl rfl s4 (?_ : wpv K_X8_back d P 184 [some (4, (p0 : Int)), some (0, x1), some (0, x2)] [(0, (300 * x1)), (4, ((p0 + 35 : Nat) : Int)), (0, x2), (4, ((p0 + 27 : Nat) : Int))] G R V)
    refine wp_ld (i := (.iload_n 2)) (0, x2) rfl rfl (fun _ => rfl) rfl rfl (?_ : wpv K_X8_back d P 185 [some (4, (p0 : Int)), some (0, x1), some (0, x2)] [(0, x2), (0, (300 * x1)), (4, ((p0 + 35 : Nat) : Int)), (0, x2), (4, ((p0 + 27 : Nat) : Int))] G R V)
    obtain ⟨s5, w⟩ := w
    refine wp_xadd rfl rfl s5 (?_ : wpv K_X8_back d P 186 [some (4, (p0 : Int)), some (0, x1), some (0, x2)] [(0, ((300 * x1) + x2)), (4, ((p0 + 35 : Nat) : Int)), (0, x2), (4, ((p0 + 27 : Nat) : Int))] G R V)
    obtain ⟨s6, w⟩ := w
    refine wp_rng (fun vr7 => ?_)
    have f8 : i64 (V (p0 + 35) (((300 * x1) + x2))) := vr_a1 vr7 (ly8_45 l0).2 s6
    replace w := w f8
    refine wp_aJ rfl rfl (ly8_45 l0).2 s6 (?_ : wpv K_X8_back d P 187 [some (4, (p0 : Int)), some (0, x1), some (0, x2)] [(2, (V (p0 + 35) (((300 * x1) + x2)))), (0, x2), (4, ((p0 + 27 : Nat) : Int))] G R V)
    obtain ⟨s9, w⟩ := w
    refine wp_sJ rfl rfl (ly8_36 l0).2 s9 f8 (?_ : wpv K_X8_back d P 188 [some (4, (p0 : Int)), some (0, x1), some (0, x2)] [] G R (wr V (p0 + 27) x2 ((V (p0 + 35) (((300 * x1) + x2))))))
    obtain ⟨s10, w⟩ := w
    refine wp_inc (x := 2) (k := 1) (a := x2) (c := (x2 + 1)) _ rfl rfl rfl rfl s10 (by omega) rfl ?_
    show wpv K_X8_back d P 191 [some (4, (p0 : Int)), some (0, x1), some (0, (x2 + 1))] [] G R (wr V (p0 + 27) x2 ((V (p0 + 35) (((300 * x1) + x2)))))
    refine wp_go 163 rfl rfl rfl (?_ : wpv K_X8_back d P 163 [some (4, (p0 : Int)), some (0, x1), some (0, (x2 + 1))] [] G R (wr V (p0 + 27) x2 ((V (p0 + 35) (((300 * x1) + x2))))))
    exact wp_wk (wk_s (wk_s (wk_s wk_0))) w
theorem t_X8_status_0 {d : Nat} {P : gP} {p0 : Nat} {G : List gS} {R V : gV} (l0 : lay8 G R p0) (w : ((i32 (V p0 0)) → P (some (0, (V p0 0))) V)) : wpv K_X8_status d P 0 [some (4, (p0 : Int))] [] G R V := by
  refine wp_ld (i := (.aload_n 0)) (4, (p0 : Int)) rfl rfl (fun _ => rfl) rfl rfl (?_ : wpv K_X8_status d P 1 [some (4, (p0 : Int))] [(4, (p0 : Int))] G R V)
  refine wp_rng (fun vr1 => ?_)
  have f2 : i32 (V p0 0) := vr_f0 vr1 (ly8_o l0) rfl rfl
  replace w := w f2
  refine wp_getI (k := 0) rfl rfl rfl (ly8_o l0) rfl rfl (?_ : wpv K_X8_status d P 4 [some (4, (p0 : Int))] [(0, (V p0 0))] G R V)
  exact wp_rI rfl rfl rfl w
theorem t_X0_takeCoset_0 {d : Nat} {P : gP} {p0 : Nat} {p1 : Nat} {x2 : Int} {G : List gS} {R V : gV} (l0 : lay0 G R p0) (l1 : lay4 G R p1) (w : wpv K_X0_takeCoset d P 2 [some (4, (p0 : Int)), some (4, (p1 : Int)), some (0, x2), some (0, 0)] [] G R V) : wpv K_X0_takeCoset d P 0 [some (4, (p0 : Int)), some (4, (p1 : Int)), some (0, x2)] [] G R V := by
  refine wp_p (i := (.iconst 0)) rfl rfl (fun _ _ _ => rfl) (?_ : wpv K_X0_takeCoset d P 1 [some (4, (p0 : Int)), some (4, (p1 : Int)), some (0, x2)] [(0, 0)] G R V)
  refine wp_sto (i := (.istore_n 3)) _ rfl rfl (fun _ => rfl) rfl rfl rfl ?_
  refine wp_wk (L' := [some (4, (p0 : Int)), some (4, (p1 : Int)), some (0, x2), some (0, 0)]) (wk_s (wk_s (wk_s (wk_s wk_0)))) ?_
  show wpv K_X0_takeCoset d P 2 [some (4, (p0 : Int)), some (4, (p1 : Int)), some (0, x2), some (0, 0)] [] G R V
  exact wp_wk (wk_s (wk_s (wk_s (wk_s wk_0)))) w

theorem t_X0_takeCoset_2 {d : Nat} {P : gP} {p0 : Nat} {p1 : Nat} {x2 : Int} {x3 : Int} {G : List gS} {R V : gV} (l0 : lay0 G R p0) (l1 : lay4 G R p1) (w : ((i32 (V p1 1)) → ((i32 x3) ∧ (((¬ x3 < (V p1 1)) → P none V) ∧ ((x3 < (V p1 1)) → ((i32 x2) ∧ (((¬ x3 = x2) → ((0 ≤ x3 ∧ x3 < 300) ∧ cwv d (fun r V6 => ∃ v7 : Int, r = some (0, v7) ∧ ((i32 v7) ∧ ((i32 (x3 + 1)) ∧ wpv K_X0_takeCoset d P 2 [some (4, (p0 : Int)), some (4, (p1 : Int)), some (0, x2), some (0, (x3 + 1))] [] G R (wr V6 (p0 + 1) x3 v7)))) 71 [(4, (p1 : Int)), (0, x2), (0, x3)] G R (wr V (p0 + 2) x3 0))) ∧ ((x3 = x2) → ((0 ≤ x3 ∧ x3 < 300) ∧ cwv d (fun r V11 => ∃ v12 : Int, r = some (0, v12) ∧ ((i32 v12) ∧ ((i32 (x3 + 1)) ∧ wpv K_X0_takeCoset d P 2 [some (4, (p0 : Int)), some (4, (p1 : Int)), some (0, x2), some (0, (x3 + 1))] [] G R (wr V11 (p0 + 1) x3 v12)))) 71 [(4, (p1 : Int)), (0, x2), (0, x3)] G R (wr V (p0 + 2) x3 1)))))))))) : wpv K_X0_takeCoset d P 2 [some (4, (p0 : Int)), some (4, (p1 : Int)), some (0, x2), some (0, x3)] [] G R V := by
  refine wp_ld (i := (.iload_n 3)) (0, x3) rfl rfl (fun _ => rfl) rfl rfl (?_ : wpv K_X0_takeCoset d P 3 [some (4, (p0 : Int)), some (4, (p1 : Int)), some (0, x2), some (0, x3)] [(0, x3)] G R V)
  refine wp_ld (i := (.aload_n 1)) (4, (p1 : Int)) rfl rfl (fun _ => rfl) rfl rfl (?_ : wpv K_X0_takeCoset d P 4 [some (4, (p0 : Int)), some (4, (p1 : Int)), some (0, x2), some (0, x3)] [(4, (p1 : Int)), (0, x3)] G R V)
  refine wp_rng (fun vr1 => ?_)
  have f2 : i32 (V p1 1) := vr_f0 vr1 (ly4_o l1) rfl rfl
  replace w := w f2
  refine wp_getI (k := 1) rfl rfl rfl (ly4_o l1) rfl rfl (?_ : wpv K_X0_takeCoset d P 7 [some (4, (p0 : Int)), some (4, (p1 : Int)), some (0, x2), some (0, x3)] [(0, (V p1 1)), (0, x3)] G R V)
  obtain ⟨s3, w⟩ := w
  refine wp_icmp (c := .ge) 45 rfl rfl rfl s3 f2 (fun q => ?_) (fun q => ?_)
  · have q : ¬ x3 < (V p1 1) := q
    replace w := w.1 q
    show wpv K_X0_takeCoset d P 45 [some (4, (p0 : Int)), some (4, (p1 : Int)), some (0, x2), some (0, x3)] [] G R V
    exact wp_r0 rfl rfl rfl w
  · have q : x3 < (V p1 1) := Decidable.not_not.mp q
    replace w := w.2 q
    show wpv K_X0_takeCoset d P 10 [some (4, (p0 : Int)), some (4, (p1 : Int)), some (0, x2), some (0, x3)] [] G R V
    refine wp_ld (i := (.aload_n 0)) (4, (p0 : Int)) rfl rfl (fun _ => rfl) rfl rfl (?_ : wpv K_X0_takeCoset d P 11 [some (4, (p0 : Int)), some (4, (p1 : Int)), some (0, x2), some (0, x3)] [(4, (p0 : Int))] G R V)
    refine wp_getA (k := 1) rfl rfl rfl (ly0_o l0) rfl rfl (ly0_1 l0).1 (?_ : wpv K_X0_takeCoset d P 14 [some (4, (p0 : Int)), some (4, (p1 : Int)), some (0, x2), some (0, x3)] [(4, ((p0 + 2 : Nat) : Int))] G R V)
    refine wp_ld (i := (.iload_n 3)) (0, x3) rfl rfl (fun _ => rfl) rfl rfl (?_ : wpv K_X0_takeCoset d P 15 [some (4, (p0 : Int)), some (4, (p1 : Int)), some (0, x2), some (0, x3)] [(0, x3), (4, ((p0 + 2 : Nat) : Int))] G R V)
    refine wp_ld (i := (.iload_n 3)) (0, x3) rfl rfl (fun _ => rfl) rfl rfl (?_ : wpv K_X0_takeCoset d P 16 [some (4, (p0 : Int)), some (4, (p1 : Int)), some (0, x2), some (0, x3)] [(0, x3), (0, x3), (4, ((p0 + 2 : Nat) : Int))] G R V)
    refine wp_ld (i := (.iload_n 2)) (0, x2) rfl rfl (fun _ => rfl) rfl rfl (?_ : wpv K_X0_takeCoset d P 17 [some (4, (p0 : Int)), some (4, (p1 : Int)), some (0, x2), some (0, x3)] [(0, x2), (0, x3), (0, x3), (4, ((p0 + 2 : Nat) : Int))] G R V)
    obtain ⟨s4, w⟩ := w
    refine wp_icmp (c := .ne) 24 rfl rfl rfl s3 s4 (fun q => ?_) (fun q => ?_)
    · have q : ¬ x3 = x2 := q
      replace w := w.1 q
      show wpv K_X0_takeCoset d P 24 [some (4, (p0 : Int)), some (4, (p1 : Int)), some (0, x2), some (0, x3)] [(0, x3), (4, ((p0 + 2 : Nat) : Int))] G R V
      refine wp_p (i := (.lconst 0)) rfl rfl (fun _ _ _ => rfl) (?_ : wpv K_X0_takeCoset d P 25 [some (4, (p0 : Int)), some (4, (p1 : Int)), some (0, x2), some (0, x3)] [(2, 0), (0, x3), (4, ((p0 + 2 : Nat) : Int))] G R V)
      obtain ⟨s5, w⟩ := w
      refine wp_sJ rfl rfl (ly0_1 l0).2 s5 ⟨by omega, by omega⟩ (?_ : wpv K_X0_takeCoset d P 26 [some (4, (p0 : Int)), some (4, (p1 : Int)), some (0, x2), some (0, x3)] [] G R (wr V (p0 + 2) x3 0))
      refine wp_ld (i := (.aload_n 0)) (4, (p0 : Int)) rfl rfl (fun _ => rfl) rfl rfl (?_ : wpv K_X0_takeCoset d P 27 [some (4, (p0 : Int)), some (4, (p1 : Int)), some (0, x2), some (0, x3)] [(4, (p0 : Int))] G R (wr V (p0 + 2) x3 0))
      refine wp_getA (k := 0) rfl rfl rfl (ly0_o l0) rfl rfl (ly0_0 l0).1 (?_ : wpv K_X0_takeCoset d P 30 [some (4, (p0 : Int)), some (4, (p1 : Int)), some (0, x2), some (0, x3)] [(4, ((p0 + 1 : Nat) : Int))] G R (wr V (p0 + 2) x3 0))
      refine wp_ld (i := (.iload_n 3)) (0, x3) rfl rfl (fun _ => rfl) rfl rfl (?_ : wpv K_X0_takeCoset d P 31 [some (4, (p0 : Int)), some (4, (p1 : Int)), some (0, x2), some (0, x3)] [(0, x3), (4, ((p0 + 1 : Nat) : Int))] G R (wr V (p0 + 2) x3 0))
      refine wp_ld (i := (.aload_n 1)) (4, (p1 : Int)) rfl rfl (fun _ => rfl) rfl rfl (?_ : wpv K_X0_takeCoset d P 32 [some (4, (p0 : Int)), some (4, (p1 : Int)), some (0, x2), some (0, x3)] [(4, (p1 : Int)), (0, x3), (4, ((p0 + 1 : Nat) : Int))] G R (wr V (p0 + 2) x3 0))
      refine wp_ld (i := (.iload_n 2)) (0, x2) rfl rfl (fun _ => rfl) rfl rfl (?_ : wpv K_X0_takeCoset d P 33 [some (4, (p0 : Int)), some (4, (p1 : Int)), some (0, x2), some (0, x3)] [(0, x2), (4, (p1 : Int)), (0, x3), (4, ((p0 + 1 : Nat) : Int))] G R (wr V (p0 + 2) x3 0))
      refine wp_ld (i := (.iload_n 3)) (0, x3) rfl rfl (fun _ => rfl) rfl rfl (?_ : wpv K_X0_takeCoset d P 34 [some (4, (p0 : Int)), some (4, (p1 : Int)), some (0, x2), some (0, x3)] [(0, x3), (0, x2), (4, (p1 : Int)), (0, x3), (4, ((p0 + 1 : Nat) : Int))] G R (wr V (p0 + 2) x3 0))
      refine wp_virt (as := [(0, x2), (0, x3)]) (a := p1) (st := [(0, x3), (4, ((p0 + 1 : Nat) : Int))]) _ rfl rfl rfl rfl rfl rfl (ly4_o l1) (Nat.le_of_ble_eq_true rfl) (cwv_kI w (fun v7 V6 w => ?_))
      show wpv K_X0_takeCoset d P 37 [some (4, (p0 : Int)), some (4, (p1 : Int)), some (0, x2), some (0, x3)] [(0, v7), (0, x3), (4, ((p0 + 1 : Nat) : Int))] G R V6
      obtain ⟨s8, w⟩ := w
      refine wp_i2l rfl rfl s8 (?_ : wpv K_X0_takeCoset d P 38 [some (4, (p0 : Int)), some (4, (p1 : Int)), some (0, x2), some (0, x3)] [(2, v7), (0, x3), (4, ((p0 + 1 : Nat) : Int))] G R V6)
      refine wp_sJ rfl rfl (ly0_0 l0).2 s5 (i32_64 s8) (?_ : wpv K_X0_takeCoset d P 39 [some (4, (p0 : Int)), some (4, (p1 : Int)), some (0, x2), some (0, x3)] [] G R (wr V6 (p0 + 1) x3 v7))
      obtain ⟨s9, w⟩ := w
      refine wp_inc (x := 3) (k := 1) (a := x3) (c := (x3 + 1)) _ rfl rfl rfl rfl s9 (by omega) rfl ?_
      show wpv K_X0_takeCoset d P 42 [some (4, (p0 : Int)), some (4, (p1 : Int)), some (0, x2), some (0, (x3 + 1))] [] G R (wr V6 (p0 + 1) x3 v7)
      refine wp_go 2 rfl rfl rfl (?_ : wpv K_X0_takeCoset d P 2 [some (4, (p0 : Int)), some (4, (p1 : Int)), some (0, x2), some (0, (x3 + 1))] [] G R (wr V6 (p0 + 1) x3 v7))
      exact wp_wk (wk_s (wk_s (wk_s (wk_s wk_0)))) w
    · have q : x3 = x2 := Decidable.not_not.mp q
      replace w := w.2 q
      show wpv K_X0_takeCoset d P 20 [some (4, (p0 : Int)), some (4, (p1 : Int)), some (0, x2), some (0, x3)] [(0, x3), (4, ((p0 + 2 : Nat) : Int))] G R V
      refine wp_p (i := (.lconst 1)) rfl rfl (fun _ _ _ => rfl) (?_ : wpv K_X0_takeCoset d P 21 [some (4, (p0 : Int)), some (4, (p1 : Int)), some (0, x2), some (0, x3)] [(2, 1), (0, x3), (4, ((p0 + 2 : Nat) : Int))] G R V)
      refine wp_go 25 rfl rfl rfl (?_ : wpv K_X0_takeCoset d P 25 [some (4, (p0 : Int)), some (4, (p1 : Int)), some (0, x2), some (0, x3)] [(2, 1), (0, x3), (4, ((p0 + 2 : Nat) : Int))] G R V)
      obtain ⟨s10, w⟩ := w
      refine wp_sJ rfl rfl (ly0_1 l0).2 s10 ⟨by omega, by omega⟩ (?_ : wpv K_X0_takeCoset d P 26 [some (4, (p0 : Int)), some (4, (p1 : Int)), some (0, x2), some (0, x3)] [] G R (wr V (p0 + 2) x3 1))
      refine wp_ld (i := (.aload_n 0)) (4, (p0 : Int)) rfl rfl (fun _ => rfl) rfl rfl (?_ : wpv K_X0_takeCoset d P 27 [some (4, (p0 : Int)), some (4, (p1 : Int)), some (0, x2), some (0, x3)] [(4, (p0 : Int))] G R (wr V (p0 + 2) x3 1))
      refine wp_getA (k := 0) rfl rfl rfl (ly0_o l0) rfl rfl (ly0_0 l0).1 (?_ : wpv K_X0_takeCoset d P 30 [some (4, (p0 : Int)), some (4, (p1 : Int)), some (0, x2), some (0, x3)] [(4, ((p0 + 1 : Nat) : Int))] G R (wr V (p0 + 2) x3 1))
      refine wp_ld (i := (.iload_n 3)) (0, x3) rfl rfl (fun _ => rfl) rfl rfl (?_ : wpv K_X0_takeCoset d P 31 [some (4, (p0 : Int)), some (4, (p1 : Int)), some (0, x2), some (0, x3)] [(0, x3), (4, ((p0 + 1 : Nat) : Int))] G R (wr V (p0 + 2) x3 1))
      refine wp_ld (i := (.aload_n 1)) (4, (p1 : Int)) rfl rfl (fun _ => rfl) rfl rfl (?_ : wpv K_X0_takeCoset d P 32 [some (4, (p0 : Int)), some (4, (p1 : Int)), some (0, x2), some (0, x3)] [(4, (p1 : Int)), (0, x3), (4, ((p0 + 1 : Nat) : Int))] G R (wr V (p0 + 2) x3 1))
      refine wp_ld (i := (.iload_n 2)) (0, x2) rfl rfl (fun _ => rfl) rfl rfl (?_ : wpv K_X0_takeCoset d P 33 [some (4, (p0 : Int)), some (4, (p1 : Int)), some (0, x2), some (0, x3)] [(0, x2), (4, (p1 : Int)), (0, x3), (4, ((p0 + 1 : Nat) : Int))] G R (wr V (p0 + 2) x3 1))
      refine wp_ld (i := (.iload_n 3)) (0, x3) rfl rfl (fun _ => rfl) rfl rfl (?_ : wpv K_X0_takeCoset d P 34 [some (4, (p0 : Int)), some (4, (p1 : Int)), some (0, x2), some (0, x3)] [(0, x3), (0, x2), (4, (p1 : Int)), (0, x3), (4, ((p0 + 1 : Nat) : Int))] G R (wr V (p0 + 2) x3 1))
      refine wp_virt (as := [(0, x2), (0, x3)]) (a := p1) (st := [(0, x3), (4, ((p0 + 1 : Nat) : Int))]) _ rfl rfl rfl rfl rfl rfl (ly4_o l1) (Nat.le_of_ble_eq_true rfl) (cwv_kI w (fun v12 V11 w => ?_))
      show wpv K_X0_takeCoset d P 37 [some (4, (p0 : Int)), some (4, (p1 : Int)), some (0, x2), some (0, x3)] [(0, v12), (0, x3), (4, ((p0 + 1 : Nat) : Int))] G R V11
      obtain ⟨s13, w⟩ := w
      refine wp_i2l rfl rfl s13 (?_ : wpv K_X0_takeCoset d P 38 [some (4, (p0 : Int)), some (4, (p1 : Int)), some (0, x2), some (0, x3)] [(2, v12), (0, x3), (4, ((p0 + 1 : Nat) : Int))] G R V11)
      refine wp_sJ rfl rfl (ly0_0 l0).2 s10 (i32_64 s13) (?_ : wpv K_X0_takeCoset d P 39 [some (4, (p0 : Int)), some (4, (p1 : Int)), some (0, x2), some (0, x3)] [] G R (wr V11 (p0 + 1) x3 v12))
      obtain ⟨s14, w⟩ := w
      refine wp_inc (x := 3) (k := 1) (a := x3) (c := (x3 + 1)) _ rfl rfl rfl rfl s14 (by omega) rfl ?_
      show wpv K_X0_takeCoset d P 42 [some (4, (p0 : Int)), some (4, (p1 : Int)), some (0, x2), some (0, (x3 + 1))] [] G R (wr V11 (p0 + 1) x3 v12)
      refine wp_go 2 rfl rfl rfl (?_ : wpv K_X0_takeCoset d P 2 [some (4, (p0 : Int)), some (4, (p1 : Int)), some (0, x2), some (0, (x3 + 1))] [] G R (wr V11 (p0 + 1) x3 v12))
      exact wp_wk (wk_s (wk_s (wk_s (wk_s wk_0)))) w
theorem t_X0_takePlaces_0 {d : Nat} {P : gP} {p0 : Nat} {p1 : Nat} {x2 : Int} {x3 : Int} {G : List gS} {R V : gV} (l0 : lay0 G R p0) (l1 : lay2 G R p1) (w : wpv K_X0_takePlaces d P 3 [some (4, (p0 : Int)), some (4, (p1 : Int)), some (0, x2), some (0, x3), some (0, 0)] [] G R V) : wpv K_X0_takePlaces d P 0 [some (4, (p0 : Int)), some (4, (p1 : Int)), some (0, x2), some (0, x3)] [] G R V := by
  refine wp_p (i := (.iconst 0)) rfl rfl (fun _ _ _ => rfl) (?_ : wpv K_X0_takePlaces d P 1 [some (4, (p0 : Int)), some (4, (p1 : Int)), some (0, x2), some (0, x3)] [(0, 0)] G R V)
  refine wp_sto (i := (.istore 4)) _ rfl rfl (fun _ => rfl) rfl rfl rfl ?_
  refine wp_wk (L' := [some (4, (p0 : Int)), some (4, (p1 : Int)), some (0, x2), some (0, x3), some (0, 0)]) (wk_s (wk_s (wk_s (wk_s (wk_s wk_0))))) ?_
  show wpv K_X0_takePlaces d P 3 [some (4, (p0 : Int)), some (4, (p1 : Int)), some (0, x2), some (0, x3), some (0, 0)] [] G R V
  exact wp_wk (wk_s (wk_s (wk_s (wk_s (wk_s wk_0))))) w

theorem t_X0_takePlaces_3 {d : Nat} {P : gP} {p0 : Nat} {p1 : Nat} {x2 : Int} {x3 : Int} {x4 : Int} {G : List gS} {R V : gV} (l0 : lay0 G R p0) (l1 : lay2 G R p1) (w : ((i32 (V (p1 + 10) 1)) → ((i32 x4) ∧ (((¬ x4 < (V (p1 + 10) 1)) → cwv d (fun r V4 => ∃ v5 : Int, r = some (0, v5) ∧ P none V4) 15 [(4, (p0 : Int)), (4, ((p1 + 10 : Nat) : Int))] G R V) ∧ ((x4 < (V (p1 + 10) 1)) → ((0 ≤ x4 ∧ x4 < 300) ∧ ((i32 (V (p1 + 17) x4)) → ((i32 x3) ∧ (((¬ x3 = 0) → cwv d (fun r V9 => ∃ v10 : Int, r = some (2, v10) ∧ ((i64 v10) ∧ ((i32 (x4 + 1)) ∧ wpv K_X0_takePlaces d P 3 [some (4, (p0 : Int)), some (4, (p1 : Int)), some (0, x2), some (0, x3), some (0, (x4 + 1))] [] G R (wr V9 (p0 + 1) x4 v10)))) 6 [(4, (p0 : Int)), (4, (p1 : Int)), (0, (V (p1 + 17) x4)), (0, x2)] G R V) ∧ ((x3 = 0) → cwv d (fun r V13 => ∃ v14 : Int, r = some (2, v14) ∧ ((i64 v14) ∧ ((i32 (x4 + 1)) ∧ wpv K_X0_takePlaces d P 3 [some (4, (p0 : Int)), some (4, (p1 : Int)), some (0, x2), some (0, x3), some (0, (x4 + 1))] [] G R (wr V13 (p0 + 1) x4 v14)))) 3 [(4, (p0 : Int)), (4, (p1 : Int)), (0, (V (p1 + 17) x4)), (0, x2)] G R V)))))))))) : wpv K_X0_takePlaces d P 3 [some (4, (p0 : Int)), some (4, (p1 : Int)), some (0, x2), some (0, x3), some (0, x4)] [] G R V := by
  refine wp_ld (i := (.iload 4)) (0, x4) rfl rfl (fun _ => rfl) rfl rfl (?_ : wpv K_X0_takePlaces d P 5 [some (4, (p0 : Int)), some (4, (p1 : Int)), some (0, x2), some (0, x3), some (0, x4)] [(0, x4)] G R V)
  refine wp_ld (i := (.aload_n 1)) (4, (p1 : Int)) rfl rfl (fun _ => rfl) rfl rfl (?_ : wpv K_X0_takePlaces d P 6 [some (4, (p0 : Int)), some (4, (p1 : Int)), some (0, x2), some (0, x3), some (0, x4)] [(4, (p1 : Int)), (0, x4)] G R V)
  refine wp_getA (k := 1) rfl rfl rfl (ly2_o l1) rfl rfl (ly2_1 l1).1 (?_ : wpv K_X0_takePlaces d P 9 [some (4, (p0 : Int)), some (4, (p1 : Int)), some (0, x2), some (0, x3), some (0, x4)] [(4, ((p1 + 10 : Nat) : Int)), (0, x4)] G R V)
  refine wp_rng (fun vr1 => ?_)
  have f2 : i32 (V (p1 + 10) 1) := vr_f0 vr1 (ly4_o (ly2_1 l1).2) rfl rfl
  replace w := w f2
  refine wp_getI (k := 1) rfl rfl rfl (ly4_o (ly2_1 l1).2) rfl rfl (?_ : wpv K_X0_takePlaces d P 12 [some (4, (p0 : Int)), some (4, (p1 : Int)), some (0, x2), some (0, x3), some (0, x4)] [(0, (V (p1 + 10) 1)), (0, x4)] G R V)
  obtain ⟨s3, w⟩ := w
  refine wp_icmp (c := .ge) 63 rfl rfl rfl s3 f2 (fun q => ?_) (fun q => ?_)
  · have q : ¬ x4 < (V (p1 + 10) 1) := q
    replace w := w.1 q
    show wpv K_X0_takePlaces d P 63 [some (4, (p0 : Int)), some (4, (p1 : Int)), some (0, x2), some (0, x3), some (0, x4)] [] G R V
    refine wp_ld (i := (.aload_n 0)) (4, (p0 : Int)) rfl rfl (fun _ => rfl) rfl rfl (?_ : wpv K_X0_takePlaces d P 64 [some (4, (p0 : Int)), some (4, (p1 : Int)), some (0, x2), some (0, x3), some (0, x4)] [(4, (p0 : Int))] G R V)
    refine wp_ld (i := (.aload_n 1)) (4, (p1 : Int)) rfl rfl (fun _ => rfl) rfl rfl (?_ : wpv K_X0_takePlaces d P 65 [some (4, (p0 : Int)), some (4, (p1 : Int)), some (0, x2), some (0, x3), some (0, x4)] [(4, (p1 : Int)), (4, (p0 : Int))] G R V)
    refine wp_getA (k := 1) rfl rfl rfl (ly2_o l1) rfl rfl (ly2_1 l1).1 (?_ : wpv K_X0_takePlaces d P 68 [some (4, (p0 : Int)), some (4, (p1 : Int)), some (0, x2), some (0, x3), some (0, x4)] [(4, ((p1 + 10 : Nat) : Int)), (4, (p0 : Int))] G R V)
    refine wp_virt (as := [(4, ((p1 + 10 : Nat) : Int))]) (a := p0) (st := []) _ rfl rfl rfl rfl rfl rfl (ly0_o l0) (Nat.le_of_ble_eq_true rfl) (cwv_kI w (fun v5 V4 w => ?_))
    show wpv K_X0_takePlaces d P 71 [some (4, (p0 : Int)), some (4, (p1 : Int)), some (0, x2), some (0, x3), some (0, x4)] [(0, v5)] G R V4
    refine wp_p (i := .pop) rfl rfl (fun _ _ _ => rfl) (?_ : wpv K_X0_takePlaces d P 72 [some (4, (p0 : Int)), some (4, (p1 : Int)), some (0, x2), some (0, x3), some (0, x4)] [] G R V4)
    exact wp_r0 rfl rfl rfl w
  · have q : x4 < (V (p1 + 10) 1) := Decidable.not_not.mp q
    replace w := w.2 q
    show wpv K_X0_takePlaces d P 15 [some (4, (p0 : Int)), some (4, (p1 : Int)), some (0, x2), some (0, x3), some (0, x4)] [] G R V
    refine wp_ld (i := (.aload_n 1)) (4, (p1 : Int)) rfl rfl (fun _ => rfl) rfl rfl (?_ : wpv K_X0_takePlaces d P 16 [some (4, (p0 : Int)), some (4, (p1 : Int)), some (0, x2), some (0, x3), some (0, x4)] [(4, (p1 : Int))] G R V)
    refine wp_getA (k := 1) rfl rfl rfl (ly2_o l1) rfl rfl (ly2_1 l1).1 (?_ : wpv K_X0_takePlaces d P 19 [some (4, (p0 : Int)), some (4, (p1 : Int)), some (0, x2), some (0, x3), some (0, x4)] [(4, ((p1 + 10 : Nat) : Int))] G R V)
    refine wp_getA (k := 8) rfl rfl rfl (ly4_o (ly2_1 l1).2) rfl rfl (ly4_8 (ly2_1 l1).2).1 (?_ : wpv K_X0_takePlaces d P 22 [some (4, (p0 : Int)), some (4, (p1 : Int)), some (0, x2), some (0, x3), some (0, x4)] [(4, ((p1 + 17 : Nat) : Int))] G R V)
    refine wp_ld (i := (.iload 4)) (0, x4) rfl rfl (fun _ => rfl) rfl rfl (?_ : wpv K_X0_takePlaces d P 24 [some (4, (p0 : Int)), some (4, (p1 : Int)), some (0, x2), some (0, x3), some (0, x4)] [(0, x4), (4, ((p1 + 17 : Nat) : Int))] G R V)
    obtain ⟨s6, w⟩ := w
    have f7 : i32 (V (p1 + 17) x4) := vr_a0 vr1 (ly4_8 (ly2_1 l1).2).2 s6
    replace w := w f7
    refine wp_aI rfl rfl (ly4_8 (ly2_1 l1).2).2 s6 (?_ : wpv K_X0_takePlaces d P 25 [some (4, (p0 : Int)), some (4, (p1 : Int)), some (0, x2), some (0, x3), some (0, x4)] [(0, (V (p1 + 17) x4))] G R V)
    refine wp_sto (i := (.istore 5)) _ rfl rfl (fun _ => rfl) rfl rfl rfl ?_
    refine wp_wk (L' := [some (4, (p0 : Int)), some (4, (p1 : Int)), some (0, x2), some (0, x3), some (0, x4), some (0, (V (p1 + 17) x4))]) (wk_s (wk_s (wk_s (wk_s (wk_s (wk_s wk_0)))))) ?_
    show wpv K_X0_takePlaces d P 27 [some (4, (p0 : Int)), some (4, (p1 : Int)), some (0, x2), some (0, x3), some (0, x4), some (0, (V (p1 + 17) x4))] [] G R V
    refine wp_ld (i := (.aload_n 0)) (4, (p0 : Int)) rfl rfl (fun _ => rfl) rfl rfl (?_ : wpv K_X0_takePlaces d P 28 [some (4, (p0 : Int)), some (4, (p1 : Int)), some (0, x2), some (0, x3), some (0, x4), some (0, (V (p1 + 17) x4))] [(4, (p0 : Int))] G R V)
    refine wp_getA (k := 0) rfl rfl rfl (ly0_o l0) rfl rfl (ly0_0 l0).1 (?_ : wpv K_X0_takePlaces d P 31 [some (4, (p0 : Int)), some (4, (p1 : Int)), some (0, x2), some (0, x3), some (0, x4), some (0, (V (p1 + 17) x4))] [(4, ((p0 + 1 : Nat) : Int))] G R V)
    refine wp_ld (i := (.iload 4)) (0, x4) rfl rfl (fun _ => rfl) rfl rfl (?_ : wpv K_X0_takePlaces d P 33 [some (4, (p0 : Int)), some (4, (p1 : Int)), some (0, x2), some (0, x3), some (0, x4), some (0, (V (p1 + 17) x4))] [(0, x4), (4, ((p0 + 1 : Nat) : Int))] G R V)
    refine wp_ld (i := (.iload_n 3)) (0, x3) rfl rfl (fun _ => rfl) rfl rfl (?_ : wpv K_X0_takePlaces d P 34 [some (4, (p0 : Int)), some (4, (p1 : Int)), some (0, x2), some (0, x3), some (0, x4), some (0, (V (p1 + 17) x4))] [(0, x3), (0, x4), (4, ((p0 + 1 : Nat) : Int))] G R V)
    obtain ⟨s8, w⟩ := w
    refine wp_if (c := .ne) 48 rfl rfl rfl s8 (fun q => ?_) (fun q => ?_)
    · have q : ¬ x3 = 0 := q
      replace w := w.1 q
      show wpv K_X0_takePlaces d P 48 [some (4, (p0 : Int)), some (4, (p1 : Int)), some (0, x2), some (0, x3), some (0, x4), some (0, (V (p1 + 17) x4))] [(0, x4), (4, ((p0 + 1 : Nat) : Int))] G R V
      refine wp_ld (i := (.aload_n 0)) (4, (p0 : Int)) rfl rfl (fun _ => rfl) rfl rfl (?_ : wpv K_X0_takePlaces d P 49 [some (4, (p0 : Int)), some (4, (p1 : Int)), some (0, x2), some (0, x3), some (0, x4), some (0, (V (p1 + 17) x4))] [(4, (p0 : Int)), (0, x4), (4, ((p0 + 1 : Nat) : Int))] G R V)
      refine wp_ld (i := (.aload_n 1)) (4, (p1 : Int)) rfl rfl (fun _ => rfl) rfl rfl (?_ : wpv K_X0_takePlaces d P 50 [some (4, (p0 : Int)), some (4, (p1 : Int)), some (0, x2), some (0, x3), some (0, x4), some (0, (V (p1 + 17) x4))] [(4, (p1 : Int)), (4, (p0 : Int)), (0, x4), (4, ((p0 + 1 : Nat) : Int))] G R V)
      refine wp_ld (i := (.iload 5)) (0, (V (p1 + 17) x4)) rfl rfl (fun _ => rfl) rfl rfl (?_ : wpv K_X0_takePlaces d P 52 [some (4, (p0 : Int)), some (4, (p1 : Int)), some (0, x2), some (0, x3), some (0, x4), some (0, (V (p1 + 17) x4))] [(0, (V (p1 + 17) x4)), (4, (p1 : Int)), (4, (p0 : Int)), (0, x4), (4, ((p0 + 1 : Nat) : Int))] G R V)
      refine wp_ld (i := (.iload_n 2)) (0, x2) rfl rfl (fun _ => rfl) rfl rfl (?_ : wpv K_X0_takePlaces d P 53 [some (4, (p0 : Int)), some (4, (p1 : Int)), some (0, x2), some (0, x3), some (0, x4), some (0, (V (p1 + 17) x4))] [(0, x2), (0, (V (p1 + 17) x4)), (4, (p1 : Int)), (4, (p0 : Int)), (0, x4), (4, ((p0 + 1 : Nat) : Int))] G R V)
      refine wp_virt (as := [(4, (p1 : Int)), (0, (V (p1 + 17) x4)), (0, x2)]) (a := p0) (st := [(0, x4), (4, ((p0 + 1 : Nat) : Int))]) _ rfl rfl rfl rfl rfl rfl (ly0_o l0) (Nat.le_of_ble_eq_true rfl) (cwv_kJ w (fun v10 V9 w => ?_))
      show wpv K_X0_takePlaces d P 56 [some (4, (p0 : Int)), some (4, (p1 : Int)), some (0, x2), some (0, x3), some (0, x4), some (0, (V (p1 + 17) x4))] [(2, v10), (0, x4), (4, ((p0 + 1 : Nat) : Int))] G R V9
      obtain ⟨s11, w⟩ := w
      refine wp_sJ rfl rfl (ly0_0 l0).2 s6 s11 (?_ : wpv K_X0_takePlaces d P 57 [some (4, (p0 : Int)), some (4, (p1 : Int)), some (0, x2), some (0, x3), some (0, x4), some (0, (V (p1 + 17) x4))] [] G R (wr V9 (p0 + 1) x4 v10))
      obtain ⟨s12, w⟩ := w
      refine wp_inc (x := 4) (k := 1) (a := x4) (c := (x4 + 1)) _ rfl rfl rfl rfl s12 (by omega) rfl ?_
      show wpv K_X0_takePlaces d P 60 [some (4, (p0 : Int)), some (4, (p1 : Int)), some (0, x2), some (0, x3), some (0, (x4 + 1)), some (0, (V (p1 + 17) x4))] [] G R (wr V9 (p0 + 1) x4 v10)
      refine wp_go 3 rfl rfl rfl (?_ : wpv K_X0_takePlaces d P 3 [some (4, (p0 : Int)), some (4, (p1 : Int)), some (0, x2), some (0, x3), some (0, (x4 + 1)), some (0, (V (p1 + 17) x4))] [] G R (wr V9 (p0 + 1) x4 v10))
      exact wp_wk (wk_s (wk_s (wk_s (wk_s (wk_s wk_0))))) w
    · have q : x3 = 0 := Decidable.not_not.mp q
      replace w := w.2 q
      show wpv K_X0_takePlaces d P 37 [some (4, (p0 : Int)), some (4, (p1 : Int)), some (0, x2), some (0, x3), some (0, x4), some (0, (V (p1 + 17) x4))] [(0, x4), (4, ((p0 + 1 : Nat) : Int))] G R V
      refine wp_ld (i := (.aload_n 0)) (4, (p0 : Int)) rfl rfl (fun _ => rfl) rfl rfl (?_ : wpv K_X0_takePlaces d P 38 [some (4, (p0 : Int)), some (4, (p1 : Int)), some (0, x2), some (0, x3), some (0, x4), some (0, (V (p1 + 17) x4))] [(4, (p0 : Int)), (0, x4), (4, ((p0 + 1 : Nat) : Int))] G R V)
      refine wp_ld (i := (.aload_n 1)) (4, (p1 : Int)) rfl rfl (fun _ => rfl) rfl rfl (?_ : wpv K_X0_takePlaces d P 39 [some (4, (p0 : Int)), some (4, (p1 : Int)), some (0, x2), some (0, x3), some (0, x4), some (0, (V (p1 + 17) x4))] [(4, (p1 : Int)), (4, (p0 : Int)), (0, x4), (4, ((p0 + 1 : Nat) : Int))] G R V)
      refine wp_ld (i := (.iload 5)) (0, (V (p1 + 17) x4)) rfl rfl (fun _ => rfl) rfl rfl (?_ : wpv K_X0_takePlaces d P 41 [some (4, (p0 : Int)), some (4, (p1 : Int)), some (0, x2), some (0, x3), some (0, x4), some (0, (V (p1 + 17) x4))] [(0, (V (p1 + 17) x4)), (4, (p1 : Int)), (4, (p0 : Int)), (0, x4), (4, ((p0 + 1 : Nat) : Int))] G R V)
      refine wp_ld (i := (.iload_n 2)) (0, x2) rfl rfl (fun _ => rfl) rfl rfl (?_ : wpv K_X0_takePlaces d P 42 [some (4, (p0 : Int)), some (4, (p1 : Int)), some (0, x2), some (0, x3), some (0, x4), some (0, (V (p1 + 17) x4))] [(0, x2), (0, (V (p1 + 17) x4)), (4, (p1 : Int)), (4, (p0 : Int)), (0, x4), (4, ((p0 + 1 : Nat) : Int))] G R V)
      refine wp_virt (as := [(4, (p1 : Int)), (0, (V (p1 + 17) x4)), (0, x2)]) (a := p0) (st := [(0, x4), (4, ((p0 + 1 : Nat) : Int))]) _ rfl rfl rfl rfl rfl rfl (ly0_o l0) (Nat.le_of_ble_eq_true rfl) (cwv_kJ w (fun v14 V13 w => ?_))
      show wpv K_X0_takePlaces d P 45 [some (4, (p0 : Int)), some (4, (p1 : Int)), some (0, x2), some (0, x3), some (0, x4), some (0, (V (p1 + 17) x4))] [(2, v14), (0, x4), (4, ((p0 + 1 : Nat) : Int))] G R V13
      refine wp_go 56 rfl rfl rfl (?_ : wpv K_X0_takePlaces d P 56 [some (4, (p0 : Int)), some (4, (p1 : Int)), some (0, x2), some (0, x3), some (0, x4), some (0, (V (p1 + 17) x4))] [(2, v14), (0, x4), (4, ((p0 + 1 : Nat) : Int))] G R V13)
      obtain ⟨s15, w⟩ := w
      refine wp_sJ rfl rfl (ly0_0 l0).2 s6 s15 (?_ : wpv K_X0_takePlaces d P 57 [some (4, (p0 : Int)), some (4, (p1 : Int)), some (0, x2), some (0, x3), some (0, x4), some (0, (V (p1 + 17) x4))] [] G R (wr V13 (p0 + 1) x4 v14))
      obtain ⟨s16, w⟩ := w
      refine wp_inc (x := 4) (k := 1) (a := x4) (c := (x4 + 1)) _ rfl rfl rfl rfl s16 (by omega) rfl ?_
      show wpv K_X0_takePlaces d P 60 [some (4, (p0 : Int)), some (4, (p1 : Int)), some (0, x2), some (0, x3), some (0, (x4 + 1)), some (0, (V (p1 + 17) x4))] [] G R (wr V13 (p0 + 1) x4 v14)
      refine wp_go 3 rfl rfl rfl (?_ : wpv K_X0_takePlaces d P 3 [some (4, (p0 : Int)), some (4, (p1 : Int)), some (0, x2), some (0, x3), some (0, (x4 + 1)), some (0, (V (p1 + 17) x4))] [] G R (wr V13 (p0 + 1) x4 v14))
      exact wp_wk (wk_s (wk_s (wk_s (wk_s (wk_s wk_0))))) w
theorem t_X0_setsLeft_0 {d : Nat} {P : gP} {p0 : Nat} {p1 : Nat} {x2 : Int} {x3 : Int} {G : List gS} {R V : gV} (l0 : lay0 G R p0) (l1 : lay2 G R p1) (w : wpv K_X0_setsLeft d P 3 [some (4, (p0 : Int)), some (4, (p1 : Int)), some (0, x2), some (0, x3), some (0, 0)] [] G R V) : wpv K_X0_setsLeft d P 0 [some (4, (p0 : Int)), some (4, (p1 : Int)), some (0, x2), some (0, x3)] [] G R V := by
  refine wp_p (i := (.iconst 0)) rfl rfl (fun _ _ _ => rfl) (?_ : wpv K_X0_setsLeft d P 1 [some (4, (p0 : Int)), some (4, (p1 : Int)), some (0, x2), some (0, x3)] [(0, 0)] G R V)
  refine wp_sto (i := (.istore 4)) _ rfl rfl (fun _ => rfl) rfl rfl rfl ?_
  refine wp_wk (L' := [some (4, (p0 : Int)), some (4, (p1 : Int)), some (0, x2), some (0, x3), some (0, 0)]) (wk_s (wk_s (wk_s (wk_s (wk_s wk_0))))) ?_
  show wpv K_X0_setsLeft d P 3 [some (4, (p0 : Int)), some (4, (p1 : Int)), some (0, x2), some (0, x3), some (0, 0)] [] G R V
  exact wp_wk (wk_s (wk_s (wk_s (wk_s (wk_s wk_0))))) w

theorem t_X0_setsLeft_3 {d : Nat} {P : gP} {p0 : Nat} {p1 : Nat} {x2 : Int} {x3 : Int} {x4 : Int} {G : List gS} {R V : gV} (l0 : lay0 G R p0) (l1 : lay2 G R p1) (w : ((i32 x4) ∧ (((8 < x4) → wpv K_X0_setsLeft d P 39 [some (4, (p0 : Int)), some (4, (p1 : Int)), some (0, x2), some (0, x3), some (0, 0), some (0, 0)] [] G R V) ∧ ((¬ 8 < x4) → (((¬ x4 = 0) → ((0 ≤ x4 ∧ x4 < 9) ∧ ((i32 (x4 + 1)) ∧ wpv K_X0_setsLeft d P 3 [some (4, (p0 : Int)), some (4, (p1 : Int)), some (0, x2), some (0, x3), some (0, (x4 + 1))] [] G R (wr V (p0 + 3) x4 0)))) ∧ ((x4 = 0) → ((0 ≤ x4 ∧ x4 < 9) ∧ ((i32 (x4 + 1)) ∧ wpv K_X0_setsLeft d P 3 [some (4, (p0 : Int)), some (4, (p1 : Int)), some (0, x2), some (0, x3), some (0, (x4 + 1))] [] G R (wr V (p0 + 3) x4 1))))))))) : wpv K_X0_setsLeft d P 3 [some (4, (p0 : Int)), some (4, (p1 : Int)), some (0, x2), some (0, x3), some (0, x4)] [] G R V := by
  refine wp_ld (i := (.iload 4)) (0, x4) rfl rfl (fun _ => rfl) rfl rfl (?_ : wpv K_X0_setsLeft d P 5 [some (4, (p0 : Int)), some (4, (p1 : Int)), some (0, x2), some (0, x3), some (0, x4)] [(0, x4)] G R V)
  refine wp_p (i := (.bipush 8)) rfl rfl (fun _ _ _ => rfl) (?_ : wpv K_X0_setsLeft d P 7 [some (4, (p0 : Int)), some (4, (p1 : Int)), some (0, x2), some (0, x3), some (0, x4)] [(0, 8), (0, x4)] G R V)
  obtain ⟨s1, w⟩ := w
  refine wp_icmp (c := .gt) 33 rfl rfl rfl s1 ⟨by omega, by omega⟩ (fun q => ?_) (fun q => ?_)
  · have q : 8 < x4 := q
    replace w := w.1 q
    show wpv K_X0_setsLeft d P 33 [some (4, (p0 : Int)), some (4, (p1 : Int)), some (0, x2), some (0, x3), some (0, x4)] [] G R V
    refine wp_p (i := (.iconst 0)) rfl rfl (fun _ _ _ => rfl) (?_ : wpv K_X0_setsLeft d P 34 [some (4, (p0 : Int)), some (4, (p1 : Int)), some (0, x2), some (0, x3), some (0, x4)] [(0, 0)] G R V)
    refine wp_sto (i := (.istore 4)) _ rfl rfl (fun _ => rfl) rfl rfl rfl ?_
    refine wp_wk (L' := [some (4, (p0 : Int)), some (4, (p1 : Int)), some (0, x2), some (0, x3), some (0, 0)]) (wk_s (wk_s (wk_s (wk_s (wk_s wk_0))))) ?_
    show wpv K_X0_setsLeft d P 36 [some (4, (p0 : Int)), some (4, (p1 : Int)), some (0, x2), some (0, x3), some (0, 0)] [] G R V
    refine wp_p (i := (.iconst 0)) rfl rfl (fun _ _ _ => rfl) (?_ : wpv K_X0_setsLeft d P 37 [some (4, (p0 : Int)), some (4, (p1 : Int)), some (0, x2), some (0, x3), some (0, 0)] [(0, 0)] G R V)
    refine wp_sto (i := (.istore 5)) _ rfl rfl (fun _ => rfl) rfl rfl rfl ?_
    refine wp_wk (L' := [some (4, (p0 : Int)), some (4, (p1 : Int)), some (0, x2), some (0, x3), some (0, 0), some (0, 0)]) (wk_s (wk_s (wk_s (wk_s (wk_s (wk_s wk_0)))))) ?_
    show wpv K_X0_setsLeft d P 39 [some (4, (p0 : Int)), some (4, (p1 : Int)), some (0, x2), some (0, x3), some (0, 0), some (0, 0)] [] G R V
    exact wp_wk (wk_s (wk_s (wk_s (wk_s (wk_s (wk_s wk_0)))))) w
  · have q : ¬ 8 < x4 := q
    replace w := w.2 q
    show wpv K_X0_setsLeft d P 10 [some (4, (p0 : Int)), some (4, (p1 : Int)), some (0, x2), some (0, x3), some (0, x4)] [] G R V
    refine wp_ld (i := (.aload_n 0)) (4, (p0 : Int)) rfl rfl (fun _ => rfl) rfl rfl (?_ : wpv K_X0_setsLeft d P 11 [some (4, (p0 : Int)), some (4, (p1 : Int)), some (0, x2), some (0, x3), some (0, x4)] [(4, (p0 : Int))] G R V)
    refine wp_getA (k := 2) rfl rfl rfl (ly0_o l0) rfl rfl (ly0_2 l0).1 (?_ : wpv K_X0_setsLeft d P 14 [some (4, (p0 : Int)), some (4, (p1 : Int)), some (0, x2), some (0, x3), some (0, x4)] [(4, ((p0 + 3 : Nat) : Int))] G R V)
    refine wp_ld (i := (.iload 4)) (0, x4) rfl rfl (fun _ => rfl) rfl rfl (?_ : wpv K_X0_setsLeft d P 16 [some (4, (p0 : Int)), some (4, (p1 : Int)), some (0, x2), some (0, x3), some (0, x4)] [(0, x4), (4, ((p0 + 3 : Nat) : Int))] G R V)
    refine wp_ld (i := (.iload 4)) (0, x4) rfl rfl (fun _ => rfl) rfl rfl (?_ : wpv K_X0_setsLeft d P 18 [some (4, (p0 : Int)), some (4, (p1 : Int)), some (0, x2), some (0, x3), some (0, x4)] [(0, x4), (0, x4), (4, ((p0 + 3 : Nat) : Int))] G R V)
    refine wp_if (c := .ne) 25 rfl rfl rfl s1 (fun q => ?_) (fun q => ?_)
    · have q : ¬ x4 = 0 := q
      replace w := w.1 q
      show wpv K_X0_setsLeft d P 25 [some (4, (p0 : Int)), some (4, (p1 : Int)), some (0, x2), some (0, x3), some (0, x4)] [(0, x4), (4, ((p0 + 3 : Nat) : Int))] G R V
      refine wp_p (i := (.lconst 0)) rfl rfl (fun _ _ _ => rfl) (?_ : wpv K_X0_setsLeft d P 26 [some (4, (p0 : Int)), some (4, (p1 : Int)), some (0, x2), some (0, x3), some (0, x4)] [(2, 0), (0, x4), (4, ((p0 + 3 : Nat) : Int))] G R V)
      obtain ⟨s2, w⟩ := w
      refine wp_sJ rfl rfl (ly0_2 l0).2 s2 ⟨by omega, by omega⟩ (?_ : wpv K_X0_setsLeft d P 27 [some (4, (p0 : Int)), some (4, (p1 : Int)), some (0, x2), some (0, x3), some (0, x4)] [] G R (wr V (p0 + 3) x4 0))
      obtain ⟨s3, w⟩ := w
      refine wp_inc (x := 4) (k := 1) (a := x4) (c := (x4 + 1)) _ rfl rfl rfl rfl s3 (by omega) rfl ?_
      show wpv K_X0_setsLeft d P 30 [some (4, (p0 : Int)), some (4, (p1 : Int)), some (0, x2), some (0, x3), some (0, (x4 + 1))] [] G R (wr V (p0 + 3) x4 0)
      refine wp_go 3 rfl rfl rfl (?_ : wpv K_X0_setsLeft d P 3 [some (4, (p0 : Int)), some (4, (p1 : Int)), some (0, x2), some (0, x3), some (0, (x4 + 1))] [] G R (wr V (p0 + 3) x4 0))
      exact wp_wk (wk_s (wk_s (wk_s (wk_s (wk_s wk_0))))) w
    · have q : x4 = 0 := Decidable.not_not.mp q
      replace w := w.2 q
      show wpv K_X0_setsLeft d P 21 [some (4, (p0 : Int)), some (4, (p1 : Int)), some (0, x2), some (0, x3), some (0, x4)] [(0, x4), (4, ((p0 + 3 : Nat) : Int))] G R V
      refine wp_p (i := (.lconst 1)) rfl rfl (fun _ _ _ => rfl) (?_ : wpv K_X0_setsLeft d P 22 [some (4, (p0 : Int)), some (4, (p1 : Int)), some (0, x2), some (0, x3), some (0, x4)] [(2, 1), (0, x4), (4, ((p0 + 3 : Nat) : Int))] G R V)
      refine wp_go 26 rfl rfl rfl (?_ : wpv K_X0_setsLeft d P 26 [some (4, (p0 : Int)), some (4, (p1 : Int)), some (0, x2), some (0, x3), some (0, x4)] [(2, 1), (0, x4), (4, ((p0 + 3 : Nat) : Int))] G R V)
      obtain ⟨s4, w⟩ := w
      refine wp_sJ rfl rfl (ly0_2 l0).2 s4 ⟨by omega, by omega⟩ (?_ : wpv K_X0_setsLeft d P 27 [some (4, (p0 : Int)), some (4, (p1 : Int)), some (0, x2), some (0, x3), some (0, x4)] [] G R (wr V (p0 + 3) x4 1))
      obtain ⟨s5, w⟩ := w
      refine wp_inc (x := 4) (k := 1) (a := x4) (c := (x4 + 1)) _ rfl rfl rfl rfl s5 (by omega) rfl ?_
      show wpv K_X0_setsLeft d P 30 [some (4, (p0 : Int)), some (4, (p1 : Int)), some (0, x2), some (0, x3), some (0, (x4 + 1))] [] G R (wr V (p0 + 3) x4 1)
      refine wp_go 3 rfl rfl rfl (?_ : wpv K_X0_setsLeft d P 3 [some (4, (p0 : Int)), some (4, (p1 : Int)), some (0, x2), some (0, x3), some (0, (x4 + 1))] [] G R (wr V (p0 + 3) x4 1))
      exact wp_wk (wk_s (wk_s (wk_s (wk_s (wk_s wk_0))))) w

theorem t_X0_setsLeft_39 {d : Nat} {P : gP} {p0 : Nat} {p1 : Nat} {x2 : Int} {x3 : Int} {x4 : Int} {x5 : Int} {G : List gS} {R V : gV} (l0 : lay0 G R p0) (l1 : lay2 G R p1) (w : ((i32 (V (p1 + 1) 0)) → ((i32 x5) ∧ (((¬ x5 < (V (p1 + 1) 0)) → ((0 ≤ x3 ∧ x3 < 9) ∧ ((i64 (V (p0 + 3) x3)) → P (some (2, (V (p0 + 3) x3))) V))) ∧ ((x5 < (V (p1 + 1) 0)) → (((¬ (kand ((kshr x4 x5)) 1) = 0) → ((i32 (x5 + 1)) ∧ wpv K_X0_setsLeft d P 39 [some (4, (p0 : Int)), some (4, (p1 : Int)), some (0, x2), some (0, x3), some (0, x4), some (0, (x5 + 1))] [] G R V)) ∧ (((kand ((kshr x4 x5)) 1) = 0) → cwv d (fun r V7 => ∃ v8 : Int, r = some (0, v8) ∧ cwv d (fun r V9 => ∃ v10 : Int, r = some (0, v10) ∧ cwv d (fun r V11 => r = none ∧ ((i32 (x5 + 1)) ∧ wpv K_X0_setsLeft d P 39 [some (4, (p0 : Int)), some (4, (p1 : Int)), some (0, x2), some (0, x3), some (0, (kor x4 v8)), some (0, (x5 + 1))] [] G R V11)) 4 [(4, (p0 : Int)), (0, v10)] G R V9) 242 [(0, v8)] G R V7) 5 [(4, (p0 : Int)), (4, (p1 : Int)), (0, x2), (0, x5)] G R V))))))) : wpv K_X0_setsLeft d P 39 [some (4, (p0 : Int)), some (4, (p1 : Int)), some (0, x2), some (0, x3), some (0, x4), some (0, x5)] [] G R V := by
  refine wp_ld (i := (.iload 5)) (0, x5) rfl rfl (fun _ => rfl) rfl rfl (?_ : wpv K_X0_setsLeft d P 41 [some (4, (p0 : Int)), some (4, (p1 : Int)), some (0, x2), some (0, x3), some (0, x4), some (0, x5)] [(0, x5)] G R V)
  refine wp_ld (i := (.aload_n 1)) (4, (p1 : Int)) rfl rfl (fun _ => rfl) rfl rfl (?_ : wpv K_X0_setsLeft d P 42 [some (4, (p0 : Int)), some (4, (p1 : Int)), some (0, x2), some (0, x3), some (0, x4), some (0, x5)] [(4, (p1 : Int)), (0, x5)] G R V)
  refine wp_getA (k := 0) rfl rfl rfl (ly2_o l1) rfl rfl (ly2_0 l1).1 (?_ : wpv K_X0_setsLeft d P 45 [some (4, (p0 : Int)), some (4, (p1 : Int)), some (0, x2), some (0, x3), some (0, x4), some (0, x5)] [(4, ((p1 + 1 : Nat) : Int)), (0, x5)] G R V)
  refine wp_rng (fun vr1 => ?_)
  have f2 : i32 (V (p1 + 1) 0) := vr_f0 vr1 (ly6_o (ly2_0 l1).2) rfl rfl
  replace w := w f2
  refine wp_getI (k := 0) rfl rfl rfl (ly6_o (ly2_0 l1).2) rfl rfl (?_ : wpv K_X0_setsLeft d P 48 [some (4, (p0 : Int)), some (4, (p1 : Int)), some (0, x2), some (0, x3), some (0, x4), some (0, x5)] [(0, (V (p1 + 1) 0)), (0, x5)] G R V)
  obtain ⟨s3, w⟩ := w
  refine wp_icmp (c := .ge) 93 rfl rfl rfl s3 f2 (fun q => ?_) (fun q => ?_)
  · have q : ¬ x5 < (V (p1 + 1) 0) := q
    replace w := w.1 q
    show wpv K_X0_setsLeft d P 93 [some (4, (p0 : Int)), some (4, (p1 : Int)), some (0, x2), some (0, x3), some (0, x4), some (0, x5)] [] G R V
    refine wp_ld (i := (.aload_n 0)) (4, (p0 : Int)) rfl rfl (fun _ => rfl) rfl rfl (?_ : wpv K_X0_setsLeft d P 94 [some (4, (p0 : Int)), some (4, (p1 : Int)), some (0, x2), some (0, x3), some (0, x4), some (0, x5)] [(4, (p0 : Int))] G R V)
    refine wp_getA (k := 2) rfl rfl rfl (ly0_o l0) rfl rfl (ly0_2 l0).1 (?_ : wpv K_X0_setsLeft d P 97 [some (4, (p0 : Int)), some (4, (p1 : Int)), some (0, x2), some (0, x3), some (0, x4), some (0, x5)] [(4, ((p0 + 3 : Nat) : Int))] G R V)
    refine wp_ld (i := (.iload_n 3)) (0, x3) rfl rfl (fun _ => rfl) rfl rfl (?_ : wpv K_X0_setsLeft d P 98 [some (4, (p0 : Int)), some (4, (p1 : Int)), some (0, x2), some (0, x3), some (0, x4), some (0, x5)] [(0, x3), (4, ((p0 + 3 : Nat) : Int))] G R V)
    obtain ⟨s4, w⟩ := w
    have f5 : i64 (V (p0 + 3) x3) := vr_a1 vr1 (ly0_2 l0).2 s4
    replace w := w f5
    refine wp_aJ rfl rfl (ly0_2 l0).2 s4 (?_ : wpv K_X0_setsLeft d P 99 [some (4, (p0 : Int)), some (4, (p1 : Int)), some (0, x2), some (0, x3), some (0, x4), some (0, x5)] [(2, (V (p0 + 3) x3))] G R V)
    exact wp_rJ rfl rfl rfl w
  · have q : x5 < (V (p1 + 1) 0) := Decidable.not_not.mp q
    replace w := w.2 q
    show wpv K_X0_setsLeft d P 51 [some (4, (p0 : Int)), some (4, (p1 : Int)), some (0, x2), some (0, x3), some (0, x4), some (0, x5)] [] G R V
    refine wp_ld (i := (.iload 4)) (0, x4) rfl rfl (fun _ => rfl) rfl rfl (?_ : wpv K_X0_setsLeft d P 53 [some (4, (p0 : Int)), some (4, (p1 : Int)), some (0, x2), some (0, x3), some (0, x4), some (0, x5)] [(0, x4)] G R V)
    refine wp_ld (i := (.iload 5)) (0, x5) rfl rfl (fun _ => rfl) rfl rfl (?_ : wpv K_X0_setsLeft d P 55 [some (4, (p0 : Int)), some (4, (p1 : Int)), some (0, x2), some (0, x3), some (0, x4), some (0, x5)] [(0, x5), (0, x4)] G R V)
    refine wp_kshr rfl rfl (?_ : wpv K_X0_setsLeft d P 56 [some (4, (p0 : Int)), some (4, (p1 : Int)), some (0, x2), some (0, x3), some (0, x4), some (0, x5)] [(0, (kshr x4 x5))] G R V)
    refine wp_p (i := (.iconst 1)) rfl rfl (fun _ _ _ => rfl) (?_ : wpv K_X0_setsLeft d P 57 [some (4, (p0 : Int)), some (4, (p1 : Int)), some (0, x2), some (0, x3), some (0, x4), some (0, x5)] [(0, 1), (0, (kshr x4 x5))] G R V)
    refine wp_kand rfl rfl (?_ : wpv K_X0_setsLeft d P 58 [some (4, (p0 : Int)), some (4, (p1 : Int)), some (0, x2), some (0, x3), some (0, x4), some (0, x5)] [(0, (kand ((kshr x4 x5)) 1))] G R V)
    refine wp_if (c := .ne) 87 rfl rfl rfl (t32 _) (fun q => ?_) (fun q => ?_)
    · have q : ¬ (kand ((kshr x4 x5)) 1) = 0 := q
      replace w := w.1 q
      show wpv K_X0_setsLeft d P 87 [some (4, (p0 : Int)), some (4, (p1 : Int)), some (0, x2), some (0, x3), some (0, x4), some (0, x5)] [] G R V
      obtain ⟨s6, w⟩ := w
      refine wp_inc (x := 5) (k := 1) (a := x5) (c := (x5 + 1)) _ rfl rfl rfl rfl s6 (by omega) rfl ?_
      show wpv K_X0_setsLeft d P 90 [some (4, (p0 : Int)), some (4, (p1 : Int)), some (0, x2), some (0, x3), some (0, x4), some (0, (x5 + 1))] [] G R V
      refine wp_go 39 rfl rfl rfl (?_ : wpv K_X0_setsLeft d P 39 [some (4, (p0 : Int)), some (4, (p1 : Int)), some (0, x2), some (0, x3), some (0, x4), some (0, (x5 + 1))] [] G R V)
      exact wp_wk (wk_s (wk_s (wk_s (wk_s (wk_s (wk_s wk_0)))))) w
    · have q : (kand ((kshr x4 x5)) 1) = 0 := Decidable.not_not.mp q
      replace w := w.2 q
      show wpv K_X0_setsLeft d P 61 [some (4, (p0 : Int)), some (4, (p1 : Int)), some (0, x2), some (0, x3), some (0, x4), some (0, x5)] [] G R V
      refine wp_ld (i := (.aload_n 0)) (4, (p0 : Int)) rfl rfl (fun _ => rfl) rfl rfl (?_ : wpv K_X0_setsLeft d P 62 [some (4, (p0 : Int)), some (4, (p1 : Int)), some (0, x2), some (0, x3), some (0, x4), some (0, x5)] [(4, (p0 : Int))] G R V)
      refine wp_ld (i := (.aload_n 1)) (4, (p1 : Int)) rfl rfl (fun _ => rfl) rfl rfl (?_ : wpv K_X0_setsLeft d P 63 [some (4, (p0 : Int)), some (4, (p1 : Int)), some (0, x2), some (0, x3), some (0, x4), some (0, x5)] [(4, (p1 : Int)), (4, (p0 : Int))] G R V)
      refine wp_ld (i := (.iload_n 2)) (0, x2) rfl rfl (fun _ => rfl) rfl rfl (?_ : wpv K_X0_setsLeft d P 64 [some (4, (p0 : Int)), some (4, (p1 : Int)), some (0, x2), some (0, x3), some (0, x4), some (0, x5)] [(0, x2), (4, (p1 : Int)), (4, (p0 : Int))] G R V)
      refine wp_ld (i := (.iload 5)) (0, x5) rfl rfl (fun _ => rfl) rfl rfl (?_ : wpv K_X0_setsLeft d P 66 [some (4, (p0 : Int)), some (4, (p1 : Int)), some (0, x2), some (0, x3), some (0, x4), some (0, x5)] [(0, x5), (0, x2), (4, (p1 : Int)), (4, (p0 : Int))] G R V)
      refine wp_virt (as := [(4, (p1 : Int)), (0, x2), (0, x5)]) (a := p0) (st := []) _ rfl rfl rfl rfl rfl rfl (ly0_o l0) (Nat.le_of_ble_eq_true rfl) (cwv_kI w (fun v8 V7 w => ?_))
      show wpv K_X0_setsLeft d P 69 [some (4, (p0 : Int)), some (4, (p1 : Int)), some (0, x2), some (0, x3), some (0, x4), some (0, x5)] [(0, v8)] G R V7
      refine wp_sto (i := (.istore 6)) _ rfl rfl (fun _ => rfl) rfl rfl rfl ?_
      refine wp_wk (L' := [some (4, (p0 : Int)), some (4, (p1 : Int)), some (0, x2), some (0, x3), some (0, x4), some (0, x5), some (0, v8)]) (wk_s (wk_s (wk_s (wk_s (wk_s (wk_s (wk_s wk_0))))))) ?_
      show wpv K_X0_setsLeft d P 71 [some (4, (p0 : Int)), some (4, (p1 : Int)), some (0, x2), some (0, x3), some (0, x4), some (0, x5), some (0, v8)] [] G R V7
      refine wp_ld (i := (.iload 4)) (0, x4) rfl rfl (fun _ => rfl) rfl rfl (?_ : wpv K_X0_setsLeft d P 73 [some (4, (p0 : Int)), some (4, (p1 : Int)), some (0, x2), some (0, x3), some (0, x4), some (0, x5), some (0, v8)] [(0, x4)] G R V7)
      refine wp_ld (i := (.iload 6)) (0, v8) rfl rfl (fun _ => rfl) rfl rfl (?_ : wpv K_X0_setsLeft d P 75 [some (4, (p0 : Int)), some (4, (p1 : Int)), some (0, x2), some (0, x3), some (0, x4), some (0, x5), some (0, v8)] [(0, v8), (0, x4)] G R V7)
      refine wp_kor rfl rfl (?_ : wpv K_X0_setsLeft d P 76 [some (4, (p0 : Int)), some (4, (p1 : Int)), some (0, x2), some (0, x3), some (0, x4), some (0, x5), some (0, v8)] [(0, (kor x4 v8))] G R V7)
      refine wp_sto (i := (.istore 4)) _ rfl rfl (fun _ => rfl) rfl rfl rfl ?_
      refine wp_wk (L' := [some (4, (p0 : Int)), some (4, (p1 : Int)), some (0, x2), some (0, x3), some (0, (kor x4 v8)), some (0, x5), some (0, v8)]) (wk_s (wk_s (wk_s (wk_s (wk_s (wk_s (wk_s wk_0))))))) ?_
      show wpv K_X0_setsLeft d P 78 [some (4, (p0 : Int)), some (4, (p1 : Int)), some (0, x2), some (0, x3), some (0, (kor x4 v8)), some (0, x5), some (0, v8)] [] G R V7
      refine wp_ld (i := (.aload_n 0)) (4, (p0 : Int)) rfl rfl (fun _ => rfl) rfl rfl (?_ : wpv K_X0_setsLeft d P 79 [some (4, (p0 : Int)), some (4, (p1 : Int)), some (0, x2), some (0, x3), some (0, (kor x4 v8)), some (0, x5), some (0, v8)] [(4, (p0 : Int))] G R V7)
      refine wp_ld (i := (.iload 6)) (0, v8) rfl rfl (fun _ => rfl) rfl rfl (?_ : wpv K_X0_setsLeft d P 81 [some (4, (p0 : Int)), some (4, (p1 : Int)), some (0, x2), some (0, x3), some (0, (kor x4 v8)), some (0, x5), some (0, v8)] [(0, v8), (4, (p0 : Int))] G R V7)
      refine wp_stat (as := [(0, v8)]) (st := [(4, (p0 : Int))]) _ rfl rfl rfl (by omega) rfl rfl (Nat.le_of_ble_eq_true rfl) (cwv_kI w (fun v10 V9 w => ?_))
      show wpv K_X0_setsLeft d P 84 [some (4, (p0 : Int)), some (4, (p1 : Int)), some (0, x2), some (0, x3), some (0, (kor x4 v8)), some (0, x5), some (0, v8)] [(0, v10), (4, (p0 : Int))] G R V9
      refine wp_virt (as := [(0, v10)]) (a := p0) (st := []) _ rfl rfl rfl rfl rfl rfl (ly0_o l0) (Nat.le_of_ble_eq_true rfl) (cwv_k0 w (fun V11 w => ?_))
      show wpv K_X0_setsLeft d P 87 [some (4, (p0 : Int)), some (4, (p1 : Int)), some (0, x2), some (0, x3), some (0, (kor x4 v8)), some (0, x5), some (0, v8)] [] G R V11
      obtain ⟨s12, w⟩ := w
      refine wp_inc (x := 5) (k := 1) (a := x5) (c := (x5 + 1)) _ rfl rfl rfl rfl s12 (by omega) rfl ?_
      show wpv K_X0_setsLeft d P 90 [some (4, (p0 : Int)), some (4, (p1 : Int)), some (0, x2), some (0, x3), some (0, (kor x4 v8)), some (0, (x5 + 1)), some (0, v8)] [] G R V11
      refine wp_go 39 rfl rfl rfl (?_ : wpv K_X0_setsLeft d P 39 [some (4, (p0 : Int)), some (4, (p1 : Int)), some (0, x2), some (0, x3), some (0, (kor x4 v8)), some (0, (x5 + 1)), some (0, v8)] [] G R V11)
      exact wp_wk (wk_s (wk_s (wk_s (wk_s (wk_s (wk_s wk_0)))))) w
theorem t_X0_addRound_0 {d : Nat} {P : gP} {p0 : Nat} {x1 : Int} {G : List gS} {R V : gV} (l0 : lay0 G R p0) (w : wpv K_X0_addRound d P 3 [some (4, (p0 : Int)), some (0, x1), some (0, 8)] [] G R V) : wpv K_X0_addRound d P 0 [some (4, (p0 : Int)), some (0, x1)] [] G R V := by
  refine wp_p (i := (.bipush 8)) rfl rfl (fun _ _ _ => rfl) (?_ : wpv K_X0_addRound d P 2 [some (4, (p0 : Int)), some (0, x1)] [(0, 8)] G R V)
  refine wp_sto (i := (.istore_n 2)) _ rfl rfl (fun _ => rfl) rfl rfl rfl ?_
  refine wp_wk (L' := [some (4, (p0 : Int)), some (0, x1), some (0, 8)]) (wk_s (wk_s (wk_s wk_0))) ?_
  show wpv K_X0_addRound d P 3 [some (4, (p0 : Int)), some (0, x1), some (0, 8)] [] G R V
  exact wp_wk (wk_s (wk_s (wk_s wk_0))) w

theorem t_X0_addRound_3 {d : Nat} {P : gP} {p0 : Nat} {x1 : Int} {x2 : Int} {G : List gS} {R V : gV} (l0 : lay0 G R p0) (w : ((i32 x2) ∧ ((i32 x1) ∧ (((x2 < x1) → P none V) ∧ ((¬ x2 < x1) → ((0 ≤ x2 ∧ x2 < 9) ∧ ((i64 (V (p0 + 3) x2)) → ((i32 (x2 - x1)) ∧ ((0 ≤ (x2 - x1) ∧ (x2 - x1) < 9) ∧ ((i64 (V (p0 + 3) ((x2 - x1)))) → ((i32 (x2 - 1)) ∧ wpv K_X0_addRound d P 3 [some (4, (p0 : Int)), some (0, x1), some (0, (x2 - 1))] [] G R (wr V (p0 + 3) x2 ((jadd ((V (p0 + 3) x2)) ((V (p0 + 3) ((x2 - x1)))))))))))))))))) : wpv K_X0_addRound d P 3 [some (4, (p0 : Int)), some (0, x1), some (0, x2)] [] G R V := by
  refine wp_ld (i := (.iload_n 2)) (0, x2) rfl rfl (fun _ => rfl) rfl rfl (?_ : wpv K_X0_addRound d P 4 [some (4, (p0 : Int)), some (0, x1), some (0, x2)] [(0, x2)] G R V)
  refine wp_ld (i := (.iload_n 1)) (0, x1) rfl rfl (fun _ => rfl) rfl rfl (?_ : wpv K_X0_addRound d P 5 [some (4, (p0 : Int)), some (0, x1), some (0, x2)] [(0, x1), (0, x2)] G R V)
  obtain ⟨s1, w⟩ := w
  obtain ⟨s2, w⟩ := w
  refine wp_icmp (c := .lt) 31 rfl rfl rfl s1 s2 (fun q => ?_) (fun q => ?_)
  · have q : x2 < x1 := q
    replace w := w.1 q
    show wpv K_X0_addRound d P 31 [some (4, (p0 : Int)), some (0, x1), some (0, x2)] [] G R V
    exact wp_r0 rfl rfl rfl w
  · have q : ¬ x2 < x1 := q
    replace w := w.2 q
    show wpv K_X0_addRound d P 8 [some (4, (p0 : Int)), some (0, x1), some (0, x2)] [] G R V
    refine wp_ld (i := (.aload_n 0)) (4, (p0 : Int)) rfl rfl (fun _ => rfl) rfl rfl (?_ : wpv K_X0_addRound d P 9 [some (4, (p0 : Int)), some (0, x1), some (0, x2)] [(4, (p0 : Int))] G R V)
    refine wp_getA (k := 2) rfl rfl rfl (ly0_o l0) rfl rfl (ly0_2 l0).1 (?_ : wpv K_X0_addRound d P 12 [some (4, (p0 : Int)), some (0, x1), some (0, x2)] [(4, ((p0 + 3 : Nat) : Int))] G R V)
    refine wp_ld (i := (.iload_n 2)) (0, x2) rfl rfl (fun _ => rfl) rfl rfl (?_ : wpv K_X0_addRound d P 13 [some (4, (p0 : Int)), some (0, x1), some (0, x2)] [(0, x2), (4, ((p0 + 3 : Nat) : Int))] G R V)
    refine wp_p (i := .dup2) rfl rfl (fun _ _ _ => rfl) (?_ : wpv K_X0_addRound d P 14 [some (4, (p0 : Int)), some (0, x1), some (0, x2)] [(0, x2), (4, ((p0 + 3 : Nat) : Int)), (0, x2), (4, ((p0 + 3 : Nat) : Int))] G R V)
    obtain ⟨s3, w⟩ := w
    refine wp_rng (fun vr4 => ?_)
    have f5 : i64 (V (p0 + 3) x2) := vr_a1 vr4 (ly0_2 l0).2 s3
    replace w := w f5
    refine wp_aJ rfl rfl (ly0_2 l0).2 s3 (?_ : wpv K_X0_addRound d P 15 [some (4, (p0 : Int)), some (0, x1), some (0, x2)] [(2, (V (p0 + 3) x2)), (0, x2), (4, ((p0 + 3 : Nat) : Int))] G R V)
    refine wp_ld (i := (.aload_n 0)) (4, (p0 : Int)) rfl rfl (fun _ => rfl) rfl rfl (?_ : wpv K_X0_addRound d P 16 [some (4, (p0 : Int)), some (0, x1), some (0, x2)] [(4, (p0 : Int)), (2, (V (p0 + 3) x2)), (0, x2), (4, ((p0 + 3 : Nat) : Int))] G R V)
    refine wp_getA (k := 2) rfl rfl rfl (ly0_o l0) rfl rfl (ly0_2 l0).1 (?_ : wpv K_X0_addRound d P 19 [some (4, (p0 : Int)), some (0, x1), some (0, x2)] [(4, ((p0 + 3 : Nat) : Int)), (2, (V (p0 + 3) x2)), (0, x2), (4, ((p0 + 3 : Nat) : Int))] G R V)
    refine wp_ld (i := (.iload_n 2)) (0, x2) rfl rfl (fun _ => rfl) rfl rfl (?_ : wpv K_X0_addRound d P 20 [some (4, (p0 : Int)), some (0, x1), some (0, x2)] [(0, x2), (4, ((p0 + 3 : Nat) : Int)), (2, (V (p0 + 3) x2)), (0, x2), (4, ((p0 + 3 : Nat) : Int))] G R V)
    refine wp_ld (i := (.iload_n 1)) (0, x1) rfl rfl (fun _ => rfl) rfl rfl (?_ : wpv K_X0_addRound d P 21 [some (4, (p0 : Int)), some (0, x1), some (0, x2)] [(0, x1), (0, x2), (4, ((p0 + 3 : Nat) : Int)), (2, (V (p0 + 3) x2)), (0, x2), (4, ((p0 + 3 : Nat) : Int))] G R V)
    obtain ⟨s6, w⟩ := w
    refine wp_xsub rfl rfl s6 (?_ : wpv K_X0_addRound d P 22 [some (4, (p0 : Int)), some (0, x1), some (0, x2)] [(0, (x2 - x1)), (4, ((p0 + 3 : Nat) : Int)), (2, (V (p0 + 3) x2)), (0, x2), (4, ((p0 + 3 : Nat) : Int))] G R V)
    obtain ⟨s7, w⟩ := w
    have f8 : i64 (V (p0 + 3) ((x2 - x1))) := vr_a1 vr4 (ly0_2 l0).2 s7
    replace w := w f8
    refine wp_aJ rfl rfl (ly0_2 l0).2 s7 (?_ : wpv K_X0_addRound d P 23 [some (4, (p0 : Int)), some (0, x1), some (0, x2)] [(2, (V (p0 + 3) ((x2 - x1)))), (2, (V (p0 + 3) x2)), (0, x2), (4, ((p0 + 3 : Nat) : Int))] G R V)
    refine wp_jadd rfl rfl (?_ : wpv K_X0_addRound d P 24 [some (4, (p0 : Int)), some (0, x1), some (0, x2)] [(2, (jadd ((V (p0 + 3) x2)) ((V (p0 + 3) ((x2 - x1)))))), (0, x2), (4, ((p0 + 3 : Nat) : Int))] G R V)
    refine wp_sJ rfl rfl (ly0_2 l0).2 s3 (t64 _) (?_ : wpv K_X0_addRound d P 25 [some (4, (p0 : Int)), some (0, x1), some (0, x2)] [] G R (wr V (p0 + 3) x2 ((jadd ((V (p0 + 3) x2)) ((V (p0 + 3) ((x2 - x1))))))))
    obtain ⟨s9, w⟩ := w
    refine wp_inc (x := 2) (k := -1) (a := x2) (c := (x2 - 1)) _ rfl rfl rfl rfl (by have := s9; unfold i32 at *; omega) (by omega) rfl ?_
    show wpv K_X0_addRound d P 28 [some (4, (p0 : Int)), some (0, x1), some (0, (x2 - 1))] [] G R (wr V (p0 + 3) x2 ((jadd ((V (p0 + 3) x2)) ((V (p0 + 3) ((x2 - x1)))))))
    refine wp_go 3 rfl rfl rfl (?_ : wpv K_X0_addRound d P 3 [some (4, (p0 : Int)), some (0, x1), some (0, (x2 - 1))] [] G R (wr V (p0 + 3) x2 ((jadd ((V (p0 + 3) x2)) ((V (p0 + 3) ((x2 - x1))))))))
    exact wp_wk (wk_s (wk_s (wk_s wk_0))) w
theorem t_X0_roundOf_0 {d : Nat} {P : gP} {p0 : Nat} {p1 : Nat} {x2 : Int} {x3 : Int} {G : List gS} {R V : gV} (l0 : lay0 G R p0) (l1 : lay2 G R p1) (w : wpv K_X0_roundOf d P 6 [none, some (4, (p1 : Int)), some (0, x2), some (0, x3), some (0, 0), some (0, 0)] [] G R V) : wpv K_X0_roundOf d P 0 [some (4, (p0 : Int)), some (4, (p1 : Int)), some (0, x2), some (0, x3)] [] G R V := by
  refine wp_p (i := (.iconst 0)) rfl rfl (fun _ _ _ => rfl) (?_ : wpv K_X0_roundOf d P 1 [some (4, (p0 : Int)), some (4, (p1 : Int)), some (0, x2), some (0, x3)] [(0, 0)] G R V)
  refine wp_sto (i := (.istore 4)) _ rfl rfl (fun _ => rfl) rfl rfl rfl ?_
  refine wp_wk (L' := [some (4, (p0 : Int)), some (4, (p1 : Int)), some (0, x2), some (0, x3), some (0, 0)]) (wk_s (wk_s (wk_s (wk_s (wk_s wk_0))))) ?_
  show wpv K_X0_roundOf d P 3 [some (4, (p0 : Int)), some (4, (p1 : Int)), some (0, x2), some (0, x3), some (0, 0)] [] G R V
  refine wp_p (i := (.iconst 0)) rfl rfl (fun _ _ _ => rfl) (?_ : wpv K_X0_roundOf d P 4 [some (4, (p0 : Int)), some (4, (p1 : Int)), some (0, x2), some (0, x3), some (0, 0)] [(0, 0)] G R V)
  refine wp_sto (i := (.istore 5)) _ rfl rfl (fun _ => rfl) rfl rfl rfl ?_
  refine wp_wk (L' := [some (4, (p0 : Int)), some (4, (p1 : Int)), some (0, x2), some (0, x3), some (0, 0), some (0, 0)]) (wk_s (wk_s (wk_s (wk_s (wk_s (wk_s wk_0)))))) ?_
  show wpv K_X0_roundOf d P 6 [some (4, (p0 : Int)), some (4, (p1 : Int)), some (0, x2), some (0, x3), some (0, 0), some (0, 0)] [] G R V
  exact wp_wk (wk_n (wk_s (wk_s (wk_s (wk_s (wk_s wk_0)))))) w

theorem t_X0_roundOf_6 {d : Nat} {P : gP} {p1 : Nat} {x2 : Int} {x3 : Int} {x4 : Int} {x5 : Int} {G : List gS} {R V : gV} (l1 : lay2 G R p1) (w : ((i32 (V (p1 + 1) 1)) → ((i32 x5) ∧ (((¬ x5 < (V (p1 + 1) 1)) → P (some (0, x4)) V) ∧ ((x5 < (V (p1 + 1) 1)) → cwv d (fun r V4 => ∃ v5 : Int, r = some (0, v5) ∧ ((i32 v5) ∧ (((v5 = 0) → ((i32 (x5 + 1)) ∧ wpv K_X0_roundOf d P 6 [none, some (4, (p1 : Int)), some (0, x2), some (0, x3), some (0, x4), some (0, (x5 + 1))] [] G R V4)) ∧ ((¬ v5 = 0) → ((0 ≤ x5 ∧ x5 < 120) ∧ ((i32 (V4 (p1 + 2) x5)) → cwv d (fun r V11 => ∃ v12 : Int, r = some (0, v12) ∧ ((i32 (x5 + 1)) ∧ wpv K_X0_roundOf d P 6 [none, some (4, (p1 : Int)), some (0, x2), some (0, x3), some (0, (kor x4 ((kshl 1 v12)))), some (0, (x5 + 1))] [] G R V11)) 147 [(0, (V4 (p1 + 2) x5)), (0, x3)] G R V4)))))) 59 [(4, ((p1 + 10 : Nat) : Int)), (0, x2), (0, x5)] G R V))))) : wpv K_X0_roundOf d P 6 [none, some (4, (p1 : Int)), some (0, x2), some (0, x3), some (0, x4), some (0, x5)] [] G R V := by
  refine wp_ld (i := (.iload 5)) (0, x5) rfl rfl (fun _ => rfl) rfl rfl (?_ : wpv K_X0_roundOf d P 8 [none, some (4, (p1 : Int)), some (0, x2), some (0, x3), some (0, x4), some (0, x5)] [(0, x5)] G R V)
  refine wp_ld (i := (.aload_n 1)) (4, (p1 : Int)) rfl rfl (fun _ => rfl) rfl rfl (?_ : wpv K_X0_roundOf d P 9 [none, some (4, (p1 : Int)), some (0, x2), some (0, x3), some (0, x4), some (0, x5)] [(4, (p1 : Int)), (0, x5)] G R V)
  refine wp_getA (k := 0) rfl rfl rfl (ly2_o l1) rfl rfl (ly2_0 l1).1 (?_ : wpv K_X0_roundOf d P 12 [none, some (4, (p1 : Int)), some (0, x2), some (0, x3), some (0, x4), some (0, x5)] [(4, ((p1 + 1 : Nat) : Int)), (0, x5)] G R V)
  refine wp_rng (fun vr1 => ?_)
  have f2 : i32 (V (p1 + 1) 1) := vr_f0 vr1 (ly6_o (ly2_0 l1).2) rfl rfl
  replace w := w f2
  refine wp_getI (k := 1) rfl rfl rfl (ly6_o (ly2_0 l1).2) rfl rfl (?_ : wpv K_X0_roundOf d P 15 [none, some (4, (p1 : Int)), some (0, x2), some (0, x3), some (0, x4), some (0, x5)] [(0, (V (p1 + 1) 1)), (0, x5)] G R V)
  obtain ⟨s3, w⟩ := w
  refine wp_icmp (c := .ge) 58 rfl rfl rfl s3 f2 (fun q => ?_) (fun q => ?_)
  · have q : ¬ x5 < (V (p1 + 1) 1) := q
    replace w := w.1 q
    show wpv K_X0_roundOf d P 58 [none, some (4, (p1 : Int)), some (0, x2), some (0, x3), some (0, x4), some (0, x5)] [] G R V
    refine wp_ld (i := (.iload 4)) (0, x4) rfl rfl (fun _ => rfl) rfl rfl (?_ : wpv K_X0_roundOf d P 60 [none, some (4, (p1 : Int)), some (0, x2), some (0, x3), some (0, x4), some (0, x5)] [(0, x4)] G R V)
    exact wp_rI rfl rfl rfl w
  · have q : x5 < (V (p1 + 1) 1) := Decidable.not_not.mp q
    replace w := w.2 q
    show wpv K_X0_roundOf d P 18 [none, some (4, (p1 : Int)), some (0, x2), some (0, x3), some (0, x4), some (0, x5)] [] G R V
    refine wp_ld (i := (.aload_n 1)) (4, (p1 : Int)) rfl rfl (fun _ => rfl) rfl rfl (?_ : wpv K_X0_roundOf d P 19 [none, some (4, (p1 : Int)), some (0, x2), some (0, x3), some (0, x4), some (0, x5)] [(4, (p1 : Int))] G R V)
    refine wp_getA (k := 1) rfl rfl rfl (ly2_o l1) rfl rfl (ly2_1 l1).1 (?_ : wpv K_X0_roundOf d P 22 [none, some (4, (p1 : Int)), some (0, x2), some (0, x3), some (0, x4), some (0, x5)] [(4, ((p1 + 10 : Nat) : Int))] G R V)
    refine wp_ld (i := (.iload_n 2)) (0, x2) rfl rfl (fun _ => rfl) rfl rfl (?_ : wpv K_X0_roundOf d P 23 [none, some (4, (p1 : Int)), some (0, x2), some (0, x3), some (0, x4), some (0, x5)] [(0, x2), (4, ((p1 + 10 : Nat) : Int))] G R V)
    refine wp_ld (i := (.iload 5)) (0, x5) rfl rfl (fun _ => rfl) rfl rfl (?_ : wpv K_X0_roundOf d P 25 [none, some (4, (p1 : Int)), some (0, x2), some (0, x3), some (0, x4), some (0, x5)] [(0, x5), (0, x2), (4, ((p1 + 10 : Nat) : Int))] G R V)
    refine wp_virt (as := [(0, x2), (0, x5)]) (a := p1 + 10) (st := []) _ rfl rfl rfl rfl rfl rfl (ly4_o (ly2_1 l1).2) (Nat.le_of_ble_eq_true rfl) (cwv_kI w (fun v5 V4 w => ?_))
    show wpv K_X0_roundOf d P 28 [none, some (4, (p1 : Int)), some (0, x2), some (0, x3), some (0, x4), some (0, x5)] [(0, v5)] G R V4
    obtain ⟨s6, w⟩ := w
    refine wp_if (c := .eq) 52 rfl rfl rfl s6 (fun q => ?_) (fun q => ?_)
    · have q : v5 = 0 := q
      replace w := w.1 q
      show wpv K_X0_roundOf d P 52 [none, some (4, (p1 : Int)), some (0, x2), some (0, x3), some (0, x4), some (0, x5)] [] G R V4
      obtain ⟨s7, w⟩ := w
      refine wp_inc (x := 5) (k := 1) (a := x5) (c := (x5 + 1)) _ rfl rfl rfl rfl s7 (by omega) rfl ?_
      show wpv K_X0_roundOf d P 55 [none, some (4, (p1 : Int)), some (0, x2), some (0, x3), some (0, x4), some (0, (x5 + 1))] [] G R V4
      refine wp_go 6 rfl rfl rfl (?_ : wpv K_X0_roundOf d P 6 [none, some (4, (p1 : Int)), some (0, x2), some (0, x3), some (0, x4), some (0, (x5 + 1))] [] G R V4)
      exact wp_wk (wk_n (wk_s (wk_s (wk_s (wk_s (wk_s wk_0)))))) w
    · have q : ¬ v5 = 0 := q
      replace w := w.2 q
      show wpv K_X0_roundOf d P 31 [none, some (4, (p1 : Int)), some (0, x2), some (0, x3), some (0, x4), some (0, x5)] [] G R V4
      refine wp_ld (i := (.iload 4)) (0, x4) rfl rfl (fun _ => rfl) rfl rfl (?_ : wpv K_X0_roundOf d P 33 [none, some (4, (p1 : Int)), some (0, x2), some (0, x3), some (0, x4), some (0, x5)] [(0, x4)] G R V4)
      refine wp_p (i := (.iconst 1)) rfl rfl (fun _ _ _ => rfl) (?_ : wpv K_X0_roundOf d P 34 [none, some (4, (p1 : Int)), some (0, x2), some (0, x3), some (0, x4), some (0, x5)] [(0, 1), (0, x4)] G R V4)
      refine wp_ld (i := (.aload_n 1)) (4, (p1 : Int)) rfl rfl (fun _ => rfl) rfl rfl (?_ : wpv K_X0_roundOf d P 35 [none, some (4, (p1 : Int)), some (0, x2), some (0, x3), some (0, x4), some (0, x5)] [(4, (p1 : Int)), (0, 1), (0, x4)] G R V4)
      refine wp_getA (k := 0) rfl rfl rfl (ly2_o l1) rfl rfl (ly2_0 l1).1 (?_ : wpv K_X0_roundOf d P 38 [none, some (4, (p1 : Int)), some (0, x2), some (0, x3), some (0, x4), some (0, x5)] [(4, ((p1 + 1 : Nat) : Int)), (0, 1), (0, x4)] G R V4)
      refine wp_getA (k := 3) rfl rfl rfl (ly6_o (ly2_0 l1).2) rfl rfl (ly6_3 (ly2_0 l1).2).1 (?_ : wpv K_X0_roundOf d P 41 [none, some (4, (p1 : Int)), some (0, x2), some (0, x3), some (0, x4), some (0, x5)] [(4, ((p1 + 2 : Nat) : Int)), (0, 1), (0, x4)] G R V4)
      refine wp_ld (i := (.iload 5)) (0, x5) rfl rfl (fun _ => rfl) rfl rfl (?_ : wpv K_X0_roundOf d P 43 [none, some (4, (p1 : Int)), some (0, x2), some (0, x3), some (0, x4), some (0, x5)] [(0, x5), (4, ((p1 + 2 : Nat) : Int)), (0, 1), (0, x4)] G R V4)
      obtain ⟨s8, w⟩ := w
      refine wp_rng (fun vr9 => ?_)
      have f10 : i32 (V4 (p1 + 2) x5) := vr_a0 vr9 (ly6_3 (ly2_0 l1).2).2 s8
      replace w := w f10
      refine wp_aI rfl rfl (ly6_3 (ly2_0 l1).2).2 s8 (?_ : wpv K_X0_roundOf d P 44 [none, some (4, (p1 : Int)), some (0, x2), some (0, x3), some (0, x4), some (0, x5)] [(0, (V4 (p1 + 2) x5)), (0, 1), (0, x4)] G R V4)
      refine wp_ld (i := (.iload_n 3)) (0, x3) rfl rfl (fun _ => rfl) rfl rfl (?_ : wpv K_X0_roundOf d P 45 [none, some (4, (p1 : Int)), some (0, x2), some (0, x3), some (0, x4), some (0, x5)] [(0, x3), (0, (V4 (p1 + 2) x5)), (0, 1), (0, x4)] G R V4)
      refine wp_stat (as := [(0, (V4 (p1 + 2) x5)), (0, x3)]) (st := [(0, 1), (0, x4)]) _ rfl rfl rfl (by omega) rfl rfl (Nat.le_of_ble_eq_true rfl) (cwv_kI w (fun v12 V11 w => ?_))
      show wpv K_X0_roundOf d P 48 [none, some (4, (p1 : Int)), some (0, x2), some (0, x3), some (0, x4), some (0, x5)] [(0, v12), (0, 1), (0, x4)] G R V11
      refine wp_kshl rfl rfl (?_ : wpv K_X0_roundOf d P 49 [none, some (4, (p1 : Int)), some (0, x2), some (0, x3), some (0, x4), some (0, x5)] [(0, (kshl 1 v12)), (0, x4)] G R V11)
      refine wp_kor rfl rfl (?_ : wpv K_X0_roundOf d P 50 [none, some (4, (p1 : Int)), some (0, x2), some (0, x3), some (0, x4), some (0, x5)] [(0, (kor x4 ((kshl 1 v12))))] G R V11)
      refine wp_sto (i := (.istore 4)) _ rfl rfl (fun _ => rfl) rfl rfl rfl ?_
      refine wp_wk (L' := [none, some (4, (p1 : Int)), some (0, x2), some (0, x3), some (0, (kor x4 ((kshl 1 v12)))), some (0, x5)]) (wk_n (wk_s (wk_s (wk_s (wk_s (wk_s wk_0)))))) ?_
      show wpv K_X0_roundOf d P 52 [none, some (4, (p1 : Int)), some (0, x2), some (0, x3), some (0, (kor x4 ((kshl 1 v12)))), some (0, x5)] [] G R V11
      obtain ⟨s13, w⟩ := w
      refine wp_inc (x := 5) (k := 1) (a := x5) (c := (x5 + 1)) _ rfl rfl rfl rfl s13 (by omega) rfl ?_
      show wpv K_X0_roundOf d P 55 [none, some (4, (p1 : Int)), some (0, x2), some (0, x3), some (0, (kor x4 ((kshl 1 v12)))), some (0, (x5 + 1))] [] G R V11
      refine wp_go 6 rfl rfl rfl (?_ : wpv K_X0_roundOf d P 6 [none, some (4, (p1 : Int)), some (0, x2), some (0, x3), some (0, (kor x4 ((kshl 1 v12)))), some (0, (x5 + 1))] [] G R V11)
      exact wp_wk (wk_n (wk_s (wk_s (wk_s (wk_s (wk_s wk_0)))))) w
