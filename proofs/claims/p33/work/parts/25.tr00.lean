theorem t_X8_in_0 {d : Nat} {P : gP} {x0 : Int} {x2 : Int} {x4 : Int} {G : List gS} {R V : gV}  (w : ((i64 x0) ∧ ((i64 x2) ∧ (((x0 < x2) → P (some (0, 0)) V) ∧ ((¬ x0 < x2) → ((i64 x4) ∧ (((x4 < x0) → P (some (0, 0)) V) ∧ ((¬ x4 < x0) → P (some (0, 1)) V)))))))) : wpv K_X8_in d P 0 [some (2, x0), none, some (2, x2), none, some (2, x4)] [] G R V := by
  refine wp_ld (i := (.lload_n 0)) (2, x0) rfl rfl (fun _ => rfl) rfl rfl (?_ : wpv K_X8_in d P 1 [some (2, x0), none, some (2, x2), none, some (2, x4)] [(2, x0)] G R V)
  refine wp_ld (i := (.lload_n 2)) (2, x2) rfl rfl (fun _ => rfl) rfl rfl (?_ : wpv K_X8_in d P 2 [some (2, x0), none, some (2, x2), none, some (2, x4)] [(2, x2), (2, x0)] G R V)
  obtain ⟨s1, w⟩ := w
  obtain ⟨s2, w⟩ := w
  refine wp_lcmp rfl rfl s1 s2 (?_ : wpv K_X8_in d P 3 [some (2, x0), none, some (2, x2), none, some (2, x4)] [(0, sg x0 x2)] G R V)
  refine wp_if (c := .lt) 17 rfl rfl rfl (sg32 _ _) (fun q => ?_) (fun q => ?_)
  · have q : x0 < x2 := sg_lt.mp q
    replace w := w.1 q
    show wpv K_X8_in d P 17 [some (2, x0), none, some (2, x2), none, some (2, x4)] [] G R V
    refine wp_p (i := (.iconst 0)) rfl rfl (fun _ _ _ => rfl) (?_ : wpv K_X8_in d P 18 [some (2, x0), none, some (2, x2), none, some (2, x4)] [(0, 0)] G R V)
    exact wp_rB rfl rfl rfl (by omega) w
  · have q : ¬ x0 < x2 := fun z => q (sg_lt.mpr z)
    replace w := w.2 q
    show wpv K_X8_in d P 6 [some (2, x0), none, some (2, x2), none, some (2, x4)] [] G R V
    refine wp_ld (i := (.lload_n 0)) (2, x0) rfl rfl (fun _ => rfl) rfl rfl (?_ : wpv K_X8_in d P 7 [some (2, x0), none, some (2, x2), none, some (2, x4)] [(2, x0)] G R V)
    refine wp_ld (i := (.lload 4)) (2, x4) rfl rfl (fun _ => rfl) rfl rfl (?_ : wpv K_X8_in d P 9 [some (2, x0), none, some (2, x2), none, some (2, x4)] [(2, x4), (2, x0)] G R V)
    obtain ⟨s3, w⟩ := w
    refine wp_lcmp rfl rfl s1 s3 (?_ : wpv K_X8_in d P 10 [some (2, x0), none, some (2, x2), none, some (2, x4)] [(0, sg x0 x4)] G R V)
    refine wp_if (c := .gt) 17 rfl rfl rfl (sg32 _ _) (fun q => ?_) (fun q => ?_)
    · have q : x4 < x0 := sg_gt.mp q
      replace w := w.1 q
      show wpv K_X8_in d P 17 [some (2, x0), none, some (2, x2), none, some (2, x4)] [] G R V
      refine wp_p (i := (.iconst 0)) rfl rfl (fun _ _ _ => rfl) (?_ : wpv K_X8_in d P 18 [some (2, x0), none, some (2, x2), none, some (2, x4)] [(0, 0)] G R V)
      exact wp_rB rfl rfl rfl (by omega) w
    · have q : ¬ x4 < x0 := fun z => q (sg_gt.mpr z)
      replace w := w.2 q
      show wpv K_X8_in d P 13 [some (2, x0), none, some (2, x2), none, some (2, x4)] [] G R V
      refine wp_p (i := (.iconst 1)) rfl rfl (fun _ _ _ => rfl) (?_ : wpv K_X8_in d P 14 [some (2, x0), none, some (2, x2), none, some (2, x4)] [(0, 1)] G R V)
      refine wp_go 18 rfl rfl rfl (?_ : wpv K_X8_in d P 18 [some (2, x0), none, some (2, x2), none, some (2, x4)] [(0, 1)] G R V)
      exact wp_rB rfl rfl rfl (by omega) w
theorem t_X8_ends_0 {d : Nat} {P : gP} {p0 : Nat} {x1 : Int} {G : List gS} {R V : gV} (l0 : lay8 G R p0) (w : ((i32 x1) ∧ (((¬ x1 < 0) → P (some (0, x1)) (wr V p0 0 0)) ∧ ((x1 < 0) → P (some (0, x1)) (wr V p0 0 x1))))) : wpv K_X8_ends d P 0 [some (4, (p0 : Int)), some (0, x1)] [] G R V := by
  refine wp_ld (i := (.aload_n 0)) (4, (p0 : Int)) rfl rfl (fun _ => rfl) rfl rfl (?_ : wpv K_X8_ends d P 1 [some (4, (p0 : Int)), some (0, x1)] [(4, (p0 : Int))] G R V)
  refine wp_ld (i := (.iload_n 1)) (0, x1) rfl rfl (fun _ => rfl) rfl rfl (?_ : wpv K_X8_ends d P 2 [some (4, (p0 : Int)), some (0, x1)] [(0, x1), (4, (p0 : Int))] G R V)
  obtain ⟨s1, w⟩ := w
  refine wp_if (c := .ge) 9 rfl rfl rfl s1 (fun q => ?_) (fun q => ?_)
  · have q : ¬ x1 < 0 := q
    replace w := w.1 q
    show wpv K_X8_ends d P 9 [some (4, (p0 : Int)), some (0, x1)] [(4, (p0 : Int))] G R V
    refine wp_p (i := (.iconst 0)) rfl rfl (fun _ _ _ => rfl) (?_ : wpv K_X8_ends d P 10 [some (4, (p0 : Int)), some (0, x1)] [(0, 0), (4, (p0 : Int))] G R V)
    refine wp_putI (k := 0) rfl rfl rfl (ly8_o l0) rfl rfl rfl ⟨by omega, by omega⟩ (?_ : wpv K_X8_ends d P 13 [some (4, (p0 : Int)), some (0, x1)] [] G R (wr V p0 0 0))
    refine wp_ld (i := (.iload_n 1)) (0, x1) rfl rfl (fun _ => rfl) rfl rfl (?_ : wpv K_X8_ends d P 14 [some (4, (p0 : Int)), some (0, x1)] [(0, x1)] G R (wr V p0 0 0))
    exact wp_rI rfl rfl rfl w
  · have q : x1 < 0 := Decidable.not_not.mp q
    replace w := w.2 q
    show wpv K_X8_ends d P 5 [some (4, (p0 : Int)), some (0, x1)] [(4, (p0 : Int))] G R V
    refine wp_ld (i := (.iload_n 1)) (0, x1) rfl rfl (fun _ => rfl) rfl rfl (?_ : wpv K_X8_ends d P 6 [some (4, (p0 : Int)), some (0, x1)] [(0, x1), (4, (p0 : Int))] G R V)
    refine wp_go 10 rfl rfl rfl (?_ : wpv K_X8_ends d P 10 [some (4, (p0 : Int)), some (0, x1)] [(0, x1), (4, (p0 : Int))] G R V)
    refine wp_putI (k := 0) rfl rfl rfl (ly8_o l0) rfl rfl rfl s1 (?_ : wpv K_X8_ends d P 13 [some (4, (p0 : Int)), some (0, x1)] [] G R (wr V p0 0 x1))
    refine wp_ld (i := (.iload_n 1)) (0, x1) rfl rfl (fun _ => rfl) rfl rfl (?_ : wpv K_X8_ends d P 14 [some (4, (p0 : Int)), some (0, x1)] [(0, x1)] G R (wr V p0 0 x1))
    exact wp_rI rfl rfl rfl w
theorem t_X8_endsLong_0 {d : Nat} {P : gP} {p0 : Nat} {x1 : Int} {G : List gS} {R V : gV} (l0 : lay8 G R p0) (w : ((i64 x1) ∧ (((¬ x1 < 0) → P (some (2, x1)) (wr V p0 0 0)) ∧ ((x1 < 0) → P (some (2, x1)) (wr V p0 0 ((kl2i x1))))))) : wpv K_X8_endsLong d P 0 [some (4, (p0 : Int)), some (2, x1)] [] G R V := by
  refine wp_ld (i := (.aload_n 0)) (4, (p0 : Int)) rfl rfl (fun _ => rfl) rfl rfl (?_ : wpv K_X8_endsLong d P 1 [some (4, (p0 : Int)), some (2, x1)] [(4, (p0 : Int))] G R V)
  refine wp_ld (i := (.lload_n 1)) (2, x1) rfl rfl (fun _ => rfl) rfl rfl (?_ : wpv K_X8_endsLong d P 2 [some (4, (p0 : Int)), some (2, x1)] [(2, x1), (4, (p0 : Int))] G R V)
  refine wp_p (i := (.lconst 0)) rfl rfl (fun _ _ _ => rfl) (?_ : wpv K_X8_endsLong d P 3 [some (4, (p0 : Int)), some (2, x1)] [(2, 0), (2, x1), (4, (p0 : Int))] G R V)
  obtain ⟨s1, w⟩ := w
  refine wp_lcmp rfl rfl s1 ⟨by omega, by omega⟩ (?_ : wpv K_X8_endsLong d P 4 [some (4, (p0 : Int)), some (2, x1)] [(0, sg x1 0), (4, (p0 : Int))] G R V)
  refine wp_if (c := .ge) 12 rfl rfl rfl (sg32 _ _) (fun q => ?_) (fun q => ?_)
  · have q : ¬ x1 < 0 := fun z => q (sg_lt.mpr z)
    replace w := w.1 q
    show wpv K_X8_endsLong d P 12 [some (4, (p0 : Int)), some (2, x1)] [(4, (p0 : Int))] G R V
    refine wp_p (i := (.iconst 0)) rfl rfl (fun _ _ _ => rfl) (?_ : wpv K_X8_endsLong d P 13 [some (4, (p0 : Int)), some (2, x1)] [(0, 0), (4, (p0 : Int))] G R V)
    refine wp_putI (k := 0) rfl rfl rfl (ly8_o l0) rfl rfl rfl ⟨by omega, by omega⟩ (?_ : wpv K_X8_endsLong d P 16 [some (4, (p0 : Int)), some (2, x1)] [] G R (wr V p0 0 0))
    refine wp_ld (i := (.lload_n 1)) (2, x1) rfl rfl (fun _ => rfl) rfl rfl (?_ : wpv K_X8_endsLong d P 17 [some (4, (p0 : Int)), some (2, x1)] [(2, x1)] G R (wr V p0 0 0))
    exact wp_rJ rfl rfl rfl w
  · have q : x1 < 0 := sg_lt.mp (Decidable.not_not.mp q)
    replace w := w.2 q
    show wpv K_X8_endsLong d P 7 [some (4, (p0 : Int)), some (2, x1)] [(4, (p0 : Int))] G R V
    refine wp_ld (i := (.lload_n 1)) (2, x1) rfl rfl (fun _ => rfl) rfl rfl (?_ : wpv K_X8_endsLong d P 8 [some (4, (p0 : Int)), some (2, x1)] [(2, x1), (4, (p0 : Int))] G R V)
    refine wp_kl2i rfl rfl (?_ : wpv K_X8_endsLong d P 9 [some (4, (p0 : Int)), some (2, x1)] [(0, (kl2i x1)), (4, (p0 : Int))] G R V)
    refine wp_go 13 rfl rfl rfl (?_ : wpv K_X8_endsLong d P 13 [some (4, (p0 : Int)), some (2, x1)] [(0, (kl2i x1)), (4, (p0 : Int))] G R V)
    refine wp_putI (k := 0) rfl rfl rfl (ly8_o l0) rfl rfl rfl (t32 _) (?_ : wpv K_X8_endsLong d P 16 [some (4, (p0 : Int)), some (2, x1)] [] G R (wr V p0 0 ((kl2i x1))))
    refine wp_ld (i := (.lload_n 1)) (2, x1) rfl rfl (fun _ => rfl) rfl rfl (?_ : wpv K_X8_endsLong d P 17 [some (4, (p0 : Int)), some (2, x1)] [(2, x1)] G R (wr V p0 0 ((kl2i x1))))
    exact wp_rJ rfl rfl rfl w
theorem t_X8_sheet_0 {d : Nat} {P : gP} {p0 : Nat} {x1 : Int} {x2 : Int} {x3 : Int} {G : List gS} {R V : gV} (l0 : lay8 G R p0) (w : ((i32 x1) ∧ cwv d (fun r V2 => ∃ v3 : Int, r = some (0, v3) ∧ ((i32 v3) ∧ (((v3 = 0) → cwv d (fun r V5 => ∃ v6 : Int, r = some (0, v6) ∧ P (some (0, v6)) V5) 160 [(4, (p0 : Int)), (0, (-1))] G R V2) ∧ ((¬ v3 = 0) → ((i32 x2) ∧ cwv d (fun r V8 => ∃ v9 : Int, r = some (0, v9) ∧ ((i32 v9) ∧ (((v9 = 0) → cwv d (fun r V11 => ∃ v12 : Int, r = some (0, v12) ∧ P (some (0, v12)) V11) 160 [(4, (p0 : Int)), (0, (-1))] G R V8) ∧ ((¬ v9 = 0) → ((i32 x3) ∧ (((¬ 8 < x3) → ((0 ≤ x1 ∧ x1 < 4) ∧ (((¬ x3 < 0) → wpv K_X8_sheet d P 71 [some (4, (p0 : Int)), some (0, x1), none, some (0, x3), some (0, 0)] [] G R (wr (wr (wr V8 (p0 + 2) x1 ((-1))) (p0 + 1) x1 x2) (p0 + 2) x1 x3)) ∧ ((x3 < 0) → cwv d (fun r V15 => ∃ v16 : Int, r = some (0, v16) ∧ P (some (0, v16)) V15) 160 [(4, (p0 : Int)), (0, (-4))] G R (wr V8 (p0 + 2) x1 ((-1))))))) ∧ ((8 < x3) → cwv d (fun r V17 => ∃ v18 : Int, r = some (0, v18) ∧ P (some (0, v18)) V17) 160 [(4, (p0 : Int)), (0, (-1))] G R V8))))))) 159 [(2, x2), (2, 0), (2, 2)] G R V2))))) 159 [(2, x1), (2, 0), (2, 3)] G R V)) : wpv K_X8_sheet d P 0 [some (4, (p0 : Int)), some (0, x1), some (0, x2), some (0, x3)] [] G R V := by
  refine wp_ld (i := (.iload_n 1)) (0, x1) rfl rfl (fun _ => rfl) rfl rfl (?_ : wpv K_X8_sheet d P 1 [some (4, (p0 : Int)), some (0, x1), some (0, x2), some (0, x3)] [(0, x1)] G R V)
  obtain ⟨s1, w⟩ := w
  refine wp_i2l rfl rfl s1 (?_ : wpv K_X8_sheet d P 2 [some (4, (p0 : Int)), some (0, x1), some (0, x2), some (0, x3)] [(2, x1)] G R V)
  refine wp_p (i := (.lconst 0)) rfl rfl (fun _ _ _ => rfl) (?_ : wpv K_X8_sheet d P 3 [some (4, (p0 : Int)), some (0, x1), some (0, x2), some (0, x3)] [(2, 0), (2, x1)] G R V)
  refine wp_p (i := (.ldc2_w 7)) rfl rfl (fun _ _ _ => rfl) (?_ : wpv K_X8_sheet d P 6 [some (4, (p0 : Int)), some (0, x1), some (0, x2), some (0, x3)] [(2, 3), (2, 0), (2, x1)] G R V)
  refine wp_stat (as := [(2, x1), (2, 0), (2, 3)]) (st := []) _ rfl rfl rfl (by omega) rfl rfl (Nat.le_of_ble_eq_true rfl) (cwv_kI w (fun v3 V2 w => ?_))
  show wpv K_X8_sheet d P 9 [some (4, (p0 : Int)), some (0, x1), some (0, x2), some (0, x3)] [(0, v3)] G R V2
  obtain ⟨s4, w⟩ := w
  refine wp_if (c := .eq) 30 rfl rfl rfl s4 (fun q => ?_) (fun q => ?_)
  · have q : v3 = 0 := q
    replace w := w.1 q
    show wpv K_X8_sheet d P 30 [some (4, (p0 : Int)), some (0, x1), some (0, x2), some (0, x3)] [] G R V2
    refine wp_ld (i := (.aload_n 0)) (4, (p0 : Int)) rfl rfl (fun _ => rfl) rfl rfl (?_ : wpv K_X8_sheet d P 31 [some (4, (p0 : Int)), some (0, x1), some (0, x2), some (0, x3)] [(4, (p0 : Int))] G R V2)
    refine wp_p (i := (.iconst (-1))) rfl rfl (fun _ _ _ => rfl) (?_ : wpv K_X8_sheet d P 32 [some (4, (p0 : Int)), some (0, x1), some (0, x2), some (0, x3)] [(0, (-1)), (4, (p0 : Int))] G R V2)
    refine wp_virt (as := [(0, (-1))]) (a := p0) (st := []) _ rfl rfl rfl rfl rfl rfl (ly8_o l0) (Nat.le_of_ble_eq_true rfl) (cwv_kI w (fun v6 V5 w => ?_))
    show wpv K_X8_sheet d P 35 [some (4, (p0 : Int)), some (0, x1), some (0, x2), some (0, x3)] [(0, v6)] G R V5
    exact wp_rI rfl rfl rfl w
  · have q : ¬ v3 = 0 := q
    replace w := w.2 q
    show wpv K_X8_sheet d P 12 [some (4, (p0 : Int)), some (0, x1), some (0, x2), some (0, x3)] [] G R V2
    refine wp_ld (i := (.iload_n 2)) (0, x2) rfl rfl (fun _ => rfl) rfl rfl (?_ : wpv K_X8_sheet d P 13 [some (4, (p0 : Int)), some (0, x1), some (0, x2), some (0, x3)] [(0, x2)] G R V2)
    obtain ⟨s7, w⟩ := w
    refine wp_i2l rfl rfl s7 (?_ : wpv K_X8_sheet d P 14 [some (4, (p0 : Int)), some (0, x1), some (0, x2), some (0, x3)] [(2, x2)] G R V2)
    refine wp_p (i := (.lconst 0)) rfl rfl (fun _ _ _ => rfl) (?_ : wpv K_X8_sheet d P 15 [some (4, (p0 : Int)), some (0, x1), some (0, x2), some (0, x3)] [(2, 0), (2, x2)] G R V2)
    refine wp_p (i := (.ldc2_w 13)) rfl rfl (fun _ _ _ => rfl) (?_ : wpv K_X8_sheet d P 18 [some (4, (p0 : Int)), some (0, x1), some (0, x2), some (0, x3)] [(2, 2), (2, 0), (2, x2)] G R V2)
    refine wp_stat (as := [(2, x2), (2, 0), (2, 2)]) (st := []) _ rfl rfl rfl (by omega) rfl rfl (Nat.le_of_ble_eq_true rfl) (cwv_kI w (fun v9 V8 w => ?_))
    show wpv K_X8_sheet d P 21 [some (4, (p0 : Int)), some (0, x1), some (0, x2), some (0, x3)] [(0, v9)] G R V8
    obtain ⟨s10, w⟩ := w
    refine wp_if (c := .eq) 30 rfl rfl rfl s10 (fun q => ?_) (fun q => ?_)
    · have q : v9 = 0 := q
      replace w := w.1 q
      show wpv K_X8_sheet d P 30 [some (4, (p0 : Int)), some (0, x1), some (0, x2), some (0, x3)] [] G R V8
      refine wp_ld (i := (.aload_n 0)) (4, (p0 : Int)) rfl rfl (fun _ => rfl) rfl rfl (?_ : wpv K_X8_sheet d P 31 [some (4, (p0 : Int)), some (0, x1), some (0, x2), some (0, x3)] [(4, (p0 : Int))] G R V8)
      refine wp_p (i := (.iconst (-1))) rfl rfl (fun _ _ _ => rfl) (?_ : wpv K_X8_sheet d P 32 [some (4, (p0 : Int)), some (0, x1), some (0, x2), some (0, x3)] [(0, (-1)), (4, (p0 : Int))] G R V8)
      refine wp_virt (as := [(0, (-1))]) (a := p0) (st := []) _ rfl rfl rfl rfl rfl rfl (ly8_o l0) (Nat.le_of_ble_eq_true rfl) (cwv_kI w (fun v12 V11 w => ?_))
      show wpv K_X8_sheet d P 35 [some (4, (p0 : Int)), some (0, x1), some (0, x2), some (0, x3)] [(0, v12)] G R V11
      exact wp_rI rfl rfl rfl w
    · have q : ¬ v9 = 0 := q
      replace w := w.2 q
      show wpv K_X8_sheet d P 24 [some (4, (p0 : Int)), some (0, x1), some (0, x2), some (0, x3)] [] G R V8
      refine wp_ld (i := (.iload_n 3)) (0, x3) rfl rfl (fun _ => rfl) rfl rfl (?_ : wpv K_X8_sheet d P 25 [some (4, (p0 : Int)), some (0, x1), some (0, x2), some (0, x3)] [(0, x3)] G R V8)
      refine wp_p (i := (.bipush 8)) rfl rfl (fun _ _ _ => rfl) (?_ : wpv K_X8_sheet d P 27 [some (4, (p0 : Int)), some (0, x1), some (0, x2), some (0, x3)] [(0, 8), (0, x3)] G R V8)
      obtain ⟨s13, w⟩ := w
      refine wp_icmp (c := .le) 36 rfl rfl rfl s13 ⟨by omega, by omega⟩ (fun q => ?_) (fun q => ?_)
      · have q : ¬ 8 < x3 := q
        replace w := w.1 q
        show wpv K_X8_sheet d P 36 [some (4, (p0 : Int)), some (0, x1), some (0, x2), some (0, x3)] [] G R V8
        refine wp_ld (i := (.aload_n 0)) (4, (p0 : Int)) rfl rfl (fun _ => rfl) rfl rfl (?_ : wpv K_X8_sheet d P 37 [some (4, (p0 : Int)), some (0, x1), some (0, x2), some (0, x3)] [(4, (p0 : Int))] G R V8)
        refine wp_getA (k := 2) rfl rfl rfl (ly8_o l0) rfl rfl (ly8_2 l0).1 (?_ : wpv K_X8_sheet d P 40 [some (4, (p0 : Int)), some (0, x1), some (0, x2), some (0, x3)] [(4, ((p0 + 2 : Nat) : Int))] G R V8)
        refine wp_ld (i := (.iload_n 1)) (0, x1) rfl rfl (fun _ => rfl) rfl rfl (?_ : wpv K_X8_sheet d P 41 [some (4, (p0 : Int)), some (0, x1), some (0, x2), some (0, x3)] [(0, x1), (4, ((p0 + 2 : Nat) : Int))] G R V8)
        refine wp_p (i := (.iconst (-1))) rfl rfl (fun _ _ _ => rfl) (?_ : wpv K_X8_sheet d P 42 [some (4, (p0 : Int)), some (0, x1), some (0, x2), some (0, x3)] [(0, (-1)), (0, x1), (4, ((p0 + 2 : Nat) : Int))] G R V8)
        obtain ⟨s14, w⟩ := w
        refine wp_sI rfl rfl (ly8_2 l0).2 s14 ⟨by omega, by omega⟩ (?_ : wpv K_X8_sheet d P 43 [some (4, (p0 : Int)), some (0, x1), some (0, x2), some (0, x3)] [] G R (wr V8 (p0 + 2) x1 ((-1))))
        refine wp_ld (i := (.iload_n 3)) (0, x3) rfl rfl (fun _ => rfl) rfl rfl (?_ : wpv K_X8_sheet d P 44 [some (4, (p0 : Int)), some (0, x1), some (0, x2), some (0, x3)] [(0, x3)] G R (wr V8 (p0 + 2) x1 ((-1))))
        refine wp_if (c := .ge) 54 rfl rfl rfl s13 (fun q => ?_) (fun q => ?_)
        · have q : ¬ x3 < 0 := q
          replace w := w.1 q
          show wpv K_X8_sheet d P 54 [some (4, (p0 : Int)), some (0, x1), some (0, x2), some (0, x3)] [] G R (wr V8 (p0 + 2) x1 ((-1)))
          refine wp_ld (i := (.aload_n 0)) (4, (p0 : Int)) rfl rfl (fun _ => rfl) rfl rfl (?_ : wpv K_X8_sheet d P 55 [some (4, (p0 : Int)), some (0, x1), some (0, x2), some (0, x3)] [(4, (p0 : Int))] G R (wr V8 (p0 + 2) x1 ((-1))))
          refine wp_getA (k := 1) rfl rfl rfl (ly8_o l0) rfl rfl (ly8_1 l0).1 (?_ : wpv K_X8_sheet d P 58 [some (4, (p0 : Int)), some (0, x1), some (0, x2), some (0, x3)] [(4, ((p0 + 1 : Nat) : Int))] G R (wr V8 (p0 + 2) x1 ((-1))))
          refine wp_ld (i := (.iload_n 1)) (0, x1) rfl rfl (fun _ => rfl) rfl rfl (?_ : wpv K_X8_sheet d P 59 [some (4, (p0 : Int)), some (0, x1), some (0, x2), some (0, x3)] [(0, x1), (4, ((p0 + 1 : Nat) : Int))] G R (wr V8 (p0 + 2) x1 ((-1))))
          refine wp_ld (i := (.iload_n 2)) (0, x2) rfl rfl (fun _ => rfl) rfl rfl (?_ : wpv K_X8_sheet d P 60 [some (4, (p0 : Int)), some (0, x1), some (0, x2), some (0, x3)] [(0, x2), (0, x1), (4, ((p0 + 1 : Nat) : Int))] G R (wr V8 (p0 + 2) x1 ((-1))))
          refine wp_sI rfl rfl (ly8_1 l0).2 s14 s7 (?_ : wpv K_X8_sheet d P 61 [some (4, (p0 : Int)), some (0, x1), some (0, x2), some (0, x3)] [] G R (wr (wr V8 (p0 + 2) x1 ((-1))) (p0 + 1) x1 x2))
          refine wp_ld (i := (.aload_n 0)) (4, (p0 : Int)) rfl rfl (fun _ => rfl) rfl rfl (?_ : wpv K_X8_sheet d P 62 [some (4, (p0 : Int)), some (0, x1), some (0, x2), some (0, x3)] [(4, (p0 : Int))] G R (wr (wr V8 (p0 + 2) x1 ((-1))) (p0 + 1) x1 x2))
          refine wp_getA (k := 2) rfl rfl rfl (ly8_o l0) rfl rfl (ly8_2 l0).1 (?_ : wpv K_X8_sheet d P 65 [some (4, (p0 : Int)), some (0, x1), some (0, x2), some (0, x3)] [(4, ((p0 + 2 : Nat) : Int))] G R (wr (wr V8 (p0 + 2) x1 ((-1))) (p0 + 1) x1 x2))
          refine wp_ld (i := (.iload_n 1)) (0, x1) rfl rfl (fun _ => rfl) rfl rfl (?_ : wpv K_X8_sheet d P 66 [some (4, (p0 : Int)), some (0, x1), some (0, x2), some (0, x3)] [(0, x1), (4, ((p0 + 2 : Nat) : Int))] G R (wr (wr V8 (p0 + 2) x1 ((-1))) (p0 + 1) x1 x2))
          refine wp_ld (i := (.iload_n 3)) (0, x3) rfl rfl (fun _ => rfl) rfl rfl (?_ : wpv K_X8_sheet d P 67 [some (4, (p0 : Int)), some (0, x1), some (0, x2), some (0, x3)] [(0, x3), (0, x1), (4, ((p0 + 2 : Nat) : Int))] G R (wr (wr V8 (p0 + 2) x1 ((-1))) (p0 + 1) x1 x2))
          refine wp_sI rfl rfl (ly8_2 l0).2 s14 s13 (?_ : wpv K_X8_sheet d P 68 [some (4, (p0 : Int)), some (0, x1), some (0, x2), some (0, x3)] [] G R (wr (wr (wr V8 (p0 + 2) x1 ((-1))) (p0 + 1) x1 x2) (p0 + 2) x1 x3))
          refine wp_p (i := (.iconst 0)) rfl rfl (fun _ _ _ => rfl) (?_ : wpv K_X8_sheet d P 69 [some (4, (p0 : Int)), some (0, x1), some (0, x2), some (0, x3)] [(0, 0)] G R (wr (wr (wr V8 (p0 + 2) x1 ((-1))) (p0 + 1) x1 x2) (p0 + 2) x1 x3))
          refine wp_sto (i := (.istore 4)) _ rfl rfl (fun _ => rfl) rfl rfl rfl ?_
          refine wp_wk (L' := [some (4, (p0 : Int)), some (0, x1), some (0, x2), some (0, x3), some (0, 0)]) (wk_s (wk_s (wk_s (wk_s (wk_s wk_0))))) ?_
          show wpv K_X8_sheet d P 71 [some (4, (p0 : Int)), some (0, x1), some (0, x2), some (0, x3), some (0, 0)] [] G R (wr (wr (wr V8 (p0 + 2) x1 ((-1))) (p0 + 1) x1 x2) (p0 + 2) x1 x3)
          exact wp_wk (wk_s (wk_s (wk_n (wk_s (wk_s wk_0))))) w
        · have q : x3 < 0 := Decidable.not_not.mp q
          replace w := w.2 q
          show wpv K_X8_sheet d P 47 [some (4, (p0 : Int)), some (0, x1), some (0, x2), some (0, x3)] [] G R (wr V8 (p0 + 2) x1 ((-1)))
          refine wp_ld (i := (.aload_n 0)) (4, (p0 : Int)) rfl rfl (fun _ => rfl) rfl rfl (?_ : wpv K_X8_sheet d P 48 [some (4, (p0 : Int)), some (0, x1), some (0, x2), some (0, x3)] [(4, (p0 : Int))] G R (wr V8 (p0 + 2) x1 ((-1))))
          refine wp_p (i := (.bipush (-4))) rfl rfl (fun _ _ _ => rfl) (?_ : wpv K_X8_sheet d P 50 [some (4, (p0 : Int)), some (0, x1), some (0, x2), some (0, x3)] [(0, (-4)), (4, (p0 : Int))] G R (wr V8 (p0 + 2) x1 ((-1))))
          refine wp_virt (as := [(0, (-4))]) (a := p0) (st := []) _ rfl rfl rfl rfl rfl rfl (ly8_o l0) (Nat.le_of_ble_eq_true rfl) (cwv_kI w (fun v16 V15 w => ?_))
          show wpv K_X8_sheet d P 53 [some (4, (p0 : Int)), some (0, x1), some (0, x2), some (0, x3)] [(0, v16)] G R V15
          exact wp_rI rfl rfl rfl w
      · have q : 8 < x3 := Decidable.not_not.mp q
        replace w := w.2 q
        show wpv K_X8_sheet d P 30 [some (4, (p0 : Int)), some (0, x1), some (0, x2), some (0, x3)] [] G R V8
        refine wp_ld (i := (.aload_n 0)) (4, (p0 : Int)) rfl rfl (fun _ => rfl) rfl rfl (?_ : wpv K_X8_sheet d P 31 [some (4, (p0 : Int)), some (0, x1), some (0, x2), some (0, x3)] [(4, (p0 : Int))] G R V8)
        refine wp_p (i := (.iconst (-1))) rfl rfl (fun _ _ _ => rfl) (?_ : wpv K_X8_sheet d P 32 [some (4, (p0 : Int)), some (0, x1), some (0, x2), some (0, x3)] [(0, (-1)), (4, (p0 : Int))] G R V8)
        refine wp_virt (as := [(0, (-1))]) (a := p0) (st := []) _ rfl rfl rfl rfl rfl rfl (ly8_o l0) (Nat.le_of_ble_eq_true rfl) (cwv_kI w (fun v18 V17 w => ?_))
        show wpv K_X8_sheet d P 35 [some (4, (p0 : Int)), some (0, x1), some (0, x2), some (0, x3)] [(0, v18)] G R V17
        exact wp_rI rfl rfl rfl w

theorem t_X8_sheet_71 {d : Nat} {P : gP} {p0 : Nat} {x1 : Int} {x3 : Int} {x4 : Int} {G : List gS} {R V : gV} (l0 : lay8 G R p0) (w : ((i32 x4) ∧ (((¬ x4 < 8) → cwv d (fun r V2 => ∃ v3 : Int, r = some (0, v3) ∧ P (some (0, v3)) V2) 160 [(4, (p0 : Int)), (0, x3)] G R V) ∧ ((x4 < 8) → ((i32 (8 * x1)) ∧ ((i32 ((8 * x1) + x4)) ∧ ((0 ≤ ((8 * x1) + x4) ∧ ((8 * x1) + x4) < 32) ∧ ((i32 (x4 + 1)) ∧ wpv K_X8_sheet d P 71 [some (4, (p0 : Int)), some (0, x1), none, some (0, x3), some (0, (x4 + 1))] [] G R (wr V (p0 + 3) (((8 * x1) + x4)) 0))))))))) : wpv K_X8_sheet d P 71 [some (4, (p0 : Int)), some (0, x1), none, some (0, x3), some (0, x4)] [] G R V := by
  refine wp_ld (i := (.iload 4)) (0, x4) rfl rfl (fun _ => rfl) rfl rfl (?_ : wpv K_X8_sheet d P 73 [some (4, (p0 : Int)), some (0, x1), none, some (0, x3), some (0, x4)] [(0, x4)] G R V)
  refine wp_p (i := (.bipush 8)) rfl rfl (fun _ _ _ => rfl) (?_ : wpv K_X8_sheet d P 75 [some (4, (p0 : Int)), some (0, x1), none, some (0, x3), some (0, x4)] [(0, 8), (0, x4)] G R V)
  obtain ⟨s1, w⟩ := w
  refine wp_icmp (c := .ge) 97 rfl rfl rfl s1 ⟨by omega, by omega⟩ (fun q => ?_) (fun q => ?_)
  · have q : ¬ x4 < 8 := q
    replace w := w.1 q
    show wpv K_X8_sheet d P 97 [some (4, (p0 : Int)), some (0, x1), none, some (0, x3), some (0, x4)] [] G R V
    refine wp_ld (i := (.aload_n 0)) (4, (p0 : Int)) rfl rfl (fun _ => rfl) rfl rfl (?_ : wpv K_X8_sheet d P 98 [some (4, (p0 : Int)), some (0, x1), none, some (0, x3), some (0, x4)] [(4, (p0 : Int))] G R V)
    refine wp_ld (i := (.iload_n 3)) (0, x3) rfl rfl (fun _ => rfl) rfl rfl (?_ : wpv K_X8_sheet d P 99 [some (4, (p0 : Int)), some (0, x1), none, some (0, x3), some (0, x4)] [(0, x3), (4, (p0 : Int))] G R V)
    refine wp_virt (as := [(0, x3)]) (a := p0) (st := []) _ rfl rfl rfl rfl rfl rfl (ly8_o l0) (Nat.le_of_ble_eq_true rfl) (cwv_kI w (fun v3 V2 w => ?_))
    show wpv K_X8_sheet d P 102 [some (4, (p0 : Int)), some (0, x1), none, some (0, x3), some (0, x4)] [(0, v3)] G R V2
    exact wp_rI rfl rfl rfl w
  · have q : x4 < 8 := Decidable.not_not.mp q
    replace w := w.2 q
    show wpv K_X8_sheet d P 78 [some (4, (p0 : Int)), some (0, x1), none, some (0, x3), some (0, x4)] [] G R V
    refine wp_ld (i := (.aload_n 0)) (4, (p0 : Int)) rfl rfl (fun _ => rfl) rfl rfl (?_ : wpv K_X8_sheet d P 79 [some (4, (p0 : Int)), some (0, x1), none, some (0, x3), some (0, x4)] [(4, (p0 : Int))] G R V)
    refine wp_getA (k := 3) rfl rfl rfl (ly8_o l0) rfl rfl (ly8_3 l0).1 (?_ : wpv K_X8_sheet d P 82 [some (4, (p0 : Int)), some (0, x1), none, some (0, x3), some (0, x4)] [(4, ((p0 + 3 : Nat) : Int))] G R V)
    refine wp_p (i := (.bipush 8)) rfl rfl (fun _ _ _ => rfl) (?_ : wpv K_X8_sheet d P 84 [some (4, (p0 : Int)), some (0, x1), none, some (0, x3), some (0, x4)] [(0, 8), (4, ((p0 + 3 : Nat) : Int))] G R V)
    refine wp_ld (i := (.iload_n 1)) (0, x1) rfl rfl (fun _ => rfl) rfl rfl (?_ : wpv K_X8_sheet d P 85 [some (4, (p0 : Int)), some (0, x1), none, some (0, x3), some (0, x4)] [(0, x1), (0, 8), (4, ((p0 + 3 : Nat) : Int))] G R V)
    obtain ⟨s4, w⟩ := w
    refine wp_xmul rfl rfl s4 (?_ : wpv K_X8_sheet d P 86 [some (4, (p0 : Int)), some (0, x1), none, some (0, x3), some (0, x4)] [(0, (8 * x1)), (4, ((p0 + 3 : Nat) : Int))] G R V)
    refine wp_ld (i := (.iload 4)) (0, x4) rfl rfl (fun _ => rfl) rfl rfl (?_ : wpv K_X8_sheet d P 88 [some (4, (p0 : Int)), some (0, x1), none, some (0, x3), some (0, x4)] [(0, x4), (0, (8 * x1)), (4, ((p0 + 3 : Nat) : Int))] G R V)
    obtain ⟨s5, w⟩ := w
    refine wp_xadd rfl rfl s5 (?_ : wpv K_X8_sheet d P 89 [some (4, (p0 : Int)), some (0, x1), none, some (0, x3), some (0, x4)] [(0, ((8 * x1) + x4)), (4, ((p0 + 3 : Nat) : Int))] G R V)
    refine wp_p (i := (.iconst 0)) rfl rfl (fun _ _ _ => rfl) (?_ : wpv K_X8_sheet d P 90 [some (4, (p0 : Int)), some (0, x1), none, some (0, x3), some (0, x4)] [(0, 0), (0, ((8 * x1) + x4)), (4, ((p0 + 3 : Nat) : Int))] G R V)
    obtain ⟨s6, w⟩ := w
    refine wp_sI rfl rfl (ly8_3 l0).2 s6 ⟨by omega, by omega⟩ (?_ : wpv K_X8_sheet d P 91 [some (4, (p0 : Int)), some (0, x1), none, some (0, x3), some (0, x4)] [] G R (wr V (p0 + 3) (((8 * x1) + x4)) 0))
    obtain ⟨s7, w⟩ := w
    refine wp_inc (x := 4) (k := 1) (a := x4) (c := (x4 + 1)) _ rfl rfl rfl rfl s7 (by omega) rfl ?_
    show wpv K_X8_sheet d P 94 [some (4, (p0 : Int)), some (0, x1), none, some (0, x3), some (0, (x4 + 1))] [] G R (wr V (p0 + 3) (((8 * x1) + x4)) 0)
    refine wp_go 71 rfl rfl rfl (?_ : wpv K_X8_sheet d P 71 [some (4, (p0 : Int)), some (0, x1), none, some (0, x3), some (0, (x4 + 1))] [] G R (wr V (p0 + 3) (((8 * x1) + x4)) 0))
    exact wp_wk (wk_s (wk_s (wk_n (wk_s (wk_s wk_0))))) w
theorem t_X8_write_0 {d : Nat} {P : gP} {p0 : Nat} {x1 : Int} {x2 : Int} {x3 : Int} {G : List gS} {R V : gV} (l0 : lay8 G R p0) (w : ((i32 x1) ∧ cwv d (fun r V2 => ∃ v3 : Int, r = some (0, v3) ∧ ((i32 v3) ∧ (((¬ v3 = 0) → ((0 ≤ x1 ∧ x1 < 4) ∧ ((i32 (V2 (p0 + 2) x1)) → (((¬ (V2 (p0 + 2) x1) = (-1)) → ((i32 x2) ∧ ((i32 ((V2 (p0 + 2) x1) - 1)) ∧ cwv d (fun r V10 => ∃ v11 : Int, r = some (0, v11) ∧ ((i32 v11) ∧ (((¬ v11 = 0) → ((i32 (8 * x1)) ∧ ((i32 ((8 * x1) + x2)) ∧ ((i32 (V10 (p0 + 1) x1)) → (((¬ (V10 (p0 + 1) x1) = 0) → (((¬ (V10 (p0 + 1) x1) = 1) → ((0 ≤ ((8 * x1) + x2) ∧ ((8 * x1) + x2) < 32) ∧ ((i32 x3) ∧ cwv d (fun r V19 => ∃ v20 : Int, r = some (0, v20) ∧ P (some (0, v20)) V19) 160 [(4, (p0 : Int)), (0, 0)] G R (wr V10 (p0 + 3) (((8 * x1) + x2)) x3)))) ∧ (((V10 (p0 + 1) x1) = 1) → ((0 ≤ ((8 * x1) + x2) ∧ ((8 * x1) + x2) < 32) ∧ cwv d (fun r V22 => ∃ v23 : Int, r = some (0, v23) ∧ P (some (0, v23)) V22) 160 [(4, (p0 : Int)), (0, 0)] G R (wr V10 (p0 + 3) (((8 * x1) + x2)) ((ki2s x3))))))) ∧ (((V10 (p0 + 1) x1) = 0) → ((0 ≤ ((8 * x1) + x2) ∧ ((8 * x1) + x2) < 32) ∧ cwv d (fun r V25 => ∃ v26 : Int, r = some (0, v26) ∧ P (some (0, v26)) V25) 160 [(4, (p0 : Int)), (0, 0)] G R (wr V10 (p0 + 3) (((8 * x1) + x2)) ((ki2b x3)))))))))) ∧ ((v11 = 0) → cwv d (fun r V27 => ∃ v28 : Int, r = some (0, v28) ∧ P (some (0, v28)) V27) 160 [(4, (p0 : Int)), (0, (-3))] G R V10)))) 159 [(2, x2), (2, 0), (2, ((V2 (p0 + 2) x1) - 1))] G R V2))) ∧ (((V2 (p0 + 2) x1) = (-1)) → cwv d (fun r V29 => ∃ v30 : Int, r = some (0, v30) ∧ P (some (0, v30)) V29) 160 [(4, (p0 : Int)), (0, (-2))] G R V2))))) ∧ ((v3 = 0) → cwv d (fun r V31 => ∃ v32 : Int, r = some (0, v32) ∧ P (some (0, v32)) V31) 160 [(4, (p0 : Int)), (0, (-1))] G R V2)))) 159 [(2, x1), (2, 0), (2, 3)] G R V)) : wpv K_X8_write d P 0 [some (4, (p0 : Int)), some (0, x1), some (0, x2), some (0, x3)] [] G R V := by
  refine wp_ld (i := (.iload_n 1)) (0, x1) rfl rfl (fun _ => rfl) rfl rfl (?_ : wpv K_X8_write d P 1 [some (4, (p0 : Int)), some (0, x1), some (0, x2), some (0, x3)] [(0, x1)] G R V)
  obtain ⟨s1, w⟩ := w
  refine wp_i2l rfl rfl s1 (?_ : wpv K_X8_write d P 2 [some (4, (p0 : Int)), some (0, x1), some (0, x2), some (0, x3)] [(2, x1)] G R V)
  refine wp_p (i := (.lconst 0)) rfl rfl (fun _ _ _ => rfl) (?_ : wpv K_X8_write d P 3 [some (4, (p0 : Int)), some (0, x1), some (0, x2), some (0, x3)] [(2, 0), (2, x1)] G R V)
  refine wp_p (i := (.ldc2_w 7)) rfl rfl (fun _ _ _ => rfl) (?_ : wpv K_X8_write d P 6 [some (4, (p0 : Int)), some (0, x1), some (0, x2), some (0, x3)] [(2, 3), (2, 0), (2, x1)] G R V)
  refine wp_stat (as := [(2, x1), (2, 0), (2, 3)]) (st := []) _ rfl rfl rfl (by omega) rfl rfl (Nat.le_of_ble_eq_true rfl) (cwv_kI w (fun v3 V2 w => ?_))
  show wpv K_X8_write d P 9 [some (4, (p0 : Int)), some (0, x1), some (0, x2), some (0, x3)] [(0, v3)] G R V2
  obtain ⟨s4, w⟩ := w
  refine wp_if (c := .ne) 18 rfl rfl rfl s4 (fun q => ?_) (fun q => ?_)
  · have q : ¬ v3 = 0 := q
    replace w := w.1 q
    show wpv K_X8_write d P 18 [some (4, (p0 : Int)), some (0, x1), some (0, x2), some (0, x3)] [] G R V2
    refine wp_ld (i := (.aload_n 0)) (4, (p0 : Int)) rfl rfl (fun _ => rfl) rfl rfl (?_ : wpv K_X8_write d P 19 [some (4, (p0 : Int)), some (0, x1), some (0, x2), some (0, x3)] [(4, (p0 : Int))] G R V2)
    refine wp_getA (k := 2) rfl rfl rfl (ly8_o l0) rfl rfl (ly8_2 l0).1 (?_ : wpv K_X8_write d P 22 [some (4, (p0 : Int)), some (0, x1), some (0, x2), some (0, x3)] [(4, ((p0 + 2 : Nat) : Int))] G R V2)
    refine wp_ld (i := (.iload_n 1)) (0, x1) rfl rfl (fun _ => rfl) rfl rfl (?_ : wpv K_X8_write d P 23 [some (4, (p0 : Int)), some (0, x1), some (0, x2), some (0, x3)] [(0, x1), (4, ((p0 + 2 : Nat) : Int))] G R V2)
    obtain ⟨s5, w⟩ := w
    refine wp_rng (fun vr6 => ?_)
    have f7 : i32 (V2 (p0 + 2) x1) := vr_a0 vr6 (ly8_2 l0).2 s5
    replace w := w f7
    refine wp_aI rfl rfl (ly8_2 l0).2 s5 (?_ : wpv K_X8_write d P 24 [some (4, (p0 : Int)), some (0, x1), some (0, x2), some (0, x3)] [(0, (V2 (p0 + 2) x1))] G R V2)
    refine wp_p (i := (.iconst (-1))) rfl rfl (fun _ _ _ => rfl) (?_ : wpv K_X8_write d P 25 [some (4, (p0 : Int)), some (0, x1), some (0, x2), some (0, x3)] [(0, (-1)), (0, (V2 (p0 + 2) x1))] G R V2)
    refine wp_icmp (c := .ne) 35 rfl rfl rfl f7 ⟨by omega, by omega⟩ (fun q => ?_) (fun q => ?_)
    · have q : ¬ (V2 (p0 + 2) x1) = (-1) := q
      replace w := w.1 q
      show wpv K_X8_write d P 35 [some (4, (p0 : Int)), some (0, x1), some (0, x2), some (0, x3)] [] G R V2
      refine wp_ld (i := (.iload_n 2)) (0, x2) rfl rfl (fun _ => rfl) rfl rfl (?_ : wpv K_X8_write d P 36 [some (4, (p0 : Int)), some (0, x1), some (0, x2), some (0, x3)] [(0, x2)] G R V2)
      obtain ⟨s8, w⟩ := w
      refine wp_i2l rfl rfl s8 (?_ : wpv K_X8_write d P 37 [some (4, (p0 : Int)), some (0, x1), some (0, x2), some (0, x3)] [(2, x2)] G R V2)
      refine wp_p (i := (.lconst 0)) rfl rfl (fun _ _ _ => rfl) (?_ : wpv K_X8_write d P 38 [some (4, (p0 : Int)), some (0, x1), some (0, x2), some (0, x3)] [(2, 0), (2, x2)] G R V2)
      refine wp_ld (i := (.aload_n 0)) (4, (p0 : Int)) rfl rfl (fun _ => rfl) rfl rfl (?_ : wpv K_X8_write d P 39 [some (4, (p0 : Int)), some (0, x1), some (0, x2), some (0, x3)] [(4, (p0 : Int)), (2, 0), (2, x2)] G R V2)
      refine wp_getA (k := 2) rfl rfl rfl (ly8_o l0) rfl rfl (ly8_2 l0).1 (?_ : wpv K_X8_write d P 42 [some (4, (p0 : Int)), some (0, x1), some (0, x2), some (0, x3)] [(4, ((p0 + 2 : Nat) : Int)), (2, 0), (2, x2)] G R V2)
      refine wp_ld (i := (.iload_n 1)) (0, x1) rfl rfl (fun _ => rfl) rfl rfl (?_ : wpv K_X8_write d P 43 [some (4, (p0 : Int)), some (0, x1), some (0, x2), some (0, x3)] [(0, x1), (4, ((p0 + 2 : Nat) : Int)), (2, 0), (2, x2)] G R V2)
      refine wp_aI rfl rfl (ly8_2 l0).2 s5 (?_ : wpv K_X8_write d P 44 [some (4, (p0 : Int)), some (0, x1), some (0, x2), some (0, x3)] [(0, (V2 (p0 + 2) x1)), (2, 0), (2, x2)] G R V2)
      refine wp_p (i := (.iconst 1)) rfl rfl (fun _ _ _ => rfl) (?_ : wpv K_X8_write d P 45 [some (4, (p0 : Int)), some (0, x1), some (0, x2), some (0, x3)] [(0, 1), (0, (V2 (p0 + 2) x1)), (2, 0), (2, x2)] G R V2)
      obtain ⟨s9, w⟩ := w
      refine wp_xsub rfl rfl s9 (?_ : wpv K_X8_write d P 46 [some (4, (p0 : Int)), some (0, x1), some (0, x2), some (0, x3)] [(0, ((V2 (p0 + 2) x1) - 1)), (2, 0), (2, x2)] G R V2)
      refine wp_i2l rfl rfl s9 (?_ : wpv K_X8_write d P 47 [some (4, (p0 : Int)), some (0, x1), some (0, x2), some (0, x3)] [(2, ((V2 (p0 + 2) x1) - 1)), (2, 0), (2, x2)] G R V2)
      refine wp_stat (as := [(2, x2), (2, 0), (2, ((V2 (p0 + 2) x1) - 1))]) (st := []) _ rfl rfl rfl (by omega) rfl rfl (Nat.le_of_ble_eq_true rfl) (cwv_kI w (fun v11 V10 w => ?_))
      show wpv K_X8_write d P 50 [some (4, (p0 : Int)), some (0, x1), some (0, x2), some (0, x3)] [(0, v11)] G R V10
      obtain ⟨s12, w⟩ := w
      refine wp_if (c := .ne) 60 rfl rfl rfl s12 (fun q => ?_) (fun q => ?_)
      · have q : ¬ v11 = 0 := q
        replace w := w.1 q
        show wpv K_X8_write d P 60 [some (4, (p0 : Int)), some (0, x1), some (0, x2), some (0, x3)] [] G R V10
        refine wp_ld (i := (.aload_n 0)) (4, (p0 : Int)) rfl rfl (fun _ => rfl) rfl rfl (?_ : wpv K_X8_write d P 61 [some (4, (p0 : Int)), some (0, x1), some (0, x2), some (0, x3)] [(4, (p0 : Int))] G R V10)
        refine wp_getA (k := 3) rfl rfl rfl (ly8_o l0) rfl rfl (ly8_3 l0).1 (?_ : wpv K_X8_write d P 64 [some (4, (p0 : Int)), some (0, x1), some (0, x2), some (0, x3)] [(4, ((p0 + 3 : Nat) : Int))] G R V10)
        refine wp_p (i := (.bipush 8)) rfl rfl (fun _ _ _ => rfl) (?_ : wpv K_X8_write d P 66 [some (4, (p0 : Int)), some (0, x1), some (0, x2), some (0, x3)] [(0, 8), (4, ((p0 + 3 : Nat) : Int))] G R V10)
        refine wp_ld (i := (.iload_n 1)) (0, x1) rfl rfl (fun _ => rfl) rfl rfl (?_ : wpv K_X8_write d P 67 [some (4, (p0 : Int)), some (0, x1), some (0, x2), some (0, x3)] [(0, x1), (0, 8), (4, ((p0 + 3 : Nat) : Int))] G R V10)
        obtain ⟨s13, w⟩ := w
        refine wp_xmul rfl rfl s13 (?_ : wpv K_X8_write d P 68 [some (4, (p0 : Int)), some (0, x1), some (0, x2), some (0, x3)] [(0, (8 * x1)), (4, ((p0 + 3 : Nat) : Int))] G R V10)
        refine wp_ld (i := (.iload_n 2)) (0, x2) rfl rfl (fun _ => rfl) rfl rfl (?_ : wpv K_X8_write d P 69 [some (4, (p0 : Int)), some (0, x1), some (0, x2), some (0, x3)] [(0, x2), (0, (8 * x1)), (4, ((p0 + 3 : Nat) : Int))] G R V10)
        obtain ⟨s14, w⟩ := w
        refine wp_xadd rfl rfl s14 (?_ : wpv K_X8_write d P 70 [some (4, (p0 : Int)), some (0, x1), some (0, x2), some (0, x3)] [(0, ((8 * x1) + x2)), (4, ((p0 + 3 : Nat) : Int))] G R V10)
        refine wp_ld (i := (.aload_n 0)) (4, (p0 : Int)) rfl rfl (fun _ => rfl) rfl rfl (?_ : wpv K_X8_write d P 71 [some (4, (p0 : Int)), some (0, x1), some (0, x2), some (0, x3)] [(4, (p0 : Int)), (0, ((8 * x1) + x2)), (4, ((p0 + 3 : Nat) : Int))] G R V10)
        refine wp_getA (k := 1) rfl rfl rfl (ly8_o l0) rfl rfl (ly8_1 l0).1 (?_ : wpv K_X8_write d P 74 [some (4, (p0 : Int)), some (0, x1), some (0, x2), some (0, x3)] [(4, ((p0 + 1 : Nat) : Int)), (0, ((8 * x1) + x2)), (4, ((p0 + 3 : Nat) : Int))] G R V10)
        refine wp_ld (i := (.iload_n 1)) (0, x1) rfl rfl (fun _ => rfl) rfl rfl (?_ : wpv K_X8_write d P 75 [some (4, (p0 : Int)), some (0, x1), some (0, x2), some (0, x3)] [(0, x1), (4, ((p0 + 1 : Nat) : Int)), (0, ((8 * x1) + x2)), (4, ((p0 + 3 : Nat) : Int))] G R V10)
        refine wp_rng (fun vr15 => ?_)
        have f16 : i32 (V10 (p0 + 1) x1) := vr_a0 vr15 (ly8_1 l0).2 s5
        replace w := w f16
        refine wp_aI rfl rfl (ly8_1 l0).2 s5 (?_ : wpv K_X8_write d P 76 [some (4, (p0 : Int)), some (0, x1), some (0, x2), some (0, x3)] [(0, (V10 (p0 + 1) x1)), (0, ((8 * x1) + x2)), (4, ((p0 + 3 : Nat) : Int))] G R V10)
        refine wp_if (c := .ne) 84 rfl rfl rfl f16 (fun q => ?_) (fun q => ?_)
        · have q : ¬ (V10 (p0 + 1) x1) = 0 := q
          replace w := w.1 q
          show wpv K_X8_write d P 84 [some (4, (p0 : Int)), some (0, x1), some (0, x2), some (0, x3)] [(0, ((8 * x1) + x2)), (4, ((p0 + 3 : Nat) : Int))] G R V10
          refine wp_ld (i := (.aload_n 0)) (4, (p0 : Int)) rfl rfl (fun _ => rfl) rfl rfl (?_ : wpv K_X8_write d P 85 [some (4, (p0 : Int)), some (0, x1), some (0, x2), some (0, x3)] [(4, (p0 : Int)), (0, ((8 * x1) + x2)), (4, ((p0 + 3 : Nat) : Int))] G R V10)
          refine wp_getA (k := 1) rfl rfl rfl (ly8_o l0) rfl rfl (ly8_1 l0).1 (?_ : wpv K_X8_write d P 88 [some (4, (p0 : Int)), some (0, x1), some (0, x2), some (0, x3)] [(4, ((p0 + 1 : Nat) : Int)), (0, ((8 * x1) + x2)), (4, ((p0 + 3 : Nat) : Int))] G R V10)
          refine wp_ld (i := (.iload_n 1)) (0, x1) rfl rfl (fun _ => rfl) rfl rfl (?_ : wpv K_X8_write d P 89 [some (4, (p0 : Int)), some (0, x1), some (0, x2), some (0, x3)] [(0, x1), (4, ((p0 + 1 : Nat) : Int)), (0, ((8 * x1) + x2)), (4, ((p0 + 3 : Nat) : Int))] G R V10)
          refine wp_aI rfl rfl (ly8_1 l0).2 s5 (?_ : wpv K_X8_write d P 90 [some (4, (p0 : Int)), some (0, x1), some (0, x2), some (0, x3)] [(0, (V10 (p0 + 1) x1)), (0, ((8 * x1) + x2)), (4, ((p0 + 3 : Nat) : Int))] G R V10)
          refine wp_p (i := (.iconst 1)) rfl rfl (fun _ _ _ => rfl) (?_ : wpv K_X8_write d P 91 [some (4, (p0 : Int)), some (0, x1), some (0, x2), some (0, x3)] [(0, 1), (0, (V10 (p0 + 1) x1)), (0, ((8 * x1) + x2)), (4, ((p0 + 3 : Nat) : Int))] G R V10)
          refine wp_icmp (c := .ne) 99 rfl rfl rfl f16 ⟨by omega, by omega⟩ (fun q => ?_) (fun q => ?_)
          · have q : ¬ (V10 (p0 + 1) x1) = 1 := q
            replace w := w.1 q
            show wpv K_X8_write d P 99 [some (4, (p0 : Int)), some (0, x1), some (0, x2), some (0, x3)] [(0, ((8 * x1) + x2)), (4, ((p0 + 3 : Nat) : Int))] G R V10
            refine wp_ld (i := (.iload_n 3)) (0, x3) rfl rfl (fun _ => rfl) rfl rfl (?_ : wpv K_X8_write d P 100 [some (4, (p0 : Int)), some (0, x1), some (0, x2), some (0, x3)] [(0, x3), (0, ((8 * x1) + x2)), (4, ((p0 + 3 : Nat) : Int))] G R V10)
            obtain ⟨s17, w⟩ := w
            obtain ⟨s18, w⟩ := w
            refine wp_sI rfl rfl (ly8_3 l0).2 s17 s18 (?_ : wpv K_X8_write d P 101 [some (4, (p0 : Int)), some (0, x1), some (0, x2), some (0, x3)] [] G R (wr V10 (p0 + 3) (((8 * x1) + x2)) x3))
            refine wp_ld (i := (.aload_n 0)) (4, (p0 : Int)) rfl rfl (fun _ => rfl) rfl rfl (?_ : wpv K_X8_write d P 102 [some (4, (p0 : Int)), some (0, x1), some (0, x2), some (0, x3)] [(4, (p0 : Int))] G R (wr V10 (p0 + 3) (((8 * x1) + x2)) x3))
            refine wp_p (i := (.iconst 0)) rfl rfl (fun _ _ _ => rfl) (?_ : wpv K_X8_write d P 103 [some (4, (p0 : Int)), some (0, x1), some (0, x2), some (0, x3)] [(0, 0), (4, (p0 : Int))] G R (wr V10 (p0 + 3) (((8 * x1) + x2)) x3))
            refine wp_virt (as := [(0, 0)]) (a := p0) (st := []) _ rfl rfl rfl rfl rfl rfl (ly8_o l0) (Nat.le_of_ble_eq_true rfl) (cwv_kI w (fun v20 V19 w => ?_))
            show wpv K_X8_write d P 106 [some (4, (p0 : Int)), some (0, x1), some (0, x2), some (0, x3)] [(0, v20)] G R V19
            exact wp_rI rfl rfl rfl w
          · have q : (V10 (p0 + 1) x1) = 1 := Decidable.not_not.mp q
            replace w := w.2 q
            show wpv K_X8_write d P 94 [some (4, (p0 : Int)), some (0, x1), some (0, x2), some (0, x3)] [(0, ((8 * x1) + x2)), (4, ((p0 + 3 : Nat) : Int))] G R V10
            refine wp_ld (i := (.iload_n 3)) (0, x3) rfl rfl (fun _ => rfl) rfl rfl (?_ : wpv K_X8_write d P 95 [some (4, (p0 : Int)), some (0, x1), some (0, x2), some (0, x3)] [(0, x3), (0, ((8 * x1) + x2)), (4, ((p0 + 3 : Nat) : Int))] G R V10)
            refine wp_ki2s rfl rfl (?_ : wpv K_X8_write d P 96 [some (4, (p0 : Int)), some (0, x1), some (0, x2), some (0, x3)] [(0, (ki2s x3)), (0, ((8 * x1) + x2)), (4, ((p0 + 3 : Nat) : Int))] G R V10)
            refine wp_go 100 rfl rfl rfl (?_ : wpv K_X8_write d P 100 [some (4, (p0 : Int)), some (0, x1), some (0, x2), some (0, x3)] [(0, (ki2s x3)), (0, ((8 * x1) + x2)), (4, ((p0 + 3 : Nat) : Int))] G R V10)
            obtain ⟨s21, w⟩ := w
            refine wp_sI rfl rfl (ly8_3 l0).2 s21 (t32 _) (?_ : wpv K_X8_write d P 101 [some (4, (p0 : Int)), some (0, x1), some (0, x2), some (0, x3)] [] G R (wr V10 (p0 + 3) (((8 * x1) + x2)) ((ki2s x3))))
            refine wp_ld (i := (.aload_n 0)) (4, (p0 : Int)) rfl rfl (fun _ => rfl) rfl rfl (?_ : wpv K_X8_write d P 102 [some (4, (p0 : Int)), some (0, x1), some (0, x2), some (0, x3)] [(4, (p0 : Int))] G R (wr V10 (p0 + 3) (((8 * x1) + x2)) ((ki2s x3))))
            refine wp_p (i := (.iconst 0)) rfl rfl (fun _ _ _ => rfl) (?_ : wpv K_X8_write d P 103 [some (4, (p0 : Int)), some (0, x1), some (0, x2), some (0, x3)] [(0, 0), (4, (p0 : Int))] G R (wr V10 (p0 + 3) (((8 * x1) + x2)) ((ki2s x3))))
            refine wp_virt (as := [(0, 0)]) (a := p0) (st := []) _ rfl rfl rfl rfl rfl rfl (ly8_o l0) (Nat.le_of_ble_eq_true rfl) (cwv_kI w (fun v23 V22 w => ?_))
            show wpv K_X8_write d P 106 [some (4, (p0 : Int)), some (0, x1), some (0, x2), some (0, x3)] [(0, v23)] G R V22
            exact wp_rI rfl rfl rfl w
        · have q : (V10 (p0 + 1) x1) = 0 := Decidable.not_not.mp q
          replace w := w.2 q
          show wpv K_X8_write d P 79 [some (4, (p0 : Int)), some (0, x1), some (0, x2), some (0, x3)] [(0, ((8 * x1) + x2)), (4, ((p0 + 3 : Nat) : Int))] G R V10
          refine wp_ld (i := (.iload_n 3)) (0, x3) rfl rfl (fun _ => rfl) rfl rfl (?_ : wpv K_X8_write d P 80 [some (4, (p0 : Int)), some (0, x1), some (0, x2), some (0, x3)] [(0, x3), (0, ((8 * x1) + x2)), (4, ((p0 + 3 : Nat) : Int))] G R V10)
          refine wp_ki2b rfl rfl (?_ : wpv K_X8_write d P 81 [some (4, (p0 : Int)), some (0, x1), some (0, x2), some (0, x3)] [(0, (ki2b x3)), (0, ((8 * x1) + x2)), (4, ((p0 + 3 : Nat) : Int))] G R V10)
          refine wp_go 100 rfl rfl rfl (?_ : wpv K_X8_write d P 100 [some (4, (p0 : Int)), some (0, x1), some (0, x2), some (0, x3)] [(0, (ki2b x3)), (0, ((8 * x1) + x2)), (4, ((p0 + 3 : Nat) : Int))] G R V10)
          obtain ⟨s24, w⟩ := w
          refine wp_sI rfl rfl (ly8_3 l0).2 s24 (t32 _) (?_ : wpv K_X8_write d P 101 [some (4, (p0 : Int)), some (0, x1), some (0, x2), some (0, x3)] [] G R (wr V10 (p0 + 3) (((8 * x1) + x2)) ((ki2b x3))))
          refine wp_ld (i := (.aload_n 0)) (4, (p0 : Int)) rfl rfl (fun _ => rfl) rfl rfl (?_ : wpv K_X8_write d P 102 [some (4, (p0 : Int)), some (0, x1), some (0, x2), some (0, x3)] [(4, (p0 : Int))] G R (wr V10 (p0 + 3) (((8 * x1) + x2)) ((ki2b x3))))
          refine wp_p (i := (.iconst 0)) rfl rfl (fun _ _ _ => rfl) (?_ : wpv K_X8_write d P 103 [some (4, (p0 : Int)), some (0, x1), some (0, x2), some (0, x3)] [(0, 0), (4, (p0 : Int))] G R (wr V10 (p0 + 3) (((8 * x1) + x2)) ((ki2b x3))))
          refine wp_virt (as := [(0, 0)]) (a := p0) (st := []) _ rfl rfl rfl rfl rfl rfl (ly8_o l0) (Nat.le_of_ble_eq_true rfl) (cwv_kI w (fun v26 V25 w => ?_))
          show wpv K_X8_write d P 106 [some (4, (p0 : Int)), some (0, x1), some (0, x2), some (0, x3)] [(0, v26)] G R V25
          exact wp_rI rfl rfl rfl w
      · have q : v11 = 0 := Decidable.not_not.mp q
        replace w := w.2 q
        show wpv K_X8_write d P 53 [some (4, (p0 : Int)), some (0, x1), some (0, x2), some (0, x3)] [] G R V10
        refine wp_ld (i := (.aload_n 0)) (4, (p0 : Int)) rfl rfl (fun _ => rfl) rfl rfl (?_ : wpv K_X8_write d P 54 [some (4, (p0 : Int)), some (0, x1), some (0, x2), some (0, x3)] [(4, (p0 : Int))] G R V10)
        refine wp_p (i := (.bipush (-3))) rfl rfl (fun _ _ _ => rfl) (?_ : wpv K_X8_write d P 56 [some (4, (p0 : Int)), some (0, x1), some (0, x2), some (0, x3)] [(0, (-3)), (4, (p0 : Int))] G R V10)
        refine wp_virt (as := [(0, (-3))]) (a := p0) (st := []) _ rfl rfl rfl rfl rfl rfl (ly8_o l0) (Nat.le_of_ble_eq_true rfl) (cwv_kI w (fun v28 V27 w => ?_))
        show wpv K_X8_write d P 59 [some (4, (p0 : Int)), some (0, x1), some (0, x2), some (0, x3)] [(0, v28)] G R V27
        exact wp_rI rfl rfl rfl w
    · have q : (V2 (p0 + 2) x1) = (-1) := Decidable.not_not.mp q
      replace w := w.2 q
      show wpv K_X8_write d P 28 [some (4, (p0 : Int)), some (0, x1), some (0, x2), some (0, x3)] [] G R V2
      refine wp_ld (i := (.aload_n 0)) (4, (p0 : Int)) rfl rfl (fun _ => rfl) rfl rfl (?_ : wpv K_X8_write d P 29 [some (4, (p0 : Int)), some (0, x1), some (0, x2), some (0, x3)] [(4, (p0 : Int))] G R V2)
      refine wp_p (i := (.bipush (-2))) rfl rfl (fun _ _ _ => rfl) (?_ : wpv K_X8_write d P 31 [some (4, (p0 : Int)), some (0, x1), some (0, x2), some (0, x3)] [(0, (-2)), (4, (p0 : Int))] G R V2)
      refine wp_virt (as := [(0, (-2))]) (a := p0) (st := []) _ rfl rfl rfl rfl rfl rfl (ly8_o l0) (Nat.le_of_ble_eq_true rfl) (cwv_kI w (fun v30 V29 w => ?_))
      show wpv K_X8_write d P 34 [some (4, (p0 : Int)), some (0, x1), some (0, x2), some (0, x3)] [(0, v30)] G R V29
      exact wp_rI rfl rfl rfl w
  · have q : v3 = 0 := Decidable.not_not.mp q
    replace w := w.2 q
    show wpv K_X8_write d P 12 [some (4, (p0 : Int)), some (0, x1), some (0, x2), some (0, x3)] [] G R V2
    refine wp_ld (i := (.aload_n 0)) (4, (p0 : Int)) rfl rfl (fun _ => rfl) rfl rfl (?_ : wpv K_X8_write d P 13 [some (4, (p0 : Int)), some (0, x1), some (0, x2), some (0, x3)] [(4, (p0 : Int))] G R V2)
    refine wp_p (i := (.iconst (-1))) rfl rfl (fun _ _ _ => rfl) (?_ : wpv K_X8_write d P 14 [some (4, (p0 : Int)), some (0, x1), some (0, x2), some (0, x3)] [(0, (-1)), (4, (p0 : Int))] G R V2)
    refine wp_virt (as := [(0, (-1))]) (a := p0) (st := []) _ rfl rfl rfl rfl rfl rfl (ly8_o l0) (Nat.le_of_ble_eq_true rfl) (cwv_kI w (fun v32 V31 w => ?_))
    show wpv K_X8_write d P 17 [some (4, (p0 : Int)), some (0, x1), some (0, x2), some (0, x3)] [(0, v32)] G R V31
    exact wp_rI rfl rfl rfl w
theorem t_X8_newPlace_0 {d : Nat} {P : gP} {p0 : Nat} {x1 : Int} {x2 : Int} {G : List gS} {R V : gV} (l0 : lay8 G R p0) (w : ((i32 (8 * x1)) ∧ ((i32 ((8 * x1) + x2)) ∧ ((0 ≤ ((8 * x1) + x2) ∧ ((8 * x1) + x2) < 1000) ∧ ((i32 (V (p0 + 7) (((8 * x1) + x2)))) → P (some (0, (V (p0 + 7) (((8 * x1) + x2))))) V))))) : wpv K_X8_newPlace d P 0 [some (4, (p0 : Int)), some (0, x1), some (0, x2)] [] G R V := by
  refine wp_ld (i := (.aload_n 0)) (4, (p0 : Int)) rfl rfl (fun _ => rfl) rfl rfl (?_ : wpv K_X8_newPlace d P 1 [some (4, (p0 : Int)), some (0, x1), some (0, x2)] [(4, (p0 : Int))] G R V)
  refine wp_getA (k := 9) rfl rfl rfl (ly8_o l0) rfl rfl (ly8_9 l0).1 (?_ : wpv K_X8_newPlace d P 4 [some (4, (p0 : Int)), some (0, x1), some (0, x2)] [(4, ((p0 + 7 : Nat) : Int))] G R V)
  refine wp_p (i := (.bipush 8)) rfl rfl (fun _ _ _ => rfl) (?_ : wpv K_X8_newPlace d P 6 [some (4, (p0 : Int)), some (0, x1), some (0, x2)] [(0, 8), (4, ((p0 + 7 : Nat) : Int))] G R V)
  refine wp_ld (i := (.iload_n 1)) (0, x1) rfl rfl (fun _ => rfl) rfl rfl (?_ : wpv K_X8_newPlace d P 7 [some (4, (p0 : Int)), some (0, x1), some (0, x2)] [(0, x1), (0, 8), (4, ((p0 + 7 : Nat) : Int))] G R V)
  obtain ⟨s1, w⟩ := w
  refine wp_xmul rfl rfl s1 (?_ : wpv K_X8_newPlace d P 8 [some (4, (p0 : Int)), some (0, x1), some (0, x2)] [(0, (8 * x1)), (4, ((p0 + 7 : Nat) : Int))] G R V)
  refine wp_ld (i := (.iload_n 2)) (0, x2) rfl rfl (fun _ => rfl) rfl rfl (?_ : wpv K_X8_newPlace d P 9 [some (4, (p0 : Int)), some (0, x1), some (0, x2)] [(0, x2), (0, (8 * x1)), (4, ((p0 + 7 : Nat) : Int))] G R V)
  obtain ⟨s2, w⟩ := w
  refine wp_xadd rfl rfl s2 (?_ : wpv K_X8_newPlace d P 10 [some (4, (p0 : Int)), some (0, x1), some (0, x2)] [(0, ((8 * x1) + x2)), (4, ((p0 + 7 : Nat) : Int))] G R V)
  obtain ⟨s3, w⟩ := w
  refine wp_rng (fun vr4 => ?_)
  have f5 : i32 (V (p0 + 7) (((8 * x1) + x2))) := vr_a0 vr4 (ly8_9 l0).2 s3
  replace w := w f5
  refine wp_aI rfl rfl (ly8_9 l0).2 s3 (?_ : wpv K_X8_newPlace d P 11 [some (4, (p0 : Int)), some (0, x1), some (0, x2)] [(0, (V (p0 + 7) (((8 * x1) + x2))))] G R V)
  exact wp_rI rfl rfl rfl w
theorem t_X8_isNews_0 {d : Nat} {P : gP} {p0 : Nat} {x1 : Int} {G : List gS} {R V : gV} (l0 : lay8 G R p0) (w : wpv K_X8_isNews d P 2 [some (4, (p0 : Int)), some (0, x1), some (0, 0)] [] G R V) : wpv K_X8_isNews d P 0 [some (4, (p0 : Int)), some (0, x1)] [] G R V := by
  refine wp_p (i := (.iconst 0)) rfl rfl (fun _ _ _ => rfl) (?_ : wpv K_X8_isNews d P 1 [some (4, (p0 : Int)), some (0, x1)] [(0, 0)] G R V)
  refine wp_sto (i := (.istore_n 2)) _ rfl rfl (fun _ => rfl) rfl rfl rfl ?_
  refine wp_wk (L' := [some (4, (p0 : Int)), some (0, x1), some (0, 0)]) (wk_s (wk_s (wk_s wk_0))) ?_
  show wpv K_X8_isNews d P 2 [some (4, (p0 : Int)), some (0, x1), some (0, 0)] [] G R V
  exact wp_wk (wk_s (wk_s (wk_s wk_0))) w

theorem t_X8_isNews_2 {d : Nat} {P : gP} {p0 : Nat} {x1 : Int} {x2 : Int} {G : List gS} {R V : gV} (l0 : lay8 G R p0) (w : ((i32 (V p0 10)) → ((i32 x2) ∧ (((¬ x2 < (V p0 10)) → P (some (0, 1)) V) ∧ ((x2 < (V p0 10)) → wpv K_X8_isNews d P 15 [some (4, (p0 : Int)), some (0, x1), some (0, x2), some (0, 1), some (0, 0)] [] G R V))))) : wpv K_X8_isNews d P 2 [some (4, (p0 : Int)), some (0, x1), some (0, x2)] [] G R V := by
  refine wp_ld (i := (.iload_n 2)) (0, x2) rfl rfl (fun _ => rfl) rfl rfl (?_ : wpv K_X8_isNews d P 3 [some (4, (p0 : Int)), some (0, x1), some (0, x2)] [(0, x2)] G R V)
  refine wp_ld (i := (.aload_n 0)) (4, (p0 : Int)) rfl rfl (fun _ => rfl) rfl rfl (?_ : wpv K_X8_isNews d P 4 [some (4, (p0 : Int)), some (0, x1), some (0, x2)] [(4, (p0 : Int)), (0, x2)] G R V)
  refine wp_rng (fun vr1 => ?_)
  have f2 : i32 (V p0 10) := vr_f0 vr1 (ly8_o l0) rfl rfl
  replace w := w f2
  refine wp_getI (k := 10) rfl rfl rfl (ly8_o l0) rfl rfl (?_ : wpv K_X8_isNews d P 7 [some (4, (p0 : Int)), some (0, x1), some (0, x2)] [(0, (V p0 10)), (0, x2)] G R V)
  obtain ⟨s3, w⟩ := w
  refine wp_icmp (c := .ge) 69 rfl rfl rfl s3 f2 (fun q => ?_) (fun q => ?_)
  · have q : ¬ x2 < (V p0 10) := q
    replace w := w.1 q
    show wpv K_X8_isNews d P 69 [some (4, (p0 : Int)), some (0, x1), some (0, x2)] [] G R V
    refine wp_p (i := (.iconst 1)) rfl rfl (fun _ _ _ => rfl) (?_ : wpv K_X8_isNews d P 70 [some (4, (p0 : Int)), some (0, x1), some (0, x2)] [(0, 1)] G R V)
    exact wp_rB rfl rfl rfl (by omega) w
  · have q : x2 < (V p0 10) := Decidable.not_not.mp q
    replace w := w.2 q
    show wpv K_X8_isNews d P 10 [some (4, (p0 : Int)), some (0, x1), some (0, x2)] [] G R V
    refine wp_p (i := (.iconst 1)) rfl rfl (fun _ _ _ => rfl) (?_ : wpv K_X8_isNews d P 11 [some (4, (p0 : Int)), some (0, x1), some (0, x2)] [(0, 1)] G R V)
    refine wp_sto (i := (.istore_n 3)) _ rfl rfl (fun _ => rfl) rfl rfl rfl ?_
    refine wp_wk (L' := [some (4, (p0 : Int)), some (0, x1), some (0, x2), some (0, 1)]) (wk_s (wk_s (wk_s (wk_s wk_0)))) ?_
    show wpv K_X8_isNews d P 12 [some (4, (p0 : Int)), some (0, x1), some (0, x2), some (0, 1)] [] G R V
    refine wp_p (i := (.iconst 0)) rfl rfl (fun _ _ _ => rfl) (?_ : wpv K_X8_isNews d P 13 [some (4, (p0 : Int)), some (0, x1), some (0, x2), some (0, 1)] [(0, 0)] G R V)
    refine wp_sto (i := (.istore 4)) _ rfl rfl (fun _ => rfl) rfl rfl rfl ?_
    refine wp_wk (L' := [some (4, (p0 : Int)), some (0, x1), some (0, x2), some (0, 1), some (0, 0)]) (wk_s (wk_s (wk_s (wk_s (wk_s wk_0))))) ?_
    show wpv K_X8_isNews d P 15 [some (4, (p0 : Int)), some (0, x1), some (0, x2), some (0, 1), some (0, 0)] [] G R V
    exact wp_wk (wk_s (wk_s (wk_s (wk_s (wk_s wk_0))))) w

theorem t_X8_isNews_15 {d : Nat} {P : gP} {p0 : Nat} {x1 : Int} {x2 : Int} {x3 : Int} {x4 : Int} {G : List gS} {R V : gV} (l0 : lay8 G R p0) (w : ((i32 x4) ∧ ((i32 x1) ∧ (((¬ x4 < x1) → ((i32 x3) ∧ (((x3 = 0) → ((i32 (x2 + 1)) ∧ wpv K_X8_isNews d P 2 [some (4, (p0 : Int)), some (0, x1), some (0, (x2 + 1))] [] G R V)) ∧ ((¬ x3 = 0) → P (some (0, 0)) V)))) ∧ ((x4 < x1) → ((i32 x3) ∧ (((x3 = 0) → ((i32 (x4 + 1)) ∧ wpv K_X8_isNews d P 15 [some (4, (p0 : Int)), some (0, x1), some (0, x2), some (0, 0), some (0, (x4 + 1))] [] G R V)) ∧ ((¬ x3 = 0) → cwv d (fun r V7 => ∃ v8 : Int, r = some (0, v8) ∧ ((i32 (V7 p0 10)) → cwv d (fun r V11 => ∃ v12 : Int, r = some (0, v12) ∧ ((i32 v8) ∧ ((i32 v12) ∧ (((¬ v8 = v12) → ((i32 (x4 + 1)) ∧ wpv K_X8_isNews d P 15 [some (4, (p0 : Int)), some (0, x1), some (0, x2), some (0, 0), some (0, (x4 + 1))] [] G R V11)) ∧ ((v8 = v12) → ((i32 (x4 + 1)) ∧ wpv K_X8_isNews d P 15 [some (4, (p0 : Int)), some (0, x1), some (0, x2), some (0, 1), some (0, (x4 + 1))] [] G R V11)))))) 164 [(4, (p0 : Int)), (0, (V7 p0 10)), (0, x4)] G R V7)) 164 [(4, (p0 : Int)), (0, x2), (0, x4)] G R V)))))))) : wpv K_X8_isNews d P 15 [some (4, (p0 : Int)), some (0, x1), some (0, x2), some (0, x3), some (0, x4)] [] G R V := by
  refine wp_ld (i := (.iload 4)) (0, x4) rfl rfl (fun _ => rfl) rfl rfl (?_ : wpv K_X8_isNews d P 17 [some (4, (p0 : Int)), some (0, x1), some (0, x2), some (0, x3), some (0, x4)] [(0, x4)] G R V)
  refine wp_ld (i := (.iload_n 1)) (0, x1) rfl rfl (fun _ => rfl) rfl rfl (?_ : wpv K_X8_isNews d P 18 [some (4, (p0 : Int)), some (0, x1), some (0, x2), some (0, x3), some (0, x4)] [(0, x1), (0, x4)] G R V)
  obtain ⟨s1, w⟩ := w
  obtain ⟨s2, w⟩ := w
  refine wp_icmp (c := .ge) 57 rfl rfl rfl s1 s2 (fun q => ?_) (fun q => ?_)
  · have q : ¬ x4 < x1 := q
    replace w := w.1 q
    show wpv K_X8_isNews d P 57 [some (4, (p0 : Int)), some (0, x1), some (0, x2), some (0, x3), some (0, x4)] [] G R V
    refine wp_ld (i := (.iload_n 3)) (0, x3) rfl rfl (fun _ => rfl) rfl rfl (?_ : wpv K_X8_isNews d P 58 [some (4, (p0 : Int)), some (0, x1), some (0, x2), some (0, x3), some (0, x4)] [(0, x3)] G R V)
    obtain ⟨s3, w⟩ := w
    refine wp_if (c := .eq) 63 rfl rfl rfl s3 (fun q => ?_) (fun q => ?_)
    · have q : x3 = 0 := q
      replace w := w.1 q
      show wpv K_X8_isNews d P 63 [some (4, (p0 : Int)), some (0, x1), some (0, x2), some (0, x3), some (0, x4)] [] G R V
      obtain ⟨s4, w⟩ := w
      refine wp_inc (x := 2) (k := 1) (a := x2) (c := (x2 + 1)) _ rfl rfl rfl rfl s4 (by omega) rfl ?_
      show wpv K_X8_isNews d P 66 [some (4, (p0 : Int)), some (0, x1), some (0, (x2 + 1)), some (0, x3), some (0, x4)] [] G R V
      refine wp_go 2 rfl rfl rfl (?_ : wpv K_X8_isNews d P 2 [some (4, (p0 : Int)), some (0, x1), some (0, (x2 + 1)), some (0, x3), some (0, x4)] [] G R V)
      exact wp_wk (wk_s (wk_s (wk_s wk_0))) w
    · have q : ¬ x3 = 0 := q
      replace w := w.2 q
      show wpv K_X8_isNews d P 61 [some (4, (p0 : Int)), some (0, x1), some (0, x2), some (0, x3), some (0, x4)] [] G R V
      refine wp_p (i := (.iconst 0)) rfl rfl (fun _ _ _ => rfl) (?_ : wpv K_X8_isNews d P 62 [some (4, (p0 : Int)), some (0, x1), some (0, x2), some (0, x3), some (0, x4)] [(0, 0)] G R V)
      exact wp_rB rfl rfl rfl (by omega) w
  · have q : x4 < x1 := Decidable.not_not.mp q
    replace w := w.2 q
    show wpv K_X8_isNews d P 21 [some (4, (p0 : Int)), some (0, x1), some (0, x2), some (0, x3), some (0, x4)] [] G R V
    refine wp_ld (i := (.iload_n 3)) (0, x3) rfl rfl (fun _ => rfl) rfl rfl (?_ : wpv K_X8_isNews d P 22 [some (4, (p0 : Int)), some (0, x1), some (0, x2), some (0, x3), some (0, x4)] [(0, x3)] G R V)
    obtain ⟨s5, w⟩ := w
    refine wp_if (c := .eq) 49 rfl rfl rfl s5 (fun q => ?_) (fun q => ?_)
    · have q : x3 = 0 := q
      replace w := w.1 q
      show wpv K_X8_isNews d P 49 [some (4, (p0 : Int)), some (0, x1), some (0, x2), some (0, x3), some (0, x4)] [] G R V
      refine wp_p (i := (.iconst 0)) rfl rfl (fun _ _ _ => rfl) (?_ : wpv K_X8_isNews d P 50 [some (4, (p0 : Int)), some (0, x1), some (0, x2), some (0, x3), some (0, x4)] [(0, 0)] G R V)
      refine wp_sto (i := (.istore_n 3)) _ rfl rfl (fun _ => rfl) rfl rfl rfl ?_
      refine wp_wk (L' := [some (4, (p0 : Int)), some (0, x1), some (0, x2), some (0, 0), some (0, x4)]) (wk_s (wk_s (wk_s (wk_s (wk_s wk_0))))) ?_
      show wpv K_X8_isNews d P 51 [some (4, (p0 : Int)), some (0, x1), some (0, x2), some (0, 0), some (0, x4)] [] G R V
      obtain ⟨s6, w⟩ := w
      refine wp_inc (x := 4) (k := 1) (a := x4) (c := (x4 + 1)) _ rfl rfl rfl rfl s6 (by omega) rfl ?_
      show wpv K_X8_isNews d P 54 [some (4, (p0 : Int)), some (0, x1), some (0, x2), some (0, 0), some (0, (x4 + 1))] [] G R V
      refine wp_go 15 rfl rfl rfl (?_ : wpv K_X8_isNews d P 15 [some (4, (p0 : Int)), some (0, x1), some (0, x2), some (0, 0), some (0, (x4 + 1))] [] G R V)
      exact wp_wk (wk_s (wk_s (wk_s (wk_s (wk_s wk_0))))) w
    · have q : ¬ x3 = 0 := q
      replace w := w.2 q
      show wpv K_X8_isNews d P 25 [some (4, (p0 : Int)), some (0, x1), some (0, x2), some (0, x3), some (0, x4)] [] G R V
      refine wp_ld (i := (.aload_n 0)) (4, (p0 : Int)) rfl rfl (fun _ => rfl) rfl rfl (?_ : wpv K_X8_isNews d P 26 [some (4, (p0 : Int)), some (0, x1), some (0, x2), some (0, x3), some (0, x4)] [(4, (p0 : Int))] G R V)
      refine wp_ld (i := (.iload_n 2)) (0, x2) rfl rfl (fun _ => rfl) rfl rfl (?_ : wpv K_X8_isNews d P 27 [some (4, (p0 : Int)), some (0, x1), some (0, x2), some (0, x3), some (0, x4)] [(0, x2), (4, (p0 : Int))] G R V)
      refine wp_ld (i := (.iload 4)) (0, x4) rfl rfl (fun _ => rfl) rfl rfl (?_ : wpv K_X8_isNews d P 29 [some (4, (p0 : Int)), some (0, x1), some (0, x2), some (0, x3), some (0, x4)] [(0, x4), (0, x2), (4, (p0 : Int))] G R V)
      refine wp_virt (as := [(0, x2), (0, x4)]) (a := p0) (st := []) _ rfl rfl rfl rfl rfl rfl (ly8_o l0) (Nat.le_of_ble_eq_true rfl) (cwv_kI w (fun v8 V7 w => ?_))
      show wpv K_X8_isNews d P 32 [some (4, (p0 : Int)), some (0, x1), some (0, x2), some (0, x3), some (0, x4)] [(0, v8)] G R V7
      refine wp_ld (i := (.aload_n 0)) (4, (p0 : Int)) rfl rfl (fun _ => rfl) rfl rfl (?_ : wpv K_X8_isNews d P 33 [some (4, (p0 : Int)), some (0, x1), some (0, x2), some (0, x3), some (0, x4)] [(4, (p0 : Int)), (0, v8)] G R V7)
      refine wp_ld (i := (.aload_n 0)) (4, (p0 : Int)) rfl rfl (fun _ => rfl) rfl rfl (?_ : wpv K_X8_isNews d P 34 [some (4, (p0 : Int)), some (0, x1), some (0, x2), some (0, x3), some (0, x4)] [(4, (p0 : Int)), (4, (p0 : Int)), (0, v8)] G R V7)
      refine wp_rng (fun vr9 => ?_)
      have f10 : i32 (V7 p0 10) := vr_f0 vr9 (ly8_o l0) rfl rfl
      replace w := w f10
      refine wp_getI (k := 10) rfl rfl rfl (ly8_o l0) rfl rfl (?_ : wpv K_X8_isNews d P 37 [some (4, (p0 : Int)), some (0, x1), some (0, x2), some (0, x3), some (0, x4)] [(0, (V7 p0 10)), (4, (p0 : Int)), (0, v8)] G R V7)
      refine wp_ld (i := (.iload 4)) (0, x4) rfl rfl (fun _ => rfl) rfl rfl (?_ : wpv K_X8_isNews d P 39 [some (4, (p0 : Int)), some (0, x1), some (0, x2), some (0, x3), some (0, x4)] [(0, x4), (0, (V7 p0 10)), (4, (p0 : Int)), (0, v8)] G R V7)
      refine wp_virt (as := [(0, (V7 p0 10)), (0, x4)]) (a := p0) (st := [(0, v8)]) _ rfl rfl rfl rfl rfl rfl (ly8_o l0) (Nat.le_of_ble_eq_true rfl) (cwv_kI w (fun v12 V11 w => ?_))
      show wpv K_X8_isNews d P 42 [some (4, (p0 : Int)), some (0, x1), some (0, x2), some (0, x3), some (0, x4)] [(0, v12), (0, v8)] G R V11
      obtain ⟨s13, w⟩ := w
      obtain ⟨s14, w⟩ := w
      refine wp_icmp (c := .ne) 49 rfl rfl rfl s13 s14 (fun q => ?_) (fun q => ?_)
      · have q : ¬ v8 = v12 := q
        replace w := w.1 q
        show wpv K_X8_isNews d P 49 [some (4, (p0 : Int)), some (0, x1), some (0, x2), some (0, x3), some (0, x4)] [] G R V11
        refine wp_p (i := (.iconst 0)) rfl rfl (fun _ _ _ => rfl) (?_ : wpv K_X8_isNews d P 50 [some (4, (p0 : Int)), some (0, x1), some (0, x2), some (0, x3), some (0, x4)] [(0, 0)] G R V11)
        refine wp_sto (i := (.istore_n 3)) _ rfl rfl (fun _ => rfl) rfl rfl rfl ?_
        refine wp_wk (L' := [some (4, (p0 : Int)), some (0, x1), some (0, x2), some (0, 0), some (0, x4)]) (wk_s (wk_s (wk_s (wk_s (wk_s wk_0))))) ?_
        show wpv K_X8_isNews d P 51 [some (4, (p0 : Int)), some (0, x1), some (0, x2), some (0, 0), some (0, x4)] [] G R V11
        obtain ⟨s15, w⟩ := w
        refine wp_inc (x := 4) (k := 1) (a := x4) (c := (x4 + 1)) _ rfl rfl rfl rfl s15 (by omega) rfl ?_
        show wpv K_X8_isNews d P 54 [some (4, (p0 : Int)), some (0, x1), some (0, x2), some (0, 0), some (0, (x4 + 1))] [] G R V11
        refine wp_go 15 rfl rfl rfl (?_ : wpv K_X8_isNews d P 15 [some (4, (p0 : Int)), some (0, x1), some (0, x2), some (0, 0), some (0, (x4 + 1))] [] G R V11)
        exact wp_wk (wk_s (wk_s (wk_s (wk_s (wk_s wk_0))))) w
      · have q : v8 = v12 := Decidable.not_not.mp q
        replace w := w.2 q
        show wpv K_X8_isNews d P 45 [some (4, (p0 : Int)), some (0, x1), some (0, x2), some (0, x3), some (0, x4)] [] G R V11
        refine wp_p (i := (.iconst 1)) rfl rfl (fun _ _ _ => rfl) (?_ : wpv K_X8_isNews d P 46 [some (4, (p0 : Int)), some (0, x1), some (0, x2), some (0, x3), some (0, x4)] [(0, 1)] G R V11)
        refine wp_go 50 rfl rfl rfl (?_ : wpv K_X8_isNews d P 50 [some (4, (p0 : Int)), some (0, x1), some (0, x2), some (0, x3), some (0, x4)] [(0, 1)] G R V11)
        refine wp_sto (i := (.istore_n 3)) _ rfl rfl (fun _ => rfl) rfl rfl rfl ?_
        refine wp_wk (L' := [some (4, (p0 : Int)), some (0, x1), some (0, x2), some (0, 1), some (0, x4)]) (wk_s (wk_s (wk_s (wk_s (wk_s wk_0))))) ?_
        show wpv K_X8_isNews d P 51 [some (4, (p0 : Int)), some (0, x1), some (0, x2), some (0, 1), some (0, x4)] [] G R V11
        obtain ⟨s16, w⟩ := w
        refine wp_inc (x := 4) (k := 1) (a := x4) (c := (x4 + 1)) _ rfl rfl rfl rfl s16 (by omega) rfl ?_
        show wpv K_X8_isNews d P 54 [some (4, (p0 : Int)), some (0, x1), some (0, x2), some (0, 1), some (0, (x4 + 1))] [] G R V11
        refine wp_go 15 rfl rfl rfl (?_ : wpv K_X8_isNews d P 15 [some (4, (p0 : Int)), some (0, x1), some (0, x2), some (0, 1), some (0, (x4 + 1))] [] G R V11)
        exact wp_wk (wk_s (wk_s (wk_s (wk_s (wk_s wk_0))))) w
theorem t_X8_gathers_0 {d : Nat} {P : gP} {p0 : Nat} {x1 : Int} {G : List gS} {R V : gV} (l0 : lay8 G R p0) (w : wpv K_X8_gathers d P 2 [some (4, (p0 : Int)), some (0, x1), some (0, 0)] [] G R V) : wpv K_X8_gathers d P 0 [some (4, (p0 : Int)), some (0, x1)] [] G R V := by
  refine wp_p (i := (.iconst 0)) rfl rfl (fun _ _ _ => rfl) (?_ : wpv K_X8_gathers d P 1 [some (4, (p0 : Int)), some (0, x1)] [(0, 0)] G R V)
  refine wp_sto (i := (.istore_n 2)) _ rfl rfl (fun _ => rfl) rfl rfl rfl ?_
  refine wp_wk (L' := [some (4, (p0 : Int)), some (0, x1), some (0, 0)]) (wk_s (wk_s (wk_s wk_0))) ?_
  show wpv K_X8_gathers d P 2 [some (4, (p0 : Int)), some (0, x1), some (0, 0)] [] G R V
  exact wp_wk (wk_s (wk_s (wk_s wk_0))) w

theorem t_X8_gathers_2 {d : Nat} {P : gP} {p0 : Nat} {x1 : Int} {x2 : Int} {G : List gS} {R V : gV} (l0 : lay8 G R p0) (w : ((i32 x2) ∧ (((¬ x2 < 4) → wpv K_X8_gathers d P 96 [some (4, (p0 : Int)), some (0, x1), some (0, 0)] [] G R V) ∧ ((x2 < 4) → wpv K_X8_gathers d P 12 [some (4, (p0 : Int)), some (0, x1), some (0, x2), some (0, 0), some (0, 0)] [] G R V)))) : wpv K_X8_gathers d P 2 [some (4, (p0 : Int)), some (0, x1), some (0, x2)] [] G R V := by
  refine wp_ld (i := (.iload_n 2)) (0, x2) rfl rfl (fun _ => rfl) rfl rfl (?_ : wpv K_X8_gathers d P 3 [some (4, (p0 : Int)), some (0, x1), some (0, x2)] [(0, x2)] G R V)
  refine wp_p (i := (.iconst 4)) rfl rfl (fun _ _ _ => rfl) (?_ : wpv K_X8_gathers d P 4 [some (4, (p0 : Int)), some (0, x1), some (0, x2)] [(0, 4), (0, x2)] G R V)
  obtain ⟨s1, w⟩ := w
  refine wp_icmp (c := .ge) 94 rfl rfl rfl s1 ⟨by omega, by omega⟩ (fun q => ?_) (fun q => ?_)
  · have q : ¬ x2 < 4 := q
    replace w := w.1 q
    show wpv K_X8_gathers d P 94 [some (4, (p0 : Int)), some (0, x1), some (0, x2)] [] G R V
    refine wp_p (i := (.iconst 0)) rfl rfl (fun _ _ _ => rfl) (?_ : wpv K_X8_gathers d P 95 [some (4, (p0 : Int)), some (0, x1), some (0, x2)] [(0, 0)] G R V)
    refine wp_sto (i := (.istore_n 2)) _ rfl rfl (fun _ => rfl) rfl rfl rfl ?_
    refine wp_wk (L' := [some (4, (p0 : Int)), some (0, x1), some (0, 0)]) (wk_s (wk_s (wk_s wk_0))) ?_
    show wpv K_X8_gathers d P 96 [some (4, (p0 : Int)), some (0, x1), some (0, 0)] [] G R V
    exact wp_wk (wk_s (wk_s (wk_s wk_0))) w
  · have q : x2 < 4 := Decidable.not_not.mp q
    replace w := w.2 q
    show wpv K_X8_gathers d P 7 [some (4, (p0 : Int)), some (0, x1), some (0, x2)] [] G R V
    refine wp_p (i := (.iconst 0)) rfl rfl (fun _ _ _ => rfl) (?_ : wpv K_X8_gathers d P 8 [some (4, (p0 : Int)), some (0, x1), some (0, x2)] [(0, 0)] G R V)
    refine wp_sto (i := (.istore_n 3)) _ rfl rfl (fun _ => rfl) rfl rfl rfl ?_
    refine wp_wk (L' := [some (4, (p0 : Int)), some (0, x1), some (0, x2), some (0, 0)]) (wk_s (wk_s (wk_s (wk_s wk_0)))) ?_
    show wpv K_X8_gathers d P 9 [some (4, (p0 : Int)), some (0, x1), some (0, x2), some (0, 0)] [] G R V
    refine wp_p (i := (.iconst 0)) rfl rfl (fun _ _ _ => rfl) (?_ : wpv K_X8_gathers d P 10 [some (4, (p0 : Int)), some (0, x1), some (0, x2), some (0, 0)] [(0, 0)] G R V)
    refine wp_sto (i := (.istore 4)) _ rfl rfl (fun _ => rfl) rfl rfl rfl ?_
    refine wp_wk (L' := [some (4, (p0 : Int)), some (0, x1), some (0, x2), some (0, 0), some (0, 0)]) (wk_s (wk_s (wk_s (wk_s (wk_s wk_0))))) ?_
    show wpv K_X8_gathers d P 12 [some (4, (p0 : Int)), some (0, x1), some (0, x2), some (0, 0), some (0, 0)] [] G R V
    exact wp_wk (wk_s (wk_s (wk_s (wk_s (wk_s wk_0))))) w

theorem t_X8_gathers_12 {d : Nat} {P : gP} {p0 : Nat} {x1 : Int} {x2 : Int} {x3 : Int} {x4 : Int} {G : List gS} {R V : gV} (l0 : lay8 G R p0) (w : ((i32 x4) ∧ ((i32 x1) ∧ (((¬ x4 < x1) → ((i32 (x2 + 1)) ∧ wpv K_X8_gathers d P 2 [some (4, (p0 : Int)), some (0, x1), some (0, (x2 + 1))] [] G R V)) ∧ ((x4 < x1) → ((0 ≤ x2 ∧ x2 < 4) ∧ ((i32 (V (p0 + 2) x2)) → (((¬ x4 < (V (p0 + 2) x2)) → ((i32 (x1 - 1)) ∧ cwv d (fun r V8 => ∃ v9 : Int, r = some (0, v9) ∧ ((i32 v9) ∧ (((v9 = 0) → P (some (0, (-6))) V8) ∧ ((¬ v9 = 0) → (((¬ (kand ((kshr x3 x4)) 1) = 1) → ((i32 (x4 + 1)) ∧ wpv K_X8_gathers d P 12 [some (4, (p0 : Int)), some (0, x1), some (0, x2), some (0, (kor x3 ((kshl 1 x4)))), some (0, (x4 + 1))] [] G R V8)) ∧ (((kand ((kshr x3 x4)) 1) = 1) → P (some (0, (-6))) V8)))))) 159 [(2, x4), (2, 0), (2, (x1 - 1))] G R V)) ∧ ((x4 < (V (p0 + 2) x2)) → ((i32 (8 * x2)) ∧ ((i32 ((8 * x2) + x4)) ∧ ((0 ≤ ((8 * x2) + x4) ∧ ((8 * x2) + x4) < 32) ∧ ((i32 (V (p0 + 3) (((8 * x2) + x4)))) → ((i32 (x1 - 1)) ∧ cwv d (fun r V17 => ∃ v18 : Int, r = some (0, v18) ∧ ((i32 v18) ∧ (((v18 = 0) → P (some (0, (-6))) V17) ∧ ((¬ v18 = 0) → (((¬ (kand ((kshr x3 ((V (p0 + 3) (((8 * x2) + x4)))))) 1) = 1) → ((i32 (x4 + 1)) ∧ wpv K_X8_gathers d P 12 [some (4, (p0 : Int)), some (0, x1), some (0, x2), some (0, (kor x3 ((kshl 1 ((V (p0 + 3) (((8 * x2) + x4)))))))), some (0, (x4 + 1))] [] G R V17)) ∧ (((kand ((kshr x3 ((V (p0 + 3) (((8 * x2) + x4)))))) 1) = 1) → P (some (0, (-6))) V17)))))) 159 [(2, (V (p0 + 3) (((8 * x2) + x4)))), (2, 0), (2, (x1 - 1))] G R V)))))))))))))) : wpv K_X8_gathers d P 12 [some (4, (p0 : Int)), some (0, x1), some (0, x2), some (0, x3), some (0, x4)] [] G R V := by
  refine wp_ld (i := (.iload 4)) (0, x4) rfl rfl (fun _ => rfl) rfl rfl (?_ : wpv K_X8_gathers d P 14 [some (4, (p0 : Int)), some (0, x1), some (0, x2), some (0, x3), some (0, x4)] [(0, x4)] G R V)
  refine wp_ld (i := (.iload_n 1)) (0, x1) rfl rfl (fun _ => rfl) rfl rfl (?_ : wpv K_X8_gathers d P 15 [some (4, (p0 : Int)), some (0, x1), some (0, x2), some (0, x3), some (0, x4)] [(0, x1), (0, x4)] G R V)
  obtain ⟨s1, w⟩ := w
  obtain ⟨s2, w⟩ := w
  refine wp_icmp (c := .ge) 88 rfl rfl rfl s1 s2 (fun q => ?_) (fun q => ?_)
  · have q : ¬ x4 < x1 := q
    replace w := w.1 q
    show wpv K_X8_gathers d P 88 [some (4, (p0 : Int)), some (0, x1), some (0, x2), some (0, x3), some (0, x4)] [] G R V
    obtain ⟨s3, w⟩ := w
    refine wp_inc (x := 2) (k := 1) (a := x2) (c := (x2 + 1)) _ rfl rfl rfl rfl s3 (by omega) rfl ?_
    show wpv K_X8_gathers d P 91 [some (4, (p0 : Int)), some (0, x1), some (0, (x2 + 1)), some (0, x3), some (0, x4)] [] G R V
    refine wp_go 2 rfl rfl rfl (?_ : wpv K_X8_gathers d P 2 [some (4, (p0 : Int)), some (0, x1), some (0, (x2 + 1)), some (0, x3), some (0, x4)] [] G R V)
    exact wp_wk (wk_s (wk_s (wk_s wk_0))) w
  · have q : x4 < x1 := Decidable.not_not.mp q
    replace w := w.2 q
    show wpv K_X8_gathers d P 18 [some (4, (p0 : Int)), some (0, x1), some (0, x2), some (0, x3), some (0, x4)] [] G R V
    refine wp_ld (i := (.iload 4)) (0, x4) rfl rfl (fun _ => rfl) rfl rfl (?_ : wpv K_X8_gathers d P 20 [some (4, (p0 : Int)), some (0, x1), some (0, x2), some (0, x3), some (0, x4)] [(0, x4)] G R V)
    refine wp_ld (i := (.aload_n 0)) (4, (p0 : Int)) rfl rfl (fun _ => rfl) rfl rfl (?_ : wpv K_X8_gathers d P 21 [some (4, (p0 : Int)), some (0, x1), some (0, x2), some (0, x3), some (0, x4)] [(4, (p0 : Int)), (0, x4)] G R V)
    refine wp_getA (k := 2) rfl rfl rfl (ly8_o l0) rfl rfl (ly8_2 l0).1 (?_ : wpv K_X8_gathers d P 24 [some (4, (p0 : Int)), some (0, x1), some (0, x2), some (0, x3), some (0, x4)] [(4, ((p0 + 2 : Nat) : Int)), (0, x4)] G R V)
    refine wp_ld (i := (.iload_n 2)) (0, x2) rfl rfl (fun _ => rfl) rfl rfl (?_ : wpv K_X8_gathers d P 25 [some (4, (p0 : Int)), some (0, x1), some (0, x2), some (0, x3), some (0, x4)] [(0, x2), (4, ((p0 + 2 : Nat) : Int)), (0, x4)] G R V)
    obtain ⟨s4, w⟩ := w
    refine wp_rng (fun vr5 => ?_)
    have f6 : i32 (V (p0 + 2) x2) := vr_a0 vr5 (ly8_2 l0).2 s4
    replace w := w f6
    refine wp_aI rfl rfl (ly8_2 l0).2 s4 (?_ : wpv K_X8_gathers d P 26 [some (4, (p0 : Int)), some (0, x1), some (0, x2), some (0, x3), some (0, x4)] [(0, (V (p0 + 2) x2)), (0, x4)] G R V)
    refine wp_icmp (c := .ge) 44 rfl rfl rfl s1 f6 (fun q => ?_) (fun q => ?_)
    · have q : ¬ x4 < (V (p0 + 2) x2) := q
      replace w := w.1 q
      show wpv K_X8_gathers d P 44 [some (4, (p0 : Int)), some (0, x1), some (0, x2), some (0, x3), some (0, x4)] [] G R V
      refine wp_ld (i := (.iload 4)) (0, x4) rfl rfl (fun _ => rfl) rfl rfl (?_ : wpv K_X8_gathers d P 46 [some (4, (p0 : Int)), some (0, x1), some (0, x2), some (0, x3), some (0, x4)] [(0, x4)] G R V)
      refine wp_sto (i := (.istore 5)) _ rfl rfl (fun _ => rfl) rfl rfl rfl ?_
      refine wp_wk (L' := [some (4, (p0 : Int)), some (0, x1), some (0, x2), some (0, x3), some (0, x4), some (0, x4)]) (wk_s (wk_s (wk_s (wk_s (wk_s (wk_s wk_0)))))) ?_
      show wpv K_X8_gathers d P 48 [some (4, (p0 : Int)), some (0, x1), some (0, x2), some (0, x3), some (0, x4), some (0, x4)] [] G R V
      refine wp_ld (i := (.iload 5)) (0, x4) rfl rfl (fun _ => rfl) rfl rfl (?_ : wpv K_X8_gathers d P 50 [some (4, (p0 : Int)), some (0, x1), some (0, x2), some (0, x3), some (0, x4), some (0, x4)] [(0, x4)] G R V)
      refine wp_i2l rfl rfl s1 (?_ : wpv K_X8_gathers d P 51 [some (4, (p0 : Int)), some (0, x1), some (0, x2), some (0, x3), some (0, x4), some (0, x4)] [(2, x4)] G R V)
      refine wp_p (i := (.lconst 0)) rfl rfl (fun _ _ _ => rfl) (?_ : wpv K_X8_gathers d P 52 [some (4, (p0 : Int)), some (0, x1), some (0, x2), some (0, x3), some (0, x4), some (0, x4)] [(2, 0), (2, x4)] G R V)
      refine wp_ld (i := (.iload_n 1)) (0, x1) rfl rfl (fun _ => rfl) rfl rfl (?_ : wpv K_X8_gathers d P 53 [some (4, (p0 : Int)), some (0, x1), some (0, x2), some (0, x3), some (0, x4), some (0, x4)] [(0, x1), (2, 0), (2, x4)] G R V)
      refine wp_p (i := (.iconst 1)) rfl rfl (fun _ _ _ => rfl) (?_ : wpv K_X8_gathers d P 54 [some (4, (p0 : Int)), some (0, x1), some (0, x2), some (0, x3), some (0, x4), some (0, x4)] [(0, 1), (0, x1), (2, 0), (2, x4)] G R V)
      obtain ⟨s7, w⟩ := w
      refine wp_xsub rfl rfl s7 (?_ : wpv K_X8_gathers d P 55 [some (4, (p0 : Int)), some (0, x1), some (0, x2), some (0, x3), some (0, x4), some (0, x4)] [(0, (x1 - 1)), (2, 0), (2, x4)] G R V)
      refine wp_i2l rfl rfl s7 (?_ : wpv K_X8_gathers d P 56 [some (4, (p0 : Int)), some (0, x1), some (0, x2), some (0, x3), some (0, x4), some (0, x4)] [(2, (x1 - 1)), (2, 0), (2, x4)] G R V)
      refine wp_stat (as := [(2, x4), (2, 0), (2, (x1 - 1))]) (st := []) _ rfl rfl rfl (by omega) rfl rfl (Nat.le_of_ble_eq_true rfl) (cwv_kI w (fun v9 V8 w => ?_))
      show wpv K_X8_gathers d P 59 [some (4, (p0 : Int)), some (0, x1), some (0, x2), some (0, x3), some (0, x4), some (0, x4)] [(0, v9)] G R V8
      obtain ⟨s10, w⟩ := w
      refine wp_if (c := .eq) 72 rfl rfl rfl s10 (fun q => ?_) (fun q => ?_)
      · have q : v9 = 0 := q
        replace w := w.1 q
        show wpv K_X8_gathers d P 72 [some (4, (p0 : Int)), some (0, x1), some (0, x2), some (0, x3), some (0, x4), some (0, x4)] [] G R V8
        refine wp_p (i := (.bipush (-6))) rfl rfl (fun _ _ _ => rfl) (?_ : wpv K_X8_gathers d P 74 [some (4, (p0 : Int)), some (0, x1), some (0, x2), some (0, x3), some (0, x4), some (0, x4)] [(0, (-6))] G R V8)
        exact wp_rI rfl rfl rfl w
      · have q : ¬ v9 = 0 := q
        replace w := w.2 q
        show wpv K_X8_gathers d P 62 [some (4, (p0 : Int)), some (0, x1), some (0, x2), some (0, x3), some (0, x4), some (0, x4)] [] G R V8
        refine wp_ld (i := (.iload_n 3)) (0, x3) rfl rfl (fun _ => rfl) rfl rfl (?_ : wpv K_X8_gathers d P 63 [some (4, (p0 : Int)), some (0, x1), some (0, x2), some (0, x3), some (0, x4), some (0, x4)] [(0, x3)] G R V8)
        refine wp_ld (i := (.iload 5)) (0, x4) rfl rfl (fun _ => rfl) rfl rfl (?_ : wpv K_X8_gathers d P 65 [some (4, (p0 : Int)), some (0, x1), some (0, x2), some (0, x3), some (0, x4), some (0, x4)] [(0, x4), (0, x3)] G R V8)
        refine wp_kshr rfl rfl (?_ : wpv K_X8_gathers d P 66 [some (4, (p0 : Int)), some (0, x1), some (0, x2), some (0, x3), some (0, x4), some (0, x4)] [(0, (kshr x3 x4))] G R V8)
        refine wp_p (i := (.iconst 1)) rfl rfl (fun _ _ _ => rfl) (?_ : wpv K_X8_gathers d P 67 [some (4, (p0 : Int)), some (0, x1), some (0, x2), some (0, x3), some (0, x4), some (0, x4)] [(0, 1), (0, (kshr x3 x4))] G R V8)
        refine wp_kand rfl rfl (?_ : wpv K_X8_gathers d P 68 [some (4, (p0 : Int)), some (0, x1), some (0, x2), some (0, x3), some (0, x4), some (0, x4)] [(0, (kand ((kshr x3 x4)) 1))] G R V8)
        refine wp_p (i := (.iconst 1)) rfl rfl (fun _ _ _ => rfl) (?_ : wpv K_X8_gathers d P 69 [some (4, (p0 : Int)), some (0, x1), some (0, x2), some (0, x3), some (0, x4), some (0, x4)] [(0, 1), (0, (kand ((kshr x3 x4)) 1))] G R V8)
        refine wp_icmp (c := .ne) 75 rfl rfl rfl (t32 _) ⟨by omega, by omega⟩ (fun q => ?_) (fun q => ?_)
        · have q : ¬ (kand ((kshr x3 x4)) 1) = 1 := q
          replace w := w.1 q
          show wpv K_X8_gathers d P 75 [some (4, (p0 : Int)), some (0, x1), some (0, x2), some (0, x3), some (0, x4), some (0, x4)] [] G R V8
          refine wp_ld (i := (.iload_n 3)) (0, x3) rfl rfl (fun _ => rfl) rfl rfl (?_ : wpv K_X8_gathers d P 76 [some (4, (p0 : Int)), some (0, x1), some (0, x2), some (0, x3), some (0, x4), some (0, x4)] [(0, x3)] G R V8)
          refine wp_p (i := (.iconst 1)) rfl rfl (fun _ _ _ => rfl) (?_ : wpv K_X8_gathers d P 77 [some (4, (p0 : Int)), some (0, x1), some (0, x2), some (0, x3), some (0, x4), some (0, x4)] [(0, 1), (0, x3)] G R V8)
          refine wp_ld (i := (.iload 5)) (0, x4) rfl rfl (fun _ => rfl) rfl rfl (?_ : wpv K_X8_gathers d P 79 [some (4, (p0 : Int)), some (0, x1), some (0, x2), some (0, x3), some (0, x4), some (0, x4)] [(0, x4), (0, 1), (0, x3)] G R V8)
          refine wp_kshl rfl rfl (?_ : wpv K_X8_gathers d P 80 [some (4, (p0 : Int)), some (0, x1), some (0, x2), some (0, x3), some (0, x4), some (0, x4)] [(0, (kshl 1 x4)), (0, x3)] G R V8)
          refine wp_kor rfl rfl (?_ : wpv K_X8_gathers d P 81 [some (4, (p0 : Int)), some (0, x1), some (0, x2), some (0, x3), some (0, x4), some (0, x4)] [(0, (kor x3 ((kshl 1 x4))))] G R V8)
          refine wp_sto (i := (.istore_n 3)) _ rfl rfl (fun _ => rfl) rfl rfl rfl ?_
          refine wp_wk (L' := [some (4, (p0 : Int)), some (0, x1), some (0, x2), some (0, (kor x3 ((kshl 1 x4)))), some (0, x4), some (0, x4)]) (wk_s (wk_s (wk_s (wk_s (wk_s (wk_s wk_0)))))) ?_
          show wpv K_X8_gathers d P 82 [some (4, (p0 : Int)), some (0, x1), some (0, x2), some (0, (kor x3 ((kshl 1 x4)))), some (0, x4), some (0, x4)] [] G R V8
          obtain ⟨s11, w⟩ := w
          refine wp_inc (x := 4) (k := 1) (a := x4) (c := (x4 + 1)) _ rfl rfl rfl rfl s11 (by omega) rfl ?_
          show wpv K_X8_gathers d P 85 [some (4, (p0 : Int)), some (0, x1), some (0, x2), some (0, (kor x3 ((kshl 1 x4)))), some (0, (x4 + 1)), some (0, x4)] [] G R V8
          refine wp_go 12 rfl rfl rfl (?_ : wpv K_X8_gathers d P 12 [some (4, (p0 : Int)), some (0, x1), some (0, x2), some (0, (kor x3 ((kshl 1 x4)))), some (0, (x4 + 1)), some (0, x4)] [] G R V8)
          exact wp_wk (wk_s (wk_s (wk_s (wk_s (wk_s wk_0))))) w
        · have q : (kand ((kshr x3 x4)) 1) = 1 := Decidable.not_not.mp q
          replace w := w.2 q
          show wpv K_X8_gathers d P 72 [some (4, (p0 : Int)), some (0, x1), some (0, x2), some (0, x3), some (0, x4), some (0, x4)] [] G R V8
          refine wp_p (i := (.bipush (-6))) rfl rfl (fun _ _ _ => rfl) (?_ : wpv K_X8_gathers d P 74 [some (4, (p0 : Int)), some (0, x1), some (0, x2), some (0, x3), some (0, x4), some (0, x4)] [(0, (-6))] G R V8)
          exact wp_rI rfl rfl rfl w
    · have q : x4 < (V (p0 + 2) x2) := Decidable.not_not.mp q
      replace w := w.2 q
      show wpv K_X8_gathers d P 29 [some (4, (p0 : Int)), some (0, x1), some (0, x2), some (0, x3), some (0, x4)] [] G R V
      refine wp_ld (i := (.aload_n 0)) (4, (p0 : Int)) rfl rfl (fun _ => rfl) rfl rfl (?_ : wpv K_X8_gathers d P 30 [some (4, (p0 : Int)), some (0, x1), some (0, x2), some (0, x3), some (0, x4)] [(4, (p0 : Int))] G R V)
      refine wp_getA (k := 3) rfl rfl rfl (ly8_o l0) rfl rfl (ly8_3 l0).1 (?_ : wpv K_X8_gathers d P 33 [some (4, (p0 : Int)), some (0, x1), some (0, x2), some (0, x3), some (0, x4)] [(4, ((p0 + 3 : Nat) : Int))] G R V)
      refine wp_p (i := (.bipush 8)) rfl rfl (fun _ _ _ => rfl) (?_ : wpv K_X8_gathers d P 35 [some (4, (p0 : Int)), some (0, x1), some (0, x2), some (0, x3), some (0, x4)] [(0, 8), (4, ((p0 + 3 : Nat) : Int))] G R V)
      refine wp_ld (i := (.iload_n 2)) (0, x2) rfl rfl (fun _ => rfl) rfl rfl (?_ : wpv K_X8_gathers d P 36 [some (4, (p0 : Int)), some (0, x1), some (0, x2), some (0, x3), some (0, x4)] [(0, x2), (0, 8), (4, ((p0 + 3 : Nat) : Int))] G R V)
      obtain ⟨s12, w⟩ := w
      refine wp_xmul rfl rfl s12 (?_ : wpv K_X8_gathers d P 37 [some (4, (p0 : Int)), some (0, x1), some (0, x2), some (0, x3), some (0, x4)] [(0, (8 * x2)), (4, ((p0 + 3 : Nat) : Int))] G R V)
      refine wp_ld (i := (.iload 4)) (0, x4) rfl rfl (fun _ => rfl) rfl rfl (?_ : wpv K_X8_gathers d P 39 [some (4, (p0 : Int)), some (0, x1), some (0, x2), some (0, x3), some (0, x4)] [(0, x4), (0, (8 * x2)), (4, ((p0 + 3 : Nat) : Int))] G R V)
      obtain ⟨s13, w⟩ := w
      refine wp_xadd rfl rfl s13 (?_ : wpv K_X8_gathers d P 40 [some (4, (p0 : Int)), some (0, x1), some (0, x2), some (0, x3), some (0, x4)] [(0, ((8 * x2) + x4)), (4, ((p0 + 3 : Nat) : Int))] G R V)
      obtain ⟨s14, w⟩ := w
      have f15 : i32 (V (p0 + 3) (((8 * x2) + x4))) := vr_a0 vr5 (ly8_3 l0).2 s14
      replace w := w f15
      refine wp_aI rfl rfl (ly8_3 l0).2 s14 (?_ : wpv K_X8_gathers d P 41 [some (4, (p0 : Int)), some (0, x1), some (0, x2), some (0, x3), some (0, x4)] [(0, (V (p0 + 3) (((8 * x2) + x4))))] G R V)
      refine wp_go 46 rfl rfl rfl (?_ : wpv K_X8_gathers d P 46 [some (4, (p0 : Int)), some (0, x1), some (0, x2), some (0, x3), some (0, x4)] [(0, (V (p0 + 3) (((8 * x2) + x4))))] G R V)
      refine wp_sto (i := (.istore 5)) _ rfl rfl (fun _ => rfl) rfl rfl rfl ?_
      refine wp_wk (L' := [some (4, (p0 : Int)), some (0, x1), some (0, x2), some (0, x3), some (0, x4), some (0, (V (p0 + 3) (((8 * x2) + x4))))]) (wk_s (wk_s (wk_s (wk_s (wk_s (wk_s wk_0)))))) ?_
      show wpv K_X8_gathers d P 48 [some (4, (p0 : Int)), some (0, x1), some (0, x2), some (0, x3), some (0, x4), some (0, (V (p0 + 3) (((8 * x2) + x4))))] [] G R V
      refine wp_ld (i := (.iload 5)) (0, (V (p0 + 3) (((8 * x2) + x4)))) rfl rfl (fun _ => rfl) rfl rfl (?_ : wpv K_X8_gathers d P 50 [some (4, (p0 : Int)), some (0, x1), some (0, x2), some (0, x3), some (0, x4), some (0, (V (p0 + 3) (((8 * x2) + x4))))] [(0, (V (p0 + 3) (((8 * x2) + x4))))] G R V)
      refine wp_i2l rfl rfl f15 (?_ : wpv K_X8_gathers d P 51 [some (4, (p0 : Int)), some (0, x1), some (0, x2), some (0, x3), some (0, x4), some (0, (V (p0 + 3) (((8 * x2) + x4))))] [(2, (V (p0 + 3) (((8 * x2) + x4))))] G R V)
      refine wp_p (i := (.lconst 0)) rfl rfl (fun _ _ _ => rfl) (?_ : wpv K_X8_gathers d P 52 [some (4, (p0 : Int)), some (0, x1), some (0, x2), some (0, x3), some (0, x4), some (0, (V (p0 + 3) (((8 * x2) + x4))))] [(2, 0), (2, (V (p0 + 3) (((8 * x2) + x4))))] G R V)
      refine wp_ld (i := (.iload_n 1)) (0, x1) rfl rfl (fun _ => rfl) rfl rfl (?_ : wpv K_X8_gathers d P 53 [some (4, (p0 : Int)), some (0, x1), some (0, x2), some (0, x3), some (0, x4), some (0, (V (p0 + 3) (((8 * x2) + x4))))] [(0, x1), (2, 0), (2, (V (p0 + 3) (((8 * x2) + x4))))] G R V)
      refine wp_p (i := (.iconst 1)) rfl rfl (fun _ _ _ => rfl) (?_ : wpv K_X8_gathers d P 54 [some (4, (p0 : Int)), some (0, x1), some (0, x2), some (0, x3), some (0, x4), some (0, (V (p0 + 3) (((8 * x2) + x4))))] [(0, 1), (0, x1), (2, 0), (2, (V (p0 + 3) (((8 * x2) + x4))))] G R V)
      obtain ⟨s16, w⟩ := w
      refine wp_xsub rfl rfl s16 (?_ : wpv K_X8_gathers d P 55 [some (4, (p0 : Int)), some (0, x1), some (0, x2), some (0, x3), some (0, x4), some (0, (V (p0 + 3) (((8 * x2) + x4))))] [(0, (x1 - 1)), (2, 0), (2, (V (p0 + 3) (((8 * x2) + x4))))] G R V)
      refine wp_i2l rfl rfl s16 (?_ : wpv K_X8_gathers d P 56 [some (4, (p0 : Int)), some (0, x1), some (0, x2), some (0, x3), some (0, x4), some (0, (V (p0 + 3) (((8 * x2) + x4))))] [(2, (x1 - 1)), (2, 0), (2, (V (p0 + 3) (((8 * x2) + x4))))] G R V)
      refine wp_stat (as := [(2, (V (p0 + 3) (((8 * x2) + x4)))), (2, 0), (2, (x1 - 1))]) (st := []) _ rfl rfl rfl (by omega) rfl rfl (Nat.le_of_ble_eq_true rfl) (cwv_kI w (fun v18 V17 w => ?_))
      show wpv K_X8_gathers d P 59 [some (4, (p0 : Int)), some (0, x1), some (0, x2), some (0, x3), some (0, x4), some (0, (V (p0 + 3) (((8 * x2) + x4))))] [(0, v18)] G R V17
      obtain ⟨s19, w⟩ := w
      refine wp_if (c := .eq) 72 rfl rfl rfl s19 (fun q => ?_) (fun q => ?_)
      · have q : v18 = 0 := q
        replace w := w.1 q
        show wpv K_X8_gathers d P 72 [some (4, (p0 : Int)), some (0, x1), some (0, x2), some (0, x3), some (0, x4), some (0, (V (p0 + 3) (((8 * x2) + x4))))] [] G R V17
        refine wp_p (i := (.bipush (-6))) rfl rfl (fun _ _ _ => rfl) (?_ : wpv K_X8_gathers d P 74 [some (4, (p0 : Int)), some (0, x1), some (0, x2), some (0, x3), some (0, x4), some (0, (V (p0 + 3) (((8 * x2) + x4))))] [(0, (-6))] G R V17)
        exact wp_rI rfl rfl rfl w
      · have q : ¬ v18 = 0 := q
        replace w := w.2 q
        show wpv K_X8_gathers d P 62 [some (4, (p0 : Int)), some (0, x1), some (0, x2), some (0, x3), some (0, x4), some (0, (V (p0 + 3) (((8 * x2) + x4))))] [] G R V17
        refine wp_ld (i := (.iload_n 3)) (0, x3) rfl rfl (fun _ => rfl) rfl rfl (?_ : wpv K_X8_gathers d P 63 [some (4, (p0 : Int)), some (0, x1), some (0, x2), some (0, x3), some (0, x4), some (0, (V (p0 + 3) (((8 * x2) + x4))))] [(0, x3)] G R V17)
        refine wp_ld (i := (.iload 5)) (0, (V (p0 + 3) (((8 * x2) + x4)))) rfl rfl (fun _ => rfl) rfl rfl (?_ : wpv K_X8_gathers d P 65 [some (4, (p0 : Int)), some (0, x1), some (0, x2), some (0, x3), some (0, x4), some (0, (V (p0 + 3) (((8 * x2) + x4))))] [(0, (V (p0 + 3) (((8 * x2) + x4)))), (0, x3)] G R V17)
        refine wp_kshr rfl rfl (?_ : wpv K_X8_gathers d P 66 [some (4, (p0 : Int)), some (0, x1), some (0, x2), some (0, x3), some (0, x4), some (0, (V (p0 + 3) (((8 * x2) + x4))))] [(0, (kshr x3 ((V (p0 + 3) (((8 * x2) + x4))))))] G R V17)
        refine wp_p (i := (.iconst 1)) rfl rfl (fun _ _ _ => rfl) (?_ : wpv K_X8_gathers d P 67 [some (4, (p0 : Int)), some (0, x1), some (0, x2), some (0, x3), some (0, x4), some (0, (V (p0 + 3) (((8 * x2) + x4))))] [(0, 1), (0, (kshr x3 ((V (p0 + 3) (((8 * x2) + x4))))))] G R V17)
        refine wp_kand rfl rfl (?_ : wpv K_X8_gathers d P 68 [some (4, (p0 : Int)), some (0, x1), some (0, x2), some (0, x3), some (0, x4), some (0, (V (p0 + 3) (((8 * x2) + x4))))] [(0, (kand ((kshr x3 ((V (p0 + 3) (((8 * x2) + x4)))))) 1))] G R V17)
        refine wp_p (i := (.iconst 1)) rfl rfl (fun _ _ _ => rfl) (?_ : wpv K_X8_gathers d P 69 [some (4, (p0 : Int)), some (0, x1), some (0, x2), some (0, x3), some (0, x4), some (0, (V (p0 + 3) (((8 * x2) + x4))))] [(0, 1), (0, (kand ((kshr x3 ((V (p0 + 3) (((8 * x2) + x4)))))) 1))] G R V17)
        refine wp_icmp (c := .ne) 75 rfl rfl rfl (t32 _) ⟨by omega, by omega⟩ (fun q => ?_) (fun q => ?_)
        · have q : ¬ (kand ((kshr x3 ((V (p0 + 3) (((8 * x2) + x4)))))) 1) = 1 := q
          replace w := w.1 q
          show wpv K_X8_gathers d P 75 [some (4, (p0 : Int)), some (0, x1), some (0, x2), some (0, x3), some (0, x4), some (0, (V (p0 + 3) (((8 * x2) + x4))))] [] G R V17
          refine wp_ld (i := (.iload_n 3)) (0, x3) rfl rfl (fun _ => rfl) rfl rfl (?_ : wpv K_X8_gathers d P 76 [some (4, (p0 : Int)), some (0, x1), some (0, x2), some (0, x3), some (0, x4), some (0, (V (p0 + 3) (((8 * x2) + x4))))] [(0, x3)] G R V17)
          refine wp_p (i := (.iconst 1)) rfl rfl (fun _ _ _ => rfl) (?_ : wpv K_X8_gathers d P 77 [some (4, (p0 : Int)), some (0, x1), some (0, x2), some (0, x3), some (0, x4), some (0, (V (p0 + 3) (((8 * x2) + x4))))] [(0, 1), (0, x3)] G R V17)
          refine wp_ld (i := (.iload 5)) (0, (V (p0 + 3) (((8 * x2) + x4)))) rfl rfl (fun _ => rfl) rfl rfl (?_ : wpv K_X8_gathers d P 79 [some (4, (p0 : Int)), some (0, x1), some (0, x2), some (0, x3), some (0, x4), some (0, (V (p0 + 3) (((8 * x2) + x4))))] [(0, (V (p0 + 3) (((8 * x2) + x4)))), (0, 1), (0, x3)] G R V17)
          refine wp_kshl rfl rfl (?_ : wpv K_X8_gathers d P 80 [some (4, (p0 : Int)), some (0, x1), some (0, x2), some (0, x3), some (0, x4), some (0, (V (p0 + 3) (((8 * x2) + x4))))] [(0, (kshl 1 ((V (p0 + 3) (((8 * x2) + x4)))))), (0, x3)] G R V17)
          refine wp_kor rfl rfl (?_ : wpv K_X8_gathers d P 81 [some (4, (p0 : Int)), some (0, x1), some (0, x2), some (0, x3), some (0, x4), some (0, (V (p0 + 3) (((8 * x2) + x4))))] [(0, (kor x3 ((kshl 1 ((V (p0 + 3) (((8 * x2) + x4))))))))] G R V17)
          refine wp_sto (i := (.istore_n 3)) _ rfl rfl (fun _ => rfl) rfl rfl rfl ?_
          refine wp_wk (L' := [some (4, (p0 : Int)), some (0, x1), some (0, x2), some (0, (kor x3 ((kshl 1 ((V (p0 + 3) (((8 * x2) + x4)))))))), some (0, x4), some (0, (V (p0 + 3) (((8 * x2) + x4))))]) (wk_s (wk_s (wk_s (wk_s (wk_s (wk_s wk_0)))))) ?_
          show wpv K_X8_gathers d P 82 [some (4, (p0 : Int)), some (0, x1), some (0, x2), some (0, (kor x3 ((kshl 1 ((V (p0 + 3) (((8 * x2) + x4)))))))), some (0, x4), some (0, (V (p0 + 3) (((8 * x2) + x4))))] [] G R V17
          obtain ⟨s20, w⟩ := w
          refine wp_inc (x := 4) (k := 1) (a := x4) (c := (x4 + 1)) _ rfl rfl rfl rfl s20 (by omega) rfl ?_
          show wpv K_X8_gathers d P 85 [some (4, (p0 : Int)), some (0, x1), some (0, x2), some (0, (kor x3 ((kshl 1 ((V (p0 + 3) (((8 * x2) + x4)))))))), some (0, (x4 + 1)), some (0, (V (p0 + 3) (((8 * x2) + x4))))] [] G R V17
          refine wp_go 12 rfl rfl rfl (?_ : wpv K_X8_gathers d P 12 [some (4, (p0 : Int)), some (0, x1), some (0, x2), some (0, (kor x3 ((kshl 1 ((V (p0 + 3) (((8 * x2) + x4)))))))), some (0, (x4 + 1)), some (0, (V (p0 + 3) (((8 * x2) + x4))))] [] G R V17)
          exact wp_wk (wk_s (wk_s (wk_s (wk_s (wk_s wk_0))))) w
        · have q : (kand ((kshr x3 ((V (p0 + 3) (((8 * x2) + x4)))))) 1) = 1 := Decidable.not_not.mp q
          replace w := w.2 q
          show wpv K_X8_gathers d P 72 [some (4, (p0 : Int)), some (0, x1), some (0, x2), some (0, x3), some (0, x4), some (0, (V (p0 + 3) (((8 * x2) + x4))))] [] G R V17
          refine wp_p (i := (.bipush (-6))) rfl rfl (fun _ _ _ => rfl) (?_ : wpv K_X8_gathers d P 74 [some (4, (p0 : Int)), some (0, x1), some (0, x2), some (0, x3), some (0, x4), some (0, (V (p0 + 3) (((8 * x2) + x4))))] [(0, (-6))] G R V17)
          exact wp_rI rfl rfl rfl w

theorem t_X8_gathers_96 {d : Nat} {P : gP} {p0 : Nat} {x1 : Int} {x2 : Int} {G : List gS} {R V : gV} (l0 : lay8 G R p0) (w : ((i32 x2) ∧ (((¬ x2 < 8) → wpv K_X8_gathers d P 122 [some (4, (p0 : Int)), some (0, x1), some (0, 0)] [] G R (wr V p0 10 1)) ∧ ((x2 < 8) → ((0 ≤ x2 ∧ x2 < 1000) ∧ ((i32 (x2 + 1)) ∧ wpv K_X8_gathers d P 96 [some (4, (p0 : Int)), some (0, x1), some (0, (x2 + 1))] [] G R (wr V (p0 + 7) x2 x2))))))) : wpv K_X8_gathers d P 96 [some (4, (p0 : Int)), some (0, x1), some (0, x2)] [] G R V := by
  refine wp_ld (i := (.iload_n 2)) (0, x2) rfl rfl (fun _ => rfl) rfl rfl (?_ : wpv K_X8_gathers d P 97 [some (4, (p0 : Int)), some (0, x1), some (0, x2)] [(0, x2)] G R V)
  refine wp_p (i := (.bipush 8)) rfl rfl (fun _ _ _ => rfl) (?_ : wpv K_X8_gathers d P 99 [some (4, (p0 : Int)), some (0, x1), some (0, x2)] [(0, 8), (0, x2)] G R V)
  obtain ⟨s1, w⟩ := w
  refine wp_icmp (c := .ge) 115 rfl rfl rfl s1 ⟨by omega, by omega⟩ (fun q => ?_) (fun q => ?_)
  · have q : ¬ x2 < 8 := q
    replace w := w.1 q
    show wpv K_X8_gathers d P 115 [some (4, (p0 : Int)), some (0, x1), some (0, x2)] [] G R V
    refine wp_ld (i := (.aload_n 0)) (4, (p0 : Int)) rfl rfl (fun _ => rfl) rfl rfl (?_ : wpv K_X8_gathers d P 116 [some (4, (p0 : Int)), some (0, x1), some (0, x2)] [(4, (p0 : Int))] G R V)
    refine wp_p (i := (.iconst 1)) rfl rfl (fun _ _ _ => rfl) (?_ : wpv K_X8_gathers d P 117 [some (4, (p0 : Int)), some (0, x1), some (0, x2)] [(0, 1), (4, (p0 : Int))] G R V)
    refine wp_putI (k := 10) rfl rfl rfl (ly8_o l0) rfl rfl rfl ⟨by omega, by omega⟩ (?_ : wpv K_X8_gathers d P 120 [some (4, (p0 : Int)), some (0, x1), some (0, x2)] [] G R (wr V p0 10 1))
    refine wp_p (i := (.iconst 0)) rfl rfl (fun _ _ _ => rfl) (?_ : wpv K_X8_gathers d P 121 [some (4, (p0 : Int)), some (0, x1), some (0, x2)] [(0, 0)] G R (wr V p0 10 1))
    refine wp_sto (i := (.istore_n 2)) _ rfl rfl (fun _ => rfl) rfl rfl rfl ?_
    refine wp_wk (L' := [some (4, (p0 : Int)), some (0, x1), some (0, 0)]) (wk_s (wk_s (wk_s wk_0))) ?_
    show wpv K_X8_gathers d P 122 [some (4, (p0 : Int)), some (0, x1), some (0, 0)] [] G R (wr V p0 10 1)
    exact wp_wk (wk_s (wk_s (wk_s wk_0))) w
  · have q : x2 < 8 := Decidable.not_not.mp q
    replace w := w.2 q
    show wpv K_X8_gathers d P 102 [some (4, (p0 : Int)), some (0, x1), some (0, x2)] [] G R V
    refine wp_ld (i := (.aload_n 0)) (4, (p0 : Int)) rfl rfl (fun _ => rfl) rfl rfl (?_ : wpv K_X8_gathers d P 103 [some (4, (p0 : Int)), some (0, x1), some (0, x2)] [(4, (p0 : Int))] G R V)
    refine wp_getA (k := 9) rfl rfl rfl (ly8_o l0) rfl rfl (ly8_9 l0).1 (?_ : wpv K_X8_gathers d P 106 [some (4, (p0 : Int)), some (0, x1), some (0, x2)] [(4, ((p0 + 7 : Nat) : Int))] G R V)
    refine wp_ld (i := (.iload_n 2)) (0, x2) rfl rfl (fun _ => rfl) rfl rfl (?_ : wpv K_X8_gathers d P 107 [some (4, (p0 : Int)), some (0, x1), some (0, x2)] [(0, x2), (4, ((p0 + 7 : Nat) : Int))] G R V)
    refine wp_ld (i := (.iload_n 2)) (0, x2) rfl rfl (fun _ => rfl) rfl rfl (?_ : wpv K_X8_gathers d P 108 [some (4, (p0 : Int)), some (0, x1), some (0, x2)] [(0, x2), (0, x2), (4, ((p0 + 7 : Nat) : Int))] G R V)
    obtain ⟨s2, w⟩ := w
    refine wp_sI rfl rfl (ly8_9 l0).2 s2 s1 (?_ : wpv K_X8_gathers d P 109 [some (4, (p0 : Int)), some (0, x1), some (0, x2)] [] G R (wr V (p0 + 7) x2 x2))
    obtain ⟨s3, w⟩ := w
    refine wp_inc (x := 2) (k := 1) (a := x2) (c := (x2 + 1)) _ rfl rfl rfl rfl s3 (by omega) rfl ?_
    show wpv K_X8_gathers d P 112 [some (4, (p0 : Int)), some (0, x1), some (0, (x2 + 1))] [] G R (wr V (p0 + 7) x2 x2)
    refine wp_go 96 rfl rfl rfl (?_ : wpv K_X8_gathers d P 96 [some (4, (p0 : Int)), some (0, x1), some (0, (x2 + 1))] [] G R (wr V (p0 + 7) x2 x2))
    exact wp_wk (wk_s (wk_s (wk_s wk_0))) w

theorem t_X8_gathers_122 {d : Nat} {P : gP} {p0 : Nat} {x1 : Int} {x2 : Int} {G : List gS} {R V : gV} (l0 : lay8 G R p0) (w : ((i32 (V p0 10)) → ((i32 x2) ∧ (((¬ x2 < (V p0 10)) → P (some (0, 0)) V) ∧ ((x2 < (V p0 10)) → wpv K_X8_gathers d P 132 [some (4, (p0 : Int)), some (0, x1), some (0, x2), some (0, 0)] [] G R V))))) : wpv K_X8_gathers d P 122 [some (4, (p0 : Int)), some (0, x1), some (0, x2)] [] G R V := by
  refine wp_ld (i := (.iload_n 2)) (0, x2) rfl rfl (fun _ => rfl) rfl rfl (?_ : wpv K_X8_gathers d P 123 [some (4, (p0 : Int)), some (0, x1), some (0, x2)] [(0, x2)] G R V)
  refine wp_ld (i := (.aload_n 0)) (4, (p0 : Int)) rfl rfl (fun _ => rfl) rfl rfl (?_ : wpv K_X8_gathers d P 124 [some (4, (p0 : Int)), some (0, x1), some (0, x2)] [(4, (p0 : Int)), (0, x2)] G R V)
  refine wp_rng (fun vr1 => ?_)
  have f2 : i32 (V p0 10) := vr_f0 vr1 (ly8_o l0) rfl rfl
  replace w := w f2
  refine wp_getI (k := 10) rfl rfl rfl (ly8_o l0) rfl rfl (?_ : wpv K_X8_gathers d P 127 [some (4, (p0 : Int)), some (0, x1), some (0, x2)] [(0, (V p0 10)), (0, x2)] G R V)
  obtain ⟨s3, w⟩ := w
  refine wp_icmp (c := .ge) 249 rfl rfl rfl s3 f2 (fun q => ?_) (fun q => ?_)
  · have q : ¬ x2 < (V p0 10) := q
    replace w := w.1 q
    show wpv K_X8_gathers d P 249 [some (4, (p0 : Int)), some (0, x1), some (0, x2)] [] G R V
    refine wp_p (i := (.iconst 0)) rfl rfl (fun _ _ _ => rfl) (?_ : wpv K_X8_gathers d P 250 [some (4, (p0 : Int)), some (0, x1), some (0, x2)] [(0, 0)] G R V)
    exact wp_rI rfl rfl rfl w
  · have q : x2 < (V p0 10) := Decidable.not_not.mp q
    replace w := w.2 q
    show wpv K_X8_gathers d P 130 [some (4, (p0 : Int)), some (0, x1), some (0, x2)] [] G R V
    refine wp_p (i := (.iconst 0)) rfl rfl (fun _ _ _ => rfl) (?_ : wpv K_X8_gathers d P 131 [some (4, (p0 : Int)), some (0, x1), some (0, x2)] [(0, 0)] G R V)
    refine wp_sto (i := (.istore_n 3)) _ rfl rfl (fun _ => rfl) rfl rfl rfl ?_
    refine wp_wk (L' := [some (4, (p0 : Int)), some (0, x1), some (0, x2), some (0, 0)]) (wk_s (wk_s (wk_s (wk_s wk_0)))) ?_
    show wpv K_X8_gathers d P 132 [some (4, (p0 : Int)), some (0, x1), some (0, x2), some (0, 0)] [] G R V
    exact wp_wk (wk_s (wk_s (wk_s (wk_s wk_0)))) w

theorem t_X8_gathers_132 {d : Nat} {P : gP} {p0 : Nat} {x1 : Int} {x2 : Int} {x3 : Int} {G : List gS} {R V : gV} (l0 : lay8 G R p0) (w : ((i32 x3) ∧ (((¬ x3 < 4) → ((i32 (x2 + 1)) ∧ wpv K_X8_gathers d P 122 [some (4, (p0 : Int)), some (0, x1), some (0, (x2 + 1))] [] G R V)) ∧ ((x3 < 4) → wpv K_X8_gathers d P 140 [some (4, (p0 : Int)), some (0, x1), some (0, x2), some (0, x3), some (0, 0)] [] G R V)))) : wpv K_X8_gathers d P 132 [some (4, (p0 : Int)), some (0, x1), some (0, x2), some (0, x3)] [] G R V := by
  refine wp_ld (i := (.iload_n 3)) (0, x3) rfl rfl (fun _ => rfl) rfl rfl (?_ : wpv K_X8_gathers d P 133 [some (4, (p0 : Int)), some (0, x1), some (0, x2), some (0, x3)] [(0, x3)] G R V)
  refine wp_p (i := (.iconst 4)) rfl rfl (fun _ _ _ => rfl) (?_ : wpv K_X8_gathers d P 134 [some (4, (p0 : Int)), some (0, x1), some (0, x2), some (0, x3)] [(0, 4), (0, x3)] G R V)
  obtain ⟨s1, w⟩ := w
  refine wp_icmp (c := .ge) 243 rfl rfl rfl s1 ⟨by omega, by omega⟩ (fun q => ?_) (fun q => ?_)
  · have q : ¬ x3 < 4 := q
    replace w := w.1 q
    show wpv K_X8_gathers d P 243 [some (4, (p0 : Int)), some (0, x1), some (0, x2), some (0, x3)] [] G R V
    obtain ⟨s2, w⟩ := w
    refine wp_inc (x := 2) (k := 1) (a := x2) (c := (x2 + 1)) _ rfl rfl rfl rfl s2 (by omega) rfl ?_
    show wpv K_X8_gathers d P 246 [some (4, (p0 : Int)), some (0, x1), some (0, (x2 + 1)), some (0, x3)] [] G R V
    refine wp_go 122 rfl rfl rfl (?_ : wpv K_X8_gathers d P 122 [some (4, (p0 : Int)), some (0, x1), some (0, (x2 + 1)), some (0, x3)] [] G R V)
    exact wp_wk (wk_s (wk_s (wk_s wk_0))) w
  · have q : x3 < 4 := Decidable.not_not.mp q
    replace w := w.2 q
    show wpv K_X8_gathers d P 137 [some (4, (p0 : Int)), some (0, x1), some (0, x2), some (0, x3)] [] G R V
    refine wp_p (i := (.iconst 0)) rfl rfl (fun _ _ _ => rfl) (?_ : wpv K_X8_gathers d P 138 [some (4, (p0 : Int)), some (0, x1), some (0, x2), some (0, x3)] [(0, 0)] G R V)
    refine wp_sto (i := (.istore 4)) _ rfl rfl (fun _ => rfl) rfl rfl rfl ?_
    refine wp_wk (L' := [some (4, (p0 : Int)), some (0, x1), some (0, x2), some (0, x3), some (0, 0)]) (wk_s (wk_s (wk_s (wk_s (wk_s wk_0))))) ?_
    show wpv K_X8_gathers d P 140 [some (4, (p0 : Int)), some (0, x1), some (0, x2), some (0, x3), some (0, 0)] [] G R V
    exact wp_wk (wk_s (wk_s (wk_s (wk_s (wk_s wk_0))))) w

theorem t_X8_gathers_140 {d : Nat} {P : gP} {p0 : Nat} {x1 : Int} {x2 : Int} {x3 : Int} {x4 : Int} {G : List gS} {R V : gV} (l0 : lay8 G R p0) (w : ((i32 x4) ∧ ((i32 x1) ∧ (((¬ x4 < x1) → cwv d (fun r V3 => ∃ v4 : Int, r = some (0, v4) ∧ ((i32 v4) ∧ (((¬ v4 = 0) → ((i32 (V3 p0 10)) → (((¬ (V3 p0 10) = 120) → ((i32 ((V3 p0 10) + 1)) ∧ ((i32 (x3 + 1)) ∧ wpv K_X8_gathers d P 132 [some (4, (p0 : Int)), some (0, x1), some (0, x2), some (0, (x3 + 1))] [] G R (wr V3 p0 10 (((V3 p0 10) + 1)))))) ∧ (((V3 p0 10) = 120) → P (some (0, (-5))) V3)))) ∧ ((v4 = 0) → ((i32 (x3 + 1)) ∧ wpv K_X8_gathers d P 132 [some (4, (p0 : Int)), some (0, x1), some (0, x2), some (0, (x3 + 1))] [] G R V3))))) 165 [(4, (p0 : Int)), (0, x1)] G R V) ∧ ((x4 < x1) → cwv d (fun r V11 => ∃ v12 : Int, r = some (0, v12) ∧ ((i32 (V11 p0 10)) → ((i32 (8 * (V11 p0 10))) ∧ ((i32 ((8 * (V11 p0 10)) + x4)) ∧ ((0 ≤ x3 ∧ x3 < 4) ∧ ((i32 (V11 (p0 + 2) x3)) → ((i32 v12) ∧ (((¬ v12 < (V11 (p0 + 2) x3)) → ((0 ≤ ((8 * (V11 p0 10)) + x4) ∧ ((8 * (V11 p0 10)) + x4) < 1000) ∧ ((i32 (x4 + 1)) ∧ wpv K_X8_gathers d P 140 [some (4, (p0 : Int)), some (0, x1), some (0, x2), some (0, x3), some (0, (x4 + 1))] [] G R (wr V11 (p0 + 7) (((8 * (V11 p0 10)) + x4)) v12)))) ∧ ((v12 < (V11 (p0 + 2) x3)) → ((i32 (8 * x3)) ∧ ((i32 ((8 * x3) + v12)) ∧ ((0 ≤ ((8 * x3) + v12) ∧ ((8 * x3) + v12) < 32) ∧ ((i32 (V11 (p0 + 3) (((8 * x3) + v12)))) → ((0 ≤ ((8 * (V11 p0 10)) + x4) ∧ ((8 * (V11 p0 10)) + x4) < 1000) ∧ ((i32 (x4 + 1)) ∧ wpv K_X8_gathers d P 140 [some (4, (p0 : Int)), some (0, x1), some (0, x2), some (0, x3), some (0, (x4 + 1))] [] G R (wr V11 (p0 + 7) (((8 * (V11 p0 10)) + x4)) ((V11 (p0 + 3) (((8 * x3) + v12)))))))))))))))))))) 164 [(4, (p0 : Int)), (0, x2), (0, x4)] G R V))))) : wpv K_X8_gathers d P 140 [some (4, (p0 : Int)), some (0, x1), some (0, x2), some (0, x3), some (0, x4)] [] G R V := by
  refine wp_ld (i := (.iload 4)) (0, x4) rfl rfl (fun _ => rfl) rfl rfl (?_ : wpv K_X8_gathers d P 142 [some (4, (p0 : Int)), some (0, x1), some (0, x2), some (0, x3), some (0, x4)] [(0, x4)] G R V)
  refine wp_ld (i := (.iload_n 1)) (0, x1) rfl rfl (fun _ => rfl) rfl rfl (?_ : wpv K_X8_gathers d P 143 [some (4, (p0 : Int)), some (0, x1), some (0, x2), some (0, x3), some (0, x4)] [(0, x1), (0, x4)] G R V)
  obtain ⟨s1, w⟩ := w
  obtain ⟨s2, w⟩ := w
  refine wp_icmp (c := .ge) 204 rfl rfl rfl s1 s2 (fun q => ?_) (fun q => ?_)
  · have q : ¬ x4 < x1 := q
    replace w := w.1 q
    show wpv K_X8_gathers d P 204 [some (4, (p0 : Int)), some (0, x1), some (0, x2), some (0, x3), some (0, x4)] [] G R V
    refine wp_ld (i := (.aload_n 0)) (4, (p0 : Int)) rfl rfl (fun _ => rfl) rfl rfl (?_ : wpv K_X8_gathers d P 205 [some (4, (p0 : Int)), some (0, x1), some (0, x2), some (0, x3), some (0, x4)] [(4, (p0 : Int))] G R V)
    refine wp_ld (i := (.iload_n 1)) (0, x1) rfl rfl (fun _ => rfl) rfl rfl (?_ : wpv K_X8_gathers d P 206 [some (4, (p0 : Int)), some (0, x1), some (0, x2), some (0, x3), some (0, x4)] [(0, x1), (4, (p0 : Int))] G R V)
    refine wp_virt (as := [(0, x1)]) (a := p0) (st := []) _ rfl rfl rfl rfl rfl rfl (ly8_o l0) (Nat.le_of_ble_eq_true rfl) (cwv_kI w (fun v4 V3 w => ?_))
    show wpv K_X8_gathers d P 209 [some (4, (p0 : Int)), some (0, x1), some (0, x2), some (0, x3), some (0, x4)] [(0, v4)] G R V3
    obtain ⟨s5, w⟩ := w
    refine wp_if (c := .ne) 215 rfl rfl rfl s5 (fun q => ?_) (fun q => ?_)
    · have q : ¬ v4 = 0 := q
      replace w := w.1 q
      show wpv K_X8_gathers d P 215 [some (4, (p0 : Int)), some (0, x1), some (0, x2), some (0, x3), some (0, x4)] [] G R V3
      refine wp_ld (i := (.aload_n 0)) (4, (p0 : Int)) rfl rfl (fun _ => rfl) rfl rfl (?_ : wpv K_X8_gathers d P 216 [some (4, (p0 : Int)), some (0, x1), some (0, x2), some (0, x3), some (0, x4)] [(4, (p0 : Int))] G R V3)
      refine wp_rng (fun vr6 => ?_)
      have f7 : i32 (V3 p0 10) := vr_f0 vr6 (ly8_o l0) rfl rfl
      replace w := w f7
      refine wp_getI (k := 10) rfl rfl rfl (ly8_o l0) rfl rfl (?_ : wpv K_X8_gathers d P 219 [some (4, (p0 : Int)), some (0, x1), some (0, x2), some (0, x3), some (0, x4)] [(0, (V3 p0 10))] G R V3)
      refine wp_p (i := (.bipush 120)) rfl rfl (fun _ _ _ => rfl) (?_ : wpv K_X8_gathers d P 221 [some (4, (p0 : Int)), some (0, x1), some (0, x2), some (0, x3), some (0, x4)] [(0, 120), (0, (V3 p0 10))] G R V3)
      refine wp_icmp (c := .ne) 227 rfl rfl rfl f7 ⟨by omega, by omega⟩ (fun q => ?_) (fun q => ?_)
      · have q : ¬ (V3 p0 10) = 120 := q
        replace w := w.1 q
        show wpv K_X8_gathers d P 227 [some (4, (p0 : Int)), some (0, x1), some (0, x2), some (0, x3), some (0, x4)] [] G R V3
        refine wp_ld (i := (.aload_n 0)) (4, (p0 : Int)) rfl rfl (fun _ => rfl) rfl rfl (?_ : wpv K_X8_gathers d P 228 [some (4, (p0 : Int)), some (0, x1), some (0, x2), some (0, x3), some (0, x4)] [(4, (p0 : Int))] G R V3)
        refine wp_p (i := .dup) rfl rfl (fun _ _ _ => rfl) (?_ : wpv K_X8_gathers d P 229 [some (4, (p0 : Int)), some (0, x1), some (0, x2), some (0, x3), some (0, x4)] [(4, (p0 : Int)), (4, (p0 : Int))] G R V3)
        refine wp_getI (k := 10) rfl rfl rfl (ly8_o l0) rfl rfl (?_ : wpv K_X8_gathers d P 232 [some (4, (p0 : Int)), some (0, x1), some (0, x2), some (0, x3), some (0, x4)] [(0, (V3 p0 10)), (4, (p0 : Int))] G R V3)
        refine wp_p (i := (.iconst 1)) rfl rfl (fun _ _ _ => rfl) (?_ : wpv K_X8_gathers d P 233 [some (4, (p0 : Int)), some (0, x1), some (0, x2), some (0, x3), some (0, x4)] [(0, 1), (0, (V3 p0 10)), (4, (p0 : Int))] G R V3)
        obtain ⟨s8, w⟩ := w
        refine wp_xadd rfl rfl s8 (?_ : wpv K_X8_gathers d P 234 [some (4, (p0 : Int)), some (0, x1), some (0, x2), some (0, x3), some (0, x4)] [(0, ((V3 p0 10) + 1)), (4, (p0 : Int))] G R V3)
        refine wp_putI (k := 10) rfl rfl rfl (ly8_o l0) rfl rfl rfl s8 (?_ : wpv K_X8_gathers d P 237 [some (4, (p0 : Int)), some (0, x1), some (0, x2), some (0, x3), some (0, x4)] [] G R (wr V3 p0 10 (((V3 p0 10) + 1))))
        obtain ⟨s9, w⟩ := w
        refine wp_inc (x := 3) (k := 1) (a := x3) (c := (x3 + 1)) _ rfl rfl rfl rfl s9 (by omega) rfl ?_
        show wpv K_X8_gathers d P 240 [some (4, (p0 : Int)), some (0, x1), some (0, x2), some (0, (x3 + 1)), some (0, x4)] [] G R (wr V3 p0 10 (((V3 p0 10) + 1)))
        refine wp_go 132 rfl rfl rfl (?_ : wpv K_X8_gathers d P 132 [some (4, (p0 : Int)), some (0, x1), some (0, x2), some (0, (x3 + 1)), some (0, x4)] [] G R (wr V3 p0 10 (((V3 p0 10) + 1))))
        exact wp_wk (wk_s (wk_s (wk_s (wk_s wk_0)))) w
      · have q : (V3 p0 10) = 120 := Decidable.not_not.mp q
        replace w := w.2 q
        show wpv K_X8_gathers d P 224 [some (4, (p0 : Int)), some (0, x1), some (0, x2), some (0, x3), some (0, x4)] [] G R V3
        refine wp_p (i := (.bipush (-5))) rfl rfl (fun _ _ _ => rfl) (?_ : wpv K_X8_gathers d P 226 [some (4, (p0 : Int)), some (0, x1), some (0, x2), some (0, x3), some (0, x4)] [(0, (-5))] G R V3)
        exact wp_rI rfl rfl rfl w
    · have q : v4 = 0 := Decidable.not_not.mp q
      replace w := w.2 q
      show wpv K_X8_gathers d P 212 [some (4, (p0 : Int)), some (0, x1), some (0, x2), some (0, x3), some (0, x4)] [] G R V3
      refine wp_go 237 rfl rfl rfl (?_ : wpv K_X8_gathers d P 237 [some (4, (p0 : Int)), some (0, x1), some (0, x2), some (0, x3), some (0, x4)] [] G R V3)
      obtain ⟨s10, w⟩ := w
      refine wp_inc (x := 3) (k := 1) (a := x3) (c := (x3 + 1)) _ rfl rfl rfl rfl s10 (by omega) rfl ?_
      show wpv K_X8_gathers d P 240 [some (4, (p0 : Int)), some (0, x1), some (0, x2), some (0, (x3 + 1)), some (0, x4)] [] G R V3
      refine wp_go 132 rfl rfl rfl (?_ : wpv K_X8_gathers d P 132 [some (4, (p0 : Int)), some (0, x1), some (0, x2), some (0, (x3 + 1)), some (0, x4)] [] G R V3)
      exact wp_wk (wk_s (wk_s (wk_s (wk_s wk_0)))) w
  · have q : x4 < x1 := Decidable.not_not.mp q
    replace w := w.2 q
    show wpv K_X8_gathers d P 146 [some (4, (p0 : Int)), some (0, x1), some (0, x2), some (0, x3), some (0, x4)] [] G R V
    refine wp_ld (i := (.aload_n 0)) (4, (p0 : Int)) rfl rfl (fun _ => rfl) rfl rfl (?_ : wpv K_X8_gathers d P 147 [some (4, (p0 : Int)), some (0, x1), some (0, x2), some (0, x3), some (0, x4)] [(4, (p0 : Int))] G R V)
    refine wp_ld (i := (.iload_n 2)) (0, x2) rfl rfl (fun _ => rfl) rfl rfl (?_ : wpv K_X8_gathers d P 148 [some (4, (p0 : Int)), some (0, x1), some (0, x2), some (0, x3), some (0, x4)] [(0, x2), (4, (p0 : Int))] G R V)
    refine wp_ld (i := (.iload 4)) (0, x4) rfl rfl (fun _ => rfl) rfl rfl (?_ : wpv K_X8_gathers d P 150 [some (4, (p0 : Int)), some (0, x1), some (0, x2), some (0, x3), some (0, x4)] [(0, x4), (0, x2), (4, (p0 : Int))] G R V)
    refine wp_virt (as := [(0, x2), (0, x4)]) (a := p0) (st := []) _ rfl rfl rfl rfl rfl rfl (ly8_o l0) (Nat.le_of_ble_eq_true rfl) (cwv_kI w (fun v12 V11 w => ?_))
    show wpv K_X8_gathers d P 153 [some (4, (p0 : Int)), some (0, x1), some (0, x2), some (0, x3), some (0, x4)] [(0, v12)] G R V11
    refine wp_sto (i := (.istore 5)) _ rfl rfl (fun _ => rfl) rfl rfl rfl ?_
    refine wp_wk (L' := [some (4, (p0 : Int)), some (0, x1), some (0, x2), some (0, x3), some (0, x4), some (0, v12)]) (wk_s (wk_s (wk_s (wk_s (wk_s (wk_s wk_0)))))) ?_
    show wpv K_X8_gathers d P 155 [some (4, (p0 : Int)), some (0, x1), some (0, x2), some (0, x3), some (0, x4), some (0, v12)] [] G R V11
    refine wp_ld (i := (.aload_n 0)) (4, (p0 : Int)) rfl rfl (fun _ => rfl) rfl rfl (?_ : wpv K_X8_gathers d P 156 [some (4, (p0 : Int)), some (0, x1), some (0, x2), some (0, x3), some (0, x4), some (0, v12)] [(4, (p0 : Int))] G R V11)
    refine wp_getA (k := 9) rfl rfl rfl (ly8_o l0) rfl rfl (ly8_9 l0).1 (?_ : wpv K_X8_gathers d P 159 [some (4, (p0 : Int)), some (0, x1), some (0, x2), some (0, x3), some (0, x4), some (0, v12)] [(4, ((p0 + 7 : Nat) : Int))] G R V11)
    refine wp_p (i := (.bipush 8)) rfl rfl (fun _ _ _ => rfl) (?_ : wpv K_X8_gathers d P 161 [some (4, (p0 : Int)), some (0, x1), some (0, x2), some (0, x3), some (0, x4), some (0, v12)] [(0, 8), (4, ((p0 + 7 : Nat) : Int))] G R V11)
    refine wp_ld (i := (.aload_n 0)) (4, (p0 : Int)) rfl rfl (fun _ => rfl) rfl rfl (?_ : wpv K_X8_gathers d P 162 [some (4, (p0 : Int)), some (0, x1), some (0, x2), some (0, x3), some (0, x4), some (0, v12)] [(4, (p0 : Int)), (0, 8), (4, ((p0 + 7 : Nat) : Int))] G R V11)
    refine wp_rng (fun vr13 => ?_)
    have f14 : i32 (V11 p0 10) := vr_f0 vr13 (ly8_o l0) rfl rfl
    replace w := w f14
    refine wp_getI (k := 10) rfl rfl rfl (ly8_o l0) rfl rfl (?_ : wpv K_X8_gathers d P 165 [some (4, (p0 : Int)), some (0, x1), some (0, x2), some (0, x3), some (0, x4), some (0, v12)] [(0, (V11 p0 10)), (0, 8), (4, ((p0 + 7 : Nat) : Int))] G R V11)
    obtain ⟨s15, w⟩ := w
    refine wp_xmul rfl rfl s15 (?_ : wpv K_X8_gathers d P 166 [some (4, (p0 : Int)), some (0, x1), some (0, x2), some (0, x3), some (0, x4), some (0, v12)] [(0, (8 * (V11 p0 10))), (4, ((p0 + 7 : Nat) : Int))] G R V11)
    refine wp_ld (i := (.iload 4)) (0, x4) rfl rfl (fun _ => rfl) rfl rfl (?_ : wpv K_X8_gathers d P 168 [some (4, (p0 : Int)), some (0, x1), some (0, x2), some (0, x3), some (0, x4), some (0, v12)] [(0, x4), (0, (8 * (V11 p0 10))), (4, ((p0 + 7 : Nat) : Int))] G R V11)
    obtain ⟨s16, w⟩ := w
    refine wp_xadd rfl rfl s16 (?_ : wpv K_X8_gathers d P 169 [some (4, (p0 : Int)), some (0, x1), some (0, x2), some (0, x3), some (0, x4), some (0, v12)] [(0, ((8 * (V11 p0 10)) + x4)), (4, ((p0 + 7 : Nat) : Int))] G R V11)
    refine wp_ld (i := (.iload 5)) (0, v12) rfl rfl (fun _ => rfl) rfl rfl (?_ : wpv K_X8_gathers d P 171 [some (4, (p0 : Int)), some (0, x1), some (0, x2), some (0, x3), some (0, x4), some (0, v12)] [(0, v12), (0, ((8 * (V11 p0 10)) + x4)), (4, ((p0 + 7 : Nat) : Int))] G R V11)
    refine wp_ld (i := (.aload_n 0)) (4, (p0 : Int)) rfl rfl (fun _ => rfl) rfl rfl (?_ : wpv K_X8_gathers d P 172 [some (4, (p0 : Int)), some (0, x1), some (0, x2), some (0, x3), some (0, x4), some (0, v12)] [(4, (p0 : Int)), (0, v12), (0, ((8 * (V11 p0 10)) + x4)), (4, ((p0 + 7 : Nat) : Int))] G R V11)
    refine wp_getA (k := 2) rfl rfl rfl (ly8_o l0) rfl rfl (ly8_2 l0).1 (?_ : wpv K_X8_gathers d P 175 [some (4, (p0 : Int)), some (0, x1), some (0, x2), some (0, x3), some (0, x4), some (0, v12)] [(4, ((p0 + 2 : Nat) : Int)), (0, v12), (0, ((8 * (V11 p0 10)) + x4)), (4, ((p0 + 7 : Nat) : Int))] G R V11)
    refine wp_ld (i := (.iload_n 3)) (0, x3) rfl rfl (fun _ => rfl) rfl rfl (?_ : wpv K_X8_gathers d P 176 [some (4, (p0 : Int)), some (0, x1), some (0, x2), some (0, x3), some (0, x4), some (0, v12)] [(0, x3), (4, ((p0 + 2 : Nat) : Int)), (0, v12), (0, ((8 * (V11 p0 10)) + x4)), (4, ((p0 + 7 : Nat) : Int))] G R V11)
    obtain ⟨s17, w⟩ := w
    have f18 : i32 (V11 (p0 + 2) x3) := vr_a0 vr13 (ly8_2 l0).2 s17
    replace w := w f18
    refine wp_aI rfl rfl (ly8_2 l0).2 s17 (?_ : wpv K_X8_gathers d P 177 [some (4, (p0 : Int)), some (0, x1), some (0, x2), some (0, x3), some (0, x4), some (0, v12)] [(0, (V11 (p0 + 2) x3)), (0, v12), (0, ((8 * (V11 p0 10)) + x4)), (4, ((p0 + 7 : Nat) : Int))] G R V11)
    obtain ⟨s19, w⟩ := w
    refine wp_icmp (c := .ge) 195 rfl rfl rfl s19 f18 (fun q => ?_) (fun q => ?_)
    · have q : ¬ v12 < (V11 (p0 + 2) x3) := q
      replace w := w.1 q
      show wpv K_X8_gathers d P 195 [some (4, (p0 : Int)), some (0, x1), some (0, x2), some (0, x3), some (0, x4), some (0, v12)] [(0, ((8 * (V11 p0 10)) + x4)), (4, ((p0 + 7 : Nat) : Int))] G R V11
      refine wp_ld (i := (.iload 5)) (0, v12) rfl rfl (fun _ => rfl) rfl rfl (?_ : wpv K_X8_gathers d P 197 [some (4, (p0 : Int)), some (0, x1), some (0, x2), some (0, x3), some (0, x4), some (0, v12)] [(0, v12), (0, ((8 * (V11 p0 10)) + x4)), (4, ((p0 + 7 : Nat) : Int))] G R V11)
      obtain ⟨s20, w⟩ := w
      refine wp_sI rfl rfl (ly8_9 l0).2 s20 s19 (?_ : wpv K_X8_gathers d P 198 [some (4, (p0 : Int)), some (0, x1), some (0, x2), some (0, x3), some (0, x4), some (0, v12)] [] G R (wr V11 (p0 + 7) (((8 * (V11 p0 10)) + x4)) v12))
      obtain ⟨s21, w⟩ := w
      refine wp_inc (x := 4) (k := 1) (a := x4) (c := (x4 + 1)) _ rfl rfl rfl rfl s21 (by omega) rfl ?_
      show wpv K_X8_gathers d P 201 [some (4, (p0 : Int)), some (0, x1), some (0, x2), some (0, x3), some (0, (x4 + 1)), some (0, v12)] [] G R (wr V11 (p0 + 7) (((8 * (V11 p0 10)) + x4)) v12)
      refine wp_go 140 rfl rfl rfl (?_ : wpv K_X8_gathers d P 140 [some (4, (p0 : Int)), some (0, x1), some (0, x2), some (0, x3), some (0, (x4 + 1)), some (0, v12)] [] G R (wr V11 (p0 + 7) (((8 * (V11 p0 10)) + x4)) v12))
      exact wp_wk (wk_s (wk_s (wk_s (wk_s (wk_s wk_0))))) w
    · have q : v12 < (V11 (p0 + 2) x3) := Decidable.not_not.mp q
      replace w := w.2 q
      show wpv K_X8_gathers d P 180 [some (4, (p0 : Int)), some (0, x1), some (0, x2), some (0, x3), some (0, x4), some (0, v12)] [(0, ((8 * (V11 p0 10)) + x4)), (4, ((p0 + 7 : Nat) : Int))] G R V11
      refine wp_ld (i := (.aload_n 0)) (4, (p0 : Int)) rfl rfl (fun _ => rfl) rfl rfl (?_ : wpv K_X8_gathers d P 181 [some (4, (p0 : Int)), some (0, x1), some (0, x2), some (0, x3), some (0, x4), some (0, v12)] [(4, (p0 : Int)), (0, ((8 * (V11 p0 10)) + x4)), (4, ((p0 + 7 : Nat) : Int))] G R V11)
      refine wp_getA (k := 3) rfl rfl rfl (ly8_o l0) rfl rfl (ly8_3 l0).1 (?_ : wpv K_X8_gathers d P 184 [some (4, (p0 : Int)), some (0, x1), some (0, x2), some (0, x3), some (0, x4), some (0, v12)] [(4, ((p0 + 3 : Nat) : Int)), (0, ((8 * (V11 p0 10)) + x4)), (4, ((p0 + 7 : Nat) : Int))] G R V11)
      refine wp_p (i := (.bipush 8)) rfl rfl (fun _ _ _ => rfl) (?_ : wpv K_X8_gathers d P 186 [some (4, (p0 : Int)), some (0, x1), some (0, x2), some (0, x3), some (0, x4), some (0, v12)] [(0, 8), (4, ((p0 + 3 : Nat) : Int)), (0, ((8 * (V11 p0 10)) + x4)), (4, ((p0 + 7 : Nat) : Int))] G R V11)
      refine wp_ld (i := (.iload_n 3)) (0, x3) rfl rfl (fun _ => rfl) rfl rfl (?_ : wpv K_X8_gathers d P 187 [some (4, (p0 : Int)), some (0, x1), some (0, x2), some (0, x3), some (0, x4), some (0, v12)] [(0, x3), (0, 8), (4, ((p0 + 3 : Nat) : Int)), (0, ((8 * (V11 p0 10)) + x4)), (4, ((p0 + 7 : Nat) : Int))] G R V11)
      obtain ⟨s22, w⟩ := w
      refine wp_xmul rfl rfl s22 (?_ : wpv K_X8_gathers d P 188 [some (4, (p0 : Int)), some (0, x1), some (0, x2), some (0, x3), some (0, x4), some (0, v12)] [(0, (8 * x3)), (4, ((p0 + 3 : Nat) : Int)), (0, ((8 * (V11 p0 10)) + x4)), (4, ((p0 + 7 : Nat) : Int))] G R V11)
      refine wp_ld (i := (.iload 5)) (0, v12) rfl rfl (fun _ => rfl) rfl rfl (?_ : wpv K_X8_gathers d P 190 [some (4, (p0 : Int)), some (0, x1), some (0, x2), some (0, x3), some (0, x4), some (0, v12)] [(0, v12), (0, (8 * x3)), (4, ((p0 + 3 : Nat) : Int)), (0, ((8 * (V11 p0 10)) + x4)), (4, ((p0 + 7 : Nat) : Int))] G R V11)
      obtain ⟨s23, w⟩ := w
      refine wp_xadd rfl rfl s23 (?_ : wpv K_X8_gathers d P 191 [some (4, (p0 : Int)), some (0, x1), some (0, x2), some (0, x3), some (0, x4), some (0, v12)] [(0, ((8 * x3) + v12)), (4, ((p0 + 3 : Nat) : Int)), (0, ((8 * (V11 p0 10)) + x4)), (4, ((p0 + 7 : Nat) : Int))] G R V11)
      obtain ⟨s24, w⟩ := w
      have f25 : i32 (V11 (p0 + 3) (((8 * x3) + v12))) := vr_a0 vr13 (ly8_3 l0).2 s24
      replace w := w f25
      refine wp_aI rfl rfl (ly8_3 l0).2 s24 (?_ : wpv K_X8_gathers d P 192 [some (4, (p0 : Int)), some (0, x1), some (0, x2), some (0, x3), some (0, x4), some (0, v12)] [(0, (V11 (p0 + 3) (((8 * x3) + v12)))), (0, ((8 * (V11 p0 10)) + x4)), (4, ((p0 + 7 : Nat) : Int))] G R V11)
      refine wp_go 197 rfl rfl rfl (?_ : wpv K_X8_gathers d P 197 [some (4, (p0 : Int)), some (0, x1), some (0, x2), some (0, x3), some (0, x4), some (0, v12)] [(0, (V11 (p0 + 3) (((8 * x3) + v12)))), (0, ((8 * (V11 p0 10)) + x4)), (4, ((p0 + 7 : Nat) : Int))] G R V11)
      obtain ⟨s26, w⟩ := w
      refine wp_sI rfl rfl (ly8_9 l0).2 s26 f25 (?_ : wpv K_X8_gathers d P 198 [some (4, (p0 : Int)), some (0, x1), some (0, x2), some (0, x3), some (0, x4), some (0, v12)] [] G R (wr V11 (p0 + 7) (((8 * (V11 p0 10)) + x4)) ((V11 (p0 + 3) (((8 * x3) + v12))))))
      obtain ⟨s27, w⟩ := w
      refine wp_inc (x := 4) (k := 1) (a := x4) (c := (x4 + 1)) _ rfl rfl rfl rfl s27 (by omega) rfl ?_
      show wpv K_X8_gathers d P 201 [some (4, (p0 : Int)), some (0, x1), some (0, x2), some (0, x3), some (0, (x4 + 1)), some (0, v12)] [] G R (wr V11 (p0 + 7) (((8 * (V11 p0 10)) + x4)) ((V11 (p0 + 3) (((8 * x3) + v12)))))
      refine wp_go 140 rfl rfl rfl (?_ : wpv K_X8_gathers d P 140 [some (4, (p0 : Int)), some (0, x1), some (0, x2), some (0, x3), some (0, (x4 + 1)), some (0, v12)] [] G R (wr V11 (p0 + 7) (((8 * (V11 p0 10)) + x4)) ((V11 (p0 + 3) (((8 * x3) + v12))))))
      exact wp_wk (wk_s (wk_s (wk_s (wk_s (wk_s wk_0))))) w
theorem t_X8_isBefore_0 {d : Nat} {P : gP} {p0 : Nat} {x1 : Int} {x2 : Int} {x3 : Int} {G : List gS} {R V : gV} (l0 : lay8 G R p0) (w : wpv K_X8_isBefore d P 3 [some (4, (p0 : Int)), some (0, x1), some (0, x2), some (0, x3), some (0, 0)] [] G R V) : wpv K_X8_isBefore d P 0 [some (4, (p0 : Int)), some (0, x1), some (0, x2), some (0, x3)] [] G R V := by
  refine wp_p (i := (.iconst 0)) rfl rfl (fun _ _ _ => rfl) (?_ : wpv K_X8_isBefore d P 1 [some (4, (p0 : Int)), some (0, x1), some (0, x2), some (0, x3)] [(0, 0)] G R V)
  refine wp_sto (i := (.istore 4)) _ rfl rfl (fun _ => rfl) rfl rfl rfl ?_
  refine wp_wk (L' := [some (4, (p0 : Int)), some (0, x1), some (0, x2), some (0, x3), some (0, 0)]) (wk_s (wk_s (wk_s (wk_s (wk_s wk_0))))) ?_
  show wpv K_X8_isBefore d P 3 [some (4, (p0 : Int)), some (0, x1), some (0, x2), some (0, x3), some (0, 0)] [] G R V
  exact wp_wk (wk_s (wk_s (wk_s (wk_s (wk_s wk_0))))) w

theorem t_X8_isBefore_3 {d : Nat} {P : gP} {p0 : Nat} {x1 : Int} {x2 : Int} {x3 : Int} {x4 : Int} {G : List gS} {R V : gV} (l0 : lay8 G R p0) (w : ((i32 x4) ∧ ((i32 x3) ∧ (((¬ x4 < x3) → P (some (0, 0)) V) ∧ ((x4 < x3) → cwv d (fun r V3 => ∃ v4 : Int, r = some (0, v4) ∧ cwv d (fun r V5 => ∃ v6 : Int, r = some (0, v6) ∧ ((i32 v4) ∧ ((i32 v6) ∧ (((v4 = v6) → ((i32 (x4 + 1)) ∧ wpv K_X8_isBefore d P 3 [some (4, (p0 : Int)), some (0, x1), some (0, x2), some (0, x3), some (0, (x4 + 1))] [] G R V5)) ∧ ((¬ v4 = v6) → cwv d (fun r V10 => ∃ v11 : Int, r = some (0, v11) ∧ cwv d (fun r V12 => ∃ v13 : Int, r = some (0, v13) ∧ ((i32 v11) ∧ ((i32 v13) ∧ (((¬ v11 < v13) → P (some (0, 0)) V12) ∧ ((v11 < v13) → P (some (0, 1)) V12))))) 164 [(4, (p0 : Int)), (0, x2), (0, x4)] G R V10) 164 [(4, (p0 : Int)), (0, x1), (0, x4)] G R V5))))) 164 [(4, (p0 : Int)), (0, x2), (0, x4)] G R V3) 164 [(4, (p0 : Int)), (0, x1), (0, x4)] G R V))))) : wpv K_X8_isBefore d P 3 [some (4, (p0 : Int)), some (0, x1), some (0, x2), some (0, x3), some (0, x4)] [] G R V := by
  refine wp_ld (i := (.iload 4)) (0, x4) rfl rfl (fun _ => rfl) rfl rfl (?_ : wpv K_X8_isBefore d P 5 [some (4, (p0 : Int)), some (0, x1), some (0, x2), some (0, x3), some (0, x4)] [(0, x4)] G R V)
  refine wp_ld (i := (.iload_n 3)) (0, x3) rfl rfl (fun _ => rfl) rfl rfl (?_ : wpv K_X8_isBefore d P 6 [some (4, (p0 : Int)), some (0, x1), some (0, x2), some (0, x3), some (0, x4)] [(0, x3), (0, x4)] G R V)
  obtain ⟨s1, w⟩ := w
  obtain ⟨s2, w⟩ := w
  refine wp_icmp (c := .ge) 55 rfl rfl rfl s1 s2 (fun q => ?_) (fun q => ?_)
  · have q : ¬ x4 < x3 := q
    replace w := w.1 q
    show wpv K_X8_isBefore d P 55 [some (4, (p0 : Int)), some (0, x1), some (0, x2), some (0, x3), some (0, x4)] [] G R V
    refine wp_p (i := (.iconst 0)) rfl rfl (fun _ _ _ => rfl) (?_ : wpv K_X8_isBefore d P 56 [some (4, (p0 : Int)), some (0, x1), some (0, x2), some (0, x3), some (0, x4)] [(0, 0)] G R V)
    exact wp_rB rfl rfl rfl (by omega) w
  · have q : x4 < x3 := Decidable.not_not.mp q
    replace w := w.2 q
    show wpv K_X8_isBefore d P 9 [some (4, (p0 : Int)), some (0, x1), some (0, x2), some (0, x3), some (0, x4)] [] G R V
    refine wp_ld (i := (.aload_n 0)) (4, (p0 : Int)) rfl rfl (fun _ => rfl) rfl rfl (?_ : wpv K_X8_isBefore d P 10 [some (4, (p0 : Int)), some (0, x1), some (0, x2), some (0, x3), some (0, x4)] [(4, (p0 : Int))] G R V)
    refine wp_ld (i := (.iload_n 1)) (0, x1) rfl rfl (fun _ => rfl) rfl rfl (?_ : wpv K_X8_isBefore d P 11 [some (4, (p0 : Int)), some (0, x1), some (0, x2), some (0, x3), some (0, x4)] [(0, x1), (4, (p0 : Int))] G R V)
    refine wp_ld (i := (.iload 4)) (0, x4) rfl rfl (fun _ => rfl) rfl rfl (?_ : wpv K_X8_isBefore d P 13 [some (4, (p0 : Int)), some (0, x1), some (0, x2), some (0, x3), some (0, x4)] [(0, x4), (0, x1), (4, (p0 : Int))] G R V)
    refine wp_virt (as := [(0, x1), (0, x4)]) (a := p0) (st := []) _ rfl rfl rfl rfl rfl rfl (ly8_o l0) (Nat.le_of_ble_eq_true rfl) (cwv_kI w (fun v4 V3 w => ?_))
    show wpv K_X8_isBefore d P 16 [some (4, (p0 : Int)), some (0, x1), some (0, x2), some (0, x3), some (0, x4)] [(0, v4)] G R V3
    refine wp_ld (i := (.aload_n 0)) (4, (p0 : Int)) rfl rfl (fun _ => rfl) rfl rfl (?_ : wpv K_X8_isBefore d P 17 [some (4, (p0 : Int)), some (0, x1), some (0, x2), some (0, x3), some (0, x4)] [(4, (p0 : Int)), (0, v4)] G R V3)
    refine wp_ld (i := (.iload_n 2)) (0, x2) rfl rfl (fun _ => rfl) rfl rfl (?_ : wpv K_X8_isBefore d P 18 [some (4, (p0 : Int)), some (0, x1), some (0, x2), some (0, x3), some (0, x4)] [(0, x2), (4, (p0 : Int)), (0, v4)] G R V3)
    refine wp_ld (i := (.iload 4)) (0, x4) rfl rfl (fun _ => rfl) rfl rfl (?_ : wpv K_X8_isBefore d P 20 [some (4, (p0 : Int)), some (0, x1), some (0, x2), some (0, x3), some (0, x4)] [(0, x4), (0, x2), (4, (p0 : Int)), (0, v4)] G R V3)
    refine wp_virt (as := [(0, x2), (0, x4)]) (a := p0) (st := [(0, v4)]) _ rfl rfl rfl rfl rfl rfl (ly8_o l0) (Nat.le_of_ble_eq_true rfl) (cwv_kI w (fun v6 V5 w => ?_))
    show wpv K_X8_isBefore d P 23 [some (4, (p0 : Int)), some (0, x1), some (0, x2), some (0, x3), some (0, x4)] [(0, v6), (0, v4)] G R V5
    obtain ⟨s7, w⟩ := w
    obtain ⟨s8, w⟩ := w
    refine wp_icmp (c := .eq) 49 rfl rfl rfl s7 s8 (fun q => ?_) (fun q => ?_)
    · have q : v4 = v6 := q
      replace w := w.1 q
      show wpv K_X8_isBefore d P 49 [some (4, (p0 : Int)), some (0, x1), some (0, x2), some (0, x3), some (0, x4)] [] G R V5
      obtain ⟨s9, w⟩ := w
      refine wp_inc (x := 4) (k := 1) (a := x4) (c := (x4 + 1)) _ rfl rfl rfl rfl s9 (by omega) rfl ?_
      show wpv K_X8_isBefore d P 52 [some (4, (p0 : Int)), some (0, x1), some (0, x2), some (0, x3), some (0, (x4 + 1))] [] G R V5
      refine wp_go 3 rfl rfl rfl (?_ : wpv K_X8_isBefore d P 3 [some (4, (p0 : Int)), some (0, x1), some (0, x2), some (0, x3), some (0, (x4 + 1))] [] G R V5)
      exact wp_wk (wk_s (wk_s (wk_s (wk_s (wk_s wk_0))))) w
    · have q : ¬ v4 = v6 := q
      replace w := w.2 q
      show wpv K_X8_isBefore d P 26 [some (4, (p0 : Int)), some (0, x1), some (0, x2), some (0, x3), some (0, x4)] [] G R V5
      refine wp_ld (i := (.aload_n 0)) (4, (p0 : Int)) rfl rfl (fun _ => rfl) rfl rfl (?_ : wpv K_X8_isBefore d P 27 [some (4, (p0 : Int)), some (0, x1), some (0, x2), some (0, x3), some (0, x4)] [(4, (p0 : Int))] G R V5)
      refine wp_ld (i := (.iload_n 1)) (0, x1) rfl rfl (fun _ => rfl) rfl rfl (?_ : wpv K_X8_isBefore d P 28 [some (4, (p0 : Int)), some (0, x1), some (0, x2), some (0, x3), some (0, x4)] [(0, x1), (4, (p0 : Int))] G R V5)
      refine wp_ld (i := (.iload 4)) (0, x4) rfl rfl (fun _ => rfl) rfl rfl (?_ : wpv K_X8_isBefore d P 30 [some (4, (p0 : Int)), some (0, x1), some (0, x2), some (0, x3), some (0, x4)] [(0, x4), (0, x1), (4, (p0 : Int))] G R V5)
      refine wp_virt (as := [(0, x1), (0, x4)]) (a := p0) (st := []) _ rfl rfl rfl rfl rfl rfl (ly8_o l0) (Nat.le_of_ble_eq_true rfl) (cwv_kI w (fun v11 V10 w => ?_))
      show wpv K_X8_isBefore d P 33 [some (4, (p0 : Int)), some (0, x1), some (0, x2), some (0, x3), some (0, x4)] [(0, v11)] G R V10
      refine wp_ld (i := (.aload_n 0)) (4, (p0 : Int)) rfl rfl (fun _ => rfl) rfl rfl (?_ : wpv K_X8_isBefore d P 34 [some (4, (p0 : Int)), some (0, x1), some (0, x2), some (0, x3), some (0, x4)] [(4, (p0 : Int)), (0, v11)] G R V10)
      refine wp_ld (i := (.iload_n 2)) (0, x2) rfl rfl (fun _ => rfl) rfl rfl (?_ : wpv K_X8_isBefore d P 35 [some (4, (p0 : Int)), some (0, x1), some (0, x2), some (0, x3), some (0, x4)] [(0, x2), (4, (p0 : Int)), (0, v11)] G R V10)
      refine wp_ld (i := (.iload 4)) (0, x4) rfl rfl (fun _ => rfl) rfl rfl (?_ : wpv K_X8_isBefore d P 37 [some (4, (p0 : Int)), some (0, x1), some (0, x2), some (0, x3), some (0, x4)] [(0, x4), (0, x2), (4, (p0 : Int)), (0, v11)] G R V10)
      refine wp_virt (as := [(0, x2), (0, x4)]) (a := p0) (st := [(0, v11)]) _ rfl rfl rfl rfl rfl rfl (ly8_o l0) (Nat.le_of_ble_eq_true rfl) (cwv_kI w (fun v13 V12 w => ?_))
      show wpv K_X8_isBefore d P 40 [some (4, (p0 : Int)), some (0, x1), some (0, x2), some (0, x3), some (0, x4)] [(0, v13), (0, v11)] G R V12
      obtain ⟨s14, w⟩ := w
      obtain ⟨s15, w⟩ := w
      refine wp_icmp (c := .ge) 47 rfl rfl rfl s14 s15 (fun q => ?_) (fun q => ?_)
      · have q : ¬ v11 < v13 := q
        replace w := w.1 q
        show wpv K_X8_isBefore d P 47 [some (4, (p0 : Int)), some (0, x1), some (0, x2), some (0, x3), some (0, x4)] [] G R V12
        refine wp_p (i := (.iconst 0)) rfl rfl (fun _ _ _ => rfl) (?_ : wpv K_X8_isBefore d P 48 [some (4, (p0 : Int)), some (0, x1), some (0, x2), some (0, x3), some (0, x4)] [(0, 0)] G R V12)
        exact wp_rB rfl rfl rfl (by omega) w
      · have q : v11 < v13 := Decidable.not_not.mp q
        replace w := w.2 q
        show wpv K_X8_isBefore d P 43 [some (4, (p0 : Int)), some (0, x1), some (0, x2), some (0, x3), some (0, x4)] [] G R V12
        refine wp_p (i := (.iconst 1)) rfl rfl (fun _ _ _ => rfl) (?_ : wpv K_X8_isBefore d P 44 [some (4, (p0 : Int)), some (0, x1), some (0, x2), some (0, x3), some (0, x4)] [(0, 1)] G R V12)
        refine wp_go 48 rfl rfl rfl (?_ : wpv K_X8_isBefore d P 48 [some (4, (p0 : Int)), some (0, x1), some (0, x2), some (0, x3), some (0, x4)] [(0, 1)] G R V12)
        exact wp_rB rfl rfl rfl (by omega) w
theorem t_X8_takes_0 {d : Nat} {P : gP} {p0 : Nat} {x1 : Int} {G : List gS} {R V : gV} (l0 : lay8 G R p0) (w : wpv K_X8_takes d P 2 [some (4, (p0 : Int)), some (0, x1), some (0, 0)] [] G R V) : wpv K_X8_takes d P 0 [some (4, (p0 : Int)), some (0, x1)] [] G R V := by
  refine wp_p (i := (.iconst 0)) rfl rfl (fun _ _ _ => rfl) (?_ : wpv K_X8_takes d P 1 [some (4, (p0 : Int)), some (0, x1)] [(0, 0)] G R V)
  refine wp_sto (i := (.istore_n 2)) _ rfl rfl (fun _ => rfl) rfl rfl rfl ?_
  refine wp_wk (L' := [some (4, (p0 : Int)), some (0, x1), some (0, 0)]) (wk_s (wk_s (wk_s wk_0))) ?_
  show wpv K_X8_takes d P 2 [some (4, (p0 : Int)), some (0, x1), some (0, 0)] [] G R V
  exact wp_wk (wk_s (wk_s (wk_s wk_0))) w

theorem t_X8_takes_2 {d : Nat} {P : gP} {p0 : Nat} {x1 : Int} {x2 : Int} {G : List gS} {R V : gV} (l0 : lay8 G R p0) (w : ((i32 (V p0 10)) → ((i32 x2) ∧ (((¬ x2 < (V p0 10)) → ((i32 x1) ∧ wpv K_X8_takes d P 77 [some (4, (p0 : Int)), some (0, x1), some (0, 0)] [] G R (wr (wr V p0 4 x1) p0 5 ((V p0 10))))) ∧ ((x2 < (V p0 10)) → wpv K_X8_takes d P 15 [some (4, (p0 : Int)), some (0, x1), some (0, x2), some (0, 0), some (0, 0)] [] G R V))))) : wpv K_X8_takes d P 2 [some (4, (p0 : Int)), some (0, x1), some (0, x2)] [] G R V := by
  refine wp_ld (i := (.iload_n 2)) (0, x2) rfl rfl (fun _ => rfl) rfl rfl (?_ : wpv K_X8_takes d P 3 [some (4, (p0 : Int)), some (0, x1), some (0, x2)] [(0, x2)] G R V)
  refine wp_ld (i := (.aload_n 0)) (4, (p0 : Int)) rfl rfl (fun _ => rfl) rfl rfl (?_ : wpv K_X8_takes d P 4 [some (4, (p0 : Int)), some (0, x1), some (0, x2)] [(4, (p0 : Int)), (0, x2)] G R V)
  refine wp_rng (fun vr1 => ?_)
  have f2 : i32 (V p0 10) := vr_f0 vr1 (ly8_o l0) rfl rfl
  replace w := w f2
  refine wp_getI (k := 10) rfl rfl rfl (ly8_o l0) rfl rfl (?_ : wpv K_X8_takes d P 7 [some (4, (p0 : Int)), some (0, x1), some (0, x2)] [(0, (V p0 10)), (0, x2)] G R V)
  obtain ⟨s3, w⟩ := w
  refine wp_icmp (c := .ge) 62 rfl rfl rfl s3 f2 (fun q => ?_) (fun q => ?_)
  · have q : ¬ x2 < (V p0 10) := q
    replace w := w.1 q
    show wpv K_X8_takes d P 62 [some (4, (p0 : Int)), some (0, x1), some (0, x2)] [] G R V
    refine wp_ld (i := (.aload_n 0)) (4, (p0 : Int)) rfl rfl (fun _ => rfl) rfl rfl (?_ : wpv K_X8_takes d P 63 [some (4, (p0 : Int)), some (0, x1), some (0, x2)] [(4, (p0 : Int))] G R V)
    refine wp_ld (i := (.iload_n 1)) (0, x1) rfl rfl (fun _ => rfl) rfl rfl (?_ : wpv K_X8_takes d P 64 [some (4, (p0 : Int)), some (0, x1), some (0, x2)] [(0, x1), (4, (p0 : Int))] G R V)
    obtain ⟨s4, w⟩ := w
    refine wp_putI (k := 4) rfl rfl rfl (ly8_o l0) rfl rfl rfl s4 (?_ : wpv K_X8_takes d P 67 [some (4, (p0 : Int)), some (0, x1), some (0, x2)] [] G R (wr V p0 4 x1))
    refine wp_ld (i := (.aload_n 0)) (4, (p0 : Int)) rfl rfl (fun _ => rfl) rfl rfl (?_ : wpv K_X8_takes d P 68 [some (4, (p0 : Int)), some (0, x1), some (0, x2)] [(4, (p0 : Int))] G R (wr V p0 4 x1))
    refine wp_ld (i := (.aload_n 0)) (4, (p0 : Int)) rfl rfl (fun _ => rfl) rfl rfl (?_ : wpv K_X8_takes d P 69 [some (4, (p0 : Int)), some (0, x1), some (0, x2)] [(4, (p0 : Int)), (4, (p0 : Int))] G R (wr V p0 4 x1))
    refine wp_rng (fun vr5 => ?_)
    have r6 : ((wr V p0 4 x1) p0 10) = (V p0 10) := (wr_i (by omega))
    refine wp_getIe (k := 10) rfl rfl rfl (ly8_o l0) rfl rfl r6 (?_ : wpv K_X8_takes d P 72 [some (4, (p0 : Int)), some (0, x1), some (0, x2)] [(0, (V p0 10)), (4, (p0 : Int))] G R (wr V p0 4 x1))
    refine wp_putI (k := 5) rfl rfl rfl (ly8_o l0) rfl rfl rfl f2 (?_ : wpv K_X8_takes d P 75 [some (4, (p0 : Int)), some (0, x1), some (0, x2)] [] G R (wr (wr V p0 4 x1) p0 5 ((V p0 10))))
    refine wp_p (i := (.iconst 0)) rfl rfl (fun _ _ _ => rfl) (?_ : wpv K_X8_takes d P 76 [some (4, (p0 : Int)), some (0, x1), some (0, x2)] [(0, 0)] G R (wr (wr V p0 4 x1) p0 5 ((V p0 10))))
    refine wp_sto (i := (.istore_n 2)) _ rfl rfl (fun _ => rfl) rfl rfl rfl ?_
    refine wp_wk (L' := [some (4, (p0 : Int)), some (0, x1), some (0, 0)]) (wk_s (wk_s (wk_s wk_0))) ?_
    show wpv K_X8_takes d P 77 [some (4, (p0 : Int)), some (0, x1), some (0, 0)] [] G R (wr (wr V p0 4 x1) p0 5 ((V p0 10)))
    exact wp_wk (wk_s (wk_s (wk_s wk_0))) w
  · have q : x2 < (V p0 10) := Decidable.not_not.mp q
    replace w := w.2 q
    show wpv K_X8_takes d P 10 [some (4, (p0 : Int)), some (0, x1), some (0, x2)] [] G R V
    refine wp_p (i := (.iconst 0)) rfl rfl (fun _ _ _ => rfl) (?_ : wpv K_X8_takes d P 11 [some (4, (p0 : Int)), some (0, x1), some (0, x2)] [(0, 0)] G R V)
    refine wp_sto (i := (.istore_n 3)) _ rfl rfl (fun _ => rfl) rfl rfl rfl ?_
    refine wp_wk (L' := [some (4, (p0 : Int)), some (0, x1), some (0, x2), some (0, 0)]) (wk_s (wk_s (wk_s (wk_s wk_0)))) ?_
    show wpv K_X8_takes d P 12 [some (4, (p0 : Int)), some (0, x1), some (0, x2), some (0, 0)] [] G R V
    refine wp_p (i := (.iconst 0)) rfl rfl (fun _ _ _ => rfl) (?_ : wpv K_X8_takes d P 13 [some (4, (p0 : Int)), some (0, x1), some (0, x2), some (0, 0)] [(0, 0)] G R V)
    refine wp_sto (i := (.istore 4)) _ rfl rfl (fun _ => rfl) rfl rfl rfl ?_
    refine wp_wk (L' := [some (4, (p0 : Int)), some (0, x1), some (0, x2), some (0, 0), some (0, 0)]) (wk_s (wk_s (wk_s (wk_s (wk_s wk_0))))) ?_
    show wpv K_X8_takes d P 15 [some (4, (p0 : Int)), some (0, x1), some (0, x2), some (0, 0), some (0, 0)] [] G R V
    exact wp_wk (wk_s (wk_s (wk_s (wk_s (wk_s wk_0))))) w

theorem t_X8_takes_15 {d : Nat} {P : gP} {p0 : Nat} {x1 : Int} {x2 : Int} {x3 : Int} {x4 : Int} {G : List gS} {R V : gV} (l0 : lay8 G R p0) (w : ((i32 (V p0 10)) → ((i32 x4) ∧ (((¬ x4 < (V p0 10)) → ((0 ≤ x3 ∧ x3 < 120) ∧ ((i32 x2) ∧ ((i32 (x2 + 1)) ∧ wpv K_X8_takes d P 2 [some (4, (p0 : Int)), some (0, x1), some (0, (x2 + 1))] [] G R (wr V (p0 + 8) x3 x2))))) ∧ ((x4 < (V p0 10)) → cwv d (fun r V7 => ∃ v8 : Int, r = some (0, v8) ∧ ((i32 v8) ∧ (((v8 = 0) → ((i32 (x3 + 0)) ∧ ((i32 (x4 + 1)) ∧ wpv K_X8_takes d P 15 [some (4, (p0 : Int)), some (0, x1), some (0, x2), some (0, (x3 + 0)), some (0, (x4 + 1))] [] G R V7))) ∧ ((¬ v8 = 0) → ((i32 (x3 + 1)) ∧ ((i32 (x4 + 1)) ∧ wpv K_X8_takes d P 15 [some (4, (p0 : Int)), some (0, x1), some (0, x2), some (0, (x3 + 1)), some (0, (x4 + 1))] [] G R V7)))))) 167 [(4, (p0 : Int)), (0, x4), (0, x2), (0, x1)] G R V))))) : wpv K_X8_takes d P 15 [some (4, (p0 : Int)), some (0, x1), some (0, x2), some (0, x3), some (0, x4)] [] G R V := by
  refine wp_ld (i := (.iload 4)) (0, x4) rfl rfl (fun _ => rfl) rfl rfl (?_ : wpv K_X8_takes d P 17 [some (4, (p0 : Int)), some (0, x1), some (0, x2), some (0, x3), some (0, x4)] [(0, x4)] G R V)
  refine wp_ld (i := (.aload_n 0)) (4, (p0 : Int)) rfl rfl (fun _ => rfl) rfl rfl (?_ : wpv K_X8_takes d P 18 [some (4, (p0 : Int)), some (0, x1), some (0, x2), some (0, x3), some (0, x4)] [(4, (p0 : Int)), (0, x4)] G R V)
  refine wp_rng (fun vr1 => ?_)
  have f2 : i32 (V p0 10) := vr_f0 vr1 (ly8_o l0) rfl rfl
  replace w := w f2
  refine wp_getI (k := 10) rfl rfl rfl (ly8_o l0) rfl rfl (?_ : wpv K_X8_takes d P 21 [some (4, (p0 : Int)), some (0, x1), some (0, x2), some (0, x3), some (0, x4)] [(0, (V p0 10)), (0, x4)] G R V)
  obtain ⟨s3, w⟩ := w
  refine wp_icmp (c := .ge) 49 rfl rfl rfl s3 f2 (fun q => ?_) (fun q => ?_)
  · have q : ¬ x4 < (V p0 10) := q
    replace w := w.1 q
    show wpv K_X8_takes d P 49 [some (4, (p0 : Int)), some (0, x1), some (0, x2), some (0, x3), some (0, x4)] [] G R V
    refine wp_ld (i := (.aload_n 0)) (4, (p0 : Int)) rfl rfl (fun _ => rfl) rfl rfl (?_ : wpv K_X8_takes d P 50 [some (4, (p0 : Int)), some (0, x1), some (0, x2), some (0, x3), some (0, x4)] [(4, (p0 : Int))] G R V)
    refine wp_getA (k := 11) rfl rfl rfl (ly8_o l0) rfl rfl (ly8_11 l0).1 (?_ : wpv K_X8_takes d P 53 [some (4, (p0 : Int)), some (0, x1), some (0, x2), some (0, x3), some (0, x4)] [(4, ((p0 + 8 : Nat) : Int))] G R V)
    refine wp_ld (i := (.iload_n 3)) (0, x3) rfl rfl (fun _ => rfl) rfl rfl (?_ : wpv K_X8_takes d P 54 [some (4, (p0 : Int)), some (0, x1), some (0, x2), some (0, x3), some (0, x4)] [(0, x3), (4, ((p0 + 8 : Nat) : Int))] G R V)
    refine wp_ld (i := (.iload_n 2)) (0, x2) rfl rfl (fun _ => rfl) rfl rfl (?_ : wpv K_X8_takes d P 55 [some (4, (p0 : Int)), some (0, x1), some (0, x2), some (0, x3), some (0, x4)] [(0, x2), (0, x3), (4, ((p0 + 8 : Nat) : Int))] G R V)
    obtain ⟨s4, w⟩ := w
    obtain ⟨s5, w⟩ := w
    refine wp_sI rfl rfl (ly8_11 l0).2 s4 s5 (?_ : wpv K_X8_takes d P 56 [some (4, (p0 : Int)), some (0, x1), some (0, x2), some (0, x3), some (0, x4)] [] G R (wr V (p0 + 8) x3 x2))
    obtain ⟨s6, w⟩ := w
    refine wp_inc (x := 2) (k := 1) (a := x2) (c := (x2 + 1)) _ rfl rfl rfl rfl s6 (by omega) rfl ?_
    show wpv K_X8_takes d P 59 [some (4, (p0 : Int)), some (0, x1), some (0, (x2 + 1)), some (0, x3), some (0, x4)] [] G R (wr V (p0 + 8) x3 x2)
    refine wp_go 2 rfl rfl rfl (?_ : wpv K_X8_takes d P 2 [some (4, (p0 : Int)), some (0, x1), some (0, (x2 + 1)), some (0, x3), some (0, x4)] [] G R (wr V (p0 + 8) x3 x2))
    exact wp_wk (wk_s (wk_s (wk_s wk_0))) w
  · have q : x4 < (V p0 10) := Decidable.not_not.mp q
    replace w := w.2 q
    show wpv K_X8_takes d P 24 [some (4, (p0 : Int)), some (0, x1), some (0, x2), some (0, x3), some (0, x4)] [] G R V
    refine wp_ld (i := (.iload_n 3)) (0, x3) rfl rfl (fun _ => rfl) rfl rfl (?_ : wpv K_X8_takes d P 25 [some (4, (p0 : Int)), some (0, x1), some (0, x2), some (0, x3), some (0, x4)] [(0, x3)] G R V)
    refine wp_ld (i := (.aload_n 0)) (4, (p0 : Int)) rfl rfl (fun _ => rfl) rfl rfl (?_ : wpv K_X8_takes d P 26 [some (4, (p0 : Int)), some (0, x1), some (0, x2), some (0, x3), some (0, x4)] [(4, (p0 : Int)), (0, x3)] G R V)
    refine wp_ld (i := (.iload 4)) (0, x4) rfl rfl (fun _ => rfl) rfl rfl (?_ : wpv K_X8_takes d P 28 [some (4, (p0 : Int)), some (0, x1), some (0, x2), some (0, x3), some (0, x4)] [(0, x4), (4, (p0 : Int)), (0, x3)] G R V)
    refine wp_ld (i := (.iload_n 2)) (0, x2) rfl rfl (fun _ => rfl) rfl rfl (?_ : wpv K_X8_takes d P 29 [some (4, (p0 : Int)), some (0, x1), some (0, x2), some (0, x3), some (0, x4)] [(0, x2), (0, x4), (4, (p0 : Int)), (0, x3)] G R V)
    refine wp_ld (i := (.iload_n 1)) (0, x1) rfl rfl (fun _ => rfl) rfl rfl (?_ : wpv K_X8_takes d P 30 [some (4, (p0 : Int)), some (0, x1), some (0, x2), some (0, x3), some (0, x4)] [(0, x1), (0, x2), (0, x4), (4, (p0 : Int)), (0, x3)] G R V)
    refine wp_virt (as := [(0, x4), (0, x2), (0, x1)]) (a := p0) (st := [(0, x3)]) _ rfl rfl rfl rfl rfl rfl (ly8_o l0) (Nat.le_of_ble_eq_true rfl) (cwv_kI w (fun v8 V7 w => ?_))
    show wpv K_X8_takes d P 33 [some (4, (p0 : Int)), some (0, x1), some (0, x2), some (0, x3), some (0, x4)] [(0, v8), (0, x3)] G R V7
    obtain ⟨s9, w⟩ := w
    refine wp_if (c := .eq) 40 rfl rfl rfl s9 (fun q => ?_) (fun q => ?_)
    · have q : v8 = 0 := q
      replace w := w.1 q
      show wpv K_X8_takes d P 40 [some (4, (p0 : Int)), some (0, x1), some (0, x2), some (0, x3), some (0, x4)] [(0, x3)] G R V7
      refine wp_p (i := (.iconst 0)) rfl rfl (fun _ _ _ => rfl) (?_ : wpv K_X8_takes d P 41 [some (4, (p0 : Int)), some (0, x1), some (0, x2), some (0, x3), some (0, x4)] [(0, 0), (0, x3)] G R V7)
      obtain ⟨s10, w⟩ := w
      refine wp_xadd rfl rfl s10 (?_ : wpv K_X8_takes d P 42 [some (4, (p0 : Int)), some (0, x1), some (0, x2), some (0, x3), some (0, x4)] [(0, (x3 + 0))] G R V7)
      refine wp_sto (i := (.istore_n 3)) _ rfl rfl (fun _ => rfl) rfl rfl rfl ?_
      refine wp_wk (L' := [some (4, (p0 : Int)), some (0, x1), some (0, x2), some (0, (x3 + 0)), some (0, x4)]) (wk_s (wk_s (wk_s (wk_s (wk_s wk_0))))) ?_
      show wpv K_X8_takes d P 43 [some (4, (p0 : Int)), some (0, x1), some (0, x2), some (0, (x3 + 0)), some (0, x4)] [] G R V7
      obtain ⟨s11, w⟩ := w
      refine wp_inc (x := 4) (k := 1) (a := x4) (c := (x4 + 1)) _ rfl rfl rfl rfl s11 (by omega) rfl ?_
      show wpv K_X8_takes d P 46 [some (4, (p0 : Int)), some (0, x1), some (0, x2), some (0, (x3 + 0)), some (0, (x4 + 1))] [] G R V7
      refine wp_go 15 rfl rfl rfl (?_ : wpv K_X8_takes d P 15 [some (4, (p0 : Int)), some (0, x1), some (0, x2), some (0, (x3 + 0)), some (0, (x4 + 1))] [] G R V7)
      exact wp_wk (wk_s (wk_s (wk_s (wk_s (wk_s wk_0))))) w
    · have q : ¬ v8 = 0 := q
      replace w := w.2 q
      show wpv K_X8_takes d P 36 [some (4, (p0 : Int)), some (0, x1), some (0, x2), some (0, x3), some (0, x4)] [(0, x3)] G R V7
      refine wp_p (i := (.iconst 1)) rfl rfl (fun _ _ _ => rfl) (?_ : wpv K_X8_takes d P 37 [some (4, (p0 : Int)), some (0, x1), some (0, x2), some (0, x3), some (0, x4)] [(0, 1), (0, x3)] G R V7)
      refine wp_go 41 rfl rfl rfl (?_ : wpv K_X8_takes d P 41 [some (4, (p0 : Int)), some (0, x1), some (0, x2), some (0, x3), some (0, x4)] [(0, 1), (0, x3)] G R V7)
      obtain ⟨s12, w⟩ := w
      refine wp_xadd rfl rfl s12 (?_ : wpv K_X8_takes d P 42 [some (4, (p0 : Int)), some (0, x1), some (0, x2), some (0, x3), some (0, x4)] [(0, (x3 + 1))] G R V7)
      refine wp_sto (i := (.istore_n 3)) _ rfl rfl (fun _ => rfl) rfl rfl rfl ?_
      refine wp_wk (L' := [some (4, (p0 : Int)), some (0, x1), some (0, x2), some (0, (x3 + 1)), some (0, x4)]) (wk_s (wk_s (wk_s (wk_s (wk_s wk_0))))) ?_
      show wpv K_X8_takes d P 43 [some (4, (p0 : Int)), some (0, x1), some (0, x2), some (0, (x3 + 1)), some (0, x4)] [] G R V7
      obtain ⟨s13, w⟩ := w
      refine wp_inc (x := 4) (k := 1) (a := x4) (c := (x4 + 1)) _ rfl rfl rfl rfl s13 (by omega) rfl ?_
      show wpv K_X8_takes d P 46 [some (4, (p0 : Int)), some (0, x1), some (0, x2), some (0, (x3 + 1)), some (0, (x4 + 1))] [] G R V7
      refine wp_go 15 rfl rfl rfl (?_ : wpv K_X8_takes d P 15 [some (4, (p0 : Int)), some (0, x1), some (0, x2), some (0, (x3 + 1)), some (0, (x4 + 1))] [] G R V7)
      exact wp_wk (wk_s (wk_s (wk_s (wk_s (wk_s wk_0))))) w

theorem t_X8_takes_77 {d : Nat} {P : gP} {p0 : Nat} {x1 : Int} {x2 : Int} {G : List gS} {R V : gV} (l0 : lay8 G R p0) (w : ((i32 (V p0 5)) → ((i32 x2) ∧ (((¬ x2 < (V p0 5)) → wpv K_X8_takes d P 138 [some (4, (p0 : Int)), none, some (0, 0)] [] G R V) ∧ ((x2 < (V p0 5)) → wpv K_X8_takes d P 87 [some (4, (p0 : Int)), some (0, x1), some (0, x2), some (0, 0)] [] G R V))))) : wpv K_X8_takes d P 77 [some (4, (p0 : Int)), some (0, x1), some (0, x2)] [] G R V := by
  refine wp_ld (i := (.iload_n 2)) (0, x2) rfl rfl (fun _ => rfl) rfl rfl (?_ : wpv K_X8_takes d P 78 [some (4, (p0 : Int)), some (0, x1), some (0, x2)] [(0, x2)] G R V)
  refine wp_ld (i := (.aload_n 0)) (4, (p0 : Int)) rfl rfl (fun _ => rfl) rfl rfl (?_ : wpv K_X8_takes d P 79 [some (4, (p0 : Int)), some (0, x1), some (0, x2)] [(4, (p0 : Int)), (0, x2)] G R V)
  refine wp_rng (fun vr1 => ?_)
  have f2 : i32 (V p0 5) := vr_f0 vr1 (ly8_o l0) rfl rfl
  replace w := w f2
  refine wp_getI (k := 5) rfl rfl rfl (ly8_o l0) rfl rfl (?_ : wpv K_X8_takes d P 82 [some (4, (p0 : Int)), some (0, x1), some (0, x2)] [(0, (V p0 5)), (0, x2)] G R V)
  obtain ⟨s3, w⟩ := w
  refine wp_icmp (c := .ge) 136 rfl rfl rfl s3 f2 (fun q => ?_) (fun q => ?_)
  · have q : ¬ x2 < (V p0 5) := q
    replace w := w.1 q
    show wpv K_X8_takes d P 136 [some (4, (p0 : Int)), some (0, x1), some (0, x2)] [] G R V
    refine wp_p (i := (.iconst 0)) rfl rfl (fun _ _ _ => rfl) (?_ : wpv K_X8_takes d P 137 [some (4, (p0 : Int)), some (0, x1), some (0, x2)] [(0, 0)] G R V)
    refine wp_sto (i := (.istore_n 2)) _ rfl rfl (fun _ => rfl) rfl rfl rfl ?_
    refine wp_wk (L' := [some (4, (p0 : Int)), some (0, x1), some (0, 0)]) (wk_s (wk_s (wk_s wk_0))) ?_
    show wpv K_X8_takes d P 138 [some (4, (p0 : Int)), some (0, x1), some (0, 0)] [] G R V
    exact wp_wk (wk_s (wk_n (wk_s wk_0))) w
  · have q : x2 < (V p0 5) := Decidable.not_not.mp q
    replace w := w.2 q
    show wpv K_X8_takes d P 85 [some (4, (p0 : Int)), some (0, x1), some (0, x2)] [] G R V
    refine wp_p (i := (.iconst 0)) rfl rfl (fun _ _ _ => rfl) (?_ : wpv K_X8_takes d P 86 [some (4, (p0 : Int)), some (0, x1), some (0, x2)] [(0, 0)] G R V)
    refine wp_sto (i := (.istore_n 3)) _ rfl rfl (fun _ => rfl) rfl rfl rfl ?_
    refine wp_wk (L' := [some (4, (p0 : Int)), some (0, x1), some (0, x2), some (0, 0)]) (wk_s (wk_s (wk_s (wk_s wk_0)))) ?_
    show wpv K_X8_takes d P 87 [some (4, (p0 : Int)), some (0, x1), some (0, x2), some (0, 0)] [] G R V
    exact wp_wk (wk_s (wk_s (wk_s (wk_s wk_0)))) w

theorem t_X8_takes_87 {d : Nat} {P : gP} {p0 : Nat} {x1 : Int} {x2 : Int} {x3 : Int} {G : List gS} {R V : gV} (l0 : lay8 G R p0) (w : ((i32 x3) ∧ (((¬ x3 < 8) → ((i32 (x2 + 1)) ∧ wpv K_X8_takes d P 77 [some (4, (p0 : Int)), some (0, x1), some (0, (x2 + 1))] [] G R V)) ∧ ((x3 < 8) → ((i32 (8 * x2)) ∧ ((i32 ((8 * x2) + x3)) ∧ ((i32 x1) ∧ (((¬ x3 < x1) → ((0 ≤ ((8 * x2) + x3) ∧ ((8 * x2) + x3) < 960) ∧ ((i32 (x3 + 1)) ∧ wpv K_X8_takes d P 87 [some (4, (p0 : Int)), some (0, x1), some (0, x2), some (0, (x3 + 1))] [] G R (wr V (p0 + 4) (((8 * x2) + x3)) x3)))) ∧ ((x3 < x1) → ((0 ≤ x2 ∧ x2 < 120) ∧ ((i32 (V (p0 + 8) x2)) → cwv d (fun r V11 => ∃ v12 : Int, r = some (0, v12) ∧ ((0 ≤ ((8 * x2) + x3) ∧ ((8 * x2) + x3) < 960) ∧ ((i32 v12) ∧ ((i32 (x3 + 1)) ∧ wpv K_X8_takes d P 87 [some (4, (p0 : Int)), some (0, x1), some (0, x2), some (0, (x3 + 1))] [] G R (wr V11 (p0 + 4) (((8 * x2) + x3)) v12))))) 164 [(4, (p0 : Int)), (0, (V (p0 + 8) x2)), (0, x3)] G R V))))))))))) : wpv K_X8_takes d P 87 [some (4, (p0 : Int)), some (0, x1), some (0, x2), some (0, x3)] [] G R V := by
  refine wp_ld (i := (.iload_n 3)) (0, x3) rfl rfl (fun _ => rfl) rfl rfl (?_ : wpv K_X8_takes d P 88 [some (4, (p0 : Int)), some (0, x1), some (0, x2), some (0, x3)] [(0, x3)] G R V)
  refine wp_p (i := (.bipush 8)) rfl rfl (fun _ _ _ => rfl) (?_ : wpv K_X8_takes d P 90 [some (4, (p0 : Int)), some (0, x1), some (0, x2), some (0, x3)] [(0, 8), (0, x3)] G R V)
  obtain ⟨s1, w⟩ := w
  refine wp_icmp (c := .ge) 130 rfl rfl rfl s1 ⟨by omega, by omega⟩ (fun q => ?_) (fun q => ?_)
  · have q : ¬ x3 < 8 := q
    replace w := w.1 q
    show wpv K_X8_takes d P 130 [some (4, (p0 : Int)), some (0, x1), some (0, x2), some (0, x3)] [] G R V
    obtain ⟨s2, w⟩ := w
    refine wp_inc (x := 2) (k := 1) (a := x2) (c := (x2 + 1)) _ rfl rfl rfl rfl s2 (by omega) rfl ?_
    show wpv K_X8_takes d P 133 [some (4, (p0 : Int)), some (0, x1), some (0, (x2 + 1)), some (0, x3)] [] G R V
    refine wp_go 77 rfl rfl rfl (?_ : wpv K_X8_takes d P 77 [some (4, (p0 : Int)), some (0, x1), some (0, (x2 + 1)), some (0, x3)] [] G R V)
    exact wp_wk (wk_s (wk_s (wk_s wk_0))) w
  · have q : x3 < 8 := Decidable.not_not.mp q
    replace w := w.2 q
    show wpv K_X8_takes d P 93 [some (4, (p0 : Int)), some (0, x1), some (0, x2), some (0, x3)] [] G R V
    refine wp_ld (i := (.aload_n 0)) (4, (p0 : Int)) rfl rfl (fun _ => rfl) rfl rfl (?_ : wpv K_X8_takes d P 94 [some (4, (p0 : Int)), some (0, x1), some (0, x2), some (0, x3)] [(4, (p0 : Int))] G R V)
    refine wp_getA (k := 6) rfl rfl rfl (ly8_o l0) rfl rfl (ly8_6 l0).1 (?_ : wpv K_X8_takes d P 97 [some (4, (p0 : Int)), some (0, x1), some (0, x2), some (0, x3)] [(4, ((p0 + 4 : Nat) : Int))] G R V)
    refine wp_p (i := (.bipush 8)) rfl rfl (fun _ _ _ => rfl) (?_ : wpv K_X8_takes d P 99 [some (4, (p0 : Int)), some (0, x1), some (0, x2), some (0, x3)] [(0, 8), (4, ((p0 + 4 : Nat) : Int))] G R V)
    refine wp_ld (i := (.iload_n 2)) (0, x2) rfl rfl (fun _ => rfl) rfl rfl (?_ : wpv K_X8_takes d P 100 [some (4, (p0 : Int)), some (0, x1), some (0, x2), some (0, x3)] [(0, x2), (0, 8), (4, ((p0 + 4 : Nat) : Int))] G R V)
    obtain ⟨s3, w⟩ := w
    refine wp_xmul rfl rfl s3 (?_ : wpv K_X8_takes d P 101 [some (4, (p0 : Int)), some (0, x1), some (0, x2), some (0, x3)] [(0, (8 * x2)), (4, ((p0 + 4 : Nat) : Int))] G R V)
    refine wp_ld (i := (.iload_n 3)) (0, x3) rfl rfl (fun _ => rfl) rfl rfl (?_ : wpv K_X8_takes d P 102 [some (4, (p0 : Int)), some (0, x1), some (0, x2), some (0, x3)] [(0, x3), (0, (8 * x2)), (4, ((p0 + 4 : Nat) : Int))] G R V)
    obtain ⟨s4, w⟩ := w
    refine wp_xadd rfl rfl s4 (?_ : wpv K_X8_takes d P 103 [some (4, (p0 : Int)), some (0, x1), some (0, x2), some (0, x3)] [(0, ((8 * x2) + x3)), (4, ((p0 + 4 : Nat) : Int))] G R V)
    refine wp_ld (i := (.iload_n 3)) (0, x3) rfl rfl (fun _ => rfl) rfl rfl (?_ : wpv K_X8_takes d P 104 [some (4, (p0 : Int)), some (0, x1), some (0, x2), some (0, x3)] [(0, x3), (0, ((8 * x2) + x3)), (4, ((p0 + 4 : Nat) : Int))] G R V)
    refine wp_ld (i := (.iload_n 1)) (0, x1) rfl rfl (fun _ => rfl) rfl rfl (?_ : wpv K_X8_takes d P 105 [some (4, (p0 : Int)), some (0, x1), some (0, x2), some (0, x3)] [(0, x1), (0, x3), (0, ((8 * x2) + x3)), (4, ((p0 + 4 : Nat) : Int))] G R V)
    obtain ⟨s5, w⟩ := w
    refine wp_icmp (c := .ge) 122 rfl rfl rfl s1 s5 (fun q => ?_) (fun q => ?_)
    · have q : ¬ x3 < x1 := q
      replace w := w.1 q
      show wpv K_X8_takes d P 122 [some (4, (p0 : Int)), some (0, x1), some (0, x2), some (0, x3)] [(0, ((8 * x2) + x3)), (4, ((p0 + 4 : Nat) : Int))] G R V
      refine wp_ld (i := (.iload_n 3)) (0, x3) rfl rfl (fun _ => rfl) rfl rfl (?_ : wpv K_X8_takes d P 123 [some (4, (p0 : Int)), some (0, x1), some (0, x2), some (0, x3)] [(0, x3), (0, ((8 * x2) + x3)), (4, ((p0 + 4 : Nat) : Int))] G R V)
      obtain ⟨s6, w⟩ := w
      refine wp_sI rfl rfl (ly8_6 l0).2 s6 s1 (?_ : wpv K_X8_takes d P 124 [some (4, (p0 : Int)), some (0, x1), some (0, x2), some (0, x3)] [] G R (wr V (p0 + 4) (((8 * x2) + x3)) x3))
      obtain ⟨s7, w⟩ := w
      refine wp_inc (x := 3) (k := 1) (a := x3) (c := (x3 + 1)) _ rfl rfl rfl rfl s7 (by omega) rfl ?_
      show wpv K_X8_takes d P 127 [some (4, (p0 : Int)), some (0, x1), some (0, x2), some (0, (x3 + 1))] [] G R (wr V (p0 + 4) (((8 * x2) + x3)) x3)
      refine wp_go 87 rfl rfl rfl (?_ : wpv K_X8_takes d P 87 [some (4, (p0 : Int)), some (0, x1), some (0, x2), some (0, (x3 + 1))] [] G R (wr V (p0 + 4) (((8 * x2) + x3)) x3))
      exact wp_wk (wk_s (wk_s (wk_s (wk_s wk_0)))) w
    · have q : x3 < x1 := Decidable.not_not.mp q
      replace w := w.2 q
      show wpv K_X8_takes d P 108 [some (4, (p0 : Int)), some (0, x1), some (0, x2), some (0, x3)] [(0, ((8 * x2) + x3)), (4, ((p0 + 4 : Nat) : Int))] G R V
      refine wp_ld (i := (.aload_n 0)) (4, (p0 : Int)) rfl rfl (fun _ => rfl) rfl rfl (?_ : wpv K_X8_takes d P 109 [some (4, (p0 : Int)), some (0, x1), some (0, x2), some (0, x3)] [(4, (p0 : Int)), (0, ((8 * x2) + x3)), (4, ((p0 + 4 : Nat) : Int))] G R V)
      refine wp_ld (i := (.aload_n 0)) (4, (p0 : Int)) rfl rfl (fun _ => rfl) rfl rfl (?_ : wpv K_X8_takes d P 110 [some (4, (p0 : Int)), some (0, x1), some (0, x2), some (0, x3)] [(4, (p0 : Int)), (4, (p0 : Int)), (0, ((8 * x2) + x3)), (4, ((p0 + 4 : Nat) : Int))] G R V)
      refine wp_getA (k := 11) rfl rfl rfl (ly8_o l0) rfl rfl (ly8_11 l0).1 (?_ : wpv K_X8_takes d P 113 [some (4, (p0 : Int)), some (0, x1), some (0, x2), some (0, x3)] [(4, ((p0 + 8 : Nat) : Int)), (4, (p0 : Int)), (0, ((8 * x2) + x3)), (4, ((p0 + 4 : Nat) : Int))] G R V)
      refine wp_ld (i := (.iload_n 2)) (0, x2) rfl rfl (fun _ => rfl) rfl rfl (?_ : wpv K_X8_takes d P 114 [some (4, (p0 : Int)), some (0, x1), some (0, x2), some (0, x3)] [(0, x2), (4, ((p0 + 8 : Nat) : Int)), (4, (p0 : Int)), (0, ((8 * x2) + x3)), (4, ((p0 + 4 : Nat) : Int))] G R V)
      obtain ⟨s8, w⟩ := w
      refine wp_rng (fun vr9 => ?_)
      have f10 : i32 (V (p0 + 8) x2) := vr_a0 vr9 (ly8_11 l0).2 s8
      replace w := w f10
      refine wp_aI rfl rfl (ly8_11 l0).2 s8 (?_ : wpv K_X8_takes d P 115 [some (4, (p0 : Int)), some (0, x1), some (0, x2), some (0, x3)] [(0, (V (p0 + 8) x2)), (4, (p0 : Int)), (0, ((8 * x2) + x3)), (4, ((p0 + 4 : Nat) : Int))] G R V)
      refine wp_ld (i := (.iload_n 3)) (0, x3) rfl rfl (fun _ => rfl) rfl rfl (?_ : wpv K_X8_takes d P 116 [some (4, (p0 : Int)), some (0, x1), some (0, x2), some (0, x3)] [(0, x3), (0, (V (p0 + 8) x2)), (4, (p0 : Int)), (0, ((8 * x2) + x3)), (4, ((p0 + 4 : Nat) : Int))] G R V)
      refine wp_virt (as := [(0, (V (p0 + 8) x2)), (0, x3)]) (a := p0) (st := [(0, ((8 * x2) + x3)), (4, ((p0 + 4 : Nat) : Int))]) _ rfl rfl rfl rfl rfl rfl (ly8_o l0) (Nat.le_of_ble_eq_true rfl) (cwv_kI w (fun v12 V11 w => ?_))
      show wpv K_X8_takes d P 119 [some (4, (p0 : Int)), some (0, x1), some (0, x2), some (0, x3)] [(0, v12), (0, ((8 * x2) + x3)), (4, ((p0 + 4 : Nat) : Int))] G R V11
      refine wp_go 123 rfl rfl rfl (?_ : wpv K_X8_takes d P 123 [some (4, (p0 : Int)), some (0, x1), some (0, x2), some (0, x3)] [(0, v12), (0, ((8 * x2) + x3)), (4, ((p0 + 4 : Nat) : Int))] G R V11)
      obtain ⟨s13, w⟩ := w
      obtain ⟨s14, w⟩ := w
      refine wp_sI rfl rfl (ly8_6 l0).2 s13 s14 (?_ : wpv K_X8_takes d P 124 [some (4, (p0 : Int)), some (0, x1), some (0, x2), some (0, x3)] [] G R (wr V11 (p0 + 4) (((8 * x2) + x3)) v12))
      obtain ⟨s15, w⟩ := w
      refine wp_inc (x := 3) (k := 1) (a := x3) (c := (x3 + 1)) _ rfl rfl rfl rfl s15 (by omega) rfl ?_
      show wpv K_X8_takes d P 127 [some (4, (p0 : Int)), some (0, x1), some (0, x2), some (0, (x3 + 1))] [] G R (wr V11 (p0 + 4) (((8 * x2) + x3)) v12)
      refine wp_go 87 rfl rfl rfl (?_ : wpv K_X8_takes d P 87 [some (4, (p0 : Int)), some (0, x1), some (0, x2), some (0, (x3 + 1))] [] G R (wr V11 (p0 + 4) (((8 * x2) + x3)) v12))
      exact wp_wk (wk_s (wk_s (wk_s (wk_s wk_0)))) w

theorem t_X8_takes_138 {d : Nat} {P : gP} {p0 : Nat} {x2 : Int} {G : List gS} {R V : gV} (l0 : lay8 G R p0) (w : ((i32 (V p0 5)) → ((i32 x2) ∧ (((¬ x2 < (V p0 5)) → wpv K_X8_takes d P 187 [some (4, (p0 : Int)), none, some (0, 0)] [] G R V) ∧ ((x2 < (V p0 5)) → wpv K_X8_takes d P 148 [some (4, (p0 : Int)), none, some (0, x2), some (0, 0)] [] G R V))))) : wpv K_X8_takes d P 138 [some (4, (p0 : Int)), none, some (0, x2)] [] G R V := by
  refine wp_ld (i := (.iload_n 2)) (0, x2) rfl rfl (fun _ => rfl) rfl rfl (?_ : wpv K_X8_takes d P 139 [some (4, (p0 : Int)), none, some (0, x2)] [(0, x2)] G R V)
  refine wp_ld (i := (.aload_n 0)) (4, (p0 : Int)) rfl rfl (fun _ => rfl) rfl rfl (?_ : wpv K_X8_takes d P 140 [some (4, (p0 : Int)), none, some (0, x2)] [(4, (p0 : Int)), (0, x2)] G R V)
  refine wp_rng (fun vr1 => ?_)
  have f2 : i32 (V p0 5) := vr_f0 vr1 (ly8_o l0) rfl rfl
  replace w := w f2
  refine wp_getI (k := 5) rfl rfl rfl (ly8_o l0) rfl rfl (?_ : wpv K_X8_takes d P 143 [some (4, (p0 : Int)), none, some (0, x2)] [(0, (V p0 5)), (0, x2)] G R V)
  obtain ⟨s3, w⟩ := w
  refine wp_icmp (c := .ge) 185 rfl rfl rfl s3 f2 (fun q => ?_) (fun q => ?_)
  · have q : ¬ x2 < (V p0 5) := q
    replace w := w.1 q
    show wpv K_X8_takes d P 185 [some (4, (p0 : Int)), none, some (0, x2)] [] G R V
    refine wp_p (i := (.iconst 0)) rfl rfl (fun _ _ _ => rfl) (?_ : wpv K_X8_takes d P 186 [some (4, (p0 : Int)), none, some (0, x2)] [(0, 0)] G R V)
    refine wp_sto (i := (.istore_n 2)) _ rfl rfl (fun _ => rfl) rfl rfl rfl ?_
    refine wp_wk (L' := [some (4, (p0 : Int)), none, some (0, 0)]) (wk_s (wk_n (wk_s wk_0))) ?_
    show wpv K_X8_takes d P 187 [some (4, (p0 : Int)), none, some (0, 0)] [] G R V
    exact wp_wk (wk_s (wk_n (wk_s wk_0))) w
  · have q : x2 < (V p0 5) := Decidable.not_not.mp q
    replace w := w.2 q
    show wpv K_X8_takes d P 146 [some (4, (p0 : Int)), none, some (0, x2)] [] G R V
    refine wp_p (i := (.iconst 0)) rfl rfl (fun _ _ _ => rfl) (?_ : wpv K_X8_takes d P 147 [some (4, (p0 : Int)), none, some (0, x2)] [(0, 0)] G R V)
    refine wp_sto (i := (.istore_n 3)) _ rfl rfl (fun _ => rfl) rfl rfl rfl ?_
    refine wp_wk (L' := [some (4, (p0 : Int)), none, some (0, x2), some (0, 0)]) (wk_s (wk_n (wk_s (wk_s wk_0)))) ?_
    show wpv K_X8_takes d P 148 [some (4, (p0 : Int)), none, some (0, x2), some (0, 0)] [] G R V
    exact wp_wk (wk_s (wk_n (wk_s (wk_s wk_0)))) w

theorem t_X8_takes_148 {d : Nat} {P : gP} {p0 : Nat} {x2 : Int} {x3 : Int} {G : List gS} {R V : gV} (l0 : lay8 G R p0) (w : ((i32 (V p0 5)) → ((i32 x3) ∧ (((¬ x3 < (V p0 5)) → ((i32 (x2 + 1)) ∧ wpv K_X8_takes d P 138 [some (4, (p0 : Int)), none, some (0, (x2 + 1))] [] G R V)) ∧ ((x3 < (V p0 5)) → ((i32 (120 * x2)) ∧ ((i32 ((120 * x2) + x3)) ∧ cwv d (fun r V7 => ∃ v8 : Int, r = some (0, v8) ∧ ((0 ≤ ((120 * x2) + x3) ∧ ((120 * x2) + x3) < 14400) ∧ ((i32 v8) ∧ ((i32 (x3 + 1)) ∧ wpv K_X8_takes d P 148 [some (4, (p0 : Int)), none, some (0, x2), some (0, (x3 + 1))] [] G R (wr V7 (p0 + 5) (((120 * x2) + x3)) v8))))) 169 [(4, (p0 : Int)), (0, x2), (0, x3)] G R V))))))) : wpv K_X8_takes d P 148 [some (4, (p0 : Int)), none, some (0, x2), some (0, x3)] [] G R V := by
  refine wp_ld (i := (.iload_n 3)) (0, x3) rfl rfl (fun _ => rfl) rfl rfl (?_ : wpv K_X8_takes d P 149 [some (4, (p0 : Int)), none, some (0, x2), some (0, x3)] [(0, x3)] G R V)
  refine wp_ld (i := (.aload_n 0)) (4, (p0 : Int)) rfl rfl (fun _ => rfl) rfl rfl (?_ : wpv K_X8_takes d P 150 [some (4, (p0 : Int)), none, some (0, x2), some (0, x3)] [(4, (p0 : Int)), (0, x3)] G R V)
  refine wp_rng (fun vr1 => ?_)
  have f2 : i32 (V p0 5) := vr_f0 vr1 (ly8_o l0) rfl rfl
  replace w := w f2
  refine wp_getI (k := 5) rfl rfl rfl (ly8_o l0) rfl rfl (?_ : wpv K_X8_takes d P 153 [some (4, (p0 : Int)), none, some (0, x2), some (0, x3)] [(0, (V p0 5)), (0, x3)] G R V)
  obtain ⟨s3, w⟩ := w
  refine wp_icmp (c := .ge) 179 rfl rfl rfl s3 f2 (fun q => ?_) (fun q => ?_)
  · have q : ¬ x3 < (V p0 5) := q
    replace w := w.1 q
    show wpv K_X8_takes d P 179 [some (4, (p0 : Int)), none, some (0, x2), some (0, x3)] [] G R V
    obtain ⟨s4, w⟩ := w
    refine wp_inc (x := 2) (k := 1) (a := x2) (c := (x2 + 1)) _ rfl rfl rfl rfl s4 (by omega) rfl ?_
    show wpv K_X8_takes d P 182 [some (4, (p0 : Int)), none, some (0, (x2 + 1)), some (0, x3)] [] G R V
    refine wp_go 138 rfl rfl rfl (?_ : wpv K_X8_takes d P 138 [some (4, (p0 : Int)), none, some (0, (x2 + 1)), some (0, x3)] [] G R V)
    exact wp_wk (wk_s (wk_n (wk_s wk_0))) w
  · have q : x3 < (V p0 5) := Decidable.not_not.mp q
    replace w := w.2 q
    show wpv K_X8_takes d P 156 [some (4, (p0 : Int)), none, some (0, x2), some (0, x3)] [] G R V
    refine wp_ld (i := (.aload_n 0)) (4, (p0 : Int)) rfl rfl (fun _ => rfl) rfl rfl (?_ : wpv K_X8_takes d P 157 [some (4, (p0 : Int)), none, some (0, x2), some (0, x3)] [(4, (p0 : Int))] G R V)
    refine wp_getA (k := 7) rfl rfl rfl (ly8_o l0) rfl rfl (ly8_7 l0).1 (?_ : wpv K_X8_takes d P 160 [some (4, (p0 : Int)), none, some (0, x2), some (0, x3)] [(4, ((p0 + 5 : Nat) : Int))] G R V)
    refine wp_p (i := (.bipush 120)) rfl rfl (fun _ _ _ => rfl) (?_ : wpv K_X8_takes d P 162 [some (4, (p0 : Int)), none, some (0, x2), some (0, x3)] [(0, 120), (4, ((p0 + 5 : Nat) : Int))] G R V)
    refine wp_ld (i := (.iload_n 2)) (0, x2) rfl rfl (fun _ => rfl) rfl rfl (?_ : wpv K_X8_takes d P 163 [some (4, (p0 : Int)), none, some (0, x2), some (0, x3)] [(0, x2), (0, 120), (4, ((p0 + 5 : Nat) : Int))] G R V)
    obtain ⟨s5, w⟩ := w
    refine wp_xmul rfl rfl s5 (?_ : wpv K_X8_takes d P 164 [some (4, (p0 : Int)), none, some (0, x2), some (0, x3)] [(0, (120 * x2)), (4, ((p0 + 5 : Nat) : Int))] G R V)
    refine wp_ld (i := (.iload_n 3)) (0, x3) rfl rfl (fun _ => rfl) rfl rfl (?_ : wpv K_X8_takes d P 165 [some (4, (p0 : Int)), none, some (0, x2), some (0, x3)] [(0, x3), (0, (120 * x2)), (4, ((p0 + 5 : Nat) : Int))] G R V)
    obtain ⟨s6, w⟩ := w
    refine wp_xadd rfl rfl s6 (?_ : wpv K_X8_takes d P 166 [some (4, (p0 : Int)), none, some (0, x2), some (0, x3)] [(0, ((120 * x2) + x3)), (4, ((p0 + 5 : Nat) : Int))] G R V)
    refine wp_ld (i := (.aload_n 0)) (4, (p0 : Int)) rfl rfl (fun _ => rfl) rfl rfl (?_ : wpv K_X8_takes d P 167 [some (4, (p0 : Int)), none, some (0, x2), some (0, x3)] [(4, (p0 : Int)), (0, ((120 * x2) + x3)), (4, ((p0 + 5 : Nat) : Int))] G R V)
    refine wp_ld (i := (.iload_n 2)) (0, x2) rfl rfl (fun _ => rfl) rfl rfl (?_ : wpv K_X8_takes d P 168 [some (4, (p0 : Int)), none, some (0, x2), some (0, x3)] [(0, x2), (4, (p0 : Int)), (0, ((120 * x2) + x3)), (4, ((p0 + 5 : Nat) : Int))] G R V)
    refine wp_ld (i := (.iload_n 3)) (0, x3) rfl rfl (fun _ => rfl) rfl rfl (?_ : wpv K_X8_takes d P 169 [some (4, (p0 : Int)), none, some (0, x2), some (0, x3)] [(0, x3), (0, x2), (4, (p0 : Int)), (0, ((120 * x2) + x3)), (4, ((p0 + 5 : Nat) : Int))] G R V)
    refine wp_virt (as := [(0, x2), (0, x3)]) (a := p0) (st := [(0, ((120 * x2) + x3)), (4, ((p0 + 5 : Nat) : Int))]) _ rfl rfl rfl rfl rfl rfl (ly8_o l0) (Nat.le_of_ble_eq_true rfl) (cwv_kI w (fun v8 V7 w => ?_))
    show wpv K_X8_takes d P 172 [some (4, (p0 : Int)), none, some (0, x2), some (0, x3)] [(0, v8), (0, ((120 * x2) + x3)), (4, ((p0 + 5 : Nat) : Int))] G R V7
    obtain ⟨s9, w⟩ := w
    obtain ⟨s10, w⟩ := w
    refine wp_sI rfl rfl (ly8_7 l0).2 s9 s10 (?_ : wpv K_X8_takes d P 173 [some (4, (p0 : Int)), none, some (0, x2), some (0, x3)] [] G R (wr V7 (p0 + 5) (((120 * x2) + x3)) v8))
    obtain ⟨s11, w⟩ := w
    refine wp_inc (x := 3) (k := 1) (a := x3) (c := (x3 + 1)) _ rfl rfl rfl rfl s11 (by omega) rfl ?_
    show wpv K_X8_takes d P 176 [some (4, (p0 : Int)), none, some (0, x2), some (0, (x3 + 1))] [] G R (wr V7 (p0 + 5) (((120 * x2) + x3)) v8)
    refine wp_go 148 rfl rfl rfl (?_ : wpv K_X8_takes d P 148 [some (4, (p0 : Int)), none, some (0, x2), some (0, (x3 + 1))] [] G R (wr V7 (p0 + 5) (((120 * x2) + x3)) v8))
    exact wp_wk (wk_s (wk_n (wk_s (wk_s wk_0)))) w

theorem t_X8_takes_187 {d : Nat} {P : gP} {p0 : Nat} {x2 : Int} {G : List gS} {R V : gV} (l0 : lay8 G R p0) (w : ((i32 (V p0 5)) → ((i32 x2) ∧ (((¬ x2 < (V p0 5)) → P none V) ∧ ((x2 < (V p0 5)) → wpv K_X8_takes d P 197 [some (4, (p0 : Int)), none, some (0, x2), some (0, 0)] [] G R V))))) : wpv K_X8_takes d P 187 [some (4, (p0 : Int)), none, some (0, x2)] [] G R V := by
  refine wp_ld (i := (.iload_n 2)) (0, x2) rfl rfl (fun _ => rfl) rfl rfl (?_ : wpv K_X8_takes d P 188 [some (4, (p0 : Int)), none, some (0, x2)] [(0, x2)] G R V)
  refine wp_ld (i := (.aload_n 0)) (4, (p0 : Int)) rfl rfl (fun _ => rfl) rfl rfl (?_ : wpv K_X8_takes d P 189 [some (4, (p0 : Int)), none, some (0, x2)] [(4, (p0 : Int)), (0, x2)] G R V)
  refine wp_rng (fun vr1 => ?_)
  have f2 : i32 (V p0 5) := vr_f0 vr1 (ly8_o l0) rfl rfl
  replace w := w f2
  refine wp_getI (k := 5) rfl rfl rfl (ly8_o l0) rfl rfl (?_ : wpv K_X8_takes d P 192 [some (4, (p0 : Int)), none, some (0, x2)] [(0, (V p0 5)), (0, x2)] G R V)
  obtain ⟨s3, w⟩ := w
  refine wp_icmp (c := .ge) 238 rfl rfl rfl s3 f2 (fun q => ?_) (fun q => ?_)
  · have q : ¬ x2 < (V p0 5) := q
    replace w := w.1 q
    show wpv K_X8_takes d P 238 [some (4, (p0 : Int)), none, some (0, x2)] [] G R V
    exact wp_r0 rfl rfl rfl w
  · have q : x2 < (V p0 5) := Decidable.not_not.mp q
    replace w := w.2 q
    show wpv K_X8_takes d P 195 [some (4, (p0 : Int)), none, some (0, x2)] [] G R V
    refine wp_p (i := (.iconst 0)) rfl rfl (fun _ _ _ => rfl) (?_ : wpv K_X8_takes d P 196 [some (4, (p0 : Int)), none, some (0, x2)] [(0, 0)] G R V)
    refine wp_sto (i := (.istore_n 3)) _ rfl rfl (fun _ => rfl) rfl rfl rfl ?_
    refine wp_wk (L' := [some (4, (p0 : Int)), none, some (0, x2), some (0, 0)]) (wk_s (wk_n (wk_s (wk_s wk_0)))) ?_
    show wpv K_X8_takes d P 197 [some (4, (p0 : Int)), none, some (0, x2), some (0, 0)] [] G R V
    exact wp_wk (wk_s (wk_n (wk_s (wk_s wk_0)))) w

theorem t_X8_takes_197 {d : Nat} {P : gP} {p0 : Nat} {x2 : Int} {x3 : Int} {G : List gS} {R V : gV} (l0 : lay8 G R p0) (w : ((i32 (V p0 5)) → ((i32 x3) ∧ (((¬ x3 < (V p0 5)) → ((i32 (x2 + 1)) ∧ wpv K_X8_takes d P 187 [some (4, (p0 : Int)), none, some (0, (x2 + 1))] [] G R V)) ∧ ((x3 < (V p0 5)) → ((i32 (120 * x2)) ∧ ((i32 ((120 * x2) + x3)) ∧ ((0 ≤ ((120 * x2) + x3) ∧ ((120 * x2) + x3) < 14400) ∧ ((i32 (V (p0 + 5) (((120 * x2) + x3)))) → (((¬ (V (p0 + 5) (((120 * x2) + x3))) = 0) → ((i32 (x3 + 1)) ∧ wpv K_X8_takes d P 197 [some (4, (p0 : Int)), none, some (0, x2), some (0, (x3 + 1))] [] G R V)) ∧ (((V (p0 + 5) (((120 * x2) + x3))) = 0) → ((0 ≤ x2 ∧ x2 < 120) ∧ ((i32 (x3 + 1)) ∧ wpv K_X8_takes d P 197 [some (4, (p0 : Int)), none, some (0, x2), some (0, (x3 + 1))] [] G R (wr V (p0 + 6) x2 x3)))))))))))))) : wpv K_X8_takes d P 197 [some (4, (p0 : Int)), none, some (0, x2), some (0, x3)] [] G R V := by
  refine wp_ld (i := (.iload_n 3)) (0, x3) rfl rfl (fun _ => rfl) rfl rfl (?_ : wpv K_X8_takes d P 198 [some (4, (p0 : Int)), none, some (0, x2), some (0, x3)] [(0, x3)] G R V)
  refine wp_ld (i := (.aload_n 0)) (4, (p0 : Int)) rfl rfl (fun _ => rfl) rfl rfl (?_ : wpv K_X8_takes d P 199 [some (4, (p0 : Int)), none, some (0, x2), some (0, x3)] [(4, (p0 : Int)), (0, x3)] G R V)
  refine wp_rng (fun vr1 => ?_)
  have f2 : i32 (V p0 5) := vr_f0 vr1 (ly8_o l0) rfl rfl
  replace w := w f2
  refine wp_getI (k := 5) rfl rfl rfl (ly8_o l0) rfl rfl (?_ : wpv K_X8_takes d P 202 [some (4, (p0 : Int)), none, some (0, x2), some (0, x3)] [(0, (V p0 5)), (0, x3)] G R V)
  obtain ⟨s3, w⟩ := w
  refine wp_icmp (c := .ge) 232 rfl rfl rfl s3 f2 (fun q => ?_) (fun q => ?_)
  · have q : ¬ x3 < (V p0 5) := q
    replace w := w.1 q
    show wpv K_X8_takes d P 232 [some (4, (p0 : Int)), none, some (0, x2), some (0, x3)] [] G R V
    obtain ⟨s4, w⟩ := w
    refine wp_inc (x := 2) (k := 1) (a := x2) (c := (x2 + 1)) _ rfl rfl rfl rfl s4 (by omega) rfl ?_
    show wpv K_X8_takes d P 235 [some (4, (p0 : Int)), none, some (0, (x2 + 1)), some (0, x3)] [] G R V
    refine wp_go 187 rfl rfl rfl (?_ : wpv K_X8_takes d P 187 [some (4, (p0 : Int)), none, some (0, (x2 + 1)), some (0, x3)] [] G R V)
    exact wp_wk (wk_s (wk_n (wk_s wk_0))) w
  · have q : x3 < (V p0 5) := Decidable.not_not.mp q
    replace w := w.2 q
    show wpv K_X8_takes d P 205 [some (4, (p0 : Int)), none, some (0, x2), some (0, x3)] [] G R V
    refine wp_ld (i := (.aload_n 0)) (4, (p0 : Int)) rfl rfl (fun _ => rfl) rfl rfl (?_ : wpv K_X8_takes d P 206 [some (4, (p0 : Int)), none, some (0, x2), some (0, x3)] [(4, (p0 : Int))] G R V)
    refine wp_getA (k := 7) rfl rfl rfl (ly8_o l0) rfl rfl (ly8_7 l0).1 (?_ : wpv K_X8_takes d P 209 [some (4, (p0 : Int)), none, some (0, x2), some (0, x3)] [(4, ((p0 + 5 : Nat) : Int))] G R V)
    refine wp_p (i := (.bipush 120)) rfl rfl (fun _ _ _ => rfl) (?_ : wpv K_X8_takes d P 211 [some (4, (p0 : Int)), none, some (0, x2), some (0, x3)] [(0, 120), (4, ((p0 + 5 : Nat) : Int))] G R V)
    refine wp_ld (i := (.iload_n 2)) (0, x2) rfl rfl (fun _ => rfl) rfl rfl (?_ : wpv K_X8_takes d P 212 [some (4, (p0 : Int)), none, some (0, x2), some (0, x3)] [(0, x2), (0, 120), (4, ((p0 + 5 : Nat) : Int))] G R V)
    obtain ⟨s5, w⟩ := w
    refine wp_xmul rfl rfl s5 (?_ : wpv K_X8_takes d P 213 [some (4, (p0 : Int)), none, some (0, x2), some (0, x3)] [(0, (120 * x2)), (4, ((p0 + 5 : Nat) : Int))] G R V)
    refine wp_ld (i := (.iload_n 3)) (0, x3) rfl rfl (fun _ => rfl) rfl rfl (?_ : wpv K_X8_takes d P 214 [some (4, (p0 : Int)), none, some (0, x2), some (0, x3)] [(0, x3), (0, (120 * x2)), (4, ((p0 + 5 : Nat) : Int))] G R V)
    obtain ⟨s6, w⟩ := w
    refine wp_xadd rfl rfl s6 (?_ : wpv K_X8_takes d P 215 [some (4, (p0 : Int)), none, some (0, x2), some (0, x3)] [(0, ((120 * x2) + x3)), (4, ((p0 + 5 : Nat) : Int))] G R V)
    obtain ⟨s7, w⟩ := w
    have f8 : i32 (V (p0 + 5) (((120 * x2) + x3))) := vr_a0 vr1 (ly8_7 l0).2 s7
    replace w := w f8
    refine wp_aI rfl rfl (ly8_7 l0).2 s7 (?_ : wpv K_X8_takes d P 216 [some (4, (p0 : Int)), none, some (0, x2), some (0, x3)] [(0, (V (p0 + 5) (((120 * x2) + x3))))] G R V)
    refine wp_if (c := .ne) 226 rfl rfl rfl f8 (fun q => ?_) (fun q => ?_)
    · have q : ¬ (V (p0 + 5) (((120 * x2) + x3))) = 0 := q
      replace w := w.1 q
      show wpv K_X8_takes d P 226 [some (4, (p0 : Int)), none, some (0, x2), some (0, x3)] [] G R V
      obtain ⟨s9, w⟩ := w
      refine wp_inc (x := 3) (k := 1) (a := x3) (c := (x3 + 1)) _ rfl rfl rfl rfl s9 (by omega) rfl ?_
      show wpv K_X8_takes d P 229 [some (4, (p0 : Int)), none, some (0, x2), some (0, (x3 + 1))] [] G R V
      refine wp_go 197 rfl rfl rfl (?_ : wpv K_X8_takes d P 197 [some (4, (p0 : Int)), none, some (0, x2), some (0, (x3 + 1))] [] G R V)
      exact wp_wk (wk_s (wk_n (wk_s (wk_s wk_0)))) w
    · have q : (V (p0 + 5) (((120 * x2) + x3))) = 0 := Decidable.not_not.mp q
      replace w := w.2 q
      show wpv K_X8_takes d P 219 [some (4, (p0 : Int)), none, some (0, x2), some (0, x3)] [] G R V
      refine wp_ld (i := (.aload_n 0)) (4, (p0 : Int)) rfl rfl (fun _ => rfl) rfl rfl (?_ : wpv K_X8_takes d P 220 [some (4, (p0 : Int)), none, some (0, x2), some (0, x3)] [(4, (p0 : Int))] G R V)
      refine wp_getA (k := 8) rfl rfl rfl (ly8_o l0) rfl rfl (ly8_8 l0).1 (?_ : wpv K_X8_takes d P 223 [some (4, (p0 : Int)), none, some (0, x2), some (0, x3)] [(4, ((p0 + 6 : Nat) : Int))] G R V)
      refine wp_ld (i := (.iload_n 2)) (0, x2) rfl rfl (fun _ => rfl) rfl rfl (?_ : wpv K_X8_takes d P 224 [some (4, (p0 : Int)), none, some (0, x2), some (0, x3)] [(0, x2), (4, ((p0 + 6 : Nat) : Int))] G R V)
      refine wp_ld (i := (.iload_n 3)) (0, x3) rfl rfl (fun _ => rfl) rfl rfl (?_ : wpv K_X8_takes d P 225 [some (4, (p0 : Int)), none, some (0, x2), some (0, x3)] [(0, x3), (0, x2), (4, ((p0 + 6 : Nat) : Int))] G R V)
      obtain ⟨s10, w⟩ := w
      refine wp_sI rfl rfl (ly8_8 l0).2 s10 s3 (?_ : wpv K_X8_takes d P 226 [some (4, (p0 : Int)), none, some (0, x2), some (0, x3)] [] G R (wr V (p0 + 6) x2 x3))
      obtain ⟨s11, w⟩ := w
      refine wp_inc (x := 3) (k := 1) (a := x3) (c := (x3 + 1)) _ rfl rfl rfl rfl s11 (by omega) rfl ?_
      show wpv K_X8_takes d P 229 [some (4, (p0 : Int)), none, some (0, x2), some (0, (x3 + 1))] [] G R (wr V (p0 + 6) x2 x3)
      refine wp_go 197 rfl rfl rfl (?_ : wpv K_X8_takes d P 197 [some (4, (p0 : Int)), none, some (0, x2), some (0, (x3 + 1))] [] G R (wr V (p0 + 6) x2 x3))
      exact wp_wk (wk_s (wk_n (wk_s (wk_s wk_0)))) w
theorem t_X8_find_0 {d : Nat} {P : gP} {p0 : Nat} {x1 : Int} {x2 : Int} {G : List gS} {R V : gV} (l0 : lay8 G R p0) (w : ((i32 (V p0 5)) → ((i32 ((V p0 5) - 1)) ∧ wpv K_X8_find d P 10 [some (4, (p0 : Int)), some (0, x1), some (0, x2), some (0, 0), some (0, ((V p0 5) - 1))] [] G R V))) : wpv K_X8_find d P 0 [some (4, (p0 : Int)), some (0, x1), some (0, x2)] [] G R V := by
  refine wp_p (i := (.iconst 0)) rfl rfl (fun _ _ _ => rfl) (?_ : wpv K_X8_find d P 1 [some (4, (p0 : Int)), some (0, x1), some (0, x2)] [(0, 0)] G R V)
  refine wp_sto (i := (.istore_n 3)) _ rfl rfl (fun _ => rfl) rfl rfl rfl ?_
  refine wp_wk (L' := [some (4, (p0 : Int)), some (0, x1), some (0, x2), some (0, 0)]) (wk_s (wk_s (wk_s (wk_s wk_0)))) ?_
  show wpv K_X8_find d P 2 [some (4, (p0 : Int)), some (0, x1), some (0, x2), some (0, 0)] [] G R V
  refine wp_ld (i := (.aload_n 0)) (4, (p0 : Int)) rfl rfl (fun _ => rfl) rfl rfl (?_ : wpv K_X8_find d P 3 [some (4, (p0 : Int)), some (0, x1), some (0, x2), some (0, 0)] [(4, (p0 : Int))] G R V)
  refine wp_rng (fun vr1 => ?_)
  have f2 : i32 (V p0 5) := vr_f0 vr1 (ly8_o l0) rfl rfl
  replace w := w f2
  refine wp_getI (k := 5) rfl rfl rfl (ly8_o l0) rfl rfl (?_ : wpv K_X8_find d P 6 [some (4, (p0 : Int)), some (0, x1), some (0, x2), some (0, 0)] [(0, (V p0 5))] G R V)
  refine wp_p (i := (.iconst 1)) rfl rfl (fun _ _ _ => rfl) (?_ : wpv K_X8_find d P 7 [some (4, (p0 : Int)), some (0, x1), some (0, x2), some (0, 0)] [(0, 1), (0, (V p0 5))] G R V)
  obtain ⟨s3, w⟩ := w
  refine wp_xsub rfl rfl s3 (?_ : wpv K_X8_find d P 8 [some (4, (p0 : Int)), some (0, x1), some (0, x2), some (0, 0)] [(0, ((V p0 5) - 1))] G R V)
  refine wp_sto (i := (.istore 4)) _ rfl rfl (fun _ => rfl) rfl rfl rfl ?_
  refine wp_wk (L' := [some (4, (p0 : Int)), some (0, x1), some (0, x2), some (0, 0), some (0, ((V p0 5) - 1))]) (wk_s (wk_s (wk_s (wk_s (wk_s wk_0))))) ?_
  show wpv K_X8_find d P 10 [some (4, (p0 : Int)), some (0, x1), some (0, x2), some (0, 0), some (0, ((V p0 5) - 1))] [] G R V
  exact wp_wk (wk_s (wk_s (wk_s (wk_s (wk_s wk_0))))) w

theorem t_X8_find_10 {d : Nat} {P : gP} {p0 : Nat} {x1 : Int} {x2 : Int} {x3 : Int} {x4 : Int} {G : List gS} {R V : gV} (l0 : lay8 G R p0) (w : ((i32 x3) ∧ ((i32 x4) ∧ (((¬ x3 < x4) → P (some (0, x3)) V) ∧ ((x3 < x4) → ((i32 (x3 + x4)) ∧ ((0 ≤ (x3 + x4)) ∧ wpv K_X8_find d P 30 [some (4, (p0 : Int)), some (0, x1), some (0, x2), some (0, x3), some (0, x4), some (0, ((x3 + x4) / 2)), some (0, 0), some (0, 0)] [] G R V))))))) : wpv K_X8_find d P 10 [some (4, (p0 : Int)), some (0, x1), some (0, x2), some (0, x3), some (0, x4)] [] G R V := by
  refine wp_ld (i := (.iload_n 3)) (0, x3) rfl rfl (fun _ => rfl) rfl rfl (?_ : wpv K_X8_find d P 11 [some (4, (p0 : Int)), some (0, x1), some (0, x2), some (0, x3), some (0, x4)] [(0, x3)] G R V)
  refine wp_ld (i := (.iload 4)) (0, x4) rfl rfl (fun _ => rfl) rfl rfl (?_ : wpv K_X8_find d P 13 [some (4, (p0 : Int)), some (0, x1), some (0, x2), some (0, x3), some (0, x4)] [(0, x4), (0, x3)] G R V)
  obtain ⟨s1, w⟩ := w
  obtain ⟨s2, w⟩ := w
  refine wp_icmp (c := .ge) 108 rfl rfl rfl s1 s2 (fun q => ?_) (fun q => ?_)
  · have q : ¬ x3 < x4 := q
    replace w := w.1 q
    show wpv K_X8_find d P 108 [some (4, (p0 : Int)), some (0, x1), some (0, x2), some (0, x3), some (0, x4)] [] G R V
    refine wp_ld (i := (.iload_n 3)) (0, x3) rfl rfl (fun _ => rfl) rfl rfl (?_ : wpv K_X8_find d P 109 [some (4, (p0 : Int)), some (0, x1), some (0, x2), some (0, x3), some (0, x4)] [(0, x3)] G R V)
    exact wp_rI rfl rfl rfl w
  · have q : x3 < x4 := Decidable.not_not.mp q
    replace w := w.2 q
    show wpv K_X8_find d P 16 [some (4, (p0 : Int)), some (0, x1), some (0, x2), some (0, x3), some (0, x4)] [] G R V
    refine wp_ld (i := (.iload_n 3)) (0, x3) rfl rfl (fun _ => rfl) rfl rfl (?_ : wpv K_X8_find d P 17 [some (4, (p0 : Int)), some (0, x1), some (0, x2), some (0, x3), some (0, x4)] [(0, x3)] G R V)
    refine wp_ld (i := (.iload 4)) (0, x4) rfl rfl (fun _ => rfl) rfl rfl (?_ : wpv K_X8_find d P 19 [some (4, (p0 : Int)), some (0, x1), some (0, x2), some (0, x3), some (0, x4)] [(0, x4), (0, x3)] G R V)
    obtain ⟨s3, w⟩ := w
    refine wp_xadd rfl rfl s3 (?_ : wpv K_X8_find d P 20 [some (4, (p0 : Int)), some (0, x1), some (0, x2), some (0, x3), some (0, x4)] [(0, (x3 + x4))] G R V)
    refine wp_p (i := (.iconst 2)) rfl rfl (fun _ _ _ => rfl) (?_ : wpv K_X8_find d P 21 [some (4, (p0 : Int)), some (0, x1), some (0, x2), some (0, x3), some (0, x4)] [(0, 2), (0, (x3 + x4))] G R V)
    obtain ⟨s4, w⟩ := w
    refine wp_xdiv rfl rfl s4 (by omega) s3 ⟨by omega, by omega⟩ (?_ : wpv K_X8_find d P 22 [some (4, (p0 : Int)), some (0, x1), some (0, x2), some (0, x3), some (0, x4)] [(0, ((x3 + x4) / 2))] G R V)
    refine wp_sto (i := (.istore 5)) _ rfl rfl (fun _ => rfl) rfl rfl rfl ?_
    refine wp_wk (L' := [some (4, (p0 : Int)), some (0, x1), some (0, x2), some (0, x3), some (0, x4), some (0, ((x3 + x4) / 2))]) (wk_s (wk_s (wk_s (wk_s (wk_s (wk_s wk_0)))))) ?_
    show wpv K_X8_find d P 24 [some (4, (p0 : Int)), some (0, x1), some (0, x2), some (0, x3), some (0, x4), some (0, ((x3 + x4) / 2))] [] G R V
    refine wp_p (i := (.iconst 0)) rfl rfl (fun _ _ _ => rfl) (?_ : wpv K_X8_find d P 25 [some (4, (p0 : Int)), some (0, x1), some (0, x2), some (0, x3), some (0, x4), some (0, ((x3 + x4) / 2))] [(0, 0)] G R V)
    refine wp_sto (i := (.istore 6)) _ rfl rfl (fun _ => rfl) rfl rfl rfl ?_
    refine wp_wk (L' := [some (4, (p0 : Int)), some (0, x1), some (0, x2), some (0, x3), some (0, x4), some (0, ((x3 + x4) / 2)), some (0, 0)]) (wk_s (wk_s (wk_s (wk_s (wk_s (wk_s (wk_s wk_0))))))) ?_
    show wpv K_X8_find d P 27 [some (4, (p0 : Int)), some (0, x1), some (0, x2), some (0, x3), some (0, x4), some (0, ((x3 + x4) / 2)), some (0, 0)] [] G R V
    refine wp_p (i := (.iconst 0)) rfl rfl (fun _ _ _ => rfl) (?_ : wpv K_X8_find d P 28 [some (4, (p0 : Int)), some (0, x1), some (0, x2), some (0, x3), some (0, x4), some (0, ((x3 + x4) / 2)), some (0, 0)] [(0, 0)] G R V)
    refine wp_sto (i := (.istore 7)) _ rfl rfl (fun _ => rfl) rfl rfl rfl ?_
    refine wp_wk (L' := [some (4, (p0 : Int)), some (0, x1), some (0, x2), some (0, x3), some (0, x4), some (0, ((x3 + x4) / 2)), some (0, 0), some (0, 0)]) (wk_s (wk_s (wk_s (wk_s (wk_s (wk_s (wk_s (wk_s wk_0)))))))) ?_
    show wpv K_X8_find d P 30 [some (4, (p0 : Int)), some (0, x1), some (0, x2), some (0, x3), some (0, x4), some (0, ((x3 + x4) / 2)), some (0, 0), some (0, 0)] [] G R V
    exact wp_wk (wk_s (wk_s (wk_s (wk_s (wk_s (wk_s (wk_s (wk_s wk_0)))))))) w

theorem t_X8_find_30 {d : Nat} {P : gP} {p0 : Nat} {x1 : Int} {x2 : Int} {x3 : Int} {x4 : Int} {x5 : Int} {x6 : Int} {x7 : Int} {G : List gS} {R V : gV} (l0 : lay8 G R p0) (w : ((i32 (V p0 4)) → ((i32 x7) ∧ (((¬ x7 < (V p0 4)) → ((i32 x6) ∧ (((¬ x6 < 0) → wpv K_X8_find d P 10 [some (4, (p0 : Int)), some (0, x1), some (0, x2), some (0, x3), some (0, x5)] [] G R V) ∧ ((x6 < 0) → ((i32 (x5 + 1)) ∧ wpv K_X8_find d P 10 [some (4, (p0 : Int)), some (0, x1), some (0, x2), some (0, (x5 + 1)), some (0, x4)] [] G R V))))) ∧ ((x7 < (V p0 4)) → ((i32 x6) ∧ (((¬ x6 = 0) → (((¬ x6 < 0) → wpv K_X8_find d P 10 [some (4, (p0 : Int)), some (0, x1), some (0, x2), some (0, x3), some (0, x5)] [] G R V) ∧ ((x6 < 0) → ((i32 (x5 + 1)) ∧ wpv K_X8_find d P 10 [some (4, (p0 : Int)), some (0, x1), some (0, x2), some (0, (x5 + 1)), some (0, x4)] [] G R V)))) ∧ ((x6 = 0) → ((i32 (8 * x5)) ∧ ((i32 ((8 * x5) + x7)) ∧ ((0 ≤ ((8 * x5) + x7) ∧ ((8 * x5) + x7) < 960) ∧ ((i32 (V (p0 + 4) (((8 * x5) + x7)))) → ((i32 (8 * x2)) ∧ ((i32 (8 * x1)) ∧ ((i32 ((8 * x1) + x7)) ∧ ((0 ≤ ((8 * x1) + x7) ∧ ((8 * x1) + x7) < 960) ∧ ((i32 (V (p0 + 4) (((8 * x1) + x7)))) → ((i32 ((8 * x2) + (V (p0 + 4) (((8 * x1) + x7))))) ∧ ((0 ≤ ((8 * x2) + (V (p0 + 4) (((8 * x1) + x7)))) ∧ ((8 * x2) + (V (p0 + 4) (((8 * x1) + x7)))) < 960) ∧ ((i32 (V (p0 + 4) (((8 * x2) + (V (p0 + 4) (((8 * x1) + x7))))))) → ((i32 ((V (p0 + 4) (((8 * x5) + x7))) - (V (p0 + 4) (((8 * x2) + (V (p0 + 4) (((8 * x1) + x7)))))))) ∧ ((i32 (x7 + 1)) ∧ wpv K_X8_find d P 30 [some (4, (p0 : Int)), some (0, x1), some (0, x2), some (0, x3), some (0, x4), some (0, x5), some (0, ((V (p0 + 4) (((8 * x5) + x7))) - (V (p0 + 4) (((8 * x2) + (V (p0 + 4) (((8 * x1) + x7)))))))), some (0, (x7 + 1))] [] G R V)))))))))))))))))))))) : wpv K_X8_find d P 30 [some (4, (p0 : Int)), some (0, x1), some (0, x2), some (0, x3), some (0, x4), some (0, x5), some (0, x6), some (0, x7)] [] G R V := by
  refine wp_ld (i := (.iload 7)) (0, x7) rfl rfl (fun _ => rfl) rfl rfl (?_ : wpv K_X8_find d P 32 [some (4, (p0 : Int)), some (0, x1), some (0, x2), some (0, x3), some (0, x4), some (0, x5), some (0, x6), some (0, x7)] [(0, x7)] G R V)
  refine wp_ld (i := (.aload_n 0)) (4, (p0 : Int)) rfl rfl (fun _ => rfl) rfl rfl (?_ : wpv K_X8_find d P 33 [some (4, (p0 : Int)), some (0, x1), some (0, x2), some (0, x3), some (0, x4), some (0, x5), some (0, x6), some (0, x7)] [(4, (p0 : Int)), (0, x7)] G R V)
  refine wp_rng (fun vr1 => ?_)
  have f2 : i32 (V p0 4) := vr_f0 vr1 (ly8_o l0) rfl rfl
  replace w := w f2
  refine wp_getI (k := 4) rfl rfl rfl (ly8_o l0) rfl rfl (?_ : wpv K_X8_find d P 36 [some (4, (p0 : Int)), some (0, x1), some (0, x2), some (0, x3), some (0, x4), some (0, x5), some (0, x6), some (0, x7)] [(0, (V p0 4)), (0, x7)] G R V)
  obtain ⟨s3, w⟩ := w
  refine wp_icmp (c := .ge) 88 rfl rfl rfl s3 f2 (fun q => ?_) (fun q => ?_)
  · have q : ¬ x7 < (V p0 4) := q
    replace w := w.1 q
    show wpv K_X8_find d P 88 [some (4, (p0 : Int)), some (0, x1), some (0, x2), some (0, x3), some (0, x4), some (0, x5), some (0, x6), some (0, x7)] [] G R V
    refine wp_ld (i := (.iload 6)) (0, x6) rfl rfl (fun _ => rfl) rfl rfl (?_ : wpv K_X8_find d P 90 [some (4, (p0 : Int)), some (0, x1), some (0, x2), some (0, x3), some (0, x4), some (0, x5), some (0, x6), some (0, x7)] [(0, x6)] G R V)
    obtain ⟨s4, w⟩ := w
    refine wp_if (c := .ge) 101 rfl rfl rfl s4 (fun q => ?_) (fun q => ?_)
    · have q : ¬ x6 < 0 := q
      replace w := w.1 q
      show wpv K_X8_find d P 101 [some (4, (p0 : Int)), some (0, x1), some (0, x2), some (0, x3), some (0, x4), some (0, x5), some (0, x6), some (0, x7)] [] G R V
      refine wp_ld (i := (.iload 5)) (0, x5) rfl rfl (fun _ => rfl) rfl rfl (?_ : wpv K_X8_find d P 103 [some (4, (p0 : Int)), some (0, x1), some (0, x2), some (0, x3), some (0, x4), some (0, x5), some (0, x6), some (0, x7)] [(0, x5)] G R V)
      refine wp_sto (i := (.istore 4)) _ rfl rfl (fun _ => rfl) rfl rfl rfl ?_
      refine wp_wk (L' := [some (4, (p0 : Int)), some (0, x1), some (0, x2), some (0, x3), some (0, x5), some (0, x5), some (0, x6), some (0, x7)]) (wk_s (wk_s (wk_s (wk_s (wk_s (wk_s (wk_s (wk_s wk_0)))))))) ?_
      show wpv K_X8_find d P 105 [some (4, (p0 : Int)), some (0, x1), some (0, x2), some (0, x3), some (0, x5), some (0, x5), some (0, x6), some (0, x7)] [] G R V
      refine wp_go 10 rfl rfl rfl (?_ : wpv K_X8_find d P 10 [some (4, (p0 : Int)), some (0, x1), some (0, x2), some (0, x3), some (0, x5), some (0, x5), some (0, x6), some (0, x7)] [] G R V)
      exact wp_wk (wk_s (wk_s (wk_s (wk_s (wk_s wk_0))))) w
    · have q : x6 < 0 := Decidable.not_not.mp q
      replace w := w.2 q
      show wpv K_X8_find d P 93 [some (4, (p0 : Int)), some (0, x1), some (0, x2), some (0, x3), some (0, x4), some (0, x5), some (0, x6), some (0, x7)] [] G R V
      refine wp_ld (i := (.iload 5)) (0, x5) rfl rfl (fun _ => rfl) rfl rfl (?_ : wpv K_X8_find d P 95 [some (4, (p0 : Int)), some (0, x1), some (0, x2), some (0, x3), some (0, x4), some (0, x5), some (0, x6), some (0, x7)] [(0, x5)] G R V)
      refine wp_p (i := (.iconst 1)) rfl rfl (fun _ _ _ => rfl) (?_ : wpv K_X8_find d P 96 [some (4, (p0 : Int)), some (0, x1), some (0, x2), some (0, x3), some (0, x4), some (0, x5), some (0, x6), some (0, x7)] [(0, 1), (0, x5)] G R V)
      obtain ⟨s5, w⟩ := w
      refine wp_xadd rfl rfl s5 (?_ : wpv K_X8_find d P 97 [some (4, (p0 : Int)), some (0, x1), some (0, x2), some (0, x3), some (0, x4), some (0, x5), some (0, x6), some (0, x7)] [(0, (x5 + 1))] G R V)
      refine wp_sto (i := (.istore_n 3)) _ rfl rfl (fun _ => rfl) rfl rfl rfl ?_
      refine wp_wk (L' := [some (4, (p0 : Int)), some (0, x1), some (0, x2), some (0, (x5 + 1)), some (0, x4), some (0, x5), some (0, x6), some (0, x7)]) (wk_s (wk_s (wk_s (wk_s (wk_s (wk_s (wk_s (wk_s wk_0)))))))) ?_
      show wpv K_X8_find d P 98 [some (4, (p0 : Int)), some (0, x1), some (0, x2), some (0, (x5 + 1)), some (0, x4), some (0, x5), some (0, x6), some (0, x7)] [] G R V
      refine wp_go 105 rfl rfl rfl (?_ : wpv K_X8_find d P 105 [some (4, (p0 : Int)), some (0, x1), some (0, x2), some (0, (x5 + 1)), some (0, x4), some (0, x5), some (0, x6), some (0, x7)] [] G R V)
      refine wp_go 10 rfl rfl rfl (?_ : wpv K_X8_find d P 10 [some (4, (p0 : Int)), some (0, x1), some (0, x2), some (0, (x5 + 1)), some (0, x4), some (0, x5), some (0, x6), some (0, x7)] [] G R V)
      exact wp_wk (wk_s (wk_s (wk_s (wk_s (wk_s wk_0))))) w
  · have q : x7 < (V p0 4) := Decidable.not_not.mp q
    replace w := w.2 q
    show wpv K_X8_find d P 39 [some (4, (p0 : Int)), some (0, x1), some (0, x2), some (0, x3), some (0, x4), some (0, x5), some (0, x6), some (0, x7)] [] G R V
    refine wp_ld (i := (.iload 6)) (0, x6) rfl rfl (fun _ => rfl) rfl rfl (?_ : wpv K_X8_find d P 41 [some (4, (p0 : Int)), some (0, x1), some (0, x2), some (0, x3), some (0, x4), some (0, x5), some (0, x6), some (0, x7)] [(0, x6)] G R V)
    obtain ⟨s6, w⟩ := w
    refine wp_if (c := .ne) 88 rfl rfl rfl s6 (fun q => ?_) (fun q => ?_)
    · have q : ¬ x6 = 0 := q
      replace w := w.1 q
      show wpv K_X8_find d P 88 [some (4, (p0 : Int)), some (0, x1), some (0, x2), some (0, x3), some (0, x4), some (0, x5), some (0, x6), some (0, x7)] [] G R V
      refine wp_ld (i := (.iload 6)) (0, x6) rfl rfl (fun _ => rfl) rfl rfl (?_ : wpv K_X8_find d P 90 [some (4, (p0 : Int)), some (0, x1), some (0, x2), some (0, x3), some (0, x4), some (0, x5), some (0, x6), some (0, x7)] [(0, x6)] G R V)
      refine wp_if (c := .ge) 101 rfl rfl rfl s6 (fun q => ?_) (fun q => ?_)
      · have q : ¬ x6 < 0 := q
        replace w := w.1 q
        show wpv K_X8_find d P 101 [some (4, (p0 : Int)), some (0, x1), some (0, x2), some (0, x3), some (0, x4), some (0, x5), some (0, x6), some (0, x7)] [] G R V
        refine wp_ld (i := (.iload 5)) (0, x5) rfl rfl (fun _ => rfl) rfl rfl (?_ : wpv K_X8_find d P 103 [some (4, (p0 : Int)), some (0, x1), some (0, x2), some (0, x3), some (0, x4), some (0, x5), some (0, x6), some (0, x7)] [(0, x5)] G R V)
        refine wp_sto (i := (.istore 4)) _ rfl rfl (fun _ => rfl) rfl rfl rfl ?_
        refine wp_wk (L' := [some (4, (p0 : Int)), some (0, x1), some (0, x2), some (0, x3), some (0, x5), some (0, x5), some (0, x6), some (0, x7)]) (wk_s (wk_s (wk_s (wk_s (wk_s (wk_s (wk_s (wk_s wk_0)))))))) ?_
        show wpv K_X8_find d P 105 [some (4, (p0 : Int)), some (0, x1), some (0, x2), some (0, x3), some (0, x5), some (0, x5), some (0, x6), some (0, x7)] [] G R V
        refine wp_go 10 rfl rfl rfl (?_ : wpv K_X8_find d P 10 [some (4, (p0 : Int)), some (0, x1), some (0, x2), some (0, x3), some (0, x5), some (0, x5), some (0, x6), some (0, x7)] [] G R V)
        exact wp_wk (wk_s (wk_s (wk_s (wk_s (wk_s wk_0))))) w
      · have q : x6 < 0 := Decidable.not_not.mp q
        replace w := w.2 q
        show wpv K_X8_find d P 93 [some (4, (p0 : Int)), some (0, x1), some (0, x2), some (0, x3), some (0, x4), some (0, x5), some (0, x6), some (0, x7)] [] G R V
        refine wp_ld (i := (.iload 5)) (0, x5) rfl rfl (fun _ => rfl) rfl rfl (?_ : wpv K_X8_find d P 95 [some (4, (p0 : Int)), some (0, x1), some (0, x2), some (0, x3), some (0, x4), some (0, x5), some (0, x6), some (0, x7)] [(0, x5)] G R V)
        refine wp_p (i := (.iconst 1)) rfl rfl (fun _ _ _ => rfl) (?_ : wpv K_X8_find d P 96 [some (4, (p0 : Int)), some (0, x1), some (0, x2), some (0, x3), some (0, x4), some (0, x5), some (0, x6), some (0, x7)] [(0, 1), (0, x5)] G R V)
        obtain ⟨s7, w⟩ := w
        refine wp_xadd rfl rfl s7 (?_ : wpv K_X8_find d P 97 [some (4, (p0 : Int)), some (0, x1), some (0, x2), some (0, x3), some (0, x4), some (0, x5), some (0, x6), some (0, x7)] [(0, (x5 + 1))] G R V)
        refine wp_sto (i := (.istore_n 3)) _ rfl rfl (fun _ => rfl) rfl rfl rfl ?_
        refine wp_wk (L' := [some (4, (p0 : Int)), some (0, x1), some (0, x2), some (0, (x5 + 1)), some (0, x4), some (0, x5), some (0, x6), some (0, x7)]) (wk_s (wk_s (wk_s (wk_s (wk_s (wk_s (wk_s (wk_s wk_0)))))))) ?_
        show wpv K_X8_find d P 98 [some (4, (p0 : Int)), some (0, x1), some (0, x2), some (0, (x5 + 1)), some (0, x4), some (0, x5), some (0, x6), some (0, x7)] [] G R V
        refine wp_go 105 rfl rfl rfl (?_ : wpv K_X8_find d P 105 [some (4, (p0 : Int)), some (0, x1), some (0, x2), some (0, (x5 + 1)), some (0, x4), some (0, x5), some (0, x6), some (0, x7)] [] G R V)
        refine wp_go 10 rfl rfl rfl (?_ : wpv K_X8_find d P 10 [some (4, (p0 : Int)), some (0, x1), some (0, x2), some (0, (x5 + 1)), some (0, x4), some (0, x5), some (0, x6), some (0, x7)] [] G R V)
        exact wp_wk (wk_s (wk_s (wk_s (wk_s (wk_s wk_0))))) w
    · have q : x6 = 0 := Decidable.not_not.mp q
      replace w := w.2 q
      show wpv K_X8_find d P 44 [some (4, (p0 : Int)), some (0, x1), some (0, x2), some (0, x3), some (0, x4), some (0, x5), some (0, x6), some (0, x7)] [] G R V
      refine wp_ld (i := (.aload_n 0)) (4, (p0 : Int)) rfl rfl (fun _ => rfl) rfl rfl (?_ : wpv K_X8_find d P 45 [some (4, (p0 : Int)), some (0, x1), some (0, x2), some (0, x3), some (0, x4), some (0, x5), some (0, x6), some (0, x7)] [(4, (p0 : Int))] G R V)
      refine wp_getA (k := 6) rfl rfl rfl (ly8_o l0) rfl rfl (ly8_6 l0).1 (?_ : wpv K_X8_find d P 48 [some (4, (p0 : Int)), some (0, x1), some (0, x2), some (0, x3), some (0, x4), some (0, x5), some (0, x6), some (0, x7)] [(4, ((p0 + 4 : Nat) : Int))] G R V)
      refine wp_p (i := (.bipush 8)) rfl rfl (fun _ _ _ => rfl) (?_ : wpv K_X8_find d P 50 [some (4, (p0 : Int)), some (0, x1), some (0, x2), some (0, x3), some (0, x4), some (0, x5), some (0, x6), some (0, x7)] [(0, 8), (4, ((p0 + 4 : Nat) : Int))] G R V)
      refine wp_ld (i := (.iload 5)) (0, x5) rfl rfl (fun _ => rfl) rfl rfl (?_ : wpv K_X8_find d P 52 [some (4, (p0 : Int)), some (0, x1), some (0, x2), some (0, x3), some (0, x4), some (0, x5), some (0, x6), some (0, x7)] [(0, x5), (0, 8), (4, ((p0 + 4 : Nat) : Int))] G R V)
      obtain ⟨s8, w⟩ := w
      refine wp_xmul rfl rfl s8 (?_ : wpv K_X8_find d P 53 [some (4, (p0 : Int)), some (0, x1), some (0, x2), some (0, x3), some (0, x4), some (0, x5), some (0, x6), some (0, x7)] [(0, (8 * x5)), (4, ((p0 + 4 : Nat) : Int))] G R V)
      refine wp_ld (i := (.iload 7)) (0, x7) rfl rfl (fun _ => rfl) rfl rfl (?_ : wpv K_X8_find d P 55 [some (4, (p0 : Int)), some (0, x1), some (0, x2), some (0, x3), some (0, x4), some (0, x5), some (0, x6), some (0, x7)] [(0, x7), (0, (8 * x5)), (4, ((p0 + 4 : Nat) : Int))] G R V)
      obtain ⟨s9, w⟩ := w
      refine wp_xadd rfl rfl s9 (?_ : wpv K_X8_find d P 56 [some (4, (p0 : Int)), some (0, x1), some (0, x2), some (0, x3), some (0, x4), some (0, x5), some (0, x6), some (0, x7)] [(0, ((8 * x5) + x7)), (4, ((p0 + 4 : Nat) : Int))] G R V)
      obtain ⟨s10, w⟩ := w
      have f11 : i32 (V (p0 + 4) (((8 * x5) + x7))) := vr_a0 vr1 (ly8_6 l0).2 s10
      replace w := w f11
      refine wp_aI rfl rfl (ly8_6 l0).2 s10 (?_ : wpv K_X8_find d P 57 [some (4, (p0 : Int)), some (0, x1), some (0, x2), some (0, x3), some (0, x4), some (0, x5), some (0, x6), some (0, x7)] [(0, (V (p0 + 4) (((8 * x5) + x7))))] G R V)
      refine wp_ld (i := (.aload_n 0)) (4, (p0 : Int)) rfl rfl (fun _ => rfl) rfl rfl (?_ : wpv K_X8_find d P 58 [some (4, (p0 : Int)), some (0, x1), some (0, x2), some (0, x3), some (0, x4), some (0, x5), some (0, x6), some (0, x7)] [(4, (p0 : Int)), (0, (V (p0 + 4) (((8 * x5) + x7))))] G R V)
      refine wp_getA (k := 6) rfl rfl rfl (ly8_o l0) rfl rfl (ly8_6 l0).1 (?_ : wpv K_X8_find d P 61 [some (4, (p0 : Int)), some (0, x1), some (0, x2), some (0, x3), some (0, x4), some (0, x5), some (0, x6), some (0, x7)] [(4, ((p0 + 4 : Nat) : Int)), (0, (V (p0 + 4) (((8 * x5) + x7))))] G R V)
      refine wp_p (i := (.bipush 8)) rfl rfl (fun _ _ _ => rfl) (?_ : wpv K_X8_find d P 63 [some (4, (p0 : Int)), some (0, x1), some (0, x2), some (0, x3), some (0, x4), some (0, x5), some (0, x6), some (0, x7)] [(0, 8), (4, ((p0 + 4 : Nat) : Int)), (0, (V (p0 + 4) (((8 * x5) + x7))))] G R V)
      refine wp_ld (i := (.iload_n 2)) (0, x2) rfl rfl (fun _ => rfl) rfl rfl (?_ : wpv K_X8_find d P 64 [some (4, (p0 : Int)), some (0, x1), some (0, x2), some (0, x3), some (0, x4), some (0, x5), some (0, x6), some (0, x7)] [(0, x2), (0, 8), (4, ((p0 + 4 : Nat) : Int)), (0, (V (p0 + 4) (((8 * x5) + x7))))] G R V)
      obtain ⟨s12, w⟩ := w
      refine wp_xmul rfl rfl s12 (?_ : wpv K_X8_find d P 65 [some (4, (p0 : Int)), some (0, x1), some (0, x2), some (0, x3), some (0, x4), some (0, x5), some (0, x6), some (0, x7)] [(0, (8 * x2)), (4, ((p0 + 4 : Nat) : Int)), (0, (V (p0 + 4) (((8 * x5) + x7))))] G R V)
      refine wp_ld (i := (.aload_n 0)) (4, (p0 : Int)) rfl rfl (fun _ => rfl) rfl rfl (?_ : wpv K_X8_find d P 66 [some (4, (p0 : Int)), some (0, x1), some (0, x2), some (0, x3), some (0, x4), some (0, x5), some (0, x6), some (0, x7)] [(4, (p0 : Int)), (0, (8 * x2)), (4, ((p0 + 4 : Nat) : Int)), (0, (V (p0 + 4) (((8 * x5) + x7))))] G R V)
      refine wp_getA (k := 6) rfl rfl rfl (ly8_o l0) rfl rfl (ly8_6 l0).1 (?_ : wpv K_X8_find d P 69 [some (4, (p0 : Int)), some (0, x1), some (0, x2), some (0, x3), some (0, x4), some (0, x5), some (0, x6), some (0, x7)] [(4, ((p0 + 4 : Nat) : Int)), (0, (8 * x2)), (4, ((p0 + 4 : Nat) : Int)), (0, (V (p0 + 4) (((8 * x5) + x7))))] G R V)
      refine wp_p (i := (.bipush 8)) rfl rfl (fun _ _ _ => rfl) (?_ : wpv K_X8_find d P 71 [some (4, (p0 : Int)), some (0, x1), some (0, x2), some (0, x3), some (0, x4), some (0, x5), some (0, x6), some (0, x7)] [(0, 8), (4, ((p0 + 4 : Nat) : Int)), (0, (8 * x2)), (4, ((p0 + 4 : Nat) : Int)), (0, (V (p0 + 4) (((8 * x5) + x7))))] G R V)
      refine wp_ld (i := (.iload_n 1)) (0, x1) rfl rfl (fun _ => rfl) rfl rfl (?_ : wpv K_X8_find d P 72 [some (4, (p0 : Int)), some (0, x1), some (0, x2), some (0, x3), some (0, x4), some (0, x5), some (0, x6), some (0, x7)] [(0, x1), (0, 8), (4, ((p0 + 4 : Nat) : Int)), (0, (8 * x2)), (4, ((p0 + 4 : Nat) : Int)), (0, (V (p0 + 4) (((8 * x5) + x7))))] G R V)
      obtain ⟨s13, w⟩ := w
      refine wp_xmul rfl rfl s13 (?_ : wpv K_X8_find d P 73 [some (4, (p0 : Int)), some (0, x1), some (0, x2), some (0, x3), some (0, x4), some (0, x5), some (0, x6), some (0, x7)] [(0, (8 * x1)), (4, ((p0 + 4 : Nat) : Int)), (0, (8 * x2)), (4, ((p0 + 4 : Nat) : Int)), (0, (V (p0 + 4) (((8 * x5) + x7))))] G R V)
      refine wp_ld (i := (.iload 7)) (0, x7) rfl rfl (fun _ => rfl) rfl rfl (?_ : wpv K_X8_find d P 75 [some (4, (p0 : Int)), some (0, x1), some (0, x2), some (0, x3), some (0, x4), some (0, x5), some (0, x6), some (0, x7)] [(0, x7), (0, (8 * x1)), (4, ((p0 + 4 : Nat) : Int)), (0, (8 * x2)), (4, ((p0 + 4 : Nat) : Int)), (0, (V (p0 + 4) (((8 * x5) + x7))))] G R V)
      obtain ⟨s14, w⟩ := w
      refine wp_xadd rfl rfl s14 (?_ : wpv K_X8_find d P 76 [some (4, (p0 : Int)), some (0, x1), some (0, x2), some (0, x3), some (0, x4), some (0, x5), some (0, x6), some (0, x7)] [(0, ((8 * x1) + x7)), (4, ((p0 + 4 : Nat) : Int)), (0, (8 * x2)), (4, ((p0 + 4 : Nat) : Int)), (0, (V (p0 + 4) (((8 * x5) + x7))))] G R V)
      obtain ⟨s15, w⟩ := w
      have f16 : i32 (V (p0 + 4) (((8 * x1) + x7))) := vr_a0 vr1 (ly8_6 l0).2 s15
      replace w := w f16
      refine wp_aI rfl rfl (ly8_6 l0).2 s15 (?_ : wpv K_X8_find d P 77 [some (4, (p0 : Int)), some (0, x1), some (0, x2), some (0, x3), some (0, x4), some (0, x5), some (0, x6), some (0, x7)] [(0, (V (p0 + 4) (((8 * x1) + x7)))), (0, (8 * x2)), (4, ((p0 + 4 : Nat) : Int)), (0, (V (p0 + 4) (((8 * x5) + x7))))] G R V)
      obtain ⟨s17, w⟩ := w
      refine wp_xadd rfl rfl s17 (?_ : wpv K_X8_find d P 78 [some (4, (p0 : Int)), some (0, x1), some (0, x2), some (0, x3), some (0, x4), some (0, x5), some (0, x6), some (0, x7)] [(0, ((8 * x2) + (V (p0 + 4) (((8 * x1) + x7))))), (4, ((p0 + 4 : Nat) : Int)), (0, (V (p0 + 4) (((8 * x5) + x7))))] G R V)
      obtain ⟨s18, w⟩ := w
      have f19 : i32 (V (p0 + 4) (((8 * x2) + (V (p0 + 4) (((8 * x1) + x7)))))) := vr_a0 vr1 (ly8_6 l0).2 s18
      replace w := w f19
      refine wp_aI rfl rfl (ly8_6 l0).2 s18 (?_ : wpv K_X8_find d P 79 [some (4, (p0 : Int)), some (0, x1), some (0, x2), some (0, x3), some (0, x4), some (0, x5), some (0, x6), some (0, x7)] [(0, (V (p0 + 4) (((8 * x2) + (V (p0 + 4) (((8 * x1) + x7))))))), (0, (V (p0 + 4) (((8 * x5) + x7))))] G R V)
      obtain ⟨s20, w⟩ := w
      refine wp_xsub rfl rfl s20 (?_ : wpv K_X8_find d P 80 [some (4, (p0 : Int)), some (0, x1), some (0, x2), some (0, x3), some (0, x4), some (0, x5), some (0, x6), some (0, x7)] [(0, ((V (p0 + 4) (((8 * x5) + x7))) - (V (p0 + 4) (((8 * x2) + (V (p0 + 4) (((8 * x1) + x7))))))))] G R V)
      refine wp_sto (i := (.istore 6)) _ rfl rfl (fun _ => rfl) rfl rfl rfl ?_
      refine wp_wk (L' := [some (4, (p0 : Int)), some (0, x1), some (0, x2), some (0, x3), some (0, x4), some (0, x5), some (0, ((V (p0 + 4) (((8 * x5) + x7))) - (V (p0 + 4) (((8 * x2) + (V (p0 + 4) (((8 * x1) + x7)))))))), some (0, x7)]) (wk_s (wk_s (wk_s (wk_s (wk_s (wk_s (wk_s (wk_s wk_0)))))))) ?_
      show wpv K_X8_find d P 82 [some (4, (p0 : Int)), some (0, x1), some (0, x2), some (0, x3), some (0, x4), some (0, x5), some (0, ((V (p0 + 4) (((8 * x5) + x7))) - (V (p0 + 4) (((8 * x2) + (V (p0 + 4) (((8 * x1) + x7)))))))), some (0, x7)] [] G R V
      obtain ⟨s21, w⟩ := w
      refine wp_inc (x := 7) (k := 1) (a := x7) (c := (x7 + 1)) _ rfl rfl rfl rfl s21 (by omega) rfl ?_
      show wpv K_X8_find d P 85 [some (4, (p0 : Int)), some (0, x1), some (0, x2), some (0, x3), some (0, x4), some (0, x5), some (0, ((V (p0 + 4) (((8 * x5) + x7))) - (V (p0 + 4) (((8 * x2) + (V (p0 + 4) (((8 * x1) + x7)))))))), some (0, (x7 + 1))] [] G R V
      refine wp_go 30 rfl rfl rfl (?_ : wpv K_X8_find d P 30 [some (4, (p0 : Int)), some (0, x1), some (0, x2), some (0, x3), some (0, x4), some (0, x5), some (0, ((V (p0 + 4) (((8 * x5) + x7))) - (V (p0 + 4) (((8 * x2) + (V (p0 + 4) (((8 * x1) + x7)))))))), some (0, (x7 + 1))] [] G R V)
      exact wp_wk (wk_s (wk_s (wk_s (wk_s (wk_s (wk_s (wk_s (wk_s wk_0)))))))) w
theorem t_X8_closes_0 {d : Nat} {P : gP} {p0 : Nat} {x1 : Int} {G : List gS} {R V : gV} (l0 : lay8 G R p0) (w : wpv K_X8_closes d P 2 [some (4, (p0 : Int)), some (0, x1), some (0, 0)] [] G R V) : wpv K_X8_closes d P 0 [some (4, (p0 : Int)), some (0, x1)] [] G R V := by
  refine wp_p (i := (.iconst 0)) rfl rfl (fun _ _ _ => rfl) (?_ : wpv K_X8_closes d P 1 [some (4, (p0 : Int)), some (0, x1)] [(0, 0)] G R V)
  refine wp_sto (i := (.istore_n 2)) _ rfl rfl (fun _ => rfl) rfl rfl rfl ?_
  refine wp_wk (L' := [some (4, (p0 : Int)), some (0, x1), some (0, 0)]) (wk_s (wk_s (wk_s wk_0))) ?_
  show wpv K_X8_closes d P 2 [some (4, (p0 : Int)), some (0, x1), some (0, 0)] [] G R V
  exact wp_wk (wk_s (wk_s (wk_s wk_0))) w

theorem t_X8_closes_2 {d : Nat} {P : gP} {p0 : Nat} {x1 : Int} {x2 : Int} {G : List gS} {R V : gV} (l0 : lay8 G R p0) (w : ((i32 (V p0 5)) → ((i32 x2) ∧ (((¬ x2 < (V p0 5)) → ((i32 (120 * x1)) ∧ ((0 ≤ (120 * x1) ∧ (120 * x1) < 36120) ∧ wpv K_X8_closes d P 49 [some (4, (p0 : Int)), some (0, x1), some (0, 1), some (0, 0)] [] G R (wr (wr V (p0 + 19) 0 0) (p0 + 9) ((120 * x1)) 1)))) ∧ ((x2 < (V p0 5)) → ((i32 (120 * x1)) ∧ ((i32 ((120 * x1) + x2)) ∧ ((0 ≤ ((120 * x1) + x2) ∧ ((120 * x1) + x2) < 36120) ∧ ((i32 (x2 + 1)) ∧ wpv K_X8_closes d P 2 [some (4, (p0 : Int)), some (0, x1), some (0, (x2 + 1))] [] G R (wr V (p0 + 9) (((120 * x1) + x2)) 0)))))))))) : wpv K_X8_closes d P 2 [some (4, (p0 : Int)), some (0, x1), some (0, x2)] [] G R V := by
  refine wp_ld (i := (.iload_n 2)) (0, x2) rfl rfl (fun _ => rfl) rfl rfl (?_ : wpv K_X8_closes d P 3 [some (4, (p0 : Int)), some (0, x1), some (0, x2)] [(0, x2)] G R V)
  refine wp_ld (i := (.aload_n 0)) (4, (p0 : Int)) rfl rfl (fun _ => rfl) rfl rfl (?_ : wpv K_X8_closes d P 4 [some (4, (p0 : Int)), some (0, x1), some (0, x2)] [(4, (p0 : Int)), (0, x2)] G R V)
  refine wp_rng (fun vr1 => ?_)
  have f2 : i32 (V p0 5) := vr_f0 vr1 (ly8_o l0) rfl rfl
  replace w := w f2
  refine wp_getI (k := 5) rfl rfl rfl (ly8_o l0) rfl rfl (?_ : wpv K_X8_closes d P 7 [some (4, (p0 : Int)), some (0, x1), some (0, x2)] [(0, (V p0 5)), (0, x2)] G R V)
  obtain ⟨s3, w⟩ := w
  refine wp_icmp (c := .ge) 28 rfl rfl rfl s3 f2 (fun q => ?_) (fun q => ?_)
  · have q : ¬ x2 < (V p0 5) := q
    replace w := w.1 q
    show wpv K_X8_closes d P 28 [some (4, (p0 : Int)), some (0, x1), some (0, x2)] [] G R V
    refine wp_ld (i := (.aload_n 0)) (4, (p0 : Int)) rfl rfl (fun _ => rfl) rfl rfl (?_ : wpv K_X8_closes d P 29 [some (4, (p0 : Int)), some (0, x1), some (0, x2)] [(4, (p0 : Int))] G R V)
    refine wp_getA (k := 24) rfl rfl rfl (ly8_o l0) rfl rfl (ly8_24 l0).1 (?_ : wpv K_X8_closes d P 32 [some (4, (p0 : Int)), some (0, x1), some (0, x2)] [(4, ((p0 + 19 : Nat) : Int))] G R V)
    refine wp_p (i := (.iconst 0)) rfl rfl (fun _ _ _ => rfl) (?_ : wpv K_X8_closes d P 33 [some (4, (p0 : Int)), some (0, x1), some (0, x2)] [(0, 0), (4, ((p0 + 19 : Nat) : Int))] G R V)
    refine wp_p (i := (.iconst 0)) rfl rfl (fun _ _ _ => rfl) (?_ : wpv K_X8_closes d P 34 [some (4, (p0 : Int)), some (0, x1), some (0, x2)] [(0, 0), (0, 0), (4, ((p0 + 19 : Nat) : Int))] G R V)
    refine wp_sI rfl rfl (ly8_24 l0).2 ⟨by omega, by omega⟩ ⟨by omega, by omega⟩ (?_ : wpv K_X8_closes d P 35 [some (4, (p0 : Int)), some (0, x1), some (0, x2)] [] G R (wr V (p0 + 19) 0 0))
    refine wp_ld (i := (.aload_n 0)) (4, (p0 : Int)) rfl rfl (fun _ => rfl) rfl rfl (?_ : wpv K_X8_closes d P 36 [some (4, (p0 : Int)), some (0, x1), some (0, x2)] [(4, (p0 : Int))] G R (wr V (p0 + 19) 0 0))
    refine wp_getA (k := 14) rfl rfl rfl (ly8_o l0) rfl rfl (ly8_14 l0).1 (?_ : wpv K_X8_closes d P 39 [some (4, (p0 : Int)), some (0, x1), some (0, x2)] [(4, ((p0 + 9 : Nat) : Int))] G R (wr V (p0 + 19) 0 0))
    refine wp_p (i := (.bipush 120)) rfl rfl (fun _ _ _ => rfl) (?_ : wpv K_X8_closes d P 41 [some (4, (p0 : Int)), some (0, x1), some (0, x2)] [(0, 120), (4, ((p0 + 9 : Nat) : Int))] G R (wr V (p0 + 19) 0 0))
    refine wp_ld (i := (.iload_n 1)) (0, x1) rfl rfl (fun _ => rfl) rfl rfl (?_ : wpv K_X8_closes d P 42 [some (4, (p0 : Int)), some (0, x1), some (0, x2)] [(0, x1), (0, 120), (4, ((p0 + 9 : Nat) : Int))] G R (wr V (p0 + 19) 0 0))
    obtain ⟨s4, w⟩ := w
    refine wp_xmul rfl rfl s4 (?_ : wpv K_X8_closes d P 43 [some (4, (p0 : Int)), some (0, x1), some (0, x2)] [(0, (120 * x1)), (4, ((p0 + 9 : Nat) : Int))] G R (wr V (p0 + 19) 0 0))
    refine wp_p (i := (.iconst 1)) rfl rfl (fun _ _ _ => rfl) (?_ : wpv K_X8_closes d P 44 [some (4, (p0 : Int)), some (0, x1), some (0, x2)] [(0, 1), (0, (120 * x1)), (4, ((p0 + 9 : Nat) : Int))] G R (wr V (p0 + 19) 0 0))
    obtain ⟨s5, w⟩ := w
    refine wp_sB rfl rfl (ly8_14 l0).2 s5 (by omega) (?_ : wpv K_X8_closes d P 45 [some (4, (p0 : Int)), some (0, x1), some (0, x2)] [] G R (wr (wr V (p0 + 19) 0 0) (p0 + 9) ((120 * x1)) 1))
    refine wp_p (i := (.iconst 1)) rfl rfl (fun _ _ _ => rfl) (?_ : wpv K_X8_closes d P 46 [some (4, (p0 : Int)), some (0, x1), some (0, x2)] [(0, 1)] G R (wr (wr V (p0 + 19) 0 0) (p0 + 9) ((120 * x1)) 1))
    refine wp_sto (i := (.istore_n 2)) _ rfl rfl (fun _ => rfl) rfl rfl rfl ?_
    refine wp_wk (L' := [some (4, (p0 : Int)), some (0, x1), some (0, 1)]) (wk_s (wk_s (wk_s wk_0))) ?_
    show wpv K_X8_closes d P 47 [some (4, (p0 : Int)), some (0, x1), some (0, 1)] [] G R (wr (wr V (p0 + 19) 0 0) (p0 + 9) ((120 * x1)) 1)
    refine wp_p (i := (.iconst 0)) rfl rfl (fun _ _ _ => rfl) (?_ : wpv K_X8_closes d P 48 [some (4, (p0 : Int)), some (0, x1), some (0, 1)] [(0, 0)] G R (wr (wr V (p0 + 19) 0 0) (p0 + 9) ((120 * x1)) 1))
    refine wp_sto (i := (.istore_n 3)) _ rfl rfl (fun _ => rfl) rfl rfl rfl ?_
    refine wp_wk (L' := [some (4, (p0 : Int)), some (0, x1), some (0, 1), some (0, 0)]) (wk_s (wk_s (wk_s (wk_s wk_0)))) ?_
    show wpv K_X8_closes d P 49 [some (4, (p0 : Int)), some (0, x1), some (0, 1), some (0, 0)] [] G R (wr (wr V (p0 + 19) 0 0) (p0 + 9) ((120 * x1)) 1)
    exact wp_wk (wk_s (wk_s (wk_s (wk_s wk_0)))) w
  · have q : x2 < (V p0 5) := Decidable.not_not.mp q
    replace w := w.2 q
    show wpv K_X8_closes d P 10 [some (4, (p0 : Int)), some (0, x1), some (0, x2)] [] G R V
    refine wp_ld (i := (.aload_n 0)) (4, (p0 : Int)) rfl rfl (fun _ => rfl) rfl rfl (?_ : wpv K_X8_closes d P 11 [some (4, (p0 : Int)), some (0, x1), some (0, x2)] [(4, (p0 : Int))] G R V)
    refine wp_getA (k := 14) rfl rfl rfl (ly8_o l0) rfl rfl (ly8_14 l0).1 (?_ : wpv K_X8_closes d P 14 [some (4, (p0 : Int)), some (0, x1), some (0, x2)] [(4, ((p0 + 9 : Nat) : Int))] G R V)
    refine wp_p (i := (.bipush 120)) rfl rfl (fun _ _ _ => rfl) (?_ : wpv K_X8_closes d P 16 [some (4, (p0 : Int)), some (0, x1), some (0, x2)] [(0, 120), (4, ((p0 + 9 : Nat) : Int))] G R V)
    refine wp_ld (i := (.iload_n 1)) (0, x1) rfl rfl (fun _ => rfl) rfl rfl (?_ : wpv K_X8_closes d P 17 [some (4, (p0 : Int)), some (0, x1), some (0, x2)] [(0, x1), (0, 120), (4, ((p0 + 9 : Nat) : Int))] G R V)
    obtain ⟨s6, w⟩ := w
    refine wp_xmul rfl rfl s6 (?_ : wpv K_X8_closes d P 18 [some (4, (p0 : Int)), some (0, x1), some (0, x2)] [(0, (120 * x1)), (4, ((p0 + 9 : Nat) : Int))] G R V)
    refine wp_ld (i := (.iload_n 2)) (0, x2) rfl rfl (fun _ => rfl) rfl rfl (?_ : wpv K_X8_closes d P 19 [some (4, (p0 : Int)), some (0, x1), some (0, x2)] [(0, x2), (0, (120 * x1)), (4, ((p0 + 9 : Nat) : Int))] G R V)
    obtain ⟨s7, w⟩ := w
    refine wp_xadd rfl rfl s7 (?_ : wpv K_X8_closes d P 20 [some (4, (p0 : Int)), some (0, x1), some (0, x2)] [(0, ((120 * x1) + x2)), (4, ((p0 + 9 : Nat) : Int))] G R V)
    refine wp_p (i := (.iconst 0)) rfl rfl (fun _ _ _ => rfl) (?_ : wpv K_X8_closes d P 21 [some (4, (p0 : Int)), some (0, x1), some (0, x2)] [(0, 0), (0, ((120 * x1) + x2)), (4, ((p0 + 9 : Nat) : Int))] G R V)
    obtain ⟨s8, w⟩ := w
    refine wp_sB rfl rfl (ly8_14 l0).2 s8 (by omega) (?_ : wpv K_X8_closes d P 22 [some (4, (p0 : Int)), some (0, x1), some (0, x2)] [] G R (wr V (p0 + 9) (((120 * x1) + x2)) 0))
    obtain ⟨s9, w⟩ := w
    refine wp_inc (x := 2) (k := 1) (a := x2) (c := (x2 + 1)) _ rfl rfl rfl rfl s9 (by omega) rfl ?_
    show wpv K_X8_closes d P 25 [some (4, (p0 : Int)), some (0, x1), some (0, (x2 + 1))] [] G R (wr V (p0 + 9) (((120 * x1) + x2)) 0)
    refine wp_go 2 rfl rfl rfl (?_ : wpv K_X8_closes d P 2 [some (4, (p0 : Int)), some (0, x1), some (0, (x2 + 1))] [] G R (wr V (p0 + 9) (((120 * x1) + x2)) 0))
    exact wp_wk (wk_s (wk_s (wk_s wk_0))) w

theorem t_X8_closes_49 {d : Nat} {P : gP} {p0 : Nat} {x1 : Int} {x2 : Int} {x3 : Int} {G : List gS} {R V : gV} (l0 : lay8 G R p0) (w : ((i32 x3) ∧ ((i32 x2) ∧ (((¬ x3 < x2) → ((0 ≤ x1 ∧ x1 < 301) ∧ P none (wr V (p0 + 10) x1 x2))) ∧ ((x3 < x2) → wpv K_X8_closes d P 57 [some (4, (p0 : Int)), some (0, x1), some (0, x2), some (0, x3), some (0, 0)] [] G R V))))) : wpv K_X8_closes d P 49 [some (4, (p0 : Int)), some (0, x1), some (0, x2), some (0, x3)] [] G R V := by
  refine wp_ld (i := (.iload_n 3)) (0, x3) rfl rfl (fun _ => rfl) rfl rfl (?_ : wpv K_X8_closes d P 50 [some (4, (p0 : Int)), some (0, x1), some (0, x2), some (0, x3)] [(0, x3)] G R V)
  refine wp_ld (i := (.iload_n 2)) (0, x2) rfl rfl (fun _ => rfl) rfl rfl (?_ : wpv K_X8_closes d P 51 [some (4, (p0 : Int)), some (0, x1), some (0, x2), some (0, x3)] [(0, x2), (0, x3)] G R V)
  obtain ⟨s1, w⟩ := w
  obtain ⟨s2, w⟩ := w
  refine wp_icmp (c := .ge) 151 rfl rfl rfl s1 s2 (fun q => ?_) (fun q => ?_)
  · have q : ¬ x3 < x2 := q
    replace w := w.1 q
    show wpv K_X8_closes d P 151 [some (4, (p0 : Int)), some (0, x1), some (0, x2), some (0, x3)] [] G R V
    refine wp_ld (i := (.aload_n 0)) (4, (p0 : Int)) rfl rfl (fun _ => rfl) rfl rfl (?_ : wpv K_X8_closes d P 152 [some (4, (p0 : Int)), some (0, x1), some (0, x2), some (0, x3)] [(4, (p0 : Int))] G R V)
    refine wp_getA (k := 15) rfl rfl rfl (ly8_o l0) rfl rfl (ly8_15 l0).1 (?_ : wpv K_X8_closes d P 155 [some (4, (p0 : Int)), some (0, x1), some (0, x2), some (0, x3)] [(4, ((p0 + 10 : Nat) : Int))] G R V)
    refine wp_ld (i := (.iload_n 1)) (0, x1) rfl rfl (fun _ => rfl) rfl rfl (?_ : wpv K_X8_closes d P 156 [some (4, (p0 : Int)), some (0, x1), some (0, x2), some (0, x3)] [(0, x1), (4, ((p0 + 10 : Nat) : Int))] G R V)
    refine wp_ld (i := (.iload_n 2)) (0, x2) rfl rfl (fun _ => rfl) rfl rfl (?_ : wpv K_X8_closes d P 157 [some (4, (p0 : Int)), some (0, x1), some (0, x2), some (0, x3)] [(0, x2), (0, x1), (4, ((p0 + 10 : Nat) : Int))] G R V)
    obtain ⟨s3, w⟩ := w
    refine wp_sI rfl rfl (ly8_15 l0).2 s3 s2 (?_ : wpv K_X8_closes d P 158 [some (4, (p0 : Int)), some (0, x1), some (0, x2), some (0, x3)] [] G R (wr V (p0 + 10) x1 x2))
    exact wp_r0 rfl rfl rfl w
  · have q : x3 < x2 := Decidable.not_not.mp q
    replace w := w.2 q
    show wpv K_X8_closes d P 54 [some (4, (p0 : Int)), some (0, x1), some (0, x2), some (0, x3)] [] G R V
    refine wp_p (i := (.iconst 0)) rfl rfl (fun _ _ _ => rfl) (?_ : wpv K_X8_closes d P 55 [some (4, (p0 : Int)), some (0, x1), some (0, x2), some (0, x3)] [(0, 0)] G R V)
    refine wp_sto (i := (.istore 4)) _ rfl rfl (fun _ => rfl) rfl rfl rfl ?_
    refine wp_wk (L' := [some (4, (p0 : Int)), some (0, x1), some (0, x2), some (0, x3), some (0, 0)]) (wk_s (wk_s (wk_s (wk_s (wk_s wk_0))))) ?_
    show wpv K_X8_closes d P 57 [some (4, (p0 : Int)), some (0, x1), some (0, x2), some (0, x3), some (0, 0)] [] G R V
    exact wp_wk (wk_s (wk_s (wk_s (wk_s (wk_s wk_0))))) w

theorem t_X8_closes_57 {d : Nat} {P : gP} {p0 : Nat} {x1 : Int} {x2 : Int} {x3 : Int} {x4 : Int} {G : List gS} {R V : gV} (l0 : lay8 G R p0) (w : ((0 ≤ x1 ∧ x1 < 301) ∧ ((i32 (V (p0 + 12) x1)) → ((i32 x4) ∧ (((¬ x4 < (V (p0 + 12) x1)) → ((i32 (x3 + 1)) ∧ wpv K_X8_closes d P 49 [some (4, (p0 : Int)), some (0, x1), some (0, x2), some (0, (x3 + 1))] [] G R V)) ∧ ((x4 < (V (p0 + 12) x1)) → ((0 ≤ x3 ∧ x3 < 120) ∧ ((i32 (V (p0 + 19) x3)) → ((i32 (120 * (V (p0 + 19) x3))) ∧ ((i32 (7 * x1)) ∧ ((i32 ((7 * x1) + x4)) ∧ ((0 ≤ ((7 * x1) + x4) ∧ ((7 * x1) + x4) < 2107) ∧ ((i32 (V (p0 + 11) (((7 * x1) + x4)))) → ((i32 ((120 * (V (p0 + 19) x3)) + (V (p0 + 11) (((7 * x1) + x4))))) ∧ ((0 ≤ ((120 * (V (p0 + 19) x3)) + (V (p0 + 11) (((7 * x1) + x4)))) ∧ ((120 * (V (p0 + 19) x3)) + (V (p0 + 11) (((7 * x1) + x4)))) < 14400) ∧ ((i32 (V (p0 + 5) (((120 * (V (p0 + 19) x3)) + (V (p0 + 11) (((7 * x1) + x4))))))) → ((i32 (120 * x1)) ∧ ((i32 ((120 * x1) + (V (p0 + 5) (((120 * (V (p0 + 19) x3)) + (V (p0 + 11) (((7 * x1) + x4)))))))) ∧ ((0 ≤ ((120 * x1) + (V (p0 + 5) (((120 * (V (p0 + 19) x3)) + (V (p0 + 11) (((7 * x1) + x4))))))) ∧ ((120 * x1) + (V (p0 + 5) (((120 * (V (p0 + 19) x3)) + (V (p0 + 11) (((7 * x1) + x4))))))) < 36120) ∧ (((V (p0 + 9) (((120 * x1) + (V (p0 + 5) (((120 * (V (p0 + 19) x3)) + (V (p0 + 11) (((7 * x1) + x4))))))))) = 0 ∨ (V (p0 + 9) (((120 * x1) + (V (p0 + 5) (((120 * (V (p0 + 19) x3)) + (V (p0 + 11) (((7 * x1) + x4))))))))) = 1) → ((((V (p0 + 9) (((120 * x1) + (V (p0 + 5) (((120 * (V (p0 + 19) x3)) + (V (p0 + 11) (((7 * x1) + x4))))))))) = 0) → ((0 ≤ x2 ∧ x2 < 120) ∧ ((i32 (x2 + 1)) ∧ ((i32 (x4 + 1)) ∧ wpv K_X8_closes d P 57 [some (4, (p0 : Int)), some (0, x1), some (0, (x2 + 1)), some (0, x3), some (0, (x4 + 1))] [] G R (wr (wr V (p0 + 9) (((120 * x1) + (V (p0 + 5) (((120 * (V (p0 + 19) x3)) + (V (p0 + 11) (((7 * x1) + x4)))))))) 1) (p0 + 19) x2 ((V (p0 + 5) (((120 * (V (p0 + 19) x3)) + (V (p0 + 11) (((7 * x1) + x4)))))))))))) ∧ ((¬ (V (p0 + 9) (((120 * x1) + (V (p0 + 5) (((120 * (V (p0 + 19) x3)) + (V (p0 + 11) (((7 * x1) + x4))))))))) = 0) → ((i32 (x4 + 1)) ∧ wpv K_X8_closes d P 57 [some (4, (p0 : Int)), some (0, x1), some (0, x2), some (0, x3), some (0, (x4 + 1))] [] G R V))))))))))))))))))))))) : wpv K_X8_closes d P 57 [some (4, (p0 : Int)), some (0, x1), some (0, x2), some (0, x3), some (0, x4)] [] G R V := by
  refine wp_ld (i := (.iload 4)) (0, x4) rfl rfl (fun _ => rfl) rfl rfl (?_ : wpv K_X8_closes d P 59 [some (4, (p0 : Int)), some (0, x1), some (0, x2), some (0, x3), some (0, x4)] [(0, x4)] G R V)
  refine wp_ld (i := (.aload_n 0)) (4, (p0 : Int)) rfl rfl (fun _ => rfl) rfl rfl (?_ : wpv K_X8_closes d P 60 [some (4, (p0 : Int)), some (0, x1), some (0, x2), some (0, x3), some (0, x4)] [(4, (p0 : Int)), (0, x4)] G R V)
  refine wp_getA (k := 17) rfl rfl rfl (ly8_o l0) rfl rfl (ly8_17 l0).1 (?_ : wpv K_X8_closes d P 63 [some (4, (p0 : Int)), some (0, x1), some (0, x2), some (0, x3), some (0, x4)] [(4, ((p0 + 12 : Nat) : Int)), (0, x4)] G R V)
  refine wp_ld (i := (.iload_n 1)) (0, x1) rfl rfl (fun _ => rfl) rfl rfl (?_ : wpv K_X8_closes d P 64 [some (4, (p0 : Int)), some (0, x1), some (0, x2), some (0, x3), some (0, x4)] [(0, x1), (4, ((p0 + 12 : Nat) : Int)), (0, x4)] G R V)
  obtain ⟨s1, w⟩ := w
  refine wp_rng (fun vr2 => ?_)
  have f3 : i32 (V (p0 + 12) x1) := vr_a0 vr2 (ly8_17 l0).2 s1
  replace w := w f3
  refine wp_aI rfl rfl (ly8_17 l0).2 s1 (?_ : wpv K_X8_closes d P 65 [some (4, (p0 : Int)), some (0, x1), some (0, x2), some (0, x3), some (0, x4)] [(0, (V (p0 + 12) x1)), (0, x4)] G R V)
  obtain ⟨s4, w⟩ := w
  refine wp_icmp (c := .ge) 145 rfl rfl rfl s4 f3 (fun q => ?_) (fun q => ?_)
  · have q : ¬ x4 < (V (p0 + 12) x1) := q
    replace w := w.1 q
    show wpv K_X8_closes d P 145 [some (4, (p0 : Int)), some (0, x1), some (0, x2), some (0, x3), some (0, x4)] [] G R V
    obtain ⟨s5, w⟩ := w
    refine wp_inc (x := 3) (k := 1) (a := x3) (c := (x3 + 1)) _ rfl rfl rfl rfl s5 (by omega) rfl ?_
    show wpv K_X8_closes d P 148 [some (4, (p0 : Int)), some (0, x1), some (0, x2), some (0, (x3 + 1)), some (0, x4)] [] G R V
    refine wp_go 49 rfl rfl rfl (?_ : wpv K_X8_closes d P 49 [some (4, (p0 : Int)), some (0, x1), some (0, x2), some (0, (x3 + 1)), some (0, x4)] [] G R V)
    exact wp_wk (wk_s (wk_s (wk_s (wk_s wk_0)))) w
  · have q : x4 < (V (p0 + 12) x1) := Decidable.not_not.mp q
    replace w := w.2 q
    show wpv K_X8_closes d P 68 [some (4, (p0 : Int)), some (0, x1), some (0, x2), some (0, x3), some (0, x4)] [] G R V
    refine wp_ld (i := (.aload_n 0)) (4, (p0 : Int)) rfl rfl (fun _ => rfl) rfl rfl (?_ : wpv K_X8_closes d P 69 [some (4, (p0 : Int)), some (0, x1), some (0, x2), some (0, x3), some (0, x4)] [(4, (p0 : Int))] G R V)
    refine wp_getA (k := 7) rfl rfl rfl (ly8_o l0) rfl rfl (ly8_7 l0).1 (?_ : wpv K_X8_closes d P 72 [some (4, (p0 : Int)), some (0, x1), some (0, x2), some (0, x3), some (0, x4)] [(4, ((p0 + 5 : Nat) : Int))] G R V)
    refine wp_p (i := (.bipush 120)) rfl rfl (fun _ _ _ => rfl) (?_ : wpv K_X8_closes d P 74 [some (4, (p0 : Int)), some (0, x1), some (0, x2), some (0, x3), some (0, x4)] [(0, 120), (4, ((p0 + 5 : Nat) : Int))] G R V)
    refine wp_ld (i := (.aload_n 0)) (4, (p0 : Int)) rfl rfl (fun _ => rfl) rfl rfl (?_ : wpv K_X8_closes d P 75 [some (4, (p0 : Int)), some (0, x1), some (0, x2), some (0, x3), some (0, x4)] [(4, (p0 : Int)), (0, 120), (4, ((p0 + 5 : Nat) : Int))] G R V)
    refine wp_getA (k := 24) rfl rfl rfl (ly8_o l0) rfl rfl (ly8_24 l0).1 (?_ : wpv K_X8_closes d P 78 [some (4, (p0 : Int)), some (0, x1), some (0, x2), some (0, x3), some (0, x4)] [(4, ((p0 + 19 : Nat) : Int)), (0, 120), (4, ((p0 + 5 : Nat) : Int))] G R V)
    refine wp_ld (i := (.iload_n 3)) (0, x3) rfl rfl (fun _ => rfl) rfl rfl (?_ : wpv K_X8_closes d P 79 [some (4, (p0 : Int)), some (0, x1), some (0, x2), some (0, x3), some (0, x4)] [(0, x3), (4, ((p0 + 19 : Nat) : Int)), (0, 120), (4, ((p0 + 5 : Nat) : Int))] G R V)
    obtain ⟨s6, w⟩ := w
    have f7 : i32 (V (p0 + 19) x3) := vr_a0 vr2 (ly8_24 l0).2 s6
    replace w := w f7
    refine wp_aI rfl rfl (ly8_24 l0).2 s6 (?_ : wpv K_X8_closes d P 80 [some (4, (p0 : Int)), some (0, x1), some (0, x2), some (0, x3), some (0, x4)] [(0, (V (p0 + 19) x3)), (0, 120), (4, ((p0 + 5 : Nat) : Int))] G R V)
    obtain ⟨s8, w⟩ := w
    refine wp_xmul rfl rfl s8 (?_ : wpv K_X8_closes d P 81 [some (4, (p0 : Int)), some (0, x1), some (0, x2), some (0, x3), some (0, x4)] [(0, (120 * (V (p0 + 19) x3))), (4, ((p0 + 5 : Nat) : Int))] G R V)
    refine wp_ld (i := (.aload_n 0)) (4, (p0 : Int)) rfl rfl (fun _ => rfl) rfl rfl (?_ : wpv K_X8_closes d P 82 [some (4, (p0 : Int)), some (0, x1), some (0, x2), some (0, x3), some (0, x4)] [(4, (p0 : Int)), (0, (120 * (V (p0 + 19) x3))), (4, ((p0 + 5 : Nat) : Int))] G R V)
    refine wp_getA (k := 16) rfl rfl rfl (ly8_o l0) rfl rfl (ly8_16 l0).1 (?_ : wpv K_X8_closes d P 85 [some (4, (p0 : Int)), some (0, x1), some (0, x2), some (0, x3), some (0, x4)] [(4, ((p0 + 11 : Nat) : Int)), (0, (120 * (V (p0 + 19) x3))), (4, ((p0 + 5 : Nat) : Int))] G R V)
    refine wp_p (i := (.bipush 7)) rfl rfl (fun _ _ _ => rfl) (?_ : wpv K_X8_closes d P 87 [some (4, (p0 : Int)), some (0, x1), some (0, x2), some (0, x3), some (0, x4)] [(0, 7), (4, ((p0 + 11 : Nat) : Int)), (0, (120 * (V (p0 + 19) x3))), (4, ((p0 + 5 : Nat) : Int))] G R V)
    refine wp_ld (i := (.iload_n 1)) (0, x1) rfl rfl (fun _ => rfl) rfl rfl (?_ : wpv K_X8_closes d P 88 [some (4, (p0 : Int)), some (0, x1), some (0, x2), some (0, x3), some (0, x4)] [(0, x1), (0, 7), (4, ((p0 + 11 : Nat) : Int)), (0, (120 * (V (p0 + 19) x3))), (4, ((p0 + 5 : Nat) : Int))] G R V)
    obtain ⟨s9, w⟩ := w
    refine wp_xmul rfl rfl s9 (?_ : wpv K_X8_closes d P 89 [some (4, (p0 : Int)), some (0, x1), some (0, x2), some (0, x3), some (0, x4)] [(0, (7 * x1)), (4, ((p0 + 11 : Nat) : Int)), (0, (120 * (V (p0 + 19) x3))), (4, ((p0 + 5 : Nat) : Int))] G R V)
    refine wp_ld (i := (.iload 4)) (0, x4) rfl rfl (fun _ => rfl) rfl rfl (?_ : wpv K_X8_closes d P 91 [some (4, (p0 : Int)), some (0, x1), some (0, x2), some (0, x3), some (0, x4)] [(0, x4), (0, (7 * x1)), (4, ((p0 + 11 : Nat) : Int)), (0, (120 * (V (p0 + 19) x3))), (4, ((p0 + 5 : Nat) : Int))] G R V)
    obtain ⟨s10, w⟩ := w
    refine wp_xadd rfl rfl s10 (?_ : wpv K_X8_closes d P 92 [some (4, (p0 : Int)), some (0, x1), some (0, x2), some (0, x3), some (0, x4)] [(0, ((7 * x1) + x4)), (4, ((p0 + 11 : Nat) : Int)), (0, (120 * (V (p0 + 19) x3))), (4, ((p0 + 5 : Nat) : Int))] G R V)
    obtain ⟨s11, w⟩ := w
    have f12 : i32 (V (p0 + 11) (((7 * x1) + x4))) := vr_a0 vr2 (ly8_16 l0).2 s11
    replace w := w f12
    refine wp_aI rfl rfl (ly8_16 l0).2 s11 (?_ : wpv K_X8_closes d P 93 [some (4, (p0 : Int)), some (0, x1), some (0, x2), some (0, x3), some (0, x4)] [(0, (V (p0 + 11) (((7 * x1) + x4)))), (0, (120 * (V (p0 + 19) x3))), (4, ((p0 + 5 : Nat) : Int))] G R V)
    obtain ⟨s13, w⟩ := w
    refine wp_xadd rfl rfl s13 (?_ : wpv K_X8_closes d P 94 [some (4, (p0 : Int)), some (0, x1), some (0, x2), some (0, x3), some (0, x4)] [(0, ((120 * (V (p0 + 19) x3)) + (V (p0 + 11) (((7 * x1) + x4))))), (4, ((p0 + 5 : Nat) : Int))] G R V)
    obtain ⟨s14, w⟩ := w
    have f15 : i32 (V (p0 + 5) (((120 * (V (p0 + 19) x3)) + (V (p0 + 11) (((7 * x1) + x4)))))) := vr_a0 vr2 (ly8_7 l0).2 s14
    replace w := w f15
    refine wp_aI rfl rfl (ly8_7 l0).2 s14 (?_ : wpv K_X8_closes d P 95 [some (4, (p0 : Int)), some (0, x1), some (0, x2), some (0, x3), some (0, x4)] [(0, (V (p0 + 5) (((120 * (V (p0 + 19) x3)) + (V (p0 + 11) (((7 * x1) + x4)))))))] G R V)
    refine wp_sto (i := (.istore 5)) _ rfl rfl (fun _ => rfl) rfl rfl rfl ?_
    refine wp_wk (L' := [some (4, (p0 : Int)), some (0, x1), some (0, x2), some (0, x3), some (0, x4), some (0, (V (p0 + 5) (((120 * (V (p0 + 19) x3)) + (V (p0 + 11) (((7 * x1) + x4)))))))]) (wk_s (wk_s (wk_s (wk_s (wk_s (wk_s wk_0)))))) ?_
    show wpv K_X8_closes d P 97 [some (4, (p0 : Int)), some (0, x1), some (0, x2), some (0, x3), some (0, x4), some (0, (V (p0 + 5) (((120 * (V (p0 + 19) x3)) + (V (p0 + 11) (((7 * x1) + x4)))))))] [] G R V
    refine wp_ld (i := (.aload_n 0)) (4, (p0 : Int)) rfl rfl (fun _ => rfl) rfl rfl (?_ : wpv K_X8_closes d P 98 [some (4, (p0 : Int)), some (0, x1), some (0, x2), some (0, x3), some (0, x4), some (0, (V (p0 + 5) (((120 * (V (p0 + 19) x3)) + (V (p0 + 11) (((7 * x1) + x4)))))))] [(4, (p0 : Int))] G R V)
    refine wp_getA (k := 14) rfl rfl rfl (ly8_o l0) rfl rfl (ly8_14 l0).1 (?_ : wpv K_X8_closes d P 101 [some (4, (p0 : Int)), some (0, x1), some (0, x2), some (0, x3), some (0, x4), some (0, (V (p0 + 5) (((120 * (V (p0 + 19) x3)) + (V (p0 + 11) (((7 * x1) + x4)))))))] [(4, ((p0 + 9 : Nat) : Int))] G R V)
    refine wp_p (i := (.bipush 120)) rfl rfl (fun _ _ _ => rfl) (?_ : wpv K_X8_closes d P 103 [some (4, (p0 : Int)), some (0, x1), some (0, x2), some (0, x3), some (0, x4), some (0, (V (p0 + 5) (((120 * (V (p0 + 19) x3)) + (V (p0 + 11) (((7 * x1) + x4)))))))] [(0, 120), (4, ((p0 + 9 : Nat) : Int))] G R V)
    refine wp_ld (i := (.iload_n 1)) (0, x1) rfl rfl (fun _ => rfl) rfl rfl (?_ : wpv K_X8_closes d P 104 [some (4, (p0 : Int)), some (0, x1), some (0, x2), some (0, x3), some (0, x4), some (0, (V (p0 + 5) (((120 * (V (p0 + 19) x3)) + (V (p0 + 11) (((7 * x1) + x4)))))))] [(0, x1), (0, 120), (4, ((p0 + 9 : Nat) : Int))] G R V)
    obtain ⟨s16, w⟩ := w
    refine wp_xmul rfl rfl s16 (?_ : wpv K_X8_closes d P 105 [some (4, (p0 : Int)), some (0, x1), some (0, x2), some (0, x3), some (0, x4), some (0, (V (p0 + 5) (((120 * (V (p0 + 19) x3)) + (V (p0 + 11) (((7 * x1) + x4)))))))] [(0, (120 * x1)), (4, ((p0 + 9 : Nat) : Int))] G R V)
    refine wp_ld (i := (.iload 5)) (0, (V (p0 + 5) (((120 * (V (p0 + 19) x3)) + (V (p0 + 11) (((7 * x1) + x4))))))) rfl rfl (fun _ => rfl) rfl rfl (?_ : wpv K_X8_closes d P 107 [some (4, (p0 : Int)), some (0, x1), some (0, x2), some (0, x3), some (0, x4), some (0, (V (p0 + 5) (((120 * (V (p0 + 19) x3)) + (V (p0 + 11) (((7 * x1) + x4)))))))] [(0, (V (p0 + 5) (((120 * (V (p0 + 19) x3)) + (V (p0 + 11) (((7 * x1) + x4))))))), (0, (120 * x1)), (4, ((p0 + 9 : Nat) : Int))] G R V)
    obtain ⟨s17, w⟩ := w
    refine wp_xadd rfl rfl s17 (?_ : wpv K_X8_closes d P 108 [some (4, (p0 : Int)), some (0, x1), some (0, x2), some (0, x3), some (0, x4), some (0, (V (p0 + 5) (((120 * (V (p0 + 19) x3)) + (V (p0 + 11) (((7 * x1) + x4)))))))] [(0, ((120 * x1) + (V (p0 + 5) (((120 * (V (p0 + 19) x3)) + (V (p0 + 11) (((7 * x1) + x4)))))))), (4, ((p0 + 9 : Nat) : Int))] G R V)
    obtain ⟨s18, w⟩ := w
    have f19 : (V (p0 + 9) (((120 * x1) + (V (p0 + 5) (((120 * (V (p0 + 19) x3)) + (V (p0 + 11) (((7 * x1) + x4))))))))) = 0 ∨ (V (p0 + 9) (((120 * x1) + (V (p0 + 5) (((120 * (V (p0 + 19) x3)) + (V (p0 + 11) (((7 * x1) + x4))))))))) = 1 := vr_a2 vr2 (ly8_14 l0).2 s18
    replace w := w f19
    have f20 : i32 (V (p0 + 9) (((120 * x1) + (V (p0 + 5) (((120 * (V (p0 + 19) x3)) + (V (p0 + 11) (((7 * x1) + x4))))))))) := by unfold i32; omega
    refine wp_aB rfl rfl (ly8_14 l0).2 s18 (?_ : wpv K_X8_closes d P 109 [some (4, (p0 : Int)), some (0, x1), some (0, x2), some (0, x3), some (0, x4), some (0, (V (p0 + 5) (((120 * (V (p0 + 19) x3)) + (V (p0 + 11) (((7 * x1) + x4)))))))] [(0, (V (p0 + 9) (((120 * x1) + (V (p0 + 5) (((120 * (V (p0 + 19) x3)) + (V (p0 + 11) (((7 * x1) + x4))))))))))] G R V)
    refine wp_if (c := .eq) 115 rfl rfl rfl f20 (fun q => ?_) (fun q => ?_)
    · have q : (V (p0 + 9) (((120 * x1) + (V (p0 + 5) (((120 * (V (p0 + 19) x3)) + (V (p0 + 11) (((7 * x1) + x4))))))))) = 0 := q
      replace w := w.1 q
      show wpv K_X8_closes d P 115 [some (4, (p0 : Int)), some (0, x1), some (0, x2), some (0, x3), some (0, x4), some (0, (V (p0 + 5) (((120 * (V (p0 + 19) x3)) + (V (p0 + 11) (((7 * x1) + x4)))))))] [] G R V
      refine wp_ld (i := (.aload_n 0)) (4, (p0 : Int)) rfl rfl (fun _ => rfl) rfl rfl (?_ : wpv K_X8_closes d P 116 [some (4, (p0 : Int)), some (0, x1), some (0, x2), some (0, x3), some (0, x4), some (0, (V (p0 + 5) (((120 * (V (p0 + 19) x3)) + (V (p0 + 11) (((7 * x1) + x4)))))))] [(4, (p0 : Int))] G R V)
      refine wp_getA (k := 14) rfl rfl rfl (ly8_o l0) rfl rfl (ly8_14 l0).1 (?_ : wpv K_X8_closes d P 119 [some (4, (p0 : Int)), some (0, x1), some (0, x2), some (0, x3), some (0, x4), some (0, (V (p0 + 5) (((120 * (V (p0 + 19) x3)) + (V (p0 + 11) (((7 * x1) + x4)))))))] [(4, ((p0 + 9 : Nat) : Int))] G R V)
      refine wp_p (i := (.bipush 120)) rfl rfl (fun _ _ _ => rfl) (?_ : wpv K_X8_closes d P 121 [some (4, (p0 : Int)), some (0, x1), some (0, x2), some (0, x3), some (0, x4), some (0, (V (p0 + 5) (((120 * (V (p0 + 19) x3)) + (V (p0 + 11) (((7 * x1) + x4)))))))] [(0, 120), (4, ((p0 + 9 : Nat) : Int))] G R V)
      refine wp_ld (i := (.iload_n 1)) (0, x1) rfl rfl (fun _ => rfl) rfl rfl (?_ : wpv K_X8_closes d P 122 [some (4, (p0 : Int)), some (0, x1), some (0, x2), some (0, x3), some (0, x4), some (0, (V (p0 + 5) (((120 * (V (p0 + 19) x3)) + (V (p0 + 11) (((7 * x1) + x4)))))))] [(0, x1), (0, 120), (4, ((p0 + 9 : Nat) : Int))] G R V)
      refine wp_xmul rfl rfl s16 (?_ : wpv K_X8_closes d P 123 [some (4, (p0 : Int)), some (0, x1), some (0, x2), some (0, x3), some (0, x4), some (0, (V (p0 + 5) (((120 * (V (p0 + 19) x3)) + (V (p0 + 11) (((7 * x1) + x4)))))))] [(0, (120 * x1)), (4, ((p0 + 9 : Nat) : Int))] G R V)
      refine wp_ld (i := (.iload 5)) (0, (V (p0 + 5) (((120 * (V (p0 + 19) x3)) + (V (p0 + 11) (((7 * x1) + x4))))))) rfl rfl (fun _ => rfl) rfl rfl (?_ : wpv K_X8_closes d P 125 [some (4, (p0 : Int)), some (0, x1), some (0, x2), some (0, x3), some (0, x4), some (0, (V (p0 + 5) (((120 * (V (p0 + 19) x3)) + (V (p0 + 11) (((7 * x1) + x4)))))))] [(0, (V (p0 + 5) (((120 * (V (p0 + 19) x3)) + (V (p0 + 11) (((7 * x1) + x4))))))), (0, (120 * x1)), (4, ((p0 + 9 : Nat) : Int))] G R V)
      refine wp_xadd rfl rfl s17 (?_ : wpv K_X8_closes d P 126 [some (4, (p0 : Int)), some (0, x1), some (0, x2), some (0, x3), some (0, x4), some (0, (V (p0 + 5) (((120 * (V (p0 + 19) x3)) + (V (p0 + 11) (((7 * x1) + x4)))))))] [(0, ((120 * x1) + (V (p0 + 5) (((120 * (V (p0 + 19) x3)) + (V (p0 + 11) (((7 * x1) + x4)))))))), (4, ((p0 + 9 : Nat) : Int))] G R V)
      refine wp_p (i := (.iconst 1)) rfl rfl (fun _ _ _ => rfl) (?_ : wpv K_X8_closes d P 127 [some (4, (p0 : Int)), some (0, x1), some (0, x2), some (0, x3), some (0, x4), some (0, (V (p0 + 5) (((120 * (V (p0 + 19) x3)) + (V (p0 + 11) (((7 * x1) + x4)))))))] [(0, 1), (0, ((120 * x1) + (V (p0 + 5) (((120 * (V (p0 + 19) x3)) + (V (p0 + 11) (((7 * x1) + x4)))))))), (4, ((p0 + 9 : Nat) : Int))] G R V)
      refine wp_sB rfl rfl (ly8_14 l0).2 s18 (by omega) (?_ : wpv K_X8_closes d P 128 [some (4, (p0 : Int)), some (0, x1), some (0, x2), some (0, x3), some (0, x4), some (0, (V (p0 + 5) (((120 * (V (p0 + 19) x3)) + (V (p0 + 11) (((7 * x1) + x4)))))))] [] G R (wr V (p0 + 9) (((120 * x1) + (V (p0 + 5) (((120 * (V (p0 + 19) x3)) + (V (p0 + 11) (((7 * x1) + x4)))))))) 1))
      refine wp_ld (i := (.aload_n 0)) (4, (p0 : Int)) rfl rfl (fun _ => rfl) rfl rfl (?_ : wpv K_X8_closes d P 129 [some (4, (p0 : Int)), some (0, x1), some (0, x2), some (0, x3), some (0, x4), some (0, (V (p0 + 5) (((120 * (V (p0 + 19) x3)) + (V (p0 + 11) (((7 * x1) + x4)))))))] [(4, (p0 : Int))] G R (wr V (p0 + 9) (((120 * x1) + (V (p0 + 5) (((120 * (V (p0 + 19) x3)) + (V (p0 + 11) (((7 * x1) + x4)))))))) 1))
      refine wp_getA (k := 24) rfl rfl rfl (ly8_o l0) rfl rfl (ly8_24 l0).1 (?_ : wpv K_X8_closes d P 132 [some (4, (p0 : Int)), some (0, x1), some (0, x2), some (0, x3), some (0, x4), some (0, (V (p0 + 5) (((120 * (V (p0 + 19) x3)) + (V (p0 + 11) (((7 * x1) + x4)))))))] [(4, ((p0 + 19 : Nat) : Int))] G R (wr V (p0 + 9) (((120 * x1) + (V (p0 + 5) (((120 * (V (p0 + 19) x3)) + (V (p0 + 11) (((7 * x1) + x4)))))))) 1))
      refine wp_ld (i := (.iload_n 2)) (0, x2) rfl rfl (fun _ => rfl) rfl rfl (?_ : wpv K_X8_closes d P 133 [some (4, (p0 : Int)), some (0, x1), some (0, x2), some (0, x3), some (0, x4), some (0, (V (p0 + 5) (((120 * (V (p0 + 19) x3)) + (V (p0 + 11) (((7 * x1) + x4)))))))] [(0, x2), (4, ((p0 + 19 : Nat) : Int))] G R (wr V (p0 + 9) (((120 * x1) + (V (p0 + 5) (((120 * (V (p0 + 19) x3)) + (V (p0 + 11) (((7 * x1) + x4)))))))) 1))
      refine wp_ld (i := (.iload 5)) (0, (V (p0 + 5) (((120 * (V (p0 + 19) x3)) + (V (p0 + 11) (((7 * x1) + x4))))))) rfl rfl (fun _ => rfl) rfl rfl (?_ : wpv K_X8_closes d P 135 [some (4, (p0 : Int)), some (0, x1), some (0, x2), some (0, x3), some (0, x4), some (0, (V (p0 + 5) (((120 * (V (p0 + 19) x3)) + (V (p0 + 11) (((7 * x1) + x4)))))))] [(0, (V (p0 + 5) (((120 * (V (p0 + 19) x3)) + (V (p0 + 11) (((7 * x1) + x4))))))), (0, x2), (4, ((p0 + 19 : Nat) : Int))] G R (wr V (p0 + 9) (((120 * x1) + (V (p0 + 5) (((120 * (V (p0 + 19) x3)) + (V (p0 + 11) (((7 * x1) + x4)))))))) 1))
      obtain ⟨s21, w⟩ := w
      refine wp_sI rfl rfl (ly8_24 l0).2 s21 f15 (?_ : wpv K_X8_closes d P 136 [some (4, (p0 : Int)), some (0, x1), some (0, x2), some (0, x3), some (0, x4), some (0, (V (p0 + 5) (((120 * (V (p0 + 19) x3)) + (V (p0 + 11) (((7 * x1) + x4)))))))] [] G R (wr (wr V (p0 + 9) (((120 * x1) + (V (p0 + 5) (((120 * (V (p0 + 19) x3)) + (V (p0 + 11) (((7 * x1) + x4)))))))) 1) (p0 + 19) x2 ((V (p0 + 5) (((120 * (V (p0 + 19) x3)) + (V (p0 + 11) (((7 * x1) + x4)))))))))
      obtain ⟨s22, w⟩ := w
      refine wp_inc (x := 2) (k := 1) (a := x2) (c := (x2 + 1)) _ rfl rfl rfl rfl s22 (by omega) rfl ?_
      show wpv K_X8_closes d P 139 [some (4, (p0 : Int)), some (0, x1), some (0, (x2 + 1)), some (0, x3), some (0, x4), some (0, (V (p0 + 5) (((120 * (V (p0 + 19) x3)) + (V (p0 + 11) (((7 * x1) + x4)))))))] [] G R (wr (wr V (p0 + 9) (((120 * x1) + (V (p0 + 5) (((120 * (V (p0 + 19) x3)) + (V (p0 + 11) (((7 * x1) + x4)))))))) 1) (p0 + 19) x2 ((V (p0 + 5) (((120 * (V (p0 + 19) x3)) + (V (p0 + 11) (((7 * x1) + x4))))))))
      obtain ⟨s23, w⟩ := w
      refine wp_inc (x := 4) (k := 1) (a := x4) (c := (x4 + 1)) _ rfl rfl rfl rfl s23 (by omega) rfl ?_
      show wpv K_X8_closes d P 142 [some (4, (p0 : Int)), some (0, x1), some (0, (x2 + 1)), some (0, x3), some (0, (x4 + 1)), some (0, (V (p0 + 5) (((120 * (V (p0 + 19) x3)) + (V (p0 + 11) (((7 * x1) + x4)))))))] [] G R (wr (wr V (p0 + 9) (((120 * x1) + (V (p0 + 5) (((120 * (V (p0 + 19) x3)) + (V (p0 + 11) (((7 * x1) + x4)))))))) 1) (p0 + 19) x2 ((V (p0 + 5) (((120 * (V (p0 + 19) x3)) + (V (p0 + 11) (((7 * x1) + x4))))))))
      refine wp_go 57 rfl rfl rfl (?_ : wpv K_X8_closes d P 57 [some (4, (p0 : Int)), some (0, x1), some (0, (x2 + 1)), some (0, x3), some (0, (x4 + 1)), some (0, (V (p0 + 5) (((120 * (V (p0 + 19) x3)) + (V (p0 + 11) (((7 * x1) + x4)))))))] [] G R (wr (wr V (p0 + 9) (((120 * x1) + (V (p0 + 5) (((120 * (V (p0 + 19) x3)) + (V (p0 + 11) (((7 * x1) + x4)))))))) 1) (p0 + 19) x2 ((V (p0 + 5) (((120 * (V (p0 + 19) x3)) + (V (p0 + 11) (((7 * x1) + x4)))))))))
      exact wp_wk (wk_s (wk_s (wk_s (wk_s (wk_s wk_0))))) w
    · have q : ¬ (V (p0 + 9) (((120 * x1) + (V (p0 + 5) (((120 * (V (p0 + 19) x3)) + (V (p0 + 11) (((7 * x1) + x4))))))))) = 0 := q
      replace w := w.2 q
      show wpv K_X8_closes d P 112 [some (4, (p0 : Int)), some (0, x1), some (0, x2), some (0, x3), some (0, x4), some (0, (V (p0 + 5) (((120 * (V (p0 + 19) x3)) + (V (p0 + 11) (((7 * x1) + x4)))))))] [] G R V
      refine wp_go 139 rfl rfl rfl (?_ : wpv K_X8_closes d P 139 [some (4, (p0 : Int)), some (0, x1), some (0, x2), some (0, x3), some (0, x4), some (0, (V (p0 + 5) (((120 * (V (p0 + 19) x3)) + (V (p0 + 11) (((7 * x1) + x4)))))))] [] G R V)
      obtain ⟨s24, w⟩ := w
      refine wp_inc (x := 4) (k := 1) (a := x4) (c := (x4 + 1)) _ rfl rfl rfl rfl s24 (by omega) rfl ?_
      show wpv K_X8_closes d P 142 [some (4, (p0 : Int)), some (0, x1), some (0, x2), some (0, x3), some (0, (x4 + 1)), some (0, (V (p0 + 5) (((120 * (V (p0 + 19) x3)) + (V (p0 + 11) (((7 * x1) + x4)))))))] [] G R V
      refine wp_go 57 rfl rfl rfl (?_ : wpv K_X8_closes d P 57 [some (4, (p0 : Int)), some (0, x1), some (0, x2), some (0, x3), some (0, (x4 + 1)), some (0, (V (p0 + 5) (((120 * (V (p0 + 19) x3)) + (V (p0 + 11) (((7 * x1) + x4)))))))] [] G R V)
      exact wp_wk (wk_s (wk_s (wk_s (wk_s (wk_s wk_0))))) w
theorem t_X8_isAlike_0 {d : Nat} {P : gP} {p0 : Nat} {x1 : Int} {x2 : Int} {G : List gS} {R V : gV} (l0 : lay8 G R p0) (w : ((0 ≤ x1 ∧ x1 < 301) ∧ ((i32 (V (p0 + 10) x1)) → ((0 ≤ x2 ∧ x2 < 301) ∧ ((i32 (V (p0 + 10) x2)) → ((((V (p0 + 10) x1) = (V (p0 + 10) x2)) → wpv K_X8_isAlike d P 19 [some (4, (p0 : Int)), some (0, x1), some (0, x2), some (0, 0)] [] G R V) ∧ ((¬ (V (p0 + 10) x1) = (V (p0 + 10) x2)) → P (some (0, 0)) V))))))) : wpv K_X8_isAlike d P 0 [some (4, (p0 : Int)), some (0, x1), some (0, x2)] [] G R V := by
  refine wp_ld (i := (.aload_n 0)) (4, (p0 : Int)) rfl rfl (fun _ => rfl) rfl rfl (?_ : wpv K_X8_isAlike d P 1 [some (4, (p0 : Int)), some (0, x1), some (0, x2)] [(4, (p0 : Int))] G R V)
  refine wp_getA (k := 15) rfl rfl rfl (ly8_o l0) rfl rfl (ly8_15 l0).1 (?_ : wpv K_X8_isAlike d P 4 [some (4, (p0 : Int)), some (0, x1), some (0, x2)] [(4, ((p0 + 10 : Nat) : Int))] G R V)
  refine wp_ld (i := (.iload_n 1)) (0, x1) rfl rfl (fun _ => rfl) rfl rfl (?_ : wpv K_X8_isAlike d P 5 [some (4, (p0 : Int)), some (0, x1), some (0, x2)] [(0, x1), (4, ((p0 + 10 : Nat) : Int))] G R V)
  obtain ⟨s1, w⟩ := w
  refine wp_rng (fun vr2 => ?_)
  have f3 : i32 (V (p0 + 10) x1) := vr_a0 vr2 (ly8_15 l0).2 s1
  replace w := w f3
  refine wp_aI rfl rfl (ly8_15 l0).2 s1 (?_ : wpv K_X8_isAlike d P 6 [some (4, (p0 : Int)), some (0, x1), some (0, x2)] [(0, (V (p0 + 10) x1))] G R V)
  refine wp_ld (i := (.aload_n 0)) (4, (p0 : Int)) rfl rfl (fun _ => rfl) rfl rfl (?_ : wpv K_X8_isAlike d P 7 [some (4, (p0 : Int)), some (0, x1), some (0, x2)] [(4, (p0 : Int)), (0, (V (p0 + 10) x1))] G R V)
  refine wp_getA (k := 15) rfl rfl rfl (ly8_o l0) rfl rfl (ly8_15 l0).1 (?_ : wpv K_X8_isAlike d P 10 [some (4, (p0 : Int)), some (0, x1), some (0, x2)] [(4, ((p0 + 10 : Nat) : Int)), (0, (V (p0 + 10) x1))] G R V)
  refine wp_ld (i := (.iload_n 2)) (0, x2) rfl rfl (fun _ => rfl) rfl rfl (?_ : wpv K_X8_isAlike d P 11 [some (4, (p0 : Int)), some (0, x1), some (0, x2)] [(0, x2), (4, ((p0 + 10 : Nat) : Int)), (0, (V (p0 + 10) x1))] G R V)
  obtain ⟨s4, w⟩ := w
  have f5 : i32 (V (p0 + 10) x2) := vr_a0 vr2 (ly8_15 l0).2 s4
  replace w := w f5
  refine wp_aI rfl rfl (ly8_15 l0).2 s4 (?_ : wpv K_X8_isAlike d P 12 [some (4, (p0 : Int)), some (0, x1), some (0, x2)] [(0, (V (p0 + 10) x2)), (0, (V (p0 + 10) x1))] G R V)
  refine wp_icmp (c := .eq) 17 rfl rfl rfl f3 f5 (fun q => ?_) (fun q => ?_)
  · have q : (V (p0 + 10) x1) = (V (p0 + 10) x2) := q
    replace w := w.1 q
    show wpv K_X8_isAlike d P 17 [some (4, (p0 : Int)), some (0, x1), some (0, x2)] [] G R V
    refine wp_p (i := (.iconst 0)) rfl rfl (fun _ _ _ => rfl) (?_ : wpv K_X8_isAlike d P 18 [some (4, (p0 : Int)), some (0, x1), some (0, x2)] [(0, 0)] G R V)
    refine wp_sto (i := (.istore_n 3)) _ rfl rfl (fun _ => rfl) rfl rfl rfl ?_
    refine wp_wk (L' := [some (4, (p0 : Int)), some (0, x1), some (0, x2), some (0, 0)]) (wk_s (wk_s (wk_s (wk_s wk_0)))) ?_
    show wpv K_X8_isAlike d P 19 [some (4, (p0 : Int)), some (0, x1), some (0, x2), some (0, 0)] [] G R V
    exact wp_wk (wk_s (wk_s (wk_s (wk_s wk_0)))) w
  · have q : ¬ (V (p0 + 10) x1) = (V (p0 + 10) x2) := q
    replace w := w.2 q
    show wpv K_X8_isAlike d P 15 [some (4, (p0 : Int)), some (0, x1), some (0, x2)] [] G R V
    refine wp_p (i := (.iconst 0)) rfl rfl (fun _ _ _ => rfl) (?_ : wpv K_X8_isAlike d P 16 [some (4, (p0 : Int)), some (0, x1), some (0, x2)] [(0, 0)] G R V)
    exact wp_rB rfl rfl rfl (by omega) w

theorem t_X8_isAlike_19 {d : Nat} {P : gP} {p0 : Nat} {x1 : Int} {x2 : Int} {x3 : Int} {G : List gS} {R V : gV} (l0 : lay8 G R p0) (w : ((i32 (V p0 5)) → ((i32 x3) ∧ (((¬ x3 < (V p0 5)) → P (some (0, 1)) V) ∧ ((x3 < (V p0 5)) → ((i32 (120 * x1)) ∧ ((i32 ((120 * x1) + x3)) ∧ ((0 ≤ ((120 * x1) + x3) ∧ ((120 * x1) + x3) < 36120) ∧ (((V (p0 + 9) (((120 * x1) + x3))) = 0 ∨ (V (p0 + 9) (((120 * x1) + x3))) = 1) → ((i32 (120 * x2)) ∧ ((i32 ((120 * x2) + x3)) ∧ ((0 ≤ ((120 * x2) + x3) ∧ ((120 * x2) + x3) < 36120) ∧ (((V (p0 + 9) (((120 * x2) + x3))) = 0 ∨ (V (p0 + 9) (((120 * x2) + x3))) = 1) → ((((V (p0 + 9) (((120 * x1) + x3))) = (V (p0 + 9) (((120 * x2) + x3)))) → ((i32 (x3 + 1)) ∧ wpv K_X8_isAlike d P 19 [some (4, (p0 : Int)), some (0, x1), some (0, x2), some (0, (x3 + 1))] [] G R V)) ∧ ((¬ (V (p0 + 9) (((120 * x1) + x3))) = (V (p0 + 9) (((120 * x2) + x3)))) → P (some (0, 0)) V))))))))))))))) : wpv K_X8_isAlike d P 19 [some (4, (p0 : Int)), some (0, x1), some (0, x2), some (0, x3)] [] G R V := by
  refine wp_ld (i := (.iload_n 3)) (0, x3) rfl rfl (fun _ => rfl) rfl rfl (?_ : wpv K_X8_isAlike d P 20 [some (4, (p0 : Int)), some (0, x1), some (0, x2), some (0, x3)] [(0, x3)] G R V)
  refine wp_ld (i := (.aload_n 0)) (4, (p0 : Int)) rfl rfl (fun _ => rfl) rfl rfl (?_ : wpv K_X8_isAlike d P 21 [some (4, (p0 : Int)), some (0, x1), some (0, x2), some (0, x3)] [(4, (p0 : Int)), (0, x3)] G R V)
  refine wp_rng (fun vr1 => ?_)
  have f2 : i32 (V p0 5) := vr_f0 vr1 (ly8_o l0) rfl rfl
  replace w := w f2
  refine wp_getI (k := 5) rfl rfl rfl (ly8_o l0) rfl rfl (?_ : wpv K_X8_isAlike d P 24 [some (4, (p0 : Int)), some (0, x1), some (0, x2), some (0, x3)] [(0, (V p0 5)), (0, x3)] G R V)
  obtain ⟨s3, w⟩ := w
  refine wp_icmp (c := .ge) 60 rfl rfl rfl s3 f2 (fun q => ?_) (fun q => ?_)
  · have q : ¬ x3 < (V p0 5) := q
    replace w := w.1 q
    show wpv K_X8_isAlike d P 60 [some (4, (p0 : Int)), some (0, x1), some (0, x2), some (0, x3)] [] G R V
    refine wp_p (i := (.iconst 1)) rfl rfl (fun _ _ _ => rfl) (?_ : wpv K_X8_isAlike d P 61 [some (4, (p0 : Int)), some (0, x1), some (0, x2), some (0, x3)] [(0, 1)] G R V)
    exact wp_rB rfl rfl rfl (by omega) w
  · have q : x3 < (V p0 5) := Decidable.not_not.mp q
    replace w := w.2 q
    show wpv K_X8_isAlike d P 27 [some (4, (p0 : Int)), some (0, x1), some (0, x2), some (0, x3)] [] G R V
    refine wp_ld (i := (.aload_n 0)) (4, (p0 : Int)) rfl rfl (fun _ => rfl) rfl rfl (?_ : wpv K_X8_isAlike d P 28 [some (4, (p0 : Int)), some (0, x1), some (0, x2), some (0, x3)] [(4, (p0 : Int))] G R V)
    refine wp_getA (k := 14) rfl rfl rfl (ly8_o l0) rfl rfl (ly8_14 l0).1 (?_ : wpv K_X8_isAlike d P 31 [some (4, (p0 : Int)), some (0, x1), some (0, x2), some (0, x3)] [(4, ((p0 + 9 : Nat) : Int))] G R V)
    refine wp_p (i := (.bipush 120)) rfl rfl (fun _ _ _ => rfl) (?_ : wpv K_X8_isAlike d P 33 [some (4, (p0 : Int)), some (0, x1), some (0, x2), some (0, x3)] [(0, 120), (4, ((p0 + 9 : Nat) : Int))] G R V)
    refine wp_ld (i := (.iload_n 1)) (0, x1) rfl rfl (fun _ => rfl) rfl rfl (?_ : wpv K_X8_isAlike d P 34 [some (4, (p0 : Int)), some (0, x1), some (0, x2), some (0, x3)] [(0, x1), (0, 120), (4, ((p0 + 9 : Nat) : Int))] G R V)
    obtain ⟨s4, w⟩ := w
    refine wp_xmul rfl rfl s4 (?_ : wpv K_X8_isAlike d P 35 [some (4, (p0 : Int)), some (0, x1), some (0, x2), some (0, x3)] [(0, (120 * x1)), (4, ((p0 + 9 : Nat) : Int))] G R V)
    refine wp_ld (i := (.iload_n 3)) (0, x3) rfl rfl (fun _ => rfl) rfl rfl (?_ : wpv K_X8_isAlike d P 36 [some (4, (p0 : Int)), some (0, x1), some (0, x2), some (0, x3)] [(0, x3), (0, (120 * x1)), (4, ((p0 + 9 : Nat) : Int))] G R V)
    obtain ⟨s5, w⟩ := w
    refine wp_xadd rfl rfl s5 (?_ : wpv K_X8_isAlike d P 37 [some (4, (p0 : Int)), some (0, x1), some (0, x2), some (0, x3)] [(0, ((120 * x1) + x3)), (4, ((p0 + 9 : Nat) : Int))] G R V)
    obtain ⟨s6, w⟩ := w
    have f7 : (V (p0 + 9) (((120 * x1) + x3))) = 0 ∨ (V (p0 + 9) (((120 * x1) + x3))) = 1 := vr_a2 vr1 (ly8_14 l0).2 s6
    replace w := w f7
    have f8 : i32 (V (p0 + 9) (((120 * x1) + x3))) := by unfold i32; omega
    refine wp_aB rfl rfl (ly8_14 l0).2 s6 (?_ : wpv K_X8_isAlike d P 38 [some (4, (p0 : Int)), some (0, x1), some (0, x2), some (0, x3)] [(0, (V (p0 + 9) (((120 * x1) + x3))))] G R V)
    refine wp_ld (i := (.aload_n 0)) (4, (p0 : Int)) rfl rfl (fun _ => rfl) rfl rfl (?_ : wpv K_X8_isAlike d P 39 [some (4, (p0 : Int)), some (0, x1), some (0, x2), some (0, x3)] [(4, (p0 : Int)), (0, (V (p0 + 9) (((120 * x1) + x3))))] G R V)
    refine wp_getA (k := 14) rfl rfl rfl (ly8_o l0) rfl rfl (ly8_14 l0).1 (?_ : wpv K_X8_isAlike d P 42 [some (4, (p0 : Int)), some (0, x1), some (0, x2), some (0, x3)] [(4, ((p0 + 9 : Nat) : Int)), (0, (V (p0 + 9) (((120 * x1) + x3))))] G R V)
    refine wp_p (i := (.bipush 120)) rfl rfl (fun _ _ _ => rfl) (?_ : wpv K_X8_isAlike d P 44 [some (4, (p0 : Int)), some (0, x1), some (0, x2), some (0, x3)] [(0, 120), (4, ((p0 + 9 : Nat) : Int)), (0, (V (p0 + 9) (((120 * x1) + x3))))] G R V)
    refine wp_ld (i := (.iload_n 2)) (0, x2) rfl rfl (fun _ => rfl) rfl rfl (?_ : wpv K_X8_isAlike d P 45 [some (4, (p0 : Int)), some (0, x1), some (0, x2), some (0, x3)] [(0, x2), (0, 120), (4, ((p0 + 9 : Nat) : Int)), (0, (V (p0 + 9) (((120 * x1) + x3))))] G R V)
    obtain ⟨s9, w⟩ := w
    refine wp_xmul rfl rfl s9 (?_ : wpv K_X8_isAlike d P 46 [some (4, (p0 : Int)), some (0, x1), some (0, x2), some (0, x3)] [(0, (120 * x2)), (4, ((p0 + 9 : Nat) : Int)), (0, (V (p0 + 9) (((120 * x1) + x3))))] G R V)
    refine wp_ld (i := (.iload_n 3)) (0, x3) rfl rfl (fun _ => rfl) rfl rfl (?_ : wpv K_X8_isAlike d P 47 [some (4, (p0 : Int)), some (0, x1), some (0, x2), some (0, x3)] [(0, x3), (0, (120 * x2)), (4, ((p0 + 9 : Nat) : Int)), (0, (V (p0 + 9) (((120 * x1) + x3))))] G R V)
    obtain ⟨s10, w⟩ := w
    refine wp_xadd rfl rfl s10 (?_ : wpv K_X8_isAlike d P 48 [some (4, (p0 : Int)), some (0, x1), some (0, x2), some (0, x3)] [(0, ((120 * x2) + x3)), (4, ((p0 + 9 : Nat) : Int)), (0, (V (p0 + 9) (((120 * x1) + x3))))] G R V)
    obtain ⟨s11, w⟩ := w
    have f12 : (V (p0 + 9) (((120 * x2) + x3))) = 0 ∨ (V (p0 + 9) (((120 * x2) + x3))) = 1 := vr_a2 vr1 (ly8_14 l0).2 s11
    replace w := w f12
    have f13 : i32 (V (p0 + 9) (((120 * x2) + x3))) := by unfold i32; omega
    refine wp_aB rfl rfl (ly8_14 l0).2 s11 (?_ : wpv K_X8_isAlike d P 49 [some (4, (p0 : Int)), some (0, x1), some (0, x2), some (0, x3)] [(0, (V (p0 + 9) (((120 * x2) + x3)))), (0, (V (p0 + 9) (((120 * x1) + x3))))] G R V)
    refine wp_icmp (c := .eq) 54 rfl rfl rfl f8 f13 (fun q => ?_) (fun q => ?_)
    · have q : (V (p0 + 9) (((120 * x1) + x3))) = (V (p0 + 9) (((120 * x2) + x3))) := q
      replace w := w.1 q
      show wpv K_X8_isAlike d P 54 [some (4, (p0 : Int)), some (0, x1), some (0, x2), some (0, x3)] [] G R V
      obtain ⟨s14, w⟩ := w
      refine wp_inc (x := 3) (k := 1) (a := x3) (c := (x3 + 1)) _ rfl rfl rfl rfl s14 (by omega) rfl ?_
      show wpv K_X8_isAlike d P 57 [some (4, (p0 : Int)), some (0, x1), some (0, x2), some (0, (x3 + 1))] [] G R V
      refine wp_go 19 rfl rfl rfl (?_ : wpv K_X8_isAlike d P 19 [some (4, (p0 : Int)), some (0, x1), some (0, x2), some (0, (x3 + 1))] [] G R V)
      exact wp_wk (wk_s (wk_s (wk_s (wk_s wk_0)))) w
    · have q : ¬ (V (p0 + 9) (((120 * x1) + x3))) = (V (p0 + 9) (((120 * x2) + x3))) := q
      replace w := w.2 q
      show wpv K_X8_isAlike d P 52 [some (4, (p0 : Int)), some (0, x1), some (0, x2), some (0, x3)] [] G R V
      refine wp_p (i := (.iconst 0)) rfl rfl (fun _ _ _ => rfl) (?_ : wpv K_X8_isAlike d P 53 [some (4, (p0 : Int)), some (0, x1), some (0, x2), some (0, x3)] [(0, 0)] G R V)
      exact wp_rB rfl rfl rfl (by omega) w
theorem t_X8_among_0 {d : Nat} {P : gP} {p0 : Nat} {x1 : Int} {x2 : Int} {G : List gS} {R V : gV} (l0 : lay8 G R p0) (w : wpv K_X8_among d P 2 [some (4, (p0 : Int)), some (0, x1), some (0, x2), some (0, 0)] [] G R V) : wpv K_X8_among d P 0 [some (4, (p0 : Int)), some (0, x1), some (0, x2)] [] G R V := by
  refine wp_p (i := (.iconst 0)) rfl rfl (fun _ _ _ => rfl) (?_ : wpv K_X8_among d P 1 [some (4, (p0 : Int)), some (0, x1), some (0, x2)] [(0, 0)] G R V)
  refine wp_sto (i := (.istore_n 3)) _ rfl rfl (fun _ => rfl) rfl rfl rfl ?_
  refine wp_wk (L' := [some (4, (p0 : Int)), some (0, x1), some (0, x2), some (0, 0)]) (wk_s (wk_s (wk_s (wk_s wk_0)))) ?_
  show wpv K_X8_among d P 2 [some (4, (p0 : Int)), some (0, x1), some (0, x2), some (0, 0)] [] G R V
  exact wp_wk (wk_s (wk_s (wk_s (wk_s wk_0)))) w

theorem t_X8_among_2 {d : Nat} {P : gP} {p0 : Nat} {x1 : Int} {x2 : Int} {x3 : Int} {G : List gS} {R V : gV} (l0 : lay8 G R p0) (w : ((i32 x3) ∧ ((i32 x2) ∧ (((¬ x3 < x2) → P (some (0, (-1))) V) ∧ ((x3 < x2) → cwv d (fun r V3 => ∃ v4 : Int, r = some (0, v4) ∧ ((i32 v4) ∧ (((v4 = 0) → ((i32 (x3 + 1)) ∧ wpv K_X8_among d P 2 [some (4, (p0 : Int)), some (0, x1), some (0, x2), some (0, (x3 + 1))] [] G R V3)) ∧ ((¬ v4 = 0) → P (some (0, x3)) V3)))) 171 [(4, (p0 : Int)), (0, x3), (0, x1)] G R V))))) : wpv K_X8_among d P 2 [some (4, (p0 : Int)), some (0, x1), some (0, x2), some (0, x3)] [] G R V := by
  refine wp_ld (i := (.iload_n 3)) (0, x3) rfl rfl (fun _ => rfl) rfl rfl (?_ : wpv K_X8_among d P 3 [some (4, (p0 : Int)), some (0, x1), some (0, x2), some (0, x3)] [(0, x3)] G R V)
  refine wp_ld (i := (.iload_n 2)) (0, x2) rfl rfl (fun _ => rfl) rfl rfl (?_ : wpv K_X8_among d P 4 [some (4, (p0 : Int)), some (0, x1), some (0, x2), some (0, x3)] [(0, x2), (0, x3)] G R V)
  obtain ⟨s1, w⟩ := w
  obtain ⟨s2, w⟩ := w
  refine wp_icmp (c := .ge) 24 rfl rfl rfl s1 s2 (fun q => ?_) (fun q => ?_)
  · have q : ¬ x3 < x2 := q
    replace w := w.1 q
    show wpv K_X8_among d P 24 [some (4, (p0 : Int)), some (0, x1), some (0, x2), some (0, x3)] [] G R V
    refine wp_p (i := (.iconst (-1))) rfl rfl (fun _ _ _ => rfl) (?_ : wpv K_X8_among d P 25 [some (4, (p0 : Int)), some (0, x1), some (0, x2), some (0, x3)] [(0, (-1))] G R V)
    exact wp_rI rfl rfl rfl w
  · have q : x3 < x2 := Decidable.not_not.mp q
    replace w := w.2 q
    show wpv K_X8_among d P 7 [some (4, (p0 : Int)), some (0, x1), some (0, x2), some (0, x3)] [] G R V
    refine wp_ld (i := (.aload_n 0)) (4, (p0 : Int)) rfl rfl (fun _ => rfl) rfl rfl (?_ : wpv K_X8_among d P 8 [some (4, (p0 : Int)), some (0, x1), some (0, x2), some (0, x3)] [(4, (p0 : Int))] G R V)
    refine wp_ld (i := (.iload_n 3)) (0, x3) rfl rfl (fun _ => rfl) rfl rfl (?_ : wpv K_X8_among d P 9 [some (4, (p0 : Int)), some (0, x1), some (0, x2), some (0, x3)] [(0, x3), (4, (p0 : Int))] G R V)
    refine wp_ld (i := (.iload_n 1)) (0, x1) rfl rfl (fun _ => rfl) rfl rfl (?_ : wpv K_X8_among d P 10 [some (4, (p0 : Int)), some (0, x1), some (0, x2), some (0, x3)] [(0, x1), (0, x3), (4, (p0 : Int))] G R V)
    refine wp_virt (as := [(0, x3), (0, x1)]) (a := p0) (st := []) _ rfl rfl rfl rfl rfl rfl (ly8_o l0) (Nat.le_of_ble_eq_true rfl) (cwv_kI w (fun v4 V3 w => ?_))
    show wpv K_X8_among d P 13 [some (4, (p0 : Int)), some (0, x1), some (0, x2), some (0, x3)] [(0, v4)] G R V3
    obtain ⟨s5, w⟩ := w
    refine wp_if (c := .eq) 18 rfl rfl rfl s5 (fun q => ?_) (fun q => ?_)
    · have q : v4 = 0 := q
      replace w := w.1 q
      show wpv K_X8_among d P 18 [some (4, (p0 : Int)), some (0, x1), some (0, x2), some (0, x3)] [] G R V3
      obtain ⟨s6, w⟩ := w
      refine wp_inc (x := 3) (k := 1) (a := x3) (c := (x3 + 1)) _ rfl rfl rfl rfl s6 (by omega) rfl ?_
      show wpv K_X8_among d P 21 [some (4, (p0 : Int)), some (0, x1), some (0, x2), some (0, (x3 + 1))] [] G R V3
      refine wp_go 2 rfl rfl rfl (?_ : wpv K_X8_among d P 2 [some (4, (p0 : Int)), some (0, x1), some (0, x2), some (0, (x3 + 1))] [] G R V3)
      exact wp_wk (wk_s (wk_s (wk_s (wk_s wk_0)))) w
    · have q : ¬ v4 = 0 := q
      replace w := w.2 q
      show wpv K_X8_among d P 16 [some (4, (p0 : Int)), some (0, x1), some (0, x2), some (0, x3)] [] G R V3
      refine wp_ld (i := (.iload_n 3)) (0, x3) rfl rfl (fun _ => rfl) rfl rfl (?_ : wpv K_X8_among d P 17 [some (4, (p0 : Int)), some (0, x1), some (0, x2), some (0, x3)] [(0, x3)] G R V3)
      exact wp_rI rfl rfl rfl w
theorem t_X8_findsHeaps_0 {d : Nat} {P : gP} {p0 : Nat} {G : List gS} {R V : gV} (l0 : lay8 G R p0) (w : cwv d (fun r V1 => r = none ∧ wpv K_X8_findsHeaps d P 24 [some (4, (p0 : Int)), some (0, 0)] [] G R (wr V1 p0 12 1)) 170 [(4, (p0 : Int)), (0, 0)] G R (wr (wr V p0 12 0) (p0 + 12) 0 0)) : wpv K_X8_findsHeaps d P 0 [some (4, (p0 : Int))] [] G R V := by
  refine wp_ld (i := (.aload_n 0)) (4, (p0 : Int)) rfl rfl (fun _ => rfl) rfl rfl (?_ : wpv K_X8_findsHeaps d P 1 [some (4, (p0 : Int))] [(4, (p0 : Int))] G R V)
  refine wp_p (i := (.iconst 0)) rfl rfl (fun _ _ _ => rfl) (?_ : wpv K_X8_findsHeaps d P 2 [some (4, (p0 : Int))] [(0, 0), (4, (p0 : Int))] G R V)
  refine wp_putI (k := 12) rfl rfl rfl (ly8_o l0) rfl rfl rfl ⟨by omega, by omega⟩ (?_ : wpv K_X8_findsHeaps d P 5 [some (4, (p0 : Int))] [] G R (wr V p0 12 0))
  refine wp_ld (i := (.aload_n 0)) (4, (p0 : Int)) rfl rfl (fun _ => rfl) rfl rfl (?_ : wpv K_X8_findsHeaps d P 6 [some (4, (p0 : Int))] [(4, (p0 : Int))] G R (wr V p0 12 0))
  refine wp_getA (k := 17) rfl rfl rfl (ly8_o l0) rfl rfl (ly8_17 l0).1 (?_ : wpv K_X8_findsHeaps d P 9 [some (4, (p0 : Int))] [(4, ((p0 + 12 : Nat) : Int))] G R (wr V p0 12 0))
  refine wp_p (i := (.iconst 0)) rfl rfl (fun _ _ _ => rfl) (?_ : wpv K_X8_findsHeaps d P 10 [some (4, (p0 : Int))] [(0, 0), (4, ((p0 + 12 : Nat) : Int))] G R (wr V p0 12 0))
  refine wp_p (i := (.iconst 0)) rfl rfl (fun _ _ _ => rfl) (?_ : wpv K_X8_findsHeaps d P 11 [some (4, (p0 : Int))] [(0, 0), (0, 0), (4, ((p0 + 12 : Nat) : Int))] G R (wr V p0 12 0))
  refine wp_sI rfl rfl (ly8_17 l0).2 ⟨by omega, by omega⟩ ⟨by omega, by omega⟩ (?_ : wpv K_X8_findsHeaps d P 12 [some (4, (p0 : Int))] [] G R (wr (wr V p0 12 0) (p0 + 12) 0 0))
  refine wp_ld (i := (.aload_n 0)) (4, (p0 : Int)) rfl rfl (fun _ => rfl) rfl rfl (?_ : wpv K_X8_findsHeaps d P 13 [some (4, (p0 : Int))] [(4, (p0 : Int))] G R (wr (wr V p0 12 0) (p0 + 12) 0 0))
  refine wp_p (i := (.iconst 0)) rfl rfl (fun _ _ _ => rfl) (?_ : wpv K_X8_findsHeaps d P 14 [some (4, (p0 : Int))] [(0, 0), (4, (p0 : Int))] G R (wr (wr V p0 12 0) (p0 + 12) 0 0))
  refine wp_virt (as := [(0, 0)]) (a := p0) (st := []) _ rfl rfl rfl rfl rfl rfl (ly8_o l0) (Nat.le_of_ble_eq_true rfl) (cwv_k0 w (fun V1 w => ?_))
  show wpv K_X8_findsHeaps d P 17 [some (4, (p0 : Int))] [] G R V1
  refine wp_ld (i := (.aload_n 0)) (4, (p0 : Int)) rfl rfl (fun _ => rfl) rfl rfl (?_ : wpv K_X8_findsHeaps d P 18 [some (4, (p0 : Int))] [(4, (p0 : Int))] G R V1)
  refine wp_p (i := (.iconst 1)) rfl rfl (fun _ _ _ => rfl) (?_ : wpv K_X8_findsHeaps d P 19 [some (4, (p0 : Int))] [(0, 1), (4, (p0 : Int))] G R V1)
  refine wp_putI (k := 12) rfl rfl rfl (ly8_o l0) rfl rfl rfl ⟨by omega, by omega⟩ (?_ : wpv K_X8_findsHeaps d P 22 [some (4, (p0 : Int))] [] G R (wr V1 p0 12 1))
  refine wp_p (i := (.iconst 0)) rfl rfl (fun _ _ _ => rfl) (?_ : wpv K_X8_findsHeaps d P 23 [some (4, (p0 : Int))] [(0, 0)] G R (wr V1 p0 12 1))
  refine wp_sto (i := (.istore_n 1)) _ rfl rfl (fun _ => rfl) rfl rfl rfl ?_
  refine wp_wk (L' := [some (4, (p0 : Int)), some (0, 0)]) (wk_s (wk_s wk_0)) ?_
  show wpv K_X8_findsHeaps d P 24 [some (4, (p0 : Int)), some (0, 0)] [] G R (wr V1 p0 12 1)
  exact wp_wk (wk_s (wk_s wk_0)) w

theorem t_X8_findsHeaps_24 {d : Nat} {P : gP} {p0 : Nat} {x1 : Int} {G : List gS} {R V : gV} (l0 : lay8 G R p0) (w : ((i32 (V p0 12)) → ((i32 x1) ∧ (((¬ x1 < (V p0 12)) → P (some (0, 1)) V) ∧ ((x1 < (V p0 12)) → wpv K_X8_findsHeaps d P 34 [some (4, (p0 : Int)), some (0, x1), some (0, 1)] [] G R V))))) : wpv K_X8_findsHeaps d P 24 [some (4, (p0 : Int)), some (0, x1)] [] G R V := by
  refine wp_ld (i := (.iload_n 1)) (0, x1) rfl rfl (fun _ => rfl) rfl rfl (?_ : wpv K_X8_findsHeaps d P 25 [some (4, (p0 : Int)), some (0, x1)] [(0, x1)] G R V)
  refine wp_ld (i := (.aload_n 0)) (4, (p0 : Int)) rfl rfl (fun _ => rfl) rfl rfl (?_ : wpv K_X8_findsHeaps d P 26 [some (4, (p0 : Int)), some (0, x1)] [(4, (p0 : Int)), (0, x1)] G R V)
  refine wp_rng (fun vr1 => ?_)
  have f2 : i32 (V p0 12) := vr_f0 vr1 (ly8_o l0) rfl rfl
  replace w := w f2
  refine wp_getI (k := 12) rfl rfl rfl (ly8_o l0) rfl rfl (?_ : wpv K_X8_findsHeaps d P 29 [some (4, (p0 : Int)), some (0, x1)] [(0, (V p0 12)), (0, x1)] G R V)
  obtain ⟨s3, w⟩ := w
  refine wp_icmp (c := .ge) 200 rfl rfl rfl s3 f2 (fun q => ?_) (fun q => ?_)
  · have q : ¬ x1 < (V p0 12) := q
    replace w := w.1 q
    show wpv K_X8_findsHeaps d P 200 [some (4, (p0 : Int)), some (0, x1)] [] G R V
    refine wp_p (i := (.iconst 1)) rfl rfl (fun _ _ _ => rfl) (?_ : wpv K_X8_findsHeaps d P 201 [some (4, (p0 : Int)), some (0, x1)] [(0, 1)] G R V)
    exact wp_rB rfl rfl rfl (by omega) w
  · have q : x1 < (V p0 12) := Decidable.not_not.mp q
    replace w := w.2 q
    show wpv K_X8_findsHeaps d P 32 [some (4, (p0 : Int)), some (0, x1)] [] G R V
    refine wp_p (i := (.iconst 1)) rfl rfl (fun _ _ _ => rfl) (?_ : wpv K_X8_findsHeaps d P 33 [some (4, (p0 : Int)), some (0, x1)] [(0, 1)] G R V)
    refine wp_sto (i := (.istore_n 2)) _ rfl rfl (fun _ => rfl) rfl rfl rfl ?_
    refine wp_wk (L' := [some (4, (p0 : Int)), some (0, x1), some (0, 1)]) (wk_s (wk_s (wk_s wk_0))) ?_
    show wpv K_X8_findsHeaps d P 34 [some (4, (p0 : Int)), some (0, x1), some (0, 1)] [] G R V
    exact wp_wk (wk_s (wk_s (wk_s wk_0))) w

theorem t_X8_findsHeaps_34 {d : Nat} {P : gP} {p0 : Nat} {x1 : Int} {x2 : Int} {G : List gS} {R V : gV} (l0 : lay8 G R p0) (w : ((i32 (V p0 5)) → ((i32 x2) ∧ (((¬ x2 < (V p0 5)) → ((i32 (x1 + 1)) ∧ wpv K_X8_findsHeaps d P 24 [some (4, (p0 : Int)), some (0, (x1 + 1))] [] G R V)) ∧ ((x2 < (V p0 5)) → ((i32 (120 * x1)) ∧ ((i32 ((120 * x1) + x2)) ∧ ((0 ≤ ((120 * x1) + x2) ∧ ((120 * x1) + x2) < 36120) ∧ (((V (p0 + 9) (((120 * x1) + x2))) = 0 ∨ (V (p0 + 9) (((120 * x1) + x2))) = 1) → ((((V (p0 + 9) (((120 * x1) + x2))) = 0) → wpv K_X8_findsHeaps d P 61 [some (4, (p0 : Int)), some (0, x1), some (0, x2), some (0, 0)] [] G R V) ∧ ((¬ (V (p0 + 9) (((120 * x1) + x2))) = 0) → ((i32 (x2 + 1)) ∧ wpv K_X8_findsHeaps d P 34 [some (4, (p0 : Int)), some (0, x1), some (0, (x2 + 1))] [] G R V)))))))))))) : wpv K_X8_findsHeaps d P 34 [some (4, (p0 : Int)), some (0, x1), some (0, x2)] [] G R V := by
  refine wp_ld (i := (.iload_n 2)) (0, x2) rfl rfl (fun _ => rfl) rfl rfl (?_ : wpv K_X8_findsHeaps d P 35 [some (4, (p0 : Int)), some (0, x1), some (0, x2)] [(0, x2)] G R V)
  refine wp_ld (i := (.aload_n 0)) (4, (p0 : Int)) rfl rfl (fun _ => rfl) rfl rfl (?_ : wpv K_X8_findsHeaps d P 36 [some (4, (p0 : Int)), some (0, x1), some (0, x2)] [(4, (p0 : Int)), (0, x2)] G R V)
  refine wp_rng (fun vr1 => ?_)
  have f2 : i32 (V p0 5) := vr_f0 vr1 (ly8_o l0) rfl rfl
  replace w := w f2
  refine wp_getI (k := 5) rfl rfl rfl (ly8_o l0) rfl rfl (?_ : wpv K_X8_findsHeaps d P 39 [some (4, (p0 : Int)), some (0, x1), some (0, x2)] [(0, (V p0 5)), (0, x2)] G R V)
  obtain ⟨s3, w⟩ := w
  refine wp_icmp (c := .ge) 194 rfl rfl rfl s3 f2 (fun q => ?_) (fun q => ?_)
  · have q : ¬ x2 < (V p0 5) := q
    replace w := w.1 q
    show wpv K_X8_findsHeaps d P 194 [some (4, (p0 : Int)), some (0, x1), some (0, x2)] [] G R V
    obtain ⟨s4, w⟩ := w
    refine wp_inc (x := 1) (k := 1) (a := x1) (c := (x1 + 1)) _ rfl rfl rfl rfl s4 (by omega) rfl ?_
    show wpv K_X8_findsHeaps d P 197 [some (4, (p0 : Int)), some (0, (x1 + 1)), some (0, x2)] [] G R V
    refine wp_go 24 rfl rfl rfl (?_ : wpv K_X8_findsHeaps d P 24 [some (4, (p0 : Int)), some (0, (x1 + 1)), some (0, x2)] [] G R V)
    exact wp_wk (wk_s (wk_s wk_0)) w
  · have q : x2 < (V p0 5) := Decidable.not_not.mp q
    replace w := w.2 q
    show wpv K_X8_findsHeaps d P 42 [some (4, (p0 : Int)), some (0, x1), some (0, x2)] [] G R V
    refine wp_ld (i := (.aload_n 0)) (4, (p0 : Int)) rfl rfl (fun _ => rfl) rfl rfl (?_ : wpv K_X8_findsHeaps d P 43 [some (4, (p0 : Int)), some (0, x1), some (0, x2)] [(4, (p0 : Int))] G R V)
    refine wp_getA (k := 14) rfl rfl rfl (ly8_o l0) rfl rfl (ly8_14 l0).1 (?_ : wpv K_X8_findsHeaps d P 46 [some (4, (p0 : Int)), some (0, x1), some (0, x2)] [(4, ((p0 + 9 : Nat) : Int))] G R V)
    refine wp_p (i := (.bipush 120)) rfl rfl (fun _ _ _ => rfl) (?_ : wpv K_X8_findsHeaps d P 48 [some (4, (p0 : Int)), some (0, x1), some (0, x2)] [(0, 120), (4, ((p0 + 9 : Nat) : Int))] G R V)
    refine wp_ld (i := (.iload_n 1)) (0, x1) rfl rfl (fun _ => rfl) rfl rfl (?_ : wpv K_X8_findsHeaps d P 49 [some (4, (p0 : Int)), some (0, x1), some (0, x2)] [(0, x1), (0, 120), (4, ((p0 + 9 : Nat) : Int))] G R V)
    obtain ⟨s5, w⟩ := w
    refine wp_xmul rfl rfl s5 (?_ : wpv K_X8_findsHeaps d P 50 [some (4, (p0 : Int)), some (0, x1), some (0, x2)] [(0, (120 * x1)), (4, ((p0 + 9 : Nat) : Int))] G R V)
    refine wp_ld (i := (.iload_n 2)) (0, x2) rfl rfl (fun _ => rfl) rfl rfl (?_ : wpv K_X8_findsHeaps d P 51 [some (4, (p0 : Int)), some (0, x1), some (0, x2)] [(0, x2), (0, (120 * x1)), (4, ((p0 + 9 : Nat) : Int))] G R V)
    obtain ⟨s6, w⟩ := w
    refine wp_xadd rfl rfl s6 (?_ : wpv K_X8_findsHeaps d P 52 [some (4, (p0 : Int)), some (0, x1), some (0, x2)] [(0, ((120 * x1) + x2)), (4, ((p0 + 9 : Nat) : Int))] G R V)
    obtain ⟨s7, w⟩ := w
    have f8 : (V (p0 + 9) (((120 * x1) + x2))) = 0 ∨ (V (p0 + 9) (((120 * x1) + x2))) = 1 := vr_a2 vr1 (ly8_14 l0).2 s7
    replace w := w f8
    have f9 : i32 (V (p0 + 9) (((120 * x1) + x2))) := by unfold i32; omega
    refine wp_aB rfl rfl (ly8_14 l0).2 s7 (?_ : wpv K_X8_findsHeaps d P 53 [some (4, (p0 : Int)), some (0, x1), some (0, x2)] [(0, (V (p0 + 9) (((120 * x1) + x2))))] G R V)
    refine wp_if (c := .eq) 59 rfl rfl rfl f9 (fun q => ?_) (fun q => ?_)
    · have q : (V (p0 + 9) (((120 * x1) + x2))) = 0 := q
      replace w := w.1 q
      show wpv K_X8_findsHeaps d P 59 [some (4, (p0 : Int)), some (0, x1), some (0, x2)] [] G R V
      refine wp_p (i := (.iconst 0)) rfl rfl (fun _ _ _ => rfl) (?_ : wpv K_X8_findsHeaps d P 60 [some (4, (p0 : Int)), some (0, x1), some (0, x2)] [(0, 0)] G R V)
      refine wp_sto (i := (.istore_n 3)) _ rfl rfl (fun _ => rfl) rfl rfl rfl ?_
      refine wp_wk (L' := [some (4, (p0 : Int)), some (0, x1), some (0, x2), some (0, 0)]) (wk_s (wk_s (wk_s (wk_s wk_0)))) ?_
      show wpv K_X8_findsHeaps d P 61 [some (4, (p0 : Int)), some (0, x1), some (0, x2), some (0, 0)] [] G R V
      exact wp_wk (wk_s (wk_s (wk_s (wk_s wk_0)))) w
    · have q : ¬ (V (p0 + 9) (((120 * x1) + x2))) = 0 := q
      replace w := w.2 q
      show wpv K_X8_findsHeaps d P 56 [some (4, (p0 : Int)), some (0, x1), some (0, x2)] [] G R V
      refine wp_go 188 rfl rfl rfl (?_ : wpv K_X8_findsHeaps d P 188 [some (4, (p0 : Int)), some (0, x1), some (0, x2)] [] G R V)
      obtain ⟨s10, w⟩ := w
      refine wp_inc (x := 2) (k := 1) (a := x2) (c := (x2 + 1)) _ rfl rfl rfl rfl s10 (by omega) rfl ?_
      show wpv K_X8_findsHeaps d P 191 [some (4, (p0 : Int)), some (0, x1), some (0, (x2 + 1))] [] G R V
      refine wp_go 34 rfl rfl rfl (?_ : wpv K_X8_findsHeaps d P 34 [some (4, (p0 : Int)), some (0, x1), some (0, (x2 + 1))] [] G R V)
      exact wp_wk (wk_s (wk_s (wk_s wk_0))) w

theorem t_X8_findsHeaps_61 {d : Nat} {P : gP} {p0 : Nat} {x1 : Int} {x2 : Int} {x3 : Int} {G : List gS} {R V : gV} (l0 : lay8 G R p0) (w : ((0 ≤ x1 ∧ x1 < 301) ∧ ((i32 (V (p0 + 12) x1)) → ((i32 x3) ∧ (((¬ x3 < (V (p0 + 12) x1)) → ((i32 (V p0 12)) → ((i32 (7 * (V p0 12))) ∧ ((i32 ((7 * (V p0 12)) + (V (p0 + 12) x1))) ∧ ((0 ≤ ((7 * (V p0 12)) + (V (p0 + 12) x1)) ∧ ((7 * (V p0 12)) + (V (p0 + 12) x1)) < 2107) ∧ ((i32 x2) ∧ ((i32 ((V (p0 + 12) x1) + 1)) ∧ ((0 ≤ (V p0 12) ∧ (V p0 12) < 301) ∧ cwv d (fun r V17 => r = none ∧ ((i32 (V17 p0 12)) → cwv d (fun r V20 => ∃ v21 : Int, r = some (0, v21) ∧ ((i32 v21) ∧ (((v21 = (-1)) → ((i32 (V20 p0 12)) → (((¬ (V20 p0 12) = 300) → ((i32 ((V20 p0 12) + 1)) ∧ ((i32 (x2 + 1)) ∧ wpv K_X8_findsHeaps d P 34 [some (4, (p0 : Int)), some (0, x1), some (0, (x2 + 1))] [] G R (wr V20 p0 12 (((V20 p0 12) + 1)))))) ∧ (((V20 p0 12) = 300) → P (some (0, 0)) V20)))) ∧ ((¬ v21 = (-1)) → ((i32 (x2 + 1)) ∧ wpv K_X8_findsHeaps d P 34 [some (4, (p0 : Int)), some (0, x1), some (0, (x2 + 1))] [] G R V20))))) 172 [(4, (p0 : Int)), (0, (V17 p0 12)), (0, (V17 p0 12))] G R V17)) 170 [(4, (p0 : Int)), (0, (V p0 12))] G R (wr (wr V (p0 + 11) (((7 * (V p0 12)) + (V (p0 + 12) x1))) x2) (p0 + 12) ((V p0 12)) (((V (p0 + 12) x1) + 1))))))))))) ∧ ((x3 < (V (p0 + 12) x1)) → ((i32 (V p0 12)) → ((i32 (7 * (V p0 12))) ∧ ((i32 ((7 * (V p0 12)) + x3)) ∧ ((i32 (7 * x1)) ∧ ((i32 ((7 * x1) + x3)) ∧ ((0 ≤ ((7 * x1) + x3) ∧ ((7 * x1) + x3) < 2107) ∧ ((i32 (V (p0 + 11) (((7 * x1) + x3)))) → ((0 ≤ ((7 * (V p0 12)) + x3) ∧ ((7 * (V p0 12)) + x3) < 2107) ∧ ((i32 (x3 + 1)) ∧ wpv K_X8_findsHeaps d P 61 [some (4, (p0 : Int)), some (0, x1), some (0, x2), some (0, (x3 + 1))] [] G R (wr V (p0 + 11) (((7 * (V p0 12)) + x3)) ((V (p0 + 11) (((7 * x1) + x3)))))))))))))))))))) : wpv K_X8_findsHeaps d P 61 [some (4, (p0 : Int)), some (0, x1), some (0, x2), some (0, x3)] [] G R V := by
  refine wp_ld (i := (.iload_n 3)) (0, x3) rfl rfl (fun _ => rfl) rfl rfl (?_ : wpv K_X8_findsHeaps d P 62 [some (4, (p0 : Int)), some (0, x1), some (0, x2), some (0, x3)] [(0, x3)] G R V)
  refine wp_ld (i := (.aload_n 0)) (4, (p0 : Int)) rfl rfl (fun _ => rfl) rfl rfl (?_ : wpv K_X8_findsHeaps d P 63 [some (4, (p0 : Int)), some (0, x1), some (0, x2), some (0, x3)] [(4, (p0 : Int)), (0, x3)] G R V)
  refine wp_getA (k := 17) rfl rfl rfl (ly8_o l0) rfl rfl (ly8_17 l0).1 (?_ : wpv K_X8_findsHeaps d P 66 [some (4, (p0 : Int)), some (0, x1), some (0, x2), some (0, x3)] [(4, ((p0 + 12 : Nat) : Int)), (0, x3)] G R V)
  refine wp_ld (i := (.iload_n 1)) (0, x1) rfl rfl (fun _ => rfl) rfl rfl (?_ : wpv K_X8_findsHeaps d P 67 [some (4, (p0 : Int)), some (0, x1), some (0, x2), some (0, x3)] [(0, x1), (4, ((p0 + 12 : Nat) : Int)), (0, x3)] G R V)
  obtain ⟨s1, w⟩ := w
  refine wp_rng (fun vr2 => ?_)
  have f3 : i32 (V (p0 + 12) x1) := vr_a0 vr2 (ly8_17 l0).2 s1
  replace w := w f3
  refine wp_aI rfl rfl (ly8_17 l0).2 s1 (?_ : wpv K_X8_findsHeaps d P 68 [some (4, (p0 : Int)), some (0, x1), some (0, x2), some (0, x3)] [(0, (V (p0 + 12) x1)), (0, x3)] G R V)
  obtain ⟨s4, w⟩ := w
  refine wp_icmp (c := .ge) 102 rfl rfl rfl s4 f3 (fun q => ?_) (fun q => ?_)
  · have q : ¬ x3 < (V (p0 + 12) x1) := q
    replace w := w.1 q
    show wpv K_X8_findsHeaps d P 102 [some (4, (p0 : Int)), some (0, x1), some (0, x2), some (0, x3)] [] G R V
    refine wp_ld (i := (.aload_n 0)) (4, (p0 : Int)) rfl rfl (fun _ => rfl) rfl rfl (?_ : wpv K_X8_findsHeaps d P 103 [some (4, (p0 : Int)), some (0, x1), some (0, x2), some (0, x3)] [(4, (p0 : Int))] G R V)
    refine wp_getA (k := 16) rfl rfl rfl (ly8_o l0) rfl rfl (ly8_16 l0).1 (?_ : wpv K_X8_findsHeaps d P 106 [some (4, (p0 : Int)), some (0, x1), some (0, x2), some (0, x3)] [(4, ((p0 + 11 : Nat) : Int))] G R V)
    refine wp_p (i := (.bipush 7)) rfl rfl (fun _ _ _ => rfl) (?_ : wpv K_X8_findsHeaps d P 108 [some (4, (p0 : Int)), some (0, x1), some (0, x2), some (0, x3)] [(0, 7), (4, ((p0 + 11 : Nat) : Int))] G R V)
    refine wp_ld (i := (.aload_n 0)) (4, (p0 : Int)) rfl rfl (fun _ => rfl) rfl rfl (?_ : wpv K_X8_findsHeaps d P 109 [some (4, (p0 : Int)), some (0, x1), some (0, x2), some (0, x3)] [(4, (p0 : Int)), (0, 7), (4, ((p0 + 11 : Nat) : Int))] G R V)
    have f5 : i32 (V p0 12) := vr_f0 vr2 (ly8_o l0) rfl rfl
    replace w := w f5
    refine wp_getI (k := 12) rfl rfl rfl (ly8_o l0) rfl rfl (?_ : wpv K_X8_findsHeaps d P 112 [some (4, (p0 : Int)), some (0, x1), some (0, x2), some (0, x3)] [(0, (V p0 12)), (0, 7), (4, ((p0 + 11 : Nat) : Int))] G R V)
    obtain ⟨s6, w⟩ := w
    refine wp_xmul rfl rfl s6 (?_ : wpv K_X8_findsHeaps d P 113 [some (4, (p0 : Int)), some (0, x1), some (0, x2), some (0, x3)] [(0, (7 * (V p0 12))), (4, ((p0 + 11 : Nat) : Int))] G R V)
    refine wp_ld (i := (.aload_n 0)) (4, (p0 : Int)) rfl rfl (fun _ => rfl) rfl rfl (?_ : wpv K_X8_findsHeaps d P 114 [some (4, (p0 : Int)), some (0, x1), some (0, x2), some (0, x3)] [(4, (p0 : Int)), (0, (7 * (V p0 12))), (4, ((p0 + 11 : Nat) : Int))] G R V)
    refine wp_getA (k := 17) rfl rfl rfl (ly8_o l0) rfl rfl (ly8_17 l0).1 (?_ : wpv K_X8_findsHeaps d P 117 [some (4, (p0 : Int)), some (0, x1), some (0, x2), some (0, x3)] [(4, ((p0 + 12 : Nat) : Int)), (0, (7 * (V p0 12))), (4, ((p0 + 11 : Nat) : Int))] G R V)
    refine wp_ld (i := (.iload_n 1)) (0, x1) rfl rfl (fun _ => rfl) rfl rfl (?_ : wpv K_X8_findsHeaps d P 118 [some (4, (p0 : Int)), some (0, x1), some (0, x2), some (0, x3)] [(0, x1), (4, ((p0 + 12 : Nat) : Int)), (0, (7 * (V p0 12))), (4, ((p0 + 11 : Nat) : Int))] G R V)
    refine wp_aI rfl rfl (ly8_17 l0).2 s1 (?_ : wpv K_X8_findsHeaps d P 119 [some (4, (p0 : Int)), some (0, x1), some (0, x2), some (0, x3)] [(0, (V (p0 + 12) x1)), (0, (7 * (V p0 12))), (4, ((p0 + 11 : Nat) : Int))] G R V)
    obtain ⟨s7, w⟩ := w
    refine wp_xadd rfl rfl s7 (?_ : wpv K_X8_findsHeaps d P 120 [some (4, (p0 : Int)), some (0, x1), some (0, x2), some (0, x3)] [(0, ((7 * (V p0 12)) + (V (p0 + 12) x1))), (4, ((p0 + 11 : Nat) : Int))] G R V)
    refine wp_ld (i := (.iload_n 2)) (0, x2) rfl rfl (fun _ => rfl) rfl rfl (?_ : wpv K_X8_findsHeaps d P 121 [some (4, (p0 : Int)), some (0, x1), some (0, x2), some (0, x3)] [(0, x2), (0, ((7 * (V p0 12)) + (V (p0 + 12) x1))), (4, ((p0 + 11 : Nat) : Int))] G R V)
    obtain ⟨s8, w⟩ := w
    obtain ⟨s9, w⟩ := w
    refine wp_sI rfl rfl (ly8_16 l0).2 s8 s9 (?_ : wpv K_X8_findsHeaps d P 122 [some (4, (p0 : Int)), some (0, x1), some (0, x2), some (0, x3)] [] G R (wr V (p0 + 11) (((7 * (V p0 12)) + (V (p0 + 12) x1))) x2))
    refine wp_ld (i := (.aload_n 0)) (4, (p0 : Int)) rfl rfl (fun _ => rfl) rfl rfl (?_ : wpv K_X8_findsHeaps d P 123 [some (4, (p0 : Int)), some (0, x1), some (0, x2), some (0, x3)] [(4, (p0 : Int))] G R (wr V (p0 + 11) (((7 * (V p0 12)) + (V (p0 + 12) x1))) x2))
    refine wp_getA (k := 17) rfl rfl rfl (ly8_o l0) rfl rfl (ly8_17 l0).1 (?_ : wpv K_X8_findsHeaps d P 126 [some (4, (p0 : Int)), some (0, x1), some (0, x2), some (0, x3)] [(4, ((p0 + 12 : Nat) : Int))] G R (wr V (p0 + 11) (((7 * (V p0 12)) + (V (p0 + 12) x1))) x2))
    refine wp_ld (i := (.aload_n 0)) (4, (p0 : Int)) rfl rfl (fun _ => rfl) rfl rfl (?_ : wpv K_X8_findsHeaps d P 127 [some (4, (p0 : Int)), some (0, x1), some (0, x2), some (0, x3)] [(4, (p0 : Int)), (4, ((p0 + 12 : Nat) : Int))] G R (wr V (p0 + 11) (((7 * (V p0 12)) + (V (p0 + 12) x1))) x2))
    refine wp_rng (fun vr10 => ?_)
    have r11 : ((wr V (p0 + 11) (((7 * (V p0 12)) + (V (p0 + 12) x1))) x2) p0 12) = (V p0 12) := (wr_a (by omega))
    refine wp_getIe (k := 12) rfl rfl rfl (ly8_o l0) rfl rfl r11 (?_ : wpv K_X8_findsHeaps d P 130 [some (4, (p0 : Int)), some (0, x1), some (0, x2), some (0, x3)] [(0, (V p0 12)), (4, ((p0 + 12 : Nat) : Int))] G R (wr V (p0 + 11) (((7 * (V p0 12)) + (V (p0 + 12) x1))) x2))
    refine wp_ld (i := (.aload_n 0)) (4, (p0 : Int)) rfl rfl (fun _ => rfl) rfl rfl (?_ : wpv K_X8_findsHeaps d P 131 [some (4, (p0 : Int)), some (0, x1), some (0, x2), some (0, x3)] [(4, (p0 : Int)), (0, (V p0 12)), (4, ((p0 + 12 : Nat) : Int))] G R (wr V (p0 + 11) (((7 * (V p0 12)) + (V (p0 + 12) x1))) x2))
    refine wp_getA (k := 17) rfl rfl rfl (ly8_o l0) rfl rfl (ly8_17 l0).1 (?_ : wpv K_X8_findsHeaps d P 134 [some (4, (p0 : Int)), some (0, x1), some (0, x2), some (0, x3)] [(4, ((p0 + 12 : Nat) : Int)), (0, (V p0 12)), (4, ((p0 + 12 : Nat) : Int))] G R (wr V (p0 + 11) (((7 * (V p0 12)) + (V (p0 + 12) x1))) x2))
    refine wp_ld (i := (.iload_n 1)) (0, x1) rfl rfl (fun _ => rfl) rfl rfl (?_ : wpv K_X8_findsHeaps d P 135 [some (4, (p0 : Int)), some (0, x1), some (0, x2), some (0, x3)] [(0, x1), (4, ((p0 + 12 : Nat) : Int)), (0, (V p0 12)), (4, ((p0 + 12 : Nat) : Int))] G R (wr V (p0 + 11) (((7 * (V p0 12)) + (V (p0 + 12) x1))) x2))
    have r12 : ((wr V (p0 + 11) (((7 * (V p0 12)) + (V (p0 + 12) x1))) x2) (p0 + 12) x1) = (V (p0 + 12) x1) := (wr_a (by omega))
    refine wp_aIe rfl rfl (ly8_17 l0).2 s1 r12 (?_ : wpv K_X8_findsHeaps d P 136 [some (4, (p0 : Int)), some (0, x1), some (0, x2), some (0, x3)] [(0, (V (p0 + 12) x1)), (0, (V p0 12)), (4, ((p0 + 12 : Nat) : Int))] G R (wr V (p0 + 11) (((7 * (V p0 12)) + (V (p0 + 12) x1))) x2))
    refine wp_p (i := (.iconst 1)) rfl rfl (fun _ _ _ => rfl) (?_ : wpv K_X8_findsHeaps d P 137 [some (4, (p0 : Int)), some (0, x1), some (0, x2), some (0, x3)] [(0, 1), (0, (V (p0 + 12) x1)), (0, (V p0 12)), (4, ((p0 + 12 : Nat) : Int))] G R (wr V (p0 + 11) (((7 * (V p0 12)) + (V (p0 + 12) x1))) x2))
    obtain ⟨s13, w⟩ := w
    refine wp_xadd rfl rfl s13 (?_ : wpv K_X8_findsHeaps d P 138 [some (4, (p0 : Int)), some (0, x1), some (0, x2), some (0, x3)] [(0, ((V (p0 + 12) x1) + 1)), (0, (V p0 12)), (4, ((p0 + 12 : Nat) : Int))] G R (wr V (p0 + 11) (((7 * (V p0 12)) + (V (p0 + 12) x1))) x2))
    obtain ⟨s14, w⟩ := w
    refine wp_sI rfl rfl (ly8_17 l0).2 s14 s13 (?_ : wpv K_X8_findsHeaps d P 139 [some (4, (p0 : Int)), some (0, x1), some (0, x2), some (0, x3)] [] G R (wr (wr V (p0 + 11) (((7 * (V p0 12)) + (V (p0 + 12) x1))) x2) (p0 + 12) ((V p0 12)) (((V (p0 + 12) x1) + 1))))
    refine wp_ld (i := (.aload_n 0)) (4, (p0 : Int)) rfl rfl (fun _ => rfl) rfl rfl (?_ : wpv K_X8_findsHeaps d P 140 [some (4, (p0 : Int)), some (0, x1), some (0, x2), some (0, x3)] [(4, (p0 : Int))] G R (wr (wr V (p0 + 11) (((7 * (V p0 12)) + (V (p0 + 12) x1))) x2) (p0 + 12) ((V p0 12)) (((V (p0 + 12) x1) + 1))))
    refine wp_ld (i := (.aload_n 0)) (4, (p0 : Int)) rfl rfl (fun _ => rfl) rfl rfl (?_ : wpv K_X8_findsHeaps d P 141 [some (4, (p0 : Int)), some (0, x1), some (0, x2), some (0, x3)] [(4, (p0 : Int)), (4, (p0 : Int))] G R (wr (wr V (p0 + 11) (((7 * (V p0 12)) + (V (p0 + 12) x1))) x2) (p0 + 12) ((V p0 12)) (((V (p0 + 12) x1) + 1))))
    refine wp_rng (fun vr15 => ?_)
    have r16 : ((wr (wr V (p0 + 11) (((7 * (V p0 12)) + (V (p0 + 12) x1))) x2) (p0 + 12) ((V p0 12)) (((V (p0 + 12) x1) + 1))) p0 12) = (V p0 12) := ((wr_a (by omega)).trans (wr_a (by omega)))
    refine wp_getIe (k := 12) rfl rfl rfl (ly8_o l0) rfl rfl r16 (?_ : wpv K_X8_findsHeaps d P 144 [some (4, (p0 : Int)), some (0, x1), some (0, x2), some (0, x3)] [(0, (V p0 12)), (4, (p0 : Int))] G R (wr (wr V (p0 + 11) (((7 * (V p0 12)) + (V (p0 + 12) x1))) x2) (p0 + 12) ((V p0 12)) (((V (p0 + 12) x1) + 1))))
    refine wp_virt (as := [(0, (V p0 12))]) (a := p0) (st := []) _ rfl rfl rfl rfl rfl rfl (ly8_o l0) (Nat.le_of_ble_eq_true rfl) (cwv_k0 w (fun V17 w => ?_))
    show wpv K_X8_findsHeaps d P 147 [some (4, (p0 : Int)), some (0, x1), some (0, x2), some (0, x3)] [] G R V17
    refine wp_ld (i := (.aload_n 0)) (4, (p0 : Int)) rfl rfl (fun _ => rfl) rfl rfl (?_ : wpv K_X8_findsHeaps d P 148 [some (4, (p0 : Int)), some (0, x1), some (0, x2), some (0, x3)] [(4, (p0 : Int))] G R V17)
    refine wp_ld (i := (.aload_n 0)) (4, (p0 : Int)) rfl rfl (fun _ => rfl) rfl rfl (?_ : wpv K_X8_findsHeaps d P 149 [some (4, (p0 : Int)), some (0, x1), some (0, x2), some (0, x3)] [(4, (p0 : Int)), (4, (p0 : Int))] G R V17)
    refine wp_rng (fun vr18 => ?_)
    have f19 : i32 (V17 p0 12) := vr_f0 vr18 (ly8_o l0) rfl rfl
    replace w := w f19
    refine wp_getI (k := 12) rfl rfl rfl (ly8_o l0) rfl rfl (?_ : wpv K_X8_findsHeaps d P 152 [some (4, (p0 : Int)), some (0, x1), some (0, x2), some (0, x3)] [(0, (V17 p0 12)), (4, (p0 : Int))] G R V17)
    refine wp_ld (i := (.aload_n 0)) (4, (p0 : Int)) rfl rfl (fun _ => rfl) rfl rfl (?_ : wpv K_X8_findsHeaps d P 153 [some (4, (p0 : Int)), some (0, x1), some (0, x2), some (0, x3)] [(4, (p0 : Int)), (0, (V17 p0 12)), (4, (p0 : Int))] G R V17)
    refine wp_getI (k := 12) rfl rfl rfl (ly8_o l0) rfl rfl (?_ : wpv K_X8_findsHeaps d P 156 [some (4, (p0 : Int)), some (0, x1), some (0, x2), some (0, x3)] [(0, (V17 p0 12)), (0, (V17 p0 12)), (4, (p0 : Int))] G R V17)
    refine wp_virt (as := [(0, (V17 p0 12)), (0, (V17 p0 12))]) (a := p0) (st := []) _ rfl rfl rfl rfl rfl rfl (ly8_o l0) (Nat.le_of_ble_eq_true rfl) (cwv_kI w (fun v21 V20 w => ?_))
    show wpv K_X8_findsHeaps d P 159 [some (4, (p0 : Int)), some (0, x1), some (0, x2), some (0, x3)] [(0, v21)] G R V20
    refine wp_p (i := (.iconst (-1))) rfl rfl (fun _ _ _ => rfl) (?_ : wpv K_X8_findsHeaps d P 160 [some (4, (p0 : Int)), some (0, x1), some (0, x2), some (0, x3)] [(0, (-1)), (0, v21)] G R V20)
    obtain ⟨s22, w⟩ := w
    refine wp_icmp (c := .eq) 166 rfl rfl rfl s22 ⟨by omega, by omega⟩ (fun q => ?_) (fun q => ?_)
    · have q : v21 = (-1) := q
      replace w := w.1 q
      show wpv K_X8_findsHeaps d P 166 [some (4, (p0 : Int)), some (0, x1), some (0, x2), some (0, x3)] [] G R V20
      refine wp_ld (i := (.aload_n 0)) (4, (p0 : Int)) rfl rfl (fun _ => rfl) rfl rfl (?_ : wpv K_X8_findsHeaps d P 167 [some (4, (p0 : Int)), some (0, x1), some (0, x2), some (0, x3)] [(4, (p0 : Int))] G R V20)
      refine wp_rng (fun vr23 => ?_)
      have f24 : i32 (V20 p0 12) := vr_f0 vr23 (ly8_o l0) rfl rfl
      replace w := w f24
      refine wp_getI (k := 12) rfl rfl rfl (ly8_o l0) rfl rfl (?_ : wpv K_X8_findsHeaps d P 170 [some (4, (p0 : Int)), some (0, x1), some (0, x2), some (0, x3)] [(0, (V20 p0 12))] G R V20)
      refine wp_p (i := (.sipush 300)) rfl rfl (fun _ _ _ => rfl) (?_ : wpv K_X8_findsHeaps d P 173 [some (4, (p0 : Int)), some (0, x1), some (0, x2), some (0, x3)] [(0, 300), (0, (V20 p0 12))] G R V20)
      refine wp_icmp (c := .ne) 178 rfl rfl rfl f24 ⟨by omega, by omega⟩ (fun q => ?_) (fun q => ?_)
      · have q : ¬ (V20 p0 12) = 300 := q
        replace w := w.1 q
        show wpv K_X8_findsHeaps d P 178 [some (4, (p0 : Int)), some (0, x1), some (0, x2), some (0, x3)] [] G R V20
        refine wp_ld (i := (.aload_n 0)) (4, (p0 : Int)) rfl rfl (fun _ => rfl) rfl rfl (?_ : wpv K_X8_findsHeaps d P 179 [some (4, (p0 : Int)), some (0, x1), some (0, x2), some (0, x3)] [(4, (p0 : Int))] G R V20)
        refine wp_p (i := .dup) rfl rfl (fun _ _ _ => rfl) (?_ : wpv K_X8_findsHeaps d P 180 [some (4, (p0 : Int)), some (0, x1), some (0, x2), some (0, x3)] [(4, (p0 : Int)), (4, (p0 : Int))] G R V20)
        refine wp_getI (k := 12) rfl rfl rfl (ly8_o l0) rfl rfl (?_ : wpv K_X8_findsHeaps d P 183 [some (4, (p0 : Int)), some (0, x1), some (0, x2), some (0, x3)] [(0, (V20 p0 12)), (4, (p0 : Int))] G R V20)
        refine wp_p (i := (.iconst 1)) rfl rfl (fun _ _ _ => rfl) (?_ : wpv K_X8_findsHeaps d P 184 [some (4, (p0 : Int)), some (0, x1), some (0, x2), some (0, x3)] [(0, 1), (0, (V20 p0 12)), (4, (p0 : Int))] G R V20)
        obtain ⟨s25, w⟩ := w
        refine wp_xadd rfl rfl s25 (?_ : wpv K_X8_findsHeaps d P 185 [some (4, (p0 : Int)), some (0, x1), some (0, x2), some (0, x3)] [(0, ((V20 p0 12) + 1)), (4, (p0 : Int))] G R V20)
        refine wp_putI (k := 12) rfl rfl rfl (ly8_o l0) rfl rfl rfl s25 (?_ : wpv K_X8_findsHeaps d P 188 [some (4, (p0 : Int)), some (0, x1), some (0, x2), some (0, x3)] [] G R (wr V20 p0 12 (((V20 p0 12) + 1))))
        obtain ⟨s26, w⟩ := w
        refine wp_inc (x := 2) (k := 1) (a := x2) (c := (x2 + 1)) _ rfl rfl rfl rfl s26 (by omega) rfl ?_
        show wpv K_X8_findsHeaps d P 191 [some (4, (p0 : Int)), some (0, x1), some (0, (x2 + 1)), some (0, x3)] [] G R (wr V20 p0 12 (((V20 p0 12) + 1)))
        refine wp_go 34 rfl rfl rfl (?_ : wpv K_X8_findsHeaps d P 34 [some (4, (p0 : Int)), some (0, x1), some (0, (x2 + 1)), some (0, x3)] [] G R (wr V20 p0 12 (((V20 p0 12) + 1))))
        exact wp_wk (wk_s (wk_s (wk_s wk_0))) w
      · have q : (V20 p0 12) = 300 := Decidable.not_not.mp q
        replace w := w.2 q
        show wpv K_X8_findsHeaps d P 176 [some (4, (p0 : Int)), some (0, x1), some (0, x2), some (0, x3)] [] G R V20
        refine wp_p (i := (.iconst 0)) rfl rfl (fun _ _ _ => rfl) (?_ : wpv K_X8_findsHeaps d P 177 [some (4, (p0 : Int)), some (0, x1), some (0, x2), some (0, x3)] [(0, 0)] G R V20)
        exact wp_rB rfl rfl rfl (by omega) w
    · have q : ¬ v21 = (-1) := q
      replace w := w.2 q
      show wpv K_X8_findsHeaps d P 163 [some (4, (p0 : Int)), some (0, x1), some (0, x2), some (0, x3)] [] G R V20
      refine wp_go 188 rfl rfl rfl (?_ : wpv K_X8_findsHeaps d P 188 [some (4, (p0 : Int)), some (0, x1), some (0, x2), some (0, x3)] [] G R V20)
      obtain ⟨s27, w⟩ := w
      refine wp_inc (x := 2) (k := 1) (a := x2) (c := (x2 + 1)) _ rfl rfl rfl rfl s27 (by omega) rfl ?_
      show wpv K_X8_findsHeaps d P 191 [some (4, (p0 : Int)), some (0, x1), some (0, (x2 + 1)), some (0, x3)] [] G R V20
      refine wp_go 34 rfl rfl rfl (?_ : wpv K_X8_findsHeaps d P 34 [some (4, (p0 : Int)), some (0, x1), some (0, (x2 + 1)), some (0, x3)] [] G R V20)
      exact wp_wk (wk_s (wk_s (wk_s wk_0))) w
  · have q : x3 < (V (p0 + 12) x1) := Decidable.not_not.mp q
    replace w := w.2 q
    show wpv K_X8_findsHeaps d P 71 [some (4, (p0 : Int)), some (0, x1), some (0, x2), some (0, x3)] [] G R V
    refine wp_ld (i := (.aload_n 0)) (4, (p0 : Int)) rfl rfl (fun _ => rfl) rfl rfl (?_ : wpv K_X8_findsHeaps d P 72 [some (4, (p0 : Int)), some (0, x1), some (0, x2), some (0, x3)] [(4, (p0 : Int))] G R V)
    refine wp_getA (k := 16) rfl rfl rfl (ly8_o l0) rfl rfl (ly8_16 l0).1 (?_ : wpv K_X8_findsHeaps d P 75 [some (4, (p0 : Int)), some (0, x1), some (0, x2), some (0, x3)] [(4, ((p0 + 11 : Nat) : Int))] G R V)
    refine wp_p (i := (.bipush 7)) rfl rfl (fun _ _ _ => rfl) (?_ : wpv K_X8_findsHeaps d P 77 [some (4, (p0 : Int)), some (0, x1), some (0, x2), some (0, x3)] [(0, 7), (4, ((p0 + 11 : Nat) : Int))] G R V)
    refine wp_ld (i := (.aload_n 0)) (4, (p0 : Int)) rfl rfl (fun _ => rfl) rfl rfl (?_ : wpv K_X8_findsHeaps d P 78 [some (4, (p0 : Int)), some (0, x1), some (0, x2), some (0, x3)] [(4, (p0 : Int)), (0, 7), (4, ((p0 + 11 : Nat) : Int))] G R V)
    have f28 : i32 (V p0 12) := vr_f0 vr2 (ly8_o l0) rfl rfl
    replace w := w f28
    refine wp_getI (k := 12) rfl rfl rfl (ly8_o l0) rfl rfl (?_ : wpv K_X8_findsHeaps d P 81 [some (4, (p0 : Int)), some (0, x1), some (0, x2), some (0, x3)] [(0, (V p0 12)), (0, 7), (4, ((p0 + 11 : Nat) : Int))] G R V)
    obtain ⟨s29, w⟩ := w
    refine wp_xmul rfl rfl s29 (?_ : wpv K_X8_findsHeaps d P 82 [some (4, (p0 : Int)), some (0, x1), some (0, x2), some (0, x3)] [(0, (7 * (V p0 12))), (4, ((p0 + 11 : Nat) : Int))] G R V)
    refine wp_ld (i := (.iload_n 3)) (0, x3) rfl rfl (fun _ => rfl) rfl rfl (?_ : wpv K_X8_findsHeaps d P 83 [some (4, (p0 : Int)), some (0, x1), some (0, x2), some (0, x3)] [(0, x3), (0, (7 * (V p0 12))), (4, ((p0 + 11 : Nat) : Int))] G R V)
    obtain ⟨s30, w⟩ := w
    refine wp_xadd rfl rfl s30 (?_ : wpv K_X8_findsHeaps d P 84 [some (4, (p0 : Int)), some (0, x1), some (0, x2), some (0, x3)] [(0, ((7 * (V p0 12)) + x3)), (4, ((p0 + 11 : Nat) : Int))] G R V)
    refine wp_ld (i := (.aload_n 0)) (4, (p0 : Int)) rfl rfl (fun _ => rfl) rfl rfl (?_ : wpv K_X8_findsHeaps d P 85 [some (4, (p0 : Int)), some (0, x1), some (0, x2), some (0, x3)] [(4, (p0 : Int)), (0, ((7 * (V p0 12)) + x3)), (4, ((p0 + 11 : Nat) : Int))] G R V)
    refine wp_getA (k := 16) rfl rfl rfl (ly8_o l0) rfl rfl (ly8_16 l0).1 (?_ : wpv K_X8_findsHeaps d P 88 [some (4, (p0 : Int)), some (0, x1), some (0, x2), some (0, x3)] [(4, ((p0 + 11 : Nat) : Int)), (0, ((7 * (V p0 12)) + x3)), (4, ((p0 + 11 : Nat) : Int))] G R V)
    refine wp_p (i := (.bipush 7)) rfl rfl (fun _ _ _ => rfl) (?_ : wpv K_X8_findsHeaps d P 90 [some (4, (p0 : Int)), some (0, x1), some (0, x2), some (0, x3)] [(0, 7), (4, ((p0 + 11 : Nat) : Int)), (0, ((7 * (V p0 12)) + x3)), (4, ((p0 + 11 : Nat) : Int))] G R V)
    refine wp_ld (i := (.iload_n 1)) (0, x1) rfl rfl (fun _ => rfl) rfl rfl (?_ : wpv K_X8_findsHeaps d P 91 [some (4, (p0 : Int)), some (0, x1), some (0, x2), some (0, x3)] [(0, x1), (0, 7), (4, ((p0 + 11 : Nat) : Int)), (0, ((7 * (V p0 12)) + x3)), (4, ((p0 + 11 : Nat) : Int))] G R V)
    obtain ⟨s31, w⟩ := w
    refine wp_xmul rfl rfl s31 (?_ : wpv K_X8_findsHeaps d P 92 [some (4, (p0 : Int)), some (0, x1), some (0, x2), some (0, x3)] [(0, (7 * x1)), (4, ((p0 + 11 : Nat) : Int)), (0, ((7 * (V p0 12)) + x3)), (4, ((p0 + 11 : Nat) : Int))] G R V)
    refine wp_ld (i := (.iload_n 3)) (0, x3) rfl rfl (fun _ => rfl) rfl rfl (?_ : wpv K_X8_findsHeaps d P 93 [some (4, (p0 : Int)), some (0, x1), some (0, x2), some (0, x3)] [(0, x3), (0, (7 * x1)), (4, ((p0 + 11 : Nat) : Int)), (0, ((7 * (V p0 12)) + x3)), (4, ((p0 + 11 : Nat) : Int))] G R V)
    obtain ⟨s32, w⟩ := w
    refine wp_xadd rfl rfl s32 (?_ : wpv K_X8_findsHeaps d P 94 [some (4, (p0 : Int)), some (0, x1), some (0, x2), some (0, x3)] [(0, ((7 * x1) + x3)), (4, ((p0 + 11 : Nat) : Int)), (0, ((7 * (V p0 12)) + x3)), (4, ((p0 + 11 : Nat) : Int))] G R V)
    obtain ⟨s33, w⟩ := w
    have f34 : i32 (V (p0 + 11) (((7 * x1) + x3))) := vr_a0 vr2 (ly8_16 l0).2 s33
    replace w := w f34
    refine wp_aI rfl rfl (ly8_16 l0).2 s33 (?_ : wpv K_X8_findsHeaps d P 95 [some (4, (p0 : Int)), some (0, x1), some (0, x2), some (0, x3)] [(0, (V (p0 + 11) (((7 * x1) + x3)))), (0, ((7 * (V p0 12)) + x3)), (4, ((p0 + 11 : Nat) : Int))] G R V)
    obtain ⟨s35, w⟩ := w
    refine wp_sI rfl rfl (ly8_16 l0).2 s35 f34 (?_ : wpv K_X8_findsHeaps d P 96 [some (4, (p0 : Int)), some (0, x1), some (0, x2), some (0, x3)] [] G R (wr V (p0 + 11) (((7 * (V p0 12)) + x3)) ((V (p0 + 11) (((7 * x1) + x3))))))
    obtain ⟨s36, w⟩ := w
    refine wp_inc (x := 3) (k := 1) (a := x3) (c := (x3 + 1)) _ rfl rfl rfl rfl s36 (by omega) rfl ?_
    show wpv K_X8_findsHeaps d P 99 [some (4, (p0 : Int)), some (0, x1), some (0, x2), some (0, (x3 + 1))] [] G R (wr V (p0 + 11) (((7 * (V p0 12)) + x3)) ((V (p0 + 11) (((7 * x1) + x3)))))
    refine wp_go 61 rfl rfl rfl (?_ : wpv K_X8_findsHeaps d P 61 [some (4, (p0 : Int)), some (0, x1), some (0, x2), some (0, (x3 + 1))] [] G R (wr V (p0 + 11) (((7 * (V p0 12)) + x3)) ((V (p0 + 11) (((7 * x1) + x3))))))
    exact wp_wk (wk_s (wk_s (wk_s (wk_s wk_0)))) w
