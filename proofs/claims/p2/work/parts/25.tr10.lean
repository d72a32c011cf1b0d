theorem t_X7_rank_0 {d : Nat} {P : gP} {p0 : Nat} {G : List gS} {R V : gV} (l0 : lay7 G R p0) (w : wpv K_X7_rank d P 2 [some (4, (p0 : Int)), some (0, 0)] [] G R V) : wpv K_X7_rank d P 0 [some (4, (p0 : Int))] [] G R V := by
  refine wp_p (i := (.iconst 0)) rfl rfl (fun _ _ _ => rfl) (?_ : wpv K_X7_rank d P 1 [some (4, (p0 : Int))] [(0, 0)] G R V)
  refine wp_sto (i := (.istore_n 1)) _ rfl rfl (fun _ => rfl) rfl rfl rfl ?_
  refine wp_wk (L' := [some (4, (p0 : Int)), some (0, 0)]) (wk_s (wk_s wk_0)) ?_
  show wpv K_X7_rank d P 2 [some (4, (p0 : Int)), some (0, 0)] [] G R V
  exact wp_wk (wk_s (wk_s wk_0)) w

theorem t_X7_rank_2 {d : Nat} {P : gP} {p0 : Nat} {x1 : Int} {G : List gS} {R V : gV} (l0 : lay7 G R p0) (w : ((i32 x1) ∧ (((6 < x1) → P (some (0, (-1))) V) ∧ ((¬ 6 < x1) → (∃ b2 : Nat, (R p0 6 = (b2 : Int) ∧ lay1 G R b2) ∧ (∃ b3 : Nat, (R b2 0 = (b3 : Int) ∧ lay2 G R b3) ∧ cwv d (fun r V4 => ∃ v5 : Int, r = some (2, v5) ∧ ((i64 v5) ∧ (((v5 = 0) → ((i32 (x1 + 1)) ∧ wpv K_X7_rank d P 2 [some (4, (p0 : Int)), some (0, (x1 + 1))] [] G R V4)) ∧ ((¬ v5 = 0) → P (some (0, x1)) V4)))) 72 [(4, ((b3 + 10 : Nat) : Int)), (0, x1)] G R V)))))) : wpv K_X7_rank d P 2 [some (4, (p0 : Int)), some (0, x1)] [] G R V := by
  refine wp_ld (i := (.iload_n 1)) (0, x1) rfl rfl (fun _ => rfl) rfl rfl (?_ : wpv K_X7_rank d P 3 [some (4, (p0 : Int)), some (0, x1)] [(0, x1)] G R V)
  refine wp_p (i := (.bipush 6)) rfl rfl (fun _ _ _ => rfl) (?_ : wpv K_X7_rank d P 5 [some (4, (p0 : Int)), some (0, x1)] [(0, 6), (0, x1)] G R V)
  obtain ⟨s1, w⟩ := w
  refine wp_icmp (c := .gt) 35 rfl rfl rfl s1 ⟨by omega, by omega⟩ (fun q => ?_) (fun q => ?_)
  · have q : 6 < x1 := q
    replace w := w.1 q
    show wpv K_X7_rank d P 35 [some (4, (p0 : Int)), some (0, x1)] [] G R V
    refine wp_p (i := (.iconst (-1))) rfl rfl (fun _ _ _ => rfl) (?_ : wpv K_X7_rank d P 36 [some (4, (p0 : Int)), some (0, x1)] [(0, (-1))] G R V)
    exact wp_rI rfl rfl rfl w
  · have q : ¬ 6 < x1 := q
    replace w := w.2 q
    show wpv K_X7_rank d P 8 [some (4, (p0 : Int)), some (0, x1)] [] G R V
    refine wp_ld (i := (.aload_n 0)) (4, (p0 : Int)) rfl rfl (fun _ => rfl) rfl rfl (?_ : wpv K_X7_rank d P 9 [some (4, (p0 : Int)), some (0, x1)] [(4, (p0 : Int))] G R V)
    obtain ⟨b2, ⟨r2, l2_⟩, w⟩ := w
    refine wp_getA (k := 6) rfl rfl rfl (ly7_o l0) rfl rfl r2 (?_ : wpv K_X7_rank d P 12 [some (4, (p0 : Int)), some (0, x1)] [(4, (b2 : Int))] G R V)
    obtain ⟨b3, ⟨r3, l3_⟩, w⟩ := w
    refine wp_getA (k := 0) rfl rfl rfl (ly1_o l2_) rfl rfl r3 (?_ : wpv K_X7_rank d P 15 [some (4, (p0 : Int)), some (0, x1)] [(4, (b3 : Int))] G R V)
    refine wp_getA (k := 1) rfl rfl rfl (ly2_o l3_) rfl rfl (ly2_1 l3_).1 (?_ : wpv K_X7_rank d P 18 [some (4, (p0 : Int)), some (0, x1)] [(4, ((b3 + 10 : Nat) : Int))] G R V)
    refine wp_ld (i := (.iload_n 1)) (0, x1) rfl rfl (fun _ => rfl) rfl rfl (?_ : wpv K_X7_rank d P 19 [some (4, (p0 : Int)), some (0, x1)] [(0, x1), (4, ((b3 + 10 : Nat) : Int))] G R V)
    refine wp_virt (as := [(0, x1)]) (a := b3 + 10) (st := []) _ rfl rfl rfl rfl rfl rfl (ly4_o (ly2_1 l3_).2) (Nat.le_of_ble_eq_true rfl) (cwv_kJ w (fun v5 V4 w => ?_))
    show wpv K_X7_rank d P 22 [some (4, (p0 : Int)), some (0, x1)] [(2, v5)] G R V4
    refine wp_p (i := (.lconst 0)) rfl rfl (fun _ _ _ => rfl) (?_ : wpv K_X7_rank d P 23 [some (4, (p0 : Int)), some (0, x1)] [(2, 0), (2, v5)] G R V4)
    obtain ⟨s6, w⟩ := w
    refine wp_lcmp rfl rfl s6 ⟨by omega, by omega⟩ (?_ : wpv K_X7_rank d P 24 [some (4, (p0 : Int)), some (0, x1)] [(0, sg v5 0)] G R V4)
    refine wp_if (c := .eq) 29 rfl rfl rfl (sg32 _ _) (fun q => ?_) (fun q => ?_)
    · have q : v5 = 0 := sg_eq.mp q
      replace w := w.1 q
      show wpv K_X7_rank d P 29 [some (4, (p0 : Int)), some (0, x1)] [] G R V4
      obtain ⟨s7, w⟩ := w
      refine wp_inc (x := 1) (k := 1) (a := x1) (c := (x1 + 1)) _ rfl rfl rfl rfl s7 (by omega) rfl ?_
      show wpv K_X7_rank d P 32 [some (4, (p0 : Int)), some (0, (x1 + 1))] [] G R V4
      refine wp_go 2 rfl rfl rfl (?_ : wpv K_X7_rank d P 2 [some (4, (p0 : Int)), some (0, (x1 + 1))] [] G R V4)
      exact wp_wk (wk_s (wk_s wk_0)) w
    · have q : ¬ v5 = 0 := fun z => q (sg_eq.mpr z)
      replace w := w.2 q
      show wpv K_X7_rank d P 27 [some (4, (p0 : Int)), some (0, x1)] [] G R V4
      refine wp_ld (i := (.iload_n 1)) (0, x1) rfl rfl (fun _ => rfl) rfl rfl (?_ : wpv K_X7_rank d P 28 [some (4, (p0 : Int)), some (0, x1)] [(0, x1)] G R V4)
      exact wp_rI rfl rfl rfl w
theorem t_X7_status_0 {d : Nat} {P : gP} {p0 : Nat} {G : List gS} {R V : gV} (l0 : lay7 G R p0) (w : ((i32 (V p0 7)) → P (some (0, (V p0 7))) V)) : wpv K_X7_status d P 0 [some (4, (p0 : Int))] [] G R V := by
  refine wp_ld (i := (.aload_n 0)) (4, (p0 : Int)) rfl rfl (fun _ => rfl) rfl rfl (?_ : wpv K_X7_status d P 1 [some (4, (p0 : Int))] [(4, (p0 : Int))] G R V)
  refine wp_rng (fun vr1 => ?_)
  have f2 : i32 (V p0 7) := vr_f0 vr1 (ly7_o l0) rfl rfl
  replace w := w f2
  refine wp_getI (k := 7) rfl rfl rfl (ly7_o l0) rfl rfl (?_ : wpv K_X7_status d P 4 [some (4, (p0 : Int))] [(0, (V p0 7))] G R V)
  exact wp_rI rfl rfl rfl w
theorem t_X7_refuse_0 {d : Nat} {P : gP} {p0 : Nat} {x1 : Int} {G : List gS} {R V : gV} (l0 : lay7 G R p0) (w : ((i32 x1) ∧ P (some (0, x1)) (wr V p0 7 x1))) : wpv K_X7_refuse d P 0 [some (4, (p0 : Int)), some (0, x1)] [] G R V := by
  refine wp_ld (i := (.aload_n 0)) (4, (p0 : Int)) rfl rfl (fun _ => rfl) rfl rfl (?_ : wpv K_X7_refuse d P 1 [some (4, (p0 : Int)), some (0, x1)] [(4, (p0 : Int))] G R V)
  refine wp_ld (i := (.iload_n 1)) (0, x1) rfl rfl (fun _ => rfl) rfl rfl (?_ : wpv K_X7_refuse d P 2 [some (4, (p0 : Int)), some (0, x1)] [(0, x1), (4, (p0 : Int))] G R V)
  obtain ⟨s1, w⟩ := w
  refine wp_putI (k := 7) rfl rfl rfl (ly7_o l0) rfl rfl rfl s1 (?_ : wpv K_X7_refuse d P 5 [some (4, (p0 : Int)), some (0, x1)] [] G R (wr V p0 7 x1))
  refine wp_ld (i := (.iload_n 1)) (0, x1) rfl rfl (fun _ => rfl) rfl rfl (?_ : wpv K_X7_refuse d P 6 [some (4, (p0 : Int)), some (0, x1)] [(0, x1)] G R (wr V p0 7 x1))
  exact wp_rI rfl rfl rfl w
theorem t_X7_accept_0 {d : Nat} {P : gP} {p0 : Nat} {x1 : Int} {G : List gS} {R V : gV} (l0 : lay7 G R p0) (w : P (some (0, x1)) (wr V p0 7 0)) : wpv K_X7_accept d P 0 [some (4, (p0 : Int)), some (0, x1)] [] G R V := by
  refine wp_ld (i := (.aload_n 0)) (4, (p0 : Int)) rfl rfl (fun _ => rfl) rfl rfl (?_ : wpv K_X7_accept d P 1 [some (4, (p0 : Int)), some (0, x1)] [(4, (p0 : Int))] G R V)
  refine wp_p (i := (.iconst 0)) rfl rfl (fun _ _ _ => rfl) (?_ : wpv K_X7_accept d P 2 [some (4, (p0 : Int)), some (0, x1)] [(0, 0), (4, (p0 : Int))] G R V)
  refine wp_putI (k := 7) rfl rfl rfl (ly7_o l0) rfl rfl rfl ⟨by omega, by omega⟩ (?_ : wpv K_X7_accept d P 5 [some (4, (p0 : Int)), some (0, x1)] [] G R (wr V p0 7 0))
  refine wp_ld (i := (.iload_n 1)) (0, x1) rfl rfl (fun _ => rfl) rfl rfl (?_ : wpv K_X7_accept d P 6 [some (4, (p0 : Int)), some (0, x1)] [(0, x1)] G R (wr V p0 7 0))
  exact wp_rI rfl rfl rfl w
theorem t_X7_isWay_0 {d : Nat} {P : gP} {x0 : Int} {G : List gS} {R V : gV}  (w : ((i32 x0) ∧ (((x0 = 0) → P (some (0, 1)) V) ∧ ((¬ x0 = 0) → (((¬ x0 = 1) → P (some (0, 0)) V) ∧ ((x0 = 1) → P (some (0, 1)) V)))))) : wpv K_X7_isWay d P 0 [some (0, x0)] [] G R V := by
  refine wp_ld (i := (.iload_n 0)) (0, x0) rfl rfl (fun _ => rfl) rfl rfl (?_ : wpv K_X7_isWay d P 1 [some (0, x0)] [(0, x0)] G R V)
  obtain ⟨s1, w⟩ := w
  refine wp_if (c := .eq) 9 rfl rfl rfl s1 (fun q => ?_) (fun q => ?_)
  · have q : x0 = 0 := q
    replace w := w.1 q
    show wpv K_X7_isWay d P 9 [some (0, x0)] [] G R V
    refine wp_p (i := (.iconst 1)) rfl rfl (fun _ _ _ => rfl) (?_ : wpv K_X7_isWay d P 10 [some (0, x0)] [(0, 1)] G R V)
    refine wp_go 14 rfl rfl rfl (?_ : wpv K_X7_isWay d P 14 [some (0, x0)] [(0, 1)] G R V)
    exact wp_rB rfl rfl rfl (by omega) w
  · have q : ¬ x0 = 0 := q
    replace w := w.2 q
    show wpv K_X7_isWay d P 4 [some (0, x0)] [] G R V
    refine wp_ld (i := (.iload_n 0)) (0, x0) rfl rfl (fun _ => rfl) rfl rfl (?_ : wpv K_X7_isWay d P 5 [some (0, x0)] [(0, x0)] G R V)
    refine wp_p (i := (.iconst 1)) rfl rfl (fun _ _ _ => rfl) (?_ : wpv K_X7_isWay d P 6 [some (0, x0)] [(0, 1), (0, x0)] G R V)
    refine wp_icmp (c := .ne) 13 rfl rfl rfl s1 ⟨by omega, by omega⟩ (fun q => ?_) (fun q => ?_)
    · have q : ¬ x0 = 1 := q
      replace w := w.1 q
      show wpv K_X7_isWay d P 13 [some (0, x0)] [] G R V
      refine wp_p (i := (.iconst 0)) rfl rfl (fun _ _ _ => rfl) (?_ : wpv K_X7_isWay d P 14 [some (0, x0)] [(0, 0)] G R V)
      exact wp_rB rfl rfl rfl (by omega) w
    · have q : x0 = 1 := Decidable.not_not.mp q
      replace w := w.2 q
      show wpv K_X7_isWay d P 9 [some (0, x0)] [] G R V
      refine wp_p (i := (.iconst 1)) rfl rfl (fun _ _ _ => rfl) (?_ : wpv K_X7_isWay d P 10 [some (0, x0)] [(0, 1)] G R V)
      refine wp_go 14 rfl rfl rfl (?_ : wpv K_X7_isWay d P 14 [some (0, x0)] [(0, 1)] G R V)
      exact wp_rB rfl rfl rfl (by omega) w
theorem t_X7_isActNumber_0 {d : Nat} {P : gP} {x0 : Int} {G : List gS} {R V : gV}  (w : ((i32 x0) ∧ (((x0 < 0) → P (some (0, 0)) V) ∧ ((¬ x0 < 0) → (((¬ x0 < 8) → P (some (0, 0)) V) ∧ ((x0 < 8) → P (some (0, 1)) V)))))) : wpv K_X7_isActNumber d P 0 [some (0, x0)] [] G R V := by
  refine wp_ld (i := (.iload_n 0)) (0, x0) rfl rfl (fun _ => rfl) rfl rfl (?_ : wpv K_X7_isActNumber d P 1 [some (0, x0)] [(0, x0)] G R V)
  obtain ⟨s1, w⟩ := w
  refine wp_if (c := .lt) 14 rfl rfl rfl s1 (fun q => ?_) (fun q => ?_)
  · have q : x0 < 0 := q
    replace w := w.1 q
    show wpv K_X7_isActNumber d P 14 [some (0, x0)] [] G R V
    refine wp_p (i := (.iconst 0)) rfl rfl (fun _ _ _ => rfl) (?_ : wpv K_X7_isActNumber d P 15 [some (0, x0)] [(0, 0)] G R V)
    exact wp_rB rfl rfl rfl (by omega) w
  · have q : ¬ x0 < 0 := q
    replace w := w.2 q
    show wpv K_X7_isActNumber d P 4 [some (0, x0)] [] G R V
    refine wp_ld (i := (.iload_n 0)) (0, x0) rfl rfl (fun _ => rfl) rfl rfl (?_ : wpv K_X7_isActNumber d P 5 [some (0, x0)] [(0, x0)] G R V)
    refine wp_p (i := (.bipush 8)) rfl rfl (fun _ _ _ => rfl) (?_ : wpv K_X7_isActNumber d P 7 [some (0, x0)] [(0, 8), (0, x0)] G R V)
    refine wp_icmp (c := .ge) 14 rfl rfl rfl s1 ⟨by omega, by omega⟩ (fun q => ?_) (fun q => ?_)
    · have q : ¬ x0 < 8 := q
      replace w := w.1 q
      show wpv K_X7_isActNumber d P 14 [some (0, x0)] [] G R V
      refine wp_p (i := (.iconst 0)) rfl rfl (fun _ _ _ => rfl) (?_ : wpv K_X7_isActNumber d P 15 [some (0, x0)] [(0, 0)] G R V)
      exact wp_rB rfl rfl rfl (by omega) w
    · have q : x0 < 8 := Decidable.not_not.mp q
      replace w := w.2 q
      show wpv K_X7_isActNumber d P 10 [some (0, x0)] [] G R V
      refine wp_p (i := (.iconst 1)) rfl rfl (fun _ _ _ => rfl) (?_ : wpv K_X7_isActNumber d P 11 [some (0, x0)] [(0, 1)] G R V)
      refine wp_go 15 rfl rfl rfl (?_ : wpv K_X7_isActNumber d P 15 [some (0, x0)] [(0, 1)] G R V)
      exact wp_rB rfl rfl rfl (by omega) w
theorem t_X7_isAct_0 {d : Nat} {P : gP} {p0 : Nat} {x1 : Int} {G : List gS} {R V : gV} (l0 : lay7 G R p0) (w : cwv d (fun r V1 => ∃ v2 : Int, r = some (0, v2) ∧ ((i32 v2) ∧ (((v2 = 0) → P (some (0, 0)) V1) ∧ ((¬ v2 = 0) → (∃ b4 : Nat, (R p0 6 = (b4 : Int) ∧ lay1 G R b4) ∧ ((0 ≤ x1 ∧ x1 < 8) ∧ (((V1 (b4 + 1) x1) = 0 ∨ (V1 (b4 + 1) x1) = 1) → ((((V1 (b4 + 1) x1) = 0) → P (some (0, 0)) V1) ∧ ((¬ (V1 (b4 + 1) x1) = 0) → P (some (0, 1)) V1))))))))) 141 [(0, x1)] G R V) : wpv K_X7_isAct d P 0 [some (4, (p0 : Int)), some (0, x1)] [] G R V := by
  refine wp_ld (i := (.iload_n 1)) (0, x1) rfl rfl (fun _ => rfl) rfl rfl (?_ : wpv K_X7_isAct d P 1 [some (4, (p0 : Int)), some (0, x1)] [(0, x1)] G R V)
  refine wp_stat (as := [(0, x1)]) (st := []) _ rfl rfl rfl (by omega) rfl rfl (Nat.le_of_ble_eq_true rfl) (cwv_kI w (fun v2 V1 w => ?_))
  show wpv K_X7_isAct d P 4 [some (4, (p0 : Int)), some (0, x1)] [(0, v2)] G R V1
  obtain ⟨s3, w⟩ := w
  refine wp_if (c := .eq) 23 rfl rfl rfl s3 (fun q => ?_) (fun q => ?_)
  · have q : v2 = 0 := q
    replace w := w.1 q
    show wpv K_X7_isAct d P 23 [some (4, (p0 : Int)), some (0, x1)] [] G R V1
    refine wp_p (i := (.iconst 0)) rfl rfl (fun _ _ _ => rfl) (?_ : wpv K_X7_isAct d P 24 [some (4, (p0 : Int)), some (0, x1)] [(0, 0)] G R V1)
    exact wp_rB rfl rfl rfl (by omega) w
  · have q : ¬ v2 = 0 := q
    replace w := w.2 q
    show wpv K_X7_isAct d P 7 [some (4, (p0 : Int)), some (0, x1)] [] G R V1
    refine wp_ld (i := (.aload_n 0)) (4, (p0 : Int)) rfl rfl (fun _ => rfl) rfl rfl (?_ : wpv K_X7_isAct d P 8 [some (4, (p0 : Int)), some (0, x1)] [(4, (p0 : Int))] G R V1)
    obtain ⟨b4, ⟨r4, l4_⟩, w⟩ := w
    refine wp_getA (k := 6) rfl rfl rfl (ly7_o l0) rfl rfl r4 (?_ : wpv K_X7_isAct d P 11 [some (4, (p0 : Int)), some (0, x1)] [(4, (b4 : Int))] G R V1)
    refine wp_getA (k := 1) rfl rfl rfl (ly1_o l4_) rfl rfl (ly1_1 l4_).1 (?_ : wpv K_X7_isAct d P 14 [some (4, (p0 : Int)), some (0, x1)] [(4, ((b4 + 1 : Nat) : Int))] G R V1)
    refine wp_ld (i := (.iload_n 1)) (0, x1) rfl rfl (fun _ => rfl) rfl rfl (?_ : wpv K_X7_isAct d P 15 [some (4, (p0 : Int)), some (0, x1)] [(0, x1), (4, ((b4 + 1 : Nat) : Int))] G R V1)
    obtain ⟨s5, w⟩ := w
    refine wp_rng (fun vr6 => ?_)
    have f7 : (V1 (b4 + 1) x1) = 0 ∨ (V1 (b4 + 1) x1) = 1 := vr_a2 vr6 (ly1_1 l4_).2 s5
    replace w := w f7
    have f8 : i32 (V1 (b4 + 1) x1) := by unfold i32; omega
    refine wp_aB rfl rfl (ly1_1 l4_).2 s5 (?_ : wpv K_X7_isAct d P 16 [some (4, (p0 : Int)), some (0, x1)] [(0, (V1 (b4 + 1) x1))] G R V1)
    refine wp_if (c := .eq) 23 rfl rfl rfl f8 (fun q => ?_) (fun q => ?_)
    · have q : (V1 (b4 + 1) x1) = 0 := q
      replace w := w.1 q
      show wpv K_X7_isAct d P 23 [some (4, (p0 : Int)), some (0, x1)] [] G R V1
      refine wp_p (i := (.iconst 0)) rfl rfl (fun _ _ _ => rfl) (?_ : wpv K_X7_isAct d P 24 [some (4, (p0 : Int)), some (0, x1)] [(0, 0)] G R V1)
      exact wp_rB rfl rfl rfl (by omega) w
    · have q : ¬ (V1 (b4 + 1) x1) = 0 := q
      replace w := w.2 q
      show wpv K_X7_isAct d P 19 [some (4, (p0 : Int)), some (0, x1)] [] G R V1
      refine wp_p (i := (.iconst 1)) rfl rfl (fun _ _ _ => rfl) (?_ : wpv K_X7_isAct d P 20 [some (4, (p0 : Int)), some (0, x1)] [(0, 1)] G R V1)
      refine wp_go 24 rfl rfl rfl (?_ : wpv K_X7_isAct d P 24 [some (4, (p0 : Int)), some (0, x1)] [(0, 1)] G R V1)
      exact wp_rB rfl rfl rfl (by omega) w
theorem t_X7_keepMade_0 {d : Nat} {P : gP} {p0 : Nat} {x1 : Int} {G : List gS} {R V : gV} (l0 : lay7 G R p0) (w : (∃ b1 : Nat, (R p0 6 = (b1 : Int) ∧ lay1 G R b1) ∧ cwv d (fun r V2 => r = none ∧ cwv d (fun r V3 => ∃ v4 : Int, r = some (2, v4) ∧ P (some (2, v4)) V3) 23 [(4, (b1 : Int)), (0, x1)] G R (wr V2 p0 7 0)) 19 [(4, (b1 : Int)), (0, x1), (4, ((p0 + 15 : Nat) : Int))] G R V)) : wpv K_X7_keepMade d P 0 [some (4, (p0 : Int)), some (0, x1)] [] G R V := by
  refine wp_ld (i := (.aload_n 0)) (4, (p0 : Int)) rfl rfl (fun _ => rfl) rfl rfl (?_ : wpv K_X7_keepMade d P 1 [some (4, (p0 : Int)), some (0, x1)] [(4, (p0 : Int))] G R V)
  obtain ⟨b1, ⟨r1, l1_⟩, w⟩ := w
  refine wp_getA (k := 6) rfl rfl rfl (ly7_o l0) rfl rfl r1 (?_ : wpv K_X7_keepMade d P 4 [some (4, (p0 : Int)), some (0, x1)] [(4, (b1 : Int))] G R V)
  refine wp_ld (i := (.iload_n 1)) (0, x1) rfl rfl (fun _ => rfl) rfl rfl (?_ : wpv K_X7_keepMade d P 5 [some (4, (p0 : Int)), some (0, x1)] [(0, x1), (4, (b1 : Int))] G R V)
  refine wp_ld (i := (.aload_n 0)) (4, (p0 : Int)) rfl rfl (fun _ => rfl) rfl rfl (?_ : wpv K_X7_keepMade d P 6 [some (4, (p0 : Int)), some (0, x1)] [(4, (p0 : Int)), (0, x1), (4, (b1 : Int))] G R V)
  refine wp_getA (k := 3) rfl rfl rfl (ly7_o l0) rfl rfl (ly7_3 l0).1 (?_ : wpv K_X7_keepMade d P 9 [some (4, (p0 : Int)), some (0, x1)] [(4, ((p0 + 15 : Nat) : Int)), (0, x1), (4, (b1 : Int))] G R V)
  refine wp_virt (as := [(0, x1), (4, ((p0 + 15 : Nat) : Int))]) (a := b1) (st := []) _ rfl rfl rfl rfl rfl rfl (ly1_o l1_) (Nat.le_of_ble_eq_true rfl) (cwv_k0 w (fun V2 w => ?_))
  show wpv K_X7_keepMade d P 12 [some (4, (p0 : Int)), some (0, x1)] [] G R V2
  refine wp_ld (i := (.aload_n 0)) (4, (p0 : Int)) rfl rfl (fun _ => rfl) rfl rfl (?_ : wpv K_X7_keepMade d P 13 [some (4, (p0 : Int)), some (0, x1)] [(4, (p0 : Int))] G R V2)
  refine wp_p (i := (.iconst 0)) rfl rfl (fun _ _ _ => rfl) (?_ : wpv K_X7_keepMade d P 14 [some (4, (p0 : Int)), some (0, x1)] [(0, 0), (4, (p0 : Int))] G R V2)
  refine wp_putI (k := 7) rfl rfl rfl (ly7_o l0) rfl rfl rfl ⟨by omega, by omega⟩ (?_ : wpv K_X7_keepMade d P 17 [some (4, (p0 : Int)), some (0, x1)] [] G R (wr V2 p0 7 0))
  refine wp_ld (i := (.aload_n 0)) (4, (p0 : Int)) rfl rfl (fun _ => rfl) rfl rfl (?_ : wpv K_X7_keepMade d P 18 [some (4, (p0 : Int)), some (0, x1)] [(4, (p0 : Int))] G R (wr V2 p0 7 0))
  refine wp_getA (k := 6) rfl rfl rfl (ly7_o l0) rfl rfl r1 (?_ : wpv K_X7_keepMade d P 21 [some (4, (p0 : Int)), some (0, x1)] [(4, (b1 : Int))] G R (wr V2 p0 7 0))
  refine wp_ld (i := (.iload_n 1)) (0, x1) rfl rfl (fun _ => rfl) rfl rfl (?_ : wpv K_X7_keepMade d P 22 [some (4, (p0 : Int)), some (0, x1)] [(0, x1), (4, (b1 : Int))] G R (wr V2 p0 7 0))
  refine wp_virt (as := [(0, x1)]) (a := b1) (st := []) _ rfl rfl rfl rfl rfl rfl (ly1_o l1_) (Nat.le_of_ble_eq_true rfl) (cwv_kJ w (fun v4 V3 w => ?_))
  show wpv K_X7_keepMade d P 25 [some (4, (p0 : Int)), some (0, x1)] [(2, v4)] G R V3
  exact wp_rJ rfl rfl rfl w
theorem t_X7_readSheets_0 {d : Nat} {P : gP} {p0 : Nat} {x1 : Int} {G : List gS} {R V : gV} (l0 : lay7 G R p0) (w : wpv K_X7_readSheets d P 2 [some (4, (p0 : Int)), some (0, x1), some (0, 0)] [] G R V) : wpv K_X7_readSheets d P 0 [some (4, (p0 : Int)), some (0, x1)] [] G R V := by
  refine wp_p (i := (.iconst 0)) rfl rfl (fun _ _ _ => rfl) (?_ : wpv K_X7_readSheets d P 1 [some (4, (p0 : Int)), some (0, x1)] [(0, 0)] G R V)
  refine wp_sto (i := (.istore_n 2)) _ rfl rfl (fun _ => rfl) rfl rfl rfl ?_
  refine wp_wk (L' := [some (4, (p0 : Int)), some (0, x1), some (0, 0)]) (wk_s (wk_s (wk_s wk_0))) ?_
  show wpv K_X7_readSheets d P 2 [some (4, (p0 : Int)), some (0, x1), some (0, 0)] [] G R V
  exact wp_wk (wk_s (wk_s (wk_s wk_0))) w

theorem t_X7_readSheets_2 {d : Nat} {P : gP} {p0 : Nat} {x1 : Int} {x2 : Int} {G : List gS} {R V : gV} (l0 : lay7 G R p0) (w : ((i32 x2) ∧ (((¬ x2 < 4) → P (some (0, 1)) V) ∧ ((x2 < 4) → ((0 ≤ x2 ∧ x2 < 4) ∧ (∃ b3 : Nat, (R (p0 + 1) x2 = (b3 : Int) ∧ lay5 G R b3) ∧ cwv d (fun r V4 => ∃ v5 : Int, r = some (0, v5) ∧ ((i32 v5) ∧ (((¬ v5 = (-1)) → ((i32 (x2 + 1)) ∧ wpv K_X7_readSheets d P 2 [some (4, (p0 : Int)), some (0, x1), some (0, (x2 + 1))] [] G R (wr V4 (p0 + 2) x2 v5))) ∧ ((v5 = (-1)) → P (some (0, 0)) V4)))) 86 [(4, (b3 : Int)), (0, x1)] G R V)))))) : wpv K_X7_readSheets d P 2 [some (4, (p0 : Int)), some (0, x1), some (0, x2)] [] G R V := by
  refine wp_ld (i := (.iload_n 2)) (0, x2) rfl rfl (fun _ => rfl) rfl rfl (?_ : wpv K_X7_readSheets d P 3 [some (4, (p0 : Int)), some (0, x1), some (0, x2)] [(0, x2)] G R V)
  refine wp_p (i := (.iconst 4)) rfl rfl (fun _ _ _ => rfl) (?_ : wpv K_X7_readSheets d P 4 [some (4, (p0 : Int)), some (0, x1), some (0, x2)] [(0, 4), (0, x2)] G R V)
  obtain ⟨s1, w⟩ := w
  refine wp_icmp (c := .ge) 38 rfl rfl rfl s1 ⟨by omega, by omega⟩ (fun q => ?_) (fun q => ?_)
  · have q : ¬ x2 < 4 := q
    replace w := w.1 q
    show wpv K_X7_readSheets d P 38 [some (4, (p0 : Int)), some (0, x1), some (0, x2)] [] G R V
    refine wp_p (i := (.iconst 1)) rfl rfl (fun _ _ _ => rfl) (?_ : wpv K_X7_readSheets d P 39 [some (4, (p0 : Int)), some (0, x1), some (0, x2)] [(0, 1)] G R V)
    exact wp_rB rfl rfl rfl (by omega) w
  · have q : x2 < 4 := Decidable.not_not.mp q
    replace w := w.2 q
    show wpv K_X7_readSheets d P 7 [some (4, (p0 : Int)), some (0, x1), some (0, x2)] [] G R V
    refine wp_ld (i := (.aload_n 0)) (4, (p0 : Int)) rfl rfl (fun _ => rfl) rfl rfl (?_ : wpv K_X7_readSheets d P 8 [some (4, (p0 : Int)), some (0, x1), some (0, x2)] [(4, (p0 : Int))] G R V)
    refine wp_getA (k := 0) rfl rfl rfl (ly7_o l0) rfl rfl (ly7_0 l0).1 (?_ : wpv K_X7_readSheets d P 11 [some (4, (p0 : Int)), some (0, x1), some (0, x2)] [(4, ((p0 + 1 : Nat) : Int))] G R V)
    refine wp_ld (i := (.iload_n 2)) (0, x2) rfl rfl (fun _ => rfl) rfl rfl (?_ : wpv K_X7_readSheets d P 12 [some (4, (p0 : Int)), some (0, x1), some (0, x2)] [(0, x2), (4, ((p0 + 1 : Nat) : Int))] G R V)
    obtain ⟨s2, w⟩ := w
    obtain ⟨b3, ⟨r3, l3_⟩, w⟩ := w
    refine wp_aA rfl rfl (ly7_0 l0).2 rfl s2 r3 (?_ : wpv K_X7_readSheets d P 13 [some (4, (p0 : Int)), some (0, x1), some (0, x2)] [(4, (b3 : Int))] G R V)
    refine wp_ld (i := (.iload_n 1)) (0, x1) rfl rfl (fun _ => rfl) rfl rfl (?_ : wpv K_X7_readSheets d P 14 [some (4, (p0 : Int)), some (0, x1), some (0, x2)] [(0, x1), (4, (b3 : Int))] G R V)
    refine wp_virt (as := [(0, x1)]) (a := b3) (st := []) _ rfl rfl rfl rfl rfl rfl (ly5_o l3_) (Nat.le_of_ble_eq_true rfl) (cwv_kI w (fun v5 V4 w => ?_))
    show wpv K_X7_readSheets d P 17 [some (4, (p0 : Int)), some (0, x1), some (0, x2)] [(0, v5)] G R V4
    refine wp_sto (i := (.istore_n 3)) _ rfl rfl (fun _ => rfl) rfl rfl rfl ?_
    refine wp_wk (L' := [some (4, (p0 : Int)), some (0, x1), some (0, x2), some (0, v5)]) (wk_s (wk_s (wk_s (wk_s wk_0)))) ?_
    show wpv K_X7_readSheets d P 18 [some (4, (p0 : Int)), some (0, x1), some (0, x2), some (0, v5)] [] G R V4
    refine wp_ld (i := (.iload_n 3)) (0, v5) rfl rfl (fun _ => rfl) rfl rfl (?_ : wpv K_X7_readSheets d P 19 [some (4, (p0 : Int)), some (0, x1), some (0, x2), some (0, v5)] [(0, v5)] G R V4)
    refine wp_p (i := (.iconst (-1))) rfl rfl (fun _ _ _ => rfl) (?_ : wpv K_X7_readSheets d P 20 [some (4, (p0 : Int)), some (0, x1), some (0, x2), some (0, v5)] [(0, (-1)), (0, v5)] G R V4)
    obtain ⟨s6, w⟩ := w
    refine wp_icmp (c := .ne) 25 rfl rfl rfl s6 ⟨by omega, by omega⟩ (fun q => ?_) (fun q => ?_)
    · have q : ¬ v5 = (-1) := q
      replace w := w.1 q
      show wpv K_X7_readSheets d P 25 [some (4, (p0 : Int)), some (0, x1), some (0, x2), some (0, v5)] [] G R V4
      refine wp_ld (i := (.aload_n 0)) (4, (p0 : Int)) rfl rfl (fun _ => rfl) rfl rfl (?_ : wpv K_X7_readSheets d P 26 [some (4, (p0 : Int)), some (0, x1), some (0, x2), some (0, v5)] [(4, (p0 : Int))] G R V4)
      refine wp_getA (k := 1) rfl rfl rfl (ly7_o l0) rfl rfl (ly7_1 l0).1 (?_ : wpv K_X7_readSheets d P 29 [some (4, (p0 : Int)), some (0, x1), some (0, x2), some (0, v5)] [(4, ((p0 + 2 : Nat) : Int))] G R V4)
      refine wp_ld (i := (.iload_n 2)) (0, x2) rfl rfl (fun _ => rfl) rfl rfl (?_ : wpv K_X7_readSheets d P 30 [some (4, (p0 : Int)), some (0, x1), some (0, x2), some (0, v5)] [(0, x2), (4, ((p0 + 2 : Nat) : Int))] G R V4)
      refine wp_ld (i := (.iload_n 3)) (0, v5) rfl rfl (fun _ => rfl) rfl rfl (?_ : wpv K_X7_readSheets d P 31 [some (4, (p0 : Int)), some (0, x1), some (0, x2), some (0, v5)] [(0, v5), (0, x2), (4, ((p0 + 2 : Nat) : Int))] G R V4)
      refine wp_sI rfl rfl (ly7_1 l0).2 s2 s6 (?_ : wpv K_X7_readSheets d P 32 [some (4, (p0 : Int)), some (0, x1), some (0, x2), some (0, v5)] [] G R (wr V4 (p0 + 2) x2 v5))
      obtain ⟨s7, w⟩ := w
      refine wp_inc (x := 2) (k := 1) (a := x2) (c := (x2 + 1)) _ rfl rfl rfl rfl s7 (by omega) rfl ?_
      show wpv K_X7_readSheets d P 35 [some (4, (p0 : Int)), some (0, x1), some (0, (x2 + 1)), some (0, v5)] [] G R (wr V4 (p0 + 2) x2 v5)
      refine wp_go 2 rfl rfl rfl (?_ : wpv K_X7_readSheets d P 2 [some (4, (p0 : Int)), some (0, x1), some (0, (x2 + 1)), some (0, v5)] [] G R (wr V4 (p0 + 2) x2 v5))
      exact wp_wk (wk_s (wk_s (wk_s wk_0))) w
    · have q : v5 = (-1) := Decidable.not_not.mp q
      replace w := w.2 q
      show wpv K_X7_readSheets d P 23 [some (4, (p0 : Int)), some (0, x1), some (0, x2), some (0, v5)] [] G R V4
      refine wp_p (i := (.iconst 0)) rfl rfl (fun _ _ _ => rfl) (?_ : wpv K_X7_readSheets d P 24 [some (4, (p0 : Int)), some (0, x1), some (0, x2), some (0, v5)] [(0, 0)] G R V4)
      exact wp_rB rfl rfl rfl (by omega) w
theorem t_X7_isInUse_0 {d : Nat} {P : gP} {p0 : Nat} {p1 : Nat} {G : List gS} {R V : gV} (l0 : lay7 G R p0) (l1 : lay2 G R p1) (w : (∃ b1 : Nat, (R p0 6 = (b1 : Int) ∧ lay1 G R b1) ∧ (∃ b2 : Nat, (R b1 0 = (b2 : Int) ∧ lay2 G R b2) ∧ (((¬ b2 = p1) → wpv K_X7_isInUse d P 15 [some (4, (p0 : Int)), some (4, (p1 : Int)), some (0, 0)] [] G R V) ∧ ((b2 = p1) → P (some (0, 1)) V))))) : wpv K_X7_isInUse d P 0 [some (4, (p0 : Int)), some (4, (p1 : Int))] [] G R V := by
  refine wp_ld (i := (.aload_n 0)) (4, (p0 : Int)) rfl rfl (fun _ => rfl) rfl rfl (?_ : wpv K_X7_isInUse d P 1 [some (4, (p0 : Int)), some (4, (p1 : Int))] [(4, (p0 : Int))] G R V)
  obtain ⟨b1, ⟨r1, l1_⟩, w⟩ := w
  refine wp_getA (k := 6) rfl rfl rfl (ly7_o l0) rfl rfl r1 (?_ : wpv K_X7_isInUse d P 4 [some (4, (p0 : Int)), some (4, (p1 : Int))] [(4, (b1 : Int))] G R V)
  obtain ⟨b2, ⟨r2, l2_⟩, w⟩ := w
  refine wp_getA (k := 0) rfl rfl rfl (ly1_o l1_) rfl rfl r2 (?_ : wpv K_X7_isInUse d P 7 [some (4, (p0 : Int)), some (4, (p1 : Int))] [(4, (b2 : Int))] G R V)
  refine wp_ld (i := (.aload_n 1)) (4, (p1 : Int)) rfl rfl (fun _ => rfl) rfl rfl (?_ : wpv K_X7_isInUse d P 8 [some (4, (p0 : Int)), some (4, (p1 : Int))] [(4, (p1 : Int)), (4, (b2 : Int))] G R V)
  refine wp_acmp (c := .ne) 13 rfl rfl rfl (fun q => ?_) (fun q => ?_)
  · have q : ¬ b2 = p1 := q
    replace w := w.1 q
    show wpv K_X7_isInUse d P 13 [some (4, (p0 : Int)), some (4, (p1 : Int))] [] G R V
    refine wp_p (i := (.iconst 0)) rfl rfl (fun _ _ _ => rfl) (?_ : wpv K_X7_isInUse d P 14 [some (4, (p0 : Int)), some (4, (p1 : Int))] [(0, 0)] G R V)
    refine wp_sto (i := (.istore_n 2)) _ rfl rfl (fun _ => rfl) rfl rfl rfl ?_
    refine wp_wk (L' := [some (4, (p0 : Int)), some (4, (p1 : Int)), some (0, 0)]) (wk_s (wk_s (wk_s wk_0))) ?_
    show wpv K_X7_isInUse d P 15 [some (4, (p0 : Int)), some (4, (p1 : Int)), some (0, 0)] [] G R V
    exact wp_wk (wk_s (wk_s (wk_s wk_0))) w
  · have q : b2 = p1 := Decidable.not_not.mp q
    replace w := w.2 q
    show wpv K_X7_isInUse d P 11 [some (4, (p0 : Int)), some (4, (p1 : Int))] [] G R V
    refine wp_p (i := (.iconst 1)) rfl rfl (fun _ _ _ => rfl) (?_ : wpv K_X7_isInUse d P 12 [some (4, (p0 : Int)), some (4, (p1 : Int))] [(0, 1)] G R V)
    exact wp_rB rfl rfl rfl (by omega) w

theorem t_X7_isInUse_15 {d : Nat} {P : gP} {p0 : Nat} {p1 : Nat} {x2 : Int} {G : List gS} {R V : gV} (l0 : lay7 G R p0) (l1 : lay2 G R p1) (w : ((i32 x2) ∧ (((¬ x2 < 3) → P (some (0, 0)) V) ∧ ((x2 < 3) → ((0 ≤ x2 ∧ x2 < 3) ∧ (((R (p0 + 20) x2 < 0) → ((i32 (x2 + 1)) ∧ wpv K_X7_isInUse d P 15 [some (4, (p0 : Int)), some (4, (p1 : Int)), some (0, (x2 + 1))] [] G R V)) ∧ ((¬ R (p0 + 20) x2 < 0) → (∃ b4 : Nat, (R (p0 + 20) x2 = (b4 : Int) ∧ lay1 G R b4) ∧ (∃ b5 : Nat, (R b4 0 = (b5 : Int) ∧ lay2 G R b5) ∧ (((¬ b5 = p1) → ((i32 (x2 + 1)) ∧ wpv K_X7_isInUse d P 15 [some (4, (p0 : Int)), some (4, (p1 : Int)), some (0, (x2 + 1))] [] G R V)) ∧ ((b5 = p1) → P (some (0, 1)) V))))))))))) : wpv K_X7_isInUse d P 15 [some (4, (p0 : Int)), some (4, (p1 : Int)), some (0, x2)] [] G R V := by
  refine wp_ld (i := (.iload_n 2)) (0, x2) rfl rfl (fun _ => rfl) rfl rfl (?_ : wpv K_X7_isInUse d P 16 [some (4, (p0 : Int)), some (4, (p1 : Int)), some (0, x2)] [(0, x2)] G R V)
  refine wp_p (i := (.iconst 3)) rfl rfl (fun _ _ _ => rfl) (?_ : wpv K_X7_isInUse d P 17 [some (4, (p0 : Int)), some (4, (p1 : Int)), some (0, x2)] [(0, 3), (0, x2)] G R V)
  obtain ⟨s1, w⟩ := w
  refine wp_icmp (c := .ge) 50 rfl rfl rfl s1 ⟨by omega, by omega⟩ (fun q => ?_) (fun q => ?_)
  · have q : ¬ x2 < 3 := q
    replace w := w.1 q
    show wpv K_X7_isInUse d P 50 [some (4, (p0 : Int)), some (4, (p1 : Int)), some (0, x2)] [] G R V
    refine wp_p (i := (.iconst 0)) rfl rfl (fun _ _ _ => rfl) (?_ : wpv K_X7_isInUse d P 51 [some (4, (p0 : Int)), some (4, (p1 : Int)), some (0, x2)] [(0, 0)] G R V)
    exact wp_rB rfl rfl rfl (by omega) w
  · have q : x2 < 3 := Decidable.not_not.mp q
    replace w := w.2 q
    show wpv K_X7_isInUse d P 20 [some (4, (p0 : Int)), some (4, (p1 : Int)), some (0, x2)] [] G R V
    refine wp_ld (i := (.aload_n 0)) (4, (p0 : Int)) rfl rfl (fun _ => rfl) rfl rfl (?_ : wpv K_X7_isInUse d P 21 [some (4, (p0 : Int)), some (4, (p1 : Int)), some (0, x2)] [(4, (p0 : Int))] G R V)
    refine wp_getA (k := 5) rfl rfl rfl (ly7_o l0) rfl rfl (ly7_5 l0).1 (?_ : wpv K_X7_isInUse d P 24 [some (4, (p0 : Int)), some (4, (p1 : Int)), some (0, x2)] [(4, ((p0 + 20 : Nat) : Int))] G R V)
    refine wp_ld (i := (.iload_n 2)) (0, x2) rfl rfl (fun _ => rfl) rfl rfl (?_ : wpv K_X7_isInUse d P 25 [some (4, (p0 : Int)), some (4, (p1 : Int)), some (0, x2)] [(0, x2), (4, ((p0 + 20 : Nat) : Int))] G R V)
    obtain ⟨s2, w⟩ := w
    refine wp_aN rfl rfl (ly7_5 l0).2 rfl s2 (?_ : wpv K_X7_isInUse d P 26 [some (4, (p0 : Int)), some (4, (p1 : Int)), some (0, x2)] [(rf (R (p0 + 20) x2))] G R V)
    refine wp_null (i := (.ifnull 18)) (b := true) 44 rfl rfl (fun _ => rfl) rfl (fun q => ?_) (fun q => ?_)
    · have q : R (p0 + 20) x2 < 0 := by simpa using q
      replace w := w.1 q
      show wpv K_X7_isInUse d P 44 [some (4, (p0 : Int)), some (4, (p1 : Int)), some (0, x2)] [] G R V
      obtain ⟨s3, w⟩ := w
      refine wp_inc (x := 2) (k := 1) (a := x2) (c := (x2 + 1)) _ rfl rfl rfl rfl s3 (by omega) rfl ?_
      show wpv K_X7_isInUse d P 47 [some (4, (p0 : Int)), some (4, (p1 : Int)), some (0, (x2 + 1))] [] G R V
      refine wp_go 15 rfl rfl rfl (?_ : wpv K_X7_isInUse d P 15 [some (4, (p0 : Int)), some (4, (p1 : Int)), some (0, (x2 + 1))] [] G R V)
      exact wp_wk (wk_s (wk_s (wk_s wk_0))) w
    · have q : ¬ R (p0 + 20) x2 < 0 := by simpa using q
      replace w := w.2 q
      show wpv K_X7_isInUse d P 29 [some (4, (p0 : Int)), some (4, (p1 : Int)), some (0, x2)] [] G R V
      refine wp_ld (i := (.aload_n 0)) (4, (p0 : Int)) rfl rfl (fun _ => rfl) rfl rfl (?_ : wpv K_X7_isInUse d P 30 [some (4, (p0 : Int)), some (4, (p1 : Int)), some (0, x2)] [(4, (p0 : Int))] G R V)
      refine wp_getA (k := 5) rfl rfl rfl (ly7_o l0) rfl rfl (ly7_5 l0).1 (?_ : wpv K_X7_isInUse d P 33 [some (4, (p0 : Int)), some (4, (p1 : Int)), some (0, x2)] [(4, ((p0 + 20 : Nat) : Int))] G R V)
      refine wp_ld (i := (.iload_n 2)) (0, x2) rfl rfl (fun _ => rfl) rfl rfl (?_ : wpv K_X7_isInUse d P 34 [some (4, (p0 : Int)), some (4, (p1 : Int)), some (0, x2)] [(0, x2), (4, ((p0 + 20 : Nat) : Int))] G R V)
      obtain ⟨b4, ⟨r4, l4_⟩, w⟩ := w
      refine wp_aA rfl rfl (ly7_5 l0).2 rfl s2 r4 (?_ : wpv K_X7_isInUse d P 35 [some (4, (p0 : Int)), some (4, (p1 : Int)), some (0, x2)] [(4, (b4 : Int))] G R V)
      obtain ⟨b5, ⟨r5, l5_⟩, w⟩ := w
      refine wp_getA (k := 0) rfl rfl rfl (ly1_o l4_) rfl rfl r5 (?_ : wpv K_X7_isInUse d P 38 [some (4, (p0 : Int)), some (4, (p1 : Int)), some (0, x2)] [(4, (b5 : Int))] G R V)
      refine wp_ld (i := (.aload_n 1)) (4, (p1 : Int)) rfl rfl (fun _ => rfl) rfl rfl (?_ : wpv K_X7_isInUse d P 39 [some (4, (p0 : Int)), some (4, (p1 : Int)), some (0, x2)] [(4, (p1 : Int)), (4, (b5 : Int))] G R V)
      refine wp_acmp (c := .ne) 44 rfl rfl rfl (fun q => ?_) (fun q => ?_)
      · have q : ¬ b5 = p1 := q
        replace w := w.1 q
        show wpv K_X7_isInUse d P 44 [some (4, (p0 : Int)), some (4, (p1 : Int)), some (0, x2)] [] G R V
        obtain ⟨s6, w⟩ := w
        refine wp_inc (x := 2) (k := 1) (a := x2) (c := (x2 + 1)) _ rfl rfl rfl rfl s6 (by omega) rfl ?_
        show wpv K_X7_isInUse d P 47 [some (4, (p0 : Int)), some (4, (p1 : Int)), some (0, (x2 + 1))] [] G R V
        refine wp_go 15 rfl rfl rfl (?_ : wpv K_X7_isInUse d P 15 [some (4, (p0 : Int)), some (4, (p1 : Int)), some (0, (x2 + 1))] [] G R V)
        exact wp_wk (wk_s (wk_s (wk_s wk_0))) w
      · have q : b5 = p1 := Decidable.not_not.mp q
        replace w := w.2 q
        show wpv K_X7_isInUse d P 42 [some (4, (p0 : Int)), some (4, (p1 : Int)), some (0, x2)] [] G R V
        refine wp_p (i := (.iconst 1)) rfl rfl (fun _ _ _ => rfl) (?_ : wpv K_X7_isInUse d P 43 [some (4, (p0 : Int)), some (4, (p1 : Int)), some (0, x2)] [(0, 1)] G R V)
        exact wp_rB rfl rfl rfl (by omega) w
theorem t_X7_whereTo_0 {d : Nat} {P : gP} {x0 : Int} {x1 : Int} {G : List gS} {R V : gV}  (w : ((i32 (7 - x1)) ∧ ((i32 (3 * (7 - x1))) ∧ P (some (0, (kand ((kshr x0 ((3 * (7 - x1))))) 7))) V))) : wpv K_X7_whereTo d P 0 [some (0, x0), some (0, x1)] [] G R V := by
  refine wp_ld (i := (.iload_n 0)) (0, x0) rfl rfl (fun _ => rfl) rfl rfl (?_ : wpv K_X7_whereTo d P 1 [some (0, x0), some (0, x1)] [(0, x0)] G R V)
  refine wp_p (i := (.iconst 3)) rfl rfl (fun _ _ _ => rfl) (?_ : wpv K_X7_whereTo d P 2 [some (0, x0), some (0, x1)] [(0, 3), (0, x0)] G R V)
  refine wp_p (i := (.bipush 7)) rfl rfl (fun _ _ _ => rfl) (?_ : wpv K_X7_whereTo d P 4 [some (0, x0), some (0, x1)] [(0, 7), (0, 3), (0, x0)] G R V)
  refine wp_ld (i := (.iload_n 1)) (0, x1) rfl rfl (fun _ => rfl) rfl rfl (?_ : wpv K_X7_whereTo d P 5 [some (0, x0), some (0, x1)] [(0, x1), (0, 7), (0, 3), (0, x0)] G R V)
  obtain ⟨s1, w⟩ := w
  refine wp_xsub rfl rfl s1 (?_ : wpv K_X7_whereTo d P 6 [some (0, x0), some (0, x1)] [(0, (7 - x1)), (0, 3), (0, x0)] G R V)
  obtain ⟨s2, w⟩ := w
  refine wp_xmul rfl rfl s2 (?_ : wpv K_X7_whereTo d P 7 [some (0, x0), some (0, x1)] [(0, (3 * (7 - x1))), (0, x0)] G R V)
  refine wp_kshr rfl rfl (?_ : wpv K_X7_whereTo d P 8 [some (0, x0), some (0, x1)] [(0, (kshr x0 ((3 * (7 - x1)))))] G R V)
  refine wp_p (i := (.bipush 7)) rfl rfl (fun _ _ _ => rfl) (?_ : wpv K_X7_whereTo d P 10 [some (0, x0), some (0, x1)] [(0, 7), (0, (kshr x0 ((3 * (7 - x1)))))] G R V)
  refine wp_kand rfl rfl (?_ : wpv K_X7_whereTo d P 11 [some (0, x0), some (0, x1)] [(0, (kand ((kshr x0 ((3 * (7 - x1))))) 7))] G R V)
  exact wp_rI rfl rfl rfl w
theorem t_X7_oneBehindOther_0 {d : Nat} {P : gP} {x0 : Int} {x1 : Int} {G : List gS} {R V : gV}  (w : wpv K_X7_oneBehindOther d P 4 [some (0, x0), some (0, x1), some (0, 0), some (0, 0)] [] G R V) : wpv K_X7_oneBehindOther d P 0 [some (0, x0), some (0, x1)] [] G R V := by
  refine wp_p (i := (.iconst 0)) rfl rfl (fun _ _ _ => rfl) (?_ : wpv K_X7_oneBehindOther d P 1 [some (0, x0), some (0, x1)] [(0, 0)] G R V)
  refine wp_sto (i := (.istore_n 2)) _ rfl rfl (fun _ => rfl) rfl rfl rfl ?_
  refine wp_wk (L' := [some (0, x0), some (0, x1), some (0, 0)]) (wk_s (wk_s (wk_s wk_0))) ?_
  show wpv K_X7_oneBehindOther d P 2 [some (0, x0), some (0, x1), some (0, 0)] [] G R V
  refine wp_p (i := (.iconst 0)) rfl rfl (fun _ _ _ => rfl) (?_ : wpv K_X7_oneBehindOther d P 3 [some (0, x0), some (0, x1), some (0, 0)] [(0, 0)] G R V)
  refine wp_sto (i := (.istore_n 3)) _ rfl rfl (fun _ => rfl) rfl rfl rfl ?_
  refine wp_wk (L' := [some (0, x0), some (0, x1), some (0, 0), some (0, 0)]) (wk_s (wk_s (wk_s (wk_s wk_0)))) ?_
  show wpv K_X7_oneBehindOther d P 4 [some (0, x0), some (0, x1), some (0, 0), some (0, 0)] [] G R V
  exact wp_wk (wk_s (wk_s (wk_s (wk_s wk_0)))) w

theorem t_X7_oneBehindOther_4 {d : Nat} {P : gP} {x0 : Int} {x1 : Int} {x2 : Int} {x3 : Int} {G : List gS} {R V : gV}  (w : ((i32 x3) ∧ (((¬ x3 < 8) → P (some (0, x2)) V) ∧ ((x3 < 8) → cwv d (fun r V2 => ∃ v3 : Int, r = some (0, v3) ∧ cwv d (fun r V4 => ∃ v5 : Int, r = some (0, v5) ∧ ((i32 (x3 + 1)) ∧ wpv K_X7_oneBehindOther d P 4 [some (0, x0), some (0, x1), some (0, (kor ((kshl x2 3)) v5)), some (0, (x3 + 1))] [] G R V4)) 147 [(0, x1), (0, v3)] G R V2) 147 [(0, x0), (0, x3)] G R V)))) : wpv K_X7_oneBehindOther d P 4 [some (0, x0), some (0, x1), some (0, x2), some (0, x3)] [] G R V := by
  refine wp_ld (i := (.iload_n 3)) (0, x3) rfl rfl (fun _ => rfl) rfl rfl (?_ : wpv K_X7_oneBehindOther d P 5 [some (0, x0), some (0, x1), some (0, x2), some (0, x3)] [(0, x3)] G R V)
  refine wp_p (i := (.bipush 8)) rfl rfl (fun _ _ _ => rfl) (?_ : wpv K_X7_oneBehindOther d P 7 [some (0, x0), some (0, x1), some (0, x2), some (0, x3)] [(0, 8), (0, x3)] G R V)
  obtain ⟨s1, w⟩ := w
  refine wp_icmp (c := .ge) 30 rfl rfl rfl s1 ⟨by omega, by omega⟩ (fun q => ?_) (fun q => ?_)
  · have q : ¬ x3 < 8 := q
    replace w := w.1 q
    show wpv K_X7_oneBehindOther d P 30 [some (0, x0), some (0, x1), some (0, x2), some (0, x3)] [] G R V
    refine wp_ld (i := (.iload_n 2)) (0, x2) rfl rfl (fun _ => rfl) rfl rfl (?_ : wpv K_X7_oneBehindOther d P 31 [some (0, x0), some (0, x1), some (0, x2), some (0, x3)] [(0, x2)] G R V)
    exact wp_rI rfl rfl rfl w
  · have q : x3 < 8 := Decidable.not_not.mp q
    replace w := w.2 q
    show wpv K_X7_oneBehindOther d P 10 [some (0, x0), some (0, x1), some (0, x2), some (0, x3)] [] G R V
    refine wp_ld (i := (.iload_n 2)) (0, x2) rfl rfl (fun _ => rfl) rfl rfl (?_ : wpv K_X7_oneBehindOther d P 11 [some (0, x0), some (0, x1), some (0, x2), some (0, x3)] [(0, x2)] G R V)
    refine wp_p (i := (.iconst 3)) rfl rfl (fun _ _ _ => rfl) (?_ : wpv K_X7_oneBehindOther d P 12 [some (0, x0), some (0, x1), some (0, x2), some (0, x3)] [(0, 3), (0, x2)] G R V)
    refine wp_kshl rfl rfl (?_ : wpv K_X7_oneBehindOther d P 13 [some (0, x0), some (0, x1), some (0, x2), some (0, x3)] [(0, (kshl x2 3))] G R V)
    refine wp_ld (i := (.iload_n 1)) (0, x1) rfl rfl (fun _ => rfl) rfl rfl (?_ : wpv K_X7_oneBehindOther d P 14 [some (0, x0), some (0, x1), some (0, x2), some (0, x3)] [(0, x1), (0, (kshl x2 3))] G R V)
    refine wp_ld (i := (.iload_n 0)) (0, x0) rfl rfl (fun _ => rfl) rfl rfl (?_ : wpv K_X7_oneBehindOther d P 15 [some (0, x0), some (0, x1), some (0, x2), some (0, x3)] [(0, x0), (0, x1), (0, (kshl x2 3))] G R V)
    refine wp_ld (i := (.iload_n 3)) (0, x3) rfl rfl (fun _ => rfl) rfl rfl (?_ : wpv K_X7_oneBehindOther d P 16 [some (0, x0), some (0, x1), some (0, x2), some (0, x3)] [(0, x3), (0, x0), (0, x1), (0, (kshl x2 3))] G R V)
    refine wp_stat (as := [(0, x0), (0, x3)]) (st := [(0, x1), (0, (kshl x2 3))]) _ rfl rfl rfl (by omega) rfl rfl (Nat.le_of_ble_eq_true rfl) (cwv_kI w (fun v3 V2 w => ?_))
    show wpv K_X7_oneBehindOther d P 19 [some (0, x0), some (0, x1), some (0, x2), some (0, x3)] [(0, v3), (0, x1), (0, (kshl x2 3))] G R V2
    refine wp_stat (as := [(0, x1), (0, v3)]) (st := [(0, (kshl x2 3))]) _ rfl rfl rfl (by omega) rfl rfl (Nat.le_of_ble_eq_true rfl) (cwv_kI w (fun v5 V4 w => ?_))
    show wpv K_X7_oneBehindOther d P 22 [some (0, x0), some (0, x1), some (0, x2), some (0, x3)] [(0, v5), (0, (kshl x2 3))] G R V4
    refine wp_kor rfl rfl (?_ : wpv K_X7_oneBehindOther d P 23 [some (0, x0), some (0, x1), some (0, x2), some (0, x3)] [(0, (kor ((kshl x2 3)) v5))] G R V4)
    refine wp_sto (i := (.istore_n 2)) _ rfl rfl (fun _ => rfl) rfl rfl rfl ?_
    refine wp_wk (L' := [some (0, x0), some (0, x1), some (0, (kor ((kshl x2 3)) v5)), some (0, x3)]) (wk_s (wk_s (wk_s (wk_s wk_0)))) ?_
    show wpv K_X7_oneBehindOther d P 24 [some (0, x0), some (0, x1), some (0, (kor ((kshl x2 3)) v5)), some (0, x3)] [] G R V4
    obtain ⟨s6, w⟩ := w
    refine wp_inc (x := 3) (k := 1) (a := x3) (c := (x3 + 1)) _ rfl rfl rfl rfl s6 (by omega) rfl ?_
    show wpv K_X7_oneBehindOther d P 27 [some (0, x0), some (0, x1), some (0, (kor ((kshl x2 3)) v5)), some (0, (x3 + 1))] [] G R V4
    refine wp_go 4 rfl rfl rfl (?_ : wpv K_X7_oneBehindOther d P 4 [some (0, x0), some (0, x1), some (0, (kor ((kshl x2 3)) v5)), some (0, (x3 + 1))] [] G R V4)
    exact wp_wk (wk_s (wk_s (wk_s (wk_s wk_0)))) w
theorem t_X7_holds_0 {d : Nat} {P : gP} {x0 : Int} {x2 : Int} {x4 : Int} {G : List gS} {R V : gV}  (w : ((i32 x4) ∧ (((¬ x4 < 64) → ((((jand ((jusr x2 ((kand x4 63)))) 1) = 0) → P (some (0, 0)) V) ∧ ((¬ (jand ((jusr x2 ((kand x4 63)))) 1) = 0) → P (some (0, 1)) V))) ∧ ((x4 < 64) → ((((jand ((jusr x0 ((kand x4 63)))) 1) = 0) → P (some (0, 0)) V) ∧ ((¬ (jand ((jusr x0 ((kand x4 63)))) 1) = 0) → P (some (0, 1)) V)))))) : wpv K_X7_holds d P 0 [some (2, x0), none, some (2, x2), none, some (0, x4)] [] G R V := by
  refine wp_ld (i := (.iload 4)) (0, x4) rfl rfl (fun _ => rfl) rfl rfl (?_ : wpv K_X7_holds d P 2 [some (2, x0), none, some (2, x2), none, some (0, x4)] [(0, x4)] G R V)
  refine wp_p (i := (.bipush 64)) rfl rfl (fun _ _ _ => rfl) (?_ : wpv K_X7_holds d P 4 [some (2, x0), none, some (2, x2), none, some (0, x4)] [(0, 64), (0, x4)] G R V)
  obtain ⟨s1, w⟩ := w
  refine wp_icmp (c := .ge) 11 rfl rfl rfl s1 ⟨by omega, by omega⟩ (fun q => ?_) (fun q => ?_)
  · have q : ¬ x4 < 64 := q
    replace w := w.1 q
    show wpv K_X7_holds d P 11 [some (2, x0), none, some (2, x2), none, some (0, x4)] [] G R V
    refine wp_ld (i := (.lload_n 2)) (2, x2) rfl rfl (fun _ => rfl) rfl rfl (?_ : wpv K_X7_holds d P 12 [some (2, x0), none, some (2, x2), none, some (0, x4)] [(2, x2)] G R V)
    refine wp_ld (i := (.iload 4)) (0, x4) rfl rfl (fun _ => rfl) rfl rfl (?_ : wpv K_X7_holds d P 14 [some (2, x0), none, some (2, x2), none, some (0, x4)] [(0, x4), (2, x2)] G R V)
    refine wp_p (i := (.bipush 63)) rfl rfl (fun _ _ _ => rfl) (?_ : wpv K_X7_holds d P 16 [some (2, x0), none, some (2, x2), none, some (0, x4)] [(0, 63), (0, x4), (2, x2)] G R V)
    refine wp_kand rfl rfl (?_ : wpv K_X7_holds d P 17 [some (2, x0), none, some (2, x2), none, some (0, x4)] [(0, (kand x4 63)), (2, x2)] G R V)
    refine wp_jusr rfl rfl (?_ : wpv K_X7_holds d P 18 [some (2, x0), none, some (2, x2), none, some (0, x4)] [(2, (jusr x2 ((kand x4 63))))] G R V)
    refine wp_p (i := (.lconst 1)) rfl rfl (fun _ _ _ => rfl) (?_ : wpv K_X7_holds d P 19 [some (2, x0), none, some (2, x2), none, some (0, x4)] [(2, 1), (2, (jusr x2 ((kand x4 63))))] G R V)
    refine wp_jand rfl rfl (?_ : wpv K_X7_holds d P 20 [some (2, x0), none, some (2, x2), none, some (0, x4)] [(2, (jand ((jusr x2 ((kand x4 63)))) 1))] G R V)
    refine wp_p (i := (.lconst 0)) rfl rfl (fun _ _ _ => rfl) (?_ : wpv K_X7_holds d P 21 [some (2, x0), none, some (2, x2), none, some (0, x4)] [(2, 0), (2, (jand ((jusr x2 ((kand x4 63)))) 1))] G R V)
    refine wp_lcmp rfl rfl (t64 _) ⟨by omega, by omega⟩ (?_ : wpv K_X7_holds d P 22 [some (2, x0), none, some (2, x2), none, some (0, x4)] [(0, sg ((jand ((jusr x2 ((kand x4 63)))) 1)) 0)] G R V)
    refine wp_if (c := .eq) 29 rfl rfl rfl (sg32 _ _) (fun q => ?_) (fun q => ?_)
    · have q : (jand ((jusr x2 ((kand x4 63)))) 1) = 0 := sg_eq.mp q
      replace w := w.1 q
      show wpv K_X7_holds d P 29 [some (2, x0), none, some (2, x2), none, some (0, x4)] [] G R V
      refine wp_p (i := (.iconst 0)) rfl rfl (fun _ _ _ => rfl) (?_ : wpv K_X7_holds d P 30 [some (2, x0), none, some (2, x2), none, some (0, x4)] [(0, 0)] G R V)
      exact wp_rB rfl rfl rfl (by omega) w
    · have q : ¬ (jand ((jusr x2 ((kand x4 63)))) 1) = 0 := fun z => q (sg_eq.mpr z)
      replace w := w.2 q
      show wpv K_X7_holds d P 25 [some (2, x0), none, some (2, x2), none, some (0, x4)] [] G R V
      refine wp_p (i := (.iconst 1)) rfl rfl (fun _ _ _ => rfl) (?_ : wpv K_X7_holds d P 26 [some (2, x0), none, some (2, x2), none, some (0, x4)] [(0, 1)] G R V)
      refine wp_go 30 rfl rfl rfl (?_ : wpv K_X7_holds d P 30 [some (2, x0), none, some (2, x2), none, some (0, x4)] [(0, 1)] G R V)
      exact wp_rB rfl rfl rfl (by omega) w
  · have q : x4 < 64 := Decidable.not_not.mp q
    replace w := w.2 q
    show wpv K_X7_holds d P 7 [some (2, x0), none, some (2, x2), none, some (0, x4)] [] G R V
    refine wp_ld (i := (.lload_n 0)) (2, x0) rfl rfl (fun _ => rfl) rfl rfl (?_ : wpv K_X7_holds d P 8 [some (2, x0), none, some (2, x2), none, some (0, x4)] [(2, x0)] G R V)
    refine wp_go 12 rfl rfl rfl (?_ : wpv K_X7_holds d P 12 [some (2, x0), none, some (2, x2), none, some (0, x4)] [(2, x0)] G R V)
    refine wp_ld (i := (.iload 4)) (0, x4) rfl rfl (fun _ => rfl) rfl rfl (?_ : wpv K_X7_holds d P 14 [some (2, x0), none, some (2, x2), none, some (0, x4)] [(0, x4), (2, x0)] G R V)
    refine wp_p (i := (.bipush 63)) rfl rfl (fun _ _ _ => rfl) (?_ : wpv K_X7_holds d P 16 [some (2, x0), none, some (2, x2), none, some (0, x4)] [(0, 63), (0, x4), (2, x0)] G R V)
    refine wp_kand rfl rfl (?_ : wpv K_X7_holds d P 17 [some (2, x0), none, some (2, x2), none, some (0, x4)] [(0, (kand x4 63)), (2, x0)] G R V)
    refine wp_jusr rfl rfl (?_ : wpv K_X7_holds d P 18 [some (2, x0), none, some (2, x2), none, some (0, x4)] [(2, (jusr x0 ((kand x4 63))))] G R V)
    refine wp_p (i := (.lconst 1)) rfl rfl (fun _ _ _ => rfl) (?_ : wpv K_X7_holds d P 19 [some (2, x0), none, some (2, x2), none, some (0, x4)] [(2, 1), (2, (jusr x0 ((kand x4 63))))] G R V)
    refine wp_jand rfl rfl (?_ : wpv K_X7_holds d P 20 [some (2, x0), none, some (2, x2), none, some (0, x4)] [(2, (jand ((jusr x0 ((kand x4 63)))) 1))] G R V)
    refine wp_p (i := (.lconst 0)) rfl rfl (fun _ _ _ => rfl) (?_ : wpv K_X7_holds d P 21 [some (2, x0), none, some (2, x2), none, some (0, x4)] [(2, 0), (2, (jand ((jusr x0 ((kand x4 63)))) 1))] G R V)
    refine wp_lcmp rfl rfl (t64 _) ⟨by omega, by omega⟩ (?_ : wpv K_X7_holds d P 22 [some (2, x0), none, some (2, x2), none, some (0, x4)] [(0, sg ((jand ((jusr x0 ((kand x4 63)))) 1)) 0)] G R V)
    refine wp_if (c := .eq) 29 rfl rfl rfl (sg32 _ _) (fun q => ?_) (fun q => ?_)
    · have q : (jand ((jusr x0 ((kand x4 63)))) 1) = 0 := sg_eq.mp q
      replace w := w.1 q
      show wpv K_X7_holds d P 29 [some (2, x0), none, some (2, x2), none, some (0, x4)] [] G R V
      refine wp_p (i := (.iconst 0)) rfl rfl (fun _ _ _ => rfl) (?_ : wpv K_X7_holds d P 30 [some (2, x0), none, some (2, x2), none, some (0, x4)] [(0, 0)] G R V)
      exact wp_rB rfl rfl rfl (by omega) w
    · have q : ¬ (jand ((jusr x0 ((kand x4 63)))) 1) = 0 := fun z => q (sg_eq.mpr z)
      replace w := w.2 q
      show wpv K_X7_holds d P 25 [some (2, x0), none, some (2, x2), none, some (0, x4)] [] G R V
      refine wp_p (i := (.iconst 1)) rfl rfl (fun _ _ _ => rfl) (?_ : wpv K_X7_holds d P 26 [some (2, x0), none, some (2, x2), none, some (0, x4)] [(0, 1)] G R V)
      refine wp_go 30 rfl rfl rfl (?_ : wpv K_X7_holds d P 30 [some (2, x0), none, some (2, x2), none, some (0, x4)] [(0, 1)] G R V)
      exact wp_rB rfl rfl rfl (by omega) w
theorem t_X7_lowBit_0 {d : Nat} {P : gP} {x0 : Int} {G : List gS} {R V : gV}  (w : ((i32 x0) ∧ (((¬ x0 < 64) → P (some (2, 0)) V) ∧ ((x0 < 64) → P (some (2, (jshl 1 ((kand x0 63))))) V)))) : wpv K_X7_lowBit d P 0 [some (0, x0)] [] G R V := by
  refine wp_ld (i := (.iload_n 0)) (0, x0) rfl rfl (fun _ => rfl) rfl rfl (?_ : wpv K_X7_lowBit d P 1 [some (0, x0)] [(0, x0)] G R V)
  refine wp_p (i := (.bipush 64)) rfl rfl (fun _ _ _ => rfl) (?_ : wpv K_X7_lowBit d P 3 [some (0, x0)] [(0, 64), (0, x0)] G R V)
  obtain ⟨s1, w⟩ := w
  refine wp_icmp (c := .ge) 15 rfl rfl rfl s1 ⟨by omega, by omega⟩ (fun q => ?_) (fun q => ?_)
  · have q : ¬ x0 < 64 := q
    replace w := w.1 q
    show wpv K_X7_lowBit d P 15 [some (0, x0)] [] G R V
    refine wp_p (i := (.lconst 0)) rfl rfl (fun _ _ _ => rfl) (?_ : wpv K_X7_lowBit d P 16 [some (0, x0)] [(2, 0)] G R V)
    exact wp_rJ rfl rfl rfl w
  · have q : x0 < 64 := Decidable.not_not.mp q
    replace w := w.2 q
    show wpv K_X7_lowBit d P 6 [some (0, x0)] [] G R V
    refine wp_p (i := (.lconst 1)) rfl rfl (fun _ _ _ => rfl) (?_ : wpv K_X7_lowBit d P 7 [some (0, x0)] [(2, 1)] G R V)
    refine wp_ld (i := (.iload_n 0)) (0, x0) rfl rfl (fun _ => rfl) rfl rfl (?_ : wpv K_X7_lowBit d P 8 [some (0, x0)] [(0, x0), (2, 1)] G R V)
    refine wp_p (i := (.bipush 63)) rfl rfl (fun _ _ _ => rfl) (?_ : wpv K_X7_lowBit d P 10 [some (0, x0)] [(0, 63), (0, x0), (2, 1)] G R V)
    refine wp_kand rfl rfl (?_ : wpv K_X7_lowBit d P 11 [some (0, x0)] [(0, (kand x0 63)), (2, 1)] G R V)
    refine wp_jshl rfl rfl (?_ : wpv K_X7_lowBit d P 12 [some (0, x0)] [(2, (jshl 1 ((kand x0 63))))] G R V)
    refine wp_go 16 rfl rfl rfl (?_ : wpv K_X7_lowBit d P 16 [some (0, x0)] [(2, (jshl 1 ((kand x0 63))))] G R V)
    exact wp_rJ rfl rfl rfl w
theorem t_X7_highBit_0 {d : Nat} {P : gP} {x0 : Int} {G : List gS} {R V : gV}  (w : ((i32 x0) ∧ (((¬ x0 < 64) → P (some (2, (jshl 1 ((kand x0 63))))) V) ∧ ((x0 < 64) → P (some (2, 0)) V)))) : wpv K_X7_highBit d P 0 [some (0, x0)] [] G R V := by
  refine wp_ld (i := (.iload_n 0)) (0, x0) rfl rfl (fun _ => rfl) rfl rfl (?_ : wpv K_X7_highBit d P 1 [some (0, x0)] [(0, x0)] G R V)
  refine wp_p (i := (.bipush 64)) rfl rfl (fun _ _ _ => rfl) (?_ : wpv K_X7_highBit d P 3 [some (0, x0)] [(0, 64), (0, x0)] G R V)
  obtain ⟨s1, w⟩ := w
  refine wp_icmp (c := .ge) 10 rfl rfl rfl s1 ⟨by omega, by omega⟩ (fun q => ?_) (fun q => ?_)
  · have q : ¬ x0 < 64 := q
    replace w := w.1 q
    show wpv K_X7_highBit d P 10 [some (0, x0)] [] G R V
    refine wp_p (i := (.lconst 1)) rfl rfl (fun _ _ _ => rfl) (?_ : wpv K_X7_highBit d P 11 [some (0, x0)] [(2, 1)] G R V)
    refine wp_ld (i := (.iload_n 0)) (0, x0) rfl rfl (fun _ => rfl) rfl rfl (?_ : wpv K_X7_highBit d P 12 [some (0, x0)] [(0, x0), (2, 1)] G R V)
    refine wp_p (i := (.bipush 63)) rfl rfl (fun _ _ _ => rfl) (?_ : wpv K_X7_highBit d P 14 [some (0, x0)] [(0, 63), (0, x0), (2, 1)] G R V)
    refine wp_kand rfl rfl (?_ : wpv K_X7_highBit d P 15 [some (0, x0)] [(0, (kand x0 63)), (2, 1)] G R V)
    refine wp_jshl rfl rfl (?_ : wpv K_X7_highBit d P 16 [some (0, x0)] [(2, (jshl 1 ((kand x0 63))))] G R V)
    exact wp_rJ rfl rfl rfl w
  · have q : x0 < 64 := Decidable.not_not.mp q
    replace w := w.2 q
    show wpv K_X7_highBit d P 6 [some (0, x0)] [] G R V
    refine wp_p (i := (.lconst 0)) rfl rfl (fun _ _ _ => rfl) (?_ : wpv K_X7_highBit d P 7 [some (0, x0)] [(2, 0)] G R V)
    refine wp_go 16 rfl rfl rfl (?_ : wpv K_X7_highBit d P 16 [some (0, x0)] [(2, 0)] G R V)
    exact wp_rJ rfl rfl rfl w
theorem t_X7_timesUpTo_0 {d : Nat} {P : gP} {x0 : Int} {x2 : Int} {G : List gS} {R V : gV}  (w : ((i64 x0) ∧ (((x0 = 0) → P (some (2, 0)) V) ∧ ((¬ x0 = 0) → ((i64 x2) ∧ (((¬ x2 = 0) → ((x2 ≠ 0) ∧ (((¬ (jdiv 1000000000000000 x2) < x0) → P (some (2, (jmul x0 x2))) V) ∧ (((jdiv 1000000000000000 x2) < x0) → P (some (2, 1000000000000001)) V)))) ∧ ((x2 = 0) → P (some (2, 0)) V))))))) : wpv K_X7_timesUpTo d P 0 [some (2, x0), none, some (2, x2)] [] G R V := by
  refine wp_ld (i := (.lload_n 0)) (2, x0) rfl rfl (fun _ => rfl) rfl rfl (?_ : wpv K_X7_timesUpTo d P 1 [some (2, x0), none, some (2, x2)] [(2, x0)] G R V)
  refine wp_p (i := (.lconst 0)) rfl rfl (fun _ _ _ => rfl) (?_ : wpv K_X7_timesUpTo d P 2 [some (2, x0), none, some (2, x2)] [(2, 0), (2, x0)] G R V)
  obtain ⟨s1, w⟩ := w
  refine wp_lcmp rfl rfl s1 ⟨by omega, by omega⟩ (?_ : wpv K_X7_timesUpTo d P 3 [some (2, x0), none, some (2, x2)] [(0, sg x0 0)] G R V)
  refine wp_if (c := .eq) 12 rfl rfl rfl (sg32 _ _) (fun q => ?_) (fun q => ?_)
  · have q : x0 = 0 := sg_eq.mp q
    replace w := w.1 q
    show wpv K_X7_timesUpTo d P 12 [some (2, x0), none, some (2, x2)] [] G R V
    refine wp_p (i := (.lconst 0)) rfl rfl (fun _ _ _ => rfl) (?_ : wpv K_X7_timesUpTo d P 13 [some (2, x0), none, some (2, x2)] [(2, 0)] G R V)
    exact wp_rJ rfl rfl rfl w
  · have q : ¬ x0 = 0 := fun z => q (sg_eq.mpr z)
    replace w := w.2 q
    show wpv K_X7_timesUpTo d P 6 [some (2, x0), none, some (2, x2)] [] G R V
    refine wp_ld (i := (.lload_n 2)) (2, x2) rfl rfl (fun _ => rfl) rfl rfl (?_ : wpv K_X7_timesUpTo d P 7 [some (2, x0), none, some (2, x2)] [(2, x2)] G R V)
    refine wp_p (i := (.lconst 0)) rfl rfl (fun _ _ _ => rfl) (?_ : wpv K_X7_timesUpTo d P 8 [some (2, x0), none, some (2, x2)] [(2, 0), (2, x2)] G R V)
    obtain ⟨s2, w⟩ := w
    refine wp_lcmp rfl rfl s2 ⟨by omega, by omega⟩ (?_ : wpv K_X7_timesUpTo d P 9 [some (2, x0), none, some (2, x2)] [(0, sg x2 0)] G R V)
    refine wp_if (c := .ne) 14 rfl rfl rfl (sg32 _ _) (fun q => ?_) (fun q => ?_)
    · have q : ¬ x2 = 0 := fun z => q (sg_eq.mpr z)
      replace w := w.1 q
      show wpv K_X7_timesUpTo d P 14 [some (2, x0), none, some (2, x2)] [] G R V
      refine wp_ld (i := (.lload_n 0)) (2, x0) rfl rfl (fun _ => rfl) rfl rfl (?_ : wpv K_X7_timesUpTo d P 15 [some (2, x0), none, some (2, x2)] [(2, x0)] G R V)
      refine wp_p (i := (.ldc2_w 258)) rfl rfl (fun _ _ _ => rfl) (?_ : wpv K_X7_timesUpTo d P 18 [some (2, x0), none, some (2, x2)] [(2, 1000000000000000), (2, x0)] G R V)
      refine wp_ld (i := (.lload_n 2)) (2, x2) rfl rfl (fun _ => rfl) rfl rfl (?_ : wpv K_X7_timesUpTo d P 19 [some (2, x0), none, some (2, x2)] [(2, x2), (2, 1000000000000000), (2, x0)] G R V)
      obtain ⟨s3, w⟩ := w
      refine wp_jdiv rfl rfl s2 s3 (?_ : wpv K_X7_timesUpTo d P 20 [some (2, x0), none, some (2, x2)] [(2, (jdiv 1000000000000000 x2)), (2, x0)] G R V)
      refine wp_lcmp rfl rfl s1 (t64 _) (?_ : wpv K_X7_timesUpTo d P 21 [some (2, x0), none, some (2, x2)] [(0, sg x0 ((jdiv 1000000000000000 x2)))] G R V)
      refine wp_if (c := .le) 30 rfl rfl rfl (sg32 _ _) (fun q => ?_) (fun q => ?_)
      · have q : ¬ (jdiv 1000000000000000 x2) < x0 := fun z => q (sg_gt.mpr z)
        replace w := w.1 q
        show wpv K_X7_timesUpTo d P 30 [some (2, x0), none, some (2, x2)] [] G R V
        refine wp_ld (i := (.lload_n 0)) (2, x0) rfl rfl (fun _ => rfl) rfl rfl (?_ : wpv K_X7_timesUpTo d P 31 [some (2, x0), none, some (2, x2)] [(2, x0)] G R V)
        refine wp_ld (i := (.lload_n 2)) (2, x2) rfl rfl (fun _ => rfl) rfl rfl (?_ : wpv K_X7_timesUpTo d P 32 [some (2, x0), none, some (2, x2)] [(2, x2), (2, x0)] G R V)
        refine wp_jmul rfl rfl (?_ : wpv K_X7_timesUpTo d P 33 [some (2, x0), none, some (2, x2)] [(2, (jmul x0 x2))] G R V)
        exact wp_rJ rfl rfl rfl w
      · have q : (jdiv 1000000000000000 x2) < x0 := sg_gt.mp (Decidable.not_not.mp q)
        replace w := w.2 q
        show wpv K_X7_timesUpTo d P 24 [some (2, x0), none, some (2, x2)] [] G R V
        refine wp_p (i := (.ldc2_w 356)) rfl rfl (fun _ _ _ => rfl) (?_ : wpv K_X7_timesUpTo d P 27 [some (2, x0), none, some (2, x2)] [(2, 1000000000000001)] G R V)
        refine wp_go 33 rfl rfl rfl (?_ : wpv K_X7_timesUpTo d P 33 [some (2, x0), none, some (2, x2)] [(2, 1000000000000001)] G R V)
        exact wp_rJ rfl rfl rfl w
    · have q : x2 = 0 := sg_eq.mp (Decidable.not_not.mp q)
      replace w := w.2 q
      show wpv K_X7_timesUpTo d P 12 [some (2, x0), none, some (2, x2)] [] G R V
      refine wp_p (i := (.lconst 0)) rfl rfl (fun _ _ _ => rfl) (?_ : wpv K_X7_timesUpTo d P 13 [some (2, x0), none, some (2, x2)] [(2, 0)] G R V)
      exact wp_rJ rfl rfl rfl w
theorem t_X7_powerUpTo_0 {d : Nat} {P : gP} {x0 : Int} {x2 : Int} {G : List gS} {R V : gV}  (w : ((i64 x2) ∧ (((x2 = 0) → P (some (2, 1)) V) ∧ ((¬ x2 = 0) → ((i64 x0) ∧ (((¬ x0 = 1) → (((¬ x0 = 0) → wpv K_X7_powerUpTo d P 28 [some (2, x0), none, some (2, x2), none, some (2, 1), none, some (0, 0)] [] G R V) ∧ ((x0 = 0) → P (some (2, 0)) V))) ∧ ((x0 = 1) → P (some (2, 1)) V))))))) : wpv K_X7_powerUpTo d P 0 [some (2, x0), none, some (2, x2)] [] G R V := by
  refine wp_ld (i := (.lload_n 2)) (2, x2) rfl rfl (fun _ => rfl) rfl rfl (?_ : wpv K_X7_powerUpTo d P 1 [some (2, x0), none, some (2, x2)] [(2, x2)] G R V)
  refine wp_p (i := (.lconst 0)) rfl rfl (fun _ _ _ => rfl) (?_ : wpv K_X7_powerUpTo d P 2 [some (2, x0), none, some (2, x2)] [(2, 0), (2, x2)] G R V)
  obtain ⟨s1, w⟩ := w
  refine wp_lcmp rfl rfl s1 ⟨by omega, by omega⟩ (?_ : wpv K_X7_powerUpTo d P 3 [some (2, x0), none, some (2, x2)] [(0, sg x2 0)] G R V)
  refine wp_if (c := .eq) 12 rfl rfl rfl (sg32 _ _) (fun q => ?_) (fun q => ?_)
  · have q : x2 = 0 := sg_eq.mp q
    replace w := w.1 q
    show wpv K_X7_powerUpTo d P 12 [some (2, x0), none, some (2, x2)] [] G R V
    refine wp_p (i := (.lconst 1)) rfl rfl (fun _ _ _ => rfl) (?_ : wpv K_X7_powerUpTo d P 13 [some (2, x0), none, some (2, x2)] [(2, 1)] G R V)
    exact wp_rJ rfl rfl rfl w
  · have q : ¬ x2 = 0 := fun z => q (sg_eq.mpr z)
    replace w := w.2 q
    show wpv K_X7_powerUpTo d P 6 [some (2, x0), none, some (2, x2)] [] G R V
    refine wp_ld (i := (.lload_n 0)) (2, x0) rfl rfl (fun _ => rfl) rfl rfl (?_ : wpv K_X7_powerUpTo d P 7 [some (2, x0), none, some (2, x2)] [(2, x0)] G R V)
    refine wp_p (i := (.lconst 1)) rfl rfl (fun _ _ _ => rfl) (?_ : wpv K_X7_powerUpTo d P 8 [some (2, x0), none, some (2, x2)] [(2, 1), (2, x0)] G R V)
    obtain ⟨s2, w⟩ := w
    refine wp_lcmp rfl rfl s2 ⟨by omega, by omega⟩ (?_ : wpv K_X7_powerUpTo d P 9 [some (2, x0), none, some (2, x2)] [(0, sg x0 1)] G R V)
    refine wp_if (c := .ne) 14 rfl rfl rfl (sg32 _ _) (fun q => ?_) (fun q => ?_)
    · have q : ¬ x0 = 1 := fun z => q (sg_eq.mpr z)
      replace w := w.1 q
      show wpv K_X7_powerUpTo d P 14 [some (2, x0), none, some (2, x2)] [] G R V
      refine wp_ld (i := (.lload_n 0)) (2, x0) rfl rfl (fun _ => rfl) rfl rfl (?_ : wpv K_X7_powerUpTo d P 15 [some (2, x0), none, some (2, x2)] [(2, x0)] G R V)
      refine wp_p (i := (.lconst 0)) rfl rfl (fun _ _ _ => rfl) (?_ : wpv K_X7_powerUpTo d P 16 [some (2, x0), none, some (2, x2)] [(2, 0), (2, x0)] G R V)
      refine wp_lcmp rfl rfl s2 ⟨by omega, by omega⟩ (?_ : wpv K_X7_powerUpTo d P 17 [some (2, x0), none, some (2, x2)] [(0, sg x0 0)] G R V)
      refine wp_if (c := .ne) 22 rfl rfl rfl (sg32 _ _) (fun q => ?_) (fun q => ?_)
      · have q : ¬ x0 = 0 := fun z => q (sg_eq.mpr z)
        replace w := w.1 q
        show wpv K_X7_powerUpTo d P 22 [some (2, x0), none, some (2, x2)] [] G R V
        refine wp_p (i := (.lconst 1)) rfl rfl (fun _ _ _ => rfl) (?_ : wpv K_X7_powerUpTo d P 23 [some (2, x0), none, some (2, x2)] [(2, 1)] G R V)
        refine wp_lsto (i := (.lstore 4)) _ rfl rfl (fun _ => rfl) rfl rfl rfl ?_
        refine wp_wk (L' := [some (2, x0), none, some (2, x2), none, some (2, 1)]) (wk_s (wk_n (wk_s (wk_n (wk_s wk_0))))) ?_
        show wpv K_X7_powerUpTo d P 25 [some (2, x0), none, some (2, x2), none, some (2, 1)] [] G R V
        refine wp_p (i := (.iconst 0)) rfl rfl (fun _ _ _ => rfl) (?_ : wpv K_X7_powerUpTo d P 26 [some (2, x0), none, some (2, x2), none, some (2, 1)] [(0, 0)] G R V)
        refine wp_sto (i := (.istore 6)) _ rfl rfl (fun _ => rfl) rfl rfl rfl ?_
        refine wp_wk (L' := [some (2, x0), none, some (2, x2), none, some (2, 1), none, some (0, 0)]) (wk_s (wk_n (wk_s (wk_n (wk_s (wk_n (wk_s wk_0))))))) ?_
        show wpv K_X7_powerUpTo d P 28 [some (2, x0), none, some (2, x2), none, some (2, 1), none, some (0, 0)] [] G R V
        exact wp_wk (wk_s (wk_n (wk_s (wk_n (wk_s (wk_n (wk_s wk_0))))))) w
      · have q : x0 = 0 := sg_eq.mp (Decidable.not_not.mp q)
        replace w := w.2 q
        show wpv K_X7_powerUpTo d P 20 [some (2, x0), none, some (2, x2)] [] G R V
        refine wp_p (i := (.lconst 0)) rfl rfl (fun _ _ _ => rfl) (?_ : wpv K_X7_powerUpTo d P 21 [some (2, x0), none, some (2, x2)] [(2, 0)] G R V)
        exact wp_rJ rfl rfl rfl w
    · have q : x0 = 1 := sg_eq.mp (Decidable.not_not.mp q)
      replace w := w.2 q
      show wpv K_X7_powerUpTo d P 12 [some (2, x0), none, some (2, x2)] [] G R V
      refine wp_p (i := (.lconst 1)) rfl rfl (fun _ _ _ => rfl) (?_ : wpv K_X7_powerUpTo d P 13 [some (2, x0), none, some (2, x2)] [(2, 1)] G R V)
      exact wp_rJ rfl rfl rfl w

theorem t_X7_powerUpTo_28 {d : Nat} {P : gP} {x0 : Int} {x2 : Int} {x4 : Int} {x6 : Int} {G : List gS} {R V : gV}  (w : ((i32 x6) ∧ (((¬ x6 < 50) → P (some (2, x4)) V) ∧ ((x6 < 50) → ((i64 x2) ∧ (((¬ x6 < x2) → P (some (2, x4)) V) ∧ ((x6 < x2) → cwv d (fun r V3 => ∃ v4 : Int, r = some (2, v4) ∧ ((i32 (x6 + 1)) ∧ wpv K_X7_powerUpTo d P 28 [some (2, x0), none, some (2, x2), none, some (2, v4), none, some (0, (x6 + 1))] [] G R V3)) 152 [(2, x4), (2, x0)] G R V))))))) : wpv K_X7_powerUpTo d P 28 [some (2, x0), none, some (2, x2), none, some (2, x4), none, some (0, x6)] [] G R V := by
  refine wp_ld (i := (.iload 6)) (0, x6) rfl rfl (fun _ => rfl) rfl rfl (?_ : wpv K_X7_powerUpTo d P 30 [some (2, x0), none, some (2, x2), none, some (2, x4), none, some (0, x6)] [(0, x6)] G R V)
  refine wp_p (i := (.bipush 50)) rfl rfl (fun _ _ _ => rfl) (?_ : wpv K_X7_powerUpTo d P 32 [some (2, x0), none, some (2, x2), none, some (2, x4), none, some (0, x6)] [(0, 50), (0, x6)] G R V)
  obtain ⟨s1, w⟩ := w
  refine wp_icmp (c := .ge) 57 rfl rfl rfl s1 ⟨by omega, by omega⟩ (fun q => ?_) (fun q => ?_)
  · have q : ¬ x6 < 50 := q
    replace w := w.1 q
    show wpv K_X7_powerUpTo d P 57 [some (2, x0), none, some (2, x2), none, some (2, x4), none, some (0, x6)] [] G R V
    refine wp_ld (i := (.lload 4)) (2, x4) rfl rfl (fun _ => rfl) rfl rfl (?_ : wpv K_X7_powerUpTo d P 59 [some (2, x0), none, some (2, x2), none, some (2, x4), none, some (0, x6)] [(2, x4)] G R V)
    exact wp_rJ rfl rfl rfl w
  · have q : x6 < 50 := Decidable.not_not.mp q
    replace w := w.2 q
    show wpv K_X7_powerUpTo d P 35 [some (2, x0), none, some (2, x2), none, some (2, x4), none, some (0, x6)] [] G R V
    refine wp_ld (i := (.iload 6)) (0, x6) rfl rfl (fun _ => rfl) rfl rfl (?_ : wpv K_X7_powerUpTo d P 37 [some (2, x0), none, some (2, x2), none, some (2, x4), none, some (0, x6)] [(0, x6)] G R V)
    refine wp_i2l rfl rfl s1 (?_ : wpv K_X7_powerUpTo d P 38 [some (2, x0), none, some (2, x2), none, some (2, x4), none, some (0, x6)] [(2, x6)] G R V)
    refine wp_ld (i := (.lload_n 2)) (2, x2) rfl rfl (fun _ => rfl) rfl rfl (?_ : wpv K_X7_powerUpTo d P 39 [some (2, x0), none, some (2, x2), none, some (2, x4), none, some (0, x6)] [(2, x2), (2, x6)] G R V)
    obtain ⟨s2, w⟩ := w
    refine wp_lcmp rfl rfl (i32_64 s1) s2 (?_ : wpv K_X7_powerUpTo d P 40 [some (2, x0), none, some (2, x2), none, some (2, x4), none, some (0, x6)] [(0, sg x6 x2)] G R V)
    refine wp_if (c := .ge) 57 rfl rfl rfl (sg32 _ _) (fun q => ?_) (fun q => ?_)
    · have q : ¬ x6 < x2 := fun z => q (sg_lt.mpr z)
      replace w := w.1 q
      show wpv K_X7_powerUpTo d P 57 [some (2, x0), none, some (2, x2), none, some (2, x4), none, some (0, x6)] [] G R V
      refine wp_ld (i := (.lload 4)) (2, x4) rfl rfl (fun _ => rfl) rfl rfl (?_ : wpv K_X7_powerUpTo d P 59 [some (2, x0), none, some (2, x2), none, some (2, x4), none, some (0, x6)] [(2, x4)] G R V)
      exact wp_rJ rfl rfl rfl w
    · have q : x6 < x2 := sg_lt.mp (Decidable.not_not.mp q)
      replace w := w.2 q
      show wpv K_X7_powerUpTo d P 43 [some (2, x0), none, some (2, x2), none, some (2, x4), none, some (0, x6)] [] G R V
      refine wp_ld (i := (.lload 4)) (2, x4) rfl rfl (fun _ => rfl) rfl rfl (?_ : wpv K_X7_powerUpTo d P 45 [some (2, x0), none, some (2, x2), none, some (2, x4), none, some (0, x6)] [(2, x4)] G R V)
      refine wp_ld (i := (.lload_n 0)) (2, x0) rfl rfl (fun _ => rfl) rfl rfl (?_ : wpv K_X7_powerUpTo d P 46 [some (2, x0), none, some (2, x2), none, some (2, x4), none, some (0, x6)] [(2, x0), (2, x4)] G R V)
      refine wp_stat (as := [(2, x4), (2, x0)]) (st := []) _ rfl rfl rfl (by omega) rfl rfl (Nat.le_of_ble_eq_true rfl) (cwv_kJ w (fun v4 V3 w => ?_))
      show wpv K_X7_powerUpTo d P 49 [some (2, x0), none, some (2, x2), none, some (2, x4), none, some (0, x6)] [(2, v4)] G R V3
      refine wp_lsto (i := (.lstore 4)) _ rfl rfl (fun _ => rfl) rfl rfl rfl ?_
      refine wp_wk (L' := [some (2, x0), none, some (2, x2), none, some (2, v4), none, some (0, x6)]) (wk_s (wk_n (wk_s (wk_n (wk_s (wk_n (wk_s wk_0))))))) ?_
      show wpv K_X7_powerUpTo d P 51 [some (2, x0), none, some (2, x2), none, some (2, v4), none, some (0, x6)] [] G R V3
      obtain ⟨s5, w⟩ := w
      refine wp_inc (x := 6) (k := 1) (a := x6) (c := (x6 + 1)) _ rfl rfl rfl rfl s5 (by omega) rfl ?_
      show wpv K_X7_powerUpTo d P 54 [some (2, x0), none, some (2, x2), none, some (2, v4), none, some (0, (x6 + 1))] [] G R V3
      refine wp_go 28 rfl rfl rfl (?_ : wpv K_X7_powerUpTo d P 28 [some (2, x0), none, some (2, x2), none, some (2, v4), none, some (0, (x6 + 1))] [] G R V3)
      exact wp_wk (wk_s (wk_n (wk_s (wk_n (wk_s (wk_n (wk_s wk_0))))))) w
theorem t_X7_factorialUpTo_0 {d : Nat} {P : gP} {x0 : Int} {G : List gS} {R V : gV}  (w : ((i64 x0) ∧ (((¬ 17 < x0) → wpv K_X7_factorialUpTo d P 17 [some (2, x0), none, some (2, 1), none, some (0, 2)] [] G R V) ∧ ((17 < x0) → P (some (2, 1000000000000001)) V)))) : wpv K_X7_factorialUpTo d P 0 [some (2, x0)] [] G R V := by
  refine wp_ld (i := (.lload_n 0)) (2, x0) rfl rfl (fun _ => rfl) rfl rfl (?_ : wpv K_X7_factorialUpTo d P 1 [some (2, x0)] [(2, x0)] G R V)
  refine wp_p (i := (.ldc2_w 358)) rfl rfl (fun _ _ _ => rfl) (?_ : wpv K_X7_factorialUpTo d P 4 [some (2, x0)] [(2, 17), (2, x0)] G R V)
  obtain ⟨s1, w⟩ := w
  refine wp_lcmp rfl rfl s1 ⟨by omega, by omega⟩ (?_ : wpv K_X7_factorialUpTo d P 5 [some (2, x0)] [(0, sg x0 17)] G R V)
  refine wp_if (c := .le) 12 rfl rfl rfl (sg32 _ _) (fun q => ?_) (fun q => ?_)
  · have q : ¬ 17 < x0 := fun z => q (sg_gt.mpr z)
    replace w := w.1 q
    show wpv K_X7_factorialUpTo d P 12 [some (2, x0)] [] G R V
    refine wp_p (i := (.lconst 1)) rfl rfl (fun _ _ _ => rfl) (?_ : wpv K_X7_factorialUpTo d P 13 [some (2, x0)] [(2, 1)] G R V)
    refine wp_lsto (i := (.lstore_n 2)) _ rfl rfl (fun _ => rfl) rfl rfl rfl ?_
    refine wp_wk (L' := [some (2, x0), none, some (2, 1)]) (wk_s (wk_n (wk_s wk_0))) ?_
    show wpv K_X7_factorialUpTo d P 14 [some (2, x0), none, some (2, 1)] [] G R V
    refine wp_p (i := (.iconst 2)) rfl rfl (fun _ _ _ => rfl) (?_ : wpv K_X7_factorialUpTo d P 15 [some (2, x0), none, some (2, 1)] [(0, 2)] G R V)
    refine wp_sto (i := (.istore 4)) _ rfl rfl (fun _ => rfl) rfl rfl rfl ?_
    refine wp_wk (L' := [some (2, x0), none, some (2, 1), none, some (0, 2)]) (wk_s (wk_n (wk_s (wk_n (wk_s wk_0))))) ?_
    show wpv K_X7_factorialUpTo d P 17 [some (2, x0), none, some (2, 1), none, some (0, 2)] [] G R V
    exact wp_wk (wk_s (wk_n (wk_s (wk_n (wk_s wk_0))))) w
  · have q : 17 < x0 := sg_gt.mp (Decidable.not_not.mp q)
    replace w := w.2 q
    show wpv K_X7_factorialUpTo d P 8 [some (2, x0)] [] G R V
    refine wp_p (i := (.ldc2_w 356)) rfl rfl (fun _ _ _ => rfl) (?_ : wpv K_X7_factorialUpTo d P 11 [some (2, x0)] [(2, 1000000000000001)] G R V)
    exact wp_rJ rfl rfl rfl w

theorem t_X7_factorialUpTo_17 {d : Nat} {P : gP} {x0 : Int} {x2 : Int} {x4 : Int} {G : List gS} {R V : gV}  (w : ((i32 x4) ∧ (((17 < x4) → P (some (2, x2)) V) ∧ ((¬ 17 < x4) → ((i64 x0) ∧ (((x0 < x4) → P (some (2, x2)) V) ∧ ((¬ x0 < x4) → ((i32 (x4 + 1)) ∧ wpv K_X7_factorialUpTo d P 17 [some (2, x0), none, some (2, (jmul x2 x4)), none, some (0, (x4 + 1))] [] G R V)))))))) : wpv K_X7_factorialUpTo d P 17 [some (2, x0), none, some (2, x2), none, some (0, x4)] [] G R V := by
  refine wp_ld (i := (.iload 4)) (0, x4) rfl rfl (fun _ => rfl) rfl rfl (?_ : wpv K_X7_factorialUpTo d P 19 [some (2, x0), none, some (2, x2), none, some (0, x4)] [(0, x4)] G R V)
  refine wp_p (i := (.bipush 17)) rfl rfl (fun _ _ _ => rfl) (?_ : wpv K_X7_factorialUpTo d P 21 [some (2, x0), none, some (2, x2), none, some (0, x4)] [(0, 17), (0, x4)] G R V)
  obtain ⟨s1, w⟩ := w
  refine wp_icmp (c := .gt) 44 rfl rfl rfl s1 ⟨by omega, by omega⟩ (fun q => ?_) (fun q => ?_)
  · have q : 17 < x4 := q
    replace w := w.1 q
    show wpv K_X7_factorialUpTo d P 44 [some (2, x0), none, some (2, x2), none, some (0, x4)] [] G R V
    refine wp_ld (i := (.lload_n 2)) (2, x2) rfl rfl (fun _ => rfl) rfl rfl (?_ : wpv K_X7_factorialUpTo d P 45 [some (2, x0), none, some (2, x2), none, some (0, x4)] [(2, x2)] G R V)
    exact wp_rJ rfl rfl rfl w
  · have q : ¬ 17 < x4 := q
    replace w := w.2 q
    show wpv K_X7_factorialUpTo d P 24 [some (2, x0), none, some (2, x2), none, some (0, x4)] [] G R V
    refine wp_ld (i := (.iload 4)) (0, x4) rfl rfl (fun _ => rfl) rfl rfl (?_ : wpv K_X7_factorialUpTo d P 26 [some (2, x0), none, some (2, x2), none, some (0, x4)] [(0, x4)] G R V)
    refine wp_i2l rfl rfl s1 (?_ : wpv K_X7_factorialUpTo d P 27 [some (2, x0), none, some (2, x2), none, some (0, x4)] [(2, x4)] G R V)
    refine wp_ld (i := (.lload_n 0)) (2, x0) rfl rfl (fun _ => rfl) rfl rfl (?_ : wpv K_X7_factorialUpTo d P 28 [some (2, x0), none, some (2, x2), none, some (0, x4)] [(2, x0), (2, x4)] G R V)
    obtain ⟨s2, w⟩ := w
    refine wp_lcmp rfl rfl (i32_64 s1) s2 (?_ : wpv K_X7_factorialUpTo d P 29 [some (2, x0), none, some (2, x2), none, some (0, x4)] [(0, sg x4 x0)] G R V)
    refine wp_if (c := .gt) 44 rfl rfl rfl (sg32 _ _) (fun q => ?_) (fun q => ?_)
    · have q : x0 < x4 := sg_gt.mp q
      replace w := w.1 q
      show wpv K_X7_factorialUpTo d P 44 [some (2, x0), none, some (2, x2), none, some (0, x4)] [] G R V
      refine wp_ld (i := (.lload_n 2)) (2, x2) rfl rfl (fun _ => rfl) rfl rfl (?_ : wpv K_X7_factorialUpTo d P 45 [some (2, x0), none, some (2, x2), none, some (0, x4)] [(2, x2)] G R V)
      exact wp_rJ rfl rfl rfl w
    · have q : ¬ x0 < x4 := fun z => q (sg_gt.mpr z)
      replace w := w.2 q
      show wpv K_X7_factorialUpTo d P 32 [some (2, x0), none, some (2, x2), none, some (0, x4)] [] G R V
      refine wp_ld (i := (.lload_n 2)) (2, x2) rfl rfl (fun _ => rfl) rfl rfl (?_ : wpv K_X7_factorialUpTo d P 33 [some (2, x0), none, some (2, x2), none, some (0, x4)] [(2, x2)] G R V)
      refine wp_ld (i := (.iload 4)) (0, x4) rfl rfl (fun _ => rfl) rfl rfl (?_ : wpv K_X7_factorialUpTo d P 35 [some (2, x0), none, some (2, x2), none, some (0, x4)] [(0, x4), (2, x2)] G R V)
      refine wp_i2l rfl rfl s1 (?_ : wpv K_X7_factorialUpTo d P 36 [some (2, x0), none, some (2, x2), none, some (0, x4)] [(2, x4), (2, x2)] G R V)
      refine wp_jmul rfl rfl (?_ : wpv K_X7_factorialUpTo d P 37 [some (2, x0), none, some (2, x2), none, some (0, x4)] [(2, (jmul x2 x4))] G R V)
      refine wp_lsto (i := (.lstore_n 2)) _ rfl rfl (fun _ => rfl) rfl rfl rfl ?_
      refine wp_wk (L' := [some (2, x0), none, some (2, (jmul x2 x4)), none, some (0, x4)]) (wk_s (wk_n (wk_s (wk_n (wk_s wk_0))))) ?_
      show wpv K_X7_factorialUpTo d P 38 [some (2, x0), none, some (2, (jmul x2 x4)), none, some (0, x4)] [] G R V
      obtain ⟨s3, w⟩ := w
      refine wp_inc (x := 4) (k := 1) (a := x4) (c := (x4 + 1)) _ rfl rfl rfl rfl s3 (by omega) rfl ?_
      show wpv K_X7_factorialUpTo d P 41 [some (2, x0), none, some (2, (jmul x2 x4)), none, some (0, (x4 + 1))] [] G R V
      refine wp_go 17 rfl rfl rfl (?_ : wpv K_X7_factorialUpTo d P 17 [some (2, x0), none, some (2, (jmul x2 x4)), none, some (0, (x4 + 1))] [] G R V)
      exact wp_wk (wk_s (wk_n (wk_s (wk_n (wk_s wk_0))))) w
theorem t_X7_powerOf_0 {d : Nat} {P : gP} {x0 : Int} {x2 : Int} {G : List gS} {R V : gV}  (w : wpv K_X7_powerOf d P 5 [some (2, x0), none, some (0, x2), some (2, 1), none, some (0, 0)] [] G R V) : wpv K_X7_powerOf d P 0 [some (2, x0), none, some (0, x2)] [] G R V := by
  refine wp_p (i := (.lconst 1)) rfl rfl (fun _ _ _ => rfl) (?_ : wpv K_X7_powerOf d P 1 [some (2, x0), none, some (0, x2)] [(2, 1)] G R V)
  refine wp_lsto (i := (.lstore_n 3)) _ rfl rfl (fun _ => rfl) rfl rfl rfl ?_
  refine wp_wk (L' := [some (2, x0), none, some (0, x2), some (2, 1)]) (wk_s (wk_n (wk_s (wk_s wk_0)))) ?_
  show wpv K_X7_powerOf d P 2 [some (2, x0), none, some (0, x2), some (2, 1)] [] G R V
  refine wp_p (i := (.iconst 0)) rfl rfl (fun _ _ _ => rfl) (?_ : wpv K_X7_powerOf d P 3 [some (2, x0), none, some (0, x2), some (2, 1)] [(0, 0)] G R V)
  refine wp_sto (i := (.istore 5)) _ rfl rfl (fun _ => rfl) rfl rfl rfl ?_
  refine wp_wk (L' := [some (2, x0), none, some (0, x2), some (2, 1), none, some (0, 0)]) (wk_s (wk_n (wk_s (wk_s (wk_n (wk_s wk_0)))))) ?_
  show wpv K_X7_powerOf d P 5 [some (2, x0), none, some (0, x2), some (2, 1), none, some (0, 0)] [] G R V
  exact wp_wk (wk_s (wk_n (wk_s (wk_s (wk_n (wk_s wk_0)))))) w

theorem t_X7_powerOf_5 {d : Nat} {P : gP} {x0 : Int} {x2 : Int} {x3 : Int} {x5 : Int} {G : List gS} {R V : gV}  (w : ((i32 x5) ∧ ((i32 x2) ∧ (((¬ x5 < x2) → P (some (2, x3)) V) ∧ ((x5 < x2) → ((i32 (x5 + 1)) ∧ wpv K_X7_powerOf d P 5 [some (2, x0), none, some (0, x2), some (2, (jmul x3 x0)), none, some (0, (x5 + 1))] [] G R V)))))) : wpv K_X7_powerOf d P 5 [some (2, x0), none, some (0, x2), some (2, x3), none, some (0, x5)] [] G R V := by
  refine wp_ld (i := (.iload 5)) (0, x5) rfl rfl (fun _ => rfl) rfl rfl (?_ : wpv K_X7_powerOf d P 7 [some (2, x0), none, some (0, x2), some (2, x3), none, some (0, x5)] [(0, x5)] G R V)
  refine wp_ld (i := (.iload_n 2)) (0, x2) rfl rfl (fun _ => rfl) rfl rfl (?_ : wpv K_X7_powerOf d P 8 [some (2, x0), none, some (0, x2), some (2, x3), none, some (0, x5)] [(0, x2), (0, x5)] G R V)
  obtain ⟨s1, w⟩ := w
  obtain ⟨s2, w⟩ := w
  refine wp_icmp (c := .ge) 21 rfl rfl rfl s1 s2 (fun q => ?_) (fun q => ?_)
  · have q : ¬ x5 < x2 := q
    replace w := w.1 q
    show wpv K_X7_powerOf d P 21 [some (2, x0), none, some (0, x2), some (2, x3), none, some (0, x5)] [] G R V
    refine wp_ld (i := (.lload_n 3)) (2, x3) rfl rfl (fun _ => rfl) rfl rfl (?_ : wpv K_X7_powerOf d P 22 [some (2, x0), none, some (0, x2), some (2, x3), none, some (0, x5)] [(2, x3)] G R V)
    exact wp_rJ rfl rfl rfl w
  · have q : x5 < x2 := Decidable.not_not.mp q
    replace w := w.2 q
    show wpv K_X7_powerOf d P 11 [some (2, x0), none, some (0, x2), some (2, x3), none, some (0, x5)] [] G R V
    refine wp_ld (i := (.lload_n 3)) (2, x3) rfl rfl (fun _ => rfl) rfl rfl (?_ : wpv K_X7_powerOf d P 12 [some (2, x0), none, some (0, x2), some (2, x3), none, some (0, x5)] [(2, x3)] G R V)
    refine wp_ld (i := (.lload_n 0)) (2, x0) rfl rfl (fun _ => rfl) rfl rfl (?_ : wpv K_X7_powerOf d P 13 [some (2, x0), none, some (0, x2), some (2, x3), none, some (0, x5)] [(2, x0), (2, x3)] G R V)
    refine wp_jmul rfl rfl (?_ : wpv K_X7_powerOf d P 14 [some (2, x0), none, some (0, x2), some (2, x3), none, some (0, x5)] [(2, (jmul x3 x0))] G R V)
    refine wp_lsto (i := (.lstore_n 3)) _ rfl rfl (fun _ => rfl) rfl rfl rfl ?_
    refine wp_wk (L' := [some (2, x0), none, some (0, x2), some (2, (jmul x3 x0)), none, some (0, x5)]) (wk_s (wk_n (wk_s (wk_s (wk_n (wk_s wk_0)))))) ?_
    show wpv K_X7_powerOf d P 15 [some (2, x0), none, some (0, x2), some (2, (jmul x3 x0)), none, some (0, x5)] [] G R V
    obtain ⟨s3, w⟩ := w
    refine wp_inc (x := 5) (k := 1) (a := x5) (c := (x5 + 1)) _ rfl rfl rfl rfl s3 (by omega) rfl ?_
    show wpv K_X7_powerOf d P 18 [some (2, x0), none, some (0, x2), some (2, (jmul x3 x0)), none, some (0, (x5 + 1))] [] G R V
    refine wp_go 5 rfl rfl rfl (?_ : wpv K_X7_powerOf d P 5 [some (2, x0), none, some (0, x2), some (2, (jmul x3 x0)), none, some (0, (x5 + 1))] [] G R V)
    exact wp_wk (wk_s (wk_n (wk_s (wk_s (wk_n (wk_s wk_0)))))) w
theorem t_X7_greatestDivisor_0 {d : Nat} {P : gP} {x0 : Int} {x2 : Int} {G : List gS} {R V : gV}  (w : wpv K_X7_greatestDivisor d P 9 [none, none, none, none, some (2, x0), none, some (2, x2), none, some (0, 0)] [] G R V) : wpv K_X7_greatestDivisor d P 0 [some (2, x0), none, some (2, x2)] [] G R V := by
  refine wp_ld (i := (.lload_n 0)) (2, x0) rfl rfl (fun _ => rfl) rfl rfl (?_ : wpv K_X7_greatestDivisor d P 1 [some (2, x0), none, some (2, x2)] [(2, x0)] G R V)
  refine wp_lsto (i := (.lstore 4)) _ rfl rfl (fun _ => rfl) rfl rfl rfl ?_
  refine wp_wk (L' := [some (2, x0), none, some (2, x2), none, some (2, x0)]) (wk_s (wk_n (wk_s (wk_n (wk_s wk_0))))) ?_
  show wpv K_X7_greatestDivisor d P 3 [some (2, x0), none, some (2, x2), none, some (2, x0)] [] G R V
  refine wp_ld (i := (.lload_n 2)) (2, x2) rfl rfl (fun _ => rfl) rfl rfl (?_ : wpv K_X7_greatestDivisor d P 4 [some (2, x0), none, some (2, x2), none, some (2, x0)] [(2, x2)] G R V)
  refine wp_lsto (i := (.lstore 6)) _ rfl rfl (fun _ => rfl) rfl rfl rfl ?_
  refine wp_wk (L' := [some (2, x0), none, some (2, x2), none, some (2, x0), none, some (2, x2)]) (wk_s (wk_n (wk_s (wk_n (wk_s (wk_n (wk_s wk_0))))))) ?_
  show wpv K_X7_greatestDivisor d P 6 [some (2, x0), none, some (2, x2), none, some (2, x0), none, some (2, x2)] [] G R V
  refine wp_p (i := (.iconst 0)) rfl rfl (fun _ _ _ => rfl) (?_ : wpv K_X7_greatestDivisor d P 7 [some (2, x0), none, some (2, x2), none, some (2, x0), none, some (2, x2)] [(0, 0)] G R V)
  refine wp_sto (i := (.istore 8)) _ rfl rfl (fun _ => rfl) rfl rfl rfl ?_
  refine wp_wk (L' := [some (2, x0), none, some (2, x2), none, some (2, x0), none, some (2, x2), none, some (0, 0)]) (wk_s (wk_n (wk_s (wk_n (wk_s (wk_n (wk_s (wk_n (wk_s wk_0))))))))) ?_
  show wpv K_X7_greatestDivisor d P 9 [some (2, x0), none, some (2, x2), none, some (2, x0), none, some (2, x2), none, some (0, 0)] [] G R V
  exact wp_wk (wk_n (wk_n (wk_n (wk_n (wk_s (wk_n (wk_s (wk_n (wk_s wk_0))))))))) w

theorem t_X7_greatestDivisor_9 {d : Nat} {P : gP} {x4 : Int} {x6 : Int} {x8 : Int} {G : List gS} {R V : gV}  (w : ((i32 x8) ∧ (((¬ x8 < 100) → P (some (2, x4)) V) ∧ ((x8 < 100) → ((i64 x6) ∧ (((x6 = 0) → P (some (2, x4)) V) ∧ ((¬ x6 = 0) → ((x6 ≠ 0) ∧ ((i32 (x8 + 1)) ∧ wpv K_X7_greatestDivisor d P 9 [none, none, none, none, some (2, x6), none, some (2, (jrem x4 x6)), none, some (0, (x8 + 1))] [] G R V))))))))) : wpv K_X7_greatestDivisor d P 9 [none, none, none, none, some (2, x4), none, some (2, x6), none, some (0, x8)] [] G R V := by
  refine wp_ld (i := (.iload 8)) (0, x8) rfl rfl (fun _ => rfl) rfl rfl (?_ : wpv K_X7_greatestDivisor d P 11 [none, none, none, none, some (2, x4), none, some (2, x6), none, some (0, x8)] [(0, x8)] G R V)
  refine wp_p (i := (.bipush 100)) rfl rfl (fun _ _ _ => rfl) (?_ : wpv K_X7_greatestDivisor d P 13 [none, none, none, none, some (2, x4), none, some (2, x6), none, some (0, x8)] [(0, 100), (0, x8)] G R V)
  obtain ⟨s1, w⟩ := w
  refine wp_icmp (c := .ge) 44 rfl rfl rfl s1 ⟨by omega, by omega⟩ (fun q => ?_) (fun q => ?_)
  · have q : ¬ x8 < 100 := q
    replace w := w.1 q
    show wpv K_X7_greatestDivisor d P 44 [none, none, none, none, some (2, x4), none, some (2, x6), none, some (0, x8)] [] G R V
    refine wp_ld (i := (.lload 4)) (2, x4) rfl rfl (fun _ => rfl) rfl rfl (?_ : wpv K_X7_greatestDivisor d P 46 [none, none, none, none, some (2, x4), none, some (2, x6), none, some (0, x8)] [(2, x4)] G R V)
    exact wp_rJ rfl rfl rfl w
  · have q : x8 < 100 := Decidable.not_not.mp q
    replace w := w.2 q
    show wpv K_X7_greatestDivisor d P 16 [none, none, none, none, some (2, x4), none, some (2, x6), none, some (0, x8)] [] G R V
    refine wp_ld (i := (.lload 6)) (2, x6) rfl rfl (fun _ => rfl) rfl rfl (?_ : wpv K_X7_greatestDivisor d P 18 [none, none, none, none, some (2, x4), none, some (2, x6), none, some (0, x8)] [(2, x6)] G R V)
    refine wp_p (i := (.lconst 0)) rfl rfl (fun _ _ _ => rfl) (?_ : wpv K_X7_greatestDivisor d P 19 [none, none, none, none, some (2, x4), none, some (2, x6), none, some (0, x8)] [(2, 0), (2, x6)] G R V)
    obtain ⟨s2, w⟩ := w
    refine wp_lcmp rfl rfl s2 ⟨by omega, by omega⟩ (?_ : wpv K_X7_greatestDivisor d P 20 [none, none, none, none, some (2, x4), none, some (2, x6), none, some (0, x8)] [(0, sg x6 0)] G R V)
    refine wp_if (c := .eq) 44 rfl rfl rfl (sg32 _ _) (fun q => ?_) (fun q => ?_)
    · have q : x6 = 0 := sg_eq.mp q
      replace w := w.1 q
      show wpv K_X7_greatestDivisor d P 44 [none, none, none, none, some (2, x4), none, some (2, x6), none, some (0, x8)] [] G R V
      refine wp_ld (i := (.lload 4)) (2, x4) rfl rfl (fun _ => rfl) rfl rfl (?_ : wpv K_X7_greatestDivisor d P 46 [none, none, none, none, some (2, x4), none, some (2, x6), none, some (0, x8)] [(2, x4)] G R V)
      exact wp_rJ rfl rfl rfl w
    · have q : ¬ x6 = 0 := fun z => q (sg_eq.mpr z)
      replace w := w.2 q
      show wpv K_X7_greatestDivisor d P 23 [none, none, none, none, some (2, x4), none, some (2, x6), none, some (0, x8)] [] G R V
      refine wp_ld (i := (.lload 4)) (2, x4) rfl rfl (fun _ => rfl) rfl rfl (?_ : wpv K_X7_greatestDivisor d P 25 [none, none, none, none, some (2, x4), none, some (2, x6), none, some (0, x8)] [(2, x4)] G R V)
      refine wp_ld (i := (.lload 6)) (2, x6) rfl rfl (fun _ => rfl) rfl rfl (?_ : wpv K_X7_greatestDivisor d P 27 [none, none, none, none, some (2, x4), none, some (2, x6), none, some (0, x8)] [(2, x6), (2, x4)] G R V)
      obtain ⟨s3, w⟩ := w
      refine wp_jrem rfl rfl s2 s3 (?_ : wpv K_X7_greatestDivisor d P 28 [none, none, none, none, some (2, x4), none, some (2, x6), none, some (0, x8)] [(2, (jrem x4 x6))] G R V)
      refine wp_lsto (i := (.lstore 9)) _ rfl rfl (fun _ => rfl) rfl rfl rfl ?_
      refine wp_wk (L' := [none, none, none, none, some (2, x4), none, some (2, x6), none, some (0, x8), some (2, (jrem x4 x6))]) (wk_n (wk_n (wk_n (wk_n (wk_s (wk_n (wk_s (wk_n (wk_s (wk_s wk_0)))))))))) ?_
      show wpv K_X7_greatestDivisor d P 30 [none, none, none, none, some (2, x4), none, some (2, x6), none, some (0, x8), some (2, (jrem x4 x6))] [] G R V
      refine wp_ld (i := (.lload 6)) (2, x6) rfl rfl (fun _ => rfl) rfl rfl (?_ : wpv K_X7_greatestDivisor d P 32 [none, none, none, none, some (2, x4), none, some (2, x6), none, some (0, x8), some (2, (jrem x4 x6))] [(2, x6)] G R V)
      refine wp_lsto (i := (.lstore 4)) _ rfl rfl (fun _ => rfl) rfl rfl rfl ?_
      refine wp_wk (L' := [none, none, none, none, some (2, x6), none, some (2, x6), none, some (0, x8), some (2, (jrem x4 x6))]) (wk_n (wk_n (wk_n (wk_n (wk_s (wk_n (wk_s (wk_n (wk_s (wk_s wk_0)))))))))) ?_
      show wpv K_X7_greatestDivisor d P 34 [none, none, none, none, some (2, x6), none, some (2, x6), none, some (0, x8), some (2, (jrem x4 x6))] [] G R V
      refine wp_ld (i := (.lload 9)) (2, (jrem x4 x6)) rfl rfl (fun _ => rfl) rfl rfl (?_ : wpv K_X7_greatestDivisor d P 36 [none, none, none, none, some (2, x6), none, some (2, x6), none, some (0, x8), some (2, (jrem x4 x6))] [(2, (jrem x4 x6))] G R V)
      refine wp_lsto (i := (.lstore 6)) _ rfl rfl (fun _ => rfl) rfl rfl rfl ?_
      refine wp_wk (L' := [none, none, none, none, some (2, x6), none, some (2, (jrem x4 x6)), none, some (0, x8), some (2, (jrem x4 x6))]) (wk_n (wk_n (wk_n (wk_n (wk_s (wk_n (wk_s (wk_n (wk_s (wk_s wk_0)))))))))) ?_
      show wpv K_X7_greatestDivisor d P 38 [none, none, none, none, some (2, x6), none, some (2, (jrem x4 x6)), none, some (0, x8), some (2, (jrem x4 x6))] [] G R V
      obtain ⟨s4, w⟩ := w
      refine wp_inc (x := 8) (k := 1) (a := x8) (c := (x8 + 1)) _ rfl rfl rfl rfl s4 (by omega) rfl ?_
      show wpv K_X7_greatestDivisor d P 41 [none, none, none, none, some (2, x6), none, some (2, (jrem x4 x6)), none, some (0, (x8 + 1)), some (2, (jrem x4 x6))] [] G R V
      refine wp_go 9 rfl rfl rfl (?_ : wpv K_X7_greatestDivisor d P 9 [none, none, none, none, some (2, x6), none, some (2, (jrem x4 x6)), none, some (0, (x8 + 1)), some (2, (jrem x4 x6))] [] G R V)
      exact wp_wk (wk_n (wk_n (wk_n (wk_n (wk_s (wk_n (wk_s (wk_n (wk_s wk_0))))))))) w
theorem t_X7_isPowerOfPrime_0 {d : Nat} {P : gP} {x0 : Int} {G : List gS} {R V : gV}  (w : wpv K_X7_isPowerOfPrime d P 2 [some (0, x0), some (0, 2)] [] G R V) : wpv K_X7_isPowerOfPrime d P 0 [some (0, x0)] [] G R V := by
  refine wp_p (i := (.iconst 2)) rfl rfl (fun _ _ _ => rfl) (?_ : wpv K_X7_isPowerOfPrime d P 1 [some (0, x0)] [(0, 2)] G R V)
  refine wp_sto (i := (.istore_n 1)) _ rfl rfl (fun _ => rfl) rfl rfl rfl ?_
  refine wp_wk (L' := [some (0, x0), some (0, 2)]) (wk_s (wk_s wk_0)) ?_
  show wpv K_X7_isPowerOfPrime d P 2 [some (0, x0), some (0, 2)] [] G R V
  exact wp_wk (wk_s (wk_s wk_0)) w

theorem t_X7_isPowerOfPrime_2 {d : Nat} {P : gP} {x0 : Int} {x1 : Int} {G : List gS} {R V : gV}  (w : ((i32 x1) ∧ ((i32 x0) ∧ (((x0 < x1) → P (some (0, 0)) V) ∧ ((¬ x0 < x1) → ((0 ≤ x0 ∧ 0 < x1) ∧ ((i32 ((x0 % x1))) ∧ (((¬ (x0 % x1) = 0) → ((i32 (x1 + 1)) ∧ wpv K_X7_isPowerOfPrime d P 2 [some (0, x0), some (0, (x1 + 1))] [] G R V)) ∧ (((x0 % x1) = 0) → wpv K_X7_isPowerOfPrime d P 17 [none, some (0, x1), some (0, x0), some (0, 0)] [] G R V))))))))) : wpv K_X7_isPowerOfPrime d P 2 [some (0, x0), some (0, x1)] [] G R V := by
  refine wp_ld (i := (.iload_n 1)) (0, x1) rfl rfl (fun _ => rfl) rfl rfl (?_ : wpv K_X7_isPowerOfPrime d P 3 [some (0, x0), some (0, x1)] [(0, x1)] G R V)
  refine wp_ld (i := (.iload_n 0)) (0, x0) rfl rfl (fun _ => rfl) rfl rfl (?_ : wpv K_X7_isPowerOfPrime d P 4 [some (0, x0), some (0, x1)] [(0, x0), (0, x1)] G R V)
  obtain ⟨s1, w⟩ := w
  obtain ⟨s2, w⟩ := w
  refine wp_icmp (c := .gt) 56 rfl rfl rfl s1 s2 (fun q => ?_) (fun q => ?_)
  · have q : x0 < x1 := q
    replace w := w.1 q
    show wpv K_X7_isPowerOfPrime d P 56 [some (0, x0), some (0, x1)] [] G R V
    refine wp_p (i := (.iconst 0)) rfl rfl (fun _ _ _ => rfl) (?_ : wpv K_X7_isPowerOfPrime d P 57 [some (0, x0), some (0, x1)] [(0, 0)] G R V)
    exact wp_rB rfl rfl rfl (by omega) w
  · have q : ¬ x0 < x1 := q
    replace w := w.2 q
    show wpv K_X7_isPowerOfPrime d P 7 [some (0, x0), some (0, x1)] [] G R V
    refine wp_ld (i := (.iload_n 0)) (0, x0) rfl rfl (fun _ => rfl) rfl rfl (?_ : wpv K_X7_isPowerOfPrime d P 8 [some (0, x0), some (0, x1)] [(0, x0)] G R V)
    refine wp_ld (i := (.iload_n 1)) (0, x1) rfl rfl (fun _ => rfl) rfl rfl (?_ : wpv K_X7_isPowerOfPrime d P 9 [some (0, x0), some (0, x1)] [(0, x1), (0, x0)] G R V)
    obtain ⟨s3, w⟩ := w
    refine wp_xrem rfl rfl s3.1 s3.2 s2 s1 (?_ : wpv K_X7_isPowerOfPrime d P 10 [some (0, x0), some (0, x1)] [(0, (x0 % x1))] G R V)
    obtain ⟨s4, w⟩ := w
    refine wp_if (c := .ne) 50 rfl rfl rfl s4 (fun q => ?_) (fun q => ?_)
    · have q : ¬ (x0 % x1) = 0 := q
      replace w := w.1 q
      show wpv K_X7_isPowerOfPrime d P 50 [some (0, x0), some (0, x1)] [] G R V
      obtain ⟨s5, w⟩ := w
      refine wp_inc (x := 1) (k := 1) (a := x1) (c := (x1 + 1)) _ rfl rfl rfl rfl s5 (by omega) rfl ?_
      show wpv K_X7_isPowerOfPrime d P 53 [some (0, x0), some (0, (x1 + 1))] [] G R V
      refine wp_go 2 rfl rfl rfl (?_ : wpv K_X7_isPowerOfPrime d P 2 [some (0, x0), some (0, (x1 + 1))] [] G R V)
      exact wp_wk (wk_s (wk_s wk_0)) w
    · have q : (x0 % x1) = 0 := Decidable.not_not.mp q
      replace w := w.2 q
      show wpv K_X7_isPowerOfPrime d P 13 [some (0, x0), some (0, x1)] [] G R V
      refine wp_ld (i := (.iload_n 0)) (0, x0) rfl rfl (fun _ => rfl) rfl rfl (?_ : wpv K_X7_isPowerOfPrime d P 14 [some (0, x0), some (0, x1)] [(0, x0)] G R V)
      refine wp_sto (i := (.istore_n 2)) _ rfl rfl (fun _ => rfl) rfl rfl rfl ?_
      refine wp_wk (L' := [some (0, x0), some (0, x1), some (0, x0)]) (wk_s (wk_s (wk_s wk_0))) ?_
      show wpv K_X7_isPowerOfPrime d P 15 [some (0, x0), some (0, x1), some (0, x0)] [] G R V
      refine wp_p (i := (.iconst 0)) rfl rfl (fun _ _ _ => rfl) (?_ : wpv K_X7_isPowerOfPrime d P 16 [some (0, x0), some (0, x1), some (0, x0)] [(0, 0)] G R V)
      refine wp_sto (i := (.istore_n 3)) _ rfl rfl (fun _ => rfl) rfl rfl rfl ?_
      refine wp_wk (L' := [some (0, x0), some (0, x1), some (0, x0), some (0, 0)]) (wk_s (wk_s (wk_s (wk_s wk_0)))) ?_
      show wpv K_X7_isPowerOfPrime d P 17 [some (0, x0), some (0, x1), some (0, x0), some (0, 0)] [] G R V
      exact wp_wk (wk_n (wk_s (wk_s (wk_s wk_0)))) w

theorem t_X7_isPowerOfPrime_17 {d : Nat} {P : gP} {x1 : Int} {x2 : Int} {x3 : Int} {G : List gS} {R V : gV}  (w : ((i32 x3) ∧ (((¬ x3 < 120) → ((i32 x2) ∧ (((¬ x2 = 1) → P (some (0, 0)) V) ∧ ((x2 = 1) → P (some (0, 1)) V)))) ∧ ((x3 < 120) → ((i32 x2) ∧ ((i32 x1) ∧ ((0 ≤ x2 ∧ 0 < x1) ∧ ((i32 ((x2 % x1))) ∧ (((¬ (x2 % x1) = 0) → (((¬ x2 = 1) → P (some (0, 0)) V) ∧ ((x2 = 1) → P (some (0, 1)) V))) ∧ (((x2 % x1) = 0) → ((0 ≤ x2 ∧ 0 < x1) ∧ ((i32 (x3 + 1)) ∧ wpv K_X7_isPowerOfPrime d P 17 [none, some (0, x1), some (0, (x2 / x1)), some (0, (x3 + 1))] [] G R V)))))))))))) : wpv K_X7_isPowerOfPrime d P 17 [none, some (0, x1), some (0, x2), some (0, x3)] [] G R V := by
  refine wp_ld (i := (.iload_n 3)) (0, x3) rfl rfl (fun _ => rfl) rfl rfl (?_ : wpv K_X7_isPowerOfPrime d P 18 [none, some (0, x1), some (0, x2), some (0, x3)] [(0, x3)] G R V)
  refine wp_p (i := (.bipush 120)) rfl rfl (fun _ _ _ => rfl) (?_ : wpv K_X7_isPowerOfPrime d P 20 [none, some (0, x1), some (0, x2), some (0, x3)] [(0, 120), (0, x3)] G R V)
  obtain ⟨s1, w⟩ := w
  refine wp_icmp (c := .ge) 39 rfl rfl rfl s1 ⟨by omega, by omega⟩ (fun q => ?_) (fun q => ?_)
  · have q : ¬ x3 < 120 := q
    replace w := w.1 q
    show wpv K_X7_isPowerOfPrime d P 39 [none, some (0, x1), some (0, x2), some (0, x3)] [] G R V
    refine wp_ld (i := (.iload_n 2)) (0, x2) rfl rfl (fun _ => rfl) rfl rfl (?_ : wpv K_X7_isPowerOfPrime d P 40 [none, some (0, x1), some (0, x2), some (0, x3)] [(0, x2)] G R V)
    refine wp_p (i := (.iconst 1)) rfl rfl (fun _ _ _ => rfl) (?_ : wpv K_X7_isPowerOfPrime d P 41 [none, some (0, x1), some (0, x2), some (0, x3)] [(0, 1), (0, x2)] G R V)
    obtain ⟨s2, w⟩ := w
    refine wp_icmp (c := .ne) 48 rfl rfl rfl s2 ⟨by omega, by omega⟩ (fun q => ?_) (fun q => ?_)
    · have q : ¬ x2 = 1 := q
      replace w := w.1 q
      show wpv K_X7_isPowerOfPrime d P 48 [none, some (0, x1), some (0, x2), some (0, x3)] [] G R V
      refine wp_p (i := (.iconst 0)) rfl rfl (fun _ _ _ => rfl) (?_ : wpv K_X7_isPowerOfPrime d P 49 [none, some (0, x1), some (0, x2), some (0, x3)] [(0, 0)] G R V)
      exact wp_rB rfl rfl rfl (by omega) w
    · have q : x2 = 1 := Decidable.not_not.mp q
      replace w := w.2 q
      show wpv K_X7_isPowerOfPrime d P 44 [none, some (0, x1), some (0, x2), some (0, x3)] [] G R V
      refine wp_p (i := (.iconst 1)) rfl rfl (fun _ _ _ => rfl) (?_ : wpv K_X7_isPowerOfPrime d P 45 [none, some (0, x1), some (0, x2), some (0, x3)] [(0, 1)] G R V)
      refine wp_go 49 rfl rfl rfl (?_ : wpv K_X7_isPowerOfPrime d P 49 [none, some (0, x1), some (0, x2), some (0, x3)] [(0, 1)] G R V)
      exact wp_rB rfl rfl rfl (by omega) w
  · have q : x3 < 120 := Decidable.not_not.mp q
    replace w := w.2 q
    show wpv K_X7_isPowerOfPrime d P 23 [none, some (0, x1), some (0, x2), some (0, x3)] [] G R V
    refine wp_ld (i := (.iload_n 2)) (0, x2) rfl rfl (fun _ => rfl) rfl rfl (?_ : wpv K_X7_isPowerOfPrime d P 24 [none, some (0, x1), some (0, x2), some (0, x3)] [(0, x2)] G R V)
    refine wp_ld (i := (.iload_n 1)) (0, x1) rfl rfl (fun _ => rfl) rfl rfl (?_ : wpv K_X7_isPowerOfPrime d P 25 [none, some (0, x1), some (0, x2), some (0, x3)] [(0, x1), (0, x2)] G R V)
    obtain ⟨s3, w⟩ := w
    obtain ⟨s4, w⟩ := w
    obtain ⟨s5, w⟩ := w
    refine wp_xrem rfl rfl s5.1 s5.2 s3 s4 (?_ : wpv K_X7_isPowerOfPrime d P 26 [none, some (0, x1), some (0, x2), some (0, x3)] [(0, (x2 % x1))] G R V)
    obtain ⟨s6, w⟩ := w
    refine wp_if (c := .ne) 39 rfl rfl rfl s6 (fun q => ?_) (fun q => ?_)
    · have q : ¬ (x2 % x1) = 0 := q
      replace w := w.1 q
      show wpv K_X7_isPowerOfPrime d P 39 [none, some (0, x1), some (0, x2), some (0, x3)] [] G R V
      refine wp_ld (i := (.iload_n 2)) (0, x2) rfl rfl (fun _ => rfl) rfl rfl (?_ : wpv K_X7_isPowerOfPrime d P 40 [none, some (0, x1), some (0, x2), some (0, x3)] [(0, x2)] G R V)
      refine wp_p (i := (.iconst 1)) rfl rfl (fun _ _ _ => rfl) (?_ : wpv K_X7_isPowerOfPrime d P 41 [none, some (0, x1), some (0, x2), some (0, x3)] [(0, 1), (0, x2)] G R V)
      refine wp_icmp (c := .ne) 48 rfl rfl rfl s3 ⟨by omega, by omega⟩ (fun q => ?_) (fun q => ?_)
      · have q : ¬ x2 = 1 := q
        replace w := w.1 q
        show wpv K_X7_isPowerOfPrime d P 48 [none, some (0, x1), some (0, x2), some (0, x3)] [] G R V
        refine wp_p (i := (.iconst 0)) rfl rfl (fun _ _ _ => rfl) (?_ : wpv K_X7_isPowerOfPrime d P 49 [none, some (0, x1), some (0, x2), some (0, x3)] [(0, 0)] G R V)
        exact wp_rB rfl rfl rfl (by omega) w
      · have q : x2 = 1 := Decidable.not_not.mp q
        replace w := w.2 q
        show wpv K_X7_isPowerOfPrime d P 44 [none, some (0, x1), some (0, x2), some (0, x3)] [] G R V
        refine wp_p (i := (.iconst 1)) rfl rfl (fun _ _ _ => rfl) (?_ : wpv K_X7_isPowerOfPrime d P 45 [none, some (0, x1), some (0, x2), some (0, x3)] [(0, 1)] G R V)
        refine wp_go 49 rfl rfl rfl (?_ : wpv K_X7_isPowerOfPrime d P 49 [none, some (0, x1), some (0, x2), some (0, x3)] [(0, 1)] G R V)
        exact wp_rB rfl rfl rfl (by omega) w
    · have q : (x2 % x1) = 0 := Decidable.not_not.mp q
      replace w := w.2 q
      show wpv K_X7_isPowerOfPrime d P 29 [none, some (0, x1), some (0, x2), some (0, x3)] [] G R V
      refine wp_ld (i := (.iload_n 2)) (0, x2) rfl rfl (fun _ => rfl) rfl rfl (?_ : wpv K_X7_isPowerOfPrime d P 30 [none, some (0, x1), some (0, x2), some (0, x3)] [(0, x2)] G R V)
      refine wp_ld (i := (.iload_n 1)) (0, x1) rfl rfl (fun _ => rfl) rfl rfl (?_ : wpv K_X7_isPowerOfPrime d P 31 [none, some (0, x1), some (0, x2), some (0, x3)] [(0, x1), (0, x2)] G R V)
      obtain ⟨s7, w⟩ := w
      refine wp_xdiv rfl rfl s7.1 s7.2 s3 s4 (?_ : wpv K_X7_isPowerOfPrime d P 32 [none, some (0, x1), some (0, x2), some (0, x3)] [(0, (x2 / x1))] G R V)
      refine wp_sto (i := (.istore_n 2)) _ rfl rfl (fun _ => rfl) rfl rfl rfl ?_
      refine wp_wk (L' := [none, some (0, x1), some (0, (x2 / x1)), some (0, x3)]) (wk_n (wk_s (wk_s (wk_s wk_0)))) ?_
      show wpv K_X7_isPowerOfPrime d P 33 [none, some (0, x1), some (0, (x2 / x1)), some (0, x3)] [] G R V
      obtain ⟨s8, w⟩ := w
      refine wp_inc (x := 3) (k := 1) (a := x3) (c := (x3 + 1)) _ rfl rfl rfl rfl s8 (by omega) rfl ?_
      show wpv K_X7_isPowerOfPrime d P 36 [none, some (0, x1), some (0, (x2 / x1)), some (0, (x3 + 1))] [] G R V
      refine wp_go 17 rfl rfl rfl (?_ : wpv K_X7_isPowerOfPrime d P 17 [none, some (0, x1), some (0, (x2 / x1)), some (0, (x3 + 1))] [] G R V)
      exact wp_wk (wk_n (wk_s (wk_s (wk_s wk_0)))) w
theorem t_J6_bitCount_0f7a4_0 {d : Nat} {P : gP} {x0 : Int} {G : List gS} {R V : gV}  (w : ((i32 (x0 - (kand ((kusr x0 1)) 1431655765))) ∧ ((i32 ((kand ((x0 - (kand ((kusr x0 1)) 1431655765))) 858993459) + (kand ((kusr ((x0 - (kand ((kusr x0 1)) 1431655765))) 2)) 858993459))) ∧ ((i32 (((kand ((x0 - (kand ((kusr x0 1)) 1431655765))) 858993459) + (kand ((kusr ((x0 - (kand ((kusr x0 1)) 1431655765))) 2)) 858993459)) + (kusr (((kand ((x0 - (kand ((kusr x0 1)) 1431655765))) 858993459) + (kand ((kusr ((x0 - (kand ((kusr x0 1)) 1431655765))) 2)) 858993459))) 4))) ∧ ((i32 ((kand ((((kand ((x0 - (kand ((kusr x0 1)) 1431655765))) 858993459) + (kand ((kusr ((x0 - (kand ((kusr x0 1)) 1431655765))) 2)) 858993459)) + (kusr (((kand ((x0 - (kand ((kusr x0 1)) 1431655765))) 858993459) + (kand ((kusr ((x0 - (kand ((kusr x0 1)) 1431655765))) 2)) 858993459))) 4))) 252645135) + (kusr ((kand ((((kand ((x0 - (kand ((kusr x0 1)) 1431655765))) 858993459) + (kand ((kusr ((x0 - (kand ((kusr x0 1)) 1431655765))) 2)) 858993459)) + (kusr (((kand ((x0 - (kand ((kusr x0 1)) 1431655765))) 858993459) + (kand ((kusr ((x0 - (kand ((kusr x0 1)) 1431655765))) 2)) 858993459))) 4))) 252645135)) 8))) ∧ ((i32 (((kand ((((kand ((x0 - (kand ((kusr x0 1)) 1431655765))) 858993459) + (kand ((kusr ((x0 - (kand ((kusr x0 1)) 1431655765))) 2)) 858993459)) + (kusr (((kand ((x0 - (kand ((kusr x0 1)) 1431655765))) 858993459) + (kand ((kusr ((x0 - (kand ((kusr x0 1)) 1431655765))) 2)) 858993459))) 4))) 252645135) + (kusr ((kand ((((kand ((x0 - (kand ((kusr x0 1)) 1431655765))) 858993459) + (kand ((kusr ((x0 - (kand ((kusr x0 1)) 1431655765))) 2)) 858993459)) + (kusr (((kand ((x0 - (kand ((kusr x0 1)) 1431655765))) 858993459) + (kand ((kusr ((x0 - (kand ((kusr x0 1)) 1431655765))) 2)) 858993459))) 4))) 252645135)) 8)) + (kusr (((kand ((((kand ((x0 - (kand ((kusr x0 1)) 1431655765))) 858993459) + (kand ((kusr ((x0 - (kand ((kusr x0 1)) 1431655765))) 2)) 858993459)) + (kusr (((kand ((x0 - (kand ((kusr x0 1)) 1431655765))) 858993459) + (kand ((kusr ((x0 - (kand ((kusr x0 1)) 1431655765))) 2)) 858993459))) 4))) 252645135) + (kusr ((kand ((((kand ((x0 - (kand ((kusr x0 1)) 1431655765))) 858993459) + (kand ((kusr ((x0 - (kand ((kusr x0 1)) 1431655765))) 2)) 858993459)) + (kusr (((kand ((x0 - (kand ((kusr x0 1)) 1431655765))) 858993459) + (kand ((kusr ((x0 - (kand ((kusr x0 1)) 1431655765))) 2)) 858993459))) 4))) 252645135)) 8))) 16))) ∧ P (some (0, (kand ((((kand ((((kand ((x0 - (kand ((kusr x0 1)) 1431655765))) 858993459) + (kand ((kusr ((x0 - (kand ((kusr x0 1)) 1431655765))) 2)) 858993459)) + (kusr (((kand ((x0 - (kand ((kusr x0 1)) 1431655765))) 858993459) + (kand ((kusr ((x0 - (kand ((kusr x0 1)) 1431655765))) 2)) 858993459))) 4))) 252645135) + (kusr ((kand ((((kand ((x0 - (kand ((kusr x0 1)) 1431655765))) 858993459) + (kand ((kusr ((x0 - (kand ((kusr x0 1)) 1431655765))) 2)) 858993459)) + (kusr (((kand ((x0 - (kand ((kusr x0 1)) 1431655765))) 858993459) + (kand ((kusr ((x0 - (kand ((kusr x0 1)) 1431655765))) 2)) 858993459))) 4))) 252645135)) 8)) + (kusr (((kand ((((kand ((x0 - (kand ((kusr x0 1)) 1431655765))) 858993459) + (kand ((kusr ((x0 - (kand ((kusr x0 1)) 1431655765))) 2)) 858993459)) + (kusr (((kand ((x0 - (kand ((kusr x0 1)) 1431655765))) 858993459) + (kand ((kusr ((x0 - (kand ((kusr x0 1)) 1431655765))) 2)) 858993459))) 4))) 252645135) + (kusr ((kand ((((kand ((x0 - (kand ((kusr x0 1)) 1431655765))) 858993459) + (kand ((kusr ((x0 - (kand ((kusr x0 1)) 1431655765))) 2)) 858993459)) + (kusr (((kand ((x0 - (kand ((kusr x0 1)) 1431655765))) 858993459) + (kand ((kusr ((x0 - (kand ((kusr x0 1)) 1431655765))) 2)) 858993459))) 4))) 252645135)) 8))) 16))) 63))) V)))))) : wpv K_J6_bitCount_0f7a4 d P 0 [some (0, x0)] [] G R V := by
  refine wp_ld (i := (.iload_n 0)) (0, x0) rfl rfl (fun _ => rfl) rfl rfl (?_ : wpv K_J6_bitCount_0f7a4 d P 1 [some (0, x0)] [(0, x0)] G R V)
  refine wp_ld (i := (.iload_n 0)) (0, x0) rfl rfl (fun _ => rfl) rfl rfl (?_ : wpv K_J6_bitCount_0f7a4 d P 2 [some (0, x0)] [(0, x0), (0, x0)] G R V)
  refine wp_p (i := (.iconst 1)) rfl rfl (fun _ _ _ => rfl) (?_ : wpv K_J6_bitCount_0f7a4 d P 3 [some (0, x0)] [(0, 1), (0, x0), (0, x0)] G R V)
  refine wp_kusr rfl rfl (?_ : wpv K_J6_bitCount_0f7a4 d P 4 [some (0, x0)] [(0, (kusr x0 1)), (0, x0)] G R V)
  refine wp_p (i := (.ldc_w 265)) rfl rfl (fun _ _ _ => rfl) (?_ : wpv K_J6_bitCount_0f7a4 d P 7 [some (0, x0)] [(0, 1431655765), (0, (kusr x0 1)), (0, x0)] G R V)
  refine wp_kand rfl rfl (?_ : wpv K_J6_bitCount_0f7a4 d P 8 [some (0, x0)] [(0, (kand ((kusr x0 1)) 1431655765)), (0, x0)] G R V)
  obtain ⟨s1, w⟩ := w
  refine wp_xsub rfl rfl s1 (?_ : wpv K_J6_bitCount_0f7a4 d P 9 [some (0, x0)] [(0, (x0 - (kand ((kusr x0 1)) 1431655765)))] G R V)
  refine wp_sto (i := (.istore_n 0)) _ rfl rfl (fun _ => rfl) rfl rfl rfl ?_
  refine wp_wk (L' := [some (0, (x0 - (kand ((kusr x0 1)) 1431655765)))]) (wk_s wk_0) ?_
  show wpv K_J6_bitCount_0f7a4 d P 10 [some (0, (x0 - (kand ((kusr x0 1)) 1431655765)))] [] G R V
  refine wp_ld (i := (.iload_n 0)) (0, (x0 - (kand ((kusr x0 1)) 1431655765))) rfl rfl (fun _ => rfl) rfl rfl (?_ : wpv K_J6_bitCount_0f7a4 d P 11 [some (0, (x0 - (kand ((kusr x0 1)) 1431655765)))] [(0, (x0 - (kand ((kusr x0 1)) 1431655765)))] G R V)
  refine wp_p (i := (.ldc_w 266)) rfl rfl (fun _ _ _ => rfl) (?_ : wpv K_J6_bitCount_0f7a4 d P 14 [some (0, (x0 - (kand ((kusr x0 1)) 1431655765)))] [(0, 858993459), (0, (x0 - (kand ((kusr x0 1)) 1431655765)))] G R V)
  refine wp_kand rfl rfl (?_ : wpv K_J6_bitCount_0f7a4 d P 15 [some (0, (x0 - (kand ((kusr x0 1)) 1431655765)))] [(0, (kand ((x0 - (kand ((kusr x0 1)) 1431655765))) 858993459))] G R V)
  refine wp_ld (i := (.iload_n 0)) (0, (x0 - (kand ((kusr x0 1)) 1431655765))) rfl rfl (fun _ => rfl) rfl rfl (?_ : wpv K_J6_bitCount_0f7a4 d P 16 [some (0, (x0 - (kand ((kusr x0 1)) 1431655765)))] [(0, (x0 - (kand ((kusr x0 1)) 1431655765))), (0, (kand ((x0 - (kand ((kusr x0 1)) 1431655765))) 858993459))] G R V)
  refine wp_p (i := (.iconst 2)) rfl rfl (fun _ _ _ => rfl) (?_ : wpv K_J6_bitCount_0f7a4 d P 17 [some (0, (x0 - (kand ((kusr x0 1)) 1431655765)))] [(0, 2), (0, (x0 - (kand ((kusr x0 1)) 1431655765))), (0, (kand ((x0 - (kand ((kusr x0 1)) 1431655765))) 858993459))] G R V)
  refine wp_kusr rfl rfl (?_ : wpv K_J6_bitCount_0f7a4 d P 18 [some (0, (x0 - (kand ((kusr x0 1)) 1431655765)))] [(0, (kusr ((x0 - (kand ((kusr x0 1)) 1431655765))) 2)), (0, (kand ((x0 - (kand ((kusr x0 1)) 1431655765))) 858993459))] G R V)
  refine wp_p (i := (.ldc_w 266)) rfl rfl (fun _ _ _ => rfl) (?_ : wpv K_J6_bitCount_0f7a4 d P 21 [some (0, (x0 - (kand ((kusr x0 1)) 1431655765)))] [(0, 858993459), (0, (kusr ((x0 - (kand ((kusr x0 1)) 1431655765))) 2)), (0, (kand ((x0 - (kand ((kusr x0 1)) 1431655765))) 858993459))] G R V)
  refine wp_kand rfl rfl (?_ : wpv K_J6_bitCount_0f7a4 d P 22 [some (0, (x0 - (kand ((kusr x0 1)) 1431655765)))] [(0, (kand ((kusr ((x0 - (kand ((kusr x0 1)) 1431655765))) 2)) 858993459)), (0, (kand ((x0 - (kand ((kusr x0 1)) 1431655765))) 858993459))] G R V)
  obtain ⟨s2, w⟩ := w
  refine wp_xadd rfl rfl s2 (?_ : wpv K_J6_bitCount_0f7a4 d P 23 [some (0, (x0 - (kand ((kusr x0 1)) 1431655765)))] [(0, ((kand ((x0 - (kand ((kusr x0 1)) 1431655765))) 858993459) + (kand ((kusr ((x0 - (kand ((kusr x0 1)) 1431655765))) 2)) 858993459)))] G R V)
  refine wp_sto (i := (.istore_n 0)) _ rfl rfl (fun _ => rfl) rfl rfl rfl ?_
  refine wp_wk (L' := [some (0, ((kand ((x0 - (kand ((kusr x0 1)) 1431655765))) 858993459) + (kand ((kusr ((x0 - (kand ((kusr x0 1)) 1431655765))) 2)) 858993459)))]) (wk_s wk_0) ?_
  show wpv K_J6_bitCount_0f7a4 d P 24 [some (0, ((kand ((x0 - (kand ((kusr x0 1)) 1431655765))) 858993459) + (kand ((kusr ((x0 - (kand ((kusr x0 1)) 1431655765))) 2)) 858993459)))] [] G R V
  refine wp_ld (i := (.iload_n 0)) (0, ((kand ((x0 - (kand ((kusr x0 1)) 1431655765))) 858993459) + (kand ((kusr ((x0 - (kand ((kusr x0 1)) 1431655765))) 2)) 858993459))) rfl rfl (fun _ => rfl) rfl rfl (?_ : wpv K_J6_bitCount_0f7a4 d P 25 [some (0, ((kand ((x0 - (kand ((kusr x0 1)) 1431655765))) 858993459) + (kand ((kusr ((x0 - (kand ((kusr x0 1)) 1431655765))) 2)) 858993459)))] [(0, ((kand ((x0 - (kand ((kusr x0 1)) 1431655765))) 858993459) + (kand ((kusr ((x0 - (kand ((kusr x0 1)) 1431655765))) 2)) 858993459)))] G R V)
  refine wp_ld (i := (.iload_n 0)) (0, ((kand ((x0 - (kand ((kusr x0 1)) 1431655765))) 858993459) + (kand ((kusr ((x0 - (kand ((kusr x0 1)) 1431655765))) 2)) 858993459))) rfl rfl (fun _ => rfl) rfl rfl (?_ : wpv K_J6_bitCount_0f7a4 d P 26 [some (0, ((kand ((x0 - (kand ((kusr x0 1)) 1431655765))) 858993459) + (kand ((kusr ((x0 - (kand ((kusr x0 1)) 1431655765))) 2)) 858993459)))] [(0, ((kand ((x0 - (kand ((kusr x0 1)) 1431655765))) 858993459) + (kand ((kusr ((x0 - (kand ((kusr x0 1)) 1431655765))) 2)) 858993459))), (0, ((kand ((x0 - (kand ((kusr x0 1)) 1431655765))) 858993459) + (kand ((kusr ((x0 - (kand ((kusr x0 1)) 1431655765))) 2)) 858993459)))] G R V)
  refine wp_p (i := (.iconst 4)) rfl rfl (fun _ _ _ => rfl) (?_ : wpv K_J6_bitCount_0f7a4 d P 27 [some (0, ((kand ((x0 - (kand ((kusr x0 1)) 1431655765))) 858993459) + (kand ((kusr ((x0 - (kand ((kusr x0 1)) 1431655765))) 2)) 858993459)))] [(0, 4), (0, ((kand ((x0 - (kand ((kusr x0 1)) 1431655765))) 858993459) + (kand ((kusr ((x0 - (kand ((kusr x0 1)) 1431655765))) 2)) 858993459))), (0, ((kand ((x0 - (kand ((kusr x0 1)) 1431655765))) 858993459) + (kand ((kusr ((x0 - (kand ((kusr x0 1)) 1431655765))) 2)) 858993459)))] G R V)
  refine wp_kusr rfl rfl (?_ : wpv K_J6_bitCount_0f7a4 d P 28 [some (0, ((kand ((x0 - (kand ((kusr x0 1)) 1431655765))) 858993459) + (kand ((kusr ((x0 - (kand ((kusr x0 1)) 1431655765))) 2)) 858993459)))] [(0, (kusr (((kand ((x0 - (kand ((kusr x0 1)) 1431655765))) 858993459) + (kand ((kusr ((x0 - (kand ((kusr x0 1)) 1431655765))) 2)) 858993459))) 4)), (0, ((kand ((x0 - (kand ((kusr x0 1)) 1431655765))) 858993459) + (kand ((kusr ((x0 - (kand ((kusr x0 1)) 1431655765))) 2)) 858993459)))] G R V)
  obtain ⟨s3, w⟩ := w
  refine wp_xadd rfl rfl s3 (?_ : wpv K_J6_bitCount_0f7a4 d P 29 [some (0, ((kand ((x0 - (kand ((kusr x0 1)) 1431655765))) 858993459) + (kand ((kusr ((x0 - (kand ((kusr x0 1)) 1431655765))) 2)) 858993459)))] [(0, (((kand ((x0 - (kand ((kusr x0 1)) 1431655765))) 858993459) + (kand ((kusr ((x0 - (kand ((kusr x0 1)) 1431655765))) 2)) 858993459)) + (kusr (((kand ((x0 - (kand ((kusr x0 1)) 1431655765))) 858993459) + (kand ((kusr ((x0 - (kand ((kusr x0 1)) 1431655765))) 2)) 858993459))) 4)))] G R V)
  refine wp_p (i := (.ldc_w 267)) rfl rfl (fun _ _ _ => rfl) (?_ : wpv K_J6_bitCount_0f7a4 d P 32 [some (0, ((kand ((x0 - (kand ((kusr x0 1)) 1431655765))) 858993459) + (kand ((kusr ((x0 - (kand ((kusr x0 1)) 1431655765))) 2)) 858993459)))] [(0, 252645135), (0, (((kand ((x0 - (kand ((kusr x0 1)) 1431655765))) 858993459) + (kand ((kusr ((x0 - (kand ((kusr x0 1)) 1431655765))) 2)) 858993459)) + (kusr (((kand ((x0 - (kand ((kusr x0 1)) 1431655765))) 858993459) + (kand ((kusr ((x0 - (kand ((kusr x0 1)) 1431655765))) 2)) 858993459))) 4)))] G R V)
  refine wp_kand rfl rfl (?_ : wpv K_J6_bitCount_0f7a4 d P 33 [some (0, ((kand ((x0 - (kand ((kusr x0 1)) 1431655765))) 858993459) + (kand ((kusr ((x0 - (kand ((kusr x0 1)) 1431655765))) 2)) 858993459)))] [(0, (kand ((((kand ((x0 - (kand ((kusr x0 1)) 1431655765))) 858993459) + (kand ((kusr ((x0 - (kand ((kusr x0 1)) 1431655765))) 2)) 858993459)) + (kusr (((kand ((x0 - (kand ((kusr x0 1)) 1431655765))) 858993459) + (kand ((kusr ((x0 - (kand ((kusr x0 1)) 1431655765))) 2)) 858993459))) 4))) 252645135))] G R V)
  refine wp_sto (i := (.istore_n 0)) _ rfl rfl (fun _ => rfl) rfl rfl rfl ?_
  refine wp_wk (L' := [some (0, (kand ((((kand ((x0 - (kand ((kusr x0 1)) 1431655765))) 858993459) + (kand ((kusr ((x0 - (kand ((kusr x0 1)) 1431655765))) 2)) 858993459)) + (kusr (((kand ((x0 - (kand ((kusr x0 1)) 1431655765))) 858993459) + (kand ((kusr ((x0 - (kand ((kusr x0 1)) 1431655765))) 2)) 858993459))) 4))) 252645135))]) (wk_s wk_0) ?_
  show wpv K_J6_bitCount_0f7a4 d P 34 [some (0, (kand ((((kand ((x0 - (kand ((kusr x0 1)) 1431655765))) 858993459) + (kand ((kusr ((x0 - (kand ((kusr x0 1)) 1431655765))) 2)) 858993459)) + (kusr (((kand ((x0 - (kand ((kusr x0 1)) 1431655765))) 858993459) + (kand ((kusr ((x0 - (kand ((kusr x0 1)) 1431655765))) 2)) 858993459))) 4))) 252645135))] [] G R V
  refine wp_ld (i := (.iload_n 0)) (0, (kand ((((kand ((x0 - (kand ((kusr x0 1)) 1431655765))) 858993459) + (kand ((kusr ((x0 - (kand ((kusr x0 1)) 1431655765))) 2)) 858993459)) + (kusr (((kand ((x0 - (kand ((kusr x0 1)) 1431655765))) 858993459) + (kand ((kusr ((x0 - (kand ((kusr x0 1)) 1431655765))) 2)) 858993459))) 4))) 252645135)) rfl rfl (fun _ => rfl) rfl rfl (?_ : wpv K_J6_bitCount_0f7a4 d P 35 [some (0, (kand ((((kand ((x0 - (kand ((kusr x0 1)) 1431655765))) 858993459) + (kand ((kusr ((x0 - (kand ((kusr x0 1)) 1431655765))) 2)) 858993459)) + (kusr (((kand ((x0 - (kand ((kusr x0 1)) 1431655765))) 858993459) + (kand ((kusr ((x0 - (kand ((kusr x0 1)) 1431655765))) 2)) 858993459))) 4))) 252645135))] [(0, (kand ((((kand ((x0 - (kand ((kusr x0 1)) 1431655765))) 858993459) + (kand ((kusr ((x0 - (kand ((kusr x0 1)) 1431655765))) 2)) 858993459)) + (kusr (((kand ((x0 - (kand ((kusr x0 1)) 1431655765))) 858993459) + (kand ((kusr ((x0 - (kand ((kusr x0 1)) 1431655765))) 2)) 858993459))) 4))) 252645135))] G R V)
  refine wp_ld (i := (.iload_n 0)) (0, (kand ((((kand ((x0 - (kand ((kusr x0 1)) 1431655765))) 858993459) + (kand ((kusr ((x0 - (kand ((kusr x0 1)) 1431655765))) 2)) 858993459)) + (kusr (((kand ((x0 - (kand ((kusr x0 1)) 1431655765))) 858993459) + (kand ((kusr ((x0 - (kand ((kusr x0 1)) 1431655765))) 2)) 858993459))) 4))) 252645135)) rfl rfl (fun _ => rfl) rfl rfl (?_ : wpv K_J6_bitCount_0f7a4 d P 36 [some (0, (kand ((((kand ((x0 - (kand ((kusr x0 1)) 1431655765))) 858993459) + (kand ((kusr ((x0 - (kand ((kusr x0 1)) 1431655765))) 2)) 858993459)) + (kusr (((kand ((x0 - (kand ((kusr x0 1)) 1431655765))) 858993459) + (kand ((kusr ((x0 - (kand ((kusr x0 1)) 1431655765))) 2)) 858993459))) 4))) 252645135))] [(0, (kand ((((kand ((x0 - (kand ((kusr x0 1)) 1431655765))) 858993459) + (kand ((kusr ((x0 - (kand ((kusr x0 1)) 1431655765))) 2)) 858993459)) + (kusr (((kand ((x0 - (kand ((kusr x0 1)) 1431655765))) 858993459) + (kand ((kusr ((x0 - (kand ((kusr x0 1)) 1431655765))) 2)) 858993459))) 4))) 252645135)), (0, (kand ((((kand ((x0 - (kand ((kusr x0 1)) 1431655765))) 858993459) + (kand ((kusr ((x0 - (kand ((kusr x0 1)) 1431655765))) 2)) 858993459)) + (kusr (((kand ((x0 - (kand ((kusr x0 1)) 1431655765))) 858993459) + (kand ((kusr ((x0 - (kand ((kusr x0 1)) 1431655765))) 2)) 858993459))) 4))) 252645135))] G R V)
  refine wp_p (i := (.bipush 8)) rfl rfl (fun _ _ _ => rfl) (?_ : wpv K_J6_bitCount_0f7a4 d P 38 [some (0, (kand ((((kand ((x0 - (kand ((kusr x0 1)) 1431655765))) 858993459) + (kand ((kusr ((x0 - (kand ((kusr x0 1)) 1431655765))) 2)) 858993459)) + (kusr (((kand ((x0 - (kand ((kusr x0 1)) 1431655765))) 858993459) + (kand ((kusr ((x0 - (kand ((kusr x0 1)) 1431655765))) 2)) 858993459))) 4))) 252645135))] [(0, 8), (0, (kand ((((kand ((x0 - (kand ((kusr x0 1)) 1431655765))) 858993459) + (kand ((kusr ((x0 - (kand ((kusr x0 1)) 1431655765))) 2)) 858993459)) + (kusr (((kand ((x0 - (kand ((kusr x0 1)) 1431655765))) 858993459) + (kand ((kusr ((x0 - (kand ((kusr x0 1)) 1431655765))) 2)) 858993459))) 4))) 252645135)), (0, (kand ((((kand ((x0 - (kand ((kusr x0 1)) 1431655765))) 858993459) + (kand ((kusr ((x0 - (kand ((kusr x0 1)) 1431655765))) 2)) 858993459)) + (kusr (((kand ((x0 - (kand ((kusr x0 1)) 1431655765))) 858993459) + (kand ((kusr ((x0 - (kand ((kusr x0 1)) 1431655765))) 2)) 858993459))) 4))) 252645135))] G R V)
  refine wp_kusr rfl rfl (?_ : wpv K_J6_bitCount_0f7a4 d P 39 [some (0, (kand ((((kand ((x0 - (kand ((kusr x0 1)) 1431655765))) 858993459) + (kand ((kusr ((x0 - (kand ((kusr x0 1)) 1431655765))) 2)) 858993459)) + (kusr (((kand ((x0 - (kand ((kusr x0 1)) 1431655765))) 858993459) + (kand ((kusr ((x0 - (kand ((kusr x0 1)) 1431655765))) 2)) 858993459))) 4))) 252645135))] [(0, (kusr ((kand ((((kand ((x0 - (kand ((kusr x0 1)) 1431655765))) 858993459) + (kand ((kusr ((x0 - (kand ((kusr x0 1)) 1431655765))) 2)) 858993459)) + (kusr (((kand ((x0 - (kand ((kusr x0 1)) 1431655765))) 858993459) + (kand ((kusr ((x0 - (kand ((kusr x0 1)) 1431655765))) 2)) 858993459))) 4))) 252645135)) 8)), (0, (kand ((((kand ((x0 - (kand ((kusr x0 1)) 1431655765))) 858993459) + (kand ((kusr ((x0 - (kand ((kusr x0 1)) 1431655765))) 2)) 858993459)) + (kusr (((kand ((x0 - (kand ((kusr x0 1)) 1431655765))) 858993459) + (kand ((kusr ((x0 - (kand ((kusr x0 1)) 1431655765))) 2)) 858993459))) 4))) 252645135))] G R V)
  obtain ⟨s4, w⟩ := w
  refine wp_xadd rfl rfl s4 (?_ : wpv K_J6_bitCount_0f7a4 d P 40 [some (0, (kand ((((kand ((x0 - (kand ((kusr x0 1)) 1431655765))) 858993459) + (kand ((kusr ((x0 - (kand ((kusr x0 1)) 1431655765))) 2)) 858993459)) + (kusr (((kand ((x0 - (kand ((kusr x0 1)) 1431655765))) 858993459) + (kand ((kusr ((x0 - (kand ((kusr x0 1)) 1431655765))) 2)) 858993459))) 4))) 252645135))] [(0, ((kand ((((kand ((x0 - (kand ((kusr x0 1)) 1431655765))) 858993459) + (kand ((kusr ((x0 - (kand ((kusr x0 1)) 1431655765))) 2)) 858993459)) + (kusr (((kand ((x0 - (kand ((kusr x0 1)) 1431655765))) 858993459) + (kand ((kusr ((x0 - (kand ((kusr x0 1)) 1431655765))) 2)) 858993459))) 4))) 252645135) + (kusr ((kand ((((kand ((x0 - (kand ((kusr x0 1)) 1431655765))) 858993459) + (kand ((kusr ((x0 - (kand ((kusr x0 1)) 1431655765))) 2)) 858993459)) + (kusr (((kand ((x0 - (kand ((kusr x0 1)) 1431655765))) 858993459) + (kand ((kusr ((x0 - (kand ((kusr x0 1)) 1431655765))) 2)) 858993459))) 4))) 252645135)) 8)))] G R V)
  refine wp_sto (i := (.istore_n 0)) _ rfl rfl (fun _ => rfl) rfl rfl rfl ?_
  refine wp_wk (L' := [some (0, ((kand ((((kand ((x0 - (kand ((kusr x0 1)) 1431655765))) 858993459) + (kand ((kusr ((x0 - (kand ((kusr x0 1)) 1431655765))) 2)) 858993459)) + (kusr (((kand ((x0 - (kand ((kusr x0 1)) 1431655765))) 858993459) + (kand ((kusr ((x0 - (kand ((kusr x0 1)) 1431655765))) 2)) 858993459))) 4))) 252645135) + (kusr ((kand ((((kand ((x0 - (kand ((kusr x0 1)) 1431655765))) 858993459) + (kand ((kusr ((x0 - (kand ((kusr x0 1)) 1431655765))) 2)) 858993459)) + (kusr (((kand ((x0 - (kand ((kusr x0 1)) 1431655765))) 858993459) + (kand ((kusr ((x0 - (kand ((kusr x0 1)) 1431655765))) 2)) 858993459))) 4))) 252645135)) 8)))]) (wk_s wk_0) ?_
  show wpv K_J6_bitCount_0f7a4 d P 41 [some (0, ((kand ((((kand ((x0 - (kand ((kusr x0 1)) 1431655765))) 858993459) + (kand ((kusr ((x0 - (kand ((kusr x0 1)) 1431655765))) 2)) 858993459)) + (kusr (((kand ((x0 - (kand ((kusr x0 1)) 1431655765))) 858993459) + (kand ((kusr ((x0 - (kand ((kusr x0 1)) 1431655765))) 2)) 858993459))) 4))) 252645135) + (kusr ((kand ((((kand ((x0 - (kand ((kusr x0 1)) 1431655765))) 858993459) + (kand ((kusr ((x0 - (kand ((kusr x0 1)) 1431655765))) 2)) 858993459)) + (kusr (((kand ((x0 - (kand ((kusr x0 1)) 1431655765))) 858993459) + (kand ((kusr ((x0 - (kand ((kusr x0 1)) 1431655765))) 2)) 858993459))) 4))) 252645135)) 8)))] [] G R V
  refine wp_ld (i := (.iload_n 0)) (0, ((kand ((((kand ((x0 - (kand ((kusr x0 1)) 1431655765))) 858993459) + (kand ((kusr ((x0 - (kand ((kusr x0 1)) 1431655765))) 2)) 858993459)) + (kusr (((kand ((x0 - (kand ((kusr x0 1)) 1431655765))) 858993459) + (kand ((kusr ((x0 - (kand ((kusr x0 1)) 1431655765))) 2)) 858993459))) 4))) 252645135) + (kusr ((kand ((((kand ((x0 - (kand ((kusr x0 1)) 1431655765))) 858993459) + (kand ((kusr ((x0 - (kand ((kusr x0 1)) 1431655765))) 2)) 858993459)) + (kusr (((kand ((x0 - (kand ((kusr x0 1)) 1431655765))) 858993459) + (kand ((kusr ((x0 - (kand ((kusr x0 1)) 1431655765))) 2)) 858993459))) 4))) 252645135)) 8))) rfl rfl (fun _ => rfl) rfl rfl (?_ : wpv K_J6_bitCount_0f7a4 d P 42 [some (0, ((kand ((((kand ((x0 - (kand ((kusr x0 1)) 1431655765))) 858993459) + (kand ((kusr ((x0 - (kand ((kusr x0 1)) 1431655765))) 2)) 858993459)) + (kusr (((kand ((x0 - (kand ((kusr x0 1)) 1431655765))) 858993459) + (kand ((kusr ((x0 - (kand ((kusr x0 1)) 1431655765))) 2)) 858993459))) 4))) 252645135) + (kusr ((kand ((((kand ((x0 - (kand ((kusr x0 1)) 1431655765))) 858993459) + (kand ((kusr ((x0 - (kand ((kusr x0 1)) 1431655765))) 2)) 858993459)) + (kusr (((kand ((x0 - (kand ((kusr x0 1)) 1431655765))) 858993459) + (kand ((kusr ((x0 - (kand ((kusr x0 1)) 1431655765))) 2)) 858993459))) 4))) 252645135)) 8)))] [(0, ((kand ((((kand ((x0 - (kand ((kusr x0 1)) 1431655765))) 858993459) + (kand ((kusr ((x0 - (kand ((kusr x0 1)) 1431655765))) 2)) 858993459)) + (kusr (((kand ((x0 - (kand ((kusr x0 1)) 1431655765))) 858993459) + (kand ((kusr ((x0 - (kand ((kusr x0 1)) 1431655765))) 2)) 858993459))) 4))) 252645135) + (kusr ((kand ((((kand ((x0 - (kand ((kusr x0 1)) 1431655765))) 858993459) + (kand ((kusr ((x0 - (kand ((kusr x0 1)) 1431655765))) 2)) 858993459)) + (kusr (((kand ((x0 - (kand ((kusr x0 1)) 1431655765))) 858993459) + (kand ((kusr ((x0 - (kand ((kusr x0 1)) 1431655765))) 2)) 858993459))) 4))) 252645135)) 8)))] G R V)
  refine wp_ld (i := (.iload_n 0)) (0, ((kand ((((kand ((x0 - (kand ((kusr x0 1)) 1431655765))) 858993459) + (kand ((kusr ((x0 - (kand ((kusr x0 1)) 1431655765))) 2)) 858993459)) + (kusr (((kand ((x0 - (kand ((kusr x0 1)) 1431655765))) 858993459) + (kand ((kusr ((x0 - (kand ((kusr x0 1)) 1431655765))) 2)) 858993459))) 4))) 252645135) + (kusr ((kand ((((kand ((x0 - (kand ((kusr x0 1)) 1431655765))) 858993459) + (kand ((kusr ((x0 - (kand ((kusr x0 1)) 1431655765))) 2)) 858993459)) + (kusr (((kand ((x0 - (kand ((kusr x0 1)) 1431655765))) 858993459) + (kand ((kusr ((x0 - (kand ((kusr x0 1)) 1431655765))) 2)) 858993459))) 4))) 252645135)) 8))) rfl rfl (fun _ => rfl) rfl rfl (?_ : wpv K_J6_bitCount_0f7a4 d P 43 [some (0, ((kand ((((kand ((x0 - (kand ((kusr x0 1)) 1431655765))) 858993459) + (kand ((kusr ((x0 - (kand ((kusr x0 1)) 1431655765))) 2)) 858993459)) + (kusr (((kand ((x0 - (kand ((kusr x0 1)) 1431655765))) 858993459) + (kand ((kusr ((x0 - (kand ((kusr x0 1)) 1431655765))) 2)) 858993459))) 4))) 252645135) + (kusr ((kand ((((kand ((x0 - (kand ((kusr x0 1)) 1431655765))) 858993459) + (kand ((kusr ((x0 - (kand ((kusr x0 1)) 1431655765))) 2)) 858993459)) + (kusr (((kand ((x0 - (kand ((kusr x0 1)) 1431655765))) 858993459) + (kand ((kusr ((x0 - (kand ((kusr x0 1)) 1431655765))) 2)) 858993459))) 4))) 252645135)) 8)))] [(0, ((kand ((((kand ((x0 - (kand ((kusr x0 1)) 1431655765))) 858993459) + (kand ((kusr ((x0 - (kand ((kusr x0 1)) 1431655765))) 2)) 858993459)) + (kusr (((kand ((x0 - (kand ((kusr x0 1)) 1431655765))) 858993459) + (kand ((kusr ((x0 - (kand ((kusr x0 1)) 1431655765))) 2)) 858993459))) 4))) 252645135) + (kusr ((kand ((((kand ((x0 - (kand ((kusr x0 1)) 1431655765))) 858993459) + (kand ((kusr ((x0 - (kand ((kusr x0 1)) 1431655765))) 2)) 858993459)) + (kusr (((kand ((x0 - (kand ((kusr x0 1)) 1431655765))) 858993459) + (kand ((kusr ((x0 - (kand ((kusr x0 1)) 1431655765))) 2)) 858993459))) 4))) 252645135)) 8))), (0, ((kand ((((kand ((x0 - (kand ((kusr x0 1)) 1431655765))) 858993459) + (kand ((kusr ((x0 - (kand ((kusr x0 1)) 1431655765))) 2)) 858993459)) + (kusr (((kand ((x0 - (kand ((kusr x0 1)) 1431655765))) 858993459) + (kand ((kusr ((x0 - (kand ((kusr x0 1)) 1431655765))) 2)) 858993459))) 4))) 252645135) + (kusr ((kand ((((kand ((x0 - (kand ((kusr x0 1)) 1431655765))) 858993459) + (kand ((kusr ((x0 - (kand ((kusr x0 1)) 1431655765))) 2)) 858993459)) + (kusr (((kand ((x0 - (kand ((kusr x0 1)) 1431655765))) 858993459) + (kand ((kusr ((x0 - (kand ((kusr x0 1)) 1431655765))) 2)) 858993459))) 4))) 252645135)) 8)))] G R V)
  refine wp_p (i := (.bipush 16)) rfl rfl (fun _ _ _ => rfl) (?_ : wpv K_J6_bitCount_0f7a4 d P 45 [some (0, ((kand ((((kand ((x0 - (kand ((kusr x0 1)) 1431655765))) 858993459) + (kand ((kusr ((x0 - (kand ((kusr x0 1)) 1431655765))) 2)) 858993459)) + (kusr (((kand ((x0 - (kand ((kusr x0 1)) 1431655765))) 858993459) + (kand ((kusr ((x0 - (kand ((kusr x0 1)) 1431655765))) 2)) 858993459))) 4))) 252645135) + (kusr ((kand ((((kand ((x0 - (kand ((kusr x0 1)) 1431655765))) 858993459) + (kand ((kusr ((x0 - (kand ((kusr x0 1)) 1431655765))) 2)) 858993459)) + (kusr (((kand ((x0 - (kand ((kusr x0 1)) 1431655765))) 858993459) + (kand ((kusr ((x0 - (kand ((kusr x0 1)) 1431655765))) 2)) 858993459))) 4))) 252645135)) 8)))] [(0, 16), (0, ((kand ((((kand ((x0 - (kand ((kusr x0 1)) 1431655765))) 858993459) + (kand ((kusr ((x0 - (kand ((kusr x0 1)) 1431655765))) 2)) 858993459)) + (kusr (((kand ((x0 - (kand ((kusr x0 1)) 1431655765))) 858993459) + (kand ((kusr ((x0 - (kand ((kusr x0 1)) 1431655765))) 2)) 858993459))) 4))) 252645135) + (kusr ((kand ((((kand ((x0 - (kand ((kusr x0 1)) 1431655765))) 858993459) + (kand ((kusr ((x0 - (kand ((kusr x0 1)) 1431655765))) 2)) 858993459)) + (kusr (((kand ((x0 - (kand ((kusr x0 1)) 1431655765))) 858993459) + (kand ((kusr ((x0 - (kand ((kusr x0 1)) 1431655765))) 2)) 858993459))) 4))) 252645135)) 8))), (0, ((kand ((((kand ((x0 - (kand ((kusr x0 1)) 1431655765))) 858993459) + (kand ((kusr ((x0 - (kand ((kusr x0 1)) 1431655765))) 2)) 858993459)) + (kusr (((kand ((x0 - (kand ((kusr x0 1)) 1431655765))) 858993459) + (kand ((kusr ((x0 - (kand ((kusr x0 1)) 1431655765))) 2)) 858993459))) 4))) 252645135) + (kusr ((kand ((((kand ((x0 - (kand ((kusr x0 1)) 1431655765))) 858993459) + (kand ((kusr ((x0 - (kand ((kusr x0 1)) 1431655765))) 2)) 858993459)) + (kusr (((kand ((x0 - (kand ((kusr x0 1)) 1431655765))) 858993459) + (kand ((kusr ((x0 - (kand ((kusr x0 1)) 1431655765))) 2)) 858993459))) 4))) 252645135)) 8)))] G R V)
  refine wp_kusr rfl rfl (?_ : wpv K_J6_bitCount_0f7a4 d P 46 [some (0, ((kand ((((kand ((x0 - (kand ((kusr x0 1)) 1431655765))) 858993459) + (kand ((kusr ((x0 - (kand ((kusr x0 1)) 1431655765))) 2)) 858993459)) + (kusr (((kand ((x0 - (kand ((kusr x0 1)) 1431655765))) 858993459) + (kand ((kusr ((x0 - (kand ((kusr x0 1)) 1431655765))) 2)) 858993459))) 4))) 252645135) + (kusr ((kand ((((kand ((x0 - (kand ((kusr x0 1)) 1431655765))) 858993459) + (kand ((kusr ((x0 - (kand ((kusr x0 1)) 1431655765))) 2)) 858993459)) + (kusr (((kand ((x0 - (kand ((kusr x0 1)) 1431655765))) 858993459) + (kand ((kusr ((x0 - (kand ((kusr x0 1)) 1431655765))) 2)) 858993459))) 4))) 252645135)) 8)))] [(0, (kusr (((kand ((((kand ((x0 - (kand ((kusr x0 1)) 1431655765))) 858993459) + (kand ((kusr ((x0 - (kand ((kusr x0 1)) 1431655765))) 2)) 858993459)) + (kusr (((kand ((x0 - (kand ((kusr x0 1)) 1431655765))) 858993459) + (kand ((kusr ((x0 - (kand ((kusr x0 1)) 1431655765))) 2)) 858993459))) 4))) 252645135) + (kusr ((kand ((((kand ((x0 - (kand ((kusr x0 1)) 1431655765))) 858993459) + (kand ((kusr ((x0 - (kand ((kusr x0 1)) 1431655765))) 2)) 858993459)) + (kusr (((kand ((x0 - (kand ((kusr x0 1)) 1431655765))) 858993459) + (kand ((kusr ((x0 - (kand ((kusr x0 1)) 1431655765))) 2)) 858993459))) 4))) 252645135)) 8))) 16)), (0, ((kand ((((kand ((x0 - (kand ((kusr x0 1)) 1431655765))) 858993459) + (kand ((kusr ((x0 - (kand ((kusr x0 1)) 1431655765))) 2)) 858993459)) + (kusr (((kand ((x0 - (kand ((kusr x0 1)) 1431655765))) 858993459) + (kand ((kusr ((x0 - (kand ((kusr x0 1)) 1431655765))) 2)) 858993459))) 4))) 252645135) + (kusr ((kand ((((kand ((x0 - (kand ((kusr x0 1)) 1431655765))) 858993459) + (kand ((kusr ((x0 - (kand ((kusr x0 1)) 1431655765))) 2)) 858993459)) + (kusr (((kand ((x0 - (kand ((kusr x0 1)) 1431655765))) 858993459) + (kand ((kusr ((x0 - (kand ((kusr x0 1)) 1431655765))) 2)) 858993459))) 4))) 252645135)) 8)))] G R V)
  obtain ⟨s5, w⟩ := w
  refine wp_xadd rfl rfl s5 (?_ : wpv K_J6_bitCount_0f7a4 d P 47 [some (0, ((kand ((((kand ((x0 - (kand ((kusr x0 1)) 1431655765))) 858993459) + (kand ((kusr ((x0 - (kand ((kusr x0 1)) 1431655765))) 2)) 858993459)) + (kusr (((kand ((x0 - (kand ((kusr x0 1)) 1431655765))) 858993459) + (kand ((kusr ((x0 - (kand ((kusr x0 1)) 1431655765))) 2)) 858993459))) 4))) 252645135) + (kusr ((kand ((((kand ((x0 - (kand ((kusr x0 1)) 1431655765))) 858993459) + (kand ((kusr ((x0 - (kand ((kusr x0 1)) 1431655765))) 2)) 858993459)) + (kusr (((kand ((x0 - (kand ((kusr x0 1)) 1431655765))) 858993459) + (kand ((kusr ((x0 - (kand ((kusr x0 1)) 1431655765))) 2)) 858993459))) 4))) 252645135)) 8)))] [(0, (((kand ((((kand ((x0 - (kand ((kusr x0 1)) 1431655765))) 858993459) + (kand ((kusr ((x0 - (kand ((kusr x0 1)) 1431655765))) 2)) 858993459)) + (kusr (((kand ((x0 - (kand ((kusr x0 1)) 1431655765))) 858993459) + (kand ((kusr ((x0 - (kand ((kusr x0 1)) 1431655765))) 2)) 858993459))) 4))) 252645135) + (kusr ((kand ((((kand ((x0 - (kand ((kusr x0 1)) 1431655765))) 858993459) + (kand ((kusr ((x0 - (kand ((kusr x0 1)) 1431655765))) 2)) 858993459)) + (kusr (((kand ((x0 - (kand ((kusr x0 1)) 1431655765))) 858993459) + (kand ((kusr ((x0 - (kand ((kusr x0 1)) 1431655765))) 2)) 858993459))) 4))) 252645135)) 8)) + (kusr (((kand ((((kand ((x0 - (kand ((kusr x0 1)) 1431655765))) 858993459) + (kand ((kusr ((x0 - (kand ((kusr x0 1)) 1431655765))) 2)) 858993459)) + (kusr (((kand ((x0 - (kand ((kusr x0 1)) 1431655765))) 858993459) + (kand ((kusr ((x0 - (kand ((kusr x0 1)) 1431655765))) 2)) 858993459))) 4))) 252645135) + (kusr ((kand ((((kand ((x0 - (kand ((kusr x0 1)) 1431655765))) 858993459) + (kand ((kusr ((x0 - (kand ((kusr x0 1)) 1431655765))) 2)) 858993459)) + (kusr (((kand ((x0 - (kand ((kusr x0 1)) 1431655765))) 858993459) + (kand ((kusr ((x0 - (kand ((kusr x0 1)) 1431655765))) 2)) 858993459))) 4))) 252645135)) 8))) 16)))] G R V)
  refine wp_sto (i := (.istore_n 0)) _ rfl rfl (fun _ => rfl) rfl rfl rfl ?_
  refine wp_wk (L' := [some (0, (((kand ((((kand ((x0 - (kand ((kusr x0 1)) 1431655765))) 858993459) + (kand ((kusr ((x0 - (kand ((kusr x0 1)) 1431655765))) 2)) 858993459)) + (kusr (((kand ((x0 - (kand ((kusr x0 1)) 1431655765))) 858993459) + (kand ((kusr ((x0 - (kand ((kusr x0 1)) 1431655765))) 2)) 858993459))) 4))) 252645135) + (kusr ((kand ((((kand ((x0 - (kand ((kusr x0 1)) 1431655765))) 858993459) + (kand ((kusr ((x0 - (kand ((kusr x0 1)) 1431655765))) 2)) 858993459)) + (kusr (((kand ((x0 - (kand ((kusr x0 1)) 1431655765))) 858993459) + (kand ((kusr ((x0 - (kand ((kusr x0 1)) 1431655765))) 2)) 858993459))) 4))) 252645135)) 8)) + (kusr (((kand ((((kand ((x0 - (kand ((kusr x0 1)) 1431655765))) 858993459) + (kand ((kusr ((x0 - (kand ((kusr x0 1)) 1431655765))) 2)) 858993459)) + (kusr (((kand ((x0 - (kand ((kusr x0 1)) 1431655765))) 858993459) + (kand ((kusr ((x0 - (kand ((kusr x0 1)) 1431655765))) 2)) 858993459))) 4))) 252645135) + (kusr ((kand ((((kand ((x0 - (kand ((kusr x0 1)) 1431655765))) 858993459) + (kand ((kusr ((x0 - (kand ((kusr x0 1)) 1431655765))) 2)) 858993459)) + (kusr (((kand ((x0 - (kand ((kusr x0 1)) 1431655765))) 858993459) + (kand ((kusr ((x0 - (kand ((kusr x0 1)) 1431655765))) 2)) 858993459))) 4))) 252645135)) 8))) 16)))]) (wk_s wk_0) ?_
  show wpv K_J6_bitCount_0f7a4 d P 48 [some (0, (((kand ((((kand ((x0 - (kand ((kusr x0 1)) 1431655765))) 858993459) + (kand ((kusr ((x0 - (kand ((kusr x0 1)) 1431655765))) 2)) 858993459)) + (kusr (((kand ((x0 - (kand ((kusr x0 1)) 1431655765))) 858993459) + (kand ((kusr ((x0 - (kand ((kusr x0 1)) 1431655765))) 2)) 858993459))) 4))) 252645135) + (kusr ((kand ((((kand ((x0 - (kand ((kusr x0 1)) 1431655765))) 858993459) + (kand ((kusr ((x0 - (kand ((kusr x0 1)) 1431655765))) 2)) 858993459)) + (kusr (((kand ((x0 - (kand ((kusr x0 1)) 1431655765))) 858993459) + (kand ((kusr ((x0 - (kand ((kusr x0 1)) 1431655765))) 2)) 858993459))) 4))) 252645135)) 8)) + (kusr (((kand ((((kand ((x0 - (kand ((kusr x0 1)) 1431655765))) 858993459) + (kand ((kusr ((x0 - (kand ((kusr x0 1)) 1431655765))) 2)) 858993459)) + (kusr (((kand ((x0 - (kand ((kusr x0 1)) 1431655765))) 858993459) + (kand ((kusr ((x0 - (kand ((kusr x0 1)) 1431655765))) 2)) 858993459))) 4))) 252645135) + (kusr ((kand ((((kand ((x0 - (kand ((kusr x0 1)) 1431655765))) 858993459) + (kand ((kusr ((x0 - (kand ((kusr x0 1)) 1431655765))) 2)) 858993459)) + (kusr (((kand ((x0 - (kand ((kusr x0 1)) 1431655765))) 858993459) + (kand ((kusr ((x0 - (kand ((kusr x0 1)) 1431655765))) 2)) 858993459))) 4))) 252645135)) 8))) 16)))] [] G R V
  refine wp_ld (i := (.iload_n 0)) (0, (((kand ((((kand ((x0 - (kand ((kusr x0 1)) 1431655765))) 858993459) + (kand ((kusr ((x0 - (kand ((kusr x0 1)) 1431655765))) 2)) 858993459)) + (kusr (((kand ((x0 - (kand ((kusr x0 1)) 1431655765))) 858993459) + (kand ((kusr ((x0 - (kand ((kusr x0 1)) 1431655765))) 2)) 858993459))) 4))) 252645135) + (kusr ((kand ((((kand ((x0 - (kand ((kusr x0 1)) 1431655765))) 858993459) + (kand ((kusr ((x0 - (kand ((kusr x0 1)) 1431655765))) 2)) 858993459)) + (kusr (((kand ((x0 - (kand ((kusr x0 1)) 1431655765))) 858993459) + (kand ((kusr ((x0 - (kand ((kusr x0 1)) 1431655765))) 2)) 858993459))) 4))) 252645135)) 8)) + (kusr (((kand ((((kand ((x0 - (kand ((kusr x0 1)) 1431655765))) 858993459) + (kand ((kusr ((x0 - (kand ((kusr x0 1)) 1431655765))) 2)) 858993459)) + (kusr (((kand ((x0 - (kand ((kusr x0 1)) 1431655765))) 858993459) + (kand ((kusr ((x0 - (kand ((kusr x0 1)) 1431655765))) 2)) 858993459))) 4))) 252645135) + (kusr ((kand ((((kand ((x0 - (kand ((kusr x0 1)) 1431655765))) 858993459) + (kand ((kusr ((x0 - (kand ((kusr x0 1)) 1431655765))) 2)) 858993459)) + (kusr (((kand ((x0 - (kand ((kusr x0 1)) 1431655765))) 858993459) + (kand ((kusr ((x0 - (kand ((kusr x0 1)) 1431655765))) 2)) 858993459))) 4))) 252645135)) 8))) 16))) rfl rfl (fun _ => rfl) rfl rfl (?_ : wpv K_J6_bitCount_0f7a4 d P 49 [some (0, (((kand ((((kand ((x0 - (kand ((kusr x0 1)) 1431655765))) 858993459) + (kand ((kusr ((x0 - (kand ((kusr x0 1)) 1431655765))) 2)) 858993459)) + (kusr (((kand ((x0 - (kand ((kusr x0 1)) 1431655765))) 858993459) + (kand ((kusr ((x0 - (kand ((kusr x0 1)) 1431655765))) 2)) 858993459))) 4))) 252645135) + (kusr ((kand ((((kand ((x0 - (kand ((kusr x0 1)) 1431655765))) 858993459) + (kand ((kusr ((x0 - (kand ((kusr x0 1)) 1431655765))) 2)) 858993459)) + (kusr (((kand ((x0 - (kand ((kusr x0 1)) 1431655765))) 858993459) + (kand ((kusr ((x0 - (kand ((kusr x0 1)) 1431655765))) 2)) 858993459))) 4))) 252645135)) 8)) + (kusr (((kand ((((kand ((x0 - (kand ((kusr x0 1)) 1431655765))) 858993459) + (kand ((kusr ((x0 - (kand ((kusr x0 1)) 1431655765))) 2)) 858993459)) + (kusr (((kand ((x0 - (kand ((kusr x0 1)) 1431655765))) 858993459) + (kand ((kusr ((x0 - (kand ((kusr x0 1)) 1431655765))) 2)) 858993459))) 4))) 252645135) + (kusr ((kand ((((kand ((x0 - (kand ((kusr x0 1)) 1431655765))) 858993459) + (kand ((kusr ((x0 - (kand ((kusr x0 1)) 1431655765))) 2)) 858993459)) + (kusr (((kand ((x0 - (kand ((kusr x0 1)) 1431655765))) 858993459) + (kand ((kusr ((x0 - (kand ((kusr x0 1)) 1431655765))) 2)) 858993459))) 4))) 252645135)) 8))) 16)))] [(0, (((kand ((((kand ((x0 - (kand ((kusr x0 1)) 1431655765))) 858993459) + (kand ((kusr ((x0 - (kand ((kusr x0 1)) 1431655765))) 2)) 858993459)) + (kusr (((kand ((x0 - (kand ((kusr x0 1)) 1431655765))) 858993459) + (kand ((kusr ((x0 - (kand ((kusr x0 1)) 1431655765))) 2)) 858993459))) 4))) 252645135) + (kusr ((kand ((((kand ((x0 - (kand ((kusr x0 1)) 1431655765))) 858993459) + (kand ((kusr ((x0 - (kand ((kusr x0 1)) 1431655765))) 2)) 858993459)) + (kusr (((kand ((x0 - (kand ((kusr x0 1)) 1431655765))) 858993459) + (kand ((kusr ((x0 - (kand ((kusr x0 1)) 1431655765))) 2)) 858993459))) 4))) 252645135)) 8)) + (kusr (((kand ((((kand ((x0 - (kand ((kusr x0 1)) 1431655765))) 858993459) + (kand ((kusr ((x0 - (kand ((kusr x0 1)) 1431655765))) 2)) 858993459)) + (kusr (((kand ((x0 - (kand ((kusr x0 1)) 1431655765))) 858993459) + (kand ((kusr ((x0 - (kand ((kusr x0 1)) 1431655765))) 2)) 858993459))) 4))) 252645135) + (kusr ((kand ((((kand ((x0 - (kand ((kusr x0 1)) 1431655765))) 858993459) + (kand ((kusr ((x0 - (kand ((kusr x0 1)) 1431655765))) 2)) 858993459)) + (kusr (((kand ((x0 - (kand ((kusr x0 1)) 1431655765))) 858993459) + (kand ((kusr ((x0 - (kand ((kusr x0 1)) 1431655765))) 2)) 858993459))) 4))) 252645135)) 8))) 16)))] G R V)
  refine wp_p (i := (.bipush 63)) rfl rfl (fun _ _ _ => rfl) (?_ : wpv K_J6_bitCount_0f7a4 d P 51 [some (0, (((kand ((((kand ((x0 - (kand ((kusr x0 1)) 1431655765))) 858993459) + (kand ((kusr ((x0 - (kand ((kusr x0 1)) 1431655765))) 2)) 858993459)) + (kusr (((kand ((x0 - (kand ((kusr x0 1)) 1431655765))) 858993459) + (kand ((kusr ((x0 - (kand ((kusr x0 1)) 1431655765))) 2)) 858993459))) 4))) 252645135) + (kusr ((kand ((((kand ((x0 - (kand ((kusr x0 1)) 1431655765))) 858993459) + (kand ((kusr ((x0 - (kand ((kusr x0 1)) 1431655765))) 2)) 858993459)) + (kusr (((kand ((x0 - (kand ((kusr x0 1)) 1431655765))) 858993459) + (kand ((kusr ((x0 - (kand ((kusr x0 1)) 1431655765))) 2)) 858993459))) 4))) 252645135)) 8)) + (kusr (((kand ((((kand ((x0 - (kand ((kusr x0 1)) 1431655765))) 858993459) + (kand ((kusr ((x0 - (kand ((kusr x0 1)) 1431655765))) 2)) 858993459)) + (kusr (((kand ((x0 - (kand ((kusr x0 1)) 1431655765))) 858993459) + (kand ((kusr ((x0 - (kand ((kusr x0 1)) 1431655765))) 2)) 858993459))) 4))) 252645135) + (kusr ((kand ((((kand ((x0 - (kand ((kusr x0 1)) 1431655765))) 858993459) + (kand ((kusr ((x0 - (kand ((kusr x0 1)) 1431655765))) 2)) 858993459)) + (kusr (((kand ((x0 - (kand ((kusr x0 1)) 1431655765))) 858993459) + (kand ((kusr ((x0 - (kand ((kusr x0 1)) 1431655765))) 2)) 858993459))) 4))) 252645135)) 8))) 16)))] [(0, 63), (0, (((kand ((((kand ((x0 - (kand ((kusr x0 1)) 1431655765))) 858993459) + (kand ((kusr ((x0 - (kand ((kusr x0 1)) 1431655765))) 2)) 858993459)) + (kusr (((kand ((x0 - (kand ((kusr x0 1)) 1431655765))) 858993459) + (kand ((kusr ((x0 - (kand ((kusr x0 1)) 1431655765))) 2)) 858993459))) 4))) 252645135) + (kusr ((kand ((((kand ((x0 - (kand ((kusr x0 1)) 1431655765))) 858993459) + (kand ((kusr ((x0 - (kand ((kusr x0 1)) 1431655765))) 2)) 858993459)) + (kusr (((kand ((x0 - (kand ((kusr x0 1)) 1431655765))) 858993459) + (kand ((kusr ((x0 - (kand ((kusr x0 1)) 1431655765))) 2)) 858993459))) 4))) 252645135)) 8)) + (kusr (((kand ((((kand ((x0 - (kand ((kusr x0 1)) 1431655765))) 858993459) + (kand ((kusr ((x0 - (kand ((kusr x0 1)) 1431655765))) 2)) 858993459)) + (kusr (((kand ((x0 - (kand ((kusr x0 1)) 1431655765))) 858993459) + (kand ((kusr ((x0 - (kand ((kusr x0 1)) 1431655765))) 2)) 858993459))) 4))) 252645135) + (kusr ((kand ((((kand ((x0 - (kand ((kusr x0 1)) 1431655765))) 858993459) + (kand ((kusr ((x0 - (kand ((kusr x0 1)) 1431655765))) 2)) 858993459)) + (kusr (((kand ((x0 - (kand ((kusr x0 1)) 1431655765))) 858993459) + (kand ((kusr ((x0 - (kand ((kusr x0 1)) 1431655765))) 2)) 858993459))) 4))) 252645135)) 8))) 16)))] G R V)
  refine wp_kand rfl rfl (?_ : wpv K_J6_bitCount_0f7a4 d P 52 [some (0, (((kand ((((kand ((x0 - (kand ((kusr x0 1)) 1431655765))) 858993459) + (kand ((kusr ((x0 - (kand ((kusr x0 1)) 1431655765))) 2)) 858993459)) + (kusr (((kand ((x0 - (kand ((kusr x0 1)) 1431655765))) 858993459) + (kand ((kusr ((x0 - (kand ((kusr x0 1)) 1431655765))) 2)) 858993459))) 4))) 252645135) + (kusr ((kand ((((kand ((x0 - (kand ((kusr x0 1)) 1431655765))) 858993459) + (kand ((kusr ((x0 - (kand ((kusr x0 1)) 1431655765))) 2)) 858993459)) + (kusr (((kand ((x0 - (kand ((kusr x0 1)) 1431655765))) 858993459) + (kand ((kusr ((x0 - (kand ((kusr x0 1)) 1431655765))) 2)) 858993459))) 4))) 252645135)) 8)) + (kusr (((kand ((((kand ((x0 - (kand ((kusr x0 1)) 1431655765))) 858993459) + (kand ((kusr ((x0 - (kand ((kusr x0 1)) 1431655765))) 2)) 858993459)) + (kusr (((kand ((x0 - (kand ((kusr x0 1)) 1431655765))) 858993459) + (kand ((kusr ((x0 - (kand ((kusr x0 1)) 1431655765))) 2)) 858993459))) 4))) 252645135) + (kusr ((kand ((((kand ((x0 - (kand ((kusr x0 1)) 1431655765))) 858993459) + (kand ((kusr ((x0 - (kand ((kusr x0 1)) 1431655765))) 2)) 858993459)) + (kusr (((kand ((x0 - (kand ((kusr x0 1)) 1431655765))) 858993459) + (kand ((kusr ((x0 - (kand ((kusr x0 1)) 1431655765))) 2)) 858993459))) 4))) 252645135)) 8))) 16)))] [(0, (kand ((((kand ((((kand ((x0 - (kand ((kusr x0 1)) 1431655765))) 858993459) + (kand ((kusr ((x0 - (kand ((kusr x0 1)) 1431655765))) 2)) 858993459)) + (kusr (((kand ((x0 - (kand ((kusr x0 1)) 1431655765))) 858993459) + (kand ((kusr ((x0 - (kand ((kusr x0 1)) 1431655765))) 2)) 858993459))) 4))) 252645135) + (kusr ((kand ((((kand ((x0 - (kand ((kusr x0 1)) 1431655765))) 858993459) + (kand ((kusr ((x0 - (kand ((kusr x0 1)) 1431655765))) 2)) 858993459)) + (kusr (((kand ((x0 - (kand ((kusr x0 1)) 1431655765))) 858993459) + (kand ((kusr ((x0 - (kand ((kusr x0 1)) 1431655765))) 2)) 858993459))) 4))) 252645135)) 8)) + (kusr (((kand ((((kand ((x0 - (kand ((kusr x0 1)) 1431655765))) 858993459) + (kand ((kusr ((x0 - (kand ((kusr x0 1)) 1431655765))) 2)) 858993459)) + (kusr (((kand ((x0 - (kand ((kusr x0 1)) 1431655765))) 858993459) + (kand ((kusr ((x0 - (kand ((kusr x0 1)) 1431655765))) 2)) 858993459))) 4))) 252645135) + (kusr ((kand ((((kand ((x0 - (kand ((kusr x0 1)) 1431655765))) 858993459) + (kand ((kusr ((x0 - (kand ((kusr x0 1)) 1431655765))) 2)) 858993459)) + (kusr (((kand ((x0 - (kand ((kusr x0 1)) 1431655765))) 858993459) + (kand ((kusr ((x0 - (kand ((kusr x0 1)) 1431655765))) 2)) 858993459))) 4))) 252645135)) 8))) 16))) 63))] G R V)
  exact wp_rI rfl rfl rfl w
