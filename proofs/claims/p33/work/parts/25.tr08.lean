theorem t_X6_indexIn_0 {d : Nat} {P : gP} {p0 : Nat} {n0 : Nat} {x1 : Int} {x2 : Int} {G : List gS} {R V : gV} (g0 : G[p0]? = some (.inr (0, n0))) (w : wpv K_X6_indexIn d P 2 [some (4, (p0 : Int)), some (0, x1), some (0, x2), some (0, 0)] [] G R V) : wpv K_X6_indexIn d P 0 [some (4, (p0 : Int)), some (0, x1), some (0, x2)] [] G R V := by
  refine wp_p (i := (.iconst 0)) rfl rfl (fun _ _ _ => rfl) (?_ : wpv K_X6_indexIn d P 1 [some (4, (p0 : Int)), some (0, x1), some (0, x2)] [(0, 0)] G R V)
  refine wp_sto (i := (.istore_n 3)) _ rfl rfl (fun _ => rfl) rfl rfl rfl ?_
  refine wp_wk (L' := [some (4, (p0 : Int)), some (0, x1), some (0, x2), some (0, 0)]) (wk_s (wk_s (wk_s (wk_s wk_0)))) ?_
  show wpv K_X6_indexIn d P 2 [some (4, (p0 : Int)), some (0, x1), some (0, x2), some (0, 0)] [] G R V
  exact wp_wk (wk_s (wk_s (wk_s (wk_s wk_0)))) w

theorem t_X6_indexIn_2 {d : Nat} {P : gP} {p0 : Nat} {n0 : Nat} {x1 : Int} {x2 : Int} {x3 : Int} {G : List gS} {R V : gV} (g0 : G[p0]? = some (.inr (0, n0))) (w : ((i32 x3) ∧ ((i32 x1) ∧ (((¬ x3 < x1) → P (some (0, (-1))) V) ∧ ((x3 < x1) → (((¬ x3 < (n0 : Int)) → P (some (0, (-1))) V) ∧ ((x3 < (n0 : Int)) → ((0 ≤ x3 ∧ x3 < (n0 : Int)) ∧ ((i32 (V p0 x3)) → ((i32 x2) ∧ (((¬ (V p0 x3) = x2) → ((i32 (x3 + 1)) ∧ wpv K_X6_indexIn d P 2 [some (4, (p0 : Int)), some (0, x1), some (0, x2), some (0, (x3 + 1))] [] G R V)) ∧ (((V p0 x3) = x2) → P (some (0, x3)) V)))))))))))) : wpv K_X6_indexIn d P 2 [some (4, (p0 : Int)), some (0, x1), some (0, x2), some (0, x3)] [] G R V := by
  refine wp_ld (i := (.iload_n 3)) (0, x3) rfl rfl (fun _ => rfl) rfl rfl (?_ : wpv K_X6_indexIn d P 3 [some (4, (p0 : Int)), some (0, x1), some (0, x2), some (0, x3)] [(0, x3)] G R V)
  refine wp_ld (i := (.iload_n 1)) (0, x1) rfl rfl (fun _ => rfl) rfl rfl (?_ : wpv K_X6_indexIn d P 4 [some (4, (p0 : Int)), some (0, x1), some (0, x2), some (0, x3)] [(0, x1), (0, x3)] G R V)
  obtain ⟨s1, w⟩ := w
  obtain ⟨s2, w⟩ := w
  refine wp_icmp (c := .ge) 28 rfl rfl rfl s1 s2 (fun q => ?_) (fun q => ?_)
  · have q : ¬ x3 < x1 := q
    replace w := w.1 q
    show wpv K_X6_indexIn d P 28 [some (4, (p0 : Int)), some (0, x1), some (0, x2), some (0, x3)] [] G R V
    refine wp_p (i := (.iconst (-1))) rfl rfl (fun _ _ _ => rfl) (?_ : wpv K_X6_indexIn d P 29 [some (4, (p0 : Int)), some (0, x1), some (0, x2), some (0, x3)] [(0, (-1))] G R V)
    exact wp_rI rfl rfl rfl w
  · have q : x3 < x1 := Decidable.not_not.mp q
    replace w := w.2 q
    show wpv K_X6_indexIn d P 7 [some (4, (p0 : Int)), some (0, x1), some (0, x2), some (0, x3)] [] G R V
    refine wp_ld (i := (.iload_n 3)) (0, x3) rfl rfl (fun _ => rfl) rfl rfl (?_ : wpv K_X6_indexIn d P 8 [some (4, (p0 : Int)), some (0, x1), some (0, x2), some (0, x3)] [(0, x3)] G R V)
    refine wp_ld (i := (.aload_n 0)) (4, (p0 : Int)) rfl rfl (fun _ => rfl) rfl rfl (?_ : wpv K_X6_indexIn d P 9 [some (4, (p0 : Int)), some (0, x1), some (0, x2), some (0, x3)] [(4, (p0 : Int)), (0, x3)] G R V)
    refine wp_rng (fun vr3 => ?_)
    have f4 : i32 (n0 : Int) := by have := (vr3.2.2 _ _ _ g0).1; unfold i32; omega
    refine wp_alen rfl rfl g0 (?_ : wpv K_X6_indexIn d P 10 [some (4, (p0 : Int)), some (0, x1), some (0, x2), some (0, x3)] [(0, (n0 : Int)), (0, x3)] G R V)
    refine wp_icmp (c := .ge) 28 rfl rfl rfl s1 f4 (fun q => ?_) (fun q => ?_)
    · have q : ¬ x3 < (n0 : Int) := q
      replace w := w.1 q
      show wpv K_X6_indexIn d P 28 [some (4, (p0 : Int)), some (0, x1), some (0, x2), some (0, x3)] [] G R V
      refine wp_p (i := (.iconst (-1))) rfl rfl (fun _ _ _ => rfl) (?_ : wpv K_X6_indexIn d P 29 [some (4, (p0 : Int)), some (0, x1), some (0, x2), some (0, x3)] [(0, (-1))] G R V)
      exact wp_rI rfl rfl rfl w
    · have q : x3 < (n0 : Int) := Decidable.not_not.mp q
      replace w := w.2 q
      show wpv K_X6_indexIn d P 13 [some (4, (p0 : Int)), some (0, x1), some (0, x2), some (0, x3)] [] G R V
      refine wp_ld (i := (.aload_n 0)) (4, (p0 : Int)) rfl rfl (fun _ => rfl) rfl rfl (?_ : wpv K_X6_indexIn d P 14 [some (4, (p0 : Int)), some (0, x1), some (0, x2), some (0, x3)] [(4, (p0 : Int))] G R V)
      refine wp_ld (i := (.iload_n 3)) (0, x3) rfl rfl (fun _ => rfl) rfl rfl (?_ : wpv K_X6_indexIn d P 15 [some (4, (p0 : Int)), some (0, x1), some (0, x2), some (0, x3)] [(0, x3), (4, (p0 : Int))] G R V)
      obtain ⟨s5, w⟩ := w
      have f6 : i32 (V p0 x3) := vr_a0 vr3 g0 s5
      replace w := w f6
      refine wp_aI rfl rfl g0 s5 (?_ : wpv K_X6_indexIn d P 16 [some (4, (p0 : Int)), some (0, x1), some (0, x2), some (0, x3)] [(0, (V p0 x3))] G R V)
      refine wp_ld (i := (.iload_n 2)) (0, x2) rfl rfl (fun _ => rfl) rfl rfl (?_ : wpv K_X6_indexIn d P 17 [some (4, (p0 : Int)), some (0, x1), some (0, x2), some (0, x3)] [(0, x2), (0, (V p0 x3))] G R V)
      obtain ⟨s7, w⟩ := w
      refine wp_icmp (c := .ne) 22 rfl rfl rfl f6 s7 (fun q => ?_) (fun q => ?_)
      · have q : ¬ (V p0 x3) = x2 := q
        replace w := w.1 q
        show wpv K_X6_indexIn d P 22 [some (4, (p0 : Int)), some (0, x1), some (0, x2), some (0, x3)] [] G R V
        obtain ⟨s8, w⟩ := w
        refine wp_inc (x := 3) (k := 1) (a := x3) (c := (x3 + 1)) _ rfl rfl rfl rfl s8 (by omega) rfl ?_
        show wpv K_X6_indexIn d P 25 [some (4, (p0 : Int)), some (0, x1), some (0, x2), some (0, (x3 + 1))] [] G R V
        refine wp_go 2 rfl rfl rfl (?_ : wpv K_X6_indexIn d P 2 [some (4, (p0 : Int)), some (0, x1), some (0, x2), some (0, (x3 + 1))] [] G R V)
        exact wp_wk (wk_s (wk_s (wk_s (wk_s wk_0)))) w
      · have q : (V p0 x3) = x2 := Decidable.not_not.mp q
        replace w := w.2 q
        show wpv K_X6_indexIn d P 20 [some (4, (p0 : Int)), some (0, x1), some (0, x2), some (0, x3)] [] G R V
        refine wp_ld (i := (.iload_n 3)) (0, x3) rfl rfl (fun _ => rfl) rfl rfl (?_ : wpv K_X6_indexIn d P 21 [some (4, (p0 : Int)), some (0, x1), some (0, x2), some (0, x3)] [(0, x3)] G R V)
        exact wp_rI rfl rfl rfl w
theorem t_X6_collect_0 {d : Nat} {P : gP} {p0 : Nat} {G : List gS} {R V : gV} (l0 : lay6 G R p0) (w : wpv K_X6_collect d P 15 [some (4, (p0 : Int)), some (0, 0)] [] G R (wr (wr V (p0 + 1) 0 342391) p0 1 1)) : wpv K_X6_collect d P 0 [some (4, (p0 : Int))] [] G R V := by
  refine wp_ld (i := (.aload_n 0)) (4, (p0 : Int)) rfl rfl (fun _ => rfl) rfl rfl (?_ : wpv K_X6_collect d P 1 [some (4, (p0 : Int))] [(4, (p0 : Int))] G R V)
  refine wp_getA (k := 3) rfl rfl rfl (ly6_o l0) rfl rfl (ly6_3 l0).1 (?_ : wpv K_X6_collect d P 4 [some (4, (p0 : Int))] [(4, ((p0 + 1 : Nat) : Int))] G R V)
  refine wp_p (i := (.iconst 0)) rfl rfl (fun _ _ _ => rfl) (?_ : wpv K_X6_collect d P 5 [some (4, (p0 : Int))] [(0, 0), (4, ((p0 + 1 : Nat) : Int))] G R V)
  refine wp_p (i := (.ldc 47)) rfl rfl (fun _ _ _ => rfl) (?_ : wpv K_X6_collect d P 7 [some (4, (p0 : Int))] [(0, 342391), (0, 0), (4, ((p0 + 1 : Nat) : Int))] G R V)
  refine wp_sI rfl rfl (ly6_3 l0).2 ⟨by omega, by omega⟩ ⟨by omega, by omega⟩ (?_ : wpv K_X6_collect d P 8 [some (4, (p0 : Int))] [] G R (wr V (p0 + 1) 0 342391))
  refine wp_ld (i := (.aload_n 0)) (4, (p0 : Int)) rfl rfl (fun _ => rfl) rfl rfl (?_ : wpv K_X6_collect d P 9 [some (4, (p0 : Int))] [(4, (p0 : Int))] G R (wr V (p0 + 1) 0 342391))
  refine wp_p (i := (.iconst 1)) rfl rfl (fun _ _ _ => rfl) (?_ : wpv K_X6_collect d P 10 [some (4, (p0 : Int))] [(0, 1), (4, (p0 : Int))] G R (wr V (p0 + 1) 0 342391))
  refine wp_putI (k := 1) rfl rfl rfl (ly6_o l0) rfl rfl rfl ⟨by omega, by omega⟩ (?_ : wpv K_X6_collect d P 13 [some (4, (p0 : Int))] [] G R (wr (wr V (p0 + 1) 0 342391) p0 1 1))
  refine wp_p (i := (.iconst 0)) rfl rfl (fun _ _ _ => rfl) (?_ : wpv K_X6_collect d P 14 [some (4, (p0 : Int))] [(0, 0)] G R (wr (wr V (p0 + 1) 0 342391) p0 1 1))
  refine wp_sto (i := (.istore_n 1)) _ rfl rfl (fun _ => rfl) rfl rfl rfl ?_
  refine wp_wk (L' := [some (4, (p0 : Int)), some (0, 0)]) (wk_s (wk_s wk_0)) ?_
  show wpv K_X6_collect d P 15 [some (4, (p0 : Int)), some (0, 0)] [] G R (wr (wr V (p0 + 1) 0 342391) p0 1 1)
  exact wp_wk (wk_s (wk_s wk_0)) w

theorem t_X6_collect_15 {d : Nat} {P : gP} {p0 : Nat} {x1 : Int} {G : List gS} {R V : gV} (l0 : lay6 G R p0) (w : ((i32 (V p0 1)) → ((i32 x1) ∧ (((¬ x1 < (V p0 1)) → P (some (0, 1)) V) ∧ ((x1 < (V p0 1)) → (((¬ x1 < 120) → P (some (0, 1)) V) ∧ ((x1 < 120) → wpv K_X6_collect d P 31 [some (4, (p0 : Int)), some (0, x1), some (0, 0)] [] G R V))))))) : wpv K_X6_collect d P 15 [some (4, (p0 : Int)), some (0, x1)] [] G R V := by
  refine wp_ld (i := (.iload_n 1)) (0, x1) rfl rfl (fun _ => rfl) rfl rfl (?_ : wpv K_X6_collect d P 16 [some (4, (p0 : Int)), some (0, x1)] [(0, x1)] G R V)
  refine wp_ld (i := (.aload_n 0)) (4, (p0 : Int)) rfl rfl (fun _ => rfl) rfl rfl (?_ : wpv K_X6_collect d P 17 [some (4, (p0 : Int)), some (0, x1)] [(4, (p0 : Int)), (0, x1)] G R V)
  refine wp_rng (fun vr1 => ?_)
  have f2 : i32 (V p0 1) := vr_f0 vr1 (ly6_o l0) rfl rfl
  replace w := w f2
  refine wp_getI (k := 1) rfl rfl rfl (ly6_o l0) rfl rfl (?_ : wpv K_X6_collect d P 20 [some (4, (p0 : Int)), some (0, x1)] [(0, (V p0 1)), (0, x1)] G R V)
  obtain ⟨s3, w⟩ := w
  refine wp_icmp (c := .ge) 114 rfl rfl rfl s3 f2 (fun q => ?_) (fun q => ?_)
  · have q : ¬ x1 < (V p0 1) := q
    replace w := w.1 q
    show wpv K_X6_collect d P 114 [some (4, (p0 : Int)), some (0, x1)] [] G R V
    refine wp_p (i := (.iconst 1)) rfl rfl (fun _ _ _ => rfl) (?_ : wpv K_X6_collect d P 115 [some (4, (p0 : Int)), some (0, x1)] [(0, 1)] G R V)
    exact wp_rB rfl rfl rfl (by omega) w
  · have q : x1 < (V p0 1) := Decidable.not_not.mp q
    replace w := w.2 q
    show wpv K_X6_collect d P 23 [some (4, (p0 : Int)), some (0, x1)] [] G R V
    refine wp_ld (i := (.iload_n 1)) (0, x1) rfl rfl (fun _ => rfl) rfl rfl (?_ : wpv K_X6_collect d P 24 [some (4, (p0 : Int)), some (0, x1)] [(0, x1)] G R V)
    refine wp_p (i := (.bipush 120)) rfl rfl (fun _ _ _ => rfl) (?_ : wpv K_X6_collect d P 26 [some (4, (p0 : Int)), some (0, x1)] [(0, 120), (0, x1)] G R V)
    refine wp_icmp (c := .ge) 114 rfl rfl rfl s3 ⟨by omega, by omega⟩ (fun q => ?_) (fun q => ?_)
    · have q : ¬ x1 < 120 := q
      replace w := w.1 q
      show wpv K_X6_collect d P 114 [some (4, (p0 : Int)), some (0, x1)] [] G R V
      refine wp_p (i := (.iconst 1)) rfl rfl (fun _ _ _ => rfl) (?_ : wpv K_X6_collect d P 115 [some (4, (p0 : Int)), some (0, x1)] [(0, 1)] G R V)
      exact wp_rB rfl rfl rfl (by omega) w
    · have q : x1 < 120 := Decidable.not_not.mp q
      replace w := w.2 q
      show wpv K_X6_collect d P 29 [some (4, (p0 : Int)), some (0, x1)] [] G R V
      refine wp_p (i := (.iconst 0)) rfl rfl (fun _ _ _ => rfl) (?_ : wpv K_X6_collect d P 30 [some (4, (p0 : Int)), some (0, x1)] [(0, 0)] G R V)
      refine wp_sto (i := (.istore_n 2)) _ rfl rfl (fun _ => rfl) rfl rfl rfl ?_
      refine wp_wk (L' := [some (4, (p0 : Int)), some (0, x1), some (0, 0)]) (wk_s (wk_s (wk_s wk_0))) ?_
      show wpv K_X6_collect d P 31 [some (4, (p0 : Int)), some (0, x1), some (0, 0)] [] G R V
      exact wp_wk (wk_s (wk_s (wk_s wk_0))) w

theorem t_X6_collect_31 {d : Nat} {P : gP} {p0 : Nat} {x1 : Int} {x2 : Int} {G : List gS} {R V : gV} (l0 : lay6 G R p0) (w : ((i32 (V p0 2)) → ((i32 x2) ∧ (((¬ x2 < (V p0 2)) → ((i32 (x1 + 1)) ∧ wpv K_X6_collect d P 15 [some (4, (p0 : Int)), some (0, (x1 + 1))] [] G R V)) ∧ ((x2 < (V p0 2)) → ((0 ≤ x1 ∧ x1 < 120) ∧ ((i32 (V (p0 + 1) x1)) → ((0 ≤ x2 ∧ x2 < 4) ∧ ((i32 (V (p0 + 5) x2)) → cwv d (fun r V9 => ∃ v10 : Int, r = some (0, v10) ∧ ((i32 (V9 p0 1)) → cwv d (fun r V13 => ∃ v14 : Int, r = some (0, v14) ∧ ((i32 v14) ∧ (((¬ v14 = (-1)) → ((i32 (x2 + 1)) ∧ wpv K_X6_collect d P 31 [some (4, (p0 : Int)), some (0, x1), some (0, (x2 + 1))] [] G R V13)) ∧ ((v14 = (-1)) → ((i32 (V13 p0 1)) → ((((V13 p0 1) < 120) → ((0 ≤ (V13 p0 1) ∧ (V13 p0 1) < 120) ∧ ((i32 v10) ∧ ((i32 ((V13 p0 1) + 1)) ∧ ((i32 (x2 + 1)) ∧ wpv K_X6_collect d P 31 [some (4, (p0 : Int)), some (0, x1), some (0, (x2 + 1))] [] G R (wr (wr V13 (p0 + 1) ((V13 p0 1)) v10) p0 1 (((V13 p0 1) + 1)))))))) ∧ ((¬ (V13 p0 1) < 120) → P (some (0, 0)) V13))))))) 94 [(4, ((p0 + 1 : Nat) : Int)), (0, (V9 p0 1)), (0, v10)] G R V9)) 148 [(0, (V (p0 + 1) x1)), (0, (V (p0 + 5) x2))] G R V))))))))) : wpv K_X6_collect d P 31 [some (4, (p0 : Int)), some (0, x1), some (0, x2)] [] G R V := by
  refine wp_ld (i := (.iload_n 2)) (0, x2) rfl rfl (fun _ => rfl) rfl rfl (?_ : wpv K_X6_collect d P 32 [some (4, (p0 : Int)), some (0, x1), some (0, x2)] [(0, x2)] G R V)
  refine wp_ld (i := (.aload_n 0)) (4, (p0 : Int)) rfl rfl (fun _ => rfl) rfl rfl (?_ : wpv K_X6_collect d P 33 [some (4, (p0 : Int)), some (0, x1), some (0, x2)] [(4, (p0 : Int)), (0, x2)] G R V)
  refine wp_rng (fun vr1 => ?_)
  have f2 : i32 (V p0 2) := vr_f0 vr1 (ly6_o l0) rfl rfl
  replace w := w f2
  refine wp_getI (k := 2) rfl rfl rfl (ly6_o l0) rfl rfl (?_ : wpv K_X6_collect d P 36 [some (4, (p0 : Int)), some (0, x1), some (0, x2)] [(0, (V p0 2)), (0, x2)] G R V)
  obtain ⟨s3, w⟩ := w
  refine wp_icmp (c := .ge) 108 rfl rfl rfl s3 f2 (fun q => ?_) (fun q => ?_)
  · have q : ¬ x2 < (V p0 2) := q
    replace w := w.1 q
    show wpv K_X6_collect d P 108 [some (4, (p0 : Int)), some (0, x1), some (0, x2)] [] G R V
    obtain ⟨s4, w⟩ := w
    refine wp_inc (x := 1) (k := 1) (a := x1) (c := (x1 + 1)) _ rfl rfl rfl rfl s4 (by omega) rfl ?_
    show wpv K_X6_collect d P 111 [some (4, (p0 : Int)), some (0, (x1 + 1)), some (0, x2)] [] G R V
    refine wp_go 15 rfl rfl rfl (?_ : wpv K_X6_collect d P 15 [some (4, (p0 : Int)), some (0, (x1 + 1)), some (0, x2)] [] G R V)
    exact wp_wk (wk_s (wk_s wk_0)) w
  · have q : x2 < (V p0 2) := Decidable.not_not.mp q
    replace w := w.2 q
    show wpv K_X6_collect d P 39 [some (4, (p0 : Int)), some (0, x1), some (0, x2)] [] G R V
    refine wp_ld (i := (.aload_n 0)) (4, (p0 : Int)) rfl rfl (fun _ => rfl) rfl rfl (?_ : wpv K_X6_collect d P 40 [some (4, (p0 : Int)), some (0, x1), some (0, x2)] [(4, (p0 : Int))] G R V)
    refine wp_getA (k := 3) rfl rfl rfl (ly6_o l0) rfl rfl (ly6_3 l0).1 (?_ : wpv K_X6_collect d P 43 [some (4, (p0 : Int)), some (0, x1), some (0, x2)] [(4, ((p0 + 1 : Nat) : Int))] G R V)
    refine wp_ld (i := (.iload_n 1)) (0, x1) rfl rfl (fun _ => rfl) rfl rfl (?_ : wpv K_X6_collect d P 44 [some (4, (p0 : Int)), some (0, x1), some (0, x2)] [(0, x1), (4, ((p0 + 1 : Nat) : Int))] G R V)
    obtain ⟨s5, w⟩ := w
    have f6 : i32 (V (p0 + 1) x1) := vr_a0 vr1 (ly6_3 l0).2 s5
    replace w := w f6
    refine wp_aI rfl rfl (ly6_3 l0).2 s5 (?_ : wpv K_X6_collect d P 45 [some (4, (p0 : Int)), some (0, x1), some (0, x2)] [(0, (V (p0 + 1) x1))] G R V)
    refine wp_ld (i := (.aload_n 0)) (4, (p0 : Int)) rfl rfl (fun _ => rfl) rfl rfl (?_ : wpv K_X6_collect d P 46 [some (4, (p0 : Int)), some (0, x1), some (0, x2)] [(4, (p0 : Int)), (0, (V (p0 + 1) x1))] G R V)
    refine wp_getA (k := 7) rfl rfl rfl (ly6_o l0) rfl rfl (ly6_7 l0).1 (?_ : wpv K_X6_collect d P 49 [some (4, (p0 : Int)), some (0, x1), some (0, x2)] [(4, ((p0 + 5 : Nat) : Int)), (0, (V (p0 + 1) x1))] G R V)
    refine wp_ld (i := (.iload_n 2)) (0, x2) rfl rfl (fun _ => rfl) rfl rfl (?_ : wpv K_X6_collect d P 50 [some (4, (p0 : Int)), some (0, x1), some (0, x2)] [(0, x2), (4, ((p0 + 5 : Nat) : Int)), (0, (V (p0 + 1) x1))] G R V)
    obtain ⟨s7, w⟩ := w
    have f8 : i32 (V (p0 + 5) x2) := vr_a0 vr1 (ly6_7 l0).2 s7
    replace w := w f8
    refine wp_aI rfl rfl (ly6_7 l0).2 s7 (?_ : wpv K_X6_collect d P 51 [some (4, (p0 : Int)), some (0, x1), some (0, x2)] [(0, (V (p0 + 5) x2)), (0, (V (p0 + 1) x1))] G R V)
    refine wp_stat (as := [(0, (V (p0 + 1) x1)), (0, (V (p0 + 5) x2))]) (st := []) _ rfl rfl rfl (by omega) rfl rfl (Nat.le_of_ble_eq_true rfl) (cwv_kI w (fun v10 V9 w => ?_))
    show wpv K_X6_collect d P 54 [some (4, (p0 : Int)), some (0, x1), some (0, x2)] [(0, v10)] G R V9
    refine wp_sto (i := (.istore_n 3)) _ rfl rfl (fun _ => rfl) rfl rfl rfl ?_
    refine wp_wk (L' := [some (4, (p0 : Int)), some (0, x1), some (0, x2), some (0, v10)]) (wk_s (wk_s (wk_s (wk_s wk_0)))) ?_
    show wpv K_X6_collect d P 55 [some (4, (p0 : Int)), some (0, x1), some (0, x2), some (0, v10)] [] G R V9
    refine wp_ld (i := (.aload_n 0)) (4, (p0 : Int)) rfl rfl (fun _ => rfl) rfl rfl (?_ : wpv K_X6_collect d P 56 [some (4, (p0 : Int)), some (0, x1), some (0, x2), some (0, v10)] [(4, (p0 : Int))] G R V9)
    refine wp_getA (k := 3) rfl rfl rfl (ly6_o l0) rfl rfl (ly6_3 l0).1 (?_ : wpv K_X6_collect d P 59 [some (4, (p0 : Int)), some (0, x1), some (0, x2), some (0, v10)] [(4, ((p0 + 1 : Nat) : Int))] G R V9)
    refine wp_ld (i := (.aload_n 0)) (4, (p0 : Int)) rfl rfl (fun _ => rfl) rfl rfl (?_ : wpv K_X6_collect d P 60 [some (4, (p0 : Int)), some (0, x1), some (0, x2), some (0, v10)] [(4, (p0 : Int)), (4, ((p0 + 1 : Nat) : Int))] G R V9)
    refine wp_rng (fun vr11 => ?_)
    have f12 : i32 (V9 p0 1) := vr_f0 vr11 (ly6_o l0) rfl rfl
    replace w := w f12
    refine wp_getI (k := 1) rfl rfl rfl (ly6_o l0) rfl rfl (?_ : wpv K_X6_collect d P 63 [some (4, (p0 : Int)), some (0, x1), some (0, x2), some (0, v10)] [(0, (V9 p0 1)), (4, ((p0 + 1 : Nat) : Int))] G R V9)
    refine wp_ld (i := (.iload_n 3)) (0, v10) rfl rfl (fun _ => rfl) rfl rfl (?_ : wpv K_X6_collect d P 64 [some (4, (p0 : Int)), some (0, x1), some (0, x2), some (0, v10)] [(0, v10), (0, (V9 p0 1)), (4, ((p0 + 1 : Nat) : Int))] G R V9)
    refine wp_stat (as := [(4, ((p0 + 1 : Nat) : Int)), (0, (V9 p0 1)), (0, v10)]) (st := []) _ rfl rfl rfl (by omega) rfl rfl (Nat.le_of_ble_eq_true rfl) (cwv_kI w (fun v14 V13 w => ?_))
    show wpv K_X6_collect d P 67 [some (4, (p0 : Int)), some (0, x1), some (0, x2), some (0, v10)] [(0, v14)] G R V13
    refine wp_p (i := (.iconst (-1))) rfl rfl (fun _ _ _ => rfl) (?_ : wpv K_X6_collect d P 68 [some (4, (p0 : Int)), some (0, x1), some (0, x2), some (0, v10)] [(0, (-1)), (0, v14)] G R V13)
    obtain ⟨s15, w⟩ := w
    refine wp_icmp (c := .ne) 102 rfl rfl rfl s15 ⟨by omega, by omega⟩ (fun q => ?_) (fun q => ?_)
    · have q : ¬ v14 = (-1) := q
      replace w := w.1 q
      show wpv K_X6_collect d P 102 [some (4, (p0 : Int)), some (0, x1), some (0, x2), some (0, v10)] [] G R V13
      obtain ⟨s16, w⟩ := w
      refine wp_inc (x := 2) (k := 1) (a := x2) (c := (x2 + 1)) _ rfl rfl rfl rfl s16 (by omega) rfl ?_
      show wpv K_X6_collect d P 105 [some (4, (p0 : Int)), some (0, x1), some (0, (x2 + 1)), some (0, v10)] [] G R V13
      refine wp_go 31 rfl rfl rfl (?_ : wpv K_X6_collect d P 31 [some (4, (p0 : Int)), some (0, x1), some (0, (x2 + 1)), some (0, v10)] [] G R V13)
      exact wp_wk (wk_s (wk_s (wk_s wk_0))) w
    · have q : v14 = (-1) := Decidable.not_not.mp q
      replace w := w.2 q
      show wpv K_X6_collect d P 71 [some (4, (p0 : Int)), some (0, x1), some (0, x2), some (0, v10)] [] G R V13
      refine wp_ld (i := (.aload_n 0)) (4, (p0 : Int)) rfl rfl (fun _ => rfl) rfl rfl (?_ : wpv K_X6_collect d P 72 [some (4, (p0 : Int)), some (0, x1), some (0, x2), some (0, v10)] [(4, (p0 : Int))] G R V13)
      refine wp_rng (fun vr17 => ?_)
      have f18 : i32 (V13 p0 1) := vr_f0 vr17 (ly6_o l0) rfl rfl
      replace w := w f18
      refine wp_getI (k := 1) rfl rfl rfl (ly6_o l0) rfl rfl (?_ : wpv K_X6_collect d P 75 [some (4, (p0 : Int)), some (0, x1), some (0, x2), some (0, v10)] [(0, (V13 p0 1))] G R V13)
      refine wp_p (i := (.bipush 120)) rfl rfl (fun _ _ _ => rfl) (?_ : wpv K_X6_collect d P 77 [some (4, (p0 : Int)), some (0, x1), some (0, x2), some (0, v10)] [(0, 120), (0, (V13 p0 1))] G R V13)
      refine wp_icmp (c := .lt) 82 rfl rfl rfl f18 ⟨by omega, by omega⟩ (fun q => ?_) (fun q => ?_)
      · have q : (V13 p0 1) < 120 := q
        replace w := w.1 q
        show wpv K_X6_collect d P 82 [some (4, (p0 : Int)), some (0, x1), some (0, x2), some (0, v10)] [] G R V13
        refine wp_ld (i := (.aload_n 0)) (4, (p0 : Int)) rfl rfl (fun _ => rfl) rfl rfl (?_ : wpv K_X6_collect d P 83 [some (4, (p0 : Int)), some (0, x1), some (0, x2), some (0, v10)] [(4, (p0 : Int))] G R V13)
        refine wp_getA (k := 3) rfl rfl rfl (ly6_o l0) rfl rfl (ly6_3 l0).1 (?_ : wpv K_X6_collect d P 86 [some (4, (p0 : Int)), some (0, x1), some (0, x2), some (0, v10)] [(4, ((p0 + 1 : Nat) : Int))] G R V13)
        refine wp_ld (i := (.aload_n 0)) (4, (p0 : Int)) rfl rfl (fun _ => rfl) rfl rfl (?_ : wpv K_X6_collect d P 87 [some (4, (p0 : Int)), some (0, x1), some (0, x2), some (0, v10)] [(4, (p0 : Int)), (4, ((p0 + 1 : Nat) : Int))] G R V13)
        refine wp_getI (k := 1) rfl rfl rfl (ly6_o l0) rfl rfl (?_ : wpv K_X6_collect d P 90 [some (4, (p0 : Int)), some (0, x1), some (0, x2), some (0, v10)] [(0, (V13 p0 1)), (4, ((p0 + 1 : Nat) : Int))] G R V13)
        refine wp_ld (i := (.iload_n 3)) (0, v10) rfl rfl (fun _ => rfl) rfl rfl (?_ : wpv K_X6_collect d P 91 [some (4, (p0 : Int)), some (0, x1), some (0, x2), some (0, v10)] [(0, v10), (0, (V13 p0 1)), (4, ((p0 + 1 : Nat) : Int))] G R V13)
        obtain ⟨s19, w⟩ := w
        obtain ⟨s20, w⟩ := w
        refine wp_sI rfl rfl (ly6_3 l0).2 s19 s20 (?_ : wpv K_X6_collect d P 92 [some (4, (p0 : Int)), some (0, x1), some (0, x2), some (0, v10)] [] G R (wr V13 (p0 + 1) ((V13 p0 1)) v10))
        refine wp_ld (i := (.aload_n 0)) (4, (p0 : Int)) rfl rfl (fun _ => rfl) rfl rfl (?_ : wpv K_X6_collect d P 93 [some (4, (p0 : Int)), some (0, x1), some (0, x2), some (0, v10)] [(4, (p0 : Int))] G R (wr V13 (p0 + 1) ((V13 p0 1)) v10))
        refine wp_p (i := .dup) rfl rfl (fun _ _ _ => rfl) (?_ : wpv K_X6_collect d P 94 [some (4, (p0 : Int)), some (0, x1), some (0, x2), some (0, v10)] [(4, (p0 : Int)), (4, (p0 : Int))] G R (wr V13 (p0 + 1) ((V13 p0 1)) v10))
        refine wp_rng (fun vr21 => ?_)
        have r22 : ((wr V13 (p0 + 1) ((V13 p0 1)) v10) p0 1) = (V13 p0 1) := (wr_a (by omega))
        refine wp_getIe (k := 1) rfl rfl rfl (ly6_o l0) rfl rfl r22 (?_ : wpv K_X6_collect d P 97 [some (4, (p0 : Int)), some (0, x1), some (0, x2), some (0, v10)] [(0, (V13 p0 1)), (4, (p0 : Int))] G R (wr V13 (p0 + 1) ((V13 p0 1)) v10))
        refine wp_p (i := (.iconst 1)) rfl rfl (fun _ _ _ => rfl) (?_ : wpv K_X6_collect d P 98 [some (4, (p0 : Int)), some (0, x1), some (0, x2), some (0, v10)] [(0, 1), (0, (V13 p0 1)), (4, (p0 : Int))] G R (wr V13 (p0 + 1) ((V13 p0 1)) v10))
        obtain ⟨s23, w⟩ := w
        refine wp_xadd rfl rfl s23 (?_ : wpv K_X6_collect d P 99 [some (4, (p0 : Int)), some (0, x1), some (0, x2), some (0, v10)] [(0, ((V13 p0 1) + 1)), (4, (p0 : Int))] G R (wr V13 (p0 + 1) ((V13 p0 1)) v10))
        refine wp_putI (k := 1) rfl rfl rfl (ly6_o l0) rfl rfl rfl s23 (?_ : wpv K_X6_collect d P 102 [some (4, (p0 : Int)), some (0, x1), some (0, x2), some (0, v10)] [] G R (wr (wr V13 (p0 + 1) ((V13 p0 1)) v10) p0 1 (((V13 p0 1) + 1))))
        obtain ⟨s24, w⟩ := w
        refine wp_inc (x := 2) (k := 1) (a := x2) (c := (x2 + 1)) _ rfl rfl rfl rfl s24 (by omega) rfl ?_
        show wpv K_X6_collect d P 105 [some (4, (p0 : Int)), some (0, x1), some (0, (x2 + 1)), some (0, v10)] [] G R (wr (wr V13 (p0 + 1) ((V13 p0 1)) v10) p0 1 (((V13 p0 1) + 1)))
        refine wp_go 31 rfl rfl rfl (?_ : wpv K_X6_collect d P 31 [some (4, (p0 : Int)), some (0, x1), some (0, (x2 + 1)), some (0, v10)] [] G R (wr (wr V13 (p0 + 1) ((V13 p0 1)) v10) p0 1 (((V13 p0 1) + 1))))
        exact wp_wk (wk_s (wk_s (wk_s wk_0))) w
      · have q : ¬ (V13 p0 1) < 120 := q
        replace w := w.2 q
        show wpv K_X6_collect d P 80 [some (4, (p0 : Int)), some (0, x1), some (0, x2), some (0, v10)] [] G R V13
        refine wp_p (i := (.iconst 0)) rfl rfl (fun _ _ _ => rfl) (?_ : wpv K_X6_collect d P 81 [some (4, (p0 : Int)), some (0, x1), some (0, x2), some (0, v10)] [(0, 0)] G R V13)
        exact wp_rB rfl rfl rfl (by omega) w
theorem t_X6_sortCodes_0 {d : Nat} {P : gP} {p0 : Nat} {G : List gS} {R V : gV} (l0 : lay6 G R p0) (w : wpv K_X6_sortCodes d P 2 [some (4, (p0 : Int)), some (0, 1)] [] G R V) : wpv K_X6_sortCodes d P 0 [some (4, (p0 : Int))] [] G R V := by
  refine wp_p (i := (.iconst 1)) rfl rfl (fun _ _ _ => rfl) (?_ : wpv K_X6_sortCodes d P 1 [some (4, (p0 : Int))] [(0, 1)] G R V)
  refine wp_sto (i := (.istore_n 1)) _ rfl rfl (fun _ => rfl) rfl rfl rfl ?_
  refine wp_wk (L' := [some (4, (p0 : Int)), some (0, 1)]) (wk_s (wk_s wk_0)) ?_
  show wpv K_X6_sortCodes d P 2 [some (4, (p0 : Int)), some (0, 1)] [] G R V
  exact wp_wk (wk_s (wk_s wk_0)) w

theorem t_X6_sortCodes_2 {d : Nat} {P : gP} {p0 : Nat} {x1 : Int} {G : List gS} {R V : gV} (l0 : lay6 G R p0) (w : ((i32 (V p0 1)) → ((i32 x1) ∧ (((¬ x1 < (V p0 1)) → P none V) ∧ ((x1 < (V p0 1)) → ((0 ≤ x1 ∧ x1 < 120) ∧ ((i32 (V (p0 + 1) x1)) → wpv K_X6_sortCodes d P 19 [some (4, (p0 : Int)), some (0, x1), some (0, (V (p0 + 1) x1)), some (0, x1)] [] G R V))))))) : wpv K_X6_sortCodes d P 2 [some (4, (p0 : Int)), some (0, x1)] [] G R V := by
  refine wp_ld (i := (.iload_n 1)) (0, x1) rfl rfl (fun _ => rfl) rfl rfl (?_ : wpv K_X6_sortCodes d P 3 [some (4, (p0 : Int)), some (0, x1)] [(0, x1)] G R V)
  refine wp_ld (i := (.aload_n 0)) (4, (p0 : Int)) rfl rfl (fun _ => rfl) rfl rfl (?_ : wpv K_X6_sortCodes d P 4 [some (4, (p0 : Int)), some (0, x1)] [(4, (p0 : Int)), (0, x1)] G R V)
  refine wp_rng (fun vr1 => ?_)
  have f2 : i32 (V p0 1) := vr_f0 vr1 (ly6_o l0) rfl rfl
  replace w := w f2
  refine wp_getI (k := 1) rfl rfl rfl (ly6_o l0) rfl rfl (?_ : wpv K_X6_sortCodes d P 7 [some (4, (p0 : Int)), some (0, x1)] [(0, (V p0 1)), (0, x1)] G R V)
  obtain ⟨s3, w⟩ := w
  refine wp_icmp (c := .ge) 68 rfl rfl rfl s3 f2 (fun q => ?_) (fun q => ?_)
  · have q : ¬ x1 < (V p0 1) := q
    replace w := w.1 q
    show wpv K_X6_sortCodes d P 68 [some (4, (p0 : Int)), some (0, x1)] [] G R V
    exact wp_r0 rfl rfl rfl w
  · have q : x1 < (V p0 1) := Decidable.not_not.mp q
    replace w := w.2 q
    show wpv K_X6_sortCodes d P 10 [some (4, (p0 : Int)), some (0, x1)] [] G R V
    refine wp_ld (i := (.aload_n 0)) (4, (p0 : Int)) rfl rfl (fun _ => rfl) rfl rfl (?_ : wpv K_X6_sortCodes d P 11 [some (4, (p0 : Int)), some (0, x1)] [(4, (p0 : Int))] G R V)
    refine wp_getA (k := 3) rfl rfl rfl (ly6_o l0) rfl rfl (ly6_3 l0).1 (?_ : wpv K_X6_sortCodes d P 14 [some (4, (p0 : Int)), some (0, x1)] [(4, ((p0 + 1 : Nat) : Int))] G R V)
    refine wp_ld (i := (.iload_n 1)) (0, x1) rfl rfl (fun _ => rfl) rfl rfl (?_ : wpv K_X6_sortCodes d P 15 [some (4, (p0 : Int)), some (0, x1)] [(0, x1), (4, ((p0 + 1 : Nat) : Int))] G R V)
    obtain ⟨s4, w⟩ := w
    have f5 : i32 (V (p0 + 1) x1) := vr_a0 vr1 (ly6_3 l0).2 s4
    replace w := w f5
    refine wp_aI rfl rfl (ly6_3 l0).2 s4 (?_ : wpv K_X6_sortCodes d P 16 [some (4, (p0 : Int)), some (0, x1)] [(0, (V (p0 + 1) x1))] G R V)
    refine wp_sto (i := (.istore_n 2)) _ rfl rfl (fun _ => rfl) rfl rfl rfl ?_
    refine wp_wk (L' := [some (4, (p0 : Int)), some (0, x1), some (0, (V (p0 + 1) x1))]) (wk_s (wk_s (wk_s wk_0))) ?_
    show wpv K_X6_sortCodes d P 17 [some (4, (p0 : Int)), some (0, x1), some (0, (V (p0 + 1) x1))] [] G R V
    refine wp_ld (i := (.iload_n 1)) (0, x1) rfl rfl (fun _ => rfl) rfl rfl (?_ : wpv K_X6_sortCodes d P 18 [some (4, (p0 : Int)), some (0, x1), some (0, (V (p0 + 1) x1))] [(0, x1)] G R V)
    refine wp_sto (i := (.istore_n 3)) _ rfl rfl (fun _ => rfl) rfl rfl rfl ?_
    refine wp_wk (L' := [some (4, (p0 : Int)), some (0, x1), some (0, (V (p0 + 1) x1)), some (0, x1)]) (wk_s (wk_s (wk_s (wk_s wk_0)))) ?_
    show wpv K_X6_sortCodes d P 19 [some (4, (p0 : Int)), some (0, x1), some (0, (V (p0 + 1) x1)), some (0, x1)] [] G R V
    exact wp_wk (wk_s (wk_s (wk_s (wk_s wk_0)))) w

theorem t_X6_sortCodes_19 {d : Nat} {P : gP} {p0 : Nat} {x1 : Int} {x2 : Int} {x3 : Int} {G : List gS} {R V : gV} (l0 : lay6 G R p0) (w : ((i32 x3) ∧ (((¬ 0 < x3) → ((0 ≤ x3 ∧ x3 < 120) ∧ ((i32 x2) ∧ ((i32 (x1 + 1)) ∧ wpv K_X6_sortCodes d P 2 [some (4, (p0 : Int)), some (0, (x1 + 1))] [] G R (wr V (p0 + 1) x3 x2))))) ∧ ((0 < x3) → ((i32 (x3 - 1)) ∧ ((0 ≤ (x3 - 1) ∧ (x3 - 1) < 120) ∧ ((i32 (V (p0 + 1) ((x3 - 1)))) → ((i32 x2) ∧ (((¬ x2 < (V (p0 + 1) ((x3 - 1)))) → ((0 ≤ x3 ∧ x3 < 120) ∧ ((i32 (x1 + 1)) ∧ wpv K_X6_sortCodes d P 2 [some (4, (p0 : Int)), some (0, (x1 + 1))] [] G R (wr V (p0 + 1) x3 x2)))) ∧ ((x2 < (V (p0 + 1) ((x3 - 1)))) → ((0 ≤ x3 ∧ x3 < 120) ∧ ((i32 (x3 - 1)) ∧ wpv K_X6_sortCodes d P 19 [some (4, (p0 : Int)), some (0, x1), some (0, x2), some (0, (x3 - 1))] [] G R (wr V (p0 + 1) x3 ((V (p0 + 1) ((x3 - 1))))))))))))))))) : wpv K_X6_sortCodes d P 19 [some (4, (p0 : Int)), some (0, x1), some (0, x2), some (0, x3)] [] G R V := by
  refine wp_ld (i := (.iload_n 3)) (0, x3) rfl rfl (fun _ => rfl) rfl rfl (?_ : wpv K_X6_sortCodes d P 20 [some (4, (p0 : Int)), some (0, x1), some (0, x2), some (0, x3)] [(0, x3)] G R V)
  obtain ⟨s1, w⟩ := w
  refine wp_if (c := .le) 55 rfl rfl rfl s1 (fun q => ?_) (fun q => ?_)
  · have q : ¬ 0 < x3 := q
    replace w := w.1 q
    show wpv K_X6_sortCodes d P 55 [some (4, (p0 : Int)), some (0, x1), some (0, x2), some (0, x3)] [] G R V
    refine wp_ld (i := (.aload_n 0)) (4, (p0 : Int)) rfl rfl (fun _ => rfl) rfl rfl (?_ : wpv K_X6_sortCodes d P 56 [some (4, (p0 : Int)), some (0, x1), some (0, x2), some (0, x3)] [(4, (p0 : Int))] G R V)
    refine wp_getA (k := 3) rfl rfl rfl (ly6_o l0) rfl rfl (ly6_3 l0).1 (?_ : wpv K_X6_sortCodes d P 59 [some (4, (p0 : Int)), some (0, x1), some (0, x2), some (0, x3)] [(4, ((p0 + 1 : Nat) : Int))] G R V)
    refine wp_ld (i := (.iload_n 3)) (0, x3) rfl rfl (fun _ => rfl) rfl rfl (?_ : wpv K_X6_sortCodes d P 60 [some (4, (p0 : Int)), some (0, x1), some (0, x2), some (0, x3)] [(0, x3), (4, ((p0 + 1 : Nat) : Int))] G R V)
    refine wp_ld (i := (.iload_n 2)) (0, x2) rfl rfl (fun _ => rfl) rfl rfl (?_ : wpv K_X6_sortCodes d P 61 [some (4, (p0 : Int)), some (0, x1), some (0, x2), some (0, x3)] [(0, x2), (0, x3), (4, ((p0 + 1 : Nat) : Int))] G R V)
    obtain ⟨s2, w⟩ := w
    obtain ⟨s3, w⟩ := w
    refine wp_sI rfl rfl (ly6_3 l0).2 s2 s3 (?_ : wpv K_X6_sortCodes d P 62 [some (4, (p0 : Int)), some (0, x1), some (0, x2), some (0, x3)] [] G R (wr V (p0 + 1) x3 x2))
    obtain ⟨s4, w⟩ := w
    refine wp_inc (x := 1) (k := 1) (a := x1) (c := (x1 + 1)) _ rfl rfl rfl rfl s4 (by omega) rfl ?_
    show wpv K_X6_sortCodes d P 65 [some (4, (p0 : Int)), some (0, (x1 + 1)), some (0, x2), some (0, x3)] [] G R (wr V (p0 + 1) x3 x2)
    refine wp_go 2 rfl rfl rfl (?_ : wpv K_X6_sortCodes d P 2 [some (4, (p0 : Int)), some (0, (x1 + 1)), some (0, x2), some (0, x3)] [] G R (wr V (p0 + 1) x3 x2))
    exact wp_wk (wk_s (wk_s wk_0)) w
  · have q : 0 < x3 := Decidable.not_not.mp q
    replace w := w.2 q
    show wpv K_X6_sortCodes d P 23 [some (4, (p0 : Int)), some (0, x1), some (0, x2), some (0, x3)] [] G R V
    refine wp_ld (i := (.aload_n 0)) (4, (p0 : Int)) rfl rfl (fun _ => rfl) rfl rfl (?_ : wpv K_X6_sortCodes d P 24 [some (4, (p0 : Int)), some (0, x1), some (0, x2), some (0, x3)] [(4, (p0 : Int))] G R V)
    refine wp_getA (k := 3) rfl rfl rfl (ly6_o l0) rfl rfl (ly6_3 l0).1 (?_ : wpv K_X6_sortCodes d P 27 [some (4, (p0 : Int)), some (0, x1), some (0, x2), some (0, x3)] [(4, ((p0 + 1 : Nat) : Int))] G R V)
    refine wp_ld (i := (.iload_n 3)) (0, x3) rfl rfl (fun _ => rfl) rfl rfl (?_ : wpv K_X6_sortCodes d P 28 [some (4, (p0 : Int)), some (0, x1), some (0, x2), some (0, x3)] [(0, x3), (4, ((p0 + 1 : Nat) : Int))] G R V)
    refine wp_p (i := (.iconst 1)) rfl rfl (fun _ _ _ => rfl) (?_ : wpv K_X6_sortCodes d P 29 [some (4, (p0 : Int)), some (0, x1), some (0, x2), some (0, x3)] [(0, 1), (0, x3), (4, ((p0 + 1 : Nat) : Int))] G R V)
    obtain ⟨s5, w⟩ := w
    refine wp_xsub rfl rfl s5 (?_ : wpv K_X6_sortCodes d P 30 [some (4, (p0 : Int)), some (0, x1), some (0, x2), some (0, x3)] [(0, (x3 - 1)), (4, ((p0 + 1 : Nat) : Int))] G R V)
    obtain ⟨s6, w⟩ := w
    refine wp_rng (fun vr7 => ?_)
    have f8 : i32 (V (p0 + 1) ((x3 - 1))) := vr_a0 vr7 (ly6_3 l0).2 s6
    replace w := w f8
    refine wp_aI rfl rfl (ly6_3 l0).2 s6 (?_ : wpv K_X6_sortCodes d P 31 [some (4, (p0 : Int)), some (0, x1), some (0, x2), some (0, x3)] [(0, (V (p0 + 1) ((x3 - 1))))] G R V)
    refine wp_ld (i := (.iload_n 2)) (0, x2) rfl rfl (fun _ => rfl) rfl rfl (?_ : wpv K_X6_sortCodes d P 32 [some (4, (p0 : Int)), some (0, x1), some (0, x2), some (0, x3)] [(0, x2), (0, (V (p0 + 1) ((x3 - 1))))] G R V)
    obtain ⟨s9, w⟩ := w
    refine wp_icmp (c := .le) 55 rfl rfl rfl f8 s9 (fun q => ?_) (fun q => ?_)
    · have q : ¬ x2 < (V (p0 + 1) ((x3 - 1))) := q
      replace w := w.1 q
      show wpv K_X6_sortCodes d P 55 [some (4, (p0 : Int)), some (0, x1), some (0, x2), some (0, x3)] [] G R V
      refine wp_ld (i := (.aload_n 0)) (4, (p0 : Int)) rfl rfl (fun _ => rfl) rfl rfl (?_ : wpv K_X6_sortCodes d P 56 [some (4, (p0 : Int)), some (0, x1), some (0, x2), some (0, x3)] [(4, (p0 : Int))] G R V)
      refine wp_getA (k := 3) rfl rfl rfl (ly6_o l0) rfl rfl (ly6_3 l0).1 (?_ : wpv K_X6_sortCodes d P 59 [some (4, (p0 : Int)), some (0, x1), some (0, x2), some (0, x3)] [(4, ((p0 + 1 : Nat) : Int))] G R V)
      refine wp_ld (i := (.iload_n 3)) (0, x3) rfl rfl (fun _ => rfl) rfl rfl (?_ : wpv K_X6_sortCodes d P 60 [some (4, (p0 : Int)), some (0, x1), some (0, x2), some (0, x3)] [(0, x3), (4, ((p0 + 1 : Nat) : Int))] G R V)
      refine wp_ld (i := (.iload_n 2)) (0, x2) rfl rfl (fun _ => rfl) rfl rfl (?_ : wpv K_X6_sortCodes d P 61 [some (4, (p0 : Int)), some (0, x1), some (0, x2), some (0, x3)] [(0, x2), (0, x3), (4, ((p0 + 1 : Nat) : Int))] G R V)
      obtain ⟨s10, w⟩ := w
      refine wp_sI rfl rfl (ly6_3 l0).2 s10 s9 (?_ : wpv K_X6_sortCodes d P 62 [some (4, (p0 : Int)), some (0, x1), some (0, x2), some (0, x3)] [] G R (wr V (p0 + 1) x3 x2))
      obtain ⟨s11, w⟩ := w
      refine wp_inc (x := 1) (k := 1) (a := x1) (c := (x1 + 1)) _ rfl rfl rfl rfl s11 (by omega) rfl ?_
      show wpv K_X6_sortCodes d P 65 [some (4, (p0 : Int)), some (0, (x1 + 1)), some (0, x2), some (0, x3)] [] G R (wr V (p0 + 1) x3 x2)
      refine wp_go 2 rfl rfl rfl (?_ : wpv K_X6_sortCodes d P 2 [some (4, (p0 : Int)), some (0, (x1 + 1)), some (0, x2), some (0, x3)] [] G R (wr V (p0 + 1) x3 x2))
      exact wp_wk (wk_s (wk_s wk_0)) w
    · have q : x2 < (V (p0 + 1) ((x3 - 1))) := Decidable.not_not.mp q
      replace w := w.2 q
      show wpv K_X6_sortCodes d P 35 [some (4, (p0 : Int)), some (0, x1), some (0, x2), some (0, x3)] [] G R V
      refine wp_ld (i := (.aload_n 0)) (4, (p0 : Int)) rfl rfl (fun _ => rfl) rfl rfl (?_ : wpv K_X6_sortCodes d P 36 [some (4, (p0 : Int)), some (0, x1), some (0, x2), some (0, x3)] [(4, (p0 : Int))] G R V)
      refine wp_getA (k := 3) rfl rfl rfl (ly6_o l0) rfl rfl (ly6_3 l0).1 (?_ : wpv K_X6_sortCodes d P 39 [some (4, (p0 : Int)), some (0, x1), some (0, x2), some (0, x3)] [(4, ((p0 + 1 : Nat) : Int))] G R V)
      refine wp_ld (i := (.iload_n 3)) (0, x3) rfl rfl (fun _ => rfl) rfl rfl (?_ : wpv K_X6_sortCodes d P 40 [some (4, (p0 : Int)), some (0, x1), some (0, x2), some (0, x3)] [(0, x3), (4, ((p0 + 1 : Nat) : Int))] G R V)
      refine wp_ld (i := (.aload_n 0)) (4, (p0 : Int)) rfl rfl (fun _ => rfl) rfl rfl (?_ : wpv K_X6_sortCodes d P 41 [some (4, (p0 : Int)), some (0, x1), some (0, x2), some (0, x3)] [(4, (p0 : Int)), (0, x3), (4, ((p0 + 1 : Nat) : Int))] G R V)
      refine wp_getA (k := 3) rfl rfl rfl (ly6_o l0) rfl rfl (ly6_3 l0).1 (?_ : wpv K_X6_sortCodes d P 44 [some (4, (p0 : Int)), some (0, x1), some (0, x2), some (0, x3)] [(4, ((p0 + 1 : Nat) : Int)), (0, x3), (4, ((p0 + 1 : Nat) : Int))] G R V)
      refine wp_ld (i := (.iload_n 3)) (0, x3) rfl rfl (fun _ => rfl) rfl rfl (?_ : wpv K_X6_sortCodes d P 45 [some (4, (p0 : Int)), some (0, x1), some (0, x2), some (0, x3)] [(0, x3), (4, ((p0 + 1 : Nat) : Int)), (0, x3), (4, ((p0 + 1 : Nat) : Int))] G R V)
      refine wp_p (i := (.iconst 1)) rfl rfl (fun _ _ _ => rfl) (?_ : wpv K_X6_sortCodes d P 46 [some (4, (p0 : Int)), some (0, x1), some (0, x2), some (0, x3)] [(0, 1), (0, x3), (4, ((p0 + 1 : Nat) : Int)), (0, x3), (4, ((p0 + 1 : Nat) : Int))] G R V)
      refine wp_xsub rfl rfl s5 (?_ : wpv K_X6_sortCodes d P 47 [some (4, (p0 : Int)), some (0, x1), some (0, x2), some (0, x3)] [(0, (x3 - 1)), (4, ((p0 + 1 : Nat) : Int)), (0, x3), (4, ((p0 + 1 : Nat) : Int))] G R V)
      refine wp_aI rfl rfl (ly6_3 l0).2 s6 (?_ : wpv K_X6_sortCodes d P 48 [some (4, (p0 : Int)), some (0, x1), some (0, x2), some (0, x3)] [(0, (V (p0 + 1) ((x3 - 1)))), (0, x3), (4, ((p0 + 1 : Nat) : Int))] G R V)
      obtain ⟨s12, w⟩ := w
      refine wp_sI rfl rfl (ly6_3 l0).2 s12 f8 (?_ : wpv K_X6_sortCodes d P 49 [some (4, (p0 : Int)), some (0, x1), some (0, x2), some (0, x3)] [] G R (wr V (p0 + 1) x3 ((V (p0 + 1) ((x3 - 1))))))
      obtain ⟨s13, w⟩ := w
      refine wp_inc (x := 3) (k := -1) (a := x3) (c := (x3 - 1)) _ rfl rfl rfl rfl (by have := s13; unfold i32 at *; omega) (by omega) rfl ?_
      show wpv K_X6_sortCodes d P 52 [some (4, (p0 : Int)), some (0, x1), some (0, x2), some (0, (x3 - 1))] [] G R (wr V (p0 + 1) x3 ((V (p0 + 1) ((x3 - 1)))))
      refine wp_go 19 rfl rfl rfl (?_ : wpv K_X6_sortCodes d P 19 [some (4, (p0 : Int)), some (0, x1), some (0, x2), some (0, (x3 - 1))] [] G R (wr V (p0 + 1) x3 ((V (p0 + 1) ((x3 - 1))))))
      exact wp_wk (wk_s (wk_s (wk_s (wk_s wk_0)))) w
theorem t_X6_fillSteps_0 {d : Nat} {P : gP} {p0 : Nat} {G : List gS} {R V : gV} (l0 : lay6 G R p0) (w : wpv K_X6_fillSteps d P 2 [some (4, (p0 : Int)), some (0, 0)] [] G R V) : wpv K_X6_fillSteps d P 0 [some (4, (p0 : Int))] [] G R V := by
  refine wp_p (i := (.iconst 0)) rfl rfl (fun _ _ _ => rfl) (?_ : wpv K_X6_fillSteps d P 1 [some (4, (p0 : Int))] [(0, 0)] G R V)
  refine wp_sto (i := (.istore_n 1)) _ rfl rfl (fun _ => rfl) rfl rfl rfl ?_
  refine wp_wk (L' := [some (4, (p0 : Int)), some (0, 0)]) (wk_s (wk_s wk_0)) ?_
  show wpv K_X6_fillSteps d P 2 [some (4, (p0 : Int)), some (0, 0)] [] G R V
  exact wp_wk (wk_s (wk_s wk_0)) w

theorem t_X6_fillSteps_2 {d : Nat} {P : gP} {p0 : Nat} {x1 : Int} {G : List gS} {R V : gV} (l0 : lay6 G R p0) (w : ((i32 (V p0 2)) → ((i32 x1) ∧ (((¬ x1 < (V p0 2)) → P none V) ∧ ((x1 < (V p0 2)) → wpv K_X6_fillSteps d P 12 [some (4, (p0 : Int)), some (0, x1), some (0, 0)] [] G R V))))) : wpv K_X6_fillSteps d P 2 [some (4, (p0 : Int)), some (0, x1)] [] G R V := by
  refine wp_ld (i := (.iload_n 1)) (0, x1) rfl rfl (fun _ => rfl) rfl rfl (?_ : wpv K_X6_fillSteps d P 3 [some (4, (p0 : Int)), some (0, x1)] [(0, x1)] G R V)
  refine wp_ld (i := (.aload_n 0)) (4, (p0 : Int)) rfl rfl (fun _ => rfl) rfl rfl (?_ : wpv K_X6_fillSteps d P 4 [some (4, (p0 : Int)), some (0, x1)] [(4, (p0 : Int)), (0, x1)] G R V)
  refine wp_rng (fun vr1 => ?_)
  have f2 : i32 (V p0 2) := vr_f0 vr1 (ly6_o l0) rfl rfl
  replace w := w f2
  refine wp_getI (k := 2) rfl rfl rfl (ly6_o l0) rfl rfl (?_ : wpv K_X6_fillSteps d P 7 [some (4, (p0 : Int)), some (0, x1)] [(0, (V p0 2)), (0, x1)] G R V)
  obtain ⟨s3, w⟩ := w
  refine wp_icmp (c := .ge) 62 rfl rfl rfl s3 f2 (fun q => ?_) (fun q => ?_)
  · have q : ¬ x1 < (V p0 2) := q
    replace w := w.1 q
    show wpv K_X6_fillSteps d P 62 [some (4, (p0 : Int)), some (0, x1)] [] G R V
    exact wp_r0 rfl rfl rfl w
  · have q : x1 < (V p0 2) := Decidable.not_not.mp q
    replace w := w.2 q
    show wpv K_X6_fillSteps d P 10 [some (4, (p0 : Int)), some (0, x1)] [] G R V
    refine wp_p (i := (.iconst 0)) rfl rfl (fun _ _ _ => rfl) (?_ : wpv K_X6_fillSteps d P 11 [some (4, (p0 : Int)), some (0, x1)] [(0, 0)] G R V)
    refine wp_sto (i := (.istore_n 2)) _ rfl rfl (fun _ => rfl) rfl rfl rfl ?_
    refine wp_wk (L' := [some (4, (p0 : Int)), some (0, x1), some (0, 0)]) (wk_s (wk_s (wk_s wk_0))) ?_
    show wpv K_X6_fillSteps d P 12 [some (4, (p0 : Int)), some (0, x1), some (0, 0)] [] G R V
    exact wp_wk (wk_s (wk_s (wk_s wk_0))) w

theorem t_X6_fillSteps_12 {d : Nat} {P : gP} {p0 : Nat} {x1 : Int} {x2 : Int} {G : List gS} {R V : gV} (l0 : lay6 G R p0) (w : ((i32 (V p0 1)) → ((i32 x2) ∧ (((¬ x2 < (V p0 1)) → ((i32 (x1 + 1)) ∧ wpv K_X6_fillSteps d P 2 [some (4, (p0 : Int)), some (0, (x1 + 1))] [] G R V)) ∧ ((x2 < (V p0 1)) → ((i32 (x1 * 120)) ∧ ((i32 ((x1 * 120) + x2)) ∧ ((0 ≤ x2 ∧ x2 < 120) ∧ ((i32 (V (p0 + 1) x2)) → ((0 ≤ x1 ∧ x1 < 4) ∧ ((i32 (V (p0 + 5) x1)) → cwv d (fun r V11 => ∃ v12 : Int, r = some (0, v12) ∧ cwv d (fun r V13 => ∃ v14 : Int, r = some (0, v14) ∧ ((0 ≤ ((x1 * 120) + x2) ∧ ((x1 * 120) + x2) < 480) ∧ ((i32 v14) ∧ ((i32 (x2 + 1)) ∧ wpv K_X6_fillSteps d P 12 [some (4, (p0 : Int)), some (0, x1), some (0, (x2 + 1))] [] G R (wr V13 (p0 + 4) (((x1 * 120) + x2)) v14))))) 98 [(4, (p0 : Int)), (0, v12)] G R V11) 148 [(0, (V (p0 + 1) x2)), (0, (V (p0 + 5) x1))] G R V))))))))))) : wpv K_X6_fillSteps d P 12 [some (4, (p0 : Int)), some (0, x1), some (0, x2)] [] G R V := by
  refine wp_ld (i := (.iload_n 2)) (0, x2) rfl rfl (fun _ => rfl) rfl rfl (?_ : wpv K_X6_fillSteps d P 13 [some (4, (p0 : Int)), some (0, x1), some (0, x2)] [(0, x2)] G R V)
  refine wp_ld (i := (.aload_n 0)) (4, (p0 : Int)) rfl rfl (fun _ => rfl) rfl rfl (?_ : wpv K_X6_fillSteps d P 14 [some (4, (p0 : Int)), some (0, x1), some (0, x2)] [(4, (p0 : Int)), (0, x2)] G R V)
  refine wp_rng (fun vr1 => ?_)
  have f2 : i32 (V p0 1) := vr_f0 vr1 (ly6_o l0) rfl rfl
  replace w := w f2
  refine wp_getI (k := 1) rfl rfl rfl (ly6_o l0) rfl rfl (?_ : wpv K_X6_fillSteps d P 17 [some (4, (p0 : Int)), some (0, x1), some (0, x2)] [(0, (V p0 1)), (0, x2)] G R V)
  obtain ⟨s3, w⟩ := w
  refine wp_icmp (c := .ge) 56 rfl rfl rfl s3 f2 (fun q => ?_) (fun q => ?_)
  · have q : ¬ x2 < (V p0 1) := q
    replace w := w.1 q
    show wpv K_X6_fillSteps d P 56 [some (4, (p0 : Int)), some (0, x1), some (0, x2)] [] G R V
    obtain ⟨s4, w⟩ := w
    refine wp_inc (x := 1) (k := 1) (a := x1) (c := (x1 + 1)) _ rfl rfl rfl rfl s4 (by omega) rfl ?_
    show wpv K_X6_fillSteps d P 59 [some (4, (p0 : Int)), some (0, (x1 + 1)), some (0, x2)] [] G R V
    refine wp_go 2 rfl rfl rfl (?_ : wpv K_X6_fillSteps d P 2 [some (4, (p0 : Int)), some (0, (x1 + 1)), some (0, x2)] [] G R V)
    exact wp_wk (wk_s (wk_s wk_0)) w
  · have q : x2 < (V p0 1) := Decidable.not_not.mp q
    replace w := w.2 q
    show wpv K_X6_fillSteps d P 20 [some (4, (p0 : Int)), some (0, x1), some (0, x2)] [] G R V
    refine wp_ld (i := (.aload_n 0)) (4, (p0 : Int)) rfl rfl (fun _ => rfl) rfl rfl (?_ : wpv K_X6_fillSteps d P 21 [some (4, (p0 : Int)), some (0, x1), some (0, x2)] [(4, (p0 : Int))] G R V)
    refine wp_getA (k := 6) rfl rfl rfl (ly6_o l0) rfl rfl (ly6_6 l0).1 (?_ : wpv K_X6_fillSteps d P 24 [some (4, (p0 : Int)), some (0, x1), some (0, x2)] [(4, ((p0 + 4 : Nat) : Int))] G R V)
    refine wp_ld (i := (.iload_n 1)) (0, x1) rfl rfl (fun _ => rfl) rfl rfl (?_ : wpv K_X6_fillSteps d P 25 [some (4, (p0 : Int)), some (0, x1), some (0, x2)] [(0, x1), (4, ((p0 + 4 : Nat) : Int))] G R V)
    refine wp_p (i := (.bipush 120)) rfl rfl (fun _ _ _ => rfl) (?_ : wpv K_X6_fillSteps d P 27 [some (4, (p0 : Int)), some (0, x1), some (0, x2)] [(0, 120), (0, x1), (4, ((p0 + 4 : Nat) : Int))] G R V)
    obtain ⟨s5, w⟩ := w
    refine wp_xmul rfl rfl s5 (?_ : wpv K_X6_fillSteps d P 28 [some (4, (p0 : Int)), some (0, x1), some (0, x2)] [(0, (x1 * 120)), (4, ((p0 + 4 : Nat) : Int))] G R V)
    refine wp_ld (i := (.iload_n 2)) (0, x2) rfl rfl (fun _ => rfl) rfl rfl (?_ : wpv K_X6_fillSteps d P 29 [some (4, (p0 : Int)), some (0, x1), some (0, x2)] [(0, x2), (0, (x1 * 120)), (4, ((p0 + 4 : Nat) : Int))] G R V)
    obtain ⟨s6, w⟩ := w
    refine wp_xadd rfl rfl s6 (?_ : wpv K_X6_fillSteps d P 30 [some (4, (p0 : Int)), some (0, x1), some (0, x2)] [(0, ((x1 * 120) + x2)), (4, ((p0 + 4 : Nat) : Int))] G R V)
    refine wp_ld (i := (.aload_n 0)) (4, (p0 : Int)) rfl rfl (fun _ => rfl) rfl rfl (?_ : wpv K_X6_fillSteps d P 31 [some (4, (p0 : Int)), some (0, x1), some (0, x2)] [(4, (p0 : Int)), (0, ((x1 * 120) + x2)), (4, ((p0 + 4 : Nat) : Int))] G R V)
    refine wp_ld (i := (.aload_n 0)) (4, (p0 : Int)) rfl rfl (fun _ => rfl) rfl rfl (?_ : wpv K_X6_fillSteps d P 32 [some (4, (p0 : Int)), some (0, x1), some (0, x2)] [(4, (p0 : Int)), (4, (p0 : Int)), (0, ((x1 * 120) + x2)), (4, ((p0 + 4 : Nat) : Int))] G R V)
    refine wp_getA (k := 3) rfl rfl rfl (ly6_o l0) rfl rfl (ly6_3 l0).1 (?_ : wpv K_X6_fillSteps d P 35 [some (4, (p0 : Int)), some (0, x1), some (0, x2)] [(4, ((p0 + 1 : Nat) : Int)), (4, (p0 : Int)), (0, ((x1 * 120) + x2)), (4, ((p0 + 4 : Nat) : Int))] G R V)
    refine wp_ld (i := (.iload_n 2)) (0, x2) rfl rfl (fun _ => rfl) rfl rfl (?_ : wpv K_X6_fillSteps d P 36 [some (4, (p0 : Int)), some (0, x1), some (0, x2)] [(0, x2), (4, ((p0 + 1 : Nat) : Int)), (4, (p0 : Int)), (0, ((x1 * 120) + x2)), (4, ((p0 + 4 : Nat) : Int))] G R V)
    obtain ⟨s7, w⟩ := w
    have f8 : i32 (V (p0 + 1) x2) := vr_a0 vr1 (ly6_3 l0).2 s7
    replace w := w f8
    refine wp_aI rfl rfl (ly6_3 l0).2 s7 (?_ : wpv K_X6_fillSteps d P 37 [some (4, (p0 : Int)), some (0, x1), some (0, x2)] [(0, (V (p0 + 1) x2)), (4, (p0 : Int)), (0, ((x1 * 120) + x2)), (4, ((p0 + 4 : Nat) : Int))] G R V)
    refine wp_ld (i := (.aload_n 0)) (4, (p0 : Int)) rfl rfl (fun _ => rfl) rfl rfl (?_ : wpv K_X6_fillSteps d P 38 [some (4, (p0 : Int)), some (0, x1), some (0, x2)] [(4, (p0 : Int)), (0, (V (p0 + 1) x2)), (4, (p0 : Int)), (0, ((x1 * 120) + x2)), (4, ((p0 + 4 : Nat) : Int))] G R V)
    refine wp_getA (k := 7) rfl rfl rfl (ly6_o l0) rfl rfl (ly6_7 l0).1 (?_ : wpv K_X6_fillSteps d P 41 [some (4, (p0 : Int)), some (0, x1), some (0, x2)] [(4, ((p0 + 5 : Nat) : Int)), (0, (V (p0 + 1) x2)), (4, (p0 : Int)), (0, ((x1 * 120) + x2)), (4, ((p0 + 4 : Nat) : Int))] G R V)
    refine wp_ld (i := (.iload_n 1)) (0, x1) rfl rfl (fun _ => rfl) rfl rfl (?_ : wpv K_X6_fillSteps d P 42 [some (4, (p0 : Int)), some (0, x1), some (0, x2)] [(0, x1), (4, ((p0 + 5 : Nat) : Int)), (0, (V (p0 + 1) x2)), (4, (p0 : Int)), (0, ((x1 * 120) + x2)), (4, ((p0 + 4 : Nat) : Int))] G R V)
    obtain ⟨s9, w⟩ := w
    have f10 : i32 (V (p0 + 5) x1) := vr_a0 vr1 (ly6_7 l0).2 s9
    replace w := w f10
    refine wp_aI rfl rfl (ly6_7 l0).2 s9 (?_ : wpv K_X6_fillSteps d P 43 [some (4, (p0 : Int)), some (0, x1), some (0, x2)] [(0, (V (p0 + 5) x1)), (0, (V (p0 + 1) x2)), (4, (p0 : Int)), (0, ((x1 * 120) + x2)), (4, ((p0 + 4 : Nat) : Int))] G R V)
    refine wp_stat (as := [(0, (V (p0 + 1) x2)), (0, (V (p0 + 5) x1))]) (st := [(4, (p0 : Int)), (0, ((x1 * 120) + x2)), (4, ((p0 + 4 : Nat) : Int))]) _ rfl rfl rfl (by omega) rfl rfl (Nat.le_of_ble_eq_true rfl) (cwv_kI w (fun v12 V11 w => ?_))
    show wpv K_X6_fillSteps d P 46 [some (4, (p0 : Int)), some (0, x1), some (0, x2)] [(0, v12), (4, (p0 : Int)), (0, ((x1 * 120) + x2)), (4, ((p0 + 4 : Nat) : Int))] G R V11
    refine wp_virt (as := [(0, v12)]) (a := p0) (st := [(0, ((x1 * 120) + x2)), (4, ((p0 + 4 : Nat) : Int))]) _ rfl rfl rfl rfl rfl rfl (ly6_o l0) (Nat.le_of_ble_eq_true rfl) (cwv_kI w (fun v14 V13 w => ?_))
    show wpv K_X6_fillSteps d P 49 [some (4, (p0 : Int)), some (0, x1), some (0, x2)] [(0, v14), (0, ((x1 * 120) + x2)), (4, ((p0 + 4 : Nat) : Int))] G R V13
    obtain ⟨s15, w⟩ := w
    obtain ⟨s16, w⟩ := w
    refine wp_sI rfl rfl (ly6_6 l0).2 s15 s16 (?_ : wpv K_X6_fillSteps d P 50 [some (4, (p0 : Int)), some (0, x1), some (0, x2)] [] G R (wr V13 (p0 + 4) (((x1 * 120) + x2)) v14))
    obtain ⟨s17, w⟩ := w
    refine wp_inc (x := 2) (k := 1) (a := x2) (c := (x2 + 1)) _ rfl rfl rfl rfl s17 (by omega) rfl ?_
    show wpv K_X6_fillSteps d P 53 [some (4, (p0 : Int)), some (0, x1), some (0, (x2 + 1))] [] G R (wr V13 (p0 + 4) (((x1 * 120) + x2)) v14)
    refine wp_go 12 rfl rfl rfl (?_ : wpv K_X6_fillSteps d P 12 [some (4, (p0 : Int)), some (0, x1), some (0, (x2 + 1))] [] G R (wr V13 (p0 + 4) (((x1 * 120) + x2)) v14))
    exact wp_wk (wk_s (wk_s (wk_s wk_0))) w
theorem t_X6_numberOf_0 {d : Nat} {P : gP} {p0 : Nat} {x1 : Int} {G : List gS} {R V : gV} (l0 : lay6 G R p0) (w : ((i32 (V p0 1)) → ((i32 ((V p0 1) - 1)) ∧ wpv K_X6_numberOf d P 12 [some (4, (p0 : Int)), some (0, x1), some (0, 0), some (0, ((V p0 1) - 1)), some (0, 0)] [] G R V))) : wpv K_X6_numberOf d P 0 [some (4, (p0 : Int)), some (0, x1)] [] G R V := by
  refine wp_p (i := (.iconst 0)) rfl rfl (fun _ _ _ => rfl) (?_ : wpv K_X6_numberOf d P 1 [some (4, (p0 : Int)), some (0, x1)] [(0, 0)] G R V)
  refine wp_sto (i := (.istore_n 2)) _ rfl rfl (fun _ => rfl) rfl rfl rfl ?_
  refine wp_wk (L' := [some (4, (p0 : Int)), some (0, x1), some (0, 0)]) (wk_s (wk_s (wk_s wk_0))) ?_
  show wpv K_X6_numberOf d P 2 [some (4, (p0 : Int)), some (0, x1), some (0, 0)] [] G R V
  refine wp_ld (i := (.aload_n 0)) (4, (p0 : Int)) rfl rfl (fun _ => rfl) rfl rfl (?_ : wpv K_X6_numberOf d P 3 [some (4, (p0 : Int)), some (0, x1), some (0, 0)] [(4, (p0 : Int))] G R V)
  refine wp_rng (fun vr1 => ?_)
  have f2 : i32 (V p0 1) := vr_f0 vr1 (ly6_o l0) rfl rfl
  replace w := w f2
  refine wp_getI (k := 1) rfl rfl rfl (ly6_o l0) rfl rfl (?_ : wpv K_X6_numberOf d P 6 [some (4, (p0 : Int)), some (0, x1), some (0, 0)] [(0, (V p0 1))] G R V)
  refine wp_p (i := (.iconst 1)) rfl rfl (fun _ _ _ => rfl) (?_ : wpv K_X6_numberOf d P 7 [some (4, (p0 : Int)), some (0, x1), some (0, 0)] [(0, 1), (0, (V p0 1))] G R V)
  obtain ⟨s3, w⟩ := w
  refine wp_xsub rfl rfl s3 (?_ : wpv K_X6_numberOf d P 8 [some (4, (p0 : Int)), some (0, x1), some (0, 0)] [(0, ((V p0 1) - 1))] G R V)
  refine wp_sto (i := (.istore_n 3)) _ rfl rfl (fun _ => rfl) rfl rfl rfl ?_
  refine wp_wk (L' := [some (4, (p0 : Int)), some (0, x1), some (0, 0), some (0, ((V p0 1) - 1))]) (wk_s (wk_s (wk_s (wk_s wk_0)))) ?_
  show wpv K_X6_numberOf d P 9 [some (4, (p0 : Int)), some (0, x1), some (0, 0), some (0, ((V p0 1) - 1))] [] G R V
  refine wp_p (i := (.iconst 0)) rfl rfl (fun _ _ _ => rfl) (?_ : wpv K_X6_numberOf d P 10 [some (4, (p0 : Int)), some (0, x1), some (0, 0), some (0, ((V p0 1) - 1))] [(0, 0)] G R V)
  refine wp_sto (i := (.istore 4)) _ rfl rfl (fun _ => rfl) rfl rfl rfl ?_
  refine wp_wk (L' := [some (4, (p0 : Int)), some (0, x1), some (0, 0), some (0, ((V p0 1) - 1)), some (0, 0)]) (wk_s (wk_s (wk_s (wk_s (wk_s wk_0))))) ?_
  show wpv K_X6_numberOf d P 12 [some (4, (p0 : Int)), some (0, x1), some (0, 0), some (0, ((V p0 1) - 1)), some (0, 0)] [] G R V
  exact wp_wk (wk_s (wk_s (wk_s (wk_s (wk_s wk_0))))) w

theorem t_X6_numberOf_12 {d : Nat} {P : gP} {p0 : Nat} {x1 : Int} {x2 : Int} {x3 : Int} {x4 : Int} {G : List gS} {R V : gV} (l0 : lay6 G R p0) (w : ((i32 x4) ∧ (((¬ x4 < 120) → P (some (0, x2)) V) ∧ ((x4 < 120) → ((i32 x2) ∧ ((i32 x3) ∧ (((¬ x2 < x3) → P (some (0, x2)) V) ∧ ((x2 < x3) → ((i32 (x2 + x3)) ∧ ((0 ≤ (x2 + x3)) ∧ ((0 ≤ ((x2 + x3) / 2) ∧ ((x2 + x3) / 2) < 120) ∧ ((i32 (V (p0 + 1) (((x2 + x3) / 2)))) → ((i32 x1) ∧ (((¬ (V (p0 + 1) (((x2 + x3) / 2))) < x1) → ((i32 (x4 + 1)) ∧ wpv K_X6_numberOf d P 12 [some (4, (p0 : Int)), some (0, x1), some (0, x2), some (0, ((x2 + x3) / 2)), some (0, (x4 + 1))] [] G R V)) ∧ (((V (p0 + 1) (((x2 + x3) / 2))) < x1) → ((i32 (((x2 + x3) / 2) + 1)) ∧ ((i32 (x4 + 1)) ∧ wpv K_X6_numberOf d P 12 [some (4, (p0 : Int)), some (0, x1), some (0, (((x2 + x3) / 2) + 1)), some (0, x3), some (0, (x4 + 1))] [] G R V))))))))))))))))) : wpv K_X6_numberOf d P 12 [some (4, (p0 : Int)), some (0, x1), some (0, x2), some (0, x3), some (0, x4)] [] G R V := by
  refine wp_ld (i := (.iload 4)) (0, x4) rfl rfl (fun _ => rfl) rfl rfl (?_ : wpv K_X6_numberOf d P 14 [some (4, (p0 : Int)), some (0, x1), some (0, x2), some (0, x3), some (0, x4)] [(0, x4)] G R V)
  refine wp_p (i := (.bipush 120)) rfl rfl (fun _ _ _ => rfl) (?_ : wpv K_X6_numberOf d P 16 [some (4, (p0 : Int)), some (0, x1), some (0, x2), some (0, x3), some (0, x4)] [(0, 120), (0, x4)] G R V)
  obtain ⟨s1, w⟩ := w
  refine wp_icmp (c := .ge) 59 rfl rfl rfl s1 ⟨by omega, by omega⟩ (fun q => ?_) (fun q => ?_)
  · have q : ¬ x4 < 120 := q
    replace w := w.1 q
    show wpv K_X6_numberOf d P 59 [some (4, (p0 : Int)), some (0, x1), some (0, x2), some (0, x3), some (0, x4)] [] G R V
    refine wp_ld (i := (.iload_n 2)) (0, x2) rfl rfl (fun _ => rfl) rfl rfl (?_ : wpv K_X6_numberOf d P 60 [some (4, (p0 : Int)), some (0, x1), some (0, x2), some (0, x3), some (0, x4)] [(0, x2)] G R V)
    exact wp_rI rfl rfl rfl w
  · have q : x4 < 120 := Decidable.not_not.mp q
    replace w := w.2 q
    show wpv K_X6_numberOf d P 19 [some (4, (p0 : Int)), some (0, x1), some (0, x2), some (0, x3), some (0, x4)] [] G R V
    refine wp_ld (i := (.iload_n 2)) (0, x2) rfl rfl (fun _ => rfl) rfl rfl (?_ : wpv K_X6_numberOf d P 20 [some (4, (p0 : Int)), some (0, x1), some (0, x2), some (0, x3), some (0, x4)] [(0, x2)] G R V)
    refine wp_ld (i := (.iload_n 3)) (0, x3) rfl rfl (fun _ => rfl) rfl rfl (?_ : wpv K_X6_numberOf d P 21 [some (4, (p0 : Int)), some (0, x1), some (0, x2), some (0, x3), some (0, x4)] [(0, x3), (0, x2)] G R V)
    obtain ⟨s2, w⟩ := w
    obtain ⟨s3, w⟩ := w
    refine wp_icmp (c := .ge) 59 rfl rfl rfl s2 s3 (fun q => ?_) (fun q => ?_)
    · have q : ¬ x2 < x3 := q
      replace w := w.1 q
      show wpv K_X6_numberOf d P 59 [some (4, (p0 : Int)), some (0, x1), some (0, x2), some (0, x3), some (0, x4)] [] G R V
      refine wp_ld (i := (.iload_n 2)) (0, x2) rfl rfl (fun _ => rfl) rfl rfl (?_ : wpv K_X6_numberOf d P 60 [some (4, (p0 : Int)), some (0, x1), some (0, x2), some (0, x3), some (0, x4)] [(0, x2)] G R V)
      exact wp_rI rfl rfl rfl w
    · have q : x2 < x3 := Decidable.not_not.mp q
      replace w := w.2 q
      show wpv K_X6_numberOf d P 24 [some (4, (p0 : Int)), some (0, x1), some (0, x2), some (0, x3), some (0, x4)] [] G R V
      refine wp_ld (i := (.iload_n 2)) (0, x2) rfl rfl (fun _ => rfl) rfl rfl (?_ : wpv K_X6_numberOf d P 25 [some (4, (p0 : Int)), some (0, x1), some (0, x2), some (0, x3), some (0, x4)] [(0, x2)] G R V)
      refine wp_ld (i := (.iload_n 3)) (0, x3) rfl rfl (fun _ => rfl) rfl rfl (?_ : wpv K_X6_numberOf d P 26 [some (4, (p0 : Int)), some (0, x1), some (0, x2), some (0, x3), some (0, x4)] [(0, x3), (0, x2)] G R V)
      obtain ⟨s4, w⟩ := w
      refine wp_xadd rfl rfl s4 (?_ : wpv K_X6_numberOf d P 27 [some (4, (p0 : Int)), some (0, x1), some (0, x2), some (0, x3), some (0, x4)] [(0, (x2 + x3))] G R V)
      refine wp_p (i := (.iconst 2)) rfl rfl (fun _ _ _ => rfl) (?_ : wpv K_X6_numberOf d P 28 [some (4, (p0 : Int)), some (0, x1), some (0, x2), some (0, x3), some (0, x4)] [(0, 2), (0, (x2 + x3))] G R V)
      obtain ⟨s5, w⟩ := w
      refine wp_xdiv rfl rfl s5 (by omega) s4 ⟨by omega, by omega⟩ (?_ : wpv K_X6_numberOf d P 29 [some (4, (p0 : Int)), some (0, x1), some (0, x2), some (0, x3), some (0, x4)] [(0, ((x2 + x3) / 2))] G R V)
      refine wp_sto (i := (.istore 5)) _ rfl rfl (fun _ => rfl) rfl rfl rfl ?_
      refine wp_wk (L' := [some (4, (p0 : Int)), some (0, x1), some (0, x2), some (0, x3), some (0, x4), some (0, ((x2 + x3) / 2))]) (wk_s (wk_s (wk_s (wk_s (wk_s (wk_s wk_0)))))) ?_
      show wpv K_X6_numberOf d P 31 [some (4, (p0 : Int)), some (0, x1), some (0, x2), some (0, x3), some (0, x4), some (0, ((x2 + x3) / 2))] [] G R V
      refine wp_ld (i := (.aload_n 0)) (4, (p0 : Int)) rfl rfl (fun _ => rfl) rfl rfl (?_ : wpv K_X6_numberOf d P 32 [some (4, (p0 : Int)), some (0, x1), some (0, x2), some (0, x3), some (0, x4), some (0, ((x2 + x3) / 2))] [(4, (p0 : Int))] G R V)
      refine wp_getA (k := 3) rfl rfl rfl (ly6_o l0) rfl rfl (ly6_3 l0).1 (?_ : wpv K_X6_numberOf d P 35 [some (4, (p0 : Int)), some (0, x1), some (0, x2), some (0, x3), some (0, x4), some (0, ((x2 + x3) / 2))] [(4, ((p0 + 1 : Nat) : Int))] G R V)
      refine wp_ld (i := (.iload 5)) (0, ((x2 + x3) / 2)) rfl rfl (fun _ => rfl) rfl rfl (?_ : wpv K_X6_numberOf d P 37 [some (4, (p0 : Int)), some (0, x1), some (0, x2), some (0, x3), some (0, x4), some (0, ((x2 + x3) / 2))] [(0, ((x2 + x3) / 2)), (4, ((p0 + 1 : Nat) : Int))] G R V)
      obtain ⟨s6, w⟩ := w
      refine wp_rng (fun vr7 => ?_)
      have f8 : i32 (V (p0 + 1) (((x2 + x3) / 2))) := vr_a0 vr7 (ly6_3 l0).2 s6
      replace w := w f8
      refine wp_aI rfl rfl (ly6_3 l0).2 s6 (?_ : wpv K_X6_numberOf d P 38 [some (4, (p0 : Int)), some (0, x1), some (0, x2), some (0, x3), some (0, x4), some (0, ((x2 + x3) / 2))] [(0, (V (p0 + 1) (((x2 + x3) / 2))))] G R V)
      refine wp_ld (i := (.iload_n 1)) (0, x1) rfl rfl (fun _ => rfl) rfl rfl (?_ : wpv K_X6_numberOf d P 39 [some (4, (p0 : Int)), some (0, x1), some (0, x2), some (0, x3), some (0, x4), some (0, ((x2 + x3) / 2))] [(0, x1), (0, (V (p0 + 1) (((x2 + x3) / 2))))] G R V)
      obtain ⟨s9, w⟩ := w
      refine wp_icmp (c := .ge) 50 rfl rfl rfl f8 s9 (fun q => ?_) (fun q => ?_)
      · have q : ¬ (V (p0 + 1) (((x2 + x3) / 2))) < x1 := q
        replace w := w.1 q
        show wpv K_X6_numberOf d P 50 [some (4, (p0 : Int)), some (0, x1), some (0, x2), some (0, x3), some (0, x4), some (0, ((x2 + x3) / 2))] [] G R V
        refine wp_ld (i := (.iload 5)) (0, ((x2 + x3) / 2)) rfl rfl (fun _ => rfl) rfl rfl (?_ : wpv K_X6_numberOf d P 52 [some (4, (p0 : Int)), some (0, x1), some (0, x2), some (0, x3), some (0, x4), some (0, ((x2 + x3) / 2))] [(0, ((x2 + x3) / 2))] G R V)
        refine wp_sto (i := (.istore_n 3)) _ rfl rfl (fun _ => rfl) rfl rfl rfl ?_
        refine wp_wk (L' := [some (4, (p0 : Int)), some (0, x1), some (0, x2), some (0, ((x2 + x3) / 2)), some (0, x4), some (0, ((x2 + x3) / 2))]) (wk_s (wk_s (wk_s (wk_s (wk_s (wk_s wk_0)))))) ?_
        show wpv K_X6_numberOf d P 53 [some (4, (p0 : Int)), some (0, x1), some (0, x2), some (0, ((x2 + x3) / 2)), some (0, x4), some (0, ((x2 + x3) / 2))] [] G R V
        obtain ⟨s10, w⟩ := w
        refine wp_inc (x := 4) (k := 1) (a := x4) (c := (x4 + 1)) _ rfl rfl rfl rfl s10 (by omega) rfl ?_
        show wpv K_X6_numberOf d P 56 [some (4, (p0 : Int)), some (0, x1), some (0, x2), some (0, ((x2 + x3) / 2)), some (0, (x4 + 1)), some (0, ((x2 + x3) / 2))] [] G R V
        refine wp_go 12 rfl rfl rfl (?_ : wpv K_X6_numberOf d P 12 [some (4, (p0 : Int)), some (0, x1), some (0, x2), some (0, ((x2 + x3) / 2)), some (0, (x4 + 1)), some (0, ((x2 + x3) / 2))] [] G R V)
        exact wp_wk (wk_s (wk_s (wk_s (wk_s (wk_s wk_0))))) w
      · have q : (V (p0 + 1) (((x2 + x3) / 2))) < x1 := Decidable.not_not.mp q
        replace w := w.2 q
        show wpv K_X6_numberOf d P 42 [some (4, (p0 : Int)), some (0, x1), some (0, x2), some (0, x3), some (0, x4), some (0, ((x2 + x3) / 2))] [] G R V
        refine wp_ld (i := (.iload 5)) (0, ((x2 + x3) / 2)) rfl rfl (fun _ => rfl) rfl rfl (?_ : wpv K_X6_numberOf d P 44 [some (4, (p0 : Int)), some (0, x1), some (0, x2), some (0, x3), some (0, x4), some (0, ((x2 + x3) / 2))] [(0, ((x2 + x3) / 2))] G R V)
        refine wp_p (i := (.iconst 1)) rfl rfl (fun _ _ _ => rfl) (?_ : wpv K_X6_numberOf d P 45 [some (4, (p0 : Int)), some (0, x1), some (0, x2), some (0, x3), some (0, x4), some (0, ((x2 + x3) / 2))] [(0, 1), (0, ((x2 + x3) / 2))] G R V)
        obtain ⟨s11, w⟩ := w
        refine wp_xadd rfl rfl s11 (?_ : wpv K_X6_numberOf d P 46 [some (4, (p0 : Int)), some (0, x1), some (0, x2), some (0, x3), some (0, x4), some (0, ((x2 + x3) / 2))] [(0, (((x2 + x3) / 2) + 1))] G R V)
        refine wp_sto (i := (.istore_n 2)) _ rfl rfl (fun _ => rfl) rfl rfl rfl ?_
        refine wp_wk (L' := [some (4, (p0 : Int)), some (0, x1), some (0, (((x2 + x3) / 2) + 1)), some (0, x3), some (0, x4), some (0, ((x2 + x3) / 2))]) (wk_s (wk_s (wk_s (wk_s (wk_s (wk_s wk_0)))))) ?_
        show wpv K_X6_numberOf d P 47 [some (4, (p0 : Int)), some (0, x1), some (0, (((x2 + x3) / 2) + 1)), some (0, x3), some (0, x4), some (0, ((x2 + x3) / 2))] [] G R V
        refine wp_go 53 rfl rfl rfl (?_ : wpv K_X6_numberOf d P 53 [some (4, (p0 : Int)), some (0, x1), some (0, (((x2 + x3) / 2) + 1)), some (0, x3), some (0, x4), some (0, ((x2 + x3) / 2))] [] G R V)
        obtain ⟨s12, w⟩ := w
        refine wp_inc (x := 4) (k := 1) (a := x4) (c := (x4 + 1)) _ rfl rfl rfl rfl s12 (by omega) rfl ?_
        show wpv K_X6_numberOf d P 56 [some (4, (p0 : Int)), some (0, x1), some (0, (((x2 + x3) / 2) + 1)), some (0, x3), some (0, (x4 + 1)), some (0, ((x2 + x3) / 2))] [] G R V
        refine wp_go 12 rfl rfl rfl (?_ : wpv K_X6_numberOf d P 12 [some (4, (p0 : Int)), some (0, x1), some (0, (((x2 + x3) / 2) + 1)), some (0, x3), some (0, (x4 + 1)), some (0, ((x2 + x3) / 2))] [] G R V)
        exact wp_wk (wk_s (wk_s (wk_s (wk_s (wk_s wk_0))))) w
theorem t_X6_fillProductsBy_0 {d : Nat} {P : gP} {p0 : Nat} {x1 : Int} {x2 : Int} {x3 : Int} {G : List gS} {R V : gV} (l0 : lay6 G R p0) (w : wpv K_X6_fillProductsBy d P 3 [some (4, (p0 : Int)), some (0, x1), some (0, x2), some (0, x3), some (0, 0)] [] G R V) : wpv K_X6_fillProductsBy d P 0 [some (4, (p0 : Int)), some (0, x1), some (0, x2), some (0, x3)] [] G R V := by
  refine wp_p (i := (.iconst 0)) rfl rfl (fun _ _ _ => rfl) (?_ : wpv K_X6_fillProductsBy d P 1 [some (4, (p0 : Int)), some (0, x1), some (0, x2), some (0, x3)] [(0, 0)] G R V)
  refine wp_sto (i := (.istore 4)) _ rfl rfl (fun _ => rfl) rfl rfl rfl ?_
  refine wp_wk (L' := [some (4, (p0 : Int)), some (0, x1), some (0, x2), some (0, x3), some (0, 0)]) (wk_s (wk_s (wk_s (wk_s (wk_s wk_0))))) ?_
  show wpv K_X6_fillProductsBy d P 3 [some (4, (p0 : Int)), some (0, x1), some (0, x2), some (0, x3), some (0, 0)] [] G R V
  exact wp_wk (wk_s (wk_s (wk_s (wk_s (wk_s wk_0))))) w

theorem t_X6_fillProductsBy_3 {d : Nat} {P : gP} {p0 : Nat} {x1 : Int} {x2 : Int} {x3 : Int} {x4 : Int} {G : List gS} {R V : gV} (l0 : lay6 G R p0) (w : ((i32 (V p0 1)) → ((i32 x4) ∧ (((¬ x4 < (V p0 1)) → P none V) ∧ ((x4 < (V p0 1)) → (∃ b4 n4_ : Nat, (R p0 10 = (b4 : Int) ∧ G[b4]? = some (.inr (0, n4_))) ∧ ((i32 (x4 * (V p0 1))) ∧ ((i32 ((x4 * (V p0 1)) + x1)) ∧ ((i32 (x3 * 120)) ∧ ((i32 ((x4 * (V p0 1)) + x2)) ∧ ((0 ≤ ((x4 * (V p0 1)) + x2) ∧ ((x4 * (V p0 1)) + x2) < (n4_ : Int)) ∧ ((i32 (V b4 (((x4 * (V p0 1)) + x2)))) → ((i32 ((x3 * 120) + (V b4 (((x4 * (V p0 1)) + x2))))) ∧ ((0 ≤ ((x3 * 120) + (V b4 (((x4 * (V p0 1)) + x2)))) ∧ ((x3 * 120) + (V b4 (((x4 * (V p0 1)) + x2)))) < 480) ∧ ((i32 (V (p0 + 4) (((x3 * 120) + (V b4 (((x4 * (V p0 1)) + x2))))))) → ((0 ≤ ((x4 * (V p0 1)) + x1) ∧ ((x4 * (V p0 1)) + x1) < (n4_ : Int)) ∧ ((i32 (x4 + 1)) ∧ wpv K_X6_fillProductsBy d P 3 [some (4, (p0 : Int)), some (0, x1), some (0, x2), some (0, x3), some (0, (x4 + 1))] [] G R (wr V b4 (((x4 * (V p0 1)) + x1)) ((V (p0 + 4) (((x3 * 120) + (V b4 (((x4 * (V p0 1)) + x2))))))))))))))))))))))))) : wpv K_X6_fillProductsBy d P 3 [some (4, (p0 : Int)), some (0, x1), some (0, x2), some (0, x3), some (0, x4)] [] G R V := by
  refine wp_ld (i := (.iload 4)) (0, x4) rfl rfl (fun _ => rfl) rfl rfl (?_ : wpv K_X6_fillProductsBy d P 5 [some (4, (p0 : Int)), some (0, x1), some (0, x2), some (0, x3), some (0, x4)] [(0, x4)] G R V)
  refine wp_ld (i := (.aload_n 0)) (4, (p0 : Int)) rfl rfl (fun _ => rfl) rfl rfl (?_ : wpv K_X6_fillProductsBy d P 6 [some (4, (p0 : Int)), some (0, x1), some (0, x2), some (0, x3), some (0, x4)] [(4, (p0 : Int)), (0, x4)] G R V)
  refine wp_rng (fun vr1 => ?_)
  have f2 : i32 (V p0 1) := vr_f0 vr1 (ly6_o l0) rfl rfl
  replace w := w f2
  refine wp_getI (k := 1) rfl rfl rfl (ly6_o l0) rfl rfl (?_ : wpv K_X6_fillProductsBy d P 9 [some (4, (p0 : Int)), some (0, x1), some (0, x2), some (0, x3), some (0, x4)] [(0, (V p0 1)), (0, x4)] G R V)
  obtain ⟨s3, w⟩ := w
  refine wp_icmp (c := .ge) 56 rfl rfl rfl s3 f2 (fun q => ?_) (fun q => ?_)
  · have q : ¬ x4 < (V p0 1) := q
    replace w := w.1 q
    show wpv K_X6_fillProductsBy d P 56 [some (4, (p0 : Int)), some (0, x1), some (0, x2), some (0, x3), some (0, x4)] [] G R V
    exact wp_r0 rfl rfl rfl w
  · have q : x4 < (V p0 1) := Decidable.not_not.mp q
    replace w := w.2 q
    show wpv K_X6_fillProductsBy d P 12 [some (4, (p0 : Int)), some (0, x1), some (0, x2), some (0, x3), some (0, x4)] [] G R V
    refine wp_ld (i := (.aload_n 0)) (4, (p0 : Int)) rfl rfl (fun _ => rfl) rfl rfl (?_ : wpv K_X6_fillProductsBy d P 13 [some (4, (p0 : Int)), some (0, x1), some (0, x2), some (0, x3), some (0, x4)] [(4, (p0 : Int))] G R V)
    obtain ⟨b4, n4_, ⟨r4, g4_⟩, w⟩ := w
    refine wp_getA (k := 10) rfl rfl rfl (ly6_o l0) rfl rfl r4 (?_ : wpv K_X6_fillProductsBy d P 16 [some (4, (p0 : Int)), some (0, x1), some (0, x2), some (0, x3), some (0, x4)] [(4, (b4 : Int))] G R V)
    refine wp_ld (i := (.iload 4)) (0, x4) rfl rfl (fun _ => rfl) rfl rfl (?_ : wpv K_X6_fillProductsBy d P 18 [some (4, (p0 : Int)), some (0, x1), some (0, x2), some (0, x3), some (0, x4)] [(0, x4), (4, (b4 : Int))] G R V)
    refine wp_ld (i := (.aload_n 0)) (4, (p0 : Int)) rfl rfl (fun _ => rfl) rfl rfl (?_ : wpv K_X6_fillProductsBy d P 19 [some (4, (p0 : Int)), some (0, x1), some (0, x2), some (0, x3), some (0, x4)] [(4, (p0 : Int)), (0, x4), (4, (b4 : Int))] G R V)
    refine wp_getI (k := 1) rfl rfl rfl (ly6_o l0) rfl rfl (?_ : wpv K_X6_fillProductsBy d P 22 [some (4, (p0 : Int)), some (0, x1), some (0, x2), some (0, x3), some (0, x4)] [(0, (V p0 1)), (0, x4), (4, (b4 : Int))] G R V)
    obtain ⟨s5, w⟩ := w
    refine wp_xmul rfl rfl s5 (?_ : wpv K_X6_fillProductsBy d P 23 [some (4, (p0 : Int)), some (0, x1), some (0, x2), some (0, x3), some (0, x4)] [(0, (x4 * (V p0 1))), (4, (b4 : Int))] G R V)
    refine wp_ld (i := (.iload_n 1)) (0, x1) rfl rfl (fun _ => rfl) rfl rfl (?_ : wpv K_X6_fillProductsBy d P 24 [some (4, (p0 : Int)), some (0, x1), some (0, x2), some (0, x3), some (0, x4)] [(0, x1), (0, (x4 * (V p0 1))), (4, (b4 : Int))] G R V)
    obtain ⟨s6, w⟩ := w
    refine wp_xadd rfl rfl s6 (?_ : wpv K_X6_fillProductsBy d P 25 [some (4, (p0 : Int)), some (0, x1), some (0, x2), some (0, x3), some (0, x4)] [(0, ((x4 * (V p0 1)) + x1)), (4, (b4 : Int))] G R V)
    refine wp_ld (i := (.aload_n 0)) (4, (p0 : Int)) rfl rfl (fun _ => rfl) rfl rfl (?_ : wpv K_X6_fillProductsBy d P 26 [some (4, (p0 : Int)), some (0, x1), some (0, x2), some (0, x3), some (0, x4)] [(4, (p0 : Int)), (0, ((x4 * (V p0 1)) + x1)), (4, (b4 : Int))] G R V)
    refine wp_getA (k := 6) rfl rfl rfl (ly6_o l0) rfl rfl (ly6_6 l0).1 (?_ : wpv K_X6_fillProductsBy d P 29 [some (4, (p0 : Int)), some (0, x1), some (0, x2), some (0, x3), some (0, x4)] [(4, ((p0 + 4 : Nat) : Int)), (0, ((x4 * (V p0 1)) + x1)), (4, (b4 : Int))] G R V)
    refine wp_ld (i := (.iload_n 3)) (0, x3) rfl rfl (fun _ => rfl) rfl rfl (?_ : wpv K_X6_fillProductsBy d P 30 [some (4, (p0 : Int)), some (0, x1), some (0, x2), some (0, x3), some (0, x4)] [(0, x3), (4, ((p0 + 4 : Nat) : Int)), (0, ((x4 * (V p0 1)) + x1)), (4, (b4 : Int))] G R V)
    refine wp_p (i := (.bipush 120)) rfl rfl (fun _ _ _ => rfl) (?_ : wpv K_X6_fillProductsBy d P 32 [some (4, (p0 : Int)), some (0, x1), some (0, x2), some (0, x3), some (0, x4)] [(0, 120), (0, x3), (4, ((p0 + 4 : Nat) : Int)), (0, ((x4 * (V p0 1)) + x1)), (4, (b4 : Int))] G R V)
    obtain ⟨s7, w⟩ := w
    refine wp_xmul rfl rfl s7 (?_ : wpv K_X6_fillProductsBy d P 33 [some (4, (p0 : Int)), some (0, x1), some (0, x2), some (0, x3), some (0, x4)] [(0, (x3 * 120)), (4, ((p0 + 4 : Nat) : Int)), (0, ((x4 * (V p0 1)) + x1)), (4, (b4 : Int))] G R V)
    refine wp_ld (i := (.aload_n 0)) (4, (p0 : Int)) rfl rfl (fun _ => rfl) rfl rfl (?_ : wpv K_X6_fillProductsBy d P 34 [some (4, (p0 : Int)), some (0, x1), some (0, x2), some (0, x3), some (0, x4)] [(4, (p0 : Int)), (0, (x3 * 120)), (4, ((p0 + 4 : Nat) : Int)), (0, ((x4 * (V p0 1)) + x1)), (4, (b4 : Int))] G R V)
    refine wp_getA (k := 10) rfl rfl rfl (ly6_o l0) rfl rfl r4 (?_ : wpv K_X6_fillProductsBy d P 37 [some (4, (p0 : Int)), some (0, x1), some (0, x2), some (0, x3), some (0, x4)] [(4, (b4 : Int)), (0, (x3 * 120)), (4, ((p0 + 4 : Nat) : Int)), (0, ((x4 * (V p0 1)) + x1)), (4, (b4 : Int))] G R V)
    refine wp_ld (i := (.iload 4)) (0, x4) rfl rfl (fun _ => rfl) rfl rfl (?_ : wpv K_X6_fillProductsBy d P 39 [some (4, (p0 : Int)), some (0, x1), some (0, x2), some (0, x3), some (0, x4)] [(0, x4), (4, (b4 : Int)), (0, (x3 * 120)), (4, ((p0 + 4 : Nat) : Int)), (0, ((x4 * (V p0 1)) + x1)), (4, (b4 : Int))] G R V)
    refine wp_ld (i := (.aload_n 0)) (4, (p0 : Int)) rfl rfl (fun _ => rfl) rfl rfl (?_ : wpv K_X6_fillProductsBy d P 40 [some (4, (p0 : Int)), some (0, x1), some (0, x2), some (0, x3), some (0, x4)] [(4, (p0 : Int)), (0, x4), (4, (b4 : Int)), (0, (x3 * 120)), (4, ((p0 + 4 : Nat) : Int)), (0, ((x4 * (V p0 1)) + x1)), (4, (b4 : Int))] G R V)
    refine wp_getI (k := 1) rfl rfl rfl (ly6_o l0) rfl rfl (?_ : wpv K_X6_fillProductsBy d P 43 [some (4, (p0 : Int)), some (0, x1), some (0, x2), some (0, x3), some (0, x4)] [(0, (V p0 1)), (0, x4), (4, (b4 : Int)), (0, (x3 * 120)), (4, ((p0 + 4 : Nat) : Int)), (0, ((x4 * (V p0 1)) + x1)), (4, (b4 : Int))] G R V)
    refine wp_xmul rfl rfl s5 (?_ : wpv K_X6_fillProductsBy d P 44 [some (4, (p0 : Int)), some (0, x1), some (0, x2), some (0, x3), some (0, x4)] [(0, (x4 * (V p0 1))), (4, (b4 : Int)), (0, (x3 * 120)), (4, ((p0 + 4 : Nat) : Int)), (0, ((x4 * (V p0 1)) + x1)), (4, (b4 : Int))] G R V)
    refine wp_ld (i := (.iload_n 2)) (0, x2) rfl rfl (fun _ => rfl) rfl rfl (?_ : wpv K_X6_fillProductsBy d P 45 [some (4, (p0 : Int)), some (0, x1), some (0, x2), some (0, x3), some (0, x4)] [(0, x2), (0, (x4 * (V p0 1))), (4, (b4 : Int)), (0, (x3 * 120)), (4, ((p0 + 4 : Nat) : Int)), (0, ((x4 * (V p0 1)) + x1)), (4, (b4 : Int))] G R V)
    obtain ⟨s8, w⟩ := w
    refine wp_xadd rfl rfl s8 (?_ : wpv K_X6_fillProductsBy d P 46 [some (4, (p0 : Int)), some (0, x1), some (0, x2), some (0, x3), some (0, x4)] [(0, ((x4 * (V p0 1)) + x2)), (4, (b4 : Int)), (0, (x3 * 120)), (4, ((p0 + 4 : Nat) : Int)), (0, ((x4 * (V p0 1)) + x1)), (4, (b4 : Int))] G R V)
    obtain ⟨s9, w⟩ := w
    have f10 : i32 (V b4 (((x4 * (V p0 1)) + x2))) := vr_a0 vr1 g4_ s9
    replace w := w f10
    refine wp_aI rfl rfl g4_ s9 (?_ : wpv K_X6_fillProductsBy d P 47 [some (4, (p0 : Int)), some (0, x1), some (0, x2), some (0, x3), some (0, x4)] [(0, (V b4 (((x4 * (V p0 1)) + x2)))), (0, (x3 * 120)), (4, ((p0 + 4 : Nat) : Int)), (0, ((x4 * (V p0 1)) + x1)), (4, (b4 : Int))] G R V)
    obtain ⟨s11, w⟩ := w
    refine wp_xadd rfl rfl s11 (?_ : wpv K_X6_fillProductsBy d P 48 [some (4, (p0 : Int)), some (0, x1), some (0, x2), some (0, x3), some (0, x4)] [(0, ((x3 * 120) + (V b4 (((x4 * (V p0 1)) + x2))))), (4, ((p0 + 4 : Nat) : Int)), (0, ((x4 * (V p0 1)) + x1)), (4, (b4 : Int))] G R V)
    obtain ⟨s12, w⟩ := w
    have f13 : i32 (V (p0 + 4) (((x3 * 120) + (V b4 (((x4 * (V p0 1)) + x2)))))) := vr_a0 vr1 (ly6_6 l0).2 s12
    replace w := w f13
    refine wp_aI rfl rfl (ly6_6 l0).2 s12 (?_ : wpv K_X6_fillProductsBy d P 49 [some (4, (p0 : Int)), some (0, x1), some (0, x2), some (0, x3), some (0, x4)] [(0, (V (p0 + 4) (((x3 * 120) + (V b4 (((x4 * (V p0 1)) + x2))))))), (0, ((x4 * (V p0 1)) + x1)), (4, (b4 : Int))] G R V)
    obtain ⟨s14, w⟩ := w
    refine wp_sI rfl rfl g4_ s14 f13 (?_ : wpv K_X6_fillProductsBy d P 50 [some (4, (p0 : Int)), some (0, x1), some (0, x2), some (0, x3), some (0, x4)] [] G R (wr V b4 (((x4 * (V p0 1)) + x1)) ((V (p0 + 4) (((x3 * 120) + (V b4 (((x4 * (V p0 1)) + x2)))))))))
    obtain ⟨s15, w⟩ := w
    refine wp_inc (x := 4) (k := 1) (a := x4) (c := (x4 + 1)) _ rfl rfl rfl rfl s15 (by omega) rfl ?_
    show wpv K_X6_fillProductsBy d P 53 [some (4, (p0 : Int)), some (0, x1), some (0, x2), some (0, x3), some (0, (x4 + 1))] [] G R (wr V b4 (((x4 * (V p0 1)) + x1)) ((V (p0 + 4) (((x3 * 120) + (V b4 (((x4 * (V p0 1)) + x2))))))))
    refine wp_go 3 rfl rfl rfl (?_ : wpv K_X6_fillProductsBy d P 3 [some (4, (p0 : Int)), some (0, x1), some (0, x2), some (0, x3), some (0, (x4 + 1))] [] G R (wr V b4 (((x4 * (V p0 1)) + x1)) ((V (p0 + 4) (((x3 * 120) + (V b4 (((x4 * (V p0 1)) + x2)))))))))
    exact wp_wk (wk_s (wk_s (wk_s (wk_s (wk_s wk_0))))) w
theorem t_X6_fillPowers_0 {d : Nat} {P : gP} {p0 : Nat} {G : List gS} {R V : gV} (l0 : lay6 G R p0) (w : wpv K_X6_fillPowers d P 2 [some (4, (p0 : Int)), some (0, 0)] [] G R V) : wpv K_X6_fillPowers d P 0 [some (4, (p0 : Int))] [] G R V := by
  refine wp_p (i := (.iconst 0)) rfl rfl (fun _ _ _ => rfl) (?_ : wpv K_X6_fillPowers d P 1 [some (4, (p0 : Int))] [(0, 0)] G R V)
  refine wp_sto (i := (.istore_n 1)) _ rfl rfl (fun _ => rfl) rfl rfl rfl ?_
  refine wp_wk (L' := [some (4, (p0 : Int)), some (0, 0)]) (wk_s (wk_s wk_0)) ?_
  show wpv K_X6_fillPowers d P 2 [some (4, (p0 : Int)), some (0, 0)] [] G R V
  exact wp_wk (wk_s (wk_s wk_0)) w

theorem t_X6_fillPowers_2 {d : Nat} {P : gP} {p0 : Nat} {x1 : Int} {G : List gS} {R V : gV} (l0 : lay6 G R p0) (w : ((i32 (V p0 1)) → ((i32 x1) ∧ (((¬ x1 < (V p0 1)) → P none V) ∧ ((x1 < (V p0 1)) → wpv K_X6_fillPowers d P 17 [some (4, (p0 : Int)), some (0, x1), some (0, 0), some (0, x1), some (0, 1)] [] G R V))))) : wpv K_X6_fillPowers d P 2 [some (4, (p0 : Int)), some (0, x1)] [] G R V := by
  refine wp_ld (i := (.iload_n 1)) (0, x1) rfl rfl (fun _ => rfl) rfl rfl (?_ : wpv K_X6_fillPowers d P 3 [some (4, (p0 : Int)), some (0, x1)] [(0, x1)] G R V)
  refine wp_ld (i := (.aload_n 0)) (4, (p0 : Int)) rfl rfl (fun _ => rfl) rfl rfl (?_ : wpv K_X6_fillPowers d P 4 [some (4, (p0 : Int)), some (0, x1)] [(4, (p0 : Int)), (0, x1)] G R V)
  refine wp_rng (fun vr1 => ?_)
  have f2 : i32 (V p0 1) := vr_f0 vr1 (ly6_o l0) rfl rfl
  replace w := w f2
  refine wp_getI (k := 1) rfl rfl rfl (ly6_o l0) rfl rfl (?_ : wpv K_X6_fillPowers d P 7 [some (4, (p0 : Int)), some (0, x1)] [(0, (V p0 1)), (0, x1)] G R V)
  obtain ⟨s3, w⟩ := w
  refine wp_icmp (c := .ge) 64 rfl rfl rfl s3 f2 (fun q => ?_) (fun q => ?_)
  · have q : ¬ x1 < (V p0 1) := q
    replace w := w.1 q
    show wpv K_X6_fillPowers d P 64 [some (4, (p0 : Int)), some (0, x1)] [] G R V
    exact wp_r0 rfl rfl rfl w
  · have q : x1 < (V p0 1) := Decidable.not_not.mp q
    replace w := w.2 q
    show wpv K_X6_fillPowers d P 10 [some (4, (p0 : Int)), some (0, x1)] [] G R V
    refine wp_p (i := (.iconst 0)) rfl rfl (fun _ _ _ => rfl) (?_ : wpv K_X6_fillPowers d P 11 [some (4, (p0 : Int)), some (0, x1)] [(0, 0)] G R V)
    refine wp_sto (i := (.istore_n 2)) _ rfl rfl (fun _ => rfl) rfl rfl rfl ?_
    refine wp_wk (L' := [some (4, (p0 : Int)), some (0, x1), some (0, 0)]) (wk_s (wk_s (wk_s wk_0))) ?_
    show wpv K_X6_fillPowers d P 12 [some (4, (p0 : Int)), some (0, x1), some (0, 0)] [] G R V
    refine wp_ld (i := (.iload_n 1)) (0, x1) rfl rfl (fun _ => rfl) rfl rfl (?_ : wpv K_X6_fillPowers d P 13 [some (4, (p0 : Int)), some (0, x1), some (0, 0)] [(0, x1)] G R V)
    refine wp_sto (i := (.istore_n 3)) _ rfl rfl (fun _ => rfl) rfl rfl rfl ?_
    refine wp_wk (L' := [some (4, (p0 : Int)), some (0, x1), some (0, 0), some (0, x1)]) (wk_s (wk_s (wk_s (wk_s wk_0)))) ?_
    show wpv K_X6_fillPowers d P 14 [some (4, (p0 : Int)), some (0, x1), some (0, 0), some (0, x1)] [] G R V
    refine wp_p (i := (.iconst 1)) rfl rfl (fun _ _ _ => rfl) (?_ : wpv K_X6_fillPowers d P 15 [some (4, (p0 : Int)), some (0, x1), some (0, 0), some (0, x1)] [(0, 1)] G R V)
    refine wp_sto (i := (.istore 4)) _ rfl rfl (fun _ => rfl) rfl rfl rfl ?_
    refine wp_wk (L' := [some (4, (p0 : Int)), some (0, x1), some (0, 0), some (0, x1), some (0, 1)]) (wk_s (wk_s (wk_s (wk_s (wk_s wk_0))))) ?_
    show wpv K_X6_fillPowers d P 17 [some (4, (p0 : Int)), some (0, x1), some (0, 0), some (0, x1), some (0, 1)] [] G R V
    exact wp_wk (wk_s (wk_s (wk_s (wk_s (wk_s wk_0))))) w

theorem t_X6_fillPowers_17 {d : Nat} {P : gP} {p0 : Nat} {x1 : Int} {x2 : Int} {x3 : Int} {x4 : Int} {G : List gS} {R V : gV} (l0 : lay6 G R p0) (w : ((i32 x3) ∧ (((x3 = 0) → ((0 ≤ x1 ∧ x1 < 120) ∧ ((i32 x4) ∧ ((i32 x2) ∧ ((i32 (x1 + 1)) ∧ wpv K_X6_fillPowers d P 2 [some (4, (p0 : Int)), some (0, (x1 + 1))] [] G R (wr (wr V (p0 + 3) x1 x4) (p0 + 2) x1 x2)))))) ∧ ((¬ x3 = 0) → ((i32 x4) ∧ (((120 < x4) → ((0 ≤ x1 ∧ x1 < 120) ∧ ((i32 x2) ∧ ((i32 (x1 + 1)) ∧ wpv K_X6_fillPowers d P 2 [some (4, (p0 : Int)), some (0, (x1 + 1))] [] G R (wr (wr V (p0 + 3) x1 x4) (p0 + 2) x1 x2))))) ∧ ((¬ 120 < x4) → cwv d (fun r V10 => ∃ v11 : Int, r = some (0, v11) ∧ ((i32 (x4 + 1)) ∧ wpv K_X6_fillPowers d P 17 [some (4, (p0 : Int)), some (0, x1), some (0, x3), some (0, v11), some (0, (x4 + 1))] [] G R V10)) 89 [(4, (p0 : Int)), (0, x3), (0, x1)] G R V))))))) : wpv K_X6_fillPowers d P 17 [some (4, (p0 : Int)), some (0, x1), some (0, x2), some (0, x3), some (0, x4)] [] G R V := by
  refine wp_ld (i := (.iload_n 3)) (0, x3) rfl rfl (fun _ => rfl) rfl rfl (?_ : wpv K_X6_fillPowers d P 18 [some (4, (p0 : Int)), some (0, x1), some (0, x2), some (0, x3), some (0, x4)] [(0, x3)] G R V)
  obtain ⟨s1, w⟩ := w
  refine wp_if (c := .eq) 43 rfl rfl rfl s1 (fun q => ?_) (fun q => ?_)
  · have q : x3 = 0 := q
    replace w := w.1 q
    show wpv K_X6_fillPowers d P 43 [some (4, (p0 : Int)), some (0, x1), some (0, x2), some (0, x3), some (0, x4)] [] G R V
    refine wp_ld (i := (.aload_n 0)) (4, (p0 : Int)) rfl rfl (fun _ => rfl) rfl rfl (?_ : wpv K_X6_fillPowers d P 44 [some (4, (p0 : Int)), some (0, x1), some (0, x2), some (0, x3), some (0, x4)] [(4, (p0 : Int))] G R V)
    refine wp_getA (k := 5) rfl rfl rfl (ly6_o l0) rfl rfl (ly6_5 l0).1 (?_ : wpv K_X6_fillPowers d P 47 [some (4, (p0 : Int)), some (0, x1), some (0, x2), some (0, x3), some (0, x4)] [(4, ((p0 + 3 : Nat) : Int))] G R V)
    refine wp_ld (i := (.iload_n 1)) (0, x1) rfl rfl (fun _ => rfl) rfl rfl (?_ : wpv K_X6_fillPowers d P 48 [some (4, (p0 : Int)), some (0, x1), some (0, x2), some (0, x3), some (0, x4)] [(0, x1), (4, ((p0 + 3 : Nat) : Int))] G R V)
    refine wp_ld (i := (.iload 4)) (0, x4) rfl rfl (fun _ => rfl) rfl rfl (?_ : wpv K_X6_fillPowers d P 50 [some (4, (p0 : Int)), some (0, x1), some (0, x2), some (0, x3), some (0, x4)] [(0, x4), (0, x1), (4, ((p0 + 3 : Nat) : Int))] G R V)
    obtain ⟨s2, w⟩ := w
    obtain ⟨s3, w⟩ := w
    refine wp_sI rfl rfl (ly6_5 l0).2 s2 s3 (?_ : wpv K_X6_fillPowers d P 51 [some (4, (p0 : Int)), some (0, x1), some (0, x2), some (0, x3), some (0, x4)] [] G R (wr V (p0 + 3) x1 x4))
    refine wp_ld (i := (.aload_n 0)) (4, (p0 : Int)) rfl rfl (fun _ => rfl) rfl rfl (?_ : wpv K_X6_fillPowers d P 52 [some (4, (p0 : Int)), some (0, x1), some (0, x2), some (0, x3), some (0, x4)] [(4, (p0 : Int))] G R (wr V (p0 + 3) x1 x4))
    refine wp_getA (k := 4) rfl rfl rfl (ly6_o l0) rfl rfl (ly6_4 l0).1 (?_ : wpv K_X6_fillPowers d P 55 [some (4, (p0 : Int)), some (0, x1), some (0, x2), some (0, x3), some (0, x4)] [(4, ((p0 + 2 : Nat) : Int))] G R (wr V (p0 + 3) x1 x4))
    refine wp_ld (i := (.iload_n 1)) (0, x1) rfl rfl (fun _ => rfl) rfl rfl (?_ : wpv K_X6_fillPowers d P 56 [some (4, (p0 : Int)), some (0, x1), some (0, x2), some (0, x3), some (0, x4)] [(0, x1), (4, ((p0 + 2 : Nat) : Int))] G R (wr V (p0 + 3) x1 x4))
    refine wp_ld (i := (.iload_n 2)) (0, x2) rfl rfl (fun _ => rfl) rfl rfl (?_ : wpv K_X6_fillPowers d P 57 [some (4, (p0 : Int)), some (0, x1), some (0, x2), some (0, x3), some (0, x4)] [(0, x2), (0, x1), (4, ((p0 + 2 : Nat) : Int))] G R (wr V (p0 + 3) x1 x4))
    obtain ⟨s4, w⟩ := w
    refine wp_sI rfl rfl (ly6_4 l0).2 s2 s4 (?_ : wpv K_X6_fillPowers d P 58 [some (4, (p0 : Int)), some (0, x1), some (0, x2), some (0, x3), some (0, x4)] [] G R (wr (wr V (p0 + 3) x1 x4) (p0 + 2) x1 x2))
    obtain ⟨s5, w⟩ := w
    refine wp_inc (x := 1) (k := 1) (a := x1) (c := (x1 + 1)) _ rfl rfl rfl rfl s5 (by omega) rfl ?_
    show wpv K_X6_fillPowers d P 61 [some (4, (p0 : Int)), some (0, (x1 + 1)), some (0, x2), some (0, x3), some (0, x4)] [] G R (wr (wr V (p0 + 3) x1 x4) (p0 + 2) x1 x2)
    refine wp_go 2 rfl rfl rfl (?_ : wpv K_X6_fillPowers d P 2 [some (4, (p0 : Int)), some (0, (x1 + 1)), some (0, x2), some (0, x3), some (0, x4)] [] G R (wr (wr V (p0 + 3) x1 x4) (p0 + 2) x1 x2))
    exact wp_wk (wk_s (wk_s wk_0)) w
  · have q : ¬ x3 = 0 := q
    replace w := w.2 q
    show wpv K_X6_fillPowers d P 21 [some (4, (p0 : Int)), some (0, x1), some (0, x2), some (0, x3), some (0, x4)] [] G R V
    refine wp_ld (i := (.iload 4)) (0, x4) rfl rfl (fun _ => rfl) rfl rfl (?_ : wpv K_X6_fillPowers d P 23 [some (4, (p0 : Int)), some (0, x1), some (0, x2), some (0, x3), some (0, x4)] [(0, x4)] G R V)
    refine wp_p (i := (.bipush 120)) rfl rfl (fun _ _ _ => rfl) (?_ : wpv K_X6_fillPowers d P 25 [some (4, (p0 : Int)), some (0, x1), some (0, x2), some (0, x3), some (0, x4)] [(0, 120), (0, x4)] G R V)
    obtain ⟨s6, w⟩ := w
    refine wp_icmp (c := .gt) 43 rfl rfl rfl s6 ⟨by omega, by omega⟩ (fun q => ?_) (fun q => ?_)
    · have q : 120 < x4 := q
      replace w := w.1 q
      show wpv K_X6_fillPowers d P 43 [some (4, (p0 : Int)), some (0, x1), some (0, x2), some (0, x3), some (0, x4)] [] G R V
      refine wp_ld (i := (.aload_n 0)) (4, (p0 : Int)) rfl rfl (fun _ => rfl) rfl rfl (?_ : wpv K_X6_fillPowers d P 44 [some (4, (p0 : Int)), some (0, x1), some (0, x2), some (0, x3), some (0, x4)] [(4, (p0 : Int))] G R V)
      refine wp_getA (k := 5) rfl rfl rfl (ly6_o l0) rfl rfl (ly6_5 l0).1 (?_ : wpv K_X6_fillPowers d P 47 [some (4, (p0 : Int)), some (0, x1), some (0, x2), some (0, x3), some (0, x4)] [(4, ((p0 + 3 : Nat) : Int))] G R V)
      refine wp_ld (i := (.iload_n 1)) (0, x1) rfl rfl (fun _ => rfl) rfl rfl (?_ : wpv K_X6_fillPowers d P 48 [some (4, (p0 : Int)), some (0, x1), some (0, x2), some (0, x3), some (0, x4)] [(0, x1), (4, ((p0 + 3 : Nat) : Int))] G R V)
      refine wp_ld (i := (.iload 4)) (0, x4) rfl rfl (fun _ => rfl) rfl rfl (?_ : wpv K_X6_fillPowers d P 50 [some (4, (p0 : Int)), some (0, x1), some (0, x2), some (0, x3), some (0, x4)] [(0, x4), (0, x1), (4, ((p0 + 3 : Nat) : Int))] G R V)
      obtain ⟨s7, w⟩ := w
      refine wp_sI rfl rfl (ly6_5 l0).2 s7 s6 (?_ : wpv K_X6_fillPowers d P 51 [some (4, (p0 : Int)), some (0, x1), some (0, x2), some (0, x3), some (0, x4)] [] G R (wr V (p0 + 3) x1 x4))
      refine wp_ld (i := (.aload_n 0)) (4, (p0 : Int)) rfl rfl (fun _ => rfl) rfl rfl (?_ : wpv K_X6_fillPowers d P 52 [some (4, (p0 : Int)), some (0, x1), some (0, x2), some (0, x3), some (0, x4)] [(4, (p0 : Int))] G R (wr V (p0 + 3) x1 x4))
      refine wp_getA (k := 4) rfl rfl rfl (ly6_o l0) rfl rfl (ly6_4 l0).1 (?_ : wpv K_X6_fillPowers d P 55 [some (4, (p0 : Int)), some (0, x1), some (0, x2), some (0, x3), some (0, x4)] [(4, ((p0 + 2 : Nat) : Int))] G R (wr V (p0 + 3) x1 x4))
      refine wp_ld (i := (.iload_n 1)) (0, x1) rfl rfl (fun _ => rfl) rfl rfl (?_ : wpv K_X6_fillPowers d P 56 [some (4, (p0 : Int)), some (0, x1), some (0, x2), some (0, x3), some (0, x4)] [(0, x1), (4, ((p0 + 2 : Nat) : Int))] G R (wr V (p0 + 3) x1 x4))
      refine wp_ld (i := (.iload_n 2)) (0, x2) rfl rfl (fun _ => rfl) rfl rfl (?_ : wpv K_X6_fillPowers d P 57 [some (4, (p0 : Int)), some (0, x1), some (0, x2), some (0, x3), some (0, x4)] [(0, x2), (0, x1), (4, ((p0 + 2 : Nat) : Int))] G R (wr V (p0 + 3) x1 x4))
      obtain ⟨s8, w⟩ := w
      refine wp_sI rfl rfl (ly6_4 l0).2 s7 s8 (?_ : wpv K_X6_fillPowers d P 58 [some (4, (p0 : Int)), some (0, x1), some (0, x2), some (0, x3), some (0, x4)] [] G R (wr (wr V (p0 + 3) x1 x4) (p0 + 2) x1 x2))
      obtain ⟨s9, w⟩ := w
      refine wp_inc (x := 1) (k := 1) (a := x1) (c := (x1 + 1)) _ rfl rfl rfl rfl s9 (by omega) rfl ?_
      show wpv K_X6_fillPowers d P 61 [some (4, (p0 : Int)), some (0, (x1 + 1)), some (0, x2), some (0, x3), some (0, x4)] [] G R (wr (wr V (p0 + 3) x1 x4) (p0 + 2) x1 x2)
      refine wp_go 2 rfl rfl rfl (?_ : wpv K_X6_fillPowers d P 2 [some (4, (p0 : Int)), some (0, (x1 + 1)), some (0, x2), some (0, x3), some (0, x4)] [] G R (wr (wr V (p0 + 3) x1 x4) (p0 + 2) x1 x2))
      exact wp_wk (wk_s (wk_s wk_0)) w
    · have q : ¬ 120 < x4 := q
      replace w := w.2 q
      show wpv K_X6_fillPowers d P 28 [some (4, (p0 : Int)), some (0, x1), some (0, x2), some (0, x3), some (0, x4)] [] G R V
      refine wp_ld (i := (.iload_n 3)) (0, x3) rfl rfl (fun _ => rfl) rfl rfl (?_ : wpv K_X6_fillPowers d P 29 [some (4, (p0 : Int)), some (0, x1), some (0, x2), some (0, x3), some (0, x4)] [(0, x3)] G R V)
      refine wp_sto (i := (.istore_n 2)) _ rfl rfl (fun _ => rfl) rfl rfl rfl ?_
      refine wp_wk (L' := [some (4, (p0 : Int)), some (0, x1), some (0, x3), some (0, x3), some (0, x4)]) (wk_s (wk_s (wk_s (wk_s (wk_s wk_0))))) ?_
      show wpv K_X6_fillPowers d P 30 [some (4, (p0 : Int)), some (0, x1), some (0, x3), some (0, x3), some (0, x4)] [] G R V
      refine wp_ld (i := (.aload_n 0)) (4, (p0 : Int)) rfl rfl (fun _ => rfl) rfl rfl (?_ : wpv K_X6_fillPowers d P 31 [some (4, (p0 : Int)), some (0, x1), some (0, x3), some (0, x3), some (0, x4)] [(4, (p0 : Int))] G R V)
      refine wp_ld (i := (.iload_n 3)) (0, x3) rfl rfl (fun _ => rfl) rfl rfl (?_ : wpv K_X6_fillPowers d P 32 [some (4, (p0 : Int)), some (0, x1), some (0, x3), some (0, x3), some (0, x4)] [(0, x3), (4, (p0 : Int))] G R V)
      refine wp_ld (i := (.iload_n 1)) (0, x1) rfl rfl (fun _ => rfl) rfl rfl (?_ : wpv K_X6_fillPowers d P 33 [some (4, (p0 : Int)), some (0, x1), some (0, x3), some (0, x3), some (0, x4)] [(0, x1), (0, x3), (4, (p0 : Int))] G R V)
      refine wp_virt (as := [(0, x3), (0, x1)]) (a := p0) (st := []) _ rfl rfl rfl rfl rfl rfl (ly6_o l0) (Nat.le_of_ble_eq_true rfl) (cwv_kI w (fun v11 V10 w => ?_))
      show wpv K_X6_fillPowers d P 36 [some (4, (p0 : Int)), some (0, x1), some (0, x3), some (0, x3), some (0, x4)] [(0, v11)] G R V10
      refine wp_sto (i := (.istore_n 3)) _ rfl rfl (fun _ => rfl) rfl rfl rfl ?_
      refine wp_wk (L' := [some (4, (p0 : Int)), some (0, x1), some (0, x3), some (0, v11), some (0, x4)]) (wk_s (wk_s (wk_s (wk_s (wk_s wk_0))))) ?_
      show wpv K_X6_fillPowers d P 37 [some (4, (p0 : Int)), some (0, x1), some (0, x3), some (0, v11), some (0, x4)] [] G R V10
      obtain ⟨s12, w⟩ := w
      refine wp_inc (x := 4) (k := 1) (a := x4) (c := (x4 + 1)) _ rfl rfl rfl rfl s12 (by omega) rfl ?_
      show wpv K_X6_fillPowers d P 40 [some (4, (p0 : Int)), some (0, x1), some (0, x3), some (0, v11), some (0, (x4 + 1))] [] G R V10
      refine wp_go 17 rfl rfl rfl (?_ : wpv K_X6_fillPowers d P 17 [some (4, (p0 : Int)), some (0, x1), some (0, x3), some (0, v11), some (0, (x4 + 1))] [] G R V10)
      exact wp_wk (wk_s (wk_s (wk_s (wk_s (wk_s wk_0))))) w
theorem t_X7_sheet_0 {d : Nat} {P : gP} {p0 : Nat} {x1 : Int} {x2 : Int} {x3 : Int} {G : List gS} {R V : gV} (l0 : lay7 G R p0) (w : ((i32 x1) ∧ (((x1 < 0) → cwv d (fun r V2 => ∃ v3 : Int, r = some (0, v3) ∧ P (some (0, v3)) V2) 138 [(4, (p0 : Int)), (0, (-1))] G R V) ∧ ((¬ x1 < 0) → (((¬ x1 < 4) → cwv d (fun r V4 => ∃ v5 : Int, r = some (0, v5) ∧ P (some (0, v5)) V4) 138 [(4, (p0 : Int)), (0, (-1))] G R V) ∧ ((x1 < 4) → ((i32 x2) ∧ (((x2 < 0) → cwv d (fun r V7 => ∃ v8 : Int, r = some (0, v8) ∧ P (some (0, v8)) V7) 138 [(4, (p0 : Int)), (0, (-1))] G R V) ∧ ((¬ x2 < 0) → (((2 < x2) → cwv d (fun r V9 => ∃ v10 : Int, r = some (0, v10) ∧ P (some (0, v10)) V9) 138 [(4, (p0 : Int)), (0, (-1))] G R V) ∧ ((¬ 2 < x2) → ((i32 x3) ∧ (((¬ 8 < x3) → (((¬ x3 < 0) → ((0 ≤ x1 ∧ x1 < 4) ∧ (∃ b13 : Nat, (R (p0 + 1) x1 = (b13 : Int) ∧ lay5 G R b13) ∧ cwv d (fun r V14 => r = none ∧ cwv d (fun r V15 => ∃ v16 : Int, r = some (0, v16) ∧ P (some (0, v16)) V15) 139 [(4, (p0 : Int)), (0, x3)] G R V14) 82 [(4, (b13 : Int)), (0, x2), (0, x3)] G R V))) ∧ ((x3 < 0) → ((0 ≤ x1 ∧ x1 < 4) ∧ (∃ b18 : Nat, (R (p0 + 1) x1 = (b18 : Int) ∧ lay5 G R b18) ∧ cwv d (fun r V19 => r = none ∧ cwv d (fun r V20 => ∃ v21 : Int, r = some (0, v21) ∧ P (some (0, v21)) V20) 138 [(4, (p0 : Int)), (0, (-4))] G R V19) 83 [(4, (b18 : Int))] G R V))))) ∧ ((8 < x3) → cwv d (fun r V22 => ∃ v23 : Int, r = some (0, v23) ∧ P (some (0, v23)) V22) 138 [(4, (p0 : Int)), (0, (-1))] G R V)))))))))))))) : wpv K_X7_sheet d P 0 [some (4, (p0 : Int)), some (0, x1), some (0, x2), some (0, x3)] [] G R V := by
  refine wp_ld (i := (.iload_n 1)) (0, x1) rfl rfl (fun _ => rfl) rfl rfl (?_ : wpv K_X7_sheet d P 1 [some (4, (p0 : Int)), some (0, x1), some (0, x2), some (0, x3)] [(0, x1)] G R V)
  obtain ⟨s1, w⟩ := w
  refine wp_if (c := .lt) 24 rfl rfl rfl s1 (fun q => ?_) (fun q => ?_)
  · have q : x1 < 0 := q
    replace w := w.1 q
    show wpv K_X7_sheet d P 24 [some (4, (p0 : Int)), some (0, x1), some (0, x2), some (0, x3)] [] G R V
    refine wp_ld (i := (.aload_n 0)) (4, (p0 : Int)) rfl rfl (fun _ => rfl) rfl rfl (?_ : wpv K_X7_sheet d P 25 [some (4, (p0 : Int)), some (0, x1), some (0, x2), some (0, x3)] [(4, (p0 : Int))] G R V)
    refine wp_p (i := (.iconst (-1))) rfl rfl (fun _ _ _ => rfl) (?_ : wpv K_X7_sheet d P 26 [some (4, (p0 : Int)), some (0, x1), some (0, x2), some (0, x3)] [(0, (-1)), (4, (p0 : Int))] G R V)
    refine wp_virt (as := [(0, (-1))]) (a := p0) (st := []) _ rfl rfl rfl rfl rfl rfl (ly7_o l0) (Nat.le_of_ble_eq_true rfl) (cwv_kI w (fun v3 V2 w => ?_))
    show wpv K_X7_sheet d P 29 [some (4, (p0 : Int)), some (0, x1), some (0, x2), some (0, x3)] [(0, v3)] G R V2
    exact wp_rI rfl rfl rfl w
  · have q : ¬ x1 < 0 := q
    replace w := w.2 q
    show wpv K_X7_sheet d P 4 [some (4, (p0 : Int)), some (0, x1), some (0, x2), some (0, x3)] [] G R V
    refine wp_ld (i := (.iload_n 1)) (0, x1) rfl rfl (fun _ => rfl) rfl rfl (?_ : wpv K_X7_sheet d P 5 [some (4, (p0 : Int)), some (0, x1), some (0, x2), some (0, x3)] [(0, x1)] G R V)
    refine wp_p (i := (.iconst 4)) rfl rfl (fun _ _ _ => rfl) (?_ : wpv K_X7_sheet d P 6 [some (4, (p0 : Int)), some (0, x1), some (0, x2), some (0, x3)] [(0, 4), (0, x1)] G R V)
    refine wp_icmp (c := .ge) 24 rfl rfl rfl s1 ⟨by omega, by omega⟩ (fun q => ?_) (fun q => ?_)
    · have q : ¬ x1 < 4 := q
      replace w := w.1 q
      show wpv K_X7_sheet d P 24 [some (4, (p0 : Int)), some (0, x1), some (0, x2), some (0, x3)] [] G R V
      refine wp_ld (i := (.aload_n 0)) (4, (p0 : Int)) rfl rfl (fun _ => rfl) rfl rfl (?_ : wpv K_X7_sheet d P 25 [some (4, (p0 : Int)), some (0, x1), some (0, x2), some (0, x3)] [(4, (p0 : Int))] G R V)
      refine wp_p (i := (.iconst (-1))) rfl rfl (fun _ _ _ => rfl) (?_ : wpv K_X7_sheet d P 26 [some (4, (p0 : Int)), some (0, x1), some (0, x2), some (0, x3)] [(0, (-1)), (4, (p0 : Int))] G R V)
      refine wp_virt (as := [(0, (-1))]) (a := p0) (st := []) _ rfl rfl rfl rfl rfl rfl (ly7_o l0) (Nat.le_of_ble_eq_true rfl) (cwv_kI w (fun v5 V4 w => ?_))
      show wpv K_X7_sheet d P 29 [some (4, (p0 : Int)), some (0, x1), some (0, x2), some (0, x3)] [(0, v5)] G R V4
      exact wp_rI rfl rfl rfl w
    · have q : x1 < 4 := Decidable.not_not.mp q
      replace w := w.2 q
      show wpv K_X7_sheet d P 9 [some (4, (p0 : Int)), some (0, x1), some (0, x2), some (0, x3)] [] G R V
      refine wp_ld (i := (.iload_n 2)) (0, x2) rfl rfl (fun _ => rfl) rfl rfl (?_ : wpv K_X7_sheet d P 10 [some (4, (p0 : Int)), some (0, x1), some (0, x2), some (0, x3)] [(0, x2)] G R V)
      obtain ⟨s6, w⟩ := w
      refine wp_if (c := .lt) 24 rfl rfl rfl s6 (fun q => ?_) (fun q => ?_)
      · have q : x2 < 0 := q
        replace w := w.1 q
        show wpv K_X7_sheet d P 24 [some (4, (p0 : Int)), some (0, x1), some (0, x2), some (0, x3)] [] G R V
        refine wp_ld (i := (.aload_n 0)) (4, (p0 : Int)) rfl rfl (fun _ => rfl) rfl rfl (?_ : wpv K_X7_sheet d P 25 [some (4, (p0 : Int)), some (0, x1), some (0, x2), some (0, x3)] [(4, (p0 : Int))] G R V)
        refine wp_p (i := (.iconst (-1))) rfl rfl (fun _ _ _ => rfl) (?_ : wpv K_X7_sheet d P 26 [some (4, (p0 : Int)), some (0, x1), some (0, x2), some (0, x3)] [(0, (-1)), (4, (p0 : Int))] G R V)
        refine wp_virt (as := [(0, (-1))]) (a := p0) (st := []) _ rfl rfl rfl rfl rfl rfl (ly7_o l0) (Nat.le_of_ble_eq_true rfl) (cwv_kI w (fun v8 V7 w => ?_))
        show wpv K_X7_sheet d P 29 [some (4, (p0 : Int)), some (0, x1), some (0, x2), some (0, x3)] [(0, v8)] G R V7
        exact wp_rI rfl rfl rfl w
      · have q : ¬ x2 < 0 := q
        replace w := w.2 q
        show wpv K_X7_sheet d P 13 [some (4, (p0 : Int)), some (0, x1), some (0, x2), some (0, x3)] [] G R V
        refine wp_ld (i := (.iload_n 2)) (0, x2) rfl rfl (fun _ => rfl) rfl rfl (?_ : wpv K_X7_sheet d P 14 [some (4, (p0 : Int)), some (0, x1), some (0, x2), some (0, x3)] [(0, x2)] G R V)
        refine wp_p (i := (.iconst 2)) rfl rfl (fun _ _ _ => rfl) (?_ : wpv K_X7_sheet d P 15 [some (4, (p0 : Int)), some (0, x1), some (0, x2), some (0, x3)] [(0, 2), (0, x2)] G R V)
        refine wp_icmp (c := .gt) 24 rfl rfl rfl s6 ⟨by omega, by omega⟩ (fun q => ?_) (fun q => ?_)
        · have q : 2 < x2 := q
          replace w := w.1 q
          show wpv K_X7_sheet d P 24 [some (4, (p0 : Int)), some (0, x1), some (0, x2), some (0, x3)] [] G R V
          refine wp_ld (i := (.aload_n 0)) (4, (p0 : Int)) rfl rfl (fun _ => rfl) rfl rfl (?_ : wpv K_X7_sheet d P 25 [some (4, (p0 : Int)), some (0, x1), some (0, x2), some (0, x3)] [(4, (p0 : Int))] G R V)
          refine wp_p (i := (.iconst (-1))) rfl rfl (fun _ _ _ => rfl) (?_ : wpv K_X7_sheet d P 26 [some (4, (p0 : Int)), some (0, x1), some (0, x2), some (0, x3)] [(0, (-1)), (4, (p0 : Int))] G R V)
          refine wp_virt (as := [(0, (-1))]) (a := p0) (st := []) _ rfl rfl rfl rfl rfl rfl (ly7_o l0) (Nat.le_of_ble_eq_true rfl) (cwv_kI w (fun v10 V9 w => ?_))
          show wpv K_X7_sheet d P 29 [some (4, (p0 : Int)), some (0, x1), some (0, x2), some (0, x3)] [(0, v10)] G R V9
          exact wp_rI rfl rfl rfl w
        · have q : ¬ 2 < x2 := q
          replace w := w.2 q
          show wpv K_X7_sheet d P 18 [some (4, (p0 : Int)), some (0, x1), some (0, x2), some (0, x3)] [] G R V
          refine wp_ld (i := (.iload_n 3)) (0, x3) rfl rfl (fun _ => rfl) rfl rfl (?_ : wpv K_X7_sheet d P 19 [some (4, (p0 : Int)), some (0, x1), some (0, x2), some (0, x3)] [(0, x3)] G R V)
          refine wp_p (i := (.bipush 8)) rfl rfl (fun _ _ _ => rfl) (?_ : wpv K_X7_sheet d P 21 [some (4, (p0 : Int)), some (0, x1), some (0, x2), some (0, x3)] [(0, 8), (0, x3)] G R V)
          obtain ⟨s11, w⟩ := w
          refine wp_icmp (c := .le) 30 rfl rfl rfl s11 ⟨by omega, by omega⟩ (fun q => ?_) (fun q => ?_)
          · have q : ¬ 8 < x3 := q
            replace w := w.1 q
            show wpv K_X7_sheet d P 30 [some (4, (p0 : Int)), some (0, x1), some (0, x2), some (0, x3)] [] G R V
            refine wp_ld (i := (.iload_n 3)) (0, x3) rfl rfl (fun _ => rfl) rfl rfl (?_ : wpv K_X7_sheet d P 31 [some (4, (p0 : Int)), some (0, x1), some (0, x2), some (0, x3)] [(0, x3)] G R V)
            refine wp_if (c := .ge) 50 rfl rfl rfl s11 (fun q => ?_) (fun q => ?_)
            · have q : ¬ x3 < 0 := q
              replace w := w.1 q
              show wpv K_X7_sheet d P 50 [some (4, (p0 : Int)), some (0, x1), some (0, x2), some (0, x3)] [] G R V
              refine wp_ld (i := (.aload_n 0)) (4, (p0 : Int)) rfl rfl (fun _ => rfl) rfl rfl (?_ : wpv K_X7_sheet d P 51 [some (4, (p0 : Int)), some (0, x1), some (0, x2), some (0, x3)] [(4, (p0 : Int))] G R V)
              refine wp_getA (k := 0) rfl rfl rfl (ly7_o l0) rfl rfl (ly7_0 l0).1 (?_ : wpv K_X7_sheet d P 54 [some (4, (p0 : Int)), some (0, x1), some (0, x2), some (0, x3)] [(4, ((p0 + 1 : Nat) : Int))] G R V)
              refine wp_ld (i := (.iload_n 1)) (0, x1) rfl rfl (fun _ => rfl) rfl rfl (?_ : wpv K_X7_sheet d P 55 [some (4, (p0 : Int)), some (0, x1), some (0, x2), some (0, x3)] [(0, x1), (4, ((p0 + 1 : Nat) : Int))] G R V)
              obtain ⟨s12, w⟩ := w
              obtain ⟨b13, ⟨r13, l13_⟩, w⟩ := w
              refine wp_aA rfl rfl (ly7_0 l0).2 rfl s12 r13 (?_ : wpv K_X7_sheet d P 56 [some (4, (p0 : Int)), some (0, x1), some (0, x2), some (0, x3)] [(4, (b13 : Int))] G R V)
              refine wp_ld (i := (.iload_n 2)) (0, x2) rfl rfl (fun _ => rfl) rfl rfl (?_ : wpv K_X7_sheet d P 57 [some (4, (p0 : Int)), some (0, x1), some (0, x2), some (0, x3)] [(0, x2), (4, (b13 : Int))] G R V)
              refine wp_ld (i := (.iload_n 3)) (0, x3) rfl rfl (fun _ => rfl) rfl rfl (?_ : wpv K_X7_sheet d P 58 [some (4, (p0 : Int)), some (0, x1), some (0, x2), some (0, x3)] [(0, x3), (0, x2), (4, (b13 : Int))] G R V)
              refine wp_virt (as := [(0, x2), (0, x3)]) (a := b13) (st := []) _ rfl rfl rfl rfl rfl rfl (ly5_o l13_) (Nat.le_of_ble_eq_true rfl) (cwv_k0 w (fun V14 w => ?_))
              show wpv K_X7_sheet d P 61 [some (4, (p0 : Int)), some (0, x1), some (0, x2), some (0, x3)] [] G R V14
              refine wp_ld (i := (.aload_n 0)) (4, (p0 : Int)) rfl rfl (fun _ => rfl) rfl rfl (?_ : wpv K_X7_sheet d P 62 [some (4, (p0 : Int)), some (0, x1), some (0, x2), some (0, x3)] [(4, (p0 : Int))] G R V14)
              refine wp_ld (i := (.iload_n 3)) (0, x3) rfl rfl (fun _ => rfl) rfl rfl (?_ : wpv K_X7_sheet d P 63 [some (4, (p0 : Int)), some (0, x1), some (0, x2), some (0, x3)] [(0, x3), (4, (p0 : Int))] G R V14)
              refine wp_virt (as := [(0, x3)]) (a := p0) (st := []) _ rfl rfl rfl rfl rfl rfl (ly7_o l0) (Nat.le_of_ble_eq_true rfl) (cwv_kI w (fun v16 V15 w => ?_))
              show wpv K_X7_sheet d P 66 [some (4, (p0 : Int)), some (0, x1), some (0, x2), some (0, x3)] [(0, v16)] G R V15
              exact wp_rI rfl rfl rfl w
            · have q : x3 < 0 := Decidable.not_not.mp q
              replace w := w.2 q
              show wpv K_X7_sheet d P 34 [some (4, (p0 : Int)), some (0, x1), some (0, x2), some (0, x3)] [] G R V
              refine wp_ld (i := (.aload_n 0)) (4, (p0 : Int)) rfl rfl (fun _ => rfl) rfl rfl (?_ : wpv K_X7_sheet d P 35 [some (4, (p0 : Int)), some (0, x1), some (0, x2), some (0, x3)] [(4, (p0 : Int))] G R V)
              refine wp_getA (k := 0) rfl rfl rfl (ly7_o l0) rfl rfl (ly7_0 l0).1 (?_ : wpv K_X7_sheet d P 38 [some (4, (p0 : Int)), some (0, x1), some (0, x2), some (0, x3)] [(4, ((p0 + 1 : Nat) : Int))] G R V)
              refine wp_ld (i := (.iload_n 1)) (0, x1) rfl rfl (fun _ => rfl) rfl rfl (?_ : wpv K_X7_sheet d P 39 [some (4, (p0 : Int)), some (0, x1), some (0, x2), some (0, x3)] [(0, x1), (4, ((p0 + 1 : Nat) : Int))] G R V)
              obtain ⟨s17, w⟩ := w
              obtain ⟨b18, ⟨r18, l18_⟩, w⟩ := w
              refine wp_aA rfl rfl (ly7_0 l0).2 rfl s17 r18 (?_ : wpv K_X7_sheet d P 40 [some (4, (p0 : Int)), some (0, x1), some (0, x2), some (0, x3)] [(4, (b18 : Int))] G R V)
              refine wp_virt (as := []) (a := b18) (st := []) _ rfl rfl rfl rfl rfl rfl (ly5_o l18_) (Nat.le_of_ble_eq_true rfl) (cwv_k0 w (fun V19 w => ?_))
              show wpv K_X7_sheet d P 43 [some (4, (p0 : Int)), some (0, x1), some (0, x2), some (0, x3)] [] G R V19
              refine wp_ld (i := (.aload_n 0)) (4, (p0 : Int)) rfl rfl (fun _ => rfl) rfl rfl (?_ : wpv K_X7_sheet d P 44 [some (4, (p0 : Int)), some (0, x1), some (0, x2), some (0, x3)] [(4, (p0 : Int))] G R V19)
              refine wp_p (i := (.bipush (-4))) rfl rfl (fun _ _ _ => rfl) (?_ : wpv K_X7_sheet d P 46 [some (4, (p0 : Int)), some (0, x1), some (0, x2), some (0, x3)] [(0, (-4)), (4, (p0 : Int))] G R V19)
              refine wp_virt (as := [(0, (-4))]) (a := p0) (st := []) _ rfl rfl rfl rfl rfl rfl (ly7_o l0) (Nat.le_of_ble_eq_true rfl) (cwv_kI w (fun v21 V20 w => ?_))
              show wpv K_X7_sheet d P 49 [some (4, (p0 : Int)), some (0, x1), some (0, x2), some (0, x3)] [(0, v21)] G R V20
              exact wp_rI rfl rfl rfl w
          · have q : 8 < x3 := Decidable.not_not.mp q
            replace w := w.2 q
            show wpv K_X7_sheet d P 24 [some (4, (p0 : Int)), some (0, x1), some (0, x2), some (0, x3)] [] G R V
            refine wp_ld (i := (.aload_n 0)) (4, (p0 : Int)) rfl rfl (fun _ => rfl) rfl rfl (?_ : wpv K_X7_sheet d P 25 [some (4, (p0 : Int)), some (0, x1), some (0, x2), some (0, x3)] [(4, (p0 : Int))] G R V)
            refine wp_p (i := (.iconst (-1))) rfl rfl (fun _ _ _ => rfl) (?_ : wpv K_X7_sheet d P 26 [some (4, (p0 : Int)), some (0, x1), some (0, x2), some (0, x3)] [(0, (-1)), (4, (p0 : Int))] G R V)
            refine wp_virt (as := [(0, (-1))]) (a := p0) (st := []) _ rfl rfl rfl rfl rfl rfl (ly7_o l0) (Nat.le_of_ble_eq_true rfl) (cwv_kI w (fun v23 V22 w => ?_))
            show wpv K_X7_sheet d P 29 [some (4, (p0 : Int)), some (0, x1), some (0, x2), some (0, x3)] [(0, v23)] G R V22
            exact wp_rI rfl rfl rfl w
theorem t_X7_write_0 {d : Nat} {P : gP} {p0 : Nat} {x1 : Int} {x2 : Int} {x3 : Int} {G : List gS} {R V : gV} (l0 : lay7 G R p0) (w : ((i32 x1) ∧ (((x1 < 0) → cwv d (fun r V2 => ∃ v3 : Int, r = some (0, v3) ∧ P (some (0, v3)) V2) 138 [(4, (p0 : Int)), (0, (-1))] G R V) ∧ ((¬ x1 < 0) → (((x1 < 4) → ((0 ≤ x1 ∧ x1 < 4) ∧ (∃ b5 : Nat, (R (p0 + 1) x1 = (b5 : Int) ∧ lay5 G R b5) ∧ cwv d (fun r V6 => ∃ v7 : Int, r = some (0, v7) ∧ ((i32 v7) ∧ (((v7 = 0) → cwv d (fun r V9 => ∃ v10 : Int, r = some (0, v10) ∧ ((i32 v10) ∧ (((¬ v10 = 0) → cwv d (fun r V12 => ∃ v13 : Int, r = some (0, v13) ∧ P (some (0, v13)) V12) 139 [(4, (p0 : Int)), (0, 0)] G R V9) ∧ ((v10 = 0) → cwv d (fun r V14 => ∃ v15 : Int, r = some (0, v15) ∧ P (some (0, v15)) V14) 138 [(4, (p0 : Int)), (0, (-3))] G R V9)))) 85 [(4, (b5 : Int)), (0, x2), (0, x3)] G R V6) ∧ ((¬ v7 = 0) → cwv d (fun r V16 => ∃ v17 : Int, r = some (0, v17) ∧ P (some (0, v17)) V16) 138 [(4, (p0 : Int)), (0, (-2))] G R V6)))) 84 [(4, (b5 : Int))] G R V))) ∧ ((¬ x1 < 4) → cwv d (fun r V18 => ∃ v19 : Int, r = some (0, v19) ∧ P (some (0, v19)) V18) 138 [(4, (p0 : Int)), (0, (-1))] G R V)))))) : wpv K_X7_write d P 0 [some (4, (p0 : Int)), some (0, x1), some (0, x2), some (0, x3)] [] G R V := by
  refine wp_ld (i := (.iload_n 1)) (0, x1) rfl rfl (fun _ => rfl) rfl rfl (?_ : wpv K_X7_write d P 1 [some (4, (p0 : Int)), some (0, x1), some (0, x2), some (0, x3)] [(0, x1)] G R V)
  obtain ⟨s1, w⟩ := w
  refine wp_if (c := .lt) 9 rfl rfl rfl s1 (fun q => ?_) (fun q => ?_)
  · have q : x1 < 0 := q
    replace w := w.1 q
    show wpv K_X7_write d P 9 [some (4, (p0 : Int)), some (0, x1), some (0, x2), some (0, x3)] [] G R V
    refine wp_ld (i := (.aload_n 0)) (4, (p0 : Int)) rfl rfl (fun _ => rfl) rfl rfl (?_ : wpv K_X7_write d P 10 [some (4, (p0 : Int)), some (0, x1), some (0, x2), some (0, x3)] [(4, (p0 : Int))] G R V)
    refine wp_p (i := (.iconst (-1))) rfl rfl (fun _ _ _ => rfl) (?_ : wpv K_X7_write d P 11 [some (4, (p0 : Int)), some (0, x1), some (0, x2), some (0, x3)] [(0, (-1)), (4, (p0 : Int))] G R V)
    refine wp_virt (as := [(0, (-1))]) (a := p0) (st := []) _ rfl rfl rfl rfl rfl rfl (ly7_o l0) (Nat.le_of_ble_eq_true rfl) (cwv_kI w (fun v3 V2 w => ?_))
    show wpv K_X7_write d P 14 [some (4, (p0 : Int)), some (0, x1), some (0, x2), some (0, x3)] [(0, v3)] G R V2
    exact wp_rI rfl rfl rfl w
  · have q : ¬ x1 < 0 := q
    replace w := w.2 q
    show wpv K_X7_write d P 4 [some (4, (p0 : Int)), some (0, x1), some (0, x2), some (0, x3)] [] G R V
    refine wp_ld (i := (.iload_n 1)) (0, x1) rfl rfl (fun _ => rfl) rfl rfl (?_ : wpv K_X7_write d P 5 [some (4, (p0 : Int)), some (0, x1), some (0, x2), some (0, x3)] [(0, x1)] G R V)
    refine wp_p (i := (.iconst 4)) rfl rfl (fun _ _ _ => rfl) (?_ : wpv K_X7_write d P 6 [some (4, (p0 : Int)), some (0, x1), some (0, x2), some (0, x3)] [(0, 4), (0, x1)] G R V)
    refine wp_icmp (c := .lt) 15 rfl rfl rfl s1 ⟨by omega, by omega⟩ (fun q => ?_) (fun q => ?_)
    · have q : x1 < 4 := q
      replace w := w.1 q
      show wpv K_X7_write d P 15 [some (4, (p0 : Int)), some (0, x1), some (0, x2), some (0, x3)] [] G R V
      refine wp_ld (i := (.aload_n 0)) (4, (p0 : Int)) rfl rfl (fun _ => rfl) rfl rfl (?_ : wpv K_X7_write d P 16 [some (4, (p0 : Int)), some (0, x1), some (0, x2), some (0, x3)] [(4, (p0 : Int))] G R V)
      refine wp_getA (k := 0) rfl rfl rfl (ly7_o l0) rfl rfl (ly7_0 l0).1 (?_ : wpv K_X7_write d P 19 [some (4, (p0 : Int)), some (0, x1), some (0, x2), some (0, x3)] [(4, ((p0 + 1 : Nat) : Int))] G R V)
      refine wp_ld (i := (.iload_n 1)) (0, x1) rfl rfl (fun _ => rfl) rfl rfl (?_ : wpv K_X7_write d P 20 [some (4, (p0 : Int)), some (0, x1), some (0, x2), some (0, x3)] [(0, x1), (4, ((p0 + 1 : Nat) : Int))] G R V)
      obtain ⟨s4, w⟩ := w
      obtain ⟨b5, ⟨r5, l5_⟩, w⟩ := w
      refine wp_aA rfl rfl (ly7_0 l0).2 rfl s4 r5 (?_ : wpv K_X7_write d P 21 [some (4, (p0 : Int)), some (0, x1), some (0, x2), some (0, x3)] [(4, (b5 : Int))] G R V)
      refine wp_virt (as := []) (a := b5) (st := []) _ rfl rfl rfl rfl rfl rfl (ly5_o l5_) (Nat.le_of_ble_eq_true rfl) (cwv_kI w (fun v7 V6 w => ?_))
      show wpv K_X7_write d P 24 [some (4, (p0 : Int)), some (0, x1), some (0, x2), some (0, x3)] [(0, v7)] G R V6
      obtain ⟨s8, w⟩ := w
      refine wp_if (c := .eq) 34 rfl rfl rfl s8 (fun q => ?_) (fun q => ?_)
      · have q : v7 = 0 := q
        replace w := w.1 q
        show wpv K_X7_write d P 34 [some (4, (p0 : Int)), some (0, x1), some (0, x2), some (0, x3)] [] G R V6
        refine wp_ld (i := (.aload_n 0)) (4, (p0 : Int)) rfl rfl (fun _ => rfl) rfl rfl (?_ : wpv K_X7_write d P 35 [some (4, (p0 : Int)), some (0, x1), some (0, x2), some (0, x3)] [(4, (p0 : Int))] G R V6)
        refine wp_getA (k := 0) rfl rfl rfl (ly7_o l0) rfl rfl (ly7_0 l0).1 (?_ : wpv K_X7_write d P 38 [some (4, (p0 : Int)), some (0, x1), some (0, x2), some (0, x3)] [(4, ((p0 + 1 : Nat) : Int))] G R V6)
        refine wp_ld (i := (.iload_n 1)) (0, x1) rfl rfl (fun _ => rfl) rfl rfl (?_ : wpv K_X7_write d P 39 [some (4, (p0 : Int)), some (0, x1), some (0, x2), some (0, x3)] [(0, x1), (4, ((p0 + 1 : Nat) : Int))] G R V6)
        refine wp_aA rfl rfl (ly7_0 l0).2 rfl s4 r5 (?_ : wpv K_X7_write d P 40 [some (4, (p0 : Int)), some (0, x1), some (0, x2), some (0, x3)] [(4, (b5 : Int))] G R V6)
        refine wp_ld (i := (.iload_n 2)) (0, x2) rfl rfl (fun _ => rfl) rfl rfl (?_ : wpv K_X7_write d P 41 [some (4, (p0 : Int)), some (0, x1), some (0, x2), some (0, x3)] [(0, x2), (4, (b5 : Int))] G R V6)
        refine wp_ld (i := (.iload_n 3)) (0, x3) rfl rfl (fun _ => rfl) rfl rfl (?_ : wpv K_X7_write d P 42 [some (4, (p0 : Int)), some (0, x1), some (0, x2), some (0, x3)] [(0, x3), (0, x2), (4, (b5 : Int))] G R V6)
        refine wp_virt (as := [(0, x2), (0, x3)]) (a := b5) (st := []) _ rfl rfl rfl rfl rfl rfl (ly5_o l5_) (Nat.le_of_ble_eq_true rfl) (cwv_kI w (fun v10 V9 w => ?_))
        show wpv K_X7_write d P 45 [some (4, (p0 : Int)), some (0, x1), some (0, x2), some (0, x3)] [(0, v10)] G R V9
        obtain ⟨s11, w⟩ := w
        refine wp_if (c := .ne) 55 rfl rfl rfl s11 (fun q => ?_) (fun q => ?_)
        · have q : ¬ v10 = 0 := q
          replace w := w.1 q
          show wpv K_X7_write d P 55 [some (4, (p0 : Int)), some (0, x1), some (0, x2), some (0, x3)] [] G R V9
          refine wp_ld (i := (.aload_n 0)) (4, (p0 : Int)) rfl rfl (fun _ => rfl) rfl rfl (?_ : wpv K_X7_write d P 56 [some (4, (p0 : Int)), some (0, x1), some (0, x2), some (0, x3)] [(4, (p0 : Int))] G R V9)
          refine wp_p (i := (.iconst 0)) rfl rfl (fun _ _ _ => rfl) (?_ : wpv K_X7_write d P 57 [some (4, (p0 : Int)), some (0, x1), some (0, x2), some (0, x3)] [(0, 0), (4, (p0 : Int))] G R V9)
          refine wp_virt (as := [(0, 0)]) (a := p0) (st := []) _ rfl rfl rfl rfl rfl rfl (ly7_o l0) (Nat.le_of_ble_eq_true rfl) (cwv_kI w (fun v13 V12 w => ?_))
          show wpv K_X7_write d P 60 [some (4, (p0 : Int)), some (0, x1), some (0, x2), some (0, x3)] [(0, v13)] G R V12
          exact wp_rI rfl rfl rfl w
        · have q : v10 = 0 := Decidable.not_not.mp q
          replace w := w.2 q
          show wpv K_X7_write d P 48 [some (4, (p0 : Int)), some (0, x1), some (0, x2), some (0, x3)] [] G R V9
          refine wp_ld (i := (.aload_n 0)) (4, (p0 : Int)) rfl rfl (fun _ => rfl) rfl rfl (?_ : wpv K_X7_write d P 49 [some (4, (p0 : Int)), some (0, x1), some (0, x2), some (0, x3)] [(4, (p0 : Int))] G R V9)
          refine wp_p (i := (.bipush (-3))) rfl rfl (fun _ _ _ => rfl) (?_ : wpv K_X7_write d P 51 [some (4, (p0 : Int)), some (0, x1), some (0, x2), some (0, x3)] [(0, (-3)), (4, (p0 : Int))] G R V9)
          refine wp_virt (as := [(0, (-3))]) (a := p0) (st := []) _ rfl rfl rfl rfl rfl rfl (ly7_o l0) (Nat.le_of_ble_eq_true rfl) (cwv_kI w (fun v15 V14 w => ?_))
          show wpv K_X7_write d P 54 [some (4, (p0 : Int)), some (0, x1), some (0, x2), some (0, x3)] [(0, v15)] G R V14
          exact wp_rI rfl rfl rfl w
      · have q : ¬ v7 = 0 := q
        replace w := w.2 q
        show wpv K_X7_write d P 27 [some (4, (p0 : Int)), some (0, x1), some (0, x2), some (0, x3)] [] G R V6
        refine wp_ld (i := (.aload_n 0)) (4, (p0 : Int)) rfl rfl (fun _ => rfl) rfl rfl (?_ : wpv K_X7_write d P 28 [some (4, (p0 : Int)), some (0, x1), some (0, x2), some (0, x3)] [(4, (p0 : Int))] G R V6)
        refine wp_p (i := (.bipush (-2))) rfl rfl (fun _ _ _ => rfl) (?_ : wpv K_X7_write d P 30 [some (4, (p0 : Int)), some (0, x1), some (0, x2), some (0, x3)] [(0, (-2)), (4, (p0 : Int))] G R V6)
        refine wp_virt (as := [(0, (-2))]) (a := p0) (st := []) _ rfl rfl rfl rfl rfl rfl (ly7_o l0) (Nat.le_of_ble_eq_true rfl) (cwv_kI w (fun v17 V16 w => ?_))
        show wpv K_X7_write d P 33 [some (4, (p0 : Int)), some (0, x1), some (0, x2), some (0, x3)] [(0, v17)] G R V16
        exact wp_rI rfl rfl rfl w
    · have q : ¬ x1 < 4 := q
      replace w := w.2 q
      show wpv K_X7_write d P 9 [some (4, (p0 : Int)), some (0, x1), some (0, x2), some (0, x3)] [] G R V
      refine wp_ld (i := (.aload_n 0)) (4, (p0 : Int)) rfl rfl (fun _ => rfl) rfl rfl (?_ : wpv K_X7_write d P 10 [some (4, (p0 : Int)), some (0, x1), some (0, x2), some (0, x3)] [(4, (p0 : Int))] G R V)
      refine wp_p (i := (.iconst (-1))) rfl rfl (fun _ _ _ => rfl) (?_ : wpv K_X7_write d P 11 [some (4, (p0 : Int)), some (0, x1), some (0, x2), some (0, x3)] [(0, (-1)), (4, (p0 : Int))] G R V)
      refine wp_virt (as := [(0, (-1))]) (a := p0) (st := []) _ rfl rfl rfl rfl rfl rfl (ly7_o l0) (Nat.le_of_ble_eq_true rfl) (cwv_kI w (fun v19 V18 w => ?_))
      show wpv K_X7_write d P 14 [some (4, (p0 : Int)), some (0, x1), some (0, x2), some (0, x3)] [(0, v19)] G R V18
      exact wp_rI rfl rfl rfl w
theorem t_X7_count_0 {d : Nat} {P : gP} {p0 : Nat} {x1 : Int} {G : List gS} {R V : gV} (l0 : lay7 G R p0) (w : ((i32 x1) ∧ (((x1 < 0 ∨ 5 < x1) → P (some (0, (-1))) V) ∧ ((x1 = 0) → (∃ b2 : Nat, (R p0 6 = (b2 : Int) ∧ lay1 G R b2) ∧ (∃ b3 : Nat, (R b2 0 = (b3 : Int) ∧ lay2 G R b3) ∧ ((i32 (V (b3 + 1) 0)) → P (some (0, (V (b3 + 1) 0))) V)))) ∧ ((x1 = 1) → (∃ b6 : Nat, (R p0 6 = (b6 : Int) ∧ lay1 G R b6) ∧ (∃ b7 : Nat, (R b6 0 = (b7 : Int) ∧ lay2 G R b7) ∧ ((i32 (V (b7 + 1) 1)) → P (some (0, (V (b7 + 1) 1))) V)))) ∧ ((x1 = 2) → (∃ b10 : Nat, (R p0 6 = (b10 : Int) ∧ lay1 G R b10) ∧ (∃ b11 : Nat, (R b10 0 = (b11 : Int) ∧ lay2 G R b11) ∧ ((i32 (V (b11 + 10) 0)) → P (some (0, (V (b11 + 10) 0))) V)))) ∧ ((x1 = 3) → (∃ b14 : Nat, (R p0 6 = (b14 : Int) ∧ lay1 G R b14) ∧ (∃ b15 : Nat, (R b14 0 = (b15 : Int) ∧ lay2 G R b15) ∧ ((i32 (V (b15 + 10) 1)) → P (some (0, (V (b15 + 10) 1))) V)))) ∧ ((x1 = 4) → (∃ b18 : Nat, (R p0 6 = (b18 : Int) ∧ lay1 G R b18) ∧ cwv d (fun r V19 => ∃ v20 : Int, r = some (0, v20) ∧ P (some (0, v20)) V19) 20 [(4, (b18 : Int))] G R V)) ∧ ((x1 = 5) → (∃ b21 : Nat, (R p0 6 = (b21 : Int) ∧ lay1 G R b21) ∧ ((i32 (V b21 3)) → P (some (0, (V b21 3))) V)))))) : wpv K_X7_count d P 0 [some (4, (p0 : Int)), some (0, x1)] [] G R V := by
  refine wp_ld (i := (.iload_n 1)) (0, x1) rfl rfl (fun _ => rfl) rfl rfl (?_ : wpv K_X7_count d P 1 [some (4, (p0 : Int)), some (0, x1)] [(0, x1)] G R V)
  obtain ⟨s1, w⟩ := w
  by_cases qd : x1 < 0 ∨ 5 < x1
  · replace w := w.1 qd
    refine wp_tsd 112 rfl rfl s1 qd rfl (?_ : wpv K_X7_count d P 112 [some (4, (p0 : Int)), some (0, x1)] [] G R V)
    refine wp_p (i := (.iconst (-1))) rfl rfl (fun _ _ _ => rfl) (?_ : wpv K_X7_count d P 113 [some (4, (p0 : Int)), some (0, x1)] [(0, (-1))] G R V)
    exact wp_rI rfl rfl rfl w
  replace w := w.2
  by_cases q0 : x1 = 0
  · replace w := w.1 q0
    refine wp_tsw 0 40 rfl rfl s1 (by omega) (by omega) rfl rfl (?_ : wpv K_X7_count d P 40 [some (4, (p0 : Int)), some (0, x1)] [] G R V)
    refine wp_ld (i := (.aload_n 0)) (4, (p0 : Int)) rfl rfl (fun _ => rfl) rfl rfl (?_ : wpv K_X7_count d P 41 [some (4, (p0 : Int)), some (0, x1)] [(4, (p0 : Int))] G R V)
    obtain ⟨b2, ⟨r2, l2_⟩, w⟩ := w
    refine wp_getA (k := 6) rfl rfl rfl (ly7_o l0) rfl rfl r2 (?_ : wpv K_X7_count d P 44 [some (4, (p0 : Int)), some (0, x1)] [(4, (b2 : Int))] G R V)
    obtain ⟨b3, ⟨r3, l3_⟩, w⟩ := w
    refine wp_getA (k := 0) rfl rfl rfl (ly1_o l2_) rfl rfl r3 (?_ : wpv K_X7_count d P 47 [some (4, (p0 : Int)), some (0, x1)] [(4, (b3 : Int))] G R V)
    refine wp_getA (k := 0) rfl rfl rfl (ly2_o l3_) rfl rfl (ly2_0 l3_).1 (?_ : wpv K_X7_count d P 50 [some (4, (p0 : Int)), some (0, x1)] [(4, ((b3 + 1 : Nat) : Int))] G R V)
    refine wp_rng (fun vr4 => ?_)
    have f5 : i32 (V (b3 + 1) 0) := vr_f0 vr4 (ly6_o (ly2_0 l3_).2) rfl rfl
    replace w := w f5
    refine wp_getI (k := 0) rfl rfl rfl (ly6_o (ly2_0 l3_).2) rfl rfl (?_ : wpv K_X7_count d P 53 [some (4, (p0 : Int)), some (0, x1)] [(0, (V (b3 + 1) 0))] G R V)
    exact wp_rI rfl rfl rfl w
  replace w := w.2
  by_cases q1 : x1 = 1
  · replace w := w.1 q1
    refine wp_tsw 1 54 rfl rfl s1 (by omega) (by omega) rfl rfl (?_ : wpv K_X7_count d P 54 [some (4, (p0 : Int)), some (0, x1)] [] G R V)
    refine wp_ld (i := (.aload_n 0)) (4, (p0 : Int)) rfl rfl (fun _ => rfl) rfl rfl (?_ : wpv K_X7_count d P 55 [some (4, (p0 : Int)), some (0, x1)] [(4, (p0 : Int))] G R V)
    obtain ⟨b6, ⟨r6, l6_⟩, w⟩ := w
    refine wp_getA (k := 6) rfl rfl rfl (ly7_o l0) rfl rfl r6 (?_ : wpv K_X7_count d P 58 [some (4, (p0 : Int)), some (0, x1)] [(4, (b6 : Int))] G R V)
    obtain ⟨b7, ⟨r7, l7_⟩, w⟩ := w
    refine wp_getA (k := 0) rfl rfl rfl (ly1_o l6_) rfl rfl r7 (?_ : wpv K_X7_count d P 61 [some (4, (p0 : Int)), some (0, x1)] [(4, (b7 : Int))] G R V)
    refine wp_getA (k := 0) rfl rfl rfl (ly2_o l7_) rfl rfl (ly2_0 l7_).1 (?_ : wpv K_X7_count d P 64 [some (4, (p0 : Int)), some (0, x1)] [(4, ((b7 + 1 : Nat) : Int))] G R V)
    refine wp_rng (fun vr8 => ?_)
    have f9 : i32 (V (b7 + 1) 1) := vr_f0 vr8 (ly6_o (ly2_0 l7_).2) rfl rfl
    replace w := w f9
    refine wp_getI (k := 1) rfl rfl rfl (ly6_o (ly2_0 l7_).2) rfl rfl (?_ : wpv K_X7_count d P 67 [some (4, (p0 : Int)), some (0, x1)] [(0, (V (b7 + 1) 1))] G R V)
    exact wp_rI rfl rfl rfl w
  replace w := w.2
  by_cases q2 : x1 = 2
  · replace w := w.1 q2
    refine wp_tsw 2 68 rfl rfl s1 (by omega) (by omega) rfl rfl (?_ : wpv K_X7_count d P 68 [some (4, (p0 : Int)), some (0, x1)] [] G R V)
    refine wp_ld (i := (.aload_n 0)) (4, (p0 : Int)) rfl rfl (fun _ => rfl) rfl rfl (?_ : wpv K_X7_count d P 69 [some (4, (p0 : Int)), some (0, x1)] [(4, (p0 : Int))] G R V)
    obtain ⟨b10, ⟨r10, l10_⟩, w⟩ := w
    refine wp_getA (k := 6) rfl rfl rfl (ly7_o l0) rfl rfl r10 (?_ : wpv K_X7_count d P 72 [some (4, (p0 : Int)), some (0, x1)] [(4, (b10 : Int))] G R V)
    obtain ⟨b11, ⟨r11, l11_⟩, w⟩ := w
    refine wp_getA (k := 0) rfl rfl rfl (ly1_o l10_) rfl rfl r11 (?_ : wpv K_X7_count d P 75 [some (4, (p0 : Int)), some (0, x1)] [(4, (b11 : Int))] G R V)
    refine wp_getA (k := 1) rfl rfl rfl (ly2_o l11_) rfl rfl (ly2_1 l11_).1 (?_ : wpv K_X7_count d P 78 [some (4, (p0 : Int)), some (0, x1)] [(4, ((b11 + 10 : Nat) : Int))] G R V)
    refine wp_rng (fun vr12 => ?_)
    have f13 : i32 (V (b11 + 10) 0) := vr_f0 vr12 (ly4_o (ly2_1 l11_).2) rfl rfl
    replace w := w f13
    refine wp_getI (k := 0) rfl rfl rfl (ly4_o (ly2_1 l11_).2) rfl rfl (?_ : wpv K_X7_count d P 81 [some (4, (p0 : Int)), some (0, x1)] [(0, (V (b11 + 10) 0))] G R V)
    exact wp_rI rfl rfl rfl w
  replace w := w.2
  by_cases q3 : x1 = 3
  · replace w := w.1 q3
    refine wp_tsw 3 82 rfl rfl s1 (by omega) (by omega) rfl rfl (?_ : wpv K_X7_count d P 82 [some (4, (p0 : Int)), some (0, x1)] [] G R V)
    refine wp_ld (i := (.aload_n 0)) (4, (p0 : Int)) rfl rfl (fun _ => rfl) rfl rfl (?_ : wpv K_X7_count d P 83 [some (4, (p0 : Int)), some (0, x1)] [(4, (p0 : Int))] G R V)
    obtain ⟨b14, ⟨r14, l14_⟩, w⟩ := w
    refine wp_getA (k := 6) rfl rfl rfl (ly7_o l0) rfl rfl r14 (?_ : wpv K_X7_count d P 86 [some (4, (p0 : Int)), some (0, x1)] [(4, (b14 : Int))] G R V)
    obtain ⟨b15, ⟨r15, l15_⟩, w⟩ := w
    refine wp_getA (k := 0) rfl rfl rfl (ly1_o l14_) rfl rfl r15 (?_ : wpv K_X7_count d P 89 [some (4, (p0 : Int)), some (0, x1)] [(4, (b15 : Int))] G R V)
    refine wp_getA (k := 1) rfl rfl rfl (ly2_o l15_) rfl rfl (ly2_1 l15_).1 (?_ : wpv K_X7_count d P 92 [some (4, (p0 : Int)), some (0, x1)] [(4, ((b15 + 10 : Nat) : Int))] G R V)
    refine wp_rng (fun vr16 => ?_)
    have f17 : i32 (V (b15 + 10) 1) := vr_f0 vr16 (ly4_o (ly2_1 l15_).2) rfl rfl
    replace w := w f17
    refine wp_getI (k := 1) rfl rfl rfl (ly4_o (ly2_1 l15_).2) rfl rfl (?_ : wpv K_X7_count d P 95 [some (4, (p0 : Int)), some (0, x1)] [(0, (V (b15 + 10) 1))] G R V)
    exact wp_rI rfl rfl rfl w
  replace w := w.2
  by_cases q4 : x1 = 4
  · replace w := w.1 q4
    refine wp_tsw 4 96 rfl rfl s1 (by omega) (by omega) rfl rfl (?_ : wpv K_X7_count d P 96 [some (4, (p0 : Int)), some (0, x1)] [] G R V)
    refine wp_ld (i := (.aload_n 0)) (4, (p0 : Int)) rfl rfl (fun _ => rfl) rfl rfl (?_ : wpv K_X7_count d P 97 [some (4, (p0 : Int)), some (0, x1)] [(4, (p0 : Int))] G R V)
    obtain ⟨b18, ⟨r18, l18_⟩, w⟩ := w
    refine wp_getA (k := 6) rfl rfl rfl (ly7_o l0) rfl rfl r18 (?_ : wpv K_X7_count d P 100 [some (4, (p0 : Int)), some (0, x1)] [(4, (b18 : Int))] G R V)
    refine wp_virt (as := []) (a := b18) (st := []) _ rfl rfl rfl rfl rfl rfl (ly1_o l18_) (Nat.le_of_ble_eq_true rfl) (cwv_kI w (fun v20 V19 w => ?_))
    show wpv K_X7_count d P 103 [some (4, (p0 : Int)), some (0, x1)] [(0, v20)] G R V19
    exact wp_rI rfl rfl rfl w
  replace w := w.2
  have q5 : x1 = 5 := by omega
  replace w := w q5
  refine wp_tsw 5 104 rfl rfl s1 (by omega) (by omega) rfl rfl (?_ : wpv K_X7_count d P 104 [some (4, (p0 : Int)), some (0, x1)] [] G R V)
  refine wp_ld (i := (.aload_n 0)) (4, (p0 : Int)) rfl rfl (fun _ => rfl) rfl rfl (?_ : wpv K_X7_count d P 105 [some (4, (p0 : Int)), some (0, x1)] [(4, (p0 : Int))] G R V)
  obtain ⟨b21, ⟨r21, l21_⟩, w⟩ := w
  refine wp_getA (k := 6) rfl rfl rfl (ly7_o l0) rfl rfl r21 (?_ : wpv K_X7_count d P 108 [some (4, (p0 : Int)), some (0, x1)] [(4, (b21 : Int))] G R V)
  refine wp_rng (fun vr22 => ?_)
  have f23 : i32 (V b21 3) := vr_f0 vr22 (ly1_o l21_) rfl rfl
  replace w := w f23
  refine wp_getI (k := 3) rfl rfl rfl (ly1_o l21_) rfl rfl (?_ : wpv K_X7_count d P 111 [some (4, (p0 : Int)), some (0, x1)] [(0, (V b21 3))] G R V)
  exact wp_rI rfl rfl rfl w
theorem t_X7_turn_0 {d : Nat} {P : gP} {p0 : Nat} {x1 : Int} {x2 : Int} {G : List gS} {R V : gV} (l0 : lay7 G R p0) (w : (∃ b1 : Nat, (R p0 6 = (b1 : Int) ∧ lay1 G R b1) ∧ (∃ b2 : Nat, (R b1 0 = (b2 : Int) ∧ lay2 G R b2) ∧ cwv d (fun r V3 => ∃ v4 : Int, r = some (0, v4) ∧ ((i32 v4) ∧ (((v4 = 0) → P (some (0, (-1))) V3) ∧ ((¬ v4 = 0) → ((i32 x2) ∧ (((x2 < 0) → P (some (0, (-1))) V3) ∧ ((¬ x2 < 0) → ((i32 (V3 (b2 + 1) 0)) → (((x2 < (V3 (b2 + 1) 0)) → ((0 ≤ x1 ∧ x1 < 120) ∧ ((i32 (V3 (b2 + 2) x1)) → cwv d (fun r V11 => ∃ v12 : Int, r = some (0, v12) ∧ P (some (0, v12)) V11) 147 [(0, (V3 (b2 + 2) x1)), (0, x2)] G R V3))) ∧ ((¬ x2 < (V3 (b2 + 1) 0)) → P (some (0, (-1))) V3)))))))))) 88 [(4, ((b2 + 1 : Nat) : Int)), (0, x1)] G R V))) : wpv K_X7_turn d P 0 [some (4, (p0 : Int)), some (0, x1), some (0, x2)] [] G R V := by
  refine wp_ld (i := (.aload_n 0)) (4, (p0 : Int)) rfl rfl (fun _ => rfl) rfl rfl (?_ : wpv K_X7_turn d P 1 [some (4, (p0 : Int)), some (0, x1), some (0, x2)] [(4, (p0 : Int))] G R V)
  obtain ⟨b1, ⟨r1, l1_⟩, w⟩ := w
  refine wp_getA (k := 6) rfl rfl rfl (ly7_o l0) rfl rfl r1 (?_ : wpv K_X7_turn d P 4 [some (4, (p0 : Int)), some (0, x1), some (0, x2)] [(4, (b1 : Int))] G R V)
  obtain ⟨b2, ⟨r2, l2_⟩, w⟩ := w
  refine wp_getA (k := 0) rfl rfl rfl (ly1_o l1_) rfl rfl r2 (?_ : wpv K_X7_turn d P 7 [some (4, (p0 : Int)), some (0, x1), some (0, x2)] [(4, (b2 : Int))] G R V)
  refine wp_getA (k := 0) rfl rfl rfl (ly2_o l2_) rfl rfl (ly2_0 l2_).1 (?_ : wpv K_X7_turn d P 10 [some (4, (p0 : Int)), some (0, x1), some (0, x2)] [(4, ((b2 + 1 : Nat) : Int))] G R V)
  refine wp_sto (i := (.astore_n 3)) _ rfl rfl (fun _ => rfl) rfl rfl rfl ?_
  refine wp_wk (L' := [some (4, (p0 : Int)), some (0, x1), some (0, x2), some (4, ((b2 + 1 : Nat) : Int))]) (wk_s (wk_s (wk_s (wk_s wk_0)))) ?_
  show wpv K_X7_turn d P 11 [some (4, (p0 : Int)), some (0, x1), some (0, x2), some (4, ((b2 + 1 : Nat) : Int))] [] G R V
  refine wp_ld (i := (.aload_n 3)) (4, ((b2 + 1 : Nat) : Int)) rfl rfl (fun _ => rfl) rfl rfl (?_ : wpv K_X7_turn d P 12 [some (4, (p0 : Int)), some (0, x1), some (0, x2), some (4, ((b2 + 1 : Nat) : Int))] [(4, ((b2 + 1 : Nat) : Int))] G R V)
  refine wp_ld (i := (.iload_n 1)) (0, x1) rfl rfl (fun _ => rfl) rfl rfl (?_ : wpv K_X7_turn d P 13 [some (4, (p0 : Int)), some (0, x1), some (0, x2), some (4, ((b2 + 1 : Nat) : Int))] [(0, x1), (4, ((b2 + 1 : Nat) : Int))] G R V)
  refine wp_virt (as := [(0, x1)]) (a := b2 + 1) (st := []) _ rfl rfl rfl rfl rfl rfl (ly6_o (ly2_0 l2_).2) (Nat.le_of_ble_eq_true rfl) (cwv_kI w (fun v4 V3 w => ?_))
  show wpv K_X7_turn d P 16 [some (4, (p0 : Int)), some (0, x1), some (0, x2), some (4, ((b2 + 1 : Nat) : Int))] [(0, v4)] G R V3
  obtain ⟨s5, w⟩ := w
  refine wp_if (c := .eq) 31 rfl rfl rfl s5 (fun q => ?_) (fun q => ?_)
  · have q : v4 = 0 := q
    replace w := w.1 q
    show wpv K_X7_turn d P 31 [some (4, (p0 : Int)), some (0, x1), some (0, x2), some (4, ((b2 + 1 : Nat) : Int))] [] G R V3
    refine wp_p (i := (.iconst (-1))) rfl rfl (fun _ _ _ => rfl) (?_ : wpv K_X7_turn d P 32 [some (4, (p0 : Int)), some (0, x1), some (0, x2), some (4, ((b2 + 1 : Nat) : Int))] [(0, (-1))] G R V3)
    exact wp_rI rfl rfl rfl w
  · have q : ¬ v4 = 0 := q
    replace w := w.2 q
    show wpv K_X7_turn d P 19 [some (4, (p0 : Int)), some (0, x1), some (0, x2), some (4, ((b2 + 1 : Nat) : Int))] [] G R V3
    refine wp_ld (i := (.iload_n 2)) (0, x2) rfl rfl (fun _ => rfl) rfl rfl (?_ : wpv K_X7_turn d P 20 [some (4, (p0 : Int)), some (0, x1), some (0, x2), some (4, ((b2 + 1 : Nat) : Int))] [(0, x2)] G R V3)
    obtain ⟨s6, w⟩ := w
    refine wp_if (c := .lt) 31 rfl rfl rfl s6 (fun q => ?_) (fun q => ?_)
    · have q : x2 < 0 := q
      replace w := w.1 q
      show wpv K_X7_turn d P 31 [some (4, (p0 : Int)), some (0, x1), some (0, x2), some (4, ((b2 + 1 : Nat) : Int))] [] G R V3
      refine wp_p (i := (.iconst (-1))) rfl rfl (fun _ _ _ => rfl) (?_ : wpv K_X7_turn d P 32 [some (4, (p0 : Int)), some (0, x1), some (0, x2), some (4, ((b2 + 1 : Nat) : Int))] [(0, (-1))] G R V3)
      exact wp_rI rfl rfl rfl w
    · have q : ¬ x2 < 0 := q
      replace w := w.2 q
      show wpv K_X7_turn d P 23 [some (4, (p0 : Int)), some (0, x1), some (0, x2), some (4, ((b2 + 1 : Nat) : Int))] [] G R V3
      refine wp_ld (i := (.iload_n 2)) (0, x2) rfl rfl (fun _ => rfl) rfl rfl (?_ : wpv K_X7_turn d P 24 [some (4, (p0 : Int)), some (0, x1), some (0, x2), some (4, ((b2 + 1 : Nat) : Int))] [(0, x2)] G R V3)
      refine wp_ld (i := (.aload_n 3)) (4, ((b2 + 1 : Nat) : Int)) rfl rfl (fun _ => rfl) rfl rfl (?_ : wpv K_X7_turn d P 25 [some (4, (p0 : Int)), some (0, x1), some (0, x2), some (4, ((b2 + 1 : Nat) : Int))] [(4, ((b2 + 1 : Nat) : Int)), (0, x2)] G R V3)
      refine wp_rng (fun vr7 => ?_)
      have f8 : i32 (V3 (b2 + 1) 0) := vr_f0 vr7 (ly6_o (ly2_0 l2_).2) rfl rfl
      replace w := w f8
      refine wp_getI (k := 0) rfl rfl rfl (ly6_o (ly2_0 l2_).2) rfl rfl (?_ : wpv K_X7_turn d P 28 [some (4, (p0 : Int)), some (0, x1), some (0, x2), some (4, ((b2 + 1 : Nat) : Int))] [(0, (V3 (b2 + 1) 0)), (0, x2)] G R V3)
      refine wp_icmp (c := .lt) 33 rfl rfl rfl s6 f8 (fun q => ?_) (fun q => ?_)
      · have q : x2 < (V3 (b2 + 1) 0) := q
        replace w := w.1 q
        show wpv K_X7_turn d P 33 [some (4, (p0 : Int)), some (0, x1), some (0, x2), some (4, ((b2 + 1 : Nat) : Int))] [] G R V3
        refine wp_ld (i := (.aload_n 3)) (4, ((b2 + 1 : Nat) : Int)) rfl rfl (fun _ => rfl) rfl rfl (?_ : wpv K_X7_turn d P 34 [some (4, (p0 : Int)), some (0, x1), some (0, x2), some (4, ((b2 + 1 : Nat) : Int))] [(4, ((b2 + 1 : Nat) : Int))] G R V3)
        refine wp_getA (k := 3) rfl rfl rfl (ly6_o (ly2_0 l2_).2) rfl rfl (ly6_3 (ly2_0 l2_).2).1 (?_ : wpv K_X7_turn d P 37 [some (4, (p0 : Int)), some (0, x1), some (0, x2), some (4, ((b2 + 1 : Nat) : Int))] [(4, ((b2 + 2 : Nat) : Int))] G R V3)
        refine wp_ld (i := (.iload_n 1)) (0, x1) rfl rfl (fun _ => rfl) rfl rfl (?_ : wpv K_X7_turn d P 38 [some (4, (p0 : Int)), some (0, x1), some (0, x2), some (4, ((b2 + 1 : Nat) : Int))] [(0, x1), (4, ((b2 + 2 : Nat) : Int))] G R V3)
        obtain ⟨s9, w⟩ := w
        have f10 : i32 (V3 (b2 + 2) x1) := vr_a0 vr7 (ly6_3 (ly2_0 l2_).2).2 s9
        replace w := w f10
        refine wp_aI rfl rfl (ly6_3 (ly2_0 l2_).2).2 s9 (?_ : wpv K_X7_turn d P 39 [some (4, (p0 : Int)), some (0, x1), some (0, x2), some (4, ((b2 + 1 : Nat) : Int))] [(0, (V3 (b2 + 2) x1))] G R V3)
        refine wp_ld (i := (.iload_n 2)) (0, x2) rfl rfl (fun _ => rfl) rfl rfl (?_ : wpv K_X7_turn d P 40 [some (4, (p0 : Int)), some (0, x1), some (0, x2), some (4, ((b2 + 1 : Nat) : Int))] [(0, x2), (0, (V3 (b2 + 2) x1))] G R V3)
        refine wp_stat (as := [(0, (V3 (b2 + 2) x1)), (0, x2)]) (st := []) _ rfl rfl rfl (by omega) rfl rfl (Nat.le_of_ble_eq_true rfl) (cwv_kI w (fun v12 V11 w => ?_))
        show wpv K_X7_turn d P 43 [some (4, (p0 : Int)), some (0, x1), some (0, x2), some (4, ((b2 + 1 : Nat) : Int))] [(0, v12)] G R V11
        exact wp_rI rfl rfl rfl w
      · have q : ¬ x2 < (V3 (b2 + 1) 0) := q
        replace w := w.2 q
        show wpv K_X7_turn d P 31 [some (4, (p0 : Int)), some (0, x1), some (0, x2), some (4, ((b2 + 1 : Nat) : Int))] [] G R V3
        refine wp_p (i := (.iconst (-1))) rfl rfl (fun _ _ _ => rfl) (?_ : wpv K_X7_turn d P 32 [some (4, (p0 : Int)), some (0, x1), some (0, x2), some (4, ((b2 + 1 : Nat) : Int))] [(0, (-1))] G R V3)
        exact wp_rI rfl rfl rfl w
theorem t_X7_product_0 {d : Nat} {P : gP} {p0 : Nat} {x1 : Int} {x2 : Int} {G : List gS} {R V : gV} (l0 : lay7 G R p0) (w : (∃ b1 : Nat, (R p0 6 = (b1 : Int) ∧ lay1 G R b1) ∧ (∃ b2 : Nat, (R b1 0 = (b2 : Int) ∧ lay2 G R b2) ∧ cwv d (fun r V3 => ∃ v4 : Int, r = some (0, v4) ∧ ((i32 v4) ∧ (((v4 = 0) → P (some (0, (-1))) V3) ∧ ((¬ v4 = 0) → cwv d (fun r V6 => ∃ v7 : Int, r = some (0, v7) ∧ ((i32 v7) ∧ (((v7 = 0) → P (some (0, (-1))) V6) ∧ ((¬ v7 = 0) → cwv d (fun r V9 => ∃ v10 : Int, r = some (0, v10) ∧ P (some (0, v10)) V9) 89 [(4, ((b2 + 1 : Nat) : Int)), (0, x1), (0, x2)] G R V6)))) 88 [(4, ((b2 + 1 : Nat) : Int)), (0, x2)] G R V3)))) 88 [(4, ((b2 + 1 : Nat) : Int)), (0, x1)] G R V))) : wpv K_X7_product d P 0 [some (4, (p0 : Int)), some (0, x1), some (0, x2)] [] G R V := by
  refine wp_ld (i := (.aload_n 0)) (4, (p0 : Int)) rfl rfl (fun _ => rfl) rfl rfl (?_ : wpv K_X7_product d P 1 [some (4, (p0 : Int)), some (0, x1), some (0, x2)] [(4, (p0 : Int))] G R V)
  obtain ⟨b1, ⟨r1, l1_⟩, w⟩ := w
  refine wp_getA (k := 6) rfl rfl rfl (ly7_o l0) rfl rfl r1 (?_ : wpv K_X7_product d P 4 [some (4, (p0 : Int)), some (0, x1), some (0, x2)] [(4, (b1 : Int))] G R V)
  obtain ⟨b2, ⟨r2, l2_⟩, w⟩ := w
  refine wp_getA (k := 0) rfl rfl rfl (ly1_o l1_) rfl rfl r2 (?_ : wpv K_X7_product d P 7 [some (4, (p0 : Int)), some (0, x1), some (0, x2)] [(4, (b2 : Int))] G R V)
  refine wp_getA (k := 0) rfl rfl rfl (ly2_o l2_) rfl rfl (ly2_0 l2_).1 (?_ : wpv K_X7_product d P 10 [some (4, (p0 : Int)), some (0, x1), some (0, x2)] [(4, ((b2 + 1 : Nat) : Int))] G R V)
  refine wp_sto (i := (.astore_n 3)) _ rfl rfl (fun _ => rfl) rfl rfl rfl ?_
  refine wp_wk (L' := [some (4, (p0 : Int)), some (0, x1), some (0, x2), some (4, ((b2 + 1 : Nat) : Int))]) (wk_s (wk_s (wk_s (wk_s wk_0)))) ?_
  show wpv K_X7_product d P 11 [some (4, (p0 : Int)), some (0, x1), some (0, x2), some (4, ((b2 + 1 : Nat) : Int))] [] G R V
  refine wp_ld (i := (.aload_n 3)) (4, ((b2 + 1 : Nat) : Int)) rfl rfl (fun _ => rfl) rfl rfl (?_ : wpv K_X7_product d P 12 [some (4, (p0 : Int)), some (0, x1), some (0, x2), some (4, ((b2 + 1 : Nat) : Int))] [(4, ((b2 + 1 : Nat) : Int))] G R V)
  refine wp_ld (i := (.iload_n 1)) (0, x1) rfl rfl (fun _ => rfl) rfl rfl (?_ : wpv K_X7_product d P 13 [some (4, (p0 : Int)), some (0, x1), some (0, x2), some (4, ((b2 + 1 : Nat) : Int))] [(0, x1), (4, ((b2 + 1 : Nat) : Int))] G R V)
  refine wp_virt (as := [(0, x1)]) (a := b2 + 1) (st := []) _ rfl rfl rfl rfl rfl rfl (ly6_o (ly2_0 l2_).2) (Nat.le_of_ble_eq_true rfl) (cwv_kI w (fun v4 V3 w => ?_))
  show wpv K_X7_product d P 16 [some (4, (p0 : Int)), some (0, x1), some (0, x2), some (4, ((b2 + 1 : Nat) : Int))] [(0, v4)] G R V3
  obtain ⟨s5, w⟩ := w
  refine wp_if (c := .eq) 36 rfl rfl rfl s5 (fun q => ?_) (fun q => ?_)
  · have q : v4 = 0 := q
    replace w := w.1 q
    show wpv K_X7_product d P 36 [some (4, (p0 : Int)), some (0, x1), some (0, x2), some (4, ((b2 + 1 : Nat) : Int))] [] G R V3
    refine wp_p (i := (.iconst (-1))) rfl rfl (fun _ _ _ => rfl) (?_ : wpv K_X7_product d P 37 [some (4, (p0 : Int)), some (0, x1), some (0, x2), some (4, ((b2 + 1 : Nat) : Int))] [(0, (-1))] G R V3)
    exact wp_rI rfl rfl rfl w
  · have q : ¬ v4 = 0 := q
    replace w := w.2 q
    show wpv K_X7_product d P 19 [some (4, (p0 : Int)), some (0, x1), some (0, x2), some (4, ((b2 + 1 : Nat) : Int))] [] G R V3
    refine wp_ld (i := (.aload_n 3)) (4, ((b2 + 1 : Nat) : Int)) rfl rfl (fun _ => rfl) rfl rfl (?_ : wpv K_X7_product d P 20 [some (4, (p0 : Int)), some (0, x1), some (0, x2), some (4, ((b2 + 1 : Nat) : Int))] [(4, ((b2 + 1 : Nat) : Int))] G R V3)
    refine wp_ld (i := (.iload_n 2)) (0, x2) rfl rfl (fun _ => rfl) rfl rfl (?_ : wpv K_X7_product d P 21 [some (4, (p0 : Int)), some (0, x1), some (0, x2), some (4, ((b2 + 1 : Nat) : Int))] [(0, x2), (4, ((b2 + 1 : Nat) : Int))] G R V3)
    refine wp_virt (as := [(0, x2)]) (a := b2 + 1) (st := []) _ rfl rfl rfl rfl rfl rfl (ly6_o (ly2_0 l2_).2) (Nat.le_of_ble_eq_true rfl) (cwv_kI w (fun v7 V6 w => ?_))
    show wpv K_X7_product d P 24 [some (4, (p0 : Int)), some (0, x1), some (0, x2), some (4, ((b2 + 1 : Nat) : Int))] [(0, v7)] G R V6
    obtain ⟨s8, w⟩ := w
    refine wp_if (c := .eq) 36 rfl rfl rfl s8 (fun q => ?_) (fun q => ?_)
    · have q : v7 = 0 := q
      replace w := w.1 q
      show wpv K_X7_product d P 36 [some (4, (p0 : Int)), some (0, x1), some (0, x2), some (4, ((b2 + 1 : Nat) : Int))] [] G R V6
      refine wp_p (i := (.iconst (-1))) rfl rfl (fun _ _ _ => rfl) (?_ : wpv K_X7_product d P 37 [some (4, (p0 : Int)), some (0, x1), some (0, x2), some (4, ((b2 + 1 : Nat) : Int))] [(0, (-1))] G R V6)
      exact wp_rI rfl rfl rfl w
    · have q : ¬ v7 = 0 := q
      replace w := w.2 q
      show wpv K_X7_product d P 27 [some (4, (p0 : Int)), some (0, x1), some (0, x2), some (4, ((b2 + 1 : Nat) : Int))] [] G R V6
      refine wp_ld (i := (.aload_n 3)) (4, ((b2 + 1 : Nat) : Int)) rfl rfl (fun _ => rfl) rfl rfl (?_ : wpv K_X7_product d P 28 [some (4, (p0 : Int)), some (0, x1), some (0, x2), some (4, ((b2 + 1 : Nat) : Int))] [(4, ((b2 + 1 : Nat) : Int))] G R V6)
      refine wp_ld (i := (.iload_n 1)) (0, x1) rfl rfl (fun _ => rfl) rfl rfl (?_ : wpv K_X7_product d P 29 [some (4, (p0 : Int)), some (0, x1), some (0, x2), some (4, ((b2 + 1 : Nat) : Int))] [(0, x1), (4, ((b2 + 1 : Nat) : Int))] G R V6)
      refine wp_ld (i := (.iload_n 2)) (0, x2) rfl rfl (fun _ => rfl) rfl rfl (?_ : wpv K_X7_product d P 30 [some (4, (p0 : Int)), some (0, x1), some (0, x2), some (4, ((b2 + 1 : Nat) : Int))] [(0, x2), (0, x1), (4, ((b2 + 1 : Nat) : Int))] G R V6)
      refine wp_virt (as := [(0, x1), (0, x2)]) (a := b2 + 1) (st := []) _ rfl rfl rfl rfl rfl rfl (ly6_o (ly2_0 l2_).2) (Nat.le_of_ble_eq_true rfl) (cwv_kI w (fun v10 V9 w => ?_))
      show wpv K_X7_product d P 33 [some (4, (p0 : Int)), some (0, x1), some (0, x2), some (4, ((b2 + 1 : Nat) : Int))] [(0, v10)] G R V9
      refine wp_go 37 rfl rfl rfl (?_ : wpv K_X7_product d P 37 [some (4, (p0 : Int)), some (0, x1), some (0, x2), some (4, ((b2 + 1 : Nat) : Int))] [(0, v10)] G R V9)
      exact wp_rI rfl rfl rfl w
theorem t_X7_ofTurn_0 {d : Nat} {P : gP} {p0 : Nat} {x1 : Int} {x2 : Int} {G : List gS} {R V : gV} (l0 : lay7 G R p0) (w : (∃ b1 : Nat, (R p0 6 = (b1 : Int) ∧ lay1 G R b1) ∧ (∃ b2 : Nat, (R b1 0 = (b2 : Int) ∧ lay2 G R b2) ∧ cwv d (fun r V3 => ∃ v4 : Int, r = some (0, v4) ∧ ((i32 v4) ∧ (((¬ v4 = 0) → ((i32 x2) ∧ (((x2 < 0 ∨ 3 < x2) → P (some (0, (-1))) V3) ∧ ((x2 = 0) → ((0 ≤ x1 ∧ x1 < 120) ∧ ((i32 (V3 (b2 + 3) x1)) → P (some (0, (V3 (b2 + 3) x1))) V3))) ∧ ((x2 = 1) → ((0 ≤ x1 ∧ x1 < 120) ∧ ((i32 (V3 (b2 + 4) x1)) → P (some (0, (V3 (b2 + 4) x1))) V3))) ∧ ((x2 = 2) → ((0 ≤ x1 ∧ x1 < 120) ∧ ((i32 (V3 (b2 + 15) x1)) → P (some (0, (V3 (b2 + 15) x1))) V3))) ∧ ((x2 = 3) → cwv d (fun r V16 => ∃ v17 : Int, r = some (0, v17) ∧ P (some (0, v17)) V16) 91 [(4, ((b2 + 1 : Nat) : Int)), (0, x1)] G R V3)))) ∧ ((v4 = 0) → P (some (0, (-1))) V3)))) 88 [(4, ((b2 + 1 : Nat) : Int)), (0, x1)] G R V))) : wpv K_X7_ofTurn d P 0 [some (4, (p0 : Int)), some (0, x1), some (0, x2)] [] G R V := by
  refine wp_ld (i := (.aload_n 0)) (4, (p0 : Int)) rfl rfl (fun _ => rfl) rfl rfl (?_ : wpv K_X7_ofTurn d P 1 [some (4, (p0 : Int)), some (0, x1), some (0, x2)] [(4, (p0 : Int))] G R V)
  obtain ⟨b1, ⟨r1, l1_⟩, w⟩ := w
  refine wp_getA (k := 6) rfl rfl rfl (ly7_o l0) rfl rfl r1 (?_ : wpv K_X7_ofTurn d P 4 [some (4, (p0 : Int)), some (0, x1), some (0, x2)] [(4, (b1 : Int))] G R V)
  obtain ⟨b2, ⟨r2, l2_⟩, w⟩ := w
  refine wp_getA (k := 0) rfl rfl rfl (ly1_o l1_) rfl rfl r2 (?_ : wpv K_X7_ofTurn d P 7 [some (4, (p0 : Int)), some (0, x1), some (0, x2)] [(4, (b2 : Int))] G R V)
  refine wp_sto (i := (.astore_n 3)) _ rfl rfl (fun _ => rfl) rfl rfl rfl ?_
  refine wp_wk (L' := [some (4, (p0 : Int)), some (0, x1), some (0, x2), some (4, (b2 : Int))]) (wk_s (wk_s (wk_s (wk_s wk_0)))) ?_
  show wpv K_X7_ofTurn d P 8 [some (4, (p0 : Int)), some (0, x1), some (0, x2), some (4, (b2 : Int))] [] G R V
  refine wp_ld (i := (.aload_n 3)) (4, (b2 : Int)) rfl rfl (fun _ => rfl) rfl rfl (?_ : wpv K_X7_ofTurn d P 9 [some (4, (p0 : Int)), some (0, x1), some (0, x2), some (4, (b2 : Int))] [(4, (b2 : Int))] G R V)
  refine wp_getA (k := 0) rfl rfl rfl (ly2_o l2_) rfl rfl (ly2_0 l2_).1 (?_ : wpv K_X7_ofTurn d P 12 [some (4, (p0 : Int)), some (0, x1), some (0, x2), some (4, (b2 : Int))] [(4, ((b2 + 1 : Nat) : Int))] G R V)
  refine wp_ld (i := (.iload_n 1)) (0, x1) rfl rfl (fun _ => rfl) rfl rfl (?_ : wpv K_X7_ofTurn d P 13 [some (4, (p0 : Int)), some (0, x1), some (0, x2), some (4, (b2 : Int))] [(0, x1), (4, ((b2 + 1 : Nat) : Int))] G R V)
  refine wp_virt (as := [(0, x1)]) (a := b2 + 1) (st := []) _ rfl rfl rfl rfl rfl rfl (ly6_o (ly2_0 l2_).2) (Nat.le_of_ble_eq_true rfl) (cwv_kI w (fun v4 V3 w => ?_))
  show wpv K_X7_ofTurn d P 16 [some (4, (p0 : Int)), some (0, x1), some (0, x2), some (4, (b2 : Int))] [(0, v4)] G R V3
  obtain ⟨s5, w⟩ := w
  refine wp_if (c := .ne) 21 rfl rfl rfl s5 (fun q => ?_) (fun q => ?_)
  · have q : ¬ v4 = 0 := q
    replace w := w.1 q
    show wpv K_X7_ofTurn d P 21 [some (4, (p0 : Int)), some (0, x1), some (0, x2), some (4, (b2 : Int))] [] G R V3
    refine wp_ld (i := (.iload_n 2)) (0, x2) rfl rfl (fun _ => rfl) rfl rfl (?_ : wpv K_X7_ofTurn d P 22 [some (4, (p0 : Int)), some (0, x1), some (0, x2), some (4, (b2 : Int))] [(0, x2)] G R V3)
    obtain ⟨s6, w⟩ := w
    by_cases qd : x2 < 0 ∨ 3 < x2
    · replace w := w.1 qd
      refine wp_tsd 91 rfl rfl s6 qd rfl (?_ : wpv K_X7_ofTurn d P 91 [some (4, (p0 : Int)), some (0, x1), some (0, x2), some (4, (b2 : Int))] [] G R V3)
      refine wp_p (i := (.iconst (-1))) rfl rfl (fun _ _ _ => rfl) (?_ : wpv K_X7_ofTurn d P 92 [some (4, (p0 : Int)), some (0, x1), some (0, x2), some (4, (b2 : Int))] [(0, (-1))] G R V3)
      exact wp_rI rfl rfl rfl w
    replace w := w.2
    by_cases q0 : x2 = 0
    · replace w := w.1 q0
      refine wp_tsw 0 52 rfl rfl s6 (by omega) (by omega) rfl rfl (?_ : wpv K_X7_ofTurn d P 52 [some (4, (p0 : Int)), some (0, x1), some (0, x2), some (4, (b2 : Int))] [] G R V3)
      refine wp_ld (i := (.aload_n 3)) (4, (b2 : Int)) rfl rfl (fun _ => rfl) rfl rfl (?_ : wpv K_X7_ofTurn d P 53 [some (4, (p0 : Int)), some (0, x1), some (0, x2), some (4, (b2 : Int))] [(4, (b2 : Int))] G R V3)
      refine wp_getA (k := 0) rfl rfl rfl (ly2_o l2_) rfl rfl (ly2_0 l2_).1 (?_ : wpv K_X7_ofTurn d P 56 [some (4, (p0 : Int)), some (0, x1), some (0, x2), some (4, (b2 : Int))] [(4, ((b2 + 1 : Nat) : Int))] G R V3)
      refine wp_getA (k := 4) rfl rfl rfl (ly6_o (ly2_0 l2_).2) rfl rfl (ly6_4 (ly2_0 l2_).2).1 (?_ : wpv K_X7_ofTurn d P 59 [some (4, (p0 : Int)), some (0, x1), some (0, x2), some (4, (b2 : Int))] [(4, ((b2 + 3 : Nat) : Int))] G R V3)
      refine wp_ld (i := (.iload_n 1)) (0, x1) rfl rfl (fun _ => rfl) rfl rfl (?_ : wpv K_X7_ofTurn d P 60 [some (4, (p0 : Int)), some (0, x1), some (0, x2), some (4, (b2 : Int))] [(0, x1), (4, ((b2 + 3 : Nat) : Int))] G R V3)
      obtain ⟨s7, w⟩ := w
      refine wp_rng (fun vr8 => ?_)
      have f9 : i32 (V3 (b2 + 3) x1) := vr_a0 vr8 (ly6_4 (ly2_0 l2_).2).2 s7
      replace w := w f9
      refine wp_aI rfl rfl (ly6_4 (ly2_0 l2_).2).2 s7 (?_ : wpv K_X7_ofTurn d P 61 [some (4, (p0 : Int)), some (0, x1), some (0, x2), some (4, (b2 : Int))] [(0, (V3 (b2 + 3) x1))] G R V3)
      exact wp_rI rfl rfl rfl w
    replace w := w.2
    by_cases q1 : x2 = 1
    · replace w := w.1 q1
      refine wp_tsw 1 62 rfl rfl s6 (by omega) (by omega) rfl rfl (?_ : wpv K_X7_ofTurn d P 62 [some (4, (p0 : Int)), some (0, x1), some (0, x2), some (4, (b2 : Int))] [] G R V3)
      refine wp_ld (i := (.aload_n 3)) (4, (b2 : Int)) rfl rfl (fun _ => rfl) rfl rfl (?_ : wpv K_X7_ofTurn d P 63 [some (4, (p0 : Int)), some (0, x1), some (0, x2), some (4, (b2 : Int))] [(4, (b2 : Int))] G R V3)
      refine wp_getA (k := 0) rfl rfl rfl (ly2_o l2_) rfl rfl (ly2_0 l2_).1 (?_ : wpv K_X7_ofTurn d P 66 [some (4, (p0 : Int)), some (0, x1), some (0, x2), some (4, (b2 : Int))] [(4, ((b2 + 1 : Nat) : Int))] G R V3)
      refine wp_getA (k := 5) rfl rfl rfl (ly6_o (ly2_0 l2_).2) rfl rfl (ly6_5 (ly2_0 l2_).2).1 (?_ : wpv K_X7_ofTurn d P 69 [some (4, (p0 : Int)), some (0, x1), some (0, x2), some (4, (b2 : Int))] [(4, ((b2 + 4 : Nat) : Int))] G R V3)
      refine wp_ld (i := (.iload_n 1)) (0, x1) rfl rfl (fun _ => rfl) rfl rfl (?_ : wpv K_X7_ofTurn d P 70 [some (4, (p0 : Int)), some (0, x1), some (0, x2), some (4, (b2 : Int))] [(0, x1), (4, ((b2 + 4 : Nat) : Int))] G R V3)
      obtain ⟨s10, w⟩ := w
      refine wp_rng (fun vr11 => ?_)
      have f12 : i32 (V3 (b2 + 4) x1) := vr_a0 vr11 (ly6_5 (ly2_0 l2_).2).2 s10
      replace w := w f12
      refine wp_aI rfl rfl (ly6_5 (ly2_0 l2_).2).2 s10 (?_ : wpv K_X7_ofTurn d P 71 [some (4, (p0 : Int)), some (0, x1), some (0, x2), some (4, (b2 : Int))] [(0, (V3 (b2 + 4) x1))] G R V3)
      exact wp_rI rfl rfl rfl w
    replace w := w.2
    by_cases q2 : x2 = 2
    · replace w := w.1 q2
      refine wp_tsw 2 72 rfl rfl s6 (by omega) (by omega) rfl rfl (?_ : wpv K_X7_ofTurn d P 72 [some (4, (p0 : Int)), some (0, x1), some (0, x2), some (4, (b2 : Int))] [] G R V3)
      refine wp_ld (i := (.aload_n 3)) (4, (b2 : Int)) rfl rfl (fun _ => rfl) rfl rfl (?_ : wpv K_X7_ofTurn d P 73 [some (4, (p0 : Int)), some (0, x1), some (0, x2), some (4, (b2 : Int))] [(4, (b2 : Int))] G R V3)
      refine wp_getA (k := 1) rfl rfl rfl (ly2_o l2_) rfl rfl (ly2_1 l2_).1 (?_ : wpv K_X7_ofTurn d P 76 [some (4, (p0 : Int)), some (0, x1), some (0, x2), some (4, (b2 : Int))] [(4, ((b2 + 10 : Nat) : Int))] G R V3)
      refine wp_getA (k := 6) rfl rfl rfl (ly4_o (ly2_1 l2_).2) rfl rfl (ly4_6 (ly2_1 l2_).2).1 (?_ : wpv K_X7_ofTurn d P 79 [some (4, (p0 : Int)), some (0, x1), some (0, x2), some (4, (b2 : Int))] [(4, ((b2 + 15 : Nat) : Int))] G R V3)
      refine wp_ld (i := (.iload_n 1)) (0, x1) rfl rfl (fun _ => rfl) rfl rfl (?_ : wpv K_X7_ofTurn d P 80 [some (4, (p0 : Int)), some (0, x1), some (0, x2), some (4, (b2 : Int))] [(0, x1), (4, ((b2 + 15 : Nat) : Int))] G R V3)
      obtain ⟨s13, w⟩ := w
      refine wp_rng (fun vr14 => ?_)
      have f15 : i32 (V3 (b2 + 15) x1) := vr_a0 vr14 (ly4_6 (ly2_1 l2_).2).2 s13
      replace w := w f15
      refine wp_aI rfl rfl (ly4_6 (ly2_1 l2_).2).2 s13 (?_ : wpv K_X7_ofTurn d P 81 [some (4, (p0 : Int)), some (0, x1), some (0, x2), some (4, (b2 : Int))] [(0, (V3 (b2 + 15) x1))] G R V3)
      exact wp_rI rfl rfl rfl w
    replace w := w.2
    have q3 : x2 = 3 := by omega
    replace w := w q3
    refine wp_tsw 3 82 rfl rfl s6 (by omega) (by omega) rfl rfl (?_ : wpv K_X7_ofTurn d P 82 [some (4, (p0 : Int)), some (0, x1), some (0, x2), some (4, (b2 : Int))] [] G R V3)
    refine wp_ld (i := (.aload_n 3)) (4, (b2 : Int)) rfl rfl (fun _ => rfl) rfl rfl (?_ : wpv K_X7_ofTurn d P 83 [some (4, (p0 : Int)), some (0, x1), some (0, x2), some (4, (b2 : Int))] [(4, (b2 : Int))] G R V3)
    refine wp_getA (k := 0) rfl rfl rfl (ly2_o l2_) rfl rfl (ly2_0 l2_).1 (?_ : wpv K_X7_ofTurn d P 86 [some (4, (p0 : Int)), some (0, x1), some (0, x2), some (4, (b2 : Int))] [(4, ((b2 + 1 : Nat) : Int))] G R V3)
    refine wp_ld (i := (.iload_n 1)) (0, x1) rfl rfl (fun _ => rfl) rfl rfl (?_ : wpv K_X7_ofTurn d P 87 [some (4, (p0 : Int)), some (0, x1), some (0, x2), some (4, (b2 : Int))] [(0, x1), (4, ((b2 + 1 : Nat) : Int))] G R V3)
    refine wp_virt (as := [(0, x1)]) (a := b2 + 1) (st := []) _ rfl rfl rfl rfl rfl rfl (ly6_o (ly2_0 l2_).2) (Nat.le_of_ble_eq_true rfl) (cwv_kI w (fun v17 V16 w => ?_))
    show wpv K_X7_ofTurn d P 90 [some (4, (p0 : Int)), some (0, x1), some (0, x2), some (4, (b2 : Int))] [(0, v17)] G R V16
    exact wp_rI rfl rfl rfl w
  · have q : v4 = 0 := Decidable.not_not.mp q
    replace w := w.2 q
    show wpv K_X7_ofTurn d P 19 [some (4, (p0 : Int)), some (0, x1), some (0, x2), some (4, (b2 : Int))] [] G R V3
    refine wp_p (i := (.iconst (-1))) rfl rfl (fun _ _ _ => rfl) (?_ : wpv K_X7_ofTurn d P 20 [some (4, (p0 : Int)), some (0, x1), some (0, x2), some (4, (b2 : Int))] [(0, (-1))] G R V3)
    exact wp_rI rfl rfl rfl w
theorem t_X7_heap_0 {d : Nat} {P : gP} {p0 : Nat} {x1 : Int} {x2 : Int} {G : List gS} {R V : gV} (l0 : lay7 G R p0) (w : (∃ b1 : Nat, (R p0 6 = (b1 : Int) ∧ lay1 G R b1) ∧ (∃ b2 : Nat, (R b1 0 = (b2 : Int) ∧ lay2 G R b2) ∧ cwv d (fun r V3 => ∃ v4 : Int, r = some (0, v4) ∧ ((i32 v4) ∧ (((¬ v4 = 0) → ((i32 x2) ∧ (((x2 < 0 ∨ 9 < x2) → P (some (0, (-1000000))) V3) ∧ ((x2 = 0) → ((0 ≤ x1 ∧ x1 < 300) ∧ ((i32 (V3 (b2 + 13) x1)) → P (some (0, (V3 (b2 + 13) x1))) V3))) ∧ ((x2 = 1) → ((0 ≤ x1 ∧ x1 < 300) ∧ ((i32 (V3 (b2 + 14) x1)) → P (some (0, (V3 (b2 + 14) x1))) V3))) ∧ ((x2 = 2) → cwv d (fun r V13 => ∃ v14 : Int, r = some (0, v14) ∧ ((i32 v14) ∧ (((v14 = 0) → P (some (0, 0)) V13) ∧ ((¬ v14 = 0) → P (some (0, 1)) V13)))) 58 [(4, ((b2 + 10 : Nat) : Int)), (0, x1)] G R V3) ∧ ((x2 = 3) → cwv d (fun r V16 => ∃ v17 : Int, r = some (0, v17) ∧ P (some (0, v17)) V16) 33 [(4, (b2 : Int)), (0, x1)] G R V3) ∧ ((x2 = 4) → cwv d (fun r V18 => ∃ v19 : Int, r = some (0, v19) ∧ P (some (0, v19)) V18) 64 [(4, ((b2 + 10 : Nat) : Int)), (0, x1)] G R V3) ∧ ((x2 = 5) → cwv d (fun r V20 => ∃ v21 : Int, r = some (0, v21) ∧ P (some (0, v21)) V20) 35 [(4, (b2 : Int)), (0, x1)] G R V3) ∧ ((x2 = 6) → ((0 ≤ x1 ∧ x1 < 300) ∧ ((i32 (V3 (b2 + 14) x1)) → ((0 ≤ (V3 (b2 + 14) x1) ∧ (V3 (b2 + 14) x1) < 300) ∧ ((i32 (V3 (b2 + 19) ((V3 (b2 + 14) x1)))) → P (some (0, (V3 (b2 + 19) ((V3 (b2 + 14) x1))))) V3))))) ∧ ((x2 = 7) → cwv d (fun r V27 => ∃ v28 : Int, r = some (0, v28) ∧ ((i32 v28) ∧ (((¬ v28 = 0) → P (some (0, 0)) V27) ∧ ((v28 = 0) → P (some (0, 1)) V27)))) 35 [(4, (b2 : Int)), (0, x1)] G R V3) ∧ ((x2 = 8) → cwv d (fun r V30 => ∃ v31 : Int, r = some (0, v31) ∧ P (some (0, v31)) V30) 65 [(4, ((b2 + 10 : Nat) : Int)), (0, x1)] G R V3) ∧ ((x2 = 9) → cwv d (fun r V32 => ∃ v33 : Int, r = some (0, v33) ∧ P (some (0, v33)) V32) 66 [(4, ((b2 + 10 : Nat) : Int)), (0, x1)] G R V3)))) ∧ ((v4 = 0) → P (some (0, (-1000000))) V3)))) 56 [(4, ((b2 + 10 : Nat) : Int)), (0, x1)] G R V))) : wpv K_X7_heap d P 0 [some (4, (p0 : Int)), some (0, x1), some (0, x2)] [] G R V := by
  refine wp_ld (i := (.aload_n 0)) (4, (p0 : Int)) rfl rfl (fun _ => rfl) rfl rfl (?_ : wpv K_X7_heap d P 1 [some (4, (p0 : Int)), some (0, x1), some (0, x2)] [(4, (p0 : Int))] G R V)
  obtain ⟨b1, ⟨r1, l1_⟩, w⟩ := w
  refine wp_getA (k := 6) rfl rfl rfl (ly7_o l0) rfl rfl r1 (?_ : wpv K_X7_heap d P 4 [some (4, (p0 : Int)), some (0, x1), some (0, x2)] [(4, (b1 : Int))] G R V)
  obtain ⟨b2, ⟨r2, l2_⟩, w⟩ := w
  refine wp_getA (k := 0) rfl rfl rfl (ly1_o l1_) rfl rfl r2 (?_ : wpv K_X7_heap d P 7 [some (4, (p0 : Int)), some (0, x1), some (0, x2)] [(4, (b2 : Int))] G R V)
  refine wp_sto (i := (.astore_n 3)) _ rfl rfl (fun _ => rfl) rfl rfl rfl ?_
  refine wp_wk (L' := [some (4, (p0 : Int)), some (0, x1), some (0, x2), some (4, (b2 : Int))]) (wk_s (wk_s (wk_s (wk_s wk_0)))) ?_
  show wpv K_X7_heap d P 8 [some (4, (p0 : Int)), some (0, x1), some (0, x2), some (4, (b2 : Int))] [] G R V
  refine wp_ld (i := (.aload_n 3)) (4, (b2 : Int)) rfl rfl (fun _ => rfl) rfl rfl (?_ : wpv K_X7_heap d P 9 [some (4, (p0 : Int)), some (0, x1), some (0, x2), some (4, (b2 : Int))] [(4, (b2 : Int))] G R V)
  refine wp_getA (k := 1) rfl rfl rfl (ly2_o l2_) rfl rfl (ly2_1 l2_).1 (?_ : wpv K_X7_heap d P 12 [some (4, (p0 : Int)), some (0, x1), some (0, x2), some (4, (b2 : Int))] [(4, ((b2 + 10 : Nat) : Int))] G R V)
  refine wp_sto (i := (.astore 4)) _ rfl rfl (fun _ => rfl) rfl rfl rfl ?_
  refine wp_wk (L' := [some (4, (p0 : Int)), some (0, x1), some (0, x2), some (4, (b2 : Int)), some (4, ((b2 + 10 : Nat) : Int))]) (wk_s (wk_s (wk_s (wk_s (wk_s wk_0))))) ?_
  show wpv K_X7_heap d P 14 [some (4, (p0 : Int)), some (0, x1), some (0, x2), some (4, (b2 : Int)), some (4, ((b2 + 10 : Nat) : Int))] [] G R V
  refine wp_ld (i := (.aload 4)) (4, ((b2 + 10 : Nat) : Int)) rfl rfl (fun _ => rfl) rfl rfl (?_ : wpv K_X7_heap d P 16 [some (4, (p0 : Int)), some (0, x1), some (0, x2), some (4, (b2 : Int)), some (4, ((b2 + 10 : Nat) : Int))] [(4, ((b2 + 10 : Nat) : Int))] G R V)
  refine wp_ld (i := (.iload_n 1)) (0, x1) rfl rfl (fun _ => rfl) rfl rfl (?_ : wpv K_X7_heap d P 17 [some (4, (p0 : Int)), some (0, x1), some (0, x2), some (4, (b2 : Int)), some (4, ((b2 + 10 : Nat) : Int))] [(0, x1), (4, ((b2 + 10 : Nat) : Int))] G R V)
  refine wp_virt (as := [(0, x1)]) (a := b2 + 10) (st := []) _ rfl rfl rfl rfl rfl rfl (ly4_o (ly2_1 l2_).2) (Nat.le_of_ble_eq_true rfl) (cwv_kI w (fun v4 V3 w => ?_))
  show wpv K_X7_heap d P 20 [some (4, (p0 : Int)), some (0, x1), some (0, x2), some (4, (b2 : Int)), some (4, ((b2 + 10 : Nat) : Int))] [(0, v4)] G R V3
  obtain ⟨s5, w⟩ := w
  refine wp_if (c := .ne) 26 rfl rfl rfl s5 (fun q => ?_) (fun q => ?_)
  · have q : ¬ v4 = 0 := q
    replace w := w.1 q
    show wpv K_X7_heap d P 26 [some (4, (p0 : Int)), some (0, x1), some (0, x2), some (4, (b2 : Int)), some (4, ((b2 + 10 : Nat) : Int))] [] G R V3
    refine wp_ld (i := (.iload_n 2)) (0, x2) rfl rfl (fun _ => rfl) rfl rfl (?_ : wpv K_X7_heap d P 27 [some (4, (p0 : Int)), some (0, x1), some (0, x2), some (4, (b2 : Int)), some (4, ((b2 + 10 : Nat) : Int))] [(0, x2)] G R V3)
    obtain ⟨s6, w⟩ := w
    by_cases qd : x2 < 0 ∨ 9 < x2
    · replace w := w.1 qd
      refine wp_tsd 172 rfl rfl s6 qd rfl (?_ : wpv K_X7_heap d P 172 [some (4, (p0 : Int)), some (0, x1), some (0, x2), some (4, (b2 : Int)), some (4, ((b2 + 10 : Nat) : Int))] [] G R V3)
      refine wp_p (i := (.ldc 159)) rfl rfl (fun _ _ _ => rfl) (?_ : wpv K_X7_heap d P 174 [some (4, (p0 : Int)), some (0, x1), some (0, x2), some (4, (b2 : Int)), some (4, ((b2 + 10 : Nat) : Int))] [(0, (-1000000))] G R V3)
      exact wp_rI rfl rfl rfl w
    replace w := w.2
    by_cases q0 : x2 = 0
    · replace w := w.1 q0
      refine wp_tsw 0 80 rfl rfl s6 (by omega) (by omega) rfl rfl (?_ : wpv K_X7_heap d P 80 [some (4, (p0 : Int)), some (0, x1), some (0, x2), some (4, (b2 : Int)), some (4, ((b2 + 10 : Nat) : Int))] [] G R V3)
      refine wp_ld (i := (.aload 4)) (4, ((b2 + 10 : Nat) : Int)) rfl rfl (fun _ => rfl) rfl rfl (?_ : wpv K_X7_heap d P 82 [some (4, (p0 : Int)), some (0, x1), some (0, x2), some (4, (b2 : Int)), some (4, ((b2 + 10 : Nat) : Int))] [(4, ((b2 + 10 : Nat) : Int))] G R V3)
      refine wp_getA (k := 4) rfl rfl rfl (ly4_o (ly2_1 l2_).2) rfl rfl (ly4_4 (ly2_1 l2_).2).1 (?_ : wpv K_X7_heap d P 85 [some (4, (p0 : Int)), some (0, x1), some (0, x2), some (4, (b2 : Int)), some (4, ((b2 + 10 : Nat) : Int))] [(4, ((b2 + 13 : Nat) : Int))] G R V3)
      refine wp_ld (i := (.iload_n 1)) (0, x1) rfl rfl (fun _ => rfl) rfl rfl (?_ : wpv K_X7_heap d P 86 [some (4, (p0 : Int)), some (0, x1), some (0, x2), some (4, (b2 : Int)), some (4, ((b2 + 10 : Nat) : Int))] [(0, x1), (4, ((b2 + 13 : Nat) : Int))] G R V3)
      obtain ⟨s7, w⟩ := w
      refine wp_rng (fun vr8 => ?_)
      have f9 : i32 (V3 (b2 + 13) x1) := vr_a0 vr8 (ly4_4 (ly2_1 l2_).2).2 s7
      replace w := w f9
      refine wp_aI rfl rfl (ly4_4 (ly2_1 l2_).2).2 s7 (?_ : wpv K_X7_heap d P 87 [some (4, (p0 : Int)), some (0, x1), some (0, x2), some (4, (b2 : Int)), some (4, ((b2 + 10 : Nat) : Int))] [(0, (V3 (b2 + 13) x1))] G R V3)
      exact wp_rI rfl rfl rfl w
    replace w := w.2
    by_cases q1 : x2 = 1
    · replace w := w.1 q1
      refine wp_tsw 1 88 rfl rfl s6 (by omega) (by omega) rfl rfl (?_ : wpv K_X7_heap d P 88 [some (4, (p0 : Int)), some (0, x1), some (0, x2), some (4, (b2 : Int)), some (4, ((b2 + 10 : Nat) : Int))] [] G R V3)
      refine wp_ld (i := (.aload 4)) (4, ((b2 + 10 : Nat) : Int)) rfl rfl (fun _ => rfl) rfl rfl (?_ : wpv K_X7_heap d P 90 [some (4, (p0 : Int)), some (0, x1), some (0, x2), some (4, (b2 : Int)), some (4, ((b2 + 10 : Nat) : Int))] [(4, ((b2 + 10 : Nat) : Int))] G R V3)
      refine wp_getA (k := 5) rfl rfl rfl (ly4_o (ly2_1 l2_).2) rfl rfl (ly4_5 (ly2_1 l2_).2).1 (?_ : wpv K_X7_heap d P 93 [some (4, (p0 : Int)), some (0, x1), some (0, x2), some (4, (b2 : Int)), some (4, ((b2 + 10 : Nat) : Int))] [(4, ((b2 + 14 : Nat) : Int))] G R V3)
      refine wp_ld (i := (.iload_n 1)) (0, x1) rfl rfl (fun _ => rfl) rfl rfl (?_ : wpv K_X7_heap d P 94 [some (4, (p0 : Int)), some (0, x1), some (0, x2), some (4, (b2 : Int)), some (4, ((b2 + 10 : Nat) : Int))] [(0, x1), (4, ((b2 + 14 : Nat) : Int))] G R V3)
      obtain ⟨s10, w⟩ := w
      refine wp_rng (fun vr11 => ?_)
      have f12 : i32 (V3 (b2 + 14) x1) := vr_a0 vr11 (ly4_5 (ly2_1 l2_).2).2 s10
      replace w := w f12
      refine wp_aI rfl rfl (ly4_5 (ly2_1 l2_).2).2 s10 (?_ : wpv K_X7_heap d P 95 [some (4, (p0 : Int)), some (0, x1), some (0, x2), some (4, (b2 : Int)), some (4, ((b2 + 10 : Nat) : Int))] [(0, (V3 (b2 + 14) x1))] G R V3)
      exact wp_rI rfl rfl rfl w
    replace w := w.2
    by_cases q2 : x2 = 2
    · replace w := w.1 q2
      refine wp_tsw 2 96 rfl rfl s6 (by omega) (by omega) rfl rfl (?_ : wpv K_X7_heap d P 96 [some (4, (p0 : Int)), some (0, x1), some (0, x2), some (4, (b2 : Int)), some (4, ((b2 + 10 : Nat) : Int))] [] G R V3)
      refine wp_ld (i := (.aload 4)) (4, ((b2 + 10 : Nat) : Int)) rfl rfl (fun _ => rfl) rfl rfl (?_ : wpv K_X7_heap d P 98 [some (4, (p0 : Int)), some (0, x1), some (0, x2), some (4, (b2 : Int)), some (4, ((b2 + 10 : Nat) : Int))] [(4, ((b2 + 10 : Nat) : Int))] G R V3)
      refine wp_ld (i := (.iload_n 1)) (0, x1) rfl rfl (fun _ => rfl) rfl rfl (?_ : wpv K_X7_heap d P 99 [some (4, (p0 : Int)), some (0, x1), some (0, x2), some (4, (b2 : Int)), some (4, ((b2 + 10 : Nat) : Int))] [(0, x1), (4, ((b2 + 10 : Nat) : Int))] G R V3)
      refine wp_virt (as := [(0, x1)]) (a := b2 + 10) (st := []) _ rfl rfl rfl rfl rfl rfl (ly4_o (ly2_1 l2_).2) (Nat.le_of_ble_eq_true rfl) (cwv_kI w (fun v14 V13 w => ?_))
      show wpv K_X7_heap d P 102 [some (4, (p0 : Int)), some (0, x1), some (0, x2), some (4, (b2 : Int)), some (4, ((b2 + 10 : Nat) : Int))] [(0, v14)] G R V13
      obtain ⟨s15, w⟩ := w
      refine wp_if (c := .eq) 109 rfl rfl rfl s15 (fun q => ?_) (fun q => ?_)
      · have q : v14 = 0 := q
        replace w := w.1 q
        show wpv K_X7_heap d P 109 [some (4, (p0 : Int)), some (0, x1), some (0, x2), some (4, (b2 : Int)), some (4, ((b2 + 10 : Nat) : Int))] [] G R V13
        refine wp_p (i := (.iconst 0)) rfl rfl (fun _ _ _ => rfl) (?_ : wpv K_X7_heap d P 110 [some (4, (p0 : Int)), some (0, x1), some (0, x2), some (4, (b2 : Int)), some (4, ((b2 + 10 : Nat) : Int))] [(0, 0)] G R V13)
        exact wp_rI rfl rfl rfl w
      · have q : ¬ v14 = 0 := q
        replace w := w.2 q
        show wpv K_X7_heap d P 105 [some (4, (p0 : Int)), some (0, x1), some (0, x2), some (4, (b2 : Int)), some (4, ((b2 + 10 : Nat) : Int))] [] G R V13
        refine wp_p (i := (.iconst 1)) rfl rfl (fun _ _ _ => rfl) (?_ : wpv K_X7_heap d P 106 [some (4, (p0 : Int)), some (0, x1), some (0, x2), some (4, (b2 : Int)), some (4, ((b2 + 10 : Nat) : Int))] [(0, 1)] G R V13)
        refine wp_go 110 rfl rfl rfl (?_ : wpv K_X7_heap d P 110 [some (4, (p0 : Int)), some (0, x1), some (0, x2), some (4, (b2 : Int)), some (4, ((b2 + 10 : Nat) : Int))] [(0, 1)] G R V13)
        exact wp_rI rfl rfl rfl w
    replace w := w.2
    by_cases q3 : x2 = 3
    · replace w := w.1 q3
      refine wp_tsw 3 111 rfl rfl s6 (by omega) (by omega) rfl rfl (?_ : wpv K_X7_heap d P 111 [some (4, (p0 : Int)), some (0, x1), some (0, x2), some (4, (b2 : Int)), some (4, ((b2 + 10 : Nat) : Int))] [] G R V3)
      refine wp_ld (i := (.aload_n 3)) (4, (b2 : Int)) rfl rfl (fun _ => rfl) rfl rfl (?_ : wpv K_X7_heap d P 112 [some (4, (p0 : Int)), some (0, x1), some (0, x2), some (4, (b2 : Int)), some (4, ((b2 + 10 : Nat) : Int))] [(4, (b2 : Int))] G R V3)
      refine wp_ld (i := (.iload_n 1)) (0, x1) rfl rfl (fun _ => rfl) rfl rfl (?_ : wpv K_X7_heap d P 113 [some (4, (p0 : Int)), some (0, x1), some (0, x2), some (4, (b2 : Int)), some (4, ((b2 + 10 : Nat) : Int))] [(0, x1), (4, (b2 : Int))] G R V3)
      refine wp_virt (as := [(0, x1)]) (a := b2) (st := []) _ rfl rfl rfl rfl rfl rfl (ly2_o l2_) (Nat.le_of_ble_eq_true rfl) (cwv_kI w (fun v17 V16 w => ?_))
      show wpv K_X7_heap d P 116 [some (4, (p0 : Int)), some (0, x1), some (0, x2), some (4, (b2 : Int)), some (4, ((b2 + 10 : Nat) : Int))] [(0, v17)] G R V16
      exact wp_rI rfl rfl rfl w
    replace w := w.2
    by_cases q4 : x2 = 4
    · replace w := w.1 q4
      refine wp_tsw 4 117 rfl rfl s6 (by omega) (by omega) rfl rfl (?_ : wpv K_X7_heap d P 117 [some (4, (p0 : Int)), some (0, x1), some (0, x2), some (4, (b2 : Int)), some (4, ((b2 + 10 : Nat) : Int))] [] G R V3)
      refine wp_ld (i := (.aload 4)) (4, ((b2 + 10 : Nat) : Int)) rfl rfl (fun _ => rfl) rfl rfl (?_ : wpv K_X7_heap d P 119 [some (4, (p0 : Int)), some (0, x1), some (0, x2), some (4, (b2 : Int)), some (4, ((b2 + 10 : Nat) : Int))] [(4, ((b2 + 10 : Nat) : Int))] G R V3)
      refine wp_ld (i := (.iload_n 1)) (0, x1) rfl rfl (fun _ => rfl) rfl rfl (?_ : wpv K_X7_heap d P 120 [some (4, (p0 : Int)), some (0, x1), some (0, x2), some (4, (b2 : Int)), some (4, ((b2 + 10 : Nat) : Int))] [(0, x1), (4, ((b2 + 10 : Nat) : Int))] G R V3)
      refine wp_virt (as := [(0, x1)]) (a := b2 + 10) (st := []) _ rfl rfl rfl rfl rfl rfl (ly4_o (ly2_1 l2_).2) (Nat.le_of_ble_eq_true rfl) (cwv_kI w (fun v19 V18 w => ?_))
      show wpv K_X7_heap d P 123 [some (4, (p0 : Int)), some (0, x1), some (0, x2), some (4, (b2 : Int)), some (4, ((b2 + 10 : Nat) : Int))] [(0, v19)] G R V18
      exact wp_rI rfl rfl rfl w
    replace w := w.2
    by_cases q5 : x2 = 5
    · replace w := w.1 q5
      refine wp_tsw 5 124 rfl rfl s6 (by omega) (by omega) rfl rfl (?_ : wpv K_X7_heap d P 124 [some (4, (p0 : Int)), some (0, x1), some (0, x2), some (4, (b2 : Int)), some (4, ((b2 + 10 : Nat) : Int))] [] G R V3)
      refine wp_ld (i := (.aload_n 3)) (4, (b2 : Int)) rfl rfl (fun _ => rfl) rfl rfl (?_ : wpv K_X7_heap d P 125 [some (4, (p0 : Int)), some (0, x1), some (0, x2), some (4, (b2 : Int)), some (4, ((b2 + 10 : Nat) : Int))] [(4, (b2 : Int))] G R V3)
      refine wp_ld (i := (.iload_n 1)) (0, x1) rfl rfl (fun _ => rfl) rfl rfl (?_ : wpv K_X7_heap d P 126 [some (4, (p0 : Int)), some (0, x1), some (0, x2), some (4, (b2 : Int)), some (4, ((b2 + 10 : Nat) : Int))] [(0, x1), (4, (b2 : Int))] G R V3)
      refine wp_virt (as := [(0, x1)]) (a := b2) (st := []) _ rfl rfl rfl rfl rfl rfl (ly2_o l2_) (Nat.le_of_ble_eq_true rfl) (cwv_kI w (fun v21 V20 w => ?_))
      show wpv K_X7_heap d P 129 [some (4, (p0 : Int)), some (0, x1), some (0, x2), some (4, (b2 : Int)), some (4, ((b2 + 10 : Nat) : Int))] [(0, v21)] G R V20
      exact wp_rI rfl rfl rfl w
    replace w := w.2
    by_cases q6 : x2 = 6
    · replace w := w.1 q6
      refine wp_tsw 6 130 rfl rfl s6 (by omega) (by omega) rfl rfl (?_ : wpv K_X7_heap d P 130 [some (4, (p0 : Int)), some (0, x1), some (0, x2), some (4, (b2 : Int)), some (4, ((b2 + 10 : Nat) : Int))] [] G R V3)
      refine wp_ld (i := (.aload 4)) (4, ((b2 + 10 : Nat) : Int)) rfl rfl (fun _ => rfl) rfl rfl (?_ : wpv K_X7_heap d P 132 [some (4, (p0 : Int)), some (0, x1), some (0, x2), some (4, (b2 : Int)), some (4, ((b2 + 10 : Nat) : Int))] [(4, ((b2 + 10 : Nat) : Int))] G R V3)
      refine wp_getA (k := 10) rfl rfl rfl (ly4_o (ly2_1 l2_).2) rfl rfl (ly4_10 (ly2_1 l2_).2).1 (?_ : wpv K_X7_heap d P 135 [some (4, (p0 : Int)), some (0, x1), some (0, x2), some (4, (b2 : Int)), some (4, ((b2 + 10 : Nat) : Int))] [(4, ((b2 + 19 : Nat) : Int))] G R V3)
      refine wp_ld (i := (.aload 4)) (4, ((b2 + 10 : Nat) : Int)) rfl rfl (fun _ => rfl) rfl rfl (?_ : wpv K_X7_heap d P 137 [some (4, (p0 : Int)), some (0, x1), some (0, x2), some (4, (b2 : Int)), some (4, ((b2 + 10 : Nat) : Int))] [(4, ((b2 + 10 : Nat) : Int)), (4, ((b2 + 19 : Nat) : Int))] G R V3)
      refine wp_getA (k := 5) rfl rfl rfl (ly4_o (ly2_1 l2_).2) rfl rfl (ly4_5 (ly2_1 l2_).2).1 (?_ : wpv K_X7_heap d P 140 [some (4, (p0 : Int)), some (0, x1), some (0, x2), some (4, (b2 : Int)), some (4, ((b2 + 10 : Nat) : Int))] [(4, ((b2 + 14 : Nat) : Int)), (4, ((b2 + 19 : Nat) : Int))] G R V3)
      refine wp_ld (i := (.iload_n 1)) (0, x1) rfl rfl (fun _ => rfl) rfl rfl (?_ : wpv K_X7_heap d P 141 [some (4, (p0 : Int)), some (0, x1), some (0, x2), some (4, (b2 : Int)), some (4, ((b2 + 10 : Nat) : Int))] [(0, x1), (4, ((b2 + 14 : Nat) : Int)), (4, ((b2 + 19 : Nat) : Int))] G R V3)
      obtain ⟨s22, w⟩ := w
      refine wp_rng (fun vr23 => ?_)
      have f24 : i32 (V3 (b2 + 14) x1) := vr_a0 vr23 (ly4_5 (ly2_1 l2_).2).2 s22
      replace w := w f24
      refine wp_aI rfl rfl (ly4_5 (ly2_1 l2_).2).2 s22 (?_ : wpv K_X7_heap d P 142 [some (4, (p0 : Int)), some (0, x1), some (0, x2), some (4, (b2 : Int)), some (4, ((b2 + 10 : Nat) : Int))] [(0, (V3 (b2 + 14) x1)), (4, ((b2 + 19 : Nat) : Int))] G R V3)
      obtain ⟨s25, w⟩ := w
      have f26 : i32 (V3 (b2 + 19) ((V3 (b2 + 14) x1))) := vr_a0 vr23 (ly4_10 (ly2_1 l2_).2).2 s25
      replace w := w f26
      refine wp_aI rfl rfl (ly4_10 (ly2_1 l2_).2).2 s25 (?_ : wpv K_X7_heap d P 143 [some (4, (p0 : Int)), some (0, x1), some (0, x2), some (4, (b2 : Int)), some (4, ((b2 + 10 : Nat) : Int))] [(0, (V3 (b2 + 19) ((V3 (b2 + 14) x1))))] G R V3)
      exact wp_rI rfl rfl rfl w
    replace w := w.2
    by_cases q7 : x2 = 7
    · replace w := w.1 q7
      refine wp_tsw 7 144 rfl rfl s6 (by omega) (by omega) rfl rfl (?_ : wpv K_X7_heap d P 144 [some (4, (p0 : Int)), some (0, x1), some (0, x2), some (4, (b2 : Int)), some (4, ((b2 + 10 : Nat) : Int))] [] G R V3)
      refine wp_ld (i := (.aload_n 3)) (4, (b2 : Int)) rfl rfl (fun _ => rfl) rfl rfl (?_ : wpv K_X7_heap d P 145 [some (4, (p0 : Int)), some (0, x1), some (0, x2), some (4, (b2 : Int)), some (4, ((b2 + 10 : Nat) : Int))] [(4, (b2 : Int))] G R V3)
      refine wp_ld (i := (.iload_n 1)) (0, x1) rfl rfl (fun _ => rfl) rfl rfl (?_ : wpv K_X7_heap d P 146 [some (4, (p0 : Int)), some (0, x1), some (0, x2), some (4, (b2 : Int)), some (4, ((b2 + 10 : Nat) : Int))] [(0, x1), (4, (b2 : Int))] G R V3)
      refine wp_virt (as := [(0, x1)]) (a := b2) (st := []) _ rfl rfl rfl rfl rfl rfl (ly2_o l2_) (Nat.le_of_ble_eq_true rfl) (cwv_kI w (fun v28 V27 w => ?_))
      show wpv K_X7_heap d P 149 [some (4, (p0 : Int)), some (0, x1), some (0, x2), some (4, (b2 : Int)), some (4, ((b2 + 10 : Nat) : Int))] [(0, v28)] G R V27
      obtain ⟨s29, w⟩ := w
      refine wp_if (c := .ne) 156 rfl rfl rfl s29 (fun q => ?_) (fun q => ?_)
      · have q : ¬ v28 = 0 := q
        replace w := w.1 q
        show wpv K_X7_heap d P 156 [some (4, (p0 : Int)), some (0, x1), some (0, x2), some (4, (b2 : Int)), some (4, ((b2 + 10 : Nat) : Int))] [] G R V27
        refine wp_p (i := (.iconst 0)) rfl rfl (fun _ _ _ => rfl) (?_ : wpv K_X7_heap d P 157 [some (4, (p0 : Int)), some (0, x1), some (0, x2), some (4, (b2 : Int)), some (4, ((b2 + 10 : Nat) : Int))] [(0, 0)] G R V27)
        exact wp_rI rfl rfl rfl w
      · have q : v28 = 0 := Decidable.not_not.mp q
        replace w := w.2 q
        show wpv K_X7_heap d P 152 [some (4, (p0 : Int)), some (0, x1), some (0, x2), some (4, (b2 : Int)), some (4, ((b2 + 10 : Nat) : Int))] [] G R V27
        refine wp_p (i := (.iconst 1)) rfl rfl (fun _ _ _ => rfl) (?_ : wpv K_X7_heap d P 153 [some (4, (p0 : Int)), some (0, x1), some (0, x2), some (4, (b2 : Int)), some (4, ((b2 + 10 : Nat) : Int))] [(0, 1)] G R V27)
        refine wp_go 157 rfl rfl rfl (?_ : wpv K_X7_heap d P 157 [some (4, (p0 : Int)), some (0, x1), some (0, x2), some (4, (b2 : Int)), some (4, ((b2 + 10 : Nat) : Int))] [(0, 1)] G R V27)
        exact wp_rI rfl rfl rfl w
    replace w := w.2
    by_cases q8 : x2 = 8
    · replace w := w.1 q8
      refine wp_tsw 8 158 rfl rfl s6 (by omega) (by omega) rfl rfl (?_ : wpv K_X7_heap d P 158 [some (4, (p0 : Int)), some (0, x1), some (0, x2), some (4, (b2 : Int)), some (4, ((b2 + 10 : Nat) : Int))] [] G R V3)
      refine wp_ld (i := (.aload 4)) (4, ((b2 + 10 : Nat) : Int)) rfl rfl (fun _ => rfl) rfl rfl (?_ : wpv K_X7_heap d P 160 [some (4, (p0 : Int)), some (0, x1), some (0, x2), some (4, (b2 : Int)), some (4, ((b2 + 10 : Nat) : Int))] [(4, ((b2 + 10 : Nat) : Int))] G R V3)
      refine wp_ld (i := (.iload_n 1)) (0, x1) rfl rfl (fun _ => rfl) rfl rfl (?_ : wpv K_X7_heap d P 161 [some (4, (p0 : Int)), some (0, x1), some (0, x2), some (4, (b2 : Int)), some (4, ((b2 + 10 : Nat) : Int))] [(0, x1), (4, ((b2 + 10 : Nat) : Int))] G R V3)
      refine wp_virt (as := [(0, x1)]) (a := b2 + 10) (st := []) _ rfl rfl rfl rfl rfl rfl (ly4_o (ly2_1 l2_).2) (Nat.le_of_ble_eq_true rfl) (cwv_kI w (fun v31 V30 w => ?_))
      show wpv K_X7_heap d P 164 [some (4, (p0 : Int)), some (0, x1), some (0, x2), some (4, (b2 : Int)), some (4, ((b2 + 10 : Nat) : Int))] [(0, v31)] G R V30
      exact wp_rI rfl rfl rfl w
    replace w := w.2
    have q9 : x2 = 9 := by omega
    replace w := w q9
    refine wp_tsw 9 165 rfl rfl s6 (by omega) (by omega) rfl rfl (?_ : wpv K_X7_heap d P 165 [some (4, (p0 : Int)), some (0, x1), some (0, x2), some (4, (b2 : Int)), some (4, ((b2 + 10 : Nat) : Int))] [] G R V3)
    refine wp_ld (i := (.aload 4)) (4, ((b2 + 10 : Nat) : Int)) rfl rfl (fun _ => rfl) rfl rfl (?_ : wpv K_X7_heap d P 167 [some (4, (p0 : Int)), some (0, x1), some (0, x2), some (4, (b2 : Int)), some (4, ((b2 + 10 : Nat) : Int))] [(4, ((b2 + 10 : Nat) : Int))] G R V3)
    refine wp_ld (i := (.iload_n 1)) (0, x1) rfl rfl (fun _ => rfl) rfl rfl (?_ : wpv K_X7_heap d P 168 [some (4, (p0 : Int)), some (0, x1), some (0, x2), some (4, (b2 : Int)), some (4, ((b2 + 10 : Nat) : Int))] [(0, x1), (4, ((b2 + 10 : Nat) : Int))] G R V3)
    refine wp_virt (as := [(0, x1)]) (a := b2 + 10) (st := []) _ rfl rfl rfl rfl rfl rfl (ly4_o (ly2_1 l2_).2) (Nat.le_of_ble_eq_true rfl) (cwv_kI w (fun v33 V32 w => ?_))
    show wpv K_X7_heap d P 171 [some (4, (p0 : Int)), some (0, x1), some (0, x2), some (4, (b2 : Int)), some (4, ((b2 + 10 : Nat) : Int))] [(0, v33)] G R V32
    exact wp_rI rfl rfl rfl w
  · have q : v4 = 0 := Decidable.not_not.mp q
    replace w := w.2 q
    show wpv K_X7_heap d P 23 [some (4, (p0 : Int)), some (0, x1), some (0, x2), some (4, (b2 : Int)), some (4, ((b2 + 10 : Nat) : Int))] [] G R V3
    refine wp_p (i := (.ldc 159)) rfl rfl (fun _ _ _ => rfl) (?_ : wpv K_X7_heap d P 25 [some (4, (p0 : Int)), some (0, x1), some (0, x2), some (4, (b2 : Int)), some (4, ((b2 + 10 : Nat) : Int))] [(0, (-1000000))] G R V3)
    exact wp_rI rfl rfl rfl w
theorem t_X7_has_0 {d : Nat} {P : gP} {p0 : Nat} {x1 : Int} {x2 : Int} {G : List gS} {R V : gV} (l0 : lay7 G R p0) (w : (∃ b1 : Nat, (R p0 6 = (b1 : Int) ∧ lay1 G R b1) ∧ (∃ b2 : Nat, (R b1 0 = (b2 : Int) ∧ lay2 G R b2) ∧ cwv d (fun r V3 => ∃ v4 : Int, r = some (0, v4) ∧ ((i32 v4) ∧ (((v4 = 0) → P (some (0, (-1))) V3) ∧ ((¬ v4 = 0) → cwv d (fun r V6 => ∃ v7 : Int, r = some (0, v7) ∧ ((i32 v7) ∧ (((¬ v7 = 0) → cwv d (fun r V9 => ∃ v10 : Int, r = some (0, v10) ∧ ((i32 v10) ∧ (((v10 = 0) → P (some (0, 0)) V9) ∧ ((¬ v10 = 0) → P (some (0, 1)) V9)))) 59 [(4, ((b2 + 10 : Nat) : Int)), (0, x1), (0, x2)] G R V6) ∧ ((v7 = 0) → P (some (0, (-1))) V6)))) 88 [(4, ((b2 + 1 : Nat) : Int)), (0, x2)] G R V3)))) 56 [(4, ((b2 + 10 : Nat) : Int)), (0, x1)] G R V))) : wpv K_X7_has d P 0 [some (4, (p0 : Int)), some (0, x1), some (0, x2)] [] G R V := by
  refine wp_ld (i := (.aload_n 0)) (4, (p0 : Int)) rfl rfl (fun _ => rfl) rfl rfl (?_ : wpv K_X7_has d P 1 [some (4, (p0 : Int)), some (0, x1), some (0, x2)] [(4, (p0 : Int))] G R V)
  obtain ⟨b1, ⟨r1, l1_⟩, w⟩ := w
  refine wp_getA (k := 6) rfl rfl rfl (ly7_o l0) rfl rfl r1 (?_ : wpv K_X7_has d P 4 [some (4, (p0 : Int)), some (0, x1), some (0, x2)] [(4, (b1 : Int))] G R V)
  obtain ⟨b2, ⟨r2, l2_⟩, w⟩ := w
  refine wp_getA (k := 0) rfl rfl rfl (ly1_o l1_) rfl rfl r2 (?_ : wpv K_X7_has d P 7 [some (4, (p0 : Int)), some (0, x1), some (0, x2)] [(4, (b2 : Int))] G R V)
  refine wp_sto (i := (.astore_n 3)) _ rfl rfl (fun _ => rfl) rfl rfl rfl ?_
  refine wp_wk (L' := [some (4, (p0 : Int)), some (0, x1), some (0, x2), some (4, (b2 : Int))]) (wk_s (wk_s (wk_s (wk_s wk_0)))) ?_
  show wpv K_X7_has d P 8 [some (4, (p0 : Int)), some (0, x1), some (0, x2), some (4, (b2 : Int))] [] G R V
  refine wp_ld (i := (.aload_n 3)) (4, (b2 : Int)) rfl rfl (fun _ => rfl) rfl rfl (?_ : wpv K_X7_has d P 9 [some (4, (p0 : Int)), some (0, x1), some (0, x2), some (4, (b2 : Int))] [(4, (b2 : Int))] G R V)
  refine wp_getA (k := 1) rfl rfl rfl (ly2_o l2_) rfl rfl (ly2_1 l2_).1 (?_ : wpv K_X7_has d P 12 [some (4, (p0 : Int)), some (0, x1), some (0, x2), some (4, (b2 : Int))] [(4, ((b2 + 10 : Nat) : Int))] G R V)
  refine wp_ld (i := (.iload_n 1)) (0, x1) rfl rfl (fun _ => rfl) rfl rfl (?_ : wpv K_X7_has d P 13 [some (4, (p0 : Int)), some (0, x1), some (0, x2), some (4, (b2 : Int))] [(0, x1), (4, ((b2 + 10 : Nat) : Int))] G R V)
  refine wp_virt (as := [(0, x1)]) (a := b2 + 10) (st := []) _ rfl rfl rfl rfl rfl rfl (ly4_o (ly2_1 l2_).2) (Nat.le_of_ble_eq_true rfl) (cwv_kI w (fun v4 V3 w => ?_))
  show wpv K_X7_has d P 16 [some (4, (p0 : Int)), some (0, x1), some (0, x2), some (4, (b2 : Int))] [(0, v4)] G R V3
  obtain ⟨s5, w⟩ := w
  refine wp_if (c := .eq) 30 rfl rfl rfl s5 (fun q => ?_) (fun q => ?_)
  · have q : v4 = 0 := q
    replace w := w.1 q
    show wpv K_X7_has d P 30 [some (4, (p0 : Int)), some (0, x1), some (0, x2), some (4, (b2 : Int))] [] G R V3
    refine wp_p (i := (.iconst (-1))) rfl rfl (fun _ _ _ => rfl) (?_ : wpv K_X7_has d P 31 [some (4, (p0 : Int)), some (0, x1), some (0, x2), some (4, (b2 : Int))] [(0, (-1))] G R V3)
    exact wp_rI rfl rfl rfl w
  · have q : ¬ v4 = 0 := q
    replace w := w.2 q
    show wpv K_X7_has d P 19 [some (4, (p0 : Int)), some (0, x1), some (0, x2), some (4, (b2 : Int))] [] G R V3
    refine wp_ld (i := (.aload_n 3)) (4, (b2 : Int)) rfl rfl (fun _ => rfl) rfl rfl (?_ : wpv K_X7_has d P 20 [some (4, (p0 : Int)), some (0, x1), some (0, x2), some (4, (b2 : Int))] [(4, (b2 : Int))] G R V3)
    refine wp_getA (k := 0) rfl rfl rfl (ly2_o l2_) rfl rfl (ly2_0 l2_).1 (?_ : wpv K_X7_has d P 23 [some (4, (p0 : Int)), some (0, x1), some (0, x2), some (4, (b2 : Int))] [(4, ((b2 + 1 : Nat) : Int))] G R V3)
    refine wp_ld (i := (.iload_n 2)) (0, x2) rfl rfl (fun _ => rfl) rfl rfl (?_ : wpv K_X7_has d P 24 [some (4, (p0 : Int)), some (0, x1), some (0, x2), some (4, (b2 : Int))] [(0, x2), (4, ((b2 + 1 : Nat) : Int))] G R V3)
    refine wp_virt (as := [(0, x2)]) (a := b2 + 1) (st := []) _ rfl rfl rfl rfl rfl rfl (ly6_o (ly2_0 l2_).2) (Nat.le_of_ble_eq_true rfl) (cwv_kI w (fun v7 V6 w => ?_))
    show wpv K_X7_has d P 27 [some (4, (p0 : Int)), some (0, x1), some (0, x2), some (4, (b2 : Int))] [(0, v7)] G R V6
    obtain ⟨s8, w⟩ := w
    refine wp_if (c := .ne) 32 rfl rfl rfl s8 (fun q => ?_) (fun q => ?_)
    · have q : ¬ v7 = 0 := q
      replace w := w.1 q
      show wpv K_X7_has d P 32 [some (4, (p0 : Int)), some (0, x1), some (0, x2), some (4, (b2 : Int))] [] G R V6
      refine wp_ld (i := (.aload_n 3)) (4, (b2 : Int)) rfl rfl (fun _ => rfl) rfl rfl (?_ : wpv K_X7_has d P 33 [some (4, (p0 : Int)), some (0, x1), some (0, x2), some (4, (b2 : Int))] [(4, (b2 : Int))] G R V6)
      refine wp_getA (k := 1) rfl rfl rfl (ly2_o l2_) rfl rfl (ly2_1 l2_).1 (?_ : wpv K_X7_has d P 36 [some (4, (p0 : Int)), some (0, x1), some (0, x2), some (4, (b2 : Int))] [(4, ((b2 + 10 : Nat) : Int))] G R V6)
      refine wp_ld (i := (.iload_n 1)) (0, x1) rfl rfl (fun _ => rfl) rfl rfl (?_ : wpv K_X7_has d P 37 [some (4, (p0 : Int)), some (0, x1), some (0, x2), some (4, (b2 : Int))] [(0, x1), (4, ((b2 + 10 : Nat) : Int))] G R V6)
      refine wp_ld (i := (.iload_n 2)) (0, x2) rfl rfl (fun _ => rfl) rfl rfl (?_ : wpv K_X7_has d P 38 [some (4, (p0 : Int)), some (0, x1), some (0, x2), some (4, (b2 : Int))] [(0, x2), (0, x1), (4, ((b2 + 10 : Nat) : Int))] G R V6)
      refine wp_virt (as := [(0, x1), (0, x2)]) (a := b2 + 10) (st := []) _ rfl rfl rfl rfl rfl rfl (ly4_o (ly2_1 l2_).2) (Nat.le_of_ble_eq_true rfl) (cwv_kI w (fun v10 V9 w => ?_))
      show wpv K_X7_has d P 41 [some (4, (p0 : Int)), some (0, x1), some (0, x2), some (4, (b2 : Int))] [(0, v10)] G R V9
      obtain ⟨s11, w⟩ := w
      refine wp_if (c := .eq) 48 rfl rfl rfl s11 (fun q => ?_) (fun q => ?_)
      · have q : v10 = 0 := q
        replace w := w.1 q
        show wpv K_X7_has d P 48 [some (4, (p0 : Int)), some (0, x1), some (0, x2), some (4, (b2 : Int))] [] G R V9
        refine wp_p (i := (.iconst 0)) rfl rfl (fun _ _ _ => rfl) (?_ : wpv K_X7_has d P 49 [some (4, (p0 : Int)), some (0, x1), some (0, x2), some (4, (b2 : Int))] [(0, 0)] G R V9)
        exact wp_rI rfl rfl rfl w
      · have q : ¬ v10 = 0 := q
        replace w := w.2 q
        show wpv K_X7_has d P 44 [some (4, (p0 : Int)), some (0, x1), some (0, x2), some (4, (b2 : Int))] [] G R V9
        refine wp_p (i := (.iconst 1)) rfl rfl (fun _ _ _ => rfl) (?_ : wpv K_X7_has d P 45 [some (4, (p0 : Int)), some (0, x1), some (0, x2), some (4, (b2 : Int))] [(0, 1)] G R V9)
        refine wp_go 49 rfl rfl rfl (?_ : wpv K_X7_has d P 49 [some (4, (p0 : Int)), some (0, x1), some (0, x2), some (4, (b2 : Int))] [(0, 1)] G R V9)
        exact wp_rI rfl rfl rfl w
    · have q : v7 = 0 := Decidable.not_not.mp q
      replace w := w.2 q
      show wpv K_X7_has d P 30 [some (4, (p0 : Int)), some (0, x1), some (0, x2), some (4, (b2 : Int))] [] G R V6
      refine wp_p (i := (.iconst (-1))) rfl rfl (fun _ _ _ => rfl) (?_ : wpv K_X7_has d P 31 [some (4, (p0 : Int)), some (0, x1), some (0, x2), some (4, (b2 : Int))] [(0, (-1))] G R V6)
      exact wp_rI rfl rfl rfl w
theorem t_X7_join_0 {d : Nat} {P : gP} {p0 : Nat} {x1 : Int} {x2 : Int} {x3 : Int} {G : List gS} {R V : gV} (l0 : lay7 G R p0) (w : (∃ b1 : Nat, (R p0 6 = (b1 : Int) ∧ lay1 G R b1) ∧ (∃ b2 : Nat, (R b1 0 = (b2 : Int) ∧ lay2 G R b2) ∧ cwv d (fun r V3 => ∃ v4 : Int, r = some (0, v4) ∧ ((i32 v4) ∧ (((v4 = 0) → P (some (0, (-1))) V3) ∧ ((¬ v4 = 0) → cwv d (fun r V6 => ∃ v7 : Int, r = some (0, v7) ∧ ((i32 v7) ∧ (((v7 = 0) → P (some (0, (-1))) V6) ∧ ((¬ v7 = 0) → cwv d (fun r V9 => ∃ v10 : Int, r = some (0, v10) ∧ ((i32 v10) ∧ (((¬ v10 = 0) → ((i32 x3) ∧ (((¬ x3 = 0) → ((0 ≤ x1 ∧ x1 < 300) ∧ ((i64 (V9 (b2 + 11) x1)) → ((0 ≤ x2 ∧ x2 < 300) ∧ ((i64 (V9 (b2 + 11) x2)) → ((i64 (V9 (b2 + 12) x1)) → ((i64 (V9 (b2 + 12) x2)) → cwv d (fun r V20 => ∃ v21 : Int, r = some (0, v21) ∧ P (some (0, v21)) V20) 63 [(4, ((b2 + 10 : Nat) : Int)), (2, (jor ((V9 (b2 + 11) x1)) ((V9 (b2 + 11) x2)))), (2, (jor ((V9 (b2 + 12) x1)) ((V9 (b2 + 12) x2))))] G R V9))))))) ∧ ((x3 = 0) → ((0 ≤ x1 ∧ x1 < 300) ∧ ((i64 (V9 (b2 + 11) x1)) → ((0 ≤ x2 ∧ x2 < 300) ∧ ((i64 (V9 (b2 + 11) x2)) → ((i64 (V9 (b2 + 12) x1)) → ((i64 (V9 (b2 + 12) x2)) → cwv d (fun r V29 => ∃ v30 : Int, r = some (0, v30) ∧ P (some (0, v30)) V29) 62 [(4, ((b2 + 10 : Nat) : Int)), (2, (jand ((V9 (b2 + 11) x1)) ((V9 (b2 + 11) x2)))), (2, (jand ((V9 (b2 + 12) x1)) ((V9 (b2 + 12) x2))))] G R V9)))))))))) ∧ ((v10 = 0) → P (some (0, (-1))) V9)))) 140 [(0, x3)] G R V6)))) 56 [(4, ((b2 + 10 : Nat) : Int)), (0, x2)] G R V3)))) 56 [(4, ((b2 + 10 : Nat) : Int)), (0, x1)] G R V))) : wpv K_X7_join d P 0 [some (4, (p0 : Int)), some (0, x1), some (0, x2), some (0, x3)] [] G R V := by
  refine wp_ld (i := (.aload_n 0)) (4, (p0 : Int)) rfl rfl (fun _ => rfl) rfl rfl (?_ : wpv K_X7_join d P 1 [some (4, (p0 : Int)), some (0, x1), some (0, x2), some (0, x3)] [(4, (p0 : Int))] G R V)
  obtain ⟨b1, ⟨r1, l1_⟩, w⟩ := w
  refine wp_getA (k := 6) rfl rfl rfl (ly7_o l0) rfl rfl r1 (?_ : wpv K_X7_join d P 4 [some (4, (p0 : Int)), some (0, x1), some (0, x2), some (0, x3)] [(4, (b1 : Int))] G R V)
  obtain ⟨b2, ⟨r2, l2_⟩, w⟩ := w
  refine wp_getA (k := 0) rfl rfl rfl (ly1_o l1_) rfl rfl r2 (?_ : wpv K_X7_join d P 7 [some (4, (p0 : Int)), some (0, x1), some (0, x2), some (0, x3)] [(4, (b2 : Int))] G R V)
  refine wp_getA (k := 1) rfl rfl rfl (ly2_o l2_) rfl rfl (ly2_1 l2_).1 (?_ : wpv K_X7_join d P 10 [some (4, (p0 : Int)), some (0, x1), some (0, x2), some (0, x3)] [(4, ((b2 + 10 : Nat) : Int))] G R V)
  refine wp_sto (i := (.astore 4)) _ rfl rfl (fun _ => rfl) rfl rfl rfl ?_
  refine wp_wk (L' := [some (4, (p0 : Int)), some (0, x1), some (0, x2), some (0, x3), some (4, ((b2 + 10 : Nat) : Int))]) (wk_s (wk_s (wk_s (wk_s (wk_s wk_0))))) ?_
  show wpv K_X7_join d P 12 [some (4, (p0 : Int)), some (0, x1), some (0, x2), some (0, x3), some (4, ((b2 + 10 : Nat) : Int))] [] G R V
  refine wp_ld (i := (.aload 4)) (4, ((b2 + 10 : Nat) : Int)) rfl rfl (fun _ => rfl) rfl rfl (?_ : wpv K_X7_join d P 14 [some (4, (p0 : Int)), some (0, x1), some (0, x2), some (0, x3), some (4, ((b2 + 10 : Nat) : Int))] [(4, ((b2 + 10 : Nat) : Int))] G R V)
  refine wp_ld (i := (.iload_n 1)) (0, x1) rfl rfl (fun _ => rfl) rfl rfl (?_ : wpv K_X7_join d P 15 [some (4, (p0 : Int)), some (0, x1), some (0, x2), some (0, x3), some (4, ((b2 + 10 : Nat) : Int))] [(0, x1), (4, ((b2 + 10 : Nat) : Int))] G R V)
  refine wp_virt (as := [(0, x1)]) (a := b2 + 10) (st := []) _ rfl rfl rfl rfl rfl rfl (ly4_o (ly2_1 l2_).2) (Nat.le_of_ble_eq_true rfl) (cwv_kI w (fun v4 V3 w => ?_))
  show wpv K_X7_join d P 18 [some (4, (p0 : Int)), some (0, x1), some (0, x2), some (0, x3), some (4, ((b2 + 10 : Nat) : Int))] [(0, v4)] G R V3
  obtain ⟨s5, w⟩ := w
  refine wp_if (c := .eq) 37 rfl rfl rfl s5 (fun q => ?_) (fun q => ?_)
  · have q : v4 = 0 := q
    replace w := w.1 q
    show wpv K_X7_join d P 37 [some (4, (p0 : Int)), some (0, x1), some (0, x2), some (0, x3), some (4, ((b2 + 10 : Nat) : Int))] [] G R V3
    refine wp_p (i := (.iconst (-1))) rfl rfl (fun _ _ _ => rfl) (?_ : wpv K_X7_join d P 38 [some (4, (p0 : Int)), some (0, x1), some (0, x2), some (0, x3), some (4, ((b2 + 10 : Nat) : Int))] [(0, (-1))] G R V3)
    exact wp_rI rfl rfl rfl w
  · have q : ¬ v4 = 0 := q
    replace w := w.2 q
    show wpv K_X7_join d P 21 [some (4, (p0 : Int)), some (0, x1), some (0, x2), some (0, x3), some (4, ((b2 + 10 : Nat) : Int))] [] G R V3
    refine wp_ld (i := (.aload 4)) (4, ((b2 + 10 : Nat) : Int)) rfl rfl (fun _ => rfl) rfl rfl (?_ : wpv K_X7_join d P 23 [some (4, (p0 : Int)), some (0, x1), some (0, x2), some (0, x3), some (4, ((b2 + 10 : Nat) : Int))] [(4, ((b2 + 10 : Nat) : Int))] G R V3)
    refine wp_ld (i := (.iload_n 2)) (0, x2) rfl rfl (fun _ => rfl) rfl rfl (?_ : wpv K_X7_join d P 24 [some (4, (p0 : Int)), some (0, x1), some (0, x2), some (0, x3), some (4, ((b2 + 10 : Nat) : Int))] [(0, x2), (4, ((b2 + 10 : Nat) : Int))] G R V3)
    refine wp_virt (as := [(0, x2)]) (a := b2 + 10) (st := []) _ rfl rfl rfl rfl rfl rfl (ly4_o (ly2_1 l2_).2) (Nat.le_of_ble_eq_true rfl) (cwv_kI w (fun v7 V6 w => ?_))
    show wpv K_X7_join d P 27 [some (4, (p0 : Int)), some (0, x1), some (0, x2), some (0, x3), some (4, ((b2 + 10 : Nat) : Int))] [(0, v7)] G R V6
    obtain ⟨s8, w⟩ := w
    refine wp_if (c := .eq) 37 rfl rfl rfl s8 (fun q => ?_) (fun q => ?_)
    · have q : v7 = 0 := q
      replace w := w.1 q
      show wpv K_X7_join d P 37 [some (4, (p0 : Int)), some (0, x1), some (0, x2), some (0, x3), some (4, ((b2 + 10 : Nat) : Int))] [] G R V6
      refine wp_p (i := (.iconst (-1))) rfl rfl (fun _ _ _ => rfl) (?_ : wpv K_X7_join d P 38 [some (4, (p0 : Int)), some (0, x1), some (0, x2), some (0, x3), some (4, ((b2 + 10 : Nat) : Int))] [(0, (-1))] G R V6)
      exact wp_rI rfl rfl rfl w
    · have q : ¬ v7 = 0 := q
      replace w := w.2 q
      show wpv K_X7_join d P 30 [some (4, (p0 : Int)), some (0, x1), some (0, x2), some (0, x3), some (4, ((b2 + 10 : Nat) : Int))] [] G R V6
      refine wp_ld (i := (.iload_n 3)) (0, x3) rfl rfl (fun _ => rfl) rfl rfl (?_ : wpv K_X7_join d P 31 [some (4, (p0 : Int)), some (0, x1), some (0, x2), some (0, x3), some (4, ((b2 + 10 : Nat) : Int))] [(0, x3)] G R V6)
      refine wp_stat (as := [(0, x3)]) (st := []) _ rfl rfl rfl (by omega) rfl rfl (Nat.le_of_ble_eq_true rfl) (cwv_kI w (fun v10 V9 w => ?_))
      show wpv K_X7_join d P 34 [some (4, (p0 : Int)), some (0, x1), some (0, x2), some (0, x3), some (4, ((b2 + 10 : Nat) : Int))] [(0, v10)] G R V9
      obtain ⟨s11, w⟩ := w
      refine wp_if (c := .ne) 39 rfl rfl rfl s11 (fun q => ?_) (fun q => ?_)
      · have q : ¬ v10 = 0 := q
        replace w := w.1 q
        show wpv K_X7_join d P 39 [some (4, (p0 : Int)), some (0, x1), some (0, x2), some (0, x3), some (4, ((b2 + 10 : Nat) : Int))] [] G R V9
        refine wp_ld (i := (.iload_n 3)) (0, x3) rfl rfl (fun _ => rfl) rfl rfl (?_ : wpv K_X7_join d P 40 [some (4, (p0 : Int)), some (0, x1), some (0, x2), some (0, x3), some (4, ((b2 + 10 : Nat) : Int))] [(0, x3)] G R V9)
        obtain ⟨s12, w⟩ := w
        refine wp_if (c := .ne) 79 rfl rfl rfl s12 (fun q => ?_) (fun q => ?_)
        · have q : ¬ x3 = 0 := q
          replace w := w.1 q
          show wpv K_X7_join d P 79 [some (4, (p0 : Int)), some (0, x1), some (0, x2), some (0, x3), some (4, ((b2 + 10 : Nat) : Int))] [] G R V9
          refine wp_ld (i := (.aload 4)) (4, ((b2 + 10 : Nat) : Int)) rfl rfl (fun _ => rfl) rfl rfl (?_ : wpv K_X7_join d P 81 [some (4, (p0 : Int)), some (0, x1), some (0, x2), some (0, x3), some (4, ((b2 + 10 : Nat) : Int))] [(4, ((b2 + 10 : Nat) : Int))] G R V9)
          refine wp_ld (i := (.aload 4)) (4, ((b2 + 10 : Nat) : Int)) rfl rfl (fun _ => rfl) rfl rfl (?_ : wpv K_X7_join d P 83 [some (4, (p0 : Int)), some (0, x1), some (0, x2), some (0, x3), some (4, ((b2 + 10 : Nat) : Int))] [(4, ((b2 + 10 : Nat) : Int)), (4, ((b2 + 10 : Nat) : Int))] G R V9)
          refine wp_getA (k := 2) rfl rfl rfl (ly4_o (ly2_1 l2_).2) rfl rfl (ly4_2 (ly2_1 l2_).2).1 (?_ : wpv K_X7_join d P 86 [some (4, (p0 : Int)), some (0, x1), some (0, x2), some (0, x3), some (4, ((b2 + 10 : Nat) : Int))] [(4, ((b2 + 11 : Nat) : Int)), (4, ((b2 + 10 : Nat) : Int))] G R V9)
          refine wp_ld (i := (.iload_n 1)) (0, x1) rfl rfl (fun _ => rfl) rfl rfl (?_ : wpv K_X7_join d P 87 [some (4, (p0 : Int)), some (0, x1), some (0, x2), some (0, x3), some (4, ((b2 + 10 : Nat) : Int))] [(0, x1), (4, ((b2 + 11 : Nat) : Int)), (4, ((b2 + 10 : Nat) : Int))] G R V9)
          obtain ⟨s13, w⟩ := w
          refine wp_rng (fun vr14 => ?_)
          have f15 : i64 (V9 (b2 + 11) x1) := vr_a1 vr14 (ly4_2 (ly2_1 l2_).2).2 s13
          replace w := w f15
          refine wp_aJ rfl rfl (ly4_2 (ly2_1 l2_).2).2 s13 (?_ : wpv K_X7_join d P 88 [some (4, (p0 : Int)), some (0, x1), some (0, x2), some (0, x3), some (4, ((b2 + 10 : Nat) : Int))] [(2, (V9 (b2 + 11) x1)), (4, ((b2 + 10 : Nat) : Int))] G R V9)
          refine wp_ld (i := (.aload 4)) (4, ((b2 + 10 : Nat) : Int)) rfl rfl (fun _ => rfl) rfl rfl (?_ : wpv K_X7_join d P 90 [some (4, (p0 : Int)), some (0, x1), some (0, x2), some (0, x3), some (4, ((b2 + 10 : Nat) : Int))] [(4, ((b2 + 10 : Nat) : Int)), (2, (V9 (b2 + 11) x1)), (4, ((b2 + 10 : Nat) : Int))] G R V9)
          refine wp_getA (k := 2) rfl rfl rfl (ly4_o (ly2_1 l2_).2) rfl rfl (ly4_2 (ly2_1 l2_).2).1 (?_ : wpv K_X7_join d P 93 [some (4, (p0 : Int)), some (0, x1), some (0, x2), some (0, x3), some (4, ((b2 + 10 : Nat) : Int))] [(4, ((b2 + 11 : Nat) : Int)), (2, (V9 (b2 + 11) x1)), (4, ((b2 + 10 : Nat) : Int))] G R V9)
          refine wp_ld (i := (.iload_n 2)) (0, x2) rfl rfl (fun _ => rfl) rfl rfl (?_ : wpv K_X7_join d P 94 [some (4, (p0 : Int)), some (0, x1), some (0, x2), some (0, x3), some (4, ((b2 + 10 : Nat) : Int))] [(0, x2), (4, ((b2 + 11 : Nat) : Int)), (2, (V9 (b2 + 11) x1)), (4, ((b2 + 10 : Nat) : Int))] G R V9)
          obtain ⟨s16, w⟩ := w
          have f17 : i64 (V9 (b2 + 11) x2) := vr_a1 vr14 (ly4_2 (ly2_1 l2_).2).2 s16
          replace w := w f17
          refine wp_aJ rfl rfl (ly4_2 (ly2_1 l2_).2).2 s16 (?_ : wpv K_X7_join d P 95 [some (4, (p0 : Int)), some (0, x1), some (0, x2), some (0, x3), some (4, ((b2 + 10 : Nat) : Int))] [(2, (V9 (b2 + 11) x2)), (2, (V9 (b2 + 11) x1)), (4, ((b2 + 10 : Nat) : Int))] G R V9)
          refine wp_jor rfl rfl (?_ : wpv K_X7_join d P 96 [some (4, (p0 : Int)), some (0, x1), some (0, x2), some (0, x3), some (4, ((b2 + 10 : Nat) : Int))] [(2, (jor ((V9 (b2 + 11) x1)) ((V9 (b2 + 11) x2)))), (4, ((b2 + 10 : Nat) : Int))] G R V9)
          refine wp_ld (i := (.aload 4)) (4, ((b2 + 10 : Nat) : Int)) rfl rfl (fun _ => rfl) rfl rfl (?_ : wpv K_X7_join d P 98 [some (4, (p0 : Int)), some (0, x1), some (0, x2), some (0, x3), some (4, ((b2 + 10 : Nat) : Int))] [(4, ((b2 + 10 : Nat) : Int)), (2, (jor ((V9 (b2 + 11) x1)) ((V9 (b2 + 11) x2)))), (4, ((b2 + 10 : Nat) : Int))] G R V9)
          refine wp_getA (k := 3) rfl rfl rfl (ly4_o (ly2_1 l2_).2) rfl rfl (ly4_3 (ly2_1 l2_).2).1 (?_ : wpv K_X7_join d P 101 [some (4, (p0 : Int)), some (0, x1), some (0, x2), some (0, x3), some (4, ((b2 + 10 : Nat) : Int))] [(4, ((b2 + 12 : Nat) : Int)), (2, (jor ((V9 (b2 + 11) x1)) ((V9 (b2 + 11) x2)))), (4, ((b2 + 10 : Nat) : Int))] G R V9)
          refine wp_ld (i := (.iload_n 1)) (0, x1) rfl rfl (fun _ => rfl) rfl rfl (?_ : wpv K_X7_join d P 102 [some (4, (p0 : Int)), some (0, x1), some (0, x2), some (0, x3), some (4, ((b2 + 10 : Nat) : Int))] [(0, x1), (4, ((b2 + 12 : Nat) : Int)), (2, (jor ((V9 (b2 + 11) x1)) ((V9 (b2 + 11) x2)))), (4, ((b2 + 10 : Nat) : Int))] G R V9)
          have f18 : i64 (V9 (b2 + 12) x1) := vr_a1 vr14 (ly4_3 (ly2_1 l2_).2).2 s13
          replace w := w f18
          refine wp_aJ rfl rfl (ly4_3 (ly2_1 l2_).2).2 s13 (?_ : wpv K_X7_join d P 103 [some (4, (p0 : Int)), some (0, x1), some (0, x2), some (0, x3), some (4, ((b2 + 10 : Nat) : Int))] [(2, (V9 (b2 + 12) x1)), (2, (jor ((V9 (b2 + 11) x1)) ((V9 (b2 + 11) x2)))), (4, ((b2 + 10 : Nat) : Int))] G R V9)
          refine wp_ld (i := (.aload 4)) (4, ((b2 + 10 : Nat) : Int)) rfl rfl (fun _ => rfl) rfl rfl (?_ : wpv K_X7_join d P 105 [some (4, (p0 : Int)), some (0, x1), some (0, x2), some (0, x3), some (4, ((b2 + 10 : Nat) : Int))] [(4, ((b2 + 10 : Nat) : Int)), (2, (V9 (b2 + 12) x1)), (2, (jor ((V9 (b2 + 11) x1)) ((V9 (b2 + 11) x2)))), (4, ((b2 + 10 : Nat) : Int))] G R V9)
          refine wp_getA (k := 3) rfl rfl rfl (ly4_o (ly2_1 l2_).2) rfl rfl (ly4_3 (ly2_1 l2_).2).1 (?_ : wpv K_X7_join d P 108 [some (4, (p0 : Int)), some (0, x1), some (0, x2), some (0, x3), some (4, ((b2 + 10 : Nat) : Int))] [(4, ((b2 + 12 : Nat) : Int)), (2, (V9 (b2 + 12) x1)), (2, (jor ((V9 (b2 + 11) x1)) ((V9 (b2 + 11) x2)))), (4, ((b2 + 10 : Nat) : Int))] G R V9)
          refine wp_ld (i := (.iload_n 2)) (0, x2) rfl rfl (fun _ => rfl) rfl rfl (?_ : wpv K_X7_join d P 109 [some (4, (p0 : Int)), some (0, x1), some (0, x2), some (0, x3), some (4, ((b2 + 10 : Nat) : Int))] [(0, x2), (4, ((b2 + 12 : Nat) : Int)), (2, (V9 (b2 + 12) x1)), (2, (jor ((V9 (b2 + 11) x1)) ((V9 (b2 + 11) x2)))), (4, ((b2 + 10 : Nat) : Int))] G R V9)
          have f19 : i64 (V9 (b2 + 12) x2) := vr_a1 vr14 (ly4_3 (ly2_1 l2_).2).2 s16
          replace w := w f19
          refine wp_aJ rfl rfl (ly4_3 (ly2_1 l2_).2).2 s16 (?_ : wpv K_X7_join d P 110 [some (4, (p0 : Int)), some (0, x1), some (0, x2), some (0, x3), some (4, ((b2 + 10 : Nat) : Int))] [(2, (V9 (b2 + 12) x2)), (2, (V9 (b2 + 12) x1)), (2, (jor ((V9 (b2 + 11) x1)) ((V9 (b2 + 11) x2)))), (4, ((b2 + 10 : Nat) : Int))] G R V9)
          refine wp_jor rfl rfl (?_ : wpv K_X7_join d P 111 [some (4, (p0 : Int)), some (0, x1), some (0, x2), some (0, x3), some (4, ((b2 + 10 : Nat) : Int))] [(2, (jor ((V9 (b2 + 12) x1)) ((V9 (b2 + 12) x2)))), (2, (jor ((V9 (b2 + 11) x1)) ((V9 (b2 + 11) x2)))), (4, ((b2 + 10 : Nat) : Int))] G R V9)
          refine wp_virt (as := [(2, (jor ((V9 (b2 + 11) x1)) ((V9 (b2 + 11) x2)))), (2, (jor ((V9 (b2 + 12) x1)) ((V9 (b2 + 12) x2))))]) (a := b2 + 10) (st := []) _ rfl rfl rfl rfl rfl rfl (ly4_o (ly2_1 l2_).2) (Nat.le_of_ble_eq_true rfl) (cwv_kI w (fun v21 V20 w => ?_))
          show wpv K_X7_join d P 114 [some (4, (p0 : Int)), some (0, x1), some (0, x2), some (0, x3), some (4, ((b2 + 10 : Nat) : Int))] [(0, v21)] G R V20
          exact wp_rI rfl rfl rfl w
        · have q : x3 = 0 := Decidable.not_not.mp q
          replace w := w.2 q
          show wpv K_X7_join d P 43 [some (4, (p0 : Int)), some (0, x1), some (0, x2), some (0, x3), some (4, ((b2 + 10 : Nat) : Int))] [] G R V9
          refine wp_ld (i := (.aload 4)) (4, ((b2 + 10 : Nat) : Int)) rfl rfl (fun _ => rfl) rfl rfl (?_ : wpv K_X7_join d P 45 [some (4, (p0 : Int)), some (0, x1), some (0, x2), some (0, x3), some (4, ((b2 + 10 : Nat) : Int))] [(4, ((b2 + 10 : Nat) : Int))] G R V9)
          refine wp_ld (i := (.aload 4)) (4, ((b2 + 10 : Nat) : Int)) rfl rfl (fun _ => rfl) rfl rfl (?_ : wpv K_X7_join d P 47 [some (4, (p0 : Int)), some (0, x1), some (0, x2), some (0, x3), some (4, ((b2 + 10 : Nat) : Int))] [(4, ((b2 + 10 : Nat) : Int)), (4, ((b2 + 10 : Nat) : Int))] G R V9)
          refine wp_getA (k := 2) rfl rfl rfl (ly4_o (ly2_1 l2_).2) rfl rfl (ly4_2 (ly2_1 l2_).2).1 (?_ : wpv K_X7_join d P 50 [some (4, (p0 : Int)), some (0, x1), some (0, x2), some (0, x3), some (4, ((b2 + 10 : Nat) : Int))] [(4, ((b2 + 11 : Nat) : Int)), (4, ((b2 + 10 : Nat) : Int))] G R V9)
          refine wp_ld (i := (.iload_n 1)) (0, x1) rfl rfl (fun _ => rfl) rfl rfl (?_ : wpv K_X7_join d P 51 [some (4, (p0 : Int)), some (0, x1), some (0, x2), some (0, x3), some (4, ((b2 + 10 : Nat) : Int))] [(0, x1), (4, ((b2 + 11 : Nat) : Int)), (4, ((b2 + 10 : Nat) : Int))] G R V9)
          obtain ⟨s22, w⟩ := w
          refine wp_rng (fun vr23 => ?_)
          have f24 : i64 (V9 (b2 + 11) x1) := vr_a1 vr23 (ly4_2 (ly2_1 l2_).2).2 s22
          replace w := w f24
          refine wp_aJ rfl rfl (ly4_2 (ly2_1 l2_).2).2 s22 (?_ : wpv K_X7_join d P 52 [some (4, (p0 : Int)), some (0, x1), some (0, x2), some (0, x3), some (4, ((b2 + 10 : Nat) : Int))] [(2, (V9 (b2 + 11) x1)), (4, ((b2 + 10 : Nat) : Int))] G R V9)
          refine wp_ld (i := (.aload 4)) (4, ((b2 + 10 : Nat) : Int)) rfl rfl (fun _ => rfl) rfl rfl (?_ : wpv K_X7_join d P 54 [some (4, (p0 : Int)), some (0, x1), some (0, x2), some (0, x3), some (4, ((b2 + 10 : Nat) : Int))] [(4, ((b2 + 10 : Nat) : Int)), (2, (V9 (b2 + 11) x1)), (4, ((b2 + 10 : Nat) : Int))] G R V9)
          refine wp_getA (k := 2) rfl rfl rfl (ly4_o (ly2_1 l2_).2) rfl rfl (ly4_2 (ly2_1 l2_).2).1 (?_ : wpv K_X7_join d P 57 [some (4, (p0 : Int)), some (0, x1), some (0, x2), some (0, x3), some (4, ((b2 + 10 : Nat) : Int))] [(4, ((b2 + 11 : Nat) : Int)), (2, (V9 (b2 + 11) x1)), (4, ((b2 + 10 : Nat) : Int))] G R V9)
          refine wp_ld (i := (.iload_n 2)) (0, x2) rfl rfl (fun _ => rfl) rfl rfl (?_ : wpv K_X7_join d P 58 [some (4, (p0 : Int)), some (0, x1), some (0, x2), some (0, x3), some (4, ((b2 + 10 : Nat) : Int))] [(0, x2), (4, ((b2 + 11 : Nat) : Int)), (2, (V9 (b2 + 11) x1)), (4, ((b2 + 10 : Nat) : Int))] G R V9)
          obtain ⟨s25, w⟩ := w
          have f26 : i64 (V9 (b2 + 11) x2) := vr_a1 vr23 (ly4_2 (ly2_1 l2_).2).2 s25
          replace w := w f26
          refine wp_aJ rfl rfl (ly4_2 (ly2_1 l2_).2).2 s25 (?_ : wpv K_X7_join d P 59 [some (4, (p0 : Int)), some (0, x1), some (0, x2), some (0, x3), some (4, ((b2 + 10 : Nat) : Int))] [(2, (V9 (b2 + 11) x2)), (2, (V9 (b2 + 11) x1)), (4, ((b2 + 10 : Nat) : Int))] G R V9)
          refine wp_jand rfl rfl (?_ : wpv K_X7_join d P 60 [some (4, (p0 : Int)), some (0, x1), some (0, x2), some (0, x3), some (4, ((b2 + 10 : Nat) : Int))] [(2, (jand ((V9 (b2 + 11) x1)) ((V9 (b2 + 11) x2)))), (4, ((b2 + 10 : Nat) : Int))] G R V9)
          refine wp_ld (i := (.aload 4)) (4, ((b2 + 10 : Nat) : Int)) rfl rfl (fun _ => rfl) rfl rfl (?_ : wpv K_X7_join d P 62 [some (4, (p0 : Int)), some (0, x1), some (0, x2), some (0, x3), some (4, ((b2 + 10 : Nat) : Int))] [(4, ((b2 + 10 : Nat) : Int)), (2, (jand ((V9 (b2 + 11) x1)) ((V9 (b2 + 11) x2)))), (4, ((b2 + 10 : Nat) : Int))] G R V9)
          refine wp_getA (k := 3) rfl rfl rfl (ly4_o (ly2_1 l2_).2) rfl rfl (ly4_3 (ly2_1 l2_).2).1 (?_ : wpv K_X7_join d P 65 [some (4, (p0 : Int)), some (0, x1), some (0, x2), some (0, x3), some (4, ((b2 + 10 : Nat) : Int))] [(4, ((b2 + 12 : Nat) : Int)), (2, (jand ((V9 (b2 + 11) x1)) ((V9 (b2 + 11) x2)))), (4, ((b2 + 10 : Nat) : Int))] G R V9)
          refine wp_ld (i := (.iload_n 1)) (0, x1) rfl rfl (fun _ => rfl) rfl rfl (?_ : wpv K_X7_join d P 66 [some (4, (p0 : Int)), some (0, x1), some (0, x2), some (0, x3), some (4, ((b2 + 10 : Nat) : Int))] [(0, x1), (4, ((b2 + 12 : Nat) : Int)), (2, (jand ((V9 (b2 + 11) x1)) ((V9 (b2 + 11) x2)))), (4, ((b2 + 10 : Nat) : Int))] G R V9)
          have f27 : i64 (V9 (b2 + 12) x1) := vr_a1 vr23 (ly4_3 (ly2_1 l2_).2).2 s22
          replace w := w f27
          refine wp_aJ rfl rfl (ly4_3 (ly2_1 l2_).2).2 s22 (?_ : wpv K_X7_join d P 67 [some (4, (p0 : Int)), some (0, x1), some (0, x2), some (0, x3), some (4, ((b2 + 10 : Nat) : Int))] [(2, (V9 (b2 + 12) x1)), (2, (jand ((V9 (b2 + 11) x1)) ((V9 (b2 + 11) x2)))), (4, ((b2 + 10 : Nat) : Int))] G R V9)
          refine wp_ld (i := (.aload 4)) (4, ((b2 + 10 : Nat) : Int)) rfl rfl (fun _ => rfl) rfl rfl (?_ : wpv K_X7_join d P 69 [some (4, (p0 : Int)), some (0, x1), some (0, x2), some (0, x3), some (4, ((b2 + 10 : Nat) : Int))] [(4, ((b2 + 10 : Nat) : Int)), (2, (V9 (b2 + 12) x1)), (2, (jand ((V9 (b2 + 11) x1)) ((V9 (b2 + 11) x2)))), (4, ((b2 + 10 : Nat) : Int))] G R V9)
          refine wp_getA (k := 3) rfl rfl rfl (ly4_o (ly2_1 l2_).2) rfl rfl (ly4_3 (ly2_1 l2_).2).1 (?_ : wpv K_X7_join d P 72 [some (4, (p0 : Int)), some (0, x1), some (0, x2), some (0, x3), some (4, ((b2 + 10 : Nat) : Int))] [(4, ((b2 + 12 : Nat) : Int)), (2, (V9 (b2 + 12) x1)), (2, (jand ((V9 (b2 + 11) x1)) ((V9 (b2 + 11) x2)))), (4, ((b2 + 10 : Nat) : Int))] G R V9)
          refine wp_ld (i := (.iload_n 2)) (0, x2) rfl rfl (fun _ => rfl) rfl rfl (?_ : wpv K_X7_join d P 73 [some (4, (p0 : Int)), some (0, x1), some (0, x2), some (0, x3), some (4, ((b2 + 10 : Nat) : Int))] [(0, x2), (4, ((b2 + 12 : Nat) : Int)), (2, (V9 (b2 + 12) x1)), (2, (jand ((V9 (b2 + 11) x1)) ((V9 (b2 + 11) x2)))), (4, ((b2 + 10 : Nat) : Int))] G R V9)
          have f28 : i64 (V9 (b2 + 12) x2) := vr_a1 vr23 (ly4_3 (ly2_1 l2_).2).2 s25
          replace w := w f28
          refine wp_aJ rfl rfl (ly4_3 (ly2_1 l2_).2).2 s25 (?_ : wpv K_X7_join d P 74 [some (4, (p0 : Int)), some (0, x1), some (0, x2), some (0, x3), some (4, ((b2 + 10 : Nat) : Int))] [(2, (V9 (b2 + 12) x2)), (2, (V9 (b2 + 12) x1)), (2, (jand ((V9 (b2 + 11) x1)) ((V9 (b2 + 11) x2)))), (4, ((b2 + 10 : Nat) : Int))] G R V9)
          refine wp_jand rfl rfl (?_ : wpv K_X7_join d P 75 [some (4, (p0 : Int)), some (0, x1), some (0, x2), some (0, x3), some (4, ((b2 + 10 : Nat) : Int))] [(2, (jand ((V9 (b2 + 12) x1)) ((V9 (b2 + 12) x2)))), (2, (jand ((V9 (b2 + 11) x1)) ((V9 (b2 + 11) x2)))), (4, ((b2 + 10 : Nat) : Int))] G R V9)
          refine wp_virt (as := [(2, (jand ((V9 (b2 + 11) x1)) ((V9 (b2 + 11) x2)))), (2, (jand ((V9 (b2 + 12) x1)) ((V9 (b2 + 12) x2))))]) (a := b2 + 10) (st := []) _ rfl rfl rfl rfl rfl rfl (ly4_o (ly2_1 l2_).2) (Nat.le_of_ble_eq_true rfl) (cwv_kI w (fun v30 V29 w => ?_))
          show wpv K_X7_join d P 78 [some (4, (p0 : Int)), some (0, x1), some (0, x2), some (0, x3), some (4, ((b2 + 10 : Nat) : Int))] [(0, v30)] G R V29
          exact wp_rI rfl rfl rfl w
      · have q : v10 = 0 := Decidable.not_not.mp q
        replace w := w.2 q
        show wpv K_X7_join d P 37 [some (4, (p0 : Int)), some (0, x1), some (0, x2), some (0, x3), some (4, ((b2 + 10 : Nat) : Int))] [] G R V9
        refine wp_p (i := (.iconst (-1))) rfl rfl (fun _ _ _ => rfl) (?_ : wpv K_X7_join d P 38 [some (4, (p0 : Int)), some (0, x1), some (0, x2), some (0, x3), some (4, ((b2 + 10 : Nat) : Int))] [(0, (-1))] G R V9)
        exact wp_rI rfl rfl rfl w
theorem t_X7_ofClass_0 {d : Nat} {P : gP} {p0 : Nat} {x1 : Int} {x2 : Int} {G : List gS} {R V : gV} (l0 : lay7 G R p0) (w : (∃ b1 : Nat, (R p0 6 = (b1 : Int) ∧ lay1 G R b1) ∧ (∃ b2 : Nat, (R b1 0 = (b2 : Int) ∧ lay2 G R b2) ∧ cwv d (fun r V3 => ∃ v4 : Int, r = some (0, v4) ∧ ((i32 v4) ∧ (((¬ v4 = 0) → ((i32 x2) ∧ (((x2 < 0 ∨ 2 < x2) → P (some (0, (-1))) V3) ∧ ((x2 = 0) → cwv d (fun r V7 => ∃ v8 : Int, r = some (0, v8) ∧ P (some (0, v8)) V7) 60 [(4, ((b2 + 10 : Nat) : Int)), (0, x1)] G R V3) ∧ ((x2 = 1) → ((0 ≤ x1 ∧ x1 < 300) ∧ ((i32 (V3 (b2 + 18) x1)) → P (some (0, (V3 (b2 + 18) x1))) V3))) ∧ ((x2 = 2) → ((0 ≤ x1 ∧ x1 < 300) ∧ ((i32 (V3 (b2 + 17) x1)) → P (some (0, (V3 (b2 + 17) x1))) V3)))))) ∧ ((v4 = 0) → P (some (0, (-1))) V3)))) 57 [(4, ((b2 + 10 : Nat) : Int)), (0, x1)] G R V))) : wpv K_X7_ofClass d P 0 [some (4, (p0 : Int)), some (0, x1), some (0, x2)] [] G R V := by
  refine wp_ld (i := (.aload_n 0)) (4, (p0 : Int)) rfl rfl (fun _ => rfl) rfl rfl (?_ : wpv K_X7_ofClass d P 1 [some (4, (p0 : Int)), some (0, x1), some (0, x2)] [(4, (p0 : Int))] G R V)
  obtain ⟨b1, ⟨r1, l1_⟩, w⟩ := w
  refine wp_getA (k := 6) rfl rfl rfl (ly7_o l0) rfl rfl r1 (?_ : wpv K_X7_ofClass d P 4 [some (4, (p0 : Int)), some (0, x1), some (0, x2)] [(4, (b1 : Int))] G R V)
  obtain ⟨b2, ⟨r2, l2_⟩, w⟩ := w
  refine wp_getA (k := 0) rfl rfl rfl (ly1_o l1_) rfl rfl r2 (?_ : wpv K_X7_ofClass d P 7 [some (4, (p0 : Int)), some (0, x1), some (0, x2)] [(4, (b2 : Int))] G R V)
  refine wp_getA (k := 1) rfl rfl rfl (ly2_o l2_) rfl rfl (ly2_1 l2_).1 (?_ : wpv K_X7_ofClass d P 10 [some (4, (p0 : Int)), some (0, x1), some (0, x2)] [(4, ((b2 + 10 : Nat) : Int))] G R V)
  refine wp_sto (i := (.astore_n 3)) _ rfl rfl (fun _ => rfl) rfl rfl rfl ?_
  refine wp_wk (L' := [some (4, (p0 : Int)), some (0, x1), some (0, x2), some (4, ((b2 + 10 : Nat) : Int))]) (wk_s (wk_s (wk_s (wk_s wk_0)))) ?_
  show wpv K_X7_ofClass d P 11 [some (4, (p0 : Int)), some (0, x1), some (0, x2), some (4, ((b2 + 10 : Nat) : Int))] [] G R V
  refine wp_ld (i := (.aload_n 3)) (4, ((b2 + 10 : Nat) : Int)) rfl rfl (fun _ => rfl) rfl rfl (?_ : wpv K_X7_ofClass d P 12 [some (4, (p0 : Int)), some (0, x1), some (0, x2), some (4, ((b2 + 10 : Nat) : Int))] [(4, ((b2 + 10 : Nat) : Int))] G R V)
  refine wp_ld (i := (.iload_n 1)) (0, x1) rfl rfl (fun _ => rfl) rfl rfl (?_ : wpv K_X7_ofClass d P 13 [some (4, (p0 : Int)), some (0, x1), some (0, x2), some (4, ((b2 + 10 : Nat) : Int))] [(0, x1), (4, ((b2 + 10 : Nat) : Int))] G R V)
  refine wp_virt (as := [(0, x1)]) (a := b2 + 10) (st := []) _ rfl rfl rfl rfl rfl rfl (ly4_o (ly2_1 l2_).2) (Nat.le_of_ble_eq_true rfl) (cwv_kI w (fun v4 V3 w => ?_))
  show wpv K_X7_ofClass d P 16 [some (4, (p0 : Int)), some (0, x1), some (0, x2), some (4, ((b2 + 10 : Nat) : Int))] [(0, v4)] G R V3
  obtain ⟨s5, w⟩ := w
  refine wp_if (c := .ne) 21 rfl rfl rfl s5 (fun q => ?_) (fun q => ?_)
  · have q : ¬ v4 = 0 := q
    replace w := w.1 q
    show wpv K_X7_ofClass d P 21 [some (4, (p0 : Int)), some (0, x1), some (0, x2), some (4, ((b2 + 10 : Nat) : Int))] [] G R V3
    refine wp_ld (i := (.iload_n 2)) (0, x2) rfl rfl (fun _ => rfl) rfl rfl (?_ : wpv K_X7_ofClass d P 22 [some (4, (p0 : Int)), some (0, x1), some (0, x2), some (4, ((b2 + 10 : Nat) : Int))] [(0, x2)] G R V3)
    obtain ⟨s6, w⟩ := w
    by_cases qd : x2 < 0 ∨ 2 < x2
    · replace w := w.1 qd
      refine wp_tsd 68 rfl rfl s6 qd rfl (?_ : wpv K_X7_ofClass d P 68 [some (4, (p0 : Int)), some (0, x1), some (0, x2), some (4, ((b2 + 10 : Nat) : Int))] [] G R V3)
      refine wp_p (i := (.iconst (-1))) rfl rfl (fun _ _ _ => rfl) (?_ : wpv K_X7_ofClass d P 69 [some (4, (p0 : Int)), some (0, x1), some (0, x2), some (4, ((b2 + 10 : Nat) : Int))] [(0, (-1))] G R V3)
      exact wp_rI rfl rfl rfl w
    replace w := w.2
    by_cases q0 : x2 = 0
    · replace w := w.1 q0
      refine wp_tsw 0 48 rfl rfl s6 (by omega) (by omega) rfl rfl (?_ : wpv K_X7_ofClass d P 48 [some (4, (p0 : Int)), some (0, x1), some (0, x2), some (4, ((b2 + 10 : Nat) : Int))] [] G R V3)
      refine wp_ld (i := (.aload_n 3)) (4, ((b2 + 10 : Nat) : Int)) rfl rfl (fun _ => rfl) rfl rfl (?_ : wpv K_X7_ofClass d P 49 [some (4, (p0 : Int)), some (0, x1), some (0, x2), some (4, ((b2 + 10 : Nat) : Int))] [(4, ((b2 + 10 : Nat) : Int))] G R V3)
      refine wp_ld (i := (.iload_n 1)) (0, x1) rfl rfl (fun _ => rfl) rfl rfl (?_ : wpv K_X7_ofClass d P 50 [some (4, (p0 : Int)), some (0, x1), some (0, x2), some (4, ((b2 + 10 : Nat) : Int))] [(0, x1), (4, ((b2 + 10 : Nat) : Int))] G R V3)
      refine wp_virt (as := [(0, x1)]) (a := b2 + 10) (st := []) _ rfl rfl rfl rfl rfl rfl (ly4_o (ly2_1 l2_).2) (Nat.le_of_ble_eq_true rfl) (cwv_kI w (fun v8 V7 w => ?_))
      show wpv K_X7_ofClass d P 53 [some (4, (p0 : Int)), some (0, x1), some (0, x2), some (4, ((b2 + 10 : Nat) : Int))] [(0, v8)] G R V7
      exact wp_rI rfl rfl rfl w
    replace w := w.2
    by_cases q1 : x2 = 1
    · replace w := w.1 q1
      refine wp_tsw 1 54 rfl rfl s6 (by omega) (by omega) rfl rfl (?_ : wpv K_X7_ofClass d P 54 [some (4, (p0 : Int)), some (0, x1), some (0, x2), some (4, ((b2 + 10 : Nat) : Int))] [] G R V3)
      refine wp_ld (i := (.aload_n 3)) (4, ((b2 + 10 : Nat) : Int)) rfl rfl (fun _ => rfl) rfl rfl (?_ : wpv K_X7_ofClass d P 55 [some (4, (p0 : Int)), some (0, x1), some (0, x2), some (4, ((b2 + 10 : Nat) : Int))] [(4, ((b2 + 10 : Nat) : Int))] G R V3)
      refine wp_getA (k := 9) rfl rfl rfl (ly4_o (ly2_1 l2_).2) rfl rfl (ly4_9 (ly2_1 l2_).2).1 (?_ : wpv K_X7_ofClass d P 58 [some (4, (p0 : Int)), some (0, x1), some (0, x2), some (4, ((b2 + 10 : Nat) : Int))] [(4, ((b2 + 18 : Nat) : Int))] G R V3)
      refine wp_ld (i := (.iload_n 1)) (0, x1) rfl rfl (fun _ => rfl) rfl rfl (?_ : wpv K_X7_ofClass d P 59 [some (4, (p0 : Int)), some (0, x1), some (0, x2), some (4, ((b2 + 10 : Nat) : Int))] [(0, x1), (4, ((b2 + 18 : Nat) : Int))] G R V3)
      obtain ⟨s9, w⟩ := w
      refine wp_rng (fun vr10 => ?_)
      have f11 : i32 (V3 (b2 + 18) x1) := vr_a0 vr10 (ly4_9 (ly2_1 l2_).2).2 s9
      replace w := w f11
      refine wp_aI rfl rfl (ly4_9 (ly2_1 l2_).2).2 s9 (?_ : wpv K_X7_ofClass d P 60 [some (4, (p0 : Int)), some (0, x1), some (0, x2), some (4, ((b2 + 10 : Nat) : Int))] [(0, (V3 (b2 + 18) x1))] G R V3)
      exact wp_rI rfl rfl rfl w
    replace w := w.2
    have q2 : x2 = 2 := by omega
    replace w := w q2
    refine wp_tsw 2 61 rfl rfl s6 (by omega) (by omega) rfl rfl (?_ : wpv K_X7_ofClass d P 61 [some (4, (p0 : Int)), some (0, x1), some (0, x2), some (4, ((b2 + 10 : Nat) : Int))] [] G R V3)
    refine wp_ld (i := (.aload_n 3)) (4, ((b2 + 10 : Nat) : Int)) rfl rfl (fun _ => rfl) rfl rfl (?_ : wpv K_X7_ofClass d P 62 [some (4, (p0 : Int)), some (0, x1), some (0, x2), some (4, ((b2 + 10 : Nat) : Int))] [(4, ((b2 + 10 : Nat) : Int))] G R V3)
    refine wp_getA (k := 8) rfl rfl rfl (ly4_o (ly2_1 l2_).2) rfl rfl (ly4_8 (ly2_1 l2_).2).1 (?_ : wpv K_X7_ofClass d P 65 [some (4, (p0 : Int)), some (0, x1), some (0, x2), some (4, ((b2 + 10 : Nat) : Int))] [(4, ((b2 + 17 : Nat) : Int))] G R V3)
    refine wp_ld (i := (.iload_n 1)) (0, x1) rfl rfl (fun _ => rfl) rfl rfl (?_ : wpv K_X7_ofClass d P 66 [some (4, (p0 : Int)), some (0, x1), some (0, x2), some (4, ((b2 + 10 : Nat) : Int))] [(0, x1), (4, ((b2 + 17 : Nat) : Int))] G R V3)
    obtain ⟨s12, w⟩ := w
    refine wp_rng (fun vr13 => ?_)
    have f14 : i32 (V3 (b2 + 17) x1) := vr_a0 vr13 (ly4_8 (ly2_1 l2_).2).2 s12
    replace w := w f14
    refine wp_aI rfl rfl (ly4_8 (ly2_1 l2_).2).2 s12 (?_ : wpv K_X7_ofClass d P 67 [some (4, (p0 : Int)), some (0, x1), some (0, x2), some (4, ((b2 + 10 : Nat) : Int))] [(0, (V3 (b2 + 17) x1))] G R V3)
    exact wp_rI rfl rfl rfl w
  · have q : v4 = 0 := Decidable.not_not.mp q
    replace w := w.2 q
    show wpv K_X7_ofClass d P 19 [some (4, (p0 : Int)), some (0, x1), some (0, x2), some (4, ((b2 + 10 : Nat) : Int))] [] G R V3
    refine wp_p (i := (.iconst (-1))) rfl rfl (fun _ _ _ => rfl) (?_ : wpv K_X7_ofClass d P 20 [some (4, (p0 : Int)), some (0, x1), some (0, x2), some (4, ((b2 + 10 : Nat) : Int))] [(0, (-1))] G R V3)
    exact wp_rI rfl rfl rfl w
theorem t_X7_within_0 {d : Nat} {P : gP} {p0 : Nat} {x1 : Int} {x2 : Int} {x3 : Int} {G : List gS} {R V : gV} (l0 : lay7 G R p0) (w : (∃ b1 : Nat, (R p0 6 = (b1 : Int) ∧ lay1 G R b1) ∧ (∃ b2 : Nat, (R b1 0 = (b2 : Int) ∧ lay2 G R b2) ∧ cwv d (fun r V3 => ∃ v4 : Int, r = some (0, v4) ∧ ((i32 v4) ∧ (((v4 = 0) → P (some (0, (-1))) V3) ∧ ((¬ v4 = 0) → cwv d (fun r V6 => ∃ v7 : Int, r = some (0, v7) ∧ ((i32 v7) ∧ (((v7 = 0) → P (some (0, (-1))) V6) ∧ ((¬ v7 = 0) → cwv d (fun r V9 => ∃ v10 : Int, r = some (0, v10) ∧ ((i32 v10) ∧ (((¬ v10 = 0) → ((i32 x3) ∧ (((¬ x3 = 0) → cwv d (fun r V13 => ∃ v14 : Int, r = some (0, v14) ∧ P (some (0, v14)) V13) 69 [(4, ((b2 + 10 : Nat) : Int)), (0, x1), (0, x2)] G R V9) ∧ ((x3 = 0) → cwv d (fun r V15 => ∃ v16 : Int, r = some (0, v16) ∧ P (some (0, v16)) V15) 70 [(4, ((b2 + 10 : Nat) : Int)), (0, x1), (0, x2)] G R V9)))) ∧ ((v10 = 0) → P (some (0, (-1))) V9)))) 140 [(0, x3)] G R V6)))) 57 [(4, ((b2 + 10 : Nat) : Int)), (0, x2)] G R V3)))) 57 [(4, ((b2 + 10 : Nat) : Int)), (0, x1)] G R V))) : wpv K_X7_within d P 0 [some (4, (p0 : Int)), some (0, x1), some (0, x2), some (0, x3)] [] G R V := by
  refine wp_ld (i := (.aload_n 0)) (4, (p0 : Int)) rfl rfl (fun _ => rfl) rfl rfl (?_ : wpv K_X7_within d P 1 [some (4, (p0 : Int)), some (0, x1), some (0, x2), some (0, x3)] [(4, (p0 : Int))] G R V)
  obtain ⟨b1, ⟨r1, l1_⟩, w⟩ := w
  refine wp_getA (k := 6) rfl rfl rfl (ly7_o l0) rfl rfl r1 (?_ : wpv K_X7_within d P 4 [some (4, (p0 : Int)), some (0, x1), some (0, x2), some (0, x3)] [(4, (b1 : Int))] G R V)
  obtain ⟨b2, ⟨r2, l2_⟩, w⟩ := w
  refine wp_getA (k := 0) rfl rfl rfl (ly1_o l1_) rfl rfl r2 (?_ : wpv K_X7_within d P 7 [some (4, (p0 : Int)), some (0, x1), some (0, x2), some (0, x3)] [(4, (b2 : Int))] G R V)
  refine wp_getA (k := 1) rfl rfl rfl (ly2_o l2_) rfl rfl (ly2_1 l2_).1 (?_ : wpv K_X7_within d P 10 [some (4, (p0 : Int)), some (0, x1), some (0, x2), some (0, x3)] [(4, ((b2 + 10 : Nat) : Int))] G R V)
  refine wp_sto (i := (.astore 4)) _ rfl rfl (fun _ => rfl) rfl rfl rfl ?_
  refine wp_wk (L' := [some (4, (p0 : Int)), some (0, x1), some (0, x2), some (0, x3), some (4, ((b2 + 10 : Nat) : Int))]) (wk_s (wk_s (wk_s (wk_s (wk_s wk_0))))) ?_
  show wpv K_X7_within d P 12 [some (4, (p0 : Int)), some (0, x1), some (0, x2), some (0, x3), some (4, ((b2 + 10 : Nat) : Int))] [] G R V
  refine wp_ld (i := (.aload 4)) (4, ((b2 + 10 : Nat) : Int)) rfl rfl (fun _ => rfl) rfl rfl (?_ : wpv K_X7_within d P 14 [some (4, (p0 : Int)), some (0, x1), some (0, x2), some (0, x3), some (4, ((b2 + 10 : Nat) : Int))] [(4, ((b2 + 10 : Nat) : Int))] G R V)
  refine wp_ld (i := (.iload_n 1)) (0, x1) rfl rfl (fun _ => rfl) rfl rfl (?_ : wpv K_X7_within d P 15 [some (4, (p0 : Int)), some (0, x1), some (0, x2), some (0, x3), some (4, ((b2 + 10 : Nat) : Int))] [(0, x1), (4, ((b2 + 10 : Nat) : Int))] G R V)
  refine wp_virt (as := [(0, x1)]) (a := b2 + 10) (st := []) _ rfl rfl rfl rfl rfl rfl (ly4_o (ly2_1 l2_).2) (Nat.le_of_ble_eq_true rfl) (cwv_kI w (fun v4 V3 w => ?_))
  show wpv K_X7_within d P 18 [some (4, (p0 : Int)), some (0, x1), some (0, x2), some (0, x3), some (4, ((b2 + 10 : Nat) : Int))] [(0, v4)] G R V3
  obtain ⟨s5, w⟩ := w
  refine wp_if (c := .eq) 37 rfl rfl rfl s5 (fun q => ?_) (fun q => ?_)
  · have q : v4 = 0 := q
    replace w := w.1 q
    show wpv K_X7_within d P 37 [some (4, (p0 : Int)), some (0, x1), some (0, x2), some (0, x3), some (4, ((b2 + 10 : Nat) : Int))] [] G R V3
    refine wp_p (i := (.iconst (-1))) rfl rfl (fun _ _ _ => rfl) (?_ : wpv K_X7_within d P 38 [some (4, (p0 : Int)), some (0, x1), some (0, x2), some (0, x3), some (4, ((b2 + 10 : Nat) : Int))] [(0, (-1))] G R V3)
    exact wp_rI rfl rfl rfl w
  · have q : ¬ v4 = 0 := q
    replace w := w.2 q
    show wpv K_X7_within d P 21 [some (4, (p0 : Int)), some (0, x1), some (0, x2), some (0, x3), some (4, ((b2 + 10 : Nat) : Int))] [] G R V3
    refine wp_ld (i := (.aload 4)) (4, ((b2 + 10 : Nat) : Int)) rfl rfl (fun _ => rfl) rfl rfl (?_ : wpv K_X7_within d P 23 [some (4, (p0 : Int)), some (0, x1), some (0, x2), some (0, x3), some (4, ((b2 + 10 : Nat) : Int))] [(4, ((b2 + 10 : Nat) : Int))] G R V3)
    refine wp_ld (i := (.iload_n 2)) (0, x2) rfl rfl (fun _ => rfl) rfl rfl (?_ : wpv K_X7_within d P 24 [some (4, (p0 : Int)), some (0, x1), some (0, x2), some (0, x3), some (4, ((b2 + 10 : Nat) : Int))] [(0, x2), (4, ((b2 + 10 : Nat) : Int))] G R V3)
    refine wp_virt (as := [(0, x2)]) (a := b2 + 10) (st := []) _ rfl rfl rfl rfl rfl rfl (ly4_o (ly2_1 l2_).2) (Nat.le_of_ble_eq_true rfl) (cwv_kI w (fun v7 V6 w => ?_))
    show wpv K_X7_within d P 27 [some (4, (p0 : Int)), some (0, x1), some (0, x2), some (0, x3), some (4, ((b2 + 10 : Nat) : Int))] [(0, v7)] G R V6
    obtain ⟨s8, w⟩ := w
    refine wp_if (c := .eq) 37 rfl rfl rfl s8 (fun q => ?_) (fun q => ?_)
    · have q : v7 = 0 := q
      replace w := w.1 q
      show wpv K_X7_within d P 37 [some (4, (p0 : Int)), some (0, x1), some (0, x2), some (0, x3), some (4, ((b2 + 10 : Nat) : Int))] [] G R V6
      refine wp_p (i := (.iconst (-1))) rfl rfl (fun _ _ _ => rfl) (?_ : wpv K_X7_within d P 38 [some (4, (p0 : Int)), some (0, x1), some (0, x2), some (0, x3), some (4, ((b2 + 10 : Nat) : Int))] [(0, (-1))] G R V6)
      exact wp_rI rfl rfl rfl w
    · have q : ¬ v7 = 0 := q
      replace w := w.2 q
      show wpv K_X7_within d P 30 [some (4, (p0 : Int)), some (0, x1), some (0, x2), some (0, x3), some (4, ((b2 + 10 : Nat) : Int))] [] G R V6
      refine wp_ld (i := (.iload_n 3)) (0, x3) rfl rfl (fun _ => rfl) rfl rfl (?_ : wpv K_X7_within d P 31 [some (4, (p0 : Int)), some (0, x1), some (0, x2), some (0, x3), some (4, ((b2 + 10 : Nat) : Int))] [(0, x3)] G R V6)
      refine wp_stat (as := [(0, x3)]) (st := []) _ rfl rfl rfl (by omega) rfl rfl (Nat.le_of_ble_eq_true rfl) (cwv_kI w (fun v10 V9 w => ?_))
      show wpv K_X7_within d P 34 [some (4, (p0 : Int)), some (0, x1), some (0, x2), some (0, x3), some (4, ((b2 + 10 : Nat) : Int))] [(0, v10)] G R V9
      obtain ⟨s11, w⟩ := w
      refine wp_if (c := .ne) 39 rfl rfl rfl s11 (fun q => ?_) (fun q => ?_)
      · have q : ¬ v10 = 0 := q
        replace w := w.1 q
        show wpv K_X7_within d P 39 [some (4, (p0 : Int)), some (0, x1), some (0, x2), some (0, x3), some (4, ((b2 + 10 : Nat) : Int))] [] G R V9
        refine wp_ld (i := (.iload_n 3)) (0, x3) rfl rfl (fun _ => rfl) rfl rfl (?_ : wpv K_X7_within d P 40 [some (4, (p0 : Int)), some (0, x1), some (0, x2), some (0, x3), some (4, ((b2 + 10 : Nat) : Int))] [(0, x3)] G R V9)
        obtain ⟨s12, w⟩ := w
        refine wp_if (c := .ne) 53 rfl rfl rfl s12 (fun q => ?_) (fun q => ?_)
        · have q : ¬ x3 = 0 := q
          replace w := w.1 q
          show wpv K_X7_within d P 53 [some (4, (p0 : Int)), some (0, x1), some (0, x2), some (0, x3), some (4, ((b2 + 10 : Nat) : Int))] [] G R V9
          refine wp_ld (i := (.aload 4)) (4, ((b2 + 10 : Nat) : Int)) rfl rfl (fun _ => rfl) rfl rfl (?_ : wpv K_X7_within d P 55 [some (4, (p0 : Int)), some (0, x1), some (0, x2), some (0, x3), some (4, ((b2 + 10 : Nat) : Int))] [(4, ((b2 + 10 : Nat) : Int))] G R V9)
          refine wp_ld (i := (.iload_n 1)) (0, x1) rfl rfl (fun _ => rfl) rfl rfl (?_ : wpv K_X7_within d P 56 [some (4, (p0 : Int)), some (0, x1), some (0, x2), some (0, x3), some (4, ((b2 + 10 : Nat) : Int))] [(0, x1), (4, ((b2 + 10 : Nat) : Int))] G R V9)
          refine wp_ld (i := (.iload_n 2)) (0, x2) rfl rfl (fun _ => rfl) rfl rfl (?_ : wpv K_X7_within d P 57 [some (4, (p0 : Int)), some (0, x1), some (0, x2), some (0, x3), some (4, ((b2 + 10 : Nat) : Int))] [(0, x2), (0, x1), (4, ((b2 + 10 : Nat) : Int))] G R V9)
          refine wp_virt (as := [(0, x1), (0, x2)]) (a := b2 + 10) (st := []) _ rfl rfl rfl rfl rfl rfl (ly4_o (ly2_1 l2_).2) (Nat.le_of_ble_eq_true rfl) (cwv_kI w (fun v14 V13 w => ?_))
          show wpv K_X7_within d P 60 [some (4, (p0 : Int)), some (0, x1), some (0, x2), some (0, x3), some (4, ((b2 + 10 : Nat) : Int))] [(0, v14)] G R V13
          exact wp_rI rfl rfl rfl w
        · have q : x3 = 0 := Decidable.not_not.mp q
          replace w := w.2 q
          show wpv K_X7_within d P 43 [some (4, (p0 : Int)), some (0, x1), some (0, x2), some (0, x3), some (4, ((b2 + 10 : Nat) : Int))] [] G R V9
          refine wp_ld (i := (.aload 4)) (4, ((b2 + 10 : Nat) : Int)) rfl rfl (fun _ => rfl) rfl rfl (?_ : wpv K_X7_within d P 45 [some (4, (p0 : Int)), some (0, x1), some (0, x2), some (0, x3), some (4, ((b2 + 10 : Nat) : Int))] [(4, ((b2 + 10 : Nat) : Int))] G R V9)
          refine wp_ld (i := (.iload_n 1)) (0, x1) rfl rfl (fun _ => rfl) rfl rfl (?_ : wpv K_X7_within d P 46 [some (4, (p0 : Int)), some (0, x1), some (0, x2), some (0, x3), some (4, ((b2 + 10 : Nat) : Int))] [(0, x1), (4, ((b2 + 10 : Nat) : Int))] G R V9)
          refine wp_ld (i := (.iload_n 2)) (0, x2) rfl rfl (fun _ => rfl) rfl rfl (?_ : wpv K_X7_within d P 47 [some (4, (p0 : Int)), some (0, x1), some (0, x2), some (0, x3), some (4, ((b2 + 10 : Nat) : Int))] [(0, x2), (0, x1), (4, ((b2 + 10 : Nat) : Int))] G R V9)
          refine wp_virt (as := [(0, x1), (0, x2)]) (a := b2 + 10) (st := []) _ rfl rfl rfl rfl rfl rfl (ly4_o (ly2_1 l2_).2) (Nat.le_of_ble_eq_true rfl) (cwv_kI w (fun v16 V15 w => ?_))
          show wpv K_X7_within d P 50 [some (4, (p0 : Int)), some (0, x1), some (0, x2), some (0, x3), some (4, ((b2 + 10 : Nat) : Int))] [(0, v16)] G R V15
          refine wp_go 60 rfl rfl rfl (?_ : wpv K_X7_within d P 60 [some (4, (p0 : Int)), some (0, x1), some (0, x2), some (0, x3), some (4, ((b2 + 10 : Nat) : Int))] [(0, v16)] G R V15)
          exact wp_rI rfl rfl rfl w
      · have q : v10 = 0 := Decidable.not_not.mp q
        replace w := w.2 q
        show wpv K_X7_within d P 37 [some (4, (p0 : Int)), some (0, x1), some (0, x2), some (0, x3), some (4, ((b2 + 10 : Nat) : Int))] [] G R V9
        refine wp_p (i := (.iconst (-1))) rfl rfl (fun _ _ _ => rfl) (?_ : wpv K_X7_within d P 38 [some (4, (p0 : Int)), some (0, x1), some (0, x2), some (0, x3), some (4, ((b2 + 10 : Nat) : Int))] [(0, (-1))] G R V9)
        exact wp_rI rfl rfl rfl w
theorem t_X7_table_0 {d : Nat} {P : gP} {p0 : Nat} {x1 : Int} {x2 : Int} {G : List gS} {R V : gV} (l0 : lay7 G R p0) (w : (∃ b1 : Nat, (R p0 6 = (b1 : Int) ∧ lay1 G R b1) ∧ (∃ b2 : Nat, (R b1 0 = (b2 : Int) ∧ lay2 G R b2) ∧ cwv d (fun r V3 => ∃ v4 : Int, r = some (0, v4) ∧ ((i32 v4) ∧ (((v4 = 0) → P (some (0, (-1))) V3) ∧ ((¬ v4 = 0) → cwv d (fun r V6 => ∃ v7 : Int, r = some (0, v7) ∧ ((i32 v7) ∧ (((v7 = 0) → P (some (0, (-1))) V6) ∧ ((¬ v7 = 0) → cwv d (fun r V9 => ∃ v10 : Int, r = some (0, v10) ∧ P (some (0, v10)) V9) 71 [(4, ((b2 + 10 : Nat) : Int)), (0, x1), (0, x2)] G R V6)))) 57 [(4, ((b2 + 10 : Nat) : Int)), (0, x2)] G R V3)))) 57 [(4, ((b2 + 10 : Nat) : Int)), (0, x1)] G R V))) : wpv K_X7_table d P 0 [some (4, (p0 : Int)), some (0, x1), some (0, x2)] [] G R V := by
  refine wp_ld (i := (.aload_n 0)) (4, (p0 : Int)) rfl rfl (fun _ => rfl) rfl rfl (?_ : wpv K_X7_table d P 1 [some (4, (p0 : Int)), some (0, x1), some (0, x2)] [(4, (p0 : Int))] G R V)
  obtain ⟨b1, ⟨r1, l1_⟩, w⟩ := w
  refine wp_getA (k := 6) rfl rfl rfl (ly7_o l0) rfl rfl r1 (?_ : wpv K_X7_table d P 4 [some (4, (p0 : Int)), some (0, x1), some (0, x2)] [(4, (b1 : Int))] G R V)
  obtain ⟨b2, ⟨r2, l2_⟩, w⟩ := w
  refine wp_getA (k := 0) rfl rfl rfl (ly1_o l1_) rfl rfl r2 (?_ : wpv K_X7_table d P 7 [some (4, (p0 : Int)), some (0, x1), some (0, x2)] [(4, (b2 : Int))] G R V)
  refine wp_getA (k := 1) rfl rfl rfl (ly2_o l2_) rfl rfl (ly2_1 l2_).1 (?_ : wpv K_X7_table d P 10 [some (4, (p0 : Int)), some (0, x1), some (0, x2)] [(4, ((b2 + 10 : Nat) : Int))] G R V)
  refine wp_sto (i := (.astore_n 3)) _ rfl rfl (fun _ => rfl) rfl rfl rfl ?_
  refine wp_wk (L' := [some (4, (p0 : Int)), some (0, x1), some (0, x2), some (4, ((b2 + 10 : Nat) : Int))]) (wk_s (wk_s (wk_s (wk_s wk_0)))) ?_
  show wpv K_X7_table d P 11 [some (4, (p0 : Int)), some (0, x1), some (0, x2), some (4, ((b2 + 10 : Nat) : Int))] [] G R V
  refine wp_ld (i := (.aload_n 3)) (4, ((b2 + 10 : Nat) : Int)) rfl rfl (fun _ => rfl) rfl rfl (?_ : wpv K_X7_table d P 12 [some (4, (p0 : Int)), some (0, x1), some (0, x2), some (4, ((b2 + 10 : Nat) : Int))] [(4, ((b2 + 10 : Nat) : Int))] G R V)
  refine wp_ld (i := (.iload_n 1)) (0, x1) rfl rfl (fun _ => rfl) rfl rfl (?_ : wpv K_X7_table d P 13 [some (4, (p0 : Int)), some (0, x1), some (0, x2), some (4, ((b2 + 10 : Nat) : Int))] [(0, x1), (4, ((b2 + 10 : Nat) : Int))] G R V)
  refine wp_virt (as := [(0, x1)]) (a := b2 + 10) (st := []) _ rfl rfl rfl rfl rfl rfl (ly4_o (ly2_1 l2_).2) (Nat.le_of_ble_eq_true rfl) (cwv_kI w (fun v4 V3 w => ?_))
  show wpv K_X7_table d P 16 [some (4, (p0 : Int)), some (0, x1), some (0, x2), some (4, ((b2 + 10 : Nat) : Int))] [(0, v4)] G R V3
  obtain ⟨s5, w⟩ := w
  refine wp_if (c := .eq) 36 rfl rfl rfl s5 (fun q => ?_) (fun q => ?_)
  · have q : v4 = 0 := q
    replace w := w.1 q
    show wpv K_X7_table d P 36 [some (4, (p0 : Int)), some (0, x1), some (0, x2), some (4, ((b2 + 10 : Nat) : Int))] [] G R V3
    refine wp_p (i := (.iconst (-1))) rfl rfl (fun _ _ _ => rfl) (?_ : wpv K_X7_table d P 37 [some (4, (p0 : Int)), some (0, x1), some (0, x2), some (4, ((b2 + 10 : Nat) : Int))] [(0, (-1))] G R V3)
    exact wp_rI rfl rfl rfl w
  · have q : ¬ v4 = 0 := q
    replace w := w.2 q
    show wpv K_X7_table d P 19 [some (4, (p0 : Int)), some (0, x1), some (0, x2), some (4, ((b2 + 10 : Nat) : Int))] [] G R V3
    refine wp_ld (i := (.aload_n 3)) (4, ((b2 + 10 : Nat) : Int)) rfl rfl (fun _ => rfl) rfl rfl (?_ : wpv K_X7_table d P 20 [some (4, (p0 : Int)), some (0, x1), some (0, x2), some (4, ((b2 + 10 : Nat) : Int))] [(4, ((b2 + 10 : Nat) : Int))] G R V3)
    refine wp_ld (i := (.iload_n 2)) (0, x2) rfl rfl (fun _ => rfl) rfl rfl (?_ : wpv K_X7_table d P 21 [some (4, (p0 : Int)), some (0, x1), some (0, x2), some (4, ((b2 + 10 : Nat) : Int))] [(0, x2), (4, ((b2 + 10 : Nat) : Int))] G R V3)
    refine wp_virt (as := [(0, x2)]) (a := b2 + 10) (st := []) _ rfl rfl rfl rfl rfl rfl (ly4_o (ly2_1 l2_).2) (Nat.le_of_ble_eq_true rfl) (cwv_kI w (fun v7 V6 w => ?_))
    show wpv K_X7_table d P 24 [some (4, (p0 : Int)), some (0, x1), some (0, x2), some (4, ((b2 + 10 : Nat) : Int))] [(0, v7)] G R V6
    obtain ⟨s8, w⟩ := w
    refine wp_if (c := .eq) 36 rfl rfl rfl s8 (fun q => ?_) (fun q => ?_)
    · have q : v7 = 0 := q
      replace w := w.1 q
      show wpv K_X7_table d P 36 [some (4, (p0 : Int)), some (0, x1), some (0, x2), some (4, ((b2 + 10 : Nat) : Int))] [] G R V6
      refine wp_p (i := (.iconst (-1))) rfl rfl (fun _ _ _ => rfl) (?_ : wpv K_X7_table d P 37 [some (4, (p0 : Int)), some (0, x1), some (0, x2), some (4, ((b2 + 10 : Nat) : Int))] [(0, (-1))] G R V6)
      exact wp_rI rfl rfl rfl w
    · have q : ¬ v7 = 0 := q
      replace w := w.2 q
      show wpv K_X7_table d P 27 [some (4, (p0 : Int)), some (0, x1), some (0, x2), some (4, ((b2 + 10 : Nat) : Int))] [] G R V6
      refine wp_ld (i := (.aload_n 3)) (4, ((b2 + 10 : Nat) : Int)) rfl rfl (fun _ => rfl) rfl rfl (?_ : wpv K_X7_table d P 28 [some (4, (p0 : Int)), some (0, x1), some (0, x2), some (4, ((b2 + 10 : Nat) : Int))] [(4, ((b2 + 10 : Nat) : Int))] G R V6)
      refine wp_ld (i := (.iload_n 1)) (0, x1) rfl rfl (fun _ => rfl) rfl rfl (?_ : wpv K_X7_table d P 29 [some (4, (p0 : Int)), some (0, x1), some (0, x2), some (4, ((b2 + 10 : Nat) : Int))] [(0, x1), (4, ((b2 + 10 : Nat) : Int))] G R V6)
      refine wp_ld (i := (.iload_n 2)) (0, x2) rfl rfl (fun _ => rfl) rfl rfl (?_ : wpv K_X7_table d P 30 [some (4, (p0 : Int)), some (0, x1), some (0, x2), some (4, ((b2 + 10 : Nat) : Int))] [(0, x2), (0, x1), (4, ((b2 + 10 : Nat) : Int))] G R V6)
      refine wp_virt (as := [(0, x1), (0, x2)]) (a := b2 + 10) (st := []) _ rfl rfl rfl rfl rfl rfl (ly4_o (ly2_1 l2_).2) (Nat.le_of_ble_eq_true rfl) (cwv_kI w (fun v10 V9 w => ?_))
      show wpv K_X7_table d P 33 [some (4, (p0 : Int)), some (0, x1), some (0, x2), some (4, ((b2 + 10 : Nat) : Int))] [(0, v10)] G R V9
      refine wp_go 37 rfl rfl rfl (?_ : wpv K_X7_table d P 37 [some (4, (p0 : Int)), some (0, x1), some (0, x2), some (4, ((b2 + 10 : Nat) : Int))] [(0, v10)] G R V9)
      exact wp_rI rfl rfl rfl w
theorem t_X7_sylow_0 {d : Nat} {P : gP} {p0 : Nat} {x1 : Int} {G : List gS} {R V : gV} (l0 : lay7 G R p0) (w : ((i32 x1) ∧ (((x1 = 2) → (∃ b2 : Nat, (R p0 6 = (b2 : Int) ∧ lay1 G R b2) ∧ (∃ b3 : Nat, (R b2 0 = (b3 : Int) ∧ lay2 G R b3) ∧ ((i32 (V (b3 + 1) 1)) → wpv K_X7_sylow d P 42 [some (4, (p0 : Int)), some (0, x1), some (0, 1), some (0, (V (b3 + 1) 1)), some (0, 0)] [] G R V)))) ∧ ((¬ x1 = 2) → (((x1 = 3) → (∃ b6 : Nat, (R p0 6 = (b6 : Int) ∧ lay1 G R b6) ∧ (∃ b7 : Nat, (R b6 0 = (b7 : Int) ∧ lay2 G R b7) ∧ ((i32 (V (b7 + 1) 1)) → wpv K_X7_sylow d P 42 [some (4, (p0 : Int)), some (0, x1), some (0, 1), some (0, (V (b7 + 1) 1)), some (0, 0)] [] G R V)))) ∧ ((¬ x1 = 3) → (((x1 = 5) → (∃ b10 : Nat, (R p0 6 = (b10 : Int) ∧ lay1 G R b10) ∧ (∃ b11 : Nat, (R b10 0 = (b11 : Int) ∧ lay2 G R b11) ∧ ((i32 (V (b11 + 1) 1)) → wpv K_X7_sylow d P 42 [some (4, (p0 : Int)), some (0, x1), some (0, 1), some (0, (V (b11 + 1) 1)), some (0, 0)] [] G R V)))) ∧ ((¬ x1 = 5) → (((x1 = 7) → (∃ b14 : Nat, (R p0 6 = (b14 : Int) ∧ lay1 G R b14) ∧ (∃ b15 : Nat, (R b14 0 = (b15 : Int) ∧ lay2 G R b15) ∧ ((i32 (V (b15 + 1) 1)) → wpv K_X7_sylow d P 42 [some (4, (p0 : Int)), some (0, x1), some (0, 1), some (0, (V (b15 + 1) 1)), some (0, 0)] [] G R V)))) ∧ ((¬ x1 = 7) → P (some (0, (-1))) V)))))))))) : wpv K_X7_sylow d P 0 [some (4, (p0 : Int)), some (0, x1)] [] G R V := by
  refine wp_ld (i := (.iload_n 1)) (0, x1) rfl rfl (fun _ => rfl) rfl rfl (?_ : wpv K_X7_sylow d P 1 [some (4, (p0 : Int)), some (0, x1)] [(0, x1)] G R V)
  refine wp_p (i := (.iconst 2)) rfl rfl (fun _ _ _ => rfl) (?_ : wpv K_X7_sylow d P 2 [some (4, (p0 : Int)), some (0, x1)] [(0, 2), (0, x1)] G R V)
  obtain ⟨s1, w⟩ := w
  refine wp_icmp (c := .eq) 23 rfl rfl rfl s1 ⟨by omega, by omega⟩ (fun q => ?_) (fun q => ?_)
  · have q : x1 = 2 := q
    replace w := w.1 q
    show wpv K_X7_sylow d P 23 [some (4, (p0 : Int)), some (0, x1)] [] G R V
    refine wp_p (i := (.iconst 1)) rfl rfl (fun _ _ _ => rfl) (?_ : wpv K_X7_sylow d P 24 [some (4, (p0 : Int)), some (0, x1)] [(0, 1)] G R V)
    refine wp_sto (i := (.istore_n 2)) _ rfl rfl (fun _ => rfl) rfl rfl rfl ?_
    refine wp_wk (L' := [some (4, (p0 : Int)), some (0, x1), some (0, 1)]) (wk_s (wk_s (wk_s wk_0))) ?_
    show wpv K_X7_sylow d P 25 [some (4, (p0 : Int)), some (0, x1), some (0, 1)] [] G R V
    refine wp_ld (i := (.aload_n 0)) (4, (p0 : Int)) rfl rfl (fun _ => rfl) rfl rfl (?_ : wpv K_X7_sylow d P 26 [some (4, (p0 : Int)), some (0, x1), some (0, 1)] [(4, (p0 : Int))] G R V)
    obtain ⟨b2, ⟨r2, l2_⟩, w⟩ := w
    refine wp_getA (k := 6) rfl rfl rfl (ly7_o l0) rfl rfl r2 (?_ : wpv K_X7_sylow d P 29 [some (4, (p0 : Int)), some (0, x1), some (0, 1)] [(4, (b2 : Int))] G R V)
    obtain ⟨b3, ⟨r3, l3_⟩, w⟩ := w
    refine wp_getA (k := 0) rfl rfl rfl (ly1_o l2_) rfl rfl r3 (?_ : wpv K_X7_sylow d P 32 [some (4, (p0 : Int)), some (0, x1), some (0, 1)] [(4, (b3 : Int))] G R V)
    refine wp_getA (k := 0) rfl rfl rfl (ly2_o l3_) rfl rfl (ly2_0 l3_).1 (?_ : wpv K_X7_sylow d P 35 [some (4, (p0 : Int)), some (0, x1), some (0, 1)] [(4, ((b3 + 1 : Nat) : Int))] G R V)
    refine wp_rng (fun vr4 => ?_)
    have f5 : i32 (V (b3 + 1) 1) := vr_f0 vr4 (ly6_o (ly2_0 l3_).2) rfl rfl
    replace w := w f5
    refine wp_getI (k := 1) rfl rfl rfl (ly6_o (ly2_0 l3_).2) rfl rfl (?_ : wpv K_X7_sylow d P 38 [some (4, (p0 : Int)), some (0, x1), some (0, 1)] [(0, (V (b3 + 1) 1))] G R V)
    refine wp_sto (i := (.istore_n 3)) _ rfl rfl (fun _ => rfl) rfl rfl rfl ?_
    refine wp_wk (L' := [some (4, (p0 : Int)), some (0, x1), some (0, 1), some (0, (V (b3 + 1) 1))]) (wk_s (wk_s (wk_s (wk_s wk_0)))) ?_
    show wpv K_X7_sylow d P 39 [some (4, (p0 : Int)), some (0, x1), some (0, 1), some (0, (V (b3 + 1) 1))] [] G R V
    refine wp_p (i := (.iconst 0)) rfl rfl (fun _ _ _ => rfl) (?_ : wpv K_X7_sylow d P 40 [some (4, (p0 : Int)), some (0, x1), some (0, 1), some (0, (V (b3 + 1) 1))] [(0, 0)] G R V)
    refine wp_sto (i := (.istore 4)) _ rfl rfl (fun _ => rfl) rfl rfl rfl ?_
    refine wp_wk (L' := [some (4, (p0 : Int)), some (0, x1), some (0, 1), some (0, (V (b3 + 1) 1)), some (0, 0)]) (wk_s (wk_s (wk_s (wk_s (wk_s wk_0))))) ?_
    show wpv K_X7_sylow d P 42 [some (4, (p0 : Int)), some (0, x1), some (0, 1), some (0, (V (b3 + 1) 1)), some (0, 0)] [] G R V
    exact wp_wk (wk_s (wk_s (wk_s (wk_s (wk_s wk_0))))) w
  · have q : ¬ x1 = 2 := q
    replace w := w.2 q
    show wpv K_X7_sylow d P 5 [some (4, (p0 : Int)), some (0, x1)] [] G R V
    refine wp_ld (i := (.iload_n 1)) (0, x1) rfl rfl (fun _ => rfl) rfl rfl (?_ : wpv K_X7_sylow d P 6 [some (4, (p0 : Int)), some (0, x1)] [(0, x1)] G R V)
    refine wp_p (i := (.iconst 3)) rfl rfl (fun _ _ _ => rfl) (?_ : wpv K_X7_sylow d P 7 [some (4, (p0 : Int)), some (0, x1)] [(0, 3), (0, x1)] G R V)
    refine wp_icmp (c := .eq) 23 rfl rfl rfl s1 ⟨by omega, by omega⟩ (fun q => ?_) (fun q => ?_)
    · have q : x1 = 3 := q
      replace w := w.1 q
      show wpv K_X7_sylow d P 23 [some (4, (p0 : Int)), some (0, x1)] [] G R V
      refine wp_p (i := (.iconst 1)) rfl rfl (fun _ _ _ => rfl) (?_ : wpv K_X7_sylow d P 24 [some (4, (p0 : Int)), some (0, x1)] [(0, 1)] G R V)
      refine wp_sto (i := (.istore_n 2)) _ rfl rfl (fun _ => rfl) rfl rfl rfl ?_
      refine wp_wk (L' := [some (4, (p0 : Int)), some (0, x1), some (0, 1)]) (wk_s (wk_s (wk_s wk_0))) ?_
      show wpv K_X7_sylow d P 25 [some (4, (p0 : Int)), some (0, x1), some (0, 1)] [] G R V
      refine wp_ld (i := (.aload_n 0)) (4, (p0 : Int)) rfl rfl (fun _ => rfl) rfl rfl (?_ : wpv K_X7_sylow d P 26 [some (4, (p0 : Int)), some (0, x1), some (0, 1)] [(4, (p0 : Int))] G R V)
      obtain ⟨b6, ⟨r6, l6_⟩, w⟩ := w
      refine wp_getA (k := 6) rfl rfl rfl (ly7_o l0) rfl rfl r6 (?_ : wpv K_X7_sylow d P 29 [some (4, (p0 : Int)), some (0, x1), some (0, 1)] [(4, (b6 : Int))] G R V)
      obtain ⟨b7, ⟨r7, l7_⟩, w⟩ := w
      refine wp_getA (k := 0) rfl rfl rfl (ly1_o l6_) rfl rfl r7 (?_ : wpv K_X7_sylow d P 32 [some (4, (p0 : Int)), some (0, x1), some (0, 1)] [(4, (b7 : Int))] G R V)
      refine wp_getA (k := 0) rfl rfl rfl (ly2_o l7_) rfl rfl (ly2_0 l7_).1 (?_ : wpv K_X7_sylow d P 35 [some (4, (p0 : Int)), some (0, x1), some (0, 1)] [(4, ((b7 + 1 : Nat) : Int))] G R V)
      refine wp_rng (fun vr8 => ?_)
      have f9 : i32 (V (b7 + 1) 1) := vr_f0 vr8 (ly6_o (ly2_0 l7_).2) rfl rfl
      replace w := w f9
      refine wp_getI (k := 1) rfl rfl rfl (ly6_o (ly2_0 l7_).2) rfl rfl (?_ : wpv K_X7_sylow d P 38 [some (4, (p0 : Int)), some (0, x1), some (0, 1)] [(0, (V (b7 + 1) 1))] G R V)
      refine wp_sto (i := (.istore_n 3)) _ rfl rfl (fun _ => rfl) rfl rfl rfl ?_
      refine wp_wk (L' := [some (4, (p0 : Int)), some (0, x1), some (0, 1), some (0, (V (b7 + 1) 1))]) (wk_s (wk_s (wk_s (wk_s wk_0)))) ?_
      show wpv K_X7_sylow d P 39 [some (4, (p0 : Int)), some (0, x1), some (0, 1), some (0, (V (b7 + 1) 1))] [] G R V
      refine wp_p (i := (.iconst 0)) rfl rfl (fun _ _ _ => rfl) (?_ : wpv K_X7_sylow d P 40 [some (4, (p0 : Int)), some (0, x1), some (0, 1), some (0, (V (b7 + 1) 1))] [(0, 0)] G R V)
      refine wp_sto (i := (.istore 4)) _ rfl rfl (fun _ => rfl) rfl rfl rfl ?_
      refine wp_wk (L' := [some (4, (p0 : Int)), some (0, x1), some (0, 1), some (0, (V (b7 + 1) 1)), some (0, 0)]) (wk_s (wk_s (wk_s (wk_s (wk_s wk_0))))) ?_
      show wpv K_X7_sylow d P 42 [some (4, (p0 : Int)), some (0, x1), some (0, 1), some (0, (V (b7 + 1) 1)), some (0, 0)] [] G R V
      exact wp_wk (wk_s (wk_s (wk_s (wk_s (wk_s wk_0))))) w
    · have q : ¬ x1 = 3 := q
      replace w := w.2 q
      show wpv K_X7_sylow d P 10 [some (4, (p0 : Int)), some (0, x1)] [] G R V
      refine wp_ld (i := (.iload_n 1)) (0, x1) rfl rfl (fun _ => rfl) rfl rfl (?_ : wpv K_X7_sylow d P 11 [some (4, (p0 : Int)), some (0, x1)] [(0, x1)] G R V)
      refine wp_p (i := (.iconst 5)) rfl rfl (fun _ _ _ => rfl) (?_ : wpv K_X7_sylow d P 12 [some (4, (p0 : Int)), some (0, x1)] [(0, 5), (0, x1)] G R V)
      refine wp_icmp (c := .eq) 23 rfl rfl rfl s1 ⟨by omega, by omega⟩ (fun q => ?_) (fun q => ?_)
      · have q : x1 = 5 := q
        replace w := w.1 q
        show wpv K_X7_sylow d P 23 [some (4, (p0 : Int)), some (0, x1)] [] G R V
        refine wp_p (i := (.iconst 1)) rfl rfl (fun _ _ _ => rfl) (?_ : wpv K_X7_sylow d P 24 [some (4, (p0 : Int)), some (0, x1)] [(0, 1)] G R V)
        refine wp_sto (i := (.istore_n 2)) _ rfl rfl (fun _ => rfl) rfl rfl rfl ?_
        refine wp_wk (L' := [some (4, (p0 : Int)), some (0, x1), some (0, 1)]) (wk_s (wk_s (wk_s wk_0))) ?_
        show wpv K_X7_sylow d P 25 [some (4, (p0 : Int)), some (0, x1), some (0, 1)] [] G R V
        refine wp_ld (i := (.aload_n 0)) (4, (p0 : Int)) rfl rfl (fun _ => rfl) rfl rfl (?_ : wpv K_X7_sylow d P 26 [some (4, (p0 : Int)), some (0, x1), some (0, 1)] [(4, (p0 : Int))] G R V)
        obtain ⟨b10, ⟨r10, l10_⟩, w⟩ := w
        refine wp_getA (k := 6) rfl rfl rfl (ly7_o l0) rfl rfl r10 (?_ : wpv K_X7_sylow d P 29 [some (4, (p0 : Int)), some (0, x1), some (0, 1)] [(4, (b10 : Int))] G R V)
        obtain ⟨b11, ⟨r11, l11_⟩, w⟩ := w
        refine wp_getA (k := 0) rfl rfl rfl (ly1_o l10_) rfl rfl r11 (?_ : wpv K_X7_sylow d P 32 [some (4, (p0 : Int)), some (0, x1), some (0, 1)] [(4, (b11 : Int))] G R V)
        refine wp_getA (k := 0) rfl rfl rfl (ly2_o l11_) rfl rfl (ly2_0 l11_).1 (?_ : wpv K_X7_sylow d P 35 [some (4, (p0 : Int)), some (0, x1), some (0, 1)] [(4, ((b11 + 1 : Nat) : Int))] G R V)
        refine wp_rng (fun vr12 => ?_)
        have f13 : i32 (V (b11 + 1) 1) := vr_f0 vr12 (ly6_o (ly2_0 l11_).2) rfl rfl
        replace w := w f13
        refine wp_getI (k := 1) rfl rfl rfl (ly6_o (ly2_0 l11_).2) rfl rfl (?_ : wpv K_X7_sylow d P 38 [some (4, (p0 : Int)), some (0, x1), some (0, 1)] [(0, (V (b11 + 1) 1))] G R V)
        refine wp_sto (i := (.istore_n 3)) _ rfl rfl (fun _ => rfl) rfl rfl rfl ?_
        refine wp_wk (L' := [some (4, (p0 : Int)), some (0, x1), some (0, 1), some (0, (V (b11 + 1) 1))]) (wk_s (wk_s (wk_s (wk_s wk_0)))) ?_
        show wpv K_X7_sylow d P 39 [some (4, (p0 : Int)), some (0, x1), some (0, 1), some (0, (V (b11 + 1) 1))] [] G R V
        refine wp_p (i := (.iconst 0)) rfl rfl (fun _ _ _ => rfl) (?_ : wpv K_X7_sylow d P 40 [some (4, (p0 : Int)), some (0, x1), some (0, 1), some (0, (V (b11 + 1) 1))] [(0, 0)] G R V)
        refine wp_sto (i := (.istore 4)) _ rfl rfl (fun _ => rfl) rfl rfl rfl ?_
        refine wp_wk (L' := [some (4, (p0 : Int)), some (0, x1), some (0, 1), some (0, (V (b11 + 1) 1)), some (0, 0)]) (wk_s (wk_s (wk_s (wk_s (wk_s wk_0))))) ?_
        show wpv K_X7_sylow d P 42 [some (4, (p0 : Int)), some (0, x1), some (0, 1), some (0, (V (b11 + 1) 1)), some (0, 0)] [] G R V
        exact wp_wk (wk_s (wk_s (wk_s (wk_s (wk_s wk_0))))) w
      · have q : ¬ x1 = 5 := q
        replace w := w.2 q
        show wpv K_X7_sylow d P 15 [some (4, (p0 : Int)), some (0, x1)] [] G R V
        refine wp_ld (i := (.iload_n 1)) (0, x1) rfl rfl (fun _ => rfl) rfl rfl (?_ : wpv K_X7_sylow d P 16 [some (4, (p0 : Int)), some (0, x1)] [(0, x1)] G R V)
        refine wp_p (i := (.bipush 7)) rfl rfl (fun _ _ _ => rfl) (?_ : wpv K_X7_sylow d P 18 [some (4, (p0 : Int)), some (0, x1)] [(0, 7), (0, x1)] G R V)
        refine wp_icmp (c := .eq) 23 rfl rfl rfl s1 ⟨by omega, by omega⟩ (fun q => ?_) (fun q => ?_)
        · have q : x1 = 7 := q
          replace w := w.1 q
          show wpv K_X7_sylow d P 23 [some (4, (p0 : Int)), some (0, x1)] [] G R V
          refine wp_p (i := (.iconst 1)) rfl rfl (fun _ _ _ => rfl) (?_ : wpv K_X7_sylow d P 24 [some (4, (p0 : Int)), some (0, x1)] [(0, 1)] G R V)
          refine wp_sto (i := (.istore_n 2)) _ rfl rfl (fun _ => rfl) rfl rfl rfl ?_
          refine wp_wk (L' := [some (4, (p0 : Int)), some (0, x1), some (0, 1)]) (wk_s (wk_s (wk_s wk_0))) ?_
          show wpv K_X7_sylow d P 25 [some (4, (p0 : Int)), some (0, x1), some (0, 1)] [] G R V
          refine wp_ld (i := (.aload_n 0)) (4, (p0 : Int)) rfl rfl (fun _ => rfl) rfl rfl (?_ : wpv K_X7_sylow d P 26 [some (4, (p0 : Int)), some (0, x1), some (0, 1)] [(4, (p0 : Int))] G R V)
          obtain ⟨b14, ⟨r14, l14_⟩, w⟩ := w
          refine wp_getA (k := 6) rfl rfl rfl (ly7_o l0) rfl rfl r14 (?_ : wpv K_X7_sylow d P 29 [some (4, (p0 : Int)), some (0, x1), some (0, 1)] [(4, (b14 : Int))] G R V)
          obtain ⟨b15, ⟨r15, l15_⟩, w⟩ := w
          refine wp_getA (k := 0) rfl rfl rfl (ly1_o l14_) rfl rfl r15 (?_ : wpv K_X7_sylow d P 32 [some (4, (p0 : Int)), some (0, x1), some (0, 1)] [(4, (b15 : Int))] G R V)
          refine wp_getA (k := 0) rfl rfl rfl (ly2_o l15_) rfl rfl (ly2_0 l15_).1 (?_ : wpv K_X7_sylow d P 35 [some (4, (p0 : Int)), some (0, x1), some (0, 1)] [(4, ((b15 + 1 : Nat) : Int))] G R V)
          refine wp_rng (fun vr16 => ?_)
          have f17 : i32 (V (b15 + 1) 1) := vr_f0 vr16 (ly6_o (ly2_0 l15_).2) rfl rfl
          replace w := w f17
          refine wp_getI (k := 1) rfl rfl rfl (ly6_o (ly2_0 l15_).2) rfl rfl (?_ : wpv K_X7_sylow d P 38 [some (4, (p0 : Int)), some (0, x1), some (0, 1)] [(0, (V (b15 + 1) 1))] G R V)
          refine wp_sto (i := (.istore_n 3)) _ rfl rfl (fun _ => rfl) rfl rfl rfl ?_
          refine wp_wk (L' := [some (4, (p0 : Int)), some (0, x1), some (0, 1), some (0, (V (b15 + 1) 1))]) (wk_s (wk_s (wk_s (wk_s wk_0)))) ?_
          show wpv K_X7_sylow d P 39 [some (4, (p0 : Int)), some (0, x1), some (0, 1), some (0, (V (b15 + 1) 1))] [] G R V
          refine wp_p (i := (.iconst 0)) rfl rfl (fun _ _ _ => rfl) (?_ : wpv K_X7_sylow d P 40 [some (4, (p0 : Int)), some (0, x1), some (0, 1), some (0, (V (b15 + 1) 1))] [(0, 0)] G R V)
          refine wp_sto (i := (.istore 4)) _ rfl rfl (fun _ => rfl) rfl rfl rfl ?_
          refine wp_wk (L' := [some (4, (p0 : Int)), some (0, x1), some (0, 1), some (0, (V (b15 + 1) 1)), some (0, 0)]) (wk_s (wk_s (wk_s (wk_s (wk_s wk_0))))) ?_
          show wpv K_X7_sylow d P 42 [some (4, (p0 : Int)), some (0, x1), some (0, 1), some (0, (V (b15 + 1) 1)), some (0, 0)] [] G R V
          exact wp_wk (wk_s (wk_s (wk_s (wk_s (wk_s wk_0))))) w
        · have q : ¬ x1 = 7 := q
          replace w := w.2 q
          show wpv K_X7_sylow d P 21 [some (4, (p0 : Int)), some (0, x1)] [] G R V
          refine wp_p (i := (.iconst (-1))) rfl rfl (fun _ _ _ => rfl) (?_ : wpv K_X7_sylow d P 22 [some (4, (p0 : Int)), some (0, x1)] [(0, (-1))] G R V)
          exact wp_rI rfl rfl rfl w

theorem t_X7_sylow_42 {d : Nat} {P : gP} {p0 : Nat} {x1 : Int} {x2 : Int} {x3 : Int} {x4 : Int} {G : List gS} {R V : gV} (l0 : lay7 G R p0) (w : ((i32 x4) ∧ (((¬ x4 < 120) → (∃ b2 : Nat, (R p0 6 = (b2 : Int) ∧ lay1 G R b2) ∧ (∃ b3 : Nat, (R b2 0 = (b3 : Int) ∧ lay2 G R b3) ∧ cwv d (fun r V4 => ∃ v5 : Int, r = some (0, v5) ∧ P (some (0, v5)) V4) 68 [(4, ((b3 + 10 : Nat) : Int)), (0, x2)] G R V))) ∧ ((x4 < 120) → ((i32 x3) ∧ (((¬ 0 < x3) → (∃ b7 : Nat, (R p0 6 = (b7 : Int) ∧ lay1 G R b7) ∧ (∃ b8 : Nat, (R b7 0 = (b8 : Int) ∧ lay2 G R b8) ∧ cwv d (fun r V9 => ∃ v10 : Int, r = some (0, v10) ∧ P (some (0, v10)) V9) 68 [(4, ((b8 + 10 : Nat) : Int)), (0, x2)] G R V))) ∧ ((0 < x3) → ((i32 x1) ∧ ((0 ≤ x3 ∧ 0 < x1) ∧ ((i32 ((x3 % x1))) ∧ (((¬ (x3 % x1) = 0) → (∃ b14 : Nat, (R p0 6 = (b14 : Int) ∧ lay1 G R b14) ∧ (∃ b15 : Nat, (R b14 0 = (b15 : Int) ∧ lay2 G R b15) ∧ cwv d (fun r V16 => ∃ v17 : Int, r = some (0, v17) ∧ P (some (0, v17)) V16) 68 [(4, ((b15 + 10 : Nat) : Int)), (0, x2)] G R V))) ∧ (((x3 % x1) = 0) → ((0 ≤ x3 ∧ 0 < x1) ∧ ((i32 (x2 * x1)) ∧ ((i32 (x4 + 1)) ∧ wpv K_X7_sylow d P 42 [some (4, (p0 : Int)), some (0, x1), some (0, (x2 * x1)), some (0, (x3 / x1)), some (0, (x4 + 1))] [] G R V))))))))))))))) : wpv K_X7_sylow d P 42 [some (4, (p0 : Int)), some (0, x1), some (0, x2), some (0, x3), some (0, x4)] [] G R V := by
  refine wp_ld (i := (.iload 4)) (0, x4) rfl rfl (fun _ => rfl) rfl rfl (?_ : wpv K_X7_sylow d P 44 [some (4, (p0 : Int)), some (0, x1), some (0, x2), some (0, x3), some (0, x4)] [(0, x4)] G R V)
  refine wp_p (i := (.bipush 120)) rfl rfl (fun _ _ _ => rfl) (?_ : wpv K_X7_sylow d P 46 [some (4, (p0 : Int)), some (0, x1), some (0, x2), some (0, x3), some (0, x4)] [(0, 120), (0, x4)] G R V)
  obtain ⟨s1, w⟩ := w
  refine wp_icmp (c := .ge) 73 rfl rfl rfl s1 ⟨by omega, by omega⟩ (fun q => ?_) (fun q => ?_)
  · have q : ¬ x4 < 120 := q
    replace w := w.1 q
    show wpv K_X7_sylow d P 73 [some (4, (p0 : Int)), some (0, x1), some (0, x2), some (0, x3), some (0, x4)] [] G R V
    refine wp_ld (i := (.aload_n 0)) (4, (p0 : Int)) rfl rfl (fun _ => rfl) rfl rfl (?_ : wpv K_X7_sylow d P 74 [some (4, (p0 : Int)), some (0, x1), some (0, x2), some (0, x3), some (0, x4)] [(4, (p0 : Int))] G R V)
    obtain ⟨b2, ⟨r2, l2_⟩, w⟩ := w
    refine wp_getA (k := 6) rfl rfl rfl (ly7_o l0) rfl rfl r2 (?_ : wpv K_X7_sylow d P 77 [some (4, (p0 : Int)), some (0, x1), some (0, x2), some (0, x3), some (0, x4)] [(4, (b2 : Int))] G R V)
    obtain ⟨b3, ⟨r3, l3_⟩, w⟩ := w
    refine wp_getA (k := 0) rfl rfl rfl (ly1_o l2_) rfl rfl r3 (?_ : wpv K_X7_sylow d P 80 [some (4, (p0 : Int)), some (0, x1), some (0, x2), some (0, x3), some (0, x4)] [(4, (b3 : Int))] G R V)
    refine wp_getA (k := 1) rfl rfl rfl (ly2_o l3_) rfl rfl (ly2_1 l3_).1 (?_ : wpv K_X7_sylow d P 83 [some (4, (p0 : Int)), some (0, x1), some (0, x2), some (0, x3), some (0, x4)] [(4, ((b3 + 10 : Nat) : Int))] G R V)
    refine wp_ld (i := (.iload_n 2)) (0, x2) rfl rfl (fun _ => rfl) rfl rfl (?_ : wpv K_X7_sylow d P 84 [some (4, (p0 : Int)), some (0, x1), some (0, x2), some (0, x3), some (0, x4)] [(0, x2), (4, ((b3 + 10 : Nat) : Int))] G R V)
    refine wp_virt (as := [(0, x2)]) (a := b3 + 10) (st := []) _ rfl rfl rfl rfl rfl rfl (ly4_o (ly2_1 l3_).2) (Nat.le_of_ble_eq_true rfl) (cwv_kI w (fun v5 V4 w => ?_))
    show wpv K_X7_sylow d P 87 [some (4, (p0 : Int)), some (0, x1), some (0, x2), some (0, x3), some (0, x4)] [(0, v5)] G R V4
    exact wp_rI rfl rfl rfl w
  · have q : x4 < 120 := Decidable.not_not.mp q
    replace w := w.2 q
    show wpv K_X7_sylow d P 49 [some (4, (p0 : Int)), some (0, x1), some (0, x2), some (0, x3), some (0, x4)] [] G R V
    refine wp_ld (i := (.iload_n 3)) (0, x3) rfl rfl (fun _ => rfl) rfl rfl (?_ : wpv K_X7_sylow d P 50 [some (4, (p0 : Int)), some (0, x1), some (0, x2), some (0, x3), some (0, x4)] [(0, x3)] G R V)
    obtain ⟨s6, w⟩ := w
    refine wp_if (c := .le) 73 rfl rfl rfl s6 (fun q => ?_) (fun q => ?_)
    · have q : ¬ 0 < x3 := q
      replace w := w.1 q
      show wpv K_X7_sylow d P 73 [some (4, (p0 : Int)), some (0, x1), some (0, x2), some (0, x3), some (0, x4)] [] G R V
      refine wp_ld (i := (.aload_n 0)) (4, (p0 : Int)) rfl rfl (fun _ => rfl) rfl rfl (?_ : wpv K_X7_sylow d P 74 [some (4, (p0 : Int)), some (0, x1), some (0, x2), some (0, x3), some (0, x4)] [(4, (p0 : Int))] G R V)
      obtain ⟨b7, ⟨r7, l7_⟩, w⟩ := w
      refine wp_getA (k := 6) rfl rfl rfl (ly7_o l0) rfl rfl r7 (?_ : wpv K_X7_sylow d P 77 [some (4, (p0 : Int)), some (0, x1), some (0, x2), some (0, x3), some (0, x4)] [(4, (b7 : Int))] G R V)
      obtain ⟨b8, ⟨r8, l8_⟩, w⟩ := w
      refine wp_getA (k := 0) rfl rfl rfl (ly1_o l7_) rfl rfl r8 (?_ : wpv K_X7_sylow d P 80 [some (4, (p0 : Int)), some (0, x1), some (0, x2), some (0, x3), some (0, x4)] [(4, (b8 : Int))] G R V)
      refine wp_getA (k := 1) rfl rfl rfl (ly2_o l8_) rfl rfl (ly2_1 l8_).1 (?_ : wpv K_X7_sylow d P 83 [some (4, (p0 : Int)), some (0, x1), some (0, x2), some (0, x3), some (0, x4)] [(4, ((b8 + 10 : Nat) : Int))] G R V)
      refine wp_ld (i := (.iload_n 2)) (0, x2) rfl rfl (fun _ => rfl) rfl rfl (?_ : wpv K_X7_sylow d P 84 [some (4, (p0 : Int)), some (0, x1), some (0, x2), some (0, x3), some (0, x4)] [(0, x2), (4, ((b8 + 10 : Nat) : Int))] G R V)
      refine wp_virt (as := [(0, x2)]) (a := b8 + 10) (st := []) _ rfl rfl rfl rfl rfl rfl (ly4_o (ly2_1 l8_).2) (Nat.le_of_ble_eq_true rfl) (cwv_kI w (fun v10 V9 w => ?_))
      show wpv K_X7_sylow d P 87 [some (4, (p0 : Int)), some (0, x1), some (0, x2), some (0, x3), some (0, x4)] [(0, v10)] G R V9
      exact wp_rI rfl rfl rfl w
    · have q : 0 < x3 := Decidable.not_not.mp q
      replace w := w.2 q
      show wpv K_X7_sylow d P 53 [some (4, (p0 : Int)), some (0, x1), some (0, x2), some (0, x3), some (0, x4)] [] G R V
      refine wp_ld (i := (.iload_n 3)) (0, x3) rfl rfl (fun _ => rfl) rfl rfl (?_ : wpv K_X7_sylow d P 54 [some (4, (p0 : Int)), some (0, x1), some (0, x2), some (0, x3), some (0, x4)] [(0, x3)] G R V)
      refine wp_ld (i := (.iload_n 1)) (0, x1) rfl rfl (fun _ => rfl) rfl rfl (?_ : wpv K_X7_sylow d P 55 [some (4, (p0 : Int)), some (0, x1), some (0, x2), some (0, x3), some (0, x4)] [(0, x1), (0, x3)] G R V)
      obtain ⟨s11, w⟩ := w
      obtain ⟨s12, w⟩ := w
      refine wp_xrem rfl rfl s12.1 s12.2 s6 s11 (?_ : wpv K_X7_sylow d P 56 [some (4, (p0 : Int)), some (0, x1), some (0, x2), some (0, x3), some (0, x4)] [(0, (x3 % x1))] G R V)
      obtain ⟨s13, w⟩ := w
      refine wp_if (c := .ne) 73 rfl rfl rfl s13 (fun q => ?_) (fun q => ?_)
      · have q : ¬ (x3 % x1) = 0 := q
        replace w := w.1 q
        show wpv K_X7_sylow d P 73 [some (4, (p0 : Int)), some (0, x1), some (0, x2), some (0, x3), some (0, x4)] [] G R V
        refine wp_ld (i := (.aload_n 0)) (4, (p0 : Int)) rfl rfl (fun _ => rfl) rfl rfl (?_ : wpv K_X7_sylow d P 74 [some (4, (p0 : Int)), some (0, x1), some (0, x2), some (0, x3), some (0, x4)] [(4, (p0 : Int))] G R V)
        obtain ⟨b14, ⟨r14, l14_⟩, w⟩ := w
        refine wp_getA (k := 6) rfl rfl rfl (ly7_o l0) rfl rfl r14 (?_ : wpv K_X7_sylow d P 77 [some (4, (p0 : Int)), some (0, x1), some (0, x2), some (0, x3), some (0, x4)] [(4, (b14 : Int))] G R V)
        obtain ⟨b15, ⟨r15, l15_⟩, w⟩ := w
        refine wp_getA (k := 0) rfl rfl rfl (ly1_o l14_) rfl rfl r15 (?_ : wpv K_X7_sylow d P 80 [some (4, (p0 : Int)), some (0, x1), some (0, x2), some (0, x3), some (0, x4)] [(4, (b15 : Int))] G R V)
        refine wp_getA (k := 1) rfl rfl rfl (ly2_o l15_) rfl rfl (ly2_1 l15_).1 (?_ : wpv K_X7_sylow d P 83 [some (4, (p0 : Int)), some (0, x1), some (0, x2), some (0, x3), some (0, x4)] [(4, ((b15 + 10 : Nat) : Int))] G R V)
        refine wp_ld (i := (.iload_n 2)) (0, x2) rfl rfl (fun _ => rfl) rfl rfl (?_ : wpv K_X7_sylow d P 84 [some (4, (p0 : Int)), some (0, x1), some (0, x2), some (0, x3), some (0, x4)] [(0, x2), (4, ((b15 + 10 : Nat) : Int))] G R V)
        refine wp_virt (as := [(0, x2)]) (a := b15 + 10) (st := []) _ rfl rfl rfl rfl rfl rfl (ly4_o (ly2_1 l15_).2) (Nat.le_of_ble_eq_true rfl) (cwv_kI w (fun v17 V16 w => ?_))
        show wpv K_X7_sylow d P 87 [some (4, (p0 : Int)), some (0, x1), some (0, x2), some (0, x3), some (0, x4)] [(0, v17)] G R V16
        exact wp_rI rfl rfl rfl w
      · have q : (x3 % x1) = 0 := Decidable.not_not.mp q
        replace w := w.2 q
        show wpv K_X7_sylow d P 59 [some (4, (p0 : Int)), some (0, x1), some (0, x2), some (0, x3), some (0, x4)] [] G R V
        refine wp_ld (i := (.iload_n 3)) (0, x3) rfl rfl (fun _ => rfl) rfl rfl (?_ : wpv K_X7_sylow d P 60 [some (4, (p0 : Int)), some (0, x1), some (0, x2), some (0, x3), some (0, x4)] [(0, x3)] G R V)
        refine wp_ld (i := (.iload_n 1)) (0, x1) rfl rfl (fun _ => rfl) rfl rfl (?_ : wpv K_X7_sylow d P 61 [some (4, (p0 : Int)), some (0, x1), some (0, x2), some (0, x3), some (0, x4)] [(0, x1), (0, x3)] G R V)
        obtain ⟨s18, w⟩ := w
        refine wp_xdiv rfl rfl s18.1 s18.2 s6 s11 (?_ : wpv K_X7_sylow d P 62 [some (4, (p0 : Int)), some (0, x1), some (0, x2), some (0, x3), some (0, x4)] [(0, (x3 / x1))] G R V)
        refine wp_sto (i := (.istore_n 3)) _ rfl rfl (fun _ => rfl) rfl rfl rfl ?_
        refine wp_wk (L' := [some (4, (p0 : Int)), some (0, x1), some (0, x2), some (0, (x3 / x1)), some (0, x4)]) (wk_s (wk_s (wk_s (wk_s (wk_s wk_0))))) ?_
        show wpv K_X7_sylow d P 63 [some (4, (p0 : Int)), some (0, x1), some (0, x2), some (0, (x3 / x1)), some (0, x4)] [] G R V
        refine wp_ld (i := (.iload_n 2)) (0, x2) rfl rfl (fun _ => rfl) rfl rfl (?_ : wpv K_X7_sylow d P 64 [some (4, (p0 : Int)), some (0, x1), some (0, x2), some (0, (x3 / x1)), some (0, x4)] [(0, x2)] G R V)
        refine wp_ld (i := (.iload_n 1)) (0, x1) rfl rfl (fun _ => rfl) rfl rfl (?_ : wpv K_X7_sylow d P 65 [some (4, (p0 : Int)), some (0, x1), some (0, x2), some (0, (x3 / x1)), some (0, x4)] [(0, x1), (0, x2)] G R V)
        obtain ⟨s19, w⟩ := w
        refine wp_xmul rfl rfl s19 (?_ : wpv K_X7_sylow d P 66 [some (4, (p0 : Int)), some (0, x1), some (0, x2), some (0, (x3 / x1)), some (0, x4)] [(0, (x2 * x1))] G R V)
        refine wp_sto (i := (.istore_n 2)) _ rfl rfl (fun _ => rfl) rfl rfl rfl ?_
        refine wp_wk (L' := [some (4, (p0 : Int)), some (0, x1), some (0, (x2 * x1)), some (0, (x3 / x1)), some (0, x4)]) (wk_s (wk_s (wk_s (wk_s (wk_s wk_0))))) ?_
        show wpv K_X7_sylow d P 67 [some (4, (p0 : Int)), some (0, x1), some (0, (x2 * x1)), some (0, (x3 / x1)), some (0, x4)] [] G R V
        obtain ⟨s20, w⟩ := w
        refine wp_inc (x := 4) (k := 1) (a := x4) (c := (x4 + 1)) _ rfl rfl rfl rfl s20 (by omega) rfl ?_
        show wpv K_X7_sylow d P 70 [some (4, (p0 : Int)), some (0, x1), some (0, (x2 * x1)), some (0, (x3 / x1)), some (0, (x4 + 1))] [] G R V
        refine wp_go 42 rfl rfl rfl (?_ : wpv K_X7_sylow d P 42 [some (4, (p0 : Int)), some (0, x1), some (0, (x2 * x1)), some (0, (x3 / x1)), some (0, (x4 + 1))] [] G R V)
        exact wp_wk (wk_s (wk_s (wk_s (wk_s (wk_s wk_0))))) w
theorem t_X7_down_0 {d : Nat} {P : gP} {p0 : Nat} {x1 : Int} {G : List gS} {R V : gV} (l0 : lay7 G R p0) (w : ((i32 x1) ∧ (((x1 < 0) → P (some (0, (-1))) V) ∧ ((¬ x1 < 0) → (((¬ 10 < x1) → (∃ b2 : Nat, (R p0 6 = (b2 : Int) ∧ lay1 G R b2) ∧ (∃ b3 : Nat, (R b2 0 = (b3 : Int) ∧ lay2 G R b3) ∧ ((i32 (V (b3 + 10) 0)) → ((i32 ((V (b3 + 10) 0) - 1)) ∧ wpv K_X7_down d P 30 [some (4, (p0 : Int)), some (0, x1), some (0, ((V (b3 + 10) 0) - 1)), some (0, 0)] [] G R V))))) ∧ ((10 < x1) → P (some (0, (-1))) V)))))) : wpv K_X7_down d P 0 [some (4, (p0 : Int)), some (0, x1)] [] G R V := by
  refine wp_ld (i := (.iload_n 1)) (0, x1) rfl rfl (fun _ => rfl) rfl rfl (?_ : wpv K_X7_down d P 1 [some (4, (p0 : Int)), some (0, x1)] [(0, x1)] G R V)
  obtain ⟨s1, w⟩ := w
  refine wp_if (c := .lt) 10 rfl rfl rfl s1 (fun q => ?_) (fun q => ?_)
  · have q : x1 < 0 := q
    replace w := w.1 q
    show wpv K_X7_down d P 10 [some (4, (p0 : Int)), some (0, x1)] [] G R V
    refine wp_p (i := (.iconst (-1))) rfl rfl (fun _ _ _ => rfl) (?_ : wpv K_X7_down d P 11 [some (4, (p0 : Int)), some (0, x1)] [(0, (-1))] G R V)
    exact wp_rI rfl rfl rfl w
  · have q : ¬ x1 < 0 := q
    replace w := w.2 q
    show wpv K_X7_down d P 4 [some (4, (p0 : Int)), some (0, x1)] [] G R V
    refine wp_ld (i := (.iload_n 1)) (0, x1) rfl rfl (fun _ => rfl) rfl rfl (?_ : wpv K_X7_down d P 5 [some (4, (p0 : Int)), some (0, x1)] [(0, x1)] G R V)
    refine wp_p (i := (.bipush 10)) rfl rfl (fun _ _ _ => rfl) (?_ : wpv K_X7_down d P 7 [some (4, (p0 : Int)), some (0, x1)] [(0, 10), (0, x1)] G R V)
    refine wp_icmp (c := .le) 12 rfl rfl rfl s1 ⟨by omega, by omega⟩ (fun q => ?_) (fun q => ?_)
    · have q : ¬ 10 < x1 := q
      replace w := w.1 q
      show wpv K_X7_down d P 12 [some (4, (p0 : Int)), some (0, x1)] [] G R V
      refine wp_ld (i := (.aload_n 0)) (4, (p0 : Int)) rfl rfl (fun _ => rfl) rfl rfl (?_ : wpv K_X7_down d P 13 [some (4, (p0 : Int)), some (0, x1)] [(4, (p0 : Int))] G R V)
      obtain ⟨b2, ⟨r2, l2_⟩, w⟩ := w
      refine wp_getA (k := 6) rfl rfl rfl (ly7_o l0) rfl rfl r2 (?_ : wpv K_X7_down d P 16 [some (4, (p0 : Int)), some (0, x1)] [(4, (b2 : Int))] G R V)
      obtain ⟨b3, ⟨r3, l3_⟩, w⟩ := w
      refine wp_getA (k := 0) rfl rfl rfl (ly1_o l2_) rfl rfl r3 (?_ : wpv K_X7_down d P 19 [some (4, (p0 : Int)), some (0, x1)] [(4, (b3 : Int))] G R V)
      refine wp_getA (k := 1) rfl rfl rfl (ly2_o l3_) rfl rfl (ly2_1 l3_).1 (?_ : wpv K_X7_down d P 22 [some (4, (p0 : Int)), some (0, x1)] [(4, ((b3 + 10 : Nat) : Int))] G R V)
      refine wp_rng (fun vr4 => ?_)
      have f5 : i32 (V (b3 + 10) 0) := vr_f0 vr4 (ly4_o (ly2_1 l3_).2) rfl rfl
      replace w := w f5
      refine wp_getI (k := 0) rfl rfl rfl (ly4_o (ly2_1 l3_).2) rfl rfl (?_ : wpv K_X7_down d P 25 [some (4, (p0 : Int)), some (0, x1)] [(0, (V (b3 + 10) 0))] G R V)
      refine wp_p (i := (.iconst 1)) rfl rfl (fun _ _ _ => rfl) (?_ : wpv K_X7_down d P 26 [some (4, (p0 : Int)), some (0, x1)] [(0, 1), (0, (V (b3 + 10) 0))] G R V)
      obtain ⟨s6, w⟩ := w
      refine wp_xsub rfl rfl s6 (?_ : wpv K_X7_down d P 27 [some (4, (p0 : Int)), some (0, x1)] [(0, ((V (b3 + 10) 0) - 1))] G R V)
      refine wp_sto (i := (.istore_n 2)) _ rfl rfl (fun _ => rfl) rfl rfl rfl ?_
      refine wp_wk (L' := [some (4, (p0 : Int)), some (0, x1), some (0, ((V (b3 + 10) 0) - 1))]) (wk_s (wk_s (wk_s wk_0))) ?_
      show wpv K_X7_down d P 28 [some (4, (p0 : Int)), some (0, x1), some (0, ((V (b3 + 10) 0) - 1))] [] G R V
      refine wp_p (i := (.iconst 0)) rfl rfl (fun _ _ _ => rfl) (?_ : wpv K_X7_down d P 29 [some (4, (p0 : Int)), some (0, x1), some (0, ((V (b3 + 10) 0) - 1))] [(0, 0)] G R V)
      refine wp_sto (i := (.istore_n 3)) _ rfl rfl (fun _ => rfl) rfl rfl rfl ?_
      refine wp_wk (L' := [some (4, (p0 : Int)), some (0, x1), some (0, ((V (b3 + 10) 0) - 1)), some (0, 0)]) (wk_s (wk_s (wk_s (wk_s wk_0)))) ?_
      show wpv K_X7_down d P 30 [some (4, (p0 : Int)), some (0, x1), some (0, ((V (b3 + 10) 0) - 1)), some (0, 0)] [] G R V
      exact wp_wk (wk_s (wk_s (wk_s (wk_s wk_0)))) w
    · have q : 10 < x1 := Decidable.not_not.mp q
      replace w := w.2 q
      show wpv K_X7_down d P 10 [some (4, (p0 : Int)), some (0, x1)] [] G R V
      refine wp_p (i := (.iconst (-1))) rfl rfl (fun _ _ _ => rfl) (?_ : wpv K_X7_down d P 11 [some (4, (p0 : Int)), some (0, x1)] [(0, (-1))] G R V)
      exact wp_rI rfl rfl rfl w

theorem t_X7_down_30 {d : Nat} {P : gP} {p0 : Nat} {x1 : Int} {x2 : Int} {x3 : Int} {G : List gS} {R V : gV} (l0 : lay7 G R p0) (w : ((i32 x3) ∧ ((i32 x1) ∧ (((¬ x3 < x1) → P (some (0, x2)) V) ∧ ((x3 < x1) → (∃ b3 : Nat, (R p0 6 = (b3 : Int) ∧ lay1 G R b3) ∧ (∃ b4 : Nat, (R b3 0 = (b4 : Int) ∧ lay2 G R b4) ∧ cwv d (fun r V5 => ∃ v6 : Int, r = some (0, v6) ∧ ((i32 (x3 + 1)) ∧ wpv K_X7_down d P 30 [some (4, (p0 : Int)), some (0, x1), some (0, v6), some (0, (x3 + 1))] [] G R V5)) 35 [(4, (b4 : Int)), (0, x2)] G R V))))))) : wpv K_X7_down d P 30 [some (4, (p0 : Int)), some (0, x1), some (0, x2), some (0, x3)] [] G R V := by
  refine wp_ld (i := (.iload_n 3)) (0, x3) rfl rfl (fun _ => rfl) rfl rfl (?_ : wpv K_X7_down d P 31 [some (4, (p0 : Int)), some (0, x1), some (0, x2), some (0, x3)] [(0, x3)] G R V)
  refine wp_ld (i := (.iload_n 1)) (0, x1) rfl rfl (fun _ => rfl) rfl rfl (?_ : wpv K_X7_down d P 32 [some (4, (p0 : Int)), some (0, x1), some (0, x2), some (0, x3)] [(0, x1), (0, x3)] G R V)
  obtain ⟨s1, w⟩ := w
  obtain ⟨s2, w⟩ := w
  refine wp_icmp (c := .ge) 53 rfl rfl rfl s1 s2 (fun q => ?_) (fun q => ?_)
  · have q : ¬ x3 < x1 := q
    replace w := w.1 q
    show wpv K_X7_down d P 53 [some (4, (p0 : Int)), some (0, x1), some (0, x2), some (0, x3)] [] G R V
    refine wp_ld (i := (.iload_n 2)) (0, x2) rfl rfl (fun _ => rfl) rfl rfl (?_ : wpv K_X7_down d P 54 [some (4, (p0 : Int)), some (0, x1), some (0, x2), some (0, x3)] [(0, x2)] G R V)
    exact wp_rI rfl rfl rfl w
  · have q : x3 < x1 := Decidable.not_not.mp q
    replace w := w.2 q
    show wpv K_X7_down d P 35 [some (4, (p0 : Int)), some (0, x1), some (0, x2), some (0, x3)] [] G R V
    refine wp_ld (i := (.aload_n 0)) (4, (p0 : Int)) rfl rfl (fun _ => rfl) rfl rfl (?_ : wpv K_X7_down d P 36 [some (4, (p0 : Int)), some (0, x1), some (0, x2), some (0, x3)] [(4, (p0 : Int))] G R V)
    obtain ⟨b3, ⟨r3, l3_⟩, w⟩ := w
    refine wp_getA (k := 6) rfl rfl rfl (ly7_o l0) rfl rfl r3 (?_ : wpv K_X7_down d P 39 [some (4, (p0 : Int)), some (0, x1), some (0, x2), some (0, x3)] [(4, (b3 : Int))] G R V)
    obtain ⟨b4, ⟨r4, l4_⟩, w⟩ := w
    refine wp_getA (k := 0) rfl rfl rfl (ly1_o l3_) rfl rfl r4 (?_ : wpv K_X7_down d P 42 [some (4, (p0 : Int)), some (0, x1), some (0, x2), some (0, x3)] [(4, (b4 : Int))] G R V)
    refine wp_ld (i := (.iload_n 2)) (0, x2) rfl rfl (fun _ => rfl) rfl rfl (?_ : wpv K_X7_down d P 43 [some (4, (p0 : Int)), some (0, x1), some (0, x2), some (0, x3)] [(0, x2), (4, (b4 : Int))] G R V)
    refine wp_virt (as := [(0, x2)]) (a := b4) (st := []) _ rfl rfl rfl rfl rfl rfl (ly2_o l4_) (Nat.le_of_ble_eq_true rfl) (cwv_kI w (fun v6 V5 w => ?_))
    show wpv K_X7_down d P 46 [some (4, (p0 : Int)), some (0, x1), some (0, x2), some (0, x3)] [(0, v6)] G R V5
    refine wp_sto (i := (.istore_n 2)) _ rfl rfl (fun _ => rfl) rfl rfl rfl ?_
    refine wp_wk (L' := [some (4, (p0 : Int)), some (0, x1), some (0, v6), some (0, x3)]) (wk_s (wk_s (wk_s (wk_s wk_0)))) ?_
    show wpv K_X7_down d P 47 [some (4, (p0 : Int)), some (0, x1), some (0, v6), some (0, x3)] [] G R V5
    obtain ⟨s7, w⟩ := w
    refine wp_inc (x := 3) (k := 1) (a := x3) (c := (x3 + 1)) _ rfl rfl rfl rfl s7 (by omega) rfl ?_
    show wpv K_X7_down d P 50 [some (4, (p0 : Int)), some (0, x1), some (0, v6), some (0, (x3 + 1))] [] G R V5
    refine wp_go 30 rfl rfl rfl (?_ : wpv K_X7_down d P 30 [some (4, (p0 : Int)), some (0, x1), some (0, v6), some (0, (x3 + 1))] [] G R V5)
    exact wp_wk (wk_s (wk_s (wk_s (wk_s wk_0)))) w
