theorem t_X3_isAhead_0 {d : Nat} {P : gP} {p0 : Nat} {x1 : Int} {x2 : Int} {G : List gS} {R V : gV} (l0 : lay3 G R p0) (w : ((0 ≤ x1 ∧ x1 < 300) ∧ ((i32 (V (p0 + 3) x1)) → ((0 ≤ x2 ∧ x2 < 300) ∧ ((i32 (V (p0 + 3) x2)) → ((((V (p0 + 3) x1) = (V (p0 + 3) x2)) → ((i64 (V (p0 + 1) x1)) → ((i64 (V (p0 + 1) x2)) → ((((jxor ((V (p0 + 1) x1)) ((V (p0 + 1) x2))) = 0) → ((i64 (V (p0 + 2) x1)) → ((i64 (V (p0 + 2) x2)) → ((((jand ((jand ((V (p0 + 2) x1)) ((jxor ((V (p0 + 2) x1)) ((V (p0 + 2) x2)))))) ((jneg ((jxor ((V (p0 + 2) x1)) ((V (p0 + 2) x2))))))) = 0) → P (some (0, 0)) V) ∧ ((¬ (jand ((jand ((V (p0 + 2) x1)) ((jxor ((V (p0 + 2) x1)) ((V (p0 + 2) x2)))))) ((jneg ((jxor ((V (p0 + 2) x1)) ((V (p0 + 2) x2))))))) = 0) → P (some (0, 1)) V))))) ∧ ((¬ (jxor ((V (p0 + 1) x1)) ((V (p0 + 1) x2))) = 0) → ((((jand ((jand ((V (p0 + 1) x1)) ((jxor ((V (p0 + 1) x1)) ((V (p0 + 1) x2)))))) ((jneg ((jxor ((V (p0 + 1) x1)) ((V (p0 + 1) x2))))))) = 0) → P (some (0, 0)) V) ∧ ((¬ (jand ((jand ((V (p0 + 1) x1)) ((jxor ((V (p0 + 1) x1)) ((V (p0 + 1) x2)))))) ((jneg ((jxor ((V (p0 + 1) x1)) ((V (p0 + 1) x2))))))) = 0) → P (some (0, 1)) V))))))) ∧ ((¬ (V (p0 + 3) x1) = (V (p0 + 3) x2)) → (((¬ (V (p0 + 3) x1) < (V (p0 + 3) x2)) → P (some (0, 0)) V) ∧ (((V (p0 + 3) x1) < (V (p0 + 3) x2)) → P (some (0, 1)) V))))))))) : wpv K_X3_isAhead d P 0 [some (4, (p0 : Int)), some (0, x1), some (0, x2)] [] G R V := by
  refine wp_ld (i := (.aload_n 0)) (4, (p0 : Int)) rfl rfl (fun _ => rfl) rfl rfl (?_ : wpv K_X3_isAhead d P 1 [some (4, (p0 : Int)), some (0, x1), some (0, x2)] [(4, (p0 : Int))] G R V)
  refine wp_getA (k := 3) rfl rfl rfl (ly3_o l0) rfl rfl (ly3_3 l0).1 (?_ : wpv K_X3_isAhead d P 4 [some (4, (p0 : Int)), some (0, x1), some (0, x2)] [(4, ((p0 + 3 : Nat) : Int))] G R V)
  refine wp_ld (i := (.iload_n 1)) (0, x1) rfl rfl (fun _ => rfl) rfl rfl (?_ : wpv K_X3_isAhead d P 5 [some (4, (p0 : Int)), some (0, x1), some (0, x2)] [(0, x1), (4, ((p0 + 3 : Nat) : Int))] G R V)
  obtain ⟨s1, w⟩ := w
  refine wp_rng (fun vr2 => ?_)
  have f3 : i32 (V (p0 + 3) x1) := vr_a0 vr2 (ly3_3 l0).2 s1
  replace w := w f3
  refine wp_aI rfl rfl (ly3_3 l0).2 s1 (?_ : wpv K_X3_isAhead d P 6 [some (4, (p0 : Int)), some (0, x1), some (0, x2)] [(0, (V (p0 + 3) x1))] G R V)
  refine wp_ld (i := (.aload_n 0)) (4, (p0 : Int)) rfl rfl (fun _ => rfl) rfl rfl (?_ : wpv K_X3_isAhead d P 7 [some (4, (p0 : Int)), some (0, x1), some (0, x2)] [(4, (p0 : Int)), (0, (V (p0 + 3) x1))] G R V)
  refine wp_getA (k := 3) rfl rfl rfl (ly3_o l0) rfl rfl (ly3_3 l0).1 (?_ : wpv K_X3_isAhead d P 10 [some (4, (p0 : Int)), some (0, x1), some (0, x2)] [(4, ((p0 + 3 : Nat) : Int)), (0, (V (p0 + 3) x1))] G R V)
  refine wp_ld (i := (.iload_n 2)) (0, x2) rfl rfl (fun _ => rfl) rfl rfl (?_ : wpv K_X3_isAhead d P 11 [some (4, (p0 : Int)), some (0, x1), some (0, x2)] [(0, x2), (4, ((p0 + 3 : Nat) : Int)), (0, (V (p0 + 3) x1))] G R V)
  obtain ⟨s4, w⟩ := w
  have f5 : i32 (V (p0 + 3) x2) := vr_a0 vr2 (ly3_3 l0).2 s4
  replace w := w f5
  refine wp_aI rfl rfl (ly3_3 l0).2 s4 (?_ : wpv K_X3_isAhead d P 12 [some (4, (p0 : Int)), some (0, x1), some (0, x2)] [(0, (V (p0 + 3) x2)), (0, (V (p0 + 3) x1))] G R V)
  refine wp_icmp (c := .eq) 36 rfl rfl rfl f3 f5 (fun q => ?_) (fun q => ?_)
  · have q : (V (p0 + 3) x1) = (V (p0 + 3) x2) := q
    replace w := w.1 q
    show wpv K_X3_isAhead d P 36 [some (4, (p0 : Int)), some (0, x1), some (0, x2)] [] G R V
    refine wp_ld (i := (.aload_n 0)) (4, (p0 : Int)) rfl rfl (fun _ => rfl) rfl rfl (?_ : wpv K_X3_isAhead d P 37 [some (4, (p0 : Int)), some (0, x1), some (0, x2)] [(4, (p0 : Int))] G R V)
    refine wp_getA (k := 1) rfl rfl rfl (ly3_o l0) rfl rfl (ly3_1 l0).1 (?_ : wpv K_X3_isAhead d P 40 [some (4, (p0 : Int)), some (0, x1), some (0, x2)] [(4, ((p0 + 1 : Nat) : Int))] G R V)
    refine wp_ld (i := (.iload_n 1)) (0, x1) rfl rfl (fun _ => rfl) rfl rfl (?_ : wpv K_X3_isAhead d P 41 [some (4, (p0 : Int)), some (0, x1), some (0, x2)] [(0, x1), (4, ((p0 + 1 : Nat) : Int))] G R V)
    have f6 : i64 (V (p0 + 1) x1) := vr_a1 vr2 (ly3_1 l0).2 s1
    replace w := w f6
    refine wp_aJ rfl rfl (ly3_1 l0).2 s1 (?_ : wpv K_X3_isAhead d P 42 [some (4, (p0 : Int)), some (0, x1), some (0, x2)] [(2, (V (p0 + 1) x1))] G R V)
    refine wp_ld (i := (.aload_n 0)) (4, (p0 : Int)) rfl rfl (fun _ => rfl) rfl rfl (?_ : wpv K_X3_isAhead d P 43 [some (4, (p0 : Int)), some (0, x1), some (0, x2)] [(4, (p0 : Int)), (2, (V (p0 + 1) x1))] G R V)
    refine wp_getA (k := 1) rfl rfl rfl (ly3_o l0) rfl rfl (ly3_1 l0).1 (?_ : wpv K_X3_isAhead d P 46 [some (4, (p0 : Int)), some (0, x1), some (0, x2)] [(4, ((p0 + 1 : Nat) : Int)), (2, (V (p0 + 1) x1))] G R V)
    refine wp_ld (i := (.iload_n 2)) (0, x2) rfl rfl (fun _ => rfl) rfl rfl (?_ : wpv K_X3_isAhead d P 47 [some (4, (p0 : Int)), some (0, x1), some (0, x2)] [(0, x2), (4, ((p0 + 1 : Nat) : Int)), (2, (V (p0 + 1) x1))] G R V)
    have f7 : i64 (V (p0 + 1) x2) := vr_a1 vr2 (ly3_1 l0).2 s4
    replace w := w f7
    refine wp_aJ rfl rfl (ly3_1 l0).2 s4 (?_ : wpv K_X3_isAhead d P 48 [some (4, (p0 : Int)), some (0, x1), some (0, x2)] [(2, (V (p0 + 1) x2)), (2, (V (p0 + 1) x1))] G R V)
    refine wp_jxor rfl rfl (?_ : wpv K_X3_isAhead d P 49 [some (4, (p0 : Int)), some (0, x1), some (0, x2)] [(2, (jxor ((V (p0 + 1) x1)) ((V (p0 + 1) x2))))] G R V)
    refine wp_lsto (i := (.lstore_n 3)) _ rfl rfl (fun _ => rfl) rfl rfl rfl ?_
    refine wp_wk (L' := [some (4, (p0 : Int)), some (0, x1), some (0, x2), some (2, (jxor ((V (p0 + 1) x1)) ((V (p0 + 1) x2))))]) (wk_s (wk_s (wk_s (wk_s wk_0)))) ?_
    show wpv K_X3_isAhead d P 50 [some (4, (p0 : Int)), some (0, x1), some (0, x2), some (2, (jxor ((V (p0 + 1) x1)) ((V (p0 + 1) x2))))] [] G R V
    refine wp_ld (i := (.lload_n 3)) (2, (jxor ((V (p0 + 1) x1)) ((V (p0 + 1) x2)))) rfl rfl (fun _ => rfl) rfl rfl (?_ : wpv K_X3_isAhead d P 51 [some (4, (p0 : Int)), some (0, x1), some (0, x2), some (2, (jxor ((V (p0 + 1) x1)) ((V (p0 + 1) x2))))] [(2, (jxor ((V (p0 + 1) x1)) ((V (p0 + 1) x2))))] G R V)
    refine wp_p (i := (.lconst 0)) rfl rfl (fun _ _ _ => rfl) (?_ : wpv K_X3_isAhead d P 52 [some (4, (p0 : Int)), some (0, x1), some (0, x2), some (2, (jxor ((V (p0 + 1) x1)) ((V (p0 + 1) x2))))] [(2, 0), (2, (jxor ((V (p0 + 1) x1)) ((V (p0 + 1) x2))))] G R V)
    refine wp_lcmp rfl rfl (t64 _) ⟨by omega, by omega⟩ (?_ : wpv K_X3_isAhead d P 53 [some (4, (p0 : Int)), some (0, x1), some (0, x2), some (2, (jxor ((V (p0 + 1) x1)) ((V (p0 + 1) x2))))] [(0, sg ((jxor ((V (p0 + 1) x1)) ((V (p0 + 1) x2)))) 0)] G R V)
    refine wp_if (c := .eq) 78 rfl rfl rfl (sg32 _ _) (fun q => ?_) (fun q => ?_)
    · have q : (jxor ((V (p0 + 1) x1)) ((V (p0 + 1) x2))) = 0 := sg_eq.mp q
      replace w := w.1 q
      show wpv K_X3_isAhead d P 78 [some (4, (p0 : Int)), some (0, x1), some (0, x2), some (2, (jxor ((V (p0 + 1) x1)) ((V (p0 + 1) x2))))] [] G R V
      refine wp_ld (i := (.aload_n 0)) (4, (p0 : Int)) rfl rfl (fun _ => rfl) rfl rfl (?_ : wpv K_X3_isAhead d P 79 [some (4, (p0 : Int)), some (0, x1), some (0, x2), some (2, (jxor ((V (p0 + 1) x1)) ((V (p0 + 1) x2))))] [(4, (p0 : Int))] G R V)
      refine wp_getA (k := 2) rfl rfl rfl (ly3_o l0) rfl rfl (ly3_2 l0).1 (?_ : wpv K_X3_isAhead d P 82 [some (4, (p0 : Int)), some (0, x1), some (0, x2), some (2, (jxor ((V (p0 + 1) x1)) ((V (p0 + 1) x2))))] [(4, ((p0 + 2 : Nat) : Int))] G R V)
      refine wp_ld (i := (.iload_n 1)) (0, x1) rfl rfl (fun _ => rfl) rfl rfl (?_ : wpv K_X3_isAhead d P 83 [some (4, (p0 : Int)), some (0, x1), some (0, x2), some (2, (jxor ((V (p0 + 1) x1)) ((V (p0 + 1) x2))))] [(0, x1), (4, ((p0 + 2 : Nat) : Int))] G R V)
      have f8 : i64 (V (p0 + 2) x1) := vr_a1 vr2 (ly3_2 l0).2 s1
      replace w := w f8
      refine wp_aJ rfl rfl (ly3_2 l0).2 s1 (?_ : wpv K_X3_isAhead d P 84 [some (4, (p0 : Int)), some (0, x1), some (0, x2), some (2, (jxor ((V (p0 + 1) x1)) ((V (p0 + 1) x2))))] [(2, (V (p0 + 2) x1))] G R V)
      refine wp_ld (i := (.aload_n 0)) (4, (p0 : Int)) rfl rfl (fun _ => rfl) rfl rfl (?_ : wpv K_X3_isAhead d P 85 [some (4, (p0 : Int)), some (0, x1), some (0, x2), some (2, (jxor ((V (p0 + 1) x1)) ((V (p0 + 1) x2))))] [(4, (p0 : Int)), (2, (V (p0 + 2) x1))] G R V)
      refine wp_getA (k := 2) rfl rfl rfl (ly3_o l0) rfl rfl (ly3_2 l0).1 (?_ : wpv K_X3_isAhead d P 88 [some (4, (p0 : Int)), some (0, x1), some (0, x2), some (2, (jxor ((V (p0 + 1) x1)) ((V (p0 + 1) x2))))] [(4, ((p0 + 2 : Nat) : Int)), (2, (V (p0 + 2) x1))] G R V)
      refine wp_ld (i := (.iload_n 2)) (0, x2) rfl rfl (fun _ => rfl) rfl rfl (?_ : wpv K_X3_isAhead d P 89 [some (4, (p0 : Int)), some (0, x1), some (0, x2), some (2, (jxor ((V (p0 + 1) x1)) ((V (p0 + 1) x2))))] [(0, x2), (4, ((p0 + 2 : Nat) : Int)), (2, (V (p0 + 2) x1))] G R V)
      have f9 : i64 (V (p0 + 2) x2) := vr_a1 vr2 (ly3_2 l0).2 s4
      replace w := w f9
      refine wp_aJ rfl rfl (ly3_2 l0).2 s4 (?_ : wpv K_X3_isAhead d P 90 [some (4, (p0 : Int)), some (0, x1), some (0, x2), some (2, (jxor ((V (p0 + 1) x1)) ((V (p0 + 1) x2))))] [(2, (V (p0 + 2) x2)), (2, (V (p0 + 2) x1))] G R V)
      refine wp_jxor rfl rfl (?_ : wpv K_X3_isAhead d P 91 [some (4, (p0 : Int)), some (0, x1), some (0, x2), some (2, (jxor ((V (p0 + 1) x1)) ((V (p0 + 1) x2))))] [(2, (jxor ((V (p0 + 2) x1)) ((V (p0 + 2) x2))))] G R V)
      refine wp_lsto (i := (.lstore_n 3)) _ rfl rfl (fun _ => rfl) rfl rfl rfl ?_
      refine wp_wk (L' := [some (4, (p0 : Int)), some (0, x1), some (0, x2), some (2, (jxor ((V (p0 + 2) x1)) ((V (p0 + 2) x2))))]) (wk_s (wk_s (wk_s (wk_s wk_0)))) ?_
      show wpv K_X3_isAhead d P 92 [some (4, (p0 : Int)), some (0, x1), some (0, x2), some (2, (jxor ((V (p0 + 2) x1)) ((V (p0 + 2) x2))))] [] G R V
      refine wp_ld (i := (.aload_n 0)) (4, (p0 : Int)) rfl rfl (fun _ => rfl) rfl rfl (?_ : wpv K_X3_isAhead d P 93 [some (4, (p0 : Int)), some (0, x1), some (0, x2), some (2, (jxor ((V (p0 + 2) x1)) ((V (p0 + 2) x2))))] [(4, (p0 : Int))] G R V)
      refine wp_getA (k := 2) rfl rfl rfl (ly3_o l0) rfl rfl (ly3_2 l0).1 (?_ : wpv K_X3_isAhead d P 96 [some (4, (p0 : Int)), some (0, x1), some (0, x2), some (2, (jxor ((V (p0 + 2) x1)) ((V (p0 + 2) x2))))] [(4, ((p0 + 2 : Nat) : Int))] G R V)
      refine wp_ld (i := (.iload_n 1)) (0, x1) rfl rfl (fun _ => rfl) rfl rfl (?_ : wpv K_X3_isAhead d P 97 [some (4, (p0 : Int)), some (0, x1), some (0, x2), some (2, (jxor ((V (p0 + 2) x1)) ((V (p0 + 2) x2))))] [(0, x1), (4, ((p0 + 2 : Nat) : Int))] G R V)
      refine wp_aJ rfl rfl (ly3_2 l0).2 s1 (?_ : wpv K_X3_isAhead d P 98 [some (4, (p0 : Int)), some (0, x1), some (0, x2), some (2, (jxor ((V (p0 + 2) x1)) ((V (p0 + 2) x2))))] [(2, (V (p0 + 2) x1))] G R V)
      refine wp_ld (i := (.lload_n 3)) (2, (jxor ((V (p0 + 2) x1)) ((V (p0 + 2) x2)))) rfl rfl (fun _ => rfl) rfl rfl (?_ : wpv K_X3_isAhead d P 99 [some (4, (p0 : Int)), some (0, x1), some (0, x2), some (2, (jxor ((V (p0 + 2) x1)) ((V (p0 + 2) x2))))] [(2, (jxor ((V (p0 + 2) x1)) ((V (p0 + 2) x2)))), (2, (V (p0 + 2) x1))] G R V)
      refine wp_jand rfl rfl (?_ : wpv K_X3_isAhead d P 100 [some (4, (p0 : Int)), some (0, x1), some (0, x2), some (2, (jxor ((V (p0 + 2) x1)) ((V (p0 + 2) x2))))] [(2, (jand ((V (p0 + 2) x1)) ((jxor ((V (p0 + 2) x1)) ((V (p0 + 2) x2))))))] G R V)
      refine wp_ld (i := (.lload_n 3)) (2, (jxor ((V (p0 + 2) x1)) ((V (p0 + 2) x2)))) rfl rfl (fun _ => rfl) rfl rfl (?_ : wpv K_X3_isAhead d P 101 [some (4, (p0 : Int)), some (0, x1), some (0, x2), some (2, (jxor ((V (p0 + 2) x1)) ((V (p0 + 2) x2))))] [(2, (jxor ((V (p0 + 2) x1)) ((V (p0 + 2) x2)))), (2, (jand ((V (p0 + 2) x1)) ((jxor ((V (p0 + 2) x1)) ((V (p0 + 2) x2))))))] G R V)
      refine wp_jneg rfl rfl (?_ : wpv K_X3_isAhead d P 102 [some (4, (p0 : Int)), some (0, x1), some (0, x2), some (2, (jxor ((V (p0 + 2) x1)) ((V (p0 + 2) x2))))] [(2, (jneg ((jxor ((V (p0 + 2) x1)) ((V (p0 + 2) x2)))))), (2, (jand ((V (p0 + 2) x1)) ((jxor ((V (p0 + 2) x1)) ((V (p0 + 2) x2))))))] G R V)
      refine wp_jand rfl rfl (?_ : wpv K_X3_isAhead d P 103 [some (4, (p0 : Int)), some (0, x1), some (0, x2), some (2, (jxor ((V (p0 + 2) x1)) ((V (p0 + 2) x2))))] [(2, (jand ((jand ((V (p0 + 2) x1)) ((jxor ((V (p0 + 2) x1)) ((V (p0 + 2) x2)))))) ((jneg ((jxor ((V (p0 + 2) x1)) ((V (p0 + 2) x2))))))))] G R V)
      refine wp_p (i := (.lconst 0)) rfl rfl (fun _ _ _ => rfl) (?_ : wpv K_X3_isAhead d P 104 [some (4, (p0 : Int)), some (0, x1), some (0, x2), some (2, (jxor ((V (p0 + 2) x1)) ((V (p0 + 2) x2))))] [(2, 0), (2, (jand ((jand ((V (p0 + 2) x1)) ((jxor ((V (p0 + 2) x1)) ((V (p0 + 2) x2)))))) ((jneg ((jxor ((V (p0 + 2) x1)) ((V (p0 + 2) x2))))))))] G R V)
      refine wp_lcmp rfl rfl (t64 _) ⟨by omega, by omega⟩ (?_ : wpv K_X3_isAhead d P 105 [some (4, (p0 : Int)), some (0, x1), some (0, x2), some (2, (jxor ((V (p0 + 2) x1)) ((V (p0 + 2) x2))))] [(0, sg ((jand ((jand ((V (p0 + 2) x1)) ((jxor ((V (p0 + 2) x1)) ((V (p0 + 2) x2)))))) ((jneg ((jxor ((V (p0 + 2) x1)) ((V (p0 + 2) x2)))))))) 0)] G R V)
      refine wp_if (c := .eq) 112 rfl rfl rfl (sg32 _ _) (fun q => ?_) (fun q => ?_)
      · have q : (jand ((jand ((V (p0 + 2) x1)) ((jxor ((V (p0 + 2) x1)) ((V (p0 + 2) x2)))))) ((jneg ((jxor ((V (p0 + 2) x1)) ((V (p0 + 2) x2))))))) = 0 := sg_eq.mp q
        replace w := w.1 q
        show wpv K_X3_isAhead d P 112 [some (4, (p0 : Int)), some (0, x1), some (0, x2), some (2, (jxor ((V (p0 + 2) x1)) ((V (p0 + 2) x2))))] [] G R V
        refine wp_p (i := (.iconst 0)) rfl rfl (fun _ _ _ => rfl) (?_ : wpv K_X3_isAhead d P 113 [some (4, (p0 : Int)), some (0, x1), some (0, x2), some (2, (jxor ((V (p0 + 2) x1)) ((V (p0 + 2) x2))))] [(0, 0)] G R V)
        exact wp_rB rfl rfl rfl (by omega) w
      · have q : ¬ (jand ((jand ((V (p0 + 2) x1)) ((jxor ((V (p0 + 2) x1)) ((V (p0 + 2) x2)))))) ((jneg ((jxor ((V (p0 + 2) x1)) ((V (p0 + 2) x2))))))) = 0 := fun z => q (sg_eq.mpr z)
        replace w := w.2 q
        show wpv K_X3_isAhead d P 108 [some (4, (p0 : Int)), some (0, x1), some (0, x2), some (2, (jxor ((V (p0 + 2) x1)) ((V (p0 + 2) x2))))] [] G R V
        refine wp_p (i := (.iconst 1)) rfl rfl (fun _ _ _ => rfl) (?_ : wpv K_X3_isAhead d P 109 [some (4, (p0 : Int)), some (0, x1), some (0, x2), some (2, (jxor ((V (p0 + 2) x1)) ((V (p0 + 2) x2))))] [(0, 1)] G R V)
        refine wp_go 113 rfl rfl rfl (?_ : wpv K_X3_isAhead d P 113 [some (4, (p0 : Int)), some (0, x1), some (0, x2), some (2, (jxor ((V (p0 + 2) x1)) ((V (p0 + 2) x2))))] [(0, 1)] G R V)
        exact wp_rB rfl rfl rfl (by omega) w
    · have q : ¬ (jxor ((V (p0 + 1) x1)) ((V (p0 + 1) x2))) = 0 := fun z => q (sg_eq.mpr z)
      replace w := w.2 q
      show wpv K_X3_isAhead d P 56 [some (4, (p0 : Int)), some (0, x1), some (0, x2), some (2, (jxor ((V (p0 + 1) x1)) ((V (p0 + 1) x2))))] [] G R V
      refine wp_ld (i := (.aload_n 0)) (4, (p0 : Int)) rfl rfl (fun _ => rfl) rfl rfl (?_ : wpv K_X3_isAhead d P 57 [some (4, (p0 : Int)), some (0, x1), some (0, x2), some (2, (jxor ((V (p0 + 1) x1)) ((V (p0 + 1) x2))))] [(4, (p0 : Int))] G R V)
      refine wp_getA (k := 1) rfl rfl rfl (ly3_o l0) rfl rfl (ly3_1 l0).1 (?_ : wpv K_X3_isAhead d P 60 [some (4, (p0 : Int)), some (0, x1), some (0, x2), some (2, (jxor ((V (p0 + 1) x1)) ((V (p0 + 1) x2))))] [(4, ((p0 + 1 : Nat) : Int))] G R V)
      refine wp_ld (i := (.iload_n 1)) (0, x1) rfl rfl (fun _ => rfl) rfl rfl (?_ : wpv K_X3_isAhead d P 61 [some (4, (p0 : Int)), some (0, x1), some (0, x2), some (2, (jxor ((V (p0 + 1) x1)) ((V (p0 + 1) x2))))] [(0, x1), (4, ((p0 + 1 : Nat) : Int))] G R V)
      refine wp_aJ rfl rfl (ly3_1 l0).2 s1 (?_ : wpv K_X3_isAhead d P 62 [some (4, (p0 : Int)), some (0, x1), some (0, x2), some (2, (jxor ((V (p0 + 1) x1)) ((V (p0 + 1) x2))))] [(2, (V (p0 + 1) x1))] G R V)
      refine wp_ld (i := (.lload_n 3)) (2, (jxor ((V (p0 + 1) x1)) ((V (p0 + 1) x2)))) rfl rfl (fun _ => rfl) rfl rfl (?_ : wpv K_X3_isAhead d P 63 [some (4, (p0 : Int)), some (0, x1), some (0, x2), some (2, (jxor ((V (p0 + 1) x1)) ((V (p0 + 1) x2))))] [(2, (jxor ((V (p0 + 1) x1)) ((V (p0 + 1) x2)))), (2, (V (p0 + 1) x1))] G R V)
      refine wp_jand rfl rfl (?_ : wpv K_X3_isAhead d P 64 [some (4, (p0 : Int)), some (0, x1), some (0, x2), some (2, (jxor ((V (p0 + 1) x1)) ((V (p0 + 1) x2))))] [(2, (jand ((V (p0 + 1) x1)) ((jxor ((V (p0 + 1) x1)) ((V (p0 + 1) x2))))))] G R V)
      refine wp_ld (i := (.lload_n 3)) (2, (jxor ((V (p0 + 1) x1)) ((V (p0 + 1) x2)))) rfl rfl (fun _ => rfl) rfl rfl (?_ : wpv K_X3_isAhead d P 65 [some (4, (p0 : Int)), some (0, x1), some (0, x2), some (2, (jxor ((V (p0 + 1) x1)) ((V (p0 + 1) x2))))] [(2, (jxor ((V (p0 + 1) x1)) ((V (p0 + 1) x2)))), (2, (jand ((V (p0 + 1) x1)) ((jxor ((V (p0 + 1) x1)) ((V (p0 + 1) x2))))))] G R V)
      refine wp_jneg rfl rfl (?_ : wpv K_X3_isAhead d P 66 [some (4, (p0 : Int)), some (0, x1), some (0, x2), some (2, (jxor ((V (p0 + 1) x1)) ((V (p0 + 1) x2))))] [(2, (jneg ((jxor ((V (p0 + 1) x1)) ((V (p0 + 1) x2)))))), (2, (jand ((V (p0 + 1) x1)) ((jxor ((V (p0 + 1) x1)) ((V (p0 + 1) x2))))))] G R V)
      refine wp_jand rfl rfl (?_ : wpv K_X3_isAhead d P 67 [some (4, (p0 : Int)), some (0, x1), some (0, x2), some (2, (jxor ((V (p0 + 1) x1)) ((V (p0 + 1) x2))))] [(2, (jand ((jand ((V (p0 + 1) x1)) ((jxor ((V (p0 + 1) x1)) ((V (p0 + 1) x2)))))) ((jneg ((jxor ((V (p0 + 1) x1)) ((V (p0 + 1) x2))))))))] G R V)
      refine wp_p (i := (.lconst 0)) rfl rfl (fun _ _ _ => rfl) (?_ : wpv K_X3_isAhead d P 68 [some (4, (p0 : Int)), some (0, x1), some (0, x2), some (2, (jxor ((V (p0 + 1) x1)) ((V (p0 + 1) x2))))] [(2, 0), (2, (jand ((jand ((V (p0 + 1) x1)) ((jxor ((V (p0 + 1) x1)) ((V (p0 + 1) x2)))))) ((jneg ((jxor ((V (p0 + 1) x1)) ((V (p0 + 1) x2))))))))] G R V)
      refine wp_lcmp rfl rfl (t64 _) ⟨by omega, by omega⟩ (?_ : wpv K_X3_isAhead d P 69 [some (4, (p0 : Int)), some (0, x1), some (0, x2), some (2, (jxor ((V (p0 + 1) x1)) ((V (p0 + 1) x2))))] [(0, sg ((jand ((jand ((V (p0 + 1) x1)) ((jxor ((V (p0 + 1) x1)) ((V (p0 + 1) x2)))))) ((jneg ((jxor ((V (p0 + 1) x1)) ((V (p0 + 1) x2)))))))) 0)] G R V)
      refine wp_if (c := .eq) 76 rfl rfl rfl (sg32 _ _) (fun q => ?_) (fun q => ?_)
      · have q : (jand ((jand ((V (p0 + 1) x1)) ((jxor ((V (p0 + 1) x1)) ((V (p0 + 1) x2)))))) ((jneg ((jxor ((V (p0 + 1) x1)) ((V (p0 + 1) x2))))))) = 0 := sg_eq.mp q
        replace w := w.1 q
        show wpv K_X3_isAhead d P 76 [some (4, (p0 : Int)), some (0, x1), some (0, x2), some (2, (jxor ((V (p0 + 1) x1)) ((V (p0 + 1) x2))))] [] G R V
        refine wp_p (i := (.iconst 0)) rfl rfl (fun _ _ _ => rfl) (?_ : wpv K_X3_isAhead d P 77 [some (4, (p0 : Int)), some (0, x1), some (0, x2), some (2, (jxor ((V (p0 + 1) x1)) ((V (p0 + 1) x2))))] [(0, 0)] G R V)
        exact wp_rB rfl rfl rfl (by omega) w
      · have q : ¬ (jand ((jand ((V (p0 + 1) x1)) ((jxor ((V (p0 + 1) x1)) ((V (p0 + 1) x2)))))) ((jneg ((jxor ((V (p0 + 1) x1)) ((V (p0 + 1) x2))))))) = 0 := fun z => q (sg_eq.mpr z)
        replace w := w.2 q
        show wpv K_X3_isAhead d P 72 [some (4, (p0 : Int)), some (0, x1), some (0, x2), some (2, (jxor ((V (p0 + 1) x1)) ((V (p0 + 1) x2))))] [] G R V
        refine wp_p (i := (.iconst 1)) rfl rfl (fun _ _ _ => rfl) (?_ : wpv K_X3_isAhead d P 73 [some (4, (p0 : Int)), some (0, x1), some (0, x2), some (2, (jxor ((V (p0 + 1) x1)) ((V (p0 + 1) x2))))] [(0, 1)] G R V)
        refine wp_go 77 rfl rfl rfl (?_ : wpv K_X3_isAhead d P 77 [some (4, (p0 : Int)), some (0, x1), some (0, x2), some (2, (jxor ((V (p0 + 1) x1)) ((V (p0 + 1) x2))))] [(0, 1)] G R V)
        exact wp_rB rfl rfl rfl (by omega) w
  · have q : ¬ (V (p0 + 3) x1) = (V (p0 + 3) x2) := q
    replace w := w.2 q
    show wpv K_X3_isAhead d P 15 [some (4, (p0 : Int)), some (0, x1), some (0, x2)] [] G R V
    refine wp_ld (i := (.aload_n 0)) (4, (p0 : Int)) rfl rfl (fun _ => rfl) rfl rfl (?_ : wpv K_X3_isAhead d P 16 [some (4, (p0 : Int)), some (0, x1), some (0, x2)] [(4, (p0 : Int))] G R V)
    refine wp_getA (k := 3) rfl rfl rfl (ly3_o l0) rfl rfl (ly3_3 l0).1 (?_ : wpv K_X3_isAhead d P 19 [some (4, (p0 : Int)), some (0, x1), some (0, x2)] [(4, ((p0 + 3 : Nat) : Int))] G R V)
    refine wp_ld (i := (.iload_n 1)) (0, x1) rfl rfl (fun _ => rfl) rfl rfl (?_ : wpv K_X3_isAhead d P 20 [some (4, (p0 : Int)), some (0, x1), some (0, x2)] [(0, x1), (4, ((p0 + 3 : Nat) : Int))] G R V)
    refine wp_aI rfl rfl (ly3_3 l0).2 s1 (?_ : wpv K_X3_isAhead d P 21 [some (4, (p0 : Int)), some (0, x1), some (0, x2)] [(0, (V (p0 + 3) x1))] G R V)
    refine wp_ld (i := (.aload_n 0)) (4, (p0 : Int)) rfl rfl (fun _ => rfl) rfl rfl (?_ : wpv K_X3_isAhead d P 22 [some (4, (p0 : Int)), some (0, x1), some (0, x2)] [(4, (p0 : Int)), (0, (V (p0 + 3) x1))] G R V)
    refine wp_getA (k := 3) rfl rfl rfl (ly3_o l0) rfl rfl (ly3_3 l0).1 (?_ : wpv K_X3_isAhead d P 25 [some (4, (p0 : Int)), some (0, x1), some (0, x2)] [(4, ((p0 + 3 : Nat) : Int)), (0, (V (p0 + 3) x1))] G R V)
    refine wp_ld (i := (.iload_n 2)) (0, x2) rfl rfl (fun _ => rfl) rfl rfl (?_ : wpv K_X3_isAhead d P 26 [some (4, (p0 : Int)), some (0, x1), some (0, x2)] [(0, x2), (4, ((p0 + 3 : Nat) : Int)), (0, (V (p0 + 3) x1))] G R V)
    refine wp_aI rfl rfl (ly3_3 l0).2 s4 (?_ : wpv K_X3_isAhead d P 27 [some (4, (p0 : Int)), some (0, x1), some (0, x2)] [(0, (V (p0 + 3) x2)), (0, (V (p0 + 3) x1))] G R V)
    refine wp_icmp (c := .ge) 34 rfl rfl rfl f3 f5 (fun q => ?_) (fun q => ?_)
    · have q : ¬ (V (p0 + 3) x1) < (V (p0 + 3) x2) := q
      replace w := w.1 q
      show wpv K_X3_isAhead d P 34 [some (4, (p0 : Int)), some (0, x1), some (0, x2)] [] G R V
      refine wp_p (i := (.iconst 0)) rfl rfl (fun _ _ _ => rfl) (?_ : wpv K_X3_isAhead d P 35 [some (4, (p0 : Int)), some (0, x1), some (0, x2)] [(0, 0)] G R V)
      exact wp_rB rfl rfl rfl (by omega) w
    · have q : (V (p0 + 3) x1) < (V (p0 + 3) x2) := Decidable.not_not.mp q
      replace w := w.2 q
      show wpv K_X3_isAhead d P 30 [some (4, (p0 : Int)), some (0, x1), some (0, x2)] [] G R V
      refine wp_p (i := (.iconst 1)) rfl rfl (fun _ _ _ => rfl) (?_ : wpv K_X3_isAhead d P 31 [some (4, (p0 : Int)), some (0, x1), some (0, x2)] [(0, 1)] G R V)
      refine wp_go 35 rfl rfl rfl (?_ : wpv K_X3_isAhead d P 35 [some (4, (p0 : Int)), some (0, x1), some (0, x2)] [(0, 1)] G R V)
      exact wp_rB rfl rfl rfl (by omega) w
theorem t_X3_gatherSeeds_0 {d : Nat} {P : gP} {p0 : Nat} {p1 : Nat} {G : List gS} {R V : gV} (l0 : lay3 G R p0) (l1 : lay6 G R p1) (w : wpv K_X3_gatherSeeds d P 7 [some (4, (p0 : Int)), some (4, (p1 : Int)), some (0, 1)] [] G R (wr V p0 9 0)) : wpv K_X3_gatherSeeds d P 0 [some (4, (p0 : Int)), some (4, (p1 : Int))] [] G R V := by
  refine wp_ld (i := (.aload_n 0)) (4, (p0 : Int)) rfl rfl (fun _ => rfl) rfl rfl (?_ : wpv K_X3_gatherSeeds d P 1 [some (4, (p0 : Int)), some (4, (p1 : Int))] [(4, (p0 : Int))] G R V)
  refine wp_p (i := (.iconst 0)) rfl rfl (fun _ _ _ => rfl) (?_ : wpv K_X3_gatherSeeds d P 2 [some (4, (p0 : Int)), some (4, (p1 : Int))] [(0, 0), (4, (p0 : Int))] G R V)
  refine wp_putI (k := 9) rfl rfl rfl (ly3_o l0) rfl rfl rfl ⟨by omega, by omega⟩ (?_ : wpv K_X3_gatherSeeds d P 5 [some (4, (p0 : Int)), some (4, (p1 : Int))] [] G R (wr V p0 9 0))
  refine wp_p (i := (.iconst 1)) rfl rfl (fun _ _ _ => rfl) (?_ : wpv K_X3_gatherSeeds d P 6 [some (4, (p0 : Int)), some (4, (p1 : Int))] [(0, 1)] G R (wr V p0 9 0))
  refine wp_sto (i := (.istore_n 2)) _ rfl rfl (fun _ => rfl) rfl rfl rfl ?_
  refine wp_wk (L' := [some (4, (p0 : Int)), some (4, (p1 : Int)), some (0, 1)]) (wk_s (wk_s (wk_s wk_0))) ?_
  show wpv K_X3_gatherSeeds d P 7 [some (4, (p0 : Int)), some (4, (p1 : Int)), some (0, 1)] [] G R (wr V p0 9 0)
  exact wp_wk (wk_s (wk_s (wk_s wk_0))) w

theorem t_X3_gatherSeeds_7 {d : Nat} {P : gP} {p0 : Nat} {p1 : Nat} {x2 : Int} {G : List gS} {R V : gV} (l0 : lay3 G R p0) (l1 : lay6 G R p1) (w : ((i32 (V p1 1)) → ((i32 x2) ∧ (((¬ x2 < (V p1 1)) → P none V) ∧ ((x2 < (V p1 1)) → ((0 ≤ x2 ∧ x2 < 120) ∧ ((i32 (V (p1 + 3) x2)) → cwv d (fun r V6 => ∃ v7 : Int, r = some (0, v7) ∧ ((i32 v7) ∧ (((v7 = 0) → ((i32 (x2 + 1)) ∧ wpv K_X3_gatherSeeds d P 7 [some (4, (p0 : Int)), some (4, (p1 : Int)), some (0, (x2 + 1))] [] G R V6)) ∧ ((¬ v7 = 0) → cwv d (fun r V10 => ∃ v11 : Int, r = some (0, v11) ∧ ((i32 v11) ∧ (((v11 = 0) → ((i32 (x2 + 1)) ∧ wpv K_X3_gatherSeeds d P 7 [some (4, (p0 : Int)), some (4, (p1 : Int)), some (0, (x2 + 1))] [] G R V10)) ∧ ((¬ v11 = 0) → ((i32 (V10 p0 9)) → ((0 ≤ (V10 p0 9) ∧ (V10 p0 9) < 120) ∧ ((i32 ((V10 p0 9) + 1)) ∧ ((i32 (x2 + 1)) ∧ wpv K_X3_gatherSeeds d P 7 [some (4, (p0 : Int)), some (4, (p1 : Int)), some (0, (x2 + 1))] [] G R (wr (wr V10 (p0 + 8) ((V10 p0 9)) x2) p0 9 (((V10 p0 9) + 1))))))))))) 42 [(0, x2), (4, (p1 : Int))] G R V6)))) 157 [(0, (V (p1 + 3) x2))] G R V))))))) : wpv K_X3_gatherSeeds d P 7 [some (4, (p0 : Int)), some (4, (p1 : Int)), some (0, x2)] [] G R V := by
  refine wp_ld (i := (.iload_n 2)) (0, x2) rfl rfl (fun _ => rfl) rfl rfl (?_ : wpv K_X3_gatherSeeds d P 8 [some (4, (p0 : Int)), some (4, (p1 : Int)), some (0, x2)] [(0, x2)] G R V)
  refine wp_ld (i := (.aload_n 1)) (4, (p1 : Int)) rfl rfl (fun _ => rfl) rfl rfl (?_ : wpv K_X3_gatherSeeds d P 9 [some (4, (p0 : Int)), some (4, (p1 : Int)), some (0, x2)] [(4, (p1 : Int)), (0, x2)] G R V)
  refine wp_rng (fun vr1 => ?_)
  have f2 : i32 (V p1 1) := vr_f0 vr1 (ly6_o l1) rfl rfl
  replace w := w f2
  refine wp_getI (k := 1) rfl rfl rfl (ly6_o l1) rfl rfl (?_ : wpv K_X3_gatherSeeds d P 12 [some (4, (p0 : Int)), some (4, (p1 : Int)), some (0, x2)] [(0, (V p1 1)), (0, x2)] G R V)
  obtain ⟨s3, w⟩ := w
  refine wp_icmp (c := .ge) 61 rfl rfl rfl s3 f2 (fun q => ?_) (fun q => ?_)
  · have q : ¬ x2 < (V p1 1) := q
    replace w := w.1 q
    show wpv K_X3_gatherSeeds d P 61 [some (4, (p0 : Int)), some (4, (p1 : Int)), some (0, x2)] [] G R V
    exact wp_r0 rfl rfl rfl w
  · have q : x2 < (V p1 1) := Decidable.not_not.mp q
    replace w := w.2 q
    show wpv K_X3_gatherSeeds d P 15 [some (4, (p0 : Int)), some (4, (p1 : Int)), some (0, x2)] [] G R V
    refine wp_ld (i := (.aload_n 1)) (4, (p1 : Int)) rfl rfl (fun _ => rfl) rfl rfl (?_ : wpv K_X3_gatherSeeds d P 16 [some (4, (p0 : Int)), some (4, (p1 : Int)), some (0, x2)] [(4, (p1 : Int))] G R V)
    refine wp_getA (k := 5) rfl rfl rfl (ly6_o l1) rfl rfl (ly6_5 l1).1 (?_ : wpv K_X3_gatherSeeds d P 19 [some (4, (p0 : Int)), some (4, (p1 : Int)), some (0, x2)] [(4, ((p1 + 3 : Nat) : Int))] G R V)
    refine wp_ld (i := (.iload_n 2)) (0, x2) rfl rfl (fun _ => rfl) rfl rfl (?_ : wpv K_X3_gatherSeeds d P 20 [some (4, (p0 : Int)), some (4, (p1 : Int)), some (0, x2)] [(0, x2), (4, ((p1 + 3 : Nat) : Int))] G R V)
    obtain ⟨s4, w⟩ := w
    have f5 : i32 (V (p1 + 3) x2) := vr_a0 vr1 (ly6_5 l1).2 s4
    replace w := w f5
    refine wp_aI rfl rfl (ly6_5 l1).2 s4 (?_ : wpv K_X3_gatherSeeds d P 21 [some (4, (p0 : Int)), some (4, (p1 : Int)), some (0, x2)] [(0, (V (p1 + 3) x2))] G R V)
    refine wp_stat (as := [(0, (V (p1 + 3) x2))]) (st := []) _ rfl rfl rfl (by omega) rfl rfl (Nat.le_of_ble_eq_true rfl) (cwv_kI w (fun v7 V6 w => ?_))
    show wpv K_X3_gatherSeeds d P 24 [some (4, (p0 : Int)), some (4, (p1 : Int)), some (0, x2)] [(0, v7)] G R V6
    obtain ⟨s8, w⟩ := w
    refine wp_if (c := .eq) 55 rfl rfl rfl s8 (fun q => ?_) (fun q => ?_)
    · have q : v7 = 0 := q
      replace w := w.1 q
      show wpv K_X3_gatherSeeds d P 55 [some (4, (p0 : Int)), some (4, (p1 : Int)), some (0, x2)] [] G R V6
      obtain ⟨s9, w⟩ := w
      refine wp_inc (x := 2) (k := 1) (a := x2) (c := (x2 + 1)) _ rfl rfl rfl rfl s9 (by omega) rfl ?_
      show wpv K_X3_gatherSeeds d P 58 [some (4, (p0 : Int)), some (4, (p1 : Int)), some (0, (x2 + 1))] [] G R V6
      refine wp_go 7 rfl rfl rfl (?_ : wpv K_X3_gatherSeeds d P 7 [some (4, (p0 : Int)), some (4, (p1 : Int)), some (0, (x2 + 1))] [] G R V6)
      exact wp_wk (wk_s (wk_s (wk_s wk_0))) w
    · have q : ¬ v7 = 0 := q
      replace w := w.2 q
      show wpv K_X3_gatherSeeds d P 27 [some (4, (p0 : Int)), some (4, (p1 : Int)), some (0, x2)] [] G R V6
      refine wp_ld (i := (.iload_n 2)) (0, x2) rfl rfl (fun _ => rfl) rfl rfl (?_ : wpv K_X3_gatherSeeds d P 28 [some (4, (p0 : Int)), some (4, (p1 : Int)), some (0, x2)] [(0, x2)] G R V6)
      refine wp_ld (i := (.aload_n 1)) (4, (p1 : Int)) rfl rfl (fun _ => rfl) rfl rfl (?_ : wpv K_X3_gatherSeeds d P 29 [some (4, (p0 : Int)), some (4, (p1 : Int)), some (0, x2)] [(4, (p1 : Int)), (0, x2)] G R V6)
      refine wp_stat (as := [(0, x2), (4, (p1 : Int))]) (st := []) _ rfl rfl rfl (by omega) rfl rfl (Nat.le_of_ble_eq_true rfl) (cwv_kI w (fun v11 V10 w => ?_))
      show wpv K_X3_gatherSeeds d P 32 [some (4, (p0 : Int)), some (4, (p1 : Int)), some (0, x2)] [(0, v11)] G R V10
      obtain ⟨s12, w⟩ := w
      refine wp_if (c := .eq) 55 rfl rfl rfl s12 (fun q => ?_) (fun q => ?_)
      · have q : v11 = 0 := q
        replace w := w.1 q
        show wpv K_X3_gatherSeeds d P 55 [some (4, (p0 : Int)), some (4, (p1 : Int)), some (0, x2)] [] G R V10
        obtain ⟨s13, w⟩ := w
        refine wp_inc (x := 2) (k := 1) (a := x2) (c := (x2 + 1)) _ rfl rfl rfl rfl s13 (by omega) rfl ?_
        show wpv K_X3_gatherSeeds d P 58 [some (4, (p0 : Int)), some (4, (p1 : Int)), some (0, (x2 + 1))] [] G R V10
        refine wp_go 7 rfl rfl rfl (?_ : wpv K_X3_gatherSeeds d P 7 [some (4, (p0 : Int)), some (4, (p1 : Int)), some (0, (x2 + 1))] [] G R V10)
        exact wp_wk (wk_s (wk_s (wk_s wk_0))) w
      · have q : ¬ v11 = 0 := q
        replace w := w.2 q
        show wpv K_X3_gatherSeeds d P 35 [some (4, (p0 : Int)), some (4, (p1 : Int)), some (0, x2)] [] G R V10
        refine wp_ld (i := (.aload_n 0)) (4, (p0 : Int)) rfl rfl (fun _ => rfl) rfl rfl (?_ : wpv K_X3_gatherSeeds d P 36 [some (4, (p0 : Int)), some (4, (p1 : Int)), some (0, x2)] [(4, (p0 : Int))] G R V10)
        refine wp_getA (k := 10) rfl rfl rfl (ly3_o l0) rfl rfl (ly3_10 l0).1 (?_ : wpv K_X3_gatherSeeds d P 39 [some (4, (p0 : Int)), some (4, (p1 : Int)), some (0, x2)] [(4, ((p0 + 8 : Nat) : Int))] G R V10)
        refine wp_ld (i := (.aload_n 0)) (4, (p0 : Int)) rfl rfl (fun _ => rfl) rfl rfl (?_ : wpv K_X3_gatherSeeds d P 40 [some (4, (p0 : Int)), some (4, (p1 : Int)), some (0, x2)] [(4, (p0 : Int)), (4, ((p0 + 8 : Nat) : Int))] G R V10)
        refine wp_rng (fun vr14 => ?_)
        have f15 : i32 (V10 p0 9) := vr_f0 vr14 (ly3_o l0) rfl rfl
        replace w := w f15
        refine wp_getI (k := 9) rfl rfl rfl (ly3_o l0) rfl rfl (?_ : wpv K_X3_gatherSeeds d P 43 [some (4, (p0 : Int)), some (4, (p1 : Int)), some (0, x2)] [(0, (V10 p0 9)), (4, ((p0 + 8 : Nat) : Int))] G R V10)
        refine wp_ld (i := (.iload_n 2)) (0, x2) rfl rfl (fun _ => rfl) rfl rfl (?_ : wpv K_X3_gatherSeeds d P 44 [some (4, (p0 : Int)), some (4, (p1 : Int)), some (0, x2)] [(0, x2), (0, (V10 p0 9)), (4, ((p0 + 8 : Nat) : Int))] G R V10)
        obtain ⟨s16, w⟩ := w
        refine wp_sI rfl rfl (ly3_10 l0).2 s16 s3 (?_ : wpv K_X3_gatherSeeds d P 45 [some (4, (p0 : Int)), some (4, (p1 : Int)), some (0, x2)] [] G R (wr V10 (p0 + 8) ((V10 p0 9)) x2))
        refine wp_ld (i := (.aload_n 0)) (4, (p0 : Int)) rfl rfl (fun _ => rfl) rfl rfl (?_ : wpv K_X3_gatherSeeds d P 46 [some (4, (p0 : Int)), some (4, (p1 : Int)), some (0, x2)] [(4, (p0 : Int))] G R (wr V10 (p0 + 8) ((V10 p0 9)) x2))
        refine wp_p (i := .dup) rfl rfl (fun _ _ _ => rfl) (?_ : wpv K_X3_gatherSeeds d P 47 [some (4, (p0 : Int)), some (4, (p1 : Int)), some (0, x2)] [(4, (p0 : Int)), (4, (p0 : Int))] G R (wr V10 (p0 + 8) ((V10 p0 9)) x2))
        refine wp_rng (fun vr17 => ?_)
        have r18 : ((wr V10 (p0 + 8) ((V10 p0 9)) x2) p0 9) = (V10 p0 9) := (wr_a (by omega))
        refine wp_getIe (k := 9) rfl rfl rfl (ly3_o l0) rfl rfl r18 (?_ : wpv K_X3_gatherSeeds d P 50 [some (4, (p0 : Int)), some (4, (p1 : Int)), some (0, x2)] [(0, (V10 p0 9)), (4, (p0 : Int))] G R (wr V10 (p0 + 8) ((V10 p0 9)) x2))
        refine wp_p (i := (.iconst 1)) rfl rfl (fun _ _ _ => rfl) (?_ : wpv K_X3_gatherSeeds d P 51 [some (4, (p0 : Int)), some (4, (p1 : Int)), some (0, x2)] [(0, 1), (0, (V10 p0 9)), (4, (p0 : Int))] G R (wr V10 (p0 + 8) ((V10 p0 9)) x2))
        obtain ⟨s19, w⟩ := w
        refine wp_xadd rfl rfl s19 (?_ : wpv K_X3_gatherSeeds d P 52 [some (4, (p0 : Int)), some (4, (p1 : Int)), some (0, x2)] [(0, ((V10 p0 9) + 1)), (4, (p0 : Int))] G R (wr V10 (p0 + 8) ((V10 p0 9)) x2))
        refine wp_putI (k := 9) rfl rfl rfl (ly3_o l0) rfl rfl rfl s19 (?_ : wpv K_X3_gatherSeeds d P 55 [some (4, (p0 : Int)), some (4, (p1 : Int)), some (0, x2)] [] G R (wr (wr V10 (p0 + 8) ((V10 p0 9)) x2) p0 9 (((V10 p0 9) + 1))))
        obtain ⟨s20, w⟩ := w
        refine wp_inc (x := 2) (k := 1) (a := x2) (c := (x2 + 1)) _ rfl rfl rfl rfl s20 (by omega) rfl ?_
        show wpv K_X3_gatherSeeds d P 58 [some (4, (p0 : Int)), some (4, (p1 : Int)), some (0, (x2 + 1))] [] G R (wr (wr V10 (p0 + 8) ((V10 p0 9)) x2) p0 9 (((V10 p0 9) + 1)))
        refine wp_go 7 rfl rfl rfl (?_ : wpv K_X3_gatherSeeds d P 7 [some (4, (p0 : Int)), some (4, (p1 : Int)), some (0, (x2 + 1))] [] G R (wr (wr V10 (p0 + 8) ((V10 p0 9)) x2) p0 9 (((V10 p0 9) + 1))))
        exact wp_wk (wk_s (wk_s (wk_s wk_0))) w
theorem t_X3_isFirstOfItsHeap_0 {d : Nat} {P : gP} {x0 : Int} {p1 : Nat} {G : List gS} {R V : gV} (l1 : lay6 G R p1) (w : wpv K_X3_isFirstOfItsHeap d P 4 [some (0, x0), some (4, (p1 : Int)), some (0, x0), some (0, 1)] [] G R V) : wpv K_X3_isFirstOfItsHeap d P 0 [some (0, x0), some (4, (p1 : Int))] [] G R V := by
  refine wp_ld (i := (.iload_n 0)) (0, x0) rfl rfl (fun _ => rfl) rfl rfl (?_ : wpv K_X3_isFirstOfItsHeap d P 1 [some (0, x0), some (4, (p1 : Int))] [(0, x0)] G R V)
  refine wp_sto (i := (.istore_n 2)) _ rfl rfl (fun _ => rfl) rfl rfl rfl ?_
  refine wp_wk (L' := [some (0, x0), some (4, (p1 : Int)), some (0, x0)]) (wk_s (wk_s (wk_s wk_0))) ?_
  show wpv K_X3_isFirstOfItsHeap d P 2 [some (0, x0), some (4, (p1 : Int)), some (0, x0)] [] G R V
  refine wp_p (i := (.iconst 1)) rfl rfl (fun _ _ _ => rfl) (?_ : wpv K_X3_isFirstOfItsHeap d P 3 [some (0, x0), some (4, (p1 : Int)), some (0, x0)] [(0, 1)] G R V)
  refine wp_sto (i := (.istore_n 3)) _ rfl rfl (fun _ => rfl) rfl rfl rfl ?_
  refine wp_wk (L' := [some (0, x0), some (4, (p1 : Int)), some (0, x0), some (0, 1)]) (wk_s (wk_s (wk_s (wk_s wk_0)))) ?_
  show wpv K_X3_isFirstOfItsHeap d P 4 [some (0, x0), some (4, (p1 : Int)), some (0, x0), some (0, 1)] [] G R V
  exact wp_wk (wk_s (wk_s (wk_s (wk_s wk_0)))) w

theorem t_X3_isFirstOfItsHeap_4 {d : Nat} {P : gP} {x0 : Int} {p1 : Nat} {x2 : Int} {x3 : Int} {G : List gS} {R V : gV} (l1 : lay6 G R p1) (w : ((0 ≤ x0 ∧ x0 < 120) ∧ ((i32 (V (p1 + 3) x0)) → ((i32 x3) ∧ (((¬ x3 < (V (p1 + 3) x0)) → P (some (0, 1)) V) ∧ ((x3 < (V (p1 + 3) x0)) → ((i32 x2) ∧ ((i32 x0) ∧ (((¬ x2 < x0) → cwv d (fun r V7 => ∃ v8 : Int, r = some (0, v8) ∧ ((i32 (x3 + 1)) ∧ wpv K_X3_isFirstOfItsHeap d P 4 [some (0, x0), some (4, (p1 : Int)), some (0, v8), some (0, (x3 + 1))] [] G R V7)) 89 [(4, (p1 : Int)), (0, x2), (0, x0)] G R V) ∧ ((x2 < x0) → ((0 ≤ x2 ∧ x2 < 120) ∧ ((i32 (V (p1 + 3) x2)) → (((¬ (V (p1 + 3) x2) = (V (p1 + 3) x0)) → cwv d (fun r V12 => ∃ v13 : Int, r = some (0, v13) ∧ ((i32 (x3 + 1)) ∧ wpv K_X3_isFirstOfItsHeap d P 4 [some (0, x0), some (4, (p1 : Int)), some (0, v13), some (0, (x3 + 1))] [] G R V12)) 89 [(4, (p1 : Int)), (0, x2), (0, x0)] G R V) ∧ (((V (p1 + 3) x2) = (V (p1 + 3) x0)) → P (some (0, 0)) V)))))))))))))) : wpv K_X3_isFirstOfItsHeap d P 4 [some (0, x0), some (4, (p1 : Int)), some (0, x2), some (0, x3)] [] G R V := by
  refine wp_ld (i := (.iload_n 3)) (0, x3) rfl rfl (fun _ => rfl) rfl rfl (?_ : wpv K_X3_isFirstOfItsHeap d P 5 [some (0, x0), some (4, (p1 : Int)), some (0, x2), some (0, x3)] [(0, x3)] G R V)
  refine wp_ld (i := (.aload_n 1)) (4, (p1 : Int)) rfl rfl (fun _ => rfl) rfl rfl (?_ : wpv K_X3_isFirstOfItsHeap d P 6 [some (0, x0), some (4, (p1 : Int)), some (0, x2), some (0, x3)] [(4, (p1 : Int)), (0, x3)] G R V)
  refine wp_getA (k := 5) rfl rfl rfl (ly6_o l1) rfl rfl (ly6_5 l1).1 (?_ : wpv K_X3_isFirstOfItsHeap d P 9 [some (0, x0), some (4, (p1 : Int)), some (0, x2), some (0, x3)] [(4, ((p1 + 3 : Nat) : Int)), (0, x3)] G R V)
  refine wp_ld (i := (.iload_n 0)) (0, x0) rfl rfl (fun _ => rfl) rfl rfl (?_ : wpv K_X3_isFirstOfItsHeap d P 10 [some (0, x0), some (4, (p1 : Int)), some (0, x2), some (0, x3)] [(0, x0), (4, ((p1 + 3 : Nat) : Int)), (0, x3)] G R V)
  obtain ⟨s1, w⟩ := w
  refine wp_rng (fun vr2 => ?_)
  have f3 : i32 (V (p1 + 3) x0) := vr_a0 vr2 (ly6_5 l1).2 s1
  replace w := w f3
  refine wp_aI rfl rfl (ly6_5 l1).2 s1 (?_ : wpv K_X3_isFirstOfItsHeap d P 11 [some (0, x0), some (4, (p1 : Int)), some (0, x2), some (0, x3)] [(0, (V (p1 + 3) x0)), (0, x3)] G R V)
  obtain ⟨s4, w⟩ := w
  refine wp_icmp (c := .ge) 49 rfl rfl rfl s4 f3 (fun q => ?_) (fun q => ?_)
  · have q : ¬ x3 < (V (p1 + 3) x0) := q
    replace w := w.1 q
    show wpv K_X3_isFirstOfItsHeap d P 49 [some (0, x0), some (4, (p1 : Int)), some (0, x2), some (0, x3)] [] G R V
    refine wp_p (i := (.iconst 1)) rfl rfl (fun _ _ _ => rfl) (?_ : wpv K_X3_isFirstOfItsHeap d P 50 [some (0, x0), some (4, (p1 : Int)), some (0, x2), some (0, x3)] [(0, 1)] G R V)
    exact wp_rB rfl rfl rfl (by omega) w
  · have q : x3 < (V (p1 + 3) x0) := Decidable.not_not.mp q
    replace w := w.2 q
    show wpv K_X3_isFirstOfItsHeap d P 14 [some (0, x0), some (4, (p1 : Int)), some (0, x2), some (0, x3)] [] G R V
    refine wp_ld (i := (.iload_n 2)) (0, x2) rfl rfl (fun _ => rfl) rfl rfl (?_ : wpv K_X3_isFirstOfItsHeap d P 15 [some (0, x0), some (4, (p1 : Int)), some (0, x2), some (0, x3)] [(0, x2)] G R V)
    refine wp_ld (i := (.iload_n 0)) (0, x0) rfl rfl (fun _ => rfl) rfl rfl (?_ : wpv K_X3_isFirstOfItsHeap d P 16 [some (0, x0), some (4, (p1 : Int)), some (0, x2), some (0, x3)] [(0, x0), (0, x2)] G R V)
    obtain ⟨s5, w⟩ := w
    obtain ⟨s6, w⟩ := w
    refine wp_icmp (c := .ge) 36 rfl rfl rfl s5 s6 (fun q => ?_) (fun q => ?_)
    · have q : ¬ x2 < x0 := q
      replace w := w.1 q
      show wpv K_X3_isFirstOfItsHeap d P 36 [some (0, x0), some (4, (p1 : Int)), some (0, x2), some (0, x3)] [] G R V
      refine wp_ld (i := (.aload_n 1)) (4, (p1 : Int)) rfl rfl (fun _ => rfl) rfl rfl (?_ : wpv K_X3_isFirstOfItsHeap d P 37 [some (0, x0), some (4, (p1 : Int)), some (0, x2), some (0, x3)] [(4, (p1 : Int))] G R V)
      refine wp_ld (i := (.iload_n 2)) (0, x2) rfl rfl (fun _ => rfl) rfl rfl (?_ : wpv K_X3_isFirstOfItsHeap d P 38 [some (0, x0), some (4, (p1 : Int)), some (0, x2), some (0, x3)] [(0, x2), (4, (p1 : Int))] G R V)
      refine wp_ld (i := (.iload_n 0)) (0, x0) rfl rfl (fun _ => rfl) rfl rfl (?_ : wpv K_X3_isFirstOfItsHeap d P 39 [some (0, x0), some (4, (p1 : Int)), some (0, x2), some (0, x3)] [(0, x0), (0, x2), (4, (p1 : Int))] G R V)
      refine wp_virt (as := [(0, x2), (0, x0)]) (a := p1) (st := []) _ rfl rfl rfl rfl rfl rfl (ly6_o l1) (Nat.le_of_ble_eq_true rfl) (cwv_kI w (fun v8 V7 w => ?_))
      show wpv K_X3_isFirstOfItsHeap d P 42 [some (0, x0), some (4, (p1 : Int)), some (0, x2), some (0, x3)] [(0, v8)] G R V7
      refine wp_sto (i := (.istore_n 2)) _ rfl rfl (fun _ => rfl) rfl rfl rfl ?_
      refine wp_wk (L' := [some (0, x0), some (4, (p1 : Int)), some (0, v8), some (0, x3)]) (wk_s (wk_s (wk_s (wk_s wk_0)))) ?_
      show wpv K_X3_isFirstOfItsHeap d P 43 [some (0, x0), some (4, (p1 : Int)), some (0, v8), some (0, x3)] [] G R V7
      obtain ⟨s9, w⟩ := w
      refine wp_inc (x := 3) (k := 1) (a := x3) (c := (x3 + 1)) _ rfl rfl rfl rfl s9 (by omega) rfl ?_
      show wpv K_X3_isFirstOfItsHeap d P 46 [some (0, x0), some (4, (p1 : Int)), some (0, v8), some (0, (x3 + 1))] [] G R V7
      refine wp_go 4 rfl rfl rfl (?_ : wpv K_X3_isFirstOfItsHeap d P 4 [some (0, x0), some (4, (p1 : Int)), some (0, v8), some (0, (x3 + 1))] [] G R V7)
      exact wp_wk (wk_s (wk_s (wk_s (wk_s wk_0)))) w
    · have q : x2 < x0 := Decidable.not_not.mp q
      replace w := w.2 q
      show wpv K_X3_isFirstOfItsHeap d P 19 [some (0, x0), some (4, (p1 : Int)), some (0, x2), some (0, x3)] [] G R V
      refine wp_ld (i := (.aload_n 1)) (4, (p1 : Int)) rfl rfl (fun _ => rfl) rfl rfl (?_ : wpv K_X3_isFirstOfItsHeap d P 20 [some (0, x0), some (4, (p1 : Int)), some (0, x2), some (0, x3)] [(4, (p1 : Int))] G R V)
      refine wp_getA (k := 5) rfl rfl rfl (ly6_o l1) rfl rfl (ly6_5 l1).1 (?_ : wpv K_X3_isFirstOfItsHeap d P 23 [some (0, x0), some (4, (p1 : Int)), some (0, x2), some (0, x3)] [(4, ((p1 + 3 : Nat) : Int))] G R V)
      refine wp_ld (i := (.iload_n 2)) (0, x2) rfl rfl (fun _ => rfl) rfl rfl (?_ : wpv K_X3_isFirstOfItsHeap d P 24 [some (0, x0), some (4, (p1 : Int)), some (0, x2), some (0, x3)] [(0, x2), (4, ((p1 + 3 : Nat) : Int))] G R V)
      obtain ⟨s10, w⟩ := w
      have f11 : i32 (V (p1 + 3) x2) := vr_a0 vr2 (ly6_5 l1).2 s10
      replace w := w f11
      refine wp_aI rfl rfl (ly6_5 l1).2 s10 (?_ : wpv K_X3_isFirstOfItsHeap d P 25 [some (0, x0), some (4, (p1 : Int)), some (0, x2), some (0, x3)] [(0, (V (p1 + 3) x2))] G R V)
      refine wp_ld (i := (.aload_n 1)) (4, (p1 : Int)) rfl rfl (fun _ => rfl) rfl rfl (?_ : wpv K_X3_isFirstOfItsHeap d P 26 [some (0, x0), some (4, (p1 : Int)), some (0, x2), some (0, x3)] [(4, (p1 : Int)), (0, (V (p1 + 3) x2))] G R V)
      refine wp_getA (k := 5) rfl rfl rfl (ly6_o l1) rfl rfl (ly6_5 l1).1 (?_ : wpv K_X3_isFirstOfItsHeap d P 29 [some (0, x0), some (4, (p1 : Int)), some (0, x2), some (0, x3)] [(4, ((p1 + 3 : Nat) : Int)), (0, (V (p1 + 3) x2))] G R V)
      refine wp_ld (i := (.iload_n 0)) (0, x0) rfl rfl (fun _ => rfl) rfl rfl (?_ : wpv K_X3_isFirstOfItsHeap d P 30 [some (0, x0), some (4, (p1 : Int)), some (0, x2), some (0, x3)] [(0, x0), (4, ((p1 + 3 : Nat) : Int)), (0, (V (p1 + 3) x2))] G R V)
      refine wp_aI rfl rfl (ly6_5 l1).2 s1 (?_ : wpv K_X3_isFirstOfItsHeap d P 31 [some (0, x0), some (4, (p1 : Int)), some (0, x2), some (0, x3)] [(0, (V (p1 + 3) x0)), (0, (V (p1 + 3) x2))] G R V)
      refine wp_icmp (c := .ne) 36 rfl rfl rfl f11 f3 (fun q => ?_) (fun q => ?_)
      · have q : ¬ (V (p1 + 3) x2) = (V (p1 + 3) x0) := q
        replace w := w.1 q
        show wpv K_X3_isFirstOfItsHeap d P 36 [some (0, x0), some (4, (p1 : Int)), some (0, x2), some (0, x3)] [] G R V
        refine wp_ld (i := (.aload_n 1)) (4, (p1 : Int)) rfl rfl (fun _ => rfl) rfl rfl (?_ : wpv K_X3_isFirstOfItsHeap d P 37 [some (0, x0), some (4, (p1 : Int)), some (0, x2), some (0, x3)] [(4, (p1 : Int))] G R V)
        refine wp_ld (i := (.iload_n 2)) (0, x2) rfl rfl (fun _ => rfl) rfl rfl (?_ : wpv K_X3_isFirstOfItsHeap d P 38 [some (0, x0), some (4, (p1 : Int)), some (0, x2), some (0, x3)] [(0, x2), (4, (p1 : Int))] G R V)
        refine wp_ld (i := (.iload_n 0)) (0, x0) rfl rfl (fun _ => rfl) rfl rfl (?_ : wpv K_X3_isFirstOfItsHeap d P 39 [some (0, x0), some (4, (p1 : Int)), some (0, x2), some (0, x3)] [(0, x0), (0, x2), (4, (p1 : Int))] G R V)
        refine wp_virt (as := [(0, x2), (0, x0)]) (a := p1) (st := []) _ rfl rfl rfl rfl rfl rfl (ly6_o l1) (Nat.le_of_ble_eq_true rfl) (cwv_kI w (fun v13 V12 w => ?_))
        show wpv K_X3_isFirstOfItsHeap d P 42 [some (0, x0), some (4, (p1 : Int)), some (0, x2), some (0, x3)] [(0, v13)] G R V12
        refine wp_sto (i := (.istore_n 2)) _ rfl rfl (fun _ => rfl) rfl rfl rfl ?_
        refine wp_wk (L' := [some (0, x0), some (4, (p1 : Int)), some (0, v13), some (0, x3)]) (wk_s (wk_s (wk_s (wk_s wk_0)))) ?_
        show wpv K_X3_isFirstOfItsHeap d P 43 [some (0, x0), some (4, (p1 : Int)), some (0, v13), some (0, x3)] [] G R V12
        obtain ⟨s14, w⟩ := w
        refine wp_inc (x := 3) (k := 1) (a := x3) (c := (x3 + 1)) _ rfl rfl rfl rfl s14 (by omega) rfl ?_
        show wpv K_X3_isFirstOfItsHeap d P 46 [some (0, x0), some (4, (p1 : Int)), some (0, v13), some (0, (x3 + 1))] [] G R V12
        refine wp_go 4 rfl rfl rfl (?_ : wpv K_X3_isFirstOfItsHeap d P 4 [some (0, x0), some (4, (p1 : Int)), some (0, v13), some (0, (x3 + 1))] [] G R V12)
        exact wp_wk (wk_s (wk_s (wk_s (wk_s wk_0)))) w
      · have q : (V (p1 + 3) x2) = (V (p1 + 3) x0) := Decidable.not_not.mp q
        replace w := w.2 q
        show wpv K_X3_isFirstOfItsHeap d P 34 [some (0, x0), some (4, (p1 : Int)), some (0, x2), some (0, x3)] [] G R V
        refine wp_p (i := (.iconst 0)) rfl rfl (fun _ _ _ => rfl) (?_ : wpv K_X3_isFirstOfItsHeap d P 35 [some (0, x0), some (4, (p1 : Int)), some (0, x2), some (0, x3)] [(0, 0)] G R V)
        exact wp_rB rfl rfl rfl (by omega) w
theorem t_X3_fillLed_0 {d : Nat} {P : gP} {p0 : Nat} {p1 : Nat} {G : List gS} {R V : gV} (l0 : lay3 G R p0) (l1 : lay6 G R p1) (w : wpv K_X3_fillLed d P 2 [some (4, (p0 : Int)), some (4, (p1 : Int)), some (0, 0)] [] G R V) : wpv K_X3_fillLed d P 0 [some (4, (p0 : Int)), some (4, (p1 : Int))] [] G R V := by
  refine wp_p (i := (.iconst 0)) rfl rfl (fun _ _ _ => rfl) (?_ : wpv K_X3_fillLed d P 1 [some (4, (p0 : Int)), some (4, (p1 : Int))] [(0, 0)] G R V)
  refine wp_sto (i := (.istore_n 2)) _ rfl rfl (fun _ => rfl) rfl rfl rfl ?_
  refine wp_wk (L' := [some (4, (p0 : Int)), some (4, (p1 : Int)), some (0, 0)]) (wk_s (wk_s (wk_s wk_0))) ?_
  show wpv K_X3_fillLed d P 2 [some (4, (p0 : Int)), some (4, (p1 : Int)), some (0, 0)] [] G R V
  exact wp_wk (wk_s (wk_s (wk_s wk_0))) w

theorem t_X3_fillLed_2 {d : Nat} {P : gP} {p0 : Nat} {p1 : Nat} {x2 : Int} {G : List gS} {R V : gV} (l0 : lay3 G R p0) (l1 : lay6 G R p1) (w : ((i32 (V p1 2)) → ((i32 x2) ∧ (((¬ x2 < (V p1 2)) → P none V) ∧ ((x2 < (V p1 2)) → ((i32 (x2 * 120)) ∧ ((0 ≤ (x2 * 120) ∧ (x2 * 120) < 480) ∧ ((i32 (V (p1 + 4) ((x2 * 120)))) → wpv K_X3_fillLed d P 23 [some (4, (p0 : Int)), some (4, (p1 : Int)), some (0, x2), some (0, (V (p1 + 4) ((x2 * 120)))), some (0, 0)] [] G R V)))))))) : wpv K_X3_fillLed d P 2 [some (4, (p0 : Int)), some (4, (p1 : Int)), some (0, x2)] [] G R V := by
  refine wp_ld (i := (.iload_n 2)) (0, x2) rfl rfl (fun _ => rfl) rfl rfl (?_ : wpv K_X3_fillLed d P 3 [some (4, (p0 : Int)), some (4, (p1 : Int)), some (0, x2)] [(0, x2)] G R V)
  refine wp_ld (i := (.aload_n 1)) (4, (p1 : Int)) rfl rfl (fun _ => rfl) rfl rfl (?_ : wpv K_X3_fillLed d P 4 [some (4, (p0 : Int)), some (4, (p1 : Int)), some (0, x2)] [(4, (p1 : Int)), (0, x2)] G R V)
  refine wp_rng (fun vr1 => ?_)
  have f2 : i32 (V p1 2) := vr_f0 vr1 (ly6_o l1) rfl rfl
  replace w := w f2
  refine wp_getI (k := 2) rfl rfl rfl (ly6_o l1) rfl rfl (?_ : wpv K_X3_fillLed d P 7 [some (4, (p0 : Int)), some (4, (p1 : Int)), some (0, x2)] [(0, (V p1 2)), (0, x2)] G R V)
  obtain ⟨s3, w⟩ := w
  refine wp_icmp (c := .ge) 63 rfl rfl rfl s3 f2 (fun q => ?_) (fun q => ?_)
  · have q : ¬ x2 < (V p1 2) := q
    replace w := w.1 q
    show wpv K_X3_fillLed d P 63 [some (4, (p0 : Int)), some (4, (p1 : Int)), some (0, x2)] [] G R V
    exact wp_r0 rfl rfl rfl w
  · have q : x2 < (V p1 2) := Decidable.not_not.mp q
    replace w := w.2 q
    show wpv K_X3_fillLed d P 10 [some (4, (p0 : Int)), some (4, (p1 : Int)), some (0, x2)] [] G R V
    refine wp_ld (i := (.aload_n 1)) (4, (p1 : Int)) rfl rfl (fun _ => rfl) rfl rfl (?_ : wpv K_X3_fillLed d P 11 [some (4, (p0 : Int)), some (4, (p1 : Int)), some (0, x2)] [(4, (p1 : Int))] G R V)
    refine wp_getA (k := 6) rfl rfl rfl (ly6_o l1) rfl rfl (ly6_6 l1).1 (?_ : wpv K_X3_fillLed d P 14 [some (4, (p0 : Int)), some (4, (p1 : Int)), some (0, x2)] [(4, ((p1 + 4 : Nat) : Int))] G R V)
    refine wp_ld (i := (.iload_n 2)) (0, x2) rfl rfl (fun _ => rfl) rfl rfl (?_ : wpv K_X3_fillLed d P 15 [some (4, (p0 : Int)), some (4, (p1 : Int)), some (0, x2)] [(0, x2), (4, ((p1 + 4 : Nat) : Int))] G R V)
    refine wp_p (i := (.bipush 120)) rfl rfl (fun _ _ _ => rfl) (?_ : wpv K_X3_fillLed d P 17 [some (4, (p0 : Int)), some (4, (p1 : Int)), some (0, x2)] [(0, 120), (0, x2), (4, ((p1 + 4 : Nat) : Int))] G R V)
    obtain ⟨s4, w⟩ := w
    refine wp_xmul rfl rfl s4 (?_ : wpv K_X3_fillLed d P 18 [some (4, (p0 : Int)), some (4, (p1 : Int)), some (0, x2)] [(0, (x2 * 120)), (4, ((p1 + 4 : Nat) : Int))] G R V)
    obtain ⟨s5, w⟩ := w
    have f6 : i32 (V (p1 + 4) ((x2 * 120))) := vr_a0 vr1 (ly6_6 l1).2 s5
    replace w := w f6
    refine wp_aI rfl rfl (ly6_6 l1).2 s5 (?_ : wpv K_X3_fillLed d P 19 [some (4, (p0 : Int)), some (4, (p1 : Int)), some (0, x2)] [(0, (V (p1 + 4) ((x2 * 120))))] G R V)
    refine wp_sto (i := (.istore_n 3)) _ rfl rfl (fun _ => rfl) rfl rfl rfl ?_
    refine wp_wk (L' := [some (4, (p0 : Int)), some (4, (p1 : Int)), some (0, x2), some (0, (V (p1 + 4) ((x2 * 120))))]) (wk_s (wk_s (wk_s (wk_s wk_0)))) ?_
    show wpv K_X3_fillLed d P 20 [some (4, (p0 : Int)), some (4, (p1 : Int)), some (0, x2), some (0, (V (p1 + 4) ((x2 * 120))))] [] G R V
    refine wp_p (i := (.iconst 0)) rfl rfl (fun _ _ _ => rfl) (?_ : wpv K_X3_fillLed d P 21 [some (4, (p0 : Int)), some (4, (p1 : Int)), some (0, x2), some (0, (V (p1 + 4) ((x2 * 120))))] [(0, 0)] G R V)
    refine wp_sto (i := (.istore 4)) _ rfl rfl (fun _ => rfl) rfl rfl rfl ?_
    refine wp_wk (L' := [some (4, (p0 : Int)), some (4, (p1 : Int)), some (0, x2), some (0, (V (p1 + 4) ((x2 * 120)))), some (0, 0)]) (wk_s (wk_s (wk_s (wk_s (wk_s wk_0))))) ?_
    show wpv K_X3_fillLed d P 23 [some (4, (p0 : Int)), some (4, (p1 : Int)), some (0, x2), some (0, (V (p1 + 4) ((x2 * 120)))), some (0, 0)] [] G R V
    exact wp_wk (wk_s (wk_s (wk_s (wk_s (wk_s wk_0))))) w

theorem t_X3_fillLed_23 {d : Nat} {P : gP} {p0 : Nat} {p1 : Nat} {x2 : Int} {x3 : Int} {x4 : Int} {G : List gS} {R V : gV} (l0 : lay3 G R p0) (l1 : lay6 G R p1) (w : ((i32 (V p1 1)) → ((i32 x4) ∧ (((¬ x4 < (V p1 1)) → ((i32 (x2 + 1)) ∧ wpv K_X3_fillLed d P 2 [some (4, (p0 : Int)), some (4, (p1 : Int)), some (0, (x2 + 1))] [] G R V)) ∧ ((x4 < (V p1 1)) → ((i32 (x2 * 120)) ∧ ((i32 ((x2 * 120) + x4)) ∧ cwv d (fun r V7 => ∃ v8 : Int, r = some (0, v8) ∧ ((0 ≤ ((x2 * 120) + x4) ∧ ((x2 * 120) + x4) < 480) ∧ ((i32 v8) ∧ ((i32 (x4 + 1)) ∧ wpv K_X3_fillLed d P 23 [some (4, (p0 : Int)), some (4, (p1 : Int)), some (0, x2), some (0, x3), some (0, (x4 + 1))] [] G R (wr V7 (p0 + 9) (((x2 * 120) + x4)) v8))))) 90 [(4, (p1 : Int)), (0, x3), (0, x4)] G R V))))))) : wpv K_X3_fillLed d P 23 [some (4, (p0 : Int)), some (4, (p1 : Int)), some (0, x2), some (0, x3), some (0, x4)] [] G R V := by
  refine wp_ld (i := (.iload 4)) (0, x4) rfl rfl (fun _ => rfl) rfl rfl (?_ : wpv K_X3_fillLed d P 25 [some (4, (p0 : Int)), some (4, (p1 : Int)), some (0, x2), some (0, x3), some (0, x4)] [(0, x4)] G R V)
  refine wp_ld (i := (.aload_n 1)) (4, (p1 : Int)) rfl rfl (fun _ => rfl) rfl rfl (?_ : wpv K_X3_fillLed d P 26 [some (4, (p0 : Int)), some (4, (p1 : Int)), some (0, x2), some (0, x3), some (0, x4)] [(4, (p1 : Int)), (0, x4)] G R V)
  refine wp_rng (fun vr1 => ?_)
  have f2 : i32 (V p1 1) := vr_f0 vr1 (ly6_o l1) rfl rfl
  replace w := w f2
  refine wp_getI (k := 1) rfl rfl rfl (ly6_o l1) rfl rfl (?_ : wpv K_X3_fillLed d P 29 [some (4, (p0 : Int)), some (4, (p1 : Int)), some (0, x2), some (0, x3), some (0, x4)] [(0, (V p1 1)), (0, x4)] G R V)
  obtain ⟨s3, w⟩ := w
  refine wp_icmp (c := .ge) 57 rfl rfl rfl s3 f2 (fun q => ?_) (fun q => ?_)
  · have q : ¬ x4 < (V p1 1) := q
    replace w := w.1 q
    show wpv K_X3_fillLed d P 57 [some (4, (p0 : Int)), some (4, (p1 : Int)), some (0, x2), some (0, x3), some (0, x4)] [] G R V
    obtain ⟨s4, w⟩ := w
    refine wp_inc (x := 2) (k := 1) (a := x2) (c := (x2 + 1)) _ rfl rfl rfl rfl s4 (by omega) rfl ?_
    show wpv K_X3_fillLed d P 60 [some (4, (p0 : Int)), some (4, (p1 : Int)), some (0, (x2 + 1)), some (0, x3), some (0, x4)] [] G R V
    refine wp_go 2 rfl rfl rfl (?_ : wpv K_X3_fillLed d P 2 [some (4, (p0 : Int)), some (4, (p1 : Int)), some (0, (x2 + 1)), some (0, x3), some (0, x4)] [] G R V)
    exact wp_wk (wk_s (wk_s (wk_s wk_0))) w
  · have q : x4 < (V p1 1) := Decidable.not_not.mp q
    replace w := w.2 q
    show wpv K_X3_fillLed d P 32 [some (4, (p0 : Int)), some (4, (p1 : Int)), some (0, x2), some (0, x3), some (0, x4)] [] G R V
    refine wp_ld (i := (.aload_n 0)) (4, (p0 : Int)) rfl rfl (fun _ => rfl) rfl rfl (?_ : wpv K_X3_fillLed d P 33 [some (4, (p0 : Int)), some (4, (p1 : Int)), some (0, x2), some (0, x3), some (0, x4)] [(4, (p0 : Int))] G R V)
    refine wp_getA (k := 11) rfl rfl rfl (ly3_o l0) rfl rfl (ly3_11 l0).1 (?_ : wpv K_X3_fillLed d P 36 [some (4, (p0 : Int)), some (4, (p1 : Int)), some (0, x2), some (0, x3), some (0, x4)] [(4, ((p0 + 9 : Nat) : Int))] G R V)
    refine wp_ld (i := (.iload_n 2)) (0, x2) rfl rfl (fun _ => rfl) rfl rfl (?_ : wpv K_X3_fillLed d P 37 [some (4, (p0 : Int)), some (4, (p1 : Int)), some (0, x2), some (0, x3), some (0, x4)] [(0, x2), (4, ((p0 + 9 : Nat) : Int))] G R V)
    refine wp_p (i := (.bipush 120)) rfl rfl (fun _ _ _ => rfl) (?_ : wpv K_X3_fillLed d P 39 [some (4, (p0 : Int)), some (4, (p1 : Int)), some (0, x2), some (0, x3), some (0, x4)] [(0, 120), (0, x2), (4, ((p0 + 9 : Nat) : Int))] G R V)
    obtain ⟨s5, w⟩ := w
    refine wp_xmul rfl rfl s5 (?_ : wpv K_X3_fillLed d P 40 [some (4, (p0 : Int)), some (4, (p1 : Int)), some (0, x2), some (0, x3), some (0, x4)] [(0, (x2 * 120)), (4, ((p0 + 9 : Nat) : Int))] G R V)
    refine wp_ld (i := (.iload 4)) (0, x4) rfl rfl (fun _ => rfl) rfl rfl (?_ : wpv K_X3_fillLed d P 42 [some (4, (p0 : Int)), some (4, (p1 : Int)), some (0, x2), some (0, x3), some (0, x4)] [(0, x4), (0, (x2 * 120)), (4, ((p0 + 9 : Nat) : Int))] G R V)
    obtain ⟨s6, w⟩ := w
    refine wp_xadd rfl rfl s6 (?_ : wpv K_X3_fillLed d P 43 [some (4, (p0 : Int)), some (4, (p1 : Int)), some (0, x2), some (0, x3), some (0, x4)] [(0, ((x2 * 120) + x4)), (4, ((p0 + 9 : Nat) : Int))] G R V)
    refine wp_ld (i := (.aload_n 1)) (4, (p1 : Int)) rfl rfl (fun _ => rfl) rfl rfl (?_ : wpv K_X3_fillLed d P 44 [some (4, (p0 : Int)), some (4, (p1 : Int)), some (0, x2), some (0, x3), some (0, x4)] [(4, (p1 : Int)), (0, ((x2 * 120) + x4)), (4, ((p0 + 9 : Nat) : Int))] G R V)
    refine wp_ld (i := (.iload_n 3)) (0, x3) rfl rfl (fun _ => rfl) rfl rfl (?_ : wpv K_X3_fillLed d P 45 [some (4, (p0 : Int)), some (4, (p1 : Int)), some (0, x2), some (0, x3), some (0, x4)] [(0, x3), (4, (p1 : Int)), (0, ((x2 * 120) + x4)), (4, ((p0 + 9 : Nat) : Int))] G R V)
    refine wp_ld (i := (.iload 4)) (0, x4) rfl rfl (fun _ => rfl) rfl rfl (?_ : wpv K_X3_fillLed d P 47 [some (4, (p0 : Int)), some (4, (p1 : Int)), some (0, x2), some (0, x3), some (0, x4)] [(0, x4), (0, x3), (4, (p1 : Int)), (0, ((x2 * 120) + x4)), (4, ((p0 + 9 : Nat) : Int))] G R V)
    refine wp_virt (as := [(0, x3), (0, x4)]) (a := p1) (st := [(0, ((x2 * 120) + x4)), (4, ((p0 + 9 : Nat) : Int))]) _ rfl rfl rfl rfl rfl rfl (ly6_o l1) (Nat.le_of_ble_eq_true rfl) (cwv_kI w (fun v8 V7 w => ?_))
    show wpv K_X3_fillLed d P 50 [some (4, (p0 : Int)), some (4, (p1 : Int)), some (0, x2), some (0, x3), some (0, x4)] [(0, v8), (0, ((x2 * 120) + x4)), (4, ((p0 + 9 : Nat) : Int))] G R V7
    obtain ⟨s9, w⟩ := w
    obtain ⟨s10, w⟩ := w
    refine wp_sI rfl rfl (ly3_11 l0).2 s9 s10 (?_ : wpv K_X3_fillLed d P 51 [some (4, (p0 : Int)), some (4, (p1 : Int)), some (0, x2), some (0, x3), some (0, x4)] [] G R (wr V7 (p0 + 9) (((x2 * 120) + x4)) v8))
    obtain ⟨s11, w⟩ := w
    refine wp_inc (x := 4) (k := 1) (a := x4) (c := (x4 + 1)) _ rfl rfl rfl rfl s11 (by omega) rfl ?_
    show wpv K_X3_fillLed d P 54 [some (4, (p0 : Int)), some (4, (p1 : Int)), some (0, x2), some (0, x3), some (0, (x4 + 1))] [] G R (wr V7 (p0 + 9) (((x2 * 120) + x4)) v8)
    refine wp_go 23 rfl rfl rfl (?_ : wpv K_X3_fillLed d P 23 [some (4, (p0 : Int)), some (4, (p1 : Int)), some (0, x2), some (0, x3), some (0, (x4 + 1))] [] G R (wr V7 (p0 + 9) (((x2 * 120) + x4)) v8))
    exact wp_wk (wk_s (wk_s (wk_s (wk_s (wk_s wk_0))))) w
theorem t_X3_startWithTurnNought_0 {d : Nat} {P : gP} {p0 : Nat} {G : List gS} {R V : gV} (l0 : lay3 G R p0) (w : P none (wr (wr (wr (wr (wr (wr (wr (wr V (p0 + 1) 0 1) (p0 + 2) 0 0) (p0 + 3) 0 1) (p0 + 4) 0 0) p0 0 1) (p0 + 5) 0 0) (p0 + 6) 0 0) p0 5 1)) : wpv K_X3_startWithTurnNought d P 0 [some (4, (p0 : Int))] [] G R V := by
  refine wp_ld (i := (.aload_n 0)) (4, (p0 : Int)) rfl rfl (fun _ => rfl) rfl rfl (?_ : wpv K_X3_startWithTurnNought d P 1 [some (4, (p0 : Int))] [(4, (p0 : Int))] G R V)
  refine wp_getA (k := 1) rfl rfl rfl (ly3_o l0) rfl rfl (ly3_1 l0).1 (?_ : wpv K_X3_startWithTurnNought d P 4 [some (4, (p0 : Int))] [(4, ((p0 + 1 : Nat) : Int))] G R V)
  refine wp_p (i := (.iconst 0)) rfl rfl (fun _ _ _ => rfl) (?_ : wpv K_X3_startWithTurnNought d P 5 [some (4, (p0 : Int))] [(0, 0), (4, ((p0 + 1 : Nat) : Int))] G R V)
  refine wp_p (i := (.lconst 1)) rfl rfl (fun _ _ _ => rfl) (?_ : wpv K_X3_startWithTurnNought d P 6 [some (4, (p0 : Int))] [(2, 1), (0, 0), (4, ((p0 + 1 : Nat) : Int))] G R V)
  refine wp_sJ rfl rfl (ly3_1 l0).2 ⟨by omega, by omega⟩ ⟨by omega, by omega⟩ (?_ : wpv K_X3_startWithTurnNought d P 7 [some (4, (p0 : Int))] [] G R (wr V (p0 + 1) 0 1))
  refine wp_ld (i := (.aload_n 0)) (4, (p0 : Int)) rfl rfl (fun _ => rfl) rfl rfl (?_ : wpv K_X3_startWithTurnNought d P 8 [some (4, (p0 : Int))] [(4, (p0 : Int))] G R (wr V (p0 + 1) 0 1))
  refine wp_getA (k := 2) rfl rfl rfl (ly3_o l0) rfl rfl (ly3_2 l0).1 (?_ : wpv K_X3_startWithTurnNought d P 11 [some (4, (p0 : Int))] [(4, ((p0 + 2 : Nat) : Int))] G R (wr V (p0 + 1) 0 1))
  refine wp_p (i := (.iconst 0)) rfl rfl (fun _ _ _ => rfl) (?_ : wpv K_X3_startWithTurnNought d P 12 [some (4, (p0 : Int))] [(0, 0), (4, ((p0 + 2 : Nat) : Int))] G R (wr V (p0 + 1) 0 1))
  refine wp_p (i := (.lconst 0)) rfl rfl (fun _ _ _ => rfl) (?_ : wpv K_X3_startWithTurnNought d P 13 [some (4, (p0 : Int))] [(2, 0), (0, 0), (4, ((p0 + 2 : Nat) : Int))] G R (wr V (p0 + 1) 0 1))
  refine wp_sJ rfl rfl (ly3_2 l0).2 ⟨by omega, by omega⟩ ⟨by omega, by omega⟩ (?_ : wpv K_X3_startWithTurnNought d P 14 [some (4, (p0 : Int))] [] G R (wr (wr V (p0 + 1) 0 1) (p0 + 2) 0 0))
  refine wp_ld (i := (.aload_n 0)) (4, (p0 : Int)) rfl rfl (fun _ => rfl) rfl rfl (?_ : wpv K_X3_startWithTurnNought d P 15 [some (4, (p0 : Int))] [(4, (p0 : Int))] G R (wr (wr V (p0 + 1) 0 1) (p0 + 2) 0 0))
  refine wp_getA (k := 3) rfl rfl rfl (ly3_o l0) rfl rfl (ly3_3 l0).1 (?_ : wpv K_X3_startWithTurnNought d P 18 [some (4, (p0 : Int))] [(4, ((p0 + 3 : Nat) : Int))] G R (wr (wr V (p0 + 1) 0 1) (p0 + 2) 0 0))
  refine wp_p (i := (.iconst 0)) rfl rfl (fun _ _ _ => rfl) (?_ : wpv K_X3_startWithTurnNought d P 19 [some (4, (p0 : Int))] [(0, 0), (4, ((p0 + 3 : Nat) : Int))] G R (wr (wr V (p0 + 1) 0 1) (p0 + 2) 0 0))
  refine wp_p (i := (.iconst 1)) rfl rfl (fun _ _ _ => rfl) (?_ : wpv K_X3_startWithTurnNought d P 20 [some (4, (p0 : Int))] [(0, 1), (0, 0), (4, ((p0 + 3 : Nat) : Int))] G R (wr (wr V (p0 + 1) 0 1) (p0 + 2) 0 0))
  refine wp_sI rfl rfl (ly3_3 l0).2 ⟨by omega, by omega⟩ ⟨by omega, by omega⟩ (?_ : wpv K_X3_startWithTurnNought d P 21 [some (4, (p0 : Int))] [] G R (wr (wr (wr V (p0 + 1) 0 1) (p0 + 2) 0 0) (p0 + 3) 0 1))
  refine wp_ld (i := (.aload_n 0)) (4, (p0 : Int)) rfl rfl (fun _ => rfl) rfl rfl (?_ : wpv K_X3_startWithTurnNought d P 22 [some (4, (p0 : Int))] [(4, (p0 : Int))] G R (wr (wr (wr V (p0 + 1) 0 1) (p0 + 2) 0 0) (p0 + 3) 0 1))
  refine wp_getA (k := 4) rfl rfl rfl (ly3_o l0) rfl rfl (ly3_4 l0).1 (?_ : wpv K_X3_startWithTurnNought d P 25 [some (4, (p0 : Int))] [(4, ((p0 + 4 : Nat) : Int))] G R (wr (wr (wr V (p0 + 1) 0 1) (p0 + 2) 0 0) (p0 + 3) 0 1))
  refine wp_p (i := (.iconst 0)) rfl rfl (fun _ _ _ => rfl) (?_ : wpv K_X3_startWithTurnNought d P 26 [some (4, (p0 : Int))] [(0, 0), (4, ((p0 + 4 : Nat) : Int))] G R (wr (wr (wr V (p0 + 1) 0 1) (p0 + 2) 0 0) (p0 + 3) 0 1))
  refine wp_p (i := (.iconst 0)) rfl rfl (fun _ _ _ => rfl) (?_ : wpv K_X3_startWithTurnNought d P 27 [some (4, (p0 : Int))] [(0, 0), (0, 0), (4, ((p0 + 4 : Nat) : Int))] G R (wr (wr (wr V (p0 + 1) 0 1) (p0 + 2) 0 0) (p0 + 3) 0 1))
  refine wp_sI rfl rfl (ly3_4 l0).2 ⟨by omega, by omega⟩ ⟨by omega, by omega⟩ (?_ : wpv K_X3_startWithTurnNought d P 28 [some (4, (p0 : Int))] [] G R (wr (wr (wr (wr V (p0 + 1) 0 1) (p0 + 2) 0 0) (p0 + 3) 0 1) (p0 + 4) 0 0))
  refine wp_ld (i := (.aload_n 0)) (4, (p0 : Int)) rfl rfl (fun _ => rfl) rfl rfl (?_ : wpv K_X3_startWithTurnNought d P 29 [some (4, (p0 : Int))] [(4, (p0 : Int))] G R (wr (wr (wr (wr V (p0 + 1) 0 1) (p0 + 2) 0 0) (p0 + 3) 0 1) (p0 + 4) 0 0))
  refine wp_p (i := (.iconst 1)) rfl rfl (fun _ _ _ => rfl) (?_ : wpv K_X3_startWithTurnNought d P 30 [some (4, (p0 : Int))] [(0, 1), (4, (p0 : Int))] G R (wr (wr (wr (wr V (p0 + 1) 0 1) (p0 + 2) 0 0) (p0 + 3) 0 1) (p0 + 4) 0 0))
  refine wp_putI (k := 0) rfl rfl rfl (ly3_o l0) rfl rfl rfl ⟨by omega, by omega⟩ (?_ : wpv K_X3_startWithTurnNought d P 33 [some (4, (p0 : Int))] [] G R (wr (wr (wr (wr (wr V (p0 + 1) 0 1) (p0 + 2) 0 0) (p0 + 3) 0 1) (p0 + 4) 0 0) p0 0 1))
  refine wp_ld (i := (.aload_n 0)) (4, (p0 : Int)) rfl rfl (fun _ => rfl) rfl rfl (?_ : wpv K_X3_startWithTurnNought d P 34 [some (4, (p0 : Int))] [(4, (p0 : Int))] G R (wr (wr (wr (wr (wr V (p0 + 1) 0 1) (p0 + 2) 0 0) (p0 + 3) 0 1) (p0 + 4) 0 0) p0 0 1))
  refine wp_getA (k := 6) rfl rfl rfl (ly3_o l0) rfl rfl (ly3_6 l0).1 (?_ : wpv K_X3_startWithTurnNought d P 37 [some (4, (p0 : Int))] [(4, ((p0 + 5 : Nat) : Int))] G R (wr (wr (wr (wr (wr V (p0 + 1) 0 1) (p0 + 2) 0 0) (p0 + 3) 0 1) (p0 + 4) 0 0) p0 0 1))
  refine wp_p (i := (.iconst 0)) rfl rfl (fun _ _ _ => rfl) (?_ : wpv K_X3_startWithTurnNought d P 38 [some (4, (p0 : Int))] [(0, 0), (4, ((p0 + 5 : Nat) : Int))] G R (wr (wr (wr (wr (wr V (p0 + 1) 0 1) (p0 + 2) 0 0) (p0 + 3) 0 1) (p0 + 4) 0 0) p0 0 1))
  refine wp_p (i := (.iconst 0)) rfl rfl (fun _ _ _ => rfl) (?_ : wpv K_X3_startWithTurnNought d P 39 [some (4, (p0 : Int))] [(0, 0), (0, 0), (4, ((p0 + 5 : Nat) : Int))] G R (wr (wr (wr (wr (wr V (p0 + 1) 0 1) (p0 + 2) 0 0) (p0 + 3) 0 1) (p0 + 4) 0 0) p0 0 1))
  refine wp_sI rfl rfl (ly3_6 l0).2 ⟨by omega, by omega⟩ ⟨by omega, by omega⟩ (?_ : wpv K_X3_startWithTurnNought d P 40 [some (4, (p0 : Int))] [] G R (wr (wr (wr (wr (wr (wr V (p0 + 1) 0 1) (p0 + 2) 0 0) (p0 + 3) 0 1) (p0 + 4) 0 0) p0 0 1) (p0 + 5) 0 0))
  refine wp_ld (i := (.aload_n 0)) (4, (p0 : Int)) rfl rfl (fun _ => rfl) rfl rfl (?_ : wpv K_X3_startWithTurnNought d P 41 [some (4, (p0 : Int))] [(4, (p0 : Int))] G R (wr (wr (wr (wr (wr (wr V (p0 + 1) 0 1) (p0 + 2) 0 0) (p0 + 3) 0 1) (p0 + 4) 0 0) p0 0 1) (p0 + 5) 0 0))
  refine wp_getA (k := 7) rfl rfl rfl (ly3_o l0) rfl rfl (ly3_7 l0).1 (?_ : wpv K_X3_startWithTurnNought d P 44 [some (4, (p0 : Int))] [(4, ((p0 + 6 : Nat) : Int))] G R (wr (wr (wr (wr (wr (wr V (p0 + 1) 0 1) (p0 + 2) 0 0) (p0 + 3) 0 1) (p0 + 4) 0 0) p0 0 1) (p0 + 5) 0 0))
  refine wp_p (i := (.iconst 0)) rfl rfl (fun _ _ _ => rfl) (?_ : wpv K_X3_startWithTurnNought d P 45 [some (4, (p0 : Int))] [(0, 0), (4, ((p0 + 6 : Nat) : Int))] G R (wr (wr (wr (wr (wr (wr V (p0 + 1) 0 1) (p0 + 2) 0 0) (p0 + 3) 0 1) (p0 + 4) 0 0) p0 0 1) (p0 + 5) 0 0))
  refine wp_p (i := (.iconst 0)) rfl rfl (fun _ _ _ => rfl) (?_ : wpv K_X3_startWithTurnNought d P 46 [some (4, (p0 : Int))] [(0, 0), (0, 0), (4, ((p0 + 6 : Nat) : Int))] G R (wr (wr (wr (wr (wr (wr V (p0 + 1) 0 1) (p0 + 2) 0 0) (p0 + 3) 0 1) (p0 + 4) 0 0) p0 0 1) (p0 + 5) 0 0))
  refine wp_sI rfl rfl (ly3_7 l0).2 ⟨by omega, by omega⟩ ⟨by omega, by omega⟩ (?_ : wpv K_X3_startWithTurnNought d P 47 [some (4, (p0 : Int))] [] G R (wr (wr (wr (wr (wr (wr (wr V (p0 + 1) 0 1) (p0 + 2) 0 0) (p0 + 3) 0 1) (p0 + 4) 0 0) p0 0 1) (p0 + 5) 0 0) (p0 + 6) 0 0))
  refine wp_ld (i := (.aload_n 0)) (4, (p0 : Int)) rfl rfl (fun _ => rfl) rfl rfl (?_ : wpv K_X3_startWithTurnNought d P 48 [some (4, (p0 : Int))] [(4, (p0 : Int))] G R (wr (wr (wr (wr (wr (wr (wr V (p0 + 1) 0 1) (p0 + 2) 0 0) (p0 + 3) 0 1) (p0 + 4) 0 0) p0 0 1) (p0 + 5) 0 0) (p0 + 6) 0 0))
  refine wp_p (i := (.iconst 1)) rfl rfl (fun _ _ _ => rfl) (?_ : wpv K_X3_startWithTurnNought d P 49 [some (4, (p0 : Int))] [(0, 1), (4, (p0 : Int))] G R (wr (wr (wr (wr (wr (wr (wr V (p0 + 1) 0 1) (p0 + 2) 0 0) (p0 + 3) 0 1) (p0 + 4) 0 0) p0 0 1) (p0 + 5) 0 0) (p0 + 6) 0 0))
  refine wp_putI (k := 5) rfl rfl rfl (ly3_o l0) rfl rfl rfl ⟨by omega, by omega⟩ (?_ : wpv K_X3_startWithTurnNought d P 52 [some (4, (p0 : Int))] [] G R (wr (wr (wr (wr (wr (wr (wr (wr V (p0 + 1) 0 1) (p0 + 2) 0 0) (p0 + 3) 0 1) (p0 + 4) 0 0) p0 0 1) (p0 + 5) 0 0) (p0 + 6) 0 0) p0 5 1))
  exact wp_r0 rfl rfl rfl w
theorem t_X3_growFrom_0 {d : Nat} {P : gP} {p0 : Nat} {x1 : Int} {p2 : Nat} {G : List gS} {R V : gV} (l0 : lay3 G R p0) (l2 : lay6 G R p2) (w : ((0 ≤ x1 ∧ x1 < 300) ∧ ((i32 (V (p0 + 5) x1)) → cwv d (fun r V4 => r = none ∧ wpv K_X3_growFrom d P 16 [some (4, (p0 : Int)), some (0, x1), some (4, (p2 : Int)), some (0, (V (p0 + 5) x1)), some (0, 0)] [] G R V4) 46 [(4, (p0 : Int)), (0, (V (p0 + 5) x1)), (4, (p2 : Int))] G R V))) : wpv K_X3_growFrom d P 0 [some (4, (p0 : Int)), some (0, x1), some (4, (p2 : Int))] [] G R V := by
  refine wp_ld (i := (.aload_n 0)) (4, (p0 : Int)) rfl rfl (fun _ => rfl) rfl rfl (?_ : wpv K_X3_growFrom d P 1 [some (4, (p0 : Int)), some (0, x1), some (4, (p2 : Int))] [(4, (p0 : Int))] G R V)
  refine wp_getA (k := 6) rfl rfl rfl (ly3_o l0) rfl rfl (ly3_6 l0).1 (?_ : wpv K_X3_growFrom d P 4 [some (4, (p0 : Int)), some (0, x1), some (4, (p2 : Int))] [(4, ((p0 + 5 : Nat) : Int))] G R V)
  refine wp_ld (i := (.iload_n 1)) (0, x1) rfl rfl (fun _ => rfl) rfl rfl (?_ : wpv K_X3_growFrom d P 5 [some (4, (p0 : Int)), some (0, x1), some (4, (p2 : Int))] [(0, x1), (4, ((p0 + 5 : Nat) : Int))] G R V)
  obtain ⟨s1, w⟩ := w
  refine wp_rng (fun vr2 => ?_)
  have f3 : i32 (V (p0 + 5) x1) := vr_a0 vr2 (ly3_6 l0).2 s1
  replace w := w f3
  refine wp_aI rfl rfl (ly3_6 l0).2 s1 (?_ : wpv K_X3_growFrom d P 6 [some (4, (p0 : Int)), some (0, x1), some (4, (p2 : Int))] [(0, (V (p0 + 5) x1))] G R V)
  refine wp_sto (i := (.istore_n 3)) _ rfl rfl (fun _ => rfl) rfl rfl rfl ?_
  refine wp_wk (L' := [some (4, (p0 : Int)), some (0, x1), some (4, (p2 : Int)), some (0, (V (p0 + 5) x1))]) (wk_s (wk_s (wk_s (wk_s wk_0)))) ?_
  show wpv K_X3_growFrom d P 7 [some (4, (p0 : Int)), some (0, x1), some (4, (p2 : Int)), some (0, (V (p0 + 5) x1))] [] G R V
  refine wp_ld (i := (.aload_n 0)) (4, (p0 : Int)) rfl rfl (fun _ => rfl) rfl rfl (?_ : wpv K_X3_growFrom d P 8 [some (4, (p0 : Int)), some (0, x1), some (4, (p2 : Int)), some (0, (V (p0 + 5) x1))] [(4, (p0 : Int))] G R V)
  refine wp_ld (i := (.iload_n 3)) (0, (V (p0 + 5) x1)) rfl rfl (fun _ => rfl) rfl rfl (?_ : wpv K_X3_growFrom d P 9 [some (4, (p0 : Int)), some (0, x1), some (4, (p2 : Int)), some (0, (V (p0 + 5) x1))] [(0, (V (p0 + 5) x1)), (4, (p0 : Int))] G R V)
  refine wp_ld (i := (.aload_n 2)) (4, (p2 : Int)) rfl rfl (fun _ => rfl) rfl rfl (?_ : wpv K_X3_growFrom d P 10 [some (4, (p0 : Int)), some (0, x1), some (4, (p2 : Int)), some (0, (V (p0 + 5) x1))] [(4, (p2 : Int)), (0, (V (p0 + 5) x1)), (4, (p0 : Int))] G R V)
  refine wp_virt (as := [(0, (V (p0 + 5) x1)), (4, (p2 : Int))]) (a := p0) (st := []) _ rfl rfl rfl rfl rfl rfl (ly3_o l0) (Nat.le_of_ble_eq_true rfl) (cwv_k0 w (fun V4 w => ?_))
  show wpv K_X3_growFrom d P 13 [some (4, (p0 : Int)), some (0, x1), some (4, (p2 : Int)), some (0, (V (p0 + 5) x1))] [] G R V4
  refine wp_p (i := (.iconst 0)) rfl rfl (fun _ _ _ => rfl) (?_ : wpv K_X3_growFrom d P 14 [some (4, (p0 : Int)), some (0, x1), some (4, (p2 : Int)), some (0, (V (p0 + 5) x1))] [(0, 0)] G R V4)
  refine wp_sto (i := (.istore 4)) _ rfl rfl (fun _ => rfl) rfl rfl rfl ?_
  refine wp_wk (L' := [some (4, (p0 : Int)), some (0, x1), some (4, (p2 : Int)), some (0, (V (p0 + 5) x1)), some (0, 0)]) (wk_s (wk_s (wk_s (wk_s (wk_s wk_0))))) ?_
  show wpv K_X3_growFrom d P 16 [some (4, (p0 : Int)), some (0, x1), some (4, (p2 : Int)), some (0, (V (p0 + 5) x1)), some (0, 0)] [] G R V4
  exact wp_wk (wk_s (wk_s (wk_s (wk_s (wk_s wk_0))))) w

theorem t_X3_growFrom_16 {d : Nat} {P : gP} {p0 : Nat} {x1 : Int} {p2 : Nat} {x3 : Int} {x4 : Int} {G : List gS} {R V : gV} (l0 : lay3 G R p0) (l2 : lay6 G R p2) (w : ((i32 (V p0 9)) → ((i32 x4) ∧ (((¬ x4 < (V p0 9)) → P (some (0, 1)) V) ∧ ((x4 < (V p0 9)) → ((0 ≤ x3 ∧ x3 < 300) ∧ ((i64 (V (p0 + 1) x3)) → ((i64 (V (p0 + 2) x3)) → ((0 ≤ x4 ∧ x4 < 120) ∧ ((i32 (V (p0 + 8) x4)) → cwv d (fun r V9 => ∃ v10 : Int, r = some (0, v10) ∧ ((i32 v10) ∧ (((¬ v10 = 0) → ((i32 (x4 + 1)) ∧ wpv K_X3_growFrom d P 16 [some (4, (p0 : Int)), some (0, x1), some (4, (p2 : Int)), some (0, x3), some (0, (x4 + 1))] [] G R V9)) ∧ ((v10 = 0) → ((i32 (V9 (p0 + 8) x4)) → cwv d (fun r V15 => r = none ∧ ((i64 (V15 p0 15)) → ((i64 (V15 p0 16)) → cwv d (fun r V19 => ∃ v20 : Int, r = some (0, v20) ∧ ((i32 v20) ∧ (((¬ v20 = (-1)) → ((i32 (x4 + 1)) ∧ wpv K_X3_growFrom d P 16 [some (4, (p0 : Int)), some (0, x1), some (4, (p2 : Int)), some (0, x3), some (0, (x4 + 1))] [] G R V19)) ∧ ((v20 = (-1)) → ((i32 (V19 (p0 + 8) x4)) → cwv d (fun r V25 => ∃ v26 : Int, r = some (0, v26) ∧ ((i32 v26) ∧ (((¬ v26 = 0) → ((i32 (x4 + 1)) ∧ wpv K_X3_growFrom d P 16 [some (4, (p0 : Int)), some (0, x1), some (4, (p2 : Int)), some (0, x3), some (0, (x4 + 1))] [] G R V25)) ∧ ((v26 = 0) → P (some (0, 0)) V25)))) 51 [(4, (p0 : Int)), (0, x1), (0, (V19 (p0 + 8) x4)), (4, (p2 : Int))] G R V19))))) 50 [(4, (p0 : Int)), (0, 0), (2, (V15 p0 15)), (2, (V15 p0 16))] G R V15))) 47 [(4, (p0 : Int)), (0, x1), (0, (V9 (p0 + 8) x4)), (4, (p2 : Int))] G R V9))))) 149 [(2, (V (p0 + 1) x3)), (2, (V (p0 + 2) x3)), (0, (V (p0 + 8) x4))] G R V)))))))))) : wpv K_X3_growFrom d P 16 [some (4, (p0 : Int)), some (0, x1), some (4, (p2 : Int)), some (0, x3), some (0, x4)] [] G R V := by
  refine wp_ld (i := (.iload 4)) (0, x4) rfl rfl (fun _ => rfl) rfl rfl (?_ : wpv K_X3_growFrom d P 18 [some (4, (p0 : Int)), some (0, x1), some (4, (p2 : Int)), some (0, x3), some (0, x4)] [(0, x4)] G R V)
  refine wp_ld (i := (.aload_n 0)) (4, (p0 : Int)) rfl rfl (fun _ => rfl) rfl rfl (?_ : wpv K_X3_growFrom d P 19 [some (4, (p0 : Int)), some (0, x1), some (4, (p2 : Int)), some (0, x3), some (0, x4)] [(4, (p0 : Int)), (0, x4)] G R V)
  refine wp_rng (fun vr1 => ?_)
  have f2 : i32 (V p0 9) := vr_f0 vr1 (ly3_o l0) rfl rfl
  replace w := w f2
  refine wp_getI (k := 9) rfl rfl rfl (ly3_o l0) rfl rfl (?_ : wpv K_X3_growFrom d P 22 [some (4, (p0 : Int)), some (0, x1), some (4, (p2 : Int)), some (0, x3), some (0, x4)] [(0, (V p0 9)), (0, x4)] G R V)
  obtain ⟨s3, w⟩ := w
  refine wp_icmp (c := .ge) 104 rfl rfl rfl s3 f2 (fun q => ?_) (fun q => ?_)
  · have q : ¬ x4 < (V p0 9) := q
    replace w := w.1 q
    show wpv K_X3_growFrom d P 104 [some (4, (p0 : Int)), some (0, x1), some (4, (p2 : Int)), some (0, x3), some (0, x4)] [] G R V
    refine wp_p (i := (.iconst 1)) rfl rfl (fun _ _ _ => rfl) (?_ : wpv K_X3_growFrom d P 105 [some (4, (p0 : Int)), some (0, x1), some (4, (p2 : Int)), some (0, x3), some (0, x4)] [(0, 1)] G R V)
    exact wp_rB rfl rfl rfl (by omega) w
  · have q : x4 < (V p0 9) := Decidable.not_not.mp q
    replace w := w.2 q
    show wpv K_X3_growFrom d P 25 [some (4, (p0 : Int)), some (0, x1), some (4, (p2 : Int)), some (0, x3), some (0, x4)] [] G R V
    refine wp_ld (i := (.aload_n 0)) (4, (p0 : Int)) rfl rfl (fun _ => rfl) rfl rfl (?_ : wpv K_X3_growFrom d P 26 [some (4, (p0 : Int)), some (0, x1), some (4, (p2 : Int)), some (0, x3), some (0, x4)] [(4, (p0 : Int))] G R V)
    refine wp_getA (k := 1) rfl rfl rfl (ly3_o l0) rfl rfl (ly3_1 l0).1 (?_ : wpv K_X3_growFrom d P 29 [some (4, (p0 : Int)), some (0, x1), some (4, (p2 : Int)), some (0, x3), some (0, x4)] [(4, ((p0 + 1 : Nat) : Int))] G R V)
    refine wp_ld (i := (.iload_n 3)) (0, x3) rfl rfl (fun _ => rfl) rfl rfl (?_ : wpv K_X3_growFrom d P 30 [some (4, (p0 : Int)), some (0, x1), some (4, (p2 : Int)), some (0, x3), some (0, x4)] [(0, x3), (4, ((p0 + 1 : Nat) : Int))] G R V)
    obtain ⟨s4, w⟩ := w
    have f5 : i64 (V (p0 + 1) x3) := vr_a1 vr1 (ly3_1 l0).2 s4
    replace w := w f5
    refine wp_aJ rfl rfl (ly3_1 l0).2 s4 (?_ : wpv K_X3_growFrom d P 31 [some (4, (p0 : Int)), some (0, x1), some (4, (p2 : Int)), some (0, x3), some (0, x4)] [(2, (V (p0 + 1) x3))] G R V)
    refine wp_ld (i := (.aload_n 0)) (4, (p0 : Int)) rfl rfl (fun _ => rfl) rfl rfl (?_ : wpv K_X3_growFrom d P 32 [some (4, (p0 : Int)), some (0, x1), some (4, (p2 : Int)), some (0, x3), some (0, x4)] [(4, (p0 : Int)), (2, (V (p0 + 1) x3))] G R V)
    refine wp_getA (k := 2) rfl rfl rfl (ly3_o l0) rfl rfl (ly3_2 l0).1 (?_ : wpv K_X3_growFrom d P 35 [some (4, (p0 : Int)), some (0, x1), some (4, (p2 : Int)), some (0, x3), some (0, x4)] [(4, ((p0 + 2 : Nat) : Int)), (2, (V (p0 + 1) x3))] G R V)
    refine wp_ld (i := (.iload_n 3)) (0, x3) rfl rfl (fun _ => rfl) rfl rfl (?_ : wpv K_X3_growFrom d P 36 [some (4, (p0 : Int)), some (0, x1), some (4, (p2 : Int)), some (0, x3), some (0, x4)] [(0, x3), (4, ((p0 + 2 : Nat) : Int)), (2, (V (p0 + 1) x3))] G R V)
    have f6 : i64 (V (p0 + 2) x3) := vr_a1 vr1 (ly3_2 l0).2 s4
    replace w := w f6
    refine wp_aJ rfl rfl (ly3_2 l0).2 s4 (?_ : wpv K_X3_growFrom d P 37 [some (4, (p0 : Int)), some (0, x1), some (4, (p2 : Int)), some (0, x3), some (0, x4)] [(2, (V (p0 + 2) x3)), (2, (V (p0 + 1) x3))] G R V)
    refine wp_ld (i := (.aload_n 0)) (4, (p0 : Int)) rfl rfl (fun _ => rfl) rfl rfl (?_ : wpv K_X3_growFrom d P 38 [some (4, (p0 : Int)), some (0, x1), some (4, (p2 : Int)), some (0, x3), some (0, x4)] [(4, (p0 : Int)), (2, (V (p0 + 2) x3)), (2, (V (p0 + 1) x3))] G R V)
    refine wp_getA (k := 10) rfl rfl rfl (ly3_o l0) rfl rfl (ly3_10 l0).1 (?_ : wpv K_X3_growFrom d P 41 [some (4, (p0 : Int)), some (0, x1), some (4, (p2 : Int)), some (0, x3), some (0, x4)] [(4, ((p0 + 8 : Nat) : Int)), (2, (V (p0 + 2) x3)), (2, (V (p0 + 1) x3))] G R V)
    refine wp_ld (i := (.iload 4)) (0, x4) rfl rfl (fun _ => rfl) rfl rfl (?_ : wpv K_X3_growFrom d P 43 [some (4, (p0 : Int)), some (0, x1), some (4, (p2 : Int)), some (0, x3), some (0, x4)] [(0, x4), (4, ((p0 + 8 : Nat) : Int)), (2, (V (p0 + 2) x3)), (2, (V (p0 + 1) x3))] G R V)
    obtain ⟨s7, w⟩ := w
    have f8 : i32 (V (p0 + 8) x4) := vr_a0 vr1 (ly3_10 l0).2 s7
    replace w := w f8
    refine wp_aI rfl rfl (ly3_10 l0).2 s7 (?_ : wpv K_X3_growFrom d P 44 [some (4, (p0 : Int)), some (0, x1), some (4, (p2 : Int)), some (0, x3), some (0, x4)] [(0, (V (p0 + 8) x4)), (2, (V (p0 + 2) x3)), (2, (V (p0 + 1) x3))] G R V)
    refine wp_stat (as := [(2, (V (p0 + 1) x3)), (2, (V (p0 + 2) x3)), (0, (V (p0 + 8) x4))]) (st := []) _ rfl rfl rfl (by omega) rfl rfl (Nat.le_of_ble_eq_true rfl) (cwv_kI w (fun v10 V9 w => ?_))
    show wpv K_X3_growFrom d P 47 [some (4, (p0 : Int)), some (0, x1), some (4, (p2 : Int)), some (0, x3), some (0, x4)] [(0, v10)] G R V9
    obtain ⟨s11, w⟩ := w
    refine wp_if (c := .ne) 98 rfl rfl rfl s11 (fun q => ?_) (fun q => ?_)
    · have q : ¬ v10 = 0 := q
      replace w := w.1 q
      show wpv K_X3_growFrom d P 98 [some (4, (p0 : Int)), some (0, x1), some (4, (p2 : Int)), some (0, x3), some (0, x4)] [] G R V9
      obtain ⟨s12, w⟩ := w
      refine wp_inc (x := 4) (k := 1) (a := x4) (c := (x4 + 1)) _ rfl rfl rfl rfl s12 (by omega) rfl ?_
      show wpv K_X3_growFrom d P 101 [some (4, (p0 : Int)), some (0, x1), some (4, (p2 : Int)), some (0, x3), some (0, (x4 + 1))] [] G R V9
      refine wp_go 16 rfl rfl rfl (?_ : wpv K_X3_growFrom d P 16 [some (4, (p0 : Int)), some (0, x1), some (4, (p2 : Int)), some (0, x3), some (0, (x4 + 1))] [] G R V9)
      exact wp_wk (wk_s (wk_s (wk_s (wk_s (wk_s wk_0))))) w
    · have q : v10 = 0 := Decidable.not_not.mp q
      replace w := w.2 q
      show wpv K_X3_growFrom d P 50 [some (4, (p0 : Int)), some (0, x1), some (4, (p2 : Int)), some (0, x3), some (0, x4)] [] G R V9
      refine wp_ld (i := (.aload_n 0)) (4, (p0 : Int)) rfl rfl (fun _ => rfl) rfl rfl (?_ : wpv K_X3_growFrom d P 51 [some (4, (p0 : Int)), some (0, x1), some (4, (p2 : Int)), some (0, x3), some (0, x4)] [(4, (p0 : Int))] G R V9)
      refine wp_ld (i := (.iload_n 1)) (0, x1) rfl rfl (fun _ => rfl) rfl rfl (?_ : wpv K_X3_growFrom d P 52 [some (4, (p0 : Int)), some (0, x1), some (4, (p2 : Int)), some (0, x3), some (0, x4)] [(0, x1), (4, (p0 : Int))] G R V9)
      refine wp_ld (i := (.aload_n 0)) (4, (p0 : Int)) rfl rfl (fun _ => rfl) rfl rfl (?_ : wpv K_X3_growFrom d P 53 [some (4, (p0 : Int)), some (0, x1), some (4, (p2 : Int)), some (0, x3), some (0, x4)] [(4, (p0 : Int)), (0, x1), (4, (p0 : Int))] G R V9)
      refine wp_getA (k := 10) rfl rfl rfl (ly3_o l0) rfl rfl (ly3_10 l0).1 (?_ : wpv K_X3_growFrom d P 56 [some (4, (p0 : Int)), some (0, x1), some (4, (p2 : Int)), some (0, x3), some (0, x4)] [(4, ((p0 + 8 : Nat) : Int)), (0, x1), (4, (p0 : Int))] G R V9)
      refine wp_ld (i := (.iload 4)) (0, x4) rfl rfl (fun _ => rfl) rfl rfl (?_ : wpv K_X3_growFrom d P 58 [some (4, (p0 : Int)), some (0, x1), some (4, (p2 : Int)), some (0, x3), some (0, x4)] [(0, x4), (4, ((p0 + 8 : Nat) : Int)), (0, x1), (4, (p0 : Int))] G R V9)
      refine wp_rng (fun vr13 => ?_)
      have f14 : i32 (V9 (p0 + 8) x4) := vr_a0 vr13 (ly3_10 l0).2 s7
      replace w := w f14
      refine wp_aI rfl rfl (ly3_10 l0).2 s7 (?_ : wpv K_X3_growFrom d P 59 [some (4, (p0 : Int)), some (0, x1), some (4, (p2 : Int)), some (0, x3), some (0, x4)] [(0, (V9 (p0 + 8) x4)), (0, x1), (4, (p0 : Int))] G R V9)
      refine wp_ld (i := (.aload_n 2)) (4, (p2 : Int)) rfl rfl (fun _ => rfl) rfl rfl (?_ : wpv K_X3_growFrom d P 60 [some (4, (p0 : Int)), some (0, x1), some (4, (p2 : Int)), some (0, x3), some (0, x4)] [(4, (p2 : Int)), (0, (V9 (p0 + 8) x4)), (0, x1), (4, (p0 : Int))] G R V9)
      refine wp_virt (as := [(0, x1), (0, (V9 (p0 + 8) x4)), (4, (p2 : Int))]) (a := p0) (st := []) _ rfl rfl rfl rfl rfl rfl (ly3_o l0) (Nat.le_of_ble_eq_true rfl) (cwv_k0 w (fun V15 w => ?_))
      show wpv K_X3_growFrom d P 63 [some (4, (p0 : Int)), some (0, x1), some (4, (p2 : Int)), some (0, x3), some (0, x4)] [] G R V15
      refine wp_ld (i := (.aload_n 0)) (4, (p0 : Int)) rfl rfl (fun _ => rfl) rfl rfl (?_ : wpv K_X3_growFrom d P 64 [some (4, (p0 : Int)), some (0, x1), some (4, (p2 : Int)), some (0, x3), some (0, x4)] [(4, (p0 : Int))] G R V15)
      refine wp_p (i := (.iconst 0)) rfl rfl (fun _ _ _ => rfl) (?_ : wpv K_X3_growFrom d P 65 [some (4, (p0 : Int)), some (0, x1), some (4, (p2 : Int)), some (0, x3), some (0, x4)] [(0, 0), (4, (p0 : Int))] G R V15)
      refine wp_ld (i := (.aload_n 0)) (4, (p0 : Int)) rfl rfl (fun _ => rfl) rfl rfl (?_ : wpv K_X3_growFrom d P 66 [some (4, (p0 : Int)), some (0, x1), some (4, (p2 : Int)), some (0, x3), some (0, x4)] [(4, (p0 : Int)), (0, 0), (4, (p0 : Int))] G R V15)
      refine wp_rng (fun vr16 => ?_)
      have f17 : i64 (V15 p0 15) := vr_f1 vr16 (ly3_o l0) rfl rfl
      replace w := w f17
      refine wp_getJ (k := 15) rfl rfl rfl (ly3_o l0) rfl rfl (?_ : wpv K_X3_growFrom d P 69 [some (4, (p0 : Int)), some (0, x1), some (4, (p2 : Int)), some (0, x3), some (0, x4)] [(2, (V15 p0 15)), (0, 0), (4, (p0 : Int))] G R V15)
      refine wp_ld (i := (.aload_n 0)) (4, (p0 : Int)) rfl rfl (fun _ => rfl) rfl rfl (?_ : wpv K_X3_growFrom d P 70 [some (4, (p0 : Int)), some (0, x1), some (4, (p2 : Int)), some (0, x3), some (0, x4)] [(4, (p0 : Int)), (2, (V15 p0 15)), (0, 0), (4, (p0 : Int))] G R V15)
      have f18 : i64 (V15 p0 16) := vr_f1 vr16 (ly3_o l0) rfl rfl
      replace w := w f18
      refine wp_getJ (k := 16) rfl rfl rfl (ly3_o l0) rfl rfl (?_ : wpv K_X3_growFrom d P 73 [some (4, (p0 : Int)), some (0, x1), some (4, (p2 : Int)), some (0, x3), some (0, x4)] [(2, (V15 p0 16)), (2, (V15 p0 15)), (0, 0), (4, (p0 : Int))] G R V15)
      refine wp_virt (as := [(0, 0), (2, (V15 p0 15)), (2, (V15 p0 16))]) (a := p0) (st := []) _ rfl rfl rfl rfl rfl rfl (ly3_o l0) (Nat.le_of_ble_eq_true rfl) (cwv_kI w (fun v20 V19 w => ?_))
      show wpv K_X3_growFrom d P 76 [some (4, (p0 : Int)), some (0, x1), some (4, (p2 : Int)), some (0, x3), some (0, x4)] [(0, v20)] G R V19
      refine wp_p (i := (.iconst (-1))) rfl rfl (fun _ _ _ => rfl) (?_ : wpv K_X3_growFrom d P 77 [some (4, (p0 : Int)), some (0, x1), some (4, (p2 : Int)), some (0, x3), some (0, x4)] [(0, (-1)), (0, v20)] G R V19)
      obtain ⟨s21, w⟩ := w
      refine wp_icmp (c := .ne) 98 rfl rfl rfl s21 ⟨by omega, by omega⟩ (fun q => ?_) (fun q => ?_)
      · have q : ¬ v20 = (-1) := q
        replace w := w.1 q
        show wpv K_X3_growFrom d P 98 [some (4, (p0 : Int)), some (0, x1), some (4, (p2 : Int)), some (0, x3), some (0, x4)] [] G R V19
        obtain ⟨s22, w⟩ := w
        refine wp_inc (x := 4) (k := 1) (a := x4) (c := (x4 + 1)) _ rfl rfl rfl rfl s22 (by omega) rfl ?_
        show wpv K_X3_growFrom d P 101 [some (4, (p0 : Int)), some (0, x1), some (4, (p2 : Int)), some (0, x3), some (0, (x4 + 1))] [] G R V19
        refine wp_go 16 rfl rfl rfl (?_ : wpv K_X3_growFrom d P 16 [some (4, (p0 : Int)), some (0, x1), some (4, (p2 : Int)), some (0, x3), some (0, (x4 + 1))] [] G R V19)
        exact wp_wk (wk_s (wk_s (wk_s (wk_s (wk_s wk_0))))) w
      · have q : v20 = (-1) := Decidable.not_not.mp q
        replace w := w.2 q
        show wpv K_X3_growFrom d P 80 [some (4, (p0 : Int)), some (0, x1), some (4, (p2 : Int)), some (0, x3), some (0, x4)] [] G R V19
        refine wp_ld (i := (.aload_n 0)) (4, (p0 : Int)) rfl rfl (fun _ => rfl) rfl rfl (?_ : wpv K_X3_growFrom d P 81 [some (4, (p0 : Int)), some (0, x1), some (4, (p2 : Int)), some (0, x3), some (0, x4)] [(4, (p0 : Int))] G R V19)
        refine wp_ld (i := (.iload_n 1)) (0, x1) rfl rfl (fun _ => rfl) rfl rfl (?_ : wpv K_X3_growFrom d P 82 [some (4, (p0 : Int)), some (0, x1), some (4, (p2 : Int)), some (0, x3), some (0, x4)] [(0, x1), (4, (p0 : Int))] G R V19)
        refine wp_ld (i := (.aload_n 0)) (4, (p0 : Int)) rfl rfl (fun _ => rfl) rfl rfl (?_ : wpv K_X3_growFrom d P 83 [some (4, (p0 : Int)), some (0, x1), some (4, (p2 : Int)), some (0, x3), some (0, x4)] [(4, (p0 : Int)), (0, x1), (4, (p0 : Int))] G R V19)
        refine wp_getA (k := 10) rfl rfl rfl (ly3_o l0) rfl rfl (ly3_10 l0).1 (?_ : wpv K_X3_growFrom d P 86 [some (4, (p0 : Int)), some (0, x1), some (4, (p2 : Int)), some (0, x3), some (0, x4)] [(4, ((p0 + 8 : Nat) : Int)), (0, x1), (4, (p0 : Int))] G R V19)
        refine wp_ld (i := (.iload 4)) (0, x4) rfl rfl (fun _ => rfl) rfl rfl (?_ : wpv K_X3_growFrom d P 88 [some (4, (p0 : Int)), some (0, x1), some (4, (p2 : Int)), some (0, x3), some (0, x4)] [(0, x4), (4, ((p0 + 8 : Nat) : Int)), (0, x1), (4, (p0 : Int))] G R V19)
        refine wp_rng (fun vr23 => ?_)
        have f24 : i32 (V19 (p0 + 8) x4) := vr_a0 vr23 (ly3_10 l0).2 s7
        replace w := w f24
        refine wp_aI rfl rfl (ly3_10 l0).2 s7 (?_ : wpv K_X3_growFrom d P 89 [some (4, (p0 : Int)), some (0, x1), some (4, (p2 : Int)), some (0, x3), some (0, x4)] [(0, (V19 (p0 + 8) x4)), (0, x1), (4, (p0 : Int))] G R V19)
        refine wp_ld (i := (.aload_n 2)) (4, (p2 : Int)) rfl rfl (fun _ => rfl) rfl rfl (?_ : wpv K_X3_growFrom d P 90 [some (4, (p0 : Int)), some (0, x1), some (4, (p2 : Int)), some (0, x3), some (0, x4)] [(4, (p2 : Int)), (0, (V19 (p0 + 8) x4)), (0, x1), (4, (p0 : Int))] G R V19)
        refine wp_virt (as := [(0, x1), (0, (V19 (p0 + 8) x4)), (4, (p2 : Int))]) (a := p0) (st := []) _ rfl rfl rfl rfl rfl rfl (ly3_o l0) (Nat.le_of_ble_eq_true rfl) (cwv_kI w (fun v26 V25 w => ?_))
        show wpv K_X3_growFrom d P 93 [some (4, (p0 : Int)), some (0, x1), some (4, (p2 : Int)), some (0, x3), some (0, x4)] [(0, v26)] G R V25
        obtain ⟨s27, w⟩ := w
        refine wp_if (c := .ne) 98 rfl rfl rfl s27 (fun q => ?_) (fun q => ?_)
        · have q : ¬ v26 = 0 := q
          replace w := w.1 q
          show wpv K_X3_growFrom d P 98 [some (4, (p0 : Int)), some (0, x1), some (4, (p2 : Int)), some (0, x3), some (0, x4)] [] G R V25
          obtain ⟨s28, w⟩ := w
          refine wp_inc (x := 4) (k := 1) (a := x4) (c := (x4 + 1)) _ rfl rfl rfl rfl s28 (by omega) rfl ?_
          show wpv K_X3_growFrom d P 101 [some (4, (p0 : Int)), some (0, x1), some (4, (p2 : Int)), some (0, x3), some (0, (x4 + 1))] [] G R V25
          refine wp_go 16 rfl rfl rfl (?_ : wpv K_X3_growFrom d P 16 [some (4, (p0 : Int)), some (0, x1), some (4, (p2 : Int)), some (0, x3), some (0, (x4 + 1))] [] G R V25)
          exact wp_wk (wk_s (wk_s (wk_s (wk_s (wk_s wk_0))))) w
        · have q : v26 = 0 := Decidable.not_not.mp q
          replace w := w.2 q
          show wpv K_X3_growFrom d P 96 [some (4, (p0 : Int)), some (0, x1), some (4, (p2 : Int)), some (0, x3), some (0, x4)] [] G R V25
          refine wp_p (i := (.iconst 0)) rfl rfl (fun _ _ _ => rfl) (?_ : wpv K_X3_growFrom d P 97 [some (4, (p0 : Int)), some (0, x1), some (4, (p2 : Int)), some (0, x3), some (0, x4)] [(0, 0)] G R V25)
          exact wp_rB rfl rfl rfl (by omega) w
theorem t_X3_gatherMembers_0 {d : Nat} {P : gP} {p0 : Nat} {x1 : Int} {p2 : Nat} {G : List gS} {R V : gV} (l0 : lay3 G R p0) (l2 : lay6 G R p2) (w : wpv K_X3_gatherMembers d P 7 [some (4, (p0 : Int)), some (0, x1), some (4, (p2 : Int)), some (0, 0)] [] G R (wr V p0 12 0)) : wpv K_X3_gatherMembers d P 0 [some (4, (p0 : Int)), some (0, x1), some (4, (p2 : Int))] [] G R V := by
  refine wp_ld (i := (.aload_n 0)) (4, (p0 : Int)) rfl rfl (fun _ => rfl) rfl rfl (?_ : wpv K_X3_gatherMembers d P 1 [some (4, (p0 : Int)), some (0, x1), some (4, (p2 : Int))] [(4, (p0 : Int))] G R V)
  refine wp_p (i := (.iconst 0)) rfl rfl (fun _ _ _ => rfl) (?_ : wpv K_X3_gatherMembers d P 2 [some (4, (p0 : Int)), some (0, x1), some (4, (p2 : Int))] [(0, 0), (4, (p0 : Int))] G R V)
  refine wp_putI (k := 12) rfl rfl rfl (ly3_o l0) rfl rfl rfl ⟨by omega, by omega⟩ (?_ : wpv K_X3_gatherMembers d P 5 [some (4, (p0 : Int)), some (0, x1), some (4, (p2 : Int))] [] G R (wr V p0 12 0))
  refine wp_p (i := (.iconst 0)) rfl rfl (fun _ _ _ => rfl) (?_ : wpv K_X3_gatherMembers d P 6 [some (4, (p0 : Int)), some (0, x1), some (4, (p2 : Int))] [(0, 0)] G R (wr V p0 12 0))
  refine wp_sto (i := (.istore_n 3)) _ rfl rfl (fun _ => rfl) rfl rfl rfl ?_
  refine wp_wk (L' := [some (4, (p0 : Int)), some (0, x1), some (4, (p2 : Int)), some (0, 0)]) (wk_s (wk_s (wk_s (wk_s wk_0)))) ?_
  show wpv K_X3_gatherMembers d P 7 [some (4, (p0 : Int)), some (0, x1), some (4, (p2 : Int)), some (0, 0)] [] G R (wr V p0 12 0)
  exact wp_wk (wk_s (wk_s (wk_s (wk_s wk_0)))) w

theorem t_X3_gatherMembers_7 {d : Nat} {P : gP} {p0 : Nat} {x1 : Int} {p2 : Nat} {x3 : Int} {G : List gS} {R V : gV} (l0 : lay3 G R p0) (l2 : lay6 G R p2) (w : ((i32 (V p2 1)) → ((i32 x3) ∧ (((¬ x3 < (V p2 1)) → P none V) ∧ ((x3 < (V p2 1)) → ((0 ≤ x1 ∧ x1 < 300) ∧ ((i64 (V (p0 + 1) x1)) → ((i64 (V (p0 + 2) x1)) → cwv d (fun r V7 => ∃ v8 : Int, r = some (0, v8) ∧ ((i32 v8) ∧ (((v8 = 0) → ((i32 (x3 + 1)) ∧ wpv K_X3_gatherMembers d P 7 [some (4, (p0 : Int)), some (0, x1), some (4, (p2 : Int)), some (0, (x3 + 1))] [] G R V7)) ∧ ((¬ v8 = 0) → ((i32 (V7 p0 12)) → ((0 ≤ (V7 p0 12) ∧ (V7 p0 12) < 120) ∧ ((i32 ((V7 p0 12) + 1)) ∧ ((i32 (x3 + 1)) ∧ wpv K_X3_gatherMembers d P 7 [some (4, (p0 : Int)), some (0, x1), some (4, (p2 : Int)), some (0, (x3 + 1))] [] G R (wr (wr V7 (p0 + 10) ((V7 p0 12)) x3) p0 12 (((V7 p0 12) + 1))))))))))) 149 [(2, (V (p0 + 1) x1)), (2, (V (p0 + 2) x1)), (0, x3)] G R V)))))))) : wpv K_X3_gatherMembers d P 7 [some (4, (p0 : Int)), some (0, x1), some (4, (p2 : Int)), some (0, x3)] [] G R V := by
  refine wp_ld (i := (.iload_n 3)) (0, x3) rfl rfl (fun _ => rfl) rfl rfl (?_ : wpv K_X3_gatherMembers d P 8 [some (4, (p0 : Int)), some (0, x1), some (4, (p2 : Int)), some (0, x3)] [(0, x3)] G R V)
  refine wp_ld (i := (.aload_n 2)) (4, (p2 : Int)) rfl rfl (fun _ => rfl) rfl rfl (?_ : wpv K_X3_gatherMembers d P 9 [some (4, (p0 : Int)), some (0, x1), some (4, (p2 : Int)), some (0, x3)] [(4, (p2 : Int)), (0, x3)] G R V)
  refine wp_rng (fun vr1 => ?_)
  have f2 : i32 (V p2 1) := vr_f0 vr1 (ly6_o l2) rfl rfl
  replace w := w f2
  refine wp_getI (k := 1) rfl rfl rfl (ly6_o l2) rfl rfl (?_ : wpv K_X3_gatherMembers d P 12 [some (4, (p0 : Int)), some (0, x1), some (4, (p2 : Int)), some (0, x3)] [(0, (V p2 1)), (0, x3)] G R V)
  obtain ⟨s3, w⟩ := w
  refine wp_icmp (c := .ge) 60 rfl rfl rfl s3 f2 (fun q => ?_) (fun q => ?_)
  · have q : ¬ x3 < (V p2 1) := q
    replace w := w.1 q
    show wpv K_X3_gatherMembers d P 60 [some (4, (p0 : Int)), some (0, x1), some (4, (p2 : Int)), some (0, x3)] [] G R V
    exact wp_r0 rfl rfl rfl w
  · have q : x3 < (V p2 1) := Decidable.not_not.mp q
    replace w := w.2 q
    show wpv K_X3_gatherMembers d P 15 [some (4, (p0 : Int)), some (0, x1), some (4, (p2 : Int)), some (0, x3)] [] G R V
    refine wp_ld (i := (.aload_n 0)) (4, (p0 : Int)) rfl rfl (fun _ => rfl) rfl rfl (?_ : wpv K_X3_gatherMembers d P 16 [some (4, (p0 : Int)), some (0, x1), some (4, (p2 : Int)), some (0, x3)] [(4, (p0 : Int))] G R V)
    refine wp_getA (k := 1) rfl rfl rfl (ly3_o l0) rfl rfl (ly3_1 l0).1 (?_ : wpv K_X3_gatherMembers d P 19 [some (4, (p0 : Int)), some (0, x1), some (4, (p2 : Int)), some (0, x3)] [(4, ((p0 + 1 : Nat) : Int))] G R V)
    refine wp_ld (i := (.iload_n 1)) (0, x1) rfl rfl (fun _ => rfl) rfl rfl (?_ : wpv K_X3_gatherMembers d P 20 [some (4, (p0 : Int)), some (0, x1), some (4, (p2 : Int)), some (0, x3)] [(0, x1), (4, ((p0 + 1 : Nat) : Int))] G R V)
    obtain ⟨s4, w⟩ := w
    have f5 : i64 (V (p0 + 1) x1) := vr_a1 vr1 (ly3_1 l0).2 s4
    replace w := w f5
    refine wp_aJ rfl rfl (ly3_1 l0).2 s4 (?_ : wpv K_X3_gatherMembers d P 21 [some (4, (p0 : Int)), some (0, x1), some (4, (p2 : Int)), some (0, x3)] [(2, (V (p0 + 1) x1))] G R V)
    refine wp_ld (i := (.aload_n 0)) (4, (p0 : Int)) rfl rfl (fun _ => rfl) rfl rfl (?_ : wpv K_X3_gatherMembers d P 22 [some (4, (p0 : Int)), some (0, x1), some (4, (p2 : Int)), some (0, x3)] [(4, (p0 : Int)), (2, (V (p0 + 1) x1))] G R V)
    refine wp_getA (k := 2) rfl rfl rfl (ly3_o l0) rfl rfl (ly3_2 l0).1 (?_ : wpv K_X3_gatherMembers d P 25 [some (4, (p0 : Int)), some (0, x1), some (4, (p2 : Int)), some (0, x3)] [(4, ((p0 + 2 : Nat) : Int)), (2, (V (p0 + 1) x1))] G R V)
    refine wp_ld (i := (.iload_n 1)) (0, x1) rfl rfl (fun _ => rfl) rfl rfl (?_ : wpv K_X3_gatherMembers d P 26 [some (4, (p0 : Int)), some (0, x1), some (4, (p2 : Int)), some (0, x3)] [(0, x1), (4, ((p0 + 2 : Nat) : Int)), (2, (V (p0 + 1) x1))] G R V)
    have f6 : i64 (V (p0 + 2) x1) := vr_a1 vr1 (ly3_2 l0).2 s4
    replace w := w f6
    refine wp_aJ rfl rfl (ly3_2 l0).2 s4 (?_ : wpv K_X3_gatherMembers d P 27 [some (4, (p0 : Int)), some (0, x1), some (4, (p2 : Int)), some (0, x3)] [(2, (V (p0 + 2) x1)), (2, (V (p0 + 1) x1))] G R V)
    refine wp_ld (i := (.iload_n 3)) (0, x3) rfl rfl (fun _ => rfl) rfl rfl (?_ : wpv K_X3_gatherMembers d P 28 [some (4, (p0 : Int)), some (0, x1), some (4, (p2 : Int)), some (0, x3)] [(0, x3), (2, (V (p0 + 2) x1)), (2, (V (p0 + 1) x1))] G R V)
    refine wp_stat (as := [(2, (V (p0 + 1) x1)), (2, (V (p0 + 2) x1)), (0, x3)]) (st := []) _ rfl rfl rfl (by omega) rfl rfl (Nat.le_of_ble_eq_true rfl) (cwv_kI w (fun v8 V7 w => ?_))
    show wpv K_X3_gatherMembers d P 31 [some (4, (p0 : Int)), some (0, x1), some (4, (p2 : Int)), some (0, x3)] [(0, v8)] G R V7
    obtain ⟨s9, w⟩ := w
    refine wp_if (c := .eq) 54 rfl rfl rfl s9 (fun q => ?_) (fun q => ?_)
    · have q : v8 = 0 := q
      replace w := w.1 q
      show wpv K_X3_gatherMembers d P 54 [some (4, (p0 : Int)), some (0, x1), some (4, (p2 : Int)), some (0, x3)] [] G R V7
      obtain ⟨s10, w⟩ := w
      refine wp_inc (x := 3) (k := 1) (a := x3) (c := (x3 + 1)) _ rfl rfl rfl rfl s10 (by omega) rfl ?_
      show wpv K_X3_gatherMembers d P 57 [some (4, (p0 : Int)), some (0, x1), some (4, (p2 : Int)), some (0, (x3 + 1))] [] G R V7
      refine wp_go 7 rfl rfl rfl (?_ : wpv K_X3_gatherMembers d P 7 [some (4, (p0 : Int)), some (0, x1), some (4, (p2 : Int)), some (0, (x3 + 1))] [] G R V7)
      exact wp_wk (wk_s (wk_s (wk_s (wk_s wk_0)))) w
    · have q : ¬ v8 = 0 := q
      replace w := w.2 q
      show wpv K_X3_gatherMembers d P 34 [some (4, (p0 : Int)), some (0, x1), some (4, (p2 : Int)), some (0, x3)] [] G R V7
      refine wp_ld (i := (.aload_n 0)) (4, (p0 : Int)) rfl rfl (fun _ => rfl) rfl rfl (?_ : wpv K_X3_gatherMembers d P 35 [some (4, (p0 : Int)), some (0, x1), some (4, (p2 : Int)), some (0, x3)] [(4, (p0 : Int))] G R V7)
      refine wp_getA (k := 13) rfl rfl rfl (ly3_o l0) rfl rfl (ly3_13 l0).1 (?_ : wpv K_X3_gatherMembers d P 38 [some (4, (p0 : Int)), some (0, x1), some (4, (p2 : Int)), some (0, x3)] [(4, ((p0 + 10 : Nat) : Int))] G R V7)
      refine wp_ld (i := (.aload_n 0)) (4, (p0 : Int)) rfl rfl (fun _ => rfl) rfl rfl (?_ : wpv K_X3_gatherMembers d P 39 [some (4, (p0 : Int)), some (0, x1), some (4, (p2 : Int)), some (0, x3)] [(4, (p0 : Int)), (4, ((p0 + 10 : Nat) : Int))] G R V7)
      refine wp_rng (fun vr11 => ?_)
      have f12 : i32 (V7 p0 12) := vr_f0 vr11 (ly3_o l0) rfl rfl
      replace w := w f12
      refine wp_getI (k := 12) rfl rfl rfl (ly3_o l0) rfl rfl (?_ : wpv K_X3_gatherMembers d P 42 [some (4, (p0 : Int)), some (0, x1), some (4, (p2 : Int)), some (0, x3)] [(0, (V7 p0 12)), (4, ((p0 + 10 : Nat) : Int))] G R V7)
      refine wp_ld (i := (.iload_n 3)) (0, x3) rfl rfl (fun _ => rfl) rfl rfl (?_ : wpv K_X3_gatherMembers d P 43 [some (4, (p0 : Int)), some (0, x1), some (4, (p2 : Int)), some (0, x3)] [(0, x3), (0, (V7 p0 12)), (4, ((p0 + 10 : Nat) : Int))] G R V7)
      obtain ⟨s13, w⟩ := w
      refine wp_sI rfl rfl (ly3_13 l0).2 s13 s3 (?_ : wpv K_X3_gatherMembers d P 44 [some (4, (p0 : Int)), some (0, x1), some (4, (p2 : Int)), some (0, x3)] [] G R (wr V7 (p0 + 10) ((V7 p0 12)) x3))
      refine wp_ld (i := (.aload_n 0)) (4, (p0 : Int)) rfl rfl (fun _ => rfl) rfl rfl (?_ : wpv K_X3_gatherMembers d P 45 [some (4, (p0 : Int)), some (0, x1), some (4, (p2 : Int)), some (0, x3)] [(4, (p0 : Int))] G R (wr V7 (p0 + 10) ((V7 p0 12)) x3))
      refine wp_p (i := .dup) rfl rfl (fun _ _ _ => rfl) (?_ : wpv K_X3_gatherMembers d P 46 [some (4, (p0 : Int)), some (0, x1), some (4, (p2 : Int)), some (0, x3)] [(4, (p0 : Int)), (4, (p0 : Int))] G R (wr V7 (p0 + 10) ((V7 p0 12)) x3))
      refine wp_rng (fun vr14 => ?_)
      have r15 : ((wr V7 (p0 + 10) ((V7 p0 12)) x3) p0 12) = (V7 p0 12) := (wr_a (by omega))
      refine wp_getIe (k := 12) rfl rfl rfl (ly3_o l0) rfl rfl r15 (?_ : wpv K_X3_gatherMembers d P 49 [some (4, (p0 : Int)), some (0, x1), some (4, (p2 : Int)), some (0, x3)] [(0, (V7 p0 12)), (4, (p0 : Int))] G R (wr V7 (p0 + 10) ((V7 p0 12)) x3))
      refine wp_p (i := (.iconst 1)) rfl rfl (fun _ _ _ => rfl) (?_ : wpv K_X3_gatherMembers d P 50 [some (4, (p0 : Int)), some (0, x1), some (4, (p2 : Int)), some (0, x3)] [(0, 1), (0, (V7 p0 12)), (4, (p0 : Int))] G R (wr V7 (p0 + 10) ((V7 p0 12)) x3))
      obtain ⟨s16, w⟩ := w
      refine wp_xadd rfl rfl s16 (?_ : wpv K_X3_gatherMembers d P 51 [some (4, (p0 : Int)), some (0, x1), some (4, (p2 : Int)), some (0, x3)] [(0, ((V7 p0 12) + 1)), (4, (p0 : Int))] G R (wr V7 (p0 + 10) ((V7 p0 12)) x3))
      refine wp_putI (k := 12) rfl rfl rfl (ly3_o l0) rfl rfl rfl s16 (?_ : wpv K_X3_gatherMembers d P 54 [some (4, (p0 : Int)), some (0, x1), some (4, (p2 : Int)), some (0, x3)] [] G R (wr (wr V7 (p0 + 10) ((V7 p0 12)) x3) p0 12 (((V7 p0 12) + 1))))
      obtain ⟨s17, w⟩ := w
      refine wp_inc (x := 3) (k := 1) (a := x3) (c := (x3 + 1)) _ rfl rfl rfl rfl s17 (by omega) rfl ?_
      show wpv K_X3_gatherMembers d P 57 [some (4, (p0 : Int)), some (0, x1), some (4, (p2 : Int)), some (0, (x3 + 1))] [] G R (wr (wr V7 (p0 + 10) ((V7 p0 12)) x3) p0 12 (((V7 p0 12) + 1)))
      refine wp_go 7 rfl rfl rfl (?_ : wpv K_X3_gatherMembers d P 7 [some (4, (p0 : Int)), some (0, x1), some (4, (p2 : Int)), some (0, (x3 + 1))] [] G R (wr (wr V7 (p0 + 10) ((V7 p0 12)) x3) p0 12 (((V7 p0 12) + 1))))
      exact wp_wk (wk_s (wk_s (wk_s (wk_s wk_0)))) w
theorem t_X3_close_0 {d : Nat} {P : gP} {p0 : Nat} {x1 : Int} {x2 : Int} {p3 : Nat} {G : List gS} {R V : gV} (l0 : lay3 G R p0) (l3 : lay6 G R p3) (w : ((0 ≤ x1 ∧ x1 < 300) ∧ ((i32 (V (p0 + 5) x1)) → ((0 ≤ (V (p0 + 5) x1) ∧ (V (p0 + 5) x1) < 300) ∧ ((i64 (V (p0 + 1) ((V (p0 + 5) x1)))) → ((i64 (V (p0 + 2) ((V (p0 + 5) x1)))) → wpv K_X3_close d P 43 [some (4, (p0 : Int)), some (0, x1), some (0, x2), some (4, (p3 : Int)), some (0, 1), some (0, 0)] [] G R (wr (wr (wr V p0 15 ((V (p0 + 1) ((V (p0 + 5) x1))))) p0 16 ((V (p0 + 2) ((V (p0 + 5) x1))))) (p0 + 11) 0 0))))))) : wpv K_X3_close d P 0 [some (4, (p0 : Int)), some (0, x1), some (0, x2), some (4, (p3 : Int))] [] G R V := by
  refine wp_ld (i := (.aload_n 0)) (4, (p0 : Int)) rfl rfl (fun _ => rfl) rfl rfl (?_ : wpv K_X3_close d P 1 [some (4, (p0 : Int)), some (0, x1), some (0, x2), some (4, (p3 : Int))] [(4, (p0 : Int))] G R V)
  refine wp_ld (i := (.aload_n 0)) (4, (p0 : Int)) rfl rfl (fun _ => rfl) rfl rfl (?_ : wpv K_X3_close d P 2 [some (4, (p0 : Int)), some (0, x1), some (0, x2), some (4, (p3 : Int))] [(4, (p0 : Int)), (4, (p0 : Int))] G R V)
  refine wp_getA (k := 1) rfl rfl rfl (ly3_o l0) rfl rfl (ly3_1 l0).1 (?_ : wpv K_X3_close d P 5 [some (4, (p0 : Int)), some (0, x1), some (0, x2), some (4, (p3 : Int))] [(4, ((p0 + 1 : Nat) : Int)), (4, (p0 : Int))] G R V)
  refine wp_ld (i := (.aload_n 0)) (4, (p0 : Int)) rfl rfl (fun _ => rfl) rfl rfl (?_ : wpv K_X3_close d P 6 [some (4, (p0 : Int)), some (0, x1), some (0, x2), some (4, (p3 : Int))] [(4, (p0 : Int)), (4, ((p0 + 1 : Nat) : Int)), (4, (p0 : Int))] G R V)
  refine wp_getA (k := 6) rfl rfl rfl (ly3_o l0) rfl rfl (ly3_6 l0).1 (?_ : wpv K_X3_close d P 9 [some (4, (p0 : Int)), some (0, x1), some (0, x2), some (4, (p3 : Int))] [(4, ((p0 + 5 : Nat) : Int)), (4, ((p0 + 1 : Nat) : Int)), (4, (p0 : Int))] G R V)
  refine wp_ld (i := (.iload_n 1)) (0, x1) rfl rfl (fun _ => rfl) rfl rfl (?_ : wpv K_X3_close d P 10 [some (4, (p0 : Int)), some (0, x1), some (0, x2), some (4, (p3 : Int))] [(0, x1), (4, ((p0 + 5 : Nat) : Int)), (4, ((p0 + 1 : Nat) : Int)), (4, (p0 : Int))] G R V)
  obtain ⟨s1, w⟩ := w
  refine wp_rng (fun vr2 => ?_)
  have f3 : i32 (V (p0 + 5) x1) := vr_a0 vr2 (ly3_6 l0).2 s1
  replace w := w f3
  refine wp_aI rfl rfl (ly3_6 l0).2 s1 (?_ : wpv K_X3_close d P 11 [some (4, (p0 : Int)), some (0, x1), some (0, x2), some (4, (p3 : Int))] [(0, (V (p0 + 5) x1)), (4, ((p0 + 1 : Nat) : Int)), (4, (p0 : Int))] G R V)
  obtain ⟨s4, w⟩ := w
  have f5 : i64 (V (p0 + 1) ((V (p0 + 5) x1))) := vr_a1 vr2 (ly3_1 l0).2 s4
  replace w := w f5
  refine wp_aJ rfl rfl (ly3_1 l0).2 s4 (?_ : wpv K_X3_close d P 12 [some (4, (p0 : Int)), some (0, x1), some (0, x2), some (4, (p3 : Int))] [(2, (V (p0 + 1) ((V (p0 + 5) x1)))), (4, (p0 : Int))] G R V)
  refine wp_putJ (k := 15) rfl rfl rfl (ly3_o l0) rfl rfl rfl f5 (?_ : wpv K_X3_close d P 15 [some (4, (p0 : Int)), some (0, x1), some (0, x2), some (4, (p3 : Int))] [] G R (wr V p0 15 ((V (p0 + 1) ((V (p0 + 5) x1))))))
  refine wp_ld (i := (.aload_n 0)) (4, (p0 : Int)) rfl rfl (fun _ => rfl) rfl rfl (?_ : wpv K_X3_close d P 16 [some (4, (p0 : Int)), some (0, x1), some (0, x2), some (4, (p3 : Int))] [(4, (p0 : Int))] G R (wr V p0 15 ((V (p0 + 1) ((V (p0 + 5) x1))))))
  refine wp_ld (i := (.aload_n 0)) (4, (p0 : Int)) rfl rfl (fun _ => rfl) rfl rfl (?_ : wpv K_X3_close d P 17 [some (4, (p0 : Int)), some (0, x1), some (0, x2), some (4, (p3 : Int))] [(4, (p0 : Int)), (4, (p0 : Int))] G R (wr V p0 15 ((V (p0 + 1) ((V (p0 + 5) x1))))))
  refine wp_getA (k := 2) rfl rfl rfl (ly3_o l0) rfl rfl (ly3_2 l0).1 (?_ : wpv K_X3_close d P 20 [some (4, (p0 : Int)), some (0, x1), some (0, x2), some (4, (p3 : Int))] [(4, ((p0 + 2 : Nat) : Int)), (4, (p0 : Int))] G R (wr V p0 15 ((V (p0 + 1) ((V (p0 + 5) x1))))))
  refine wp_ld (i := (.aload_n 0)) (4, (p0 : Int)) rfl rfl (fun _ => rfl) rfl rfl (?_ : wpv K_X3_close d P 21 [some (4, (p0 : Int)), some (0, x1), some (0, x2), some (4, (p3 : Int))] [(4, (p0 : Int)), (4, ((p0 + 2 : Nat) : Int)), (4, (p0 : Int))] G R (wr V p0 15 ((V (p0 + 1) ((V (p0 + 5) x1))))))
  refine wp_getA (k := 6) rfl rfl rfl (ly3_o l0) rfl rfl (ly3_6 l0).1 (?_ : wpv K_X3_close d P 24 [some (4, (p0 : Int)), some (0, x1), some (0, x2), some (4, (p3 : Int))] [(4, ((p0 + 5 : Nat) : Int)), (4, ((p0 + 2 : Nat) : Int)), (4, (p0 : Int))] G R (wr V p0 15 ((V (p0 + 1) ((V (p0 + 5) x1))))))
  refine wp_ld (i := (.iload_n 1)) (0, x1) rfl rfl (fun _ => rfl) rfl rfl (?_ : wpv K_X3_close d P 25 [some (4, (p0 : Int)), some (0, x1), some (0, x2), some (4, (p3 : Int))] [(0, x1), (4, ((p0 + 5 : Nat) : Int)), (4, ((p0 + 2 : Nat) : Int)), (4, (p0 : Int))] G R (wr V p0 15 ((V (p0 + 1) ((V (p0 + 5) x1))))))
  refine wp_rng (fun vr6 => ?_)
  have r7 : ((wr V p0 15 ((V (p0 + 1) ((V (p0 + 5) x1))))) (p0 + 5) x1) = (V (p0 + 5) x1) := (wr_a (by omega))
  refine wp_aIe rfl rfl (ly3_6 l0).2 s1 r7 (?_ : wpv K_X3_close d P 26 [some (4, (p0 : Int)), some (0, x1), some (0, x2), some (4, (p3 : Int))] [(0, (V (p0 + 5) x1)), (4, ((p0 + 2 : Nat) : Int)), (4, (p0 : Int))] G R (wr V p0 15 ((V (p0 + 1) ((V (p0 + 5) x1))))))
  have r8 : ((wr V p0 15 ((V (p0 + 1) ((V (p0 + 5) x1))))) (p0 + 2) ((V (p0 + 5) x1))) = (V (p0 + 2) ((V (p0 + 5) x1))) := (wr_a (by omega))
  have f9 : i64 (V (p0 + 2) ((V (p0 + 5) x1))) := (by have h := vr_a1 vr6 (ly3_2 l0).2 s4; rw [r8] at h; exact h)
  replace w := w f9
  refine wp_aJe rfl rfl (ly3_2 l0).2 s4 r8 (?_ : wpv K_X3_close d P 27 [some (4, (p0 : Int)), some (0, x1), some (0, x2), some (4, (p3 : Int))] [(2, (V (p0 + 2) ((V (p0 + 5) x1)))), (4, (p0 : Int))] G R (wr V p0 15 ((V (p0 + 1) ((V (p0 + 5) x1))))))
  refine wp_putJ (k := 16) rfl rfl rfl (ly3_o l0) rfl rfl rfl f9 (?_ : wpv K_X3_close d P 30 [some (4, (p0 : Int)), some (0, x1), some (0, x2), some (4, (p3 : Int))] [] G R (wr (wr V p0 15 ((V (p0 + 1) ((V (p0 + 5) x1))))) p0 16 ((V (p0 + 2) ((V (p0 + 5) x1))))))
  refine wp_ld (i := (.aload_n 0)) (4, (p0 : Int)) rfl rfl (fun _ => rfl) rfl rfl (?_ : wpv K_X3_close d P 31 [some (4, (p0 : Int)), some (0, x1), some (0, x2), some (4, (p3 : Int))] [(4, (p0 : Int))] G R (wr (wr V p0 15 ((V (p0 + 1) ((V (p0 + 5) x1))))) p0 16 ((V (p0 + 2) ((V (p0 + 5) x1))))))
  refine wp_getA (k := 14) rfl rfl rfl (ly3_o l0) rfl rfl (ly3_14 l0).1 (?_ : wpv K_X3_close d P 34 [some (4, (p0 : Int)), some (0, x1), some (0, x2), some (4, (p3 : Int))] [(4, ((p0 + 11 : Nat) : Int))] G R (wr (wr V p0 15 ((V (p0 + 1) ((V (p0 + 5) x1))))) p0 16 ((V (p0 + 2) ((V (p0 + 5) x1))))))
  refine wp_p (i := (.iconst 0)) rfl rfl (fun _ _ _ => rfl) (?_ : wpv K_X3_close d P 35 [some (4, (p0 : Int)), some (0, x1), some (0, x2), some (4, (p3 : Int))] [(0, 0), (4, ((p0 + 11 : Nat) : Int))] G R (wr (wr V p0 15 ((V (p0 + 1) ((V (p0 + 5) x1))))) p0 16 ((V (p0 + 2) ((V (p0 + 5) x1))))))
  refine wp_p (i := (.iconst 0)) rfl rfl (fun _ _ _ => rfl) (?_ : wpv K_X3_close d P 36 [some (4, (p0 : Int)), some (0, x1), some (0, x2), some (4, (p3 : Int))] [(0, 0), (0, 0), (4, ((p0 + 11 : Nat) : Int))] G R (wr (wr V p0 15 ((V (p0 + 1) ((V (p0 + 5) x1))))) p0 16 ((V (p0 + 2) ((V (p0 + 5) x1))))))
  refine wp_sI rfl rfl (ly3_14 l0).2 ⟨by omega, by omega⟩ ⟨by omega, by omega⟩ (?_ : wpv K_X3_close d P 37 [some (4, (p0 : Int)), some (0, x1), some (0, x2), some (4, (p3 : Int))] [] G R (wr (wr (wr V p0 15 ((V (p0 + 1) ((V (p0 + 5) x1))))) p0 16 ((V (p0 + 2) ((V (p0 + 5) x1))))) (p0 + 11) 0 0))
  refine wp_p (i := (.iconst 1)) rfl rfl (fun _ _ _ => rfl) (?_ : wpv K_X3_close d P 38 [some (4, (p0 : Int)), some (0, x1), some (0, x2), some (4, (p3 : Int))] [(0, 1)] G R (wr (wr (wr V p0 15 ((V (p0 + 1) ((V (p0 + 5) x1))))) p0 16 ((V (p0 + 2) ((V (p0 + 5) x1))))) (p0 + 11) 0 0))
  refine wp_sto (i := (.istore 4)) _ rfl rfl (fun _ => rfl) rfl rfl rfl ?_
  refine wp_wk (L' := [some (4, (p0 : Int)), some (0, x1), some (0, x2), some (4, (p3 : Int)), some (0, 1)]) (wk_s (wk_s (wk_s (wk_s (wk_s wk_0))))) ?_
  show wpv K_X3_close d P 40 [some (4, (p0 : Int)), some (0, x1), some (0, x2), some (4, (p3 : Int)), some (0, 1)] [] G R (wr (wr (wr V p0 15 ((V (p0 + 1) ((V (p0 + 5) x1))))) p0 16 ((V (p0 + 2) ((V (p0 + 5) x1))))) (p0 + 11) 0 0)
  refine wp_p (i := (.iconst 0)) rfl rfl (fun _ _ _ => rfl) (?_ : wpv K_X3_close d P 41 [some (4, (p0 : Int)), some (0, x1), some (0, x2), some (4, (p3 : Int)), some (0, 1)] [(0, 0)] G R (wr (wr (wr V p0 15 ((V (p0 + 1) ((V (p0 + 5) x1))))) p0 16 ((V (p0 + 2) ((V (p0 + 5) x1))))) (p0 + 11) 0 0))
  refine wp_sto (i := (.istore 5)) _ rfl rfl (fun _ => rfl) rfl rfl rfl ?_
  refine wp_wk (L' := [some (4, (p0 : Int)), some (0, x1), some (0, x2), some (4, (p3 : Int)), some (0, 1), some (0, 0)]) (wk_s (wk_s (wk_s (wk_s (wk_s (wk_s wk_0)))))) ?_
  show wpv K_X3_close d P 43 [some (4, (p0 : Int)), some (0, x1), some (0, x2), some (4, (p3 : Int)), some (0, 1), some (0, 0)] [] G R (wr (wr (wr V p0 15 ((V (p0 + 1) ((V (p0 + 5) x1))))) p0 16 ((V (p0 + 2) ((V (p0 + 5) x1))))) (p0 + 11) 0 0)
  exact wp_wk (wk_s (wk_s (wk_s (wk_s (wk_s (wk_s wk_0)))))) w

theorem t_X3_close_43 {d : Nat} {P : gP} {p0 : Nat} {x1 : Int} {x2 : Int} {p3 : Nat} {x4 : Int} {x5 : Int} {G : List gS} {R V : gV} (l0 : lay3 G R p0) (l3 : lay6 G R p3) (w : ((i32 x5) ∧ ((i32 x4) ∧ (((¬ x5 < x4) → ((i32 (V p0 12)) → ((i32 ((V p0 12) * x4)) ∧ P none (wr V p0 17 (((V p0 12) * x4)))))) ∧ ((x5 < x4) → (((¬ x5 < 120) → ((i32 (V p0 12)) → ((i32 ((V p0 12) * x4)) ∧ P none (wr V p0 17 (((V p0 12) * x4)))))) ∧ ((x5 < 120) → wpv K_X3_close d P 60 [some (4, (p0 : Int)), some (0, x1), some (0, x2), some (4, (p3 : Int)), some (0, x4), some (0, x5), some (0, 0)] [] G R V))))))) : wpv K_X3_close d P 43 [some (4, (p0 : Int)), some (0, x1), some (0, x2), some (4, (p3 : Int)), some (0, x4), some (0, x5)] [] G R V := by
  refine wp_ld (i := (.iload 5)) (0, x5) rfl rfl (fun _ => rfl) rfl rfl (?_ : wpv K_X3_close d P 45 [some (4, (p0 : Int)), some (0, x1), some (0, x2), some (4, (p3 : Int)), some (0, x4), some (0, x5)] [(0, x5)] G R V)
  refine wp_ld (i := (.iload 4)) (0, x4) rfl rfl (fun _ => rfl) rfl rfl (?_ : wpv K_X3_close d P 47 [some (4, (p0 : Int)), some (0, x1), some (0, x2), some (4, (p3 : Int)), some (0, x4), some (0, x5)] [(0, x4), (0, x5)] G R V)
  obtain ⟨s1, w⟩ := w
  obtain ⟨s2, w⟩ := w
  refine wp_icmp (c := .ge) 169 rfl rfl rfl s1 s2 (fun q => ?_) (fun q => ?_)
  · have q : ¬ x5 < x4 := q
    replace w := w.1 q
    show wpv K_X3_close d P 169 [some (4, (p0 : Int)), some (0, x1), some (0, x2), some (4, (p3 : Int)), some (0, x4), some (0, x5)] [] G R V
    refine wp_ld (i := (.aload_n 0)) (4, (p0 : Int)) rfl rfl (fun _ => rfl) rfl rfl (?_ : wpv K_X3_close d P 170 [some (4, (p0 : Int)), some (0, x1), some (0, x2), some (4, (p3 : Int)), some (0, x4), some (0, x5)] [(4, (p0 : Int))] G R V)
    refine wp_ld (i := (.aload_n 0)) (4, (p0 : Int)) rfl rfl (fun _ => rfl) rfl rfl (?_ : wpv K_X3_close d P 171 [some (4, (p0 : Int)), some (0, x1), some (0, x2), some (4, (p3 : Int)), some (0, x4), some (0, x5)] [(4, (p0 : Int)), (4, (p0 : Int))] G R V)
    refine wp_rng (fun vr3 => ?_)
    have f4 : i32 (V p0 12) := vr_f0 vr3 (ly3_o l0) rfl rfl
    replace w := w f4
    refine wp_getI (k := 12) rfl rfl rfl (ly3_o l0) rfl rfl (?_ : wpv K_X3_close d P 174 [some (4, (p0 : Int)), some (0, x1), some (0, x2), some (4, (p3 : Int)), some (0, x4), some (0, x5)] [(0, (V p0 12)), (4, (p0 : Int))] G R V)
    refine wp_ld (i := (.iload 4)) (0, x4) rfl rfl (fun _ => rfl) rfl rfl (?_ : wpv K_X3_close d P 176 [some (4, (p0 : Int)), some (0, x1), some (0, x2), some (4, (p3 : Int)), some (0, x4), some (0, x5)] [(0, x4), (0, (V p0 12)), (4, (p0 : Int))] G R V)
    obtain ⟨s5, w⟩ := w
    refine wp_xmul rfl rfl s5 (?_ : wpv K_X3_close d P 177 [some (4, (p0 : Int)), some (0, x1), some (0, x2), some (4, (p3 : Int)), some (0, x4), some (0, x5)] [(0, ((V p0 12) * x4)), (4, (p0 : Int))] G R V)
    refine wp_putI (k := 17) rfl rfl rfl (ly3_o l0) rfl rfl rfl s5 (?_ : wpv K_X3_close d P 180 [some (4, (p0 : Int)), some (0, x1), some (0, x2), some (4, (p3 : Int)), some (0, x4), some (0, x5)] [] G R (wr V p0 17 (((V p0 12) * x4))))
    exact wp_r0 rfl rfl rfl w
  · have q : x5 < x4 := Decidable.not_not.mp q
    replace w := w.2 q
    show wpv K_X3_close d P 50 [some (4, (p0 : Int)), some (0, x1), some (0, x2), some (4, (p3 : Int)), some (0, x4), some (0, x5)] [] G R V
    refine wp_ld (i := (.iload 5)) (0, x5) rfl rfl (fun _ => rfl) rfl rfl (?_ : wpv K_X3_close d P 52 [some (4, (p0 : Int)), some (0, x1), some (0, x2), some (4, (p3 : Int)), some (0, x4), some (0, x5)] [(0, x5)] G R V)
    refine wp_p (i := (.bipush 120)) rfl rfl (fun _ _ _ => rfl) (?_ : wpv K_X3_close d P 54 [some (4, (p0 : Int)), some (0, x1), some (0, x2), some (4, (p3 : Int)), some (0, x4), some (0, x5)] [(0, 120), (0, x5)] G R V)
    refine wp_icmp (c := .ge) 169 rfl rfl rfl s1 ⟨by omega, by omega⟩ (fun q => ?_) (fun q => ?_)
    · have q : ¬ x5 < 120 := q
      replace w := w.1 q
      show wpv K_X3_close d P 169 [some (4, (p0 : Int)), some (0, x1), some (0, x2), some (4, (p3 : Int)), some (0, x4), some (0, x5)] [] G R V
      refine wp_ld (i := (.aload_n 0)) (4, (p0 : Int)) rfl rfl (fun _ => rfl) rfl rfl (?_ : wpv K_X3_close d P 170 [some (4, (p0 : Int)), some (0, x1), some (0, x2), some (4, (p3 : Int)), some (0, x4), some (0, x5)] [(4, (p0 : Int))] G R V)
      refine wp_ld (i := (.aload_n 0)) (4, (p0 : Int)) rfl rfl (fun _ => rfl) rfl rfl (?_ : wpv K_X3_close d P 171 [some (4, (p0 : Int)), some (0, x1), some (0, x2), some (4, (p3 : Int)), some (0, x4), some (0, x5)] [(4, (p0 : Int)), (4, (p0 : Int))] G R V)
      refine wp_rng (fun vr6 => ?_)
      have f7 : i32 (V p0 12) := vr_f0 vr6 (ly3_o l0) rfl rfl
      replace w := w f7
      refine wp_getI (k := 12) rfl rfl rfl (ly3_o l0) rfl rfl (?_ : wpv K_X3_close d P 174 [some (4, (p0 : Int)), some (0, x1), some (0, x2), some (4, (p3 : Int)), some (0, x4), some (0, x5)] [(0, (V p0 12)), (4, (p0 : Int))] G R V)
      refine wp_ld (i := (.iload 4)) (0, x4) rfl rfl (fun _ => rfl) rfl rfl (?_ : wpv K_X3_close d P 176 [some (4, (p0 : Int)), some (0, x1), some (0, x2), some (4, (p3 : Int)), some (0, x4), some (0, x5)] [(0, x4), (0, (V p0 12)), (4, (p0 : Int))] G R V)
      obtain ⟨s8, w⟩ := w
      refine wp_xmul rfl rfl s8 (?_ : wpv K_X3_close d P 177 [some (4, (p0 : Int)), some (0, x1), some (0, x2), some (4, (p3 : Int)), some (0, x4), some (0, x5)] [(0, ((V p0 12) * x4)), (4, (p0 : Int))] G R V)
      refine wp_putI (k := 17) rfl rfl rfl (ly3_o l0) rfl rfl rfl s8 (?_ : wpv K_X3_close d P 180 [some (4, (p0 : Int)), some (0, x1), some (0, x2), some (4, (p3 : Int)), some (0, x4), some (0, x5)] [] G R (wr V p0 17 (((V p0 12) * x4))))
      exact wp_r0 rfl rfl rfl w
    · have q : x5 < 120 := Decidable.not_not.mp q
      replace w := w.2 q
      show wpv K_X3_close d P 57 [some (4, (p0 : Int)), some (0, x1), some (0, x2), some (4, (p3 : Int)), some (0, x4), some (0, x5)] [] G R V
      refine wp_p (i := (.iconst 0)) rfl rfl (fun _ _ _ => rfl) (?_ : wpv K_X3_close d P 58 [some (4, (p0 : Int)), some (0, x1), some (0, x2), some (4, (p3 : Int)), some (0, x4), some (0, x5)] [(0, 0)] G R V)
      refine wp_sto (i := (.istore 6)) _ rfl rfl (fun _ => rfl) rfl rfl rfl ?_
      refine wp_wk (L' := [some (4, (p0 : Int)), some (0, x1), some (0, x2), some (4, (p3 : Int)), some (0, x4), some (0, x5), some (0, 0)]) (wk_s (wk_s (wk_s (wk_s (wk_s (wk_s (wk_s wk_0))))))) ?_
      show wpv K_X3_close d P 60 [some (4, (p0 : Int)), some (0, x1), some (0, x2), some (4, (p3 : Int)), some (0, x4), some (0, x5), some (0, 0)] [] G R V
      exact wp_wk (wk_s (wk_s (wk_s (wk_s (wk_s (wk_s (wk_s wk_0))))))) w

theorem t_X3_close_60 {d : Nat} {P : gP} {p0 : Nat} {x1 : Int} {x2 : Int} {p3 : Nat} {x4 : Int} {x5 : Int} {x6 : Int} {G : List gS} {R V : gV} (l0 : lay3 G R p0) (l3 : lay6 G R p3) (w : ((0 ≤ x1 ∧ x1 < 300) ∧ ((i32 (V (p0 + 6) x1)) → ((i32 x6) ∧ ((((V (p0 + 6) x1) < x6) → ((i32 (x5 + 1)) ∧ wpv K_X3_close d P 43 [some (4, (p0 : Int)), some (0, x1), some (0, x2), some (4, (p3 : Int)), some (0, x4), some (0, (x5 + 1))] [] G R V)) ∧ ((¬ (V (p0 + 6) x1) < x6) → (((¬ x6 < (V (p0 + 6) x1)) → ((0 ≤ x5 ∧ x5 < 120) ∧ ((i32 (V (p0 + 11) x5)) → cwv d (fun r V8 => ∃ v9 : Int, r = some (0, v9) ∧ ((i64 (V8 p0 15)) → ((i64 (V8 p0 16)) → cwv d (fun r V13 => ∃ v14 : Int, r = some (0, v14) ∧ ((i32 v14) ∧ (((¬ v14 = 0) → ((i32 (x6 + 1)) ∧ wpv K_X3_close d P 60 [some (4, (p0 : Int)), some (0, x1), some (0, x2), some (4, (p3 : Int)), some (0, x4), some (0, x5), some (0, (x6 + 1))] [] G R V13)) ∧ ((v14 = 0) → ((i32 x4) ∧ (((¬ x4 < 120) → ((i32 (x6 + 1)) ∧ wpv K_X3_close d P 60 [some (4, (p0 : Int)), some (0, x1), some (0, x2), some (4, (p3 : Int)), some (0, x4), some (0, x5), some (0, (x6 + 1))] [] G R V13)) ∧ ((x4 < 120) → cwv d (fun r V19 => r = none ∧ ((0 ≤ x4 ∧ x4 < 120) ∧ ((i32 v9) ∧ ((i32 (x4 + 1)) ∧ ((i32 (x6 + 1)) ∧ wpv K_X3_close d P 60 [some (4, (p0 : Int)), some (0, x1), some (0, x2), some (4, (p3 : Int)), some (0, (x4 + 1)), some (0, x5), some (0, (x6 + 1))] [] G R (wr V19 (p0 + 11) x4 v9)))))) 48 [(4, (p0 : Int)), (0, v9), (4, (p3 : Int))] G R V13))))))) 149 [(2, (V8 p0 15)), (2, (V8 p0 16)), (0, v9)] G R V8))) 89 [(4, (p3 : Int)), (0, (V (p0 + 11) x5)), (0, x2)] G R V))) ∧ ((x6 < (V (p0 + 6) x1)) → ((i32 (x1 * 8)) ∧ ((i32 ((x1 * 8) + x6)) ∧ ((0 ≤ ((x1 * 8) + x6) ∧ ((x1 * 8) + x6) < 2400) ∧ ((i32 (V (p0 + 7) (((x1 * 8) + x6)))) → ((0 ≤ x5 ∧ x5 < 120) ∧ ((i32 (V (p0 + 11) x5)) → cwv d (fun r V30 => ∃ v31 : Int, r = some (0, v31) ∧ ((i64 (V30 p0 15)) → ((i64 (V30 p0 16)) → cwv d (fun r V35 => ∃ v36 : Int, r = some (0, v36) ∧ ((i32 v36) ∧ (((¬ v36 = 0) → ((i32 (x6 + 1)) ∧ wpv K_X3_close d P 60 [some (4, (p0 : Int)), some (0, x1), some (0, x2), some (4, (p3 : Int)), some (0, x4), some (0, x5), some (0, (x6 + 1))] [] G R V35)) ∧ ((v36 = 0) → ((i32 x4) ∧ (((¬ x4 < 120) → ((i32 (x6 + 1)) ∧ wpv K_X3_close d P 60 [some (4, (p0 : Int)), some (0, x1), some (0, x2), some (4, (p3 : Int)), some (0, x4), some (0, x5), some (0, (x6 + 1))] [] G R V35)) ∧ ((x4 < 120) → cwv d (fun r V41 => r = none ∧ ((0 ≤ x4 ∧ x4 < 120) ∧ ((i32 v31) ∧ ((i32 (x4 + 1)) ∧ ((i32 (x6 + 1)) ∧ wpv K_X3_close d P 60 [some (4, (p0 : Int)), some (0, x1), some (0, x2), some (4, (p3 : Int)), some (0, (x4 + 1)), some (0, x5), some (0, (x6 + 1))] [] G R (wr V41 (p0 + 11) x4 v31)))))) 48 [(4, (p0 : Int)), (0, v31), (4, (p3 : Int))] G R V35))))))) 149 [(2, (V30 p0 15)), (2, (V30 p0 16)), (0, v31)] G R V30))) 89 [(4, (p3 : Int)), (0, (V (p0 + 11) x5)), (0, (V (p0 + 7) (((x1 * 8) + x6))))] G R V)))))))))))))) : wpv K_X3_close d P 60 [some (4, (p0 : Int)), some (0, x1), some (0, x2), some (4, (p3 : Int)), some (0, x4), some (0, x5), some (0, x6)] [] G R V := by
  refine wp_ld (i := (.iload 6)) (0, x6) rfl rfl (fun _ => rfl) rfl rfl (?_ : wpv K_X3_close d P 62 [some (4, (p0 : Int)), some (0, x1), some (0, x2), some (4, (p3 : Int)), some (0, x4), some (0, x5), some (0, x6)] [(0, x6)] G R V)
  refine wp_ld (i := (.aload_n 0)) (4, (p0 : Int)) rfl rfl (fun _ => rfl) rfl rfl (?_ : wpv K_X3_close d P 63 [some (4, (p0 : Int)), some (0, x1), some (0, x2), some (4, (p3 : Int)), some (0, x4), some (0, x5), some (0, x6)] [(4, (p0 : Int)), (0, x6)] G R V)
  refine wp_getA (k := 7) rfl rfl rfl (ly3_o l0) rfl rfl (ly3_7 l0).1 (?_ : wpv K_X3_close d P 66 [some (4, (p0 : Int)), some (0, x1), some (0, x2), some (4, (p3 : Int)), some (0, x4), some (0, x5), some (0, x6)] [(4, ((p0 + 6 : Nat) : Int)), (0, x6)] G R V)
  refine wp_ld (i := (.iload_n 1)) (0, x1) rfl rfl (fun _ => rfl) rfl rfl (?_ : wpv K_X3_close d P 67 [some (4, (p0 : Int)), some (0, x1), some (0, x2), some (4, (p3 : Int)), some (0, x4), some (0, x5), some (0, x6)] [(0, x1), (4, ((p0 + 6 : Nat) : Int)), (0, x6)] G R V)
  obtain ⟨s1, w⟩ := w
  refine wp_rng (fun vr2 => ?_)
  have f3 : i32 (V (p0 + 6) x1) := vr_a0 vr2 (ly3_7 l0).2 s1
  replace w := w f3
  refine wp_aI rfl rfl (ly3_7 l0).2 s1 (?_ : wpv K_X3_close d P 68 [some (4, (p0 : Int)), some (0, x1), some (0, x2), some (4, (p3 : Int)), some (0, x4), some (0, x5), some (0, x6)] [(0, (V (p0 + 6) x1)), (0, x6)] G R V)
  obtain ⟨s4, w⟩ := w
  refine wp_icmp (c := .gt) 163 rfl rfl rfl s4 f3 (fun q => ?_) (fun q => ?_)
  · have q : (V (p0 + 6) x1) < x6 := q
    replace w := w.1 q
    show wpv K_X3_close d P 163 [some (4, (p0 : Int)), some (0, x1), some (0, x2), some (4, (p3 : Int)), some (0, x4), some (0, x5), some (0, x6)] [] G R V
    obtain ⟨s5, w⟩ := w
    refine wp_inc (x := 5) (k := 1) (a := x5) (c := (x5 + 1)) _ rfl rfl rfl rfl s5 (by omega) rfl ?_
    show wpv K_X3_close d P 166 [some (4, (p0 : Int)), some (0, x1), some (0, x2), some (4, (p3 : Int)), some (0, x4), some (0, (x5 + 1)), some (0, x6)] [] G R V
    refine wp_go 43 rfl rfl rfl (?_ : wpv K_X3_close d P 43 [some (4, (p0 : Int)), some (0, x1), some (0, x2), some (4, (p3 : Int)), some (0, x4), some (0, (x5 + 1)), some (0, x6)] [] G R V)
    exact wp_wk (wk_s (wk_s (wk_s (wk_s (wk_s (wk_s wk_0)))))) w
  · have q : ¬ (V (p0 + 6) x1) < x6 := q
    replace w := w.2 q
    show wpv K_X3_close d P 71 [some (4, (p0 : Int)), some (0, x1), some (0, x2), some (4, (p3 : Int)), some (0, x4), some (0, x5), some (0, x6)] [] G R V
    refine wp_ld (i := (.iload 6)) (0, x6) rfl rfl (fun _ => rfl) rfl rfl (?_ : wpv K_X3_close d P 73 [some (4, (p0 : Int)), some (0, x1), some (0, x2), some (4, (p3 : Int)), some (0, x4), some (0, x5), some (0, x6)] [(0, x6)] G R V)
    refine wp_ld (i := (.aload_n 0)) (4, (p0 : Int)) rfl rfl (fun _ => rfl) rfl rfl (?_ : wpv K_X3_close d P 74 [some (4, (p0 : Int)), some (0, x1), some (0, x2), some (4, (p3 : Int)), some (0, x4), some (0, x5), some (0, x6)] [(4, (p0 : Int)), (0, x6)] G R V)
    refine wp_getA (k := 7) rfl rfl rfl (ly3_o l0) rfl rfl (ly3_7 l0).1 (?_ : wpv K_X3_close d P 77 [some (4, (p0 : Int)), some (0, x1), some (0, x2), some (4, (p3 : Int)), some (0, x4), some (0, x5), some (0, x6)] [(4, ((p0 + 6 : Nat) : Int)), (0, x6)] G R V)
    refine wp_ld (i := (.iload_n 1)) (0, x1) rfl rfl (fun _ => rfl) rfl rfl (?_ : wpv K_X3_close d P 78 [some (4, (p0 : Int)), some (0, x1), some (0, x2), some (4, (p3 : Int)), some (0, x4), some (0, x5), some (0, x6)] [(0, x1), (4, ((p0 + 6 : Nat) : Int)), (0, x6)] G R V)
    refine wp_aI rfl rfl (ly3_7 l0).2 s1 (?_ : wpv K_X3_close d P 79 [some (4, (p0 : Int)), some (0, x1), some (0, x2), some (4, (p3 : Int)), some (0, x4), some (0, x5), some (0, x6)] [(0, (V (p0 + 6) x1)), (0, x6)] G R V)
    refine wp_icmp (c := .ge) 97 rfl rfl rfl s4 f3 (fun q => ?_) (fun q => ?_)
    · have q : ¬ x6 < (V (p0 + 6) x1) := q
      replace w := w.1 q
      show wpv K_X3_close d P 97 [some (4, (p0 : Int)), some (0, x1), some (0, x2), some (4, (p3 : Int)), some (0, x4), some (0, x5), some (0, x6)] [] G R V
      refine wp_ld (i := (.iload_n 2)) (0, x2) rfl rfl (fun _ => rfl) rfl rfl (?_ : wpv K_X3_close d P 98 [some (4, (p0 : Int)), some (0, x1), some (0, x2), some (4, (p3 : Int)), some (0, x4), some (0, x5), some (0, x6)] [(0, x2)] G R V)
      refine wp_sto (i := (.istore 7)) _ rfl rfl (fun _ => rfl) rfl rfl rfl ?_
      refine wp_wk (L' := [some (4, (p0 : Int)), some (0, x1), some (0, x2), some (4, (p3 : Int)), some (0, x4), some (0, x5), some (0, x6), some (0, x2)]) (wk_s (wk_s (wk_s (wk_s (wk_s (wk_s (wk_s (wk_s wk_0)))))))) ?_
      show wpv K_X3_close d P 100 [some (4, (p0 : Int)), some (0, x1), some (0, x2), some (4, (p3 : Int)), some (0, x4), some (0, x5), some (0, x6), some (0, x2)] [] G R V
      refine wp_ld (i := (.aload_n 3)) (4, (p3 : Int)) rfl rfl (fun _ => rfl) rfl rfl (?_ : wpv K_X3_close d P 101 [some (4, (p0 : Int)), some (0, x1), some (0, x2), some (4, (p3 : Int)), some (0, x4), some (0, x5), some (0, x6), some (0, x2)] [(4, (p3 : Int))] G R V)
      refine wp_ld (i := (.aload_n 0)) (4, (p0 : Int)) rfl rfl (fun _ => rfl) rfl rfl (?_ : wpv K_X3_close d P 102 [some (4, (p0 : Int)), some (0, x1), some (0, x2), some (4, (p3 : Int)), some (0, x4), some (0, x5), some (0, x6), some (0, x2)] [(4, (p0 : Int)), (4, (p3 : Int))] G R V)
      refine wp_getA (k := 14) rfl rfl rfl (ly3_o l0) rfl rfl (ly3_14 l0).1 (?_ : wpv K_X3_close d P 105 [some (4, (p0 : Int)), some (0, x1), some (0, x2), some (4, (p3 : Int)), some (0, x4), some (0, x5), some (0, x6), some (0, x2)] [(4, ((p0 + 11 : Nat) : Int)), (4, (p3 : Int))] G R V)
      refine wp_ld (i := (.iload 5)) (0, x5) rfl rfl (fun _ => rfl) rfl rfl (?_ : wpv K_X3_close d P 107 [some (4, (p0 : Int)), some (0, x1), some (0, x2), some (4, (p3 : Int)), some (0, x4), some (0, x5), some (0, x6), some (0, x2)] [(0, x5), (4, ((p0 + 11 : Nat) : Int)), (4, (p3 : Int))] G R V)
      obtain ⟨s6, w⟩ := w
      have f7 : i32 (V (p0 + 11) x5) := vr_a0 vr2 (ly3_14 l0).2 s6
      replace w := w f7
      refine wp_aI rfl rfl (ly3_14 l0).2 s6 (?_ : wpv K_X3_close d P 108 [some (4, (p0 : Int)), some (0, x1), some (0, x2), some (4, (p3 : Int)), some (0, x4), some (0, x5), some (0, x6), some (0, x2)] [(0, (V (p0 + 11) x5)), (4, (p3 : Int))] G R V)
      refine wp_ld (i := (.iload 7)) (0, x2) rfl rfl (fun _ => rfl) rfl rfl (?_ : wpv K_X3_close d P 110 [some (4, (p0 : Int)), some (0, x1), some (0, x2), some (4, (p3 : Int)), some (0, x4), some (0, x5), some (0, x6), some (0, x2)] [(0, x2), (0, (V (p0 + 11) x5)), (4, (p3 : Int))] G R V)
      refine wp_virt (as := [(0, (V (p0 + 11) x5)), (0, x2)]) (a := p3) (st := []) _ rfl rfl rfl rfl rfl rfl (ly6_o l3) (Nat.le_of_ble_eq_true rfl) (cwv_kI w (fun v9 V8 w => ?_))
      show wpv K_X3_close d P 113 [some (4, (p0 : Int)), some (0, x1), some (0, x2), some (4, (p3 : Int)), some (0, x4), some (0, x5), some (0, x6), some (0, x2)] [(0, v9)] G R V8
      refine wp_sto (i := (.istore 8)) _ rfl rfl (fun _ => rfl) rfl rfl rfl ?_
      refine wp_wk (L' := [some (4, (p0 : Int)), some (0, x1), some (0, x2), some (4, (p3 : Int)), some (0, x4), some (0, x5), some (0, x6), some (0, x2), some (0, v9)]) (wk_s (wk_s (wk_s (wk_s (wk_s (wk_s (wk_s (wk_s (wk_s wk_0))))))))) ?_
      show wpv K_X3_close d P 115 [some (4, (p0 : Int)), some (0, x1), some (0, x2), some (4, (p3 : Int)), some (0, x4), some (0, x5), some (0, x6), some (0, x2), some (0, v9)] [] G R V8
      refine wp_ld (i := (.aload_n 0)) (4, (p0 : Int)) rfl rfl (fun _ => rfl) rfl rfl (?_ : wpv K_X3_close d P 116 [some (4, (p0 : Int)), some (0, x1), some (0, x2), some (4, (p3 : Int)), some (0, x4), some (0, x5), some (0, x6), some (0, x2), some (0, v9)] [(4, (p0 : Int))] G R V8)
      refine wp_rng (fun vr10 => ?_)
      have f11 : i64 (V8 p0 15) := vr_f1 vr10 (ly3_o l0) rfl rfl
      replace w := w f11
      refine wp_getJ (k := 15) rfl rfl rfl (ly3_o l0) rfl rfl (?_ : wpv K_X3_close d P 119 [some (4, (p0 : Int)), some (0, x1), some (0, x2), some (4, (p3 : Int)), some (0, x4), some (0, x5), some (0, x6), some (0, x2), some (0, v9)] [(2, (V8 p0 15))] G R V8)
      refine wp_ld (i := (.aload_n 0)) (4, (p0 : Int)) rfl rfl (fun _ => rfl) rfl rfl (?_ : wpv K_X3_close d P 120 [some (4, (p0 : Int)), some (0, x1), some (0, x2), some (4, (p3 : Int)), some (0, x4), some (0, x5), some (0, x6), some (0, x2), some (0, v9)] [(4, (p0 : Int)), (2, (V8 p0 15))] G R V8)
      have f12 : i64 (V8 p0 16) := vr_f1 vr10 (ly3_o l0) rfl rfl
      replace w := w f12
      refine wp_getJ (k := 16) rfl rfl rfl (ly3_o l0) rfl rfl (?_ : wpv K_X3_close d P 123 [some (4, (p0 : Int)), some (0, x1), some (0, x2), some (4, (p3 : Int)), some (0, x4), some (0, x5), some (0, x6), some (0, x2), some (0, v9)] [(2, (V8 p0 16)), (2, (V8 p0 15))] G R V8)
      refine wp_ld (i := (.iload 8)) (0, v9) rfl rfl (fun _ => rfl) rfl rfl (?_ : wpv K_X3_close d P 125 [some (4, (p0 : Int)), some (0, x1), some (0, x2), some (4, (p3 : Int)), some (0, x4), some (0, x5), some (0, x6), some (0, x2), some (0, v9)] [(0, v9), (2, (V8 p0 16)), (2, (V8 p0 15))] G R V8)
      refine wp_stat (as := [(2, (V8 p0 15)), (2, (V8 p0 16)), (0, v9)]) (st := []) _ rfl rfl rfl (by omega) rfl rfl (Nat.le_of_ble_eq_true rfl) (cwv_kI w (fun v14 V13 w => ?_))
      show wpv K_X3_close d P 128 [some (4, (p0 : Int)), some (0, x1), some (0, x2), some (4, (p3 : Int)), some (0, x4), some (0, x5), some (0, x6), some (0, x2), some (0, v9)] [(0, v14)] G R V13
      obtain ⟨s15, w⟩ := w
      refine wp_if (c := .ne) 157 rfl rfl rfl s15 (fun q => ?_) (fun q => ?_)
      · have q : ¬ v14 = 0 := q
        replace w := w.1 q
        show wpv K_X3_close d P 157 [some (4, (p0 : Int)), some (0, x1), some (0, x2), some (4, (p3 : Int)), some (0, x4), some (0, x5), some (0, x6), some (0, x2), some (0, v9)] [] G R V13
        obtain ⟨s16, w⟩ := w
        refine wp_inc (x := 6) (k := 1) (a := x6) (c := (x6 + 1)) _ rfl rfl rfl rfl s16 (by omega) rfl ?_
        show wpv K_X3_close d P 160 [some (4, (p0 : Int)), some (0, x1), some (0, x2), some (4, (p3 : Int)), some (0, x4), some (0, x5), some (0, (x6 + 1)), some (0, x2), some (0, v9)] [] G R V13
        refine wp_go 60 rfl rfl rfl (?_ : wpv K_X3_close d P 60 [some (4, (p0 : Int)), some (0, x1), some (0, x2), some (4, (p3 : Int)), some (0, x4), some (0, x5), some (0, (x6 + 1)), some (0, x2), some (0, v9)] [] G R V13)
        exact wp_wk (wk_s (wk_s (wk_s (wk_s (wk_s (wk_s (wk_s wk_0))))))) w
      · have q : v14 = 0 := Decidable.not_not.mp q
        replace w := w.2 q
        show wpv K_X3_close d P 131 [some (4, (p0 : Int)), some (0, x1), some (0, x2), some (4, (p3 : Int)), some (0, x4), some (0, x5), some (0, x6), some (0, x2), some (0, v9)] [] G R V13
        refine wp_ld (i := (.iload 4)) (0, x4) rfl rfl (fun _ => rfl) rfl rfl (?_ : wpv K_X3_close d P 133 [some (4, (p0 : Int)), some (0, x1), some (0, x2), some (4, (p3 : Int)), some (0, x4), some (0, x5), some (0, x6), some (0, x2), some (0, v9)] [(0, x4)] G R V13)
        refine wp_p (i := (.bipush 120)) rfl rfl (fun _ _ _ => rfl) (?_ : wpv K_X3_close d P 135 [some (4, (p0 : Int)), some (0, x1), some (0, x2), some (4, (p3 : Int)), some (0, x4), some (0, x5), some (0, x6), some (0, x2), some (0, v9)] [(0, 120), (0, x4)] G R V13)
        obtain ⟨s17, w⟩ := w
        refine wp_icmp (c := .ge) 157 rfl rfl rfl s17 ⟨by omega, by omega⟩ (fun q => ?_) (fun q => ?_)
        · have q : ¬ x4 < 120 := q
          replace w := w.1 q
          show wpv K_X3_close d P 157 [some (4, (p0 : Int)), some (0, x1), some (0, x2), some (4, (p3 : Int)), some (0, x4), some (0, x5), some (0, x6), some (0, x2), some (0, v9)] [] G R V13
          obtain ⟨s18, w⟩ := w
          refine wp_inc (x := 6) (k := 1) (a := x6) (c := (x6 + 1)) _ rfl rfl rfl rfl s18 (by omega) rfl ?_
          show wpv K_X3_close d P 160 [some (4, (p0 : Int)), some (0, x1), some (0, x2), some (4, (p3 : Int)), some (0, x4), some (0, x5), some (0, (x6 + 1)), some (0, x2), some (0, v9)] [] G R V13
          refine wp_go 60 rfl rfl rfl (?_ : wpv K_X3_close d P 60 [some (4, (p0 : Int)), some (0, x1), some (0, x2), some (4, (p3 : Int)), some (0, x4), some (0, x5), some (0, (x6 + 1)), some (0, x2), some (0, v9)] [] G R V13)
          exact wp_wk (wk_s (wk_s (wk_s (wk_s (wk_s (wk_s (wk_s wk_0))))))) w
        · have q : x4 < 120 := Decidable.not_not.mp q
          replace w := w.2 q
          show wpv K_X3_close d P 138 [some (4, (p0 : Int)), some (0, x1), some (0, x2), some (4, (p3 : Int)), some (0, x4), some (0, x5), some (0, x6), some (0, x2), some (0, v9)] [] G R V13
          refine wp_ld (i := (.aload_n 0)) (4, (p0 : Int)) rfl rfl (fun _ => rfl) rfl rfl (?_ : wpv K_X3_close d P 139 [some (4, (p0 : Int)), some (0, x1), some (0, x2), some (4, (p3 : Int)), some (0, x4), some (0, x5), some (0, x6), some (0, x2), some (0, v9)] [(4, (p0 : Int))] G R V13)
          refine wp_ld (i := (.iload 8)) (0, v9) rfl rfl (fun _ => rfl) rfl rfl (?_ : wpv K_X3_close d P 141 [some (4, (p0 : Int)), some (0, x1), some (0, x2), some (4, (p3 : Int)), some (0, x4), some (0, x5), some (0, x6), some (0, x2), some (0, v9)] [(0, v9), (4, (p0 : Int))] G R V13)
          refine wp_ld (i := (.aload_n 3)) (4, (p3 : Int)) rfl rfl (fun _ => rfl) rfl rfl (?_ : wpv K_X3_close d P 142 [some (4, (p0 : Int)), some (0, x1), some (0, x2), some (4, (p3 : Int)), some (0, x4), some (0, x5), some (0, x6), some (0, x2), some (0, v9)] [(4, (p3 : Int)), (0, v9), (4, (p0 : Int))] G R V13)
          refine wp_virt (as := [(0, v9), (4, (p3 : Int))]) (a := p0) (st := []) _ rfl rfl rfl rfl rfl rfl (ly3_o l0) (Nat.le_of_ble_eq_true rfl) (cwv_k0 w (fun V19 w => ?_))
          show wpv K_X3_close d P 145 [some (4, (p0 : Int)), some (0, x1), some (0, x2), some (4, (p3 : Int)), some (0, x4), some (0, x5), some (0, x6), some (0, x2), some (0, v9)] [] G R V19
          refine wp_ld (i := (.aload_n 0)) (4, (p0 : Int)) rfl rfl (fun _ => rfl) rfl rfl (?_ : wpv K_X3_close d P 146 [some (4, (p0 : Int)), some (0, x1), some (0, x2), some (4, (p3 : Int)), some (0, x4), some (0, x5), some (0, x6), some (0, x2), some (0, v9)] [(4, (p0 : Int))] G R V19)
          refine wp_getA (k := 14) rfl rfl rfl (ly3_o l0) rfl rfl (ly3_14 l0).1 (?_ : wpv K_X3_close d P 149 [some (4, (p0 : Int)), some (0, x1), some (0, x2), some (4, (p3 : Int)), some (0, x4), some (0, x5), some (0, x6), some (0, x2), some (0, v9)] [(4, ((p0 + 11 : Nat) : Int))] G R V19)
          refine wp_ld (i := (.iload 4)) (0, x4) rfl rfl (fun _ => rfl) rfl rfl (?_ : wpv K_X3_close d P 151 [some (4, (p0 : Int)), some (0, x1), some (0, x2), some (4, (p3 : Int)), some (0, x4), some (0, x5), some (0, x6), some (0, x2), some (0, v9)] [(0, x4), (4, ((p0 + 11 : Nat) : Int))] G R V19)
          refine wp_ld (i := (.iload 8)) (0, v9) rfl rfl (fun _ => rfl) rfl rfl (?_ : wpv K_X3_close d P 153 [some (4, (p0 : Int)), some (0, x1), some (0, x2), some (4, (p3 : Int)), some (0, x4), some (0, x5), some (0, x6), some (0, x2), some (0, v9)] [(0, v9), (0, x4), (4, ((p0 + 11 : Nat) : Int))] G R V19)
          obtain ⟨s20, w⟩ := w
          obtain ⟨s21, w⟩ := w
          refine wp_sI rfl rfl (ly3_14 l0).2 s20 s21 (?_ : wpv K_X3_close d P 154 [some (4, (p0 : Int)), some (0, x1), some (0, x2), some (4, (p3 : Int)), some (0, x4), some (0, x5), some (0, x6), some (0, x2), some (0, v9)] [] G R (wr V19 (p0 + 11) x4 v9))
          obtain ⟨s22, w⟩ := w
          refine wp_inc (x := 4) (k := 1) (a := x4) (c := (x4 + 1)) _ rfl rfl rfl rfl s22 (by omega) rfl ?_
          show wpv K_X3_close d P 157 [some (4, (p0 : Int)), some (0, x1), some (0, x2), some (4, (p3 : Int)), some (0, (x4 + 1)), some (0, x5), some (0, x6), some (0, x2), some (0, v9)] [] G R (wr V19 (p0 + 11) x4 v9)
          obtain ⟨s23, w⟩ := w
          refine wp_inc (x := 6) (k := 1) (a := x6) (c := (x6 + 1)) _ rfl rfl rfl rfl s23 (by omega) rfl ?_
          show wpv K_X3_close d P 160 [some (4, (p0 : Int)), some (0, x1), some (0, x2), some (4, (p3 : Int)), some (0, (x4 + 1)), some (0, x5), some (0, (x6 + 1)), some (0, x2), some (0, v9)] [] G R (wr V19 (p0 + 11) x4 v9)
          refine wp_go 60 rfl rfl rfl (?_ : wpv K_X3_close d P 60 [some (4, (p0 : Int)), some (0, x1), some (0, x2), some (4, (p3 : Int)), some (0, (x4 + 1)), some (0, x5), some (0, (x6 + 1)), some (0, x2), some (0, v9)] [] G R (wr V19 (p0 + 11) x4 v9))
          exact wp_wk (wk_s (wk_s (wk_s (wk_s (wk_s (wk_s (wk_s wk_0))))))) w
    · have q : x6 < (V (p0 + 6) x1) := Decidable.not_not.mp q
      replace w := w.2 q
      show wpv K_X3_close d P 82 [some (4, (p0 : Int)), some (0, x1), some (0, x2), some (4, (p3 : Int)), some (0, x4), some (0, x5), some (0, x6)] [] G R V
      refine wp_ld (i := (.aload_n 0)) (4, (p0 : Int)) rfl rfl (fun _ => rfl) rfl rfl (?_ : wpv K_X3_close d P 83 [some (4, (p0 : Int)), some (0, x1), some (0, x2), some (4, (p3 : Int)), some (0, x4), some (0, x5), some (0, x6)] [(4, (p0 : Int))] G R V)
      refine wp_getA (k := 8) rfl rfl rfl (ly3_o l0) rfl rfl (ly3_8 l0).1 (?_ : wpv K_X3_close d P 86 [some (4, (p0 : Int)), some (0, x1), some (0, x2), some (4, (p3 : Int)), some (0, x4), some (0, x5), some (0, x6)] [(4, ((p0 + 7 : Nat) : Int))] G R V)
      refine wp_ld (i := (.iload_n 1)) (0, x1) rfl rfl (fun _ => rfl) rfl rfl (?_ : wpv K_X3_close d P 87 [some (4, (p0 : Int)), some (0, x1), some (0, x2), some (4, (p3 : Int)), some (0, x4), some (0, x5), some (0, x6)] [(0, x1), (4, ((p0 + 7 : Nat) : Int))] G R V)
      refine wp_p (i := (.bipush 8)) rfl rfl (fun _ _ _ => rfl) (?_ : wpv K_X3_close d P 89 [some (4, (p0 : Int)), some (0, x1), some (0, x2), some (4, (p3 : Int)), some (0, x4), some (0, x5), some (0, x6)] [(0, 8), (0, x1), (4, ((p0 + 7 : Nat) : Int))] G R V)
      obtain ⟨s24, w⟩ := w
      refine wp_xmul rfl rfl s24 (?_ : wpv K_X3_close d P 90 [some (4, (p0 : Int)), some (0, x1), some (0, x2), some (4, (p3 : Int)), some (0, x4), some (0, x5), some (0, x6)] [(0, (x1 * 8)), (4, ((p0 + 7 : Nat) : Int))] G R V)
      refine wp_ld (i := (.iload 6)) (0, x6) rfl rfl (fun _ => rfl) rfl rfl (?_ : wpv K_X3_close d P 92 [some (4, (p0 : Int)), some (0, x1), some (0, x2), some (4, (p3 : Int)), some (0, x4), some (0, x5), some (0, x6)] [(0, x6), (0, (x1 * 8)), (4, ((p0 + 7 : Nat) : Int))] G R V)
      obtain ⟨s25, w⟩ := w
      refine wp_xadd rfl rfl s25 (?_ : wpv K_X3_close d P 93 [some (4, (p0 : Int)), some (0, x1), some (0, x2), some (4, (p3 : Int)), some (0, x4), some (0, x5), some (0, x6)] [(0, ((x1 * 8) + x6)), (4, ((p0 + 7 : Nat) : Int))] G R V)
      obtain ⟨s26, w⟩ := w
      have f27 : i32 (V (p0 + 7) (((x1 * 8) + x6))) := vr_a0 vr2 (ly3_8 l0).2 s26
      replace w := w f27
      refine wp_aI rfl rfl (ly3_8 l0).2 s26 (?_ : wpv K_X3_close d P 94 [some (4, (p0 : Int)), some (0, x1), some (0, x2), some (4, (p3 : Int)), some (0, x4), some (0, x5), some (0, x6)] [(0, (V (p0 + 7) (((x1 * 8) + x6))))] G R V)
      refine wp_go 98 rfl rfl rfl (?_ : wpv K_X3_close d P 98 [some (4, (p0 : Int)), some (0, x1), some (0, x2), some (4, (p3 : Int)), some (0, x4), some (0, x5), some (0, x6)] [(0, (V (p0 + 7) (((x1 * 8) + x6))))] G R V)
      refine wp_sto (i := (.istore 7)) _ rfl rfl (fun _ => rfl) rfl rfl rfl ?_
      refine wp_wk (L' := [some (4, (p0 : Int)), some (0, x1), some (0, x2), some (4, (p3 : Int)), some (0, x4), some (0, x5), some (0, x6), some (0, (V (p0 + 7) (((x1 * 8) + x6))))]) (wk_s (wk_s (wk_s (wk_s (wk_s (wk_s (wk_s (wk_s wk_0)))))))) ?_
      show wpv K_X3_close d P 100 [some (4, (p0 : Int)), some (0, x1), some (0, x2), some (4, (p3 : Int)), some (0, x4), some (0, x5), some (0, x6), some (0, (V (p0 + 7) (((x1 * 8) + x6))))] [] G R V
      refine wp_ld (i := (.aload_n 3)) (4, (p3 : Int)) rfl rfl (fun _ => rfl) rfl rfl (?_ : wpv K_X3_close d P 101 [some (4, (p0 : Int)), some (0, x1), some (0, x2), some (4, (p3 : Int)), some (0, x4), some (0, x5), some (0, x6), some (0, (V (p0 + 7) (((x1 * 8) + x6))))] [(4, (p3 : Int))] G R V)
      refine wp_ld (i := (.aload_n 0)) (4, (p0 : Int)) rfl rfl (fun _ => rfl) rfl rfl (?_ : wpv K_X3_close d P 102 [some (4, (p0 : Int)), some (0, x1), some (0, x2), some (4, (p3 : Int)), some (0, x4), some (0, x5), some (0, x6), some (0, (V (p0 + 7) (((x1 * 8) + x6))))] [(4, (p0 : Int)), (4, (p3 : Int))] G R V)
      refine wp_getA (k := 14) rfl rfl rfl (ly3_o l0) rfl rfl (ly3_14 l0).1 (?_ : wpv K_X3_close d P 105 [some (4, (p0 : Int)), some (0, x1), some (0, x2), some (4, (p3 : Int)), some (0, x4), some (0, x5), some (0, x6), some (0, (V (p0 + 7) (((x1 * 8) + x6))))] [(4, ((p0 + 11 : Nat) : Int)), (4, (p3 : Int))] G R V)
      refine wp_ld (i := (.iload 5)) (0, x5) rfl rfl (fun _ => rfl) rfl rfl (?_ : wpv K_X3_close d P 107 [some (4, (p0 : Int)), some (0, x1), some (0, x2), some (4, (p3 : Int)), some (0, x4), some (0, x5), some (0, x6), some (0, (V (p0 + 7) (((x1 * 8) + x6))))] [(0, x5), (4, ((p0 + 11 : Nat) : Int)), (4, (p3 : Int))] G R V)
      obtain ⟨s28, w⟩ := w
      have f29 : i32 (V (p0 + 11) x5) := vr_a0 vr2 (ly3_14 l0).2 s28
      replace w := w f29
      refine wp_aI rfl rfl (ly3_14 l0).2 s28 (?_ : wpv K_X3_close d P 108 [some (4, (p0 : Int)), some (0, x1), some (0, x2), some (4, (p3 : Int)), some (0, x4), some (0, x5), some (0, x6), some (0, (V (p0 + 7) (((x1 * 8) + x6))))] [(0, (V (p0 + 11) x5)), (4, (p3 : Int))] G R V)
      refine wp_ld (i := (.iload 7)) (0, (V (p0 + 7) (((x1 * 8) + x6)))) rfl rfl (fun _ => rfl) rfl rfl (?_ : wpv K_X3_close d P 110 [some (4, (p0 : Int)), some (0, x1), some (0, x2), some (4, (p3 : Int)), some (0, x4), some (0, x5), some (0, x6), some (0, (V (p0 + 7) (((x1 * 8) + x6))))] [(0, (V (p0 + 7) (((x1 * 8) + x6)))), (0, (V (p0 + 11) x5)), (4, (p3 : Int))] G R V)
      refine wp_virt (as := [(0, (V (p0 + 11) x5)), (0, (V (p0 + 7) (((x1 * 8) + x6))))]) (a := p3) (st := []) _ rfl rfl rfl rfl rfl rfl (ly6_o l3) (Nat.le_of_ble_eq_true rfl) (cwv_kI w (fun v31 V30 w => ?_))
      show wpv K_X3_close d P 113 [some (4, (p0 : Int)), some (0, x1), some (0, x2), some (4, (p3 : Int)), some (0, x4), some (0, x5), some (0, x6), some (0, (V (p0 + 7) (((x1 * 8) + x6))))] [(0, v31)] G R V30
      refine wp_sto (i := (.istore 8)) _ rfl rfl (fun _ => rfl) rfl rfl rfl ?_
      refine wp_wk (L' := [some (4, (p0 : Int)), some (0, x1), some (0, x2), some (4, (p3 : Int)), some (0, x4), some (0, x5), some (0, x6), some (0, (V (p0 + 7) (((x1 * 8) + x6)))), some (0, v31)]) (wk_s (wk_s (wk_s (wk_s (wk_s (wk_s (wk_s (wk_s (wk_s wk_0))))))))) ?_
      show wpv K_X3_close d P 115 [some (4, (p0 : Int)), some (0, x1), some (0, x2), some (4, (p3 : Int)), some (0, x4), some (0, x5), some (0, x6), some (0, (V (p0 + 7) (((x1 * 8) + x6)))), some (0, v31)] [] G R V30
      refine wp_ld (i := (.aload_n 0)) (4, (p0 : Int)) rfl rfl (fun _ => rfl) rfl rfl (?_ : wpv K_X3_close d P 116 [some (4, (p0 : Int)), some (0, x1), some (0, x2), some (4, (p3 : Int)), some (0, x4), some (0, x5), some (0, x6), some (0, (V (p0 + 7) (((x1 * 8) + x6)))), some (0, v31)] [(4, (p0 : Int))] G R V30)
      refine wp_rng (fun vr32 => ?_)
      have f33 : i64 (V30 p0 15) := vr_f1 vr32 (ly3_o l0) rfl rfl
      replace w := w f33
      refine wp_getJ (k := 15) rfl rfl rfl (ly3_o l0) rfl rfl (?_ : wpv K_X3_close d P 119 [some (4, (p0 : Int)), some (0, x1), some (0, x2), some (4, (p3 : Int)), some (0, x4), some (0, x5), some (0, x6), some (0, (V (p0 + 7) (((x1 * 8) + x6)))), some (0, v31)] [(2, (V30 p0 15))] G R V30)
      refine wp_ld (i := (.aload_n 0)) (4, (p0 : Int)) rfl rfl (fun _ => rfl) rfl rfl (?_ : wpv K_X3_close d P 120 [some (4, (p0 : Int)), some (0, x1), some (0, x2), some (4, (p3 : Int)), some (0, x4), some (0, x5), some (0, x6), some (0, (V (p0 + 7) (((x1 * 8) + x6)))), some (0, v31)] [(4, (p0 : Int)), (2, (V30 p0 15))] G R V30)
      have f34 : i64 (V30 p0 16) := vr_f1 vr32 (ly3_o l0) rfl rfl
      replace w := w f34
      refine wp_getJ (k := 16) rfl rfl rfl (ly3_o l0) rfl rfl (?_ : wpv K_X3_close d P 123 [some (4, (p0 : Int)), some (0, x1), some (0, x2), some (4, (p3 : Int)), some (0, x4), some (0, x5), some (0, x6), some (0, (V (p0 + 7) (((x1 * 8) + x6)))), some (0, v31)] [(2, (V30 p0 16)), (2, (V30 p0 15))] G R V30)
      refine wp_ld (i := (.iload 8)) (0, v31) rfl rfl (fun _ => rfl) rfl rfl (?_ : wpv K_X3_close d P 125 [some (4, (p0 : Int)), some (0, x1), some (0, x2), some (4, (p3 : Int)), some (0, x4), some (0, x5), some (0, x6), some (0, (V (p0 + 7) (((x1 * 8) + x6)))), some (0, v31)] [(0, v31), (2, (V30 p0 16)), (2, (V30 p0 15))] G R V30)
      refine wp_stat (as := [(2, (V30 p0 15)), (2, (V30 p0 16)), (0, v31)]) (st := []) _ rfl rfl rfl (by omega) rfl rfl (Nat.le_of_ble_eq_true rfl) (cwv_kI w (fun v36 V35 w => ?_))
      show wpv K_X3_close d P 128 [some (4, (p0 : Int)), some (0, x1), some (0, x2), some (4, (p3 : Int)), some (0, x4), some (0, x5), some (0, x6), some (0, (V (p0 + 7) (((x1 * 8) + x6)))), some (0, v31)] [(0, v36)] G R V35
      obtain ⟨s37, w⟩ := w
      refine wp_if (c := .ne) 157 rfl rfl rfl s37 (fun q => ?_) (fun q => ?_)
      · have q : ¬ v36 = 0 := q
        replace w := w.1 q
        show wpv K_X3_close d P 157 [some (4, (p0 : Int)), some (0, x1), some (0, x2), some (4, (p3 : Int)), some (0, x4), some (0, x5), some (0, x6), some (0, (V (p0 + 7) (((x1 * 8) + x6)))), some (0, v31)] [] G R V35
        obtain ⟨s38, w⟩ := w
        refine wp_inc (x := 6) (k := 1) (a := x6) (c := (x6 + 1)) _ rfl rfl rfl rfl s38 (by omega) rfl ?_
        show wpv K_X3_close d P 160 [some (4, (p0 : Int)), some (0, x1), some (0, x2), some (4, (p3 : Int)), some (0, x4), some (0, x5), some (0, (x6 + 1)), some (0, (V (p0 + 7) (((x1 * 8) + x6)))), some (0, v31)] [] G R V35
        refine wp_go 60 rfl rfl rfl (?_ : wpv K_X3_close d P 60 [some (4, (p0 : Int)), some (0, x1), some (0, x2), some (4, (p3 : Int)), some (0, x4), some (0, x5), some (0, (x6 + 1)), some (0, (V (p0 + 7) (((x1 * 8) + x6)))), some (0, v31)] [] G R V35)
        exact wp_wk (wk_s (wk_s (wk_s (wk_s (wk_s (wk_s (wk_s wk_0))))))) w
      · have q : v36 = 0 := Decidable.not_not.mp q
        replace w := w.2 q
        show wpv K_X3_close d P 131 [some (4, (p0 : Int)), some (0, x1), some (0, x2), some (4, (p3 : Int)), some (0, x4), some (0, x5), some (0, x6), some (0, (V (p0 + 7) (((x1 * 8) + x6)))), some (0, v31)] [] G R V35
        refine wp_ld (i := (.iload 4)) (0, x4) rfl rfl (fun _ => rfl) rfl rfl (?_ : wpv K_X3_close d P 133 [some (4, (p0 : Int)), some (0, x1), some (0, x2), some (4, (p3 : Int)), some (0, x4), some (0, x5), some (0, x6), some (0, (V (p0 + 7) (((x1 * 8) + x6)))), some (0, v31)] [(0, x4)] G R V35)
        refine wp_p (i := (.bipush 120)) rfl rfl (fun _ _ _ => rfl) (?_ : wpv K_X3_close d P 135 [some (4, (p0 : Int)), some (0, x1), some (0, x2), some (4, (p3 : Int)), some (0, x4), some (0, x5), some (0, x6), some (0, (V (p0 + 7) (((x1 * 8) + x6)))), some (0, v31)] [(0, 120), (0, x4)] G R V35)
        obtain ⟨s39, w⟩ := w
        refine wp_icmp (c := .ge) 157 rfl rfl rfl s39 ⟨by omega, by omega⟩ (fun q => ?_) (fun q => ?_)
        · have q : ¬ x4 < 120 := q
          replace w := w.1 q
          show wpv K_X3_close d P 157 [some (4, (p0 : Int)), some (0, x1), some (0, x2), some (4, (p3 : Int)), some (0, x4), some (0, x5), some (0, x6), some (0, (V (p0 + 7) (((x1 * 8) + x6)))), some (0, v31)] [] G R V35
          obtain ⟨s40, w⟩ := w
          refine wp_inc (x := 6) (k := 1) (a := x6) (c := (x6 + 1)) _ rfl rfl rfl rfl s40 (by omega) rfl ?_
          show wpv K_X3_close d P 160 [some (4, (p0 : Int)), some (0, x1), some (0, x2), some (4, (p3 : Int)), some (0, x4), some (0, x5), some (0, (x6 + 1)), some (0, (V (p0 + 7) (((x1 * 8) + x6)))), some (0, v31)] [] G R V35
          refine wp_go 60 rfl rfl rfl (?_ : wpv K_X3_close d P 60 [some (4, (p0 : Int)), some (0, x1), some (0, x2), some (4, (p3 : Int)), some (0, x4), some (0, x5), some (0, (x6 + 1)), some (0, (V (p0 + 7) (((x1 * 8) + x6)))), some (0, v31)] [] G R V35)
          exact wp_wk (wk_s (wk_s (wk_s (wk_s (wk_s (wk_s (wk_s wk_0))))))) w
        · have q : x4 < 120 := Decidable.not_not.mp q
          replace w := w.2 q
          show wpv K_X3_close d P 138 [some (4, (p0 : Int)), some (0, x1), some (0, x2), some (4, (p3 : Int)), some (0, x4), some (0, x5), some (0, x6), some (0, (V (p0 + 7) (((x1 * 8) + x6)))), some (0, v31)] [] G R V35
          refine wp_ld (i := (.aload_n 0)) (4, (p0 : Int)) rfl rfl (fun _ => rfl) rfl rfl (?_ : wpv K_X3_close d P 139 [some (4, (p0 : Int)), some (0, x1), some (0, x2), some (4, (p3 : Int)), some (0, x4), some (0, x5), some (0, x6), some (0, (V (p0 + 7) (((x1 * 8) + x6)))), some (0, v31)] [(4, (p0 : Int))] G R V35)
          refine wp_ld (i := (.iload 8)) (0, v31) rfl rfl (fun _ => rfl) rfl rfl (?_ : wpv K_X3_close d P 141 [some (4, (p0 : Int)), some (0, x1), some (0, x2), some (4, (p3 : Int)), some (0, x4), some (0, x5), some (0, x6), some (0, (V (p0 + 7) (((x1 * 8) + x6)))), some (0, v31)] [(0, v31), (4, (p0 : Int))] G R V35)
          refine wp_ld (i := (.aload_n 3)) (4, (p3 : Int)) rfl rfl (fun _ => rfl) rfl rfl (?_ : wpv K_X3_close d P 142 [some (4, (p0 : Int)), some (0, x1), some (0, x2), some (4, (p3 : Int)), some (0, x4), some (0, x5), some (0, x6), some (0, (V (p0 + 7) (((x1 * 8) + x6)))), some (0, v31)] [(4, (p3 : Int)), (0, v31), (4, (p0 : Int))] G R V35)
          refine wp_virt (as := [(0, v31), (4, (p3 : Int))]) (a := p0) (st := []) _ rfl rfl rfl rfl rfl rfl (ly3_o l0) (Nat.le_of_ble_eq_true rfl) (cwv_k0 w (fun V41 w => ?_))
          show wpv K_X3_close d P 145 [some (4, (p0 : Int)), some (0, x1), some (0, x2), some (4, (p3 : Int)), some (0, x4), some (0, x5), some (0, x6), some (0, (V (p0 + 7) (((x1 * 8) + x6)))), some (0, v31)] [] G R V41
          refine wp_ld (i := (.aload_n 0)) (4, (p0 : Int)) rfl rfl (fun _ => rfl) rfl rfl (?_ : wpv K_X3_close d P 146 [some (4, (p0 : Int)), some (0, x1), some (0, x2), some (4, (p3 : Int)), some (0, x4), some (0, x5), some (0, x6), some (0, (V (p0 + 7) (((x1 * 8) + x6)))), some (0, v31)] [(4, (p0 : Int))] G R V41)
          refine wp_getA (k := 14) rfl rfl rfl (ly3_o l0) rfl rfl (ly3_14 l0).1 (?_ : wpv K_X3_close d P 149 [some (4, (p0 : Int)), some (0, x1), some (0, x2), some (4, (p3 : Int)), some (0, x4), some (0, x5), some (0, x6), some (0, (V (p0 + 7) (((x1 * 8) + x6)))), some (0, v31)] [(4, ((p0 + 11 : Nat) : Int))] G R V41)
          refine wp_ld (i := (.iload 4)) (0, x4) rfl rfl (fun _ => rfl) rfl rfl (?_ : wpv K_X3_close d P 151 [some (4, (p0 : Int)), some (0, x1), some (0, x2), some (4, (p3 : Int)), some (0, x4), some (0, x5), some (0, x6), some (0, (V (p0 + 7) (((x1 * 8) + x6)))), some (0, v31)] [(0, x4), (4, ((p0 + 11 : Nat) : Int))] G R V41)
          refine wp_ld (i := (.iload 8)) (0, v31) rfl rfl (fun _ => rfl) rfl rfl (?_ : wpv K_X3_close d P 153 [some (4, (p0 : Int)), some (0, x1), some (0, x2), some (4, (p3 : Int)), some (0, x4), some (0, x5), some (0, x6), some (0, (V (p0 + 7) (((x1 * 8) + x6)))), some (0, v31)] [(0, v31), (0, x4), (4, ((p0 + 11 : Nat) : Int))] G R V41)
          obtain ⟨s42, w⟩ := w
          obtain ⟨s43, w⟩ := w
          refine wp_sI rfl rfl (ly3_14 l0).2 s42 s43 (?_ : wpv K_X3_close d P 154 [some (4, (p0 : Int)), some (0, x1), some (0, x2), some (4, (p3 : Int)), some (0, x4), some (0, x5), some (0, x6), some (0, (V (p0 + 7) (((x1 * 8) + x6)))), some (0, v31)] [] G R (wr V41 (p0 + 11) x4 v31))
          obtain ⟨s44, w⟩ := w
          refine wp_inc (x := 4) (k := 1) (a := x4) (c := (x4 + 1)) _ rfl rfl rfl rfl s44 (by omega) rfl ?_
          show wpv K_X3_close d P 157 [some (4, (p0 : Int)), some (0, x1), some (0, x2), some (4, (p3 : Int)), some (0, (x4 + 1)), some (0, x5), some (0, x6), some (0, (V (p0 + 7) (((x1 * 8) + x6)))), some (0, v31)] [] G R (wr V41 (p0 + 11) x4 v31)
          obtain ⟨s45, w⟩ := w
          refine wp_inc (x := 6) (k := 1) (a := x6) (c := (x6 + 1)) _ rfl rfl rfl rfl s45 (by omega) rfl ?_
          show wpv K_X3_close d P 160 [some (4, (p0 : Int)), some (0, x1), some (0, x2), some (4, (p3 : Int)), some (0, (x4 + 1)), some (0, x5), some (0, (x6 + 1)), some (0, (V (p0 + 7) (((x1 * 8) + x6)))), some (0, v31)] [] G R (wr V41 (p0 + 11) x4 v31)
          refine wp_go 60 rfl rfl rfl (?_ : wpv K_X3_close d P 60 [some (4, (p0 : Int)), some (0, x1), some (0, x2), some (4, (p3 : Int)), some (0, (x4 + 1)), some (0, x5), some (0, (x6 + 1)), some (0, (V (p0 + 7) (((x1 * 8) + x6)))), some (0, v31)] [] G R (wr V41 (p0 + 11) x4 v31))
          exact wp_wk (wk_s (wk_s (wk_s (wk_s (wk_s (wk_s (wk_s wk_0))))))) w
theorem t_X3_addMembersTimes_0 {d : Nat} {P : gP} {p0 : Nat} {x1 : Int} {p2 : Nat} {G : List gS} {R V : gV} (l0 : lay3 G R p0) (l2 : lay6 G R p2) (w : wpv K_X3_addMembersTimes d P 2 [some (4, (p0 : Int)), some (0, x1), some (4, (p2 : Int)), some (0, 0)] [] G R V) : wpv K_X3_addMembersTimes d P 0 [some (4, (p0 : Int)), some (0, x1), some (4, (p2 : Int))] [] G R V := by
  refine wp_p (i := (.iconst 0)) rfl rfl (fun _ _ _ => rfl) (?_ : wpv K_X3_addMembersTimes d P 1 [some (4, (p0 : Int)), some (0, x1), some (4, (p2 : Int))] [(0, 0)] G R V)
  refine wp_sto (i := (.istore_n 3)) _ rfl rfl (fun _ => rfl) rfl rfl rfl ?_
  refine wp_wk (L' := [some (4, (p0 : Int)), some (0, x1), some (4, (p2 : Int)), some (0, 0)]) (wk_s (wk_s (wk_s (wk_s wk_0)))) ?_
  show wpv K_X3_addMembersTimes d P 2 [some (4, (p0 : Int)), some (0, x1), some (4, (p2 : Int)), some (0, 0)] [] G R V
  exact wp_wk (wk_s (wk_s (wk_s (wk_s wk_0)))) w

theorem t_X3_addMembersTimes_2 {d : Nat} {P : gP} {p0 : Nat} {x1 : Int} {p2 : Nat} {x3 : Int} {G : List gS} {R V : gV} (l0 : lay3 G R p0) (l2 : lay6 G R p2) (w : ((i32 (V p0 12)) → ((i32 x3) ∧ (((¬ x3 < (V p0 12)) → P none V) ∧ ((x3 < (V p0 12)) → ((0 ≤ x3 ∧ x3 < 120) ∧ ((i32 (V (p0 + 10) x3)) → cwv d (fun r V6 => ∃ v7 : Int, r = some (0, v7) ∧ cwv d (fun r V8 => r = none ∧ ((i32 (x3 + 1)) ∧ wpv K_X3_addMembersTimes d P 2 [some (4, (p0 : Int)), some (0, x1), some (4, (p2 : Int)), some (0, (x3 + 1))] [] G R V8)) 49 [(4, (p0 : Int)), (0, v7)] G R V6) 89 [(4, (p2 : Int)), (0, (V (p0 + 10) x3)), (0, x1)] G R V))))))) : wpv K_X3_addMembersTimes d P 2 [some (4, (p0 : Int)), some (0, x1), some (4, (p2 : Int)), some (0, x3)] [] G R V := by
  refine wp_ld (i := (.iload_n 3)) (0, x3) rfl rfl (fun _ => rfl) rfl rfl (?_ : wpv K_X3_addMembersTimes d P 3 [some (4, (p0 : Int)), some (0, x1), some (4, (p2 : Int)), some (0, x3)] [(0, x3)] G R V)
  refine wp_ld (i := (.aload_n 0)) (4, (p0 : Int)) rfl rfl (fun _ => rfl) rfl rfl (?_ : wpv K_X3_addMembersTimes d P 4 [some (4, (p0 : Int)), some (0, x1), some (4, (p2 : Int)), some (0, x3)] [(4, (p0 : Int)), (0, x3)] G R V)
  refine wp_rng (fun vr1 => ?_)
  have f2 : i32 (V p0 12) := vr_f0 vr1 (ly3_o l0) rfl rfl
  replace w := w f2
  refine wp_getI (k := 12) rfl rfl rfl (ly3_o l0) rfl rfl (?_ : wpv K_X3_addMembersTimes d P 7 [some (4, (p0 : Int)), some (0, x1), some (4, (p2 : Int)), some (0, x3)] [(0, (V p0 12)), (0, x3)] G R V)
  obtain ⟨s3, w⟩ := w
  refine wp_icmp (c := .ge) 31 rfl rfl rfl s3 f2 (fun q => ?_) (fun q => ?_)
  · have q : ¬ x3 < (V p0 12) := q
    replace w := w.1 q
    show wpv K_X3_addMembersTimes d P 31 [some (4, (p0 : Int)), some (0, x1), some (4, (p2 : Int)), some (0, x3)] [] G R V
    exact wp_r0 rfl rfl rfl w
  · have q : x3 < (V p0 12) := Decidable.not_not.mp q
    replace w := w.2 q
    show wpv K_X3_addMembersTimes d P 10 [some (4, (p0 : Int)), some (0, x1), some (4, (p2 : Int)), some (0, x3)] [] G R V
    refine wp_ld (i := (.aload_n 0)) (4, (p0 : Int)) rfl rfl (fun _ => rfl) rfl rfl (?_ : wpv K_X3_addMembersTimes d P 11 [some (4, (p0 : Int)), some (0, x1), some (4, (p2 : Int)), some (0, x3)] [(4, (p0 : Int))] G R V)
    refine wp_ld (i := (.aload_n 2)) (4, (p2 : Int)) rfl rfl (fun _ => rfl) rfl rfl (?_ : wpv K_X3_addMembersTimes d P 12 [some (4, (p0 : Int)), some (0, x1), some (4, (p2 : Int)), some (0, x3)] [(4, (p2 : Int)), (4, (p0 : Int))] G R V)
    refine wp_ld (i := (.aload_n 0)) (4, (p0 : Int)) rfl rfl (fun _ => rfl) rfl rfl (?_ : wpv K_X3_addMembersTimes d P 13 [some (4, (p0 : Int)), some (0, x1), some (4, (p2 : Int)), some (0, x3)] [(4, (p0 : Int)), (4, (p2 : Int)), (4, (p0 : Int))] G R V)
    refine wp_getA (k := 13) rfl rfl rfl (ly3_o l0) rfl rfl (ly3_13 l0).1 (?_ : wpv K_X3_addMembersTimes d P 16 [some (4, (p0 : Int)), some (0, x1), some (4, (p2 : Int)), some (0, x3)] [(4, ((p0 + 10 : Nat) : Int)), (4, (p2 : Int)), (4, (p0 : Int))] G R V)
    refine wp_ld (i := (.iload_n 3)) (0, x3) rfl rfl (fun _ => rfl) rfl rfl (?_ : wpv K_X3_addMembersTimes d P 17 [some (4, (p0 : Int)), some (0, x1), some (4, (p2 : Int)), some (0, x3)] [(0, x3), (4, ((p0 + 10 : Nat) : Int)), (4, (p2 : Int)), (4, (p0 : Int))] G R V)
    obtain ⟨s4, w⟩ := w
    have f5 : i32 (V (p0 + 10) x3) := vr_a0 vr1 (ly3_13 l0).2 s4
    replace w := w f5
    refine wp_aI rfl rfl (ly3_13 l0).2 s4 (?_ : wpv K_X3_addMembersTimes d P 18 [some (4, (p0 : Int)), some (0, x1), some (4, (p2 : Int)), some (0, x3)] [(0, (V (p0 + 10) x3)), (4, (p2 : Int)), (4, (p0 : Int))] G R V)
    refine wp_ld (i := (.iload_n 1)) (0, x1) rfl rfl (fun _ => rfl) rfl rfl (?_ : wpv K_X3_addMembersTimes d P 19 [some (4, (p0 : Int)), some (0, x1), some (4, (p2 : Int)), some (0, x3)] [(0, x1), (0, (V (p0 + 10) x3)), (4, (p2 : Int)), (4, (p0 : Int))] G R V)
    refine wp_virt (as := [(0, (V (p0 + 10) x3)), (0, x1)]) (a := p2) (st := [(4, (p0 : Int))]) _ rfl rfl rfl rfl rfl rfl (ly6_o l2) (Nat.le_of_ble_eq_true rfl) (cwv_kI w (fun v7 V6 w => ?_))
    show wpv K_X3_addMembersTimes d P 22 [some (4, (p0 : Int)), some (0, x1), some (4, (p2 : Int)), some (0, x3)] [(0, v7), (4, (p0 : Int))] G R V6
    refine wp_virt (as := [(0, v7)]) (a := p0) (st := []) _ rfl rfl rfl rfl rfl rfl (ly3_o l0) (Nat.le_of_ble_eq_true rfl) (cwv_k0 w (fun V8 w => ?_))
    show wpv K_X3_addMembersTimes d P 25 [some (4, (p0 : Int)), some (0, x1), some (4, (p2 : Int)), some (0, x3)] [] G R V8
    obtain ⟨s9, w⟩ := w
    refine wp_inc (x := 3) (k := 1) (a := x3) (c := (x3 + 1)) _ rfl rfl rfl rfl s9 (by omega) rfl ?_
    show wpv K_X3_addMembersTimes d P 28 [some (4, (p0 : Int)), some (0, x1), some (4, (p2 : Int)), some (0, (x3 + 1))] [] G R V8
    refine wp_go 2 rfl rfl rfl (?_ : wpv K_X3_addMembersTimes d P 2 [some (4, (p0 : Int)), some (0, x1), some (4, (p2 : Int)), some (0, (x3 + 1))] [] G R V8)
    exact wp_wk (wk_s (wk_s (wk_s (wk_s wk_0)))) w
theorem t_X3_addToNew_0 {d : Nat} {P : gP} {p0 : Nat} {x1 : Int} {G : List gS} {R V : gV} (l0 : lay3 G R p0) (w : ((i32 x1) ∧ (((¬ x1 < 64) → ((i64 (V p0 16)) → P none (wr V p0 16 ((jor ((V p0 16)) ((jshl 1 ((kand x1 63))))))))) ∧ ((x1 < 64) → ((i64 (V p0 15)) → P none (wr V p0 15 ((jor ((V p0 15)) ((jshl 1 x1)))))))))) : wpv K_X3_addToNew d P 0 [some (4, (p0 : Int)), some (0, x1)] [] G R V := by
  refine wp_ld (i := (.iload_n 1)) (0, x1) rfl rfl (fun _ => rfl) rfl rfl (?_ : wpv K_X3_addToNew d P 1 [some (4, (p0 : Int)), some (0, x1)] [(0, x1)] G R V)
  refine wp_p (i := (.bipush 64)) rfl rfl (fun _ _ _ => rfl) (?_ : wpv K_X3_addToNew d P 3 [some (4, (p0 : Int)), some (0, x1)] [(0, 64), (0, x1)] G R V)
  obtain ⟨s1, w⟩ := w
  refine wp_icmp (c := .ge) 21 rfl rfl rfl s1 ⟨by omega, by omega⟩ (fun q => ?_) (fun q => ?_)
  · have q : ¬ x1 < 64 := q
    replace w := w.1 q
    show wpv K_X3_addToNew d P 21 [some (4, (p0 : Int)), some (0, x1)] [] G R V
    refine wp_ld (i := (.aload_n 0)) (4, (p0 : Int)) rfl rfl (fun _ => rfl) rfl rfl (?_ : wpv K_X3_addToNew d P 22 [some (4, (p0 : Int)), some (0, x1)] [(4, (p0 : Int))] G R V)
    refine wp_p (i := .dup) rfl rfl (fun _ _ _ => rfl) (?_ : wpv K_X3_addToNew d P 23 [some (4, (p0 : Int)), some (0, x1)] [(4, (p0 : Int)), (4, (p0 : Int))] G R V)
    refine wp_rng (fun vr2 => ?_)
    have f3 : i64 (V p0 16) := vr_f1 vr2 (ly3_o l0) rfl rfl
    replace w := w f3
    refine wp_getJ (k := 16) rfl rfl rfl (ly3_o l0) rfl rfl (?_ : wpv K_X3_addToNew d P 26 [some (4, (p0 : Int)), some (0, x1)] [(2, (V p0 16)), (4, (p0 : Int))] G R V)
    refine wp_p (i := (.lconst 1)) rfl rfl (fun _ _ _ => rfl) (?_ : wpv K_X3_addToNew d P 27 [some (4, (p0 : Int)), some (0, x1)] [(2, 1), (2, (V p0 16)), (4, (p0 : Int))] G R V)
    refine wp_ld (i := (.iload_n 1)) (0, x1) rfl rfl (fun _ => rfl) rfl rfl (?_ : wpv K_X3_addToNew d P 28 [some (4, (p0 : Int)), some (0, x1)] [(0, x1), (2, 1), (2, (V p0 16)), (4, (p0 : Int))] G R V)
    refine wp_p (i := (.bipush 63)) rfl rfl (fun _ _ _ => rfl) (?_ : wpv K_X3_addToNew d P 30 [some (4, (p0 : Int)), some (0, x1)] [(0, 63), (0, x1), (2, 1), (2, (V p0 16)), (4, (p0 : Int))] G R V)
    refine wp_kand rfl rfl (?_ : wpv K_X3_addToNew d P 31 [some (4, (p0 : Int)), some (0, x1)] [(0, (kand x1 63)), (2, 1), (2, (V p0 16)), (4, (p0 : Int))] G R V)
    refine wp_jshl rfl rfl (?_ : wpv K_X3_addToNew d P 32 [some (4, (p0 : Int)), some (0, x1)] [(2, (jshl 1 ((kand x1 63)))), (2, (V p0 16)), (4, (p0 : Int))] G R V)
    refine wp_jor rfl rfl (?_ : wpv K_X3_addToNew d P 33 [some (4, (p0 : Int)), some (0, x1)] [(2, (jor ((V p0 16)) ((jshl 1 ((kand x1 63)))))), (4, (p0 : Int))] G R V)
    refine wp_putJ (k := 16) rfl rfl rfl (ly3_o l0) rfl rfl rfl (t64 _) (?_ : wpv K_X3_addToNew d P 36 [some (4, (p0 : Int)), some (0, x1)] [] G R (wr V p0 16 ((jor ((V p0 16)) ((jshl 1 ((kand x1 63))))))))
    exact wp_r0 rfl rfl rfl w
  · have q : x1 < 64 := Decidable.not_not.mp q
    replace w := w.2 q
    show wpv K_X3_addToNew d P 6 [some (4, (p0 : Int)), some (0, x1)] [] G R V
    refine wp_ld (i := (.aload_n 0)) (4, (p0 : Int)) rfl rfl (fun _ => rfl) rfl rfl (?_ : wpv K_X3_addToNew d P 7 [some (4, (p0 : Int)), some (0, x1)] [(4, (p0 : Int))] G R V)
    refine wp_p (i := .dup) rfl rfl (fun _ _ _ => rfl) (?_ : wpv K_X3_addToNew d P 8 [some (4, (p0 : Int)), some (0, x1)] [(4, (p0 : Int)), (4, (p0 : Int))] G R V)
    refine wp_rng (fun vr4 => ?_)
    have f5 : i64 (V p0 15) := vr_f1 vr4 (ly3_o l0) rfl rfl
    replace w := w f5
    refine wp_getJ (k := 15) rfl rfl rfl (ly3_o l0) rfl rfl (?_ : wpv K_X3_addToNew d P 11 [some (4, (p0 : Int)), some (0, x1)] [(2, (V p0 15)), (4, (p0 : Int))] G R V)
    refine wp_p (i := (.lconst 1)) rfl rfl (fun _ _ _ => rfl) (?_ : wpv K_X3_addToNew d P 12 [some (4, (p0 : Int)), some (0, x1)] [(2, 1), (2, (V p0 15)), (4, (p0 : Int))] G R V)
    refine wp_ld (i := (.iload_n 1)) (0, x1) rfl rfl (fun _ => rfl) rfl rfl (?_ : wpv K_X3_addToNew d P 13 [some (4, (p0 : Int)), some (0, x1)] [(0, x1), (2, 1), (2, (V p0 15)), (4, (p0 : Int))] G R V)
    refine wp_jshl rfl rfl (?_ : wpv K_X3_addToNew d P 14 [some (4, (p0 : Int)), some (0, x1)] [(2, (jshl 1 x1)), (2, (V p0 15)), (4, (p0 : Int))] G R V)
    refine wp_jor rfl rfl (?_ : wpv K_X3_addToNew d P 15 [some (4, (p0 : Int)), some (0, x1)] [(2, (jor ((V p0 15)) ((jshl 1 x1)))), (4, (p0 : Int))] G R V)
    refine wp_putJ (k := 15) rfl rfl rfl (ly3_o l0) rfl rfl rfl (t64 _) (?_ : wpv K_X3_addToNew d P 18 [some (4, (p0 : Int)), some (0, x1)] [] G R (wr V p0 15 ((jor ((V p0 15)) ((jshl 1 x1))))))
    refine wp_go 36 rfl rfl rfl (?_ : wpv K_X3_addToNew d P 36 [some (4, (p0 : Int)), some (0, x1)] [] G R (wr V p0 15 ((jor ((V p0 15)) ((jshl 1 x1))))))
    exact wp_r0 rfl rfl rfl w
theorem t_X3_indexFrom_0 {d : Nat} {P : gP} {p0 : Nat} {x1 : Int} {x2 : Int} {x4 : Int} {G : List gS} {R V : gV} (l0 : lay3 G R p0) (w : wpv K_X3_indexFrom d P 3 [some (4, (p0 : Int)), none, some (2, x2), none, some (2, x4), none, some (0, x1)] [] G R V) : wpv K_X3_indexFrom d P 0 [some (4, (p0 : Int)), some (0, x1), some (2, x2), none, some (2, x4)] [] G R V := by
  refine wp_ld (i := (.iload_n 1)) (0, x1) rfl rfl (fun _ => rfl) rfl rfl (?_ : wpv K_X3_indexFrom d P 1 [some (4, (p0 : Int)), some (0, x1), some (2, x2), none, some (2, x4)] [(0, x1)] G R V)
  refine wp_sto (i := (.istore 6)) _ rfl rfl (fun _ => rfl) rfl rfl rfl ?_
  refine wp_wk (L' := [some (4, (p0 : Int)), some (0, x1), some (2, x2), none, some (2, x4), none, some (0, x1)]) (wk_s (wk_s (wk_s (wk_n (wk_s (wk_n (wk_s wk_0))))))) ?_
  show wpv K_X3_indexFrom d P 3 [some (4, (p0 : Int)), some (0, x1), some (2, x2), none, some (2, x4), none, some (0, x1)] [] G R V
  exact wp_wk (wk_s (wk_n (wk_s (wk_n (wk_s (wk_n (wk_s wk_0))))))) w

theorem t_X3_indexFrom_3 {d : Nat} {P : gP} {p0 : Nat} {x2 : Int} {x4 : Int} {x6 : Int} {G : List gS} {R V : gV} (l0 : lay3 G R p0) (w : ((i32 (V p0 0)) → ((i32 x6) ∧ (((¬ x6 < (V p0 0)) → P (some (0, (-1))) V) ∧ ((x6 < (V p0 0)) → ((0 ≤ x6 ∧ x6 < 300) ∧ ((i64 (V (p0 + 1) x6)) → ((i64 x2) ∧ (((¬ (V (p0 + 1) x6) = x2) → ((i32 (x6 + 1)) ∧ wpv K_X3_indexFrom d P 3 [some (4, (p0 : Int)), none, some (2, x2), none, some (2, x4), none, some (0, (x6 + 1))] [] G R V)) ∧ (((V (p0 + 1) x6) = x2) → ((i64 (V (p0 + 2) x6)) → ((i64 x4) ∧ (((¬ (V (p0 + 2) x6) = x4) → ((i32 (x6 + 1)) ∧ wpv K_X3_indexFrom d P 3 [some (4, (p0 : Int)), none, some (2, x2), none, some (2, x4), none, some (0, (x6 + 1))] [] G R V)) ∧ (((V (p0 + 2) x6) = x4) → P (some (0, x6)) V)))))))))))))) : wpv K_X3_indexFrom d P 3 [some (4, (p0 : Int)), none, some (2, x2), none, some (2, x4), none, some (0, x6)] [] G R V := by
  refine wp_ld (i := (.iload 6)) (0, x6) rfl rfl (fun _ => rfl) rfl rfl (?_ : wpv K_X3_indexFrom d P 5 [some (4, (p0 : Int)), none, some (2, x2), none, some (2, x4), none, some (0, x6)] [(0, x6)] G R V)
  refine wp_ld (i := (.aload_n 0)) (4, (p0 : Int)) rfl rfl (fun _ => rfl) rfl rfl (?_ : wpv K_X3_indexFrom d P 6 [some (4, (p0 : Int)), none, some (2, x2), none, some (2, x4), none, some (0, x6)] [(4, (p0 : Int)), (0, x6)] G R V)
  refine wp_rng (fun vr1 => ?_)
  have f2 : i32 (V p0 0) := vr_f0 vr1 (ly3_o l0) rfl rfl
  replace w := w f2
  refine wp_getI (k := 0) rfl rfl rfl (ly3_o l0) rfl rfl (?_ : wpv K_X3_indexFrom d P 9 [some (4, (p0 : Int)), none, some (2, x2), none, some (2, x4), none, some (0, x6)] [(0, (V p0 0)), (0, x6)] G R V)
  obtain ⟨s3, w⟩ := w
  refine wp_icmp (c := .ge) 46 rfl rfl rfl s3 f2 (fun q => ?_) (fun q => ?_)
  · have q : ¬ x6 < (V p0 0) := q
    replace w := w.1 q
    show wpv K_X3_indexFrom d P 46 [some (4, (p0 : Int)), none, some (2, x2), none, some (2, x4), none, some (0, x6)] [] G R V
    refine wp_p (i := (.iconst (-1))) rfl rfl (fun _ _ _ => rfl) (?_ : wpv K_X3_indexFrom d P 47 [some (4, (p0 : Int)), none, some (2, x2), none, some (2, x4), none, some (0, x6)] [(0, (-1))] G R V)
    exact wp_rI rfl rfl rfl w
  · have q : x6 < (V p0 0) := Decidable.not_not.mp q
    replace w := w.2 q
    show wpv K_X3_indexFrom d P 12 [some (4, (p0 : Int)), none, some (2, x2), none, some (2, x4), none, some (0, x6)] [] G R V
    refine wp_ld (i := (.aload_n 0)) (4, (p0 : Int)) rfl rfl (fun _ => rfl) rfl rfl (?_ : wpv K_X3_indexFrom d P 13 [some (4, (p0 : Int)), none, some (2, x2), none, some (2, x4), none, some (0, x6)] [(4, (p0 : Int))] G R V)
    refine wp_getA (k := 1) rfl rfl rfl (ly3_o l0) rfl rfl (ly3_1 l0).1 (?_ : wpv K_X3_indexFrom d P 16 [some (4, (p0 : Int)), none, some (2, x2), none, some (2, x4), none, some (0, x6)] [(4, ((p0 + 1 : Nat) : Int))] G R V)
    refine wp_ld (i := (.iload 6)) (0, x6) rfl rfl (fun _ => rfl) rfl rfl (?_ : wpv K_X3_indexFrom d P 18 [some (4, (p0 : Int)), none, some (2, x2), none, some (2, x4), none, some (0, x6)] [(0, x6), (4, ((p0 + 1 : Nat) : Int))] G R V)
    obtain ⟨s4, w⟩ := w
    have f5 : i64 (V (p0 + 1) x6) := vr_a1 vr1 (ly3_1 l0).2 s4
    replace w := w f5
    refine wp_aJ rfl rfl (ly3_1 l0).2 s4 (?_ : wpv K_X3_indexFrom d P 19 [some (4, (p0 : Int)), none, some (2, x2), none, some (2, x4), none, some (0, x6)] [(2, (V (p0 + 1) x6))] G R V)
    refine wp_ld (i := (.lload_n 2)) (2, x2) rfl rfl (fun _ => rfl) rfl rfl (?_ : wpv K_X3_indexFrom d P 20 [some (4, (p0 : Int)), none, some (2, x2), none, some (2, x4), none, some (0, x6)] [(2, x2), (2, (V (p0 + 1) x6))] G R V)
    obtain ⟨s6, w⟩ := w
    refine wp_lcmp rfl rfl f5 s6 (?_ : wpv K_X3_indexFrom d P 21 [some (4, (p0 : Int)), none, some (2, x2), none, some (2, x4), none, some (0, x6)] [(0, sg ((V (p0 + 1) x6)) x2)] G R V)
    refine wp_if (c := .ne) 40 rfl rfl rfl (sg32 _ _) (fun q => ?_) (fun q => ?_)
    · have q : ¬ (V (p0 + 1) x6) = x2 := fun z => q (sg_eq.mpr z)
      replace w := w.1 q
      show wpv K_X3_indexFrom d P 40 [some (4, (p0 : Int)), none, some (2, x2), none, some (2, x4), none, some (0, x6)] [] G R V
      obtain ⟨s7, w⟩ := w
      refine wp_inc (x := 6) (k := 1) (a := x6) (c := (x6 + 1)) _ rfl rfl rfl rfl s7 (by omega) rfl ?_
      show wpv K_X3_indexFrom d P 43 [some (4, (p0 : Int)), none, some (2, x2), none, some (2, x4), none, some (0, (x6 + 1))] [] G R V
      refine wp_go 3 rfl rfl rfl (?_ : wpv K_X3_indexFrom d P 3 [some (4, (p0 : Int)), none, some (2, x2), none, some (2, x4), none, some (0, (x6 + 1))] [] G R V)
      exact wp_wk (wk_s (wk_n (wk_s (wk_n (wk_s (wk_n (wk_s wk_0))))))) w
    · have q : (V (p0 + 1) x6) = x2 := sg_eq.mp (Decidable.not_not.mp q)
      replace w := w.2 q
      show wpv K_X3_indexFrom d P 24 [some (4, (p0 : Int)), none, some (2, x2), none, some (2, x4), none, some (0, x6)] [] G R V
      refine wp_ld (i := (.aload_n 0)) (4, (p0 : Int)) rfl rfl (fun _ => rfl) rfl rfl (?_ : wpv K_X3_indexFrom d P 25 [some (4, (p0 : Int)), none, some (2, x2), none, some (2, x4), none, some (0, x6)] [(4, (p0 : Int))] G R V)
      refine wp_getA (k := 2) rfl rfl rfl (ly3_o l0) rfl rfl (ly3_2 l0).1 (?_ : wpv K_X3_indexFrom d P 28 [some (4, (p0 : Int)), none, some (2, x2), none, some (2, x4), none, some (0, x6)] [(4, ((p0 + 2 : Nat) : Int))] G R V)
      refine wp_ld (i := (.iload 6)) (0, x6) rfl rfl (fun _ => rfl) rfl rfl (?_ : wpv K_X3_indexFrom d P 30 [some (4, (p0 : Int)), none, some (2, x2), none, some (2, x4), none, some (0, x6)] [(0, x6), (4, ((p0 + 2 : Nat) : Int))] G R V)
      have f8 : i64 (V (p0 + 2) x6) := vr_a1 vr1 (ly3_2 l0).2 s4
      replace w := w f8
      refine wp_aJ rfl rfl (ly3_2 l0).2 s4 (?_ : wpv K_X3_indexFrom d P 31 [some (4, (p0 : Int)), none, some (2, x2), none, some (2, x4), none, some (0, x6)] [(2, (V (p0 + 2) x6))] G R V)
      refine wp_ld (i := (.lload 4)) (2, x4) rfl rfl (fun _ => rfl) rfl rfl (?_ : wpv K_X3_indexFrom d P 33 [some (4, (p0 : Int)), none, some (2, x2), none, some (2, x4), none, some (0, x6)] [(2, x4), (2, (V (p0 + 2) x6))] G R V)
      obtain ⟨s9, w⟩ := w
      refine wp_lcmp rfl rfl f8 s9 (?_ : wpv K_X3_indexFrom d P 34 [some (4, (p0 : Int)), none, some (2, x2), none, some (2, x4), none, some (0, x6)] [(0, sg ((V (p0 + 2) x6)) x4)] G R V)
      refine wp_if (c := .ne) 40 rfl rfl rfl (sg32 _ _) (fun q => ?_) (fun q => ?_)
      · have q : ¬ (V (p0 + 2) x6) = x4 := fun z => q (sg_eq.mpr z)
        replace w := w.1 q
        show wpv K_X3_indexFrom d P 40 [some (4, (p0 : Int)), none, some (2, x2), none, some (2, x4), none, some (0, x6)] [] G R V
        obtain ⟨s10, w⟩ := w
        refine wp_inc (x := 6) (k := 1) (a := x6) (c := (x6 + 1)) _ rfl rfl rfl rfl s10 (by omega) rfl ?_
        show wpv K_X3_indexFrom d P 43 [some (4, (p0 : Int)), none, some (2, x2), none, some (2, x4), none, some (0, (x6 + 1))] [] G R V
        refine wp_go 3 rfl rfl rfl (?_ : wpv K_X3_indexFrom d P 3 [some (4, (p0 : Int)), none, some (2, x2), none, some (2, x4), none, some (0, (x6 + 1))] [] G R V)
        exact wp_wk (wk_s (wk_n (wk_s (wk_n (wk_s (wk_n (wk_s wk_0))))))) w
      · have q : (V (p0 + 2) x6) = x4 := sg_eq.mp (Decidable.not_not.mp q)
        replace w := w.2 q
        show wpv K_X3_indexFrom d P 37 [some (4, (p0 : Int)), none, some (2, x2), none, some (2, x4), none, some (0, x6)] [] G R V
        refine wp_ld (i := (.iload 6)) (0, x6) rfl rfl (fun _ => rfl) rfl rfl (?_ : wpv K_X3_indexFrom d P 39 [some (4, (p0 : Int)), none, some (2, x2), none, some (2, x4), none, some (0, x6)] [(0, x6)] G R V)
        exact wp_rI rfl rfl rfl w
theorem t_X3_addKind_0 {d : Nat} {P : gP} {p0 : Nat} {x1 : Int} {x2 : Int} {p3 : Nat} {G : List gS} {R V : gV} (l0 : lay3 G R p0) (l3 : lay6 G R p3) (w : ((i32 (V p0 0)) → ((i32 (V p0 5)) → (((¬ (V p0 5) < 300) → P (some (0, 0)) V) ∧ (((V p0 5) < 300) → cwv d (fun r V4 => ∃ v5 : Int, r = some (0, v5) ∧ ((i32 v5) ∧ (((¬ v5 = 0) → cwv d (fun r V7 => r = none ∧ ((i32 (V7 p0 5)) → ((0 ≤ (V7 p0 5) ∧ (V7 p0 5) < 300) ∧ wpv K_X3_addKind d P 46 [some (4, (p0 : Int)), none, none, some (4, (p3 : Int)), some (0, (V p0 0)), some (0, (V p0 0))] [] G R (wr V7 (p0 + 5) ((V7 p0 5)) ((V p0 0)))))) 53 [(4, (p0 : Int)), (0, x1), (0, x2)] G R V4) ∧ ((v5 = 0) → P (some (0, 0)) V4)))) 52 [(4, (p0 : Int))] G R V))))) : wpv K_X3_addKind d P 0 [some (4, (p0 : Int)), some (0, x1), some (0, x2), some (4, (p3 : Int))] [] G R V := by
  refine wp_ld (i := (.aload_n 0)) (4, (p0 : Int)) rfl rfl (fun _ => rfl) rfl rfl (?_ : wpv K_X3_addKind d P 1 [some (4, (p0 : Int)), some (0, x1), some (0, x2), some (4, (p3 : Int))] [(4, (p0 : Int))] G R V)
  refine wp_rng (fun vr1 => ?_)
  have f2 : i32 (V p0 0) := vr_f0 vr1 (ly3_o l0) rfl rfl
  replace w := w f2
  refine wp_getI (k := 0) rfl rfl rfl (ly3_o l0) rfl rfl (?_ : wpv K_X3_addKind d P 4 [some (4, (p0 : Int)), some (0, x1), some (0, x2), some (4, (p3 : Int))] [(0, (V p0 0))] G R V)
  refine wp_sto (i := (.istore 4)) _ rfl rfl (fun _ => rfl) rfl rfl rfl ?_
  refine wp_wk (L' := [some (4, (p0 : Int)), some (0, x1), some (0, x2), some (4, (p3 : Int)), some (0, (V p0 0))]) (wk_s (wk_s (wk_s (wk_s (wk_s wk_0))))) ?_
  show wpv K_X3_addKind d P 6 [some (4, (p0 : Int)), some (0, x1), some (0, x2), some (4, (p3 : Int)), some (0, (V p0 0))] [] G R V
  refine wp_ld (i := (.aload_n 0)) (4, (p0 : Int)) rfl rfl (fun _ => rfl) rfl rfl (?_ : wpv K_X3_addKind d P 7 [some (4, (p0 : Int)), some (0, x1), some (0, x2), some (4, (p3 : Int)), some (0, (V p0 0))] [(4, (p0 : Int))] G R V)
  have f3 : i32 (V p0 5) := vr_f0 vr1 (ly3_o l0) rfl rfl
  replace w := w f3
  refine wp_getI (k := 5) rfl rfl rfl (ly3_o l0) rfl rfl (?_ : wpv K_X3_addKind d P 10 [some (4, (p0 : Int)), some (0, x1), some (0, x2), some (4, (p3 : Int)), some (0, (V p0 0))] [(0, (V p0 5))] G R V)
  refine wp_p (i := (.sipush 300)) rfl rfl (fun _ _ _ => rfl) (?_ : wpv K_X3_addKind d P 13 [some (4, (p0 : Int)), some (0, x1), some (0, x2), some (4, (p3 : Int)), some (0, (V p0 0))] [(0, 300), (0, (V p0 5))] G R V)
  refine wp_icmp (c := .ge) 23 rfl rfl rfl f3 ⟨by omega, by omega⟩ (fun q => ?_) (fun q => ?_)
  · have q : ¬ (V p0 5) < 300 := q
    replace w := w.1 q
    show wpv K_X3_addKind d P 23 [some (4, (p0 : Int)), some (0, x1), some (0, x2), some (4, (p3 : Int)), some (0, (V p0 0))] [] G R V
    refine wp_p (i := (.iconst 0)) rfl rfl (fun _ _ _ => rfl) (?_ : wpv K_X3_addKind d P 24 [some (4, (p0 : Int)), some (0, x1), some (0, x2), some (4, (p3 : Int)), some (0, (V p0 0))] [(0, 0)] G R V)
    exact wp_rB rfl rfl rfl (by omega) w
  · have q : (V p0 5) < 300 := Decidable.not_not.mp q
    replace w := w.2 q
    show wpv K_X3_addKind d P 16 [some (4, (p0 : Int)), some (0, x1), some (0, x2), some (4, (p3 : Int)), some (0, (V p0 0))] [] G R V
    refine wp_ld (i := (.aload_n 0)) (4, (p0 : Int)) rfl rfl (fun _ => rfl) rfl rfl (?_ : wpv K_X3_addKind d P 17 [some (4, (p0 : Int)), some (0, x1), some (0, x2), some (4, (p3 : Int)), some (0, (V p0 0))] [(4, (p0 : Int))] G R V)
    refine wp_virt (as := []) (a := p0) (st := []) _ rfl rfl rfl rfl rfl rfl (ly3_o l0) (Nat.le_of_ble_eq_true rfl) (cwv_kI w (fun v5 V4 w => ?_))
    show wpv K_X3_addKind d P 20 [some (4, (p0 : Int)), some (0, x1), some (0, x2), some (4, (p3 : Int)), some (0, (V p0 0))] [(0, v5)] G R V4
    obtain ⟨s6, w⟩ := w
    refine wp_if (c := .ne) 25 rfl rfl rfl s6 (fun q => ?_) (fun q => ?_)
    · have q : ¬ v5 = 0 := q
      replace w := w.1 q
      show wpv K_X3_addKind d P 25 [some (4, (p0 : Int)), some (0, x1), some (0, x2), some (4, (p3 : Int)), some (0, (V p0 0))] [] G R V4
      refine wp_ld (i := (.aload_n 0)) (4, (p0 : Int)) rfl rfl (fun _ => rfl) rfl rfl (?_ : wpv K_X3_addKind d P 26 [some (4, (p0 : Int)), some (0, x1), some (0, x2), some (4, (p3 : Int)), some (0, (V p0 0))] [(4, (p0 : Int))] G R V4)
      refine wp_ld (i := (.iload_n 1)) (0, x1) rfl rfl (fun _ => rfl) rfl rfl (?_ : wpv K_X3_addKind d P 27 [some (4, (p0 : Int)), some (0, x1), some (0, x2), some (4, (p3 : Int)), some (0, (V p0 0))] [(0, x1), (4, (p0 : Int))] G R V4)
      refine wp_ld (i := (.iload_n 2)) (0, x2) rfl rfl (fun _ => rfl) rfl rfl (?_ : wpv K_X3_addKind d P 28 [some (4, (p0 : Int)), some (0, x1), some (0, x2), some (4, (p3 : Int)), some (0, (V p0 0))] [(0, x2), (0, x1), (4, (p0 : Int))] G R V4)
      refine wp_virt (as := [(0, x1), (0, x2)]) (a := p0) (st := []) _ rfl rfl rfl rfl rfl rfl (ly3_o l0) (Nat.le_of_ble_eq_true rfl) (cwv_k0 w (fun V7 w => ?_))
      show wpv K_X3_addKind d P 31 [some (4, (p0 : Int)), some (0, x1), some (0, x2), some (4, (p3 : Int)), some (0, (V p0 0))] [] G R V7
      refine wp_ld (i := (.aload_n 0)) (4, (p0 : Int)) rfl rfl (fun _ => rfl) rfl rfl (?_ : wpv K_X3_addKind d P 32 [some (4, (p0 : Int)), some (0, x1), some (0, x2), some (4, (p3 : Int)), some (0, (V p0 0))] [(4, (p0 : Int))] G R V7)
      refine wp_getA (k := 6) rfl rfl rfl (ly3_o l0) rfl rfl (ly3_6 l0).1 (?_ : wpv K_X3_addKind d P 35 [some (4, (p0 : Int)), some (0, x1), some (0, x2), some (4, (p3 : Int)), some (0, (V p0 0))] [(4, ((p0 + 5 : Nat) : Int))] G R V7)
      refine wp_ld (i := (.aload_n 0)) (4, (p0 : Int)) rfl rfl (fun _ => rfl) rfl rfl (?_ : wpv K_X3_addKind d P 36 [some (4, (p0 : Int)), some (0, x1), some (0, x2), some (4, (p3 : Int)), some (0, (V p0 0))] [(4, (p0 : Int)), (4, ((p0 + 5 : Nat) : Int))] G R V7)
      refine wp_rng (fun vr8 => ?_)
      have f9 : i32 (V7 p0 5) := vr_f0 vr8 (ly3_o l0) rfl rfl
      replace w := w f9
      refine wp_getI (k := 5) rfl rfl rfl (ly3_o l0) rfl rfl (?_ : wpv K_X3_addKind d P 39 [some (4, (p0 : Int)), some (0, x1), some (0, x2), some (4, (p3 : Int)), some (0, (V p0 0))] [(0, (V7 p0 5)), (4, ((p0 + 5 : Nat) : Int))] G R V7)
      refine wp_ld (i := (.iload 4)) (0, (V p0 0)) rfl rfl (fun _ => rfl) rfl rfl (?_ : wpv K_X3_addKind d P 41 [some (4, (p0 : Int)), some (0, x1), some (0, x2), some (4, (p3 : Int)), some (0, (V p0 0))] [(0, (V p0 0)), (0, (V7 p0 5)), (4, ((p0 + 5 : Nat) : Int))] G R V7)
      obtain ⟨s10, w⟩ := w
      refine wp_sI rfl rfl (ly3_6 l0).2 s10 f2 (?_ : wpv K_X3_addKind d P 42 [some (4, (p0 : Int)), some (0, x1), some (0, x2), some (4, (p3 : Int)), some (0, (V p0 0))] [] G R (wr V7 (p0 + 5) ((V7 p0 5)) ((V p0 0))))
      refine wp_ld (i := (.iload 4)) (0, (V p0 0)) rfl rfl (fun _ => rfl) rfl rfl (?_ : wpv K_X3_addKind d P 44 [some (4, (p0 : Int)), some (0, x1), some (0, x2), some (4, (p3 : Int)), some (0, (V p0 0))] [(0, (V p0 0))] G R (wr V7 (p0 + 5) ((V7 p0 5)) ((V p0 0))))
      refine wp_sto (i := (.istore 5)) _ rfl rfl (fun _ => rfl) rfl rfl rfl ?_
      refine wp_wk (L' := [some (4, (p0 : Int)), some (0, x1), some (0, x2), some (4, (p3 : Int)), some (0, (V p0 0)), some (0, (V p0 0))]) (wk_s (wk_s (wk_s (wk_s (wk_s (wk_s wk_0)))))) ?_
      show wpv K_X3_addKind d P 46 [some (4, (p0 : Int)), some (0, x1), some (0, x2), some (4, (p3 : Int)), some (0, (V p0 0)), some (0, (V p0 0))] [] G R (wr V7 (p0 + 5) ((V7 p0 5)) ((V p0 0)))
      exact wp_wk (wk_s (wk_n (wk_n (wk_s (wk_s (wk_s wk_0)))))) w
    · have q : v5 = 0 := Decidable.not_not.mp q
      replace w := w.2 q
      show wpv K_X3_addKind d P 23 [some (4, (p0 : Int)), some (0, x1), some (0, x2), some (4, (p3 : Int)), some (0, (V p0 0))] [] G R V4
      refine wp_p (i := (.iconst 0)) rfl rfl (fun _ _ _ => rfl) (?_ : wpv K_X3_addKind d P 24 [some (4, (p0 : Int)), some (0, x1), some (0, x2), some (4, (p3 : Int)), some (0, (V p0 0))] [(0, 0)] G R V4)
      exact wp_rB rfl rfl rfl (by omega) w

theorem t_X3_addKind_46 {d : Nat} {P : gP} {p0 : Nat} {p3 : Nat} {x4 : Int} {x5 : Int} {G : List gS} {R V : gV} (l0 : lay3 G R p0) (l3 : lay6 G R p3) (w : ((i32 (V p0 0)) → ((i32 x5) ∧ (((¬ x5 < (V p0 0)) → ((i32 (V p0 5)) → ((i32 ((V p0 5) + 1)) ∧ P (some (0, 1)) (wr V p0 5 (((V p0 5) + 1)))))) ∧ ((x5 < (V p0 0)) → (((¬ x5 < 300) → ((i32 (V p0 5)) → ((i32 ((V p0 5) + 1)) ∧ P (some (0, 1)) (wr V p0 5 (((V p0 5) + 1)))))) ∧ ((x5 < 300) → wpv K_X3_addKind d P 66 [some (4, (p0 : Int)), none, none, some (4, (p3 : Int)), some (0, x4), some (0, x5), some (0, 0)] [] G R V))))))) : wpv K_X3_addKind d P 46 [some (4, (p0 : Int)), none, none, some (4, (p3 : Int)), some (0, x4), some (0, x5)] [] G R V := by
  refine wp_ld (i := (.iload 5)) (0, x5) rfl rfl (fun _ => rfl) rfl rfl (?_ : wpv K_X3_addKind d P 48 [some (4, (p0 : Int)), none, none, some (4, (p3 : Int)), some (0, x4), some (0, x5)] [(0, x5)] G R V)
  refine wp_ld (i := (.aload_n 0)) (4, (p0 : Int)) rfl rfl (fun _ => rfl) rfl rfl (?_ : wpv K_X3_addKind d P 49 [some (4, (p0 : Int)), none, none, some (4, (p3 : Int)), some (0, x4), some (0, x5)] [(4, (p0 : Int)), (0, x5)] G R V)
  refine wp_rng (fun vr1 => ?_)
  have f2 : i32 (V p0 0) := vr_f0 vr1 (ly3_o l0) rfl rfl
  replace w := w f2
  refine wp_getI (k := 0) rfl rfl rfl (ly3_o l0) rfl rfl (?_ : wpv K_X3_addKind d P 52 [some (4, (p0 : Int)), none, none, some (4, (p3 : Int)), some (0, x4), some (0, x5)] [(0, (V p0 0)), (0, x5)] G R V)
  obtain ⟨s3, w⟩ := w
  refine wp_icmp (c := .ge) 123 rfl rfl rfl s3 f2 (fun q => ?_) (fun q => ?_)
  · have q : ¬ x5 < (V p0 0) := q
    replace w := w.1 q
    show wpv K_X3_addKind d P 123 [some (4, (p0 : Int)), none, none, some (4, (p3 : Int)), some (0, x4), some (0, x5)] [] G R V
    refine wp_ld (i := (.aload_n 0)) (4, (p0 : Int)) rfl rfl (fun _ => rfl) rfl rfl (?_ : wpv K_X3_addKind d P 124 [some (4, (p0 : Int)), none, none, some (4, (p3 : Int)), some (0, x4), some (0, x5)] [(4, (p0 : Int))] G R V)
    refine wp_p (i := .dup) rfl rfl (fun _ _ _ => rfl) (?_ : wpv K_X3_addKind d P 125 [some (4, (p0 : Int)), none, none, some (4, (p3 : Int)), some (0, x4), some (0, x5)] [(4, (p0 : Int)), (4, (p0 : Int))] G R V)
    have f4 : i32 (V p0 5) := vr_f0 vr1 (ly3_o l0) rfl rfl
    replace w := w f4
    refine wp_getI (k := 5) rfl rfl rfl (ly3_o l0) rfl rfl (?_ : wpv K_X3_addKind d P 128 [some (4, (p0 : Int)), none, none, some (4, (p3 : Int)), some (0, x4), some (0, x5)] [(0, (V p0 5)), (4, (p0 : Int))] G R V)
    refine wp_p (i := (.iconst 1)) rfl rfl (fun _ _ _ => rfl) (?_ : wpv K_X3_addKind d P 129 [some (4, (p0 : Int)), none, none, some (4, (p3 : Int)), some (0, x4), some (0, x5)] [(0, 1), (0, (V p0 5)), (4, (p0 : Int))] G R V)
    obtain ⟨s5, w⟩ := w
    refine wp_xadd rfl rfl s5 (?_ : wpv K_X3_addKind d P 130 [some (4, (p0 : Int)), none, none, some (4, (p3 : Int)), some (0, x4), some (0, x5)] [(0, ((V p0 5) + 1)), (4, (p0 : Int))] G R V)
    refine wp_putI (k := 5) rfl rfl rfl (ly3_o l0) rfl rfl rfl s5 (?_ : wpv K_X3_addKind d P 133 [some (4, (p0 : Int)), none, none, some (4, (p3 : Int)), some (0, x4), some (0, x5)] [] G R (wr V p0 5 (((V p0 5) + 1))))
    refine wp_p (i := (.iconst 1)) rfl rfl (fun _ _ _ => rfl) (?_ : wpv K_X3_addKind d P 134 [some (4, (p0 : Int)), none, none, some (4, (p3 : Int)), some (0, x4), some (0, x5)] [(0, 1)] G R (wr V p0 5 (((V p0 5) + 1))))
    exact wp_rB rfl rfl rfl (by omega) w
  · have q : x5 < (V p0 0) := Decidable.not_not.mp q
    replace w := w.2 q
    show wpv K_X3_addKind d P 55 [some (4, (p0 : Int)), none, none, some (4, (p3 : Int)), some (0, x4), some (0, x5)] [] G R V
    refine wp_ld (i := (.iload 5)) (0, x5) rfl rfl (fun _ => rfl) rfl rfl (?_ : wpv K_X3_addKind d P 57 [some (4, (p0 : Int)), none, none, some (4, (p3 : Int)), some (0, x4), some (0, x5)] [(0, x5)] G R V)
    refine wp_p (i := (.sipush 300)) rfl rfl (fun _ _ _ => rfl) (?_ : wpv K_X3_addKind d P 60 [some (4, (p0 : Int)), none, none, some (4, (p3 : Int)), some (0, x4), some (0, x5)] [(0, 300), (0, x5)] G R V)
    refine wp_icmp (c := .ge) 123 rfl rfl rfl s3 ⟨by omega, by omega⟩ (fun q => ?_) (fun q => ?_)
    · have q : ¬ x5 < 300 := q
      replace w := w.1 q
      show wpv K_X3_addKind d P 123 [some (4, (p0 : Int)), none, none, some (4, (p3 : Int)), some (0, x4), some (0, x5)] [] G R V
      refine wp_ld (i := (.aload_n 0)) (4, (p0 : Int)) rfl rfl (fun _ => rfl) rfl rfl (?_ : wpv K_X3_addKind d P 124 [some (4, (p0 : Int)), none, none, some (4, (p3 : Int)), some (0, x4), some (0, x5)] [(4, (p0 : Int))] G R V)
      refine wp_p (i := .dup) rfl rfl (fun _ _ _ => rfl) (?_ : wpv K_X3_addKind d P 125 [some (4, (p0 : Int)), none, none, some (4, (p3 : Int)), some (0, x4), some (0, x5)] [(4, (p0 : Int)), (4, (p0 : Int))] G R V)
      have f6 : i32 (V p0 5) := vr_f0 vr1 (ly3_o l0) rfl rfl
      replace w := w f6
      refine wp_getI (k := 5) rfl rfl rfl (ly3_o l0) rfl rfl (?_ : wpv K_X3_addKind d P 128 [some (4, (p0 : Int)), none, none, some (4, (p3 : Int)), some (0, x4), some (0, x5)] [(0, (V p0 5)), (4, (p0 : Int))] G R V)
      refine wp_p (i := (.iconst 1)) rfl rfl (fun _ _ _ => rfl) (?_ : wpv K_X3_addKind d P 129 [some (4, (p0 : Int)), none, none, some (4, (p3 : Int)), some (0, x4), some (0, x5)] [(0, 1), (0, (V p0 5)), (4, (p0 : Int))] G R V)
      obtain ⟨s7, w⟩ := w
      refine wp_xadd rfl rfl s7 (?_ : wpv K_X3_addKind d P 130 [some (4, (p0 : Int)), none, none, some (4, (p3 : Int)), some (0, x4), some (0, x5)] [(0, ((V p0 5) + 1)), (4, (p0 : Int))] G R V)
      refine wp_putI (k := 5) rfl rfl rfl (ly3_o l0) rfl rfl rfl s7 (?_ : wpv K_X3_addKind d P 133 [some (4, (p0 : Int)), none, none, some (4, (p3 : Int)), some (0, x4), some (0, x5)] [] G R (wr V p0 5 (((V p0 5) + 1))))
      refine wp_p (i := (.iconst 1)) rfl rfl (fun _ _ _ => rfl) (?_ : wpv K_X3_addKind d P 134 [some (4, (p0 : Int)), none, none, some (4, (p3 : Int)), some (0, x4), some (0, x5)] [(0, 1)] G R (wr V p0 5 (((V p0 5) + 1))))
      exact wp_rB rfl rfl rfl (by omega) w
    · have q : x5 < 300 := Decidable.not_not.mp q
      replace w := w.2 q
      show wpv K_X3_addKind d P 63 [some (4, (p0 : Int)), none, none, some (4, (p3 : Int)), some (0, x4), some (0, x5)] [] G R V
      refine wp_p (i := (.iconst 0)) rfl rfl (fun _ _ _ => rfl) (?_ : wpv K_X3_addKind d P 64 [some (4, (p0 : Int)), none, none, some (4, (p3 : Int)), some (0, x4), some (0, x5)] [(0, 0)] G R V)
      refine wp_sto (i := (.istore 6)) _ rfl rfl (fun _ => rfl) rfl rfl rfl ?_
      refine wp_wk (L' := [some (4, (p0 : Int)), none, none, some (4, (p3 : Int)), some (0, x4), some (0, x5), some (0, 0)]) (wk_s (wk_n (wk_n (wk_s (wk_s (wk_s (wk_s wk_0))))))) ?_
      show wpv K_X3_addKind d P 66 [some (4, (p0 : Int)), none, none, some (4, (p3 : Int)), some (0, x4), some (0, x5), some (0, 0)] [] G R V
      exact wp_wk (wk_s (wk_n (wk_n (wk_s (wk_s (wk_s (wk_s wk_0))))))) w

theorem t_X3_addKind_66 {d : Nat} {P : gP} {p0 : Nat} {p3 : Nat} {x4 : Int} {x5 : Int} {x6 : Int} {G : List gS} {R V : gV} (l0 : lay3 G R p0) (l3 : lay6 G R p3) (w : ((i32 (V p3 2)) → ((i32 x6) ∧ (((¬ x6 < (V p3 2)) → ((i32 (x5 + 1)) ∧ wpv K_X3_addKind d P 46 [some (4, (p0 : Int)), none, none, some (4, (p3 : Int)), some (0, x4), some (0, (x5 + 1))] [] G R V)) ∧ ((x6 < (V p3 2)) → cwv d (fun r V5 => r = none ∧ ((i64 (V5 p0 15)) → ((i64 (V5 p0 16)) → cwv d (fun r V9 => ∃ v10 : Int, r = some (0, v10) ∧ ((i32 v10) ∧ (((¬ v10 = (-1)) → ((i32 (x6 + 1)) ∧ wpv K_X3_addKind d P 66 [some (4, (p0 : Int)), none, none, some (4, (p3 : Int)), some (0, x4), some (0, x5), some (0, (x6 + 1))] [] G R V9)) ∧ ((v10 = (-1)) → cwv d (fun r V13 => ∃ v14 : Int, r = some (0, v14) ∧ ((i32 v14) ∧ (((¬ v14 = 0) → ((i32 (x6 + 1)) ∧ wpv K_X3_addKind d P 66 [some (4, (p0 : Int)), none, none, some (4, (p3 : Int)), some (0, x4), some (0, x5), some (0, (x6 + 1))] [] G R V13)) ∧ ((v14 = 0) → P (some (0, 0)) V13)))) 52 [(4, (p0 : Int))] G R V9)))) 50 [(4, (p0 : Int)), (0, x4), (2, (V5 p0 15)), (2, (V5 p0 16))] G R V5))) 54 [(4, (p0 : Int)), (0, x5), (0, x6), (4, (p3 : Int))] G R V))))) : wpv K_X3_addKind d P 66 [some (4, (p0 : Int)), none, none, some (4, (p3 : Int)), some (0, x4), some (0, x5), some (0, x6)] [] G R V := by
  refine wp_ld (i := (.iload 6)) (0, x6) rfl rfl (fun _ => rfl) rfl rfl (?_ : wpv K_X3_addKind d P 68 [some (4, (p0 : Int)), none, none, some (4, (p3 : Int)), some (0, x4), some (0, x5), some (0, x6)] [(0, x6)] G R V)
  refine wp_ld (i := (.aload_n 3)) (4, (p3 : Int)) rfl rfl (fun _ => rfl) rfl rfl (?_ : wpv K_X3_addKind d P 69 [some (4, (p0 : Int)), none, none, some (4, (p3 : Int)), some (0, x4), some (0, x5), some (0, x6)] [(4, (p3 : Int)), (0, x6)] G R V)
  refine wp_rng (fun vr1 => ?_)
  have f2 : i32 (V p3 2) := vr_f0 vr1 (ly6_o l3) rfl rfl
  replace w := w f2
  refine wp_getI (k := 2) rfl rfl rfl (ly6_o l3) rfl rfl (?_ : wpv K_X3_addKind d P 72 [some (4, (p0 : Int)), none, none, some (4, (p3 : Int)), some (0, x4), some (0, x5), some (0, x6)] [(0, (V p3 2)), (0, x6)] G R V)
  obtain ⟨s3, w⟩ := w
  refine wp_icmp (c := .ge) 117 rfl rfl rfl s3 f2 (fun q => ?_) (fun q => ?_)
  · have q : ¬ x6 < (V p3 2) := q
    replace w := w.1 q
    show wpv K_X3_addKind d P 117 [some (4, (p0 : Int)), none, none, some (4, (p3 : Int)), some (0, x4), some (0, x5), some (0, x6)] [] G R V
    obtain ⟨s4, w⟩ := w
    refine wp_inc (x := 5) (k := 1) (a := x5) (c := (x5 + 1)) _ rfl rfl rfl rfl s4 (by omega) rfl ?_
    show wpv K_X3_addKind d P 120 [some (4, (p0 : Int)), none, none, some (4, (p3 : Int)), some (0, x4), some (0, (x5 + 1)), some (0, x6)] [] G R V
    refine wp_go 46 rfl rfl rfl (?_ : wpv K_X3_addKind d P 46 [some (4, (p0 : Int)), none, none, some (4, (p3 : Int)), some (0, x4), some (0, (x5 + 1)), some (0, x6)] [] G R V)
    exact wp_wk (wk_s (wk_n (wk_n (wk_s (wk_s (wk_s wk_0)))))) w
  · have q : x6 < (V p3 2) := Decidable.not_not.mp q
    replace w := w.2 q
    show wpv K_X3_addKind d P 75 [some (4, (p0 : Int)), none, none, some (4, (p3 : Int)), some (0, x4), some (0, x5), some (0, x6)] [] G R V
    refine wp_ld (i := (.aload_n 0)) (4, (p0 : Int)) rfl rfl (fun _ => rfl) rfl rfl (?_ : wpv K_X3_addKind d P 76 [some (4, (p0 : Int)), none, none, some (4, (p3 : Int)), some (0, x4), some (0, x5), some (0, x6)] [(4, (p0 : Int))] G R V)
    refine wp_ld (i := (.iload 5)) (0, x5) rfl rfl (fun _ => rfl) rfl rfl (?_ : wpv K_X3_addKind d P 78 [some (4, (p0 : Int)), none, none, some (4, (p3 : Int)), some (0, x4), some (0, x5), some (0, x6)] [(0, x5), (4, (p0 : Int))] G R V)
    refine wp_ld (i := (.iload 6)) (0, x6) rfl rfl (fun _ => rfl) rfl rfl (?_ : wpv K_X3_addKind d P 80 [some (4, (p0 : Int)), none, none, some (4, (p3 : Int)), some (0, x4), some (0, x5), some (0, x6)] [(0, x6), (0, x5), (4, (p0 : Int))] G R V)
    refine wp_ld (i := (.aload_n 3)) (4, (p3 : Int)) rfl rfl (fun _ => rfl) rfl rfl (?_ : wpv K_X3_addKind d P 81 [some (4, (p0 : Int)), none, none, some (4, (p3 : Int)), some (0, x4), some (0, x5), some (0, x6)] [(4, (p3 : Int)), (0, x6), (0, x5), (4, (p0 : Int))] G R V)
    refine wp_virt (as := [(0, x5), (0, x6), (4, (p3 : Int))]) (a := p0) (st := []) _ rfl rfl rfl rfl rfl rfl (ly3_o l0) (Nat.le_of_ble_eq_true rfl) (cwv_k0 w (fun V5 w => ?_))
    show wpv K_X3_addKind d P 84 [some (4, (p0 : Int)), none, none, some (4, (p3 : Int)), some (0, x4), some (0, x5), some (0, x6)] [] G R V5
    refine wp_ld (i := (.aload_n 0)) (4, (p0 : Int)) rfl rfl (fun _ => rfl) rfl rfl (?_ : wpv K_X3_addKind d P 85 [some (4, (p0 : Int)), none, none, some (4, (p3 : Int)), some (0, x4), some (0, x5), some (0, x6)] [(4, (p0 : Int))] G R V5)
    refine wp_ld (i := (.iload 4)) (0, x4) rfl rfl (fun _ => rfl) rfl rfl (?_ : wpv K_X3_addKind d P 87 [some (4, (p0 : Int)), none, none, some (4, (p3 : Int)), some (0, x4), some (0, x5), some (0, x6)] [(0, x4), (4, (p0 : Int))] G R V5)
    refine wp_ld (i := (.aload_n 0)) (4, (p0 : Int)) rfl rfl (fun _ => rfl) rfl rfl (?_ : wpv K_X3_addKind d P 88 [some (4, (p0 : Int)), none, none, some (4, (p3 : Int)), some (0, x4), some (0, x5), some (0, x6)] [(4, (p0 : Int)), (0, x4), (4, (p0 : Int))] G R V5)
    refine wp_rng (fun vr6 => ?_)
    have f7 : i64 (V5 p0 15) := vr_f1 vr6 (ly3_o l0) rfl rfl
    replace w := w f7
    refine wp_getJ (k := 15) rfl rfl rfl (ly3_o l0) rfl rfl (?_ : wpv K_X3_addKind d P 91 [some (4, (p0 : Int)), none, none, some (4, (p3 : Int)), some (0, x4), some (0, x5), some (0, x6)] [(2, (V5 p0 15)), (0, x4), (4, (p0 : Int))] G R V5)
    refine wp_ld (i := (.aload_n 0)) (4, (p0 : Int)) rfl rfl (fun _ => rfl) rfl rfl (?_ : wpv K_X3_addKind d P 92 [some (4, (p0 : Int)), none, none, some (4, (p3 : Int)), some (0, x4), some (0, x5), some (0, x6)] [(4, (p0 : Int)), (2, (V5 p0 15)), (0, x4), (4, (p0 : Int))] G R V5)
    have f8 : i64 (V5 p0 16) := vr_f1 vr6 (ly3_o l0) rfl rfl
    replace w := w f8
    refine wp_getJ (k := 16) rfl rfl rfl (ly3_o l0) rfl rfl (?_ : wpv K_X3_addKind d P 95 [some (4, (p0 : Int)), none, none, some (4, (p3 : Int)), some (0, x4), some (0, x5), some (0, x6)] [(2, (V5 p0 16)), (2, (V5 p0 15)), (0, x4), (4, (p0 : Int))] G R V5)
    refine wp_virt (as := [(0, x4), (2, (V5 p0 15)), (2, (V5 p0 16))]) (a := p0) (st := []) _ rfl rfl rfl rfl rfl rfl (ly3_o l0) (Nat.le_of_ble_eq_true rfl) (cwv_kI w (fun v10 V9 w => ?_))
    show wpv K_X3_addKind d P 98 [some (4, (p0 : Int)), none, none, some (4, (p3 : Int)), some (0, x4), some (0, x5), some (0, x6)] [(0, v10)] G R V9
    refine wp_p (i := (.iconst (-1))) rfl rfl (fun _ _ _ => rfl) (?_ : wpv K_X3_addKind d P 99 [some (4, (p0 : Int)), none, none, some (4, (p3 : Int)), some (0, x4), some (0, x5), some (0, x6)] [(0, (-1)), (0, v10)] G R V9)
    obtain ⟨s11, w⟩ := w
    refine wp_icmp (c := .ne) 111 rfl rfl rfl s11 ⟨by omega, by omega⟩ (fun q => ?_) (fun q => ?_)
    · have q : ¬ v10 = (-1) := q
      replace w := w.1 q
      show wpv K_X3_addKind d P 111 [some (4, (p0 : Int)), none, none, some (4, (p3 : Int)), some (0, x4), some (0, x5), some (0, x6)] [] G R V9
      obtain ⟨s12, w⟩ := w
      refine wp_inc (x := 6) (k := 1) (a := x6) (c := (x6 + 1)) _ rfl rfl rfl rfl s12 (by omega) rfl ?_
      show wpv K_X3_addKind d P 114 [some (4, (p0 : Int)), none, none, some (4, (p3 : Int)), some (0, x4), some (0, x5), some (0, (x6 + 1))] [] G R V9
      refine wp_go 66 rfl rfl rfl (?_ : wpv K_X3_addKind d P 66 [some (4, (p0 : Int)), none, none, some (4, (p3 : Int)), some (0, x4), some (0, x5), some (0, (x6 + 1))] [] G R V9)
      exact wp_wk (wk_s (wk_n (wk_n (wk_s (wk_s (wk_s (wk_s wk_0))))))) w
    · have q : v10 = (-1) := Decidable.not_not.mp q
      replace w := w.2 q
      show wpv K_X3_addKind d P 102 [some (4, (p0 : Int)), none, none, some (4, (p3 : Int)), some (0, x4), some (0, x5), some (0, x6)] [] G R V9
      refine wp_ld (i := (.aload_n 0)) (4, (p0 : Int)) rfl rfl (fun _ => rfl) rfl rfl (?_ : wpv K_X3_addKind d P 103 [some (4, (p0 : Int)), none, none, some (4, (p3 : Int)), some (0, x4), some (0, x5), some (0, x6)] [(4, (p0 : Int))] G R V9)
      refine wp_virt (as := []) (a := p0) (st := []) _ rfl rfl rfl rfl rfl rfl (ly3_o l0) (Nat.le_of_ble_eq_true rfl) (cwv_kI w (fun v14 V13 w => ?_))
      show wpv K_X3_addKind d P 106 [some (4, (p0 : Int)), none, none, some (4, (p3 : Int)), some (0, x4), some (0, x5), some (0, x6)] [(0, v14)] G R V13
      obtain ⟨s15, w⟩ := w
      refine wp_if (c := .ne) 111 rfl rfl rfl s15 (fun q => ?_) (fun q => ?_)
      · have q : ¬ v14 = 0 := q
        replace w := w.1 q
        show wpv K_X3_addKind d P 111 [some (4, (p0 : Int)), none, none, some (4, (p3 : Int)), some (0, x4), some (0, x5), some (0, x6)] [] G R V13
        obtain ⟨s16, w⟩ := w
        refine wp_inc (x := 6) (k := 1) (a := x6) (c := (x6 + 1)) _ rfl rfl rfl rfl s16 (by omega) rfl ?_
        show wpv K_X3_addKind d P 114 [some (4, (p0 : Int)), none, none, some (4, (p3 : Int)), some (0, x4), some (0, x5), some (0, (x6 + 1))] [] G R V13
        refine wp_go 66 rfl rfl rfl (?_ : wpv K_X3_addKind d P 66 [some (4, (p0 : Int)), none, none, some (4, (p3 : Int)), some (0, x4), some (0, x5), some (0, (x6 + 1))] [] G R V13)
        exact wp_wk (wk_s (wk_n (wk_n (wk_s (wk_s (wk_s (wk_s wk_0))))))) w
      · have q : v14 = 0 := Decidable.not_not.mp q
        replace w := w.2 q
        show wpv K_X3_addKind d P 109 [some (4, (p0 : Int)), none, none, some (4, (p3 : Int)), some (0, x4), some (0, x5), some (0, x6)] [] G R V13
        refine wp_p (i := (.iconst 0)) rfl rfl (fun _ _ _ => rfl) (?_ : wpv K_X3_addKind d P 110 [some (4, (p0 : Int)), none, none, some (4, (p3 : Int)), some (0, x4), some (0, x5), some (0, x6)] [(0, 0)] G R V13)
        exact wp_rB rfl rfl rfl (by omega) w
theorem t_X3_addNew_0 {d : Nat} {P : gP} {p0 : Nat} {G : List gS} {R V : gV} (l0 : lay3 G R p0) (w : ((i32 (V p0 0)) → ((((V p0 0) < 300) → ((i64 (V p0 15)) → ((0 ≤ (V p0 0) ∧ (V p0 0) < 300) ∧ ((i64 (V p0 16)) → ((i32 (V p0 17)) → ((i32 (V p0 5)) → ((i32 ((V p0 0) + 1)) ∧ P (some (0, 1)) (wr (wr (wr (wr (wr V (p0 + 1) ((V p0 0)) ((V p0 15))) (p0 + 2) ((V p0 0)) ((V p0 16))) (p0 + 3) ((V p0 0)) ((V p0 17))) (p0 + 4) ((V p0 0)) ((V p0 5))) p0 0 (((V p0 0) + 1)))))))))) ∧ ((¬ (V p0 0) < 300) → P (some (0, 0)) V)))) : wpv K_X3_addNew d P 0 [some (4, (p0 : Int))] [] G R V := by
  refine wp_ld (i := (.aload_n 0)) (4, (p0 : Int)) rfl rfl (fun _ => rfl) rfl rfl (?_ : wpv K_X3_addNew d P 1 [some (4, (p0 : Int))] [(4, (p0 : Int))] G R V)
  refine wp_rng (fun vr1 => ?_)
  have f2 : i32 (V p0 0) := vr_f0 vr1 (ly3_o l0) rfl rfl
  replace w := w f2
  refine wp_getI (k := 0) rfl rfl rfl (ly3_o l0) rfl rfl (?_ : wpv K_X3_addNew d P 4 [some (4, (p0 : Int))] [(0, (V p0 0))] G R V)
  refine wp_p (i := (.sipush 300)) rfl rfl (fun _ _ _ => rfl) (?_ : wpv K_X3_addNew d P 7 [some (4, (p0 : Int))] [(0, 300), (0, (V p0 0))] G R V)
  refine wp_icmp (c := .lt) 12 rfl rfl rfl f2 ⟨by omega, by omega⟩ (fun q => ?_) (fun q => ?_)
  · have q : (V p0 0) < 300 := q
    replace w := w.1 q
    show wpv K_X3_addNew d P 12 [some (4, (p0 : Int))] [] G R V
    refine wp_ld (i := (.aload_n 0)) (4, (p0 : Int)) rfl rfl (fun _ => rfl) rfl rfl (?_ : wpv K_X3_addNew d P 13 [some (4, (p0 : Int))] [(4, (p0 : Int))] G R V)
    refine wp_getA (k := 1) rfl rfl rfl (ly3_o l0) rfl rfl (ly3_1 l0).1 (?_ : wpv K_X3_addNew d P 16 [some (4, (p0 : Int))] [(4, ((p0 + 1 : Nat) : Int))] G R V)
    refine wp_ld (i := (.aload_n 0)) (4, (p0 : Int)) rfl rfl (fun _ => rfl) rfl rfl (?_ : wpv K_X3_addNew d P 17 [some (4, (p0 : Int))] [(4, (p0 : Int)), (4, ((p0 + 1 : Nat) : Int))] G R V)
    refine wp_getI (k := 0) rfl rfl rfl (ly3_o l0) rfl rfl (?_ : wpv K_X3_addNew d P 20 [some (4, (p0 : Int))] [(0, (V p0 0)), (4, ((p0 + 1 : Nat) : Int))] G R V)
    refine wp_ld (i := (.aload_n 0)) (4, (p0 : Int)) rfl rfl (fun _ => rfl) rfl rfl (?_ : wpv K_X3_addNew d P 21 [some (4, (p0 : Int))] [(4, (p0 : Int)), (0, (V p0 0)), (4, ((p0 + 1 : Nat) : Int))] G R V)
    have f3 : i64 (V p0 15) := vr_f1 vr1 (ly3_o l0) rfl rfl
    replace w := w f3
    refine wp_getJ (k := 15) rfl rfl rfl (ly3_o l0) rfl rfl (?_ : wpv K_X3_addNew d P 24 [some (4, (p0 : Int))] [(2, (V p0 15)), (0, (V p0 0)), (4, ((p0 + 1 : Nat) : Int))] G R V)
    obtain ⟨s4, w⟩ := w
    refine wp_sJ rfl rfl (ly3_1 l0).2 s4 f3 (?_ : wpv K_X3_addNew d P 25 [some (4, (p0 : Int))] [] G R (wr V (p0 + 1) ((V p0 0)) ((V p0 15))))
    refine wp_ld (i := (.aload_n 0)) (4, (p0 : Int)) rfl rfl (fun _ => rfl) rfl rfl (?_ : wpv K_X3_addNew d P 26 [some (4, (p0 : Int))] [(4, (p0 : Int))] G R (wr V (p0 + 1) ((V p0 0)) ((V p0 15))))
    refine wp_getA (k := 2) rfl rfl rfl (ly3_o l0) rfl rfl (ly3_2 l0).1 (?_ : wpv K_X3_addNew d P 29 [some (4, (p0 : Int))] [(4, ((p0 + 2 : Nat) : Int))] G R (wr V (p0 + 1) ((V p0 0)) ((V p0 15))))
    refine wp_ld (i := (.aload_n 0)) (4, (p0 : Int)) rfl rfl (fun _ => rfl) rfl rfl (?_ : wpv K_X3_addNew d P 30 [some (4, (p0 : Int))] [(4, (p0 : Int)), (4, ((p0 + 2 : Nat) : Int))] G R (wr V (p0 + 1) ((V p0 0)) ((V p0 15))))
    refine wp_rng (fun vr5 => ?_)
    have r6 : ((wr V (p0 + 1) ((V p0 0)) ((V p0 15))) p0 0) = (V p0 0) := (wr_a (by omega))
    refine wp_getIe (k := 0) rfl rfl rfl (ly3_o l0) rfl rfl r6 (?_ : wpv K_X3_addNew d P 33 [some (4, (p0 : Int))] [(0, (V p0 0)), (4, ((p0 + 2 : Nat) : Int))] G R (wr V (p0 + 1) ((V p0 0)) ((V p0 15))))
    refine wp_ld (i := (.aload_n 0)) (4, (p0 : Int)) rfl rfl (fun _ => rfl) rfl rfl (?_ : wpv K_X3_addNew d P 34 [some (4, (p0 : Int))] [(4, (p0 : Int)), (0, (V p0 0)), (4, ((p0 + 2 : Nat) : Int))] G R (wr V (p0 + 1) ((V p0 0)) ((V p0 15))))
    have r7 : ((wr V (p0 + 1) ((V p0 0)) ((V p0 15))) p0 16) = (V p0 16) := (wr_a (by omega))
    have f8 : i64 (V p0 16) := (by have h := vr_f1 vr5 (ly3_o l0) rfl (k := 16) (k' := 16) rfl; rw [r7] at h; exact h)
    replace w := w f8
    refine wp_getJe (k := 16) rfl rfl rfl (ly3_o l0) rfl rfl r7 (?_ : wpv K_X3_addNew d P 37 [some (4, (p0 : Int))] [(2, (V p0 16)), (0, (V p0 0)), (4, ((p0 + 2 : Nat) : Int))] G R (wr V (p0 + 1) ((V p0 0)) ((V p0 15))))
    refine wp_sJ rfl rfl (ly3_2 l0).2 s4 f8 (?_ : wpv K_X3_addNew d P 38 [some (4, (p0 : Int))] [] G R (wr (wr V (p0 + 1) ((V p0 0)) ((V p0 15))) (p0 + 2) ((V p0 0)) ((V p0 16))))
    refine wp_ld (i := (.aload_n 0)) (4, (p0 : Int)) rfl rfl (fun _ => rfl) rfl rfl (?_ : wpv K_X3_addNew d P 39 [some (4, (p0 : Int))] [(4, (p0 : Int))] G R (wr (wr V (p0 + 1) ((V p0 0)) ((V p0 15))) (p0 + 2) ((V p0 0)) ((V p0 16))))
    refine wp_getA (k := 3) rfl rfl rfl (ly3_o l0) rfl rfl (ly3_3 l0).1 (?_ : wpv K_X3_addNew d P 42 [some (4, (p0 : Int))] [(4, ((p0 + 3 : Nat) : Int))] G R (wr (wr V (p0 + 1) ((V p0 0)) ((V p0 15))) (p0 + 2) ((V p0 0)) ((V p0 16))))
    refine wp_ld (i := (.aload_n 0)) (4, (p0 : Int)) rfl rfl (fun _ => rfl) rfl rfl (?_ : wpv K_X3_addNew d P 43 [some (4, (p0 : Int))] [(4, (p0 : Int)), (4, ((p0 + 3 : Nat) : Int))] G R (wr (wr V (p0 + 1) ((V p0 0)) ((V p0 15))) (p0 + 2) ((V p0 0)) ((V p0 16))))
    refine wp_rng (fun vr9 => ?_)
    have r10 : ((wr (wr V (p0 + 1) ((V p0 0)) ((V p0 15))) (p0 + 2) ((V p0 0)) ((V p0 16))) p0 0) = (V p0 0) := ((wr_a (by omega)).trans (wr_a (by omega)))
    refine wp_getIe (k := 0) rfl rfl rfl (ly3_o l0) rfl rfl r10 (?_ : wpv K_X3_addNew d P 46 [some (4, (p0 : Int))] [(0, (V p0 0)), (4, ((p0 + 3 : Nat) : Int))] G R (wr (wr V (p0 + 1) ((V p0 0)) ((V p0 15))) (p0 + 2) ((V p0 0)) ((V p0 16))))
    refine wp_ld (i := (.aload_n 0)) (4, (p0 : Int)) rfl rfl (fun _ => rfl) rfl rfl (?_ : wpv K_X3_addNew d P 47 [some (4, (p0 : Int))] [(4, (p0 : Int)), (0, (V p0 0)), (4, ((p0 + 3 : Nat) : Int))] G R (wr (wr V (p0 + 1) ((V p0 0)) ((V p0 15))) (p0 + 2) ((V p0 0)) ((V p0 16))))
    have r11 : ((wr (wr V (p0 + 1) ((V p0 0)) ((V p0 15))) (p0 + 2) ((V p0 0)) ((V p0 16))) p0 17) = (V p0 17) := ((wr_a (by omega)).trans (wr_a (by omega)))
    have f12 : i32 (V p0 17) := (by have h := vr_f0 vr9 (ly3_o l0) rfl (k := 17) (k' := 17) rfl; rw [r11] at h; exact h)
    replace w := w f12
    refine wp_getIe (k := 17) rfl rfl rfl (ly3_o l0) rfl rfl r11 (?_ : wpv K_X3_addNew d P 50 [some (4, (p0 : Int))] [(0, (V p0 17)), (0, (V p0 0)), (4, ((p0 + 3 : Nat) : Int))] G R (wr (wr V (p0 + 1) ((V p0 0)) ((V p0 15))) (p0 + 2) ((V p0 0)) ((V p0 16))))
    refine wp_sI rfl rfl (ly3_3 l0).2 s4 f12 (?_ : wpv K_X3_addNew d P 51 [some (4, (p0 : Int))] [] G R (wr (wr (wr V (p0 + 1) ((V p0 0)) ((V p0 15))) (p0 + 2) ((V p0 0)) ((V p0 16))) (p0 + 3) ((V p0 0)) ((V p0 17))))
    refine wp_ld (i := (.aload_n 0)) (4, (p0 : Int)) rfl rfl (fun _ => rfl) rfl rfl (?_ : wpv K_X3_addNew d P 52 [some (4, (p0 : Int))] [(4, (p0 : Int))] G R (wr (wr (wr V (p0 + 1) ((V p0 0)) ((V p0 15))) (p0 + 2) ((V p0 0)) ((V p0 16))) (p0 + 3) ((V p0 0)) ((V p0 17))))
    refine wp_getA (k := 4) rfl rfl rfl (ly3_o l0) rfl rfl (ly3_4 l0).1 (?_ : wpv K_X3_addNew d P 55 [some (4, (p0 : Int))] [(4, ((p0 + 4 : Nat) : Int))] G R (wr (wr (wr V (p0 + 1) ((V p0 0)) ((V p0 15))) (p0 + 2) ((V p0 0)) ((V p0 16))) (p0 + 3) ((V p0 0)) ((V p0 17))))
    refine wp_ld (i := (.aload_n 0)) (4, (p0 : Int)) rfl rfl (fun _ => rfl) rfl rfl (?_ : wpv K_X3_addNew d P 56 [some (4, (p0 : Int))] [(4, (p0 : Int)), (4, ((p0 + 4 : Nat) : Int))] G R (wr (wr (wr V (p0 + 1) ((V p0 0)) ((V p0 15))) (p0 + 2) ((V p0 0)) ((V p0 16))) (p0 + 3) ((V p0 0)) ((V p0 17))))
    refine wp_rng (fun vr13 => ?_)
    have r14 : ((wr (wr (wr V (p0 + 1) ((V p0 0)) ((V p0 15))) (p0 + 2) ((V p0 0)) ((V p0 16))) (p0 + 3) ((V p0 0)) ((V p0 17))) p0 0) = (V p0 0) := ((wr_a (by omega)).trans ((wr_a (by omega)).trans (wr_a (by omega))))
    refine wp_getIe (k := 0) rfl rfl rfl (ly3_o l0) rfl rfl r14 (?_ : wpv K_X3_addNew d P 59 [some (4, (p0 : Int))] [(0, (V p0 0)), (4, ((p0 + 4 : Nat) : Int))] G R (wr (wr (wr V (p0 + 1) ((V p0 0)) ((V p0 15))) (p0 + 2) ((V p0 0)) ((V p0 16))) (p0 + 3) ((V p0 0)) ((V p0 17))))
    refine wp_ld (i := (.aload_n 0)) (4, (p0 : Int)) rfl rfl (fun _ => rfl) rfl rfl (?_ : wpv K_X3_addNew d P 60 [some (4, (p0 : Int))] [(4, (p0 : Int)), (0, (V p0 0)), (4, ((p0 + 4 : Nat) : Int))] G R (wr (wr (wr V (p0 + 1) ((V p0 0)) ((V p0 15))) (p0 + 2) ((V p0 0)) ((V p0 16))) (p0 + 3) ((V p0 0)) ((V p0 17))))
    have r15 : ((wr (wr (wr V (p0 + 1) ((V p0 0)) ((V p0 15))) (p0 + 2) ((V p0 0)) ((V p0 16))) (p0 + 3) ((V p0 0)) ((V p0 17))) p0 5) = (V p0 5) := ((wr_a (by omega)).trans ((wr_a (by omega)).trans (wr_a (by omega))))
    have f16 : i32 (V p0 5) := (by have h := vr_f0 vr13 (ly3_o l0) rfl (k := 5) (k' := 5) rfl; rw [r15] at h; exact h)
    replace w := w f16
    refine wp_getIe (k := 5) rfl rfl rfl (ly3_o l0) rfl rfl r15 (?_ : wpv K_X3_addNew d P 63 [some (4, (p0 : Int))] [(0, (V p0 5)), (0, (V p0 0)), (4, ((p0 + 4 : Nat) : Int))] G R (wr (wr (wr V (p0 + 1) ((V p0 0)) ((V p0 15))) (p0 + 2) ((V p0 0)) ((V p0 16))) (p0 + 3) ((V p0 0)) ((V p0 17))))
    refine wp_sI rfl rfl (ly3_4 l0).2 s4 f16 (?_ : wpv K_X3_addNew d P 64 [some (4, (p0 : Int))] [] G R (wr (wr (wr (wr V (p0 + 1) ((V p0 0)) ((V p0 15))) (p0 + 2) ((V p0 0)) ((V p0 16))) (p0 + 3) ((V p0 0)) ((V p0 17))) (p0 + 4) ((V p0 0)) ((V p0 5))))
    refine wp_ld (i := (.aload_n 0)) (4, (p0 : Int)) rfl rfl (fun _ => rfl) rfl rfl (?_ : wpv K_X3_addNew d P 65 [some (4, (p0 : Int))] [(4, (p0 : Int))] G R (wr (wr (wr (wr V (p0 + 1) ((V p0 0)) ((V p0 15))) (p0 + 2) ((V p0 0)) ((V p0 16))) (p0 + 3) ((V p0 0)) ((V p0 17))) (p0 + 4) ((V p0 0)) ((V p0 5))))
    refine wp_p (i := .dup) rfl rfl (fun _ _ _ => rfl) (?_ : wpv K_X3_addNew d P 66 [some (4, (p0 : Int))] [(4, (p0 : Int)), (4, (p0 : Int))] G R (wr (wr (wr (wr V (p0 + 1) ((V p0 0)) ((V p0 15))) (p0 + 2) ((V p0 0)) ((V p0 16))) (p0 + 3) ((V p0 0)) ((V p0 17))) (p0 + 4) ((V p0 0)) ((V p0 5))))
    refine wp_rng (fun vr17 => ?_)
    have r18 : ((wr (wr (wr (wr V (p0 + 1) ((V p0 0)) ((V p0 15))) (p0 + 2) ((V p0 0)) ((V p0 16))) (p0 + 3) ((V p0 0)) ((V p0 17))) (p0 + 4) ((V p0 0)) ((V p0 5))) p0 0) = (V p0 0) := ((wr_a (by omega)).trans ((wr_a (by omega)).trans ((wr_a (by omega)).trans (wr_a (by omega)))))
    refine wp_getIe (k := 0) rfl rfl rfl (ly3_o l0) rfl rfl r18 (?_ : wpv K_X3_addNew d P 69 [some (4, (p0 : Int))] [(0, (V p0 0)), (4, (p0 : Int))] G R (wr (wr (wr (wr V (p0 + 1) ((V p0 0)) ((V p0 15))) (p0 + 2) ((V p0 0)) ((V p0 16))) (p0 + 3) ((V p0 0)) ((V p0 17))) (p0 + 4) ((V p0 0)) ((V p0 5))))
    refine wp_p (i := (.iconst 1)) rfl rfl (fun _ _ _ => rfl) (?_ : wpv K_X3_addNew d P 70 [some (4, (p0 : Int))] [(0, 1), (0, (V p0 0)), (4, (p0 : Int))] G R (wr (wr (wr (wr V (p0 + 1) ((V p0 0)) ((V p0 15))) (p0 + 2) ((V p0 0)) ((V p0 16))) (p0 + 3) ((V p0 0)) ((V p0 17))) (p0 + 4) ((V p0 0)) ((V p0 5))))
    obtain ⟨s19, w⟩ := w
    refine wp_xadd rfl rfl s19 (?_ : wpv K_X3_addNew d P 71 [some (4, (p0 : Int))] [(0, ((V p0 0) + 1)), (4, (p0 : Int))] G R (wr (wr (wr (wr V (p0 + 1) ((V p0 0)) ((V p0 15))) (p0 + 2) ((V p0 0)) ((V p0 16))) (p0 + 3) ((V p0 0)) ((V p0 17))) (p0 + 4) ((V p0 0)) ((V p0 5))))
    refine wp_putI (k := 0) rfl rfl rfl (ly3_o l0) rfl rfl rfl s19 (?_ : wpv K_X3_addNew d P 74 [some (4, (p0 : Int))] [] G R (wr (wr (wr (wr (wr V (p0 + 1) ((V p0 0)) ((V p0 15))) (p0 + 2) ((V p0 0)) ((V p0 16))) (p0 + 3) ((V p0 0)) ((V p0 17))) (p0 + 4) ((V p0 0)) ((V p0 5))) p0 0 (((V p0 0) + 1))))
    refine wp_p (i := (.iconst 1)) rfl rfl (fun _ _ _ => rfl) (?_ : wpv K_X3_addNew d P 75 [some (4, (p0 : Int))] [(0, 1)] G R (wr (wr (wr (wr (wr V (p0 + 1) ((V p0 0)) ((V p0 15))) (p0 + 2) ((V p0 0)) ((V p0 16))) (p0 + 3) ((V p0 0)) ((V p0 17))) (p0 + 4) ((V p0 0)) ((V p0 5))) p0 0 (((V p0 0) + 1))))
    exact wp_rB rfl rfl rfl (by omega) w
  · have q : ¬ (V p0 0) < 300 := q
    replace w := w.2 q
    show wpv K_X3_addNew d P 10 [some (4, (p0 : Int))] [] G R V
    refine wp_p (i := (.iconst 0)) rfl rfl (fun _ _ _ => rfl) (?_ : wpv K_X3_addNew d P 11 [some (4, (p0 : Int))] [(0, 0)] G R V)
    exact wp_rB rfl rfl rfl (by omega) w
theorem t_X3_keepMakers_0 {d : Nat} {P : gP} {p0 : Nat} {x1 : Int} {x2 : Int} {G : List gS} {R V : gV} (l0 : lay3 G R p0) (w : wpv K_X3_keepMakers d P 2 [some (4, (p0 : Int)), some (0, x1), some (0, x2), some (0, 0)] [] G R V) : wpv K_X3_keepMakers d P 0 [some (4, (p0 : Int)), some (0, x1), some (0, x2)] [] G R V := by
  refine wp_p (i := (.iconst 0)) rfl rfl (fun _ _ _ => rfl) (?_ : wpv K_X3_keepMakers d P 1 [some (4, (p0 : Int)), some (0, x1), some (0, x2)] [(0, 0)] G R V)
  refine wp_sto (i := (.istore_n 3)) _ rfl rfl (fun _ => rfl) rfl rfl rfl ?_
  refine wp_wk (L' := [some (4, (p0 : Int)), some (0, x1), some (0, x2), some (0, 0)]) (wk_s (wk_s (wk_s (wk_s wk_0)))) ?_
  show wpv K_X3_keepMakers d P 2 [some (4, (p0 : Int)), some (0, x1), some (0, x2), some (0, 0)] [] G R V
  exact wp_wk (wk_s (wk_s (wk_s (wk_s wk_0)))) w

theorem t_X3_keepMakers_2 {d : Nat} {P : gP} {p0 : Nat} {x1 : Int} {x2 : Int} {x3 : Int} {G : List gS} {R V : gV} (l0 : lay3 G R p0) (w : ((0 ≤ x1 ∧ x1 < 300) ∧ ((i32 (V (p0 + 6) x1)) → ((i32 x3) ∧ (((¬ x3 < (V (p0 + 6) x1)) → ((i32 (V p0 5)) → ((i32 ((V p0 5) * 8)) ∧ ((i32 (((V p0 5) * 8) + x3)) ∧ ((0 ≤ (((V p0 5) * 8) + x3) ∧ (((V p0 5) * 8) + x3) < 2400) ∧ ((i32 x2) ∧ ((i32 (x3 + 1)) ∧ ((0 ≤ (V p0 5) ∧ (V p0 5) < 300) ∧ P none (wr (wr V (p0 + 7) ((((V p0 5) * 8) + x3)) x2) (p0 + 6) ((V p0 5)) ((x3 + 1))))))))))) ∧ ((x3 < (V (p0 + 6) x1)) → (((¬ x3 < 7) → ((i32 (V p0 5)) → ((i32 ((V p0 5) * 8)) ∧ ((i32 (((V p0 5) * 8) + x3)) ∧ ((0 ≤ (((V p0 5) * 8) + x3) ∧ (((V p0 5) * 8) + x3) < 2400) ∧ ((i32 x2) ∧ ((i32 (x3 + 1)) ∧ ((0 ≤ (V p0 5) ∧ (V p0 5) < 300) ∧ P none (wr (wr V (p0 + 7) ((((V p0 5) * 8) + x3)) x2) (p0 + 6) ((V p0 5)) ((x3 + 1))))))))))) ∧ ((x3 < 7) → ((i32 (V p0 5)) → ((i32 ((V p0 5) * 8)) ∧ ((i32 (((V p0 5) * 8) + x3)) ∧ ((i32 (x1 * 8)) ∧ ((i32 ((x1 * 8) + x3)) ∧ ((0 ≤ ((x1 * 8) + x3) ∧ ((x1 * 8) + x3) < 2400) ∧ ((i32 (V (p0 + 7) (((x1 * 8) + x3)))) → ((0 ≤ (((V p0 5) * 8) + x3) ∧ (((V p0 5) * 8) + x3) < 2400) ∧ ((i32 (x3 + 1)) ∧ wpv K_X3_keepMakers d P 2 [some (4, (p0 : Int)), some (0, x1), some (0, x2), some (0, (x3 + 1))] [] G R (wr V (p0 + 7) ((((V p0 5) * 8) + x3)) ((V (p0 + 7) (((x1 * 8) + x3)))))))))))))))))))))) : wpv K_X3_keepMakers d P 2 [some (4, (p0 : Int)), some (0, x1), some (0, x2), some (0, x3)] [] G R V := by
  refine wp_ld (i := (.iload_n 3)) (0, x3) rfl rfl (fun _ => rfl) rfl rfl (?_ : wpv K_X3_keepMakers d P 3 [some (4, (p0 : Int)), some (0, x1), some (0, x2), some (0, x3)] [(0, x3)] G R V)
  refine wp_ld (i := (.aload_n 0)) (4, (p0 : Int)) rfl rfl (fun _ => rfl) rfl rfl (?_ : wpv K_X3_keepMakers d P 4 [some (4, (p0 : Int)), some (0, x1), some (0, x2), some (0, x3)] [(4, (p0 : Int)), (0, x3)] G R V)
  refine wp_getA (k := 7) rfl rfl rfl (ly3_o l0) rfl rfl (ly3_7 l0).1 (?_ : wpv K_X3_keepMakers d P 7 [some (4, (p0 : Int)), some (0, x1), some (0, x2), some (0, x3)] [(4, ((p0 + 6 : Nat) : Int)), (0, x3)] G R V)
  refine wp_ld (i := (.iload_n 1)) (0, x1) rfl rfl (fun _ => rfl) rfl rfl (?_ : wpv K_X3_keepMakers d P 8 [some (4, (p0 : Int)), some (0, x1), some (0, x2), some (0, x3)] [(0, x1), (4, ((p0 + 6 : Nat) : Int)), (0, x3)] G R V)
  obtain ⟨s1, w⟩ := w
  refine wp_rng (fun vr2 => ?_)
  have f3 : i32 (V (p0 + 6) x1) := vr_a0 vr2 (ly3_7 l0).2 s1
  replace w := w f3
  refine wp_aI rfl rfl (ly3_7 l0).2 s1 (?_ : wpv K_X3_keepMakers d P 9 [some (4, (p0 : Int)), some (0, x1), some (0, x2), some (0, x3)] [(0, (V (p0 + 6) x1)), (0, x3)] G R V)
  obtain ⟨s4, w⟩ := w
  refine wp_icmp (c := .ge) 49 rfl rfl rfl s4 f3 (fun q => ?_) (fun q => ?_)
  · have q : ¬ x3 < (V (p0 + 6) x1) := q
    replace w := w.1 q
    show wpv K_X3_keepMakers d P 49 [some (4, (p0 : Int)), some (0, x1), some (0, x2), some (0, x3)] [] G R V
    refine wp_ld (i := (.aload_n 0)) (4, (p0 : Int)) rfl rfl (fun _ => rfl) rfl rfl (?_ : wpv K_X3_keepMakers d P 50 [some (4, (p0 : Int)), some (0, x1), some (0, x2), some (0, x3)] [(4, (p0 : Int))] G R V)
    refine wp_getA (k := 8) rfl rfl rfl (ly3_o l0) rfl rfl (ly3_8 l0).1 (?_ : wpv K_X3_keepMakers d P 53 [some (4, (p0 : Int)), some (0, x1), some (0, x2), some (0, x3)] [(4, ((p0 + 7 : Nat) : Int))] G R V)
    refine wp_ld (i := (.aload_n 0)) (4, (p0 : Int)) rfl rfl (fun _ => rfl) rfl rfl (?_ : wpv K_X3_keepMakers d P 54 [some (4, (p0 : Int)), some (0, x1), some (0, x2), some (0, x3)] [(4, (p0 : Int)), (4, ((p0 + 7 : Nat) : Int))] G R V)
    have f5 : i32 (V p0 5) := vr_f0 vr2 (ly3_o l0) rfl rfl
    replace w := w f5
    refine wp_getI (k := 5) rfl rfl rfl (ly3_o l0) rfl rfl (?_ : wpv K_X3_keepMakers d P 57 [some (4, (p0 : Int)), some (0, x1), some (0, x2), some (0, x3)] [(0, (V p0 5)), (4, ((p0 + 7 : Nat) : Int))] G R V)
    refine wp_p (i := (.bipush 8)) rfl rfl (fun _ _ _ => rfl) (?_ : wpv K_X3_keepMakers d P 59 [some (4, (p0 : Int)), some (0, x1), some (0, x2), some (0, x3)] [(0, 8), (0, (V p0 5)), (4, ((p0 + 7 : Nat) : Int))] G R V)
    obtain ⟨s6, w⟩ := w
    refine wp_xmul rfl rfl s6 (?_ : wpv K_X3_keepMakers d P 60 [some (4, (p0 : Int)), some (0, x1), some (0, x2), some (0, x3)] [(0, ((V p0 5) * 8)), (4, ((p0 + 7 : Nat) : Int))] G R V)
    refine wp_ld (i := (.iload_n 3)) (0, x3) rfl rfl (fun _ => rfl) rfl rfl (?_ : wpv K_X3_keepMakers d P 61 [some (4, (p0 : Int)), some (0, x1), some (0, x2), some (0, x3)] [(0, x3), (0, ((V p0 5) * 8)), (4, ((p0 + 7 : Nat) : Int))] G R V)
    obtain ⟨s7, w⟩ := w
    refine wp_xadd rfl rfl s7 (?_ : wpv K_X3_keepMakers d P 62 [some (4, (p0 : Int)), some (0, x1), some (0, x2), some (0, x3)] [(0, (((V p0 5) * 8) + x3)), (4, ((p0 + 7 : Nat) : Int))] G R V)
    refine wp_ld (i := (.iload_n 2)) (0, x2) rfl rfl (fun _ => rfl) rfl rfl (?_ : wpv K_X3_keepMakers d P 63 [some (4, (p0 : Int)), some (0, x1), some (0, x2), some (0, x3)] [(0, x2), (0, (((V p0 5) * 8) + x3)), (4, ((p0 + 7 : Nat) : Int))] G R V)
    obtain ⟨s8, w⟩ := w
    obtain ⟨s9, w⟩ := w
    refine wp_sI rfl rfl (ly3_8 l0).2 s8 s9 (?_ : wpv K_X3_keepMakers d P 64 [some (4, (p0 : Int)), some (0, x1), some (0, x2), some (0, x3)] [] G R (wr V (p0 + 7) ((((V p0 5) * 8) + x3)) x2))
    refine wp_ld (i := (.aload_n 0)) (4, (p0 : Int)) rfl rfl (fun _ => rfl) rfl rfl (?_ : wpv K_X3_keepMakers d P 65 [some (4, (p0 : Int)), some (0, x1), some (0, x2), some (0, x3)] [(4, (p0 : Int))] G R (wr V (p0 + 7) ((((V p0 5) * 8) + x3)) x2))
    refine wp_getA (k := 7) rfl rfl rfl (ly3_o l0) rfl rfl (ly3_7 l0).1 (?_ : wpv K_X3_keepMakers d P 68 [some (4, (p0 : Int)), some (0, x1), some (0, x2), some (0, x3)] [(4, ((p0 + 6 : Nat) : Int))] G R (wr V (p0 + 7) ((((V p0 5) * 8) + x3)) x2))
    refine wp_ld (i := (.aload_n 0)) (4, (p0 : Int)) rfl rfl (fun _ => rfl) rfl rfl (?_ : wpv K_X3_keepMakers d P 69 [some (4, (p0 : Int)), some (0, x1), some (0, x2), some (0, x3)] [(4, (p0 : Int)), (4, ((p0 + 6 : Nat) : Int))] G R (wr V (p0 + 7) ((((V p0 5) * 8) + x3)) x2))
    refine wp_rng (fun vr10 => ?_)
    have r11 : ((wr V (p0 + 7) ((((V p0 5) * 8) + x3)) x2) p0 5) = (V p0 5) := (wr_a (by omega))
    refine wp_getIe (k := 5) rfl rfl rfl (ly3_o l0) rfl rfl r11 (?_ : wpv K_X3_keepMakers d P 72 [some (4, (p0 : Int)), some (0, x1), some (0, x2), some (0, x3)] [(0, (V p0 5)), (4, ((p0 + 6 : Nat) : Int))] G R (wr V (p0 + 7) ((((V p0 5) * 8) + x3)) x2))
    refine wp_ld (i := (.iload_n 3)) (0, x3) rfl rfl (fun _ => rfl) rfl rfl (?_ : wpv K_X3_keepMakers d P 73 [some (4, (p0 : Int)), some (0, x1), some (0, x2), some (0, x3)] [(0, x3), (0, (V p0 5)), (4, ((p0 + 6 : Nat) : Int))] G R (wr V (p0 + 7) ((((V p0 5) * 8) + x3)) x2))
    refine wp_p (i := (.iconst 1)) rfl rfl (fun _ _ _ => rfl) (?_ : wpv K_X3_keepMakers d P 74 [some (4, (p0 : Int)), some (0, x1), some (0, x2), some (0, x3)] [(0, 1), (0, x3), (0, (V p0 5)), (4, ((p0 + 6 : Nat) : Int))] G R (wr V (p0 + 7) ((((V p0 5) * 8) + x3)) x2))
    obtain ⟨s12, w⟩ := w
    refine wp_xadd rfl rfl s12 (?_ : wpv K_X3_keepMakers d P 75 [some (4, (p0 : Int)), some (0, x1), some (0, x2), some (0, x3)] [(0, (x3 + 1)), (0, (V p0 5)), (4, ((p0 + 6 : Nat) : Int))] G R (wr V (p0 + 7) ((((V p0 5) * 8) + x3)) x2))
    obtain ⟨s13, w⟩ := w
    refine wp_sI rfl rfl (ly3_7 l0).2 s13 s12 (?_ : wpv K_X3_keepMakers d P 76 [some (4, (p0 : Int)), some (0, x1), some (0, x2), some (0, x3)] [] G R (wr (wr V (p0 + 7) ((((V p0 5) * 8) + x3)) x2) (p0 + 6) ((V p0 5)) ((x3 + 1))))
    exact wp_r0 rfl rfl rfl w
  · have q : x3 < (V (p0 + 6) x1) := Decidable.not_not.mp q
    replace w := w.2 q
    show wpv K_X3_keepMakers d P 12 [some (4, (p0 : Int)), some (0, x1), some (0, x2), some (0, x3)] [] G R V
    refine wp_ld (i := (.iload_n 3)) (0, x3) rfl rfl (fun _ => rfl) rfl rfl (?_ : wpv K_X3_keepMakers d P 13 [some (4, (p0 : Int)), some (0, x1), some (0, x2), some (0, x3)] [(0, x3)] G R V)
    refine wp_p (i := (.bipush 7)) rfl rfl (fun _ _ _ => rfl) (?_ : wpv K_X3_keepMakers d P 15 [some (4, (p0 : Int)), some (0, x1), some (0, x2), some (0, x3)] [(0, 7), (0, x3)] G R V)
    refine wp_icmp (c := .ge) 49 rfl rfl rfl s4 ⟨by omega, by omega⟩ (fun q => ?_) (fun q => ?_)
    · have q : ¬ x3 < 7 := q
      replace w := w.1 q
      show wpv K_X3_keepMakers d P 49 [some (4, (p0 : Int)), some (0, x1), some (0, x2), some (0, x3)] [] G R V
      refine wp_ld (i := (.aload_n 0)) (4, (p0 : Int)) rfl rfl (fun _ => rfl) rfl rfl (?_ : wpv K_X3_keepMakers d P 50 [some (4, (p0 : Int)), some (0, x1), some (0, x2), some (0, x3)] [(4, (p0 : Int))] G R V)
      refine wp_getA (k := 8) rfl rfl rfl (ly3_o l0) rfl rfl (ly3_8 l0).1 (?_ : wpv K_X3_keepMakers d P 53 [some (4, (p0 : Int)), some (0, x1), some (0, x2), some (0, x3)] [(4, ((p0 + 7 : Nat) : Int))] G R V)
      refine wp_ld (i := (.aload_n 0)) (4, (p0 : Int)) rfl rfl (fun _ => rfl) rfl rfl (?_ : wpv K_X3_keepMakers d P 54 [some (4, (p0 : Int)), some (0, x1), some (0, x2), some (0, x3)] [(4, (p0 : Int)), (4, ((p0 + 7 : Nat) : Int))] G R V)
      have f14 : i32 (V p0 5) := vr_f0 vr2 (ly3_o l0) rfl rfl
      replace w := w f14
      refine wp_getI (k := 5) rfl rfl rfl (ly3_o l0) rfl rfl (?_ : wpv K_X3_keepMakers d P 57 [some (4, (p0 : Int)), some (0, x1), some (0, x2), some (0, x3)] [(0, (V p0 5)), (4, ((p0 + 7 : Nat) : Int))] G R V)
      refine wp_p (i := (.bipush 8)) rfl rfl (fun _ _ _ => rfl) (?_ : wpv K_X3_keepMakers d P 59 [some (4, (p0 : Int)), some (0, x1), some (0, x2), some (0, x3)] [(0, 8), (0, (V p0 5)), (4, ((p0 + 7 : Nat) : Int))] G R V)
      obtain ⟨s15, w⟩ := w
      refine wp_xmul rfl rfl s15 (?_ : wpv K_X3_keepMakers d P 60 [some (4, (p0 : Int)), some (0, x1), some (0, x2), some (0, x3)] [(0, ((V p0 5) * 8)), (4, ((p0 + 7 : Nat) : Int))] G R V)
      refine wp_ld (i := (.iload_n 3)) (0, x3) rfl rfl (fun _ => rfl) rfl rfl (?_ : wpv K_X3_keepMakers d P 61 [some (4, (p0 : Int)), some (0, x1), some (0, x2), some (0, x3)] [(0, x3), (0, ((V p0 5) * 8)), (4, ((p0 + 7 : Nat) : Int))] G R V)
      obtain ⟨s16, w⟩ := w
      refine wp_xadd rfl rfl s16 (?_ : wpv K_X3_keepMakers d P 62 [some (4, (p0 : Int)), some (0, x1), some (0, x2), some (0, x3)] [(0, (((V p0 5) * 8) + x3)), (4, ((p0 + 7 : Nat) : Int))] G R V)
      refine wp_ld (i := (.iload_n 2)) (0, x2) rfl rfl (fun _ => rfl) rfl rfl (?_ : wpv K_X3_keepMakers d P 63 [some (4, (p0 : Int)), some (0, x1), some (0, x2), some (0, x3)] [(0, x2), (0, (((V p0 5) * 8) + x3)), (4, ((p0 + 7 : Nat) : Int))] G R V)
      obtain ⟨s17, w⟩ := w
      obtain ⟨s18, w⟩ := w
      refine wp_sI rfl rfl (ly3_8 l0).2 s17 s18 (?_ : wpv K_X3_keepMakers d P 64 [some (4, (p0 : Int)), some (0, x1), some (0, x2), some (0, x3)] [] G R (wr V (p0 + 7) ((((V p0 5) * 8) + x3)) x2))
      refine wp_ld (i := (.aload_n 0)) (4, (p0 : Int)) rfl rfl (fun _ => rfl) rfl rfl (?_ : wpv K_X3_keepMakers d P 65 [some (4, (p0 : Int)), some (0, x1), some (0, x2), some (0, x3)] [(4, (p0 : Int))] G R (wr V (p0 + 7) ((((V p0 5) * 8) + x3)) x2))
      refine wp_getA (k := 7) rfl rfl rfl (ly3_o l0) rfl rfl (ly3_7 l0).1 (?_ : wpv K_X3_keepMakers d P 68 [some (4, (p0 : Int)), some (0, x1), some (0, x2), some (0, x3)] [(4, ((p0 + 6 : Nat) : Int))] G R (wr V (p0 + 7) ((((V p0 5) * 8) + x3)) x2))
      refine wp_ld (i := (.aload_n 0)) (4, (p0 : Int)) rfl rfl (fun _ => rfl) rfl rfl (?_ : wpv K_X3_keepMakers d P 69 [some (4, (p0 : Int)), some (0, x1), some (0, x2), some (0, x3)] [(4, (p0 : Int)), (4, ((p0 + 6 : Nat) : Int))] G R (wr V (p0 + 7) ((((V p0 5) * 8) + x3)) x2))
      refine wp_rng (fun vr19 => ?_)
      have r20 : ((wr V (p0 + 7) ((((V p0 5) * 8) + x3)) x2) p0 5) = (V p0 5) := (wr_a (by omega))
      refine wp_getIe (k := 5) rfl rfl rfl (ly3_o l0) rfl rfl r20 (?_ : wpv K_X3_keepMakers d P 72 [some (4, (p0 : Int)), some (0, x1), some (0, x2), some (0, x3)] [(0, (V p0 5)), (4, ((p0 + 6 : Nat) : Int))] G R (wr V (p0 + 7) ((((V p0 5) * 8) + x3)) x2))
      refine wp_ld (i := (.iload_n 3)) (0, x3) rfl rfl (fun _ => rfl) rfl rfl (?_ : wpv K_X3_keepMakers d P 73 [some (4, (p0 : Int)), some (0, x1), some (0, x2), some (0, x3)] [(0, x3), (0, (V p0 5)), (4, ((p0 + 6 : Nat) : Int))] G R (wr V (p0 + 7) ((((V p0 5) * 8) + x3)) x2))
      refine wp_p (i := (.iconst 1)) rfl rfl (fun _ _ _ => rfl) (?_ : wpv K_X3_keepMakers d P 74 [some (4, (p0 : Int)), some (0, x1), some (0, x2), some (0, x3)] [(0, 1), (0, x3), (0, (V p0 5)), (4, ((p0 + 6 : Nat) : Int))] G R (wr V (p0 + 7) ((((V p0 5) * 8) + x3)) x2))
      obtain ⟨s21, w⟩ := w
      refine wp_xadd rfl rfl s21 (?_ : wpv K_X3_keepMakers d P 75 [some (4, (p0 : Int)), some (0, x1), some (0, x2), some (0, x3)] [(0, (x3 + 1)), (0, (V p0 5)), (4, ((p0 + 6 : Nat) : Int))] G R (wr V (p0 + 7) ((((V p0 5) * 8) + x3)) x2))
      obtain ⟨s22, w⟩ := w
      refine wp_sI rfl rfl (ly3_7 l0).2 s22 s21 (?_ : wpv K_X3_keepMakers d P 76 [some (4, (p0 : Int)), some (0, x1), some (0, x2), some (0, x3)] [] G R (wr (wr V (p0 + 7) ((((V p0 5) * 8) + x3)) x2) (p0 + 6) ((V p0 5)) ((x3 + 1))))
      exact wp_r0 rfl rfl rfl w
    · have q : x3 < 7 := Decidable.not_not.mp q
      replace w := w.2 q
      show wpv K_X3_keepMakers d P 18 [some (4, (p0 : Int)), some (0, x1), some (0, x2), some (0, x3)] [] G R V
      refine wp_ld (i := (.aload_n 0)) (4, (p0 : Int)) rfl rfl (fun _ => rfl) rfl rfl (?_ : wpv K_X3_keepMakers d P 19 [some (4, (p0 : Int)), some (0, x1), some (0, x2), some (0, x3)] [(4, (p0 : Int))] G R V)
      refine wp_getA (k := 8) rfl rfl rfl (ly3_o l0) rfl rfl (ly3_8 l0).1 (?_ : wpv K_X3_keepMakers d P 22 [some (4, (p0 : Int)), some (0, x1), some (0, x2), some (0, x3)] [(4, ((p0 + 7 : Nat) : Int))] G R V)
      refine wp_ld (i := (.aload_n 0)) (4, (p0 : Int)) rfl rfl (fun _ => rfl) rfl rfl (?_ : wpv K_X3_keepMakers d P 23 [some (4, (p0 : Int)), some (0, x1), some (0, x2), some (0, x3)] [(4, (p0 : Int)), (4, ((p0 + 7 : Nat) : Int))] G R V)
      have f23 : i32 (V p0 5) := vr_f0 vr2 (ly3_o l0) rfl rfl
      replace w := w f23
      refine wp_getI (k := 5) rfl rfl rfl (ly3_o l0) rfl rfl (?_ : wpv K_X3_keepMakers d P 26 [some (4, (p0 : Int)), some (0, x1), some (0, x2), some (0, x3)] [(0, (V p0 5)), (4, ((p0 + 7 : Nat) : Int))] G R V)
      refine wp_p (i := (.bipush 8)) rfl rfl (fun _ _ _ => rfl) (?_ : wpv K_X3_keepMakers d P 28 [some (4, (p0 : Int)), some (0, x1), some (0, x2), some (0, x3)] [(0, 8), (0, (V p0 5)), (4, ((p0 + 7 : Nat) : Int))] G R V)
      obtain ⟨s24, w⟩ := w
      refine wp_xmul rfl rfl s24 (?_ : wpv K_X3_keepMakers d P 29 [some (4, (p0 : Int)), some (0, x1), some (0, x2), some (0, x3)] [(0, ((V p0 5) * 8)), (4, ((p0 + 7 : Nat) : Int))] G R V)
      refine wp_ld (i := (.iload_n 3)) (0, x3) rfl rfl (fun _ => rfl) rfl rfl (?_ : wpv K_X3_keepMakers d P 30 [some (4, (p0 : Int)), some (0, x1), some (0, x2), some (0, x3)] [(0, x3), (0, ((V p0 5) * 8)), (4, ((p0 + 7 : Nat) : Int))] G R V)
      obtain ⟨s25, w⟩ := w
      refine wp_xadd rfl rfl s25 (?_ : wpv K_X3_keepMakers d P 31 [some (4, (p0 : Int)), some (0, x1), some (0, x2), some (0, x3)] [(0, (((V p0 5) * 8) + x3)), (4, ((p0 + 7 : Nat) : Int))] G R V)
      refine wp_ld (i := (.aload_n 0)) (4, (p0 : Int)) rfl rfl (fun _ => rfl) rfl rfl (?_ : wpv K_X3_keepMakers d P 32 [some (4, (p0 : Int)), some (0, x1), some (0, x2), some (0, x3)] [(4, (p0 : Int)), (0, (((V p0 5) * 8) + x3)), (4, ((p0 + 7 : Nat) : Int))] G R V)
      refine wp_getA (k := 8) rfl rfl rfl (ly3_o l0) rfl rfl (ly3_8 l0).1 (?_ : wpv K_X3_keepMakers d P 35 [some (4, (p0 : Int)), some (0, x1), some (0, x2), some (0, x3)] [(4, ((p0 + 7 : Nat) : Int)), (0, (((V p0 5) * 8) + x3)), (4, ((p0 + 7 : Nat) : Int))] G R V)
      refine wp_ld (i := (.iload_n 1)) (0, x1) rfl rfl (fun _ => rfl) rfl rfl (?_ : wpv K_X3_keepMakers d P 36 [some (4, (p0 : Int)), some (0, x1), some (0, x2), some (0, x3)] [(0, x1), (4, ((p0 + 7 : Nat) : Int)), (0, (((V p0 5) * 8) + x3)), (4, ((p0 + 7 : Nat) : Int))] G R V)
      refine wp_p (i := (.bipush 8)) rfl rfl (fun _ _ _ => rfl) (?_ : wpv K_X3_keepMakers d P 38 [some (4, (p0 : Int)), some (0, x1), some (0, x2), some (0, x3)] [(0, 8), (0, x1), (4, ((p0 + 7 : Nat) : Int)), (0, (((V p0 5) * 8) + x3)), (4, ((p0 + 7 : Nat) : Int))] G R V)
      obtain ⟨s26, w⟩ := w
      refine wp_xmul rfl rfl s26 (?_ : wpv K_X3_keepMakers d P 39 [some (4, (p0 : Int)), some (0, x1), some (0, x2), some (0, x3)] [(0, (x1 * 8)), (4, ((p0 + 7 : Nat) : Int)), (0, (((V p0 5) * 8) + x3)), (4, ((p0 + 7 : Nat) : Int))] G R V)
      refine wp_ld (i := (.iload_n 3)) (0, x3) rfl rfl (fun _ => rfl) rfl rfl (?_ : wpv K_X3_keepMakers d P 40 [some (4, (p0 : Int)), some (0, x1), some (0, x2), some (0, x3)] [(0, x3), (0, (x1 * 8)), (4, ((p0 + 7 : Nat) : Int)), (0, (((V p0 5) * 8) + x3)), (4, ((p0 + 7 : Nat) : Int))] G R V)
      obtain ⟨s27, w⟩ := w
      refine wp_xadd rfl rfl s27 (?_ : wpv K_X3_keepMakers d P 41 [some (4, (p0 : Int)), some (0, x1), some (0, x2), some (0, x3)] [(0, ((x1 * 8) + x3)), (4, ((p0 + 7 : Nat) : Int)), (0, (((V p0 5) * 8) + x3)), (4, ((p0 + 7 : Nat) : Int))] G R V)
      obtain ⟨s28, w⟩ := w
      have f29 : i32 (V (p0 + 7) (((x1 * 8) + x3))) := vr_a0 vr2 (ly3_8 l0).2 s28
      replace w := w f29
      refine wp_aI rfl rfl (ly3_8 l0).2 s28 (?_ : wpv K_X3_keepMakers d P 42 [some (4, (p0 : Int)), some (0, x1), some (0, x2), some (0, x3)] [(0, (V (p0 + 7) (((x1 * 8) + x3)))), (0, (((V p0 5) * 8) + x3)), (4, ((p0 + 7 : Nat) : Int))] G R V)
      obtain ⟨s30, w⟩ := w
      refine wp_sI rfl rfl (ly3_8 l0).2 s30 f29 (?_ : wpv K_X3_keepMakers d P 43 [some (4, (p0 : Int)), some (0, x1), some (0, x2), some (0, x3)] [] G R (wr V (p0 + 7) ((((V p0 5) * 8) + x3)) ((V (p0 + 7) (((x1 * 8) + x3))))))
      obtain ⟨s31, w⟩ := w
      refine wp_inc (x := 3) (k := 1) (a := x3) (c := (x3 + 1)) _ rfl rfl rfl rfl s31 (by omega) rfl ?_
      show wpv K_X3_keepMakers d P 46 [some (4, (p0 : Int)), some (0, x1), some (0, x2), some (0, (x3 + 1))] [] G R (wr V (p0 + 7) ((((V p0 5) * 8) + x3)) ((V (p0 + 7) (((x1 * 8) + x3)))))
      refine wp_go 2 rfl rfl rfl (?_ : wpv K_X3_keepMakers d P 2 [some (4, (p0 : Int)), some (0, x1), some (0, x2), some (0, (x3 + 1))] [] G R (wr V (p0 + 7) ((((V p0 5) * 8) + x3)) ((V (p0 + 7) (((x1 * 8) + x3))))))
      exact wp_wk (wk_s (wk_s (wk_s (wk_s wk_0)))) w
theorem t_X3_leadToNew_0 {d : Nat} {P : gP} {p0 : Nat} {x1 : Int} {x2 : Int} {p3 : Nat} {G : List gS} {R V : gV} (l0 : lay3 G R p0) (l3 : lay6 G R p3) (w : wpv K_X3_leadToNew d P 13 [some (4, (p0 : Int)), some (0, x1), some (0, x2), some (4, (p3 : Int)), some (0, 0)] [] G R (wr (wr V p0 15 0) p0 16 0)) : wpv K_X3_leadToNew d P 0 [some (4, (p0 : Int)), some (0, x1), some (0, x2), some (4, (p3 : Int))] [] G R V := by
  refine wp_ld (i := (.aload_n 0)) (4, (p0 : Int)) rfl rfl (fun _ => rfl) rfl rfl (?_ : wpv K_X3_leadToNew d P 1 [some (4, (p0 : Int)), some (0, x1), some (0, x2), some (4, (p3 : Int))] [(4, (p0 : Int))] G R V)
  refine wp_p (i := (.lconst 0)) rfl rfl (fun _ _ _ => rfl) (?_ : wpv K_X3_leadToNew d P 2 [some (4, (p0 : Int)), some (0, x1), some (0, x2), some (4, (p3 : Int))] [(2, 0), (4, (p0 : Int))] G R V)
  refine wp_putJ (k := 15) rfl rfl rfl (ly3_o l0) rfl rfl rfl ⟨by omega, by omega⟩ (?_ : wpv K_X3_leadToNew d P 5 [some (4, (p0 : Int)), some (0, x1), some (0, x2), some (4, (p3 : Int))] [] G R (wr V p0 15 0))
  refine wp_ld (i := (.aload_n 0)) (4, (p0 : Int)) rfl rfl (fun _ => rfl) rfl rfl (?_ : wpv K_X3_leadToNew d P 6 [some (4, (p0 : Int)), some (0, x1), some (0, x2), some (4, (p3 : Int))] [(4, (p0 : Int))] G R (wr V p0 15 0))
  refine wp_p (i := (.lconst 0)) rfl rfl (fun _ _ _ => rfl) (?_ : wpv K_X3_leadToNew d P 7 [some (4, (p0 : Int)), some (0, x1), some (0, x2), some (4, (p3 : Int))] [(2, 0), (4, (p0 : Int))] G R (wr V p0 15 0))
  refine wp_putJ (k := 16) rfl rfl rfl (ly3_o l0) rfl rfl rfl ⟨by omega, by omega⟩ (?_ : wpv K_X3_leadToNew d P 10 [some (4, (p0 : Int)), some (0, x1), some (0, x2), some (4, (p3 : Int))] [] G R (wr (wr V p0 15 0) p0 16 0))
  refine wp_p (i := (.iconst 0)) rfl rfl (fun _ _ _ => rfl) (?_ : wpv K_X3_leadToNew d P 11 [some (4, (p0 : Int)), some (0, x1), some (0, x2), some (4, (p3 : Int))] [(0, 0)] G R (wr (wr V p0 15 0) p0 16 0))
  refine wp_sto (i := (.istore 4)) _ rfl rfl (fun _ => rfl) rfl rfl rfl ?_
  refine wp_wk (L' := [some (4, (p0 : Int)), some (0, x1), some (0, x2), some (4, (p3 : Int)), some (0, 0)]) (wk_s (wk_s (wk_s (wk_s (wk_s wk_0))))) ?_
  show wpv K_X3_leadToNew d P 13 [some (4, (p0 : Int)), some (0, x1), some (0, x2), some (4, (p3 : Int)), some (0, 0)] [] G R (wr (wr V p0 15 0) p0 16 0)
  exact wp_wk (wk_s (wk_s (wk_s (wk_s (wk_s wk_0))))) w

theorem t_X3_leadToNew_13 {d : Nat} {P : gP} {p0 : Nat} {x1 : Int} {x2 : Int} {p3 : Nat} {x4 : Int} {G : List gS} {R V : gV} (l0 : lay3 G R p0) (l3 : lay6 G R p3) (w : ((i32 (V p3 1)) → ((i32 x4) ∧ (((¬ x4 < (V p3 1)) → P none V) ∧ ((x4 < (V p3 1)) → ((0 ≤ x1 ∧ x1 < 300) ∧ ((i64 (V (p0 + 1) x1)) → ((i64 (V (p0 + 2) x1)) → cwv d (fun r V7 => ∃ v8 : Int, r = some (0, v8) ∧ ((i32 v8) ∧ (((v8 = 0) → ((i32 (x4 + 1)) ∧ wpv K_X3_leadToNew d P 13 [some (4, (p0 : Int)), some (0, x1), some (0, x2), some (4, (p3 : Int)), some (0, (x4 + 1))] [] G R V7)) ∧ ((¬ v8 = 0) → ((i32 (x2 * 120)) ∧ ((i32 ((x2 * 120) + x4)) ∧ ((0 ≤ ((x2 * 120) + x4) ∧ ((x2 * 120) + x4) < 480) ∧ ((i32 (V7 (p0 + 9) (((x2 * 120) + x4)))) → cwv d (fun r V16 => r = none ∧ ((i32 (x4 + 1)) ∧ wpv K_X3_leadToNew d P 13 [some (4, (p0 : Int)), some (0, x1), some (0, x2), some (4, (p3 : Int)), some (0, (x4 + 1))] [] G R V16)) 49 [(4, (p0 : Int)), (0, (V7 (p0 + 9) (((x2 * 120) + x4))))] G R V7)))))))) 149 [(2, (V (p0 + 1) x1)), (2, (V (p0 + 2) x1)), (0, x4)] G R V)))))))) : wpv K_X3_leadToNew d P 13 [some (4, (p0 : Int)), some (0, x1), some (0, x2), some (4, (p3 : Int)), some (0, x4)] [] G R V := by
  refine wp_ld (i := (.iload 4)) (0, x4) rfl rfl (fun _ => rfl) rfl rfl (?_ : wpv K_X3_leadToNew d P 15 [some (4, (p0 : Int)), some (0, x1), some (0, x2), some (4, (p3 : Int)), some (0, x4)] [(0, x4)] G R V)
  refine wp_ld (i := (.aload_n 3)) (4, (p3 : Int)) rfl rfl (fun _ => rfl) rfl rfl (?_ : wpv K_X3_leadToNew d P 16 [some (4, (p0 : Int)), some (0, x1), some (0, x2), some (4, (p3 : Int)), some (0, x4)] [(4, (p3 : Int)), (0, x4)] G R V)
  refine wp_rng (fun vr1 => ?_)
  have f2 : i32 (V p3 1) := vr_f0 vr1 (ly6_o l3) rfl rfl
  replace w := w f2
  refine wp_getI (k := 1) rfl rfl rfl (ly6_o l3) rfl rfl (?_ : wpv K_X3_leadToNew d P 19 [some (4, (p0 : Int)), some (0, x1), some (0, x2), some (4, (p3 : Int)), some (0, x4)] [(0, (V p3 1)), (0, x4)] G R V)
  obtain ⟨s3, w⟩ := w
  refine wp_icmp (c := .ge) 64 rfl rfl rfl s3 f2 (fun q => ?_) (fun q => ?_)
  · have q : ¬ x4 < (V p3 1) := q
    replace w := w.1 q
    show wpv K_X3_leadToNew d P 64 [some (4, (p0 : Int)), some (0, x1), some (0, x2), some (4, (p3 : Int)), some (0, x4)] [] G R V
    exact wp_r0 rfl rfl rfl w
  · have q : x4 < (V p3 1) := Decidable.not_not.mp q
    replace w := w.2 q
    show wpv K_X3_leadToNew d P 22 [some (4, (p0 : Int)), some (0, x1), some (0, x2), some (4, (p3 : Int)), some (0, x4)] [] G R V
    refine wp_ld (i := (.aload_n 0)) (4, (p0 : Int)) rfl rfl (fun _ => rfl) rfl rfl (?_ : wpv K_X3_leadToNew d P 23 [some (4, (p0 : Int)), some (0, x1), some (0, x2), some (4, (p3 : Int)), some (0, x4)] [(4, (p0 : Int))] G R V)
    refine wp_getA (k := 1) rfl rfl rfl (ly3_o l0) rfl rfl (ly3_1 l0).1 (?_ : wpv K_X3_leadToNew d P 26 [some (4, (p0 : Int)), some (0, x1), some (0, x2), some (4, (p3 : Int)), some (0, x4)] [(4, ((p0 + 1 : Nat) : Int))] G R V)
    refine wp_ld (i := (.iload_n 1)) (0, x1) rfl rfl (fun _ => rfl) rfl rfl (?_ : wpv K_X3_leadToNew d P 27 [some (4, (p0 : Int)), some (0, x1), some (0, x2), some (4, (p3 : Int)), some (0, x4)] [(0, x1), (4, ((p0 + 1 : Nat) : Int))] G R V)
    obtain ⟨s4, w⟩ := w
    have f5 : i64 (V (p0 + 1) x1) := vr_a1 vr1 (ly3_1 l0).2 s4
    replace w := w f5
    refine wp_aJ rfl rfl (ly3_1 l0).2 s4 (?_ : wpv K_X3_leadToNew d P 28 [some (4, (p0 : Int)), some (0, x1), some (0, x2), some (4, (p3 : Int)), some (0, x4)] [(2, (V (p0 + 1) x1))] G R V)
    refine wp_ld (i := (.aload_n 0)) (4, (p0 : Int)) rfl rfl (fun _ => rfl) rfl rfl (?_ : wpv K_X3_leadToNew d P 29 [some (4, (p0 : Int)), some (0, x1), some (0, x2), some (4, (p3 : Int)), some (0, x4)] [(4, (p0 : Int)), (2, (V (p0 + 1) x1))] G R V)
    refine wp_getA (k := 2) rfl rfl rfl (ly3_o l0) rfl rfl (ly3_2 l0).1 (?_ : wpv K_X3_leadToNew d P 32 [some (4, (p0 : Int)), some (0, x1), some (0, x2), some (4, (p3 : Int)), some (0, x4)] [(4, ((p0 + 2 : Nat) : Int)), (2, (V (p0 + 1) x1))] G R V)
    refine wp_ld (i := (.iload_n 1)) (0, x1) rfl rfl (fun _ => rfl) rfl rfl (?_ : wpv K_X3_leadToNew d P 33 [some (4, (p0 : Int)), some (0, x1), some (0, x2), some (4, (p3 : Int)), some (0, x4)] [(0, x1), (4, ((p0 + 2 : Nat) : Int)), (2, (V (p0 + 1) x1))] G R V)
    have f6 : i64 (V (p0 + 2) x1) := vr_a1 vr1 (ly3_2 l0).2 s4
    replace w := w f6
    refine wp_aJ rfl rfl (ly3_2 l0).2 s4 (?_ : wpv K_X3_leadToNew d P 34 [some (4, (p0 : Int)), some (0, x1), some (0, x2), some (4, (p3 : Int)), some (0, x4)] [(2, (V (p0 + 2) x1)), (2, (V (p0 + 1) x1))] G R V)
    refine wp_ld (i := (.iload 4)) (0, x4) rfl rfl (fun _ => rfl) rfl rfl (?_ : wpv K_X3_leadToNew d P 36 [some (4, (p0 : Int)), some (0, x1), some (0, x2), some (4, (p3 : Int)), some (0, x4)] [(0, x4), (2, (V (p0 + 2) x1)), (2, (V (p0 + 1) x1))] G R V)
    refine wp_stat (as := [(2, (V (p0 + 1) x1)), (2, (V (p0 + 2) x1)), (0, x4)]) (st := []) _ rfl rfl rfl (by omega) rfl rfl (Nat.le_of_ble_eq_true rfl) (cwv_kI w (fun v8 V7 w => ?_))
    show wpv K_X3_leadToNew d P 39 [some (4, (p0 : Int)), some (0, x1), some (0, x2), some (4, (p3 : Int)), some (0, x4)] [(0, v8)] G R V7
    obtain ⟨s9, w⟩ := w
    refine wp_if (c := .eq) 58 rfl rfl rfl s9 (fun q => ?_) (fun q => ?_)
    · have q : v8 = 0 := q
      replace w := w.1 q
      show wpv K_X3_leadToNew d P 58 [some (4, (p0 : Int)), some (0, x1), some (0, x2), some (4, (p3 : Int)), some (0, x4)] [] G R V7
      obtain ⟨s10, w⟩ := w
      refine wp_inc (x := 4) (k := 1) (a := x4) (c := (x4 + 1)) _ rfl rfl rfl rfl s10 (by omega) rfl ?_
      show wpv K_X3_leadToNew d P 61 [some (4, (p0 : Int)), some (0, x1), some (0, x2), some (4, (p3 : Int)), some (0, (x4 + 1))] [] G R V7
      refine wp_go 13 rfl rfl rfl (?_ : wpv K_X3_leadToNew d P 13 [some (4, (p0 : Int)), some (0, x1), some (0, x2), some (4, (p3 : Int)), some (0, (x4 + 1))] [] G R V7)
      exact wp_wk (wk_s (wk_s (wk_s (wk_s (wk_s wk_0))))) w
    · have q : ¬ v8 = 0 := q
      replace w := w.2 q
      show wpv K_X3_leadToNew d P 42 [some (4, (p0 : Int)), some (0, x1), some (0, x2), some (4, (p3 : Int)), some (0, x4)] [] G R V7
      refine wp_ld (i := (.aload_n 0)) (4, (p0 : Int)) rfl rfl (fun _ => rfl) rfl rfl (?_ : wpv K_X3_leadToNew d P 43 [some (4, (p0 : Int)), some (0, x1), some (0, x2), some (4, (p3 : Int)), some (0, x4)] [(4, (p0 : Int))] G R V7)
      refine wp_ld (i := (.aload_n 0)) (4, (p0 : Int)) rfl rfl (fun _ => rfl) rfl rfl (?_ : wpv K_X3_leadToNew d P 44 [some (4, (p0 : Int)), some (0, x1), some (0, x2), some (4, (p3 : Int)), some (0, x4)] [(4, (p0 : Int)), (4, (p0 : Int))] G R V7)
      refine wp_getA (k := 11) rfl rfl rfl (ly3_o l0) rfl rfl (ly3_11 l0).1 (?_ : wpv K_X3_leadToNew d P 47 [some (4, (p0 : Int)), some (0, x1), some (0, x2), some (4, (p3 : Int)), some (0, x4)] [(4, ((p0 + 9 : Nat) : Int)), (4, (p0 : Int))] G R V7)
      refine wp_ld (i := (.iload_n 2)) (0, x2) rfl rfl (fun _ => rfl) rfl rfl (?_ : wpv K_X3_leadToNew d P 48 [some (4, (p0 : Int)), some (0, x1), some (0, x2), some (4, (p3 : Int)), some (0, x4)] [(0, x2), (4, ((p0 + 9 : Nat) : Int)), (4, (p0 : Int))] G R V7)
      refine wp_p (i := (.bipush 120)) rfl rfl (fun _ _ _ => rfl) (?_ : wpv K_X3_leadToNew d P 50 [some (4, (p0 : Int)), some (0, x1), some (0, x2), some (4, (p3 : Int)), some (0, x4)] [(0, 120), (0, x2), (4, ((p0 + 9 : Nat) : Int)), (4, (p0 : Int))] G R V7)
      obtain ⟨s11, w⟩ := w
      refine wp_xmul rfl rfl s11 (?_ : wpv K_X3_leadToNew d P 51 [some (4, (p0 : Int)), some (0, x1), some (0, x2), some (4, (p3 : Int)), some (0, x4)] [(0, (x2 * 120)), (4, ((p0 + 9 : Nat) : Int)), (4, (p0 : Int))] G R V7)
      refine wp_ld (i := (.iload 4)) (0, x4) rfl rfl (fun _ => rfl) rfl rfl (?_ : wpv K_X3_leadToNew d P 53 [some (4, (p0 : Int)), some (0, x1), some (0, x2), some (4, (p3 : Int)), some (0, x4)] [(0, x4), (0, (x2 * 120)), (4, ((p0 + 9 : Nat) : Int)), (4, (p0 : Int))] G R V7)
      obtain ⟨s12, w⟩ := w
      refine wp_xadd rfl rfl s12 (?_ : wpv K_X3_leadToNew d P 54 [some (4, (p0 : Int)), some (0, x1), some (0, x2), some (4, (p3 : Int)), some (0, x4)] [(0, ((x2 * 120) + x4)), (4, ((p0 + 9 : Nat) : Int)), (4, (p0 : Int))] G R V7)
      obtain ⟨s13, w⟩ := w
      refine wp_rng (fun vr14 => ?_)
      have f15 : i32 (V7 (p0 + 9) (((x2 * 120) + x4))) := vr_a0 vr14 (ly3_11 l0).2 s13
      replace w := w f15
      refine wp_aI rfl rfl (ly3_11 l0).2 s13 (?_ : wpv K_X3_leadToNew d P 55 [some (4, (p0 : Int)), some (0, x1), some (0, x2), some (4, (p3 : Int)), some (0, x4)] [(0, (V7 (p0 + 9) (((x2 * 120) + x4)))), (4, (p0 : Int))] G R V7)
      refine wp_virt (as := [(0, (V7 (p0 + 9) (((x2 * 120) + x4))))]) (a := p0) (st := []) _ rfl rfl rfl rfl rfl rfl (ly3_o l0) (Nat.le_of_ble_eq_true rfl) (cwv_k0 w (fun V16 w => ?_))
      show wpv K_X3_leadToNew d P 58 [some (4, (p0 : Int)), some (0, x1), some (0, x2), some (4, (p3 : Int)), some (0, x4)] [] G R V16
      obtain ⟨s17, w⟩ := w
      refine wp_inc (x := 4) (k := 1) (a := x4) (c := (x4 + 1)) _ rfl rfl rfl rfl s17 (by omega) rfl ?_
      show wpv K_X3_leadToNew d P 61 [some (4, (p0 : Int)), some (0, x1), some (0, x2), some (4, (p3 : Int)), some (0, (x4 + 1))] [] G R V16
      refine wp_go 13 rfl rfl rfl (?_ : wpv K_X3_leadToNew d P 13 [some (4, (p0 : Int)), some (0, x1), some (0, x2), some (4, (p3 : Int)), some (0, (x4 + 1))] [] G R V16)
      exact wp_wk (wk_s (wk_s (wk_s (wk_s (wk_s wk_0))))) w
theorem t_X4_isHeap_0 {d : Nat} {P : gP} {p0 : Nat} {x1 : Int} {G : List gS} {R V : gV} (l0 : lay4 G R p0) (w : ((i32 x1) ∧ (((x1 < 0) → P (some (0, 0)) V) ∧ ((¬ x1 < 0) → ((i32 (V p0 0)) → (((¬ x1 < (V p0 0)) → P (some (0, 0)) V) ∧ ((x1 < (V p0 0)) → P (some (0, 1)) V))))))) : wpv K_X4_isHeap d P 0 [some (4, (p0 : Int)), some (0, x1)] [] G R V := by
  refine wp_ld (i := (.iload_n 1)) (0, x1) rfl rfl (fun _ => rfl) rfl rfl (?_ : wpv K_X4_isHeap d P 1 [some (4, (p0 : Int)), some (0, x1)] [(0, x1)] G R V)
  obtain ⟨s1, w⟩ := w
  refine wp_if (c := .lt) 16 rfl rfl rfl s1 (fun q => ?_) (fun q => ?_)
  · have q : x1 < 0 := q
    replace w := w.1 q
    show wpv K_X4_isHeap d P 16 [some (4, (p0 : Int)), some (0, x1)] [] G R V
    refine wp_p (i := (.iconst 0)) rfl rfl (fun _ _ _ => rfl) (?_ : wpv K_X4_isHeap d P 17 [some (4, (p0 : Int)), some (0, x1)] [(0, 0)] G R V)
    exact wp_rB rfl rfl rfl (by omega) w
  · have q : ¬ x1 < 0 := q
    replace w := w.2 q
    show wpv K_X4_isHeap d P 4 [some (4, (p0 : Int)), some (0, x1)] [] G R V
    refine wp_ld (i := (.iload_n 1)) (0, x1) rfl rfl (fun _ => rfl) rfl rfl (?_ : wpv K_X4_isHeap d P 5 [some (4, (p0 : Int)), some (0, x1)] [(0, x1)] G R V)
    refine wp_ld (i := (.aload_n 0)) (4, (p0 : Int)) rfl rfl (fun _ => rfl) rfl rfl (?_ : wpv K_X4_isHeap d P 6 [some (4, (p0 : Int)), some (0, x1)] [(4, (p0 : Int)), (0, x1)] G R V)
    refine wp_rng (fun vr2 => ?_)
    have f3 : i32 (V p0 0) := vr_f0 vr2 (ly4_o l0) rfl rfl
    replace w := w f3
    refine wp_getI (k := 0) rfl rfl rfl (ly4_o l0) rfl rfl (?_ : wpv K_X4_isHeap d P 9 [some (4, (p0 : Int)), some (0, x1)] [(0, (V p0 0)), (0, x1)] G R V)
    refine wp_icmp (c := .ge) 16 rfl rfl rfl s1 f3 (fun q => ?_) (fun q => ?_)
    · have q : ¬ x1 < (V p0 0) := q
      replace w := w.1 q
      show wpv K_X4_isHeap d P 16 [some (4, (p0 : Int)), some (0, x1)] [] G R V
      refine wp_p (i := (.iconst 0)) rfl rfl (fun _ _ _ => rfl) (?_ : wpv K_X4_isHeap d P 17 [some (4, (p0 : Int)), some (0, x1)] [(0, 0)] G R V)
      exact wp_rB rfl rfl rfl (by omega) w
    · have q : x1 < (V p0 0) := Decidable.not_not.mp q
      replace w := w.2 q
      show wpv K_X4_isHeap d P 12 [some (4, (p0 : Int)), some (0, x1)] [] G R V
      refine wp_p (i := (.iconst 1)) rfl rfl (fun _ _ _ => rfl) (?_ : wpv K_X4_isHeap d P 13 [some (4, (p0 : Int)), some (0, x1)] [(0, 1)] G R V)
      refine wp_go 17 rfl rfl rfl (?_ : wpv K_X4_isHeap d P 17 [some (4, (p0 : Int)), some (0, x1)] [(0, 1)] G R V)
      exact wp_rB rfl rfl rfl (by omega) w
theorem t_X4_isClass_0 {d : Nat} {P : gP} {p0 : Nat} {x1 : Int} {G : List gS} {R V : gV} (l0 : lay4 G R p0) (w : ((i32 x1) ∧ (((x1 < 0) → P (some (0, 0)) V) ∧ ((¬ x1 < 0) → ((i32 (V p0 1)) → (((¬ x1 < (V p0 1)) → P (some (0, 0)) V) ∧ ((x1 < (V p0 1)) → P (some (0, 1)) V))))))) : wpv K_X4_isClass d P 0 [some (4, (p0 : Int)), some (0, x1)] [] G R V := by
  refine wp_ld (i := (.iload_n 1)) (0, x1) rfl rfl (fun _ => rfl) rfl rfl (?_ : wpv K_X4_isClass d P 1 [some (4, (p0 : Int)), some (0, x1)] [(0, x1)] G R V)
  obtain ⟨s1, w⟩ := w
  refine wp_if (c := .lt) 16 rfl rfl rfl s1 (fun q => ?_) (fun q => ?_)
  · have q : x1 < 0 := q
    replace w := w.1 q
    show wpv K_X4_isClass d P 16 [some (4, (p0 : Int)), some (0, x1)] [] G R V
    refine wp_p (i := (.iconst 0)) rfl rfl (fun _ _ _ => rfl) (?_ : wpv K_X4_isClass d P 17 [some (4, (p0 : Int)), some (0, x1)] [(0, 0)] G R V)
    exact wp_rB rfl rfl rfl (by omega) w
  · have q : ¬ x1 < 0 := q
    replace w := w.2 q
    show wpv K_X4_isClass d P 4 [some (4, (p0 : Int)), some (0, x1)] [] G R V
    refine wp_ld (i := (.iload_n 1)) (0, x1) rfl rfl (fun _ => rfl) rfl rfl (?_ : wpv K_X4_isClass d P 5 [some (4, (p0 : Int)), some (0, x1)] [(0, x1)] G R V)
    refine wp_ld (i := (.aload_n 0)) (4, (p0 : Int)) rfl rfl (fun _ => rfl) rfl rfl (?_ : wpv K_X4_isClass d P 6 [some (4, (p0 : Int)), some (0, x1)] [(4, (p0 : Int)), (0, x1)] G R V)
    refine wp_rng (fun vr2 => ?_)
    have f3 : i32 (V p0 1) := vr_f0 vr2 (ly4_o l0) rfl rfl
    replace w := w f3
    refine wp_getI (k := 1) rfl rfl rfl (ly4_o l0) rfl rfl (?_ : wpv K_X4_isClass d P 9 [some (4, (p0 : Int)), some (0, x1)] [(0, (V p0 1)), (0, x1)] G R V)
    refine wp_icmp (c := .ge) 16 rfl rfl rfl s1 f3 (fun q => ?_) (fun q => ?_)
    · have q : ¬ x1 < (V p0 1) := q
      replace w := w.1 q
      show wpv K_X4_isClass d P 16 [some (4, (p0 : Int)), some (0, x1)] [] G R V
      refine wp_p (i := (.iconst 0)) rfl rfl (fun _ _ _ => rfl) (?_ : wpv K_X4_isClass d P 17 [some (4, (p0 : Int)), some (0, x1)] [(0, 0)] G R V)
      exact wp_rB rfl rfl rfl (by omega) w
    · have q : x1 < (V p0 1) := Decidable.not_not.mp q
      replace w := w.2 q
      show wpv K_X4_isClass d P 12 [some (4, (p0 : Int)), some (0, x1)] [] G R V
      refine wp_p (i := (.iconst 1)) rfl rfl (fun _ _ _ => rfl) (?_ : wpv K_X4_isClass d P 13 [some (4, (p0 : Int)), some (0, x1)] [(0, 1)] G R V)
      refine wp_go 17 rfl rfl rfl (?_ : wpv K_X4_isClass d P 17 [some (4, (p0 : Int)), some (0, x1)] [(0, 1)] G R V)
      exact wp_rB rfl rfl rfl (by omega) w
theorem t_X4_isNormal_0 {d : Nat} {P : gP} {p0 : Nat} {x1 : Int} {G : List gS} {R V : gV} (l0 : lay4 G R p0) (w : ((0 ≤ x1 ∧ x1 < 300) ∧ ((i32 (V (p0 + 4) x1)) → ((0 ≤ (V (p0 + 4) x1) ∧ (V (p0 + 4) x1) < 300) ∧ ((i32 (V (p0 + 8) ((V (p0 + 4) x1)))) → (((¬ (V (p0 + 8) ((V (p0 + 4) x1))) = 1) → P (some (0, 0)) V) ∧ (((V (p0 + 8) ((V (p0 + 4) x1))) = 1) → P (some (0, 1)) V))))))) : wpv K_X4_isNormal d P 0 [some (4, (p0 : Int)), some (0, x1)] [] G R V := by
  refine wp_ld (i := (.aload_n 0)) (4, (p0 : Int)) rfl rfl (fun _ => rfl) rfl rfl (?_ : wpv K_X4_isNormal d P 1 [some (4, (p0 : Int)), some (0, x1)] [(4, (p0 : Int))] G R V)
  refine wp_getA (k := 9) rfl rfl rfl (ly4_o l0) rfl rfl (ly4_9 l0).1 (?_ : wpv K_X4_isNormal d P 4 [some (4, (p0 : Int)), some (0, x1)] [(4, ((p0 + 8 : Nat) : Int))] G R V)
  refine wp_ld (i := (.aload_n 0)) (4, (p0 : Int)) rfl rfl (fun _ => rfl) rfl rfl (?_ : wpv K_X4_isNormal d P 5 [some (4, (p0 : Int)), some (0, x1)] [(4, (p0 : Int)), (4, ((p0 + 8 : Nat) : Int))] G R V)
  refine wp_getA (k := 5) rfl rfl rfl (ly4_o l0) rfl rfl (ly4_5 l0).1 (?_ : wpv K_X4_isNormal d P 8 [some (4, (p0 : Int)), some (0, x1)] [(4, ((p0 + 4 : Nat) : Int)), (4, ((p0 + 8 : Nat) : Int))] G R V)
  refine wp_ld (i := (.iload_n 1)) (0, x1) rfl rfl (fun _ => rfl) rfl rfl (?_ : wpv K_X4_isNormal d P 9 [some (4, (p0 : Int)), some (0, x1)] [(0, x1), (4, ((p0 + 4 : Nat) : Int)), (4, ((p0 + 8 : Nat) : Int))] G R V)
  obtain ⟨s1, w⟩ := w
  refine wp_rng (fun vr2 => ?_)
  have f3 : i32 (V (p0 + 4) x1) := vr_a0 vr2 (ly4_5 l0).2 s1
  replace w := w f3
  refine wp_aI rfl rfl (ly4_5 l0).2 s1 (?_ : wpv K_X4_isNormal d P 10 [some (4, (p0 : Int)), some (0, x1)] [(0, (V (p0 + 4) x1)), (4, ((p0 + 8 : Nat) : Int))] G R V)
  obtain ⟨s4, w⟩ := w
  have f5 : i32 (V (p0 + 8) ((V (p0 + 4) x1))) := vr_a0 vr2 (ly4_9 l0).2 s4
  replace w := w f5
  refine wp_aI rfl rfl (ly4_9 l0).2 s4 (?_ : wpv K_X4_isNormal d P 11 [some (4, (p0 : Int)), some (0, x1)] [(0, (V (p0 + 8) ((V (p0 + 4) x1))))] G R V)
  refine wp_p (i := (.iconst 1)) rfl rfl (fun _ _ _ => rfl) (?_ : wpv K_X4_isNormal d P 12 [some (4, (p0 : Int)), some (0, x1)] [(0, 1), (0, (V (p0 + 8) ((V (p0 + 4) x1))))] G R V)
  refine wp_icmp (c := .ne) 19 rfl rfl rfl f5 ⟨by omega, by omega⟩ (fun q => ?_) (fun q => ?_)
  · have q : ¬ (V (p0 + 8) ((V (p0 + 4) x1))) = 1 := q
    replace w := w.1 q
    show wpv K_X4_isNormal d P 19 [some (4, (p0 : Int)), some (0, x1)] [] G R V
    refine wp_p (i := (.iconst 0)) rfl rfl (fun _ _ _ => rfl) (?_ : wpv K_X4_isNormal d P 20 [some (4, (p0 : Int)), some (0, x1)] [(0, 0)] G R V)
    exact wp_rB rfl rfl rfl (by omega) w
  · have q : (V (p0 + 8) ((V (p0 + 4) x1))) = 1 := Decidable.not_not.mp q
    replace w := w.2 q
    show wpv K_X4_isNormal d P 15 [some (4, (p0 : Int)), some (0, x1)] [] G R V
    refine wp_p (i := (.iconst 1)) rfl rfl (fun _ _ _ => rfl) (?_ : wpv K_X4_isNormal d P 16 [some (4, (p0 : Int)), some (0, x1)] [(0, 1)] G R V)
    refine wp_go 20 rfl rfl rfl (?_ : wpv K_X4_isNormal d P 20 [some (4, (p0 : Int)), some (0, x1)] [(0, 1)] G R V)
    exact wp_rB rfl rfl rfl (by omega) w
theorem t_X4_holdsTurn_0 {d : Nat} {P : gP} {p0 : Nat} {x1 : Int} {x2 : Int} {G : List gS} {R V : gV} (l0 : lay4 G R p0) (w : ((0 ≤ x1 ∧ x1 < 300) ∧ ((i64 (V (p0 + 1) x1)) → ((i64 (V (p0 + 2) x1)) → cwv d (fun r V5 => ∃ v6 : Int, r = some (0, v6) ∧ ((v6 = 0 ∨ v6 = 1) ∧ P (some (0, v6)) V5)) 149 [(2, (V (p0 + 1) x1)), (2, (V (p0 + 2) x1)), (0, x2)] G R V)))) : wpv K_X4_holdsTurn d P 0 [some (4, (p0 : Int)), some (0, x1), some (0, x2)] [] G R V := by
  refine wp_ld (i := (.aload_n 0)) (4, (p0 : Int)) rfl rfl (fun _ => rfl) rfl rfl (?_ : wpv K_X4_holdsTurn d P 1 [some (4, (p0 : Int)), some (0, x1), some (0, x2)] [(4, (p0 : Int))] G R V)
  refine wp_getA (k := 2) rfl rfl rfl (ly4_o l0) rfl rfl (ly4_2 l0).1 (?_ : wpv K_X4_holdsTurn d P 4 [some (4, (p0 : Int)), some (0, x1), some (0, x2)] [(4, ((p0 + 1 : Nat) : Int))] G R V)
  refine wp_ld (i := (.iload_n 1)) (0, x1) rfl rfl (fun _ => rfl) rfl rfl (?_ : wpv K_X4_holdsTurn d P 5 [some (4, (p0 : Int)), some (0, x1), some (0, x2)] [(0, x1), (4, ((p0 + 1 : Nat) : Int))] G R V)
  obtain ⟨s1, w⟩ := w
  refine wp_rng (fun vr2 => ?_)
  have f3 : i64 (V (p0 + 1) x1) := vr_a1 vr2 (ly4_2 l0).2 s1
  replace w := w f3
  refine wp_aJ rfl rfl (ly4_2 l0).2 s1 (?_ : wpv K_X4_holdsTurn d P 6 [some (4, (p0 : Int)), some (0, x1), some (0, x2)] [(2, (V (p0 + 1) x1))] G R V)
  refine wp_ld (i := (.aload_n 0)) (4, (p0 : Int)) rfl rfl (fun _ => rfl) rfl rfl (?_ : wpv K_X4_holdsTurn d P 7 [some (4, (p0 : Int)), some (0, x1), some (0, x2)] [(4, (p0 : Int)), (2, (V (p0 + 1) x1))] G R V)
  refine wp_getA (k := 3) rfl rfl rfl (ly4_o l0) rfl rfl (ly4_3 l0).1 (?_ : wpv K_X4_holdsTurn d P 10 [some (4, (p0 : Int)), some (0, x1), some (0, x2)] [(4, ((p0 + 2 : Nat) : Int)), (2, (V (p0 + 1) x1))] G R V)
  refine wp_ld (i := (.iload_n 1)) (0, x1) rfl rfl (fun _ => rfl) rfl rfl (?_ : wpv K_X4_holdsTurn d P 11 [some (4, (p0 : Int)), some (0, x1), some (0, x2)] [(0, x1), (4, ((p0 + 2 : Nat) : Int)), (2, (V (p0 + 1) x1))] G R V)
  have f4 : i64 (V (p0 + 2) x1) := vr_a1 vr2 (ly4_3 l0).2 s1
  replace w := w f4
  refine wp_aJ rfl rfl (ly4_3 l0).2 s1 (?_ : wpv K_X4_holdsTurn d P 12 [some (4, (p0 : Int)), some (0, x1), some (0, x2)] [(2, (V (p0 + 2) x1)), (2, (V (p0 + 1) x1))] G R V)
  refine wp_ld (i := (.iload_n 2)) (0, x2) rfl rfl (fun _ => rfl) rfl rfl (?_ : wpv K_X4_holdsTurn d P 13 [some (4, (p0 : Int)), some (0, x1), some (0, x2)] [(0, x2), (2, (V (p0 + 2) x1)), (2, (V (p0 + 1) x1))] G R V)
  refine wp_stat (as := [(2, (V (p0 + 1) x1)), (2, (V (p0 + 2) x1)), (0, x2)]) (st := []) _ rfl rfl rfl (by omega) rfl rfl (Nat.le_of_ble_eq_true rfl) (cwv_kI w (fun v6 V5 w => ?_))
  show wpv K_X4_holdsTurn d P 16 [some (4, (p0 : Int)), some (0, x1), some (0, x2)] [(0, v6)] G R V5
  obtain ⟨s7, w⟩ := w
  exact wp_rB rfl rfl rfl s7 w
theorem t_X4_sizeInClass_0 {d : Nat} {P : gP} {p0 : Nat} {x1 : Int} {G : List gS} {R V : gV} (l0 : lay4 G R p0) (w : ((0 ≤ x1 ∧ x1 < 300) ∧ ((i32 (V (p0 + 7) x1)) → ((0 ≤ (V (p0 + 7) x1) ∧ (V (p0 + 7) x1) < 300) ∧ ((i32 (V (p0 + 3) ((V (p0 + 7) x1)))) → P (some (0, (V (p0 + 3) ((V (p0 + 7) x1))))) V))))) : wpv K_X4_sizeInClass d P 0 [some (4, (p0 : Int)), some (0, x1)] [] G R V := by
  refine wp_ld (i := (.aload_n 0)) (4, (p0 : Int)) rfl rfl (fun _ => rfl) rfl rfl (?_ : wpv K_X4_sizeInClass d P 1 [some (4, (p0 : Int)), some (0, x1)] [(4, (p0 : Int))] G R V)
  refine wp_getA (k := 4) rfl rfl rfl (ly4_o l0) rfl rfl (ly4_4 l0).1 (?_ : wpv K_X4_sizeInClass d P 4 [some (4, (p0 : Int)), some (0, x1)] [(4, ((p0 + 3 : Nat) : Int))] G R V)
  refine wp_ld (i := (.aload_n 0)) (4, (p0 : Int)) rfl rfl (fun _ => rfl) rfl rfl (?_ : wpv K_X4_sizeInClass d P 5 [some (4, (p0 : Int)), some (0, x1)] [(4, (p0 : Int)), (4, ((p0 + 3 : Nat) : Int))] G R V)
  refine wp_getA (k := 8) rfl rfl rfl (ly4_o l0) rfl rfl (ly4_8 l0).1 (?_ : wpv K_X4_sizeInClass d P 8 [some (4, (p0 : Int)), some (0, x1)] [(4, ((p0 + 7 : Nat) : Int)), (4, ((p0 + 3 : Nat) : Int))] G R V)
  refine wp_ld (i := (.iload_n 1)) (0, x1) rfl rfl (fun _ => rfl) rfl rfl (?_ : wpv K_X4_sizeInClass d P 9 [some (4, (p0 : Int)), some (0, x1)] [(0, x1), (4, ((p0 + 7 : Nat) : Int)), (4, ((p0 + 3 : Nat) : Int))] G R V)
  obtain ⟨s1, w⟩ := w
  refine wp_rng (fun vr2 => ?_)
  have f3 : i32 (V (p0 + 7) x1) := vr_a0 vr2 (ly4_8 l0).2 s1
  replace w := w f3
  refine wp_aI rfl rfl (ly4_8 l0).2 s1 (?_ : wpv K_X4_sizeInClass d P 10 [some (4, (p0 : Int)), some (0, x1)] [(0, (V (p0 + 7) x1)), (4, ((p0 + 3 : Nat) : Int))] G R V)
  obtain ⟨s4, w⟩ := w
  have f5 : i32 (V (p0 + 3) ((V (p0 + 7) x1))) := vr_a0 vr2 (ly4_4 l0).2 s4
  replace w := w f5
  refine wp_aI rfl rfl (ly4_4 l0).2 s4 (?_ : wpv K_X4_sizeInClass d P 11 [some (4, (p0 : Int)), some (0, x1)] [(0, (V (p0 + 3) ((V (p0 + 7) x1))))] G R V)
  exact wp_rI rfl rfl rfl w
theorem t_X4_liesIn_0 {d : Nat} {P : gP} {p0 : Nat} {x1 : Int} {x2 : Int} {G : List gS} {R V : gV} (l0 : lay4 G R p0) (w : ((0 ≤ x1 ∧ x1 < 300) ∧ ((i64 (V (p0 + 1) x1)) → ((0 ≤ x2 ∧ x2 < 300) ∧ ((i64 (V (p0 + 1) x2)) → (((¬ (jand ((V (p0 + 1) x1)) ((jxor ((V (p0 + 1) x2)) ((-1))))) = 0) → P (some (0, 0)) V) ∧ (((jand ((V (p0 + 1) x1)) ((jxor ((V (p0 + 1) x2)) ((-1))))) = 0) → ((i64 (V (p0 + 2) x1)) → ((i64 (V (p0 + 2) x2)) → (((¬ (jand ((V (p0 + 2) x1)) ((jxor ((V (p0 + 2) x2)) ((-1))))) = 0) → P (some (0, 0)) V) ∧ (((jand ((V (p0 + 2) x1)) ((jxor ((V (p0 + 2) x2)) ((-1))))) = 0) → P (some (0, 1)) V))))))))))) : wpv K_X4_liesIn d P 0 [some (4, (p0 : Int)), some (0, x1), some (0, x2)] [] G R V := by
  refine wp_ld (i := (.aload_n 0)) (4, (p0 : Int)) rfl rfl (fun _ => rfl) rfl rfl (?_ : wpv K_X4_liesIn d P 1 [some (4, (p0 : Int)), some (0, x1), some (0, x2)] [(4, (p0 : Int))] G R V)
  refine wp_getA (k := 2) rfl rfl rfl (ly4_o l0) rfl rfl (ly4_2 l0).1 (?_ : wpv K_X4_liesIn d P 4 [some (4, (p0 : Int)), some (0, x1), some (0, x2)] [(4, ((p0 + 1 : Nat) : Int))] G R V)
  refine wp_ld (i := (.iload_n 1)) (0, x1) rfl rfl (fun _ => rfl) rfl rfl (?_ : wpv K_X4_liesIn d P 5 [some (4, (p0 : Int)), some (0, x1), some (0, x2)] [(0, x1), (4, ((p0 + 1 : Nat) : Int))] G R V)
  obtain ⟨s1, w⟩ := w
  refine wp_rng (fun vr2 => ?_)
  have f3 : i64 (V (p0 + 1) x1) := vr_a1 vr2 (ly4_2 l0).2 s1
  replace w := w f3
  refine wp_aJ rfl rfl (ly4_2 l0).2 s1 (?_ : wpv K_X4_liesIn d P 6 [some (4, (p0 : Int)), some (0, x1), some (0, x2)] [(2, (V (p0 + 1) x1))] G R V)
  refine wp_ld (i := (.aload_n 0)) (4, (p0 : Int)) rfl rfl (fun _ => rfl) rfl rfl (?_ : wpv K_X4_liesIn d P 7 [some (4, (p0 : Int)), some (0, x1), some (0, x2)] [(4, (p0 : Int)), (2, (V (p0 + 1) x1))] G R V)
  refine wp_getA (k := 2) rfl rfl rfl (ly4_o l0) rfl rfl (ly4_2 l0).1 (?_ : wpv K_X4_liesIn d P 10 [some (4, (p0 : Int)), some (0, x1), some (0, x2)] [(4, ((p0 + 1 : Nat) : Int)), (2, (V (p0 + 1) x1))] G R V)
  refine wp_ld (i := (.iload_n 2)) (0, x2) rfl rfl (fun _ => rfl) rfl rfl (?_ : wpv K_X4_liesIn d P 11 [some (4, (p0 : Int)), some (0, x1), some (0, x2)] [(0, x2), (4, ((p0 + 1 : Nat) : Int)), (2, (V (p0 + 1) x1))] G R V)
  obtain ⟨s4, w⟩ := w
  have f5 : i64 (V (p0 + 1) x2) := vr_a1 vr2 (ly4_2 l0).2 s4
  replace w := w f5
  refine wp_aJ rfl rfl (ly4_2 l0).2 s4 (?_ : wpv K_X4_liesIn d P 12 [some (4, (p0 : Int)), some (0, x1), some (0, x2)] [(2, (V (p0 + 1) x2)), (2, (V (p0 + 1) x1))] G R V)
  refine wp_p (i := (.ldc2_w 60)) rfl rfl (fun _ _ _ => rfl) (?_ : wpv K_X4_liesIn d P 15 [some (4, (p0 : Int)), some (0, x1), some (0, x2)] [(2, (-1)), (2, (V (p0 + 1) x2)), (2, (V (p0 + 1) x1))] G R V)
  refine wp_jxor rfl rfl (?_ : wpv K_X4_liesIn d P 16 [some (4, (p0 : Int)), some (0, x1), some (0, x2)] [(2, (jxor ((V (p0 + 1) x2)) ((-1)))), (2, (V (p0 + 1) x1))] G R V)
  refine wp_jand rfl rfl (?_ : wpv K_X4_liesIn d P 17 [some (4, (p0 : Int)), some (0, x1), some (0, x2)] [(2, (jand ((V (p0 + 1) x1)) ((jxor ((V (p0 + 1) x2)) ((-1))))))] G R V)
  refine wp_p (i := (.lconst 0)) rfl rfl (fun _ _ _ => rfl) (?_ : wpv K_X4_liesIn d P 18 [some (4, (p0 : Int)), some (0, x1), some (0, x2)] [(2, 0), (2, (jand ((V (p0 + 1) x1)) ((jxor ((V (p0 + 1) x2)) ((-1))))))] G R V)
  refine wp_lcmp rfl rfl (t64 _) ⟨by omega, by omega⟩ (?_ : wpv K_X4_liesIn d P 19 [some (4, (p0 : Int)), some (0, x1), some (0, x2)] [(0, sg ((jand ((V (p0 + 1) x1)) ((jxor ((V (p0 + 1) x2)) ((-1)))))) 0)] G R V)
  refine wp_if (c := .ne) 48 rfl rfl rfl (sg32 _ _) (fun q => ?_) (fun q => ?_)
  · have q : ¬ (jand ((V (p0 + 1) x1)) ((jxor ((V (p0 + 1) x2)) ((-1))))) = 0 := fun z => q (sg_eq.mpr z)
    replace w := w.1 q
    show wpv K_X4_liesIn d P 48 [some (4, (p0 : Int)), some (0, x1), some (0, x2)] [] G R V
    refine wp_p (i := (.iconst 0)) rfl rfl (fun _ _ _ => rfl) (?_ : wpv K_X4_liesIn d P 49 [some (4, (p0 : Int)), some (0, x1), some (0, x2)] [(0, 0)] G R V)
    exact wp_rB rfl rfl rfl (by omega) w
  · have q : (jand ((V (p0 + 1) x1)) ((jxor ((V (p0 + 1) x2)) ((-1))))) = 0 := sg_eq.mp (Decidable.not_not.mp q)
    replace w := w.2 q
    show wpv K_X4_liesIn d P 22 [some (4, (p0 : Int)), some (0, x1), some (0, x2)] [] G R V
    refine wp_ld (i := (.aload_n 0)) (4, (p0 : Int)) rfl rfl (fun _ => rfl) rfl rfl (?_ : wpv K_X4_liesIn d P 23 [some (4, (p0 : Int)), some (0, x1), some (0, x2)] [(4, (p0 : Int))] G R V)
    refine wp_getA (k := 3) rfl rfl rfl (ly4_o l0) rfl rfl (ly4_3 l0).1 (?_ : wpv K_X4_liesIn d P 26 [some (4, (p0 : Int)), some (0, x1), some (0, x2)] [(4, ((p0 + 2 : Nat) : Int))] G R V)
    refine wp_ld (i := (.iload_n 1)) (0, x1) rfl rfl (fun _ => rfl) rfl rfl (?_ : wpv K_X4_liesIn d P 27 [some (4, (p0 : Int)), some (0, x1), some (0, x2)] [(0, x1), (4, ((p0 + 2 : Nat) : Int))] G R V)
    have f6 : i64 (V (p0 + 2) x1) := vr_a1 vr2 (ly4_3 l0).2 s1
    replace w := w f6
    refine wp_aJ rfl rfl (ly4_3 l0).2 s1 (?_ : wpv K_X4_liesIn d P 28 [some (4, (p0 : Int)), some (0, x1), some (0, x2)] [(2, (V (p0 + 2) x1))] G R V)
    refine wp_ld (i := (.aload_n 0)) (4, (p0 : Int)) rfl rfl (fun _ => rfl) rfl rfl (?_ : wpv K_X4_liesIn d P 29 [some (4, (p0 : Int)), some (0, x1), some (0, x2)] [(4, (p0 : Int)), (2, (V (p0 + 2) x1))] G R V)
    refine wp_getA (k := 3) rfl rfl rfl (ly4_o l0) rfl rfl (ly4_3 l0).1 (?_ : wpv K_X4_liesIn d P 32 [some (4, (p0 : Int)), some (0, x1), some (0, x2)] [(4, ((p0 + 2 : Nat) : Int)), (2, (V (p0 + 2) x1))] G R V)
    refine wp_ld (i := (.iload_n 2)) (0, x2) rfl rfl (fun _ => rfl) rfl rfl (?_ : wpv K_X4_liesIn d P 33 [some (4, (p0 : Int)), some (0, x1), some (0, x2)] [(0, x2), (4, ((p0 + 2 : Nat) : Int)), (2, (V (p0 + 2) x1))] G R V)
    have f7 : i64 (V (p0 + 2) x2) := vr_a1 vr2 (ly4_3 l0).2 s4
    replace w := w f7
    refine wp_aJ rfl rfl (ly4_3 l0).2 s4 (?_ : wpv K_X4_liesIn d P 34 [some (4, (p0 : Int)), some (0, x1), some (0, x2)] [(2, (V (p0 + 2) x2)), (2, (V (p0 + 2) x1))] G R V)
    refine wp_p (i := (.ldc2_w 60)) rfl rfl (fun _ _ _ => rfl) (?_ : wpv K_X4_liesIn d P 37 [some (4, (p0 : Int)), some (0, x1), some (0, x2)] [(2, (-1)), (2, (V (p0 + 2) x2)), (2, (V (p0 + 2) x1))] G R V)
    refine wp_jxor rfl rfl (?_ : wpv K_X4_liesIn d P 38 [some (4, (p0 : Int)), some (0, x1), some (0, x2)] [(2, (jxor ((V (p0 + 2) x2)) ((-1)))), (2, (V (p0 + 2) x1))] G R V)
    refine wp_jand rfl rfl (?_ : wpv K_X4_liesIn d P 39 [some (4, (p0 : Int)), some (0, x1), some (0, x2)] [(2, (jand ((V (p0 + 2) x1)) ((jxor ((V (p0 + 2) x2)) ((-1))))))] G R V)
    refine wp_p (i := (.lconst 0)) rfl rfl (fun _ _ _ => rfl) (?_ : wpv K_X4_liesIn d P 40 [some (4, (p0 : Int)), some (0, x1), some (0, x2)] [(2, 0), (2, (jand ((V (p0 + 2) x1)) ((jxor ((V (p0 + 2) x2)) ((-1))))))] G R V)
    refine wp_lcmp rfl rfl (t64 _) ⟨by omega, by omega⟩ (?_ : wpv K_X4_liesIn d P 41 [some (4, (p0 : Int)), some (0, x1), some (0, x2)] [(0, sg ((jand ((V (p0 + 2) x1)) ((jxor ((V (p0 + 2) x2)) ((-1)))))) 0)] G R V)
    refine wp_if (c := .ne) 48 rfl rfl rfl (sg32 _ _) (fun q => ?_) (fun q => ?_)
    · have q : ¬ (jand ((V (p0 + 2) x1)) ((jxor ((V (p0 + 2) x2)) ((-1))))) = 0 := fun z => q (sg_eq.mpr z)
      replace w := w.1 q
      show wpv K_X4_liesIn d P 48 [some (4, (p0 : Int)), some (0, x1), some (0, x2)] [] G R V
      refine wp_p (i := (.iconst 0)) rfl rfl (fun _ _ _ => rfl) (?_ : wpv K_X4_liesIn d P 49 [some (4, (p0 : Int)), some (0, x1), some (0, x2)] [(0, 0)] G R V)
      exact wp_rB rfl rfl rfl (by omega) w
    · have q : (jand ((V (p0 + 2) x1)) ((jxor ((V (p0 + 2) x2)) ((-1))))) = 0 := sg_eq.mp (Decidable.not_not.mp q)
      replace w := w.2 q
      show wpv K_X4_liesIn d P 44 [some (4, (p0 : Int)), some (0, x1), some (0, x2)] [] G R V
      refine wp_p (i := (.iconst 1)) rfl rfl (fun _ _ _ => rfl) (?_ : wpv K_X4_liesIn d P 45 [some (4, (p0 : Int)), some (0, x1), some (0, x2)] [(0, 1)] G R V)
      refine wp_go 49 rfl rfl rfl (?_ : wpv K_X4_liesIn d P 49 [some (4, (p0 : Int)), some (0, x1), some (0, x2)] [(0, 1)] G R V)
      exact wp_rB rfl rfl rfl (by omega) w
