theorem t_X4_indexOf_0 {d : Nat} {P : gP} {p0 : Nat} {x1 : Int} {x3 : Int} {G : List gS} {R V : gV} (l0 : lay4 G R p0) (w : wpv K_X4_indexOf d P 3 [some (4, (p0 : Int)), some (2, x1), none, some (2, x3), none, some (0, 0)] [] G R V) : wpv K_X4_indexOf d P 0 [some (4, (p0 : Int)), some (2, x1), none, some (2, x3)] [] G R V := by
  refine wp_p (i := (.iconst 0)) rfl rfl (fun _ _ _ => rfl) (?_ : wpv K_X4_indexOf d P 1 [some (4, (p0 : Int)), some (2, x1), none, some (2, x3)] [(0, 0)] G R V)
  refine wp_sto (i := (.istore 5)) _ rfl rfl (fun _ => rfl) rfl rfl rfl ?_
  refine wp_wk (L' := [some (4, (p0 : Int)), some (2, x1), none, some (2, x3), none, some (0, 0)]) (wk_s (wk_s (wk_n (wk_s (wk_n (wk_s wk_0)))))) ?_
  show wpv K_X4_indexOf d P 3 [some (4, (p0 : Int)), some (2, x1), none, some (2, x3), none, some (0, 0)] [] G R V
  exact wp_wk (wk_s (wk_s (wk_n (wk_s (wk_n (wk_s wk_0)))))) w

theorem t_X4_indexOf_3 {d : Nat} {P : gP} {p0 : Nat} {x1 : Int} {x3 : Int} {x5 : Int} {G : List gS} {R V : gV} (l0 : lay4 G R p0) (w : ((i32 (V p0 0)) → ((i32 x5) ∧ (((¬ x5 < (V p0 0)) → P (some (0, (-1))) V) ∧ ((x5 < (V p0 0)) → ((0 ≤ x5 ∧ x5 < 300) ∧ ((i64 (V (p0 + 1) x5)) → ((i64 x1) ∧ (((¬ (V (p0 + 1) x5) = x1) → ((i32 (x5 + 1)) ∧ wpv K_X4_indexOf d P 3 [some (4, (p0 : Int)), some (2, x1), none, some (2, x3), none, some (0, (x5 + 1))] [] G R V)) ∧ (((V (p0 + 1) x5) = x1) → ((i64 (V (p0 + 2) x5)) → ((i64 x3) ∧ (((¬ (V (p0 + 2) x5) = x3) → ((i32 (x5 + 1)) ∧ wpv K_X4_indexOf d P 3 [some (4, (p0 : Int)), some (2, x1), none, some (2, x3), none, some (0, (x5 + 1))] [] G R V)) ∧ (((V (p0 + 2) x5) = x3) → P (some (0, x5)) V)))))))))))))) : wpv K_X4_indexOf d P 3 [some (4, (p0 : Int)), some (2, x1), none, some (2, x3), none, some (0, x5)] [] G R V := by
  refine wp_ld (i := (.iload 5)) (0, x5) rfl rfl (fun _ => rfl) rfl rfl (?_ : wpv K_X4_indexOf d P 5 [some (4, (p0 : Int)), some (2, x1), none, some (2, x3), none, some (0, x5)] [(0, x5)] G R V)
  refine wp_ld (i := (.aload_n 0)) (4, (p0 : Int)) rfl rfl (fun _ => rfl) rfl rfl (?_ : wpv K_X4_indexOf d P 6 [some (4, (p0 : Int)), some (2, x1), none, some (2, x3), none, some (0, x5)] [(4, (p0 : Int)), (0, x5)] G R V)
  refine wp_rng (fun vr1 => ?_)
  have f2 : i32 (V p0 0) := vr_f0 vr1 (ly4_o l0) rfl rfl
  replace w := w f2
  refine wp_getI (k := 0) rfl rfl rfl (ly4_o l0) rfl rfl (?_ : wpv K_X4_indexOf d P 9 [some (4, (p0 : Int)), some (2, x1), none, some (2, x3), none, some (0, x5)] [(0, (V p0 0)), (0, x5)] G R V)
  obtain ⟨s3, w⟩ := w
  refine wp_icmp (c := .ge) 45 rfl rfl rfl s3 f2 (fun q => ?_) (fun q => ?_)
  · have q : ¬ x5 < (V p0 0) := q
    replace w := w.1 q
    show wpv K_X4_indexOf d P 45 [some (4, (p0 : Int)), some (2, x1), none, some (2, x3), none, some (0, x5)] [] G R V
    refine wp_p (i := (.iconst (-1))) rfl rfl (fun _ _ _ => rfl) (?_ : wpv K_X4_indexOf d P 46 [some (4, (p0 : Int)), some (2, x1), none, some (2, x3), none, some (0, x5)] [(0, (-1))] G R V)
    exact wp_rI rfl rfl rfl w
  · have q : x5 < (V p0 0) := Decidable.not_not.mp q
    replace w := w.2 q
    show wpv K_X4_indexOf d P 12 [some (4, (p0 : Int)), some (2, x1), none, some (2, x3), none, some (0, x5)] [] G R V
    refine wp_ld (i := (.aload_n 0)) (4, (p0 : Int)) rfl rfl (fun _ => rfl) rfl rfl (?_ : wpv K_X4_indexOf d P 13 [some (4, (p0 : Int)), some (2, x1), none, some (2, x3), none, some (0, x5)] [(4, (p0 : Int))] G R V)
    refine wp_getA (k := 2) rfl rfl rfl (ly4_o l0) rfl rfl (ly4_2 l0).1 (?_ : wpv K_X4_indexOf d P 16 [some (4, (p0 : Int)), some (2, x1), none, some (2, x3), none, some (0, x5)] [(4, ((p0 + 1 : Nat) : Int))] G R V)
    refine wp_ld (i := (.iload 5)) (0, x5) rfl rfl (fun _ => rfl) rfl rfl (?_ : wpv K_X4_indexOf d P 18 [some (4, (p0 : Int)), some (2, x1), none, some (2, x3), none, some (0, x5)] [(0, x5), (4, ((p0 + 1 : Nat) : Int))] G R V)
    obtain ⟨s4, w⟩ := w
    have f5 : i64 (V (p0 + 1) x5) := vr_a1 vr1 (ly4_2 l0).2 s4
    replace w := w f5
    refine wp_aJ rfl rfl (ly4_2 l0).2 s4 (?_ : wpv K_X4_indexOf d P 19 [some (4, (p0 : Int)), some (2, x1), none, some (2, x3), none, some (0, x5)] [(2, (V (p0 + 1) x5))] G R V)
    refine wp_ld (i := (.lload_n 1)) (2, x1) rfl rfl (fun _ => rfl) rfl rfl (?_ : wpv K_X4_indexOf d P 20 [some (4, (p0 : Int)), some (2, x1), none, some (2, x3), none, some (0, x5)] [(2, x1), (2, (V (p0 + 1) x5))] G R V)
    obtain ⟨s6, w⟩ := w
    refine wp_lcmp rfl rfl f5 s6 (?_ : wpv K_X4_indexOf d P 21 [some (4, (p0 : Int)), some (2, x1), none, some (2, x3), none, some (0, x5)] [(0, sg ((V (p0 + 1) x5)) x1)] G R V)
    refine wp_if (c := .ne) 39 rfl rfl rfl (sg32 _ _) (fun q => ?_) (fun q => ?_)
    · have q : ¬ (V (p0 + 1) x5) = x1 := fun z => q (sg_eq.mpr z)
      replace w := w.1 q
      show wpv K_X4_indexOf d P 39 [some (4, (p0 : Int)), some (2, x1), none, some (2, x3), none, some (0, x5)] [] G R V
      obtain ⟨s7, w⟩ := w
      refine wp_inc (x := 5) (k := 1) (a := x5) (c := (x5 + 1)) _ rfl rfl rfl rfl s7 (by omega) rfl ?_
      show wpv K_X4_indexOf d P 42 [some (4, (p0 : Int)), some (2, x1), none, some (2, x3), none, some (0, (x5 + 1))] [] G R V
      refine wp_go 3 rfl rfl rfl (?_ : wpv K_X4_indexOf d P 3 [some (4, (p0 : Int)), some (2, x1), none, some (2, x3), none, some (0, (x5 + 1))] [] G R V)
      exact wp_wk (wk_s (wk_s (wk_n (wk_s (wk_n (wk_s wk_0)))))) w
    · have q : (V (p0 + 1) x5) = x1 := sg_eq.mp (Decidable.not_not.mp q)
      replace w := w.2 q
      show wpv K_X4_indexOf d P 24 [some (4, (p0 : Int)), some (2, x1), none, some (2, x3), none, some (0, x5)] [] G R V
      refine wp_ld (i := (.aload_n 0)) (4, (p0 : Int)) rfl rfl (fun _ => rfl) rfl rfl (?_ : wpv K_X4_indexOf d P 25 [some (4, (p0 : Int)), some (2, x1), none, some (2, x3), none, some (0, x5)] [(4, (p0 : Int))] G R V)
      refine wp_getA (k := 3) rfl rfl rfl (ly4_o l0) rfl rfl (ly4_3 l0).1 (?_ : wpv K_X4_indexOf d P 28 [some (4, (p0 : Int)), some (2, x1), none, some (2, x3), none, some (0, x5)] [(4, ((p0 + 2 : Nat) : Int))] G R V)
      refine wp_ld (i := (.iload 5)) (0, x5) rfl rfl (fun _ => rfl) rfl rfl (?_ : wpv K_X4_indexOf d P 30 [some (4, (p0 : Int)), some (2, x1), none, some (2, x3), none, some (0, x5)] [(0, x5), (4, ((p0 + 2 : Nat) : Int))] G R V)
      have f8 : i64 (V (p0 + 2) x5) := vr_a1 vr1 (ly4_3 l0).2 s4
      replace w := w f8
      refine wp_aJ rfl rfl (ly4_3 l0).2 s4 (?_ : wpv K_X4_indexOf d P 31 [some (4, (p0 : Int)), some (2, x1), none, some (2, x3), none, some (0, x5)] [(2, (V (p0 + 2) x5))] G R V)
      refine wp_ld (i := (.lload_n 3)) (2, x3) rfl rfl (fun _ => rfl) rfl rfl (?_ : wpv K_X4_indexOf d P 32 [some (4, (p0 : Int)), some (2, x1), none, some (2, x3), none, some (0, x5)] [(2, x3), (2, (V (p0 + 2) x5))] G R V)
      obtain ⟨s9, w⟩ := w
      refine wp_lcmp rfl rfl f8 s9 (?_ : wpv K_X4_indexOf d P 33 [some (4, (p0 : Int)), some (2, x1), none, some (2, x3), none, some (0, x5)] [(0, sg ((V (p0 + 2) x5)) x3)] G R V)
      refine wp_if (c := .ne) 39 rfl rfl rfl (sg32 _ _) (fun q => ?_) (fun q => ?_)
      · have q : ¬ (V (p0 + 2) x5) = x3 := fun z => q (sg_eq.mpr z)
        replace w := w.1 q
        show wpv K_X4_indexOf d P 39 [some (4, (p0 : Int)), some (2, x1), none, some (2, x3), none, some (0, x5)] [] G R V
        obtain ⟨s10, w⟩ := w
        refine wp_inc (x := 5) (k := 1) (a := x5) (c := (x5 + 1)) _ rfl rfl rfl rfl s10 (by omega) rfl ?_
        show wpv K_X4_indexOf d P 42 [some (4, (p0 : Int)), some (2, x1), none, some (2, x3), none, some (0, (x5 + 1))] [] G R V
        refine wp_go 3 rfl rfl rfl (?_ : wpv K_X4_indexOf d P 3 [some (4, (p0 : Int)), some (2, x1), none, some (2, x3), none, some (0, (x5 + 1))] [] G R V)
        exact wp_wk (wk_s (wk_s (wk_n (wk_s (wk_n (wk_s wk_0)))))) w
      · have q : (V (p0 + 2) x5) = x3 := sg_eq.mp (Decidable.not_not.mp q)
        replace w := w.2 q
        show wpv K_X4_indexOf d P 36 [some (4, (p0 : Int)), some (2, x1), none, some (2, x3), none, some (0, x5)] [] G R V
        refine wp_ld (i := (.iload 5)) (0, x5) rfl rfl (fun _ => rfl) rfl rfl (?_ : wpv K_X4_indexOf d P 38 [some (4, (p0 : Int)), some (2, x1), none, some (2, x3), none, some (0, x5)] [(0, x5)] G R V)
        exact wp_rI rfl rfl rfl w
theorem t_X4_leastOver_0 {d : Nat} {P : gP} {p0 : Nat} {x1 : Int} {x3 : Int} {G : List gS} {R V : gV} (l0 : lay4 G R p0) (w : ((i32 (V p0 0)) → ((i32 ((V p0 0) - 1)) ∧ wpv K_X4_leastOver d P 11 [some (4, (p0 : Int)), some (2, x1), none, some (2, x3), none, some (0, ((V p0 0) - 1)), some (0, 0)] [] G R V))) : wpv K_X4_leastOver d P 0 [some (4, (p0 : Int)), some (2, x1), none, some (2, x3)] [] G R V := by
  refine wp_ld (i := (.aload_n 0)) (4, (p0 : Int)) rfl rfl (fun _ => rfl) rfl rfl (?_ : wpv K_X4_leastOver d P 1 [some (4, (p0 : Int)), some (2, x1), none, some (2, x3)] [(4, (p0 : Int))] G R V)
  refine wp_rng (fun vr1 => ?_)
  have f2 : i32 (V p0 0) := vr_f0 vr1 (ly4_o l0) rfl rfl
  replace w := w f2
  refine wp_getI (k := 0) rfl rfl rfl (ly4_o l0) rfl rfl (?_ : wpv K_X4_leastOver d P 4 [some (4, (p0 : Int)), some (2, x1), none, some (2, x3)] [(0, (V p0 0))] G R V)
  refine wp_p (i := (.iconst 1)) rfl rfl (fun _ _ _ => rfl) (?_ : wpv K_X4_leastOver d P 5 [some (4, (p0 : Int)), some (2, x1), none, some (2, x3)] [(0, 1), (0, (V p0 0))] G R V)
  obtain ⟨s3, w⟩ := w
  refine wp_xsub rfl rfl s3 (?_ : wpv K_X4_leastOver d P 6 [some (4, (p0 : Int)), some (2, x1), none, some (2, x3)] [(0, ((V p0 0) - 1))] G R V)
  refine wp_sto (i := (.istore 5)) _ rfl rfl (fun _ => rfl) rfl rfl rfl ?_
  refine wp_wk (L' := [some (4, (p0 : Int)), some (2, x1), none, some (2, x3), none, some (0, ((V p0 0) - 1))]) (wk_s (wk_s (wk_n (wk_s (wk_n (wk_s wk_0)))))) ?_
  show wpv K_X4_leastOver d P 8 [some (4, (p0 : Int)), some (2, x1), none, some (2, x3), none, some (0, ((V p0 0) - 1))] [] G R V
  refine wp_p (i := (.iconst 0)) rfl rfl (fun _ _ _ => rfl) (?_ : wpv K_X4_leastOver d P 9 [some (4, (p0 : Int)), some (2, x1), none, some (2, x3), none, some (0, ((V p0 0) - 1))] [(0, 0)] G R V)
  refine wp_sto (i := (.istore 6)) _ rfl rfl (fun _ => rfl) rfl rfl rfl ?_
  refine wp_wk (L' := [some (4, (p0 : Int)), some (2, x1), none, some (2, x3), none, some (0, ((V p0 0) - 1)), some (0, 0)]) (wk_s (wk_s (wk_n (wk_s (wk_n (wk_s (wk_s wk_0))))))) ?_
  show wpv K_X4_leastOver d P 11 [some (4, (p0 : Int)), some (2, x1), none, some (2, x3), none, some (0, ((V p0 0) - 1)), some (0, 0)] [] G R V
  exact wp_wk (wk_s (wk_s (wk_n (wk_s (wk_n (wk_s (wk_s wk_0))))))) w

theorem t_X4_leastOver_11 {d : Nat} {P : gP} {p0 : Nat} {x1 : Int} {x3 : Int} {x5 : Int} {x6 : Int} {G : List gS} {R V : gV} (l0 : lay4 G R p0) (w : ((i32 x6) ∧ ((i32 x5) ∧ (((¬ x6 < x5) → P (some (0, x5)) V) ∧ ((x6 < x5) → ((0 ≤ x6 ∧ x6 < 300) ∧ ((i64 (V (p0 + 1) x6)) → (((¬ (jand x1 ((jxor ((V (p0 + 1) x6)) ((-1))))) = 0) → ((i32 (x6 + 1)) ∧ wpv K_X4_leastOver d P 11 [some (4, (p0 : Int)), some (2, x1), none, some (2, x3), none, some (0, x5), some (0, (x6 + 1))] [] G R V)) ∧ (((jand x1 ((jxor ((V (p0 + 1) x6)) ((-1))))) = 0) → ((i64 (V (p0 + 2) x6)) → (((¬ (jand x3 ((jxor ((V (p0 + 2) x6)) ((-1))))) = 0) → ((i32 (x6 + 1)) ∧ wpv K_X4_leastOver d P 11 [some (4, (p0 : Int)), some (2, x1), none, some (2, x3), none, some (0, x5), some (0, (x6 + 1))] [] G R V)) ∧ (((jand x3 ((jxor ((V (p0 + 2) x6)) ((-1))))) = 0) → P (some (0, x6)) V)))))))))))) : wpv K_X4_leastOver d P 11 [some (4, (p0 : Int)), some (2, x1), none, some (2, x3), none, some (0, x5), some (0, x6)] [] G R V := by
  refine wp_ld (i := (.iload 6)) (0, x6) rfl rfl (fun _ => rfl) rfl rfl (?_ : wpv K_X4_leastOver d P 13 [some (4, (p0 : Int)), some (2, x1), none, some (2, x3), none, some (0, x5), some (0, x6)] [(0, x6)] G R V)
  refine wp_ld (i := (.iload 5)) (0, x5) rfl rfl (fun _ => rfl) rfl rfl (?_ : wpv K_X4_leastOver d P 15 [some (4, (p0 : Int)), some (2, x1), none, some (2, x3), none, some (0, x5), some (0, x6)] [(0, x5), (0, x6)] G R V)
  obtain ⟨s1, w⟩ := w
  obtain ⟨s2, w⟩ := w
  refine wp_icmp (c := .ge) 63 rfl rfl rfl s1 s2 (fun q => ?_) (fun q => ?_)
  · have q : ¬ x6 < x5 := q
    replace w := w.1 q
    show wpv K_X4_leastOver d P 63 [some (4, (p0 : Int)), some (2, x1), none, some (2, x3), none, some (0, x5), some (0, x6)] [] G R V
    refine wp_ld (i := (.iload 5)) (0, x5) rfl rfl (fun _ => rfl) rfl rfl (?_ : wpv K_X4_leastOver d P 65 [some (4, (p0 : Int)), some (2, x1), none, some (2, x3), none, some (0, x5), some (0, x6)] [(0, x5)] G R V)
    exact wp_rI rfl rfl rfl w
  · have q : x6 < x5 := Decidable.not_not.mp q
    replace w := w.2 q
    show wpv K_X4_leastOver d P 18 [some (4, (p0 : Int)), some (2, x1), none, some (2, x3), none, some (0, x5), some (0, x6)] [] G R V
    refine wp_ld (i := (.lload_n 1)) (2, x1) rfl rfl (fun _ => rfl) rfl rfl (?_ : wpv K_X4_leastOver d P 19 [some (4, (p0 : Int)), some (2, x1), none, some (2, x3), none, some (0, x5), some (0, x6)] [(2, x1)] G R V)
    refine wp_ld (i := (.aload_n 0)) (4, (p0 : Int)) rfl rfl (fun _ => rfl) rfl rfl (?_ : wpv K_X4_leastOver d P 20 [some (4, (p0 : Int)), some (2, x1), none, some (2, x3), none, some (0, x5), some (0, x6)] [(4, (p0 : Int)), (2, x1)] G R V)
    refine wp_getA (k := 2) rfl rfl rfl (ly4_o l0) rfl rfl (ly4_2 l0).1 (?_ : wpv K_X4_leastOver d P 23 [some (4, (p0 : Int)), some (2, x1), none, some (2, x3), none, some (0, x5), some (0, x6)] [(4, ((p0 + 1 : Nat) : Int)), (2, x1)] G R V)
    refine wp_ld (i := (.iload 6)) (0, x6) rfl rfl (fun _ => rfl) rfl rfl (?_ : wpv K_X4_leastOver d P 25 [some (4, (p0 : Int)), some (2, x1), none, some (2, x3), none, some (0, x5), some (0, x6)] [(0, x6), (4, ((p0 + 1 : Nat) : Int)), (2, x1)] G R V)
    obtain ⟨s3, w⟩ := w
    refine wp_rng (fun vr4 => ?_)
    have f5 : i64 (V (p0 + 1) x6) := vr_a1 vr4 (ly4_2 l0).2 s3
    replace w := w f5
    refine wp_aJ rfl rfl (ly4_2 l0).2 s3 (?_ : wpv K_X4_leastOver d P 26 [some (4, (p0 : Int)), some (2, x1), none, some (2, x3), none, some (0, x5), some (0, x6)] [(2, (V (p0 + 1) x6)), (2, x1)] G R V)
    refine wp_p (i := (.ldc2_w 60)) rfl rfl (fun _ _ _ => rfl) (?_ : wpv K_X4_leastOver d P 29 [some (4, (p0 : Int)), some (2, x1), none, some (2, x3), none, some (0, x5), some (0, x6)] [(2, (-1)), (2, (V (p0 + 1) x6)), (2, x1)] G R V)
    refine wp_jxor rfl rfl (?_ : wpv K_X4_leastOver d P 30 [some (4, (p0 : Int)), some (2, x1), none, some (2, x3), none, some (0, x5), some (0, x6)] [(2, (jxor ((V (p0 + 1) x6)) ((-1)))), (2, x1)] G R V)
    refine wp_jand rfl rfl (?_ : wpv K_X4_leastOver d P 31 [some (4, (p0 : Int)), some (2, x1), none, some (2, x3), none, some (0, x5), some (0, x6)] [(2, (jand x1 ((jxor ((V (p0 + 1) x6)) ((-1))))))] G R V)
    refine wp_p (i := (.lconst 0)) rfl rfl (fun _ _ _ => rfl) (?_ : wpv K_X4_leastOver d P 32 [some (4, (p0 : Int)), some (2, x1), none, some (2, x3), none, some (0, x5), some (0, x6)] [(2, 0), (2, (jand x1 ((jxor ((V (p0 + 1) x6)) ((-1))))))] G R V)
    refine wp_lcmp rfl rfl (t64 _) ⟨by omega, by omega⟩ (?_ : wpv K_X4_leastOver d P 33 [some (4, (p0 : Int)), some (2, x1), none, some (2, x3), none, some (0, x5), some (0, x6)] [(0, sg ((jand x1 ((jxor ((V (p0 + 1) x6)) ((-1)))))) 0)] G R V)
    refine wp_if (c := .ne) 57 rfl rfl rfl (sg32 _ _) (fun q => ?_) (fun q => ?_)
    · have q : ¬ (jand x1 ((jxor ((V (p0 + 1) x6)) ((-1))))) = 0 := fun z => q (sg_eq.mpr z)
      replace w := w.1 q
      show wpv K_X4_leastOver d P 57 [some (4, (p0 : Int)), some (2, x1), none, some (2, x3), none, some (0, x5), some (0, x6)] [] G R V
      obtain ⟨s6, w⟩ := w
      refine wp_inc (x := 6) (k := 1) (a := x6) (c := (x6 + 1)) _ rfl rfl rfl rfl s6 (by omega) rfl ?_
      show wpv K_X4_leastOver d P 60 [some (4, (p0 : Int)), some (2, x1), none, some (2, x3), none, some (0, x5), some (0, (x6 + 1))] [] G R V
      refine wp_go 11 rfl rfl rfl (?_ : wpv K_X4_leastOver d P 11 [some (4, (p0 : Int)), some (2, x1), none, some (2, x3), none, some (0, x5), some (0, (x6 + 1))] [] G R V)
      exact wp_wk (wk_s (wk_s (wk_n (wk_s (wk_n (wk_s (wk_s wk_0))))))) w
    · have q : (jand x1 ((jxor ((V (p0 + 1) x6)) ((-1))))) = 0 := sg_eq.mp (Decidable.not_not.mp q)
      replace w := w.2 q
      show wpv K_X4_leastOver d P 36 [some (4, (p0 : Int)), some (2, x1), none, some (2, x3), none, some (0, x5), some (0, x6)] [] G R V
      refine wp_ld (i := (.lload_n 3)) (2, x3) rfl rfl (fun _ => rfl) rfl rfl (?_ : wpv K_X4_leastOver d P 37 [some (4, (p0 : Int)), some (2, x1), none, some (2, x3), none, some (0, x5), some (0, x6)] [(2, x3)] G R V)
      refine wp_ld (i := (.aload_n 0)) (4, (p0 : Int)) rfl rfl (fun _ => rfl) rfl rfl (?_ : wpv K_X4_leastOver d P 38 [some (4, (p0 : Int)), some (2, x1), none, some (2, x3), none, some (0, x5), some (0, x6)] [(4, (p0 : Int)), (2, x3)] G R V)
      refine wp_getA (k := 3) rfl rfl rfl (ly4_o l0) rfl rfl (ly4_3 l0).1 (?_ : wpv K_X4_leastOver d P 41 [some (4, (p0 : Int)), some (2, x1), none, some (2, x3), none, some (0, x5), some (0, x6)] [(4, ((p0 + 2 : Nat) : Int)), (2, x3)] G R V)
      refine wp_ld (i := (.iload 6)) (0, x6) rfl rfl (fun _ => rfl) rfl rfl (?_ : wpv K_X4_leastOver d P 43 [some (4, (p0 : Int)), some (2, x1), none, some (2, x3), none, some (0, x5), some (0, x6)] [(0, x6), (4, ((p0 + 2 : Nat) : Int)), (2, x3)] G R V)
      have f7 : i64 (V (p0 + 2) x6) := vr_a1 vr4 (ly4_3 l0).2 s3
      replace w := w f7
      refine wp_aJ rfl rfl (ly4_3 l0).2 s3 (?_ : wpv K_X4_leastOver d P 44 [some (4, (p0 : Int)), some (2, x1), none, some (2, x3), none, some (0, x5), some (0, x6)] [(2, (V (p0 + 2) x6)), (2, x3)] G R V)
      refine wp_p (i := (.ldc2_w 60)) rfl rfl (fun _ _ _ => rfl) (?_ : wpv K_X4_leastOver d P 47 [some (4, (p0 : Int)), some (2, x1), none, some (2, x3), none, some (0, x5), some (0, x6)] [(2, (-1)), (2, (V (p0 + 2) x6)), (2, x3)] G R V)
      refine wp_jxor rfl rfl (?_ : wpv K_X4_leastOver d P 48 [some (4, (p0 : Int)), some (2, x1), none, some (2, x3), none, some (0, x5), some (0, x6)] [(2, (jxor ((V (p0 + 2) x6)) ((-1)))), (2, x3)] G R V)
      refine wp_jand rfl rfl (?_ : wpv K_X4_leastOver d P 49 [some (4, (p0 : Int)), some (2, x1), none, some (2, x3), none, some (0, x5), some (0, x6)] [(2, (jand x3 ((jxor ((V (p0 + 2) x6)) ((-1))))))] G R V)
      refine wp_p (i := (.lconst 0)) rfl rfl (fun _ _ _ => rfl) (?_ : wpv K_X4_leastOver d P 50 [some (4, (p0 : Int)), some (2, x1), none, some (2, x3), none, some (0, x5), some (0, x6)] [(2, 0), (2, (jand x3 ((jxor ((V (p0 + 2) x6)) ((-1))))))] G R V)
      refine wp_lcmp rfl rfl (t64 _) ⟨by omega, by omega⟩ (?_ : wpv K_X4_leastOver d P 51 [some (4, (p0 : Int)), some (2, x1), none, some (2, x3), none, some (0, x5), some (0, x6)] [(0, sg ((jand x3 ((jxor ((V (p0 + 2) x6)) ((-1)))))) 0)] G R V)
      refine wp_if (c := .ne) 57 rfl rfl rfl (sg32 _ _) (fun q => ?_) (fun q => ?_)
      · have q : ¬ (jand x3 ((jxor ((V (p0 + 2) x6)) ((-1))))) = 0 := fun z => q (sg_eq.mpr z)
        replace w := w.1 q
        show wpv K_X4_leastOver d P 57 [some (4, (p0 : Int)), some (2, x1), none, some (2, x3), none, some (0, x5), some (0, x6)] [] G R V
        obtain ⟨s8, w⟩ := w
        refine wp_inc (x := 6) (k := 1) (a := x6) (c := (x6 + 1)) _ rfl rfl rfl rfl s8 (by omega) rfl ?_
        show wpv K_X4_leastOver d P 60 [some (4, (p0 : Int)), some (2, x1), none, some (2, x3), none, some (0, x5), some (0, (x6 + 1))] [] G R V
        refine wp_go 11 rfl rfl rfl (?_ : wpv K_X4_leastOver d P 11 [some (4, (p0 : Int)), some (2, x1), none, some (2, x3), none, some (0, x5), some (0, (x6 + 1))] [] G R V)
        exact wp_wk (wk_s (wk_s (wk_n (wk_s (wk_n (wk_s (wk_s wk_0))))))) w
      · have q : (jand x3 ((jxor ((V (p0 + 2) x6)) ((-1))))) = 0 := sg_eq.mp (Decidable.not_not.mp q)
        replace w := w.2 q
        show wpv K_X4_leastOver d P 54 [some (4, (p0 : Int)), some (2, x1), none, some (2, x3), none, some (0, x5), some (0, x6)] [] G R V
        refine wp_ld (i := (.iload 6)) (0, x6) rfl rfl (fun _ => rfl) rfl rfl (?_ : wpv K_X4_leastOver d P 56 [some (4, (p0 : Int)), some (2, x1), none, some (2, x3), none, some (0, x5), some (0, x6)] [(0, x6)] G R V)
        exact wp_rI rfl rfl rfl w
theorem t_X4_normalWithin_0 {d : Nat} {P : gP} {p0 : Nat} {x1 : Int} {G : List gS} {R V : gV} (l0 : lay4 G R p0) (w : wpv K_X4_normalWithin d P 2 [some (4, (p0 : Int)), some (0, x1), some (0, x1)] [] G R V) : wpv K_X4_normalWithin d P 0 [some (4, (p0 : Int)), some (0, x1)] [] G R V := by
  refine wp_ld (i := (.iload_n 1)) (0, x1) rfl rfl (fun _ => rfl) rfl rfl (?_ : wpv K_X4_normalWithin d P 1 [some (4, (p0 : Int)), some (0, x1)] [(0, x1)] G R V)
  refine wp_sto (i := (.istore_n 2)) _ rfl rfl (fun _ => rfl) rfl rfl rfl ?_
  refine wp_wk (L' := [some (4, (p0 : Int)), some (0, x1), some (0, x1)]) (wk_s (wk_s (wk_s wk_0))) ?_
  show wpv K_X4_normalWithin d P 2 [some (4, (p0 : Int)), some (0, x1), some (0, x1)] [] G R V
  exact wp_wk (wk_s (wk_s (wk_s wk_0))) w

theorem t_X4_normalWithin_2 {d : Nat} {P : gP} {p0 : Nat} {x1 : Int} {x2 : Int} {G : List gS} {R V : gV} (l0 : lay4 G R p0) (w : ((i32 x2) ∧ (((¬ 0 < x2) → P (some (0, 0)) V) ∧ ((0 < x2) → cwv d (fun r V2 => ∃ v3 : Int, r = some (0, v3) ∧ ((i32 v3) ∧ (((v3 = 0) → ((i32 (x2 - 1)) ∧ wpv K_X4_normalWithin d P 2 [some (4, (p0 : Int)), some (0, x1), some (0, (x2 - 1))] [] G R V2)) ∧ ((¬ v3 = 0) → cwv d (fun r V6 => ∃ v7 : Int, r = some (0, v7) ∧ ((i32 v7) ∧ (((v7 = 0) → ((i32 (x2 - 1)) ∧ wpv K_X4_normalWithin d P 2 [some (4, (p0 : Int)), some (0, x1), some (0, (x2 - 1))] [] G R V6)) ∧ ((¬ v7 = 0) → P (some (0, x2)) V6)))) 61 [(4, (p0 : Int)), (0, x2), (0, x1)] G R V2)))) 58 [(4, (p0 : Int)), (0, x2)] G R V)))) : wpv K_X4_normalWithin d P 2 [some (4, (p0 : Int)), some (0, x1), some (0, x2)] [] G R V := by
  refine wp_ld (i := (.iload_n 2)) (0, x2) rfl rfl (fun _ => rfl) rfl rfl (?_ : wpv K_X4_normalWithin d P 3 [some (4, (p0 : Int)), some (0, x1), some (0, x2)] [(0, x2)] G R V)
  obtain ⟨s1, w⟩ := w
  refine wp_if (c := .le) 31 rfl rfl rfl s1 (fun q => ?_) (fun q => ?_)
  · have q : ¬ 0 < x2 := q
    replace w := w.1 q
    show wpv K_X4_normalWithin d P 31 [some (4, (p0 : Int)), some (0, x1), some (0, x2)] [] G R V
    refine wp_p (i := (.iconst 0)) rfl rfl (fun _ _ _ => rfl) (?_ : wpv K_X4_normalWithin d P 32 [some (4, (p0 : Int)), some (0, x1), some (0, x2)] [(0, 0)] G R V)
    exact wp_rI rfl rfl rfl w
  · have q : 0 < x2 := Decidable.not_not.mp q
    replace w := w.2 q
    show wpv K_X4_normalWithin d P 6 [some (4, (p0 : Int)), some (0, x1), some (0, x2)] [] G R V
    refine wp_ld (i := (.aload_n 0)) (4, (p0 : Int)) rfl rfl (fun _ => rfl) rfl rfl (?_ : wpv K_X4_normalWithin d P 7 [some (4, (p0 : Int)), some (0, x1), some (0, x2)] [(4, (p0 : Int))] G R V)
    refine wp_ld (i := (.iload_n 2)) (0, x2) rfl rfl (fun _ => rfl) rfl rfl (?_ : wpv K_X4_normalWithin d P 8 [some (4, (p0 : Int)), some (0, x1), some (0, x2)] [(0, x2), (4, (p0 : Int))] G R V)
    refine wp_virt (as := [(0, x2)]) (a := p0) (st := []) _ rfl rfl rfl rfl rfl rfl (ly4_o l0) (Nat.le_of_ble_eq_true rfl) (cwv_kI w (fun v3 V2 w => ?_))
    show wpv K_X4_normalWithin d P 11 [some (4, (p0 : Int)), some (0, x1), some (0, x2)] [(0, v3)] G R V2
    obtain ⟨s4, w⟩ := w
    refine wp_if (c := .eq) 25 rfl rfl rfl s4 (fun q => ?_) (fun q => ?_)
    · have q : v3 = 0 := q
      replace w := w.1 q
      show wpv K_X4_normalWithin d P 25 [some (4, (p0 : Int)), some (0, x1), some (0, x2)] [] G R V2
      obtain ⟨s5, w⟩ := w
      refine wp_inc (x := 2) (k := -1) (a := x2) (c := (x2 - 1)) _ rfl rfl rfl rfl (by have := s5; unfold i32 at *; omega) (by omega) rfl ?_
      show wpv K_X4_normalWithin d P 28 [some (4, (p0 : Int)), some (0, x1), some (0, (x2 - 1))] [] G R V2
      refine wp_go 2 rfl rfl rfl (?_ : wpv K_X4_normalWithin d P 2 [some (4, (p0 : Int)), some (0, x1), some (0, (x2 - 1))] [] G R V2)
      exact wp_wk (wk_s (wk_s (wk_s wk_0))) w
    · have q : ¬ v3 = 0 := q
      replace w := w.2 q
      show wpv K_X4_normalWithin d P 14 [some (4, (p0 : Int)), some (0, x1), some (0, x2)] [] G R V2
      refine wp_ld (i := (.aload_n 0)) (4, (p0 : Int)) rfl rfl (fun _ => rfl) rfl rfl (?_ : wpv K_X4_normalWithin d P 15 [some (4, (p0 : Int)), some (0, x1), some (0, x2)] [(4, (p0 : Int))] G R V2)
      refine wp_ld (i := (.iload_n 2)) (0, x2) rfl rfl (fun _ => rfl) rfl rfl (?_ : wpv K_X4_normalWithin d P 16 [some (4, (p0 : Int)), some (0, x1), some (0, x2)] [(0, x2), (4, (p0 : Int))] G R V2)
      refine wp_ld (i := (.iload_n 1)) (0, x1) rfl rfl (fun _ => rfl) rfl rfl (?_ : wpv K_X4_normalWithin d P 17 [some (4, (p0 : Int)), some (0, x1), some (0, x2)] [(0, x1), (0, x2), (4, (p0 : Int))] G R V2)
      refine wp_virt (as := [(0, x2), (0, x1)]) (a := p0) (st := []) _ rfl rfl rfl rfl rfl rfl (ly4_o l0) (Nat.le_of_ble_eq_true rfl) (cwv_kI w (fun v7 V6 w => ?_))
      show wpv K_X4_normalWithin d P 20 [some (4, (p0 : Int)), some (0, x1), some (0, x2)] [(0, v7)] G R V6
      obtain ⟨s8, w⟩ := w
      refine wp_if (c := .eq) 25 rfl rfl rfl s8 (fun q => ?_) (fun q => ?_)
      · have q : v7 = 0 := q
        replace w := w.1 q
        show wpv K_X4_normalWithin d P 25 [some (4, (p0 : Int)), some (0, x1), some (0, x2)] [] G R V6
        obtain ⟨s9, w⟩ := w
        refine wp_inc (x := 2) (k := -1) (a := x2) (c := (x2 - 1)) _ rfl rfl rfl rfl (by have := s9; unfold i32 at *; omega) (by omega) rfl ?_
        show wpv K_X4_normalWithin d P 28 [some (4, (p0 : Int)), some (0, x1), some (0, (x2 - 1))] [] G R V6
        refine wp_go 2 rfl rfl rfl (?_ : wpv K_X4_normalWithin d P 2 [some (4, (p0 : Int)), some (0, x1), some (0, (x2 - 1))] [] G R V6)
        exact wp_wk (wk_s (wk_s (wk_s wk_0))) w
      · have q : ¬ v7 = 0 := q
        replace w := w.2 q
        show wpv K_X4_normalWithin d P 23 [some (4, (p0 : Int)), some (0, x1), some (0, x2)] [] G R V6
        refine wp_ld (i := (.iload_n 2)) (0, x2) rfl rfl (fun _ => rfl) rfl rfl (?_ : wpv K_X4_normalWithin d P 24 [some (4, (p0 : Int)), some (0, x1), some (0, x2)] [(0, x2)] G R V6)
        exact wp_rI rfl rfl rfl w
theorem t_X4_countWithin_0 {d : Nat} {P : gP} {p0 : Nat} {x1 : Int} {G : List gS} {R V : gV} (l0 : lay4 G R p0) (w : wpv K_X4_countWithin d P 4 [some (4, (p0 : Int)), some (0, x1), some (0, 0), some (0, 0)] [] G R V) : wpv K_X4_countWithin d P 0 [some (4, (p0 : Int)), some (0, x1)] [] G R V := by
  refine wp_p (i := (.iconst 0)) rfl rfl (fun _ _ _ => rfl) (?_ : wpv K_X4_countWithin d P 1 [some (4, (p0 : Int)), some (0, x1)] [(0, 0)] G R V)
  refine wp_sto (i := (.istore_n 2)) _ rfl rfl (fun _ => rfl) rfl rfl rfl ?_
  refine wp_wk (L' := [some (4, (p0 : Int)), some (0, x1), some (0, 0)]) (wk_s (wk_s (wk_s wk_0))) ?_
  show wpv K_X4_countWithin d P 2 [some (4, (p0 : Int)), some (0, x1), some (0, 0)] [] G R V
  refine wp_p (i := (.iconst 0)) rfl rfl (fun _ _ _ => rfl) (?_ : wpv K_X4_countWithin d P 3 [some (4, (p0 : Int)), some (0, x1), some (0, 0)] [(0, 0)] G R V)
  refine wp_sto (i := (.istore_n 3)) _ rfl rfl (fun _ => rfl) rfl rfl rfl ?_
  refine wp_wk (L' := [some (4, (p0 : Int)), some (0, x1), some (0, 0), some (0, 0)]) (wk_s (wk_s (wk_s (wk_s wk_0)))) ?_
  show wpv K_X4_countWithin d P 4 [some (4, (p0 : Int)), some (0, x1), some (0, 0), some (0, 0)] [] G R V
  exact wp_wk (wk_s (wk_s (wk_s (wk_s wk_0)))) w

theorem t_X4_countWithin_4 {d : Nat} {P : gP} {p0 : Nat} {x1 : Int} {x2 : Int} {x3 : Int} {G : List gS} {R V : gV} (l0 : lay4 G R p0) (w : ((i32 x3) ∧ ((i32 x1) ∧ (((x1 < x3) → P (some (0, x2)) V) ∧ ((¬ x1 < x3) → cwv d (fun r V3 => ∃ v4 : Int, r = some (0, v4) ∧ ((i32 v4) ∧ (((v4 = 0) → ((i32 (x3 + 1)) ∧ wpv K_X4_countWithin d P 4 [some (4, (p0 : Int)), some (0, x1), some (0, x2), some (0, (x3 + 1))] [] G R V3)) ∧ ((¬ v4 = 0) → ((i32 (x2 + 1)) ∧ ((i32 (x3 + 1)) ∧ wpv K_X4_countWithin d P 4 [some (4, (p0 : Int)), some (0, x1), some (0, (x2 + 1)), some (0, (x3 + 1))] [] G R V3)))))) 61 [(4, (p0 : Int)), (0, x3), (0, x1)] G R V))))) : wpv K_X4_countWithin d P 4 [some (4, (p0 : Int)), some (0, x1), some (0, x2), some (0, x3)] [] G R V := by
  refine wp_ld (i := (.iload_n 3)) (0, x3) rfl rfl (fun _ => rfl) rfl rfl (?_ : wpv K_X4_countWithin d P 5 [some (4, (p0 : Int)), some (0, x1), some (0, x2), some (0, x3)] [(0, x3)] G R V)
  refine wp_ld (i := (.iload_n 1)) (0, x1) rfl rfl (fun _ => rfl) rfl rfl (?_ : wpv K_X4_countWithin d P 6 [some (4, (p0 : Int)), some (0, x1), some (0, x2), some (0, x3)] [(0, x1), (0, x3)] G R V)
  obtain ⟨s1, w⟩ := w
  obtain ⟨s2, w⟩ := w
  refine wp_icmp (c := .gt) 27 rfl rfl rfl s1 s2 (fun q => ?_) (fun q => ?_)
  · have q : x1 < x3 := q
    replace w := w.1 q
    show wpv K_X4_countWithin d P 27 [some (4, (p0 : Int)), some (0, x1), some (0, x2), some (0, x3)] [] G R V
    refine wp_ld (i := (.iload_n 2)) (0, x2) rfl rfl (fun _ => rfl) rfl rfl (?_ : wpv K_X4_countWithin d P 28 [some (4, (p0 : Int)), some (0, x1), some (0, x2), some (0, x3)] [(0, x2)] G R V)
    exact wp_rI rfl rfl rfl w
  · have q : ¬ x1 < x3 := q
    replace w := w.2 q
    show wpv K_X4_countWithin d P 9 [some (4, (p0 : Int)), some (0, x1), some (0, x2), some (0, x3)] [] G R V
    refine wp_ld (i := (.aload_n 0)) (4, (p0 : Int)) rfl rfl (fun _ => rfl) rfl rfl (?_ : wpv K_X4_countWithin d P 10 [some (4, (p0 : Int)), some (0, x1), some (0, x2), some (0, x3)] [(4, (p0 : Int))] G R V)
    refine wp_ld (i := (.iload_n 3)) (0, x3) rfl rfl (fun _ => rfl) rfl rfl (?_ : wpv K_X4_countWithin d P 11 [some (4, (p0 : Int)), some (0, x1), some (0, x2), some (0, x3)] [(0, x3), (4, (p0 : Int))] G R V)
    refine wp_ld (i := (.iload_n 1)) (0, x1) rfl rfl (fun _ => rfl) rfl rfl (?_ : wpv K_X4_countWithin d P 12 [some (4, (p0 : Int)), some (0, x1), some (0, x2), some (0, x3)] [(0, x1), (0, x3), (4, (p0 : Int))] G R V)
    refine wp_virt (as := [(0, x3), (0, x1)]) (a := p0) (st := []) _ rfl rfl rfl rfl rfl rfl (ly4_o l0) (Nat.le_of_ble_eq_true rfl) (cwv_kI w (fun v4 V3 w => ?_))
    show wpv K_X4_countWithin d P 15 [some (4, (p0 : Int)), some (0, x1), some (0, x2), some (0, x3)] [(0, v4)] G R V3
    obtain ⟨s5, w⟩ := w
    refine wp_if (c := .eq) 21 rfl rfl rfl s5 (fun q => ?_) (fun q => ?_)
    · have q : v4 = 0 := q
      replace w := w.1 q
      show wpv K_X4_countWithin d P 21 [some (4, (p0 : Int)), some (0, x1), some (0, x2), some (0, x3)] [] G R V3
      obtain ⟨s6, w⟩ := w
      refine wp_inc (x := 3) (k := 1) (a := x3) (c := (x3 + 1)) _ rfl rfl rfl rfl s6 (by omega) rfl ?_
      show wpv K_X4_countWithin d P 24 [some (4, (p0 : Int)), some (0, x1), some (0, x2), some (0, (x3 + 1))] [] G R V3
      refine wp_go 4 rfl rfl rfl (?_ : wpv K_X4_countWithin d P 4 [some (4, (p0 : Int)), some (0, x1), some (0, x2), some (0, (x3 + 1))] [] G R V3)
      exact wp_wk (wk_s (wk_s (wk_s (wk_s wk_0)))) w
    · have q : ¬ v4 = 0 := q
      replace w := w.2 q
      show wpv K_X4_countWithin d P 18 [some (4, (p0 : Int)), some (0, x1), some (0, x2), some (0, x3)] [] G R V3
      obtain ⟨s7, w⟩ := w
      refine wp_inc (x := 2) (k := 1) (a := x2) (c := (x2 + 1)) _ rfl rfl rfl rfl s7 (by omega) rfl ?_
      show wpv K_X4_countWithin d P 21 [some (4, (p0 : Int)), some (0, x1), some (0, (x2 + 1)), some (0, x3)] [] G R V3
      obtain ⟨s8, w⟩ := w
      refine wp_inc (x := 3) (k := 1) (a := x3) (c := (x3 + 1)) _ rfl rfl rfl rfl s8 (by omega) rfl ?_
      show wpv K_X4_countWithin d P 24 [some (4, (p0 : Int)), some (0, x1), some (0, (x2 + 1)), some (0, (x3 + 1))] [] G R V3
      refine wp_go 4 rfl rfl rfl (?_ : wpv K_X4_countWithin d P 4 [some (4, (p0 : Int)), some (0, x1), some (0, (x2 + 1)), some (0, (x3 + 1))] [] G R V3)
      exact wp_wk (wk_s (wk_s (wk_s (wk_s wk_0)))) w
theorem t_X4_countOver_0 {d : Nat} {P : gP} {p0 : Nat} {x1 : Int} {G : List gS} {R V : gV} (l0 : lay4 G R p0) (w : wpv K_X4_countOver d P 4 [some (4, (p0 : Int)), some (0, x1), some (0, 0), some (0, x1)] [] G R V) : wpv K_X4_countOver d P 0 [some (4, (p0 : Int)), some (0, x1)] [] G R V := by
  refine wp_p (i := (.iconst 0)) rfl rfl (fun _ _ _ => rfl) (?_ : wpv K_X4_countOver d P 1 [some (4, (p0 : Int)), some (0, x1)] [(0, 0)] G R V)
  refine wp_sto (i := (.istore_n 2)) _ rfl rfl (fun _ => rfl) rfl rfl rfl ?_
  refine wp_wk (L' := [some (4, (p0 : Int)), some (0, x1), some (0, 0)]) (wk_s (wk_s (wk_s wk_0))) ?_
  show wpv K_X4_countOver d P 2 [some (4, (p0 : Int)), some (0, x1), some (0, 0)] [] G R V
  refine wp_ld (i := (.iload_n 1)) (0, x1) rfl rfl (fun _ => rfl) rfl rfl (?_ : wpv K_X4_countOver d P 3 [some (4, (p0 : Int)), some (0, x1), some (0, 0)] [(0, x1)] G R V)
  refine wp_sto (i := (.istore_n 3)) _ rfl rfl (fun _ => rfl) rfl rfl rfl ?_
  refine wp_wk (L' := [some (4, (p0 : Int)), some (0, x1), some (0, 0), some (0, x1)]) (wk_s (wk_s (wk_s (wk_s wk_0)))) ?_
  show wpv K_X4_countOver d P 4 [some (4, (p0 : Int)), some (0, x1), some (0, 0), some (0, x1)] [] G R V
  exact wp_wk (wk_s (wk_s (wk_s (wk_s wk_0)))) w

theorem t_X4_countOver_4 {d : Nat} {P : gP} {p0 : Nat} {x1 : Int} {x2 : Int} {x3 : Int} {G : List gS} {R V : gV} (l0 : lay4 G R p0) (w : ((i32 (V p0 0)) → ((i32 x3) ∧ (((¬ x3 < (V p0 0)) → P (some (0, x2)) V) ∧ ((x3 < (V p0 0)) → cwv d (fun r V4 => ∃ v5 : Int, r = some (0, v5) ∧ ((i32 v5) ∧ (((v5 = 0) → ((i32 (x3 + 1)) ∧ wpv K_X4_countOver d P 4 [some (4, (p0 : Int)), some (0, x1), some (0, x2), some (0, (x3 + 1))] [] G R V4)) ∧ ((¬ v5 = 0) → ((i32 (x2 + 1)) ∧ ((i32 (x3 + 1)) ∧ wpv K_X4_countOver d P 4 [some (4, (p0 : Int)), some (0, x1), some (0, (x2 + 1)), some (0, (x3 + 1))] [] G R V4)))))) 61 [(4, (p0 : Int)), (0, x1), (0, x3)] G R V))))) : wpv K_X4_countOver d P 4 [some (4, (p0 : Int)), some (0, x1), some (0, x2), some (0, x3)] [] G R V := by
  refine wp_ld (i := (.iload_n 3)) (0, x3) rfl rfl (fun _ => rfl) rfl rfl (?_ : wpv K_X4_countOver d P 5 [some (4, (p0 : Int)), some (0, x1), some (0, x2), some (0, x3)] [(0, x3)] G R V)
  refine wp_ld (i := (.aload_n 0)) (4, (p0 : Int)) rfl rfl (fun _ => rfl) rfl rfl (?_ : wpv K_X4_countOver d P 6 [some (4, (p0 : Int)), some (0, x1), some (0, x2), some (0, x3)] [(4, (p0 : Int)), (0, x3)] G R V)
  refine wp_rng (fun vr1 => ?_)
  have f2 : i32 (V p0 0) := vr_f0 vr1 (ly4_o l0) rfl rfl
  replace w := w f2
  refine wp_getI (k := 0) rfl rfl rfl (ly4_o l0) rfl rfl (?_ : wpv K_X4_countOver d P 9 [some (4, (p0 : Int)), some (0, x1), some (0, x2), some (0, x3)] [(0, (V p0 0)), (0, x3)] G R V)
  obtain ⟨s3, w⟩ := w
  refine wp_icmp (c := .ge) 30 rfl rfl rfl s3 f2 (fun q => ?_) (fun q => ?_)
  · have q : ¬ x3 < (V p0 0) := q
    replace w := w.1 q
    show wpv K_X4_countOver d P 30 [some (4, (p0 : Int)), some (0, x1), some (0, x2), some (0, x3)] [] G R V
    refine wp_ld (i := (.iload_n 2)) (0, x2) rfl rfl (fun _ => rfl) rfl rfl (?_ : wpv K_X4_countOver d P 31 [some (4, (p0 : Int)), some (0, x1), some (0, x2), some (0, x3)] [(0, x2)] G R V)
    exact wp_rI rfl rfl rfl w
  · have q : x3 < (V p0 0) := Decidable.not_not.mp q
    replace w := w.2 q
    show wpv K_X4_countOver d P 12 [some (4, (p0 : Int)), some (0, x1), some (0, x2), some (0, x3)] [] G R V
    refine wp_ld (i := (.aload_n 0)) (4, (p0 : Int)) rfl rfl (fun _ => rfl) rfl rfl (?_ : wpv K_X4_countOver d P 13 [some (4, (p0 : Int)), some (0, x1), some (0, x2), some (0, x3)] [(4, (p0 : Int))] G R V)
    refine wp_ld (i := (.iload_n 1)) (0, x1) rfl rfl (fun _ => rfl) rfl rfl (?_ : wpv K_X4_countOver d P 14 [some (4, (p0 : Int)), some (0, x1), some (0, x2), some (0, x3)] [(0, x1), (4, (p0 : Int))] G R V)
    refine wp_ld (i := (.iload_n 3)) (0, x3) rfl rfl (fun _ => rfl) rfl rfl (?_ : wpv K_X4_countOver d P 15 [some (4, (p0 : Int)), some (0, x1), some (0, x2), some (0, x3)] [(0, x3), (0, x1), (4, (p0 : Int))] G R V)
    refine wp_virt (as := [(0, x1), (0, x3)]) (a := p0) (st := []) _ rfl rfl rfl rfl rfl rfl (ly4_o l0) (Nat.le_of_ble_eq_true rfl) (cwv_kI w (fun v5 V4 w => ?_))
    show wpv K_X4_countOver d P 18 [some (4, (p0 : Int)), some (0, x1), some (0, x2), some (0, x3)] [(0, v5)] G R V4
    obtain ⟨s6, w⟩ := w
    refine wp_if (c := .eq) 24 rfl rfl rfl s6 (fun q => ?_) (fun q => ?_)
    · have q : v5 = 0 := q
      replace w := w.1 q
      show wpv K_X4_countOver d P 24 [some (4, (p0 : Int)), some (0, x1), some (0, x2), some (0, x3)] [] G R V4
      obtain ⟨s7, w⟩ := w
      refine wp_inc (x := 3) (k := 1) (a := x3) (c := (x3 + 1)) _ rfl rfl rfl rfl s7 (by omega) rfl ?_
      show wpv K_X4_countOver d P 27 [some (4, (p0 : Int)), some (0, x1), some (0, x2), some (0, (x3 + 1))] [] G R V4
      refine wp_go 4 rfl rfl rfl (?_ : wpv K_X4_countOver d P 4 [some (4, (p0 : Int)), some (0, x1), some (0, x2), some (0, (x3 + 1))] [] G R V4)
      exact wp_wk (wk_s (wk_s (wk_s (wk_s wk_0)))) w
    · have q : ¬ v5 = 0 := q
      replace w := w.2 q
      show wpv K_X4_countOver d P 21 [some (4, (p0 : Int)), some (0, x1), some (0, x2), some (0, x3)] [] G R V4
      obtain ⟨s8, w⟩ := w
      refine wp_inc (x := 2) (k := 1) (a := x2) (c := (x2 + 1)) _ rfl rfl rfl rfl s8 (by omega) rfl ?_
      show wpv K_X4_countOver d P 24 [some (4, (p0 : Int)), some (0, x1), some (0, (x2 + 1)), some (0, x3)] [] G R V4
      obtain ⟨s9, w⟩ := w
      refine wp_inc (x := 3) (k := 1) (a := x3) (c := (x3 + 1)) _ rfl rfl rfl rfl s9 (by omega) rfl ?_
      show wpv K_X4_countOver d P 27 [some (4, (p0 : Int)), some (0, x1), some (0, (x2 + 1)), some (0, (x3 + 1))] [] G R V4
      refine wp_go 4 rfl rfl rfl (?_ : wpv K_X4_countOver d P 4 [some (4, (p0 : Int)), some (0, x1), some (0, (x2 + 1)), some (0, (x3 + 1))] [] G R V4)
      exact wp_wk (wk_s (wk_s (wk_s (wk_s wk_0)))) w
theorem t_X4_countNormal_0 {d : Nat} {P : gP} {p0 : Nat} {G : List gS} {R V : gV} (l0 : lay4 G R p0) (w : wpv K_X4_countNormal d P 4 [some (4, (p0 : Int)), some (0, 0), some (0, 0)] [] G R V) : wpv K_X4_countNormal d P 0 [some (4, (p0 : Int))] [] G R V := by
  refine wp_p (i := (.iconst 0)) rfl rfl (fun _ _ _ => rfl) (?_ : wpv K_X4_countNormal d P 1 [some (4, (p0 : Int))] [(0, 0)] G R V)
  refine wp_sto (i := (.istore_n 1)) _ rfl rfl (fun _ => rfl) rfl rfl rfl ?_
  refine wp_wk (L' := [some (4, (p0 : Int)), some (0, 0)]) (wk_s (wk_s wk_0)) ?_
  show wpv K_X4_countNormal d P 2 [some (4, (p0 : Int)), some (0, 0)] [] G R V
  refine wp_p (i := (.iconst 0)) rfl rfl (fun _ _ _ => rfl) (?_ : wpv K_X4_countNormal d P 3 [some (4, (p0 : Int)), some (0, 0)] [(0, 0)] G R V)
  refine wp_sto (i := (.istore_n 2)) _ rfl rfl (fun _ => rfl) rfl rfl rfl ?_
  refine wp_wk (L' := [some (4, (p0 : Int)), some (0, 0), some (0, 0)]) (wk_s (wk_s (wk_s wk_0))) ?_
  show wpv K_X4_countNormal d P 4 [some (4, (p0 : Int)), some (0, 0), some (0, 0)] [] G R V
  exact wp_wk (wk_s (wk_s (wk_s wk_0))) w

theorem t_X4_countNormal_4 {d : Nat} {P : gP} {p0 : Nat} {x1 : Int} {x2 : Int} {G : List gS} {R V : gV} (l0 : lay4 G R p0) (w : ((i32 (V p0 1)) → ((i32 x2) ∧ (((¬ x2 < (V p0 1)) → P (some (0, x1)) V) ∧ ((x2 < (V p0 1)) → ((0 ≤ x2 ∧ x2 < 300) ∧ ((i32 (V (p0 + 8) x2)) → (((¬ (V (p0 + 8) x2) = 1) → ((i32 (x2 + 1)) ∧ wpv K_X4_countNormal d P 4 [some (4, (p0 : Int)), some (0, x1), some (0, (x2 + 1))] [] G R V)) ∧ (((V (p0 + 8) x2) = 1) → ((i32 (x1 + 1)) ∧ ((i32 (x2 + 1)) ∧ wpv K_X4_countNormal d P 4 [some (4, (p0 : Int)), some (0, (x1 + 1)), some (0, (x2 + 1))] [] G R V))))))))))) : wpv K_X4_countNormal d P 4 [some (4, (p0 : Int)), some (0, x1), some (0, x2)] [] G R V := by
  refine wp_ld (i := (.iload_n 2)) (0, x2) rfl rfl (fun _ => rfl) rfl rfl (?_ : wpv K_X4_countNormal d P 5 [some (4, (p0 : Int)), some (0, x1), some (0, x2)] [(0, x2)] G R V)
  refine wp_ld (i := (.aload_n 0)) (4, (p0 : Int)) rfl rfl (fun _ => rfl) rfl rfl (?_ : wpv K_X4_countNormal d P 6 [some (4, (p0 : Int)), some (0, x1), some (0, x2)] [(4, (p0 : Int)), (0, x2)] G R V)
  refine wp_rng (fun vr1 => ?_)
  have f2 : i32 (V p0 1) := vr_f0 vr1 (ly4_o l0) rfl rfl
  replace w := w f2
  refine wp_getI (k := 1) rfl rfl rfl (ly4_o l0) rfl rfl (?_ : wpv K_X4_countNormal d P 9 [some (4, (p0 : Int)), some (0, x1), some (0, x2)] [(0, (V p0 1)), (0, x2)] G R V)
  obtain ⟨s3, w⟩ := w
  refine wp_icmp (c := .ge) 31 rfl rfl rfl s3 f2 (fun q => ?_) (fun q => ?_)
  · have q : ¬ x2 < (V p0 1) := q
    replace w := w.1 q
    show wpv K_X4_countNormal d P 31 [some (4, (p0 : Int)), some (0, x1), some (0, x2)] [] G R V
    refine wp_ld (i := (.iload_n 1)) (0, x1) rfl rfl (fun _ => rfl) rfl rfl (?_ : wpv K_X4_countNormal d P 32 [some (4, (p0 : Int)), some (0, x1), some (0, x2)] [(0, x1)] G R V)
    exact wp_rI rfl rfl rfl w
  · have q : x2 < (V p0 1) := Decidable.not_not.mp q
    replace w := w.2 q
    show wpv K_X4_countNormal d P 12 [some (4, (p0 : Int)), some (0, x1), some (0, x2)] [] G R V
    refine wp_ld (i := (.aload_n 0)) (4, (p0 : Int)) rfl rfl (fun _ => rfl) rfl rfl (?_ : wpv K_X4_countNormal d P 13 [some (4, (p0 : Int)), some (0, x1), some (0, x2)] [(4, (p0 : Int))] G R V)
    refine wp_getA (k := 9) rfl rfl rfl (ly4_o l0) rfl rfl (ly4_9 l0).1 (?_ : wpv K_X4_countNormal d P 16 [some (4, (p0 : Int)), some (0, x1), some (0, x2)] [(4, ((p0 + 8 : Nat) : Int))] G R V)
    refine wp_ld (i := (.iload_n 2)) (0, x2) rfl rfl (fun _ => rfl) rfl rfl (?_ : wpv K_X4_countNormal d P 17 [some (4, (p0 : Int)), some (0, x1), some (0, x2)] [(0, x2), (4, ((p0 + 8 : Nat) : Int))] G R V)
    obtain ⟨s4, w⟩ := w
    have f5 : i32 (V (p0 + 8) x2) := vr_a0 vr1 (ly4_9 l0).2 s4
    replace w := w f5
    refine wp_aI rfl rfl (ly4_9 l0).2 s4 (?_ : wpv K_X4_countNormal d P 18 [some (4, (p0 : Int)), some (0, x1), some (0, x2)] [(0, (V (p0 + 8) x2))] G R V)
    refine wp_p (i := (.iconst 1)) rfl rfl (fun _ _ _ => rfl) (?_ : wpv K_X4_countNormal d P 19 [some (4, (p0 : Int)), some (0, x1), some (0, x2)] [(0, 1), (0, (V (p0 + 8) x2))] G R V)
    refine wp_icmp (c := .ne) 25 rfl rfl rfl f5 ⟨by omega, by omega⟩ (fun q => ?_) (fun q => ?_)
    · have q : ¬ (V (p0 + 8) x2) = 1 := q
      replace w := w.1 q
      show wpv K_X4_countNormal d P 25 [some (4, (p0 : Int)), some (0, x1), some (0, x2)] [] G R V
      obtain ⟨s6, w⟩ := w
      refine wp_inc (x := 2) (k := 1) (a := x2) (c := (x2 + 1)) _ rfl rfl rfl rfl s6 (by omega) rfl ?_
      show wpv K_X4_countNormal d P 28 [some (4, (p0 : Int)), some (0, x1), some (0, (x2 + 1))] [] G R V
      refine wp_go 4 rfl rfl rfl (?_ : wpv K_X4_countNormal d P 4 [some (4, (p0 : Int)), some (0, x1), some (0, (x2 + 1))] [] G R V)
      exact wp_wk (wk_s (wk_s (wk_s wk_0))) w
    · have q : (V (p0 + 8) x2) = 1 := Decidable.not_not.mp q
      replace w := w.2 q
      show wpv K_X4_countNormal d P 22 [some (4, (p0 : Int)), some (0, x1), some (0, x2)] [] G R V
      obtain ⟨s7, w⟩ := w
      refine wp_inc (x := 1) (k := 1) (a := x1) (c := (x1 + 1)) _ rfl rfl rfl rfl s7 (by omega) rfl ?_
      show wpv K_X4_countNormal d P 25 [some (4, (p0 : Int)), some (0, (x1 + 1)), some (0, x2)] [] G R V
      obtain ⟨s8, w⟩ := w
      refine wp_inc (x := 2) (k := 1) (a := x2) (c := (x2 + 1)) _ rfl rfl rfl rfl s8 (by omega) rfl ?_
      show wpv K_X4_countNormal d P 28 [some (4, (p0 : Int)), some (0, (x1 + 1)), some (0, (x2 + 1))] [] G R V
      refine wp_go 4 rfl rfl rfl (?_ : wpv K_X4_countNormal d P 4 [some (4, (p0 : Int)), some (0, (x1 + 1)), some (0, (x2 + 1))] [] G R V)
      exact wp_wk (wk_s (wk_s (wk_s wk_0))) w
theorem t_X4_firstClassOfSize_0 {d : Nat} {P : gP} {p0 : Nat} {x1 : Int} {G : List gS} {R V : gV} (l0 : lay4 G R p0) (w : wpv K_X4_firstClassOfSize d P 2 [some (4, (p0 : Int)), some (0, x1), some (0, 0)] [] G R V) : wpv K_X4_firstClassOfSize d P 0 [some (4, (p0 : Int)), some (0, x1)] [] G R V := by
  refine wp_p (i := (.iconst 0)) rfl rfl (fun _ _ _ => rfl) (?_ : wpv K_X4_firstClassOfSize d P 1 [some (4, (p0 : Int)), some (0, x1)] [(0, 0)] G R V)
  refine wp_sto (i := (.istore_n 2)) _ rfl rfl (fun _ => rfl) rfl rfl rfl ?_
  refine wp_wk (L' := [some (4, (p0 : Int)), some (0, x1), some (0, 0)]) (wk_s (wk_s (wk_s wk_0))) ?_
  show wpv K_X4_firstClassOfSize d P 2 [some (4, (p0 : Int)), some (0, x1), some (0, 0)] [] G R V
  exact wp_wk (wk_s (wk_s (wk_s wk_0))) w

theorem t_X4_firstClassOfSize_2 {d : Nat} {P : gP} {p0 : Nat} {x1 : Int} {x2 : Int} {G : List gS} {R V : gV} (l0 : lay4 G R p0) (w : ((i32 (V p0 1)) → ((i32 x2) ∧ (((¬ x2 < (V p0 1)) → P (some (0, (-1))) V) ∧ ((x2 < (V p0 1)) → cwv d (fun r V4 => ∃ v5 : Int, r = some (0, v5) ∧ ((i32 v5) ∧ ((i32 x1) ∧ (((¬ v5 = x1) → ((i32 (x2 + 1)) ∧ wpv K_X4_firstClassOfSize d P 2 [some (4, (p0 : Int)), some (0, x1), some (0, (x2 + 1))] [] G R V4)) ∧ ((v5 = x1) → P (some (0, x2)) V4))))) 60 [(4, (p0 : Int)), (0, x2)] G R V))))) : wpv K_X4_firstClassOfSize d P 2 [some (4, (p0 : Int)), some (0, x1), some (0, x2)] [] G R V := by
  refine wp_ld (i := (.iload_n 2)) (0, x2) rfl rfl (fun _ => rfl) rfl rfl (?_ : wpv K_X4_firstClassOfSize d P 3 [some (4, (p0 : Int)), some (0, x1), some (0, x2)] [(0, x2)] G R V)
  refine wp_ld (i := (.aload_n 0)) (4, (p0 : Int)) rfl rfl (fun _ => rfl) rfl rfl (?_ : wpv K_X4_firstClassOfSize d P 4 [some (4, (p0 : Int)), some (0, x1), some (0, x2)] [(4, (p0 : Int)), (0, x2)] G R V)
  refine wp_rng (fun vr1 => ?_)
  have f2 : i32 (V p0 1) := vr_f0 vr1 (ly4_o l0) rfl rfl
  replace w := w f2
  refine wp_getI (k := 1) rfl rfl rfl (ly4_o l0) rfl rfl (?_ : wpv K_X4_firstClassOfSize d P 7 [some (4, (p0 : Int)), some (0, x1), some (0, x2)] [(0, (V p0 1)), (0, x2)] G R V)
  obtain ⟨s3, w⟩ := w
  refine wp_icmp (c := .ge) 27 rfl rfl rfl s3 f2 (fun q => ?_) (fun q => ?_)
  · have q : ¬ x2 < (V p0 1) := q
    replace w := w.1 q
    show wpv K_X4_firstClassOfSize d P 27 [some (4, (p0 : Int)), some (0, x1), some (0, x2)] [] G R V
    refine wp_p (i := (.iconst (-1))) rfl rfl (fun _ _ _ => rfl) (?_ : wpv K_X4_firstClassOfSize d P 28 [some (4, (p0 : Int)), some (0, x1), some (0, x2)] [(0, (-1))] G R V)
    exact wp_rI rfl rfl rfl w
  · have q : x2 < (V p0 1) := Decidable.not_not.mp q
    replace w := w.2 q
    show wpv K_X4_firstClassOfSize d P 10 [some (4, (p0 : Int)), some (0, x1), some (0, x2)] [] G R V
    refine wp_ld (i := (.aload_n 0)) (4, (p0 : Int)) rfl rfl (fun _ => rfl) rfl rfl (?_ : wpv K_X4_firstClassOfSize d P 11 [some (4, (p0 : Int)), some (0, x1), some (0, x2)] [(4, (p0 : Int))] G R V)
    refine wp_ld (i := (.iload_n 2)) (0, x2) rfl rfl (fun _ => rfl) rfl rfl (?_ : wpv K_X4_firstClassOfSize d P 12 [some (4, (p0 : Int)), some (0, x1), some (0, x2)] [(0, x2), (4, (p0 : Int))] G R V)
    refine wp_virt (as := [(0, x2)]) (a := p0) (st := []) _ rfl rfl rfl rfl rfl rfl (ly4_o l0) (Nat.le_of_ble_eq_true rfl) (cwv_kI w (fun v5 V4 w => ?_))
    show wpv K_X4_firstClassOfSize d P 15 [some (4, (p0 : Int)), some (0, x1), some (0, x2)] [(0, v5)] G R V4
    refine wp_ld (i := (.iload_n 1)) (0, x1) rfl rfl (fun _ => rfl) rfl rfl (?_ : wpv K_X4_firstClassOfSize d P 16 [some (4, (p0 : Int)), some (0, x1), some (0, x2)] [(0, x1), (0, v5)] G R V4)
    obtain ⟨s6, w⟩ := w
    obtain ⟨s7, w⟩ := w
    refine wp_icmp (c := .ne) 21 rfl rfl rfl s6 s7 (fun q => ?_) (fun q => ?_)
    · have q : ¬ v5 = x1 := q
      replace w := w.1 q
      show wpv K_X4_firstClassOfSize d P 21 [some (4, (p0 : Int)), some (0, x1), some (0, x2)] [] G R V4
      obtain ⟨s8, w⟩ := w
      refine wp_inc (x := 2) (k := 1) (a := x2) (c := (x2 + 1)) _ rfl rfl rfl rfl s8 (by omega) rfl ?_
      show wpv K_X4_firstClassOfSize d P 24 [some (4, (p0 : Int)), some (0, x1), some (0, (x2 + 1))] [] G R V4
      refine wp_go 2 rfl rfl rfl (?_ : wpv K_X4_firstClassOfSize d P 2 [some (4, (p0 : Int)), some (0, x1), some (0, (x2 + 1))] [] G R V4)
      exact wp_wk (wk_s (wk_s (wk_s wk_0))) w
    · have q : v5 = x1 := Decidable.not_not.mp q
      replace w := w.2 q
      show wpv K_X4_firstClassOfSize d P 19 [some (4, (p0 : Int)), some (0, x1), some (0, x2)] [] G R V4
      refine wp_ld (i := (.iload_n 2)) (0, x2) rfl rfl (fun _ => rfl) rfl rfl (?_ : wpv K_X4_firstClassOfSize d P 20 [some (4, (p0 : Int)), some (0, x1), some (0, x2)] [(0, x2)] G R V4)
      exact wp_rI rfl rfl rfl w
theorem t_X4_above_0 {d : Nat} {P : gP} {p0 : Nat} {x1 : Int} {x2 : Int} {G : List gS} {R V : gV} (l0 : lay4 G R p0) (w : (∃ b1 n1_ : Nat, (R p0 13 = (b1 : Int) ∧ G[b1]? = some (.inr (0, n1_))) ∧ ((i32 (V p0 1)) → ((i32 (x1 * (V p0 1))) ∧ ((i32 ((x1 * (V p0 1)) + x2)) ∧ ((0 ≤ ((x1 * (V p0 1)) + x2) ∧ ((x1 * (V p0 1)) + x2) < (n1_ : Int)) ∧ ((i32 (V b1 (((x1 * (V p0 1)) + x2)))) → P (some (0, (V b1 (((x1 * (V p0 1)) + x2))))) V))))))) : wpv K_X4_above d P 0 [some (4, (p0 : Int)), some (0, x1), some (0, x2)] [] G R V := by
  refine wp_ld (i := (.aload_n 0)) (4, (p0 : Int)) rfl rfl (fun _ => rfl) rfl rfl (?_ : wpv K_X4_above d P 1 [some (4, (p0 : Int)), some (0, x1), some (0, x2)] [(4, (p0 : Int))] G R V)
  obtain ⟨b1, n1_, ⟨r1, g1_⟩, w⟩ := w
  refine wp_getA (k := 13) rfl rfl rfl (ly4_o l0) rfl rfl r1 (?_ : wpv K_X4_above d P 4 [some (4, (p0 : Int)), some (0, x1), some (0, x2)] [(4, (b1 : Int))] G R V)
  refine wp_ld (i := (.iload_n 1)) (0, x1) rfl rfl (fun _ => rfl) rfl rfl (?_ : wpv K_X4_above d P 5 [some (4, (p0 : Int)), some (0, x1), some (0, x2)] [(0, x1), (4, (b1 : Int))] G R V)
  refine wp_ld (i := (.aload_n 0)) (4, (p0 : Int)) rfl rfl (fun _ => rfl) rfl rfl (?_ : wpv K_X4_above d P 6 [some (4, (p0 : Int)), some (0, x1), some (0, x2)] [(4, (p0 : Int)), (0, x1), (4, (b1 : Int))] G R V)
  refine wp_rng (fun vr2 => ?_)
  have f3 : i32 (V p0 1) := vr_f0 vr2 (ly4_o l0) rfl rfl
  replace w := w f3
  refine wp_getI (k := 1) rfl rfl rfl (ly4_o l0) rfl rfl (?_ : wpv K_X4_above d P 9 [some (4, (p0 : Int)), some (0, x1), some (0, x2)] [(0, (V p0 1)), (0, x1), (4, (b1 : Int))] G R V)
  obtain ⟨s4, w⟩ := w
  refine wp_xmul rfl rfl s4 (?_ : wpv K_X4_above d P 10 [some (4, (p0 : Int)), some (0, x1), some (0, x2)] [(0, (x1 * (V p0 1))), (4, (b1 : Int))] G R V)
  refine wp_ld (i := (.iload_n 2)) (0, x2) rfl rfl (fun _ => rfl) rfl rfl (?_ : wpv K_X4_above d P 11 [some (4, (p0 : Int)), some (0, x1), some (0, x2)] [(0, x2), (0, (x1 * (V p0 1))), (4, (b1 : Int))] G R V)
  obtain ⟨s5, w⟩ := w
  refine wp_xadd rfl rfl s5 (?_ : wpv K_X4_above d P 12 [some (4, (p0 : Int)), some (0, x1), some (0, x2)] [(0, ((x1 * (V p0 1)) + x2)), (4, (b1 : Int))] G R V)
  obtain ⟨s6, w⟩ := w
  have f7 : i32 (V b1 (((x1 * (V p0 1)) + x2))) := vr_a0 vr2 g1_ s6
  replace w := w f7
  refine wp_aI rfl rfl g1_ s6 (?_ : wpv K_X4_above d P 13 [some (4, (p0 : Int)), some (0, x1), some (0, x2)] [(0, (V b1 (((x1 * (V p0 1)) + x2))))] G R V)
  exact wp_rI rfl rfl rfl w
theorem t_X4_below_0 {d : Nat} {P : gP} {p0 : Nat} {x1 : Int} {x2 : Int} {G : List gS} {R V : gV} (l0 : lay4 G R p0) (w : ((0 ≤ x1 ∧ x1 < 300) ∧ ((i32 (V (p0 + 8) x1)) → (((¬ 0 < (V (p0 + 8) x1)) → P (some (0, 0)) V) ∧ ((0 < (V (p0 + 8) x1)) → cwv d (fun r V4 => ∃ v5 : Int, r = some (0, v5) ∧ ((0 ≤ x2 ∧ x2 < 300) ∧ ((i32 (V4 (p0 + 8) x2)) → ((i32 (v5 * (V4 (p0 + 8) x2))) ∧ ((i32 (V4 (p0 + 8) x1)) → ((0 ≤ (v5 * (V4 (p0 + 8) x2)) ∧ 0 < (V4 (p0 + 8) x1)) ∧ P (some (0, ((v5 * (V4 (p0 + 8) x2)) / (V4 (p0 + 8) x1)))) V4)))))) 69 [(4, (p0 : Int)), (0, x2), (0, x1)] G R V))))) : wpv K_X4_below d P 0 [some (4, (p0 : Int)), some (0, x1), some (0, x2)] [] G R V := by
  refine wp_ld (i := (.aload_n 0)) (4, (p0 : Int)) rfl rfl (fun _ => rfl) rfl rfl (?_ : wpv K_X4_below d P 1 [some (4, (p0 : Int)), some (0, x1), some (0, x2)] [(4, (p0 : Int))] G R V)
  refine wp_getA (k := 9) rfl rfl rfl (ly4_o l0) rfl rfl (ly4_9 l0).1 (?_ : wpv K_X4_below d P 4 [some (4, (p0 : Int)), some (0, x1), some (0, x2)] [(4, ((p0 + 8 : Nat) : Int))] G R V)
  refine wp_ld (i := (.iload_n 1)) (0, x1) rfl rfl (fun _ => rfl) rfl rfl (?_ : wpv K_X4_below d P 5 [some (4, (p0 : Int)), some (0, x1), some (0, x2)] [(0, x1), (4, ((p0 + 8 : Nat) : Int))] G R V)
  obtain ⟨s1, w⟩ := w
  refine wp_rng (fun vr2 => ?_)
  have f3 : i32 (V (p0 + 8) x1) := vr_a0 vr2 (ly4_9 l0).2 s1
  replace w := w f3
  refine wp_aI rfl rfl (ly4_9 l0).2 s1 (?_ : wpv K_X4_below d P 6 [some (4, (p0 : Int)), some (0, x1), some (0, x2)] [(0, (V (p0 + 8) x1))] G R V)
  refine wp_if (c := .le) 32 rfl rfl rfl f3 (fun q => ?_) (fun q => ?_)
  · have q : ¬ 0 < (V (p0 + 8) x1) := q
    replace w := w.1 q
    show wpv K_X4_below d P 32 [some (4, (p0 : Int)), some (0, x1), some (0, x2)] [] G R V
    refine wp_p (i := (.iconst 0)) rfl rfl (fun _ _ _ => rfl) (?_ : wpv K_X4_below d P 33 [some (4, (p0 : Int)), some (0, x1), some (0, x2)] [(0, 0)] G R V)
    exact wp_rI rfl rfl rfl w
  · have q : 0 < (V (p0 + 8) x1) := Decidable.not_not.mp q
    replace w := w.2 q
    show wpv K_X4_below d P 9 [some (4, (p0 : Int)), some (0, x1), some (0, x2)] [] G R V
    refine wp_ld (i := (.aload_n 0)) (4, (p0 : Int)) rfl rfl (fun _ => rfl) rfl rfl (?_ : wpv K_X4_below d P 10 [some (4, (p0 : Int)), some (0, x1), some (0, x2)] [(4, (p0 : Int))] G R V)
    refine wp_ld (i := (.iload_n 2)) (0, x2) rfl rfl (fun _ => rfl) rfl rfl (?_ : wpv K_X4_below d P 11 [some (4, (p0 : Int)), some (0, x1), some (0, x2)] [(0, x2), (4, (p0 : Int))] G R V)
    refine wp_ld (i := (.iload_n 1)) (0, x1) rfl rfl (fun _ => rfl) rfl rfl (?_ : wpv K_X4_below d P 12 [some (4, (p0 : Int)), some (0, x1), some (0, x2)] [(0, x1), (0, x2), (4, (p0 : Int))] G R V)
    refine wp_virt (as := [(0, x2), (0, x1)]) (a := p0) (st := []) _ rfl rfl rfl rfl rfl rfl (ly4_o l0) (Nat.le_of_ble_eq_true rfl) (cwv_kI w (fun v5 V4 w => ?_))
    show wpv K_X4_below d P 15 [some (4, (p0 : Int)), some (0, x1), some (0, x2)] [(0, v5)] G R V4
    refine wp_ld (i := (.aload_n 0)) (4, (p0 : Int)) rfl rfl (fun _ => rfl) rfl rfl (?_ : wpv K_X4_below d P 16 [some (4, (p0 : Int)), some (0, x1), some (0, x2)] [(4, (p0 : Int)), (0, v5)] G R V4)
    refine wp_getA (k := 9) rfl rfl rfl (ly4_o l0) rfl rfl (ly4_9 l0).1 (?_ : wpv K_X4_below d P 19 [some (4, (p0 : Int)), some (0, x1), some (0, x2)] [(4, ((p0 + 8 : Nat) : Int)), (0, v5)] G R V4)
    refine wp_ld (i := (.iload_n 2)) (0, x2) rfl rfl (fun _ => rfl) rfl rfl (?_ : wpv K_X4_below d P 20 [some (4, (p0 : Int)), some (0, x1), some (0, x2)] [(0, x2), (4, ((p0 + 8 : Nat) : Int)), (0, v5)] G R V4)
    obtain ⟨s6, w⟩ := w
    refine wp_rng (fun vr7 => ?_)
    have f8 : i32 (V4 (p0 + 8) x2) := vr_a0 vr7 (ly4_9 l0).2 s6
    replace w := w f8
    refine wp_aI rfl rfl (ly4_9 l0).2 s6 (?_ : wpv K_X4_below d P 21 [some (4, (p0 : Int)), some (0, x1), some (0, x2)] [(0, (V4 (p0 + 8) x2)), (0, v5)] G R V4)
    obtain ⟨s9, w⟩ := w
    refine wp_xmul rfl rfl s9 (?_ : wpv K_X4_below d P 22 [some (4, (p0 : Int)), some (0, x1), some (0, x2)] [(0, (v5 * (V4 (p0 + 8) x2)))] G R V4)
    refine wp_ld (i := (.aload_n 0)) (4, (p0 : Int)) rfl rfl (fun _ => rfl) rfl rfl (?_ : wpv K_X4_below d P 23 [some (4, (p0 : Int)), some (0, x1), some (0, x2)] [(4, (p0 : Int)), (0, (v5 * (V4 (p0 + 8) x2)))] G R V4)
    refine wp_getA (k := 9) rfl rfl rfl (ly4_o l0) rfl rfl (ly4_9 l0).1 (?_ : wpv K_X4_below d P 26 [some (4, (p0 : Int)), some (0, x1), some (0, x2)] [(4, ((p0 + 8 : Nat) : Int)), (0, (v5 * (V4 (p0 + 8) x2)))] G R V4)
    refine wp_ld (i := (.iload_n 1)) (0, x1) rfl rfl (fun _ => rfl) rfl rfl (?_ : wpv K_X4_below d P 27 [some (4, (p0 : Int)), some (0, x1), some (0, x2)] [(0, x1), (4, ((p0 + 8 : Nat) : Int)), (0, (v5 * (V4 (p0 + 8) x2)))] G R V4)
    have f10 : i32 (V4 (p0 + 8) x1) := vr_a0 vr7 (ly4_9 l0).2 s1
    replace w := w f10
    refine wp_aI rfl rfl (ly4_9 l0).2 s1 (?_ : wpv K_X4_below d P 28 [some (4, (p0 : Int)), some (0, x1), some (0, x2)] [(0, (V4 (p0 + 8) x1)), (0, (v5 * (V4 (p0 + 8) x2)))] G R V4)
    obtain ⟨s11, w⟩ := w
    refine wp_xdiv rfl rfl s11.1 s11.2 s9 f10 (?_ : wpv K_X4_below d P 29 [some (4, (p0 : Int)), some (0, x1), some (0, x2)] [(0, ((v5 * (V4 (p0 + 8) x2)) / (V4 (p0 + 8) x1)))] G R V4)
    refine wp_go 33 rfl rfl rfl (?_ : wpv K_X4_below d P 33 [some (4, (p0 : Int)), some (0, x1), some (0, x2)] [(0, ((v5 * (V4 (p0 + 8) x2)) / (V4 (p0 + 8) x1)))] G R V4)
    exact wp_rI rfl rfl rfl w
theorem t_X4_markOn_0 {d : Nat} {P : gP} {p0 : Nat} {x1 : Int} {x2 : Int} {G : List gS} {R V : gV} (l0 : lay4 G R p0) (w : ((0 ≤ x1 ∧ x1 < 300) ∧ ((i32 (V (p0 + 10) x1)) → cwv d (fun r V4 => ∃ v5 : Int, r = some (0, v5) ∧ ((i32 ((V (p0 + 10) x1) * v5)) ∧ P (some (0, ((V (p0 + 10) x1) * v5))) V4)) 69 [(4, (p0 : Int)), (0, x2), (0, x1)] G R V))) : wpv K_X4_markOn d P 0 [some (4, (p0 : Int)), some (0, x1), some (0, x2)] [] G R V := by
  refine wp_ld (i := (.aload_n 0)) (4, (p0 : Int)) rfl rfl (fun _ => rfl) rfl rfl (?_ : wpv K_X4_markOn d P 1 [some (4, (p0 : Int)), some (0, x1), some (0, x2)] [(4, (p0 : Int))] G R V)
  refine wp_getA (k := 11) rfl rfl rfl (ly4_o l0) rfl rfl (ly4_11 l0).1 (?_ : wpv K_X4_markOn d P 4 [some (4, (p0 : Int)), some (0, x1), some (0, x2)] [(4, ((p0 + 10 : Nat) : Int))] G R V)
  refine wp_ld (i := (.iload_n 1)) (0, x1) rfl rfl (fun _ => rfl) rfl rfl (?_ : wpv K_X4_markOn d P 5 [some (4, (p0 : Int)), some (0, x1), some (0, x2)] [(0, x1), (4, ((p0 + 10 : Nat) : Int))] G R V)
  obtain ⟨s1, w⟩ := w
  refine wp_rng (fun vr2 => ?_)
  have f3 : i32 (V (p0 + 10) x1) := vr_a0 vr2 (ly4_11 l0).2 s1
  replace w := w f3
  refine wp_aI rfl rfl (ly4_11 l0).2 s1 (?_ : wpv K_X4_markOn d P 6 [some (4, (p0 : Int)), some (0, x1), some (0, x2)] [(0, (V (p0 + 10) x1))] G R V)
  refine wp_ld (i := (.aload_n 0)) (4, (p0 : Int)) rfl rfl (fun _ => rfl) rfl rfl (?_ : wpv K_X4_markOn d P 7 [some (4, (p0 : Int)), some (0, x1), some (0, x2)] [(4, (p0 : Int)), (0, (V (p0 + 10) x1))] G R V)
  refine wp_ld (i := (.iload_n 2)) (0, x2) rfl rfl (fun _ => rfl) rfl rfl (?_ : wpv K_X4_markOn d P 8 [some (4, (p0 : Int)), some (0, x1), some (0, x2)] [(0, x2), (4, (p0 : Int)), (0, (V (p0 + 10) x1))] G R V)
  refine wp_ld (i := (.iload_n 1)) (0, x1) rfl rfl (fun _ => rfl) rfl rfl (?_ : wpv K_X4_markOn d P 9 [some (4, (p0 : Int)), some (0, x1), some (0, x2)] [(0, x1), (0, x2), (4, (p0 : Int)), (0, (V (p0 + 10) x1))] G R V)
  refine wp_virt (as := [(0, x2), (0, x1)]) (a := p0) (st := [(0, (V (p0 + 10) x1))]) _ rfl rfl rfl rfl rfl rfl (ly4_o l0) (Nat.le_of_ble_eq_true rfl) (cwv_kI w (fun v5 V4 w => ?_))
  show wpv K_X4_markOn d P 12 [some (4, (p0 : Int)), some (0, x1), some (0, x2)] [(0, v5), (0, (V (p0 + 10) x1))] G R V4
  obtain ⟨s6, w⟩ := w
  refine wp_xmul rfl rfl s6 (?_ : wpv K_X4_markOn d P 13 [some (4, (p0 : Int)), some (0, x1), some (0, x2)] [(0, ((V (p0 + 10) x1) * v5))] G R V4)
  exact wp_rI rfl rfl rfl w
theorem t_X4_drawsThatMakeAll_0 {d : Nat} {P : gP} {p0 : Nat} {x1 : Int} {G : List gS} {R V : gV} (l0 : lay4 G R p0) (w : wpv K_X4_drawsThatMakeAll d P 5 [some (4, (p0 : Int)), some (0, x1), some (2, 0), none, some (0, 0)] [] G R V) : wpv K_X4_drawsThatMakeAll d P 0 [some (4, (p0 : Int)), some (0, x1)] [] G R V := by
  refine wp_p (i := (.lconst 0)) rfl rfl (fun _ _ _ => rfl) (?_ : wpv K_X4_drawsThatMakeAll d P 1 [some (4, (p0 : Int)), some (0, x1)] [(2, 0)] G R V)
  refine wp_lsto (i := (.lstore_n 2)) _ rfl rfl (fun _ => rfl) rfl rfl rfl ?_
  refine wp_wk (L' := [some (4, (p0 : Int)), some (0, x1), some (2, 0)]) (wk_s (wk_s (wk_s wk_0))) ?_
  show wpv K_X4_drawsThatMakeAll d P 2 [some (4, (p0 : Int)), some (0, x1), some (2, 0)] [] G R V
  refine wp_p (i := (.iconst 0)) rfl rfl (fun _ _ _ => rfl) (?_ : wpv K_X4_drawsThatMakeAll d P 3 [some (4, (p0 : Int)), some (0, x1), some (2, 0)] [(0, 0)] G R V)
  refine wp_sto (i := (.istore 4)) _ rfl rfl (fun _ => rfl) rfl rfl rfl ?_
  refine wp_wk (L' := [some (4, (p0 : Int)), some (0, x1), some (2, 0), none, some (0, 0)]) (wk_s (wk_s (wk_s (wk_n (wk_s wk_0))))) ?_
  show wpv K_X4_drawsThatMakeAll d P 5 [some (4, (p0 : Int)), some (0, x1), some (2, 0), none, some (0, 0)] [] G R V
  exact wp_wk (wk_s (wk_s (wk_s (wk_n (wk_s wk_0))))) w

theorem t_X4_drawsThatMakeAll_5 {d : Nat} {P : gP} {p0 : Nat} {x1 : Int} {x2 : Int} {x4 : Int} {G : List gS} {R V : gV} (l0 : lay4 G R p0) (w : ((i32 (V p0 1)) → ((i32 x4) ∧ (((¬ x4 < (V p0 1)) → P (some (2, x2)) V) ∧ ((x4 < (V p0 1)) → ((0 ≤ x4 ∧ x4 < 300) ∧ ((i32 (V (p0 + 9) x4)) → ((i32 (V (p0 + 8) x4)) → cwv d (fun r V7 => ∃ v8 : Int, r = some (0, v8) ∧ ((i32 v8) ∧ cwv d (fun r V10 => ∃ v11 : Int, r = some (2, v11) ∧ ((i32 (x4 + 1)) ∧ wpv K_X4_drawsThatMakeAll d P 5 [some (4, (p0 : Int)), some (0, x1), some (2, (jadd x2 ((jmul ((jmul ((V (p0 + 9) x4)) ((V (p0 + 8) x4)))) v11)))), none, some (0, (x4 + 1))] [] G R V10)) 155 [(2, v8), (0, x1)] G R V7)) 60 [(4, (p0 : Int)), (0, x4)] G R V)))))))) : wpv K_X4_drawsThatMakeAll d P 5 [some (4, (p0 : Int)), some (0, x1), some (2, x2), none, some (0, x4)] [] G R V := by
  refine wp_ld (i := (.iload 4)) (0, x4) rfl rfl (fun _ => rfl) rfl rfl (?_ : wpv K_X4_drawsThatMakeAll d P 7 [some (4, (p0 : Int)), some (0, x1), some (2, x2), none, some (0, x4)] [(0, x4)] G R V)
  refine wp_ld (i := (.aload_n 0)) (4, (p0 : Int)) rfl rfl (fun _ => rfl) rfl rfl (?_ : wpv K_X4_drawsThatMakeAll d P 8 [some (4, (p0 : Int)), some (0, x1), some (2, x2), none, some (0, x4)] [(4, (p0 : Int)), (0, x4)] G R V)
  refine wp_rng (fun vr1 => ?_)
  have f2 : i32 (V p0 1) := vr_f0 vr1 (ly4_o l0) rfl rfl
  replace w := w f2
  refine wp_getI (k := 1) rfl rfl rfl (ly4_o l0) rfl rfl (?_ : wpv K_X4_drawsThatMakeAll d P 11 [some (4, (p0 : Int)), some (0, x1), some (2, x2), none, some (0, x4)] [(0, (V p0 1)), (0, x4)] G R V)
  obtain ⟨s3, w⟩ := w
  refine wp_icmp (c := .ge) 52 rfl rfl rfl s3 f2 (fun q => ?_) (fun q => ?_)
  · have q : ¬ x4 < (V p0 1) := q
    replace w := w.1 q
    show wpv K_X4_drawsThatMakeAll d P 52 [some (4, (p0 : Int)), some (0, x1), some (2, x2), none, some (0, x4)] [] G R V
    refine wp_ld (i := (.lload_n 2)) (2, x2) rfl rfl (fun _ => rfl) rfl rfl (?_ : wpv K_X4_drawsThatMakeAll d P 53 [some (4, (p0 : Int)), some (0, x1), some (2, x2), none, some (0, x4)] [(2, x2)] G R V)
    exact wp_rJ rfl rfl rfl w
  · have q : x4 < (V p0 1) := Decidable.not_not.mp q
    replace w := w.2 q
    show wpv K_X4_drawsThatMakeAll d P 14 [some (4, (p0 : Int)), some (0, x1), some (2, x2), none, some (0, x4)] [] G R V
    refine wp_ld (i := (.lload_n 2)) (2, x2) rfl rfl (fun _ => rfl) rfl rfl (?_ : wpv K_X4_drawsThatMakeAll d P 15 [some (4, (p0 : Int)), some (0, x1), some (2, x2), none, some (0, x4)] [(2, x2)] G R V)
    refine wp_ld (i := (.aload_n 0)) (4, (p0 : Int)) rfl rfl (fun _ => rfl) rfl rfl (?_ : wpv K_X4_drawsThatMakeAll d P 16 [some (4, (p0 : Int)), some (0, x1), some (2, x2), none, some (0, x4)] [(4, (p0 : Int)), (2, x2)] G R V)
    refine wp_getA (k := 10) rfl rfl rfl (ly4_o l0) rfl rfl (ly4_10 l0).1 (?_ : wpv K_X4_drawsThatMakeAll d P 19 [some (4, (p0 : Int)), some (0, x1), some (2, x2), none, some (0, x4)] [(4, ((p0 + 9 : Nat) : Int)), (2, x2)] G R V)
    refine wp_ld (i := (.iload 4)) (0, x4) rfl rfl (fun _ => rfl) rfl rfl (?_ : wpv K_X4_drawsThatMakeAll d P 21 [some (4, (p0 : Int)), some (0, x1), some (2, x2), none, some (0, x4)] [(0, x4), (4, ((p0 + 9 : Nat) : Int)), (2, x2)] G R V)
    obtain ⟨s4, w⟩ := w
    have f5 : i32 (V (p0 + 9) x4) := vr_a0 vr1 (ly4_10 l0).2 s4
    replace w := w f5
    refine wp_aI rfl rfl (ly4_10 l0).2 s4 (?_ : wpv K_X4_drawsThatMakeAll d P 22 [some (4, (p0 : Int)), some (0, x1), some (2, x2), none, some (0, x4)] [(0, (V (p0 + 9) x4)), (2, x2)] G R V)
    refine wp_i2l rfl rfl f5 (?_ : wpv K_X4_drawsThatMakeAll d P 23 [some (4, (p0 : Int)), some (0, x1), some (2, x2), none, some (0, x4)] [(2, (V (p0 + 9) x4)), (2, x2)] G R V)
    refine wp_ld (i := (.aload_n 0)) (4, (p0 : Int)) rfl rfl (fun _ => rfl) rfl rfl (?_ : wpv K_X4_drawsThatMakeAll d P 24 [some (4, (p0 : Int)), some (0, x1), some (2, x2), none, some (0, x4)] [(4, (p0 : Int)), (2, (V (p0 + 9) x4)), (2, x2)] G R V)
    refine wp_getA (k := 9) rfl rfl rfl (ly4_o l0) rfl rfl (ly4_9 l0).1 (?_ : wpv K_X4_drawsThatMakeAll d P 27 [some (4, (p0 : Int)), some (0, x1), some (2, x2), none, some (0, x4)] [(4, ((p0 + 8 : Nat) : Int)), (2, (V (p0 + 9) x4)), (2, x2)] G R V)
    refine wp_ld (i := (.iload 4)) (0, x4) rfl rfl (fun _ => rfl) rfl rfl (?_ : wpv K_X4_drawsThatMakeAll d P 29 [some (4, (p0 : Int)), some (0, x1), some (2, x2), none, some (0, x4)] [(0, x4), (4, ((p0 + 8 : Nat) : Int)), (2, (V (p0 + 9) x4)), (2, x2)] G R V)
    have f6 : i32 (V (p0 + 8) x4) := vr_a0 vr1 (ly4_9 l0).2 s4
    replace w := w f6
    refine wp_aI rfl rfl (ly4_9 l0).2 s4 (?_ : wpv K_X4_drawsThatMakeAll d P 30 [some (4, (p0 : Int)), some (0, x1), some (2, x2), none, some (0, x4)] [(0, (V (p0 + 8) x4)), (2, (V (p0 + 9) x4)), (2, x2)] G R V)
    refine wp_i2l rfl rfl f6 (?_ : wpv K_X4_drawsThatMakeAll d P 31 [some (4, (p0 : Int)), some (0, x1), some (2, x2), none, some (0, x4)] [(2, (V (p0 + 8) x4)), (2, (V (p0 + 9) x4)), (2, x2)] G R V)
    refine wp_jmul rfl rfl (?_ : wpv K_X4_drawsThatMakeAll d P 32 [some (4, (p0 : Int)), some (0, x1), some (2, x2), none, some (0, x4)] [(2, (jmul ((V (p0 + 9) x4)) ((V (p0 + 8) x4)))), (2, x2)] G R V)
    refine wp_ld (i := (.aload_n 0)) (4, (p0 : Int)) rfl rfl (fun _ => rfl) rfl rfl (?_ : wpv K_X4_drawsThatMakeAll d P 33 [some (4, (p0 : Int)), some (0, x1), some (2, x2), none, some (0, x4)] [(4, (p0 : Int)), (2, (jmul ((V (p0 + 9) x4)) ((V (p0 + 8) x4)))), (2, x2)] G R V)
    refine wp_ld (i := (.iload 4)) (0, x4) rfl rfl (fun _ => rfl) rfl rfl (?_ : wpv K_X4_drawsThatMakeAll d P 35 [some (4, (p0 : Int)), some (0, x1), some (2, x2), none, some (0, x4)] [(0, x4), (4, (p0 : Int)), (2, (jmul ((V (p0 + 9) x4)) ((V (p0 + 8) x4)))), (2, x2)] G R V)
    refine wp_virt (as := [(0, x4)]) (a := p0) (st := [(2, (jmul ((V (p0 + 9) x4)) ((V (p0 + 8) x4)))), (2, x2)]) _ rfl rfl rfl rfl rfl rfl (ly4_o l0) (Nat.le_of_ble_eq_true rfl) (cwv_kI w (fun v8 V7 w => ?_))
    show wpv K_X4_drawsThatMakeAll d P 38 [some (4, (p0 : Int)), some (0, x1), some (2, x2), none, some (0, x4)] [(0, v8), (2, (jmul ((V (p0 + 9) x4)) ((V (p0 + 8) x4)))), (2, x2)] G R V7
    obtain ⟨s9, w⟩ := w
    refine wp_i2l rfl rfl s9 (?_ : wpv K_X4_drawsThatMakeAll d P 39 [some (4, (p0 : Int)), some (0, x1), some (2, x2), none, some (0, x4)] [(2, v8), (2, (jmul ((V (p0 + 9) x4)) ((V (p0 + 8) x4)))), (2, x2)] G R V7)
    refine wp_ld (i := (.iload_n 1)) (0, x1) rfl rfl (fun _ => rfl) rfl rfl (?_ : wpv K_X4_drawsThatMakeAll d P 40 [some (4, (p0 : Int)), some (0, x1), some (2, x2), none, some (0, x4)] [(0, x1), (2, v8), (2, (jmul ((V (p0 + 9) x4)) ((V (p0 + 8) x4)))), (2, x2)] G R V7)
    refine wp_stat (as := [(2, v8), (0, x1)]) (st := [(2, (jmul ((V (p0 + 9) x4)) ((V (p0 + 8) x4)))), (2, x2)]) _ rfl rfl rfl (by omega) rfl rfl (Nat.le_of_ble_eq_true rfl) (cwv_kJ w (fun v11 V10 w => ?_))
    show wpv K_X4_drawsThatMakeAll d P 43 [some (4, (p0 : Int)), some (0, x1), some (2, x2), none, some (0, x4)] [(2, v11), (2, (jmul ((V (p0 + 9) x4)) ((V (p0 + 8) x4)))), (2, x2)] G R V10
    refine wp_jmul rfl rfl (?_ : wpv K_X4_drawsThatMakeAll d P 44 [some (4, (p0 : Int)), some (0, x1), some (2, x2), none, some (0, x4)] [(2, (jmul ((jmul ((V (p0 + 9) x4)) ((V (p0 + 8) x4)))) v11)), (2, x2)] G R V10)
    refine wp_jadd rfl rfl (?_ : wpv K_X4_drawsThatMakeAll d P 45 [some (4, (p0 : Int)), some (0, x1), some (2, x2), none, some (0, x4)] [(2, (jadd x2 ((jmul ((jmul ((V (p0 + 9) x4)) ((V (p0 + 8) x4)))) v11))))] G R V10)
    refine wp_lsto (i := (.lstore_n 2)) _ rfl rfl (fun _ => rfl) rfl rfl rfl ?_
    refine wp_wk (L' := [some (4, (p0 : Int)), some (0, x1), some (2, (jadd x2 ((jmul ((jmul ((V (p0 + 9) x4)) ((V (p0 + 8) x4)))) v11)))), none, some (0, x4)]) (wk_s (wk_s (wk_s (wk_n (wk_s wk_0))))) ?_
    show wpv K_X4_drawsThatMakeAll d P 46 [some (4, (p0 : Int)), some (0, x1), some (2, (jadd x2 ((jmul ((jmul ((V (p0 + 9) x4)) ((V (p0 + 8) x4)))) v11)))), none, some (0, x4)] [] G R V10
    obtain ⟨s12, w⟩ := w
    refine wp_inc (x := 4) (k := 1) (a := x4) (c := (x4 + 1)) _ rfl rfl rfl rfl s12 (by omega) rfl ?_
    show wpv K_X4_drawsThatMakeAll d P 49 [some (4, (p0 : Int)), some (0, x1), some (2, (jadd x2 ((jmul ((jmul ((V (p0 + 9) x4)) ((V (p0 + 8) x4)))) v11)))), none, some (0, (x4 + 1))] [] G R V10
    refine wp_go 5 rfl rfl rfl (?_ : wpv K_X4_drawsThatMakeAll d P 5 [some (4, (p0 : Int)), some (0, x1), some (2, (jadd x2 ((jmul ((jmul ((V (p0 + 9) x4)) ((V (p0 + 8) x4)))) v11)))), none, some (0, (x4 + 1))] [] G R V10)
    exact wp_wk (wk_s (wk_s (wk_s (wk_n (wk_s wk_0))))) w
theorem t_X4_sortFound_0 {d : Nat} {P : gP} {p0 : Nat} {p1 : Nat} {G : List gS} {R V : gV} (l0 : lay4 G R p0) (l1 : lay3 G R p1) (w : wpv K_X4_sortFound d P 2 [some (4, (p0 : Int)), some (4, (p1 : Int)), some (0, 0)] [] G R V) : wpv K_X4_sortFound d P 0 [some (4, (p0 : Int)), some (4, (p1 : Int))] [] G R V := by
  refine wp_p (i := (.iconst 0)) rfl rfl (fun _ _ _ => rfl) (?_ : wpv K_X4_sortFound d P 1 [some (4, (p0 : Int)), some (4, (p1 : Int))] [(0, 0)] G R V)
  refine wp_sto (i := (.istore_n 2)) _ rfl rfl (fun _ => rfl) rfl rfl rfl ?_
  refine wp_wk (L' := [some (4, (p0 : Int)), some (4, (p1 : Int)), some (0, 0)]) (wk_s (wk_s (wk_s wk_0))) ?_
  show wpv K_X4_sortFound d P 2 [some (4, (p0 : Int)), some (4, (p1 : Int)), some (0, 0)] [] G R V
  exact wp_wk (wk_s (wk_s (wk_s wk_0))) w

theorem t_X4_sortFound_2 {d : Nat} {P : gP} {p0 : Nat} {p1 : Nat} {x2 : Int} {G : List gS} {R V : gV} (l0 : lay4 G R p0) (l1 : lay3 G R p1) (w : ((i32 (V p0 0)) → ((i32 x2) ∧ (((¬ x2 < (V p0 0)) → P none V) ∧ ((x2 < (V p0 0)) → wpv K_X4_sortFound d P 12 [some (4, (p0 : Int)), some (4, (p1 : Int)), some (0, x2), some (0, x2)] [] G R V))))) : wpv K_X4_sortFound d P 2 [some (4, (p0 : Int)), some (4, (p1 : Int)), some (0, x2)] [] G R V := by
  refine wp_ld (i := (.iload_n 2)) (0, x2) rfl rfl (fun _ => rfl) rfl rfl (?_ : wpv K_X4_sortFound d P 3 [some (4, (p0 : Int)), some (4, (p1 : Int)), some (0, x2)] [(0, x2)] G R V)
  refine wp_ld (i := (.aload_n 0)) (4, (p0 : Int)) rfl rfl (fun _ => rfl) rfl rfl (?_ : wpv K_X4_sortFound d P 4 [some (4, (p0 : Int)), some (4, (p1 : Int)), some (0, x2)] [(4, (p0 : Int)), (0, x2)] G R V)
  refine wp_rng (fun vr1 => ?_)
  have f2 : i32 (V p0 0) := vr_f0 vr1 (ly4_o l0) rfl rfl
  replace w := w f2
  refine wp_getI (k := 0) rfl rfl rfl (ly4_o l0) rfl rfl (?_ : wpv K_X4_sortFound d P 7 [some (4, (p0 : Int)), some (4, (p1 : Int)), some (0, x2)] [(0, (V p0 0)), (0, x2)] G R V)
  obtain ⟨s3, w⟩ := w
  refine wp_icmp (c := .ge) 65 rfl rfl rfl s3 f2 (fun q => ?_) (fun q => ?_)
  · have q : ¬ x2 < (V p0 0) := q
    replace w := w.1 q
    show wpv K_X4_sortFound d P 65 [some (4, (p0 : Int)), some (4, (p1 : Int)), some (0, x2)] [] G R V
    exact wp_r0 rfl rfl rfl w
  · have q : x2 < (V p0 0) := Decidable.not_not.mp q
    replace w := w.2 q
    show wpv K_X4_sortFound d P 10 [some (4, (p0 : Int)), some (4, (p1 : Int)), some (0, x2)] [] G R V
    refine wp_ld (i := (.iload_n 2)) (0, x2) rfl rfl (fun _ => rfl) rfl rfl (?_ : wpv K_X4_sortFound d P 11 [some (4, (p0 : Int)), some (4, (p1 : Int)), some (0, x2)] [(0, x2)] G R V)
    refine wp_sto (i := (.istore_n 3)) _ rfl rfl (fun _ => rfl) rfl rfl rfl ?_
    refine wp_wk (L' := [some (4, (p0 : Int)), some (4, (p1 : Int)), some (0, x2), some (0, x2)]) (wk_s (wk_s (wk_s (wk_s wk_0)))) ?_
    show wpv K_X4_sortFound d P 12 [some (4, (p0 : Int)), some (4, (p1 : Int)), some (0, x2), some (0, x2)] [] G R V
    exact wp_wk (wk_s (wk_s (wk_s (wk_s wk_0)))) w

theorem t_X4_sortFound_12 {d : Nat} {P : gP} {p0 : Nat} {p1 : Nat} {x2 : Int} {x3 : Int} {G : List gS} {R V : gV} (l0 : lay4 G R p0) (l1 : lay3 G R p1) (w : ((i32 x3) ∧ (((¬ 0 < x3) → ((0 ≤ x3 ∧ x3 < 300) ∧ ((i32 x2) ∧ ((i32 (x2 + 1)) ∧ wpv K_X4_sortFound d P 2 [some (4, (p0 : Int)), some (4, (p1 : Int)), some (0, (x2 + 1))] [] G R (wr V (p0 + 11) x3 x2))))) ∧ ((0 < x3) → ((i32 (x3 - 1)) ∧ ((0 ≤ (x3 - 1) ∧ (x3 - 1) < 300) ∧ ((i32 (V (p0 + 11) ((x3 - 1)))) → cwv d (fun r V9 => ∃ v10 : Int, r = some (0, v10) ∧ ((i32 v10) ∧ (((v10 = 0) → ((0 ≤ x3 ∧ x3 < 300) ∧ ((i32 x2) ∧ ((i32 (x2 + 1)) ∧ wpv K_X4_sortFound d P 2 [some (4, (p0 : Int)), some (4, (p1 : Int)), some (0, (x2 + 1))] [] G R (wr V9 (p0 + 11) x3 x2))))) ∧ ((¬ v10 = 0) → ((i32 (V9 (p0 + 11) ((x3 - 1)))) → ((0 ≤ x3 ∧ x3 < 300) ∧ ((i32 (x3 - 1)) ∧ wpv K_X4_sortFound d P 12 [some (4, (p0 : Int)), some (4, (p1 : Int)), some (0, x2), some (0, (x3 - 1))] [] G R (wr V9 (p0 + 11) x3 ((V9 (p0 + 11) ((x3 - 1)))))))))))) 40 [(4, (p1 : Int)), (0, x2), (0, (V (p0 + 11) ((x3 - 1))))] G R V))))))) : wpv K_X4_sortFound d P 12 [some (4, (p0 : Int)), some (4, (p1 : Int)), some (0, x2), some (0, x3)] [] G R V := by
  refine wp_ld (i := (.iload_n 3)) (0, x3) rfl rfl (fun _ => rfl) rfl rfl (?_ : wpv K_X4_sortFound d P 13 [some (4, (p0 : Int)), some (4, (p1 : Int)), some (0, x2), some (0, x3)] [(0, x3)] G R V)
  obtain ⟨s1, w⟩ := w
  refine wp_if (c := .le) 52 rfl rfl rfl s1 (fun q => ?_) (fun q => ?_)
  · have q : ¬ 0 < x3 := q
    replace w := w.1 q
    show wpv K_X4_sortFound d P 52 [some (4, (p0 : Int)), some (4, (p1 : Int)), some (0, x2), some (0, x3)] [] G R V
    refine wp_ld (i := (.aload_n 0)) (4, (p0 : Int)) rfl rfl (fun _ => rfl) rfl rfl (?_ : wpv K_X4_sortFound d P 53 [some (4, (p0 : Int)), some (4, (p1 : Int)), some (0, x2), some (0, x3)] [(4, (p0 : Int))] G R V)
    refine wp_getA (k := 12) rfl rfl rfl (ly4_o l0) rfl rfl (ly4_12 l0).1 (?_ : wpv K_X4_sortFound d P 56 [some (4, (p0 : Int)), some (4, (p1 : Int)), some (0, x2), some (0, x3)] [(4, ((p0 + 11 : Nat) : Int))] G R V)
    refine wp_ld (i := (.iload_n 3)) (0, x3) rfl rfl (fun _ => rfl) rfl rfl (?_ : wpv K_X4_sortFound d P 57 [some (4, (p0 : Int)), some (4, (p1 : Int)), some (0, x2), some (0, x3)] [(0, x3), (4, ((p0 + 11 : Nat) : Int))] G R V)
    refine wp_ld (i := (.iload_n 2)) (0, x2) rfl rfl (fun _ => rfl) rfl rfl (?_ : wpv K_X4_sortFound d P 58 [some (4, (p0 : Int)), some (4, (p1 : Int)), some (0, x2), some (0, x3)] [(0, x2), (0, x3), (4, ((p0 + 11 : Nat) : Int))] G R V)
    obtain ⟨s2, w⟩ := w
    obtain ⟨s3, w⟩ := w
    refine wp_sI rfl rfl (ly4_12 l0).2 s2 s3 (?_ : wpv K_X4_sortFound d P 59 [some (4, (p0 : Int)), some (4, (p1 : Int)), some (0, x2), some (0, x3)] [] G R (wr V (p0 + 11) x3 x2))
    obtain ⟨s4, w⟩ := w
    refine wp_inc (x := 2) (k := 1) (a := x2) (c := (x2 + 1)) _ rfl rfl rfl rfl s4 (by omega) rfl ?_
    show wpv K_X4_sortFound d P 62 [some (4, (p0 : Int)), some (4, (p1 : Int)), some (0, (x2 + 1)), some (0, x3)] [] G R (wr V (p0 + 11) x3 x2)
    refine wp_go 2 rfl rfl rfl (?_ : wpv K_X4_sortFound d P 2 [some (4, (p0 : Int)), some (4, (p1 : Int)), some (0, (x2 + 1)), some (0, x3)] [] G R (wr V (p0 + 11) x3 x2))
    exact wp_wk (wk_s (wk_s (wk_s wk_0))) w
  · have q : 0 < x3 := Decidable.not_not.mp q
    replace w := w.2 q
    show wpv K_X4_sortFound d P 16 [some (4, (p0 : Int)), some (4, (p1 : Int)), some (0, x2), some (0, x3)] [] G R V
    refine wp_ld (i := (.aload_n 1)) (4, (p1 : Int)) rfl rfl (fun _ => rfl) rfl rfl (?_ : wpv K_X4_sortFound d P 17 [some (4, (p0 : Int)), some (4, (p1 : Int)), some (0, x2), some (0, x3)] [(4, (p1 : Int))] G R V)
    refine wp_ld (i := (.iload_n 2)) (0, x2) rfl rfl (fun _ => rfl) rfl rfl (?_ : wpv K_X4_sortFound d P 18 [some (4, (p0 : Int)), some (4, (p1 : Int)), some (0, x2), some (0, x3)] [(0, x2), (4, (p1 : Int))] G R V)
    refine wp_ld (i := (.aload_n 0)) (4, (p0 : Int)) rfl rfl (fun _ => rfl) rfl rfl (?_ : wpv K_X4_sortFound d P 19 [some (4, (p0 : Int)), some (4, (p1 : Int)), some (0, x2), some (0, x3)] [(4, (p0 : Int)), (0, x2), (4, (p1 : Int))] G R V)
    refine wp_getA (k := 12) rfl rfl rfl (ly4_o l0) rfl rfl (ly4_12 l0).1 (?_ : wpv K_X4_sortFound d P 22 [some (4, (p0 : Int)), some (4, (p1 : Int)), some (0, x2), some (0, x3)] [(4, ((p0 + 11 : Nat) : Int)), (0, x2), (4, (p1 : Int))] G R V)
    refine wp_ld (i := (.iload_n 3)) (0, x3) rfl rfl (fun _ => rfl) rfl rfl (?_ : wpv K_X4_sortFound d P 23 [some (4, (p0 : Int)), some (4, (p1 : Int)), some (0, x2), some (0, x3)] [(0, x3), (4, ((p0 + 11 : Nat) : Int)), (0, x2), (4, (p1 : Int))] G R V)
    refine wp_p (i := (.iconst 1)) rfl rfl (fun _ _ _ => rfl) (?_ : wpv K_X4_sortFound d P 24 [some (4, (p0 : Int)), some (4, (p1 : Int)), some (0, x2), some (0, x3)] [(0, 1), (0, x3), (4, ((p0 + 11 : Nat) : Int)), (0, x2), (4, (p1 : Int))] G R V)
    obtain ⟨s5, w⟩ := w
    refine wp_xsub rfl rfl s5 (?_ : wpv K_X4_sortFound d P 25 [some (4, (p0 : Int)), some (4, (p1 : Int)), some (0, x2), some (0, x3)] [(0, (x3 - 1)), (4, ((p0 + 11 : Nat) : Int)), (0, x2), (4, (p1 : Int))] G R V)
    obtain ⟨s6, w⟩ := w
    refine wp_rng (fun vr7 => ?_)
    have f8 : i32 (V (p0 + 11) ((x3 - 1))) := vr_a0 vr7 (ly4_12 l0).2 s6
    replace w := w f8
    refine wp_aI rfl rfl (ly4_12 l0).2 s6 (?_ : wpv K_X4_sortFound d P 26 [some (4, (p0 : Int)), some (4, (p1 : Int)), some (0, x2), some (0, x3)] [(0, (V (p0 + 11) ((x3 - 1)))), (0, x2), (4, (p1 : Int))] G R V)
    refine wp_virt (as := [(0, x2), (0, (V (p0 + 11) ((x3 - 1))))]) (a := p1) (st := []) _ rfl rfl rfl rfl rfl rfl (ly3_o l1) (Nat.le_of_ble_eq_true rfl) (cwv_kI w (fun v10 V9 w => ?_))
    show wpv K_X4_sortFound d P 29 [some (4, (p0 : Int)), some (4, (p1 : Int)), some (0, x2), some (0, x3)] [(0, v10)] G R V9
    obtain ⟨s11, w⟩ := w
    refine wp_if (c := .eq) 52 rfl rfl rfl s11 (fun q => ?_) (fun q => ?_)
    · have q : v10 = 0 := q
      replace w := w.1 q
      show wpv K_X4_sortFound d P 52 [some (4, (p0 : Int)), some (4, (p1 : Int)), some (0, x2), some (0, x3)] [] G R V9
      refine wp_ld (i := (.aload_n 0)) (4, (p0 : Int)) rfl rfl (fun _ => rfl) rfl rfl (?_ : wpv K_X4_sortFound d P 53 [some (4, (p0 : Int)), some (4, (p1 : Int)), some (0, x2), some (0, x3)] [(4, (p0 : Int))] G R V9)
      refine wp_getA (k := 12) rfl rfl rfl (ly4_o l0) rfl rfl (ly4_12 l0).1 (?_ : wpv K_X4_sortFound d P 56 [some (4, (p0 : Int)), some (4, (p1 : Int)), some (0, x2), some (0, x3)] [(4, ((p0 + 11 : Nat) : Int))] G R V9)
      refine wp_ld (i := (.iload_n 3)) (0, x3) rfl rfl (fun _ => rfl) rfl rfl (?_ : wpv K_X4_sortFound d P 57 [some (4, (p0 : Int)), some (4, (p1 : Int)), some (0, x2), some (0, x3)] [(0, x3), (4, ((p0 + 11 : Nat) : Int))] G R V9)
      refine wp_ld (i := (.iload_n 2)) (0, x2) rfl rfl (fun _ => rfl) rfl rfl (?_ : wpv K_X4_sortFound d P 58 [some (4, (p0 : Int)), some (4, (p1 : Int)), some (0, x2), some (0, x3)] [(0, x2), (0, x3), (4, ((p0 + 11 : Nat) : Int))] G R V9)
      obtain ⟨s12, w⟩ := w
      obtain ⟨s13, w⟩ := w
      refine wp_sI rfl rfl (ly4_12 l0).2 s12 s13 (?_ : wpv K_X4_sortFound d P 59 [some (4, (p0 : Int)), some (4, (p1 : Int)), some (0, x2), some (0, x3)] [] G R (wr V9 (p0 + 11) x3 x2))
      obtain ⟨s14, w⟩ := w
      refine wp_inc (x := 2) (k := 1) (a := x2) (c := (x2 + 1)) _ rfl rfl rfl rfl s14 (by omega) rfl ?_
      show wpv K_X4_sortFound d P 62 [some (4, (p0 : Int)), some (4, (p1 : Int)), some (0, (x2 + 1)), some (0, x3)] [] G R (wr V9 (p0 + 11) x3 x2)
      refine wp_go 2 rfl rfl rfl (?_ : wpv K_X4_sortFound d P 2 [some (4, (p0 : Int)), some (4, (p1 : Int)), some (0, (x2 + 1)), some (0, x3)] [] G R (wr V9 (p0 + 11) x3 x2))
      exact wp_wk (wk_s (wk_s (wk_s wk_0))) w
    · have q : ¬ v10 = 0 := q
      replace w := w.2 q
      show wpv K_X4_sortFound d P 32 [some (4, (p0 : Int)), some (4, (p1 : Int)), some (0, x2), some (0, x3)] [] G R V9
      refine wp_ld (i := (.aload_n 0)) (4, (p0 : Int)) rfl rfl (fun _ => rfl) rfl rfl (?_ : wpv K_X4_sortFound d P 33 [some (4, (p0 : Int)), some (4, (p1 : Int)), some (0, x2), some (0, x3)] [(4, (p0 : Int))] G R V9)
      refine wp_getA (k := 12) rfl rfl rfl (ly4_o l0) rfl rfl (ly4_12 l0).1 (?_ : wpv K_X4_sortFound d P 36 [some (4, (p0 : Int)), some (4, (p1 : Int)), some (0, x2), some (0, x3)] [(4, ((p0 + 11 : Nat) : Int))] G R V9)
      refine wp_ld (i := (.iload_n 3)) (0, x3) rfl rfl (fun _ => rfl) rfl rfl (?_ : wpv K_X4_sortFound d P 37 [some (4, (p0 : Int)), some (4, (p1 : Int)), some (0, x2), some (0, x3)] [(0, x3), (4, ((p0 + 11 : Nat) : Int))] G R V9)
      refine wp_ld (i := (.aload_n 0)) (4, (p0 : Int)) rfl rfl (fun _ => rfl) rfl rfl (?_ : wpv K_X4_sortFound d P 38 [some (4, (p0 : Int)), some (4, (p1 : Int)), some (0, x2), some (0, x3)] [(4, (p0 : Int)), (0, x3), (4, ((p0 + 11 : Nat) : Int))] G R V9)
      refine wp_getA (k := 12) rfl rfl rfl (ly4_o l0) rfl rfl (ly4_12 l0).1 (?_ : wpv K_X4_sortFound d P 41 [some (4, (p0 : Int)), some (4, (p1 : Int)), some (0, x2), some (0, x3)] [(4, ((p0 + 11 : Nat) : Int)), (0, x3), (4, ((p0 + 11 : Nat) : Int))] G R V9)
      refine wp_ld (i := (.iload_n 3)) (0, x3) rfl rfl (fun _ => rfl) rfl rfl (?_ : wpv K_X4_sortFound d P 42 [some (4, (p0 : Int)), some (4, (p1 : Int)), some (0, x2), some (0, x3)] [(0, x3), (4, ((p0 + 11 : Nat) : Int)), (0, x3), (4, ((p0 + 11 : Nat) : Int))] G R V9)
      refine wp_p (i := (.iconst 1)) rfl rfl (fun _ _ _ => rfl) (?_ : wpv K_X4_sortFound d P 43 [some (4, (p0 : Int)), some (4, (p1 : Int)), some (0, x2), some (0, x3)] [(0, 1), (0, x3), (4, ((p0 + 11 : Nat) : Int)), (0, x3), (4, ((p0 + 11 : Nat) : Int))] G R V9)
      refine wp_xsub rfl rfl s5 (?_ : wpv K_X4_sortFound d P 44 [some (4, (p0 : Int)), some (4, (p1 : Int)), some (0, x2), some (0, x3)] [(0, (x3 - 1)), (4, ((p0 + 11 : Nat) : Int)), (0, x3), (4, ((p0 + 11 : Nat) : Int))] G R V9)
      refine wp_rng (fun vr15 => ?_)
      have f16 : i32 (V9 (p0 + 11) ((x3 - 1))) := vr_a0 vr15 (ly4_12 l0).2 s6
      replace w := w f16
      refine wp_aI rfl rfl (ly4_12 l0).2 s6 (?_ : wpv K_X4_sortFound d P 45 [some (4, (p0 : Int)), some (4, (p1 : Int)), some (0, x2), some (0, x3)] [(0, (V9 (p0 + 11) ((x3 - 1)))), (0, x3), (4, ((p0 + 11 : Nat) : Int))] G R V9)
      obtain ⟨s17, w⟩ := w
      refine wp_sI rfl rfl (ly4_12 l0).2 s17 f16 (?_ : wpv K_X4_sortFound d P 46 [some (4, (p0 : Int)), some (4, (p1 : Int)), some (0, x2), some (0, x3)] [] G R (wr V9 (p0 + 11) x3 ((V9 (p0 + 11) ((x3 - 1))))))
      obtain ⟨s18, w⟩ := w
      refine wp_inc (x := 3) (k := -1) (a := x3) (c := (x3 - 1)) _ rfl rfl rfl rfl (by have := s18; unfold i32 at *; omega) (by omega) rfl ?_
      show wpv K_X4_sortFound d P 49 [some (4, (p0 : Int)), some (4, (p1 : Int)), some (0, x2), some (0, (x3 - 1))] [] G R (wr V9 (p0 + 11) x3 ((V9 (p0 + 11) ((x3 - 1)))))
      refine wp_go 12 rfl rfl rfl (?_ : wpv K_X4_sortFound d P 12 [some (4, (p0 : Int)), some (4, (p1 : Int)), some (0, x2), some (0, (x3 - 1))] [] G R (wr V9 (p0 + 11) x3 ((V9 (p0 + 11) ((x3 - 1))))))
      exact wp_wk (wk_s (wk_s (wk_s (wk_s wk_0)))) w
theorem t_X4_numberClasses_0 {d : Nat} {P : gP} {p0 : Nat} {p1 : Nat} {G : List gS} {R V : gV} (l0 : lay4 G R p0) (l1 : lay3 G R p1) (w : wpv K_X4_numberClasses d P 7 [some (4, (p0 : Int)), some (4, (p1 : Int)), some (0, 0)] [] G R (wr V p0 1 0)) : wpv K_X4_numberClasses d P 0 [some (4, (p0 : Int)), some (4, (p1 : Int))] [] G R V := by
  refine wp_ld (i := (.aload_n 0)) (4, (p0 : Int)) rfl rfl (fun _ => rfl) rfl rfl (?_ : wpv K_X4_numberClasses d P 1 [some (4, (p0 : Int)), some (4, (p1 : Int))] [(4, (p0 : Int))] G R V)
  refine wp_p (i := (.iconst 0)) rfl rfl (fun _ _ _ => rfl) (?_ : wpv K_X4_numberClasses d P 2 [some (4, (p0 : Int)), some (4, (p1 : Int))] [(0, 0), (4, (p0 : Int))] G R V)
  refine wp_putI (k := 1) rfl rfl rfl (ly4_o l0) rfl rfl rfl ⟨by omega, by omega⟩ (?_ : wpv K_X4_numberClasses d P 5 [some (4, (p0 : Int)), some (4, (p1 : Int))] [] G R (wr V p0 1 0))
  refine wp_p (i := (.iconst 0)) rfl rfl (fun _ _ _ => rfl) (?_ : wpv K_X4_numberClasses d P 6 [some (4, (p0 : Int)), some (4, (p1 : Int))] [(0, 0)] G R (wr V p0 1 0))
  refine wp_sto (i := (.istore_n 2)) _ rfl rfl (fun _ => rfl) rfl rfl rfl ?_
  refine wp_wk (L' := [some (4, (p0 : Int)), some (4, (p1 : Int)), some (0, 0)]) (wk_s (wk_s (wk_s wk_0))) ?_
  show wpv K_X4_numberClasses d P 7 [some (4, (p0 : Int)), some (4, (p1 : Int)), some (0, 0)] [] G R (wr V p0 1 0)
  exact wp_wk (wk_s (wk_s (wk_s wk_0))) w

theorem t_X4_numberClasses_7 {d : Nat} {P : gP} {p0 : Nat} {p1 : Nat} {x2 : Int} {G : List gS} {R V : gV} (l0 : lay4 G R p0) (l1 : lay3 G R p1) (w : ((i32 (V p0 0)) → ((i32 x2) ∧ (((¬ x2 < (V p0 0)) → P none V) ∧ ((x2 < (V p0 0)) → ((0 ≤ x2 ∧ x2 < 300) ∧ ((i32 (V (p0 + 11) x2)) → ((0 ≤ (V (p0 + 11) x2) ∧ (V (p0 + 11) x2) < 300) ∧ ((i32 (V (p1 + 4) ((V (p0 + 11) x2)))) → cwv d (fun r V8 => ∃ v9 : Int, r = some (0, v9) ∧ ((i32 (V8 p0 1)) → ((i32 v9) ∧ (((¬ v9 = (V8 p0 1)) → ((0 ≤ v9 ∧ v9 < 300) ∧ ((i32 (V8 (p0 + 8) v9)) → ((i32 ((V8 (p0 + 8) v9) + 1)) ∧ ((i32 (x2 + 1)) ∧ wpv K_X4_numberClasses d P 7 [some (4, (p0 : Int)), some (4, (p1 : Int)), some (0, (x2 + 1))] [] G R (wr (wr V8 (p0 + 4) x2 v9) (p0 + 8) v9 (((V8 (p0 + 8) v9) + 1)))))))) ∧ ((v9 = (V8 p0 1)) → ((0 ≤ v9 ∧ v9 < 300) ∧ ((i32 ((V8 p0 1) + 1)) ∧ ((i32 (x2 + 1)) ∧ wpv K_X4_numberClasses d P 7 [some (4, (p0 : Int)), some (4, (p1 : Int)), some (0, (x2 + 1))] [] G R (wr (wr (wr (wr (wr V8 (p0 + 7) v9 x2) (p0 + 8) v9 0) p0 1 (((V8 p0 1) + 1))) (p0 + 4) x2 v9) (p0 + 8) v9 1))))))))) 76 [(4, (p0 : Int)), (4, (p1 : Int)), (0, (V (p1 + 4) ((V (p0 + 11) x2))))] G R V))))))))) : wpv K_X4_numberClasses d P 7 [some (4, (p0 : Int)), some (4, (p1 : Int)), some (0, x2)] [] G R V := by
  refine wp_ld (i := (.iload_n 2)) (0, x2) rfl rfl (fun _ => rfl) rfl rfl (?_ : wpv K_X4_numberClasses d P 8 [some (4, (p0 : Int)), some (4, (p1 : Int)), some (0, x2)] [(0, x2)] G R V)
  refine wp_ld (i := (.aload_n 0)) (4, (p0 : Int)) rfl rfl (fun _ => rfl) rfl rfl (?_ : wpv K_X4_numberClasses d P 9 [some (4, (p0 : Int)), some (4, (p1 : Int)), some (0, x2)] [(4, (p0 : Int)), (0, x2)] G R V)
  refine wp_rng (fun vr1 => ?_)
  have f2 : i32 (V p0 0) := vr_f0 vr1 (ly4_o l0) rfl rfl
  replace w := w f2
  refine wp_getI (k := 0) rfl rfl rfl (ly4_o l0) rfl rfl (?_ : wpv K_X4_numberClasses d P 12 [some (4, (p0 : Int)), some (4, (p1 : Int)), some (0, x2)] [(0, (V p0 0)), (0, x2)] G R V)
  obtain ⟨s3, w⟩ := w
  refine wp_icmp (c := .ge) 87 rfl rfl rfl s3 f2 (fun q => ?_) (fun q => ?_)
  · have q : ¬ x2 < (V p0 0) := q
    replace w := w.1 q
    show wpv K_X4_numberClasses d P 87 [some (4, (p0 : Int)), some (4, (p1 : Int)), some (0, x2)] [] G R V
    exact wp_r0 rfl rfl rfl w
  · have q : x2 < (V p0 0) := Decidable.not_not.mp q
    replace w := w.2 q
    show wpv K_X4_numberClasses d P 15 [some (4, (p0 : Int)), some (4, (p1 : Int)), some (0, x2)] [] G R V
    refine wp_ld (i := (.aload_n 0)) (4, (p0 : Int)) rfl rfl (fun _ => rfl) rfl rfl (?_ : wpv K_X4_numberClasses d P 16 [some (4, (p0 : Int)), some (4, (p1 : Int)), some (0, x2)] [(4, (p0 : Int))] G R V)
    refine wp_ld (i := (.aload_n 1)) (4, (p1 : Int)) rfl rfl (fun _ => rfl) rfl rfl (?_ : wpv K_X4_numberClasses d P 17 [some (4, (p0 : Int)), some (4, (p1 : Int)), some (0, x2)] [(4, (p1 : Int)), (4, (p0 : Int))] G R V)
    refine wp_ld (i := (.aload_n 1)) (4, (p1 : Int)) rfl rfl (fun _ => rfl) rfl rfl (?_ : wpv K_X4_numberClasses d P 18 [some (4, (p0 : Int)), some (4, (p1 : Int)), some (0, x2)] [(4, (p1 : Int)), (4, (p1 : Int)), (4, (p0 : Int))] G R V)
    refine wp_getA (k := 4) rfl rfl rfl (ly3_o l1) rfl rfl (ly3_4 l1).1 (?_ : wpv K_X4_numberClasses d P 21 [some (4, (p0 : Int)), some (4, (p1 : Int)), some (0, x2)] [(4, ((p1 + 4 : Nat) : Int)), (4, (p1 : Int)), (4, (p0 : Int))] G R V)
    refine wp_ld (i := (.aload_n 0)) (4, (p0 : Int)) rfl rfl (fun _ => rfl) rfl rfl (?_ : wpv K_X4_numberClasses d P 22 [some (4, (p0 : Int)), some (4, (p1 : Int)), some (0, x2)] [(4, (p0 : Int)), (4, ((p1 + 4 : Nat) : Int)), (4, (p1 : Int)), (4, (p0 : Int))] G R V)
    refine wp_getA (k := 12) rfl rfl rfl (ly4_o l0) rfl rfl (ly4_12 l0).1 (?_ : wpv K_X4_numberClasses d P 25 [some (4, (p0 : Int)), some (4, (p1 : Int)), some (0, x2)] [(4, ((p0 + 11 : Nat) : Int)), (4, ((p1 + 4 : Nat) : Int)), (4, (p1 : Int)), (4, (p0 : Int))] G R V)
    refine wp_ld (i := (.iload_n 2)) (0, x2) rfl rfl (fun _ => rfl) rfl rfl (?_ : wpv K_X4_numberClasses d P 26 [some (4, (p0 : Int)), some (4, (p1 : Int)), some (0, x2)] [(0, x2), (4, ((p0 + 11 : Nat) : Int)), (4, ((p1 + 4 : Nat) : Int)), (4, (p1 : Int)), (4, (p0 : Int))] G R V)
    obtain ⟨s4, w⟩ := w
    have f5 : i32 (V (p0 + 11) x2) := vr_a0 vr1 (ly4_12 l0).2 s4
    replace w := w f5
    refine wp_aI rfl rfl (ly4_12 l0).2 s4 (?_ : wpv K_X4_numberClasses d P 27 [some (4, (p0 : Int)), some (4, (p1 : Int)), some (0, x2)] [(0, (V (p0 + 11) x2)), (4, ((p1 + 4 : Nat) : Int)), (4, (p1 : Int)), (4, (p0 : Int))] G R V)
    obtain ⟨s6, w⟩ := w
    have f7 : i32 (V (p1 + 4) ((V (p0 + 11) x2))) := vr_a0 vr1 (ly3_4 l1).2 s6
    replace w := w f7
    refine wp_aI rfl rfl (ly3_4 l1).2 s6 (?_ : wpv K_X4_numberClasses d P 28 [some (4, (p0 : Int)), some (4, (p1 : Int)), some (0, x2)] [(0, (V (p1 + 4) ((V (p0 + 11) x2)))), (4, (p1 : Int)), (4, (p0 : Int))] G R V)
    refine wp_virt (as := [(4, (p1 : Int)), (0, (V (p1 + 4) ((V (p0 + 11) x2))))]) (a := p0) (st := []) _ rfl rfl rfl rfl rfl rfl (ly4_o l0) (Nat.le_of_ble_eq_true rfl) (cwv_kI w (fun v9 V8 w => ?_))
    show wpv K_X4_numberClasses d P 31 [some (4, (p0 : Int)), some (4, (p1 : Int)), some (0, x2)] [(0, v9)] G R V8
    refine wp_sto (i := (.istore_n 3)) _ rfl rfl (fun _ => rfl) rfl rfl rfl ?_
    refine wp_wk (L' := [some (4, (p0 : Int)), some (4, (p1 : Int)), some (0, x2), some (0, v9)]) (wk_s (wk_s (wk_s (wk_s wk_0)))) ?_
    show wpv K_X4_numberClasses d P 32 [some (4, (p0 : Int)), some (4, (p1 : Int)), some (0, x2), some (0, v9)] [] G R V8
    refine wp_ld (i := (.iload_n 3)) (0, v9) rfl rfl (fun _ => rfl) rfl rfl (?_ : wpv K_X4_numberClasses d P 33 [some (4, (p0 : Int)), some (4, (p1 : Int)), some (0, x2), some (0, v9)] [(0, v9)] G R V8)
    refine wp_ld (i := (.aload_n 0)) (4, (p0 : Int)) rfl rfl (fun _ => rfl) rfl rfl (?_ : wpv K_X4_numberClasses d P 34 [some (4, (p0 : Int)), some (4, (p1 : Int)), some (0, x2), some (0, v9)] [(4, (p0 : Int)), (0, v9)] G R V8)
    refine wp_rng (fun vr10 => ?_)
    have f11 : i32 (V8 p0 1) := vr_f0 vr10 (ly4_o l0) rfl rfl
    replace w := w f11
    refine wp_getI (k := 1) rfl rfl rfl (ly4_o l0) rfl rfl (?_ : wpv K_X4_numberClasses d P 37 [some (4, (p0 : Int)), some (4, (p1 : Int)), some (0, x2), some (0, v9)] [(0, (V8 p0 1)), (0, v9)] G R V8)
    obtain ⟨s12, w⟩ := w
    refine wp_icmp (c := .ne) 64 rfl rfl rfl s12 f11 (fun q => ?_) (fun q => ?_)
    · have q : ¬ v9 = (V8 p0 1) := q
      replace w := w.1 q
      show wpv K_X4_numberClasses d P 64 [some (4, (p0 : Int)), some (4, (p1 : Int)), some (0, x2), some (0, v9)] [] G R V8
      refine wp_ld (i := (.aload_n 0)) (4, (p0 : Int)) rfl rfl (fun _ => rfl) rfl rfl (?_ : wpv K_X4_numberClasses d P 65 [some (4, (p0 : Int)), some (4, (p1 : Int)), some (0, x2), some (0, v9)] [(4, (p0 : Int))] G R V8)
      refine wp_getA (k := 5) rfl rfl rfl (ly4_o l0) rfl rfl (ly4_5 l0).1 (?_ : wpv K_X4_numberClasses d P 68 [some (4, (p0 : Int)), some (4, (p1 : Int)), some (0, x2), some (0, v9)] [(4, ((p0 + 4 : Nat) : Int))] G R V8)
      refine wp_ld (i := (.iload_n 2)) (0, x2) rfl rfl (fun _ => rfl) rfl rfl (?_ : wpv K_X4_numberClasses d P 69 [some (4, (p0 : Int)), some (4, (p1 : Int)), some (0, x2), some (0, v9)] [(0, x2), (4, ((p0 + 4 : Nat) : Int))] G R V8)
      refine wp_ld (i := (.iload_n 3)) (0, v9) rfl rfl (fun _ => rfl) rfl rfl (?_ : wpv K_X4_numberClasses d P 70 [some (4, (p0 : Int)), some (4, (p1 : Int)), some (0, x2), some (0, v9)] [(0, v9), (0, x2), (4, ((p0 + 4 : Nat) : Int))] G R V8)
      refine wp_sI rfl rfl (ly4_5 l0).2 s4 s12 (?_ : wpv K_X4_numberClasses d P 71 [some (4, (p0 : Int)), some (4, (p1 : Int)), some (0, x2), some (0, v9)] [] G R (wr V8 (p0 + 4) x2 v9))
      refine wp_ld (i := (.aload_n 0)) (4, (p0 : Int)) rfl rfl (fun _ => rfl) rfl rfl (?_ : wpv K_X4_numberClasses d P 72 [some (4, (p0 : Int)), some (4, (p1 : Int)), some (0, x2), some (0, v9)] [(4, (p0 : Int))] G R (wr V8 (p0 + 4) x2 v9))
      refine wp_getA (k := 9) rfl rfl rfl (ly4_o l0) rfl rfl (ly4_9 l0).1 (?_ : wpv K_X4_numberClasses d P 75 [some (4, (p0 : Int)), some (4, (p1 : Int)), some (0, x2), some (0, v9)] [(4, ((p0 + 8 : Nat) : Int))] G R (wr V8 (p0 + 4) x2 v9))
      refine wp_ld (i := (.iload_n 3)) (0, v9) rfl rfl (fun _ => rfl) rfl rfl (?_ : wpv K_X4_numberClasses d P 76 [some (4, (p0 : Int)), some (4, (p1 : Int)), some (0, x2), some (0, v9)] [(0, v9), (4, ((p0 + 8 : Nat) : Int))] G R (wr V8 (p0 + 4) x2 v9))
      refine wp_p (i := .dup2) rfl rfl (fun _ _ _ => rfl) (?_ : wpv K_X4_numberClasses d P 77 [some (4, (p0 : Int)), some (4, (p1 : Int)), some (0, x2), some (0, v9)] [(0, v9), (4, ((p0 + 8 : Nat) : Int)), (0, v9), (4, ((p0 + 8 : Nat) : Int))] G R (wr V8 (p0 + 4) x2 v9))
      obtain ⟨s13, w⟩ := w
      refine wp_rng (fun vr14 => ?_)
      have r15 : ((wr V8 (p0 + 4) x2 v9) (p0 + 8) v9) = (V8 (p0 + 8) v9) := (wr_a (by omega))
      have f16 : i32 (V8 (p0 + 8) v9) := (by have h := vr_a0 vr14 (ly4_9 l0).2 s13; rw [r15] at h; exact h)
      replace w := w f16
      refine wp_aIe rfl rfl (ly4_9 l0).2 s13 r15 (?_ : wpv K_X4_numberClasses d P 78 [some (4, (p0 : Int)), some (4, (p1 : Int)), some (0, x2), some (0, v9)] [(0, (V8 (p0 + 8) v9)), (0, v9), (4, ((p0 + 8 : Nat) : Int))] G R (wr V8 (p0 + 4) x2 v9))
      refine wp_p (i := (.iconst 1)) rfl rfl (fun _ _ _ => rfl) (?_ : wpv K_X4_numberClasses d P 79 [some (4, (p0 : Int)), some (4, (p1 : Int)), some (0, x2), some (0, v9)] [(0, 1), (0, (V8 (p0 + 8) v9)), (0, v9), (4, ((p0 + 8 : Nat) : Int))] G R (wr V8 (p0 + 4) x2 v9))
      obtain ⟨s17, w⟩ := w
      refine wp_xadd rfl rfl s17 (?_ : wpv K_X4_numberClasses d P 80 [some (4, (p0 : Int)), some (4, (p1 : Int)), some (0, x2), some (0, v9)] [(0, ((V8 (p0 + 8) v9) + 1)), (0, v9), (4, ((p0 + 8 : Nat) : Int))] G R (wr V8 (p0 + 4) x2 v9))
      refine wp_sI rfl rfl (ly4_9 l0).2 s13 s17 (?_ : wpv K_X4_numberClasses d P 81 [some (4, (p0 : Int)), some (4, (p1 : Int)), some (0, x2), some (0, v9)] [] G R (wr (wr V8 (p0 + 4) x2 v9) (p0 + 8) v9 (((V8 (p0 + 8) v9) + 1))))
      obtain ⟨s18, w⟩ := w
      refine wp_inc (x := 2) (k := 1) (a := x2) (c := (x2 + 1)) _ rfl rfl rfl rfl s18 (by omega) rfl ?_
      show wpv K_X4_numberClasses d P 84 [some (4, (p0 : Int)), some (4, (p1 : Int)), some (0, (x2 + 1)), some (0, v9)] [] G R (wr (wr V8 (p0 + 4) x2 v9) (p0 + 8) v9 (((V8 (p0 + 8) v9) + 1)))
      refine wp_go 7 rfl rfl rfl (?_ : wpv K_X4_numberClasses d P 7 [some (4, (p0 : Int)), some (4, (p1 : Int)), some (0, (x2 + 1)), some (0, v9)] [] G R (wr (wr V8 (p0 + 4) x2 v9) (p0 + 8) v9 (((V8 (p0 + 8) v9) + 1))))
      exact wp_wk (wk_s (wk_s (wk_s wk_0))) w
    · have q : v9 = (V8 p0 1) := Decidable.not_not.mp q
      replace w := w.2 q
      show wpv K_X4_numberClasses d P 40 [some (4, (p0 : Int)), some (4, (p1 : Int)), some (0, x2), some (0, v9)] [] G R V8
      refine wp_ld (i := (.aload_n 0)) (4, (p0 : Int)) rfl rfl (fun _ => rfl) rfl rfl (?_ : wpv K_X4_numberClasses d P 41 [some (4, (p0 : Int)), some (4, (p1 : Int)), some (0, x2), some (0, v9)] [(4, (p0 : Int))] G R V8)
      refine wp_getA (k := 8) rfl rfl rfl (ly4_o l0) rfl rfl (ly4_8 l0).1 (?_ : wpv K_X4_numberClasses d P 44 [some (4, (p0 : Int)), some (4, (p1 : Int)), some (0, x2), some (0, v9)] [(4, ((p0 + 7 : Nat) : Int))] G R V8)
      refine wp_ld (i := (.iload_n 3)) (0, v9) rfl rfl (fun _ => rfl) rfl rfl (?_ : wpv K_X4_numberClasses d P 45 [some (4, (p0 : Int)), some (4, (p1 : Int)), some (0, x2), some (0, v9)] [(0, v9), (4, ((p0 + 7 : Nat) : Int))] G R V8)
      refine wp_ld (i := (.iload_n 2)) (0, x2) rfl rfl (fun _ => rfl) rfl rfl (?_ : wpv K_X4_numberClasses d P 46 [some (4, (p0 : Int)), some (4, (p1 : Int)), some (0, x2), some (0, v9)] [(0, x2), (0, v9), (4, ((p0 + 7 : Nat) : Int))] G R V8)
      obtain ⟨s19, w⟩ := w
      refine wp_sI rfl rfl (ly4_8 l0).2 s19 s3 (?_ : wpv K_X4_numberClasses d P 47 [some (4, (p0 : Int)), some (4, (p1 : Int)), some (0, x2), some (0, v9)] [] G R (wr V8 (p0 + 7) v9 x2))
      refine wp_ld (i := (.aload_n 0)) (4, (p0 : Int)) rfl rfl (fun _ => rfl) rfl rfl (?_ : wpv K_X4_numberClasses d P 48 [some (4, (p0 : Int)), some (4, (p1 : Int)), some (0, x2), some (0, v9)] [(4, (p0 : Int))] G R (wr V8 (p0 + 7) v9 x2))
      refine wp_getA (k := 9) rfl rfl rfl (ly4_o l0) rfl rfl (ly4_9 l0).1 (?_ : wpv K_X4_numberClasses d P 51 [some (4, (p0 : Int)), some (4, (p1 : Int)), some (0, x2), some (0, v9)] [(4, ((p0 + 8 : Nat) : Int))] G R (wr V8 (p0 + 7) v9 x2))
      refine wp_ld (i := (.iload_n 3)) (0, v9) rfl rfl (fun _ => rfl) rfl rfl (?_ : wpv K_X4_numberClasses d P 52 [some (4, (p0 : Int)), some (4, (p1 : Int)), some (0, x2), some (0, v9)] [(0, v9), (4, ((p0 + 8 : Nat) : Int))] G R (wr V8 (p0 + 7) v9 x2))
      refine wp_p (i := (.iconst 0)) rfl rfl (fun _ _ _ => rfl) (?_ : wpv K_X4_numberClasses d P 53 [some (4, (p0 : Int)), some (4, (p1 : Int)), some (0, x2), some (0, v9)] [(0, 0), (0, v9), (4, ((p0 + 8 : Nat) : Int))] G R (wr V8 (p0 + 7) v9 x2))
      refine wp_sI rfl rfl (ly4_9 l0).2 s19 ⟨by omega, by omega⟩ (?_ : wpv K_X4_numberClasses d P 54 [some (4, (p0 : Int)), some (4, (p1 : Int)), some (0, x2), some (0, v9)] [] G R (wr (wr V8 (p0 + 7) v9 x2) (p0 + 8) v9 0))
      refine wp_ld (i := (.aload_n 0)) (4, (p0 : Int)) rfl rfl (fun _ => rfl) rfl rfl (?_ : wpv K_X4_numberClasses d P 55 [some (4, (p0 : Int)), some (4, (p1 : Int)), some (0, x2), some (0, v9)] [(4, (p0 : Int))] G R (wr (wr V8 (p0 + 7) v9 x2) (p0 + 8) v9 0))
      refine wp_p (i := .dup) rfl rfl (fun _ _ _ => rfl) (?_ : wpv K_X4_numberClasses d P 56 [some (4, (p0 : Int)), some (4, (p1 : Int)), some (0, x2), some (0, v9)] [(4, (p0 : Int)), (4, (p0 : Int))] G R (wr (wr V8 (p0 + 7) v9 x2) (p0 + 8) v9 0))
      refine wp_rng (fun vr20 => ?_)
      have r21 : ((wr (wr V8 (p0 + 7) v9 x2) (p0 + 8) v9 0) p0 1) = (V8 p0 1) := ((wr_a (by omega)).trans (wr_a (by omega)))
      refine wp_getIe (k := 1) rfl rfl rfl (ly4_o l0) rfl rfl r21 (?_ : wpv K_X4_numberClasses d P 59 [some (4, (p0 : Int)), some (4, (p1 : Int)), some (0, x2), some (0, v9)] [(0, (V8 p0 1)), (4, (p0 : Int))] G R (wr (wr V8 (p0 + 7) v9 x2) (p0 + 8) v9 0))
      refine wp_p (i := (.iconst 1)) rfl rfl (fun _ _ _ => rfl) (?_ : wpv K_X4_numberClasses d P 60 [some (4, (p0 : Int)), some (4, (p1 : Int)), some (0, x2), some (0, v9)] [(0, 1), (0, (V8 p0 1)), (4, (p0 : Int))] G R (wr (wr V8 (p0 + 7) v9 x2) (p0 + 8) v9 0))
      obtain ⟨s22, w⟩ := w
      refine wp_xadd rfl rfl s22 (?_ : wpv K_X4_numberClasses d P 61 [some (4, (p0 : Int)), some (4, (p1 : Int)), some (0, x2), some (0, v9)] [(0, ((V8 p0 1) + 1)), (4, (p0 : Int))] G R (wr (wr V8 (p0 + 7) v9 x2) (p0 + 8) v9 0))
      refine wp_putI (k := 1) rfl rfl rfl (ly4_o l0) rfl rfl rfl s22 (?_ : wpv K_X4_numberClasses d P 64 [some (4, (p0 : Int)), some (4, (p1 : Int)), some (0, x2), some (0, v9)] [] G R (wr (wr (wr V8 (p0 + 7) v9 x2) (p0 + 8) v9 0) p0 1 (((V8 p0 1) + 1))))
      refine wp_ld (i := (.aload_n 0)) (4, (p0 : Int)) rfl rfl (fun _ => rfl) rfl rfl (?_ : wpv K_X4_numberClasses d P 65 [some (4, (p0 : Int)), some (4, (p1 : Int)), some (0, x2), some (0, v9)] [(4, (p0 : Int))] G R (wr (wr (wr V8 (p0 + 7) v9 x2) (p0 + 8) v9 0) p0 1 (((V8 p0 1) + 1))))
      refine wp_getA (k := 5) rfl rfl rfl (ly4_o l0) rfl rfl (ly4_5 l0).1 (?_ : wpv K_X4_numberClasses d P 68 [some (4, (p0 : Int)), some (4, (p1 : Int)), some (0, x2), some (0, v9)] [(4, ((p0 + 4 : Nat) : Int))] G R (wr (wr (wr V8 (p0 + 7) v9 x2) (p0 + 8) v9 0) p0 1 (((V8 p0 1) + 1))))
      refine wp_ld (i := (.iload_n 2)) (0, x2) rfl rfl (fun _ => rfl) rfl rfl (?_ : wpv K_X4_numberClasses d P 69 [some (4, (p0 : Int)), some (4, (p1 : Int)), some (0, x2), some (0, v9)] [(0, x2), (4, ((p0 + 4 : Nat) : Int))] G R (wr (wr (wr V8 (p0 + 7) v9 x2) (p0 + 8) v9 0) p0 1 (((V8 p0 1) + 1))))
      refine wp_ld (i := (.iload_n 3)) (0, v9) rfl rfl (fun _ => rfl) rfl rfl (?_ : wpv K_X4_numberClasses d P 70 [some (4, (p0 : Int)), some (4, (p1 : Int)), some (0, x2), some (0, v9)] [(0, v9), (0, x2), (4, ((p0 + 4 : Nat) : Int))] G R (wr (wr (wr V8 (p0 + 7) v9 x2) (p0 + 8) v9 0) p0 1 (((V8 p0 1) + 1))))
      refine wp_sI rfl rfl (ly4_5 l0).2 s4 s12 (?_ : wpv K_X4_numberClasses d P 71 [some (4, (p0 : Int)), some (4, (p1 : Int)), some (0, x2), some (0, v9)] [] G R (wr (wr (wr (wr V8 (p0 + 7) v9 x2) (p0 + 8) v9 0) p0 1 (((V8 p0 1) + 1))) (p0 + 4) x2 v9))
      refine wp_ld (i := (.aload_n 0)) (4, (p0 : Int)) rfl rfl (fun _ => rfl) rfl rfl (?_ : wpv K_X4_numberClasses d P 72 [some (4, (p0 : Int)), some (4, (p1 : Int)), some (0, x2), some (0, v9)] [(4, (p0 : Int))] G R (wr (wr (wr (wr V8 (p0 + 7) v9 x2) (p0 + 8) v9 0) p0 1 (((V8 p0 1) + 1))) (p0 + 4) x2 v9))
      refine wp_getA (k := 9) rfl rfl rfl (ly4_o l0) rfl rfl (ly4_9 l0).1 (?_ : wpv K_X4_numberClasses d P 75 [some (4, (p0 : Int)), some (4, (p1 : Int)), some (0, x2), some (0, v9)] [(4, ((p0 + 8 : Nat) : Int))] G R (wr (wr (wr (wr V8 (p0 + 7) v9 x2) (p0 + 8) v9 0) p0 1 (((V8 p0 1) + 1))) (p0 + 4) x2 v9))
      refine wp_ld (i := (.iload_n 3)) (0, v9) rfl rfl (fun _ => rfl) rfl rfl (?_ : wpv K_X4_numberClasses d P 76 [some (4, (p0 : Int)), some (4, (p1 : Int)), some (0, x2), some (0, v9)] [(0, v9), (4, ((p0 + 8 : Nat) : Int))] G R (wr (wr (wr (wr V8 (p0 + 7) v9 x2) (p0 + 8) v9 0) p0 1 (((V8 p0 1) + 1))) (p0 + 4) x2 v9))
      refine wp_p (i := .dup2) rfl rfl (fun _ _ _ => rfl) (?_ : wpv K_X4_numberClasses d P 77 [some (4, (p0 : Int)), some (4, (p1 : Int)), some (0, x2), some (0, v9)] [(0, v9), (4, ((p0 + 8 : Nat) : Int)), (0, v9), (4, ((p0 + 8 : Nat) : Int))] G R (wr (wr (wr (wr V8 (p0 + 7) v9 x2) (p0 + 8) v9 0) p0 1 (((V8 p0 1) + 1))) (p0 + 4) x2 v9))
      refine wp_rng (fun vr23 => ?_)
      have r24 : ((wr (wr (wr (wr V8 (p0 + 7) v9 x2) (p0 + 8) v9 0) p0 1 (((V8 p0 1) + 1))) (p0 + 4) x2 v9) (p0 + 8) v9) = 0 := ((wr_a (by omega)).trans ((wr_a (by omega)).trans (wr_same _ _ _ _)))
      refine wp_aIe rfl rfl (ly4_9 l0).2 s19 r24 (?_ : wpv K_X4_numberClasses d P 78 [some (4, (p0 : Int)), some (4, (p1 : Int)), some (0, x2), some (0, v9)] [(0, 0), (0, v9), (4, ((p0 + 8 : Nat) : Int))] G R (wr (wr (wr (wr V8 (p0 + 7) v9 x2) (p0 + 8) v9 0) p0 1 (((V8 p0 1) + 1))) (p0 + 4) x2 v9))
      refine wp_p (i := (.iconst 1)) rfl rfl (fun _ _ _ => rfl) (?_ : wpv K_X4_numberClasses d P 79 [some (4, (p0 : Int)), some (4, (p1 : Int)), some (0, x2), some (0, v9)] [(0, 1), (0, 0), (0, v9), (4, ((p0 + 8 : Nat) : Int))] G R (wr (wr (wr (wr V8 (p0 + 7) v9 x2) (p0 + 8) v9 0) p0 1 (((V8 p0 1) + 1))) (p0 + 4) x2 v9))
      refine wp_bin (i := .iadd) rfl rfl (fun _ => rfl) rfl (?_ : wpv K_X4_numberClasses d P 80 [some (4, (p0 : Int)), some (4, (p1 : Int)), some (0, x2), some (0, v9)] [(0, 1), (0, v9), (4, ((p0 + 8 : Nat) : Int))] G R (wr (wr (wr (wr V8 (p0 + 7) v9 x2) (p0 + 8) v9 0) p0 1 (((V8 p0 1) + 1))) (p0 + 4) x2 v9))
      refine wp_sI rfl rfl (ly4_9 l0).2 s19 ⟨by omega, by omega⟩ (?_ : wpv K_X4_numberClasses d P 81 [some (4, (p0 : Int)), some (4, (p1 : Int)), some (0, x2), some (0, v9)] [] G R (wr (wr (wr (wr (wr V8 (p0 + 7) v9 x2) (p0 + 8) v9 0) p0 1 (((V8 p0 1) + 1))) (p0 + 4) x2 v9) (p0 + 8) v9 1))
      obtain ⟨s25, w⟩ := w
      refine wp_inc (x := 2) (k := 1) (a := x2) (c := (x2 + 1)) _ rfl rfl rfl rfl s25 (by omega) rfl ?_
      show wpv K_X4_numberClasses d P 84 [some (4, (p0 : Int)), some (4, (p1 : Int)), some (0, (x2 + 1)), some (0, v9)] [] G R (wr (wr (wr (wr (wr V8 (p0 + 7) v9 x2) (p0 + 8) v9 0) p0 1 (((V8 p0 1) + 1))) (p0 + 4) x2 v9) (p0 + 8) v9 1)
      refine wp_go 7 rfl rfl rfl (?_ : wpv K_X4_numberClasses d P 7 [some (4, (p0 : Int)), some (4, (p1 : Int)), some (0, (x2 + 1)), some (0, v9)] [] G R (wr (wr (wr (wr (wr V8 (p0 + 7) v9 x2) (p0 + 8) v9 0) p0 1 (((V8 p0 1) + 1))) (p0 + 4) x2 v9) (p0 + 8) v9 1))
      exact wp_wk (wk_s (wk_s (wk_s wk_0))) w
theorem t_X4_classOfKind_0 {d : Nat} {P : gP} {p0 : Nat} {p1 : Nat} {x2 : Int} {G : List gS} {R V : gV} (l0 : lay4 G R p0) (l1 : lay3 G R p1) (w : wpv K_X4_classOfKind d P 2 [some (4, (p0 : Int)), some (4, (p1 : Int)), some (0, x2), some (0, 0)] [] G R V) : wpv K_X4_classOfKind d P 0 [some (4, (p0 : Int)), some (4, (p1 : Int)), some (0, x2)] [] G R V := by
  refine wp_p (i := (.iconst 0)) rfl rfl (fun _ _ _ => rfl) (?_ : wpv K_X4_classOfKind d P 1 [some (4, (p0 : Int)), some (4, (p1 : Int)), some (0, x2)] [(0, 0)] G R V)
  refine wp_sto (i := (.istore_n 3)) _ rfl rfl (fun _ => rfl) rfl rfl rfl ?_
  refine wp_wk (L' := [some (4, (p0 : Int)), some (4, (p1 : Int)), some (0, x2), some (0, 0)]) (wk_s (wk_s (wk_s (wk_s wk_0)))) ?_
  show wpv K_X4_classOfKind d P 2 [some (4, (p0 : Int)), some (4, (p1 : Int)), some (0, x2), some (0, 0)] [] G R V
  exact wp_wk (wk_s (wk_s (wk_s (wk_s wk_0)))) w

theorem t_X4_classOfKind_2 {d : Nat} {P : gP} {p0 : Nat} {p1 : Nat} {x2 : Int} {x3 : Int} {G : List gS} {R V : gV} (l0 : lay4 G R p0) (l1 : lay3 G R p1) (w : ((i32 (V p0 1)) → ((i32 x3) ∧ (((¬ x3 < (V p0 1)) → P (some (0, (V p0 1))) V) ∧ ((x3 < (V p0 1)) → ((0 ≤ x3 ∧ x3 < 300) ∧ ((i32 (V (p0 + 7) x3)) → ((0 ≤ (V (p0 + 7) x3) ∧ (V (p0 + 7) x3) < 300) ∧ ((i32 (V (p0 + 11) ((V (p0 + 7) x3)))) → ((0 ≤ (V (p0 + 11) ((V (p0 + 7) x3))) ∧ (V (p0 + 11) ((V (p0 + 7) x3))) < 300) ∧ ((i32 (V (p1 + 4) ((V (p0 + 11) ((V (p0 + 7) x3)))))) → ((i32 x2) ∧ (((¬ (V (p1 + 4) ((V (p0 + 11) ((V (p0 + 7) x3))))) = x2) → ((i32 (x3 + 1)) ∧ wpv K_X4_classOfKind d P 2 [some (4, (p0 : Int)), some (4, (p1 : Int)), some (0, x2), some (0, (x3 + 1))] [] G R V)) ∧ (((V (p1 + 4) ((V (p0 + 11) ((V (p0 + 7) x3))))) = x2) → P (some (0, x3)) V)))))))))))))) : wpv K_X4_classOfKind d P 2 [some (4, (p0 : Int)), some (4, (p1 : Int)), some (0, x2), some (0, x3)] [] G R V := by
  refine wp_ld (i := (.iload_n 3)) (0, x3) rfl rfl (fun _ => rfl) rfl rfl (?_ : wpv K_X4_classOfKind d P 3 [some (4, (p0 : Int)), some (4, (p1 : Int)), some (0, x2), some (0, x3)] [(0, x3)] G R V)
  refine wp_ld (i := (.aload_n 0)) (4, (p0 : Int)) rfl rfl (fun _ => rfl) rfl rfl (?_ : wpv K_X4_classOfKind d P 4 [some (4, (p0 : Int)), some (4, (p1 : Int)), some (0, x2), some (0, x3)] [(4, (p0 : Int)), (0, x3)] G R V)
  refine wp_rng (fun vr1 => ?_)
  have f2 : i32 (V p0 1) := vr_f0 vr1 (ly4_o l0) rfl rfl
  replace w := w f2
  refine wp_getI (k := 1) rfl rfl rfl (ly4_o l0) rfl rfl (?_ : wpv K_X4_classOfKind d P 7 [some (4, (p0 : Int)), some (4, (p1 : Int)), some (0, x2), some (0, x3)] [(0, (V p0 1)), (0, x3)] G R V)
  obtain ⟨s3, w⟩ := w
  refine wp_icmp (c := .ge) 38 rfl rfl rfl s3 f2 (fun q => ?_) (fun q => ?_)
  · have q : ¬ x3 < (V p0 1) := q
    replace w := w.1 q
    show wpv K_X4_classOfKind d P 38 [some (4, (p0 : Int)), some (4, (p1 : Int)), some (0, x2), some (0, x3)] [] G R V
    refine wp_ld (i := (.aload_n 0)) (4, (p0 : Int)) rfl rfl (fun _ => rfl) rfl rfl (?_ : wpv K_X4_classOfKind d P 39 [some (4, (p0 : Int)), some (4, (p1 : Int)), some (0, x2), some (0, x3)] [(4, (p0 : Int))] G R V)
    refine wp_getI (k := 1) rfl rfl rfl (ly4_o l0) rfl rfl (?_ : wpv K_X4_classOfKind d P 42 [some (4, (p0 : Int)), some (4, (p1 : Int)), some (0, x2), some (0, x3)] [(0, (V p0 1))] G R V)
    exact wp_rI rfl rfl rfl w
  · have q : x3 < (V p0 1) := Decidable.not_not.mp q
    replace w := w.2 q
    show wpv K_X4_classOfKind d P 10 [some (4, (p0 : Int)), some (4, (p1 : Int)), some (0, x2), some (0, x3)] [] G R V
    refine wp_ld (i := (.aload_n 1)) (4, (p1 : Int)) rfl rfl (fun _ => rfl) rfl rfl (?_ : wpv K_X4_classOfKind d P 11 [some (4, (p0 : Int)), some (4, (p1 : Int)), some (0, x2), some (0, x3)] [(4, (p1 : Int))] G R V)
    refine wp_getA (k := 4) rfl rfl rfl (ly3_o l1) rfl rfl (ly3_4 l1).1 (?_ : wpv K_X4_classOfKind d P 14 [some (4, (p0 : Int)), some (4, (p1 : Int)), some (0, x2), some (0, x3)] [(4, ((p1 + 4 : Nat) : Int))] G R V)
    refine wp_ld (i := (.aload_n 0)) (4, (p0 : Int)) rfl rfl (fun _ => rfl) rfl rfl (?_ : wpv K_X4_classOfKind d P 15 [some (4, (p0 : Int)), some (4, (p1 : Int)), some (0, x2), some (0, x3)] [(4, (p0 : Int)), (4, ((p1 + 4 : Nat) : Int))] G R V)
    refine wp_getA (k := 12) rfl rfl rfl (ly4_o l0) rfl rfl (ly4_12 l0).1 (?_ : wpv K_X4_classOfKind d P 18 [some (4, (p0 : Int)), some (4, (p1 : Int)), some (0, x2), some (0, x3)] [(4, ((p0 + 11 : Nat) : Int)), (4, ((p1 + 4 : Nat) : Int))] G R V)
    refine wp_ld (i := (.aload_n 0)) (4, (p0 : Int)) rfl rfl (fun _ => rfl) rfl rfl (?_ : wpv K_X4_classOfKind d P 19 [some (4, (p0 : Int)), some (4, (p1 : Int)), some (0, x2), some (0, x3)] [(4, (p0 : Int)), (4, ((p0 + 11 : Nat) : Int)), (4, ((p1 + 4 : Nat) : Int))] G R V)
    refine wp_getA (k := 8) rfl rfl rfl (ly4_o l0) rfl rfl (ly4_8 l0).1 (?_ : wpv K_X4_classOfKind d P 22 [some (4, (p0 : Int)), some (4, (p1 : Int)), some (0, x2), some (0, x3)] [(4, ((p0 + 7 : Nat) : Int)), (4, ((p0 + 11 : Nat) : Int)), (4, ((p1 + 4 : Nat) : Int))] G R V)
    refine wp_ld (i := (.iload_n 3)) (0, x3) rfl rfl (fun _ => rfl) rfl rfl (?_ : wpv K_X4_classOfKind d P 23 [some (4, (p0 : Int)), some (4, (p1 : Int)), some (0, x2), some (0, x3)] [(0, x3), (4, ((p0 + 7 : Nat) : Int)), (4, ((p0 + 11 : Nat) : Int)), (4, ((p1 + 4 : Nat) : Int))] G R V)
    obtain ⟨s4, w⟩ := w
    have f5 : i32 (V (p0 + 7) x3) := vr_a0 vr1 (ly4_8 l0).2 s4
    replace w := w f5
    refine wp_aI rfl rfl (ly4_8 l0).2 s4 (?_ : wpv K_X4_classOfKind d P 24 [some (4, (p0 : Int)), some (4, (p1 : Int)), some (0, x2), some (0, x3)] [(0, (V (p0 + 7) x3)), (4, ((p0 + 11 : Nat) : Int)), (4, ((p1 + 4 : Nat) : Int))] G R V)
    obtain ⟨s6, w⟩ := w
    have f7 : i32 (V (p0 + 11) ((V (p0 + 7) x3))) := vr_a0 vr1 (ly4_12 l0).2 s6
    replace w := w f7
    refine wp_aI rfl rfl (ly4_12 l0).2 s6 (?_ : wpv K_X4_classOfKind d P 25 [some (4, (p0 : Int)), some (4, (p1 : Int)), some (0, x2), some (0, x3)] [(0, (V (p0 + 11) ((V (p0 + 7) x3)))), (4, ((p1 + 4 : Nat) : Int))] G R V)
    obtain ⟨s8, w⟩ := w
    have f9 : i32 (V (p1 + 4) ((V (p0 + 11) ((V (p0 + 7) x3))))) := vr_a0 vr1 (ly3_4 l1).2 s8
    replace w := w f9
    refine wp_aI rfl rfl (ly3_4 l1).2 s8 (?_ : wpv K_X4_classOfKind d P 26 [some (4, (p0 : Int)), some (4, (p1 : Int)), some (0, x2), some (0, x3)] [(0, (V (p1 + 4) ((V (p0 + 11) ((V (p0 + 7) x3))))))] G R V)
    refine wp_ld (i := (.iload_n 2)) (0, x2) rfl rfl (fun _ => rfl) rfl rfl (?_ : wpv K_X4_classOfKind d P 27 [some (4, (p0 : Int)), some (4, (p1 : Int)), some (0, x2), some (0, x3)] [(0, x2), (0, (V (p1 + 4) ((V (p0 + 11) ((V (p0 + 7) x3))))))] G R V)
    obtain ⟨s10, w⟩ := w
    refine wp_icmp (c := .ne) 32 rfl rfl rfl f9 s10 (fun q => ?_) (fun q => ?_)
    · have q : ¬ (V (p1 + 4) ((V (p0 + 11) ((V (p0 + 7) x3))))) = x2 := q
      replace w := w.1 q
      show wpv K_X4_classOfKind d P 32 [some (4, (p0 : Int)), some (4, (p1 : Int)), some (0, x2), some (0, x3)] [] G R V
      obtain ⟨s11, w⟩ := w
      refine wp_inc (x := 3) (k := 1) (a := x3) (c := (x3 + 1)) _ rfl rfl rfl rfl s11 (by omega) rfl ?_
      show wpv K_X4_classOfKind d P 35 [some (4, (p0 : Int)), some (4, (p1 : Int)), some (0, x2), some (0, (x3 + 1))] [] G R V
      refine wp_go 2 rfl rfl rfl (?_ : wpv K_X4_classOfKind d P 2 [some (4, (p0 : Int)), some (4, (p1 : Int)), some (0, x2), some (0, (x3 + 1))] [] G R V)
      exact wp_wk (wk_s (wk_s (wk_s (wk_s wk_0)))) w
    · have q : (V (p1 + 4) ((V (p0 + 11) ((V (p0 + 7) x3))))) = x2 := Decidable.not_not.mp q
      replace w := w.2 q
      show wpv K_X4_classOfKind d P 30 [some (4, (p0 : Int)), some (4, (p1 : Int)), some (0, x2), some (0, x3)] [] G R V
      refine wp_ld (i := (.iload_n 3)) (0, x3) rfl rfl (fun _ => rfl) rfl rfl (?_ : wpv K_X4_classOfKind d P 31 [some (4, (p0 : Int)), some (4, (p1 : Int)), some (0, x2), some (0, x3)] [(0, x3)] G R V)
      exact wp_rI rfl rfl rfl w
theorem t_X4_fillMadeBy_0 {d : Nat} {P : gP} {p0 : Nat} {p1 : Nat} {G : List gS} {R V : gV} (l0 : lay4 G R p0) (l1 : lay6 G R p1) (w : wpv K_X4_fillMadeBy d P 2 [some (4, (p0 : Int)), some (4, (p1 : Int)), some (0, 0)] [] G R V) : wpv K_X4_fillMadeBy d P 0 [some (4, (p0 : Int)), some (4, (p1 : Int))] [] G R V := by
  refine wp_p (i := (.iconst 0)) rfl rfl (fun _ _ _ => rfl) (?_ : wpv K_X4_fillMadeBy d P 1 [some (4, (p0 : Int)), some (4, (p1 : Int))] [(0, 0)] G R V)
  refine wp_sto (i := (.istore_n 2)) _ rfl rfl (fun _ => rfl) rfl rfl rfl ?_
  refine wp_wk (L' := [some (4, (p0 : Int)), some (4, (p1 : Int)), some (0, 0)]) (wk_s (wk_s (wk_s wk_0))) ?_
  show wpv K_X4_fillMadeBy d P 2 [some (4, (p0 : Int)), some (4, (p1 : Int)), some (0, 0)] [] G R V
  exact wp_wk (wk_s (wk_s (wk_s wk_0))) w

theorem t_X4_fillMadeBy_2 {d : Nat} {P : gP} {p0 : Nat} {p1 : Nat} {x2 : Int} {G : List gS} {R V : gV} (l0 : lay4 G R p0) (l1 : lay6 G R p1) (w : ((i32 (V p1 1)) → ((i32 x2) ∧ (((¬ x2 < (V p1 1)) → P none V) ∧ ((x2 < (V p1 1)) → wpv K_X4_fillMadeBy d P 21 [some (4, (p0 : Int)), some (4, (p1 : Int)), some (0, x2), some (2, 1), none, some (2, 0), none, some (0, x2), some (0, 1)] [] G R V))))) : wpv K_X4_fillMadeBy d P 2 [some (4, (p0 : Int)), some (4, (p1 : Int)), some (0, x2)] [] G R V := by
  refine wp_ld (i := (.iload_n 2)) (0, x2) rfl rfl (fun _ => rfl) rfl rfl (?_ : wpv K_X4_fillMadeBy d P 3 [some (4, (p0 : Int)), some (4, (p1 : Int)), some (0, x2)] [(0, x2)] G R V)
  refine wp_ld (i := (.aload_n 1)) (4, (p1 : Int)) rfl rfl (fun _ => rfl) rfl rfl (?_ : wpv K_X4_fillMadeBy d P 4 [some (4, (p0 : Int)), some (4, (p1 : Int)), some (0, x2)] [(4, (p1 : Int)), (0, x2)] G R V)
  refine wp_rng (fun vr1 => ?_)
  have f2 : i32 (V p1 1) := vr_f0 vr1 (ly6_o l1) rfl rfl
  replace w := w f2
  refine wp_getI (k := 1) rfl rfl rfl (ly6_o l1) rfl rfl (?_ : wpv K_X4_fillMadeBy d P 7 [some (4, (p0 : Int)), some (4, (p1 : Int)), some (0, x2)] [(0, (V p1 1)), (0, x2)] G R V)
  obtain ⟨s3, w⟩ := w
  refine wp_icmp (c := .ge) 88 rfl rfl rfl s3 f2 (fun q => ?_) (fun q => ?_)
  · have q : ¬ x2 < (V p1 1) := q
    replace w := w.1 q
    show wpv K_X4_fillMadeBy d P 88 [some (4, (p0 : Int)), some (4, (p1 : Int)), some (0, x2)] [] G R V
    exact wp_r0 rfl rfl rfl w
  · have q : x2 < (V p1 1) := Decidable.not_not.mp q
    replace w := w.2 q
    show wpv K_X4_fillMadeBy d P 10 [some (4, (p0 : Int)), some (4, (p1 : Int)), some (0, x2)] [] G R V
    refine wp_p (i := (.lconst 1)) rfl rfl (fun _ _ _ => rfl) (?_ : wpv K_X4_fillMadeBy d P 11 [some (4, (p0 : Int)), some (4, (p1 : Int)), some (0, x2)] [(2, 1)] G R V)
    refine wp_lsto (i := (.lstore_n 3)) _ rfl rfl (fun _ => rfl) rfl rfl rfl ?_
    refine wp_wk (L' := [some (4, (p0 : Int)), some (4, (p1 : Int)), some (0, x2), some (2, 1)]) (wk_s (wk_s (wk_s (wk_s wk_0)))) ?_
    show wpv K_X4_fillMadeBy d P 12 [some (4, (p0 : Int)), some (4, (p1 : Int)), some (0, x2), some (2, 1)] [] G R V
    refine wp_p (i := (.lconst 0)) rfl rfl (fun _ _ _ => rfl) (?_ : wpv K_X4_fillMadeBy d P 13 [some (4, (p0 : Int)), some (4, (p1 : Int)), some (0, x2), some (2, 1)] [(2, 0)] G R V)
    refine wp_lsto (i := (.lstore 5)) _ rfl rfl (fun _ => rfl) rfl rfl rfl ?_
    refine wp_wk (L' := [some (4, (p0 : Int)), some (4, (p1 : Int)), some (0, x2), some (2, 1), none, some (2, 0)]) (wk_s (wk_s (wk_s (wk_s (wk_n (wk_s wk_0)))))) ?_
    show wpv K_X4_fillMadeBy d P 15 [some (4, (p0 : Int)), some (4, (p1 : Int)), some (0, x2), some (2, 1), none, some (2, 0)] [] G R V
    refine wp_ld (i := (.iload_n 2)) (0, x2) rfl rfl (fun _ => rfl) rfl rfl (?_ : wpv K_X4_fillMadeBy d P 16 [some (4, (p0 : Int)), some (4, (p1 : Int)), some (0, x2), some (2, 1), none, some (2, 0)] [(0, x2)] G R V)
    refine wp_sto (i := (.istore 7)) _ rfl rfl (fun _ => rfl) rfl rfl rfl ?_
    refine wp_wk (L' := [some (4, (p0 : Int)), some (4, (p1 : Int)), some (0, x2), some (2, 1), none, some (2, 0), none, some (0, x2)]) (wk_s (wk_s (wk_s (wk_s (wk_n (wk_s (wk_n (wk_s wk_0)))))))) ?_
    show wpv K_X4_fillMadeBy d P 18 [some (4, (p0 : Int)), some (4, (p1 : Int)), some (0, x2), some (2, 1), none, some (2, 0), none, some (0, x2)] [] G R V
    refine wp_p (i := (.iconst 1)) rfl rfl (fun _ _ _ => rfl) (?_ : wpv K_X4_fillMadeBy d P 19 [some (4, (p0 : Int)), some (4, (p1 : Int)), some (0, x2), some (2, 1), none, some (2, 0), none, some (0, x2)] [(0, 1)] G R V)
    refine wp_sto (i := (.istore 8)) _ rfl rfl (fun _ => rfl) rfl rfl rfl ?_
    refine wp_wk (L' := [some (4, (p0 : Int)), some (4, (p1 : Int)), some (0, x2), some (2, 1), none, some (2, 0), none, some (0, x2), some (0, 1)]) (wk_s (wk_s (wk_s (wk_s (wk_n (wk_s (wk_n (wk_s (wk_s wk_0))))))))) ?_
    show wpv K_X4_fillMadeBy d P 21 [some (4, (p0 : Int)), some (4, (p1 : Int)), some (0, x2), some (2, 1), none, some (2, 0), none, some (0, x2), some (0, 1)] [] G R V
    exact wp_wk (wk_s (wk_s (wk_s (wk_s (wk_n (wk_s (wk_n (wk_s (wk_s wk_0))))))))) w

theorem t_X4_fillMadeBy_21 {d : Nat} {P : gP} {p0 : Nat} {p1 : Nat} {x2 : Int} {x3 : Int} {x5 : Int} {x7 : Int} {x8 : Int} {G : List gS} {R V : gV} (l0 : lay4 G R p0) (l1 : lay6 G R p1) (w : ((0 ≤ x2 ∧ x2 < 120) ∧ ((i32 (V (p1 + 3) x2)) → ((i32 x8) ∧ (((¬ x8 < (V (p1 + 3) x2)) → cwv d (fun r V5 => ∃ v6 : Int, r = some (0, v6) ∧ ((i32 v6) ∧ ((i32 (x2 + 1)) ∧ wpv K_X4_fillMadeBy d P 2 [some (4, (p0 : Int)), some (4, (p1 : Int)), some (0, (x2 + 1))] [] G R (wr V5 (p0 + 5) x2 ((if 0 < v6 then v6 else 0)))))) 62 [(4, (p0 : Int)), (2, x3), (2, x5)] G R V) ∧ ((x8 < (V (p1 + 3) x2)) → cwv d (fun r V10 => ∃ v11 : Int, r = some (2, v11) ∧ cwv d (fun r V12 => ∃ v13 : Int, r = some (2, v13) ∧ cwv d (fun r V14 => ∃ v15 : Int, r = some (0, v15) ∧ ((i32 (x8 + 1)) ∧ wpv K_X4_fillMadeBy d P 21 [some (4, (p0 : Int)), some (4, (p1 : Int)), some (0, x2), some (2, (jor x3 v11)), none, some (2, (jor x5 v13)), none, some (0, v15), some (0, (x8 + 1))] [] G R V14)) 89 [(4, (p1 : Int)), (0, x7), (0, x2)] G R V12) 151 [(0, x7)] G R V10) 150 [(0, x7)] G R V)))))) : wpv K_X4_fillMadeBy d P 21 [some (4, (p0 : Int)), some (4, (p1 : Int)), some (0, x2), some (2, x3), none, some (2, x5), none, some (0, x7), some (0, x8)] [] G R V := by
  refine wp_ld (i := (.iload 8)) (0, x8) rfl rfl (fun _ => rfl) rfl rfl (?_ : wpv K_X4_fillMadeBy d P 23 [some (4, (p0 : Int)), some (4, (p1 : Int)), some (0, x2), some (2, x3), none, some (2, x5), none, some (0, x7), some (0, x8)] [(0, x8)] G R V)
  refine wp_ld (i := (.aload_n 1)) (4, (p1 : Int)) rfl rfl (fun _ => rfl) rfl rfl (?_ : wpv K_X4_fillMadeBy d P 24 [some (4, (p0 : Int)), some (4, (p1 : Int)), some (0, x2), some (2, x3), none, some (2, x5), none, some (0, x7), some (0, x8)] [(4, (p1 : Int)), (0, x8)] G R V)
  refine wp_getA (k := 5) rfl rfl rfl (ly6_o l1) rfl rfl (ly6_5 l1).1 (?_ : wpv K_X4_fillMadeBy d P 27 [some (4, (p0 : Int)), some (4, (p1 : Int)), some (0, x2), some (2, x3), none, some (2, x5), none, some (0, x7), some (0, x8)] [(4, ((p1 + 3 : Nat) : Int)), (0, x8)] G R V)
  refine wp_ld (i := (.iload_n 2)) (0, x2) rfl rfl (fun _ => rfl) rfl rfl (?_ : wpv K_X4_fillMadeBy d P 28 [some (4, (p0 : Int)), some (4, (p1 : Int)), some (0, x2), some (2, x3), none, some (2, x5), none, some (0, x7), some (0, x8)] [(0, x2), (4, ((p1 + 3 : Nat) : Int)), (0, x8)] G R V)
  obtain ⟨s1, w⟩ := w
  refine wp_rng (fun vr2 => ?_)
  have f3 : i32 (V (p1 + 3) x2) := vr_a0 vr2 (ly6_5 l1).2 s1
  replace w := w f3
  refine wp_aI rfl rfl (ly6_5 l1).2 s1 (?_ : wpv K_X4_fillMadeBy d P 29 [some (4, (p0 : Int)), some (4, (p1 : Int)), some (0, x2), some (2, x3), none, some (2, x5), none, some (0, x7), some (0, x8)] [(0, (V (p1 + 3) x2)), (0, x8)] G R V)
  obtain ⟨s4, w⟩ := w
  refine wp_icmp (c := .ge) 65 rfl rfl rfl s4 f3 (fun q => ?_) (fun q => ?_)
  · have q : ¬ x8 < (V (p1 + 3) x2) := q
    replace w := w.1 q
    show wpv K_X4_fillMadeBy d P 65 [some (4, (p0 : Int)), some (4, (p1 : Int)), some (0, x2), some (2, x3), none, some (2, x5), none, some (0, x7), some (0, x8)] [] G R V
    refine wp_ld (i := (.aload_n 0)) (4, (p0 : Int)) rfl rfl (fun _ => rfl) rfl rfl (?_ : wpv K_X4_fillMadeBy d P 66 [some (4, (p0 : Int)), some (4, (p1 : Int)), some (0, x2), some (2, x3), none, some (2, x5), none, some (0, x7), some (0, x8)] [(4, (p0 : Int))] G R V)
    refine wp_getA (k := 6) rfl rfl rfl (ly4_o l0) rfl rfl (ly4_6 l0).1 (?_ : wpv K_X4_fillMadeBy d P 69 [some (4, (p0 : Int)), some (4, (p1 : Int)), some (0, x2), some (2, x3), none, some (2, x5), none, some (0, x7), some (0, x8)] [(4, ((p0 + 5 : Nat) : Int))] G R V)
    refine wp_ld (i := (.iload_n 2)) (0, x2) rfl rfl (fun _ => rfl) rfl rfl (?_ : wpv K_X4_fillMadeBy d P 70 [some (4, (p0 : Int)), some (4, (p1 : Int)), some (0, x2), some (2, x3), none, some (2, x5), none, some (0, x7), some (0, x8)] [(0, x2), (4, ((p0 + 5 : Nat) : Int))] G R V)
    refine wp_p (i := (.iconst 0)) rfl rfl (fun _ _ _ => rfl) (?_ : wpv K_X4_fillMadeBy d P 71 [some (4, (p0 : Int)), some (4, (p1 : Int)), some (0, x2), some (2, x3), none, some (2, x5), none, some (0, x7), some (0, x8)] [(0, 0), (0, x2), (4, ((p0 + 5 : Nat) : Int))] G R V)
    refine wp_ld (i := (.aload_n 0)) (4, (p0 : Int)) rfl rfl (fun _ => rfl) rfl rfl (?_ : wpv K_X4_fillMadeBy d P 72 [some (4, (p0 : Int)), some (4, (p1 : Int)), some (0, x2), some (2, x3), none, some (2, x5), none, some (0, x7), some (0, x8)] [(4, (p0 : Int)), (0, 0), (0, x2), (4, ((p0 + 5 : Nat) : Int))] G R V)
    refine wp_ld (i := (.lload_n 3)) (2, x3) rfl rfl (fun _ => rfl) rfl rfl (?_ : wpv K_X4_fillMadeBy d P 73 [some (4, (p0 : Int)), some (4, (p1 : Int)), some (0, x2), some (2, x3), none, some (2, x5), none, some (0, x7), some (0, x8)] [(2, x3), (4, (p0 : Int)), (0, 0), (0, x2), (4, ((p0 + 5 : Nat) : Int))] G R V)
    refine wp_ld (i := (.lload 5)) (2, x5) rfl rfl (fun _ => rfl) rfl rfl (?_ : wpv K_X4_fillMadeBy d P 75 [some (4, (p0 : Int)), some (4, (p1 : Int)), some (0, x2), some (2, x3), none, some (2, x5), none, some (0, x7), some (0, x8)] [(2, x5), (2, x3), (4, (p0 : Int)), (0, 0), (0, x2), (4, ((p0 + 5 : Nat) : Int))] G R V)
    refine wp_virt (as := [(2, x3), (2, x5)]) (a := p0) (st := [(0, 0), (0, x2), (4, ((p0 + 5 : Nat) : Int))]) _ rfl rfl rfl rfl rfl rfl (ly4_o l0) (Nat.le_of_ble_eq_true rfl) (cwv_kI w (fun v6 V5 w => ?_))
    show wpv K_X4_fillMadeBy d P 78 [some (4, (p0 : Int)), some (4, (p1 : Int)), some (0, x2), some (2, x3), none, some (2, x5), none, some (0, x7), some (0, x8)] [(0, v6), (0, 0), (0, x2), (4, ((p0 + 5 : Nat) : Int))] G R V5
    obtain ⟨s7, w⟩ := w
    have f8 : i32 (if 0 < v6 then v6 else 0) := by split <;> first | exact s7 | exact ⟨by omega, by omega⟩
    refine wp_max rfl rfl rfl (Nat.le_of_ble_eq_true rfl) ⟨by omega, by omega⟩ s7 rfl (?_ : wpv K_X4_fillMadeBy d P 81 [some (4, (p0 : Int)), some (4, (p1 : Int)), some (0, x2), some (2, x3), none, some (2, x5), none, some (0, x7), some (0, x8)] [(0, (if 0 < v6 then v6 else 0)), (0, x2), (4, ((p0 + 5 : Nat) : Int))] G R V5)
    refine wp_sI rfl rfl (ly4_6 l0).2 s1 f8 (?_ : wpv K_X4_fillMadeBy d P 82 [some (4, (p0 : Int)), some (4, (p1 : Int)), some (0, x2), some (2, x3), none, some (2, x5), none, some (0, x7), some (0, x8)] [] G R (wr V5 (p0 + 5) x2 ((if 0 < v6 then v6 else 0))))
    obtain ⟨s9, w⟩ := w
    refine wp_inc (x := 2) (k := 1) (a := x2) (c := (x2 + 1)) _ rfl rfl rfl rfl s9 (by omega) rfl ?_
    show wpv K_X4_fillMadeBy d P 85 [some (4, (p0 : Int)), some (4, (p1 : Int)), some (0, (x2 + 1)), some (2, x3), none, some (2, x5), none, some (0, x7), some (0, x8)] [] G R (wr V5 (p0 + 5) x2 ((if 0 < v6 then v6 else 0)))
    refine wp_go 2 rfl rfl rfl (?_ : wpv K_X4_fillMadeBy d P 2 [some (4, (p0 : Int)), some (4, (p1 : Int)), some (0, (x2 + 1)), some (2, x3), none, some (2, x5), none, some (0, x7), some (0, x8)] [] G R (wr V5 (p0 + 5) x2 ((if 0 < v6 then v6 else 0))))
    exact wp_wk (wk_s (wk_s (wk_s wk_0))) w
  · have q : x8 < (V (p1 + 3) x2) := Decidable.not_not.mp q
    replace w := w.2 q
    show wpv K_X4_fillMadeBy d P 32 [some (4, (p0 : Int)), some (4, (p1 : Int)), some (0, x2), some (2, x3), none, some (2, x5), none, some (0, x7), some (0, x8)] [] G R V
    refine wp_ld (i := (.lload_n 3)) (2, x3) rfl rfl (fun _ => rfl) rfl rfl (?_ : wpv K_X4_fillMadeBy d P 33 [some (4, (p0 : Int)), some (4, (p1 : Int)), some (0, x2), some (2, x3), none, some (2, x5), none, some (0, x7), some (0, x8)] [(2, x3)] G R V)
    refine wp_ld (i := (.iload 7)) (0, x7) rfl rfl (fun _ => rfl) rfl rfl (?_ : wpv K_X4_fillMadeBy d P 35 [some (4, (p0 : Int)), some (4, (p1 : Int)), some (0, x2), some (2, x3), none, some (2, x5), none, some (0, x7), some (0, x8)] [(0, x7), (2, x3)] G R V)
    refine wp_stat (as := [(0, x7)]) (st := [(2, x3)]) _ rfl rfl rfl (by omega) rfl rfl (Nat.le_of_ble_eq_true rfl) (cwv_kJ w (fun v11 V10 w => ?_))
    show wpv K_X4_fillMadeBy d P 38 [some (4, (p0 : Int)), some (4, (p1 : Int)), some (0, x2), some (2, x3), none, some (2, x5), none, some (0, x7), some (0, x8)] [(2, v11), (2, x3)] G R V10
    refine wp_jor rfl rfl (?_ : wpv K_X4_fillMadeBy d P 39 [some (4, (p0 : Int)), some (4, (p1 : Int)), some (0, x2), some (2, x3), none, some (2, x5), none, some (0, x7), some (0, x8)] [(2, (jor x3 v11))] G R V10)
    refine wp_lsto (i := (.lstore_n 3)) _ rfl rfl (fun _ => rfl) rfl rfl rfl ?_
    refine wp_wk (L' := [some (4, (p0 : Int)), some (4, (p1 : Int)), some (0, x2), some (2, (jor x3 v11)), none, some (2, x5), none, some (0, x7), some (0, x8)]) (wk_s (wk_s (wk_s (wk_s (wk_n (wk_s (wk_n (wk_s (wk_s wk_0))))))))) ?_
    show wpv K_X4_fillMadeBy d P 40 [some (4, (p0 : Int)), some (4, (p1 : Int)), some (0, x2), some (2, (jor x3 v11)), none, some (2, x5), none, some (0, x7), some (0, x8)] [] G R V10
    refine wp_ld (i := (.lload 5)) (2, x5) rfl rfl (fun _ => rfl) rfl rfl (?_ : wpv K_X4_fillMadeBy d P 42 [some (4, (p0 : Int)), some (4, (p1 : Int)), some (0, x2), some (2, (jor x3 v11)), none, some (2, x5), none, some (0, x7), some (0, x8)] [(2, x5)] G R V10)
    refine wp_ld (i := (.iload 7)) (0, x7) rfl rfl (fun _ => rfl) rfl rfl (?_ : wpv K_X4_fillMadeBy d P 44 [some (4, (p0 : Int)), some (4, (p1 : Int)), some (0, x2), some (2, (jor x3 v11)), none, some (2, x5), none, some (0, x7), some (0, x8)] [(0, x7), (2, x5)] G R V10)
    refine wp_stat (as := [(0, x7)]) (st := [(2, x5)]) _ rfl rfl rfl (by omega) rfl rfl (Nat.le_of_ble_eq_true rfl) (cwv_kJ w (fun v13 V12 w => ?_))
    show wpv K_X4_fillMadeBy d P 47 [some (4, (p0 : Int)), some (4, (p1 : Int)), some (0, x2), some (2, (jor x3 v11)), none, some (2, x5), none, some (0, x7), some (0, x8)] [(2, v13), (2, x5)] G R V12
    refine wp_jor rfl rfl (?_ : wpv K_X4_fillMadeBy d P 48 [some (4, (p0 : Int)), some (4, (p1 : Int)), some (0, x2), some (2, (jor x3 v11)), none, some (2, x5), none, some (0, x7), some (0, x8)] [(2, (jor x5 v13))] G R V12)
    refine wp_lsto (i := (.lstore 5)) _ rfl rfl (fun _ => rfl) rfl rfl rfl ?_
    refine wp_wk (L' := [some (4, (p0 : Int)), some (4, (p1 : Int)), some (0, x2), some (2, (jor x3 v11)), none, some (2, (jor x5 v13)), none, some (0, x7), some (0, x8)]) (wk_s (wk_s (wk_s (wk_s (wk_n (wk_s (wk_n (wk_s (wk_s wk_0))))))))) ?_
    show wpv K_X4_fillMadeBy d P 50 [some (4, (p0 : Int)), some (4, (p1 : Int)), some (0, x2), some (2, (jor x3 v11)), none, some (2, (jor x5 v13)), none, some (0, x7), some (0, x8)] [] G R V12
    refine wp_ld (i := (.aload_n 1)) (4, (p1 : Int)) rfl rfl (fun _ => rfl) rfl rfl (?_ : wpv K_X4_fillMadeBy d P 51 [some (4, (p0 : Int)), some (4, (p1 : Int)), some (0, x2), some (2, (jor x3 v11)), none, some (2, (jor x5 v13)), none, some (0, x7), some (0, x8)] [(4, (p1 : Int))] G R V12)
    refine wp_ld (i := (.iload 7)) (0, x7) rfl rfl (fun _ => rfl) rfl rfl (?_ : wpv K_X4_fillMadeBy d P 53 [some (4, (p0 : Int)), some (4, (p1 : Int)), some (0, x2), some (2, (jor x3 v11)), none, some (2, (jor x5 v13)), none, some (0, x7), some (0, x8)] [(0, x7), (4, (p1 : Int))] G R V12)
    refine wp_ld (i := (.iload_n 2)) (0, x2) rfl rfl (fun _ => rfl) rfl rfl (?_ : wpv K_X4_fillMadeBy d P 54 [some (4, (p0 : Int)), some (4, (p1 : Int)), some (0, x2), some (2, (jor x3 v11)), none, some (2, (jor x5 v13)), none, some (0, x7), some (0, x8)] [(0, x2), (0, x7), (4, (p1 : Int))] G R V12)
    refine wp_virt (as := [(0, x7), (0, x2)]) (a := p1) (st := []) _ rfl rfl rfl rfl rfl rfl (ly6_o l1) (Nat.le_of_ble_eq_true rfl) (cwv_kI w (fun v15 V14 w => ?_))
    show wpv K_X4_fillMadeBy d P 57 [some (4, (p0 : Int)), some (4, (p1 : Int)), some (0, x2), some (2, (jor x3 v11)), none, some (2, (jor x5 v13)), none, some (0, x7), some (0, x8)] [(0, v15)] G R V14
    refine wp_sto (i := (.istore 7)) _ rfl rfl (fun _ => rfl) rfl rfl rfl ?_
    refine wp_wk (L' := [some (4, (p0 : Int)), some (4, (p1 : Int)), some (0, x2), some (2, (jor x3 v11)), none, some (2, (jor x5 v13)), none, some (0, v15), some (0, x8)]) (wk_s (wk_s (wk_s (wk_s (wk_n (wk_s (wk_n (wk_s (wk_s wk_0))))))))) ?_
    show wpv K_X4_fillMadeBy d P 59 [some (4, (p0 : Int)), some (4, (p1 : Int)), some (0, x2), some (2, (jor x3 v11)), none, some (2, (jor x5 v13)), none, some (0, v15), some (0, x8)] [] G R V14
    obtain ⟨s16, w⟩ := w
    refine wp_inc (x := 8) (k := 1) (a := x8) (c := (x8 + 1)) _ rfl rfl rfl rfl s16 (by omega) rfl ?_
    show wpv K_X4_fillMadeBy d P 62 [some (4, (p0 : Int)), some (4, (p1 : Int)), some (0, x2), some (2, (jor x3 v11)), none, some (2, (jor x5 v13)), none, some (0, v15), some (0, (x8 + 1))] [] G R V14
    refine wp_go 21 rfl rfl rfl (?_ : wpv K_X4_fillMadeBy d P 21 [some (4, (p0 : Int)), some (4, (p1 : Int)), some (0, x2), some (2, (jor x3 v11)), none, some (2, (jor x5 v13)), none, some (0, v15), some (0, (x8 + 1))] [] G R V14)
    exact wp_wk (wk_s (wk_s (wk_s (wk_s (wk_n (wk_s (wk_n (wk_s (wk_s wk_0))))))))) w
theorem t_X4_fillSpare_0 {d : Nat} {P : gP} {p0 : Nat} {x1 : Int} {G : List gS} {R V : gV} (l0 : lay4 G R p0) (w : wpv K_X4_fillSpare d P 2 [some (4, (p0 : Int)), some (0, x1), some (0, 0)] [] G R V) : wpv K_X4_fillSpare d P 0 [some (4, (p0 : Int)), some (0, x1)] [] G R V := by
  refine wp_p (i := (.iconst 0)) rfl rfl (fun _ _ _ => rfl) (?_ : wpv K_X4_fillSpare d P 1 [some (4, (p0 : Int)), some (0, x1)] [(0, 0)] G R V)
  refine wp_sto (i := (.istore_n 2)) _ rfl rfl (fun _ => rfl) rfl rfl rfl ?_
  refine wp_wk (L' := [some (4, (p0 : Int)), some (0, x1), some (0, 0)]) (wk_s (wk_s (wk_s wk_0))) ?_
  show wpv K_X4_fillSpare d P 2 [some (4, (p0 : Int)), some (0, x1), some (0, 0)] [] G R V
  exact wp_wk (wk_s (wk_s (wk_s wk_0))) w

theorem t_X4_fillSpare_2 {d : Nat} {P : gP} {p0 : Nat} {x1 : Int} {x2 : Int} {G : List gS} {R V : gV} (l0 : lay4 G R p0) (w : ((i32 (V p0 1)) → ((i32 x2) ∧ (((¬ x2 < (V p0 1)) → P none V) ∧ ((x2 < (V p0 1)) → ((0 ≤ x2 ∧ x2 < 300) ∧ ((i32 (V (p0 + 8) x2)) → cwv d (fun r V6 => ∃ v7 : Int, r = some (0, v7) ∧ ((i32 ((V (p0 + 8) x2) * v7)) ∧ (((¬ 0 < ((V (p0 + 8) x2) * v7)) → ((i32 (x2 + 1)) ∧ wpv K_X4_fillSpare d P 2 [some (4, (p0 : Int)), some (0, x1), some (0, (x2 + 1))] [] G R (wr V6 (p0 + 10) x2 1))) ∧ ((0 < ((V (p0 + 8) x2) * v7)) → ((i32 x1) ∧ ((0 ≤ x1 ∧ 0 < ((V (p0 + 8) x2) * v7)) ∧ ((i32 ((x1 / ((V (p0 + 8) x2) * v7)))) ∧ ((i32 (x2 + 1)) ∧ wpv K_X4_fillSpare d P 2 [some (4, (p0 : Int)), some (0, x1), some (0, (x2 + 1))] [] G R (wr V6 (p0 + 10) x2 ((x1 / ((V (p0 + 8) x2) * v7)))))))))))) 60 [(4, (p0 : Int)), (0, x2)] G R V))))))) : wpv K_X4_fillSpare d P 2 [some (4, (p0 : Int)), some (0, x1), some (0, x2)] [] G R V := by
  refine wp_ld (i := (.iload_n 2)) (0, x2) rfl rfl (fun _ => rfl) rfl rfl (?_ : wpv K_X4_fillSpare d P 3 [some (4, (p0 : Int)), some (0, x1), some (0, x2)] [(0, x2)] G R V)
  refine wp_ld (i := (.aload_n 0)) (4, (p0 : Int)) rfl rfl (fun _ => rfl) rfl rfl (?_ : wpv K_X4_fillSpare d P 4 [some (4, (p0 : Int)), some (0, x1), some (0, x2)] [(4, (p0 : Int)), (0, x2)] G R V)
  refine wp_rng (fun vr1 => ?_)
  have f2 : i32 (V p0 1) := vr_f0 vr1 (ly4_o l0) rfl rfl
  replace w := w f2
  refine wp_getI (k := 1) rfl rfl rfl (ly4_o l0) rfl rfl (?_ : wpv K_X4_fillSpare d P 7 [some (4, (p0 : Int)), some (0, x1), some (0, x2)] [(0, (V p0 1)), (0, x2)] G R V)
  obtain ⟨s3, w⟩ := w
  refine wp_icmp (c := .ge) 46 rfl rfl rfl s3 f2 (fun q => ?_) (fun q => ?_)
  · have q : ¬ x2 < (V p0 1) := q
    replace w := w.1 q
    show wpv K_X4_fillSpare d P 46 [some (4, (p0 : Int)), some (0, x1), some (0, x2)] [] G R V
    exact wp_r0 rfl rfl rfl w
  · have q : x2 < (V p0 1) := Decidable.not_not.mp q
    replace w := w.2 q
    show wpv K_X4_fillSpare d P 10 [some (4, (p0 : Int)), some (0, x1), some (0, x2)] [] G R V
    refine wp_ld (i := (.aload_n 0)) (4, (p0 : Int)) rfl rfl (fun _ => rfl) rfl rfl (?_ : wpv K_X4_fillSpare d P 11 [some (4, (p0 : Int)), some (0, x1), some (0, x2)] [(4, (p0 : Int))] G R V)
    refine wp_getA (k := 9) rfl rfl rfl (ly4_o l0) rfl rfl (ly4_9 l0).1 (?_ : wpv K_X4_fillSpare d P 14 [some (4, (p0 : Int)), some (0, x1), some (0, x2)] [(4, ((p0 + 8 : Nat) : Int))] G R V)
    refine wp_ld (i := (.iload_n 2)) (0, x2) rfl rfl (fun _ => rfl) rfl rfl (?_ : wpv K_X4_fillSpare d P 15 [some (4, (p0 : Int)), some (0, x1), some (0, x2)] [(0, x2), (4, ((p0 + 8 : Nat) : Int))] G R V)
    obtain ⟨s4, w⟩ := w
    have f5 : i32 (V (p0 + 8) x2) := vr_a0 vr1 (ly4_9 l0).2 s4
    replace w := w f5
    refine wp_aI rfl rfl (ly4_9 l0).2 s4 (?_ : wpv K_X4_fillSpare d P 16 [some (4, (p0 : Int)), some (0, x1), some (0, x2)] [(0, (V (p0 + 8) x2))] G R V)
    refine wp_ld (i := (.aload_n 0)) (4, (p0 : Int)) rfl rfl (fun _ => rfl) rfl rfl (?_ : wpv K_X4_fillSpare d P 17 [some (4, (p0 : Int)), some (0, x1), some (0, x2)] [(4, (p0 : Int)), (0, (V (p0 + 8) x2))] G R V)
    refine wp_ld (i := (.iload_n 2)) (0, x2) rfl rfl (fun _ => rfl) rfl rfl (?_ : wpv K_X4_fillSpare d P 18 [some (4, (p0 : Int)), some (0, x1), some (0, x2)] [(0, x2), (4, (p0 : Int)), (0, (V (p0 + 8) x2))] G R V)
    refine wp_virt (as := [(0, x2)]) (a := p0) (st := [(0, (V (p0 + 8) x2))]) _ rfl rfl rfl rfl rfl rfl (ly4_o l0) (Nat.le_of_ble_eq_true rfl) (cwv_kI w (fun v7 V6 w => ?_))
    show wpv K_X4_fillSpare d P 21 [some (4, (p0 : Int)), some (0, x1), some (0, x2)] [(0, v7), (0, (V (p0 + 8) x2))] G R V6
    obtain ⟨s8, w⟩ := w
    refine wp_xmul rfl rfl s8 (?_ : wpv K_X4_fillSpare d P 22 [some (4, (p0 : Int)), some (0, x1), some (0, x2)] [(0, ((V (p0 + 8) x2) * v7))] G R V6)
    refine wp_sto (i := (.istore_n 3)) _ rfl rfl (fun _ => rfl) rfl rfl rfl ?_
    refine wp_wk (L' := [some (4, (p0 : Int)), some (0, x1), some (0, x2), some (0, ((V (p0 + 8) x2) * v7))]) (wk_s (wk_s (wk_s (wk_s wk_0)))) ?_
    show wpv K_X4_fillSpare d P 23 [some (4, (p0 : Int)), some (0, x1), some (0, x2), some (0, ((V (p0 + 8) x2) * v7))] [] G R V6
    refine wp_ld (i := (.aload_n 0)) (4, (p0 : Int)) rfl rfl (fun _ => rfl) rfl rfl (?_ : wpv K_X4_fillSpare d P 24 [some (4, (p0 : Int)), some (0, x1), some (0, x2), some (0, ((V (p0 + 8) x2) * v7))] [(4, (p0 : Int))] G R V6)
    refine wp_getA (k := 11) rfl rfl rfl (ly4_o l0) rfl rfl (ly4_11 l0).1 (?_ : wpv K_X4_fillSpare d P 27 [some (4, (p0 : Int)), some (0, x1), some (0, x2), some (0, ((V (p0 + 8) x2) * v7))] [(4, ((p0 + 10 : Nat) : Int))] G R V6)
    refine wp_ld (i := (.iload_n 2)) (0, x2) rfl rfl (fun _ => rfl) rfl rfl (?_ : wpv K_X4_fillSpare d P 28 [some (4, (p0 : Int)), some (0, x1), some (0, x2), some (0, ((V (p0 + 8) x2) * v7))] [(0, x2), (4, ((p0 + 10 : Nat) : Int))] G R V6)
    refine wp_ld (i := (.iload_n 3)) (0, ((V (p0 + 8) x2) * v7)) rfl rfl (fun _ => rfl) rfl rfl (?_ : wpv K_X4_fillSpare d P 29 [some (4, (p0 : Int)), some (0, x1), some (0, x2), some (0, ((V (p0 + 8) x2) * v7))] [(0, ((V (p0 + 8) x2) * v7)), (0, x2), (4, ((p0 + 10 : Nat) : Int))] G R V6)
    refine wp_if (c := .le) 38 rfl rfl rfl s8 (fun q => ?_) (fun q => ?_)
    · have q : ¬ 0 < ((V (p0 + 8) x2) * v7) := q
      replace w := w.1 q
      show wpv K_X4_fillSpare d P 38 [some (4, (p0 : Int)), some (0, x1), some (0, x2), some (0, ((V (p0 + 8) x2) * v7))] [(0, x2), (4, ((p0 + 10 : Nat) : Int))] G R V6
      refine wp_p (i := (.iconst 1)) rfl rfl (fun _ _ _ => rfl) (?_ : wpv K_X4_fillSpare d P 39 [some (4, (p0 : Int)), some (0, x1), some (0, x2), some (0, ((V (p0 + 8) x2) * v7))] [(0, 1), (0, x2), (4, ((p0 + 10 : Nat) : Int))] G R V6)
      refine wp_sI rfl rfl (ly4_11 l0).2 s4 ⟨by omega, by omega⟩ (?_ : wpv K_X4_fillSpare d P 40 [some (4, (p0 : Int)), some (0, x1), some (0, x2), some (0, ((V (p0 + 8) x2) * v7))] [] G R (wr V6 (p0 + 10) x2 1))
      obtain ⟨s9, w⟩ := w
      refine wp_inc (x := 2) (k := 1) (a := x2) (c := (x2 + 1)) _ rfl rfl rfl rfl s9 (by omega) rfl ?_
      show wpv K_X4_fillSpare d P 43 [some (4, (p0 : Int)), some (0, x1), some (0, (x2 + 1)), some (0, ((V (p0 + 8) x2) * v7))] [] G R (wr V6 (p0 + 10) x2 1)
      refine wp_go 2 rfl rfl rfl (?_ : wpv K_X4_fillSpare d P 2 [some (4, (p0 : Int)), some (0, x1), some (0, (x2 + 1)), some (0, ((V (p0 + 8) x2) * v7))] [] G R (wr V6 (p0 + 10) x2 1))
      exact wp_wk (wk_s (wk_s (wk_s wk_0))) w
    · have q : 0 < ((V (p0 + 8) x2) * v7) := Decidable.not_not.mp q
      replace w := w.2 q
      show wpv K_X4_fillSpare d P 32 [some (4, (p0 : Int)), some (0, x1), some (0, x2), some (0, ((V (p0 + 8) x2) * v7))] [(0, x2), (4, ((p0 + 10 : Nat) : Int))] G R V6
      refine wp_ld (i := (.iload_n 1)) (0, x1) rfl rfl (fun _ => rfl) rfl rfl (?_ : wpv K_X4_fillSpare d P 33 [some (4, (p0 : Int)), some (0, x1), some (0, x2), some (0, ((V (p0 + 8) x2) * v7))] [(0, x1), (0, x2), (4, ((p0 + 10 : Nat) : Int))] G R V6)
      refine wp_ld (i := (.iload_n 3)) (0, ((V (p0 + 8) x2) * v7)) rfl rfl (fun _ => rfl) rfl rfl (?_ : wpv K_X4_fillSpare d P 34 [some (4, (p0 : Int)), some (0, x1), some (0, x2), some (0, ((V (p0 + 8) x2) * v7))] [(0, ((V (p0 + 8) x2) * v7)), (0, x1), (0, x2), (4, ((p0 + 10 : Nat) : Int))] G R V6)
      obtain ⟨s10, w⟩ := w
      obtain ⟨s11, w⟩ := w
      refine wp_xdiv rfl rfl s11.1 s11.2 s10 s8 (?_ : wpv K_X4_fillSpare d P 35 [some (4, (p0 : Int)), some (0, x1), some (0, x2), some (0, ((V (p0 + 8) x2) * v7))] [(0, (x1 / ((V (p0 + 8) x2) * v7))), (0, x2), (4, ((p0 + 10 : Nat) : Int))] G R V6)
      refine wp_go 39 rfl rfl rfl (?_ : wpv K_X4_fillSpare d P 39 [some (4, (p0 : Int)), some (0, x1), some (0, x2), some (0, ((V (p0 + 8) x2) * v7))] [(0, (x1 / ((V (p0 + 8) x2) * v7))), (0, x2), (4, ((p0 + 10 : Nat) : Int))] G R V6)
      obtain ⟨s12, w⟩ := w
      refine wp_sI rfl rfl (ly4_11 l0).2 s4 s12 (?_ : wpv K_X4_fillSpare d P 40 [some (4, (p0 : Int)), some (0, x1), some (0, x2), some (0, ((V (p0 + 8) x2) * v7))] [] G R (wr V6 (p0 + 10) x2 ((x1 / ((V (p0 + 8) x2) * v7)))))
      obtain ⟨s13, w⟩ := w
      refine wp_inc (x := 2) (k := 1) (a := x2) (c := (x2 + 1)) _ rfl rfl rfl rfl s13 (by omega) rfl ?_
      show wpv K_X4_fillSpare d P 43 [some (4, (p0 : Int)), some (0, x1), some (0, (x2 + 1)), some (0, ((V (p0 + 8) x2) * v7))] [] G R (wr V6 (p0 + 10) x2 ((x1 / ((V (p0 + 8) x2) * v7))))
      refine wp_go 2 rfl rfl rfl (?_ : wpv K_X4_fillSpare d P 2 [some (4, (p0 : Int)), some (0, x1), some (0, (x2 + 1)), some (0, ((V (p0 + 8) x2) * v7))] [] G R (wr V6 (p0 + 10) x2 ((x1 / ((V (p0 + 8) x2) * v7)))))
      exact wp_wk (wk_s (wk_s (wk_s wk_0))) w
theorem t_X4_fillSigns_0 {d : Nat} {P : gP} {p0 : Nat} {G : List gS} {R V : gV} (l0 : lay4 G R p0) (w : ((i32 (V p0 1)) → ((i32 ((V p0 1) - 1)) ∧ wpv K_X4_fillSigns d P 7 [some (4, (p0 : Int)), some (0, ((V p0 1) - 1))] [] G R V))) : wpv K_X4_fillSigns d P 0 [some (4, (p0 : Int))] [] G R V := by
  refine wp_ld (i := (.aload_n 0)) (4, (p0 : Int)) rfl rfl (fun _ => rfl) rfl rfl (?_ : wpv K_X4_fillSigns d P 1 [some (4, (p0 : Int))] [(4, (p0 : Int))] G R V)
  refine wp_rng (fun vr1 => ?_)
  have f2 : i32 (V p0 1) := vr_f0 vr1 (ly4_o l0) rfl rfl
  replace w := w f2
  refine wp_getI (k := 1) rfl rfl rfl (ly4_o l0) rfl rfl (?_ : wpv K_X4_fillSigns d P 4 [some (4, (p0 : Int))] [(0, (V p0 1))] G R V)
  refine wp_p (i := (.iconst 1)) rfl rfl (fun _ _ _ => rfl) (?_ : wpv K_X4_fillSigns d P 5 [some (4, (p0 : Int))] [(0, 1), (0, (V p0 1))] G R V)
  obtain ⟨s3, w⟩ := w
  refine wp_xsub rfl rfl s3 (?_ : wpv K_X4_fillSigns d P 6 [some (4, (p0 : Int))] [(0, ((V p0 1) - 1))] G R V)
  refine wp_sto (i := (.istore_n 1)) _ rfl rfl (fun _ => rfl) rfl rfl rfl ?_
  refine wp_wk (L' := [some (4, (p0 : Int)), some (0, ((V p0 1) - 1))]) (wk_s (wk_s wk_0)) ?_
  show wpv K_X4_fillSigns d P 7 [some (4, (p0 : Int)), some (0, ((V p0 1) - 1))] [] G R V
  exact wp_wk (wk_s (wk_s wk_0)) w

theorem t_X4_fillSigns_7 {d : Nat} {P : gP} {p0 : Nat} {x1 : Int} {G : List gS} {R V : gV} (l0 : lay4 G R p0) (w : ((i32 x1) ∧ (((x1 < 0) → P none V) ∧ ((¬ x1 < 0) → ((i32 (x1 + 1)) ∧ wpv K_X4_fillSigns d P 17 [some (4, (p0 : Int)), some (0, x1), some (0, 0), some (0, (x1 + 1))] [] G R V))))) : wpv K_X4_fillSigns d P 7 [some (4, (p0 : Int)), some (0, x1)] [] G R V := by
  refine wp_ld (i := (.iload_n 1)) (0, x1) rfl rfl (fun _ => rfl) rfl rfl (?_ : wpv K_X4_fillSigns d P 8 [some (4, (p0 : Int)), some (0, x1)] [(0, x1)] G R V)
  obtain ⟨s1, w⟩ := w
  refine wp_if (c := .lt) 75 rfl rfl rfl s1 (fun q => ?_) (fun q => ?_)
  · have q : x1 < 0 := q
    replace w := w.1 q
    show wpv K_X4_fillSigns d P 75 [some (4, (p0 : Int)), some (0, x1)] [] G R V
    exact wp_r0 rfl rfl rfl w
  · have q : ¬ x1 < 0 := q
    replace w := w.2 q
    show wpv K_X4_fillSigns d P 11 [some (4, (p0 : Int)), some (0, x1)] [] G R V
    refine wp_p (i := (.iconst 0)) rfl rfl (fun _ _ _ => rfl) (?_ : wpv K_X4_fillSigns d P 12 [some (4, (p0 : Int)), some (0, x1)] [(0, 0)] G R V)
    refine wp_sto (i := (.istore_n 2)) _ rfl rfl (fun _ => rfl) rfl rfl rfl ?_
    refine wp_wk (L' := [some (4, (p0 : Int)), some (0, x1), some (0, 0)]) (wk_s (wk_s (wk_s wk_0))) ?_
    show wpv K_X4_fillSigns d P 13 [some (4, (p0 : Int)), some (0, x1), some (0, 0)] [] G R V
    refine wp_ld (i := (.iload_n 1)) (0, x1) rfl rfl (fun _ => rfl) rfl rfl (?_ : wpv K_X4_fillSigns d P 14 [some (4, (p0 : Int)), some (0, x1), some (0, 0)] [(0, x1)] G R V)
    refine wp_p (i := (.iconst 1)) rfl rfl (fun _ _ _ => rfl) (?_ : wpv K_X4_fillSigns d P 15 [some (4, (p0 : Int)), some (0, x1), some (0, 0)] [(0, 1), (0, x1)] G R V)
    obtain ⟨s2, w⟩ := w
    refine wp_xadd rfl rfl s2 (?_ : wpv K_X4_fillSigns d P 16 [some (4, (p0 : Int)), some (0, x1), some (0, 0)] [(0, (x1 + 1))] G R V)
    refine wp_sto (i := (.istore_n 3)) _ rfl rfl (fun _ => rfl) rfl rfl rfl ?_
    refine wp_wk (L' := [some (4, (p0 : Int)), some (0, x1), some (0, 0), some (0, (x1 + 1))]) (wk_s (wk_s (wk_s (wk_s wk_0)))) ?_
    show wpv K_X4_fillSigns d P 17 [some (4, (p0 : Int)), some (0, x1), some (0, 0), some (0, (x1 + 1))] [] G R V
    exact wp_wk (wk_s (wk_s (wk_s (wk_s wk_0)))) w

theorem t_X4_fillSigns_17 {d : Nat} {P : gP} {p0 : Nat} {x1 : Int} {x2 : Int} {x3 : Int} {G : List gS} {R V : gV} (l0 : lay4 G R p0) (w : ((i32 (V p0 1)) → ((i32 x3) ∧ (((¬ x3 < (V p0 1)) → ((i32 ((V p0 1) - 1)) ∧ ((i32 x1) ∧ (((¬ x1 = ((V p0 1) - 1)) → ((0 ≤ x1 ∧ x1 < 300) ∧ ((i32 (x1 - 1)) ∧ wpv K_X4_fillSigns d P 7 [some (4, (p0 : Int)), some (0, (x1 - 1))] [] G R (wr V (p0 + 9) x1 ((kneg x2)))))) ∧ ((x1 = ((V p0 1) - 1)) → ((0 ≤ x1 ∧ x1 < 300) ∧ ((i32 (x1 - 1)) ∧ wpv K_X4_fillSigns d P 7 [some (4, (p0 : Int)), some (0, (x1 - 1))] [] G R (wr V (p0 + 9) x1 1)))))))) ∧ ((x3 < (V p0 1)) → cwv d (fun r V10 => ∃ v11 : Int, r = some (0, v11) ∧ ((0 ≤ x3 ∧ x3 < 300) ∧ ((i32 (V10 (p0 + 9) x3)) → ((i32 (v11 * (V10 (p0 + 9) x3))) ∧ ((i32 (x2 + (v11 * (V10 (p0 + 9) x3)))) ∧ ((i32 (x3 + 1)) ∧ wpv K_X4_fillSigns d P 17 [some (4, (p0 : Int)), some (0, x1), some (0, (x2 + (v11 * (V10 (p0 + 9) x3)))), some (0, (x3 + 1))] [] G R V10)))))) 69 [(4, (p0 : Int)), (0, x1), (0, x3)] G R V))))) : wpv K_X4_fillSigns d P 17 [some (4, (p0 : Int)), some (0, x1), some (0, x2), some (0, x3)] [] G R V := by
  refine wp_ld (i := (.iload_n 3)) (0, x3) rfl rfl (fun _ => rfl) rfl rfl (?_ : wpv K_X4_fillSigns d P 18 [some (4, (p0 : Int)), some (0, x1), some (0, x2), some (0, x3)] [(0, x3)] G R V)
  refine wp_ld (i := (.aload_n 0)) (4, (p0 : Int)) rfl rfl (fun _ => rfl) rfl rfl (?_ : wpv K_X4_fillSigns d P 19 [some (4, (p0 : Int)), some (0, x1), some (0, x2), some (0, x3)] [(4, (p0 : Int)), (0, x3)] G R V)
  refine wp_rng (fun vr1 => ?_)
  have f2 : i32 (V p0 1) := vr_f0 vr1 (ly4_o l0) rfl rfl
  replace w := w f2
  refine wp_getI (k := 1) rfl rfl rfl (ly4_o l0) rfl rfl (?_ : wpv K_X4_fillSigns d P 22 [some (4, (p0 : Int)), some (0, x1), some (0, x2), some (0, x3)] [(0, (V p0 1)), (0, x3)] G R V)
  obtain ⟨s3, w⟩ := w
  refine wp_icmp (c := .ge) 47 rfl rfl rfl s3 f2 (fun q => ?_) (fun q => ?_)
  · have q : ¬ x3 < (V p0 1) := q
    replace w := w.1 q
    show wpv K_X4_fillSigns d P 47 [some (4, (p0 : Int)), some (0, x1), some (0, x2), some (0, x3)] [] G R V
    refine wp_ld (i := (.aload_n 0)) (4, (p0 : Int)) rfl rfl (fun _ => rfl) rfl rfl (?_ : wpv K_X4_fillSigns d P 48 [some (4, (p0 : Int)), some (0, x1), some (0, x2), some (0, x3)] [(4, (p0 : Int))] G R V)
    refine wp_getA (k := 10) rfl rfl rfl (ly4_o l0) rfl rfl (ly4_10 l0).1 (?_ : wpv K_X4_fillSigns d P 51 [some (4, (p0 : Int)), some (0, x1), some (0, x2), some (0, x3)] [(4, ((p0 + 9 : Nat) : Int))] G R V)
    refine wp_ld (i := (.iload_n 1)) (0, x1) rfl rfl (fun _ => rfl) rfl rfl (?_ : wpv K_X4_fillSigns d P 52 [some (4, (p0 : Int)), some (0, x1), some (0, x2), some (0, x3)] [(0, x1), (4, ((p0 + 9 : Nat) : Int))] G R V)
    refine wp_ld (i := (.iload_n 1)) (0, x1) rfl rfl (fun _ => rfl) rfl rfl (?_ : wpv K_X4_fillSigns d P 53 [some (4, (p0 : Int)), some (0, x1), some (0, x2), some (0, x3)] [(0, x1), (0, x1), (4, ((p0 + 9 : Nat) : Int))] G R V)
    refine wp_ld (i := (.aload_n 0)) (4, (p0 : Int)) rfl rfl (fun _ => rfl) rfl rfl (?_ : wpv K_X4_fillSigns d P 54 [some (4, (p0 : Int)), some (0, x1), some (0, x2), some (0, x3)] [(4, (p0 : Int)), (0, x1), (0, x1), (4, ((p0 + 9 : Nat) : Int))] G R V)
    refine wp_getI (k := 1) rfl rfl rfl (ly4_o l0) rfl rfl (?_ : wpv K_X4_fillSigns d P 57 [some (4, (p0 : Int)), some (0, x1), some (0, x2), some (0, x3)] [(0, (V p0 1)), (0, x1), (0, x1), (4, ((p0 + 9 : Nat) : Int))] G R V)
    refine wp_p (i := (.iconst 1)) rfl rfl (fun _ _ _ => rfl) (?_ : wpv K_X4_fillSigns d P 58 [some (4, (p0 : Int)), some (0, x1), some (0, x2), some (0, x3)] [(0, 1), (0, (V p0 1)), (0, x1), (0, x1), (4, ((p0 + 9 : Nat) : Int))] G R V)
    obtain ⟨s4, w⟩ := w
    refine wp_xsub rfl rfl s4 (?_ : wpv K_X4_fillSigns d P 59 [some (4, (p0 : Int)), some (0, x1), some (0, x2), some (0, x3)] [(0, ((V p0 1) - 1)), (0, x1), (0, x1), (4, ((p0 + 9 : Nat) : Int))] G R V)
    obtain ⟨s5, w⟩ := w
    refine wp_icmp (c := .ne) 66 rfl rfl rfl s5 s4 (fun q => ?_) (fun q => ?_)
    · have q : ¬ x1 = ((V p0 1) - 1) := q
      replace w := w.1 q
      show wpv K_X4_fillSigns d P 66 [some (4, (p0 : Int)), some (0, x1), some (0, x2), some (0, x3)] [(0, x1), (4, ((p0 + 9 : Nat) : Int))] G R V
      refine wp_ld (i := (.iload_n 2)) (0, x2) rfl rfl (fun _ => rfl) rfl rfl (?_ : wpv K_X4_fillSigns d P 67 [some (4, (p0 : Int)), some (0, x1), some (0, x2), some (0, x3)] [(0, x2), (0, x1), (4, ((p0 + 9 : Nat) : Int))] G R V)
      refine wp_kneg rfl rfl (?_ : wpv K_X4_fillSigns d P 68 [some (4, (p0 : Int)), some (0, x1), some (0, x2), some (0, x3)] [(0, (kneg x2)), (0, x1), (4, ((p0 + 9 : Nat) : Int))] G R V)
      obtain ⟨s6, w⟩ := w
      refine wp_sI rfl rfl (ly4_10 l0).2 s6 (t32 _) (?_ : wpv K_X4_fillSigns d P 69 [some (4, (p0 : Int)), some (0, x1), some (0, x2), some (0, x3)] [] G R (wr V (p0 + 9) x1 ((kneg x2))))
      obtain ⟨s7, w⟩ := w
      refine wp_inc (x := 1) (k := -1) (a := x1) (c := (x1 - 1)) _ rfl rfl rfl rfl (by have := s7; unfold i32 at *; omega) (by omega) rfl ?_
      show wpv K_X4_fillSigns d P 72 [some (4, (p0 : Int)), some (0, (x1 - 1)), some (0, x2), some (0, x3)] [] G R (wr V (p0 + 9) x1 ((kneg x2)))
      refine wp_go 7 rfl rfl rfl (?_ : wpv K_X4_fillSigns d P 7 [some (4, (p0 : Int)), some (0, (x1 - 1)), some (0, x2), some (0, x3)] [] G R (wr V (p0 + 9) x1 ((kneg x2))))
      exact wp_wk (wk_s (wk_s wk_0)) w
    · have q : x1 = ((V p0 1) - 1) := Decidable.not_not.mp q
      replace w := w.2 q
      show wpv K_X4_fillSigns d P 62 [some (4, (p0 : Int)), some (0, x1), some (0, x2), some (0, x3)] [(0, x1), (4, ((p0 + 9 : Nat) : Int))] G R V
      refine wp_p (i := (.iconst 1)) rfl rfl (fun _ _ _ => rfl) (?_ : wpv K_X4_fillSigns d P 63 [some (4, (p0 : Int)), some (0, x1), some (0, x2), some (0, x3)] [(0, 1), (0, x1), (4, ((p0 + 9 : Nat) : Int))] G R V)
      refine wp_go 68 rfl rfl rfl (?_ : wpv K_X4_fillSigns d P 68 [some (4, (p0 : Int)), some (0, x1), some (0, x2), some (0, x3)] [(0, 1), (0, x1), (4, ((p0 + 9 : Nat) : Int))] G R V)
      obtain ⟨s8, w⟩ := w
      refine wp_sI rfl rfl (ly4_10 l0).2 s8 ⟨by omega, by omega⟩ (?_ : wpv K_X4_fillSigns d P 69 [some (4, (p0 : Int)), some (0, x1), some (0, x2), some (0, x3)] [] G R (wr V (p0 + 9) x1 1))
      obtain ⟨s9, w⟩ := w
      refine wp_inc (x := 1) (k := -1) (a := x1) (c := (x1 - 1)) _ rfl rfl rfl rfl (by have := s9; unfold i32 at *; omega) (by omega) rfl ?_
      show wpv K_X4_fillSigns d P 72 [some (4, (p0 : Int)), some (0, (x1 - 1)), some (0, x2), some (0, x3)] [] G R (wr V (p0 + 9) x1 1)
      refine wp_go 7 rfl rfl rfl (?_ : wpv K_X4_fillSigns d P 7 [some (4, (p0 : Int)), some (0, (x1 - 1)), some (0, x2), some (0, x3)] [] G R (wr V (p0 + 9) x1 1))
      exact wp_wk (wk_s (wk_s wk_0)) w
  · have q : x3 < (V p0 1) := Decidable.not_not.mp q
    replace w := w.2 q
    show wpv K_X4_fillSigns d P 25 [some (4, (p0 : Int)), some (0, x1), some (0, x2), some (0, x3)] [] G R V
    refine wp_ld (i := (.iload_n 2)) (0, x2) rfl rfl (fun _ => rfl) rfl rfl (?_ : wpv K_X4_fillSigns d P 26 [some (4, (p0 : Int)), some (0, x1), some (0, x2), some (0, x3)] [(0, x2)] G R V)
    refine wp_ld (i := (.aload_n 0)) (4, (p0 : Int)) rfl rfl (fun _ => rfl) rfl rfl (?_ : wpv K_X4_fillSigns d P 27 [some (4, (p0 : Int)), some (0, x1), some (0, x2), some (0, x3)] [(4, (p0 : Int)), (0, x2)] G R V)
    refine wp_ld (i := (.iload_n 1)) (0, x1) rfl rfl (fun _ => rfl) rfl rfl (?_ : wpv K_X4_fillSigns d P 28 [some (4, (p0 : Int)), some (0, x1), some (0, x2), some (0, x3)] [(0, x1), (4, (p0 : Int)), (0, x2)] G R V)
    refine wp_ld (i := (.iload_n 3)) (0, x3) rfl rfl (fun _ => rfl) rfl rfl (?_ : wpv K_X4_fillSigns d P 29 [some (4, (p0 : Int)), some (0, x1), some (0, x2), some (0, x3)] [(0, x3), (0, x1), (4, (p0 : Int)), (0, x2)] G R V)
    refine wp_virt (as := [(0, x1), (0, x3)]) (a := p0) (st := [(0, x2)]) _ rfl rfl rfl rfl rfl rfl (ly4_o l0) (Nat.le_of_ble_eq_true rfl) (cwv_kI w (fun v11 V10 w => ?_))
    show wpv K_X4_fillSigns d P 32 [some (4, (p0 : Int)), some (0, x1), some (0, x2), some (0, x3)] [(0, v11), (0, x2)] G R V10
    refine wp_ld (i := (.aload_n 0)) (4, (p0 : Int)) rfl rfl (fun _ => rfl) rfl rfl (?_ : wpv K_X4_fillSigns d P 33 [some (4, (p0 : Int)), some (0, x1), some (0, x2), some (0, x3)] [(4, (p0 : Int)), (0, v11), (0, x2)] G R V10)
    refine wp_getA (k := 10) rfl rfl rfl (ly4_o l0) rfl rfl (ly4_10 l0).1 (?_ : wpv K_X4_fillSigns d P 36 [some (4, (p0 : Int)), some (0, x1), some (0, x2), some (0, x3)] [(4, ((p0 + 9 : Nat) : Int)), (0, v11), (0, x2)] G R V10)
    refine wp_ld (i := (.iload_n 3)) (0, x3) rfl rfl (fun _ => rfl) rfl rfl (?_ : wpv K_X4_fillSigns d P 37 [some (4, (p0 : Int)), some (0, x1), some (0, x2), some (0, x3)] [(0, x3), (4, ((p0 + 9 : Nat) : Int)), (0, v11), (0, x2)] G R V10)
    obtain ⟨s12, w⟩ := w
    refine wp_rng (fun vr13 => ?_)
    have f14 : i32 (V10 (p0 + 9) x3) := vr_a0 vr13 (ly4_10 l0).2 s12
    replace w := w f14
    refine wp_aI rfl rfl (ly4_10 l0).2 s12 (?_ : wpv K_X4_fillSigns d P 38 [some (4, (p0 : Int)), some (0, x1), some (0, x2), some (0, x3)] [(0, (V10 (p0 + 9) x3)), (0, v11), (0, x2)] G R V10)
    obtain ⟨s15, w⟩ := w
    refine wp_xmul rfl rfl s15 (?_ : wpv K_X4_fillSigns d P 39 [some (4, (p0 : Int)), some (0, x1), some (0, x2), some (0, x3)] [(0, (v11 * (V10 (p0 + 9) x3))), (0, x2)] G R V10)
    obtain ⟨s16, w⟩ := w
    refine wp_xadd rfl rfl s16 (?_ : wpv K_X4_fillSigns d P 40 [some (4, (p0 : Int)), some (0, x1), some (0, x2), some (0, x3)] [(0, (x2 + (v11 * (V10 (p0 + 9) x3))))] G R V10)
    refine wp_sto (i := (.istore_n 2)) _ rfl rfl (fun _ => rfl) rfl rfl rfl ?_
    refine wp_wk (L' := [some (4, (p0 : Int)), some (0, x1), some (0, (x2 + (v11 * (V10 (p0 + 9) x3)))), some (0, x3)]) (wk_s (wk_s (wk_s (wk_s wk_0)))) ?_
    show wpv K_X4_fillSigns d P 41 [some (4, (p0 : Int)), some (0, x1), some (0, (x2 + (v11 * (V10 (p0 + 9) x3)))), some (0, x3)] [] G R V10
    obtain ⟨s17, w⟩ := w
    refine wp_inc (x := 3) (k := 1) (a := x3) (c := (x3 + 1)) _ rfl rfl rfl rfl s17 (by omega) rfl ?_
    show wpv K_X4_fillSigns d P 44 [some (4, (p0 : Int)), some (0, x1), some (0, (x2 + (v11 * (V10 (p0 + 9) x3)))), some (0, (x3 + 1))] [] G R V10
    refine wp_go 17 rfl rfl rfl (?_ : wpv K_X4_fillSigns d P 17 [some (4, (p0 : Int)), some (0, x1), some (0, (x2 + (v11 * (V10 (p0 + 9) x3)))), some (0, (x3 + 1))] [] G R V10)
    exact wp_wk (wk_s (wk_s (wk_s (wk_s wk_0)))) w
theorem t_X5_lay_0 {d : Nat} {P : gP} {p0 : Nat} {x1 : Int} {x2 : Int} {G : List gS} {R V : gV} (l0 : lay5 G R p0) (w : ((i32 x1) ∧ ((i32 x2) ∧ wpv K_X5_lay d P 12 [some (4, (p0 : Int)), none, none, some (0, 0)] [] G R (wr (wr V p0 1 x1) p0 2 x2)))) : wpv K_X5_lay d P 0 [some (4, (p0 : Int)), some (0, x1), some (0, x2)] [] G R V := by
  refine wp_ld (i := (.aload_n 0)) (4, (p0 : Int)) rfl rfl (fun _ => rfl) rfl rfl (?_ : wpv K_X5_lay d P 1 [some (4, (p0 : Int)), some (0, x1), some (0, x2)] [(4, (p0 : Int))] G R V)
  refine wp_ld (i := (.iload_n 1)) (0, x1) rfl rfl (fun _ => rfl) rfl rfl (?_ : wpv K_X5_lay d P 2 [some (4, (p0 : Int)), some (0, x1), some (0, x2)] [(0, x1), (4, (p0 : Int))] G R V)
  obtain ⟨s1, w⟩ := w
  refine wp_putI (k := 1) rfl rfl rfl (ly5_o l0) rfl rfl rfl s1 (?_ : wpv K_X5_lay d P 5 [some (4, (p0 : Int)), some (0, x1), some (0, x2)] [] G R (wr V p0 1 x1))
  refine wp_ld (i := (.aload_n 0)) (4, (p0 : Int)) rfl rfl (fun _ => rfl) rfl rfl (?_ : wpv K_X5_lay d P 6 [some (4, (p0 : Int)), some (0, x1), some (0, x2)] [(4, (p0 : Int))] G R (wr V p0 1 x1))
  refine wp_ld (i := (.iload_n 2)) (0, x2) rfl rfl (fun _ => rfl) rfl rfl (?_ : wpv K_X5_lay d P 7 [some (4, (p0 : Int)), some (0, x1), some (0, x2)] [(0, x2), (4, (p0 : Int))] G R (wr V p0 1 x1))
  obtain ⟨s2, w⟩ := w
  refine wp_putI (k := 2) rfl rfl rfl (ly5_o l0) rfl rfl rfl s2 (?_ : wpv K_X5_lay d P 10 [some (4, (p0 : Int)), some (0, x1), some (0, x2)] [] G R (wr (wr V p0 1 x1) p0 2 x2))
  refine wp_p (i := (.iconst 0)) rfl rfl (fun _ _ _ => rfl) (?_ : wpv K_X5_lay d P 11 [some (4, (p0 : Int)), some (0, x1), some (0, x2)] [(0, 0)] G R (wr (wr V p0 1 x1) p0 2 x2))
  refine wp_sto (i := (.istore_n 3)) _ rfl rfl (fun _ => rfl) rfl rfl rfl ?_
  refine wp_wk (L' := [some (4, (p0 : Int)), some (0, x1), some (0, x2), some (0, 0)]) (wk_s (wk_s (wk_s (wk_s wk_0)))) ?_
  show wpv K_X5_lay d P 12 [some (4, (p0 : Int)), some (0, x1), some (0, x2), some (0, 0)] [] G R (wr (wr V p0 1 x1) p0 2 x2)
  exact wp_wk (wk_s (wk_n (wk_n (wk_s wk_0)))) w

theorem t_X5_lay_12 {d : Nat} {P : gP} {p0 : Nat} {x3 : Int} {G : List gS} {R V : gV} (l0 : lay5 G R p0) (w : ((i32 x3) ∧ (((¬ x3 < 8) → P none V) ∧ ((x3 < 8) → ((0 ≤ x3 ∧ x3 < 8) ∧ ((i32 (x3 + 1)) ∧ wpv K_X5_lay d P 12 [some (4, (p0 : Int)), none, none, some (0, (x3 + 1))] [] G R (wr V (p0 + 1) x3 0))))))) : wpv K_X5_lay d P 12 [some (4, (p0 : Int)), none, none, some (0, x3)] [] G R V := by
  refine wp_ld (i := (.iload_n 3)) (0, x3) rfl rfl (fun _ => rfl) rfl rfl (?_ : wpv K_X5_lay d P 13 [some (4, (p0 : Int)), none, none, some (0, x3)] [(0, x3)] G R V)
  refine wp_p (i := (.bipush 8)) rfl rfl (fun _ _ _ => rfl) (?_ : wpv K_X5_lay d P 15 [some (4, (p0 : Int)), none, none, some (0, x3)] [(0, 8), (0, x3)] G R V)
  obtain ⟨s1, w⟩ := w
  refine wp_icmp (c := .ge) 31 rfl rfl rfl s1 ⟨by omega, by omega⟩ (fun q => ?_) (fun q => ?_)
  · have q : ¬ x3 < 8 := q
    replace w := w.1 q
    show wpv K_X5_lay d P 31 [some (4, (p0 : Int)), none, none, some (0, x3)] [] G R V
    exact wp_r0 rfl rfl rfl w
  · have q : x3 < 8 := Decidable.not_not.mp q
    replace w := w.2 q
    show wpv K_X5_lay d P 18 [some (4, (p0 : Int)), none, none, some (0, x3)] [] G R V
    refine wp_ld (i := (.aload_n 0)) (4, (p0 : Int)) rfl rfl (fun _ => rfl) rfl rfl (?_ : wpv K_X5_lay d P 19 [some (4, (p0 : Int)), none, none, some (0, x3)] [(4, (p0 : Int))] G R V)
    refine wp_getA (k := 0) rfl rfl rfl (ly5_o l0) rfl rfl (ly5_0 l0).1 (?_ : wpv K_X5_lay d P 22 [some (4, (p0 : Int)), none, none, some (0, x3)] [(4, ((p0 + 1 : Nat) : Int))] G R V)
    refine wp_ld (i := (.iload_n 3)) (0, x3) rfl rfl (fun _ => rfl) rfl rfl (?_ : wpv K_X5_lay d P 23 [some (4, (p0 : Int)), none, none, some (0, x3)] [(0, x3), (4, ((p0 + 1 : Nat) : Int))] G R V)
    refine wp_p (i := (.iconst 0)) rfl rfl (fun _ _ _ => rfl) (?_ : wpv K_X5_lay d P 24 [some (4, (p0 : Int)), none, none, some (0, x3)] [(0, 0), (0, x3), (4, ((p0 + 1 : Nat) : Int))] G R V)
    obtain ⟨s2, w⟩ := w
    refine wp_sI rfl rfl (ly5_0 l0).2 s2 ⟨by omega, by omega⟩ (?_ : wpv K_X5_lay d P 25 [some (4, (p0 : Int)), none, none, some (0, x3)] [] G R (wr V (p0 + 1) x3 0))
    obtain ⟨s3, w⟩ := w
    refine wp_inc (x := 3) (k := 1) (a := x3) (c := (x3 + 1)) _ rfl rfl rfl rfl s3 (by omega) rfl ?_
    show wpv K_X5_lay d P 28 [some (4, (p0 : Int)), none, none, some (0, (x3 + 1))] [] G R (wr V (p0 + 1) x3 0)
    refine wp_go 12 rfl rfl rfl (?_ : wpv K_X5_lay d P 12 [some (4, (p0 : Int)), none, none, some (0, (x3 + 1))] [] G R (wr V (p0 + 1) x3 0))
    exact wp_wk (wk_s (wk_n (wk_n (wk_s wk_0)))) w
theorem t_X5_takeAway_0 {d : Nat} {P : gP} {p0 : Nat} {G : List gS} {R V : gV} (l0 : lay5 G R p0) (w : P none (wr V p0 2 ((-1)))) : wpv K_X5_takeAway d P 0 [some (4, (p0 : Int))] [] G R V := by
  refine wp_ld (i := (.aload_n 0)) (4, (p0 : Int)) rfl rfl (fun _ => rfl) rfl rfl (?_ : wpv K_X5_takeAway d P 1 [some (4, (p0 : Int))] [(4, (p0 : Int))] G R V)
  refine wp_p (i := (.iconst (-1))) rfl rfl (fun _ _ _ => rfl) (?_ : wpv K_X5_takeAway d P 2 [some (4, (p0 : Int))] [(0, (-1)), (4, (p0 : Int))] G R V)
  refine wp_putI (k := 2) rfl rfl rfl (ly5_o l0) rfl rfl rfl ⟨by omega, by omega⟩ (?_ : wpv K_X5_takeAway d P 5 [some (4, (p0 : Int))] [] G R (wr V p0 2 ((-1))))
  exact wp_r0 rfl rfl rfl w
theorem t_X5_isMissing_0 {d : Nat} {P : gP} {p0 : Nat} {G : List gS} {R V : gV} (l0 : lay5 G R p0) (w : ((i32 (V p0 2)) → (((¬ (V p0 2) = (-1)) → P (some (0, 0)) V) ∧ (((V p0 2) = (-1)) → P (some (0, 1)) V)))) : wpv K_X5_isMissing d P 0 [some (4, (p0 : Int))] [] G R V := by
  refine wp_ld (i := (.aload_n 0)) (4, (p0 : Int)) rfl rfl (fun _ => rfl) rfl rfl (?_ : wpv K_X5_isMissing d P 1 [some (4, (p0 : Int))] [(4, (p0 : Int))] G R V)
  refine wp_rng (fun vr1 => ?_)
  have f2 : i32 (V p0 2) := vr_f0 vr1 (ly5_o l0) rfl rfl
  replace w := w f2
  refine wp_getI (k := 2) rfl rfl rfl (ly5_o l0) rfl rfl (?_ : wpv K_X5_isMissing d P 4 [some (4, (p0 : Int))] [(0, (V p0 2))] G R V)
  refine wp_p (i := (.iconst (-1))) rfl rfl (fun _ _ _ => rfl) (?_ : wpv K_X5_isMissing d P 5 [some (4, (p0 : Int))] [(0, (-1)), (0, (V p0 2))] G R V)
  refine wp_icmp (c := .ne) 12 rfl rfl rfl f2 ⟨by omega, by omega⟩ (fun q => ?_) (fun q => ?_)
  · have q : ¬ (V p0 2) = (-1) := q
    replace w := w.1 q
    show wpv K_X5_isMissing d P 12 [some (4, (p0 : Int))] [] G R V
    refine wp_p (i := (.iconst 0)) rfl rfl (fun _ _ _ => rfl) (?_ : wpv K_X5_isMissing d P 13 [some (4, (p0 : Int))] [(0, 0)] G R V)
    exact wp_rB rfl rfl rfl (by omega) w
  · have q : (V p0 2) = (-1) := Decidable.not_not.mp q
    replace w := w.2 q
    show wpv K_X5_isMissing d P 8 [some (4, (p0 : Int))] [] G R V
    refine wp_p (i := (.iconst 1)) rfl rfl (fun _ _ _ => rfl) (?_ : wpv K_X5_isMissing d P 9 [some (4, (p0 : Int))] [(0, 1)] G R V)
    refine wp_go 13 rfl rfl rfl (?_ : wpv K_X5_isMissing d P 13 [some (4, (p0 : Int))] [(0, 1)] G R V)
    exact wp_rB rfl rfl rfl (by omega) w
theorem t_X5_put_0 {d : Nat} {P : gP} {p0 : Nat} {x1 : Int} {x2 : Int} {G : List gS} {R V : gV} (l0 : lay5 G R p0) (w : ((i32 x1) ∧ (((x1 < 0) → P (some (0, 0)) V) ∧ ((¬ x1 < 0) → ((i32 (V p0 2)) → (((¬ x1 < (V p0 2)) → P (some (0, 0)) V) ∧ ((x1 < (V p0 2)) → (((x1 < 8) → ((i32 (V p0 1)) → (((¬ (V p0 1) = 0) → (((¬ (V p0 1) = 1) → ((0 ≤ x1 ∧ x1 < 8) ∧ ((i32 x2) ∧ P (some (0, 1)) (wr V (p0 + 1) x1 x2)))) ∧ (((V p0 1) = 1) → ((0 ≤ x1 ∧ x1 < 8) ∧ P (some (0, 1)) (wr V (p0 + 1) x1 ((ki2s x2))))))) ∧ (((V p0 1) = 0) → ((0 ≤ x1 ∧ x1 < 8) ∧ P (some (0, 1)) (wr V (p0 + 1) x1 ((ki2b x2)))))))) ∧ ((¬ x1 < 8) → P (some (0, 0)) V))))))))) : wpv K_X5_put d P 0 [some (4, (p0 : Int)), some (0, x1), some (0, x2)] [] G R V := by
  refine wp_ld (i := (.iload_n 1)) (0, x1) rfl rfl (fun _ => rfl) rfl rfl (?_ : wpv K_X5_put d P 1 [some (4, (p0 : Int)), some (0, x1), some (0, x2)] [(0, x1)] G R V)
  obtain ⟨s1, w⟩ := w
  refine wp_if (c := .lt) 18 rfl rfl rfl s1 (fun q => ?_) (fun q => ?_)
  · have q : x1 < 0 := q
    replace w := w.1 q
    show wpv K_X5_put d P 18 [some (4, (p0 : Int)), some (0, x1), some (0, x2)] [] G R V
    refine wp_p (i := (.iconst 0)) rfl rfl (fun _ _ _ => rfl) (?_ : wpv K_X5_put d P 19 [some (4, (p0 : Int)), some (0, x1), some (0, x2)] [(0, 0)] G R V)
    exact wp_rB rfl rfl rfl (by omega) w
  · have q : ¬ x1 < 0 := q
    replace w := w.2 q
    show wpv K_X5_put d P 4 [some (4, (p0 : Int)), some (0, x1), some (0, x2)] [] G R V
    refine wp_ld (i := (.iload_n 1)) (0, x1) rfl rfl (fun _ => rfl) rfl rfl (?_ : wpv K_X5_put d P 5 [some (4, (p0 : Int)), some (0, x1), some (0, x2)] [(0, x1)] G R V)
    refine wp_ld (i := (.aload_n 0)) (4, (p0 : Int)) rfl rfl (fun _ => rfl) rfl rfl (?_ : wpv K_X5_put d P 6 [some (4, (p0 : Int)), some (0, x1), some (0, x2)] [(4, (p0 : Int)), (0, x1)] G R V)
    refine wp_rng (fun vr2 => ?_)
    have f3 : i32 (V p0 2) := vr_f0 vr2 (ly5_o l0) rfl rfl
    replace w := w f3
    refine wp_getI (k := 2) rfl rfl rfl (ly5_o l0) rfl rfl (?_ : wpv K_X5_put d P 9 [some (4, (p0 : Int)), some (0, x1), some (0, x2)] [(0, (V p0 2)), (0, x1)] G R V)
    refine wp_icmp (c := .ge) 18 rfl rfl rfl s1 f3 (fun q => ?_) (fun q => ?_)
    · have q : ¬ x1 < (V p0 2) := q
      replace w := w.1 q
      show wpv K_X5_put d P 18 [some (4, (p0 : Int)), some (0, x1), some (0, x2)] [] G R V
      refine wp_p (i := (.iconst 0)) rfl rfl (fun _ _ _ => rfl) (?_ : wpv K_X5_put d P 19 [some (4, (p0 : Int)), some (0, x1), some (0, x2)] [(0, 0)] G R V)
      exact wp_rB rfl rfl rfl (by omega) w
    · have q : x1 < (V p0 2) := Decidable.not_not.mp q
      replace w := w.2 q
      show wpv K_X5_put d P 12 [some (4, (p0 : Int)), some (0, x1), some (0, x2)] [] G R V
      refine wp_ld (i := (.iload_n 1)) (0, x1) rfl rfl (fun _ => rfl) rfl rfl (?_ : wpv K_X5_put d P 13 [some (4, (p0 : Int)), some (0, x1), some (0, x2)] [(0, x1)] G R V)
      refine wp_p (i := (.bipush 8)) rfl rfl (fun _ _ _ => rfl) (?_ : wpv K_X5_put d P 15 [some (4, (p0 : Int)), some (0, x1), some (0, x2)] [(0, 8), (0, x1)] G R V)
      refine wp_icmp (c := .lt) 20 rfl rfl rfl s1 ⟨by omega, by omega⟩ (fun q => ?_) (fun q => ?_)
      · have q : x1 < 8 := q
        replace w := w.1 q
        show wpv K_X5_put d P 20 [some (4, (p0 : Int)), some (0, x1), some (0, x2)] [] G R V
        refine wp_ld (i := (.aload_n 0)) (4, (p0 : Int)) rfl rfl (fun _ => rfl) rfl rfl (?_ : wpv K_X5_put d P 21 [some (4, (p0 : Int)), some (0, x1), some (0, x2)] [(4, (p0 : Int))] G R V)
        refine wp_getA (k := 0) rfl rfl rfl (ly5_o l0) rfl rfl (ly5_0 l0).1 (?_ : wpv K_X5_put d P 24 [some (4, (p0 : Int)), some (0, x1), some (0, x2)] [(4, ((p0 + 1 : Nat) : Int))] G R V)
        refine wp_ld (i := (.iload_n 1)) (0, x1) rfl rfl (fun _ => rfl) rfl rfl (?_ : wpv K_X5_put d P 25 [some (4, (p0 : Int)), some (0, x1), some (0, x2)] [(0, x1), (4, ((p0 + 1 : Nat) : Int))] G R V)
        refine wp_ld (i := (.aload_n 0)) (4, (p0 : Int)) rfl rfl (fun _ => rfl) rfl rfl (?_ : wpv K_X5_put d P 26 [some (4, (p0 : Int)), some (0, x1), some (0, x2)] [(4, (p0 : Int)), (0, x1), (4, ((p0 + 1 : Nat) : Int))] G R V)
        have f4 : i32 (V p0 1) := vr_f0 vr2 (ly5_o l0) rfl rfl
        replace w := w f4
        refine wp_getI (k := 1) rfl rfl rfl (ly5_o l0) rfl rfl (?_ : wpv K_X5_put d P 29 [some (4, (p0 : Int)), some (0, x1), some (0, x2)] [(0, (V p0 1)), (0, x1), (4, ((p0 + 1 : Nat) : Int))] G R V)
        refine wp_if (c := .ne) 37 rfl rfl rfl f4 (fun q => ?_) (fun q => ?_)
        · have q : ¬ (V p0 1) = 0 := q
          replace w := w.1 q
          show wpv K_X5_put d P 37 [some (4, (p0 : Int)), some (0, x1), some (0, x2)] [(0, x1), (4, ((p0 + 1 : Nat) : Int))] G R V
          refine wp_ld (i := (.aload_n 0)) (4, (p0 : Int)) rfl rfl (fun _ => rfl) rfl rfl (?_ : wpv K_X5_put d P 38 [some (4, (p0 : Int)), some (0, x1), some (0, x2)] [(4, (p0 : Int)), (0, x1), (4, ((p0 + 1 : Nat) : Int))] G R V)
          refine wp_getI (k := 1) rfl rfl rfl (ly5_o l0) rfl rfl (?_ : wpv K_X5_put d P 41 [some (4, (p0 : Int)), some (0, x1), some (0, x2)] [(0, (V p0 1)), (0, x1), (4, ((p0 + 1 : Nat) : Int))] G R V)
          refine wp_p (i := (.iconst 1)) rfl rfl (fun _ _ _ => rfl) (?_ : wpv K_X5_put d P 42 [some (4, (p0 : Int)), some (0, x1), some (0, x2)] [(0, 1), (0, (V p0 1)), (0, x1), (4, ((p0 + 1 : Nat) : Int))] G R V)
          refine wp_icmp (c := .ne) 50 rfl rfl rfl f4 ⟨by omega, by omega⟩ (fun q => ?_) (fun q => ?_)
          · have q : ¬ (V p0 1) = 1 := q
            replace w := w.1 q
            show wpv K_X5_put d P 50 [some (4, (p0 : Int)), some (0, x1), some (0, x2)] [(0, x1), (4, ((p0 + 1 : Nat) : Int))] G R V
            refine wp_ld (i := (.iload_n 2)) (0, x2) rfl rfl (fun _ => rfl) rfl rfl (?_ : wpv K_X5_put d P 51 [some (4, (p0 : Int)), some (0, x1), some (0, x2)] [(0, x2), (0, x1), (4, ((p0 + 1 : Nat) : Int))] G R V)
            obtain ⟨s5, w⟩ := w
            obtain ⟨s6, w⟩ := w
            refine wp_sI rfl rfl (ly5_0 l0).2 s5 s6 (?_ : wpv K_X5_put d P 52 [some (4, (p0 : Int)), some (0, x1), some (0, x2)] [] G R (wr V (p0 + 1) x1 x2))
            refine wp_p (i := (.iconst 1)) rfl rfl (fun _ _ _ => rfl) (?_ : wpv K_X5_put d P 53 [some (4, (p0 : Int)), some (0, x1), some (0, x2)] [(0, 1)] G R (wr V (p0 + 1) x1 x2))
            exact wp_rB rfl rfl rfl (by omega) w
          · have q : (V p0 1) = 1 := Decidable.not_not.mp q
            replace w := w.2 q
            show wpv K_X5_put d P 45 [some (4, (p0 : Int)), some (0, x1), some (0, x2)] [(0, x1), (4, ((p0 + 1 : Nat) : Int))] G R V
            refine wp_ld (i := (.iload_n 2)) (0, x2) rfl rfl (fun _ => rfl) rfl rfl (?_ : wpv K_X5_put d P 46 [some (4, (p0 : Int)), some (0, x1), some (0, x2)] [(0, x2), (0, x1), (4, ((p0 + 1 : Nat) : Int))] G R V)
            refine wp_ki2s rfl rfl (?_ : wpv K_X5_put d P 47 [some (4, (p0 : Int)), some (0, x1), some (0, x2)] [(0, (ki2s x2)), (0, x1), (4, ((p0 + 1 : Nat) : Int))] G R V)
            refine wp_go 51 rfl rfl rfl (?_ : wpv K_X5_put d P 51 [some (4, (p0 : Int)), some (0, x1), some (0, x2)] [(0, (ki2s x2)), (0, x1), (4, ((p0 + 1 : Nat) : Int))] G R V)
            obtain ⟨s7, w⟩ := w
            refine wp_sI rfl rfl (ly5_0 l0).2 s7 (t32 _) (?_ : wpv K_X5_put d P 52 [some (4, (p0 : Int)), some (0, x1), some (0, x2)] [] G R (wr V (p0 + 1) x1 ((ki2s x2))))
            refine wp_p (i := (.iconst 1)) rfl rfl (fun _ _ _ => rfl) (?_ : wpv K_X5_put d P 53 [some (4, (p0 : Int)), some (0, x1), some (0, x2)] [(0, 1)] G R (wr V (p0 + 1) x1 ((ki2s x2))))
            exact wp_rB rfl rfl rfl (by omega) w
        · have q : (V p0 1) = 0 := Decidable.not_not.mp q
          replace w := w.2 q
          show wpv K_X5_put d P 32 [some (4, (p0 : Int)), some (0, x1), some (0, x2)] [(0, x1), (4, ((p0 + 1 : Nat) : Int))] G R V
          refine wp_ld (i := (.iload_n 2)) (0, x2) rfl rfl (fun _ => rfl) rfl rfl (?_ : wpv K_X5_put d P 33 [some (4, (p0 : Int)), some (0, x1), some (0, x2)] [(0, x2), (0, x1), (4, ((p0 + 1 : Nat) : Int))] G R V)
          refine wp_ki2b rfl rfl (?_ : wpv K_X5_put d P 34 [some (4, (p0 : Int)), some (0, x1), some (0, x2)] [(0, (ki2b x2)), (0, x1), (4, ((p0 + 1 : Nat) : Int))] G R V)
          refine wp_go 51 rfl rfl rfl (?_ : wpv K_X5_put d P 51 [some (4, (p0 : Int)), some (0, x1), some (0, x2)] [(0, (ki2b x2)), (0, x1), (4, ((p0 + 1 : Nat) : Int))] G R V)
          obtain ⟨s8, w⟩ := w
          refine wp_sI rfl rfl (ly5_0 l0).2 s8 (t32 _) (?_ : wpv K_X5_put d P 52 [some (4, (p0 : Int)), some (0, x1), some (0, x2)] [] G R (wr V (p0 + 1) x1 ((ki2b x2))))
          refine wp_p (i := (.iconst 1)) rfl rfl (fun _ _ _ => rfl) (?_ : wpv K_X5_put d P 53 [some (4, (p0 : Int)), some (0, x1), some (0, x2)] [(0, 1)] G R (wr V (p0 + 1) x1 ((ki2b x2))))
          exact wp_rB rfl rfl rfl (by omega) w
      · have q : ¬ x1 < 8 := q
        replace w := w.2 q
        show wpv K_X5_put d P 18 [some (4, (p0 : Int)), some (0, x1), some (0, x2)] [] G R V
        refine wp_p (i := (.iconst 0)) rfl rfl (fun _ _ _ => rfl) (?_ : wpv K_X5_put d P 19 [some (4, (p0 : Int)), some (0, x1), some (0, x2)] [(0, 0)] G R V)
        exact wp_rB rfl rfl rfl (by omega) w
theorem t_X5_codeFor_0 {d : Nat} {P : gP} {p0 : Nat} {x1 : Int} {G : List gS} {R V : gV} (l0 : lay5 G R p0) (w : wpv K_X5_codeFor d P 7 [some (4, (p0 : Int)), some (0, x1), some (0, 0), some (0, 0), some (0, 0)] [] G R V) : wpv K_X5_codeFor d P 0 [some (4, (p0 : Int)), some (0, x1)] [] G R V := by
  refine wp_p (i := (.iconst 0)) rfl rfl (fun _ _ _ => rfl) (?_ : wpv K_X5_codeFor d P 1 [some (4, (p0 : Int)), some (0, x1)] [(0, 0)] G R V)
  refine wp_sto (i := (.istore_n 2)) _ rfl rfl (fun _ => rfl) rfl rfl rfl ?_
  refine wp_wk (L' := [some (4, (p0 : Int)), some (0, x1), some (0, 0)]) (wk_s (wk_s (wk_s wk_0))) ?_
  show wpv K_X5_codeFor d P 2 [some (4, (p0 : Int)), some (0, x1), some (0, 0)] [] G R V
  refine wp_p (i := (.iconst 0)) rfl rfl (fun _ _ _ => rfl) (?_ : wpv K_X5_codeFor d P 3 [some (4, (p0 : Int)), some (0, x1), some (0, 0)] [(0, 0)] G R V)
  refine wp_sto (i := (.istore_n 3)) _ rfl rfl (fun _ => rfl) rfl rfl rfl ?_
  refine wp_wk (L' := [some (4, (p0 : Int)), some (0, x1), some (0, 0), some (0, 0)]) (wk_s (wk_s (wk_s (wk_s wk_0)))) ?_
  show wpv K_X5_codeFor d P 4 [some (4, (p0 : Int)), some (0, x1), some (0, 0), some (0, 0)] [] G R V
  refine wp_p (i := (.iconst 0)) rfl rfl (fun _ _ _ => rfl) (?_ : wpv K_X5_codeFor d P 5 [some (4, (p0 : Int)), some (0, x1), some (0, 0), some (0, 0)] [(0, 0)] G R V)
  refine wp_sto (i := (.istore 4)) _ rfl rfl (fun _ => rfl) rfl rfl rfl ?_
  refine wp_wk (L' := [some (4, (p0 : Int)), some (0, x1), some (0, 0), some (0, 0), some (0, 0)]) (wk_s (wk_s (wk_s (wk_s (wk_s wk_0))))) ?_
  show wpv K_X5_codeFor d P 7 [some (4, (p0 : Int)), some (0, x1), some (0, 0), some (0, 0), some (0, 0)] [] G R V
  exact wp_wk (wk_s (wk_s (wk_s (wk_s (wk_s wk_0))))) w

theorem t_X5_codeFor_7 {d : Nat} {P : gP} {p0 : Nat} {x1 : Int} {x2 : Int} {x3 : Int} {x4 : Int} {G : List gS} {R V : gV} (l0 : lay5 G R p0) (w : ((i32 x4) ∧ (((¬ x4 < 8) → P (some (0, x2)) V) ∧ ((x4 < 8) → ((i32 x1) ∧ (((¬ x4 < x1) → (((x4 < 0) → P (some (0, (-1))) V) ∧ ((¬ x4 < 0) → (((¬ x4 < 8) → P (some (0, (-1))) V) ∧ ((x4 < 8) → (((¬ x4 < x1) → ((((kand ((kshr x3 x4)) 1) = 0) → ((i32 (x4 + 1)) ∧ wpv K_X5_codeFor d P 7 [some (4, (p0 : Int)), some (0, x1), some (0, (kor ((kshl x2 3)) x4)), some (0, (kor x3 ((kshl 1 x4)))), some (0, (x4 + 1))] [] G R V)) ∧ ((¬ (kand ((kshr x3 x4)) 1) = 0) → P (some (0, (-1))) V))) ∧ ((x4 < x1) → (((¬ x4 < x1) → P (some (0, (-1))) V) ∧ ((x4 < x1) → ((((kand ((kshr x3 x4)) 1) = 0) → ((i32 (x4 + 1)) ∧ wpv K_X5_codeFor d P 7 [some (4, (p0 : Int)), some (0, x1), some (0, (kor ((kshl x2 3)) x4)), some (0, (kor x3 ((kshl 1 x4)))), some (0, (x4 + 1))] [] G R V)) ∧ ((¬ (kand ((kshr x3 x4)) 1) = 0) → P (some (0, (-1))) V))))))))))) ∧ ((x4 < x1) → ((i32 (V p0 2)) → (((¬ x4 < (V p0 2)) → (((x4 < 0) → P (some (0, (-1))) V) ∧ ((¬ x4 < 0) → (((¬ x4 < 8) → P (some (0, (-1))) V) ∧ ((x4 < 8) → (((¬ x4 < x1) → ((((kand ((kshr x3 x4)) 1) = 0) → ((i32 (x4 + 1)) ∧ wpv K_X5_codeFor d P 7 [some (4, (p0 : Int)), some (0, x1), some (0, (kor ((kshl x2 3)) x4)), some (0, (kor x3 ((kshl 1 x4)))), some (0, (x4 + 1))] [] G R V)) ∧ ((¬ (kand ((kshr x3 x4)) 1) = 0) → P (some (0, (-1))) V))) ∧ ((x4 < x1) → (((¬ x4 < x1) → P (some (0, (-1))) V) ∧ ((x4 < x1) → ((((kand ((kshr x3 x4)) 1) = 0) → ((i32 (x4 + 1)) ∧ wpv K_X5_codeFor d P 7 [some (4, (p0 : Int)), some (0, x1), some (0, (kor ((kshl x2 3)) x4)), some (0, (kor x3 ((kshl 1 x4)))), some (0, (x4 + 1))] [] G R V)) ∧ ((¬ (kand ((kshr x3 x4)) 1) = 0) → P (some (0, (-1))) V))))))))))) ∧ ((x4 < (V p0 2)) → ((0 ≤ x4 ∧ x4 < 8) ∧ ((i32 (V (p0 + 1) x4)) → ((((V (p0 + 1) x4) < 0) → P (some (0, (-1))) V) ∧ ((¬ (V (p0 + 1) x4) < 0) → (((¬ (V (p0 + 1) x4) < 8) → P (some (0, (-1))) V) ∧ (((V (p0 + 1) x4) < 8) → (((¬ x4 < x1) → ((((kand ((kshr x3 ((V (p0 + 1) x4)))) 1) = 0) → ((i32 (x4 + 1)) ∧ wpv K_X5_codeFor d P 7 [some (4, (p0 : Int)), some (0, x1), some (0, (kor ((kshl x2 3)) ((V (p0 + 1) x4)))), some (0, (kor x3 ((kshl 1 ((V (p0 + 1) x4)))))), some (0, (x4 + 1))] [] G R V)) ∧ ((¬ (kand ((kshr x3 ((V (p0 + 1) x4)))) 1) = 0) → P (some (0, (-1))) V))) ∧ ((x4 < x1) → (((¬ (V (p0 + 1) x4) < x1) → P (some (0, (-1))) V) ∧ (((V (p0 + 1) x4) < x1) → ((((kand ((kshr x3 ((V (p0 + 1) x4)))) 1) = 0) → ((i32 (x4 + 1)) ∧ wpv K_X5_codeFor d P 7 [some (4, (p0 : Int)), some (0, x1), some (0, (kor ((kshl x2 3)) ((V (p0 + 1) x4)))), some (0, (kor x3 ((kshl 1 ((V (p0 + 1) x4)))))), some (0, (x4 + 1))] [] G R V)) ∧ ((¬ (kand ((kshr x3 ((V (p0 + 1) x4)))) 1) = 0) → P (some (0, (-1))) V)))))))))))))))))))))) : wpv K_X5_codeFor d P 7 [some (4, (p0 : Int)), some (0, x1), some (0, x2), some (0, x3), some (0, x4)] [] G R V := by
  refine wp_ld (i := (.iload 4)) (0, x4) rfl rfl (fun _ => rfl) rfl rfl (?_ : wpv K_X5_codeFor d P 9 [some (4, (p0 : Int)), some (0, x1), some (0, x2), some (0, x3), some (0, x4)] [(0, x4)] G R V)
  refine wp_p (i := (.bipush 8)) rfl rfl (fun _ _ _ => rfl) (?_ : wpv K_X5_codeFor d P 11 [some (4, (p0 : Int)), some (0, x1), some (0, x2), some (0, x3), some (0, x4)] [(0, 8), (0, x4)] G R V)
  obtain ⟨s1, w⟩ := w
  refine wp_icmp (c := .ge) 98 rfl rfl rfl s1 ⟨by omega, by omega⟩ (fun q => ?_) (fun q => ?_)
  · have q : ¬ x4 < 8 := q
    replace w := w.1 q
    show wpv K_X5_codeFor d P 98 [some (4, (p0 : Int)), some (0, x1), some (0, x2), some (0, x3), some (0, x4)] [] G R V
    refine wp_ld (i := (.iload_n 2)) (0, x2) rfl rfl (fun _ => rfl) rfl rfl (?_ : wpv K_X5_codeFor d P 99 [some (4, (p0 : Int)), some (0, x1), some (0, x2), some (0, x3), some (0, x4)] [(0, x2)] G R V)
    exact wp_rI rfl rfl rfl w
  · have q : x4 < 8 := Decidable.not_not.mp q
    replace w := w.2 q
    show wpv K_X5_codeFor d P 14 [some (4, (p0 : Int)), some (0, x1), some (0, x2), some (0, x3), some (0, x4)] [] G R V
    refine wp_ld (i := (.iload 4)) (0, x4) rfl rfl (fun _ => rfl) rfl rfl (?_ : wpv K_X5_codeFor d P 16 [some (4, (p0 : Int)), some (0, x1), some (0, x2), some (0, x3), some (0, x4)] [(0, x4)] G R V)
    refine wp_ld (i := (.iload_n 1)) (0, x1) rfl rfl (fun _ => rfl) rfl rfl (?_ : wpv K_X5_codeFor d P 17 [some (4, (p0 : Int)), some (0, x1), some (0, x2), some (0, x3), some (0, x4)] [(0, x1), (0, x4)] G R V)
    obtain ⟨s2, w⟩ := w
    refine wp_icmp (c := .ge) 39 rfl rfl rfl s1 s2 (fun q => ?_) (fun q => ?_)
    · have q : ¬ x4 < x1 := q
      replace w := w.1 q
      show wpv K_X5_codeFor d P 39 [some (4, (p0 : Int)), some (0, x1), some (0, x2), some (0, x3), some (0, x4)] [] G R V
      refine wp_ld (i := (.iload 4)) (0, x4) rfl rfl (fun _ => rfl) rfl rfl (?_ : wpv K_X5_codeFor d P 41 [some (4, (p0 : Int)), some (0, x1), some (0, x2), some (0, x3), some (0, x4)] [(0, x4)] G R V)
      refine wp_sto (i := (.istore 5)) _ rfl rfl (fun _ => rfl) rfl rfl rfl ?_
      refine wp_wk (L' := [some (4, (p0 : Int)), some (0, x1), some (0, x2), some (0, x3), some (0, x4), some (0, x4)]) (wk_s (wk_s (wk_s (wk_s (wk_s (wk_s wk_0)))))) ?_
      show wpv K_X5_codeFor d P 43 [some (4, (p0 : Int)), some (0, x1), some (0, x2), some (0, x3), some (0, x4), some (0, x4)] [] G R V
      refine wp_ld (i := (.iload 5)) (0, x4) rfl rfl (fun _ => rfl) rfl rfl (?_ : wpv K_X5_codeFor d P 45 [some (4, (p0 : Int)), some (0, x1), some (0, x2), some (0, x3), some (0, x4), some (0, x4)] [(0, x4)] G R V)
      refine wp_if (c := .lt) 76 rfl rfl rfl s1 (fun q => ?_) (fun q => ?_)
      · have q : x4 < 0 := q
        replace w := w.1 q
        show wpv K_X5_codeFor d P 76 [some (4, (p0 : Int)), some (0, x1), some (0, x2), some (0, x3), some (0, x4), some (0, x4)] [] G R V
        refine wp_p (i := (.iconst (-1))) rfl rfl (fun _ _ _ => rfl) (?_ : wpv K_X5_codeFor d P 77 [some (4, (p0 : Int)), some (0, x1), some (0, x2), some (0, x3), some (0, x4), some (0, x4)] [(0, (-1))] G R V)
        exact wp_rI rfl rfl rfl w
      · have q : ¬ x4 < 0 := q
        replace w := w.2 q
        show wpv K_X5_codeFor d P 48 [some (4, (p0 : Int)), some (0, x1), some (0, x2), some (0, x3), some (0, x4), some (0, x4)] [] G R V
        refine wp_ld (i := (.iload 5)) (0, x4) rfl rfl (fun _ => rfl) rfl rfl (?_ : wpv K_X5_codeFor d P 50 [some (4, (p0 : Int)), some (0, x1), some (0, x2), some (0, x3), some (0, x4), some (0, x4)] [(0, x4)] G R V)
        refine wp_p (i := (.bipush 8)) rfl rfl (fun _ _ _ => rfl) (?_ : wpv K_X5_codeFor d P 52 [some (4, (p0 : Int)), some (0, x1), some (0, x2), some (0, x3), some (0, x4), some (0, x4)] [(0, 8), (0, x4)] G R V)
        refine wp_icmp (c := .ge) 76 rfl rfl rfl s1 ⟨by omega, by omega⟩ (fun q => ?_) (fun q => ?_)
        · have q : ¬ x4 < 8 := q
          replace w := w.1 q
          show wpv K_X5_codeFor d P 76 [some (4, (p0 : Int)), some (0, x1), some (0, x2), some (0, x3), some (0, x4), some (0, x4)] [] G R V
          refine wp_p (i := (.iconst (-1))) rfl rfl (fun _ _ _ => rfl) (?_ : wpv K_X5_codeFor d P 77 [some (4, (p0 : Int)), some (0, x1), some (0, x2), some (0, x3), some (0, x4), some (0, x4)] [(0, (-1))] G R V)
          exact wp_rI rfl rfl rfl w
        · have q : x4 < 8 := Decidable.not_not.mp q
          replace w := w.2 q
          show wpv K_X5_codeFor d P 55 [some (4, (p0 : Int)), some (0, x1), some (0, x2), some (0, x3), some (0, x4), some (0, x4)] [] G R V
          refine wp_ld (i := (.iload 4)) (0, x4) rfl rfl (fun _ => rfl) rfl rfl (?_ : wpv K_X5_codeFor d P 57 [some (4, (p0 : Int)), some (0, x1), some (0, x2), some (0, x3), some (0, x4), some (0, x4)] [(0, x4)] G R V)
          refine wp_ld (i := (.iload_n 1)) (0, x1) rfl rfl (fun _ => rfl) rfl rfl (?_ : wpv K_X5_codeFor d P 58 [some (4, (p0 : Int)), some (0, x1), some (0, x2), some (0, x3), some (0, x4), some (0, x4)] [(0, x1), (0, x4)] G R V)
          refine wp_icmp (c := .ge) 67 rfl rfl rfl s1 s2 (fun q => ?_) (fun q => ?_)
          · have q : ¬ x4 < x1 := q
            replace w := w.1 q
            show wpv K_X5_codeFor d P 67 [some (4, (p0 : Int)), some (0, x1), some (0, x2), some (0, x3), some (0, x4), some (0, x4)] [] G R V
            refine wp_ld (i := (.iload_n 3)) (0, x3) rfl rfl (fun _ => rfl) rfl rfl (?_ : wpv K_X5_codeFor d P 68 [some (4, (p0 : Int)), some (0, x1), some (0, x2), some (0, x3), some (0, x4), some (0, x4)] [(0, x3)] G R V)
            refine wp_ld (i := (.iload 5)) (0, x4) rfl rfl (fun _ => rfl) rfl rfl (?_ : wpv K_X5_codeFor d P 70 [some (4, (p0 : Int)), some (0, x1), some (0, x2), some (0, x3), some (0, x4), some (0, x4)] [(0, x4), (0, x3)] G R V)
            refine wp_kshr rfl rfl (?_ : wpv K_X5_codeFor d P 71 [some (4, (p0 : Int)), some (0, x1), some (0, x2), some (0, x3), some (0, x4), some (0, x4)] [(0, (kshr x3 x4))] G R V)
            refine wp_p (i := (.iconst 1)) rfl rfl (fun _ _ _ => rfl) (?_ : wpv K_X5_codeFor d P 72 [some (4, (p0 : Int)), some (0, x1), some (0, x2), some (0, x3), some (0, x4), some (0, x4)] [(0, 1), (0, (kshr x3 x4))] G R V)
            refine wp_kand rfl rfl (?_ : wpv K_X5_codeFor d P 73 [some (4, (p0 : Int)), some (0, x1), some (0, x2), some (0, x3), some (0, x4), some (0, x4)] [(0, (kand ((kshr x3 x4)) 1))] G R V)
            refine wp_if (c := .eq) 78 rfl rfl rfl (t32 _) (fun q => ?_) (fun q => ?_)
            · have q : (kand ((kshr x3 x4)) 1) = 0 := q
              replace w := w.1 q
              show wpv K_X5_codeFor d P 78 [some (4, (p0 : Int)), some (0, x1), some (0, x2), some (0, x3), some (0, x4), some (0, x4)] [] G R V
              refine wp_ld (i := (.iload_n 3)) (0, x3) rfl rfl (fun _ => rfl) rfl rfl (?_ : wpv K_X5_codeFor d P 79 [some (4, (p0 : Int)), some (0, x1), some (0, x2), some (0, x3), some (0, x4), some (0, x4)] [(0, x3)] G R V)
              refine wp_p (i := (.iconst 1)) rfl rfl (fun _ _ _ => rfl) (?_ : wpv K_X5_codeFor d P 80 [some (4, (p0 : Int)), some (0, x1), some (0, x2), some (0, x3), some (0, x4), some (0, x4)] [(0, 1), (0, x3)] G R V)
              refine wp_ld (i := (.iload 5)) (0, x4) rfl rfl (fun _ => rfl) rfl rfl (?_ : wpv K_X5_codeFor d P 82 [some (4, (p0 : Int)), some (0, x1), some (0, x2), some (0, x3), some (0, x4), some (0, x4)] [(0, x4), (0, 1), (0, x3)] G R V)
              refine wp_kshl rfl rfl (?_ : wpv K_X5_codeFor d P 83 [some (4, (p0 : Int)), some (0, x1), some (0, x2), some (0, x3), some (0, x4), some (0, x4)] [(0, (kshl 1 x4)), (0, x3)] G R V)
              refine wp_kor rfl rfl (?_ : wpv K_X5_codeFor d P 84 [some (4, (p0 : Int)), some (0, x1), some (0, x2), some (0, x3), some (0, x4), some (0, x4)] [(0, (kor x3 ((kshl 1 x4))))] G R V)
              refine wp_sto (i := (.istore_n 3)) _ rfl rfl (fun _ => rfl) rfl rfl rfl ?_
              refine wp_wk (L' := [some (4, (p0 : Int)), some (0, x1), some (0, x2), some (0, (kor x3 ((kshl 1 x4)))), some (0, x4), some (0, x4)]) (wk_s (wk_s (wk_s (wk_s (wk_s (wk_s wk_0)))))) ?_
              show wpv K_X5_codeFor d P 85 [some (4, (p0 : Int)), some (0, x1), some (0, x2), some (0, (kor x3 ((kshl 1 x4)))), some (0, x4), some (0, x4)] [] G R V
              refine wp_ld (i := (.iload_n 2)) (0, x2) rfl rfl (fun _ => rfl) rfl rfl (?_ : wpv K_X5_codeFor d P 86 [some (4, (p0 : Int)), some (0, x1), some (0, x2), some (0, (kor x3 ((kshl 1 x4)))), some (0, x4), some (0, x4)] [(0, x2)] G R V)
              refine wp_p (i := (.iconst 3)) rfl rfl (fun _ _ _ => rfl) (?_ : wpv K_X5_codeFor d P 87 [some (4, (p0 : Int)), some (0, x1), some (0, x2), some (0, (kor x3 ((kshl 1 x4)))), some (0, x4), some (0, x4)] [(0, 3), (0, x2)] G R V)
              refine wp_kshl rfl rfl (?_ : wpv K_X5_codeFor d P 88 [some (4, (p0 : Int)), some (0, x1), some (0, x2), some (0, (kor x3 ((kshl 1 x4)))), some (0, x4), some (0, x4)] [(0, (kshl x2 3))] G R V)
              refine wp_ld (i := (.iload 5)) (0, x4) rfl rfl (fun _ => rfl) rfl rfl (?_ : wpv K_X5_codeFor d P 90 [some (4, (p0 : Int)), some (0, x1), some (0, x2), some (0, (kor x3 ((kshl 1 x4)))), some (0, x4), some (0, x4)] [(0, x4), (0, (kshl x2 3))] G R V)
              refine wp_kor rfl rfl (?_ : wpv K_X5_codeFor d P 91 [some (4, (p0 : Int)), some (0, x1), some (0, x2), some (0, (kor x3 ((kshl 1 x4)))), some (0, x4), some (0, x4)] [(0, (kor ((kshl x2 3)) x4))] G R V)
              refine wp_sto (i := (.istore_n 2)) _ rfl rfl (fun _ => rfl) rfl rfl rfl ?_
              refine wp_wk (L' := [some (4, (p0 : Int)), some (0, x1), some (0, (kor ((kshl x2 3)) x4)), some (0, (kor x3 ((kshl 1 x4)))), some (0, x4), some (0, x4)]) (wk_s (wk_s (wk_s (wk_s (wk_s (wk_s wk_0)))))) ?_
              show wpv K_X5_codeFor d P 92 [some (4, (p0 : Int)), some (0, x1), some (0, (kor ((kshl x2 3)) x4)), some (0, (kor x3 ((kshl 1 x4)))), some (0, x4), some (0, x4)] [] G R V
              obtain ⟨s3, w⟩ := w
              refine wp_inc (x := 4) (k := 1) (a := x4) (c := (x4 + 1)) _ rfl rfl rfl rfl s3 (by omega) rfl ?_
              show wpv K_X5_codeFor d P 95 [some (4, (p0 : Int)), some (0, x1), some (0, (kor ((kshl x2 3)) x4)), some (0, (kor x3 ((kshl 1 x4)))), some (0, (x4 + 1)), some (0, x4)] [] G R V
              refine wp_go 7 rfl rfl rfl (?_ : wpv K_X5_codeFor d P 7 [some (4, (p0 : Int)), some (0, x1), some (0, (kor ((kshl x2 3)) x4)), some (0, (kor x3 ((kshl 1 x4)))), some (0, (x4 + 1)), some (0, x4)] [] G R V)
              exact wp_wk (wk_s (wk_s (wk_s (wk_s (wk_s wk_0))))) w
            · have q : ¬ (kand ((kshr x3 x4)) 1) = 0 := q
              replace w := w.2 q
              show wpv K_X5_codeFor d P 76 [some (4, (p0 : Int)), some (0, x1), some (0, x2), some (0, x3), some (0, x4), some (0, x4)] [] G R V
              refine wp_p (i := (.iconst (-1))) rfl rfl (fun _ _ _ => rfl) (?_ : wpv K_X5_codeFor d P 77 [some (4, (p0 : Int)), some (0, x1), some (0, x2), some (0, x3), some (0, x4), some (0, x4)] [(0, (-1))] G R V)
              exact wp_rI rfl rfl rfl w
          · have q : x4 < x1 := Decidable.not_not.mp q
            replace w := w.2 q
            show wpv K_X5_codeFor d P 61 [some (4, (p0 : Int)), some (0, x1), some (0, x2), some (0, x3), some (0, x4), some (0, x4)] [] G R V
            refine wp_ld (i := (.iload 5)) (0, x4) rfl rfl (fun _ => rfl) rfl rfl (?_ : wpv K_X5_codeFor d P 63 [some (4, (p0 : Int)), some (0, x1), some (0, x2), some (0, x3), some (0, x4), some (0, x4)] [(0, x4)] G R V)
            refine wp_ld (i := (.iload_n 1)) (0, x1) rfl rfl (fun _ => rfl) rfl rfl (?_ : wpv K_X5_codeFor d P 64 [some (4, (p0 : Int)), some (0, x1), some (0, x2), some (0, x3), some (0, x4), some (0, x4)] [(0, x1), (0, x4)] G R V)
            refine wp_icmp (c := .ge) 76 rfl rfl rfl s1 s2 (fun q => ?_) (fun q => ?_)
            · have q : ¬ x4 < x1 := q
              replace w := w.1 q
              show wpv K_X5_codeFor d P 76 [some (4, (p0 : Int)), some (0, x1), some (0, x2), some (0, x3), some (0, x4), some (0, x4)] [] G R V
              refine wp_p (i := (.iconst (-1))) rfl rfl (fun _ _ _ => rfl) (?_ : wpv K_X5_codeFor d P 77 [some (4, (p0 : Int)), some (0, x1), some (0, x2), some (0, x3), some (0, x4), some (0, x4)] [(0, (-1))] G R V)
              exact wp_rI rfl rfl rfl w
            · have q : x4 < x1 := Decidable.not_not.mp q
              replace w := w.2 q
              show wpv K_X5_codeFor d P 67 [some (4, (p0 : Int)), some (0, x1), some (0, x2), some (0, x3), some (0, x4), some (0, x4)] [] G R V
              refine wp_ld (i := (.iload_n 3)) (0, x3) rfl rfl (fun _ => rfl) rfl rfl (?_ : wpv K_X5_codeFor d P 68 [some (4, (p0 : Int)), some (0, x1), some (0, x2), some (0, x3), some (0, x4), some (0, x4)] [(0, x3)] G R V)
              refine wp_ld (i := (.iload 5)) (0, x4) rfl rfl (fun _ => rfl) rfl rfl (?_ : wpv K_X5_codeFor d P 70 [some (4, (p0 : Int)), some (0, x1), some (0, x2), some (0, x3), some (0, x4), some (0, x4)] [(0, x4), (0, x3)] G R V)
              refine wp_kshr rfl rfl (?_ : wpv K_X5_codeFor d P 71 [some (4, (p0 : Int)), some (0, x1), some (0, x2), some (0, x3), some (0, x4), some (0, x4)] [(0, (kshr x3 x4))] G R V)
              refine wp_p (i := (.iconst 1)) rfl rfl (fun _ _ _ => rfl) (?_ : wpv K_X5_codeFor d P 72 [some (4, (p0 : Int)), some (0, x1), some (0, x2), some (0, x3), some (0, x4), some (0, x4)] [(0, 1), (0, (kshr x3 x4))] G R V)
              refine wp_kand rfl rfl (?_ : wpv K_X5_codeFor d P 73 [some (4, (p0 : Int)), some (0, x1), some (0, x2), some (0, x3), some (0, x4), some (0, x4)] [(0, (kand ((kshr x3 x4)) 1))] G R V)
              refine wp_if (c := .eq) 78 rfl rfl rfl (t32 _) (fun q => ?_) (fun q => ?_)
              · have q : (kand ((kshr x3 x4)) 1) = 0 := q
                replace w := w.1 q
                show wpv K_X5_codeFor d P 78 [some (4, (p0 : Int)), some (0, x1), some (0, x2), some (0, x3), some (0, x4), some (0, x4)] [] G R V
                refine wp_ld (i := (.iload_n 3)) (0, x3) rfl rfl (fun _ => rfl) rfl rfl (?_ : wpv K_X5_codeFor d P 79 [some (4, (p0 : Int)), some (0, x1), some (0, x2), some (0, x3), some (0, x4), some (0, x4)] [(0, x3)] G R V)
                refine wp_p (i := (.iconst 1)) rfl rfl (fun _ _ _ => rfl) (?_ : wpv K_X5_codeFor d P 80 [some (4, (p0 : Int)), some (0, x1), some (0, x2), some (0, x3), some (0, x4), some (0, x4)] [(0, 1), (0, x3)] G R V)
                refine wp_ld (i := (.iload 5)) (0, x4) rfl rfl (fun _ => rfl) rfl rfl (?_ : wpv K_X5_codeFor d P 82 [some (4, (p0 : Int)), some (0, x1), some (0, x2), some (0, x3), some (0, x4), some (0, x4)] [(0, x4), (0, 1), (0, x3)] G R V)
                refine wp_kshl rfl rfl (?_ : wpv K_X5_codeFor d P 83 [some (4, (p0 : Int)), some (0, x1), some (0, x2), some (0, x3), some (0, x4), some (0, x4)] [(0, (kshl 1 x4)), (0, x3)] G R V)
                refine wp_kor rfl rfl (?_ : wpv K_X5_codeFor d P 84 [some (4, (p0 : Int)), some (0, x1), some (0, x2), some (0, x3), some (0, x4), some (0, x4)] [(0, (kor x3 ((kshl 1 x4))))] G R V)
                refine wp_sto (i := (.istore_n 3)) _ rfl rfl (fun _ => rfl) rfl rfl rfl ?_
                refine wp_wk (L' := [some (4, (p0 : Int)), some (0, x1), some (0, x2), some (0, (kor x3 ((kshl 1 x4)))), some (0, x4), some (0, x4)]) (wk_s (wk_s (wk_s (wk_s (wk_s (wk_s wk_0)))))) ?_
                show wpv K_X5_codeFor d P 85 [some (4, (p0 : Int)), some (0, x1), some (0, x2), some (0, (kor x3 ((kshl 1 x4)))), some (0, x4), some (0, x4)] [] G R V
                refine wp_ld (i := (.iload_n 2)) (0, x2) rfl rfl (fun _ => rfl) rfl rfl (?_ : wpv K_X5_codeFor d P 86 [some (4, (p0 : Int)), some (0, x1), some (0, x2), some (0, (kor x3 ((kshl 1 x4)))), some (0, x4), some (0, x4)] [(0, x2)] G R V)
                refine wp_p (i := (.iconst 3)) rfl rfl (fun _ _ _ => rfl) (?_ : wpv K_X5_codeFor d P 87 [some (4, (p0 : Int)), some (0, x1), some (0, x2), some (0, (kor x3 ((kshl 1 x4)))), some (0, x4), some (0, x4)] [(0, 3), (0, x2)] G R V)
                refine wp_kshl rfl rfl (?_ : wpv K_X5_codeFor d P 88 [some (4, (p0 : Int)), some (0, x1), some (0, x2), some (0, (kor x3 ((kshl 1 x4)))), some (0, x4), some (0, x4)] [(0, (kshl x2 3))] G R V)
                refine wp_ld (i := (.iload 5)) (0, x4) rfl rfl (fun _ => rfl) rfl rfl (?_ : wpv K_X5_codeFor d P 90 [some (4, (p0 : Int)), some (0, x1), some (0, x2), some (0, (kor x3 ((kshl 1 x4)))), some (0, x4), some (0, x4)] [(0, x4), (0, (kshl x2 3))] G R V)
                refine wp_kor rfl rfl (?_ : wpv K_X5_codeFor d P 91 [some (4, (p0 : Int)), some (0, x1), some (0, x2), some (0, (kor x3 ((kshl 1 x4)))), some (0, x4), some (0, x4)] [(0, (kor ((kshl x2 3)) x4))] G R V)
                refine wp_sto (i := (.istore_n 2)) _ rfl rfl (fun _ => rfl) rfl rfl rfl ?_
                refine wp_wk (L' := [some (4, (p0 : Int)), some (0, x1), some (0, (kor ((kshl x2 3)) x4)), some (0, (kor x3 ((kshl 1 x4)))), some (0, x4), some (0, x4)]) (wk_s (wk_s (wk_s (wk_s (wk_s (wk_s wk_0)))))) ?_
                show wpv K_X5_codeFor d P 92 [some (4, (p0 : Int)), some (0, x1), some (0, (kor ((kshl x2 3)) x4)), some (0, (kor x3 ((kshl 1 x4)))), some (0, x4), some (0, x4)] [] G R V
                obtain ⟨s4, w⟩ := w
                refine wp_inc (x := 4) (k := 1) (a := x4) (c := (x4 + 1)) _ rfl rfl rfl rfl s4 (by omega) rfl ?_
                show wpv K_X5_codeFor d P 95 [some (4, (p0 : Int)), some (0, x1), some (0, (kor ((kshl x2 3)) x4)), some (0, (kor x3 ((kshl 1 x4)))), some (0, (x4 + 1)), some (0, x4)] [] G R V
                refine wp_go 7 rfl rfl rfl (?_ : wpv K_X5_codeFor d P 7 [some (4, (p0 : Int)), some (0, x1), some (0, (kor ((kshl x2 3)) x4)), some (0, (kor x3 ((kshl 1 x4)))), some (0, (x4 + 1)), some (0, x4)] [] G R V)
                exact wp_wk (wk_s (wk_s (wk_s (wk_s (wk_s wk_0))))) w
              · have q : ¬ (kand ((kshr x3 x4)) 1) = 0 := q
                replace w := w.2 q
                show wpv K_X5_codeFor d P 76 [some (4, (p0 : Int)), some (0, x1), some (0, x2), some (0, x3), some (0, x4), some (0, x4)] [] G R V
                refine wp_p (i := (.iconst (-1))) rfl rfl (fun _ _ _ => rfl) (?_ : wpv K_X5_codeFor d P 77 [some (4, (p0 : Int)), some (0, x1), some (0, x2), some (0, x3), some (0, x4), some (0, x4)] [(0, (-1))] G R V)
                exact wp_rI rfl rfl rfl w
    · have q : x4 < x1 := Decidable.not_not.mp q
      replace w := w.2 q
      show wpv K_X5_codeFor d P 20 [some (4, (p0 : Int)), some (0, x1), some (0, x2), some (0, x3), some (0, x4)] [] G R V
      refine wp_ld (i := (.iload 4)) (0, x4) rfl rfl (fun _ => rfl) rfl rfl (?_ : wpv K_X5_codeFor d P 22 [some (4, (p0 : Int)), some (0, x1), some (0, x2), some (0, x3), some (0, x4)] [(0, x4)] G R V)
      refine wp_ld (i := (.aload_n 0)) (4, (p0 : Int)) rfl rfl (fun _ => rfl) rfl rfl (?_ : wpv K_X5_codeFor d P 23 [some (4, (p0 : Int)), some (0, x1), some (0, x2), some (0, x3), some (0, x4)] [(4, (p0 : Int)), (0, x4)] G R V)
      refine wp_rng (fun vr5 => ?_)
      have f6 : i32 (V p0 2) := vr_f0 vr5 (ly5_o l0) rfl rfl
      replace w := w f6
      refine wp_getI (k := 2) rfl rfl rfl (ly5_o l0) rfl rfl (?_ : wpv K_X5_codeFor d P 26 [some (4, (p0 : Int)), some (0, x1), some (0, x2), some (0, x3), some (0, x4)] [(0, (V p0 2)), (0, x4)] G R V)
      refine wp_icmp (c := .ge) 39 rfl rfl rfl s1 f6 (fun q => ?_) (fun q => ?_)
      · have q : ¬ x4 < (V p0 2) := q
        replace w := w.1 q
        show wpv K_X5_codeFor d P 39 [some (4, (p0 : Int)), some (0, x1), some (0, x2), some (0, x3), some (0, x4)] [] G R V
        refine wp_ld (i := (.iload 4)) (0, x4) rfl rfl (fun _ => rfl) rfl rfl (?_ : wpv K_X5_codeFor d P 41 [some (4, (p0 : Int)), some (0, x1), some (0, x2), some (0, x3), some (0, x4)] [(0, x4)] G R V)
        refine wp_sto (i := (.istore 5)) _ rfl rfl (fun _ => rfl) rfl rfl rfl ?_
        refine wp_wk (L' := [some (4, (p0 : Int)), some (0, x1), some (0, x2), some (0, x3), some (0, x4), some (0, x4)]) (wk_s (wk_s (wk_s (wk_s (wk_s (wk_s wk_0)))))) ?_
        show wpv K_X5_codeFor d P 43 [some (4, (p0 : Int)), some (0, x1), some (0, x2), some (0, x3), some (0, x4), some (0, x4)] [] G R V
        refine wp_ld (i := (.iload 5)) (0, x4) rfl rfl (fun _ => rfl) rfl rfl (?_ : wpv K_X5_codeFor d P 45 [some (4, (p0 : Int)), some (0, x1), some (0, x2), some (0, x3), some (0, x4), some (0, x4)] [(0, x4)] G R V)
        refine wp_if (c := .lt) 76 rfl rfl rfl s1 (fun q => ?_) (fun q => ?_)
        · have q : x4 < 0 := q
          replace w := w.1 q
          show wpv K_X5_codeFor d P 76 [some (4, (p0 : Int)), some (0, x1), some (0, x2), some (0, x3), some (0, x4), some (0, x4)] [] G R V
          refine wp_p (i := (.iconst (-1))) rfl rfl (fun _ _ _ => rfl) (?_ : wpv K_X5_codeFor d P 77 [some (4, (p0 : Int)), some (0, x1), some (0, x2), some (0, x3), some (0, x4), some (0, x4)] [(0, (-1))] G R V)
          exact wp_rI rfl rfl rfl w
        · have q : ¬ x4 < 0 := q
          replace w := w.2 q
          show wpv K_X5_codeFor d P 48 [some (4, (p0 : Int)), some (0, x1), some (0, x2), some (0, x3), some (0, x4), some (0, x4)] [] G R V
          refine wp_ld (i := (.iload 5)) (0, x4) rfl rfl (fun _ => rfl) rfl rfl (?_ : wpv K_X5_codeFor d P 50 [some (4, (p0 : Int)), some (0, x1), some (0, x2), some (0, x3), some (0, x4), some (0, x4)] [(0, x4)] G R V)
          refine wp_p (i := (.bipush 8)) rfl rfl (fun _ _ _ => rfl) (?_ : wpv K_X5_codeFor d P 52 [some (4, (p0 : Int)), some (0, x1), some (0, x2), some (0, x3), some (0, x4), some (0, x4)] [(0, 8), (0, x4)] G R V)
          refine wp_icmp (c := .ge) 76 rfl rfl rfl s1 ⟨by omega, by omega⟩ (fun q => ?_) (fun q => ?_)
          · have q : ¬ x4 < 8 := q
            replace w := w.1 q
            show wpv K_X5_codeFor d P 76 [some (4, (p0 : Int)), some (0, x1), some (0, x2), some (0, x3), some (0, x4), some (0, x4)] [] G R V
            refine wp_p (i := (.iconst (-1))) rfl rfl (fun _ _ _ => rfl) (?_ : wpv K_X5_codeFor d P 77 [some (4, (p0 : Int)), some (0, x1), some (0, x2), some (0, x3), some (0, x4), some (0, x4)] [(0, (-1))] G R V)
            exact wp_rI rfl rfl rfl w
          · have q : x4 < 8 := Decidable.not_not.mp q
            replace w := w.2 q
            show wpv K_X5_codeFor d P 55 [some (4, (p0 : Int)), some (0, x1), some (0, x2), some (0, x3), some (0, x4), some (0, x4)] [] G R V
            refine wp_ld (i := (.iload 4)) (0, x4) rfl rfl (fun _ => rfl) rfl rfl (?_ : wpv K_X5_codeFor d P 57 [some (4, (p0 : Int)), some (0, x1), some (0, x2), some (0, x3), some (0, x4), some (0, x4)] [(0, x4)] G R V)
            refine wp_ld (i := (.iload_n 1)) (0, x1) rfl rfl (fun _ => rfl) rfl rfl (?_ : wpv K_X5_codeFor d P 58 [some (4, (p0 : Int)), some (0, x1), some (0, x2), some (0, x3), some (0, x4), some (0, x4)] [(0, x1), (0, x4)] G R V)
            refine wp_icmp (c := .ge) 67 rfl rfl rfl s1 s2 (fun q => ?_) (fun q => ?_)
            · have q : ¬ x4 < x1 := q
              replace w := w.1 q
              show wpv K_X5_codeFor d P 67 [some (4, (p0 : Int)), some (0, x1), some (0, x2), some (0, x3), some (0, x4), some (0, x4)] [] G R V
              refine wp_ld (i := (.iload_n 3)) (0, x3) rfl rfl (fun _ => rfl) rfl rfl (?_ : wpv K_X5_codeFor d P 68 [some (4, (p0 : Int)), some (0, x1), some (0, x2), some (0, x3), some (0, x4), some (0, x4)] [(0, x3)] G R V)
              refine wp_ld (i := (.iload 5)) (0, x4) rfl rfl (fun _ => rfl) rfl rfl (?_ : wpv K_X5_codeFor d P 70 [some (4, (p0 : Int)), some (0, x1), some (0, x2), some (0, x3), some (0, x4), some (0, x4)] [(0, x4), (0, x3)] G R V)
              refine wp_kshr rfl rfl (?_ : wpv K_X5_codeFor d P 71 [some (4, (p0 : Int)), some (0, x1), some (0, x2), some (0, x3), some (0, x4), some (0, x4)] [(0, (kshr x3 x4))] G R V)
              refine wp_p (i := (.iconst 1)) rfl rfl (fun _ _ _ => rfl) (?_ : wpv K_X5_codeFor d P 72 [some (4, (p0 : Int)), some (0, x1), some (0, x2), some (0, x3), some (0, x4), some (0, x4)] [(0, 1), (0, (kshr x3 x4))] G R V)
              refine wp_kand rfl rfl (?_ : wpv K_X5_codeFor d P 73 [some (4, (p0 : Int)), some (0, x1), some (0, x2), some (0, x3), some (0, x4), some (0, x4)] [(0, (kand ((kshr x3 x4)) 1))] G R V)
              refine wp_if (c := .eq) 78 rfl rfl rfl (t32 _) (fun q => ?_) (fun q => ?_)
              · have q : (kand ((kshr x3 x4)) 1) = 0 := q
                replace w := w.1 q
                show wpv K_X5_codeFor d P 78 [some (4, (p0 : Int)), some (0, x1), some (0, x2), some (0, x3), some (0, x4), some (0, x4)] [] G R V
                refine wp_ld (i := (.iload_n 3)) (0, x3) rfl rfl (fun _ => rfl) rfl rfl (?_ : wpv K_X5_codeFor d P 79 [some (4, (p0 : Int)), some (0, x1), some (0, x2), some (0, x3), some (0, x4), some (0, x4)] [(0, x3)] G R V)
                refine wp_p (i := (.iconst 1)) rfl rfl (fun _ _ _ => rfl) (?_ : wpv K_X5_codeFor d P 80 [some (4, (p0 : Int)), some (0, x1), some (0, x2), some (0, x3), some (0, x4), some (0, x4)] [(0, 1), (0, x3)] G R V)
                refine wp_ld (i := (.iload 5)) (0, x4) rfl rfl (fun _ => rfl) rfl rfl (?_ : wpv K_X5_codeFor d P 82 [some (4, (p0 : Int)), some (0, x1), some (0, x2), some (0, x3), some (0, x4), some (0, x4)] [(0, x4), (0, 1), (0, x3)] G R V)
                refine wp_kshl rfl rfl (?_ : wpv K_X5_codeFor d P 83 [some (4, (p0 : Int)), some (0, x1), some (0, x2), some (0, x3), some (0, x4), some (0, x4)] [(0, (kshl 1 x4)), (0, x3)] G R V)
                refine wp_kor rfl rfl (?_ : wpv K_X5_codeFor d P 84 [some (4, (p0 : Int)), some (0, x1), some (0, x2), some (0, x3), some (0, x4), some (0, x4)] [(0, (kor x3 ((kshl 1 x4))))] G R V)
                refine wp_sto (i := (.istore_n 3)) _ rfl rfl (fun _ => rfl) rfl rfl rfl ?_
                refine wp_wk (L' := [some (4, (p0 : Int)), some (0, x1), some (0, x2), some (0, (kor x3 ((kshl 1 x4)))), some (0, x4), some (0, x4)]) (wk_s (wk_s (wk_s (wk_s (wk_s (wk_s wk_0)))))) ?_
                show wpv K_X5_codeFor d P 85 [some (4, (p0 : Int)), some (0, x1), some (0, x2), some (0, (kor x3 ((kshl 1 x4)))), some (0, x4), some (0, x4)] [] G R V
                refine wp_ld (i := (.iload_n 2)) (0, x2) rfl rfl (fun _ => rfl) rfl rfl (?_ : wpv K_X5_codeFor d P 86 [some (4, (p0 : Int)), some (0, x1), some (0, x2), some (0, (kor x3 ((kshl 1 x4)))), some (0, x4), some (0, x4)] [(0, x2)] G R V)
                refine wp_p (i := (.iconst 3)) rfl rfl (fun _ _ _ => rfl) (?_ : wpv K_X5_codeFor d P 87 [some (4, (p0 : Int)), some (0, x1), some (0, x2), some (0, (kor x3 ((kshl 1 x4)))), some (0, x4), some (0, x4)] [(0, 3), (0, x2)] G R V)
                refine wp_kshl rfl rfl (?_ : wpv K_X5_codeFor d P 88 [some (4, (p0 : Int)), some (0, x1), some (0, x2), some (0, (kor x3 ((kshl 1 x4)))), some (0, x4), some (0, x4)] [(0, (kshl x2 3))] G R V)
                refine wp_ld (i := (.iload 5)) (0, x4) rfl rfl (fun _ => rfl) rfl rfl (?_ : wpv K_X5_codeFor d P 90 [some (4, (p0 : Int)), some (0, x1), some (0, x2), some (0, (kor x3 ((kshl 1 x4)))), some (0, x4), some (0, x4)] [(0, x4), (0, (kshl x2 3))] G R V)
                refine wp_kor rfl rfl (?_ : wpv K_X5_codeFor d P 91 [some (4, (p0 : Int)), some (0, x1), some (0, x2), some (0, (kor x3 ((kshl 1 x4)))), some (0, x4), some (0, x4)] [(0, (kor ((kshl x2 3)) x4))] G R V)
                refine wp_sto (i := (.istore_n 2)) _ rfl rfl (fun _ => rfl) rfl rfl rfl ?_
                refine wp_wk (L' := [some (4, (p0 : Int)), some (0, x1), some (0, (kor ((kshl x2 3)) x4)), some (0, (kor x3 ((kshl 1 x4)))), some (0, x4), some (0, x4)]) (wk_s (wk_s (wk_s (wk_s (wk_s (wk_s wk_0)))))) ?_
                show wpv K_X5_codeFor d P 92 [some (4, (p0 : Int)), some (0, x1), some (0, (kor ((kshl x2 3)) x4)), some (0, (kor x3 ((kshl 1 x4)))), some (0, x4), some (0, x4)] [] G R V
                obtain ⟨s7, w⟩ := w
                refine wp_inc (x := 4) (k := 1) (a := x4) (c := (x4 + 1)) _ rfl rfl rfl rfl s7 (by omega) rfl ?_
                show wpv K_X5_codeFor d P 95 [some (4, (p0 : Int)), some (0, x1), some (0, (kor ((kshl x2 3)) x4)), some (0, (kor x3 ((kshl 1 x4)))), some (0, (x4 + 1)), some (0, x4)] [] G R V
                refine wp_go 7 rfl rfl rfl (?_ : wpv K_X5_codeFor d P 7 [some (4, (p0 : Int)), some (0, x1), some (0, (kor ((kshl x2 3)) x4)), some (0, (kor x3 ((kshl 1 x4)))), some (0, (x4 + 1)), some (0, x4)] [] G R V)
                exact wp_wk (wk_s (wk_s (wk_s (wk_s (wk_s wk_0))))) w
              · have q : ¬ (kand ((kshr x3 x4)) 1) = 0 := q
                replace w := w.2 q
                show wpv K_X5_codeFor d P 76 [some (4, (p0 : Int)), some (0, x1), some (0, x2), some (0, x3), some (0, x4), some (0, x4)] [] G R V
                refine wp_p (i := (.iconst (-1))) rfl rfl (fun _ _ _ => rfl) (?_ : wpv K_X5_codeFor d P 77 [some (4, (p0 : Int)), some (0, x1), some (0, x2), some (0, x3), some (0, x4), some (0, x4)] [(0, (-1))] G R V)
                exact wp_rI rfl rfl rfl w
            · have q : x4 < x1 := Decidable.not_not.mp q
              replace w := w.2 q
              show wpv K_X5_codeFor d P 61 [some (4, (p0 : Int)), some (0, x1), some (0, x2), some (0, x3), some (0, x4), some (0, x4)] [] G R V
              refine wp_ld (i := (.iload 5)) (0, x4) rfl rfl (fun _ => rfl) rfl rfl (?_ : wpv K_X5_codeFor d P 63 [some (4, (p0 : Int)), some (0, x1), some (0, x2), some (0, x3), some (0, x4), some (0, x4)] [(0, x4)] G R V)
              refine wp_ld (i := (.iload_n 1)) (0, x1) rfl rfl (fun _ => rfl) rfl rfl (?_ : wpv K_X5_codeFor d P 64 [some (4, (p0 : Int)), some (0, x1), some (0, x2), some (0, x3), some (0, x4), some (0, x4)] [(0, x1), (0, x4)] G R V)
              refine wp_icmp (c := .ge) 76 rfl rfl rfl s1 s2 (fun q => ?_) (fun q => ?_)
              · have q : ¬ x4 < x1 := q
                replace w := w.1 q
                show wpv K_X5_codeFor d P 76 [some (4, (p0 : Int)), some (0, x1), some (0, x2), some (0, x3), some (0, x4), some (0, x4)] [] G R V
                refine wp_p (i := (.iconst (-1))) rfl rfl (fun _ _ _ => rfl) (?_ : wpv K_X5_codeFor d P 77 [some (4, (p0 : Int)), some (0, x1), some (0, x2), some (0, x3), some (0, x4), some (0, x4)] [(0, (-1))] G R V)
                exact wp_rI rfl rfl rfl w
              · have q : x4 < x1 := Decidable.not_not.mp q
                replace w := w.2 q
                show wpv K_X5_codeFor d P 67 [some (4, (p0 : Int)), some (0, x1), some (0, x2), some (0, x3), some (0, x4), some (0, x4)] [] G R V
                refine wp_ld (i := (.iload_n 3)) (0, x3) rfl rfl (fun _ => rfl) rfl rfl (?_ : wpv K_X5_codeFor d P 68 [some (4, (p0 : Int)), some (0, x1), some (0, x2), some (0, x3), some (0, x4), some (0, x4)] [(0, x3)] G R V)
                refine wp_ld (i := (.iload 5)) (0, x4) rfl rfl (fun _ => rfl) rfl rfl (?_ : wpv K_X5_codeFor d P 70 [some (4, (p0 : Int)), some (0, x1), some (0, x2), some (0, x3), some (0, x4), some (0, x4)] [(0, x4), (0, x3)] G R V)
                refine wp_kshr rfl rfl (?_ : wpv K_X5_codeFor d P 71 [some (4, (p0 : Int)), some (0, x1), some (0, x2), some (0, x3), some (0, x4), some (0, x4)] [(0, (kshr x3 x4))] G R V)
                refine wp_p (i := (.iconst 1)) rfl rfl (fun _ _ _ => rfl) (?_ : wpv K_X5_codeFor d P 72 [some (4, (p0 : Int)), some (0, x1), some (0, x2), some (0, x3), some (0, x4), some (0, x4)] [(0, 1), (0, (kshr x3 x4))] G R V)
                refine wp_kand rfl rfl (?_ : wpv K_X5_codeFor d P 73 [some (4, (p0 : Int)), some (0, x1), some (0, x2), some (0, x3), some (0, x4), some (0, x4)] [(0, (kand ((kshr x3 x4)) 1))] G R V)
                refine wp_if (c := .eq) 78 rfl rfl rfl (t32 _) (fun q => ?_) (fun q => ?_)
                · have q : (kand ((kshr x3 x4)) 1) = 0 := q
                  replace w := w.1 q
                  show wpv K_X5_codeFor d P 78 [some (4, (p0 : Int)), some (0, x1), some (0, x2), some (0, x3), some (0, x4), some (0, x4)] [] G R V
                  refine wp_ld (i := (.iload_n 3)) (0, x3) rfl rfl (fun _ => rfl) rfl rfl (?_ : wpv K_X5_codeFor d P 79 [some (4, (p0 : Int)), some (0, x1), some (0, x2), some (0, x3), some (0, x4), some (0, x4)] [(0, x3)] G R V)
                  refine wp_p (i := (.iconst 1)) rfl rfl (fun _ _ _ => rfl) (?_ : wpv K_X5_codeFor d P 80 [some (4, (p0 : Int)), some (0, x1), some (0, x2), some (0, x3), some (0, x4), some (0, x4)] [(0, 1), (0, x3)] G R V)
                  refine wp_ld (i := (.iload 5)) (0, x4) rfl rfl (fun _ => rfl) rfl rfl (?_ : wpv K_X5_codeFor d P 82 [some (4, (p0 : Int)), some (0, x1), some (0, x2), some (0, x3), some (0, x4), some (0, x4)] [(0, x4), (0, 1), (0, x3)] G R V)
                  refine wp_kshl rfl rfl (?_ : wpv K_X5_codeFor d P 83 [some (4, (p0 : Int)), some (0, x1), some (0, x2), some (0, x3), some (0, x4), some (0, x4)] [(0, (kshl 1 x4)), (0, x3)] G R V)
                  refine wp_kor rfl rfl (?_ : wpv K_X5_codeFor d P 84 [some (4, (p0 : Int)), some (0, x1), some (0, x2), some (0, x3), some (0, x4), some (0, x4)] [(0, (kor x3 ((kshl 1 x4))))] G R V)
                  refine wp_sto (i := (.istore_n 3)) _ rfl rfl (fun _ => rfl) rfl rfl rfl ?_
                  refine wp_wk (L' := [some (4, (p0 : Int)), some (0, x1), some (0, x2), some (0, (kor x3 ((kshl 1 x4)))), some (0, x4), some (0, x4)]) (wk_s (wk_s (wk_s (wk_s (wk_s (wk_s wk_0)))))) ?_
                  show wpv K_X5_codeFor d P 85 [some (4, (p0 : Int)), some (0, x1), some (0, x2), some (0, (kor x3 ((kshl 1 x4)))), some (0, x4), some (0, x4)] [] G R V
                  refine wp_ld (i := (.iload_n 2)) (0, x2) rfl rfl (fun _ => rfl) rfl rfl (?_ : wpv K_X5_codeFor d P 86 [some (4, (p0 : Int)), some (0, x1), some (0, x2), some (0, (kor x3 ((kshl 1 x4)))), some (0, x4), some (0, x4)] [(0, x2)] G R V)
                  refine wp_p (i := (.iconst 3)) rfl rfl (fun _ _ _ => rfl) (?_ : wpv K_X5_codeFor d P 87 [some (4, (p0 : Int)), some (0, x1), some (0, x2), some (0, (kor x3 ((kshl 1 x4)))), some (0, x4), some (0, x4)] [(0, 3), (0, x2)] G R V)
                  refine wp_kshl rfl rfl (?_ : wpv K_X5_codeFor d P 88 [some (4, (p0 : Int)), some (0, x1), some (0, x2), some (0, (kor x3 ((kshl 1 x4)))), some (0, x4), some (0, x4)] [(0, (kshl x2 3))] G R V)
                  refine wp_ld (i := (.iload 5)) (0, x4) rfl rfl (fun _ => rfl) rfl rfl (?_ : wpv K_X5_codeFor d P 90 [some (4, (p0 : Int)), some (0, x1), some (0, x2), some (0, (kor x3 ((kshl 1 x4)))), some (0, x4), some (0, x4)] [(0, x4), (0, (kshl x2 3))] G R V)
                  refine wp_kor rfl rfl (?_ : wpv K_X5_codeFor d P 91 [some (4, (p0 : Int)), some (0, x1), some (0, x2), some (0, (kor x3 ((kshl 1 x4)))), some (0, x4), some (0, x4)] [(0, (kor ((kshl x2 3)) x4))] G R V)
                  refine wp_sto (i := (.istore_n 2)) _ rfl rfl (fun _ => rfl) rfl rfl rfl ?_
                  refine wp_wk (L' := [some (4, (p0 : Int)), some (0, x1), some (0, (kor ((kshl x2 3)) x4)), some (0, (kor x3 ((kshl 1 x4)))), some (0, x4), some (0, x4)]) (wk_s (wk_s (wk_s (wk_s (wk_s (wk_s wk_0)))))) ?_
                  show wpv K_X5_codeFor d P 92 [some (4, (p0 : Int)), some (0, x1), some (0, (kor ((kshl x2 3)) x4)), some (0, (kor x3 ((kshl 1 x4)))), some (0, x4), some (0, x4)] [] G R V
                  obtain ⟨s8, w⟩ := w
                  refine wp_inc (x := 4) (k := 1) (a := x4) (c := (x4 + 1)) _ rfl rfl rfl rfl s8 (by omega) rfl ?_
                  show wpv K_X5_codeFor d P 95 [some (4, (p0 : Int)), some (0, x1), some (0, (kor ((kshl x2 3)) x4)), some (0, (kor x3 ((kshl 1 x4)))), some (0, (x4 + 1)), some (0, x4)] [] G R V
                  refine wp_go 7 rfl rfl rfl (?_ : wpv K_X5_codeFor d P 7 [some (4, (p0 : Int)), some (0, x1), some (0, (kor ((kshl x2 3)) x4)), some (0, (kor x3 ((kshl 1 x4)))), some (0, (x4 + 1)), some (0, x4)] [] G R V)
                  exact wp_wk (wk_s (wk_s (wk_s (wk_s (wk_s wk_0))))) w
                · have q : ¬ (kand ((kshr x3 x4)) 1) = 0 := q
                  replace w := w.2 q
                  show wpv K_X5_codeFor d P 76 [some (4, (p0 : Int)), some (0, x1), some (0, x2), some (0, x3), some (0, x4), some (0, x4)] [] G R V
                  refine wp_p (i := (.iconst (-1))) rfl rfl (fun _ _ _ => rfl) (?_ : wpv K_X5_codeFor d P 77 [some (4, (p0 : Int)), some (0, x1), some (0, x2), some (0, x3), some (0, x4), some (0, x4)] [(0, (-1))] G R V)
                  exact wp_rI rfl rfl rfl w
      · have q : x4 < (V p0 2) := Decidable.not_not.mp q
        replace w := w.2 q
        show wpv K_X5_codeFor d P 29 [some (4, (p0 : Int)), some (0, x1), some (0, x2), some (0, x3), some (0, x4)] [] G R V
        refine wp_ld (i := (.aload_n 0)) (4, (p0 : Int)) rfl rfl (fun _ => rfl) rfl rfl (?_ : wpv K_X5_codeFor d P 30 [some (4, (p0 : Int)), some (0, x1), some (0, x2), some (0, x3), some (0, x4)] [(4, (p0 : Int))] G R V)
        refine wp_getA (k := 0) rfl rfl rfl (ly5_o l0) rfl rfl (ly5_0 l0).1 (?_ : wpv K_X5_codeFor d P 33 [some (4, (p0 : Int)), some (0, x1), some (0, x2), some (0, x3), some (0, x4)] [(4, ((p0 + 1 : Nat) : Int))] G R V)
        refine wp_ld (i := (.iload 4)) (0, x4) rfl rfl (fun _ => rfl) rfl rfl (?_ : wpv K_X5_codeFor d P 35 [some (4, (p0 : Int)), some (0, x1), some (0, x2), some (0, x3), some (0, x4)] [(0, x4), (4, ((p0 + 1 : Nat) : Int))] G R V)
        obtain ⟨s9, w⟩ := w
        have f10 : i32 (V (p0 + 1) x4) := vr_a0 vr5 (ly5_0 l0).2 s9
        replace w := w f10
        refine wp_aI rfl rfl (ly5_0 l0).2 s9 (?_ : wpv K_X5_codeFor d P 36 [some (4, (p0 : Int)), some (0, x1), some (0, x2), some (0, x3), some (0, x4)] [(0, (V (p0 + 1) x4))] G R V)
        refine wp_go 41 rfl rfl rfl (?_ : wpv K_X5_codeFor d P 41 [some (4, (p0 : Int)), some (0, x1), some (0, x2), some (0, x3), some (0, x4)] [(0, (V (p0 + 1) x4))] G R V)
        refine wp_sto (i := (.istore 5)) _ rfl rfl (fun _ => rfl) rfl rfl rfl ?_
        refine wp_wk (L' := [some (4, (p0 : Int)), some (0, x1), some (0, x2), some (0, x3), some (0, x4), some (0, (V (p0 + 1) x4))]) (wk_s (wk_s (wk_s (wk_s (wk_s (wk_s wk_0)))))) ?_
        show wpv K_X5_codeFor d P 43 [some (4, (p0 : Int)), some (0, x1), some (0, x2), some (0, x3), some (0, x4), some (0, (V (p0 + 1) x4))] [] G R V
        refine wp_ld (i := (.iload 5)) (0, (V (p0 + 1) x4)) rfl rfl (fun _ => rfl) rfl rfl (?_ : wpv K_X5_codeFor d P 45 [some (4, (p0 : Int)), some (0, x1), some (0, x2), some (0, x3), some (0, x4), some (0, (V (p0 + 1) x4))] [(0, (V (p0 + 1) x4))] G R V)
        refine wp_if (c := .lt) 76 rfl rfl rfl f10 (fun q => ?_) (fun q => ?_)
        · have q : (V (p0 + 1) x4) < 0 := q
          replace w := w.1 q
          show wpv K_X5_codeFor d P 76 [some (4, (p0 : Int)), some (0, x1), some (0, x2), some (0, x3), some (0, x4), some (0, (V (p0 + 1) x4))] [] G R V
          refine wp_p (i := (.iconst (-1))) rfl rfl (fun _ _ _ => rfl) (?_ : wpv K_X5_codeFor d P 77 [some (4, (p0 : Int)), some (0, x1), some (0, x2), some (0, x3), some (0, x4), some (0, (V (p0 + 1) x4))] [(0, (-1))] G R V)
          exact wp_rI rfl rfl rfl w
        · have q : ¬ (V (p0 + 1) x4) < 0 := q
          replace w := w.2 q
          show wpv K_X5_codeFor d P 48 [some (4, (p0 : Int)), some (0, x1), some (0, x2), some (0, x3), some (0, x4), some (0, (V (p0 + 1) x4))] [] G R V
          refine wp_ld (i := (.iload 5)) (0, (V (p0 + 1) x4)) rfl rfl (fun _ => rfl) rfl rfl (?_ : wpv K_X5_codeFor d P 50 [some (4, (p0 : Int)), some (0, x1), some (0, x2), some (0, x3), some (0, x4), some (0, (V (p0 + 1) x4))] [(0, (V (p0 + 1) x4))] G R V)
          refine wp_p (i := (.bipush 8)) rfl rfl (fun _ _ _ => rfl) (?_ : wpv K_X5_codeFor d P 52 [some (4, (p0 : Int)), some (0, x1), some (0, x2), some (0, x3), some (0, x4), some (0, (V (p0 + 1) x4))] [(0, 8), (0, (V (p0 + 1) x4))] G R V)
          refine wp_icmp (c := .ge) 76 rfl rfl rfl f10 ⟨by omega, by omega⟩ (fun q => ?_) (fun q => ?_)
          · have q : ¬ (V (p0 + 1) x4) < 8 := q
            replace w := w.1 q
            show wpv K_X5_codeFor d P 76 [some (4, (p0 : Int)), some (0, x1), some (0, x2), some (0, x3), some (0, x4), some (0, (V (p0 + 1) x4))] [] G R V
            refine wp_p (i := (.iconst (-1))) rfl rfl (fun _ _ _ => rfl) (?_ : wpv K_X5_codeFor d P 77 [some (4, (p0 : Int)), some (0, x1), some (0, x2), some (0, x3), some (0, x4), some (0, (V (p0 + 1) x4))] [(0, (-1))] G R V)
            exact wp_rI rfl rfl rfl w
          · have q : (V (p0 + 1) x4) < 8 := Decidable.not_not.mp q
            replace w := w.2 q
            show wpv K_X5_codeFor d P 55 [some (4, (p0 : Int)), some (0, x1), some (0, x2), some (0, x3), some (0, x4), some (0, (V (p0 + 1) x4))] [] G R V
            refine wp_ld (i := (.iload 4)) (0, x4) rfl rfl (fun _ => rfl) rfl rfl (?_ : wpv K_X5_codeFor d P 57 [some (4, (p0 : Int)), some (0, x1), some (0, x2), some (0, x3), some (0, x4), some (0, (V (p0 + 1) x4))] [(0, x4)] G R V)
            refine wp_ld (i := (.iload_n 1)) (0, x1) rfl rfl (fun _ => rfl) rfl rfl (?_ : wpv K_X5_codeFor d P 58 [some (4, (p0 : Int)), some (0, x1), some (0, x2), some (0, x3), some (0, x4), some (0, (V (p0 + 1) x4))] [(0, x1), (0, x4)] G R V)
            refine wp_icmp (c := .ge) 67 rfl rfl rfl s1 s2 (fun q => ?_) (fun q => ?_)
            · have q : ¬ x4 < x1 := q
              replace w := w.1 q
              show wpv K_X5_codeFor d P 67 [some (4, (p0 : Int)), some (0, x1), some (0, x2), some (0, x3), some (0, x4), some (0, (V (p0 + 1) x4))] [] G R V
              refine wp_ld (i := (.iload_n 3)) (0, x3) rfl rfl (fun _ => rfl) rfl rfl (?_ : wpv K_X5_codeFor d P 68 [some (4, (p0 : Int)), some (0, x1), some (0, x2), some (0, x3), some (0, x4), some (0, (V (p0 + 1) x4))] [(0, x3)] G R V)
              refine wp_ld (i := (.iload 5)) (0, (V (p0 + 1) x4)) rfl rfl (fun _ => rfl) rfl rfl (?_ : wpv K_X5_codeFor d P 70 [some (4, (p0 : Int)), some (0, x1), some (0, x2), some (0, x3), some (0, x4), some (0, (V (p0 + 1) x4))] [(0, (V (p0 + 1) x4)), (0, x3)] G R V)
              refine wp_kshr rfl rfl (?_ : wpv K_X5_codeFor d P 71 [some (4, (p0 : Int)), some (0, x1), some (0, x2), some (0, x3), some (0, x4), some (0, (V (p0 + 1) x4))] [(0, (kshr x3 ((V (p0 + 1) x4))))] G R V)
              refine wp_p (i := (.iconst 1)) rfl rfl (fun _ _ _ => rfl) (?_ : wpv K_X5_codeFor d P 72 [some (4, (p0 : Int)), some (0, x1), some (0, x2), some (0, x3), some (0, x4), some (0, (V (p0 + 1) x4))] [(0, 1), (0, (kshr x3 ((V (p0 + 1) x4))))] G R V)
              refine wp_kand rfl rfl (?_ : wpv K_X5_codeFor d P 73 [some (4, (p0 : Int)), some (0, x1), some (0, x2), some (0, x3), some (0, x4), some (0, (V (p0 + 1) x4))] [(0, (kand ((kshr x3 ((V (p0 + 1) x4)))) 1))] G R V)
              refine wp_if (c := .eq) 78 rfl rfl rfl (t32 _) (fun q => ?_) (fun q => ?_)
              · have q : (kand ((kshr x3 ((V (p0 + 1) x4)))) 1) = 0 := q
                replace w := w.1 q
                show wpv K_X5_codeFor d P 78 [some (4, (p0 : Int)), some (0, x1), some (0, x2), some (0, x3), some (0, x4), some (0, (V (p0 + 1) x4))] [] G R V
                refine wp_ld (i := (.iload_n 3)) (0, x3) rfl rfl (fun _ => rfl) rfl rfl (?_ : wpv K_X5_codeFor d P 79 [some (4, (p0 : Int)), some (0, x1), some (0, x2), some (0, x3), some (0, x4), some (0, (V (p0 + 1) x4))] [(0, x3)] G R V)
                refine wp_p (i := (.iconst 1)) rfl rfl (fun _ _ _ => rfl) (?_ : wpv K_X5_codeFor d P 80 [some (4, (p0 : Int)), some (0, x1), some (0, x2), some (0, x3), some (0, x4), some (0, (V (p0 + 1) x4))] [(0, 1), (0, x3)] G R V)
                refine wp_ld (i := (.iload 5)) (0, (V (p0 + 1) x4)) rfl rfl (fun _ => rfl) rfl rfl (?_ : wpv K_X5_codeFor d P 82 [some (4, (p0 : Int)), some (0, x1), some (0, x2), some (0, x3), some (0, x4), some (0, (V (p0 + 1) x4))] [(0, (V (p0 + 1) x4)), (0, 1), (0, x3)] G R V)
                refine wp_kshl rfl rfl (?_ : wpv K_X5_codeFor d P 83 [some (4, (p0 : Int)), some (0, x1), some (0, x2), some (0, x3), some (0, x4), some (0, (V (p0 + 1) x4))] [(0, (kshl 1 ((V (p0 + 1) x4)))), (0, x3)] G R V)
                refine wp_kor rfl rfl (?_ : wpv K_X5_codeFor d P 84 [some (4, (p0 : Int)), some (0, x1), some (0, x2), some (0, x3), some (0, x4), some (0, (V (p0 + 1) x4))] [(0, (kor x3 ((kshl 1 ((V (p0 + 1) x4))))))] G R V)
                refine wp_sto (i := (.istore_n 3)) _ rfl rfl (fun _ => rfl) rfl rfl rfl ?_
                refine wp_wk (L' := [some (4, (p0 : Int)), some (0, x1), some (0, x2), some (0, (kor x3 ((kshl 1 ((V (p0 + 1) x4)))))), some (0, x4), some (0, (V (p0 + 1) x4))]) (wk_s (wk_s (wk_s (wk_s (wk_s (wk_s wk_0)))))) ?_
                show wpv K_X5_codeFor d P 85 [some (4, (p0 : Int)), some (0, x1), some (0, x2), some (0, (kor x3 ((kshl 1 ((V (p0 + 1) x4)))))), some (0, x4), some (0, (V (p0 + 1) x4))] [] G R V
                refine wp_ld (i := (.iload_n 2)) (0, x2) rfl rfl (fun _ => rfl) rfl rfl (?_ : wpv K_X5_codeFor d P 86 [some (4, (p0 : Int)), some (0, x1), some (0, x2), some (0, (kor x3 ((kshl 1 ((V (p0 + 1) x4)))))), some (0, x4), some (0, (V (p0 + 1) x4))] [(0, x2)] G R V)
                refine wp_p (i := (.iconst 3)) rfl rfl (fun _ _ _ => rfl) (?_ : wpv K_X5_codeFor d P 87 [some (4, (p0 : Int)), some (0, x1), some (0, x2), some (0, (kor x3 ((kshl 1 ((V (p0 + 1) x4)))))), some (0, x4), some (0, (V (p0 + 1) x4))] [(0, 3), (0, x2)] G R V)
                refine wp_kshl rfl rfl (?_ : wpv K_X5_codeFor d P 88 [some (4, (p0 : Int)), some (0, x1), some (0, x2), some (0, (kor x3 ((kshl 1 ((V (p0 + 1) x4)))))), some (0, x4), some (0, (V (p0 + 1) x4))] [(0, (kshl x2 3))] G R V)
                refine wp_ld (i := (.iload 5)) (0, (V (p0 + 1) x4)) rfl rfl (fun _ => rfl) rfl rfl (?_ : wpv K_X5_codeFor d P 90 [some (4, (p0 : Int)), some (0, x1), some (0, x2), some (0, (kor x3 ((kshl 1 ((V (p0 + 1) x4)))))), some (0, x4), some (0, (V (p0 + 1) x4))] [(0, (V (p0 + 1) x4)), (0, (kshl x2 3))] G R V)
                refine wp_kor rfl rfl (?_ : wpv K_X5_codeFor d P 91 [some (4, (p0 : Int)), some (0, x1), some (0, x2), some (0, (kor x3 ((kshl 1 ((V (p0 + 1) x4)))))), some (0, x4), some (0, (V (p0 + 1) x4))] [(0, (kor ((kshl x2 3)) ((V (p0 + 1) x4))))] G R V)
                refine wp_sto (i := (.istore_n 2)) _ rfl rfl (fun _ => rfl) rfl rfl rfl ?_
                refine wp_wk (L' := [some (4, (p0 : Int)), some (0, x1), some (0, (kor ((kshl x2 3)) ((V (p0 + 1) x4)))), some (0, (kor x3 ((kshl 1 ((V (p0 + 1) x4)))))), some (0, x4), some (0, (V (p0 + 1) x4))]) (wk_s (wk_s (wk_s (wk_s (wk_s (wk_s wk_0)))))) ?_
                show wpv K_X5_codeFor d P 92 [some (4, (p0 : Int)), some (0, x1), some (0, (kor ((kshl x2 3)) ((V (p0 + 1) x4)))), some (0, (kor x3 ((kshl 1 ((V (p0 + 1) x4)))))), some (0, x4), some (0, (V (p0 + 1) x4))] [] G R V
                obtain ⟨s11, w⟩ := w
                refine wp_inc (x := 4) (k := 1) (a := x4) (c := (x4 + 1)) _ rfl rfl rfl rfl s11 (by omega) rfl ?_
                show wpv K_X5_codeFor d P 95 [some (4, (p0 : Int)), some (0, x1), some (0, (kor ((kshl x2 3)) ((V (p0 + 1) x4)))), some (0, (kor x3 ((kshl 1 ((V (p0 + 1) x4)))))), some (0, (x4 + 1)), some (0, (V (p0 + 1) x4))] [] G R V
                refine wp_go 7 rfl rfl rfl (?_ : wpv K_X5_codeFor d P 7 [some (4, (p0 : Int)), some (0, x1), some (0, (kor ((kshl x2 3)) ((V (p0 + 1) x4)))), some (0, (kor x3 ((kshl 1 ((V (p0 + 1) x4)))))), some (0, (x4 + 1)), some (0, (V (p0 + 1) x4))] [] G R V)
                exact wp_wk (wk_s (wk_s (wk_s (wk_s (wk_s wk_0))))) w
              · have q : ¬ (kand ((kshr x3 ((V (p0 + 1) x4)))) 1) = 0 := q
                replace w := w.2 q
                show wpv K_X5_codeFor d P 76 [some (4, (p0 : Int)), some (0, x1), some (0, x2), some (0, x3), some (0, x4), some (0, (V (p0 + 1) x4))] [] G R V
                refine wp_p (i := (.iconst (-1))) rfl rfl (fun _ _ _ => rfl) (?_ : wpv K_X5_codeFor d P 77 [some (4, (p0 : Int)), some (0, x1), some (0, x2), some (0, x3), some (0, x4), some (0, (V (p0 + 1) x4))] [(0, (-1))] G R V)
                exact wp_rI rfl rfl rfl w
            · have q : x4 < x1 := Decidable.not_not.mp q
              replace w := w.2 q
              show wpv K_X5_codeFor d P 61 [some (4, (p0 : Int)), some (0, x1), some (0, x2), some (0, x3), some (0, x4), some (0, (V (p0 + 1) x4))] [] G R V
              refine wp_ld (i := (.iload 5)) (0, (V (p0 + 1) x4)) rfl rfl (fun _ => rfl) rfl rfl (?_ : wpv K_X5_codeFor d P 63 [some (4, (p0 : Int)), some (0, x1), some (0, x2), some (0, x3), some (0, x4), some (0, (V (p0 + 1) x4))] [(0, (V (p0 + 1) x4))] G R V)
              refine wp_ld (i := (.iload_n 1)) (0, x1) rfl rfl (fun _ => rfl) rfl rfl (?_ : wpv K_X5_codeFor d P 64 [some (4, (p0 : Int)), some (0, x1), some (0, x2), some (0, x3), some (0, x4), some (0, (V (p0 + 1) x4))] [(0, x1), (0, (V (p0 + 1) x4))] G R V)
              refine wp_icmp (c := .ge) 76 rfl rfl rfl f10 s2 (fun q => ?_) (fun q => ?_)
              · have q : ¬ (V (p0 + 1) x4) < x1 := q
                replace w := w.1 q
                show wpv K_X5_codeFor d P 76 [some (4, (p0 : Int)), some (0, x1), some (0, x2), some (0, x3), some (0, x4), some (0, (V (p0 + 1) x4))] [] G R V
                refine wp_p (i := (.iconst (-1))) rfl rfl (fun _ _ _ => rfl) (?_ : wpv K_X5_codeFor d P 77 [some (4, (p0 : Int)), some (0, x1), some (0, x2), some (0, x3), some (0, x4), some (0, (V (p0 + 1) x4))] [(0, (-1))] G R V)
                exact wp_rI rfl rfl rfl w
              · have q : (V (p0 + 1) x4) < x1 := Decidable.not_not.mp q
                replace w := w.2 q
                show wpv K_X5_codeFor d P 67 [some (4, (p0 : Int)), some (0, x1), some (0, x2), some (0, x3), some (0, x4), some (0, (V (p0 + 1) x4))] [] G R V
                refine wp_ld (i := (.iload_n 3)) (0, x3) rfl rfl (fun _ => rfl) rfl rfl (?_ : wpv K_X5_codeFor d P 68 [some (4, (p0 : Int)), some (0, x1), some (0, x2), some (0, x3), some (0, x4), some (0, (V (p0 + 1) x4))] [(0, x3)] G R V)
                refine wp_ld (i := (.iload 5)) (0, (V (p0 + 1) x4)) rfl rfl (fun _ => rfl) rfl rfl (?_ : wpv K_X5_codeFor d P 70 [some (4, (p0 : Int)), some (0, x1), some (0, x2), some (0, x3), some (0, x4), some (0, (V (p0 + 1) x4))] [(0, (V (p0 + 1) x4)), (0, x3)] G R V)
                refine wp_kshr rfl rfl (?_ : wpv K_X5_codeFor d P 71 [some (4, (p0 : Int)), some (0, x1), some (0, x2), some (0, x3), some (0, x4), some (0, (V (p0 + 1) x4))] [(0, (kshr x3 ((V (p0 + 1) x4))))] G R V)
                refine wp_p (i := (.iconst 1)) rfl rfl (fun _ _ _ => rfl) (?_ : wpv K_X5_codeFor d P 72 [some (4, (p0 : Int)), some (0, x1), some (0, x2), some (0, x3), some (0, x4), some (0, (V (p0 + 1) x4))] [(0, 1), (0, (kshr x3 ((V (p0 + 1) x4))))] G R V)
                refine wp_kand rfl rfl (?_ : wpv K_X5_codeFor d P 73 [some (4, (p0 : Int)), some (0, x1), some (0, x2), some (0, x3), some (0, x4), some (0, (V (p0 + 1) x4))] [(0, (kand ((kshr x3 ((V (p0 + 1) x4)))) 1))] G R V)
                refine wp_if (c := .eq) 78 rfl rfl rfl (t32 _) (fun q => ?_) (fun q => ?_)
                · have q : (kand ((kshr x3 ((V (p0 + 1) x4)))) 1) = 0 := q
                  replace w := w.1 q
                  show wpv K_X5_codeFor d P 78 [some (4, (p0 : Int)), some (0, x1), some (0, x2), some (0, x3), some (0, x4), some (0, (V (p0 + 1) x4))] [] G R V
                  refine wp_ld (i := (.iload_n 3)) (0, x3) rfl rfl (fun _ => rfl) rfl rfl (?_ : wpv K_X5_codeFor d P 79 [some (4, (p0 : Int)), some (0, x1), some (0, x2), some (0, x3), some (0, x4), some (0, (V (p0 + 1) x4))] [(0, x3)] G R V)
                  refine wp_p (i := (.iconst 1)) rfl rfl (fun _ _ _ => rfl) (?_ : wpv K_X5_codeFor d P 80 [some (4, (p0 : Int)), some (0, x1), some (0, x2), some (0, x3), some (0, x4), some (0, (V (p0 + 1) x4))] [(0, 1), (0, x3)] G R V)
                  refine wp_ld (i := (.iload 5)) (0, (V (p0 + 1) x4)) rfl rfl (fun _ => rfl) rfl rfl (?_ : wpv K_X5_codeFor d P 82 [some (4, (p0 : Int)), some (0, x1), some (0, x2), some (0, x3), some (0, x4), some (0, (V (p0 + 1) x4))] [(0, (V (p0 + 1) x4)), (0, 1), (0, x3)] G R V)
                  refine wp_kshl rfl rfl (?_ : wpv K_X5_codeFor d P 83 [some (4, (p0 : Int)), some (0, x1), some (0, x2), some (0, x3), some (0, x4), some (0, (V (p0 + 1) x4))] [(0, (kshl 1 ((V (p0 + 1) x4)))), (0, x3)] G R V)
                  refine wp_kor rfl rfl (?_ : wpv K_X5_codeFor d P 84 [some (4, (p0 : Int)), some (0, x1), some (0, x2), some (0, x3), some (0, x4), some (0, (V (p0 + 1) x4))] [(0, (kor x3 ((kshl 1 ((V (p0 + 1) x4))))))] G R V)
                  refine wp_sto (i := (.istore_n 3)) _ rfl rfl (fun _ => rfl) rfl rfl rfl ?_
                  refine wp_wk (L' := [some (4, (p0 : Int)), some (0, x1), some (0, x2), some (0, (kor x3 ((kshl 1 ((V (p0 + 1) x4)))))), some (0, x4), some (0, (V (p0 + 1) x4))]) (wk_s (wk_s (wk_s (wk_s (wk_s (wk_s wk_0)))))) ?_
                  show wpv K_X5_codeFor d P 85 [some (4, (p0 : Int)), some (0, x1), some (0, x2), some (0, (kor x3 ((kshl 1 ((V (p0 + 1) x4)))))), some (0, x4), some (0, (V (p0 + 1) x4))] [] G R V
                  refine wp_ld (i := (.iload_n 2)) (0, x2) rfl rfl (fun _ => rfl) rfl rfl (?_ : wpv K_X5_codeFor d P 86 [some (4, (p0 : Int)), some (0, x1), some (0, x2), some (0, (kor x3 ((kshl 1 ((V (p0 + 1) x4)))))), some (0, x4), some (0, (V (p0 + 1) x4))] [(0, x2)] G R V)
                  refine wp_p (i := (.iconst 3)) rfl rfl (fun _ _ _ => rfl) (?_ : wpv K_X5_codeFor d P 87 [some (4, (p0 : Int)), some (0, x1), some (0, x2), some (0, (kor x3 ((kshl 1 ((V (p0 + 1) x4)))))), some (0, x4), some (0, (V (p0 + 1) x4))] [(0, 3), (0, x2)] G R V)
                  refine wp_kshl rfl rfl (?_ : wpv K_X5_codeFor d P 88 [some (4, (p0 : Int)), some (0, x1), some (0, x2), some (0, (kor x3 ((kshl 1 ((V (p0 + 1) x4)))))), some (0, x4), some (0, (V (p0 + 1) x4))] [(0, (kshl x2 3))] G R V)
                  refine wp_ld (i := (.iload 5)) (0, (V (p0 + 1) x4)) rfl rfl (fun _ => rfl) rfl rfl (?_ : wpv K_X5_codeFor d P 90 [some (4, (p0 : Int)), some (0, x1), some (0, x2), some (0, (kor x3 ((kshl 1 ((V (p0 + 1) x4)))))), some (0, x4), some (0, (V (p0 + 1) x4))] [(0, (V (p0 + 1) x4)), (0, (kshl x2 3))] G R V)
                  refine wp_kor rfl rfl (?_ : wpv K_X5_codeFor d P 91 [some (4, (p0 : Int)), some (0, x1), some (0, x2), some (0, (kor x3 ((kshl 1 ((V (p0 + 1) x4)))))), some (0, x4), some (0, (V (p0 + 1) x4))] [(0, (kor ((kshl x2 3)) ((V (p0 + 1) x4))))] G R V)
                  refine wp_sto (i := (.istore_n 2)) _ rfl rfl (fun _ => rfl) rfl rfl rfl ?_
                  refine wp_wk (L' := [some (4, (p0 : Int)), some (0, x1), some (0, (kor ((kshl x2 3)) ((V (p0 + 1) x4)))), some (0, (kor x3 ((kshl 1 ((V (p0 + 1) x4)))))), some (0, x4), some (0, (V (p0 + 1) x4))]) (wk_s (wk_s (wk_s (wk_s (wk_s (wk_s wk_0)))))) ?_
                  show wpv K_X5_codeFor d P 92 [some (4, (p0 : Int)), some (0, x1), some (0, (kor ((kshl x2 3)) ((V (p0 + 1) x4)))), some (0, (kor x3 ((kshl 1 ((V (p0 + 1) x4)))))), some (0, x4), some (0, (V (p0 + 1) x4))] [] G R V
                  obtain ⟨s12, w⟩ := w
                  refine wp_inc (x := 4) (k := 1) (a := x4) (c := (x4 + 1)) _ rfl rfl rfl rfl s12 (by omega) rfl ?_
                  show wpv K_X5_codeFor d P 95 [some (4, (p0 : Int)), some (0, x1), some (0, (kor ((kshl x2 3)) ((V (p0 + 1) x4)))), some (0, (kor x3 ((kshl 1 ((V (p0 + 1) x4)))))), some (0, (x4 + 1)), some (0, (V (p0 + 1) x4))] [] G R V
                  refine wp_go 7 rfl rfl rfl (?_ : wpv K_X5_codeFor d P 7 [some (4, (p0 : Int)), some (0, x1), some (0, (kor ((kshl x2 3)) ((V (p0 + 1) x4)))), some (0, (kor x3 ((kshl 1 ((V (p0 + 1) x4)))))), some (0, (x4 + 1)), some (0, (V (p0 + 1) x4))] [] G R V)
                  exact wp_wk (wk_s (wk_s (wk_s (wk_s (wk_s wk_0))))) w
                · have q : ¬ (kand ((kshr x3 ((V (p0 + 1) x4)))) 1) = 0 := q
                  replace w := w.2 q
                  show wpv K_X5_codeFor d P 76 [some (4, (p0 : Int)), some (0, x1), some (0, x2), some (0, x3), some (0, x4), some (0, (V (p0 + 1) x4))] [] G R V
                  refine wp_p (i := (.iconst (-1))) rfl rfl (fun _ _ _ => rfl) (?_ : wpv K_X5_codeFor d P 77 [some (4, (p0 : Int)), some (0, x1), some (0, x2), some (0, x3), some (0, x4), some (0, (V (p0 + 1) x4))] [(0, (-1))] G R V)
                  exact wp_rI rfl rfl rfl w
theorem t_X6_isTurn_0 {d : Nat} {P : gP} {p0 : Nat} {x1 : Int} {G : List gS} {R V : gV} (l0 : lay6 G R p0) (w : ((i32 x1) ∧ (((x1 < 0) → P (some (0, 0)) V) ∧ ((¬ x1 < 0) → ((i32 (V p0 1)) → (((¬ x1 < (V p0 1)) → P (some (0, 0)) V) ∧ ((x1 < (V p0 1)) → P (some (0, 1)) V))))))) : wpv K_X6_isTurn d P 0 [some (4, (p0 : Int)), some (0, x1)] [] G R V := by
  refine wp_ld (i := (.iload_n 1)) (0, x1) rfl rfl (fun _ => rfl) rfl rfl (?_ : wpv K_X6_isTurn d P 1 [some (4, (p0 : Int)), some (0, x1)] [(0, x1)] G R V)
  obtain ⟨s1, w⟩ := w
  refine wp_if (c := .lt) 16 rfl rfl rfl s1 (fun q => ?_) (fun q => ?_)
  · have q : x1 < 0 := q
    replace w := w.1 q
    show wpv K_X6_isTurn d P 16 [some (4, (p0 : Int)), some (0, x1)] [] G R V
    refine wp_p (i := (.iconst 0)) rfl rfl (fun _ _ _ => rfl) (?_ : wpv K_X6_isTurn d P 17 [some (4, (p0 : Int)), some (0, x1)] [(0, 0)] G R V)
    exact wp_rB rfl rfl rfl (by omega) w
  · have q : ¬ x1 < 0 := q
    replace w := w.2 q
    show wpv K_X6_isTurn d P 4 [some (4, (p0 : Int)), some (0, x1)] [] G R V
    refine wp_ld (i := (.iload_n 1)) (0, x1) rfl rfl (fun _ => rfl) rfl rfl (?_ : wpv K_X6_isTurn d P 5 [some (4, (p0 : Int)), some (0, x1)] [(0, x1)] G R V)
    refine wp_ld (i := (.aload_n 0)) (4, (p0 : Int)) rfl rfl (fun _ => rfl) rfl rfl (?_ : wpv K_X6_isTurn d P 6 [some (4, (p0 : Int)), some (0, x1)] [(4, (p0 : Int)), (0, x1)] G R V)
    refine wp_rng (fun vr2 => ?_)
    have f3 : i32 (V p0 1) := vr_f0 vr2 (ly6_o l0) rfl rfl
    replace w := w f3
    refine wp_getI (k := 1) rfl rfl rfl (ly6_o l0) rfl rfl (?_ : wpv K_X6_isTurn d P 9 [some (4, (p0 : Int)), some (0, x1)] [(0, (V p0 1)), (0, x1)] G R V)
    refine wp_icmp (c := .ge) 16 rfl rfl rfl s1 f3 (fun q => ?_) (fun q => ?_)
    · have q : ¬ x1 < (V p0 1) := q
      replace w := w.1 q
      show wpv K_X6_isTurn d P 16 [some (4, (p0 : Int)), some (0, x1)] [] G R V
      refine wp_p (i := (.iconst 0)) rfl rfl (fun _ _ _ => rfl) (?_ : wpv K_X6_isTurn d P 17 [some (4, (p0 : Int)), some (0, x1)] [(0, 0)] G R V)
      exact wp_rB rfl rfl rfl (by omega) w
    · have q : x1 < (V p0 1) := Decidable.not_not.mp q
      replace w := w.2 q
      show wpv K_X6_isTurn d P 12 [some (4, (p0 : Int)), some (0, x1)] [] G R V
      refine wp_p (i := (.iconst 1)) rfl rfl (fun _ _ _ => rfl) (?_ : wpv K_X6_isTurn d P 13 [some (4, (p0 : Int)), some (0, x1)] [(0, 1)] G R V)
      refine wp_go 17 rfl rfl rfl (?_ : wpv K_X6_isTurn d P 17 [some (4, (p0 : Int)), some (0, x1)] [(0, 1)] G R V)
      exact wp_rB rfl rfl rfl (by omega) w
theorem t_X6_times_0 {d : Nat} {P : gP} {p0 : Nat} {x1 : Int} {x2 : Int} {G : List gS} {R V : gV} (l0 : lay6 G R p0) (w : (∃ b1 n1_ : Nat, (R p0 10 = (b1 : Int) ∧ G[b1]? = some (.inr (0, n1_))) ∧ ((i32 (V p0 1)) → ((i32 (x1 * (V p0 1))) ∧ ((i32 ((x1 * (V p0 1)) + x2)) ∧ ((0 ≤ ((x1 * (V p0 1)) + x2) ∧ ((x1 * (V p0 1)) + x2) < (n1_ : Int)) ∧ ((i32 (V b1 (((x1 * (V p0 1)) + x2)))) → P (some (0, (V b1 (((x1 * (V p0 1)) + x2))))) V))))))) : wpv K_X6_times d P 0 [some (4, (p0 : Int)), some (0, x1), some (0, x2)] [] G R V := by
  refine wp_ld (i := (.aload_n 0)) (4, (p0 : Int)) rfl rfl (fun _ => rfl) rfl rfl (?_ : wpv K_X6_times d P 1 [some (4, (p0 : Int)), some (0, x1), some (0, x2)] [(4, (p0 : Int))] G R V)
  obtain ⟨b1, n1_, ⟨r1, g1_⟩, w⟩ := w
  refine wp_getA (k := 10) rfl rfl rfl (ly6_o l0) rfl rfl r1 (?_ : wpv K_X6_times d P 4 [some (4, (p0 : Int)), some (0, x1), some (0, x2)] [(4, (b1 : Int))] G R V)
  refine wp_ld (i := (.iload_n 1)) (0, x1) rfl rfl (fun _ => rfl) rfl rfl (?_ : wpv K_X6_times d P 5 [some (4, (p0 : Int)), some (0, x1), some (0, x2)] [(0, x1), (4, (b1 : Int))] G R V)
  refine wp_ld (i := (.aload_n 0)) (4, (p0 : Int)) rfl rfl (fun _ => rfl) rfl rfl (?_ : wpv K_X6_times d P 6 [some (4, (p0 : Int)), some (0, x1), some (0, x2)] [(4, (p0 : Int)), (0, x1), (4, (b1 : Int))] G R V)
  refine wp_rng (fun vr2 => ?_)
  have f3 : i32 (V p0 1) := vr_f0 vr2 (ly6_o l0) rfl rfl
  replace w := w f3
  refine wp_getI (k := 1) rfl rfl rfl (ly6_o l0) rfl rfl (?_ : wpv K_X6_times d P 9 [some (4, (p0 : Int)), some (0, x1), some (0, x2)] [(0, (V p0 1)), (0, x1), (4, (b1 : Int))] G R V)
  obtain ⟨s4, w⟩ := w
  refine wp_xmul rfl rfl s4 (?_ : wpv K_X6_times d P 10 [some (4, (p0 : Int)), some (0, x1), some (0, x2)] [(0, (x1 * (V p0 1))), (4, (b1 : Int))] G R V)
  refine wp_ld (i := (.iload_n 2)) (0, x2) rfl rfl (fun _ => rfl) rfl rfl (?_ : wpv K_X6_times d P 11 [some (4, (p0 : Int)), some (0, x1), some (0, x2)] [(0, x2), (0, (x1 * (V p0 1))), (4, (b1 : Int))] G R V)
  obtain ⟨s5, w⟩ := w
  refine wp_xadd rfl rfl s5 (?_ : wpv K_X6_times d P 12 [some (4, (p0 : Int)), some (0, x1), some (0, x2)] [(0, ((x1 * (V p0 1)) + x2)), (4, (b1 : Int))] G R V)
  obtain ⟨s6, w⟩ := w
  have f7 : i32 (V b1 (((x1 * (V p0 1)) + x2))) := vr_a0 vr2 g1_ s6
  replace w := w f7
  refine wp_aI rfl rfl g1_ s6 (?_ : wpv K_X6_times d P 13 [some (4, (p0 : Int)), some (0, x1), some (0, x2)] [(0, (V b1 (((x1 * (V p0 1)) + x2))))] G R V)
  exact wp_rI rfl rfl rfl w
theorem t_X6_ledBy_0 {d : Nat} {P : gP} {p0 : Nat} {x1 : Int} {x2 : Int} {G : List gS} {R V : gV} (l0 : lay6 G R p0) (w : ((0 ≤ x1 ∧ x1 < 120) ∧ ((i32 (V (p0 + 2) x1)) → cwv d (fun r V4 => ∃ v5 : Int, r = some (0, v5) ∧ cwv d (fun r V6 => ∃ v7 : Int, r = some (0, v7) ∧ P (some (0, v7)) V6) 89 [(4, (p0 : Int)), (0, v5), (0, x1)] G R V4) 89 [(4, (p0 : Int)), (0, (V (p0 + 2) x1)), (0, x2)] G R V))) : wpv K_X6_ledBy d P 0 [some (4, (p0 : Int)), some (0, x1), some (0, x2)] [] G R V := by
  refine wp_ld (i := (.aload_n 0)) (4, (p0 : Int)) rfl rfl (fun _ => rfl) rfl rfl (?_ : wpv K_X6_ledBy d P 1 [some (4, (p0 : Int)), some (0, x1), some (0, x2)] [(4, (p0 : Int))] G R V)
  refine wp_ld (i := (.aload_n 0)) (4, (p0 : Int)) rfl rfl (fun _ => rfl) rfl rfl (?_ : wpv K_X6_ledBy d P 2 [some (4, (p0 : Int)), some (0, x1), some (0, x2)] [(4, (p0 : Int)), (4, (p0 : Int))] G R V)
  refine wp_ld (i := (.aload_n 0)) (4, (p0 : Int)) rfl rfl (fun _ => rfl) rfl rfl (?_ : wpv K_X6_ledBy d P 3 [some (4, (p0 : Int)), some (0, x1), some (0, x2)] [(4, (p0 : Int)), (4, (p0 : Int)), (4, (p0 : Int))] G R V)
  refine wp_getA (k := 4) rfl rfl rfl (ly6_o l0) rfl rfl (ly6_4 l0).1 (?_ : wpv K_X6_ledBy d P 6 [some (4, (p0 : Int)), some (0, x1), some (0, x2)] [(4, ((p0 + 2 : Nat) : Int)), (4, (p0 : Int)), (4, (p0 : Int))] G R V)
  refine wp_ld (i := (.iload_n 1)) (0, x1) rfl rfl (fun _ => rfl) rfl rfl (?_ : wpv K_X6_ledBy d P 7 [some (4, (p0 : Int)), some (0, x1), some (0, x2)] [(0, x1), (4, ((p0 + 2 : Nat) : Int)), (4, (p0 : Int)), (4, (p0 : Int))] G R V)
  obtain ⟨s1, w⟩ := w
  refine wp_rng (fun vr2 => ?_)
  have f3 : i32 (V (p0 + 2) x1) := vr_a0 vr2 (ly6_4 l0).2 s1
  replace w := w f3
  refine wp_aI rfl rfl (ly6_4 l0).2 s1 (?_ : wpv K_X6_ledBy d P 8 [some (4, (p0 : Int)), some (0, x1), some (0, x2)] [(0, (V (p0 + 2) x1)), (4, (p0 : Int)), (4, (p0 : Int))] G R V)
  refine wp_ld (i := (.iload_n 2)) (0, x2) rfl rfl (fun _ => rfl) rfl rfl (?_ : wpv K_X6_ledBy d P 9 [some (4, (p0 : Int)), some (0, x1), some (0, x2)] [(0, x2), (0, (V (p0 + 2) x1)), (4, (p0 : Int)), (4, (p0 : Int))] G R V)
  refine wp_virt (as := [(0, (V (p0 + 2) x1)), (0, x2)]) (a := p0) (st := [(4, (p0 : Int))]) _ rfl rfl rfl rfl rfl rfl (ly6_o l0) (Nat.le_of_ble_eq_true rfl) (cwv_kI w (fun v5 V4 w => ?_))
  show wpv K_X6_ledBy d P 12 [some (4, (p0 : Int)), some (0, x1), some (0, x2)] [(0, v5), (4, (p0 : Int))] G R V4
  refine wp_ld (i := (.iload_n 1)) (0, x1) rfl rfl (fun _ => rfl) rfl rfl (?_ : wpv K_X6_ledBy d P 13 [some (4, (p0 : Int)), some (0, x1), some (0, x2)] [(0, x1), (0, v5), (4, (p0 : Int))] G R V4)
  refine wp_virt (as := [(0, v5), (0, x1)]) (a := p0) (st := []) _ rfl rfl rfl rfl rfl rfl (ly6_o l0) (Nat.le_of_ble_eq_true rfl) (cwv_kI w (fun v7 V6 w => ?_))
  show wpv K_X6_ledBy d P 16 [some (4, (p0 : Int)), some (0, x1), some (0, x2)] [(0, v7)] G R V6
  exact wp_rI rfl rfl rfl w
theorem t_X6_kinOf_0 {d : Nat} {P : gP} {p0 : Nat} {x1 : Int} {G : List gS} {R V : gV} (l0 : lay6 G R p0) (w : wpv K_X6_kinOf d P 4 [some (4, (p0 : Int)), some (0, x1), some (0, 0), some (0, 0)] [] G R V) : wpv K_X6_kinOf d P 0 [some (4, (p0 : Int)), some (0, x1)] [] G R V := by
  refine wp_p (i := (.iconst 0)) rfl rfl (fun _ _ _ => rfl) (?_ : wpv K_X6_kinOf d P 1 [some (4, (p0 : Int)), some (0, x1)] [(0, 0)] G R V)
  refine wp_sto (i := (.istore_n 2)) _ rfl rfl (fun _ => rfl) rfl rfl rfl ?_
  refine wp_wk (L' := [some (4, (p0 : Int)), some (0, x1), some (0, 0)]) (wk_s (wk_s (wk_s wk_0))) ?_
  show wpv K_X6_kinOf d P 2 [some (4, (p0 : Int)), some (0, x1), some (0, 0)] [] G R V
  refine wp_p (i := (.iconst 0)) rfl rfl (fun _ _ _ => rfl) (?_ : wpv K_X6_kinOf d P 3 [some (4, (p0 : Int)), some (0, x1), some (0, 0)] [(0, 0)] G R V)
  refine wp_sto (i := (.istore_n 3)) _ rfl rfl (fun _ => rfl) rfl rfl rfl ?_
  refine wp_wk (L' := [some (4, (p0 : Int)), some (0, x1), some (0, 0), some (0, 0)]) (wk_s (wk_s (wk_s (wk_s wk_0)))) ?_
  show wpv K_X6_kinOf d P 4 [some (4, (p0 : Int)), some (0, x1), some (0, 0), some (0, 0)] [] G R V
  exact wp_wk (wk_s (wk_s (wk_s (wk_s wk_0)))) w

theorem t_X6_kinOf_4 {d : Nat} {P : gP} {p0 : Nat} {x1 : Int} {x2 : Int} {x3 : Int} {G : List gS} {R V : gV} (l0 : lay6 G R p0) (w : ((i32 (V p0 1)) → ((i32 x3) ∧ (((¬ x3 < (V p0 1)) → ((i32 x2) ∧ (((¬ 0 < x2) → P (some (0, (-1))) V) ∧ ((0 < x2) → ((0 ≤ (V p0 1) ∧ 0 < x2) ∧ P (some (0, ((V p0 1) / x2))) V))))) ∧ ((x3 < (V p0 1)) → cwv d (fun r V6 => ∃ v7 : Int, r = some (0, v7) ∧ cwv d (fun r V8 => ∃ v9 : Int, r = some (0, v9) ∧ ((i32 v7) ∧ ((i32 v9) ∧ (((¬ v7 = v9) → ((i32 (x3 + 1)) ∧ wpv K_X6_kinOf d P 4 [some (4, (p0 : Int)), some (0, x1), some (0, x2), some (0, (x3 + 1))] [] G R V8)) ∧ ((v7 = v9) → ((i32 (x2 + 1)) ∧ ((i32 (x3 + 1)) ∧ wpv K_X6_kinOf d P 4 [some (4, (p0 : Int)), some (0, x1), some (0, (x2 + 1)), some (0, (x3 + 1))] [] G R V8))))))) 89 [(4, (p0 : Int)), (0, x1), (0, x3)] G R V6) 89 [(4, (p0 : Int)), (0, x3), (0, x1)] G R V))))) : wpv K_X6_kinOf d P 4 [some (4, (p0 : Int)), some (0, x1), some (0, x2), some (0, x3)] [] G R V := by
  refine wp_ld (i := (.iload_n 3)) (0, x3) rfl rfl (fun _ => rfl) rfl rfl (?_ : wpv K_X6_kinOf d P 5 [some (4, (p0 : Int)), some (0, x1), some (0, x2), some (0, x3)] [(0, x3)] G R V)
  refine wp_ld (i := (.aload_n 0)) (4, (p0 : Int)) rfl rfl (fun _ => rfl) rfl rfl (?_ : wpv K_X6_kinOf d P 6 [some (4, (p0 : Int)), some (0, x1), some (0, x2), some (0, x3)] [(4, (p0 : Int)), (0, x3)] G R V)
  refine wp_rng (fun vr1 => ?_)
  have f2 : i32 (V p0 1) := vr_f0 vr1 (ly6_o l0) rfl rfl
  replace w := w f2
  refine wp_getI (k := 1) rfl rfl rfl (ly6_o l0) rfl rfl (?_ : wpv K_X6_kinOf d P 9 [some (4, (p0 : Int)), some (0, x1), some (0, x2), some (0, x3)] [(0, (V p0 1)), (0, x3)] G R V)
  obtain ⟨s3, w⟩ := w
  refine wp_icmp (c := .ge) 36 rfl rfl rfl s3 f2 (fun q => ?_) (fun q => ?_)
  · have q : ¬ x3 < (V p0 1) := q
    replace w := w.1 q
    show wpv K_X6_kinOf d P 36 [some (4, (p0 : Int)), some (0, x1), some (0, x2), some (0, x3)] [] G R V
    refine wp_ld (i := (.iload_n 2)) (0, x2) rfl rfl (fun _ => rfl) rfl rfl (?_ : wpv K_X6_kinOf d P 37 [some (4, (p0 : Int)), some (0, x1), some (0, x2), some (0, x3)] [(0, x2)] G R V)
    obtain ⟨s4, w⟩ := w
    refine wp_if (c := .le) 49 rfl rfl rfl s4 (fun q => ?_) (fun q => ?_)
    · have q : ¬ 0 < x2 := q
      replace w := w.1 q
      show wpv K_X6_kinOf d P 49 [some (4, (p0 : Int)), some (0, x1), some (0, x2), some (0, x3)] [] G R V
      refine wp_p (i := (.iconst (-1))) rfl rfl (fun _ _ _ => rfl) (?_ : wpv K_X6_kinOf d P 50 [some (4, (p0 : Int)), some (0, x1), some (0, x2), some (0, x3)] [(0, (-1))] G R V)
      exact wp_rI rfl rfl rfl w
    · have q : 0 < x2 := Decidable.not_not.mp q
      replace w := w.2 q
      show wpv K_X6_kinOf d P 40 [some (4, (p0 : Int)), some (0, x1), some (0, x2), some (0, x3)] [] G R V
      refine wp_ld (i := (.aload_n 0)) (4, (p0 : Int)) rfl rfl (fun _ => rfl) rfl rfl (?_ : wpv K_X6_kinOf d P 41 [some (4, (p0 : Int)), some (0, x1), some (0, x2), some (0, x3)] [(4, (p0 : Int))] G R V)
      refine wp_getI (k := 1) rfl rfl rfl (ly6_o l0) rfl rfl (?_ : wpv K_X6_kinOf d P 44 [some (4, (p0 : Int)), some (0, x1), some (0, x2), some (0, x3)] [(0, (V p0 1))] G R V)
      refine wp_ld (i := (.iload_n 2)) (0, x2) rfl rfl (fun _ => rfl) rfl rfl (?_ : wpv K_X6_kinOf d P 45 [some (4, (p0 : Int)), some (0, x1), some (0, x2), some (0, x3)] [(0, x2), (0, (V p0 1))] G R V)
      obtain ⟨s5, w⟩ := w
      refine wp_xdiv rfl rfl s5.1 s5.2 f2 s4 (?_ : wpv K_X6_kinOf d P 46 [some (4, (p0 : Int)), some (0, x1), some (0, x2), some (0, x3)] [(0, ((V p0 1) / x2))] G R V)
      refine wp_go 50 rfl rfl rfl (?_ : wpv K_X6_kinOf d P 50 [some (4, (p0 : Int)), some (0, x1), some (0, x2), some (0, x3)] [(0, ((V p0 1) / x2))] G R V)
      exact wp_rI rfl rfl rfl w
  · have q : x3 < (V p0 1) := Decidable.not_not.mp q
    replace w := w.2 q
    show wpv K_X6_kinOf d P 12 [some (4, (p0 : Int)), some (0, x1), some (0, x2), some (0, x3)] [] G R V
    refine wp_ld (i := (.aload_n 0)) (4, (p0 : Int)) rfl rfl (fun _ => rfl) rfl rfl (?_ : wpv K_X6_kinOf d P 13 [some (4, (p0 : Int)), some (0, x1), some (0, x2), some (0, x3)] [(4, (p0 : Int))] G R V)
    refine wp_ld (i := (.iload_n 3)) (0, x3) rfl rfl (fun _ => rfl) rfl rfl (?_ : wpv K_X6_kinOf d P 14 [some (4, (p0 : Int)), some (0, x1), some (0, x2), some (0, x3)] [(0, x3), (4, (p0 : Int))] G R V)
    refine wp_ld (i := (.iload_n 1)) (0, x1) rfl rfl (fun _ => rfl) rfl rfl (?_ : wpv K_X6_kinOf d P 15 [some (4, (p0 : Int)), some (0, x1), some (0, x2), some (0, x3)] [(0, x1), (0, x3), (4, (p0 : Int))] G R V)
    refine wp_virt (as := [(0, x3), (0, x1)]) (a := p0) (st := []) _ rfl rfl rfl rfl rfl rfl (ly6_o l0) (Nat.le_of_ble_eq_true rfl) (cwv_kI w (fun v7 V6 w => ?_))
    show wpv K_X6_kinOf d P 18 [some (4, (p0 : Int)), some (0, x1), some (0, x2), some (0, x3)] [(0, v7)] G R V6
    refine wp_ld (i := (.aload_n 0)) (4, (p0 : Int)) rfl rfl (fun _ => rfl) rfl rfl (?_ : wpv K_X6_kinOf d P 19 [some (4, (p0 : Int)), some (0, x1), some (0, x2), some (0, x3)] [(4, (p0 : Int)), (0, v7)] G R V6)
    refine wp_ld (i := (.iload_n 1)) (0, x1) rfl rfl (fun _ => rfl) rfl rfl (?_ : wpv K_X6_kinOf d P 20 [some (4, (p0 : Int)), some (0, x1), some (0, x2), some (0, x3)] [(0, x1), (4, (p0 : Int)), (0, v7)] G R V6)
    refine wp_ld (i := (.iload_n 3)) (0, x3) rfl rfl (fun _ => rfl) rfl rfl (?_ : wpv K_X6_kinOf d P 21 [some (4, (p0 : Int)), some (0, x1), some (0, x2), some (0, x3)] [(0, x3), (0, x1), (4, (p0 : Int)), (0, v7)] G R V6)
    refine wp_virt (as := [(0, x1), (0, x3)]) (a := p0) (st := [(0, v7)]) _ rfl rfl rfl rfl rfl rfl (ly6_o l0) (Nat.le_of_ble_eq_true rfl) (cwv_kI w (fun v9 V8 w => ?_))
    show wpv K_X6_kinOf d P 24 [some (4, (p0 : Int)), some (0, x1), some (0, x2), some (0, x3)] [(0, v9), (0, v7)] G R V8
    obtain ⟨s10, w⟩ := w
    obtain ⟨s11, w⟩ := w
    refine wp_icmp (c := .ne) 30 rfl rfl rfl s10 s11 (fun q => ?_) (fun q => ?_)
    · have q : ¬ v7 = v9 := q
      replace w := w.1 q
      show wpv K_X6_kinOf d P 30 [some (4, (p0 : Int)), some (0, x1), some (0, x2), some (0, x3)] [] G R V8
      obtain ⟨s12, w⟩ := w
      refine wp_inc (x := 3) (k := 1) (a := x3) (c := (x3 + 1)) _ rfl rfl rfl rfl s12 (by omega) rfl ?_
      show wpv K_X6_kinOf d P 33 [some (4, (p0 : Int)), some (0, x1), some (0, x2), some (0, (x3 + 1))] [] G R V8
      refine wp_go 4 rfl rfl rfl (?_ : wpv K_X6_kinOf d P 4 [some (4, (p0 : Int)), some (0, x1), some (0, x2), some (0, (x3 + 1))] [] G R V8)
      exact wp_wk (wk_s (wk_s (wk_s (wk_s wk_0)))) w
    · have q : v7 = v9 := Decidable.not_not.mp q
      replace w := w.2 q
      show wpv K_X6_kinOf d P 27 [some (4, (p0 : Int)), some (0, x1), some (0, x2), some (0, x3)] [] G R V8
      obtain ⟨s13, w⟩ := w
      refine wp_inc (x := 2) (k := 1) (a := x2) (c := (x2 + 1)) _ rfl rfl rfl rfl s13 (by omega) rfl ?_
      show wpv K_X6_kinOf d P 30 [some (4, (p0 : Int)), some (0, x1), some (0, (x2 + 1)), some (0, x3)] [] G R V8
      obtain ⟨s14, w⟩ := w
      refine wp_inc (x := 3) (k := 1) (a := x3) (c := (x3 + 1)) _ rfl rfl rfl rfl s14 (by omega) rfl ?_
      show wpv K_X6_kinOf d P 33 [some (4, (p0 : Int)), some (0, x1), some (0, (x2 + 1)), some (0, (x3 + 1))] [] G R V8
      refine wp_go 4 rfl rfl rfl (?_ : wpv K_X6_kinOf d P 4 [some (4, (p0 : Int)), some (0, x1), some (0, (x2 + 1)), some (0, (x3 + 1))] [] G R V8)
      exact wp_wk (wk_s (wk_s (wk_s (wk_s wk_0)))) w
theorem t_X6_keepMakers_0 {d : Nat} {P : gP} {p0 : Nat} {p1 : Nat} {n1 : Nat} {G : List gS} {R V : gV} (l0 : lay6 G R p0) (g1 : G[p1]? = some (.inr (0, n1))) (w : wpv K_X6_keepMakers d P 7 [some (4, (p0 : Int)), some (4, (p1 : Int)), some (0, 0)] [] G R (wr V p0 2 0)) : wpv K_X6_keepMakers d P 0 [some (4, (p0 : Int)), some (4, (p1 : Int))] [] G R V := by
  refine wp_ld (i := (.aload_n 0)) (4, (p0 : Int)) rfl rfl (fun _ => rfl) rfl rfl (?_ : wpv K_X6_keepMakers d P 1 [some (4, (p0 : Int)), some (4, (p1 : Int))] [(4, (p0 : Int))] G R V)
  refine wp_p (i := (.iconst 0)) rfl rfl (fun _ _ _ => rfl) (?_ : wpv K_X6_keepMakers d P 2 [some (4, (p0 : Int)), some (4, (p1 : Int))] [(0, 0), (4, (p0 : Int))] G R V)
  refine wp_putI (k := 2) rfl rfl rfl (ly6_o l0) rfl rfl rfl ⟨by omega, by omega⟩ (?_ : wpv K_X6_keepMakers d P 5 [some (4, (p0 : Int)), some (4, (p1 : Int))] [] G R (wr V p0 2 0))
  refine wp_p (i := (.iconst 0)) rfl rfl (fun _ _ _ => rfl) (?_ : wpv K_X6_keepMakers d P 6 [some (4, (p0 : Int)), some (4, (p1 : Int))] [(0, 0)] G R (wr V p0 2 0))
  refine wp_sto (i := (.istore_n 2)) _ rfl rfl (fun _ => rfl) rfl rfl rfl ?_
  refine wp_wk (L' := [some (4, (p0 : Int)), some (4, (p1 : Int)), some (0, 0)]) (wk_s (wk_s (wk_s wk_0))) ?_
  show wpv K_X6_keepMakers d P 7 [some (4, (p0 : Int)), some (4, (p1 : Int)), some (0, 0)] [] G R (wr V p0 2 0)
  exact wp_wk (wk_s (wk_s (wk_s wk_0))) w

theorem t_X6_keepMakers_7 {d : Nat} {P : gP} {p0 : Nat} {p1 : Nat} {n1 : Nat} {x2 : Int} {G : List gS} {R V : gV} (l0 : lay6 G R p0) (g1 : G[p1]? = some (.inr (0, n1))) (w : ((i32 x2) ∧ (((¬ x2 < 4) → P none V) ∧ ((x2 < 4) → (((¬ x2 < (n1 : Int)) → P none V) ∧ ((x2 < (n1 : Int)) → ((0 ≤ x2 ∧ x2 < (n1 : Int)) ∧ ((i32 (V p1 x2)) → ((((V p1 x2) = 342391) → ((i32 (x2 + 1)) ∧ wpv K_X6_keepMakers d P 7 [some (4, (p0 : Int)), some (4, (p1 : Int)), some (0, (x2 + 1))] [] G R V)) ∧ ((¬ (V p1 x2) = 342391) → ((i32 (V p0 2)) → cwv d (fun r V8 => ∃ v9 : Int, r = some (0, v9) ∧ ((i32 v9) ∧ (((¬ v9 = (-1)) → ((i32 (x2 + 1)) ∧ wpv K_X6_keepMakers d P 7 [some (4, (p0 : Int)), some (4, (p1 : Int)), some (0, (x2 + 1))] [] G R V8)) ∧ ((v9 = (-1)) → ((i32 (V8 p0 2)) → ((i32 (V8 p1 x2)) → ((0 ≤ (V8 p0 2) ∧ (V8 p0 2) < 4) ∧ ((i32 ((V8 p0 2) + 1)) ∧ ((i32 (x2 + 1)) ∧ wpv K_X6_keepMakers d P 7 [some (4, (p0 : Int)), some (4, (p1 : Int)), some (0, (x2 + 1))] [] G R (wr (wr V8 (p0 + 5) ((V8 p0 2)) ((V8 p1 x2))) p0 2 (((V8 p0 2) + 1)))))))))))) 94 [(4, ((p0 + 5 : Nat) : Int)), (0, (V p0 2)), (0, (V p1 x2))] G R V))))))))))) : wpv K_X6_keepMakers d P 7 [some (4, (p0 : Int)), some (4, (p1 : Int)), some (0, x2)] [] G R V := by
  refine wp_ld (i := (.iload_n 2)) (0, x2) rfl rfl (fun _ => rfl) rfl rfl (?_ : wpv K_X6_keepMakers d P 8 [some (4, (p0 : Int)), some (4, (p1 : Int)), some (0, x2)] [(0, x2)] G R V)
  refine wp_p (i := (.iconst 4)) rfl rfl (fun _ _ _ => rfl) (?_ : wpv K_X6_keepMakers d P 9 [some (4, (p0 : Int)), some (4, (p1 : Int)), some (0, x2)] [(0, 4), (0, x2)] G R V)
  obtain ⟨s1, w⟩ := w
  refine wp_icmp (c := .ge) 72 rfl rfl rfl s1 ⟨by omega, by omega⟩ (fun q => ?_) (fun q => ?_)
  · have q : ¬ x2 < 4 := q
    replace w := w.1 q
    show wpv K_X6_keepMakers d P 72 [some (4, (p0 : Int)), some (4, (p1 : Int)), some (0, x2)] [] G R V
    exact wp_r0 rfl rfl rfl w
  · have q : x2 < 4 := Decidable.not_not.mp q
    replace w := w.2 q
    show wpv K_X6_keepMakers d P 12 [some (4, (p0 : Int)), some (4, (p1 : Int)), some (0, x2)] [] G R V
    refine wp_ld (i := (.iload_n 2)) (0, x2) rfl rfl (fun _ => rfl) rfl rfl (?_ : wpv K_X6_keepMakers d P 13 [some (4, (p0 : Int)), some (4, (p1 : Int)), some (0, x2)] [(0, x2)] G R V)
    refine wp_ld (i := (.aload_n 1)) (4, (p1 : Int)) rfl rfl (fun _ => rfl) rfl rfl (?_ : wpv K_X6_keepMakers d P 14 [some (4, (p0 : Int)), some (4, (p1 : Int)), some (0, x2)] [(4, (p1 : Int)), (0, x2)] G R V)
    refine wp_rng (fun vr2 => ?_)
    have f3 : i32 (n1 : Int) := by have := (vr2.2.2 _ _ _ g1).1; unfold i32; omega
    refine wp_alen rfl rfl g1 (?_ : wpv K_X6_keepMakers d P 15 [some (4, (p0 : Int)), some (4, (p1 : Int)), some (0, x2)] [(0, (n1 : Int)), (0, x2)] G R V)
    refine wp_icmp (c := .ge) 72 rfl rfl rfl s1 f3 (fun q => ?_) (fun q => ?_)
    · have q : ¬ x2 < (n1 : Int) := q
      replace w := w.1 q
      show wpv K_X6_keepMakers d P 72 [some (4, (p0 : Int)), some (4, (p1 : Int)), some (0, x2)] [] G R V
      exact wp_r0 rfl rfl rfl w
    · have q : x2 < (n1 : Int) := Decidable.not_not.mp q
      replace w := w.2 q
      show wpv K_X6_keepMakers d P 18 [some (4, (p0 : Int)), some (4, (p1 : Int)), some (0, x2)] [] G R V
      refine wp_ld (i := (.aload_n 1)) (4, (p1 : Int)) rfl rfl (fun _ => rfl) rfl rfl (?_ : wpv K_X6_keepMakers d P 19 [some (4, (p0 : Int)), some (4, (p1 : Int)), some (0, x2)] [(4, (p1 : Int))] G R V)
      refine wp_ld (i := (.iload_n 2)) (0, x2) rfl rfl (fun _ => rfl) rfl rfl (?_ : wpv K_X6_keepMakers d P 20 [some (4, (p0 : Int)), some (4, (p1 : Int)), some (0, x2)] [(0, x2), (4, (p1 : Int))] G R V)
      obtain ⟨s4, w⟩ := w
      have f5 : i32 (V p1 x2) := vr_a0 vr2 g1 s4
      replace w := w f5
      refine wp_aI rfl rfl g1 s4 (?_ : wpv K_X6_keepMakers d P 21 [some (4, (p0 : Int)), some (4, (p1 : Int)), some (0, x2)] [(0, (V p1 x2))] G R V)
      refine wp_p (i := (.ldc 47)) rfl rfl (fun _ _ _ => rfl) (?_ : wpv K_X6_keepMakers d P 23 [some (4, (p0 : Int)), some (4, (p1 : Int)), some (0, x2)] [(0, 342391), (0, (V p1 x2))] G R V)
      refine wp_icmp (c := .eq) 66 rfl rfl rfl f5 ⟨by omega, by omega⟩ (fun q => ?_) (fun q => ?_)
      · have q : (V p1 x2) = 342391 := q
        replace w := w.1 q
        show wpv K_X6_keepMakers d P 66 [some (4, (p0 : Int)), some (4, (p1 : Int)), some (0, x2)] [] G R V
        obtain ⟨s6, w⟩ := w
        refine wp_inc (x := 2) (k := 1) (a := x2) (c := (x2 + 1)) _ rfl rfl rfl rfl s6 (by omega) rfl ?_
        show wpv K_X6_keepMakers d P 69 [some (4, (p0 : Int)), some (4, (p1 : Int)), some (0, (x2 + 1))] [] G R V
        refine wp_go 7 rfl rfl rfl (?_ : wpv K_X6_keepMakers d P 7 [some (4, (p0 : Int)), some (4, (p1 : Int)), some (0, (x2 + 1))] [] G R V)
        exact wp_wk (wk_s (wk_s (wk_s wk_0))) w
      · have q : ¬ (V p1 x2) = 342391 := q
        replace w := w.2 q
        show wpv K_X6_keepMakers d P 26 [some (4, (p0 : Int)), some (4, (p1 : Int)), some (0, x2)] [] G R V
        refine wp_ld (i := (.aload_n 0)) (4, (p0 : Int)) rfl rfl (fun _ => rfl) rfl rfl (?_ : wpv K_X6_keepMakers d P 27 [some (4, (p0 : Int)), some (4, (p1 : Int)), some (0, x2)] [(4, (p0 : Int))] G R V)
        refine wp_getA (k := 7) rfl rfl rfl (ly6_o l0) rfl rfl (ly6_7 l0).1 (?_ : wpv K_X6_keepMakers d P 30 [some (4, (p0 : Int)), some (4, (p1 : Int)), some (0, x2)] [(4, ((p0 + 5 : Nat) : Int))] G R V)
        refine wp_ld (i := (.aload_n 0)) (4, (p0 : Int)) rfl rfl (fun _ => rfl) rfl rfl (?_ : wpv K_X6_keepMakers d P 31 [some (4, (p0 : Int)), some (4, (p1 : Int)), some (0, x2)] [(4, (p0 : Int)), (4, ((p0 + 5 : Nat) : Int))] G R V)
        have f7 : i32 (V p0 2) := vr_f0 vr2 (ly6_o l0) rfl rfl
        replace w := w f7
        refine wp_getI (k := 2) rfl rfl rfl (ly6_o l0) rfl rfl (?_ : wpv K_X6_keepMakers d P 34 [some (4, (p0 : Int)), some (4, (p1 : Int)), some (0, x2)] [(0, (V p0 2)), (4, ((p0 + 5 : Nat) : Int))] G R V)
        refine wp_ld (i := (.aload_n 1)) (4, (p1 : Int)) rfl rfl (fun _ => rfl) rfl rfl (?_ : wpv K_X6_keepMakers d P 35 [some (4, (p0 : Int)), some (4, (p1 : Int)), some (0, x2)] [(4, (p1 : Int)), (0, (V p0 2)), (4, ((p0 + 5 : Nat) : Int))] G R V)
        refine wp_ld (i := (.iload_n 2)) (0, x2) rfl rfl (fun _ => rfl) rfl rfl (?_ : wpv K_X6_keepMakers d P 36 [some (4, (p0 : Int)), some (4, (p1 : Int)), some (0, x2)] [(0, x2), (4, (p1 : Int)), (0, (V p0 2)), (4, ((p0 + 5 : Nat) : Int))] G R V)
        refine wp_aI rfl rfl g1 s4 (?_ : wpv K_X6_keepMakers d P 37 [some (4, (p0 : Int)), some (4, (p1 : Int)), some (0, x2)] [(0, (V p1 x2)), (0, (V p0 2)), (4, ((p0 + 5 : Nat) : Int))] G R V)
        refine wp_stat (as := [(4, ((p0 + 5 : Nat) : Int)), (0, (V p0 2)), (0, (V p1 x2))]) (st := []) _ rfl rfl rfl (by omega) rfl rfl (Nat.le_of_ble_eq_true rfl) (cwv_kI w (fun v9 V8 w => ?_))
        show wpv K_X6_keepMakers d P 40 [some (4, (p0 : Int)), some (4, (p1 : Int)), some (0, x2)] [(0, v9)] G R V8
        refine wp_p (i := (.iconst (-1))) rfl rfl (fun _ _ _ => rfl) (?_ : wpv K_X6_keepMakers d P 41 [some (4, (p0 : Int)), some (4, (p1 : Int)), some (0, x2)] [(0, (-1)), (0, v9)] G R V8)
        obtain ⟨s10, w⟩ := w
        refine wp_icmp (c := .ne) 66 rfl rfl rfl s10 ⟨by omega, by omega⟩ (fun q => ?_) (fun q => ?_)
        · have q : ¬ v9 = (-1) := q
          replace w := w.1 q
          show wpv K_X6_keepMakers d P 66 [some (4, (p0 : Int)), some (4, (p1 : Int)), some (0, x2)] [] G R V8
          obtain ⟨s11, w⟩ := w
          refine wp_inc (x := 2) (k := 1) (a := x2) (c := (x2 + 1)) _ rfl rfl rfl rfl s11 (by omega) rfl ?_
          show wpv K_X6_keepMakers d P 69 [some (4, (p0 : Int)), some (4, (p1 : Int)), some (0, (x2 + 1))] [] G R V8
          refine wp_go 7 rfl rfl rfl (?_ : wpv K_X6_keepMakers d P 7 [some (4, (p0 : Int)), some (4, (p1 : Int)), some (0, (x2 + 1))] [] G R V8)
          exact wp_wk (wk_s (wk_s (wk_s wk_0))) w
        · have q : v9 = (-1) := Decidable.not_not.mp q
          replace w := w.2 q
          show wpv K_X6_keepMakers d P 44 [some (4, (p0 : Int)), some (4, (p1 : Int)), some (0, x2)] [] G R V8
          refine wp_ld (i := (.aload_n 0)) (4, (p0 : Int)) rfl rfl (fun _ => rfl) rfl rfl (?_ : wpv K_X6_keepMakers d P 45 [some (4, (p0 : Int)), some (4, (p1 : Int)), some (0, x2)] [(4, (p0 : Int))] G R V8)
          refine wp_getA (k := 7) rfl rfl rfl (ly6_o l0) rfl rfl (ly6_7 l0).1 (?_ : wpv K_X6_keepMakers d P 48 [some (4, (p0 : Int)), some (4, (p1 : Int)), some (0, x2)] [(4, ((p0 + 5 : Nat) : Int))] G R V8)
          refine wp_ld (i := (.aload_n 0)) (4, (p0 : Int)) rfl rfl (fun _ => rfl) rfl rfl (?_ : wpv K_X6_keepMakers d P 49 [some (4, (p0 : Int)), some (4, (p1 : Int)), some (0, x2)] [(4, (p0 : Int)), (4, ((p0 + 5 : Nat) : Int))] G R V8)
          refine wp_rng (fun vr12 => ?_)
          have f13 : i32 (V8 p0 2) := vr_f0 vr12 (ly6_o l0) rfl rfl
          replace w := w f13
          refine wp_getI (k := 2) rfl rfl rfl (ly6_o l0) rfl rfl (?_ : wpv K_X6_keepMakers d P 52 [some (4, (p0 : Int)), some (4, (p1 : Int)), some (0, x2)] [(0, (V8 p0 2)), (4, ((p0 + 5 : Nat) : Int))] G R V8)
          refine wp_ld (i := (.aload_n 1)) (4, (p1 : Int)) rfl rfl (fun _ => rfl) rfl rfl (?_ : wpv K_X6_keepMakers d P 53 [some (4, (p0 : Int)), some (4, (p1 : Int)), some (0, x2)] [(4, (p1 : Int)), (0, (V8 p0 2)), (4, ((p0 + 5 : Nat) : Int))] G R V8)
          refine wp_ld (i := (.iload_n 2)) (0, x2) rfl rfl (fun _ => rfl) rfl rfl (?_ : wpv K_X6_keepMakers d P 54 [some (4, (p0 : Int)), some (4, (p1 : Int)), some (0, x2)] [(0, x2), (4, (p1 : Int)), (0, (V8 p0 2)), (4, ((p0 + 5 : Nat) : Int))] G R V8)
          have f14 : i32 (V8 p1 x2) := vr_a0 vr12 g1 s4
          replace w := w f14
          refine wp_aI rfl rfl g1 s4 (?_ : wpv K_X6_keepMakers d P 55 [some (4, (p0 : Int)), some (4, (p1 : Int)), some (0, x2)] [(0, (V8 p1 x2)), (0, (V8 p0 2)), (4, ((p0 + 5 : Nat) : Int))] G R V8)
          obtain ⟨s15, w⟩ := w
          refine wp_sI rfl rfl (ly6_7 l0).2 s15 f14 (?_ : wpv K_X6_keepMakers d P 56 [some (4, (p0 : Int)), some (4, (p1 : Int)), some (0, x2)] [] G R (wr V8 (p0 + 5) ((V8 p0 2)) ((V8 p1 x2))))
          refine wp_ld (i := (.aload_n 0)) (4, (p0 : Int)) rfl rfl (fun _ => rfl) rfl rfl (?_ : wpv K_X6_keepMakers d P 57 [some (4, (p0 : Int)), some (4, (p1 : Int)), some (0, x2)] [(4, (p0 : Int))] G R (wr V8 (p0 + 5) ((V8 p0 2)) ((V8 p1 x2))))
          refine wp_p (i := .dup) rfl rfl (fun _ _ _ => rfl) (?_ : wpv K_X6_keepMakers d P 58 [some (4, (p0 : Int)), some (4, (p1 : Int)), some (0, x2)] [(4, (p0 : Int)), (4, (p0 : Int))] G R (wr V8 (p0 + 5) ((V8 p0 2)) ((V8 p1 x2))))
          refine wp_rng (fun vr16 => ?_)
          have r17 : ((wr V8 (p0 + 5) ((V8 p0 2)) ((V8 p1 x2))) p0 2) = (V8 p0 2) := (wr_a (by omega))
          refine wp_getIe (k := 2) rfl rfl rfl (ly6_o l0) rfl rfl r17 (?_ : wpv K_X6_keepMakers d P 61 [some (4, (p0 : Int)), some (4, (p1 : Int)), some (0, x2)] [(0, (V8 p0 2)), (4, (p0 : Int))] G R (wr V8 (p0 + 5) ((V8 p0 2)) ((V8 p1 x2))))
          refine wp_p (i := (.iconst 1)) rfl rfl (fun _ _ _ => rfl) (?_ : wpv K_X6_keepMakers d P 62 [some (4, (p0 : Int)), some (4, (p1 : Int)), some (0, x2)] [(0, 1), (0, (V8 p0 2)), (4, (p0 : Int))] G R (wr V8 (p0 + 5) ((V8 p0 2)) ((V8 p1 x2))))
          obtain ⟨s18, w⟩ := w
          refine wp_xadd rfl rfl s18 (?_ : wpv K_X6_keepMakers d P 63 [some (4, (p0 : Int)), some (4, (p1 : Int)), some (0, x2)] [(0, ((V8 p0 2) + 1)), (4, (p0 : Int))] G R (wr V8 (p0 + 5) ((V8 p0 2)) ((V8 p1 x2))))
          refine wp_putI (k := 2) rfl rfl rfl (ly6_o l0) rfl rfl rfl s18 (?_ : wpv K_X6_keepMakers d P 66 [some (4, (p0 : Int)), some (4, (p1 : Int)), some (0, x2)] [] G R (wr (wr V8 (p0 + 5) ((V8 p0 2)) ((V8 p1 x2))) p0 2 (((V8 p0 2) + 1))))
          obtain ⟨s19, w⟩ := w
          refine wp_inc (x := 2) (k := 1) (a := x2) (c := (x2 + 1)) _ rfl rfl rfl rfl s19 (by omega) rfl ?_
          show wpv K_X6_keepMakers d P 69 [some (4, (p0 : Int)), some (4, (p1 : Int)), some (0, (x2 + 1))] [] G R (wr (wr V8 (p0 + 5) ((V8 p0 2)) ((V8 p1 x2))) p0 2 (((V8 p0 2) + 1)))
          refine wp_go 7 rfl rfl rfl (?_ : wpv K_X6_keepMakers d P 7 [some (4, (p0 : Int)), some (4, (p1 : Int)), some (0, (x2 + 1))] [] G R (wr (wr V8 (p0 + 5) ((V8 p0 2)) ((V8 p1 x2))) p0 2 (((V8 p0 2) + 1))))
          exact wp_wk (wk_s (wk_s (wk_s wk_0))) w
