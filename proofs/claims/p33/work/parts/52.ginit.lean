theorem t_X3_init_0 {d : Nat} {Q : gQ} {p0 : Nat} {G : List gS} {R V : gV} (w : ((G[p0]? = some (gO 3)) ∧ wp K_X3_init d Q 9 [some (4, (p0 : Int))] [] G R (wr V p0 0 0))) : wp K_X3_init d Q 0 [some (4, (p0 : Int))] [] G R V := by
  refine wp_ld (i := (.aload_n 0)) (4, (p0 : Int)) rfl rfl (fun _ => rfl) rfl rfl (?_ : wp K_X3_init d Q 1 [some (4, (p0 : Int))] [(4, (p0 : Int))] _ _ _)
  refine wp_obj rfl rfl rfl (Nat.le_of_ble_eq_true rfl) (?_ : wp K_X3_init d Q 4 [some (4, (p0 : Int))] [] _ _ _)
  refine wp_ld (i := (.aload_n 0)) (4, (p0 : Int)) rfl rfl (fun _ => rfl) rfl rfl (?_ : wp K_X3_init d Q 5 [some (4, (p0 : Int))] [(4, (p0 : Int))] _ _ _)
  refine wp_p (i := (.iconst 0)) rfl rfl (fun _ _ _ => rfl) (?_ : wp K_X3_init d Q 6 [some (4, (p0 : Int))] [(0, 0), (4, (p0 : Int))] _ _ _)
  obtain ⟨s1, w⟩ := w
  refine wp_putI (k := 0) rfl rfl rfl s1 rfl rfl rfl ⟨by omega, by omega⟩ (?_ : wp K_X3_init d Q 9 [some (4, (p0 : Int))] [] _ _ _)
  exact wp_wk (wk_s wk_0) w

theorem t_X3_init_9 {d : Nat} {Q : gQ} {p0 : Nat} {G : List gS} {R V : gV} (w : (((G ++ [gA 1 300])[p0]? = some (gO 3)) ∧ wp K_X3_init d Q 18 [some (4, (p0 : Int))] [] (G ++ [gA 1 300]) (wr R p0 1 ((G.length : Nat) : Int)) V)) : wp K_X3_init d Q 9 [some (4, (p0 : Int))] [] G R V := by
  refine wp_ld (i := (.aload_n 0)) (4, (p0 : Int)) rfl rfl (fun _ => rfl) rfl rfl (?_ : wp K_X3_init d Q 10 [some (4, (p0 : Int))] [(4, (p0 : Int))] _ _ _)
  refine wp_p (i := (.sipush 300)) rfl rfl (fun _ _ _ => rfl) (?_ : wp K_X3_init d Q 13 [some (4, (p0 : Int))] [(0, 300), (4, (p0 : Int))] _ _ _)
  refine wp_arr (ty := 1) (n := 2) (len := 300) rfl rfl (fun _ _ _ => rfl) (by omega) (by omega) (by omega) ?_
  show wp K_X3_init d Q 15 [some (4, (p0 : Int))] [(4, ((G.length : Nat) : Int)), (4, (p0 : Int))] _ _ _
  obtain ⟨s1, w⟩ := w
  refine wp_putA (k := 1) rfl rfl rfl s1 rfl rfl rfl (?_ : wp K_X3_init d Q 18 [some (4, (p0 : Int))] [] _ _ _)
  exact wp_wk (wk_s wk_0) w

theorem t_X3_init_18 {d : Nat} {Q : gQ} {p0 : Nat} {G : List gS} {R V : gV} (w : (((G ++ [gA 1 300])[p0]? = some (gO 3)) ∧ wp K_X3_init d Q 27 [some (4, (p0 : Int))] [] (G ++ [gA 1 300]) (wr R p0 2 ((G.length : Nat) : Int)) V)) : wp K_X3_init d Q 18 [some (4, (p0 : Int))] [] G R V := by
  refine wp_ld (i := (.aload_n 0)) (4, (p0 : Int)) rfl rfl (fun _ => rfl) rfl rfl (?_ : wp K_X3_init d Q 19 [some (4, (p0 : Int))] [(4, (p0 : Int))] _ _ _)
  refine wp_p (i := (.sipush 300)) rfl rfl (fun _ _ _ => rfl) (?_ : wp K_X3_init d Q 22 [some (4, (p0 : Int))] [(0, 300), (4, (p0 : Int))] _ _ _)
  refine wp_arr (ty := 1) (n := 2) (len := 300) rfl rfl (fun _ _ _ => rfl) (by omega) (by omega) (by omega) ?_
  show wp K_X3_init d Q 24 [some (4, (p0 : Int))] [(4, ((G.length : Nat) : Int)), (4, (p0 : Int))] _ _ _
  obtain ⟨s1, w⟩ := w
  refine wp_putA (k := 2) rfl rfl rfl s1 rfl rfl rfl (?_ : wp K_X3_init d Q 27 [some (4, (p0 : Int))] [] _ _ _)
  exact wp_wk (wk_s wk_0) w

theorem t_X3_init_27 {d : Nat} {Q : gQ} {p0 : Nat} {G : List gS} {R V : gV} (w : (((G ++ [gA 0 300])[p0]? = some (gO 3)) ∧ wp K_X3_init d Q 36 [some (4, (p0 : Int))] [] (G ++ [gA 0 300]) (wr R p0 3 ((G.length : Nat) : Int)) V)) : wp K_X3_init d Q 27 [some (4, (p0 : Int))] [] G R V := by
  refine wp_ld (i := (.aload_n 0)) (4, (p0 : Int)) rfl rfl (fun _ => rfl) rfl rfl (?_ : wp K_X3_init d Q 28 [some (4, (p0 : Int))] [(4, (p0 : Int))] _ _ _)
  refine wp_p (i := (.sipush 300)) rfl rfl (fun _ _ _ => rfl) (?_ : wp K_X3_init d Q 31 [some (4, (p0 : Int))] [(0, 300), (4, (p0 : Int))] _ _ _)
  refine wp_arr (ty := 0) (n := 2) (len := 300) rfl rfl (fun _ _ _ => rfl) (by omega) (by omega) (by omega) ?_
  show wp K_X3_init d Q 33 [some (4, (p0 : Int))] [(4, ((G.length : Nat) : Int)), (4, (p0 : Int))] _ _ _
  obtain ⟨s1, w⟩ := w
  refine wp_putA (k := 3) rfl rfl rfl s1 rfl rfl rfl (?_ : wp K_X3_init d Q 36 [some (4, (p0 : Int))] [] _ _ _)
  exact wp_wk (wk_s wk_0) w

theorem t_X3_init_36 {d : Nat} {Q : gQ} {p0 : Nat} {G : List gS} {R V : gV} (w : (((G ++ [gA 0 300])[p0]? = some (gO 3)) ∧ wp K_X3_init d Q 45 [some (4, (p0 : Int))] [] (G ++ [gA 0 300]) (wr R p0 4 ((G.length : Nat) : Int)) V)) : wp K_X3_init d Q 36 [some (4, (p0 : Int))] [] G R V := by
  refine wp_ld (i := (.aload_n 0)) (4, (p0 : Int)) rfl rfl (fun _ => rfl) rfl rfl (?_ : wp K_X3_init d Q 37 [some (4, (p0 : Int))] [(4, (p0 : Int))] _ _ _)
  refine wp_p (i := (.sipush 300)) rfl rfl (fun _ _ _ => rfl) (?_ : wp K_X3_init d Q 40 [some (4, (p0 : Int))] [(0, 300), (4, (p0 : Int))] _ _ _)
  refine wp_arr (ty := 0) (n := 2) (len := 300) rfl rfl (fun _ _ _ => rfl) (by omega) (by omega) (by omega) ?_
  show wp K_X3_init d Q 42 [some (4, (p0 : Int))] [(4, ((G.length : Nat) : Int)), (4, (p0 : Int))] _ _ _
  obtain ⟨s1, w⟩ := w
  refine wp_putA (k := 4) rfl rfl rfl s1 rfl rfl rfl (?_ : wp K_X3_init d Q 45 [some (4, (p0 : Int))] [] _ _ _)
  exact wp_wk (wk_s wk_0) w

theorem t_X3_init_45 {d : Nat} {Q : gQ} {p0 : Nat} {G : List gS} {R V : gV} (w : ((G[p0]? = some (gO 3)) ∧ wp K_X3_init d Q 50 [some (4, (p0 : Int))] [] G R (wr V p0 5 0))) : wp K_X3_init d Q 45 [some (4, (p0 : Int))] [] G R V := by
  refine wp_ld (i := (.aload_n 0)) (4, (p0 : Int)) rfl rfl (fun _ => rfl) rfl rfl (?_ : wp K_X3_init d Q 46 [some (4, (p0 : Int))] [(4, (p0 : Int))] _ _ _)
  refine wp_p (i := (.iconst 0)) rfl rfl (fun _ _ _ => rfl) (?_ : wp K_X3_init d Q 47 [some (4, (p0 : Int))] [(0, 0), (4, (p0 : Int))] _ _ _)
  obtain ⟨s1, w⟩ := w
  refine wp_putI (k := 5) rfl rfl rfl s1 rfl rfl rfl ⟨by omega, by omega⟩ (?_ : wp K_X3_init d Q 50 [some (4, (p0 : Int))] [] _ _ _)
  exact wp_wk (wk_s wk_0) w

theorem t_X3_init_50 {d : Nat} {Q : gQ} {p0 : Nat} {G : List gS} {R V : gV} (w : (((G ++ [gA 0 300])[p0]? = some (gO 3)) ∧ wp K_X3_init d Q 59 [some (4, (p0 : Int))] [] (G ++ [gA 0 300]) (wr R p0 6 ((G.length : Nat) : Int)) V)) : wp K_X3_init d Q 50 [some (4, (p0 : Int))] [] G R V := by
  refine wp_ld (i := (.aload_n 0)) (4, (p0 : Int)) rfl rfl (fun _ => rfl) rfl rfl (?_ : wp K_X3_init d Q 51 [some (4, (p0 : Int))] [(4, (p0 : Int))] _ _ _)
  refine wp_p (i := (.sipush 300)) rfl rfl (fun _ _ _ => rfl) (?_ : wp K_X3_init d Q 54 [some (4, (p0 : Int))] [(0, 300), (4, (p0 : Int))] _ _ _)
  refine wp_arr (ty := 0) (n := 2) (len := 300) rfl rfl (fun _ _ _ => rfl) (by omega) (by omega) (by omega) ?_
  show wp K_X3_init d Q 56 [some (4, (p0 : Int))] [(4, ((G.length : Nat) : Int)), (4, (p0 : Int))] _ _ _
  obtain ⟨s1, w⟩ := w
  refine wp_putA (k := 6) rfl rfl rfl s1 rfl rfl rfl (?_ : wp K_X3_init d Q 59 [some (4, (p0 : Int))] [] _ _ _)
  exact wp_wk (wk_s wk_0) w

theorem t_X3_init_59 {d : Nat} {Q : gQ} {p0 : Nat} {G : List gS} {R V : gV} (w : (((G ++ [gA 0 300])[p0]? = some (gO 3)) ∧ wp K_X3_init d Q 68 [some (4, (p0 : Int))] [] (G ++ [gA 0 300]) (wr R p0 7 ((G.length : Nat) : Int)) V)) : wp K_X3_init d Q 59 [some (4, (p0 : Int))] [] G R V := by
  refine wp_ld (i := (.aload_n 0)) (4, (p0 : Int)) rfl rfl (fun _ => rfl) rfl rfl (?_ : wp K_X3_init d Q 60 [some (4, (p0 : Int))] [(4, (p0 : Int))] _ _ _)
  refine wp_p (i := (.sipush 300)) rfl rfl (fun _ _ _ => rfl) (?_ : wp K_X3_init d Q 63 [some (4, (p0 : Int))] [(0, 300), (4, (p0 : Int))] _ _ _)
  refine wp_arr (ty := 0) (n := 2) (len := 300) rfl rfl (fun _ _ _ => rfl) (by omega) (by omega) (by omega) ?_
  show wp K_X3_init d Q 65 [some (4, (p0 : Int))] [(4, ((G.length : Nat) : Int)), (4, (p0 : Int))] _ _ _
  obtain ⟨s1, w⟩ := w
  refine wp_putA (k := 7) rfl rfl rfl s1 rfl rfl rfl (?_ : wp K_X3_init d Q 68 [some (4, (p0 : Int))] [] _ _ _)
  exact wp_wk (wk_s wk_0) w

theorem t_X3_init_68 {d : Nat} {Q : gQ} {p0 : Nat} {G : List gS} {R V : gV} (w : (((G ++ [gA 0 2400])[p0]? = some (gO 3)) ∧ wp K_X3_init d Q 77 [some (4, (p0 : Int))] [] (G ++ [gA 0 2400]) (wr R p0 8 ((G.length : Nat) : Int)) V)) : wp K_X3_init d Q 68 [some (4, (p0 : Int))] [] G R V := by
  refine wp_ld (i := (.aload_n 0)) (4, (p0 : Int)) rfl rfl (fun _ => rfl) rfl rfl (?_ : wp K_X3_init d Q 69 [some (4, (p0 : Int))] [(4, (p0 : Int))] _ _ _)
  refine wp_p (i := (.sipush 2400)) rfl rfl (fun _ _ _ => rfl) (?_ : wp K_X3_init d Q 72 [some (4, (p0 : Int))] [(0, 2400), (4, (p0 : Int))] _ _ _)
  refine wp_arr (ty := 0) (n := 2) (len := 2400) rfl rfl (fun _ _ _ => rfl) (by omega) (by omega) (by omega) ?_
  show wp K_X3_init d Q 74 [some (4, (p0 : Int))] [(4, ((G.length : Nat) : Int)), (4, (p0 : Int))] _ _ _
  obtain ⟨s1, w⟩ := w
  refine wp_putA (k := 8) rfl rfl rfl s1 rfl rfl rfl (?_ : wp K_X3_init d Q 77 [some (4, (p0 : Int))] [] _ _ _)
  exact wp_wk (wk_s wk_0) w

theorem t_X3_init_77 {d : Nat} {Q : gQ} {p0 : Nat} {G : List gS} {R V : gV} (w : ((G[p0]? = some (gO 3)) ∧ wp K_X3_init d Q 82 [some (4, (p0 : Int))] [] G R (wr V p0 9 0))) : wp K_X3_init d Q 77 [some (4, (p0 : Int))] [] G R V := by
  refine wp_ld (i := (.aload_n 0)) (4, (p0 : Int)) rfl rfl (fun _ => rfl) rfl rfl (?_ : wp K_X3_init d Q 78 [some (4, (p0 : Int))] [(4, (p0 : Int))] _ _ _)
  refine wp_p (i := (.iconst 0)) rfl rfl (fun _ _ _ => rfl) (?_ : wp K_X3_init d Q 79 [some (4, (p0 : Int))] [(0, 0), (4, (p0 : Int))] _ _ _)
  obtain ⟨s1, w⟩ := w
  refine wp_putI (k := 9) rfl rfl rfl s1 rfl rfl rfl ⟨by omega, by omega⟩ (?_ : wp K_X3_init d Q 82 [some (4, (p0 : Int))] [] _ _ _)
  exact wp_wk (wk_s wk_0) w

theorem t_X3_init_82 {d : Nat} {Q : gQ} {p0 : Nat} {G : List gS} {R V : gV} (w : (((G ++ [gA 0 120])[p0]? = some (gO 3)) ∧ wp K_X3_init d Q 90 [some (4, (p0 : Int))] [] (G ++ [gA 0 120]) (wr R p0 10 ((G.length : Nat) : Int)) V)) : wp K_X3_init d Q 82 [some (4, (p0 : Int))] [] G R V := by
  refine wp_ld (i := (.aload_n 0)) (4, (p0 : Int)) rfl rfl (fun _ => rfl) rfl rfl (?_ : wp K_X3_init d Q 83 [some (4, (p0 : Int))] [(4, (p0 : Int))] _ _ _)
  refine wp_p (i := (.bipush 120)) rfl rfl (fun _ _ _ => rfl) (?_ : wp K_X3_init d Q 85 [some (4, (p0 : Int))] [(0, 120), (4, (p0 : Int))] _ _ _)
  refine wp_arr (ty := 0) (n := 2) (len := 120) rfl rfl (fun _ _ _ => rfl) (by omega) (by omega) (by omega) ?_
  show wp K_X3_init d Q 87 [some (4, (p0 : Int))] [(4, ((G.length : Nat) : Int)), (4, (p0 : Int))] _ _ _
  obtain ⟨s1, w⟩ := w
  refine wp_putA (k := 10) rfl rfl rfl s1 rfl rfl rfl (?_ : wp K_X3_init d Q 90 [some (4, (p0 : Int))] [] _ _ _)
  exact wp_wk (wk_s wk_0) w

theorem t_X3_init_90 {d : Nat} {Q : gQ} {p0 : Nat} {G : List gS} {R V : gV} (w : (((G ++ [gA 0 480])[p0]? = some (gO 3)) ∧ wp K_X3_init d Q 99 [some (4, (p0 : Int))] [] (G ++ [gA 0 480]) (wr R p0 11 ((G.length : Nat) : Int)) V)) : wp K_X3_init d Q 90 [some (4, (p0 : Int))] [] G R V := by
  refine wp_ld (i := (.aload_n 0)) (4, (p0 : Int)) rfl rfl (fun _ => rfl) rfl rfl (?_ : wp K_X3_init d Q 91 [some (4, (p0 : Int))] [(4, (p0 : Int))] _ _ _)
  refine wp_p (i := (.sipush 480)) rfl rfl (fun _ _ _ => rfl) (?_ : wp K_X3_init d Q 94 [some (4, (p0 : Int))] [(0, 480), (4, (p0 : Int))] _ _ _)
  refine wp_arr (ty := 0) (n := 2) (len := 480) rfl rfl (fun _ _ _ => rfl) (by omega) (by omega) (by omega) ?_
  show wp K_X3_init d Q 96 [some (4, (p0 : Int))] [(4, ((G.length : Nat) : Int)), (4, (p0 : Int))] _ _ _
  obtain ⟨s1, w⟩ := w
  refine wp_putA (k := 11) rfl rfl rfl s1 rfl rfl rfl (?_ : wp K_X3_init d Q 99 [some (4, (p0 : Int))] [] _ _ _)
  exact wp_wk (wk_s wk_0) w

theorem t_X3_init_99 {d : Nat} {Q : gQ} {p0 : Nat} {G : List gS} {R V : gV} (w : ((G[p0]? = some (gO 3)) ∧ wp K_X3_init d Q 104 [some (4, (p0 : Int))] [] G R (wr V p0 12 0))) : wp K_X3_init d Q 99 [some (4, (p0 : Int))] [] G R V := by
  refine wp_ld (i := (.aload_n 0)) (4, (p0 : Int)) rfl rfl (fun _ => rfl) rfl rfl (?_ : wp K_X3_init d Q 100 [some (4, (p0 : Int))] [(4, (p0 : Int))] _ _ _)
  refine wp_p (i := (.iconst 0)) rfl rfl (fun _ _ _ => rfl) (?_ : wp K_X3_init d Q 101 [some (4, (p0 : Int))] [(0, 0), (4, (p0 : Int))] _ _ _)
  obtain ⟨s1, w⟩ := w
  refine wp_putI (k := 12) rfl rfl rfl s1 rfl rfl rfl ⟨by omega, by omega⟩ (?_ : wp K_X3_init d Q 104 [some (4, (p0 : Int))] [] _ _ _)
  exact wp_wk (wk_s wk_0) w

theorem t_X3_init_104 {d : Nat} {Q : gQ} {p0 : Nat} {G : List gS} {R V : gV} (w : (((G ++ [gA 0 120])[p0]? = some (gO 3)) ∧ wp K_X3_init d Q 112 [some (4, (p0 : Int))] [] (G ++ [gA 0 120]) (wr R p0 13 ((G.length : Nat) : Int)) V)) : wp K_X3_init d Q 104 [some (4, (p0 : Int))] [] G R V := by
  refine wp_ld (i := (.aload_n 0)) (4, (p0 : Int)) rfl rfl (fun _ => rfl) rfl rfl (?_ : wp K_X3_init d Q 105 [some (4, (p0 : Int))] [(4, (p0 : Int))] _ _ _)
  refine wp_p (i := (.bipush 120)) rfl rfl (fun _ _ _ => rfl) (?_ : wp K_X3_init d Q 107 [some (4, (p0 : Int))] [(0, 120), (4, (p0 : Int))] _ _ _)
  refine wp_arr (ty := 0) (n := 2) (len := 120) rfl rfl (fun _ _ _ => rfl) (by omega) (by omega) (by omega) ?_
  show wp K_X3_init d Q 109 [some (4, (p0 : Int))] [(4, ((G.length : Nat) : Int)), (4, (p0 : Int))] _ _ _
  obtain ⟨s1, w⟩ := w
  refine wp_putA (k := 13) rfl rfl rfl s1 rfl rfl rfl (?_ : wp K_X3_init d Q 112 [some (4, (p0 : Int))] [] _ _ _)
  exact wp_wk (wk_s wk_0) w

theorem t_X3_init_112 {d : Nat} {Q : gQ} {p0 : Nat} {G : List gS} {R V : gV} (w : (((G ++ [gA 0 120])[p0]? = some (gO 3)) ∧ wp K_X3_init d Q 120 [some (4, (p0 : Int))] [] (G ++ [gA 0 120]) (wr R p0 14 ((G.length : Nat) : Int)) V)) : wp K_X3_init d Q 112 [some (4, (p0 : Int))] [] G R V := by
  refine wp_ld (i := (.aload_n 0)) (4, (p0 : Int)) rfl rfl (fun _ => rfl) rfl rfl (?_ : wp K_X3_init d Q 113 [some (4, (p0 : Int))] [(4, (p0 : Int))] _ _ _)
  refine wp_p (i := (.bipush 120)) rfl rfl (fun _ _ _ => rfl) (?_ : wp K_X3_init d Q 115 [some (4, (p0 : Int))] [(0, 120), (4, (p0 : Int))] _ _ _)
  refine wp_arr (ty := 0) (n := 2) (len := 120) rfl rfl (fun _ _ _ => rfl) (by omega) (by omega) (by omega) ?_
  show wp K_X3_init d Q 117 [some (4, (p0 : Int))] [(4, ((G.length : Nat) : Int)), (4, (p0 : Int))] _ _ _
  obtain ⟨s1, w⟩ := w
  refine wp_putA (k := 14) rfl rfl rfl s1 rfl rfl rfl (?_ : wp K_X3_init d Q 120 [some (4, (p0 : Int))] [] _ _ _)
  exact wp_wk (wk_s wk_0) w

theorem t_X3_init_120 {d : Nat} {Q : gQ} {p0 : Nat} {G : List gS} {R V : gV} (w : ((G[p0]? = some (gO 3)) ∧ wp K_X3_init d Q 125 [some (4, (p0 : Int))] [] G R (wr V p0 15 0))) : wp K_X3_init d Q 120 [some (4, (p0 : Int))] [] G R V := by
  refine wp_ld (i := (.aload_n 0)) (4, (p0 : Int)) rfl rfl (fun _ => rfl) rfl rfl (?_ : wp K_X3_init d Q 121 [some (4, (p0 : Int))] [(4, (p0 : Int))] _ _ _)
  refine wp_p (i := (.lconst 0)) rfl rfl (fun _ _ _ => rfl) (?_ : wp K_X3_init d Q 122 [some (4, (p0 : Int))] [(2, 0), (4, (p0 : Int))] _ _ _)
  obtain ⟨s1, w⟩ := w
  refine wp_putJ (k := 15) rfl rfl rfl s1 rfl rfl rfl ⟨by omega, by omega⟩ (?_ : wp K_X3_init d Q 125 [some (4, (p0 : Int))] [] _ _ _)
  exact wp_wk (wk_s wk_0) w

theorem t_X3_init_125 {d : Nat} {Q : gQ} {p0 : Nat} {G : List gS} {R V : gV} (w : ((G[p0]? = some (gO 3)) ∧ wp K_X3_init d Q 130 [some (4, (p0 : Int))] [] G R (wr V p0 16 0))) : wp K_X3_init d Q 125 [some (4, (p0 : Int))] [] G R V := by
  refine wp_ld (i := (.aload_n 0)) (4, (p0 : Int)) rfl rfl (fun _ => rfl) rfl rfl (?_ : wp K_X3_init d Q 126 [some (4, (p0 : Int))] [(4, (p0 : Int))] _ _ _)
  refine wp_p (i := (.lconst 0)) rfl rfl (fun _ _ _ => rfl) (?_ : wp K_X3_init d Q 127 [some (4, (p0 : Int))] [(2, 0), (4, (p0 : Int))] _ _ _)
  obtain ⟨s1, w⟩ := w
  refine wp_putJ (k := 16) rfl rfl rfl s1 rfl rfl rfl ⟨by omega, by omega⟩ (?_ : wp K_X3_init d Q 130 [some (4, (p0 : Int))] [] _ _ _)
  exact wp_wk (wk_s wk_0) w

theorem t_X3_init_130 {d : Nat} {Q : gQ} {p0 : Nat} {G : List gS} {R V : gV} (w : ((G[p0]? = some (gO 3)) ∧ wp K_X3_init d Q 135 [] [] G R (wr V p0 17 0))) : wp K_X3_init d Q 130 [some (4, (p0 : Int))] [] G R V := by
  refine wp_ld (i := (.aload_n 0)) (4, (p0 : Int)) rfl rfl (fun _ => rfl) rfl rfl (?_ : wp K_X3_init d Q 131 [some (4, (p0 : Int))] [(4, (p0 : Int))] _ _ _)
  refine wp_p (i := (.iconst 0)) rfl rfl (fun _ _ _ => rfl) (?_ : wp K_X3_init d Q 132 [some (4, (p0 : Int))] [(0, 0), (4, (p0 : Int))] _ _ _)
  obtain ⟨s1, w⟩ := w
  refine wp_putI (k := 17) rfl rfl rfl s1 rfl rfl rfl ⟨by omega, by omega⟩ (?_ : wp K_X3_init d Q 135 [some (4, (p0 : Int))] [] _ _ _)
  exact wp_wk wk_0 w

theorem t_X3_init_135 {d : Nat} {Q : gQ} {G : List gS} {R V : gV} (w : Q none G R V) : wp K_X3_init d Q 135 [] [] G R V := by
  exact wp_g0 rfl rfl rfl w

theorem t_X6_init_0 {d : Nat} {Q : gQ} {p0 : Nat} {G : List gS} {R V : gV} (w : ((G[p0]? = some (gO 6)) ∧ wp K_X6_init d Q 9 [some (4, (p0 : Int))] [] G R (wr V p0 0 1))) : wp K_X6_init d Q 0 [some (4, (p0 : Int))] [] G R V := by
  refine wp_ld (i := (.aload_n 0)) (4, (p0 : Int)) rfl rfl (fun _ => rfl) rfl rfl (?_ : wp K_X6_init d Q 1 [some (4, (p0 : Int))] [(4, (p0 : Int))] _ _ _)
  refine wp_obj rfl rfl rfl (Nat.le_of_ble_eq_true rfl) (?_ : wp K_X6_init d Q 4 [some (4, (p0 : Int))] [] _ _ _)
  refine wp_ld (i := (.aload_n 0)) (4, (p0 : Int)) rfl rfl (fun _ => rfl) rfl rfl (?_ : wp K_X6_init d Q 5 [some (4, (p0 : Int))] [(4, (p0 : Int))] _ _ _)
  refine wp_p (i := (.iconst 1)) rfl rfl (fun _ _ _ => rfl) (?_ : wp K_X6_init d Q 6 [some (4, (p0 : Int))] [(0, 1), (4, (p0 : Int))] _ _ _)
  obtain ⟨s1, w⟩ := w
  refine wp_putI (k := 0) rfl rfl rfl s1 rfl rfl rfl ⟨by omega, by omega⟩ (?_ : wp K_X6_init d Q 9 [some (4, (p0 : Int))] [] _ _ _)
  exact wp_wk (wk_s wk_0) w

theorem t_X6_init_9 {d : Nat} {Q : gQ} {p0 : Nat} {G : List gS} {R V : gV} (w : ((G[p0]? = some (gO 6)) ∧ wp K_X6_init d Q 14 [some (4, (p0 : Int))] [] G R (wr V p0 1 1))) : wp K_X6_init d Q 9 [some (4, (p0 : Int))] [] G R V := by
  refine wp_ld (i := (.aload_n 0)) (4, (p0 : Int)) rfl rfl (fun _ => rfl) rfl rfl (?_ : wp K_X6_init d Q 10 [some (4, (p0 : Int))] [(4, (p0 : Int))] _ _ _)
  refine wp_p (i := (.iconst 1)) rfl rfl (fun _ _ _ => rfl) (?_ : wp K_X6_init d Q 11 [some (4, (p0 : Int))] [(0, 1), (4, (p0 : Int))] _ _ _)
  obtain ⟨s1, w⟩ := w
  refine wp_putI (k := 1) rfl rfl rfl s1 rfl rfl rfl ⟨by omega, by omega⟩ (?_ : wp K_X6_init d Q 14 [some (4, (p0 : Int))] [] _ _ _)
  exact wp_wk (wk_s wk_0) w

theorem t_X6_init_14 {d : Nat} {Q : gQ} {p0 : Nat} {G : List gS} {R V : gV} (w : ((G[p0]? = some (gO 6)) ∧ wp K_X6_init d Q 19 [some (4, (p0 : Int))] [] G R (wr V p0 2 0))) : wp K_X6_init d Q 14 [some (4, (p0 : Int))] [] G R V := by
  refine wp_ld (i := (.aload_n 0)) (4, (p0 : Int)) rfl rfl (fun _ => rfl) rfl rfl (?_ : wp K_X6_init d Q 15 [some (4, (p0 : Int))] [(4, (p0 : Int))] _ _ _)
  refine wp_p (i := (.iconst 0)) rfl rfl (fun _ _ _ => rfl) (?_ : wp K_X6_init d Q 16 [some (4, (p0 : Int))] [(0, 0), (4, (p0 : Int))] _ _ _)
  obtain ⟨s1, w⟩ := w
  refine wp_putI (k := 2) rfl rfl rfl s1 rfl rfl rfl ⟨by omega, by omega⟩ (?_ : wp K_X6_init d Q 19 [some (4, (p0 : Int))] [] _ _ _)
  exact wp_wk (wk_s wk_0) w

theorem t_X6_init_19 {d : Nat} {Q : gQ} {p0 : Nat} {G : List gS} {R V : gV} (w : (((G ++ [gA 0 120])[p0]? = some (gO 6)) ∧ wp K_X6_init d Q 27 [some (4, (p0 : Int))] [] (G ++ [gA 0 120]) (wr R p0 3 ((G.length : Nat) : Int)) V)) : wp K_X6_init d Q 19 [some (4, (p0 : Int))] [] G R V := by
  refine wp_ld (i := (.aload_n 0)) (4, (p0 : Int)) rfl rfl (fun _ => rfl) rfl rfl (?_ : wp K_X6_init d Q 20 [some (4, (p0 : Int))] [(4, (p0 : Int))] _ _ _)
  refine wp_p (i := (.bipush 120)) rfl rfl (fun _ _ _ => rfl) (?_ : wp K_X6_init d Q 22 [some (4, (p0 : Int))] [(0, 120), (4, (p0 : Int))] _ _ _)
  refine wp_arr (ty := 0) (n := 2) (len := 120) rfl rfl (fun _ _ _ => rfl) (by omega) (by omega) (by omega) ?_
  show wp K_X6_init d Q 24 [some (4, (p0 : Int))] [(4, ((G.length : Nat) : Int)), (4, (p0 : Int))] _ _ _
  obtain ⟨s1, w⟩ := w
  refine wp_putA (k := 3) rfl rfl rfl s1 rfl rfl rfl (?_ : wp K_X6_init d Q 27 [some (4, (p0 : Int))] [] _ _ _)
  exact wp_wk (wk_s wk_0) w

theorem t_X6_init_27 {d : Nat} {Q : gQ} {p0 : Nat} {G : List gS} {R V : gV} (w : (((G ++ [gA 0 120])[p0]? = some (gO 6)) ∧ wp K_X6_init d Q 35 [some (4, (p0 : Int))] [] (G ++ [gA 0 120]) (wr R p0 4 ((G.length : Nat) : Int)) V)) : wp K_X6_init d Q 27 [some (4, (p0 : Int))] [] G R V := by
  refine wp_ld (i := (.aload_n 0)) (4, (p0 : Int)) rfl rfl (fun _ => rfl) rfl rfl (?_ : wp K_X6_init d Q 28 [some (4, (p0 : Int))] [(4, (p0 : Int))] _ _ _)
  refine wp_p (i := (.bipush 120)) rfl rfl (fun _ _ _ => rfl) (?_ : wp K_X6_init d Q 30 [some (4, (p0 : Int))] [(0, 120), (4, (p0 : Int))] _ _ _)
  refine wp_arr (ty := 0) (n := 2) (len := 120) rfl rfl (fun _ _ _ => rfl) (by omega) (by omega) (by omega) ?_
  show wp K_X6_init d Q 32 [some (4, (p0 : Int))] [(4, ((G.length : Nat) : Int)), (4, (p0 : Int))] _ _ _
  obtain ⟨s1, w⟩ := w
  refine wp_putA (k := 4) rfl rfl rfl s1 rfl rfl rfl (?_ : wp K_X6_init d Q 35 [some (4, (p0 : Int))] [] _ _ _)
  exact wp_wk (wk_s wk_0) w

theorem t_X6_init_35 {d : Nat} {Q : gQ} {p0 : Nat} {G : List gS} {R V : gV} (w : (((G ++ [gA 0 120])[p0]? = some (gO 6)) ∧ wp K_X6_init d Q 43 [some (4, (p0 : Int))] [] (G ++ [gA 0 120]) (wr R p0 5 ((G.length : Nat) : Int)) V)) : wp K_X6_init d Q 35 [some (4, (p0 : Int))] [] G R V := by
  refine wp_ld (i := (.aload_n 0)) (4, (p0 : Int)) rfl rfl (fun _ => rfl) rfl rfl (?_ : wp K_X6_init d Q 36 [some (4, (p0 : Int))] [(4, (p0 : Int))] _ _ _)
  refine wp_p (i := (.bipush 120)) rfl rfl (fun _ _ _ => rfl) (?_ : wp K_X6_init d Q 38 [some (4, (p0 : Int))] [(0, 120), (4, (p0 : Int))] _ _ _)
  refine wp_arr (ty := 0) (n := 2) (len := 120) rfl rfl (fun _ _ _ => rfl) (by omega) (by omega) (by omega) ?_
  show wp K_X6_init d Q 40 [some (4, (p0 : Int))] [(4, ((G.length : Nat) : Int)), (4, (p0 : Int))] _ _ _
  obtain ⟨s1, w⟩ := w
  refine wp_putA (k := 5) rfl rfl rfl s1 rfl rfl rfl (?_ : wp K_X6_init d Q 43 [some (4, (p0 : Int))] [] _ _ _)
  exact wp_wk (wk_s wk_0) w

theorem t_X6_init_43 {d : Nat} {Q : gQ} {p0 : Nat} {G : List gS} {R V : gV} (w : (((G ++ [gA 0 480])[p0]? = some (gO 6)) ∧ wp K_X6_init d Q 52 [some (4, (p0 : Int))] [] (G ++ [gA 0 480]) (wr R p0 6 ((G.length : Nat) : Int)) V)) : wp K_X6_init d Q 43 [some (4, (p0 : Int))] [] G R V := by
  refine wp_ld (i := (.aload_n 0)) (4, (p0 : Int)) rfl rfl (fun _ => rfl) rfl rfl (?_ : wp K_X6_init d Q 44 [some (4, (p0 : Int))] [(4, (p0 : Int))] _ _ _)
  refine wp_p (i := (.sipush 480)) rfl rfl (fun _ _ _ => rfl) (?_ : wp K_X6_init d Q 47 [some (4, (p0 : Int))] [(0, 480), (4, (p0 : Int))] _ _ _)
  refine wp_arr (ty := 0) (n := 2) (len := 480) rfl rfl (fun _ _ _ => rfl) (by omega) (by omega) (by omega) ?_
  show wp K_X6_init d Q 49 [some (4, (p0 : Int))] [(4, ((G.length : Nat) : Int)), (4, (p0 : Int))] _ _ _
  obtain ⟨s1, w⟩ := w
  refine wp_putA (k := 6) rfl rfl rfl s1 rfl rfl rfl (?_ : wp K_X6_init d Q 52 [some (4, (p0 : Int))] [] _ _ _)
  exact wp_wk (wk_s wk_0) w

theorem t_X6_init_52 {d : Nat} {Q : gQ} {p0 : Nat} {G : List gS} {R V : gV} (w : (((G ++ [gA 0 4])[p0]? = some (gO 6)) ∧ wp K_X6_init d Q 59 [some (4, (p0 : Int))] [] (G ++ [gA 0 4]) (wr R p0 7 ((G.length : Nat) : Int)) V)) : wp K_X6_init d Q 52 [some (4, (p0 : Int))] [] G R V := by
  refine wp_ld (i := (.aload_n 0)) (4, (p0 : Int)) rfl rfl (fun _ => rfl) rfl rfl (?_ : wp K_X6_init d Q 53 [some (4, (p0 : Int))] [(4, (p0 : Int))] _ _ _)
  refine wp_p (i := (.iconst 4)) rfl rfl (fun _ _ _ => rfl) (?_ : wp K_X6_init d Q 54 [some (4, (p0 : Int))] [(0, 4), (4, (p0 : Int))] _ _ _)
  refine wp_arr (ty := 0) (n := 2) (len := 4) rfl rfl (fun _ _ _ => rfl) (by omega) (by omega) (by omega) ?_
  show wp K_X6_init d Q 56 [some (4, (p0 : Int))] [(4, ((G.length : Nat) : Int)), (4, (p0 : Int))] _ _ _
  obtain ⟨s1, w⟩ := w
  refine wp_putA (k := 7) rfl rfl rfl s1 rfl rfl rfl (?_ : wp K_X6_init d Q 59 [some (4, (p0 : Int))] [] _ _ _)
  exact wp_wk (wk_s wk_0) w

theorem t_X6_init_59 {d : Nat} {Q : gQ} {p0 : Nat} {G : List gS} {R V : gV} (w : (((G ++ [gA 0 120])[p0]? = some (gO 6)) ∧ wp K_X6_init d Q 67 [some (4, (p0 : Int))] [] (G ++ [gA 0 120]) (wr R p0 8 ((G.length : Nat) : Int)) V)) : wp K_X6_init d Q 59 [some (4, (p0 : Int))] [] G R V := by
  refine wp_ld (i := (.aload_n 0)) (4, (p0 : Int)) rfl rfl (fun _ => rfl) rfl rfl (?_ : wp K_X6_init d Q 60 [some (4, (p0 : Int))] [(4, (p0 : Int))] _ _ _)
  refine wp_p (i := (.bipush 120)) rfl rfl (fun _ _ _ => rfl) (?_ : wp K_X6_init d Q 62 [some (4, (p0 : Int))] [(0, 120), (4, (p0 : Int))] _ _ _)
  refine wp_arr (ty := 0) (n := 2) (len := 120) rfl rfl (fun _ _ _ => rfl) (by omega) (by omega) (by omega) ?_
  show wp K_X6_init d Q 64 [some (4, (p0 : Int))] [(4, ((G.length : Nat) : Int)), (4, (p0 : Int))] _ _ _
  obtain ⟨s1, w⟩ := w
  refine wp_putA (k := 8) rfl rfl rfl s1 rfl rfl rfl (?_ : wp K_X6_init d Q 67 [some (4, (p0 : Int))] [] _ _ _)
  exact wp_wk (wk_s wk_0) w

theorem t_X6_init_67 {d : Nat} {Q : gQ} {p0 : Nat} {G : List gS} {R V : gV} (w : (((G ++ [gA 2 120])[p0]? = some (gO 6)) ∧ wp K_X6_init d Q 75 [some (4, (p0 : Int))] [] (G ++ [gA 2 120]) (wr R p0 9 ((G.length : Nat) : Int)) V)) : wp K_X6_init d Q 67 [some (4, (p0 : Int))] [] G R V := by
  refine wp_ld (i := (.aload_n 0)) (4, (p0 : Int)) rfl rfl (fun _ => rfl) rfl rfl (?_ : wp K_X6_init d Q 68 [some (4, (p0 : Int))] [(4, (p0 : Int))] _ _ _)
  refine wp_p (i := (.bipush 120)) rfl rfl (fun _ _ _ => rfl) (?_ : wp K_X6_init d Q 70 [some (4, (p0 : Int))] [(0, 120), (4, (p0 : Int))] _ _ _)
  refine wp_arr (ty := 2) (n := 2) (len := 120) rfl rfl (fun _ _ _ => rfl) (by omega) (by omega) (by omega) ?_
  show wp K_X6_init d Q 72 [some (4, (p0 : Int))] [(4, ((G.length : Nat) : Int)), (4, (p0 : Int))] _ _ _
  obtain ⟨s1, w⟩ := w
  refine wp_putA (k := 9) rfl rfl rfl s1 rfl rfl rfl (?_ : wp K_X6_init d Q 75 [some (4, (p0 : Int))] [] _ _ _)
  exact wp_wk (wk_s wk_0) w

theorem t_X6_init_75 {d : Nat} {Q : gQ} {p0 : Nat} {G : List gS} {R V : gV} (w : (((G ++ [gA 0 1])[p0]? = some (gO 6)) ∧ wp K_X6_init d Q 82 [some (4, (p0 : Int))] [] (G ++ [gA 0 1]) (wr R p0 10 ((G.length : Nat) : Int)) V)) : wp K_X6_init d Q 75 [some (4, (p0 : Int))] [] G R V := by
  refine wp_ld (i := (.aload_n 0)) (4, (p0 : Int)) rfl rfl (fun _ => rfl) rfl rfl (?_ : wp K_X6_init d Q 76 [some (4, (p0 : Int))] [(4, (p0 : Int))] _ _ _)
  refine wp_p (i := (.iconst 1)) rfl rfl (fun _ _ _ => rfl) (?_ : wp K_X6_init d Q 77 [some (4, (p0 : Int))] [(0, 1), (4, (p0 : Int))] _ _ _)
  refine wp_arr (ty := 0) (n := 2) (len := 1) rfl rfl (fun _ _ _ => rfl) (by omega) (by omega) (by omega) ?_
  show wp K_X6_init d Q 79 [some (4, (p0 : Int))] [(4, ((G.length : Nat) : Int)), (4, (p0 : Int))] _ _ _
  obtain ⟨s1, w⟩ := w
  refine wp_putA (k := 10) rfl rfl rfl s1 rfl rfl rfl (?_ : wp K_X6_init d Q 82 [some (4, (p0 : Int))] [] _ _ _)
  exact wp_wk (wk_s wk_0) w

theorem t_X6_init_82 {d : Nat} {Q : gQ} {p0 : Nat} {G : List gS} {R V : gV} (w : ((G[p0]? = some (gO 6)) ∧ (∃ b2 : Nat, (R p0 3 = (b2 : Int)) ∧ (∃ n3_ : Nat, (G[b2]? = some (gA 0 n3_)) ∧ (((0 : Int) ≤ 0 ∧ 0 < (n3_ : Int)) ∧ (∃ b5 : Nat, (R p0 5 = (b5 : Int)) ∧ (∃ n6_ : Nat, (G[b5]? = some (gA 0 n6_)) ∧ (((0 : Int) ≤ 0 ∧ 0 < (n6_ : Int)) ∧ Q none G R (wr (wr V b2 0 342391) b5 0 1))))))))) : wp K_X6_init d Q 82 [some (4, (p0 : Int))] [] G R V := by
  refine wp_ld (i := (.aload_n 0)) (4, (p0 : Int)) rfl rfl (fun _ => rfl) rfl rfl (?_ : wp K_X6_init d Q 83 [some (4, (p0 : Int))] [(4, (p0 : Int))] _ _ _)
  obtain ⟨s1, w⟩ := w
  obtain ⟨b2, r2, w⟩ := w
  refine wp_getA (k := 3) rfl rfl rfl s1 rfl rfl r2 (?_ : wp K_X6_init d Q 86 [some (4, (p0 : Int))] [(4, (b2 : Int))] _ _ _)
  refine wp_p (i := (.iconst 0)) rfl rfl (fun _ _ _ => rfl) (?_ : wp K_X6_init d Q 87 [some (4, (p0 : Int))] [(0, 0), (4, (b2 : Int))] _ _ _)
  refine wp_p (i := (.ldc 47)) rfl rfl (fun _ _ _ => rfl) (?_ : wp K_X6_init d Q 89 [some (4, (p0 : Int))] [(0, 342391), (0, 0), (4, (b2 : Int))] _ _ _)
  obtain ⟨n3_, g3_, w⟩ := w
  obtain ⟨s4, w⟩ := w
  refine wp_sI rfl rfl g3_ s4 ⟨by omega, by omega⟩ (?_ : wp K_X6_init d Q 90 [some (4, (p0 : Int))] [] _ _ _)
  refine wp_ld (i := (.aload_n 0)) (4, (p0 : Int)) rfl rfl (fun _ => rfl) rfl rfl (?_ : wp K_X6_init d Q 91 [some (4, (p0 : Int))] [(4, (p0 : Int))] _ _ _)
  obtain ⟨b5, r5, w⟩ := w
  refine wp_getA (k := 5) rfl rfl rfl s1 rfl rfl r5 (?_ : wp K_X6_init d Q 94 [some (4, (p0 : Int))] [(4, (b5 : Int))] _ _ _)
  refine wp_p (i := (.iconst 0)) rfl rfl (fun _ _ _ => rfl) (?_ : wp K_X6_init d Q 95 [some (4, (p0 : Int))] [(0, 0), (4, (b5 : Int))] _ _ _)
  refine wp_p (i := (.iconst 1)) rfl rfl (fun _ _ _ => rfl) (?_ : wp K_X6_init d Q 96 [some (4, (p0 : Int))] [(0, 1), (0, 0), (4, (b5 : Int))] _ _ _)
  obtain ⟨n6_, g6_, w⟩ := w
  obtain ⟨s7, w⟩ := w
  refine wp_sI rfl rfl g6_ s7 ⟨by omega, by omega⟩ (?_ : wp K_X6_init d Q 97 [some (4, (p0 : Int))] [] _ _ _)
  exact wp_g0 rfl rfl rfl w

theorem t_X4_init_0 {d : Nat} {Q : gQ} {p0 : Nat} {G : List gS} {R V : gV} (w : ((G[p0]? = some (gO 4)) ∧ wp K_X4_init d Q 9 [some (4, (p0 : Int))] [] G R (wr V p0 0 1))) : wp K_X4_init d Q 0 [some (4, (p0 : Int))] [] G R V := by
  refine wp_ld (i := (.aload_n 0)) (4, (p0 : Int)) rfl rfl (fun _ => rfl) rfl rfl (?_ : wp K_X4_init d Q 1 [some (4, (p0 : Int))] [(4, (p0 : Int))] _ _ _)
  refine wp_obj rfl rfl rfl (Nat.le_of_ble_eq_true rfl) (?_ : wp K_X4_init d Q 4 [some (4, (p0 : Int))] [] _ _ _)
  refine wp_ld (i := (.aload_n 0)) (4, (p0 : Int)) rfl rfl (fun _ => rfl) rfl rfl (?_ : wp K_X4_init d Q 5 [some (4, (p0 : Int))] [(4, (p0 : Int))] _ _ _)
  refine wp_p (i := (.iconst 1)) rfl rfl (fun _ _ _ => rfl) (?_ : wp K_X4_init d Q 6 [some (4, (p0 : Int))] [(0, 1), (4, (p0 : Int))] _ _ _)
  obtain ⟨s1, w⟩ := w
  refine wp_putI (k := 0) rfl rfl rfl s1 rfl rfl rfl ⟨by omega, by omega⟩ (?_ : wp K_X4_init d Q 9 [some (4, (p0 : Int))] [] _ _ _)
  exact wp_wk (wk_s wk_0) w

theorem t_X4_init_9 {d : Nat} {Q : gQ} {p0 : Nat} {G : List gS} {R V : gV} (w : ((G[p0]? = some (gO 4)) ∧ wp K_X4_init d Q 14 [some (4, (p0 : Int))] [] G R (wr V p0 1 1))) : wp K_X4_init d Q 9 [some (4, (p0 : Int))] [] G R V := by
  refine wp_ld (i := (.aload_n 0)) (4, (p0 : Int)) rfl rfl (fun _ => rfl) rfl rfl (?_ : wp K_X4_init d Q 10 [some (4, (p0 : Int))] [(4, (p0 : Int))] _ _ _)
  refine wp_p (i := (.iconst 1)) rfl rfl (fun _ _ _ => rfl) (?_ : wp K_X4_init d Q 11 [some (4, (p0 : Int))] [(0, 1), (4, (p0 : Int))] _ _ _)
  obtain ⟨s1, w⟩ := w
  refine wp_putI (k := 1) rfl rfl rfl s1 rfl rfl rfl ⟨by omega, by omega⟩ (?_ : wp K_X4_init d Q 14 [some (4, (p0 : Int))] [] _ _ _)
  exact wp_wk (wk_s wk_0) w

theorem t_X4_init_14 {d : Nat} {Q : gQ} {p0 : Nat} {G : List gS} {R V : gV} (w : (((G ++ [gA 1 300])[p0]? = some (gO 4)) ∧ wp K_X4_init d Q 23 [some (4, (p0 : Int))] [] (G ++ [gA 1 300]) (wr R p0 2 ((G.length : Nat) : Int)) V)) : wp K_X4_init d Q 14 [some (4, (p0 : Int))] [] G R V := by
  refine wp_ld (i := (.aload_n 0)) (4, (p0 : Int)) rfl rfl (fun _ => rfl) rfl rfl (?_ : wp K_X4_init d Q 15 [some (4, (p0 : Int))] [(4, (p0 : Int))] _ _ _)
  refine wp_p (i := (.sipush 300)) rfl rfl (fun _ _ _ => rfl) (?_ : wp K_X4_init d Q 18 [some (4, (p0 : Int))] [(0, 300), (4, (p0 : Int))] _ _ _)
  refine wp_arr (ty := 1) (n := 2) (len := 300) rfl rfl (fun _ _ _ => rfl) (by omega) (by omega) (by omega) ?_
  show wp K_X4_init d Q 20 [some (4, (p0 : Int))] [(4, ((G.length : Nat) : Int)), (4, (p0 : Int))] _ _ _
  obtain ⟨s1, w⟩ := w
  refine wp_putA (k := 2) rfl rfl rfl s1 rfl rfl rfl (?_ : wp K_X4_init d Q 23 [some (4, (p0 : Int))] [] _ _ _)
  exact wp_wk (wk_s wk_0) w

theorem t_X4_init_23 {d : Nat} {Q : gQ} {p0 : Nat} {G : List gS} {R V : gV} (w : (((G ++ [gA 1 300])[p0]? = some (gO 4)) ∧ wp K_X4_init d Q 32 [some (4, (p0 : Int))] [] (G ++ [gA 1 300]) (wr R p0 3 ((G.length : Nat) : Int)) V)) : wp K_X4_init d Q 23 [some (4, (p0 : Int))] [] G R V := by
  refine wp_ld (i := (.aload_n 0)) (4, (p0 : Int)) rfl rfl (fun _ => rfl) rfl rfl (?_ : wp K_X4_init d Q 24 [some (4, (p0 : Int))] [(4, (p0 : Int))] _ _ _)
  refine wp_p (i := (.sipush 300)) rfl rfl (fun _ _ _ => rfl) (?_ : wp K_X4_init d Q 27 [some (4, (p0 : Int))] [(0, 300), (4, (p0 : Int))] _ _ _)
  refine wp_arr (ty := 1) (n := 2) (len := 300) rfl rfl (fun _ _ _ => rfl) (by omega) (by omega) (by omega) ?_
  show wp K_X4_init d Q 29 [some (4, (p0 : Int))] [(4, ((G.length : Nat) : Int)), (4, (p0 : Int))] _ _ _
  obtain ⟨s1, w⟩ := w
  refine wp_putA (k := 3) rfl rfl rfl s1 rfl rfl rfl (?_ : wp K_X4_init d Q 32 [some (4, (p0 : Int))] [] _ _ _)
  exact wp_wk (wk_s wk_0) w

theorem t_X4_init_32 {d : Nat} {Q : gQ} {p0 : Nat} {G : List gS} {R V : gV} (w : (((G ++ [gA 0 300])[p0]? = some (gO 4)) ∧ wp K_X4_init d Q 41 [some (4, (p0 : Int))] [] (G ++ [gA 0 300]) (wr R p0 4 ((G.length : Nat) : Int)) V)) : wp K_X4_init d Q 32 [some (4, (p0 : Int))] [] G R V := by
  refine wp_ld (i := (.aload_n 0)) (4, (p0 : Int)) rfl rfl (fun _ => rfl) rfl rfl (?_ : wp K_X4_init d Q 33 [some (4, (p0 : Int))] [(4, (p0 : Int))] _ _ _)
  refine wp_p (i := (.sipush 300)) rfl rfl (fun _ _ _ => rfl) (?_ : wp K_X4_init d Q 36 [some (4, (p0 : Int))] [(0, 300), (4, (p0 : Int))] _ _ _)
  refine wp_arr (ty := 0) (n := 2) (len := 300) rfl rfl (fun _ _ _ => rfl) (by omega) (by omega) (by omega) ?_
  show wp K_X4_init d Q 38 [some (4, (p0 : Int))] [(4, ((G.length : Nat) : Int)), (4, (p0 : Int))] _ _ _
  obtain ⟨s1, w⟩ := w
  refine wp_putA (k := 4) rfl rfl rfl s1 rfl rfl rfl (?_ : wp K_X4_init d Q 41 [some (4, (p0 : Int))] [] _ _ _)
  exact wp_wk (wk_s wk_0) w

theorem t_X4_init_41 {d : Nat} {Q : gQ} {p0 : Nat} {G : List gS} {R V : gV} (w : (((G ++ [gA 0 300])[p0]? = some (gO 4)) ∧ wp K_X4_init d Q 50 [some (4, (p0 : Int))] [] (G ++ [gA 0 300]) (wr R p0 5 ((G.length : Nat) : Int)) V)) : wp K_X4_init d Q 41 [some (4, (p0 : Int))] [] G R V := by
  refine wp_ld (i := (.aload_n 0)) (4, (p0 : Int)) rfl rfl (fun _ => rfl) rfl rfl (?_ : wp K_X4_init d Q 42 [some (4, (p0 : Int))] [(4, (p0 : Int))] _ _ _)
  refine wp_p (i := (.sipush 300)) rfl rfl (fun _ _ _ => rfl) (?_ : wp K_X4_init d Q 45 [some (4, (p0 : Int))] [(0, 300), (4, (p0 : Int))] _ _ _)
  refine wp_arr (ty := 0) (n := 2) (len := 300) rfl rfl (fun _ _ _ => rfl) (by omega) (by omega) (by omega) ?_
  show wp K_X4_init d Q 47 [some (4, (p0 : Int))] [(4, ((G.length : Nat) : Int)), (4, (p0 : Int))] _ _ _
  obtain ⟨s1, w⟩ := w
  refine wp_putA (k := 5) rfl rfl rfl s1 rfl rfl rfl (?_ : wp K_X4_init d Q 50 [some (4, (p0 : Int))] [] _ _ _)
  exact wp_wk (wk_s wk_0) w

theorem t_X4_init_50 {d : Nat} {Q : gQ} {p0 : Nat} {G : List gS} {R V : gV} (w : (((G ++ [gA 0 120])[p0]? = some (gO 4)) ∧ wp K_X4_init d Q 58 [some (4, (p0 : Int))] [] (G ++ [gA 0 120]) (wr R p0 6 ((G.length : Nat) : Int)) V)) : wp K_X4_init d Q 50 [some (4, (p0 : Int))] [] G R V := by
  refine wp_ld (i := (.aload_n 0)) (4, (p0 : Int)) rfl rfl (fun _ => rfl) rfl rfl (?_ : wp K_X4_init d Q 51 [some (4, (p0 : Int))] [(4, (p0 : Int))] _ _ _)
  refine wp_p (i := (.bipush 120)) rfl rfl (fun _ _ _ => rfl) (?_ : wp K_X4_init d Q 53 [some (4, (p0 : Int))] [(0, 120), (4, (p0 : Int))] _ _ _)
  refine wp_arr (ty := 0) (n := 2) (len := 120) rfl rfl (fun _ _ _ => rfl) (by omega) (by omega) (by omega) ?_
  show wp K_X4_init d Q 55 [some (4, (p0 : Int))] [(4, ((G.length : Nat) : Int)), (4, (p0 : Int))] _ _ _
  obtain ⟨s1, w⟩ := w
  refine wp_putA (k := 6) rfl rfl rfl s1 rfl rfl rfl (?_ : wp K_X4_init d Q 58 [some (4, (p0 : Int))] [] _ _ _)
  exact wp_wk (wk_s wk_0) w

theorem t_X4_init_58 {d : Nat} {Q : gQ} {p0 : Nat} {G : List gS} {R V : gV} (w : (((G ++ [gA 0 300])[p0]? = some (gO 4)) ∧ wp K_X4_init d Q 67 [some (4, (p0 : Int))] [] (G ++ [gA 0 300]) (wr R p0 7 ((G.length : Nat) : Int)) V)) : wp K_X4_init d Q 58 [some (4, (p0 : Int))] [] G R V := by
  refine wp_ld (i := (.aload_n 0)) (4, (p0 : Int)) rfl rfl (fun _ => rfl) rfl rfl (?_ : wp K_X4_init d Q 59 [some (4, (p0 : Int))] [(4, (p0 : Int))] _ _ _)
  refine wp_p (i := (.sipush 300)) rfl rfl (fun _ _ _ => rfl) (?_ : wp K_X4_init d Q 62 [some (4, (p0 : Int))] [(0, 300), (4, (p0 : Int))] _ _ _)
  refine wp_arr (ty := 0) (n := 2) (len := 300) rfl rfl (fun _ _ _ => rfl) (by omega) (by omega) (by omega) ?_
  show wp K_X4_init d Q 64 [some (4, (p0 : Int))] [(4, ((G.length : Nat) : Int)), (4, (p0 : Int))] _ _ _
  obtain ⟨s1, w⟩ := w
  refine wp_putA (k := 7) rfl rfl rfl s1 rfl rfl rfl (?_ : wp K_X4_init d Q 67 [some (4, (p0 : Int))] [] _ _ _)
  exact wp_wk (wk_s wk_0) w

theorem t_X4_init_67 {d : Nat} {Q : gQ} {p0 : Nat} {G : List gS} {R V : gV} (w : (((G ++ [gA 0 300])[p0]? = some (gO 4)) ∧ wp K_X4_init d Q 76 [some (4, (p0 : Int))] [] (G ++ [gA 0 300]) (wr R p0 8 ((G.length : Nat) : Int)) V)) : wp K_X4_init d Q 67 [some (4, (p0 : Int))] [] G R V := by
  refine wp_ld (i := (.aload_n 0)) (4, (p0 : Int)) rfl rfl (fun _ => rfl) rfl rfl (?_ : wp K_X4_init d Q 68 [some (4, (p0 : Int))] [(4, (p0 : Int))] _ _ _)
  refine wp_p (i := (.sipush 300)) rfl rfl (fun _ _ _ => rfl) (?_ : wp K_X4_init d Q 71 [some (4, (p0 : Int))] [(0, 300), (4, (p0 : Int))] _ _ _)
  refine wp_arr (ty := 0) (n := 2) (len := 300) rfl rfl (fun _ _ _ => rfl) (by omega) (by omega) (by omega) ?_
  show wp K_X4_init d Q 73 [some (4, (p0 : Int))] [(4, ((G.length : Nat) : Int)), (4, (p0 : Int))] _ _ _
  obtain ⟨s1, w⟩ := w
  refine wp_putA (k := 8) rfl rfl rfl s1 rfl rfl rfl (?_ : wp K_X4_init d Q 76 [some (4, (p0 : Int))] [] _ _ _)
  exact wp_wk (wk_s wk_0) w

theorem t_X4_init_76 {d : Nat} {Q : gQ} {p0 : Nat} {G : List gS} {R V : gV} (w : (((G ++ [gA 0 300])[p0]? = some (gO 4)) ∧ wp K_X4_init d Q 85 [some (4, (p0 : Int))] [] (G ++ [gA 0 300]) (wr R p0 9 ((G.length : Nat) : Int)) V)) : wp K_X4_init d Q 76 [some (4, (p0 : Int))] [] G R V := by
  refine wp_ld (i := (.aload_n 0)) (4, (p0 : Int)) rfl rfl (fun _ => rfl) rfl rfl (?_ : wp K_X4_init d Q 77 [some (4, (p0 : Int))] [(4, (p0 : Int))] _ _ _)
  refine wp_p (i := (.sipush 300)) rfl rfl (fun _ _ _ => rfl) (?_ : wp K_X4_init d Q 80 [some (4, (p0 : Int))] [(0, 300), (4, (p0 : Int))] _ _ _)
  refine wp_arr (ty := 0) (n := 2) (len := 300) rfl rfl (fun _ _ _ => rfl) (by omega) (by omega) (by omega) ?_
  show wp K_X4_init d Q 82 [some (4, (p0 : Int))] [(4, ((G.length : Nat) : Int)), (4, (p0 : Int))] _ _ _
  obtain ⟨s1, w⟩ := w
  refine wp_putA (k := 9) rfl rfl rfl s1 rfl rfl rfl (?_ : wp K_X4_init d Q 85 [some (4, (p0 : Int))] [] _ _ _)
  exact wp_wk (wk_s wk_0) w

theorem t_X4_init_85 {d : Nat} {Q : gQ} {p0 : Nat} {G : List gS} {R V : gV} (w : (((G ++ [gA 0 300])[p0]? = some (gO 4)) ∧ wp K_X4_init d Q 94 [some (4, (p0 : Int))] [] (G ++ [gA 0 300]) (wr R p0 10 ((G.length : Nat) : Int)) V)) : wp K_X4_init d Q 85 [some (4, (p0 : Int))] [] G R V := by
  refine wp_ld (i := (.aload_n 0)) (4, (p0 : Int)) rfl rfl (fun _ => rfl) rfl rfl (?_ : wp K_X4_init d Q 86 [some (4, (p0 : Int))] [(4, (p0 : Int))] _ _ _)
  refine wp_p (i := (.sipush 300)) rfl rfl (fun _ _ _ => rfl) (?_ : wp K_X4_init d Q 89 [some (4, (p0 : Int))] [(0, 300), (4, (p0 : Int))] _ _ _)
  refine wp_arr (ty := 0) (n := 2) (len := 300) rfl rfl (fun _ _ _ => rfl) (by omega) (by omega) (by omega) ?_
  show wp K_X4_init d Q 91 [some (4, (p0 : Int))] [(4, ((G.length : Nat) : Int)), (4, (p0 : Int))] _ _ _
  obtain ⟨s1, w⟩ := w
  refine wp_putA (k := 10) rfl rfl rfl s1 rfl rfl rfl (?_ : wp K_X4_init d Q 94 [some (4, (p0 : Int))] [] _ _ _)
  exact wp_wk (wk_s wk_0) w

theorem t_X4_init_94 {d : Nat} {Q : gQ} {p0 : Nat} {G : List gS} {R V : gV} (w : (((G ++ [gA 0 300])[p0]? = some (gO 4)) ∧ wp K_X4_init d Q 103 [some (4, (p0 : Int))] [] (G ++ [gA 0 300]) (wr R p0 11 ((G.length : Nat) : Int)) V)) : wp K_X4_init d Q 94 [some (4, (p0 : Int))] [] G R V := by
  refine wp_ld (i := (.aload_n 0)) (4, (p0 : Int)) rfl rfl (fun _ => rfl) rfl rfl (?_ : wp K_X4_init d Q 95 [some (4, (p0 : Int))] [(4, (p0 : Int))] _ _ _)
  refine wp_p (i := (.sipush 300)) rfl rfl (fun _ _ _ => rfl) (?_ : wp K_X4_init d Q 98 [some (4, (p0 : Int))] [(0, 300), (4, (p0 : Int))] _ _ _)
  refine wp_arr (ty := 0) (n := 2) (len := 300) rfl rfl (fun _ _ _ => rfl) (by omega) (by omega) (by omega) ?_
  show wp K_X4_init d Q 100 [some (4, (p0 : Int))] [(4, ((G.length : Nat) : Int)), (4, (p0 : Int))] _ _ _
  obtain ⟨s1, w⟩ := w
  refine wp_putA (k := 11) rfl rfl rfl s1 rfl rfl rfl (?_ : wp K_X4_init d Q 103 [some (4, (p0 : Int))] [] _ _ _)
  exact wp_wk (wk_s wk_0) w

theorem t_X4_init_103 {d : Nat} {Q : gQ} {p0 : Nat} {G : List gS} {R V : gV} (w : (((G ++ [gA 0 300])[p0]? = some (gO 4)) ∧ wp K_X4_init d Q 112 [some (4, (p0 : Int))] [] (G ++ [gA 0 300]) (wr R p0 12 ((G.length : Nat) : Int)) V)) : wp K_X4_init d Q 103 [some (4, (p0 : Int))] [] G R V := by
  refine wp_ld (i := (.aload_n 0)) (4, (p0 : Int)) rfl rfl (fun _ => rfl) rfl rfl (?_ : wp K_X4_init d Q 104 [some (4, (p0 : Int))] [(4, (p0 : Int))] _ _ _)
  refine wp_p (i := (.sipush 300)) rfl rfl (fun _ _ _ => rfl) (?_ : wp K_X4_init d Q 107 [some (4, (p0 : Int))] [(0, 300), (4, (p0 : Int))] _ _ _)
  refine wp_arr (ty := 0) (n := 2) (len := 300) rfl rfl (fun _ _ _ => rfl) (by omega) (by omega) (by omega) ?_
  show wp K_X4_init d Q 109 [some (4, (p0 : Int))] [(4, ((G.length : Nat) : Int)), (4, (p0 : Int))] _ _ _
  obtain ⟨s1, w⟩ := w
  refine wp_putA (k := 12) rfl rfl rfl s1 rfl rfl rfl (?_ : wp K_X4_init d Q 112 [some (4, (p0 : Int))] [] _ _ _)
  exact wp_wk (wk_s wk_0) w

theorem t_X4_init_112 {d : Nat} {Q : gQ} {p0 : Nat} {G : List gS} {R V : gV} (w : (((G ++ [gA 0 1])[p0]? = some (gO 4)) ∧ wp K_X4_init d Q 119 [some (4, (p0 : Int))] [] (G ++ [gA 0 1]) (wr R p0 13 ((G.length : Nat) : Int)) V)) : wp K_X4_init d Q 112 [some (4, (p0 : Int))] [] G R V := by
  refine wp_ld (i := (.aload_n 0)) (4, (p0 : Int)) rfl rfl (fun _ => rfl) rfl rfl (?_ : wp K_X4_init d Q 113 [some (4, (p0 : Int))] [(4, (p0 : Int))] _ _ _)
  refine wp_p (i := (.iconst 1)) rfl rfl (fun _ _ _ => rfl) (?_ : wp K_X4_init d Q 114 [some (4, (p0 : Int))] [(0, 1), (4, (p0 : Int))] _ _ _)
  refine wp_arr (ty := 0) (n := 2) (len := 1) rfl rfl (fun _ _ _ => rfl) (by omega) (by omega) (by omega) ?_
  show wp K_X4_init d Q 116 [some (4, (p0 : Int))] [(4, ((G.length : Nat) : Int)), (4, (p0 : Int))] _ _ _
  obtain ⟨s1, w⟩ := w
  refine wp_putA (k := 13) rfl rfl rfl s1 rfl rfl rfl (?_ : wp K_X4_init d Q 119 [some (4, (p0 : Int))] [] _ _ _)
  exact wp_wk (wk_s wk_0) w

theorem t_X4_init_119 {d : Nat} {Q : gQ} {p0 : Nat} {G : List gS} {R V : gV} (w : ((G[p0]? = some (gO 4)) ∧ (∃ b2 : Nat, (R p0 2 = (b2 : Int)) ∧ (∃ n3_ : Nat, (G[b2]? = some (gA 1 n3_)) ∧ (((0 : Int) ≤ 0 ∧ 0 < (n3_ : Int)) ∧ (∃ b5 : Nat, (R p0 4 = (b5 : Int)) ∧ (∃ n6_ : Nat, (G[b5]? = some (gA 0 n6_)) ∧ (((0 : Int) ≤ 0 ∧ 0 < (n6_ : Int)) ∧ (∃ b8 : Nat, (R p0 9 = (b8 : Int)) ∧ (∃ n9_ : Nat, (G[b8]? = some (gA 0 n9_)) ∧ (((0 : Int) ≤ 0 ∧ 0 < (n9_ : Int)) ∧ (∃ b11 : Nat, (R p0 10 = (b11 : Int)) ∧ (∃ n12_ : Nat, (G[b11]? = some (gA 0 n12_)) ∧ (((0 : Int) ≤ 0 ∧ 0 < (n12_ : Int)) ∧ (∃ b14 : Nat, (R p0 11 = (b14 : Int)) ∧ (∃ n15_ : Nat, (G[b14]? = some (gA 0 n15_)) ∧ (((0 : Int) ≤ 0 ∧ 0 < (n15_ : Int)) ∧ (∃ b17 : Nat, (R p0 13 = (b17 : Int)) ∧ (∃ n18_ : Nat, (G[b17]? = some (gA 0 n18_)) ∧ (((0 : Int) ≤ 0 ∧ 0 < (n18_ : Int)) ∧ Q none G R (wr (wr (wr (wr (wr (wr V b2 0 1) b5 0 1) b8 0 1) b11 0 1) b14 0 1) b17 0 1))))))))))))))))))))) : wp K_X4_init d Q 119 [some (4, (p0 : Int))] [] G R V := by
  refine wp_ld (i := (.aload_n 0)) (4, (p0 : Int)) rfl rfl (fun _ => rfl) rfl rfl (?_ : wp K_X4_init d Q 120 [some (4, (p0 : Int))] [(4, (p0 : Int))] _ _ _)
  obtain ⟨s1, w⟩ := w
  obtain ⟨b2, r2, w⟩ := w
  refine wp_getA (k := 2) rfl rfl rfl s1 rfl rfl r2 (?_ : wp K_X4_init d Q 123 [some (4, (p0 : Int))] [(4, (b2 : Int))] _ _ _)
  refine wp_p (i := (.iconst 0)) rfl rfl (fun _ _ _ => rfl) (?_ : wp K_X4_init d Q 124 [some (4, (p0 : Int))] [(0, 0), (4, (b2 : Int))] _ _ _)
  refine wp_p (i := (.lconst 1)) rfl rfl (fun _ _ _ => rfl) (?_ : wp K_X4_init d Q 125 [some (4, (p0 : Int))] [(2, 1), (0, 0), (4, (b2 : Int))] _ _ _)
  obtain ⟨n3_, g3_, w⟩ := w
  obtain ⟨s4, w⟩ := w
  refine wp_sJ rfl rfl g3_ s4 ⟨by omega, by omega⟩ (?_ : wp K_X4_init d Q 126 [some (4, (p0 : Int))] [] _ _ _)
  refine wp_ld (i := (.aload_n 0)) (4, (p0 : Int)) rfl rfl (fun _ => rfl) rfl rfl (?_ : wp K_X4_init d Q 127 [some (4, (p0 : Int))] [(4, (p0 : Int))] _ _ _)
  obtain ⟨b5, r5, w⟩ := w
  refine wp_getA (k := 4) rfl rfl rfl s1 rfl rfl r5 (?_ : wp K_X4_init d Q 130 [some (4, (p0 : Int))] [(4, (b5 : Int))] _ _ _)
  refine wp_p (i := (.iconst 0)) rfl rfl (fun _ _ _ => rfl) (?_ : wp K_X4_init d Q 131 [some (4, (p0 : Int))] [(0, 0), (4, (b5 : Int))] _ _ _)
  refine wp_p (i := (.iconst 1)) rfl rfl (fun _ _ _ => rfl) (?_ : wp K_X4_init d Q 132 [some (4, (p0 : Int))] [(0, 1), (0, 0), (4, (b5 : Int))] _ _ _)
  obtain ⟨n6_, g6_, w⟩ := w
  obtain ⟨s7, w⟩ := w
  refine wp_sI rfl rfl g6_ s7 ⟨by omega, by omega⟩ (?_ : wp K_X4_init d Q 133 [some (4, (p0 : Int))] [] _ _ _)
  refine wp_ld (i := (.aload_n 0)) (4, (p0 : Int)) rfl rfl (fun _ => rfl) rfl rfl (?_ : wp K_X4_init d Q 134 [some (4, (p0 : Int))] [(4, (p0 : Int))] _ _ _)
  obtain ⟨b8, r8, w⟩ := w
  refine wp_getA (k := 9) rfl rfl rfl s1 rfl rfl r8 (?_ : wp K_X4_init d Q 137 [some (4, (p0 : Int))] [(4, (b8 : Int))] _ _ _)
  refine wp_p (i := (.iconst 0)) rfl rfl (fun _ _ _ => rfl) (?_ : wp K_X4_init d Q 138 [some (4, (p0 : Int))] [(0, 0), (4, (b8 : Int))] _ _ _)
  refine wp_p (i := (.iconst 1)) rfl rfl (fun _ _ _ => rfl) (?_ : wp K_X4_init d Q 139 [some (4, (p0 : Int))] [(0, 1), (0, 0), (4, (b8 : Int))] _ _ _)
  obtain ⟨n9_, g9_, w⟩ := w
  obtain ⟨s10, w⟩ := w
  refine wp_sI rfl rfl g9_ s10 ⟨by omega, by omega⟩ (?_ : wp K_X4_init d Q 140 [some (4, (p0 : Int))] [] _ _ _)
  refine wp_ld (i := (.aload_n 0)) (4, (p0 : Int)) rfl rfl (fun _ => rfl) rfl rfl (?_ : wp K_X4_init d Q 141 [some (4, (p0 : Int))] [(4, (p0 : Int))] _ _ _)
  obtain ⟨b11, r11, w⟩ := w
  refine wp_getA (k := 10) rfl rfl rfl s1 rfl rfl r11 (?_ : wp K_X4_init d Q 144 [some (4, (p0 : Int))] [(4, (b11 : Int))] _ _ _)
  refine wp_p (i := (.iconst 0)) rfl rfl (fun _ _ _ => rfl) (?_ : wp K_X4_init d Q 145 [some (4, (p0 : Int))] [(0, 0), (4, (b11 : Int))] _ _ _)
  refine wp_p (i := (.iconst 1)) rfl rfl (fun _ _ _ => rfl) (?_ : wp K_X4_init d Q 146 [some (4, (p0 : Int))] [(0, 1), (0, 0), (4, (b11 : Int))] _ _ _)
  obtain ⟨n12_, g12_, w⟩ := w
  obtain ⟨s13, w⟩ := w
  refine wp_sI rfl rfl g12_ s13 ⟨by omega, by omega⟩ (?_ : wp K_X4_init d Q 147 [some (4, (p0 : Int))] [] _ _ _)
  refine wp_ld (i := (.aload_n 0)) (4, (p0 : Int)) rfl rfl (fun _ => rfl) rfl rfl (?_ : wp K_X4_init d Q 148 [some (4, (p0 : Int))] [(4, (p0 : Int))] _ _ _)
  obtain ⟨b14, r14, w⟩ := w
  refine wp_getA (k := 11) rfl rfl rfl s1 rfl rfl r14 (?_ : wp K_X4_init d Q 151 [some (4, (p0 : Int))] [(4, (b14 : Int))] _ _ _)
  refine wp_p (i := (.iconst 0)) rfl rfl (fun _ _ _ => rfl) (?_ : wp K_X4_init d Q 152 [some (4, (p0 : Int))] [(0, 0), (4, (b14 : Int))] _ _ _)
  refine wp_p (i := (.iconst 1)) rfl rfl (fun _ _ _ => rfl) (?_ : wp K_X4_init d Q 153 [some (4, (p0 : Int))] [(0, 1), (0, 0), (4, (b14 : Int))] _ _ _)
  obtain ⟨n15_, g15_, w⟩ := w
  obtain ⟨s16, w⟩ := w
  refine wp_sI rfl rfl g15_ s16 ⟨by omega, by omega⟩ (?_ : wp K_X4_init d Q 154 [some (4, (p0 : Int))] [] _ _ _)
  refine wp_ld (i := (.aload_n 0)) (4, (p0 : Int)) rfl rfl (fun _ => rfl) rfl rfl (?_ : wp K_X4_init d Q 155 [some (4, (p0 : Int))] [(4, (p0 : Int))] _ _ _)
  obtain ⟨b17, r17, w⟩ := w
  refine wp_getA (k := 13) rfl rfl rfl s1 rfl rfl r17 (?_ : wp K_X4_init d Q 158 [some (4, (p0 : Int))] [(4, (b17 : Int))] _ _ _)
  refine wp_p (i := (.iconst 0)) rfl rfl (fun _ _ _ => rfl) (?_ : wp K_X4_init d Q 159 [some (4, (p0 : Int))] [(0, 0), (4, (b17 : Int))] _ _ _)
  refine wp_p (i := (.iconst 1)) rfl rfl (fun _ _ _ => rfl) (?_ : wp K_X4_init d Q 160 [some (4, (p0 : Int))] [(0, 1), (0, 0), (4, (b17 : Int))] _ _ _)
  obtain ⟨n18_, g18_, w⟩ := w
  obtain ⟨s19, w⟩ := w
  refine wp_sI rfl rfl g18_ s19 ⟨by omega, by omega⟩ (?_ : wp K_X4_init d Q 161 [some (4, (p0 : Int))] [] _ _ _)
  exact wp_g0 rfl rfl rfl w

theorem t_X8_init_0 {d : Nat} {Q : gQ} {p0 : Nat} {G : List gS} {R V : gV} (w : (((G ++ [gA 0 4])[p0]? = some (gO 8)) ∧ wp K_X8_init d Q 11 [some (4, (p0 : Int))] [] (G ++ [gA 0 4]) (wr R p0 1 ((G.length : Nat) : Int)) V)) : wp K_X8_init d Q 0 [some (4, (p0 : Int))] [] G R V := by
  refine wp_ld (i := (.aload_n 0)) (4, (p0 : Int)) rfl rfl (fun _ => rfl) rfl rfl (?_ : wp K_X8_init d Q 1 [some (4, (p0 : Int))] [(4, (p0 : Int))] _ _ _)
  refine wp_obj rfl rfl rfl (Nat.le_of_ble_eq_true rfl) (?_ : wp K_X8_init d Q 4 [some (4, (p0 : Int))] [] _ _ _)
  refine wp_ld (i := (.aload_n 0)) (4, (p0 : Int)) rfl rfl (fun _ => rfl) rfl rfl (?_ : wp K_X8_init d Q 5 [some (4, (p0 : Int))] [(4, (p0 : Int))] _ _ _)
  refine wp_p (i := (.iconst 4)) rfl rfl (fun _ _ _ => rfl) (?_ : wp K_X8_init d Q 6 [some (4, (p0 : Int))] [(0, 4), (4, (p0 : Int))] _ _ _)
  refine wp_arr (ty := 0) (n := 2) (len := 4) rfl rfl (fun _ _ _ => rfl) (by omega) (by omega) (by omega) ?_
  show wp K_X8_init d Q 8 [some (4, (p0 : Int))] [(4, ((G.length : Nat) : Int)), (4, (p0 : Int))] _ _ _
  obtain ⟨s1, w⟩ := w
  refine wp_putA (k := 1) rfl rfl rfl s1 rfl rfl rfl (?_ : wp K_X8_init d Q 11 [some (4, (p0 : Int))] [] _ _ _)
  exact wp_wk (wk_s wk_0) w

theorem t_X8_init_11 {d : Nat} {Q : gQ} {p0 : Nat} {G : List gS} {R V : gV} (w : (∃ n1_ : Nat, ((G ++ [gA 0 4])[G.length]? = some (gA 0 n1_)) ∧ (((0 : Int) ≤ 0 ∧ 0 < (n1_ : Int)) ∧ (((0 : Int) ≤ 1 ∧ 1 < (n1_ : Int)) ∧ (((0 : Int) ≤ 2 ∧ 2 < (n1_ : Int)) ∧ (((0 : Int) ≤ 3 ∧ 3 < (n1_ : Int)) ∧ (((G ++ [gA 0 4])[p0]? = some (gO 8)) ∧ wp K_X8_init d Q 34 [some (4, (p0 : Int))] [] (G ++ [gA 0 4]) (wr R p0 2 ((G.length : Nat) : Int)) (wr (wr (wr (wr V (G.length) 0 ((-1))) (G.length) 1 ((-1))) (G.length) 2 ((-1))) (G.length) 3 ((-1)))))))))) : wp K_X8_init d Q 11 [some (4, (p0 : Int))] [] G R V := by
  refine wp_ld (i := (.aload_n 0)) (4, (p0 : Int)) rfl rfl (fun _ => rfl) rfl rfl (?_ : wp K_X8_init d Q 12 [some (4, (p0 : Int))] [(4, (p0 : Int))] _ _ _)
  refine wp_p (i := (.iconst 4)) rfl rfl (fun _ _ _ => rfl) (?_ : wp K_X8_init d Q 13 [some (4, (p0 : Int))] [(0, 4), (4, (p0 : Int))] _ _ _)
  refine wp_arr (ty := 0) (n := 2) (len := 4) rfl rfl (fun _ _ _ => rfl) (by omega) (by omega) (by omega) ?_
  show wp K_X8_init d Q 15 [some (4, (p0 : Int))] [(4, ((G.length : Nat) : Int)), (4, (p0 : Int))] _ _ _
  refine wp_p (i := .dup) rfl rfl (fun _ _ _ => rfl) (?_ : wp K_X8_init d Q 16 [some (4, (p0 : Int))] [(4, ((G.length : Nat) : Int)), (4, ((G.length : Nat) : Int)), (4, (p0 : Int))] _ _ _)
  refine wp_p (i := (.iconst 0)) rfl rfl (fun _ _ _ => rfl) (?_ : wp K_X8_init d Q 17 [some (4, (p0 : Int))] [(0, 0), (4, ((G.length : Nat) : Int)), (4, ((G.length : Nat) : Int)), (4, (p0 : Int))] _ _ _)
  refine wp_p (i := (.iconst (-1))) rfl rfl (fun _ _ _ => rfl) (?_ : wp K_X8_init d Q 18 [some (4, (p0 : Int))] [(0, (-1)), (0, 0), (4, ((G.length : Nat) : Int)), (4, ((G.length : Nat) : Int)), (4, (p0 : Int))] _ _ _)
  obtain ⟨n1_, g1_, w⟩ := w
  obtain ⟨s2, w⟩ := w
  refine wp_sI rfl rfl g1_ s2 ⟨by omega, by omega⟩ (?_ : wp K_X8_init d Q 19 [some (4, (p0 : Int))] [(4, ((G.length : Nat) : Int)), (4, (p0 : Int))] _ _ _)
  refine wp_p (i := .dup) rfl rfl (fun _ _ _ => rfl) (?_ : wp K_X8_init d Q 20 [some (4, (p0 : Int))] [(4, ((G.length : Nat) : Int)), (4, ((G.length : Nat) : Int)), (4, (p0 : Int))] _ _ _)
  refine wp_p (i := (.iconst 1)) rfl rfl (fun _ _ _ => rfl) (?_ : wp K_X8_init d Q 21 [some (4, (p0 : Int))] [(0, 1), (4, ((G.length : Nat) : Int)), (4, ((G.length : Nat) : Int)), (4, (p0 : Int))] _ _ _)
  refine wp_p (i := (.iconst (-1))) rfl rfl (fun _ _ _ => rfl) (?_ : wp K_X8_init d Q 22 [some (4, (p0 : Int))] [(0, (-1)), (0, 1), (4, ((G.length : Nat) : Int)), (4, ((G.length : Nat) : Int)), (4, (p0 : Int))] _ _ _)
  obtain ⟨s3, w⟩ := w
  refine wp_sI rfl rfl g1_ s3 ⟨by omega, by omega⟩ (?_ : wp K_X8_init d Q 23 [some (4, (p0 : Int))] [(4, ((G.length : Nat) : Int)), (4, (p0 : Int))] _ _ _)
  refine wp_p (i := .dup) rfl rfl (fun _ _ _ => rfl) (?_ : wp K_X8_init d Q 24 [some (4, (p0 : Int))] [(4, ((G.length : Nat) : Int)), (4, ((G.length : Nat) : Int)), (4, (p0 : Int))] _ _ _)
  refine wp_p (i := (.iconst 2)) rfl rfl (fun _ _ _ => rfl) (?_ : wp K_X8_init d Q 25 [some (4, (p0 : Int))] [(0, 2), (4, ((G.length : Nat) : Int)), (4, ((G.length : Nat) : Int)), (4, (p0 : Int))] _ _ _)
  refine wp_p (i := (.iconst (-1))) rfl rfl (fun _ _ _ => rfl) (?_ : wp K_X8_init d Q 26 [some (4, (p0 : Int))] [(0, (-1)), (0, 2), (4, ((G.length : Nat) : Int)), (4, ((G.length : Nat) : Int)), (4, (p0 : Int))] _ _ _)
  obtain ⟨s4, w⟩ := w
  refine wp_sI rfl rfl g1_ s4 ⟨by omega, by omega⟩ (?_ : wp K_X8_init d Q 27 [some (4, (p0 : Int))] [(4, ((G.length : Nat) : Int)), (4, (p0 : Int))] _ _ _)
  refine wp_p (i := .dup) rfl rfl (fun _ _ _ => rfl) (?_ : wp K_X8_init d Q 28 [some (4, (p0 : Int))] [(4, ((G.length : Nat) : Int)), (4, ((G.length : Nat) : Int)), (4, (p0 : Int))] _ _ _)
  refine wp_p (i := (.iconst 3)) rfl rfl (fun _ _ _ => rfl) (?_ : wp K_X8_init d Q 29 [some (4, (p0 : Int))] [(0, 3), (4, ((G.length : Nat) : Int)), (4, ((G.length : Nat) : Int)), (4, (p0 : Int))] _ _ _)
  refine wp_p (i := (.iconst (-1))) rfl rfl (fun _ _ _ => rfl) (?_ : wp K_X8_init d Q 30 [some (4, (p0 : Int))] [(0, (-1)), (0, 3), (4, ((G.length : Nat) : Int)), (4, ((G.length : Nat) : Int)), (4, (p0 : Int))] _ _ _)
  obtain ⟨s5, w⟩ := w
  refine wp_sI rfl rfl g1_ s5 ⟨by omega, by omega⟩ (?_ : wp K_X8_init d Q 31 [some (4, (p0 : Int))] [(4, ((G.length : Nat) : Int)), (4, (p0 : Int))] _ _ _)
  obtain ⟨s6, w⟩ := w
  refine wp_putA (k := 2) rfl rfl rfl s6 rfl rfl rfl (?_ : wp K_X8_init d Q 34 [some (4, (p0 : Int))] [] _ _ _)
  exact wp_wk (wk_s wk_0) w

theorem t_X8_init_34 {d : Nat} {Q : gQ} {p0 : Nat} {G : List gS} {R V : gV} (w : (((G ++ [gA 0 32])[p0]? = some (gO 8)) ∧ wp K_X8_init d Q 42 [some (4, (p0 : Int))] [] (G ++ [gA 0 32]) (wr R p0 3 ((G.length : Nat) : Int)) V)) : wp K_X8_init d Q 34 [some (4, (p0 : Int))] [] G R V := by
  refine wp_ld (i := (.aload_n 0)) (4, (p0 : Int)) rfl rfl (fun _ => rfl) rfl rfl (?_ : wp K_X8_init d Q 35 [some (4, (p0 : Int))] [(4, (p0 : Int))] _ _ _)
  refine wp_p (i := (.bipush 32)) rfl rfl (fun _ _ _ => rfl) (?_ : wp K_X8_init d Q 37 [some (4, (p0 : Int))] [(0, 32), (4, (p0 : Int))] _ _ _)
  refine wp_arr (ty := 0) (n := 2) (len := 32) rfl rfl (fun _ _ _ => rfl) (by omega) (by omega) (by omega) ?_
  show wp K_X8_init d Q 39 [some (4, (p0 : Int))] [(4, ((G.length : Nat) : Int)), (4, (p0 : Int))] _ _ _
  obtain ⟨s1, w⟩ := w
  refine wp_putA (k := 3) rfl rfl rfl s1 rfl rfl rfl (?_ : wp K_X8_init d Q 42 [some (4, (p0 : Int))] [] _ _ _)
  exact wp_wk (wk_s wk_0) w

theorem t_X8_init_42 {d : Nat} {Q : gQ} {p0 : Nat} {G : List gS} {R V : gV} (w : ((G[p0]? = some (gO 8)) ∧ wp K_X8_init d Q 47 [some (4, (p0 : Int))] [] G R (wr V p0 4 1))) : wp K_X8_init d Q 42 [some (4, (p0 : Int))] [] G R V := by
  refine wp_ld (i := (.aload_n 0)) (4, (p0 : Int)) rfl rfl (fun _ => rfl) rfl rfl (?_ : wp K_X8_init d Q 43 [some (4, (p0 : Int))] [(4, (p0 : Int))] _ _ _)
  refine wp_p (i := (.iconst 1)) rfl rfl (fun _ _ _ => rfl) (?_ : wp K_X8_init d Q 44 [some (4, (p0 : Int))] [(0, 1), (4, (p0 : Int))] _ _ _)
  obtain ⟨s1, w⟩ := w
  refine wp_putI (k := 4) rfl rfl rfl s1 rfl rfl rfl ⟨by omega, by omega⟩ (?_ : wp K_X8_init d Q 47 [some (4, (p0 : Int))] [] _ _ _)
  exact wp_wk (wk_s wk_0) w

theorem t_X8_init_47 {d : Nat} {Q : gQ} {p0 : Nat} {G : List gS} {R V : gV} (w : ((G[p0]? = some (gO 8)) ∧ wp K_X8_init d Q 52 [some (4, (p0 : Int))] [] G R (wr V p0 5 1))) : wp K_X8_init d Q 47 [some (4, (p0 : Int))] [] G R V := by
  refine wp_ld (i := (.aload_n 0)) (4, (p0 : Int)) rfl rfl (fun _ => rfl) rfl rfl (?_ : wp K_X8_init d Q 48 [some (4, (p0 : Int))] [(4, (p0 : Int))] _ _ _)
  refine wp_p (i := (.iconst 1)) rfl rfl (fun _ _ _ => rfl) (?_ : wp K_X8_init d Q 49 [some (4, (p0 : Int))] [(0, 1), (4, (p0 : Int))] _ _ _)
  obtain ⟨s1, w⟩ := w
  refine wp_putI (k := 5) rfl rfl rfl s1 rfl rfl rfl ⟨by omega, by omega⟩ (?_ : wp K_X8_init d Q 52 [some (4, (p0 : Int))] [] _ _ _)
  exact wp_wk (wk_s wk_0) w

theorem t_X8_init_52 {d : Nat} {Q : gQ} {p0 : Nat} {G : List gS} {R V : gV} (w : (((G ++ [gA 0 960])[p0]? = some (gO 8)) ∧ wp K_X8_init d Q 61 [some (4, (p0 : Int))] [] (G ++ [gA 0 960]) (wr R p0 6 ((G.length : Nat) : Int)) V)) : wp K_X8_init d Q 52 [some (4, (p0 : Int))] [] G R V := by
  refine wp_ld (i := (.aload_n 0)) (4, (p0 : Int)) rfl rfl (fun _ => rfl) rfl rfl (?_ : wp K_X8_init d Q 53 [some (4, (p0 : Int))] [(4, (p0 : Int))] _ _ _)
  refine wp_p (i := (.sipush 960)) rfl rfl (fun _ _ _ => rfl) (?_ : wp K_X8_init d Q 56 [some (4, (p0 : Int))] [(0, 960), (4, (p0 : Int))] _ _ _)
  refine wp_arr (ty := 0) (n := 2) (len := 960) rfl rfl (fun _ _ _ => rfl) (by omega) (by omega) (by omega) ?_
  show wp K_X8_init d Q 58 [some (4, (p0 : Int))] [(4, ((G.length : Nat) : Int)), (4, (p0 : Int))] _ _ _
  obtain ⟨s1, w⟩ := w
  refine wp_putA (k := 6) rfl rfl rfl s1 rfl rfl rfl (?_ : wp K_X8_init d Q 61 [some (4, (p0 : Int))] [] _ _ _)
  exact wp_wk (wk_s wk_0) w

theorem t_X8_init_61 {d : Nat} {Q : gQ} {p0 : Nat} {G : List gS} {R V : gV} (w : (((G ++ [gA 0 14400])[p0]? = some (gO 8)) ∧ wp K_X8_init d Q 70 [some (4, (p0 : Int))] [] (G ++ [gA 0 14400]) (wr R p0 7 ((G.length : Nat) : Int)) V)) : wp K_X8_init d Q 61 [some (4, (p0 : Int))] [] G R V := by
  refine wp_ld (i := (.aload_n 0)) (4, (p0 : Int)) rfl rfl (fun _ => rfl) rfl rfl (?_ : wp K_X8_init d Q 62 [some (4, (p0 : Int))] [(4, (p0 : Int))] _ _ _)
  refine wp_p (i := (.sipush 14400)) rfl rfl (fun _ _ _ => rfl) (?_ : wp K_X8_init d Q 65 [some (4, (p0 : Int))] [(0, 14400), (4, (p0 : Int))] _ _ _)
  refine wp_arr (ty := 0) (n := 2) (len := 14400) rfl rfl (fun _ _ _ => rfl) (by omega) (by omega) (by omega) ?_
  show wp K_X8_init d Q 67 [some (4, (p0 : Int))] [(4, ((G.length : Nat) : Int)), (4, (p0 : Int))] _ _ _
  obtain ⟨s1, w⟩ := w
  refine wp_putA (k := 7) rfl rfl rfl s1 rfl rfl rfl (?_ : wp K_X8_init d Q 70 [some (4, (p0 : Int))] [] _ _ _)
  exact wp_wk (wk_s wk_0) w

theorem t_X8_init_70 {d : Nat} {Q : gQ} {p0 : Nat} {G : List gS} {R V : gV} (w : (((G ++ [gA 0 120])[p0]? = some (gO 8)) ∧ wp K_X8_init d Q 78 [some (4, (p0 : Int))] [] (G ++ [gA 0 120]) (wr R p0 8 ((G.length : Nat) : Int)) V)) : wp K_X8_init d Q 70 [some (4, (p0 : Int))] [] G R V := by
  refine wp_ld (i := (.aload_n 0)) (4, (p0 : Int)) rfl rfl (fun _ => rfl) rfl rfl (?_ : wp K_X8_init d Q 71 [some (4, (p0 : Int))] [(4, (p0 : Int))] _ _ _)
  refine wp_p (i := (.bipush 120)) rfl rfl (fun _ _ _ => rfl) (?_ : wp K_X8_init d Q 73 [some (4, (p0 : Int))] [(0, 120), (4, (p0 : Int))] _ _ _)
  refine wp_arr (ty := 0) (n := 2) (len := 120) rfl rfl (fun _ _ _ => rfl) (by omega) (by omega) (by omega) ?_
  show wp K_X8_init d Q 75 [some (4, (p0 : Int))] [(4, ((G.length : Nat) : Int)), (4, (p0 : Int))] _ _ _
  obtain ⟨s1, w⟩ := w
  refine wp_putA (k := 8) rfl rfl rfl s1 rfl rfl rfl (?_ : wp K_X8_init d Q 78 [some (4, (p0 : Int))] [] _ _ _)
  exact wp_wk (wk_s wk_0) w

theorem t_X8_init_78 {d : Nat} {Q : gQ} {p0 : Nat} {G : List gS} {R V : gV} (w : (((G ++ [gA 0 1000])[p0]? = some (gO 8)) ∧ wp K_X8_init d Q 87 [some (4, (p0 : Int))] [] (G ++ [gA 0 1000]) (wr R p0 9 ((G.length : Nat) : Int)) V)) : wp K_X8_init d Q 78 [some (4, (p0 : Int))] [] G R V := by
  refine wp_ld (i := (.aload_n 0)) (4, (p0 : Int)) rfl rfl (fun _ => rfl) rfl rfl (?_ : wp K_X8_init d Q 79 [some (4, (p0 : Int))] [(4, (p0 : Int))] _ _ _)
  refine wp_p (i := (.sipush 1000)) rfl rfl (fun _ _ _ => rfl) (?_ : wp K_X8_init d Q 82 [some (4, (p0 : Int))] [(0, 1000), (4, (p0 : Int))] _ _ _)
  refine wp_arr (ty := 0) (n := 2) (len := 1000) rfl rfl (fun _ _ _ => rfl) (by omega) (by omega) (by omega) ?_
  show wp K_X8_init d Q 84 [some (4, (p0 : Int))] [(4, ((G.length : Nat) : Int)), (4, (p0 : Int))] _ _ _
  obtain ⟨s1, w⟩ := w
  refine wp_putA (k := 9) rfl rfl rfl s1 rfl rfl rfl (?_ : wp K_X8_init d Q 87 [some (4, (p0 : Int))] [] _ _ _)
  exact wp_wk (wk_s wk_0) w

theorem t_X8_init_87 {d : Nat} {Q : gQ} {p0 : Nat} {G : List gS} {R V : gV} (w : (((G ++ [gA 0 120])[p0]? = some (gO 8)) ∧ wp K_X8_init d Q 95 [some (4, (p0 : Int))] [] (G ++ [gA 0 120]) (wr R p0 11 ((G.length : Nat) : Int)) V)) : wp K_X8_init d Q 87 [some (4, (p0 : Int))] [] G R V := by
  refine wp_ld (i := (.aload_n 0)) (4, (p0 : Int)) rfl rfl (fun _ => rfl) rfl rfl (?_ : wp K_X8_init d Q 88 [some (4, (p0 : Int))] [(4, (p0 : Int))] _ _ _)
  refine wp_p (i := (.bipush 120)) rfl rfl (fun _ _ _ => rfl) (?_ : wp K_X8_init d Q 90 [some (4, (p0 : Int))] [(0, 120), (4, (p0 : Int))] _ _ _)
  refine wp_arr (ty := 0) (n := 2) (len := 120) rfl rfl (fun _ _ _ => rfl) (by omega) (by omega) (by omega) ?_
  show wp K_X8_init d Q 92 [some (4, (p0 : Int))] [(4, ((G.length : Nat) : Int)), (4, (p0 : Int))] _ _ _
  obtain ⟨s1, w⟩ := w
  refine wp_putA (k := 11) rfl rfl rfl s1 rfl rfl rfl (?_ : wp K_X8_init d Q 95 [some (4, (p0 : Int))] [] _ _ _)
  exact wp_wk (wk_s wk_0) w

theorem t_X8_init_95 {d : Nat} {Q : gQ} {p0 : Nat} {G : List gS} {R V : gV} (w : ((G[p0]? = some (gO 8)) ∧ wp K_X8_init d Q 100 [some (4, (p0 : Int))] [] G R (wr V p0 12 1))) : wp K_X8_init d Q 95 [some (4, (p0 : Int))] [] G R V := by
  refine wp_ld (i := (.aload_n 0)) (4, (p0 : Int)) rfl rfl (fun _ => rfl) rfl rfl (?_ : wp K_X8_init d Q 96 [some (4, (p0 : Int))] [(4, (p0 : Int))] _ _ _)
  refine wp_p (i := (.iconst 1)) rfl rfl (fun _ _ _ => rfl) (?_ : wp K_X8_init d Q 97 [some (4, (p0 : Int))] [(0, 1), (4, (p0 : Int))] _ _ _)
  obtain ⟨s1, w⟩ := w
  refine wp_putI (k := 12) rfl rfl rfl s1 rfl rfl rfl ⟨by omega, by omega⟩ (?_ : wp K_X8_init d Q 100 [some (4, (p0 : Int))] [] _ _ _)
  exact wp_wk (wk_s wk_0) w

theorem t_X8_init_100 {d : Nat} {Q : gQ} {p0 : Nat} {G : List gS} {R V : gV} (w : ((G[p0]? = some (gO 8)) ∧ wp K_X8_init d Q 105 [some (4, (p0 : Int))] [] G R (wr V p0 13 1))) : wp K_X8_init d Q 100 [some (4, (p0 : Int))] [] G R V := by
  refine wp_ld (i := (.aload_n 0)) (4, (p0 : Int)) rfl rfl (fun _ => rfl) rfl rfl (?_ : wp K_X8_init d Q 101 [some (4, (p0 : Int))] [(4, (p0 : Int))] _ _ _)
  refine wp_p (i := (.iconst 1)) rfl rfl (fun _ _ _ => rfl) (?_ : wp K_X8_init d Q 102 [some (4, (p0 : Int))] [(0, 1), (4, (p0 : Int))] _ _ _)
  obtain ⟨s1, w⟩ := w
  refine wp_putI (k := 13) rfl rfl rfl s1 rfl rfl rfl ⟨by omega, by omega⟩ (?_ : wp K_X8_init d Q 105 [some (4, (p0 : Int))] [] _ _ _)
  exact wp_wk (wk_s wk_0) w

theorem t_X8_init_105 {d : Nat} {Q : gQ} {p0 : Nat} {G : List gS} {R V : gV} (w : (((G ++ [gA 2 36120])[p0]? = some (gO 8)) ∧ wp K_X8_init d Q 113 [some (4, (p0 : Int))] [] (G ++ [gA 2 36120]) (wr R p0 14 ((G.length : Nat) : Int)) V)) : wp K_X8_init d Q 105 [some (4, (p0 : Int))] [] G R V := by
  refine wp_ld (i := (.aload_n 0)) (4, (p0 : Int)) rfl rfl (fun _ => rfl) rfl rfl (?_ : wp K_X8_init d Q 106 [some (4, (p0 : Int))] [(4, (p0 : Int))] _ _ _)
  refine wp_p (i := (.ldc 140)) rfl rfl (fun _ _ _ => rfl) (?_ : wp K_X8_init d Q 108 [some (4, (p0 : Int))] [(0, 36120), (4, (p0 : Int))] _ _ _)
  refine wp_arr (ty := 2) (n := 2) (len := 36120) rfl rfl (fun _ _ _ => rfl) (by omega) (by omega) (by omega) ?_
  show wp K_X8_init d Q 110 [some (4, (p0 : Int))] [(4, ((G.length : Nat) : Int)), (4, (p0 : Int))] _ _ _
  obtain ⟨s1, w⟩ := w
  refine wp_putA (k := 14) rfl rfl rfl s1 rfl rfl rfl (?_ : wp K_X8_init d Q 113 [some (4, (p0 : Int))] [] _ _ _)
  exact wp_wk (wk_s wk_0) w

theorem t_X8_init_113 {d : Nat} {Q : gQ} {p0 : Nat} {G : List gS} {R V : gV} (w : (((G ++ [gA 0 301])[p0]? = some (gO 8)) ∧ wp K_X8_init d Q 122 [some (4, (p0 : Int))] [] (G ++ [gA 0 301]) (wr R p0 15 ((G.length : Nat) : Int)) V)) : wp K_X8_init d Q 113 [some (4, (p0 : Int))] [] G R V := by
  refine wp_ld (i := (.aload_n 0)) (4, (p0 : Int)) rfl rfl (fun _ => rfl) rfl rfl (?_ : wp K_X8_init d Q 114 [some (4, (p0 : Int))] [(4, (p0 : Int))] _ _ _)
  refine wp_p (i := (.sipush 301)) rfl rfl (fun _ _ _ => rfl) (?_ : wp K_X8_init d Q 117 [some (4, (p0 : Int))] [(0, 301), (4, (p0 : Int))] _ _ _)
  refine wp_arr (ty := 0) (n := 2) (len := 301) rfl rfl (fun _ _ _ => rfl) (by omega) (by omega) (by omega) ?_
  show wp K_X8_init d Q 119 [some (4, (p0 : Int))] [(4, ((G.length : Nat) : Int)), (4, (p0 : Int))] _ _ _
  obtain ⟨s1, w⟩ := w
  refine wp_putA (k := 15) rfl rfl rfl s1 rfl rfl rfl (?_ : wp K_X8_init d Q 122 [some (4, (p0 : Int))] [] _ _ _)
  exact wp_wk (wk_s wk_0) w

theorem t_X8_init_122 {d : Nat} {Q : gQ} {p0 : Nat} {G : List gS} {R V : gV} (w : (((G ++ [gA 0 2107])[p0]? = some (gO 8)) ∧ wp K_X8_init d Q 131 [some (4, (p0 : Int))] [] (G ++ [gA 0 2107]) (wr R p0 16 ((G.length : Nat) : Int)) V)) : wp K_X8_init d Q 122 [some (4, (p0 : Int))] [] G R V := by
  refine wp_ld (i := (.aload_n 0)) (4, (p0 : Int)) rfl rfl (fun _ => rfl) rfl rfl (?_ : wp K_X8_init d Q 123 [some (4, (p0 : Int))] [(4, (p0 : Int))] _ _ _)
  refine wp_p (i := (.sipush 2107)) rfl rfl (fun _ _ _ => rfl) (?_ : wp K_X8_init d Q 126 [some (4, (p0 : Int))] [(0, 2107), (4, (p0 : Int))] _ _ _)
  refine wp_arr (ty := 0) (n := 2) (len := 2107) rfl rfl (fun _ _ _ => rfl) (by omega) (by omega) (by omega) ?_
  show wp K_X8_init d Q 128 [some (4, (p0 : Int))] [(4, ((G.length : Nat) : Int)), (4, (p0 : Int))] _ _ _
  obtain ⟨s1, w⟩ := w
  refine wp_putA (k := 16) rfl rfl rfl s1 rfl rfl rfl (?_ : wp K_X8_init d Q 131 [some (4, (p0 : Int))] [] _ _ _)
  exact wp_wk (wk_s wk_0) w

theorem t_X8_init_131 {d : Nat} {Q : gQ} {p0 : Nat} {G : List gS} {R V : gV} (w : (((G ++ [gA 0 301])[p0]? = some (gO 8)) ∧ wp K_X8_init d Q 140 [some (4, (p0 : Int))] [] (G ++ [gA 0 301]) (wr R p0 17 ((G.length : Nat) : Int)) V)) : wp K_X8_init d Q 131 [some (4, (p0 : Int))] [] G R V := by
  refine wp_ld (i := (.aload_n 0)) (4, (p0 : Int)) rfl rfl (fun _ => rfl) rfl rfl (?_ : wp K_X8_init d Q 132 [some (4, (p0 : Int))] [(4, (p0 : Int))] _ _ _)
  refine wp_p (i := (.sipush 301)) rfl rfl (fun _ _ _ => rfl) (?_ : wp K_X8_init d Q 135 [some (4, (p0 : Int))] [(0, 301), (4, (p0 : Int))] _ _ _)
  refine wp_arr (ty := 0) (n := 2) (len := 301) rfl rfl (fun _ _ _ => rfl) (by omega) (by omega) (by omega) ?_
  show wp K_X8_init d Q 137 [some (4, (p0 : Int))] [(4, ((G.length : Nat) : Int)), (4, (p0 : Int))] _ _ _
  obtain ⟨s1, w⟩ := w
  refine wp_putA (k := 17) rfl rfl rfl s1 rfl rfl rfl (?_ : wp K_X8_init d Q 140 [some (4, (p0 : Int))] [] _ _ _)
  exact wp_wk (wk_s wk_0) w

theorem t_X8_init_140 {d : Nat} {Q : gQ} {p0 : Nat} {G : List gS} {R V : gV} (w : (((G ++ [gA 0 36000])[p0]? = some (gO 8)) ∧ wp K_X8_init d Q 148 [some (4, (p0 : Int))] [] (G ++ [gA 0 36000]) (wr R p0 18 ((G.length : Nat) : Int)) V)) : wp K_X8_init d Q 140 [some (4, (p0 : Int))] [] G R V := by
  refine wp_ld (i := (.aload_n 0)) (4, (p0 : Int)) rfl rfl (fun _ => rfl) rfl rfl (?_ : wp K_X8_init d Q 141 [some (4, (p0 : Int))] [(4, (p0 : Int))] _ _ _)
  refine wp_p (i := (.ldc 133)) rfl rfl (fun _ _ _ => rfl) (?_ : wp K_X8_init d Q 143 [some (4, (p0 : Int))] [(0, 36000), (4, (p0 : Int))] _ _ _)
  refine wp_arr (ty := 0) (n := 2) (len := 36000) rfl rfl (fun _ _ _ => rfl) (by omega) (by omega) (by omega) ?_
  show wp K_X8_init d Q 145 [some (4, (p0 : Int))] [(4, ((G.length : Nat) : Int)), (4, (p0 : Int))] _ _ _
  obtain ⟨s1, w⟩ := w
  refine wp_putA (k := 18) rfl rfl rfl s1 rfl rfl rfl (?_ : wp K_X8_init d Q 148 [some (4, (p0 : Int))] [] _ _ _)
  exact wp_wk (wk_s wk_0) w

theorem t_X8_init_148 {d : Nat} {Q : gQ} {p0 : Nat} {G : List gS} {R V : gV} (w : (((G ++ [gA 0 300])[p0]? = some (gO 8)) ∧ wp K_X8_init d Q 157 [some (4, (p0 : Int))] [] (G ++ [gA 0 300]) (wr R p0 19 ((G.length : Nat) : Int)) V)) : wp K_X8_init d Q 148 [some (4, (p0 : Int))] [] G R V := by
  refine wp_ld (i := (.aload_n 0)) (4, (p0 : Int)) rfl rfl (fun _ => rfl) rfl rfl (?_ : wp K_X8_init d Q 149 [some (4, (p0 : Int))] [(4, (p0 : Int))] _ _ _)
  refine wp_p (i := (.sipush 300)) rfl rfl (fun _ _ _ => rfl) (?_ : wp K_X8_init d Q 152 [some (4, (p0 : Int))] [(0, 300), (4, (p0 : Int))] _ _ _)
  refine wp_arr (ty := 0) (n := 2) (len := 300) rfl rfl (fun _ _ _ => rfl) (by omega) (by omega) (by omega) ?_
  show wp K_X8_init d Q 154 [some (4, (p0 : Int))] [(4, ((G.length : Nat) : Int)), (4, (p0 : Int))] _ _ _
  obtain ⟨s1, w⟩ := w
  refine wp_putA (k := 19) rfl rfl rfl s1 rfl rfl rfl (?_ : wp K_X8_init d Q 157 [some (4, (p0 : Int))] [] _ _ _)
  exact wp_wk (wk_s wk_0) w

theorem t_X8_init_157 {d : Nat} {Q : gQ} {p0 : Nat} {G : List gS} {R V : gV} (w : (((G ++ [gA 0 300])[p0]? = some (gO 8)) ∧ wp K_X8_init d Q 166 [some (4, (p0 : Int))] [] (G ++ [gA 0 300]) (wr R p0 20 ((G.length : Nat) : Int)) V)) : wp K_X8_init d Q 157 [some (4, (p0 : Int))] [] G R V := by
  refine wp_ld (i := (.aload_n 0)) (4, (p0 : Int)) rfl rfl (fun _ => rfl) rfl rfl (?_ : wp K_X8_init d Q 158 [some (4, (p0 : Int))] [(4, (p0 : Int))] _ _ _)
  refine wp_p (i := (.sipush 300)) rfl rfl (fun _ _ _ => rfl) (?_ : wp K_X8_init d Q 161 [some (4, (p0 : Int))] [(0, 300), (4, (p0 : Int))] _ _ _)
  refine wp_arr (ty := 0) (n := 2) (len := 300) rfl rfl (fun _ _ _ => rfl) (by omega) (by omega) (by omega) ?_
  show wp K_X8_init d Q 163 [some (4, (p0 : Int))] [(4, ((G.length : Nat) : Int)), (4, (p0 : Int))] _ _ _
  obtain ⟨s1, w⟩ := w
  refine wp_putA (k := 20) rfl rfl rfl s1 rfl rfl rfl (?_ : wp K_X8_init d Q 166 [some (4, (p0 : Int))] [] _ _ _)
  exact wp_wk (wk_s wk_0) w

theorem t_X8_init_166 {d : Nat} {Q : gQ} {p0 : Nat} {G : List gS} {R V : gV} (w : (((G ++ [gA 0 300])[p0]? = some (gO 8)) ∧ wp K_X8_init d Q 175 [some (4, (p0 : Int))] [] (G ++ [gA 0 300]) (wr R p0 21 ((G.length : Nat) : Int)) V)) : wp K_X8_init d Q 166 [some (4, (p0 : Int))] [] G R V := by
  refine wp_ld (i := (.aload_n 0)) (4, (p0 : Int)) rfl rfl (fun _ => rfl) rfl rfl (?_ : wp K_X8_init d Q 167 [some (4, (p0 : Int))] [(4, (p0 : Int))] _ _ _)
  refine wp_p (i := (.sipush 300)) rfl rfl (fun _ _ _ => rfl) (?_ : wp K_X8_init d Q 170 [some (4, (p0 : Int))] [(0, 300), (4, (p0 : Int))] _ _ _)
  refine wp_arr (ty := 0) (n := 2) (len := 300) rfl rfl (fun _ _ _ => rfl) (by omega) (by omega) (by omega) ?_
  show wp K_X8_init d Q 172 [some (4, (p0 : Int))] [(4, ((G.length : Nat) : Int)), (4, (p0 : Int))] _ _ _
  obtain ⟨s1, w⟩ := w
  refine wp_putA (k := 21) rfl rfl rfl s1 rfl rfl rfl (?_ : wp K_X8_init d Q 175 [some (4, (p0 : Int))] [] _ _ _)
  exact wp_wk (wk_s wk_0) w

theorem t_X8_init_175 {d : Nat} {Q : gQ} {p0 : Nat} {G : List gS} {R V : gV} (w : (((G ++ [gA 1 300])[p0]? = some (gO 8)) ∧ wp K_X8_init d Q 184 [some (4, (p0 : Int))] [] (G ++ [gA 1 300]) (wr R p0 22 ((G.length : Nat) : Int)) V)) : wp K_X8_init d Q 175 [some (4, (p0 : Int))] [] G R V := by
  refine wp_ld (i := (.aload_n 0)) (4, (p0 : Int)) rfl rfl (fun _ => rfl) rfl rfl (?_ : wp K_X8_init d Q 176 [some (4, (p0 : Int))] [(4, (p0 : Int))] _ _ _)
  refine wp_p (i := (.sipush 300)) rfl rfl (fun _ _ _ => rfl) (?_ : wp K_X8_init d Q 179 [some (4, (p0 : Int))] [(0, 300), (4, (p0 : Int))] _ _ _)
  refine wp_arr (ty := 1) (n := 2) (len := 300) rfl rfl (fun _ _ _ => rfl) (by omega) (by omega) (by omega) ?_
  show wp K_X8_init d Q 181 [some (4, (p0 : Int))] [(4, ((G.length : Nat) : Int)), (4, (p0 : Int))] _ _ _
  obtain ⟨s1, w⟩ := w
  refine wp_putA (k := 22) rfl rfl rfl s1 rfl rfl rfl (?_ : wp K_X8_init d Q 184 [some (4, (p0 : Int))] [] _ _ _)
  exact wp_wk (wk_s wk_0) w

theorem t_X8_init_184 {d : Nat} {Q : gQ} {p0 : Nat} {G : List gS} {R V : gV} (w : (((G ++ [gA 0 90000])[p0]? = some (gO 8)) ∧ wp K_X8_init d Q 192 [some (4, (p0 : Int))] [] (G ++ [gA 0 90000]) (wr R p0 23 ((G.length : Nat) : Int)) V)) : wp K_X8_init d Q 184 [some (4, (p0 : Int))] [] G R V := by
  refine wp_ld (i := (.aload_n 0)) (4, (p0 : Int)) rfl rfl (fun _ => rfl) rfl rfl (?_ : wp K_X8_init d Q 185 [some (4, (p0 : Int))] [(4, (p0 : Int))] _ _ _)
  refine wp_p (i := (.ldc 141)) rfl rfl (fun _ _ _ => rfl) (?_ : wp K_X8_init d Q 187 [some (4, (p0 : Int))] [(0, 90000), (4, (p0 : Int))] _ _ _)
  refine wp_arr (ty := 0) (n := 2) (len := 90000) rfl rfl (fun _ _ _ => rfl) (by omega) (by omega) (by omega) ?_
  show wp K_X8_init d Q 189 [some (4, (p0 : Int))] [(4, ((G.length : Nat) : Int)), (4, (p0 : Int))] _ _ _
  obtain ⟨s1, w⟩ := w
  refine wp_putA (k := 23) rfl rfl rfl s1 rfl rfl rfl (?_ : wp K_X8_init d Q 192 [some (4, (p0 : Int))] [] _ _ _)
  exact wp_wk (wk_s wk_0) w

theorem t_X8_init_192 {d : Nat} {Q : gQ} {p0 : Nat} {G : List gS} {R V : gV} (w : (((G ++ [gA 0 120])[p0]? = some (gO 8)) ∧ wp K_X8_init d Q 200 [some (4, (p0 : Int))] [] (G ++ [gA 0 120]) (wr R p0 24 ((G.length : Nat) : Int)) V)) : wp K_X8_init d Q 192 [some (4, (p0 : Int))] [] G R V := by
  refine wp_ld (i := (.aload_n 0)) (4, (p0 : Int)) rfl rfl (fun _ => rfl) rfl rfl (?_ : wp K_X8_init d Q 193 [some (4, (p0 : Int))] [(4, (p0 : Int))] _ _ _)
  refine wp_p (i := (.bipush 120)) rfl rfl (fun _ _ _ => rfl) (?_ : wp K_X8_init d Q 195 [some (4, (p0 : Int))] [(0, 120), (4, (p0 : Int))] _ _ _)
  refine wp_arr (ty := 0) (n := 2) (len := 120) rfl rfl (fun _ _ _ => rfl) (by omega) (by omega) (by omega) ?_
  show wp K_X8_init d Q 197 [some (4, (p0 : Int))] [(4, ((G.length : Nat) : Int)), (4, (p0 : Int))] _ _ _
  obtain ⟨s1, w⟩ := w
  refine wp_putA (k := 24) rfl rfl rfl s1 rfl rfl rfl (?_ : wp K_X8_init d Q 200 [some (4, (p0 : Int))] [] _ _ _)
  exact wp_wk (wk_s wk_0) w

theorem t_X8_init_200 {d : Nat} {Q : gQ} {p0 : Nat} {G : List gS} {R V : gV} (w : (((G ++ [gA 0 960])[p0]? = some (gO 8)) ∧ wp K_X8_init d Q 209 [some (4, (p0 : Int))] [] (G ++ [gA 0 960]) (wr R p0 25 ((G.length : Nat) : Int)) V)) : wp K_X8_init d Q 200 [some (4, (p0 : Int))] [] G R V := by
  refine wp_ld (i := (.aload_n 0)) (4, (p0 : Int)) rfl rfl (fun _ => rfl) rfl rfl (?_ : wp K_X8_init d Q 201 [some (4, (p0 : Int))] [(4, (p0 : Int))] _ _ _)
  refine wp_p (i := (.sipush 960)) rfl rfl (fun _ _ _ => rfl) (?_ : wp K_X8_init d Q 204 [some (4, (p0 : Int))] [(0, 960), (4, (p0 : Int))] _ _ _)
  refine wp_arr (ty := 0) (n := 2) (len := 960) rfl rfl (fun _ _ _ => rfl) (by omega) (by omega) (by omega) ?_
  show wp K_X8_init d Q 206 [some (4, (p0 : Int))] [(4, ((G.length : Nat) : Int)), (4, (p0 : Int))] _ _ _
  obtain ⟨s1, w⟩ := w
  refine wp_putA (k := 25) rfl rfl rfl s1 rfl rfl rfl (?_ : wp K_X8_init d Q 209 [some (4, (p0 : Int))] [] _ _ _)
  exact wp_wk (wk_s wk_0) w

theorem t_X8_init_209 {d : Nat} {Q : gQ} {p0 : Nat} {G : List gS} {R V : gV} (w : (((G ++ [gA 2 8])[p0]? = some (gO 8)) ∧ wp K_X8_init d Q 217 [some (4, (p0 : Int))] [] (G ++ [gA 2 8]) (wr R p0 28 ((G.length : Nat) : Int)) V)) : wp K_X8_init d Q 209 [some (4, (p0 : Int))] [] G R V := by
  refine wp_ld (i := (.aload_n 0)) (4, (p0 : Int)) rfl rfl (fun _ => rfl) rfl rfl (?_ : wp K_X8_init d Q 210 [some (4, (p0 : Int))] [(4, (p0 : Int))] _ _ _)
  refine wp_p (i := (.bipush 8)) rfl rfl (fun _ _ _ => rfl) (?_ : wp K_X8_init d Q 212 [some (4, (p0 : Int))] [(0, 8), (4, (p0 : Int))] _ _ _)
  refine wp_arr (ty := 2) (n := 2) (len := 8) rfl rfl (fun _ _ _ => rfl) (by omega) (by omega) (by omega) ?_
  show wp K_X8_init d Q 214 [some (4, (p0 : Int))] [(4, ((G.length : Nat) : Int)), (4, (p0 : Int))] _ _ _
  obtain ⟨s1, w⟩ := w
  refine wp_putA (k := 28) rfl rfl rfl s1 rfl rfl rfl (?_ : wp K_X8_init d Q 217 [some (4, (p0 : Int))] [] _ _ _)
  exact wp_wk (wk_s wk_0) w

theorem t_X8_init_217 {d : Nat} {Q : gQ} {p0 : Nat} {G : List gS} {R V : gV} (w : (((G ++ [gA 1 2400])[p0]? = some (gO 8)) ∧ wp K_X8_init d Q 226 [some (4, (p0 : Int))] [] (G ++ [gA 1 2400]) (wr R p0 29 ((G.length : Nat) : Int)) V)) : wp K_X8_init d Q 217 [some (4, (p0 : Int))] [] G R V := by
  refine wp_ld (i := (.aload_n 0)) (4, (p0 : Int)) rfl rfl (fun _ => rfl) rfl rfl (?_ : wp K_X8_init d Q 218 [some (4, (p0 : Int))] [(4, (p0 : Int))] _ _ _)
  refine wp_p (i := (.sipush 2400)) rfl rfl (fun _ _ _ => rfl) (?_ : wp K_X8_init d Q 221 [some (4, (p0 : Int))] [(0, 2400), (4, (p0 : Int))] _ _ _)
  refine wp_arr (ty := 1) (n := 2) (len := 2400) rfl rfl (fun _ _ _ => rfl) (by omega) (by omega) (by omega) ?_
  show wp K_X8_init d Q 223 [some (4, (p0 : Int))] [(4, ((G.length : Nat) : Int)), (4, (p0 : Int))] _ _ _
  obtain ⟨s1, w⟩ := w
  refine wp_putA (k := 29) rfl rfl rfl s1 rfl rfl rfl (?_ : wp K_X8_init d Q 226 [some (4, (p0 : Int))] [] _ _ _)
  exact wp_wk (wk_s wk_0) w

theorem t_X8_init_226 {d : Nat} {Q : gQ} {p0 : Nat} {G : List gS} {R V : gV} (w : (((G ++ [gA 1 300])[p0]? = some (gO 8)) ∧ wp K_X8_init d Q 235 [some (4, (p0 : Int))] [] (G ++ [gA 1 300]) (wr R p0 30 ((G.length : Nat) : Int)) V)) : wp K_X8_init d Q 226 [some (4, (p0 : Int))] [] G R V := by
  refine wp_ld (i := (.aload_n 0)) (4, (p0 : Int)) rfl rfl (fun _ => rfl) rfl rfl (?_ : wp K_X8_init d Q 227 [some (4, (p0 : Int))] [(4, (p0 : Int))] _ _ _)
  refine wp_p (i := (.sipush 300)) rfl rfl (fun _ _ _ => rfl) (?_ : wp K_X8_init d Q 230 [some (4, (p0 : Int))] [(0, 300), (4, (p0 : Int))] _ _ _)
  refine wp_arr (ty := 1) (n := 2) (len := 300) rfl rfl (fun _ _ _ => rfl) (by omega) (by omega) (by omega) ?_
  show wp K_X8_init d Q 232 [some (4, (p0 : Int))] [(4, ((G.length : Nat) : Int)), (4, (p0 : Int))] _ _ _
  obtain ⟨s1, w⟩ := w
  refine wp_putA (k := 30) rfl rfl rfl s1 rfl rfl rfl (?_ : wp K_X8_init d Q 235 [some (4, (p0 : Int))] [] _ _ _)
  exact wp_wk (wk_s wk_0) w

theorem t_X8_init_235 {d : Nat} {Q : gQ} {p0 : Nat} {G : List gS} {R V : gV} (w : (((G ++ [gA 1 300])[p0]? = some (gO 8)) ∧ wp K_X8_init d Q 244 [some (4, (p0 : Int))] [] (G ++ [gA 1 300]) (wr R p0 31 ((G.length : Nat) : Int)) V)) : wp K_X8_init d Q 235 [some (4, (p0 : Int))] [] G R V := by
  refine wp_ld (i := (.aload_n 0)) (4, (p0 : Int)) rfl rfl (fun _ => rfl) rfl rfl (?_ : wp K_X8_init d Q 236 [some (4, (p0 : Int))] [(4, (p0 : Int))] _ _ _)
  refine wp_p (i := (.sipush 300)) rfl rfl (fun _ _ _ => rfl) (?_ : wp K_X8_init d Q 239 [some (4, (p0 : Int))] [(0, 300), (4, (p0 : Int))] _ _ _)
  refine wp_arr (ty := 1) (n := 2) (len := 300) rfl rfl (fun _ _ _ => rfl) (by omega) (by omega) (by omega) ?_
  show wp K_X8_init d Q 241 [some (4, (p0 : Int))] [(4, ((G.length : Nat) : Int)), (4, (p0 : Int))] _ _ _
  obtain ⟨s1, w⟩ := w
  refine wp_putA (k := 31) rfl rfl rfl s1 rfl rfl rfl (?_ : wp K_X8_init d Q 244 [some (4, (p0 : Int))] [] _ _ _)
  exact wp_wk (wk_s wk_0) w

theorem t_X8_init_244 {d : Nat} {Q : gQ} {p0 : Nat} {G : List gS} {R V : gV} (w : ((G[p0]? = some (gO 8)) ∧ wp K_X8_init d Q 249 [some (4, (p0 : Int))] [] G R (wr V p0 32 ((-1))))) : wp K_X8_init d Q 244 [some (4, (p0 : Int))] [] G R V := by
  refine wp_ld (i := (.aload_n 0)) (4, (p0 : Int)) rfl rfl (fun _ => rfl) rfl rfl (?_ : wp K_X8_init d Q 245 [some (4, (p0 : Int))] [(4, (p0 : Int))] _ _ _)
  refine wp_p (i := (.iconst (-1))) rfl rfl (fun _ _ _ => rfl) (?_ : wp K_X8_init d Q 246 [some (4, (p0 : Int))] [(0, (-1)), (4, (p0 : Int))] _ _ _)
  obtain ⟨s1, w⟩ := w
  refine wp_putI (k := 32) rfl rfl rfl s1 rfl rfl rfl ⟨by omega, by omega⟩ (?_ : wp K_X8_init d Q 249 [some (4, (p0 : Int))] [] _ _ _)
  exact wp_wk (wk_s wk_0) w

theorem t_X8_init_249 {d : Nat} {Q : gQ} {p0 : Nat} {G : List gS} {R V : gV} (w : (((G ++ [gA 2 8])[p0]? = some (gO 8)) ∧ wp K_X8_init d Q 257 [some (4, (p0 : Int))] [] (G ++ [gA 2 8]) (wr R p0 33 ((G.length : Nat) : Int)) V)) : wp K_X8_init d Q 249 [some (4, (p0 : Int))] [] G R V := by
  refine wp_ld (i := (.aload_n 0)) (4, (p0 : Int)) rfl rfl (fun _ => rfl) rfl rfl (?_ : wp K_X8_init d Q 250 [some (4, (p0 : Int))] [(4, (p0 : Int))] _ _ _)
  refine wp_p (i := (.bipush 8)) rfl rfl (fun _ _ _ => rfl) (?_ : wp K_X8_init d Q 252 [some (4, (p0 : Int))] [(0, 8), (4, (p0 : Int))] _ _ _)
  refine wp_arr (ty := 2) (n := 2) (len := 8) rfl rfl (fun _ _ _ => rfl) (by omega) (by omega) (by omega) ?_
  show wp K_X8_init d Q 254 [some (4, (p0 : Int))] [(4, ((G.length : Nat) : Int)), (4, (p0 : Int))] _ _ _
  obtain ⟨s1, w⟩ := w
  refine wp_putA (k := 33) rfl rfl rfl s1 rfl rfl rfl (?_ : wp K_X8_init d Q 257 [some (4, (p0 : Int))] [] _ _ _)
  exact wp_wk (wk_s wk_0) w

theorem t_X8_init_257 {d : Nat} {Q : gQ} {p0 : Nat} {G : List gS} {R V : gV} (w : (((G ++ [gA 0 8])[p0]? = some (gO 8)) ∧ wp K_X8_init d Q 265 [some (4, (p0 : Int))] [] (G ++ [gA 0 8]) (wr R p0 34 ((G.length : Nat) : Int)) V)) : wp K_X8_init d Q 257 [some (4, (p0 : Int))] [] G R V := by
  refine wp_ld (i := (.aload_n 0)) (4, (p0 : Int)) rfl rfl (fun _ => rfl) rfl rfl (?_ : wp K_X8_init d Q 258 [some (4, (p0 : Int))] [(4, (p0 : Int))] _ _ _)
  refine wp_p (i := (.bipush 8)) rfl rfl (fun _ _ _ => rfl) (?_ : wp K_X8_init d Q 260 [some (4, (p0 : Int))] [(0, 8), (4, (p0 : Int))] _ _ _)
  refine wp_arr (ty := 0) (n := 2) (len := 8) rfl rfl (fun _ _ _ => rfl) (by omega) (by omega) (by omega) ?_
  show wp K_X8_init d Q 262 [some (4, (p0 : Int))] [(4, ((G.length : Nat) : Int)), (4, (p0 : Int))] _ _ _
  obtain ⟨s1, w⟩ := w
  refine wp_putA (k := 34) rfl rfl rfl s1 rfl rfl rfl (?_ : wp K_X8_init d Q 265 [some (4, (p0 : Int))] [] _ _ _)
  exact wp_wk (wk_s wk_0) w

theorem t_X8_init_265 {d : Nat} {Q : gQ} {p0 : Nat} {G : List gS} {R V : gV} (w : (((G ++ [gA 1 300])[p0]? = some (gO 8)) ∧ wp K_X8_init d Q 274 [some (4, (p0 : Int))] [] (G ++ [gA 1 300]) (wr R p0 36 ((G.length : Nat) : Int)) V)) : wp K_X8_init d Q 265 [some (4, (p0 : Int))] [] G R V := by
  refine wp_ld (i := (.aload_n 0)) (4, (p0 : Int)) rfl rfl (fun _ => rfl) rfl rfl (?_ : wp K_X8_init d Q 266 [some (4, (p0 : Int))] [(4, (p0 : Int))] _ _ _)
  refine wp_p (i := (.sipush 300)) rfl rfl (fun _ _ _ => rfl) (?_ : wp K_X8_init d Q 269 [some (4, (p0 : Int))] [(0, 300), (4, (p0 : Int))] _ _ _)
  refine wp_arr (ty := 1) (n := 2) (len := 300) rfl rfl (fun _ _ _ => rfl) (by omega) (by omega) (by omega) ?_
  show wp K_X8_init d Q 271 [some (4, (p0 : Int))] [(4, ((G.length : Nat) : Int)), (4, (p0 : Int))] _ _ _
  obtain ⟨s1, w⟩ := w
  refine wp_putA (k := 36) rfl rfl rfl s1 rfl rfl rfl (?_ : wp K_X8_init d Q 274 [some (4, (p0 : Int))] [] _ _ _)
  exact wp_wk (wk_s wk_0) w

theorem t_X8_init_274 {d : Nat} {Q : gQ} {p0 : Nat} {G : List gS} {R V : gV} (w : ((G[p0]? = some (gO 8)) ∧ wp K_X8_init d Q 279 [some (4, (p0 : Int))] [] G R (wr V p0 37 ((-1))))) : wp K_X8_init d Q 274 [some (4, (p0 : Int))] [] G R V := by
  refine wp_ld (i := (.aload_n 0)) (4, (p0 : Int)) rfl rfl (fun _ => rfl) rfl rfl (?_ : wp K_X8_init d Q 275 [some (4, (p0 : Int))] [(4, (p0 : Int))] _ _ _)
  refine wp_p (i := (.iconst (-1))) rfl rfl (fun _ _ _ => rfl) (?_ : wp K_X8_init d Q 276 [some (4, (p0 : Int))] [(0, (-1)), (4, (p0 : Int))] _ _ _)
  obtain ⟨s1, w⟩ := w
  refine wp_putI (k := 37) rfl rfl rfl s1 rfl rfl rfl ⟨by omega, by omega⟩ (?_ : wp K_X8_init d Q 279 [some (4, (p0 : Int))] [] _ _ _)
  exact wp_wk (wk_s wk_0) w

theorem t_X8_init_279 {d : Nat} {Q : gQ} {p0 : Nat} {G : List gS} {R V : gV} (w : (((G ++ [gA 2 3])[p0]? = some (gO 8)) ∧ wp K_X8_init d Q 286 [some (4, (p0 : Int))] [] (G ++ [gA 2 3]) (wr R p0 38 ((G.length : Nat) : Int)) V)) : wp K_X8_init d Q 279 [some (4, (p0 : Int))] [] G R V := by
  refine wp_ld (i := (.aload_n 0)) (4, (p0 : Int)) rfl rfl (fun _ => rfl) rfl rfl (?_ : wp K_X8_init d Q 280 [some (4, (p0 : Int))] [(4, (p0 : Int))] _ _ _)
  refine wp_p (i := (.iconst 3)) rfl rfl (fun _ _ _ => rfl) (?_ : wp K_X8_init d Q 281 [some (4, (p0 : Int))] [(0, 3), (4, (p0 : Int))] _ _ _)
  refine wp_arr (ty := 2) (n := 2) (len := 3) rfl rfl (fun _ _ _ => rfl) (by omega) (by omega) (by omega) ?_
  show wp K_X8_init d Q 283 [some (4, (p0 : Int))] [(4, ((G.length : Nat) : Int)), (4, (p0 : Int))] _ _ _
  obtain ⟨s1, w⟩ := w
  refine wp_putA (k := 38) rfl rfl rfl s1 rfl rfl rfl (?_ : wp K_X8_init d Q 286 [some (4, (p0 : Int))] [] _ _ _)
  exact wp_wk (wk_s wk_0) w

theorem t_X8_init_286 {d : Nat} {Q : gQ} {p0 : Nat} {G : List gS} {R V : gV} (w : (((G ++ [gA 0 3])[p0]? = some (gO 8)) ∧ wp K_X8_init d Q 293 [some (4, (p0 : Int))] [] (G ++ [gA 0 3]) (wr R p0 39 ((G.length : Nat) : Int)) V)) : wp K_X8_init d Q 286 [some (4, (p0 : Int))] [] G R V := by
  refine wp_ld (i := (.aload_n 0)) (4, (p0 : Int)) rfl rfl (fun _ => rfl) rfl rfl (?_ : wp K_X8_init d Q 287 [some (4, (p0 : Int))] [(4, (p0 : Int))] _ _ _)
  refine wp_p (i := (.iconst 3)) rfl rfl (fun _ _ _ => rfl) (?_ : wp K_X8_init d Q 288 [some (4, (p0 : Int))] [(0, 3), (4, (p0 : Int))] _ _ _)
  refine wp_arr (ty := 0) (n := 2) (len := 3) rfl rfl (fun _ _ _ => rfl) (by omega) (by omega) (by omega) ?_
  show wp K_X8_init d Q 290 [some (4, (p0 : Int))] [(4, ((G.length : Nat) : Int)), (4, (p0 : Int))] _ _ _
  obtain ⟨s1, w⟩ := w
  refine wp_putA (k := 39) rfl rfl rfl s1 rfl rfl rfl (?_ : wp K_X8_init d Q 293 [some (4, (p0 : Int))] [] _ _ _)
  exact wp_wk (wk_s wk_0) w

theorem t_X8_init_293 {d : Nat} {Q : gQ} {p0 : Nat} {G : List gS} {R V : gV} (w : (((G ++ [gA 0 3])[p0]? = some (gO 8)) ∧ wp K_X8_init d Q 300 [some (4, (p0 : Int))] [] (G ++ [gA 0 3]) (wr R p0 40 ((G.length : Nat) : Int)) V)) : wp K_X8_init d Q 293 [some (4, (p0 : Int))] [] G R V := by
  refine wp_ld (i := (.aload_n 0)) (4, (p0 : Int)) rfl rfl (fun _ => rfl) rfl rfl (?_ : wp K_X8_init d Q 294 [some (4, (p0 : Int))] [(4, (p0 : Int))] _ _ _)
  refine wp_p (i := (.iconst 3)) rfl rfl (fun _ _ _ => rfl) (?_ : wp K_X8_init d Q 295 [some (4, (p0 : Int))] [(0, 3), (4, (p0 : Int))] _ _ _)
  refine wp_arr (ty := 0) (n := 2) (len := 3) rfl rfl (fun _ _ _ => rfl) (by omega) (by omega) (by omega) ?_
  show wp K_X8_init d Q 297 [some (4, (p0 : Int))] [(4, ((G.length : Nat) : Int)), (4, (p0 : Int))] _ _ _
  obtain ⟨s1, w⟩ := w
  refine wp_putA (k := 40) rfl rfl rfl s1 rfl rfl rfl (?_ : wp K_X8_init d Q 300 [some (4, (p0 : Int))] [] _ _ _)
  exact wp_wk (wk_s wk_0) w

theorem t_X8_init_300 {d : Nat} {Q : gQ} {p0 : Nat} {G : List gS} {R V : gV} (w : (((G ++ [gA 0 2880])[p0]? = some (gO 8)) ∧ wp K_X8_init d Q 309 [some (4, (p0 : Int))] [] (G ++ [gA 0 2880]) (wr R p0 41 ((G.length : Nat) : Int)) V)) : wp K_X8_init d Q 300 [some (4, (p0 : Int))] [] G R V := by
  refine wp_ld (i := (.aload_n 0)) (4, (p0 : Int)) rfl rfl (fun _ => rfl) rfl rfl (?_ : wp K_X8_init d Q 301 [some (4, (p0 : Int))] [(4, (p0 : Int))] _ _ _)
  refine wp_p (i := (.sipush 2880)) rfl rfl (fun _ _ _ => rfl) (?_ : wp K_X8_init d Q 304 [some (4, (p0 : Int))] [(0, 2880), (4, (p0 : Int))] _ _ _)
  refine wp_arr (ty := 0) (n := 2) (len := 2880) rfl rfl (fun _ _ _ => rfl) (by omega) (by omega) (by omega) ?_
  show wp K_X8_init d Q 306 [some (4, (p0 : Int))] [(4, ((G.length : Nat) : Int)), (4, (p0 : Int))] _ _ _
  obtain ⟨s1, w⟩ := w
  refine wp_putA (k := 41) rfl rfl rfl s1 rfl rfl rfl (?_ : wp K_X8_init d Q 309 [some (4, (p0 : Int))] [] _ _ _)
  exact wp_wk (wk_s wk_0) w

theorem t_X8_init_309 {d : Nat} {Q : gQ} {p0 : Nat} {G : List gS} {R V : gV} (w : (((G ++ [gA 2 24])[p0]? = some (gO 8)) ∧ wp K_X8_init d Q 317 [some (4, (p0 : Int))] [] (G ++ [gA 2 24]) (wr R p0 42 ((G.length : Nat) : Int)) V)) : wp K_X8_init d Q 309 [some (4, (p0 : Int))] [] G R V := by
  refine wp_ld (i := (.aload_n 0)) (4, (p0 : Int)) rfl rfl (fun _ => rfl) rfl rfl (?_ : wp K_X8_init d Q 310 [some (4, (p0 : Int))] [(4, (p0 : Int))] _ _ _)
  refine wp_p (i := (.bipush 24)) rfl rfl (fun _ _ _ => rfl) (?_ : wp K_X8_init d Q 312 [some (4, (p0 : Int))] [(0, 24), (4, (p0 : Int))] _ _ _)
  refine wp_arr (ty := 2) (n := 2) (len := 24) rfl rfl (fun _ _ _ => rfl) (by omega) (by omega) (by omega) ?_
  show wp K_X8_init d Q 314 [some (4, (p0 : Int))] [(4, ((G.length : Nat) : Int)), (4, (p0 : Int))] _ _ _
  obtain ⟨s1, w⟩ := w
  refine wp_putA (k := 42) rfl rfl rfl s1 rfl rfl rfl (?_ : wp K_X8_init d Q 317 [some (4, (p0 : Int))] [] _ _ _)
  exact wp_wk (wk_s wk_0) w

theorem t_X8_init_317 {d : Nat} {Q : gQ} {p0 : Nat} {G : List gS} {R V : gV} (w : (((G ++ [gA 1 7200])[p0]? = some (gO 8)) ∧ wp K_X8_init d Q 326 [some (4, (p0 : Int))] [] (G ++ [gA 1 7200]) (wr R p0 43 ((G.length : Nat) : Int)) V)) : wp K_X8_init d Q 317 [some (4, (p0 : Int))] [] G R V := by
  refine wp_ld (i := (.aload_n 0)) (4, (p0 : Int)) rfl rfl (fun _ => rfl) rfl rfl (?_ : wp K_X8_init d Q 318 [some (4, (p0 : Int))] [(4, (p0 : Int))] _ _ _)
  refine wp_p (i := (.sipush 7200)) rfl rfl (fun _ _ _ => rfl) (?_ : wp K_X8_init d Q 321 [some (4, (p0 : Int))] [(0, 7200), (4, (p0 : Int))] _ _ _)
  refine wp_arr (ty := 1) (n := 2) (len := 7200) rfl rfl (fun _ _ _ => rfl) (by omega) (by omega) (by omega) ?_
  show wp K_X8_init d Q 323 [some (4, (p0 : Int))] [(4, ((G.length : Nat) : Int)), (4, (p0 : Int))] _ _ _
  obtain ⟨s1, w⟩ := w
  refine wp_putA (k := 43) rfl rfl rfl s1 rfl rfl rfl (?_ : wp K_X8_init d Q 326 [some (4, (p0 : Int))] [] _ _ _)
  exact wp_wk (wk_s wk_0) w

theorem t_X8_init_326 {d : Nat} {Q : gQ} {p0 : Nat} {G : List gS} {R V : gV} (w : (((G ++ [gA 0 3])[p0]? = some (gO 8)) ∧ wp K_X8_init d Q 333 [some (4, (p0 : Int))] [] (G ++ [gA 0 3]) (wr R p0 44 ((G.length : Nat) : Int)) V)) : wp K_X8_init d Q 326 [some (4, (p0 : Int))] [] G R V := by
  refine wp_ld (i := (.aload_n 0)) (4, (p0 : Int)) rfl rfl (fun _ => rfl) rfl rfl (?_ : wp K_X8_init d Q 327 [some (4, (p0 : Int))] [(4, (p0 : Int))] _ _ _)
  refine wp_p (i := (.iconst 3)) rfl rfl (fun _ _ _ => rfl) (?_ : wp K_X8_init d Q 328 [some (4, (p0 : Int))] [(0, 3), (4, (p0 : Int))] _ _ _)
  refine wp_arr (ty := 0) (n := 2) (len := 3) rfl rfl (fun _ _ _ => rfl) (by omega) (by omega) (by omega) ?_
  show wp K_X8_init d Q 330 [some (4, (p0 : Int))] [(4, ((G.length : Nat) : Int)), (4, (p0 : Int))] _ _ _
  obtain ⟨s1, w⟩ := w
  refine wp_putA (k := 44) rfl rfl rfl s1 rfl rfl rfl (?_ : wp K_X8_init d Q 333 [some (4, (p0 : Int))] [] _ _ _)
  exact wp_wk (wk_s wk_0) w

theorem t_X8_init_333 {d : Nat} {Q : gQ} {p0 : Nat} {G : List gS} {R V : gV} (w : (((G ++ [gA 1 900])[p0]? = some (gO 8)) ∧ wp K_X8_init d Q 342 [some (4, (p0 : Int))] [] (G ++ [gA 1 900]) (wr R p0 45 ((G.length : Nat) : Int)) V)) : wp K_X8_init d Q 333 [some (4, (p0 : Int))] [] G R V := by
  refine wp_ld (i := (.aload_n 0)) (4, (p0 : Int)) rfl rfl (fun _ => rfl) rfl rfl (?_ : wp K_X8_init d Q 334 [some (4, (p0 : Int))] [(4, (p0 : Int))] _ _ _)
  refine wp_p (i := (.sipush 900)) rfl rfl (fun _ _ _ => rfl) (?_ : wp K_X8_init d Q 337 [some (4, (p0 : Int))] [(0, 900), (4, (p0 : Int))] _ _ _)
  refine wp_arr (ty := 1) (n := 2) (len := 900) rfl rfl (fun _ _ _ => rfl) (by omega) (by omega) (by omega) ?_
  show wp K_X8_init d Q 339 [some (4, (p0 : Int))] [(4, ((G.length : Nat) : Int)), (4, (p0 : Int))] _ _ _
  obtain ⟨s1, w⟩ := w
  refine wp_putA (k := 45) rfl rfl rfl s1 rfl rfl rfl (?_ : wp K_X8_init d Q 342 [some (4, (p0 : Int))] [] _ _ _)
  exact wp_wk (wk_s wk_0) w

theorem t_X8_init_342 {d : Nat} {Q : gQ} {p0 : Nat} {G : List gS} {R V : gV} (w : wp K_X8_init d Q 344 [some (4, (p0 : Int)), some (0, 0)] [] G R V) : wp K_X8_init d Q 342 [some (4, (p0 : Int))] [] G R V := by
  refine wp_p (i := (.iconst 0)) rfl rfl (fun _ _ _ => rfl) (?_ : wp K_X8_init d Q 343 [some (4, (p0 : Int))] [(0, 0)] _ _ _)
  refine wp_sto (i := (.istore_n 1)) _ rfl rfl (fun _ => rfl) rfl rfl rfl ?_
  refine wp_wk (L' := [some (4, (p0 : Int)), some (0, 0)]) (wk_s (wk_s wk_0)) ?_
  show wp K_X8_init d Q 344 [some (4, (p0 : Int)), some (0, 0)] [] _ _ _
  exact wp_wk (wk_s (wk_s wk_0)) w

theorem t_X8_init_344 {d : Nat} {Q : gQ} {p0 : Nat} {x1 : Int} {G : List gS} {R V : gV} (w : ((i32 x1) ∧ (((¬ x1 < 8) → ((G[p0]? = some (gO 8)) ∧ wp K_X8_init d Q 368 [some (4, (p0 : Int))] [] G R (wr V p0 10 1))) ∧ ((x1 < 8) → ((G[p0]? = some (gO 8)) ∧ (∃ b4 : Nat, (R p0 9 = (b4 : Int)) ∧ (∃ n5_ : Nat, (G[b4]? = some (gA 0 n5_)) ∧ (((0 : Int) ≤ x1 ∧ x1 < (n5_ : Int)) ∧ ((i32 (x1 + 1)) ∧ wp K_X8_init d Q 344 [some (4, (p0 : Int)), some (0, (x1 + 1))] [] G R (wr V b4 x1 x1)))))))))) : wp K_X8_init d Q 344 [some (4, (p0 : Int)), some (0, x1)] [] G R V := by
  refine wp_ld (i := (.iload_n 1)) (0, x1) rfl rfl (fun _ => rfl) rfl rfl (?_ : wp K_X8_init d Q 345 [some (4, (p0 : Int)), some (0, x1)] [(0, x1)] _ _ _)
  refine wp_p (i := (.bipush 8)) rfl rfl (fun _ _ _ => rfl) (?_ : wp K_X8_init d Q 347 [some (4, (p0 : Int)), some (0, x1)] [(0, 8), (0, x1)] _ _ _)
  obtain ⟨s1, w⟩ := w
  refine wp_icmp (c := .ge) 363 rfl rfl rfl s1 ⟨by omega, by omega⟩ (fun q => ?_) (fun q => ?_)
  · have q : ¬ x1 < 8 := q
    replace w := w.1 q
    show wp K_X8_init d Q 363 [some (4, (p0 : Int)), some (0, x1)] [] _ _ _
    refine wp_ld (i := (.aload_n 0)) (4, (p0 : Int)) rfl rfl (fun _ => rfl) rfl rfl (?_ : wp K_X8_init d Q 364 [some (4, (p0 : Int)), some (0, x1)] [(4, (p0 : Int))] _ _ _)
    refine wp_p (i := (.iconst 1)) rfl rfl (fun _ _ _ => rfl) (?_ : wp K_X8_init d Q 365 [some (4, (p0 : Int)), some (0, x1)] [(0, 1), (4, (p0 : Int))] _ _ _)
    obtain ⟨s2, w⟩ := w
    refine wp_putI (k := 10) rfl rfl rfl s2 rfl rfl rfl ⟨by omega, by omega⟩ (?_ : wp K_X8_init d Q 368 [some (4, (p0 : Int)), some (0, x1)] [] _ _ _)
    exact wp_wk (wk_s wk_0) w
  · have q : x1 < 8 := Decidable.not_not.mp q
    replace w := w.2 q
    show wp K_X8_init d Q 350 [some (4, (p0 : Int)), some (0, x1)] [] _ _ _
    refine wp_ld (i := (.aload_n 0)) (4, (p0 : Int)) rfl rfl (fun _ => rfl) rfl rfl (?_ : wp K_X8_init d Q 351 [some (4, (p0 : Int)), some (0, x1)] [(4, (p0 : Int))] _ _ _)
    obtain ⟨s3, w⟩ := w
    obtain ⟨b4, r4, w⟩ := w
    refine wp_getA (k := 9) rfl rfl rfl s3 rfl rfl r4 (?_ : wp K_X8_init d Q 354 [some (4, (p0 : Int)), some (0, x1)] [(4, (b4 : Int))] _ _ _)
    refine wp_ld (i := (.iload_n 1)) (0, x1) rfl rfl (fun _ => rfl) rfl rfl (?_ : wp K_X8_init d Q 355 [some (4, (p0 : Int)), some (0, x1)] [(0, x1), (4, (b4 : Int))] _ _ _)
    refine wp_ld (i := (.iload_n 1)) (0, x1) rfl rfl (fun _ => rfl) rfl rfl (?_ : wp K_X8_init d Q 356 [some (4, (p0 : Int)), some (0, x1)] [(0, x1), (0, x1), (4, (b4 : Int))] _ _ _)
    obtain ⟨n5_, g5_, w⟩ := w
    obtain ⟨s6, w⟩ := w
    refine wp_sI rfl rfl g5_ s6 s1 (?_ : wp K_X8_init d Q 357 [some (4, (p0 : Int)), some (0, x1)] [] _ _ _)
    obtain ⟨s7, w⟩ := w
    refine wp_inc (x := 1) (k := 1) (a := x1) (c := (x1 + 1)) _ rfl rfl rfl rfl s7 (by omega) rfl ?_
    show wp K_X8_init d Q 360 [some (4, (p0 : Int)), some (0, (x1 + 1))] [] _ _ _
    refine wp_go 344 rfl rfl rfl (?_ : wp K_X8_init d Q 344 [some (4, (p0 : Int)), some (0, (x1 + 1))] [] _ _ _)
    exact wp_wk (wk_s (wk_s wk_0)) w

theorem t_X8_init_368 {d : Nat} {Q : gQ} {p0 : Nat} {G : List gS} {R V : gV} (w : ((G[p0]? = some (gO 8)) ∧ cwv d (fun r V1 => r = none ∧ ((G[p0]? = some (gO 8)) ∧ cwv d (fun r V3 => ∃ v4 : Int, r = some (0, v4) ∧ ((G[p0]? = some (gO 8)) ∧ cwv d (fun r V6 => r = none ∧ Q none G R V6) 177 [(4, (p0 : Int))] G R V3)) 173 [(4, (p0 : Int))] G R V1)) 168 [(4, (p0 : Int)), (0, 1)] G R V)) : wp K_X8_init d Q 368 [some (4, (p0 : Int))] [] G R V := by
  refine wp_ld (i := (.aload_n 0)) (4, (p0 : Int)) rfl rfl (fun _ => rfl) rfl rfl (?_ : wp K_X8_init d Q 369 [some (4, (p0 : Int))] [(4, (p0 : Int))] _ _ _)
  refine wp_p (i := (.iconst 1)) rfl rfl (fun _ _ _ => rfl) (?_ : wp K_X8_init d Q 370 [some (4, (p0 : Int))] [(0, 1), (4, (p0 : Int))] _ _ _)
  obtain ⟨s2, w⟩ := w
  refine wp_virt (as := [(0, 1)]) (a := p0) (st := []) _ rfl rfl rfl rfl rfl rfl s2 (Nat.le_of_ble_eq_true rfl) (cwv_k0 w (fun V1 w => ?_))
  show wp K_X8_init d Q 373 [some (4, (p0 : Int))] [] _ _ _
  refine wp_ld (i := (.aload_n 0)) (4, (p0 : Int)) rfl rfl (fun _ => rfl) rfl rfl (?_ : wp K_X8_init d Q 374 [some (4, (p0 : Int))] [(4, (p0 : Int))] _ _ _)
  obtain ⟨s5, w⟩ := w
  refine wp_virt (as := []) (a := p0) (st := []) _ rfl rfl rfl rfl rfl rfl s5 (Nat.le_of_ble_eq_true rfl) (cwv_kI w (fun v4 V3 w => ?_))
  show wp K_X8_init d Q 377 [some (4, (p0 : Int))] [(0, v4)] _ _ _
  refine wp_p (i := .pop) rfl rfl (fun _ _ _ => rfl) (?_ : wp K_X8_init d Q 378 [some (4, (p0 : Int))] [] _ _ _)
  refine wp_ld (i := (.aload_n 0)) (4, (p0 : Int)) rfl rfl (fun _ => rfl) rfl rfl (?_ : wp K_X8_init d Q 379 [some (4, (p0 : Int))] [(4, (p0 : Int))] _ _ _)
  obtain ⟨s7, w⟩ := w
  refine wp_virt (as := []) (a := p0) (st := []) _ rfl rfl rfl rfl rfl rfl s7 (Nat.le_of_ble_eq_true rfl) (cwv_k0 w (fun V6 w => ?_))
  show wp K_X8_init d Q 382 [some (4, (p0 : Int))] [] _ _ _
  exact wp_g0 rfl rfl rfl w
