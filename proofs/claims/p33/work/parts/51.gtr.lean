abbrev gO (ci : Nat) : gS := Sum.inl ci
abbrev gA (ty n : Nat) : gS := Sum.inr (ty, n)
theorem bit32 {x : Int} (h : x = 0 ∨ x = 1) : i32 x := by rcases h with h | h <;> rw [h] <;> exact ⟨by omega, by omega⟩
/-! calls that may make cells, and their answers -/
section
variable {K : gK} {d : Nat} {Q : gQ} {pc pc2 : Nat} {L : gL} {st : List zV} {G : List gS} {R V : gV}
theorem cw_kI {y : Nat} {as : List zV} {X : Int → List gS → gV → gV → Prop} (w : cw d (fun r G' R' V' => ∃ v : Int, r = some (0, v) ∧ X v G' R' V') y as G R V) (k : ∀ (v : Int) (G' : List gS) (R' V' : gV), X v G' R' V' → wp K d Q pc2 L ((0, v) :: st) G' R' V') : cw d (fun r G' R' V' => wp K d Q pc2 L (r.toList ++ st) G' R' V') y as G R V := by
  refine cw_mono (Nat.le_refl _) w (fun r G' R' V' h => ?_)
  obtain ⟨v, e3, h⟩ := h
  rw [e3]
  exact k v G' R' V' h
theorem cw_kJ {y : Nat} {as : List zV} {X : Int → List gS → gV → gV → Prop} (w : cw d (fun r G' R' V' => ∃ v : Int, r = some (2, v) ∧ X v G' R' V') y as G R V) (k : ∀ (v : Int) (G' : List gS) (R' V' : gV), X v G' R' V' → wp K d Q pc2 L ((2, v) :: st) G' R' V') : cw d (fun r G' R' V' => wp K d Q pc2 L (r.toList ++ st) G' R' V') y as G R V := by
  refine cw_mono (Nat.le_refl _) w (fun r G' R' V' h => ?_)
  obtain ⟨v, e3, h⟩ := h
  rw [e3]
  exact k v G' R' V' h
theorem cw_kA {y : Nat} {as : List zV} {X : Nat → List gS → gV → gV → Prop} (w : cw d (fun r G' R' V' => ∃ v : Nat, r = some (4, (v : Int)) ∧ X v G' R' V') y as G R V) (k : ∀ (v : Nat) (G' : List gS) (R' V' : gV), X v G' R' V' → wp K d Q pc2 L ((4, (v : Int)) :: st) G' R' V') : cw d (fun r G' R' V' => wp K d Q pc2 L (r.toList ++ st) G' R' V') y as G R V := by
  refine cw_mono (Nat.le_refl _) w (fun r G' R' V' h => ?_)
  obtain ⟨v, e3, h⟩ := h
  rw [e3]
  exact k v G' R' V' h
theorem cw_k0 {y : Nat} {as : List zV} {X : List gS → gV → gV → Prop} (w : cw d (fun r G' R' V' => r = none ∧ X G' R' V') y as G R V) (k : ∀ (G' : List gS) (R' V' : gV), X G' R' V' → wp K d Q pc2 L st G' R' V') : cw d (fun r G' R' V' => wp K d Q pc2 L (r.toList ++ st) G' R' V') y as G R V := by
  refine cw_mono (Nat.le_refl _) w (fun r G' R' V' h => ?_)
  obtain ⟨e3, h⟩ := h
  rw [e3]
  exact k G' R' V' h
theorem wp_gI {v : Int} (hp : Nat.blt pc 512 = true) (hc : K.1 pc = some .ireturn) (hk : K.2.2.2.1 = 1) (w : Q (some (0, v)) G R V) : wp K d Q pc L [(0, v)] G R V := wp_ret (w := 0) hp hc rfl (fun _ _ _ => rfl) (fun _ _ _ => by rw [hk]; rfl) w
theorem wp_gB {v : Int} (hp : Nat.blt pc 512 = true) (hc : K.1 pc = some .ireturn) (hk : K.2.2.2.1 = 2) (hb : v = 0 ∨ v = 1) (w : Q (some (0, v)) G R V) : wp K d Q pc L [(0, v)] G R V := wp_ret (w := 0) hp hc rfl (fun _ _ _ => rfl) (fun _ _ _ => by rw [hk]; simp only [hd_ret, zbit_c hb, cond_true]) w
theorem wp_gJ {v : Int} (hp : Nat.blt pc 512 = true) (hc : K.1 pc = some .lreturn) (hk : K.2.2.2.1 = 3) (w : Q (some (2, v)) G R V) : wp K d Q pc L [(2, v)] G R V := wp_ret (w := 1) hp hc rfl (fun _ _ _ => rfl) (fun _ _ _ => by rw [hk]; rfl) w
theorem wp_gA {v : Int} (hp : Nat.blt pc 512 = true) (hc : K.1 pc = some .areturn) (hk : K.2.2.2.1 = 4) (w : Q (some (4, v)) G R V) : wp K d Q pc L [(4, v)] G R V := wp_ret (w := 2) hp hc rfl (fun _ _ _ => rfl) (fun _ _ _ => by rw [hk]; rfl) w
theorem wp_g0 (hp : Nat.blt pc 512 = true) (hc : K.1 pc = some .return_) (hk : K.2.2.2.1 = 0) (w : Q none G R V) : wp K d Q pc L [] G R V := wp_ret (w := 3) hp hc rfl (fun _ _ _ => rfl) (fun _ _ _ => by rw [hk]; rfl) w
end
theorem t_X0_init_0 {d : Nat} {Q : gQ} {p0 : Nat} {G : List gS} {R V : gV} (w : (((G ++ [gA 1 300])[p0]? = some (gO 0)) ∧ (((G ++ [gA 1 300] ++ [gA 1 300])[p0]? = some (gO 0)) ∧ (((G ++ [gA 1 300] ++ [gA 1 300] ++ [gA 1 9])[p0]? = some (gO 0)) ∧ Q none (G ++ [gA 1 300] ++ [gA 1 300] ++ [gA 1 9]) (wr (wr (wr R p0 0 ((G.length : Nat) : Int)) p0 1 (((G ++ [gA 1 300]).length : Nat) : Int)) p0 2 (((G ++ [gA 1 300] ++ [gA 1 300]).length : Nat) : Int)) V)))) : wp K_X0_init d Q 0 [some (4, (p0 : Int))] [] G R V := by
  refine wp_ld (i := (.aload_n 0)) (4, (p0 : Int)) rfl rfl (fun _ => rfl) rfl rfl (?_ : wp K_X0_init d Q 1 [some (4, (p0 : Int))] [(4, (p0 : Int))] _ _ _)
  refine wp_obj rfl rfl rfl (Nat.le_of_ble_eq_true rfl) (?_ : wp K_X0_init d Q 4 [some (4, (p0 : Int))] [] _ _ _)
  refine wp_ld (i := (.aload_n 0)) (4, (p0 : Int)) rfl rfl (fun _ => rfl) rfl rfl (?_ : wp K_X0_init d Q 5 [some (4, (p0 : Int))] [(4, (p0 : Int))] _ _ _)
  refine wp_p (i := (.sipush 300)) rfl rfl (fun _ _ _ => rfl) (?_ : wp K_X0_init d Q 8 [some (4, (p0 : Int))] [(0, 300), (4, (p0 : Int))] _ _ _)
  refine wp_arr (ty := 1) (n := 2) (len := 300) rfl rfl (fun _ _ _ => rfl) (by omega) (by omega) (by omega) ?_
  show wp K_X0_init d Q 10 [some (4, (p0 : Int))] [(4, ((G.length : Nat) : Int)), (4, (p0 : Int))] _ _ _
  obtain ⟨s1, w⟩ := w
  refine wp_putA (k := 0) rfl rfl rfl s1 rfl rfl rfl (?_ : wp K_X0_init d Q 13 [some (4, (p0 : Int))] [] _ _ _)
  refine wp_ld (i := (.aload_n 0)) (4, (p0 : Int)) rfl rfl (fun _ => rfl) rfl rfl (?_ : wp K_X0_init d Q 14 [some (4, (p0 : Int))] [(4, (p0 : Int))] _ _ _)
  refine wp_p (i := (.sipush 300)) rfl rfl (fun _ _ _ => rfl) (?_ : wp K_X0_init d Q 17 [some (4, (p0 : Int))] [(0, 300), (4, (p0 : Int))] _ _ _)
  refine wp_arr (ty := 1) (n := 2) (len := 300) rfl rfl (fun _ _ _ => rfl) (by omega) (by omega) (by omega) ?_
  show wp K_X0_init d Q 19 [some (4, (p0 : Int))] [(4, _), (4, (p0 : Int))] _ _ _
  obtain ⟨s2, w⟩ := w
  refine wp_putA (k := 1) rfl rfl rfl s2 rfl rfl rfl (?_ : wp K_X0_init d Q 22 [some (4, (p0 : Int))] [] _ _ _)
  refine wp_ld (i := (.aload_n 0)) (4, (p0 : Int)) rfl rfl (fun _ => rfl) rfl rfl (?_ : wp K_X0_init d Q 23 [some (4, (p0 : Int))] [(4, (p0 : Int))] _ _ _)
  refine wp_p (i := (.bipush 9)) rfl rfl (fun _ _ _ => rfl) (?_ : wp K_X0_init d Q 25 [some (4, (p0 : Int))] [(0, 9), (4, (p0 : Int))] _ _ _)
  refine wp_arr (ty := 1) (n := 2) (len := 9) rfl rfl (fun _ _ _ => rfl) (by omega) (by omega) (by omega) ?_
  show wp K_X0_init d Q 27 [some (4, (p0 : Int))] [(4, _), (4, (p0 : Int))] _ _ _
  obtain ⟨s3, w⟩ := w
  refine wp_putA (k := 2) rfl rfl rfl s3 rfl rfl rfl (?_ : wp K_X0_init d Q 30 [some (4, (p0 : Int))] [] _ _ _)
  exact wp_g0 rfl rfl rfl w

theorem t_X1_init_0 {d : Nat} {Q : gQ} {p0 : Nat} {p1 : Nat} {G : List gS} {R V : gV} (w : (((G ++ [gA 2 8])[p0]? = some (gO 1)) ∧ (((G ++ [gA 2 8] ++ [gA 1 300])[p0]? = some (gO 1)) ∧ (((G ++ [gA 2 8] ++ [gA 1 300] ++ [gA 1 2400])[p0]? = some (gO 1)) ∧ (((G ++ [gA 2 8] ++ [gA 1 300] ++ [gA 1 2400] ++ [gA 1 2400])[p0]? = some (gO 1)) ∧ Q none (G ++ [gA 2 8] ++ [gA 1 300] ++ [gA 1 2400] ++ [gA 1 2400]) (wr (wr (wr (wr (wr R p0 1 ((G.length : Nat) : Int)) p0 2 (((G ++ [gA 2 8]).length : Nat) : Int)) p0 4 (((G ++ [gA 2 8] ++ [gA 1 300]).length : Nat) : Int)) p0 5 (((G ++ [gA 2 8] ++ [gA 1 300] ++ [gA 1 2400]).length : Nat) : Int)) p0 0 (p1 : Int)) (wr V p0 3 0)))))) : wp K_X1_init d Q 0 [some (4, (p0 : Int)), some (4, (p1 : Int))] [] G R V := by
  refine wp_ld (i := (.aload_n 0)) (4, (p0 : Int)) rfl rfl (fun _ => rfl) rfl rfl (?_ : wp K_X1_init d Q 1 [some (4, (p0 : Int)), some (4, (p1 : Int))] [(4, (p0 : Int))] _ _ _)
  refine wp_obj rfl rfl rfl (Nat.le_of_ble_eq_true rfl) (?_ : wp K_X1_init d Q 4 [some (4, (p0 : Int)), some (4, (p1 : Int))] [] _ _ _)
  refine wp_ld (i := (.aload_n 0)) (4, (p0 : Int)) rfl rfl (fun _ => rfl) rfl rfl (?_ : wp K_X1_init d Q 5 [some (4, (p0 : Int)), some (4, (p1 : Int))] [(4, (p0 : Int))] _ _ _)
  refine wp_p (i := (.bipush 8)) rfl rfl (fun _ _ _ => rfl) (?_ : wp K_X1_init d Q 7 [some (4, (p0 : Int)), some (4, (p1 : Int))] [(0, 8), (4, (p0 : Int))] _ _ _)
  refine wp_arr (ty := 2) (n := 2) (len := 8) rfl rfl (fun _ _ _ => rfl) (by omega) (by omega) (by omega) ?_
  show wp K_X1_init d Q 9 [some (4, (p0 : Int)), some (4, (p1 : Int))] [(4, ((G.length : Nat) : Int)), (4, (p0 : Int))] _ _ _
  obtain ⟨s1, w⟩ := w
  refine wp_putA (k := 1) rfl rfl rfl s1 rfl rfl rfl (?_ : wp K_X1_init d Q 12 [some (4, (p0 : Int)), some (4, (p1 : Int))] [] _ _ _)
  refine wp_ld (i := (.aload_n 0)) (4, (p0 : Int)) rfl rfl (fun _ => rfl) rfl rfl (?_ : wp K_X1_init d Q 13 [some (4, (p0 : Int)), some (4, (p1 : Int))] [(4, (p0 : Int))] _ _ _)
  refine wp_p (i := (.sipush 300)) rfl rfl (fun _ _ _ => rfl) (?_ : wp K_X1_init d Q 16 [some (4, (p0 : Int)), some (4, (p1 : Int))] [(0, 300), (4, (p0 : Int))] _ _ _)
  refine wp_arr (ty := 1) (n := 2) (len := 300) rfl rfl (fun _ _ _ => rfl) (by omega) (by omega) (by omega) ?_
  show wp K_X1_init d Q 18 [some (4, (p0 : Int)), some (4, (p1 : Int))] [(4, _), (4, (p0 : Int))] _ _ _
  obtain ⟨s2, w⟩ := w
  refine wp_putA (k := 2) rfl rfl rfl s2 rfl rfl rfl (?_ : wp K_X1_init d Q 21 [some (4, (p0 : Int)), some (4, (p1 : Int))] [] _ _ _)
  refine wp_ld (i := (.aload_n 0)) (4, (p0 : Int)) rfl rfl (fun _ => rfl) rfl rfl (?_ : wp K_X1_init d Q 22 [some (4, (p0 : Int)), some (4, (p1 : Int))] [(4, (p0 : Int))] _ _ _)
  refine wp_p (i := (.iconst 0)) rfl rfl (fun _ _ _ => rfl) (?_ : wp K_X1_init d Q 23 [some (4, (p0 : Int)), some (4, (p1 : Int))] [(0, 0), (4, (p0 : Int))] _ _ _)
  refine wp_putI (k := 3) rfl rfl rfl s2 rfl rfl rfl ⟨by omega, by omega⟩ (?_ : wp K_X1_init d Q 26 [some (4, (p0 : Int)), some (4, (p1 : Int))] [] _ _ _)
  refine wp_ld (i := (.aload_n 0)) (4, (p0 : Int)) rfl rfl (fun _ => rfl) rfl rfl (?_ : wp K_X1_init d Q 27 [some (4, (p0 : Int)), some (4, (p1 : Int))] [(4, (p0 : Int))] _ _ _)
  refine wp_p (i := (.sipush 2400)) rfl rfl (fun _ _ _ => rfl) (?_ : wp K_X1_init d Q 30 [some (4, (p0 : Int)), some (4, (p1 : Int))] [(0, 2400), (4, (p0 : Int))] _ _ _)
  refine wp_arr (ty := 1) (n := 2) (len := 2400) rfl rfl (fun _ _ _ => rfl) (by omega) (by omega) (by omega) ?_
  show wp K_X1_init d Q 32 [some (4, (p0 : Int)), some (4, (p1 : Int))] [(4, _), (4, (p0 : Int))] _ _ _
  obtain ⟨s3, w⟩ := w
  refine wp_putA (k := 4) rfl rfl rfl s3 rfl rfl rfl (?_ : wp K_X1_init d Q 35 [some (4, (p0 : Int)), some (4, (p1 : Int))] [] _ _ _)
  refine wp_ld (i := (.aload_n 0)) (4, (p0 : Int)) rfl rfl (fun _ => rfl) rfl rfl (?_ : wp K_X1_init d Q 36 [some (4, (p0 : Int)), some (4, (p1 : Int))] [(4, (p0 : Int))] _ _ _)
  refine wp_p (i := (.sipush 2400)) rfl rfl (fun _ _ _ => rfl) (?_ : wp K_X1_init d Q 39 [some (4, (p0 : Int)), some (4, (p1 : Int))] [(0, 2400), (4, (p0 : Int))] _ _ _)
  refine wp_arr (ty := 1) (n := 2) (len := 2400) rfl rfl (fun _ _ _ => rfl) (by omega) (by omega) (by omega) ?_
  show wp K_X1_init d Q 41 [some (4, (p0 : Int)), some (4, (p1 : Int))] [(4, _), (4, (p0 : Int))] _ _ _
  obtain ⟨s4, w⟩ := w
  refine wp_putA (k := 5) rfl rfl rfl s4 rfl rfl rfl (?_ : wp K_X1_init d Q 44 [some (4, (p0 : Int)), some (4, (p1 : Int))] [] _ _ _)
  refine wp_ld (i := (.aload_n 0)) (4, (p0 : Int)) rfl rfl (fun _ => rfl) rfl rfl (?_ : wp K_X1_init d Q 45 [some (4, (p0 : Int)), some (4, (p1 : Int))] [(4, (p0 : Int))] _ _ _)
  refine wp_ld (i := (.aload_n 1)) (4, (p1 : Int)) rfl rfl (fun _ => rfl) rfl rfl (?_ : wp K_X1_init d Q 46 [some (4, (p0 : Int)), some (4, (p1 : Int))] [(4, (p1 : Int)), (4, (p0 : Int))] _ _ _)
  refine wp_putA (k := 0) rfl rfl rfl s4 rfl rfl rfl (?_ : wp K_X1_init d Q 49 [some (4, (p0 : Int)), some (4, (p1 : Int))] [] _ _ _)
  exact wp_g0 rfl rfl rfl w

theorem t_X1_startWith_0 {d : Nat} {Q : gQ} {p0 : Nat} {p1 : Nat} {G : List gS} {R V : gV} (w : ((G[p0]? = some (gO 1)) ∧ wp K_X1_startWith d Q 12 [some (4, (p0 : Int)), none, some (0, 0)] [] G (wr R p0 0 (p1 : Int)) (wr V p0 3 0))) : wp K_X1_startWith d Q 0 [some (4, (p0 : Int)), some (4, (p1 : Int))] [] G R V := by
  refine wp_ld (i := (.aload_n 0)) (4, (p0 : Int)) rfl rfl (fun _ => rfl) rfl rfl (?_ : wp K_X1_startWith d Q 1 [some (4, (p0 : Int)), some (4, (p1 : Int))] [(4, (p0 : Int))] _ _ _)
  refine wp_ld (i := (.aload_n 1)) (4, (p1 : Int)) rfl rfl (fun _ => rfl) rfl rfl (?_ : wp K_X1_startWith d Q 2 [some (4, (p0 : Int)), some (4, (p1 : Int))] [(4, (p1 : Int)), (4, (p0 : Int))] _ _ _)
  obtain ⟨s1, w⟩ := w
  refine wp_putA (k := 0) rfl rfl rfl s1 rfl rfl rfl (?_ : wp K_X1_startWith d Q 5 [some (4, (p0 : Int)), some (4, (p1 : Int))] [] _ _ _)
  refine wp_ld (i := (.aload_n 0)) (4, (p0 : Int)) rfl rfl (fun _ => rfl) rfl rfl (?_ : wp K_X1_startWith d Q 6 [some (4, (p0 : Int)), some (4, (p1 : Int))] [(4, (p0 : Int))] _ _ _)
  refine wp_p (i := (.iconst 0)) rfl rfl (fun _ _ _ => rfl) (?_ : wp K_X1_startWith d Q 7 [some (4, (p0 : Int)), some (4, (p1 : Int))] [(0, 0), (4, (p0 : Int))] _ _ _)
  refine wp_putI (k := 3) rfl rfl rfl s1 rfl rfl rfl ⟨by omega, by omega⟩ (?_ : wp K_X1_startWith d Q 10 [some (4, (p0 : Int)), some (4, (p1 : Int))] [] _ _ _)
  refine wp_p (i := (.iconst 0)) rfl rfl (fun _ _ _ => rfl) (?_ : wp K_X1_startWith d Q 11 [some (4, (p0 : Int)), some (4, (p1 : Int))] [(0, 0)] _ _ _)
  refine wp_sto (i := (.istore_n 2)) _ rfl rfl (fun _ => rfl) rfl rfl rfl ?_
  refine wp_wk (L' := [some (4, (p0 : Int)), some (4, (p1 : Int)), some (0, 0)]) (wk_s (wk_s (wk_s wk_0))) ?_
  show wp K_X1_startWith d Q 12 [some (4, (p0 : Int)), some (4, (p1 : Int)), some (0, 0)] [] _ _ _
  exact wp_wk (wk_s (wk_n (wk_s wk_0))) w

theorem t_X1_startWith_12 {d : Nat} {Q : gQ} {p0 : Nat} {x2 : Int} {G : List gS} {R V : gV} (w : ((i32 x2) ∧ (((¬ x2 < 8) → Q none G R V) ∧ ((x2 < 8) → ((G[p0]? = some (gO 1)) ∧ (∃ b3 : Nat, (R p0 1 = (b3 : Int)) ∧ (∃ n4_ : Nat, (G[b3]? = some (gA 2 n4_)) ∧ (((0 : Int) ≤ x2 ∧ x2 < (n4_ : Int)) ∧ ((i32 (x2 + 1)) ∧ wp K_X1_startWith d Q 12 [some (4, (p0 : Int)), none, some (0, (x2 + 1))] [] G R (wr V b3 x2 0)))))))))) : wp K_X1_startWith d Q 12 [some (4, (p0 : Int)), none, some (0, x2)] [] G R V := by
  refine wp_ld (i := (.iload_n 2)) (0, x2) rfl rfl (fun _ => rfl) rfl rfl (?_ : wp K_X1_startWith d Q 13 [some (4, (p0 : Int)), none, some (0, x2)] [(0, x2)] _ _ _)
  refine wp_p (i := (.bipush 8)) rfl rfl (fun _ _ _ => rfl) (?_ : wp K_X1_startWith d Q 15 [some (4, (p0 : Int)), none, some (0, x2)] [(0, 8), (0, x2)] _ _ _)
  obtain ⟨s1, w⟩ := w
  refine wp_icmp (c := .ge) 31 rfl rfl rfl s1 ⟨by omega, by omega⟩ (fun q => ?_) (fun q => ?_)
  · have q : ¬ x2 < 8 := q
    replace w := w.1 q
    show wp K_X1_startWith d Q 31 [some (4, (p0 : Int)), none, some (0, x2)] [] _ _ _
    exact wp_g0 rfl rfl rfl w
  · have q : x2 < 8 := Decidable.not_not.mp q
    replace w := w.2 q
    show wp K_X1_startWith d Q 18 [some (4, (p0 : Int)), none, some (0, x2)] [] _ _ _
    refine wp_ld (i := (.aload_n 0)) (4, (p0 : Int)) rfl rfl (fun _ => rfl) rfl rfl (?_ : wp K_X1_startWith d Q 19 [some (4, (p0 : Int)), none, some (0, x2)] [(4, (p0 : Int))] _ _ _)
    obtain ⟨s2, w⟩ := w
    obtain ⟨b3, r3, w⟩ := w
    refine wp_getA (k := 1) rfl rfl rfl s2 rfl rfl r3 (?_ : wp K_X1_startWith d Q 22 [some (4, (p0 : Int)), none, some (0, x2)] [(4, (b3 : Int))] _ _ _)
    refine wp_ld (i := (.iload_n 2)) (0, x2) rfl rfl (fun _ => rfl) rfl rfl (?_ : wp K_X1_startWith d Q 23 [some (4, (p0 : Int)), none, some (0, x2)] [(0, x2), (4, (b3 : Int))] _ _ _)
    refine wp_p (i := (.iconst 0)) rfl rfl (fun _ _ _ => rfl) (?_ : wp K_X1_startWith d Q 24 [some (4, (p0 : Int)), none, some (0, x2)] [(0, 0), (0, x2), (4, (b3 : Int))] _ _ _)
    obtain ⟨n4_, g4_, w⟩ := w
    obtain ⟨s5, w⟩ := w
    refine wp_sB rfl rfl g4_ s5 (by omega) (?_ : wp K_X1_startWith d Q 25 [some (4, (p0 : Int)), none, some (0, x2)] [] _ _ _)
    obtain ⟨s6, w⟩ := w
    refine wp_inc (x := 2) (k := 1) (a := x2) (c := (x2 + 1)) _ rfl rfl rfl rfl s6 (by omega) rfl ?_
    show wp K_X1_startWith d Q 28 [some (4, (p0 : Int)), none, some (0, (x2 + 1))] [] _ _ _
    refine wp_go 12 rfl rfl rfl (?_ : wp K_X1_startWith d Q 12 [some (4, (p0 : Int)), none, some (0, (x2 + 1))] [] _ _ _)
    exact wp_wk (wk_s (wk_n (wk_s wk_0))) w

theorem t_X1_copyFrom_0 {d : Nat} {Q : gQ} {p0 : Nat} {p1 : Nat} {G : List gS} {R V : gV} (w : ((G[p1]? = some (gO 1)) ∧ (∃ b2 : Nat, (R p1 0 = (b2 : Int)) ∧ ((G[p0]? = some (gO 1)) ∧ ((i32 (V p1 3)) → (∃ b6 : Nat, ((wr R p0 0 (b2 : Int)) p1 2 = (b6 : Int)) ∧ (∃ b7 : Nat, ((wr R p0 0 (b2 : Int)) p0 2 = (b7 : Int)) ∧ ((i32 ((wr V p0 3 ((V p1 3))) p0 3)) → (∃ n10_ : Nat, (G[b6]? = some (gA 1 n10_)) ∧ (∃ n11_ : Nat, (G[b7]? = some (gA 1 n11_)) ∧ (((0 : Int) ≤ ((wr V p0 3 ((V p1 3))) p0 3) ∧ (0 : Int) ≤ 0 ∧ (0 : Int) ≤ 0 ∧ 0 + ((wr V p0 3 ((V p1 3))) p0 3) ≤ n10_ ∧ 0 + ((wr V p0 3 ((V p1 3))) p0 3) ≤ n11_) ∧ wp K_X1_copyFrom d Q 35 [some (4, (p0 : Int)), some (4, (p1 : Int)), some (0, 0)] [] G (wr R p0 0 (b2 : Int)) (cpy (wr V p0 3 ((V p1 3))) b6 0 b7 0 (((wr V p0 3 ((V p1 3))) p0 3)))))))))))))) : wp K_X1_copyFrom d Q 0 [some (4, (p0 : Int)), some (4, (p1 : Int))] [] G R V := by
  refine wp_ld (i := (.aload_n 0)) (4, (p0 : Int)) rfl rfl (fun _ => rfl) rfl rfl (?_ : wp K_X1_copyFrom d Q 1 [some (4, (p0 : Int)), some (4, (p1 : Int))] [(4, (p0 : Int))] _ _ _)
  refine wp_ld (i := (.aload_n 1)) (4, (p1 : Int)) rfl rfl (fun _ => rfl) rfl rfl (?_ : wp K_X1_copyFrom d Q 2 [some (4, (p0 : Int)), some (4, (p1 : Int))] [(4, (p1 : Int)), (4, (p0 : Int))] _ _ _)
  obtain ⟨s1, w⟩ := w
  obtain ⟨b2, r2, w⟩ := w
  refine wp_getA (k := 0) rfl rfl rfl s1 rfl rfl r2 (?_ : wp K_X1_copyFrom d Q 5 [some (4, (p0 : Int)), some (4, (p1 : Int))] [(4, (b2 : Int)), (4, (p0 : Int))] _ _ _)
  obtain ⟨s3, w⟩ := w
  refine wp_putA (k := 0) rfl rfl rfl s3 rfl rfl rfl (?_ : wp K_X1_copyFrom d Q 8 [some (4, (p0 : Int)), some (4, (p1 : Int))] [] _ _ _)
  refine wp_ld (i := (.aload_n 0)) (4, (p0 : Int)) rfl rfl (fun _ => rfl) rfl rfl (?_ : wp K_X1_copyFrom d Q 9 [some (4, (p0 : Int)), some (4, (p1 : Int))] [(4, (p0 : Int))] _ _ _)
  refine wp_ld (i := (.aload_n 1)) (4, (p1 : Int)) rfl rfl (fun _ => rfl) rfl rfl (?_ : wp K_X1_copyFrom d Q 10 [some (4, (p0 : Int)), some (4, (p1 : Int))] [(4, (p1 : Int)), (4, (p0 : Int))] _ _ _)
  refine wp_rng (fun vr4 => ?_)
  have f5 : i32 (V p1 3) := vr_f0 vr4 s1 rfl rfl
  replace w := w f5
  refine wp_getI (k := 3) rfl rfl rfl s1 rfl rfl (?_ : wp K_X1_copyFrom d Q 13 [some (4, (p0 : Int)), some (4, (p1 : Int))] [(0, (V p1 3)), (4, (p0 : Int))] _ _ _)
  refine wp_putI (k := 3) rfl rfl rfl s3 rfl rfl rfl f5 (?_ : wp K_X1_copyFrom d Q 16 [some (4, (p0 : Int)), some (4, (p1 : Int))] [] _ _ _)
  refine wp_ld (i := (.aload_n 1)) (4, (p1 : Int)) rfl rfl (fun _ => rfl) rfl rfl (?_ : wp K_X1_copyFrom d Q 17 [some (4, (p0 : Int)), some (4, (p1 : Int))] [(4, (p1 : Int))] _ _ _)
  obtain ⟨b6, r6, w⟩ := w
  refine wp_getA (k := 2) rfl rfl rfl s1 rfl rfl r6 (?_ : wp K_X1_copyFrom d Q 20 [some (4, (p0 : Int)), some (4, (p1 : Int))] [(4, (b6 : Int))] _ _ _)
  refine wp_p (i := (.iconst 0)) rfl rfl (fun _ _ _ => rfl) (?_ : wp K_X1_copyFrom d Q 21 [some (4, (p0 : Int)), some (4, (p1 : Int))] [(0, 0), (4, (b6 : Int))] _ _ _)
  refine wp_ld (i := (.aload_n 0)) (4, (p0 : Int)) rfl rfl (fun _ => rfl) rfl rfl (?_ : wp K_X1_copyFrom d Q 22 [some (4, (p0 : Int)), some (4, (p1 : Int))] [(4, (p0 : Int)), (0, 0), (4, (b6 : Int))] _ _ _)
  obtain ⟨b7, r7, w⟩ := w
  refine wp_getA (k := 2) rfl rfl rfl s3 rfl rfl r7 (?_ : wp K_X1_copyFrom d Q 25 [some (4, (p0 : Int)), some (4, (p1 : Int))] [(4, (b7 : Int)), (0, 0), (4, (b6 : Int))] _ _ _)
  refine wp_p (i := (.iconst 0)) rfl rfl (fun _ _ _ => rfl) (?_ : wp K_X1_copyFrom d Q 26 [some (4, (p0 : Int)), some (4, (p1 : Int))] [(0, 0), (4, (b7 : Int)), (0, 0), (4, (b6 : Int))] _ _ _)
  refine wp_ld (i := (.aload_n 0)) (4, (p0 : Int)) rfl rfl (fun _ => rfl) rfl rfl (?_ : wp K_X1_copyFrom d Q 27 [some (4, (p0 : Int)), some (4, (p1 : Int))] [(4, (p0 : Int)), (0, 0), (4, (b7 : Int)), (0, 0), (4, (b6 : Int))] _ _ _)
  refine wp_rng (fun vr8 => ?_)
  have f9 : i32 ((wr V p0 3 ((V p1 3))) p0 3) := vr_f0 vr8 s3 rfl rfl
  replace w := w f9
  refine wp_getI (k := 3) rfl rfl rfl s3 rfl rfl (?_ : wp K_X1_copyFrom d Q 30 [some (4, (p0 : Int)), some (4, (p1 : Int))] [(0, ((wr V p0 3 ((V p1 3))) p0 3)), (0, 0), (4, (b7 : Int)), (0, 0), (4, (b6 : Int))] _ _ _)
  obtain ⟨n10_, g10_, w⟩ := w
  obtain ⟨n11_, g11_, w⟩ := w
  obtain ⟨s12, w⟩ := w
  refine wp_copy rfl rfl rfl (Nat.le_of_ble_eq_true rfl) g10_ g11_ s12 (?_ : wp K_X1_copyFrom d Q 33 [some (4, (p0 : Int)), some (4, (p1 : Int))] [] _ _ _)
  refine wp_p (i := (.iconst 0)) rfl rfl (fun _ _ _ => rfl) (?_ : wp K_X1_copyFrom d Q 34 [some (4, (p0 : Int)), some (4, (p1 : Int))] [(0, 0)] _ _ _)
  refine wp_sto (i := (.istore_n 2)) _ rfl rfl (fun _ => rfl) rfl rfl rfl ?_
  refine wp_wk (L' := [some (4, (p0 : Int)), some (4, (p1 : Int)), some (0, 0)]) (wk_s (wk_s (wk_s wk_0))) ?_
  show wp K_X1_copyFrom d Q 35 [some (4, (p0 : Int)), some (4, (p1 : Int)), some (0, 0)] [] _ _ _
  exact wp_wk (wk_s (wk_s (wk_s wk_0))) w

theorem t_X1_copyFrom_35 {d : Nat} {Q : gQ} {p0 : Nat} {p1 : Nat} {x2 : Int} {G : List gS} {R V : gV} (w : ((i32 x2) ∧ (((¬ x2 < 8) → Q none G R V) ∧ ((x2 < 8) → ((G[p0]? = some (gO 1)) ∧ (∃ b3 : Nat, (R p0 1 = (b3 : Int)) ∧ ((G[p1]? = some (gO 1)) ∧ (∃ b5 : Nat, (R p1 1 = (b5 : Int)) ∧ (∃ n6_ : Nat, (G[b5]? = some (gA 2 n6_)) ∧ (((0 : Int) ≤ x2 ∧ x2 < (n6_ : Int)) ∧ (((V b5 x2) = 0 ∨ (V b5 x2) = 1) → (∃ n11_ : Nat, (G[b3]? = some (gA 2 n11_)) ∧ (((0 : Int) ≤ x2 ∧ x2 < (n11_ : Int)) ∧ ((((wr V b3 x2 ((V b5 x2))) b3 x2) = 0 ∨ ((wr V b3 x2 ((V b5 x2))) b3 x2) = 1) → (((((wr V b3 x2 ((V b5 x2))) b3 x2) = 0) → ((i32 (x2 + 1)) ∧ wp K_X1_copyFrom d Q 35 [some (4, (p0 : Int)), some (4, (p1 : Int)), some (0, (x2 + 1))] [] G R (wr V b3 x2 ((V b5 x2))))) ∧ ((¬ ((wr V b3 x2 ((V b5 x2))) b3 x2) = 0) → ((i32 (x2 * 300)) ∧ (∃ b18 : Nat, (R p1 4 = (b18 : Int)) ∧ (∃ b19 : Nat, (R p0 4 = (b19 : Int)) ∧ (∃ b20 : Nat, (R p0 0 = (b20 : Int)) ∧ ((G[b20]? = some (gO 2)) ∧ (∃ b22 : Nat, (R b20 1 = (b22 : Int)) ∧ ((G[b22]? = some (gO 4)) ∧ ((i32 ((wr V b3 x2 ((V b5 x2))) b22 1)) → (∃ n25_ : Nat, (G[b18]? = some (gA 1 n25_)) ∧ (∃ n26_ : Nat, (G[b19]? = some (gA 1 n26_)) ∧ (((0 : Int) ≤ ((wr V b3 x2 ((V b5 x2))) b22 1) ∧ (0 : Int) ≤ (x2 * 300) ∧ (0 : Int) ≤ (x2 * 300) ∧ (x2 * 300) + ((wr V b3 x2 ((V b5 x2))) b22 1) ≤ n25_ ∧ (x2 * 300) + ((wr V b3 x2 ((V b5 x2))) b22 1) ≤ n26_) ∧ (∃ b28 : Nat, (R p1 5 = (b28 : Int)) ∧ (∃ b29 : Nat, (R p0 5 = (b29 : Int)) ∧ ((i32 ((cpy (wr V b3 x2 ((V b5 x2))) b18 ((x2 * 300)) b19 ((x2 * 300)) (((wr V b3 x2 ((V b5 x2))) b22 1))) b22 1)) → (∃ n32_ : Nat, (G[b28]? = some (gA 1 n32_)) ∧ (∃ n33_ : Nat, (G[b29]? = some (gA 1 n33_)) ∧ (((0 : Int) ≤ ((cpy (wr V b3 x2 ((V b5 x2))) b18 ((x2 * 300)) b19 ((x2 * 300)) (((wr V b3 x2 ((V b5 x2))) b22 1))) b22 1) ∧ (0 : Int) ≤ (x2 * 300) ∧ (0 : Int) ≤ (x2 * 300) ∧ (x2 * 300) + ((cpy (wr V b3 x2 ((V b5 x2))) b18 ((x2 * 300)) b19 ((x2 * 300)) (((wr V b3 x2 ((V b5 x2))) b22 1))) b22 1) ≤ n32_ ∧ (x2 * 300) + ((cpy (wr V b3 x2 ((V b5 x2))) b18 ((x2 * 300)) b19 ((x2 * 300)) (((wr V b3 x2 ((V b5 x2))) b22 1))) b22 1) ≤ n33_) ∧ ((i32 (x2 + 1)) ∧ wp K_X1_copyFrom d Q 35 [some (4, (p0 : Int)), some (4, (p1 : Int)), some (0, (x2 + 1))] [] G R (cpy (cpy (wr V b3 x2 ((V b5 x2))) b18 ((x2 * 300)) b19 ((x2 * 300)) (((wr V b3 x2 ((V b5 x2))) b22 1))) b28 ((x2 * 300)) b29 ((x2 * 300)) (((cpy (wr V b3 x2 ((V b5 x2))) b18 ((x2 * 300)) b19 ((x2 * 300)) (((wr V b3 x2 ((V b5 x2))) b22 1))) b22 1))))))))))))))))))))))))))))))))))))) : wp K_X1_copyFrom d Q 35 [some (4, (p0 : Int)), some (4, (p1 : Int)), some (0, x2)] [] G R V := by
  refine wp_ld (i := (.iload_n 2)) (0, x2) rfl rfl (fun _ => rfl) rfl rfl (?_ : wp K_X1_copyFrom d Q 36 [some (4, (p0 : Int)), some (4, (p1 : Int)), some (0, x2)] [(0, x2)] _ _ _)
  refine wp_p (i := (.bipush 8)) rfl rfl (fun _ _ _ => rfl) (?_ : wp K_X1_copyFrom d Q 38 [some (4, (p0 : Int)), some (4, (p1 : Int)), some (0, x2)] [(0, 8), (0, x2)] _ _ _)
  obtain ⟨s1, w⟩ := w
  refine wp_icmp (c := .ge) 120 rfl rfl rfl s1 ⟨by omega, by omega⟩ (fun q => ?_) (fun q => ?_)
  · have q : ¬ x2 < 8 := q
    replace w := w.1 q
    show wp K_X1_copyFrom d Q 120 [some (4, (p0 : Int)), some (4, (p1 : Int)), some (0, x2)] [] _ _ _
    exact wp_g0 rfl rfl rfl w
  · have q : x2 < 8 := Decidable.not_not.mp q
    replace w := w.2 q
    show wp K_X1_copyFrom d Q 41 [some (4, (p0 : Int)), some (4, (p1 : Int)), some (0, x2)] [] _ _ _
    refine wp_ld (i := (.aload_n 0)) (4, (p0 : Int)) rfl rfl (fun _ => rfl) rfl rfl (?_ : wp K_X1_copyFrom d Q 42 [some (4, (p0 : Int)), some (4, (p1 : Int)), some (0, x2)] [(4, (p0 : Int))] _ _ _)
    obtain ⟨s2, w⟩ := w
    obtain ⟨b3, r3, w⟩ := w
    refine wp_getA (k := 1) rfl rfl rfl s2 rfl rfl r3 (?_ : wp K_X1_copyFrom d Q 45 [some (4, (p0 : Int)), some (4, (p1 : Int)), some (0, x2)] [(4, (b3 : Int))] _ _ _)
    refine wp_ld (i := (.iload_n 2)) (0, x2) rfl rfl (fun _ => rfl) rfl rfl (?_ : wp K_X1_copyFrom d Q 46 [some (4, (p0 : Int)), some (4, (p1 : Int)), some (0, x2)] [(0, x2), (4, (b3 : Int))] _ _ _)
    refine wp_ld (i := (.aload_n 1)) (4, (p1 : Int)) rfl rfl (fun _ => rfl) rfl rfl (?_ : wp K_X1_copyFrom d Q 47 [some (4, (p0 : Int)), some (4, (p1 : Int)), some (0, x2)] [(4, (p1 : Int)), (0, x2), (4, (b3 : Int))] _ _ _)
    obtain ⟨s4, w⟩ := w
    obtain ⟨b5, r5, w⟩ := w
    refine wp_getA (k := 1) rfl rfl rfl s4 rfl rfl r5 (?_ : wp K_X1_copyFrom d Q 50 [some (4, (p0 : Int)), some (4, (p1 : Int)), some (0, x2)] [(4, (b5 : Int)), (0, x2), (4, (b3 : Int))] _ _ _)
    refine wp_ld (i := (.iload_n 2)) (0, x2) rfl rfl (fun _ => rfl) rfl rfl (?_ : wp K_X1_copyFrom d Q 51 [some (4, (p0 : Int)), some (4, (p1 : Int)), some (0, x2)] [(0, x2), (4, (b5 : Int)), (0, x2), (4, (b3 : Int))] _ _ _)
    obtain ⟨n6_, g6_, w⟩ := w
    obtain ⟨s7, w⟩ := w
    refine wp_rng (fun vr8 => ?_)
    have f9 : (V b5 x2) = 0 ∨ (V b5 x2) = 1 := vr_a2 vr8 g6_ s7
    replace w := w f9
    have f10 : i32 (V b5 x2) := bit32 f9
    refine wp_aB rfl rfl g6_ s7 (?_ : wp K_X1_copyFrom d Q 52 [some (4, (p0 : Int)), some (4, (p1 : Int)), some (0, x2)] [(0, (V b5 x2)), (0, x2), (4, (b3 : Int))] _ _ _)
    obtain ⟨n11_, g11_, w⟩ := w
    obtain ⟨s12, w⟩ := w
    refine wp_sB rfl rfl g11_ s12 f9 (?_ : wp K_X1_copyFrom d Q 53 [some (4, (p0 : Int)), some (4, (p1 : Int)), some (0, x2)] [] _ _ _)
    refine wp_ld (i := (.aload_n 0)) (4, (p0 : Int)) rfl rfl (fun _ => rfl) rfl rfl (?_ : wp K_X1_copyFrom d Q 54 [some (4, (p0 : Int)), some (4, (p1 : Int)), some (0, x2)] [(4, (p0 : Int))] _ _ _)
    refine wp_getA (k := 1) rfl rfl rfl s2 rfl rfl r3 (?_ : wp K_X1_copyFrom d Q 57 [some (4, (p0 : Int)), some (4, (p1 : Int)), some (0, x2)] [(4, (b3 : Int))] _ _ _)
    refine wp_ld (i := (.iload_n 2)) (0, x2) rfl rfl (fun _ => rfl) rfl rfl (?_ : wp K_X1_copyFrom d Q 58 [some (4, (p0 : Int)), some (4, (p1 : Int)), some (0, x2)] [(0, x2), (4, (b3 : Int))] _ _ _)
    refine wp_rng (fun vr13 => ?_)
    have f14 : ((wr V b3 x2 ((V b5 x2))) b3 x2) = 0 ∨ ((wr V b3 x2 ((V b5 x2))) b3 x2) = 1 := vr_a2 vr13 g11_ s12
    replace w := w f14
    have f15 : i32 ((wr V b3 x2 ((V b5 x2))) b3 x2) := bit32 f14
    refine wp_aB rfl rfl g11_ s12 (?_ : wp K_X1_copyFrom d Q 59 [some (4, (p0 : Int)), some (4, (p1 : Int)), some (0, x2)] [(0, ((wr V b3 x2 ((V b5 x2))) b3 x2))] _ _ _)
    refine wp_if (c := .eq) 114 rfl rfl rfl f15 (fun q => ?_) (fun q => ?_)
    · have q : ((wr V b3 x2 ((V b5 x2))) b3 x2) = 0 := q
      replace w := w.1 q
      show wp K_X1_copyFrom d Q 114 [some (4, (p0 : Int)), some (4, (p1 : Int)), some (0, x2)] [] _ _ _
      obtain ⟨s16, w⟩ := w
      refine wp_inc (x := 2) (k := 1) (a := x2) (c := (x2 + 1)) _ rfl rfl rfl rfl s16 (by omega) rfl ?_
      show wp K_X1_copyFrom d Q 117 [some (4, (p0 : Int)), some (4, (p1 : Int)), some (0, (x2 + 1))] [] _ _ _
      refine wp_go 35 rfl rfl rfl (?_ : wp K_X1_copyFrom d Q 35 [some (4, (p0 : Int)), some (4, (p1 : Int)), some (0, (x2 + 1))] [] _ _ _)
      exact wp_wk (wk_s (wk_s (wk_s wk_0))) w
    · have q : ¬ ((wr V b3 x2 ((V b5 x2))) b3 x2) = 0 := q
      replace w := w.2 q
      show wp K_X1_copyFrom d Q 62 [some (4, (p0 : Int)), some (4, (p1 : Int)), some (0, x2)] [] _ _ _
      refine wp_ld (i := (.iload_n 2)) (0, x2) rfl rfl (fun _ => rfl) rfl rfl (?_ : wp K_X1_copyFrom d Q 63 [some (4, (p0 : Int)), some (4, (p1 : Int)), some (0, x2)] [(0, x2)] _ _ _)
      refine wp_p (i := (.sipush 300)) rfl rfl (fun _ _ _ => rfl) (?_ : wp K_X1_copyFrom d Q 66 [some (4, (p0 : Int)), some (4, (p1 : Int)), some (0, x2)] [(0, 300), (0, x2)] _ _ _)
      obtain ⟨s17, w⟩ := w
      refine wp_xmul rfl rfl s17 (?_ : wp K_X1_copyFrom d Q 67 [some (4, (p0 : Int)), some (4, (p1 : Int)), some (0, x2)] [(0, (x2 * 300))] _ _ _)
      refine wp_sto (i := (.istore_n 3)) _ rfl rfl (fun _ => rfl) rfl rfl rfl ?_
      refine wp_wk (L' := [some (4, (p0 : Int)), some (4, (p1 : Int)), some (0, x2), some (0, (x2 * 300))]) (wk_s (wk_s (wk_s (wk_s wk_0)))) ?_
      show wp K_X1_copyFrom d Q 68 [some (4, (p0 : Int)), some (4, (p1 : Int)), some (0, x2), some (0, (x2 * 300))] [] _ _ _
      refine wp_ld (i := (.aload_n 1)) (4, (p1 : Int)) rfl rfl (fun _ => rfl) rfl rfl (?_ : wp K_X1_copyFrom d Q 69 [some (4, (p0 : Int)), some (4, (p1 : Int)), some (0, x2), some (0, (x2 * 300))] [(4, (p1 : Int))] _ _ _)
      obtain ⟨b18, r18, w⟩ := w
      refine wp_getA (k := 4) rfl rfl rfl s4 rfl rfl r18 (?_ : wp K_X1_copyFrom d Q 72 [some (4, (p0 : Int)), some (4, (p1 : Int)), some (0, x2), some (0, (x2 * 300))] [(4, (b18 : Int))] _ _ _)
      refine wp_ld (i := (.iload_n 3)) (0, (x2 * 300)) rfl rfl (fun _ => rfl) rfl rfl (?_ : wp K_X1_copyFrom d Q 73 [some (4, (p0 : Int)), some (4, (p1 : Int)), some (0, x2), some (0, (x2 * 300))] [(0, (x2 * 300)), (4, (b18 : Int))] _ _ _)
      refine wp_ld (i := (.aload_n 0)) (4, (p0 : Int)) rfl rfl (fun _ => rfl) rfl rfl (?_ : wp K_X1_copyFrom d Q 74 [some (4, (p0 : Int)), some (4, (p1 : Int)), some (0, x2), some (0, (x2 * 300))] [(4, (p0 : Int)), (0, (x2 * 300)), (4, (b18 : Int))] _ _ _)
      obtain ⟨b19, r19, w⟩ := w
      refine wp_getA (k := 4) rfl rfl rfl s2 rfl rfl r19 (?_ : wp K_X1_copyFrom d Q 77 [some (4, (p0 : Int)), some (4, (p1 : Int)), some (0, x2), some (0, (x2 * 300))] [(4, (b19 : Int)), (0, (x2 * 300)), (4, (b18 : Int))] _ _ _)
      refine wp_ld (i := (.iload_n 3)) (0, (x2 * 300)) rfl rfl (fun _ => rfl) rfl rfl (?_ : wp K_X1_copyFrom d Q 78 [some (4, (p0 : Int)), some (4, (p1 : Int)), some (0, x2), some (0, (x2 * 300))] [(0, (x2 * 300)), (4, (b19 : Int)), (0, (x2 * 300)), (4, (b18 : Int))] _ _ _)
      refine wp_ld (i := (.aload_n 0)) (4, (p0 : Int)) rfl rfl (fun _ => rfl) rfl rfl (?_ : wp K_X1_copyFrom d Q 79 [some (4, (p0 : Int)), some (4, (p1 : Int)), some (0, x2), some (0, (x2 * 300))] [(4, (p0 : Int)), (0, (x2 * 300)), (4, (b19 : Int)), (0, (x2 * 300)), (4, (b18 : Int))] _ _ _)
      obtain ⟨b20, r20, w⟩ := w
      refine wp_getA (k := 0) rfl rfl rfl s2 rfl rfl r20 (?_ : wp K_X1_copyFrom d Q 82 [some (4, (p0 : Int)), some (4, (p1 : Int)), some (0, x2), some (0, (x2 * 300))] [(4, (b20 : Int)), (0, (x2 * 300)), (4, (b19 : Int)), (0, (x2 * 300)), (4, (b18 : Int))] _ _ _)
      obtain ⟨s21, w⟩ := w
      obtain ⟨b22, r22, w⟩ := w
      refine wp_getA (k := 1) rfl rfl rfl s21 rfl rfl r22 (?_ : wp K_X1_copyFrom d Q 85 [some (4, (p0 : Int)), some (4, (p1 : Int)), some (0, x2), some (0, (x2 * 300))] [(4, (b22 : Int)), (0, (x2 * 300)), (4, (b19 : Int)), (0, (x2 * 300)), (4, (b18 : Int))] _ _ _)
      obtain ⟨s23, w⟩ := w
      have f24 : i32 ((wr V b3 x2 ((V b5 x2))) b22 1) := vr_f0 vr13 s23 rfl rfl
      replace w := w f24
      refine wp_getI (k := 1) rfl rfl rfl s23 rfl rfl (?_ : wp K_X1_copyFrom d Q 88 [some (4, (p0 : Int)), some (4, (p1 : Int)), some (0, x2), some (0, (x2 * 300))] [(0, ((wr V b3 x2 ((V b5 x2))) b22 1)), (0, (x2 * 300)), (4, (b19 : Int)), (0, (x2 * 300)), (4, (b18 : Int))] _ _ _)
      obtain ⟨n25_, g25_, w⟩ := w
      obtain ⟨n26_, g26_, w⟩ := w
      obtain ⟨s27, w⟩ := w
      refine wp_copy rfl rfl rfl (Nat.le_of_ble_eq_true rfl) g25_ g26_ s27 (?_ : wp K_X1_copyFrom d Q 91 [some (4, (p0 : Int)), some (4, (p1 : Int)), some (0, x2), some (0, (x2 * 300))] [] _ _ _)
      refine wp_ld (i := (.aload_n 1)) (4, (p1 : Int)) rfl rfl (fun _ => rfl) rfl rfl (?_ : wp K_X1_copyFrom d Q 92 [some (4, (p0 : Int)), some (4, (p1 : Int)), some (0, x2), some (0, (x2 * 300))] [(4, (p1 : Int))] _ _ _)
      obtain ⟨b28, r28, w⟩ := w
      refine wp_getA (k := 5) rfl rfl rfl s4 rfl rfl r28 (?_ : wp K_X1_copyFrom d Q 95 [some (4, (p0 : Int)), some (4, (p1 : Int)), some (0, x2), some (0, (x2 * 300))] [(4, (b28 : Int))] _ _ _)
      refine wp_ld (i := (.iload_n 3)) (0, (x2 * 300)) rfl rfl (fun _ => rfl) rfl rfl (?_ : wp K_X1_copyFrom d Q 96 [some (4, (p0 : Int)), some (4, (p1 : Int)), some (0, x2), some (0, (x2 * 300))] [(0, (x2 * 300)), (4, (b28 : Int))] _ _ _)
      refine wp_ld (i := (.aload_n 0)) (4, (p0 : Int)) rfl rfl (fun _ => rfl) rfl rfl (?_ : wp K_X1_copyFrom d Q 97 [some (4, (p0 : Int)), some (4, (p1 : Int)), some (0, x2), some (0, (x2 * 300))] [(4, (p0 : Int)), (0, (x2 * 300)), (4, (b28 : Int))] _ _ _)
      obtain ⟨b29, r29, w⟩ := w
      refine wp_getA (k := 5) rfl rfl rfl s2 rfl rfl r29 (?_ : wp K_X1_copyFrom d Q 100 [some (4, (p0 : Int)), some (4, (p1 : Int)), some (0, x2), some (0, (x2 * 300))] [(4, (b29 : Int)), (0, (x2 * 300)), (4, (b28 : Int))] _ _ _)
      refine wp_ld (i := (.iload_n 3)) (0, (x2 * 300)) rfl rfl (fun _ => rfl) rfl rfl (?_ : wp K_X1_copyFrom d Q 101 [some (4, (p0 : Int)), some (4, (p1 : Int)), some (0, x2), some (0, (x2 * 300))] [(0, (x2 * 300)), (4, (b29 : Int)), (0, (x2 * 300)), (4, (b28 : Int))] _ _ _)
      refine wp_ld (i := (.aload_n 0)) (4, (p0 : Int)) rfl rfl (fun _ => rfl) rfl rfl (?_ : wp K_X1_copyFrom d Q 102 [some (4, (p0 : Int)), some (4, (p1 : Int)), some (0, x2), some (0, (x2 * 300))] [(4, (p0 : Int)), (0, (x2 * 300)), (4, (b29 : Int)), (0, (x2 * 300)), (4, (b28 : Int))] _ _ _)
      refine wp_getA (k := 0) rfl rfl rfl s2 rfl rfl r20 (?_ : wp K_X1_copyFrom d Q 105 [some (4, (p0 : Int)), some (4, (p1 : Int)), some (0, x2), some (0, (x2 * 300))] [(4, (b20 : Int)), (0, (x2 * 300)), (4, (b29 : Int)), (0, (x2 * 300)), (4, (b28 : Int))] _ _ _)
      refine wp_getA (k := 1) rfl rfl rfl s21 rfl rfl r22 (?_ : wp K_X1_copyFrom d Q 108 [some (4, (p0 : Int)), some (4, (p1 : Int)), some (0, x2), some (0, (x2 * 300))] [(4, (b22 : Int)), (0, (x2 * 300)), (4, (b29 : Int)), (0, (x2 * 300)), (4, (b28 : Int))] _ _ _)
      refine wp_rng (fun vr30 => ?_)
      have f31 : i32 ((cpy (wr V b3 x2 ((V b5 x2))) b18 ((x2 * 300)) b19 ((x2 * 300)) (((wr V b3 x2 ((V b5 x2))) b22 1))) b22 1) := vr_f0 vr30 s23 rfl rfl
      replace w := w f31
      refine wp_getI (k := 1) rfl rfl rfl s23 rfl rfl (?_ : wp K_X1_copyFrom d Q 111 [some (4, (p0 : Int)), some (4, (p1 : Int)), some (0, x2), some (0, (x2 * 300))] [(0, ((cpy (wr V b3 x2 ((V b5 x2))) b18 ((x2 * 300)) b19 ((x2 * 300)) (((wr V b3 x2 ((V b5 x2))) b22 1))) b22 1)), (0, (x2 * 300)), (4, (b29 : Int)), (0, (x2 * 300)), (4, (b28 : Int))] _ _ _)
      obtain ⟨n32_, g32_, w⟩ := w
      obtain ⟨n33_, g33_, w⟩ := w
      obtain ⟨s34, w⟩ := w
      refine wp_copy rfl rfl rfl (Nat.le_of_ble_eq_true rfl) g32_ g33_ s34 (?_ : wp K_X1_copyFrom d Q 114 [some (4, (p0 : Int)), some (4, (p1 : Int)), some (0, x2), some (0, (x2 * 300))] [] _ _ _)
      obtain ⟨s35, w⟩ := w
      refine wp_inc (x := 2) (k := 1) (a := x2) (c := (x2 + 1)) _ rfl rfl rfl rfl s35 (by omega) rfl ?_
      show wp K_X1_copyFrom d Q 117 [some (4, (p0 : Int)), some (4, (p1 : Int)), some (0, (x2 + 1)), some (0, (x2 * 300))] [] _ _ _
      refine wp_go 35 rfl rfl rfl (?_ : wp K_X1_copyFrom d Q 35 [some (4, (p0 : Int)), some (4, (p1 : Int)), some (0, (x2 + 1)), some (0, (x2 * 300))] [] _ _ _)
      exact wp_wk (wk_s (wk_s (wk_s wk_0))) w

theorem t_X2_init_0 {d : Nat} {Q : gQ} {p0 : Nat} {G : List gS} {R V : gV} (w : cw d (fun r G1 R1 V1 => r = none ∧ ((G1[p0]? = some (gO 2)) ∧ cw d (fun r G3 R3 V3 => r = none ∧ ((G3[p0]? = some (gO 2)) ∧ Q none G3 (wr R3 p0 1 ((G1.length : Nat) : Int)) V3)) 55 [(4, ((G1.length : Nat) : Int))] (G1 ++ [gO 4]) (wr R1 p0 0 ((G.length : Nat) : Int)) V1)) 87 [(4, ((G.length : Nat) : Int))] (G ++ [gO 6]) R V) : wp K_X2_init d Q 0 [some (4, (p0 : Int))] [] G R V := by
  refine wp_ld (i := (.aload_n 0)) (4, (p0 : Int)) rfl rfl (fun _ => rfl) rfl rfl (?_ : wp K_X2_init d Q 1 [some (4, (p0 : Int))] [(4, (p0 : Int))] _ _ _)
  refine wp_obj rfl rfl rfl (Nat.le_of_ble_eq_true rfl) (?_ : wp K_X2_init d Q 4 [some (4, (p0 : Int))] [] _ _ _)
  refine wp_ld (i := (.aload_n 0)) (4, (p0 : Int)) rfl rfl (fun _ => rfl) rfl rfl (?_ : wp K_X2_init d Q 5 [some (4, (p0 : Int))] [(4, (p0 : Int))] _ _ _)
  refine wp_new (ci := 6) rfl rfl rfl ?_
  show wp K_X2_init d Q 8 [some (4, (p0 : Int))] [(4, ((G.length : Nat) : Int)), (4, (p0 : Int))] _ _ _
  refine wp_p (i := .dup) rfl rfl (fun _ _ _ => rfl) (?_ : wp K_X2_init d Q 9 [some (4, (p0 : Int))] [(4, ((G.length : Nat) : Int)), (4, ((G.length : Nat) : Int)), (4, (p0 : Int))] _ _ _)
  refine wp_spec (as := []) (a := G.length) (st := [(4, ((G.length : Nat) : Int)), (4, (p0 : Int))]) _ rfl rfl rfl (by omega) rfl rfl (Nat.le_of_ble_eq_true rfl) (cw_k0 w (fun G1 R1 V1 w => ?_))
  show wp K_X2_init d Q 12 [some (4, (p0 : Int))] [(4, ((G.length : Nat) : Int)), (4, (p0 : Int))] _ _ _
  obtain ⟨s2, w⟩ := w
  refine wp_putA (k := 0) rfl rfl rfl s2 rfl rfl rfl (?_ : wp K_X2_init d Q 15 [some (4, (p0 : Int))] [] _ _ _)
  refine wp_ld (i := (.aload_n 0)) (4, (p0 : Int)) rfl rfl (fun _ => rfl) rfl rfl (?_ : wp K_X2_init d Q 16 [some (4, (p0 : Int))] [(4, (p0 : Int))] _ _ _)
  refine wp_new (ci := 4) rfl rfl rfl ?_
  show wp K_X2_init d Q 19 [some (4, (p0 : Int))] [(4, ((G1.length : Nat) : Int)), (4, (p0 : Int))] _ _ _
  refine wp_p (i := .dup) rfl rfl (fun _ _ _ => rfl) (?_ : wp K_X2_init d Q 20 [some (4, (p0 : Int))] [(4, ((G1.length : Nat) : Int)), (4, ((G1.length : Nat) : Int)), (4, (p0 : Int))] _ _ _)
  refine wp_spec (as := []) (a := G1.length) (st := [(4, ((G1.length : Nat) : Int)), (4, (p0 : Int))]) _ rfl rfl rfl (by omega) rfl rfl (Nat.le_of_ble_eq_true rfl) (cw_k0 w (fun G3 R3 V3 w => ?_))
  show wp K_X2_init d Q 23 [some (4, (p0 : Int))] [(4, ((G1.length : Nat) : Int)), (4, (p0 : Int))] _ _ _
  obtain ⟨s4, w⟩ := w
  refine wp_putA (k := 1) rfl rfl rfl s4 rfl rfl rfl (?_ : wp K_X2_init d Q 26 [some (4, (p0 : Int))] [] _ _ _)
  exact wp_g0 rfl rfl rfl w

theorem t_X2_build_0 {d : Nat} {Q : gQ} {p0 : Nat} {x1 : Int} {p2 : Nat} {p3 : Nat} {G : List gS} {R V : gV} (w : ((G[p0]? = some (gO 2)) ∧ (∃ b2 : Nat, (R p0 0 = (b2 : Int)) ∧ ((G[b2]? = some (gO 6)) ∧ cw d (fun r G3 R3 V3 => ∃ v4 : Int, r = some (0, v4) ∧ ((i32 v4) ∧ (((v4 = 0) → Q (some (0, 0)) G3 R3 V3) ∧ ((¬ v4 = 0) → ((G3[p0]? = some (gO 2)) ∧ (∃ b8 : Nat, (R3 p0 0 = (b8 : Int)) ∧ ((G3[p3]? = some (gO 3)) ∧ cwv d (fun r V9 => ∃ v10 : Int, r = some (0, v10) ∧ ((i32 v10) ∧ (((¬ v10 = 0) → (∃ b13 : Nat, (R3 p0 1 = (b13 : Int)) ∧ ((G3[b13]? = some (gO 4)) ∧ cw d (fun r G14 R14 V14 => r = none ∧ Q (some (0, 1)) G14 R14 V14) 73 [(4, (b13 : Int)), (4, (p3 : Int)), (4, (b8 : Int))] G3 R3 V9))) ∧ ((v10 = 0) → Q (some (0, 0)) G3 R3 V9)))) 39 [(4, (p3 : Int)), (4, (b8 : Int))] G3 R3 V3))))))) 92 [(4, (b2 : Int)), (0, x1), (4, (p2 : Int))] G R V)))) : wp K_X2_build d Q 0 [some (4, (p0 : Int)), some (0, x1), some (4, (p2 : Int)), some (4, (p3 : Int))] [] G R V := by
  refine wp_ld (i := (.aload_n 0)) (4, (p0 : Int)) rfl rfl (fun _ => rfl) rfl rfl (?_ : wp K_X2_build d Q 1 [some (4, (p0 : Int)), some (0, x1), some (4, (p2 : Int)), some (4, (p3 : Int))] [(4, (p0 : Int))] _ _ _)
  obtain ⟨s1, w⟩ := w
  obtain ⟨b2, r2, w⟩ := w
  refine wp_getA (k := 0) rfl rfl rfl s1 rfl rfl r2 (?_ : wp K_X2_build d Q 4 [some (4, (p0 : Int)), some (0, x1), some (4, (p2 : Int)), some (4, (p3 : Int))] [(4, (b2 : Int))] _ _ _)
  refine wp_ld (i := (.iload_n 1)) (0, x1) rfl rfl (fun _ => rfl) rfl rfl (?_ : wp K_X2_build d Q 5 [some (4, (p0 : Int)), some (0, x1), some (4, (p2 : Int)), some (4, (p3 : Int))] [(0, x1), (4, (b2 : Int))] _ _ _)
  refine wp_ld (i := (.aload_n 2)) (4, (p2 : Int)) rfl rfl (fun _ => rfl) rfl rfl (?_ : wp K_X2_build d Q 6 [some (4, (p0 : Int)), some (0, x1), some (4, (p2 : Int)), some (4, (p3 : Int))] [(4, (p2 : Int)), (0, x1), (4, (b2 : Int))] _ _ _)
  obtain ⟨s5, w⟩ := w
  refine wp_virt (as := [(0, x1), (4, (p2 : Int))]) (a := b2) (st := []) _ rfl rfl rfl rfl rfl rfl s5 (Nat.le_of_ble_eq_true rfl) (cw_kI w (fun v4 G3 R3 V3 w => ?_))
  show wp K_X2_build d Q 9 [some (4, (p0 : Int)), some (0, x1), some (4, (p2 : Int)), some (4, (p3 : Int))] [(0, v4)] _ _ _
  obtain ⟨s6, w⟩ := w
  refine wp_if (c := .eq) 23 rfl rfl rfl s6 (fun q => ?_) (fun q => ?_)
  · have q : v4 = 0 := q
    replace w := w.1 q
    show wp K_X2_build d Q 23 [some (4, (p0 : Int)), some (0, x1), some (4, (p2 : Int)), some (4, (p3 : Int))] [] _ _ _
    refine wp_p (i := (.iconst 0)) rfl rfl (fun _ _ _ => rfl) (?_ : wp K_X2_build d Q 24 [some (4, (p0 : Int)), some (0, x1), some (4, (p2 : Int)), some (4, (p3 : Int))] [(0, 0)] _ _ _)
    exact wp_gB rfl rfl rfl (by omega) w
  · have q : ¬ v4 = 0 := q
    replace w := w.2 q
    show wp K_X2_build d Q 12 [some (4, (p0 : Int)), some (0, x1), some (4, (p2 : Int)), some (4, (p3 : Int))] [] _ _ _
    refine wp_ld (i := (.aload_n 3)) (4, (p3 : Int)) rfl rfl (fun _ => rfl) rfl rfl (?_ : wp K_X2_build d Q 13 [some (4, (p0 : Int)), some (0, x1), some (4, (p2 : Int)), some (4, (p3 : Int))] [(4, (p3 : Int))] _ _ _)
    refine wp_ld (i := (.aload_n 0)) (4, (p0 : Int)) rfl rfl (fun _ => rfl) rfl rfl (?_ : wp K_X2_build d Q 14 [some (4, (p0 : Int)), some (0, x1), some (4, (p2 : Int)), some (4, (p3 : Int))] [(4, (p0 : Int)), (4, (p3 : Int))] _ _ _)
    obtain ⟨s7, w⟩ := w
    obtain ⟨b8, r8, w⟩ := w
    refine wp_getA (k := 0) rfl rfl rfl s7 rfl rfl r8 (?_ : wp K_X2_build d Q 17 [some (4, (p0 : Int)), some (0, x1), some (4, (p2 : Int)), some (4, (p3 : Int))] [(4, (b8 : Int)), (4, (p3 : Int))] _ _ _)
    obtain ⟨s11, w⟩ := w
    refine wp_virt (as := [(4, (b8 : Int))]) (a := p3) (st := []) _ rfl rfl rfl rfl rfl rfl s11 (Nat.le_of_ble_eq_true rfl) (cwv_kI w (fun v10 V9 w => ?_))
    show wp K_X2_build d Q 20 [some (4, (p0 : Int)), some (0, x1), some (4, (p2 : Int)), some (4, (p3 : Int))] [(0, v10)] _ _ _
    obtain ⟨s12, w⟩ := w
    refine wp_if (c := .ne) 25 rfl rfl rfl s12 (fun q => ?_) (fun q => ?_)
    · have q : ¬ v10 = 0 := q
      replace w := w.1 q
      show wp K_X2_build d Q 25 [some (4, (p0 : Int)), some (0, x1), some (4, (p2 : Int)), some (4, (p3 : Int))] [] _ _ _
      refine wp_ld (i := (.aload_n 0)) (4, (p0 : Int)) rfl rfl (fun _ => rfl) rfl rfl (?_ : wp K_X2_build d Q 26 [some (4, (p0 : Int)), some (0, x1), some (4, (p2 : Int)), some (4, (p3 : Int))] [(4, (p0 : Int))] _ _ _)
      obtain ⟨b13, r13, w⟩ := w
      refine wp_getA (k := 1) rfl rfl rfl s7 rfl rfl r13 (?_ : wp K_X2_build d Q 29 [some (4, (p0 : Int)), some (0, x1), some (4, (p2 : Int)), some (4, (p3 : Int))] [(4, (b13 : Int))] _ _ _)
      refine wp_ld (i := (.aload_n 3)) (4, (p3 : Int)) rfl rfl (fun _ => rfl) rfl rfl (?_ : wp K_X2_build d Q 30 [some (4, (p0 : Int)), some (0, x1), some (4, (p2 : Int)), some (4, (p3 : Int))] [(4, (p3 : Int)), (4, (b13 : Int))] _ _ _)
      refine wp_ld (i := (.aload_n 0)) (4, (p0 : Int)) rfl rfl (fun _ => rfl) rfl rfl (?_ : wp K_X2_build d Q 31 [some (4, (p0 : Int)), some (0, x1), some (4, (p2 : Int)), some (4, (p3 : Int))] [(4, (p0 : Int)), (4, (p3 : Int)), (4, (b13 : Int))] _ _ _)
      refine wp_getA (k := 0) rfl rfl rfl s7 rfl rfl r8 (?_ : wp K_X2_build d Q 34 [some (4, (p0 : Int)), some (0, x1), some (4, (p2 : Int)), some (4, (p3 : Int))] [(4, (b8 : Int)), (4, (p3 : Int)), (4, (b13 : Int))] _ _ _)
      obtain ⟨s15, w⟩ := w
      refine wp_virt (as := [(4, (p3 : Int)), (4, (b8 : Int))]) (a := b13) (st := []) _ rfl rfl rfl rfl rfl rfl s15 (Nat.le_of_ble_eq_true rfl) (cw_k0 w (fun G14 R14 V14 w => ?_))
      show wp K_X2_build d Q 37 [some (4, (p0 : Int)), some (0, x1), some (4, (p2 : Int)), some (4, (p3 : Int))] [] _ _ _
      refine wp_p (i := (.iconst 1)) rfl rfl (fun _ _ _ => rfl) (?_ : wp K_X2_build d Q 38 [some (4, (p0 : Int)), some (0, x1), some (4, (p2 : Int)), some (4, (p3 : Int))] [(0, 1)] _ _ _)
      exact wp_gB rfl rfl rfl (by omega) w
    · have q : v10 = 0 := Decidable.not_not.mp q
      replace w := w.2 q
      show wp K_X2_build d Q 23 [some (4, (p0 : Int)), some (0, x1), some (4, (p2 : Int)), some (4, (p3 : Int))] [] _ _ _
      refine wp_p (i := (.iconst 0)) rfl rfl (fun _ _ _ => rfl) (?_ : wp K_X2_build d Q 24 [some (4, (p0 : Int)), some (0, x1), some (4, (p2 : Int)), some (4, (p3 : Int))] [(0, 0)] _ _ _)
      exact wp_gB rfl rfl rfl (by omega) w

theorem t_X4_fill_0 {d : Nat} {Q : gQ} {p0 : Nat} {p1 : Nat} {p2 : Nat} {G : List gS} {R V : gV} (w : ((G[p1]? = some (gO 3)) ∧ ((i32 (V p1 0)) → ((G[p0]? = some (gO 4)) ∧ cwv d (fun r V5 => r = none ∧ wp K_X4_fill d Q 15 [some (4, (p0 : Int)), some (4, (p1 : Int)), some (4, (p2 : Int)), some (0, 0)] [] G R V5) 74 [(4, (p0 : Int)), (4, (p1 : Int))] G R (wr V p0 0 ((V p1 0))))))) : wp K_X4_fill d Q 0 [some (4, (p0 : Int)), some (4, (p1 : Int)), some (4, (p2 : Int))] [] G R V := by
  refine wp_ld (i := (.aload_n 0)) (4, (p0 : Int)) rfl rfl (fun _ => rfl) rfl rfl (?_ : wp K_X4_fill d Q 1 [some (4, (p0 : Int)), some (4, (p1 : Int)), some (4, (p2 : Int))] [(4, (p0 : Int))] _ _ _)
  refine wp_ld (i := (.aload_n 1)) (4, (p1 : Int)) rfl rfl (fun _ => rfl) rfl rfl (?_ : wp K_X4_fill d Q 2 [some (4, (p0 : Int)), some (4, (p1 : Int)), some (4, (p2 : Int))] [(4, (p1 : Int)), (4, (p0 : Int))] _ _ _)
  obtain ⟨s1, w⟩ := w
  refine wp_rng (fun vr2 => ?_)
  have f3 : i32 (V p1 0) := vr_f0 vr2 s1 rfl rfl
  replace w := w f3
  refine wp_getI (k := 0) rfl rfl rfl s1 rfl rfl (?_ : wp K_X4_fill d Q 5 [some (4, (p0 : Int)), some (4, (p1 : Int)), some (4, (p2 : Int))] [(0, (V p1 0)), (4, (p0 : Int))] _ _ _)
  obtain ⟨s4, w⟩ := w
  refine wp_putI (k := 0) rfl rfl rfl s4 rfl rfl rfl f3 (?_ : wp K_X4_fill d Q 8 [some (4, (p0 : Int)), some (4, (p1 : Int)), some (4, (p2 : Int))] [] _ _ _)
  refine wp_ld (i := (.aload_n 0)) (4, (p0 : Int)) rfl rfl (fun _ => rfl) rfl rfl (?_ : wp K_X4_fill d Q 9 [some (4, (p0 : Int)), some (4, (p1 : Int)), some (4, (p2 : Int))] [(4, (p0 : Int))] _ _ _)
  refine wp_ld (i := (.aload_n 1)) (4, (p1 : Int)) rfl rfl (fun _ => rfl) rfl rfl (?_ : wp K_X4_fill d Q 10 [some (4, (p0 : Int)), some (4, (p1 : Int)), some (4, (p2 : Int))] [(4, (p1 : Int)), (4, (p0 : Int))] _ _ _)
  refine wp_virt (as := [(4, (p1 : Int))]) (a := p0) (st := []) _ rfl rfl rfl rfl rfl rfl s4 (Nat.le_of_ble_eq_true rfl) (cwv_k0 w (fun V5 w => ?_))
  show wp K_X4_fill d Q 13 [some (4, (p0 : Int)), some (4, (p1 : Int)), some (4, (p2 : Int))] [] _ _ _
  refine wp_p (i := (.iconst 0)) rfl rfl (fun _ _ _ => rfl) (?_ : wp K_X4_fill d Q 14 [some (4, (p0 : Int)), some (4, (p1 : Int)), some (4, (p2 : Int))] [(0, 0)] _ _ _)
  refine wp_sto (i := (.istore_n 3)) _ rfl rfl (fun _ => rfl) rfl rfl rfl ?_
  refine wp_wk (L' := [some (4, (p0 : Int)), some (4, (p1 : Int)), some (4, (p2 : Int)), some (0, 0)]) (wk_s (wk_s (wk_s (wk_s wk_0)))) ?_
  show wp K_X4_fill d Q 15 [some (4, (p0 : Int)), some (4, (p1 : Int)), some (4, (p2 : Int)), some (0, 0)] [] _ _ _
  exact wp_wk (wk_s (wk_s (wk_s (wk_s wk_0)))) w

theorem t_X4_fill_15 {d : Nat} {Q : gQ} {p0 : Nat} {p1 : Nat} {p2 : Nat} {x3 : Int} {G : List gS} {R V : gV} (w : ((G[p0]? = some (gO 4)) ∧ ((i32 (V p0 0)) → ((i32 x3) ∧ (((¬ x3 < (V p0 0)) → cwv d (fun r V5 => r = none ∧ cwv d (fun r V6 => r = none ∧ cw d (fun r G7 R7 V7 => r = none ∧ ((G7[p2]? = some (gO 6)) ∧ ((i32 (V7 p2 1)) → ((G7[p0]? = some (gO 4)) ∧ cwv d (fun r V11 => r = none ∧ ((G7[p0]? = some (gO 4)) ∧ cwv d (fun r V13 => r = none ∧ Q none G7 R7 V13) 80 [(4, (p0 : Int))] G7 R7 V11)) 79 [(4, (p0 : Int)), (0, (V7 p2 1))] G7 R7 V7)))) 78 [(4, (p0 : Int))] G R V6) 77 [(4, (p0 : Int)), (4, (p2 : Int))] G R V5) 75 [(4, (p0 : Int)), (4, (p1 : Int))] G R V) ∧ ((x3 < (V p0 0)) → (∃ b15 : Nat, (R p0 2 = (b15 : Int)) ∧ ((G[p1]? = some (gO 3)) ∧ (∃ b17 : Nat, (R p1 1 = (b17 : Int)) ∧ (∃ b18 : Nat, (R p0 12 = (b18 : Int)) ∧ (∃ n19_ : Nat, (G[b18]? = some (gA 0 n19_)) ∧ (((0 : Int) ≤ x3 ∧ x3 < (n19_ : Int)) ∧ ((i32 (V b18 x3)) → (∃ n22_ : Nat, (G[b17]? = some (gA 1 n22_)) ∧ (((0 : Int) ≤ (V b18 x3) ∧ (V b18 x3) < (n22_ : Int)) ∧ ((i64 (V b17 ((V b18 x3)))) → (∃ n25_ : Nat, (G[b15]? = some (gA 1 n25_)) ∧ (((0 : Int) ≤ x3 ∧ x3 < (n25_ : Int)) ∧ (∃ b27 : Nat, (R p0 3 = (b27 : Int)) ∧ (∃ b28 : Nat, (R p1 2 = (b28 : Int)) ∧ ((i32 ((wr V b15 x3 ((V b17 ((V b18 x3))))) b18 x3)) → (∃ n31_ : Nat, (G[b28]? = some (gA 1 n31_)) ∧ (((0 : Int) ≤ ((wr V b15 x3 ((V b17 ((V b18 x3))))) b18 x3) ∧ ((wr V b15 x3 ((V b17 ((V b18 x3))))) b18 x3) < (n31_ : Int)) ∧ ((i64 ((wr V b15 x3 ((V b17 ((V b18 x3))))) b28 (((wr V b15 x3 ((V b17 ((V b18 x3))))) b18 x3)))) → (∃ n34_ : Nat, (G[b27]? = some (gA 1 n34_)) ∧ (((0 : Int) ≤ x3 ∧ x3 < (n34_ : Int)) ∧ (∃ b36 : Nat, (R p0 4 = (b36 : Int)) ∧ (∃ b37 : Nat, (R p1 3 = (b37 : Int)) ∧ ((i32 ((wr (wr V b15 x3 ((V b17 ((V b18 x3))))) b27 x3 (((wr V b15 x3 ((V b17 ((V b18 x3))))) b28 (((wr V b15 x3 ((V b17 ((V b18 x3))))) b18 x3))))) b18 x3)) → (∃ n40_ : Nat, (G[b37]? = some (gA 0 n40_)) ∧ (((0 : Int) ≤ ((wr (wr V b15 x3 ((V b17 ((V b18 x3))))) b27 x3 (((wr V b15 x3 ((V b17 ((V b18 x3))))) b28 (((wr V b15 x3 ((V b17 ((V b18 x3))))) b18 x3))))) b18 x3) ∧ ((wr (wr V b15 x3 ((V b17 ((V b18 x3))))) b27 x3 (((wr V b15 x3 ((V b17 ((V b18 x3))))) b28 (((wr V b15 x3 ((V b17 ((V b18 x3))))) b18 x3))))) b18 x3) < (n40_ : Int)) ∧ ((i32 ((wr (wr V b15 x3 ((V b17 ((V b18 x3))))) b27 x3 (((wr V b15 x3 ((V b17 ((V b18 x3))))) b28 (((wr V b15 x3 ((V b17 ((V b18 x3))))) b18 x3))))) b37 (((wr (wr V b15 x3 ((V b17 ((V b18 x3))))) b27 x3 (((wr V b15 x3 ((V b17 ((V b18 x3))))) b28 (((wr V b15 x3 ((V b17 ((V b18 x3))))) b18 x3))))) b18 x3)))) → (∃ n43_ : Nat, (G[b36]? = some (gA 0 n43_)) ∧ (((0 : Int) ≤ x3 ∧ x3 < (n43_ : Int)) ∧ (∃ b45 : Nat, (R p0 7 = (b45 : Int)) ∧ (∃ n46_ : Nat, (G[b45]? = some (gA 0 n46_)) ∧ (((0 : Int) ≤ x3 ∧ x3 < (n46_ : Int)) ∧ ((i32 (x3 + 1)) ∧ wp K_X4_fill d Q 15 [some (4, (p0 : Int)), some (4, (p1 : Int)), some (4, (p2 : Int)), some (0, (x3 + 1))] [] G R (wr (wr (wr (wr V b15 x3 ((V b17 ((V b18 x3))))) b27 x3 (((wr V b15 x3 ((V b17 ((V b18 x3))))) b28 (((wr V b15 x3 ((V b17 ((V b18 x3))))) b18 x3))))) b36 x3 (((wr (wr V b15 x3 ((V b17 ((V b18 x3))))) b27 x3 (((wr V b15 x3 ((V b17 ((V b18 x3))))) b28 (((wr V b15 x3 ((V b17 ((V b18 x3))))) b18 x3))))) b37 (((wr (wr V b15 x3 ((V b17 ((V b18 x3))))) b27 x3 (((wr V b15 x3 ((V b17 ((V b18 x3))))) b28 (((wr V b15 x3 ((V b17 ((V b18 x3))))) b18 x3))))) b18 x3))))) b45 x3 ((-1))))))))))))))))))))))))))))))))))))))))) : wp K_X4_fill d Q 15 [some (4, (p0 : Int)), some (4, (p1 : Int)), some (4, (p2 : Int)), some (0, x3)] [] G R V := by
  refine wp_ld (i := (.iload_n 3)) (0, x3) rfl rfl (fun _ => rfl) rfl rfl (?_ : wp K_X4_fill d Q 16 [some (4, (p0 : Int)), some (4, (p1 : Int)), some (4, (p2 : Int)), some (0, x3)] [(0, x3)] _ _ _)
  refine wp_ld (i := (.aload_n 0)) (4, (p0 : Int)) rfl rfl (fun _ => rfl) rfl rfl (?_ : wp K_X4_fill d Q 17 [some (4, (p0 : Int)), some (4, (p1 : Int)), some (4, (p2 : Int)), some (0, x3)] [(4, (p0 : Int)), (0, x3)] _ _ _)
  obtain ⟨s1, w⟩ := w
  refine wp_rng (fun vr2 => ?_)
  have f3 : i32 (V p0 0) := vr_f0 vr2 s1 rfl rfl
  replace w := w f3
  refine wp_getI (k := 0) rfl rfl rfl s1 rfl rfl (?_ : wp K_X4_fill d Q 20 [some (4, (p0 : Int)), some (4, (p1 : Int)), some (4, (p2 : Int)), some (0, x3)] [(0, (V p0 0)), (0, x3)] _ _ _)
  obtain ⟨s4, w⟩ := w
  refine wp_icmp (c := .ge) 87 rfl rfl rfl s4 f3 (fun q => ?_) (fun q => ?_)
  · have q : ¬ x3 < (V p0 0) := q
    replace w := w.1 q
    show wp K_X4_fill d Q 87 [some (4, (p0 : Int)), some (4, (p1 : Int)), some (4, (p2 : Int)), some (0, x3)] [] _ _ _
    refine wp_ld (i := (.aload_n 0)) (4, (p0 : Int)) rfl rfl (fun _ => rfl) rfl rfl (?_ : wp K_X4_fill d Q 88 [some (4, (p0 : Int)), some (4, (p1 : Int)), some (4, (p2 : Int)), some (0, x3)] [(4, (p0 : Int))] _ _ _)
    refine wp_ld (i := (.aload_n 1)) (4, (p1 : Int)) rfl rfl (fun _ => rfl) rfl rfl (?_ : wp K_X4_fill d Q 89 [some (4, (p0 : Int)), some (4, (p1 : Int)), some (4, (p2 : Int)), some (0, x3)] [(4, (p1 : Int)), (4, (p0 : Int))] _ _ _)
    refine wp_virt (as := [(4, (p1 : Int))]) (a := p0) (st := []) _ rfl rfl rfl rfl rfl rfl s1 (Nat.le_of_ble_eq_true rfl) (cwv_k0 w (fun V5 w => ?_))
    show wp K_X4_fill d Q 92 [some (4, (p0 : Int)), some (4, (p1 : Int)), some (4, (p2 : Int)), some (0, x3)] [] _ _ _
    refine wp_ld (i := (.aload_n 0)) (4, (p0 : Int)) rfl rfl (fun _ => rfl) rfl rfl (?_ : wp K_X4_fill d Q 93 [some (4, (p0 : Int)), some (4, (p1 : Int)), some (4, (p2 : Int)), some (0, x3)] [(4, (p0 : Int))] _ _ _)
    refine wp_ld (i := (.aload_n 2)) (4, (p2 : Int)) rfl rfl (fun _ => rfl) rfl rfl (?_ : wp K_X4_fill d Q 94 [some (4, (p0 : Int)), some (4, (p1 : Int)), some (4, (p2 : Int)), some (0, x3)] [(4, (p2 : Int)), (4, (p0 : Int))] _ _ _)
    refine wp_virt (as := [(4, (p2 : Int))]) (a := p0) (st := []) _ rfl rfl rfl rfl rfl rfl s1 (Nat.le_of_ble_eq_true rfl) (cwv_k0 w (fun V6 w => ?_))
    show wp K_X4_fill d Q 97 [some (4, (p0 : Int)), some (4, (p1 : Int)), some (4, (p2 : Int)), some (0, x3)] [] _ _ _
    refine wp_ld (i := (.aload_n 0)) (4, (p0 : Int)) rfl rfl (fun _ => rfl) rfl rfl (?_ : wp K_X4_fill d Q 98 [some (4, (p0 : Int)), some (4, (p1 : Int)), some (4, (p2 : Int)), some (0, x3)] [(4, (p0 : Int))] _ _ _)
    refine wp_virt (as := []) (a := p0) (st := []) _ rfl rfl rfl rfl rfl rfl s1 (Nat.le_of_ble_eq_true rfl) (cw_k0 w (fun G7 R7 V7 w => ?_))
    show wp K_X4_fill d Q 101 [some (4, (p0 : Int)), some (4, (p1 : Int)), some (4, (p2 : Int)), some (0, x3)] [] _ _ _
    refine wp_ld (i := (.aload_n 0)) (4, (p0 : Int)) rfl rfl (fun _ => rfl) rfl rfl (?_ : wp K_X4_fill d Q 102 [some (4, (p0 : Int)), some (4, (p1 : Int)), some (4, (p2 : Int)), some (0, x3)] [(4, (p0 : Int))] _ _ _)
    refine wp_ld (i := (.aload_n 2)) (4, (p2 : Int)) rfl rfl (fun _ => rfl) rfl rfl (?_ : wp K_X4_fill d Q 103 [some (4, (p0 : Int)), some (4, (p1 : Int)), some (4, (p2 : Int)), some (0, x3)] [(4, (p2 : Int)), (4, (p0 : Int))] _ _ _)
    obtain ⟨s8, w⟩ := w
    refine wp_rng (fun vr9 => ?_)
    have f10 : i32 (V7 p2 1) := vr_f0 vr9 s8 rfl rfl
    replace w := w f10
    refine wp_getI (k := 1) rfl rfl rfl s8 rfl rfl (?_ : wp K_X4_fill d Q 106 [some (4, (p0 : Int)), some (4, (p1 : Int)), some (4, (p2 : Int)), some (0, x3)] [(0, (V7 p2 1)), (4, (p0 : Int))] _ _ _)
    obtain ⟨s12, w⟩ := w
    refine wp_virt (as := [(0, (V7 p2 1))]) (a := p0) (st := []) _ rfl rfl rfl rfl rfl rfl s12 (Nat.le_of_ble_eq_true rfl) (cwv_k0 w (fun V11 w => ?_))
    show wp K_X4_fill d Q 109 [some (4, (p0 : Int)), some (4, (p1 : Int)), some (4, (p2 : Int)), some (0, x3)] [] _ _ _
    refine wp_ld (i := (.aload_n 0)) (4, (p0 : Int)) rfl rfl (fun _ => rfl) rfl rfl (?_ : wp K_X4_fill d Q 110 [some (4, (p0 : Int)), some (4, (p1 : Int)), some (4, (p2 : Int)), some (0, x3)] [(4, (p0 : Int))] _ _ _)
    obtain ⟨s14, w⟩ := w
    refine wp_virt (as := []) (a := p0) (st := []) _ rfl rfl rfl rfl rfl rfl s14 (Nat.le_of_ble_eq_true rfl) (cwv_k0 w (fun V13 w => ?_))
    show wp K_X4_fill d Q 113 [some (4, (p0 : Int)), some (4, (p1 : Int)), some (4, (p2 : Int)), some (0, x3)] [] _ _ _
    exact wp_g0 rfl rfl rfl w
  · have q : x3 < (V p0 0) := Decidable.not_not.mp q
    replace w := w.2 q
    show wp K_X4_fill d Q 23 [some (4, (p0 : Int)), some (4, (p1 : Int)), some (4, (p2 : Int)), some (0, x3)] [] _ _ _
    refine wp_ld (i := (.aload_n 0)) (4, (p0 : Int)) rfl rfl (fun _ => rfl) rfl rfl (?_ : wp K_X4_fill d Q 24 [some (4, (p0 : Int)), some (4, (p1 : Int)), some (4, (p2 : Int)), some (0, x3)] [(4, (p0 : Int))] _ _ _)
    obtain ⟨b15, r15, w⟩ := w
    refine wp_getA (k := 2) rfl rfl rfl s1 rfl rfl r15 (?_ : wp K_X4_fill d Q 27 [some (4, (p0 : Int)), some (4, (p1 : Int)), some (4, (p2 : Int)), some (0, x3)] [(4, (b15 : Int))] _ _ _)
    refine wp_ld (i := (.iload_n 3)) (0, x3) rfl rfl (fun _ => rfl) rfl rfl (?_ : wp K_X4_fill d Q 28 [some (4, (p0 : Int)), some (4, (p1 : Int)), some (4, (p2 : Int)), some (0, x3)] [(0, x3), (4, (b15 : Int))] _ _ _)
    refine wp_ld (i := (.aload_n 1)) (4, (p1 : Int)) rfl rfl (fun _ => rfl) rfl rfl (?_ : wp K_X4_fill d Q 29 [some (4, (p0 : Int)), some (4, (p1 : Int)), some (4, (p2 : Int)), some (0, x3)] [(4, (p1 : Int)), (0, x3), (4, (b15 : Int))] _ _ _)
    obtain ⟨s16, w⟩ := w
    obtain ⟨b17, r17, w⟩ := w
    refine wp_getA (k := 1) rfl rfl rfl s16 rfl rfl r17 (?_ : wp K_X4_fill d Q 32 [some (4, (p0 : Int)), some (4, (p1 : Int)), some (4, (p2 : Int)), some (0, x3)] [(4, (b17 : Int)), (0, x3), (4, (b15 : Int))] _ _ _)
    refine wp_ld (i := (.aload_n 0)) (4, (p0 : Int)) rfl rfl (fun _ => rfl) rfl rfl (?_ : wp K_X4_fill d Q 33 [some (4, (p0 : Int)), some (4, (p1 : Int)), some (4, (p2 : Int)), some (0, x3)] [(4, (p0 : Int)), (4, (b17 : Int)), (0, x3), (4, (b15 : Int))] _ _ _)
    obtain ⟨b18, r18, w⟩ := w
    refine wp_getA (k := 12) rfl rfl rfl s1 rfl rfl r18 (?_ : wp K_X4_fill d Q 36 [some (4, (p0 : Int)), some (4, (p1 : Int)), some (4, (p2 : Int)), some (0, x3)] [(4, (b18 : Int)), (4, (b17 : Int)), (0, x3), (4, (b15 : Int))] _ _ _)
    refine wp_ld (i := (.iload_n 3)) (0, x3) rfl rfl (fun _ => rfl) rfl rfl (?_ : wp K_X4_fill d Q 37 [some (4, (p0 : Int)), some (4, (p1 : Int)), some (4, (p2 : Int)), some (0, x3)] [(0, x3), (4, (b18 : Int)), (4, (b17 : Int)), (0, x3), (4, (b15 : Int))] _ _ _)
    obtain ⟨n19_, g19_, w⟩ := w
    obtain ⟨s20, w⟩ := w
    have f21 : i32 (V b18 x3) := vr_a0 vr2 g19_ s20
    replace w := w f21
    refine wp_aI rfl rfl g19_ s20 (?_ : wp K_X4_fill d Q 38 [some (4, (p0 : Int)), some (4, (p1 : Int)), some (4, (p2 : Int)), some (0, x3)] [(0, (V b18 x3)), (4, (b17 : Int)), (0, x3), (4, (b15 : Int))] _ _ _)
    obtain ⟨n22_, g22_, w⟩ := w
    obtain ⟨s23, w⟩ := w
    have f24 : i64 (V b17 ((V b18 x3))) := vr_a1 vr2 g22_ s23
    replace w := w f24
    refine wp_aJ rfl rfl g22_ s23 (?_ : wp K_X4_fill d Q 39 [some (4, (p0 : Int)), some (4, (p1 : Int)), some (4, (p2 : Int)), some (0, x3)] [(2, (V b17 ((V b18 x3)))), (0, x3), (4, (b15 : Int))] _ _ _)
    obtain ⟨n25_, g25_, w⟩ := w
    obtain ⟨s26, w⟩ := w
    refine wp_sJ rfl rfl g25_ s26 f24 (?_ : wp K_X4_fill d Q 40 [some (4, (p0 : Int)), some (4, (p1 : Int)), some (4, (p2 : Int)), some (0, x3)] [] _ _ _)
    refine wp_ld (i := (.aload_n 0)) (4, (p0 : Int)) rfl rfl (fun _ => rfl) rfl rfl (?_ : wp K_X4_fill d Q 41 [some (4, (p0 : Int)), some (4, (p1 : Int)), some (4, (p2 : Int)), some (0, x3)] [(4, (p0 : Int))] _ _ _)
    obtain ⟨b27, r27, w⟩ := w
    refine wp_getA (k := 3) rfl rfl rfl s1 rfl rfl r27 (?_ : wp K_X4_fill d Q 44 [some (4, (p0 : Int)), some (4, (p1 : Int)), some (4, (p2 : Int)), some (0, x3)] [(4, (b27 : Int))] _ _ _)
    refine wp_ld (i := (.iload_n 3)) (0, x3) rfl rfl (fun _ => rfl) rfl rfl (?_ : wp K_X4_fill d Q 45 [some (4, (p0 : Int)), some (4, (p1 : Int)), some (4, (p2 : Int)), some (0, x3)] [(0, x3), (4, (b27 : Int))] _ _ _)
    refine wp_ld (i := (.aload_n 1)) (4, (p1 : Int)) rfl rfl (fun _ => rfl) rfl rfl (?_ : wp K_X4_fill d Q 46 [some (4, (p0 : Int)), some (4, (p1 : Int)), some (4, (p2 : Int)), some (0, x3)] [(4, (p1 : Int)), (0, x3), (4, (b27 : Int))] _ _ _)
    obtain ⟨b28, r28, w⟩ := w
    refine wp_getA (k := 2) rfl rfl rfl s16 rfl rfl r28 (?_ : wp K_X4_fill d Q 49 [some (4, (p0 : Int)), some (4, (p1 : Int)), some (4, (p2 : Int)), some (0, x3)] [(4, (b28 : Int)), (0, x3), (4, (b27 : Int))] _ _ _)
    refine wp_ld (i := (.aload_n 0)) (4, (p0 : Int)) rfl rfl (fun _ => rfl) rfl rfl (?_ : wp K_X4_fill d Q 50 [some (4, (p0 : Int)), some (4, (p1 : Int)), some (4, (p2 : Int)), some (0, x3)] [(4, (p0 : Int)), (4, (b28 : Int)), (0, x3), (4, (b27 : Int))] _ _ _)
    refine wp_getA (k := 12) rfl rfl rfl s1 rfl rfl r18 (?_ : wp K_X4_fill d Q 53 [some (4, (p0 : Int)), some (4, (p1 : Int)), some (4, (p2 : Int)), some (0, x3)] [(4, (b18 : Int)), (4, (b28 : Int)), (0, x3), (4, (b27 : Int))] _ _ _)
    refine wp_ld (i := (.iload_n 3)) (0, x3) rfl rfl (fun _ => rfl) rfl rfl (?_ : wp K_X4_fill d Q 54 [some (4, (p0 : Int)), some (4, (p1 : Int)), some (4, (p2 : Int)), some (0, x3)] [(0, x3), (4, (b18 : Int)), (4, (b28 : Int)), (0, x3), (4, (b27 : Int))] _ _ _)
    refine wp_rng (fun vr29 => ?_)
    have f30 : i32 ((wr V b15 x3 ((V b17 ((V b18 x3))))) b18 x3) := vr_a0 vr29 g19_ s20
    replace w := w f30
    refine wp_aI rfl rfl g19_ s20 (?_ : wp K_X4_fill d Q 55 [some (4, (p0 : Int)), some (4, (p1 : Int)), some (4, (p2 : Int)), some (0, x3)] [(0, ((wr V b15 x3 ((V b17 ((V b18 x3))))) b18 x3)), (4, (b28 : Int)), (0, x3), (4, (b27 : Int))] _ _ _)
    obtain ⟨n31_, g31_, w⟩ := w
    obtain ⟨s32, w⟩ := w
    have f33 : i64 ((wr V b15 x3 ((V b17 ((V b18 x3))))) b28 (((wr V b15 x3 ((V b17 ((V b18 x3))))) b18 x3))) := vr_a1 vr29 g31_ s32
    replace w := w f33
    refine wp_aJ rfl rfl g31_ s32 (?_ : wp K_X4_fill d Q 56 [some (4, (p0 : Int)), some (4, (p1 : Int)), some (4, (p2 : Int)), some (0, x3)] [(2, ((wr V b15 x3 ((V b17 ((V b18 x3))))) b28 (((wr V b15 x3 ((V b17 ((V b18 x3))))) b18 x3)))), (0, x3), (4, (b27 : Int))] _ _ _)
    obtain ⟨n34_, g34_, w⟩ := w
    obtain ⟨s35, w⟩ := w
    refine wp_sJ rfl rfl g34_ s35 f33 (?_ : wp K_X4_fill d Q 57 [some (4, (p0 : Int)), some (4, (p1 : Int)), some (4, (p2 : Int)), some (0, x3)] [] _ _ _)
    refine wp_ld (i := (.aload_n 0)) (4, (p0 : Int)) rfl rfl (fun _ => rfl) rfl rfl (?_ : wp K_X4_fill d Q 58 [some (4, (p0 : Int)), some (4, (p1 : Int)), some (4, (p2 : Int)), some (0, x3)] [(4, (p0 : Int))] _ _ _)
    obtain ⟨b36, r36, w⟩ := w
    refine wp_getA (k := 4) rfl rfl rfl s1 rfl rfl r36 (?_ : wp K_X4_fill d Q 61 [some (4, (p0 : Int)), some (4, (p1 : Int)), some (4, (p2 : Int)), some (0, x3)] [(4, (b36 : Int))] _ _ _)
    refine wp_ld (i := (.iload_n 3)) (0, x3) rfl rfl (fun _ => rfl) rfl rfl (?_ : wp K_X4_fill d Q 62 [some (4, (p0 : Int)), some (4, (p1 : Int)), some (4, (p2 : Int)), some (0, x3)] [(0, x3), (4, (b36 : Int))] _ _ _)
    refine wp_ld (i := (.aload_n 1)) (4, (p1 : Int)) rfl rfl (fun _ => rfl) rfl rfl (?_ : wp K_X4_fill d Q 63 [some (4, (p0 : Int)), some (4, (p1 : Int)), some (4, (p2 : Int)), some (0, x3)] [(4, (p1 : Int)), (0, x3), (4, (b36 : Int))] _ _ _)
    obtain ⟨b37, r37, w⟩ := w
    refine wp_getA (k := 3) rfl rfl rfl s16 rfl rfl r37 (?_ : wp K_X4_fill d Q 66 [some (4, (p0 : Int)), some (4, (p1 : Int)), some (4, (p2 : Int)), some (0, x3)] [(4, (b37 : Int)), (0, x3), (4, (b36 : Int))] _ _ _)
    refine wp_ld (i := (.aload_n 0)) (4, (p0 : Int)) rfl rfl (fun _ => rfl) rfl rfl (?_ : wp K_X4_fill d Q 67 [some (4, (p0 : Int)), some (4, (p1 : Int)), some (4, (p2 : Int)), some (0, x3)] [(4, (p0 : Int)), (4, (b37 : Int)), (0, x3), (4, (b36 : Int))] _ _ _)
    refine wp_getA (k := 12) rfl rfl rfl s1 rfl rfl r18 (?_ : wp K_X4_fill d Q 70 [some (4, (p0 : Int)), some (4, (p1 : Int)), some (4, (p2 : Int)), some (0, x3)] [(4, (b18 : Int)), (4, (b37 : Int)), (0, x3), (4, (b36 : Int))] _ _ _)
    refine wp_ld (i := (.iload_n 3)) (0, x3) rfl rfl (fun _ => rfl) rfl rfl (?_ : wp K_X4_fill d Q 71 [some (4, (p0 : Int)), some (4, (p1 : Int)), some (4, (p2 : Int)), some (0, x3)] [(0, x3), (4, (b18 : Int)), (4, (b37 : Int)), (0, x3), (4, (b36 : Int))] _ _ _)
    refine wp_rng (fun vr38 => ?_)
    have f39 : i32 ((wr (wr V b15 x3 ((V b17 ((V b18 x3))))) b27 x3 (((wr V b15 x3 ((V b17 ((V b18 x3))))) b28 (((wr V b15 x3 ((V b17 ((V b18 x3))))) b18 x3))))) b18 x3) := vr_a0 vr38 g19_ s20
    replace w := w f39
    refine wp_aI rfl rfl g19_ s20 (?_ : wp K_X4_fill d Q 72 [some (4, (p0 : Int)), some (4, (p1 : Int)), some (4, (p2 : Int)), some (0, x3)] [(0, ((wr (wr V b15 x3 ((V b17 ((V b18 x3))))) b27 x3 (((wr V b15 x3 ((V b17 ((V b18 x3))))) b28 (((wr V b15 x3 ((V b17 ((V b18 x3))))) b18 x3))))) b18 x3)), (4, (b37 : Int)), (0, x3), (4, (b36 : Int))] _ _ _)
    obtain ⟨n40_, g40_, w⟩ := w
    obtain ⟨s41, w⟩ := w
    have f42 : i32 ((wr (wr V b15 x3 ((V b17 ((V b18 x3))))) b27 x3 (((wr V b15 x3 ((V b17 ((V b18 x3))))) b28 (((wr V b15 x3 ((V b17 ((V b18 x3))))) b18 x3))))) b37 (((wr (wr V b15 x3 ((V b17 ((V b18 x3))))) b27 x3 (((wr V b15 x3 ((V b17 ((V b18 x3))))) b28 (((wr V b15 x3 ((V b17 ((V b18 x3))))) b18 x3))))) b18 x3))) := vr_a0 vr38 g40_ s41
    replace w := w f42
    refine wp_aI rfl rfl g40_ s41 (?_ : wp K_X4_fill d Q 73 [some (4, (p0 : Int)), some (4, (p1 : Int)), some (4, (p2 : Int)), some (0, x3)] [(0, ((wr (wr V b15 x3 ((V b17 ((V b18 x3))))) b27 x3 (((wr V b15 x3 ((V b17 ((V b18 x3))))) b28 (((wr V b15 x3 ((V b17 ((V b18 x3))))) b18 x3))))) b37 (((wr (wr V b15 x3 ((V b17 ((V b18 x3))))) b27 x3 (((wr V b15 x3 ((V b17 ((V b18 x3))))) b28 (((wr V b15 x3 ((V b17 ((V b18 x3))))) b18 x3))))) b18 x3)))), (0, x3), (4, (b36 : Int))] _ _ _)
    obtain ⟨n43_, g43_, w⟩ := w
    obtain ⟨s44, w⟩ := w
    refine wp_sI rfl rfl g43_ s44 f42 (?_ : wp K_X4_fill d Q 74 [some (4, (p0 : Int)), some (4, (p1 : Int)), some (4, (p2 : Int)), some (0, x3)] [] _ _ _)
    refine wp_ld (i := (.aload_n 0)) (4, (p0 : Int)) rfl rfl (fun _ => rfl) rfl rfl (?_ : wp K_X4_fill d Q 75 [some (4, (p0 : Int)), some (4, (p1 : Int)), some (4, (p2 : Int)), some (0, x3)] [(4, (p0 : Int))] _ _ _)
    obtain ⟨b45, r45, w⟩ := w
    refine wp_getA (k := 7) rfl rfl rfl s1 rfl rfl r45 (?_ : wp K_X4_fill d Q 78 [some (4, (p0 : Int)), some (4, (p1 : Int)), some (4, (p2 : Int)), some (0, x3)] [(4, (b45 : Int))] _ _ _)
    refine wp_ld (i := (.iload_n 3)) (0, x3) rfl rfl (fun _ => rfl) rfl rfl (?_ : wp K_X4_fill d Q 79 [some (4, (p0 : Int)), some (4, (p1 : Int)), some (4, (p2 : Int)), some (0, x3)] [(0, x3), (4, (b45 : Int))] _ _ _)
    refine wp_p (i := (.iconst (-1))) rfl rfl (fun _ _ _ => rfl) (?_ : wp K_X4_fill d Q 80 [some (4, (p0 : Int)), some (4, (p1 : Int)), some (4, (p2 : Int)), some (0, x3)] [(0, (-1)), (0, x3), (4, (b45 : Int))] _ _ _)
    obtain ⟨n46_, g46_, w⟩ := w
    obtain ⟨s47, w⟩ := w
    refine wp_sI rfl rfl g46_ s47 ⟨by omega, by omega⟩ (?_ : wp K_X4_fill d Q 81 [some (4, (p0 : Int)), some (4, (p1 : Int)), some (4, (p2 : Int)), some (0, x3)] [] _ _ _)
    obtain ⟨s48, w⟩ := w
    refine wp_inc (x := 3) (k := 1) (a := x3) (c := (x3 + 1)) _ rfl rfl rfl rfl s48 (by omega) rfl ?_
    show wp K_X4_fill d Q 84 [some (4, (p0 : Int)), some (4, (p1 : Int)), some (4, (p2 : Int)), some (0, (x3 + 1))] [] _ _ _
    refine wp_go 15 rfl rfl rfl (?_ : wp K_X4_fill d Q 15 [some (4, (p0 : Int)), some (4, (p1 : Int)), some (4, (p2 : Int)), some (0, (x3 + 1))] [] _ _ _)
    exact wp_wk (wk_s (wk_s (wk_s (wk_s wk_0)))) w

theorem t_X4_fillOver_0 {d : Nat} {Q : gQ} {p0 : Nat} {G : List gS} {R V : gV} (w : ((G[p0]? = some (gO 4)) ∧ (∃ b2 : Nat, (R p0 13 = (b2 : Int)) ∧ ((i32 (V p0 1)) → ((i32 ((V p0 1) * (V p0 1))) ∧ cw d (fun r G6 R6 V6 => ∃ q7 : Nat, r = some (4, (q7 : Int)) ∧ ((G6[p0]? = some (gO 4)) ∧ wp K_X4_fillOver d Q 22 [some (4, (p0 : Int)), some (0, 0)] [] G6 (wr R6 p0 13 (q7 : Int)) V6)) 158 [(4, (b2 : Int)), (0, ((V p0 1) * (V p0 1)))] G R V))))) : wp K_X4_fillOver d Q 0 [some (4, (p0 : Int))] [] G R V := by
  refine wp_ld (i := (.aload_n 0)) (4, (p0 : Int)) rfl rfl (fun _ => rfl) rfl rfl (?_ : wp K_X4_fillOver d Q 1 [some (4, (p0 : Int))] [(4, (p0 : Int))] _ _ _)
  refine wp_ld (i := (.aload_n 0)) (4, (p0 : Int)) rfl rfl (fun _ => rfl) rfl rfl (?_ : wp K_X4_fillOver d Q 2 [some (4, (p0 : Int))] [(4, (p0 : Int)), (4, (p0 : Int))] _ _ _)
  obtain ⟨s1, w⟩ := w
  obtain ⟨b2, r2, w⟩ := w
  refine wp_getA (k := 13) rfl rfl rfl s1 rfl rfl r2 (?_ : wp K_X4_fillOver d Q 5 [some (4, (p0 : Int))] [(4, (b2 : Int)), (4, (p0 : Int))] _ _ _)
  refine wp_ld (i := (.aload_n 0)) (4, (p0 : Int)) rfl rfl (fun _ => rfl) rfl rfl (?_ : wp K_X4_fillOver d Q 6 [some (4, (p0 : Int))] [(4, (p0 : Int)), (4, (b2 : Int)), (4, (p0 : Int))] _ _ _)
  refine wp_rng (fun vr3 => ?_)
  have f4 : i32 (V p0 1) := vr_f0 vr3 s1 rfl rfl
  replace w := w f4
  refine wp_getI (k := 1) rfl rfl rfl s1 rfl rfl (?_ : wp K_X4_fillOver d Q 9 [some (4, (p0 : Int))] [(0, (V p0 1)), (4, (b2 : Int)), (4, (p0 : Int))] _ _ _)
  refine wp_ld (i := (.aload_n 0)) (4, (p0 : Int)) rfl rfl (fun _ => rfl) rfl rfl (?_ : wp K_X4_fillOver d Q 10 [some (4, (p0 : Int))] [(4, (p0 : Int)), (0, (V p0 1)), (4, (b2 : Int)), (4, (p0 : Int))] _ _ _)
  refine wp_getI (k := 1) rfl rfl rfl s1 rfl rfl (?_ : wp K_X4_fillOver d Q 13 [some (4, (p0 : Int))] [(0, (V p0 1)), (0, (V p0 1)), (4, (b2 : Int)), (4, (p0 : Int))] _ _ _)
  obtain ⟨s5, w⟩ := w
  refine wp_xmul rfl rfl s5 (?_ : wp K_X4_fillOver d Q 14 [some (4, (p0 : Int))] [(0, ((V p0 1) * (V p0 1))), (4, (b2 : Int)), (4, (p0 : Int))] _ _ _)
  refine wp_stat (as := [(4, (b2 : Int)), (0, ((V p0 1) * (V p0 1)))]) (st := [(4, (p0 : Int))]) _ rfl rfl rfl (by omega) rfl rfl (Nat.le_of_ble_eq_true rfl) (cw_kA w (fun q7 G6 R6 V6 w => ?_))
  show wp K_X4_fillOver d Q 17 [some (4, (p0 : Int))] [(4, (q7 : Int)), (4, (p0 : Int))] _ _ _
  obtain ⟨s8, w⟩ := w
  refine wp_putA (k := 13) rfl rfl rfl s8 rfl rfl rfl (?_ : wp K_X4_fillOver d Q 20 [some (4, (p0 : Int))] [] _ _ _)
  refine wp_p (i := (.iconst 0)) rfl rfl (fun _ _ _ => rfl) (?_ : wp K_X4_fillOver d Q 21 [some (4, (p0 : Int))] [(0, 0)] _ _ _)
  refine wp_sto (i := (.istore_n 1)) _ rfl rfl (fun _ => rfl) rfl rfl rfl ?_
  refine wp_wk (L' := [some (4, (p0 : Int)), some (0, 0)]) (wk_s (wk_s wk_0)) ?_
  show wp K_X4_fillOver d Q 22 [some (4, (p0 : Int)), some (0, 0)] [] _ _ _
  exact wp_wk (wk_s (wk_s wk_0)) w

theorem t_X4_fillOver_22 {d : Nat} {Q : gQ} {p0 : Nat} {x1 : Int} {G : List gS} {R V : gV} (w : ((G[p0]? = some (gO 4)) ∧ ((i32 (V p0 1)) → ((i32 ((V p0 1) * (V p0 1))) ∧ ((i32 x1) ∧ (((¬ x1 < ((V p0 1) * (V p0 1))) → wp K_X4_fillOver d Q 50 [some (4, (p0 : Int)), some (0, 0)] [] G R V) ∧ ((x1 < ((V p0 1) * (V p0 1))) → (∃ b6 : Nat, (R p0 13 = (b6 : Int)) ∧ (∃ n7_ : Nat, (G[b6]? = some (gA 0 n7_)) ∧ (((0 : Int) ≤ x1 ∧ x1 < (n7_ : Int)) ∧ ((i32 (x1 + 1)) ∧ wp K_X4_fillOver d Q 22 [some (4, (p0 : Int)), some (0, (x1 + 1))] [] G R (wr V b6 x1 0)))))))))))) : wp K_X4_fillOver d Q 22 [some (4, (p0 : Int)), some (0, x1)] [] G R V := by
  refine wp_ld (i := (.iload_n 1)) (0, x1) rfl rfl (fun _ => rfl) rfl rfl (?_ : wp K_X4_fillOver d Q 23 [some (4, (p0 : Int)), some (0, x1)] [(0, x1)] _ _ _)
  refine wp_ld (i := (.aload_n 0)) (4, (p0 : Int)) rfl rfl (fun _ => rfl) rfl rfl (?_ : wp K_X4_fillOver d Q 24 [some (4, (p0 : Int)), some (0, x1)] [(4, (p0 : Int)), (0, x1)] _ _ _)
  obtain ⟨s1, w⟩ := w
  refine wp_rng (fun vr2 => ?_)
  have f3 : i32 (V p0 1) := vr_f0 vr2 s1 rfl rfl
  replace w := w f3
  refine wp_getI (k := 1) rfl rfl rfl s1 rfl rfl (?_ : wp K_X4_fillOver d Q 27 [some (4, (p0 : Int)), some (0, x1)] [(0, (V p0 1)), (0, x1)] _ _ _)
  refine wp_ld (i := (.aload_n 0)) (4, (p0 : Int)) rfl rfl (fun _ => rfl) rfl rfl (?_ : wp K_X4_fillOver d Q 28 [some (4, (p0 : Int)), some (0, x1)] [(4, (p0 : Int)), (0, (V p0 1)), (0, x1)] _ _ _)
  refine wp_getI (k := 1) rfl rfl rfl s1 rfl rfl (?_ : wp K_X4_fillOver d Q 31 [some (4, (p0 : Int)), some (0, x1)] [(0, (V p0 1)), (0, (V p0 1)), (0, x1)] _ _ _)
  obtain ⟨s4, w⟩ := w
  refine wp_xmul rfl rfl s4 (?_ : wp K_X4_fillOver d Q 32 [some (4, (p0 : Int)), some (0, x1)] [(0, ((V p0 1) * (V p0 1))), (0, x1)] _ _ _)
  obtain ⟨s5, w⟩ := w
  refine wp_icmp (c := .ge) 48 rfl rfl rfl s5 s4 (fun q => ?_) (fun q => ?_)
  · have q : ¬ x1 < ((V p0 1) * (V p0 1)) := q
    replace w := w.1 q
    show wp K_X4_fillOver d Q 48 [some (4, (p0 : Int)), some (0, x1)] [] _ _ _
    refine wp_p (i := (.iconst 0)) rfl rfl (fun _ _ _ => rfl) (?_ : wp K_X4_fillOver d Q 49 [some (4, (p0 : Int)), some (0, x1)] [(0, 0)] _ _ _)
    refine wp_sto (i := (.istore_n 1)) _ rfl rfl (fun _ => rfl) rfl rfl rfl ?_
    refine wp_wk (L' := [some (4, (p0 : Int)), some (0, 0)]) (wk_s (wk_s wk_0)) ?_
    show wp K_X4_fillOver d Q 50 [some (4, (p0 : Int)), some (0, 0)] [] _ _ _
    exact wp_wk (wk_s (wk_s wk_0)) w
  · have q : x1 < ((V p0 1) * (V p0 1)) := Decidable.not_not.mp q
    replace w := w.2 q
    show wp K_X4_fillOver d Q 35 [some (4, (p0 : Int)), some (0, x1)] [] _ _ _
    refine wp_ld (i := (.aload_n 0)) (4, (p0 : Int)) rfl rfl (fun _ => rfl) rfl rfl (?_ : wp K_X4_fillOver d Q 36 [some (4, (p0 : Int)), some (0, x1)] [(4, (p0 : Int))] _ _ _)
    obtain ⟨b6, r6, w⟩ := w
    refine wp_getA (k := 13) rfl rfl rfl s1 rfl rfl r6 (?_ : wp K_X4_fillOver d Q 39 [some (4, (p0 : Int)), some (0, x1)] [(4, (b6 : Int))] _ _ _)
    refine wp_ld (i := (.iload_n 1)) (0, x1) rfl rfl (fun _ => rfl) rfl rfl (?_ : wp K_X4_fillOver d Q 40 [some (4, (p0 : Int)), some (0, x1)] [(0, x1), (4, (b6 : Int))] _ _ _)
    refine wp_p (i := (.iconst 0)) rfl rfl (fun _ _ _ => rfl) (?_ : wp K_X4_fillOver d Q 41 [some (4, (p0 : Int)), some (0, x1)] [(0, 0), (0, x1), (4, (b6 : Int))] _ _ _)
    obtain ⟨n7_, g7_, w⟩ := w
    obtain ⟨s8, w⟩ := w
    refine wp_sI rfl rfl g7_ s8 ⟨by omega, by omega⟩ (?_ : wp K_X4_fillOver d Q 42 [some (4, (p0 : Int)), some (0, x1)] [] _ _ _)
    obtain ⟨s9, w⟩ := w
    refine wp_inc (x := 1) (k := 1) (a := x1) (c := (x1 + 1)) _ rfl rfl rfl rfl s9 (by omega) rfl ?_
    show wp K_X4_fillOver d Q 45 [some (4, (p0 : Int)), some (0, (x1 + 1))] [] _ _ _
    refine wp_go 22 rfl rfl rfl (?_ : wp K_X4_fillOver d Q 22 [some (4, (p0 : Int)), some (0, (x1 + 1))] [] _ _ _)
    exact wp_wk (wk_s (wk_s wk_0)) w

theorem t_X4_fillOver_50 {d : Nat} {Q : gQ} {p0 : Nat} {x1 : Int} {G : List gS} {R V : gV} (w : ((G[p0]? = some (gO 4)) ∧ ((i32 (V p0 1)) → ((i32 x1) ∧ (((¬ x1 < (V p0 1)) → Q none G R V) ∧ ((x1 < (V p0 1)) → (∃ b5 : Nat, (R p0 8 = (b5 : Int)) ∧ (∃ n6_ : Nat, (G[b5]? = some (gA 0 n6_)) ∧ (((0 : Int) ≤ x1 ∧ x1 < (n6_ : Int)) ∧ ((i32 (V b5 x1)) → wp K_X4_fillOver d Q 65 [some (4, (p0 : Int)), some (0, x1), some (0, (V b5 x1))] [] G R V)))))))))) : wp K_X4_fillOver d Q 50 [some (4, (p0 : Int)), some (0, x1)] [] G R V := by
  refine wp_ld (i := (.iload_n 1)) (0, x1) rfl rfl (fun _ => rfl) rfl rfl (?_ : wp K_X4_fillOver d Q 51 [some (4, (p0 : Int)), some (0, x1)] [(0, x1)] _ _ _)
  refine wp_ld (i := (.aload_n 0)) (4, (p0 : Int)) rfl rfl (fun _ => rfl) rfl rfl (?_ : wp K_X4_fillOver d Q 52 [some (4, (p0 : Int)), some (0, x1)] [(4, (p0 : Int)), (0, x1)] _ _ _)
  obtain ⟨s1, w⟩ := w
  refine wp_rng (fun vr2 => ?_)
  have f3 : i32 (V p0 1) := vr_f0 vr2 s1 rfl rfl
  replace w := w f3
  refine wp_getI (k := 1) rfl rfl rfl s1 rfl rfl (?_ : wp K_X4_fillOver d Q 55 [some (4, (p0 : Int)), some (0, x1)] [(0, (V p0 1)), (0, x1)] _ _ _)
  obtain ⟨s4, w⟩ := w
  refine wp_icmp (c := .ge) 121 rfl rfl rfl s4 f3 (fun q => ?_) (fun q => ?_)
  · have q : ¬ x1 < (V p0 1) := q
    replace w := w.1 q
    show wp K_X4_fillOver d Q 121 [some (4, (p0 : Int)), some (0, x1)] [] _ _ _
    exact wp_g0 rfl rfl rfl w
  · have q : x1 < (V p0 1) := Decidable.not_not.mp q
    replace w := w.2 q
    show wp K_X4_fillOver d Q 58 [some (4, (p0 : Int)), some (0, x1)] [] _ _ _
    refine wp_ld (i := (.aload_n 0)) (4, (p0 : Int)) rfl rfl (fun _ => rfl) rfl rfl (?_ : wp K_X4_fillOver d Q 59 [some (4, (p0 : Int)), some (0, x1)] [(4, (p0 : Int))] _ _ _)
    obtain ⟨b5, r5, w⟩ := w
    refine wp_getA (k := 8) rfl rfl rfl s1 rfl rfl r5 (?_ : wp K_X4_fillOver d Q 62 [some (4, (p0 : Int)), some (0, x1)] [(4, (b5 : Int))] _ _ _)
    refine wp_ld (i := (.iload_n 1)) (0, x1) rfl rfl (fun _ => rfl) rfl rfl (?_ : wp K_X4_fillOver d Q 63 [some (4, (p0 : Int)), some (0, x1)] [(0, x1), (4, (b5 : Int))] _ _ _)
    obtain ⟨n6_, g6_, w⟩ := w
    obtain ⟨s7, w⟩ := w
    have f8 : i32 (V b5 x1) := vr_a0 vr2 g6_ s7
    replace w := w f8
    refine wp_aI rfl rfl g6_ s7 (?_ : wp K_X4_fillOver d Q 64 [some (4, (p0 : Int)), some (0, x1)] [(0, (V b5 x1))] _ _ _)
    refine wp_sto (i := (.istore_n 2)) _ rfl rfl (fun _ => rfl) rfl rfl rfl ?_
    refine wp_wk (L' := [some (4, (p0 : Int)), some (0, x1), some (0, (V b5 x1))]) (wk_s (wk_s (wk_s wk_0))) ?_
    show wp K_X4_fillOver d Q 65 [some (4, (p0 : Int)), some (0, x1), some (0, (V b5 x1))] [] _ _ _
    exact wp_wk (wk_s (wk_s (wk_s wk_0))) w

theorem t_X4_fillOver_65 {d : Nat} {Q : gQ} {p0 : Nat} {x1 : Int} {x2 : Int} {G : List gS} {R V : gV} (w : ((G[p0]? = some (gO 4)) ∧ ((i32 (V p0 0)) → ((i32 x2) ∧ (((¬ x2 < (V p0 0)) → ((i32 (x1 + 1)) ∧ wp K_X4_fillOver d Q 50 [some (4, (p0 : Int)), some (0, (x1 + 1))] [] G R V)) ∧ ((x2 < (V p0 0)) → (∃ b6 : Nat, (R p0 8 = (b6 : Int)) ∧ (∃ n7_ : Nat, (G[b6]? = some (gA 0 n7_)) ∧ (((0 : Int) ≤ x1 ∧ x1 < (n7_ : Int)) ∧ ((i32 (V b6 x1)) → cwv d (fun r V10 => ∃ v11 : Int, r = some (0, v11) ∧ ((i32 v11) ∧ (((v11 = 0) → ((i32 (x2 + 1)) ∧ wp K_X4_fillOver d Q 65 [some (4, (p0 : Int)), some (0, x1), some (0, (x2 + 1))] [] G R V10)) ∧ ((¬ v11 = 0) → (∃ b14 : Nat, (R p0 13 = (b14 : Int)) ∧ ((i32 (V10 p0 1)) → ((i32 (x1 * (V10 p0 1))) ∧ (∃ b18 : Nat, (R p0 5 = (b18 : Int)) ∧ (∃ n19_ : Nat, (G[b18]? = some (gA 0 n19_)) ∧ (((0 : Int) ≤ x2 ∧ x2 < (n19_ : Int)) ∧ ((i32 (V10 b18 x2)) → ((i32 ((x1 * (V10 p0 1)) + (V10 b18 x2))) ∧ (∃ n23_ : Nat, (G[b14]? = some (gA 0 n23_)) ∧ (((0 : Int) ≤ ((x1 * (V10 p0 1)) + (V10 b18 x2)) ∧ ((x1 * (V10 p0 1)) + (V10 b18 x2)) < (n23_ : Int)) ∧ ((i32 (V10 b14 (((x1 * (V10 p0 1)) + (V10 b18 x2))))) → ((i32 ((V10 b14 (((x1 * (V10 p0 1)) + (V10 b18 x2)))) + 1)) ∧ ((i32 (x2 + 1)) ∧ wp K_X4_fillOver d Q 65 [some (4, (p0 : Int)), some (0, x1), some (0, (x2 + 1))] [] G R (wr V10 b14 (((x1 * (V10 p0 1)) + (V10 b18 x2))) (((V10 b14 (((x1 * (V10 p0 1)) + (V10 b18 x2)))) + 1)))))))))))))))))))) 61 [(4, (p0 : Int)), (0, (V b6 x1)), (0, x2)] G R V)))))))))) : wp K_X4_fillOver d Q 65 [some (4, (p0 : Int)), some (0, x1), some (0, x2)] [] G R V := by
  refine wp_ld (i := (.iload_n 2)) (0, x2) rfl rfl (fun _ => rfl) rfl rfl (?_ : wp K_X4_fillOver d Q 66 [some (4, (p0 : Int)), some (0, x1), some (0, x2)] [(0, x2)] _ _ _)
  refine wp_ld (i := (.aload_n 0)) (4, (p0 : Int)) rfl rfl (fun _ => rfl) rfl rfl (?_ : wp K_X4_fillOver d Q 67 [some (4, (p0 : Int)), some (0, x1), some (0, x2)] [(4, (p0 : Int)), (0, x2)] _ _ _)
  obtain ⟨s1, w⟩ := w
  refine wp_rng (fun vr2 => ?_)
  have f3 : i32 (V p0 0) := vr_f0 vr2 s1 rfl rfl
  replace w := w f3
  refine wp_getI (k := 0) rfl rfl rfl s1 rfl rfl (?_ : wp K_X4_fillOver d Q 70 [some (4, (p0 : Int)), some (0, x1), some (0, x2)] [(0, (V p0 0)), (0, x2)] _ _ _)
  obtain ⟨s4, w⟩ := w
  refine wp_icmp (c := .ge) 115 rfl rfl rfl s4 f3 (fun q => ?_) (fun q => ?_)
  · have q : ¬ x2 < (V p0 0) := q
    replace w := w.1 q
    show wp K_X4_fillOver d Q 115 [some (4, (p0 : Int)), some (0, x1), some (0, x2)] [] _ _ _
    obtain ⟨s5, w⟩ := w
    refine wp_inc (x := 1) (k := 1) (a := x1) (c := (x1 + 1)) _ rfl rfl rfl rfl s5 (by omega) rfl ?_
    show wp K_X4_fillOver d Q 118 [some (4, (p0 : Int)), some (0, (x1 + 1)), some (0, x2)] [] _ _ _
    refine wp_go 50 rfl rfl rfl (?_ : wp K_X4_fillOver d Q 50 [some (4, (p0 : Int)), some (0, (x1 + 1)), some (0, x2)] [] _ _ _)
    exact wp_wk (wk_s (wk_s wk_0)) w
  · have q : x2 < (V p0 0) := Decidable.not_not.mp q
    replace w := w.2 q
    show wp K_X4_fillOver d Q 73 [some (4, (p0 : Int)), some (0, x1), some (0, x2)] [] _ _ _
    refine wp_ld (i := (.aload_n 0)) (4, (p0 : Int)) rfl rfl (fun _ => rfl) rfl rfl (?_ : wp K_X4_fillOver d Q 74 [some (4, (p0 : Int)), some (0, x1), some (0, x2)] [(4, (p0 : Int))] _ _ _)
    refine wp_ld (i := (.aload_n 0)) (4, (p0 : Int)) rfl rfl (fun _ => rfl) rfl rfl (?_ : wp K_X4_fillOver d Q 75 [some (4, (p0 : Int)), some (0, x1), some (0, x2)] [(4, (p0 : Int)), (4, (p0 : Int))] _ _ _)
    obtain ⟨b6, r6, w⟩ := w
    refine wp_getA (k := 8) rfl rfl rfl s1 rfl rfl r6 (?_ : wp K_X4_fillOver d Q 78 [some (4, (p0 : Int)), some (0, x1), some (0, x2)] [(4, (b6 : Int)), (4, (p0 : Int))] _ _ _)
    refine wp_ld (i := (.iload_n 1)) (0, x1) rfl rfl (fun _ => rfl) rfl rfl (?_ : wp K_X4_fillOver d Q 79 [some (4, (p0 : Int)), some (0, x1), some (0, x2)] [(0, x1), (4, (b6 : Int)), (4, (p0 : Int))] _ _ _)
    obtain ⟨n7_, g7_, w⟩ := w
    obtain ⟨s8, w⟩ := w
    have f9 : i32 (V b6 x1) := vr_a0 vr2 g7_ s8
    replace w := w f9
    refine wp_aI rfl rfl g7_ s8 (?_ : wp K_X4_fillOver d Q 80 [some (4, (p0 : Int)), some (0, x1), some (0, x2)] [(0, (V b6 x1)), (4, (p0 : Int))] _ _ _)
    refine wp_ld (i := (.iload_n 2)) (0, x2) rfl rfl (fun _ => rfl) rfl rfl (?_ : wp K_X4_fillOver d Q 81 [some (4, (p0 : Int)), some (0, x1), some (0, x2)] [(0, x2), (0, (V b6 x1)), (4, (p0 : Int))] _ _ _)
    refine wp_virt (as := [(0, (V b6 x1)), (0, x2)]) (a := p0) (st := []) _ rfl rfl rfl rfl rfl rfl s1 (Nat.le_of_ble_eq_true rfl) (cwv_kI w (fun v11 V10 w => ?_))
    show wp K_X4_fillOver d Q 84 [some (4, (p0 : Int)), some (0, x1), some (0, x2)] [(0, v11)] _ _ _
    obtain ⟨s12, w⟩ := w
    refine wp_if (c := .eq) 109 rfl rfl rfl s12 (fun q => ?_) (fun q => ?_)
    · have q : v11 = 0 := q
      replace w := w.1 q
      show wp K_X4_fillOver d Q 109 [some (4, (p0 : Int)), some (0, x1), some (0, x2)] [] _ _ _
      obtain ⟨s13, w⟩ := w
      refine wp_inc (x := 2) (k := 1) (a := x2) (c := (x2 + 1)) _ rfl rfl rfl rfl s13 (by omega) rfl ?_
      show wp K_X4_fillOver d Q 112 [some (4, (p0 : Int)), some (0, x1), some (0, (x2 + 1))] [] _ _ _
      refine wp_go 65 rfl rfl rfl (?_ : wp K_X4_fillOver d Q 65 [some (4, (p0 : Int)), some (0, x1), some (0, (x2 + 1))] [] _ _ _)
      exact wp_wk (wk_s (wk_s (wk_s wk_0))) w
    · have q : ¬ v11 = 0 := q
      replace w := w.2 q
      show wp K_X4_fillOver d Q 87 [some (4, (p0 : Int)), some (0, x1), some (0, x2)] [] _ _ _
      refine wp_ld (i := (.aload_n 0)) (4, (p0 : Int)) rfl rfl (fun _ => rfl) rfl rfl (?_ : wp K_X4_fillOver d Q 88 [some (4, (p0 : Int)), some (0, x1), some (0, x2)] [(4, (p0 : Int))] _ _ _)
      obtain ⟨b14, r14, w⟩ := w
      refine wp_getA (k := 13) rfl rfl rfl s1 rfl rfl r14 (?_ : wp K_X4_fillOver d Q 91 [some (4, (p0 : Int)), some (0, x1), some (0, x2)] [(4, (b14 : Int))] _ _ _)
      refine wp_ld (i := (.iload_n 1)) (0, x1) rfl rfl (fun _ => rfl) rfl rfl (?_ : wp K_X4_fillOver d Q 92 [some (4, (p0 : Int)), some (0, x1), some (0, x2)] [(0, x1), (4, (b14 : Int))] _ _ _)
      refine wp_ld (i := (.aload_n 0)) (4, (p0 : Int)) rfl rfl (fun _ => rfl) rfl rfl (?_ : wp K_X4_fillOver d Q 93 [some (4, (p0 : Int)), some (0, x1), some (0, x2)] [(4, (p0 : Int)), (0, x1), (4, (b14 : Int))] _ _ _)
      refine wp_rng (fun vr15 => ?_)
      have f16 : i32 (V10 p0 1) := vr_f0 vr15 s1 rfl rfl
      replace w := w f16
      refine wp_getI (k := 1) rfl rfl rfl s1 rfl rfl (?_ : wp K_X4_fillOver d Q 96 [some (4, (p0 : Int)), some (0, x1), some (0, x2)] [(0, (V10 p0 1)), (0, x1), (4, (b14 : Int))] _ _ _)
      obtain ⟨s17, w⟩ := w
      refine wp_xmul rfl rfl s17 (?_ : wp K_X4_fillOver d Q 97 [some (4, (p0 : Int)), some (0, x1), some (0, x2)] [(0, (x1 * (V10 p0 1))), (4, (b14 : Int))] _ _ _)
      refine wp_ld (i := (.aload_n 0)) (4, (p0 : Int)) rfl rfl (fun _ => rfl) rfl rfl (?_ : wp K_X4_fillOver d Q 98 [some (4, (p0 : Int)), some (0, x1), some (0, x2)] [(4, (p0 : Int)), (0, (x1 * (V10 p0 1))), (4, (b14 : Int))] _ _ _)
      obtain ⟨b18, r18, w⟩ := w
      refine wp_getA (k := 5) rfl rfl rfl s1 rfl rfl r18 (?_ : wp K_X4_fillOver d Q 101 [some (4, (p0 : Int)), some (0, x1), some (0, x2)] [(4, (b18 : Int)), (0, (x1 * (V10 p0 1))), (4, (b14 : Int))] _ _ _)
      refine wp_ld (i := (.iload_n 2)) (0, x2) rfl rfl (fun _ => rfl) rfl rfl (?_ : wp K_X4_fillOver d Q 102 [some (4, (p0 : Int)), some (0, x1), some (0, x2)] [(0, x2), (4, (b18 : Int)), (0, (x1 * (V10 p0 1))), (4, (b14 : Int))] _ _ _)
      obtain ⟨n19_, g19_, w⟩ := w
      obtain ⟨s20, w⟩ := w
      have f21 : i32 (V10 b18 x2) := vr_a0 vr15 g19_ s20
      replace w := w f21
      refine wp_aI rfl rfl g19_ s20 (?_ : wp K_X4_fillOver d Q 103 [some (4, (p0 : Int)), some (0, x1), some (0, x2)] [(0, (V10 b18 x2)), (0, (x1 * (V10 p0 1))), (4, (b14 : Int))] _ _ _)
      obtain ⟨s22, w⟩ := w
      refine wp_xadd rfl rfl s22 (?_ : wp K_X4_fillOver d Q 104 [some (4, (p0 : Int)), some (0, x1), some (0, x2)] [(0, ((x1 * (V10 p0 1)) + (V10 b18 x2))), (4, (b14 : Int))] _ _ _)
      refine wp_p (i := .dup2) rfl rfl (fun _ _ _ => rfl) (?_ : wp K_X4_fillOver d Q 105 [some (4, (p0 : Int)), some (0, x1), some (0, x2)] [(0, ((x1 * (V10 p0 1)) + (V10 b18 x2))), (4, (b14 : Int)), (0, ((x1 * (V10 p0 1)) + (V10 b18 x2))), (4, (b14 : Int))] _ _ _)
      obtain ⟨n23_, g23_, w⟩ := w
      obtain ⟨s24, w⟩ := w
      have f25 : i32 (V10 b14 (((x1 * (V10 p0 1)) + (V10 b18 x2)))) := vr_a0 vr15 g23_ s24
      replace w := w f25
      refine wp_aI rfl rfl g23_ s24 (?_ : wp K_X4_fillOver d Q 106 [some (4, (p0 : Int)), some (0, x1), some (0, x2)] [(0, (V10 b14 (((x1 * (V10 p0 1)) + (V10 b18 x2))))), (0, ((x1 * (V10 p0 1)) + (V10 b18 x2))), (4, (b14 : Int))] _ _ _)
      refine wp_p (i := (.iconst 1)) rfl rfl (fun _ _ _ => rfl) (?_ : wp K_X4_fillOver d Q 107 [some (4, (p0 : Int)), some (0, x1), some (0, x2)] [(0, 1), (0, (V10 b14 (((x1 * (V10 p0 1)) + (V10 b18 x2))))), (0, ((x1 * (V10 p0 1)) + (V10 b18 x2))), (4, (b14 : Int))] _ _ _)
      obtain ⟨s26, w⟩ := w
      refine wp_xadd rfl rfl s26 (?_ : wp K_X4_fillOver d Q 108 [some (4, (p0 : Int)), some (0, x1), some (0, x2)] [(0, ((V10 b14 (((x1 * (V10 p0 1)) + (V10 b18 x2)))) + 1)), (0, ((x1 * (V10 p0 1)) + (V10 b18 x2))), (4, (b14 : Int))] _ _ _)
      refine wp_sI rfl rfl g23_ s24 s26 (?_ : wp K_X4_fillOver d Q 109 [some (4, (p0 : Int)), some (0, x1), some (0, x2)] [] _ _ _)
      obtain ⟨s27, w⟩ := w
      refine wp_inc (x := 2) (k := 1) (a := x2) (c := (x2 + 1)) _ rfl rfl rfl rfl s27 (by omega) rfl ?_
      show wp K_X4_fillOver d Q 112 [some (4, (p0 : Int)), some (0, x1), some (0, (x2 + 1))] [] _ _ _
      refine wp_go 65 rfl rfl rfl (?_ : wp K_X4_fillOver d Q 65 [some (4, (p0 : Int)), some (0, x1), some (0, (x2 + 1))] [] _ _ _)
      exact wp_wk (wk_s (wk_s (wk_s wk_0))) w

theorem t_X5_init_0 {d : Nat} {Q : gQ} {p0 : Nat} {G : List gS} {R V : gV} (w : (((G ++ [gA 0 8])[p0]? = some (gO 5)) ∧ Q none (G ++ [gA 0 8]) (wr R p0 0 ((G.length : Nat) : Int)) (wr (wr V p0 1 0) p0 2 ((-1))))) : wp K_X5_init d Q 0 [some (4, (p0 : Int))] [] G R V := by
  refine wp_ld (i := (.aload_n 0)) (4, (p0 : Int)) rfl rfl (fun _ => rfl) rfl rfl (?_ : wp K_X5_init d Q 1 [some (4, (p0 : Int))] [(4, (p0 : Int))] _ _ _)
  refine wp_obj rfl rfl rfl (Nat.le_of_ble_eq_true rfl) (?_ : wp K_X5_init d Q 4 [some (4, (p0 : Int))] [] _ _ _)
  refine wp_ld (i := (.aload_n 0)) (4, (p0 : Int)) rfl rfl (fun _ => rfl) rfl rfl (?_ : wp K_X5_init d Q 5 [some (4, (p0 : Int))] [(4, (p0 : Int))] _ _ _)
  refine wp_p (i := (.bipush 8)) rfl rfl (fun _ _ _ => rfl) (?_ : wp K_X5_init d Q 7 [some (4, (p0 : Int))] [(0, 8), (4, (p0 : Int))] _ _ _)
  refine wp_arr (ty := 0) (n := 2) (len := 8) rfl rfl (fun _ _ _ => rfl) (by omega) (by omega) (by omega) ?_
  show wp K_X5_init d Q 9 [some (4, (p0 : Int))] [(4, ((G.length : Nat) : Int)), (4, (p0 : Int))] _ _ _
  obtain ⟨s1, w⟩ := w
  refine wp_putA (k := 0) rfl rfl rfl s1 rfl rfl rfl (?_ : wp K_X5_init d Q 12 [some (4, (p0 : Int))] [] _ _ _)
  refine wp_ld (i := (.aload_n 0)) (4, (p0 : Int)) rfl rfl (fun _ => rfl) rfl rfl (?_ : wp K_X5_init d Q 13 [some (4, (p0 : Int))] [(4, (p0 : Int))] _ _ _)
  refine wp_p (i := (.iconst 0)) rfl rfl (fun _ _ _ => rfl) (?_ : wp K_X5_init d Q 14 [some (4, (p0 : Int))] [(0, 0), (4, (p0 : Int))] _ _ _)
  refine wp_putI (k := 1) rfl rfl rfl s1 rfl rfl rfl ⟨by omega, by omega⟩ (?_ : wp K_X5_init d Q 17 [some (4, (p0 : Int))] [] _ _ _)
  refine wp_ld (i := (.aload_n 0)) (4, (p0 : Int)) rfl rfl (fun _ => rfl) rfl rfl (?_ : wp K_X5_init d Q 18 [some (4, (p0 : Int))] [(4, (p0 : Int))] _ _ _)
  refine wp_p (i := (.iconst (-1))) rfl rfl (fun _ _ _ => rfl) (?_ : wp K_X5_init d Q 19 [some (4, (p0 : Int))] [(0, (-1)), (4, (p0 : Int))] _ _ _)
  refine wp_putI (k := 2) rfl rfl rfl s1 rfl rfl rfl ⟨by omega, by omega⟩ (?_ : wp K_X5_init d Q 22 [some (4, (p0 : Int))] [] _ _ _)
  exact wp_g0 rfl rfl rfl w

theorem t_X6_build_0 {d : Nat} {Q : gQ} {p0 : Nat} {x1 : Int} {p2 : Nat} {G : List gS} {R V : gV} (w : ((G[p0]? = some (gO 6)) ∧ ((i32 x1) ∧ cwv d (fun r V3 => r = none ∧ cwv d (fun r V4 => ∃ v5 : Int, r = some (0, v5) ∧ ((i32 v5) ∧ (((¬ v5 = 0) → cwv d (fun r V7 => r = none ∧ cwv d (fun r V8 => r = none ∧ cw d (fun r G9 R9 V9 => r = none ∧ ((G9[p0]? = some (gO 6)) ∧ cwv d (fun r V10 => r = none ∧ Q (some (0, 1)) G9 R9 V10) 101 [(4, (p0 : Int))] G9 R9 V9)) 99 [(4, (p0 : Int))] G R V8) 97 [(4, (p0 : Int))] G R V7) 96 [(4, (p0 : Int))] G R V4) ∧ ((v5 = 0) → Q (some (0, 0)) G R V4)))) 95 [(4, (p0 : Int))] G R V3) 93 [(4, (p0 : Int)), (4, (p2 : Int))] G R (wr V p0 0 x1)))) : wp K_X6_build d Q 0 [some (4, (p0 : Int)), some (0, x1), some (4, (p2 : Int))] [] G R V := by
  refine wp_ld (i := (.aload_n 0)) (4, (p0 : Int)) rfl rfl (fun _ => rfl) rfl rfl (?_ : wp K_X6_build d Q 1 [some (4, (p0 : Int)), some (0, x1), some (4, (p2 : Int))] [(4, (p0 : Int))] _ _ _)
  refine wp_ld (i := (.iload_n 1)) (0, x1) rfl rfl (fun _ => rfl) rfl rfl (?_ : wp K_X6_build d Q 2 [some (4, (p0 : Int)), some (0, x1), some (4, (p2 : Int))] [(0, x1), (4, (p0 : Int))] _ _ _)
  obtain ⟨s1, w⟩ := w
  obtain ⟨s2, w⟩ := w
  refine wp_putI (k := 0) rfl rfl rfl s1 rfl rfl rfl s2 (?_ : wp K_X6_build d Q 5 [some (4, (p0 : Int)), some (0, x1), some (4, (p2 : Int))] [] _ _ _)
  refine wp_ld (i := (.aload_n 0)) (4, (p0 : Int)) rfl rfl (fun _ => rfl) rfl rfl (?_ : wp K_X6_build d Q 6 [some (4, (p0 : Int)), some (0, x1), some (4, (p2 : Int))] [(4, (p0 : Int))] _ _ _)
  refine wp_ld (i := (.aload_n 2)) (4, (p2 : Int)) rfl rfl (fun _ => rfl) rfl rfl (?_ : wp K_X6_build d Q 7 [some (4, (p0 : Int)), some (0, x1), some (4, (p2 : Int))] [(4, (p2 : Int)), (4, (p0 : Int))] _ _ _)
  refine wp_virt (as := [(4, (p2 : Int))]) (a := p0) (st := []) _ rfl rfl rfl rfl rfl rfl s1 (Nat.le_of_ble_eq_true rfl) (cwv_k0 w (fun V3 w => ?_))
  show wp K_X6_build d Q 10 [some (4, (p0 : Int)), some (0, x1), some (4, (p2 : Int))] [] _ _ _
  refine wp_ld (i := (.aload_n 0)) (4, (p0 : Int)) rfl rfl (fun _ => rfl) rfl rfl (?_ : wp K_X6_build d Q 11 [some (4, (p0 : Int)), some (0, x1), some (4, (p2 : Int))] [(4, (p0 : Int))] _ _ _)
  refine wp_virt (as := []) (a := p0) (st := []) _ rfl rfl rfl rfl rfl rfl s1 (Nat.le_of_ble_eq_true rfl) (cwv_kI w (fun v5 V4 w => ?_))
  show wp K_X6_build d Q 14 [some (4, (p0 : Int)), some (0, x1), some (4, (p2 : Int))] [(0, v5)] _ _ _
  obtain ⟨s6, w⟩ := w
  refine wp_if (c := .ne) 19 rfl rfl rfl s6 (fun q => ?_) (fun q => ?_)
  · have q : ¬ v5 = 0 := q
    replace w := w.1 q
    show wp K_X6_build d Q 19 [some (4, (p0 : Int)), some (0, x1), some (4, (p2 : Int))] [] _ _ _
    refine wp_ld (i := (.aload_n 0)) (4, (p0 : Int)) rfl rfl (fun _ => rfl) rfl rfl (?_ : wp K_X6_build d Q 20 [some (4, (p0 : Int)), some (0, x1), some (4, (p2 : Int))] [(4, (p0 : Int))] _ _ _)
    refine wp_virt (as := []) (a := p0) (st := []) _ rfl rfl rfl rfl rfl rfl s1 (Nat.le_of_ble_eq_true rfl) (cwv_k0 w (fun V7 w => ?_))
    show wp K_X6_build d Q 23 [some (4, (p0 : Int)), some (0, x1), some (4, (p2 : Int))] [] _ _ _
    refine wp_ld (i := (.aload_n 0)) (4, (p0 : Int)) rfl rfl (fun _ => rfl) rfl rfl (?_ : wp K_X6_build d Q 24 [some (4, (p0 : Int)), some (0, x1), some (4, (p2 : Int))] [(4, (p0 : Int))] _ _ _)
    refine wp_virt (as := []) (a := p0) (st := []) _ rfl rfl rfl rfl rfl rfl s1 (Nat.le_of_ble_eq_true rfl) (cwv_k0 w (fun V8 w => ?_))
    show wp K_X6_build d Q 27 [some (4, (p0 : Int)), some (0, x1), some (4, (p2 : Int))] [] _ _ _
    refine wp_ld (i := (.aload_n 0)) (4, (p0 : Int)) rfl rfl (fun _ => rfl) rfl rfl (?_ : wp K_X6_build d Q 28 [some (4, (p0 : Int)), some (0, x1), some (4, (p2 : Int))] [(4, (p0 : Int))] _ _ _)
    refine wp_virt (as := []) (a := p0) (st := []) _ rfl rfl rfl rfl rfl rfl s1 (Nat.le_of_ble_eq_true rfl) (cw_k0 w (fun G9 R9 V9 w => ?_))
    show wp K_X6_build d Q 31 [some (4, (p0 : Int)), some (0, x1), some (4, (p2 : Int))] [] _ _ _
    refine wp_ld (i := (.aload_n 0)) (4, (p0 : Int)) rfl rfl (fun _ => rfl) rfl rfl (?_ : wp K_X6_build d Q 32 [some (4, (p0 : Int)), some (0, x1), some (4, (p2 : Int))] [(4, (p0 : Int))] _ _ _)
    obtain ⟨s11, w⟩ := w
    refine wp_virt (as := []) (a := p0) (st := []) _ rfl rfl rfl rfl rfl rfl s11 (Nat.le_of_ble_eq_true rfl) (cwv_k0 w (fun V10 w => ?_))
    show wp K_X6_build d Q 35 [some (4, (p0 : Int)), some (0, x1), some (4, (p2 : Int))] [] _ _ _
    refine wp_p (i := (.iconst 1)) rfl rfl (fun _ _ _ => rfl) (?_ : wp K_X6_build d Q 36 [some (4, (p0 : Int)), some (0, x1), some (4, (p2 : Int))] [(0, 1)] _ _ _)
    exact wp_gB rfl rfl rfl (by omega) w
  · have q : v5 = 0 := Decidable.not_not.mp q
    replace w := w.2 q
    show wp K_X6_build d Q 17 [some (4, (p0 : Int)), some (0, x1), some (4, (p2 : Int))] [] _ _ _
    refine wp_p (i := (.iconst 0)) rfl rfl (fun _ _ _ => rfl) (?_ : wp K_X6_build d Q 18 [some (4, (p0 : Int)), some (0, x1), some (4, (p2 : Int))] [(0, 0)] _ _ _)
    exact wp_gB rfl rfl rfl (by omega) w

theorem t_X6_fillProducts_0 {d : Nat} {Q : gQ} {p0 : Nat} {G : List gS} {R V : gV} (w : ((G[p0]? = some (gO 6)) ∧ (∃ b2 : Nat, (R p0 10 = (b2 : Int)) ∧ ((i32 (V p0 1)) → ((i32 ((V p0 1) * (V p0 1))) ∧ cw d (fun r G6 R6 V6 => ∃ q7 : Nat, r = some (4, (q7 : Int)) ∧ ((G6[p0]? = some (gO 6)) ∧ wp K_X6_fillProducts d Q 22 [some (4, (p0 : Int)), some (0, 0)] [] G6 (wr R6 p0 10 (q7 : Int)) V6)) 158 [(4, (b2 : Int)), (0, ((V p0 1) * (V p0 1)))] G R V))))) : wp K_X6_fillProducts d Q 0 [some (4, (p0 : Int))] [] G R V := by
  refine wp_ld (i := (.aload_n 0)) (4, (p0 : Int)) rfl rfl (fun _ => rfl) rfl rfl (?_ : wp K_X6_fillProducts d Q 1 [some (4, (p0 : Int))] [(4, (p0 : Int))] _ _ _)
  refine wp_ld (i := (.aload_n 0)) (4, (p0 : Int)) rfl rfl (fun _ => rfl) rfl rfl (?_ : wp K_X6_fillProducts d Q 2 [some (4, (p0 : Int))] [(4, (p0 : Int)), (4, (p0 : Int))] _ _ _)
  obtain ⟨s1, w⟩ := w
  obtain ⟨b2, r2, w⟩ := w
  refine wp_getA (k := 10) rfl rfl rfl s1 rfl rfl r2 (?_ : wp K_X6_fillProducts d Q 5 [some (4, (p0 : Int))] [(4, (b2 : Int)), (4, (p0 : Int))] _ _ _)
  refine wp_ld (i := (.aload_n 0)) (4, (p0 : Int)) rfl rfl (fun _ => rfl) rfl rfl (?_ : wp K_X6_fillProducts d Q 6 [some (4, (p0 : Int))] [(4, (p0 : Int)), (4, (b2 : Int)), (4, (p0 : Int))] _ _ _)
  refine wp_rng (fun vr3 => ?_)
  have f4 : i32 (V p0 1) := vr_f0 vr3 s1 rfl rfl
  replace w := w f4
  refine wp_getI (k := 1) rfl rfl rfl s1 rfl rfl (?_ : wp K_X6_fillProducts d Q 9 [some (4, (p0 : Int))] [(0, (V p0 1)), (4, (b2 : Int)), (4, (p0 : Int))] _ _ _)
  refine wp_ld (i := (.aload_n 0)) (4, (p0 : Int)) rfl rfl (fun _ => rfl) rfl rfl (?_ : wp K_X6_fillProducts d Q 10 [some (4, (p0 : Int))] [(4, (p0 : Int)), (0, (V p0 1)), (4, (b2 : Int)), (4, (p0 : Int))] _ _ _)
  refine wp_getI (k := 1) rfl rfl rfl s1 rfl rfl (?_ : wp K_X6_fillProducts d Q 13 [some (4, (p0 : Int))] [(0, (V p0 1)), (0, (V p0 1)), (4, (b2 : Int)), (4, (p0 : Int))] _ _ _)
  obtain ⟨s5, w⟩ := w
  refine wp_xmul rfl rfl s5 (?_ : wp K_X6_fillProducts d Q 14 [some (4, (p0 : Int))] [(0, ((V p0 1) * (V p0 1))), (4, (b2 : Int)), (4, (p0 : Int))] _ _ _)
  refine wp_stat (as := [(4, (b2 : Int)), (0, ((V p0 1) * (V p0 1)))]) (st := [(4, (p0 : Int))]) _ rfl rfl rfl (by omega) rfl rfl (Nat.le_of_ble_eq_true rfl) (cw_kA w (fun q7 G6 R6 V6 w => ?_))
  show wp K_X6_fillProducts d Q 17 [some (4, (p0 : Int))] [(4, (q7 : Int)), (4, (p0 : Int))] _ _ _
  obtain ⟨s8, w⟩ := w
  refine wp_putA (k := 10) rfl rfl rfl s8 rfl rfl rfl (?_ : wp K_X6_fillProducts d Q 20 [some (4, (p0 : Int))] [] _ _ _)
  refine wp_p (i := (.iconst 0)) rfl rfl (fun _ _ _ => rfl) (?_ : wp K_X6_fillProducts d Q 21 [some (4, (p0 : Int))] [(0, 0)] _ _ _)
  refine wp_sto (i := (.istore_n 1)) _ rfl rfl (fun _ => rfl) rfl rfl rfl ?_
  refine wp_wk (L' := [some (4, (p0 : Int)), some (0, 0)]) (wk_s (wk_s wk_0)) ?_
  show wp K_X6_fillProducts d Q 22 [some (4, (p0 : Int)), some (0, 0)] [] _ _ _
  exact wp_wk (wk_s (wk_s wk_0)) w

theorem t_X6_fillProducts_22 {d : Nat} {Q : gQ} {p0 : Nat} {x1 : Int} {G : List gS} {R V : gV} (w : ((G[p0]? = some (gO 6)) ∧ ((i32 (V p0 1)) → ((i32 x1) ∧ (((¬ x1 < (V p0 1)) → (∃ b5 : Nat, (R p0 8 = (b5 : Int)) ∧ (∃ n6_ : Nat, (G[b5]? = some (gA 0 n6_)) ∧ (((0 : Int) ≤ 0 ∧ 0 < (n6_ : Int)) ∧ wp K_X6_fillProducts d Q 74 [some (4, (p0 : Int)), some (0, 1), some (0, 0)] [] G R (wr V b5 0 0))))) ∧ ((x1 < (V p0 1)) → (∃ b8 : Nat, (R p0 9 = (b8 : Int)) ∧ (((¬ x1 = 0) → (∃ n9_ : Nat, (G[b8]? = some (gA 2 n9_)) ∧ (((0 : Int) ≤ x1 ∧ x1 < (n9_ : Int)) ∧ (∃ b11 : Nat, (R p0 10 = (b11 : Int)) ∧ ((i32 ((wr V b8 x1 0) p0 1)) → ((i32 (x1 * ((wr V b8 x1 0) p0 1))) ∧ (∃ n15_ : Nat, (G[b11]? = some (gA 0 n15_)) ∧ (((0 : Int) ≤ (x1 * ((wr V b8 x1 0) p0 1)) ∧ (x1 * ((wr V b8 x1 0) p0 1)) < (n15_ : Int)) ∧ ((i32 (x1 + 1)) ∧ wp K_X6_fillProducts d Q 22 [some (4, (p0 : Int)), some (0, (x1 + 1))] [] G R (wr (wr V b8 x1 0) b11 ((x1 * ((wr V b8 x1 0) p0 1))) x1)))))))))) ∧ ((x1 = 0) → (∃ n18_ : Nat, (G[b8]? = some (gA 2 n18_)) ∧ (((0 : Int) ≤ x1 ∧ x1 < (n18_ : Int)) ∧ (∃ b20 : Nat, (R p0 10 = (b20 : Int)) ∧ ((i32 ((wr V b8 x1 1) p0 1)) → ((i32 (x1 * ((wr V b8 x1 1) p0 1))) ∧ (∃ n24_ : Nat, (G[b20]? = some (gA 0 n24_)) ∧ (((0 : Int) ≤ (x1 * ((wr V b8 x1 1) p0 1)) ∧ (x1 * ((wr V b8 x1 1) p0 1)) < (n24_ : Int)) ∧ ((i32 (x1 + 1)) ∧ wp K_X6_fillProducts d Q 22 [some (4, (p0 : Int)), some (0, (x1 + 1))] [] G R (wr (wr V b8 x1 1) b20 ((x1 * ((wr V b8 x1 1) p0 1))) x1)))))))))))))))))) : wp K_X6_fillProducts d Q 22 [some (4, (p0 : Int)), some (0, x1)] [] G R V := by
  refine wp_ld (i := (.iload_n 1)) (0, x1) rfl rfl (fun _ => rfl) rfl rfl (?_ : wp K_X6_fillProducts d Q 23 [some (4, (p0 : Int)), some (0, x1)] [(0, x1)] _ _ _)
  refine wp_ld (i := (.aload_n 0)) (4, (p0 : Int)) rfl rfl (fun _ => rfl) rfl rfl (?_ : wp K_X6_fillProducts d Q 24 [some (4, (p0 : Int)), some (0, x1)] [(4, (p0 : Int)), (0, x1)] _ _ _)
  obtain ⟨s1, w⟩ := w
  refine wp_rng (fun vr2 => ?_)
  have f3 : i32 (V p0 1) := vr_f0 vr2 s1 rfl rfl
  replace w := w f3
  refine wp_getI (k := 1) rfl rfl rfl s1 rfl rfl (?_ : wp K_X6_fillProducts d Q 27 [some (4, (p0 : Int)), some (0, x1)] [(0, (V p0 1)), (0, x1)] _ _ _)
  obtain ⟨s4, w⟩ := w
  refine wp_icmp (c := .ge) 63 rfl rfl rfl s4 f3 (fun q => ?_) (fun q => ?_)
  · have q : ¬ x1 < (V p0 1) := q
    replace w := w.1 q
    show wp K_X6_fillProducts d Q 63 [some (4, (p0 : Int)), some (0, x1)] [] _ _ _
    refine wp_ld (i := (.aload_n 0)) (4, (p0 : Int)) rfl rfl (fun _ => rfl) rfl rfl (?_ : wp K_X6_fillProducts d Q 64 [some (4, (p0 : Int)), some (0, x1)] [(4, (p0 : Int))] _ _ _)
    obtain ⟨b5, r5, w⟩ := w
    refine wp_getA (k := 8) rfl rfl rfl s1 rfl rfl r5 (?_ : wp K_X6_fillProducts d Q 67 [some (4, (p0 : Int)), some (0, x1)] [(4, (b5 : Int))] _ _ _)
    refine wp_p (i := (.iconst 0)) rfl rfl (fun _ _ _ => rfl) (?_ : wp K_X6_fillProducts d Q 68 [some (4, (p0 : Int)), some (0, x1)] [(0, 0), (4, (b5 : Int))] _ _ _)
    refine wp_p (i := (.iconst 0)) rfl rfl (fun _ _ _ => rfl) (?_ : wp K_X6_fillProducts d Q 69 [some (4, (p0 : Int)), some (0, x1)] [(0, 0), (0, 0), (4, (b5 : Int))] _ _ _)
    obtain ⟨n6_, g6_, w⟩ := w
    obtain ⟨s7, w⟩ := w
    refine wp_sI rfl rfl g6_ s7 ⟨by omega, by omega⟩ (?_ : wp K_X6_fillProducts d Q 70 [some (4, (p0 : Int)), some (0, x1)] [] _ _ _)
    refine wp_p (i := (.iconst 1)) rfl rfl (fun _ _ _ => rfl) (?_ : wp K_X6_fillProducts d Q 71 [some (4, (p0 : Int)), some (0, x1)] [(0, 1)] _ _ _)
    refine wp_sto (i := (.istore_n 1)) _ rfl rfl (fun _ => rfl) rfl rfl rfl ?_
    refine wp_wk (L' := [some (4, (p0 : Int)), some (0, 1)]) (wk_s (wk_s wk_0)) ?_
    show wp K_X6_fillProducts d Q 72 [some (4, (p0 : Int)), some (0, 1)] [] _ _ _
    refine wp_p (i := (.iconst 0)) rfl rfl (fun _ _ _ => rfl) (?_ : wp K_X6_fillProducts d Q 73 [some (4, (p0 : Int)), some (0, 1)] [(0, 0)] _ _ _)
    refine wp_sto (i := (.istore_n 2)) _ rfl rfl (fun _ => rfl) rfl rfl rfl ?_
    refine wp_wk (L' := [some (4, (p0 : Int)), some (0, 1), some (0, 0)]) (wk_s (wk_s (wk_s wk_0))) ?_
    show wp K_X6_fillProducts d Q 74 [some (4, (p0 : Int)), some (0, 1), some (0, 0)] [] _ _ _
    exact wp_wk (wk_s (wk_s (wk_s wk_0))) w
  · have q : x1 < (V p0 1) := Decidable.not_not.mp q
    replace w := w.2 q
    show wp K_X6_fillProducts d Q 30 [some (4, (p0 : Int)), some (0, x1)] [] _ _ _
    refine wp_ld (i := (.aload_n 0)) (4, (p0 : Int)) rfl rfl (fun _ => rfl) rfl rfl (?_ : wp K_X6_fillProducts d Q 31 [some (4, (p0 : Int)), some (0, x1)] [(4, (p0 : Int))] _ _ _)
    obtain ⟨b8, r8, w⟩ := w
    refine wp_getA (k := 9) rfl rfl rfl s1 rfl rfl r8 (?_ : wp K_X6_fillProducts d Q 34 [some (4, (p0 : Int)), some (0, x1)] [(4, (b8 : Int))] _ _ _)
    refine wp_ld (i := (.iload_n 1)) (0, x1) rfl rfl (fun _ => rfl) rfl rfl (?_ : wp K_X6_fillProducts d Q 35 [some (4, (p0 : Int)), some (0, x1)] [(0, x1), (4, (b8 : Int))] _ _ _)
    refine wp_ld (i := (.iload_n 1)) (0, x1) rfl rfl (fun _ => rfl) rfl rfl (?_ : wp K_X6_fillProducts d Q 36 [some (4, (p0 : Int)), some (0, x1)] [(0, x1), (0, x1), (4, (b8 : Int))] _ _ _)
    refine wp_if (c := .ne) 43 rfl rfl rfl s4 (fun q => ?_) (fun q => ?_)
    · have q : ¬ x1 = 0 := q
      replace w := w.1 q
      show wp K_X6_fillProducts d Q 43 [some (4, (p0 : Int)), some (0, x1)] [(0, x1), (4, (b8 : Int))] _ _ _
      refine wp_p (i := (.iconst 0)) rfl rfl (fun _ _ _ => rfl) (?_ : wp K_X6_fillProducts d Q 44 [some (4, (p0 : Int)), some (0, x1)] [(0, 0), (0, x1), (4, (b8 : Int))] _ _ _)
      obtain ⟨n9_, g9_, w⟩ := w
      obtain ⟨s10, w⟩ := w
      refine wp_sB rfl rfl g9_ s10 (by omega) (?_ : wp K_X6_fillProducts d Q 45 [some (4, (p0 : Int)), some (0, x1)] [] _ _ _)
      refine wp_ld (i := (.aload_n 0)) (4, (p0 : Int)) rfl rfl (fun _ => rfl) rfl rfl (?_ : wp K_X6_fillProducts d Q 46 [some (4, (p0 : Int)), some (0, x1)] [(4, (p0 : Int))] _ _ _)
      obtain ⟨b11, r11, w⟩ := w
      refine wp_getA (k := 10) rfl rfl rfl s1 rfl rfl r11 (?_ : wp K_X6_fillProducts d Q 49 [some (4, (p0 : Int)), some (0, x1)] [(4, (b11 : Int))] _ _ _)
      refine wp_ld (i := (.iload_n 1)) (0, x1) rfl rfl (fun _ => rfl) rfl rfl (?_ : wp K_X6_fillProducts d Q 50 [some (4, (p0 : Int)), some (0, x1)] [(0, x1), (4, (b11 : Int))] _ _ _)
      refine wp_ld (i := (.aload_n 0)) (4, (p0 : Int)) rfl rfl (fun _ => rfl) rfl rfl (?_ : wp K_X6_fillProducts d Q 51 [some (4, (p0 : Int)), some (0, x1)] [(4, (p0 : Int)), (0, x1), (4, (b11 : Int))] _ _ _)
      refine wp_rng (fun vr12 => ?_)
      have f13 : i32 ((wr V b8 x1 0) p0 1) := vr_f0 vr12 s1 rfl rfl
      replace w := w f13
      refine wp_getI (k := 1) rfl rfl rfl s1 rfl rfl (?_ : wp K_X6_fillProducts d Q 54 [some (4, (p0 : Int)), some (0, x1)] [(0, ((wr V b8 x1 0) p0 1)), (0, x1), (4, (b11 : Int))] _ _ _)
      obtain ⟨s14, w⟩ := w
      refine wp_xmul rfl rfl s14 (?_ : wp K_X6_fillProducts d Q 55 [some (4, (p0 : Int)), some (0, x1)] [(0, (x1 * ((wr V b8 x1 0) p0 1))), (4, (b11 : Int))] _ _ _)
      refine wp_ld (i := (.iload_n 1)) (0, x1) rfl rfl (fun _ => rfl) rfl rfl (?_ : wp K_X6_fillProducts d Q 56 [some (4, (p0 : Int)), some (0, x1)] [(0, x1), (0, (x1 * ((wr V b8 x1 0) p0 1))), (4, (b11 : Int))] _ _ _)
      obtain ⟨n15_, g15_, w⟩ := w
      obtain ⟨s16, w⟩ := w
      refine wp_sI rfl rfl g15_ s16 s4 (?_ : wp K_X6_fillProducts d Q 57 [some (4, (p0 : Int)), some (0, x1)] [] _ _ _)
      obtain ⟨s17, w⟩ := w
      refine wp_inc (x := 1) (k := 1) (a := x1) (c := (x1 + 1)) _ rfl rfl rfl rfl s17 (by omega) rfl ?_
      show wp K_X6_fillProducts d Q 60 [some (4, (p0 : Int)), some (0, (x1 + 1))] [] _ _ _
      refine wp_go 22 rfl rfl rfl (?_ : wp K_X6_fillProducts d Q 22 [some (4, (p0 : Int)), some (0, (x1 + 1))] [] _ _ _)
      exact wp_wk (wk_s (wk_s wk_0)) w
    · have q : x1 = 0 := Decidable.not_not.mp q
      replace w := w.2 q
      show wp K_X6_fillProducts d Q 39 [some (4, (p0 : Int)), some (0, x1)] [(0, x1), (4, (b8 : Int))] _ _ _
      refine wp_p (i := (.iconst 1)) rfl rfl (fun _ _ _ => rfl) (?_ : wp K_X6_fillProducts d Q 40 [some (4, (p0 : Int)), some (0, x1)] [(0, 1), (0, x1), (4, (b8 : Int))] _ _ _)
      refine wp_go 44 rfl rfl rfl (?_ : wp K_X6_fillProducts d Q 44 [some (4, (p0 : Int)), some (0, x1)] [(0, 1), (0, x1), (4, (b8 : Int))] _ _ _)
      obtain ⟨n18_, g18_, w⟩ := w
      obtain ⟨s19, w⟩ := w
      refine wp_sB rfl rfl g18_ s19 (by omega) (?_ : wp K_X6_fillProducts d Q 45 [some (4, (p0 : Int)), some (0, x1)] [] _ _ _)
      refine wp_ld (i := (.aload_n 0)) (4, (p0 : Int)) rfl rfl (fun _ => rfl) rfl rfl (?_ : wp K_X6_fillProducts d Q 46 [some (4, (p0 : Int)), some (0, x1)] [(4, (p0 : Int))] _ _ _)
      obtain ⟨b20, r20, w⟩ := w
      refine wp_getA (k := 10) rfl rfl rfl s1 rfl rfl r20 (?_ : wp K_X6_fillProducts d Q 49 [some (4, (p0 : Int)), some (0, x1)] [(4, (b20 : Int))] _ _ _)
      refine wp_ld (i := (.iload_n 1)) (0, x1) rfl rfl (fun _ => rfl) rfl rfl (?_ : wp K_X6_fillProducts d Q 50 [some (4, (p0 : Int)), some (0, x1)] [(0, x1), (4, (b20 : Int))] _ _ _)
      refine wp_ld (i := (.aload_n 0)) (4, (p0 : Int)) rfl rfl (fun _ => rfl) rfl rfl (?_ : wp K_X6_fillProducts d Q 51 [some (4, (p0 : Int)), some (0, x1)] [(4, (p0 : Int)), (0, x1), (4, (b20 : Int))] _ _ _)
      refine wp_rng (fun vr21 => ?_)
      have f22 : i32 ((wr V b8 x1 1) p0 1) := vr_f0 vr21 s1 rfl rfl
      replace w := w f22
      refine wp_getI (k := 1) rfl rfl rfl s1 rfl rfl (?_ : wp K_X6_fillProducts d Q 54 [some (4, (p0 : Int)), some (0, x1)] [(0, ((wr V b8 x1 1) p0 1)), (0, x1), (4, (b20 : Int))] _ _ _)
      obtain ⟨s23, w⟩ := w
      refine wp_xmul rfl rfl s23 (?_ : wp K_X6_fillProducts d Q 55 [some (4, (p0 : Int)), some (0, x1)] [(0, (x1 * ((wr V b8 x1 1) p0 1))), (4, (b20 : Int))] _ _ _)
      refine wp_ld (i := (.iload_n 1)) (0, x1) rfl rfl (fun _ => rfl) rfl rfl (?_ : wp K_X6_fillProducts d Q 56 [some (4, (p0 : Int)), some (0, x1)] [(0, x1), (0, (x1 * ((wr V b8 x1 1) p0 1))), (4, (b20 : Int))] _ _ _)
      obtain ⟨n24_, g24_, w⟩ := w
      obtain ⟨s25, w⟩ := w
      refine wp_sI rfl rfl g24_ s25 s4 (?_ : wp K_X6_fillProducts d Q 57 [some (4, (p0 : Int)), some (0, x1)] [] _ _ _)
      obtain ⟨s26, w⟩ := w
      refine wp_inc (x := 1) (k := 1) (a := x1) (c := (x1 + 1)) _ rfl rfl rfl rfl s26 (by omega) rfl ?_
      show wp K_X6_fillProducts d Q 60 [some (4, (p0 : Int)), some (0, (x1 + 1))] [] _ _ _
      refine wp_go 22 rfl rfl rfl (?_ : wp K_X6_fillProducts d Q 22 [some (4, (p0 : Int)), some (0, (x1 + 1))] [] _ _ _)
      exact wp_wk (wk_s (wk_s wk_0)) w

theorem t_X6_fillProducts_74 {d : Nat} {Q : gQ} {p0 : Nat} {x1 : Int} {x2 : Int} {G : List gS} {R V : gV} (w : ((i32 x2) ∧ ((i32 x1) ∧ (((¬ x2 < x1) → Q none G R V) ∧ ((x2 < x1) → (((¬ x2 < 120) → Q none G R V) ∧ ((x2 < 120) → wp K_X6_fillProducts d Q 87 [some (4, (p0 : Int)), some (0, x1), some (0, x2), some (0, 0)] [] G R V))))))) : wp K_X6_fillProducts d Q 74 [some (4, (p0 : Int)), some (0, x1), some (0, x2)] [] G R V := by
  refine wp_ld (i := (.iload_n 2)) (0, x2) rfl rfl (fun _ => rfl) rfl rfl (?_ : wp K_X6_fillProducts d Q 75 [some (4, (p0 : Int)), some (0, x1), some (0, x2)] [(0, x2)] _ _ _)
  refine wp_ld (i := (.iload_n 1)) (0, x1) rfl rfl (fun _ => rfl) rfl rfl (?_ : wp K_X6_fillProducts d Q 76 [some (4, (p0 : Int)), some (0, x1), some (0, x2)] [(0, x1), (0, x2)] _ _ _)
  obtain ⟨s1, w⟩ := w
  obtain ⟨s2, w⟩ := w
  refine wp_icmp (c := .ge) 173 rfl rfl rfl s1 s2 (fun q => ?_) (fun q => ?_)
  · have q : ¬ x2 < x1 := q
    replace w := w.1 q
    show wp K_X6_fillProducts d Q 173 [some (4, (p0 : Int)), some (0, x1), some (0, x2)] [] _ _ _
    exact wp_g0 rfl rfl rfl w
  · have q : x2 < x1 := Decidable.not_not.mp q
    replace w := w.2 q
    show wp K_X6_fillProducts d Q 79 [some (4, (p0 : Int)), some (0, x1), some (0, x2)] [] _ _ _
    refine wp_ld (i := (.iload_n 2)) (0, x2) rfl rfl (fun _ => rfl) rfl rfl (?_ : wp K_X6_fillProducts d Q 80 [some (4, (p0 : Int)), some (0, x1), some (0, x2)] [(0, x2)] _ _ _)
    refine wp_p (i := (.bipush 120)) rfl rfl (fun _ _ _ => rfl) (?_ : wp K_X6_fillProducts d Q 82 [some (4, (p0 : Int)), some (0, x1), some (0, x2)] [(0, 120), (0, x2)] _ _ _)
    refine wp_icmp (c := .ge) 173 rfl rfl rfl s1 ⟨by omega, by omega⟩ (fun q => ?_) (fun q => ?_)
    · have q : ¬ x2 < 120 := q
      replace w := w.1 q
      show wp K_X6_fillProducts d Q 173 [some (4, (p0 : Int)), some (0, x1), some (0, x2)] [] _ _ _
      exact wp_g0 rfl rfl rfl w
    · have q : x2 < 120 := Decidable.not_not.mp q
      replace w := w.2 q
      show wp K_X6_fillProducts d Q 85 [some (4, (p0 : Int)), some (0, x1), some (0, x2)] [] _ _ _
      refine wp_p (i := (.iconst 0)) rfl rfl (fun _ _ _ => rfl) (?_ : wp K_X6_fillProducts d Q 86 [some (4, (p0 : Int)), some (0, x1), some (0, x2)] [(0, 0)] _ _ _)
      refine wp_sto (i := (.istore_n 3)) _ rfl rfl (fun _ => rfl) rfl rfl rfl ?_
      refine wp_wk (L' := [some (4, (p0 : Int)), some (0, x1), some (0, x2), some (0, 0)]) (wk_s (wk_s (wk_s (wk_s wk_0)))) ?_
      show wp K_X6_fillProducts d Q 87 [some (4, (p0 : Int)), some (0, x1), some (0, x2), some (0, 0)] [] _ _ _
      exact wp_wk (wk_s (wk_s (wk_s (wk_s wk_0)))) w

theorem t_X6_fillProducts_87 {d : Nat} {Q : gQ} {p0 : Nat} {x1 : Int} {x2 : Int} {x3 : Int} {G : List gS} {R V : gV} (w : ((G[p0]? = some (gO 6)) ∧ ((i32 (V p0 2)) → ((i32 x3) ∧ (((¬ x3 < (V p0 2)) → ((i32 (x2 + 1)) ∧ wp K_X6_fillProducts d Q 74 [some (4, (p0 : Int)), some (0, x1), some (0, (x2 + 1))] [] G R V)) ∧ ((x3 < (V p0 2)) → (∃ b6 : Nat, (R p0 6 = (b6 : Int)) ∧ ((i32 (x3 * 120)) ∧ (∃ b8 : Nat, (R p0 8 = (b8 : Int)) ∧ (∃ n9_ : Nat, (G[b8]? = some (gA 0 n9_)) ∧ (((0 : Int) ≤ x2 ∧ x2 < (n9_ : Int)) ∧ ((i32 (V b8 x2)) → ((i32 ((x3 * 120) + (V b8 x2))) ∧ (∃ n13_ : Nat, (G[b6]? = some (gA 0 n13_)) ∧ (((0 : Int) ≤ ((x3 * 120) + (V b8 x2)) ∧ ((x3 * 120) + (V b8 x2)) < (n13_ : Int)) ∧ ((i32 (V b6 (((x3 * 120) + (V b8 x2))))) → (∃ b16 : Nat, (R p0 9 = (b16 : Int)) ∧ (∃ n17_ : Nat, (G[b16]? = some (gA 2 n17_)) ∧ (((0 : Int) ≤ (V b6 (((x3 * 120) + (V b8 x2)))) ∧ (V b6 (((x3 * 120) + (V b8 x2)))) < (n17_ : Int)) ∧ (((V b16 ((V b6 (((x3 * 120) + (V b8 x2)))))) = 0 ∨ (V b16 ((V b6 (((x3 * 120) + (V b8 x2)))))) = 1) → (((¬ (V b16 ((V b6 (((x3 * 120) + (V b8 x2)))))) = 0) → ((i32 (x3 + 1)) ∧ wp K_X6_fillProducts d Q 87 [some (4, (p0 : Int)), some (0, x1), some (0, x2), some (0, (x3 + 1))] [] G R V)) ∧ (((V b16 ((V b6 (((x3 * 120) + (V b8 x2)))))) = 0) → ((i32 x1) ∧ (((¬ x1 < 120) → ((i32 (x3 + 1)) ∧ wp K_X6_fillProducts d Q 87 [some (4, (p0 : Int)), some (0, x1), some (0, x2), some (0, (x3 + 1))] [] G R V)) ∧ ((x1 < 120) → (((0 : Int) ≤ x1 ∧ x1 < (n9_ : Int)) ∧ ((i32 (x1 + 1)) ∧ ((i32 ((wr (wr V b16 ((V b6 (((x3 * 120) + (V b8 x2))))) 1) b8 x1 ((V b6 (((x3 * 120) + (V b8 x2)))))) b8 x2)) → cwv d (fun r V28 => r = none ∧ ((i32 (x3 + 1)) ∧ wp K_X6_fillProducts d Q 87 [some (4, (p0 : Int)), some (0, (x1 + 1)), some (0, x2), some (0, (x3 + 1))] [] G R V28)) 100 [(4, (p0 : Int)), (0, (V b6 (((x3 * 120) + (V b8 x2))))), (0, ((wr (wr V b16 ((V b6 (((x3 * 120) + (V b8 x2))))) 1) b8 x1 ((V b6 (((x3 * 120) + (V b8 x2)))))) b8 x2)), (0, x3)] G R (wr (wr V b16 ((V b6 (((x3 * 120) + (V b8 x2))))) 1) b8 x1 ((V b6 (((x3 * 120) + (V b8 x2)))))))))))))))))))))))))))))))))) : wp K_X6_fillProducts d Q 87 [some (4, (p0 : Int)), some (0, x1), some (0, x2), some (0, x3)] [] G R V := by
  refine wp_ld (i := (.iload_n 3)) (0, x3) rfl rfl (fun _ => rfl) rfl rfl (?_ : wp K_X6_fillProducts d Q 88 [some (4, (p0 : Int)), some (0, x1), some (0, x2), some (0, x3)] [(0, x3)] _ _ _)
  refine wp_ld (i := (.aload_n 0)) (4, (p0 : Int)) rfl rfl (fun _ => rfl) rfl rfl (?_ : wp K_X6_fillProducts d Q 89 [some (4, (p0 : Int)), some (0, x1), some (0, x2), some (0, x3)] [(4, (p0 : Int)), (0, x3)] _ _ _)
  obtain ⟨s1, w⟩ := w
  refine wp_rng (fun vr2 => ?_)
  have f3 : i32 (V p0 2) := vr_f0 vr2 s1 rfl rfl
  replace w := w f3
  refine wp_getI (k := 2) rfl rfl rfl s1 rfl rfl (?_ : wp K_X6_fillProducts d Q 92 [some (4, (p0 : Int)), some (0, x1), some (0, x2), some (0, x3)] [(0, (V p0 2)), (0, x3)] _ _ _)
  obtain ⟨s4, w⟩ := w
  refine wp_icmp (c := .ge) 167 rfl rfl rfl s4 f3 (fun q => ?_) (fun q => ?_)
  · have q : ¬ x3 < (V p0 2) := q
    replace w := w.1 q
    show wp K_X6_fillProducts d Q 167 [some (4, (p0 : Int)), some (0, x1), some (0, x2), some (0, x3)] [] _ _ _
    obtain ⟨s5, w⟩ := w
    refine wp_inc (x := 2) (k := 1) (a := x2) (c := (x2 + 1)) _ rfl rfl rfl rfl s5 (by omega) rfl ?_
    show wp K_X6_fillProducts d Q 170 [some (4, (p0 : Int)), some (0, x1), some (0, (x2 + 1)), some (0, x3)] [] _ _ _
    refine wp_go 74 rfl rfl rfl (?_ : wp K_X6_fillProducts d Q 74 [some (4, (p0 : Int)), some (0, x1), some (0, (x2 + 1)), some (0, x3)] [] _ _ _)
    exact wp_wk (wk_s (wk_s (wk_s wk_0))) w
  · have q : x3 < (V p0 2) := Decidable.not_not.mp q
    replace w := w.2 q
    show wp K_X6_fillProducts d Q 95 [some (4, (p0 : Int)), some (0, x1), some (0, x2), some (0, x3)] [] _ _ _
    refine wp_ld (i := (.aload_n 0)) (4, (p0 : Int)) rfl rfl (fun _ => rfl) rfl rfl (?_ : wp K_X6_fillProducts d Q 96 [some (4, (p0 : Int)), some (0, x1), some (0, x2), some (0, x3)] [(4, (p0 : Int))] _ _ _)
    obtain ⟨b6, r6, w⟩ := w
    refine wp_getA (k := 6) rfl rfl rfl s1 rfl rfl r6 (?_ : wp K_X6_fillProducts d Q 99 [some (4, (p0 : Int)), some (0, x1), some (0, x2), some (0, x3)] [(4, (b6 : Int))] _ _ _)
    refine wp_ld (i := (.iload_n 3)) (0, x3) rfl rfl (fun _ => rfl) rfl rfl (?_ : wp K_X6_fillProducts d Q 100 [some (4, (p0 : Int)), some (0, x1), some (0, x2), some (0, x3)] [(0, x3), (4, (b6 : Int))] _ _ _)
    refine wp_p (i := (.bipush 120)) rfl rfl (fun _ _ _ => rfl) (?_ : wp K_X6_fillProducts d Q 102 [some (4, (p0 : Int)), some (0, x1), some (0, x2), some (0, x3)] [(0, 120), (0, x3), (4, (b6 : Int))] _ _ _)
    obtain ⟨s7, w⟩ := w
    refine wp_xmul rfl rfl s7 (?_ : wp K_X6_fillProducts d Q 103 [some (4, (p0 : Int)), some (0, x1), some (0, x2), some (0, x3)] [(0, (x3 * 120)), (4, (b6 : Int))] _ _ _)
    refine wp_ld (i := (.aload_n 0)) (4, (p0 : Int)) rfl rfl (fun _ => rfl) rfl rfl (?_ : wp K_X6_fillProducts d Q 104 [some (4, (p0 : Int)), some (0, x1), some (0, x2), some (0, x3)] [(4, (p0 : Int)), (0, (x3 * 120)), (4, (b6 : Int))] _ _ _)
    obtain ⟨b8, r8, w⟩ := w
    refine wp_getA (k := 8) rfl rfl rfl s1 rfl rfl r8 (?_ : wp K_X6_fillProducts d Q 107 [some (4, (p0 : Int)), some (0, x1), some (0, x2), some (0, x3)] [(4, (b8 : Int)), (0, (x3 * 120)), (4, (b6 : Int))] _ _ _)
    refine wp_ld (i := (.iload_n 2)) (0, x2) rfl rfl (fun _ => rfl) rfl rfl (?_ : wp K_X6_fillProducts d Q 108 [some (4, (p0 : Int)), some (0, x1), some (0, x2), some (0, x3)] [(0, x2), (4, (b8 : Int)), (0, (x3 * 120)), (4, (b6 : Int))] _ _ _)
    obtain ⟨n9_, g9_, w⟩ := w
    obtain ⟨s10, w⟩ := w
    have f11 : i32 (V b8 x2) := vr_a0 vr2 g9_ s10
    replace w := w f11
    refine wp_aI rfl rfl g9_ s10 (?_ : wp K_X6_fillProducts d Q 109 [some (4, (p0 : Int)), some (0, x1), some (0, x2), some (0, x3)] [(0, (V b8 x2)), (0, (x3 * 120)), (4, (b6 : Int))] _ _ _)
    obtain ⟨s12, w⟩ := w
    refine wp_xadd rfl rfl s12 (?_ : wp K_X6_fillProducts d Q 110 [some (4, (p0 : Int)), some (0, x1), some (0, x2), some (0, x3)] [(0, ((x3 * 120) + (V b8 x2))), (4, (b6 : Int))] _ _ _)
    obtain ⟨n13_, g13_, w⟩ := w
    obtain ⟨s14, w⟩ := w
    have f15 : i32 (V b6 (((x3 * 120) + (V b8 x2)))) := vr_a0 vr2 g13_ s14
    replace w := w f15
    refine wp_aI rfl rfl g13_ s14 (?_ : wp K_X6_fillProducts d Q 111 [some (4, (p0 : Int)), some (0, x1), some (0, x2), some (0, x3)] [(0, (V b6 (((x3 * 120) + (V b8 x2)))))] _ _ _)
    refine wp_sto (i := (.istore 4)) _ rfl rfl (fun _ => rfl) rfl rfl rfl ?_
    refine wp_wk (L' := [some (4, (p0 : Int)), some (0, x1), some (0, x2), some (0, x3), some (0, (V b6 (((x3 * 120) + (V b8 x2)))))]) (wk_s (wk_s (wk_s (wk_s (wk_s wk_0))))) ?_
    show wp K_X6_fillProducts d Q 113 [some (4, (p0 : Int)), some (0, x1), some (0, x2), some (0, x3), some (0, (V b6 (((x3 * 120) + (V b8 x2)))))] [] _ _ _
    refine wp_ld (i := (.aload_n 0)) (4, (p0 : Int)) rfl rfl (fun _ => rfl) rfl rfl (?_ : wp K_X6_fillProducts d Q 114 [some (4, (p0 : Int)), some (0, x1), some (0, x2), some (0, x3), some (0, (V b6 (((x3 * 120) + (V b8 x2)))))] [(4, (p0 : Int))] _ _ _)
    obtain ⟨b16, r16, w⟩ := w
    refine wp_getA (k := 9) rfl rfl rfl s1 rfl rfl r16 (?_ : wp K_X6_fillProducts d Q 117 [some (4, (p0 : Int)), some (0, x1), some (0, x2), some (0, x3), some (0, (V b6 (((x3 * 120) + (V b8 x2)))))] [(4, (b16 : Int))] _ _ _)
    refine wp_ld (i := (.iload 4)) (0, (V b6 (((x3 * 120) + (V b8 x2))))) rfl rfl (fun _ => rfl) rfl rfl (?_ : wp K_X6_fillProducts d Q 119 [some (4, (p0 : Int)), some (0, x1), some (0, x2), some (0, x3), some (0, (V b6 (((x3 * 120) + (V b8 x2)))))] [(0, (V b6 (((x3 * 120) + (V b8 x2))))), (4, (b16 : Int))] _ _ _)
    obtain ⟨n17_, g17_, w⟩ := w
    obtain ⟨s18, w⟩ := w
    have f19 : (V b16 ((V b6 (((x3 * 120) + (V b8 x2)))))) = 0 ∨ (V b16 ((V b6 (((x3 * 120) + (V b8 x2)))))) = 1 := vr_a2 vr2 g17_ s18
    replace w := w f19
    have f20 : i32 (V b16 ((V b6 (((x3 * 120) + (V b8 x2)))))) := bit32 f19
    refine wp_aB rfl rfl g17_ s18 (?_ : wp K_X6_fillProducts d Q 120 [some (4, (p0 : Int)), some (0, x1), some (0, x2), some (0, x3), some (0, (V b6 (((x3 * 120) + (V b8 x2)))))] [(0, (V b16 ((V b6 (((x3 * 120) + (V b8 x2)))))))] _ _ _)
    refine wp_if (c := .ne) 161 rfl rfl rfl f20 (fun q => ?_) (fun q => ?_)
    · have q : ¬ (V b16 ((V b6 (((x3 * 120) + (V b8 x2)))))) = 0 := q
      replace w := w.1 q
      show wp K_X6_fillProducts d Q 161 [some (4, (p0 : Int)), some (0, x1), some (0, x2), some (0, x3), some (0, (V b6 (((x3 * 120) + (V b8 x2)))))] [] _ _ _
      obtain ⟨s21, w⟩ := w
      refine wp_inc (x := 3) (k := 1) (a := x3) (c := (x3 + 1)) _ rfl rfl rfl rfl s21 (by omega) rfl ?_
      show wp K_X6_fillProducts d Q 164 [some (4, (p0 : Int)), some (0, x1), some (0, x2), some (0, (x3 + 1)), some (0, (V b6 (((x3 * 120) + (V b8 x2)))))] [] _ _ _
      refine wp_go 87 rfl rfl rfl (?_ : wp K_X6_fillProducts d Q 87 [some (4, (p0 : Int)), some (0, x1), some (0, x2), some (0, (x3 + 1)), some (0, (V b6 (((x3 * 120) + (V b8 x2)))))] [] _ _ _)
      exact wp_wk (wk_s (wk_s (wk_s (wk_s wk_0)))) w
    · have q : (V b16 ((V b6 (((x3 * 120) + (V b8 x2)))))) = 0 := Decidable.not_not.mp q
      replace w := w.2 q
      show wp K_X6_fillProducts d Q 123 [some (4, (p0 : Int)), some (0, x1), some (0, x2), some (0, x3), some (0, (V b6 (((x3 * 120) + (V b8 x2)))))] [] _ _ _
      refine wp_ld (i := (.iload_n 1)) (0, x1) rfl rfl (fun _ => rfl) rfl rfl (?_ : wp K_X6_fillProducts d Q 124 [some (4, (p0 : Int)), some (0, x1), some (0, x2), some (0, x3), some (0, (V b6 (((x3 * 120) + (V b8 x2)))))] [(0, x1)] _ _ _)
      refine wp_p (i := (.bipush 120)) rfl rfl (fun _ _ _ => rfl) (?_ : wp K_X6_fillProducts d Q 126 [some (4, (p0 : Int)), some (0, x1), some (0, x2), some (0, x3), some (0, (V b6 (((x3 * 120) + (V b8 x2)))))] [(0, 120), (0, x1)] _ _ _)
      obtain ⟨s22, w⟩ := w
      refine wp_icmp (c := .ge) 161 rfl rfl rfl s22 ⟨by omega, by omega⟩ (fun q => ?_) (fun q => ?_)
      · have q : ¬ x1 < 120 := q
        replace w := w.1 q
        show wp K_X6_fillProducts d Q 161 [some (4, (p0 : Int)), some (0, x1), some (0, x2), some (0, x3), some (0, (V b6 (((x3 * 120) + (V b8 x2)))))] [] _ _ _
        obtain ⟨s23, w⟩ := w
        refine wp_inc (x := 3) (k := 1) (a := x3) (c := (x3 + 1)) _ rfl rfl rfl rfl s23 (by omega) rfl ?_
        show wp K_X6_fillProducts d Q 164 [some (4, (p0 : Int)), some (0, x1), some (0, x2), some (0, (x3 + 1)), some (0, (V b6 (((x3 * 120) + (V b8 x2)))))] [] _ _ _
        refine wp_go 87 rfl rfl rfl (?_ : wp K_X6_fillProducts d Q 87 [some (4, (p0 : Int)), some (0, x1), some (0, x2), some (0, (x3 + 1)), some (0, (V b6 (((x3 * 120) + (V b8 x2)))))] [] _ _ _)
        exact wp_wk (wk_s (wk_s (wk_s (wk_s wk_0)))) w
      · have q : x1 < 120 := Decidable.not_not.mp q
        replace w := w.2 q
        show wp K_X6_fillProducts d Q 129 [some (4, (p0 : Int)), some (0, x1), some (0, x2), some (0, x3), some (0, (V b6 (((x3 * 120) + (V b8 x2)))))] [] _ _ _
        refine wp_ld (i := (.aload_n 0)) (4, (p0 : Int)) rfl rfl (fun _ => rfl) rfl rfl (?_ : wp K_X6_fillProducts d Q 130 [some (4, (p0 : Int)), some (0, x1), some (0, x2), some (0, x3), some (0, (V b6 (((x3 * 120) + (V b8 x2)))))] [(4, (p0 : Int))] _ _ _)
        refine wp_getA (k := 9) rfl rfl rfl s1 rfl rfl r16 (?_ : wp K_X6_fillProducts d Q 133 [some (4, (p0 : Int)), some (0, x1), some (0, x2), some (0, x3), some (0, (V b6 (((x3 * 120) + (V b8 x2)))))] [(4, (b16 : Int))] _ _ _)
        refine wp_ld (i := (.iload 4)) (0, (V b6 (((x3 * 120) + (V b8 x2))))) rfl rfl (fun _ => rfl) rfl rfl (?_ : wp K_X6_fillProducts d Q 135 [some (4, (p0 : Int)), some (0, x1), some (0, x2), some (0, x3), some (0, (V b6 (((x3 * 120) + (V b8 x2)))))] [(0, (V b6 (((x3 * 120) + (V b8 x2))))), (4, (b16 : Int))] _ _ _)
        refine wp_p (i := (.iconst 1)) rfl rfl (fun _ _ _ => rfl) (?_ : wp K_X6_fillProducts d Q 136 [some (4, (p0 : Int)), some (0, x1), some (0, x2), some (0, x3), some (0, (V b6 (((x3 * 120) + (V b8 x2)))))] [(0, 1), (0, (V b6 (((x3 * 120) + (V b8 x2))))), (4, (b16 : Int))] _ _ _)
        refine wp_sB rfl rfl g17_ s18 (by omega) (?_ : wp K_X6_fillProducts d Q 137 [some (4, (p0 : Int)), some (0, x1), some (0, x2), some (0, x3), some (0, (V b6 (((x3 * 120) + (V b8 x2)))))] [] _ _ _)
        refine wp_ld (i := (.aload_n 0)) (4, (p0 : Int)) rfl rfl (fun _ => rfl) rfl rfl (?_ : wp K_X6_fillProducts d Q 138 [some (4, (p0 : Int)), some (0, x1), some (0, x2), some (0, x3), some (0, (V b6 (((x3 * 120) + (V b8 x2)))))] [(4, (p0 : Int))] _ _ _)
        refine wp_getA (k := 8) rfl rfl rfl s1 rfl rfl r8 (?_ : wp K_X6_fillProducts d Q 141 [some (4, (p0 : Int)), some (0, x1), some (0, x2), some (0, x3), some (0, (V b6 (((x3 * 120) + (V b8 x2)))))] [(4, (b8 : Int))] _ _ _)
        refine wp_ld (i := (.iload_n 1)) (0, x1) rfl rfl (fun _ => rfl) rfl rfl (?_ : wp K_X6_fillProducts d Q 142 [some (4, (p0 : Int)), some (0, x1), some (0, x2), some (0, x3), some (0, (V b6 (((x3 * 120) + (V b8 x2)))))] [(0, x1), (4, (b8 : Int))] _ _ _)
        refine wp_ld (i := (.iload 4)) (0, (V b6 (((x3 * 120) + (V b8 x2))))) rfl rfl (fun _ => rfl) rfl rfl (?_ : wp K_X6_fillProducts d Q 144 [some (4, (p0 : Int)), some (0, x1), some (0, x2), some (0, x3), some (0, (V b6 (((x3 * 120) + (V b8 x2)))))] [(0, (V b6 (((x3 * 120) + (V b8 x2))))), (0, x1), (4, (b8 : Int))] _ _ _)
        obtain ⟨s24, w⟩ := w
        refine wp_sI rfl rfl g9_ s24 f15 (?_ : wp K_X6_fillProducts d Q 145 [some (4, (p0 : Int)), some (0, x1), some (0, x2), some (0, x3), some (0, (V b6 (((x3 * 120) + (V b8 x2)))))] [] _ _ _)
        obtain ⟨s25, w⟩ := w
        refine wp_inc (x := 1) (k := 1) (a := x1) (c := (x1 + 1)) _ rfl rfl rfl rfl s25 (by omega) rfl ?_
        show wp K_X6_fillProducts d Q 148 [some (4, (p0 : Int)), some (0, (x1 + 1)), some (0, x2), some (0, x3), some (0, (V b6 (((x3 * 120) + (V b8 x2)))))] [] _ _ _
        refine wp_ld (i := (.aload_n 0)) (4, (p0 : Int)) rfl rfl (fun _ => rfl) rfl rfl (?_ : wp K_X6_fillProducts d Q 149 [some (4, (p0 : Int)), some (0, (x1 + 1)), some (0, x2), some (0, x3), some (0, (V b6 (((x3 * 120) + (V b8 x2)))))] [(4, (p0 : Int))] _ _ _)
        refine wp_ld (i := (.iload 4)) (0, (V b6 (((x3 * 120) + (V b8 x2))))) rfl rfl (fun _ => rfl) rfl rfl (?_ : wp K_X6_fillProducts d Q 151 [some (4, (p0 : Int)), some (0, (x1 + 1)), some (0, x2), some (0, x3), some (0, (V b6 (((x3 * 120) + (V b8 x2)))))] [(0, (V b6 (((x3 * 120) + (V b8 x2))))), (4, (p0 : Int))] _ _ _)
        refine wp_ld (i := (.aload_n 0)) (4, (p0 : Int)) rfl rfl (fun _ => rfl) rfl rfl (?_ : wp K_X6_fillProducts d Q 152 [some (4, (p0 : Int)), some (0, (x1 + 1)), some (0, x2), some (0, x3), some (0, (V b6 (((x3 * 120) + (V b8 x2)))))] [(4, (p0 : Int)), (0, (V b6 (((x3 * 120) + (V b8 x2))))), (4, (p0 : Int))] _ _ _)
        refine wp_getA (k := 8) rfl rfl rfl s1 rfl rfl r8 (?_ : wp K_X6_fillProducts d Q 155 [some (4, (p0 : Int)), some (0, (x1 + 1)), some (0, x2), some (0, x3), some (0, (V b6 (((x3 * 120) + (V b8 x2)))))] [(4, (b8 : Int)), (0, (V b6 (((x3 * 120) + (V b8 x2))))), (4, (p0 : Int))] _ _ _)
        refine wp_ld (i := (.iload_n 2)) (0, x2) rfl rfl (fun _ => rfl) rfl rfl (?_ : wp K_X6_fillProducts d Q 156 [some (4, (p0 : Int)), some (0, (x1 + 1)), some (0, x2), some (0, x3), some (0, (V b6 (((x3 * 120) + (V b8 x2)))))] [(0, x2), (4, (b8 : Int)), (0, (V b6 (((x3 * 120) + (V b8 x2))))), (4, (p0 : Int))] _ _ _)
        refine wp_rng (fun vr26 => ?_)
        have f27 : i32 ((wr (wr V b16 ((V b6 (((x3 * 120) + (V b8 x2))))) 1) b8 x1 ((V b6 (((x3 * 120) + (V b8 x2)))))) b8 x2) := vr_a0 vr26 g9_ s10
        replace w := w f27
        refine wp_aI rfl rfl g9_ s10 (?_ : wp K_X6_fillProducts d Q 157 [some (4, (p0 : Int)), some (0, (x1 + 1)), some (0, x2), some (0, x3), some (0, (V b6 (((x3 * 120) + (V b8 x2)))))] [(0, ((wr (wr V b16 ((V b6 (((x3 * 120) + (V b8 x2))))) 1) b8 x1 ((V b6 (((x3 * 120) + (V b8 x2)))))) b8 x2)), (0, (V b6 (((x3 * 120) + (V b8 x2))))), (4, (p0 : Int))] _ _ _)
        refine wp_ld (i := (.iload_n 3)) (0, x3) rfl rfl (fun _ => rfl) rfl rfl (?_ : wp K_X6_fillProducts d Q 158 [some (4, (p0 : Int)), some (0, (x1 + 1)), some (0, x2), some (0, x3), some (0, (V b6 (((x3 * 120) + (V b8 x2)))))] [(0, x3), (0, ((wr (wr V b16 ((V b6 (((x3 * 120) + (V b8 x2))))) 1) b8 x1 ((V b6 (((x3 * 120) + (V b8 x2)))))) b8 x2)), (0, (V b6 (((x3 * 120) + (V b8 x2))))), (4, (p0 : Int))] _ _ _)
        refine wp_virt (as := [(0, (V b6 (((x3 * 120) + (V b8 x2))))), (0, ((wr (wr V b16 ((V b6 (((x3 * 120) + (V b8 x2))))) 1) b8 x1 ((V b6 (((x3 * 120) + (V b8 x2)))))) b8 x2)), (0, x3)]) (a := p0) (st := []) _ rfl rfl rfl rfl rfl rfl s1 (Nat.le_of_ble_eq_true rfl) (cwv_k0 w (fun V28 w => ?_))
        show wp K_X6_fillProducts d Q 161 [some (4, (p0 : Int)), some (0, (x1 + 1)), some (0, x2), some (0, x3), some (0, (V b6 (((x3 * 120) + (V b8 x2)))))] [] _ _ _
        obtain ⟨s29, w⟩ := w
        refine wp_inc (x := 3) (k := 1) (a := x3) (c := (x3 + 1)) _ rfl rfl rfl rfl s29 (by omega) rfl ?_
        show wp K_X6_fillProducts d Q 164 [some (4, (p0 : Int)), some (0, (x1 + 1)), some (0, x2), some (0, (x3 + 1)), some (0, (V b6 (((x3 * 120) + (V b8 x2)))))] [] _ _ _
        refine wp_go 87 rfl rfl rfl (?_ : wp K_X6_fillProducts d Q 87 [some (4, (p0 : Int)), some (0, (x1 + 1)), some (0, x2), some (0, (x3 + 1)), some (0, (V b6 (((x3 * 120) + (V b8 x2)))))] [] _ _ _)
        exact wp_wk (wk_s (wk_s (wk_s (wk_s wk_0)))) w

theorem t_X7_init_0 {d : Nat} {Q : gQ} {p0 : Nat} {G : List gS} {R V : gV} (w : (((G ++ [gA 3 4])[p0]? = some (gO 7)) ∧ (((G ++ [gA 3 4] ++ [gA 0 4])[p0]? = some (gO 7)) ∧ cw d (fun r G3 R3 V3 => r = none ∧ ((G3[p0]? = some (gO 7)) ∧ cw d (fun r G5 R5 V5 => r = none ∧ ((G5[p0]? = some (gO 7)) ∧ (((G5 ++ [gA 4 5])[p0]? = some (gO 7)) ∧ (((G5 ++ [gA 4 5] ++ [gA 5 3])[p0]? = some (gO 7)) ∧ wp K_X7_init d Q 69 [some (4, (p0 : Int)), some (0, 0)] [] (G5 ++ [gA 4 5] ++ [gA 5 3]) (wr (wr (wr R5 p0 3 ((G3.length : Nat) : Int)) p0 4 ((G5.length : Nat) : Int)) p0 5 (((G5 ++ [gA 4 5]).length : Nat) : Int)) (wr (wr V5 p0 7 0) p0 8 ((-1))))))) 0 [(4, ((G3.length : Nat) : Int))] (G3 ++ [gO 0]) (wr R3 p0 2 (((G ++ [gA 3 4] ++ [gA 0 4]).length : Nat) : Int)) V3)) 38 [(4, (((G ++ [gA 3 4] ++ [gA 0 4]).length : Nat) : Int))] (G ++ [gA 3 4] ++ [gA 0 4] ++ [gO 3]) (wr (wr R p0 0 ((G.length : Nat) : Int)) p0 1 (((G ++ [gA 3 4]).length : Nat) : Int)) V))) : wp K_X7_init d Q 0 [some (4, (p0 : Int))] [] G R V := by
  refine wp_ld (i := (.aload_n 0)) (4, (p0 : Int)) rfl rfl (fun _ => rfl) rfl rfl (?_ : wp K_X7_init d Q 1 [some (4, (p0 : Int))] [(4, (p0 : Int))] _ _ _)
  refine wp_obj rfl rfl rfl (Nat.le_of_ble_eq_true rfl) (?_ : wp K_X7_init d Q 4 [some (4, (p0 : Int))] [] _ _ _)
  refine wp_ld (i := (.aload_n 0)) (4, (p0 : Int)) rfl rfl (fun _ => rfl) rfl rfl (?_ : wp K_X7_init d Q 5 [some (4, (p0 : Int))] [(4, (p0 : Int))] _ _ _)
  refine wp_p (i := (.iconst 4)) rfl rfl (fun _ _ _ => rfl) (?_ : wp K_X7_init d Q 6 [some (4, (p0 : Int))] [(0, 4), (4, (p0 : Int))] _ _ _)
  refine wp_arr (ty := 3) (n := 3) (len := 4) rfl rfl (fun _ _ _ => rfl) (by omega) (by omega) (by omega) ?_
  show wp K_X7_init d Q 9 [some (4, (p0 : Int))] [(4, ((G.length : Nat) : Int)), (4, (p0 : Int))] _ _ _
  obtain ⟨s1, w⟩ := w
  refine wp_putA (k := 0) rfl rfl rfl s1 rfl rfl rfl (?_ : wp K_X7_init d Q 12 [some (4, (p0 : Int))] [] _ _ _)
  refine wp_ld (i := (.aload_n 0)) (4, (p0 : Int)) rfl rfl (fun _ => rfl) rfl rfl (?_ : wp K_X7_init d Q 13 [some (4, (p0 : Int))] [(4, (p0 : Int))] _ _ _)
  refine wp_p (i := (.iconst 4)) rfl rfl (fun _ _ _ => rfl) (?_ : wp K_X7_init d Q 14 [some (4, (p0 : Int))] [(0, 4), (4, (p0 : Int))] _ _ _)
  refine wp_arr (ty := 0) (n := 2) (len := 4) rfl rfl (fun _ _ _ => rfl) (by omega) (by omega) (by omega) ?_
  show wp K_X7_init d Q 16 [some (4, (p0 : Int))] [(4, _), (4, (p0 : Int))] _ _ _
  obtain ⟨s2, w⟩ := w
  refine wp_putA (k := 1) rfl rfl rfl s2 rfl rfl rfl (?_ : wp K_X7_init d Q 19 [some (4, (p0 : Int))] [] _ _ _)
  refine wp_ld (i := (.aload_n 0)) (4, (p0 : Int)) rfl rfl (fun _ => rfl) rfl rfl (?_ : wp K_X7_init d Q 20 [some (4, (p0 : Int))] [(4, (p0 : Int))] _ _ _)
  refine wp_new (ci := 3) rfl rfl rfl ?_
  show wp K_X7_init d Q 23 [some (4, (p0 : Int))] [(4, _), (4, (p0 : Int))] _ _ _
  refine wp_p (i := .dup) rfl rfl (fun _ _ _ => rfl) (?_ : wp K_X7_init d Q 24 [some (4, (p0 : Int))] [(4, _), (4, _), (4, (p0 : Int))] _ _ _)
  refine wp_spec (as := []) (a := (G ++ [gA 3 4] ++ [gA 0 4]).length) (st := [(4, (((G ++ [gA 3 4] ++ [gA 0 4]).length : Nat) : Int)), (4, (p0 : Int))]) _ rfl rfl rfl (by omega) rfl rfl (Nat.le_of_ble_eq_true rfl) (cw_k0 w (fun G3 R3 V3 w => ?_))
  show wp K_X7_init d Q 27 [some (4, (p0 : Int))] [(4, _), (4, (p0 : Int))] _ _ _
  obtain ⟨s4, w⟩ := w
  refine wp_putA (k := 2) rfl rfl rfl s4 rfl rfl rfl (?_ : wp K_X7_init d Q 30 [some (4, (p0 : Int))] [] _ _ _)
  refine wp_ld (i := (.aload_n 0)) (4, (p0 : Int)) rfl rfl (fun _ => rfl) rfl rfl (?_ : wp K_X7_init d Q 31 [some (4, (p0 : Int))] [(4, (p0 : Int))] _ _ _)
  refine wp_new (ci := 0) rfl rfl rfl ?_
  show wp K_X7_init d Q 34 [some (4, (p0 : Int))] [(4, ((G3.length : Nat) : Int)), (4, (p0 : Int))] _ _ _
  refine wp_p (i := .dup) rfl rfl (fun _ _ _ => rfl) (?_ : wp K_X7_init d Q 35 [some (4, (p0 : Int))] [(4, ((G3.length : Nat) : Int)), (4, ((G3.length : Nat) : Int)), (4, (p0 : Int))] _ _ _)
  refine wp_spec (as := []) (a := G3.length) (st := [(4, ((G3.length : Nat) : Int)), (4, (p0 : Int))]) _ rfl rfl rfl (by omega) rfl rfl (Nat.le_of_ble_eq_true rfl) (cw_k0 w (fun G5 R5 V5 w => ?_))
  show wp K_X7_init d Q 38 [some (4, (p0 : Int))] [(4, ((G3.length : Nat) : Int)), (4, (p0 : Int))] _ _ _
  obtain ⟨s6, w⟩ := w
  refine wp_putA (k := 3) rfl rfl rfl s6 rfl rfl rfl (?_ : wp K_X7_init d Q 41 [some (4, (p0 : Int))] [] _ _ _)
  refine wp_ld (i := (.aload_n 0)) (4, (p0 : Int)) rfl rfl (fun _ => rfl) rfl rfl (?_ : wp K_X7_init d Q 42 [some (4, (p0 : Int))] [(4, (p0 : Int))] _ _ _)
  refine wp_p (i := (.iconst 5)) rfl rfl (fun _ _ _ => rfl) (?_ : wp K_X7_init d Q 43 [some (4, (p0 : Int))] [(0, 5), (4, (p0 : Int))] _ _ _)
  refine wp_arr (ty := 4) (n := 3) (len := 5) rfl rfl (fun _ _ _ => rfl) (by omega) (by omega) (by omega) ?_
  show wp K_X7_init d Q 46 [some (4, (p0 : Int))] [(4, ((G5.length : Nat) : Int)), (4, (p0 : Int))] _ _ _
  obtain ⟨s7, w⟩ := w
  refine wp_putA (k := 4) rfl rfl rfl s7 rfl rfl rfl (?_ : wp K_X7_init d Q 49 [some (4, (p0 : Int))] [] _ _ _)
  refine wp_ld (i := (.aload_n 0)) (4, (p0 : Int)) rfl rfl (fun _ => rfl) rfl rfl (?_ : wp K_X7_init d Q 50 [some (4, (p0 : Int))] [(4, (p0 : Int))] _ _ _)
  refine wp_p (i := (.iconst 3)) rfl rfl (fun _ _ _ => rfl) (?_ : wp K_X7_init d Q 51 [some (4, (p0 : Int))] [(0, 3), (4, (p0 : Int))] _ _ _)
  refine wp_arr (ty := 5) (n := 3) (len := 3) rfl rfl (fun _ _ _ => rfl) (by omega) (by omega) (by omega) ?_
  show wp K_X7_init d Q 54 [some (4, (p0 : Int))] [(4, _), (4, (p0 : Int))] _ _ _
  obtain ⟨s8, w⟩ := w
  refine wp_putA (k := 5) rfl rfl rfl s8 rfl rfl rfl (?_ : wp K_X7_init d Q 57 [some (4, (p0 : Int))] [] _ _ _)
  refine wp_ld (i := (.aload_n 0)) (4, (p0 : Int)) rfl rfl (fun _ => rfl) rfl rfl (?_ : wp K_X7_init d Q 58 [some (4, (p0 : Int))] [(4, (p0 : Int))] _ _ _)
  refine wp_p (i := (.iconst 0)) rfl rfl (fun _ _ _ => rfl) (?_ : wp K_X7_init d Q 59 [some (4, (p0 : Int))] [(0, 0), (4, (p0 : Int))] _ _ _)
  refine wp_putI (k := 7) rfl rfl rfl s8 rfl rfl rfl ⟨by omega, by omega⟩ (?_ : wp K_X7_init d Q 62 [some (4, (p0 : Int))] [] _ _ _)
  refine wp_ld (i := (.aload_n 0)) (4, (p0 : Int)) rfl rfl (fun _ => rfl) rfl rfl (?_ : wp K_X7_init d Q 63 [some (4, (p0 : Int))] [(4, (p0 : Int))] _ _ _)
  refine wp_p (i := (.iconst (-1))) rfl rfl (fun _ _ _ => rfl) (?_ : wp K_X7_init d Q 64 [some (4, (p0 : Int))] [(0, (-1)), (4, (p0 : Int))] _ _ _)
  refine wp_putI (k := 8) rfl rfl rfl s8 rfl rfl rfl ⟨by omega, by omega⟩ (?_ : wp K_X7_init d Q 67 [some (4, (p0 : Int))] [] _ _ _)
  refine wp_p (i := (.iconst 0)) rfl rfl (fun _ _ _ => rfl) (?_ : wp K_X7_init d Q 68 [some (4, (p0 : Int))] [(0, 0)] _ _ _)
  refine wp_sto (i := (.istore_n 1)) _ rfl rfl (fun _ => rfl) rfl rfl rfl ?_
  refine wp_wk (L' := [some (4, (p0 : Int)), some (0, 0)]) (wk_s (wk_s wk_0)) ?_
  show wp K_X7_init d Q 69 [some (4, (p0 : Int)), some (0, 0)] [] _ _ _
  exact wp_wk (wk_s (wk_s wk_0)) w

theorem t_X7_init_69 {d : Nat} {Q : gQ} {p0 : Nat} {x1 : Int} {G : List gS} {R V : gV} (w : ((i32 x1) ∧ (((¬ x1 < 4) → ((G[p0]? = some (gO 7)) ∧ (∃ b3 : Nat, (R p0 4 = (b3 : Int)) ∧ cw d (fun r G4 R4 V4 => r = none ∧ (∃ n5_ : Nat, (G4[b3]? = some (gA 4 n5_)) ∧ (((0 : Int) ≤ 0 ∧ 0 < (n5_ : Int)) ∧ ((G4[G.length]? = some (gO 2)) ∧ (((G4 ++ [gO 1])[p0]? = some (gO 7)) ∧ (∃ b9 : Nat, ((wr R4 b3 0 ((G.length : Nat) : Int)) p0 4 = (b9 : Int)) ∧ (∃ n10_ : Nat, ((G4 ++ [gO 1])[b9]? = some (gA 4 n10_)) ∧ (((0 : Int) ≤ 0 ∧ 0 < (n10_ : Int)) ∧ (∃ b12 : Nat, ((wr R4 b3 0 ((G.length : Nat) : Int)) b9 0 = (b12 : Int)) ∧ cw d (fun r G13 R13 V13 => r = none ∧ ((G13[p0]? = some (gO 7)) ∧ Q none G13 (wr R13 p0 6 ((G4.length : Nat) : Int)) V13)) 16 [(4, ((G4.length : Nat) : Int)), (4, (b12 : Int))] (G4 ++ [gO 1]) (wr R4 b3 0 ((G.length : Nat) : Int)) V4))))))))) 31 [(4, ((G.length : Nat) : Int))] (G ++ [gO 2]) R V))) ∧ ((x1 < 4) → ((G[p0]? = some (gO 7)) ∧ (∃ b16 : Nat, (R p0 0 = (b16 : Int)) ∧ cw d (fun r G17 R17 V17 => r = none ∧ (∃ n18_ : Nat, (G17[b16]? = some (gA 3 n18_)) ∧ (((0 : Int) ≤ x1 ∧ x1 < (n18_ : Int)) ∧ ((G17[G.length]? = some (gO 5)) ∧ ((i32 (x1 + 1)) ∧ wp K_X7_init d Q 69 [some (4, (p0 : Int)), some (0, (x1 + 1))] [] G17 (wr R17 b16 x1 ((G.length : Nat) : Int)) V17))))) 81 [(4, ((G.length : Nat) : Int))] (G ++ [gO 5]) R V)))))) : wp K_X7_init d Q 69 [some (4, (p0 : Int)), some (0, x1)] [] G R V := by
  refine wp_ld (i := (.iload_n 1)) (0, x1) rfl rfl (fun _ => rfl) rfl rfl (?_ : wp K_X7_init d Q 70 [some (4, (p0 : Int)), some (0, x1)] [(0, x1)] _ _ _)
  refine wp_p (i := (.iconst 4)) rfl rfl (fun _ _ _ => rfl) (?_ : wp K_X7_init d Q 71 [some (4, (p0 : Int)), some (0, x1)] [(0, 4), (0, x1)] _ _ _)
  obtain ⟨s1, w⟩ := w
  refine wp_icmp (c := .ge) 93 rfl rfl rfl s1 ⟨by omega, by omega⟩ (fun q => ?_) (fun q => ?_)
  · have q : ¬ x1 < 4 := q
    replace w := w.1 q
    show wp K_X7_init d Q 93 [some (4, (p0 : Int)), some (0, x1)] [] _ _ _
    refine wp_ld (i := (.aload_n 0)) (4, (p0 : Int)) rfl rfl (fun _ => rfl) rfl rfl (?_ : wp K_X7_init d Q 94 [some (4, (p0 : Int)), some (0, x1)] [(4, (p0 : Int))] _ _ _)
    obtain ⟨s2, w⟩ := w
    obtain ⟨b3, r3, w⟩ := w
    refine wp_getA (k := 4) rfl rfl rfl s2 rfl rfl r3 (?_ : wp K_X7_init d Q 97 [some (4, (p0 : Int)), some (0, x1)] [(4, (b3 : Int))] _ _ _)
    refine wp_p (i := (.iconst 0)) rfl rfl (fun _ _ _ => rfl) (?_ : wp K_X7_init d Q 98 [some (4, (p0 : Int)), some (0, x1)] [(0, 0), (4, (b3 : Int))] _ _ _)
    refine wp_new (ci := 2) rfl rfl rfl ?_
    show wp K_X7_init d Q 101 [some (4, (p0 : Int)), some (0, x1)] [(4, ((G.length : Nat) : Int)), (0, 0), (4, (b3 : Int))] _ _ _
    refine wp_p (i := .dup) rfl rfl (fun _ _ _ => rfl) (?_ : wp K_X7_init d Q 102 [some (4, (p0 : Int)), some (0, x1)] [(4, ((G.length : Nat) : Int)), (4, ((G.length : Nat) : Int)), (0, 0), (4, (b3 : Int))] _ _ _)
    refine wp_spec (as := []) (a := G.length) (st := [(4, ((G.length : Nat) : Int)), (0, 0), (4, (b3 : Int))]) _ rfl rfl rfl (by omega) rfl rfl (Nat.le_of_ble_eq_true rfl) (cw_k0 w (fun G4 R4 V4 w => ?_))
    show wp K_X7_init d Q 105 [some (4, (p0 : Int)), some (0, x1)] [(4, ((G.length : Nat) : Int)), (0, 0), (4, (b3 : Int))] _ _ _
    obtain ⟨n5_, g5_, w⟩ := w
    obtain ⟨s6, w⟩ := w
    obtain ⟨s7, w⟩ := w
    refine wp_astR rfl rfl g5_ s7 (by omega) rfl s6.1 s6.2 (?_ : wp K_X7_init d Q 106 [some (4, (p0 : Int)), some (0, x1)] [] _ _ _)
    refine wp_ld (i := (.aload_n 0)) (4, (p0 : Int)) rfl rfl (fun _ => rfl) rfl rfl (?_ : wp K_X7_init d Q 107 [some (4, (p0 : Int)), some (0, x1)] [(4, (p0 : Int))] _ _ _)
    refine wp_new (ci := 1) rfl rfl rfl ?_
    show wp K_X7_init d Q 110 [some (4, (p0 : Int)), some (0, x1)] [(4, ((G4.length : Nat) : Int)), (4, (p0 : Int))] _ _ _
    refine wp_p (i := .dup) rfl rfl (fun _ _ _ => rfl) (?_ : wp K_X7_init d Q 111 [some (4, (p0 : Int)), some (0, x1)] [(4, ((G4.length : Nat) : Int)), (4, ((G4.length : Nat) : Int)), (4, (p0 : Int))] _ _ _)
    refine wp_ld (i := (.aload_n 0)) (4, (p0 : Int)) rfl rfl (fun _ => rfl) rfl rfl (?_ : wp K_X7_init d Q 112 [some (4, (p0 : Int)), some (0, x1)] [(4, (p0 : Int)), (4, ((G4.length : Nat) : Int)), (4, ((G4.length : Nat) : Int)), (4, (p0 : Int))] _ _ _)
    obtain ⟨s8, w⟩ := w
    obtain ⟨b9, r9, w⟩ := w
    refine wp_getA (k := 4) rfl rfl rfl s8 rfl rfl r9 (?_ : wp K_X7_init d Q 115 [some (4, (p0 : Int)), some (0, x1)] [(4, (b9 : Int)), (4, ((G4.length : Nat) : Int)), (4, ((G4.length : Nat) : Int)), (4, (p0 : Int))] _ _ _)
    refine wp_p (i := (.iconst 0)) rfl rfl (fun _ _ _ => rfl) (?_ : wp K_X7_init d Q 116 [some (4, (p0 : Int)), some (0, x1)] [(0, 0), (4, (b9 : Int)), (4, ((G4.length : Nat) : Int)), (4, ((G4.length : Nat) : Int)), (4, (p0 : Int))] _ _ _)
    obtain ⟨n10_, g10_, w⟩ := w
    obtain ⟨s11, w⟩ := w
    obtain ⟨b12, r12, w⟩ := w
    refine wp_aA rfl rfl g10_ rfl s11 r12 (?_ : wp K_X7_init d Q 117 [some (4, (p0 : Int)), some (0, x1)] [(4, (b12 : Int)), (4, ((G4.length : Nat) : Int)), (4, ((G4.length : Nat) : Int)), (4, (p0 : Int))] _ _ _)
    refine wp_spec (as := [(4, (b12 : Int))]) (a := G4.length) (st := [(4, ((G4.length : Nat) : Int)), (4, (p0 : Int))]) _ rfl rfl rfl (by omega) rfl rfl (Nat.le_of_ble_eq_true rfl) (cw_k0 w (fun G13 R13 V13 w => ?_))
    show wp K_X7_init d Q 120 [some (4, (p0 : Int)), some (0, x1)] [(4, ((G4.length : Nat) : Int)), (4, (p0 : Int))] _ _ _
    obtain ⟨s14, w⟩ := w
    refine wp_putA (k := 6) rfl rfl rfl s14 rfl rfl rfl (?_ : wp K_X7_init d Q 123 [some (4, (p0 : Int)), some (0, x1)] [] _ _ _)
    exact wp_g0 rfl rfl rfl w
  · have q : x1 < 4 := Decidable.not_not.mp q
    replace w := w.2 q
    show wp K_X7_init d Q 74 [some (4, (p0 : Int)), some (0, x1)] [] _ _ _
    refine wp_ld (i := (.aload_n 0)) (4, (p0 : Int)) rfl rfl (fun _ => rfl) rfl rfl (?_ : wp K_X7_init d Q 75 [some (4, (p0 : Int)), some (0, x1)] [(4, (p0 : Int))] _ _ _)
    obtain ⟨s15, w⟩ := w
    obtain ⟨b16, r16, w⟩ := w
    refine wp_getA (k := 0) rfl rfl rfl s15 rfl rfl r16 (?_ : wp K_X7_init d Q 78 [some (4, (p0 : Int)), some (0, x1)] [(4, (b16 : Int))] _ _ _)
    refine wp_ld (i := (.iload_n 1)) (0, x1) rfl rfl (fun _ => rfl) rfl rfl (?_ : wp K_X7_init d Q 79 [some (4, (p0 : Int)), some (0, x1)] [(0, x1), (4, (b16 : Int))] _ _ _)
    refine wp_new (ci := 5) rfl rfl rfl ?_
    show wp K_X7_init d Q 82 [some (4, (p0 : Int)), some (0, x1)] [(4, ((G.length : Nat) : Int)), (0, x1), (4, (b16 : Int))] _ _ _
    refine wp_p (i := .dup) rfl rfl (fun _ _ _ => rfl) (?_ : wp K_X7_init d Q 83 [some (4, (p0 : Int)), some (0, x1)] [(4, ((G.length : Nat) : Int)), (4, ((G.length : Nat) : Int)), (0, x1), (4, (b16 : Int))] _ _ _)
    refine wp_spec (as := []) (a := G.length) (st := [(4, ((G.length : Nat) : Int)), (0, x1), (4, (b16 : Int))]) _ rfl rfl rfl (by omega) rfl rfl (Nat.le_of_ble_eq_true rfl) (cw_k0 w (fun G17 R17 V17 w => ?_))
    show wp K_X7_init d Q 86 [some (4, (p0 : Int)), some (0, x1)] [(4, ((G.length : Nat) : Int)), (0, x1), (4, (b16 : Int))] _ _ _
    obtain ⟨n18_, g18_, w⟩ := w
    obtain ⟨s19, w⟩ := w
    obtain ⟨s20, w⟩ := w
    refine wp_astR rfl rfl g18_ s20 (by omega) rfl s19.1 s19.2 (?_ : wp K_X7_init d Q 87 [some (4, (p0 : Int)), some (0, x1)] [] _ _ _)
    obtain ⟨s21, w⟩ := w
    refine wp_inc (x := 1) (k := 1) (a := x1) (c := (x1 + 1)) _ rfl rfl rfl rfl s21 (by omega) rfl ?_
    show wp K_X7_init d Q 90 [some (4, (p0 : Int)), some (0, (x1 + 1))] [] _ _ _
    refine wp_go 69 rfl rfl rfl (?_ : wp K_X7_init d Q 69 [some (4, (p0 : Int)), some (0, (x1 + 1))] [] _ _ _)
    exact wp_wk (wk_s (wk_s wk_0)) w

theorem t_X7_group_0 {d : Nat} {Q : gQ} {p0 : Nat} {x1 : Int} {G : List gS} {R V : gV} (w : ((i32 x1) ∧ (((x1 < 1) → ((G[p0]? = some (gO 7)) ∧ cwv d (fun r V2 => ∃ v3 : Int, r = some (0, v3) ∧ Q (some (0, v3)) G R V2) 138 [(4, (p0 : Int)), (0, (-1))] G R V)) ∧ ((¬ x1 < 1) → (((¬ 8 < x1) → ((G[p0]? = some (gO 7)) ∧ cwv d (fun r V5 => ∃ v6 : Int, r = some (0, v6) ∧ ((i32 v6) ∧ (((¬ v6 = 0) → ((G[p0]? = some (gO 7)) ∧ cw d (fun r G9 R9 V9 => ∃ q10 : Nat, r = some (4, (q10 : Int)) ∧ ((G9[p0]? = some (gO 7)) ∧ (∃ b13 : Nat, (R9 p0 1 = (b13 : Int)) ∧ (∃ b14 : Nat, (R9 p0 2 = (b14 : Int)) ∧ ((G9[q10]? = some (gO 2)) ∧ cw d (fun r G15 R15 V15 => ∃ v16 : Int, r = some (0, v16) ∧ ((i32 v16) ∧ (((¬ v16 = 0) → ((G15[p0]? = some (gO 7)) ∧ (∃ b20 : Nat, (R15 p0 6 = (b20 : Int)) ∧ ((G15[b20]? = some (gO 1)) ∧ cw d (fun r G21 R21 V21 => r = none ∧ ((G21[q10]? = some (gO 2)) ∧ (∃ b24 : Nat, (R21 q10 0 = (b24 : Int)) ∧ ((G21[b24]? = some (gO 6)) ∧ ((i32 (V21 b24 1)) → ((G21[p0]? = some (gO 7)) ∧ cwv d (fun r V28 => ∃ v29 : Int, r = some (0, v29) ∧ Q (some (0, v29)) G21 R21 V28) 139 [(4, (p0 : Int)), (0, (V21 b24 1))] G21 R21 V21)))))) 17 [(4, (b20 : Int)), (4, (q10 : Int))] G15 R15 V15)))) ∧ ((v16 = 0) → ((G15[p0]? = some (gO 7)) ∧ cwv d (fun r V31 => ∃ v32 : Int, r = some (0, v32) ∧ Q (some (0, v32)) G15 R15 V31) 138 [(4, (p0 : Int)), (0, (-5))] G15 R15 V15))))) 32 [(4, (q10 : Int)), (0, x1), (4, (b13 : Int)), (4, (b14 : Int))] G9 R9 V9))))) 145 [(4, (p0 : Int))] G R V5)) ∧ ((v6 = 0) → ((G[p0]? = some (gO 7)) ∧ cwv d (fun r V34 => ∃ v35 : Int, r = some (0, v35) ∧ Q (some (0, v35)) G R V34) 138 [(4, (p0 : Int)), (0, (-6))] G R V5))))) 144 [(4, (p0 : Int)), (0, x1)] G R V)) ∧ ((8 < x1) → ((G[p0]? = some (gO 7)) ∧ cwv d (fun r V37 => ∃ v38 : Int, r = some (0, v38) ∧ Q (some (0, v38)) G R V37) 138 [(4, (p0 : Int)), (0, (-1))] G R V))))))) : wp K_X7_group d Q 0 [some (4, (p0 : Int)), some (0, x1)] [] G R V := by
  refine wp_ld (i := (.iload_n 1)) (0, x1) rfl rfl (fun _ => rfl) rfl rfl (?_ : wp K_X7_group d Q 1 [some (4, (p0 : Int)), some (0, x1)] [(0, x1)] _ _ _)
  refine wp_p (i := (.iconst 1)) rfl rfl (fun _ _ _ => rfl) (?_ : wp K_X7_group d Q 2 [some (4, (p0 : Int)), some (0, x1)] [(0, 1), (0, x1)] _ _ _)
  obtain ⟨s1, w⟩ := w
  refine wp_icmp (c := .lt) 11 rfl rfl rfl s1 ⟨by omega, by omega⟩ (fun q => ?_) (fun q => ?_)
  · have q : x1 < 1 := q
    replace w := w.1 q
    show wp K_X7_group d Q 11 [some (4, (p0 : Int)), some (0, x1)] [] _ _ _
    refine wp_ld (i := (.aload_n 0)) (4, (p0 : Int)) rfl rfl (fun _ => rfl) rfl rfl (?_ : wp K_X7_group d Q 12 [some (4, (p0 : Int)), some (0, x1)] [(4, (p0 : Int))] _ _ _)
    refine wp_p (i := (.iconst (-1))) rfl rfl (fun _ _ _ => rfl) (?_ : wp K_X7_group d Q 13 [some (4, (p0 : Int)), some (0, x1)] [(0, (-1)), (4, (p0 : Int))] _ _ _)
    obtain ⟨s4, w⟩ := w
    refine wp_virt (as := [(0, (-1))]) (a := p0) (st := []) _ rfl rfl rfl rfl rfl rfl s4 (Nat.le_of_ble_eq_true rfl) (cwv_kI w (fun v3 V2 w => ?_))
    show wp K_X7_group d Q 16 [some (4, (p0 : Int)), some (0, x1)] [(0, v3)] _ _ _
    exact wp_gI rfl rfl rfl w
  · have q : ¬ x1 < 1 := q
    replace w := w.2 q
    show wp K_X7_group d Q 5 [some (4, (p0 : Int)), some (0, x1)] [] _ _ _
    refine wp_ld (i := (.iload_n 1)) (0, x1) rfl rfl (fun _ => rfl) rfl rfl (?_ : wp K_X7_group d Q 6 [some (4, (p0 : Int)), some (0, x1)] [(0, x1)] _ _ _)
    refine wp_p (i := (.bipush 8)) rfl rfl (fun _ _ _ => rfl) (?_ : wp K_X7_group d Q 8 [some (4, (p0 : Int)), some (0, x1)] [(0, 8), (0, x1)] _ _ _)
    refine wp_icmp (c := .le) 17 rfl rfl rfl s1 ⟨by omega, by omega⟩ (fun q => ?_) (fun q => ?_)
    · have q : ¬ 8 < x1 := q
      replace w := w.1 q
      show wp K_X7_group d Q 17 [some (4, (p0 : Int)), some (0, x1)] [] _ _ _
      refine wp_ld (i := (.aload_n 0)) (4, (p0 : Int)) rfl rfl (fun _ => rfl) rfl rfl (?_ : wp K_X7_group d Q 18 [some (4, (p0 : Int)), some (0, x1)] [(4, (p0 : Int))] _ _ _)
      refine wp_ld (i := (.iload_n 1)) (0, x1) rfl rfl (fun _ => rfl) rfl rfl (?_ : wp K_X7_group d Q 19 [some (4, (p0 : Int)), some (0, x1)] [(0, x1), (4, (p0 : Int))] _ _ _)
      obtain ⟨s7, w⟩ := w
      refine wp_virt (as := [(0, x1)]) (a := p0) (st := []) _ rfl rfl rfl rfl rfl rfl s7 (Nat.le_of_ble_eq_true rfl) (cwv_kI w (fun v6 V5 w => ?_))
      show wp K_X7_group d Q 22 [some (4, (p0 : Int)), some (0, x1)] [(0, v6)] _ _ _
      obtain ⟨s8, w⟩ := w
      refine wp_if (c := .ne) 32 rfl rfl rfl s8 (fun q => ?_) (fun q => ?_)
      · have q : ¬ v6 = 0 := q
        replace w := w.1 q
        show wp K_X7_group d Q 32 [some (4, (p0 : Int)), some (0, x1)] [] _ _ _
        refine wp_ld (i := (.aload_n 0)) (4, (p0 : Int)) rfl rfl (fun _ => rfl) rfl rfl (?_ : wp K_X7_group d Q 33 [some (4, (p0 : Int)), some (0, x1)] [(4, (p0 : Int))] _ _ _)
        obtain ⟨s11, w⟩ := w
        refine wp_virt (as := []) (a := p0) (st := []) _ rfl rfl rfl rfl rfl rfl s11 (Nat.le_of_ble_eq_true rfl) (cw_kA w (fun q10 G9 R9 V9 w => ?_))
        show wp K_X7_group d Q 36 [some (4, (p0 : Int)), some (0, x1)] [(4, (q10 : Int))] _ _ _
        refine wp_sto (i := (.astore_n 2)) _ rfl rfl (fun _ => rfl) rfl rfl rfl ?_
        refine wp_wk (L' := [some (4, (p0 : Int)), some (0, x1), some (4, (q10 : Int))]) (wk_s (wk_s (wk_s wk_0))) ?_
        show wp K_X7_group d Q 37 [some (4, (p0 : Int)), some (0, x1), some (4, (q10 : Int))] [] _ _ _
        refine wp_ld (i := (.aload_n 2)) (4, (q10 : Int)) rfl rfl (fun _ => rfl) rfl rfl (?_ : wp K_X7_group d Q 38 [some (4, (p0 : Int)), some (0, x1), some (4, (q10 : Int))] [(4, (q10 : Int))] _ _ _)
        refine wp_ld (i := (.iload_n 1)) (0, x1) rfl rfl (fun _ => rfl) rfl rfl (?_ : wp K_X7_group d Q 39 [some (4, (p0 : Int)), some (0, x1), some (4, (q10 : Int))] [(0, x1), (4, (q10 : Int))] _ _ _)
        refine wp_ld (i := (.aload_n 0)) (4, (p0 : Int)) rfl rfl (fun _ => rfl) rfl rfl (?_ : wp K_X7_group d Q 40 [some (4, (p0 : Int)), some (0, x1), some (4, (q10 : Int))] [(4, (p0 : Int)), (0, x1), (4, (q10 : Int))] _ _ _)
        obtain ⟨s12, w⟩ := w
        obtain ⟨b13, r13, w⟩ := w
        refine wp_getA (k := 1) rfl rfl rfl s12 rfl rfl r13 (?_ : wp K_X7_group d Q 43 [some (4, (p0 : Int)), some (0, x1), some (4, (q10 : Int))] [(4, (b13 : Int)), (0, x1), (4, (q10 : Int))] _ _ _)
        refine wp_ld (i := (.aload_n 0)) (4, (p0 : Int)) rfl rfl (fun _ => rfl) rfl rfl (?_ : wp K_X7_group d Q 44 [some (4, (p0 : Int)), some (0, x1), some (4, (q10 : Int))] [(4, (p0 : Int)), (4, (b13 : Int)), (0, x1), (4, (q10 : Int))] _ _ _)
        obtain ⟨b14, r14, w⟩ := w
        refine wp_getA (k := 2) rfl rfl rfl s12 rfl rfl r14 (?_ : wp K_X7_group d Q 47 [some (4, (p0 : Int)), some (0, x1), some (4, (q10 : Int))] [(4, (b14 : Int)), (4, (b13 : Int)), (0, x1), (4, (q10 : Int))] _ _ _)
        obtain ⟨s17, w⟩ := w
        refine wp_virt (as := [(0, x1), (4, (b13 : Int)), (4, (b14 : Int))]) (a := q10) (st := []) _ rfl rfl rfl rfl rfl rfl s17 (Nat.le_of_ble_eq_true rfl) (cw_kI w (fun v16 G15 R15 V15 w => ?_))
        show wp K_X7_group d Q 50 [some (4, (p0 : Int)), some (0, x1), some (4, (q10 : Int))] [(0, v16)] _ _ _
        obtain ⟨s18, w⟩ := w
        refine wp_if (c := .ne) 60 rfl rfl rfl s18 (fun q => ?_) (fun q => ?_)
        · have q : ¬ v16 = 0 := q
          replace w := w.1 q
          show wp K_X7_group d Q 60 [some (4, (p0 : Int)), some (0, x1), some (4, (q10 : Int))] [] _ _ _
          refine wp_ld (i := (.aload_n 0)) (4, (p0 : Int)) rfl rfl (fun _ => rfl) rfl rfl (?_ : wp K_X7_group d Q 61 [some (4, (p0 : Int)), some (0, x1), some (4, (q10 : Int))] [(4, (p0 : Int))] _ _ _)
          obtain ⟨s19, w⟩ := w
          obtain ⟨b20, r20, w⟩ := w
          refine wp_getA (k := 6) rfl rfl rfl s19 rfl rfl r20 (?_ : wp K_X7_group d Q 64 [some (4, (p0 : Int)), some (0, x1), some (4, (q10 : Int))] [(4, (b20 : Int))] _ _ _)
          refine wp_ld (i := (.aload_n 2)) (4, (q10 : Int)) rfl rfl (fun _ => rfl) rfl rfl (?_ : wp K_X7_group d Q 65 [some (4, (p0 : Int)), some (0, x1), some (4, (q10 : Int))] [(4, (q10 : Int)), (4, (b20 : Int))] _ _ _)
          obtain ⟨s22, w⟩ := w
          refine wp_virt (as := [(4, (q10 : Int))]) (a := b20) (st := []) _ rfl rfl rfl rfl rfl rfl s22 (Nat.le_of_ble_eq_true rfl) (cw_k0 w (fun G21 R21 V21 w => ?_))
          show wp K_X7_group d Q 68 [some (4, (p0 : Int)), some (0, x1), some (4, (q10 : Int))] [] _ _ _
          refine wp_ld (i := (.aload_n 0)) (4, (p0 : Int)) rfl rfl (fun _ => rfl) rfl rfl (?_ : wp K_X7_group d Q 69 [some (4, (p0 : Int)), some (0, x1), some (4, (q10 : Int))] [(4, (p0 : Int))] _ _ _)
          refine wp_ld (i := (.aload_n 2)) (4, (q10 : Int)) rfl rfl (fun _ => rfl) rfl rfl (?_ : wp K_X7_group d Q 70 [some (4, (p0 : Int)), some (0, x1), some (4, (q10 : Int))] [(4, (q10 : Int)), (4, (p0 : Int))] _ _ _)
          obtain ⟨s23, w⟩ := w
          obtain ⟨b24, r24, w⟩ := w
          refine wp_getA (k := 0) rfl rfl rfl s23 rfl rfl r24 (?_ : wp K_X7_group d Q 73 [some (4, (p0 : Int)), some (0, x1), some (4, (q10 : Int))] [(4, (b24 : Int)), (4, (p0 : Int))] _ _ _)
          obtain ⟨s25, w⟩ := w
          refine wp_rng (fun vr26 => ?_)
          have f27 : i32 (V21 b24 1) := vr_f0 vr26 s25 rfl rfl
          replace w := w f27
          refine wp_getI (k := 1) rfl rfl rfl s25 rfl rfl (?_ : wp K_X7_group d Q 76 [some (4, (p0 : Int)), some (0, x1), some (4, (q10 : Int))] [(0, (V21 b24 1)), (4, (p0 : Int))] _ _ _)
          obtain ⟨s30, w⟩ := w
          refine wp_virt (as := [(0, (V21 b24 1))]) (a := p0) (st := []) _ rfl rfl rfl rfl rfl rfl s30 (Nat.le_of_ble_eq_true rfl) (cwv_kI w (fun v29 V28 w => ?_))
          show wp K_X7_group d Q 79 [some (4, (p0 : Int)), some (0, x1), some (4, (q10 : Int))] [(0, v29)] _ _ _
          exact wp_gI rfl rfl rfl w
        · have q : v16 = 0 := Decidable.not_not.mp q
          replace w := w.2 q
          show wp K_X7_group d Q 53 [some (4, (p0 : Int)), some (0, x1), some (4, (q10 : Int))] [] _ _ _
          refine wp_ld (i := (.aload_n 0)) (4, (p0 : Int)) rfl rfl (fun _ => rfl) rfl rfl (?_ : wp K_X7_group d Q 54 [some (4, (p0 : Int)), some (0, x1), some (4, (q10 : Int))] [(4, (p0 : Int))] _ _ _)
          refine wp_p (i := (.bipush (-5))) rfl rfl (fun _ _ _ => rfl) (?_ : wp K_X7_group d Q 56 [some (4, (p0 : Int)), some (0, x1), some (4, (q10 : Int))] [(0, (-5)), (4, (p0 : Int))] _ _ _)
          obtain ⟨s33, w⟩ := w
          refine wp_virt (as := [(0, (-5))]) (a := p0) (st := []) _ rfl rfl rfl rfl rfl rfl s33 (Nat.le_of_ble_eq_true rfl) (cwv_kI w (fun v32 V31 w => ?_))
          show wp K_X7_group d Q 59 [some (4, (p0 : Int)), some (0, x1), some (4, (q10 : Int))] [(0, v32)] _ _ _
          exact wp_gI rfl rfl rfl w
      · have q : v6 = 0 := Decidable.not_not.mp q
        replace w := w.2 q
        show wp K_X7_group d Q 25 [some (4, (p0 : Int)), some (0, x1)] [] _ _ _
        refine wp_ld (i := (.aload_n 0)) (4, (p0 : Int)) rfl rfl (fun _ => rfl) rfl rfl (?_ : wp K_X7_group d Q 26 [some (4, (p0 : Int)), some (0, x1)] [(4, (p0 : Int))] _ _ _)
        refine wp_p (i := (.bipush (-6))) rfl rfl (fun _ _ _ => rfl) (?_ : wp K_X7_group d Q 28 [some (4, (p0 : Int)), some (0, x1)] [(0, (-6)), (4, (p0 : Int))] _ _ _)
        obtain ⟨s36, w⟩ := w
        refine wp_virt (as := [(0, (-6))]) (a := p0) (st := []) _ rfl rfl rfl rfl rfl rfl s36 (Nat.le_of_ble_eq_true rfl) (cwv_kI w (fun v35 V34 w => ?_))
        show wp K_X7_group d Q 31 [some (4, (p0 : Int)), some (0, x1)] [(0, v35)] _ _ _
        exact wp_gI rfl rfl rfl w
    · have q : 8 < x1 := Decidable.not_not.mp q
      replace w := w.2 q
      show wp K_X7_group d Q 11 [some (4, (p0 : Int)), some (0, x1)] [] _ _ _
      refine wp_ld (i := (.aload_n 0)) (4, (p0 : Int)) rfl rfl (fun _ => rfl) rfl rfl (?_ : wp K_X7_group d Q 12 [some (4, (p0 : Int)), some (0, x1)] [(4, (p0 : Int))] _ _ _)
      refine wp_p (i := (.iconst (-1))) rfl rfl (fun _ _ _ => rfl) (?_ : wp K_X7_group d Q 13 [some (4, (p0 : Int)), some (0, x1)] [(0, (-1)), (4, (p0 : Int))] _ _ _)
      obtain ⟨s39, w⟩ := w
      refine wp_virt (as := [(0, (-1))]) (a := p0) (st := []) _ rfl rfl rfl rfl rfl rfl s39 (Nat.le_of_ble_eq_true rfl) (cwv_kI w (fun v38 V37 w => ?_))
      show wp K_X7_group d Q 16 [some (4, (p0 : Int)), some (0, x1)] [(0, v38)] _ _ _
      exact wp_gI rfl rfl rfl w

theorem t_X7_image_0 {d : Nat} {Q : gQ} {p0 : Nat} {x1 : Int} {G : List gS} {R V : gV} (w : ((i32 x1) ∧ (((x1 < 0) → ((G[p0]? = some (gO 7)) ∧ cwv d (fun r V2 => ∃ v3 : Int, r = some (0, v3) ∧ Q (some (0, v3)) G R V2) 138 [(4, (p0 : Int)), (0, (-1))] G R V)) ∧ ((¬ x1 < 0) → (((x1 < 3) → ((G[p0]? = some (gO 7)) ∧ (∃ b6 : Nat, (R p0 5 = (b6 : Int)) ∧ (∃ n7_ : Nat, (G[b6]? = some (gA 5 n7_)) ∧ (((0 : Int) ≤ x1 ∧ x1 < (n7_ : Int)) ∧ (((¬ R b6 x1 < 0) → (∃ b9 : Nat, (R b6 x1 = (b9 : Int)) ∧ (∃ b10 : Nat, (R p0 6 = (b10 : Int)) ∧ ((G[b9]? = some (gO 1)) ∧ cw d (fun r G11 R11 V11 => r = none ∧ ((G11[p0]? = some (gO 7)) ∧ cwv d (fun r V13 => ∃ v14 : Int, r = some (0, v14) ∧ Q (some (0, v14)) G11 R11 V13) 139 [(4, (p0 : Int)), (0, 0)] G11 R11 V11)) 18 [(4, (b9 : Int)), (4, (b10 : Int))] G R V)))) ∧ ((R b6 x1 < 0) → (((G ++ [gO 1])[p0]? = some (gO 7)) ∧ (∃ b17 : Nat, (R p0 6 = (b17 : Int)) ∧ (((G ++ [gO 1])[b17]? = some (gO 1)) ∧ (∃ b19 : Nat, (R b17 0 = (b19 : Int)) ∧ cw d (fun r G20 R20 V20 => r = none ∧ (∃ n21_ : Nat, (G20[b6]? = some (gA 5 n21_)) ∧ (((0 : Int) ≤ x1 ∧ x1 < (n21_ : Int)) ∧ ((G20[G.length]? = some (gO 1)) ∧ ((G20[p0]? = some (gO 7)) ∧ (∃ b25 : Nat, ((wr R20 b6 x1 ((G.length : Nat) : Int)) p0 5 = (b25 : Int)) ∧ (∃ n26_ : Nat, (G20[b25]? = some (gA 5 n26_)) ∧ (((0 : Int) ≤ x1 ∧ x1 < (n26_ : Int)) ∧ (∃ b28 : Nat, ((wr R20 b6 x1 ((G.length : Nat) : Int)) b25 x1 = (b28 : Int)) ∧ (∃ b29 : Nat, ((wr R20 b6 x1 ((G.length : Nat) : Int)) p0 6 = (b29 : Int)) ∧ ((G20[b28]? = some (gO 1)) ∧ cw d (fun r G30 R30 V30 => r = none ∧ ((G30[p0]? = some (gO 7)) ∧ cwv d (fun r V32 => ∃ v33 : Int, r = some (0, v33) ∧ Q (some (0, v33)) G30 R30 V32) 139 [(4, (p0 : Int)), (0, 0)] G30 R30 V30)) 18 [(4, (b28 : Int)), (4, (b29 : Int))] G20 (wr R20 b6 x1 ((G.length : Nat) : Int)) V20))))))))))) 16 [(4, ((G.length : Nat) : Int)), (4, (b19 : Int))] (G ++ [gO 1]) R V))))))))))) ∧ ((¬ x1 < 3) → ((G[p0]? = some (gO 7)) ∧ cwv d (fun r V35 => ∃ v36 : Int, r = some (0, v36) ∧ Q (some (0, v36)) G R V35) 138 [(4, (p0 : Int)), (0, (-1))] G R V))))))) : wp K_X7_image d Q 0 [some (4, (p0 : Int)), some (0, x1)] [] G R V := by
  refine wp_ld (i := (.iload_n 1)) (0, x1) rfl rfl (fun _ => rfl) rfl rfl (?_ : wp K_X7_image d Q 1 [some (4, (p0 : Int)), some (0, x1)] [(0, x1)] _ _ _)
  obtain ⟨s1, w⟩ := w
  refine wp_if (c := .lt) 9 rfl rfl rfl s1 (fun q => ?_) (fun q => ?_)
  · have q : x1 < 0 := q
    replace w := w.1 q
    show wp K_X7_image d Q 9 [some (4, (p0 : Int)), some (0, x1)] [] _ _ _
    refine wp_ld (i := (.aload_n 0)) (4, (p0 : Int)) rfl rfl (fun _ => rfl) rfl rfl (?_ : wp K_X7_image d Q 10 [some (4, (p0 : Int)), some (0, x1)] [(4, (p0 : Int))] _ _ _)
    refine wp_p (i := (.iconst (-1))) rfl rfl (fun _ _ _ => rfl) (?_ : wp K_X7_image d Q 11 [some (4, (p0 : Int)), some (0, x1)] [(0, (-1)), (4, (p0 : Int))] _ _ _)
    obtain ⟨s4, w⟩ := w
    refine wp_virt (as := [(0, (-1))]) (a := p0) (st := []) _ rfl rfl rfl rfl rfl rfl s4 (Nat.le_of_ble_eq_true rfl) (cwv_kI w (fun v3 V2 w => ?_))
    show wp K_X7_image d Q 14 [some (4, (p0 : Int)), some (0, x1)] [(0, v3)] _ _ _
    exact wp_gI rfl rfl rfl w
  · have q : ¬ x1 < 0 := q
    replace w := w.2 q
    show wp K_X7_image d Q 4 [some (4, (p0 : Int)), some (0, x1)] [] _ _ _
    refine wp_ld (i := (.iload_n 1)) (0, x1) rfl rfl (fun _ => rfl) rfl rfl (?_ : wp K_X7_image d Q 5 [some (4, (p0 : Int)), some (0, x1)] [(0, x1)] _ _ _)
    refine wp_p (i := (.iconst 3)) rfl rfl (fun _ _ _ => rfl) (?_ : wp K_X7_image d Q 6 [some (4, (p0 : Int)), some (0, x1)] [(0, 3), (0, x1)] _ _ _)
    refine wp_icmp (c := .lt) 15 rfl rfl rfl s1 ⟨by omega, by omega⟩ (fun q => ?_) (fun q => ?_)
    · have q : x1 < 3 := q
      replace w := w.1 q
      show wp K_X7_image d Q 15 [some (4, (p0 : Int)), some (0, x1)] [] _ _ _
      refine wp_ld (i := (.aload_n 0)) (4, (p0 : Int)) rfl rfl (fun _ => rfl) rfl rfl (?_ : wp K_X7_image d Q 16 [some (4, (p0 : Int)), some (0, x1)] [(4, (p0 : Int))] _ _ _)
      obtain ⟨s5, w⟩ := w
      obtain ⟨b6, r6, w⟩ := w
      refine wp_getA (k := 5) rfl rfl rfl s5 rfl rfl r6 (?_ : wp K_X7_image d Q 19 [some (4, (p0 : Int)), some (0, x1)] [(4, (b6 : Int))] _ _ _)
      refine wp_ld (i := (.iload_n 1)) (0, x1) rfl rfl (fun _ => rfl) rfl rfl (?_ : wp K_X7_image d Q 20 [some (4, (p0 : Int)), some (0, x1)] [(0, x1), (4, (b6 : Int))] _ _ _)
      obtain ⟨n7_, g7_, w⟩ := w
      obtain ⟨s8, w⟩ := w
      refine wp_aN rfl rfl g7_ rfl s8 (?_ : wp K_X7_image d Q 21 [some (4, (p0 : Int)), some (0, x1)] [(rf (R b6 x1))] _ _ _)
      refine wp_null (i := (.ifnonnull 23)) (b := false) 44 rfl rfl (fun _ => rfl) rfl (fun q => ?_) (fun q => ?_)
      · have q : ¬ R b6 x1 < 0 := by simpa using q
        replace w := w.1 q
        show wp K_X7_image d Q 44 [some (4, (p0 : Int)), some (0, x1)] [] _ _ _
        refine wp_ld (i := (.aload_n 0)) (4, (p0 : Int)) rfl rfl (fun _ => rfl) rfl rfl (?_ : wp K_X7_image d Q 45 [some (4, (p0 : Int)), some (0, x1)] [(4, (p0 : Int))] _ _ _)
        refine wp_getA (k := 5) rfl rfl rfl s5 rfl rfl r6 (?_ : wp K_X7_image d Q 48 [some (4, (p0 : Int)), some (0, x1)] [(4, (b6 : Int))] _ _ _)
        refine wp_ld (i := (.iload_n 1)) (0, x1) rfl rfl (fun _ => rfl) rfl rfl (?_ : wp K_X7_image d Q 49 [some (4, (p0 : Int)), some (0, x1)] [(0, x1), (4, (b6 : Int))] _ _ _)
        obtain ⟨b9, r9, w⟩ := w
        refine wp_aA rfl rfl g7_ rfl s8 r9 (?_ : wp K_X7_image d Q 50 [some (4, (p0 : Int)), some (0, x1)] [(4, (b9 : Int))] _ _ _)
        refine wp_ld (i := (.aload_n 0)) (4, (p0 : Int)) rfl rfl (fun _ => rfl) rfl rfl (?_ : wp K_X7_image d Q 51 [some (4, (p0 : Int)), some (0, x1)] [(4, (p0 : Int)), (4, (b9 : Int))] _ _ _)
        obtain ⟨b10, r10, w⟩ := w
        refine wp_getA (k := 6) rfl rfl rfl s5 rfl rfl r10 (?_ : wp K_X7_image d Q 54 [some (4, (p0 : Int)), some (0, x1)] [(4, (b10 : Int)), (4, (b9 : Int))] _ _ _)
        obtain ⟨s12, w⟩ := w
        refine wp_virt (as := [(4, (b10 : Int))]) (a := b9) (st := []) _ rfl rfl rfl rfl rfl rfl s12 (Nat.le_of_ble_eq_true rfl) (cw_k0 w (fun G11 R11 V11 w => ?_))
        show wp K_X7_image d Q 57 [some (4, (p0 : Int)), some (0, x1)] [] _ _ _
        refine wp_ld (i := (.aload_n 0)) (4, (p0 : Int)) rfl rfl (fun _ => rfl) rfl rfl (?_ : wp K_X7_image d Q 58 [some (4, (p0 : Int)), some (0, x1)] [(4, (p0 : Int))] _ _ _)
        refine wp_p (i := (.iconst 0)) rfl rfl (fun _ _ _ => rfl) (?_ : wp K_X7_image d Q 59 [some (4, (p0 : Int)), some (0, x1)] [(0, 0), (4, (p0 : Int))] _ _ _)
        obtain ⟨s15, w⟩ := w
        refine wp_virt (as := [(0, 0)]) (a := p0) (st := []) _ rfl rfl rfl rfl rfl rfl s15 (Nat.le_of_ble_eq_true rfl) (cwv_kI w (fun v14 V13 w => ?_))
        show wp K_X7_image d Q 62 [some (4, (p0 : Int)), some (0, x1)] [(0, v14)] _ _ _
        exact wp_gI rfl rfl rfl w
      · have q : R b6 x1 < 0 := by simpa using q
        replace w := w.2 q
        show wp K_X7_image d Q 24 [some (4, (p0 : Int)), some (0, x1)] [] _ _ _
        refine wp_ld (i := (.aload_n 0)) (4, (p0 : Int)) rfl rfl (fun _ => rfl) rfl rfl (?_ : wp K_X7_image d Q 25 [some (4, (p0 : Int)), some (0, x1)] [(4, (p0 : Int))] _ _ _)
        refine wp_getA (k := 5) rfl rfl rfl s5 rfl rfl r6 (?_ : wp K_X7_image d Q 28 [some (4, (p0 : Int)), some (0, x1)] [(4, (b6 : Int))] _ _ _)
        refine wp_ld (i := (.iload_n 1)) (0, x1) rfl rfl (fun _ => rfl) rfl rfl (?_ : wp K_X7_image d Q 29 [some (4, (p0 : Int)), some (0, x1)] [(0, x1), (4, (b6 : Int))] _ _ _)
        refine wp_new (ci := 1) rfl rfl rfl ?_
        show wp K_X7_image d Q 32 [some (4, (p0 : Int)), some (0, x1)] [(4, ((G.length : Nat) : Int)), (0, x1), (4, (b6 : Int))] _ _ _
        refine wp_p (i := .dup) rfl rfl (fun _ _ _ => rfl) (?_ : wp K_X7_image d Q 33 [some (4, (p0 : Int)), some (0, x1)] [(4, ((G.length : Nat) : Int)), (4, ((G.length : Nat) : Int)), (0, x1), (4, (b6 : Int))] _ _ _)
        refine wp_ld (i := (.aload_n 0)) (4, (p0 : Int)) rfl rfl (fun _ => rfl) rfl rfl (?_ : wp K_X7_image d Q 34 [some (4, (p0 : Int)), some (0, x1)] [(4, (p0 : Int)), (4, ((G.length : Nat) : Int)), (4, ((G.length : Nat) : Int)), (0, x1), (4, (b6 : Int))] _ _ _)
        obtain ⟨s16, w⟩ := w
        obtain ⟨b17, r17, w⟩ := w
        refine wp_getA (k := 6) rfl rfl rfl s16 rfl rfl r17 (?_ : wp K_X7_image d Q 37 [some (4, (p0 : Int)), some (0, x1)] [(4, (b17 : Int)), (4, ((G.length : Nat) : Int)), (4, ((G.length : Nat) : Int)), (0, x1), (4, (b6 : Int))] _ _ _)
        obtain ⟨s18, w⟩ := w
        obtain ⟨b19, r19, w⟩ := w
        refine wp_getA (k := 0) rfl rfl rfl s18 rfl rfl r19 (?_ : wp K_X7_image d Q 40 [some (4, (p0 : Int)), some (0, x1)] [(4, (b19 : Int)), (4, ((G.length : Nat) : Int)), (4, ((G.length : Nat) : Int)), (0, x1), (4, (b6 : Int))] _ _ _)
        refine wp_spec (as := [(4, (b19 : Int))]) (a := G.length) (st := [(4, ((G.length : Nat) : Int)), (0, x1), (4, (b6 : Int))]) _ rfl rfl rfl (by omega) rfl rfl (Nat.le_of_ble_eq_true rfl) (cw_k0 w (fun G20 R20 V20 w => ?_))
        show wp K_X7_image d Q 43 [some (4, (p0 : Int)), some (0, x1)] [(4, ((G.length : Nat) : Int)), (0, x1), (4, (b6 : Int))] _ _ _
        obtain ⟨n21_, g21_, w⟩ := w
        obtain ⟨s22, w⟩ := w
        obtain ⟨s23, w⟩ := w
        refine wp_astR rfl rfl g21_ s23 (by omega) rfl s22.1 s22.2 (?_ : wp K_X7_image d Q 44 [some (4, (p0 : Int)), some (0, x1)] [] _ _ _)
        refine wp_ld (i := (.aload_n 0)) (4, (p0 : Int)) rfl rfl (fun _ => rfl) rfl rfl (?_ : wp K_X7_image d Q 45 [some (4, (p0 : Int)), some (0, x1)] [(4, (p0 : Int))] _ _ _)
        obtain ⟨s24, w⟩ := w
        obtain ⟨b25, r25, w⟩ := w
        refine wp_getA (k := 5) rfl rfl rfl s24 rfl rfl r25 (?_ : wp K_X7_image d Q 48 [some (4, (p0 : Int)), some (0, x1)] [(4, (b25 : Int))] _ _ _)
        refine wp_ld (i := (.iload_n 1)) (0, x1) rfl rfl (fun _ => rfl) rfl rfl (?_ : wp K_X7_image d Q 49 [some (4, (p0 : Int)), some (0, x1)] [(0, x1), (4, (b25 : Int))] _ _ _)
        obtain ⟨n26_, g26_, w⟩ := w
        obtain ⟨s27, w⟩ := w
        obtain ⟨b28, r28, w⟩ := w
        refine wp_aA rfl rfl g26_ rfl s27 r28 (?_ : wp K_X7_image d Q 50 [some (4, (p0 : Int)), some (0, x1)] [(4, (b28 : Int))] _ _ _)
        refine wp_ld (i := (.aload_n 0)) (4, (p0 : Int)) rfl rfl (fun _ => rfl) rfl rfl (?_ : wp K_X7_image d Q 51 [some (4, (p0 : Int)), some (0, x1)] [(4, (p0 : Int)), (4, (b28 : Int))] _ _ _)
        obtain ⟨b29, r29, w⟩ := w
        refine wp_getA (k := 6) rfl rfl rfl s24 rfl rfl r29 (?_ : wp K_X7_image d Q 54 [some (4, (p0 : Int)), some (0, x1)] [(4, (b29 : Int)), (4, (b28 : Int))] _ _ _)
        obtain ⟨s31, w⟩ := w
        refine wp_virt (as := [(4, (b29 : Int))]) (a := b28) (st := []) _ rfl rfl rfl rfl rfl rfl s31 (Nat.le_of_ble_eq_true rfl) (cw_k0 w (fun G30 R30 V30 w => ?_))
        show wp K_X7_image d Q 57 [some (4, (p0 : Int)), some (0, x1)] [] _ _ _
        refine wp_ld (i := (.aload_n 0)) (4, (p0 : Int)) rfl rfl (fun _ => rfl) rfl rfl (?_ : wp K_X7_image d Q 58 [some (4, (p0 : Int)), some (0, x1)] [(4, (p0 : Int))] _ _ _)
        refine wp_p (i := (.iconst 0)) rfl rfl (fun _ _ _ => rfl) (?_ : wp K_X7_image d Q 59 [some (4, (p0 : Int)), some (0, x1)] [(0, 0), (4, (p0 : Int))] _ _ _)
        obtain ⟨s34, w⟩ := w
        refine wp_virt (as := [(0, 0)]) (a := p0) (st := []) _ rfl rfl rfl rfl rfl rfl s34 (Nat.le_of_ble_eq_true rfl) (cwv_kI w (fun v33 V32 w => ?_))
        show wp K_X7_image d Q 62 [some (4, (p0 : Int)), some (0, x1)] [(0, v33)] _ _ _
        exact wp_gI rfl rfl rfl w
    · have q : ¬ x1 < 3 := q
      replace w := w.2 q
      show wp K_X7_image d Q 9 [some (4, (p0 : Int)), some (0, x1)] [] _ _ _
      refine wp_ld (i := (.aload_n 0)) (4, (p0 : Int)) rfl rfl (fun _ => rfl) rfl rfl (?_ : wp K_X7_image d Q 10 [some (4, (p0 : Int)), some (0, x1)] [(4, (p0 : Int))] _ _ _)
      refine wp_p (i := (.iconst (-1))) rfl rfl (fun _ _ _ => rfl) (?_ : wp K_X7_image d Q 11 [some (4, (p0 : Int)), some (0, x1)] [(0, (-1)), (4, (p0 : Int))] _ _ _)
      obtain ⟨s37, w⟩ := w
      refine wp_virt (as := [(0, (-1))]) (a := p0) (st := []) _ rfl rfl rfl rfl rfl rfl s37 (Nat.le_of_ble_eq_true rfl) (cwv_kI w (fun v36 V35 w => ?_))
      show wp K_X7_image d Q 14 [some (4, (p0 : Int)), some (0, x1)] [(0, v36)] _ _ _
      exact wp_gI rfl rfl rfl w

theorem t_X7_back_0 {d : Nat} {Q : gQ} {p0 : Nat} {x1 : Int} {G : List gS} {R V : gV} (w : ((i32 x1) ∧ (((x1 < 0) → ((G[p0]? = some (gO 7)) ∧ cwv d (fun r V2 => ∃ v3 : Int, r = some (0, v3) ∧ Q (some (0, v3)) G R V2) 138 [(4, (p0 : Int)), (0, (-1))] G R V)) ∧ ((¬ x1 < 0) → (((x1 < 3) → ((G[p0]? = some (gO 7)) ∧ (∃ b6 : Nat, (R p0 5 = (b6 : Int)) ∧ (∃ n7_ : Nat, (G[b6]? = some (gA 5 n7_)) ∧ (((0 : Int) ≤ x1 ∧ x1 < (n7_ : Int)) ∧ (((¬ R b6 x1 < 0) → (∃ b9 : Nat, (R p0 6 = (b9 : Int)) ∧ (∃ b10 : Nat, (R b6 x1 = (b10 : Int)) ∧ ((G[b9]? = some (gO 1)) ∧ cw d (fun r G11 R11 V11 => r = none ∧ ((G11[p0]? = some (gO 7)) ∧ cwv d (fun r V13 => ∃ v14 : Int, r = some (0, v14) ∧ Q (some (0, v14)) G11 R11 V13) 139 [(4, (p0 : Int)), (0, 0)] G11 R11 V11)) 18 [(4, (b9 : Int)), (4, (b10 : Int))] G R V)))) ∧ ((R b6 x1 < 0) → cwv d (fun r V16 => ∃ v17 : Int, r = some (0, v17) ∧ Q (some (0, v17)) G R V16) 138 [(4, (p0 : Int)), (0, (-2))] G R V))))))) ∧ ((¬ x1 < 3) → ((G[p0]? = some (gO 7)) ∧ cwv d (fun r V18 => ∃ v19 : Int, r = some (0, v19) ∧ Q (some (0, v19)) G R V18) 138 [(4, (p0 : Int)), (0, (-1))] G R V))))))) : wp K_X7_back d Q 0 [some (4, (p0 : Int)), some (0, x1)] [] G R V := by
  refine wp_ld (i := (.iload_n 1)) (0, x1) rfl rfl (fun _ => rfl) rfl rfl (?_ : wp K_X7_back d Q 1 [some (4, (p0 : Int)), some (0, x1)] [(0, x1)] _ _ _)
  obtain ⟨s1, w⟩ := w
  refine wp_if (c := .lt) 9 rfl rfl rfl s1 (fun q => ?_) (fun q => ?_)
  · have q : x1 < 0 := q
    replace w := w.1 q
    show wp K_X7_back d Q 9 [some (4, (p0 : Int)), some (0, x1)] [] _ _ _
    refine wp_ld (i := (.aload_n 0)) (4, (p0 : Int)) rfl rfl (fun _ => rfl) rfl rfl (?_ : wp K_X7_back d Q 10 [some (4, (p0 : Int)), some (0, x1)] [(4, (p0 : Int))] _ _ _)
    refine wp_p (i := (.iconst (-1))) rfl rfl (fun _ _ _ => rfl) (?_ : wp K_X7_back d Q 11 [some (4, (p0 : Int)), some (0, x1)] [(0, (-1)), (4, (p0 : Int))] _ _ _)
    obtain ⟨s4, w⟩ := w
    refine wp_virt (as := [(0, (-1))]) (a := p0) (st := []) _ rfl rfl rfl rfl rfl rfl s4 (Nat.le_of_ble_eq_true rfl) (cwv_kI w (fun v3 V2 w => ?_))
    show wp K_X7_back d Q 14 [some (4, (p0 : Int)), some (0, x1)] [(0, v3)] _ _ _
    exact wp_gI rfl rfl rfl w
  · have q : ¬ x1 < 0 := q
    replace w := w.2 q
    show wp K_X7_back d Q 4 [some (4, (p0 : Int)), some (0, x1)] [] _ _ _
    refine wp_ld (i := (.iload_n 1)) (0, x1) rfl rfl (fun _ => rfl) rfl rfl (?_ : wp K_X7_back d Q 5 [some (4, (p0 : Int)), some (0, x1)] [(0, x1)] _ _ _)
    refine wp_p (i := (.iconst 3)) rfl rfl (fun _ _ _ => rfl) (?_ : wp K_X7_back d Q 6 [some (4, (p0 : Int)), some (0, x1)] [(0, 3), (0, x1)] _ _ _)
    refine wp_icmp (c := .lt) 15 rfl rfl rfl s1 ⟨by omega, by omega⟩ (fun q => ?_) (fun q => ?_)
    · have q : x1 < 3 := q
      replace w := w.1 q
      show wp K_X7_back d Q 15 [some (4, (p0 : Int)), some (0, x1)] [] _ _ _
      refine wp_ld (i := (.aload_n 0)) (4, (p0 : Int)) rfl rfl (fun _ => rfl) rfl rfl (?_ : wp K_X7_back d Q 16 [some (4, (p0 : Int)), some (0, x1)] [(4, (p0 : Int))] _ _ _)
      obtain ⟨s5, w⟩ := w
      obtain ⟨b6, r6, w⟩ := w
      refine wp_getA (k := 5) rfl rfl rfl s5 rfl rfl r6 (?_ : wp K_X7_back d Q 19 [some (4, (p0 : Int)), some (0, x1)] [(4, (b6 : Int))] _ _ _)
      refine wp_ld (i := (.iload_n 1)) (0, x1) rfl rfl (fun _ => rfl) rfl rfl (?_ : wp K_X7_back d Q 20 [some (4, (p0 : Int)), some (0, x1)] [(0, x1), (4, (b6 : Int))] _ _ _)
      obtain ⟨n7_, g7_, w⟩ := w
      obtain ⟨s8, w⟩ := w
      refine wp_aN rfl rfl g7_ rfl s8 (?_ : wp K_X7_back d Q 21 [some (4, (p0 : Int)), some (0, x1)] [(rf (R b6 x1))] _ _ _)
      refine wp_null (i := (.ifnonnull 10)) (b := false) 31 rfl rfl (fun _ => rfl) rfl (fun q => ?_) (fun q => ?_)
      · have q : ¬ R b6 x1 < 0 := by simpa using q
        replace w := w.1 q
        show wp K_X7_back d Q 31 [some (4, (p0 : Int)), some (0, x1)] [] _ _ _
        refine wp_ld (i := (.aload_n 0)) (4, (p0 : Int)) rfl rfl (fun _ => rfl) rfl rfl (?_ : wp K_X7_back d Q 32 [some (4, (p0 : Int)), some (0, x1)] [(4, (p0 : Int))] _ _ _)
        obtain ⟨b9, r9, w⟩ := w
        refine wp_getA (k := 6) rfl rfl rfl s5 rfl rfl r9 (?_ : wp K_X7_back d Q 35 [some (4, (p0 : Int)), some (0, x1)] [(4, (b9 : Int))] _ _ _)
        refine wp_ld (i := (.aload_n 0)) (4, (p0 : Int)) rfl rfl (fun _ => rfl) rfl rfl (?_ : wp K_X7_back d Q 36 [some (4, (p0 : Int)), some (0, x1)] [(4, (p0 : Int)), (4, (b9 : Int))] _ _ _)
        refine wp_getA (k := 5) rfl rfl rfl s5 rfl rfl r6 (?_ : wp K_X7_back d Q 39 [some (4, (p0 : Int)), some (0, x1)] [(4, (b6 : Int)), (4, (b9 : Int))] _ _ _)
        refine wp_ld (i := (.iload_n 1)) (0, x1) rfl rfl (fun _ => rfl) rfl rfl (?_ : wp K_X7_back d Q 40 [some (4, (p0 : Int)), some (0, x1)] [(0, x1), (4, (b6 : Int)), (4, (b9 : Int))] _ _ _)
        obtain ⟨b10, r10, w⟩ := w
        refine wp_aA rfl rfl g7_ rfl s8 r10 (?_ : wp K_X7_back d Q 41 [some (4, (p0 : Int)), some (0, x1)] [(4, (b10 : Int)), (4, (b9 : Int))] _ _ _)
        obtain ⟨s12, w⟩ := w
        refine wp_virt (as := [(4, (b10 : Int))]) (a := b9) (st := []) _ rfl rfl rfl rfl rfl rfl s12 (Nat.le_of_ble_eq_true rfl) (cw_k0 w (fun G11 R11 V11 w => ?_))
        show wp K_X7_back d Q 44 [some (4, (p0 : Int)), some (0, x1)] [] _ _ _
        refine wp_ld (i := (.aload_n 0)) (4, (p0 : Int)) rfl rfl (fun _ => rfl) rfl rfl (?_ : wp K_X7_back d Q 45 [some (4, (p0 : Int)), some (0, x1)] [(4, (p0 : Int))] _ _ _)
        refine wp_p (i := (.iconst 0)) rfl rfl (fun _ _ _ => rfl) (?_ : wp K_X7_back d Q 46 [some (4, (p0 : Int)), some (0, x1)] [(0, 0), (4, (p0 : Int))] _ _ _)
        obtain ⟨s15, w⟩ := w
        refine wp_virt (as := [(0, 0)]) (a := p0) (st := []) _ rfl rfl rfl rfl rfl rfl s15 (Nat.le_of_ble_eq_true rfl) (cwv_kI w (fun v14 V13 w => ?_))
        show wp K_X7_back d Q 49 [some (4, (p0 : Int)), some (0, x1)] [(0, v14)] _ _ _
        exact wp_gI rfl rfl rfl w
      · have q : R b6 x1 < 0 := by simpa using q
        replace w := w.2 q
        show wp K_X7_back d Q 24 [some (4, (p0 : Int)), some (0, x1)] [] _ _ _
        refine wp_ld (i := (.aload_n 0)) (4, (p0 : Int)) rfl rfl (fun _ => rfl) rfl rfl (?_ : wp K_X7_back d Q 25 [some (4, (p0 : Int)), some (0, x1)] [(4, (p0 : Int))] _ _ _)
        refine wp_p (i := (.bipush (-2))) rfl rfl (fun _ _ _ => rfl) (?_ : wp K_X7_back d Q 27 [some (4, (p0 : Int)), some (0, x1)] [(0, (-2)), (4, (p0 : Int))] _ _ _)
        refine wp_virt (as := [(0, (-2))]) (a := p0) (st := []) _ rfl rfl rfl rfl rfl rfl s5 (Nat.le_of_ble_eq_true rfl) (cwv_kI w (fun v17 V16 w => ?_))
        show wp K_X7_back d Q 30 [some (4, (p0 : Int)), some (0, x1)] [(0, v17)] _ _ _
        exact wp_gI rfl rfl rfl w
    · have q : ¬ x1 < 3 := q
      replace w := w.2 q
      show wp K_X7_back d Q 9 [some (4, (p0 : Int)), some (0, x1)] [] _ _ _
      refine wp_ld (i := (.aload_n 0)) (4, (p0 : Int)) rfl rfl (fun _ => rfl) rfl rfl (?_ : wp K_X7_back d Q 10 [some (4, (p0 : Int)), some (0, x1)] [(4, (p0 : Int))] _ _ _)
      refine wp_p (i := (.iconst (-1))) rfl rfl (fun _ _ _ => rfl) (?_ : wp K_X7_back d Q 11 [some (4, (p0 : Int)), some (0, x1)] [(0, (-1)), (4, (p0 : Int))] _ _ _)
      obtain ⟨s20, w⟩ := w
      refine wp_virt (as := [(0, (-1))]) (a := p0) (st := []) _ rfl rfl rfl rfl rfl rfl s20 (Nat.le_of_ble_eq_true rfl) (cwv_kI w (fun v19 V18 w => ?_))
      show wp K_X7_back d Q 14 [some (4, (p0 : Int)), some (0, x1)] [(0, v19)] _ _ _
      exact wp_gI rfl rfl rfl w

theorem t_X7_unusedGroup_0 {d : Nat} {Q : gQ} {p0 : Nat} {G : List gS} {R V : gV} (w : wp K_X7_unusedGroup d Q 2 [some (4, (p0 : Int)), some (0, 0)] [] G R V) : wp K_X7_unusedGroup d Q 0 [some (4, (p0 : Int))] [] G R V := by
  refine wp_p (i := (.iconst 0)) rfl rfl (fun _ _ _ => rfl) (?_ : wp K_X7_unusedGroup d Q 1 [some (4, (p0 : Int))] [(0, 0)] _ _ _)
  refine wp_sto (i := (.istore_n 1)) _ rfl rfl (fun _ => rfl) rfl rfl rfl ?_
  refine wp_wk (L' := [some (4, (p0 : Int)), some (0, 0)]) (wk_s (wk_s wk_0)) ?_
  show wp K_X7_unusedGroup d Q 2 [some (4, (p0 : Int)), some (0, 0)] [] _ _ _
  exact wp_wk (wk_s (wk_s wk_0)) w

theorem t_X7_unusedGroup_2 {d : Nat} {Q : gQ} {p0 : Nat} {x1 : Int} {G : List gS} {R V : gV} (w : ((G[p0]? = some (gO 7)) ∧ (∃ b2 : Nat, (R p0 4 = (b2 : Int)) ∧ (∃ n3_ : Nat, (G[b2]? = some (gA 4 n3_)) ∧ ((i32 x1) ∧ (((¬ x1 < (n3_ : Int)) → cw d (fun r G7 R7 V7 => r = none ∧ Q (some (4, ((G.length : Nat) : Int))) G7 R7 V7) 31 [(4, ((G.length : Nat) : Int))] (G ++ [gO 2]) R V) ∧ ((x1 < (n3_ : Int)) → (((0 : Int) ≤ x1 ∧ x1 < (n3_ : Int)) ∧ (((¬ R b2 x1 < 0) → (∃ b9 : Nat, (R b2 x1 = (b9 : Int)) ∧ cwv d (fun r V10 => ∃ v11 : Int, r = some (0, v11) ∧ ((i32 v11) ∧ (((¬ v11 = 0) → ((i32 (x1 + 1)) ∧ wp K_X7_unusedGroup d Q 2 [some (4, (p0 : Int)), some (0, (x1 + 1))] [] G R V10)) ∧ ((v11 = 0) → Q (some (4, (b9 : Int))) G R V10)))) 146 [(4, (p0 : Int)), (4, (b9 : Int))] G R V)) ∧ ((R b2 x1 < 0) → cw d (fun r G14 R14 V14 => r = none ∧ (∃ n15_ : Nat, (G14[b2]? = some (gA 4 n15_)) ∧ (((0 : Int) ≤ x1 ∧ x1 < (n15_ : Int)) ∧ ((G14[G.length]? = some (gO 2)) ∧ ((G14[p0]? = some (gO 7)) ∧ (∃ b19 : Nat, ((wr R14 b2 x1 ((G.length : Nat) : Int)) p0 4 = (b19 : Int)) ∧ (∃ n20_ : Nat, (G14[b19]? = some (gA 4 n20_)) ∧ (((0 : Int) ≤ x1 ∧ x1 < (n20_ : Int)) ∧ (∃ b22 : Nat, ((wr R14 b2 x1 ((G.length : Nat) : Int)) b19 x1 = (b22 : Int)) ∧ cwv d (fun r V23 => ∃ v24 : Int, r = some (0, v24) ∧ ((i32 v24) ∧ (((¬ v24 = 0) → ((i32 (x1 + 1)) ∧ wp K_X7_unusedGroup d Q 2 [some (4, (p0 : Int)), some (0, (x1 + 1))] [] G14 (wr R14 b2 x1 ((G.length : Nat) : Int)) V23)) ∧ ((v24 = 0) → Q (some (4, (b22 : Int))) G14 (wr R14 b2 x1 ((G.length : Nat) : Int)) V23)))) 146 [(4, (p0 : Int)), (4, (b22 : Int))] G14 (wr R14 b2 x1 ((G.length : Nat) : Int)) V14))))))))) 31 [(4, ((G.length : Nat) : Int))] (G ++ [gO 2]) R V)))))))))) : wp K_X7_unusedGroup d Q 2 [some (4, (p0 : Int)), some (0, x1)] [] G R V := by
  refine wp_ld (i := (.iload_n 1)) (0, x1) rfl rfl (fun _ => rfl) rfl rfl (?_ : wp K_X7_unusedGroup d Q 3 [some (4, (p0 : Int)), some (0, x1)] [(0, x1)] _ _ _)
  refine wp_ld (i := (.aload_n 0)) (4, (p0 : Int)) rfl rfl (fun _ => rfl) rfl rfl (?_ : wp K_X7_unusedGroup d Q 4 [some (4, (p0 : Int)), some (0, x1)] [(4, (p0 : Int)), (0, x1)] _ _ _)
  obtain ⟨s1, w⟩ := w
  obtain ⟨b2, r2, w⟩ := w
  refine wp_getA (k := 4) rfl rfl rfl s1 rfl rfl r2 (?_ : wp K_X7_unusedGroup d Q 7 [some (4, (p0 : Int)), some (0, x1)] [(4, (b2 : Int)), (0, x1)] _ _ _)
  obtain ⟨n3_, g3_, w⟩ := w
  refine wp_rng (fun vr4 => ?_)
  have f5 : i32 (n3_ : Int) := by have := (vr4.2.2 _ _ _ g3_).1; unfold i32; omega
  refine wp_alen rfl rfl g3_ (?_ : wp K_X7_unusedGroup d Q 8 [some (4, (p0 : Int)), some (0, x1)] [(0, (n3_ : Int)), (0, x1)] _ _ _)
  obtain ⟨s6, w⟩ := w
  refine wp_icmp (c := .ge) 59 rfl rfl rfl s6 f5 (fun q => ?_) (fun q => ?_)
  · have q : ¬ x1 < (n3_ : Int) := q
    replace w := w.1 q
    show wp K_X7_unusedGroup d Q 59 [some (4, (p0 : Int)), some (0, x1)] [] _ _ _
    refine wp_new (ci := 2) rfl rfl rfl ?_
    show wp K_X7_unusedGroup d Q 62 [some (4, (p0 : Int)), some (0, x1)] [(4, ((G.length : Nat) : Int))] _ _ _
    refine wp_p (i := .dup) rfl rfl (fun _ _ _ => rfl) (?_ : wp K_X7_unusedGroup d Q 63 [some (4, (p0 : Int)), some (0, x1)] [(4, ((G.length : Nat) : Int)), (4, ((G.length : Nat) : Int))] _ _ _)
    refine wp_spec (as := []) (a := G.length) (st := [(4, ((G.length : Nat) : Int))]) _ rfl rfl rfl (by omega) rfl rfl (Nat.le_of_ble_eq_true rfl) (cw_k0 w (fun G7 R7 V7 w => ?_))
    show wp K_X7_unusedGroup d Q 66 [some (4, (p0 : Int)), some (0, x1)] [(4, ((G.length : Nat) : Int))] _ _ _
    exact wp_gA rfl rfl rfl w
  · have q : x1 < (n3_ : Int) := Decidable.not_not.mp q
    replace w := w.2 q
    show wp K_X7_unusedGroup d Q 11 [some (4, (p0 : Int)), some (0, x1)] [] _ _ _
    refine wp_ld (i := (.aload_n 0)) (4, (p0 : Int)) rfl rfl (fun _ => rfl) rfl rfl (?_ : wp K_X7_unusedGroup d Q 12 [some (4, (p0 : Int)), some (0, x1)] [(4, (p0 : Int))] _ _ _)
    refine wp_getA (k := 4) rfl rfl rfl s1 rfl rfl r2 (?_ : wp K_X7_unusedGroup d Q 15 [some (4, (p0 : Int)), some (0, x1)] [(4, (b2 : Int))] _ _ _)
    refine wp_ld (i := (.iload_n 1)) (0, x1) rfl rfl (fun _ => rfl) rfl rfl (?_ : wp K_X7_unusedGroup d Q 16 [some (4, (p0 : Int)), some (0, x1)] [(0, x1), (4, (b2 : Int))] _ _ _)
    obtain ⟨s8, w⟩ := w
    refine wp_aN rfl rfl g3_ rfl s8 (?_ : wp K_X7_unusedGroup d Q 17 [some (4, (p0 : Int)), some (0, x1)] [(rf (R b2 x1))] _ _ _)
    refine wp_null (i := (.ifnonnull 16)) (b := false) 33 rfl rfl (fun _ => rfl) rfl (fun q => ?_) (fun q => ?_)
    · have q : ¬ R b2 x1 < 0 := by simpa using q
      replace w := w.1 q
      show wp K_X7_unusedGroup d Q 33 [some (4, (p0 : Int)), some (0, x1)] [] _ _ _
      refine wp_ld (i := (.aload_n 0)) (4, (p0 : Int)) rfl rfl (fun _ => rfl) rfl rfl (?_ : wp K_X7_unusedGroup d Q 34 [some (4, (p0 : Int)), some (0, x1)] [(4, (p0 : Int))] _ _ _)
      refine wp_ld (i := (.aload_n 0)) (4, (p0 : Int)) rfl rfl (fun _ => rfl) rfl rfl (?_ : wp K_X7_unusedGroup d Q 35 [some (4, (p0 : Int)), some (0, x1)] [(4, (p0 : Int)), (4, (p0 : Int))] _ _ _)
      refine wp_getA (k := 4) rfl rfl rfl s1 rfl rfl r2 (?_ : wp K_X7_unusedGroup d Q 38 [some (4, (p0 : Int)), some (0, x1)] [(4, (b2 : Int)), (4, (p0 : Int))] _ _ _)
      refine wp_ld (i := (.iload_n 1)) (0, x1) rfl rfl (fun _ => rfl) rfl rfl (?_ : wp K_X7_unusedGroup d Q 39 [some (4, (p0 : Int)), some (0, x1)] [(0, x1), (4, (b2 : Int)), (4, (p0 : Int))] _ _ _)
      obtain ⟨b9, r9, w⟩ := w
      refine wp_aA rfl rfl g3_ rfl s8 r9 (?_ : wp K_X7_unusedGroup d Q 40 [some (4, (p0 : Int)), some (0, x1)] [(4, (b9 : Int)), (4, (p0 : Int))] _ _ _)
      refine wp_virt (as := [(4, (b9 : Int))]) (a := p0) (st := []) _ rfl rfl rfl rfl rfl rfl s1 (Nat.le_of_ble_eq_true rfl) (cwv_kI w (fun v11 V10 w => ?_))
      show wp K_X7_unusedGroup d Q 43 [some (4, (p0 : Int)), some (0, x1)] [(0, v11)] _ _ _
      obtain ⟨s12, w⟩ := w
      refine wp_if (c := .ne) 53 rfl rfl rfl s12 (fun q => ?_) (fun q => ?_)
      · have q : ¬ v11 = 0 := q
        replace w := w.1 q
        show wp K_X7_unusedGroup d Q 53 [some (4, (p0 : Int)), some (0, x1)] [] _ _ _
        obtain ⟨s13, w⟩ := w
        refine wp_inc (x := 1) (k := 1) (a := x1) (c := (x1 + 1)) _ rfl rfl rfl rfl s13 (by omega) rfl ?_
        show wp K_X7_unusedGroup d Q 56 [some (4, (p0 : Int)), some (0, (x1 + 1))] [] _ _ _
        refine wp_go 2 rfl rfl rfl (?_ : wp K_X7_unusedGroup d Q 2 [some (4, (p0 : Int)), some (0, (x1 + 1))] [] _ _ _)
        exact wp_wk (wk_s (wk_s wk_0)) w
      · have q : v11 = 0 := Decidable.not_not.mp q
        replace w := w.2 q
        show wp K_X7_unusedGroup d Q 46 [some (4, (p0 : Int)), some (0, x1)] [] _ _ _
        refine wp_ld (i := (.aload_n 0)) (4, (p0 : Int)) rfl rfl (fun _ => rfl) rfl rfl (?_ : wp K_X7_unusedGroup d Q 47 [some (4, (p0 : Int)), some (0, x1)] [(4, (p0 : Int))] _ _ _)
        refine wp_getA (k := 4) rfl rfl rfl s1 rfl rfl r2 (?_ : wp K_X7_unusedGroup d Q 50 [some (4, (p0 : Int)), some (0, x1)] [(4, (b2 : Int))] _ _ _)
        refine wp_ld (i := (.iload_n 1)) (0, x1) rfl rfl (fun _ => rfl) rfl rfl (?_ : wp K_X7_unusedGroup d Q 51 [some (4, (p0 : Int)), some (0, x1)] [(0, x1), (4, (b2 : Int))] _ _ _)
        refine wp_aA rfl rfl g3_ rfl s8 r9 (?_ : wp K_X7_unusedGroup d Q 52 [some (4, (p0 : Int)), some (0, x1)] [(4, (b9 : Int))] _ _ _)
        exact wp_gA rfl rfl rfl w
    · have q : R b2 x1 < 0 := by simpa using q
      replace w := w.2 q
      show wp K_X7_unusedGroup d Q 20 [some (4, (p0 : Int)), some (0, x1)] [] _ _ _
      refine wp_ld (i := (.aload_n 0)) (4, (p0 : Int)) rfl rfl (fun _ => rfl) rfl rfl (?_ : wp K_X7_unusedGroup d Q 21 [some (4, (p0 : Int)), some (0, x1)] [(4, (p0 : Int))] _ _ _)
      refine wp_getA (k := 4) rfl rfl rfl s1 rfl rfl r2 (?_ : wp K_X7_unusedGroup d Q 24 [some (4, (p0 : Int)), some (0, x1)] [(4, (b2 : Int))] _ _ _)
      refine wp_ld (i := (.iload_n 1)) (0, x1) rfl rfl (fun _ => rfl) rfl rfl (?_ : wp K_X7_unusedGroup d Q 25 [some (4, (p0 : Int)), some (0, x1)] [(0, x1), (4, (b2 : Int))] _ _ _)
      refine wp_new (ci := 2) rfl rfl rfl ?_
      show wp K_X7_unusedGroup d Q 28 [some (4, (p0 : Int)), some (0, x1)] [(4, ((G.length : Nat) : Int)), (0, x1), (4, (b2 : Int))] _ _ _
      refine wp_p (i := .dup) rfl rfl (fun _ _ _ => rfl) (?_ : wp K_X7_unusedGroup d Q 29 [some (4, (p0 : Int)), some (0, x1)] [(4, ((G.length : Nat) : Int)), (4, ((G.length : Nat) : Int)), (0, x1), (4, (b2 : Int))] _ _ _)
      refine wp_spec (as := []) (a := G.length) (st := [(4, ((G.length : Nat) : Int)), (0, x1), (4, (b2 : Int))]) _ rfl rfl rfl (by omega) rfl rfl (Nat.le_of_ble_eq_true rfl) (cw_k0 w (fun G14 R14 V14 w => ?_))
      show wp K_X7_unusedGroup d Q 32 [some (4, (p0 : Int)), some (0, x1)] [(4, ((G.length : Nat) : Int)), (0, x1), (4, (b2 : Int))] _ _ _
      obtain ⟨n15_, g15_, w⟩ := w
      obtain ⟨s16, w⟩ := w
      obtain ⟨s17, w⟩ := w
      refine wp_astR rfl rfl g15_ s17 (by omega) rfl s16.1 s16.2 (?_ : wp K_X7_unusedGroup d Q 33 [some (4, (p0 : Int)), some (0, x1)] [] _ _ _)
      refine wp_ld (i := (.aload_n 0)) (4, (p0 : Int)) rfl rfl (fun _ => rfl) rfl rfl (?_ : wp K_X7_unusedGroup d Q 34 [some (4, (p0 : Int)), some (0, x1)] [(4, (p0 : Int))] _ _ _)
      refine wp_ld (i := (.aload_n 0)) (4, (p0 : Int)) rfl rfl (fun _ => rfl) rfl rfl (?_ : wp K_X7_unusedGroup d Q 35 [some (4, (p0 : Int)), some (0, x1)] [(4, (p0 : Int)), (4, (p0 : Int))] _ _ _)
      obtain ⟨s18, w⟩ := w
      obtain ⟨b19, r19, w⟩ := w
      refine wp_getA (k := 4) rfl rfl rfl s18 rfl rfl r19 (?_ : wp K_X7_unusedGroup d Q 38 [some (4, (p0 : Int)), some (0, x1)] [(4, (b19 : Int)), (4, (p0 : Int))] _ _ _)
      refine wp_ld (i := (.iload_n 1)) (0, x1) rfl rfl (fun _ => rfl) rfl rfl (?_ : wp K_X7_unusedGroup d Q 39 [some (4, (p0 : Int)), some (0, x1)] [(0, x1), (4, (b19 : Int)), (4, (p0 : Int))] _ _ _)
      obtain ⟨n20_, g20_, w⟩ := w
      obtain ⟨s21, w⟩ := w
      obtain ⟨b22, r22, w⟩ := w
      refine wp_aA rfl rfl g20_ rfl s21 r22 (?_ : wp K_X7_unusedGroup d Q 40 [some (4, (p0 : Int)), some (0, x1)] [(4, (b22 : Int)), (4, (p0 : Int))] _ _ _)
      refine wp_virt (as := [(4, (b22 : Int))]) (a := p0) (st := []) _ rfl rfl rfl rfl rfl rfl s18 (Nat.le_of_ble_eq_true rfl) (cwv_kI w (fun v24 V23 w => ?_))
      show wp K_X7_unusedGroup d Q 43 [some (4, (p0 : Int)), some (0, x1)] [(0, v24)] _ _ _
      obtain ⟨s25, w⟩ := w
      refine wp_if (c := .ne) 53 rfl rfl rfl s25 (fun q => ?_) (fun q => ?_)
      · have q : ¬ v24 = 0 := q
        replace w := w.1 q
        show wp K_X7_unusedGroup d Q 53 [some (4, (p0 : Int)), some (0, x1)] [] _ _ _
        obtain ⟨s26, w⟩ := w
        refine wp_inc (x := 1) (k := 1) (a := x1) (c := (x1 + 1)) _ rfl rfl rfl rfl s26 (by omega) rfl ?_
        show wp K_X7_unusedGroup d Q 56 [some (4, (p0 : Int)), some (0, (x1 + 1))] [] _ _ _
        refine wp_go 2 rfl rfl rfl (?_ : wp K_X7_unusedGroup d Q 2 [some (4, (p0 : Int)), some (0, (x1 + 1))] [] _ _ _)
        exact wp_wk (wk_s (wk_s wk_0)) w
      · have q : v24 = 0 := Decidable.not_not.mp q
        replace w := w.2 q
        show wp K_X7_unusedGroup d Q 46 [some (4, (p0 : Int)), some (0, x1)] [] _ _ _
        refine wp_ld (i := (.aload_n 0)) (4, (p0 : Int)) rfl rfl (fun _ => rfl) rfl rfl (?_ : wp K_X7_unusedGroup d Q 47 [some (4, (p0 : Int)), some (0, x1)] [(4, (p0 : Int))] _ _ _)
        refine wp_getA (k := 4) rfl rfl rfl s18 rfl rfl r19 (?_ : wp K_X7_unusedGroup d Q 50 [some (4, (p0 : Int)), some (0, x1)] [(4, (b19 : Int))] _ _ _)
        refine wp_ld (i := (.iload_n 1)) (0, x1) rfl rfl (fun _ => rfl) rfl rfl (?_ : wp K_X7_unusedGroup d Q 51 [some (4, (p0 : Int)), some (0, x1)] [(0, x1), (4, (b19 : Int))] _ _ _)
        refine wp_aA rfl rfl g20_ rfl s21 r22 (?_ : wp K_X7_unusedGroup d Q 52 [some (4, (p0 : Int)), some (0, x1)] [(4, (b22 : Int))] _ _ _)
        exact wp_gA rfl rfl rfl w

theorem t_X7_roomFor_0 {d : Nat} {Q : gQ} {p0 : Nat} {x1 : Int} {G : List gS} {R V : gV} (w : (∃ n1_ : Nat, (G[p0]? = some (gA 0 n1_)) ∧ ((i32 x1) ∧ ((((n1_ : Int) < x1) → ((i32 (2 * (n1_ : Int))) ∧ ((0 ≤ (if x1 < (2 * (n1_ : Int)) then (2 * (n1_ : Int)) else x1) ∧ (if x1 < (2 * (n1_ : Int)) then (2 * (n1_ : Int)) else x1) ≤ 1000000) ∧ Q (some (4, ((G.length : Nat) : Int))) (G ++ [gA 0 (((if x1 < (2 * (n1_ : Int)) then (2 * (n1_ : Int)) else x1)).toNat)]) R V))) ∧ ((¬ (n1_ : Int) < x1) → Q (some (4, (p0 : Int))) G R V))))) : wp K_X7_roomFor d Q 0 [some (4, (p0 : Int)), some (0, x1)] [] G R V := by
  refine wp_ld (i := (.aload_n 0)) (4, (p0 : Int)) rfl rfl (fun _ => rfl) rfl rfl (?_ : wp K_X7_roomFor d Q 1 [some (4, (p0 : Int)), some (0, x1)] [(4, (p0 : Int))] _ _ _)
  obtain ⟨n1_, g1_, w⟩ := w
  refine wp_rng (fun vr2 => ?_)
  have f3 : i32 (n1_ : Int) := by have := (vr2.2.2 _ _ _ g1_).1; unfold i32; omega
  refine wp_alen rfl rfl g1_ (?_ : wp K_X7_roomFor d Q 2 [some (4, (p0 : Int)), some (0, x1)] [(0, (n1_ : Int))] _ _ _)
  refine wp_ld (i := (.iload_n 1)) (0, x1) rfl rfl (fun _ => rfl) rfl rfl (?_ : wp K_X7_roomFor d Q 3 [some (4, (p0 : Int)), some (0, x1)] [(0, x1), (0, (n1_ : Int))] _ _ _)
  obtain ⟨s4, w⟩ := w
  refine wp_icmp (c := .lt) 10 rfl rfl rfl f3 s4 (fun q => ?_) (fun q => ?_)
  · have q : (n1_ : Int) < x1 := q
    replace w := w.1 q
    show wp K_X7_roomFor d Q 10 [some (4, (p0 : Int)), some (0, x1)] [] _ _ _
    refine wp_ld (i := (.iload_n 1)) (0, x1) rfl rfl (fun _ => rfl) rfl rfl (?_ : wp K_X7_roomFor d Q 11 [some (4, (p0 : Int)), some (0, x1)] [(0, x1)] _ _ _)
    refine wp_p (i := (.iconst 2)) rfl rfl (fun _ _ _ => rfl) (?_ : wp K_X7_roomFor d Q 12 [some (4, (p0 : Int)), some (0, x1)] [(0, 2), (0, x1)] _ _ _)
    refine wp_ld (i := (.aload_n 0)) (4, (p0 : Int)) rfl rfl (fun _ => rfl) rfl rfl (?_ : wp K_X7_roomFor d Q 13 [some (4, (p0 : Int)), some (0, x1)] [(4, (p0 : Int)), (0, 2), (0, x1)] _ _ _)
    refine wp_alen rfl rfl g1_ (?_ : wp K_X7_roomFor d Q 14 [some (4, (p0 : Int)), some (0, x1)] [(0, (n1_ : Int)), (0, 2), (0, x1)] _ _ _)
    obtain ⟨s5, w⟩ := w
    refine wp_xmul rfl rfl s5 (?_ : wp K_X7_roomFor d Q 15 [some (4, (p0 : Int)), some (0, x1)] [(0, (2 * (n1_ : Int))), (0, x1)] _ _ _)
    have f6 : i32 (if x1 < (2 * (n1_ : Int)) then (2 * (n1_ : Int)) else x1) := by split <;> first | exact s5 | exact s4
    refine wp_max rfl rfl rfl (Nat.le_of_ble_eq_true rfl) s4 s5 rfl (?_ : wp K_X7_roomFor d Q 18 [some (4, (p0 : Int)), some (0, x1)] [(0, (if x1 < (2 * (n1_ : Int)) then (2 * (n1_ : Int)) else x1))] _ _ _)
    obtain ⟨s7, w⟩ := w
    refine wp_arr (ty := 0) (n := 2) (len := (if x1 < (2 * (n1_ : Int)) then (2 * (n1_ : Int)) else x1)) rfl rfl (fun _ _ _ => rfl) (by omega) s7.1 s7.2 ?_
    show wp K_X7_roomFor d Q 20 [some (4, (p0 : Int)), some (0, x1)] [(4, ((G.length : Nat) : Int))] _ _ _
    exact wp_gA rfl rfl rfl w
  · have q : ¬ (n1_ : Int) < x1 := q
    replace w := w.2 q
    show wp K_X7_roomFor d Q 6 [some (4, (p0 : Int)), some (0, x1)] [] _ _ _
    refine wp_ld (i := (.aload_n 0)) (4, (p0 : Int)) rfl rfl (fun _ => rfl) rfl rfl (?_ : wp K_X7_roomFor d Q 7 [some (4, (p0 : Int)), some (0, x1)] [(4, (p0 : Int))] _ _ _)
    refine wp_go 20 rfl rfl rfl (?_ : wp K_X7_roomFor d Q 20 [some (4, (p0 : Int)), some (0, x1)] [(4, (p0 : Int))] _ _ _)
    exact wp_gA rfl rfl rfl w
