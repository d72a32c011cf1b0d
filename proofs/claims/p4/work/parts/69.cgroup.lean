section
variable {G G' : List gS} {R R' V V' : gV} {T T' : gT} {ow ow' : Nat → Nat} {us us' : Nat → Prop} {w w' : Nat → Nat} {W : gV} {L I : Int → Int} {B M S N g b x A : Nat}
theorem five (h : cI G R V B M S T ow us w W L I) (u : ∀ j : Nat, j < 5 → ∃ b g : Nat, isB R B b ∧ R b 0 = (g : Int) ∧ R (B + 19) (j : Int) = (g : Int)) : False := by
  have U : ∀ j : Nat, j < 5 → ∃ c : Fin 4, R (B + 19) (j : Int) = (if c.val = 3 then R (B + 52) 0 else R (R (B + 20) (c.val : Int)).toNat 0) := by
    intro j hj
    obtain ⟨b, g, hb, e1, e2⟩ := u j hj
    rcases hb with hb | ⟨k, hk, e⟩
    · exact ⟨3, by rw [e2, ← e1, hb]; rfl⟩
    · refine ⟨⟨k, by omega⟩, ?_⟩
      dsimp only
      rw [if_neg (by omega), e, e2, ← e1]
      rfl
  have D : ∀ i j : Nat, i < 5 → j < 5 → i ≠ j → R (B + 19) (i : Int) ≠ R (B + 19) (j : Int) := by
    intro i j hi hj ne e
    obtain ⟨b, g, -, -, e1⟩ := u i hi
    exact ne (h.gd i j g hi hj e1 (e ▸ e1))
  obtain ⟨c0, e0⟩ := U 0 (by omega)
  obtain ⟨c1, e1⟩ := U 1 (by omega)
  obtain ⟨c2, e2⟩ := U 2 (by omega)
  obtain ⟨c3, e3⟩ := U 3 (by omega)
  obtain ⟨c4, e4⟩ := U 4 (by omega)
  rcases pig4 c0 c1 c2 c3 c4 with q | q | q | q | q | q | q | q | q | q <;> subst q
  · exact D 0 1 (by omega) (by omega) (by omega) (e0.trans e1.symm)
  · exact D 0 2 (by omega) (by omega) (by omega) (e0.trans e2.symm)
  · exact D 0 3 (by omega) (by omega) (by omega) (e0.trans e3.symm)
  · exact D 0 4 (by omega) (by omega) (by omega) (e0.trans e4.symm)
  · exact D 1 2 (by omega) (by omega) (by omega) (e1.trans e2.symm)
  · exact D 1 3 (by omega) (by omega) (by omega) (e1.trans e3.symm)
  · exact D 1 4 (by omega) (by omega) (by omega) (e1.trans e4.symm)
  · exact D 2 3 (by omega) (by omega) (by omega) (e2.trans e3.symm)
  · exact D 2 4 (by omega) (by omega) (by omega) (e2.trans e4.symm)
  · exact D 3 4 (by omega) (by omega) (by omega) (e3.trans e4.symm)
def ugP (B M S N : Nat) (W : gV) (L I : Int → Int) (q : Nat) (G : List gS) (R V : gV) : Prop := ∃ T ow us w, cI G R V B M S T ow us w W L I ∧ G.length ≤ N + 115 ∧ ∃ i : Nat, i < 5 ∧ R (B + 19) (i : Int) = (q : Int) ∧ ∀ b, isB R B b → R b 0 ≠ (q : Int)
theorem unusedGroup_k (h : CI G R V B M S N W L I) : cw 4 (fun r G' R' V' => ∃ q : Nat, r = some (4, (q : Int)) ∧ ugP B M S N W L I q G' R' V') 145 [(4, (B : Int))] G R V := by
  refine c_X7_unusedGroup (t_X7_unusedGroup_0 ?_)
  refine loopG (f := fun a => [some (4, (B : Int)), some (0, a)]) (Inv := fun a G R V => (0 ≤ a ∧ a ≤ 5) ∧ (∀ j : Nat, (j : Int) < a → ∃ b g : Nat, isB R B b ∧ R b 0 = (g : Int) ∧ R (B + 19) (j : Int) = (g : Int)) ∧ ∃ T ow us w, cI G R V B M S T ow us w W L I ∧ (G.length : Int) ≤ N + 23 * a) (μ := fun a => (5 - a).toNat) (fun a G R V hv ih => ?_) 0 G R V ?_
  · obtain ⟨⟨a0, a1⟩, hu, T, ow, us, w, c, hN⟩ := hv
    have l := c.c.ly
    refine wp_fr (fun _ fr => t_X7_unusedGroup_2 ⟨ly7_o l, B + 19, (ly7_4 l).1, 5, (ly7_4 l).2, by omega, fun z => ?_, fun z => ⟨by omega, fun z1 => ?_, fun z1 => ?_⟩⟩)
    · exact absurd (five c (fun j hj => hu j (by omega))) (fun f => f)
    · obtain ⟨i, ei, hi⟩ := nat_i (i := a) (n := 5) (by omega)
      rw [ei] at z1 ⊢
      rcases c.gr i hi with q | ⟨g, q, q1, q2⟩
      · omega
      · have lg : lay2 G R g := by
          obtain ⟨p, n, C, D, o, m, E, a, _⟩ := q2
          exact a.u.ly
        refine ⟨g, q, cwI_u (by omega) (isInUse_k c lg) (fun v V1 hv => ?_)⟩
        obtain ⟨v01, v0, v1, eV⟩ := hv
        rw [eV]
        refine ⟨bit32 v01, fun z2 => ⟨by omega, ih _ _ _ _ ⟨by omega, ?_, T, ow, us, w, c, by omega⟩ (by omega)⟩, fun z2 => ⟨g, rfl, T, ow, us, w, c, by omega, i, hi, q, v0 z2⟩⟩
        intro j hj
        by_cases e : (j : Int) = i
        · obtain ⟨b, hb, eb⟩ := v1 z2
          exact ⟨b, g, hb, eb, by rw [e]; exact q⟩
        · exact hu j (by omega)
    · obtain ⟨i, ei, hi⟩ := nat_i (i := a) (n := 5) (by omega)
      rw [ei] at z1 ⊢
      have en : R (B + 19) (i : Int) = -1 := by
        rcases c.gr i hi with q | ⟨g, q, q1, q2⟩
        · exact q.1
        · omega
      have lB := cC_lt c.c
      have hO : (G ++ [gO 2])[G.length]? = some (gO 2) := by rw [List.getElem?_append_right (Nat.le_refl _), Nat.sub_self]; rfl
      refine cw_mono (by omega) (groupInit_k hO (by rw [List.length_append]; rfl) c.th) (fun r G1 R1 V1 h1 => ?_)
      obtain ⟨e1, eG, hR, th1, hV, gt⟩ := h1
      have hG : gX2 G G1 := by rw [eG]; exact gX2_t gX2_app gX2_app
      have lG1 : G1.length = G.length + 23 := by rw [eG, List.length_append, List.length_append]; rfl
      obtain ⟨T2, ow2, us2, w2, c2⟩ := cI_newg c hi en rfl eG (fun cc j q => hR cc j q) th1 gt
      have hb2 : ∀ b, isB R B b → b < G.length ∧ b ≠ B + 19 := fun b hb => by
        have q := (cI_b c hb).1.1.ly
        refine ⟨ltG (ly1_o q), fun e => ?_⟩
        have q1 := ly1_o q
        rw [e, (ly7_4 l).2] at q1
        cases q1
      have rk : ∀ j : Int, wr R1 (B + 19) (i : Int) (G.length : Int) (B + 20) j = R (B + 20) j := fun j => by rw [wr_a (by omega), hR _ _ (by omega)]
      refine ⟨e1, 5, hG _ _ (ly7_4 l).2, by omega, ly2_o gt.ly, hG _ _ (ly7_o l), B + 19, ?_, 5, hG _ _ (ly7_4 l).2, by omega, G.length, wr_same _ _ _ _, ?_⟩
      · rw [wr_a (by omega), hR _ _ (by omega)]; exact (ly7_4 l).1
      · have gl := gt.ly
        have lg2 : lay2 G1 (wr R1 (B + 19) (i : Int) (G.length : Int)) G.length := (gT2_m gt gX2_refl (fun c j z1 z2 => wr_a (by omega)) (fun _ _ _ => rfl) rfl rfl).ly
        refine cwI_u (by omega) (isInUse_k c2 lg2) (fun v V2 hv => ?_)
        obtain ⟨v01, v0, v1, eV⟩ := hv
        rw [eV]
        refine ⟨bit32 v01, fun z2 => ⟨by omega, ih _ _ _ _ ⟨by omega, ?_, T2, ow2, us2, w2, c2, by omega⟩ (by omega)⟩, fun z2 => ⟨G.length, rfl, T2, ow2, us2, w2, c2, by omega, i, hi, wr_same _ _ _ _, v0 z2⟩⟩
        intro j hj
        by_cases e : (j : Int) = i
        · obtain ⟨b, hb, eb⟩ := v1 z2
          exact ⟨b, G.length, hb, eb, by rw [e]; exact wr_same _ _ _ _⟩
        · obtain ⟨b, g, hb, e2, e3⟩ := hu j (by omega)
          have bb := hb2 b hb
          refine ⟨b, g, ?_, by rw [wr_a bb.2, hR _ _ (by omega)]; exact e2, by rw [wr_i e, hR _ _ (by omega)]; exact e3⟩
          rcases hb with hb | ⟨k, hk, hb⟩
          · exact Or.inl hb
          · exact Or.inr ⟨k, hk, by rw [rk]; exact hb⟩
  · obtain ⟨T, ow, us, w, c, hN⟩ := h
    exact ⟨by omega, fun j hj => by omega, T, ow, us, w, c, by omega⟩
abbrev aG (B M S N : Nat) (W : gV) (L I : Int → Int) : gQ := fun r G' R' V' => ∃ v : Int, r = some (0, v) ∧ CI G' R' V' B M S N W L I
theorem rfG (h : cI G R V B M S T ow us w W L I) (hN : G.length ≤ N) {a : Int} (ha : i32 a) {d : Nat} (hd : 1 ≤ d := by omega) : cwv d (fun r V' => ∃ v : Int, r = some (0, v) ∧ aG B M S N W L I (some (0, v)) G R V') 138 [(4, (B : Int)), (0, a)] G R V :=
  cwv_mono hd (refuse_k h.c.ly h.c.re h.th ha) (fun r V' q => by obtain ⟨v, q1, q2, q3⟩ := q; exact ⟨v, q1, v, rfl, T, ow, us, w, cI_v h q3, hN⟩)
theorem acG (h : cI G R V B M S T ow us w W L I) (hN : G.length ≤ N) {a : Int} {d : Nat} (hd : 1 ≤ d := by omega) : cwv d (fun r V' => ∃ v : Int, r = some (0, v) ∧ aG B M S N W L I (some (0, v)) G R V') 139 [(4, (B : Int)), (0, a)] G R V :=
  cwv_mono hd (accept_k h.c.ly h.c.re h.th) (fun r V' q => by obtain ⟨v, q1, q2, q3⟩ := q; exact ⟨v, q1, v, rfl, T, ow, us, w, cI_v h q3, hN⟩)
theorem group_K (h : CI G R V B M S N W L I) {n : Int} (hn : i32 n) : cw 7 (aG B M S (N + 117) W L I) 105 [(4, (B : Int)), (0, n)] G R V := by
  obtain ⟨T, ow, us, w, c, hN⟩ := h
  have l := c.c.ly
  refine c_X7_group (t_X7_group_0 ⟨hn, fun z => ⟨ly7_o l, rfG c (by omega) (by omega)⟩, fun z => ⟨fun z1 => ⟨ly7_o l, ?_⟩, fun z1 => ⟨ly7_o l, rfG c (by omega) (by omega)⟩⟩⟩)
  refine wI_u (readSheets_k c hn) (fun v6 V5 hv6 th5 => ⟨by omega, fun z2 => ⟨ly7_o l, ?_⟩, fun z2 => ⟨ly7_o l, rfG (cI_v c th5) (by omega) (by omega)⟩⟩)
  refine cw_mono (by omega) (unusedGroup_k ⟨T, ow, us, w, cI_v c th5, hN⟩) (fun r G1 R1 V1 h1 => ?_)
  clear l c hN
  obtain ⟨q, er, T, ow, us, w, c, hN, i, hi, hg, nu⟩ := h1
  have l := c.c.ly
  obtain ⟨p, n', C, D, o, m, E, gi, post⟩ := cI_build c hi hg nu
  have hB := (cI_g c hi hg).1
  refine ⟨q, er, ly7_o l, B + 2, (ly7_1 l).1, B + 3, (ly7_2 l).1, ly2_o gi.u.ly, ?_⟩
  refine cw_mono (by omega) (groupBuild_k gi c.c.fi (by omega) c.th (by omega) (ly7_1 l).2) (fun r2 G2 R2 V2 h2 => ?_)
  obtain ⟨v, er2, hv, P⟩ := h2
  obtain ⟨T2, ow2, us2, w2, c2, u2, hg2, hl⟩ := post v G2 R2 V2 P
  have l2 := c2.c.ly
  refine ⟨v, er2, by omega, fun z3 => ⟨ly7_o l2, B + 52, c2.c.rb, ly1_o c2.be.1.1.ly, ?_⟩, fun z3 => ⟨ly7_o l2, rfG c2 (by omega) (by omega)⟩⟩
  refine cw_mono (by omega) (startWith_k (g := q) c2.be.1.1 c2.th) (fun r3 G3 R3 V3 h3 => ?_)
  obtain ⟨e3, eG, eR, th3⟩ := h3
  have c3 := cI_setg c2 (Or.inl rfl) hi hg2 (u2 z3) th3
  rw [← eR] at c3
  subst eG
  have hg3 : R3 (B + 19) (i : Int) = (q : Int) := by rw [eR, wr_a (by omega)]; exact hg2
  obtain ⟨-, p, n', C, D, o, m, E, gi, _⟩ := cI_g c3 hi hg3
  have l3 := c3.c.ly
  exact ⟨e3, ly2_o gi.u.ly, q + 1, (ly2_0 gi.u.ly).1, ly6_o gi.u.t.ly, fun _ => ⟨ly7_o l3, acG c3 (by omega)⟩⟩
abbrev aE (B M S N : Nat) (W : gV) (L I : Int → Int) (X : Int) : gQ := fun r G' R' V' => ∃ v : Int, r = some (0, v) ∧ v = X ∧ CI G' R' V' B M S N W L I
theorem rfE (h : cI G R V B M S T ow us w W L I) (hN : G.length ≤ N) {a X : Int} (ha : i32 a) (e : a = X) {d : Nat} (hd : 1 ≤ d := by omega) : cwv d (fun r V' => ∃ v : Int, r = some (0, v) ∧ aE B M S N W L I X (some (0, v)) G R V') 138 [(4, (B : Int)), (0, a)] G R V :=
  cwv_mono hd (refuse_k h.c.ly h.c.re h.th ha) (fun r V' q => by obtain ⟨v, q1, q2, q3⟩ := q; exact ⟨v, q1, v, rfl, q2.trans e, T, ow, us, w, cI_v h q3, hN⟩)
theorem acE (h : cI G R V B M S T ow us w W L I) (hN : G.length ≤ N) {a X : Int} (e : a = X) {d : Nat} (hd : 1 ≤ d := by omega) : cwv d (fun r V' => ∃ v : Int, r = some (0, v) ∧ aE B M S N W L I X (some (0, v)) G R V') 139 [(4, (B : Int)), (0, a)] G R V :=
  cwv_mono hd (accept_k h.c.ly h.c.re h.th) (fun r V' q => by obtain ⟨v, q1, q2, q3⟩ := q; exact ⟨v, q1, v, rfl, q2.trans e, T, ow, us, w, cI_v h q3, hN⟩)
theorem cI_bench (h : cI G R V B M S T ow us w W L I) (hb : isB R B b) : bT G R T b ∧ ∃ (g i : Nat) (p n : Nat) (C D : Int) (o m : Nat) (E : Int), i < 5 ∧ R b 0 = (g : Int) ∧ R (B + 19) (i : Int) = (g : Int) ∧ us g ∧ gT2 G R T g p n C D o m E := by
  obtain ⟨q1, g, i, q2, q3, q4, q5⟩ := cI_b h hb
  obtain ⟨j, ej, hj⟩ := nat_i (n := 5) q2
  rw [ej] at q4
  obtain ⟨-, p, n, C, D, o, m, E, a, _⟩ := cI_g h hj q4
  exact ⟨q1.1, g, j, p, n, C, D, o, m, E, hj, q3, q4, q5, a.u⟩
def imL (I : Int → Int) (k : Int) : Int → Int := fun i => if (0 ≤ k ∧ k ≤ 2) ∧ i = k then 1 else I i
theorem CI_I {I' : Int → Int} (h : CI G R V B M S N W L I) (e : ∀ i, 0 ≤ i → i ≤ 2 → I' i = I i) : CI G R V B M S N W L I' := by
  obtain ⟨T, ow, us, w, h, hN⟩ := h
  refine ⟨T, ow, us, w, cI.mk h.th h.c h.gr h.gd (fun k hk => ?_) h.be h.sz, hN⟩
  rw [e k (by omega) (by omega)]
  exact h.im k hk
theorem image_K (h : CI G R V B M S N W L I) {k : Int} (hk : i32 k) : cw 3 (aE B M S (N + 5) W L (imL I k) (imA k)) 135 [(4, (B : Int)), (0, k)] G R V := by
  obtain ⟨T, ow, us, w, c, hN⟩ := h
  have l := c.c.ly
  have no : ¬ (0 ≤ k ∧ k ≤ 2) → cwv 2 (fun r V' => ∃ v : Int, r = some (0, v) ∧ aE B M S (N + 5) W L (imL I k) (imA k) (some (0, v)) G R V') 138 [(4, (B : Int)), (0, -1)] G R V := by
    intro z
    have e : imL I k = I := by funext i; unfold imL; rw [if_neg (by omega)]
    rw [e]
    exact rfE c (by omega) (by omega) (by unfold imA; rw [if_neg z])
  refine c_X7_image (t_X7_image_0 ⟨hk, fun z => ⟨ly7_o l, no (by omega)⟩, fun z => ⟨fun z1 => ⟨ly7_o l, B + 20, (ly7_5 l).1, 3, (ly7_5 l).2, by omega, fun z2 => ?_, fun z2 => ?_⟩, fun z1 => ⟨ly7_o l, no (by omega)⟩⟩⟩)
  · obtain ⟨i, ei, hi⟩ := nat_i (i := k) (n := 3) (by omega)
    rcases c.im i hi with q | ⟨b, q, qI, qw, q2⟩
    · rw [ei] at z2; omega
    · obtain ⟨bt, g, j, p, n, C, D, o, m, E, hj, e1, e2, e3, gt⟩ := cI_bench c (Or.inl rfl)
      refine ⟨b, by rw [ei]; exact q, B + 52, c.c.rb, ly1_o q2.1.1.ly, ?_⟩
      refine cw_mono (by omega) (copyFrom_k q2.1.1 bt e1 gt c.th) (fun r G1 R1 V1 h1 => ?_)
      obtain ⟨e4, eG, eR, th1⟩ := h1
      have c1 := cI_setg c (Or.inr ⟨i, hi, q⟩) hj e2 e3 th1
      rw [← eR] at c1
      subst eG
      have hI : imL I k = I := by
        funext y
        unfold imL
        split
        · rename_i z
          rw [z.2, ei, qI]
        · rfl
      rw [hI]
      exact ⟨e4, ly7_o l, acE c1 (by omega) (by unfold imA; rw [if_pos (by omega)])⟩
  · obtain ⟨i, ei, hi⟩ := nat_i (i := k) (n := 3) (by omega)
    rw [ei] at z2
    rcases c.im i hi with q | ⟨b, q, qI, qw, q2⟩
    · obtain ⟨bt, g, j, p, n, C, D, o, m, E, hj, e1, e2, e3, gt⟩ := cI_bench c (Or.inl rfl)
      have lB := cC_lt c.c
      have hO : (G ++ [gO 1])[G.length]? = some (gO 1) := by rw [List.getElem?_append_right (Nat.le_refl _), Nat.sub_self]; rfl
      refine ⟨gX2_app _ _ (ly7_o l), B + 52, c.c.rb, gX2_app _ _ (ly1_o bt.ly), g, e1, ?_⟩
      refine cw_mono (by omega) (benchInit_k (g := g) hO (by rw [List.length_append]; rfl) c.th) (fun r G1 R1 V1 h1 => ?_)
      obtain ⟨e4, eG, hR, rA, th1, hV, bt1⟩ := h1
      have hG : gX2 G G1 := by rw [eG]; exact gX2_t gX2_app gX2_app
      have lG1 : G1.length = G.length + 5 := by rw [eG, List.length_append, List.length_append]; rfl
      obtain ⟨T2, ow2, us2, w2, c2, th2, u2⟩ := cI_newb c hi q.1 hj e2 e3 rfl eG hR rA th1 bt1
      rw [ei]
      refine ⟨e4, 3, hG _ _ (ly7_5 l).2, by omega, ly1_o bt1.ly, hG _ _ (ly7_o l), B + 20, ?_, 3, hG _ _ (ly7_5 l).2, by omega, G.length, wr_same _ _ _ _, B + 52, c2.c.rb, ly1_o bt1.ly, ?_⟩
      · rw [wr_a (by omega), hR _ _ (by omega)]; exact (ly7_5 l).1
      · obtain ⟨bt2, g2, j2, p, n, C, D, o, m, E, hj2, f1, f2, f3, gt2⟩ := cI_bench c2 (Or.inl rfl)
        have hB2 : isB (wr R1 (B + 20) (i : Int) (G.length : Int)) B G.length := Or.inr ⟨i, hi, wr_same _ _ _ _⟩
        refine cw_mono (by omega) (copyFrom_k (cI_bench c2 hB2).1 bt2 f1 gt2 c2.th) (fun r2 G3 R3 V3 h3 => ?_)
        obtain ⟨e5, eG3, eR3, th3⟩ := h3
        have c3 := cI_setg c2 hB2 hj2 f2 f3 th3
        rw [← eR3] at c3
        subst eG3
        have hI : imL I (i : Int) = fun j => if j = (i : Int) then 1 else I j := by
          funext y
          unfold imL
          by_cases z : y = (i : Int)
          · rw [if_pos (by omega), if_pos z]
          · rw [if_neg (by omega), if_neg z]
        rw [hI]
        exact ⟨e5, ly7_o c3.c.ly, acE c3 (by omega) (by unfold imA; rw [if_pos (by omega)])⟩
    · omega
def bkL (I : Int → Int) (k : Int) : Int := if ¬ (0 ≤ k ∧ k ≤ 2) then -1 else if I k = 0 then -2 else 0
theorem back_K (h : CI G R V B M S N W L I) {k : Int} (hk : i32 k) : cw 3 (aE B M S N W L I (bkL I k)) 136 [(4, (B : Int)), (0, k)] G R V := by
  obtain ⟨T, ow, us, w, c, hN⟩ := h
  have l := c.c.ly
  have no : ¬ (0 ≤ k ∧ k ≤ 2) → cwv 2 (fun r V' => ∃ v : Int, r = some (0, v) ∧ aE B M S N W L I (bkL I k) (some (0, v)) G R V') 138 [(4, (B : Int)), (0, -1)] G R V := fun z => rfE c (by omega) (by omega) (by unfold bkL; rw [if_pos z])
  refine c_X7_back (t_X7_back_0 ⟨hk, fun z => ⟨ly7_o l, no (by omega)⟩, fun z => ⟨fun z1 => ⟨ly7_o l, B + 20, (ly7_5 l).1, 3, (ly7_5 l).2, by omega, fun z2 => ?_, fun z2 => ?_⟩, fun z1 => ⟨ly7_o l, no (by omega)⟩⟩⟩)
  · obtain ⟨i, ei, hi⟩ := nat_i (i := k) (n := 3) (by omega)
    rcases c.im i hi with q | ⟨b, q, qI, qw, q2⟩
    · rw [ei] at z2; omega
    · have hB : isB R B b := Or.inr ⟨i, hi, q⟩
      obtain ⟨bt, g, j, p, n, C, D, o, m, E, hj, e1, e2, e3, gt⟩ := cI_bench c hB
      refine ⟨B + 52, c.c.rb, b, by rw [ei]; exact q, ly1_o c.be.1.1.ly, ?_⟩
      refine cw_mono (by omega) (copyFrom_k c.be.1.1 bt e1 gt c.th) (fun r G1 R1 V1 h1 => ?_)
      obtain ⟨e4, eG, eR, th1⟩ := h1
      have c1 := cI_setg c (Or.inl rfl) hj e2 e3 th1
      rw [← eR] at c1
      subst eG
      exact ⟨e4, ly7_o l, acE c1 hN (by unfold bkL; rw [if_neg (by omega), if_neg (by rw [ei, qI]; omega)])⟩
  · obtain ⟨i, ei, hi⟩ := nat_i (i := k) (n := 3) (by omega)
    rcases c.im i hi with q | ⟨b, q, qI, qw, q2⟩
    · exact rfE c hN (by omega) (by unfold bkL; rw [if_neg (by omega), if_pos (by rw [ei]; exact q.2.1)])
    · rw [ei] at z2; omega
end
