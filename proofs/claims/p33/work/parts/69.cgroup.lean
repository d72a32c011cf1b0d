section
variable {G G' : List gS} {R R' V V' : gV} {T T' : gT} {ow ow' : Nat → Nat} {us us' : Nat → Prop} {w w' : Nat → Nat} {W : gV} {L : Int → Int} {I : Int → gD} {B M S N g b x A : Nat}
theorem five (h : cI G R V B M S T ow us w W L I) (u : ∀ j : Nat, j < 5 → ∃ b g : Nat, isB R B b ∧ R b 0 = (g : Int) ∧ R (B + 19) (j : Int) = (g : Int)) : False := by
  have U : ∀ j : Nat, j < 5 → ∃ c : Fin 4, R (B + 19) (j : Int) = (if c.val = 3 then R (B + 52) 0 else R (R (B + 20) (c.val : Int)).toNat 0) := by
    intro j hj
    obtain ⟨b, g, hb, e1, e2⟩ := u j hj
    rcases hb with hb | ⟨k, hk, e⟩
    · exact ⟨3, by rw [e2, ← e1, hb]; rfl⟩
    · refine ⟨⟨k, by omega⟩, ?_⟩
      dsimp only
      rw [if_neg (by omega), e, e2, ← e1]
      rfl
  have D : ∀ i j : Nat, i < 5 → j < 5 → i ≠ j → R (B + 19) (i : Int) ≠ R (B + 19) (j : Int) := by
    intro i j hi hj ne e
    obtain ⟨b, g, -, -, e1⟩ := u i hi
    exact ne (h.gd i j g hi hj e1 (e ▸ e1))
  obtain ⟨c0, e0⟩ := U 0 (by omega)
  obtain ⟨c1, e1⟩ := U 1 (by omega)
  obtain ⟨c2, e2⟩ := U 2 (by omega)
  obtain ⟨c3, e3⟩ := U 3 (by omega)
  obtain ⟨c4, e4⟩ := U 4 (by omega)
  rcases pig4 c0 c1 c2 c3 c4 with q | q | q | q | q | q | q | q | q | q <;> subst q
  · exact D 0 1 (by omega) (by omega) (by omega) (e0.trans e1.symm)
  · exact D 0 2 (by omega) (by omega) (by omega) (e0.trans e2.symm)
  · exact D 0 3 (by omega) (by omega) (by omega) (e0.trans e3.symm)
  · exact D 0 4 (by omega) (by omega) (by omega) (e0.trans e4.symm)
  · exact D 1 2 (by omega) (by omega) (by omega) (e1.trans e2.symm)
  · exact D 1 3 (by omega) (by omega) (by omega) (e1.trans e3.symm)
  · exact D 1 4 (by omega) (by omega) (by omega) (e1.trans e4.symm)
  · exact D 2 3 (by omega) (by omega) (by omega) (e2.trans e3.symm)
  · exact D 2 4 (by omega) (by omega) (by omega) (e2.trans e4.symm)
  · exact D 3 4 (by omega) (by omega) (by omega) (e3.trans e4.symm)
def ugP (B M S N : Nat) (W : gV) (L : Int → Int) (I : Int → gD) (q : Nat) (G : List gS) (R V : gV) : Prop := ∃ T ow us w, cI G R V B M S T ow us w W L I ∧ G.length ≤ N + 115 ∧ ∃ i : Nat, i < 5 ∧ R (B + 19) (i : Int) = (q : Int) ∧ ∀ b, isB R B b → R b 0 ≠ (q : Int)
abbrev aE (B M S N : Nat) (W : gV) (L : Int → Int) (I : Int → gD) (X : Int) : gQ := fun r G' R' V' => ∃ v : Int, r = some (0, v) ∧ v = X ∧ CI G' R' V' B M S N W L I
theorem rfE (h : cI G R V B M S T ow us w W L I) (hN : G.length ≤ N) {a X : Int} (ha : i32 a) (e : a = X) {d : Nat} (hd : 1 ≤ d := by omega) : cwv d (fun r V' => ∃ v : Int, r = some (0, v) ∧ aE B M S N W L I X (some (0, v)) G R V') 138 [(4, (B : Int)), (0, a)] G R V :=
  cwv_mono hd (refuse_k h.c.ly h.c.re h.th ha) (fun r V' q => by obtain ⟨v, q1, q2, q3⟩ := q; exact ⟨v, q1, v, rfl, q2.trans e, T, ow, us, w, cI_v h q3, hN⟩)
theorem acE (h : cI G R V B M S T ow us w W L I) (hN : G.length ≤ N) {a X : Int} (e : a = X) {d : Nat} (hd : 1 ≤ d := by omega) : cwv d (fun r V' => ∃ v : Int, r = some (0, v) ∧ aE B M S N W L I X (some (0, v)) G R V') 139 [(4, (B : Int)), (0, a)] G R V :=
  cwv_mono hd (accept_k h.c.ly h.c.re h.th) (fun r V' q => by obtain ⟨v, q1, q2, q3⟩ := q; exact ⟨v, q1, v, rfl, q2.trans e, T, ow, us, w, cI_v h q3, hN⟩)
theorem cI_bench {d : gD} (h : cI G R V B M S T ow us w W L I) (q : bN G R T ow us B b d) : bT G R T b ∧ ∃ (g i : Nat) (p n : Nat) (C D : Int) (o m : Nat) (E : Int), i < 5 ∧ R b 0 = (g : Int) ∧ R (B + 19) (i : Int) = (g : Int) ∧ us g ∧ gT2 G R T g p n C D o m E ∧ lkT T R g d := by
  obtain ⟨q1, g, i, q2, q3, q4, q5⟩ := q
  obtain ⟨j, ej, hj⟩ := nat_i (n := 5) q2
  rw [ej] at q4
  obtain ⟨-, p, n, C, D, o, m, E, a, _⟩ := cI_g h hj q4
  exact ⟨q1.1, g, j, p, n, C, D, o, m, E, hj, q3, q4, q5.1, a.u, q5.2⟩
theorem copy_K (c : cI G R V B M S T ow us w W L I) (hb : isB R B b) {b2 : Nat} {d2 e2 : gD} (hN2 : bN G R T ow us B b2 d2) (r2 : rwT T b2 e2) (ne : b ≠ b2) {I' : Int → gD} (i1 : b = B + 52 → I' 3 = d2 ∧ I' 23 = e2) (i2 : b ≠ B + 52 → I' 3 = I 3 ∧ I' 23 = I 23) (i3 : ∀ k : Nat, k < 3 → I' (10 + k) 0 0 = I (10 + k) 0 0) (i4 : ∀ k : Nat, k < 3 → R (B + 20) (k : Int) = (b : Int) → I' k = d2 ∧ I' (20 + k) = e2) (i5 : ∀ k : Nat, k < 3 → R (B + 20) (k : Int) ≠ (b : Int) → I' k = I k ∧ I' (20 + k) = I (20 + k)) : cw 1 (fun r G' R' V' => r = none ∧ G' = G ∧ ∃ T', cI G R' V' B M S T' ow us w W L I') 18 [(4, (b : Int)), (4, (b2 : Int))] G R V := by
  obtain ⟨d0, hN⟩ := cI_b c hb
  have hb2 : b2 + 2 ≠ b := fun q => by
    have a1 := hN2.1.2 (b2 + 2) (by omega) (by omega)
    have a2 := hN.1.2 b (by omega) (by omega)
    rw [q] at a1
    omega
  have rb := rlB_bT hN.1.1
  obtain ⟨o1, oc, og⟩ := cI_o c hN (T' := rlB T b) (fun c' z1 z2 => rlB_n z1 z2) rb
  obtain ⟨q1, g, i, q2, q3, q4, q5⟩ := o1 _ _ hN2
  obtain ⟨j, ej, hj⟩ := nat_i (n := 5) q2
  rw [ej] at q4
  obtain ⟨p, n, C, D, o, m, E, a, _⟩ := og _ _ _ (cI_g c hj q4).2
  refine cw_mono (Nat.le_refl _) (copyFrom_k rb rlB_bW q1.1 ne hb2 q3 a.u (rlB_th hN.1.1 c.th)) (fun r G1 R1 V1 h1 => ?_)
  obtain ⟨e4, eG, eR, th1, f3, f2⟩ := h1
  have v2 : V b2 3 = e2 0 0 := r2.1 _ (c.th b2 3)
  have he := (hN2.1.1.rl _).mp (c.th b2 3)
  rw [v2] at he f3 f2
  have c0 := cI_rows (I' := fun j => if j < 20 then I j else I' j) (e := e2) c hb he th1 f3 (fun i i0 i1 => (f2 i i0 i1).trans (r2.2 i _ i0 i1 (c.th _ _))) (fun j hj => if_pos hj) (fun y => by rw [if_neg (by omega)]; exact (i1 y).2) (fun y => by rw [if_neg (by omega)]; exact (i2 y).2) (fun k hk y => by rw [if_neg (by omega)]; exact (i4 k hk y).2) (fun k hk y => by rw [if_neg (by omega)]; exact (i5 k hk y).2)
  obtain ⟨p1, _, _⟩ := cI_o c hN (T' := pnB T b e2) (fun c' z1 z2 => pnB_n z1 z2) (pnB_bT hN.1.1 he)
  obtain ⟨_, g', i', _, q3', _, q5'⟩ := p1 _ _ hN2
  have eg : g' = g := by rw [q3] at q3'; omega
  rw [eg] at q5'
  have c1 := cI_setg (I' := I') c0 hb hj q4 q5.1 c0.th q5'.2 (fun y => (i1 y).1) (fun y => by rw [(i2 y).1, if_pos (by omega)]) (fun k hk => by rw [i3 k hk, if_pos (by omega)]) (fun k hk y => (i4 k hk y).1) (fun k hk y => by rw [(i5 k hk y).1, if_pos (by omega)]) (by rw [if_neg (by omega)]) (fun k hk => by rw [if_neg (by omega)])
  exact ⟨e4, eG, _, by rw [eR]; exact c1⟩
def imL (I : Int → gD) (k : Int) : Int → gD := fun j => if ¬ (0 ≤ k ∧ k ≤ 2) then I j else if j = k then I 3 else if j = 10 + k then (fun _ _ => 1) else if j = 20 + k then I 23 else I j
theorem image_K (h : CI G R V B M S N W L I) {k : Int} (hk : i32 k) : cw 3 (aE B M S (N + 5) W L (imL I k) (imA k)) 135 [(4, (B : Int)), (0, k)] G R V := by
  obtain ⟨T, ow, us, w, c, hN⟩ := h
  have l := c.c.ly
  have no : ¬ (0 ≤ k ∧ k ≤ 2) → cwv 2 (fun r V' => ∃ v : Int, r = some (0, v) ∧ aE B M S (N + 5) W L (imL I k) (imA k) (some (0, v)) G R V') 138 [(4, (B : Int)), (0, -1)] G R V := by
    intro z
    have e : imL I k = I := by funext i; unfold imL; rw [if_pos z]
    rw [e]
    exact rfE c (by omega) (by omega) (by unfold imA; rw [if_neg z])
  refine c_X7_image (t_X7_image_0 ⟨hk, fun z => ⟨ly7_o l, no (by omega)⟩, fun z => ⟨fun z1 => ⟨ly7_o l, B + 20, (ly7_5 l).1, 3, (ly7_5 l).2, by omega, fun z2 => ?_, fun z2 => ?_⟩, fun z1 => ⟨ly7_o l, no (by omega)⟩⟩⟩)
  · obtain ⟨i, ei, hi⟩ := nat_i (i := k) (n := 3) (by omega)
    have ok : ¬ ¬ (0 ≤ k ∧ k ≤ 2) := by omega
    rcases c.im i hi with q | ⟨b, q, qI, qw, q2⟩
    · rw [ei] at z2; omega
    · have nb := c.iy i b hi q
      refine ⟨b, by rw [ei]; exact q, B + 52, c.c.rb, ly1_o q2.1.1.ly, ?_⟩
      refine cw_mono (by omega) (copy_K (I' := imL I k) c (Or.inr ⟨i, hi, q⟩) c.be c.kr nb (fun y => absurd y nb) (fun _ => ?_) (fun k' hk' => ?_) (fun k' hk' y => ?_) (fun k' hk' y => ?_)) (fun r G1 R1 V1 h1 => ?_)
      · unfold imL
        rw [if_neg ok, if_neg (by omega), if_neg (by omega), if_neg (by omega), if_neg ok, if_neg (by omega), if_neg (by omega), if_neg (by omega)]
        exact ⟨rfl, rfl⟩
      · unfold imL
        rw [if_neg ok, if_neg (by omega)]
        split
        · rename_i y
          have : (k' : Int) = i := by omega
          rw [this, qI]
        · rw [if_neg (by omega)]
      · have := c.ix k' i b hk' hi y q
        unfold imL
        rw [if_neg ok, if_pos (by omega), if_neg ok, if_neg (by omega), if_neg (by omega), if_pos (by omega)]
        exact ⟨rfl, rfl⟩
      · have ne : k' ≠ i := fun q2 => y (by rw [q2]; exact q)
        unfold imL
        rw [if_neg ok, if_neg (by omega), if_neg (by omega), if_neg (by omega), if_neg ok, if_neg (by omega), if_neg (by omega), if_neg (by omega)]
        exact ⟨rfl, rfl⟩
      · obtain ⟨e4, eG, T1, c1⟩ := h1
        subst eG
        exact ⟨e4, ly7_o l, acE c1 (by omega) (by unfold imA; rw [if_pos (by omega)])⟩
  · obtain ⟨i, ei, hi⟩ := nat_i (i := k) (n := 3) (by omega)
    rw [ei] at z2
    have ok : ¬ ¬ (0 ≤ (i : Int) ∧ (i : Int) ≤ 2) := by omega
    rcases c.im i hi with q | ⟨b, q, qI, qw, q2⟩
    · obtain ⟨bt, g, j, p, n, C, D, o, m, E, hj, e1, e2, e3, gt, lk⟩ := cI_bench c c.be
      have lB := cC_lt c.c
      have hO : (G ++ [gO 1])[G.length]? = some (gO 1) := by rw [List.getElem?_append_right (Nat.le_refl _), Nat.sub_self]; rfl
      refine ⟨gX2_app _ _ (ly7_o l), B + 52, c.c.rb, gX2_app _ _ (ly1_o bt.ly), g, e1, ?_⟩
      refine cw_mono (by omega) (benchInit_k (g := g) hO (by rw [List.length_append]; rfl) c.th) (fun r G1 R1 V1 h1 => ?_)
      obtain ⟨e4, eG, hR, rA, th1, hV, bt1⟩ := h1
      have hG : gX2 G G1 := by rw [eG]; exact gX2_t gX2_app gX2_app
      have lG1 : G1.length = G.length + 5 := by rw [eG, List.length_append, List.length_append]; rfl
      obtain ⟨T2, ow2, us2, w2, c2, th2, u2⟩ := cI_newb c hi q.1 hj e2 e3 lk rfl eG hR rA th1 bt1
      rw [ei]
      refine ⟨e4, 3, hG _ _ (ly7_5 l).2, by omega, ly1_o bt1.ly, hG _ _ (ly7_o l), B + 20, ?_, 3, hG _ _ (ly7_5 l).2, by omega, G.length, wr_same _ _ _ _, B + 52, c2.c.rb, ly1_o bt1.ly, ?_⟩
      · rw [wr_a (by omega), hR _ _ (by omega)]; exact (ly7_5 l).1
      · have hB2 : isB (wr R1 (B + 20) (i : Int) (G.length : Int)) B G.length := Or.inr ⟨i, hi, wr_same _ _ _ _⟩
        refine cw_mono (by omega) (copy_K (I' := imL I (i : Int)) c2 hB2 c2.be c2.kr (by omega) (fun y => by omega) (fun _ => ?_) (fun k' hk' => ?_) (fun k' hk' y => ?_) (fun k' hk' y => ?_)) (fun r2 G3 R3 V3 h3 => ?_)
        · unfold imL
          rw [if_neg ok, if_neg (by omega), if_neg (by omega), if_neg (by omega), if_neg ok, if_neg (by omega), if_neg (by omega), if_neg (by omega), if_neg (by omega), if_neg (by omega), if_neg (by omega), if_neg (by omega), if_neg (by omega), if_neg (by omega)]
          exact ⟨rfl, rfl⟩
        · unfold imL
          rw [if_neg ok, if_neg (show ¬ ((10 + k' : Int) = i) by omega)]
          by_cases y : (10 + k' : Int) = 10 + i
          · rw [if_pos y, if_neg (show ¬ ((10 + k' : Int) = i) by omega), if_pos y]
          · rw [if_neg y, if_neg (show ¬ ((10 + k' : Int) = 20 + i) by omega), if_neg (show ¬ ((10 + k' : Int) = i) by omega), if_neg y, if_neg (show ¬ ((10 + k' : Int) = 20 + i) by omega)]
        · have := c2.ix k' i G.length hk' hi y (wr_same _ _ _ _)
          unfold imL
          rw [if_neg ok, if_pos (show (k' : Int) = i by omega), if_neg ok, if_neg (show ¬ ((20 + k' : Int) = i) by omega), if_neg (show ¬ ((20 + k' : Int) = 10 + i) by omega), if_pos (show (20 + k' : Int) = 20 + i by omega)]
          exact ⟨by rw [if_neg (by omega), if_neg (by omega), if_neg (by omega)], by rw [if_neg (by omega), if_neg (by omega), if_neg (by omega)]⟩
        · have ne : k' ≠ i := fun q2 => y (by rw [q2]; exact wr_same _ _ _ _)
          unfold imL
          rw [if_neg ok, if_neg (show ¬ ((k' : Int) = i) by omega), if_neg (show ¬ ((k' : Int) = 10 + i) by omega), if_neg (show ¬ ((k' : Int) = 20 + i) by omega), if_neg ok, if_neg (show ¬ ((20 + k' : Int) = i) by omega), if_neg (show ¬ ((20 + k' : Int) = 10 + i) by omega), if_neg (show ¬ ((20 + k' : Int) = 20 + i) by omega)]
          exact ⟨by first | rfl | (rw [if_neg (show ¬ ((k' : Int) = i) by omega), if_neg (show ¬ ((k' : Int) = 10 + i) by omega), if_neg (show ¬ ((k' : Int) = 20 + i) by omega)]), by first | rfl | (rw [if_neg (show ¬ ((20 + k' : Int) = i) by omega), if_neg (show ¬ ((20 + k' : Int) = 10 + i) by omega), if_neg (show ¬ ((20 + k' : Int) = 20 + i) by omega)])⟩
        · obtain ⟨e5, eG3, T3, c3⟩ := h3
          subst eG3
          exact ⟨e5, ly7_o c3.c.ly, acE c3 (by omega) (by unfold imA; rw [if_pos (by omega)])⟩
    · omega
def bkL (I : Int → gD) (k : Int) : Int := if ¬ (0 ≤ k ∧ k ≤ 2) then -1 else if I (10 + k) 0 0 = 0 then -2 else 0
def bkI (I : Int → gD) (k : Int) : Int → gD := fun j => if bkL I k = 0 ∧ j = 3 then I k else if bkL I k = 0 ∧ j = 23 then I (20 + k) else I j
theorem back_K (h : CI G R V B M S N W L I) {k : Int} (hk : i32 k) : cw 3 (aE B M S N W L (bkI I k) (bkL I k)) 136 [(4, (B : Int)), (0, k)] G R V := by
  obtain ⟨T, ow, us, w, c, hN⟩ := h
  have l := c.c.ly
  have nn : ¬ bkL I k = 0 → bkI I k = I := fun z => by funext j; unfold bkI; rw [if_neg (fun q => z q.1), if_neg (fun q => z q.1)]
  have no : ∀ a, i32 a → a = bkL I k → ¬ a = 0 → cwv 2 (fun r V' => ∃ v : Int, r = some (0, v) ∧ aE B M S N W L (bkI I k) (bkL I k) (some (0, v)) G R V') 138 [(4, (B : Int)), (0, a)] G R V := fun a ha e z => by rw [nn (by omega)]; exact rfE c (by omega) ha e
  refine c_X7_back (t_X7_back_0 ⟨hk, fun z => ⟨ly7_o l, no (-1) (by omega) (by unfold bkL; rw [if_pos (by omega)]) (by omega)⟩, fun z => ⟨fun z1 => ⟨ly7_o l, B + 20, (ly7_5 l).1, 3, (ly7_5 l).2, by omega, fun z2 => ?_, fun z2 => ?_⟩, fun z1 => ⟨ly7_o l, no (-1) (by omega) (by unfold bkL; rw [if_pos (by omega)]) (by omega)⟩⟩⟩)
  · obtain ⟨i, ei, hi⟩ := nat_i (i := k) (n := 3) (by omega)
    rcases c.im i hi with q | ⟨b, q, qI, qw, q2⟩
    · rw [ei] at z2; omega
    · have b0 : bkL I k = 0 := by unfold bkL; rw [if_neg (by omega), if_neg (by rw [ei, qI]; omega)]
      have nb := c.iy i b hi q
      refine ⟨B + 52, c.c.rb, b, by rw [ei]; exact q, ly1_o c.be.1.1.ly, ?_⟩
      refine cw_mono (by omega) (copy_K (I' := bkI I k) c (Or.inl rfl) q2 (c.ki i b hi q) (fun y => nb y.symm) (fun _ => ?_) (fun y => absurd rfl y) (fun k' _ => ?_) (fun k' hk' y => absurd rfl (c.iy k' _ hk' y)) (fun k' hk' _ => ?_)) (fun r G1 R1 V1 h1 => ?_)
      · unfold bkI
        rw [if_pos ⟨b0, rfl⟩, if_neg (by omega), if_pos ⟨b0, rfl⟩, ei]
        exact ⟨rfl, rfl⟩
      · unfold bkI; rw [if_neg (by omega), if_neg (by omega)]
      · unfold bkI
        rw [if_neg (by omega), if_neg (by omega), if_neg (by omega), if_neg (by omega)]
        exact ⟨rfl, rfl⟩
      · obtain ⟨e4, eG, T1, c1⟩ := h1
        subst eG
        exact ⟨e4, ly7_o l, acE c1 hN b0.symm⟩
  · obtain ⟨i, ei, hi⟩ := nat_i (i := k) (n := 3) (by omega)
    rcases c.im i hi with q | ⟨b, q, qI, qw, q2⟩
    · exact no (-2) (by omega) (by unfold bkL; rw [if_neg (by omega), if_pos (by rw [ei]; exact q.2.1)]) (by omega)
    · rw [ei] at z2; omega
end
