theorem lgsz1 : szG [gO 2] ≤ 10 := by decide +kernel
theorem lgsz2 : szG lg ≤ 4900 := by decide +kernel
theorem l1sz1 : szG [gO 1] ≤ 10 := by decide +kernel
theorem l1sz2 : szG l1 ≤ 5200 := by decide +kernel
section
variable {G G' : List gS} {R R' V V' : gV} {T T' : gT} {ow ow' : Nat → Nat} {us us' : Nat → Prop} {w w' : Nat → Nat} {W : gV} {L : Int → Int} {I : Int → gD} {B M S g b x A : Nat} {u : Prop}
theorem cI_v (h : cI G R V B M S T ow us w W L I) (th : TH T V') : cI G R V' B M S T ow us w W L I := cI.mk th h.c h.gr h.gd h.im h.be h.sz h.ix h.iy h.kr h.ki
theorem cC_lt (h : cC G R T ow B M W L) : B + 92 < G.length := by have := ltG (ly8_45 h.lm).2; have := h.hM; omega
theorem gU_o (h : gU G R T ow u g x) : G[g]? = some (gO 2) ∧ ow g = g := by
  obtain ⟨p, n, C, D, o, m, E, a, b, c, d, e, f⟩ := h
  exact ⟨ly2_o a.u.ly, c g (by omega) (by omega)⟩
theorem gU_lt (h : gU G R T ow u g x) : g + 21 < G.length := by
  obtain ⟨p, n, C, D, o, m, E, a, b, c, d, e, f⟩ := h
  exact (gI_lt a).1
theorem cI_b (h : cI G R V B M S T ow us w W L I) (hb : b = B + 52 ∨ ∃ k : Nat, k < 3 ∧ R (B + 20) (k : Int) = (b : Int)) : ∃ d, bN G R T ow us B b d := by
  rcases hb with hb | ⟨k, hk, e⟩
  · rw [hb]; exact ⟨_, h.be⟩
  · rcases h.im k hk with q | ⟨b', q, _, _, q2⟩
    · rw [q.1] at e; omega
    · rw [q] at e
      have : b' = b := by omega
      rw [← this]; exact ⟨_, q2⟩
theorem cI_g (h : cI G R V B M S T ow us w W L I) {i g : Nat} (hi : i < 5) (e : R (B + 19) (i : Int) = (g : Int)) : B + 28 < g ∧ gU G R T ow (us g) g (w i) := by
  rcases h.gr i hi with q | ⟨g', q, q1, q2⟩
  · rw [q.1] at e; omega
  · rw [q] at e
    have : g' = g := by omega
    rw [← this]; exact ⟨q1, q2⟩
theorem kr_m (h : cI G R V B M S T ow us w W L I) (e : ∀ c, B + 52 ≤ c → c ≤ B + 56 → T' c = T c) : rwT T' (B + 52) (I 23) := rwT_m h.kr (e _ (by omega) (by omega)) (e _ (by omega) (by omega))
theorem ki_m (h : cI G R V B M S T ow us w W L I) (e : ∀ b2 d, bN G R T ow us B b2 d → ∀ c, b2 ≤ c → c ≤ b2 + 4 → T' c = T c) : ∀ (k b : Nat), k < 3 → R (B + 20) (k : Int) = (b : Int) → rwT T' b (I (20 + k)) := fun k b hk hb => by
  obtain ⟨d, q⟩ := cI_b (b := b) h (Or.inr ⟨k, hk, hb⟩)
  exact rwT_m (h.ki k b hk hb) (e b d q _ (by omega) (by omega)) (e b d q _ (by omega) (by omega))
theorem tch_b {d : gD} (q : bN G R T ow us B b d) (t : tch G R T ow x G' R' T' ow') (hx : b ≠ x) : ∀ c, b ≤ c → c ≤ b + 4 → T' c = T c := fun c z1 z2 => t.2.1 c (by have := bT_lt q.1.1; omega) (by rw [q.1.2 c z1 z2]; exact hx)
theorem nat_i {i : Int} {n : Nat} (h : 0 ≤ i ∧ i < n) : ∃ j : Nat, i = (j : Int) ∧ j < n := ⟨i.toNat, by omega, by omega⟩
theorem cI_build (h : cI G R V B M S T ow us w W L I) {i g : Nat} (hi : i < 5) (hg : R (B + 19) (i : Int) = (g : Int)) (nu : ∀ b, (b = B + 52 ∨ ∃ k : Nat, k < 3 ∧ R (B + 20) (k : Int) = (b : Int)) → R b 0 ≠ (g : Int)) : ∃ (Tr : gT) (p n : Nat) (C D : Int) (o m : Nat) (E : Int), TH Tr V ∧ gIB G R Tr g p n C D o m E ∧ fT G R Tr (B + 3) ∧ ∀ v qd G' R' V', gbP G R Tr g p n o m v qd G' R' V' → ∃ T' ow' us' w', cI G' R' V' B M S T' ow' us' w' W L I ∧ (v ≠ 0 → us' g) ∧ R' (B + 19) (i : Int) = (g : Int) ∧ G'.length ≤ G.length + 2 ∧ (v ≠ 0 → ∃ p' o' : Nat, R' (g + 1) 10 = (p' : Int) ∧ R' (g + 10) 13 = (o' : Int) ∧ lkT T' R' g (dV V' g p' o' qd)) := by
  obtain ⟨hBg, hU⟩ := cI_g h hi hg
  have gO2 := (gU_o hU).1
  have gM := ob gO2 (ly8_o h.c.lm) (by omega)
  have lB := cC_lt h.c
  obtain ⟨p, n, C, D, o, m, E, a, b, c, d, e, f⟩ := hU
  obtain ⟨l1, l2, l3⟩ := gI_lt a
  have p1 := a.p1
  have p2 := a.p2
  have o1 := a.o1
  have po := a.po
  have r1 : ∀ c, (c < g + 1 ∨ g + 8 < c) → c ≠ p → relT T (g + 1) p C D c = T c := fun c z1 z2 => rel_n (by omega) z2
  have r0 : ∀ c, (c < g + 1 ∨ g + 8 < c) → (c < g + 10 ∨ g + 21 < c) → c ≠ p → c ≠ o → relH (relT T (g + 1) p C D) (g + 10) o c = T c := fun c z1 z2 z3 z4 => by rw [rlH_n (by omega) z4, r1 c z1 z3]
  have h1 : hT G R (relT T (g + 1) p C D) (g + 10) o m E := hT_m a.u.h gX2_refl (fun _ => rfl) (fun c z1 z2 => r1 c (by omega) (by omega)) (r1 o (by omega) (by omega))
  have t1 : tTB G R (relH (relT T (g + 1) p C D) (g + 10) o) (g + 1) p n C D := tTB_m (rel_tTB a.u.t (by omega)) (fun c z1 z2 => rlH_n (by omega) (by omega)) (rlH_n (by omega) (by omega))
  refine ⟨relH (relT T (g + 1) p C D) (g + 10) o, p, n, C, D, o, m, E, rlH_th h1 (by omega) (rel_th a.u.t (by omega) h.th), gIB.mk a.u.ly t1 (rlH_hT h1 (by omega)) (rlH_hB (by omega)) p1 p2 o1 po a.n1 a.m1, fT_m h.c.fi gX2_refl (fun _ => rfl) (fun c z1 z2 => r0 c (by omega) (by omega) (by omega) (by omega)), fun v qd G' R' V' P => ?_⟩
  obtain ⟨T', p', n', C', D', o', m', E', th', gi, hD, fT1, fR', pp, oo, ex, eG, el, es⟩ := P
  have fT' : ∀ c, (c < g ∨ g + 21 < c) → c ≠ p → c ≠ o → c < G.length → T' c = T c := fun c z1 z2 z3 z4 => by rw [fT1 c z1 z2 z3 z4, r0 c (by omega) (by omega) z2 z3]
  have hG : gX2 G G' := by rw [eG]; exact gX2_app
  have t : tch G R T ow g G' R' T' (fun c => if c < G.length then ow c else g) := by
    refine ⟨hG, fun c' z1 z2 => fT' c' ?_ ?_ ?_ z1, fun c' i z1 z2 => fR' c' i ?_, fun c' z1 => if_pos z1⟩
    · by_cases q : g ≤ c' ∧ c' ≤ g + 21
      · exact absurd (c c' q.1 q.2) z2
      · omega
    · intro q; rw [q] at z2; exact z2 d
    · intro q; rw [q] at z2; exact z2 e
    · by_cases q : g ≤ c' ∧ c' ≤ g + 21
      · exact absurd (c c' q.1 q.2) z2
      · omega
  have rr : ∀ j : Int, R' (B + 19) j = R (B + 19) j := fun j => fR' _ j (by omega)
  have rr2 : ∀ j : Int, R' (B + 20) j = R (B + 20) j := fun j => fR' _ j (by omega)
  have hN : ∀ b2 d2, (b2 = B + 52 ∨ ∃ k : Nat, k < 3 ∧ R (B + 20) (k : Int) = (b2 : Int)) → bN G R T ow us B b2 d2 → bN G' R' T' (fun c => if c < G.length then ow c else g) (fun c => if c = g then v ≠ 0 else us c) B b2 d2 := by
    intro b2 d2 hb2 qq
    obtain ⟨q1, g2, j, q2, q3, q4, q5⟩ := qq
    have nb := nu b2 hb2
    have hbg : b2 ≠ g := ob (ly1_o q1.1.ly) gO2 (by omega)
    have ng : g2 ≠ g := fun z => by rw [z] at q3; exact nb q3
    obtain ⟨j', ej, hj'⟩ := nat_i (n := 5) q2
    have q4' := q4
    rw [ej] at q4'
    refine ⟨bU_m q1 t hbg, g2, j, q2, ?_, by rw [rr]; exact q4, ?_, lkT_t q5.2 (cI_g h hj' q4').2 t ng⟩
    · rw [t.2.2.1 b2 0 (by have := bT_lt q1.1; omega) (by rw [q1.2 b2 (by omega) (by omega)]; exact hbg)]; exact q3
    · simp only [ng, if_false]; exact q5.1
  refine ⟨T', fun c => if c < G.length then ow c else g, fun c => if c = g then v ≠ 0 else us c, upN w i (5000 + 2 * n' + 2 * m'), cI.mk th' (cC_m h.c hG ?_ ?_ (fun c z => if_pos z)) ?_ ?_ ?_ (hN _ _ (Or.inl rfl) h.be) ?_ ?_ ?_ (rwT_m h.kr (tch_b h.be t (ob (ly1_o h.be.1.1.ly) gO2 (by omega)) _ (by omega) (by omega)) (tch_b h.be t (ob (ly1_o h.be.1.1.ly) gO2 (by omega)) _ (by omega) (by omega))) (fun k b2 hk e => ki_m h (fun b3 d3 q3 => tch_b q3 t (ob (ly1_o q3.1.1.ly) gO2 (by omega))) k b2 hk (by rw [← rr2]; exact e)), fun z => by simp only [if_true]; exact z, by rw [rr]; exact hg, by rw [eG, List.length_append]; omega, fun z => ⟨p', o', gi.u.t.rp, gi.u.h.ro, lk_pin (hD z).2.1 (hD z).2.2.1 (hD z).2.2.2 gi.u.t.rp gi.u.h.ro (by have := gi.u.t.ct _ (th' (g + 1) 1); have := gi.u.t.d0; omega)⟩⟩
  · intro c' z1 z2
    exact t.2.1 c' z1 (by rcases z2 with z2 | z2 <;> rw [z2] <;> omega)
  · intro c' i' z1 z2 _ _
    exact t.2.2.1 c' i' z1 (by rcases z2 with z2 | z2 <;> rw [z2] <;> omega)
  · intro j hj
    rw [rr]
    by_cases q : j = i
    · right
      subst q
      refine ⟨g, hg, hBg, p', n', C', D', o', m', E', gi, fun z => (hD (by simp only [if_true] at z; exact z)).1, ?_, ?_, ?_, upN_s⟩
      · intro c' z1 z2
        exact (if_pos (by omega)).trans (c c' z1 z2)
      · rcases pp with pp | pp
        · rw [pp]; exact (if_pos l2).trans d
        · exact if_neg (by omega)
      · rcases oo with oo | oo
        · rw [oo]; exact (if_pos l3).trans e
        · exact if_neg (by omega)
    · rw [upN_n q]
      rcases h.gr j hj with z | ⟨g2, z1, z2, z3⟩
      · exact Or.inl z
      · right
        have ne : g2 ≠ g := fun z => q (h.gd j i g hj hi (by rw [z1, z]) hg)
        refine ⟨g2, z1, z2, ?_⟩
        simp only [ne, if_false]
        exact gU_m z3 t ne
  · intro j1 j2 g2 z1 z2
    rw [rr, rr]
    exact h.gd j1 j2 g2 z1 z2
  · intro k hk
    rw [rr2, upN_n (by omega)]
    rcases h.im k hk with z | ⟨b2, z1, z2, z3, z4⟩
    · exact Or.inl z
    · exact Or.inr ⟨b2, z1, z2, z3, hN b2 _ (Or.inr ⟨k, hk, z1⟩) z4⟩
  · have := sw_up (w := w) (k := i) (x := 5000 + 2 * n' + 2 * m') (by omega)
    have := h.sz
    rw [eG, szG_app]
    omega
  · intro j k b2 z1 z2
    rw [rr2, rr2]
    exact h.ix j k b2 z1 z2
  · intro k b2 z1
    rw [rr2]
    exact h.iy k b2 z1
theorem cI_setg (h : cI G R V B M S T ow us w W L I) (hb : b = B + 52 ∨ ∃ k : Nat, k < 3 ∧ R (B + 20) (k : Int) = (b : Int)) {i g : Nat} (hi : i < 5) (hg : R (B + 19) (i : Int) = (g : Int)) (hu : us g) (th : TH T V') {d : gD} (hd : lkT T R g d) {I' : Int → gD} (i1 : b = B + 52 → I' 3 = d) (i2 : b ≠ B + 52 → I' 3 = I 3) (i3 : ∀ k : Nat, k < 3 → I' (10 + k) 0 0 = I (10 + k) 0 0) (i4 : ∀ k : Nat, k < 3 → R (B + 20) (k : Int) = (b : Int) → I' k = d) (i5 : ∀ k : Nat, k < 3 → R (B + 20) (k : Int) ≠ (b : Int) → I' k = I k) (i6 : I' 23 = I 23) (i7 : ∀ k : Nat, k < 3 → I' (20 + k) = I (20 + k)) : cI G (wr R b 0 (g : Int)) V' B M S T ow us w W L I' := by
  obtain ⟨d0, hN⟩ := cI_b h hb
  have lB := cC_lt h.c
  have hM := h.c.hM
  have ob1 := hN.1.2 b (by omega) (by omega)
  have hbB : b ≠ B := ob (ly1_o hN.1.1.ly) (ly7_o h.c.ly) (by omega)
  have hbM : b ≠ M := ob (ly1_o hN.1.1.ly) (ly8_o h.c.lm) (by omega)
  have o19 := h.c.bo (B + 19) (by omega) (by omega)
  have o20 := h.c.bo (B + 20) (by omega) (by omega)
  have t : tch G R T ow b G (wr R b 0 (g : Int)) T ow := ⟨gX2_refl, fun _ _ _ => rfl, fun c i z1 z2 => wr_a (fun q => by rw [q] at z2; exact z2 ob1), fun _ _ => rfl⟩
  have n19 : B + 19 ≠ b := fun q => by rw [q] at o19; omega
  have n20 : B + 20 ≠ b := fun q => by rw [q] at o20; omega
  have rr : ∀ j : Int, wr R b 0 (g : Int) (B + 19) j = R (B + 19) j := fun j => wr_a n19
  have rr2 : ∀ j : Int, wr R b 0 (g : Int) (B + 20) j = R (B + 20) j := fun j => wr_a n20
  have lk : ∀ g2 d2, lkT T R g2 d2 → lkT T (wr R b 0 (g : Int)) g2 d2 := fun g2 d2 q => lkT_m q (fun _ _ _ => rfl) (wr_i (by omega)) (wr_i (by omega)) (fun _ _ => rfl)
  have hNa : bN G (wr R b 0 (g : Int)) T ow us B b d := ⟨⟨bT_m hN.1.1 gX2_refl (fun i z => wr_i z) (fun _ _ _ => rfl), hN.1.2⟩, g, i, by omega, wr_same _ _ _ _, by rw [rr]; exact hg, hu, lk _ _ hd⟩
  have hNb : ∀ b2 d2, b2 ≠ b → bN G R T ow us B b2 d2 → bN G (wr R b 0 (g : Int)) T ow us B b2 d2 := by
    intro b2 d2 e q
    obtain ⟨q1, g2, j, q2, q3, q4, q5⟩ := q
    exact ⟨bU_m q1 t e, g2, j, q2, by rw [wr_a e]; exact q3, by rw [rr]; exact q4, q5.1, lk _ _ q5.2⟩
  refine cI.mk th (cC_m h.c gX2_refl (fun _ _ _ => rfl) (fun c i z1 z2 _ _ => t.2.2.1 c i z1 (by rcases z2 with z2 | z2 <;> rw [z2] <;> omega)) (fun _ _ => rfl)) ?_ ?_ ?_ ?_ h.sz ?_ ?_ (by rw [i6]; exact h.kr) (fun k b2 hk e => by rw [i7 k hk]; exact h.ki k b2 hk (by rw [← rr2]; exact e))
  · intro j hj
    rw [rr]
    rcases h.gr j hj with z | ⟨g2, z1, z2, z3⟩
    · exact Or.inl z
    · exact Or.inr ⟨g2, z1, z2, gU_m z3 t (ob (gU_o z3).1 (ly1_o hN.1.1.ly) (by omega))⟩
  · intro j1 j2 g2 z1 z2
    rw [rr, rr]
    exact h.gd j1 j2 g2 z1 z2
  · intro k hk
    rw [rr2, i3 k hk]
    rcases h.im k hk with z | ⟨b2, z1, z2, z3, z4⟩
    · exact Or.inl z
    · refine Or.inr ⟨b2, z1, z2, z3, ?_⟩
      by_cases y : b2 = b
      · rw [i4 k hk (by rw [z1, y]), y]; exact hNa
      · rw [i5 k hk (by rw [z1]; omega)]; exact hNb b2 _ y z4
  · by_cases y : b = B + 52
    · rw [i1 y, ← y]; exact hNa
    · rw [i2 y]; exact hNb _ _ (fun q => y q.symm) h.be
  · intro j k b2 z1 z2
    rw [rr2, rr2]
    exact h.ix j k b2 z1 z2
  · intro k b2 z1
    rw [rr2]
    exact h.iy k b2 z1
theorem cI_tch (h : cI G R V B M S T ow us w W L I) {d0 : gD} (hN : bN G R T ow us B b d0) (hT : ∀ c, c ≠ b → c ≠ b + 2 → T' c = T c) : tch G R T ow b G R T' ow := ⟨gX2_refl, fun c z1 z2 => hT c (fun q => z2 (by rw [q]; exact hN.1.2 b (by omega) (by omega))) (fun q => z2 (by rw [q]; exact hN.1.2 (b + 2) (by omega) (by omega))), fun _ _ _ _ => rfl, fun _ _ => rfl⟩
/-- the row of one bench may be another: what else is known stays -/
theorem cI_o (h : cI G R V B M S T ow us w W L I) {d0 : gD} (hN : bN G R T ow us B b d0) (hT : ∀ c, c ≠ b → c ≠ b + 2 → T' c = T c) (bt : bT G R T' b) : (∀ b2 d2, bN G R T ow us B b2 d2 → bN G R T' ow us B b2 d2) ∧ cC G R T' ow B M W L ∧ ∀ g2 (u2 : Prop) x2, gU G R T ow u2 g2 x2 → gU G R T' ow u2 g2 x2 := by
  have t := cI_tch h hN hT
  have hbB : b ≠ B := ob (ly1_o hN.1.1.ly) (ly7_o h.c.ly) (by omega)
  have hbM : b ≠ M := ob (ly1_o hN.1.1.ly) (ly8_o h.c.lm) (by omega)
  have gg : ∀ g2 (u2 : Prop) x2, gU G R T ow u2 g2 x2 → gU G R T' ow u2 g2 x2 := fun g2 u2 x2 z => gU_m z t (ob (gU_o z).1 (ly1_o hN.1.1.ly) (by omega))
  refine ⟨fun b2 d2 q => ?_, cC_m h.c gX2_refl (fun c z1 z2 => t.2.1 c z1 (by rcases z2 with z2 | z2 <;> rw [z2] <;> omega)) (fun _ _ _ _ _ _ => rfl) (fun _ _ => rfl), gg⟩
  obtain ⟨q1, g2, j, q2, q3, q4, q5⟩ := q
  obtain ⟨j', ej, hj'⟩ := nat_i (n := 5) q2
  have q4' := q4
  rw [ej] at q4'
  have gu := (cI_g h hj' q4').2
  have lk := lkT_t q5.2 gu t (ob (gU_o gu).1 (ly1_o hN.1.1.ly) (by omega))
  by_cases y : b2 = b
  · rw [y] at q1 q3 ⊢
    exact ⟨⟨bt, q1.2⟩, g2, j, q2, q3, q4, q5.1, lk⟩
  · exact ⟨bU_m q1 t y, g2, j, q2, q3, q4, q5.1, lk⟩
theorem cI_rows (h : cI G R V B M S T ow us w W L I) (hb : b = B + 52 ∨ ∃ k : Nat, k < 3 ∧ R (B + 20) (k : Int) = (b : Int)) {e : gD} (he : 0 ≤ e 0 0 ∧ e 0 0 ≤ 300) (th : TH (rlB T b) V') (e0 : V' b 3 = e 0 0) (e1 : ∀ i, 0 ≤ i → i < e 0 0 → V' (b + 2) i = e 1 i) {I' : Int → gD} (i1 : ∀ j, j < 20 → I' j = I j) (i2 : b = B + 52 → I' 23 = e) (i3 : b ≠ B + 52 → I' 23 = I 23) (i4 : ∀ k : Nat, k < 3 → R (B + 20) (k : Int) = (b : Int) → I' (20 + k) = e) (i5 : ∀ k : Nat, k < 3 → R (B + 20) (k : Int) ≠ (b : Int) → I' (20 + k) = I (20 + k)) : cI G R V' B M S (pnB T b e) ow us w W L I' := by
  obtain ⟨d0, hN⟩ := cI_b h hb
  have hT : ∀ c, c ≠ b → c ≠ b + 2 → pnB T b e c = T c := fun c z1 z2 => pnB_n z1 z2
  have t := cI_tch h hN hT
  obtain ⟨o1, o2, o3⟩ := cI_o h hN hT (pnB_bT hN.1.1 he)
  refine cI.mk (pnB_th th e0 e1) o2 ?_ h.gd ?_ (by rw [i1 _ (by omega)]; exact o1 _ _ h.be) h.sz h.ix h.iy ?_ ?_
  · intro j hj
    rcases h.gr j hj with z | ⟨g2, z1, z2, z3⟩
    · exact Or.inl z
    · exact Or.inr ⟨g2, z1, z2, o3 _ _ _ z3⟩
  · intro k hk
    have a1 := i1 (10 + k) (by omega)
    have a2 := i1 k (by omega)
    rw [a1, a2]
    rcases h.im k hk with z | ⟨b2, z1, z2, z3, z4⟩
    · exact Or.inl z
    · exact Or.inr ⟨b2, z1, z2, z3, o1 _ _ z4⟩
  · by_cases y : b = B + 52
    · rw [i2 y, ← y]; exact pnB_rw
    · rw [i3 y]
      have nb : B + 52 ≠ b := fun q => y q.symm
      exact rwT_m h.kr (tch_b h.be t nb _ (by omega) (by omega)) (tch_b h.be t nb _ (by omega) (by omega))
  · intro k b2 hk e2
    by_cases y : b2 = b
    · rw [i4 k hk (by rw [e2, y]), y]; exact pnB_rw
    · rw [i5 k hk (by rw [e2]; omega)]
      obtain ⟨d3, q3⟩ := cI_b (b := b2) h (Or.inr ⟨k, hk, e2⟩)
      exact rwT_m (h.ki k b2 hk e2) (tch_b q3 t y _ (by omega) (by omega)) (tch_b q3 t y _ (by omega) (by omega))
/-- the last check's class may be another -/
def miT (T : gT) (B : Nat) : gT := fun c i v => if c = B ∧ i = 8 then True else T c i v
def miU (T : gT) (B : Nat) (x : Int) : gT := fun c i v => if c = B ∧ i = 8 then v = x else T c i v
theorem miT_n {c : Nat} (h : c ≠ B) : miT T B c = T c := by funext i v; unfold miT; rw [if_neg (fun q => h q.1)]
theorem miU_n {x : Int} {c : Nat} (h : c ≠ B) : miU T B x c = T c := by funext i v; unfold miU; rw [if_neg (fun q => h q.1)]
theorem miT_i {i v : Int} (h : i ≠ 8) : miT T B B i v = T B i v := by unfold miT; rw [if_neg (fun q => h q.2)]
theorem miU_i {x i v : Int} (h : i ≠ 8) : miU T B x B i v = T B i v := by unfold miU; rw [if_neg (fun q => h q.2)]
theorem miT_8 {v : Int} : miT T B B 8 v := by unfold miT; rw [if_pos ⟨rfl, rfl⟩]; trivial
theorem miU_8 {x v : Int} : miU T B x B 8 v ↔ v = x := by unfold miU; rw [if_pos ⟨rfl, rfl⟩]
theorem miT_th (th : TH T V) : TH (miT T B) V := by
  intro c i
  unfold miT
  by_cases q : c = B ∧ i = 8
  · rw [if_pos q]; trivial
  · rw [if_neg q]; exact th c i
theorem miU_th {x : Int} (th : TH (miT T B) V) (e : V B 8 = x) : TH (miU T B x) V := by
  intro c i
  have t := th c i
  unfold miT at t
  unfold miU
  by_cases q : c = B ∧ i = 8
  · rw [if_pos q, q.1, q.2]; exact e
  · rw [if_neg q] at t ⊢; exact t
theorem cI_mis (h : cI G R V B M S T ow us w W L I) {L' : Int → Int} (th : TH (miT T B) V') (e : V' B 8 = L' 200) (o : ∀ j, j < 200 → L' j = L j) : ∃ T', cI G R V' B M S T' ow us w W L' I := by
  have lB := cC_lt h.c
  have hM := h.c.hM
  have hk : ∀ c, c ≠ B → miU T B (L' 200) c = T c := fun c z => miU_n z
  have t : tch G R T ow B G R (miU T B (L' 200)) ow := ⟨gX2_refl, fun c z1 z2 => hk c (fun q => z2 (by rw [q]; exact h.c.bo B (by omega) (by omega))), fun _ _ _ _ => rfl, fun _ _ => rfl⟩
  have hN2 : ∀ b2 d, bN G R T ow us B b2 d → bN G R (miU T B (L' 200)) ow us B b2 d := by
    intro b2 d q
    obtain ⟨q1, g2, j, q2, q3, q4, q5⟩ := q
    obtain ⟨j', ej, hj'⟩ := nat_i (n := 5) q2
    have q4' := q4
    rw [ej] at q4'
    have gu := (cI_g h hj' q4').2
    exact ⟨bU_m q1 t (ob (ly1_o q1.1.ly) (ly7_o h.c.ly) (by omega)), g2, j, q2, q3, q4, q5.1, lkT_t q5.2 gu t (ob (gU_o gu).1 (ly7_o h.c.ly) (by omega))⟩
  refine ⟨miU T B (L' 200), cI.mk (miU_th th e) (cC.mk h.c.ly (fT_m h.c.fi gX2_refl (fun _ => rfl) (fun c z1 z2 => hk c (by omega))) (kT_m h.c.mk' gX2_refl (fun _ => rfl) (fun c z1 z2 => hk c (by omega))) (by rw [hk _ (by omega)]; exact h.c.sc) (fun v => by rw [miU_i (by omega)]; exact h.c.re v) (fun v => miU_8) ?_ h.c.rb h.c.bo h.c.lm h.c.mo (fun c i v z1 z2 => by rw [hk c (by omega)]; exact h.c.fz c i v z1 z2) hM) ?_ h.gd ?_ (hN2 _ _ h.be) h.sz h.ix h.iy (rwT_m h.kr (hk _ (by omega)) (hk _ (by omega))) (ki_m h (fun b3 d3 q3 => tch_b q3 t (ob (ly1_o q3.1.1.ly) (ly7_o h.c.ly) (by omega))))⟩
  · intro j hj
    rw [hk _ (by omega), hk _ (by omega), o _ (by omega), o _ (by omega)]
    obtain ⟨q1, q2, q3, q4, q5⟩ := h.c.sh j hj
    refine ⟨q1, q2, q3, q4, fun i v => ?_⟩
    rw [q5 i v]
    exact ⟨fun z i0 i1 => by rw [o _ (by omega)]; exact z i0 i1, fun z i0 i1 => by rw [← o _ (by omega)]; exact z i0 i1⟩
  · intro j hj
    rcases h.gr j hj with z | ⟨g2, z1, z2, z3⟩
    · exact Or.inl z
    · exact Or.inr ⟨g2, z1, z2, gU_m z3 t (ob (gU_o z3).1 (ly7_o h.c.ly) (by omega))⟩
  · intro k hk
    rcases h.im k hk with z | ⟨b2, z1, z2, z3, z4⟩
    · exact Or.inl z
    · exact Or.inr ⟨b2, z1, z2, z3, hN2 b2 _ z4⟩
theorem cI_newg (h : cI G R V B M S T ow us w W L I) {i : Nat} (hi : i < 5) (hn : R (B + 19) (i : Int) = -1) (hA : A = G.length) (eG : G' = G ++ [gO 2] ++ lg) (hR : ∀ c j, (c < A ∨ A + 22 < c) → R' c j = R c j) (th' : TH (nT (nT T (A + 1) 8 P6) (A + 10) 12 P4) V') (gt : gT2 G' R' (nT (nT T (A + 1) 8 P6) (A + 10) 12 P4) A (A + 9) 1 1 1 (A + 22) 1 1) : ∃ T' ow' us' w', cI G' (wr R' (B + 19) (i : Int) (A : Int)) V' B M S T' ow' us' w' W L I := by
  have lB := cC_lt h.c
  have hM := h.c.hM
  have hG : gX2 G G' := by rw [eG]; exact gX2_t gX2_app gX2_app
  have tT : ∀ c, c < A → nT (nT T (A + 1) 8 P6) (A + 10) 12 P4 c = T c := fun c z => by rw [nT_o (by omega), nT_o (by omega)]
  generalize nT (nT T (A + 1) 8 P6) (A + 10) 12 P4 = T' at *
  have rA : ∀ c j, c < A → c ≠ B + 19 → wr R' (B + 19) (i : Int) (A : Int) c j = R c j := fun c j z1 z2 => by rw [wr_a z2, hR c j (Or.inl z1)]
  have gUm : ∀ g2 (u2 : Prop) x2, gU G R T ow u2 g2 x2 → gU G' (wr R' (B + 19) (i : Int) (A : Int)) T' (fun c => if c < A then ow c else A) u2 g2 x2 := by
    intro g2 u2 x2 z
    have zo := gU_o z
    refine gU_m (x := B) z ⟨hG, fun c z1 _ => tT c (by omega), fun c j z1 z2 => rA c j (by omega) (fun q => z2 (by rw [q]; exact h.c.bo _ (by omega) (by omega))), fun c z1 => if_pos (by omega)⟩ (ob zo.1 (ly7_o h.c.ly) (by omega))
  have hN2 : ∀ b2 d, bN G R T ow us B b2 d → bN G' (wr R' (B + 19) (i : Int) (A : Int)) T' (fun c => if c < A then ow c else A) (fun c => if c = A then True else us c) B b2 d := by
    intro b2 d q
    obtain ⟨q1, g2, j, q2, q3, q4, q5⟩ := q
    have lb := bT_lt q1.1
    have nB : b2 ≠ B := ob (ly1_o q1.1.ly) (ly7_o h.c.ly) (by omega)
    have n19 : b2 ≠ B + 19 := fun q => by have z1 := q1.2 b2 (by omega) (by omega); have z2 := h.c.bo (B + 19) (by omega) (by omega); rw [← q] at z2; omega
    refine ⟨bU_m (x := B) q1 ⟨hG, fun c z1 _ => tT c (by omega), fun c j z1 z2 => rA c j (by omega) (fun q => z2 (by rw [q]; exact h.c.bo _ (by omega) (by omega))), fun c z1 => if_pos (by omega)⟩ nB, g2, j, q2, by rw [rA _ _ (by omega) n19]; exact q3, ?_, ?_, ?_⟩
    · rw [wr_i (fun z => by rw [z, hn] at q4; omega), hR _ _ (by omega)]; exact q4
    · show (if g2 = A then True else us g2)
      split
      · trivial
      · exact q5.1
    · obtain ⟨j', ej, hj'⟩ := nat_i (n := 5) q2
      rw [ej] at q4
      exact lkT_t (x := B) q5.2 (cI_g h hj' q4).2 ⟨hG, fun c z1 _ => tT c (by omega), fun c j z1 z2 => rA c j (by omega) (fun q => z2 (by rw [q]; exact h.c.bo _ (by omega) (by omega))), fun c z1 => (if_pos (by omega) : (if c < A then ow c else A) = ow c)⟩ (ob (gU_o (cI_g h hj' q4).2).1 (ly7_o h.c.ly) (by omega))
  refine ⟨T', fun c => if c < A then ow c else A, fun c => if c = A then True else us c, upN w i 5004, cI.mk th' (cC_m h.c hG (fun c z _ => tT c (by omega)) (fun c j z1 _ z2 _ => rA c j (by omega) z2) (fun c z => if_pos (by omega))) ?_ ?_ ?_ (hN2 _ _ h.be) ?_ ?_ ?_ (kr_m h (fun c _ _ => tT c (by omega))) (fun k b2 hk e => ki_m h (fun b3 d3 q3 c z1 z2 => tT c (by have := bT_lt q3.1.1; omega)) k b2 hk (by rw [rA _ _ (by omega) (by omega)] at e; exact e))⟩
  · intro j hj
    by_cases q : j = i
    · subst q
      right
      refine ⟨A, wr_same _ _ _ _, by omega, A + 9, 1, 1, 1, A + 22, 1, 1, gI.mk (gT2_m gt gX2_refl (fun c j z1 z2 => wr_a (by omega)) (fun _ _ _ => rfl) rfl rfl) (by omega) (by omega) (by omega) (by omega) (by omega) (by omega), fun _ => by omega, fun c z1 z2 => if_neg (by omega), if_neg (by omega), if_neg (by omega), upN_s⟩
    · rw [wr_i (by omega), hR _ _ (by omega), upN_n q]
      rcases h.gr j hj with z | ⟨g2, z1, z2, z3⟩
      · exact Or.inl z
      · right
        have lg := gU_lt z3
        refine ⟨g2, z1, z2, ?_⟩
        have ne : g2 ≠ A := by omega
        simp only [ne, if_false]
        exact gUm _ _ _ z3
  · intro j1 j2 g2 z1 z2 z3 z4
    by_cases q1 : j1 = i
    · by_cases q2 : j2 = i
      · omega
      · subst q1
        rw [wr_same] at z3
        rw [wr_i (by omega), hR _ _ (by omega)] at z4
        have := gU_lt (cI_g h z2 z4).2
        omega
    · rw [wr_i (by omega), hR _ _ (by omega)] at z3
      by_cases q2 : j2 = i
      · subst q2
        rw [wr_same] at z4
        have := gU_lt (cI_g h z1 z3).2
        omega
      · rw [wr_i (by omega), hR _ _ (by omega)] at z4
        exact h.gd j1 j2 g2 z1 z2 z3 z4
  · intro k hk
    rw [rA _ _ (by omega) (by omega), upN_n (by omega)]
    rcases h.im k hk with z | ⟨b2, z1, z2, z3, z4⟩
    · exact Or.inl z
    · exact Or.inr ⟨b2, z1, z2, z3, hN2 b2 _ z4⟩
  · have := sw_up (w := w) (k := i) (x := 5004) (by omega)
    have := h.sz
    have wi : w i = 0 := by
      rcases h.gr i hi with z | ⟨g2, z1, z2, z3⟩
      · exact z.2
      · rw [hn] at z1; omega
    rw [eG, szG_app, szG_app]
    have e1 : szG [gO 2] ≤ 10 := lgsz1
    have e2 : szG lg ≤ 4900 := lgsz2
    omega
  · intro j k b2 z1 z2
    rw [rA _ _ (by omega) (by omega), rA _ _ (by omega) (by omega)]
    exact h.ix j k b2 z1 z2
  · intro k b2 z1
    rw [rA _ _ (by omega) (by omega)]
    exact h.iy k b2 z1
theorem cI_newb (h : cI G R V B M S T ow us w W L I) {k g i : Nat} (hk : k < 3) (hn : R (B + 20) (k : Int) = -1) (hi : i < 5) (hg : R (B + 19) (i : Int) = (g : Int)) (hu : us g) {d : gD} (hd : lkT T R g d) (hA : A = G.length) (eG : G' = G ++ [gO 1] ++ l1) (hR : ∀ c j, c ≠ A → R' c j = R c j) (rA0 : R' A 0 = (g : Int)) (th' : TH (nT T A 4 P1) V') (bt : bT G' R' (nT T A 4 P1) A) : ∃ T' ow' us' w', cI G' (wr R' (B + 20) (k : Int) (A : Int)) V' B M S T' ow' us' w' W L (fun j => if j = (k : Int) then d else if j = 10 + (k : Int) then (fun _ _ => 1) else if j = 20 + (k : Int) then (fun _ _ => 0) else I j) ∧ TH T' V' ∧ us' g := by
  have lB := cC_lt h.c
  have hM := h.c.hM
  have hG : gX2 G G' := by rw [eG]; exact gX2_t gX2_app gX2_app
  have tT : ∀ c, c < A → nT T A 4 P1 c = T c := fun c z => nT_o (by omega)
  have t0 : ∀ v, nT T A 4 P1 A 3 v → v = 0 := by rw [nT_0]; exact fun v y => y rfl
  generalize nT T A 4 P1 = T' at *
  have rA : ∀ c j, c < A → c ≠ B + 20 → wr R' (B + 20) (k : Int) (A : Int) c j = R c j := fun c j z1 z2 => by rw [wr_a z2, hR c j (by omega)]
  have gUm : ∀ g2 (u2 : Prop) x2, gU G R T ow u2 g2 x2 → gU G' (wr R' (B + 20) (k : Int) (A : Int)) T' (fun c => if c < A then ow c else A) u2 g2 x2 := by
    intro g2 u2 x2 z
    have zo := gU_o z
    refine gU_m (x := B) z ⟨hG, fun c z1 _ => tT c (by omega), fun c j z1 z2 => rA c j (by omega) (fun q => z2 (by rw [q]; exact h.c.bo _ (by omega) (by omega))), fun c z1 => if_pos (by omega)⟩ (ob zo.1 (ly7_o h.c.ly) (by omega))
  have lkm : ∀ g2 d2 (u2 : Prop) x2, gU G R T ow u2 g2 x2 → lkT T R g2 d2 → lkT T' (wr R' (B + 20) (k : Int) (A : Int)) g2 d2 := fun g2 d2 u2 x2 z zl => lkT_t (ow' := fun c => if c < A then ow c else A) (x := B) zl z ⟨hG, fun c z1 _ => tT c (by omega), fun c j z1 z2 => rA c j (by omega) (fun q => z2 (by rw [q]; exact h.c.bo _ (by omega) (by omega))), fun c z1 => if_pos (by omega)⟩ (ob (gU_o z).1 (ly7_o h.c.ly) (by omega))
  have hN2 : ∀ b2 d2, bN G R T ow us B b2 d2 → bN G' (wr R' (B + 20) (k : Int) (A : Int)) T' (fun c => if c < A then ow c else A) us B b2 d2 := by
    intro b2 d2 q
    obtain ⟨q1, g2, j, q2, q3, q4, q5⟩ := q
    have lb := bT_lt q1.1
    have nB : b2 ≠ B := ob (ly1_o q1.1.ly) (ly7_o h.c.ly) (by omega)
    have n19 : b2 ≠ B + 20 := fun q => by have z1 := q1.2 b2 (by omega) (by omega); have z2 := h.c.bo (B + 20) (by omega) (by omega); rw [← q] at z2; omega
    obtain ⟨j', ej, hj'⟩ := nat_i (n := 5) q2
    have q4' := q4
    rw [ej] at q4'
    exact ⟨bU_m (x := B) q1 ⟨hG, fun c z1 _ => tT c (by omega), fun c j z1 z2 => rA c j (by omega) (fun q => z2 (by rw [q]; exact h.c.bo _ (by omega) (by omega))), fun c z1 => if_pos (by omega)⟩ nB, g2, j, q2, by rw [rA _ _ (by omega) n19]; exact q3, by rw [rA _ _ (by omega) (by omega)]; exact q4, q5.1, lkm _ _ _ _ (cI_g h hj' q4').2 q5.2⟩
  refine ⟨T', fun c => if c < A then ow c else A, us, upN w (5 + k) 6000, cI.mk th' (cC_m h.c hG (fun c z _ => tT c (by omega)) (fun c j z1 _ _ z2 => rA c j (by omega) z2) (fun c z => if_pos (by omega))) ?_ ?_ ?_ ?_ ?_ ?_ ?_ (by rw [if_neg (by omega), if_neg (by omega), if_neg (by omega)]; exact kr_m h (fun c _ _ => tT c (by omega))) (fun j b2 hj e => ?_), th', hu⟩
  rotate_right
  · by_cases q : j = k
    · subst q
      rw [wr_same] at e
      have eb : b2 = A := by omega
      rw [eb, if_neg (by omega), if_neg (by omega), if_pos rfl]
      exact ⟨t0, fun i v i0 i1 => by have i2 : i < 0 := i1; omega⟩
    · rw [wr_i (by omega), hR _ _ (by omega)] at e
      rw [if_neg (by omega), if_neg (by omega), if_neg (by omega)]
      exact ki_m h (fun b3 d3 q3 c z1 z2 => tT c (by have := bT_lt q3.1.1; omega)) j b2 hj e
  · intro j hj
    rw [rA _ _ (by omega) (by omega), upN_n (by omega)]
    rcases h.gr j hj with z | ⟨g2, z1, z2, z3⟩
    · exact Or.inl z
    · exact Or.inr ⟨g2, z1, z2, gUm _ _ _ z3⟩
  · intro j1 j2 g2 z1 z2
    rw [rA _ _ (by omega) (by omega), rA _ _ (by omega) (by omega)]
    exact h.gd j1 j2 g2 z1 z2
  · intro j hj
    by_cases q : j = k
    · subst q
      right
      refine ⟨A, wr_same _ _ _ _, by rw [if_neg (by omega), if_pos rfl], upN_s, ⟨bT_m bt gX2_refl (fun i _ => wr_a (by omega)) (fun _ _ _ => rfl), fun c z1 z2 => if_neg (by omega)⟩, g, i, by omega, by rw [wr_a (by omega)]; exact rA0, by rw [rA _ _ (by omega) (by omega)]; exact hg, hu, by rw [if_pos rfl]; exact lkm _ _ _ _ (cI_g h hi hg).2 hd⟩
    · rw [wr_i (by omega), hR _ _ (by omega), upN_n (by omega), if_neg (show ¬ ((10 + j : Int) = (k : Int)) by omega), if_neg (show ¬ ((10 + j : Int) = 10 + (k : Int)) by omega), if_neg (show ¬ ((10 + j : Int) = 20 + (k : Int)) by omega), if_neg (show ¬ ((j : Int) = (k : Int)) by omega), if_neg (show ¬ ((j : Int) = 10 + (k : Int)) by omega), if_neg (show ¬ ((j : Int) = 20 + (k : Int)) by omega)]
      rcases h.im j hj with z | ⟨b2, z1, z2, z3, z4⟩
      · exact Or.inl z
      · exact Or.inr ⟨b2, z1, z2, z3, hN2 b2 _ z4⟩
  · rw [if_neg (by omega), if_neg (by omega), if_neg (by omega)]; exact hN2 _ _ h.be
  · have := sw_up (w := w) (k := 5 + k) (x := 6000) (by omega)
    have := h.sz
    have wi : w (5 + k) = 0 := by
      rcases h.im k hk with z | ⟨b2, z1, z2⟩
      · exact z.2.2
      · rw [hn] at z1; omega
    rw [eG, szG_app, szG_app]
    have e1 : szG [gO 1] ≤ 10 := l1sz1
    have e2 : szG l1 ≤ 5200 := l1sz2
    omega
  · intro j1 j2 b2 z1 z2 z3 z4
    have old : ∀ j : Nat, j < 3 → j ≠ k → wr R' (B + 20) (k : Int) (A : Int) (B + 20) (j : Int) = R (B + 20) (j : Int) := fun j _ hj => by rw [wr_i (by omega), hR _ _ (by omega)]
    have lt : ∀ j : Nat, j < 3 → j ≠ k → wr R' (B + 20) (k : Int) (A : Int) (B + 20) (j : Int) = (b2 : Int) → b2 < A := fun j hj nj e => by
      rw [old j hj nj] at e
      obtain ⟨d3, q⟩ := cI_b (b := b2) h (Or.inr ⟨j, hj, e⟩)
      have := bT_lt q.1.1
      omega
    by_cases y1 : j1 = k
    · by_cases y2 : j2 = k
      · omega
      · have := lt j2 z2 y2 z4
        rw [y1, wr_same] at z3
        omega
    · by_cases y2 : j2 = k
      · have := lt j1 z1 y1 z3
        rw [y2, wr_same] at z4
        omega
      · rw [old j1 z1 y1] at z3
        rw [old j2 z2 y2] at z4
        exact h.ix j1 j2 b2 z1 z2 z3 z4
  · intro j b2 z1 z2
    by_cases y : j = k
    · rw [y, wr_same] at z2; omega
    · rw [wr_i (by omega), hR _ _ (by omega)] at z2
      exact h.iy j b2 z1 z2
def shT (T : gT) (b : Nat) : gT := fun c i v => if c = b ∨ c = b + 1 then True else T c i v
def shU (T : gT) (b : Nat) (A C : Int) (F : Int → Int) : gT := fun c i v => if c = b then ((i = 1 → v = A) ∧ (i = 2 → v = C)) else if c = b + 1 then (0 ≤ i → i < 8 → v = F i) else T c i v
theorem shT_s {c : Nat} {i v : Int} (h : c = b ∨ c = b + 1) : shT T b c i v := by unfold shT; rw [if_pos h]; trivial
theorem shT_th (th : TH T V) : TH (shT T b) V := by
  intro c i
  unfold shT
  split
  · trivial
  · exact th c i
theorem shU_n {A C : Int} {F : Int → Int} {c : Nat} (h : ¬ (c = b ∨ c = b + 1)) : shU T b A C F c = T c := by
  funext i v
  unfold shU
  rw [if_neg (by omega), if_neg (by omega)]
theorem shU_th {A C : Int} {F : Int → Int} (th : TH (shT T b) V) (e1 : V b 1 = A) (e2 : V b 2 = C) (e3 : ∀ i, 0 ≤ i → i < 8 → V (b + 1) i = F i) : TH (shU T b A C F) V := by
  intro c i
  have q := th c i
  unfold shT at q
  unfold shU
  by_cases h : c = b
  · rw [if_pos h, h]
    exact ⟨fun z => by rw [z]; exact e1, fun z => by rw [z]; exact e2⟩
  · rw [if_neg h]
    by_cases h2 : c = b + 1
    · rw [if_pos h2, h2]; exact e3 i
    · rw [if_neg h2]
      rw [if_neg (by omega)] at q
      exact q
theorem cI_sheet (h : cI G R V B M S T ow us w W L I) {s : Nat} (hs : s < 4) {L' : Int → Int} (th' : TH (shT T (B + 21 + 2 * s)) V') (e1 : V' (B + 21 + 2 * s) 1 = L' (10 + s)) (e2 : V' (B + 21 + 2 * s) 2 = L' s) (e3 : ∀ i, 0 ≤ i → i < 8 → V' (B + 21 + 2 * s + 1) i = L' (100 + 8 * s + i)) (o : ∀ j : Nat, j < 4 → j ≠ s → L' j = L j ∧ L' (10 + j) = L (10 + j) ∧ ∀ i, 0 ≤ i → i < 8 → L' (100 + 8 * j + i) = L (100 + 8 * j + i)) (o2 : L' 200 = L 200) : ∃ T', cI G R V' B M S T' ow us w W L' I := by
  have lB := cC_lt h.c
  have hM := h.c.hM
  have hk : ∀ c, ¬ (c = B + 21 + 2 * s ∨ c = B + 21 + 2 * s + 1) → shU T (B + 21 + 2 * s) (L' (10 + s)) (L' s) (fun i => L' (100 + 8 * s + i)) c = T c := fun c z => shU_n z
  have h1 : ∀ v, shU T (B + 21 + 2 * s) (L' (10 + s)) (L' s) (fun i => L' (100 + 8 * s + i)) (B + 21 + 2 * s) 1 v ↔ v = L' (10 + s) := fun v => by unfold shU; rw [if_pos rfl]; simp
  have h2 : ∀ v, shU T (B + 21 + 2 * s) (L' (10 + s)) (L' s) (fun i => L' (100 + 8 * s + i)) (B + 21 + 2 * s) 2 v ↔ v = L' s := fun v => by unfold shU; rw [if_pos rfl]; simp
  have h3 : ∀ i v, shU T (B + 21 + 2 * s) (L' (10 + s)) (L' s) (fun i => L' (100 + 8 * s + i)) (B + 21 + 2 * s + 1) i v ↔ (0 ≤ i → i < 8 → v = L' (100 + 8 * s + i)) := fun i v => by unfold shU; rw [if_neg (by omega), if_pos rfl]
  have th2 : TH (shU T (B + 21 + 2 * s) (L' (10 + s)) (L' s) (fun i => L' (100 + 8 * s + i))) V' := shU_th th' e1 e2 e3
  generalize shU T (B + 21 + 2 * s) (L' (10 + s)) (L' s) (fun i => L' (100 + 8 * s + i)) = T' at *
  have oC : ∀ c, (c = B + 21 + 2 * s ∨ c = B + 21 + 2 * s + 1) → ow c = B := fun c q => h.c.bo c (by omega) (by omega)
  have t : tch G R T ow B G R T' ow := ⟨gX2_refl, fun c z1 z2 => hk c (fun q => z2 (oC c q)), fun _ _ _ _ => rfl, fun _ _ => rfl⟩
  have hN2 : ∀ b2 d, bN G R T ow us B b2 d → bN G R T' ow us B b2 d := by
    intro b2 d q
    obtain ⟨q1, g2, j, q2, q3, q4, q5⟩ := q
    obtain ⟨j', ej, hj'⟩ := nat_i (n := 5) q2
    have q4' := q4
    rw [ej] at q4'
    have gu := (cI_g h hj' q4').2
    exact ⟨bU_m q1 t (ob (ly1_o q1.1.ly) (ly7_o h.c.ly) (by omega)), g2, j, q2, q3, q4, q5.1, lkT_t q5.2 gu t (ob (gU_o gu).1 (ly7_o h.c.ly) (by omega))⟩
  refine ⟨T', cI.mk th2 (cC.mk h.c.ly (fT_m h.c.fi gX2_refl (fun _ => rfl) (fun c z1 z2 => hk c (by omega))) (kT_m h.c.mk' gX2_refl (fun _ => rfl) (fun c z1 z2 => hk c (by omega))) (by rw [hk _ (by omega)]; exact h.c.sc) (by rw [hk _ (by omega)]; exact h.c.re) (by rw [hk _ (by omega), o2]; exact h.c.mi) ?_ h.c.rb h.c.bo h.c.lm h.c.mo (fun c i v z1 z2 => by rw [hk c (by omega)]; exact h.c.fz c i v z1 z2) hM) ?_ h.gd ?_ (hN2 _ _ h.be) h.sz h.ix h.iy (rwT_m h.kr (tch_b h.be t (ob (ly1_o h.be.1.1.ly) (ly7_o h.c.ly) (by omega)) _ (by omega) (by omega)) (tch_b h.be t (ob (ly1_o h.be.1.1.ly) (ly7_o h.c.ly) (by omega)) _ (by omega) (by omega))) (ki_m h (fun b3 d3 q3 => tch_b q3 t (ob (ly1_o q3.1.1.ly) (ly7_o h.c.ly) (by omega))))⟩
  · intro j hj
    obtain ⟨q1, q2, q3, q4, q5⟩ := h.c.sh j hj
    by_cases q : j = s
    · subst q
      exact ⟨q1, q2, h1, h2, h3⟩
    · obtain ⟨o1, o2, o3⟩ := o j hj q
      rw [hk _ (by omega), hk _ (by omega), o1, o2]
      refine ⟨q1, q2, q3, q4, fun i v => ?_⟩
      rw [q5 i v]
      exact ⟨fun z i0 i1 => by rw [o3 i i0 i1]; exact z i0 i1, fun z i0 i1 => by rw [← o3 i i0 i1]; exact z i0 i1⟩
  · intro j hj
    rcases h.gr j hj with z | ⟨g2, z1, z2, z3⟩
    · exact Or.inl z
    · exact Or.inr ⟨g2, z1, z2, gU_m z3 t (ob (gU_o z3).1 (ly7_o h.c.ly) (by omega))⟩
  · intro k hk
    rcases h.im k hk with z | ⟨b2, z1, z2, z3, z4⟩
    · exact Or.inl z
    · exact Or.inr ⟨b2, z1, z2, z3, hN2 b2 _ z4⟩
theorem cI_model (h : cI G R V B M S T ow us w W L I) (hV : ∀ c i, ¬ (M ≤ c ∧ c ≤ M + 35) → V' c i = V c i) : ∃ T', cI G R V' B M S T' ow us w V' L I := by
  have lB := cC_lt h.c
  have hM := h.c.hM
  have hk : ∀ c, ¬ (M ≤ c ∧ c ≤ M + 35) → (fun c i v => if M ≤ c ∧ c ≤ M + 35 then v = V' c i else T c i v) c = T c := fun c z => by funext i v; dsimp only; rw [if_neg z]
  have h1 : ∀ c i v, M ≤ c → c ≤ M + 35 → (fun c i v => if M ≤ c ∧ c ≤ M + 35 then v = V' c i else T c i v) c i v → v = V' c i := fun c i v z1 z2 z => by dsimp only at z; rw [if_pos ⟨z1, z2⟩] at z; exact z
  have th2 : TH (fun c i v => if M ≤ c ∧ c ≤ M + 35 then v = V' c i else T c i v) V' := by
    intro c i
    by_cases z : M ≤ c ∧ c ≤ M + 35
    · rw [if_pos z]
    · rw [if_neg z, hV c i z]; exact h.th c i
  obtain ⟨T', eT⟩ : ∃ T' : gT, T' = (fun c i v => if M ≤ c ∧ c ≤ M + 35 then v = V' c i else T c i v) := ⟨_, rfl⟩
  rw [← eT] at hk h1 th2
  have t : tch G R T ow M G R T' ow := ⟨gX2_refl, fun c z1 z2 => hk c (fun q => z2 (h.c.mo c q.1 q.2)), fun _ _ _ _ => rfl, fun _ _ => rfl⟩
  have hN2 : ∀ b2 d, bN G R T ow us B b2 d → bN G R T' ow us B b2 d := by
    intro b2 d q
    obtain ⟨q1, g2, j, q2, q3, q4, q5⟩ := q
    obtain ⟨j', ej, hj'⟩ := nat_i (n := 5) q2
    have q4' := q4
    rw [ej] at q4'
    have gu := (cI_g h hj' q4').2
    exact ⟨bU_m q1 t (ob (ly1_o q1.1.ly) (ly8_o h.c.lm) (by omega)), g2, j, q2, q3, q4, q5.1, lkT_t q5.2 gu t (ob (gU_o gu).1 (ly8_o h.c.lm) (by omega))⟩
  refine ⟨T', cI.mk th2 (cC.mk h.c.ly (fT_m h.c.fi gX2_refl (fun _ => rfl) (fun c z1 z2 => hk c (by omega))) (kT_m h.c.mk' gX2_refl (fun _ => rfl) (fun c z1 z2 => hk c (by omega))) (by rw [hk _ (by omega)]; exact h.c.sc) (by rw [hk _ (by omega)]; exact h.c.re) (by rw [hk _ (by omega)]; exact h.c.mi) ?_ h.c.rb h.c.bo h.c.lm h.c.mo h1 hM) ?_ h.gd ?_ (hN2 _ _ h.be) h.sz h.ix h.iy (rwT_m h.kr (tch_b h.be t (ob (ly1_o h.be.1.1.ly) (ly8_o h.c.lm) (by omega)) _ (by omega) (by omega)) (tch_b h.be t (ob (ly1_o h.be.1.1.ly) (ly8_o h.c.lm) (by omega)) _ (by omega) (by omega))) (ki_m h (fun b3 d3 q3 => tch_b q3 t (ob (ly1_o q3.1.1.ly) (ly8_o h.c.lm) (by omega))))⟩
  · intro j hj
    rw [hk _ (by omega), hk _ (by omega)]
    exact h.c.sh j hj
  · intro j hj
    rcases h.gr j hj with z | ⟨g2, z1, z2, z3⟩
    · exact Or.inl z
    · exact Or.inr ⟨g2, z1, z2, gU_m z3 t (ob (gU_o z3).1 (ly8_o h.c.lm) (by omega))⟩
  · intro k hk
    rcases h.im k hk with z | ⟨b2, z1, z2, z3, z4⟩
    · exact Or.inl z
    · exact Or.inr ⟨b2, z1, z2, z3, hN2 b2 _ z4⟩
end
