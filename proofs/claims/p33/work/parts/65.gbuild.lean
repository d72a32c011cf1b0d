/-! how many numbers a heap holds -/
noncomputable def gsz (s : gS) : Nat := match s with
  | .inl ci => (zkinds ci).length
  | .inr q => q.2
noncomputable def szG (G : List gS) : Nat := (G.map gsz).sum
theorem szG_app (G H : List gS) : szG (G ++ H) = szG G + szG H := by simp [szG]
theorem gR_s {G G' : List gS} {p n p' n' L : Nat} (h : gR G p n G' p' n' L) : ∃ ex, G' = G ++ ex ∧ ex.length ≤ 1 ∧ szG ex + 2 * n ≤ 2 * n' := by
  rcases h with ⟨h1, h2, h3⟩ | ⟨h1, h2, h3, h4⟩
  · exact ⟨[], by rw [h1, List.append_nil], by simp, by rw [h3]; simp [szG]⟩
  · refine ⟨[gA 0 n'], h1, by simp, ?_⟩
    simp [szG, gsz]
    omega
theorem gR_p {G G' : List gS} {p n p' n' L : Nat} (h : gR G p n G' p' n' L) : (p' = p ∨ p' = G.length) ∧ (n ≤ L → n' ≤ L) := by
  rcases h with ⟨h1, h2, h3⟩ | ⟨h1, h2, h3, h4⟩
  · exact ⟨Or.inl h2, fun h => by omega⟩
  · exact ⟨Or.inr h2, fun _ => h4⟩
/-! groups are built -/
def gI (G : List gS) (R : gV) (T : gT) (g p n : Nat) (C D : Int) (o m : Nat) (E : Int) : Prop := (gT2 G R T g p n C D o m E) ∧ (g + 8 < p) ∧ (p < g + 10 ∨ g + 21 < p) ∧ (g + 21 < o) ∧ (p ≠ o) ∧ (n ≤ 28800) ∧ (m ≤ 180000)
theorem gI.u {G : List gS} {R : gV} {T : gT} {g p n : Nat} {C D : Int} {o m : Nat} {E : Int} (h : gI G R T g p n C D o m E) : gT2 G R T g p n C D o m E := h.1
theorem gI.p1 {G : List gS} {R : gV} {T : gT} {g p n : Nat} {C D : Int} {o m : Nat} {E : Int} (h : gI G R T g p n C D o m E) : g + 8 < p := h.2.1
theorem gI.p2 {G : List gS} {R : gV} {T : gT} {g p n : Nat} {C D : Int} {o m : Nat} {E : Int} (h : gI G R T g p n C D o m E) : p < g + 10 ∨ g + 21 < p := h.2.2.1
theorem gI.o1 {G : List gS} {R : gV} {T : gT} {g p n : Nat} {C D : Int} {o m : Nat} {E : Int} (h : gI G R T g p n C D o m E) : g + 21 < o := h.2.2.2.1
theorem gI.po {G : List gS} {R : gV} {T : gT} {g p n : Nat} {C D : Int} {o m : Nat} {E : Int} (h : gI G R T g p n C D o m E) : p ≠ o := h.2.2.2.2.1
theorem gI.n1 {G : List gS} {R : gV} {T : gT} {g p n : Nat} {C D : Int} {o m : Nat} {E : Int} (h : gI G R T g p n C D o m E) : n ≤ 28800 := h.2.2.2.2.2.1
theorem gI.m1 {G : List gS} {R : gV} {T : gT} {g p n : Nat} {C D : Int} {o m : Nat} {E : Int} (h : gI G R T g p n C D o m E) : m ≤ 180000 := h.2.2.2.2.2.2
theorem gI.mk {G : List gS} {R : gV} {T : gT} {g p n : Nat} {C D : Int} {o m : Nat} {E : Int} (h_u : gT2 G R T g p n C D o m E) (h_p1 : g + 8 < p) (h_p2 : p < g + 10 ∨ g + 21 < p) (h_o1 : g + 21 < o) (h_po : p ≠ o) (h_n1 : n ≤ 28800) (h_m1 : m ≤ 180000) : gI G R T g p n C D o m E := ⟨h_u, h_p1, h_p2, h_o1, h_po, h_n1, h_m1⟩
def gIB (G : List gS) (R : gV) (T : gT) (g p n : Nat) (C D : Int) (o m : Nat) (E : Int) : Prop := (lay2 G R g) ∧ (tTB G R T (g + 1) p n C D) ∧ (hT G R T (g + 10) o m E) ∧ (hB T (g + 10) o) ∧ (g + 8 < p) ∧ (p < g + 10 ∨ g + 21 < p) ∧ (g + 21 < o) ∧ (p ≠ o) ∧ (n ≤ 28800) ∧ (m ≤ 180000)
theorem gIB.ly {G : List gS} {R : gV} {T : gT} {g p n : Nat} {C D : Int} {o m : Nat} {E : Int} (h : gIB G R T g p n C D o m E) : lay2 G R g := h.1
theorem gIB.t {G : List gS} {R : gV} {T : gT} {g p n : Nat} {C D : Int} {o m : Nat} {E : Int} (h : gIB G R T g p n C D o m E) : tTB G R T (g + 1) p n C D := h.2.1
theorem gIB.h {G : List gS} {R : gV} {T : gT} {g p n : Nat} {C D : Int} {o m : Nat} {E : Int} (h : gIB G R T g p n C D o m E) : hT G R T (g + 10) o m E := h.2.2.1
theorem gIB.b {G : List gS} {R : gV} {T : gT} {g p n : Nat} {C D : Int} {o m : Nat} {E : Int} (h : gIB G R T g p n C D o m E) : hB T (g + 10) o := h.2.2.2.1
theorem gIB.p1 {G : List gS} {R : gV} {T : gT} {g p n : Nat} {C D : Int} {o m : Nat} {E : Int} (h : gIB G R T g p n C D o m E) : g + 8 < p := h.2.2.2.2.1
theorem gIB.p2 {G : List gS} {R : gV} {T : gT} {g p n : Nat} {C D : Int} {o m : Nat} {E : Int} (h : gIB G R T g p n C D o m E) : p < g + 10 ∨ g + 21 < p := h.2.2.2.2.2.1
theorem gIB.o1 {G : List gS} {R : gV} {T : gT} {g p n : Nat} {C D : Int} {o m : Nat} {E : Int} (h : gIB G R T g p n C D o m E) : g + 21 < o := h.2.2.2.2.2.2.1
theorem gIB.po {G : List gS} {R : gV} {T : gT} {g p n : Nat} {C D : Int} {o m : Nat} {E : Int} (h : gIB G R T g p n C D o m E) : p ≠ o := h.2.2.2.2.2.2.2.1
theorem gIB.n1 {G : List gS} {R : gV} {T : gT} {g p n : Nat} {C D : Int} {o m : Nat} {E : Int} (h : gIB G R T g p n C D o m E) : n ≤ 28800 := h.2.2.2.2.2.2.2.2.1
theorem gIB.m1 {G : List gS} {R : gV} {T : gT} {g p n : Nat} {C D : Int} {o m : Nat} {E : Int} (h : gIB G R T g p n C D o m E) : m ≤ 180000 := h.2.2.2.2.2.2.2.2.2
theorem gIB.mk {G : List gS} {R : gV} {T : gT} {g p n : Nat} {C D : Int} {o m : Nat} {E : Int} (h_ly : lay2 G R g) (h_t : tTB G R T (g + 1) p n C D) (h_h : hT G R T (g + 10) o m E) (h_b : hB T (g + 10) o) (h_p1 : g + 8 < p) (h_p2 : p < g + 10 ∨ g + 21 < p) (h_o1 : g + 21 < o) (h_po : p ≠ o) (h_n1 : n ≤ 28800) (h_m1 : m ≤ 180000) : gIB G R T g p n C D o m E := ⟨h_ly, h_t, h_h, h_b, h_p1, h_p2, h_o1, h_po, h_n1, h_m1⟩
def gbP (G : List gS) (R : gV) (T : gT) (g p n o m : Nat) (v : Int) (qd : Int → Int) (G' : List gS) (R' V' : gV) : Prop := ∃ (T' : gT) (p' n' : Nat) (C' D' : Int) (o' m' : Nat) (E' : Int), TH T' V' ∧ gI G' R' T' g p' n' C' D' o' m' E' ∧ (v ≠ 0 → D' ≤ C' ∧ pnT T' g p' V' ∧ pnH T' g o' V' ∧ pnQ T' g V' qd) ∧ (∀ c, (c < g ∨ g + 21 < c) → c ≠ p → c ≠ o → c < G.length → T' c = T c) ∧ (∀ c i, (c < g ∨ g + 21 < c) → R' c i = R c i) ∧ (p' = p ∨ G.length ≤ p') ∧ (o' = o ∨ G.length ≤ o') ∧ ∃ ex, G' = G ++ ex ∧ ex.length ≤ 2 ∧ szG ex + 2 * n + 2 * m ≤ 2 * n' + 2 * m'
section
variable {G : List gS} {R V : gV} {T : gT} {g p n o m f b b2 : Nat} {C D E : Int}
theorem copyFrom_k (u : bT G R T b) (uw : bW T b) (w : bT G R T b2) (hb : b ≠ b2) (hb2 : b2 + 2 ≠ b) (rg : R b2 0 = (g : Int)) (k : gT2 G R T g p n C D o m E) (th : TH T V) : cw 1 (fun r G' R' V' => r = none ∧ G' = G ∧ R' = wr R b 0 (g : Int) ∧ TH T V' ∧ V' b 3 = V b2 3 ∧ ∀ i, 0 ≤ i → i < V b2 3 → V' (b + 2) i = V (b2 + 2) i) 18 [(4, (b : Int)), (4, (b2 : Int))] G R V := by
  have l := u.ly
  have l2 := w.ly
  have r1 : ∀ c i, i ≠ 0 → wr R b 0 (g : Int) c i = R c i := fun c i h => wr_i h
  have t1 : TH T (wr V b 3 (V b2 3)) := TH_wr th (by have q := (w.rl _).mp (th b2 3); exact uw.1 _ q.1 q.2)
  have q1 := (u.rl _).mp (t1 b 3)
  have hgb : (g : Nat) ≠ b := fun e => by have h1 := ly2_o k.ly; have h2 := ly1_o l; rw [e, h2] at h1; cases h1
  refine c_X1_copyFrom (t_X1_copyFrom_0 ⟨ly1_o l2, g, rg, ly1_o l, fun _ => ⟨b2 + 2, by rw [r1 _ _ (by omega)]; exact (ly1_2 l2).1, b + 2, by rw [r1 _ _ (by omega)]; exact (ly1_2 l).1, fun _ => ⟨300, (ly1_2 l2).2, 300, (ly1_2 l).2, by omega, ?_⟩⟩⟩)
  refine loop1g (f := fun a => [some (4, (b : Int)), some (4, (b2 : Int)), some (0, a)]) (Inv := fun a V1 => (TH T V1 ∧ V1 b 3 = V b2 3 ∧ ∀ i, 0 ≤ i → i < V b2 3 → V1 (b + 2) i = V (b2 + 2) i) ∧ 0 ≤ a ∧ a ≤ 8) (μ := fun a _ => (8 - a).toNat) (fun a V1 h ih => ?_) 0 _ ⟨⟨TH_cpy t1 uw.2, ?_, fun i i0 i1 => ?_⟩, by omega, by omega⟩
  rotate_left
  · unfold cpy; rw [if_neg (by omega), wr_same]
  · unfold cpy; rw [wr_same, if_pos ⟨rfl, by omega, by omega⟩, wr_a hb2, show 0 + (i - 0) = i by omega]
  obtain ⟨⟨th, f3, f2⟩, h0, h1⟩ := h
  have t2 : TH T (wr V1 (b + 1) a (V1 (b2 + 1) a)) := TH_wr th (u.th _ _)
  have c1 := k.h.a.cl _ (t2 (g + 10) 1)
  have t3 : TH T (cpy (wr V1 (b + 1) a (V1 (b2 + 1) a)) (b2 + 3) (a * 300) (b + 3) (a * 300) (wr V1 (b + 1) a (V1 (b2 + 1) a) (g + 10) 1)) := TH_cpy t2 u.mk'
  have c2 := k.h.a.cl _ (t3 (g + 10) 1)
  refine t_X1_copyFrom_35 ⟨by omega, fun _ => ⟨rfl, rfl, rfl, th, f3, f2⟩, fun _ => ⟨ly1_o l, b + 1, by rw [r1 _ _ (by omega)]; exact (ly1_1 l).1, ly1_o l2, b2 + 1, by rw [r1 _ _ (by omega)]; exact (ly1_1 l2).1, 8, (ly1_1 l2).2, by omega, fun _ => ⟨8, (ly1_1 l).2, by omega, fun _ => ⟨fun _ => ⟨by omega, ih _ _ ⟨⟨t2, by rw [wr_a (by omega)]; exact f3, fun i i0 i1 => by rw [wr_a (by omega)]; exact f2 i i0 i1⟩, by omega, by omega⟩ (by omega)⟩, fun _ => ⟨by omega, b2 + 3, by rw [r1 _ _ (by omega)]; exact (ly1_4 l2).1, b + 3, by rw [r1 _ _ (by omega)]; exact (ly1_4 l).1, g, wr_same _ _ _ _, ly2_o k.ly, g + 10, by rw [r1 _ _ (by omega)]; exact (ly2_1 k.ly).1, ly4_o k.h.a.ly, fun _ => ⟨2400, (ly1_4 l2).2, 2400, (ly1_4 l).2, by omega, b2 + 4, by rw [r1 _ _ (by omega)]; exact (ly1_5 l2).1, b + 4, by rw [r1 _ _ (by omega)]; exact (ly1_5 l).1, fun _ => ⟨2400, (ly1_5 l2).2, 2400, (ly1_5 l).2, by omega, by omega, ih _ _ ⟨⟨TH_cpy t3 u.pt, by unfold cpy; rw [if_neg (by omega), if_neg (by omega), wr_a (by omega)]; exact f3, fun i i0 i1 => by unfold cpy; rw [if_neg (by omega), if_neg (by omega), wr_a (by omega)]; exact f2 i i0 i1⟩, by omega, by omega⟩ (by omega)⟩⟩⟩⟩⟩⟩⟩
end
