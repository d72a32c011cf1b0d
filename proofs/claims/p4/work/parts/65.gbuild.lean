/-! how many numbers a heap holds -/
noncomputable def gsz (s : gS) : Nat := match s with
  | .inl ci => (zkinds ci).length
  | .inr q => q.2
noncomputable def szG (G : List gS) : Nat := (G.map gsz).sum
theorem szG_app (G H : List gS) : szG (G ++ H) = szG G + szG H := by simp [szG]
theorem gR_s {G G' : List gS} {p n p' n' L : Nat} (h : gR G p n G' p' n' L) : ∃ ex, G' = G ++ ex ∧ ex.length ≤ 1 ∧ szG ex + 2 * n ≤ 2 * n' := by
  rcases h with ⟨h1, h2, h3⟩ | ⟨h1, h2, h3, h4⟩
  · exact ⟨[], by rw [h1, List.append_nil], by simp, by rw [h3]; simp [szG]⟩
  · refine ⟨[gA 0 n'], h1, by simp, ?_⟩
    simp [szG, gsz]
    omega
theorem gR_p {G G' : List gS} {p n p' n' L : Nat} (h : gR G p n G' p' n' L) : (p' = p ∨ p' = G.length) ∧ (n ≤ L → n' ≤ L) := by
  rcases h with ⟨h1, h2, h3⟩ | ⟨h1, h2, h3, h4⟩
  · exact ⟨Or.inl h2, fun h => by omega⟩
  · exact ⟨Or.inr h2, fun _ => h4⟩
/-! groups are built -/
def gI (G : List gS) (R : gV) (T : gT) (g p n : Nat) (C D : Int) (o m : Nat) (E : Int) : Prop := (gT2 G R T g p n C D o m E) ∧ (g + 8 < p) ∧ (p < g + 10 ∨ g + 21 < p) ∧ (g + 21 < o) ∧ (p ≠ o) ∧ (n ≤ 28800) ∧ (m ≤ 180000)
theorem gI.u {G : List gS} {R : gV} {T : gT} {g p n : Nat} {C D : Int} {o m : Nat} {E : Int} (h : gI G R T g p n C D o m E) : gT2 G R T g p n C D o m E := h.1
theorem gI.p1 {G : List gS} {R : gV} {T : gT} {g p n : Nat} {C D : Int} {o m : Nat} {E : Int} (h : gI G R T g p n C D o m E) : g + 8 < p := h.2.1
theorem gI.p2 {G : List gS} {R : gV} {T : gT} {g p n : Nat} {C D : Int} {o m : Nat} {E : Int} (h : gI G R T g p n C D o m E) : p < g + 10 ∨ g + 21 < p := h.2.2.1
theorem gI.o1 {G : List gS} {R : gV} {T : gT} {g p n : Nat} {C D : Int} {o m : Nat} {E : Int} (h : gI G R T g p n C D o m E) : g + 21 < o := h.2.2.2.1
theorem gI.po {G : List gS} {R : gV} {T : gT} {g p n : Nat} {C D : Int} {o m : Nat} {E : Int} (h : gI G R T g p n C D o m E) : p ≠ o := h.2.2.2.2.1
theorem gI.n1 {G : List gS} {R : gV} {T : gT} {g p n : Nat} {C D : Int} {o m : Nat} {E : Int} (h : gI G R T g p n C D o m E) : n ≤ 28800 := h.2.2.2.2.2.1
theorem gI.m1 {G : List gS} {R : gV} {T : gT} {g p n : Nat} {C D : Int} {o m : Nat} {E : Int} (h : gI G R T g p n C D o m E) : m ≤ 180000 := h.2.2.2.2.2.2
theorem gI.mk {G : List gS} {R : gV} {T : gT} {g p n : Nat} {C D : Int} {o m : Nat} {E : Int} (h_u : gT2 G R T g p n C D o m E) (h_p1 : g + 8 < p) (h_p2 : p < g + 10 ∨ g + 21 < p) (h_o1 : g + 21 < o) (h_po : p ≠ o) (h_n1 : n ≤ 28800) (h_m1 : m ≤ 180000) : gI G R T g p n C D o m E := ⟨h_u, h_p1, h_p2, h_o1, h_po, h_n1, h_m1⟩
def gbP (G : List gS) (R : gV) (T : gT) (g p n o m : Nat) (v : Int) (G' : List gS) (R' V' : gV) : Prop := ∃ (T' : gT) (p' n' : Nat) (C' D' : Int) (o' m' : Nat) (E' : Int), TH T' V' ∧ gI G' R' T' g p' n' C' D' o' m' E' ∧ (v ≠ 0 → D' ≤ C') ∧ (∀ c, (c < g ∨ g + 21 < c) → c ≠ p → c ≠ o → c < G.length → T' c = T c) ∧ (∀ c i, (c < g ∨ g + 21 < c) → R' c i = R c i) ∧ (p' = p ∨ G.length ≤ p') ∧ (o' = o ∨ G.length ≤ o') ∧ ∃ ex, G' = G ++ ex ∧ ex.length ≤ 2 ∧ szG ex + 2 * n + 2 * m ≤ 2 * n' + 2 * m'
section
variable {G : List gS} {R V : gV} {T : gT} {g p n o m f b b2 : Nat} {C D E : Int}
theorem groupBuild_k (u : gI G R T g p n C D o m E) (w : fT G R T f) (hf : f + 11 < g) (th : TH T V) {a : Int} (ha : 1 ≤ a ∧ a ≤ 8) {q : Nat} (hq : G[q]? = some (gA 0 4)) : cw 6 (fun r G' R' V' => ∃ v : Int, r = some (0, v) ∧ (0 ≤ v ∧ v ≤ 1) ∧ gbP G R T g p n o m v G' R' V') 32 [(4, (g : Int)), (0, a), (4, (q : Int)), (4, (f : Int))] G R V := by
  obtain ⟨u, p1, p2, o1, po, n1, m1⟩ := u
  have lo := (List.getElem?_eq_some_iff.mp u.h.go).1
  have lp := (List.getElem?_eq_some_iff.mp u.t.gp).1
  have ly := (List.getElem?_eq_some_iff.mp (ly4_12 u.h.a.ly).2).1
  refine c_X2_build (t_X2_build_0 ⟨ly2_o u.ly, g + 1, (ly2_0 u.ly).1, ly6_o u.t.ly, ?_⟩)
  refine cw_mono (by omega) (turnsBuild_k u.t th (by omega) ha hq) (fun r G3 R3 V3 h => ?_)
  obtain ⟨v4, e4, hv4, T1, p', n', C', D', th1, t1, hD, hp', fT1, fR1, gr⟩ := h
  obtain ⟨pp, pn⟩ := gR_p gr
  obtain ⟨ex, eG, exl, exs⟩ := gR_s gr
  have hG : gX2 G G3 := by rw [eG]; exact gX2_app
  have h1 : hT G3 R3 T1 (g + 10) o m E := hT_m u.h hG (fun i => fR1 _ _ (Or.inl (by omega))) (fun c z1 z2 => fT1 c (by omega) (by omega) (by omega)) (fT1 o (by omega) (by omega) (by omega))
  have ly1 : lay2 G3 R3 g := lay2_m u.ly hG ⟨fR1 _ _ (Or.inl (by omega)), fR1 _ _ (Or.inl (by omega))⟩ t1.ly h1.a.ly
  have w1 : fT G3 R3 T1 f := fT_m w hG (fun i => fR1 _ _ (Or.inl (by omega))) (fun c z1 z2 => fT1 c (by omega) (by omega) (by omega))
  have g1 : gI G3 R3 T1 g p' n' C' D' o m E := gI.mk (gT2.mk ly1 t1 h1) (by omega) (by omega) o1 (by omega) (pn n1) m1
  have fl : ∀ (V' : gV) (v : Int), TH T1 V' → (v ≠ 0 → D' ≤ C') → gbP G R T g p n o m v G3 R3 V' := fun V' v th' hv => ⟨T1, p', n', C', D', o, m, E, th', g1, hv, fun c z1 z2 z3 z4 => fT1 c (by omega) z2 (by omega), fun c i z => fR1 c i (Or.inl (by omega)), by omega, Or.inl rfl, ex, eG, by omega, by omega⟩
  refine ⟨v4, e4, by omega, fun z => ⟨0, rfl, by omega, fl _ _ th1 (fun q => absurd rfl q)⟩, fun z => ⟨ly2_o ly1, g + 1, (ly2_0 ly1).1, ly3_o w1.ly, ?_⟩⟩
  refine cwI_u (by omega) (find_k w1 t1 (hD z) th1) (fun v10 V9 h9 => ?_)
  obtain ⟨hv10, th9, f9⟩ := h9
  refine ⟨by omega, fun z2 => ⟨g + 10, (ly2_1 ly1).1, ly4_o h1.a.ly, ?_⟩, fun z2 => ⟨0, rfl, by omega, fl _ _ th9 (fun q => absurd rfl q)⟩⟩
  refine cw_mono (by omega) (fill_k h1 w1 t1 (hD z) th9 f9 (by omega) (by omega) hp' (by omega) (by omega) (by omega)) (fun r2 G4 R4 V4 h => ?_)
  obtain ⟨e5, T2, o', m', E', th4, h4, ho', fT2, fR2, gr2⟩ := h
  obtain ⟨pp2, pn2⟩ := gR_p gr2
  obtain ⟨ex2, eG2, exl2, exs2⟩ := gR_s gr2
  have lp' := (List.getElem?_eq_some_iff.mp t1.gp).1
  have l3 : G.length ≤ G3.length := by rw [eG, List.length_append]; omega
  have hG2 : gX2 G3 G4 := by rw [eG2]; exact gX2_app
  have t4 : tT G4 R4 T2 (g + 1) p' n' C' D' := tT_m t1 hG2 (fun i => fR2 _ _ (Or.inl (by omega))) (fun c z1 z2 => fT2 c (by omega) (by omega) (by omega)) (fT2 p' (by omega) (by omega) (by omega))
  have ly4 : lay2 G4 R4 g := lay2_m ly1 hG2 ⟨fR2 _ _ (Or.inl (by omega)), fR2 _ _ (Or.inl (by omega))⟩ t4.ly h4.a.ly
  refine ⟨e5, 1, rfl, by omega, T2, p', n', C', D', o', m', E', th4, gI.mk (gT2.mk ly4 t4 h4) (by omega) (by omega) (by omega) (by omega) (pn n1) (pn2 m1), fun _ => hD z, fun c z1 z2 z3 z4 => ?_, fun c i z1 => ?_, by omega, by omega, ex ++ ex2, by rw [eG2, eG, List.append_assoc], by rw [List.length_append]; omega, by rw [szG_app]; omega⟩
  · rw [fT2 c (by omega) z3 (by omega), fT1 c (by omega) z2 (by omega)]
  · rw [fR2 c i (Or.inl (by omega)), fR1 c i (Or.inl (by omega))]
theorem startWith_k (u : bT G R T b) (th : TH T V) : cw 1 (fun r G' R' V' => r = none ∧ G' = G ∧ R' = wr R b 0 (g : Int) ∧ TH T V') 17 [(4, (b : Int)), (4, (g : Int))] G R V := by
  refine c_X1_startWith (t_X1_startWith_0 ⟨ly1_o u.ly, ?_⟩)
  have t1 : TH T (wr V b 3 0) := TH_wr th ((u.rl _).mpr (by omega))
  refine loop1g (f := fun a => [some (4, (b : Int)), none, some (0, a)]) (Inv := fun a V => TH T V ∧ 0 ≤ a ∧ a ≤ 8) (μ := fun a _ => (8 - a).toNat) (fun a V h ih => ?_) 0 _ ⟨t1, by omega, by omega⟩
  obtain ⟨th, h0, h1⟩ := h
  exact t_X1_startWith_12 ⟨by omega, fun _ => ⟨rfl, rfl, rfl, th⟩, fun _ => ⟨ly1_o u.ly, b + 1, by rw [wr_i (by omega)]; exact (ly1_1 u.ly).1, 8, (ly1_1 u.ly).2, by omega, by omega, ih _ _ ⟨TH_wr th (u.th _ _), by omega, by omega⟩ (by omega)⟩⟩
theorem copyFrom_k (u : bT G R T b) (w : bT G R T b2) (rg : R b2 0 = (g : Int)) (k : gT2 G R T g p n C D o m E) (th : TH T V) : cw 1 (fun r G' R' V' => r = none ∧ G' = G ∧ R' = wr R b 0 (g : Int) ∧ TH T V') 18 [(4, (b : Int)), (4, (b2 : Int))] G R V := by
  have l := u.ly
  have l2 := w.ly
  have r1 : ∀ c i, i ≠ 0 → wr R b 0 (g : Int) c i = R c i := fun c i h => wr_i h
  have t1 : TH T (wr V b 3 (V b2 3)) := TH_wr th ((u.rl _).mpr ((w.rl _).mp (th b2 3)))
  have q1 := (u.rl _).mp (t1 b 3)
  have hgb : (g : Nat) ≠ b := fun e => by have h1 := ly2_o k.ly; have h2 := ly1_o l; rw [e, h2] at h1; cases h1
  refine c_X1_copyFrom (t_X1_copyFrom_0 ⟨ly1_o l2, g, rg, ly1_o l, fun _ => ⟨b2 + 2, by rw [r1 _ _ (by omega)]; exact (ly1_2 l2).1, b + 2, by rw [r1 _ _ (by omega)]; exact (ly1_2 l).1, fun _ => ⟨300, (ly1_2 l2).2, 300, (ly1_2 l).2, by omega, ?_⟩⟩⟩)
  refine loop1g (f := fun a => [some (4, (b : Int)), some (4, (b2 : Int)), some (0, a)]) (Inv := fun a V => TH T V ∧ 0 ≤ a ∧ a ≤ 8) (μ := fun a _ => (8 - a).toNat) (fun a V h ih => ?_) 0 _ ⟨TH_cpy t1 u.rw, by omega, by omega⟩
  obtain ⟨th, h0, h1⟩ := h
  have t2 : TH T (wr V (b + 1) a (V (b2 + 1) a)) := TH_wr th (u.th _ _)
  have c1 := k.h.a.cl _ (t2 (g + 10) 1)
  have t3 : TH T (cpy (wr V (b + 1) a (V (b2 + 1) a)) (b2 + 3) (a * 300) (b + 3) (a * 300) (wr V (b + 1) a (V (b2 + 1) a) (g + 10) 1)) := TH_cpy t2 u.mk'
  have c2 := k.h.a.cl _ (t3 (g + 10) 1)
  refine t_X1_copyFrom_35 ⟨by omega, fun _ => ⟨rfl, rfl, rfl, th⟩, fun _ => ⟨ly1_o l, b + 1, by rw [r1 _ _ (by omega)]; exact (ly1_1 l).1, ly1_o l2, b2 + 1, by rw [r1 _ _ (by omega)]; exact (ly1_1 l2).1, 8, (ly1_1 l2).2, by omega, fun _ => ⟨8, (ly1_1 l).2, by omega, fun _ => ⟨fun _ => ⟨by omega, ih _ _ ⟨t2, by omega, by omega⟩ (by omega)⟩, fun _ => ⟨by omega, b2 + 3, by rw [r1 _ _ (by omega)]; exact (ly1_4 l2).1, b + 3, by rw [r1 _ _ (by omega)]; exact (ly1_4 l).1, g, wr_same _ _ _ _, ly2_o k.ly, g + 10, by rw [r1 _ _ (by omega)]; exact (ly2_1 k.ly).1, ly4_o k.h.a.ly, fun _ => ⟨2400, (ly1_4 l2).2, 2400, (ly1_4 l).2, by omega, b2 + 4, by rw [r1 _ _ (by omega)]; exact (ly1_5 l2).1, b + 4, by rw [r1 _ _ (by omega)]; exact (ly1_5 l).1, fun _ => ⟨2400, (ly1_5 l2).2, 2400, (ly1_5 l).2, by omega, by omega, ih _ _ ⟨TH_cpy t3 u.pt, by omega, by omega⟩ (by omega)⟩⟩⟩⟩⟩⟩⟩
end
