/-! layouts are kept where nothing of theirs changes -/
def gX2 (G G' : List gS) : Prop := ∀ (c : Nat) (s : gS), G[c]? = some s → G'[c]? = some s
theorem gX2_app {G ex : List gS} : gX2 G (G ++ ex) := fun c s h => by rw [List.getElem?_append_left (List.getElem?_eq_some_iff.mp h).1]; exact h
theorem gX2_refl {G : List gS} : gX2 G G := fun _ _ h => h
theorem gX2_t {G G1 G2 : List gS} (a : gX2 G G1) (b : gX2 G1 G2) : gX2 G G2 := fun c s h => b c s (a c s h)
theorem lay0_m {G G' : List gS} {R R' : gV} {A : Nat} (h : lay0 G R A) (hG : gX2 G G') (e : R' A 0 = R A 0 ∧ R' A 1 = R A 1 ∧ R' A 2 = R A 2) : lay0 G' R' A := ⟨hG _ _ (ly0_o h), ⟨(e.1).trans (ly0_0 h).1, hG _ _ (ly0_0 h).2⟩, ⟨(e.2.1).trans (ly0_1 h).1, hG _ _ (ly0_1 h).2⟩, ⟨(e.2.2).trans (ly0_2 h).1, hG _ _ (ly0_2 h).2⟩⟩
theorem lay5_m {G G' : List gS} {R R' : gV} {A : Nat} (h : lay5 G R A) (hG : gX2 G G') (e : R' A 0 = R A 0) : lay5 G' R' A := ⟨hG _ _ (ly5_o h), ⟨(e).trans (ly5_0 h).1, hG _ _ (ly5_0 h).2⟩⟩
theorem lay3_m {G G' : List gS} {R R' : gV} {A : Nat} (h : lay3 G R A) (hG : gX2 G G') (e : R' A 1 = R A 1 ∧ R' A 2 = R A 2 ∧ R' A 3 = R A 3 ∧ R' A 4 = R A 4 ∧ R' A 6 = R A 6 ∧ R' A 7 = R A 7 ∧ R' A 8 = R A 8 ∧ R' A 10 = R A 10 ∧ R' A 11 = R A 11 ∧ R' A 13 = R A 13 ∧ R' A 14 = R A 14) : lay3 G' R' A := ⟨hG _ _ (ly3_o h), ⟨(e.1).trans (ly3_1 h).1, hG _ _ (ly3_1 h).2⟩, ⟨(e.2.1).trans (ly3_2 h).1, hG _ _ (ly3_2 h).2⟩, ⟨(e.2.2.1).trans (ly3_3 h).1, hG _ _ (ly3_3 h).2⟩, ⟨(e.2.2.2.1).trans (ly3_4 h).1, hG _ _ (ly3_4 h).2⟩, ⟨(e.2.2.2.2.1).trans (ly3_6 h).1, hG _ _ (ly3_6 h).2⟩, ⟨(e.2.2.2.2.2.1).trans (ly3_7 h).1, hG _ _ (ly3_7 h).2⟩, ⟨(e.2.2.2.2.2.2.1).trans (ly3_8 h).1, hG _ _ (ly3_8 h).2⟩, ⟨(e.2.2.2.2.2.2.2.1).trans (ly3_10 h).1, hG _ _ (ly3_10 h).2⟩, ⟨(e.2.2.2.2.2.2.2.2.1).trans (ly3_11 h).1, hG _ _ (ly3_11 h).2⟩, ⟨(e.2.2.2.2.2.2.2.2.2.1).trans (ly3_13 h).1, hG _ _ (ly3_13 h).2⟩, ⟨(e.2.2.2.2.2.2.2.2.2.2).trans (ly3_14 h).1, hG _ _ (ly3_14 h).2⟩⟩
theorem lay6_m {G G' : List gS} {R R' : gV} {A : Nat} (h : lay6 G R A) (hG : gX2 G G') (e : R' A 3 = R A 3 ∧ R' A 4 = R A 4 ∧ R' A 5 = R A 5 ∧ R' A 6 = R A 6 ∧ R' A 7 = R A 7 ∧ R' A 8 = R A 8 ∧ R' A 9 = R A 9) : lay6 G' R' A := ⟨hG _ _ (ly6_o h), ⟨(e.1).trans (ly6_3 h).1, hG _ _ (ly6_3 h).2⟩, ⟨(e.2.1).trans (ly6_4 h).1, hG _ _ (ly6_4 h).2⟩, ⟨(e.2.2.1).trans (ly6_5 h).1, hG _ _ (ly6_5 h).2⟩, ⟨(e.2.2.2.1).trans (ly6_6 h).1, hG _ _ (ly6_6 h).2⟩, ⟨(e.2.2.2.2.1).trans (ly6_7 h).1, hG _ _ (ly6_7 h).2⟩, ⟨(e.2.2.2.2.2.1).trans (ly6_8 h).1, hG _ _ (ly6_8 h).2⟩, ⟨(e.2.2.2.2.2.2).trans (ly6_9 h).1, hG _ _ (ly6_9 h).2⟩⟩
theorem lay4_m {G G' : List gS} {R R' : gV} {A : Nat} (h : lay4 G R A) (hG : gX2 G G') (e : R' A 2 = R A 2 ∧ R' A 3 = R A 3 ∧ R' A 4 = R A 4 ∧ R' A 5 = R A 5 ∧ R' A 6 = R A 6 ∧ R' A 7 = R A 7 ∧ R' A 8 = R A 8 ∧ R' A 9 = R A 9 ∧ R' A 10 = R A 10 ∧ R' A 11 = R A 11 ∧ R' A 12 = R A 12) : lay4 G' R' A := ⟨hG _ _ (ly4_o h), ⟨(e.1).trans (ly4_2 h).1, hG _ _ (ly4_2 h).2⟩, ⟨(e.2.1).trans (ly4_3 h).1, hG _ _ (ly4_3 h).2⟩, ⟨(e.2.2.1).trans (ly4_4 h).1, hG _ _ (ly4_4 h).2⟩, ⟨(e.2.2.2.1).trans (ly4_5 h).1, hG _ _ (ly4_5 h).2⟩, ⟨(e.2.2.2.2.1).trans (ly4_6 h).1, hG _ _ (ly4_6 h).2⟩, ⟨(e.2.2.2.2.2.1).trans (ly4_7 h).1, hG _ _ (ly4_7 h).2⟩, ⟨(e.2.2.2.2.2.2.1).trans (ly4_8 h).1, hG _ _ (ly4_8 h).2⟩, ⟨(e.2.2.2.2.2.2.2.1).trans (ly4_9 h).1, hG _ _ (ly4_9 h).2⟩, ⟨(e.2.2.2.2.2.2.2.2.1).trans (ly4_10 h).1, hG _ _ (ly4_10 h).2⟩, ⟨(e.2.2.2.2.2.2.2.2.2.1).trans (ly4_11 h).1, hG _ _ (ly4_11 h).2⟩, ⟨(e.2.2.2.2.2.2.2.2.2.2).trans (ly4_12 h).1, hG _ _ (ly4_12 h).2⟩⟩
theorem lay2_m {G G' : List gS} {R R' : gV} {A : Nat} (h : lay2 G R A) (hG : gX2 G G') (e : R' A 0 = R A 0 ∧ R' A 1 = R A 1) (h1 : lay6 G' R' (A + 1)) (h10 : lay4 G' R' (A + 10)) : lay2 G' R' A := ⟨hG _ _ (ly2_o h), ⟨(e.1).trans (ly2_0 h).1, h1⟩, ⟨(e.2).trans (ly2_1 h).1, h10⟩⟩
theorem lay1_m {G G' : List gS} {R R' : gV} {A : Nat} (h : lay1 G R A) (hG : gX2 G G') (e : R' A 1 = R A 1 ∧ R' A 2 = R A 2 ∧ R' A 4 = R A 4 ∧ R' A 5 = R A 5) : lay1 G' R' A := ⟨hG _ _ (ly1_o h), ⟨(e.1).trans (ly1_1 h).1, hG _ _ (ly1_1 h).2⟩, ⟨(e.2.1).trans (ly1_2 h).1, hG _ _ (ly1_2 h).2⟩, ⟨(e.2.2.1).trans (ly1_4 h).1, hG _ _ (ly1_4 h).2⟩, ⟨(e.2.2.2).trans (ly1_5 h).1, hG _ _ (ly1_5 h).2⟩⟩
theorem lay7_m {G G' : List gS} {R R' : gV} {A : Nat} (h : lay7 G R A) (hG : gX2 G G') (e : R' A 0 = R A 0 ∧ R' A 1 = R A 1 ∧ R' A 2 = R A 2 ∧ R' A 3 = R A 3 ∧ R' A 4 = R A 4 ∧ R' A 5 = R A 5) (h3 : lay3 G' R' (A + 3)) (h15 : lay0 G' R' (A + 15)) : lay7 G' R' A := ⟨hG _ _ (ly7_o h), ⟨(e.1).trans (ly7_0 h).1, hG _ _ (ly7_0 h).2⟩, ⟨(e.2.1).trans (ly7_1 h).1, hG _ _ (ly7_1 h).2⟩, ⟨(e.2.2.1).trans (ly7_2 h).1, h3⟩, ⟨(e.2.2.2.1).trans (ly7_3 h).1, h15⟩, ⟨(e.2.2.2.2.1).trans (ly7_4 h).1, hG _ _ (ly7_4 h).2⟩, ⟨(e.2.2.2.2.2).trans (ly7_5 h).1, hG _ _ (ly7_5 h).2⟩⟩
def upT (T : gT) (c : Nat) (P : Int → Prop) : gT := fun c' i v => if c' = c then P v else T c' i v
def upF (T : gT) (c : Nat) (k : Int) (P : Int → Prop) : gT := fun c' i v => if c' = c ∧ i = k then P v else T c' i v
theorem upT_s {T : gT} {c : Nat} {P : Int → Prop} {i v : Int} : upT T c P c i v ↔ P v := by unfold upT; rw [if_pos rfl]
theorem upT_n {T : gT} {c c' : Nat} {P : Int → Prop} (h : c' ≠ c) : upT T c P c' = T c' := by funext i v; unfold upT; rw [if_neg h]
theorem upF_s {T : gT} {c : Nat} {k : Int} {P : Int → Prop} {v : Int} : upF T c k P c k v ↔ P v := by unfold upF; rw [if_pos ⟨rfl, rfl⟩]
theorem upF_i {T : gT} {c : Nat} {k i : Int} {P : Int → Prop} (h : i ≠ k) : upF T c k P c i = T c i := by funext v; unfold upF; rw [if_neg (fun q => h q.2)]
theorem upF_n {T : gT} {c c' : Nat} {k : Int} {P : Int → Prop} (h : c' ≠ c) : upF T c k P c' = T c' := by funext i v; unfold upF; rw [if_neg (fun q => h q.1)]
theorem TH_upT {T : gT} {V : gV} {c : Nat} {P : Int → Prop} (h : TH T V) (w : ∀ i, P (V c i)) : TH (upT T c P) V := by
  intro c' i
  unfold upT
  split
  · rename_i q; rw [q]; exact w i
  · exact h c' i
theorem TH_upF {T : gT} {V : gV} {c : Nat} {k : Int} {P : Int → Prop} (h : TH T V) (w : P (V c k)) : TH (upF T c k P) V := by
  intro c' i
  unfold upF
  split
  · rename_i q; rw [q.1, q.2]; exact w
  · exact h c' i
section
variable {G : List gS} {R V : gV} {T : gT} {x p n : Nat} {C D : Int}
theorem roomFor_k {q l : Nat} (hq : G[q]? = some (gA 0 l)) {a : Int} (ha : 0 ≤ a ∧ a ≤ 100000) : cw 1 (fun r G' R' V' => ∃ v : Nat, r = some (4, (v : Int)) ∧ R' = R ∧ V' = V ∧ ((G' = G ∧ v = q ∧ a ≤ l) ∨ ∃ l' : Nat, G' = G ++ [gA 0 l'] ∧ v = G.length ∧ (l : Int) < a ∧ a ≤ l' ∧ 2 * l ≤ l' ∧ (l' : Int) ≤ 2 * a)) 158 [(4, (q : Int)), (0, a)] G R V := by
  refine c_X7_roomFor (t_X7_roomFor_0 ⟨l, hq, by omega, fun h => ⟨by omega, ?_, _, rfl, rfl, rfl, Or.inr ⟨_, rfl, rfl, h, ?_⟩⟩, fun h => ⟨_, rfl, rfl, rfl, Or.inl ⟨rfl, rfl, by omega⟩⟩⟩)
  · split <;> omega
  · split <;> omega
theorem fillProducts_k (t : tA G R T x C D) (hD : D ≤ C) {N : Int} (hN : ∀ v, T x 1 v → v = N) (th : TH T V) (rp : R x 10 = (p : Int)) (gp : G[p]? = some (gA 0 n)) (hp : p < x ∨ x + 7 < p) (tp : ∀ i v, T p i v ↔ 0 ≤ v ∧ v < C) (c1 : N * N ≤ n → C * C ≤ n) (c2 : (n : Int) < N * N → C = N) : cw 2 (fun r G' R' V' => r = none ∧ ∃ p' n' : Nat, R' = wr R x 10 (p' : Int) ∧ TH (upT T p' (fun v => 0 ≤ v ∧ v < C)) V' ∧ tT G' R' (upT T p' (fun v => 0 ≤ v ∧ v < C)) x p' n' C D ∧ ((G' = G ∧ p' = p ∧ n' = n) ∨ (G' = G ++ [gA 0 n'] ∧ p' = G.length ∧ 2 * n ≤ n' ∧ n' ≤ 28800))) 99 [(4, (x : Int))] G R V := by
  refine cw_fr (fun _ fr => ?_)
  have ct := t.ct _ (th x 1)
  have hN1 := hN _ (th x 1)
  have d0 := t.d0
  have c0 := t.c0
  have sq : 0 ≤ N * N ∧ N * N ≤ 120 * 120 := ⟨Int.mul_nonneg (by omega) (by omega), Int.mul_le_mul (by omega) (by omega) (by omega) (by omega)⟩
  refine c_X6_fillProducts (t_X6_fillProducts_0 ⟨ly6_o t.ly, p, rp, fun _ => ?_⟩)
  rw [hN1]
  refine ⟨by omega, ?_⟩
  refine cw_mono (by omega) (roomFor_k gp (by omega)) (fun r G1 R1 V1 h => ?_)
  obtain ⟨p', e1, eR, eV, h⟩ := h
  subst eR eV
  have lx := (List.getElem?_eq_some_iff.mp (ly6_o t.ly)).1
  have l7 := (List.getElem?_eq_some_iff.mp (ly6_9 t.ly).2).1
  have hG : gX2 G G1 := by
    rcases h with h | ⟨l', h, _⟩
    · rw [h.1]; exact gX2_refl
    · rw [h]; exact gX2_app
  have hp' : p' < x ∨ x + 7 < p' := by
    rcases h with h | ⟨l', h⟩
    · omega
    · omega
  obtain ⟨n', gp', cn', dj⟩ : ∃ n' : Nat, G1[p']? = some (gA 0 n') ∧ C * C ≤ n' ∧ ((G1 = G ∧ p' = p ∧ n' = n) ∨ (G1 = G ++ [gA 0 n'] ∧ p' = G.length ∧ 2 * n ≤ n' ∧ n' ≤ 28800)) := by
    rcases h with h | ⟨l', h⟩
    · exact ⟨n, by rw [h.1, h.2.1]; exact gp, c1 h.2.2, Or.inl ⟨h.1, h.2.1, rfl⟩⟩
    · refine ⟨l', ?_, ?_, Or.inr ⟨h.1, h.2.1, by omega, by omega⟩⟩
      · rw [h.1, h.2.1, List.getElem?_append_right (Nat.le_refl _), Nat.sub_self]; rfl
      · rw [c2 h.2.2.1]; omega
  have th' : TH (upT T p' (fun v => 0 ≤ v ∧ v < C)) V1 := by
    refine TH_upT th (fun i => ?_)
    rcases h with h | ⟨l', h⟩
    · rw [h.2.1]; exact (tp _ _).mp (th p i)
    · rw [h.2.1, (fr _ i (Nat.le_refl _)).1]; omega
  have tc : ∀ j, x ≤ j → j ≤ x + 7 → upT T p' (fun v => 0 ≤ v ∧ v < C) j = T j := fun j h1 h2 => upT_n (by omega)
  have r8 : (wr R1 x 10 (p' : Int)) x 3 = R1 x 3 ∧ (wr R1 x 10 (p' : Int)) x 4 = R1 x 4 ∧ (wr R1 x 10 (p' : Int)) x 5 = R1 x 5 ∧ (wr R1 x 10 (p' : Int)) x 6 = R1 x 6 ∧ (wr R1 x 10 (p' : Int)) x 7 = R1 x 7 ∧ (wr R1 x 10 (p' : Int)) x 8 = R1 x 8 ∧ (wr R1 x 10 (p' : Int)) x 9 = R1 x 9 := ⟨wr_i (by omega), wr_i (by omega), wr_i (by omega), wr_i (by omega), wr_i (by omega), wr_i (by omega), wr_i (by omega)⟩
  have t' : tT G1 (wr R1 x 10 (p' : Int)) (upT T p' (fun v => 0 ≤ v ∧ v < C)) x p' n' C D := by
    refine tT.mk (tA.mk (lay6_m t.ly hG r8) t.c0 t.d0 ?_ ?_ ?_ ?_ ?_ ?_ ?_ ?_ ?_ ?_) (wr_same _ _ _ _) gp' cn' (fun i v => upT_s)
    · rw [tc x (by omega) (by omega)]; exact t.pl
    · rw [tc x (by omega) (by omega)]; exact t.ct
    · rw [tc x (by omega) (by omega)]; exact t.mm
    · rw [tc (x + 1) (by omega) (by omega)]; exact t.co
    · rw [tc (x + 2) (by omega) (by omega)]; exact t.iv
    · rw [tc (x + 3) (by omega) (by omega)]; exact t.od
    · rw [tc (x + 4) (by omega) (by omega)]; exact t.st
    · rw [tc (x + 5) (by omega) (by omega)]; exact t.mc
    · rw [tc (x + 6) (by omega) (by omega)]; exact t.re
    · rw [tc (x + 7) (by omega) (by omega)]; exact t.ir
  refine ⟨p', e1, hG _ _ (ly6_o t.ly), ?_⟩
  refine wp_mono (Q := fun r G' R' V' => G' = G1 ∧ R' = wr R1 x 10 (p' : Int) ∧ (r = none ∧ TH (upT T p' (fun v => 0 ≤ v ∧ v < C)) V')) (fun r G2 R2 V2 h2 => ⟨h2.2.2.1, p', n', h2.2.1, h2.2.2.2, by rw [h2.1, h2.2.1]; exact t', by rw [h2.1]; exact dj⟩) ?_
  clear th hN1 ct fr
  generalize upT T p' (fun v => 0 ≤ v ∧ v < C) = T' at *
  have hN' : ∀ v, T' x 1 v → v = N := by rw [tc x (by omega) (by omega)]; exact hN
  refine loop1 (f := fun a => [some (4, (x : Int)), some (0, a)]) (Inv := fun a V => TH T' V ∧ 0 ≤ a ∧ a ≤ 120) (μ := fun a _ => (120 - a).toNat) (fun a V h ih => ?_) 0 _ ⟨th', by omega, by omega⟩
  obtain ⟨th, h0, h1⟩ := h
  have ct := t'.ct _ (th x 1)
  have l := t'.ly
  refine t_X6_fillProducts_22 ⟨ly6_o l, fun _ => ⟨by omega, fun _ => ⟨x + 6, (ly6_8 l).1, 120, (ly6_8 l).2, by omega, ?_⟩, fun ha => ⟨x + 7, (ly6_9 l).1, fun _ => ⟨120, (ly6_9 l).2, by omega, p', t'.rp, fun _ => ?_⟩, fun _ => ⟨120, (ly6_9 l).2, by omega, p', t'.rp, fun _ => ?_⟩⟩⟩⟩
  · refine loop2 (f := fun k i => [some (4, (x : Int)), some (0, k), some (0, i)]) (Inv := fun k i V => TH T' V ∧ (0 ≤ k ∧ k ≤ 120) ∧ 0 ≤ i ∧ i ≤ 120) (μ := fun _ i _ => (120 - i).toNat) (fun k i V2 hi ih2 => ?_) 1 0 _ ⟨TH_wr th ((t'.re _ _).mpr (by omega)), by omega, by omega⟩
    obtain ⟨th, h2, h3⟩ := hi
    refine t_X6_fillProducts_74 ⟨by omega, by omega, fun _ => ⟨rfl, rfl, rfl, th⟩, fun _ => ⟨fun _ => ⟨rfl, rfl, rfl, th⟩, fun _ => ?_⟩⟩
    refine loop2 (f := fun k j => [some (4, (x : Int)), some (0, k), some (0, i), some (0, j)]) (Inv := fun k j V => TH T' V ∧ (0 ≤ k ∧ k ≤ 120) ∧ 0 ≤ j ∧ j ≤ 4) (μ := fun _ j _ => (4 - j).toNat) (fun k j V3 hj ih3 => ?_) k 0 V2 ⟨th, h2, by omega⟩
    obtain ⟨th, h4, h5⟩ := hj
    have mm := (t'.mm _).mp (th x 2)
    have rr := (t'.re _ _).mp (th (x + 6) i)
    have ss := (t'.st _ _).mp (th (x + 4) (j * 120 + V3 (x + 6) i))
    refine t_X6_fillProducts_87 ⟨ly6_o l, fun _ => ⟨by omega, fun _ => ⟨by omega, ih2 _ _ _ ⟨th, h4, by omega⟩ (by omega)⟩, fun _ => ⟨x + 4, (ly6_6 l).1, by omega, x + 6, (ly6_8 l).1, 120, (ly6_8 l).2, by omega, fun _ => ⟨by omega, 480, (ly6_6 l).2, by omega, fun _ => ⟨x + 7, (ly6_9 l).1, 120, (ly6_9 l).2, by omega, fun _ => ⟨fun _ => ⟨by omega, ih3 _ _ _ ⟨th, h4, by omega⟩ (by omega)⟩, fun _ => ⟨by omega, fun _ => ⟨by omega, ih3 _ _ _ ⟨th, h4, by omega⟩ (by omega)⟩, fun _ => ⟨by omega, by omega, fun _ => ?_⟩⟩⟩⟩⟩⟩⟩⟩
    have t3 : TH T' (wr (wr V3 (x + 7) (V3 (x + 4) (j * 120 + V3 (x + 6) i)) 1) (x + 6) k (V3 (x + 4) (j * 120 + V3 (x + 6) i))) := TH_wr (TH_wr th (t'.ir _ _)) ((t'.re _ _).mpr ss)
    have r3 := (t'.re _ _).mp (t3 (x + 6) i)
    refine w0_u (fillProductsBy_k t' hD t3 ss r3 (by omega)) (fun V4 h6 => ⟨by omega, ih3 _ _ _ ⟨h6, by omega, by omega⟩ (by omega)⟩)
  · have e1 : (wr V (x + 7) a 0) x 1 = V x 1 := wr_a (by omega)
    have q := idxp (n := n') (a := a) (C := C) (N := V x 1) (b := 0) (by omega) (by omega) (by omega) c0.2 cn'
    rw [e1]
    exact ⟨by omega, n', gp', by omega, by omega, ih _ _ ⟨TH_wr (TH_wr th (t'.ir _ _)) ((t'.pr _ _).mpr (by omega)), by omega, by omega⟩ (by omega)⟩
  · have e1 : (wr V (x + 7) a 1) x 1 = V x 1 := wr_a (by omega)
    have q := idxp (n := n') (a := a) (C := C) (N := V x 1) (b := 0) (by omega) (by omega) (by omega) c0.2 cn'
    rw [e1]
    exact ⟨by omega, n', gp', by omega, by omega, ih _ _ ⟨TH_wr (TH_wr th (t'.ir _ _)) ((t'.pr _ _).mpr (by omega)), by omega, by omega⟩ (by omega)⟩
end
