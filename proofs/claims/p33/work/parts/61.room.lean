/-! layouts are kept where nothing of theirs changes -/
def gX2 (G G' : List gS) : Prop := ∀ (c : Nat) (s : gS), G[c]? = some s → G'[c]? = some s
theorem gX2_app {G ex : List gS} : gX2 G (G ++ ex) := fun c s h => by rw [List.getElem?_append_left (List.getElem?_eq_some_iff.mp h).1]; exact h
theorem gX2_refl {G : List gS} : gX2 G G := fun _ _ h => h
theorem gX2_t {G G1 G2 : List gS} (a : gX2 G G1) (b : gX2 G1 G2) : gX2 G G2 := fun c s h => b c s (a c s h)
theorem lay0_m {G G' : List gS} {R R' : gV} {A : Nat} (h : lay0 G R A) (hG : gX2 G G') (e : R' A 0 = R A 0 ∧ R' A 1 = R A 1 ∧ R' A 2 = R A 2) : lay0 G' R' A := ⟨hG _ _ (ly0_o h), ⟨(e.1).trans (ly0_0 h).1, hG _ _ (ly0_0 h).2⟩, ⟨(e.2.1).trans (ly0_1 h).1, hG _ _ (ly0_1 h).2⟩, ⟨(e.2.2).trans (ly0_2 h).1, hG _ _ (ly0_2 h).2⟩⟩
theorem lay5_m {G G' : List gS} {R R' : gV} {A : Nat} (h : lay5 G R A) (hG : gX2 G G') (e : R' A 0 = R A 0) : lay5 G' R' A := ⟨hG _ _ (ly5_o h), ⟨(e).trans (ly5_0 h).1, hG _ _ (ly5_0 h).2⟩⟩
theorem lay3_m {G G' : List gS} {R R' : gV} {A : Nat} (h : lay3 G R A) (hG : gX2 G G') (e : R' A 1 = R A 1 ∧ R' A 2 = R A 2 ∧ R' A 3 = R A 3 ∧ R' A 4 = R A 4 ∧ R' A 6 = R A 6 ∧ R' A 7 = R A 7 ∧ R' A 8 = R A 8 ∧ R' A 10 = R A 10 ∧ R' A 11 = R A 11 ∧ R' A 13 = R A 13 ∧ R' A 14 = R A 14) : lay3 G' R' A := ⟨hG _ _ (ly3_o h), ⟨(e.1).trans (ly3_1 h).1, hG _ _ (ly3_1 h).2⟩, ⟨(e.2.1).trans (ly3_2 h).1, hG _ _ (ly3_2 h).2⟩, ⟨(e.2.2.1).trans (ly3_3 h).1, hG _ _ (ly3_3 h).2⟩, ⟨(e.2.2.2.1).trans (ly3_4 h).1, hG _ _ (ly3_4 h).2⟩, ⟨(e.2.2.2.2.1).trans (ly3_6 h).1, hG _ _ (ly3_6 h).2⟩, ⟨(e.2.2.2.2.2.1).trans (ly3_7 h).1, hG _ _ (ly3_7 h).2⟩, ⟨(e.2.2.2.2.2.2.1).trans (ly3_8 h).1, hG _ _ (ly3_8 h).2⟩, ⟨(e.2.2.2.2.2.2.2.1).trans (ly3_10 h).1, hG _ _ (ly3_10 h).2⟩, ⟨(e.2.2.2.2.2.2.2.2.1).trans (ly3_11 h).1, hG _ _ (ly3_11 h).2⟩, ⟨(e.2.2.2.2.2.2.2.2.2.1).trans (ly3_13 h).1, hG _ _ (ly3_13 h).2⟩, ⟨(e.2.2.2.2.2.2.2.2.2.2).trans (ly3_14 h).1, hG _ _ (ly3_14 h).2⟩⟩
theorem lay6_m {G G' : List gS} {R R' : gV} {A : Nat} (h : lay6 G R A) (hG : gX2 G G') (e : R' A 3 = R A 3 ∧ R' A 4 = R A 4 ∧ R' A 5 = R A 5 ∧ R' A 6 = R A 6 ∧ R' A 7 = R A 7 ∧ R' A 8 = R A 8 ∧ R' A 9 = R A 9) : lay6 G' R' A := ⟨hG _ _ (ly6_o h), ⟨(e.1).trans (ly6_3 h).1, hG _ _ (ly6_3 h).2⟩, ⟨(e.2.1).trans (ly6_4 h).1, hG _ _ (ly6_4 h).2⟩, ⟨(e.2.2.1).trans (ly6_5 h).1, hG _ _ (ly6_5 h).2⟩, ⟨(e.2.2.2.1).trans (ly6_6 h).1, hG _ _ (ly6_6 h).2⟩, ⟨(e.2.2.2.2.1).trans (ly6_7 h).1, hG _ _ (ly6_7 h).2⟩, ⟨(e.2.2.2.2.2.1).trans (ly6_8 h).1, hG _ _ (ly6_8 h).2⟩, ⟨(e.2.2.2.2.2.2).trans (ly6_9 h).1, hG _ _ (ly6_9 h).2⟩⟩
theorem lay4_m {G G' : List gS} {R R' : gV} {A : Nat} (h : lay4 G R A) (hG : gX2 G G') (e : R' A 2 = R A 2 ∧ R' A 3 = R A 3 ∧ R' A 4 = R A 4 ∧ R' A 5 = R A 5 ∧ R' A 6 = R A 6 ∧ R' A 7 = R A 7 ∧ R' A 8 = R A 8 ∧ R' A 9 = R A 9 ∧ R' A 10 = R A 10 ∧ R' A 11 = R A 11 ∧ R' A 12 = R A 12) : lay4 G' R' A := ⟨hG _ _ (ly4_o h), ⟨(e.1).trans (ly4_2 h).1, hG _ _ (ly4_2 h).2⟩, ⟨(e.2.1).trans (ly4_3 h).1, hG _ _ (ly4_3 h).2⟩, ⟨(e.2.2.1).trans (ly4_4 h).1, hG _ _ (ly4_4 h).2⟩, ⟨(e.2.2.2.1).trans (ly4_5 h).1, hG _ _ (ly4_5 h).2⟩, ⟨(e.2.2.2.2.1).trans (ly4_6 h).1, hG _ _ (ly4_6 h).2⟩, ⟨(e.2.2.2.2.2.1).trans (ly4_7 h).1, hG _ _ (ly4_7 h).2⟩, ⟨(e.2.2.2.2.2.2.1).trans (ly4_8 h).1, hG _ _ (ly4_8 h).2⟩, ⟨(e.2.2.2.2.2.2.2.1).trans (ly4_9 h).1, hG _ _ (ly4_9 h).2⟩, ⟨(e.2.2.2.2.2.2.2.2.1).trans (ly4_10 h).1, hG _ _ (ly4_10 h).2⟩, ⟨(e.2.2.2.2.2.2.2.2.2.1).trans (ly4_11 h).1, hG _ _ (ly4_11 h).2⟩, ⟨(e.2.2.2.2.2.2.2.2.2.2).trans (ly4_12 h).1, hG _ _ (ly4_12 h).2⟩⟩
theorem lay2_m {G G' : List gS} {R R' : gV} {A : Nat} (h : lay2 G R A) (hG : gX2 G G') (e : R' A 0 = R A 0 ∧ R' A 1 = R A 1) (h1 : lay6 G' R' (A + 1)) (h10 : lay4 G' R' (A + 10)) : lay2 G' R' A := ⟨hG _ _ (ly2_o h), ⟨(e.1).trans (ly2_0 h).1, h1⟩, ⟨(e.2).trans (ly2_1 h).1, h10⟩⟩
theorem lay1_m {G G' : List gS} {R R' : gV} {A : Nat} (h : lay1 G R A) (hG : gX2 G G') (e : R' A 1 = R A 1 ∧ R' A 2 = R A 2 ∧ R' A 4 = R A 4 ∧ R' A 5 = R A 5) : lay1 G' R' A := ⟨hG _ _ (ly1_o h), ⟨(e.1).trans (ly1_1 h).1, hG _ _ (ly1_1 h).2⟩, ⟨(e.2.1).trans (ly1_2 h).1, hG _ _ (ly1_2 h).2⟩, ⟨(e.2.2.1).trans (ly1_4 h).1, hG _ _ (ly1_4 h).2⟩, ⟨(e.2.2.2).trans (ly1_5 h).1, hG _ _ (ly1_5 h).2⟩⟩
theorem lay7_m {G G' : List gS} {R R' : gV} {A : Nat} (h : lay7 G R A) (hG : gX2 G G') (e : R' A 0 = R A 0 ∧ R' A 1 = R A 1 ∧ R' A 2 = R A 2 ∧ R' A 3 = R A 3 ∧ R' A 4 = R A 4 ∧ R' A 5 = R A 5) (h3 : lay3 G' R' (A + 3)) (h15 : lay0 G' R' (A + 15)) : lay7 G' R' A := ⟨hG _ _ (ly7_o h), ⟨(e.1).trans (ly7_0 h).1, hG _ _ (ly7_0 h).2⟩, ⟨(e.2.1).trans (ly7_1 h).1, hG _ _ (ly7_1 h).2⟩, ⟨(e.2.2.1).trans (ly7_2 h).1, h3⟩, ⟨(e.2.2.2.1).trans (ly7_3 h).1, h15⟩, ⟨(e.2.2.2.2.1).trans (ly7_4 h).1, hG _ _ (ly7_4 h).2⟩, ⟨(e.2.2.2.2.2).trans (ly7_5 h).1, hG _ _ (ly7_5 h).2⟩⟩
def upT (T : gT) (c : Nat) (P : Int → Prop) : gT := fun c' i v => if c' = c then P v else T c' i v
def upF (T : gT) (c : Nat) (k : Int) (P : Int → Prop) : gT := fun c' i v => if c' = c ∧ i = k then P v else T c' i v
theorem upT_s {T : gT} {c : Nat} {P : Int → Prop} {i v : Int} : upT T c P c i v ↔ P v := by unfold upT; rw [if_pos rfl]
theorem upT_n {T : gT} {c c' : Nat} {P : Int → Prop} (h : c' ≠ c) : upT T c P c' = T c' := by funext i v; unfold upT; rw [if_neg h]
theorem upF_s {T : gT} {c : Nat} {k : Int} {P : Int → Prop} {v : Int} : upF T c k P c k v ↔ P v := by unfold upF; rw [if_pos ⟨rfl, rfl⟩]
theorem upF_i {T : gT} {c : Nat} {k i : Int} {P : Int → Prop} (h : i ≠ k) : upF T c k P c i = T c i := by funext v; unfold upF; rw [if_neg (fun q => h q.2)]
theorem upF_n {T : gT} {c c' : Nat} {k : Int} {P : Int → Prop} (h : c' ≠ c) : upF T c k P c' = T c' := by funext i v; unfold upF; rw [if_neg (fun q => h q.1)]
theorem TH_upT {T : gT} {V : gV} {c : Nat} {P : Int → Prop} (h : TH T V) (w : ∀ i, P (V c i)) : TH (upT T c P) V := by
  intro c' i
  unfold upT
  split
  · rename_i q; rw [q]; exact w i
  · exact h c' i
theorem TH_upF {T : gT} {V : gV} {c : Nat} {k : Int} {P : Int → Prop} (h : TH T V) (w : P (V c k)) : TH (upF T c k P) V := by
  intro c' i
  unfold upF
  split
  · rename_i q; rw [q.1, q.2]; exact w
  · exact h c' i
section
variable {G : List gS} {R V : gV} {T : gT} {x p n : Nat} {C D : Int}
theorem roomFor_k {q l : Nat} (hq : G[q]? = some (gA 0 l)) {a : Int} (ha : 0 ≤ a ∧ a ≤ 100000) : cw 1 (fun r G' R' V' => ∃ v : Nat, r = some (4, (v : Int)) ∧ R' = R ∧ V' = V ∧ ((G' = G ∧ v = q ∧ a ≤ l) ∨ ∃ l' : Nat, G' = G ++ [gA 0 l'] ∧ v = G.length ∧ (l : Int) < a ∧ a ≤ l' ∧ 2 * l ≤ l' ∧ (l' : Int) ≤ 2 * a)) 158 [(4, (q : Int)), (0, a)] G R V := by
  refine c_X7_roomFor (t_X7_roomFor_0 ⟨l, hq, by omega, fun h => ⟨by omega, ?_, _, rfl, rfl, rfl, Or.inr ⟨_, rfl, rfl, h, ?_⟩⟩, fun h => ⟨_, rfl, rfl, rfl, Or.inl ⟨rfl, rfl, by omega⟩⟩⟩)
  · split <;> omega
  · split <;> omega
end
