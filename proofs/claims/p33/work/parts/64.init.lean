/-! new objects -/
def nT (T : gT) (A k : Nat) (P : Nat → Int → Int → Prop) : gT := fun c i v => if A ≤ c ∧ c ≤ A + k then P (c - A) i v else T c i v
theorem nT_in {T : gT} {A k : Nat} {P : Nat → Int → Int → Prop} (j : Nat) (h : j ≤ k) : nT T A k P (A + j) = P j := by
  funext i v
  unfold nT
  rw [if_pos (by omega), show A + j - A = j by omega]
theorem nT_0 {T : gT} {A k : Nat} {P : Nat → Int → Int → Prop} : nT T A k P A = P 0 := nT_in 0 (by omega)
theorem nT_o {T : gT} {A k : Nat} {P : Nat → Int → Int → Prop} {c : Nat} (h : c < A ∨ A + k < c) : nT T A k P c = T c := by
  funext i v
  unfold nT
  rw [if_neg (by omega)]
theorem TH_nT {T : gT} {V V' : gV} {A k : Nat} {P : Nat → Int → Int → Prop} (th : TH T V) (ho : ∀ c i, (c < A ∨ A + k < c) → V' c i = V c i) (hi : ∀ j, j ≤ k → ∀ i, P j i (V' (A + j) i)) : TH (nT T A k P) V' := by
  intro c i
  by_cases h : A ≤ c ∧ c ≤ A + k
  · obtain ⟨j, rfl⟩ : ∃ j, c = A + j := ⟨c - A, by omega⟩
    rw [nT_in j (by omega)]
    exact hi j (by omega) i
  · rw [nT_o (by omega), ho c i (by omega)]
    exact th c i
theorem gap {G l : List gS} {A : Nat} (hL : G.length = A + 1) (j : Nat) : (G ++ l)[A + (j + 1)]? = l[j]? := by
  rw [List.getElem?_append_right (by omega)]
  congr 1
  omega
abbrev l6 : List gS := [gA 0 120, gA 0 120, gA 0 120, gA 0 480, gA 0 4, gA 0 120, gA 2 120, gA 0 1]
abbrev l4 : List gS := [gA 1 300, gA 1 300, gA 0 300, gA 0 300, gA 0 120, gA 0 300, gA 0 300, gA 0 300, gA 0 300, gA 0 300, gA 0 300, gA 0 1]
abbrev l3 : List gS := [gA 1 300, gA 1 300, gA 0 300, gA 0 300, gA 0 300, gA 0 300, gA 0 2400, gA 0 120, gA 0 480, gA 0 120, gA 0 120]
abbrev l0 : List gS := [gA 1 300, gA 1 300, gA 1 9]
abbrev l1 : List gS := [gA 2 8, gA 1 300, gA 1 2400, gA 1 2400]
def P6 : Nat → Int → Int → Prop
  | 0, i, v => (i = 0 → v = 1) ∧ (i = 1 → v = 1) ∧ (i = 2 → 0 ≤ v ∧ v ≤ 4)
  | 1, i, v => (i = 0 → v = 342391)
  | 2, _, v => 0 ≤ v ∧ v < 1
  | 3, i, v => (0 ≤ v ∧ v ≤ 121) ∧ (i = 0 → v = 1)
  | 4, _, v => 0 ≤ v ∧ v < 1
  | 6, _, v => 0 ≤ v ∧ v < 1
  | 8, _, v => 0 ≤ v ∧ v < 1
  | _, _, _ => True
def i0 (i v : Int) : Prop := (i = 0 → v = 1) ∧ (i ≠ 0 → v = 0)
def P4 : Nat → Int → Int → Prop
  | 0, i, v => (i = 0 → v = 1) ∧ (i = 1 → v = 1)
  | 1, i, v => i0 i v
  | 2, _, v => v = 0
  | 3, i, v => i0 i v
  | 4, _, v => v = 0
  | 5, _, v => v = 0
  | 6, i, v => (-1 ≤ v ∧ v < 300) ∧ (i = 0 → v = 0)
  | 7, _, v => v = 0
  | 8, i, v => i0 i v
  | 9, i, v => i0 i v
  | 10, i, v => i0 i v
  | 11, _, v => v = 0
  | 12, i, v => i0 i v
  | _, _, _ => True
theorem i0_r {i v : Int} (h : i0 i v) : 0 ≤ v ∧ v ≤ 1 := by
  by_cases q : i = 0
  · have := h.1 q; omega
  · have := h.2 q; omega
def P3 : Nat → Int → Int → Prop
  | 0, i, v => (i = 0 → 0 ≤ v ∧ v ≤ 300) ∧ (i = 5 → 0 ≤ v ∧ v ≤ 300) ∧ (i = 9 → 0 ≤ v ∧ v ≤ 120) ∧ (i = 12 → 0 ≤ v ∧ v ≤ 120) ∧ (i = 17 → 0 ≤ v ∧ v ≤ 14400)
  | 3, _, v => 0 ≤ v ∧ v ≤ 14400
  | 5, _, v => 0 ≤ v ∧ v < 300
  | 6, _, v => 0 ≤ v ∧ v ≤ 8
  | _, _, _ => True
def P1 : Nat → Int → Int → Prop
  | 0, i, v => (i = 3 → v = 0)
  | _, _, _ => True
def P0 : Nat → Int → Int → Prop := fun _ _ _ => True
theorem dT_i {a i v : Int} (h : a = 201 ∨ a = 203 ∨ a = 208 ∨ a = 209 ∨ a = 210 ∨ a = 220 ∨ a = 231) (q : i0 i v) : v = dT0 a i := by
  unfold dT0
  rw [if_neg (by omega), if_neg (by omega)]
  by_cases y : i = 0
  · rw [if_pos ⟨h, y⟩]; exact q.1 y
  · rw [if_neg (fun z => y z.2)]; exact q.2 y
section
variable {G : List gS} {R V : gV} {T : gT} {A g : Nat}
theorem turnsInit_k (hO : G[A]? = some (gO 6)) (hL : G.length = A + 1) (th : TH T V) : cw 1 (fun r G' R' V' => r = none ∧ G' = G ++ l6 ∧ (∀ c i, c ≠ A → R' c i = R c i) ∧ TH (nT T A 8 P6) V' ∧ (∀ c i, c < A → V' c i = V c i) ∧ tT G' R' (nT T A 8 P6) A (A + 8) 1 1 1) 87 [(4, (A : Int))] G R V := by
  refine cw_fr (fun _ fr => ?_)
  have z : ∀ j i, V (A + (j + 1)) i = 0 := fun j i => (fr _ i (by omega)).1
  have q1 : (G ++ l6)[A + (0 + 1)]? = some (gA 0 120) := by rw [gap hL]; rfl
  have q3 : (G ++ l6)[A + (2 + 1)]? = some (gA 0 120) := by rw [gap hL]; rfl
  refine c_X6_init (t_X6_init_0 ⟨hO, t_X6_init_9 ⟨hO, t_X6_init_14 ⟨hO, t_X6_init_19 ⟨?_, t_X6_init_27 ⟨?_, t_X6_init_35 ⟨?_, t_X6_init_43 ⟨?_, t_X6_init_52 ⟨?_, t_X6_init_59 ⟨?_, t_X6_init_67 ⟨?_, t_X6_init_75 ⟨?_, t_X6_init_82 ?_⟩⟩⟩⟩⟩⟩⟩⟩⟩⟩⟩)
  iterate 8 (· repeat' first | exact hO | apply gX2_app)
  simp only [List.append_assoc, List.cons_append, List.nil_append, List.length_append, List.length_cons, List.length_nil, hL]
  refine ⟨gX2_app _ _ hO, A + 1, by simp [wr]; try omega, 120, q1, by omega, A + 3, by simp [wr]; try omega, 120, q3, by omega, trivial, trivial, fun c i h => by simp [wr, h], ?_, fun c i h => ?_, ?_⟩
  · refine TH_nT th (fun c i h => ?_) (fun j hj i => ?_)
    · rw [wr_a (by omega), wr_a (by omega), wr_a (by omega), wr_a (by omega), wr_a (by omega)]
    · match j, hj with
      | 0, _ => simp [P6, wr]; refine ⟨fun h => ?_, fun h => ?_, fun h => ?_⟩ <;> subst h <;> simp
      | 1, _ => simp [P6, wr]; intro h; subst h; simp
      | 2, _ => simp [P6, wr, z 1 i]
      | 3, _ => by_cases hi : i = 0 <;> simp [P6, wr, hi, z 2 i]
      | 4, _ => simp [P6, wr, z 3 i]
      | 5, _ => trivial
      | 6, _ => simp [P6, wr, z 5 i]
      | 7, _ => trivial
      | 8, _ => simp [P6, wr, z 7 i]
      | n + 9, h => omega
  · rw [wr_a (by omega), wr_a (by omega), wr_a (by omega), wr_a (by omega), wr_a (by omega)]
  · refine tT.mk (tA.mk ?_ (by omega) (by omega) ?_ ?_ ?_ ?_ ?_ ?_ ?_) ?_ ?_ (by omega) ?_
    · refine ⟨gX2_app _ _ hO, ⟨?_, q1⟩, ⟨?_, by rw [show A + 2 = A + (1 + 1) from rfl, gap hL]; rfl⟩, ⟨?_, q3⟩, ⟨?_, by rw [show A + 4 = A + (3 + 1) from rfl, gap hL]; rfl⟩, ⟨?_, by rw [show A + 5 = A + (4 + 1) from rfl, gap hL]; rfl⟩, ⟨?_, by rw [show A + 6 = A + (5 + 1) from rfl, gap hL]; rfl⟩, ⟨?_, by rw [show A + 7 = A + (6 + 1) from rfl, gap hL]; rfl⟩⟩ <;> simp [wr] <;> try omega
    · rw [nT_0]; intro v h; have := h.1 rfl; omega
    · rw [nT_0]; intro v h; have := h.2.1 rfl; omega
    · rw [nT_0]; intro v h; exact h.2.2 rfl
    · rw [nT_in 2 (by omega)]; intro i v h; exact h
    · rw [nT_in 3 (by omega)]; intro i v h; exact h.1
    · rw [nT_in 4 (by omega)]; intro i v h; exact h
    · rw [nT_in 6 (by omega)]; intro i v h; exact h
    · simp [wr]; try omega
    · rw [show A + 8 = A + (7 + 1) from rfl, gap hL]; rfl
    · rw [nT_in 8 (by omega)]; intro i v h; exact h
theorem heapsInit_k (hO : G[A]? = some (gO 4)) (hL : G.length = A + 1) (th : TH T V) : cw 1 (fun r G' R' V' => r = none ∧ G' = G ++ l4 ∧ (∀ c i, c ≠ A → R' c i = R c i) ∧ TH (nT T A 12 P4) V' ∧ (∀ c i, c < A → V' c i = V c i) ∧ hT G' R' (nT T A 12 P4) A (A + 12) 1 1) 55 [(4, (A : Int))] G R V := by
  refine cw_fr (fun _ fr => ?_)
  have z : ∀ j i, V (A + (j + 1)) i = 0 := fun j i => (fr _ i (by omega)).1
  have q1 : (G ++ l4)[A + (0 + 1)]? = some (gA 1 300) := by rw [gap hL]; rfl
  have q3 : (G ++ l4)[A + (2 + 1)]? = some (gA 0 300) := by rw [gap hL]; rfl
  have q8 : (G ++ l4)[A + (7 + 1)]? = some (gA 0 300) := by rw [gap hL]; rfl
  have q9 : (G ++ l4)[A + (8 + 1)]? = some (gA 0 300) := by rw [gap hL]; rfl
  have q10 : (G ++ l4)[A + (9 + 1)]? = some (gA 0 300) := by rw [gap hL]; rfl
  have q12 : (G ++ l4)[A + (11 + 1)]? = some (gA 0 1) := by rw [gap hL]; rfl
  refine c_X4_init (t_X4_init_0 ⟨hO, t_X4_init_9 ⟨hO, t_X4_init_14 ⟨?_, t_X4_init_23 ⟨?_, t_X4_init_32 ⟨?_, t_X4_init_41 ⟨?_, t_X4_init_50 ⟨?_, t_X4_init_58 ⟨?_, t_X4_init_67 ⟨?_, t_X4_init_76 ⟨?_, t_X4_init_85 ⟨?_, t_X4_init_94 ⟨?_, t_X4_init_103 ⟨?_, t_X4_init_112 ⟨?_, t_X4_init_119 ?_⟩⟩⟩⟩⟩⟩⟩⟩⟩⟩⟩⟩⟩⟩)
  iterate 12 (· repeat' first | exact hO | apply gX2_app)
  simp only [List.append_assoc, List.cons_append, List.nil_append, List.length_append, List.length_cons, List.length_nil, hL]
  refine ⟨gX2_app _ _ hO, A + 1, by simp [wr]; try omega, 300, q1, by omega, A + 3, by simp [wr]; try omega, 300, q3, by omega, A + 8, by simp [wr]; try omega, 300, q8, by omega, A + 9, by simp [wr]; try omega, 300, q9, by omega, A + 10, by simp [wr]; try omega, 300, q10, by omega, A + 12, by simp [wr]; try omega, 1, q12, by omega, trivial, trivial, fun c i h => by simp [wr, h], ?_, fun c i h => ?_, ?_⟩
  · refine TH_nT th (fun c i h => ?_) (fun j hj i => ?_)
    · rw [wr_a (by omega), wr_a (by omega), wr_a (by omega), wr_a (by omega), wr_a (by omega), wr_a (by omega), wr_a (by omega), wr_a (by omega)]
    · match j, hj with
      | 0, _ => simp [P4, wr]; refine ⟨fun h => ?_, fun h => ?_⟩ <;> subst h <;> simp
      | 1, _ => by_cases hi : i = 0 <;> simp [P4, i0, wr, hi, z 0 i]
      | 2, _ => simp [P4, wr, z 1 i]
      | 3, _ => by_cases hi : i = 0 <;> simp [P4, i0, wr, hi, z 2 i]
      | 4, _ => simp [P4, wr, z 3 i]
      | 5, _ => simp [P4, wr, z 4 i]
      | 6, _ => simp [P4, wr, z 5 i]
      | 7, _ => simp [P4, wr, z 6 i]
      | 8, _ => by_cases hi : i = 0 <;> simp [P4, i0, wr, hi, z 7 i]
      | 9, _ => by_cases hi : i = 0 <;> simp [P4, i0, wr, hi, z 8 i]
      | 10, _ => by_cases hi : i = 0 <;> simp [P4, i0, wr, hi, z 9 i]
      | 11, _ => simp [P4, wr, z 10 i]
      | 12, _ => by_cases hi : i = 0 <;> simp [P4, i0, wr, hi, z 11 i]
      | n + 13, h => omega
  · rw [wr_a (by omega), wr_a (by omega), wr_a (by omega), wr_a (by omega), wr_a (by omega), wr_a (by omega), wr_a (by omega), wr_a (by omega)]
  · refine hT.mk (hA.mk ?_ ?_ ?_ ?_ ?_ ?_ ?_ ?_ ?_ ?_ ?_) ?_ q12 (by omega) (by omega) ?_ ?_
    · refine ⟨gX2_app _ _ hO, ⟨?_, q1⟩, ⟨?_, by rw [show A + 2 = A + (1 + 1) from rfl, gap hL]; rfl⟩, ⟨?_, q3⟩, ⟨?_, by rw [show A + 4 = A + (3 + 1) from rfl, gap hL]; rfl⟩, ⟨?_, by rw [show A + 5 = A + (4 + 1) from rfl, gap hL]; rfl⟩, ⟨?_, by rw [show A + 6 = A + (5 + 1) from rfl, gap hL]; rfl⟩, ⟨?_, by rw [show A + 7 = A + (6 + 1) from rfl, gap hL]; rfl⟩, ⟨?_, q8⟩, ⟨?_, q9⟩, ⟨?_, q10⟩, ⟨?_, by rw [show A + 11 = A + (10 + 1) from rfl, gap hL]; rfl⟩⟩ <;> simp [wr] <;> try omega
    · rw [nT_0]; intro v h; have := h.1 rfl; omega
    · rw [nT_0]; intro v h; have := h.2 rfl; omega
    · rw [nT_in 3 (by omega)]; intro i v h; have := i0_r h; omega
    · rw [nT_in 4 (by omega)]; intro i v h; have h' : v = 0 := h; omega
    · rw [nT_in 5 (by omega)]; intro i v h; have h' : v = 0 := h; omega
    · rw [nT_in 6 (by omega)]; intro i v h; exact h.1
    · rw [nT_in 7 (by omega)]; intro i v h; have h' : v = 0 := h; omega
    · rw [nT_in 8 (by omega)]; intro i v h; have := i0_r h; omega
    · rw [nT_in 10 (by omega)]; intro i v h; have := i0_r h; omega
    · rw [nT_in 11 (by omega)]; intro i v h; have h' : v = 0 := h; omega
    · simp [wr]; try omega
    · rw [nT_0]; intro v h; have := h.2 rfl; omega
    · rw [nT_in 12 (by omega)]; intro i v h; have := i0_r h; omega
theorem finderInit_k (hO : G[A]? = some (gO 3)) (hL : G.length = A + 1) (th : TH T V) : cw 1 (fun r G' R' V' => r = none ∧ G' = G ++ l3 ∧ (∀ c i, c ≠ A → R' c i = R c i) ∧ TH (nT T A 11 P3) V' ∧ (∀ c i, c < A → V' c i = V c i) ∧ fT G' R' (nT T A 11 P3) A) 38 [(4, (A : Int))] G R V := by
  refine cw_fr (fun _ fr => ?_)
  have z : ∀ j i, V (A + (j + 1)) i = 0 := fun j i => (fr _ i (by omega)).1
  refine c_X3_init (t_X3_init_0 ⟨?_, t_X3_init_9 ⟨?_, t_X3_init_18 ⟨?_, t_X3_init_27 ⟨?_, t_X3_init_36 ⟨?_, t_X3_init_45 ⟨?_, t_X3_init_50 ⟨?_, t_X3_init_59 ⟨?_, t_X3_init_68 ⟨?_, t_X3_init_77 ⟨?_, t_X3_init_82 ⟨?_, t_X3_init_90 ⟨?_, t_X3_init_99 ⟨?_, t_X3_init_104 ⟨?_, t_X3_init_112 ⟨?_, t_X3_init_120 ⟨?_, t_X3_init_125 ⟨?_, t_X3_init_130 ⟨?_, t_X3_init_135 ?_⟩⟩⟩⟩⟩⟩⟩⟩⟩⟩⟩⟩⟩⟩⟩⟩⟩⟩)
  iterate 18 (· repeat' first | exact hO | apply gX2_app)
  simp only [List.append_assoc, List.cons_append, List.nil_append, List.length_append, List.length_cons, List.length_nil, hL]
  refine ⟨trivial, trivial, fun c i h => by simp [wr, h], ?_, fun c i h => ?_, ?_⟩
  · refine TH_nT th (fun c i h => ?_) (fun j hj i => ?_)
    · rw [wr_a (by omega), wr_a (by omega), wr_a (by omega), wr_a (by omega), wr_a (by omega), wr_a (by omega), wr_a (by omega)]
    · match j, hj with
      | 0, _ => simp [P3, wr]; refine ⟨fun h => ?_, fun h => ?_, fun h => ?_, fun h => ?_, fun h => ?_⟩ <;> subst h <;> simp
      | 1, _ => trivial
      | 2, _ => trivial
      | 3, _ => simp [P3, wr, z 2 i]
      | 4, _ => trivial
      | 5, _ => simp [P3, wr, z 4 i]
      | 6, _ => simp [P3, wr, z 5 i]
      | 7, _ => trivial
      | 8, _ => trivial
      | 9, _ => trivial
      | 10, _ => trivial
      | 11, _ => trivial
      | n + 12, h => omega
  · rw [wr_a (by omega), wr_a (by omega), wr_a (by omega), wr_a (by omega), wr_a (by omega), wr_a (by omega), wr_a (by omega)]
  · refine fT.mk ?_ ?_ ?_ ?_ ?_ ?_ ?_ ?_ ?_ ?_ ?_ ?_ ?_ ?_ ?_ ?_ ?_ ?_ ?_
    · refine ⟨gX2_app _ _ hO, ⟨?_, by rw [show A + 1 = A + (0 + 1) from rfl, gap hL]; rfl⟩, ⟨?_, by rw [show A + 2 = A + (1 + 1) from rfl, gap hL]; rfl⟩, ⟨?_, by rw [show A + 3 = A + (2 + 1) from rfl, gap hL]; rfl⟩, ⟨?_, by rw [show A + 4 = A + (3 + 1) from rfl, gap hL]; rfl⟩, ⟨?_, by rw [show A + 5 = A + (4 + 1) from rfl, gap hL]; rfl⟩, ⟨?_, by rw [show A + 6 = A + (5 + 1) from rfl, gap hL]; rfl⟩, ⟨?_, by rw [show A + 7 = A + (6 + 1) from rfl, gap hL]; rfl⟩, ⟨?_, by rw [show A + 8 = A + (7 + 1) from rfl, gap hL]; rfl⟩, ⟨?_, by rw [show A + 9 = A + (8 + 1) from rfl, gap hL]; rfl⟩, ⟨?_, by rw [show A + 10 = A + (9 + 1) from rfl, gap hL]; rfl⟩, ⟨?_, by rw [show A + 11 = A + (10 + 1) from rfl, gap hL]; rfl⟩⟩ <;> simp [wr] <;> try omega
    · rw [nT_0]; intro v; simp [P3]
    · rw [nT_0]; intro v; simp [P3]
    · rw [nT_0]; intro v; simp [P3]
    · rw [nT_0]; intro v; simp [P3]
    · rw [nT_0]; intro v; simp [P3]
    · rw [nT_0]; intro v; simp [P3]
    · rw [nT_0]; intro v; simp [P3]
    · rw [nT_in 1 (by omega)]; intro i v; trivial
    · rw [nT_in 2 (by omega)]; intro i v; trivial
    · rw [nT_in 3 (by omega)]; intro i v; rfl
    · rw [nT_in 4 (by omega)]; intro i v; trivial
    · rw [nT_in 5 (by omega)]; intro i v; rfl
    · rw [nT_in 6 (by omega)]; intro i v; rfl
    · rw [nT_in 7 (by omega)]; intro i v; trivial
    · rw [nT_in 8 (by omega)]; intro i v; trivial
    · rw [nT_in 9 (by omega)]; intro i v; trivial
    · rw [nT_in 10 (by omega)]; intro i v; trivial
    · rw [nT_in 11 (by omega)]; intro i v; trivial
theorem makerInit_k (hO : G[A]? = some (gO 0)) (hL : G.length = A + 1) (th : TH T V) : cw 1 (fun r G' R' V' => r = none ∧ G' = G ++ l0 ∧ (∀ c i, c ≠ A → R' c i = R c i) ∧ TH (nT T A 3 P0) V' ∧ V' = V ∧ kT G' R' (nT T A 3 P0) A) 0 [(4, (A : Int))] G R V := by
  refine c_X0_init (t_X0_init_0 ⟨?_, ?_, ?_, ?_⟩)
  iterate 3 (· repeat' first | exact hO | apply gX2_app)
  simp only [List.append_assoc, List.cons_append, List.nil_append, List.length_append, List.length_cons, List.length_nil, hL]
  refine ⟨trivial, trivial, fun c i h => by simp [wr, h], TH_nT th (fun _ _ _ => rfl) (fun _ _ _ => trivial), trivial, ?_⟩
  refine kT.mk ?_ ?_ ?_ ?_
  · refine ⟨gX2_app _ _ hO, ⟨?_, by rw [show A + 1 = A + (0 + 1) from rfl, gap hL]; rfl⟩, ⟨?_, by rw [show A + 2 = A + (1 + 1) from rfl, gap hL]; rfl⟩, ⟨?_, by rw [show A + 3 = A + (2 + 1) from rfl, gap hL]; rfl⟩⟩ <;> simp [wr] <;> try omega
  · rw [nT_in 1 (by omega)]; intro i v; trivial
  · rw [nT_in 2 (by omega)]; intro i v; trivial
  · rw [nT_in 3 (by omega)]; intro i v; trivial
theorem benchInit_k (hO : G[A]? = some (gO 1)) (hL : G.length = A + 1) (th : TH T V) : cw 1 (fun r G' R' V' => r = none ∧ G' = G ++ l1 ∧ (∀ c i, c ≠ A → R' c i = R c i) ∧ R' A 0 = (g : Int) ∧ TH (nT T A 4 P1) V' ∧ (∀ c i, c ≠ A → V' c i = V c i) ∧ bT G' R' (nT T A 4 P1) A) 16 [(4, (A : Int)), (4, (g : Int))] G R V := by
  refine c_X1_init (t_X1_init_0 ⟨?_, ?_, ?_, ?_, ?_⟩)
  iterate 4 (· repeat' first | exact hO | apply gX2_app)
  simp only [List.append_assoc, List.cons_append, List.nil_append, List.length_append, List.length_cons, List.length_nil, hL]
  refine ⟨trivial, trivial, fun c i h => by simp [wr, h], wr_same _ _ _ _, ?_, fun c i h => wr_a h, ?_⟩
  · refine TH_nT th (fun c i h => wr_a (by omega)) (fun j hj i => ?_)
    match j, hj with
    | 0, _ => show i = 3 → wr V A 3 0 (A + 0) i = 0; intro h; rw [h]; exact wr_same _ _ _ _
    | n + 1, _ => trivial
  · refine bT.mk ?_ ?_ ?_ ?_ ?_
    · refine ⟨gX2_app _ _ hO, ⟨?_, by rw [show A + 1 = A + (0 + 1) from rfl, gap hL]; rfl⟩, ⟨?_, by rw [show A + 2 = A + (1 + 1) from rfl, gap hL]; rfl⟩, ⟨?_, by rw [show A + 3 = A + (2 + 1) from rfl, gap hL]; rfl⟩, ⟨?_, by rw [show A + 4 = A + (3 + 1) from rfl, gap hL]; rfl⟩⟩ <;> simp [wr] <;> try omega
    · rw [nT_0]; intro v h; have h2 : v = 0 := h rfl; omega
    · rw [nT_in 1 (by omega)]; intro i v; trivial
    · rw [nT_in 3 (by omega)]; intro i v; trivial
    · rw [nT_in 4 (by omega)]; intro i v; trivial
abbrev lg : List gS := gO 6 :: (l6 ++ gO 4 :: l4)
theorem groupInit_k (hO : G[A]? = some (gO 2)) (hL : G.length = A + 1) (th : TH T V) : cw 2 (fun r G' R' V' => r = none ∧ G' = G ++ lg ∧ (∀ c i, (c < A ∨ A + 22 < c) → R' c i = R c i) ∧ TH (nT (nT T (A + 1) 8 P6) (A + 10) 12 P4) V' ∧ (∀ c i, c < A → V' c i = V c i) ∧ gT2 G' R' (nT (nT T (A + 1) 8 P6) (A + 10) 12 P4) A (A + 9) 1 1 1 (A + 22) 1 1 ∧ lkT (nT (nT T (A + 1) 8 P6) (A + 10) 12 P4) R' A dT0) 31 [(4, (A : Int))] G R V := by
  refine c_X2_init (t_X2_init_0 ?_)
  rw [hL]
  have h1 : (G ++ [gO 6])[A + 1]? = some (gO 6) := by rw [gap hL 0]; rfl
  refine cw_mono (Nat.le_refl _) (turnsInit_k h1 (by rw [List.length_append, hL]; rfl) th) (fun r G1 R1 V1 h => ?_)
  obtain ⟨e1, eG, hR, th1, hV, t⟩ := h
  have hL1 : G1.length = A + 10 := by rw [eG, List.length_append, List.length_append, hL]; rfl
  have hO1 : G1[A]? = some (gO 2) := by rw [eG]; exact gX2_app _ _ (gX2_app _ _ hO)
  refine ⟨e1, hO1, ?_⟩
  rw [hL1]
  have h2 : (G1 ++ [gO 4])[A + 10]? = some (gO 4) := by rw [List.getElem?_append_right (by omega), hL1, Nat.sub_self]; rfl
  refine cw_mono (Nat.le_refl _) (heapsInit_k h2 (by rw [List.length_append, hL1]; rfl) th1) (fun r2 G2 R2 V2 h => ?_)
  obtain ⟨e2, eG2, hR2, th2, hV2, u⟩ := h
  have hO2 : G2[A]? = some (gO 2) := by rw [eG2]; exact gX2_app _ _ (gX2_app _ _ hO1)
  have x1 : gX2 G1 G2 := by rw [eG2]; exact gX2_t gX2_app gX2_app
  have t2 : tT G2 (wr R2 A 1 ((A + 10 : Nat) : Int)) (nT (nT T (A + 1) 8 P6) (A + 10) 12 P4) (A + 1) (A + 9) 1 1 1 := tT_m t x1 (fun i => by rw [wr_a (by omega), hR2 _ _ (by omega), wr_a (by omega)]) (fun c q1 q2 => nT_o (by omega)) (nT_o (by omega))
  have u2 : hT G2 (wr R2 A 1 ((A + 10 : Nat) : Int)) (nT (nT T (A + 1) 8 P6) (A + 10) 12 P4) (A + 10) (A + 22) 1 1 := hT_m u gX2_refl (fun i => wr_a (by omega)) (fun c q1 q2 => rfl) rfl
  refine ⟨e2, hO2, rfl, ?_, fun c i q => ?_, th2, fun c i q => ?_, gT2.mk ⟨hO2, ⟨?_, t2.ly⟩, wr_same _ _ _ _, u2.a.ly⟩ t2 u2, ?_⟩
  · rw [eG2, eG]; simp
  · rw [wr_a (by omega), hR2 _ _ (by omega), wr_a (by omega), hR _ _ (by omega)]
  · rw [hV2 _ _ (by omega), hV _ _ (by omega)]
  · rw [wr_i (by omega), hR2 _ _ (by omega), wr_same]
  · have n1 : ∀ j, j ≤ 8 → nT (nT T (A + 1) 8 P6) (A + 10) 12 P4 (A + 1 + j) = P6 j := fun j hj => by rw [nT_o (by omega), nT_in j hj]
    have n2 : ∀ j, j ≤ 12 → nT (nT T (A + 1) 8 P6) (A + 10) 12 P4 (A + 10 + j) = P4 j := fun j hj => nT_in j hj
    have d1 : dT0 0 1 = 1 := rfl
    refine ⟨fun v h => ?_, fun v h => ?_, fun k v k0 k1 h => ?_, fun p' e s t v s0 s1 t0 t1 h => ?_, fun k v k0 k1 h => ?_, fun k v k0 k1 h => ?_, fun v h => ?_, fun v h => ?_, fun j j1 j2 j3 i v h => ?_, fun o e i v h => ?_, fun i i0 i1 => ?_⟩
    · rw [show A + 1 = A + 1 + 0 from rfl, n1 0 (by omega)] at h; exact h.1 rfl
    · rw [show A + 1 = A + 1 + 0 from rfl, n1 0 (by omega)] at h; exact h.2.1 rfl
    · have k2 : k = 0 := by omega
      rw [show A + 2 = A + 1 + 1 from rfl, n1 1 (by omega), k2] at h
      rw [k2]; exact h rfl
    · have ep : p' = A + 1 + 8 := by
        have := t2.rp
        omega
      rw [ep, n1 8 (by omega)] at h
      have h' : 0 ≤ v ∧ v < 1 := h
      rw [dT_z (by omega) (by omega) (by omega)]
      omega
    · rw [show A + 3 = A + 1 + 2 from rfl, n1 2 (by omega)] at h
      have h' : 0 ≤ v ∧ v < 1 := h
      rw [dT_z (by omega) (by omega) (by omega)]
      omega
    · have k2 : k = 0 := by omega
      rw [show A + 4 = A + 1 + 3 from rfl, n1 3 (by omega)] at h
      rw [k2]; exact h.2 k2
    · rw [show A + 10 = A + 10 + 0 from rfl, n2 0 (by omega)] at h; exact h.1 rfl
    · rw [show A + 10 = A + 10 + 0 from rfl, n2 0 (by omega)] at h; exact h.2 rfl
    · rw [n2 j (by omega)] at h
      match j, j2, j3 with
      | 0, _, _ => omega
      | 1, _, _ => exact dT_i (by omega) h
      | 2, _, _ => have h' : v = 0 := h; rw [h', dT_z (by omega) (by omega) (by omega)]
      | 3, _, _ => exact dT_i (by omega) h
      | 4, _, _ => have h' : v = 0 := h; rw [h', dT_z (by omega) (by omega) (by omega)]
      | 5, _, _ => have h' : v = 0 := h; rw [h', dT_z (by omega) (by omega) (by omega)]
      | 6, _, q => exact absurd rfl q
      | 7, _, _ => have h' : v = 0 := h; rw [h', dT_z (by omega) (by omega) (by omega)]
      | 8, _, _ => exact dT_i (by omega) h
      | 9, _, _ => exact dT_i (by omega) h
      | 10, _, _ => exact dT_i (by omega) h
      | 11, _, _ => have h' : v = 0 := h; rw [h', dT_z (by omega) (by omega) (by omega)]
      | n + 12, q, _ => omega
    · have ep : o = A + 10 + 12 := by
        have := u2.ro
        omega
      rw [ep, n2 12 (by omega)] at h
      exact dT_i (by omega) h
    · have e0 : i = 0 := by
        have d2 : dT0 0 2 = 1 := rfl
        omega
      have z : dT0 206 i = 0 := dT_z (by omega) (by omega) (by omega)
      rw [show A + 16 = A + 10 + 6 from rfl, n2 6 (by omega), z]
      refine ⟨⟨by omega, fun _ => rfl⟩, fun v h => Or.inr (h.2 e0)⟩
end
